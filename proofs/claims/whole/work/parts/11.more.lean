set_option maxHeartbeats 1000000 in
theorem call_of_goF {d : Nat} {M : zM} {n0 nE : Nat} {as : List Value} {w : Mm} {Q : Option Value → Mm → Prop} (hn : n0 ≤ nE) (hp : plainFor M.1 = true) (hla : (lg_sl as).length ≤ M.2.2.1) (h : Go d M n0 nE n0 0 (lv_args 0 as) [] w Q) : Call d M n0 nE as w Q := by
  refine ⟨hn, fun l g => ?_⟩
  refine va_MetF (cc := M.2.1) (maxL := M.2.2.1) (ret := M.2.2.2) hp rfl ?_
  intro p e s m args below meth c s₁ B hml hv
  obtain ⟨rfl, hK, hP⟩ := hv
  have hx := B.exec
  have hb := B.bytes
  have hr := B.returns
  have hts := atoms_spec (ws := zws M) B.pre
  have hown : s.vm.findClass M.1.cls = some m.cls := findClass_of_methodNamed B.named
  have hlocks := B.notSynchronized
  have hin : meth.name = M.1.name := (name_of_methodNamed B.named B.method).1
  have hl := lv_entry (as.map (zv g)) (n := M.2.2.1) (by rw [lg_sl_map]; exact hla)
  rw [lg_entry_eq]
  generalize (lg_sl (as.map (zv g)) ++ List.replicate (M.2.2.1 - (lg_sl (as.map (zv g))).length) Slot.unset).toArray = ls at hl ⊢
  have hG := h p l e (headSpec (zws M) (zrm d n0 nE)).room s m (as.map (zv g)).toArray below meth c g (MQ below (zQc g nE Q) (as.map (zv g)).toArray s (nE - n0) (zs nE - zs n0) (zA g))
    ⟨hx, hb, hml, hown, fun w hw => hts w (List.mem_cons_of_mem _ hw), hK, ⟨Nat.le_refl _, Nat.le_refl _, Nat.le_refl _, Nat.le_refl _, hn⟩, fun q => hin.trans q, by rw [hP.1]; omega⟩ ?_ s.heap [] ls hP va_S.rf (by rw [← lv_args_map]; exact hl)
  · rw [Nat.sub_self, Nat.sub_self] at hG
    exact hG
  · intro r w' H locs ls pc hP' hS hQ hR
    match r, hR with
    | none, hR => exact W.vret hx hb (hr.trans hR.1) (fun t ht _ => ⟨⟨none, w', rfl, hQ, by rw [ht]; exact hP'⟩, hS.F ht⟩) hS.2.2 hR.2
    | some (.int x), hR =>
      obtain ⟨h1, ty, h2, h3⟩ := hR
      exact W.zret hx hb (hr.trans h2) h3 (fun t ht _ => ⟨⟨some (.int x), w', rfl, hQ, by rw [ht]; exact hP'⟩, hS.F ht⟩) hS.2.2 h1
    | some (.long x), hR => exact W.lret hx hb (hr.trans hR.2) (fun t ht _ => ⟨⟨some (.long x), w', rfl, hQ, by rw [ht]; exact hP'⟩, hS.F ht⟩) hS.2.2 hR.1
    | some (.ref a), hR =>
      obtain ⟨h1, C, h2⟩ := hR
      exact W.aret hx hb (hr.trans h2) (Or.inl ⟨C, rfl⟩) (Or.inr ⟨_, rfl⟩) (fun t ht _ => ⟨⟨some (.ref a), w', rfl, hQ, by rw [ht]; exact hP'⟩, hS.F ht⟩) hS.2.2 h1
theorem cp_goF {d : Nat} {M : zM} {as : List Value} {v : Vv} {Q : Option Value → Vv → Prop} (hla : (lg_sl as).length ≤ M.2.2.1) (hp : plainFor M.1 = true) (h : Gp d M 0 (lv_args 0 as) [] v Q) : Cp d M as v Q := call_of_goF (Nat.le_refl _) hp hla h
theorem g_ldcw {d : Nat} {M : zM} {n0 nE n pc q : Nat} {L : List (Nat × Value)} {S : List Value} {w : Mm} {Q : Option Value → Mm → Prop} {a : Nat} {v : Int32} (hd : zd M pc (.ldc_w a) 3 q) (hc : Cond.constant M.1.cls a v ∈ zT) (k : Go d M n0 nE n q L (.int v :: S) w Q) : Go d M n0 nE n pc L S w Q := by
  obtain ⟨hd, rfl⟩ := hd
  intro p l e R s m args below meth c g Z hC hE H locs ls hP hS hl
  obtain ⟨hx, hb, -⟩ := id hC
  exact lv_ldcw hx hb hC.2.2.2.1 (hC.2.2.2.2.1 _ hc) hd (k p l e R s m args below meth c g Z hC hE H locs ls hP hS hl)
def sstr (x : Nat) : List Int32 :=
  if x = 100010 then [99, 108, 111, 99, 107]
  else if x = 100011 then [119, 104, 111]
  else if x = 100012 then [114, 111, 111, 109]
  else if x = 100013 then [111, 102, 102]
  else if x = 100014 then [100, 111, 110, 101]
  else if x = 100015 then [114, 111, 111, 109, 115]
  else if x = 100016 then [99, 97, 109, 101]
  else if x = 100017 then [97, 100, 100, 115]
  else if x = 100018 then [109, 105, 110, 100, 115]
  else if x = 100019 then [111, 114]
  else if x = 100020 then [97, 110, 100]
  else if x = 100021 then [110, 111, 116]
  else []
def slen (x : Nat) : Nat := (sstr x).length
def schr (x k : Nat) : Int32 := (sstr x).getD k 0
def isStr (x : Nat) : Prop := x ∈ [100010, 100011, 100012, 100013, 100014, 100015, 100016, 100017, 100018, 100019, 100020, 100021]
section STR
variable {d : Nat} {M : zM} {pc q idx : Nat} {L : List (Nat × Value)} {S : List Value} {v : Vv} {Q : Option Value → Vv → Prop}
theorem p_ldcS (j : Nat) (hd : zd M pc (.ldc (94 + 2 * j)) 2 q) (hM : M.1.cls = "PutOn$Reader" ∧ j < 12) (kk : Gp d M q L (.ref (100010 + j) :: S) v Q) : Gp d M pc L S v Q := by
  sorry
theorem p_strlen {x : Nat} (hd : zd M pc (.invokevirtual idx) 3 q) (hx : isStr x) (hM : M.1.cls = "PutOn$Reader" ∧ 10 ≤ d) (kk : Gp d M q L (.int (Int32.ofNat (slen x)) :: S) v Q) : Gp d M pc L (.ref x :: S) v Q := by
  sorry
theorem p_charAt {x : Nat} {i : Int32} (hd : zd M pc (.invokevirtual idx) 3 q) (hx : isStr x) (hi : ib i (slen x)) (hM : M.1.cls = "PutOn$Reader" ∧ 10 ≤ d) (kk : Gp d M q L (.int (schr x (ix i)) :: S) v Q) : Gp d M pc L (.int i :: .ref x :: S) v Q := by
  sorry
end STR
