-- calls
theorem zT_good : GoodIn zT zT := fun w hw => ⟨hw, good_of_word (List.mem_filter.mp hw).2⟩
def zm (M : zM) (k : Nat) : Prop := Cond.initialized M.1.cls ∈ zT ∧ Cond.code M.1 M.2.1 M.2.2.1 M.2.2.2 ∈ zT ∧ M.2.2.1 ≤ 26 ∧ (M.1.cls ≠ "java/lang/invoke/MethodHandle" ∧ M.1.cls ≠ "java/lang/invoke/VarHandle") ∧ (parseMethodDescriptor M.1.desc).map (fun d => d.parameters.length) = some k
theorem zws_good {M : zM} {k : Nat} (h : zm M k) : GoodIn zT (zws M) := fun w hw => (List.mem_cons.mp hw).elim (fun e => by rw [e]; exact zT_good _ h.2.1) (fun h => zT_good w h)
theorem zs_mono {a b : Nat} (h : a ≤ b) : zs a ≤ zs b := by
  unfold zs
  obtain ⟨c, rfl⟩ := Nat.exists_eq_add_of_le h
  rw [List.take_add, List.map_append, List.sum_append]
  exact Nat.le_add_right _ _
theorem zK.same {g : zG} {u U : State} (hv : u.vm = U.vm) (h : zK g u) : zK g U := by
  obtain ⟨h1, h2, h3, h4, h5⟩ := h
  have hA : u.vm.Alike U.vm := by rw [hv]; exact Vm.Alike.refl _
  refine ⟨va_K.moved hA h1, fun ty ht => ⟨arrOfT_moved hA (h2 ty ht).1, (h2 ty ht).2.moved hA⟩, fun w hw hz => ?_, fun C hC => va_AO.moved hA (h4 C hC), zII.moved hA h5⟩
  have h6 := h3 w hw hz
  cases w <;> first | exact va_Nw.same rfl hv h6 | (simp [zNest] at hz)
theorem zX.same {g : zG} {u U : State} {H : Heap} (hv : u.vm = U.vm) (h : zX g u H) : zX g U H := by
  have hA : u.vm.Alike U.vm := by rw [hv]; exact Vm.Alike.refl _
  exact ⟨fun j hj => ⟨va_Z.moved hA (h.1 j hj).1, va_T.moved hA (h.1 j hj).2⟩, h.2.1.moved hA, fun j hj => vk_R.same hv.symm (h.2.2.1 j hj), va_Z.moved hA h.2.2.2.1, h.2.2.2.2.imp (va_Z.moved hA) (va_Z.moved hA)⟩
theorem zPc_blind (g : zG) (n0 : Nat) (as : List Value) (w : Mm) : FrameBlind (zPc g n0 as w) := fun a U g0 mk h => ⟨h.1, ⟨zK.same (u := U) rfl h.2.1.1, zX.same (u := U) rfl h.2.1.2⟩, h.2.2⟩
section CALLS
variable {d d' : Nat} {M M' : zM} {n0 nE n n' pc q k idx : Nat} {L : List (Nat × Value)} {S rest As : List Value} {w : Mm} {Q : Option Value → Mm → Prop}
theorem z_back {p : Program} {l : Launch} {e : Env} {R : Room} {s : State} {m : MethodId} {args : Array Value} {below : List Frame} {meth : Method} {c : Code} {g : zG} {Z : State → Prop} {H : Heap} {locs : List Loc} {ls : Array Slot} {av : Array Value} {st0 : List Value}
    (hC : zC d M n0 nE p R s m args meth c g) (hE : zE M n0 nE g p l e R s m args below meth c Z Q) (hS : va_S (zA g) s.heap H locs) (hl : lv_has ls M.2.2.1 (L.map (zl g))) (h0n : n0 ≤ n) (hnn : n ≤ n')
    (hr : va_Run p l e R s m args below meth c H locs (n - n0) (zs n - zs n0) (n' - n) (zs n' - zs n) (F0 m pc ls st0) (rest.map (zv g)) (zQc g n' (fun r w' => Go d M n0 nE n' (pc + 3) L (r.toList ++ rest) w' Q) av) (zA g)) :
    W p l e R s m args below meth c H locs (n - n0) (zs n - zs n0) Z (F0 m pc ls st0) := by
  intro T hT X
  obtain ⟨v, st₀, t, T', L1, h0, X', hL, e1, e2, ⟨⟨r, w', hv, hQ, hP'⟩, hz, hk⟩, st⟩ := hr T hT X
  obtain rfl : v = r.map (zv g) := by injection hv
  rw [h0] at hz hk
  have hW := hQ p l e R s m args below meth c g Z hC hE T'.heap (locs ++ L1) ls (by rw [e1]; exact hP')
    ⟨Nat.le_trans hS.1 (by rw [e1]; exact hz), fun q h1 h2 => by rw [e1, hk q (Nat.lt_of_lt_of_le h1 hS.1) h2]; exact hS.2.1 q h1 h2, fun q hq => by
      rcases List.mem_append.mp hq with h | h
      · exact hS.2.2 q h
      · exact hL q h⟩ hl
  have a1 : n - n0 + (n' - n) = n' - n0 := by omega
  have a2 : zs n - zs n0 + (zs n' - zs n) = zs n' - zs n0 := by
    have := zs_mono h0n
    have := zs_mono hnn
    omega
  rw [a1, a2] at X'
  obtain ⟨t2, b1, b2⟩ := hW T' rfl X'
  refine ⟨t2, st t2 ?_, b2⟩
  have e3 : ((r.toList ++ rest).map (zv g)) = (r.map (zv g)).toList ++ rest.map (zv g) := by
    cases r <;> rfl
  rw [e3] at b1
  exact b1
theorem z_room {R : Room} (hR : d ≤ R.frames ∧ 45 * d ≤ R.locals ∧ nE - n0 ≤ R.cells ∧ zs nE - zs n0 ≤ R.slots ∧ n0 ≤ nE) (hd' : d' + 1 ≤ d) {x : Nat} (hx : x ≤ 26) : d' + 1 ≤ R.frames ∧ 8 + (x + 11) + 45 * d' ≤ R.locals := by
  omega
theorem z_fit {R : Room} (hR : d ≤ R.frames ∧ 45 * d ≤ R.locals ∧ nE - n0 ≤ R.cells ∧ zs nE - zs n0 ≤ R.slots ∧ n0 ≤ nE) (h0n : n0 ≤ n) (hnn : n ≤ n') (hn' : n' ≤ nE) : n - n0 + (n' - n) ≤ R.cells ∧ zs n - zs n0 + (zs n' - zs n) ≤ R.slots := by
  have := zs_mono h0n
  have := zs_mono hnn
  have := zs_mono hn'
  omega
def zlV (own : String) (idx : Nat) (M : zM) : Prop := Cond.methodLink own idx M.1 ∈ zT ∧ Cond.instanceMethod M.1 ∈ zT ∧ Cond.selects M.1.cls M.1 M.1 ∈ zT
def zlS (own : String) (idx : Nat) (M : zM) : Prop := Cond.methodLink own idx M.1 ∈ zT ∧ Cond.static M.1 ∈ zT
def zlI (own : String) (idx : Nat) (M : zM) : Prop := Cond.methodLink own idx M.1 ∈ zT ∧ Cond.instanceMethod M.1 ∈ zT ∧ M.1.name = "<init>" ∧ M.2.2.2 = none
def zlSN (own : String) (idx : Nat) (M : zM) : Prop := ∃ host, Cond.methodLinkNest own idx M.1 host ∈ lw_tbl ∧ Cond.static M.1 ∈ zT
def zlIN (own : String) (idx : Nat) (M : zM) : Prop := ∃ host, Cond.methodLinkNest own idx M.1 host ∈ lw_tbl ∧ Cond.instanceMethod M.1 ∈ zT ∧ M.1.name = "<init>" ∧ M.2.2.2 = none
theorem z_map_stack (g : zG) (As rest : List Value) (b : Nat) : (As.reverse ++ .ref b :: rest).map (zv g) = (As.map (zv g)).reverse ++ .ref (ad g b) :: rest.map (zv g) := by
  rw [List.map_append, List.map_reverse]
  rfl
theorem z_cats (g : zG) (rest : List Value) : ((rest.map (zv g)).map fun v => v.category).sum = (rest.map fun v => v.category).sum := by
  rw [List.map_map]
  congr 1
  exact List.map_congr_left (fun v _ => zv_cat g v)
theorem g_callV {b ci : Nat} {r : vw_C} (hd : zd M pc (.invokevirtual idx) 3 q) (hm : zm M' k) (hv : zlV M.1.cls idx M') (hs : SH[b]? = some (.inl ci)) (hb : b < n) (hr : zcl[ci]? = some r) (hrc : r.1 = M'.1.cls) (hS0 : S = As.reverse ++ .ref b :: rest) (hk : As.length = k) (hcat : (rest.map fun v => v.category).sum ≤ 8) (hd' : d' + 1 ≤ d) (h0n : n0 ≤ n) (hn' : n' ≤ nE)
    (kk : Call d' M' n n' (.ref b :: As) w (fun r w' => Go d M n0 nE n' q L (r.toList ++ rest) w' Q)) : Go d M n0 nE n pc L S w Q := by
  obtain ⟨hd, rfl⟩ := hd
  subst hS0
  intro p l e R s m args below meth c g Z hC hE H locs ls hP hS hl
  obtain ⟨hnn, hM⟩ := kk
  have hC0 := hC
  obtain ⟨hx, hbd, hml, hown, hts, ⟨hK, hX⟩, hR, -, hbase⟩ := hC
  obtain ⟨r', hr', cellV, g1, g2, g3, -⟩ := hP.obj hb hs
  obtain rfl : r = r' := Option.some.inj (hr.symm.trans hr')
  have hcls := (hK.1.1 ci r hr).2
  obtain ⟨hm1, hm2, hm3, hm4, hm5⟩ := hm
  refine z_back (rest := rest) (av := (Value.ref (ad g b) :: As.map (zv g)).toArray) hC0 hE hS hl h0n hnn ?_
  rw [z_map_stack]
  refine va_runV (As := As.map (zv g)) (b := ad g b) ⟨hx, hbd, hml, hown, hts⟩ (hM l g) (C := M'.1.cls) (bytes := M'.2.1) (maxL := M'.2.2.1) (ret := M'.2.2.2) (n := k)
    ⟨⟨rfl, rfl, (z_room hR hd' hm3).1, (z_room hR hd' hm3).2, pay_in hts (zws_good ⟨hm1, hm2, hm3, hm4, hm5⟩), List.mem_cons_self, hts _ hm2, hts _ hm1, hm4, fun sig h => by rw [h] at hm5; exact (Option.some.inj hm5).symm, hts _ hv.1⟩, hts _ hv.2.1, hts _ hv.2.2⟩
    ⟨zPc_blind g n _ w, ⟨cellV, by rw [hP.ad hb]; exact g1, by rw [g3]; rfl, by rw [g2, ← hrc]; exact hcls.1⟩, fun U hU hW => ⟨rfl, ⟨hK.warm hW, by rw [hU]; exact (hX.kept fun a h1 h2 => hS.2.1 a h1 h2).warm hW⟩, by rw [hU]; exact hP⟩⟩
    rfl (by rw [List.length_map]; exact hk) hl.1 rfl (lv_room (by rw [z_cats]; exact hcat)) hd (z_fit hR h0n hnn hn')
theorem g_callS (hd : zd M pc (.invokestatic idx) 3 q) (hm : zm M' k) (hv : zlS M.1.cls idx M') (hS0 : S = As.reverse ++ rest) (hk : As.length = k) (hcat : (rest.map fun v => v.category).sum ≤ 8) (hd' : d' + 1 ≤ d) (h0n : n0 ≤ n) (hn' : n' ≤ nE)
    (kk : Call d' M' n n' As w (fun r w' => Go d M n0 nE n' q L (r.toList ++ rest) w' Q)) : Go d M n0 nE n pc L S w Q := by
  obtain ⟨hd, rfl⟩ := hd
  subst hS0
  intro p l e R s m args below meth c g Z hC hE H locs ls hP hS hl
  obtain ⟨hnn, hM⟩ := kk
  have hC0 := hC
  obtain ⟨hx, hbd, hml, hown, hts, ⟨hK, hX⟩, hR, -, hbase⟩ := hC
  obtain ⟨hm1, hm2, hm3, hm4, hm5⟩ := hm
  refine z_back (rest := rest) (av := (As.map (zv g)).toArray) hC0 hE hS hl h0n hnn ?_
  rw [List.map_append, List.map_reverse]
  exact va_runS (As := As.map (zv g)) ⟨hx, hbd, hml, hown, hts⟩ (hM l g) (bytes := M'.2.1) (maxL := M'.2.2.1) (ret := M'.2.2.2) (n := k)
    ⟨⟨rfl, rfl, (z_room hR hd' hm3).1, (z_room hR hd' hm3).2, pay_in hts (zws_good ⟨hm1, hm2, hm3, hm4, hm5⟩), List.mem_cons_self, hts _ hm2, hts _ hm1, hm4, fun sig h => by rw [h] at hm5; exact (Option.some.inj hm5).symm, hts _ hv.1⟩, hts _ hv.2⟩
    ⟨zPc_blind g n _ w, fun U hU hW => ⟨rfl, ⟨hK.warm hW, by rw [hU]; exact (hX.kept fun a h1 h2 => hS.2.1 a h1 h2).warm hW⟩, by rw [hU]; exact hP⟩⟩
    rfl (by rw [List.length_map]; exact hk) hl.1 rfl (lv_room (by rw [z_cats]; exact hcat)) hd (z_fit hR h0n hnn hn')
theorem g_callI {b : Nat} (hd : zd M pc (.invokespecial idx) 3 q) (hm : zm M' k) (hv : zlI M.1.cls idx M') (hS0 : S = As.reverse ++ .ref b :: rest) (hk : As.length = k) (hcat : (rest.map fun v => v.category).sum ≤ 8) (hd' : d' + 1 ≤ d) (h0n : n0 ≤ n) (hn' : n' ≤ nE)
    (kk : Call d' M' n n' (.ref b :: As) w (fun r w' => Go d M n0 nE n' q L (r.toList ++ rest) w' Q)) : Go d M n0 nE n pc L S w Q := by
  obtain ⟨hd, rfl⟩ := hd
  subst hS0
  intro p l e R s m args below meth c g Z hC hE H locs ls hP hS hl
  obtain ⟨hnn, hM⟩ := kk
  have hC0 := hC
  obtain ⟨hx, hbd, hml, hown, hts, ⟨hK, hX⟩, hR, -, hbase⟩ := hC
  obtain ⟨hm1, hm2, hm3, hm4, hm5⟩ := hm
  refine z_back (rest := rest) (av := (Value.ref (ad g b) :: As.map (zv g)).toArray) hC0 hE hS hl h0n hnn ?_
  rw [z_map_stack]
  have hret := hv.2.2.2
  exact va_runI (As := As.map (zv g)) (b := ad g b) ⟨hx, hbd, hml, hown, hts⟩ (hM l g) (bytes := M'.2.1) (maxL := M'.2.2.1) (n := k)
    ⟨⟨rfl, rfl, (z_room hR hd' hm3).1, (z_room hR hd' hm3).2, pay_in hts (zws_good ⟨hm1, hm2, hm3, hm4, hm5⟩), by rw [← hret]; exact List.mem_cons_self, by rw [← hret]; exact hts _ hm2, hts _ hm1, hm4, fun sig h => by rw [h] at hm5; exact (Option.some.inj hm5).symm, hts _ hv.1⟩, hv.2.2.1, hts _ hv.2.1⟩
    ⟨zPc_blind g n _ w, fun U hU hW => ⟨rfl, ⟨hK.warm hW, by rw [hU]; exact (hX.kept fun a h1 h2 => hS.2.1 a h1 h2).warm hW⟩, by rw [hU]; exact hP⟩⟩
    rfl (by rw [List.length_map]; exact hk) hl.1 rfl (lv_room (by rw [z_cats]; exact hcat)) hd (z_fit hR h0n hnn hn')
theorem g_callSN (hd : zd M pc (.invokestatic idx) 3 q) (hm : zm M' k) (hv : zlSN M.1.cls idx M') (hS0 : S = As.reverse ++ rest) (hk : As.length = k) (hcat : (rest.map fun v => v.category).sum ≤ 8) (hd' : d' + 1 ≤ d) (h0n : n0 ≤ n) (hn' : n' ≤ nE)
    (kk : Call d' M' n n' As w (fun r w' => Go d M n0 nE n' q L (r.toList ++ rest) w' Q)) : Go d M n0 nE n pc L S w Q := by
  obtain ⟨hd, rfl⟩ := hd
  subst hS0
  intro p l e R s m args below meth c g Z hC hE H locs ls hP hS hl
  obtain ⟨hnn, hM⟩ := kk
  have hC0 := hC
  obtain ⟨hx, hbd, hml, hown, hts, ⟨hK, hX⟩, hR, -, hbase⟩ := hC
  obtain ⟨hm1, hm2, hm3, hm4, hm5⟩ := hm
  obtain ⟨host, hv1, hv2⟩ := hv
  refine z_back (rest := rest) (av := (As.map (zv g)).toArray) hC0 hE hS hl h0n hnn ?_
  rw [List.map_append, List.map_reverse]
  exact va_runSN (As := As.map (zv g)) ⟨hx, hbd, hml, hown, hts⟩ (hM l g) (bytes := M'.2.1) (maxL := M'.2.2.1) (ret := M'.2.2.2) (n := k)
    ⟨va_cnB k hts (zws_good ⟨hm1, hm2, hm3, hm4, hm5⟩) rfl rfl rfl (hK.2.2.1 _ hv1 rfl) (hts _ hm1) ⟨hm4.1, hm4.2, hm5⟩ (z_room hR hd' hm3), hts _ hv2, trivial⟩
    ⟨zPc_blind g n _ w, fun U hU hW => ⟨rfl, ⟨hK.warm hW, by rw [hU]; exact (hX.kept fun a h1 h2 => hS.2.1 a h1 h2).warm hW⟩, by rw [hU]; exact hP⟩⟩
    rfl (by rw [List.length_map]; exact hk) hl.1 rfl (lv_room (by rw [z_cats]; exact hcat)) hd (z_fit hR h0n hnn hn')
theorem g_callIN {b : Nat} (hd : zd M pc (.invokespecial idx) 3 q) (hm : zm M' k) (hv : zlIN M.1.cls idx M') (hS0 : S = As.reverse ++ .ref b :: rest) (hk : As.length = k) (hcat : (rest.map fun v => v.category).sum ≤ 8) (hd' : d' + 1 ≤ d) (h0n : n0 ≤ n) (hn' : n' ≤ nE)
    (kk : Call d' M' n n' (.ref b :: As) w (fun r w' => Go d M n0 nE n' q L (r.toList ++ rest) w' Q)) : Go d M n0 nE n pc L S w Q := by
  obtain ⟨hd, rfl⟩ := hd
  subst hS0
  intro p l e R s m args below meth c g Z hC hE H locs ls hP hS hl
  obtain ⟨hnn, hM⟩ := kk
  have hC0 := hC
  obtain ⟨hx, hbd, hml, hown, hts, ⟨hK, hX⟩, hR, -, hbase⟩ := hC
  obtain ⟨hm1, hm2, hm3, hm4, hm5⟩ := hm
  obtain ⟨host, hv1, hv2, hv3, hret⟩ := hv
  refine z_back (rest := rest) (av := (Value.ref (ad g b) :: As.map (zv g)).toArray) hC0 hE hS hl h0n hnn ?_
  rw [z_map_stack]
  exact va_runIN (As := As.map (zv g)) (b := ad g b) ⟨hx, hbd, hml, hown, hts⟩ (hM l g) (bytes := M'.2.1) (maxL := M'.2.2.1) (n := k)
    ⟨va_cnB k hts (zws_good ⟨hm1, hm2, hm3, hm4, hm5⟩) (by rw [← hret]; rfl) rfl rfl (hK.2.2.1 _ hv1 rfl) (hts _ hm1) ⟨hm4.1, hm4.2, hm5⟩ (z_room hR hd' hm3), hv3, hts _ hv2⟩
    ⟨zPc_blind g n _ w, fun U hU hW => ⟨rfl, ⟨hK.warm hW, by rw [hU]; exact (hX.kept fun a h1 h2 => hS.2.1 a h1 h2).warm hW⟩, by rw [hU]; exact hP⟩⟩
    rfl (by rw [List.length_map]; exact hk) hl.1 rfl (lv_room (by rw [z_cats]; exact hcat)) hd (z_fit hR h0n hnn hn')
theorem call_mono {as : List Value} {Q' : Option Value → Mm → Prop} (h : Call d M n0 nE as w Q') (hQ : ∀ r w, Q' r w → Q r w) : Call d M n0 nE as w Q := by
  refine ⟨h.1, fun l g => ?_⟩
  have h1 := h.2 l g
  intro p e a1 a2 a3 s m args below a4 a5 a6 a7
  obtain ⟨n, o, b1, b2, b3, ⟨⟨r, w', c1, c2, c3⟩, c4⟩, b5⟩ := h1 p e a1 a2 a3 s m args below a4 a5 a6 a7
  exact ⟨n, o, b1, b2, b3, ⟨⟨r, w', c1, hQ r w' c2, c3⟩, c4⟩, b5⟩
end CALLS
