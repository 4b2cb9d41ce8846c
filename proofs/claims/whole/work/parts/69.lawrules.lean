-- the law's own rules: as the layer's, with the script beside
def GoX (X : zG → State → Prop) (d : Nat) (M : zM) (n0 nE n : Nat) (pc : Nat) (L : List (Nat × Value)) (S : List Value) (w : Mm) (Q : Option Value → Mm → Prop) : Prop :=
  ∀ (p : Program) (l : Launch) (e : Env) (R : Room) (s : State) (m : MethodId) (args : Array Value) (below : List Frame) (meth : Method) (c : Code) (g : zG) (Z : State → Prop),
    X g s → zC d M n0 nE p R s m args meth c g → zE M n0 nE g p l e R s m args below meth c Z Q →
    ∀ (H : Heap) (locs : List Loc) (ls : Array Slot), zP g n w H → va_S (zA g) s.heap H locs → lv_has ls M.2.2.1 (L.map (zl g)) →
      W p l e R s m args below meth c H locs (n - n0) (zs n - zs n0) Z (F0 m pc ls (S.map (zv g)))
theorem x_iload_n {X : zG → State → Prop} {d : Nat} {M : zM} {n0 nE n pc q : Nat} {L : List (Nat × Value)} {S : List Value} {w : Mm} {Q : Option Value → Mm → Prop} {k0 : Fin 4} {i : Nat} {x : Int32} (j : Nat) (hd : zd M pc (.iload_n k0) 1 q) (hi : (k0 : Nat) = i) (hl0 : L[j]? = some (i, .int x)) (k : GoX X d M n0 nE n q L (.int x :: S) w Q) : GoX X d M n0 nE n pc L (S) w Q := by
  obtain ⟨hd, rfl⟩ := hd
  intro p l e R s m args below meth c g Z hXX hC hE H locs ls hP hS hl
  obtain ⟨hx, hb, -⟩ := id hC
  exact lv_iload_n hx hb hd hi (zl_at hl hl0) (k p l e R s m args below meth c g Z hXX hC hE H locs ls hP hS hl)
theorem x_aload_n {X : zG → State → Prop} {d : Nat} {M : zM} {n0 nE n pc q : Nat} {L : List (Nat × Value)} {S : List Value} {w : Mm} {Q : Option Value → Mm → Prop} {k0 : Fin 4} {i : Nat} {x : Nat} (j : Nat) (hd : zd M pc (.aload_n k0) 1 q) (hi : (k0 : Nat) = i) (hl0 : L[j]? = some (i, .ref x)) (k : GoX X d M n0 nE n q L (.ref x :: S) w Q) : GoX X d M n0 nE n pc L (S) w Q := by
  obtain ⟨hd, rfl⟩ := hd
  intro p l e R s m args below meth c g Z hXX hC hE H locs ls hP hS hl
  obtain ⟨hx, hb, -⟩ := id hC
  exact lv_aload_n hx hb hd hi (zl_at hl hl0) (k p l e R s m args below meth c g Z hXX hC hE H locs ls hP hS hl)
theorem x_istore_n {X : zG → State → Prop} {d : Nat} {M : zM} {n0 nE n pc q : Nat} {L : List (Nat × Value)} {S : List Value} {w : Mm} {Q : Option Value → Mm → Prop} {k0 : Fin 4} {i : Nat} {x : Int32} {L' : List (Nat × Value)} (hd : zd M pc (.istore_n k0) 1 q) (hi : (k0 : Nat) = i) (hn : i < M.2.2.1) (hL : zset1 L i (.int x) = L') (k : GoX X d M n0 nE n q L' S w Q) : GoX X d M n0 nE n pc L (.int x :: S) w Q := by
  obtain ⟨hd, rfl⟩ := hd
  intro p l e R s m args below meth c g Z hXX hC hE H locs ls hP hS hl
  obtain ⟨hx, hb, -⟩ := id hC
  subst hL
  exact lv_istore_n hx hb hd hi hl hn (zset1_map g L i (.int x)) (fun ls hl => k p l e R s m args below meth c g Z hXX hC hE H locs ls hP hS hl)
theorem x_astore_n {X : zG → State → Prop} {d : Nat} {M : zM} {n0 nE n pc q : Nat} {L : List (Nat × Value)} {S : List Value} {w : Mm} {Q : Option Value → Mm → Prop} {k0 : Fin 4} {i : Nat} {x : Nat} {L' : List (Nat × Value)} (hd : zd M pc (.astore_n k0) 1 q) (hi : (k0 : Nat) = i) (hn : i < M.2.2.1) (hL : zset1 L i (.ref x) = L') (k : GoX X d M n0 nE n q L' S w Q) : GoX X d M n0 nE n pc L (.ref x :: S) w Q := by
  obtain ⟨hd, rfl⟩ := hd
  intro p l e R s m args below meth c g Z hXX hC hE H locs ls hP hS hl
  obtain ⟨hx, hb, -⟩ := id hC
  subst hL
  exact lv_astore_n hx hb hd hi hl hn (zset1_map g L i (.ref x)) (fun ls hl => k p l e R s m args below meth c g Z hXX hC hE H locs ls hP hS hl)
theorem x_iinc {X : zG → State → Prop} {d : Nat} {M : zM} {n0 nE n pc q : Nat} {L : List (Nat × Value)} {S : List Value} {w : Mm} {Q : Option Value → Mm → Prop} {i : Nat} {x v : Int32} {a : Int} {L' : List (Nat × Value)} (j : Nat) (hd : zd M pc (.iinc i a) 3 q) (hl0 : L[j]? = some (i, .int x)) (hv : x + Int32.ofInt a = v) (hn : i < M.2.2.1) (hL : zset1 L i (.int v) = L') (k : GoX X d M n0 nE n q L' S w Q) : GoX X d M n0 nE n pc L S w Q := by
  obtain ⟨hd, rfl⟩ := hd
  intro p l e R s m args below meth c g Z hXX hC hE H locs ls hP hS hl
  obtain ⟨hx, hb, -⟩ := id hC
  subst hL
  exact lv_iinc (lv := L.map (zl g)) (k := j) hx hb hd hl (by rw [List.getElem?_map, hl0]; rfl) hv hn (zset1_map g L i (.int v)) (fun ls hl => k p l e R s m args below meth c g Z hXX hC hE H locs ls hP hS hl)
theorem x_iconst {X : zG → State → Prop} {d : Nat} {M : zM} {n0 nE n pc q : Nat} {L : List (Nat × Value)} {S : List Value} {w : Mm} {Q : Option Value → Mm → Prop} {a : Int} (v : Int32) (hd : zd M pc (.iconst a) 1 q) (hv : Int32.ofInt a = v) (k : GoX X d M n0 nE n q L (.int v :: S) w Q) : GoX X d M n0 nE n pc L (S) w Q := by
  obtain ⟨hd, rfl⟩ := hd
  intro p l e R s m args below meth c g Z hXX hC hE H locs ls hP hS hl
  obtain ⟨hx, hb, -⟩ := id hC
  exact lv_iconst hx hb hd hv (k p l e R s m args below meth c g Z hXX hC hE H locs ls hP hS hl)
theorem x_bipush {X : zG → State → Prop} {d : Nat} {M : zM} {n0 nE n pc q : Nat} {L : List (Nat × Value)} {S : List Value} {w : Mm} {Q : Option Value → Mm → Prop} {a : Int} (v : Int32) (hd : zd M pc (.bipush a) 2 q) (hv : (Int8.ofInt a).toInt32 = v) (k : GoX X d M n0 nE n q L (.int v :: S) w Q) : GoX X d M n0 nE n pc L (S) w Q := by
  obtain ⟨hd, rfl⟩ := hd
  intro p l e R s m args below meth c g Z hXX hC hE H locs ls hP hS hl
  obtain ⟨hx, hb, -⟩ := id hC
  exact lv_bipush hx hb hd hv (k p l e R s m args below meth c g Z hXX hC hE H locs ls hP hS hl)
theorem x_iadd {X : zG → State → Prop} {d : Nat} {M : zM} {n0 nE n pc q : Nat} {L : List (Nat × Value)} {S : List Value} {w : Mm} {Q : Option Value → Mm → Prop} {x y : Int32} (hd : zd M pc (.iadd) 1 q) (k : GoX X d M n0 nE n q L (.int (x + y) :: S) w Q) : GoX X d M n0 nE n pc L (.int y :: .int x :: S) w Q := by
  obtain ⟨hd, rfl⟩ := hd
  intro p l e R s m args below meth c g Z hXX hC hE H locs ls hP hS hl
  obtain ⟨hx, hb, -⟩ := id hC
  exact lv_iadd hx hb hd (k p l e R s m args below meth c g Z hXX hC hE H locs ls hP hS hl)
theorem x_isub {X : zG → State → Prop} {d : Nat} {M : zM} {n0 nE n pc q : Nat} {L : List (Nat × Value)} {S : List Value} {w : Mm} {Q : Option Value → Mm → Prop} {x y : Int32} (hd : zd M pc (.isub) 1 q) (k : GoX X d M n0 nE n q L (.int (x - y) :: S) w Q) : GoX X d M n0 nE n pc L (.int y :: .int x :: S) w Q := by
  obtain ⟨hd, rfl⟩ := hd
  intro p l e R s m args below meth c g Z hXX hC hE H locs ls hP hS hl
  obtain ⟨hx, hb, -⟩ := id hC
  exact lv_isub hx hb hd (k p l e R s m args below meth c g Z hXX hC hE H locs ls hP hS hl)
theorem x_iand {X : zG → State → Prop} {d : Nat} {M : zM} {n0 nE n pc q : Nat} {L : List (Nat × Value)} {S : List Value} {w : Mm} {Q : Option Value → Mm → Prop} {x y : Int32} (hd : zd M pc (.iand) 1 q) (k : GoX X d M n0 nE n q L (.int (x &&& y) :: S) w Q) : GoX X d M n0 nE n pc L (.int y :: .int x :: S) w Q := by
  obtain ⟨hd, rfl⟩ := hd
  intro p l e R s m args below meth c g Z hXX hC hE H locs ls hP hS hl
  obtain ⟨hx, hb, -⟩ := id hC
  exact lv_iand hx hb hd (k p l e R s m args below meth c g Z hXX hC hE H locs ls hP hS hl)
theorem x_dup {X : zG → State → Prop} {d : Nat} {M : zM} {n0 nE n pc q : Nat} {L : List (Nat × Value)} {S : List Value} {w : Mm} {Q : Option Value → Mm → Prop} {va : Value} (hd : zd M pc (.dup) 1 q) (hva : va.category = 1) (k : GoX X d M n0 nE n q L (va :: va :: S) w Q) : GoX X d M n0 nE n pc L (va :: S) w Q := by
  obtain ⟨hd, rfl⟩ := hd
  intro p l e R s m args below meth c g Z hXX hC hE H locs ls hP hS hl
  obtain ⟨hx, hb, -⟩ := id hC
  exact lv_dup hx hb hd ((zv_cat g va).trans hva) (k p l e R s m args below meth c g Z hXX hC hE H locs ls hP hS hl)
theorem x_icmp_eq {X : zG → State → Prop} {d : Nat} {M : zM} {n0 nE n pc q : Nat} {L : List (Nat × Value)} {S : List Value} {w : Mm} {Q : Option Value → Mm → Prop} {x y : Int32} {off : Int} {tgt : Nat} (hd : zd M pc (.if_icmp .eq off) 3 q) (ht : (pc : Int) + off = (tgt : Int)) (kt : x = y → GoX X d M n0 nE n tgt L S w Q) (kf : ¬ x = y → GoX X d M n0 nE n q L S w Q) : GoX X d M n0 nE n pc L (.int y :: .int x :: S) w Q := by
  obtain ⟨hd, rfl⟩ := hd
  intro p l e R s m args below meth c g Z hXX hC hE H locs ls hP hS hl
  obtain ⟨hx, hb, -⟩ := id hC
  exact lv_icmp_eq hx hb hd ht (fun h => (kt h) p l e R s m args below meth c g Z hXX hC hE H locs ls hP hS hl) (fun h => (kf h) p l e R s m args below meth c g Z hXX hC hE H locs ls hP hS hl)
theorem x_icmp_gt {X : zG → State → Prop} {d : Nat} {M : zM} {n0 nE n pc q : Nat} {L : List (Nat × Value)} {S : List Value} {w : Mm} {Q : Option Value → Mm → Prop} {x y : Int32} {off : Int} {tgt : Nat} (hd : zd M pc (.if_icmp .gt off) 3 q) (ht : (pc : Int) + off = (tgt : Int)) (kt : y < x → GoX X d M n0 nE n tgt L S w Q) (kf : ¬ y < x → GoX X d M n0 nE n q L S w Q) : GoX X d M n0 nE n pc L (.int y :: .int x :: S) w Q := by
  obtain ⟨hd, rfl⟩ := hd
  intro p l e R s m args below meth c g Z hXX hC hE H locs ls hP hS hl
  obtain ⟨hx, hb, -⟩ := id hC
  exact lv_icmp_gt hx hb hd ht (fun h => (kt h) p l e R s m args below meth c g Z hXX hC hE H locs ls hP hS hl) (fun h => (kf h) p l e R s m args below meth c g Z hXX hC hE H locs ls hP hS hl)
theorem x_if_eq {X : zG → State → Prop} {d : Nat} {M : zM} {n0 nE n pc q : Nat} {L : List (Nat × Value)} {S : List Value} {w : Mm} {Q : Option Value → Mm → Prop} {x : Int32} {off : Int} {tgt : Nat} (hd : zd M pc (.ifCond .eq off) 3 q) (ht : (pc : Int) + off = (tgt : Int)) (kt : x = 0 → GoX X d M n0 nE n tgt L S w Q) (kf : ¬ x = 0 → GoX X d M n0 nE n q L S w Q) : GoX X d M n0 nE n pc L (.int x :: S) w Q := by
  obtain ⟨hd, rfl⟩ := hd
  intro p l e R s m args below meth c g Z hXX hC hE H locs ls hP hS hl
  obtain ⟨hx, hb, -⟩ := id hC
  exact lv_if_eq hx hb hd ht (fun h => (kt h) p l e R s m args below meth c g Z hXX hC hE H locs ls hP hS hl) (fun h => (kf h) p l e R s m args below meth c g Z hXX hC hE H locs ls hP hS hl)
theorem x_lcmp {X : zG → State → Prop} {d : Nat} {M : zM} {n0 nE n pc q : Nat} {L : List (Nat × Value)} {S : List Value} {w : Mm} {Q : Option Value → Mm → Prop} {x y : Int64} (hd : zd M pc .lcmp 1 q) (k : GoX X d M n0 nE n q L (.int (lg_cmp x y) :: S) w Q) : GoX X d M n0 nE n pc L (.long y :: .long x :: S) w Q := by
  obtain ⟨hd, rfl⟩ := hd
  intro p l e R s m args below meth c g Z hXX hC hE H locs ls hP hS hl
  obtain ⟨hx, hb, -⟩ := id hC
  exact W.lcmp hx hb hd (k p l e R s m args below meth c g Z hXX hC hE H locs ls hP hS hl)
theorem x_goto {X : zG → State → Prop} {d : Nat} {M : zM} {n0 nE n pc q : Nat} {L : List (Nat × Value)} {S : List Value} {w : Mm} {Q : Option Value → Mm → Prop} {off : Int} {tgt : Nat} (hd : zd M pc (.goto off) 3 q) (ht : (pc : Int) + off = (tgt : Int)) (k : GoX X d M n0 nE n tgt L S w Q) : GoX X d M n0 nE n pc L S w Q := by
  obtain ⟨hd, rfl⟩ := hd
  intro p l e R s m args below meth c g Z hXX hC hE H locs ls hP hS hl
  obtain ⟨hx, hb, -⟩ := id hC
  exact lv_goto hx hb hd ht (k p l e R s m args below meth c g Z hXX hC hE H locs ls hP hS hl)
theorem x_tsw {X : zG → State → Prop} {d : Nat} {M : zM} {n0 nE n pc q : Nat} {L : List (Nat × Value)} {S : List Value} {w : Mm} {Q : Option Value → Mm → Prop} {dflt lo hi : Int} {offs : Array Int} {len : Nat} {x : Int32} {off : Int} {tgt : Nat} (hd : zd M pc (.tableswitch dflt lo hi offs) len q) (c0 : Int32) (hx0 : x = c0) (h1 : ¬ c0.toInt < lo) (h2 : ¬ hi < c0.toInt) (ho : offs[(c0.toInt - lo).toNat]? = some off) (ht : (pc : Int) + off = (tgt : Int)) (k : GoX X d M n0 nE n tgt L S w Q) : GoX X d M n0 nE n pc L (.int x :: S) w Q := by
  subst hx0
  obtain ⟨hd, rfl⟩ := hd
  intro p l e R s m args below meth c g Z hXX hC hE H locs ls hP hS hl
  obtain ⟨hx, hb, -⟩ := id hC
  exact lv_tableIn hx hb hd h1 h2 ho ht (k p l e R s m args below meth c g Z hXX hC hE H locs ls hP hS hl)
theorem x_ret {X : zG → State → Prop} {d : Nat} {M : zM} {n0 nE n pc : Nat} {L : List (Nat × Value)} {S : List Value} {w : Mm} {Q : Option Value → Mm → Prop} (r : Option Value) (hR : zR M pc r) (hn : n = nE) (hS0 : S = r.toList) (h : Q r w) : GoX X d M n0 nE n pc L S w Q := by
  subst hn
  subst hS0
  intro p l e R s m args below meth c g Z hXX hC hE H locs ls hP hS hl
  have h1 := hE r w H locs ls pc hP hS h hR
  cases r with
  | none => exact h1
  | some v => exact h1
section XC
variable {X : zG → State → Prop} {d d' : Nat} {M M' : zM} {n0 nE n n' pc q k idx : Nat} {L : List (Nat × Value)} {S rest As : List Value} {w : Mm} {Q : Option Value → Mm → Prop}
theorem x_back {p : Program} {l : Launch} {e : Env} {R : Room} {s : State} {m : MethodId} {args : Array Value} {below : List Frame} {meth : Method} {c : Code} {g : zG} {Z : State → Prop} {H : Heap} {locs : List Loc} {ls : Array Slot} {av : Array Value} {st0 : List Value}
    (hXX : X g s) (hC : zC d M n0 nE p R s m args meth c g) (hE : zE M n0 nE g p l e R s m args below meth c Z Q) (hS : va_S (zA g) s.heap H locs) (hl : lv_has ls M.2.2.1 (L.map (zl g))) (h0n : n0 ≤ n) (hnn : n ≤ n')
    (hr : va_Run p l e R s m args below meth c H locs (n - n0) (zs n - zs n0) (n' - n) (zs n' - zs n) (F0 m pc ls st0) (rest.map (zv g)) (zQc g n' (fun r w' => GoX X d M n0 nE n' (pc + 3) L (r.toList ++ rest) w' Q) av) (zA g)) :
    W p l e R s m args below meth c H locs (n - n0) (zs n - zs n0) Z (F0 m pc ls st0) := by
  intro T hT X
  obtain ⟨v, st₀, t, T', L1, h0, X', hL, e1, e2, ⟨⟨r, w', hv, hQ, hP'⟩, hz, hk⟩, st⟩ := hr T hT X
  obtain rfl : v = r.map (zv g) := by injection hv
  rw [h0] at hz hk
  have hW := hQ p l e R s m args below meth c g Z hXX hC hE T'.heap (locs ++ L1) ls (by rw [e1]; exact hP')
    ⟨Nat.le_trans hS.1 (by rw [e1]; exact hz), fun q h1 h2 => by rw [e1, hk q (Nat.lt_of_lt_of_le h1 hS.1) h2]; exact hS.2.1 q h1 h2, fun q hq => by
      rcases List.mem_append.mp hq with h | h
      · exact hS.2.2 q h
      · exact hL q h⟩ hl
  have a1 : n - n0 + (n' - n) = n' - n0 := by omega
  have a2 : zs n - zs n0 + (zs n' - zs n) = zs n' - zs n0 := by
    have := zs_mono h0n
    have := zs_mono hnn
    omega
  rw [a1, a2] at X'
  obtain ⟨t2, b1, b2⟩ := hW T' rfl X'
  refine ⟨t2, st t2 ?_, b2⟩
  have e3 : ((r.toList ++ rest).map (zv g)) = (r.map (zv g)).toList ++ rest.map (zv g) := by
    cases r <;> rfl
  rw [e3] at b1
  exact b1
theorem x_callV {b ci : Nat} {r : vw_C} (hd : zd M pc (.invokevirtual idx) 3 q) (hm : zm M' k) (hv : zlV M.1.cls idx M') (hs : SH[b]? = some (.inl ci)) (hb : b < n) (hr : zcl[ci]? = some r) (hrc : r.1 = M'.1.cls) (hS0 : S = As.reverse ++ .ref b :: rest) (hk : As.length = k) (hcat : (rest.map fun v => v.category).sum ≤ 8) (hd' : d' + 1 ≤ d) (h0n : n0 ≤ n) (hn' : n' ≤ nE)
    (kk : Call d' M' n n' (.ref b :: As) w (fun r w' => GoX X d M n0 nE n' q L (r.toList ++ rest) w' Q)) : GoX X d M n0 nE n pc L S w Q := by
  obtain ⟨hd, rfl⟩ := hd
  subst hS0
  intro p l e R s m args below meth c g Z hXX hC hE H locs ls hP hS hl
  obtain ⟨hnn, hM⟩ := kk
  have hC0 := hC
  obtain ⟨hx, hbd, hml, hown, hts, ⟨hK, hX⟩, hR, -, hbase⟩ := hC
  obtain ⟨r', hr', cellV, g1, g2, g3, -⟩ := hP.obj hb hs
  obtain rfl : r = r' := Option.some.inj (hr.symm.trans hr')
  have hcls := (hK.1.1 ci r hr).2
  obtain ⟨hm1, hm2, hm3, hm4, hm5⟩ := hm
  refine x_back (rest := rest) (av := (Value.ref (ad g b) :: As.map (zv g)).toArray) hXX hC0 hE hS hl h0n hnn ?_
  rw [z_map_stack]
  refine va_runV (As := As.map (zv g)) (b := ad g b) ⟨hx, hbd, hml, hown, hts⟩ (hM l g) (C := M'.1.cls) (bytes := M'.2.1) (maxL := M'.2.2.1) (ret := M'.2.2.2) (n := k)
    ⟨⟨rfl, rfl, (z_room hR hd' hm3).1, (z_room hR hd' hm3).2, pay_in hts (zws_good ⟨hm1, hm2, hm3, hm4, hm5⟩), List.mem_cons_self, hts _ hm2, hts _ hm1, hm4, fun sig h => by rw [h] at hm5; exact (Option.some.inj hm5).symm, hts _ hv.1⟩, hts _ hv.2.1, hts _ hv.2.2⟩
    ⟨zPc_blind g n _ w, ⟨cellV, by rw [hP.ad hb]; exact g1, by rw [g3]; rfl, by rw [g2, ← hrc]; exact hcls.1⟩, fun U hU hW => ⟨rfl, ⟨hK.warm hW, by rw [hU]; exact (hX.kept fun a h1 h2 => hS.2.1 a h1 h2).warm hW⟩, by rw [hU]; exact hP⟩⟩
    rfl (by rw [List.length_map]; exact hk) hl.1 rfl (lv_room (by rw [z_cats]; exact hcat)) hd (z_fit hR h0n hnn hn')
theorem x_callI {b : Nat} (hd : zd M pc (.invokespecial idx) 3 q) (hm : zm M' k) (hv : zlI M.1.cls idx M') (hS0 : S = As.reverse ++ .ref b :: rest) (hk : As.length = k) (hcat : (rest.map fun v => v.category).sum ≤ 8) (hd' : d' + 1 ≤ d) (h0n : n0 ≤ n) (hn' : n' ≤ nE)
    (kk : Call d' M' n n' (.ref b :: As) w (fun r w' => GoX X d M n0 nE n' q L (r.toList ++ rest) w' Q)) : GoX X d M n0 nE n pc L S w Q := by
  obtain ⟨hd, rfl⟩ := hd
  subst hS0
  intro p l e R s m args below meth c g Z hXX hC hE H locs ls hP hS hl
  obtain ⟨hnn, hM⟩ := kk
  have hC0 := hC
  obtain ⟨hx, hbd, hml, hown, hts, ⟨hK, hX⟩, hR, -, hbase⟩ := hC
  obtain ⟨hm1, hm2, hm3, hm4, hm5⟩ := hm
  refine x_back (rest := rest) (av := (Value.ref (ad g b) :: As.map (zv g)).toArray) hXX hC0 hE hS hl h0n hnn ?_
  rw [z_map_stack]
  have hret := hv.2.2.2
  exact va_runI (As := As.map (zv g)) (b := ad g b) ⟨hx, hbd, hml, hown, hts⟩ (hM l g) (bytes := M'.2.1) (maxL := M'.2.2.1) (n := k)
    ⟨⟨rfl, rfl, (z_room hR hd' hm3).1, (z_room hR hd' hm3).2, pay_in hts (zws_good ⟨hm1, hm2, hm3, hm4, hm5⟩), by rw [← hret]; exact List.mem_cons_self, by rw [← hret]; exact hts _ hm2, hts _ hm1, hm4, fun sig h => by rw [h] at hm5; exact (Option.some.inj hm5).symm, hts _ hv.1⟩, hv.2.2.1, hts _ hv.2.1⟩
    ⟨zPc_blind g n _ w, fun U hU hW => ⟨rfl, ⟨hK.warm hW, by rw [hU]; exact (hX.kept fun a h1 h2 => hS.2.1 a h1 h2).warm hW⟩, by rw [hU]; exact hP⟩⟩
    rfl (by rw [List.length_map]; exact hk) hl.1 rfl (lv_room (by rw [z_cats]; exact hcat)) hd (z_fit hR h0n hnn hn')
theorem x_congr {w' : Mm} (h : SAM n w w') (k : GoX X d M n0 nE n pc L S w' Q) : GoX X d M n0 nE n pc L S w Q :=
  fun p l e R s m args below meth c g Z hXX hC hE H locs ls hP hS hl => k p l e R s m args below meth c g Z hXX hC hE H locs ls (hP.congr h) hS hl
theorem x_newC {ci : Nat} {r : vw_C} (hd : zd M pc (.new idx) 3 q) (hs : SH[n]? = some (.inl ci)) (hr : zcl[ci]? = some r) (hcl : Cond.classLink M.1.cls idx r.1 ∈ zT) (hin0 : Cond.instantiable r.1 r.2.2 ∈ zT) (hini : Cond.initialized r.1 ∈ zT) (h0n : n0 ≤ n) (hn : n + 1 ≤ nE) (kk : GoX X d M n0 nE (n + 1) q L (.ref n :: S) (zc w n) Q) : GoX X d M n0 nE n pc L S w Q := by
  obtain ⟨hd, rfl⟩ := hd
  intro p l e R s m args below meth c g Z hXX hC hE H locs ls hP hS hl
  have hC0 := hC
  obtain ⟨hx, hbd, hml, hown, hts, ⟨hK, hX⟩, hR, -, hbase⟩ := hC
  have hKn := hK.1.1 ci _ hr
  obtain ⟨hin, hty, hnm⟩ := zcl_ok ci r hr
  have hz : zsz (.inl ci) = r.2.2 := by
    show (match zcl[ci]? with | some r => r.2.2 | none => 0) = _
    rw [hr]
  have e1 := zs_succ hs
  rw [hz] at e1
  have m1 := zs_mono hn
  have m2 := zs_mono h0n
  refine W.newcK hx hbd hown (hts _ hcl) (hts _ hin0) (hts _ hini) rfl hd (by omega) (by omega) hKn.2.1 rfl fun H1 kC hkC f1 f2 f3 => ?_
  have c1 : n - n0 + 1 = n + 1 - n0 := by omega
  have c2 : zs n - zs n0 + r.2.2 = zs (n + 1) - zs n0 := by omega
  rw [c1, c2]
  have hnF := SH_lt hs
  have hP' : zP g (n + 1) (zc w n) H1 := by
    refine ⟨by rw [f2, hP.1]; omega, by omega, fun i hi => ?_⟩
    by_cases ei : i = n
    · subst ei
      unfold cellAt
      rw [hs]
      refine ⟨r, hr, ?_⟩
      rw [hP.1] at f1
      exact (u_born (zft ci) hts hin hKn hkC f1 hty).to fun k hk => (zc_def _ k (zft_nf ci k)).symm
    · exact (hP.2.2 i (by omega)).kept (f3 _ (by rw [hP.1]; omega)) fun ty k => zc_fv ei ty k
  have ha : ad g n = H.size := by rw [ad_lt g (Nat.lt_trans hnF NF_lt), hP.1]
  have hS' : va_S (zA g) s.heap H1 locs := ⟨Nat.le_trans hS.1 (by omega), fun x h1 h2 => (f3 x (Nat.lt_of_lt_of_le h1 hS.1)).trans (hS.2.1 x h1 h2), hS.2.2⟩
  have h9 := kk p l e R s m args below meth c g Z hXX hC0 hE H1 locs ls hP' hS' hl
  have e9 : ((Value.ref n :: S).map (zv g)) = .ref H.size :: S.map (zv g) := by
    show Value.ref (ad g n) :: _ = _
    rw [ha]
  rw [e9] at h9
  exact h9
theorem x_newI {q1 q2 idx2 ci : Nat} {r : vw_C} {W W' : Mm} {Dc : Nat → Nat → Prop} (hc : Call d' M' (n + 1) n' [.ref n] (hole Dc W) (fun r w => r = none ∧ w = W')) (hD1 : ∀ i k, Dc i k → i = n) (hD2 : ∀ k, rel n k → Dc n k ∨ dz W n k) (hs : SH[n]? = some (.inl ci)) (hr : zcl[ci]? = some r) (hd1 : zd M pc (.new idx) 3 q1) (hd2 : zd M q1 .dup 1 q2) (hd3 : zd M q2 (.invokespecial idx2) 3 q) (hcl : Cond.classLink M.1.cls idx r.1 ∈ zT) (hin0 : Cond.instantiable r.1 r.2.2 ∈ zT) (hini : Cond.initialized r.1 ∈ zT) (hm : zm M' 0) (hv : zlI M.1.cls idx2 M') (hcat : ((Value.ref n :: S).map fun v => v.category).sum ≤ 8) (hd' : d' + 1 ≤ d) (h0n : n0 ≤ n) (hn : n + 1 ≤ n') (hn' : n' ≤ nE) (kk : GoX X d M n0 nE n' q L (.ref n :: S) W' Q) : GoX X d M n0 nE n pc L S W Q := by
  refine x_newC hd1 hs hr hcl hin0 hini h0n (by omega) ?_
  refine x_congr (SAM_new hD1 hD2) ?_
  refine x_dup hd2 rfl ?_
  refine x_callI (As := []) (rest := .ref n :: S) hd3 hm hv rfl rfl hcat hd' (by omega) hn' (call_mono hc ?_)
  rintro r w ⟨rfl, rfl⟩
  exact kk
theorem x_callVI {v : Vv} {b ci : Nat} {r : vw_C} (hd : zd M pc (.invokevirtual idx) 3 q) (hm : zm M' k) (hv : zlV M.1.cls idx M') (hs : SH[b]? = some (.inl ci)) (hr : zcl[ci]? = some r) (hrc : r.1 = M'.1.cls) (hS0 : S = As.reverse ++ .ref b :: rest) (hk : As.length = k) (hcat : (rest.map fun v => v.category).sum ≤ 8) (hd' : d' + 1 ≤ d) (kk : Cp d' M' (.ref b :: As) v (QI (fun x v' => GoX X d M 0 NF NF q L (.int x :: rest) (em v') Q))) : GoX X d M 0 NF NF pc L S (em v) Q := x_callV hd hm hv hs (SH_lt hs) hr hrc hS0 hk hcat hd' (Nat.zero_le _) (Nat.le_refl _) (call_mono kk (fun r w ⟨v', hv, x, hr, h⟩ => by subst hv; subst hr; exact h))
theorem x_callVJ {v : Vv} {b ci : Nat} {r : vw_C} (hd : zd M pc (.invokevirtual idx) 3 q) (hm : zm M' k) (hv : zlV M.1.cls idx M') (hs : SH[b]? = some (.inl ci)) (hr : zcl[ci]? = some r) (hrc : r.1 = M'.1.cls) (hS0 : S = As.reverse ++ .ref b :: rest) (hk : As.length = k) (hcat : (rest.map fun v => v.category).sum ≤ 8) (hd' : d' + 1 ≤ d) (kk : Cp d' M' (.ref b :: As) v (QJ (fun x v' => GoX X d M 0 NF NF q L (.long x :: rest) (em v') Q))) : GoX X d M 0 NF NF pc L S (em v) Q := x_callV hd hm hv hs (SH_lt hs) hr hrc hS0 hk hcat hd' (Nat.zero_le _) (Nat.le_refl _) (call_mono kk (fun r w ⟨v', hv, x, hr, h⟩ => by subst hv; subst hr; exact h))
end XC
/-- the script: a row of ints that was there before -/
def XS (N : Nat) (xs : Nat → Int32) : zG → State → Prop := fun g s => va_X (ad g 100060) N xs s s.heap ∧ ad g 100060 < s.heap.size ∧ ¬ zA g (ad g 100060)
section XR
variable {N : Nat} {xs : Nat → Int32} {d : Nat} {M : zM} {n0 nE n pc q : Nat} {L : List (Nat × Value)} {S : List Value} {w : Mm} {Q : Option Value → Mm → Prop}
theorem x_scl (hd : zd M pc .arraylength 1 q) (kk : GoX (XS N xs) d M n0 nE n q L (.int (Int32.ofNat N) :: S) w Q) : GoX (XS N xs) d M n0 nE n pc L (.ref 100060 :: S) w Q := by
  obtain ⟨hd, rfl⟩ := hd
  intro p l e R s m args below meth c g Z hXX hC hE H locs ls hP hS hl
  obtain ⟨⟨scr, h1, h2, h3, h4, h5⟩, hlt, hA⟩ := id hXX
  exact W.alen (n := Int32.ofNat N) hC.1 hC.2.1 (by rw [hS.2.1 _ hlt hA]; exact h1) h2 (by rw [h4]) rfl rfl hd (kk p l e R s m args below meth c g Z hXX hC hE H locs ls hP hS hl)
theorem x_sci {x : Int32} (hd : zd M pc .iaload 1 q) (hx : ib x N) (kk : GoX (XS N xs) d M n0 nE n q L (.int (xs (ix x)) :: S) w Q) : GoX (XS N xs) d M n0 nE n pc L (.int x :: .ref 100060 :: S) w Q := by
  obtain ⟨hd, rfl⟩ := hd
  intro p l e R s m args below meth c g Z hXX hC hE H locs ls hP hS hl
  obtain ⟨⟨scr, h1, h2, h3, h4, h5⟩, hlt, hA⟩ := id hXX
  exact W.iald (v := .int (xs (ix x))) hC.1 hC.2.1 (by rw [hS.2.1 _ hlt hA]; exact h1) h2 h3 (by rw [h4]; exact ib_vp hx) (h5 _ (ib_clamp hx)) rfl rfl hd (kk p l e R s m args below meth c g Z hXX hC hE H locs ls hP hS hl)
end XR
