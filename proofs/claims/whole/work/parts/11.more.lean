theorem g_ldcw {d : Nat} {M : zM} {n0 nE n pc q : Nat} {L : List (Nat × Value)} {S : List Value} {w : Mm} {Q : Option Value → Mm → Prop} {a : Nat} {v : Int32} (hd : zd M pc (.ldc_w a) 3 q) (hc : Cond.constant M.1.cls a v ∈ zT) (k : Go d M n0 nE n q L (.int v :: S) w Q) : Go d M n0 nE n pc L S w Q := by
  obtain ⟨hd, rfl⟩ := hd
  intro p l e R s m args below meth c g Z hC hE H locs ls hP hS hl
  obtain ⟨hx, hb, -⟩ := id hC
  exact lv_ldcw hx hb hC.2.2.2.1 (hC.2.2.2.2.1 _ hc) hd (k p l e R s m args below meth c g Z hC hE H locs ls hP hS hl)
