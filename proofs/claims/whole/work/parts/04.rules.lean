def zd (M : zM) (pc : Nat) (i : Instr) (len q : Nat) : Prop := decode M.2.1 pc = .ok (i, len) ∧ pc + len = q
theorem zl_at {g : zG} {ls : Array Slot} {nL : Nat} {L : List (Nat × Value)} (h : lv_has ls nL (L.map (zl g))) {j i : Nat} {v : Value} (hl : L[j]? = some (i, v)) : ls[i]? = some (.val (zv g v)) :=
  h.2.2 (i, zv g v) (List.mem_map.mpr ⟨(i, v), List.mem_of_getElem? hl, rfl⟩)
def zset1 (L : List (Nat × Value)) (i : Nat) (v : Value) : List (Nat × Value) := (i, v) :: L.filter (fun q => !(q.1 == i) && !(q.1 + 1 == i && q.2.category == 2))
def zset2 (L : List (Nat × Value)) (i : Nat) (v : Value) : List (Nat × Value) := (i, v) :: L.filter (fun q => !(q.1 == i) && (!(q.1 == i + 1) && !(q.1 + 1 == i && q.2.category == 2)))
theorem zset1_map (g : zG) (L : List (Nat × Value)) (i : Nat) (v : Value) : (i, zv g v) :: (L.map (zl g)).filter (fun q => !(q.1 == i) && !(q.1 + 1 == i && q.2.category == 2)) = (zset1 L i v).map (zl g) := by
  unfold zset1
  rw [List.map_cons, List.filter_map]
  refine congr (congrArg List.cons rfl) (congrArg (List.map (zl g)) (List.filter_congr fun q _ => ?_))
  show (!((zl g q).1 == i) && !((zl g q).1 + 1 == i && (zl g q).2.category == 2)) = _
  rw [show (zl g q).2.category = q.2.category from zv_cat g q.2]
  rfl
theorem zset2_map (g : zG) (L : List (Nat × Value)) (i : Nat) (v : Value) : (i, zv g v) :: (L.map (zl g)).filter (fun q => !(q.1 == i) && (!(q.1 == i + 1) && !(q.1 + 1 == i && q.2.category == 2))) = (zset2 L i v).map (zl g) := by
  unfold zset2
  rw [List.map_cons, List.filter_map]
  refine congr (congrArg List.cons rfl) (congrArg (List.map (zl g)) (List.filter_congr fun q _ => ?_))
  show (!((zl g q).1 == i) && (!((zl g q).1 == i + 1) && !((zl g q).1 + 1 == i && (zl g q).2.category == 2))) = _
  rw [show (zl g q).2.category = q.2.category from zv_cat g q.2]
  rfl
/-- fewer locals -/
theorem g_sub {d : Nat} {M : zM} {n0 nE n pc : Nat} {L : List (Nat × Value)} {S : List Value} {w : Mm} {Q : Option Value → Mm → Prop} {L' : List (Nat × Value)} (ks : List Nat) (hk : lv_pick L ks = L') (k : Go d M n0 nE n pc L' S w Q) : Go d M n0 nE n pc L S w Q := by
  intro p l e R s m args below meth c g Z hC hE H locs ls hP hS hl
  refine k p l e R s m args below meth c g Z hC hE H locs ls hP hS ⟨hl.1, hl.2.1, fun q hq => ?_⟩
  obtain ⟨a, ha, rfl⟩ := List.mem_map.mp hq
  rw [← hk] at ha
  obtain ⟨j, -, hj⟩ := List.mem_filterMap.mp ha
  exact hl.2.2 _ (List.mem_map.mpr ⟨a, List.mem_of_getElem? hj, rfl⟩)

theorem g_iload {d : Nat} {M : zM} {n0 nE n pc q : Nat} {L : List (Nat × Value)} {S : List Value} {w : Mm} {Q : Option Value → Mm → Prop} {i : Nat} {x : Int32} (j : Nat) (hd : zd M pc (.iload i) 2 q) (hl0 : L[j]? = some (i, .int x)) (k : Go d M n0 nE n q L (.int x :: S) w Q) : Go d M n0 nE n pc L (S) w Q := by
  obtain ⟨hd, rfl⟩ := hd
  intro p l e R s m args below meth c g Z hC hE H locs ls hP hS hl
  obtain ⟨hx, hb, -⟩ := id hC
  exact lv_iload hx hb hd (zl_at hl hl0) (k p l e R s m args below meth c g Z hC hE H locs ls hP hS hl)
theorem g_iload_n {d : Nat} {M : zM} {n0 nE n pc q : Nat} {L : List (Nat × Value)} {S : List Value} {w : Mm} {Q : Option Value → Mm → Prop} {k0 : Fin 4} {i : Nat} {x : Int32} (j : Nat) (hd : zd M pc (.iload_n k0) 1 q) (hi : (k0 : Nat) = i) (hl0 : L[j]? = some (i, .int x)) (k : Go d M n0 nE n q L (.int x :: S) w Q) : Go d M n0 nE n pc L (S) w Q := by
  obtain ⟨hd, rfl⟩ := hd
  intro p l e R s m args below meth c g Z hC hE H locs ls hP hS hl
  obtain ⟨hx, hb, -⟩ := id hC
  exact lv_iload_n hx hb hd hi (zl_at hl hl0) (k p l e R s m args below meth c g Z hC hE H locs ls hP hS hl)
theorem g_lload {d : Nat} {M : zM} {n0 nE n pc q : Nat} {L : List (Nat × Value)} {S : List Value} {w : Mm} {Q : Option Value → Mm → Prop} {i : Nat} {x : Int64} (j : Nat) (hd : zd M pc (.lload i) 2 q) (hl0 : L[j]? = some (i, .long x)) (k : Go d M n0 nE n q L (.long x :: S) w Q) : Go d M n0 nE n pc L (S) w Q := by
  obtain ⟨hd, rfl⟩ := hd
  intro p l e R s m args below meth c g Z hC hE H locs ls hP hS hl
  obtain ⟨hx, hb, -⟩ := id hC
  exact lv_lload hx hb hd (zl_at hl hl0) (k p l e R s m args below meth c g Z hC hE H locs ls hP hS hl)
theorem g_lload_n {d : Nat} {M : zM} {n0 nE n pc q : Nat} {L : List (Nat × Value)} {S : List Value} {w : Mm} {Q : Option Value → Mm → Prop} {k0 : Fin 4} {i : Nat} {x : Int64} (j : Nat) (hd : zd M pc (.lload_n k0) 1 q) (hi : (k0 : Nat) = i) (hl0 : L[j]? = some (i, .long x)) (k : Go d M n0 nE n q L (.long x :: S) w Q) : Go d M n0 nE n pc L (S) w Q := by
  obtain ⟨hd, rfl⟩ := hd
  intro p l e R s m args below meth c g Z hC hE H locs ls hP hS hl
  obtain ⟨hx, hb, -⟩ := id hC
  exact lv_lload_n hx hb hd hi (zl_at hl hl0) (k p l e R s m args below meth c g Z hC hE H locs ls hP hS hl)
theorem g_aload {d : Nat} {M : zM} {n0 nE n pc q : Nat} {L : List (Nat × Value)} {S : List Value} {w : Mm} {Q : Option Value → Mm → Prop} {i : Nat} {x : Nat} (j : Nat) (hd : zd M pc (.aload i) 2 q) (hl0 : L[j]? = some (i, .ref x)) (k : Go d M n0 nE n q L (.ref x :: S) w Q) : Go d M n0 nE n pc L (S) w Q := by
  obtain ⟨hd, rfl⟩ := hd
  intro p l e R s m args below meth c g Z hC hE H locs ls hP hS hl
  obtain ⟨hx, hb, -⟩ := id hC
  exact lv_aload hx hb hd (zl_at hl hl0) (k p l e R s m args below meth c g Z hC hE H locs ls hP hS hl)
theorem g_aload_n {d : Nat} {M : zM} {n0 nE n pc q : Nat} {L : List (Nat × Value)} {S : List Value} {w : Mm} {Q : Option Value → Mm → Prop} {k0 : Fin 4} {i : Nat} {x : Nat} (j : Nat) (hd : zd M pc (.aload_n k0) 1 q) (hi : (k0 : Nat) = i) (hl0 : L[j]? = some (i, .ref x)) (k : Go d M n0 nE n q L (.ref x :: S) w Q) : Go d M n0 nE n pc L (S) w Q := by
  obtain ⟨hd, rfl⟩ := hd
  intro p l e R s m args below meth c g Z hC hE H locs ls hP hS hl
  obtain ⟨hx, hb, -⟩ := id hC
  exact lv_aload_n hx hb hd hi (zl_at hl hl0) (k p l e R s m args below meth c g Z hC hE H locs ls hP hS hl)
theorem g_istore {d : Nat} {M : zM} {n0 nE n pc q : Nat} {L : List (Nat × Value)} {S : List Value} {w : Mm} {Q : Option Value → Mm → Prop} {i : Nat} {x : Int32} {L' : List (Nat × Value)} (hd : zd M pc (.istore i) 2 q) (hn : i < M.2.2.1) (hL : zset1 L i (.int x) = L') (k : Go d M n0 nE n q L' S w Q) : Go d M n0 nE n pc L (.int x :: S) w Q := by
  obtain ⟨hd, rfl⟩ := hd
  intro p l e R s m args below meth c g Z hC hE H locs ls hP hS hl
  obtain ⟨hx, hb, -⟩ := id hC
  subst hL
  exact lv_istore hx hb hd hl hn (zset1_map g L i (.int x)) (fun ls hl => k p l e R s m args below meth c g Z hC hE H locs ls hP hS hl)
theorem g_istore_n {d : Nat} {M : zM} {n0 nE n pc q : Nat} {L : List (Nat × Value)} {S : List Value} {w : Mm} {Q : Option Value → Mm → Prop} {k0 : Fin 4} {i : Nat} {x : Int32} {L' : List (Nat × Value)} (hd : zd M pc (.istore_n k0) 1 q) (hi : (k0 : Nat) = i) (hn : i < M.2.2.1) (hL : zset1 L i (.int x) = L') (k : Go d M n0 nE n q L' S w Q) : Go d M n0 nE n pc L (.int x :: S) w Q := by
  obtain ⟨hd, rfl⟩ := hd
  intro p l e R s m args below meth c g Z hC hE H locs ls hP hS hl
  obtain ⟨hx, hb, -⟩ := id hC
  subst hL
  exact lv_istore_n hx hb hd hi hl hn (zset1_map g L i (.int x)) (fun ls hl => k p l e R s m args below meth c g Z hC hE H locs ls hP hS hl)
theorem g_lstore {d : Nat} {M : zM} {n0 nE n pc q : Nat} {L : List (Nat × Value)} {S : List Value} {w : Mm} {Q : Option Value → Mm → Prop} {i : Nat} {x : Int64} {L' : List (Nat × Value)} (hd : zd M pc (.lstore i) 2 q) (hn : i + 1 < M.2.2.1) (hL : zset2 L i (.long x) = L') (k : Go d M n0 nE n q L' S w Q) : Go d M n0 nE n pc L (.long x :: S) w Q := by
  obtain ⟨hd, rfl⟩ := hd
  intro p l e R s m args below meth c g Z hC hE H locs ls hP hS hl
  obtain ⟨hx, hb, -⟩ := id hC
  subst hL
  exact lv_lstore hx hb hd hl hn (zset2_map g L i (.long x)) (fun ls hl => k p l e R s m args below meth c g Z hC hE H locs ls hP hS hl)
theorem g_lstore_n {d : Nat} {M : zM} {n0 nE n pc q : Nat} {L : List (Nat × Value)} {S : List Value} {w : Mm} {Q : Option Value → Mm → Prop} {k0 : Fin 4} {i : Nat} {x : Int64} {L' : List (Nat × Value)} (hd : zd M pc (.lstore_n k0) 1 q) (hi : (k0 : Nat) = i) (hn : i + 1 < M.2.2.1) (hL : zset2 L i (.long x) = L') (k : Go d M n0 nE n q L' S w Q) : Go d M n0 nE n pc L (.long x :: S) w Q := by
  obtain ⟨hd, rfl⟩ := hd
  intro p l e R s m args below meth c g Z hC hE H locs ls hP hS hl
  obtain ⟨hx, hb, -⟩ := id hC
  subst hL
  exact lv_lstore_n hx hb hd hi hl hn (zset2_map g L i (.long x)) (fun ls hl => k p l e R s m args below meth c g Z hC hE H locs ls hP hS hl)
theorem g_astore {d : Nat} {M : zM} {n0 nE n pc q : Nat} {L : List (Nat × Value)} {S : List Value} {w : Mm} {Q : Option Value → Mm → Prop} {i : Nat} {x : Nat} {L' : List (Nat × Value)} (hd : zd M pc (.astore i) 2 q) (hn : i < M.2.2.1) (hL : zset1 L i (.ref x) = L') (k : Go d M n0 nE n q L' S w Q) : Go d M n0 nE n pc L (.ref x :: S) w Q := by
  obtain ⟨hd, rfl⟩ := hd
  intro p l e R s m args below meth c g Z hC hE H locs ls hP hS hl
  obtain ⟨hx, hb, -⟩ := id hC
  subst hL
  exact lv_astore hx hb hd hl hn (zset1_map g L i (.ref x)) (fun ls hl => k p l e R s m args below meth c g Z hC hE H locs ls hP hS hl)
theorem g_astore_n {d : Nat} {M : zM} {n0 nE n pc q : Nat} {L : List (Nat × Value)} {S : List Value} {w : Mm} {Q : Option Value → Mm → Prop} {k0 : Fin 4} {i : Nat} {x : Nat} {L' : List (Nat × Value)} (hd : zd M pc (.astore_n k0) 1 q) (hi : (k0 : Nat) = i) (hn : i < M.2.2.1) (hL : zset1 L i (.ref x) = L') (k : Go d M n0 nE n q L' S w Q) : Go d M n0 nE n pc L (.ref x :: S) w Q := by
  obtain ⟨hd, rfl⟩ := hd
  intro p l e R s m args below meth c g Z hC hE H locs ls hP hS hl
  obtain ⟨hx, hb, -⟩ := id hC
  subst hL
  exact lv_astore_n hx hb hd hi hl hn (zset1_map g L i (.ref x)) (fun ls hl => k p l e R s m args below meth c g Z hC hE H locs ls hP hS hl)
theorem g_iinc {d : Nat} {M : zM} {n0 nE n pc q : Nat} {L : List (Nat × Value)} {S : List Value} {w : Mm} {Q : Option Value → Mm → Prop} {i : Nat} {x v : Int32} {a : Int} {L' : List (Nat × Value)} (j : Nat) (hd : zd M pc (.iinc i a) 3 q) (hl0 : L[j]? = some (i, .int x)) (hv : x + Int32.ofInt a = v) (hn : i < M.2.2.1) (hL : zset1 L i (.int v) = L') (k : Go d M n0 nE n q L' S w Q) : Go d M n0 nE n pc L S w Q := by
  obtain ⟨hd, rfl⟩ := hd
  intro p l e R s m args below meth c g Z hC hE H locs ls hP hS hl
  obtain ⟨hx, hb, -⟩ := id hC
  subst hL
  exact lv_iinc (lv := L.map (zl g)) (k := j) hx hb hd hl (by rw [List.getElem?_map, hl0]; rfl) hv hn (zset1_map g L i (.int v)) (fun ls hl => k p l e R s m args below meth c g Z hC hE H locs ls hP hS hl)
theorem g_iconst {d : Nat} {M : zM} {n0 nE n pc q : Nat} {L : List (Nat × Value)} {S : List Value} {w : Mm} {Q : Option Value → Mm → Prop} {a : Int} (v : Int32) (hd : zd M pc (.iconst a) 1 q) (hv : Int32.ofInt a = v) (k : Go d M n0 nE n q L (.int v :: S) w Q) : Go d M n0 nE n pc L (S) w Q := by
  obtain ⟨hd, rfl⟩ := hd
  intro p l e R s m args below meth c g Z hC hE H locs ls hP hS hl
  obtain ⟨hx, hb, -⟩ := id hC
  exact lv_iconst hx hb hd hv (k p l e R s m args below meth c g Z hC hE H locs ls hP hS hl)
theorem g_bipush {d : Nat} {M : zM} {n0 nE n pc q : Nat} {L : List (Nat × Value)} {S : List Value} {w : Mm} {Q : Option Value → Mm → Prop} {a : Int} (v : Int32) (hd : zd M pc (.bipush a) 2 q) (hv : (Int8.ofInt a).toInt32 = v) (k : Go d M n0 nE n q L (.int v :: S) w Q) : Go d M n0 nE n pc L (S) w Q := by
  obtain ⟨hd, rfl⟩ := hd
  intro p l e R s m args below meth c g Z hC hE H locs ls hP hS hl
  obtain ⟨hx, hb, -⟩ := id hC
  exact lv_bipush hx hb hd hv (k p l e R s m args below meth c g Z hC hE H locs ls hP hS hl)
theorem g_sipush {d : Nat} {M : zM} {n0 nE n pc q : Nat} {L : List (Nat × Value)} {S : List Value} {w : Mm} {Q : Option Value → Mm → Prop} {a : Int} (v : Int32) (hd : zd M pc (.sipush a) 3 q) (hv : (Int16.ofInt a).toInt32 = v) (k : Go d M n0 nE n q L (.int v :: S) w Q) : Go d M n0 nE n pc L (S) w Q := by
  obtain ⟨hd, rfl⟩ := hd
  intro p l e R s m args below meth c g Z hC hE H locs ls hP hS hl
  obtain ⟨hx, hb, -⟩ := id hC
  exact lv_sipush hx hb hd hv (k p l e R s m args below meth c g Z hC hE H locs ls hP hS hl)
theorem g_lconst {d : Nat} {M : zM} {n0 nE n pc q : Nat} {L : List (Nat × Value)} {S : List Value} {w : Mm} {Q : Option Value → Mm → Prop} {a : Fin 2} (v : Int64) (hd : zd M pc (.lconst a) 1 q) (hv : Int64.ofNat (a : Nat) = v) (k : Go d M n0 nE n q L (.long v :: S) w Q) : Go d M n0 nE n pc L (S) w Q := by
  obtain ⟨hd, rfl⟩ := hd
  intro p l e R s m args below meth c g Z hC hE H locs ls hP hS hl
  obtain ⟨hx, hb, -⟩ := id hC
  exact lv_lconst hx hb hd hv (k p l e R s m args below meth c g Z hC hE H locs ls hP hS hl)
theorem g_ldc {d : Nat} {M : zM} {n0 nE n pc q : Nat} {L : List (Nat × Value)} {S : List Value} {w : Mm} {Q : Option Value → Mm → Prop} {a : Nat} {v : Int32} (hd : zd M pc (.ldc a) 2 q) (hc : Cond.constant M.1.cls a v ∈ zT) (k : Go d M n0 nE n q L (.int v :: S) w Q) : Go d M n0 nE n pc L (S) w Q := by
  obtain ⟨hd, rfl⟩ := hd
  intro p l e R s m args below meth c g Z hC hE H locs ls hP hS hl
  obtain ⟨hx, hb, -⟩ := id hC
  exact lv_ldc hx hb hC.2.2.2.1 (hC.2.2.2.2.1 _ hc) hd (k p l e R s m args below meth c g Z hC hE H locs ls hP hS hl)
theorem g_ldc2 {d : Nat} {M : zM} {n0 nE n pc q : Nat} {L : List (Nat × Value)} {S : List Value} {w : Mm} {Q : Option Value → Mm → Prop} {a : Nat} {v : Int64} (hd : zd M pc (.ldc2_w a) 3 q) (hc : Cond.constantLong M.1.cls a v ∈ zT) (k : Go d M n0 nE n q L (.long v :: S) w Q) : Go d M n0 nE n pc L (S) w Q := by
  obtain ⟨hd, rfl⟩ := hd
  intro p l e R s m args below meth c g Z hC hE H locs ls hP hS hl
  obtain ⟨hx, hb, -⟩ := id hC
  exact lv_ldc2 hx hb hC.2.2.2.1 (hC.2.2.2.2.1 _ hc) hd (k p l e R s m args below meth c g Z hC hE H locs ls hP hS hl)
theorem g_iadd {d : Nat} {M : zM} {n0 nE n pc q : Nat} {L : List (Nat × Value)} {S : List Value} {w : Mm} {Q : Option Value → Mm → Prop} {x y : Int32} (hd : zd M pc (.iadd) 1 q) (k : Go d M n0 nE n q L (.int (x + y) :: S) w Q) : Go d M n0 nE n pc L (.int y :: .int x :: S) w Q := by
  obtain ⟨hd, rfl⟩ := hd
  intro p l e R s m args below meth c g Z hC hE H locs ls hP hS hl
  obtain ⟨hx, hb, -⟩ := id hC
  exact lv_iadd hx hb hd (k p l e R s m args below meth c g Z hC hE H locs ls hP hS hl)
theorem g_isub {d : Nat} {M : zM} {n0 nE n pc q : Nat} {L : List (Nat × Value)} {S : List Value} {w : Mm} {Q : Option Value → Mm → Prop} {x y : Int32} (hd : zd M pc (.isub) 1 q) (k : Go d M n0 nE n q L (.int (x - y) :: S) w Q) : Go d M n0 nE n pc L (.int y :: .int x :: S) w Q := by
  obtain ⟨hd, rfl⟩ := hd
  intro p l e R s m args below meth c g Z hC hE H locs ls hP hS hl
  obtain ⟨hx, hb, -⟩ := id hC
  exact lv_isub hx hb hd (k p l e R s m args below meth c g Z hC hE H locs ls hP hS hl)
theorem g_imul {d : Nat} {M : zM} {n0 nE n pc q : Nat} {L : List (Nat × Value)} {S : List Value} {w : Mm} {Q : Option Value → Mm → Prop} {x y : Int32} (hd : zd M pc (.imul) 1 q) (k : Go d M n0 nE n q L (.int (x * y) :: S) w Q) : Go d M n0 nE n pc L (.int y :: .int x :: S) w Q := by
  obtain ⟨hd, rfl⟩ := hd
  intro p l e R s m args below meth c g Z hC hE H locs ls hP hS hl
  obtain ⟨hx, hb, -⟩ := id hC
  exact lv_imul hx hb hd (k p l e R s m args below meth c g Z hC hE H locs ls hP hS hl)
theorem g_iand {d : Nat} {M : zM} {n0 nE n pc q : Nat} {L : List (Nat × Value)} {S : List Value} {w : Mm} {Q : Option Value → Mm → Prop} {x y : Int32} (hd : zd M pc (.iand) 1 q) (k : Go d M n0 nE n q L (.int (x &&& y) :: S) w Q) : Go d M n0 nE n pc L (.int y :: .int x :: S) w Q := by
  obtain ⟨hd, rfl⟩ := hd
  intro p l e R s m args below meth c g Z hC hE H locs ls hP hS hl
  obtain ⟨hx, hb, -⟩ := id hC
  exact lv_iand hx hb hd (k p l e R s m args below meth c g Z hC hE H locs ls hP hS hl)
theorem g_ior {d : Nat} {M : zM} {n0 nE n pc q : Nat} {L : List (Nat × Value)} {S : List Value} {w : Mm} {Q : Option Value → Mm → Prop} {x y : Int32} (hd : zd M pc (.ior) 1 q) (k : Go d M n0 nE n q L (.int (x ||| y) :: S) w Q) : Go d M n0 nE n pc L (.int y :: .int x :: S) w Q := by
  obtain ⟨hd, rfl⟩ := hd
  intro p l e R s m args below meth c g Z hC hE H locs ls hP hS hl
  obtain ⟨hx, hb, -⟩ := id hC
  exact lv_ior hx hb hd (k p l e R s m args below meth c g Z hC hE H locs ls hP hS hl)
theorem g_ixor {d : Nat} {M : zM} {n0 nE n pc q : Nat} {L : List (Nat × Value)} {S : List Value} {w : Mm} {Q : Option Value → Mm → Prop} {x y : Int32} (hd : zd M pc (.ixor) 1 q) (k : Go d M n0 nE n q L (.int (x ^^^ y) :: S) w Q) : Go d M n0 nE n pc L (.int y :: .int x :: S) w Q := by
  obtain ⟨hd, rfl⟩ := hd
  intro p l e R s m args below meth c g Z hC hE H locs ls hP hS hl
  obtain ⟨hx, hb, -⟩ := id hC
  exact lv_ixor hx hb hd (k p l e R s m args below meth c g Z hC hE H locs ls hP hS hl)
theorem g_ishl {d : Nat} {M : zM} {n0 nE n pc q : Nat} {L : List (Nat × Value)} {S : List Value} {w : Mm} {Q : Option Value → Mm → Prop} {x y : Int32} (hd : zd M pc (.ishl) 1 q) (k : Go d M n0 nE n q L (.int (x <<< (y &&& 31)) :: S) w Q) : Go d M n0 nE n pc L (.int y :: .int x :: S) w Q := by
  obtain ⟨hd, rfl⟩ := hd
  intro p l e R s m args below meth c g Z hC hE H locs ls hP hS hl
  obtain ⟨hx, hb, -⟩ := id hC
  exact lv_ishl hx hb hd (k p l e R s m args below meth c g Z hC hE H locs ls hP hS hl)
theorem g_ishr {d : Nat} {M : zM} {n0 nE n pc q : Nat} {L : List (Nat × Value)} {S : List Value} {w : Mm} {Q : Option Value → Mm → Prop} {x y : Int32} (hd : zd M pc (.ishr) 1 q) (k : Go d M n0 nE n q L (.int (x >>> (y &&& 31)) :: S) w Q) : Go d M n0 nE n pc L (.int y :: .int x :: S) w Q := by
  obtain ⟨hd, rfl⟩ := hd
  intro p l e R s m args below meth c g Z hC hE H locs ls hP hS hl
  obtain ⟨hx, hb, -⟩ := id hC
  exact lv_ishr hx hb hd (k p l e R s m args below meth c g Z hC hE H locs ls hP hS hl)
theorem g_iushr {d : Nat} {M : zM} {n0 nE n pc q : Nat} {L : List (Nat × Value)} {S : List Value} {w : Mm} {Q : Option Value → Mm → Prop} {x y : Int32} (hd : zd M pc (.iushr) 1 q) (k : Go d M n0 nE n q L (.int ((x.toUInt32 >>> (y.toUInt32 &&& Int32.toUInt32 31)).toInt32) :: S) w Q) : Go d M n0 nE n pc L (.int y :: .int x :: S) w Q := by
  obtain ⟨hd, rfl⟩ := hd
  intro p l e R s m args below meth c g Z hC hE H locs ls hP hS hl
  obtain ⟨hx, hb, -⟩ := id hC
  exact lv_iushr hx hb hd rfl (k p l e R s m args below meth c g Z hC hE H locs ls hP hS hl)
theorem g_ineg {d : Nat} {M : zM} {n0 nE n pc q : Nat} {L : List (Nat × Value)} {S : List Value} {w : Mm} {Q : Option Value → Mm → Prop} {x : Int32} (hd : zd M pc (.ineg) 1 q) (k : Go d M n0 nE n q L (.int (-x) :: S) w Q) : Go d M n0 nE n pc L (.int x :: S) w Q := by
  obtain ⟨hd, rfl⟩ := hd
  intro p l e R s m args below meth c g Z hC hE H locs ls hP hS hl
  obtain ⟨hx, hb, -⟩ := id hC
  exact lv_ineg hx hb hd (k p l e R s m args below meth c g Z hC hE H locs ls hP hS hl)
theorem g_idiv {d : Nat} {M : zM} {n0 nE n pc q : Nat} {L : List (Nat × Value)} {S : List Value} {w : Mm} {Q : Option Value → Mm → Prop} {x y : Int32} (hd : zd M pc (.idiv) 1 q) (hne : ¬ y = 0) (k : Go d M n0 nE n q L (.int (x / y) :: S) w Q) : Go d M n0 nE n pc L (.int y :: .int x :: S) w Q := by
  obtain ⟨hd, rfl⟩ := hd
  intro p l e R s m args below meth c g Z hC hE H locs ls hP hS hl
  obtain ⟨hx, hb, -⟩ := id hC
  exact lv_idiv hx hb hd hne (k p l e R s m args below meth c g Z hC hE H locs ls hP hS hl)
theorem irem_eq (x y : Int32) : x - x / y * y = x % y := by
  apply Int32.toInt_inj.mp
  rw [Int32.toInt_sub, Int32.toInt_mul, Int32.toInt_div, Int.sub_bmod_bmod, Int32.toInt_mod]
  have h : (x % y).toInt = x.toInt.tmod y.toInt := Int32.toInt_mod x y
  have e : x.toInt - x.toInt.tdiv y.toInt * y.toInt = x.toInt.tmod y.toInt := by rw [Int.tmod_def, Int.mul_comm]
  rw [← h] at e ⊢
  rw [← Int.sub_bmod_bmod, Int.bmod_mul_bmod, Int.sub_bmod_bmod, e]
  have h1 := Int32.le_toInt (x % y)
  have h2 := Int32.toInt_lt (x % y)
  exact Int.bmod_eq_of_le (by omega) (by omega)
theorem lrem_eq (x y : Int64) : x - x / y * y = x % y := by
  apply Int64.toInt_inj.mp
  rw [Int64.toInt_sub, Int64.toInt_mul, Int64.toInt_div, Int.sub_bmod_bmod, Int64.toInt_mod]
  have h : (x % y).toInt = x.toInt.tmod y.toInt := Int64.toInt_mod x y
  have e : x.toInt - x.toInt.tdiv y.toInt * y.toInt = x.toInt.tmod y.toInt := by rw [Int.tmod_def, Int.mul_comm]
  rw [← h] at e ⊢
  rw [← Int.sub_bmod_bmod, Int.bmod_mul_bmod, Int.sub_bmod_bmod, e]
  have h1 := Int64.le_toInt (x % y)
  have h2 := Int64.toInt_lt (x % y)
  exact Int.bmod_eq_of_le (by omega) (by omega)
theorem g_irem {d : Nat} {M : zM} {n0 nE n pc q : Nat} {L : List (Nat × Value)} {S : List Value} {w : Mm} {Q : Option Value → Mm → Prop} {x y : Int32} (hd : zd M pc (.irem) 1 q) (hne : ¬ y = 0) (k : Go d M n0 nE n q L (.int (x % y) :: S) w Q) : Go d M n0 nE n pc L (.int y :: .int x :: S) w Q := by
  obtain ⟨hd, rfl⟩ := hd
  intro p l e R s m args below meth c g Z hC hE H locs ls hP hS hl
  obtain ⟨hx, hb, -⟩ := id hC
  rw [← irem_eq] at k
  exact lv_irem hx hb hd hne (k p l e R s m args below meth c g Z hC hE H locs ls hP hS hl)
theorem g_lrem {d : Nat} {M : zM} {n0 nE n pc q : Nat} {L : List (Nat × Value)} {S : List Value} {w : Mm} {Q : Option Value → Mm → Prop} {x y : Int64} (hd : zd M pc (.lrem) 1 q) (hne : ¬ y = 0) (k : Go d M n0 nE n q L (.long (x % y) :: S) w Q) : Go d M n0 nE n pc L (.long y :: .long x :: S) w Q := by
  obtain ⟨hd, rfl⟩ := hd
  intro p l e R s m args below meth c g Z hC hE H locs ls hP hS hl
  obtain ⟨hx, hb, -⟩ := id hC
  rw [← lrem_eq] at k
  exact lv_lrem hx hb hd hne (k p l e R s m args below meth c g Z hC hE H locs ls hP hS hl)
theorem g_ldiv {d : Nat} {M : zM} {n0 nE n pc q : Nat} {L : List (Nat × Value)} {S : List Value} {w : Mm} {Q : Option Value → Mm → Prop} {x y : Int64} (hd : zd M pc (.ldiv) 1 q) (hne : ¬ y = 0) (k : Go d M n0 nE n q L (.long (x / y) :: S) w Q) : Go d M n0 nE n pc L (.long y :: .long x :: S) w Q := by
  obtain ⟨hd, rfl⟩ := hd
  intro p l e R s m args below meth c g Z hC hE H locs ls hP hS hl
  obtain ⟨hx, hb, -⟩ := id hC
  exact lv_ldiv hx hb hd hne (k p l e R s m args below meth c g Z hC hE H locs ls hP hS hl)
theorem g_ladd {d : Nat} {M : zM} {n0 nE n pc q : Nat} {L : List (Nat × Value)} {S : List Value} {w : Mm} {Q : Option Value → Mm → Prop} {x y : Int64} (hd : zd M pc (.ladd) 1 q) (k : Go d M n0 nE n q L (.long (x + y) :: S) w Q) : Go d M n0 nE n pc L (.long y :: .long x :: S) w Q := by
  obtain ⟨hd, rfl⟩ := hd
  intro p l e R s m args below meth c g Z hC hE H locs ls hP hS hl
  obtain ⟨hx, hb, -⟩ := id hC
  exact lv_ladd hx hb hd (k p l e R s m args below meth c g Z hC hE H locs ls hP hS hl)
theorem g_lsub {d : Nat} {M : zM} {n0 nE n pc q : Nat} {L : List (Nat × Value)} {S : List Value} {w : Mm} {Q : Option Value → Mm → Prop} {x y : Int64} (hd : zd M pc (.lsub) 1 q) (k : Go d M n0 nE n q L (.long (x - y) :: S) w Q) : Go d M n0 nE n pc L (.long y :: .long x :: S) w Q := by
  obtain ⟨hd, rfl⟩ := hd
  intro p l e R s m args below meth c g Z hC hE H locs ls hP hS hl
  obtain ⟨hx, hb, -⟩ := id hC
  exact lv_lsub hx hb hd (k p l e R s m args below meth c g Z hC hE H locs ls hP hS hl)
theorem g_lmul {d : Nat} {M : zM} {n0 nE n pc q : Nat} {L : List (Nat × Value)} {S : List Value} {w : Mm} {Q : Option Value → Mm → Prop} {x y : Int64} (hd : zd M pc (.lmul) 1 q) (k : Go d M n0 nE n q L (.long (x * y) :: S) w Q) : Go d M n0 nE n pc L (.long y :: .long x :: S) w Q := by
  obtain ⟨hd, rfl⟩ := hd
  intro p l e R s m args below meth c g Z hC hE H locs ls hP hS hl
  obtain ⟨hx, hb, -⟩ := id hC
  exact lv_lmul hx hb hd (k p l e R s m args below meth c g Z hC hE H locs ls hP hS hl)
theorem g_i2l {d : Nat} {M : zM} {n0 nE n pc q : Nat} {L : List (Nat × Value)} {S : List Value} {w : Mm} {Q : Option Value → Mm → Prop} {x : Int32} (hd : zd M pc (.i2l) 1 q) (k : Go d M n0 nE n q L (.long x.toInt64 :: S) w Q) : Go d M n0 nE n pc L (.int x :: S) w Q := by
  obtain ⟨hd, rfl⟩ := hd
  intro p l e R s m args below meth c g Z hC hE H locs ls hP hS hl
  obtain ⟨hx, hb, -⟩ := id hC
  exact lv_i2l hx hb hd rfl (k p l e R s m args below meth c g Z hC hE H locs ls hP hS hl)
theorem g_l2i {d : Nat} {M : zM} {n0 nE n pc q : Nat} {L : List (Nat × Value)} {S : List Value} {w : Mm} {Q : Option Value → Mm → Prop} {x : Int64} (hd : zd M pc (.l2i) 1 q) (k : Go d M n0 nE n q L (.int x.toInt32 :: S) w Q) : Go d M n0 nE n pc L (.long x :: S) w Q := by
  obtain ⟨hd, rfl⟩ := hd
  intro p l e R s m args below meth c g Z hC hE H locs ls hP hS hl
  obtain ⟨hx, hb, -⟩ := id hC
  exact lv_l2i hx hb hd rfl (k p l e R s m args below meth c g Z hC hE H locs ls hP hS hl)
theorem g_i2b {d : Nat} {M : zM} {n0 nE n pc q : Nat} {L : List (Nat × Value)} {S : List Value} {w : Mm} {Q : Option Value → Mm → Prop} {x : Int32} (hd : zd M pc (.i2b) 1 q) (k : Go d M n0 nE n q L (.int x.toInt8.toInt32 :: S) w Q) : Go d M n0 nE n pc L (.int x :: S) w Q := by
  obtain ⟨hd, rfl⟩ := hd
  intro p l e R s m args below meth c g Z hC hE H locs ls hP hS hl
  obtain ⟨hx, hb, -⟩ := id hC
  exact lv_i2b hx hb hd rfl (k p l e R s m args below meth c g Z hC hE H locs ls hP hS hl)
theorem g_i2s {d : Nat} {M : zM} {n0 nE n pc q : Nat} {L : List (Nat × Value)} {S : List Value} {w : Mm} {Q : Option Value → Mm → Prop} {x : Int32} (hd : zd M pc (.i2s) 1 q) (k : Go d M n0 nE n q L (.int x.toInt16.toInt32 :: S) w Q) : Go d M n0 nE n pc L (.int x :: S) w Q := by
  obtain ⟨hd, rfl⟩ := hd
  intro p l e R s m args below meth c g Z hC hE H locs ls hP hS hl
  obtain ⟨hx, hb, -⟩ := id hC
  exact lv_i2s hx hb hd rfl (k p l e R s m args below meth c g Z hC hE H locs ls hP hS hl)
theorem g_dup {d : Nat} {M : zM} {n0 nE n pc q : Nat} {L : List (Nat × Value)} {S : List Value} {w : Mm} {Q : Option Value → Mm → Prop} {va : Value} (hd : zd M pc (.dup) 1 q) (hva : va.category = 1) (k : Go d M n0 nE n q L (va :: va :: S) w Q) : Go d M n0 nE n pc L (va :: S) w Q := by
  obtain ⟨hd, rfl⟩ := hd
  intro p l e R s m args below meth c g Z hC hE H locs ls hP hS hl
  obtain ⟨hx, hb, -⟩ := id hC
  exact lv_dup hx hb hd ((zv_cat g va).trans hva) (k p l e R s m args below meth c g Z hC hE H locs ls hP hS hl)
theorem g_pop {d : Nat} {M : zM} {n0 nE n pc q : Nat} {L : List (Nat × Value)} {S : List Value} {w : Mm} {Q : Option Value → Mm → Prop} {va : Value} (hd : zd M pc (.pop) 1 q) (hva : va.category = 1) (k : Go d M n0 nE n q L (S) w Q) : Go d M n0 nE n pc L (va :: S) w Q := by
  obtain ⟨hd, rfl⟩ := hd
  intro p l e R s m args below meth c g Z hC hE H locs ls hP hS hl
  obtain ⟨hx, hb, -⟩ := id hC
  exact lv_pop hx hb hd ((zv_cat g va).trans hva) (k p l e R s m args below meth c g Z hC hE H locs ls hP hS hl)
theorem g_dup2 {d : Nat} {M : zM} {n0 nE n pc q : Nat} {L : List (Nat × Value)} {S : List Value} {w : Mm} {Q : Option Value → Mm → Prop} {va vb : Value} (hd : zd M pc (.dup2) 1 q) (hva : va.category = 1) (hvb : vb.category = 1) (k : Go d M n0 nE n q L (va :: vb :: va :: vb :: S) w Q) : Go d M n0 nE n pc L (va :: vb :: S) w Q := by
  obtain ⟨hd, rfl⟩ := hd
  intro p l e R s m args below meth c g Z hC hE H locs ls hP hS hl
  obtain ⟨hx, hb, -⟩ := id hC
  exact lv_dup2_11 hx hb hd ((zv_cat g va).trans hva) ((zv_cat g vb).trans hvb) (k p l e R s m args below meth c g Z hC hE H locs ls hP hS hl)
theorem g_dup_x1 {d : Nat} {M : zM} {n0 nE n pc q : Nat} {L : List (Nat × Value)} {S : List Value} {w : Mm} {Q : Option Value → Mm → Prop} {va vb : Value} (hd : zd M pc (.dup_x1) 1 q) (hva : va.category = 1) (hvb : vb.category = 1) (k : Go d M n0 nE n q L (va :: vb :: va :: S) w Q) : Go d M n0 nE n pc L (va :: vb :: S) w Q := by
  obtain ⟨hd, rfl⟩ := hd
  intro p l e R s m args below meth c g Z hC hE H locs ls hP hS hl
  obtain ⟨hx, hb, -⟩ := id hC
  exact lv_dup_x1 hx hb hd ((zv_cat g va).trans hva) ((zv_cat g vb).trans hvb) (k p l e R s m args below meth c g Z hC hE H locs ls hP hS hl)
theorem i_nlt {x y : Int32} : ¬ x < y ↔ y ≤ x := by
  rw [Int32.lt_iff_toInt_lt, Int32.le_iff_toInt_le]; omega
theorem g_icmp_eq {d : Nat} {M : zM} {n0 nE n pc q : Nat} {L : List (Nat × Value)} {S : List Value} {w : Mm} {Q : Option Value → Mm → Prop} {x y : Int32} {off : Int} {tgt : Nat} (hd : zd M pc (.if_icmp .eq off) 3 q) (ht : (pc : Int) + off = (tgt : Int)) (kt : x = y → Go d M n0 nE n tgt L S w Q) (kf : ¬ x = y → Go d M n0 nE n q L S w Q) : Go d M n0 nE n pc L (.int y :: .int x :: S) w Q := by
  obtain ⟨hd, rfl⟩ := hd
  intro p l e R s m args below meth c g Z hC hE H locs ls hP hS hl
  obtain ⟨hx, hb, -⟩ := id hC
  exact lv_icmp_eq hx hb hd ht (fun h => (kt h) p l e R s m args below meth c g Z hC hE H locs ls hP hS hl) (fun h => (kf h) p l e R s m args below meth c g Z hC hE H locs ls hP hS hl)
theorem g_icmp_ne {d : Nat} {M : zM} {n0 nE n pc q : Nat} {L : List (Nat × Value)} {S : List Value} {w : Mm} {Q : Option Value → Mm → Prop} {x y : Int32} {off : Int} {tgt : Nat} (hd : zd M pc (.if_icmp .ne off) 3 q) (ht : (pc : Int) + off = (tgt : Int)) (kt : ¬ x = y → Go d M n0 nE n tgt L S w Q) (kf : x = y → Go d M n0 nE n q L S w Q) : Go d M n0 nE n pc L (.int y :: .int x :: S) w Q := by
  obtain ⟨hd, rfl⟩ := hd
  intro p l e R s m args below meth c g Z hC hE H locs ls hP hS hl
  obtain ⟨hx, hb, -⟩ := id hC
  exact lv_icmp_ne hx hb hd ht (fun h => (kt h) p l e R s m args below meth c g Z hC hE H locs ls hP hS hl) (fun h => (kf h) p l e R s m args below meth c g Z hC hE H locs ls hP hS hl)
theorem g_icmp_lt {d : Nat} {M : zM} {n0 nE n pc q : Nat} {L : List (Nat × Value)} {S : List Value} {w : Mm} {Q : Option Value → Mm → Prop} {x y : Int32} {off : Int} {tgt : Nat} (hd : zd M pc (.if_icmp .lt off) 3 q) (ht : (pc : Int) + off = (tgt : Int)) (kt : x < y → Go d M n0 nE n tgt L S w Q) (kf : ¬ x < y → Go d M n0 nE n q L S w Q) : Go d M n0 nE n pc L (.int y :: .int x :: S) w Q := by
  obtain ⟨hd, rfl⟩ := hd
  intro p l e R s m args below meth c g Z hC hE H locs ls hP hS hl
  obtain ⟨hx, hb, -⟩ := id hC
  exact lv_icmp_lt hx hb hd ht (fun h => (kt h) p l e R s m args below meth c g Z hC hE H locs ls hP hS hl) (fun h => (kf h) p l e R s m args below meth c g Z hC hE H locs ls hP hS hl)
theorem g_icmp_ge {d : Nat} {M : zM} {n0 nE n pc q : Nat} {L : List (Nat × Value)} {S : List Value} {w : Mm} {Q : Option Value → Mm → Prop} {x y : Int32} {off : Int} {tgt : Nat} (hd : zd M pc (.if_icmp .ge off) 3 q) (ht : (pc : Int) + off = (tgt : Int)) (kt : ¬ x < y → Go d M n0 nE n tgt L S w Q) (kf : x < y → Go d M n0 nE n q L S w Q) : Go d M n0 nE n pc L (.int y :: .int x :: S) w Q := by
  obtain ⟨hd, rfl⟩ := hd
  intro p l e R s m args below meth c g Z hC hE H locs ls hP hS hl
  obtain ⟨hx, hb, -⟩ := id hC
  exact lv_icmp_ge hx hb hd ht (fun h => (kt (i_nlt.mpr h)) p l e R s m args below meth c g Z hC hE H locs ls hP hS hl) (fun h => (kf (Classical.not_not.mp (fun z => h (i_nlt.mp z)))) p l e R s m args below meth c g Z hC hE H locs ls hP hS hl)
theorem g_icmp_gt {d : Nat} {M : zM} {n0 nE n pc q : Nat} {L : List (Nat × Value)} {S : List Value} {w : Mm} {Q : Option Value → Mm → Prop} {x y : Int32} {off : Int} {tgt : Nat} (hd : zd M pc (.if_icmp .gt off) 3 q) (ht : (pc : Int) + off = (tgt : Int)) (kt : y < x → Go d M n0 nE n tgt L S w Q) (kf : ¬ y < x → Go d M n0 nE n q L S w Q) : Go d M n0 nE n pc L (.int y :: .int x :: S) w Q := by
  obtain ⟨hd, rfl⟩ := hd
  intro p l e R s m args below meth c g Z hC hE H locs ls hP hS hl
  obtain ⟨hx, hb, -⟩ := id hC
  exact lv_icmp_gt hx hb hd ht (fun h => (kt h) p l e R s m args below meth c g Z hC hE H locs ls hP hS hl) (fun h => (kf h) p l e R s m args below meth c g Z hC hE H locs ls hP hS hl)
theorem g_icmp_le {d : Nat} {M : zM} {n0 nE n pc q : Nat} {L : List (Nat × Value)} {S : List Value} {w : Mm} {Q : Option Value → Mm → Prop} {x y : Int32} {off : Int} {tgt : Nat} (hd : zd M pc (.if_icmp .le off) 3 q) (ht : (pc : Int) + off = (tgt : Int)) (kt : ¬ y < x → Go d M n0 nE n tgt L S w Q) (kf : y < x → Go d M n0 nE n q L S w Q) : Go d M n0 nE n pc L (.int y :: .int x :: S) w Q := by
  obtain ⟨hd, rfl⟩ := hd
  intro p l e R s m args below meth c g Z hC hE H locs ls hP hS hl
  obtain ⟨hx, hb, -⟩ := id hC
  exact lv_icmp_le hx hb hd ht (fun h => (kt (i_nlt.mpr h)) p l e R s m args below meth c g Z hC hE H locs ls hP hS hl) (fun h => (kf (Classical.not_not.mp (fun z => h (i_nlt.mp z)))) p l e R s m args below meth c g Z hC hE H locs ls hP hS hl)
theorem g_if_eq {d : Nat} {M : zM} {n0 nE n pc q : Nat} {L : List (Nat × Value)} {S : List Value} {w : Mm} {Q : Option Value → Mm → Prop} {x : Int32} {off : Int} {tgt : Nat} (hd : zd M pc (.ifCond .eq off) 3 q) (ht : (pc : Int) + off = (tgt : Int)) (kt : x = 0 → Go d M n0 nE n tgt L S w Q) (kf : ¬ x = 0 → Go d M n0 nE n q L S w Q) : Go d M n0 nE n pc L (.int x :: S) w Q := by
  obtain ⟨hd, rfl⟩ := hd
  intro p l e R s m args below meth c g Z hC hE H locs ls hP hS hl
  obtain ⟨hx, hb, -⟩ := id hC
  exact lv_if_eq hx hb hd ht (fun h => (kt h) p l e R s m args below meth c g Z hC hE H locs ls hP hS hl) (fun h => (kf h) p l e R s m args below meth c g Z hC hE H locs ls hP hS hl)
theorem g_if_ne {d : Nat} {M : zM} {n0 nE n pc q : Nat} {L : List (Nat × Value)} {S : List Value} {w : Mm} {Q : Option Value → Mm → Prop} {x : Int32} {off : Int} {tgt : Nat} (hd : zd M pc (.ifCond .ne off) 3 q) (ht : (pc : Int) + off = (tgt : Int)) (kt : ¬ x = 0 → Go d M n0 nE n tgt L S w Q) (kf : x = 0 → Go d M n0 nE n q L S w Q) : Go d M n0 nE n pc L (.int x :: S) w Q := by
  obtain ⟨hd, rfl⟩ := hd
  intro p l e R s m args below meth c g Z hC hE H locs ls hP hS hl
  obtain ⟨hx, hb, -⟩ := id hC
  exact lv_if_ne hx hb hd ht (fun h => (kt h) p l e R s m args below meth c g Z hC hE H locs ls hP hS hl) (fun h => (kf h) p l e R s m args below meth c g Z hC hE H locs ls hP hS hl)
theorem g_if_lt {d : Nat} {M : zM} {n0 nE n pc q : Nat} {L : List (Nat × Value)} {S : List Value} {w : Mm} {Q : Option Value → Mm → Prop} {x : Int32} {off : Int} {tgt : Nat} (hd : zd M pc (.ifCond .lt off) 3 q) (ht : (pc : Int) + off = (tgt : Int)) (kt : x < 0 → Go d M n0 nE n tgt L S w Q) (kf : ¬ x < 0 → Go d M n0 nE n q L S w Q) : Go d M n0 nE n pc L (.int x :: S) w Q := by
  obtain ⟨hd, rfl⟩ := hd
  intro p l e R s m args below meth c g Z hC hE H locs ls hP hS hl
  obtain ⟨hx, hb, -⟩ := id hC
  exact lv_if_lt hx hb hd ht (fun h => (kt h) p l e R s m args below meth c g Z hC hE H locs ls hP hS hl) (fun h => (kf h) p l e R s m args below meth c g Z hC hE H locs ls hP hS hl)
theorem g_if_ge {d : Nat} {M : zM} {n0 nE n pc q : Nat} {L : List (Nat × Value)} {S : List Value} {w : Mm} {Q : Option Value → Mm → Prop} {x : Int32} {off : Int} {tgt : Nat} (hd : zd M pc (.ifCond .ge off) 3 q) (ht : (pc : Int) + off = (tgt : Int)) (kt : ¬ x < 0 → Go d M n0 nE n tgt L S w Q) (kf : x < 0 → Go d M n0 nE n q L S w Q) : Go d M n0 nE n pc L (.int x :: S) w Q := by
  obtain ⟨hd, rfl⟩ := hd
  intro p l e R s m args below meth c g Z hC hE H locs ls hP hS hl
  obtain ⟨hx, hb, -⟩ := id hC
  exact lv_if_ge hx hb hd ht (fun h => (kt (i_nlt.mpr h)) p l e R s m args below meth c g Z hC hE H locs ls hP hS hl) (fun h => (kf (Classical.not_not.mp (fun z => h (i_nlt.mp z)))) p l e R s m args below meth c g Z hC hE H locs ls hP hS hl)
theorem g_if_gt {d : Nat} {M : zM} {n0 nE n pc q : Nat} {L : List (Nat × Value)} {S : List Value} {w : Mm} {Q : Option Value → Mm → Prop} {x : Int32} {off : Int} {tgt : Nat} (hd : zd M pc (.ifCond .gt off) 3 q) (ht : (pc : Int) + off = (tgt : Int)) (kt : 0 < x → Go d M n0 nE n tgt L S w Q) (kf : ¬ 0 < x → Go d M n0 nE n q L S w Q) : Go d M n0 nE n pc L (.int x :: S) w Q := by
  obtain ⟨hd, rfl⟩ := hd
  intro p l e R s m args below meth c g Z hC hE H locs ls hP hS hl
  obtain ⟨hx, hb, -⟩ := id hC
  exact lv_if_gt hx hb hd ht (fun h => (kt h) p l e R s m args below meth c g Z hC hE H locs ls hP hS hl) (fun h => (kf h) p l e R s m args below meth c g Z hC hE H locs ls hP hS hl)
theorem g_if_le {d : Nat} {M : zM} {n0 nE n pc q : Nat} {L : List (Nat × Value)} {S : List Value} {w : Mm} {Q : Option Value → Mm → Prop} {x : Int32} {off : Int} {tgt : Nat} (hd : zd M pc (.ifCond .le off) 3 q) (ht : (pc : Int) + off = (tgt : Int)) (kt : ¬ 0 < x → Go d M n0 nE n tgt L S w Q) (kf : 0 < x → Go d M n0 nE n q L S w Q) : Go d M n0 nE n pc L (.int x :: S) w Q := by
  obtain ⟨hd, rfl⟩ := hd
  intro p l e R s m args below meth c g Z hC hE H locs ls hP hS hl
  obtain ⟨hx, hb, -⟩ := id hC
  exact lv_if_le hx hb hd ht (fun h => (kt (i_nlt.mpr h)) p l e R s m args below meth c g Z hC hE H locs ls hP hS hl) (fun h => (kf (Classical.not_not.mp (fun z => h (i_nlt.mp z)))) p l e R s m args below meth c g Z hC hE H locs ls hP hS hl)
theorem l_nlt {x y : Int64} : ¬ x < y ↔ y ≤ x := by
  rw [Int64.lt_iff_toInt_lt, Int64.le_iff_toInt_le]; omega
theorem g_lcmp {d : Nat} {M : zM} {n0 nE n pc q : Nat} {L : List (Nat × Value)} {S : List Value} {w : Mm} {Q : Option Value → Mm → Prop} {x y : Int64} (hd : zd M pc .lcmp 1 q) (k : Go d M n0 nE n q L (.int (lg_cmp x y) :: S) w Q) : Go d M n0 nE n pc L (.long y :: .long x :: S) w Q := by
  obtain ⟨hd, rfl⟩ := hd
  intro p l e R s m args below meth c g Z hC hE H locs ls hP hS hl
  obtain ⟨hx, hb, -⟩ := id hC
  exact W.lcmp hx hb hd (k p l e R s m args below meth c g Z hC hE H locs ls hP hS hl)
theorem lg_cmp_eq0 (x y : Int64) : lg_cmp x y = 0 ↔ x = y := by
  unfold lg_cmp
  by_cases h : x > y
  · rw [if_pos h]; exact ⟨fun q => absurd q (by decide), fun q => absurd (q ▸ h) (by rw [GT.gt, l_nlt, Int64.le_iff_toInt_le]; omega)⟩
  · rw [if_neg h]
    by_cases h2 : x = y
    · rw [if_pos h2]; exact ⟨fun _ => h2, fun _ => rfl⟩
    · rw [if_neg h2]; exact ⟨fun q => absurd q (by decide), fun q => absurd q h2⟩
theorem g_l_eq {d : Nat} {M : zM} {n0 nE n pc q : Nat} {L : List (Nat × Value)} {S : List Value} {w : Mm} {Q : Option Value → Mm → Prop} {r : Nat} {x y : Int64} {off : Int} {tgt : Nat} (hd : zd M pc .lcmp 1 r) (hd2 : zd M r (.ifCond .eq off) 3 q) (ht : (r : Int) + off = (tgt : Int)) (kt : x = y → Go d M n0 nE n tgt L S w Q) (kf : ¬ x = y → Go d M n0 nE n q L S w Q) : Go d M n0 nE n pc L (.long y :: .long x :: S) w Q :=
  g_lcmp hd (g_if_eq hd2 ht (fun h => kt ((lg_cmp_eq0 x y).mp h)) (fun h => kf (fun z => h ((lg_cmp_eq0 x y).mpr z))))
theorem g_l_ne {d : Nat} {M : zM} {n0 nE n pc q : Nat} {L : List (Nat × Value)} {S : List Value} {w : Mm} {Q : Option Value → Mm → Prop} {r : Nat} {x y : Int64} {off : Int} {tgt : Nat} (hd : zd M pc .lcmp 1 r) (hd2 : zd M r (.ifCond .ne off) 3 q) (ht : (r : Int) + off = (tgt : Int)) (kt : ¬ x = y → Go d M n0 nE n tgt L S w Q) (kf : x = y → Go d M n0 nE n q L S w Q) : Go d M n0 nE n pc L (.long y :: .long x :: S) w Q :=
  g_lcmp hd (g_if_ne hd2 ht (fun h => kt (fun z => h ((lg_cmp_eq0 x y).mpr z))) (fun h => kf ((lg_cmp_eq0 x y).mp h)))
theorem g_l_lt {d : Nat} {M : zM} {n0 nE n pc q : Nat} {L : List (Nat × Value)} {S : List Value} {w : Mm} {Q : Option Value → Mm → Prop} {r : Nat} {x y : Int64} {off : Int} {tgt : Nat} (hd : zd M pc .lcmp 1 r) (hd2 : zd M r (.ifCond .lt off) 3 q) (ht : (r : Int) + off = (tgt : Int)) (kt : x < y → Go d M n0 nE n tgt L S w Q) (kf : ¬ x < y → Go d M n0 nE n q L S w Q) : Go d M n0 nE n pc L (.long y :: .long x :: S) w Q :=
  g_lcmp hd (g_if_lt hd2 ht (fun h => kt ((lg_cmp_lt x y).mp h)) (fun h => kf (fun z => h ((lg_cmp_lt x y).mpr z))))
theorem g_l_ge {d : Nat} {M : zM} {n0 nE n pc q : Nat} {L : List (Nat × Value)} {S : List Value} {w : Mm} {Q : Option Value → Mm → Prop} {r : Nat} {x y : Int64} {off : Int} {tgt : Nat} (hd : zd M pc .lcmp 1 r) (hd2 : zd M r (.ifCond .ge off) 3 q) (ht : (r : Int) + off = (tgt : Int)) (kt : ¬ x < y → Go d M n0 nE n tgt L S w Q) (kf : x < y → Go d M n0 nE n q L S w Q) : Go d M n0 nE n pc L (.long y :: .long x :: S) w Q :=
  g_lcmp hd (g_if_ge hd2 ht (fun h => kt (fun z => h ((lg_cmp_lt x y).mpr z))) (fun h => kf ((lg_cmp_lt x y).mp h)))
theorem g_l_gt {d : Nat} {M : zM} {n0 nE n pc q : Nat} {L : List (Nat × Value)} {S : List Value} {w : Mm} {Q : Option Value → Mm → Prop} {r : Nat} {x y : Int64} {off : Int} {tgt : Nat} (hd : zd M pc .lcmp 1 r) (hd2 : zd M r (.ifCond .gt off) 3 q) (ht : (r : Int) + off = (tgt : Int)) (kt : y < x → Go d M n0 nE n tgt L S w Q) (kf : ¬ y < x → Go d M n0 nE n q L S w Q) : Go d M n0 nE n pc L (.long y :: .long x :: S) w Q :=
  g_lcmp hd (g_if_gt hd2 ht (fun h => kt ((lg_cmp_gt x y).mp h)) (fun h => kf (fun z => h ((lg_cmp_gt x y).mpr z))))
theorem g_l_le {d : Nat} {M : zM} {n0 nE n pc q : Nat} {L : List (Nat × Value)} {S : List Value} {w : Mm} {Q : Option Value → Mm → Prop} {r : Nat} {x y : Int64} {off : Int} {tgt : Nat} (hd : zd M pc .lcmp 1 r) (hd2 : zd M r (.ifCond .le off) 3 q) (ht : (r : Int) + off = (tgt : Int)) (kt : ¬ y < x → Go d M n0 nE n tgt L S w Q) (kf : y < x → Go d M n0 nE n q L S w Q) : Go d M n0 nE n pc L (.long y :: .long x :: S) w Q :=
  g_lcmp hd (g_if_le hd2 ht (fun h => kt (fun z => h ((lg_cmp_gt x y).mpr z))) (fun h => kf ((lg_cmp_gt x y).mp h)))
theorem g_goto {d : Nat} {M : zM} {n0 nE n pc q : Nat} {L : List (Nat × Value)} {S : List Value} {w : Mm} {Q : Option Value → Mm → Prop} {off : Int} {tgt : Nat} (hd : zd M pc (.goto off) 3 q) (ht : (pc : Int) + off = (tgt : Int)) (k : Go d M n0 nE n tgt L S w Q) : Go d M n0 nE n pc L S w Q := by
  obtain ⟨hd, rfl⟩ := hd
  intro p l e R s m args below meth c g Z hC hE H locs ls hP hS hl
  obtain ⟨hx, hb, -⟩ := id hC
  exact lv_goto hx hb hd ht (k p l e R s m args below meth c g Z hC hE H locs ls hP hS hl)
theorem g_tsw {d : Nat} {M : zM} {n0 nE n pc q : Nat} {L : List (Nat × Value)} {S : List Value} {w : Mm} {Q : Option Value → Mm → Prop} {dflt lo hi : Int} {offs : Array Int} {len : Nat} {x : Int32} {off : Int} {tgt : Nat} (hd : zd M pc (.tableswitch dflt lo hi offs) len q) (c0 : Int32) (hx0 : x = c0) (h1 : ¬ c0.toInt < lo) (h2 : ¬ hi < c0.toInt) (ho : offs[(c0.toInt - lo).toNat]? = some off) (ht : (pc : Int) + off = (tgt : Int)) (k : Go d M n0 nE n tgt L S w Q) : Go d M n0 nE n pc L (.int x :: S) w Q := by
  subst hx0
  obtain ⟨hd, rfl⟩ := hd
  intro p l e R s m args below meth c g Z hC hE H locs ls hP hS hl
  obtain ⟨hx, hb, -⟩ := id hC
  exact lv_tableIn hx hb hd h1 h2 ho ht (k p l e R s m args below meth c g Z hC hE H locs ls hP hS hl)
theorem g_tsd {d : Nat} {M : zM} {n0 nE n pc q : Nat} {L : List (Nat × Value)} {S : List Value} {w : Mm} {Q : Option Value → Mm → Prop} {dflt lo hi : Int} {offs : Array Int} {len : Nat} {x : Int32} {tgt : Nat} (cs : List Int32) (hd : zd M pc (.tableswitch dflt lo hi offs) len q) (hc : ∀ c ∈ cs, ¬ x = c) (h1 : ∀ j, j < (hi + 1 - lo).toNat → Int32.ofInt (lo + j) ∈ cs) (ht : (pc : Int) + dflt = (tgt : Int)) (k : Go d M n0 nE n tgt L S w Q) : Go d M n0 nE n pc L (.int x :: S) w Q := by
  obtain ⟨hd, rfl⟩ := hd
  intro p l e R s m args below meth c g Z hC hE H locs ls hP hS hl
  obtain ⟨hx, hb, -⟩ := id hC
  refine lv_tableOut hx hb hd ?_ ht (k p l e R s m args below meth c g Z hC hE H locs ls hP hS hl)
  rcases Int.lt_or_le x.toInt lo with h | h
  · exact Or.inl h
  · rcases Int.lt_or_le hi x.toInt with h3 | h3
    · exact Or.inr h3
    · exfalso
      refine hc _ (h1 (x.toInt - lo).toNat (by omega)) ?_
      rw [show lo + ((x.toInt - lo).toNat : Int) = x.toInt by omega, Int32.ofInt_toInt]
theorem g_lsw {d : Nat} {M : zM} {n0 nE n pc q : Nat} {L : List (Nat × Value)} {S : List Value} {w : Mm} {Q : Option Value → Mm → Prop} {dflt : Int} {ps : Array (Int × Int)} {len : Nat} {x : Int32} {off : Int} {tgt : Nat} (hd : zd M pc (.lookupswitch dflt ps) len q) (hp : (ps.toList.zip (ps.toList.drop 1)).all (fun (a, next) => a.1 < next.1) = true) (ho : Op.lookupswitch.offset ps.toList dflt x.toInt = off) (ht : (pc : Int) + off = (tgt : Int)) (k : Go d M n0 nE n tgt L S w Q) : Go d M n0 nE n pc L (.int x :: S) w Q := by
  obtain ⟨hd, rfl⟩ := hd
  intro p l e R s m args below meth c g Z hC hE H locs ls hP hS hl
  obtain ⟨hx, hb, -⟩ := id hC
  exact lv_lookup hx hb hd hp ho ht (k p l e R s m args below meth c g Z hC hE H locs ls hP hS hl)
theorem g_ret {d : Nat} {M : zM} {n0 nE n pc : Nat} {L : List (Nat × Value)} {S : List Value} {w : Mm} {Q : Option Value → Mm → Prop} (r : Option Value) (hR : zR M pc r) (hn : n = nE) (hS0 : S = r.toList) (h : Q r w) : Go d M n0 nE n pc L S w Q := by
  subst hn
  subst hS0
  intro p l e R s m args below meth c g Z hC hE H locs ls hP hS hl
  have h1 := hE r w H locs ls pc hP hS h hR
  cases r with
  | none => exact h1
  | some v => exact h1
theorem g_mono {d : Nat} {M : zM} {n0 nE n pc : Nat} {L : List (Nat × Value)} {S : List Value} {w : Mm} {Q : Option Value → Mm → Prop} {Q' : Option Value → Mm → Prop} (k : Go d M n0 nE n pc L S w Q') (h : ∀ r w, Q' r w → Q r w) : Go d M n0 nE n pc L S w Q := by
  intro p l e R s m args below meth c g Z hC hE H locs ls hP hS hl
  exact k p l e R s m args below meth c g Z hC (fun r w H locs ls pc h1 h2 h3 h4 => hE r w H locs ls pc h1 h2 (h r w h3) h4) H locs ls hP hS hl
