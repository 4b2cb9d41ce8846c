theorem tb_1 {w : Cond} (h : w ∈ tables_1_1) : w ∈ lw_tbl := List.mem_append_right _ (show w ∈ tables_1 from (List.mem_append_left _ h))
theorem zL_1 {w : Cond} {i : Nat} (h : tables_1_1[i]? = some w) : w ∈ lw_tbl := tb_1 (List.mem_of_getElem? h)
theorem zT_1 {w : Cond} {i : Nat} (h : tables_1_1[i]? = some w) (hg : goodWord w = true) : w ∈ zT := List.mem_filter.mpr ⟨zL_1 h, hg⟩
theorem pv_1 {q : MethodName × Nat} (h : q ∈ lw_privs_1) : q ∈ lw_privs := (List.mem_append_left _ h)
theorem zTp_1 {y : MethodName} {i n : Nat} (h : lw_privs_1[i]? = some (y, n)) (hg : goodWord (Cond.selects y.cls y y) = true) : Cond.selects y.cls y y ∈ zT := List.mem_filter.mpr ⟨List.mem_append_left _ (List.mem_map.mpr ⟨(y, n), pv_1 (List.mem_of_getElem? h), rfl⟩), hg⟩
theorem tb_2 {w : Cond} (h : w ∈ tables_1_2) : w ∈ lw_tbl := List.mem_append_right _ (show w ∈ tables_1 from (List.mem_append_right _ (List.mem_append_left _ h)))
theorem zL_2 {w : Cond} {i : Nat} (h : tables_1_2[i]? = some w) : w ∈ lw_tbl := tb_2 (List.mem_of_getElem? h)
theorem zT_2 {w : Cond} {i : Nat} (h : tables_1_2[i]? = some w) (hg : goodWord w = true) : w ∈ zT := List.mem_filter.mpr ⟨zL_2 h, hg⟩
theorem pv_2 {q : MethodName × Nat} (h : q ∈ lw_privs_2) : q ∈ lw_privs := (List.mem_append_right _ (List.mem_append_left _ h))
theorem zTp_2 {y : MethodName} {i n : Nat} (h : lw_privs_2[i]? = some (y, n)) (hg : goodWord (Cond.selects y.cls y y) = true) : Cond.selects y.cls y y ∈ zT := List.mem_filter.mpr ⟨List.mem_append_left _ (List.mem_map.mpr ⟨(y, n), pv_2 (List.mem_of_getElem? h), rfl⟩), hg⟩
theorem tb_3 {w : Cond} (h : w ∈ tables_1_3) : w ∈ lw_tbl := List.mem_append_right _ (show w ∈ tables_1 from (List.mem_append_right _ (List.mem_append_right _ (List.mem_append_left _ h))))
theorem zL_3 {w : Cond} {i : Nat} (h : tables_1_3[i]? = some w) : w ∈ lw_tbl := tb_3 (List.mem_of_getElem? h)
theorem zT_3 {w : Cond} {i : Nat} (h : tables_1_3[i]? = some w) (hg : goodWord w = true) : w ∈ zT := List.mem_filter.mpr ⟨zL_3 h, hg⟩
theorem pv_3 {q : MethodName × Nat} (h : q ∈ lw_privs_3) : q ∈ lw_privs := (List.mem_append_right _ (List.mem_append_right _ (List.mem_append_left _ h)))
theorem zTp_3 {y : MethodName} {i n : Nat} (h : lw_privs_3[i]? = some (y, n)) (hg : goodWord (Cond.selects y.cls y y) = true) : Cond.selects y.cls y y ∈ zT := List.mem_filter.mpr ⟨List.mem_append_left _ (List.mem_map.mpr ⟨(y, n), pv_3 (List.mem_of_getElem? h), rfl⟩), hg⟩
theorem tb_4 {w : Cond} (h : w ∈ tables_1_4) : w ∈ lw_tbl := List.mem_append_right _ (show w ∈ tables_1 from (List.mem_append_right _ (List.mem_append_right _ (List.mem_append_right _ (List.mem_append_left _ h)))))
theorem zL_4 {w : Cond} {i : Nat} (h : tables_1_4[i]? = some w) : w ∈ lw_tbl := tb_4 (List.mem_of_getElem? h)
theorem zT_4 {w : Cond} {i : Nat} (h : tables_1_4[i]? = some w) (hg : goodWord w = true) : w ∈ zT := List.mem_filter.mpr ⟨zL_4 h, hg⟩
theorem pv_4 {q : MethodName × Nat} (h : q ∈ lw_privs_4) : q ∈ lw_privs := (List.mem_append_right _ (List.mem_append_right _ (List.mem_append_right _ (List.mem_append_left _ h))))
theorem zTp_4 {y : MethodName} {i n : Nat} (h : lw_privs_4[i]? = some (y, n)) (hg : goodWord (Cond.selects y.cls y y) = true) : Cond.selects y.cls y y ∈ zT := List.mem_filter.mpr ⟨List.mem_append_left _ (List.mem_map.mpr ⟨(y, n), pv_4 (List.mem_of_getElem? h), rfl⟩), hg⟩
theorem tb_5 {w : Cond} (h : w ∈ tables_1_5) : w ∈ lw_tbl := List.mem_append_right _ (show w ∈ tables_1 from (List.mem_append_right _ (List.mem_append_right _ (List.mem_append_right _ (List.mem_append_right _ (List.mem_append_left _ h))))))
theorem zL_5 {w : Cond} {i : Nat} (h : tables_1_5[i]? = some w) : w ∈ lw_tbl := tb_5 (List.mem_of_getElem? h)
theorem zT_5 {w : Cond} {i : Nat} (h : tables_1_5[i]? = some w) (hg : goodWord w = true) : w ∈ zT := List.mem_filter.mpr ⟨zL_5 h, hg⟩
theorem pv_5 {q : MethodName × Nat} (h : q ∈ lw_privs_5) : q ∈ lw_privs := (List.mem_append_right _ (List.mem_append_right _ (List.mem_append_right _ (List.mem_append_right _ (List.mem_append_left _ h)))))
theorem zTp_5 {y : MethodName} {i n : Nat} (h : lw_privs_5[i]? = some (y, n)) (hg : goodWord (Cond.selects y.cls y y) = true) : Cond.selects y.cls y y ∈ zT := List.mem_filter.mpr ⟨List.mem_append_left _ (List.mem_map.mpr ⟨(y, n), pv_5 (List.mem_of_getElem? h), rfl⟩), hg⟩
theorem tb_6 {w : Cond} (h : w ∈ tables_1_6) : w ∈ lw_tbl := List.mem_append_right _ (show w ∈ tables_1 from (List.mem_append_right _ (List.mem_append_right _ (List.mem_append_right _ (List.mem_append_right _ (List.mem_append_right _ (List.mem_append_left _ h)))))))
theorem zL_6 {w : Cond} {i : Nat} (h : tables_1_6[i]? = some w) : w ∈ lw_tbl := tb_6 (List.mem_of_getElem? h)
theorem zT_6 {w : Cond} {i : Nat} (h : tables_1_6[i]? = some w) (hg : goodWord w = true) : w ∈ zT := List.mem_filter.mpr ⟨zL_6 h, hg⟩
theorem pv_6 {q : MethodName × Nat} (h : q ∈ lw_privs_6) : q ∈ lw_privs := (List.mem_append_right _ (List.mem_append_right _ (List.mem_append_right _ (List.mem_append_right _ (List.mem_append_right _ (List.mem_append_left _ h))))))
theorem zTp_6 {y : MethodName} {i n : Nat} (h : lw_privs_6[i]? = some (y, n)) (hg : goodWord (Cond.selects y.cls y y) = true) : Cond.selects y.cls y y ∈ zT := List.mem_filter.mpr ⟨List.mem_append_left _ (List.mem_map.mpr ⟨(y, n), pv_6 (List.mem_of_getElem? h), rfl⟩), hg⟩
theorem tb_7 {w : Cond} (h : w ∈ tables_1_7) : w ∈ lw_tbl := List.mem_append_right _ (show w ∈ tables_1 from (List.mem_append_right _ (List.mem_append_right _ (List.mem_append_right _ (List.mem_append_right _ (List.mem_append_right _ (List.mem_append_right _ h)))))))
theorem zL_7 {w : Cond} {i : Nat} (h : tables_1_7[i]? = some w) : w ∈ lw_tbl := tb_7 (List.mem_of_getElem? h)
theorem zT_7 {w : Cond} {i : Nat} (h : tables_1_7[i]? = some w) (hg : goodWord w = true) : w ∈ zT := List.mem_filter.mpr ⟨zL_7 h, hg⟩
theorem pv_7 {q : MethodName × Nat} (h : q ∈ lw_privs_7) : q ∈ lw_privs := (List.mem_append_right _ (List.mem_append_right _ (List.mem_append_right _ (List.mem_append_right _ (List.mem_append_right _ (List.mem_append_right _ h))))))
theorem zTp_7 {y : MethodName} {i n : Nat} (h : lw_privs_7[i]? = some (y, n)) (hg : goodWord (Cond.selects y.cls y y) = true) : Cond.selects y.cls y y ∈ zT := List.mem_filter.mpr ⟨List.mem_append_left _ (List.mem_map.mpr ⟨(y, n), pv_7 (List.mem_of_getElem? h), rfl⟩), hg⟩
def zdb (b : ByteArray) (pc : Nat) (i : Instr) (len q : Nat) : Bool := decide (decode b pc = .ok (i, len)) && (pc + len == q)
theorem zd_of {M : zM} {pc : Nat} {i : Instr} {len q : Nat} (h : zdb M.2.1 pc i len q = true) : zd M pc i len q := by
  unfold zdb at h
  rw [Bool.and_eq_true] at h
  exact ⟨of_decide_eq_true h.1, beq_iff_eq.mp h.2⟩
-- copies of rows
def sC (v : Vv) (a b : Nat) (sp dp n : Int32) : Vv := (fun i k => if i = b ∧ ix dp ≤ k ∧ k < ix dp + ix n then v.1 a (ix sp + (k - ix dp)) else v.1 i k, v.2.1, v.2.2)
def mC (w : Mm) (a b : Nat) (sp dp n : Int32) : Mm := (fun i k => if i = b ∧ ix dp ≤ k ∧ k < ix dp + ix n then w.1 a (ix sp + (k - ix dp)) else w.1 i k, w.2)
theorem fv_mC {g : zG} {w : Mm} {a b : Nat} {sp dp n : Int32} {j : Nat} (h : j ≠ b) (ty : FieldType) (k : Nat) : fv g (mC w a b sp dp n) ty j k = fv g w ty j k := by
  cases ty <;> first | rfl | exact congrArg Value.int (if_neg (fun q => h q.1))
set_option maxHeartbeats 1000000 in
theorem g_copy {d : Nat} {M : zM} {n0 nE n pc q idx : Nat} {L : List (Nat × Value)} {w : Mm} {Q : Option Value → Mm → Prop} {a b m1 m2 : Nat} {sp dp len : Int32} (hd : zd M pc (.invokestatic idx) 3 q) (hl0 : Cond.methodLink M.1.cls idx arraycopyName ∈ zT) (hs1 : SH[a]? = some (.inr (.int, m1))) (hs2 : SH[b]? = some (.inr (.int, m2))) (ha : a < n) (hb2 : b < n)
    (hh : 0 ≤ sp.toInt ∧ 0 ≤ dp.toInt ∧ 0 ≤ len.toInt ∧ sp.toInt + len.toInt ≤ m1 ∧ dp.toInt + len.toInt ≤ m2) (hd1 : 2 ≤ d) (kk : Go d M n0 nE n q L [] (mC w a b sp dp len) Q) : Go d M n0 nE n pc L (.int len :: .int dp :: .ref b :: .int sp :: .ref a :: []) w Q := by
  obtain ⟨hd, rfl⟩ := hd
  intro p l e R s m args below meth c g Z hC hE H locs ls hP hS hl
  have hC0 := hC
  obtain ⟨hx, hbd, hml, hown, hts, ⟨hK, hX⟩, hR, -, hbase⟩ := hC
  show W p l e R s m args below meth c H locs _ _ Z (F0 m pc ls (.int len :: .int dp :: .ref (ad g b) :: .int sp :: .ref (ad g a) :: []))
  rw [hP.ad ha, hP.ad hb2]
  have hc0 := hP.arr ha hs1
  have hc1 := hP.arr hb2 hs2
  have h1 : ¬ sp < 0 := fun z => by have := Int32.lt_iff_toInt_lt.mp z; rw [Int32.toInt_zero] at this; omega
  have h2 : ¬ dp < 0 := fun z => by have := Int32.lt_iff_toInt_lt.mp z; rw [Int32.toInt_zero] at this; omega
  have h3 : ¬ len < 0 := fun z => by have := Int32.lt_iff_toInt_lt.mp z; rw [Int32.toInt_zero] at this; omega
  have e1 : (sp.toNatClampNeg : Int) = sp.toInt := by show ((sp.toInt.toNat : Nat) : Int) = _; omega
  have e2 : (dp.toNatClampNeg : Int) = dp.toInt := by show ((dp.toInt.toNat : Nat) : Int) = _; omega
  have e3 : (len.toNatClampNeg : Int) = len.toInt := by show ((len.toInt.toNat : Nat) : Int) = _; omega
  obtain ⟨-, k0, hk0, cm0, hkk0⟩ := (arrO hK (ty := .int) (by decide) m1 (fun k => fv g w .int a k))
  obtain ⟨-, k1, hk1, cm1, hkk1⟩ := (arrO hK (ty := .int) (by decide) m2 (fun k => fv g w .int b k))
  intro T hT X
  obtain ⟨vm', X', step⟩ := X.arraycopy hx hown (hts _ hl0) (hts _ (zT_3 (i := 156) rfl rfl)) (hts _ (zT_3 (i := 155) rfl rfl)) (hts _ (zT_1 (i := 18) rfl rfl)) (src := g.2.2.1 + a) (dst := g.2.2.1 + b) (cs := arrV (g.2.1 .int) m1 (fun k => fv g w .int a k)) (cd := arrV (g.2.1 .int) m2 (fun k => fv g w .int b k)) (srcPos := sp) (destPos := dp) (n := len) (by rw [hT]; exact hc0) (by rw [hT]; exact hc1)
    (fun _ h => by cases h) (fun _ h => by cases h) (fun h => by cases h) (fun h => by cases h) hk0 hk1 hkk0 hkk1 (by simp [refKind]) h1 h2 h3
    (by rw [arrV_size]; omega)
    (by rw [arrV_size]; omega)
    (fun vm₁ _ i hi => by
      have e : (arrV (g.2.1 .int) m1 (fun k => fv g w .int a k)).slots.getD (sp.toNatClampNeg + i) .null = .int (w.1 a (sp.toNatClampNeg + i)) := by
        rw [Array.getD_eq_getD_getElem?, arrV_read _ _ (by omega)]
        rfl
      refine ⟨?_, ?_⟩
      · rw [e]
        rfl
      · rw [e]
        exact trivial)
    (g := F0 m pc ls (.int len :: .int dp :: .ref (g.2.2.1 + b) :: .int sp :: .ref (g.2.2.1 + a) :: [])) rfl (by rw [hml]; exact hl.1) (rest := []) rfl (by rw [hbd]; exact hd) (by omega) (by
      have : nativeFrameWords "java/lang/System" "arraycopy" 5 = 7 := by decide
      rw [this]
      show 2 * 0 + _ + _ ≤ _
      have h90 : (([] : List Value).map fun v => v.category).sum = 0 := rfl
      omega)
  have e4 : copied (arrV (g.2.1 .int) m1 (fun k => fv g w .int a k)) (arrV (g.2.1 .int) m2 (fun k => fv g w .int b k)) sp dp len = arrV (g.2.1 .int) m2 (fun k => fv g (mC w a b sp dp len) .int b k) := by
    refine (va_copied (fun z => Value.int z) (g.2.1 .int) (g.2.1 .int) (fun k => w.1 a k) (fun k => w.1 b k) (by omega)).trans (congrArg (arrV _ m2) (funext fun k => congrArg Value.int ?_))
    show va_cpy (fun k => w.1 a k) (fun k => w.1 b k) sp.toNatClampNeg dp.toNatClampNeg len.toNatClampNeg k = if b = b ∧ ix dp ≤ k ∧ k < ix dp + ix len then w.1 a (ix sp + (k - ix dp)) else w.1 b k
    unfold va_cpy
    by_cases z : dp.toNatClampNeg ≤ k ∧ k < dp.toNatClampNeg + len.toNatClampNeg
    · rw [if_pos z, if_pos ⟨rfl, z⟩]; rfl
    · rw [if_neg z, if_neg (fun q => z q.2)]
  rw [e4] at X' step
  have hlb : g.2.2.1 + b < H.size := (Array.getElem?_eq_some_iff.mp hc1).1
  have hheap : ((T.setVm vm').setCell (g.2.2.1 + b) (arrV (g.2.1 .int) m2 (fun k => fv g (mC w a b sp dp len) .int b k))).heap = H.setIfInBounds (g.2.2.1 + b) (arrV (g.2.1 .int) m2 (fun k => fv g (mC w a b sp dp len) .int b k)) := by rw [← hT]; rfl
  have oq : ∀ q : Nat, q ≠ g.2.2.1 + b → (H.setIfInBounds (g.2.2.1 + b) (arrV (g.2.1 .int) m2 (fun k => fv g (mC w a b sp dp len) .int b k)))[q]? = H[q]? := fun q hq => by simp [Array.getElem?_setIfInBounds, Ne.symm hq]
  have hP' : zP g n (mC w a b sp dp len) (H.setIfInBounds (g.2.2.1 + b) (arrV (g.2.1 .int) m2 (fun k => fv g (mC w a b sp dp len) .int b k))) := hP.upd (fun j hj ty k => fv_mC hj ty k) (by simp) oq (cellAt_arr hs2 (by simp [Array.getElem?_setIfInBounds, hlb]))
  obtain ⟨t, a1, b1⟩ := kk p l e R s m args below meth c g Z hC0 hE _ _ ls hP' ⟨by simp; exact hS.1, fun q g1 g2 => by
      rw [oq q (fun e => g2 (by rw [e]; exact Nat.le_add_right _ _))]
      exact hS.2.1 q g1 g2, fun q hq => by
      rcases List.mem_append.mp hq with h | h
      · exact hS.2.2 q h
      · obtain ⟨z, -, hz⟩ := List.mem_map.mp h
        rw [← hz]
        exact Nat.le_add_right _ _⟩ hl _ hheap X'
  exact ⟨t, step t a1, b1⟩
theorem p_copy {d : Nat} {M : zM} {pc q idx : Nat} {L : List (Nat × Value)} {v : Vv} {Q : Option Value → Vv → Prop} {a b m1 m2 : Nat} {sp dp n : Int32} (hd : zd M pc (.invokestatic idx) 3 q) (hl0 : Cond.methodLink M.1.cls idx arraycopyName ∈ zT) (h1 : SH[a]? = some (.inr (.int, m1))) (h2 : SH[b]? = some (.inr (.int, m2)))
    (hb : 0 ≤ sp.toInt ∧ 0 ≤ dp.toInt ∧ 0 ≤ n.toInt ∧ sp.toInt + n.toInt ≤ m1 ∧ dp.toInt + n.toInt ≤ m2) (hd1 : 2 ≤ d) (kk : Gp d M q L [] (sC v a b sp dp n) Q) : Gp d M pc L (.int n :: .int dp :: .ref b :: .int sp :: .ref a :: []) v Q := g_copy hd hl0 h1 h2 (SH_lt h1) (SH_lt h2) hb hd1 kk
