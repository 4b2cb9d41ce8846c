-- the leaves, as pure functions
theorem t_0 : (0 : Int32).toInt = 0 := by decide
theorem l_0 : (0 : Int64).toInt = 0 := by decide
theorem t_1 : (1 : Int32).toInt = 1 := by decide
theorem l_1 : (1 : Int64).toInt = 1 := by decide
theorem t_2 : (2 : Int32).toInt = 2 := by decide
theorem l_2 : (2 : Int64).toInt = 2 := by decide
theorem t_3 : (3 : Int32).toInt = 3 := by decide
theorem l_3 : (3 : Int64).toInt = 3 := by decide
theorem t_4 : (4 : Int32).toInt = 4 := by decide
theorem l_4 : (4 : Int64).toInt = 4 := by decide
theorem t_5 : (5 : Int32).toInt = 5 := by decide
theorem l_5 : (5 : Int64).toInt = 5 := by decide
theorem t_6 : (6 : Int32).toInt = 6 := by decide
theorem l_6 : (6 : Int64).toInt = 6 := by decide
theorem t_7 : (7 : Int32).toInt = 7 := by decide
theorem l_7 : (7 : Int64).toInt = 7 := by decide
theorem t_9 : (9 : Int32).toInt = 9 := by decide
theorem l_9 : (9 : Int64).toInt = 9 := by decide
theorem t_10 : (10 : Int32).toInt = 10 := by decide
theorem l_10 : (10 : Int64).toInt = 10 := by decide
theorem t_20 : (20 : Int32).toInt = 20 := by decide
theorem l_20 : (20 : Int64).toInt = 20 := by decide
theorem t_30 : (30 : Int32).toInt = 30 := by decide
theorem l_30 : (30 : Int64).toInt = 30 := by decide
theorem t_32 : (32 : Int32).toInt = 32 := by decide
theorem l_32 : (32 : Int64).toInt = 32 := by decide
theorem t_40 : (40 : Int32).toInt = 40 := by decide
theorem l_40 : (40 : Int64).toInt = 40 := by decide
theorem t_59 : (59 : Int32).toInt = 59 := by decide
theorem l_59 : (59 : Int64).toInt = 59 := by decide
theorem t_60 : (60 : Int32).toInt = 60 := by decide
theorem l_60 : (60 : Int64).toInt = 60 := by decide
theorem t_63 : (63 : Int32).toInt = 63 := by decide
theorem l_63 : (63 : Int64).toInt = 63 := by decide
theorem t_99 : (99 : Int32).toInt = 99 := by decide
theorem l_99 : (99 : Int64).toInt = 99 := by decide
theorem t_100 : (100 : Int32).toInt = 100 := by decide
theorem l_100 : (100 : Int64).toInt = 100 := by decide
theorem t_120 : (120 : Int32).toInt = 120 := by decide
theorem l_120 : (120 : Int64).toInt = 120 := by decide
theorem t_160 : (160 : Int32).toInt = 160 := by decide
theorem l_160 : (160 : Int64).toInt = 160 := by decide
theorem t_255 : (255 : Int32).toInt = 255 := by decide
theorem l_255 : (255 : Int64).toInt = 255 := by decide
theorem t_960 : (960 : Int32).toInt = 960 := by decide
theorem l_960 : (960 : Int64).toInt = 960 := by decide
theorem t_1439 : (1439 : Int32).toInt = 1439 := by decide
theorem l_1439 : (1439 : Int64).toInt = 1439 := by decide
theorem t_1440 : (1440 : Int32).toInt = 1440 := by decide
theorem l_1440 : (1440 : Int64).toInt = 1440 := by decide
theorem t_n1 : (-1 : Int32).toInt = -1 := by decide
theorem l_n1 : (-1 : Int64).toInt = -1 := by decide
theorem t_n2 : (-2 : Int32).toInt = -2 := by decide
theorem l_n2 : (-2 : Int64).toInt = -2 := by decide
theorem t_n3 : (-3 : Int32).toInt = -3 := by decide
theorem l_n3 : (-3 : Int64).toInt = -3 := by decide
theorem t_n4 : (-4 : Int32).toInt = -4 := by decide
theorem l_n4 : (-4 : Int64).toInt = -4 := by decide
theorem t_n11 : (-11 : Int32).toInt = -11 := by decide
theorem l_n11 : (-11 : Int64).toInt = -11 := by decide
theorem t_n12 : (-12 : Int32).toInt = -12 := by decide
theorem l_n12 : (-12 : Int64).toInt = -12 := by decide
theorem t_n13 : (-13 : Int32).toInt = -13 := by decide
theorem l_n13 : (-13 : Int64).toInt = -13 := by decide
theorem t_n14 : (-14 : Int32).toInt = -14 := by decide
theorem l_n14 : (-14 : Int64).toInt = -14 := by decide
theorem t_n120 : (-120 : Int32).toInt = -120 := by decide
theorem l_n120 : (-120 : Int64).toInt = -120 := by decide
theorem t_n1000 : (-1000 : Int32).toInt = -1000 := by decide
theorem l_n1000 : (-1000 : Int64).toInt = -1000 := by decide
theorem t_n100000 : (-100000 : Int32).toInt = -100000 := by decide
theorem l_n100000 : (-100000 : Int64).toInt = -100000 := by decide
theorem t_n100 : (-100 : Int32).toInt = -100 := by decide
theorem l_n100 : (-100 : Int64).toInt = -100 := by decide
theorem t_200 : (200 : Int32).toInt = 200 := by decide
theorem l_200 : (200 : Int64).toInt = 200 := by decide
theorem i_eq {a b : Int32} : a = b ↔ a.toInt = b.toInt := Int32.toInt_inj.symm
theorem l_eq {a b : Int64} : a = b ↔ a.toInt = b.toInt := Int64.toInt_inj.symm
theorem ib_iff {x : Int32} {n : Nat} : ib x n ↔ 0 ≤ x.toInt ∧ x.toInt < n := Iff.rfl
theorem ix_nI {n : Nat} (h : n < 2 ^ 31) : ix (nI n) = n := by unfold ix; rw [nI_toInt h]; rfl
theorem nI_ix {x : Int32} (h : 0 ≤ x.toInt) : nI (ix x) = x := by
  have h2 := Int32.toInt_lt x
  apply Int32.toInt_inj.mp
  rw [nI_toInt (by unfold ix; omega)]
  unfold ix
  omega
theorem ib_nI {n m : Nat} (h : n < m) (hm : m < 2 ^ 31) : ib (nI n) m := by
  unfold ib
  rw [nI_toInt (by omega)]
  omega
section LEAF
variable {v : Vv}
theorem P_isSheet {x : Int32} {Q : Bool → Vv → Prop} (h : Q (decide (0 ≤ x.toInt ∧ x.toInt < 4)) v) : m_P_isSheet x v Q := by
  refine s_P_isSheet ?_
  have e : (if x < (0 : Int32) then false else (if x < (4 : Int32) then true else false)) = decide (0 ≤ x.toInt ∧ x.toInt < 4) := by
    simp only [Int32.lt_iff_toInt_lt, Int32.le_iff_toInt_le, Int64.lt_iff_toInt_lt, Int64.le_iff_toInt_le, Int32.toInt_toInt64, t_0, t_1, t_2, t_3, t_4, t_5, t_6, t_7, t_9, t_10, t_20, t_30, t_32, t_40, t_59, t_60, t_63, t_99, t_100, t_120, t_160, t_255, t_960, t_1439, t_1440, t_n1, t_n2, t_n3, t_n4, t_n11, t_n12, t_n13, t_n14, t_n120, t_n1000, t_n100000, t_n100, t_200]
    by_cases h1 : x.toInt < 0 <;> by_cases h2 : x.toInt < 4 <;> simp [h1, h2] <;> omega
  rw [e]; exact h
theorem P_isKind {x : Int32} {Q : Bool → Vv → Prop} (h : Q (decide (0 ≤ x.toInt ∧ x.toInt < 6)) v) : m_P_isKind x v Q := by
  refine s_P_isKind ?_
  have e : (if x < (0 : Int32) then false else (if x < (6 : Int32) then true else false)) = decide (0 ≤ x.toInt ∧ x.toInt < 6) := by
    simp only [Int32.lt_iff_toInt_lt, Int32.le_iff_toInt_le, Int64.lt_iff_toInt_lt, Int64.le_iff_toInt_le, Int32.toInt_toInt64, t_0, t_1, t_2, t_3, t_4, t_5, t_6, t_7, t_9, t_10, t_20, t_30, t_32, t_40, t_59, t_60, t_63, t_99, t_100, t_120, t_160, t_255, t_960, t_1439, t_1440, t_n1, t_n2, t_n3, t_n4, t_n11, t_n12, t_n13, t_n14, t_n120, t_n1000, t_n100000, t_n100, t_200]
    by_cases h1 : x.toInt < 0 <;> by_cases h2 : x.toInt < 6 <;> simp [h1, h2] <;> omega
  rw [e]; exact h
theorem P_isSort {x : Int32} {Q : Bool → Vv → Prop} (h : Q (decide (0 ≤ x.toInt ∧ x.toInt ≤ 2)) v) : m_P_isSort x v Q := by
  refine s_P_isSort ?_
  have e : (if x < (0 : Int32) then false else (if (2 : Int32) < x then false else true)) = decide (0 ≤ x.toInt ∧ x.toInt ≤ 2) := by
    simp only [Int32.lt_iff_toInt_lt, Int32.le_iff_toInt_le, Int64.lt_iff_toInt_lt, Int64.le_iff_toInt_le, Int32.toInt_toInt64, t_0, t_1, t_2, t_3, t_4, t_5, t_6, t_7, t_9, t_10, t_20, t_30, t_32, t_40, t_59, t_60, t_63, t_99, t_100, t_120, t_160, t_255, t_960, t_1439, t_1440, t_n1, t_n2, t_n3, t_n4, t_n11, t_n12, t_n13, t_n14, t_n120, t_n1000, t_n100000, t_n100, t_200]
    by_cases h1 : x.toInt < 0 <;> by_cases h2 : 2 < x.toInt <;> simp [h1, h2] <;> omega
  rw [e]; exact h
theorem P_isPart {x : Int32} {Q : Bool → Vv → Prop} (h : Q (decide (x = 0 ∨ x = 1)) v) : m_P_isPart x v Q := by
  refine s_P_isPart ?_
  have e : (if x = (0 : Int32) then true else (if x = (1 : Int32) then true else false)) = decide (x = 0 ∨ x = 1) := by
    by_cases h1 : x = 0 <;> by_cases h2 : x = 1 <;> simp [h1, h2]
  rw [e]; exact h
theorem P_isClock {x : Int32} {Q : Bool → Vv → Prop} (h : Q (decide (0 ≤ x.toInt ∧ x.toInt < (v.1 74 2).toInt)) v) : m_P_isClock x v Q := by
  refine s_P_isClock ?_
  have e : (if x < (0 : Int32) then false else (if x < v.1 74 2 then true else false)) = decide (0 ≤ x.toInt ∧ x.toInt < (v.1 74 2).toInt) := by
    simp only [Int32.lt_iff_toInt_lt, Int32.le_iff_toInt_le, Int64.lt_iff_toInt_lt, Int64.le_iff_toInt_le, Int32.toInt_toInt64, t_0, t_1, t_2, t_3, t_4, t_5, t_6, t_7, t_9, t_10, t_20, t_30, t_32, t_40, t_59, t_60, t_63, t_99, t_100, t_120, t_160, t_255, t_960, t_1439, t_1440, t_n1, t_n2, t_n3, t_n4, t_n11, t_n12, t_n13, t_n14, t_n120, t_n1000, t_n100000, t_n100, t_200]
    by_cases h1 : x.toInt < 0 <;> by_cases h2 : x.toInt < (v.1 74 2).toInt <;> simp [h1, h2] <;> omega
  rw [e]; exact h
theorem P_isDoer {x : Int32} {Q : Bool → Vv → Prop} (h : Q (decide (0 ≤ x.toInt ∧ x.toInt < (v.1 74 3).toInt)) v) : m_P_isDoer x v Q := by
  refine s_P_isDoer ?_
  have e : (if x < (0 : Int32) then false else (if x < v.1 74 3 then true else false)) = decide (0 ≤ x.toInt ∧ x.toInt < (v.1 74 3).toInt) := by
    simp only [Int32.lt_iff_toInt_lt, Int32.le_iff_toInt_le, Int64.lt_iff_toInt_lt, Int64.le_iff_toInt_le, Int32.toInt_toInt64, t_0, t_1, t_2, t_3, t_4, t_5, t_6, t_7, t_9, t_10, t_20, t_30, t_32, t_40, t_59, t_60, t_63, t_99, t_100, t_120, t_160, t_255, t_960, t_1439, t_1440, t_n1, t_n2, t_n3, t_n4, t_n11, t_n12, t_n13, t_n14, t_n120, t_n1000, t_n100000, t_n100, t_200]
    by_cases h1 : x.toInt < 0 <;> by_cases h2 : x.toInt < (v.1 74 3).toInt <;> simp [h1, h2] <;> omega
  rw [e]; exact h
theorem P_isWorld {x : Int32} {Q : Bool → Vv → Prop} (h : Q (decide (0 ≤ x.toInt ∧ x.toInt < ((1 : Int32) <<< (v.1 74 3 &&& 31)).toInt)) v) : m_P_isWorld x v Q := by
  refine s_P_isWorld ?_
  have e : (if x < (0 : Int32) then false else (if x < ((1 : Int32) <<< (v.1 74 3 &&& 31)) then true else false)) = decide (0 ≤ x.toInt ∧ x.toInt < ((1 : Int32) <<< (v.1 74 3 &&& 31)).toInt) := by
    simp only [Int32.lt_iff_toInt_lt, Int32.le_iff_toInt_le, Int64.lt_iff_toInt_lt, Int64.le_iff_toInt_le, Int32.toInt_toInt64, t_0, t_1, t_2, t_3, t_4, t_5, t_6, t_7, t_9, t_10, t_20, t_30, t_32, t_40, t_59, t_60, t_63, t_99, t_100, t_120, t_160, t_255, t_960, t_1439, t_1440, t_n1, t_n2, t_n3, t_n4, t_n11, t_n12, t_n13, t_n14, t_n120, t_n1000, t_n100000, t_n100, t_200]
    by_cases h1 : x.toInt < 0 <;> by_cases h2 : x.toInt < ((1 : Int32) <<< (v.1 74 3 &&& 31)).toInt <;> simp [h1, h2] <;> omega
  rw [e]; exact h
/-- what a number may be -/
def canBe (a x : Int32) : Bool := decide (0 ≤ a.toInt ∧ a.toInt ≤ 5) && decide ((stV 0 (ix a)).toInt ≤ x.toInt ∧ x.toInt ≤ (stV 1 (ix a)).toInt)
theorem P_canBe {a x : Int32} {Q : Bool → Vv → Prop} (h : Q (canBe a x) v) : m_P_canBe a x v Q := by
  refine s_P_canBe ?_
  unfold canBe at h
  simp only [Int32.lt_iff_toInt_lt, Int32.le_iff_toInt_le, Int64.lt_iff_toInt_lt, Int64.le_iff_toInt_le, Int32.toInt_toInt64, t_0, t_1, t_2, t_3, t_4, t_5, t_6, t_7, t_9, t_10, t_20, t_30, t_32, t_40, t_59, t_60, t_63, t_99, t_100, t_120, t_160, t_255, t_960, t_1439, t_1440, t_n1, t_n2, t_n3, t_n4, t_n11, t_n12, t_n13, t_n14, t_n120, t_n1000, t_n100000, t_n100, t_200]
  split
  · rename_i h1
    rw [decide_eq_false (by omega), Bool.false_and] at h
    exact h
  · split
    · rw [decide_eq_false (by omega), Bool.false_and] at h
      exact h
    · refine ⟨by rw [ib_iff]; omega, ?_⟩
      rw [decide_eq_true (by omega), Bool.true_and] at h
      have e : (if x.toInt < (stV 0 (ix a)).toInt then false else if (stV 1 (ix a)).toInt < x.toInt then false else true) = decide ((stV 0 (ix a)).toInt ≤ x.toInt ∧ x.toInt ≤ (stV 1 (ix a)).toInt) := by
        generalize (stV 0 (ix a)).toInt = p0
        generalize (stV 1 (ix a)).toInt = p1
        by_cases h1 : x.toInt < p0 <;> by_cases h2 : p1 < x.toInt <;> simp [h1, h2] <;> omega
      rw [e]; exact h
/-- a number within bounds -/
def clamp (x a b : Int32) : Int32 := if x < a then a else if b < x then b else x
theorem M_within {x a b : Int32} {Q : Int32 → Vv → Prop} (h : Q (clamp x a b) v) : m_M_within x a b v Q := s_M_within h
theorem P_bounded {x a b : Int32} {Q : Int32 → Vv → Prop} (hab : a.toInt ≤ b.toInt) (h : Q (clamp x a b) v) : m_P_bounded x a b v Q := by
  refine s_P_bounded (s_JM_min (s_JM_max_III ?_))
  have e : (if a < (if x < b then x else b) then (if x < b then x else b) else a) = clamp x a b := by
    unfold clamp
    simp only [i_eq, Int32.lt_iff_toInt_lt, Int32.le_iff_toInt_le, Int64.lt_iff_toInt_lt, Int64.le_iff_toInt_le, Int32.toInt_toInt64]
    by_cases h1 : x.toInt < a.toInt <;> by_cases h2 : x.toInt < b.toInt <;> by_cases h3 : b.toInt < x.toInt <;> by_cases h4 : a.toInt < x.toInt <;> by_cases h5 : a.toInt < b.toInt <;> simp [h1, h2, h3, h4, h5] <;> omega
  rw [e]; exact h
theorem M_in {x a b : Int64} {Q : Bool → Vv → Prop} (h : Q (decide (a.toInt ≤ x.toInt ∧ x.toInt ≤ b.toInt)) v) : m_M_in x a b v Q := by
  refine s_M_in ?_
  simp only [Int32.lt_iff_toInt_lt, Int32.le_iff_toInt_le, Int64.lt_iff_toInt_lt, Int64.le_iff_toInt_le, Int32.toInt_toInt64]
  split
  · rw [decide_eq_false (by omega)] at h; exact h
  · split
    · rw [decide_eq_false (by omega)] at h; exact h
    · rw [decide_eq_true (by omega)] at h; exact h
theorem M_isSheet {x : Int32} {Q : Bool → Vv → Prop} (h : Q (decide (0 ≤ x.toInt ∧ x.toInt < 4)) v) : m_M_isSheet x v Q := by
  refine s_M_isSheet (M_in ?_)
  simp only [Int32.toInt_toInt64, l_0, l_1, l_2, l_3, l_4, l_5, l_6, l_7, l_9, l_10, l_20, l_30, l_32, l_40, l_59, l_60, l_63, l_99, l_100, l_120, l_160, l_255, l_960, l_1439, l_1440, l_n1, l_n2, l_n3, l_n4, l_n11, l_n12, l_n13, l_n14, l_n120, l_n1000, l_n100000, l_n100, l_200]
  rw [show decide (0 ≤ x.toInt ∧ x.toInt ≤ 3) = decide (0 ≤ x.toInt ∧ x.toInt < 4) from decide_eq_decide.mpr (by omega)]
  exact h
/-- the day's minute -/
theorem M_dayOf {x : Int32} {Q : Int32 → Vv → Prop} (h : Q ((x % 1440 + 1440) % 1440) v) : m_M_dayOf x v Q := s_M_dayOf h
end LEAF
