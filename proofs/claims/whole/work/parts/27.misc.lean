-- told (but what came tells), taken, force, feed
theorem ix_lt {x : Int32} {n : Nat} (h : 0 ≤ x.toInt ∧ x.toInt < n) : ix x < n := by unfold ix; omega
theorem told_step {a b : Int32} {v : Vv} (h : HO v) {Q : Int32 → Int32 → Vv → Prop} (h0 : ∀ r, Q r r v) (h7 : ∀ n m, RH (hs v 74) (hm v) n m → 0 ≤ a.toInt ∧ a.toInt < m → m_P_worked v (fun x21 v22 => x21 = 1 ∧ (ib a 5 ∧ v22.1 154 15 = nI m ∧ m_M_cameOf a v22 (fun r' v2 => Q (v22.1 72 (ix a)) r' v2)))) : m_P_told a b v (fun r v1 => m_M_told a b v1 (fun r' v2 => Q r r' v2)) := by
  obtain ⟨n, m, h⟩ := h
  obtain ⟨⟨hn6, hm5⟩, ⟨hnA, hnB⟩, ⟨hmA, hmB⟩, hru, hcl, hdo⟩ := id h
  have bad : ∀ {w : Vv} {Q : Int32 → Vv → Prop}, w.1 154 11 = nI n → w.1 154 15 = nI m → ¬ (0 ≤ b.toInt ∧ b.toInt ≤ 3 ∧ 0 ≤ a.toInt ∧ a.toInt < n ∨ 4 ≤ b.toInt ∧ b.toInt ≤ 7 ∧ 0 ≤ a.toInt ∧ a.toInt < m) → Q (-1000) w → m_M_told a b w Q := by
    intro w Q hw1 hw2 q hh
    refine s_M_told (M_in ?_)
    rw [Int32.toInt_toInt64, l_0, l_7]
    by_cases c1 : 0 ≤ b.toInt ∧ b.toInt ≤ 7
    · rw [decide_eq_true c1, if_pos rfl]
      by_cases c2 : b.toInt < 4
      · rw [if_pos (by simp only [Int32.lt_iff_toInt_lt, i_eq, t_0, t_1, t_2, t_3, t_4, t_5, t_6, t_7, t_9, t_10, t_20, t_30, t_32, t_40, t_59, t_60, t_63, t_99, t_100, t_120, t_160, t_255, t_960, t_1439, t_1440, t_n1, t_n2, t_n3, t_n4, t_n11, t_n12, t_n13, t_n14, t_n120, t_n1000, t_n100000, t_n100, t_200]; omega)]
        refine M_isClockN hw1 hn6 ?_
        rw [decide_eq_false (by omega), if_neg (by decide)]
        exact hh
      · rw [if_neg (by simp only [Int32.lt_iff_toInt_lt, i_eq, t_0, t_1, t_2, t_3, t_4, t_5, t_6, t_7, t_9, t_10, t_20, t_30, t_32, t_40, t_59, t_60, t_63, t_99, t_100, t_120, t_160, t_255, t_960, t_1439, t_1440, t_n1, t_n2, t_n3, t_n4, t_n11, t_n12, t_n13, t_n14, t_n120, t_n1000, t_n100000, t_n100, t_200]; omega)]
        refine M_isDoerN hw2 hm5 ?_
        rw [decide_eq_false (by omega), if_neg (by decide)]
        exact hh
    · rw [decide_eq_false c1, if_neg (by decide)]
      exact hh
  have go1 : ∀ {w : Vv} {Q : Int32 → Vv → Prop}, w.1 154 11 = nI n → (0 ≤ b.toInt ∧ b.toInt ≤ 3) → (0 ≤ a.toInt ∧ a.toInt < n) → k_M_told_40 a b w Q → m_M_told a b w Q := by
    intro w Q hw q z hh
    refine s_M_told (M_in ?_)
    rw [Int32.toInt_toInt64, l_0, l_7, decide_eq_true (by omega), if_pos rfl, if_pos (by simp only [Int32.lt_iff_toInt_lt, i_eq, t_0, t_1, t_2, t_3, t_4, t_5, t_6, t_7, t_9, t_10, t_20, t_30, t_32, t_40, t_59, t_60, t_63, t_99, t_100, t_120, t_160, t_255, t_960, t_1439, t_1440, t_n1, t_n2, t_n3, t_n4, t_n11, t_n12, t_n13, t_n14, t_n120, t_n1000, t_n100000, t_n100, t_200]; omega)]
    refine M_isClockN hw hn6 ?_
    rw [decide_eq_true z, if_pos rfl]
    exact hh
  have go2 : ∀ {w : Vv} {Q : Int32 → Vv → Prop}, w.1 154 15 = nI m → (4 ≤ b.toInt ∧ b.toInt ≤ 7) → (0 ≤ a.toInt ∧ a.toInt < m) → k_M_told_40 a b w Q → m_M_told a b w Q := by
    intro w Q hw q z hh
    refine s_M_told (M_in ?_)
    rw [Int32.toInt_toInt64, l_0, l_7, decide_eq_true (by omega), if_pos rfl, if_neg (by simp only [Int32.lt_iff_toInt_lt, i_eq, t_0, t_1, t_2, t_3, t_4, t_5, t_6, t_7, t_9, t_10, t_20, t_30, t_32, t_40, t_59, t_60, t_63, t_99, t_100, t_120, t_160, t_255, t_960, t_1439, t_1440, t_n1, t_n2, t_n3, t_n4, t_n11, t_n12, t_n13, t_n14, t_n120, t_n1000, t_n100000, t_n100, t_200]; omega)]
    refine M_isDoerN hw hm5 ?_
    rw [decide_eq_true z, if_pos rfl]
    exact hh
  have t64 : ¬ (4 ≤ b.toInt ∧ b.toInt ≤ 6 ∧ 0 ≤ a.toInt ∧ a.toInt < m) → ¬ (0 ≤ b.toInt ∧ b.toInt ≤ 3 ∧ 0 ≤ a.toInt ∧ a.toInt < n) → k_P_told_64 a b v (fun r v1 => m_M_told a b v1 (fun r' v2 => Q r r' v2)) := by
    intro q1 q2
    refine s_P_told_64 ?_
    by_cases c7 : b = 7
    · subst c7
      rw [if_pos rfl]
      refine P_isDoerN hmA hm5 ?_
      by_cases cb : 0 ≤ a.toInt ∧ a.toInt < m
      · rw [decide_eq_true cb, if_pos rfl]
        refine cp_mono (h7 n m h cb) (fun _ v1 ⟨x1, e1, hx1, hib, hm1, hh⟩ => ⟨x1, e1, hx1, hib, ?_⟩)
        refine go2 hm1 (by decide) cb (s_M_told_40 ?_)
        rw [if_neg (by decide), if_neg (by decide), if_neg (by decide), if_neg (by decide)]
        exact hh
      · rw [decide_eq_false cb, if_neg (by decide)]
        exact bad hnB hmB (by rw [t_7]; omega) (h0 _)
    · rw [if_neg c7]
      have : b.toInt ≠ 7 := fun z => c7 (Int32.toInt_inj.mp z)
      exact bad hnB hmB (by omega) (h0 _)
  have t31 : ¬ (0 ≤ b.toInt ∧ b.toInt ≤ 3 ∧ 0 ≤ a.toInt ∧ a.toInt < n) → k_P_told_31 a b v (fun r v1 => m_M_told a b v1 (fun r' v2 => Q r r' v2)) := by
    intro q
    refine s_P_told_31 ?_
    by_cases c4 : b.toInt < 4
    · rw [if_pos (by simp only [Int32.lt_iff_toInt_lt, i_eq, t_0, t_1, t_2, t_3, t_4, t_5, t_6, t_7, t_9, t_10, t_20, t_30, t_32, t_40, t_59, t_60, t_63, t_99, t_100, t_120, t_160, t_255, t_960, t_1439, t_1440, t_n1, t_n2, t_n3, t_n4, t_n11, t_n12, t_n13, t_n14, t_n120, t_n1000, t_n100000, t_n100, t_200]; omega)]
      exact t64 (by omega) q
    · rw [if_neg (by simp only [Int32.lt_iff_toInt_lt, i_eq, t_0, t_1, t_2, t_3, t_4, t_5, t_6, t_7, t_9, t_10, t_20, t_30, t_32, t_40, t_59, t_60, t_63, t_99, t_100, t_120, t_160, t_255, t_960, t_1439, t_1440, t_n1, t_n2, t_n3, t_n4, t_n11, t_n12, t_n13, t_n14, t_n120, t_n1000, t_n100000, t_n100, t_200]; omega)]
      by_cases c6 : 6 < b.toInt
      · rw [if_pos (by simp only [Int32.lt_iff_toInt_lt, i_eq, t_0, t_1, t_2, t_3, t_4, t_5, t_6, t_7, t_9, t_10, t_20, t_30, t_32, t_40, t_59, t_60, t_63, t_99, t_100, t_120, t_160, t_255, t_960, t_1439, t_1440, t_n1, t_n2, t_n3, t_n4, t_n11, t_n12, t_n13, t_n14, t_n120, t_n1000, t_n100000, t_n100, t_200]; omega)]
        exact t64 (by omega) q
      · rw [if_neg (by simp only [Int32.lt_iff_toInt_lt, i_eq, t_0, t_1, t_2, t_3, t_4, t_5, t_6, t_7, t_9, t_10, t_20, t_30, t_32, t_40, t_59, t_60, t_63, t_99, t_100, t_120, t_160, t_255, t_960, t_1439, t_1440, t_n1, t_n2, t_n3, t_n4, t_n11, t_n12, t_n13, t_n14, t_n120, t_n1000, t_n100000, t_n100, t_200]; omega)]
        refine P_isDoerN hmA hm5 ?_
        by_cases cb : 0 ≤ a.toInt ∧ a.toInt < m
        · rw [decide_eq_true cb, if_pos rfl]
          have hd := (hdo (ix a) (ix_lt cb)).1
          have hib : ib a 5 := by rw [ib_iff]; omega
          have hisD := isDoer_of (c := ix a) (by have := ix_lt cb; omega)
          refine ⟨hib, s_D_tell ?_⟩
          have hcase : b = 4 ∨ b = 5 ∨ b = 6 := by
            simp only [i_eq, t_0, t_1, t_2, t_3, t_4, t_5, t_6, t_7, t_9, t_10, t_20, t_30, t_32, t_40, t_59, t_60, t_63, t_99, t_100, t_120, t_160, t_255, t_960, t_1439, t_1440, t_n1, t_n2, t_n3, t_n4, t_n11, t_n12, t_n13, t_n14, t_n120, t_n1000, t_n100000, t_n100, t_200]
            omega
          rcases hcase with rfl | rfl | rfl
          · rw [if_pos rfl]
            refine ⟨hisD, go2 hmB (by decide) cb (s_M_told_40 ?_)⟩
            rw [if_neg (by decide), if_pos rfl]
            refine ⟨hib, ?_⟩
            rw [show v.1 163 (ix a) = v.1 (83 + ix a) 1 from hd.2.1]
            exact h0 _
          · rw [if_neg (by decide), if_pos rfl]
            refine ⟨hisD, go2 hmB (by decide) cb (s_M_told_40 ?_)⟩
            rw [if_neg (by decide), if_neg (by decide), if_pos rfl]
            refine ⟨hib, ?_⟩
            rw [show v.1 164 (ix a) = v.1 (83 + ix a) 2 from hd.2.2]
            exact h0 _
          · rw [if_neg (by decide), if_neg (by decide)]
            refine ⟨hisD, go2 hmB (by decide) cb (s_M_told_40 ?_)⟩
            rw [if_neg (by decide), if_neg (by decide), if_neg (by decide), if_pos rfl]
            refine ⟨hib, ?_⟩
            rw [show v.1 162 (ix a) = v.1 (83 + ix a) 0 from hd.1]
            exact h0 _
        · rw [decide_eq_false cb, if_neg (by decide)]
          exact t64 (by omega) q
  refine s_P_told ?_
  by_cases c0 : b.toInt < 0
  · rw [if_pos (by simp only [Int32.lt_iff_toInt_lt, i_eq, t_0, t_1, t_2, t_3, t_4, t_5, t_6, t_7, t_9, t_10, t_20, t_30, t_32, t_40, t_59, t_60, t_63, t_99, t_100, t_120, t_160, t_255, t_960, t_1439, t_1440, t_n1, t_n2, t_n3, t_n4, t_n11, t_n12, t_n13, t_n14, t_n120, t_n1000, t_n100000, t_n100, t_200]; omega)]
    exact t31 (by omega)
  · rw [if_neg (by simp only [Int32.lt_iff_toInt_lt, i_eq, t_0, t_1, t_2, t_3, t_4, t_5, t_6, t_7, t_9, t_10, t_20, t_30, t_32, t_40, t_59, t_60, t_63, t_99, t_100, t_120, t_160, t_255, t_960, t_1439, t_1440, t_n1, t_n2, t_n3, t_n4, t_n11, t_n12, t_n13, t_n14, t_n120, t_n1000, t_n100000, t_n100, t_200]; omega)]
    by_cases c3 : 3 < b.toInt
    · rw [if_pos (by simp only [Int32.lt_iff_toInt_lt, i_eq, t_0, t_1, t_2, t_3, t_4, t_5, t_6, t_7, t_9, t_10, t_20, t_30, t_32, t_40, t_59, t_60, t_63, t_99, t_100, t_120, t_160, t_255, t_960, t_1439, t_1440, t_n1, t_n2, t_n3, t_n4, t_n11, t_n12, t_n13, t_n14, t_n120, t_n1000, t_n100000, t_n100, t_200]; omega)]
      exact t31 (by omega)
    · rw [if_neg (by simp only [Int32.lt_iff_toInt_lt, i_eq, t_0, t_1, t_2, t_3, t_4, t_5, t_6, t_7, t_9, t_10, t_20, t_30, t_32, t_40, t_59, t_60, t_63, t_99, t_100, t_120, t_160, t_255, t_960, t_1439, t_1440, t_n1, t_n2, t_n3, t_n4, t_n11, t_n12, t_n13, t_n14, t_n120, t_n1000, t_n100000, t_n100, t_200]; omega)]
      refine P_isClockN hnA hn6 ?_
      by_cases cb : 0 ≤ a.toInt ∧ a.toInt < n
      · rw [decide_eq_true cb, if_pos rfl]
        have hd := (hcl (ix a) (ix_lt cb)).1
        have hib : ib a 6 := by rw [ib_iff]; omega
        have hisC := isClock_of (c := ix a) (by have := ix_lt cb; omega)
        refine ⟨hib, s_C_tell ?_⟩
        have hcase : b = 0 ∨ b = 1 ∨ b = 2 ∨ b = 3 := by
          simp only [i_eq, t_0, t_1, t_2, t_3, t_4, t_5, t_6, t_7, t_9, t_10, t_20, t_30, t_32, t_40, t_59, t_60, t_63, t_99, t_100, t_120, t_160, t_255, t_960, t_1439, t_1440, t_n1, t_n2, t_n3, t_n4, t_n11, t_n12, t_n13, t_n14, t_n120, t_n1000, t_n100000, t_n100, t_200]
          omega
        rcases hcase with rfl | rfl | rfl | rfl
        · rw [if_pos rfl]
          refine ⟨hisC, go1 hnB (by decide) cb (s_M_told_40 ?_)⟩
          rw [if_pos (by decide), if_pos rfl]
          refine ⟨hib, ?_⟩
          rw [show v.1 158 (ix a) = v.1 (77 + ix a) 1 from hd.2.1]
          exact h0 _
        · rw [if_neg (by decide), if_pos rfl]
          refine ⟨hisC, go1 hnB (by decide) cb (s_M_told_40 ?_)⟩
          rw [if_pos (by decide), if_neg (by decide), if_pos rfl]
          refine ⟨hib, ?_⟩
          rw [show v.1 159 (ix a) = v.1 (77 + ix a) 0 from hd.1]
          exact h0 _
        · rw [if_neg (by decide), if_neg (by decide), if_pos rfl]
          refine ⟨hisC, go1 hnB (by decide) cb (s_M_told_40 ?_)⟩
          rw [if_pos (by decide), if_neg (by decide), if_neg (by decide), if_pos rfl]
          refine ⟨hib, ?_⟩
          rw [show v.1 160 (ix a) = v.1 (77 + ix a) 2 from hd.2.2.1]
          exact h0 _
        · rw [if_neg (by decide), if_neg (by decide), if_neg (by decide)]
          refine ⟨hisC, go1 hnB (by decide) cb (s_M_told_40 ?_)⟩
          rw [if_pos (by decide), if_neg (by decide), if_neg (by decide), if_neg (by decide)]
          refine ⟨hib, ?_⟩
          rw [show v.1 161 (ix a) = v.1 (77 + ix a) 3 from hd.2.2.2]
          exact h0 _
      · rw [decide_eq_false cb, if_neg (by decide)]
        exact t31 (by omega)
/-- the kinds that a kind is, or is under -/
def anc (k : Nat) : List Nat := [[0], [1, 0], [2, 0], [3, 1, 0], [4, 2, 0], [5, 0]].getD k []
def und (k : Nat) (z : Int32) : Prop := ∃ j ∈ anc k, nI j = z
theorem D_isUnder {c : Nat} (hc : isDoer c) {k : Nat} (hk : k < 6) {z : Int32} (hz : ¬ z = -1) {v : Vv} (hkv : v.1 c 0 = nI k) {Q : Bool → Vv → Prop} (hT : und k z → Q true v) (hF : ¬ und k z → Q false v) : m_D_isUnder c z v Q := by
  refine s_D_isUnder ⟨hc, ?_⟩
  rw [hkv]
  match k, hk with
  | 0, _ =>
    refine s_D_isUnder_7 ?_
    rw [if_pos (by decide)]
    refine P_isKind ?_
    rw [decide_eq_true (by decide), if_pos rfl]
    by_cases e0 : nI 0 = z
    · rw [if_pos e0]
      exact hT ⟨0, by decide, e0⟩
    rw [if_neg e0]
    refine ⟨ib_nI (by decide) (by decide), ?_⟩
    rw [show stV 2 (ix (nI 0)) = -1 by decide, show (0 : Int32) + (1 : Int32) = nI 1 by decide]
    refine s_D_isUnder_7 ?_
    rw [if_pos (by decide)]
    refine P_isKind ?_
    rw [decide_eq_false (by decide), if_neg (by decide)]
    refine hF ?_
    rintro ⟨j, hj, e⟩
    have hj : j ∈ [0] := hj
    simp only [List.mem_cons, List.not_mem_nil, or_false] at hj
    subst hj
    exact e0 e
  | 1, _ =>
    refine s_D_isUnder_7 ?_
    rw [if_pos (by decide)]
    refine P_isKind ?_
    rw [decide_eq_true (by decide), if_pos rfl]
    by_cases e0 : nI 1 = z
    · rw [if_pos e0]
      exact hT ⟨1, by decide, e0⟩
    rw [if_neg e0]
    refine ⟨ib_nI (by decide) (by decide), ?_⟩
    rw [show stV 2 (ix (nI 1)) = nI 0 by decide, show (0 : Int32) + (1 : Int32) = nI 1 by decide]
    refine s_D_isUnder_7 ?_
    rw [if_pos (by decide)]
    refine P_isKind ?_
    rw [decide_eq_true (by decide), if_pos rfl]
    by_cases e1 : nI 0 = z
    · rw [if_pos e1]
      exact hT ⟨0, by decide, e1⟩
    rw [if_neg e1]
    refine ⟨ib_nI (by decide) (by decide), ?_⟩
    rw [show stV 2 (ix (nI 0)) = -1 by decide, show nI 1 + (1 : Int32) = nI 2 by decide]
    refine s_D_isUnder_7 ?_
    rw [if_pos (by decide)]
    refine P_isKind ?_
    rw [decide_eq_false (by decide), if_neg (by decide)]
    refine hF ?_
    rintro ⟨j, hj, e⟩
    have hj : j ∈ [1, 0] := hj
    simp only [List.mem_cons, List.not_mem_nil, or_false] at hj
    rcases hj with rfl | rfl
    · exact e0 e
    · exact e1 e
  | 2, _ =>
    refine s_D_isUnder_7 ?_
    rw [if_pos (by decide)]
    refine P_isKind ?_
    rw [decide_eq_true (by decide), if_pos rfl]
    by_cases e0 : nI 2 = z
    · rw [if_pos e0]
      exact hT ⟨2, by decide, e0⟩
    rw [if_neg e0]
    refine ⟨ib_nI (by decide) (by decide), ?_⟩
    rw [show stV 2 (ix (nI 2)) = nI 0 by decide, show (0 : Int32) + (1 : Int32) = nI 1 by decide]
    refine s_D_isUnder_7 ?_
    rw [if_pos (by decide)]
    refine P_isKind ?_
    rw [decide_eq_true (by decide), if_pos rfl]
    by_cases e1 : nI 0 = z
    · rw [if_pos e1]
      exact hT ⟨0, by decide, e1⟩
    rw [if_neg e1]
    refine ⟨ib_nI (by decide) (by decide), ?_⟩
    rw [show stV 2 (ix (nI 0)) = -1 by decide, show nI 1 + (1 : Int32) = nI 2 by decide]
    refine s_D_isUnder_7 ?_
    rw [if_pos (by decide)]
    refine P_isKind ?_
    rw [decide_eq_false (by decide), if_neg (by decide)]
    refine hF ?_
    rintro ⟨j, hj, e⟩
    have hj : j ∈ [2, 0] := hj
    simp only [List.mem_cons, List.not_mem_nil, or_false] at hj
    rcases hj with rfl | rfl
    · exact e0 e
    · exact e1 e
  | 3, _ =>
    refine s_D_isUnder_7 ?_
    rw [if_pos (by decide)]
    refine P_isKind ?_
    rw [decide_eq_true (by decide), if_pos rfl]
    by_cases e0 : nI 3 = z
    · rw [if_pos e0]
      exact hT ⟨3, by decide, e0⟩
    rw [if_neg e0]
    refine ⟨ib_nI (by decide) (by decide), ?_⟩
    rw [show stV 2 (ix (nI 3)) = nI 1 by decide, show (0 : Int32) + (1 : Int32) = nI 1 by decide]
    refine s_D_isUnder_7 ?_
    rw [if_pos (by decide)]
    refine P_isKind ?_
    rw [decide_eq_true (by decide), if_pos rfl]
    by_cases e1 : nI 1 = z
    · rw [if_pos e1]
      exact hT ⟨1, by decide, e1⟩
    rw [if_neg e1]
    refine ⟨ib_nI (by decide) (by decide), ?_⟩
    rw [show stV 2 (ix (nI 1)) = nI 0 by decide, show nI 1 + (1 : Int32) = nI 2 by decide]
    refine s_D_isUnder_7 ?_
    rw [if_pos (by decide)]
    refine P_isKind ?_
    rw [decide_eq_true (by decide), if_pos rfl]
    by_cases e2 : nI 0 = z
    · rw [if_pos e2]
      exact hT ⟨0, by decide, e2⟩
    rw [if_neg e2]
    refine ⟨ib_nI (by decide) (by decide), ?_⟩
    rw [show stV 2 (ix (nI 0)) = -1 by decide, show nI 2 + (1 : Int32) = nI 3 by decide]
    refine s_D_isUnder_7 ?_
    rw [if_pos (by decide)]
    refine P_isKind ?_
    rw [decide_eq_false (by decide), if_neg (by decide)]
    refine hF ?_
    rintro ⟨j, hj, e⟩
    have hj : j ∈ [3, 1, 0] := hj
    simp only [List.mem_cons, List.not_mem_nil, or_false] at hj
    rcases hj with rfl | rfl | rfl
    · exact e0 e
    · exact e1 e
    · exact e2 e
  | 4, _ =>
    refine s_D_isUnder_7 ?_
    rw [if_pos (by decide)]
    refine P_isKind ?_
    rw [decide_eq_true (by decide), if_pos rfl]
    by_cases e0 : nI 4 = z
    · rw [if_pos e0]
      exact hT ⟨4, by decide, e0⟩
    rw [if_neg e0]
    refine ⟨ib_nI (by decide) (by decide), ?_⟩
    rw [show stV 2 (ix (nI 4)) = nI 2 by decide, show (0 : Int32) + (1 : Int32) = nI 1 by decide]
    refine s_D_isUnder_7 ?_
    rw [if_pos (by decide)]
    refine P_isKind ?_
    rw [decide_eq_true (by decide), if_pos rfl]
    by_cases e1 : nI 2 = z
    · rw [if_pos e1]
      exact hT ⟨2, by decide, e1⟩
    rw [if_neg e1]
    refine ⟨ib_nI (by decide) (by decide), ?_⟩
    rw [show stV 2 (ix (nI 2)) = nI 0 by decide, show nI 1 + (1 : Int32) = nI 2 by decide]
    refine s_D_isUnder_7 ?_
    rw [if_pos (by decide)]
    refine P_isKind ?_
    rw [decide_eq_true (by decide), if_pos rfl]
    by_cases e2 : nI 0 = z
    · rw [if_pos e2]
      exact hT ⟨0, by decide, e2⟩
    rw [if_neg e2]
    refine ⟨ib_nI (by decide) (by decide), ?_⟩
    rw [show stV 2 (ix (nI 0)) = -1 by decide, show nI 2 + (1 : Int32) = nI 3 by decide]
    refine s_D_isUnder_7 ?_
    rw [if_pos (by decide)]
    refine P_isKind ?_
    rw [decide_eq_false (by decide), if_neg (by decide)]
    refine hF ?_
    rintro ⟨j, hj, e⟩
    have hj : j ∈ [4, 2, 0] := hj
    simp only [List.mem_cons, List.not_mem_nil, or_false] at hj
    rcases hj with rfl | rfl | rfl
    · exact e0 e
    · exact e1 e
    · exact e2 e
  | 5, _ =>
    refine s_D_isUnder_7 ?_
    rw [if_pos (by decide)]
    refine P_isKind ?_
    rw [decide_eq_true (by decide), if_pos rfl]
    by_cases e0 : nI 5 = z
    · rw [if_pos e0]
      exact hT ⟨5, by decide, e0⟩
    rw [if_neg e0]
    refine ⟨ib_nI (by decide) (by decide), ?_⟩
    rw [show stV 2 (ix (nI 5)) = nI 0 by decide, show (0 : Int32) + (1 : Int32) = nI 1 by decide]
    refine s_D_isUnder_7 ?_
    rw [if_pos (by decide)]
    refine P_isKind ?_
    rw [decide_eq_true (by decide), if_pos rfl]
    by_cases e1 : nI 0 = z
    · rw [if_pos e1]
      exact hT ⟨0, by decide, e1⟩
    rw [if_neg e1]
    refine ⟨ib_nI (by decide) (by decide), ?_⟩
    rw [show stV 2 (ix (nI 0)) = -1 by decide, show nI 1 + (1 : Int32) = nI 2 by decide]
    refine s_D_isUnder_7 ?_
    rw [if_pos (by decide)]
    refine P_isKind ?_
    rw [decide_eq_false (by decide), if_neg (by decide)]
    refine hF ?_
    rintro ⟨j, hj, e⟩
    have hj : j ∈ [5, 0] := hj
    simp only [List.mem_cons, List.not_mem_nil, or_false] at hj
    rcases hj with rfl | rfl
    · exact e0 e
    · exact e1 e
theorem M_taken {a : Int32} {k : Nat} (hk : k < 6) {z : Int32} (hz : ¬ z = -1) {v : Vv} (ha : ib a 5) {Q : Int32 → Vv → Prop} (hT : und k z → Q (v.1 163 (ix a)) v) (hF : ¬ und k z → Q (-13) v) : k_M_taken_33 a z (nI k) v Q := by
  match k, hk with
  | 0, _ =>
    refine s_M_taken_33 ?_
    rw [if_neg (by decide)]
    by_cases e0 : nI 0 = z
    · rw [if_pos e0]
      refine s_M_taken_51 ?_
      rw [if_pos e0]
      exact ⟨ha, hT ⟨0, by decide, e0⟩⟩
    rw [if_neg e0]
    refine s_M_over ?_
    rw [show (if nI 0 = (0 : Int32) then (-1 : Int32) else (if nI 0 = (3 : Int32) then (1 : Int32) else (if nI 0 = (4 : Int32) then (2 : Int32) else (0 : Int32)))) = -1 by decide]
    refine s_M_taken_33 ?_
    rw [if_pos rfl]
    refine s_M_taken_51 ?_
    rw [if_neg (fun q => hz q.symm)]
    refine hF ?_
    rintro ⟨j, hj, e⟩
    have hj : j ∈ [0] := hj
    simp only [List.mem_cons, List.not_mem_nil, or_false] at hj
    subst hj
    exact e0 e
  | 1, _ =>
    refine s_M_taken_33 ?_
    rw [if_neg (by decide)]
    by_cases e0 : nI 1 = z
    · rw [if_pos e0]
      refine s_M_taken_51 ?_
      rw [if_pos e0]
      exact ⟨ha, hT ⟨1, by decide, e0⟩⟩
    rw [if_neg e0]
    refine s_M_over ?_
    rw [show (if nI 1 = (0 : Int32) then (-1 : Int32) else (if nI 1 = (3 : Int32) then (1 : Int32) else (if nI 1 = (4 : Int32) then (2 : Int32) else (0 : Int32)))) = nI 0 by decide]
    refine s_M_taken_33 ?_
    rw [if_neg (by decide)]
    by_cases e1 : nI 0 = z
    · rw [if_pos e1]
      refine s_M_taken_51 ?_
      rw [if_pos e1]
      exact ⟨ha, hT ⟨0, by decide, e1⟩⟩
    rw [if_neg e1]
    refine s_M_over ?_
    rw [show (if nI 0 = (0 : Int32) then (-1 : Int32) else (if nI 0 = (3 : Int32) then (1 : Int32) else (if nI 0 = (4 : Int32) then (2 : Int32) else (0 : Int32)))) = -1 by decide]
    refine s_M_taken_33 ?_
    rw [if_pos rfl]
    refine s_M_taken_51 ?_
    rw [if_neg (fun q => hz q.symm)]
    refine hF ?_
    rintro ⟨j, hj, e⟩
    have hj : j ∈ [1, 0] := hj
    simp only [List.mem_cons, List.not_mem_nil, or_false] at hj
    rcases hj with rfl | rfl
    · exact e0 e
    · exact e1 e
  | 2, _ =>
    refine s_M_taken_33 ?_
    rw [if_neg (by decide)]
    by_cases e0 : nI 2 = z
    · rw [if_pos e0]
      refine s_M_taken_51 ?_
      rw [if_pos e0]
      exact ⟨ha, hT ⟨2, by decide, e0⟩⟩
    rw [if_neg e0]
    refine s_M_over ?_
    rw [show (if nI 2 = (0 : Int32) then (-1 : Int32) else (if nI 2 = (3 : Int32) then (1 : Int32) else (if nI 2 = (4 : Int32) then (2 : Int32) else (0 : Int32)))) = nI 0 by decide]
    refine s_M_taken_33 ?_
    rw [if_neg (by decide)]
    by_cases e1 : nI 0 = z
    · rw [if_pos e1]
      refine s_M_taken_51 ?_
      rw [if_pos e1]
      exact ⟨ha, hT ⟨0, by decide, e1⟩⟩
    rw [if_neg e1]
    refine s_M_over ?_
    rw [show (if nI 0 = (0 : Int32) then (-1 : Int32) else (if nI 0 = (3 : Int32) then (1 : Int32) else (if nI 0 = (4 : Int32) then (2 : Int32) else (0 : Int32)))) = -1 by decide]
    refine s_M_taken_33 ?_
    rw [if_pos rfl]
    refine s_M_taken_51 ?_
    rw [if_neg (fun q => hz q.symm)]
    refine hF ?_
    rintro ⟨j, hj, e⟩
    have hj : j ∈ [2, 0] := hj
    simp only [List.mem_cons, List.not_mem_nil, or_false] at hj
    rcases hj with rfl | rfl
    · exact e0 e
    · exact e1 e
  | 3, _ =>
    refine s_M_taken_33 ?_
    rw [if_neg (by decide)]
    by_cases e0 : nI 3 = z
    · rw [if_pos e0]
      refine s_M_taken_51 ?_
      rw [if_pos e0]
      exact ⟨ha, hT ⟨3, by decide, e0⟩⟩
    rw [if_neg e0]
    refine s_M_over ?_
    rw [show (if nI 3 = (0 : Int32) then (-1 : Int32) else (if nI 3 = (3 : Int32) then (1 : Int32) else (if nI 3 = (4 : Int32) then (2 : Int32) else (0 : Int32)))) = nI 1 by decide]
    refine s_M_taken_33 ?_
    rw [if_neg (by decide)]
    by_cases e1 : nI 1 = z
    · rw [if_pos e1]
      refine s_M_taken_51 ?_
      rw [if_pos e1]
      exact ⟨ha, hT ⟨1, by decide, e1⟩⟩
    rw [if_neg e1]
    refine s_M_over ?_
    rw [show (if nI 1 = (0 : Int32) then (-1 : Int32) else (if nI 1 = (3 : Int32) then (1 : Int32) else (if nI 1 = (4 : Int32) then (2 : Int32) else (0 : Int32)))) = nI 0 by decide]
    refine s_M_taken_33 ?_
    rw [if_neg (by decide)]
    by_cases e2 : nI 0 = z
    · rw [if_pos e2]
      refine s_M_taken_51 ?_
      rw [if_pos e2]
      exact ⟨ha, hT ⟨0, by decide, e2⟩⟩
    rw [if_neg e2]
    refine s_M_over ?_
    rw [show (if nI 0 = (0 : Int32) then (-1 : Int32) else (if nI 0 = (3 : Int32) then (1 : Int32) else (if nI 0 = (4 : Int32) then (2 : Int32) else (0 : Int32)))) = -1 by decide]
    refine s_M_taken_33 ?_
    rw [if_pos rfl]
    refine s_M_taken_51 ?_
    rw [if_neg (fun q => hz q.symm)]
    refine hF ?_
    rintro ⟨j, hj, e⟩
    have hj : j ∈ [3, 1, 0] := hj
    simp only [List.mem_cons, List.not_mem_nil, or_false] at hj
    rcases hj with rfl | rfl | rfl
    · exact e0 e
    · exact e1 e
    · exact e2 e
  | 4, _ =>
    refine s_M_taken_33 ?_
    rw [if_neg (by decide)]
    by_cases e0 : nI 4 = z
    · rw [if_pos e0]
      refine s_M_taken_51 ?_
      rw [if_pos e0]
      exact ⟨ha, hT ⟨4, by decide, e0⟩⟩
    rw [if_neg e0]
    refine s_M_over ?_
    rw [show (if nI 4 = (0 : Int32) then (-1 : Int32) else (if nI 4 = (3 : Int32) then (1 : Int32) else (if nI 4 = (4 : Int32) then (2 : Int32) else (0 : Int32)))) = nI 2 by decide]
    refine s_M_taken_33 ?_
    rw [if_neg (by decide)]
    by_cases e1 : nI 2 = z
    · rw [if_pos e1]
      refine s_M_taken_51 ?_
      rw [if_pos e1]
      exact ⟨ha, hT ⟨2, by decide, e1⟩⟩
    rw [if_neg e1]
    refine s_M_over ?_
    rw [show (if nI 2 = (0 : Int32) then (-1 : Int32) else (if nI 2 = (3 : Int32) then (1 : Int32) else (if nI 2 = (4 : Int32) then (2 : Int32) else (0 : Int32)))) = nI 0 by decide]
    refine s_M_taken_33 ?_
    rw [if_neg (by decide)]
    by_cases e2 : nI 0 = z
    · rw [if_pos e2]
      refine s_M_taken_51 ?_
      rw [if_pos e2]
      exact ⟨ha, hT ⟨0, by decide, e2⟩⟩
    rw [if_neg e2]
    refine s_M_over ?_
    rw [show (if nI 0 = (0 : Int32) then (-1 : Int32) else (if nI 0 = (3 : Int32) then (1 : Int32) else (if nI 0 = (4 : Int32) then (2 : Int32) else (0 : Int32)))) = -1 by decide]
    refine s_M_taken_33 ?_
    rw [if_pos rfl]
    refine s_M_taken_51 ?_
    rw [if_neg (fun q => hz q.symm)]
    refine hF ?_
    rintro ⟨j, hj, e⟩
    have hj : j ∈ [4, 2, 0] := hj
    simp only [List.mem_cons, List.not_mem_nil, or_false] at hj
    rcases hj with rfl | rfl | rfl
    · exact e0 e
    · exact e1 e
    · exact e2 e
  | 5, _ =>
    refine s_M_taken_33 ?_
    rw [if_neg (by decide)]
    by_cases e0 : nI 5 = z
    · rw [if_pos e0]
      refine s_M_taken_51 ?_
      rw [if_pos e0]
      exact ⟨ha, hT ⟨5, by decide, e0⟩⟩
    rw [if_neg e0]
    refine s_M_over ?_
    rw [show (if nI 5 = (0 : Int32) then (-1 : Int32) else (if nI 5 = (3 : Int32) then (1 : Int32) else (if nI 5 = (4 : Int32) then (2 : Int32) else (0 : Int32)))) = nI 0 by decide]
    refine s_M_taken_33 ?_
    rw [if_neg (by decide)]
    by_cases e1 : nI 0 = z
    · rw [if_pos e1]
      refine s_M_taken_51 ?_
      rw [if_pos e1]
      exact ⟨ha, hT ⟨0, by decide, e1⟩⟩
    rw [if_neg e1]
    refine s_M_over ?_
    rw [show (if nI 0 = (0 : Int32) then (-1 : Int32) else (if nI 0 = (3 : Int32) then (1 : Int32) else (if nI 0 = (4 : Int32) then (2 : Int32) else (0 : Int32)))) = -1 by decide]
    refine s_M_taken_33 ?_
    rw [if_pos rfl]
    refine s_M_taken_51 ?_
    rw [if_neg (fun q => hz q.symm)]
    refine hF ?_
    rintro ⟨j, hj, e⟩
    have hj : j ∈ [5, 0] := hj
    simp only [List.mem_cons, List.not_mem_nil, or_false] at hj
    rcases hj with rfl | rfl
    · exact e0 e
    · exact e1 e
theorem taken_step {a b : Int32} {v : Vv} (h : HO v) {Q : Int32 → Int32 → Vv → Prop} (h0 : ∀ r, Q r r v) : m_P_taken a b v (fun r v1 => m_M_taken a b v1 (fun r' v2 => Q r r' v2)) := by
  obtain ⟨n, m, h⟩ := h
  obtain ⟨⟨hn6, hm5⟩, ⟨hnA, hnB⟩, ⟨hmA, hmB⟩, hru, hcl, hdo⟩ := id h
  refine s_P_taken (P_isKind ?_)
  by_cases cb : 0 ≤ b.toInt ∧ b.toInt < 6
  · rw [decide_eq_true cb, if_pos rfl]
    have hb : ¬ b = -1 := fun q => by rw [q] at cb; exact absurd cb.1 (by decide)
    have hM : ∀ {Q : Int32 → Vv → Prop}, (if 0 ≤ a.toInt ∧ a.toInt < m then (ib a 5 ∧ k_M_taken_33 a b (v.1 162 (ix a)) v Q) else Q (-11) v) → m_M_taken a b v Q := by
      intro Q hh
      refine s_M_taken (M_in ?_)
      rw [Int32.toInt_toInt64, l_0, l_5, decide_eq_true (by omega), if_pos rfl]
      refine M_isDoerN hmB hm5 ?_
      by_cases ca : 0 ≤ a.toInt ∧ a.toInt < m
      · rw [if_pos ca] at hh
        rw [decide_eq_true ca, if_pos rfl]
        exact hh
      · rw [if_neg ca] at hh
        rw [decide_eq_false ca, if_neg (by decide)]
        exact hh
    refine P_isDoerN hmA hm5 ?_
    by_cases ca : 0 ≤ a.toInt ∧ a.toInt < m
    · rw [decide_eq_true ca, if_pos rfl]
      have hlt := ix_lt ca
      obtain ⟨hd, hok, -⟩ := hdo (ix a) hlt
      have hok : 0 ≤ (v.1 (83 + ix a) 0).toInt ∧ (v.1 (83 + ix a) 0).toInt ≤ 5 := hok
      have hib : ib a 5 := by rw [ib_iff]; omega
      obtain ⟨k, hk, hkv⟩ := nI_of3 (x := v.1 (83 + ix a) 0) (n := 6) hok.1 (by have := hok.2; omega)
      have hkm : v.1 162 (ix a) = nI k := hd.1.trans hkv
      have hnum : v.1 163 (ix a) = v.1 (83 + ix a) 1 := hd.2.1
      refine ⟨hib, D_isUnder (isDoer_of (by omega)) hk hb hkv (fun q => ?_) (fun q => ?_)⟩
      · rw [if_pos rfl]
        refine hM ?_
        rw [if_pos ca, hkm]
        exact ⟨hib, M_taken hk hb hib (fun _ => by rw [hnum]; exact h0 _) (fun z => absurd q z)⟩
      · rw [if_neg (by decide)]
        refine hM ?_
        rw [if_pos ca, hkm]
        exact ⟨hib, M_taken hk hb hib (fun z => absurd z q) (fun _ => h0 _)⟩
    · rw [decide_eq_false ca, if_neg (by decide)]
      refine hM ?_
      rw [if_neg ca]
      exact h0 _
  · rw [decide_eq_false cb, if_neg (by decide)]
    refine s_M_taken (M_in ?_)
    rw [Int32.toInt_toInt64, l_0, l_5, decide_eq_false (by omega), if_neg (by decide)]
    exact h0 _
