theorem C_put {c : Nat} (hc : isClock c) {what x : Int32} {v : Vv} {Q : Int32 → Vv → Prop} (h : Q (if what = 0 then v.1 c 1 else if what = 1 then v.1 c 0 else if what = 2 then v.1 c 2 else v.1 c 3) (if what = 0 then sI v c 1 x else if what = 1 then sI v c 0 x else if what = 2 then sI v c 2 x else sI v c 3 x)) : m_C_put c what x v Q := by
  refine s_C_put ⟨hc, s_C_tell ?_⟩
  by_cases h0 : what = 0
  · simp only [if_pos h0] at h ⊢; exact ⟨hc, h⟩
  · simp only [if_neg h0] at h ⊢
    by_cases h1 : what = 1
    · simp only [if_pos h1] at h ⊢; exact ⟨hc, h⟩
    · simp only [if_neg h1] at h ⊢
      by_cases h2 : what = 2
      · simp only [if_pos h2] at h ⊢; exact ⟨hc, h⟩
      · simp only [if_neg h2] at h ⊢; exact ⟨hc, h⟩
theorem D_put {c : Nat} (hc : isDoer c) {what x : Int32} {v : Vv} {Q : Int32 → Vv → Prop} (hw : what = 4 ∨ what = 5) (h : Q (if what = 4 then v.1 c 1 else v.1 c 2) (if what = 4 then sI v c 1 x else sI v c 2 x)) : m_D_put c what x v Q := by
  refine s_D_put ⟨hc, s_D_tell ?_⟩
  by_cases h0 : what = 4
  · simp only [if_pos h0] at h ⊢; exact ⟨hc, h⟩
  · have h1 : what = 5 := hw.resolve_left h0
    simp only [if_neg h0] at h ⊢
    rw [if_pos h1]
    exact ⟨hc, h⟩
theorem set_step {a b c : Int32} {v : Vv} (h : HO v) {Q : Int32 → Int32 → Vv → Prop} (h0 : ∀ r, Q r r v) (hQ : ∀ r w n m, RH (hs v 74) (hm v) n m → RH (hs w 74) (hm w) n m → FX AH v w → (∀ d, w.1 162 d = v.1 162 d) → w.1 1 12 = 1 → cru (hs w 74) = cru (hs v 74) → Q r r w) : m_P_set a b c v (fun r v1 => m_M_set a b c v1 (fun r' v2 => Q r r' v2)) := by
  obtain ⟨n, m, h⟩ := h
  obtain ⟨⟨hn6, hm5⟩, ⟨hnA, hnB⟩, ⟨hmA, hmB⟩, hru, hcl, hdo⟩ := id h
  -- the reference, where it is refused
  have bad1 : ¬ (0 ≤ a.toInt ∧ a.toInt ≤ 5) → ∀ {Q : Int32 → Vv → Prop}, Q (-1000) v → m_M_set a b c v Q := by
    intro q Q hh
    refine s_M_set (M_in ?_)
    rw [Int32.toInt_toInt64, l_0, l_5, decide_eq_false q, if_neg (by decide)]
    exact hh
  have bad2 : (0 ≤ a.toInt ∧ a.toInt ≤ 3) → ¬ (0 ≤ b.toInt ∧ b.toInt < n) → ∀ {Q : Int32 → Vv → Prop}, Q (-1000) v → m_M_set a b c v Q := by
    intro q z Q hh
    refine s_M_set (M_in ?_)
    rw [Int32.toInt_toInt64, l_0, l_5, decide_eq_true (by omega), if_pos rfl, if_pos (by simp only [Int32.lt_iff_toInt_lt, i_eq, t_0, t_1, t_2, t_3, t_4, t_5, t_6, t_7, t_9, t_10, t_20, t_30, t_32, t_40, t_59, t_60, t_63, t_99, t_100, t_120, t_160, t_255, t_960, t_1439, t_1440, t_n1, t_n2, t_n3, t_n4, t_n11, t_n12, t_n13, t_n14, t_n120, t_n1000, t_n100000, t_n100, t_200]; omega)]
    refine M_isClockN hnB hn6 ?_
    rw [decide_eq_false z, if_neg (by decide)]
    exact hh
  have bad3 : (4 ≤ a.toInt ∧ a.toInt ≤ 5) → ¬ (0 ≤ b.toInt ∧ b.toInt < m) → ∀ {Q : Int32 → Vv → Prop}, Q (-1000) v → m_M_set a b c v Q := by
    intro q z Q hh
    refine s_M_set (M_in ?_)
    rw [Int32.toInt_toInt64, l_0, l_5, decide_eq_true (by omega), if_pos rfl, if_neg (by simp only [Int32.lt_iff_toInt_lt, i_eq, t_0, t_1, t_2, t_3, t_4, t_5, t_6, t_7, t_9, t_10, t_20, t_30, t_32, t_40, t_59, t_60, t_63, t_99, t_100, t_120, t_160, t_255, t_960, t_1439, t_1440, t_n1, t_n2, t_n3, t_n4, t_n11, t_n12, t_n13, t_n14, t_n120, t_n1000, t_n100000, t_n100, t_200]; omega)]
    refine M_isDoerN hmB hm5 ?_
    rw [decide_eq_false z, if_neg (by decide)]
    exact hh
  have go1 : ∀ {w : Vv} {Q : Int32 → Vv → Prop}, w.1 154 11 = nI n → (0 ≤ a.toInt ∧ a.toInt ≤ 3) → (0 ≤ b.toInt ∧ b.toInt < n) → k_M_set_40 a b c w Q → m_M_set a b c w Q := by
    intro w Q hw q z hh
    refine s_M_set (M_in ?_)
    rw [Int32.toInt_toInt64, l_0, l_5, decide_eq_true (by omega), if_pos rfl, if_pos (by simp only [Int32.lt_iff_toInt_lt, i_eq, t_0, t_1, t_2, t_3, t_4, t_5, t_6, t_7, t_9, t_10, t_20, t_30, t_32, t_40, t_59, t_60, t_63, t_99, t_100, t_120, t_160, t_255, t_960, t_1439, t_1440, t_n1, t_n2, t_n3, t_n4, t_n11, t_n12, t_n13, t_n14, t_n120, t_n1000, t_n100000, t_n100, t_200]; omega)]
    refine M_isClockN hw hn6 ?_
    rw [decide_eq_true z, if_pos rfl]
    exact hh
  have go2 : ∀ {w : Vv} {Q : Int32 → Vv → Prop}, w.1 154 15 = nI m → (4 ≤ a.toInt ∧ a.toInt ≤ 5) → (0 ≤ b.toInt ∧ b.toInt < m) → k_M_set_40 a b c w Q → m_M_set a b c w Q := by
    intro w Q hw q z hh
    refine s_M_set (M_in ?_)
    rw [Int32.toInt_toInt64, l_0, l_5, decide_eq_true (by omega), if_pos rfl, if_neg (by simp only [Int32.lt_iff_toInt_lt, i_eq, t_0, t_1, t_2, t_3, t_4, t_5, t_6, t_7, t_9, t_10, t_20, t_30, t_32, t_40, t_59, t_60, t_63, t_99, t_100, t_120, t_160, t_255, t_960, t_1439, t_1440, t_n1, t_n2, t_n3, t_n4, t_n11, t_n12, t_n13, t_n14, t_n120, t_n1000, t_n100000, t_n100, t_200]; omega)]
    refine M_isDoerN hw hm5 ?_
    rw [decide_eq_true z, if_pos rfl]
    exact hh
  have told : ∀ {w : Vv} {Q : Int32 → Vv → Prop}, w.1 154 11 = nI n → (0 ≤ a.toInt ∧ a.toInt ≤ 3) → (0 ≤ b.toInt ∧ b.toInt < n) → Q (if a = 0 then w.1 158 (ix b) else if a = 1 then w.1 159 (ix b) else if a = 2 then w.1 160 (ix b) else w.1 161 (ix b)) w → m_M_told b a w Q := by
    intro w Q hw q z hh
    refine s_M_told (M_in ?_)
    rw [Int32.toInt_toInt64, l_0, l_7, decide_eq_true (by omega), if_pos rfl, if_pos (by simp only [Int32.lt_iff_toInt_lt, i_eq, t_0, t_1, t_2, t_3, t_4, t_5, t_6, t_7, t_9, t_10, t_20, t_30, t_32, t_40, t_59, t_60, t_63, t_99, t_100, t_120, t_160, t_255, t_960, t_1439, t_1440, t_n1, t_n2, t_n3, t_n4, t_n11, t_n12, t_n13, t_n14, t_n120, t_n1000, t_n100000, t_n100, t_200]; omega)]
    refine M_isClockN hw hn6 ?_
    rw [decide_eq_true z, if_pos rfl]
    refine s_M_told_40 ?_
    have hb6 : ib b 6 := by rw [ib_iff]; omega
    rw [if_pos (by simp only [Int32.lt_iff_toInt_lt, i_eq, t_0, t_1, t_2, t_3, t_4, t_5, t_6, t_7, t_9, t_10, t_20, t_30, t_32, t_40, t_59, t_60, t_63, t_99, t_100, t_120, t_160, t_255, t_960, t_1439, t_1440, t_n1, t_n2, t_n3, t_n4, t_n11, t_n12, t_n13, t_n14, t_n120, t_n1000, t_n100000, t_n100, t_200]; omega)]
    by_cases h0 : a = 0
    · rw [if_pos h0] at hh ⊢; exact ⟨hb6, hh⟩
    · rw [if_neg h0] at hh ⊢
      by_cases h1 : a = 1
      · rw [if_pos h1] at hh ⊢; exact ⟨hb6, hh⟩
      · rw [if_neg h1] at hh ⊢
        by_cases h2 : a = 2
        · rw [if_pos h2] at hh ⊢; exact ⟨hb6, hh⟩
        · rw [if_neg h2] at hh ⊢; exact ⟨hb6, hh⟩
  refine s_P_set (P_canBe ?_)
  by_cases ca : 0 ≤ a.toInt ∧ a.toInt ≤ 5
  · have hcase : a = 0 ∨ a = 1 ∨ a = 2 ∨ a = 3 ∨ a = 4 ∨ a = 5 := by
      simp only [i_eq, t_0, t_1, t_2, t_3, t_4, t_5, t_6, t_7, t_9, t_10, t_20, t_30, t_32, t_40, t_59, t_60, t_63, t_99, t_100, t_120, t_160, t_255, t_960, t_1439, t_1440, t_n1, t_n2, t_n3, t_n4, t_n11, t_n12, t_n13, t_n14, t_n120, t_n1000, t_n100000, t_n100, t_200]
      omega
    rcases hcase with rfl | rfl | rfl | rfl | rfl | rfl
    · rw [canBe_0]
      by_cases cv : -120 ≤ c.toInt ∧ c.toInt ≤ 120
      · rw [decide_eq_true cv, if_pos rfl, if_neg (by decide)]
        refine P_isClockN hnA hn6 ?_
        by_cases cb : 0 ≤ b.toInt ∧ b.toInt < n
        · rw [decide_eq_true cb, if_pos rfl]
          obtain ⟨i, hi, rfl⟩ := nI_of3 (x := b) (n := n) cb.1 cb.2
          refine s_P_set_36 ?_
          rw [if_neg (by decide), ix_nI (by omega)]
          refine ⟨ib_nI (by omega) (by decide), ?_⟩
          refine C_put (isClock_of (by omega)) ?_
          rw [if_pos rfl, if_pos rfl]
          generalize hu : sI (sI v 1 12 1) (77 + i) 1 c = u
          have ru : ∀ x y, u.1 x y = if x = 77 + i ∧ y = 1 then c else if x = 1 ∧ y = 12 then 1 else v.1 x y := fun x y => by rw [← hu]; rfl
          have un : u.1 154 11 = nI n := by
            rw [ru]
            repeat (first | rw [if_neg (by omega)] | rw [if_pos (by omega)])
            exact hnB
          have uv : u.1 158 i = v.1 158 i := by
            rw [ru]
            repeat (first | rw [if_neg (by omega)] | rw [if_pos (by omega)])
          refine go1 un (by decide) cb (s_M_set_40 ?_)
          rw [if_pos rfl, if_pos rfl]
          refine s_M_set_111 (M_in ?_)
          simp only [Int32.toInt_toInt64, t_0, t_1, t_2, t_3, t_4, t_5, t_6, t_7, t_9, t_10, t_20, t_30, t_32, t_40, t_59, t_60, t_63, t_99, t_100, t_120, t_160, t_255, t_960, t_1439, t_1440, t_n1, t_n2, t_n3, t_n4, t_n11, t_n12, t_n13, t_n14, t_n120, t_n1000, t_n100000, t_n100, t_200]
          rw [decide_eq_true cv, if_pos rfl, if_pos (by decide)]
          refine told un (by decide) cb ?_
          rw [if_pos rfl, ix_nI (by omega)]
          refine s_M_set_165 ?_
          rw [if_pos rfl]
          refine ⟨ib_nI (by omega) (by decide), ?_⟩
          rw [ix_nI (by omega), uv]
          obtain ⟨k1, k2, k3⟩ := set_ok_0 h hi cv
          rw [hu] at k1 k2 k3
          have e : v.1 158 i = (sI v 1 12 1).1 (77 + i) 1 := by
            rw [sI_at]
            repeat (first | rw [if_neg (by omega)] | rw [if_pos (by omega)])
            exact (hcl i hi).1.2.1
          rw [e]
          refine hQ _ _ n m h k1 k2 k3 ?_ ?_
          · rw [sI_at, ru]
            repeat (first | rw [if_neg (by omega)] | rw [if_pos (by omega)])
          · show (sI u 158 i c).1 74 4 = v.1 74 4
            rw [sI_at, ru]
            repeat (first | rw [if_neg (by omega)] | rw [if_pos (by omega)])
        · rw [decide_eq_false cb, if_neg (by decide)]
          exact bad2 (by decide) cb (h0 _)
      · rw [decide_eq_false cv, if_neg (by decide)]
        by_cases cb : 0 ≤ b.toInt ∧ b.toInt < n
        · refine go1 hnB (by decide) cb (s_M_set_40 ?_)
          rw [if_pos rfl, if_pos rfl]
          refine s_M_set_111 (M_in ?_)
          simp only [Int32.toInt_toInt64, t_0, t_1, t_2, t_3, t_4, t_5, t_6, t_7, t_9, t_10, t_20, t_30, t_32, t_40, t_59, t_60, t_63, t_99, t_100, t_120, t_160, t_255, t_960, t_1439, t_1440, t_n1, t_n2, t_n3, t_n4, t_n11, t_n12, t_n13, t_n14, t_n120, t_n1000, t_n100000, t_n100, t_200]
          rw [decide_eq_false cv, if_neg (by decide)]
          exact h0 _
        · exact bad2 (by decide) cb (h0 _)
    · rw [canBe_1]
      by_cases cv : 0 ≤ c.toInt ∧ c.toInt ≤ 5
      · rw [decide_eq_true cv, if_pos rfl, if_neg (by decide)]
        refine P_isClockN hnA hn6 ?_
        by_cases cb : 0 ≤ b.toInt ∧ b.toInt < n
        · rw [decide_eq_true cb, if_pos rfl]
          obtain ⟨i, hi, rfl⟩ := nI_of3 (x := b) (n := n) cb.1 cb.2
          refine s_P_set_36 ?_
          rw [if_neg (by decide), ix_nI (by omega)]
          refine ⟨ib_nI (by omega) (by decide), ?_⟩
          refine C_put (isClock_of (by omega)) ?_
          rw [if_neg (by decide), if_pos rfl, if_neg (by decide), if_pos rfl]
          generalize hu : sI (sI v 1 12 1) (77 + i) 0 c = u
          have ru : ∀ x y, u.1 x y = if x = 77 + i ∧ y = 0 then c else if x = 1 ∧ y = 12 then 1 else v.1 x y := fun x y => by rw [← hu]; rfl
          have un : u.1 154 11 = nI n := by
            rw [ru]
            repeat (first | rw [if_neg (by omega)] | rw [if_pos (by omega)])
            exact hnB
          have uv : u.1 159 i = v.1 159 i := by
            rw [ru]
            repeat (first | rw [if_neg (by omega)] | rw [if_pos (by omega)])
          refine go1 un (by decide) cb (s_M_set_40 ?_)
          rw [if_neg (by decide), if_pos rfl, if_neg (by decide), if_neg (by decide)]
          refine s_M_set_111 (M_in ?_)
          simp only [Int32.toInt_toInt64, t_0, t_1, t_2, t_3, t_4, t_5, t_6, t_7, t_9, t_10, t_20, t_30, t_32, t_40, t_59, t_60, t_63, t_99, t_100, t_120, t_160, t_255, t_960, t_1439, t_1440, t_n1, t_n2, t_n3, t_n4, t_n11, t_n12, t_n13, t_n14, t_n120, t_n1000, t_n100000, t_n100, t_200]
          rw [decide_eq_true cv, if_pos rfl, if_pos (by decide)]
          refine told un (by decide) cb ?_
          rw [if_neg (by decide), if_pos rfl, ix_nI (by omega)]
          refine s_M_set_165 ?_
          rw [if_neg (by decide), if_pos rfl]
          refine ⟨ib_nI (by omega) (by decide), ?_⟩
          rw [ix_nI (by omega), uv]
          obtain ⟨k1, k2, k3⟩ := set_ok_1 h hi cv
          rw [hu] at k1 k2 k3
          have e : v.1 159 i = (sI v 1 12 1).1 (77 + i) 0 := by
            rw [sI_at]
            repeat (first | rw [if_neg (by omega)] | rw [if_pos (by omega)])
            exact (hcl i hi).1.1
          rw [e]
          refine hQ _ _ n m h k1 k2 k3 ?_ ?_
          · rw [sI_at, ru]
            repeat (first | rw [if_neg (by omega)] | rw [if_pos (by omega)])
          · show (sI u 159 i c).1 74 4 = v.1 74 4
            rw [sI_at, ru]
            repeat (first | rw [if_neg (by omega)] | rw [if_pos (by omega)])
        · rw [decide_eq_false cb, if_neg (by decide)]
          exact bad2 (by decide) cb (h0 _)
      · rw [decide_eq_false cv, if_neg (by decide)]
        by_cases cb : 0 ≤ b.toInt ∧ b.toInt < n
        · refine go1 hnB (by decide) cb (s_M_set_40 ?_)
          rw [if_neg (by decide), if_pos rfl, if_neg (by decide), if_neg (by decide)]
          refine s_M_set_111 (M_in ?_)
          simp only [Int32.toInt_toInt64, t_0, t_1, t_2, t_3, t_4, t_5, t_6, t_7, t_9, t_10, t_20, t_30, t_32, t_40, t_59, t_60, t_63, t_99, t_100, t_120, t_160, t_255, t_960, t_1439, t_1440, t_n1, t_n2, t_n3, t_n4, t_n11, t_n12, t_n13, t_n14, t_n120, t_n1000, t_n100000, t_n100, t_200]
          rw [decide_eq_false cv, if_neg (by decide)]
          exact h0 _
        · exact bad2 (by decide) cb (h0 _)
    · rw [canBe_2]
      by_cases cv : 0 ≤ c.toInt ∧ c.toInt ≤ 1
      · rw [decide_eq_true cv, if_pos rfl, if_neg (by decide)]
        refine P_isClockN hnA hn6 ?_
        by_cases cb : 0 ≤ b.toInt ∧ b.toInt < n
        · rw [decide_eq_true cb, if_pos rfl]
          obtain ⟨i, hi, rfl⟩ := nI_of3 (x := b) (n := n) cb.1 cb.2
          refine s_P_set_36 ?_
          rw [if_neg (by decide), ix_nI (by omega)]
          refine ⟨ib_nI (by omega) (by decide), ?_⟩
          refine C_put (isClock_of (by omega)) ?_
          rw [if_neg (by decide), if_neg (by decide), if_pos rfl, if_neg (by decide), if_neg (by decide), if_pos rfl]
          generalize hu : sI (sI v 1 12 1) (77 + i) 2 c = u
          have ru : ∀ x y, u.1 x y = if x = 77 + i ∧ y = 2 then c else if x = 1 ∧ y = 12 then 1 else v.1 x y := fun x y => by rw [← hu]; rfl
          have un : u.1 154 11 = nI n := by
            rw [ru]
            repeat (first | rw [if_neg (by omega)] | rw [if_pos (by omega)])
            exact hnB
          have uv : u.1 160 i = v.1 160 i := by
            rw [ru]
            repeat (first | rw [if_neg (by omega)] | rw [if_pos (by omega)])
          refine go1 un (by decide) cb (s_M_set_40 ?_)
          rw [if_neg (by decide), if_neg (by decide), if_pos rfl, if_neg (by decide), if_neg (by decide)]
          refine M_in ?_
          simp only [Int32.toInt_toInt64, t_0, t_1, t_2, t_3, t_4, t_5, t_6, t_7, t_9, t_10, t_20, t_30, t_32, t_40, t_59, t_60, t_63, t_99, t_100, t_120, t_160, t_255, t_960, t_1439, t_1440, t_n1, t_n2, t_n3, t_n4, t_n11, t_n12, t_n13, t_n14, t_n120, t_n1000, t_n100000, t_n100, t_200]
          rw [decide_eq_true cv, if_pos rfl, if_pos (by decide)]
          refine told un (by decide) cb ?_
          rw [if_neg (by decide), if_neg (by decide), if_pos rfl, ix_nI (by omega)]
          refine s_M_set_165 ?_
          rw [if_neg (by decide), if_neg (by decide), if_pos rfl]
          refine ⟨ib_nI (by omega) (by decide), ?_⟩
          rw [ix_nI (by omega), uv]
          obtain ⟨k1, k2, k3⟩ := set_ok_2 h hi cv
          rw [hu] at k1 k2 k3
          have e : v.1 160 i = (sI v 1 12 1).1 (77 + i) 2 := by
            rw [sI_at]
            repeat (first | rw [if_neg (by omega)] | rw [if_pos (by omega)])
            exact (hcl i hi).1.2.2.1
          rw [e]
          refine hQ _ _ n m h k1 k2 k3 ?_ ?_
          · rw [sI_at, ru]
            repeat (first | rw [if_neg (by omega)] | rw [if_pos (by omega)])
          · show (sI u 160 i c).1 74 4 = v.1 74 4
            rw [sI_at, ru]
            repeat (first | rw [if_neg (by omega)] | rw [if_pos (by omega)])
        · rw [decide_eq_false cb, if_neg (by decide)]
          exact bad2 (by decide) cb (h0 _)
      · rw [decide_eq_false cv, if_neg (by decide)]
        by_cases cb : 0 ≤ b.toInt ∧ b.toInt < n
        · refine go1 hnB (by decide) cb (s_M_set_40 ?_)
          rw [if_neg (by decide), if_neg (by decide), if_pos rfl, if_neg (by decide), if_neg (by decide)]
          refine M_in ?_
          simp only [Int32.toInt_toInt64, t_0, t_1, t_2, t_3, t_4, t_5, t_6, t_7, t_9, t_10, t_20, t_30, t_32, t_40, t_59, t_60, t_63, t_99, t_100, t_120, t_160, t_255, t_960, t_1439, t_1440, t_n1, t_n2, t_n3, t_n4, t_n11, t_n12, t_n13, t_n14, t_n120, t_n1000, t_n100000, t_n100, t_200]
          rw [decide_eq_false cv, if_neg (by decide)]
          exact h0 _
        · exact bad2 (by decide) cb (h0 _)
    · rw [canBe_3]
      by_cases cv : -1 ≤ c.toInt ∧ c.toInt ≤ 1439
      · rw [decide_eq_true cv, if_pos rfl, if_neg (by decide)]
        refine P_isClockN hnA hn6 ?_
        by_cases cb : 0 ≤ b.toInt ∧ b.toInt < n
        · rw [decide_eq_true cb, if_pos rfl]
          obtain ⟨i, hi, rfl⟩ := nI_of3 (x := b) (n := n) cb.1 cb.2
          refine s_P_set_36 ?_
          rw [if_neg (by decide), ix_nI (by omega)]
          refine ⟨ib_nI (by omega) (by decide), ?_⟩
          refine C_put (isClock_of (by omega)) ?_
          rw [if_neg (by decide), if_neg (by decide), if_neg (by decide), if_neg (by decide), if_neg (by decide), if_neg (by decide)]
          generalize hu : sI (sI v 1 12 1) (77 + i) 3 c = u
          have ru : ∀ x y, u.1 x y = if x = 77 + i ∧ y = 3 then c else if x = 1 ∧ y = 12 then 1 else v.1 x y := fun x y => by rw [← hu]; rfl
          have un : u.1 154 11 = nI n := by
            rw [ru]
            repeat (first | rw [if_neg (by omega)] | rw [if_pos (by omega)])
            exact hnB
          have uv : u.1 161 i = v.1 161 i := by
            rw [ru]
            repeat (first | rw [if_neg (by omega)] | rw [if_pos (by omega)])
          refine go1 un (by decide) cb (s_M_set_40 ?_)
          rw [if_neg (by decide), if_neg (by decide), if_neg (by decide), if_pos rfl, if_neg (by decide), if_pos rfl]
          refine M_in ?_
          simp only [Int32.toInt_toInt64, t_0, t_1, t_2, t_3, t_4, t_5, t_6, t_7, t_9, t_10, t_20, t_30, t_32, t_40, t_59, t_60, t_63, t_99, t_100, t_120, t_160, t_255, t_960, t_1439, t_1440, t_n1, t_n2, t_n3, t_n4, t_n11, t_n12, t_n13, t_n14, t_n120, t_n1000, t_n100000, t_n100, t_200]
          rw [decide_eq_true cv, if_pos rfl, if_pos (by decide)]
          refine told un (by decide) cb ?_
          rw [if_neg (by decide), if_neg (by decide), if_neg (by decide), ix_nI (by omega)]
          refine s_M_set_165 ?_
          rw [if_neg (by decide), if_neg (by decide), if_neg (by decide), if_pos rfl]
          refine ⟨ib_nI (by omega) (by decide), ?_⟩
          rw [ix_nI (by omega), uv]
          obtain ⟨k1, k2, k3⟩ := set_ok_3 h hi cv
          rw [hu] at k1 k2 k3
          have e : v.1 161 i = (sI v 1 12 1).1 (77 + i) 3 := by
            rw [sI_at]
            repeat (first | rw [if_neg (by omega)] | rw [if_pos (by omega)])
            exact (hcl i hi).1.2.2.2
          rw [e]
          refine hQ _ _ n m h k1 k2 k3 ?_ ?_
          · rw [sI_at, ru]
            repeat (first | rw [if_neg (by omega)] | rw [if_pos (by omega)])
          · show (sI u 161 i c).1 74 4 = v.1 74 4
            rw [sI_at, ru]
            repeat (first | rw [if_neg (by omega)] | rw [if_pos (by omega)])
        · rw [decide_eq_false cb, if_neg (by decide)]
          exact bad2 (by decide) cb (h0 _)
      · rw [decide_eq_false cv, if_neg (by decide)]
        by_cases cb : 0 ≤ b.toInt ∧ b.toInt < n
        · refine go1 hnB (by decide) cb (s_M_set_40 ?_)
          rw [if_neg (by decide), if_neg (by decide), if_neg (by decide), if_pos rfl, if_neg (by decide), if_pos rfl]
          refine M_in ?_
          simp only [Int32.toInt_toInt64, t_0, t_1, t_2, t_3, t_4, t_5, t_6, t_7, t_9, t_10, t_20, t_30, t_32, t_40, t_59, t_60, t_63, t_99, t_100, t_120, t_160, t_255, t_960, t_1439, t_1440, t_n1, t_n2, t_n3, t_n4, t_n11, t_n12, t_n13, t_n14, t_n120, t_n1000, t_n100000, t_n100, t_200]
          rw [decide_eq_false cv, if_neg (by decide)]
          exact h0 _
        · exact bad2 (by decide) cb (h0 _)
    · rw [canBe_4]
      by_cases cv : 0 ≤ c.toInt ∧ c.toInt ≤ 9
      · rw [decide_eq_true cv, if_pos rfl, if_pos (by decide)]
        refine P_isDoerN hmA hm5 ?_
        by_cases cb : 0 ≤ b.toInt ∧ b.toInt < m
        · rw [decide_eq_true cb, if_pos rfl]
          obtain ⟨i, hi, rfl⟩ := nI_of3 (x := b) (n := m) cb.1 cb.2
          refine s_P_set_36 ?_
          rw [if_pos (by decide), ix_nI (by omega)]
          refine ⟨ib_nI (by omega) (by decide), ?_⟩
          refine D_put (isDoer_of (by omega)) (by decide) ?_
          rw [if_pos rfl, if_pos rfl]
          generalize hu : sI (sI v 1 12 1) (83 + i) 1 c = u
          have ru : ∀ x y, u.1 x y = if x = 83 + i ∧ y = 1 then c else if x = 1 ∧ y = 12 then 1 else v.1 x y := fun x y => by rw [← hu]; rfl
          have un : u.1 154 15 = nI m := by
            rw [ru]
            repeat (first | rw [if_neg (by omega)] | rw [if_pos (by omega)])
            exact hmB
          have uv : u.1 163 i = v.1 163 i := by
            rw [ru]
            repeat (first | rw [if_neg (by omega)] | rw [if_pos (by omega)])
          refine go2 un (by decide) cb (s_M_set_40 ?_)
          rw [if_neg (by decide), if_neg (by decide), if_neg (by decide), if_neg (by decide), if_pos rfl, if_neg (by decide), if_neg (by decide)]
          refine M_in ?_
          simp only [Int32.toInt_toInt64, t_0, t_1, t_2, t_3, t_4, t_5, t_6, t_7, t_9, t_10, t_20, t_30, t_32, t_40, t_59, t_60, t_63, t_99, t_100, t_120, t_160, t_255, t_960, t_1439, t_1440, t_n1, t_n2, t_n3, t_n4, t_n11, t_n12, t_n13, t_n14, t_n120, t_n1000, t_n100000, t_n100, t_200]
          rw [decide_eq_true cv, if_pos rfl, if_neg (by decide)]
          rw [if_pos trivial]
          refine ⟨ib_nI (by omega) (by decide), ?_⟩
          rw [ix_nI (by omega)]
          refine s_M_set_165 ?_
          rw [if_neg (by decide), if_neg (by decide), if_neg (by decide), if_neg (by decide), if_pos rfl]
          refine ⟨ib_nI (by omega) (by decide), ?_⟩
          rw [ix_nI (by omega), uv]
          obtain ⟨k1, k2, k3⟩ := set_ok_4 h hi cv
          rw [hu] at k1 k2 k3
          have e : v.1 163 i = (sI v 1 12 1).1 (83 + i) 1 := by
            rw [sI_at]
            repeat (first | rw [if_neg (by omega)] | rw [if_pos (by omega)])
            exact (hdo i hi).1.2.1
          rw [e]
          refine hQ _ _ n m h k1 k2 k3 ?_ ?_
          · rw [sI_at, ru]
            repeat (first | rw [if_neg (by omega)] | rw [if_pos (by omega)])
          · show (sI u 163 i c).1 74 4 = v.1 74 4
            rw [sI_at, ru]
            repeat (first | rw [if_neg (by omega)] | rw [if_pos (by omega)])
        · rw [decide_eq_false cb, if_neg (by decide)]
          exact bad3 (by decide) cb (h0 _)
      · rw [decide_eq_false cv, if_neg (by decide)]
        by_cases cb : 0 ≤ b.toInt ∧ b.toInt < m
        · refine go2 hmB (by decide) cb (s_M_set_40 ?_)
          rw [if_neg (by decide), if_neg (by decide), if_neg (by decide), if_neg (by decide), if_pos rfl, if_neg (by decide), if_neg (by decide)]
          refine M_in ?_
          simp only [Int32.toInt_toInt64, t_0, t_1, t_2, t_3, t_4, t_5, t_6, t_7, t_9, t_10, t_20, t_30, t_32, t_40, t_59, t_60, t_63, t_99, t_100, t_120, t_160, t_255, t_960, t_1439, t_1440, t_n1, t_n2, t_n3, t_n4, t_n11, t_n12, t_n13, t_n14, t_n120, t_n1000, t_n100000, t_n100, t_200]
          rw [decide_eq_false cv, if_neg (by decide)]
          exact h0 _
        · exact bad3 (by decide) cb (h0 _)
    · rw [canBe_5]
      by_cases cv : 0 ≤ c.toInt ∧ c.toInt ≤ 63
      · rw [decide_eq_true cv, if_pos rfl, if_pos (by decide)]
        refine P_isDoerN hmA hm5 ?_
        by_cases cb : 0 ≤ b.toInt ∧ b.toInt < m
        · rw [decide_eq_true cb, if_pos rfl]
          obtain ⟨i, hi, rfl⟩ := nI_of3 (x := b) (n := m) cb.1 cb.2
          refine s_P_set_36 ?_
          rw [if_pos (by decide), ix_nI (by omega)]
          refine ⟨ib_nI (by omega) (by decide), ?_⟩
          refine D_put (isDoer_of (by omega)) (by decide) ?_
          rw [if_neg (by decide), if_neg (by decide)]
          generalize hu : sI (sI v 1 12 1) (83 + i) 2 c = u
          have ru : ∀ x y, u.1 x y = if x = 83 + i ∧ y = 2 then c else if x = 1 ∧ y = 12 then 1 else v.1 x y := fun x y => by rw [← hu]; rfl
          have un : u.1 154 15 = nI m := by
            rw [ru]
            repeat (first | rw [if_neg (by omega)] | rw [if_pos (by omega)])
            exact hmB
          have uv : u.1 164 i = v.1 164 i := by
            rw [ru]
            repeat (first | rw [if_neg (by omega)] | rw [if_pos (by omega)])
          refine go2 un (by decide) cb (s_M_set_40 ?_)
          rw [if_neg (by decide), if_neg (by decide), if_neg (by decide), if_neg (by decide), if_neg (by decide), if_neg (by decide), if_neg (by decide)]
          refine M_in ?_
          simp only [Int32.toInt_toInt64, t_0, t_1, t_2, t_3, t_4, t_5, t_6, t_7, t_9, t_10, t_20, t_30, t_32, t_40, t_59, t_60, t_63, t_99, t_100, t_120, t_160, t_255, t_960, t_1439, t_1440, t_n1, t_n2, t_n3, t_n4, t_n11, t_n12, t_n13, t_n14, t_n120, t_n1000, t_n100000, t_n100, t_200]
          rw [decide_eq_true cv, if_pos rfl, if_neg (by decide)]
          rw [if_neg (by decide)]
          refine ⟨ib_nI (by omega) (by decide), ?_⟩
          rw [ix_nI (by omega)]
          refine s_M_set_165 ?_
          rw [if_neg (by decide), if_neg (by decide), if_neg (by decide), if_neg (by decide), if_neg (by decide)]
          refine ⟨ib_nI (by omega) (by decide), ?_⟩
          rw [ix_nI (by omega), uv]
          obtain ⟨k1, k2, k3⟩ := set_ok_5 h hi cv
          rw [hu] at k1 k2 k3
          have e : v.1 164 i = (sI v 1 12 1).1 (83 + i) 2 := by
            rw [sI_at]
            repeat (first | rw [if_neg (by omega)] | rw [if_pos (by omega)])
            exact (hdo i hi).1.2.2
          rw [e]
          refine hQ _ _ n m h k1 k2 k3 ?_ ?_
          · rw [sI_at, ru]
            repeat (first | rw [if_neg (by omega)] | rw [if_pos (by omega)])
          · show (sI u 164 i c).1 74 4 = v.1 74 4
            rw [sI_at, ru]
            repeat (first | rw [if_neg (by omega)] | rw [if_pos (by omega)])
        · rw [decide_eq_false cb, if_neg (by decide)]
          exact bad3 (by decide) cb (h0 _)
      · rw [decide_eq_false cv, if_neg (by decide)]
        by_cases cb : 0 ≤ b.toInt ∧ b.toInt < m
        · refine go2 hmB (by decide) cb (s_M_set_40 ?_)
          rw [if_neg (by decide), if_neg (by decide), if_neg (by decide), if_neg (by decide), if_neg (by decide), if_neg (by decide), if_neg (by decide)]
          refine M_in ?_
          simp only [Int32.toInt_toInt64, t_0, t_1, t_2, t_3, t_4, t_5, t_6, t_7, t_9, t_10, t_20, t_30, t_32, t_40, t_59, t_60, t_63, t_99, t_100, t_120, t_160, t_255, t_960, t_1439, t_1440, t_n1, t_n2, t_n3, t_n4, t_n11, t_n12, t_n13, t_n14, t_n120, t_n1000, t_n100000, t_n100, t_200]
          rw [decide_eq_false cv, if_neg (by decide)]
          exact h0 _
        · exact bad3 (by decide) cb (h0 _)
  · rw [canBe_no ca, if_neg (by decide)]
    exact bad1 ca (h0 _)
