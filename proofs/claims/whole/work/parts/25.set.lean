-- doer, set, told
theorem P_isClockN {x : Int32} {n : Nat} {v : Vv} {Q : Bool → Vv → Prop} (hn : v.1 74 2 = nI n) (hn6 : n ≤ 6) (h : Q (decide (0 ≤ x.toInt ∧ x.toInt < n)) v) : m_P_isClock x v Q := by
  refine P_isClock ?_
  rw [hn, nI_tI (by omega)]
  exact h
theorem P_isDoerN {x : Int32} {n : Nat} {v : Vv} {Q : Bool → Vv → Prop} (hn : v.1 74 3 = nI n) (hn6 : n ≤ 5) (h : Q (decide (0 ≤ x.toInt ∧ x.toInt < n)) v) : m_P_isDoer x v Q := by
  refine P_isDoer ?_
  rw [hn, nI_tI (by omega)]
  exact h
theorem M_isClockN {x : Int32} {n : Nat} {v : Vv} {Q : Bool → Vv → Prop} (hn : v.1 154 11 = nI n) (hn6 : n ≤ 6) (h : Q (decide (0 ≤ x.toInt ∧ x.toInt < n)) v) : m_M_isClock x v Q := by
  refine s_M_isClock (M_in ?_)
  rw [hn, Int32.toInt_toInt64, Int32.toInt_toInt64, sub1_toInt (by rw [nI_tI (by omega)]; omega), nI_tI (by omega), l_0, show decide (0 ≤ x.toInt ∧ x.toInt ≤ (n : Int) - 1) = decide (0 ≤ x.toInt ∧ x.toInt < n) from decide_eq_decide.mpr (by omega)]
  exact h
theorem M_isDoerN {x : Int32} {n : Nat} {v : Vv} {Q : Bool → Vv → Prop} (hn : v.1 154 15 = nI n) (hn6 : n ≤ 5) (h : Q (decide (0 ≤ x.toInt ∧ x.toInt < n)) v) : m_M_isDoer x v Q := by
  refine s_M_isDoer (M_in ?_)
  rw [hn, Int32.toInt_toInt64, Int32.toInt_toInt64, sub1_toInt (by rw [nI_tI (by omega)]; omega), nI_tI (by omega), l_0, show decide (0 ≤ x.toInt ∧ x.toInt ≤ (n : Int) - 1) = decide (0 ≤ x.toInt ∧ x.toInt < n) from decide_eq_decide.mpr (by omega)]
  exact h
theorem isClock_of {c : Nat} (h : c < 6) : isClock (77 + c) := by
  have := el_74c_k (x := nI c) (ib_nI h (by decide))
  rwa [ix_nI (by omega)] at this
theorem isDoer_of {c : Nat} (h : c < 5) : isDoer (83 + c) := by
  have := el_74d_k (x := nI c) (ib_nI h (by decide))
  rwa [ix_nI (by omega)] at this
def dAdd (v : Vv) (k : Nat) (a b c : Int32) : Vv := sI (sI (sI (sI (sI v (83 + k) 0 a) (83 + k) 1 b) (83 + k) 2 c) 1 12 1) 74 3 (nI (k + 1))
theorem P_doer {k : Nat} {a b c : Int32} {v : Vv} {Q : Int32 → Vv → Prop} (hn : v.1 74 3 = nI k) (hk : k ≤ 5)
    (h1 : ¬ ((0 ≤ a.toInt ∧ a.toInt < 6) ∧ (0 ≤ b.toInt ∧ b.toInt ≤ 9) ∧ 0 ≤ c.toInt ∧ c.toInt ≤ 63) → Q (-2) v)
    (h2 : (0 ≤ a.toInt ∧ a.toInt < 6) ∧ (0 ≤ b.toInt ∧ b.toInt ≤ 9) ∧ 0 ≤ c.toInt ∧ c.toInt ≤ 63 → k = 5 → Q (-4) v)
    (h3 : (0 ≤ a.toInt ∧ a.toInt < 6) ∧ (0 ≤ b.toInt ∧ b.toInt ≤ 9) ∧ 0 ≤ c.toInt ∧ c.toInt ≤ 63 → k < 5 → Q (nI k) (dAdd v k a b c)) : m_P_doer a b c v Q := by
  refine s_P_doer (P_isKind ?_)
  have hkt := nI_tI (n := k) (by omega)
  by_cases c1 : 0 ≤ a.toInt ∧ a.toInt < 6
  · rw [decide_eq_true c1, if_pos rfl]
    refine P_canBe ?_
    rw [canBe_4]
    by_cases c2 : 0 ≤ b.toInt ∧ b.toInt ≤ 9
    · rw [decide_eq_true c2, if_pos rfl]
      refine P_canBe ?_
      rw [canBe_5]
      by_cases c3 : 0 ≤ c.toInt ∧ c.toInt ≤ 63
      · rw [decide_eq_true c3, if_pos rfl, hn]
        by_cases c5 : k < 5
        · rw [if_pos (by simp only [Int32.lt_iff_toInt_lt, i_eq, t_0, t_1, t_2, t_3, t_4, t_5, t_6, t_7, t_9, t_10, t_20, t_30, t_32, t_40, t_59, t_60, t_63, t_99, t_100, t_120, t_160, t_255, t_960, t_1439, t_1440, t_n1, t_n2, t_n3, t_n4, t_n11, t_n12, t_n13, t_n14, t_n120, t_n1000, t_n100000, t_n100, t_200]; omega), ix_nI (by omega)]
          refine ⟨ib_nI c5 (by decide), ?_⟩
          have e : (sI (sI (sI (sI v (83 + k) 0 a) (83 + k) 1 b) (83 + k) 2 c) 1 12 1).1 74 3 = nI k := by
            rw [sI_at, sI_at, sI_at, sI_at]
            repeat (first | rw [if_neg (by omega)] | rw [if_pos (by omega)])
            exact hn
          rw [e, nI_1]
          exact h3 (by omega) c5
        · rw [if_neg (by simp only [Int32.lt_iff_toInt_lt, i_eq, t_0, t_1, t_2, t_3, t_4, t_5, t_6, t_7, t_9, t_10, t_20, t_30, t_32, t_40, t_59, t_60, t_63, t_99, t_100, t_120, t_160, t_255, t_960, t_1439, t_1440, t_n1, t_n2, t_n3, t_n4, t_n11, t_n12, t_n13, t_n14, t_n120, t_n1000, t_n100000, t_n100, t_200]; omega)]
          exact h2 (by omega) (by omega)
      · rw [decide_eq_false c3, if_neg (by decide)]
        exact h1 (by omega)
    · rw [decide_eq_false c2, if_neg (by decide)]
      exact h1 (by omega)
  · rw [decide_eq_false c1, if_neg (by decide)]
    exact h1 (by omega)
def mdAdd (v : Vv) (k : Nat) (a b c : Int32) : Vv := sI (sI (sI (sI v 162 k a) 163 k b) 164 k c) 154 15 (nI (k + 1))
theorem M_doer {k : Nat} {a b c : Int32} {v : Vv} {Q : Int32 → Vv → Prop} (hn : v.1 154 15 = nI k) (hk : k ≤ 5)
    (h1 : ¬ ((0 ≤ a.toInt ∧ a.toInt < 6) ∧ (0 ≤ b.toInt ∧ b.toInt ≤ 9) ∧ 0 ≤ c.toInt ∧ c.toInt ≤ 63) → Q (-2) v)
    (h2 : (0 ≤ a.toInt ∧ a.toInt < 6) ∧ (0 ≤ b.toInt ∧ b.toInt ≤ 9) ∧ 0 ≤ c.toInt ∧ c.toInt ≤ 63 → k = 5 → Q (-4) v)
    (h3 : (0 ≤ a.toInt ∧ a.toInt < 6) ∧ (0 ≤ b.toInt ∧ b.toInt ≤ 9) ∧ 0 ≤ c.toInt ∧ c.toInt ≤ 63 → k < 5 → Q (nI k) (mdAdd v k a b c)) : m_M_doer a b c v Q := by
  refine s_M_doer (M_in ?_)
  have hkt := nI_tI (n := k) (by omega)
  rw [Int32.toInt_toInt64, l_0, l_5]
  by_cases c1 : 0 ≤ a.toInt ∧ a.toInt ≤ 5
  · rw [decide_eq_true c1, if_pos rfl]
    refine M_in ?_
    rw [Int32.toInt_toInt64, l_0, l_9]
    by_cases c2 : 0 ≤ b.toInt ∧ b.toInt ≤ 9
    · rw [decide_eq_true c2, if_pos rfl]
      refine M_in ?_
      rw [Int32.toInt_toInt64, l_0, l_63]
      by_cases c3 : 0 ≤ c.toInt ∧ c.toInt ≤ 63
      · rw [decide_eq_true c3, if_pos rfl]
        simp only [u2_at, show ∀ x : Nat, ¬ (154 = 162 ∧ 15 = x) from fun x q => absurd q.1 (by decide), show ∀ x : Nat, ¬ (154 = 163 ∧ 15 = x) from fun x q => absurd q.1 (by decide), show ∀ x : Nat, ¬ (154 = 164 ∧ 15 = x) from fun x q => absurd q.1 (by decide), if_false, hn]
        by_cases c5 : k < 5
        · rw [if_neg (by simp only [Int32.lt_iff_toInt_lt, i_eq, t_0, t_1, t_2, t_3, t_4, t_5, t_6, t_7, t_9, t_10, t_20, t_30, t_32, t_40, t_59, t_60, t_63, t_99, t_100, t_120, t_160, t_255, t_960, t_1439, t_1440, t_n1, t_n2, t_n3, t_n4, t_n11, t_n12, t_n13, t_n14, t_n120, t_n1000, t_n100000, t_n100, t_200]; omega)]
          refine ⟨ib_nI c5 (by decide), ib_nI c5 (by decide), ib_nI c5 (by decide), ?_⟩
          rw [ix_nI (by omega), nI_1]
          simp only [and_self, if_true]
          rw [show (1 : Int32) = nI 1 from rfl, nI_sub (by omega) (by omega)]
          exact h3 (by omega) c5
        · rw [if_pos (by simp only [Int32.lt_iff_toInt_lt, i_eq, t_0, t_1, t_2, t_3, t_4, t_5, t_6, t_7, t_9, t_10, t_20, t_30, t_32, t_40, t_59, t_60, t_63, t_99, t_100, t_120, t_160, t_255, t_960, t_1439, t_1440, t_n1, t_n2, t_n3, t_n4, t_n11, t_n12, t_n13, t_n14, t_n120, t_n1000, t_n100000, t_n100, t_200]; omega)]
          exact h2 (by omega) (by omega)
      · rw [decide_eq_false c3, if_neg (by decide)]
        exact h1 (by omega)
    · rw [decide_eq_false c2, if_neg (by decide)]
      exact h1 (by omega)
  · rw [decide_eq_false c1, if_neg (by decide)]
    exact h1 (by omega)
theorem doer_step {a b c : Int32} {v : Vv} (h : HO v) {Q : Int32 → Int32 → Vv → Prop} (h0 : ∀ r, Q r r v) (hQ : ∀ r w n m, RH (hs v 74) (hm v) n m → RH (hs w 74) (hm w) n (m + 1) → FX AH v w → (∀ d, d < m → w.1 162 d = v.1 162 d) → w.1 1 12 = 1 → cru (hs w 74) = cru (hs v 74) → Q r r w) : m_P_doer a b c v (fun r v1 => m_M_doer a b c v1 (fun r' v2 => Q r r' v2)) := by
  obtain ⟨n, m, h⟩ := h
  obtain ⟨⟨hn6, hm5⟩, ⟨hnA, hnB⟩, ⟨hmA, hmB⟩, hru, hcl, hdo⟩ := id h
  refine P_doer (k := m) hmA hm5 (fun z => ?_) (fun z e => ?_) (fun z e => ?_)
  · exact M_doer (k := m) hmB hm5 (fun _ => h0 _) (fun q => absurd q z) (fun q => absurd q z)
  · exact M_doer (k := m) hmB hm5 (fun q => absurd z q) (fun _ _ => h0 _) (fun _ q => absurd q (by omega))
  · have hB : (dAdd v m a b c).1 154 15 = nI m := by
      unfold dAdd
      rw [sI_at, sI_at, sI_at, sI_at, sI_at]
      repeat (first | rw [if_neg (by omega)] | rw [if_pos (by omega)])
      exact hmB
    refine M_doer (k := m) hB hm5 (fun q => absurd z q) (fun _ q => absurd q (by omega)) (fun _ _ => ?_)
    generalize hw : mdAdd (dAdd v m a b c) m a b c = w
    have rd : ∀ x y, w.1 x y = if x = 154 ∧ y = 15 then nI (m + 1) else if x = 164 ∧ y = m then c else if x = 163 ∧ y = m then b else if x = 162 ∧ y = m then a else if x = 74 ∧ y = 3 then nI (m + 1) else if x = 1 ∧ y = 12 then 1 else if x = 83 + m ∧ y = 2 then c else if x = 83 + m ∧ y = 1 then b else if x = 83 + m ∧ y = 0 then a else v.1 x y := by
      intro x y
      rw [← hw]
      rfl
    have hF : FX AH v w := by
      refine ⟨fun i k hik => ?_, by rw [← hw]; rfl⟩
      unfold AH at hik
      rw [rd]
      repeat (first | rw [if_neg (by omega)] | rw [if_pos (by omega)])
    have hRH : RH (hs w 74) (hm w) n (m + 1) := by
      refine ⟨⟨by omega, by omega⟩, ⟨?_, ?_⟩, ⟨?_, ?_⟩, ?_, fun x hx => ?_, fun x hx => ?_⟩
      · show w.1 74 2 = _
        rw [rd]
        repeat (first | rw [if_neg (by omega)] | rw [if_pos (by omega)])
        all_goals first | rfl | exact hnA
      · show w.1 154 11 = _
        rw [rd]
        repeat (first | rw [if_neg (by omega)] | rw [if_pos (by omega)])
        all_goals first | rfl | exact hnB
      · show w.1 74 3 = _
        rw [rd]
        repeat (first | rw [if_neg (by omega)] | rw [if_pos (by omega)])
        all_goals first | rfl | exact hmA
      · show w.1 154 15 = _
        rw [rd]
        repeat (first | rw [if_neg (by omega)] | rw [if_pos (by omega)])
        all_goals first | rfl | exact hmB
      · show w.1 154 4 = w.1 74 4 ∧ 0 ≤ (w.1 74 4).toInt ∧ (w.1 74 4).toInt ≤ 5
        rw [rd, rd]
        repeat (first | rw [if_neg (by omega)] | rw [if_pos (by omega)])
        exact hru
      · show (w.1 159 x = w.1 (77 + x) 0 ∧ w.1 158 x = w.1 (77 + x) 1 ∧ w.1 160 x = w.1 (77 + x) 2 ∧ w.1 161 x = w.1 (77 + x) 3) ∧ (0 ≤ (w.1 (77 + x) 0).toInt ∧ (w.1 (77 + x) 0).toInt ≤ 5) ∧ (-120 ≤ (w.1 (77 + x) 1).toInt ∧ (w.1 (77 + x) 1).toInt ≤ 120) ∧ (0 ≤ (w.1 (77 + x) 2).toInt ∧ (w.1 (77 + x) 2).toInt ≤ 1) ∧ (-1 ≤ (w.1 (77 + x) 3).toInt ∧ (w.1 (77 + x) 3).toInt ≤ 1439)
        rw [rd 159, rd 158, rd 160, rd 161, rd (77 + x) 0, rd (77 + x) 1, rd (77 + x) 2, rd (77 + x) 3]
        repeat (first | rw [if_neg (by omega)] | rw [if_pos (by omega)])
        exact hcl x hx
      · show (w.1 162 x = w.1 (83 + x) 0 ∧ w.1 163 x = w.1 (83 + x) 1 ∧ w.1 164 x = w.1 (83 + x) 2) ∧ (0 ≤ (w.1 (83 + x) 0).toInt ∧ (w.1 (83 + x) 0).toInt ≤ 5) ∧ (0 ≤ (w.1 (83 + x) 1).toInt ∧ (w.1 (83 + x) 1).toInt ≤ 9) ∧ (0 ≤ (w.1 (83 + x) 2).toInt ∧ (w.1 (83 + x) 2).toInt ≤ 63)
        by_cases e2 : x = m
        · subst e2
          rw [rd 162, rd 163, rd 164, rd (83 + x) 0, rd (83 + x) 1, rd (83 + x) 2]
          repeat (first | rw [if_neg (by omega)] | rw [if_pos (by omega)])
          exact ⟨⟨rfl, rfl, rfl⟩, by omega, by omega, by omega⟩
        · rw [rd 162, rd 163, rd 164, rd (83 + x) 0, rd (83 + x) 1, rd (83 + x) 2]
          repeat (first | rw [if_neg (by omega)] | rw [if_pos (by omega)])
          exact hdo x (by omega)
    refine hQ _ _ n m h hRH hF (fun d hd => ?_) ?_ ?_
    · rw [rd]
      repeat (first | rw [if_neg (by omega)] | rw [if_pos (by omega)])
    · rw [rd]
      repeat (first | rw [if_neg (by omega)] | rw [if_pos (by omega)])
    · show w.1 74 4 = v.1 74 4
      rw [rd]
      repeat (first | rw [if_neg (by omega)] | rw [if_pos (by omega)])
theorem set_ok_0 {v : Vv} {n m i : Nat} (h : RH (hs v 74) (hm v) n m) (hi : i < n) {z : Int32} (hz : -120 ≤ z.toInt ∧ z.toInt ≤ 120) : RH (hs (sI (sI (sI v 1 12 1) (77 + i) 1 z) 158 i z) 74) (hm (sI (sI (sI v 1 12 1) (77 + i) 1 z) 158 i z)) n m ∧ FX AH v (sI (sI (sI v 1 12 1) (77 + i) 1 z) 158 i z) ∧ (∀ d, (sI (sI (sI v 1 12 1) (77 + i) 1 z) 158 i z).1 162 d = v.1 162 d) := by
  obtain ⟨⟨hn6, hm5⟩, ⟨hnA, hnB⟩, ⟨hmA, hmB⟩, hru, hcl, hdo⟩ := id h
  generalize hw : sI (sI (sI v 1 12 1) (77 + i) 1 z) 158 i z = w
  have rd : ∀ x y, w.1 x y = if x = 158 ∧ y = i then z else if x = 77 + i ∧ y = 1 then z else if x = 1 ∧ y = 12 then 1 else v.1 x y := by
    intro x y
    rw [← hw]
    rfl
  refine ⟨?_, ⟨fun i k hik => ?_, by rw [← hw]⟩, fun d => ?_⟩
  rotate_left
  · unfold AH at hik
    rw [rd]
    repeat (first | rw [if_neg (by omega)] | rw [if_pos (by omega)])
  · rw [rd]
    repeat (first | rw [if_neg (by omega)] | rw [if_pos (by omega)])
  · refine ⟨⟨by omega, by omega⟩, ⟨?_, ?_⟩, ⟨?_, ?_⟩, ?_, fun x hx => ?_, fun x hx => ?_⟩
    · show w.1 74 2 = _
      rw [rd]
      repeat (first | rw [if_neg (by omega)] | rw [if_pos (by omega)])
      all_goals first | rfl | exact hnA
    · show w.1 154 11 = _
      rw [rd]
      repeat (first | rw [if_neg (by omega)] | rw [if_pos (by omega)])
      all_goals first | rfl | exact hnB
    · show w.1 74 3 = _
      rw [rd]
      repeat (first | rw [if_neg (by omega)] | rw [if_pos (by omega)])
      all_goals first | rfl | exact hmA
    · show w.1 154 15 = _
      rw [rd]
      repeat (first | rw [if_neg (by omega)] | rw [if_pos (by omega)])
      all_goals first | rfl | exact hmB
    · show w.1 154 4 = w.1 74 4 ∧ 0 ≤ (w.1 74 4).toInt ∧ (w.1 74 4).toInt ≤ 5
      rw [rd, rd]
      repeat (first | rw [if_neg (by omega)] | rw [if_pos (by omega)])
      exact hru
    · show (w.1 159 x = w.1 (77 + x) 0 ∧ w.1 158 x = w.1 (77 + x) 1 ∧ w.1 160 x = w.1 (77 + x) 2 ∧ w.1 161 x = w.1 (77 + x) 3) ∧ (0 ≤ (w.1 (77 + x) 0).toInt ∧ (w.1 (77 + x) 0).toInt ≤ 5) ∧ (-120 ≤ (w.1 (77 + x) 1).toInt ∧ (w.1 (77 + x) 1).toInt ≤ 120) ∧ (0 ≤ (w.1 (77 + x) 2).toInt ∧ (w.1 (77 + x) 2).toInt ≤ 1) ∧ (-1 ≤ (w.1 (77 + x) 3).toInt ∧ (w.1 (77 + x) 3).toInt ≤ 1439)
      by_cases e2 : x = i
      · subst e2
        have hh := hcl x hx
        unfold okC at hh
        rw [rd 159, rd 158, rd 160, rd 161, rd (77 + x) 0, rd (77 + x) 1, rd (77 + x) 2, rd (77 + x) 3]
        repeat (first | rw [if_neg (by omega)] | rw [if_pos (by omega)])
        exact ⟨⟨hh.1.1, rfl, hh.1.2.2.1, hh.1.2.2.2⟩, hh.2.1, hz, hh.2.2.2.1, hh.2.2.2.2⟩
      · rw [rd 159, rd 158, rd 160, rd 161, rd (77 + x) 0, rd (77 + x) 1, rd (77 + x) 2, rd (77 + x) 3]
        repeat (first | rw [if_neg (by omega)] | rw [if_pos (by omega)])
        exact hcl x hx
    · show (w.1 162 x = w.1 (83 + x) 0 ∧ w.1 163 x = w.1 (83 + x) 1 ∧ w.1 164 x = w.1 (83 + x) 2) ∧ (0 ≤ (w.1 (83 + x) 0).toInt ∧ (w.1 (83 + x) 0).toInt ≤ 5) ∧ (0 ≤ (w.1 (83 + x) 1).toInt ∧ (w.1 (83 + x) 1).toInt ≤ 9) ∧ (0 ≤ (w.1 (83 + x) 2).toInt ∧ (w.1 (83 + x) 2).toInt ≤ 63)
      rw [rd 162, rd 163, rd 164, rd (83 + x) 0, rd (83 + x) 1, rd (83 + x) 2]
      repeat (first | rw [if_neg (by omega)] | rw [if_pos (by omega)])
      exact hdo x hx
theorem set_ok_1 {v : Vv} {n m i : Nat} (h : RH (hs v 74) (hm v) n m) (hi : i < n) {z : Int32} (hz : 0 ≤ z.toInt ∧ z.toInt ≤ 5) : RH (hs (sI (sI (sI v 1 12 1) (77 + i) 0 z) 159 i z) 74) (hm (sI (sI (sI v 1 12 1) (77 + i) 0 z) 159 i z)) n m ∧ FX AH v (sI (sI (sI v 1 12 1) (77 + i) 0 z) 159 i z) ∧ (∀ d, (sI (sI (sI v 1 12 1) (77 + i) 0 z) 159 i z).1 162 d = v.1 162 d) := by
  obtain ⟨⟨hn6, hm5⟩, ⟨hnA, hnB⟩, ⟨hmA, hmB⟩, hru, hcl, hdo⟩ := id h
  generalize hw : sI (sI (sI v 1 12 1) (77 + i) 0 z) 159 i z = w
  have rd : ∀ x y, w.1 x y = if x = 159 ∧ y = i then z else if x = 77 + i ∧ y = 0 then z else if x = 1 ∧ y = 12 then 1 else v.1 x y := by
    intro x y
    rw [← hw]
    rfl
  refine ⟨?_, ⟨fun i k hik => ?_, by rw [← hw]⟩, fun d => ?_⟩
  rotate_left
  · unfold AH at hik
    rw [rd]
    repeat (first | rw [if_neg (by omega)] | rw [if_pos (by omega)])
  · rw [rd]
    repeat (first | rw [if_neg (by omega)] | rw [if_pos (by omega)])
  · refine ⟨⟨by omega, by omega⟩, ⟨?_, ?_⟩, ⟨?_, ?_⟩, ?_, fun x hx => ?_, fun x hx => ?_⟩
    · show w.1 74 2 = _
      rw [rd]
      repeat (first | rw [if_neg (by omega)] | rw [if_pos (by omega)])
      all_goals first | rfl | exact hnA
    · show w.1 154 11 = _
      rw [rd]
      repeat (first | rw [if_neg (by omega)] | rw [if_pos (by omega)])
      all_goals first | rfl | exact hnB
    · show w.1 74 3 = _
      rw [rd]
      repeat (first | rw [if_neg (by omega)] | rw [if_pos (by omega)])
      all_goals first | rfl | exact hmA
    · show w.1 154 15 = _
      rw [rd]
      repeat (first | rw [if_neg (by omega)] | rw [if_pos (by omega)])
      all_goals first | rfl | exact hmB
    · show w.1 154 4 = w.1 74 4 ∧ 0 ≤ (w.1 74 4).toInt ∧ (w.1 74 4).toInt ≤ 5
      rw [rd, rd]
      repeat (first | rw [if_neg (by omega)] | rw [if_pos (by omega)])
      exact hru
    · show (w.1 159 x = w.1 (77 + x) 0 ∧ w.1 158 x = w.1 (77 + x) 1 ∧ w.1 160 x = w.1 (77 + x) 2 ∧ w.1 161 x = w.1 (77 + x) 3) ∧ (0 ≤ (w.1 (77 + x) 0).toInt ∧ (w.1 (77 + x) 0).toInt ≤ 5) ∧ (-120 ≤ (w.1 (77 + x) 1).toInt ∧ (w.1 (77 + x) 1).toInt ≤ 120) ∧ (0 ≤ (w.1 (77 + x) 2).toInt ∧ (w.1 (77 + x) 2).toInt ≤ 1) ∧ (-1 ≤ (w.1 (77 + x) 3).toInt ∧ (w.1 (77 + x) 3).toInt ≤ 1439)
      by_cases e2 : x = i
      · subst e2
        have hh := hcl x hx
        unfold okC at hh
        rw [rd 159, rd 158, rd 160, rd 161, rd (77 + x) 0, rd (77 + x) 1, rd (77 + x) 2, rd (77 + x) 3]
        repeat (first | rw [if_neg (by omega)] | rw [if_pos (by omega)])
        exact ⟨⟨rfl, hh.1.2.1, hh.1.2.2.1, hh.1.2.2.2⟩, hz, hh.2.2.1, hh.2.2.2.1, hh.2.2.2.2⟩
      · rw [rd 159, rd 158, rd 160, rd 161, rd (77 + x) 0, rd (77 + x) 1, rd (77 + x) 2, rd (77 + x) 3]
        repeat (first | rw [if_neg (by omega)] | rw [if_pos (by omega)])
        exact hcl x hx
    · show (w.1 162 x = w.1 (83 + x) 0 ∧ w.1 163 x = w.1 (83 + x) 1 ∧ w.1 164 x = w.1 (83 + x) 2) ∧ (0 ≤ (w.1 (83 + x) 0).toInt ∧ (w.1 (83 + x) 0).toInt ≤ 5) ∧ (0 ≤ (w.1 (83 + x) 1).toInt ∧ (w.1 (83 + x) 1).toInt ≤ 9) ∧ (0 ≤ (w.1 (83 + x) 2).toInt ∧ (w.1 (83 + x) 2).toInt ≤ 63)
      rw [rd 162, rd 163, rd 164, rd (83 + x) 0, rd (83 + x) 1, rd (83 + x) 2]
      repeat (first | rw [if_neg (by omega)] | rw [if_pos (by omega)])
      exact hdo x hx
theorem set_ok_2 {v : Vv} {n m i : Nat} (h : RH (hs v 74) (hm v) n m) (hi : i < n) {z : Int32} (hz : 0 ≤ z.toInt ∧ z.toInt ≤ 1) : RH (hs (sI (sI (sI v 1 12 1) (77 + i) 2 z) 160 i z) 74) (hm (sI (sI (sI v 1 12 1) (77 + i) 2 z) 160 i z)) n m ∧ FX AH v (sI (sI (sI v 1 12 1) (77 + i) 2 z) 160 i z) ∧ (∀ d, (sI (sI (sI v 1 12 1) (77 + i) 2 z) 160 i z).1 162 d = v.1 162 d) := by
  obtain ⟨⟨hn6, hm5⟩, ⟨hnA, hnB⟩, ⟨hmA, hmB⟩, hru, hcl, hdo⟩ := id h
  generalize hw : sI (sI (sI v 1 12 1) (77 + i) 2 z) 160 i z = w
  have rd : ∀ x y, w.1 x y = if x = 160 ∧ y = i then z else if x = 77 + i ∧ y = 2 then z else if x = 1 ∧ y = 12 then 1 else v.1 x y := by
    intro x y
    rw [← hw]
    rfl
  refine ⟨?_, ⟨fun i k hik => ?_, by rw [← hw]⟩, fun d => ?_⟩
  rotate_left
  · unfold AH at hik
    rw [rd]
    repeat (first | rw [if_neg (by omega)] | rw [if_pos (by omega)])
  · rw [rd]
    repeat (first | rw [if_neg (by omega)] | rw [if_pos (by omega)])
  · refine ⟨⟨by omega, by omega⟩, ⟨?_, ?_⟩, ⟨?_, ?_⟩, ?_, fun x hx => ?_, fun x hx => ?_⟩
    · show w.1 74 2 = _
      rw [rd]
      repeat (first | rw [if_neg (by omega)] | rw [if_pos (by omega)])
      all_goals first | rfl | exact hnA
    · show w.1 154 11 = _
      rw [rd]
      repeat (first | rw [if_neg (by omega)] | rw [if_pos (by omega)])
      all_goals first | rfl | exact hnB
    · show w.1 74 3 = _
      rw [rd]
      repeat (first | rw [if_neg (by omega)] | rw [if_pos (by omega)])
      all_goals first | rfl | exact hmA
    · show w.1 154 15 = _
      rw [rd]
      repeat (first | rw [if_neg (by omega)] | rw [if_pos (by omega)])
      all_goals first | rfl | exact hmB
    · show w.1 154 4 = w.1 74 4 ∧ 0 ≤ (w.1 74 4).toInt ∧ (w.1 74 4).toInt ≤ 5
      rw [rd, rd]
      repeat (first | rw [if_neg (by omega)] | rw [if_pos (by omega)])
      exact hru
    · show (w.1 159 x = w.1 (77 + x) 0 ∧ w.1 158 x = w.1 (77 + x) 1 ∧ w.1 160 x = w.1 (77 + x) 2 ∧ w.1 161 x = w.1 (77 + x) 3) ∧ (0 ≤ (w.1 (77 + x) 0).toInt ∧ (w.1 (77 + x) 0).toInt ≤ 5) ∧ (-120 ≤ (w.1 (77 + x) 1).toInt ∧ (w.1 (77 + x) 1).toInt ≤ 120) ∧ (0 ≤ (w.1 (77 + x) 2).toInt ∧ (w.1 (77 + x) 2).toInt ≤ 1) ∧ (-1 ≤ (w.1 (77 + x) 3).toInt ∧ (w.1 (77 + x) 3).toInt ≤ 1439)
      by_cases e2 : x = i
      · subst e2
        have hh := hcl x hx
        unfold okC at hh
        rw [rd 159, rd 158, rd 160, rd 161, rd (77 + x) 0, rd (77 + x) 1, rd (77 + x) 2, rd (77 + x) 3]
        repeat (first | rw [if_neg (by omega)] | rw [if_pos (by omega)])
        exact ⟨⟨hh.1.1, hh.1.2.1, rfl, hh.1.2.2.2⟩, hh.2.1, hh.2.2.1, hz, hh.2.2.2.2⟩
      · rw [rd 159, rd 158, rd 160, rd 161, rd (77 + x) 0, rd (77 + x) 1, rd (77 + x) 2, rd (77 + x) 3]
        repeat (first | rw [if_neg (by omega)] | rw [if_pos (by omega)])
        exact hcl x hx
    · show (w.1 162 x = w.1 (83 + x) 0 ∧ w.1 163 x = w.1 (83 + x) 1 ∧ w.1 164 x = w.1 (83 + x) 2) ∧ (0 ≤ (w.1 (83 + x) 0).toInt ∧ (w.1 (83 + x) 0).toInt ≤ 5) ∧ (0 ≤ (w.1 (83 + x) 1).toInt ∧ (w.1 (83 + x) 1).toInt ≤ 9) ∧ (0 ≤ (w.1 (83 + x) 2).toInt ∧ (w.1 (83 + x) 2).toInt ≤ 63)
      rw [rd 162, rd 163, rd 164, rd (83 + x) 0, rd (83 + x) 1, rd (83 + x) 2]
      repeat (first | rw [if_neg (by omega)] | rw [if_pos (by omega)])
      exact hdo x hx
theorem set_ok_3 {v : Vv} {n m i : Nat} (h : RH (hs v 74) (hm v) n m) (hi : i < n) {z : Int32} (hz : -1 ≤ z.toInt ∧ z.toInt ≤ 1439) : RH (hs (sI (sI (sI v 1 12 1) (77 + i) 3 z) 161 i z) 74) (hm (sI (sI (sI v 1 12 1) (77 + i) 3 z) 161 i z)) n m ∧ FX AH v (sI (sI (sI v 1 12 1) (77 + i) 3 z) 161 i z) ∧ (∀ d, (sI (sI (sI v 1 12 1) (77 + i) 3 z) 161 i z).1 162 d = v.1 162 d) := by
  obtain ⟨⟨hn6, hm5⟩, ⟨hnA, hnB⟩, ⟨hmA, hmB⟩, hru, hcl, hdo⟩ := id h
  generalize hw : sI (sI (sI v 1 12 1) (77 + i) 3 z) 161 i z = w
  have rd : ∀ x y, w.1 x y = if x = 161 ∧ y = i then z else if x = 77 + i ∧ y = 3 then z else if x = 1 ∧ y = 12 then 1 else v.1 x y := by
    intro x y
    rw [← hw]
    rfl
  refine ⟨?_, ⟨fun i k hik => ?_, by rw [← hw]⟩, fun d => ?_⟩
  rotate_left
  · unfold AH at hik
    rw [rd]
    repeat (first | rw [if_neg (by omega)] | rw [if_pos (by omega)])
  · rw [rd]
    repeat (first | rw [if_neg (by omega)] | rw [if_pos (by omega)])
  · refine ⟨⟨by omega, by omega⟩, ⟨?_, ?_⟩, ⟨?_, ?_⟩, ?_, fun x hx => ?_, fun x hx => ?_⟩
    · show w.1 74 2 = _
      rw [rd]
      repeat (first | rw [if_neg (by omega)] | rw [if_pos (by omega)])
      all_goals first | rfl | exact hnA
    · show w.1 154 11 = _
      rw [rd]
      repeat (first | rw [if_neg (by omega)] | rw [if_pos (by omega)])
      all_goals first | rfl | exact hnB
    · show w.1 74 3 = _
      rw [rd]
      repeat (first | rw [if_neg (by omega)] | rw [if_pos (by omega)])
      all_goals first | rfl | exact hmA
    · show w.1 154 15 = _
      rw [rd]
      repeat (first | rw [if_neg (by omega)] | rw [if_pos (by omega)])
      all_goals first | rfl | exact hmB
    · show w.1 154 4 = w.1 74 4 ∧ 0 ≤ (w.1 74 4).toInt ∧ (w.1 74 4).toInt ≤ 5
      rw [rd, rd]
      repeat (first | rw [if_neg (by omega)] | rw [if_pos (by omega)])
      exact hru
    · show (w.1 159 x = w.1 (77 + x) 0 ∧ w.1 158 x = w.1 (77 + x) 1 ∧ w.1 160 x = w.1 (77 + x) 2 ∧ w.1 161 x = w.1 (77 + x) 3) ∧ (0 ≤ (w.1 (77 + x) 0).toInt ∧ (w.1 (77 + x) 0).toInt ≤ 5) ∧ (-120 ≤ (w.1 (77 + x) 1).toInt ∧ (w.1 (77 + x) 1).toInt ≤ 120) ∧ (0 ≤ (w.1 (77 + x) 2).toInt ∧ (w.1 (77 + x) 2).toInt ≤ 1) ∧ (-1 ≤ (w.1 (77 + x) 3).toInt ∧ (w.1 (77 + x) 3).toInt ≤ 1439)
      by_cases e2 : x = i
      · subst e2
        have hh := hcl x hx
        unfold okC at hh
        rw [rd 159, rd 158, rd 160, rd 161, rd (77 + x) 0, rd (77 + x) 1, rd (77 + x) 2, rd (77 + x) 3]
        repeat (first | rw [if_neg (by omega)] | rw [if_pos (by omega)])
        exact ⟨⟨hh.1.1, hh.1.2.1, hh.1.2.2.1, rfl⟩, hh.2.1, hh.2.2.1, hh.2.2.2.1, hz⟩
      · rw [rd 159, rd 158, rd 160, rd 161, rd (77 + x) 0, rd (77 + x) 1, rd (77 + x) 2, rd (77 + x) 3]
        repeat (first | rw [if_neg (by omega)] | rw [if_pos (by omega)])
        exact hcl x hx
    · show (w.1 162 x = w.1 (83 + x) 0 ∧ w.1 163 x = w.1 (83 + x) 1 ∧ w.1 164 x = w.1 (83 + x) 2) ∧ (0 ≤ (w.1 (83 + x) 0).toInt ∧ (w.1 (83 + x) 0).toInt ≤ 5) ∧ (0 ≤ (w.1 (83 + x) 1).toInt ∧ (w.1 (83 + x) 1).toInt ≤ 9) ∧ (0 ≤ (w.1 (83 + x) 2).toInt ∧ (w.1 (83 + x) 2).toInt ≤ 63)
      rw [rd 162, rd 163, rd 164, rd (83 + x) 0, rd (83 + x) 1, rd (83 + x) 2]
      repeat (first | rw [if_neg (by omega)] | rw [if_pos (by omega)])
      exact hdo x hx
theorem set_ok_4 {v : Vv} {n m i : Nat} (h : RH (hs v 74) (hm v) n m) (hi : i < m) {z : Int32} (hz : 0 ≤ z.toInt ∧ z.toInt ≤ 9) : RH (hs (sI (sI (sI v 1 12 1) (83 + i) 1 z) 163 i z) 74) (hm (sI (sI (sI v 1 12 1) (83 + i) 1 z) 163 i z)) n m ∧ FX AH v (sI (sI (sI v 1 12 1) (83 + i) 1 z) 163 i z) ∧ (∀ d, (sI (sI (sI v 1 12 1) (83 + i) 1 z) 163 i z).1 162 d = v.1 162 d) := by
  obtain ⟨⟨hn6, hm5⟩, ⟨hnA, hnB⟩, ⟨hmA, hmB⟩, hru, hcl, hdo⟩ := id h
  generalize hw : sI (sI (sI v 1 12 1) (83 + i) 1 z) 163 i z = w
  have rd : ∀ x y, w.1 x y = if x = 163 ∧ y = i then z else if x = 83 + i ∧ y = 1 then z else if x = 1 ∧ y = 12 then 1 else v.1 x y := by
    intro x y
    rw [← hw]
    rfl
  refine ⟨?_, ⟨fun i k hik => ?_, by rw [← hw]⟩, fun d => ?_⟩
  rotate_left
  · unfold AH at hik
    rw [rd]
    repeat (first | rw [if_neg (by omega)] | rw [if_pos (by omega)])
  · rw [rd]
    repeat (first | rw [if_neg (by omega)] | rw [if_pos (by omega)])
  · refine ⟨⟨by omega, by omega⟩, ⟨?_, ?_⟩, ⟨?_, ?_⟩, ?_, fun x hx => ?_, fun x hx => ?_⟩
    · show w.1 74 2 = _
      rw [rd]
      repeat (first | rw [if_neg (by omega)] | rw [if_pos (by omega)])
      all_goals first | rfl | exact hnA
    · show w.1 154 11 = _
      rw [rd]
      repeat (first | rw [if_neg (by omega)] | rw [if_pos (by omega)])
      all_goals first | rfl | exact hnB
    · show w.1 74 3 = _
      rw [rd]
      repeat (first | rw [if_neg (by omega)] | rw [if_pos (by omega)])
      all_goals first | rfl | exact hmA
    · show w.1 154 15 = _
      rw [rd]
      repeat (first | rw [if_neg (by omega)] | rw [if_pos (by omega)])
      all_goals first | rfl | exact hmB
    · show w.1 154 4 = w.1 74 4 ∧ 0 ≤ (w.1 74 4).toInt ∧ (w.1 74 4).toInt ≤ 5
      rw [rd, rd]
      repeat (first | rw [if_neg (by omega)] | rw [if_pos (by omega)])
      exact hru
    · show (w.1 159 x = w.1 (77 + x) 0 ∧ w.1 158 x = w.1 (77 + x) 1 ∧ w.1 160 x = w.1 (77 + x) 2 ∧ w.1 161 x = w.1 (77 + x) 3) ∧ (0 ≤ (w.1 (77 + x) 0).toInt ∧ (w.1 (77 + x) 0).toInt ≤ 5) ∧ (-120 ≤ (w.1 (77 + x) 1).toInt ∧ (w.1 (77 + x) 1).toInt ≤ 120) ∧ (0 ≤ (w.1 (77 + x) 2).toInt ∧ (w.1 (77 + x) 2).toInt ≤ 1) ∧ (-1 ≤ (w.1 (77 + x) 3).toInt ∧ (w.1 (77 + x) 3).toInt ≤ 1439)
      rw [rd 159, rd 158, rd 160, rd 161, rd (77 + x) 0, rd (77 + x) 1, rd (77 + x) 2, rd (77 + x) 3]
      repeat (first | rw [if_neg (by omega)] | rw [if_pos (by omega)])
      exact hcl x hx
    · show (w.1 162 x = w.1 (83 + x) 0 ∧ w.1 163 x = w.1 (83 + x) 1 ∧ w.1 164 x = w.1 (83 + x) 2) ∧ (0 ≤ (w.1 (83 + x) 0).toInt ∧ (w.1 (83 + x) 0).toInt ≤ 5) ∧ (0 ≤ (w.1 (83 + x) 1).toInt ∧ (w.1 (83 + x) 1).toInt ≤ 9) ∧ (0 ≤ (w.1 (83 + x) 2).toInt ∧ (w.1 (83 + x) 2).toInt ≤ 63)
      by_cases e2 : x = i
      · subst e2
        have hh := hdo x hx
        unfold okD at hh
        rw [rd 162, rd 163, rd 164, rd (83 + x) 0, rd (83 + x) 1, rd (83 + x) 2]
        repeat (first | rw [if_neg (by omega)] | rw [if_pos (by omega)])
        exact ⟨⟨hh.1.1, rfl, hh.1.2.2⟩, hh.2.1, hz, hh.2.2.2⟩
      · rw [rd 162, rd 163, rd 164, rd (83 + x) 0, rd (83 + x) 1, rd (83 + x) 2]
        repeat (first | rw [if_neg (by omega)] | rw [if_pos (by omega)])
        exact hdo x hx
theorem set_ok_5 {v : Vv} {n m i : Nat} (h : RH (hs v 74) (hm v) n m) (hi : i < m) {z : Int32} (hz : 0 ≤ z.toInt ∧ z.toInt ≤ 63) : RH (hs (sI (sI (sI v 1 12 1) (83 + i) 2 z) 164 i z) 74) (hm (sI (sI (sI v 1 12 1) (83 + i) 2 z) 164 i z)) n m ∧ FX AH v (sI (sI (sI v 1 12 1) (83 + i) 2 z) 164 i z) ∧ (∀ d, (sI (sI (sI v 1 12 1) (83 + i) 2 z) 164 i z).1 162 d = v.1 162 d) := by
  obtain ⟨⟨hn6, hm5⟩, ⟨hnA, hnB⟩, ⟨hmA, hmB⟩, hru, hcl, hdo⟩ := id h
  generalize hw : sI (sI (sI v 1 12 1) (83 + i) 2 z) 164 i z = w
  have rd : ∀ x y, w.1 x y = if x = 164 ∧ y = i then z else if x = 83 + i ∧ y = 2 then z else if x = 1 ∧ y = 12 then 1 else v.1 x y := by
    intro x y
    rw [← hw]
    rfl
  refine ⟨?_, ⟨fun i k hik => ?_, by rw [← hw]⟩, fun d => ?_⟩
  rotate_left
  · unfold AH at hik
    rw [rd]
    repeat (first | rw [if_neg (by omega)] | rw [if_pos (by omega)])
  · rw [rd]
    repeat (first | rw [if_neg (by omega)] | rw [if_pos (by omega)])
  · refine ⟨⟨by omega, by omega⟩, ⟨?_, ?_⟩, ⟨?_, ?_⟩, ?_, fun x hx => ?_, fun x hx => ?_⟩
    · show w.1 74 2 = _
      rw [rd]
      repeat (first | rw [if_neg (by omega)] | rw [if_pos (by omega)])
      all_goals first | rfl | exact hnA
    · show w.1 154 11 = _
      rw [rd]
      repeat (first | rw [if_neg (by omega)] | rw [if_pos (by omega)])
      all_goals first | rfl | exact hnB
    · show w.1 74 3 = _
      rw [rd]
      repeat (first | rw [if_neg (by omega)] | rw [if_pos (by omega)])
      all_goals first | rfl | exact hmA
    · show w.1 154 15 = _
      rw [rd]
      repeat (first | rw [if_neg (by omega)] | rw [if_pos (by omega)])
      all_goals first | rfl | exact hmB
    · show w.1 154 4 = w.1 74 4 ∧ 0 ≤ (w.1 74 4).toInt ∧ (w.1 74 4).toInt ≤ 5
      rw [rd, rd]
      repeat (first | rw [if_neg (by omega)] | rw [if_pos (by omega)])
      exact hru
    · show (w.1 159 x = w.1 (77 + x) 0 ∧ w.1 158 x = w.1 (77 + x) 1 ∧ w.1 160 x = w.1 (77 + x) 2 ∧ w.1 161 x = w.1 (77 + x) 3) ∧ (0 ≤ (w.1 (77 + x) 0).toInt ∧ (w.1 (77 + x) 0).toInt ≤ 5) ∧ (-120 ≤ (w.1 (77 + x) 1).toInt ∧ (w.1 (77 + x) 1).toInt ≤ 120) ∧ (0 ≤ (w.1 (77 + x) 2).toInt ∧ (w.1 (77 + x) 2).toInt ≤ 1) ∧ (-1 ≤ (w.1 (77 + x) 3).toInt ∧ (w.1 (77 + x) 3).toInt ≤ 1439)
      rw [rd 159, rd 158, rd 160, rd 161, rd (77 + x) 0, rd (77 + x) 1, rd (77 + x) 2, rd (77 + x) 3]
      repeat (first | rw [if_neg (by omega)] | rw [if_pos (by omega)])
      exact hcl x hx
    · show (w.1 162 x = w.1 (83 + x) 0 ∧ w.1 163 x = w.1 (83 + x) 1 ∧ w.1 164 x = w.1 (83 + x) 2) ∧ (0 ≤ (w.1 (83 + x) 0).toInt ∧ (w.1 (83 + x) 0).toInt ≤ 5) ∧ (0 ≤ (w.1 (83 + x) 1).toInt ∧ (w.1 (83 + x) 1).toInt ≤ 9) ∧ (0 ≤ (w.1 (83 + x) 2).toInt ∧ (w.1 (83 + x) 2).toInt ≤ 63)
      by_cases e2 : x = i
      · subst e2
        have hh := hdo x hx
        unfold okD at hh
        rw [rd 162, rd 163, rd 164, rd (83 + x) 0, rd (83 + x) 1, rd (83 + x) 2]
        repeat (first | rw [if_neg (by omega)] | rw [if_pos (by omega)])
        exact ⟨⟨hh.1.1, hh.1.2.1, rfl⟩, hh.2.1, hh.2.2.1, hz⟩
      · rw [rd 162, rd 163, rd 164, rd (83 + x) 0, rd (83 + x) 1, rd (83 + x) 2]
        repeat (first | rw [if_neg (by omega)] | rw [if_pos (by omega)])
        exact hdo x hx
