-- force, feed, count, clocks
/-- how many TEXTS, the tape -/
def TC (v : Vv) : Prop := ∃ t : Nat, (1 ≤ t ∧ t ≤ 6) ∧ v.1 0 5 = nI t ∧ v.1 154 3 = nI t
def TP (v : Vv) : Prop := ∃ k : Nat, k ≤ 160 ∧ v.1 0 7 = nI k ∧ v.1 154 6 = nI k ∧ ∀ i, i < k → v.1 157 i = v.1 107 i ∧ 0 ≤ (v.1 107 i).toInt ∧ (v.1 107 i).toInt ≤ 255
/-- the rules in force are TEXTS -/
def RU (v : Vv) : Prop := (v.1 74 4).toInt < (v.1 0 5).toInt ∧ (v.1 0 3 = 1 → (v.1 92 4).toInt < (v.1 0 5).toInt)
def AT (i k : Nat) : Prop := i = 107 ∨ i = 157 ∨ i = 0 ∧ k = 7 ∨ i = 154 ∧ k = 6
theorem force_step {a : Int32} {v : Vv} (h : HO v) (ht : TC v) {Q : Int32 → Int32 → Vv → Prop} (h0 : ∀ r, Q r r v) (hQ : ∀ r w, HO w → FX AH v w → (∀ d, w.1 162 d = v.1 162 d) → w.1 1 12 = 1 → (w.1 74 4).toInt < (v.1 0 5).toInt → w.1 74 3 = v.1 74 3 → Q r r w) : m_P_force a v (fun r v1 => m_M_force a v1 (fun r' v2 => Q r r' v2)) := by
  obtain ⟨n, m, h⟩ := h
  obtain ⟨⟨hn6, hm5⟩, ⟨hnA, hnB⟩, ⟨hmA, hmB⟩, hru, hcl, hdo⟩ := id h
  obtain ⟨t, ht6, hA, hB⟩ := ht
  have htt := nI_tI (n := t) (by omega)
  have hM : ∀ {w : Vv} {Q : Int32 → Vv → Prop}, w.1 154 3 = nI t → (if 0 ≤ a.toInt ∧ a.toInt < t then Q (w.1 154 4) (sI w 154 4 a) else Q (-2) w) → m_M_force a w Q := by
    intro w Q hw hh
    refine s_M_force (M_in ?_)
    rw [hw, Int32.toInt_toInt64, Int32.toInt_toInt64, l_0, sub1_toInt (by omega), htt]
    by_cases c1 : 0 ≤ a.toInt ∧ a.toInt < t
    · rw [if_pos c1] at hh
      rw [decide_eq_true (by omega), if_pos rfl]
      exact hh
    · rw [if_neg c1] at hh
      rw [decide_eq_false (by omega), if_neg (by decide)]
      exact hh
  refine s_P_force ?_
  rw [hA]
  simp only [Int32.lt_iff_toInt_lt, t_0, htt]
  by_cases c1 : a.toInt < 0
  · rw [if_pos c1]
    refine hM hB ?_
    rw [if_neg (by omega)]
    exact h0 _
  · rw [if_neg c1]
    by_cases c2 : a.toInt < t
    · rw [if_pos c2]
      generalize hu : sI (sI v 74 4 a) 1 12 1 = u
      have ru : ∀ x y, u.1 x y = if x = 1 ∧ y = 12 then 1 else if x = 74 ∧ y = 4 then a else v.1 x y := fun x y => by rw [← hu]; rfl
      refine hM ?_ ?_
      · rw [ru]
        repeat (first | rw [if_neg (by omega)] | rw [if_pos (by omega)])
        exact hB
      · rw [if_pos (by omega)]
        generalize hw : sI u 154 4 a = w
        have rd : ∀ x y, w.1 x y = if x = 154 ∧ y = 4 then a else if x = 1 ∧ y = 12 then 1 else if x = 74 ∧ y = 4 then a else v.1 x y := fun x y => by rw [← hw, sI_at, ru]
        have e1 : u.1 154 4 = v.1 74 4 := by
          rw [ru]
          repeat (first | rw [if_neg (by omega)] | rw [if_pos (by omega)])
          exact hru.1
        rw [e1]
        refine hQ _ _ ⟨n, m, ⟨hn6, hm5⟩, ⟨?_, ?_⟩, ⟨?_, ?_⟩, ?_, fun x hx => ?_, fun x hx => ?_⟩ ⟨fun i k hik => ?_, by rw [← hw, ← hu]⟩ (fun d => ?_) ?_ ?_ ?_
        · show w.1 74 2 = _
          rw [rd]
          repeat (first | rw [if_neg (by omega)] | rw [if_pos (by omega)])
          exact hnA
        · show w.1 154 11 = _
          rw [rd]
          repeat (first | rw [if_neg (by omega)] | rw [if_pos (by omega)])
          exact hnB
        · show w.1 74 3 = _
          rw [rd]
          repeat (first | rw [if_neg (by omega)] | rw [if_pos (by omega)])
          exact hmA
        · show w.1 154 15 = _
          rw [rd]
          repeat (first | rw [if_neg (by omega)] | rw [if_pos (by omega)])
          exact hmB
        · show w.1 154 4 = w.1 74 4 ∧ 0 ≤ (w.1 74 4).toInt ∧ (w.1 74 4).toInt ≤ 5
          rw [rd, rd]
          repeat (first | rw [if_neg (by omega)] | rw [if_pos (by omega)])
          exact ⟨rfl, by omega, by omega⟩
        · show (w.1 159 x = w.1 (77 + x) 0 ∧ w.1 158 x = w.1 (77 + x) 1 ∧ w.1 160 x = w.1 (77 + x) 2 ∧ w.1 161 x = w.1 (77 + x) 3) ∧ (0 ≤ (w.1 (77 + x) 0).toInt ∧ (w.1 (77 + x) 0).toInt ≤ 5) ∧ (-120 ≤ (w.1 (77 + x) 1).toInt ∧ (w.1 (77 + x) 1).toInt ≤ 120) ∧ (0 ≤ (w.1 (77 + x) 2).toInt ∧ (w.1 (77 + x) 2).toInt ≤ 1) ∧ (-1 ≤ (w.1 (77 + x) 3).toInt ∧ (w.1 (77 + x) 3).toInt ≤ 1439)
          rw [rd 159, rd 158, rd 160, rd 161, rd (77 + x) 0, rd (77 + x) 1, rd (77 + x) 2, rd (77 + x) 3]
          repeat (first | rw [if_neg (by omega)] | rw [if_pos (by omega)])
          exact hcl x hx
        · show (w.1 162 x = w.1 (83 + x) 0 ∧ w.1 163 x = w.1 (83 + x) 1 ∧ w.1 164 x = w.1 (83 + x) 2) ∧ (0 ≤ (w.1 (83 + x) 0).toInt ∧ (w.1 (83 + x) 0).toInt ≤ 5) ∧ (0 ≤ (w.1 (83 + x) 1).toInt ∧ (w.1 (83 + x) 1).toInt ≤ 9) ∧ (0 ≤ (w.1 (83 + x) 2).toInt ∧ (w.1 (83 + x) 2).toInt ≤ 63)
          rw [rd 162, rd 163, rd 164, rd (83 + x) 0, rd (83 + x) 1, rd (83 + x) 2]
          repeat (first | rw [if_neg (by omega)] | rw [if_pos (by omega)])
          exact hdo x hx
        · unfold AH at hik
          rw [rd]
          repeat (first | rw [if_neg (by omega)] | rw [if_pos (by omega)])
        · rw [rd]
          repeat (first | rw [if_neg (by omega)] | rw [if_pos (by omega)])
        · rw [rd]
          repeat (first | rw [if_neg (by omega)] | rw [if_pos (by omega)])
        · rw [rd]
          repeat (first | rw [if_neg (by omega)] | rw [if_pos (by omega)])
          rw [hA]
          omega
        · rw [rd]
          repeat (first | rw [if_neg (by omega)] | rw [if_pos (by omega)])
    · rw [if_neg c2]
      refine hM hB ?_
      rw [if_neg (by omega)]
      exact h0 _
theorem feed_step {a : Int32} {v : Vv} (h : TP v) {Q : Int32 → Int32 → Vv → Prop} (h0 : ∀ r, Q r r v) (hQ : ∀ r w, TP w → FX AT v w → Q r r w) : m_P_feed a v (fun r v1 => m_M_feed a v1 (fun r' v2 => Q r r' v2)) := by
  obtain ⟨k, hk, hA, hB, hT⟩ := h
  have hkt := nI_tI (n := k) (by omega)
  have hM : ∀ {w : Vv} {Q : Int32 → Vv → Prop}, w.1 154 6 = nI k → (if 0 ≤ a.toInt ∧ a.toInt ≤ 255 then (if k = 160 then Q (-4) w else Q (nI (k + 1)) (sI (sI w 157 k a) 154 6 (nI (k + 1)))) else Q (-2) w) → m_M_feed a w Q := by
    intro w Q hw hh
    refine s_M_feed (M_in ?_)
    rw [Int32.toInt_toInt64, l_0, l_255]
    by_cases c1 : 0 ≤ a.toInt ∧ a.toInt ≤ 255
    · rw [if_pos c1] at hh
      rw [decide_eq_true c1, if_pos rfl]
      simp only [u2_at, show ∀ x : Nat, ¬ (154 = 157 ∧ 6 = x) from fun x q => absurd q.1 (by decide), if_false, hw]
      by_cases c2 : k = 160
      · rw [if_pos c2] at hh
        rw [if_pos (by simp only [Int32.lt_iff_toInt_lt, i_eq, t_0, t_1, t_2, t_3, t_4, t_5, t_6, t_7, t_9, t_10, t_20, t_30, t_32, t_40, t_59, t_60, t_63, t_99, t_100, t_120, t_160, t_255, t_960, t_1439, t_1440, t_n1, t_n2, t_n3, t_n4, t_n11, t_n12, t_n13, t_n14, t_n120, t_n1000, t_n100000, t_n100, t_200]; omega)]
        exact hh
      · rw [if_neg c2] at hh
        rw [if_neg (by simp only [Int32.lt_iff_toInt_lt, i_eq, t_0, t_1, t_2, t_3, t_4, t_5, t_6, t_7, t_9, t_10, t_20, t_30, t_32, t_40, t_59, t_60, t_63, t_99, t_100, t_120, t_160, t_255, t_960, t_1439, t_1440, t_n1, t_n2, t_n3, t_n4, t_n11, t_n12, t_n13, t_n14, t_n120, t_n1000, t_n100000, t_n100, t_200]; omega), ix_nI (by omega), nI_1]
        refine ⟨ib_nI (by omega) (by decide), ?_⟩
        simp only [and_self, if_true]
        exact hh
    · rw [if_neg c1] at hh
      rw [decide_eq_false c1, if_neg (by decide)]
      exact hh
  refine s_P_feed ?_
  simp only [u2_at, show ∀ x : Nat, ¬ (0 = 107 ∧ 7 = x) from fun x q => absurd q.1 (by decide), if_false, hA]
  by_cases c1 : a.toInt < 0
  · rw [if_pos (by simp only [Int32.lt_iff_toInt_lt, i_eq, t_0, t_1, t_2, t_3, t_4, t_5, t_6, t_7, t_9, t_10, t_20, t_30, t_32, t_40, t_59, t_60, t_63, t_99, t_100, t_120, t_160, t_255, t_960, t_1439, t_1440, t_n1, t_n2, t_n3, t_n4, t_n11, t_n12, t_n13, t_n14, t_n120, t_n1000, t_n100000, t_n100, t_200]; omega)]
    refine hM hB ?_
    rw [if_neg (by omega)]
    exact h0 _
  · rw [if_neg (by simp only [Int32.lt_iff_toInt_lt, i_eq, t_0, t_1, t_2, t_3, t_4, t_5, t_6, t_7, t_9, t_10, t_20, t_30, t_32, t_40, t_59, t_60, t_63, t_99, t_100, t_120, t_160, t_255, t_960, t_1439, t_1440, t_n1, t_n2, t_n3, t_n4, t_n11, t_n12, t_n13, t_n14, t_n120, t_n1000, t_n100000, t_n100, t_200]; omega)]
    by_cases c2 : 255 < a.toInt
    · rw [if_pos (by simp only [Int32.lt_iff_toInt_lt, i_eq, t_0, t_1, t_2, t_3, t_4, t_5, t_6, t_7, t_9, t_10, t_20, t_30, t_32, t_40, t_59, t_60, t_63, t_99, t_100, t_120, t_160, t_255, t_960, t_1439, t_1440, t_n1, t_n2, t_n3, t_n4, t_n11, t_n12, t_n13, t_n14, t_n120, t_n1000, t_n100000, t_n100, t_200]; omega)]
      refine hM hB ?_
      rw [if_neg (by omega)]
      exact h0 _
    · rw [if_neg (by simp only [Int32.lt_iff_toInt_lt, i_eq, t_0, t_1, t_2, t_3, t_4, t_5, t_6, t_7, t_9, t_10, t_20, t_30, t_32, t_40, t_59, t_60, t_63, t_99, t_100, t_120, t_160, t_255, t_960, t_1439, t_1440, t_n1, t_n2, t_n3, t_n4, t_n11, t_n12, t_n13, t_n14, t_n120, t_n1000, t_n100000, t_n100, t_200]; omega)]
      by_cases c3 : k < 160
      · rw [if_pos (by simp only [Int32.lt_iff_toInt_lt, i_eq, t_0, t_1, t_2, t_3, t_4, t_5, t_6, t_7, t_9, t_10, t_20, t_30, t_32, t_40, t_59, t_60, t_63, t_99, t_100, t_120, t_160, t_255, t_960, t_1439, t_1440, t_n1, t_n2, t_n3, t_n4, t_n11, t_n12, t_n13, t_n14, t_n120, t_n1000, t_n100000, t_n100, t_200]; omega), ix_nI (by omega), nI_1]
        refine ⟨ib_nI c3 (by decide), ?_⟩
        simp only [and_self, if_true]
        refine hM ?_ ?_
        · rw [sI_at, sI_at]
          repeat (first | rw [if_neg (by omega)] | rw [if_pos (by omega)])
          exact hB
        · rw [if_pos (by omega), if_neg (by omega)]
          generalize hw : sI (sI (sI (sI v 107 k a) 0 7 (nI (k + 1))) 157 k a) 154 6 (nI (k + 1)) = w
          have rd : ∀ x y, w.1 x y = if x = 154 ∧ y = 6 then nI (k + 1) else if x = 157 ∧ y = k then a else if x = 0 ∧ y = 7 then nI (k + 1) else if x = 107 ∧ y = k then a else v.1 x y := fun x y => by rw [← hw]; rfl
          refine hQ _ _ ⟨k + 1, by omega, ?_, ?_, fun i hi => ?_⟩ ⟨fun i j hij => ?_, by rw [← hw]⟩
          · rw [rd]
            repeat (first | rw [if_neg (by omega)] | rw [if_pos (by omega)])
          · rw [rd]
            repeat (first | rw [if_neg (by omega)] | rw [if_pos (by omega)])
          · by_cases e : i = k
            · subst e
              rw [rd 157, rd 107]
              repeat (first | rw [if_neg (by omega)] | rw [if_pos (by omega)])
              exact ⟨rfl, by omega, by omega⟩
            · rw [rd 157, rd 107]
              repeat (first | rw [if_neg (by omega)] | rw [if_pos (by omega)])
              exact hT i (by omega)
          · unfold AT at hij
            rw [rd]
            repeat (first | rw [if_neg (by omega)] | rw [if_pos (by omega)])
      · rw [if_neg (by simp only [Int32.lt_iff_toInt_lt, i_eq, t_0, t_1, t_2, t_3, t_4, t_5, t_6, t_7, t_9, t_10, t_20, t_30, t_32, t_40, t_59, t_60, t_63, t_99, t_100, t_120, t_160, t_255, t_960, t_1439, t_1440, t_n1, t_n2, t_n3, t_n4, t_n11, t_n12, t_n13, t_n14, t_n120, t_n1000, t_n100000, t_n100, t_200]; omega)]
        refine hM hB ?_
        rw [if_pos (by omega), if_pos (by omega)]
        exact h0 _
-- how many were seen
def seenN (sa : Nat → Int32) : Nat → Nat
  | 0 => 0
  | i + 1 => seenN sa i + if sa i = -1 then 0 else 1
theorem seenN_le (sa : Nat → Int32) : ∀ i, seenN sa i ≤ i
  | 0 => Nat.le_refl _
  | i + 1 => by
    unfold seenN
    have := seenN_le sa i
    split <;> omega
theorem seenN_congr {a b : Nat → Int32} : ∀ {n : Nat}, (∀ c, c < n → a c = b c) → seenN a n = seenN b n
  | 0, _ => rfl
  | n + 1, h => by
    unfold seenN
    rw [seenN_congr (fun c hc => h c (by omega)), h n (by omega)]
theorem H_seen {h n : Nat} (hh : isHouse h) {v : Vv} (hn : v.1 h 2 = nI n) (hn6 : n ≤ 6) {Q : Int32 → Vv → Prop} (hQ : Q (nI (seenN (fun c => v.1 (h + 3 + c) 3) n)) v) : m_H_seen h v Q := by
  have key : ∀ j i : Nat, i + j = n → k_H_seen_4 h (nI (seenN (fun c => v.1 (h + 3 + c) 3) i)) (nI i) v Q := by
    intro j
    induction j with
    | zero =>
      intro i e
      obtain rfl : i = n := e
      refine s_H_seen_4 ⟨hh, ?_⟩
      rw [hn, if_neg (nI_nlt (Nat.le_refl _) (by omega))]
      exact hQ
    | succ j ih =>
      intro i e
      refine s_H_seen_4 ⟨hh, ?_⟩
      rw [hn, if_pos (nI_lt (by omega) (by omega)), ix_nI (by omega), nI_1, nI_1]
      refine ⟨ib_nI (by omega) (by decide), ?_⟩
      have h1 := ih (i + 1) (by omega)
      unfold seenN at h1
      by_cases c : v.1 (h + 3 + i) 3 = -1
      · rw [if_pos c] at h1 ⊢
        exact h1
      · rw [if_neg c] at h1 ⊢
        exact h1
  exact s_H_seen (key n 0 (by omega))
theorem M_seen {n : Nat} {v : Vv} (hn : v.1 154 11 = nI n) (hn6 : n ≤ 6) {Q : Int32 → Vv → Prop} (hQ : Q (nI (seenN (v.1 161) n)) v) : m_M_seenMany v Q := by
  have key : ∀ j i : Nat, i + j = n → k_M_seenMany_4 (nI (seenN (v.1 161) i)) (nI i) v Q := by
    intro j
    induction j with
    | zero =>
      intro i e
      obtain rfl : i = n := e
      refine s_M_seenMany_4 ?_
      rw [hn, if_neg (nI_nlt (Nat.le_refl _) (by omega))]
      exact hQ
    | succ j ih =>
      intro i e
      refine s_M_seenMany_4 ?_
      rw [hn, if_pos (nI_lt (by omega) (by omega)), ix_nI (by omega), nI_1]
      refine ⟨ib_nI (by omega) (by decide), ?_⟩
      have h1 := ih (i + 1) (by omega)
      unfold seenN at h1
      by_cases c : v.1 161 i = -1
      · rw [if_pos c] at h1 ⊢
        have e0 : nI (seenN (v.1 161) i) + bI false = nI (seenN (v.1 161) i + 0) := nI_add _ 0
        rw [e0]
        exact h1
      · rw [if_neg c] at h1 ⊢
        have e0 : nI (seenN (v.1 161) i) + bI true = nI (seenN (v.1 161) i + 1) := nI_add _ 1
        rw [e0]
        exact h1
  exact s_M_seenMany (key n 0 (by omega))
theorem seen_same {v : Vv} {n m : Nat} (h : RH (hs v 74) (hm v) n m) : seenN (fun c => v.1 (74 + 3 + c) 3) n = seenN (v.1 161) n := seenN_congr fun c hc => (h.2.2.2.2.1 c hc).1.2.2.2.symm
theorem count_step {a : Int32} {v : Vv} (h : HO v) (ht : TC v) (hp : TP v) {Q : Int32 → Int32 → Vv → Prop} (h0 : ∀ r, Q r r v) : m_P_count a v (fun r v1 => m_M_count a v1 (fun r' v2 => Q r r' v2)) := by
  obtain ⟨n, m, h⟩ := h
  obtain ⟨⟨hn6, hm5⟩, ⟨hnA, hnB⟩, ⟨hmA, hmB⟩, hru, hcl, hdo⟩ := id h
  obtain ⟨t, ht6, hA, hB⟩ := ht
  obtain ⟨k, hk, kA, kB, hT⟩ := hp
  have hnA : v.1 74 2 = nI n := hnA
  have hnB : v.1 154 11 = nI n := hnB
  have hmA : v.1 74 3 = nI m := hmA
  have hmB : v.1 154 15 = nI m := hmB
  have hr1 : v.1 154 4 = v.1 74 4 := hru.1
  refine s_P_count ?_
  have hM : ∀ {Q : Int32 → Vv → Prop}, (if 0 ≤ a.toInt ∧ a.toInt ≤ 5 then (if a.toInt < 3 then (if a = 0 then Q (nI n) v else if a = 1 then Q (nI m) v else m_M_seenMany v (fun x7 v8 => Q x7 v8)) else Q (if a = 3 then nI t else if a = 4 then nI k else v.1 154 4) v) else Q (-2) v) → m_M_count a v Q := by
    intro Q hh
    refine s_M_count (M_in ?_)
    rw [Int32.toInt_toInt64, l_0, l_5, hnB, hmB, hB, kB]
    simp only [Int32.lt_iff_toInt_lt, t_3]
    by_cases c1 : 0 ≤ a.toInt ∧ a.toInt ≤ 5
    · rw [if_pos c1] at hh
      rw [decide_eq_true c1, if_pos rfl]
      exact hh
    · rw [if_neg c1] at hh
      rw [decide_eq_false c1, if_neg (by decide)]
      exact hh
  by_cases c0 : a = 0
  · subst c0
    rw [if_pos rfl]
    refine hM ?_
    rw [if_pos (by decide), if_pos (by decide), if_pos rfl, hnA]
    exact h0 _
  · rw [if_neg c0]
    by_cases c1 : a = 1
    · subst c1
      rw [if_pos rfl]
      refine hM ?_
      rw [if_pos (by decide), if_pos (by decide), if_neg (by decide), if_pos rfl, hmA]
      exact h0 _
    · rw [if_neg c1]
      by_cases c2 : a = 2
      · subst c2
        rw [if_pos rfl]
        refine H_seen (by unfold isHouse; decide) hnA hn6 ?_
        refine hM ?_
        rw [if_pos (by decide), if_pos (by decide), if_neg (by decide), if_neg (by decide)]
        refine M_seen hnB hn6 ?_
        rw [seen_same h]
        exact h0 _
      · rw [if_neg c2]
        by_cases c3 : a = 3
        · subst c3
          rw [if_pos rfl]
          refine hM ?_
          rw [if_pos (by decide), if_neg (by decide), if_pos rfl, hA]
          exact h0 _
        · rw [if_neg c3]
          by_cases c4 : a = 4
          · subst c4
            rw [if_pos rfl]
            refine hM ?_
            rw [if_pos (by decide), if_neg (by decide), if_neg (by decide), if_pos rfl, kA]
            exact h0 _
          · rw [if_neg c4]
            by_cases c5 : a = 5
            · subst c5
              rw [if_pos rfl]
              refine hM ?_
              rw [if_pos (by decide), if_neg (by decide), if_neg (by decide), if_neg (by decide), hr1]
              exact h0 _
            · rw [if_neg c5]
              refine hM ?_
              simp only [i_eq, t_0, t_1, t_2, t_3, t_4, t_5, t_6, t_7, t_9, t_10, t_20, t_30, t_32, t_40, t_59, t_60, t_63, t_99, t_100, t_120, t_160, t_255, t_960, t_1439, t_1440, t_n1, t_n2, t_n3, t_n4, t_n11, t_n12, t_n13, t_n14, t_n120, t_n1000, t_n100000, t_n100, t_200] at c0 c1 c2 c3 c4 c5
              rw [if_neg (by omega)]
              exact h0 _
