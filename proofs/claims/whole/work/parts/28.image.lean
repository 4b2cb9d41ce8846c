-- image and back
theorem C_become {c e : Nat} (hc : isClock c) (he : isClock e) (hne : e ≠ c) {v : Vv} {Q : Vv → Prop} (h : Q (sI (sI (sI (sI v c 0 (v.1 e 0)) c 1 (v.1 e 1)) c 2 (v.1 e 2)) c 3 (v.1 e 3))) : m_C_become c e v Q := by
  refine s_C_become ⟨he, hc, ?_⟩
  simp only [u2_at, show ∀ a b : Nat, ¬ (e = c ∧ a = b) from fun a b q => hne q.1, if_false]
  exact h
theorem D_become {c e : Nat} (hc : isDoer c) (he : isDoer e) (hne : e ≠ c) {v : Vv} {Q : Vv → Prop} (h : Q (sI (sI (sI v c 0 (v.1 e 0)) c 1 (v.1 e 1)) c 2 (v.1 e 2))) : m_D_become c e v Q := by
  refine s_D_become ⟨he, hc, ?_⟩
  simp only [u2_at, show ∀ a b : Nat, ¬ (e = c ∧ a = b) from fun a b q => hne q.1, if_false]
  exact h
/-- i clocks, j doers come from house s to house t -/
def hb (v : Vv) (t s i j : Nat) : Vv := (fun a k => if t + 3 ≤ a ∧ a < t + 3 + i ∧ k < 4 then v.1 (a - t + s) k else if t + 9 ≤ a ∧ a < t + 9 + j ∧ k < 3 then v.1 (a - t + s) k else v.1 a k, v.2)
theorem hb_at (v : Vv) (t s i j a k : Nat) : (hb v t s i j).1 a k = if t + 3 ≤ a ∧ a < t + 3 + i ∧ k < 4 then v.1 (a - t + s) k else if t + 9 ≤ a ∧ a < t + 9 + j ∧ k < 3 then v.1 (a - t + s) k else v.1 a k := rfl
theorem H_become_c {t s : Nat} (ht : isHouse t) (hs : isHouse s) (hd : t + 18 ≤ s ∨ s + 18 ≤ t) {v : Vv} {Q : Vv → Prop} (h : k_H_become_31 t s 0 (hb v t s 6 0) Q) : ∀ j i : Nat, i + j = 6 → k_H_become_2 t s (nI i) (hb v t s i 0) Q
  | 0, i, e => by
    obtain rfl : i = 6 := e
    refine s_H_become_2 ?_
    rw [if_neg (by decide)]
    exact h
  | j + 1, i, e => by
    refine s_H_become_2 ?_
    have hit := nI_tI (n := i) (by omega)
    have hib : ib (nI i) 6 := ib_nI (by omega) (by decide)
    have h1 := el_hclocks_k ht hib
    have h2 := el_hclocks_k hs hib
    rw [ix_nI (by omega)] at h1 h2
    rw [if_pos (by simp only [Int32.lt_iff_toInt_lt, i_eq, t_0, t_1, t_2, t_3, t_4, t_5, t_6, t_7, t_9, t_10, t_20, t_30, t_32, t_40, t_59, t_60, t_63, t_99, t_100, t_120, t_160, t_255, t_960, t_1439, t_1440, t_n1, t_n2, t_n3, t_n4, t_n11, t_n12, t_n13, t_n14, t_n120, t_n1000, t_n100000, t_n100, t_200]; omega), ix_nI (by omega)]
    refine ⟨ht, hib, hs, C_become h1 h2 (by omega) ?_⟩
    rw [nI_1]
    have e1 : ∀ b, b < 4 → (hb v t s i 0).1 (s + 3 + i) b = v.1 (s + 3 + i) b := fun b hb => by
      rw [hb_at]
      repeat (first | rw [if_neg (by omega)] | rw [if_pos (by omega)])
    rw [e1 0 (by omega), e1 1 (by omega), e1 2 (by omega), e1 3 (by omega)]
    have e2 : sI (sI (sI (sI (hb v t s i 0) (t + 3 + i) 0 (v.1 (s + 3 + i) 0)) (t + 3 + i) 1 (v.1 (s + 3 + i) 1)) (t + 3 + i) 2 (v.1 (s + 3 + i) 2)) (t + 3 + i) 3 (v.1 (s + 3 + i) 3) = hb v t s (i + 1) 0 := by
      refine vv_ext (fun a k => ?_) rfl
      rw [sI_at, sI_at, sI_at, sI_at, hb_at, hb_at]
      by_cases q : a = t + 3 + i ∧ k < 4
      · obtain ⟨rfl, q2⟩ := q
        rw [if_pos (show t + 3 ≤ t + 3 + i ∧ t + 3 + i < t + 3 + (i + 1) ∧ k < 4 by omega), show t + 3 + i - t + s = s + 3 + i by omega]
        match k, q2 with
        | 0, _ => rw [if_neg (by omega), if_neg (by omega), if_neg (by omega), if_pos ⟨rfl, rfl⟩]
        | 1, _ => rw [if_neg (by omega), if_neg (by omega), if_pos ⟨rfl, rfl⟩]
        | 2, _ => rw [if_neg (by omega), if_pos ⟨rfl, rfl⟩]
        | 3, _ => rw [if_pos ⟨rfl, rfl⟩]
      · rw [if_neg (by omega), if_neg (by omega), if_neg (by omega), if_neg (by omega)]
        by_cases q2 : t + 3 ≤ a ∧ a < t + 3 + i ∧ k < 4
        · rw [if_pos q2, if_pos (by omega)]
        · rw [if_neg q2, if_neg (by omega), if_neg (by omega)]
    rw [e2]
    exact H_become_c ht hs hd h j (i + 1) (by omega)
theorem H_become_d {t s : Nat} (ht : isHouse t) (hs : isHouse s) (hd : t + 18 ≤ s ∨ s + 18 ≤ t) {v : Vv} {Q : Vv → Prop} (h : Q (sI (sI (sI (hb v t s 6 5) t 2 (v.1 s 2)) t 3 (v.1 s 3)) t 4 (v.1 s 4))) : ∀ j i : Nat, i + j = 5 → k_H_become_31 t s (nI i) (hb v t s 6 i) Q
  | 0, i, e => by
    obtain rfl : i = 5 := e
    refine s_H_become_31 ?_
    rw [if_neg (by decide)]
    refine ⟨hs, ht, ?_⟩
    simp only [u2_at, show ∀ a b : Nat, ¬ (s = t ∧ a = b) from fun a b q => by omega, if_false]
    have e1 : ∀ b, (hb v t s 6 5).1 s b = v.1 s b := fun b => by
      rw [hb_at]
      repeat (first | rw [if_neg (by omega)] | rw [if_pos (by omega)])
    rw [e1, e1, e1]
    exact h
  | j + 1, i, e => by
    refine s_H_become_31 ?_
    have hit := nI_tI (n := i) (by omega)
    have hib : ib (nI i) 5 := ib_nI (by omega) (by decide)
    have h1 := el_hdoers_k ht hib
    have h2 := el_hdoers_k hs hib
    rw [ix_nI (by omega)] at h1 h2
    rw [if_pos (by simp only [Int32.lt_iff_toInt_lt, i_eq, t_0, t_1, t_2, t_3, t_4, t_5, t_6, t_7, t_9, t_10, t_20, t_30, t_32, t_40, t_59, t_60, t_63, t_99, t_100, t_120, t_160, t_255, t_960, t_1439, t_1440, t_n1, t_n2, t_n3, t_n4, t_n11, t_n12, t_n13, t_n14, t_n120, t_n1000, t_n100000, t_n100, t_200]; omega), ix_nI (by omega)]
    refine ⟨ht, hib, hs, D_become h1 h2 (by omega) ?_⟩
    rw [nI_1]
    have e1 : ∀ b, b < 3 → (hb v t s 6 i).1 (s + 9 + i) b = v.1 (s + 9 + i) b := fun b hb => by
      rw [hb_at]
      repeat (first | rw [if_neg (by omega)] | rw [if_pos (by omega)])
    rw [e1 0 (by omega), e1 1 (by omega), e1 2 (by omega)]
    have e2 : sI (sI (sI (hb v t s 6 i) (t + 9 + i) 0 (v.1 (s + 9 + i) 0)) (t + 9 + i) 1 (v.1 (s + 9 + i) 1)) (t + 9 + i) 2 (v.1 (s + 9 + i) 2) = hb v t s 6 (i + 1) := by
      refine vv_ext (fun a k => ?_) rfl
      rw [sI_at, sI_at, sI_at, hb_at, hb_at]
      by_cases q : a = t + 9 + i ∧ k < 3
      · obtain ⟨rfl, q2⟩ := q
        simp only [if_neg (show ¬ (t + 3 ≤ t + 9 + i ∧ t + 9 + i < t + 3 + 6 ∧ k < 4) by omega)]
        rw [if_pos (show t + 9 ≤ t + 9 + i ∧ t + 9 + i < t + 9 + (i + 1) ∧ k < 3 by omega), show t + 9 + i - t + s = s + 9 + i by omega]
        match k, q2 with
        | 0, _ => rw [if_neg (by omega), if_neg (by omega), if_pos ⟨trivial, rfl⟩]
        | 1, _ => rw [if_neg (by omega), if_pos ⟨trivial, rfl⟩]
        | 2, _ => rw [if_pos ⟨trivial, rfl⟩]
      · rw [if_neg (by omega), if_neg (by omega), if_neg (by omega)]
        by_cases q2 : t + 3 ≤ a ∧ a < t + 3 + 6 ∧ k < 4
        · rw [if_pos q2, if_pos q2]
        · rw [if_neg q2, if_neg q2]
          by_cases q3 : t + 9 ≤ a ∧ a < t + 9 + i ∧ k < 3
          · rw [if_pos q3, if_pos (by omega)]
          · rw [if_neg q3, if_neg (by omega)]
    rw [e2]
    exact H_become_d ht hs hd h j (i + 1) (by omega)
theorem hb_0 (v : Vv) (t s : Nat) : hb v t s 0 0 = v := vv_ext (fun a k => by rw [hb_at, if_neg (by omega), if_neg (by omega)]) rfl
def hBecome (v : Vv) (t s : Nat) : Vv := sI (sI (sI (hb v t s 6 5) t 2 (v.1 s 2)) t 3 (v.1 s 3)) t 4 (v.1 s 4)
theorem H_become {t s : Nat} (ht : isHouse t) (hs : isHouse s) (hd : t + 18 ≤ s ∨ s + 18 ≤ t) {v : Vv} {Q : Vv → Prop} (h : Q (hBecome v t s)) : m_H_become t s v Q := by
  have h1 := H_become_c ht hs hd (H_become_d ht hs hd h 5 0 rfl) 6 0 rfl
  rw [hb_0] at h1
  exact s_H_become h1
-- the reference
def mi (v : Vv) (i j : Nat) : Vv := (fun a k => if a = 171 ∧ k < 24 ∧ k % 6 < i then v.1 (158 + k / 6) (k % 6) else if a = 172 ∧ k < 10 ∧ k % 5 < j then v.1 (163 + k / 5) (k % 5) else v.1 a k, v.2)
theorem mi_at (v : Vv) (i j a k : Nat) : (mi v i j).1 a k = if a = 171 ∧ k < 24 ∧ k % 6 < i then v.1 (158 + k / 6) (k % 6) else if a = 172 ∧ k < 10 ∧ k % 5 < j then v.1 (163 + k / 5) (k % 5) else v.1 a k := rfl
theorem M_image_c {v : Vv} {Q : Int32 → Vv → Prop} (h : k_M_image_73 0 (mi v 6 0) Q) : ∀ j i : Nat, i + j = 6 → k_M_image_2 (nI i) (mi v i 0) Q
  | 0, i, e => by
    obtain rfl : i = 6 := e
    refine s_M_image_2 ?_
    rw [if_neg (by decide)]
    exact h
  | j + 1, i, e => by
    refine s_M_image_2 ?_
    have hit := nI_tI (n := i) (by omega)
    rw [if_pos (by simp only [Int32.lt_iff_toInt_lt, i_eq, t_0, t_1, t_2, t_3, t_4, t_5, t_6, t_7, t_9, t_10, t_20, t_30, t_32, t_40, t_59, t_60, t_63, t_99, t_100, t_120, t_160, t_255, t_960, t_1439, t_1440, t_n1, t_n2, t_n3, t_n4, t_n11, t_n12, t_n13, t_n14, t_n120, t_n1000, t_n100000, t_n100, t_200]; omega)]
    have e6 : (6 : Int32) + nI i = nI (6 + i) := nI_add 6 i
    have e12 : (12 : Int32) + nI i = nI (12 + i) := nI_add 12 i
    have e18 : (18 : Int32) + nI i = nI (18 + i) := nI_add 18 i
    rw [e6, e12, e18, ix_nI (by omega), ix_nI (by omega), ix_nI (by omega), ix_nI (by omega), nI_1]
    refine ⟨ib_nI (by omega) (by decide), ib_nI (by omega) (by decide), ib_nI (by omega) (by decide), ib_nI (by omega) (by decide), ib_nI (by omega) (by decide), ?_⟩
    simp only [u2_at, show ∀ a b : Nat, ¬ (159 = 171 ∧ a = b) from fun a b q => absurd q.1 (by decide), show ∀ a b : Nat, ¬ (160 = 171 ∧ a = b) from fun a b q => absurd q.1 (by decide), show ∀ a b : Nat, ¬ (161 = 171 ∧ a = b) from fun a b q => absurd q.1 (by decide), if_false]
    have e1 : ∀ a b, 158 ≤ a → a ≤ 161 → (mi v i 0).1 a b = v.1 a b := fun a b h1 h2 => by
      rw [mi_at]
      repeat (first | rw [if_neg (by omega)] | rw [if_pos (by omega)])
    rw [e1 158 _ (by omega) (by omega), e1 159 _ (by omega) (by omega), e1 160 _ (by omega) (by omega), e1 161 _ (by omega) (by omega)]
    have e2 : sI (sI (sI (sI (mi v i 0) 171 i (v.1 158 i)) 171 (6 + i) (v.1 159 i)) 171 (12 + i) (v.1 160 i)) 171 (18 + i) (v.1 161 i) = mi v (i + 1) 0 := by
      refine vv_ext (fun a k => ?_) rfl
      rw [sI_at, sI_at, sI_at, sI_at, mi_at, mi_at]
      by_cases q : a = 171 ∧ k < 24 ∧ k % 6 = i
      · obtain ⟨rfl, q2, q3⟩ := q
        rw [if_pos (show 171 = 171 ∧ k < 24 ∧ k % 6 < i + 1 by omega), q3]
        have : k / 6 = 0 ∨ k / 6 = 1 ∨ k / 6 = 2 ∨ k / 6 = 3 := by omega
        rcases this with q4 | q4 | q4 | q4 <;> rw [q4] <;> (repeat (first | rw [if_neg (by omega)] | rw [if_pos (by omega)]))
      · rw [if_neg (by omega), if_neg (by omega), if_neg (by omega), if_neg (by omega)]
        by_cases q2 : a = 171 ∧ k < 24 ∧ k % 6 < i
        · rw [if_pos q2, if_pos (by omega)]
        · rw [if_neg q2, if_neg (by omega), if_neg (by omega)]
    have e3 := M_image_c h j (i + 1) (by omega)
    rw [← e2] at e3
    exact e3
theorem M_image_d {v : Vv} {Q : Int32 → Vv → Prop} (h : Q (v.1 154 11) (sI (sI (sI (mi v 6 5) 154 42 (v.1 154 11)) 154 43 (v.1 154 15)) 154 44 (v.1 154 4))) : ∀ j i : Nat, i + j = 5 → k_M_image_73 (nI i) (mi v 6 i) Q
  | 0, i, e => by
    obtain rfl : i = 5 := e
    refine s_M_image_73 ?_
    rw [if_neg (by decide)]
    have e1 : ∀ b, (mi v 6 5).1 154 b = v.1 154 b := fun b => by
      rw [mi_at]
      repeat (first | rw [if_neg (by omega)] | rw [if_pos (by omega)])
    simp only [u2_at, e1]
    exact h
  | j + 1, i, e => by
    refine s_M_image_73 ?_
    have hit := nI_tI (n := i) (by omega)
    rw [if_pos (by simp only [Int32.lt_iff_toInt_lt, i_eq, t_0, t_1, t_2, t_3, t_4, t_5, t_6, t_7, t_9, t_10, t_20, t_30, t_32, t_40, t_59, t_60, t_63, t_99, t_100, t_120, t_160, t_255, t_960, t_1439, t_1440, t_n1, t_n2, t_n3, t_n4, t_n11, t_n12, t_n13, t_n14, t_n120, t_n1000, t_n100000, t_n100, t_200]; omega)]
    have e5 : (5 : Int32) + nI i = nI (5 + i) := nI_add 5 i
    rw [e5, ix_nI (by omega), ix_nI (by omega), nI_1]
    refine ⟨ib_nI (by omega) (by decide), ib_nI (by omega) (by decide), ib_nI (by omega) (by decide), ?_⟩
    simp only [u2_at, show ∀ a b : Nat, ¬ (164 = 172 ∧ a = b) from fun a b q => absurd q.1 (by decide), if_false]
    have e1 : ∀ a b, 163 ≤ a → a ≤ 164 → (mi v 6 i).1 a b = v.1 a b := fun a b h1 h2 => by
      rw [mi_at]
      repeat (first | rw [if_neg (by omega)] | rw [if_pos (by omega)])
    rw [e1 163 _ (by omega) (by omega), e1 164 _ (by omega) (by omega)]
    have e2 : sI (sI (mi v 6 i) 172 i (v.1 163 i)) 172 (5 + i) (v.1 164 i) = mi v 6 (i + 1) := by
      refine vv_ext (fun a k => ?_) rfl
      rw [sI_at, sI_at, mi_at, mi_at]
      by_cases q0 : a = 171 ∧ k < 24 ∧ k % 6 < 6
      · rw [if_neg (by omega), if_neg (by omega), if_pos q0, if_pos q0]
      · simp only [if_neg q0]
        by_cases q : a = 172 ∧ k < 10 ∧ k % 5 = i
        · obtain ⟨rfl, q2, q3⟩ := q
          rw [if_pos (show 172 = 172 ∧ k < 10 ∧ k % 5 < i + 1 by omega), q3]
          have : k / 5 = 0 ∨ k / 5 = 1 := by omega
          rcases this with q4 | q4 <;> rw [q4] <;> (repeat (first | rw [if_neg (by omega)] | rw [if_pos (by omega)]))
        · rw [if_neg (by omega), if_neg (by omega)]
          by_cases q2 : a = 172 ∧ k < 10 ∧ k % 5 < i
          · rw [if_pos q2, if_pos (by omega)]
          · rw [if_neg q2, if_neg (by omega)]
    have e3 := M_image_d h j (i + 1) (by omega)
    rw [← e2] at e3
    exact e3
theorem mi_0 (v : Vv) : mi v 0 0 = v := vv_ext (fun a k => by rw [mi_at, if_neg (by omega), if_neg (by omega)]) rfl
def mImage (v : Vv) : Vv := sI (sI (sI (mi v 6 5) 154 42 (v.1 154 11)) 154 43 (v.1 154 15)) 154 44 (v.1 154 4)
theorem M_image {v : Vv} {Q : Int32 → Vv → Prop} (h : Q (v.1 154 11) (mImage v)) : m_M_image v Q := by
  have h1 := M_image_c (M_image_d h 5 0 rfl) 6 0 rfl
  rw [mi_0] at h1
  exact s_M_image h1
/-- all laid back -/
def mb (v : Vv) (i j : Nat) : Vv := (fun a k => if 158 ≤ a ∧ a ≤ 161 ∧ k < i then v.1 171 (6 * (a - 158) + k) else if 163 ≤ a ∧ a ≤ 164 ∧ k < j then v.1 172 (5 * (a - 163) + k) else v.1 a k, v.2)
theorem mb_at (v : Vv) (i j a k : Nat) : (mb v i j).1 a k = if 158 ≤ a ∧ a ≤ 161 ∧ k < i then v.1 171 (6 * (a - 158) + k) else if 163 ≤ a ∧ a ≤ 164 ∧ k < j then v.1 172 (5 * (a - 163) + k) else v.1 a k := rfl
theorem M_back_c {v : Vv} {Q : Int32 → Vv → Prop} (h : k_M_back_84 0 (mb v 6 0) Q) : ∀ j i : Nat, i + j = 6 → k_M_back_13 (nI i) (mb v i 0) Q
  | 0, i, e => by
    obtain rfl : i = 6 := e
    refine s_M_back_13 ?_
    rw [if_neg (by decide)]
    exact h
  | j + 1, i, e => by
    refine s_M_back_13 ?_
    have hit := nI_tI (n := i) (by omega)
    rw [if_pos (by simp only [Int32.lt_iff_toInt_lt, i_eq, t_0, t_1, t_2, t_3, t_4, t_5, t_6, t_7, t_9, t_10, t_20, t_30, t_32, t_40, t_59, t_60, t_63, t_99, t_100, t_120, t_160, t_255, t_960, t_1439, t_1440, t_n1, t_n2, t_n3, t_n4, t_n11, t_n12, t_n13, t_n14, t_n120, t_n1000, t_n100000, t_n100, t_200]; omega)]
    have e6 : (6 : Int32) + nI i = nI (6 + i) := nI_add 6 i
    have e12 : (12 : Int32) + nI i = nI (12 + i) := nI_add 12 i
    have e18 : (18 : Int32) + nI i = nI (18 + i) := nI_add 18 i
    rw [e6, e12, e18, ix_nI (by omega), ix_nI (by omega), ix_nI (by omega), ix_nI (by omega), nI_1]
    refine ⟨ib_nI (by omega) (by decide), ib_nI (by omega) (by decide), ib_nI (by omega) (by decide), ib_nI (by omega) (by decide), ib_nI (by omega) (by decide), ?_⟩
    simp only [u2_at, show ∀ a b : Nat, ¬ (171 = 158 ∧ a = b) from fun a b q => absurd q.1 (by decide), show ∀ a b : Nat, ¬ (171 = 159 ∧ a = b) from fun a b q => absurd q.1 (by decide), show ∀ a b : Nat, ¬ (171 = 160 ∧ a = b) from fun a b q => absurd q.1 (by decide), if_false]
    have e1 : ∀ b, (mb v i 0).1 171 b = v.1 171 b := fun b => by
      rw [mb_at]
      repeat (first | rw [if_neg (by omega)] | rw [if_pos (by omega)])
    rw [e1, e1, e1, e1]
    have e2 : sI (sI (sI (sI (mb v i 0) 158 i (v.1 171 i)) 159 i (v.1 171 (6 + i))) 160 i (v.1 171 (12 + i))) 161 i (v.1 171 (18 + i)) = mb v (i + 1) 0 := by
      refine vv_ext (fun a k => ?_) rfl
      rw [sI_at, sI_at, sI_at, sI_at, mb_at, mb_at]
      by_cases q : (158 ≤ a ∧ a ≤ 161) ∧ k = i
      · obtain ⟨q1, rfl⟩ := q
        rw [if_pos (show 158 ≤ a ∧ a ≤ 161 ∧ k < k + 1 by omega)]
        have : a = 158 ∨ a = 159 ∨ a = 160 ∨ a = 161 := by omega
        rcases this with rfl | rfl | rfl | rfl
        · rw [if_neg (by omega), if_neg (by omega), if_neg (by omega), if_pos ⟨rfl, rfl⟩, show 6 * (158 - 158) + k = k by omega]
        · rw [if_neg (by omega), if_neg (by omega), if_pos ⟨rfl, rfl⟩]
        · rw [if_neg (by omega), if_pos ⟨rfl, rfl⟩]
        · rw [if_pos ⟨rfl, rfl⟩]
      · rw [if_neg (by omega), if_neg (by omega), if_neg (by omega), if_neg (by omega)]
        by_cases q2 : 158 ≤ a ∧ a ≤ 161 ∧ k < i
        · rw [if_pos q2, if_pos (by omega)]
        · rw [if_neg q2, if_neg (by omega), if_neg (by omega)]
    have e3 := M_back_c h j (i + 1) (by omega)
    rw [← e2] at e3
    exact e3
theorem M_back_d {v : Vv} {Q : Int32 → Vv → Prop} (h : Q (v.1 154 42) (sI (sI (sI (mb v 6 5) 154 11 (v.1 154 42)) 154 15 (v.1 154 43)) 154 4 (v.1 154 44))) : ∀ j i : Nat, i + j = 5 → k_M_back_84 (nI i) (mb v 6 i) Q
  | 0, i, e => by
    obtain rfl : i = 5 := e
    refine s_M_back_84 ?_
    rw [if_neg (by decide)]
    have e1 : ∀ b, (mb v 6 5).1 154 b = v.1 154 b := fun b => by
      rw [mb_at]
      repeat (first | rw [if_neg (by omega)] | rw [if_pos (by omega)])
    simp only [u2_at, e1]
    exact h
  | j + 1, i, e => by
    refine s_M_back_84 ?_
    have hit := nI_tI (n := i) (by omega)
    rw [if_pos (by simp only [Int32.lt_iff_toInt_lt, i_eq, t_0, t_1, t_2, t_3, t_4, t_5, t_6, t_7, t_9, t_10, t_20, t_30, t_32, t_40, t_59, t_60, t_63, t_99, t_100, t_120, t_160, t_255, t_960, t_1439, t_1440, t_n1, t_n2, t_n3, t_n4, t_n11, t_n12, t_n13, t_n14, t_n120, t_n1000, t_n100000, t_n100, t_200]; omega)]
    have e5 : (5 : Int32) + nI i = nI (5 + i) := nI_add 5 i
    rw [e5, ix_nI (by omega), ix_nI (by omega), nI_1]
    refine ⟨ib_nI (by omega) (by decide), ib_nI (by omega) (by decide), ib_nI (by omega) (by decide), ?_⟩
    simp only [u2_at, show ∀ a b : Nat, ¬ (172 = 163 ∧ a = b) from fun a b q => absurd q.1 (by decide), if_false]
    have e1 : ∀ b, (mb v 6 i).1 172 b = v.1 172 b := fun b => by
      rw [mb_at]
      repeat (first | rw [if_neg (by omega)] | rw [if_pos (by omega)])
    rw [e1, e1]
    have e2 : sI (sI (mb v 6 i) 163 i (v.1 172 i)) 164 i (v.1 172 (5 + i)) = mb v 6 (i + 1) := by
      refine vv_ext (fun a k => ?_) rfl
      rw [sI_at, sI_at, mb_at, mb_at]
      by_cases q0 : 158 ≤ a ∧ a ≤ 161 ∧ k < 6
      · rw [if_neg (by omega), if_neg (by omega), if_pos q0, if_pos q0]
      · simp only [if_neg q0]
        by_cases q : (163 ≤ a ∧ a ≤ 164) ∧ k = i
        · obtain ⟨q1, rfl⟩ := q
          rw [if_pos (show 163 ≤ a ∧ a ≤ 164 ∧ k < k + 1 by omega)]
          have : a = 163 ∨ a = 164 := by omega
          rcases this with rfl | rfl
          · rw [if_neg (by omega), if_pos ⟨rfl, rfl⟩, show 5 * (163 - 163) + k = k by omega]
          · rw [if_pos ⟨rfl, rfl⟩]
        · rw [if_neg (by omega), if_neg (by omega)]
          by_cases q2 : 163 ≤ a ∧ a ≤ 164 ∧ k < i
          · rw [if_pos q2, if_pos (by omega)]
          · rw [if_neg q2, if_neg (by omega)]
    have e3 := M_back_d h j (i + 1) (by omega)
    rw [← e2] at e3
    exact e3
theorem mb_0 (v : Vv) : mb v 0 0 = v := vv_ext (fun a k => by rw [mb_at, if_neg (by omega), if_neg (by omega)]) rfl
def mBack (v : Vv) : Vv := sI (sI (sI (mb v 6 5) 154 11 (v.1 154 42)) 154 15 (v.1 154 43)) 154 4 (v.1 154 44)
theorem M_back {v : Vv} {Q : Int32 → Vv → Prop} (hk : v.1 154 42 = -1 → Q (-3) v) (h : ¬ v.1 154 42 = -1 → Q (v.1 154 42) (mBack v)) : m_M_back v Q := by
  refine s_M_back ?_
  by_cases q : v.1 154 42 = -1
  · rw [if_pos q]; exact hk q
  · rw [if_neg q]
    have h1 := M_back_c (M_back_d (h q) 5 0 rfl) 6 0 rfl
    rw [mb_0] at h1
    exact h1
