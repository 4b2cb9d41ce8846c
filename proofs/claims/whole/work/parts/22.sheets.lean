-- the sheets of class and reference
theorem nI_of3 {x : Int32} {n : Nat} (h1 : 0 ≤ x.toInt) (h2 : x.toInt < n) : ∃ j : Nat, j < n ∧ x = nI j := ⟨ix x, by unfold ix; omega, (nI_ix h1).symm⟩
theorem nI_mul (a b : Nat) : nI a * nI b = nI (a * b) := (Int32.ofNat_mul a b).symm
theorem nI_tI {n : Nat} (h : n < 2 ^ 31) : (nI n).toInt = n := nI_toInt h
theorem nI_sub {a b : Nat} (h : b ≤ a) (ha : a < 2 ^ 31) : nI a - nI b = nI (a - b) := by
  apply Int32.toInt_inj.mp
  rw [Int32.toInt_sub, nI_tI ha, nI_tI (by omega), nI_tI (by omega), Int.bmod_eq_of_le (by omega) (by omega)]
  omega
/-- n items of a row, from item o on, become 0 -/
def fzo (v : Vv) (a o n : Nat) : Vv := (fun i k => if i = a ∧ o ≤ k ∧ k < o + n then 0 else v.1 i k, v.2)
theorem fzo_at (v : Vv) (a o n i k : Nat) : (fzo v a o n).1 i k = if i = a ∧ o ≤ k ∧ k < o + n then 0 else v.1 i k := rfl
theorem fzo_0 (v : Vv) (a o : Nat) : fzo v a o 0 = v := vv_ext (fun i k => by rw [fzo_at, if_neg (by omega)]) rfl
theorem fzo_succ (v : Vv) (a o n : Nat) : sI (fzo v a o n) a (o + n) 0 = fzo v a o (n + 1) := vv_ext (fun i k => by
  rw [sI_at, fzo_at, fzo_at]
  by_cases h1 : i = a ∧ k = o + n
  · rw [if_pos h1, if_pos (by omega)]
  · rw [if_neg h1]
    by_cases h2 : i = a ∧ o ≤ k ∧ k < o + n
    · rw [if_pos h2, if_pos (by omega)]
    · rw [if_neg h2, if_neg (by omega)]) rfl
def mBecome (v : Vv) (s : Nat) (so n : Int32) : Vv := fzo (sI (sI (sI v 173 s 1) 174 s so) 175 s n) 176 (40 * s) (ix n)
theorem M_sheet_loop {s N : Nat} {so : Int32} (hs : s < 4) (hso : 0 ≤ so.toInt) (hN : N ≤ 40) {v : Vv} {Q : Int32 → Vv → Prop} (h : Q 1 (fzo v 176 (40 * s) N)) : ∀ j i : Nat, i + j = N → k_M_sheet_77 (nI s) so (nI N) (nI i) (fzo v 176 (40 * s) i) Q
  | 0, i, e => by
    obtain rfl : i = N := e
    refine s_M_sheet_77 ?_
    rw [if_neg (nI_nlt (Nat.le_refl _) (by omega))]
    exact h
  | j + 1, i, e => by
    refine s_M_sheet_77 ?_
    rw [if_pos (nI_lt (by omega) (by omega)), if_neg (by rw [Int32.lt_iff_toInt_lt, t_0]; omega)]
    have e1 : (40 : Int32) * nI s + nI i = nI (40 * s + i) := by rw [show (40 : Int32) = nI 40 from rfl, nI_mul, nI_add]
    rw [e1]
    refine ⟨ib_nI (by omega) (by decide), ?_⟩
    rw [ix_nI (by omega), fzo_succ, nI_1]
    exact M_sheet_loop hs hso hN h j (i + 1) (by omega)
theorem M_sheet_set {s : Nat} {so n : Int32} (hs : s < 4) (hso : 0 ≤ so.toInt ∧ so.toInt ≤ 2) (hn : 0 ≤ n.toInt ∧ n.toInt ≤ 40) {v : Vv} {Q : Int32 → Vv → Prop} (h : Q 1 (mBecome v s so n)) : k_M_sheet_45 (nI s) so n v Q := by
  refine s_M_sheet_45 ⟨ib_nI hs (by decide), ?_⟩
  have h0 : ¬ so < (0 : Int32) := by rw [Int32.lt_iff_toInt_lt, t_0]; omega
  obtain ⟨N, hN, rfl⟩ := nI_of3 (n := 41) hn.1 (by omega)
  rw [if_neg h0, ix_nI (by omega)]
  have h2 := M_sheet_loop (v := sI (sI (sI v 173 s 1) 174 s so) 175 s (nI N)) hs hso.1 (N := N) (by omega) (Q := Q) (by unfold mBecome at h; rw [ix_nI (by omega)] at h; exact h) N 0 (by omega)
  rw [fzo_0] at h2
  exact h2
theorem M_sheet_gone {s : Nat} {n : Int32} (hs : s < 4) {v : Vv} {Q : Int32 → Vv → Prop} (h : Q 1 (sI (sI (sI v 173 s 0) 174 s (-1)) 175 s n)) : k_M_sheet_45 (nI s) (-1) n v Q := by
  refine s_M_sheet_45 ⟨ib_nI hs (by decide), ?_⟩
  rw [ix_nI (by omega)]
  refine s_M_sheet_77 ?_
  split
  · rw [if_pos (by decide)]
    exact h
  · exact h
/-- the sheet s of both -/
def RS1 (v : Vv) (s : Nat) : Prop := (v.1 173 s = 0 ∧ v.1 (146 + 2 * s) 1 = -1 ∨ v.1 173 s = 1 ∧ (0 ≤ (v.1 (146 + 2 * s) 1).toInt ∧ (v.1 (146 + 2 * s) 1).toInt ≤ 2) ∧ v.1 174 s = v.1 (146 + 2 * s) 1 ∧ v.1 175 s = v.1 (146 + 2 * s) 2 ∧ ∀ i : Nat, (i : Int) < (v.1 (146 + 2 * s) 2).toInt → v.1 176 (40 * s + i) = v.1 (146 + 2 * s + 1) i) ∧ 0 ≤ (v.1 (146 + 2 * s) 2).toInt ∧ (v.1 (146 + 2 * s) 2).toInt ≤ 40
def RS (v : Vv) : Prop := ∀ s : Nat, s < 4 → RS1 v s
/-- nothing but sheets changed -/
def FS (v w : Vv) : Prop := (∀ i k, ¬ (146 ≤ i ∧ i ≤ 153 ∨ 173 ≤ i ∧ i ≤ 176) → w.1 i k = v.1 i k) ∧ w.2 = v.2
theorem FS.rf (v : Vv) : FS v v := ⟨fun _ _ _ => rfl, rfl⟩
theorem FS.tr {u v w : Vv} (h1 : FS u v) (h2 : FS v w) : FS u w := ⟨fun i k h => (h2.1 i k h).trans (h1.1 i k h), h2.2.trans h1.2⟩
theorem clamp_in {x a b : Int32} (h : a.toInt ≤ x.toInt ∧ x.toInt ≤ b.toInt) : clamp x a b = x := by
  unfold clamp
  rw [if_neg (by rw [Int32.lt_iff_toInt_lt]; omega), if_neg (by rw [Int32.lt_iff_toInt_lt]; omega)]
theorem RS_set {v : Vv} (h : RS v) {s : Nat} {so n : Int32} (hs : s < 4) (hso : 0 ≤ so.toInt ∧ so.toInt ≤ 2) (hn : 0 ≤ n.toInt ∧ n.toInt ≤ 40) : RS (mBecome (sBecome v (146 + 2 * s) so n) s so n) ∧ FS v (mBecome (sBecome v (146 + 2 * s) so n) s so n) := by
  have hc : clamp n 0 40 = n := clamp_in (by rw [t_0, t_40]; exact hn)
  have rd : ∀ a b, (mBecome (sBecome v (146 + 2 * s) so n) s so n).1 a b = if a = 176 ∧ 40 * s ≤ b ∧ b < 40 * s + ix n then 0 else if a = 175 ∧ b = s then n else if a = 174 ∧ b = s then so else if a = 173 ∧ b = s then 1 else if a = 146 + 2 * s + 1 ∧ b < 40 then 0 else if a = 146 + 2 * s ∧ b = 2 then n else if a = 146 + 2 * s ∧ b = 1 then so else v.1 a b := by
    intro a b
    unfold mBecome sBecome
    rw [hc, fzo_at, sI_at, sI_at, sI_at, fz_at, sI_at, sI_at]
  have hix : (ix n : Int) = n.toInt := by unfold ix; omega
  refine ⟨fun q hq => ?_, fun i k hik => ?_, rfl⟩
  · have h1 := h q hq
    unfold RS1 at h1 ⊢
    by_cases e : q = s
    · subst e
      have r1 := rd 173 q
      have r2 := rd (146 + 2 * q) 1
      have r3 := rd 174 q
      have r4 := rd 175 q
      have r5 := rd (146 + 2 * q) 2
      revert r1 r2 r3 r4 r5
      repeat (first | rw [if_neg (by omega)] | rw [if_pos (by omega)])
      intro r1 r2 r3 r4 r5
      rw [r1, r2, r3, r4, r5]
      refine ⟨Or.inr ⟨rfl, hso, rfl, rfl, fun i hi => ?_⟩, hn⟩
      rw [rd, rd]
      repeat (first | rw [if_neg (by omega)] | rw [if_pos (by omega)])
    · have r1 := rd 173 q
      have r2 := rd (146 + 2 * q) 1
      have r3 := rd 174 q
      have r4 := rd 175 q
      have r5 := rd (146 + 2 * q) 2
      revert r1 r2 r3 r4 r5
      repeat (first | rw [if_neg (by omega)] | rw [if_pos (by omega)])
      intro r1 r2 r3 r4 r5
      rw [r1, r2, r3, r4, r5]
      refine ⟨h1.1.imp id fun ⟨a1, a2, a3, a4, a5⟩ => ⟨a1, a2, a3, a4, fun i hi => ?_⟩, h1.2⟩
      have := h1.2
      rw [rd, rd]
      repeat (first | rw [if_neg (by omega)] | rw [if_pos (by omega)])
      exact a5 i hi
  · rw [rd]
    repeat (first | rw [if_neg (by omega)] | rw [if_pos (by omega)])
theorem RS_gone {v : Vv} (h : RS v) {s : Nat} {n : Int32} (hs : s < 4) : RS (sI (sI (sI (sBecome v (146 + 2 * s) (-1) 0) 173 s 0) 174 s (-1)) 175 s n) ∧ FS v (sI (sI (sI (sBecome v (146 + 2 * s) (-1) 0) 173 s 0) 174 s (-1)) 175 s n) := by
  have hc : clamp 0 0 40 = 0 := by decide
  have rd : ∀ a b, (sI (sI (sI (sBecome v (146 + 2 * s) (-1) 0) 173 s 0) 174 s (-1)) 175 s n).1 a b = if a = 175 ∧ b = s then n else if a = 174 ∧ b = s then -1 else if a = 173 ∧ b = s then 0 else if a = 146 + 2 * s + 1 ∧ b < 40 then 0 else if a = 146 + 2 * s ∧ b = 2 then 0 else if a = 146 + 2 * s ∧ b = 1 then -1 else v.1 a b := by
    intro a b
    unfold sBecome
    rw [hc, sI_at, sI_at, sI_at, fz_at, sI_at, sI_at]
  refine ⟨fun q hq => ?_, fun i k hik => ?_, rfl⟩
  · have h1 := h q hq
    unfold RS1 at h1 ⊢
    by_cases e : q = s
    · subst e
      have r1 := rd 173 q
      have r2 := rd (146 + 2 * q) 1
      have r5 := rd (146 + 2 * q) 2
      revert r1 r2 r5
      repeat (first | rw [if_neg (by omega)] | rw [if_pos (by omega)])
      intro r1 r2 r5
      rw [r1, r2, r5]
      exact ⟨Or.inl ⟨rfl, rfl⟩, by decide, by decide⟩
    · have r1 := rd 173 q
      have r2 := rd (146 + 2 * q) 1
      have r3 := rd 174 q
      have r4 := rd 175 q
      have r5 := rd (146 + 2 * q) 2
      revert r1 r2 r3 r4 r5
      repeat (first | rw [if_neg (by omega)] | rw [if_pos (by omega)])
      intro r1 r2 r3 r4 r5
      rw [r1, r2, r3, r4, r5]
      refine ⟨h1.1.imp id fun ⟨a1, a2, a3, a4, a5⟩ => ⟨a1, a2, a3, a4, fun i hi => ?_⟩, h1.2⟩
      rw [rd, rd]
      repeat (first | rw [if_neg (by omega)] | rw [if_pos (by omega)])
      exact a5 i hi
  · rw [rd]
    repeat (first | rw [if_neg (by omega)] | rw [if_pos (by omega)])
theorem sheet_step {a b c : Int32} {v : Vv} (h : RS v) {Q : Int32 → Int32 → Vv → Prop} (hQ : ∀ r w, RS w → FS v w → Q r r w) : m_P_sheet a b c v (fun r v1 => m_M_sheet a b c v1 (fun r' v2 => Q r r' v2)) := by
  refine s_P_sheet (P_isSheet ?_)
  by_cases ha : 0 ≤ a.toInt ∧ a.toInt < 4
  · obtain ⟨s, hs, rfl⟩ := nI_of3 (n := 4) ha.1 ha.2
    rw [decide_eq_true ha, if_pos rfl, ix_nI (by omega)]
    have hsh : isSheet (146 + 2 * s) := by
      have := isSheet_of (x := nI s) ha
      rwa [ix_nI (by omega)] at this
    by_cases hb1 : b = -1
    · subst hb1
      rw [if_pos rfl]
      refine ⟨ib_nI hs (by decide), S_become hsh ?_⟩
      refine s_M_sheet (M_isSheet ?_)
      rw [decide_eq_true ha, if_pos rfl]
      refine M_in ?_
      rw [decide_eq_true (by decide), if_pos rfl, if_pos (by decide)]
      refine s_M_sheet_34 ?_
      rw [if_pos (by decide)]
      obtain ⟨g1, g2⟩ := RS_gone (n := c) h hs
      exact M_sheet_gone hs (hQ 1 _ g1 g2)
    · rw [if_neg hb1]
      have hb1' : b.toInt ≠ -1 := fun q => hb1 (Int32.toInt_inj.mp (by rw [q]; decide))
      refine P_isSort ?_
      by_cases hb : 0 ≤ b.toInt ∧ b.toInt ≤ 2
      · rw [decide_eq_true hb, if_pos rfl]
        simp only [Int32.lt_iff_toInt_lt, Int32.le_iff_toInt_le, Int64.lt_iff_toInt_lt, Int64.le_iff_toInt_le, Int32.toInt_toInt64, t_40, t_0]
        by_cases hc : 40 < c.toInt
        · rw [if_pos hc]
          refine s_M_sheet (M_isSheet ?_)
          rw [decide_eq_true ha, if_pos rfl]
          refine M_in ?_
          simp only [Int32.toInt_toInt64, l_0, l_1, l_2, l_3, l_4, l_5, l_6, l_7, l_9, l_10, l_20, l_30, l_32, l_40, l_59, l_60, l_63, l_99, l_100, l_120, l_160, l_255, l_960, l_1439, l_1440, l_n1, l_n2, l_n3, l_n4, l_n11, l_n12, l_n13, l_n14, l_n120, l_n1000, l_n100000, l_n100, l_200]
          rw [decide_eq_true (by omega), if_pos rfl]
          simp only [Int32.lt_iff_toInt_lt, Int32.le_iff_toInt_le, Int64.lt_iff_toInt_lt, Int64.le_iff_toInt_le, Int32.toInt_toInt64, t_40, t_0]
          rw [if_neg (by omega), if_pos hc]
          exact hQ _ _ h (FS.rf v)
        · rw [if_neg hc]
          by_cases hc2 : c.toInt < 0
          · rw [if_pos hc2]
            refine s_M_sheet (M_isSheet ?_)
            rw [decide_eq_true ha, if_pos rfl]
            refine M_in ?_
            simp only [Int32.toInt_toInt64, l_0, l_1, l_2, l_3, l_4, l_5, l_6, l_7, l_9, l_10, l_20, l_30, l_32, l_40, l_59, l_60, l_63, l_99, l_100, l_120, l_160, l_255, l_960, l_1439, l_1440, l_n1, l_n2, l_n3, l_n4, l_n11, l_n12, l_n13, l_n14, l_n120, l_n1000, l_n100000, l_n100, l_200]
            rw [decide_eq_true (by omega), if_pos rfl]
            simp only [Int32.lt_iff_toInt_lt, Int32.le_iff_toInt_le, Int64.lt_iff_toInt_lt, Int64.le_iff_toInt_le, Int32.toInt_toInt64, t_40, t_0]
            rw [if_neg (by omega), if_neg hc]
            refine s_M_sheet_34 ?_
            simp only [Int32.lt_iff_toInt_lt, Int32.le_iff_toInt_le, Int64.lt_iff_toInt_lt, Int64.le_iff_toInt_le, Int32.toInt_toInt64, t_40, t_0]
            rw [if_neg (by omega), if_pos hc2]
            exact hQ _ _ h (FS.rf v)
          · rw [if_neg hc2]
            refine ⟨ib_nI hs (by decide), S_become hsh ?_⟩
            refine s_M_sheet (M_isSheet ?_)
            rw [decide_eq_true ha, if_pos rfl]
            refine M_in ?_
            simp only [Int32.toInt_toInt64, l_0, l_1, l_2, l_3, l_4, l_5, l_6, l_7, l_9, l_10, l_20, l_30, l_32, l_40, l_59, l_60, l_63, l_99, l_100, l_120, l_160, l_255, l_960, l_1439, l_1440, l_n1, l_n2, l_n3, l_n4, l_n11, l_n12, l_n13, l_n14, l_n120, l_n1000, l_n100000, l_n100, l_200]
            rw [decide_eq_true (by omega), if_pos rfl]
            simp only [Int32.lt_iff_toInt_lt, Int32.le_iff_toInt_le, Int64.lt_iff_toInt_lt, Int64.le_iff_toInt_le, Int32.toInt_toInt64, t_40, t_0]
            rw [if_neg (by omega), if_neg hc]
            refine s_M_sheet_34 ?_
            simp only [Int32.lt_iff_toInt_lt, Int32.le_iff_toInt_le, Int64.lt_iff_toInt_lt, Int64.le_iff_toInt_le, Int32.toInt_toInt64, t_40, t_0]
            rw [if_neg (by omega), if_neg hc2]
            obtain ⟨g1, g2⟩ := RS_set (n := c) h hs hb ⟨by omega, by omega⟩
            exact M_sheet_set hs hb ⟨by omega, by omega⟩ (hQ 1 _ g1 g2)
      · rw [decide_eq_false hb, if_neg (by decide)]
        refine s_M_sheet (M_isSheet ?_)
        rw [decide_eq_true ha, if_pos rfl]
        refine M_in ?_
        simp only [Int32.toInt_toInt64, l_0, l_1, l_2, l_3, l_4, l_5, l_6, l_7, l_9, l_10, l_20, l_30, l_32, l_40, l_59, l_60, l_63, l_99, l_100, l_120, l_160, l_255, l_960, l_1439, l_1440, l_n1, l_n2, l_n3, l_n4, l_n11, l_n12, l_n13, l_n14, l_n120, l_n1000, l_n100000, l_n100, l_200]
        rw [decide_eq_false (by omega), if_neg (by decide)]
        exact hQ _ _ h (FS.rf v)
  · rw [decide_eq_false ha, if_neg (by decide)]
    refine s_M_sheet (M_isSheet ?_)
    rw [decide_eq_false ha, if_neg (by decide)]
    exact hQ _ _ h (FS.rf v)
