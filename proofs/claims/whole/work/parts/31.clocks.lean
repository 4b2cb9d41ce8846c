-- clocks: class first, then the reference, held against both at once
def okc (a b : Int32) : Prop := (0 ≤ a.toInt ∧ a.toInt ≤ 59 ∧ a.toInt % 10 ≤ 1) ∧ -120 ≤ b.toInt ∧ b.toInt ≤ 120
def ov (x y : Vv) : Vv := (fun a k => if a < 154 then x.1 a k else y.1 a k, x.2)
theorem ov_at (x y : Vv) (a k : Nat) : (ov x y).1 a k = if a < 154 then x.1 a k else y.1 a k := rfl
theorem ov_self (x : Vv) : ov x x = x := vv_ext (fun a k => by rw [ov_at]; split <;> rfl) rfl
theorem ov_lo (x y : Vv) {a : Nat} (h : a < 154) (k : Nat) : (ov x y).1 a k = x.1 a k := if_pos h
theorem ov_hi (x y : Vv) {a : Nat} (h : ¬ a < 154) (k : Nat) : (ov x y).1 a k = y.1 a k := if_neg h
/-- one clock more on both sides -/
noncomputable def stp (z : Vv) (a b : Int32) : Vv := by
  classical exact if okc a b ∧ ix (z.1 74 2) < 6 then mAdd (cAdd z (ix (z.1 74 2)) a b) (ix (z.1 74 2)) a b else z
noncomputable def rsp (z : Vv) (a b : Int32) : Int32 := by
  classical exact if okc a b then (if ix (z.1 74 2) < 6 then z.1 74 2 else -4) else -2
theorem stp_yes {z : Vv} {a b : Int32} (h : okc a b ∧ ix (z.1 74 2) < 6) : stp z a b = mAdd (cAdd z (ix (z.1 74 2)) a b) (ix (z.1 74 2)) a b := by unfold stp; rw [if_pos h]
theorem stp_no {z : Vv} {a b : Int32} (h : ¬ (okc a b ∧ ix (z.1 74 2) < 6)) : stp z a b = z := by unfold stp; rw [if_neg h]
theorem P_clock_ov {z y : Vv} {a b : Int32} (h : HO z) {Q : Int32 → Vv → Prop} (hQ : Q (rsp z a b) (ov (stp z a b) y)) : m_P_clock a b (ov z y) Q := by
  obtain ⟨n, m, h⟩ := h
  obtain ⟨⟨hn6, hm5⟩, ⟨hnA, hnB⟩, ⟨hmA, hmB⟩, hru, hcl, hdo⟩ := id h
  have hnA : z.1 74 2 = nI n := hnA
  have hix : ix (z.1 74 2) = n := by rw [hnA, ix_nI (by omega)]
  unfold rsp at hQ
  refine P_clock (k := n) (by rw [ov_lo _ _ (by decide)]; exact hnA) hn6 (fun c => ?_) (fun c e => ?_) (fun c e => ?_)
  · rw [if_neg (show ¬ okc a b from c), stp_no (fun q => c q.1)] at hQ
    exact hQ
  · rw [if_pos (show okc a b from c), if_neg (by omega), stp_no (fun q => absurd q.2 (by omega))] at hQ
    exact hQ
  · rw [if_pos (show okc a b from c), if_pos (by omega), stp_yes ⟨c, by omega⟩, hix, hnA] at hQ
    have e1 : cAdd (ov z y) n a b = ov (mAdd (cAdd z n a b) n a b) y := by
      refine vv_ext (fun x k => ?_) rfl
      unfold cAdd mAdd
      by_cases c1 : x < 154
      · rw [ov_lo _ _ c1, sI_at, sI_at, sI_at, sI_at, sI_at, sI_at, ov_lo _ _ c1]
        rw [sI_cell _ _ _ _ (by omega), sI_cell _ _ _ _ (by omega), sI_cell _ _ _ _ (by omega), sI_cell _ _ _ _ (by omega), sI_cell _ _ _ _ (by omega)]
        rw [sI_at, sI_at, sI_at, sI_at, sI_at, sI_at]
      · rw [ov_hi _ _ c1, sI_cell _ _ _ _ (by omega), sI_cell _ _ _ _ (by omega), sI_cell _ _ _ _ (by omega), sI_cell _ _ _ _ (by omega), sI_cell _ _ _ _ (by omega), sI_cell _ _ _ _ (by omega), ov_hi _ _ c1]
    rw [e1]
    exact hQ
theorem M_clock_ov {z y : Vv} {a b : Int32} (h : HO z) {Q : Int32 → Vv → Prop} (hQ : Q (rsp z a b) (ov y (stp z a b))) : m_M_clock a b (ov y z) Q := by
  obtain ⟨n, m, h⟩ := h
  obtain ⟨⟨hn6, hm5⟩, ⟨hnA, hnB⟩, ⟨hmA, hmB⟩, hru, hcl, hdo⟩ := id h
  have hnA : z.1 74 2 = nI n := hnA
  have hnB : z.1 154 11 = nI n := hnB
  have hix : ix (z.1 74 2) = n := by rw [hnA, ix_nI (by omega)]
  unfold rsp at hQ
  refine M_clock (k := n) (by rw [ov_hi _ _ (by decide)]; exact hnB) hn6 (fun c => ?_) (fun c e => ?_) (fun c e => ?_)
  · rw [if_neg (show ¬ okc a b from c), stp_no (fun q => c q.1)] at hQ
    exact hQ
  · rw [if_pos (show okc a b from c), if_neg (by omega), stp_no (fun q => absurd q.2 (by omega))] at hQ
    exact hQ
  · rw [if_pos (show okc a b from c), if_pos (by omega), stp_yes ⟨c, by omega⟩, hix, hnA] at hQ
    have e1 : mAdd (ov y z) n a b = ov y (mAdd (cAdd z n a b) n a b) := by
      refine vv_ext (fun x k => ?_) rfl
      unfold cAdd mAdd
      by_cases c1 : x < 154
      · rw [ov_lo _ _ c1, sI_cell _ _ _ _ (by omega), sI_cell _ _ _ _ (by omega), sI_cell _ _ _ _ (by omega), sI_cell _ _ _ _ (by omega), sI_cell _ _ _ _ (by omega), ov_lo _ _ c1]
      · rw [ov_hi _ _ c1, sI_at, sI_at, sI_at, sI_at, sI_at, ov_hi _ _ c1]
        rw [sI_at, sI_at, sI_at, sI_at, sI_at, sI_cell _ _ _ _ (by omega), sI_cell _ _ _ _ (by omega), sI_cell _ _ _ _ (by omega), sI_cell _ _ _ _ (by omega), sI_cell _ _ _ _ (by omega), sI_cell _ _ _ _ (by omega)]
    rw [e1]
    exact hQ
theorem stp_keeps {z : Vv} (h : HO z) (a b : Int32) : HO (stp z a b) ∧ FX AH z (stp z a b) ∧ ((stp z a b).1 1 12 = 1 ∨ stp z a b = z) ∧ (stp z a b).1 74 3 = z.1 74 3 ∧ (stp z a b).1 74 4 = z.1 74 4 ∧ ∀ d, (stp z a b).1 162 d = z.1 162 d := by
  obtain ⟨n, m, h⟩ := h
  obtain ⟨⟨hn6, hm5⟩, ⟨hnA, hnB⟩, ⟨hmA, hmB⟩, hru, hcl, hdo⟩ := id h
  have hix : ix (z.1 74 2) = n := by rw [show z.1 74 2 = nI n from hnA, ix_nI (by omega)]
  by_cases c : okc a b ∧ ix (z.1 74 2) < 6
  · rw [stp_yes c, hix]
    rw [hix] at c
    obtain ⟨c, hlt⟩ := c
    unfold okc at c
    generalize hw : mAdd (cAdd z n a b) n a b = w
    have rd : ∀ x y, w.1 x y = if x = 154 ∧ y = 11 then nI (n + 1) else if x = 161 ∧ y = n then -1 else if x = 158 ∧ y = n then b else if x = 160 ∧ y = n then a % 10 else if x = 159 ∧ y = n then a / 10 else if x = 74 ∧ y = 2 then nI (n + 1) else if x = 1 ∧ y = 12 then 1 else if x = 77 + n ∧ y = 3 then -1 else if x = 77 + n ∧ y = 1 then b else if x = 77 + n ∧ y = 2 then a % 10 else if x = 77 + n ∧ y = 0 then a / 10 else z.1 x y := by
      intro x y
      rw [← hw]
      rfl
    refine ⟨⟨n + 1, m, ⟨by omega, hm5⟩, ⟨?_, ?_⟩, ⟨?_, ?_⟩, ?_, fun x hx => ?_, fun x hx => ?_⟩, ⟨fun i k hik => ?_, by rw [← hw]; rfl⟩, Or.inl ?_, ?_, ?_, fun d => ?_⟩
    · show w.1 74 2 = _
      rw [rd]
      repeat (first | rw [if_neg (by omega)] | rw [if_pos (by omega)])
    · show w.1 154 11 = _
      rw [rd]
      repeat (first | rw [if_neg (by omega)] | rw [if_pos (by omega)])
    · show w.1 74 3 = _
      rw [rd]
      repeat (first | rw [if_neg (by omega)] | rw [if_pos (by omega)])
      exact hmA
    · show w.1 154 15 = _
      rw [rd]
      repeat (first | rw [if_neg (by omega)] | rw [if_pos (by omega)])
      exact hmB
    · show w.1 154 4 = w.1 74 4 ∧ 0 ≤ (w.1 74 4).toInt ∧ (w.1 74 4).toInt ≤ 5
      rw [rd, rd]
      repeat (first | rw [if_neg (by omega)] | rw [if_pos (by omega)])
      exact hru
    · show (w.1 159 x = w.1 (77 + x) 0 ∧ w.1 158 x = w.1 (77 + x) 1 ∧ w.1 160 x = w.1 (77 + x) 2 ∧ w.1 161 x = w.1 (77 + x) 3) ∧ (0 ≤ (w.1 (77 + x) 0).toInt ∧ (w.1 (77 + x) 0).toInt ≤ 5) ∧ (-120 ≤ (w.1 (77 + x) 1).toInt ∧ (w.1 (77 + x) 1).toInt ≤ 120) ∧ (0 ≤ (w.1 (77 + x) 2).toInt ∧ (w.1 (77 + x) 2).toInt ≤ 1) ∧ (-1 ≤ (w.1 (77 + x) 3).toInt ∧ (w.1 (77 + x) 3).toInt ≤ 1439)
      by_cases e2 : x = n
      · subst e2
        rw [rd 159, rd 158, rd 160, rd 161, rd (77 + x) 0, rd (77 + x) 1, rd (77 + x) 2, rd (77 + x) 3]
        repeat (first | rw [if_neg (by omega)] | rw [if_pos (by omega)])
        refine ⟨⟨rfl, rfl, rfl, rfl⟩, ?_, ?_, ?_, by decide⟩
        · rw [div10 c.1.1]; omega
        · omega
        · rw [mod10 c.1.1]; omega
      · rw [rd 159, rd 158, rd 160, rd 161, rd (77 + x) 0, rd (77 + x) 1, rd (77 + x) 2, rd (77 + x) 3]
        repeat (first | rw [if_neg (by omega)] | rw [if_pos (by omega)])
        exact hcl x (by omega)
    · show (w.1 162 x = w.1 (83 + x) 0 ∧ w.1 163 x = w.1 (83 + x) 1 ∧ w.1 164 x = w.1 (83 + x) 2) ∧ (0 ≤ (w.1 (83 + x) 0).toInt ∧ (w.1 (83 + x) 0).toInt ≤ 5) ∧ (0 ≤ (w.1 (83 + x) 1).toInt ∧ (w.1 (83 + x) 1).toInt ≤ 9) ∧ (0 ≤ (w.1 (83 + x) 2).toInt ∧ (w.1 (83 + x) 2).toInt ≤ 63)
      rw [rd 162, rd 163, rd 164, rd (83 + x) 0, rd (83 + x) 1, rd (83 + x) 2]
      repeat (first | rw [if_neg (by omega)] | rw [if_pos (by omega)])
      exact hdo x hx
    · unfold AH at hik
      rw [rd]
      repeat (first | rw [if_neg (by omega)] | rw [if_pos (by omega)])
    · rw [rd]
      repeat (first | rw [if_neg (by omega)] | rw [if_pos (by omega)])
    · rw [rd]
      repeat (first | rw [if_neg (by omega)] | rw [if_pos (by omega)])
    · rw [rd]
      repeat (first | rw [if_neg (by omega)] | rw [if_pos (by omega)])
    · rw [rd]
      repeat (first | rw [if_neg (by omega)] | rw [if_pos (by omega)])
  · rw [stp_no c]
    exact ⟨⟨n, m, h⟩, FX.rf _ _, Or.inr rfl, rfl, rfl, fun _ => rfl⟩
/-- i pairs have come -/
noncomputable def crun (v : Vv) (pa pb : Nat → Int32) : Nat → Vv × Nat
  | 0 => (v, 0)
  | i + 1 => (stp (crun v pa pb i).1 (pa i) (pb i), (crun v pa pb i).2 + if (rsp (crun v pa pb i).1 (pa i) (pb i)).toInt < 0 then 0 else 1)
theorem crun_keeps {v : Vv} (h : HO v) (pa pb : Nat → Int32) : ∀ i, HO (crun v pa pb i).1 ∧ FX AH v (crun v pa pb i).1 ∧ ((crun v pa pb i).1.1 1 12 = 1 ∨ (crun v pa pb i).1 = v) ∧ (crun v pa pb i).1.1 74 3 = v.1 74 3 ∧ (crun v pa pb i).1.1 74 4 = v.1 74 4 ∧ (∀ d, (crun v pa pb i).1.1 162 d = v.1 162 d) ∧ (crun v pa pb i).2 ≤ i
  | 0 => ⟨h, FX.rf _ _, Or.inr rfl, rfl, rfl, fun _ => rfl, Nat.le_refl _⟩
  | i + 1 => by
    obtain ⟨a1, a2, a3, a4, a5, a6, a7⟩ := crun_keeps h pa pb i
    obtain ⟨b1, b2, b3, b4, b5, b6⟩ := stp_keeps a1 (pa i) (pb i)
    refine ⟨b1, a2.tr b2, ?_, b4.trans a4, b5.trans a5, fun d => (b6 d).trans (a6 d), ?_⟩
    · rcases b3 with b3 | b3
      · exact Or.inl b3
      · unfold crun
        rw [b3]
        exact a3
    · unfold crun
      dsimp only
      split <;> omega
theorem rsp_cnt (z : Vv) (a b : Int32) (c : Nat) : (if rsp z a b < 0 then nI c else nI (c + 1)) = nI (c + if (rsp z a b).toInt < 0 then 0 else 1) ∧ nI c + bI (if rsp z a b < 0 then false else true) = nI (c + if (rsp z a b).toInt < 0 then 0 else 1) := by
  simp only [Int32.lt_iff_toInt_lt, t_0]
  by_cases q : (rsp z a b).toInt < 0
  · rw [if_pos q, if_pos q, if_pos q]
    exact ⟨rfl, nI_add c 0⟩
  · rw [if_neg q, if_neg q, if_neg q]
    exact ⟨rfl, nI_add c 1⟩
theorem first_out (N : Nat) (p : Nat → Prop) : ∃ K, K ≤ N ∧ (∀ k, k < K → p k) ∧ (K = N ∨ ¬ p K) := by
  classical
  induction N with
  | zero => exact ⟨0, Nat.le_refl _, fun k h => absurd h (Nat.not_lt_zero _), Or.inl rfl⟩
  | succ N ih =>
    obtain ⟨K, h1, h2, h3⟩ := ih
    rcases h3 with rfl | h3
    · by_cases q : p K
      · refine ⟨K + 1, Nat.le_refl _, fun k hk => ?_, Or.inl rfl⟩
        by_cases e : k = K
        · rw [e]; exact q
        · exact h2 k (by omega)
      · exact ⟨K, by omega, h2, Or.inr q⟩
    · exact ⟨K, by omega, h2, Or.inr h3⟩
theorem P_clocks_loop {v : Vv} (h : HO v) {s N K : Nat} {c : Int32} (hs4 : s < 4) (hsh : isSheet (146 + 2 * s)) (hN : N < 7) (hz : 0 ≤ (v.1 (146 + 2 * s) 2).toInt ∧ (v.1 (146 + 2 * s) 2).toInt ≤ 40)
    (hK : K ≤ N) (hin : ∀ k, k < K → 0 ≤ c.toInt ∧ c.toInt + 2 * k + 2 ≤ (v.1 (146 + 2 * s) 2).toInt) (hout : K = N ∨ ¬ (0 ≤ c.toInt ∧ c.toInt + 2 * K + 2 ≤ (v.1 (146 + 2 * s) 2).toInt)) {pa pb : Nat → Int32} (hpa : ∀ k, k < K → pa k = v.1 (146 + 2 * s + 1) (ix c + 2 * k)) (hpb : ∀ k, k < K → pb k = v.1 (146 + 2 * s + 1) (ix c + 2 * k + 1)) {Q : Int32 → Vv → Prop}
    (hQ : Q (if K = N then nI (crun v pa pb K).2 else -12) (ov (crun v pa pb K).1 v)) : ∀ j i : Nat, i + j = K → k_P_clocks_67 c (nI N) (146 + 2 * s) (nI (crun v pa pb i).2) (nI i) (ov (crun v pa pb i).1 v) Q := by
  intro j
  induction j with
  | zero =>
    intro i e
    obtain rfl : i = K := e
    refine s_P_clocks_67 ?_
    have hit := nI_tI (n := i) (by omega)
    have hNt := nI_tI (n := N) (by omega)
    rcases hout with rfl | hout
    · rw [if_neg (nI_nlt (Nat.le_refl _) (by omega))]
      rw [if_pos rfl] at hQ
      exact hQ
    · by_cases e2 : i = N
      · rw [if_neg (by simp only [Int32.lt_iff_toInt_lt, i_eq, t_0, t_1, t_2, t_3, t_4, t_5, t_6, t_7, t_9, t_10, t_20, t_30, t_32, t_40, t_59, t_60, t_63, t_99, t_100, t_120, t_160, t_255, t_960, t_1439, t_1440, t_n1, t_n2, t_n3, t_n4, t_n11, t_n12, t_n13, t_n14, t_n120, t_n1000, t_n100000, t_n100, t_200]; omega)]
        rw [if_pos e2] at hQ
        exact hQ
      · rw [if_neg e2] at hQ
        rw [if_pos (by simp only [Int32.lt_iff_toInt_lt, i_eq, t_0, t_1, t_2, t_3, t_4, t_5, t_6, t_7, t_9, t_10, t_20, t_30, t_32, t_40, t_59, t_60, t_63, t_99, t_100, t_120, t_160, t_255, t_960, t_1439, t_1440, t_n1, t_n2, t_n3, t_n4, t_n11, t_n12, t_n13, t_n14, t_n120, t_n1000, t_n100000, t_n100, t_200]; omega)]
        obtain ⟨a1, a2, -⟩ := crun_keeps h pa pb i
        have esz : (ov (crun v pa pb i).1 v).1 (146 + 2 * s) 2 = v.1 (146 + 2 * s) 2 := by
          rw [ov_lo _ _ (by omega)]
          exact a2.1 _ _ (by unfold AH; omega)
        refine ⟨hsh, S_holds hsh (by rw [esz]; exact hz) ?_⟩
        have e3 : (2 : Int32) * nI i + 2 = nI (2 * i + 2) := by rw [show (2 : Int32) = nI 2 from rfl, nI_mul, nI_add]
        rw [esz, e3, nI_tI (by omega), decide_eq_false (by omega), if_neg (by decide)]
        exact hQ
  | succ j ih =>
    intro i e
    have hi := hin i (by omega)
    refine s_P_clocks_67 ?_
    have hit := nI_tI (n := i) (by omega)
    have hNt := nI_tI (n := N) (by omega)
    rw [if_pos (by simp only [Int32.lt_iff_toInt_lt, i_eq, t_0, t_1, t_2, t_3, t_4, t_5, t_6, t_7, t_9, t_10, t_20, t_30, t_32, t_40, t_59, t_60, t_63, t_99, t_100, t_120, t_160, t_255, t_960, t_1439, t_1440, t_n1, t_n2, t_n3, t_n4, t_n11, t_n12, t_n13, t_n14, t_n120, t_n1000, t_n100000, t_n100, t_200]; omega)]
    obtain ⟨a1, a2, -⟩ := crun_keeps h pa pb i
    have esz : (ov (crun v pa pb i).1 v).1 (146 + 2 * s) 2 = v.1 (146 + 2 * s) 2 := by
      rw [ov_lo _ _ (by omega)]
      exact a2.1 _ _ (by unfold AH; omega)
    have ecl : ∀ k, (ov (crun v pa pb i).1 v).1 (146 + 2 * s + 1) k = v.1 (146 + 2 * s + 1) k := fun k => by
      rw [ov_lo _ _ (by omega)]
      exact a2.1 _ _ (by unfold AH; omega)
    refine ⟨hsh, S_holds hsh (by rw [esz]; exact hz) ?_⟩
    have e3 : (2 : Int32) * nI i + 2 = nI (2 * i + 2) := by rw [show (2 : Int32) = nI 2 from rfl, nI_mul, nI_add]
    rw [esz, e3, nI_tI (by omega), decide_eq_true (by omega), if_pos rfl]
    have hf : ix c + 2 * i + 2 ≤ 40 := by unfold ix; omega
    have e4 : c + (2 : Int32) * nI i = nI (ix c + 2 * i) := by
      rw [show (2 : Int32) = nI 2 from rfl, nI_mul]
      conv => lhs; rw [← nI_ix hi.1]
      rw [nI_add]
    rw [e4, nI_1, ix_nI (by omega), ix_nI (by omega), nI_1]
    refine ⟨ib_nI (by omega) (by decide), ib_nI (by omega) (by decide), ?_⟩
    rw [ecl, ecl, ← hpa i (by omega), ← hpb i (by omega)]
    refine P_clock_ov a1 ?_
    rw [(rsp_cnt _ _ _ _).1, nI_1]
    exact ih (i + 1) (by omega)
theorem M_clocks_loop {v : Vv} (h : HO v) {s N K : Nat} {c : Int32} (hs4 : s < 4) (hN : N < 7) (hz : 0 ≤ (v.1 (146 + 2 * s) 2).toInt ∧ (v.1 (146 + 2 * s) 2).toInt ≤ 40) (hsz : v.1 175 s = v.1 (146 + 2 * s) 2) (hit5 : ∀ i : Nat, (i : Int) < (v.1 (146 + 2 * s) 2).toInt → v.1 176 (40 * s + i) = v.1 (146 + 2 * s + 1) i)
    (hK : K ≤ N) (hin : ∀ k, k < K → 0 ≤ c.toInt ∧ c.toInt + 2 * k + 2 ≤ (v.1 (146 + 2 * s) 2).toInt) (hout : K = N ∨ ¬ (0 ≤ c.toInt ∧ c.toInt + 2 * K + 2 ≤ (v.1 (146 + 2 * s) 2).toInt)) {pa pb : Nat → Int32} (hpa : ∀ k, k < K → pa k = v.1 (146 + 2 * s + 1) (ix c + 2 * k)) (hpb : ∀ k, k < K → pb k = v.1 (146 + 2 * s + 1) (ix c + 2 * k + 1)) {y : Vv} {Q : Int32 → Vv → Prop}
    (hQ : Q (if K = N then nI (crun v pa pb K).2 else -12) (ov y (crun v pa pb K).1)) : ∀ j i : Nat, i + j = K → k_M_clocks_75 (nI s) c (nI N) (nI (crun v pa pb i).2) (nI i) (ov y (crun v pa pb i).1) Q := by
  intro j
  have key : ∀ i : Nat, i ≤ K → ∀ x : Int32, x = v.1 175 s → (x - (2 : Int32) * nI i - 2).toInt = (v.1 (146 + 2 * s) 2).toInt - 2 * i - 2 := by
    intro i hi x hx
    have hit := nI_tI (n := 2 * i) (by omega)
    rw [hx, hsz, show (2 : Int32) * nI i = nI (2 * i) by rw [show (2 : Int32) = nI 2 from rfl, nI_mul], Int32.toInt_sub, Int32.toInt_sub, hit, t_2, Int.bmod_eq_of_le (n := (v.1 (146 + 2 * s) 2).toInt - ((2 * i : Nat) : Int)) (by omega) (by omega), Int.bmod_eq_of_le (by omega) (by omega)]
    omega
  induction j with
  | zero =>
    intro i e
    obtain rfl : i = K := e
    refine s_M_clocks_75 ?_
    have hit := nI_tI (n := i) (by omega)
    have hNt := nI_tI (n := N) (by omega)
    obtain ⟨a1, a2, -⟩ := crun_keeps h pa pb i
    have esz : (ov y (crun v pa pb i).1).1 175 s = v.1 175 s := by
      rw [ov_hi _ _ (by omega)]
      exact a2.1 _ _ (by unfold AH; omega)
    by_cases e2 : i = N
    · rw [if_neg (by simp only [Int32.lt_iff_toInt_lt, i_eq, t_0, t_1, t_2, t_3, t_4, t_5, t_6, t_7, t_9, t_10, t_20, t_30, t_32, t_40, t_59, t_60, t_63, t_99, t_100, t_120, t_160, t_255, t_960, t_1439, t_1440, t_n1, t_n2, t_n3, t_n4, t_n11, t_n12, t_n13, t_n14, t_n120, t_n1000, t_n100000, t_n100, t_200]; omega)]
      rw [if_pos e2] at hQ
      exact hQ
    · rw [if_neg e2] at hQ
      have hout := hout.resolve_left e2
      rw [if_pos (by simp only [Int32.lt_iff_toInt_lt, i_eq, t_0, t_1, t_2, t_3, t_4, t_5, t_6, t_7, t_9, t_10, t_20, t_30, t_32, t_40, t_59, t_60, t_63, t_99, t_100, t_120, t_160, t_255, t_960, t_1439, t_1440, t_n1, t_n2, t_n3, t_n4, t_n11, t_n12, t_n13, t_n14, t_n120, t_n1000, t_n100000, t_n100, t_200]; omega)]
      by_cases c1 : c.toInt < 0
      · rw [if_pos (by simp only [Int32.lt_iff_toInt_lt, i_eq, t_0, t_1, t_2, t_3, t_4, t_5, t_6, t_7, t_9, t_10, t_20, t_30, t_32, t_40, t_59, t_60, t_63, t_99, t_100, t_120, t_160, t_255, t_960, t_1439, t_1440, t_n1, t_n2, t_n3, t_n4, t_n11, t_n12, t_n13, t_n14, t_n120, t_n1000, t_n100000, t_n100, t_200]; omega)]
        exact hQ
      · rw [if_neg (by simp only [Int32.lt_iff_toInt_lt, i_eq, t_0, t_1, t_2, t_3, t_4, t_5, t_6, t_7, t_9, t_10, t_20, t_30, t_32, t_40, t_59, t_60, t_63, t_99, t_100, t_120, t_160, t_255, t_960, t_1439, t_1440, t_n1, t_n2, t_n3, t_n4, t_n11, t_n12, t_n13, t_n14, t_n120, t_n1000, t_n100000, t_n100, t_200]; omega)]
        refine ⟨ib_nI hs4 (by decide), ?_⟩
        rw [ix_nI (by omega), if_pos (by rw [Int32.lt_iff_toInt_lt, key i (Nat.le_refl _) _ esz]; omega)]
        exact hQ
  | succ j ih =>
    intro i e
    have hi := hin i (by omega)
    refine s_M_clocks_75 ?_
    have hit := nI_tI (n := i) (by omega)
    have hNt := nI_tI (n := N) (by omega)
    obtain ⟨a1, a2, -⟩ := crun_keeps h pa pb i
    have esz : (ov y (crun v pa pb i).1).1 175 s = v.1 175 s := by
      rw [ov_hi _ _ (by omega)]
      exact a2.1 _ _ (by unfold AH; omega)
    have eit : ∀ k, (ov y (crun v pa pb i).1).1 176 k = v.1 176 k := fun k => by
      rw [ov_hi _ _ (by omega)]
      exact a2.1 _ _ (by unfold AH; omega)
    rw [if_pos (by simp only [Int32.lt_iff_toInt_lt, i_eq, t_0, t_1, t_2, t_3, t_4, t_5, t_6, t_7, t_9, t_10, t_20, t_30, t_32, t_40, t_59, t_60, t_63, t_99, t_100, t_120, t_160, t_255, t_960, t_1439, t_1440, t_n1, t_n2, t_n3, t_n4, t_n11, t_n12, t_n13, t_n14, t_n120, t_n1000, t_n100000, t_n100, t_200]; omega), if_neg (by simp only [Int32.lt_iff_toInt_lt, i_eq, t_0, t_1, t_2, t_3, t_4, t_5, t_6, t_7, t_9, t_10, t_20, t_30, t_32, t_40, t_59, t_60, t_63, t_99, t_100, t_120, t_160, t_255, t_960, t_1439, t_1440, t_n1, t_n2, t_n3, t_n4, t_n11, t_n12, t_n13, t_n14, t_n120, t_n1000, t_n100000, t_n100, t_200]; omega)]
    refine ⟨ib_nI hs4 (by decide), ?_⟩
    have hf : (ix c : Int) = c.toInt := by unfold ix; omega
    have e4 : (40 : Int32) * nI s + c + (2 : Int32) * nI i = nI (40 * s + ix c + 2 * i) := by
      rw [show (2 : Int32) = nI 2 from rfl, nI_mul, show (40 : Int32) = nI 40 from rfl, nI_mul]
      conv => lhs; rw [← nI_ix hi.1]
      rw [nI_add, nI_add]
    rw [ix_nI (show s < 2 ^ 31 by omega), if_neg (by rw [Int32.lt_iff_toInt_lt, key i (by omega) _ esz]; omega)]
    rw [e4, nI_1, ix_nI (by omega), ix_nI (by omega), nI_1]
    refine ⟨ib_nI (by omega) (by decide), ib_nI (by omega) (by decide), ?_⟩
    rw [eit, eit, show 40 * s + ix c + 2 * i = 40 * s + (ix c + 2 * i) by omega, show 40 * s + (ix c + 2 * i) + 1 = 40 * s + (ix c + 2 * i + 1) by omega, hit5 _ (by omega), hit5 _ (by omega), ← hpa i (by omega), ← hpb i (by omega)]
    refine M_clock_ov a1 ?_
    rw [(rsp_cnt _ _ _ _).2]
    exact ih (i + 1) (by omega)
theorem clocks_step {a b c d : Int32} {v : Vv} (h : HO v) (hs : RS v) {Q : Int32 → Int32 → Vv → Prop} (h0 : ∀ r, Q r r v) (hQ : ∀ r w, HO w → FX AH v w → (w.1 1 12 = 1 ∨ w = v) → w.1 74 3 = v.1 74 3 → w.1 74 4 = v.1 74 4 → (∀ d, w.1 162 d = v.1 162 d) → Q r r w) : m_P_clocks a b c d v (fun r v1 => m_M_clocks a b c d v1 (fun r' v2 => Q r r' v2)) := by
  have hM0 : ∀ {w : Vv} {Q : Int32 → Vv → Prop}, (if 0 ≤ a.toInt ∧ a.toInt < 4 then (if 0 ≤ b.toInt ∧ b.toInt ≤ 2 then (if 0 ≤ d.toInt ∧ d.toInt ≤ 6 then (ib a 4 ∧ (if w.1 173 (ix a) = 0 then k_M_clocks_57 a c d w Q else if w.1 174 (ix a) = b then k_M_clocks_57 a c d w Q else Q (-13) w)) else Q (-2) w) else Q (-2) w) else Q (-2) w) → m_M_clocks a b c d w Q := by
    intro w Q hh
    refine s_M_clocks (M_isSheet ?_)
    by_cases c1 : 0 ≤ a.toInt ∧ a.toInt < 4
    · rw [if_pos c1] at hh
      rw [decide_eq_true c1, if_pos rfl]
      refine M_in ?_
      rw [Int32.toInt_toInt64, l_0, l_2]
      by_cases c2 : 0 ≤ b.toInt ∧ b.toInt ≤ 2
      · rw [if_pos c2] at hh
        rw [decide_eq_true c2, if_pos rfl]
        refine M_in ?_
        rw [Int32.toInt_toInt64, l_0, l_6]
        by_cases c3 : 0 ≤ d.toInt ∧ d.toInt ≤ 6
        · rw [if_pos c3] at hh
          rw [decide_eq_true c3, if_pos rfl]
          exact hh
        · rw [if_neg c3] at hh
          rw [decide_eq_false c3, if_neg (by decide)]
          exact hh
      · rw [if_neg c2] at hh
        rw [decide_eq_false c2, if_neg (by decide)]
        exact hh
    · rw [if_neg c1] at hh
      rw [decide_eq_false c1, if_neg (by decide)]
      exact hh
  refine s_P_clocks (P_isSheet ?_)
  by_cases c1 : 0 ≤ a.toInt ∧ a.toInt < 4
  · rw [decide_eq_true c1, if_pos rfl]
    refine P_isSort ?_
    by_cases c2 : 0 ≤ b.toInt ∧ b.toInt ≤ 2
    · rw [decide_eq_true c2, if_pos rfl]
      by_cases c3 : 0 ≤ d.toInt ∧ d.toInt ≤ 6
      · rw [if_neg (by simp only [Int32.lt_iff_toInt_lt, i_eq, t_0, t_1, t_2, t_3, t_4, t_5, t_6, t_7, t_9, t_10, t_20, t_30, t_32, t_40, t_59, t_60, t_63, t_99, t_100, t_120, t_160, t_255, t_960, t_1439, t_1440, t_n1, t_n2, t_n3, t_n4, t_n11, t_n12, t_n13, t_n14, t_n120, t_n1000, t_n100000, t_n100, t_200]; omega), if_neg (by simp only [Int32.lt_iff_toInt_lt, i_eq, t_0, t_1, t_2, t_3, t_4, t_5, t_6, t_7, t_9, t_10, t_20, t_30, t_32, t_40, t_59, t_60, t_63, t_99, t_100, t_120, t_160, t_255, t_960, t_1439, t_1440, t_n1, t_n2, t_n3, t_n4, t_n11, t_n12, t_n13, t_n14, t_n120, t_n1000, t_n100000, t_n100, t_200]; omega)]
        obtain ⟨s, hs4, rfl⟩ := nI_of3 (n := 4) c1.1 c1.2
        have hsh : isSheet (146 + 2 * s) := by
          have := isSheet_of (x := nI s) c1
          rwa [ix_nI (by omega)] at this
        rw [ix_nI (by omega)]
        refine ⟨ib_nI hs4 (by decide), ?_⟩
        have hM : ∀ {w : Vv} {Q : Int32 → Vv → Prop}, (if w.1 173 s = 0 then k_M_clocks_57 (nI s) c d w Q else if w.1 174 s = b then k_M_clocks_57 (nI s) c d w Q else Q (-13) w) → m_M_clocks (nI s) b c d w Q := by
          intro w Q hh
          refine hM0 ?_
          rw [if_pos c1, if_pos c2, if_pos c3, ix_nI (by omega)]
          exact ⟨ib_nI hs4 (by decide), hh⟩
        obtain ⟨h1, hz⟩ := hs s hs4
        rcases h1 with ⟨g1, g2⟩ | ⟨g1, g2, g3, g4, g5⟩
        · rw [if_pos g2]
          refine hM ?_
          rw [if_pos g1]
          refine s_M_clocks_57 ⟨ib_nI hs4 (by decide), ?_⟩
          rw [ix_nI (by omega), if_pos g1]
          exact h0 _
        · rw [if_neg (fun z => by rw [z] at g2; exact absurd g2.1 (by decide))]
          by_cases c4 : v.1 (146 + 2 * s) 1 = b
          · rw [if_pos c4]
            obtain ⟨N, hN, rfl⟩ := nI_of3 (x := d) (n := 7) c3.1 (by omega)
            have hNt := nI_tI (n := N) (by omega)
            obtain ⟨K, hK, hin, hout⟩ := first_out N (fun k => 0 ≤ c.toInt ∧ c.toInt + 2 * k + 2 ≤ (v.1 (146 + 2 * s) 2).toInt)
            have hP := P_clocks_loop (v := v) h hs4 hsh hN hz hK hin hout (pa := fun k => v.1 (146 + 2 * s + 1) (ix c + 2 * k)) (pb := fun k => v.1 (146 + 2 * s + 1) (ix c + 2 * k + 1)) (fun _ _ => rfl) (fun _ _ => rfl) (Q := fun r v1 => m_M_clocks (nI s) b c (nI N) v1 (fun r' v2 => Q r r' v2)) ?_ K 0 (by omega)
            · have e0 : ov (crun v (fun k => v.1 (146 + 2 * s + 1) (ix c + 2 * k)) (fun k => v.1 (146 + 2 * s + 1) (ix c + 2 * k + 1)) 0).1 v = v := ov_self v
              rw [e0] at hP
              exact hP
            · refine hM ?_
              rw [ov_hi _ _ (by omega), ov_hi _ _ (by omega), g1, if_neg (by decide), g3, if_pos c4]
              refine s_M_clocks_57 ⟨ib_nI hs4 (by decide), ?_⟩
              rw [ix_nI (by omega), ov_hi _ _ (by omega), g1, if_neg (by decide)]
              refine M_clocks_loop (v := v) h hs4 hN hz g4 g5 hK hin hout (pa := fun k => v.1 (146 + 2 * s + 1) (ix c + 2 * k)) (pb := fun k => v.1 (146 + 2 * s + 1) (ix c + 2 * k + 1)) (fun _ _ => rfl) (fun _ _ => rfl) ?_ K 0 (by omega)
              rw [ov_self]
              obtain ⟨b1, b2, b3, b4, b5, b6, -⟩ := crun_keeps h (fun k => v.1 (146 + 2 * s + 1) (ix c + 2 * k)) (fun k => v.1 (146 + 2 * s + 1) (ix c + 2 * k + 1)) K
              exact hQ _ _ b1 b2 b3 b4 b5 b6
          · rw [if_neg c4]
            refine hM ?_
            rw [if_neg (by rw [g1]; decide), if_neg (by rw [g3]; exact c4)]
            exact h0 _
      · by_cases c5 : d.toInt < 0
        · rw [if_pos (by simp only [Int32.lt_iff_toInt_lt, i_eq, t_0, t_1, t_2, t_3, t_4, t_5, t_6, t_7, t_9, t_10, t_20, t_30, t_32, t_40, t_59, t_60, t_63, t_99, t_100, t_120, t_160, t_255, t_960, t_1439, t_1440, t_n1, t_n2, t_n3, t_n4, t_n11, t_n12, t_n13, t_n14, t_n120, t_n1000, t_n100000, t_n100, t_200]; omega)]
          refine hM0 ?_
          rw [if_pos c1, if_pos c2, if_neg c3]
          exact h0 _
        · rw [if_neg (by simp only [Int32.lt_iff_toInt_lt, i_eq, t_0, t_1, t_2, t_3, t_4, t_5, t_6, t_7, t_9, t_10, t_20, t_30, t_32, t_40, t_59, t_60, t_63, t_99, t_100, t_120, t_160, t_255, t_960, t_1439, t_1440, t_n1, t_n2, t_n3, t_n4, t_n11, t_n12, t_n13, t_n14, t_n120, t_n1000, t_n100000, t_n100, t_200]; omega), if_pos (by simp only [Int32.lt_iff_toInt_lt, i_eq, t_0, t_1, t_2, t_3, t_4, t_5, t_6, t_7, t_9, t_10, t_20, t_30, t_32, t_40, t_59, t_60, t_63, t_99, t_100, t_120, t_160, t_255, t_960, t_1439, t_1440, t_n1, t_n2, t_n3, t_n4, t_n11, t_n12, t_n13, t_n14, t_n120, t_n1000, t_n100000, t_n100, t_200]; omega)]
          refine hM0 ?_
          rw [if_pos c1, if_pos c2, if_neg c3]
          exact h0 _
    · rw [decide_eq_false c2, if_neg (by decide)]
      refine hM0 ?_
      rw [if_pos c1, if_neg c2]
      exact h0 _
  · rw [decide_eq_false c1, if_neg (by decide)]
    refine hM0 ?_
    rw [if_neg c1]
    exact h0 _
