-- odds, ask, say, late
def RDY (A : Cf) (F : Rl) (n m : Nat) (v : Vv) : Prop := OK A n m ∧ CA A n m v ∧ MA A n m v ∧ CTR F v ∧ MT F v ∧ FRESH A F n m v
theorem RDY.on {A : Cf} {F : Rl} {n m : Nat} {u w : Vv} (h : RDY A F n m u) (k : KW u w) (k2 : ∀ i k, (158 ≤ i ∧ i ≤ 164 ∨ i = 154 ∧ (k = 11 ∨ k = 15 ∨ k = 4) ∨ TXs i) → w.1 i k = u.1 i k) : RDY A F n m w := by
  obtain ⟨a, b, c, d, e, f⟩ := h
  refine ⟨a, b.kw a k, c.at fun i y q => k2 i y (by omega), d.kw k, e.at (fun i y q => k2 i y (Or.inr (Or.inr q))) (k2 _ _ (by omega)), f.on a.2.1 k⟩
theorem worked_R {v : Vv} (h : INW v) {Q : Nat → Vv → Prop} (hQ : ∀ A F n m u, FK v u → RDY A F n m u → CACHE u → v.1 74 2 = nI n → v.1 74 3 = nI m → Q 1 u) : m_P_worked v Q := by
  obtain ⟨ho, tr, ru, ca⟩ := h
  refine P_worked ho tr ru ca fun A F n m u f hA hC hM hR hT hF h12 => hQ A F n m u f ⟨hA, hC, hM, hR, hT, hF⟩ (CACHE.mk hA hC hR hF) ?_ ?_
  · rw [← hC.1]
    exact (f.1 _ _ fun z => by
      unfold AWK at z
      rcases z with z | z
      · have := AZ_w z; omega
      · omega).symm
  · rw [← hC.2.1]
    exact (f.1 _ _ fun z => by
      unfold AWK at z
      rcases z with z | z
      · have := AZ_w z; omega
      · omega).symm
theorem gathers_R {A : Cf} {F : Rl} {n m : Nat} {v u : Vv} (f : FQ v u) (h : RDY A F n m u) {R : Vv → Prop} (hQ : ∀ w, F2 AG LG u w → (∀ x, x < 2 ^ m → MROW A F n m x w) → w.2.1 154 37 = allc A F n m (2 ^ m) → CACHE w → FQ v w → RDY A F n m w → R w) : m_M_gathers u R := by
  obtain ⟨hA, hC, hM, hR, hT, hF⟩ := id h
  refine M_gathers hA hM hT fun w f' hr ha => hQ w f' hr ha ((CACHE.mk hA hC hR hF).kw f'.kw) (f.tr f'.q) (h.on f'.kw fun i k q => f'.1 i k (by unfold TXs at q; unfold AG; omega))
theorem M_worldsN {m : Nat} {v : Vv} (h5 : m ≤ 5) (hM : v.1 154 15 = nI m) {Q : Int32 → Vv → Prop} (h : Q (nI (2 ^ m)) v) : m_M_worlds v Q := by
  refine s_M_worlds ?_
  rw [hM, shl1 m (by omega)]
  exact h
theorem nm_eq {n n' : Nat} (h6 : n ≤ 32) (h6' : n' ≤ 32) (h : nI n = nI n') : n = n' := by
  rw [i_eq, nI_tI (by omega), nI_tI (by omega)] at h
  omega
theorem add_fit (b : Bool) (q : Prop) [Decidable q] (s x : Nat) : (if (if b = true then (1 : Int32) else 0) = 0 then nL s else if q then nL s + nL x else nL s) = nL (s + if b = true ∧ q then x else 0) := by
  cases b
  · rw [if_neg (show ¬ (false = true) by decide), if_pos rfl, if_neg (fun z => absurd z.1 (by decide)), Nat.add_zero]
  · rw [if_pos (rfl : true = true), if_neg (show ¬ (1 : Int32) = 0 by decide)]
    by_cases hq : q
    · rw [if_pos hq, if_pos ⟨rfl, hq⟩, nL_add]
    · rw [if_neg hq, if_neg (fun z => hq z.2), Nat.add_zero]
theorem add_fitM (b : Bool) (q : Prop) [Decidable q] (s x : Nat) : nL s + (if (if b = true then (1 : Int32) else 0) = 1 then (if q then nL x else 0) else 0) = nL (s + if b = true ∧ q then x else 0) := by
  cases b
  · rw [if_neg (show ¬ (false = true) by decide), if_neg (show ¬ (0 : Int32) = 1 by decide), if_neg (fun z => absurd z.1 (by decide)), Nat.add_zero, Int64.add_zero]
  · rw [if_pos (rfl : true = true), if_pos rfl]
    by_cases hq : q
    · rw [if_pos hq, if_pos ⟨rfl, hq⟩, nL_add]
    · rw [if_neg hq, if_neg (fun z => hq z.2), Nat.add_zero, Int64.add_zero]
theorem nL_pos {x : Nat} (h : x < 2 ^ 63) : (0 : Int64) < nL x ↔ 0 < x := by
  rw [show (0 : Int64) = nL 0 from rfl, nL_lt (by decide) h]
theorem max_two (a b : Int64) : (if b < a then a else b) = (if a < b then b else a) := by
  simp only [Int64.lt_iff_toInt_lt, l_eq]
  by_cases h1 : b.toInt < a.toInt <;> by_cases h2 : a.toInt < b.toInt <;> simp [h1, h2] <;> omega
section Q1
variable (A : Cf) (F : Rl) (n m : Nat)
noncomputable def oddN (c w : Nat) : Nat := if fit A F n m w = true ∧ ((rgt A F n m w n >>> (nI c &&& 31)) &&& 1) = 1 then chN A F w m else 0
noncomputable def askN (d w : Nat) : Nat := if fit A F n m w = true ∧ ((nI w >>> (nI d &&& 31)) &&& 1) = 1 then chN A F w m else 0
noncomputable def askC (d : Nat) : Int64 := nL (sumN (askN A F n m d) (2 ^ m))
noncomputable def askG (d : Nat) : Int64 := if askC A F n m d < allc A F n m (2 ^ m) - askC A F n m d then allc A F n m (2 ^ m) - askC A F n m d else askC A F n m d
noncomputable def askS : Nat → Int32 × Int64
  | 0 => (-1, 0)
  | d + 1 => (if (askS d).1 = -1 then nI d else if askG A F n m d < (askS d).2 then nI d else (askS d).1, if (askS d).1 = -1 then askG A F n m d else if askG A F n m d < (askS d).2 then askG A F n m d else (askS d).2)
noncomputable def sayS : Nat → Nat
  | 0 => 0
  | w + 1 => if (0 : Int32) < bitI (rgt A F n m w n) - bitI (rgt A F n m (sayS w) n) then w else if bitI (rgt A F n m w n) - bitI (rgt A F n m (sayS w) n) = 0 then (if bitI (nI w) < bitI (nI (sayS w)) then w else sayS w) else sayS w
noncomputable def farV (c w : Nat) : Int32 := if wat A F n m w c - 60 < 0 then -(wat A F n m w c - 60) else wat A F n m w c - 60
noncomputable def latS (c : Nat) : Nat → Int32
  | 0 => -1
  | w + 1 => if fit A F n m w = true then (if 0 < chN A F w m then (if latS c w < farV A F n m c w then farV A F n m c w else latS c w) else latS c w) else latS c w
end Q1
section Q2
variable {A : Cf} {F : Rl} {n m : Nat}
theorem chN_63 (hA : OK A n m) (w : Nat) : chN A F w m < 2 ^ 63 := by have := chN_small (F := F) hA w; omega
theorem ROW_69 {w : Nat} {v : Vv} (h : ROW A F n m w v) : v.1 69 w = (if fit A F n m w = true then 1 else 0) := h.2.2.2.1
theorem C_odds (hA : OK A n m) {v : Vv} (hF : FRESH A F n m v) {c : Nat} {Q : Int64 → Vv → Prop} (hQ : Q (nL (sumN (oddN A F n m c) (2 ^ m))) v) : m_K_chanceRight (nI c) v Q := by
  have h2m := two m hA.2.1
  have key : ∀ j w : Nat, w + j = 2 ^ m → k_K_chanceRight_5 (nI c) (nL (sumN (oddN A F n m c) w)) (nI w) v Q := by
    intro j
    induction j with
    | zero =>
      intro w e
      obtain rfl : w = 2 ^ m := e
      refine s_K_chanceRight_5 ?_
      rw [hF.1, if_neg (nI_nlt (Nat.le_refl _) (by omega))]
      exact hQ
    | succ j ih =>
      intro w e
      have hw : w < 2 ^ m := by omega
      obtain ⟨r1, r2, r3, r4, r5⟩ := hF.2.2.2 w hw
      refine s_K_chanceRight_5 ?_
      rw [hF.1, if_pos (nI_lt hw (by omega)), ix_nI (by omega), r2, r3, r4, nI_1, chc_N, add_fit]
      exact ⟨ib_nI (by omega) (by decide), ih (w + 1) (by omega)⟩
  exact s_K_chanceRight (key (2 ^ m) 0 (by omega))
theorem M_odds_loop (hA : OK A n m) {v : Vv} (hM : MA A n m v) (hR : ∀ x, x < 2 ^ m → MROW A F n m x v) {c : Nat} {p : Int32} {Q : Int64 → Vv → Prop} (hQ : m_M_lowest (nL (sumN (oddN A F n m c) (2 ^ m))) (v.2.1 154 37) p v (fun x v => Q x v)) : k_M_odds_44 (nI c) p 0 0 v Q := by
  have h2m := two m hA.2.1
  have key : ∀ j w : Nat, w + j = 2 ^ m → k_M_odds_44 (nI c) p (nL (sumN (oddN A F n m c) w)) (nI w) v Q := by
    intro j
    induction j with
    | zero =>
      intro w e
      obtain rfl : w = 2 ^ m := e
      refine s_M_odds_44 (M_worldsN hA.2.1 hM.2.1 ?_)
      rw [if_neg (nI_nlt (Nat.le_refl _) (by omega))]
      exact hQ
    | succ j ih =>
      intro w e
      have hw : w < 2 ^ m := by omega
      obtain ⟨r1, r2, r3, r4, r5⟩ := hR w hw
      refine s_M_odds_44 (M_worldsN hA.2.1 hM.2.1 ?_)
      rw [if_pos (nI_lt hw (by omega)), ix_nI (by omega), r2, r3, r4, nI_1, chc_N, add_fitM]
      exact ⟨ib_nI (by omega) (by decide), ih (w + 1) (by omega)⟩
  exact key (2 ^ m) 0 (by omega)
theorem oddN_le (hA : OK A n m) (c : Nat) : sumN (oddN A F n m c) (2 ^ m) < 2 ^ 63 := by
  have h2m := two m hA.2.1
  have h1 : ∀ w, oddN A F n m c w ≤ 10000000000 := fun w => by
    have := chN_small (F := F) hA w
    unfold oddN
    split <;> omega
  have h2 := sumN_le h1 (2 ^ m)
  have h3 : 10000000000 * 2 ^ m ≤ 10000000000 * 32 := Nat.mul_le_mul_left _ h2m
  omega
theorem odds_step {a b : Int32} {v : Vv} (h : INW v) {Q : Int64 → Int64 → Vv → Prop} (hQ : ∀ r w, FQ v w → CACHE w → Q r r w) : m_P_odds a b v (fun r v1 => m_M_odds a b v1 (fun r' v2 => Q r r' v2)) := by
  obtain ⟨n, m, h6, h5, n1, n2, m1, m2⟩ := HO_nm h.1
  have h0 : ∀ r, Q r r v := fun r => hQ r v (FQ.rf v) h.2.2.2
  refine s_P_odds (P_isClockN n1 h6 ?_)
  by_cases c1 : 0 ≤ a.toInt ∧ a.toInt < n
  · rw [decide_eq_true c1, if_pos rfl]
    obtain ⟨c, hc, rfl⟩ := nI_of3 (x := a) (n := n) c1.1 c1.2
    refine P_isPart ?_
    by_cases c2 : b = 0 ∨ b = 1
    · rw [decide_eq_true c2, if_pos rfl]
      refine worked_R h fun A F n' m' u f hr hcc e1 e2 => ⟨rfl, ?_⟩
      obtain rfl := nm_eq (by have := hr.1.1; omega) (by omega) (e1.symm.trans n1)
      obtain ⟨hA, hC, hMA, hR, hMT, hF⟩ := id hr
      refine C_odds hA hF ?_
      rw [hF.2.1, allc_N]
      refine P_lowest (oddN_le hA c) (by have := all_small (F := F) hA (2 ^ m') (two m' hA.2.1); omega) ?_
      refine s_M_odds (M_isClockN hMA.1 h6 ?_)
      rw [decide_eq_true c1, if_pos rfl]
      refine M_in ?_
      rw [Int32.toInt_toInt64, l_0, l_1, decide_eq_true (by simp only [i_eq, t_0, t_1] at c2; omega), if_pos rfl]
      refine gathers_R f.q hr fun w f' hrow ha hc' hq hr' => ?_
      rw [ha, allc_N]
      have hal := all_small (F := F) hA (2 ^ m') (two m' hA.2.1)
      by_cases z : sumN (fitN A F n' m') (2 ^ m') = 0
      · rw [if_pos z, if_pos ((nL_z (by omega)).mpr z)]
        exact hQ _ w hq hc'
      · rw [if_neg z, if_neg (fun q => z ((nL_z (by omega)).mp q))]
        refine M_odds_loop hA hr'.2.2.1 hrow ?_
        rw [ha, allc_N]
        exact M_lowest (oddN_le hA c) (by omega) z (hQ _ w hq hc')
    · rw [decide_eq_false c2, if_neg (by decide)]
      refine s_M_odds (M_isClockN n2 h6 ?_)
      rw [decide_eq_true c1, if_pos rfl]
      refine M_in ?_
      rw [Int32.toInt_toInt64, l_0, l_1, decide_eq_false (by simp only [i_eq, t_0, t_1] at c2; omega), if_neg (by decide)]
      exact h0 _
  · rw [decide_eq_false c1, if_neg (by decide)]
    refine s_M_odds (M_isClockN n2 h6 ?_)
    rw [decide_eq_false c1, if_neg (by decide)]
    exact h0 _
-- ask
theorem C_ask (hA : OK A n m) {v : Vv} (hC : CA A n m v) (hF : FRESH A F n m v) {Q : Int32 → Vv → Prop} (hQ : Q (askS A F n m m).1 v) : m_K_whomToAsk v Q := by
  have h5 := hA.2.1
  have h2m := two m h5
  have inner : ∀ d, d < m → ∀ {l2 : Int32} {l3 : Int64}, (m_JM_max_JJJ (askC A F n m d) (v.2.1 1 11 - askC A F n m d) v (fun x6 v7 => k_K_whomToAsk_7 (if l2 = (-1 : Int32) then nI d else (if x6 < l3 then nI d else l2)) (if l2 = (-1 : Int32) then x6 else (if x6 < l3 then x6 else l3)) (nI d + 1) v7 Q)) → ∀ j w : Nat, w + j = 2 ^ m → k_K_whomToAsk_25 l2 l3 (nI d) (nL (sumN (askN A F n m d) w)) (nI w) v Q := by
    intro d hd l2 l3 hh j
    induction j with
    | zero =>
      intro w e
      obtain rfl : w = 2 ^ m := e
      refine s_K_whomToAsk_25 ?_
      rw [hF.1, if_neg (nI_nlt (Nat.le_refl _) (by omega))]
      exact hh
    | succ j ih =>
      intro w e
      have hw : w < 2 ^ m := by omega
      obtain ⟨r1, r2, r3, r4, r5⟩ := hF.2.2.2 w hw
      refine s_K_whomToAsk_25 ?_
      rw [hF.1, if_pos (nI_lt hw (by omega)), ix_nI (by omega), r3, r4, nI_1, chc_N, add_fit]
      exact ⟨ib_nI (by omega) (by decide), ih (w + 1) (by omega)⟩
  have key : ∀ j d : Nat, d + j = m → k_K_whomToAsk_7 (askS A F n m d).1 (askS A F n m d).2 (nI d) v Q := by
    intro j
    induction j with
    | zero =>
      intro d e
      obtain rfl : d = m := e
      refine s_K_whomToAsk_7 ?_
      rw [hC.2.1, if_neg (nI_nlt (Nat.le_refl _) (by omega))]
      exact hQ
    | succ j ih =>
      intro d e
      refine s_K_whomToAsk_7 ?_
      rw [hC.2.1, if_pos (nI_lt (by omega) (by omega))]
      refine inner d (by omega) (s_JM_max_JJJ ?_) (2 ^ m) 0 (by omega)
      have ih := ih (d + 1) (by omega)
      unfold askS at ih
      unfold askG at ih
      rw [hF.2.1, nI_1]
      by_cases z : askC A F n m d < allc A F n m (2 ^ m) - askC A F n m d
      · rw [if_pos z] at ih ⊢
        exact ih
      · rw [if_neg z] at ih ⊢
        exact ih
  exact s_K_whomToAsk (key m 0 (by omega))
theorem M_ask_loop (hA : OK A n m) {v : Vv} (hM : MA A n m v) (hR : ∀ x, x < 2 ^ m → MROW A F n m x v) (ha : v.2.1 154 37 = allc A F n m (2 ^ m)) {Q : Int32 → Vv → Prop} (hQ : Q (askS A F n m m).1 v) : k_M_ask_11 (-1) 0 0 v Q := by
  have h5 := hA.2.1
  have h2m := two m h5
  have inner : ∀ d, d < m → ∀ {l2 : Int32} {l3 : Int64}, k_M_ask_104 l2 l3 (nI d) (askG A F n m d) v Q → ∀ j w : Nat, w + j = 2 ^ m → k_M_ask_26 l2 l3 (nI d) (nL (sumN (askN A F n m d) w)) (nI w) v Q := by
    intro d hd l2 l3 hh j
    induction j with
    | zero =>
      intro w e
      obtain rfl : w = 2 ^ m := e
      refine s_M_ask_26 (M_worldsN h5 hM.2.1 ?_)
      rw [if_neg (nI_nlt (Nat.le_refl _) (by omega)), ha]
      unfold askG at hh
      rw [← max_two] at hh
      show if allc A F n m (2 ^ m) - askC A F n m d < askC A F n m d then k_M_ask_104 l2 l3 (nI d) (askC A F n m d) v Q else k_M_ask_104 l2 l3 (nI d) (allc A F n m (2 ^ m) - askC A F n m d) v Q
      by_cases z : allc A F n m (2 ^ m) - askC A F n m d < askC A F n m d
      · rw [if_pos z] at hh ⊢
        exact hh
      · rw [if_neg z] at hh ⊢
        exact hh
    | succ j ih =>
      intro w e
      have hw : w < 2 ^ m := by omega
      obtain ⟨r1, r2, r3, r4, r5⟩ := hR w hw
      refine s_M_ask_26 (M_worldsN h5 hM.2.1 ?_)
      rw [if_pos (nI_lt hw (by omega)), ix_nI (by omega), r3, r4, nI_1, chc_N, add_fitM]
      exact ⟨ib_nI (by omega) (by decide), ih (w + 1) (by omega)⟩
  have key : ∀ j d : Nat, d + j = m → k_M_ask_11 (askS A F n m d).1 (askS A F n m d).2 (nI d) v Q := by
    intro j
    induction j with
    | zero =>
      intro d e
      obtain rfl : d = m := e
      refine s_M_ask_11 ?_
      rw [hM.2.1, if_neg (nI_nlt (Nat.le_refl _) (by omega))]
      exact hQ
    | succ j ih =>
      intro d e
      refine s_M_ask_11 ?_
      rw [hM.2.1, if_pos (nI_lt (by omega) (by omega))]
      refine inner d (by omega) (s_M_ask_104 ?_) (2 ^ m) 0 (by omega)
      rw [nI_1]
      exact ih (d + 1) (by omega)
  exact key m 0 (by omega)
theorem ask_step {v : Vv} (h : INW v) {Q : Int32 → Int32 → Vv → Prop} (hQ : ∀ r w, FQ v w → CACHE w → Q r r w) : m_P_ask v (fun r v1 => m_M_ask v1 (fun r' v2 => Q r r' v2)) := by
  refine s_P_ask (worked_R h fun A F n m u f hr hcc e1 e2 => ⟨rfl, ?_⟩)
  obtain ⟨hA, hC, hMA, hR, hMT, hF⟩ := id hr
  refine C_ask hA hC hF (s_M_ask (gathers_R f.q hr fun w f' hrow ha hc' hq hr' => ?_))
  exact M_ask_loop hA hr'.2.2.1 hrow ha (hQ _ w hq hc')
-- say
theorem or_bit : ∀ c, c < 6 → ∀ x, x < 64 → x < 2 ^ c → nI x ||| ((1 : Int32) <<< (nI c &&& 31)) = nI (x + 2 ^ c) := by decide +kernel
theorem rgt_N (w : Nat) : ∀ c, c ≤ 6 → ∃ x, x < 2 ^ c ∧ rgt A F n m w c = nI x
  | 0, _ => ⟨0, by decide, rfl⟩
  | c + 1, hc => by
    obtain ⟨x, hx, e⟩ := rgt_N w c (by omega)
    have h64 : 2 ^ c ≤ 2 ^ 5 := Nat.pow_le_pow_right (by decide) (by omega)
    have hp : 2 ^ (c + 1) = 2 ^ c * 2 := Nat.pow_succ _ _
    unfold rgt
    by_cases z : wat A F n m w c = 60
    · rw [if_pos z, e, or_bit c (by omega) x (by omega) hx]
      exact ⟨x + 2 ^ c, by omega, rfl⟩
    · rw [if_neg z]
      exact ⟨x, by omega, e⟩
theorem rgt_64 (hA : OK A n m) (w : Nat) : 0 ≤ (rgt A F n m w n).toInt ∧ (rgt A F n m w n).toInt < 64 := by
  obtain ⟨x, hx, e⟩ := rgt_N (A := A) (F := F) (n := n) (m := m) w n hA.1
  have h64 : 2 ^ n ≤ 2 ^ 6 := Nat.pow_le_pow_right (by decide) hA.1
  rw [e, nI_tI (by omega)]
  omega
theorem sayS_lt : ∀ w, sayS A F n m w = 0 ∨ sayS A F n m w < w
  | 0 => Or.inl rfl
  | w + 1 => by
    have h := sayS_lt w
    unfold sayS
    split
    · exact Or.inr (by omega)
    · split
      · split
        · exact Or.inr (by omega)
        · omega
      · omega
theorem sayS_1 : sayS A F n m 1 = 0 := by
  show (if (0 : Int32) < bitI (rgt A F n m 0 n) - bitI (rgt A F n m 0 n) then 0 else if bitI (rgt A F n m 0 n) - bitI (rgt A F n m 0 n) = 0 then (if bitI (nI 0) < bitI (nI 0) then 0 else 0) else 0) = 0
  simp
theorem nI_32 {x : Nat} (h : x < 32) : 0 ≤ (nI x).toInt ∧ (nI x).toInt < 64 := by rw [nI_tI (by omega)]; omega
theorem C_say (hA : OK A n m) {v : Vv} (hF : FRESH A F n m v) {Q : Int32 → Vv → Prop} (hQ : Q (nI (sayS A F n m (2 ^ m))) v) : m_K_worldOfMostRight v Q := by
  have h2m := two m hA.2.1
  have h1m : 1 ≤ 2 ^ m := Nat.one_le_two_pow
  have key : ∀ j w : Nat, w + j = 2 ^ m → 1 ≤ w → k_K_worldOfMostRight_4 (nI (sayS A F n m w)) (nI w) v Q := by
    intro j
    induction j with
    | zero =>
      intro w e _
      obtain rfl : w = 2 ^ m := e
      refine s_K_worldOfMostRight_4 ?_
      rw [hF.1, if_neg (nI_nlt (Nat.le_refl _) (by omega))]
      exact hQ
    | succ j ih =>
      intro w e h1
      have hw : w < 2 ^ m := by omega
      have hs : sayS A F n m w < 2 ^ m := by rcases sayS_lt (A := A) (F := F) (n := n) (m := m) w with z | z <;> omega
      have r2 := (hF.2.2.2 w hw).2.1
      have q2 := (hF.2.2.2 _ hs).2.1
      have ih := ih (w + 1) (by omega) (by omega)
      unfold sayS at ih
      refine s_K_worldOfMostRight_4 ?_
      rw [hF.1, if_pos (nI_lt hw (by omega)), ix_nI (by omega), ix_nI (by omega), r2]
      refine ⟨ib_nI (by omega) (by decide), JI_bitCount (rgt_64 hA w) ⟨ib_nI (by omega) (by decide), ?_⟩⟩
      rw [q2]
      refine JI_bitCount (rgt_64 hA _) ?_
      by_cases z1 : (0 : Int32) < bitI (rgt A F n m w n) - bitI (rgt A F n m (sayS A F n m w) n)
      · rw [if_pos z1] at ih ⊢
        refine s_K_worldOfMostRight_54 (s_K_worldOfMostRight_56 ?_)
        rw [nI_1]
        exact ih
      · rw [if_neg z1] at ih ⊢
        by_cases z2 : bitI (rgt A F n m w n) - bitI (rgt A F n m (sayS A F n m w) n) = 0
        · rw [if_pos z2] at ih ⊢
          refine JI_bitCount (nI_32 (by omega)) (JI_bitCount (nI_32 (by omega)) ?_)
          rw [nI_1]
          by_cases z3 : bitI (nI w) < bitI (nI (sayS A F n m w))
          · rw [if_pos z3] at ih ⊢
            exact ih
          · rw [if_neg z3] at ih ⊢
            exact ih
        · rw [if_neg z2] at ih ⊢
          refine s_K_worldOfMostRight_56 ?_
          rw [nI_1]
          exact ih
  have h := key (2 ^ m - 1) 1 (by omega) (Nat.le_refl _)
  rw [sayS_1] at h
  exact s_K_worldOfMostRight h
theorem M_say_loop (hA : OK A n m) {v : Vv} (hM : MA A n m v) (hR : ∀ x, x < 2 ^ m → MROW A F n m x v) {p : Int32} {Q : Int32 → Vv → Prop} (hQ : Q (if p = 0 then nI (sayS A F n m (2 ^ m)) else bitI (rgt A F n m (sayS A F n m (2 ^ m)) n)) v) : k_M_say_21 p 0 1 v Q := by
  have h2m := two m hA.2.1
  have h1m : 1 ≤ 2 ^ m := Nat.one_le_two_pow
  have key : ∀ j w : Nat, w + j = 2 ^ m → 1 ≤ w → k_M_say_21 p (nI (sayS A F n m w)) (nI w) v Q := by
    intro j
    induction j with
    | zero =>
      intro w e _
      obtain rfl : w = 2 ^ m := e
      have hs : sayS A F n m (2 ^ m) < 2 ^ m := by rcases sayS_lt (A := A) (F := F) (n := n) (m := m) (2 ^ m) with z | z <;> omega
      refine s_M_say_21 (M_worldsN hA.2.1 hM.2.1 ?_)
      rw [if_neg (nI_nlt (Nat.le_refl _) (by omega))]
      by_cases z : p = 0
      · rw [if_pos z] at hQ ⊢
        exact hQ
      · rw [if_neg z] at hQ ⊢
        refine ⟨ib_nI (by omega) (by decide), ?_⟩
        rw [ix_nI (by omega), (hR _ hs).2.1]
        exact M_bitsOf (rgt_64 hA _) hQ
    | succ j ih =>
      intro w e h1
      have hw : w < 2 ^ m := by omega
      have hs : sayS A F n m w < 2 ^ m := by rcases sayS_lt (A := A) (F := F) (n := n) (m := m) w with z | z <;> omega
      have r2 := (hR w hw).2.1
      have q2 := (hR _ hs).2.1
      have ih := ih (w + 1) (by omega) (by omega)
      unfold sayS at ih
      refine s_M_say_21 (M_worldsN hA.2.1 hM.2.1 ?_)
      rw [if_pos (nI_lt hw (by omega)), ix_nI (by omega), ix_nI (by omega), r2]
      refine ⟨ib_nI (by omega) (by decide), M_bitsOf (rgt_64 hA w) ⟨ib_nI (by omega) (by decide), ?_⟩⟩
      rw [q2]
      refine M_bitsOf (rgt_64 hA _) ?_
      by_cases z1 : (0 : Int32) < bitI (rgt A F n m w n) - bitI (rgt A F n m (sayS A F n m w) n)
      · rw [if_pos z1] at ih ⊢
        refine s_M_say_71 (s_M_say_73 ?_)
        rw [nI_1]
        exact ih
      · rw [if_neg z1] at ih ⊢
        by_cases z2 : bitI (rgt A F n m w n) - bitI (rgt A F n m (sayS A F n m w) n) = 0
        · rw [if_pos z2] at ih ⊢
          refine M_bitsOf (nI_32 (by omega)) (M_bitsOf (nI_32 (by omega)) ?_)
          rw [nI_1]
          by_cases z3 : bitI (nI w) < bitI (nI (sayS A F n m w))
          · rw [if_pos z3] at ih ⊢
            exact ih
          · rw [if_neg z3] at ih ⊢
            exact ih
        · rw [if_neg z2] at ih ⊢
          refine s_M_say_73 ?_
          rw [nI_1]
          exact ih
  have h := key (2 ^ m - 1) 1 (by omega) (Nat.le_refl _)
  rw [sayS_1] at h
  exact h
theorem say_step {a : Int32} {v : Vv} (h : INW v) {Q : Int32 → Int32 → Vv → Prop} (hQ : ∀ r w, FQ v w → CACHE w → Q r r w) : m_P_say a v (fun r v1 => m_M_say a v1 (fun r' v2 => Q r r' v2)) := by
  have h0 : ∀ r, Q r r v := fun r => hQ r v (FQ.rf v) h.2.2.2
  have hyes : a = 0 ∨ a = 1 → k_P_say_12 a v (fun r v1 => m_M_say a v1 (fun r' v2 => Q r r' v2)) := fun ha0 => by
    refine s_P_say_12 (worked_R h fun A F n m u f hr hcc e1 e2 => ⟨rfl, ?_⟩)
    obtain ⟨hA, hC, hMA, hR, hMT, hF⟩ := id hr
    have h2m := two m hA.2.1
    have h1m : 1 ≤ 2 ^ m := Nat.one_le_two_pow
    have hs : sayS A F n m (2 ^ m) < 2 ^ m := by rcases sayS_lt (A := A) (F := F) (n := n) (m := m) (2 ^ m) with z | z <;> omega
    refine C_say hA hF ?_
    have hM : ∀ R : Int32 → Vv → Prop, (∀ w, FQ v w → CACHE w → R (if a = 0 then nI (sayS A F n m (2 ^ m)) else bitI (rgt A F n m (sayS A F n m (2 ^ m)) n)) w) → m_M_say a u R := fun R hh => by
      refine s_M_say (M_in ?_)
      rw [Int32.toInt_toInt64, l_0, l_1, decide_eq_true (by simp only [i_eq, t_0, t_1] at ha0; omega), if_pos rfl]
      exact gathers_R f.q hr fun w f' hrow ha hc' hq hr' => M_say_loop hA hr'.2.2.1 hrow (hh w hq hc')
    by_cases z : a = 0
    · rw [if_pos z]
      refine hM _ fun w hq hc' => ?_
      rw [if_pos z]
      exact hQ _ w hq hc'
    · rw [if_neg z, ix_nI (by omega), (hF.2.2.2 _ hs).2.1]
      refine ⟨ib_nI (by omega) (by decide), JI_bitCount (rgt_64 hA _) (hM _ fun w hq hc' => ?_)⟩
      rw [if_neg z]
      exact hQ _ w hq hc'
  refine s_P_say ?_
  by_cases z0 : a = 0
  · rw [if_pos z0]
    exact hyes (Or.inl z0)
  · rw [if_neg z0]
    by_cases z1 : a = 1
    · rw [if_pos z1]
      exact hyes (Or.inr z1)
    · rw [if_neg z1]
      refine s_M_say (M_in ?_)
      rw [Int32.toInt_toInt64, l_0, l_1, decide_eq_false (by simp only [i_eq, t_0, t_1] at z0 z1; omega), if_neg (by decide)]
      exact h0 _
-- late
theorem C_late (hA : OK A n m) {v : Vv} (hF : FRESH A F n m v) {c : Nat} (hc : c < n) {Q : Int32 → Vv → Prop} (hQ : Q (latS A F n m c (2 ^ m)) v) : m_K_latest (nI c) v Q := by
  have h2m := two m hA.2.1
  have h6 := hA.1
  have key : ∀ j w : Nat, w + j = 2 ^ m → k_K_latest_5 (nI c) (latS A F n m c w) (nI w) v Q := by
    intro j
    induction j with
    | zero =>
      intro w e
      obtain rfl : w = 2 ^ m := e
      refine s_K_latest_5 ?_
      rw [hF.1, if_neg (nI_nlt (Nat.le_refl _) (by omega))]
      exact hQ
    | succ j ih =>
      intro w e
      have hw : w < 2 ^ m := by omega
      obtain ⟨r1, r2, r3, r4, r5⟩ := hF.2.2.2 w hw
      have ih := ih (w + 1) (by omega)
      unfold latS at ih
      refine s_K_latest_5 ?_
      rw [hF.1, if_pos (nI_lt hw (by omega)), ix_nI (by omega), ix_nI (by omega), r3, r4, (r1 c hc).1, chc_N]
      refine ⟨ib_nI (by omega) (by decide), ?_⟩
      by_cases z1 : fit A F n m w = true
      · rw [if_pos z1] at ih
        rw [if_pos z1, if_neg (by decide)]
        by_cases z2 : 0 < chN A F w m
        · rw [if_pos z2] at ih
          rw [if_pos ((nL_pos (chN_63 hA w)).mpr z2)]
          refine ⟨ib_nI (by omega) (by decide), s_JM_abs (s_JM_max_III (s_K_latest_56 ?_))⟩
          rw [nI_1]
          exact ih
        · rw [if_neg z2] at ih
          rw [if_neg (fun q => z2 ((nL_pos (chN_63 hA w)).mp q))]
          refine s_K_latest_56 ?_
          rw [nI_1]
          exact ih
      · rw [if_neg z1] at ih
        rw [if_neg z1, if_pos rfl]
        refine s_K_latest_56 ?_
        rw [nI_1]
        exact ih
  exact s_K_latest (key (2 ^ m) 0 (by omega))
theorem M_late_loop (hA : OK A n m) {v : Vv} (hM : MA A n m v) (hR : ∀ x, x < 2 ^ m → MROW A F n m x v) {c : Nat} (hc : c < n) {Q : Int32 → Vv → Prop} (hQ : Q (latS A F n m c (2 ^ m)) v) : k_M_late_19 (nI c) (-1) 0 v Q := by
  have h2m := two m hA.2.1
  have h6 := hA.1
  have key : ∀ j w : Nat, w + j = 2 ^ m → k_M_late_19 (nI c) (latS A F n m c w) (nI w) v Q := by
    intro j
    induction j with
    | zero =>
      intro w e
      obtain rfl : w = 2 ^ m := e
      refine s_M_late_19 (M_worldsN hA.2.1 hM.2.1 ?_)
      rw [if_neg (nI_nlt (Nat.le_refl _) (by omega))]
      exact hQ
    | succ j ih =>
      intro w e
      have hw : w < 2 ^ m := by omega
      obtain ⟨r1, r2, r3, r4, r5⟩ := hR w hw
      have ih := ih (w + 1) (by omega)
      unfold latS at ih
      refine s_M_late_19 (M_worldsN hA.2.1 hM.2.1 ?_)
      rw [if_pos (nI_lt hw (by omega)), six, ix_nI (by omega), ix_nI (by omega), r3, r4, (r1 c hc).1, chc_N, nI_1]
      refine ⟨ib_nI (by omega) (by decide), ib_nI (by omega) (by decide), ?_⟩
      by_cases z1 : fit A F n m w = true
      · rw [if_pos z1] at ih
        rw [if_pos z1, if_pos rfl]
        by_cases z2 : 0 < chN A F w m
        · rw [if_pos z2] at ih
          rw [if_pos ((nL_pos (chN_63 hA w)).mpr z2)]
          exact ih
        · rw [if_neg z2] at ih
          rw [if_neg (fun q => z2 ((nL_pos (chN_63 hA w)).mp q))]
          exact ih
      · rw [if_neg z1] at ih
        rw [if_neg z1, if_neg (by decide)]
        exact ih
  exact key (2 ^ m) 0 (by omega)
theorem late_step {a : Int32} {v : Vv} (h : INW v) {Q : Int32 → Int32 → Vv → Prop} (hQ : ∀ r w, FQ v w → CACHE w → Q r r w) : m_P_late a v (fun r v1 => m_M_late a v1 (fun r' v2 => Q r r' v2)) := by
  obtain ⟨n, m, h6, h5, n1, n2, m1, m2⟩ := HO_nm h.1
  have h0 : ∀ r, Q r r v := fun r => hQ r v (FQ.rf v) h.2.2.2
  refine s_P_late (P_isClockN n1 h6 ?_)
  by_cases c1 : 0 ≤ a.toInt ∧ a.toInt < n
  · rw [decide_eq_true c1, if_pos rfl]
    obtain ⟨c, hc, rfl⟩ := nI_of3 (x := a) (n := n) c1.1 c1.2
    refine worked_R h fun A F n' m' u f hr hcc e1 e2 => ⟨rfl, ?_⟩
    obtain rfl := nm_eq (by have := hr.1.1; omega) (by omega) (e1.symm.trans n1)
    obtain ⟨hA, hC, hMA, hR, hMT, hF⟩ := id hr
    refine C_late hA hF hc (s_M_late (M_isClockN hMA.1 h6 ?_))
    rw [decide_eq_true c1, if_pos rfl]
    exact gathers_R f.q hr fun w f' hrow ha hc' hq hr' => M_late_loop hA hr'.2.2.1 hrow hc (hQ _ w hq hc')
  · rw [decide_eq_false c1, if_neg (by decide)]
    refine s_M_late (M_isClockN n2 h6 ?_)
    rw [decide_eq_false c1, if_neg (by decide)]
    exact h0 _
end Q2
