-- time, sure, look
section TM
variable (A : Cf) (F : Rl) (n m : Nat)
noncomputable def tp (w : Nat) : Bool := decide (tim A F n m w ≠ -1)
noncomputable def tk2 : Nat → Int32 := tim A F n m
def tg (w : Nat) : Nat := chN A F w m
noncomputable def sp (w : Nat) : Bool := fit A F n m w
noncomputable def sk (c w : Nat) : Int32 := day (tim A F n m w - 60 + wat A F n m w c)
end TM
section TM2
variable {A : Cf} {F : Rl} {n m : Nat}
theorem tg_le (hA : OK A n m) (w : Nat) : tg A F m w ≤ 10000000000 := chN_small hA w
theorem tk_nn (x : Nat) (h : tp A F n m x = true) : 0 ≤ (tk2 A F n m x).toInt := by
  unfold tp at h
  have h := of_decide_eq_true h
  unfold tk2
  unfold tim at h ⊢
  by_cases z : fit A F n m x = true
  · rw [if_pos z] at h ⊢
    rcases tmf_time (A := A) (F := F) (n := n) (m := m) (w := x) n with y | y
    · exact absurd y h
    · exact y.1
  · rw [if_neg z] at h
    exact absurd rfl h
theorem tp_fit {x : Nat} (h : tp A F n m x = true) : fit A F n m x = true := by
  unfold tp at h
  have h := of_decide_eq_true h
  unfold tim at h
  by_cases z : fit A F n m x = true
  · exact z
  · rw [if_neg z] at h
    exact absurd rfl h
theorem tmf_none (w : Nat) : ∀ c, (tmf A F n m w c).1 = -1 ↔ ∀ x, x < c → csa A x = -1
  | 0 => ⟨fun _ x hx => absurd hx (Nat.not_lt_zero _), fun _ => rfl⟩
  | c + 1 => by
    have h := tmf_none w c
    unfold tmf
    by_cases q : csa A c = -1
    · rw [if_pos q, h]
      refine ⟨fun a x hx => ?_, fun a x hx => a x (by omega)⟩
      by_cases e : x = c
      · rw [e]; exact q
      · exact a x (by omega)
    · rw [if_neg q]
      refine ⟨fun a => ?_, fun a => absurd (a c (by omega)) q⟩
      have := (day_in (csa A c - wat A F n m w c + 60)).1
      rw [show day (csa A c - wat A F n m w c + 60) = -1 from a] at this
      exact absurd this (by decide)
theorem tp_all {x y : Nat} (h : tp A F n m x = true) (hy : fit A F n m y = true) : tp A F n m y = true := by
  have hx := tp_fit h
  unfold tp at h ⊢
  have h := of_decide_eq_true h
  refine decide_eq_true ?_
  unfold tim at h ⊢
  rw [if_pos hx] at h
  rw [if_pos hy]
  exact fun z => h ((tmf_none x n).mpr ((tmf_none y n).mp z))
theorem C_sumTimes (hA : OK A n m) {v : Vv} (hF : FRESH A F n m v) {Q : Vv → Prop} (hQ : ∀ v', F2 ASC LSC v v' → SM (tp A F n m) (tk2 A F n m) (tg A F m) (2 ^ m) v' → Q v') : m_K_sumTimes v Q := by
  have h5 := hA.2.1
  have h2m := two m h5
  refine s_K_sumTimes ?_
  have key : ∀ j w : Nat, w + j = 2 ^ m → ∀ u, F2 ASC LSC v u → SM (tp A F n m) (tk2 A F n m) (tg A F m) w u → k_K_sumTimes_10 (nI w) u Q := by
    intro j
    induction j with
    | zero =>
      intro w e u f hs
      obtain rfl : w = 2 ^ m := e
      refine s_K_sumTimes_10 ?_
      rw [(hF.on h5 f.sk).1, if_neg (nI_nlt (Nat.le_refl _) (by omega))]
      exact hQ u f hs
    | succ j ih =>
      intro w e u f hs
      have hw : w < 2 ^ m := by omega
      have hFu := hF.on h5 f.sk
      obtain ⟨r1, r2, r3, r4, r5⟩ := hFu.2.2.2 w hw
      refine s_K_sumTimes_10 ?_
      rw [hFu.1, if_pos (nI_lt hw (by omega)), ix_nI (by omega), r5, r3]
      refine ⟨ib_nI (by omega) (by decide), ?_⟩
      by_cases z : tim A F n m w = -1
      · rw [if_pos z]
        refine s_K_sumTimes_47 ?_
        rw [nI_1]
        exact ih (w + 1) (by omega) u f (hs.skip (by unfold tp; rw [decide_eq_false (fun q => q z)]; decide))
      · rw [if_neg z, chc_N]
        refine U_add (p := tp A F n m) (kf := tk2 A F n m) (g := tg A F m) (by omega) hs (by unfold tp; exact decide_eq_true z) fun v' f' hs' => s_K_sumTimes_47 ?_
        rw [nI_1]
        exact ih (w + 1) (by omega) v' (f.tr f') hs'
  refine key (2 ^ m) 0 (by omega) _ ((F2.rf _ _ _).sI (by unfold ASC; omega) _) ⟨0, Nat.le_refl _, sI_same _ _ _ _, fun k hk => absurd hk (Nat.not_lt_zero _), fun k l hk => absurd hk (Nat.not_lt_zero _), fun x hx => absurd hx (Nat.not_lt_zero _), fun k hk => absurd hk (Nat.not_lt_zero _), rfl⟩
/-- the likeliest time -/
def TR0 (A : Cf) (F : Rl) (n m : Nat) (r : Int32) : Prop := if sumN (fitN A F n m) (2 ^ m) = 0 then r = -1 else KG (tp A F n m) (tk2 A F n m) (tg A F m) (2 ^ m) r
theorem C_likeliest (hA : OK A n m) {v : Vv} (hF : FRESH A F n m v) {Q : Int32 → Vv → Prop} (hQ : ∀ r v', F2 ASC LSC v v' → TR0 A F n m r → Q r v') : m_K_likeliestTime v Q := by
  have h2m := two m hA.2.1
  refine s_K_likeliestTime ?_
  rw [hF.2.1, allc_N]
  have hal := all_small (F := F) hA (2 ^ m) h2m
  unfold TR0 at hQ
  by_cases z : sumN (fitN A F n m) (2 ^ m) = 0
  · rw [if_pos ((nL_z (by omega)).mpr z)]
    exact hQ _ v (F2.rf _ _ _) (by rw [if_pos z])
  · rw [if_neg (fun q => z ((nL_z (by omega)).mp q))]
    refine C_sumTimes hA hF fun v' f hs => U_key (tg_le hA) tk_nn h2m hs fun r hr => hQ r v' f ?_
    rw [if_neg z]
    exact hr
theorem C_unlike (hA : OK A n m) {v : Vv} (hF : FRESH A F n m v) {Q : Int32 → Vv → Prop} (hQ : ∀ v', F2 ASC LSC v v' → Q (nI (cntF (tp A F n m) (tk2 A F n m) (tg A F m) (2 ^ m))) v') : m_K_unlikeTimes v Q :=
  s_K_unlikeTimes (C_sumTimes hA hF fun v' f hs => U_above (tg_le hA) (two m hA.2.1) hs (hQ v' f))
theorem C_chanceT (hA : OK A n m) {v : Vv} (hF : FRESH A F n m v) {Q : Int64 → Vv → Prop} (hQ : ∀ v', F2 ASC LSC v v' → Q (nL (kG (tp A F n m) (tk2 A F n m) (tg A F m) (2 ^ m))) v') : m_K_chanceOfTime v Q :=
  s_K_chanceOfTime (C_sumTimes hA hF fun v' f hs => U_greatest (tg_le hA) (two m hA.2.1) hs (hQ v' f))
-- the reference's times
def ATm (i k : Nat) : Prop := i = 154 ∧ k = 38
def LTm (i k : Nat) : Prop := i = 154 ∧ k = 39
theorem MA.tm {u v : Vv} (h : MA A n m u) (f : F2 ATm LTm u v) : MA A n m v := h.at fun i k q => f.1 i k (by unfold ATm; omega)
theorem MROW.tm {w : Nat} {u v : Vv} (h : MROW A F n m w u) (f : F2 ATm LTm u v) : MROW A F n m w v := by
  obtain ⟨a, b, c, d, e⟩ := h
  refine ⟨fun y hy => ?_, ?_, ?_, ?_, ?_⟩
  · rw [f.1 _ _ (by unfold ATm; omega), f.1 _ _ (by unfold ATm; omega)]; exact a y hy
  · rw [f.1 _ _ (by unfold ATm; omega)]; exact b
  · rw [f.2.1 _ _ (by unfold LTm; omega)]; exact c
  · rw [f.1 _ _ (by unfold ATm; omega)]; exact d
  · rw [f.1 _ _ (by unfold ATm; omega)]; exact e
theorem F2.tq {v w : Vv} (h : F2 ATm LTm v w) : FQ v w := fun i k q => h.1 i k fun z => q (by unfold ATm at z; unfold AQu; omega)
theorem F2.tkw {v w : Vv} (h : F2 ATm LTm v w) : KW v w := ⟨fun i k q => h.1 i k (by unfold ATm; unfold TXs at q; omega), fun k => h.2.1 _ _ (by unfold LTm; omega), h.2.1 _ _ (by unfold LTm; omega), h.2.2⟩
/-- the greatest sum of those that have a chance -/
def kH (p : Nat → Bool) (kf : Nat → Int32) (g : Nat → Nat) (W w : Nat) : Nat := mx (fun x => if p x = true ∧ 0 < g x then kT p kf g (kf x) W else 0) w
def KH (p : Nat → Bool) (kf : Nat → Int32) (g : Nat → Nat) (W w : Nat) (r : Int32) : Prop := (kH p kf g W w = 0 ∧ r = -1) ∨ 0 < kH p kf g W w ∧ ((∃ x, x < w ∧ p x = true ∧ 0 < g x ∧ kT p kf g (kf x) W = kH p kf g W w ∧ r = kf x) ∧ ∀ x, x < w → p x = true → 0 < g x → kT p kf g (kf x) W = kH p kf g W w → r.toInt ≤ (kf x).toInt)
theorem kH_kG {p : Nat → Bool} {kf : Nat → Int32} {g : Nat → Nat} {W : Nat} : kH p kf g W W = kG p kf g W := by
  refine mx_eq (fun x hx hz => ⟨x, hx, ?_⟩) fun x hx hz => ?_
  · by_cases y : p x = true ∧ 0 < g x
    · show (if p x = true then _ else 0) = if p x = true ∧ 0 < g x then _ else 0
      rw [if_pos y, if_pos y.1]
    · have hz : 0 < (if p x = true ∧ 0 < g x then kT p kf g (kf x) W else 0) := hz
      rw [if_neg y] at hz
      omega
  · have hz : 0 < (if p x = true then kT p kf g (kf x) W else 0) := hz
    by_cases y : p x = true
    · rw [if_pos y] at hz
      obtain ⟨z, hz2, pz, ez, gz⟩ := kT_pos hz
      refine ⟨z, hz2, ?_⟩
      show (if p z = true ∧ 0 < g z then _ else 0) = if p x = true then _ else 0
      rw [if_pos ⟨pz, gz⟩, if_pos y, ez]
    · rw [if_neg y] at hz
      omega
theorem KG_KH {p : Nat → Bool} {kf : Nat → Int32} {g : Nat → Nat} {W : Nat} {r s : Int32} (h0 : 0 < kG p kf g W) (h1 : KG p kf g W r) (h2 : KH p kf g W W s) : r = s := by
  have e := kH_kG (p := p) (kf := kf) (g := g) (W := W)
  rcases h2 with ⟨a, -⟩ | ⟨-, ⟨x, hx, px, gx, tx, rfl⟩, hs⟩
  · rw [e] at a
    omega
  rcases h1 with ⟨a, -⟩ | ⟨⟨y, hy, py, ty, rfl⟩, hr⟩
  · exact absurd px (a x hx)
  rw [e] at tx hs
  have c1 := hr x hx px tx
  obtain ⟨z, hz, pz, ez, gz⟩ := kT_pos (p := p) (kf := kf) (g := g) (t := kf y) (w := W) (by rw [ty]; exact h0)
  have c2 := hs z hz pz gz (by rw [ez]; exact ty)
  rw [ez] at c2
  rw [i_eq]
  omega
theorem M_times (hA : OK A n m) {v : Vv} (hM : MA A n m v) (hR : ∀ x, x < 2 ^ m → MROW A F n m x v) {Q : Int32 → Vv → Prop} (hQ : ∀ v', F2 ATm LTm v v' → KH (tp A F n m) (tk2 A F n m) (tg A F m) (2 ^ m) (2 ^ m) (v'.1 154 38) → v'.2.1 154 39 = nL (kH (tp A F n m) (tk2 A F n m) (tg A F m) (2 ^ m) (2 ^ m)) → Q (nI (cntF (tp A F n m) (tk2 A F n m) (tg A F m) (2 ^ m))) v') : m_M_times v Q := by
  have h5 := hA.2.1
  have h2m := two m h5
  have hg := tg_le (F := F) hA
  have hbT : ∀ t w, w ≤ 32 → kT (tp A F n m) (tk2 A F n m) (tg A F m) t w < 2 ^ 63 := fun t w hw => by have := kT_bound (p := tp A F n m) (kf := tk2 A F n m) hg (t := t) hw; omega
  have hbH : ∀ w, kH (tp A F n m) (tk2 A F n m) (tg A F m) (2 ^ m) w < 2 ^ 63 := fun w => by
    have := mx_bound (f := fun x => if tp A F n m x = true ∧ 0 < tg A F m x then kT (tp A F n m) (tk2 A F n m) (tg A F m) (tk2 A F n m x) (2 ^ m) else 0) (b := 320000000000) (fun x => by
      have := kT_bound (p := tp A F n m) (kf := tk2 A F n m) hg (t := tk2 A F n m x) h2m
      show (if tp A F n m x = true ∧ 0 < tg A F m x then kT (tp A F n m) (tk2 A F n m) (tg A F m) (tk2 A F n m x) (2 ^ m) else 0) ≤ _
      split <;> omega) w
    show mx _ w < _
    omega
  refine s_M_times ?_
  -- what stands after some worlds
  have key : ∀ j w : Nat, w + j = 2 ^ m → ∀ u, F2 ATm LTm v u → KH (tp A F n m) (tk2 A F n m) (tg A F m) (2 ^ m) w (u.1 154 38) → u.2.1 154 39 = nL (kH (tp A F n m) (tk2 A F n m) (tg A F m) (2 ^ m) w) → k_M_times_14 (nI (cntF (tp A F n m) (tk2 A F n m) (tg A F m) w)) (nI w) u Q := by
    intro j
    induction j with
    | zero =>
      intro w e u f hk hl
      obtain rfl : w = 2 ^ m := e
      refine s_M_times_14 (M_worldsN h5 (hM.tm f).2.1 ?_)
      rw [if_neg (nI_nlt (Nat.le_refl _) (by omega))]
      exact hQ u f hk hl
    | succ j ih =>
      intro w e u f hk hl
      have hw : w < 2 ^ m := by omega
      have hRu : ∀ x, x < 2 ^ m → MROW A F n m x u := fun x hx => (hR x hx).tm f
      obtain ⟨r1, r2, r3, r4, r5⟩ := hRu w hw
      have eC : cntF (tp A F n m) (tk2 A F n m) (tg A F m) (w + 1) = cntF (tp A F n m) (tk2 A F n m) (tg A F m) w + if tp A F n m w = true ∧ 0 < tg A F m w ∧ kT (tp A F n m) (tk2 A F n m) (tg A F m) (tk2 A F n m w) w = 0 then 1 else 0 := rfl
      have eH : kH (tp A F n m) (tk2 A F n m) (tg A F m) (2 ^ m) (w + 1) = if kH (tp A F n m) (tk2 A F n m) (tg A F m) (2 ^ m) w < (if tp A F n m w = true ∧ 0 < tg A F m w then kT (tp A F n m) (tk2 A F n m) (tg A F m) (tk2 A F n m w) (2 ^ m) else 0) then (if tp A F n m w = true ∧ 0 < tg A F m w then kT (tp A F n m) (tk2 A F n m) (tg A F m) (tk2 A F n m w) (2 ^ m) else 0) else kH (tp A F n m) (tk2 A F n m) (tg A F m) (2 ^ m) w := rfl
      have skip : ¬ (tp A F n m w = true ∧ 0 < tg A F m w) → k_M_times_181 (nI (cntF (tp A F n m) (tk2 A F n m) (tg A F m) w)) (nI w) u Q := fun hno => by
        refine s_M_times_181 ?_
        have eH2 : kH (tp A F n m) (tk2 A F n m) (tg A F m) (2 ^ m) (w + 1) = kH (tp A F n m) (tk2 A F n m) (tg A F m) (2 ^ m) w := by rw [eH, if_neg hno, if_neg (Nat.not_lt_zero _)]
        have eC2 : cntF (tp A F n m) (tk2 A F n m) (tg A F m) (w + 1) = cntF (tp A F n m) (tk2 A F n m) (tg A F m) w := by rw [eC, if_neg (fun z => hno ⟨z.1, z.2.1⟩), Nat.add_zero]
        rw [nI_1, ← eC2]
        refine ih (w + 1) (by omega) u f ?_ (by rw [eH2]; exact hl)
        unfold KH at hk ⊢
        rw [eH2]
        rcases hk with a | ⟨a0, ⟨x, hx, px, gx, tx, rx⟩, c⟩
        · exact Or.inl a
        · refine Or.inr ⟨a0, ⟨x, by omega, px, gx, tx, rx⟩, fun y hy py gy ty => ?_⟩
          by_cases z : y = w
          · rw [z] at py gy; exact absurd ⟨py, gy⟩ hno
          · exact c y (by omega) py gy ty
      refine s_M_times_14 (M_worldsN h5 (hM.tm f).2.1 ?_)
      rw [if_pos (nI_lt hw (by omega)), ix_nI (by omega), r5, r3, chc_N]
      refine ⟨ib_nI (by omega) (by decide), ?_⟩
      by_cases z1 : tim A F n m w = -1
      · rw [if_pos z1]
        exact skip fun q => by
          have := q.1
          unfold tp at this
          exact of_decide_eq_true this z1
      rw [if_neg z1]
      by_cases z2 : 0 < chN A F w m
      rotate_left
      · rw [if_neg (fun q => z2 ((nL_pos (chN_63 hA w)).mp q))]
        exact skip fun q => z2 q.2
      rw [if_pos ((nL_pos (chN_63 hA w)).mpr z2)]
      have hpw : tp A F n m w = true := by unfold tp; exact decide_eq_true z1
      -- its sum, and whether it is the first
      have fin : ∀ b : Bool, (b = true ↔ kT (tp A F n m) (tk2 A F n m) (tg A F m) (tk2 A F n m w) w = 0) → k_M_times_51 (nI (cntF (tp A F n m) (tk2 A F n m) (tg A F m) w)) (nI w) (nL (kT (tp A F n m) (tk2 A F n m) (tg A F m) (tk2 A F n m w) (2 ^ m))) (bI b) (nI (2 ^ m)) u Q := fun b hb => by
        refine s_M_times_51 (M_worldsN h5 (hM.tm f).2.1 ?_)
        rw [if_neg (nI_nlt (Nat.le_refl _) (by omega)), hl, ix_nI (by omega), r5]
        have e1 : nI (cntF (tp A F n m) (tk2 A F n m) (tg A F m) w) + bI (if bI b = 0 then false else true) = nI (cntF (tp A F n m) (tk2 A F n m) (tg A F m) (w + 1)) := by
          rw [eC]
          cases b
          · rw [if_pos (by decide), if_neg (fun z => by have := hb.mpr z.2.2; exact absurd this (by decide)), Nat.add_zero]
            show _ + (0 : Int32) = _
            rw [Int32.add_zero]
          · rw [if_neg (by decide), if_pos ⟨hpw, z2, hb.mp rfl⟩]
            exact nI_1 _
        rw [e1]
        generalize hT : kT (tp A F n m) (tk2 A F n m) (tg A F m) (tk2 A F n m w) (2 ^ m) = T at eH ⊢
        have hT63 : T < 2 ^ 63 := by rw [← hT]; exact hbT _ _ h2m
        have hTp : 0 < T := by
          have := kT_ge (kf := tk2 A F n m) (g := tg A F m) hpw hw
          rw [hT] at this
          have : 0 < tg A F m w := z2
          omega
        rw [if_pos (show tp A F n m w = true ∧ 0 < tg A F m w from ⟨hpw, z2⟩)] at eH
        have put : kH (tp A F n m) (tk2 A F n m) (tg A F m) (2 ^ m) (w + 1) = T → (∀ y, y < w → tp A F n m y = true → 0 < tg A F m y → kT (tp A F n m) (tk2 A F n m) (tg A F m) (tk2 A F n m y) (2 ^ m) = T → (tk2 A F n m w).toInt ≤ (tk2 A F n m y).toInt) → k_M_times_166 (nI (cntF (tp A F n m) (tk2 A F n m) (tg A F m) (w + 1))) (nI w) (nL T) u Q := fun eT hmin => by
          refine s_M_times_166 ⟨ib_nI (by omega) (by decide), s_M_times_181 ?_⟩
          rw [ix_nI (by omega), show (sJ u 154 39 (nL T)).1 170 w = tim A F n m w from r5, nI_1]
          refine ih (w + 1) (by omega) _ ((f.sJ ⟨rfl, rfl⟩ _).sI ⟨rfl, rfl⟩ _) ?_ ?_
          · rw [sI_same]
            refine Or.inr ⟨by rw [eT]; exact hTp, ⟨w, by omega, hpw, z2, by rw [eT]; exact hT, rfl⟩, fun y hy py gy ty => ?_⟩
            rw [eT] at ty
            by_cases q : y = w
            · rw [q]; exact Int.le_refl _
            · exact hmin y (by omega) py gy ty
          · show (sJ u 154 39 (nL T)).2.1 154 39 = _
            rw [sJ_at, if_pos ⟨rfl, rfl⟩, eT]
        have keep : kH (tp A F n m) (tk2 A F n m) (tg A F m) (2 ^ m) (w + 1) = kH (tp A F n m) (tk2 A F n m) (tg A F m) (2 ^ m) w → 0 < kH (tp A F n m) (tk2 A F n m) (tg A F m) (2 ^ m) w → (T = kH (tp A F n m) (tk2 A F n m) (tg A F m) (2 ^ m) w → (u.1 154 38).toInt ≤ (tk2 A F n m w).toInt) → k_M_times_181 (nI (cntF (tp A F n m) (tk2 A F n m) (tg A F m) (w + 1))) (nI w) u Q := fun eT h0 hmin => by
          refine s_M_times_181 ?_
          rw [nI_1]
          refine ih (w + 1) (by omega) u f ?_ (by rw [eT]; exact hl)
          unfold KH at hk ⊢
          rw [eT]
          rcases hk with ⟨a, -⟩ | ⟨-, ⟨x, hx, px, gx, tx, rx⟩, c⟩
          · omega
          · refine Or.inr ⟨h0, ⟨x, by omega, px, gx, tx, rx⟩, fun y hy py gy ty => ?_⟩
            by_cases q : y = w
            · rw [q] at ty ⊢
              exact hmin (hT.symm.trans ty)
            · exact c y (by omega) py gy ty
        by_cases y1 : kH (tp A F n m) (tk2 A F n m) (tg A F m) (2 ^ m) w < T
        · rw [if_pos ((nL_lt (hbH w) hT63).mpr y1)]
          rw [if_pos y1] at eH
          refine put eH fun y hy py gy ty => ?_
          have := mx_le (fun x => if tp A F n m x = true ∧ 0 < tg A F m x then kT (tp A F n m) (tk2 A F n m) (tg A F m) (tk2 A F n m x) (2 ^ m) else 0) w y hy
          have e9 : (if tp A F n m y = true ∧ 0 < tg A F m y then kT (tp A F n m) (tk2 A F n m) (tg A F m) (tk2 A F n m y) (2 ^ m) else 0) = T := by rw [if_pos ⟨py, gy⟩]; exact ty
          have this : (if tp A F n m y = true ∧ 0 < tg A F m y then kT (tp A F n m) (tk2 A F n m) (tg A F m) (tk2 A F n m y) (2 ^ m) else 0) ≤ kH (tp A F n m) (tk2 A F n m) (tg A F m) (2 ^ m) w := this
          rw [e9] at this
          omega
        · rw [if_neg (fun q => y1 ((nL_lt (hbH w) hT63).mp q))]
          rw [if_neg y1] at eH
          by_cases y2 : T = kH (tp A F n m) (tk2 A F n m) (tg A F m) (2 ^ m) w
          · rw [if_pos (congrArg nL y2)]
            refine ⟨ib_nI (by omega) (by decide), ?_⟩
            by_cases y3 : tim A F n m w < u.1 154 38
            · rw [if_pos y3]
              rw [Int32.lt_iff_toInt_lt] at y3
              refine put (eH.trans y2.symm) fun y hy py gy ty => ?_
              rcases hk with ⟨a, -⟩ | ⟨-, -, c⟩
              · omega
              · have := c y hy py gy (ty.trans y2)
                show (tim A F n m w).toInt ≤ _
                omega
            · rw [if_neg y3]
              rw [Int32.lt_iff_toInt_lt] at y3
              exact keep eH (by omega) fun _ => by show _ ≤ (tim A F n m w).toInt; omega
          · rw [if_neg (fun q => y2 ?_)]
            · exact keep eH (by omega) fun q => absurd q y2
            · rw [l_eq, nL_tL hT63, nL_tL (hbH w)] at q
              omega
      have inner : ∀ j x : Nat, x + j = 2 ^ m → ∀ b : Bool, (b = true ↔ kT (tp A F n m) (tk2 A F n m) (tg A F m) (tk2 A F n m w) (if x < w then x else w) = 0) → k_M_times_51 (nI (cntF (tp A F n m) (tk2 A F n m) (tg A F m) w)) (nI w) (nL (kT (tp A F n m) (tk2 A F n m) (tg A F m) (tk2 A F n m w) x)) (bI b) (nI x) u Q := by
        intro j
        induction j with
        | zero =>
          intro x e b hb
          obtain rfl : x = 2 ^ m := e
          rw [if_neg (by omega)] at hb
          exact fin b hb
        | succ j ih2 =>
          intro x e b hb
          have hx : x < 2 ^ m := by omega
          obtain ⟨q1, q2, q3, q4, q5⟩ := hRu x hx
          have ih2 := ih2 (x + 1) (by omega)
          rw [kT_succ] at ih2
          refine s_M_times_51 (M_worldsN h5 (hM.tm f).2.1 ?_)
          rw [if_pos (nI_lt hx (by omega)), ix_nI (by omega), ix_nI (by omega), q5, q3, r5, chc_N]
          refine ⟨ib_nI (by omega) (by decide), ib_nI (by omega) (by decide), ?_⟩
          have no : ¬ (tim A F n m x = tim A F n m w ∧ 0 < chN A F x m) → k_M_times_116 (nI (cntF (tp A F n m) (tk2 A F n m) (tg A F m) w)) (nI w) (nL (kT (tp A F n m) (tk2 A F n m) (tg A F m) (tk2 A F n m w) x)) (bI b) (nI x) u Q := fun hno => by
            have e0 : (if tp A F n m x = true ∧ tk2 A F n m x = tk2 A F n m w then tg A F m x else 0) = 0 := by
              by_cases y : tp A F n m x = true ∧ tk2 A F n m x = tk2 A F n m w
              · rw [if_pos y]
                have : ¬ 0 < tg A F m x := fun q => hno ⟨y.2, q⟩
                omega
              · exact if_neg y
            rw [e0, Nat.add_zero] at ih2
            refine s_M_times_116 ?_
            rw [nI_1]
            refine ih2 b (hb.trans ?_)
            by_cases y : x < w
            · rw [if_pos y]
              by_cases y2 : x + 1 < w
              · rw [if_pos y2, kT_succ, e0, Nat.add_zero]
              · rw [if_neg y2, show w = x + 1 by omega, kT_succ, ← show w = x + 1 by omega, e0, Nat.add_zero]
            · rw [if_neg y, if_neg (by omega)]
          by_cases y1 : tim A F n m x = tim A F n m w
          rotate_left
          · rw [if_neg y1]
            exact no fun q => y1 q.1
          rw [if_pos y1]
          by_cases y2 : 0 < chN A F x m
          rotate_left
          · rw [if_neg (fun q => y2 ((nL_pos (chN_63 hA x)).mp q))]
            exact no fun q => y2 q.2
          rw [if_pos ((nL_pos (chN_63 hA x)).mpr y2)]
          have hpx : tp A F n m x = true := by unfold tp; rw [y1]; exact decide_eq_true z1
          rw [if_pos (show tp A F n m x = true ∧ tk2 A F n m x = tk2 A F n m w from ⟨hpx, y1⟩)] at ih2
          refine s_M_times_116 ?_
          rw [nI_1, nL_add]
          refine ih2 _ ?_
          by_cases y3 : x < w
          · have hlt : nI x < nI w := nI_lt y3 (by omega)
            have ge : 0 < kT (tp A F n m) (tk2 A F n m) (tg A F m) (tk2 A F n m w) (if x + 1 < w then x + 1 else w) := by
              have h1 := kT_ge (kf := tk2 A F n m) (g := tg A F m) hpx (w := if x + 1 < w then x + 1 else w) (by split <;> omega)
              rw [show tk2 A F n m x = tk2 A F n m w from y1] at h1
              have : 0 < tg A F m x := y2
              omega
            rw [if_pos hlt]
            refine ⟨fun q => ?_, fun q => by omega⟩
            split at q <;> exact absurd q (by decide)
          · rw [if_neg (nI_nlt (by omega) (by omega))]
            rw [if_neg y3] at hb
            rw [if_neg (show ¬ x + 1 < w by omega)]
            cases b
            · rw [if_pos (show bI false = 0 by decide)]; exact hb
            · rw [if_neg (show ¬ bI true = 0 by decide)]; exact hb
      exact inner (2 ^ m) 0 (by omega) true ⟨fun _ => by
        have : kT (tp A F n m) (tk2 A F n m) (tg A F m) (tk2 A F n m w) 0 = 0 := rfl
        by_cases y : 0 < w
        · rw [if_pos y]; exact this
        · rw [if_neg y, show w = 0 by omega]; rfl, fun _ => rfl⟩
  exact key (2 ^ m) 0 (by omega) _ (((F2.rf _ _ _).sI ⟨rfl, rfl⟩ _).sJ ⟨rfl, rfl⟩ _) (Or.inl ⟨rfl, sI_same v 154 38 (-1)⟩) (by rw [sJ_at, if_pos ⟨rfl, rfl⟩]; rfl)
theorem TR0_KH (hA : OK A n m) {r s : Int32} (h1 : TR0 A F n m r) (h2 : KH (tp A F n m) (tk2 A F n m) (tg A F m) (2 ^ m) (2 ^ m) s) : r = s := by
  unfold TR0 at h1
  have hz : ∀ x, x < 2 ^ m → tp A F n m x = true → 0 < tg A F m x → sumN (fitN A F n m) (2 ^ m) ≠ 0 := fun x hx px gx e => by
    have h3 : ∀ w, x < w → fitN A F n m x ≤ sumN (fitN A F n m) w := by
      intro w
      induction w with
      | zero => intro q; omega
      | succ w ih =>
        intro q
        unfold sumN
        by_cases y : x = w
        · rw [y]; omega
        · have := ih (by omega); omega
    have h4 := h3 (2 ^ m) hx
    rw [e] at h4
    unfold fitN at h4
    rw [if_pos (tp_fit px)] at h4
    have : 0 < chN A F x m := gx
    omega
  by_cases z : sumN (fitN A F n m) (2 ^ m) = 0
  · rw [if_pos z] at h1
    rcases h2 with ⟨-, b⟩ | ⟨-, ⟨x, hx, px, gx, -⟩, -⟩
    · rw [h1, b]
    · exact absurd z (hz x hx px gx)
  · rw [if_neg z] at h1
    by_cases g0 : 0 < kG (tp A F n m) (tk2 A F n m) (tg A F m) (2 ^ m)
    · exact KG_KH g0 h1 h2
    · rcases h2 with ⟨a, b⟩ | ⟨a, -⟩
      · rcases h1 with ⟨-, c⟩ | ⟨⟨y, hy, py, ty, c⟩, -⟩
        · rw [b, c]
        · exfalso
          apply z
          have hno : ∀ x, x < 2 ^ m → fitN A F n m x = 0 := fun x hx => by
            unfold fitN
            by_cases q : fit A F n m x = true
            · rw [if_pos q]
              have px := tp_all py q
              by_cases gx : 0 < tg A F m x
              · exfalso
                have h1 := kT_ge (kf := tk2 A F n m) (g := tg A F m) px hx
                have h2 := mx_le (fun x => if tp A F n m x = true then kT (tp A F n m) (tk2 A F n m) (tg A F m) (tk2 A F n m x) (2 ^ m) else 0) (2 ^ m) x hx
                have h2 : (if tp A F n m x = true then kT (tp A F n m) (tk2 A F n m) (tg A F m) (tk2 A F n m x) (2 ^ m) else 0) ≤ kG (tp A F n m) (tk2 A F n m) (tg A F m) (2 ^ m) := h2
                rw [if_pos px] at h2
                omega
              · have : tg A F m x = chN A F x m := rfl
                omega
            · exact if_neg q
          rw [sumN_congr (g := fun _ => 0) hno]
          have : ∀ w, sumN (fun _ => 0) w = 0 := by
            intro w
            induction w with
            | zero => rfl
            | succ w ih => unfold sumN; rw [ih]
          exact this _
      · rw [kH_kG] at a
        exact absurd a g0
theorem RDY.tm {u w : Vv} (h : RDY A F n m u) (f : F2 ATm LTm u w) : RDY A F n m w := h.on f.tkw fun i k q => f.1 i k (by unfold ATm; unfold TXs at q; omega)
theorem M_partI {a : Int32} {v : Vv} {Q : Bool → Vv → Prop} (h : Q (decide (a = 0 ∨ a = 1)) v) : m_M_in a.toInt64 0 1 v Q := by
  refine M_in ?_
  rw [Int32.toInt_toInt64, l_0, l_1, show decide (0 ≤ a.toInt ∧ a.toInt ≤ 1) = decide (a = 0 ∨ a = 1) from decide_eq_decide.mpr (by simp only [i_eq, t_0, t_1]; omega)]
  exact h
theorem time_step {a : Int32} {v : Vv} (h : INW v) {Q : Int32 → Int32 → Vv → Prop} (hQ : ∀ r w, FQ v w → CACHE w → Q r r w) : m_P_time a v (fun r v1 => m_M_time a v1 (fun r' v2 => Q r r' v2)) := by
  have h0 : ∀ r, Q r r v := fun r => hQ r v (FQ.rf v) h.2.2.2
  refine s_P_time ?_
  have hM : ∀ {A F n m u}, FQ v u → RDY A F n m u → (a = 0 ∨ a = 1) → ∀ {R : Int32 → Vv → Prop}, (∀ s w, KH (tp A F n m) (tk2 A F n m) (tg A F m) (2 ^ m) (2 ^ m) s → FQ v w → CACHE w → R (if a = 0 then s else nI (cntF (tp A F n m) (tk2 A F n m) (tg A F m) (2 ^ m))) w) → m_M_time a u R := fun {A F n m u} f hr ha R hh => by
    refine s_M_time (M_partI ?_)
    rw [decide_eq_true ha, if_pos rfl]
    refine gathers_R f hr fun w f' hrow ha' hc' hq hr' => M_times hr.1 hr'.2.2.1 hrow fun w2 f2 hk hl => ?_
    exact hh _ w2 hk (hq.tr f2.tq) (hc'.kw f2.tkw)
  by_cases z0 : a = 0
  · rw [if_pos z0]
    refine worked_R h fun A F n m u f hr hcc e1 e2 => ⟨rfl, C_likeliest hr.1 hr.2.2.2.2.2 fun r u2 f2 hr2 => ?_⟩
    refine hM (f.q.tr f2.sq) (hr.sc f2) (Or.inl z0) fun s w hk hq hc => ?_
    rw [if_pos z0, ← TR0_KH hr.1 hr2 hk]
    exact hQ _ w hq hc
  · rw [if_neg z0]
    by_cases z1 : a = 1
    · rw [if_pos z1]
      refine worked_R h fun A F n m u f hr hcc e1 e2 => ⟨rfl, C_unlike hr.1 hr.2.2.2.2.2 fun u2 f2 => ?_⟩
      refine hM (f.q.tr f2.sq) (hr.sc f2) (Or.inr z1) fun s w hk hq hc => ?_
      rw [if_neg z0]
      exact hQ _ w hq hc
    · rw [if_neg z1]
      refine s_M_time (M_partI ?_)
      rw [decide_eq_false (by rintro (q | q); exact z0 q; exact z1 q), if_neg (by decide)]
      exact h0 _
theorem sure_step {a : Int32} {v : Vv} (h : INW v) {Q : Int64 → Int64 → Vv → Prop} (hQ : ∀ r w, FQ v w → CACHE w → Q r r w) : m_P_sure a v (fun r v1 => m_M_sure a v1 (fun r' v2 => Q r r' v2)) := by
  refine s_P_sure (worked_R h fun A F n m u f hr hcc e1 e2 => ⟨rfl, P_isPart ?_⟩)
  have h2m := two m hr.1.2.1
  by_cases z : a = 0 ∨ a = 1
  · rw [decide_eq_true z, if_pos rfl]
    refine C_likeliest hr.1 hr.2.2.2.2.2 fun r u2 f2 hr2 => ?_
    have hM : ∀ {u}, FQ v u → RDY A F n m u → ∀ {R : Int64 → Vv → Prop}, (∀ w, FQ v w → CACHE w → (r = -1 → R (-4611686018427387904) w) ∧ (¬ r = -1 → m_M_lowest (nL (kG (tp A F n m) (tk2 A F n m) (tg A F m) (2 ^ m))) (nL (sumN (fitN A F n m) (2 ^ m))) a w R)) → m_M_sure a u R := fun {u} f hr R hh => by
      refine s_M_sure (M_partI ?_)
      rw [decide_eq_true z, if_pos rfl]
      refine gathers_R f hr fun w f' hrow ha' hc' hq hr' => M_times hr.1 hr'.2.2.1 hrow fun w2 f2 hk hl => ?_
      obtain ⟨hh1, hh2⟩ := hh w2 (hq.tr f2.tq) (hc'.kw f2.tkw)
      rw [← TR0_KH hr.1 hr2 hk, hl, kH_kG, f2.2.1 154 37 (by unfold LTm; omega), ha', allc_N]
      by_cases q : r = -1
      · rw [if_pos q]; exact hh1 q
      · rw [if_neg q]; exact hh2 q
    by_cases q : r = -1
    · rw [if_pos q]
      exact hM (f.q.tr f2.sq) (hr.sc f2) fun w hq hc => ⟨fun _ => hQ _ w hq hc, fun z => absurd q z⟩
    · rw [if_neg q]
      have hr3 := hr.sc f2
      refine C_chanceT hr.1 hr3.2.2.2.2.2 fun u3 f3 => ?_
      have hr4 := hr3.sc f3
      rw [hr4.2.2.2.2.2.2.1, allc_N]
      have b0 : sumN (fitN A F n m) (2 ^ m) ≠ 0 := fun e => q (by unfold TR0 at hr2; rw [if_pos e] at hr2; exact hr2)
      have hb1 := kG_bound (p := tp A F n m) (kf := tk2 A F n m) (tg_le (F := F) hr.1) h2m
      have hb2 := all_small (F := F) hr.1 (2 ^ m) h2m
      refine P_lowest (by omega) (by omega) ?_
      rw [if_neg b0]
      exact hM ((f.q.tr f2.sq).tr f3.sq) hr4 fun w hq hc => ⟨fun z => absurd z q, fun _ => M_lowest (by omega) (by omega) b0 (hQ _ w hq hc)⟩
  · rw [decide_eq_false z, if_neg (by decide)]
    refine s_M_sure (M_partI ?_)
    rw [decide_eq_false z, if_neg (by decide)]
    exact hQ _ u f.q hcc
end TM2
