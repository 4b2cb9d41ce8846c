-- bad, tellsBack
section BD
variable (A : Cf) (F : Rl) (n m : Nat)
noncomputable def mnN (w c : Nat) : Nat := (mindv A F c (wdn A F n m w c)).toInt.toNat
noncomputable def wrF (w c : Nat) : Nat := if ((rgt A F n m w n >>> (nI c &&& 31)) &&& 1) = 0 then mnN A F n m w c else 0
noncomputable def badN (w : Nat) : Nat := if fit A F n m w = true then chN A F w m * sumN (wrF A F n m w) n else 0
end BD
section BD2
variable {A : Cf} {F : Rl} {n m : Nat}
theorem mindv_rng (c : Nat) (dn : Int32) : 0 ≤ (mindv A F c dn).toInt ∧ (mindv A F c dn).toInt ≤ 99 := by
  have := clamp_rng (x := F 2 (nmv (nI c) 0 (cro A c) (cof A c) dn 0)) (a := 0) (b := 99) (by decide)
  rw [t_0, t_99] at this
  exact this
theorem mindv_N (w c : Nat) : mindv A F c (wdn A F n m w c) = nI (mnN A F n m w c) := by
  have h := mindv_rng (A := A) (F := F) c (wdn A F n m w c)
  unfold mnN
  rw [i_eq, nI_tI (by omega)]
  omega
theorem wrF_le (w c : Nat) : wrF A F n m w c ≤ 99 := by
  have h := mindv_rng (A := A) (F := F) c (wdn A F n m w c)
  unfold wrF mnN
  split <;> omega
theorem wr_le (hA : OK A n m) (w c : Nat) (hc : c ≤ n) : sumN (wrF A F n m w) c ≤ 594 := by
  have h1 := sumN_le (wrF_le (A := A) (F := F) (n := n) (m := m) w) c
  have h6 := hA.1
  have : 99 * c ≤ 99 * 6 := Nat.mul_le_mul_left _ (by omega)
  omega
theorem badN_le (hA : OK A n m) (w : Nat) : badN A F n m w ≤ 5940000000000 := by
  have h1 := wr_le (F := F) hA w n (Nat.le_refl _)
  have h2 := chN_small (F := F) hA w
  have h3 : chN A F w m * sumN (wrF A F n m w) n ≤ 10000000000 * 594 := Nat.mul_le_mul h2 h1
  unfold badN
  split <;> omega
theorem bad_le (hA : OK A n m) (w : Nat) (hw : w ≤ 32) : sumN (badN A F n m) w < 2 ^ 63 := by
  have h1 := sumN_le (badN_le (F := F) hA) w
  have : 5940000000000 * w ≤ 5940000000000 * 32 := Nat.mul_le_mul_left _ hw
  omega
theorem nI_64 {x : Nat} (h : x < 2 ^ 31) : (nI x).toInt64 = nL x := by
  rw [l_eq, Int32.toInt_toInt64, nI_tI h, nL_tL (by omega)]
theorem RDY.az {u w : Vv} (h : RDY A F n m u) (f : FX AZ u w) : RDY A F n m w := h.on (AZ_kw f) fun i k q => f.1 i k fun z => by
  have := AZ_w z
  rcases q with q | q | q
  · omega
  · omega
  · exact this.2.2.2 q
theorem AZ_q {v w : Vv} (h : FX AZ v w) : FQ v w := fun i k q => h.1 i k fun z => q (Or.inl (Or.inl z))
theorem C_minds {w c : Nat} (hA : OK A n m) (hw : w < 2 ^ m) (hc : c < n) {v : Vv} (hr : RDY A F n m v) {Q : Int32 → Vv → Prop} (hQ : ∀ v', FX AZ v v' → Q (nI (mnN A F n m w c)) v') : m_W_minds (nI w) (nI c) v Q := by
  have h5 := hA.2.1
  have h6 := hA.1
  have h2m := two m h5
  obtain ⟨-, hC, -, hR, -, hF⟩ := hr
  refine s_W_minds ⟨ib_nI (by omega) (by decide), ib_nI (by omega) (by decide), ?_⟩
  rw [ix_nI (by omega), ix_nI (by omega), (hC.2.2.1 c hc).1, (hC.2.2.1 c hc).2.1, ((hF.2.2.2 w hw).1 c hc).2]
  refine C_says (q := 2) hR.ct (by decide) fun w1 f1 => P_bounded (by decide) ?_
  rw [← mindv_N] at hQ
  exact hQ w1 f1
theorem C_wrong {w : Nat} (hA : OK A n m) (hw : w < 2 ^ m) {v : Vv} (hr : RDY A F n m v) {Q : Int32 → Vv → Prop} (hQ : ∀ v', FX AZ v v' → Q (nI (sumN (wrF A F n m w) n)) v') : m_K_wrongIn (nI w) v Q := by
  have h5 := hA.2.1
  have h6 := hA.1
  have h2m := two m h5
  have key : ∀ j c : Nat, c + j = n → ∀ u, FX AZ v u → k_K_wrongIn_5 (nI w) (nI (sumN (wrF A F n m w) c)) (nI c) u Q := by
    intro j
    induction j with
    | zero =>
      intro c e u f
      obtain rfl : c = n := e
      refine s_K_wrongIn_5 ?_
      rw [(hr.az f).2.1.1, if_neg (nI_nlt (Nat.le_refl _) (by omega))]
      exact hQ u f
    | succ j ih =>
      intro c e u f
      have hc : c < n := by omega
      have hru := hr.az f
      have ih := ih (c + 1) (by omega)
      rw [show sumN (wrF A F n m w) (c + 1) = sumN (wrF A F n m w) c + wrF A F n m w c from rfl] at ih
      unfold wrF at ih
      refine s_K_wrongIn_5 ?_
      rw [hru.2.1.1, if_pos (nI_lt (by omega) (by omega)), ix_nI (by omega), (hru.2.2.2.2.2.2.2.2 w hw).2.1]
      refine ⟨ib_nI (by omega) (by decide), ?_⟩
      by_cases z : ((rgt A F n m w n >>> (nI c &&& 31)) &&& 1) = 0
      · rw [if_pos z] at ih
        rw [if_pos z]
        refine C_minds hA hw hc hru fun v' f' => s_K_wrongIn_41 ?_
        rw [nI_1, nI_add]
        exact ih v' (f.tr f')
      · rw [if_neg z, Nat.add_zero] at ih
        rw [if_neg z]
        refine s_K_wrongIn_41 ?_
        rw [nI_1]
        exact ih u f
  exact s_K_wrongIn (key n 0 (by omega) v (FX.rf _ _))
theorem C_bad (hA : OK A n m) {v : Vv} (hr : RDY A F n m v) {Q : Int64 → Vv → Prop} (hQ : ∀ v', FX AZ v v' → Q (nL (sumN (badN A F n m) (2 ^ m))) v') : m_K_badness v Q := by
  have h5 := hA.2.1
  have h6 := hA.1
  have h2m := two m h5
  have key : ∀ j w : Nat, w + j = 2 ^ m → ∀ u, FX AZ v u → k_K_badness_5 (nL (sumN (badN A F n m) w)) (nI w) u Q := by
    intro j
    induction j with
    | zero =>
      intro w e u f
      obtain rfl : w = 2 ^ m := e
      refine s_K_badness_5 ?_
      rw [(hr.az f).2.2.2.2.2.1, if_neg (nI_nlt (Nat.le_refl _) (by omega))]
      exact hQ u f
    | succ j ih =>
      intro w e u f
      have hw : w < 2 ^ m := by omega
      have hru := hr.az f
      obtain ⟨r1, r2, r3, r4, r5⟩ := hru.2.2.2.2.2.2.2.2 w hw
      have ih := ih (w + 1) (by omega)
      rw [show sumN (badN A F n m) (w + 1) = sumN (badN A F n m) w + badN A F n m w from rfl] at ih
      unfold badN at ih
      refine s_K_badness_5 ?_
      rw [hru.2.2.2.2.2.1, if_pos (nI_lt hw (by omega)), ix_nI (by omega), r4, r3, chc_N]
      refine ⟨ib_nI (by omega) (by decide), ?_⟩
      by_cases z : fit A F n m w = true
      · rw [if_pos z] at ih
        rw [if_pos z, if_neg (by decide)]
        by_cases y : 0 < chN A F w m
        · rw [if_pos ((nL_pos (chN_63 hA w)).mpr y)]
          refine C_wrong hA hw hru fun v' f' => s_K_badness_55 ?_
          have hwr := wr_le (F := F) hA w n (Nat.le_refl _)
          have e1 : nL (chN A F w m) * (nI (sumN (wrF A F n m w) n)).toInt64 = nL (chN A F w m * sumN (wrF A F n m w) n) := by
            rw [nI_64 (by omega), nL_mul]
          rw [e1, nL_add, nI_1]
          exact ih v' (f.tr f')
        · rw [if_neg (fun q => y ((nL_pos (chN_63 hA w)).mp q))]
          rw [show chN A F w m = 0 by omega, Nat.zero_mul, Nat.add_zero] at ih
          refine s_K_badness_55 ?_
          rw [nI_1]
          exact ih u f
      · rw [if_neg z, Nat.add_zero] at ih
        rw [if_neg z, if_pos rfl]
        refine s_K_badness_55 ?_
        rw [nI_1]
        exact ih u f
  exact s_K_badness (key (2 ^ m) 0 (by omega) v (FX.rf _ _))
theorem RDY.mz {u w : Vv} (h : RDY A F n m u) (f : F2 AMz LMz u w) : RDY A F n m w := h.on ⟨fun i k q => f.1 i k (by unfold AMz; unfold TXs at q; omega), fun k => f.2.1 _ _ (by unfold LMz; omega), f.2.1 _ _ (by unfold LMz; omega), f.2.2⟩ fun i k q => f.1 i k (by unfold AMz; unfold TXs at q; omega)
theorem mz_q {v w : Vv} (f : F2 AMz LMz v w) : FQ v w := fun i k q => f.1 i k fun z => q (by unfold AMz at z; unfold AQu; omega)
theorem mz_kw {v w : Vv} (f : F2 AMz LMz v w) : KW v w := ⟨fun i k q => f.1 i k (by unfold AMz; unfold TXs at q; omega), fun k => f.2.1 _ _ (by unfold LMz; omega), f.2.1 _ _ (by unfold LMz; omega), f.2.2⟩
theorem MROW.mz {w : Nat} {u v : Vv} (h : MROW A F n m w u) (f : F2 AMz LMz u v) : MROW A F n m w v := by
  obtain ⟨a, b, c, d, e⟩ := h
  refine ⟨fun y hy => ?_, ?_, ?_, ?_, ?_⟩
  · rw [f.1 _ _ (by unfold AMz; omega), f.1 _ _ (by unfold AMz; omega)]; exact a y hy
  · rw [f.1 _ _ (by unfold AMz; omega)]; exact b
  · rw [f.2.1 _ _ (by unfold LMz; omega)]; exact c
  · rw [f.1 _ _ (by unfold AMz; omega)]; exact d
  · rw [f.1 _ _ (by unfold AMz; omega)]; exact e
theorem M_bad_loop (hA : OK A n m) {p : Int32} {v : Vv} (hr : RDY A F n m v) (hR : ∀ x, x < 2 ^ m → MROW A F n m x v) (ha : v.2.1 154 37 = allc A F n m (2 ^ m)) {Q : Int64 → Vv → Prop} (hQ : ∀ v', F2 AMz LMz v v' → m_M_lowest (nL (sumN (badN A F n m) (2 ^ m))) (allc A F n m (2 ^ m)) p v' (fun x v => Q x v)) : k_M_bad_36 p 0 0 v Q := by
  have h5 := hA.2.1
  have h6 := hA.1
  have h2m := two m h5
  have key : ∀ j w : Nat, w + j = 2 ^ m → ∀ u, F2 AMz LMz v u → k_M_bad_36 p (nL (sumN (badN A F n m) w)) (nI w) u Q := by
    intro j
    induction j with
    | zero =>
      intro w e u f
      obtain rfl : w = 2 ^ m := e
      refine s_M_bad_36 (M_worldsN h5 (hr.mz f).2.2.1.2.1 ?_)
      rw [if_neg (nI_nlt (Nat.le_refl _) (by omega)), f.2.1 154 37 (by unfold LMz; omega), ha]
      exact hQ u f
    | succ j ih =>
      intro w e u f
      have hw : w < 2 ^ m := by omega
      have ih := ih (w + 1) (by omega)
      rw [show sumN (badN A F n m) (w + 1) = sumN (badN A F n m) w + badN A F n m w from rfl] at ih
      unfold badN at ih
      refine s_M_bad_36 (M_worldsN h5 (hr.mz f).2.2.1.2.1 ?_)
      rw [if_pos (nI_lt hw (by omega))]
      by_cases z : fit A F n m w = true
      · rw [if_pos z] at ih
        have inner : ∀ j c : Nat, c + j = n → ∀ u, F2 AMz LMz v u → k_M_bad_48 p (nL (sumN (badN A F n m) w + chN A F w m * sumN (wrF A F n m w) c)) (nI w) (nI c) u Q := by
          intro j
          induction j with
          | zero =>
            intro c e u f
            obtain rfl : c = n := e
            refine s_M_bad_48 ?_
            rw [(hr.mz f).2.2.1.1, if_neg (nI_nlt (Nat.le_refl _) (by omega))]
            refine s_M_bad_124 ?_
            rw [nI_1]
            exact ih u f
          | succ j ih2 =>
            intro c e u f
            have hc : c < n := by omega
            have hru := hr.mz f
            obtain ⟨q1, q2, q3, q4, q5⟩ := (hR w hw).mz f
            have ih2 := ih2 (c + 1) (by omega)
            rw [show sumN (wrF A F n m w) (c + 1) = sumN (wrF A F n m w) c + wrF A F n m w c from rfl] at ih2
            unfold wrF at ih2
            refine s_M_bad_48 ?_
            rw [hru.2.2.1.1, if_pos (nI_lt (by omega) (by omega)), six, ix_nI (by omega), ix_nI (by omega), q4, if_pos z, if_pos rfl, q2, q3, (q1 c hc).2, chc_N]
            refine ⟨ib_nI (by omega) (by decide), ?_⟩
            by_cases y : ((rgt A F n m w n >>> (nI c &&& 31)) &&& 1) = 0
            · rw [if_pos y, Nat.mul_add, ← Nat.add_assoc] at ih2
              rw [if_pos y]
              refine ⟨ib_nI (by omega) (by decide), M_minds hA hc hru.2.2.1 hru.2.2.2.2.1 fun v' f' => s_M_bad_116 ?_⟩
              have e1 : mindv A F c ((gone A F n w m).1.2 c) = nI (mnN A F n m w c) := mindv_N w c
              have hmn : mnN A F n m w c ≤ 99 := by
                have h := mindv_rng (A := A) (F := F) c (wdn A F n m w c)
                unfold mnN
                omega
              rw [e1, nI_64 (by omega), nL_mul, nL_add, nI_1]
              exact ih2 v' (f.tr f')
            · rw [if_neg y, Nat.add_zero] at ih2
              rw [if_neg y]
              refine s_M_bad_116 ?_
              rw [Int64.add_zero, nI_1]
              exact ih2 u f
        have h := inner n 0 (by omega) u f
        rw [show sumN (wrF A F n m w) 0 = 0 from rfl, Nat.mul_zero, Nat.add_zero] at h
        exact h
      · rw [if_neg z, Nat.add_zero] at ih
        have hru := hr.mz f
        obtain ⟨q1, q2, q3, q4, q5⟩ := (hR w hw).mz f
        refine s_M_bad_48 ?_
        rw [hru.2.2.1.1, ix_nI (by omega), q4, if_neg z, if_neg (show ¬ (0 : Int32) = 1 by decide)]
        have hgo : k_M_bad_124 p (nL (sumN (badN A F n m) w)) (nI w) u Q := by
          refine s_M_bad_124 ?_
          rw [nI_1]
          exact ih u f
        by_cases y : (0 : Int32) < nI n
        · rw [if_pos y]
          exact ⟨ib_nI (by omega) (by decide), hgo⟩
        · rw [if_neg y]
          exact hgo
  exact key (2 ^ m) 0 (by omega) v (F2.rf _ _ _)
theorem bad_step {a : Int32} {v : Vv} (h : INW v) {Q : Int64 → Int64 → Vv → Prop} (hQ : ∀ r w, FQ v w → CACHE w → Q r r w) : m_P_bad a v (fun r v1 => m_M_bad a v1 (fun r' v2 => Q r r' v2)) := by
  refine s_P_bad (P_isPart ?_)
  by_cases z : a = 0 ∨ a = 1
  · rw [decide_eq_true z, if_pos rfl]
    refine worked_R h fun A F n m u f hr hcc e1 e2 => ⟨rfl, C_bad hr.1 hr fun u2 f2 => ?_⟩
    have h2m := two m hr.1.2.1
    have hr2 := hr.az f2
    have hb1 := bad_le (F := F) hr.1 (2 ^ m) h2m
    have hb2 := all_small (F := F) hr.1 (2 ^ m) h2m
    rw [hr2.2.2.2.2.2.2.1, allc_N]
    refine P_lowest hb1 (by omega) (s_M_bad (M_partI ?_))
    rw [decide_eq_true z, if_pos rfl]
    refine gathers_R (f.q.tr (AZ_q f2)) hr2 fun w f' hrow ha' hc' hq hr' => ?_
    rw [ha', allc_N]
    by_cases y : sumN (fitN A F n m) (2 ^ m) = 0
    · rw [if_pos y, if_pos ((nL_z (by omega)).mpr y)]
      exact hQ _ w hq hc'
    · rw [if_neg y, if_neg (fun q => y ((nL_z (by omega)).mp q))]
      refine M_bad_loop hr.1 hr' hrow ha' fun v' f3 => ?_
      rw [allc_N]
      exact M_lowest hb1 (by omega) y (hQ _ v' (hq.tr (mz_q f3)) (hc'.kw (mz_kw f3)))
  · rw [decide_eq_false z, if_neg (by decide)]
    refine s_M_bad (M_partI ?_)
    rw [decide_eq_false z, if_neg (by decide)]
    exact hQ _ v (FQ.rf v) h.2.2.2
end BD2
-- tellsBack
section TB
variable (A : Cf) (F : Rl) (n m : Nat) (ce : Nat → Int32)
def asT (w : Nat) : Prop := ∀ c, c < n → (ce c = 0 ∨ ce c = 1) → ce c = ((rgt A F n m w n >>> (nI c &&& 31)) &&& 1)
def tbW (w : Nat) : Prop := can A F m w ∧ asT A F n m ce w
noncomputable def hmN : Nat → Nat
  | 0 => 0
  | w + 1 => hmN w + (by classical exact if tbW A F n m ce w then 1 else 0)
noncomputable def likS : Nat → Int32 × Nat
  | 0 => (-1, 0)
  | w + 1 => by classical exact if tbW A F n m ce w ∧ (likS w).2 < chN A F w m then (nI w, chN A F w m) else likS w
noncomputable def whoS : Nat → Int32
  | 0 => nI (2 ^ m) - 1
  | w + 1 => by classical exact if tbW A F n m ce w then whoS w &&& nI w else whoS w
noncomputable def tbR (a : Int32) : Int32 := if a = 0 then nI (hmN A F n m ce (2 ^ m)) else if a = 1 then (likS A F n m ce (2 ^ m)).1 else if hmN A F n m ce (2 ^ m) = 0 then 0 else whoS A F n m ce (2 ^ m)
end TB
section TB2
variable {A : Cf} {F : Rl} {n m : Nat} {ce : Nat → Int32}
theorem hmN_y {w : Nat} (h : tbW A F n m ce w) : hmN A F n m ce (w + 1) = hmN A F n m ce w + 1 := by
  rw [hmN, if_pos h]
theorem hmN_n {w : Nat} (h : ¬ tbW A F n m ce w) : hmN A F n m ce (w + 1) = hmN A F n m ce w := by
  rw [hmN, if_neg h, Nat.add_zero]
theorem whoS_y {w : Nat} (h : tbW A F n m ce w) : whoS A F n m ce (w + 1) = whoS A F n m ce w &&& nI w := by
  rw [whoS, if_pos h]
theorem whoS_n {w : Nat} (h : ¬ tbW A F n m ce w) : whoS A F n m ce (w + 1) = whoS A F n m ce w := by
  rw [whoS, if_neg h]
theorem likS_y {w : Nat} (h : tbW A F n m ce w ∧ (likS A F n m ce w).2 < chN A F w m) : likS A F n m ce (w + 1) = (nI w, chN A F w m) := by
  rw [likS, if_pos h]
theorem likS_n {w : Nat} (h : ¬ (tbW A F n m ce w ∧ (likS A F n m ce w).2 < chN A F w m)) : likS A F n m ce (w + 1) = likS A F n m ce w := by
  rw [likS, if_neg h]
theorem hmN_le : ∀ w, hmN A F n m ce w ≤ w
  | 0 => Nat.le_refl _
  | w + 1 => by
    have := hmN_le w
    by_cases h : tbW A F n m ce w
    · rw [hmN_y h]; omega
    · rw [hmN_n h]; omega
theorem likS_in : ∀ w, likS A F n m ce w = (-1, 0) ∨ ∃ k, k < w ∧ likS A F n m ce w = (nI k, chN A F k m)
  | 0 => Or.inl rfl
  | w + 1 => by
    by_cases h : tbW A F n m ce w ∧ (likS A F n m ce w).2 < chN A F w m
    · rw [likS_y h]; exact Or.inr ⟨w, by omega, rfl⟩
    · rw [likS_n h]
      rcases likS_in w with q | ⟨k, hk, q⟩
      · exact Or.inl q
      · exact Or.inr ⟨k, by omega, q⟩
theorem C_isAsTold (hA : OK A n m) {w t : Nat} (ht : isSheet t) (hw : w < 2 ^ m) {v : Vv} (hC : CA A n m v) (hF : FRESH A F n m v) (hz : v.1 t 2 = nI n) (hce : ∀ c, c < n → v.1 (t + 1) c = ce c) {Q : Bool → Vv → Prop} (hT : tbW A F n m ce w → Q true v) (hN : ¬ tbW A F n m ce w → Q false v) : m_K_isAsTold (nI w) t v Q := by
  have h5 := hA.2.1
  have h6 := hA.1
  have h2m := two m h5
  obtain ⟨r1, r2, r3, r4, r5⟩ := hF.2.2.2 w hw
  refine s_K_isAsTold ?_
  rw [ix_nI (by omega), r3, chc_N]
  refine ⟨ib_nI (by omega) (by decide), ?_⟩
  by_cases y : 0 < chN A F w m
  rotate_left
  · rw [if_neg (fun q => y ((nL_pos (chN_63 hA w)).mp q))]
    exact hN fun q => y q.1
  rw [if_pos ((nL_pos (chN_63 hA w)).mpr y)]
  have key : ∀ j c : Nat, c + j = n → (∀ e, e < c → (ce e = 0 ∨ ce e = 1) → ce e = ((rgt A F n m w n >>> (nI e &&& 31)) &&& 1)) → k_K_isAsTold_16 (nI w) t (nI c) v Q := by
    intro j
    induction j with
    | zero =>
      intro c e h
      obtain rfl : c = n := e
      refine s_K_isAsTold_16 ?_
      rw [hC.1, if_neg (nI_nlt (Nat.le_refl _) (by omega))]
      exact hT ⟨y, h⟩
    | succ j ih =>
      intro c e h
      have hc : c < n := by omega
      refine s_K_isAsTold_16 ?_
      rw [hC.1, if_pos (nI_lt (by omega) (by omega)), hz, if_pos (nI_lt (by omega) (by omega)), ix_nI (by omega), hce c hc]
      refine ⟨ht, ib_nI (by omega) (by decide), ?_⟩
      have go : ((ce c = 0 ∨ ce c = 1) → ce c = ((rgt A F n m w n >>> (nI c &&& 31)) &&& 1)) → k_K_isAsTold_75 (nI w) t (nI c) v Q := fun hc2 => by
        refine s_K_isAsTold_75 ?_
        rw [nI_1]
        refine ih (c + 1) (by omega) fun e he hv => ?_
        by_cases q : e = c
        · rw [q] at hv ⊢; exact hc2 hv
        · exact h e (by omega) hv
      have chk : (ce c = 0 ∨ ce c = 1) → k_K_isAsTold_57 (nI w) t (nI c) (ce c) v Q := fun hv => by
        refine s_K_isAsTold_57 ?_
        rw [ix_nI (by omega), r2]
        refine ⟨ib_nI (by omega) (by decide), ?_⟩
        by_cases q : ce c = ((rgt A F n m w n >>> (nI c &&& 31)) &&& 1)
        · rw [if_pos q]
          exact go fun _ => q
        · rw [if_neg q]
          exact hN fun z => q (z.2 c hc hv)
      by_cases q0 : ce c = 0
      · rw [if_pos q0]; exact chk (Or.inl q0)
      · rw [if_neg q0]
        by_cases q1 : ce c = 1
        · rw [if_pos q1]; exact chk (Or.inr q1)
        · rw [if_neg q1]; exact go fun z => absurd z (by rintro (z | z); exact q0 z; exact q1 z)
  exact key n 0 (by omega) fun e he => absurd he (Nat.not_lt_zero _)
theorem M_isSo (hA : OK A n m) {w s : Nat} (hs : s < 4) (hw : w < 2 ^ m) {v : Vv} (hM : MA A n m v) (hR : ∀ x, x < 2 ^ m → MROW A F n m x v) (hce : ∀ c, c < n → v.1 176 (40 * s + c) = ce c) {Q : Bool → Vv → Prop} (hT : asT A F n m ce w → Q true v) (hN : ¬ asT A F n m ce w → Q false v) : m_M_isSo (nI s) (nI w) v Q := by
  have h5 := hA.2.1
  have h6 := hA.1
  have h2m := two m h5
  have key : ∀ j c : Nat, c + j = n → (∀ e, e < c → (ce e = 0 ∨ ce e = 1) → ce e = ((rgt A F n m w n >>> (nI e &&& 31)) &&& 1)) → k_M_isSo_2 (nI s) (nI w) (nI c) v Q := by
    intro j
    induction j with
    | zero =>
      intro c e h
      obtain rfl : c = n := e
      refine s_M_isSo_2 ?_
      rw [hM.1, if_neg (nI_nlt (Nat.le_refl _) (by omega))]
      exact hT h
    | succ j ih =>
      intro c e h
      have hc : c < n := by omega
      refine s_M_isSo_2 ?_
      have e1 : (40 : Int32) * nI s + nI c = nI (40 * s + c) := by rw [show (40 : Int32) = nI 40 from rfl, nI_mul, nI_add]
      rw [hM.1, if_pos (nI_lt (by omega) (by omega)), e1, ix_nI (by omega), ix_nI (by omega), hce c hc]
      refine ⟨ib_nI (by omega) (by decide), M_partI ?_⟩
      have go : ((ce c = 0 ∨ ce c = 1) → ce c = ((rgt A F n m w n >>> (nI c &&& 31)) &&& 1)) → k_M_isSo_51 (nI s) (nI w) (nI c) v Q := fun hc2 => by
        refine s_M_isSo_51 ?_
        rw [nI_1]
        refine ih (c + 1) (by omega) fun e he hv => ?_
        by_cases q : e = c
        · rw [q] at hv ⊢; exact hc2 hv
        · exact h e (by omega) hv
      by_cases q0 : ce c = 0 ∨ ce c = 1
      · rw [decide_eq_true q0, if_pos rfl, (hR w hw).2.1]
        refine ⟨ib_nI (by omega) (by decide), ?_⟩
        by_cases q : ce c = ((rgt A F n m w n >>> (nI c &&& 31)) &&& 1)
        · rw [if_pos q]
          exact go fun _ => q
        · rw [if_neg q]
          exact hN fun z => q (z c hc q0)
      · rw [decide_eq_false q0, if_neg (by decide)]
        exact go fun z => absurd z q0
  exact s_M_isSo (key n 0 (by omega) fun e he => absurd he (Nat.not_lt_zero _))
theorem C_tells (hA : OK A n m) {t : Nat} (ht : isSheet t) {v : Vv} (hC : CA A n m v) (hF : FRESH A F n m v) (hz : v.1 t 2 = nI n) (hce : ∀ c, c < n → v.1 (t + 1) c = ce c) {Q : Int32 → Vv → Prop} : (Q (nI (hmN A F n m ce (2 ^ m))) v → m_K_howManyAsTold t v Q) ∧ (Q (likS A F n m ce (2 ^ m)).1 v → m_K_likeliestAsTold t v Q) ∧ (Q (if hmN A F n m ce (2 ^ m) = 0 then 0 else whoS A F n m ce (2 ^ m)) v → m_K_whoCameAsTold t v Q) := by
  have h5 := hA.2.1
  have h6 := hA.1
  have h2m := two m h5
  refine ⟨fun hQ => ?_, fun hQ => ?_, fun hQ => ?_⟩
  · have key : ∀ j w : Nat, w + j = 2 ^ m → k_K_howManyAsTold_5 t (nI (hmN A F n m ce w)) (nI w) v Q := by
      intro j
      induction j with
      | zero =>
        intro w e
        obtain rfl : w = 2 ^ m := e
        refine s_K_howManyAsTold_5 ?_
        rw [hF.1, if_neg (nI_nlt (Nat.le_refl _) (by omega))]
        exact hQ
      | succ j ih =>
        intro w e
        have hw : w < 2 ^ m := by omega
        have ih := ih (w + 1) (by omega)
        refine s_K_howManyAsTold_5 ?_
        rw [hF.1, if_pos (nI_lt hw (by omega))]
        refine C_isAsTold hA ht hw hC hF hz hce (fun q => ?_) fun q => ?_
        · rw [if_pos rfl, nI_1, nI_1]
          rw [hmN_y q] at ih
          exact ih
        · rw [if_neg (by decide), nI_1]
          rw [hmN_n q] at ih
          exact ih
    exact s_K_howManyAsTold (key (2 ^ m) 0 (by omega))
  · have key : ∀ j w : Nat, w + j = 2 ^ m → k_K_likeliestAsTold_8 t (likS A F n m ce w).1 (nL (likS A F n m ce w).2) (nI w) v Q := by
      intro j
      induction j with
      | zero =>
        intro w e
        obtain rfl : w = 2 ^ m := e
        refine s_K_likeliestAsTold_8 ?_
        rw [hF.1, if_neg (nI_nlt (Nat.le_refl _) (by omega))]
        exact hQ
      | succ j ih =>
        intro w e
        have hw : w < 2 ^ m := by omega
        have ih := ih (w + 1) (by omega)
        have hb : (likS A F n m ce w).2 < 2 ^ 63 := by
          rcases likS_in (A := A) (F := F) (n := n) (m := m) (ce := ce) w with q | ⟨k, hk, q⟩
          · rw [q]; exact by decide
          · rw [q]; exact chN_63 hA k
        refine s_K_likeliestAsTold_8 ?_
        rw [hF.1, if_pos (nI_lt hw (by omega)), ix_nI (by omega), (hF.2.2.2 w hw).2.2.1, chc_N]
        refine ⟨ib_nI (by omega) (by decide), ?_⟩
        by_cases y : (likS A F n m ce w).2 < chN A F w m
        · rw [if_pos ((nL_lt hb (chN_63 hA w)).mpr y)]
          refine C_isAsTold hA ht hw hC hF hz hce (fun q => ?_) fun q => ?_
          · rw [if_pos rfl, if_pos rfl, nI_1, (hF.2.2.2 w hw).2.2.1, chc_N]
            rw [likS_y ⟨q, y⟩] at ih
            exact ih
          · rw [if_neg (by decide), if_neg (by decide), nI_1]
            rw [likS_n (fun z => q z.1)] at ih
            exact ih
        · rw [if_neg (fun q => y ((nL_lt hb (chN_63 hA w)).mp q))]
          refine s_K_likeliestAsTold_53 ?_
          rw [nI_1]
          rw [likS_n (fun z => y z.2)] at ih
          exact ih
    exact s_K_likeliestAsTold (key (2 ^ m) 0 (by omega))
  · have key : ∀ j w : Nat, w + j = 2 ^ m → k_K_whoCameAsTold_13 t (whoS A F n m ce w) (if hmN A F n m ce w = 0 then 0 else 1) (nI w) v Q := by
      intro j
      induction j with
      | zero =>
        intro w e
        obtain rfl : w = 2 ^ m := e
        refine s_K_whoCameAsTold_13 ?_
        rw [hF.1, if_neg (nI_nlt (Nat.le_refl _) (by omega))]
        by_cases q : hmN A F n m ce (2 ^ m) = 0
        · rw [if_pos q] at hQ ⊢
          rw [if_pos rfl]
          exact hQ
        · rw [if_neg q] at hQ ⊢
          rw [if_neg (by decide)]
          exact hQ
      | succ j ih =>
        intro w e
        have hw : w < 2 ^ m := by omega
        have ih := ih (w + 1) (by omega)
        refine s_K_whoCameAsTold_13 ?_
        rw [hF.1, if_pos (nI_lt hw (by omega))]
        refine C_isAsTold hA ht hw hC hF hz hce (fun q => ?_) fun q => ?_
        · rw [if_pos rfl, if_pos rfl, nI_1]
          rw [hmN_y q, whoS_y q, if_neg (by omega)] at ih
          exact ih
        · rw [if_neg (by decide), if_neg (by decide), nI_1]
          rw [hmN_n q, whoS_n q] at ih
          exact ih
    refine s_K_whoCameAsTold ?_
    rw [hF.1]
    exact key (2 ^ m) 0 (by omega)
theorem M_tells_loop (hA : OK A n m) {s : Nat} (hs : s < 4) {a : Int32} (ha : 0 ≤ a.toInt ∧ a.toInt ≤ 2) {v : Vv} (hM : MA A n m v) (hR : ∀ x, x < 2 ^ m → MROW A F n m x v) (hce : ∀ c, c < n → v.1 176 (40 * s + c) = ce c) {Q : Int32 → Vv → Prop} (hQ : Q (tbR A F n m ce a) v) : k_M_tellsBack_70 (nI s) a 0 (-1) (nI (2 ^ m) - 1) 0 v Q := by
  have h5 := hA.2.1
  have h6 := hA.1
  have h2m := two m h5
  have key : ∀ j w : Nat, w + j = 2 ^ m → k_M_tellsBack_70 (nI s) a (nI (hmN A F n m ce w)) (likS A F n m ce w).1 (whoS A F n m ce w) (nI w) v Q := by
    intro j
    induction j with
    | zero =>
      intro w e
      obtain rfl : w = 2 ^ m := e
      refine s_M_tellsBack_70 (M_worldsN h5 hM.2.1 ?_)
      rw [if_neg (nI_nlt (Nat.le_refl _) (by omega))]
      unfold tbR at hQ
      have hz : nI (hmN A F n m ce (2 ^ m)) = 0 ↔ hmN A F n m ce (2 ^ m) = 0 := by
        have := hmN_le (A := A) (F := F) (n := n) (m := m) (ce := ce) (2 ^ m)
        rw [i_eq, nI_tI (by omega), t_0]
        omega
      by_cases y0 : a = 0
      · rw [if_pos y0] at hQ ⊢
        rw [if_pos (show a < 2 by rw [y0]; decide)]
        exact hQ
      · rw [if_neg y0] at hQ ⊢
        by_cases y1 : a = 1
        · rw [if_pos y1] at hQ
          rw [if_pos (show a < 2 by rw [y1]; decide)]
          exact hQ
        · rw [if_neg y1] at hQ
          rw [if_neg (show ¬ a < 2 by rw [Int32.lt_iff_toInt_lt, t_2]; rw [i_eq, t_0] at y0; rw [i_eq, t_1] at y1; omega)]
          by_cases q : hmN A F n m ce (2 ^ m) = 0
          · rw [if_pos q] at hQ
            rw [if_pos (hz.mpr q)]
            exact hQ
          · rw [if_neg q] at hQ
            rw [if_neg (fun z => q (hz.mp z))]
            exact hQ
    | succ j ih =>
      intro w e
      have hw : w < 2 ^ m := by omega
      have ih := ih (w + 1) (by omega)
      refine s_M_tellsBack_70 (M_worldsN h5 hM.2.1 ?_)
      rw [if_pos (nI_lt hw (by omega)), ix_nI (by omega), (hR w hw).2.2.1, chc_N]
      refine ⟨ib_nI (by omega) (by decide), ?_⟩
      have skip : ¬ tbW A F n m ce w → k_M_tellsBack_144 (nI s) a (nI (hmN A F n m ce w)) (likS A F n m ce w).1 (whoS A F n m ce w) (nI w) v Q := fun q => by
        refine s_M_tellsBack_144 ?_
        rw [nI_1]
        rw [hmN_n q, whoS_n q, likS_n (fun z => q z.1)] at ih
        exact ih
      by_cases y : 0 < chN A F w m
      rotate_left
      · rw [if_neg (fun q => y ((nL_pos (chN_63 hA w)).mp q))]
        exact skip fun q => y q.1
      rw [if_pos ((nL_pos (chN_63 hA w)).mpr y)]
      refine M_isSo hA hs hw hM hR hce (fun q => ?_) fun q => ?_
      rotate_left
      · rw [if_neg (by decide)]
        exact skip fun z => q z.2
      rw [if_pos rfl]
      have hq : tbW A F n m ce w := ⟨y, q⟩
      rw [hmN_y hq, whoS_y hq] at ih
      rcases likS_in (A := A) (F := F) (n := n) (m := m) (ce := ce) w with z | ⟨k, hk, z⟩
      · rw [likS_y ⟨hq, by rw [z]; exact y⟩] at ih
        rw [z, if_pos rfl]
        refine s_M_tellsBack_135 (s_M_tellsBack_142 (s_M_tellsBack_144 ?_))
        rw [nI_1, nI_1]
        exact ih
      · rw [z, if_neg (nI_ne (by omega)), ix_nI (by omega), (hR k (by omega)).2.2.1, (hR w hw).2.2.1, chc_N, chc_N]
        refine ⟨ib_nI (by omega) (by decide), ?_⟩
        by_cases x : chN A F k m < chN A F w m
        · rw [likS_y ⟨hq, by rw [z]; exact x⟩] at ih
          rw [if_pos ((nL_lt (chN_63 hA k) (chN_63 hA w)).mpr x)]
          refine s_M_tellsBack_135 (s_M_tellsBack_142 (s_M_tellsBack_144 ?_))
          rw [nI_1, nI_1]
          exact ih
        · rw [likS_n (fun q2 => by have := q2.2; rw [z] at this; exact x this), z] at ih
          rw [if_neg (fun q2 => x ((nL_lt (chN_63 hA k) (chN_63 hA w)).mp q2))]
          refine s_M_tellsBack_142 (s_M_tellsBack_144 ?_)
          rw [nI_1, nI_1]
          exact ih
  exact key (2 ^ m) 0 (by omega)
theorem tells_step {a b : Int32} {v : Vv} (h : INW v) (hrs : RS v) {Q : Int32 → Int32 → Vv → Prop} (hQ : ∀ r w, FQ v w → CACHE w → Q r r w) : m_P_tellsBack a b v (fun r v1 => m_M_tellsBack a b v1 (fun r' v2 => Q r r' v2)) := by
  obtain ⟨n, m, h6, h5, n1, n2, m1, m2⟩ := HO_nm h.1
  have h0 : ∀ r, Q r r v := fun r => hQ r v (FQ.rf v) h.2.2.2
  refine s_P_tellsBack (P_isSheet ?_)
  by_cases c1 : 0 ≤ a.toInt ∧ a.toInt < 4
  rotate_left
  · rw [decide_eq_false c1, if_neg (by decide)]
    refine s_M_tellsBack (M_isSheet ?_)
    rw [decide_eq_false c1, if_neg (by decide)]
    exact h0 _
  obtain ⟨s, hs, rfl⟩ := nI_of3 (x := a) (n := 4) c1.1 c1.2
  rw [decide_eq_true c1, if_pos rfl, ix_nI (by omega)]
  have hM : ∀ {u : Vv} {R : Int32 → Vv → Prop}, (if 0 ≤ b.toInt ∧ b.toInt ≤ 2 then (if u.1 173 s = 0 then R (-11) u else if u.1 175 s = u.1 154 11 then m_M_gathers u (fun v11 => m_M_worlds v11 (fun x12 v13 => k_M_tellsBack_70 (nI s) b 0 (-1) (x12 - 1) 0 v13 R)) else R (-2) u) else R (-2) u) → m_M_tellsBack (nI s) b u R := by
    intro u R hh
    refine s_M_tellsBack (M_isSheet ?_)
    rw [decide_eq_true c1, if_pos rfl]
    refine M_in ?_
    rw [Int32.toInt_toInt64, l_0, l_2]
    by_cases c2 : 0 ≤ b.toInt ∧ b.toInt ≤ 2
    · rw [if_pos c2] at hh
      rw [decide_eq_true c2, if_pos rfl, ix_nI (by omega)]
      exact ⟨ib_nI (by omega) (by decide), hh⟩
    · rw [if_neg c2] at hh
      rw [decide_eq_false c2, if_neg (by decide)]
      exact hh
  have hno : ¬ (0 ≤ b.toInt ∧ b.toInt ≤ 2) → m_M_tellsBack (nI s) b v (fun r' v2 => Q (-2) r' v2) := fun c2 => hM (by rw [if_neg c2]; exact h0 _)
  by_cases c2 : b < 0
  · rw [if_pos c2]
    rw [Int32.lt_iff_toInt_lt, t_0] at c2
    exact hno (by omega)
  rw [if_neg c2]
  by_cases c3 : (2 : Int32) < b
  · rw [if_pos c3]
    rw [Int32.lt_iff_toInt_lt, t_2] at c3
    exact hno (by omega)
  rw [if_neg c3]
  rw [Int32.lt_iff_toInt_lt, t_0] at c2
  rw [Int32.lt_iff_toInt_lt, t_2] at c3
  have c4 : 0 ≤ b.toInt ∧ b.toInt ≤ 2 := by omega
  refine ⟨ib_nI (by omega) (by decide), ?_⟩
  obtain ⟨hs1, hs2⟩ := hrs s hs
  rcases hs1 with ⟨d1, d2⟩ | ⟨d1, d2, d3, d4, d5⟩
  · rw [if_pos d2]
    refine hM ?_
    rw [if_pos c4, if_pos d1]
    exact h0 _
  rw [if_neg (fun q => by rw [q] at d2; exact absurd d2 (by decide)), n1]
  by_cases c5 : v.1 (146 + 2 * s) 2 = nI n
  rotate_left
  · rw [if_neg c5]
    refine hM ?_
    rw [if_pos c4, d1, if_neg (show ¬ (1 : Int32) = 0 by decide), d4, n2, if_neg c5]
    exact h0 _
  rw [if_pos c5]
  have hsh : isSheet (146 + 2 * s) := by
    have := isSheet_of (x := nI s) c1
    rwa [ix_nI (by omega)] at this
  -- both sides
  have fin : ∀ A F n' m' u, FK v u → RDY A F n' m' u → CACHE u → v.1 74 2 = nI n' → v.1 74 3 = nI m' → (∀ c, c < n' → u.1 (146 + 2 * s + 1) c = v.1 (146 + 2 * s + 1) c) ∧ isSheet (146 + 2 * s) ∧ u.1 (146 + 2 * s) 2 = nI n' ∧ m_M_tellsBack (nI s) b u (fun r' v2 => Q (tbR A F n' m' (v.1 (146 + 2 * s + 1)) b) r' v2) := fun A F n' m' u f hr hcc e1 e2 => by
    obtain rfl := nm_eq (by have := hr.1.1; omega) (by omega) (e1.symm.trans n1)
    have lo : ∀ i k, 146 ≤ i → u.1 i k = v.1 i k := fun i k hi => f.1 _ _ fun z => by
      unfold AWK at z
      rcases z with z | z
      · have := AZ_w z; omega
      · omega
    refine ⟨fun c _ => lo _ _ (by omega), hsh, by rw [lo _ _ (by omega)]; exact c5, hM ?_⟩
    rw [if_pos c4, lo _ _ (by decide), d1, if_neg (show ¬ (1 : Int32) = 0 by decide), lo _ _ (by decide), d4, lo _ _ (by decide), n2, if_pos c5]
    refine gathers_R f.q hr fun w f' hrow ha hc' hq hr' => M_worldsN hr.1.2.1 hr'.2.2.1.2.1 ?_
    refine M_tells_loop hr.1 hs c4 hr'.2.2.1 hrow (fun c hc => ?_) (hQ _ w hq hc')
    rw [f'.1 _ _ (by unfold AG; omega), lo _ _ (by decide)]
    exact d5 c (by rw [c5, nI_tI (by omega)]; omega)
  by_cases y0 : b = 0
  · rw [if_pos y0]
    refine worked_R h fun A F n' m' u f hr hcc e1 e2 => ⟨rfl, ?_⟩
    obtain ⟨g1, g2, g3, g4⟩ := fin A F n' m' u f hr hcc e1 e2
    refine (C_tells hr.1 g2 hr.2.1 hr.2.2.2.2.2 g3 g1).1 ?_
    unfold tbR at g4
    rw [if_pos y0] at g4
    exact g4
  · rw [if_neg y0]
    by_cases y1 : b = 1
    · rw [if_pos y1]
      refine worked_R h fun A F n' m' u f hr hcc e1 e2 => ⟨rfl, ?_⟩
      obtain ⟨g1, g2, g3, g4⟩ := fin A F n' m' u f hr hcc e1 e2
      refine (C_tells hr.1 g2 hr.2.1 hr.2.2.2.2.2 g3 g1).2.1 ?_
      unfold tbR at g4
      rw [if_neg y0, if_pos y1] at g4
      exact g4
    · rw [if_neg y1]
      refine worked_R h fun A F n' m' u f hr hcc e1 e2 => ⟨rfl, ?_⟩
      obtain ⟨g1, g2, g3, g4⟩ := fin A F n' m' u f hr hcc e1 e2
      refine (C_tells hr.1 g2 hr.2.1 hr.2.2.2.2.2 g3 g1).2.2 ?_
      unfold tbR at g4
      rw [if_neg y0, if_neg y1] at g4
      exact g4
end TB2
