-- look
section LK
variable (A : Cf) (F : Rl) (n m : Nat)
noncomputable def lkG (c : Nat) : Nat := kG (sp A F n m) (sk A F n m c) (tg A F m) (2 ^ m)
noncomputable def lookS : Nat → Int32 × Int64
  | 0 => (-1, 0)
  | c + 1 => if csa A c = -1 then (if (lookS c).1 = -1 then nI c else if nL (lkG A F n m c) < (lookS c).2 then nI c else (lookS c).1, if (lookS c).1 = -1 then nL (lkG A F n m c) else if nL (lkG A F n m c) < (lookS c).2 then nL (lkG A F n m c) else (lookS c).2) else lookS c
end LK
section LK2
variable {A : Cf} {F : Rl} {n m : Nat}
theorem lkG_le (hA : OK A n m) (c : Nat) : lkG A F n m c < 2 ^ 63 := by
  have := kG_bound (p := sp A F n m) (kf := sk A F n m c) (tg_le (F := F) hA) (two m hA.2.1)
  unfold lkG
  omega
theorem C_saying (hA : OK A n m) {v : Vv} (hF : FRESH A F n m v) {c : Nat} (hc : c < n) {Q : Int64 → Vv → Prop} (hQ : ∀ v', F2 ASC LSC v v' → Q (nL (lkG A F n m c)) v') : m_K_chanceOfSaying (nI c) v Q := by
  have h5 := hA.2.1
  have h6 := hA.1
  have h2m := two m h5
  refine s_K_chanceOfSaying ?_
  have key : ∀ j w : Nat, w + j = 2 ^ m → ∀ u, F2 ASC LSC v u → SM (sp A F n m) (sk A F n m c) (tg A F m) w u → k_K_chanceOfSaying_10 (nI c) (nI w) u Q := by
    intro j
    induction j with
    | zero =>
      intro w e u f hs
      obtain rfl : w = 2 ^ m := e
      refine s_K_chanceOfSaying_10 ?_
      rw [(hF.on h5 f.sk).1, if_neg (nI_nlt (Nat.le_refl _) (by omega))]
      exact U_greatest (tg_le hA) h2m hs (hQ u f)
    | succ j ih =>
      intro w e u f hs
      have hw : w < 2 ^ m := by omega
      have hFu := hF.on h5 f.sk
      obtain ⟨r1, r2, r3, r4, r5⟩ := hFu.2.2.2 w hw
      refine s_K_chanceOfSaying_10 ?_
      rw [hFu.1, if_pos (nI_lt hw (by omega)), ix_nI (by omega), r4]
      refine ⟨ib_nI (by omega) (by decide), ?_⟩
      by_cases z : fit A F n m w = true
      · rw [if_pos z, if_neg (by decide)]
        refine s_W_says ⟨ib_nI (by omega) (by decide), ib_nI (by omega) (by decide), ?_⟩
        rw [ix_nI (by omega), ix_nI (by omega), r5, (r1 c hc).1]
        refine JM_day ?_
        rw [r3, chc_N]
        refine U_add (p := sp A F n m) (kf := sk A F n m c) (g := tg A F m) (by omega) hs z fun v' f' hs' => s_K_chanceOfSaying_46 ?_
        rw [nI_1]
        exact ih (w + 1) (by omega) v' (f.tr f') hs'
      · rw [if_neg z, if_pos rfl]
        refine s_K_chanceOfSaying_46 ?_
        rw [nI_1]
        exact ih (w + 1) (by omega) u f (hs.skip z)
  refine key (2 ^ m) 0 (by omega) _ ((F2.rf _ _ _).sI (by unfold ASC; omega) _) ⟨0, Nat.le_refl _, sI_same _ _ _ _, fun k hk => absurd hk (Nat.not_lt_zero _), fun k l hk => absurd hk (Nat.not_lt_zero _), fun x hx => absurd hx (Nat.not_lt_zero _), fun k hk => absurd hk (Nat.not_lt_zero _), rfl⟩
theorem C_look (hA : OK A n m) {v : Vv} (hC : CA A n m v) (hF : FRESH A F n m v) {Q : Int32 → Vv → Prop} (hQ : ∀ v', F2 ASC LSC v v' → Q (if seenN (csa A) n = 0 then -1 else (lookS A F n m n).1) v') : m_K_nextToSee v Q := by
  have h5 := hA.2.1
  have h6 := hA.1
  have h2m := two m h5
  refine s_K_nextToSee (H_seen (h := 74) (by unfold isHouse; decide) hC.1 h6 ?_)
  have es : seenN (fun c => v.1 (74 + 3 + c) 3) n = seenN (csa A) n := seenN_congr fun c hc => (hC.2.2.1 c hc).2.2.2
  rw [es]
  have hs := seenN_le (csa A) n
  by_cases z : seenN (csa A) n = 0
  · rw [if_pos z] at hQ
    rw [z, if_pos (show nI 0 = 0 from rfl)]
    exact hQ v (F2.rf _ _ _)
  rw [if_neg z] at hQ
  rw [if_neg (fun q => z (by rw [i_eq, nI_tI (by omega), t_0] at q; omega))]
  have key : ∀ j c : Nat, c + j = n → ∀ u, F2 ASC LSC v u → k_K_nextToSee_19 (lookS A F n m c).1 (lookS A F n m c).2 (nI c) u Q := by
    intro j
    induction j with
    | zero =>
      intro c e u f
      obtain rfl : c = n := e
      refine s_K_nextToSee_19 ?_
      rw [(hC.kw hA f.sk).1, if_neg (nI_nlt (Nat.le_refl _) (by omega))]
      exact hQ u f
    | succ j ih =>
      intro c e u f
      have ih := ih (c + 1) (by omega)
      unfold lookS at ih
      have hCu := hC.kw hA f.sk
      refine s_K_nextToSee_19 ?_
      rw [hCu.1, if_pos (nI_lt (by omega) (by omega)), ix_nI (by omega), (hCu.2.2.1 c (by omega)).2.2.2]
      refine ⟨ib_nI (by omega) (by decide), ?_⟩
      by_cases y : csa A c = -1
      · rw [if_pos y] at ih
        rw [if_pos y]
        refine C_saying hA (hF.on h5 f.sk) (by omega) fun v' f' => ?_
        rw [nI_1]
        exact ih v' (f.tr f')
      · rw [if_neg y] at ih
        rw [if_neg y]
        refine s_K_nextToSee_78 ?_
        rw [nI_1]
        exact ih u f
  exact key n 0 (by omega) v (F2.rf _ _ _)
theorem M_alike (hA : OK A n m) {v : Vv} (hM : MA A n m v) (hR : ∀ x, x < 2 ^ m → MROW A F n m x v) {c : Nat} (hc : c < n) {Q : Int64 → Vv → Prop} (hQ : Q (nL (lkG A F n m c)) v) : m_M_alike (nI c) v Q := by
  have h5 := hA.2.1
  have h6 := hA.1
  have h2m := two m h5
  have h1m : 1 ≤ 2 ^ m := Nat.one_le_two_pow
  have hbT : ∀ t w, w ≤ 32 → kT (sp A F n m) (sk A F n m c) (tg A F m) t w < 2 ^ 63 := fun t w hw => by have := kT_bound (p := sp A F n m) (kf := sk A F n m c) (tg_le (F := F) hA) (t := t) hw; omega
  have hbm : ∀ w, mx (fun x => if sp A F n m x = true then kT (sp A F n m) (sk A F n m c) (tg A F m) (sk A F n m c x) (2 ^ m) else 0) w < 2 ^ 63 := fun w => by
    have := mx_bound (f := fun x => if sp A F n m x = true then kT (sp A F n m) (sk A F n m c) (tg A F m) (sk A F n m c x) (2 ^ m) else 0) (b := 320000000000) (fun x => by
      have := kT_bound (p := sp A F n m) (kf := sk A F n m c) (tg_le (F := F) hA) (t := sk A F n m c x) h2m
      show (if sp A F n m x = true then kT (sp A F n m) (sk A F n m c) (tg A F m) (sk A F n m c x) (2 ^ m) else 0) ≤ _
      split <;> omega) w
    omega
  have says : ∀ x, x < 2 ^ m → ∀ {R : Int32 → Vv → Prop}, R (sk A F n m c x) v → m_M_saysIn (nI x) (nI c) v R := fun x hx R h => by
    obtain ⟨q1, q2, q3, q4, q5⟩ := hR x hx
    refine s_M_saysIn ?_
    rw [six, ix_nI (by omega), ix_nI (by omega), q5, (q1 c hc).1]
    exact ⟨ib_nI (by omega) (by decide), ib_nI (by omega) (by decide), M_dayOf h⟩
  have key : ∀ j w : Nat, w + j = 2 ^ m → k_M_alike_5 (nI c) (nL (mx (fun x => if sp A F n m x = true then kT (sp A F n m) (sk A F n m c) (tg A F m) (sk A F n m c x) (2 ^ m) else 0) w)) (nI w) v Q := by
    intro j
    induction j with
    | zero =>
      intro w e
      obtain rfl : w = 2 ^ m := e
      refine s_M_alike_5 (M_worldsN h5 hM.2.1 ?_)
      rw [if_neg (nI_nlt (Nat.le_refl _) (by omega))]
      exact hQ
    | succ j ih =>
      intro w e
      have hw : w < 2 ^ m := by omega
      obtain ⟨r1, r2, r3, r4, r5⟩ := hR w hw
      have ih := ih (w + 1) (by omega)
      unfold mx at ih
      refine s_M_alike_5 (M_worldsN h5 hM.2.1 ?_)
      rw [if_pos (nI_lt hw (by omega))]
      by_cases z : sp A F n m w = true
      · have hz : (if sp A F n m w = true then kT (sp A F n m) (sk A F n m c) (tg A F m) (sk A F n m c w) (2 ^ m) else 0) = kT (sp A F n m) (sk A F n m c) (tg A F m) (sk A F n m c w) (2 ^ m) := if_pos z
        rw [hz] at ih
        have inner : ∀ j x : Nat, x + j = 2 ^ m → k_M_alike_20 (nI c) (nL (mx (fun x => if sp A F n m x = true then kT (sp A F n m) (sk A F n m c) (tg A F m) (sk A F n m c x) (2 ^ m) else 0) w)) (nI w) (nL (kT (sp A F n m) (sk A F n m c) (tg A F m) (sk A F n m c w) x)) (nI x) v Q := by
          intro j
          induction j with
          | zero =>
            intro x e
            obtain rfl : x = 2 ^ m := e
            refine s_M_alike_20 (M_worldsN h5 hM.2.1 ?_)
            rw [if_neg (nI_nlt (Nat.le_refl _) (by omega))]
            refine s_M_alike_90 ?_
            by_cases y : mx (fun x => if sp A F n m x = true then kT (sp A F n m) (sk A F n m c) (tg A F m) (sk A F n m c x) (2 ^ m) else 0) w < kT (sp A F n m) (sk A F n m c) (tg A F m) (sk A F n m c w) (2 ^ m)
            · rw [if_pos y] at ih
              rw [if_pos ((nL_lt (hbm w) (hbT _ _ h2m)).mpr y)]
              refine s_M_alike_103 ?_
              rw [nI_1]
              exact ih
            · rw [if_neg y] at ih
              rw [if_neg (fun q => y ((nL_lt (hbm w) (hbT _ _ h2m)).mp q))]
              refine s_M_alike_103 ?_
              rw [nI_1]
              exact ih
          | succ j ih2 =>
            intro x e
            have hx : x < 2 ^ m := by omega
            obtain ⟨q1, q2, q3, q4, q5⟩ := hR x hx
            have ih2 := ih2 (x + 1) (by omega)
            rw [kT_succ] at ih2
            refine s_M_alike_20 (M_worldsN h5 hM.2.1 ?_)
            rw [if_pos (nI_lt hx (by omega)), ix_nI (by omega), ix_nI (by omega), r4, q4, if_pos (show fit A F n m w = true from z), if_pos rfl]
            refine ⟨ib_nI (by omega) (by decide), ib_nI (by omega) (by decide), ?_⟩
            by_cases y : fit A F n m x = true
            · rw [if_pos y, if_pos rfl]
              refine says x hx (says w hw ?_)
              rw [nI_1, q3, chc_N]
              by_cases y2 : sk A F n m c x = sk A F n m c w
              · rw [if_pos ⟨y, y2⟩] at ih2
                rw [if_pos y2, nL_add]
                exact ih2
              · rw [if_neg (fun q => y2 q.2), Nat.add_zero] at ih2
                rw [if_neg y2, Int64.add_zero]
                exact ih2
            · rw [if_neg (fun q => y q.1), Nat.add_zero] at ih2
              rw [if_neg y, if_neg (by decide)]
              refine s_M_alike_80 (s_M_alike_81 ?_)
              rw [nI_1, Int64.add_zero]
              exact ih2
        exact inner (2 ^ m) 0 (by omega)
      · have hz : (if sp A F n m w = true then kT (sp A F n m) (sk A F n m c) (tg A F m) (sk A F n m c w) (2 ^ m) else 0) = 0 := if_neg z
        rw [hz, if_neg (Nat.not_lt_zero _)] at ih
        refine s_M_alike_20 (M_worldsN h5 hM.2.1 ?_)
        rw [if_pos (by rw [show (0 : Int32) = nI 0 from rfl]; exact nI_lt (by omega) (by omega)), ix_nI (by omega), r4, if_neg (show ¬ fit A F n m w = true from z), if_neg (by decide)]
        refine ⟨ib_nI (by omega) (by decide), s_M_alike_90 ?_⟩
        rw [if_neg (by rw [show (0 : Int64) = nL 0 from rfl, nL_lt (hbm w) (by decide)]; omega)]
        refine s_M_alike_103 ?_
        rw [nI_1]
        exact ih
  exact s_M_alike (key (2 ^ m) 0 (by omega))
theorem look_step {v : Vv} (h : INW v) {Q : Int32 → Int32 → Vv → Prop} (hQ : ∀ r w, FQ v w → CACHE w → Q r r w) : m_P_look v (fun r v1 => m_M_look v1 (fun r' v2 => Q r r' v2)) := by
  refine s_P_look (worked_R h fun A F n m u f hr hcc e1 e2 => ⟨rfl, ?_⟩)
  refine C_look hr.1 hr.2.1 hr.2.2.2.2.2 fun u2 f2 => ?_
  have hr2 := hr.sc f2
  obtain ⟨hA, hC, hMA, hR, hMT, hF⟩ := id hr2
  have h6 := hA.1
  refine s_M_look (M_seen hMA.1 h6 ?_)
  have es : seenN (u2.1 161) n = seenN (csa A) n := seenN_congr fun c hc => (hMA.2.2.1 c hc).2.2.2
  rw [es]
  have hs := seenN_le (csa A) n
  by_cases z : seenN (csa A) n = 0
  · rw [z, if_pos rfl, if_pos (show nI 0 = 0 from rfl)]
    exact hQ _ u2 (f.q.tr f2.sq) (hcc.kw f2.sk)
  rw [if_neg z, if_neg (fun q => z (by rw [i_eq, nI_tI (by omega), t_0] at q; omega))]
  refine gathers_R (f.q.tr f2.sq) hr2 fun w f' hrow ha' hc' hq hr' => ?_
  have hMw := hr'.2.2.1
  have key : ∀ j c : Nat, c + j = n → k_M_look_20 (lookS A F n m c).1 (lookS A F n m c).2 (nI c) w (fun r' v2 => Q (lookS A F n m n).1 r' v2) := by
    intro j
    induction j with
    | zero =>
      intro c e
      obtain rfl : c = n := e
      refine s_M_look_20 ?_
      rw [hMw.1, if_neg (nI_nlt (Nat.le_refl _) (by omega))]
      exact hQ _ w hq hc'
    | succ j ih =>
      intro c e
      have ih := ih (c + 1) (by omega)
      rw [show lookS A F n m (c + 1) = if csa A c = -1 then (if (lookS A F n m c).1 = -1 then nI c else if nL (lkG A F n m c) < (lookS A F n m c).2 then nI c else (lookS A F n m c).1, if (lookS A F n m c).1 = -1 then nL (lkG A F n m c) else if nL (lkG A F n m c) < (lookS A F n m c).2 then nL (lkG A F n m c) else (lookS A F n m c).2) else lookS A F n m c from rfl] at ih
      refine s_M_look_20 ?_
      rw [hMw.1, if_pos (nI_lt (by omega) (by omega)), ix_nI (by omega), (hMw.2.2.1 c (by omega)).2.2.2]
      refine ⟨ib_nI (by omega) (by decide), ?_⟩
      by_cases y : csa A c = -1
      · rw [if_pos y] at ih
        rw [if_pos y]
        refine M_alike hA hMw hrow (by omega) ?_
        rw [nI_1]
        exact ih
      · rw [if_neg y] at ih
        rw [if_neg y]
        refine s_M_look_66 ?_
        rw [nI_1]
        exact ih
  exact key n 0 (by omega)
end LK2
