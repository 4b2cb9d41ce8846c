-- right, world
theorem nm_same {v u : Vv} {A : Cf} {n m n' m' : Nat} (h6 : n ≤ 6) (h5 : m ≤ 5) (n1 : v.1 74 2 = nI n) (m1 : v.1 74 3 = nI m) (f : FK v u) (hA : OK A n' m') (hC : CA A n' m' u) : n' = n ∧ m' = m := by
  have lo : ∀ k, u.1 74 k = v.1 74 k := fun k => f.1 _ _ fun z => by
    unfold AWK at z
    rcases z with z | z
    · have := AZ_w z; omega
    · omega
  have e1 : nI n' = nI n := hC.1.symm.trans ((lo 2).trans n1)
  have e2 : nI m' = nI m := hC.2.1.symm.trans ((lo 3).trans m1)
  have := hA.1
  have := hA.2.1
  rw [i_eq, nI_tI (by omega), nI_tI (by omega)] at e1 e2
  omega
/-- one world made by the reference, after the class has worked them out -/
theorem M_makes_q {A : Cf} {F : Rl} {n m w : Nat} {v u : Vv} (f : FK v u) (hA : OK A n m) (hC : CA A n m u) (hM : MA A n m u) (hR : CTR F u) (hT : MT F u) (hF : FRESH A F n m u) (hw : w < 2 ^ m) {R : Vv → Prop} (hQ : ∀ w', F2 (AMw w) (LMw w) u w' → MROW A F n m w w' → CACHE w' → FQ v w' → R w') : m_M_makes (nI w) u R :=
  M_makes hA (bt_w hA.2.1 hw) hM hT fun w' f' hr => hQ w' f' hr ((CACHE.mk hA hC hR hF).kw f'.wg.kw) (f.q.tr f'.wg.q)
theorem M_gathers_q {A : Cf} {F : Rl} {n m : Nat} {v u : Vv} (f : FK v u) (hA : OK A n m) (hC : CA A n m u) (hM : MA A n m u) (hR : CTR F u) (hT : MT F u) (hF : FRESH A F n m u) {R : Vv → Prop} (hQ : ∀ w', F2 AG LG u w' → (∀ w, w < 2 ^ m → MROW A F n m w w') → w'.2.1 154 37 = allc A F n m (2 ^ m) → CACHE w' → FQ v w' → FRESH A F n m w' → CA A n m w' → MA A n m w' → CTR F w' → MT F w' → R w') : m_M_gathers u R :=
  M_gathers hA hM hT fun w' f' hr ha => hQ w' f' hr ha ((CACHE.mk hA hC hR hF).kw f'.kw) (f.q.tr f'.q) (hF.on hA.2.1 f'.kw) (hC.kw hA f'.kw) (hM.fg f') (hR.kw f'.kw) (hT.fg f')
theorem right_step {a b : Int32} {v : Vv} (h : INW v) {Q : Int32 → Int32 → Vv → Prop} (hQ : ∀ r w, FQ v w → CACHE w → Q r r w) : m_P_right a b v (fun r v1 => m_M_right a b v1 (fun r' v2 => Q r r' v2)) := by
  obtain ⟨ho, tr, ru, ca⟩ := h
  obtain ⟨n, m, h6, h5, n1, n2, m1, m2⟩ := HO_nm ho
  have h2m := two m h5
  have h0 : ∀ r, Q r r v := fun r => hQ r v (FQ.rf v) ca
  refine s_P_right (C_isWorld h5 m1 ?_)
  by_cases c2 : 0 ≤ a.toInt ∧ a.toInt < ((2 ^ m : Nat) : Int)
  · rw [decide_eq_true c2, if_pos rfl]
    obtain ⟨w, hw, rfl⟩ := nI_of3 (x := a) (n := 2 ^ m) c2.1 c2.2
    have hw32 := bt_w h5 hw
    rw [ix_nI (by omega)]
    have hM : ∀ {u : Vv} {R : Int32 → Vv → Prop}, u.1 154 15 = nI m → (if 0 ≤ b.toInt ∧ b.toInt ≤ 2 then m_M_makes (nI w) u (fun v11 => if b = 0 then R (v11.1 168 w) v11 else if b = 1 then R (v11.1 169 w) v11 else R (v11.1 170 w) v11) else R (-100000) u) → m_M_right (nI w) b u R := by
      intro u R u2 hh
      refine s_M_right (M_isWorld h5 u2 ?_)
      rw [decide_eq_true c2, if_pos rfl]
      refine M_in ?_
      rw [Int32.toInt_toInt64, l_0, l_2]
      by_cases c3 : 0 ≤ b.toInt ∧ b.toInt ≤ 2
      · rw [if_pos c3] at hh
        rw [decide_eq_true c3, if_pos rfl, ix_nI (by omega)]
        simp only [show (ib (nI w) 32) = True from eq_true (ib_nI (by omega) (by decide)), true_and]
        exact hh
      · rw [if_neg c3] at hh
        rw [decide_eq_false c3, if_neg (by decide)]
        exact hh
    by_cases c0 : b = 0
    · rw [if_pos c0]
      refine P_worked ho tr ru ca fun A F n' m' u f hA hC hMA hR hMT hF h12 => ⟨rfl, ib_nI hw32 (by decide), ?_⟩
      obtain ⟨rfl, rfl⟩ := nm_same h6 h5 n1 m1 f hA hC
      refine hM (by rw [FK_154 f]; exact m2) ?_
      rw [if_pos (by rw [c0]; decide)]
      refine M_makes_q f hA hC hMA hR hMT hF hw fun w' f' hr hc hq => ?_
      rw [if_pos c0, hr.2.1, (hF.2.2.2 w hw).2.1]
      exact hQ _ w' hq hc
    · rw [if_neg c0]
      by_cases c1' : b = 1
      · rw [if_pos c1']
        refine P_worked ho tr ru ca fun A F n' m' u f hA hC hMA hR hMT hF h12 => ⟨rfl, ib_nI hw32 (by decide), ?_⟩
        obtain ⟨rfl, rfl⟩ := nm_same h6 h5 n1 m1 f hA hC
        refine hM (by rw [FK_154 f]; exact m2) ?_
        rw [if_pos (by rw [c1']; decide)]
        refine M_makes_q f hA hC hMA hR hMT hF hw fun w' f' hr hc hq => ?_
        rw [if_neg c0, if_pos c1', hr.2.2.2.1, (hF.2.2.2 w hw).2.2.2.1]
        have e : bI (if (if fit A F n' m' w = true then (1 : Int32) else 0) = 0 then false else true) = if fit A F n' m' w = true then 1 else 0 := by
          cases fit A F n' m' w <;> decide
        rw [e]
        exact hQ _ w' hq hc
      · rw [if_neg c1']
        by_cases c2' : b = 2
        · rw [if_pos c2']
          refine P_worked ho tr ru ca fun A F n' m' u f hA hC hMA hR hMT hF h12 => ⟨rfl, ib_nI hw32 (by decide), ?_⟩
          obtain ⟨rfl, rfl⟩ := nm_same h6 h5 n1 m1 f hA hC
          refine hM (by rw [FK_154 f]; exact m2) ?_
          rw [if_pos (by rw [c2']; decide)]
          refine M_makes_q f hA hC hMA hR hMT hF hw fun w' f' hr hc hq => ?_
          rw [if_neg c0, if_neg c1', hr.2.2.2.2, (hF.2.2.2 w hw).2.2.2.2]
          exact hQ _ w' hq hc
        · rw [if_neg c2']
          refine hM m2 ?_
          rw [if_neg]
          · exact h0 _
          · rintro ⟨z1, z2⟩
            rw [i_eq, t_0] at c0
            rw [i_eq, t_1] at c1'
            rw [i_eq, t_2] at c2'
            omega
  · rw [decide_eq_false c2, if_neg (by decide)]
    refine s_M_right (M_isWorld h5 m2 ?_)
    rw [decide_eq_false c2, if_neg (by decide)]
    exact h0 _
theorem world_step {a : Int32} {v : Vv} (h : INW v) {Q : Int64 → Int64 → Vv → Prop} (hQ : ∀ r w, FQ v w → CACHE w → Q r r w) : m_P_world a v (fun r v1 => m_M_world a v1 (fun r' v2 => Q r r' v2)) := by
  obtain ⟨ho, tr, ru, ca⟩ := h
  obtain ⟨n, m, h6, h5, n1, n2, m1, m2⟩ := HO_nm ho
  have h2m := two m h5
  have h0 : ∀ r, Q r r v := fun r => hQ r v (FQ.rf v) ca
  refine s_P_world ?_
  by_cases c1 : a = -1
  · rw [if_pos c1]
    refine P_worked ho tr ru ca fun A F n' m' u f hA hC hMA hR hMT hF h12 => ⟨rfl, ?_⟩
    refine s_M_world ?_
    rw [if_pos c1]
    refine s_M_world_17 (M_gathers_q f hA hC hMA hR hMT hF fun w' f' hr ha hc hq _ _ _ _ _ => ?_)
    rw [if_pos c1, ha, hF.2.1]
    exact hQ _ w' hq hc
  · rw [if_neg c1]
    refine C_isWorld h5 m1 ?_
    by_cases c2 : 0 ≤ a.toInt ∧ a.toInt < ((2 ^ m : Nat) : Int)
    · rw [decide_eq_true c2, if_pos rfl]
      obtain ⟨w, hw, rfl⟩ := nI_of3 (x := a) (n := 2 ^ m) c2.1 c2.2
      have hw32 := bt_w h5 hw
      rw [ix_nI (by omega)]
      refine P_worked ho tr ru ca fun A F n' m' u f hA hC hMA hR hMT hF h12 => ⟨rfl, ib_nI hw32 (by decide), ?_⟩
      obtain ⟨rfl, rfl⟩ := nm_same h6 h5 n1 m1 f hA hC
      refine s_M_world ?_
      rw [if_neg c1]
      refine M_isWorld h5 (by rw [FK_154 f]; exact m2) ?_
      rw [decide_eq_true c2, if_pos rfl]
      refine s_M_world_17 (M_gathers_q f hA hC hMA hR hMT hF fun w' f' hr ha hc hq _ _ _ _ _ => ?_)
      rw [if_neg c1, ix_nI (by omega), (hr w hw).2.2.1, (hF.2.2.2 w hw).2.2.1]
      exact ⟨ib_nI hw32 (by decide), hQ _ w' hq hc⟩
    · rw [decide_eq_false c2, if_neg (by decide)]
      refine s_M_world ?_
      rw [if_neg c1]
      refine M_isWorld h5 m2 ?_
      rw [decide_eq_false c2, if_neg (by decide)]
      exact h0 _
