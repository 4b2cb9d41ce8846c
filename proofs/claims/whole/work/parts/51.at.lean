-- at, right, world
def AQu (i k : Nat) : Prop := AWK i k ∨ i = 154 ∧ 16 ≤ k ∧ k ≤ 39 ∨ 165 ≤ i ∧ i ≤ 170 ∨ 116 ≤ i ∧ i ≤ 120
/-- what a question leaves as it was -/
def FQ (v w : Vv) : Prop := ∀ i k, ¬ AQu i k → w.1 i k = v.1 i k
theorem FQ.rf (v : Vv) : FQ v v := fun _ _ _ => rfl
theorem FQ.tr {u v w : Vv} (h1 : FQ u v) (h2 : FQ v w) : FQ u w := fun i k h => (h2 i k h).trans (h1 i k h)
theorem FK.q {v w : Vv} (h : FK v w) : FQ v w := fun i k q => h.1 i k fun z => q (Or.inl z)
theorem F2.q {v w : Vv} (h : F2 AG LG v w) : FQ v w := fun i k q => h.1 i k fun z => q (by unfold AG at z; unfold AQu; omega)
/-- what the keeping of worlds rests on -/
def KW (v w : Vv) : Prop := (∀ i k, (1 ≤ i ∧ i ≤ 72 ∨ 74 ≤ i ∧ i ≤ 87 ∨ TXs i) → w.1 i k = v.1 i k) ∧ (∀ k, w.2.1 71 k = v.2.1 71 k) ∧ w.2.1 1 11 = v.2.1 1 11 ∧ w.2.2 = v.2.2
theorem KW.rf (v : Vv) : KW v v := ⟨fun _ _ _ => rfl, fun _ => rfl, rfl, rfl⟩
theorem KW.tr {u v w : Vv} (h1 : KW u v) (h2 : KW v w) : KW u w := ⟨fun i k h => (h2.1 i k h).trans (h1.1 i k h), fun k => (h2.2.1 k).trans (h1.2.1 k), h2.2.2.1.trans h1.2.2.1, h2.2.2.2.trans h1.2.2.2⟩
theorem F2.kw {v w : Vv} (h : F2 AG LG v w) : KW v w := ⟨fun i k q => h.1 i k (by unfold AG; unfold TXs at q; omega), fun k => h.2.1 _ _ (by unfold LG; omega), h.2.1 _ _ (by unfold LG; omega), h.2.2⟩
theorem AZ_kw {v w : Vv} (h : FX AZ v w) : KW v w := ⟨fun i k q => h.1 i k fun z => by
  have := AZ_w z
  rcases q with q | q | q
  · omega
  · omega
  · exact this.2.2.2 q, fun k => by rw [h.2], by rw [h.2], by rw [h.2]⟩
section ON
variable {A : Cf} {F : Rl} {n m : Nat}
theorem FRESH.on {v w : Vv} (h : FRESH A F n m v) (h5 : m ≤ 5) (k : KW v w) : FRESH A F n m w := by
  obtain ⟨a, b, c, d⟩ := h
  refine ⟨by rw [k.1 _ _ (by omega)]; exact a, k.2.2.1.trans b, fun x hx => by rw [k.1 _ _ (by omega)]; exact c x hx, fun x hx => ?_⟩
  have hx32 := bt_w h5 hx
  exact (d x hx).on hx32 (fun i y q => k.1 i y (by omega)) (k.2.1 x)
theorem CA.kw {v w : Vv} (h : CA A n m v) (hA : OK A n m) (k : KW v w) : CA A n m w := h.at hA fun i y a b => k.1 i y (by omega)
theorem CTR.kw {v w : Vv} (h : CTR F v) (k : KW v w) : CTR F w := by
  obtain ⟨t, B, n, e0, e1, e2, a, b, c, d, e⟩ := h
  exact ⟨t, B, n, e0, e1, e2, a, by rw [k.1 _ _ (by omega)]; exact b, k.2.2.2.trans c, d.at fun i y q => k.1 i y (Or.inr (Or.inr (TX_s a q))), e⟩
end ON
theorem CACHE.kw {v w : Vv} (h : CACHE v) (k : KW v w) : CACHE w := fun h0 => by
  rw [k.1 _ _ (by omega)] at h0
  obtain ⟨A, F, n, m, hA, hC, hR, hF⟩ := h h0
  exact ⟨A, F, n, m, hA, hC.kw hA k, hR.kw k, hF.on hA.2.1 k⟩
theorem CACHE.mk {A : Cf} {F : Rl} {n m : Nat} {v : Vv} (hA : OK A n m) (hC : CA A n m v) (hR : CTR F v) (hF : FRESH A F n m v) : CACHE v := fun _ => ⟨A, F, n, m, hA, hC, hR, hF⟩
-- the two sides' questions of what a clock or a world is
theorem C_isWorld {m : Nat} {v : Vv} (h5 : m ≤ 5) (hC : v.1 74 3 = nI m) {x : Int32} {Q : Bool → Vv → Prop} (h : Q (decide (0 ≤ x.toInt ∧ x.toInt < ((2 ^ m : Nat) : Int))) v) : m_P_isWorld x v Q := by
  have h2 := two m h5
  refine P_isWorld ?_
  rw [hC, shl1 m (by omega), nI_tI (by omega)]
  exact h
theorem M_isWorld {m : Nat} {v : Vv} (h5 : m ≤ 5) (hM : v.1 154 15 = nI m) {x : Int32} {Q : Bool → Vv → Prop} (h : Q (decide (0 ≤ x.toInt ∧ x.toInt < ((2 ^ m : Nat) : Int))) v) : m_M_isWorld x v Q := by
  have h2 := two m h5
  have h3 : 1 ≤ 2 ^ m := Nat.one_le_two_pow
  refine s_M_isWorld (M_in ?_)
  rw [hM, shl1 m (by omega), show (1 : Int32) = nI 1 from rfl, nI_sub h3 (by omega), Int32.toInt_toInt64, Int32.toInt_toInt64, nI_tI (by omega), l_0]
  rw [show decide (0 ≤ x.toInt ∧ x.toInt ≤ ((2 ^ m - 1 : Nat) : Int)) = decide (0 ≤ x.toInt ∧ x.toInt < ((2 ^ m : Nat) : Int)) from decide_eq_decide.mpr (by omega)]
  exact h
theorem HO_nm {v : Vv} (h : HO v) : ∃ n m, n ≤ 6 ∧ m ≤ 5 ∧ v.1 74 2 = nI n ∧ v.1 154 11 = nI n ∧ v.1 74 3 = nI m ∧ v.1 154 15 = nI m := by
  obtain ⟨n, m, h⟩ := h
  exact ⟨n, m, h.1.1, h.1.2, h.2.1.1, h.2.1.2, h.2.2.1.1, h.2.2.1.2⟩
/-- what a question needs -/
def INW (v : Vv) : Prop := HO v ∧ TRS v ∧ RU v ∧ CACHE v
theorem FK_154 {v w : Vv} (f : FK v w) (k : Nat) : w.1 154 k = v.1 154 k := f.1 _ _ fun z => by
  unfold AWK at z
  rcases z with z | z
  · have := AZ_w z; omega
  · omega
theorem at_step {a b c : Int32} {v : Vv} (h : INW v) {Q : Int32 → Int32 → Vv → Prop} (hQ : ∀ r w, FQ v w → CACHE w → Q r r w) : m_P_at a b c v (fun r v1 => m_M_at a b c v1 (fun r' v2 => Q r r' v2)) := by
  obtain ⟨ho, tr, ru, ca⟩ := h
  obtain ⟨n, m, h6, h5, n1, n2, m1, m2⟩ := HO_nm ho
  have h2m := two m h5
  have h0 : ∀ r, Q r r v := fun r => hQ r v (FQ.rf v) ca
  refine s_P_at (P_isClockN n1 h6 ?_)
  by_cases c1 : 0 ≤ a.toInt ∧ a.toInt < n
  · rw [decide_eq_true c1, if_pos rfl]
    refine C_isWorld h5 m1 ?_
    by_cases c2 : 0 ≤ b.toInt ∧ b.toInt < ((2 ^ m : Nat) : Int)
    · rw [decide_eq_true c2, if_pos rfl]
      obtain ⟨x, hx, rfl⟩ := nI_of3 (x := a) (n := n) c1.1 c1.2
      obtain ⟨w, hw, rfl⟩ := nI_of3 (x := b) (n := 2 ^ m) c2.1 c2.2
      have hw32 := bt_w h5 hw
      rw [ix_nI (by omega), ix_nI (by omega)]
      have hM : ∀ {u : Vv} {R : Int32 → Vv → Prop}, u.1 154 11 = nI n → u.1 154 15 = nI m → (if 0 ≤ c.toInt ∧ c.toInt ≤ 2 then m_M_makes (nI w) u (fun v11 => if c = 0 then R (v11.1 165 (6 * w + x)) v11 else if c = 1 then R (v11.1 166 (6 * w + x)) v11 else R ((v11.1 168 w >>> (nI x &&& 31)) &&& 1) v11) else R (-100000) u) → m_M_at (nI x) (nI w) c u R := by
        intro u R u1 u2 hh
        refine s_M_at (M_isClockN u1 h6 ?_)
        rw [decide_eq_true c1, if_pos rfl]
        refine M_isWorld h5 u2 ?_
        rw [decide_eq_true c2, if_pos rfl]
        refine M_in ?_
        rw [Int32.toInt_toInt64, l_0, l_2]
        by_cases c3 : 0 ≤ c.toInt ∧ c.toInt ≤ 2
        · rw [if_pos c3] at hh
          rw [decide_eq_true c3, if_pos rfl, six, ix_nI (by omega), ix_nI (by omega)]
          have e : ∀ P : Prop, P → (ib (nI (6 * w + x)) 192 ∧ P) := fun P p => ⟨ib_nI (by omega) (by decide), p⟩
          have e' : ∀ P : Prop, P → (ib (nI w) 32 ∧ P) := fun P p => ⟨ib_nI (by omega) (by decide), p⟩
          simp only [show (ib (nI (6 * w + x)) 192) = True from eq_true (ib_nI (by omega) (by decide)), show (ib (nI w) 32) = True from eq_true (ib_nI (by omega) (by decide)), true_and]
          exact hh
        · rw [if_neg c3] at hh
          rw [decide_eq_false c3, if_neg (by decide)]
          exact hh
      -- with the worlds worked out
      have hW : (∀ A F u, FK v u → OK A n m → CA A n m u → MA A n m u → CTR F u → MT F u → FRESH A F n m u → ∀ R : Int32 → Vv → Prop, (∀ w', F2 (AMw w) (LMw w) u w' → MROW A F n m w w' → CACHE w' → FQ v w' → R (if c = 0 then w'.1 165 (6 * w + x) else if c = 1 then w'.1 166 (6 * w + x) else ((w'.1 168 w >>> (nI x &&& 31)) &&& 1)) w') → 0 ≤ c.toInt ∧ c.toInt ≤ 2 → m_M_at (nI x) (nI w) c u R) := by
        intro A F u f hA hC hMA hR hMT hF R hRR c3
        refine hM (by rw [FK_154 f]; exact n2) (by rw [FK_154 f]; exact m2) ?_
        rw [if_pos c3]
        refine M_makes hA hw32 hMA hMT fun w' f' hr => ?_
        have hh := hRR w' f' hr ((CACHE.mk hA hC hR hF).kw f'.wg.kw) (f.q.tr f'.wg.q)
        by_cases z0 : c = 0
        · rw [if_pos z0] at hh ⊢; exact hh
        · rw [if_neg z0] at hh ⊢
          by_cases z1 : c = 1
          · rw [if_pos z1] at hh ⊢; exact hh
          · rw [if_neg z1] at hh ⊢; exact hh
      have hnm : ∀ {A : Cf} {n' m' : Nat} {u : Vv}, FK v u → OK A n' m' → CA A n' m' u → n' = n ∧ m' = m := fun {A n' m' u} f hA hC => by
        have lo : ∀ k, u.1 74 k = v.1 74 k := fun k => f.1 _ _ fun z => by
          unfold AWK at z
          rcases z with z | z
          · have := AZ_w z; omega
          · omega
        have e1 : nI n' = nI n := hC.1.symm.trans ((lo 2).trans n1)
        have e2 : nI m' = nI m := hC.2.1.symm.trans ((lo 3).trans m1)
        have := hA.1
        have := hA.2.1
        rw [i_eq, nI_tI (by omega), nI_tI (by omega)] at e1 e2
        omega
      by_cases c0 : c = 0
      · rw [if_pos c0]
        refine P_worked ho tr ru ca fun A F n' m' u f hA hC hMA hR hMT hF h12 => ⟨rfl, ib_nI hw32 (by decide), ib_nI (by omega) (by decide), ?_⟩
        obtain ⟨rfl, rfl⟩ := hnm f hA hC
        refine hW A F u f hA hC hMA hR hMT hF _ (fun w' f' hr hc hq => ?_) (by rw [c0]; decide)
        rw [if_pos c0, (hr.1 x hx).1, ((hF.2.2.2 w hw).1 x hx).1]
        exact hQ _ w' hq hc
      · rw [if_neg c0]
        by_cases c1' : c = 1
        · rw [if_pos c1']
          refine P_worked ho tr ru ca fun A F n' m' u f hA hC hMA hR hMT hF h12 => ⟨rfl, ib_nI hw32 (by decide), ib_nI (by omega) (by decide), ?_⟩
          obtain ⟨rfl, rfl⟩ := hnm f hA hC
          refine hW A F u f hA hC hMA hR hMT hF _ (fun w' f' hr hc hq => ?_) (by rw [c1']; decide)
          rw [if_neg c0, if_pos c1', (hr.1 x hx).2, ((hF.2.2.2 w hw).1 x hx).2]
          exact hQ _ w' hq hc
        · rw [if_neg c1']
          by_cases c2' : c = 2
          · rw [if_pos c2']
            refine P_worked ho tr ru ca fun A F n' m' u f hA hC hMA hR hMT hF h12 => ⟨rfl, ib_nI hw32 (by decide), ?_⟩
            obtain ⟨rfl, rfl⟩ := hnm f hA hC
            refine hW A F u f hA hC hMA hR hMT hF _ (fun w' f' hr hc hq => ?_) (by rw [c2']; decide)
            rw [if_neg c0, if_neg c1', hr.2.1, (hF.2.2.2 w hw).2.1]
            exact hQ _ w' hq hc
          · rw [if_neg c2']
            refine hM n2 m2 ?_
            rw [if_neg]
            · exact h0 _
            · rintro ⟨z1, z2⟩
              rw [i_eq, t_0] at c0
              rw [i_eq, t_1] at c1'
              rw [i_eq, t_2] at c2'
              omega
    · rw [decide_eq_false c2, if_neg (by decide)]
      refine s_M_at (M_isClockN n2 h6 ?_)
      rw [decide_eq_true c1, if_pos rfl]
      refine M_isWorld h5 m2 ?_
      rw [decide_eq_false c2, if_neg (by decide)]
      exact h0 _
  · rw [decide_eq_false c1, if_neg (by decide)]
    refine s_M_at (M_isClockN n2 h6 ?_)
    rw [decide_eq_false c1, if_neg (by decide)]
    exact h0 _
