-- what the class keeps of the worlds; gathering
def AG (i k : Nat) : Prop := i = 154 ∧ 16 ≤ k ∧ k ≤ 30 ∨ 165 ≤ i ∧ i ≤ 170
def LG (i k : Nat) : Prop := i = 154 ∧ (k = 27 ∨ k = 37) ∨ i = 167
theorem F2.wg {w : Nat} {u v : Vv} (h : F2 (AMw w) (LMw w) u v) : F2 AG LG u v := h.mono (fun i k q => by unfold AMw at q; unfold AG; omega) fun i k q => by unfold LMw at q; unfold LG; omega
theorem MA.fg {A : Cf} {n m : Nat} {u v : Vv} (h : MA A n m u) (f : F2 AG LG u v) : MA A n m v := h.at fun i k q => f.1 i k (by unfold AG; omega)
theorem MT.fg {F : Rl} {u v : Vv} (h : MT F u) (f : F2 AG LG u v) : MT F v := h.at (fun i k q => f.1 i k (by unfold TXs at q; unfold AG; omega)) (f.1 _ _ (by unfold AG; omega))
section GA
variable {A : Cf} {F : Rl} {n m : Nat}
theorem MROW.on {w x : Nat} {u v : Vv} (h : MROW A F n m x u) (hn : n ≤ 6) (hxw : x ≠ w) (f : F2 (AMw w) (LMw w) u v) : MROW A F n m x v := by
  obtain ⟨a, b, c, d, e⟩ := h
  refine ⟨fun y hy => ?_, ?_, ?_, ?_, ?_⟩
  · rw [f.1 _ _ (by unfold AMw; omega), f.1 _ _ (by unfold AMw; omega)]; exact a y hy
  · rw [f.1 _ _ (by unfold AMw; omega)]; exact b
  · rw [f.2.1 _ _ (by unfold LMw; omega)]; exact c
  · rw [f.1 _ _ (by unfold AMw; omega)]; exact d
  · rw [f.1 _ _ (by unfold AMw; omega)]; exact e
theorem M_gathers (hA : OK A n m) {v : Vv} (hM : MA A n m v) (hT : MT F v) {Q : Vv → Prop} (hQ : ∀ u, F2 AG LG v u → (∀ w, w < 2 ^ m → MROW A F n m w u) → u.2.1 154 37 = allc A F n m (2 ^ m) → Q u) : m_M_gathers v Q := by
  obtain ⟨h6, h5, -, -⟩ := id hA
  have h2m := two m h5
  refine s_M_gathers ?_
  have key : ∀ j w : Nat, w + j = 2 ^ m → ∀ u, F2 AG LG v u → (∀ x, x < w → MROW A F n m x u) → u.2.1 154 37 = allc A F n m w → k_M_gathers_7 (nI w) u Q := by
    intro j
    induction j with
    | zero =>
      intro w e u f hr ha
      obtain rfl : w = 2 ^ m := e
      refine s_M_gathers_7 (s_M_worlds ?_)
      rw [(hM.fg f).2.1, shl1 m (by omega), if_neg (nI_nlt (Nat.le_refl _) (by omega))]
      exact hQ u f hr ha
    | succ j ih =>
      intro w e u f hr ha
      have hw := bt_w h5 (show w < 2 ^ m by omega)
      refine s_M_gathers_7 (s_M_worlds ?_)
      rw [(hM.fg f).2.1, shl1 m (by omega), if_pos (nI_lt (by omega) (by omega))]
      refine M_makes hA hw (hM.fg f) (hT.fg f) fun u1 f1 hr1 => ⟨ib_nI hw (by decide), ?_⟩
      obtain ⟨r1, r2, r3, r4, r5⟩ := id hr1
      rw [ix_nI (by omega), r4, r3, nI_1, f1.2.1 154 37 (by unfold LMw; omega), ha]
      have f2 : F2 AG LG v (sJ u1 154 37 (allc A F n m w + if (if fit A F n m w = true then (1 : Int32) else 0) = 1 then chc A F w m else 0)) := (f.tr f1.wg).sJ (Or.inl ⟨rfl, Or.inr rfl⟩) _
      refine ih (w + 1) (by omega) _ f2 (fun x hx => ?_) ?_
      · have hj : ∀ {y : Nat} {z : Int64}, MROW A F n m y u1 → MROW A F n m y (sJ u1 154 37 z) := fun {y z} q => ⟨q.1, q.2.1, by rw [sJ_at, if_neg (by omega)]; exact q.2.2.1, q.2.2.2⟩
        by_cases q : x = w
        · rw [q]; exact hj hr1
        · exact hj ((hr x (by omega)).on h6 q f1)
      · rw [sJ_at, if_pos ⟨rfl, rfl⟩]
        show _ = allc A F n m w + if fit A F n m w = true then chc A F w m else 0
        cases fit A F n m w
        · rw [if_neg (by decide), if_neg (by decide)]
        · rw [if_pos rfl, if_pos rfl, if_pos rfl]
  exact key (2 ^ m) 0 (by omega) _ ((F2.rf _ _ _).sJ (Or.inl ⟨rfl, Or.inr rfl⟩) _) (fun x hx => absurd hx (Nat.not_lt_zero _)) (by rw [sJ_at, if_pos ⟨rfl, rfl⟩]; rfl)
end GA
/-- the rule on the class's side, and that it is the house's -/
def CTR (F : Rl) (v : Vv) : Prop := ∃ t B n e0 e1 e2, t < 6 ∧ v.1 74 4 = nI t ∧ v.2.2 = 122 + 4 * t ∧ TRe v t B n e0 e1 e2 ∧ F = tF e0 e1 e2
theorem CTR.ct {F : Rl} {v : Vv} (h : CTR F v) : CT F v := by
  obtain ⟨t, B, n, e0, e1, e2, a, -, c, d, e⟩ := h
  exact ⟨t, B, n, e0, e1, e2, a, c, d, e⟩
theorem CTR.mt {F : Rl} {v : Vv} (h : CTR F v) (hr : v.1 154 4 = v.1 74 4) : MT F v := by
  obtain ⟨t, B, n, e0, e1, e2, a, b, -, d, e⟩ := h
  exact ⟨t, B, n, e0, e1, e2, a, hr.trans b, d, e⟩
def CACHE (v : Vv) : Prop := v.1 1 12 = 0 → ∃ A F n m, OK A n m ∧ CA A n m v ∧ CTR F v ∧ FRESH A F n m v
theorem MA_of {A : Cf} {n m : Nat} {v : Vv} (h : HO v) (hA : OK A n m) (hC : CA A n m v) : MA A n m v ∧ v.1 154 4 = v.1 74 4 := by
  obtain ⟨n', m', h⟩ := h
  obtain ⟨⟨hn6, hm5⟩, ⟨hnA, hnB⟩, ⟨hmA, hmB⟩, hru, hcl, hdo⟩ := id h
  obtain ⟨h6, h5, -, -⟩ := hA
  obtain ⟨c1, c2, c3, c4⟩ := hC
  obtain rfl : n = n' := by
    have : nI n = nI n' := c1.symm.trans hnA
    rw [i_eq, nI_tI (by omega), nI_tI (by omega)] at this
    omega
  obtain rfl : m = m' := by
    have : nI m = nI m' := c2.symm.trans hmA
    rw [i_eq, nI_tI (by omega), nI_tI (by omega)] at this
    omega
  refine ⟨⟨hnB, hmB, fun c hc => ?_, fun d hd => ?_⟩, hru.1⟩
  · obtain ⟨⟨a1, a2, a3, a4⟩, -⟩ := hcl c hc
    obtain ⟨b1, b2, b3, b4⟩ := c3 c hc
    exact ⟨(show v.1 159 c = v.1 (77 + c) 0 from a1).trans b1, (show v.1 158 c = v.1 (77 + c) 1 from a2).trans b2, (show v.1 160 c = v.1 (77 + c) 2 from a3).trans b3, (show v.1 161 c = v.1 (77 + c) 3 from a4).trans b4⟩
  · obtain ⟨⟨a1, a2, a3⟩, -⟩ := hdo d hd
    obtain ⟨b1, b2, b3⟩ := c4 d hd
    exact ⟨(show v.1 162 d = v.1 (83 + d) 0 from a1).trans b1, (show v.1 163 d = v.1 (83 + d) 1 from a2).trans b2, (show v.1 164 d = v.1 (83 + d) 2 from a3).trans b3⟩
theorem OK_of {v : Vv} (h : HO v) : ∃ A n m, OK A n m ∧ CA A n m v := by
  obtain ⟨n, m, h⟩ := h
  obtain ⟨⟨hn6, hm5⟩, ⟨hnA, hnB⟩, ⟨hmA, hmB⟩, hru, hcl, hdo⟩ := id h
  exact ⟨hs v 74, n, m, ⟨hn6, hm5, fun c hc => (hcl c hc).2, fun d hd => (hdo d hd).2⟩, hnA, hmA, fun c _ => ⟨rfl, rfl, rfl, rfl⟩, fun d _ => ⟨rfl, rfl, rfl⟩⟩
/-- the worlds are worked out; from here both sides speak of one house and one rule -/
theorem P_worked {v : Vv} (ho : HO v) (tr : TRS v) (ru : RU v) (ca : CACHE v) {Q : Nat → Vv → Prop} (hQ : ∀ A F n m w, FK v w → OK A n m → CA A n m w → MA A n m w → CTR F w → MT F w → FRESH A F n m w → w.1 1 12 = 0 → Q 1 w) : m_P_worked v Q := by
  refine s_P_worked ?_
  by_cases h0 : v.1 1 12 = 0
  · rw [if_pos h0]
    obtain ⟨A, F, n, m, hA, hC, hR, hF⟩ := ca h0
    obtain ⟨hM, h4⟩ := MA_of ho hA hC
    exact hQ A F n m v (FK.rf v) hA hC hM hR (hR.mt h4) hF h0
  · rw [if_neg h0]
    obtain ⟨A, n, m, hA, hC⟩ := OK_of ho
    obtain ⟨hM, h4⟩ := MA_of ho hA hC
    have hru : 0 ≤ (v.1 74 4).toInt ∧ (v.1 74 4).toInt ≤ 5 := by
      obtain ⟨n', m', h⟩ := ho
      exact h.2.2.2.1.2
    obtain ⟨t, ht, et⟩ := nI_of3 (x := v.1 74 4) (n := 6) hru.1 (by omega)
    obtain ⟨B, k, e0, e1, e2, hT⟩ := tr t (by have := ru.1; rw [et, nI_tI (by omega)] at this; omega)
    rw [et, ix_nI (by omega)]
    refine ⟨ib_nI ht (by decide), C_work (F := tF e0 e1 e2) hA hC ⟨t, B, k, e0, e1, e2, ht, rfl, hT.at fun _ _ _ => rfl, rfl⟩ fun w f w22 w12 hF => ?_⟩
    have hTw : TRe w t B k e0 e1 e2 := hT.at fun i k q => TX_fk f i k (TX_s ht q)
    have lo : ∀ i k, 74 ≤ i → i ≤ 121 ∨ 146 ≤ i → w.1 i k = v.1 i k := fun i k a b => f.1 i k fun z => by
      unfold AWK at z
      rcases z with z | z
      · have := AZ_w z; omega
      · omega
    have hR : CTR (tF e0 e1 e2) w := ⟨t, B, k, e0, e1, e2, ht, by rw [lo _ _ (by omega) (by omega)]; exact et, w22, hTw, rfl⟩
    refine hQ A (tF e0 e1 e2) n m w f hA (hC.fk hA f) (hM.at fun i k q => lo i k (by omega) (by omega)) hR (hR.mt ?_) hF w12
    rw [lo _ _ (by omega) (by omega), lo _ _ (by omega) (by omega)]
    exact h4
