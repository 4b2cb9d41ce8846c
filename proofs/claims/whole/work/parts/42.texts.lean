-- texts: kept, told, and the step that takes one more
def FG (A : Nat → Nat → Prop) (v w : Vv) : Prop := (∀ i k, ¬ A i k → w.1 i k = v.1 i k) ∧ (∀ i k, ¬ (i = 154 ∧ k = 27) → w.2.1 i k = v.2.1 i k) ∧ w.2.2 = v.2.2
theorem FG.rf (A : Nat → Nat → Prop) (v : Vv) : FG A v v := ⟨fun _ _ _ => rfl, fun _ _ _ => rfl, rfl⟩
theorem FG.tr {A : Nat → Nat → Prop} {u v w : Vv} (h1 : FG A u v) (h2 : FG A v w) : FG A u w := ⟨fun i k h => (h2.1 i k h).trans (h1.1 i k h), fun i k h => (h2.2.1 i k h).trans (h1.2.1 i k h), h2.2.2.trans h1.2.2⟩
theorem FG.sI {A : Nat → Nat → Prop} {v w : Vv} (h : FG A v w) {i k : Nat} (hA : A i k) (x : Int32) : FG A v (sI w i k x) := ⟨fun a b hab => by
  rw [sI_at, if_neg (fun q => hab (by rw [q.1, q.2]; exact hA))]
  exact h.1 a b hab, h.2.1, h.2.2⟩
theorem FX.fg {A C : Nat → Nat → Prop} {v w : Vv} (h : FX A v w) (hA : ∀ i k, A i k → C i k) : FG C v w := ⟨fun i k q => h.1 i k fun z => q (hA i k z), fun i k _ => by rw [h.2], by rw [h.2]⟩
theorem FM.fg {A : Nat → Prop} {C : Nat → Nat → Prop} {v w : Vv} (h : FM A v w) (hA : ∀ k, A k → C 154 k) : FG C v w := ⟨fun i k q => h.1 i k fun z => q (by rw [z.1]; exact hA k z.2), h.2⟩
/-- the t-th text on both sides -/
def TRe (v : Vv) (t : Nat) (B : Nat → Int32) (n : Nat) (e0 e1 e2 : Ex) : Prop :=
  (n ≤ 160 ∧ (∀ i, i < n → 0 ≤ (B i).toInt ∧ (B i).toInt ≤ 255)) ∧ (v.1 156 t = nI n ∧ ∀ i, i < n → v.1 155 (160 * t + i) = B i) ∧ RDok (tk B n) n e0 e1 e2 ∧
  ((e0.1 ++ e1.1 ++ e2.1).length ≤ 160 ∧ ∀ i, i < (e0.1 ++ e1.1 ++ e2.1).length → v.1 (122 + 4 * t + 1) i = (e0.1 ++ e1.1 ++ e2.1).getD i 0) ∧
  v.1 (122 + 4 * t + 2) 0 = nI e0.1.length ∧ v.1 (122 + 4 * t + 2) 1 = nI (e0.1 ++ e1.1).length ∧ v.1 (122 + 4 * t + 2) 2 = nI (e0.1 ++ e1.1 ++ e2.1).length
def TR (v : Vv) (t : Nat) : Prop := ∃ B n e0 e1 e2, TRe v t B n e0 e1 e2
/-- the cells of the t-th text -/
def TX (t i k : Nat) : Prop := i = 122 + 4 * t + 1 ∨ i = 122 + 4 * t + 2 ∨ i = 155 ∧ 160 * t ≤ k ∧ k < 160 * t + 160 ∨ i = 156 ∧ k = t
theorem TRe.at {v w : Vv} {t n : Nat} {B : Nat → Int32} {e0 e1 e2 : Ex} (h : TRe v t B n e0 e1 e2) (f : ∀ i k, TX t i k → w.1 i k = v.1 i k) : TRe w t B n e0 e1 e2 := by
  obtain ⟨h1, ⟨h2, h3⟩, h4, ⟨h5, h6⟩, h7, h8, h9⟩ := h
  refine ⟨h1, ⟨?_, fun i hi => ?_⟩, h4, ⟨h5, fun i hi => ?_⟩, ?_, ?_, ?_⟩
  · rw [f 156 t (Or.inr (Or.inr (Or.inr ⟨rfl, rfl⟩)))]; exact h2
  · rw [f 155 (160 * t + i) (Or.inr (Or.inr (Or.inl ⟨rfl, by omega, by omega⟩)))]; exact h3 i hi
  · rw [f _ i (Or.inl rfl)]; exact h6 i hi
  · rw [f _ 0 (Or.inr (Or.inl rfl))]; exact h7
  · rw [f _ 1 (Or.inr (Or.inl rfl))]; exact h8
  · rw [f _ 2 (Or.inr (Or.inl rfl))]; exact h9
def tF (e0 e1 e2 : Ex) (q : Nat) (f : Nat → Int32) : Int32 := if q = 0 then e0.2 f else if q = 1 then e1.2 f else e2.2 f
theorem isText_t {t : Nat} (h : t < 6) : isText (122 + 4 * t) := by
  have : t = 0 ∨ t = 1 ∨ t = 2 ∨ t = 3 ∨ t = 4 ∨ t = 5 := by omega
  unfold isText
  rcases this with rfl | rfl | rfl | rfl | rfl | rfl <;> decide
theorem tells_fin {t : Nat} (ht : isText t) {pt : Int32} {v : Vv} {E : Nat} (hp : ib pt 3) (hE : v.1 (t + 2) (ix pt) = nI E) (hE2 : E ≤ 160) (h4 : v.1 t 4 = nI (0 + 1)) {Q : Int32 → Vv → Prop} (hQ : Q (v.1 (t + 3) 0) (sI v t 4 (nI 0))) : k_T_tells_22 t pt (nI E) v Q := by
  refine s_T_tells_22 ⟨ht, hp, ?_⟩
  rw [hE, if_neg (nI_nlt (Nat.le_refl _) (by omega))]
  exact T_pop ht h4 (by decide) hQ
theorem T_tells {t q : Nat} (ht : t < 6) (hq : q < 3) {v : Vv} {B : Nat → Int32} {n : Nat} {e0 e1 e2 : Ex} (h : TRe v t B n e0 e1 e2) {Q : Int32 → Vv → Prop} (hQ : ∀ w, FX (FT (122 + 4 * t)) v w → Q (tF e0 e1 e2 q (v.1 73)) w) : m_T_tells (122 + 4 * t) (nI q) v Q := by
  obtain ⟨h1, h2, h4, ⟨h5, h6⟩, h7, h8, h9⟩ := h
  obtain ⟨v0, v1, v2⟩ := RD_ev h4
  have htx := isText_t ht
  have l1 : (e0.1 ++ e1.1).length = e0.1.length + e1.1.length := List.length_append
  have l2 : (e0.1 ++ e1.1 ++ e2.1).length = e0.1.length + e1.1.length + e2.1.length := by rw [List.length_append, l1]
  refine s_T_tells ⟨htx, ?_⟩
  generalize hv0 : sI v (122 + 4 * t) 4 0 = v'
  have f0 : FX (FT (122 + 4 * t)) v v' := by rw [← hv0]; exact (FX.rf _ _).sI (Or.inl ⟨rfl, rfl⟩) _
  have e4 : v'.1 (122 + 4 * t) 4 = nI 0 := by rw [← hv0, sI_same]; rfl
  obtain ⟨k1, k2, k3⟩ := FT_keeps f0 htx
  have e73 : v'.1 73 = v.1 73 := funext k3
  have key : ∀ (p E : Nat) (e : Ex), EV e → v.1 (122 + 4 * t + 2) q = nI E → p + e.1.length = E → E ≤ 160 → (∀ i, i < e.1.length → v.1 (122 + 4 * t + 1) (p + i) = e.1.getD i 0) → tF e0 e1 e2 q (v.1 73) = e.2 (v.1 73) → k_T_tells_21 (122 + 4 * t) (nI q) (nI p) v' Q := by
    intro p E e he hE hpE hE2 hc hF
    refine s_T_tells_21 (he.1 _ _ v' p 0 E Q htx (ib_nI hq (by decide)) (by rw [ix_nI (by omega), k2]; exact hE) (by omega) hE2 (fun i hi => by rw [k1]; exact hc i hi) e4 (by omega) fun w f h4 hb hv => ?_)
    obtain ⟨m1, m2, m3⟩ := FT_keeps f htx
    rw [hpE]
    refine tells_fin htx (ib_nI hq (by decide)) (by rw [ix_nI (by omega), m2, k2]; exact hE) hE2 h4 ?_
    rw [hv, e73, ← hF]
    exact hQ _ ((f0.tr f).sI (Or.inl ⟨rfl, rfl⟩) _)
  have hc : q = 0 ∨ q = 1 ∨ q = 2 := by omega
  rcases hc with rfl | rfl | rfl
  · rw [if_pos (by decide)]
    exact key 0 _ e0 v0 h7 (by omega) (by omega) (fun i hi => by rw [Nat.zero_add, h6 i (by omega), getD_l (by omega), getD_l hi]) rfl
  · rw [if_neg (by decide)]
    refine ⟨by unfold ib; decide, ?_⟩
    rw [show ix (nI 1 - 1) = 0 from rfl, k2, h7]
    exact key _ _ e1 v1 h8 l1.symm (by omega) (fun i hi => by rw [h6 _ (by omega), getD_l (by omega), getD_r]) rfl
  · rw [if_neg (by decide)]
    refine ⟨by unfold ib; decide, ?_⟩
    rw [show ix (nI 2 - 1) = 1 from rfl, k2, h8]
    exact key _ _ e2 v2 h9 (by omega) (by omega) (fun i hi => by rw [h6 _ (by omega), getD_r]) rfl
theorem M_tells {t q : Nat} (ht : t < 6) (hq : q < 3) {v : Vv} {B : Nat → Int32} {n : Nat} {e0 e1 e2 : Ex} (h : TRe v t B n e0 e1 e2) {f : Nat → Int32} (hN : NMS v f) {Q : Int32 → Vv → Prop} (hQ : ∀ w, FM AV v w → Q (tF e0 e1 e2 q f) w) : m_M_read (nI t) (nI q) v Q := by
  obtain ⟨h1, h2, h4, -⟩ := h
  refine M_read ht h1.1 h1.2 h2.1 h2.2 hN (fun k hk => (RD_not hk h4).elim) fun f0 f1 f2 hf w m _ => ?_
  obtain ⟨rfl, rfl, rfl⟩ := RD_same h4 hf
  have hc : q = 0 ∨ q = 1 ∨ q = 2 := by omega
  rcases hc with rfl | rfl | rfl <;> exact hQ w m
def AX (c i k : Nat) : Prop := i = 0 ∧ (k = 5 ∨ k = 7) ∨ 108 ≤ i ∧ i ≤ 115 ∨ 122 + 4 * c ≤ i ∧ i ≤ 125 + 4 * c ∨ i = 154 ∧ (k = 3 ∨ k = 6 ∨ 22 ≤ k ∧ k ≤ 30) ∨ i = 155 ∧ 160 * c ≤ k ∧ k < 160 * c + 160 ∨ i = 156 ∧ k = c
/-- n bytes laid into the reference's row -/
def lay (v : Vv) (o n : Nat) : Vv := (fun i k => if i = 155 ∧ o ≤ k ∧ k < o + n then v.1 157 (k - o) else v.1 i k, v.2)
theorem lay_at (v : Vv) (o n i k : Nat) : (lay v o n).1 i k = if i = 155 ∧ o ≤ k ∧ k < o + n then v.1 157 (k - o) else v.1 i k := rfl
theorem lay_0 (v : Vv) (o : Nat) : lay v o 0 = v := vv_ext (fun i k => by rw [lay_at, if_neg (by omega)]) rfl
theorem lay_succ (v : Vv) (o n : Nat) : sI (lay v o n) 155 (o + n) (v.1 157 n) = lay v o (n + 1) := vv_ext (fun i k => by
  rw [sI_at, lay_at, lay_at]
  by_cases h1 : i = 155 ∧ k = o + n
  · rw [if_pos h1, if_pos (by omega), show k - o = n by omega]
  · rw [if_neg h1]
    by_cases h2 : i = 155 ∧ o ≤ k ∧ k < o + n
    · rw [if_pos h2, if_pos (by omega)]
    · rw [if_neg h2, if_neg (by omega)]) rfl
theorem M_text_loop {v : Vv} {c n : Nat} (hc : c < 6) (hn : n ≤ 160) (h3 : v.1 154 3 = nI c) (h6 : v.1 154 6 = nI n) {Q : Int32 → Vv → Prop} (hQ : m_M_read (nI c) 0 (sI (sI (lay v (160 * c) n) 156 c (nI n)) 154 6 0) (fun x6 v7 => if v7.1 154 29 = (0 : Int32) then Q ((sI v7 154 3 (v7.1 154 3 + 1)).1 154 3 - 1) (sI v7 154 3 (v7.1 154 3 + 1)) else Q (-100 - v7.1 154 30) v7)) : ∀ j i : Nat, i + j = n → k_M_text_14 (nI i) (lay v (160 * c) i) Q
  | 0, i, e => by
    obtain rfl : i = n := e
    have e3 : (lay v (160 * c) i).1 154 3 = nI c := by rw [lay_at, if_neg (by omega)]; exact h3
    have e6 : (lay v (160 * c) i).1 154 6 = nI i := by rw [lay_at, if_neg (by omega)]; exact h6
    refine s_M_text_14 ?_
    rw [e6, e3, if_neg (nI_nlt (Nat.le_refl _) (by omega)), ix_nI (by omega)]
    refine ⟨ib_nI hc (by decide), ?_⟩
    rw [show (sI (sI (lay v (160 * c) i) 156 c (nI i)) 154 6 0).1 154 3 = nI c from by rw [sI_slot _ _ _ _ (by decide), sI_cell _ _ _ _ (by decide)]; exact e3]
    exact hQ
  | j + 1, i, e => by
    have e3 : (lay v (160 * c) i).1 154 3 = nI c := by rw [lay_at, if_neg (by omega)]; exact h3
    have e6 : (lay v (160 * c) i).1 154 6 = nI n := by rw [lay_at, if_neg (by omega)]; exact h6
    refine s_M_text_14 ?_
    rw [e6, e3, if_pos (nI_lt (by omega) (by omega)), ix_nI (by omega), show (160 : Int32) * nI c + nI i = nI (160 * c + i) from by rw [show (160 : Int32) = nI 160 from rfl, nI_mul, nI_add]]
    refine ⟨ib_nI (by omega) (by decide), ib_nI (by omega) (by decide), ?_⟩
    rw [ix_nI (by omega), nI_1, show (lay v (160 * c) i).1 157 i = v.1 157 i from by rw [lay_at, if_neg (by omega)], lay_succ]
    exact M_text_loop hc hn h3 h6 hQ j (i + 1) (by omega)
def TRS (v : Vv) : Prop := ∀ t : Nat, (t : Int) < (v.1 0 5).toInt → TR v t
theorem T_become {t : Nat} (ht : t < 6) {v : Vv} {L : List Int32} (hL : L.length ≤ 160) (hC : CD v L) {Q : Vv → Prop} (hQ : ∀ w, (∀ i k, ¬ (122 + 4 * t ≤ i ∧ i ≤ 125 + 4 * t) → w.1 i k = v.1 i k) → w.2 = v.2 → (∀ i, i < L.length → w.1 (122 + 4 * t + 1) i = L.getD i 0) → (∀ p, p < 3 → w.1 (122 + 4 * t + 2) p = v.1 114 p) → Q w) : m_T_become (122 + 4 * t) 112 v Q := by
  have htx := isText_t ht
  have e3 : (3 : Int32).toInt = 3 := by decide
  have e0 : (0 : Int32).toInt = 0 := by decide
  refine s_T_become ⟨by unfold isText; decide, htx, ?_⟩
  rw [hC.1, nI_tI (by omega), e3, e0]
  refine ⟨by omega, by omega, ?_⟩
  refine hQ _ (fun i k hik => ?_) rfl (fun i hi => ?_) fun p hp => ?_
  · rw [sI_cell _ _ _ _ (by omega)]
    show (if i = 122 + 4 * t + 2 ∧ _ then _ else _) = _
    rw [if_neg (by omega)]
    show (if i = 122 + 4 * t + 1 ∧ _ then _ else _) = _
    rw [if_neg (by omega)]
  · rw [sI_cell _ _ _ _ (by omega)]
    show (if 122 + 4 * t + 1 = 122 + 4 * t + 2 ∧ _ then _ else _) = _
    rw [if_neg (by omega)]
    have ez : ix (0 : Int32) = 0 := rfl
    show (if 122 + 4 * t + 1 = 122 + 4 * t + 1 ∧ ix 0 ≤ i ∧ i < ix 0 + ix (nI L.length) then v.1 (112 + 1) (ix 0 + (i - ix 0)) else _) = _
    rw [ez, ix_nI (by omega), if_pos ⟨rfl, by omega, by omega⟩, Nat.zero_add, Nat.sub_zero]
    exact hC.2 i hi
  · rw [sI_cell _ _ _ _ (by omega)]
    have ez : ix (0 : Int32) = 0 := rfl
    have e3' : ix (3 : Int32) = 3 := rfl
    show (if 122 + 4 * t + 2 = 122 + 4 * t + 2 ∧ ix 0 ≤ p ∧ p < ix 0 + ix 3 then (sC v (112 + 1) (122 + 4 * t + 1) 0 0 (nI L.length)).1 (112 + 2) (ix 0 + (p - ix 0)) else _) = _
    rw [ez, e3', if_pos ⟨rfl, by omega, by omega⟩, Nat.zero_add, Nat.sub_zero]
    show (if 112 + 2 = 122 + 4 * t + 1 ∧ _ then _ else _) = _
    rw [if_neg (by omega)]
theorem text_step {v : Vv} (hc : TC v) (hp : TP v) (ht : TRS v) {Q : Int32 → Int32 → Vv → Prop} (h0 : ∀ r, Q r r v) (hQ : ∀ c r w, c < 6 → v.1 0 5 = nI c → TC w → TP w → TRS w → (v.1 0 5).toInt ≤ (w.1 0 5).toInt → FG (AX c) v w → Q r r w) : m_P_text v (fun r v1 => m_M_text v1 (fun r' v2 => Q r r' v2)) := by
  obtain ⟨c, ⟨c1, c6⟩, hc5, hc3⟩ := hc
  obtain ⟨n, n1, n2, n3, n4⟩ := hp
  by_cases hfull : c = 6
  · refine s_P_text ?_
    rw [hc5, if_neg (by rw [hfull]; decide)]
    refine s_M_text ?_
    rw [hc3, if_pos (by rw [hfull]; rfl)]
    exact h0 _
  have hc' : c < 6 := by omega
  refine s_P_text ?_
  rw [hc5, if_pos (by rw [show (6 : Int32) = nI 6 from rfl]; exact nI_lt hc' (by decide)), n2]
  -- the reference, from a memory where the class is through
  have hM : ∀ {w : Vv} {R : Int32 → Vv → Prop}, w.1 154 3 = nI c → w.1 154 6 = nI n → (∀ i, i < n → w.1 157 i = v.1 107 i) →
      (∀ k, RDbad (tk (v.1 107) n) n k → ∀ u, FG (AX c) w u → u.1 154 3 = nI c → u.1 154 6 = 0 → (∀ i k, i < 154 → u.1 i k = w.1 i k) → R (-100 - nI (st (v.1 107) n k)) u) →
      (∀ e0 e1 e2, RDok (tk (v.1 107) n) n e0 e1 e2 → ∀ u, FG (AX c) w u → u.1 154 3 = nI (c + 1) → u.1 154 6 = 0 → (∀ i k, i < 154 → u.1 i k = w.1 i k) → u.1 156 c = nI n → (∀ i, i < n → u.1 155 (160 * c + i) = v.1 107 i) → R (nI c) u) → m_M_text w R := by
    intro w R w3 w6 wb r1 r2
    refine s_M_text ?_
    rw [w3, if_neg (fun z => hfull (by rw [i_eq, nI_tI (by omega), t_6] at z; omega))]
    have hl := M_text_loop (v := w) (Q := R) hc' n1 w3 w6 ?_ n 0 (by omega)
    · rw [lay_0] at hl
      exact hl
    generalize hu : sI (sI (lay w (160 * c) n) 156 c (nI n)) 154 6 0 = u
    have f0 : FG (AX c) w u := by
      rw [← hu]
      have fl : FG (AX c) w (lay w (160 * c) n) := ⟨fun i k q => by
        rw [lay_at, if_neg (fun z => q (by unfold AX; omega))], fun _ _ _ => rfl, rfl⟩
      exact (fl.sI (i := 156) (k := c) (by unfold AX; omega) _).sI (i := 154) (k := 6) (by unfold AX; omega) _
    have u3 : u.1 154 3 = nI c := by rw [← hu, sI_slot _ _ _ _ (by decide), sI_cell _ _ _ _ (by decide), lay_at, if_neg (by omega)]; exact w3
    have u6 : u.1 154 6 = 0 := by rw [← hu, sI_same]
    have ulo : ∀ i k, i < 154 → u.1 i k = w.1 i k := fun i k hi => by rw [← hu, sI_cell _ _ _ _ (by omega), sI_cell _ _ _ _ (by omega), lay_at, if_neg (by omega)]
    have uz : u.1 156 c = nI n := by rw [← hu, sI_cell _ _ _ _ (by decide), sI_same]
    have ub : ∀ i, i < n → u.1 155 (160 * c + i) = v.1 107 i := fun i hi => by
      rw [← hu, sI_cell _ _ _ _ (by decide), sI_cell _ _ _ _ (by decide), lay_at, if_pos ⟨rfl, by omega, by omega⟩, show 160 * c + i - 160 * c = i by omega]
      exact wb i hi
    refine M_read (B := v.1 107) (f := fun k => u.1 154 (16 + k)) hc' n1 (fun i hi => (n4 i hi).2) uz ub (fun k _ => rfl) (fun k hk w2 x m b => ?_) fun e0 e1 e2 hk w2 m b => ?_
    · rw [if_neg (by rw [b.1]; decide), b.2]
      have g := m.fg (C := AX c) (fun k hk => by unfold AV at hk; unfold AX; omega)
      exact r1 k hk w2 (f0.tr g) (by rw [m.1 _ _ (by unfold AV; omega)]; exact u3) (by rw [m.1 _ _ (by unfold AV; omega)]; exact u6) fun i k hi => by rw [m.1 _ _ (by omega)]; exact ulo i k hi
    · rw [if_pos b]
      have g := m.fg (C := AX c) (fun k hk => by unfold AV at hk; unfold AX; omega)
      have e3 : w2.1 154 3 = nI c := by rw [m.1 _ _ (by unfold AV; omega)]; exact u3
      rw [sI_same, e3, nI_1, show nI (c + 1) - 1 = nI c from by rw [show (1 : Int32) = nI 1 from rfl, nI_sub (by omega) (by omega)]; rfl]
      refine r2 e0 e1 e2 hk _ ((f0.tr g).sI (by unfold AX; omega) _) (sI_same _ _ _ _) ?_ (fun i k hi => ?_) ?_ fun i hi => ?_
      · rw [sI_slot _ _ _ _ (by decide), m.1 _ _ (by unfold AV; omega)]; exact u6
      · rw [sI_cell _ _ _ _ (by omega), m.1 _ _ (by omega)]; exact ulo i k hi
      · rw [sI_cell _ _ _ _ (by decide), m.1 _ _ (by omega)]; exact uz
      · rw [sI_cell _ _ _ _ (by decide), m.1 _ _ (by omega)]; exact ub i hi
  have hcI := nI_tI (n := c) (by omega)
  have told : ∀ w : Vv, FG (AX c) v w → ∀ t : Nat, t < c → TR w t := fun w f t htc => by
    obtain ⟨B, m, e0, e1, e2, h⟩ := ht t (by rw [hc5, hcI]; omega)
    exact ⟨B, m, e0, e1, e2, h.at fun i k hik => f.1 i k fun z => by unfold TX at hik; unfold AX at z; omega⟩
  refine R_read (B := v.1 107) n1 (fun _ _ => rfl) (fun k hk w f => ?_) fun e0 e1 e2 hk w f hlen hC hE0 hE1 hE2 => ?_
  · have hk1 : nI (st (v.1 107) n k) ≠ -1 := fun z => by
      have := st_le (v.1 107) n k
      rw [i_eq, nI_tI (by omega), t_n1] at z
      omega
    rw [if_neg hk1]
    have f1 : FG (AX c) v (sI w 0 7 0) := (f.fg (C := AX c) (fun i k z => by unfold AR at z; unfold AX; omega)).sI (by unfold AX; omega) _
    have lo : ∀ i k, 145 < i → (sI w 0 7 0).1 i k = v.1 i k := fun i k hi => by rw [sI_cell _ _ _ _ (by omega), f.1 _ _ (by unfold AR; omega)]
    refine hM (by rw [lo _ _ (by decide)]; exact hc3) (by rw [lo _ _ (by decide)]; exact n3) (fun i hi => by rw [lo _ _ (by decide)]; exact (n4 i hi).1) (fun k2 hk2 u g u3 u6 ulo => ?_) fun _ _ _ hk2 => (RD_not hk hk2).elim
    have hkk : k = k2 := RD_one hk hk2
    rw [← hkk]
    have f2 := f1.tr g
    have u05 : u.1 0 5 = nI c := by rw [ulo _ _ (by decide), sI_slot _ _ _ _ (by decide), f.1 _ _ (by unfold AR; omega)]; exact hc5
    have u07 : u.1 0 7 = 0 := by rw [ulo _ _ (by decide), sI_same]
    refine hQ c _ u hc' hc5 ⟨c, ⟨c1, c6⟩, u05, u3⟩ ⟨0, by decide, u07, u6, fun i hi => absurd hi (Nat.not_lt_zero _)⟩ (fun t htt => told u f2 t (by rw [u05, hcI] at htt; omega)) (by rw [u05, hc5]; exact Int.le_refl _) f2
  · rw [if_pos rfl]
    have e05 : (sI w 0 7 0).1 0 5 = nI c := by rw [sI_slot _ _ _ _ (by decide), f.1 _ _ (by unfold AR; omega)]; exact hc5
    rw [e05, ix_nI (by omega)]
    refine ⟨ib_nI hc' (by decide), ?_⟩
    have f1 : FG (AX c) v (sI w 0 7 0) := (f.fg (C := AX c) (fun i k z => by unfold AR at z; unfold AX; omega)).sI (by unfold AX; omega) _
    refine T_become hc' hlen (hC.at (by rw [sI_cell _ _ _ _ (by decide)]) fun i => by rw [sI_cell _ _ _ _ (by decide)]) fun w2 hf2 hf22 hcode hends => ?_
    have f2 : FG (AX c) (sI w 0 7 0) w2 := ⟨fun i k q => hf2 i k fun z => q (by unfold AX; omega), fun i k _ => by rw [hf22], by rw [hf22]⟩
    have e05b : w2.1 0 5 = nI c := by rw [hf2 _ _ (by omega)]; exact e05
    rw [e05b, nI_1]
    have f3 : FG (AX c) v (sI w2 0 5 (nI (c + 1))) := (f1.tr f2).sI (by unfold AX; omega) _
    have lo : ∀ i k, 145 < i → (sI w2 0 5 (nI (c + 1))).1 i k = v.1 i k := fun i k hi => by rw [sI_cell _ _ _ _ (by omega), hf2 _ _ (by omega), sI_cell _ _ _ _ (by omega), f.1 _ _ (by unfold AR; omega)]
    refine hM (by rw [lo _ _ (by decide)]; exact hc3) (by rw [lo _ _ (by decide)]; exact n3) (fun i hi => by rw [lo _ _ (by decide)]; exact (n4 i hi).1) (fun k2 hk2 => (RD_not hk2 hk).elim) fun g0 g1 g2 hk2 u g u3 u6 ulo uz ub => ?_
    obtain ⟨rfl, rfl, rfl⟩ := RD_same hk hk2
    have f4 := f3.tr g
    have u05 : u.1 0 5 = nI (c + 1) := by rw [ulo _ _ (by decide), sI_same]
    have u07 : u.1 0 7 = 0 := by rw [ulo _ _ (by decide), sI_slot _ _ _ _ (by decide), hf2 _ _ (by omega), sI_same]
    have ut : ∀ i k, 122 + 4 * c ≤ i → i ≤ 125 + 4 * c → u.1 i k = w2.1 i k := fun i k h1 h2 => by rw [ulo _ _ (by omega), sI_cell _ _ _ _ (by omega)]
    refine hQ c _ u hc' hc5 ⟨c + 1, ⟨by omega, by omega⟩, u05, u3⟩ ⟨0, by decide, u07, u6, fun i hi => absurd hi (Nat.not_lt_zero _)⟩ (fun t htt => ?_) (by rw [u05, hc5, hcI, nI_tI (by omega)]; omega) f4
    rw [u05, nI_tI (by omega)] at htt
    by_cases q : t = c
    · subst q
      refine ⟨v.1 107, n, e0, e1, e2, ⟨n1, fun i hi => (n4 i hi).2⟩, ⟨uz, ub⟩, hk, ⟨hlen, fun i hi => ?_⟩, ?_, ?_, ?_⟩
      · rw [ut _ _ (by omega) (by omega)]; exact hcode i hi
      · rw [ut _ _ (by omega) (by omega), hends 0 (by decide), sI_cell _ _ _ _ (by decide)]; exact hE0
      · rw [ut _ _ (by omega) (by omega), hends 1 (by decide), sI_cell _ _ _ _ (by decide)]; exact hE1
      · rw [ut _ _ (by omega) (by omega), hends 2 (by decide), sI_cell _ _ _ _ (by decide)]; exact hE2
    · exact told u f4 t (by omega)
