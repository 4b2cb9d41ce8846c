-- chances together by what they are of
def ASC (i _ : Nat) : Prop := 117 ≤ i ∧ i ≤ 120
def LSC (i _ : Nat) : Prop := i = 119
theorem F2.sk {v w : Vv} (h : F2 ASC LSC v w) : KW v w := ⟨fun i k q => h.1 i k (by unfold ASC; unfold TXs at q; omega), fun k => h.2.1 _ _ (by unfold LSC; omega), h.2.1 _ _ (by unfold LSC; omega), h.2.2⟩
theorem F2.sq {v w : Vv} (h : F2 ASC LSC v w) : FQ v w := fun i k q => h.1 i k fun z => q (by unfold ASC at z; unfold AQu; omega)
theorem RDY.sc {A : Cf} {F : Rl} {n m : Nat} {u w : Vv} (h : RDY A F n m u) (f : F2 ASC LSC u w) : RDY A F n m w := h.on f.sk fun i k q => f.1 i k (by unfold ASC; unfold TXs at q; omega)
/-- how many are above 0 -/
def cp (f : Nat → Nat) : Nat → Nat
  | 0 => 0
  | k + 1 => cp f k + if 0 < f k then 1 else 0
theorem cp_congr {f g : Nat → Nat} : ∀ {n : Nat}, (∀ k, k < n → f k = g k) → cp f n = cp g n
  | 0, _ => rfl
  | n + 1, h => by
    unfold cp
    rw [cp_congr (n := n) fun k hk => h k (by omega), h n (by omega)]
theorem cp_le (f : Nat → Nat) : ∀ n, cp f n ≤ n
  | 0 => Nat.le_refl _
  | n + 1 => by
    have := cp_le f n
    unfold cp
    split <;> omega
theorem cp_at {f g : Nat → Nat} {k0 : Nat} {x : Nat} (h0 : g k0 = f k0 + x) (hne : ∀ k, k ≠ k0 → g k = f k) : ∀ n, k0 < n → cp g n = cp f n + if 0 < x ∧ f k0 = 0 then 1 else 0
  | 0, h => absurd h (Nat.not_lt_zero _)
  | n + 1, h => by
    unfold cp
    by_cases e : n = k0
    · subst e
      rw [cp_congr (f := g) (g := f) fun k hk => hne k (by omega), h0]
      by_cases z1 : 0 < f n
      · rw [if_pos z1, if_pos (by omega), if_neg (by omega)]
      · by_cases z2 : 0 < x
        · rw [if_neg z1, if_pos (by omega), if_pos (by omega)]
        · rw [if_neg z1, if_neg (by omega), if_neg (by omega)]
    · have := cp_at h0 hne n (by omega)
      rw [this, hne n e]
      omega
/-- the greatest of the first ones -/
def mx (f : Nat → Nat) : Nat → Nat
  | 0 => 0
  | k + 1 => if mx f k < f k then f k else mx f k
theorem mx_le (f : Nat → Nat) : ∀ n i, i < n → f i ≤ mx f n
  | 0, _, h => absurd h (Nat.not_lt_zero _)
  | n + 1, i, h => by
    unfold mx
    by_cases e : i = n
    · subst e
      split <;> omega
    · have := mx_le f n i (by omega)
      split <;> omega
theorem mx_ex (f : Nat → Nat) : ∀ n, mx f n = 0 ∨ ∃ i, i < n ∧ f i = mx f n
  | 0 => Or.inl rfl
  | n + 1 => by
    unfold mx
    by_cases z : mx f n < f n
    · rw [if_pos z]
      exact Or.inr ⟨n, by omega, rfl⟩
    · rw [if_neg z]
      rcases mx_ex f n with h | ⟨i, hi, e⟩
      · exact Or.inl h
      · exact Or.inr ⟨i, by omega, e⟩
theorem mx_bound {f : Nat → Nat} {b : Nat} (h : ∀ i, f i ≤ b) : ∀ n, mx f n ≤ b
  | 0 => Nat.zero_le _
  | n + 1 => by
    have := mx_bound h n
    have := h n
    unfold mx
    split <;> omega
theorem mx_eq {f g : Nat → Nat} {a b : Nat} (h1 : ∀ i, i < a → 0 < f i → ∃ j, j < b ∧ g j = f i) (h2 : ∀ j, j < b → 0 < g j → ∃ i, i < a ∧ f i = g j) : mx f a = mx g b := by
  have x1 : mx f a ≤ mx g b := by
    rcases mx_ex f a with h | ⟨i, hi, e⟩
    · omega
    · by_cases z : 0 < f i
      · obtain ⟨j, hj, e2⟩ := h1 i hi z
        have := mx_le g b j hj
        omega
      · omega
  have x2 : mx g b ≤ mx f a := by
    rcases mx_ex g b with h | ⟨j, hj, e⟩
    · omega
    · by_cases z : 0 < g j
      · obtain ⟨i, hi, e2⟩ := h2 j hj z
        have := mx_le f a i hi
        omega
      · omega
  omega
section KT
variable (p : Nat → Bool) (kf : Nat → Int32) (g : Nat → Nat)
def kt (t : Int32) (x : Nat) : Nat := if p x = true ∧ kf x = t then g x else 0
def kT (t : Int32) (w : Nat) : Nat := sumN (kt p kf g t) w
def cntF : Nat → Nat
  | 0 => 0
  | w + 1 => cntF w + if p w = true ∧ 0 < g w ∧ kT p kf g (kf w) w = 0 then 1 else 0
def SM (w : Nat) (v : Vv) : Prop := ∃ cnt, cnt ≤ w ∧ v.1 117 2 = nI cnt ∧ (∀ k, k < cnt → ∃ x, x < w ∧ p x = true ∧ v.1 118 k = kf x) ∧ (∀ k l, k < cnt → l < cnt → v.1 118 k = v.1 118 l → k = l) ∧ (∀ x, x < w → p x = true → ∃ k, k < cnt ∧ v.1 118 k = kf x) ∧ (∀ k, k < cnt → v.2.1 119 k = nL (kT p kf g (v.1 118 k) w)) ∧ cp (fun k => kT p kf g (v.1 118 k) w) cnt = cntF p kf g w
end KT
section KT2
variable {p : Nat → Bool} {kf : Nat → Int32} {g : Nat → Nat}
theorem kT_succ (t : Int32) (w : Nat) : kT p kf g t (w + 1) = kT p kf g t w + if p w = true ∧ kf w = t then g w else 0 := rfl
theorem kT_pos {t : Int32} : ∀ {w : Nat}, 0 < kT p kf g t w → ∃ x, x < w ∧ p x = true ∧ kf x = t ∧ 0 < g x
  | 0, h => absurd h (Nat.lt_irrefl _)
  | w + 1, h => by
    rw [kT_succ] at h
    by_cases z : 0 < kT p kf g t w
    · obtain ⟨x, hx, q⟩ := kT_pos z
      exact ⟨x, by omega, q⟩
    · by_cases y : p w = true ∧ kf w = t
      · rw [if_pos y] at h
        exact ⟨w, by omega, y.1, y.2, by omega⟩
      · rw [if_neg y] at h
        omega
theorem kT_ge {x : Nat} (hp : p x = true) : ∀ {w : Nat}, x < w → g x ≤ kT p kf g (kf x) w
  | 0, h => absurd h (Nat.not_lt_zero _)
  | w + 1, h => by
    rw [kT_succ]
    by_cases e : x = w
    · subst e
      rw [if_pos ⟨hp, rfl⟩]
      omega
    · have := kT_ge hp (w := w) (by omega)
      omega
theorem kT_no {t : Int32} {w : Nat} (h : ∀ x, x < w → p x = true → kf x ≠ t) : kT p kf g t w = 0 := by
  by_cases z : 0 < kT p kf g t w
  · obtain ⟨x, hx, a, b, -⟩ := kT_pos z
    exact absurd b (h x hx a)
  · omega
theorem kT_bound (hg : ∀ w, g w ≤ 10000000000) {t : Int32} {w : Nat} (hw : w ≤ 32) : kT p kf g t w ≤ 320000000000 := by
  have h1 : ∀ x, kt p kf g t x ≤ 10000000000 := fun x => by
    have := hg x
    unfold kt
    split <;> omega
  have h2 := sumN_le h1 w
  have h3 : 10000000000 * w ≤ 10000000000 * 32 := Nat.mul_le_mul_left _ hw
  unfold kT
  omega
theorem SM.skip {w : Nat} {v : Vv} (h : SM p kf g w v) (hp : ¬ p w = true) : SM p kf g (w + 1) v := by
  obtain ⟨cnt, h1, h2, h3, h4, h5, h6, h7⟩ := h
  have e : ∀ t, kT p kf g t (w + 1) = kT p kf g t w := fun t => by rw [kT_succ, if_neg (fun z => hp z.1), Nat.add_zero]
  refine ⟨cnt, by omega, h2, fun k hk => ?_, h4, fun x hx px => ?_, fun k hk => ?_, ?_⟩
  · obtain ⟨x, hx, q⟩ := h3 k hk
    exact ⟨x, by omega, q⟩
  · by_cases z : x = w
    · rw [z] at px; exact absurd px hp
    · exact h5 x (by omega) px
  · rw [e]; exact h6 k hk
  · rw [cp_congr (f := fun k => kT p kf g (v.1 118 k) (w + 1)) (g := fun k => kT p kf g (v.1 118 k) w) fun k _ => e _, h7]
    show _ = cntF p kf g w + _
    rw [if_neg (fun z => hp z.1), Nat.add_zero]
theorem U_add {w : Nat} (hw : w < 32) {v : Vv} (h : SM p kf g w v) (hp : p w = true) {Q : Vv → Prop} (hQ : ∀ v', F2 ASC LSC v v' → SM p kf g (w + 1) v' → Q v') : m_U_add (kf w) (nL (g w)) v Q := by
  obtain ⟨cnt, h1, h2, h3, h4, h5, h6, h7⟩ := h
  -- a key that is there
  have found : ∀ k, k < cnt → v.1 118 k = kf w → k_U_add_29 (kf w) (nL (g w)) (nI k) v Q := fun k hk e => by
    refine s_U_add_29 ?_
    rw [if_pos (by rw [show (32 : Int32) = nI 32 from rfl]; exact nI_lt (by omega) (by decide)), h2, if_neg (fun z => by have := nm_eq (by omega) (by omega) z; omega)]
    refine s_U_add_75 ⟨ib_nI (by omega) (by decide), ?_⟩
    rw [ix_nI (by omega), h6 k hk, nL_add]
    have rd : ∀ i y, (sJ v 119 k (nL (kT p kf g (v.1 118 k) w + g w))).1 i y = v.1 i y := fun _ _ => rfl
    have eT : ∀ t, kT p kf g t (w + 1) = kT p kf g t w + if kf w = t then g w else 0 := fun t => by
      rw [kT_succ]
      by_cases z : kf w = t
      · rw [if_pos z, if_pos ⟨hp, z⟩]
      · rw [if_neg z, if_neg (fun q => z q.2)]
    refine hQ _ ((F2.rf _ _ v).sJ (by unfold LSC; rfl) _) ⟨cnt, by omega, h2, fun y hy => ?_, h4, fun x hx px => ?_, fun y hy => ?_, ?_⟩
    · obtain ⟨x, hx, q⟩ := h3 y hy
      exact ⟨x, by omega, q⟩
    · by_cases z : x = w
      · rw [z]; exact ⟨k, hk, e⟩
      · exact h5 x (by omega) px
    · rw [rd, sJ_at, eT]
      by_cases z : y = k
      · subst z
        rw [if_pos ⟨rfl, rfl⟩, if_pos e.symm]
      · rw [if_neg (fun q => z q.2), if_neg (fun q => z (h4 y k hy hk (q.symm.trans e.symm))), Nat.add_zero]
        exact h6 y hy
    · have := cp_at (f := fun y => kT p kf g (v.1 118 y) w) (g := fun y => kT p kf g (v.1 118 y) w + if y = k then g w else 0) (k0 := k) (x := g w) (by show _ + (if k = k then g w else 0) = _; rw [if_pos rfl]) (fun y hy => by show _ + (if y = k then g w else 0) = _; rw [if_neg hy, Nat.add_zero]) cnt hk
      rw [h7] at this
      rw [cp_congr (f := fun y => kT p kf g ((sJ v 119 k (nL (kT p kf g (v.1 118 k) w + g w))).1 118 y) (w + 1)) (g := fun y => kT p kf g (v.1 118 y) w + if y = k then g w else 0) fun y hy => ?_]
      · rw [this]
        show _ = cntF p kf g w + _
        rw [e]
        by_cases z : 0 < g w ∧ kT p kf g (kf w) w = 0
        · rw [if_pos z, if_pos ⟨hp, z⟩]
        · rw [if_neg z, if_neg (fun q => z q.2)]
      · rw [rd, eT]
        by_cases z : y = k
        · subst z
          rw [if_pos e.symm, if_pos rfl]
        · rw [if_neg (fun q => z (h4 y k hy hk (q.symm.trans e.symm))), if_neg z]
  -- a key that is new
  have fresh : (∀ k, k < cnt → v.1 118 k ≠ kf w) → k_U_add_29 (kf w) (nL (g w)) (nI cnt) v Q := fun hno => by
    refine s_U_add_29 ?_
    rw [if_pos (by rw [show (32 : Int32) = nI 32 from rfl]; exact nI_lt (by omega) (by decide)), h2, if_pos rfl, ix_nI (by omega)]
    refine ⟨ib_nI (by omega) (by decide), s_U_add_75 ⟨ib_nI (by omega) (by decide), ?_⟩⟩
    rw [ix_nI (by omega)]
    have e117 : (sJ (sI v 118 cnt (kf w)) 119 cnt 0).1 117 2 = nI cnt := by
      show (sI v 118 cnt (kf w)).1 117 2 = _
      rw [sI_cell _ _ _ _ (by decide)]; exact h2
    rw [e117, nI_1]
    have e119 : (sI (sJ (sI v 118 cnt (kf w)) 119 cnt 0) 117 2 (nI (cnt + 1))).2.1 119 cnt = 0 := by
      show (sJ (sI v 118 cnt (kf w)) 119 cnt 0).2.1 119 cnt = 0
      rw [sJ_at, if_pos ⟨rfl, rfl⟩]
    rw [e119, Int64.zero_add]
    generalize hv' : sJ (sI (sJ (sI v 118 cnt (kf w)) 119 cnt 0) 117 2 (nI (cnt + 1))) 119 cnt (nL (g w)) = v'
    have r118 : ∀ k, k ≠ cnt → v'.1 118 k = v.1 118 k := fun k hk => by
      rw [← hv']
      show (sI (sJ (sI v 118 cnt (kf w)) 119 cnt 0) 117 2 (nI (cnt + 1))).1 118 k = _
      rw [sI_cell _ _ _ _ (by decide)]
      show (sI v 118 cnt (kf w)).1 118 k = _
      rw [sI_slot _ _ _ _ hk]
    have r118c : v'.1 118 cnt = kf w := by
      rw [← hv']
      show (sI (sJ (sI v 118 cnt (kf w)) 119 cnt 0) 117 2 (nI (cnt + 1))).1 118 cnt = _
      rw [sI_cell _ _ _ _ (by decide)]
      exact sI_same _ _ _ _
    have r117 : v'.1 117 2 = nI (cnt + 1) := by
      rw [← hv']
      exact sI_same (sJ (sI v 118 cnt (kf w)) 119 cnt 0) 117 2 (nI (cnt + 1))
    have r119 : ∀ k, k ≠ cnt → v'.2.1 119 k = v.2.1 119 k := fun k hk => by
      rw [← hv', sJ_at, if_neg (fun q => hk q.2)]
      show (sJ (sI v 118 cnt (kf w)) 119 cnt 0).2.1 119 k = _
      rw [sJ_at, if_neg (fun q => hk q.2)]
    have r119c : v'.2.1 119 cnt = nL (g w) := by rw [← hv', sJ_at, if_pos ⟨rfl, rfl⟩]
    have f' : F2 ASC LSC v v' := by
      rw [← hv']
      exact (((((F2.rf ASC LSC v).sI (by unfold ASC; omega) _).sJ (by unfold LSC; rfl) _).sI (by unfold ASC; omega) _).sJ (by unfold LSC; rfl) _)
    have z0 : kT p kf g (kf w) w = 0 := kT_no fun x hx px e => by
      obtain ⟨k, hk, q⟩ := h5 x hx px
      exact hno k hk (q.trans e)
    have eT : ∀ k, k < cnt → kT p kf g (v.1 118 k) (w + 1) = kT p kf g (v.1 118 k) w := fun k hk => by
      rw [kT_succ, if_neg (fun q => hno k hk q.2.symm), Nat.add_zero]
    have eTc : kT p kf g (kf w) (w + 1) = g w := by rw [kT_succ, if_pos ⟨hp, rfl⟩, z0, Nat.zero_add]
    refine hQ v' f' ⟨cnt + 1, by omega, r117, fun k hk => ?_, fun k l hk hl e => ?_, fun x hx px => ?_, fun k hk => ?_, ?_⟩
    · by_cases z : k = cnt
      · rw [z, r118c]; exact ⟨w, by omega, hp, rfl⟩
      · obtain ⟨x, hx, q1, q2⟩ := h3 k (by omega)
        rw [r118 k z]
        exact ⟨x, by omega, q1, q2⟩
    · by_cases z1 : k = cnt
      · by_cases z2 : l = cnt
        · omega
        · rw [z1, r118c, r118 l z2] at e
          exact absurd e.symm (hno l (by omega))
      · by_cases z2 : l = cnt
        · rw [z2, r118c, r118 k z1] at e
          exact absurd e (hno k (by omega))
        · rw [r118 k z1, r118 l z2] at e
          exact h4 k l (by omega) (by omega) e
    · by_cases z : x = w
      · exact ⟨cnt, by omega, by rw [r118c, z]⟩
      · obtain ⟨k, hk, q⟩ := h5 x (by omega) px
        exact ⟨k, by omega, by rw [r118 k (by omega)]; exact q⟩
    · by_cases z : k = cnt
      · rw [z, r118c, r119c, eTc]
      · rw [r118 k z, r119 k z, eT k (by omega)]
        exact h6 k (by omega)
    · show cp _ cnt + (if 0 < kT p kf g (v'.1 118 cnt) (w + 1) then 1 else 0) = cntF p kf g w + _
      rw [r118c, eTc, cp_congr (f := fun k => kT p kf g (v'.1 118 k) (w + 1)) (g := fun k => kT p kf g (v.1 118 k) w) fun k hk => by rw [r118 k (by omega), eT k hk], h7]
      by_cases z : 0 < g w
      · rw [if_pos z, if_pos ⟨hp, z, z0⟩]
      · rw [if_neg z, if_neg (fun q => z q.2.1)]
  have key : ∀ j k : Nat, k + j = cnt → (∀ i, i < k → v.1 118 i ≠ kf w) → k_U_add_3 (kf w) (nL (g w)) (nI k) v Q := by
    intro j
    induction j with
    | zero =>
      intro k e hno
      obtain rfl : k = cnt := e
      refine s_U_add_3 ?_
      rw [h2, if_neg (nI_nlt (Nat.le_refl _) (by omega))]
      exact fresh hno
    | succ j ih =>
      intro k e hno
      refine s_U_add_3 ?_
      rw [h2, if_pos (nI_lt (by omega) (by omega)), ix_nI (by omega)]
      refine ⟨ib_nI (by omega) (by decide), ?_⟩
      by_cases z : v.1 118 k = kf w
      · rw [if_pos z]
        exact found k (by omega) z
      · rw [if_neg z, nI_1]
        refine ih (k + 1) (by omega) fun i hi => ?_
        by_cases y : i = k
        · rw [y]; exact z
        · exact hno i (by omega)
  exact s_U_add (key cnt 0 (by omega) fun i hi => absurd hi (Nat.not_lt_zero _))
/-- the greatest sum -/
def kG (p : Nat → Bool) (kf : Nat → Int32) (g : Nat → Nat) (W : Nat) : Nat := mx (fun x => if p x = true then kT p kf g (kf x) W else 0) W
theorem SM.mx {w : Nat} {v : Vv} (h : SM p kf g w v) : ∃ cnt, cnt ≤ w ∧ v.1 117 2 = nI cnt ∧ mx (fun k => kT p kf g (v.1 118 k) w) cnt = kG p kf g w := by
  obtain ⟨cnt, h1, h2, h3, h4, h5, h6, h7⟩ := h
  refine ⟨cnt, h1, h2, mx_eq (fun k hk _ => ?_) (fun x hx hz => ?_)⟩
  · obtain ⟨x, hx, px, e⟩ := h3 k hk
    exact ⟨x, hx, by show (if p x = true then _ else 0) = _; rw [if_pos px, e]⟩
  · by_cases px : p x = true
    · obtain ⟨k, hk, e⟩ := h5 x hx px
      exact ⟨k, hk, by show _ = (if p x = true then _ else 0); rw [if_pos px, e]⟩
    · have hz : 0 < (if p x = true then kT p kf g (kf x) w else 0) := hz
      rw [if_neg px] at hz
      omega
theorem kG_bound (hg : ∀ w, g w ≤ 10000000000) {w : Nat} (hw : w ≤ 32) : kG p kf g w ≤ 320000000000 := mx_bound (fun x => by
  show (if p x = true then kT p kf g (kf x) w else 0) ≤ _
  have := kT_bound (p := p) (kf := kf) hg (t := kf x) hw
  split <;> omega) w
theorem U_greatest (hg : ∀ w, g w ≤ 10000000000) {w : Nat} (hw : w ≤ 32) {v : Vv} (h : SM p kf g w v) {Q : Int64 → Vv → Prop} (hQ : Q (nL (kG p kf g w)) v) : m_U_greatest v Q := by
  obtain ⟨cnt, h1, h2, h3, h4, h5, h6, h7⟩ := id h
  obtain ⟨cnt', c1, c2, c3⟩ := h.mx
  obtain rfl := nm_eq (by omega) (by omega) (c2.symm.trans h2)
  rw [← c3] at hQ
  have hb : ∀ k, kT p kf g (v.1 118 k) w < 2 ^ 63 := fun k => by have := kT_bound (p := p) (kf := kf) hg (t := v.1 118 k) hw; omega
  have key : ∀ j k : Nat, k + j = cnt' → k_U_greatest_4 (nL (mx (fun k => kT p kf g (v.1 118 k) w) k)) (nI k) v Q := by
    intro j
    induction j with
    | zero =>
      intro k e
      obtain rfl : k = cnt' := e
      refine s_U_greatest_4 ?_
      rw [h2, if_neg (nI_nlt (Nat.le_refl _) (by omega))]
      exact hQ
    | succ j ih =>
      intro k e
      have ih := ih (k + 1) (by omega)
      unfold mx at ih
      refine s_U_greatest_4 ?_
      rw [h2, if_pos (nI_lt (by omega) (by omega)), ix_nI (by omega), h6 k (by omega)]
      refine ⟨ib_nI (by omega) (by decide), s_JM_max_JJJ ?_⟩
      have hm : mx (fun k => kT p kf g (v.1 118 k) w) k < 2 ^ 63 := by
        have := mx_bound (f := fun k => kT p kf g (v.1 118 k) w) (b := 320000000000) (fun i => kT_bound (p := p) (kf := kf) hg hw) k
        omega
      rw [nI_1]
      by_cases z : mx (fun k => kT p kf g (v.1 118 k) w) k < kT p kf g (v.1 118 k) w
      · rw [if_pos z] at ih
        rw [if_pos ((nL_lt hm (hb k)).mpr z)]
        exact ih
      · rw [if_neg z] at ih
        rw [if_neg (fun q => z ((nL_lt hm (hb k)).mp q))]
        exact ih
  exact s_U_greatest (key cnt' 0 (by omega))
/-- the least key of the greatest sum -/
def KG (p : Nat → Bool) (kf : Nat → Int32) (g : Nat → Nat) (W : Nat) (r : Int32) : Prop := ((∀ x, x < W → ¬ p x = true) ∧ r = -1) ∨ ((∃ x, x < W ∧ p x = true ∧ kT p kf g (kf x) W = kG p kf g W ∧ r = kf x) ∧ ∀ x, x < W → p x = true → kT p kf g (kf x) W = kG p kf g W → r.toInt ≤ (kf x).toInt)
theorem U_key (hg : ∀ w, g w ≤ 10000000000) (hk0 : ∀ x, p x = true → 0 ≤ (kf x).toInt) {w : Nat} (hw : w ≤ 32) {v : Vv} (h : SM p kf g w v) {Q : Int32 → Vv → Prop} (hQ : ∀ r, KG p kf g w r → Q r v) : m_U_keyOfGreatest v Q := by
  refine s_U_keyOfGreatest (U_greatest hg hw h ?_)
  obtain ⟨cnt, h1, h2, h3, h4, h5, h6, h7⟩ := id h
  obtain ⟨cnt', c1, c2, c3⟩ := h.mx
  obtain rfl := nm_eq (by omega) (by omega) (c2.symm.trans h2)
  have hb : ∀ t, kT p kf g t w < 2 ^ 63 := fun t => by have := kT_bound (p := p) (kf := kf) hg (t := t) hw; omega
  have hG : kG p kf g w < 2 ^ 63 := by have := kG_bound (p := p) (kf := kf) hg hw; omega
  have key : ∀ j k : Nat, k + j = cnt' → ∀ r, ((∀ i, i < k → kT p kf g (v.1 118 i) w ≠ kG p kf g w) ∧ r = -1 ∨ (∃ i, i < k ∧ kT p kf g (v.1 118 i) w = kG p kf g w ∧ r = v.1 118 i) ∧ ∀ i, i < k → kT p kf g (v.1 118 i) w = kG p kf g w → r.toInt ≤ (v.1 118 i).toInt) → k_U_keyOfGreatest_10 (nL (kG p kf g w)) r (nI k) v Q := by
    intro j
    induction j with
    | zero =>
      intro k e r hr
      obtain rfl : k = cnt' := e
      refine s_U_keyOfGreatest_10 ?_
      rw [h2, if_neg (nI_nlt (Nat.le_refl _) (by omega))]
      refine hQ r ?_
      rcases hr with ⟨a, b⟩ | ⟨⟨i, hi, a, b⟩, c⟩
      · refine Or.inl ⟨fun x hx px => ?_, b⟩
        obtain ⟨i, hi, -⟩ := h5 x hx px
        rcases mx_ex (fun k => kT p kf g (v.1 118 k) w) k with z | ⟨i2, hi2, z⟩
        · rw [c3] at z
          have := mx_le (fun k => kT p kf g (v.1 118 k) w) k i hi
          rw [c3, z] at this
          exact a i hi (by rw [z]; exact Nat.le_zero.mp this)
        · rw [c3] at z
          exact a i2 hi2 z
      · obtain ⟨x, hx, px, e⟩ := h3 i hi
        refine Or.inr ⟨⟨x, hx, px, by rw [← e]; exact a, b.trans e⟩, fun y hy py hyG => ?_⟩
        obtain ⟨i2, hi2, e2⟩ := h5 y hy py
        rw [← e2]
        exact c i2 hi2 (by rw [e2]; exact hyG)
    | succ j ih =>
      intro k e r hr
      refine s_U_keyOfGreatest_10 ?_
      rw [h2, if_pos (nI_lt (by omega) (by omega)), ix_nI (by omega), h6 k (by omega)]
      refine ⟨ib_nI (by omega) (by decide), ?_⟩
      have hnn : 0 ≤ (v.1 118 k).toInt := by
        obtain ⟨x, hx, px, e⟩ := h3 k (by omega)
        rw [e]; exact hk0 x px
      by_cases z : kT p kf g (v.1 118 k) w = kG p kf g w
      · rw [z, if_pos rfl, nI_1]
        refine ih (k + 1) (by omega) _ (Or.inr ?_)
        rcases hr with ⟨a, b⟩ | ⟨⟨i, hi, a, b⟩, c⟩
        · rw [if_pos b]
          refine ⟨⟨k, by omega, z, rfl⟩, fun i hi hiG => ?_⟩
          by_cases y : i = k
          · rw [y]; exact Int.le_refl _
          · exact absurd hiG (a i (by omega))
        · have hr0 : 0 ≤ r.toInt := by
            obtain ⟨x, hx, px, e⟩ := h3 i (by omega)
            rw [b, e]; exact hk0 x px
          rw [if_neg (fun q => by rw [q] at hr0; exact absurd hr0 (by decide))]
          by_cases y : v.1 118 k < r
          · rw [if_pos y]
            rw [Int32.lt_iff_toInt_lt] at y
            refine ⟨⟨k, by omega, z, rfl⟩, fun i2 hi2 hiG => ?_⟩
            by_cases y2 : i2 = k
            · rw [y2]; exact Int.le_refl _
            · have := c i2 (by omega) hiG
              omega
          · rw [if_neg y]
            rw [Int32.lt_iff_toInt_lt] at y
            refine ⟨⟨i, by omega, a, b⟩, fun i2 hi2 hiG => ?_⟩
            by_cases y2 : i2 = k
            · rw [y2]; omega
            · exact c i2 (by omega) hiG
      · rw [if_neg (fun q => z ?_)]
        · refine s_U_keyOfGreatest_55 ?_
          rw [nI_1]
          refine ih (k + 1) (by omega) r ?_
          rcases hr with ⟨a, b⟩ | ⟨⟨i, hi, a, b⟩, c⟩
          · refine Or.inl ⟨fun i hi => ?_, b⟩
            by_cases y : i = k
            · rw [y]; exact z
            · exact a i (by omega)
          · refine Or.inr ⟨⟨i, by omega, a, b⟩, fun i2 hi2 hiG => ?_⟩
            by_cases y : i2 = k
            · rw [y] at hiG; exact absurd hiG z
            · exact c i2 (by omega) hiG
        · rw [l_eq, nL_tL (hb _), nL_tL hG] at q
          omega
  exact key cnt' 0 (by omega) (-1) (Or.inl ⟨fun i hi => absurd hi (Nat.not_lt_zero _), rfl⟩)
theorem U_above {w : Nat} (hg : ∀ w, g w ≤ 10000000000) (hw : w ≤ 32) {v : Vv} (h : SM p kf g w v) {Q : Int32 → Vv → Prop} (hQ : Q (nI (cntF p kf g w)) v) : m_U_aboveNothing v Q := by
  obtain ⟨cnt, h1, h2, h3, h4, h5, h6, h7⟩ := h
  rw [← h7] at hQ
  have key : ∀ j k : Nat, k + j = cnt → k_U_aboveNothing_4 (nI (cp (fun k => kT p kf g (v.1 118 k) w) k)) (nI k) v Q := by
    intro j
    induction j with
    | zero =>
      intro k e
      obtain rfl : k = cnt := e
      refine s_U_aboveNothing_4 ?_
      rw [h2, if_neg (nI_nlt (Nat.le_refl _) (by omega))]
      exact hQ
    | succ j ih =>
      intro k e
      have ih := ih (k + 1) (by omega)
      unfold cp at ih
      refine s_U_aboveNothing_4 ?_
      rw [h2, if_pos (nI_lt (by omega) (by omega)), ix_nI (by omega), h6 k (by omega)]
      refine ⟨ib_nI (by omega) (by decide), ?_⟩
      have hb := kT_bound (p := p) (kf := kf) hg (t := v.1 118 k) hw
      by_cases z : 0 < kT p kf g (v.1 118 k) w
      · rw [if_pos z] at ih
        rw [if_pos ((nL_pos (by omega)).mpr z), nI_1]
        refine s_U_aboveNothing_26 ?_
        rw [nI_1]
        exact ih
      · rw [if_neg z, Nat.add_zero] at ih
        rw [if_neg (fun q => z ((nL_pos (by omega)).mp q))]
        refine s_U_aboveNothing_26 ?_
        rw [nI_1]
        exact ih
  exact s_U_aboveNothing (key cnt 0 (by omega))
end KT2
