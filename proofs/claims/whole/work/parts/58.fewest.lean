-- fewest
theorem sub_bits : ∀ s, s < 64 → ∀ a, a < 64 → (nI s &&& nI a = nI s ↔ s &&& a = s) := by decide +kernel
theorem or_bit2 : ∀ c, c < 6 → ∀ x, x < 64 → nI x ||| ((1 : Int32) <<< (nI c &&& 31)) = nI (x ||| 2 ^ c) := by decide +kernel
theorem bit_test : ∀ s, s < 64 → ∀ c, c < 6 → (((nI s >>> (nI c &&& 31)) &&& 1 = 1) ↔ s.testBit c = true) := by decide +kernel
theorem shl6 : ∀ n, n < 7 → (1 : Int32) <<< (nI n &&& 31) = nI (2 ^ n) := by decide +kernel
theorem sub_iff {s a : Nat} : s &&& a = s ↔ ∀ c, s.testBit c = true → a.testBit c = true := by
  constructor
  · intro h c hc
    have := congrArg (fun x => Nat.testBit x c) h
    simp only [Nat.testBit_and] at this
    rw [hc, Bool.true_and] at this
    exact this
  · intro h
    apply Nat.eq_of_testBit_eq
    intro c
    rw [Nat.testBit_and]
    cases e : s.testBit c
    · rfl
    · rw [h c e]; rfl
theorem bit_lt {s n c : Nat} (h : s < 2 ^ n) (hc : s.testBit c = true) : c < n := by
  by_cases z : c < n
  · exact z
  · have h2 : 2 ^ n ≤ 2 ^ c := Nat.pow_le_pow_right (by decide) (by omega)
    rw [Nat.testBit_lt_two_pow (by omega)] at hc
    exact absurd hc (by decide)
section FW
variable (A : Cf) (F : Rl) (n m : Nat)
noncomputable def mor (w x c : Nat) : Int32 := wat A F n m w c - wat A F n m x c
noncomputable def alk (w x : Nat) (d : Int32) : Nat → Nat
  | 0 => 0
  | e + 1 => if mor A F n m w x e = d then alk w x d e ||| 2 ^ e else alk w x d e
def can (w : Nat) : Prop := 0 < chN A F w m
/-- one clock of them is more, and the others like it -/
def blB (w x s : Nat) : Prop := s ≠ 0 ∧ ∃ c, c < n ∧ 0 < mor A F n m w x c ∧ s &&& alk A F n m w x (mor A F n m w x c) n = s
def blN (s : Nat) : Prop := ∃ w x, w < 2 ^ m ∧ x < 2 ^ m ∧ can A F m w ∧ can A F m x ∧ blB A F n m w x s
noncomputable def fewS : Nat → Int32
  | 0 => -1
  | s + 1 => by classical exact if s ≠ 0 ∧ ¬ blN A F n m s ∧ (fewS s = -1 ∨ bitI (nI s) < bitI (fewS s)) then nI s else fewS s
end FW
def BLD (v : Vv) (B : Nat → Prop) : Prop := ∀ s, s < 64 → (v.1 120 s = 0 ↔ ¬ B s)
def CLS (B : Nat → Prop) : Prop := ∀ s t, s ≠ 0 → s < 64 → t < 64 → s &&& t = s → B t → B s
theorem BLD.iff {v : Vv} {B C : Nat → Prop} (h : BLD v B) (e : ∀ s, s < 64 → (B s ↔ C s)) : BLD v C := fun s hs => (h s hs).trans (not_congr (e s hs))
theorem nb_1 : nb 1 = 1 := by decide
theorem nb_0 : nb 0 = 0 := by decide
theorem BLD.set {v : Vv} {B : Nat → Prop} (h : BLD v B) {s : Nat} (hs : s < 64) : BLD (sI v 120 s (nb 1)) (fun t => B t ∨ t = s) := fun t ht => by
  rw [nb_1]
  by_cases e : t = s
  · rw [e, sI_same]
    exact ⟨fun z => absurd z (by decide), fun z => absurd (Or.inr rfl) z⟩
  · rw [sI_slot _ _ _ _ e, h t ht]
    exact ⟨fun a b => b.elim a e, fun a b => a (Or.inl b)⟩
theorem C_blindAll {a : Nat} (ha : a < 64) {v : Vv} {B : Nat → Prop} (hB : BLD v B) (hc : CLS B) {Q : Vv → Prop} (hQ : ∀ v', F2 ASC LSC v v' → BLD v' (fun s => B s ∨ s ≠ 0 ∧ s &&& a = s) → Q v') : m_K_blindAllOf (nI a) v Q := by
  refine s_K_blindAllOf ⟨ib_nI ha (by decide), ?_⟩
  rw [ix_nI (by omega)]
  by_cases z : v.1 120 a = 0
  rotate_left
  · rw [if_neg z]
    have hBa : B a := Classical.byContradiction fun q => z ((hB a ha).mpr q)
    exact hQ v (F2.rf _ _ _) (hB.iff fun s hs => ⟨Or.inl, fun q => q.elim id fun q => hc s a q.1 hs ha q.2 hBa⟩)
  rw [if_pos z]
  have key : ∀ j i : Nat, i + j = a + 1 → 1 ≤ i → ∀ u, F2 ASC LSC v u → BLD u (fun s => B s ∨ (s ≠ 0 ∧ s < i ∧ s &&& a = s)) → k_K_blindAllOf_12 (nI a) (nI i) u Q := by
    intro j
    induction j with
    | zero =>
      intro i e _ u f hb
      obtain rfl : i = a + 1 := e
      refine s_K_blindAllOf_12 ?_
      rw [if_pos (nI_lt (by omega) (by omega))]
      refine hQ u f (hb.iff fun s hs => or_congr Iff.rfl ⟨fun q => ⟨q.1, q.2.2⟩, fun q => ⟨q.1, ?_, q.2⟩⟩)
      have : s &&& a ≤ a := Nat.and_le_right
      rw [q.2] at this
      omega
    | succ j ih =>
      intro i e h1 u f hb
      refine s_K_blindAllOf_12 ?_
      rw [if_neg (nI_nlt (by omega) (by omega)), ix_nI (by omega)]
      by_cases y : i &&& a = i
      · rw [if_pos ((sub_bits i (by omega) a ha).mpr y)]
        refine ⟨ib_nI (by omega) (by decide), s_K_blindAllOf_31 ?_⟩
        rw [nI_1]
        refine ih (i + 1) (by omega) (by omega) _ (f.sI (by unfold ASC; omega) _) ((hb.set (by omega)).iff fun s hs => ⟨fun q => ?_, fun q => ?_⟩)
        · rcases q with (q | q) | q
          · exact Or.inl q
          · exact Or.inr ⟨q.1, by omega, q.2.2⟩
          · exact Or.inr ⟨by omega, by omega, by rw [q]; exact y⟩
        · rcases q with q | q
          · exact Or.inl (Or.inl q)
          · by_cases x : s = i
            · exact Or.inr x
            · exact Or.inl (Or.inr ⟨q.1, by omega, q.2.2⟩)
      · rw [if_neg (fun q => y ((sub_bits i (by omega) a ha).mp q))]
        refine s_K_blindAllOf_31 ?_
        rw [nI_1]
        refine ih (i + 1) (by omega) (by omega) u f (hb.iff fun s hs => or_congr Iff.rfl ⟨fun q => ⟨q.1, by omega, q.2.2⟩, fun q => ⟨q.1, ?_, q.2.2⟩⟩)
        by_cases x : s = i
        · rw [x] at q; exact absurd q.2.2 y
        · omega
  exact key a 1 (by omega) (Nat.le_refl _) v (F2.rf _ _ _) (hB.iff fun s hs => ⟨Or.inl, fun q => q.elim id fun q => by omega⟩)
section FW2
variable {A : Cf} {F : Rl} {n m : Nat}
theorem alk_64 (w x : Nat) (d : Int32) : ∀ e, e ≤ 6 → alk A F n m w x d e < 64
  | 0, _ => show 0 < 64 by decide
  | e + 1, he => by
    have h := alk_64 w x d e (by omega)
    unfold alk
    split
    · have h2 : 2 ^ e < 2 ^ 6 := Nat.pow_lt_pow_right (by decide) (by omega)
      exact Nat.or_lt_two_pow (n := 6) h h2
    · exact h
theorem alk_bit (w x : Nat) (d : Int32) : ∀ e c, (alk A F n m w x d e).testBit c = true ↔ c < e ∧ mor A F n m w x c = d
  | 0, c => ⟨fun h => by
      have : (0 : Nat).testBit c = true := h
      rw [Nat.zero_testBit] at this
      exact absurd this (by decide), fun h => absurd h.1 (Nat.not_lt_zero _)⟩
  | e + 1, c => by
    have h := alk_bit w x d e c
    unfold alk
    by_cases z : mor A F n m w x e = d
    · rw [if_pos z, Nat.testBit_or, Bool.or_eq_true, h, Nat.testBit_two_pow]
      constructor
      · rintro (q | q)
        · exact ⟨by omega, q.2⟩
        · have q := of_decide_eq_true q
          rw [← q]; exact ⟨by omega, z⟩
      · rintro ⟨q1, q2⟩
        by_cases y : c = e
        · exact Or.inr (decide_eq_true y.symm)
        · exact Or.inl ⟨by omega, q2⟩
    · rw [if_neg z, h]
      refine ⟨fun q => ⟨by omega, q.2⟩, fun q => ⟨?_, q.2⟩⟩
      by_cases y : c = e
      · rw [y] at q; exact absurd q.2 z
      · omega
/-- all of a set are more by one number -/
def allM (A : Cf) (F : Rl) (n m w x s : Nat) : Prop := ∃ d : Int32, 0 < d ∧ ∀ c, c < n → s.testBit c = true → mor A F n m w x c = d
theorem blB_iff {w x s : Nat} (hs : s < 2 ^ n) (h0 : s ≠ 0) : blB A F n m w x s ↔ allM A F n m w x s := by
  constructor
  · rintro ⟨-, c, hc, hp, hs2⟩
    exact ⟨_, hp, fun e he hb => ((alk_bit w x _ n e).mp (sub_iff.mp hs2 e hb)).2⟩
  · rintro ⟨d, hd, h⟩
    obtain ⟨c, hc⟩ : ∃ c, s.testBit c = true := by
      refine Classical.byContradiction fun q => h0 (Nat.eq_of_testBit_eq fun c => ?_)
      rw [Nat.zero_testBit]
      cases e : s.testBit c
      · rfl
      · exact absurd ⟨c, e⟩ q
    have hcn := bit_lt hs hc
    have e := h c hcn hc
    refine ⟨h0, c, hcn, by rw [e]; exact hd, sub_iff.mpr fun y hy => (alk_bit w x _ n y).mpr ⟨bit_lt hs hy, by rw [e]; exact h y (bit_lt hs hy) hy⟩⟩
theorem CLS_or {B C : Nat → Prop} (h1 : CLS B) (h2 : CLS C) : CLS (fun s => B s ∨ C s) := fun s t a b c d e => e.imp (h1 s t a b c d) (h2 s t a b c d)
theorem CLS_sub (a : Nat) : CLS (fun s => s ≠ 0 ∧ s &&& a = s) := fun s t h0 _ _ h1 h2 => ⟨h0, by
  rw [← h1, Nat.and_assoc, h2.2]⟩
theorem C_blindBy (hA : OK A n m) {w x : Nat} (hw : w < 2 ^ m) (hx : x < 2 ^ m) {v : Vv} (hC : CA A n m v) (hF : FRESH A F n m v) {B : Nat → Prop} (hB : BLD v B) (hcl : CLS B) {Q : Vv → Prop} (hQ : ∀ v', F2 ASC LSC v v' → BLD v' (fun s => B s ∨ blB A F n m w x s) → Q v') : m_K_blindBy (nI w) (nI x) v Q := by
  have h5 := hA.2.1
  have h6 := hA.1
  have h2m := two m h5
  have hmor : ∀ u, F2 ASC LSC v u → ∀ c, c < n → u.1 (3 + w) c - u.1 (3 + x) c = mor A F n m w x c := fun u f c hc => by
    have hFu := hF.on h5 f.sk
    rw [((hFu.2.2.2 w hw).1 c hc).1, ((hFu.2.2.2 x hx).1 c hc).1]
    rfl
  have clB : ∀ k, CLS (fun s => s ≠ 0 ∧ ∃ c, c < k ∧ 0 < mor A F n m w x c ∧ s &&& alk A F n m w x (mor A F n m w x c) n = s) := fun k s t h0 _ _ h1 ⟨_, c, h2, h3, h4⟩ => ⟨h0, c, h2, h3, by
    rw [← h1, Nat.and_assoc, h4]⟩
  have key : ∀ j k : Nat, k + j = n → ∀ u, F2 ASC LSC v u → BLD u (fun s => B s ∨ (s ≠ 0 ∧ ∃ c, c < k ∧ 0 < mor A F n m w x c ∧ s &&& alk A F n m w x (mor A F n m w x c) n = s)) → k_K_blindBy_3 (nI w) (nI x) (nI k) u Q := by
    intro j
    induction j with
    | zero =>
      intro k e u f hb
      obtain rfl : k = n := e
      refine s_K_blindBy_3 ?_
      rw [(hC.kw hA f.sk).1, if_neg (nI_nlt (Nat.le_refl _) (by omega))]
      exact hQ u f hb
    | succ j ih =>
      intro k e u f hb
      refine s_K_blindBy_3 ?_
      rw [(hC.kw hA f.sk).1, if_pos (nI_lt (by omega) (by omega)), ix_nI (by omega), ix_nI (by omega), ix_nI (by omega), hmor u f k (by omega)]
      refine ⟨ib_nI (by omega) (by decide), ib_nI (by omega) (by decide), ib_nI (by omega) (by decide), ?_⟩
      by_cases z : 0 < mor A F n m w x k
      · rw [if_pos z]
        have inner : ∀ j e : Nat, e + j = n → k_K_blindBy_50 (nI w) (nI x) (nI k) (mor A F n m w x k) (nI (alk A F n m w x (mor A F n m w x k) e)) (nI e) u Q := by
          intro j
          induction j with
          | zero =>
            intro e he
            obtain rfl : e = n := he
            refine s_K_blindBy_50 ?_
            rw [(hC.kw hA f.sk).1, if_neg (nI_nlt (Nat.le_refl _) (by omega))]
            refine C_blindAll (alk_64 w x _ _ h6) hb (CLS_or hcl (clB k)) fun v' f' hb' => s_K_blindBy_107 ?_
            rw [nI_1]
            refine ih (k + 1) (by omega) v' (f.tr f') (hb'.iff fun s hs => ⟨fun q => ?_, fun q => ?_⟩)
            · rcases q with (q | ⟨a, c, b1, b2⟩) | q
              · exact Or.inl q
              · exact Or.inr ⟨a, c, by omega, b2⟩
              · exact Or.inr ⟨q.1, k, by omega, z, q.2⟩
            · rcases q with q | ⟨a, c, b1, b2⟩
              · exact Or.inl (Or.inl q)
              · by_cases y : c = k
                · rw [y] at b2; exact Or.inr ⟨a, b2.2⟩
                · exact Or.inl (Or.inr ⟨a, c, by omega, b2⟩)
          | succ j ih2 =>
            intro e he
            have ih2 := ih2 (e + 1) (by omega)
            unfold alk at ih2
            refine s_K_blindBy_50 ?_
            rw [(hC.kw hA f.sk).1, if_pos (nI_lt (by omega) (by omega)), ix_nI (by omega), ix_nI (by omega), ix_nI (by omega), hmor u f e (by omega), nI_1]
            refine ⟨ib_nI (by omega) (by decide), ib_nI (by omega) (by decide), ib_nI (by omega) (by decide), ?_⟩
            by_cases y : mor A F n m w x e = mor A F n m w x k
            · rw [if_pos y] at ih2
              rw [if_pos y, or_bit2 e (by omega) _ (alk_64 w x _ e (by omega))]
              exact ih2
            · rw [if_neg y] at ih2
              rw [if_neg y]
              exact ih2
        exact inner n 0 (by omega)
      · rw [if_neg z]
        refine s_K_blindBy_107 ?_
        rw [nI_1]
        refine ih (k + 1) (by omega) u f (hb.iff fun s hs => or_congr Iff.rfl ⟨fun ⟨a, c, b1, b2⟩ => ⟨a, c, by omega, b2⟩, fun ⟨a, c, b1, b2⟩ => ⟨a, c, ?_, b2⟩⟩)
        by_cases y : c = k
        · rw [y] at b2; exact absurd b2.1 z
        · omega
  exact s_K_blindBy (key n 0 (by omega) v (F2.rf _ _ _) (hB.iff fun s hs => ⟨Or.inl, fun q => q.elim id fun ⟨_, c, hc, _⟩ => absurd hc (Nat.not_lt_zero _)⟩))
theorem blB_cls (w x : Nat) : CLS (fun s => blB A F n m w x s) := fun s t h0 _ _ h1 ⟨_, c, h2, h3, h4⟩ => ⟨h0, c, h2, h3, by
  rw [← h1, Nat.and_assoc, h4]⟩
theorem fewS_in : ∀ s, s ≤ 64 → fewS A F n m s = -1 ∨ ∃ k, k < 64 ∧ fewS A F n m s = nI k
  | 0, _ => Or.inl rfl
  | s + 1, h => by
    have h1 := fewS_in s (by omega)
    unfold fewS
    split
    · exact Or.inr ⟨s, by omega, rfl⟩
    · exact h1
theorem nI_ne {k : Nat} (h : k < 64) : ¬ nI k = -1 := fun z => by
  rw [i_eq, nI_tI (by omega)] at z
  have : (-1 : Int32).toInt = -1 := by decide
  omega
theorem fewS_succ (s : Nat) : (s ≠ 0 ∧ ¬ blN A F n m s ∧ (fewS A F n m s = -1 ∨ bitI (nI s) < bitI (fewS A F n m s)) → fewS A F n m (s + 1) = nI s) ∧ (¬ (s ≠ 0 ∧ ¬ blN A F n m s ∧ (fewS A F n m s = -1 ∨ bitI (nI s) < bitI (fewS A F n m s))) → fewS A F n m (s + 1) = fewS A F n m s) := by
  constructor
  · intro h
    unfold fewS
    exact if_pos h
  · intro h
    rw [fewS]
    exact if_neg h
theorem fewS_1 : fewS A F n m 1 = -1 := (fewS_succ 0).2 fun h => h.1 rfl
theorem C_fewest (hA : OK A n m) {v : Vv} (hC : CA A n m v) (hF : FRESH A F n m v) {Q : Int32 → Vv → Prop} (hQ : ∀ v', F2 ASC LSC v v' → Q (fewS A F n m (2 ^ n)) v') : m_K_fewestThatTell v Q := by
  have h5 := hA.2.1
  have h6 := hA.1
  have h2m := two m h5
  have h1n : 1 ≤ 2 ^ n := Nat.one_le_two_pow
  have h64 : 2 ^ n ≤ 2 ^ 6 := Nat.pow_le_pow_right (by decide) h6
  -- which set is found
  have third : ∀ u, F2 ASC LSC v u → BLD u (fun s => blN A F n m s) → ∀ j s : Nat, s + j = 2 ^ n → 1 ≤ s → k_K_fewestThatTell_89 (fewS A F n m s) (nI s) u Q := by
    intro u f hb j
    induction j with
    | zero =>
      intro s e _
      obtain rfl : s = 2 ^ n := e
      refine s_K_fewestThatTell_89 ?_
      rw [(hC.kw hA f.sk).1, shl6 n (by omega), if_neg (nI_nlt (Nat.le_refl _) (by omega))]
      exact hQ u f
    | succ j ih =>
      intro s e h1
      have ih := ih (s + 1) (by omega) (by omega)
      obtain ⟨e1, e2⟩ := fewS_succ (A := A) (F := F) (n := n) (m := m) s
      refine s_K_fewestThatTell_89 ?_
      rw [(hC.kw hA f.sk).1, shl6 n (by omega), if_pos (nI_lt (by omega) (by omega)), ix_nI (by omega)]
      refine ⟨ib_nI (by omega) (by decide), ?_⟩
      by_cases z : u.1 120 s = 0
      · rw [if_pos z]
        have hno := (hb s (by omega)).mp z
        by_cases y : fewS A F n m s = -1
        · rw [if_pos y]
          rw [e1 ⟨by omega, hno, Or.inl y⟩] at ih
          refine s_K_fewestThatTell_127 (s_K_fewestThatTell_129 ?_)
          rw [nI_1]
          exact ih
        · rw [if_neg y]
          obtain ⟨k, hk, ek⟩ := (fewS_in (A := A) (F := F) (n := n) (m := m) s (by omega)).resolve_left y
          refine JI_bitCount (by rw [nI_tI (by omega)]; omega) (JI_bitCount (by rw [ek, nI_tI (by omega)]; omega) ?_)
          rw [nI_1]
          by_cases x : bitI (nI s) < bitI (fewS A F n m s)
          · rw [e1 ⟨by omega, hno, Or.inr x⟩] at ih
            rw [if_pos x]
            exact ih
          · rw [e2 (fun q => q.2.2.elim y x)] at ih
            rw [if_neg x]
            exact ih
      · rw [if_neg z]
        rw [e2 (fun q => z ((hb s (by omega)).mpr q.2.1))] at ih
        refine s_K_fewestThatTell_129 ?_
        rw [nI_1]
        exact ih
  -- the worlds, two by two
  have second : ∀ j w : Nat, w + j = 2 ^ m → ∀ u, F2 ASC LSC v u → BLD u (fun s => ∃ a b, a < w ∧ b < 2 ^ m ∧ can A F m a ∧ can A F m b ∧ blB A F n m a b s) → k_K_fewestThatTell_26 (nI w) u Q := by
    intro j
    induction j with
    | zero =>
      intro w e u f hb
      obtain rfl : w = 2 ^ m := e
      refine s_K_fewestThatTell_26 ?_
      rw [(hF.on h5 f.sk).1, if_neg (nI_nlt (Nat.le_refl _) (by omega))]
      have h := third u f (hb.iff fun s hs => Iff.rfl) (2 ^ n - 1) 1 (by omega) (Nat.le_refl _)
      rw [fewS_1] at h
      exact h
    | succ j ih =>
      intro w e u f hb
      have hw : w < 2 ^ m := by omega
      refine s_K_fewestThatTell_26 ?_
      rw [(hF.on h5 f.sk).1, if_pos (nI_lt hw (by omega))]
      have inner : ∀ j x : Nat, x + j = 2 ^ m → ∀ u, F2 ASC LSC v u → BLD u (fun s => (∃ a b, a < w ∧ b < 2 ^ m ∧ can A F m a ∧ can A F m b ∧ blB A F n m a b s) ∨ ∃ b, b < x ∧ can A F m w ∧ can A F m b ∧ blB A F n m w b s) → k_K_fewestThatTell_36 (nI w) (nI x) u Q := by
        intro j
        induction j with
        | zero =>
          intro x e u f hb
          obtain rfl : x = 2 ^ m := e
          refine s_K_fewestThatTell_36 ?_
          rw [(hF.on h5 f.sk).1, if_neg (nI_nlt (Nat.le_refl _) (by omega)), nI_1]
          refine ih (w + 1) (by omega) u f (hb.iff fun s hs => ⟨fun q => ?_, fun q => ?_⟩)
          · rcases q with ⟨a, b, q1, q2⟩ | ⟨b, q1, q2, q3⟩
            · exact ⟨a, b, by omega, q2⟩
            · exact ⟨w, b, by omega, q1, q2, q3⟩
          · obtain ⟨a, b, q1, q2, q3, q4⟩ := q
            by_cases y : a = w
            · rw [y] at q3 q4; exact Or.inr ⟨b, q2, q3, q4⟩
            · exact Or.inl ⟨a, b, by omega, q2, q3, q4⟩
        | succ j ih2 =>
          intro x e u f hb
          have hx : x < 2 ^ m := by omega
          have hFu := hF.on h5 f.sk
          refine s_K_fewestThatTell_36 ?_
          rw [hFu.1, if_pos (nI_lt hx (by omega)), ix_nI (by omega), ix_nI (by omega), (hFu.2.2.2 w hw).2.2.1, (hFu.2.2.2 x hx).2.2.1, chc_N, chc_N]
          refine ⟨ib_nI (by omega) (by decide), ?_⟩
          have skip : ¬ (can A F m w ∧ can A F m x) → k_K_fewestThatTell_73 (nI w) (nI x) u Q := fun hno => by
            refine s_K_fewestThatTell_73 ?_
            rw [nI_1]
            refine ih2 (x + 1) (by omega) u f (hb.iff fun s hs => or_congr Iff.rfl ⟨fun ⟨b, q1, q2⟩ => ⟨b, by omega, q2⟩, fun ⟨b, q1, q2, q3, q4⟩ => ⟨b, ?_, q2, q3, q4⟩⟩)
            by_cases y : b = x
            · rw [y] at q3; exact absurd ⟨q2, q3⟩ hno
            · omega
          by_cases y1 : 0 < chN A F w m
          rotate_left
          · rw [if_neg (fun q => y1 ((nL_pos (chN_63 hA w)).mp q))]
            exact skip fun q => y1 q.1
          rw [if_pos ((nL_pos (chN_63 hA w)).mpr y1)]
          refine ⟨ib_nI (by omega) (by decide), ?_⟩
          by_cases y2 : 0 < chN A F x m
          rotate_left
          · rw [if_neg (fun q => y2 ((nL_pos (chN_63 hA x)).mp q))]
            exact skip fun q => y2 q.2
          rw [if_pos ((nL_pos (chN_63 hA x)).mpr y2)]
          refine C_blindBy hA hw hx (hC.kw hA f.sk) hFu hb ?_ fun v' f' hb' => s_K_fewestThatTell_73 ?_
          · refine CLS_or (fun s t h0 h1 h2 h3 ⟨a, b, q1, q2, q3, q4, q5⟩ => ⟨a, b, q1, q2, q3, q4, blB_cls a b s t h0 h1 h2 h3 q5⟩) (fun s t h0 h1 h2 h3 ⟨b, q1, q2, q3, q4⟩ => ⟨b, q1, q2, q3, blB_cls w b s t h0 h1 h2 h3 q4⟩)
          · rw [nI_1]
            refine ih2 (x + 1) (by omega) v' (f.tr f') (hb'.iff fun s hs => ⟨fun q => ?_, fun q => ?_⟩)
            · rcases q with (q | ⟨b, q1, q2⟩) | q
              · exact Or.inl q
              · exact Or.inr ⟨b, by omega, q2⟩
              · exact Or.inr ⟨x, by omega, y1, y2, q⟩
            · rcases q with q | ⟨b, q1, q2, q3, q4⟩
              · exact Or.inl (Or.inl q)
              · by_cases y : b = x
                · rw [y] at q4; exact Or.inr q4
                · exact Or.inl (Or.inr ⟨b, by omega, q2, q3, q4⟩)
      exact inner (2 ^ m) 0 (by omega) u f (hb.iff fun s hs => ⟨Or.inl, fun q => q.elim id fun ⟨b, hb, _⟩ => absurd hb (Nat.not_lt_zero _)⟩)
  -- no set is blind at first
  have first : ∀ j s : Nat, s + j = 64 → ∀ u, F2 ASC LSC v u → (∀ t, t < s → u.1 120 t = 0) → k_K_fewestThatTell_2 (nI s) u Q := by
    intro j
    induction j with
    | zero =>
      intro s e u f h0
      obtain rfl : s = 64 := e
      refine s_K_fewestThatTell_2 ?_
      rw [if_neg (by decide)]
      exact second (2 ^ m) 0 (by omega) u f fun t ht => ⟨fun _ ⟨a, b, q, _⟩ => absurd q (Nat.not_lt_zero _), fun _ => h0 t ht⟩
    | succ j ih =>
      intro s e u f h0
      refine s_K_fewestThatTell_2 ?_
      rw [if_pos (by rw [show (64 : Int32) = nI 64 from rfl]; exact nI_lt (by omega) (by decide)), ix_nI (by omega), nI_1, nb_0]
      refine ⟨ib_nI (by omega) (by decide), ih (s + 1) (by omega) _ (f.sI (by unfold ASC; omega) _) fun t ht => ?_⟩
      by_cases z : t = s
      · rw [z, sI_same]
      · rw [sI_slot _ _ _ _ z]; exact h0 t (by omega)
  exact s_K_fewestThatTell (first 64 0 rfl v (F2.rf _ _ _) fun t ht => absurd ht (Nat.not_lt_zero _))
-- the reference
theorem M_areMore (hA : OK A n m) {w x s : Nat} (hw : w < 2 ^ m) (hx : x < 2 ^ m) (hs : s < 64) {v : Vv} (hM : MA A n m v) (hR : ∀ x, x < 2 ^ m → MROW A F n m x v) {Q : Bool → Vv → Prop} (hT : allM A F n m w x s → Q true v) (hN : ¬ allM A F n m w x s → Q false v) : m_M_areMore (nI s) (nI w) (nI x) v Q := by
  have h5 := hA.2.1
  have h6 := hA.1
  have h2m := two m h5
  have key : ∀ j c : Nat, c + j = n → ∀ d : Int32, (d = 0 ∧ (∀ e, e < c → ¬ s.testBit e = true) ∨ 0 < d ∧ (∀ e, e < c → s.testBit e = true → mor A F n m w x e = d) ∧ ∃ e, e < c ∧ s.testBit e = true) → k_M_areMore_6 (nI s) (nI w) (nI x) d (nI c) v Q := by
    intro j
    induction j with
    | zero =>
      intro c e d hd
      obtain rfl : c = n := e
      refine s_M_areMore_6 ?_
      rw [hM.1, if_neg (nI_nlt (Nat.le_refl _) (by omega))]
      refine hT ?_
      rcases hd with ⟨-, h⟩ | ⟨h1, h2, -⟩
      · exact ⟨1, by decide, fun e he hb => absurd hb (h e he)⟩
      · exact ⟨d, h1, h2⟩
    | succ j ih =>
      intro c e d hd
      have hc : c < n := by omega
      refine s_M_areMore_6 ?_
      rw [hM.1, if_pos (nI_lt (by omega) (by omega)), six, six, ix_nI (by omega), ix_nI (by omega), ((hR w hw).1 c hc).1, ((hR x hx).1 c hc).1]
      show if ((nI s >>> (nI c &&& 31)) &&& 1) = 1 then ib (nI (6 * w + c)) 192 ∧ ib (nI (6 * x + c)) 192 ∧ (if 0 < mor A F n m w x c then (if d = 0 then k_M_areMore_71 (nI s) (nI w) (nI x) (nI c) (mor A F n m w x c) v Q else (if mor A F n m w x c = d then k_M_areMore_71 (nI s) (nI w) (nI x) (nI c) (mor A F n m w x c) v Q else Q false v)) else Q false v) else k_M_areMore_75 (nI s) (nI w) (nI x) d (nI c) v Q
      have hb := bit_test s hs c (by omega)
      by_cases z : s.testBit c = true
      · rw [if_pos (hb.mpr z)]
        refine ⟨ib_nI (by omega) (by decide), ib_nI (by omega) (by decide), ?_⟩
        by_cases y : 0 < mor A F n m w x c
        · rw [if_pos y]
          have go : (∀ e, e < c → s.testBit e = true → mor A F n m w x e = mor A F n m w x c) → k_M_areMore_71 (nI s) (nI w) (nI x) (nI c) (mor A F n m w x c) v Q := fun h => by
            refine s_M_areMore_71 (s_M_areMore_75 ?_)
            rw [nI_1]
            refine ih (c + 1) (by omega) _ (Or.inr ⟨y, fun e he hbe => ?_, c, by omega, z⟩)
            by_cases q : e = c
            · rw [q]
            · exact h e (by omega) hbe
          rcases hd with ⟨h0, h⟩ | ⟨h1, h2, e0, he0, hb0⟩
          · rw [if_pos h0]
            exact go fun e he hbe => absurd hbe (h e he)
          · rw [if_neg (fun q => by rw [q] at h1; exact absurd h1 (by decide))]
            by_cases q : mor A F n m w x c = d
            · rw [if_pos q]
              exact go fun e he hbe => (h2 e he hbe).trans q.symm
            · rw [if_neg q]
              refine hN fun ⟨d', hd', h'⟩ => q ?_
              rw [h' c hc z, ← h' e0 (by omega) hb0]
              exact h2 e0 he0 hb0
        · rw [if_neg y]
          exact hN fun ⟨d', hd', h'⟩ => y (by rw [h' c hc z]; exact hd')
      · rw [if_neg (fun q => z (hb.mp q))]
        refine s_M_areMore_75 ?_
        rw [nI_1]
        refine ih (c + 1) (by omega) d ?_
        rcases hd with ⟨h0, h⟩ | ⟨h1, h2, e0, he0, hb0⟩
        · refine Or.inl ⟨h0, fun e he => ?_⟩
          by_cases q : e = c
          · rw [q]; exact z
          · exact h e (by omega)
        · refine Or.inr ⟨h1, fun e he hbe => ?_, e0, by omega, hb0⟩
          by_cases q : e = c
          · rw [q] at hbe; exact absurd hbe z
          · exact h2 e (by omega) hbe
  exact s_M_areMore (key n 0 (by omega) 0 (Or.inl ⟨rfl, fun e he => absurd he (Nat.not_lt_zero _)⟩))
theorem M_tellsAll (hA : OK A n m) {s : Nat} (hs : s < 2 ^ n) (h0 : s ≠ 0) {v : Vv} (hM : MA A n m v) (hR : ∀ x, x < 2 ^ m → MROW A F n m x v) {Q : Bool → Vv → Prop} (hT : ¬ blN A F n m s → Q true v) (hN : blN A F n m s → Q false v) : m_M_tellsAll (nI s) v Q := by
  have h5 := hA.2.1
  have h6 := hA.1
  have h2m := two m h5
  have h64 : 2 ^ n ≤ 2 ^ 6 := Nat.pow_le_pow_right (by decide) h6
  have key : ∀ j w : Nat, w + j = 2 ^ m → (∀ a b, a < w → b < 2 ^ m → can A F m a → can A F m b → ¬ allM A F n m a b s) → k_M_tellsAll_2 (nI s) (nI w) v Q := by
    intro j
    induction j with
    | zero =>
      intro w e h
      obtain rfl : w = 2 ^ m := e
      refine s_M_tellsAll_2 (M_worldsN h5 hM.2.1 ?_)
      rw [if_neg (nI_nlt (Nat.le_refl _) (by omega))]
      exact hT fun ⟨a, b, q1, q2, q3, q4, q5⟩ => h a b q1 q2 q3 q4 ((blB_iff hs h0).mp q5)
    | succ j ih =>
      intro w e h
      have hw : w < 2 ^ m := by omega
      refine s_M_tellsAll_2 (M_worldsN h5 hM.2.1 ?_)
      rw [if_pos (nI_lt hw (by omega))]
      have inner : ∀ j x : Nat, x + j = 2 ^ m → (∀ b, b < x → can A F m w → can A F m b → ¬ allM A F n m w b s) → k_M_tellsAll_12 (nI s) (nI w) (nI x) v Q := by
        intro j
        induction j with
        | zero =>
          intro x e h2
          obtain rfl : x = 2 ^ m := e
          refine s_M_tellsAll_12 (M_worldsN h5 hM.2.1 ?_)
          rw [if_neg (nI_nlt (Nat.le_refl _) (by omega)), nI_1]
          refine ih (w + 1) (by omega) fun a b ha hb ca cb => ?_
          by_cases y : a = w
          · rw [y] at ca ⊢; exact h2 b hb ca cb
          · exact h a b (by omega) hb ca cb
        | succ j ih2 =>
          intro x e h2
          have hx : x < 2 ^ m := by omega
          refine s_M_tellsAll_12 (M_worldsN h5 hM.2.1 ?_)
          rw [if_pos (nI_lt hx (by omega)), ix_nI (by omega), ix_nI (by omega), (hR w hw).2.2.1, (hR x hx).2.2.1, chc_N, chc_N]
          refine ⟨ib_nI (by omega) (by decide), ?_⟩
          have skip : ¬ (can A F m w ∧ can A F m x ∧ allM A F n m w x s) → k_M_tellsAll_54 (nI s) (nI w) (nI x) v Q := fun hno => by
            refine s_M_tellsAll_54 ?_
            rw [nI_1]
            refine ih2 (x + 1) (by omega) fun b hb ca cb => ?_
            by_cases y : b = x
            · rw [y] at cb ⊢; exact fun q => hno ⟨ca, cb, q⟩
            · exact h2 b (by omega) ca cb
          by_cases y1 : 0 < chN A F w m
          rotate_left
          · rw [if_neg (fun q => y1 ((nL_pos (chN_63 hA w)).mp q))]
            exact skip fun q => y1 q.1
          rw [if_pos ((nL_pos (chN_63 hA w)).mpr y1)]
          refine ⟨ib_nI (by omega) (by decide), ?_⟩
          by_cases y2 : 0 < chN A F x m
          rotate_left
          · rw [if_neg (fun q => y2 ((nL_pos (chN_63 hA x)).mp q))]
            exact skip fun q => y2 q.2.1
          rw [if_pos ((nL_pos (chN_63 hA x)).mpr y2)]
          refine M_areMore hA hw hx (by omega) hM hR (fun q => ?_) fun q => ?_
          · rw [if_pos rfl]
            exact hN ⟨w, x, hw, hx, y1, y2, (blB_iff hs h0).mpr q⟩
          · rw [if_neg (by decide)]
            exact skip fun z => q z.2.2
      exact inner (2 ^ m) 0 (by omega) fun b hb => absurd hb (Nat.not_lt_zero _)
  exact s_M_tellsAll (key (2 ^ m) 0 (by omega) fun a b ha => absurd ha (Nat.not_lt_zero _))
theorem fewest_step {v : Vv} (h : INW v) {Q : Int32 → Int32 → Vv → Prop} (hQ : ∀ r w, FQ v w → CACHE w → Q r r w) : m_P_fewest v (fun r v1 => m_M_fewest v1 (fun r' v2 => Q r r' v2)) := by
  refine s_P_fewest (worked_R h fun A F n m u f hr hcc e1 e2 => ⟨rfl, ?_⟩)
  refine C_fewest hr.1 hr.2.1 hr.2.2.2.2.2 fun u2 f2 => ?_
  have hA := hr.1
  have h6 := hA.1
  have h1n : 1 ≤ 2 ^ n := Nat.one_le_two_pow
  have h64 : 2 ^ n ≤ 2 ^ 6 := Nat.pow_le_pow_right (by decide) h6
  refine s_M_fewest (gathers_R (f.q.tr f2.sq) (hr.sc f2) fun w f' hrow ha' hc' hq hr' => ?_)
  have hMw := hr'.2.2.1
  have key : ∀ j s : Nat, s + j = 2 ^ n → 1 ≤ s → k_M_fewest_8 (fewS A F n m s) (nI s) w (fun r' v2 => Q (fewS A F n m (2 ^ n)) r' v2) := by
    intro j
    induction j with
    | zero =>
      intro s e _
      obtain rfl : s = 2 ^ n := e
      refine s_M_fewest_8 ?_
      rw [hMw.1, shl6 n (by omega), if_neg (nI_nlt (Nat.le_refl _) (by omega))]
      exact hQ _ w hq hc'
    | succ j ih =>
      intro s e h1
      have ih := ih (s + 1) (by omega) (by omega)
      obtain ⟨e1, e2⟩ := fewS_succ (A := A) (F := F) (n := n) (m := m) s
      refine s_M_fewest_8 ?_
      rw [hMw.1, shl6 n (by omega), if_pos (nI_lt (by omega) (by omega))]
      have go : (fewS A F n m s = -1 ∨ bitI (nI s) < bitI (fewS A F n m s)) → k_M_fewest_34 (fewS A F n m s) (nI s) w (fun r' v2 => Q (fewS A F n m (2 ^ n)) r' v2) := fun hx => by
        refine s_M_fewest_34 (M_tellsAll hA (by omega) (by omega) hMw hrow (fun q => ?_) fun q => ?_)
        · rw [if_pos rfl, nI_1]
          rw [e1 ⟨by omega, q, hx⟩] at ih
          exact ih
        · rw [if_neg (by decide), nI_1]
          rw [e2 (fun z => z.2.1 q)] at ih
          exact ih
      by_cases y : fewS A F n m s = -1
      · rw [if_pos y]
        exact go (Or.inl y)
      · rw [if_neg y]
        obtain ⟨k, hk, ek⟩ := (fewS_in (A := A) (F := F) (n := n) (m := m) s (by omega)).resolve_left y
        refine M_bitsOf (by rw [nI_tI (by omega)]; omega) (M_bitsOf (by rw [ek, nI_tI (by omega)]; omega) ?_)
        by_cases x : bitI (nI s) < bitI (fewS A F n m s)
        · rw [if_pos x]
          exact go (Or.inr x)
        · rw [if_neg x]
          refine s_M_fewest_44 ?_
          rw [nI_1]
          rw [e2 (fun q => q.2.2.elim y x)] at ih
          exact ih
  have h := key (2 ^ n - 1) 1 (by omega) (Nat.le_refl _)
  rw [fewS_1] at h
  exact h
end FW2
