-- tokens: places, ends, codes
def lst (p : Nat → Prop) [DecidablePred p] (n : Nat) : Nat → Nat → Nat
  | 0, _ => n
  | f + 1, i => if p i then i else lst p n f (i + 1)
noncomputable def Lst (p : Nat → Prop) (n i : Nat) : Nat := by classical exact lst p n (n - i) i
theorem Lst_end {p : Nat → Prop} {n i : Nat} (h : n ≤ i) : Lst p n i = n := by
  unfold Lst
  rw [Nat.sub_eq_zero_of_le h]
  rfl
theorem Lst_yes {p : Nat → Prop} {n i : Nat} (h : i < n) (hp : p i) : Lst p n i = i := by
  unfold Lst
  rw [show n - i = (n - (i + 1)) + 1 by omega]
  unfold lst
  rw [if_pos hp]
theorem Lst_no {p : Nat → Prop} {n i : Nat} (h : i < n) (hp : ¬ p i) : Lst p n i = Lst p n (i + 1) := by
  unfold Lst
  rw [show n - i = (n - (i + 1)) + 1 by omega]
  conv => lhs; unfold lst
  rw [if_neg hp]
theorem Lst_spec (p : Nat → Prop) (n : Nat) : ∀ f i, n - i = f → Lst p n i ≤ n ∧ (i ≤ n → i ≤ Lst p n i) ∧ (Lst p n i < n → p (Lst p n i)) ∧ ∀ j, i ≤ j → j < Lst p n i → ¬ p j := by
  intro f
  induction f with
  | zero =>
    intro i hi
    rw [Lst_end (by omega)]
    exact ⟨Nat.le_refl _, fun h => h, fun h => absurd h (Nat.lt_irrefl _), fun j h1 h2 => by omega⟩
  | succ f ih =>
    intro i hi
    by_cases hp : p i
    · rw [Lst_yes (by omega) hp]
      exact ⟨by omega, fun _ => Nat.le_refl _, fun _ => hp, fun j h1 h2 => by omega⟩
    · rw [Lst_no (by omega) hp]
      obtain ⟨a, b, c, d⟩ := ih (i + 1) (by omega)
      refine ⟨a, fun _ => by have := b (by omega); omega, c, fun j h1 h2 => ?_⟩
      by_cases e : j = i
      · rw [e]; exact hp
      · exact d j (by omega) h2
theorem Lst_le (p : Nat → Prop) (n i : Nat) : Lst p n i ≤ n := (Lst_spec p n _ i rfl).1
theorem Lst_ge (p : Nat → Prop) {n i : Nat} (h : i ≤ n) : i ≤ Lst p n i := (Lst_spec p n _ i rfl).2.1 h
theorem Lst_is {p : Nat → Prop} {n i : Nat} (h : Lst p n i < n) : p (Lst p n i) := (Lst_spec p n _ i rfl).2.2.1 h
theorem Lst_not {p : Nat → Prop} {n i j : Nat} (h1 : i ≤ j) (h2 : j < Lst p n i) : ¬ p j := (Lst_spec p n _ i rfl).2.2.2 j h1 h2
theorem Lst_eq {p : Nat → Prop} {n i m : Nat} (h1 : i ≤ m) (h2 : m ≤ n) (h3 : ∀ j, i ≤ j → j < m → ¬ p j) (h4 : m < n → p m) : Lst p n i = m := by
  by_cases a : Lst p n i < m
  · exact absurd (Lst_is (by omega)) (h3 _ (Lst_ge p (by omega)) a)
  · by_cases b : m < Lst p n i
    · have := Lst_le p n i
      exact absurd (h4 (by omega)) (Lst_not h1 b)
    · omega
theorem Lst_stop {p : Nat → Prop} {n i j : Nat} (h1 : i ≤ j) (h2 : j < n → p j) (h3 : j ≤ n) : Lst p n i ≤ j := by
  by_cases b : j < Lst p n i
  · have := Lst_le p n i
    exact absurd (h2 (by omega)) (Lst_not h1 b)
  · omega
def bl (x : Int32) : Prop := x = 32 ∨ x = 10
def sm (x : Int32) : Prop := 97 ≤ x.toInt ∧ x.toInt ≤ 122
def dg (x : Int32) : Prop := 48 ≤ x.toInt ∧ x.toInt ≤ 57
def sg (x : Int32) : Prop := x = 40 ∨ x = 41 ∨ x = 42 ∨ x = 43 ∨ x = 45 ∨ x = 59 ∨ x = 60 ∨ x = 61
theorem bl_sm {x : Int32} (h : bl x) : ¬ sm x ∧ ¬ dg x := by
  unfold sm dg
  rcases h with rfl | rfl <;> decide
theorem sg_sm {x : Int32} (h : sg x) : ¬ sm x ∧ ¬ dg x ∧ ¬ bl x := by
  unfold sm dg bl
  rcases h with rfl | rfl | rfl | rfl | rfl | rfl | rfl | rfl <;> decide
theorem sm_dg {x : Int32} (h : sm x) : ¬ dg x := by unfold sm at h; unfold dg; omega
def o1 (B : Nat → Int32) (j : Nat) : Prop := 0 < j ∧ (sm (B (j - 1)) ∧ sm (B j) ∨ dg (B (j - 1)) ∧ dg (B j))
def isS (B : Nat → Int32) (i : Nat) : Prop := ¬ bl (B i) ∧ ¬ o1 B i
noncomputable def ns (B : Nat → Int32) (n i : Nat) : Nat := Lst (isS B) n i
noncomputable def en (B : Nat → Int32) (n s : Nat) : Nat := Lst (fun j => ¬ o1 B j) n (s + 1)
noncomputable def st (B : Nat → Int32) (n : Nat) : Nat → Nat
  | 0 => ns B n 0
  | t + 1 => ns B n (st B n t + 1)
theorem st_le (B : Nat → Int32) (n t : Nat) : st B n t ≤ n := by
  cases t <;> exact Lst_le _ _ _
theorem st_isS {B : Nat → Int32} {n t : Nat} (h : st B n t < n) : isS B (st B n t) := by
  cases t <;> exact Lst_is h
theorem st_lt {B : Nat → Int32} {n t : Nat} (h : st B n t < n) : st B n t < st B n (t + 1) := Lst_ge (isS B) (n := n) (i := st B n t + 1) (by omega)
theorem st_end {B : Nat → Int32} {n t : Nat} (h : st B n t = n) : st B n (t + 1) = n := by
  show ns B n (st B n t + 1) = n
  rw [h]
  exact Lst_end (by omega)
theorem st_mono {B : Nat → Int32} {n t : Nat} : ∀ {u : Nat}, t ≤ u → st B n t ≤ st B n u
  | 0, h => by rw [Nat.le_zero.mp h]; exact Nat.le_refl _
  | u + 1, h => by
    by_cases e : t = u + 1
    · rw [e]; exact Nat.le_refl _
    · have h1 := st_mono (B := B) (n := n) (t := t) (u := u) (by omega)
      by_cases c : st B n u < n
      · have := st_lt c
        omega
      · rw [st_end (by have := st_le B n u; omega)]
        exact st_le _ _ _
theorem st_smono {B : Nat → Int32} {n t u : Nat} (h : t < u) (hn : st B n t < n) : st B n t < st B n u := by
  have h1 := st_lt hn
  have h2 := st_mono (B := B) (n := n) (t := t + 1) (u := u) h
  omega
theorem en_le (B : Nat → Int32) (n s : Nat) : en B n s ≤ n := Lst_le _ _ _
theorem en_gt (B : Nat → Int32) {n s : Nat} (h : s < n) : s < en B n s := Lst_ge _ (n := n) (i := s + 1) (by omega)
theorem en_stop {B : Nat → Int32} {n s j : Nat} (h : s < j) (hj : j ≤ n) (ho : j < n → ¬ o1 B j) : en B n s ≤ j := Lst_stop h ho hj
theorem en_o1 {B : Nat → Int32} {n s j : Nat} (h1 : s < j) (h2 : j < en B n s) : o1 B j := Classical.not_not.mp (Lst_not (p := fun j => ¬ o1 B j) h1 h2)
theorem en_is {B : Nat → Int32} {n s : Nat} (h : en B n s < n) : ¬ o1 B (en B n s) := Lst_is (p := fun j => ¬ o1 B j) h
/-- the letters of a word -/
def ltr (B : Nat → Int32) (s e : Nat) : List Int32 := (List.range (e - s)).map fun i => B (s + i)
theorem ltr_len (B : Nat → Int32) (s e : Nat) : (ltr B s e).length = e - s := by unfold ltr; rw [List.length_map, List.length_range]
theorem ltr_at (B : Nat → Int32) (s e : Nat) {i : Nat} (h : i < e - s) : (ltr B s e).getD i 0 = B (s + i) := by
  unfold ltr
  rw [List.getD_eq_getElem?_getD, List.getElem?_map, List.getElem?_range h]
  rfl
theorem ltr_is {B : Nat → Int32} {s e : Nat} {L : List Int32} : ltr B s e = L ↔ L.length = e - s ∧ ∀ i, i < L.length → L.getD i 0 = B (s + i) := by
  constructor
  · rintro rfl
    refine ⟨ltr_len B s e, fun i h => ltr_at B s e (by rwa [ltr_len] at h)⟩
  · rintro ⟨h1, h2⟩
    refine List.ext_getElem (by rw [ltr_len, h1]) fun i a b => ?_
    have := h2 i b
    rw [List.getD_eq_getElem?_getD, List.getElem?_eq_getElem b, Option.getD_some] at this
    rw [this, ← ltr_at B s e (i := i) (by omega), List.getD_eq_getElem?_getD, List.getElem?_eq_getElem a, Option.getD_some]
def wrdF (L : List Int32) : Nat → Nat → Int32
  | 0, _ => -2
  | f + 1, w => if L = sstr (100010 + w) then nI w else wrdF L f (w + 1)
def wrd (L : List Int32) : Int32 := wrdF L 12 0
theorem wrdF_no {L : List Int32} : ∀ f w, wrdF L f w = -2 ∨ ∃ x, w ≤ x ∧ x < w + f ∧ wrdF L f w = nI x ∧ L = sstr (100010 + x)
  | 0, w => Or.inl rfl
  | f + 1, w => by
    unfold wrdF
    by_cases h : L = sstr (100010 + w)
    · rw [if_pos h]
      exact Or.inr ⟨w, Nat.le_refl _, by omega, rfl, h⟩
    · rw [if_neg h]
      rcases wrdF_no (L := L) f (w + 1) with h | ⟨x, a, b, c, d⟩
      · exact Or.inl h
      · exact Or.inr ⟨x, by omega, by omega, c, d⟩
theorem wrd_cases (L : List Int32) : wrd L = -2 ∨ ∃ x, x < 12 ∧ wrd L = nI x ∧ L = sstr (100010 + x) := by
  rcases wrdF_no (L := L) 12 0 with h | ⟨x, a, b, c, d⟩
  · exact Or.inl h
  · exact Or.inr ⟨x, by omega, c, d⟩
theorem wrd_self : ∀ w, w < 12 → wrd (sstr (100010 + w)) = nI w := by decide
theorem wrd_iff {L : List Int32} {w : Nat} (hw : w < 12) : wrd L = nI w ↔ L = sstr (100010 + w) := by
  constructor
  · intro h
    rcases wrd_cases L with e | ⟨x, h1, h2, h3⟩
    · rw [h] at e
      exact absurd e (by rw [i_eq, nI_tI (by omega), t_n2]; omega)
    · have : x = w := by
        have := h.symm.trans h2
        rw [i_eq, nI_tI (by omega), nI_tI (by omega)] at this
        omega
      rw [← this]
      exact h3
  · rintro rfl
    exact wrd_self w hw
/-- the number that k figures say -/
def num (B : Nat → Int32) (s : Nat) : Nat → Nat
  | 0 => 0
  | k + 1 => 10 * num B s k + ((B (s + k)).toInt.toNat - 48)
theorem num_lt {B : Nat → Int32} {s : Nat} : ∀ {k : Nat}, (∀ i, i < k → dg (B (s + i))) → num B s k < 10 ^ k
  | 0, _ => Nat.one_pos
  | k + 1, h => by
    have h1 := num_lt (B := B) (s := s) (k := k) fun i hi => h i (by omega)
    have h2 := h k (by omega)
    unfold dg at h2
    unfold num
    rw [Nat.pow_succ]
    omega
noncomputable def cod (B : Nat → Int32) (s e : Nat) : Int32 := by
  classical exact if sm (B s) then wrd (ltr B s e) else if dg (B s) then (if e - s ≤ 4 then 100 + nI (num B s (e - s)) else -2) else if sg (B s) then B s else -2
noncomputable def tk (B : Nat → Int32) (n t : Nat) : Int32 := if st B n t < n then cod B (st B n t) (en B n (st B n t)) else -1
theorem run_dg {B : Nat → Int32} {n s : Nat} (h : dg (B s)) : ∀ i, s + i < en B n s → dg (B (s + i))
  | 0, _ => h
  | i + 1, hi => by
    have h1 := run_dg (n := n) h i (by omega)
    have h2 := en_o1 (B := B) (n := n) (s := s) (j := s + i + 1) (by omega) hi
    obtain ⟨-, h2 | h2⟩ := h2
    · exact absurd h1 (sm_dg h2.1)
    · exact h2.2
theorem run_sm {B : Nat → Int32} {n s : Nat} (h : sm (B s)) : ∀ i, s + i < en B n s → sm (B (s + i))
  | 0, _ => h
  | i + 1, hi => by
    have h1 := run_sm (n := n) h i (by omega)
    have h2 := en_o1 (B := B) (n := n) (s := s) (j := s + i + 1) (by omega) hi
    obtain ⟨-, h2 | h2⟩ := h2
    · exact h2.2
    · exact absurd h2.1 (sm_dg h1)
theorem tk_lt {B : Nat → Int32} {n t : Nat} (h : st B n t < n) : tk B n t = cod B (st B n t) (en B n (st B n t)) := if_pos h
theorem tk_end {B : Nat → Int32} {n t : Nat} (h : st B n t = n) : tk B n t = -1 := if_neg (by omega)
/-- codes: a word's is below 12, a sign's from 40 to 61, a number's from 100 on -/
theorem cod_cases (B : Nat → Int32) {n s : Nat} (hs : s < n) :
    sm (B s) ∧ cod B s (en B n s) = wrd (ltr B s (en B n s)) ∨
    dg (B s) ∧ en B n s - s ≤ 4 ∧ cod B s (en B n s) = nI (100 + num B s (en B n s - s)) ∧ num B s (en B n s - s) < 10000 ∨
    sg (B s) ∧ cod B s (en B n s) = B s ∧ en B n s = s + 1 ∨
    ¬ sm (B s) ∧ (dg (B s) ∧ 4 < en B n s - s ∨ ¬ dg (B s) ∧ ¬ sg (B s)) ∧ cod B s (en B n s) = -2 := by
  unfold cod
  by_cases h1 : sm (B s)
  · exact Or.inl ⟨h1, if_pos h1⟩
  · rw [if_neg h1]
    by_cases h2 : dg (B s)
    · rw [if_pos h2]
      by_cases h3 : en B n s - s ≤ 4
      · rw [if_pos h3]
        refine Or.inr (Or.inl ⟨h2, h3, ?_, ?_⟩)
        · rw [show (100 : Int32) = nI 100 from rfl, nI_add]
        · have a := num_lt (B := B) (s := s) (k := en B n s - s) fun i hi => run_dg (n := n) h2 i (by omega)
          have b : 10 ^ (en B n s - s) ≤ 10 ^ 4 := Nat.pow_le_pow_right (by decide) h3
          omega
      · rw [if_neg h3]
        exact Or.inr (Or.inr (Or.inr ⟨h1, Or.inl ⟨h2, by omega⟩, rfl⟩))
    · rw [if_neg h2]
      by_cases h3 : sg (B s)
      · rw [if_pos h3]
        refine Or.inr (Or.inr (Or.inl ⟨h3, rfl, ?_⟩))
        have a := en_gt B hs
        have b := en_stop (B := B) (n := n) (s := s) (j := s + 1) (by omega) (by omega) (fun _ => by
          rintro ⟨-, c | c⟩
          · exact h1 c.1
          · exact h2 c.1)
        omega
      · rw [if_neg h3]
        exact Or.inr (Or.inr (Or.inr ⟨h1, Or.inr ⟨h2, h3⟩, rfl⟩))
theorem tk_end_iff {B : Nat → Int32} {n t : Nat} : tk B n t = -1 ↔ st B n t = n := by
  refine ⟨fun h => ?_, tk_end⟩
  have h0 := st_le B n t
  by_cases hc : st B n t < n
  · exfalso
    rw [tk_lt hc] at h
    rcases cod_cases B hc with ⟨-, h2⟩ | ⟨-, -, h2, h3⟩ | ⟨h1, h2, -⟩ | ⟨-, -, h2⟩
    · rw [h2] at h
      rcases wrd_cases (ltr B (st B n t) (en B n (st B n t))) with e | ⟨x, a, b, c⟩
      · rw [e] at h; exact absurd h (by decide)
      · rw [b, i_eq, nI_tI (by omega), t_n1] at h
        omega
    · rw [h2, i_eq, nI_tI (by omega), t_n1] at h
      omega
    · rw [h2] at h
      rw [h] at h1
      revert h1
      unfold sg
      decide
    · rw [h2] at h
      exact absurd h (by decide)
  · omega
