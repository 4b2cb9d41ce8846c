-- the grammar: what both read out of the tokens
/-- what is read: its code and what it says -/
abbrev Ex := List Int32 × ((Nat → Int32) → Int32)
abbrev Out := Option Ex × Nat
def z0 : Ex := ([], fun _ => 0)
def joinV (x s y : Int32) : Int32 :=
  if s = 9 then bI (if x = 0 then (if y = 0 then false else true) else true)
  else if s = 10 then bI (if x = 0 then false else (if y = 0 then false else true))
  else if s = 43 then x + y
  else if s = 45 then x - y
  else if s = 60 then bI (if x < y then true else false)
  else if s = 61 then bI (if x = y then true else false)
  else x * y
def lf (x : Int32) : Ex := ([x], fun f => if x < 100 then f (ix x) else x - 100)
def ng (e : Ex) : Ex := (e.1 ++ [12], fun f => -(e.2 f))
def nt (e : Ex) : Ex := (e.1 ++ [11], fun f => bI (if e.2 f = 0 then true else false))
def bi (s : Int32) (a b : Ex) : Ex := (a.1 ++ b.1 ++ [s], fun f => joinV (a.2 f) s (b.2 f))
def bad (j : Nat) : Out := (none, j)
def ok (j : Nat) (e : Ex) : Out := (some e, j)
theorem ok_inj {j k : Nat} {e f : Ex} (h : ok j e = ok k f) : j = k ∧ e = f := by
  unfold ok at h
  rw [Prod.mk.injEq, Option.some.injEq] at h
  exact ⟨h.2, h.1⟩
theorem bad_inj {j k : Nat} (h : bad j = bad k) : j = k := by
  unfold bad at h
  rw [Prod.mk.injEq] at h
  exact h.2
theorem ok_bad {j k : Nat} {e : Ex} (h : ok j e = bad k) : False := by
  unfold ok bad at h
  rw [Prod.mk.injEq] at h
  exact absurd h.1 (by intro q; cases q)
theorem out_cases (r : Out) : (∃ k, r = bad k) ∨ ∃ k e, r = ok k e := by
  rcases r with ⟨x, k⟩
  rcases x with _ | e
  · exact Or.inl ⟨k, rfl⟩
  · exact Or.inr ⟨k, e, rfl⟩
/-- a name or a number -/
def isLf (x : Int32) : Prop := 100 ≤ x.toInt ∨ 0 ≤ x.toInt ∧ x.toInt < 6
-- 0 one, 1 comparison, 2 denial, 3 .. 6 chains (of *, of + and -, of and, of or), 7 .. 10 chains that go on
def sub (c : Nat) : Nat := if c = 0 then 0 else if c = 1 then 3 else if c = 2 then 2 else 5
def isOp (c : Nat) (x : Int32) : Prop := c = 0 ∧ x = 42 ∨ c = 1 ∧ (x = 43 ∨ x = 45) ∨ c = 2 ∧ x = 10 ∨ c = 3 ∧ x = 9

def Clo (T : Nat → Int32) (P : Nat → Nat → Ex → Nat → Out → Prop) : Prop :=
  (∀ (o : Nat) (j : Nat), (isLf (T j)) → P o 0 z0 j (ok (j + 1) (lf (T j)))) ∧
  (∀ (o : Nat) (j : Nat), (¬ isLf (T j)) → (5 ≤ o) → P o 0 z0 j (bad j)) ∧
  (∀ (o : Nat) (j : Nat), (¬ isLf (T j)) → (o < 5) → (T j ≠ 40) → (T j ≠ 45) → P o 0 z0 j (bad j)) ∧
  (∀ (o : Nat) (j : Nat) (k : Nat), (T j = 40) → (o < 5) → P (o + 1) 6 z0 (j + 1) (bad k) → P o 0 z0 j (bad k)) ∧
  (∀ (o : Nat) (j : Nat) (k : Nat) (e : Ex), (T j = 40) → (o < 5) → P (o + 1) 6 z0 (j + 1) (ok k e) → (T k ≠ 41) → P o 0 z0 j (bad k)) ∧
  (∀ (o : Nat) (j : Nat) (k : Nat) (e : Ex), (T j = 40) → (o < 5) → P (o + 1) 6 z0 (j + 1) (ok k e) → (T k = 41) → P o 0 z0 j (ok (k + 1) e)) ∧
  (∀ (o : Nat) (j : Nat) (k : Nat), (T j = 45) → (o < 5) → P (o + 1) 0 z0 (j + 1) (bad k) → P o 0 z0 j (bad k)) ∧
  (∀ (o : Nat) (j : Nat) (k : Nat) (e : Ex), (T j = 45) → (o < 5) → P (o + 1) 0 z0 (j + 1) (ok k e) → P o 0 z0 j (ok k (ng e))) ∧
  (∀ (o : Nat) (j : Nat) (k : Nat), P o 4 z0 j (bad k) → P o 1 z0 j (bad k)) ∧
  (∀ (o : Nat) (j : Nat) (k : Nat) (e : Ex), P o 4 z0 j (ok k e) → (T k ≠ 60) → (T k ≠ 61) → P o 1 z0 j (ok k e)) ∧
  (∀ (o : Nat) (j : Nat) (k : Nat) (e : Ex) (l : Nat), P o 4 z0 j (ok k e) → (T k = 60 ∨ T k = 61) → P o 4 z0 (k + 1) (bad l) → P o 1 z0 j (bad l)) ∧
  (∀ (o : Nat) (j : Nat) (k : Nat) (e : Ex) (l : Nat) (e2 : Ex), P o 4 z0 j (ok k e) → (T k = 60 ∨ T k = 61) → P o 4 z0 (k + 1) (ok l e2) → P o 1 z0 j (ok l (bi (T k) e e2))) ∧
  (∀ (o : Nat) (j : Nat) (r : Out), (T j ≠ 11) → P o 1 z0 j r → P o 2 z0 j r) ∧
  (∀ (o : Nat) (j : Nat), (T j = 11) → (5 ≤ o) → P o 2 z0 j (bad j)) ∧
  (∀ (o : Nat) (j : Nat) (k : Nat), (T j = 11) → (o < 5) → P (o + 1) 2 z0 (j + 1) (bad k) → P o 2 z0 j (bad k)) ∧
  (∀ (o : Nat) (j : Nat) (k : Nat) (e : Ex), (T j = 11) → (o < 5) → P (o + 1) 2 z0 (j + 1) (ok k e) → P o 2 z0 j (ok k (nt e))) ∧
  (∀ (o : Nat) (j : Nat) (k : Nat) (c : Nat), (c < 4) → P o (sub c) z0 j (bad k) → P o (3 + c) z0 j (bad k)) ∧
  (∀ (o : Nat) (j : Nat) (k : Nat) (c : Nat) (e : Ex) (r : Out), (c < 4) → P o (sub c) z0 j (ok k e) → P o (7 + c) e k r → P o (3 + c) z0 j r) ∧
  (∀ (o : Nat) (j : Nat) (c : Nat) (e : Ex), (c < 4) → (¬ isOp c (T j)) → P o (7 + c) e j (ok j e)) ∧
  (∀ (o : Nat) (j : Nat) (k : Nat) (c : Nat) (e : Ex), (c < 4) → (isOp c (T j)) → P o (sub c) z0 (j + 1) (bad k) → P o (7 + c) e j (bad k)) ∧
  (∀ (o : Nat) (j : Nat) (k : Nat) (c : Nat) (e : Ex) (e2 : Ex) (r : Out), (c < 4) → (isOp c (T j)) → P o (sub c) z0 (j + 1) (ok k e2) → P o (7 + c) (bi (T j) e e2) k r → P o (7 + c) e j r)
def Pr (T : Nat → Int32) (o g : Nat) (e : Ex) (j : Nat) (r : Out) : Prop := ∀ P : Nat → Nat → Ex → Nat → Out → Prop, Clo T P → P o g e j r
theorem Pr_leaf {T : Nat → Int32} {o : Nat} {j : Nat} (ha : isLf (T j)) : Pr T o 0 z0 j (ok (j + 1) (lf (T j))) := fun P hP => hP.1 o j ha
theorem Pr_deep {T : Nat → Int32} {o : Nat} {j : Nat} (ha : ¬ isLf (T j)) (hb : 5 ≤ o) : Pr T o 0 z0 j (bad j) := fun P hP => hP.2.1 o j ha hb
theorem Pr_oneN {T : Nat → Int32} {o : Nat} {j : Nat} (ha : ¬ isLf (T j)) (hb : o < 5) (hc : T j ≠ 40) (hd : T j ≠ 45) : Pr T o 0 z0 j (bad j) := fun P hP => hP.2.2.1 o j ha hb hc hd
theorem Pr_parB {T : Nat → Int32} {o : Nat} {j : Nat} {k : Nat} (ha : T j = 40) (hb : o < 5) (hp : Pr T (o + 1) 6 z0 (j + 1) (bad k)) : Pr T o 0 z0 j (bad k) := fun P hP => hP.2.2.2.1 o j k ha hb (hp P hP)
theorem Pr_parN {T : Nat → Int32} {o : Nat} {j : Nat} {k : Nat} {e : Ex} (ha : T j = 40) (hb : o < 5) (hp : Pr T (o + 1) 6 z0 (j + 1) (ok k e)) (hc : T k ≠ 41) : Pr T o 0 z0 j (bad k) := fun P hP => hP.2.2.2.2.1 o j k e ha hb (hp P hP) hc
theorem Pr_par {T : Nat → Int32} {o : Nat} {j : Nat} {k : Nat} {e : Ex} (ha : T j = 40) (hb : o < 5) (hp : Pr T (o + 1) 6 z0 (j + 1) (ok k e)) (hc : T k = 41) : Pr T o 0 z0 j (ok (k + 1) e) := fun P hP => hP.2.2.2.2.2.1 o j k e ha hb (hp P hP) hc
theorem Pr_negB {T : Nat → Int32} {o : Nat} {j : Nat} {k : Nat} (ha : T j = 45) (hb : o < 5) (hp : Pr T (o + 1) 0 z0 (j + 1) (bad k)) : Pr T o 0 z0 j (bad k) := fun P hP => hP.2.2.2.2.2.2.1 o j k ha hb (hp P hP)
theorem Pr_neg {T : Nat → Int32} {o : Nat} {j : Nat} {k : Nat} {e : Ex} (ha : T j = 45) (hb : o < 5) (hp : Pr T (o + 1) 0 z0 (j + 1) (ok k e)) : Pr T o 0 z0 j (ok k (ng e)) := fun P hP => hP.2.2.2.2.2.2.2.1 o j k e ha hb (hp P hP)
theorem Pr_cmB {T : Nat → Int32} {o : Nat} {j : Nat} {k : Nat} (hp : Pr T o 4 z0 j (bad k)) : Pr T o 1 z0 j (bad k) := fun P hP => hP.2.2.2.2.2.2.2.2.1 o j k (hp P hP)
theorem Pr_cm1 {T : Nat → Int32} {o : Nat} {j : Nat} {k : Nat} {e : Ex} (hp : Pr T o 4 z0 j (ok k e)) (ha : T k ≠ 60) (hb : T k ≠ 61) : Pr T o 1 z0 j (ok k e) := fun P hP => hP.2.2.2.2.2.2.2.2.2.1 o j k e (hp P hP) ha hb
theorem Pr_cm2B {T : Nat → Int32} {o : Nat} {j : Nat} {k : Nat} {e : Ex} {l : Nat} (hp : Pr T o 4 z0 j (ok k e)) (ha : T k = 60 ∨ T k = 61) (hq : Pr T o 4 z0 (k + 1) (bad l)) : Pr T o 1 z0 j (bad l) := fun P hP => hP.2.2.2.2.2.2.2.2.2.2.1 o j k e l (hp P hP) ha (hq P hP)
theorem Pr_cm2 {T : Nat → Int32} {o : Nat} {j : Nat} {k : Nat} {e : Ex} {l : Nat} {e2 : Ex} (hp : Pr T o 4 z0 j (ok k e)) (ha : T k = 60 ∨ T k = 61) (hq : Pr T o 4 z0 (k + 1) (ok l e2)) : Pr T o 1 z0 j (ok l (bi (T k) e e2)) := fun P hP => hP.2.2.2.2.2.2.2.2.2.2.2.1 o j k e l e2 (hp P hP) ha (hq P hP)
theorem Pr_dnC {T : Nat → Int32} {o : Nat} {j : Nat} {r : Out} (ha : T j ≠ 11) (hp : Pr T o 1 z0 j r) : Pr T o 2 z0 j r := fun P hP => hP.2.2.2.2.2.2.2.2.2.2.2.2.1 o j r ha (hp P hP)
theorem Pr_dnD {T : Nat → Int32} {o : Nat} {j : Nat} (ha : T j = 11) (hb : 5 ≤ o) : Pr T o 2 z0 j (bad j) := fun P hP => hP.2.2.2.2.2.2.2.2.2.2.2.2.2.1 o j ha hb
theorem Pr_dnB {T : Nat → Int32} {o : Nat} {j : Nat} {k : Nat} (ha : T j = 11) (hb : o < 5) (hp : Pr T (o + 1) 2 z0 (j + 1) (bad k)) : Pr T o 2 z0 j (bad k) := fun P hP => hP.2.2.2.2.2.2.2.2.2.2.2.2.2.2.1 o j k ha hb (hp P hP)
theorem Pr_dn {T : Nat → Int32} {o : Nat} {j : Nat} {k : Nat} {e : Ex} (ha : T j = 11) (hb : o < 5) (hp : Pr T (o + 1) 2 z0 (j + 1) (ok k e)) : Pr T o 2 z0 j (ok k (nt e)) := fun P hP => hP.2.2.2.2.2.2.2.2.2.2.2.2.2.2.2.1 o j k e ha hb (hp P hP)
theorem Pr_chB {T : Nat → Int32} {o : Nat} {j : Nat} {k : Nat} {c : Nat} (ha : c < 4) (hp : Pr T o (sub c) z0 j (bad k)) : Pr T o (3 + c) z0 j (bad k) := fun P hP => hP.2.2.2.2.2.2.2.2.2.2.2.2.2.2.2.2.1 o j k c ha (hp P hP)
theorem Pr_chO {T : Nat → Int32} {o : Nat} {j : Nat} {k : Nat} {c : Nat} {e : Ex} {r : Out} (ha : c < 4) (hp : Pr T o (sub c) z0 j (ok k e)) (hq : Pr T o (7 + c) e k r) : Pr T o (3 + c) z0 j r := fun P hP => hP.2.2.2.2.2.2.2.2.2.2.2.2.2.2.2.2.2.1 o j k c e r ha (hp P hP) (hq P hP)
theorem Pr_lpE {T : Nat → Int32} {o : Nat} {j : Nat} {c : Nat} {e : Ex} (ha : c < 4) (hb : ¬ isOp c (T j)) : Pr T o (7 + c) e j (ok j e) := fun P hP => hP.2.2.2.2.2.2.2.2.2.2.2.2.2.2.2.2.2.2.1 o j c e ha hb
theorem Pr_lpB {T : Nat → Int32} {o : Nat} {j : Nat} {k : Nat} {c : Nat} {e : Ex} (ha : c < 4) (hb : isOp c (T j)) (hp : Pr T o (sub c) z0 (j + 1) (bad k)) : Pr T o (7 + c) e j (bad k) := fun P hP => hP.2.2.2.2.2.2.2.2.2.2.2.2.2.2.2.2.2.2.2.1 o j k c e ha hb (hp P hP)
theorem Pr_lpO {T : Nat → Int32} {o : Nat} {j : Nat} {k : Nat} {c : Nat} {e : Ex} {e2 : Ex} {r : Out} (ha : c < 4) (hb : isOp c (T j)) (hp : Pr T o (sub c) z0 (j + 1) (ok k e2)) (hq : Pr T o (7 + c) (bi (T j) e e2) k r) : Pr T o (7 + c) e j r := fun P hP => hP.2.2.2.2.2.2.2.2.2.2.2.2.2.2.2.2.2.2.2.2 o j k c e e2 r ha hb (hp P hP) (hq P hP)
theorem Pr_rec {T : Nat → Int32} {P : Nat → Nat → Ex → Nat → Out → Prop}
  (leaf : ∀ (o : Nat) (j : Nat), (isLf (T j)) → P o 0 z0 j (ok (j + 1) (lf (T j))))
  (deep : ∀ (o : Nat) (j : Nat), (¬ isLf (T j)) → (5 ≤ o) → P o 0 z0 j (bad j))
  (oneN : ∀ (o : Nat) (j : Nat), (¬ isLf (T j)) → (o < 5) → (T j ≠ 40) → (T j ≠ 45) → P o 0 z0 j (bad j))
  (parB : ∀ (o : Nat) (j : Nat) (k : Nat), (T j = 40) → (o < 5) → (Pr T (o + 1) 6 z0 (j + 1) (bad k) ∧ P (o + 1) 6 z0 (j + 1) (bad k)) → P o 0 z0 j (bad k))
  (parN : ∀ (o : Nat) (j : Nat) (k : Nat) (e : Ex), (T j = 40) → (o < 5) → (Pr T (o + 1) 6 z0 (j + 1) (ok k e) ∧ P (o + 1) 6 z0 (j + 1) (ok k e)) → (T k ≠ 41) → P o 0 z0 j (bad k))
  (par : ∀ (o : Nat) (j : Nat) (k : Nat) (e : Ex), (T j = 40) → (o < 5) → (Pr T (o + 1) 6 z0 (j + 1) (ok k e) ∧ P (o + 1) 6 z0 (j + 1) (ok k e)) → (T k = 41) → P o 0 z0 j (ok (k + 1) e))
  (negB : ∀ (o : Nat) (j : Nat) (k : Nat), (T j = 45) → (o < 5) → (Pr T (o + 1) 0 z0 (j + 1) (bad k) ∧ P (o + 1) 0 z0 (j + 1) (bad k)) → P o 0 z0 j (bad k))
  (neg : ∀ (o : Nat) (j : Nat) (k : Nat) (e : Ex), (T j = 45) → (o < 5) → (Pr T (o + 1) 0 z0 (j + 1) (ok k e) ∧ P (o + 1) 0 z0 (j + 1) (ok k e)) → P o 0 z0 j (ok k (ng e)))
  (cmB : ∀ (o : Nat) (j : Nat) (k : Nat), (Pr T o 4 z0 j (bad k) ∧ P o 4 z0 j (bad k)) → P o 1 z0 j (bad k))
  (cm1 : ∀ (o : Nat) (j : Nat) (k : Nat) (e : Ex), (Pr T o 4 z0 j (ok k e) ∧ P o 4 z0 j (ok k e)) → (T k ≠ 60) → (T k ≠ 61) → P o 1 z0 j (ok k e))
  (cm2B : ∀ (o : Nat) (j : Nat) (k : Nat) (e : Ex) (l : Nat), (Pr T o 4 z0 j (ok k e) ∧ P o 4 z0 j (ok k e)) → (T k = 60 ∨ T k = 61) → (Pr T o 4 z0 (k + 1) (bad l) ∧ P o 4 z0 (k + 1) (bad l)) → P o 1 z0 j (bad l))
  (cm2 : ∀ (o : Nat) (j : Nat) (k : Nat) (e : Ex) (l : Nat) (e2 : Ex), (Pr T o 4 z0 j (ok k e) ∧ P o 4 z0 j (ok k e)) → (T k = 60 ∨ T k = 61) → (Pr T o 4 z0 (k + 1) (ok l e2) ∧ P o 4 z0 (k + 1) (ok l e2)) → P o 1 z0 j (ok l (bi (T k) e e2)))
  (dnC : ∀ (o : Nat) (j : Nat) (r : Out), (T j ≠ 11) → (Pr T o 1 z0 j r ∧ P o 1 z0 j r) → P o 2 z0 j r)
  (dnD : ∀ (o : Nat) (j : Nat), (T j = 11) → (5 ≤ o) → P o 2 z0 j (bad j))
  (dnB : ∀ (o : Nat) (j : Nat) (k : Nat), (T j = 11) → (o < 5) → (Pr T (o + 1) 2 z0 (j + 1) (bad k) ∧ P (o + 1) 2 z0 (j + 1) (bad k)) → P o 2 z0 j (bad k))
  (dn : ∀ (o : Nat) (j : Nat) (k : Nat) (e : Ex), (T j = 11) → (o < 5) → (Pr T (o + 1) 2 z0 (j + 1) (ok k e) ∧ P (o + 1) 2 z0 (j + 1) (ok k e)) → P o 2 z0 j (ok k (nt e)))
  (chB : ∀ (o : Nat) (j : Nat) (k : Nat) (c : Nat), (c < 4) → (Pr T o (sub c) z0 j (bad k) ∧ P o (sub c) z0 j (bad k)) → P o (3 + c) z0 j (bad k))
  (chO : ∀ (o : Nat) (j : Nat) (k : Nat) (c : Nat) (e : Ex) (r : Out), (c < 4) → (Pr T o (sub c) z0 j (ok k e) ∧ P o (sub c) z0 j (ok k e)) → (Pr T o (7 + c) e k r ∧ P o (7 + c) e k r) → P o (3 + c) z0 j r)
  (lpE : ∀ (o : Nat) (j : Nat) (c : Nat) (e : Ex), (c < 4) → (¬ isOp c (T j)) → P o (7 + c) e j (ok j e))
  (lpB : ∀ (o : Nat) (j : Nat) (k : Nat) (c : Nat) (e : Ex), (c < 4) → (isOp c (T j)) → (Pr T o (sub c) z0 (j + 1) (bad k) ∧ P o (sub c) z0 (j + 1) (bad k)) → P o (7 + c) e j (bad k))
  (lpO : ∀ (o : Nat) (j : Nat) (k : Nat) (c : Nat) (e : Ex) (e2 : Ex) (r : Out), (c < 4) → (isOp c (T j)) → (Pr T o (sub c) z0 (j + 1) (ok k e2) ∧ P o (sub c) z0 (j + 1) (ok k e2)) → (Pr T o (7 + c) (bi (T j) e e2) k r ∧ P o (7 + c) (bi (T j) e e2) k r) → P o (7 + c) e j r)
  {o g : Nat} {e : Ex} {j : Nat} {r : Out} (h : Pr T o g e j r) : P o g e j r :=
  (h (fun o g e j r => Pr T o g e j r ∧ P o g e j r) ⟨fun o j ha => ⟨Pr_leaf ha, leaf o j ha⟩,
    fun o j ha hb => ⟨Pr_deep ha hb, deep o j ha hb⟩,
    fun o j ha hb hc hd => ⟨Pr_oneN ha hb hc hd, oneN o j ha hb hc hd⟩,
    fun o j k ha hb hp => ⟨Pr_parB ha hb hp.1, parB o j k ha hb hp⟩,
    fun o j k e ha hb hp hc => ⟨Pr_parN ha hb hp.1 hc, parN o j k e ha hb hp hc⟩,
    fun o j k e ha hb hp hc => ⟨Pr_par ha hb hp.1 hc, par o j k e ha hb hp hc⟩,
    fun o j k ha hb hp => ⟨Pr_negB ha hb hp.1, negB o j k ha hb hp⟩,
    fun o j k e ha hb hp => ⟨Pr_neg ha hb hp.1, neg o j k e ha hb hp⟩,
    fun o j k hp => ⟨Pr_cmB hp.1, cmB o j k hp⟩,
    fun o j k e hp ha hb => ⟨Pr_cm1 hp.1 ha hb, cm1 o j k e hp ha hb⟩,
    fun o j k e l hp ha hq => ⟨Pr_cm2B hp.1 ha hq.1, cm2B o j k e l hp ha hq⟩,
    fun o j k e l e2 hp ha hq => ⟨Pr_cm2 hp.1 ha hq.1, cm2 o j k e l e2 hp ha hq⟩,
    fun o j r ha hp => ⟨Pr_dnC ha hp.1, dnC o j r ha hp⟩,
    fun o j ha hb => ⟨Pr_dnD ha hb, dnD o j ha hb⟩,
    fun o j k ha hb hp => ⟨Pr_dnB ha hb hp.1, dnB o j k ha hb hp⟩,
    fun o j k e ha hb hp => ⟨Pr_dn ha hb hp.1, dn o j k e ha hb hp⟩,
    fun o j k c ha hp => ⟨Pr_chB ha hp.1, chB o j k c ha hp⟩,
    fun o j k c e r ha hp hq => ⟨Pr_chO ha hp.1 hq.1, chO o j k c e r ha hp hq⟩,
    fun o j c e ha hb => ⟨Pr_lpE ha hb, lpE o j c e ha hb⟩,
    fun o j k c e ha hb hp => ⟨Pr_lpB ha hb hp.1, lpB o j k c e ha hb hp⟩,
    fun o j k c e e2 r ha hb hp hq => ⟨Pr_lpO ha hb hp.1 hq.1, lpO o j k c e e2 r ha hb hp hq⟩⟩).2
/-- how far reading comes -/
def Far (g j : Nat) (r : Out) : Prop := (∀ k e, r = ok k e → j ≤ k ∧ (g < 7 → j < k)) ∧ ∀ k, r = bad k → j ≤ k
theorem Far.of_ok {g j k : Nat} {e : Ex} (h : j < k ∨ j = k ∧ 7 ≤ g) : Far g j (ok k e) := ⟨fun k2 e2 q => by
  obtain ⟨rfl, -⟩ := ok_inj q
  exact ⟨by omega, fun _ => by omega⟩, fun k2 q => absurd q ok_bad⟩
theorem Far.of_bad {g j k : Nat} (h : j ≤ k) : Far g j (bad k) := ⟨fun k2 e2 q => absurd q.symm ok_bad, fun k2 q => by rw [← bad_inj q]; exact h⟩
theorem Far.ok {g j k : Nat} {e : Ex} (h : Far g j (ok k e)) : j ≤ k ∧ (g < 7 → j < k) := h.1 k e rfl
theorem Far.bad {g j k : Nat} (h : Far g j (bad k)) : j ≤ k := h.2 k rfl
theorem sub_lt (c : Nat) : sub c < 7 := by unfold sub; split; omega; split; omega; split <;> omega
theorem Pr_far {T : Nat → Int32} {o g : Nat} {e : Ex} {j : Nat} {r : Out} (h : Pr T o g e j r) : Far g j r := by
  refine Pr_rec (P := fun o g e j r => Far g j r) ?_ ?_ ?_ ?_ ?_ ?_ ?_ ?_ ?_ ?_ ?_ ?_ ?_ ?_ ?_ ?_ ?_ ?_ ?_ ?_ ?_ h
  · intro o j a; exact .of_ok (by omega)
  · intro o j a b; exact .of_bad (by omega)
  · intro o j a b c d; exact .of_bad (by omega)
  · intro o j k a b p; have := p.2.bad; exact .of_bad (by omega)
  · intro o j k e a b p c; have := p.2.ok; exact .of_bad (by omega)
  · intro o j k e a b p c; have := p.2.ok; exact .of_ok (by omega)
  · intro o j k a b p; have := p.2.bad; exact .of_bad (by omega)
  · intro o j k e a b p; have := p.2.ok; exact .of_ok (by omega)
  · intro o j k p; have := p.2.bad; exact .of_bad (by omega)
  · intro o j k e p a b; have := p.2.ok; exact .of_ok (by omega)
  · intro o j k e l p a q; have := p.2.ok; have := q.2.bad; exact .of_bad (by omega)
  · intro o j k e l e2 p a q; have := p.2.ok; have := q.2.ok; exact .of_ok (by omega)
  · intro o j r a p
    exact ⟨fun k e q => ⟨(p.2.1 k e q).1, fun _ => (p.2.1 k e q).2 (by decide)⟩, p.2.2⟩
  · intro o j a b; exact .of_bad (by omega)
  · intro o j k a b p; have := p.2.bad; exact .of_bad (by omega)
  · intro o j k e a b p; have := p.2.ok; exact .of_ok (by omega)
  · intro o j k c a p; have := p.2.bad; exact .of_bad (by omega)
  · intro o j k c e r a p q
    have h1 := p.2.ok.2 (sub_lt c)
    exact ⟨fun k2 e2 z => by have := (q.2.1 k2 e2 z).1; exact ⟨by omega, fun _ => by omega⟩, fun k2 z => by have := q.2.2 k2 z; omega⟩
  · intro o j c e a b; exact .of_ok (by omega)
  · intro o j k c e a b p; have := p.2.bad; exact .of_bad (by omega)
  · intro o j k c e e2 r a b p q
    have h1 := p.2.ok.1
    exact ⟨fun k2 e3 z => by have := (q.2.1 k2 e3 z).1; exact ⟨by omega, fun _ => by omega⟩, fun k2 z => by have := q.2.2 k2 z; omega⟩
def rnk (g : Nat) : Nat := if g = 0 then 0 else if g = 3 then 1 else if g = 4 then 2 else if g = 1 then 3 else if g = 2 then 4 else if g = 5 then 5 else if g = 6 then 6 else 0
/-- reading always comes to its end, and not past the last token -/
theorem Pr_ex {T : Nat → Int32} {c : Nat} (hT : ∀ j, c ≤ j → T j = -1) : ∀ m o g j e, (c + 1 - j) * 8 + rnk g ≤ m → j ≤ c → (g < 7 → e = z0) → g < 11 → ∃ r : Out, Pr T o g e j r ∧ r.2 ≤ c := by
  have hlt : ∀ j, j ≤ c → T j ≠ -1 → j < c := fun j h q => by
    by_cases e : j = c
    · exact absurd (hT j (by omega)) q
    · omega
  intro m
  induction m with
  | zero => intro o g j e h hj; omega
  | succ m ih =>
    intro o g j e h hj he hg
    have hc : g = 0 ∨ g = 1 ∨ g = 2 ∨ 3 ≤ g ∧ g < 7 ∨ 7 ≤ g := by omega
    rcases hc with rfl | rfl | rfl | hc | hc
    · rw [he (by decide)]
      have r0 : rnk 0 = 0 := rfl
      have r6 : rnk 6 = 6 := rfl
      by_cases h1 : isLf (T j)
      · have := hlt j hj (fun z => by rw [z] at h1; revert h1; unfold isLf; decide)
        exact ⟨_, Pr_leaf h1, by show j + 1 ≤ c; omega⟩
      · by_cases h2 : o < 5
        · by_cases h3 : T j = 40
          · have hj2 := hlt j hj (fun z => by rw [z] at h3; revert h3; decide)
            obtain ⟨r, p1, p2⟩ := ih (o + 1) 6 (j + 1) z0 (by omega) (by omega) (fun _ => rfl) (by decide)
            rcases out_cases r with ⟨k, rfl⟩ | ⟨k, e2, rfl⟩
            · exact ⟨_, Pr_parB h3 h2 p1, p2⟩
            · have p2 : k ≤ c := p2
              by_cases h4 : T k = 41
              · have := hlt k p2 (fun z => by rw [z] at h4; revert h4; decide)
                exact ⟨_, Pr_par h3 h2 p1 h4, by show k + 1 ≤ c; omega⟩
              · exact ⟨_, Pr_parN h3 h2 p1 h4, p2⟩
          · by_cases h4 : T j = 45
            · have hj2 := hlt j hj (fun z => by rw [z] at h4; revert h4; decide)
              obtain ⟨r, p1, p2⟩ := ih (o + 1) 0 (j + 1) z0 (by omega) (by omega) (fun _ => rfl) (by decide)
              rcases out_cases r with ⟨k, rfl⟩ | ⟨k, e2, rfl⟩
              · exact ⟨_, Pr_negB h4 h2 p1, p2⟩
              · exact ⟨_, Pr_neg h4 h2 p1, p2⟩
            · exact ⟨_, Pr_oneN h1 h2 h3 h4, hj⟩
        · exact ⟨_, Pr_deep h1 (by omega), hj⟩
    · rw [he (by decide)]
      have r0 : rnk 1 = 3 := rfl
      have r6 : rnk 4 = 2 := rfl
      obtain ⟨r, p1, p2⟩ := ih o 4 j z0 (by omega) hj (fun _ => rfl) (by decide)
      rcases out_cases r with ⟨k, rfl⟩ | ⟨k, e2, rfl⟩
      · exact ⟨_, Pr_cmB p1, p2⟩
      · have p2 : k ≤ c := p2
        have hgo := (Pr_far p1).ok.1
        by_cases h4 : T k = 60 ∨ T k = 61
        · have hk2 := hlt k p2 (fun z => by rw [z] at h4; revert h4; decide)
          obtain ⟨r, q1, q2⟩ := ih o 4 (k + 1) z0 (by omega) (by omega) (fun _ => rfl) (by decide)
          rcases out_cases r with ⟨l, rfl⟩ | ⟨l, e3, rfl⟩
          · exact ⟨_, Pr_cm2B p1 h4 q1, q2⟩
          · exact ⟨_, Pr_cm2 p1 h4 q1, q2⟩
        · exact ⟨_, Pr_cm1 p1 (fun z => h4 (Or.inl z)) (fun z => h4 (Or.inr z)), p2⟩
    · rw [he (by decide)]
      have r0 : rnk 1 = 3 := rfl
      have r6 : rnk 2 = 4 := rfl
      by_cases h1 : T j = 11
      · by_cases h2 : o < 5
        · have hj2 := hlt j hj (fun z => by rw [z] at h1; revert h1; decide)
          obtain ⟨r, p1, p2⟩ := ih (o + 1) 2 (j + 1) z0 (by omega) (by omega) (fun _ => rfl) (by decide)
          rcases out_cases r with ⟨k, rfl⟩ | ⟨k, e2, rfl⟩
          · exact ⟨_, Pr_dnB h1 h2 p1, p2⟩
          · exact ⟨_, Pr_dn h1 h2 p1, p2⟩
        · exact ⟨_, Pr_dnD h1 (by omega), hj⟩
      · obtain ⟨r, p1, p2⟩ := ih o 1 j z0 (by omega) hj (fun _ => rfl) (by decide)
        exact ⟨_, Pr_dnC h1 p1, p2⟩
    · obtain ⟨l, rfl, hl⟩ : ∃ l, g = 3 + l ∧ l < 4 := ⟨g - 3, by omega, by omega⟩
      rw [he (by omega)]
      have hr : rnk (sub l) < rnk (3 + l) := by
        have : l = 0 ∨ l = 1 ∨ l = 2 ∨ l = 3 := by omega
        rcases this with rfl | rfl | rfl | rfl <;> decide
      have hr2 : rnk (7 + l) = 0 := by
        have : l = 0 ∨ l = 1 ∨ l = 2 ∨ l = 3 := by omega
        rcases this with rfl | rfl | rfl | rfl <;> rfl
      have hs := sub_lt l
      obtain ⟨r, p1, p2⟩ := ih o (sub l) j z0 (by omega) hj (fun _ => rfl) (by omega)
      rcases out_cases r with ⟨k, rfl⟩ | ⟨k, e2, rfl⟩
      · exact ⟨_, Pr_chB hl p1, p2⟩
      · have hgo := (Pr_far p1).ok.2 hs
        have p2 : k ≤ c := p2
        obtain ⟨r, q1, q2⟩ := ih o (7 + l) k e2 (by omega) p2 (fun z => by omega) (by omega)
        exact ⟨_, Pr_chO hl p1 q1, q2⟩
    · obtain ⟨l, rfl, hl⟩ : ∃ l, g = 7 + l ∧ l < 4 := ⟨g - 7, by omega, by omega⟩
      have hs := sub_lt l
      have hr2 : rnk (7 + l) = 0 := by
        have : l = 0 ∨ l = 1 ∨ l = 2 ∨ l = 3 := by omega
        rcases this with rfl | rfl | rfl | rfl <;> rfl
      have hr3 : rnk (sub l) ≤ 7 := by
        have : l = 0 ∨ l = 1 ∨ l = 2 ∨ l = 3 := by omega
        rcases this with rfl | rfl | rfl | rfl <;> decide
      by_cases h1 : isOp l (T j)
      · have hj2 := hlt j hj (fun z => by
          rw [z] at h1
          unfold isOp at h1
          have a1 : (-1 : Int32) ≠ 42 := by decide
          have a2 : (-1 : Int32) ≠ 43 := by decide
          have a3 : (-1 : Int32) ≠ 45 := by decide
          have a4 : (-1 : Int32) ≠ 10 := by decide
          have a5 : (-1 : Int32) ≠ 9 := by decide
          rcases h1 with ⟨-, q⟩ | ⟨-, q | q⟩ | ⟨-, q⟩ | ⟨-, q⟩
          · exact a1 q
          · exact a2 q
          · exact a3 q
          · exact a4 q
          · exact a5 q)
        obtain ⟨r, p1, p2⟩ := ih o (sub l) (j + 1) z0 (by omega) (by omega) (fun _ => rfl) (by omega)
        rcases out_cases r with ⟨k, rfl⟩ | ⟨k, e2, rfl⟩
        · exact ⟨_, Pr_lpB hl h1 p1, p2⟩
        · have hgo := (Pr_far p1).ok.1
          have p2 : k ≤ c := p2
          obtain ⟨r, q1, q2⟩ := ih o (7 + l) k (bi (T j) e e2) (by omega) p2 (fun z => by omega) (by omega)
          exact ⟨_, Pr_lpO hl h1 p1 q1, q2⟩
      · exact ⟨_, Pr_lpE hl h1, hj⟩
