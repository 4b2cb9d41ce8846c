-- worlds: what both reckon
def CG (e : Ex) : Prop := ∀ f g : Nat → Int32, (∀ k, k < 6 → f k = g k) → e.2 f = e.2 g
theorem CG_lf {x : Int32} (a : isLf x) : CG (lf x) := by
  intro f g h
  show (if x < 100 then f (ix x) else x - 100) = if x < 100 then g (ix x) else x - 100
  unfold isLf at a
  by_cases c : x < 100
  · rw [if_pos c, if_pos c]
    rw [Int32.lt_iff_toInt_lt, t_100] at c
    exact h _ (by unfold ix; omega)
  · rw [if_neg c, if_neg c]
theorem CG_ng {e : Ex} (h : CG e) : CG (ng e) := fun f g q => by show -(e.2 f) = -(e.2 g); rw [h f g q]
theorem CG_nt {e : Ex} (h : CG e) : CG (nt e) := fun f g q => by show bI (if e.2 f = 0 then true else false) = bI (if e.2 g = 0 then true else false); rw [h f g q]
theorem CG_bi {s : Int32} {a b : Ex} (h1 : CG a) (h2 : CG b) : CG (bi s a b) := fun f g q => by show joinV (a.2 f) s (b.2 f) = joinV (a.2 g) s (b.2 g); rw [h1 f g q, h2 f g q]
def CGr (r : Out) : Prop := ∀ k e, r = ok k e → CG e
theorem CGr.ok {k : Nat} {e : Ex} (h : CGr (ok k e)) : CG e := h k e rfl
theorem CGr.mk {k : Nat} {e : Ex} (h : CG e) : CGr (some e, k) := fun k2 e2 q => by obtain ⟨-, rfl⟩ := ok_inj q; exact h
theorem CGr.no (k : Nat) : CGr (bad k) := fun k2 e2 q => absurd q.symm ok_bad
theorem Pr_cg {T : Nat → Int32} {o g : Nat} {e : Ex} {j : Nat} {r : Out} (h : Pr T o g e j r) : (7 ≤ g → CG e) → CGr r := by
  refine Pr_rec (P := fun o g e j r => (7 ≤ g → CG e) → CGr r) ?_ ?_ ?_ ?_ ?_ ?_ ?_ ?_ ?_ ?_ ?_ ?_ ?_ ?_ ?_ ?_ ?_ ?_ ?_ ?_ ?_ h
  · intro o j a _; exact .mk (CG_lf a)
  · intro o j a b _; exact .no _
  · intro o j a b c d _; exact .no _
  · intro o j k a b p _; exact .no _
  · intro o j k e a b p c _; exact .no _
  · intro o j k e a b p c _; exact .mk (p.2 (fun z => absurd z (by decide))).ok
  · intro o j k a b p _; exact .no _
  · intro o j k e a b p _; exact .mk (CG_ng (p.2 (fun z => absurd z (by decide))).ok)
  · intro o j k p _; exact .no _
  · intro o j k e p a b _; exact p.2 (fun z => absurd z (by decide))
  · intro o j k e l p a q _; exact .no _
  · intro o j k e l e2 p a q _; exact .mk (CG_bi (p.2 (fun z => absurd z (by decide))).ok (q.2 (fun z => absurd z (by decide))).ok)
  · intro o j r a p _; exact p.2 (fun z => absurd z (by decide))
  · intro o j a b _; exact .no _
  · intro o j k a b p _; exact .no _
  · intro o j k e a b p _; exact .mk (CG_nt (p.2 (fun z => absurd z (by decide))).ok)
  · intro o j k c a p _; exact .no _
  · intro o j k c e r a p q _
    have := sub_lt c
    exact q.2 fun _ => (p.2 (fun z => by omega)).ok
  · intro o j c e a b he; exact .mk (he (by omega))
  · intro o j k c e a b p _; exact .no _
  · intro o j k c e e2 r a b p q he
    have := sub_lt c
    exact q.2 fun _ => CG_bi (he (by omega)) (p.2 (fun z => by omega)).ok
theorem PT_cg {T : Nat → Int32} {key : Int32} {j k : Nat} {e : Ex} (h : PT T key j (ok k e)) : CG e := by
  rcases h with ⟨-, q⟩ | ⟨-, ⟨k2, -, q⟩ | ⟨k2, e2, p, ⟨-, q⟩ | ⟨-, q⟩⟩⟩
  · exact absurd q ok_bad
  · exact absurd q ok_bad
  · exact absurd q ok_bad
  · obtain ⟨-, rfl⟩ := ok_inj q
    exact (Pr_cg p fun z => absurd z (by decide)).ok
theorem RD_cg {B : Nat → Int32} {n : Nat} {e0 e1 e2 : Ex} (h : RDok (tk B n) n e0 e1 e2) : CG e0 ∧ CG e1 ∧ CG e2 := by
  have hT := tk_far B n
  obtain ⟨a, b, c, a1, b1, c1, z⟩ := h
  obtain ⟨p0, l0⟩ := pr_spec hT (key := 6) (by decide) (Nat.zero_le n)
  rw [a1] at p0 l0
  obtain ⟨p1, l1⟩ := pr_spec hT (key := 7) (by decide) (j := a) l0
  rw [b1] at p1 l1
  obtain ⟨p2, l2⟩ := pr_spec hT (key := 8) (by decide) (j := b) l1
  rw [c1] at p2
  exact ⟨PT_cg p0, PT_cg p1, PT_cg p2⟩
theorem tF_cg {v : Vv} {t : Nat} {B : Nat → Int32} {n : Nat} {e0 e1 e2 : Ex} (h : TRe v t B n e0 e1 e2) (q : Nat) {f g : Nat → Int32} (hfg : ∀ k, k < 6 → f k = g k) : tF e0 e1 e2 q f = tF e0 e1 e2 q g := by
  obtain ⟨c0, c1, c2⟩ := RD_cg h.2.2.1
  unfold tF
  rw [c0 f g hfg, c1 f g hfg, c2 f g hfg]
abbrev Rl := Nat → (Nat → Int32) → Int32
def nmv (a b c d e f : Int32) (k : Nat) : Int32 := if k = 0 then a else if k = 1 then b else if k = 2 then c else if k = 3 then d else if k = 4 then e else f
/-- the rule on the class's side, and on the reference's -/
def CT (F : Rl) (v : Vv) : Prop := ∃ t B n e0 e1 e2, t < 6 ∧ v.2.2 = 122 + 4 * t ∧ TRe v t B n e0 e1 e2 ∧ F = tF e0 e1 e2
def MT (F : Rl) (v : Vv) : Prop := ∃ t B n e0 e1 e2, t < 6 ∧ v.1 154 4 = nI t ∧ TRe v t B n e0 e1 e2 ∧ F = tF e0 e1 e2
/-- cells of the texts that stay -/
def TXs (i : Nat) : Prop := 122 ≤ i ∧ i ≤ 145 ∧ ((i - 122) % 4 = 1 ∨ (i - 122) % 4 = 2) ∨ i = 155 ∨ i = 156
theorem TX_s {t i k : Nat} (ht : t < 6) (h : TX t i k) : TXs i := by unfold TX at h; unfold TXs; omega
theorem CT.at {F : Rl} {v w : Vv} (h : CT F v) (f : ∀ i k, TXs i → w.1 i k = v.1 i k) (h2 : w.2.2 = v.2.2) : CT F w := by
  obtain ⟨t, B, n, e0, e1, e2, a, b, c, d⟩ := h
  exact ⟨t, B, n, e0, e1, e2, a, h2.trans b, c.at fun i k q => f i k (TX_s a q), d⟩
theorem MT.at {F : Rl} {v w : Vv} (h : MT F v) (f : ∀ i k, TXs i → w.1 i k = v.1 i k) (h2 : w.1 154 4 = v.1 154 4) : MT F w := by
  obtain ⟨t, B, n, e0, e1, e2, a, b, c, d⟩ := h
  exact ⟨t, B, n, e0, e1, e2, a, h2.trans b, c.at fun i k q => f i k (TX_s a q), d⟩
/-- what a telling of the class changes -/
def AZ (i k : Nat) : Prop := i = 73 ∨ 122 ≤ i ∧ i ≤ 145 ∧ ((i - 122) % 4 = 0 ∧ k = 4 ∨ (i - 122) % 4 = 3)
theorem C_says {F : Rl} {v : Vv} (h : CT F v) {q : Nat} (hq : q < 3) {a b c d e f : Int32} {Q : Int32 → Vv → Prop} (hQ : ∀ w, FX AZ v w → Q (F q (nmv a b c d e f)) w) : m_W_name a b c d e f v (fun v5 => isText v5.2.2 ∧ m_T_tells v5.2.2 (nI q) v5 Q) := by
  refine s_W_name ?_
  obtain ⟨t, B, n, e0, e1, e2, ht, hR, hT, rfl⟩ := h
  generalize hu : sI (sI (sI (sI (sI (sI v 73 (ix 0) a) 73 (ix 1) b) 73 (ix 2) c) 73 (ix 3) d) 73 (ix 4) e) 73 (ix 5) f = u
  have f0 : FX AZ v u := by
    rw [← hu]
    exact ((((((FX.rf AZ v).sI (Or.inl rfl) _).sI (Or.inl rfl) _).sI (Or.inl rfl) _).sI (Or.inl rfl) _).sI (Or.inl rfl) _).sI (Or.inl rfl) _
  have e73 : ∀ k, k < 6 → u.1 73 k = nmv a b c d e f k := by
    intro k hk
    rw [← hu]
    have : k = 0 ∨ k = 1 ∨ k = 2 ∨ k = 3 ∨ k = 4 ∨ k = 5 := by omega
    rcases this with rfl | rfl | rfl | rfl | rfl | rfl <;> rfl
  have hR2 : u.2.2 = 122 + 4 * t := by rw [f0.2]; exact hR
  have hT2 : TRe u t B n e0 e1 e2 := hT.at fun i k z => f0.1 i k fun y => by have := TX_s ht z; unfold TXs at this; unfold AZ at y; omega
  rw [hR2]
  refine ⟨isText_t ht, T_tells ht hq hT2 fun w g => ?_⟩
  rw [tF_cg hT2 q e73]
  exact hQ w (f0.tr ⟨fun i k z => g.1 i k fun y => z (by unfold FT at y; unfold AZ; omega), g.2⟩)
theorem M_says {F : Rl} {v : Vv} (h : MT F v) {q : Nat} (hq : q < 3) {f : Nat → Int32} (hN : NMS v f) {Q : Int32 → Vv → Prop} (hQ : ∀ w, FM AV v w → Q (F q f) w) : m_M_read (v.1 154 4) (nI q) v Q := by
  obtain ⟨t, B, n, e0, e1, e2, ht, hR, hT, rfl⟩ := h
  rw [hR]
  exact M_tells ht hq hT hN hQ
-- ones in a small number
def bitN (x : Nat) : Nat := x % 2 + x / 2 % 2 + x / 4 % 2 + x / 8 % 2 + x / 16 % 2 + x / 32 % 2
def bitI (x : Int32) : Int32 := nI (bitN (ix x))
theorem bits_down : ∀ x, x < 64 → x ≠ 0 → ∃ y, y < x ∧ nI x &&& (nI x - 1) = nI y ∧ bitN x = bitN y + 1 := by
  have h : ∀ x, x < 64 → x ≠ 0 → (x &&& (x - 1)) < x ∧ nI x &&& (nI x - 1) = nI (x &&& (x - 1)) ∧ bitN x = bitN (x &&& (x - 1)) + 1 := by decide +kernel
  exact fun x a b => ⟨_, h x a b⟩
theorem M_bits_loop {v : Vv} {Q : Int32 → Vv → Prop} : ∀ j x i : Nat, x ≤ j → x < 64 → i + x < 1000 → Q (nI (i + bitN x)) v → k_M_bitsOf_4 (nI i) (nI x) v Q := by
  intro j
  induction j with
  | zero =>
    intro x i hj hx hi h
    obtain rfl : x = 0 := by omega
    refine s_M_bitsOf_4 ?_
    rw [if_pos (show nI 0 = 0 from rfl)]
    exact h
  | succ j ih =>
    intro x i hj hx hi h
    refine s_M_bitsOf_4 ?_
    by_cases c : x = 0
    · subst c
      rw [if_pos (show nI 0 = 0 from rfl)]
      exact h
    · rw [if_neg (fun z => c (by rw [i_eq, nI_tI (by omega), t_0] at z; omega))]
      obtain ⟨y, y1, y2, y3⟩ := bits_down x hx c
      rw [y2, nI_1]
      exact ih y (i + 1) (by omega) (by omega) (by omega) (by rw [show i + 1 + bitN y = i + bitN x by omega]; exact h)
theorem M_bitsOf {x : Int32} (h : 0 ≤ x.toInt ∧ x.toInt < 64) {v : Vv} {Q : Int32 → Vv → Prop} (hQ : Q (bitI x) v) : m_M_bitsOf x v Q := by
  obtain ⟨k, hk, rfl⟩ := nI_of3 (n := 64) h.1 h.2
  refine s_M_bitsOf ?_
  unfold bitI at hQ
  rw [ix_nI (by omega)] at hQ
  exact M_bits_loop k k 0 (Nat.le_refl _) hk (by omega) (by rw [Nat.zero_add]; exact hQ)
