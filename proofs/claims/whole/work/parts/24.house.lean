-- clocks and doers of class and reference
theorem u2_at {α : Type} (f : Nat → Nat → α) (i k : Nat) (x : α) (a b : Nat) : u2 f i k x a b = if a = i ∧ b = k then x else f a b := rfl
abbrev Cf : Type := Int32 × Int32 × Int32 × (Nat → Int32) × (Nat → Int32) × (Nat → Int32) × (Nat → Int32) × (Nat → Int32) × (Nat → Int32) × (Nat → Int32)
def hs (v : Vv) (h : Nat) : Cf := (v.1 h 2, v.1 h 3, v.1 h 4, fun c => v.1 (h + 3 + c) 0, fun c => v.1 (h + 3 + c) 1, fun c => v.1 (h + 3 + c) 2, fun c => v.1 (h + 3 + c) 3, fun d => v.1 (h + 9 + d) 0, fun d => v.1 (h + 9 + d) 1, fun d => v.1 (h + 9 + d) 2)
def hm (v : Vv) : Cf := (v.1 154 11, v.1 154 15, v.1 154 4, v.1 159, v.1 158, v.1 160, v.1 161, v.1 162, v.1 163, v.1 164)
def hk (v : Vv) : Cf := (v.1 154 42, v.1 154 43, v.1 154 44, fun c => v.1 171 (6 + c), fun c => v.1 171 c, fun c => v.1 171 (12 + c), fun c => v.1 171 (18 + c), v.1 162, v.1 172, fun d => v.1 172 (5 + d))
def cn (A : Cf) : Int32 := A.1
def cm (A : Cf) : Int32 := A.2.1
def cru (A : Cf) : Int32 := A.2.2.1
def cro (A : Cf) : Nat → Int32 := A.2.2.2.1
def cof (A : Cf) : Nat → Int32 := A.2.2.2.2.1
def cse (A : Cf) : Nat → Int32 := A.2.2.2.2.2.1
def csa (A : Cf) : Nat → Int32 := A.2.2.2.2.2.2.1
def cki (A : Cf) : Nat → Int32 := A.2.2.2.2.2.2.2.1
def cnu (A : Cf) : Nat → Int32 := A.2.2.2.2.2.2.2.2.1
def cwa (A : Cf) : Nat → Int32 := A.2.2.2.2.2.2.2.2.2
def okC (A : Cf) (c : Nat) : Prop := (0 ≤ (cro A c).toInt ∧ (cro A c).toInt ≤ 5) ∧ (-120 ≤ (cof A c).toInt ∧ (cof A c).toInt ≤ 120) ∧ (0 ≤ (cse A c).toInt ∧ (cse A c).toInt ≤ 1) ∧ (-1 ≤ (csa A c).toInt ∧ (csa A c).toInt ≤ 1439)
def okD (A : Cf) (d : Nat) : Prop := (0 ≤ (cki A d).toInt ∧ (cki A d).toInt ≤ 5) ∧ (0 ≤ (cnu A d).toInt ∧ (cnu A d).toInt ≤ 9) ∧ (0 ≤ (cwa A d).toInt ∧ (cwa A d).toInt ≤ 63)
/-- two tell the same: n CLOCKS, m DOERS -/
def RH (A B : Cf) (n m : Nat) : Prop := (n ≤ 6 ∧ m ≤ 5) ∧ (cn A = nI n ∧ cn B = nI n) ∧ (cm A = nI m ∧ cm B = nI m) ∧ (cru B = cru A ∧ 0 ≤ (cru A).toInt ∧ (cru A).toInt ≤ 5) ∧
  (∀ c, c < n → (cro B c = cro A c ∧ cof B c = cof A c ∧ cse B c = cse A c ∧ csa B c = csa A c) ∧ okC A c) ∧ (∀ d, d < m → (cki B d = cki A d ∧ cnu B d = cnu A d ∧ cwa B d = cwa A d) ∧ okD A d)
/-- what a change of the house may touch -/
def AH (i k : Nat) : Prop := 74 ≤ i ∧ i ≤ 87 ∨ i = 1 ∧ k = 12 ∨ 158 ≤ i ∧ i ≤ 164 ∨ i = 154 ∧ (k = 11 ∨ k = 15 ∨ k = 4)
def FX (A : Nat → Nat → Prop) (v w : Vv) : Prop := (∀ i k, ¬ A i k → w.1 i k = v.1 i k) ∧ w.2 = v.2
theorem FX.rf (A : Nat → Nat → Prop) (v : Vv) : FX A v v := ⟨fun _ _ _ => rfl, rfl⟩
theorem FX.tr {A : Nat → Nat → Prop} {u v w : Vv} (h1 : FX A u v) (h2 : FX A v w) : FX A u w := ⟨fun i k h => (h2.1 i k h).trans (h1.1 i k h), h2.2.trans h1.2⟩
theorem FX.sI {A : Nat → Nat → Prop} {v w : Vv} (h : FX A v w) {i k : Nat} (hA : A i k) (x : Int32) : FX A v (sI w i k x) := ⟨fun a b hab => by
  rw [sI_at, if_neg (by rintro ⟨rfl, rfl⟩; exact hab hA)]
  exact h.1 a b hab, h.2⟩
theorem canBe_0 (x : Int32) : canBe 0 x = decide (-120 ≤ x.toInt ∧ x.toInt ≤ 120) := by
  unfold canBe
  rw [show (stV 0 (ix 0)).toInt = -120 by decide, show (stV 1 (ix 0)).toInt = 120 by decide, decide_eq_true (by decide), Bool.true_and]
theorem canBe_1 (x : Int32) : canBe 1 x = decide (0 ≤ x.toInt ∧ x.toInt ≤ 5) := by
  unfold canBe
  rw [show (stV 0 (ix 1)).toInt = 0 by decide, show (stV 1 (ix 1)).toInt = 5 by decide, decide_eq_true (by decide), Bool.true_and]
theorem canBe_2 (x : Int32) : canBe 2 x = decide (0 ≤ x.toInt ∧ x.toInt ≤ 1) := by
  unfold canBe
  rw [show (stV 0 (ix 2)).toInt = 0 by decide, show (stV 1 (ix 2)).toInt = 1 by decide, decide_eq_true (by decide), Bool.true_and]
theorem canBe_3 (x : Int32) : canBe 3 x = decide (-1 ≤ x.toInt ∧ x.toInt ≤ 1439) := by
  unfold canBe
  rw [show (stV 0 (ix 3)).toInt = -1 by decide, show (stV 1 (ix 3)).toInt = 1439 by decide, decide_eq_true (by decide), Bool.true_and]
theorem canBe_4 (x : Int32) : canBe 4 x = decide (0 ≤ x.toInt ∧ x.toInt ≤ 9) := by
  unfold canBe
  rw [show (stV 0 (ix 4)).toInt = 0 by decide, show (stV 1 (ix 4)).toInt = 9 by decide, decide_eq_true (by decide), Bool.true_and]
theorem canBe_5 (x : Int32) : canBe 5 x = decide (0 ≤ x.toInt ∧ x.toInt ≤ 63) := by
  unfold canBe
  rw [show (stV 0 (ix 5)).toInt = 0 by decide, show (stV 1 (ix 5)).toInt = 63 by decide, decide_eq_true (by decide), Bool.true_and]
theorem canBe_no {a : Int32} (h : ¬ (0 ≤ a.toInt ∧ a.toInt ≤ 5)) (x : Int32) : canBe a x = false := by
  unfold canBe
  rw [decide_eq_false h, Bool.false_and]
theorem div10 {x : Int32} (h : 0 ≤ x.toInt) : (x / 10).toInt = x.toInt / 10 := lg_idiv_nonneg h (by decide)
theorem mod10 {x : Int32} (h : 0 ≤ x.toInt) : (x % 10).toInt = x.toInt % 10 := by
  rw [Int32.toInt_mod, t_10, Int.tmod_eq_emod_of_nonneg h]
def cAdd (v : Vv) (k : Nat) (a b : Int32) : Vv := sI (sI (sI (sI (sI (sI v (77 + k) 0 (a / 10)) (77 + k) 2 (a % 10)) (77 + k) 1 b) (77 + k) 3 (-1)) 1 12 1) 74 2 (nI (k + 1))
theorem P_clock {k : Nat} {a b : Int32} {v : Vv} {Q : Int32 → Vv → Prop} (hn : v.1 74 2 = nI k) (hk : k ≤ 6)
    (h1 : ¬ ((0 ≤ a.toInt ∧ a.toInt ≤ 59 ∧ a.toInt % 10 ≤ 1) ∧ -120 ≤ b.toInt ∧ b.toInt ≤ 120) → Q (-2) v)
    (h2 : (0 ≤ a.toInt ∧ a.toInt ≤ 59 ∧ a.toInt % 10 ≤ 1) ∧ -120 ≤ b.toInt ∧ b.toInt ≤ 120 → k = 6 → Q (-4) v)
    (h3 : (0 ≤ a.toInt ∧ a.toInt ≤ 59 ∧ a.toInt % 10 ≤ 1) ∧ -120 ≤ b.toInt ∧ b.toInt ≤ 120 → k < 6 → Q (nI k) (cAdd v k a b)) : m_P_clock a b v Q := by
  refine s_P_clock ?_
  have hkt := nI_tI (n := k) (by omega)
  by_cases c1 : a < 0
  · rw [if_pos c1]
    rw [Int32.lt_iff_toInt_lt, t_0] at c1
    exact h1 (by omega)
  · rw [if_neg c1]
    rw [Int32.lt_iff_toInt_lt, t_0] at c1
    refine P_canBe ?_
    rw [canBe_1, div10 (by omega)]
    by_cases c2 : 0 ≤ a.toInt / 10 ∧ a.toInt / 10 ≤ 5
    · rw [decide_eq_true c2, if_pos rfl]
      refine P_canBe ?_
      rw [canBe_2, mod10 (by omega)]
      by_cases c3 : 0 ≤ a.toInt % 10 ∧ a.toInt % 10 ≤ 1
      · rw [decide_eq_true c3, if_pos rfl]
        refine P_canBe ?_
        rw [canBe_0]
        by_cases c4 : -120 ≤ b.toInt ∧ b.toInt ≤ 120
        · rw [decide_eq_true c4, if_pos rfl, hn]
          by_cases c5 : k < 6
          · rw [if_pos (by simp only [Int32.lt_iff_toInt_lt, i_eq, t_0, t_1, t_2, t_3, t_4, t_5, t_6, t_7, t_9, t_10, t_20, t_30, t_32, t_40, t_59, t_60, t_63, t_99, t_100, t_120, t_160, t_255, t_960, t_1439, t_1440, t_n1, t_n2, t_n3, t_n4, t_n11, t_n12, t_n13, t_n14, t_n120, t_n1000, t_n100000, t_n100, t_200]; omega), ix_nI (by omega)]
            refine ⟨ib_nI c5 (by decide), ?_⟩
            have e : (sI (sI (sI (sI (sI v (77 + k) 0 (a / 10)) (77 + k) 2 (a % 10)) (77 + k) 1 b) (77 + k) 3 (-1)) 1 12 1).1 74 2 = nI k := by
              rw [sI_at, sI_at, sI_at, sI_at, sI_at]
              repeat (first | rw [if_neg (by omega)] | rw [if_pos (by omega)])
              exact hn
            rw [e, nI_1]
            exact h3 (by omega) c5
          · rw [if_neg (by simp only [Int32.lt_iff_toInt_lt, i_eq, t_0, t_1, t_2, t_3, t_4, t_5, t_6, t_7, t_9, t_10, t_20, t_30, t_32, t_40, t_59, t_60, t_63, t_99, t_100, t_120, t_160, t_255, t_960, t_1439, t_1440, t_n1, t_n2, t_n3, t_n4, t_n11, t_n12, t_n13, t_n14, t_n120, t_n1000, t_n100000, t_n100, t_200]; omega)]
            exact h2 (by omega) (by omega)
        · rw [decide_eq_false c4, if_neg (by decide)]
          exact h1 (by omega)
      · rw [decide_eq_false c3, if_neg (by decide)]
        exact h1 (by omega)
    · rw [decide_eq_false c2, if_neg (by decide)]
      exact h1 (by omega)
def mAdd (v : Vv) (k : Nat) (a b : Int32) : Vv := sI (sI (sI (sI (sI v 159 k (a / 10)) 160 k (a % 10)) 158 k b) 161 k (-1)) 154 11 (nI (k + 1))
theorem M_clock {k : Nat} {a b : Int32} {v : Vv} {Q : Int32 → Vv → Prop} (hn : v.1 154 11 = nI k) (hk : k ≤ 6)
    (h1 : ¬ ((0 ≤ a.toInt ∧ a.toInt ≤ 59 ∧ a.toInt % 10 ≤ 1) ∧ -120 ≤ b.toInt ∧ b.toInt ≤ 120) → Q (-2) v)
    (h2 : (0 ≤ a.toInt ∧ a.toInt ≤ 59 ∧ a.toInt % 10 ≤ 1) ∧ -120 ≤ b.toInt ∧ b.toInt ≤ 120 → k = 6 → Q (-4) v)
    (h3 : (0 ≤ a.toInt ∧ a.toInt ≤ 59 ∧ a.toInt % 10 ≤ 1) ∧ -120 ≤ b.toInt ∧ b.toInt ≤ 120 → k < 6 → Q (nI k) (mAdd v k a b)) : m_M_clock a b v Q := by
  refine s_M_clock (M_in ?_)
  rw [Int32.toInt_toInt64, l_0, show (59 : Int64).toInt = 59 by decide]
  by_cases c1 : 0 ≤ a.toInt ∧ a.toInt ≤ 59
  · rw [decide_eq_true c1, if_pos rfl]
    by_cases c2 : a.toInt % 10 ≤ 1
    · rw [if_neg (by rw [Int32.lt_iff_toInt_lt, t_1, mod10 c1.1]; omega)]
      refine M_in ?_
      rw [Int32.toInt_toInt64, show (-120 : Int64).toInt = -120 by decide, show (120 : Int64).toInt = 120 by decide]
      by_cases c4 : -120 ≤ b.toInt ∧ b.toInt ≤ 120
      · rw [decide_eq_true c4, if_pos rfl]
        simp only [u2_at, show ∀ x : Nat, ¬ (154 = 159 ∧ 11 = x) from fun x q => absurd q.1 (by decide), show ∀ x : Nat, ¬ (154 = 160 ∧ 11 = x) from fun x q => absurd q.1 (by decide), show ∀ x : Nat, ¬ (154 = 158 ∧ 11 = x) from fun x q => absurd q.1 (by decide), show ∀ x : Nat, ¬ (154 = 161 ∧ 11 = x) from fun x q => absurd q.1 (by decide), if_false, hn]
        by_cases c5 : k < 6
        · rw [if_neg (by rw [show (6 : Int32) = nI 6 from rfl, nI_eq (by omega) (by omega)]; omega)]
          refine ⟨ib_nI c5 (by decide), ib_nI c5 (by decide), ib_nI c5 (by decide), ib_nI c5 (by decide), ?_⟩
          rw [ix_nI (by omega), nI_1]
          simp only [and_self, if_true]
          rw [show (1 : Int32) = nI 1 from rfl, nI_sub (by omega) (by omega)]
          exact h3 (by omega) c5
        · rw [if_pos (by rw [show (6 : Int32) = nI 6 from rfl, nI_eq (by omega) (by omega)]; omega)]
          exact h2 (by omega) (by omega)
      · rw [decide_eq_false c4, if_neg (by decide)]
        exact h1 (by omega)
    · rw [if_pos (by rw [Int32.lt_iff_toInt_lt, t_1, mod10 c1.1]; omega)]
      exact h1 (by omega)
  · rw [decide_eq_false c1, if_neg (by decide)]
    exact h1 (by omega)
/-- the house stands -/
def HO (v : Vv) : Prop := ∃ n m, RH (hs v 74) (hm v) n m
theorem clock_step {a b : Int32} {v : Vv} (h : HO v) {Q : Int32 → Int32 → Vv → Prop} (h0 : ∀ r, r.toInt < 0 → Q r r v) (hQ : ∀ r w, 0 ≤ r.toInt → HO w → FX AH v w → w.1 1 12 = 1 → cm (hs w 74) = cm (hs v 74) → cru (hs w 74) = cru (hs v 74) → Q r r w) : m_P_clock a b v (fun r v1 => m_M_clock a b v1 (fun r' v2 => Q r r' v2)) := by
  obtain ⟨n, m, h⟩ := h
  obtain ⟨⟨hn6, hm5⟩, ⟨hnA, hnB⟩, ⟨hmA, hmB⟩, hru, hcl, hdo⟩ := id h
  refine P_clock (k := n) hnA hn6 (fun c => ?_) (fun c e => ?_) (fun c e => ?_)
  · exact M_clock (k := n) hnB hn6 (fun _ => h0 _ (by decide)) (fun q => absurd q c) (fun q => absurd q c)
  · exact M_clock (k := n) hnB hn6 (fun q => absurd c q) (fun _ _ => h0 _ (by decide)) (fun _ q => absurd q (by omega))
  · have hB : (cAdd v n a b).1 154 11 = nI n := by
      unfold cAdd
      rw [sI_at, sI_at, sI_at, sI_at, sI_at, sI_at]
      repeat (first | rw [if_neg (by omega)] | rw [if_pos (by omega)])
      exact hnB
    refine M_clock (k := n) hB hn6 (fun q => absurd c q) (fun _ q => absurd q (by omega)) (fun _ _ => ?_)
    generalize hw : mAdd (cAdd v n a b) n a b = w
    have rd : ∀ x y, w.1 x y = if x = 154 ∧ y = 11 then nI (n + 1) else if x = 161 ∧ y = n then -1 else if x = 158 ∧ y = n then b else if x = 160 ∧ y = n then a % 10 else if x = 159 ∧ y = n then a / 10 else if x = 74 ∧ y = 2 then nI (n + 1) else if x = 1 ∧ y = 12 then 1 else if x = 77 + n ∧ y = 3 then -1 else if x = 77 + n ∧ y = 1 then b else if x = 77 + n ∧ y = 2 then a % 10 else if x = 77 + n ∧ y = 0 then a / 10 else v.1 x y := by
      intro x y
      rw [← hw]
      rfl
    have hF : FX AH v w := by
      refine ⟨fun i k hik => ?_, by rw [← hw]; rfl⟩
      unfold AH at hik
      rw [rd]
      repeat (first | rw [if_neg (by omega)] | rw [if_pos (by omega)])
    refine hQ _ _ (by rw [nI_tI (by omega)]; omega) ⟨n + 1, m, ⟨by omega, hm5⟩, ⟨?_, ?_⟩, ⟨?_, ?_⟩, ?_, fun x hx => ?_, fun x hx => ?_⟩ hF ?_ ?_ ?_
    · show w.1 74 2 = _
      rw [rd]
      repeat (first | rw [if_neg (by omega)] | rw [if_pos (by omega)])
    · show w.1 154 11 = _
      rw [rd]
      repeat (first | rw [if_neg (by omega)] | rw [if_pos (by omega)])
    · show w.1 74 3 = _
      rw [rd]
      repeat (first | rw [if_neg (by omega)] | rw [if_pos (by omega)])
      exact hmA
    · show w.1 154 15 = _
      rw [rd]
      repeat (first | rw [if_neg (by omega)] | rw [if_pos (by omega)])
      exact hmB
    · show w.1 154 4 = w.1 74 4 ∧ 0 ≤ (w.1 74 4).toInt ∧ (w.1 74 4).toInt ≤ 5
      rw [rd, rd]
      repeat (first | rw [if_neg (by omega)] | rw [if_pos (by omega)])
      exact hru
    · show (w.1 159 x = w.1 (77 + x) 0 ∧ w.1 158 x = w.1 (77 + x) 1 ∧ w.1 160 x = w.1 (77 + x) 2 ∧ w.1 161 x = w.1 (77 + x) 3) ∧ (0 ≤ (w.1 (77 + x) 0).toInt ∧ (w.1 (77 + x) 0).toInt ≤ 5) ∧ (-120 ≤ (w.1 (77 + x) 1).toInt ∧ (w.1 (77 + x) 1).toInt ≤ 120) ∧ (0 ≤ (w.1 (77 + x) 2).toInt ∧ (w.1 (77 + x) 2).toInt ≤ 1) ∧ (-1 ≤ (w.1 (77 + x) 3).toInt ∧ (w.1 (77 + x) 3).toInt ≤ 1439)
      by_cases e2 : x = n
      · subst e2
        rw [rd 159, rd 158, rd 160, rd 161, rd (77 + x) 0, rd (77 + x) 1, rd (77 + x) 2, rd (77 + x) 3]
        repeat (first | rw [if_neg (by omega)] | rw [if_pos (by omega)])
        refine ⟨⟨rfl, rfl, rfl, rfl⟩, ?_, ?_, ?_, by decide⟩
        · rw [div10 c.1.1]; omega
        · omega
        · rw [mod10 c.1.1]; omega
      · rw [rd 159, rd 158, rd 160, rd 161, rd (77 + x) 0, rd (77 + x) 1, rd (77 + x) 2, rd (77 + x) 3]
        repeat (first | rw [if_neg (by omega)] | rw [if_pos (by omega)])
        exact hcl x (by omega)
    · show (w.1 162 x = w.1 (83 + x) 0 ∧ w.1 163 x = w.1 (83 + x) 1 ∧ w.1 164 x = w.1 (83 + x) 2) ∧ (0 ≤ (w.1 (83 + x) 0).toInt ∧ (w.1 (83 + x) 0).toInt ≤ 5) ∧ (0 ≤ (w.1 (83 + x) 1).toInt ∧ (w.1 (83 + x) 1).toInt ≤ 9) ∧ (0 ≤ (w.1 (83 + x) 2).toInt ∧ (w.1 (83 + x) 2).toInt ≤ 63)
      rw [rd 162, rd 163, rd 164, rd (83 + x) 0, rd (83 + x) 1, rd (83 + x) 2]
      repeat (first | rw [if_neg (by omega)] | rw [if_pos (by omega)])
      exact hdo x hx
    · rw [rd]
      repeat (first | rw [if_neg (by omega)] | rw [if_pos (by omega)])
    · show w.1 74 3 = v.1 74 3
      rw [rd]
      repeat (first | rw [if_neg (by omega)] | rw [if_pos (by omega)])
    · show w.1 74 4 = v.1 74 4
      rw [rd]
      repeat (first | rw [if_neg (by omega)] | rw [if_pos (by omega)])
