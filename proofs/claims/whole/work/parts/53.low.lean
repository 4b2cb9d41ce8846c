-- longs that are not below 0; lowest terms
def nL (n : Nat) : Int64 := Int64.ofNat n
theorem nL_tL {n : Nat} (h : n < 2 ^ 63) : (nL n).toInt = n := Int64.toInt_ofNat_of_lt h
theorem nL_add (a b : Nat) : nL a + nL b = nL (a + b) := (Int64.ofNat_add a b).symm
theorem nL_mul (a b : Nat) : nL a * nL b = nL (a * b) := (Int64.ofNat_mul a b).symm
theorem nL_of {x : Int64} (h : 0 ≤ x.toInt) : x = nL x.toInt.toNat := by
  have h2 := Int64.toInt_lt x
  rw [l_eq, nL_tL (by omega)]
  omega
theorem nL_z {n : Nat} (h : n < 2 ^ 63) : nL n = 0 ↔ n = 0 := by
  rw [l_eq, nL_tL h, l_0]
  omega
theorem nL_lt {a b : Nat} (ha : a < 2 ^ 63) (hb : b < 2 ^ 63) : nL a < nL b ↔ a < b := by
  rw [Int64.lt_iff_toInt_lt, nL_tL ha, nL_tL hb]
  omega
theorem nL_mod {a b : Nat} (ha : a < 2 ^ 63) (hb : b < 2 ^ 63) : nL a % nL b = nL (a % b) := by
  have h1 : a % b < 2 ^ 63 := Nat.lt_of_le_of_lt (Nat.mod_le _ _) ha
  rw [l_eq, Int64.toInt_mod, nL_tL ha, nL_tL hb, nL_tL h1]
  exact (Int.tmod_eq_emod_of_nonneg (by omega)).trans (by omega)
theorem half_mod {b r : Nat} (h : r < b) (h0 : 0 < r) : 2 * (b % r) < b := by
  have h1 := Nat.mod_lt b h0
  have h2 := Nat.div_add_mod b r
  have h3 : 1 ≤ b / r := Nat.div_pos (by omega) h0
  have h4 : r * 1 ≤ r * (b / r) := Nat.mul_le_mul_left r h3
  omega
theorem P_low {above below : Int64} {part : Int32} {v : Vv} {Q : Int64 → Vv → Prop} : ∀ k a b i : Nat, a < 2 ^ 63 → b < 2 ^ 63 → b < 2 ^ k → i + 2 * k + 1 ≤ 200 → k_P_lowest_45 above below part (nL (Nat.gcd a b)) v Q → k_P_lowest_9 above below part (nL a) (nL b) (nI i) v Q := by
  have i200 : ∀ i : Nat, i < 200 → nI i < (200 : Int32) := fun i h => by rw [show (200 : Int32) = nI 200 from rfl]; exact nI_lt h (by decide)
  have hstop : ∀ a i : Nat, i < 200 → k_P_lowest_45 above below part (nL a) v Q → k_P_lowest_9 above below part (nL a) (nL 0) (nI i) v Q := fun a i hi h => by
    refine s_P_lowest_9 ?_
    rw [if_pos (i200 i hi), if_pos (show nL 0 = 0 from rfl)]
    exact h
  have hgo : ∀ a b i : Nat, a < 2 ^ 63 → b < 2 ^ 63 → b ≠ 0 → i < 200 → k_P_lowest_9 above below part (nL b) (nL (a % b)) (nI (i + 1)) v Q → k_P_lowest_9 above below part (nL a) (nL b) (nI i) v Q := fun a b i ha hb hb0 hi h => by
    refine s_P_lowest_9 ?_
    have hz : nL b ≠ 0 := fun z => hb0 ((nL_z hb).mp z)
    rw [if_pos (i200 i hi), if_neg hz, nL_mod ha hb, nI_1]
    exact ⟨hz, h⟩
  intro k
  induction k with
  | zero =>
    intro a b i ha hb hk hi h
    obtain rfl : b = 0 := by omega
    rw [Nat.gcd_zero_right] at h
    exact hstop a i (by omega) h
  | succ k ih =>
    intro a b i ha hb hk hi h
    by_cases b0 : b = 0
    · subst b0
      rw [Nat.gcd_zero_right] at h
      exact hstop a i (by omega) h
    · refine hgo a b i ha hb b0 (by omega) ?_
      have hr := Nat.mod_lt a (show b > 0 by omega)
      have e1 : Nat.gcd a b = Nat.gcd b (a % b) := by rw [Nat.gcd_comm a b, Nat.gcd_rec b a, Nat.gcd_comm]
      rw [e1] at h
      by_cases r0 : a % b = 0
      · rw [r0] at h ⊢
        rw [Nat.gcd_zero_right] at h
        exact hstop b (i + 1) (by omega) h
      · have hh := half_mod hr (by omega)
        refine hgo b (a % b) (i + 1) hb (by omega) r0 (by omega) ?_
        have e2 : Nat.gcd b (a % b) = Nat.gcd (a % b) (b % (a % b)) := by rw [Nat.gcd_comm b (a % b), Nat.gcd_rec (a % b) b, Nat.gcd_comm]
        rw [e2] at h
        rw [Nat.pow_succ] at hk
        exact ih (a % b) (b % (a % b)) (i + 1 + 1) (by omega) (by omega) (by omega) (by omega) h
theorem M_low {above below : Int64} {part : Int32} {v : Vv} {Q : Int64 → Vv → Prop} : ∀ b a : Nat, a < 2 ^ 63 → b < 2 ^ 63 → (¬ nL (Nat.gcd a b) = 0 ∧ Q ((if part = 0 then above else below) / nL (Nat.gcd a b)) v) → k_M_lowest_6 above below part (nL a) (nL b) v Q := by
  intro b
  induction b using Nat.strongRecOn with
  | ind b ih =>
    intro a ha hb h
    refine s_M_lowest_6 ?_
    by_cases b0 : b = 0
    · subst b0
      rw [if_pos (show nL 0 = 0 from rfl)]
      rw [Nat.gcd_zero_right] at h
      by_cases p : part = 0
      · rw [if_pos p] at h ⊢; exact h
      · rw [if_neg p] at h ⊢; exact h
    · have hz : nL b ≠ 0 := fun z => b0 ((nL_z hb).mp z)
      rw [if_neg hz, nL_mod ha hb]
      refine ⟨hz, ?_⟩
      have hr := Nat.mod_lt a (show b > 0 by omega)
      have e1 : Nat.gcd a b = Nat.gcd b (a % b) := by rw [Nat.gcd_comm a b, Nat.gcd_rec b a, Nat.gcd_comm]
      rw [e1] at h
      exact ih (a % b) hr b hb (by omega) h
/-- lowest terms, when below is not 0 -/
def lowV (a b : Nat) (part : Int32) : Int64 := (if part = 0 then nL a else nL b) / nL (Nat.gcd a b)
theorem P_lowest {a b : Nat} {part : Int32} {v : Vv} {Q : Int64 → Vv → Prop} (ha : a < 2 ^ 63) (hb : b < 2 ^ 63) (h : Q (if b = 0 then -4611686018427387904 else lowV a b part) v) : m_P_lowest (nL a) (nL b) part v Q := by
  refine s_P_lowest (P_low 63 a b 0 ha hb hb (by decide) (s_P_lowest_45 ?_))
  by_cases b0 : b = 0
  · rw [if_pos b0] at h
    rw [if_pos ((nL_z hb).mpr b0)]
    exact h
  · rw [if_neg b0] at h
    have hg : 0 < Nat.gcd a b := Nat.gcd_pos_of_pos_right a (by omega)
    have hgb : Nat.gcd a b ≤ b := Nat.gcd_le_right a (by omega)
    have hz : nL (Nat.gcd a b) ≠ 0 := fun z => by have := (nL_z (by omega)).mp z; omega
    rw [if_neg (fun z => b0 ((nL_z hb).mp z)), if_neg hz]
    exact ⟨hz, h⟩
theorem M_lowest {a b : Nat} {part : Int32} {v : Vv} {Q : Int64 → Vv → Prop} (ha : a < 2 ^ 63) (hb : b < 2 ^ 63) (b0 : b ≠ 0) (h : Q (lowV a b part) v) : m_M_lowest (nL a) (nL b) part v Q := by
  have hg : 0 < Nat.gcd a b := Nat.gcd_pos_of_pos_right a (by omega)
  have hgb : Nat.gcd a b ≤ b := Nat.gcd_le_right a (by omega)
  have hz : nL (Nat.gcd a b) ≠ 0 := fun z => by have := (nL_z (by omega)).mp z; omega
  exact s_M_lowest (M_low b a ha hb ⟨hz, h⟩)
-- chances as counts
section CH
variable (A : Cf) (F : Rl) (n m : Nat)
def cameN (d : Nat) : Nat := (came A F d).toInt.toNat
def chN (w : Nat) : Nat → Nat
  | 0 => 1
  | d + 1 => chN w d * (if bt w d = true then cameN A F d else 100 - cameN A F d)
end CH
section CH2
variable {A : Cf} {F : Rl} {n m : Nat}
theorem clamp_rng {x a b : Int32} (h : a.toInt ≤ b.toInt) : a.toInt ≤ (clamp x a b).toInt ∧ (clamp x a b).toInt ≤ b.toInt := by
  unfold clamp
  by_cases c1 : x < a
  · rw [if_pos c1]; omega
  · rw [if_neg c1]
    by_cases c2 : b < x
    · rw [if_pos c2]; omega
    · rw [if_neg c2]
      rw [Int32.lt_iff_toInt_lt] at c1 c2
      omega
theorem came_rng (d : Nat) : 0 ≤ (came A F d).toInt ∧ (came A F d).toInt ≤ 100 := by
  have := clamp_rng (x := F 0 (nmv 0 (nI d) 0 0 0 (bitI (cwa A d)))) (a := 0) (b := 100) (by decide)
  rw [t_0, t_100] at this
  exact this
theorem chN_le (w : Nat) : ∀ d, chN A F w d ≤ 100 ^ d
  | 0 => Nat.le_refl _
  | d + 1 => by
    have h1 := chN_le w d
    have h2 := came_rng (A := A) (F := F) d
    have h3 : (if bt w d = true then cameN A F d else 100 - cameN A F d) ≤ 100 := by
      unfold cameN
      split <;> omega
    exact Nat.mul_le_mul h1 h3
theorem chc_N (w : Nat) : ∀ d, chc A F w d = nL (chN A F w d)
  | 0 => rfl
  | d + 1 => by
    have h1 := chc_N w d
    have h2 := came_rng (A := A) (F := F) d
    have e1 : (came A F d).toInt64 = nL (cameN A F d) := by
      rw [l_eq, Int32.toInt_toInt64, nL_tL (by unfold cameN; omega)]
      unfold cameN
      omega
    have e2 : (100 - came A F d).toInt64 = nL (100 - cameN A F d) := by
      rw [l_eq, Int32.toInt_toInt64, nL_tL (by unfold cameN; omega), Int32.toInt_sub, t_100, Int.bmod_eq_of_le (by omega) (by omega)]
      unfold cameN
      omega
    show chc A F w d * (if bt w d = true then (came A F d).toInt64 else (100 - came A F d).toInt64) = nL (chN A F w d * (if bt w d = true then cameN A F d else 100 - cameN A F d))
    rw [h1, e1, e2, ← nL_mul]
    split <;> rfl
theorem chN_small (hA : OK A n m) (w : Nat) : chN A F w m ≤ 10000000000 := by
  have h1 := chN_le (A := A) (F := F) w m
  have h2 : 100 ^ m ≤ 100 ^ 5 := Nat.pow_le_pow_right (by decide) hA.2.1
  omega
/-- the sum of f over the first worlds -/
def sumN (f : Nat → Nat) : Nat → Nat
  | 0 => 0
  | w + 1 => sumN f w + f w
theorem sumN_le {f : Nat → Nat} {b : Nat} (h : ∀ w, f w ≤ b) : ∀ w, sumN f w ≤ b * w
  | 0 => Nat.le_refl _
  | w + 1 => by
    have := sumN_le h w
    have h2 := h w
    unfold sumN
    rw [Nat.mul_succ]
    omega
theorem sumN_congr {f g : Nat → Nat} : ∀ {w : Nat}, (∀ x, x < w → f x = g x) → sumN f w = sumN g w
  | 0, _ => rfl
  | w + 1, h => by
    unfold sumN
    rw [sumN_congr (w := w) (fun x hx => h x (by omega)), h w (by omega)]
noncomputable def fitN (A : Cf) (F : Rl) (n m w : Nat) : Nat := if fit A F n m w = true then chN A F w m else 0
theorem allc_N : ∀ w, allc A F n m w = nL (sumN (fitN A F n m) w)
  | 0 => rfl
  | w + 1 => by
    have h1 := allc_N w
    show allc A F n m w + (if fit A F n m w = true then chc A F w m else 0) = nL (sumN (fitN A F n m) w + fitN A F n m w)
    rw [h1, ← nL_add, chc_N]
    unfold fitN
    split <;> rfl
theorem fitN_small (hA : OK A n m) (w : Nat) : fitN A F n m w ≤ 10000000000 := by
  have := chN_small (F := F) hA w
  unfold fitN
  split <;> omega
theorem all_small (hA : OK A n m) (w : Nat) (hw : w ≤ 32) : sumN (fitN A F n m) w < 2 ^ 40 := by
  have h1 := sumN_le (fitN_small (F := F) hA) w
  have h2 : 10000000000 * w ≤ 10000000000 * 32 := Nat.mul_le_mul_left _ hw
  omega
end CH2
