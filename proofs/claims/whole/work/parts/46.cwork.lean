-- days, times, and all worlds worked out
theorem xor_neg (x y : Int32) : (x ^^^ y).toInt < 0 ↔ ¬ (x.toInt < 0 ↔ y.toInt < 0) := by
  have h : ∀ z : Int32, z.toBitVec.msb = decide (z.toInt < 0) := fun z => BitVec.msb_eq_toInt
  have e : (x ^^^ y).toBitVec.msb = (x.toBitVec.msb ^^ y.toBitVec.msb) := by
    rw [Int32.toBitVec_xor, BitVec.msb_xor]
  rw [h, h, h] at e
  by_cases a : x.toInt < 0 <;> by_cases b : y.toInt < 0 <;> by_cases c : (x ^^^ y).toInt < 0 <;> simp [a, b, c] at e ⊢
theorem day_val (x : Int32) : (day x).toInt = if x.toInt.tmod 1440 < 0 then x.toInt.tmod 1440 + 1440 else x.toInt.tmod 1440 := by
  have e1440 : (1440 : Int32).toInt = 1440 := by decide
  have h1 := Int.tmod_lt_of_pos x.toInt (b := 1440) (by decide)
  have h2 : -1440 < x.toInt.tmod 1440 := by
    have := Int.tmod_lt_of_pos (-x.toInt) (b := 1440) (by decide)
    rw [Int.neg_tmod] at this
    omega
  unfold day
  rw [Int32.toInt_mod, Int32.toInt_add, Int32.toInt_mod, e1440]
  generalize x.toInt.tmod 1440 = r at *
  rw [Int.bmod_eq_of_le (by omega) (by omega), Int.tmod_eq_emod_of_nonneg (by omega)]
  split <;> omega
theorem day_in (x : Int32) : 0 ≤ (day x).toInt ∧ (day x).toInt < 1440 := by
  have h1 := Int.tmod_lt_of_pos x.toInt (b := 1440) (by decide)
  have h2 : -1440 < x.toInt.tmod 1440 := by
    have := Int.tmod_lt_of_pos (-x.toInt) (b := 1440) (by decide)
    rw [Int.neg_tmod] at this
    omega
  rw [day_val]
  split <;> omega
theorem JM_day {x : Int32} {v : Vv} {Q : Int32 → Vv → Prop} (h : Q (day x) v) : m_JM_floorMod x 1440 v Q := by
  have e1440 : (1440 : Int32).toInt = 1440 := by decide
  have h1 := Int.tmod_lt_of_pos x.toInt (b := 1440) (by decide)
  have h2 : -1440 < x.toInt.tmod 1440 := by
    have := Int.tmod_lt_of_pos (-x.toInt) (b := 1440) (by decide)
    rw [Int.neg_tmod] at this
    omega
  have h3 : 0 ≤ x.toInt → 0 ≤ x.toInt.tmod 1440 := fun q => Int.tmod_nonneg _ q
  have h4 : x.toInt < 0 → x.toInt.tmod 1440 ≤ 0 := fun q => by
    have := Int.tmod_nonneg (a := -x.toInt) 1440 (by omega)
    rw [Int.neg_tmod] at this
    omega
  have em : (x % 1440).toInt = x.toInt.tmod 1440 := by rw [Int32.toInt_mod, e1440]
  have ed : day x = if x.toInt.tmod 1440 < 0 then x % 1440 + 1440 else x % 1440 := by
    rw [i_eq, day_val]
    split
    · rw [Int32.toInt_add, em, e1440, Int.bmod_eq_of_le (by omega) (by omega)]
    · rw [em]
  refine s_JM_floorMod ⟨by decide, ?_⟩
  rw [ed] at h
  by_cases c : x.toInt < 0
  · rw [if_pos (by rw [Int32.lt_iff_toInt_lt, t_0, xor_neg, e1440]; omega)]
    by_cases z : x % 1440 = 0
    · rw [if_pos z]
      rw [if_neg (by rw [← em, z, t_0]; decide)] at h
      exact h
    · rw [if_neg z]
      rw [if_pos] at h
      · exact h
      · have : (x % 1440).toInt ≠ 0 := fun y => z (i_eq.mpr y)
        rw [em] at this
        have := h4 c
        omega
  · rw [if_neg (by rw [Int32.lt_iff_toInt_lt, t_0, xor_neg, e1440]; omega)]
    rw [if_neg (by have := h3 (by omega); omega)] at h
    exact h
section WORK
variable {A : Cf} {F : Rl} {n m w : Nat}
theorem tmf_no {c : Nat} (h : (tmf A F n m w c).2 = false) : ∀ j, (tmf A F n m w (c + j)).2 = false
  | 0 => h
  | j + 1 => by
    have h1 := tmf_no h j
    show (tmf A F n m w (c + j + 1)).2 = false
    unfold tmf
    by_cases q : csa A (c + j) = -1
    · rw [if_pos q]; exact h1
    · rw [if_neg q, h1]; rfl
theorem tmf_time (c : Nat) : (tmf A F n m w c).1 = -1 ∨ 0 ≤ (tmf A F n m w c).1.toInt ∧ (tmf A F n m w c).1.toInt < 1440 := by
  induction c with
  | zero => exact Or.inl rfl
  | succ c ih =>
    unfold tmf
    by_cases q : csa A c = -1
    · rw [if_pos q]; exact ih
    · rw [if_neg q]; exact Or.inr (day_in _)
theorem C_time (hA : OK A n m) (hw : w < 32) {v : Vv} (hC : CA A n m v) (hR : RW w n (gone A F n w m).1 v) {Q : Int32 → Vv → Prop} (hQ : Q (if (tmf A F n m w n).2 = true then (tmf A F n m w n).1 else -2) v) : m_W_timeIn (nI w) v Q := by
  obtain ⟨h6, h5, -, -⟩ := id hA
  have key : ∀ j c : Nat, c + j = n → (tmf A F n m w c).2 = true → k_W_timeIn_4 (nI w) (tmf A F n m w c).1 (nI c) v Q := by
    intro j
    induction j with
    | zero =>
      intro c e ht
      obtain rfl : c = n := e
      refine s_W_timeIn_4 ?_
      rw [hC.1, if_neg (nI_nlt (Nat.le_refl _) (by omega))]
      rw [if_pos ht] at hQ
      exact hQ
    | succ j ih =>
      intro c e ht
      have ih := ih (c + 1) (by omega)
      have e0 : tmf A F n m w (c + 1) = if csa A c = -1 then tmf A F n m w c else (day (csa A c - wat A F n m w c + 60), (tmf A F n m w c).2 && (decide ((tmf A F n m w c).1 = -1) || decide ((tmf A F n m w c).1 = day (csa A c - wat A F n m w c + 60)))) := rfl
      refine s_W_timeIn_4 ?_
      rw [hC.1, if_pos (nI_lt (by omega) (by omega)), ix_nI (by omega), ix_nI (by omega), (hC.2.2.1 c (by omega)).2.2.2, (hR c (by omega)).1]
      refine ⟨ib_nI (by omega) (by decide), ?_⟩
      by_cases q : csa A c = -1
      · rw [if_pos q] at e0 ⊢
        refine s_W_timeIn_77 ?_
        rw [nI_1, ← e0]
        exact ih (by rw [e0]; exact ht)
      · rw [if_neg q] at e0 ⊢
        refine ⟨ib_nI hw (by decide), JM_day ?_⟩
        have hgo : (tmf A F n m w (c + 1)).2 = true → k_W_timeIn_74 (nI w) (nI c) (day (csa A c - wat A F n m w c + 60)) v Q := fun hz => by
          refine s_W_timeIn_74 (s_W_timeIn_77 ?_)
          rw [nI_1]
          have := ih hz
          rw [e0] at this
          exact this
        show (if (tmf A F n m w c).1 = -1 then k_W_timeIn_74 (nI w) (nI c) (day (csa A c - wat A F n m w c + 60)) v Q else if (tmf A F n m w c).1 = day (csa A c - wat A F n m w c + 60) then k_W_timeIn_74 (nI w) (nI c) (day (csa A c - wat A F n m w c + 60)) v Q else Q (-2) v)
        by_cases g1 : (tmf A F n m w c).1 = -1
        · rw [if_pos g1]
          exact hgo (by rw [e0, ht, decide_eq_true g1]; rfl)
        · rw [if_neg g1]
          by_cases g2 : (tmf A F n m w c).1 = day (csa A c - wat A F n m w c + 60)
          · rw [if_pos g2]
            exact hgo (by rw [e0, ht, decide_eq_true g2, Bool.or_true]; rfl)
          · rw [if_neg g2]
            have hf : (tmf A F n m w (c + 1)).2 = false := by rw [e0, ht, decide_eq_false g1, decide_eq_false g2]; rfl
            have hf2 := tmf_no hf j
            rw [show c + 1 + j = n by omega] at hf2
            rw [if_neg (by rw [hf2]; decide)] at hQ
            exact hQ
  exact s_W_timeIn (key n 0 (by omega) rfl)
theorem C_came (hA : OK A n m) {d : Nat} (hd : d < m) {v : Vv} (hC : CA A n m v) (hT : CT F v) {Q : Int32 → Vv → Prop} (hQ : ∀ v', FX AZ v v' → Q (came A F d) v') : m_W_howLikely (nI d) v Q := by
  obtain ⟨h6, h5, -, hD⟩ := id hA
  obtain ⟨-, -, q3⟩ := hD d hd
  have d3 := (hC.2.2.2 d hd).2.2
  refine s_W_howLikely ?_
  rw [ix_nI (by omega)]
  refine ⟨ib_nI (by omega) (by decide), D_rooms (isDoer_d (by omega)) (by rw [d3]; exact q3) ?_⟩
  rw [d3]
  exact C_says (q := 0) hT (by decide) fun w1 f1 => P_bounded (by decide) (hQ w1 f1)
noncomputable def fit (A : Cf) (F : Rl) (n m w : Nat) : Bool := (tmf A F n m w n).2
noncomputable def tim (A : Cf) (F : Rl) (n m w : Nat) : Int32 := if fit A F n m w = true then (tmf A F n m w n).1 else -1
noncomputable def allc (A : Cf) (F : Rl) (n m : Nat) : Nat → Int64
  | 0 => 0
  | w + 1 => allc A F n m w + if fit A F n m w = true then chc A F w m else 0
/-- what the class keeps of a world -/
def ROW (A : Cf) (F : Rl) (n m w : Nat) (v : Vv) : Prop := RW w n (gone A F n w m).1 v ∧ v.1 68 w = rgt A F n m w n ∧ v.2.1 71 w = chc A F w m ∧ v.1 69 w = (if fit A F n m w = true then 1 else 0) ∧ v.1 70 w = tim A F n m w
def FRESH (A : Cf) (F : Rl) (n m : Nat) (v : Vv) : Prop := v.1 1 10 = nI (2 ^ m) ∧ v.2.1 1 11 = allc A F n m (2 ^ m) ∧ (∀ d, d < m → v.1 72 d = came A F d) ∧ ∀ w, w < 2 ^ m → ROW A F n m w v
end WORK
