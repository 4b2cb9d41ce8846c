-- reading behind writes; what is scratch
theorem sI_at (v : Vv) (i k : Nat) (x : Int32) (a b : Nat) : (sI v i k x).1 a b = if a = i ∧ b = k then x else v.1 a b := rfl
theorem sI_2 (v : Vv) (i k : Nat) (x : Int32) : (sI v i k x).2 = v.2 := rfl
theorem sJ_at (v : Vv) (i k : Nat) (x : Int64) (a b : Nat) : (sJ v i k x).2.1 a b = if a = i ∧ b = k then x else v.2.1 a b := rfl
theorem sJ_1 (v : Vv) (i k : Nat) (x : Int64) : (sJ v i k x).1 = v.1 := rfl
theorem sI_same (v : Vv) (i k : Nat) (x : Int32) : (sI v i k x).1 i k = x := u2_same _ _ _ _
theorem sI_cell (v : Vv) (i k : Nat) (x : Int32) {a : Nat} (h : a ≠ i) (b : Nat) : (sI v i k x).1 a b = v.1 a b := u2_cell _ _ _ h b
theorem sI_slot (v : Vv) (i k : Nat) (x : Int32) {b : Nat} (h : b ≠ k) (a : Nat) : (sI v i k x).1 a b = v.1 a b := u2_slot _ _ _ h a
theorem vv_ext {v w : Vv} (h1 : ∀ a b, v.1 a b = w.1 a b) (h2 : v.2 = w.2) : v = w := Prod.ext (funext fun a => funext fun b => h1 a b) h2
/-- scratch: what no answer rests on -/
def scr (i k : Nat) : Bool :=
  (decide (88 ≤ i ∧ i ≤ 91)) || decide (108 ≤ i ∧ i ≤ 120) || decide (i = 73) || decide (165 ≤ i ∧ i ≤ 170) ||
  (decide (i = 154) && (decide (16 ≤ k ∧ k ≤ 30) || decide (37 ≤ k ∧ k ≤ 39))) ||
  (decide (122 ≤ i ∧ i ≤ 145) && ((decide ((i - 122) % 4 = 0) && decide (k = 4)) || decide ((i - 122) % 4 = 3)))
/-- the rows of all worlds that are kept till something changes -/
def cch (i k : Nat) : Bool := decide (2 ≤ i ∧ i ≤ 72) || (decide (i = 1) && decide (10 ≤ k ∧ k ≤ 12))
/-- all stays but what is scratch -/
def KP (v w : Vv) : Prop := (∀ i k, scr i k = false → w.1 i k = v.1 i k) ∧ (∀ k, w.2.1 71 k = v.2.1 71 k) ∧ w.2.1 1 11 = v.2.1 1 11 ∧ w.2.2 = v.2.2
/-- all stays but what is scratch, and the kept rows of the worlds -/
def KC (v w : Vv) : Prop := ∀ i k, scr i k = false → cch i k = false → w.1 i k = v.1 i k
theorem KP.rf (v : Vv) : KP v v := ⟨fun _ _ _ => rfl, fun _ => rfl, rfl, rfl⟩
theorem KP.tr {u v w : Vv} (h1 : KP u v) (h2 : KP v w) : KP u w := ⟨fun i k h => (h2.1 i k h).trans (h1.1 i k h), fun k => (h2.2.1 k).trans (h1.2.1 k), h2.2.2.1.trans h1.2.2.1, h2.2.2.2.trans h1.2.2.2⟩
theorem KP.kc {v w : Vv} (h : KP v w) : KC v w := fun i k h1 _ => h.1 i k h1
theorem KC.rf (v : Vv) : KC v v := fun _ _ _ _ => rfl
theorem KC.tr {u v w : Vv} (h1 : KC u v) (h2 : KC v w) : KC u w := fun i k a b => (h2 i k a b).trans (h1 i k a b)
theorem KP.sI {v w : Vv} (h : KP v w) {i k : Nat} (hs : scr i k = true) (x : Int32) : KP v (sI w i k x) := by
  refine ⟨fun a b hab => ?_, h.2.1, h.2.2.1, h.2.2.2⟩
  rw [sI_at, if_neg]
  · exact h.1 a b hab
  · rintro ⟨rfl, rfl⟩
    rw [hs] at hab
    cases hab
theorem KP.sJ {v w : Vv} (h : KP v w) {i k : Nat} (hs : i ≠ 71 ∧ (i ≠ 1 ∨ k ≠ 11)) (x : Int64) : KP v (sJ w i k x) := by
  refine ⟨h.1, fun b => ?_, ?_, h.2.2.2⟩
  · rw [sJ_at, if_neg (fun q => hs.1 q.1.symm)]
    exact h.2.1 b
  · rw [sJ_at, if_neg (fun q => by rcases hs.2 with z | z; exact z q.1.symm; exact z q.2.symm)]
    exact h.2.2.1
/-- n first items of a row become 0 -/
def fz (v : Vv) (a n : Nat) : Vv := (fun i k => if i = a ∧ k < n then 0 else v.1 i k, v.2)
theorem fz_at (v : Vv) (a n i k : Nat) : (fz v a n).1 i k = if i = a ∧ k < n then 0 else v.1 i k := rfl
theorem fz_0 (v : Vv) (a : Nat) : fz v a 0 = v := vv_ext (fun i k => by rw [fz_at, if_neg (by omega)]) rfl
theorem fz_succ (v : Vv) (a n : Nat) : sI (fz v a n) a n 0 = fz v a (n + 1) := vv_ext (fun i k => by
  rw [sI_at, fz_at, fz_at]
  by_cases h1 : i = a ∧ k = n
  · rw [if_pos h1, if_pos (by omega)]
  · rw [if_neg h1]
    by_cases h2 : i = a ∧ k < n
    · rw [if_pos h2, if_pos (by omega)]
    · rw [if_neg h2, if_neg (by omega)]) rfl
-- the class's sheets
theorem isSheet_of {x : Int32} (h : 0 ≤ x.toInt ∧ x.toInt < 4) : isSheet (146 + 2 * ix x) := el_sh_k (x := x) h 
def sBecome (v : Vv) (t : Nat) (so n : Int32) : Vv := fz (sI (sI v t 1 so) t 2 (clamp n 0 40)) (t + 1) 40
theorem S_become_loop {t : Nat} (ht : isSheet t) {v : Vv} {Q : Vv → Prop} (h : Q (fz v (t + 1) 40)) : ∀ j i : Nat, i + j = 40 → k_S_become_21 t (nI i) (fz v (t + 1) i) Q
  | 0, i, e => by
    obtain rfl : i = 40 := e
    refine s_S_become_21 ⟨ht, ?_⟩
    rw [if_neg (by decide)]
    exact h
  | j + 1, i, e => by
    refine s_S_become_21 ⟨ht, ?_⟩
    rw [if_pos (by rw [show (40 : Int32) = nI 40 from rfl]; exact nI_lt (by omega) (by decide))]
    refine ⟨ib_nI (by omega) (by decide), ?_⟩
    rw [ix_nI (by omega), fz_succ, nI_1]
    exact S_become_loop ht h j (i + 1) (by omega)
theorem S_become {t : Nat} (ht : isSheet t) {so n : Int32} {v : Vv} {Q : Vv → Prop} (h : Q (sBecome v t so n)) : m_S_become t so n v Q := by
  refine s_S_become ⟨ht, P_bounded (by decide) ?_⟩
  have h2 := S_become_loop ht h 40 0 rfl
  rw [fz_0] at h2
  exact h2
theorem S_holds {t : Nat} (ht : isSheet t) {i n : Int32} {v : Vv} {Q : Bool → Vv → Prop} (hsz : 0 ≤ (v.1 t 2).toInt ∧ (v.1 t 2).toInt ≤ 40) (h : Q (decide (0 ≤ i.toInt ∧ 0 ≤ n.toInt ∧ i.toInt + n.toInt ≤ (v.1 t 2).toInt)) v) : m_S_holds t i n v Q := by
  refine s_S_holds ?_
  simp only [Int32.lt_iff_toInt_lt, Int32.le_iff_toInt_le, Int64.lt_iff_toInt_lt, Int64.le_iff_toInt_le, Int32.toInt_toInt64, t_0, t_1, t_2, t_3, t_4, t_5, t_6, t_7, t_9, t_10, t_20, t_30, t_32, t_40, t_59, t_60, t_63, t_99, t_100, t_120, t_160, t_255, t_960, t_1439, t_1440, t_n1, t_n2, t_n3, t_n4, t_n11, t_n12, t_n13, t_n14, t_n120, t_n1000, t_n100000, t_n100, t_200]
  have hi := Int32.toInt_lt i
  have hn := Int32.toInt_lt n
  split
  · rw [decide_eq_false (by omega)] at h; exact h
  · split
    · rw [decide_eq_false (by omega)] at h; exact h
    · refine ⟨ht, ?_⟩
      have e : (v.1 t 2 - i).toInt = (v.1 t 2).toInt - i.toInt := by
        rw [Int32.toInt_sub, Int.bmod_eq_of_le (by omega) (by omega)]
      have e2 : (if (v.1 t 2 - i).toInt < n.toInt then false else true) = decide (0 ≤ i.toInt ∧ 0 ≤ n.toInt ∧ i.toInt + n.toInt ≤ (v.1 t 2).toInt) := by
        rw [e]
        split
        · rw [decide_eq_false (by omega)]
        · rw [decide_eq_true (by omega)]
      rw [e2]; exact h
/-- a number as a row of that sort keeps it -/
def kept (so x : Int32) : Int32 := if so = 0 then x.toInt8.toInt32 else if so = 1 then x.toInt16.toInt32 else x
theorem S_put {t : Nat} (ht : isSheet t) {i x : Int32} {v : Vv} {Q : Vv → Prop} (hsz : 0 ≤ (v.1 t 2).toInt ∧ (v.1 t 2).toInt ≤ 40) (hi : 0 ≤ i.toInt ∧ i.toInt < (v.1 t 2).toInt) (h : Q (sI v (t + 1) (ix i) (kept (v.1 t 1) x))) : m_S_put t i x v Q := by
  refine s_S_put ⟨ht, S_holds ht hsz ?_⟩
  rw [decide_eq_true (by rw [t_1]; omega)]
  have hb : ib i 40 := by rw [ib_iff]; omega
  unfold kept at h
  rw [if_pos rfl]
  by_cases h0 : v.1 t 1 = 0
  · rw [if_pos h0]; rw [if_pos h0] at h; exact ⟨hb, h⟩
  · rw [if_neg h0]; rw [if_neg h0] at h
    by_cases h1 : v.1 t 1 = 1
    · rw [if_pos h1]; rw [if_pos h1] at h; exact ⟨hb, h⟩
    · rw [if_neg h1]; rw [if_neg h1] at h; exact ⟨hb, h⟩
