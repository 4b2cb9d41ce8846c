theorem sub1_toInt {x : Int32} (h : 0 ≤ x.toInt) : (x - 1).toInt = x.toInt - 1 := by
  have := Int32.toInt_lt x
  rw [Int32.toInt_sub, t_1, Int.bmod_eq_of_le (by omega) (by omega)]
theorem RS.sz {v : Vv} (h : RS v) {s : Nat} (hs : s < 4) : 0 ≤ (v.1 (146 + 2 * s) 2).toInt ∧ (v.1 (146 + 2 * s) 2).toInt ≤ 40 := (h s hs).2
theorem RS_cell {v : Vv} (h : RS v) {s : Nat} (hs : s < 4) {k : Nat} (hk : (k : Int) < (v.1 (146 + 2 * s) 2).toInt) (x : Int32) : RS (sI (sI v (146 + 2 * s + 1) k x) 176 (40 * s + k) x) ∧ FS v (sI (sI v (146 + 2 * s + 1) k x) 176 (40 * s + k) x) := by
  have rd : ∀ a b, (sI (sI v (146 + 2 * s + 1) k x) 176 (40 * s + k) x).1 a b = if a = 176 ∧ b = 40 * s + k then x else if a = 146 + 2 * s + 1 ∧ b = k then x else v.1 a b := fun a b => by rw [sI_at, sI_at]
  have hz := h.sz hs
  refine ⟨fun q hq => ?_, fun i j hij => ?_, rfl⟩
  · have h1 := h q hq
    unfold RS1 at h1 ⊢
    have r1 := rd 173 q
    have r2 := rd (146 + 2 * q) 1
    have r3 := rd 174 q
    have r4 := rd 175 q
    have r5 := rd (146 + 2 * q) 2
    revert r1 r2 r3 r4 r5
    repeat (first | rw [if_neg (by omega)] | rw [if_pos (by omega)])
    intro r1 r2 r3 r4 r5
    rw [r1, r2, r3, r4, r5]
    refine ⟨h1.1.imp id fun ⟨a1, a2, a3, a4, a5⟩ => ⟨a1, a2, a3, a4, fun i hi => ?_⟩, h1.2⟩
    have := h1.2
    rw [rd, rd]
    by_cases e : q = s ∧ i = k
    · repeat (first | rw [if_neg (by omega)] | rw [if_pos (by omega)])
    · rw [if_neg (by omega), if_neg (by omega), if_neg (by omega), if_neg (by omega)]
      exact a5 i hi
  · rw [rd]
    repeat (first | rw [if_neg (by omega)] | rw [if_pos (by omega)])
theorem cell_step {a b c : Int32} {v : Vv} (h : RS v) {Q : Int32 → Int32 → Vv → Prop} (hQ : ∀ r w, RS w → FS v w → Q r r w) : m_P_cell a b c v (fun r v1 => m_M_cell a b c v1 (fun r' v2 => Q r r' v2)) := by
  refine s_P_cell (P_isSheet ?_)
  by_cases ha : 0 ≤ a.toInt ∧ a.toInt < 4
  · obtain ⟨s, hs, rfl⟩ := nI_of3 (n := 4) ha.1 ha.2
    have hsh : isSheet (146 + 2 * s) := by
      have := isSheet_of (x := nI s) ha
      rwa [ix_nI (by omega)] at this
    have h1 := h s hs
    rw [decide_eq_true ha, if_pos rfl, ix_nI (by omega)]
    refine ⟨ib_nI hs (by decide), ?_⟩
    rcases h1 with ⟨⟨g1, g2⟩ | ⟨g1, g2, g3, g4, g5⟩, hz⟩
    · rw [if_pos g2]
      refine s_M_cell (M_isSheet ?_)
      rw [decide_eq_true ha, if_pos rfl, ix_nI (by omega)]
      refine ⟨ib_nI hs (by decide), ?_⟩
      rw [if_pos g1]
      exact hQ _ _ h (FS.rf v)
    · have hne : ¬ v.1 (146 + 2 * s) 1 = -1 := fun q => by rw [q] at g2; exact absurd g2.1 (by decide)
      rw [if_neg hne]
      refine S_holds hsh hz ?_
      rw [t_1]
      by_cases hb : 0 ≤ b.toInt ∧ b.toInt < (v.1 (146 + 2 * s) 2).toInt
      · rw [decide_eq_true (by omega), if_pos rfl]
        refine S_put hsh hz hb ?_
        refine s_M_cell (M_isSheet ?_)
        rw [decide_eq_true ha, if_pos rfl, ix_nI (by omega)]
        refine ⟨ib_nI hs (by decide), ?_⟩
        have rd : ∀ x y, x ≠ 146 + 2 * s + 1 → (sI v (146 + 2 * s + 1) (ix b) (kept (v.1 (146 + 2 * s) 1) c)).1 x y = v.1 x y := fun x y hxy => sI_cell _ _ _ _ hxy _
        rw [rd 173 s (by omega), g1, if_neg (by decide)]
        refine M_in ?_
        rw [rd 175 s (by omega), Int32.toInt_toInt64, Int32.toInt_toInt64, g4, sub1_toInt hz.1, l_0, decide_eq_true (by omega), if_pos rfl]
        have e1 : (40 : Int32) * nI s + b = nI (40 * s + ix b) := by
          rw [show (40 : Int32) = nI 40 from rfl, nI_mul, ← nI_ix hb.1, nI_add, ix_nI (by unfold ix; omega)]
        have e2 : ix b < 40 := by unfold ix; omega
        rw [e1, ix_nI (by omega)]
        refine ⟨ib_nI (by omega) (by decide), ?_⟩
        rw [rd 174 s (by omega), g3]
        obtain ⟨k1, k2⟩ := RS_cell h hs (k := ix b) (by unfold ix; omega) (kept (v.1 (146 + 2 * s) 1) c)
        exact hQ _ _ k1 k2
      · rw [decide_eq_false (by omega), if_neg (by decide)]
        refine s_M_cell (M_isSheet ?_)
        rw [decide_eq_true ha, if_pos rfl, ix_nI (by omega)]
        refine ⟨ib_nI hs (by decide), ?_⟩
        rw [g1, if_neg (by decide)]
        refine M_in ?_
        rw [Int32.toInt_toInt64, Int32.toInt_toInt64, g4, sub1_toInt hz.1, l_0, decide_eq_false (by omega), if_neg (by decide)]
        exact hQ _ _ h (FS.rf v)
  · rw [decide_eq_false ha, if_neg (by decide)]
    refine s_M_cell (M_isSheet ?_)
    rw [decide_eq_false ha, if_neg (by decide)]
    exact hQ _ _ h (FS.rf v)
-- copies: the reference moves one by one, up or down
def fcp (v w : Vv) (sp dp n : Nat) : Vv := (fun i k => if i = 176 ∧ dp ≤ k ∧ k < dp + n then w.1 176 (sp + (k - dp)) else v.1 i k, v.2)
/-- done so far, from below (up = false) or from above -/
def fcs (v : Vv) (up : Bool) (sp dp N i : Nat) : Vv := if up then (fun a k => if a = 176 ∧ dp + (N - i) ≤ k ∧ k < dp + N then v.1 176 (sp + (k - dp)) else v.1 a k, v.2) else (fun a k => if a = 176 ∧ dp ≤ k ∧ k < dp + i then v.1 176 (sp + (k - dp)) else v.1 a k, v.2)
theorem M_copy_loop {v : Vv} {s q i0 j0 N : Nat} {up : Bool} (hs : s < 4) (hq : q < 4) (h1 : i0 + N ≤ 40) (h2 : j0 + N ≤ 40) (hup : up = true ↔ s = q ∧ i0 < j0) {Q : Int32 → Vv → Prop} (h : Q (nI N) (fcs v up (40 * s + i0) (40 * q + j0) N N)) : ∀ j i : Nat, i + j = N → k_M_copy_121 (nI s) (nI i0) (nI q) (nI j0) (nI N) (bI up) (nI i) (fcs v up (40 * s + i0) (40 * q + j0) N i) Q
  | 0, i, e => by
    obtain rfl : i = N := e
    refine s_M_copy_121 ?_
    rw [if_neg (nI_nlt (Nat.le_refl _) (by omega))]
    exact h
  | j + 1, i, e => by
    refine s_M_copy_121 ?_
    rw [if_pos (nI_lt (by omega) (by omega))]
    have e0 : (if bI up = 0 then nI i else nI N - 1 - nI i) = nI (if up = true then N - 1 - i else i) := by
      cases up
      · rfl
      · rw [if_neg (by decide), if_pos rfl, show (1 : Int32) = nI 1 from rfl, nI_sub (by omega) (by omega), nI_sub (by omega) (by omega)]
    rw [e0]
    generalize hz : (if up = true then N - 1 - i else i) = z
    have hzN : z < N := by rw [← hz]; split <;> omega
    have e1 : (40 : Int32) * nI s + nI i0 + nI z = nI (40 * s + i0 + z) := by rw [show (40 : Int32) = nI 40 from rfl, nI_mul, nI_add, nI_add]
    have e2 : (40 : Int32) * nI q + nI j0 + nI z = nI (40 * q + j0 + z) := by rw [show (40 : Int32) = nI 40 from rfl, nI_mul, nI_add, nI_add]
    rw [e1, e2]
    refine ⟨ib_nI (by omega) (by decide), ib_nI (by omega) (by decide), ?_⟩
    rw [ix_nI (by omega), ix_nI (by omega), nI_1]
    have e3 : sI (fcs v up (40 * s + i0) (40 * q + j0) N i) 176 (40 * q + j0 + z) ((fcs v up (40 * s + i0) (40 * q + j0) N i).1 176 (40 * s + i0 + z)) = fcs v up (40 * s + i0) (40 * q + j0) N (i + 1) := by
      refine vv_ext (fun a k => ?_) (by unfold fcs; cases up <;> rfl)
      rw [sI_at]
      unfold fcs
      cases up
      · have hno : ¬ (s = q ∧ i0 < j0) := fun z => by have := hup.mpr z; cases this
        simp only [Bool.false_eq_true, if_false] at hz ⊢
        subst hz
        by_cases c1 : a = 176 ∧ k = 40 * q + j0 + i
        · rw [if_pos c1, if_neg (by omega), if_pos (by omega)]
          exact congrArg (v.1 176) (by omega)
        · rw [if_neg c1]
          by_cases c2 : a = 176 ∧ 40 * q + j0 ≤ k ∧ k < 40 * q + j0 + i
          · rw [if_pos c2, if_pos (by omega)]
          · rw [if_neg c2, if_neg (by omega)]
      · obtain ⟨rfl, hlt⟩ := hup.mp rfl
        simp only [if_true] at hz ⊢
        subst hz
        by_cases c1 : a = 176 ∧ k = 40 * s + j0 + (N - 1 - i)
        · rw [if_pos c1, if_neg (by omega), if_pos (by omega)]
          exact congrArg (v.1 176) (by omega)
        · rw [if_neg c1]
          by_cases c2 : a = 176 ∧ 40 * s + j0 + (N - i) ≤ k ∧ k < 40 * s + j0 + N
          · rw [if_pos c2, if_pos (by omega)]
          · rw [if_neg c2, if_neg (by omega)]
    rw [e3]
    exact M_copy_loop hs hq h1 h2 hup h j (i + 1) (by omega)
theorem fcs_0 (v : Vv) (up : Bool) (sp dp N : Nat) : fcs v up sp dp N 0 = v := by
  refine vv_ext (fun a k => ?_) (by unfold fcs; cases up <;> rfl)
  unfold fcs
  cases up
  · simp only [Bool.false_eq_true, if_false]; rw [if_neg (by omega)]
  · simp only [if_true]; rw [if_neg (by omega)]
theorem fcs_N (v : Vv) (up : Bool) (sp dp N : Nat) (a k : Nat) : (fcs v up sp dp N N).1 a k = if a = 176 ∧ dp ≤ k ∧ k < dp + N then v.1 176 (sp + (k - dp)) else v.1 a k := by
  unfold fcs
  cases up
  · rfl
  · simp only [if_true, Nat.sub_self, Nat.add_zero]
theorem copy_step {a b c d n : Int32} {v : Vv} (h : RS v) {Q : Int32 → Int32 → Vv → Prop} (hQ : ∀ r w, RS w → FS v w → Q r r w) : m_P_copy a b c d n v (fun r v1 => m_M_copy a b c d n v1 (fun r' v2 => Q r r' v2)) := by
  refine s_P_copy (P_isSheet ?_)
  by_cases ha : 0 ≤ a.toInt ∧ a.toInt < 4
  · rw [decide_eq_true ha, if_pos rfl]
    refine P_isSheet ?_
    by_cases hc : 0 ≤ c.toInt ∧ c.toInt < 4
    · rw [decide_eq_true hc, if_pos rfl]
      obtain ⟨s, hs, rfl⟩ := nI_of3 (n := 4) ha.1 ha.2
      obtain ⟨q, hq, rfl⟩ := nI_of3 (n := 4) hc.1 hc.2
      have hsh : isSheet (146 + 2 * s) := by
        have := isSheet_of (x := nI s) ha
        rwa [ix_nI (by omega)] at this
      have hqh : isSheet (146 + 2 * q) := by
        have := isSheet_of (x := nI q) hc
        rwa [ix_nI (by omega)] at this
      rw [ix_nI (by omega), ix_nI (by omega)]
      refine ⟨ib_nI hs (by decide), ib_nI hq (by decide), ?_⟩
      have hM : ∀ {w : Vv} {Q : Int32 → Vv → Prop}, (if w.1 173 s = 0 then Q (-11) w else if w.1 173 q = 0 then Q (-11) w else if w.1 174 s = w.1 174 q then (if n < 0 then Q (-12) w else if b < 0 then Q (-12) w else if d < 0 then Q (-12) w else if w.1 175 s - n < b then Q (-12) w else if w.1 175 q - n < d then Q (-12) w else k_M_copy_121 (nI s) b (nI q) d n (bI (if nI s = nI q then (if b < d then true else false) else false)) 0 w Q) else Q (-13) w) → m_M_copy (nI s) b (nI q) d n w Q := by
        intro w Q hh
        refine s_M_copy (M_isSheet ?_)
        rw [decide_eq_true ha, if_pos rfl]
        refine M_isSheet ?_
        rw [decide_eq_true hc, if_pos rfl, ix_nI (by omega), ix_nI (by omega)]
        refine ⟨ib_nI hs (by decide), ?_⟩
        by_cases z1 : w.1 173 s = 0
        · rw [if_pos z1] at hh ⊢; exact hh
        · rw [if_neg z1] at hh ⊢
          exact ⟨ib_nI hq (by decide), hh⟩
      obtain ⟨hs1, hzs⟩ := h s hs
      obtain ⟨hq1, hzq⟩ := h q hq
      rcases hs1 with ⟨g1, g2⟩ | ⟨g1, g2, g3, g4, g5⟩
      · rw [if_pos g2]
        refine hM ?_
        rw [if_pos g1]
        exact hQ _ _ h (FS.rf v)
      · have hne : ¬ v.1 (146 + 2 * s) 1 = -1 := fun z => by rw [z] at g2; exact absurd g2.1 (by decide)
        rw [if_neg hne]
        rcases hq1 with ⟨f1, f2⟩ | ⟨f1, f2, f3, f4, f5⟩
        · rw [if_pos f2]
          refine hM ?_
          rw [if_neg (by rw [g1]; decide), if_pos f1]
          exact hQ _ _ h (FS.rf v)
        · have hne2 : ¬ v.1 (146 + 2 * q) 1 = -1 := fun z => by rw [z] at f2; exact absurd f2.1 (by decide)
          rw [if_neg hne2]
          by_cases hso : v.1 (146 + 2 * s) 1 = v.1 (146 + 2 * q) 1
          · rw [if_pos hso]
            have key : ∀ {x : Int32} {t : Nat}, 0 ≤ (v.1 t 2).toInt ∧ (v.1 t 2).toInt ≤ 40 → 0 ≤ n.toInt → (v.1 t 2 - n).toInt = (v.1 t 2).toInt - n.toInt := by
              intro x t hz hn
              have := Int32.toInt_lt n
              rw [Int32.toInt_sub, Int.bmod_eq_of_le (by omega) (by omega)]
            have hM2 : ∀ {Q : Int32 → Vv → Prop}, (if n.toInt < 0 ∨ b.toInt < 0 ∨ d.toInt < 0 ∨ (v.1 (146 + 2 * s) 2).toInt < b.toInt + n.toInt ∨ (v.1 (146 + 2 * q) 2).toInt < d.toInt + n.toInt then Q (-12) v else k_M_copy_121 (nI s) b (nI q) d n (bI (if nI s = nI q then (if b < d then true else false) else false)) 0 v Q) → m_M_copy (nI s) b (nI q) d n v Q := by
              intro Q hh
              refine hM ?_
              rw [if_neg (by rw [g1]; decide), if_neg (by rw [f1]; decide), if_pos (by rw [g3, f3]; exact hso), g4, f4]
              simp only [Int32.lt_iff_toInt_lt, t_0]
              by_cases z1 : n.toInt < 0
              · rw [if_pos z1]; rw [if_pos (Or.inl z1)] at hh; exact hh
              · rw [if_neg z1, key (x := b) hzs (by omega), key (x := b) hzq (by omega)]
                by_cases z2 : b.toInt < 0
                · rw [if_pos z2]; rw [if_pos (by omega)] at hh; exact hh
                · rw [if_neg z2]
                  by_cases z3 : d.toInt < 0
                  · rw [if_pos z3]; rw [if_pos (by omega)] at hh; exact hh
                  · rw [if_neg z3]
                    by_cases z4 : (v.1 (146 + 2 * s) 2).toInt - n.toInt < b.toInt
                    · rw [if_pos z4]; rw [if_pos (by omega)] at hh; exact hh
                    · rw [if_neg z4]
                      by_cases z5 : (v.1 (146 + 2 * q) 2).toInt - n.toInt < d.toInt
                      · rw [if_pos z5]; rw [if_pos (by omega)] at hh; exact hh
                      · rw [if_neg z5]; rw [if_neg (by omega)] at hh
                        simp only [Int32.lt_iff_toInt_lt] at hh
                        exact hh
            refine S_holds hsh hzs ?_
            by_cases k1 : 0 ≤ b.toInt ∧ 0 ≤ n.toInt ∧ b.toInt + n.toInt ≤ (v.1 (146 + 2 * s) 2).toInt
            · rw [decide_eq_true k1, if_pos rfl]
              refine S_holds hqh hzq ?_
              by_cases k2 : 0 ≤ d.toInt ∧ 0 ≤ n.toInt ∧ d.toInt + n.toInt ≤ (v.1 (146 + 2 * q) 2).toInt
              · rw [decide_eq_true k2, if_pos rfl]
                refine ⟨by omega, ?_⟩
                obtain ⟨i0, hi0, rfl⟩ := nI_of3 (x := b) (n := 41) k1.1 (by omega)
                obtain ⟨j0, hj0, rfl⟩ := nI_of3 (x := d) (n := 41) k2.1 (by omega)
                obtain ⟨N, hN, rfl⟩ := nI_of3 (x := n) (n := 41) k1.2.1 (by omega)
                rw [nI_tI (by omega), nI_tI (by omega)] at k1 k2
                generalize hw : sC v (146 + 2 * s + 1) (146 + 2 * q + 1) (nI i0) (nI j0) (nI N) = w
                have rw1 : ∀ x y, w.1 x y = if x = 146 + 2 * q + 1 ∧ j0 ≤ y ∧ y < j0 + N then v.1 (146 + 2 * s + 1) (i0 + (y - j0)) else v.1 x y := by
                  intro x y
                  rw [← hw]
                  unfold sC
                  rw [ix_nI (by omega), ix_nI (by omega), ix_nI (by omega)]
                have rw2 : w.2 = v.2 := by rw [← hw]; rfl
                have rw3 : ∀ x y, x ≠ 146 + 2 * q + 1 → w.1 x y = v.1 x y := fun x y hxy => by rw [rw1, if_neg (by omega)]
                refine hM ?_
                rw [rw3 173 s (by omega), rw3 173 q (by omega), rw3 174 s (by omega), rw3 174 q (by omega), rw3 175 s (by omega), rw3 175 q (by omega)]
                rw [if_neg (by rw [g1]; decide), if_neg (by rw [f1]; decide), if_pos (by rw [g3, f3]; exact hso), g4, f4]
                have hk1 := key (x := nI i0) (t := 146 + 2 * s) hzs (by rw [nI_tI (by omega)]; omega)
                have hk2 := key (x := nI i0) (t := 146 + 2 * q) hzq (by rw [nI_tI (by omega)]; omega)
                rw [nI_tI (by omega)] at hk1 hk2
                simp only [Int32.lt_iff_toInt_lt, t_0, hk1, hk2]
                rw [nI_tI (by omega), nI_tI (by omega), nI_tI (by omega)]
                rw [if_neg (by omega), if_neg (by omega), if_neg (by omega), if_neg (by omega), if_neg (by omega)]
                have hup : ∃ up : Bool, (if nI s = nI q then (if (i0 : Int) < j0 then true else false) else false) = up ∧ (up = true ↔ s = q ∧ i0 < j0) := by
                  refine ⟨_, rfl, ?_⟩
                  simp only [nI_eq (show s < 2 ^ 31 by omega) (show q < 2 ^ 31 by omega)]
                  by_cases z1 : s = q <;> by_cases z2 : i0 < j0 <;> simp [z1, z2] <;> omega
                obtain ⟨up, hu1, hu2⟩ := hup
                rw [hu1]
                have hL := M_copy_loop (v := w) (s := s) (q := q) (i0 := i0) (j0 := j0) (N := N) (up := up) hs hq (by omega) (by omega) hu2 (Q := fun r' v2 => Q (nI N) r' v2) ?_ N 0 (by omega)
                · rw [fcs_0] at hL
                  exact hL
                · generalize hx : fcs w up (40 * s + i0) (40 * q + j0) N N = x
                  have rx1 : ∀ a k, x.1 a k = if a = 176 ∧ 40 * q + j0 ≤ k ∧ k < 40 * q + j0 + N then w.1 176 (40 * s + i0 + (k - (40 * q + j0))) else w.1 a k := fun a k => by rw [← hx]; exact fcs_N w up _ _ N a k
                  have rx2 : x.2 = v.2 := by rw [← rw2, ← hx]; unfold fcs; cases up <;> rfl
                  have rx3 : ∀ a k, a ≠ 176 → a ≠ 146 + 2 * q + 1 → x.1 a k = v.1 a k := fun a k h1 h2 => by rw [rx1, if_neg (by omega), rw3 a k h2]
                  refine hQ _ _ (fun z hz => ?_) ⟨fun i k hik => rx3 i k (by omega) (by omega), rx2⟩
                  have h1 := h z hz
                  unfold RS1 at h1 ⊢
                  rw [rx3 173 z (by omega) (by omega), rx3 (146 + 2 * z) 1 (by omega) (by omega), rx3 174 z (by omega) (by omega), rx3 175 z (by omega) (by omega), rx3 (146 + 2 * z) 2 (by omega) (by omega)]
                  refine ⟨h1.1.imp id fun ⟨a1, a2, a3, a4, a5⟩ => ⟨a1, a2, a3, a4, fun i hi => ?_⟩, h1.2⟩
                  have hz1 := h1.2
                  by_cases e : z = q ∧ j0 ≤ i ∧ i < j0 + N
                  · obtain ⟨rfl, e1, e2⟩ := e
                    rw [rx1, if_pos (by omega), rx1, if_neg (by omega), rw3 _ _ (by omega), rw1, if_pos (by omega)]
                    have := g5 (i0 + (i - j0)) (by omega)
                    rw [← this]
                    exact congrArg (v.1 176) (by omega)
                  · rw [rx1, if_neg (by omega), rw3 _ _ (by omega), rx1, if_neg (by omega), rw1, if_neg (by omega)]
                    exact a5 i hi
              · rw [decide_eq_false k2, if_neg (by decide)]
                refine hM2 ?_
                rw [if_pos (by omega)]
                exact hQ _ _ h (FS.rf v)
            · rw [decide_eq_false k1, if_neg (by decide)]
              refine hM2 ?_
              rw [if_pos (by omega)]
              exact hQ _ _ h (FS.rf v)
          · rw [if_neg hso]
            refine hM ?_
            rw [if_neg (by rw [g1]; decide), if_neg (by rw [f1]; decide), if_neg (by rw [g3, f3]; exact hso)]
            exact hQ _ _ h (FS.rf v)
    · rw [decide_eq_false hc, if_neg (by decide)]
      refine s_M_copy (M_isSheet ?_)
      rw [decide_eq_true ha, if_pos rfl]
      refine M_isSheet ?_
      rw [decide_eq_false hc, if_neg (by decide)]
      exact hQ _ _ h (FS.rf v)
  · rw [decide_eq_false ha, if_neg (by decide)]
    refine s_M_copy (M_isSheet ?_)
    rw [decide_eq_false ha, if_neg (by decide)]
    exact hQ _ _ h (FS.rf v)
