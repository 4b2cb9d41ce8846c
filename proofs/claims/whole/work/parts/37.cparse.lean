-- the class's reader keeps to the grammar
def AQ (i k : Nat) : Prop := i = 108 ∧ k = 4 ∨ i = 112 ∧ k = 3 ∨ i = 113
def AE (i k : Nat) : Prop := i = 112 ∧ k = 3 ∨ i = 113
theorem FX.eq {v w : Vv} (h : FX AE v w) : FX AQ v w := ⟨fun i k q => h.1 i k fun z => q (by unfold AE at z; unfold AQ; omega), h.2⟩
def RK (T : Nat → Int32) (c : Nat) (w : Vv) : Prop := c ≤ 160 ∧ w.1 108 3 = nI (c + 1) ∧ (∀ t, t ≤ c → w.1 109 t = T t) ∧ ∀ j, c ≤ j → T j = -1
theorem RK.fx {T : Nat → Int32} {c : Nat} {v w : Vv} (h : RK T c v) (f : FX AQ v w) : RK T c w := ⟨h.1, by rw [f.1 _ _ (by unfold AQ; omega)]; exact h.2.1, fun t ht => by rw [f.1 _ _ (by unfold AQ; omega)]; exact h.2.2.1 t ht, h.2.2.2⟩
def CD (w : Vv) (L : List Int32) : Prop := w.1 112 3 = nI L.length ∧ ∀ i, i < L.length → w.1 113 i = L.getD i 0
theorem CD.at {v w : Vv} {L : List Int32} (h : CD v L) (h1 : w.1 112 3 = v.1 112 3) (h2 : ∀ i, w.1 113 i = v.1 113 i) : CD w L := ⟨h1.trans h.1, fun i hi => (h2 i).trans (h.2 i hi)⟩
theorem CD.nx {v : Vv} {L : List Int32} (h : CD v L) (x : Int32) : CD (sI v 108 4 x) L := h.at (by rw [sI_cell _ _ _ _ (by decide)]) fun i => by rw [sI_cell _ _ _ _ (by decide)]
theorem nx_fx (v : Vv) (x : Int32) : FX AQ v (sI v 108 4 x) := (FX.rf _ _).sI (by unfold AQ; omega) _
theorem R_token {T : Nat → Int32} {c j : Nat} {v : Vv} (h : RK T c v) (hj : v.1 108 4 = nI j) (hjc : j ≤ c) {Q : Int32 → Vv → Prop} (hQ : Q (T j) v) : m_R_token v Q := by
  obtain ⟨h0, h1, h2, h3⟩ := h
  refine s_R_token ?_
  rw [hj, h1, if_pos (nI_lt (by omega) (by omega))]
  refine ⟨ib_nI (by omega) (by decide), ?_⟩
  rw [ix_nI (by omega), h2 j hjc]
  exact hQ
theorem R_accept {T : Nat → Int32} {c j : Nat} {v : Vv} (h : RK T c v) (hj : v.1 108 4 = nI j) (hjc : j ≤ c) {x : Int32} {Q : Bool → Vv → Prop} (h1 : T j = x → Q true (sI v 108 4 (nI (j + 1)))) (h2 : T j ≠ x → Q false v) : m_R_accept x v Q := by
  refine s_R_accept (R_token h hj hjc ?_)
  by_cases q : T j = x
  · rw [if_pos q, hj, nI_1]
    exact h1 q
  · rw [if_neg q]
    exact h2 q
theorem T_emit {v : Vv} {L : List Int32} (h : CD v L) (hl : L.length < 160) {x : Int32} {Q : Vv → Prop} (hQ : ∀ w, FX AE v w → CD w (L ++ [x]) → Q w) : m_T_emit 112 x v Q := by
  refine s_T_emit ⟨by unfold isText; decide, ?_⟩
  have e : (sI v (112 + 1) L.length x).1 112 3 = nI L.length := by rw [sI_cell _ _ _ _ (by decide)]; exact h.1
  rw [h.1, ix_nI (by omega), e, nI_1, if_pos (by rw [show (160 : Int32) = nI 160 from rfl]; exact nI_lt hl (by decide))]
  refine ⟨ib_nI hl (by decide), hQ _ (((FX.rf _ _).sI (by unfold AE; omega) _).sI (by unfold AE; omega) _) ⟨?_, fun i hi => ?_⟩⟩
  · rw [sI_same, List.length_append]
    rfl
  · rw [sI_cell _ _ _ _ (by decide)]
    rw [List.length_append] at hi
    have hi : i < L.length + 1 := hi
    by_cases q : i = L.length
    · subst q
      rw [sI_same, List.getD_eq_getElem?_getD, List.getElem?_append_right (Nat.le_refl _), Nat.sub_self]
      rfl
    · rw [sI_slot _ _ _ _ q, h.2 i (by omega), List.getD_eq_getElem?_getD, List.getD_eq_getElem?_getD, List.getElem?_append_left (by omega)]
def J (g d o i : Nat) (v : Vv) (Q : Bool → Vv → Prop) : Prop :=
  if g = 0 then m_R_one d (nI o) v Q
  else if g = 1 then m_R_comparison d (nI o) v Q
  else if g = 2 then m_R_denial d (nI o) v Q
  else if g = 3 then m_R_term d (nI o) v Q
  else if g = 4 then m_R_sum d (nI o) v Q
  else if g = 5 then m_R_every d (nI o) v Q
  else if g = 6 then m_R_any d (nI o) v Q
  else if g = 7 then k_R_term_12 d (nI o) (nI i) v Q
  else if g = 8 then m_R_token v (fun x v' => k_R_sum_17 d (nI o) x (nI i) v' Q)
  else if g = 9 then k_R_every_12 d (nI o) (nI i) v Q
  else k_R_any_12 d (nI o) (nI i) v Q
def hgt (g : Nat) : Nat := if g = 0 then 1 else if g = 3 then 2 else if g = 4 then 3 else if g = 1 then 4 else if g = 2 then 5 else if g = 5 then 6 else if g = 6 then 7 else if g = 7 then 1 else if g = 8 then 2 else if g = 9 then 5 else 6
def CR (c s : Nat) (pre : List Int32) (v : Vv) (r : Out) (Q : Bool → Vv → Prop) : Prop :=
  (∀ k, r = bad k → ∀ w, FX AQ v w → w.1 108 4 = nI k → k ≤ c → Q false w) ∧
  ∀ k e, r = ok k e → ∀ w, FX AQ v w → w.1 108 4 = nI k → k ≤ c → (pre ++ e.1).length + s ≤ k → CD w (pre ++ e.1) → Q true w
def CMot (T : Nat → Int32) (c o g : Nat) (e : Ex) (j : Nat) (r : Out) : Prop := ∀ (d i s : Nat) (v : Vv) (pre : List Int32) (Q : Bool → Vv → Prop), RK T c v → v.1 108 4 = nI j → j ≤ c → i ≤ j → (pre ++ e.1).length + s ≤ j → CD v (pre ++ e.1) → o ≤ 5 → 12 + 7 * (5 - o) + hgt g ≤ d → CR c s pre v r Q → J g d o i v Q
theorem CR.mk_bad {c s k : Nat} {pre : List Int32} {v : Vv} {Q : Bool → Vv → Prop} (h : ∀ w, FX AQ v w → w.1 108 4 = nI k → k ≤ c → Q false w) : CR c s pre v (bad k) Q := ⟨fun k2 q => by rw [← bad_inj q]; exact h, fun k2 e q => absurd q.symm ok_bad⟩
theorem CR.mk_ok {c s k : Nat} {e : Ex} {pre : List Int32} {v : Vv} {Q : Bool → Vv → Prop} (h : ∀ w, FX AQ v w → w.1 108 4 = nI k → k ≤ c → (pre ++ e.1).length + s ≤ k → CD w (pre ++ e.1) → Q true w) : CR c s pre v (ok k e) Q := ⟨fun k2 q => absurd q ok_bad, fun k2 e2 q => by obtain ⟨rfl, rfl⟩ := ok_inj q; exact h⟩
theorem CR.bad {c s k : Nat} {pre : List Int32} {v : Vv} {Q : Bool → Vv → Prop} (h : CR c s pre v (bad k) Q) {w : Vv} (f : FX AQ v w) (h4 : w.1 108 4 = nI k) (hk : k ≤ c) : Q false w := h.1 k rfl w f h4 hk
theorem CR.ok {c s k : Nat} {e : Ex} {pre : List Int32} {v : Vv} {Q : Bool → Vv → Prop} (h : CR c s pre v (ok k e) Q) {w : Vv} (f : FX AQ v w) (h4 : w.1 108 4 = nI k) (hk : k ≤ c) (hl : (pre ++ e.1).length + s ≤ k) (hc : CD w (pre ++ e.1)) : Q true w := h.2 k e rfl w f h4 hk hl hc
theorem apz (pre : List Int32) : pre ++ z0.1 = pre := List.append_nil pre
theorem one_no {T : Nat → Int32} {c j d o : Nat} {v : Vv} (h : RK T c v) (hj : v.1 108 4 = nI j) (hjc : j ≤ c) (hd : 12 ≤ d) {Q : Bool → Vv → Prop} (hn : ¬ isLf (T j)) (hQ : k_R_one_41 d (nI o) v Q) : m_R_one (d + 1) (nI o) v Q := by
  refine s_R_one hd (R_token h hj hjc ?_)
  unfold isLf at hn
  rw [if_pos (by rw [Int32.lt_iff_toInt_lt, t_100]; omega)]
  by_cases q : T j < 0
  · rw [if_pos q]; exact hQ
  · rw [if_neg q, if_neg]
    · exact hQ
    · rw [Int32.lt_iff_toInt_lt, t_0] at q
      rw [Int32.lt_iff_toInt_lt, t_6]
      omega
theorem one_yes {T : Nat → Int32} {c j d o : Nat} {v : Vv} (h : RK T c v) (hj : v.1 108 4 = nI j) (hjc : j ≤ c) (hd : 12 ≤ d) {Q : Bool → Vv → Prop} (hn : isLf (T j)) (hQ : k_R_one_21 d (T j) v Q) : m_R_one (d + 1) (nI o) v Q := by
  refine s_R_one hd (R_token h hj hjc ?_)
  unfold isLf at hn
  by_cases q : T j < 100
  · rw [if_pos q, if_neg, if_pos]
    · exact hQ
    · rw [Int32.lt_iff_toInt_lt, t_100] at q
      rw [Int32.lt_iff_toInt_lt, t_6]
      omega
    · rw [Int32.lt_iff_toInt_lt, t_100] at q
      rw [Int32.lt_iff_toInt_lt, t_0]
      omega
  · rw [if_neg q]
    exact hQ
theorem not_lf {x : Int32} (h : x = 40 ∨ x = 45) : ¬ isLf x := by
  unfold isLf
  rcases h with rfl | rfl <;> decide
theorem o_lt {o : Nat} (h : o < 5) : nI o < 5 := by rw [show (5 : Int32) = nI 5 from rfl]; exact nI_lt h (by decide)
theorem o_nlt {o : Nat} (h : 5 ≤ o) (h2 : o ≤ 5) : ¬ nI o < 5 := by rw [show (5 : Int32) = nI 5 from rfl]; exact nI_nlt h (by omega)
theorem lt_c {T : Nat → Int32} {c j : Nat} {v : Vv} (h : RK T c v) (hjc : j ≤ c) (hT : T j ≠ -1) : j < c := by
  by_cases e : j = c
  · exact absurd (h.2.2.2 j (by omega)) hT
  · omega
theorem ne_m1 {x y : Int32} (h : x = y) (hy : y ≠ -1) : x ≠ -1 := by rw [h]; exact hy
theorem C_ch {d o : Nat} {c : Nat} (hc : c < 4) (hd : 12 ≤ d) {v : Vv} {Q : Bool → Vv → Prop} (h : J (sub c) d o 0 v (fun b w => if b = true then J (7 + c) d o 0 w Q else Q false w)) : J (3 + c) (d + 1) o 0 v Q := by
  have : c = 0 ∨ c = 1 ∨ c = 2 ∨ c = 3 := by omega
  rcases this with rfl | rfl | rfl | rfl
  · exact s_R_term hd h
  · exact s_R_sum hd h
  · exact s_R_every hd h
  · exact s_R_any hd h
theorem C_lp {T : Nat → Int32} {c j d o i l : Nat} {v : Vv} (h : RK T c v) (hj : v.1 108 4 = nI j) (hjc : j ≤ c) (hi : i ≤ j) (hl : l < 4) (hd : 12 ≤ d) {Q : Bool → Vv → Prop} (h1 : isOp l (T j) → J (sub l) d o 0 (sI v 108 4 (nI (j + 1))) (fun b w => if b = true then m_T_emit 112 (T j) w (fun w2 => J (7 + l) d o (i + 1) w2 Q) else Q false w)) (h2 : ¬ isOp l (T j) → Q true v) : J (7 + l) d o i v Q := by
  have hi3 : nI i < v.1 108 3 := by rw [h.2.1]; have := h.1; exact nI_lt (by omega) (by omega)
  have : l = 0 ∨ l = 1 ∨ l = 2 ∨ l = 3 := by omega
  rcases this with rfl | rfl | rfl | rfl
  · refine s_R_term_12 hd ?_
    rw [if_pos hi3, nI_1]
    refine R_accept h hj hjc (fun q => ?_) fun q => ?_
    · rw [if_pos rfl]
      have h1 := h1 (Or.inl ⟨rfl, q⟩)
      rw [q] at h1
      exact h1
    · rw [if_neg (by decide)]
      exact h2 fun z => by unfold isOp at z; rcases z with z | z | z | z; exact q z.2; exact absurd z.1 (by decide); exact absurd z.1 (by decide); exact absurd z.1 (by decide)
  · have hop : T j = 43 ∨ T j = 45 → k_R_sum_43 d (nI o) (T j) (nI i) (sI v 108 4 (nI (j + 1))) Q := fun q => by
      refine s_R_sum_43 hd ?_
      rw [nI_1]
      exact h1 (Or.inr (Or.inl ⟨rfl, q⟩))
    refine R_token h hj hjc (s_R_sum_17 hd ?_)
    rw [if_pos hi3]
    refine R_accept h hj hjc (fun q => ?_) fun q => ?_
    · rw [if_pos rfl]
      exact hop (Or.inl q)
    · rw [if_neg (by decide)]
      refine R_accept h hj hjc (fun q => ?_) fun q2 => ?_
      · rw [if_pos rfl]
        exact hop (Or.inr q)
      · rw [if_neg (by decide)]
        exact h2 fun z => by unfold isOp at z; rcases z with z | z | z | z; exact absurd z.1 (by decide); exact z.2.elim q q2; exact absurd z.1 (by decide); exact absurd z.1 (by decide)
  · refine s_R_every_12 hd ?_
    rw [if_pos hi3, nI_1]
    refine R_accept h hj hjc (fun q => ?_) fun q => ?_
    · rw [if_pos rfl]
      have h1 := h1 (Or.inr (Or.inr (Or.inl ⟨rfl, q⟩)))
      rw [q] at h1
      exact h1
    · rw [if_neg (by decide)]
      exact h2 fun z => by unfold isOp at z; rcases z with z | z | z | z; exact absurd z.1 (by decide); exact absurd z.1 (by decide); exact q z.2; exact absurd z.1 (by decide)
  · refine s_R_any_12 hd ?_
    rw [if_pos hi3, nI_1]
    refine R_accept h hj hjc (fun q => ?_) fun q => ?_
    · rw [if_pos rfl]
      have h1 := h1 (Or.inr (Or.inr (Or.inr ⟨rfl, q⟩)))
      rw [q] at h1
      exact h1
    · rw [if_neg (by decide)]
      exact h2 fun z => by unfold isOp at z; rcases z with z | z | z | z; exact absurd z.1 (by decide); exact absurd z.1 (by decide); exact absurd z.1 (by decide); exact q z.2
theorem isOp_m1 {l : Nat} {x : Int32} (h : isOp l x) : x ≠ -1 := by
  unfold isOp at h
  rcases h with ⟨-, q⟩ | ⟨-, q | q⟩ | ⟨-, q⟩ | ⟨-, q⟩ <;> (rw [q]; decide)
theorem hgt_ch {l : Nat} (h : l < 4) : hgt (3 + l) = hgt (sub l) + 1 ∧ hgt (7 + l) = hgt (sub l) ∧ 1 ≤ hgt (sub l) := by
  have : l = 0 ∨ l = 1 ∨ l = 2 ∨ l = 3 := by omega
  rcases this with rfl | rfl | rfl | rfl <;> decide
theorem C_parse {T : Nat → Int32} {c o g : Nat} {e : Ex} {j : Nat} {r : Out} (h : Pr T o g e j r) : CMot T c o g e j r := by
  refine Pr_rec (P := CMot T c) ?_ ?_ ?_ ?_ ?_ ?_ ?_ ?_ ?_ ?_ ?_ ?_ ?_ ?_ ?_ ?_ ?_ ?_ ?_ ?_ ?_ h
  · intro o j a d i s v pre Q hK hj hjc hi hl hC ho hd hR
    have g0 : hgt 0 = 1 := rfl
    obtain ⟨d, rfl⟩ : ∃ d', d = d' + 1 := ⟨d - 1, by omega⟩
    rw [apz] at hl hC
    have hlt := lt_c hK hjc (fun z => by rw [z] at a; revert a; unfold isLf; decide)
    have h160 := hK.1
    refine one_yes hK hj hjc (by omega) a (s_R_one_21 (by omega) ?_)
    rw [hj, nI_1]
    refine T_emit (hC.nx _) (by omega) fun w f hw => ?_
    refine hR.ok ((nx_fx _ _).tr f.eq) ?_ (by omega) ?_ hw
    · rw [f.1 _ _ (by unfold AE; omega), sI_same]
    · rw [List.length_append]
      show _ + 1 + s ≤ _
      omega
  · intro o j a b d i s v pre Q hK hj hjc hi hl hC ho hd hR
    have g0 : hgt 0 = 1 := rfl
    obtain ⟨d, rfl⟩ : ∃ d', d = d' + 1 := ⟨d - 1, by omega⟩
    refine one_no hK hj hjc (by omega) a (s_R_one_41 (by omega) ?_)
    rw [if_neg (o_nlt b ho)]
    exact hR.bad (FX.rf _ _) hj hjc
  · intro o j a b c1 d1 d i s v pre Q hK hj hjc hi hl hC ho hd hR
    have g0 : hgt 0 = 1 := rfl
    obtain ⟨d, rfl⟩ : ∃ d', d = d' + 1 := ⟨d - 1, by omega⟩
    refine one_no hK hj hjc (by omega) a (s_R_one_41 (by omega) ?_)
    rw [if_pos (o_lt b)]
    refine R_accept hK hj hjc (fun q => absurd q c1) fun _ => ?_
    rw [if_neg (by decide)]
    refine R_accept hK hj hjc (fun q => absurd q d1) fun _ => ?_
    rw [if_neg (by decide)]
    exact hR.bad (FX.rf _ _) hj hjc
  · intro o j k a b p d i s v pre Q hK hj hjc hi hl hC ho hd hR
    have g0 : hgt 0 = 1 := rfl
    have g6 : hgt 6 = 7 := rfl
    obtain ⟨d, rfl⟩ : ∃ d', d = d' + 1 := ⟨d - 1, by omega⟩
    have hlt := lt_c hK hjc (ne_m1 a (by decide))
    refine one_no hK hj hjc (by omega) (not_lf (Or.inl a)) (s_R_one_41 (by omega) ?_)
    rw [if_pos (o_lt b)]
    refine R_accept hK hj hjc (fun _ => ?_) fun q => absurd a q
    rw [if_pos rfl, nI_1]
    refine p.2 d 0 s _ pre _ (hK.fx (nx_fx _ _)) (sI_same _ _ _ _) (by omega) (by omega) (by omega) (hC.nx _) (by omega) (by omega) (CR.mk_bad fun w f h4 hk => ?_)
    rw [if_neg (by decide)]
    exact hR.bad ((nx_fx _ _).tr f) h4 hk
  · intro o j k e a b p c1 d i s v pre Q hK hj hjc hi hl hC ho hd hR
    have g0 : hgt 0 = 1 := rfl
    have g6 : hgt 6 = 7 := rfl
    obtain ⟨d, rfl⟩ : ∃ d', d = d' + 1 := ⟨d - 1, by omega⟩
    have hlt := lt_c hK hjc (ne_m1 a (by decide))
    refine one_no hK hj hjc (by omega) (not_lf (Or.inl a)) (s_R_one_41 (by omega) ?_)
    rw [if_pos (o_lt b)]
    refine R_accept hK hj hjc (fun _ => ?_) fun q => absurd a q
    rw [if_pos rfl, nI_1]
    refine p.2 d 0 s _ pre _ (hK.fx (nx_fx _ _)) (sI_same _ _ _ _) (by omega) (by omega) (by omega) (hC.nx _) (by omega) (by omega) (CR.mk_ok fun w f h4 hk hlen hw => ?_)
    rw [if_pos rfl]
    have f2 := (nx_fx v (nI (j + 1))).tr f
    refine R_accept (hK.fx f2) h4 hk (fun q => absurd q c1) fun _ => ?_
    exact hR.bad f2 h4 hk
  · intro o j k e a b p c1 d i s v pre Q hK hj hjc hi hl hC ho hd hR
    have g0 : hgt 0 = 1 := rfl
    have g6 : hgt 6 = 7 := rfl
    obtain ⟨d, rfl⟩ : ∃ d', d = d' + 1 := ⟨d - 1, by omega⟩
    have hlt := lt_c hK hjc (ne_m1 a (by decide))
    refine one_no hK hj hjc (by omega) (not_lf (Or.inl a)) (s_R_one_41 (by omega) ?_)
    rw [if_pos (o_lt b)]
    refine R_accept hK hj hjc (fun _ => ?_) fun q => absurd a q
    rw [if_pos rfl, nI_1]
    refine p.2 d 0 s _ pre _ (hK.fx (nx_fx _ _)) (sI_same _ _ _ _) (by omega) (by omega) (by omega) (hC.nx _) (by omega) (by omega) (CR.mk_ok fun w f h4 hk hlen hw => ?_)
    rw [if_pos rfl]
    have f2 := (nx_fx v (nI (j + 1))).tr f
    have hkc := lt_c (hK.fx f2) hk (ne_m1 c1 (by decide))
    refine R_accept (hK.fx f2) h4 hk (fun _ => ?_) fun q => absurd c1 q
    exact hR.ok (f2.tr (nx_fx _ _)) (sI_same _ _ _ _) (by omega) (by omega) (hw.nx _)
  · intro o j k a b p d i s v pre Q hK hj hjc hi hl hC ho hd hR
    have g0 : hgt 0 = 1 := rfl
    obtain ⟨d, rfl⟩ : ∃ d', d = d' + 1 := ⟨d - 1, by omega⟩
    have hlt := lt_c hK hjc (ne_m1 a (by decide))
    refine one_no hK hj hjc (by omega) (not_lf (Or.inr a)) (s_R_one_41 (by omega) ?_)
    rw [if_pos (o_lt b)]
    refine R_accept hK hj hjc (fun q => absurd (q.symm.trans a) (by decide)) fun _ => ?_
    rw [if_neg (by decide)]
    refine R_accept hK hj hjc (fun _ => ?_) fun q => absurd a q
    rw [if_pos rfl, nI_1]
    refine p.2 d 0 s _ pre _ (hK.fx (nx_fx _ _)) (sI_same _ _ _ _) (by omega) (by omega) (by omega) (hC.nx _) (by omega) (by omega) (CR.mk_bad fun w f h4 hk => ?_)
    rw [if_neg (by decide)]
    exact hR.bad ((nx_fx _ _).tr f) h4 hk
  · intro o j k e a b p d i s v pre Q hK hj hjc hi hl hC ho hd hR
    have g0 : hgt 0 = 1 := rfl
    obtain ⟨d, rfl⟩ : ∃ d', d = d' + 1 := ⟨d - 1, by omega⟩
    have hlt := lt_c hK hjc (ne_m1 a (by decide))
    have h160 := hK.1
    refine one_no hK hj hjc (by omega) (not_lf (Or.inr a)) (s_R_one_41 (by omega) ?_)
    rw [if_pos (o_lt b)]
    refine R_accept hK hj hjc (fun q => absurd (q.symm.trans a) (by decide)) fun _ => ?_
    rw [if_neg (by decide)]
    refine R_accept hK hj hjc (fun _ => ?_) fun q => absurd a q
    rw [if_pos rfl, nI_1]
    refine p.2 d 0 (s + 1) _ pre _ (hK.fx (nx_fx _ _)) (sI_same _ _ _ _) (by omega) (by omega) (by omega) (hC.nx _) (by omega) (by omega) (CR.mk_ok fun w f h4 hk hlen hw => ?_)
    rw [if_pos rfl]
    refine T_emit hw (by omega) fun w2 f2 hw2 => ?_
    rw [List.append_assoc] at hw2
    refine hR.ok (((nx_fx _ _).tr f).tr f2.eq) ?_ hk ?_ hw2
    · rw [f2.1 _ _ (by unfold AE; omega)]; exact h4
    · show (pre ++ (e.1 ++ [12])).length + s ≤ k
      rw [← List.append_assoc, List.length_append]
      show _ + 1 + s ≤ _
      omega
  -- comparison
  · intro o j k p d i s v pre Q hK hj hjc hi hl hC ho hd hR
    have g0 : hgt 1 = 4 := rfl
    have g6 : hgt 4 = 3 := rfl
    obtain ⟨d, rfl⟩ : ∃ d', d = d' + 1 := ⟨d - 1, by omega⟩
    refine s_R_comparison (by omega) ?_
    refine p.2 d 0 s _ pre _ hK hj hjc (by omega) hl hC ho (by omega) (CR.mk_bad fun w f h4 hk => ?_)
    rw [if_neg (by decide)]
    exact hR.bad f h4 hk
  · intro o j k e p a b d i s v pre Q hK hj hjc hi hl hC ho hd hR
    have g0 : hgt 1 = 4 := rfl
    have g6 : hgt 4 = 3 := rfl
    obtain ⟨d, rfl⟩ : ∃ d', d = d' + 1 := ⟨d - 1, by omega⟩
    refine s_R_comparison (by omega) ?_
    refine p.2 d 0 s _ pre _ hK hj hjc (by omega) hl hC ho (by omega) (CR.mk_ok fun w f h4 hk hlen hw => ?_)
    rw [if_pos rfl]
    refine R_token (hK.fx f) h4 hk (R_accept (hK.fx f) h4 hk (fun q => absurd q a) fun _ => ?_)
    rw [if_neg (by decide)]
    refine R_accept (hK.fx f) h4 hk (fun q => absurd q b) fun _ => ?_
    rw [if_neg (by decide)]
    exact hR.ok f h4 hk hlen hw
  · intro o j k e l p a q d i s v pre Q hK hj hjc hi hl hC ho hd hR
    have g0 : hgt 1 = 4 := rfl
    have g6 : hgt 4 = 3 := rfl
    obtain ⟨d, rfl⟩ : ∃ d', d = d' + 1 := ⟨d - 1, by omega⟩
    refine s_R_comparison (by omega) ?_
    refine p.2 d 0 s _ pre _ hK hj hjc (by omega) hl hC ho (by omega) (CR.mk_ok fun w f h4 hk hlen hw => ?_)
    rw [if_pos rfl]
    have hkc := lt_c (hK.fx f) hk (fun z => by rw [z] at a; revert a; decide)
    have hgo : k_R_comparison_35 d (nI o) (T k) (sI w 108 4 (nI (k + 1))) Q := by
      refine s_R_comparison_35 (by omega) ?_
      refine q.2 d 0 (s + 1) _ (pre ++ e.1) _ ((hK.fx f).fx (nx_fx _ _)) (sI_same _ _ _ _) (by omega) (by omega) (by rw [apz]; omega) (by rw [apz]; exact hw.nx _) ho (by omega) (CR.mk_bad fun w2 f2 h42 hk2 => ?_)
      rw [if_neg (by decide)]
      exact hR.bad ((f.tr (nx_fx _ _)).tr f2) h42 hk2
    refine R_token (hK.fx f) h4 hk (R_accept (hK.fx f) h4 hk (fun _ => ?_) fun z => ?_)
    · rw [if_pos rfl]; exact hgo
    · rw [if_neg (by decide)]
      refine R_accept (hK.fx f) h4 hk (fun _ => ?_) fun z2 => absurd a (fun y => y.elim z z2)
      rw [if_pos rfl]; exact hgo
  · intro o j k e l e2 p a q d i s v pre Q hK hj hjc hi hl hC ho hd hR
    have g0 : hgt 1 = 4 := rfl
    have g6 : hgt 4 = 3 := rfl
    have h160 := hK.1
    obtain ⟨d, rfl⟩ : ∃ d', d = d' + 1 := ⟨d - 1, by omega⟩
    refine s_R_comparison (by omega) ?_
    refine p.2 d 0 s _ pre _ hK hj hjc (by omega) hl hC ho (by omega) (CR.mk_ok fun w f h4 hk hlen hw => ?_)
    rw [if_pos rfl]
    have hkc := lt_c (hK.fx f) hk (fun z => by rw [z] at a; revert a; decide)
    have hgo : k_R_comparison_35 d (nI o) (T k) (sI w 108 4 (nI (k + 1))) Q := by
      refine s_R_comparison_35 (by omega) ?_
      refine q.2 d 0 (s + 1) _ (pre ++ e.1) _ ((hK.fx f).fx (nx_fx _ _)) (sI_same _ _ _ _) (by omega) (by omega) (by rw [apz]; omega) (by rw [apz]; exact hw.nx _) ho (by omega) (CR.mk_ok fun w2 f2 h42 hk2 hlen2 hw2 => ?_)
      rw [if_pos rfl]
      refine T_emit hw2 (by omega) fun w3 f3 hw3 => ?_
      have e3 : (pre ++ e.1 ++ e2.1 ++ [T k]) = pre ++ (bi (T k) e e2).1 := by unfold bi; simp only [List.append_assoc]
      rw [e3] at hw3
      refine hR.ok (((f.tr (nx_fx _ _)).tr f2).tr f3.eq) ?_ hk2 ?_ hw3
      · rw [f3.1 _ _ (by unfold AE; omega)]; exact h42
      · rw [← e3, List.length_append]
        show _ + 1 + s ≤ _
        omega
    refine R_token (hK.fx f) h4 hk (R_accept (hK.fx f) h4 hk (fun _ => ?_) fun z => ?_)
    · rw [if_pos rfl]; exact hgo
    · rw [if_neg (by decide)]
      refine R_accept (hK.fx f) h4 hk (fun _ => ?_) fun z2 => absurd a (fun y => y.elim z z2)
      rw [if_pos rfl]; exact hgo
  -- denial
  · intro o j r a p d i s v pre Q hK hj hjc hi hl hC ho hd hR
    have g0 : hgt 2 = 5 := rfl
    have g6 : hgt 1 = 4 := rfl
    obtain ⟨d, rfl⟩ : ∃ d', d = d' + 1 := ⟨d - 1, by omega⟩
    refine s_R_denial (by omega) (R_token hK hj hjc ?_)
    rw [if_neg a]
    exact p.2 d 0 s _ pre _ hK hj hjc (by omega) hl hC ho (by omega) hR
  · intro o j a b d i s v pre Q hK hj hjc hi hl hC ho hd hR
    have g0 : hgt 2 = 5 := rfl
    obtain ⟨d, rfl⟩ : ∃ d', d = d' + 1 := ⟨d - 1, by omega⟩
    refine s_R_denial (by omega) (R_token hK hj hjc ?_)
    rw [if_pos a, if_neg (o_nlt b ho)]
    exact hR.bad (FX.rf _ _) hj hjc
  · intro o j k a b p d i s v pre Q hK hj hjc hi hl hC ho hd hR
    have g0 : hgt 2 = 5 := rfl
    obtain ⟨d, rfl⟩ : ∃ d', d = d' + 1 := ⟨d - 1, by omega⟩
    have hlt := lt_c hK hjc (ne_m1 a (by decide))
    refine s_R_denial (by omega) (R_token hK hj hjc ?_)
    rw [if_pos a, if_pos (o_lt b), hj, nI_1, nI_1]
    refine p.2 d 0 s _ pre _ (hK.fx (nx_fx _ _)) (sI_same _ _ _ _) (by omega) (by omega) (by omega) (hC.nx _) (by omega) (by omega) (CR.mk_bad fun w f h4 hk => ?_)
    rw [if_neg (by decide)]
    exact hR.bad ((nx_fx _ _).tr f) h4 hk
  · intro o j k e a b p d i s v pre Q hK hj hjc hi hl hC ho hd hR
    have g0 : hgt 2 = 5 := rfl
    have h160 := hK.1
    obtain ⟨d, rfl⟩ : ∃ d', d = d' + 1 := ⟨d - 1, by omega⟩
    have hlt := lt_c hK hjc (ne_m1 a (by decide))
    refine s_R_denial (by omega) (R_token hK hj hjc ?_)
    rw [if_pos a, if_pos (o_lt b), hj, nI_1, nI_1]
    refine p.2 d 0 (s + 1) _ pre _ (hK.fx (nx_fx _ _)) (sI_same _ _ _ _) (by omega) (by omega) (by omega) (hC.nx _) (by omega) (by omega) (CR.mk_ok fun w f h4 hk hlen hw => ?_)
    rw [if_pos rfl]
    refine T_emit hw (by omega) fun w2 f2 hw2 => ?_
    rw [List.append_assoc] at hw2
    refine hR.ok (((nx_fx _ _).tr f).tr f2.eq) ?_ hk ?_ hw2
    · rw [f2.1 _ _ (by unfold AE; omega)]; exact h4
    · show (pre ++ (e.1 ++ [11])).length + s ≤ k
      rw [← List.append_assoc, List.length_append]
      show _ + 1 + s ≤ _
      omega
  -- chains
  · intro o j k l a p d i s v pre Q hK hj hjc hi hl hC ho hd hR
    obtain ⟨g1, g2, g3⟩ := hgt_ch a
    obtain ⟨d, rfl⟩ : ∃ d', d = d' + 1 := ⟨d - 1, by omega⟩
    have hJ : J (3 + l) (d + 1) o 0 v Q := by
      refine C_ch a (by omega) ?_
      refine p.2 d 0 s _ pre _ hK hj hjc (by omega) hl hC ho (by omega) (CR.mk_bad fun w f h4 hk => ?_)
      rw [if_neg (by decide)]
      exact hR.bad f h4 hk
    have : l = 0 ∨ l = 1 ∨ l = 2 ∨ l = 3 := by omega
    rcases this with rfl | rfl | rfl | rfl <;> exact hJ
  · intro o j k l e r a p q d i s v pre Q hK hj hjc hi hl hC ho hd hR
    obtain ⟨g1, g2, g3⟩ := hgt_ch a
    obtain ⟨d, rfl⟩ : ∃ d', d = d' + 1 := ⟨d - 1, by omega⟩
    have hJ : J (3 + l) (d + 1) o 0 v Q := by
      refine C_ch a (by omega) ?_
      refine p.2 d 0 s _ pre _ hK hj hjc (by omega) hl hC ho (by omega) (CR.mk_ok fun w f h4 hk hlen hw => ?_)
      rw [if_pos rfl]
      exact q.2 d 0 s _ pre _ (hK.fx f) h4 hk (by omega) hlen hw ho (by omega) ⟨fun k2 z w2 f2 => hR.1 k2 z w2 (f.tr f2), fun k2 e2 z w2 f2 => hR.2 k2 e2 z w2 (f.tr f2)⟩
    have : l = 0 ∨ l = 1 ∨ l = 2 ∨ l = 3 := by omega
    rcases this with rfl | rfl | rfl | rfl <;> exact hJ
  · intro o j l e a b d i s v pre Q hK hj hjc hi hl hC ho hd hR
    obtain ⟨g1, g2, g3⟩ := hgt_ch a
    exact C_lp hK hj hjc hi a (by omega) (fun z => absurd z b) fun _ => hR.ok (FX.rf _ _) hj hjc hl hC
  · intro o j k l e a b p d i s v pre Q hK hj hjc hi hl hC ho hd hR
    obtain ⟨g1, g2, g3⟩ := hgt_ch a
    have hlt := lt_c hK hjc (isOp_m1 b)
    refine C_lp hK hj hjc hi a (by omega) (fun _ => ?_) fun z => absurd b z
    refine p.2 d 0 s _ (pre ++ e.1) _ (hK.fx (nx_fx _ _)) (sI_same _ _ _ _) (by omega) (by omega) (by rw [apz]; omega) (by rw [apz]; exact hC.nx _) ho (by omega) (CR.mk_bad fun w f h4 hk => ?_)
    rw [if_neg (by decide)]
    exact hR.bad ((nx_fx _ _).tr f) h4 hk
  · intro o j k l e e2 r a b p q d i s v pre Q hK hj hjc hi hl hC ho hd hR
    obtain ⟨g1, g2, g3⟩ := hgt_ch a
    have h160 := hK.1
    have hlt := lt_c hK hjc (isOp_m1 b)
    have hfar := (Pr_far p.1).ok.1
    refine C_lp hK hj hjc hi a (by omega) (fun _ => ?_) fun z => absurd b z
    refine p.2 d 0 (s + 1) _ (pre ++ e.1) _ (hK.fx (nx_fx _ _)) (sI_same _ _ _ _) (by omega) (by omega) (by rw [apz]; omega) (by rw [apz]; exact hC.nx _) ho (by omega) (CR.mk_ok fun w f h4 hk hlen hw => ?_)
    rw [if_pos rfl]
    refine T_emit hw (by omega) fun w3 f3 hw3 => ?_
    have e3 : (pre ++ e.1 ++ e2.1 ++ [T j]) = pre ++ (bi (T j) e e2).1 := by unfold bi; simp only [List.append_assoc]
    rw [e3] at hw3
    have f4 := ((nx_fx v (nI (j + 1))).tr f).tr f3.eq
    refine q.2 d (i + 1) s _ pre _ (hK.fx f4) ?_ hk (by omega) ?_ hw3 ho (by omega) ⟨fun k2 z w2 f2 => hR.1 k2 z w2 (f4.tr f2), fun k2 e2 z w2 f2 => hR.2 k2 e2 z w2 (f4.tr f2)⟩
    · rw [f3.1 _ _ (by unfold AE; omega)]; exact h4
    · rw [← e3, List.length_append]
      show _ + 1 + s ≤ _
      omega
