-- the reference's questions at a token
theorem MS.re {B : Nat → Int32} {n t : Nat} {w : Vv} (h : MS B n w t) (ht : tk B n t ≠ -1 ∧ tk B n t ≠ -2) : ∃ g, w.1 154 24 = nI g ∧ RE B n g (t + 1) := by
  obtain ⟨hb, h29, h26, hk⟩ := h
  have hs : st B n t < n := by
    have h1 := st_le B n t
    by_cases c : st B n t = n
    · exact absurd (tk_end c) ht.1
    · omega
  have h24 : w.1 154 24 = nI (en B n (st B n t)) := by
    rcases hk with ⟨a, -⟩ | ⟨-, -, -, a⟩ | ⟨-, -, -, -, -, a⟩ | ⟨-, -, -, -, a⟩ | ⟨-, -, a, -⟩
    · omega
    · exact a
    · exact a
    · exact a
    · exact absurd ((tk_lt hs).trans a) ht.2
  refine ⟨_, h24, en_le _ _ _, ?_, fun c => en_is c⟩
  have hg := en_gt B hs
  show ns B n (en B n (st B n t)) = ns B n (st B n t + 1)
  have key : ∀ j i, st B n t < i → i + j = en B n (st B n t) → ns B n i = ns B n (en B n (st B n t)) := by
    intro j
    induction j with
    | zero => intro i _ e; rw [show i = en B n (st B n t) from e]
    | succ j ih =>
      intro i hi e
      have ho := en_o1 (B := B) (n := n) (s := st B n t) (j := i) hi (by omega)
      have hle := en_le B n (st B n t)
      rw [← ih (i + 1) (by omega) (by omega)]
      exact Lst_no (by omega) fun q => q.2 ho
  exact (key (en B n (st B n t) - (st B n t + 1)) (st B n t + 1) (by omega) (by omega)).symm
theorem M_next0 {B : Nat → Int32} {n : Nat} {w : Vv} (hb : MB B n w) (h29 : w.1 154 29 = 0) (h24 : w.1 154 24 = 0) {Q : Vv → Prop} (hQ : ∀ w', FM AN w w' → MS B n w' 0 → Q w') : m_M_next w Q := by
  refine s_M_next ?_
  exact next_loop hb h29 hQ n 0 (by omega) ⟨Nat.zero_le _, rfl, fun _ q => absurd q.1 (Nat.lt_irrefl _)⟩ w (FM.rf _ _) h24
theorem MS_next {B : Nat → Int32} {n t : Nat} {w : Vv} (h : MS B n w t) (ht : tk B n t ≠ -1 ∧ tk B n t ≠ -2) {Q : Vv → Prop} (hQ : ∀ w', FM AN w w' → MS B n w' (t + 1) → Q w') : m_M_next w Q := by
  obtain ⟨g, h1, h2⟩ := h.re ht
  refine s_M_next ?_
  exact next_loop h.1 h.2.1 hQ (n - g) g (by have := h2.1; omega) h2 w (FM.rf _ _) h1
theorem MS_28 {B : Nat → Int32} {n t : Nat} {w : Vv} (h : MS B n w t) (x : Int32) : MS B n (sI w 154 28 x) t := by
  obtain ⟨hb, h29, h26, hk⟩ := h
  have e : ∀ k, k ≠ 28 → (sI w 154 28 x).1 154 k = w.1 154 k := fun k hk => sI_slot _ _ _ _ hk _
  have h0 : FM AP w (sI w 154 28 x) := (FM.rf AP w).sI (by unfold AP; omega) _
  refine ⟨MB_fm AP_ge h0 hb, by rw [e _ (by decide)]; exact h29, by rw [e _ (by decide)]; exact h26, ?_⟩
  unfold MK
  rw [e 25 (by decide), e 24 (by decide)]
  exact hk
theorem isSign_bad {x : Int32} {w : Vv} (h : w.1 154 29 = 1) {Q : Bool → Vv → Prop} (hQ : Q false w) : m_M_isSign x w Q := by
  refine s_M_isSign ?_
  rw [h, if_neg (by decide)]
  exact hQ
theorem isWord_bad {a b c d e f g i : Int32} {w : Vv} (h : w.1 154 29 = 1) {Q : Bool → Vv → Prop} (hQ : Q false w) : m_M_isWord a b c d e f g i w Q := by
  refine s_M_isWord ?_
  rw [h, if_neg (by decide)]
  exact hQ
theorem fail_bad {w : Vv} (h : w.1 154 29 = 1) {Q : Vv → Prop} (hQ : Q w) : m_M_fail w Q := by
  refine s_M_fail ?_
  rw [h, if_neg (by decide)]
  exact hQ
theorem wrd_lt (L : List Int32) : (wrd L).toInt < 12 := by
  rcases wrd_cases L with e | ⟨x, a, b, -⟩
  · rw [e]; decide
  · rw [b, nI_tI (by omega)]; omega
theorem sg_range {x : Int32} (h : sg x) : 40 ≤ x.toInt ∧ x.toInt ≤ 61 := by
  rcases h with rfl | rfl | rfl | rfl | rfl | rfl | rfl | rfl <;> decide
/-- a token's kind by its code -/
theorem MS_kind {B : Nat → Int32} {n t : Nat} {w : Vv} (h : MS B n w t) :
    tk B n t = -1 ∧ w.1 154 25 = 0 ∨
    tk B n t = wrd (ltr B (st B n t) (en B n (st B n t))) ∧ w.1 154 25 = 1 ∧ st B n t < n ∧ sm (B (st B n t)) ∧ w.1 154 24 = nI (en B n (st B n t)) ∨
    (∃ k, k < 10000 ∧ tk B n t = nI (100 + k) ∧ w.1 154 25 = 2 ∧ (w.2.1 154 27).toInt = k) ∨
    sg (tk B n t) ∧ w.1 154 25 = 3 ∧ w.2.1 154 27 = (tk B n t).toInt64 ∨
    tk B n t = -2 ∧ w.1 154 25 = 4 := by
  obtain ⟨hb, h29, h26, hk⟩ := h
  rcases hk with ⟨a, b⟩ | ⟨a, b, c, d⟩ | ⟨a, b, c, d, e, f⟩ | ⟨a, b, c, d, e⟩ | ⟨a, b, c, d⟩
  · exact Or.inl ⟨tk_end a, b⟩
  · refine Or.inr (Or.inl ⟨?_, c, a, b, d⟩)
    rw [tk_lt a]
    unfold cod
    rw [if_pos b]
  · refine Or.inr (Or.inr (Or.inl ⟨num B (st B n t) (en B n (st B n t) - st B n t), ?_, ?_, d, e⟩))
    · have h1 := num_lt (B := B) (s := st B n t) (k := en B n (st B n t) - st B n t) fun i hi => run_dg (n := n) b i (by omega)
      have h2 : 10 ^ (en B n (st B n t) - st B n t) ≤ 10 ^ 4 := Nat.pow_le_pow_right (by decide) c
      omega
    · rw [tk_lt a]
      unfold cod
      rw [if_neg (fun q => sm_dg q b), if_pos b, if_pos c, show (100 : Int32) = nI 100 from rfl, nI_add]
  · have e1 : tk B n t = B (st B n t) := by
      rw [tk_lt a]
      unfold cod
      rw [if_neg (sg_sm b).1, if_neg (sg_sm b).2.1, if_pos b]
    rw [e1]
    exact Or.inr (Or.inr (Or.inr (Or.inl ⟨b, c, d⟩)))
  · exact Or.inr (Or.inr (Or.inr (Or.inr ⟨(tk_lt a).trans c, d⟩)))
theorem MS_sign {B : Nat → Int32} {n t : Nat} {w : Vv} (h : MS B n w t) {s : Int32} (hs : sg s) {Q : Bool → Vv → Prop} (h1 : tk B n t = s → Q true w) (h2 : tk B n t ≠ s → Q false w) : m_M_isSign s w Q := by
  refine s_M_isSign ?_
  rw [h.2.1, if_pos rfl]
  have hr := sg_range hs
  have hno : (tk B n t).toInt < 40 ∨ 61 < (tk B n t).toInt → tk B n t ≠ s := fun q z => by rw [z] at q; omega
  rcases MS_kind h with ⟨a, b⟩ | ⟨a, b, -⟩ | ⟨k, a, b, c, -⟩ | ⟨a, b, c⟩ | ⟨a, b⟩
  · rw [b, if_neg (by decide)]
    exact h2 (hno (Or.inl (by rw [a]; decide)))
  · rw [b, if_neg (by decide)]
    refine h2 (hno (Or.inl ?_))
    rw [a]
    have := wrd_lt (ltr B (st B n t) (en B n (st B n t)))
    omega
  · rw [c, if_neg (by decide)]
    refine h2 (hno (Or.inr ?_))
    rw [b, nI_tI (by omega)]
    omega
  · rw [b, if_pos rfl, c]
    by_cases e : tk B n t = s
    · rw [if_pos (by rw [e])]
      exact h1 e
    · rw [if_neg (fun z => e (by
        rw [l_eq, Int32.toInt_toInt64, Int32.toInt_toInt64] at z
        exact i_eq.mpr z))]
      exact h2 e
  · rw [b, if_neg (by decide)]
    exact h2 (hno (Or.inl (by rw [a]; decide)))
theorem M_isLetter {B : Nat → Int32} {n s : Nat} {w : Vv} (hb : MB B n w) (h26 : w.1 154 26 = nI s) (h24 : w.1 154 24 = nI (en B n s)) (hs : s < n) (hsm : sm (B s)) {i : Nat} (hi : i < 8) {c : Int32} {Q : Bool → Vv → Prop} (h1 : (ltr B s (en B n s)).getD i 0 = c → Q true w) (h2 : (ltr B s (en B n s)).getD i 0 ≠ c → Q false w) : m_M_isLetter (nI i) c w Q := by
  have hn := hb.2.1
  have hle := en_le B n s
  refine s_M_isLetter ?_
  rw [h26, h24, nI_add]
  by_cases q : s + i < en B n s
  · rw [if_pos (nI_lt q (by omega))]
    rw [ltr_at B s _ (by omega)] at h1 h2
    refine M_byteAt hb (by omega) (fun _ => ?_) fun z => by omega
    by_cases e : B (s + i) = c
    · rw [if_pos e]; exact h1 e
    · rw [if_neg e]; exact h2 e
  · rw [if_neg (nI_nlt (by omega) (by omega))]
    have e0 : (ltr B s (en B n s)).getD i 0 = 0 := by
      rw [List.getD_eq_getElem?_getD, List.getElem?_eq_none (by rw [ltr_len]; omega)]
      rfl
    rw [e0] at h1 h2
    by_cases e : c = 0
    · rw [if_pos e]; exact h1 e.symm
    · rw [if_neg e]; exact h2 fun z => e z.symm
theorem pad_eq {L W : List Int32} (hL : L.length ≤ 8) (hW : W.length ≤ 8) (h0 : ∀ i, i < L.length → L.getD i 0 ≠ 0) (h1 : ∀ i, i < W.length → W.getD i 0 ≠ 0) (h : ∀ i, i < 8 → L.getD i 0 = W.getD i 0) : L = W := by
  have hz : ∀ (M : List Int32) i, M.length ≤ i → M.getD i 0 = 0 := fun M i q => by
    rw [List.getD_eq_getElem?_getD, List.getElem?_eq_none q]
    rfl
  have hl : L.length = W.length := by
    by_cases a : L.length < W.length
    · have := h L.length (by omega)
      rw [hz L _ (Nat.le_refl _)] at this
      exact absurd this.symm (h1 _ a)
    · by_cases b : W.length < L.length
      · have := h W.length (by omega)
        rw [hz W _ (Nat.le_refl _)] at this
        exact absurd this (h0 _ b)
      · omega
  refine List.ext_getElem hl fun i a b => ?_
  have := h i (by omega)
  rwa [List.getD_eq_getElem?_getD, List.getElem?_eq_getElem a, List.getD_eq_getElem?_getD, List.getElem?_eq_getElem b] at this
theorem word_ok : ∀ k, k < 12 → (sstr (100010 + k)).length ≤ 8 ∧ ∀ i, i < (sstr (100010 + k)).length → (sstr (100010 + k)).getD i 0 ≠ 0 := by
  intro k hk
  have hc : k = 0 ∨ k = 1 ∨ k = 2 ∨ k = 3 ∨ k = 4 ∨ k = 5 ∨ k = 6 ∨ k = 7 ∨ k = 8 ∨ k = 9 ∨ k = 10 ∨ k = 11 := by omega
  rcases hc with rfl | rfl | rfl | rfl | rfl | rfl | rfl | rfl | rfl | rfl | rfl | rfl <;> exact ⟨by decide, by decide⟩
theorem MS_isWord {B : Nat → Int32} {n t : Nat} {w : Vv} (h : MS B n w t) {k : Nat} (hk : k < 12) {Q : Bool → Vv → Prop} (h1 : tk B n t = nI k → Q true w) (h2 : tk B n t ≠ nI k → Q false w) :
    m_M_isWord ((sstr (100010 + k)).getD 0 0) ((sstr (100010 + k)).getD 1 0) ((sstr (100010 + k)).getD 2 0) ((sstr (100010 + k)).getD 3 0) ((sstr (100010 + k)).getD 4 0) ((sstr (100010 + k)).getD 5 0) ((sstr (100010 + k)).getD 6 0) ((sstr (100010 + k)).getD 7 0) w Q := by
  refine s_M_isWord ?_
  rw [h.2.1, if_pos rfl]
  have hkI := nI_tI (n := k) (by omega)
  rcases MS_kind h with ⟨a, b⟩ | ⟨a, b, hs, hsm, h24⟩ | ⟨x, a, b, c, -⟩ | ⟨a, b, c⟩ | ⟨a, b⟩
  · rw [b, if_neg (by decide)]
    exact h2 fun z => by rw [a, i_eq, hkI, t_n1] at z; omega
  · rw [b, if_pos rfl]
    have hn := h.1.2.1
    have hle := en_le B n (st B n t)
    have hg := en_gt B hs
    have hw : tk B n t = nI k ↔ ltr B (st B n t) (en B n (st B n t)) = sstr (100010 + k) := by rw [a]; exact wrd_iff hk
    obtain ⟨w1, w2⟩ := word_ok k hk
    rw [h.2.2.1, h24, show (8 : Int32) = nI 8 from rfl, nI_add]
    by_cases c8 : st B n t + 8 < en B n (st B n t)
    · rw [if_pos (nI_lt c8 (by omega))]
      refine h2 fun z => ?_
      have := hw.mp z
      have e : (ltr B (st B n t) (en B n (st B n t))).length ≤ 8 := by rw [this]; exact w1
      rw [ltr_len] at e
      omega
    · rw [if_neg (nI_nlt (by omega) (by omega))]
      have hL := @M_isLetter B n (st B n t) w h.1 h.2.2.1 h24 hs hsm
      have hne : ∀ i, (ltr B (st B n t) (en B n (st B n t))).getD i 0 ≠ (sstr (100010 + k)).getD i 0 → tk B n t ≠ nI k := fun i q z => q (by rw [hw.mp z])
      refine hL (i := 0) (by decide) (fun p0 => ?_) fun p => by rw [if_neg (by decide)]; exact h2 (hne _ p)
      rw [if_pos rfl]
      refine hL (i := 1) (by decide) (fun p1 => ?_) fun p => by rw [if_neg (by decide)]; exact h2 (hne _ p)
      rw [if_pos rfl]
      refine hL (i := 2) (by decide) (fun p2 => ?_) fun p => by rw [if_neg (by decide)]; exact h2 (hne _ p)
      rw [if_pos rfl]
      refine hL (i := 3) (by decide) (fun p3 => ?_) fun p => by rw [if_neg (by decide)]; exact h2 (hne _ p)
      rw [if_pos rfl]
      refine hL (i := 4) (by decide) (fun p4 => ?_) fun p => by rw [if_neg (by decide)]; exact h2 (hne _ p)
      rw [if_pos rfl]
      refine hL (i := 5) (by decide) (fun p5 => ?_) fun p => by rw [if_neg (by decide)]; exact h2 (hne _ p)
      rw [if_pos rfl]
      refine hL (i := 6) (by decide) (fun p6 => ?_) fun p => by rw [if_neg (by decide)]; exact h2 (hne _ p)
      rw [if_pos rfl]
      refine hL (i := 7) (by decide) (fun p7 => ?_) fun p => by rw [if_neg (by decide)]; exact h2 (hne _ p)
      rw [if_pos rfl]
      refine h1 (hw.mpr (pad_eq (by rw [ltr_len]; omega) w1 (fun i hi => ?_) w2 fun i hi => ?_))
      · rw [ltr_len] at hi
        rw [ltr_at B _ _ hi]
        have := run_sm (n := n) hsm i (by omega)
        intro z
        rw [z] at this
        revert this
        unfold sm
        decide
      · have hc : i = 0 ∨ i = 1 ∨ i = 2 ∨ i = 3 ∨ i = 4 ∨ i = 5 ∨ i = 6 ∨ i = 7 := by omega
        rcases hc with rfl | rfl | rfl | rfl | rfl | rfl | rfl | rfl <;> assumption
  · rw [c, if_neg (by decide)]
    exact h2 fun z => by rw [b, i_eq, hkI, nI_tI (by omega)] at z; omega
  · rw [b, if_neg (by decide)]
    exact h2 fun z => by
      have := sg_range a
      rw [z, hkI] at this
      omega
  · rw [b, if_neg (by decide)]
    exact h2 fun z => by rw [a, i_eq, hkI, t_n2] at z; omega
/-- bad, at f -/
def FB (w : Vv) (f : Nat) : Prop := w.1 154 29 = 1 ∧ w.1 154 30 = nI f
theorem MS_fail {B : Nat → Int32} {n t : Nat} {w : Vv} (h : MS B n w t) {Q : Vv → Prop} (hQ : ∀ w', FM AP w w' → FB w' (st B n t) → Q w') : m_M_fail w Q := by
  refine s_M_fail ?_
  rw [h.2.1, if_pos rfl]
  refine hQ _ (((FM.rf AP w).sI (by unfold AP; omega) _).sI (by unfold AP; omega) _) ⟨?_, ?_⟩
  · rw [sI_slot _ _ _ _ (by decide), sI_same]
  · rw [sI_same, sI_slot _ _ _ _ (by decide)]
    exact h.2.2.1
theorem MS_name {B : Nat → Int32} {n t : Nat} {w : Vv} (h : MS B n w t) {Q : Int32 → Vv → Prop} (h1 : ∀ k, k < 6 → tk B n t = nI k → Q (w.1 154 (16 + k)) w) (h2 : (∀ k, k < 6 → tk B n t ≠ nI k) → ∀ w', FM AP w w' → FB w' (st B n t) → Q 0 w') : m_M_name w Q := by
  refine s_M_name ?_
  refine MS_isWord h (k := 0) (by decide) (fun q => by rw [if_pos rfl]; exact h1 0 (by decide) q) fun q0 => ?_
  rw [if_neg (by decide)]
  refine MS_isWord h (k := 1) (by decide) (fun q => by rw [if_pos rfl]; exact h1 1 (by decide) q) fun q1 => ?_
  rw [if_neg (by decide)]
  refine MS_isWord h (k := 2) (by decide) (fun q => by rw [if_pos rfl]; exact h1 2 (by decide) q) fun q2 => ?_
  rw [if_neg (by decide)]
  refine MS_isWord h (k := 3) (by decide) (fun q => by rw [if_pos rfl]; exact h1 3 (by decide) q) fun q3 => ?_
  rw [if_neg (by decide)]
  refine MS_isWord h (k := 4) (by decide) (fun q => by rw [if_pos rfl]; exact h1 4 (by decide) q) fun q4 => ?_
  rw [if_neg (by decide)]
  refine MS_isWord h (k := 5) (by decide) (fun q => by rw [if_pos rfl]; exact h1 5 (by decide) q) fun q5 => ?_
  rw [if_neg (by decide)]
  refine MS_fail h (h2 fun k hk => ?_)
  have hc : k = 0 ∨ k = 1 ∨ k = 2 ∨ k = 3 ∨ k = 4 ∨ k = 5 := by omega
  rcases hc with rfl | rfl | rfl | rfl | rfl | rfl <;> assumption
theorem MS_opens {B : Nat → Int32} {n t o : Nat} {w : Vv} (h : MS B n w t) (ho : w.1 154 28 = nI o) (ho5 : o ≤ 5) (ht : tk B n t ≠ -1 ∧ tk B n t ≠ -2) {Q : Bool → Vv → Prop} (h1 : o < 5 → ∀ w', FM AP w w' → MS B n w' (t + 1) → w'.1 154 28 = nI (o + 1) → Q true w') (h2 : o = 5 → ∀ w', FM AP w w' → FB w' (st B n t) → Q false w') : m_M_opens w Q := by
  refine s_M_opens ?_
  rw [ho]
  by_cases c : o = 5
  · rw [if_pos (by rw [c]; rfl)]
    exact MS_fail h (h2 c)
  · rw [if_neg (fun z => c (by
      rw [i_eq, nI_tI (by omega), t_5] at z
      omega)), nI_1]
    refine MS_next (MS_28 h _) ht fun w' f g => h1 (by omega) w' ((((FM.rf AP w).sI (by unfold AP; omega) _)).tr f.np) g ?_
    rw [f.1 _ _ (by unfold AN; omega), sI_same]
theorem MS_fin {B : Nat → Int32} {n t : Nat} {w : Vv} (h : MS B n w t) : w.1 154 25 = 0 ↔ tk B n t = -1 := by
  rcases MS_kind h with ⟨a, b⟩ | ⟨a, b, -⟩ | ⟨x, a, b, c, -⟩ | ⟨a, b, c⟩ | ⟨a, b⟩
  · exact ⟨fun _ => a, fun _ => b⟩
  · rw [b, a]
    refine ⟨fun z => absurd z (by decide), fun z => ?_⟩
    rcases wrd_cases (ltr B (st B n t) (en B n (st B n t))) with e | ⟨x, q, e, -⟩
    · rw [e] at z; exact absurd z (by decide)
    · rw [e, i_eq, nI_tI (by omega), t_n1] at z; omega
  · rw [c, b]
    refine ⟨fun z => absurd z (by decide), fun z => ?_⟩
    rw [i_eq, nI_tI (by omega), t_n1] at z; omega
  · rw [b]
    refine ⟨fun z => absurd z (by decide), fun z => ?_⟩
    have := sg_range a
    rw [z, t_n1] at this
    omega
  · rw [b, a]
    exact ⟨fun z => absurd z (by decide), fun z => absurd z (by decide)⟩
