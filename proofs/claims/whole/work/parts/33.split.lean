-- the class's reader: the tape into tokens
def AR (i k : Nat) : Prop := 108 ≤ i ∧ i ≤ 115
theorem R_isBlank {x : Int32} {v : Vv} {Q : Bool → Vv → Prop} (h1 : bl x → Q true v) (h2 : ¬ bl x → Q false v) : m_R_isBlank x v Q := by
  refine s_R_isBlank ?_
  by_cases a : x = 32
  · rw [if_pos a]; exact h1 (Or.inl a)
  · rw [if_neg a]
    by_cases b : x = 10
    · rw [if_pos b]; exact h1 (Or.inr b)
    · rw [if_neg b]; exact h2 fun c => c.elim a b
theorem R_isSmall {x : Int32} {v : Vv} {Q : Bool → Vv → Prop} (h1 : sm x → Q true v) (h2 : ¬ sm x → Q false v) : m_R_isSmall x v Q := by
  refine s_R_isSmall ?_
  have e97 : (97 : Int32).toInt = 97 := by decide
  have e122 : (122 : Int32).toInt = 122 := by decide
  unfold sm at h1 h2
  by_cases a : x < 97
  · rw [if_pos a]
    rw [Int32.lt_iff_toInt_lt, e97] at a
    exact h2 (by omega)
  · rw [if_neg a]
    rw [Int32.lt_iff_toInt_lt, e97] at a
    by_cases b : 122 < x
    · rw [if_pos b]
      rw [Int32.lt_iff_toInt_lt, e122] at b
      exact h2 (by omega)
    · rw [if_neg b]
      rw [Int32.lt_iff_toInt_lt, e122] at b
      exact h1 (by omega)
theorem R_isDigit {x : Int32} {v : Vv} {Q : Bool → Vv → Prop} (h1 : dg x → Q true v) (h2 : ¬ dg x → Q false v) : m_R_isDigit x v Q := by
  refine s_R_isDigit ?_
  have e97 : (48 : Int32).toInt = 48 := by decide
  have e122 : (57 : Int32).toInt = 57 := by decide
  unfold dg at h1 h2
  by_cases a : x < 48
  · rw [if_pos a]
    rw [Int32.lt_iff_toInt_lt, e97] at a
    exact h2 (by omega)
  · rw [if_neg a]
    rw [Int32.lt_iff_toInt_lt, e97] at a
    by_cases b : 57 < x
    · rw [if_pos b]
      rw [Int32.lt_iff_toInt_lt, e122] at b
      exact h2 (by omega)
    · rw [if_neg b]
      rw [Int32.lt_iff_toInt_lt, e122] at b
      exact h1 (by omega)
theorem R_isOfOne {x y : Int32} {v : Vv} {Q : Bool → Vv → Prop} (h1 : (sm x ∧ sm y ∨ dg x ∧ dg y) → Q true v) (h2 : ¬ (sm x ∧ sm y ∨ dg x ∧ dg y) → Q false v) : m_R_isOfOne x y v Q := by
  have h3 : ¬ (sm x ∧ sm y) → k_R_isOfOne_14 x y v Q := by
    intro h3
    refine s_R_isOfOne_14 (R_isDigit (fun a => ?_) fun a => ?_)
    · rw [if_pos rfl]
      refine R_isDigit (fun b => ?_) fun b => ?_
      · rw [if_pos rfl]
        exact h1 (Or.inr ⟨a, b⟩)
      · rw [if_neg (by decide)]
        exact h2 fun c => c.elim h3 fun d => b d.2
    · rw [if_neg (by decide)]
      exact h2 fun c => c.elim h3 fun d => a d.1
  refine s_R_isOfOne (R_isSmall (fun a => ?_) fun a => ?_)
  · rw [if_pos rfl]
    refine R_isSmall (fun b => ?_) fun b => ?_
    · rw [if_pos rfl]
      exact h1 (Or.inl ⟨a, b⟩)
    · rw [if_neg (by decide)]
      exact h3 fun c => b c.2
  · rw [if_neg (by decide)]
    exact h3 fun c => a c.1
theorem R_add {c : Nat} (hc : c < 161) {a b : Int32} {v : Vv} (hv : v.1 108 3 = nI c) {Q : Vv → Prop} (h : Q (sI (sI (sI v 110 c a) 111 c b) 108 3 (nI (c + 1)))) : m_R_add a b v Q := by
  refine s_R_add ?_
  have e1 : (sI v 110 (ix (v.1 108 3)) a).1 108 3 = nI c := by rw [sI_cell _ _ _ _ (by decide), hv]
  have e2 : (sI (sI v 110 c a) 111 c b).1 108 3 = nI c := by rw [sI_cell _ _ _ _ (by decide), sI_cell _ _ _ _ (by decide), hv]
  rw [if_pos (by rw [hv, show (161 : Int32) = nI 161 from rfl]; exact nI_lt hc (by decide))]
  refine ⟨by rw [hv]; exact ib_nI hc (by decide), by rw [e1]; exact ib_nI hc (by decide), ?_⟩
  rw [e1, hv, ix_nI (by omega), e2, nI_1]
  exact h
/-- i bytes seen, c tokens found -/
def SPI (B : Nat → Int32) (n : Nat) (v w : Vv) (i c : Nat) : Prop :=
  FX AR v w ∧ w.1 108 3 = nI c ∧ c ≤ i ∧ ns B n i = st B n c ∧ (∀ t, t < c → w.1 110 t = nI (st B n t) ∧ st B n t < i ∧ w.1 111 t = nI (min (en B n (st B n t)) i)) ∧ (0 < i → ¬ bl (B (i - 1)) → 0 < c ∧ i ≤ en B n (st B n (c - 1)))
theorem SPI_blank {B : Nat → Int32} {n : Nat} {v w : Vv} {i c : Nat} (h : SPI B n v w i c) (hi : i < n) (hb : bl (B i)) : SPI B n v w (i + 1) c := by
  obtain ⟨h1, h2, h3, h4, h5, h6⟩ := h
  have ho : ¬ o1 B i := by
    rintro ⟨-, a | a⟩
    · exact (bl_sm hb).1 a.2
    · exact (bl_sm hb).2 a.2
  refine ⟨h1, h2, by omega, ?_, fun t ht => ?_, fun _ q => absurd hb q⟩
  · rw [← h4]
    exact (Lst_no hi fun q => q.1 hb).symm
  · obtain ⟨a, b, d⟩ := h5 t ht
    have e := en_stop (B := B) (n := n) (s := st B n t) (j := i) b (by omega) (fun _ => ho)
    refine ⟨a, by omega, ?_⟩
    rw [d, Nat.min_eq_left e, Nat.min_eq_left (by omega)]
theorem SPI_more {B : Nat → Int32} {n : Nat} {v w : Vv} {i c : Nat} (h : SPI B n v w i c) (hi : i < n) (ho : o1 B i) : 0 < c ∧ SPI B n v (sI w 111 (c - 1) (nI (i + 1))) (i + 1) c := by
  obtain ⟨h1, h2, h3, h4, h5, h6⟩ := h
  have hb0 : ¬ bl (B (i - 1)) := fun q => by
    obtain ⟨-, a | a⟩ := ho
    · exact (bl_sm q).1 a.1
    · exact (bl_sm q).2 a.1
  obtain ⟨hc, he⟩ := h6 ho.1 hb0
  have he2 : i + 1 ≤ en B n (st B n (c - 1)) := by
    by_cases e : en B n (st B n (c - 1)) = i
    · have := en_is (B := B) (n := n) (s := st B n (c - 1)) (by omega)
      rw [e] at this
      exact absurd ho this
    · omega
  refine ⟨hc, h1.sI (by unfold AR; omega) _, ?_, by omega, ?_, fun t ht => ?_, fun _ _ => ⟨hc, he2⟩⟩
  · rw [sI_cell _ _ _ _ (by decide)]
    exact h2
  · rw [← h4]
    exact (Lst_no hi fun q => q.2 ho).symm
  · obtain ⟨a, b, d⟩ := h5 t ht
    refine ⟨by rw [sI_cell _ _ _ _ (by decide)]; exact a, by omega, ?_⟩
    by_cases e : t = c - 1
    · rw [← e] at he2 ⊢
      rw [sI_same, Nat.min_eq_right he2]
    · rw [sI_slot _ _ _ _ e, d]
      obtain ⟨-, b2, -⟩ := h5 (c - 1) (by omega)
      have b3 := st_smono (B := B) (n := n) (t := t) (u := c - 1) (by omega) (by omega)
      have b4 := en_stop (B := B) (n := n) (s := st B n t) (j := st B n (c - 1)) b3 (by omega) (fun q => (st_isS q).2)
      rw [Nat.min_eq_left (by omega), Nat.min_eq_left (by omega)]
theorem SPI_new {B : Nat → Int32} {n : Nat} {v w : Vv} {i c : Nat} (h : SPI B n v w i c) (hi : i < n) (hb : ¬ bl (B i)) (ho : ¬ o1 B i) : SPI B n v (sI (sI (sI w 110 c (nI i)) 111 c (nI (i + 1))) 108 3 (nI (c + 1))) (i + 1) (c + 1) := by
  obtain ⟨h1, h2, h3, h4, h5, h6⟩ := h
  have e0 : ns B n i = i := Lst_yes hi ⟨hb, ho⟩
  have es : st B n c = i := by rw [← h4, e0]
  have eg : i + 1 ≤ en B n i := en_gt B hi
  refine ⟨((h1.sI (by unfold AR; omega) _).sI (by unfold AR; omega) _).sI (by unfold AR; omega) _, sI_same _ _ _ _, by omega, ?_, fun t ht => ?_, fun _ _ => ⟨by omega, ?_⟩⟩
  · show ns B n (i + 1) = ns B n (st B n c + 1)
    rw [es]
  · have r1 : ∀ x, (sI (sI (sI w 110 c (nI i)) 111 c (nI (i + 1))) 108 3 (nI (c + 1))).1 110 x = if x = c then nI i else w.1 110 x := fun x => by
      rw [sI_cell _ _ _ _ (by decide), sI_cell _ _ _ _ (by decide), sI_at]
      by_cases q : x = c
      · rw [if_pos ⟨rfl, q⟩, if_pos q]
      · rw [if_neg (fun z => q z.2), if_neg q]
    have r2 : ∀ x, (sI (sI (sI w 110 c (nI i)) 111 c (nI (i + 1))) 108 3 (nI (c + 1))).1 111 x = if x = c then nI (i + 1) else w.1 111 x := fun x => by
      rw [sI_cell _ _ _ _ (by decide), sI_at]
      by_cases q : x = c
      · rw [if_pos ⟨rfl, q⟩, if_pos q]
      · rw [if_neg (fun z => q z.2), if_neg q, sI_cell _ _ _ _ (by decide)]
    rw [r1, r2]
    by_cases e : t = c
    · rw [if_pos e, if_pos e, e, es, Nat.min_eq_right eg]
      exact ⟨rfl, by omega, rfl⟩
    · obtain ⟨a, b, d⟩ := h5 t (by omega)
      have e2 := en_stop (B := B) (n := n) (s := st B n t) (j := i) b (by omega) (fun _ => ho)
      rw [if_neg e, if_neg e, a, d, Nat.min_eq_left e2, Nat.min_eq_left (by omega)]
      exact ⟨rfl, by omega, rfl⟩
  · rw [Nat.add_sub_cancel, es]
    exact eg
/-- the tape as tokens: c of them, and the end behind -/
def TKS (B : Nat → Int32) (n : Nat) (w : Vv) (c : Nat) : Prop :=
  (c ≤ n ∧ n ≤ 160 ∧ st B n c = n) ∧ w.1 108 3 = nI (c + 1) ∧ (∀ t, t < c → st B n t < n) ∧ ∀ t, t ≤ c → w.1 109 t = tk B n t ∧ w.1 110 t = nI (st B n t)
theorem R_numberAt_loop {B : Nat → Int32} {s : Nat} {v : Vv} {e : Nat} (he : e ≤ 160) (hB : ∀ i, i < e → v.1 107 i = B i) (hd : ∀ i, s + i < e → dg (B (s + i))) (h4 : e - s ≤ 4) {Q : Int32 → Vv → Prop} (h : Q (100 + nI (num B s (e - s))) v) : ∀ j i : Nat, s + i + j = e → k_R_numberAt_15 (nI e) (nI (num B s i)) (nI (s + i)) v Q
  | 0, i, q => by
    refine s_R_numberAt_15 ?_
    rw [if_neg (nI_nlt (by omega) (by omega))]
    rw [show e - s = i by omega] at h
    exact h
  | j + 1, i, q => by
    refine s_R_numberAt_15 ?_
    rw [if_pos (nI_lt (by omega) (by omega))]
    refine ⟨ib_nI (by omega) (by decide), ?_⟩
    rw [ix_nI (by omega), hB _ (by omega), nI_1]
    have hx := hd i (by omega)
    have e1 : (10 : Int32) * nI (num B s i) + B (s + i) - 48 = nI (num B s (i + 1)) := by
      have hb := num_lt (B := B) (s := s) (k := i) fun k hk => hd k (by omega)
      have hb2 : 10 ^ i ≤ 10 ^ 4 := Nat.pow_le_pow_right (by decide) (by omega)
      unfold dg at hx
      obtain ⟨x, hx2, hx3⟩ := nI_of3 (x := B (s + i)) (n := 58) (by omega) (by omega)
      rw [show (10 : Int32) = nI 10 from rfl, nI_mul, show num B s (i + 1) = 10 * num B s i + ((B (s + i)).toInt.toNat - 48) from rfl, hx3, nI_add, show (48 : Int32) = nI 48 from rfl]
      rw [hx3, nI_tI (by omega)] at hx
      rw [nI_tI (by omega), nI_sub (by omega) (by omega)]
      congr 1
      omega
    rw [e1]
    exact R_numberAt_loop he hB hd h4 h j (i + 1) (by omega)
theorem R_numberAt {B : Nat → Int32} {s : Nat} {v : Vv} {e : Nat} (hse : s < e) (he : e ≤ 160) (hB : ∀ i, i < e → v.1 107 i = B i) (hd : ∀ i, s + i < e → dg (B (s + i))) {Q : Int32 → Vv → Prop} (h : Q (if e - s ≤ 4 then 100 + nI (num B s (e - s)) else -2) v) : m_R_numberAt (nI s) (nI e) v Q := by
  refine s_R_numberAt ?_
  rw [nI_sub (by omega) (by omega)]
  by_cases h4 : e - s ≤ 4
  · rw [if_pos h4] at h
    rw [if_neg (by rw [show (4 : Int32) = nI 4 from rfl]; exact nI_nlt h4 (by omega))]
    exact R_numberAt_loop he hB hd h4 h (e - s) 0 (by omega)
  · rw [if_neg h4] at h
    rw [if_pos (by rw [show (4 : Int32) = nI 4 from rfl]; exact nI_lt (by omega) (by omega))]
    exact h
theorem R_stands_loop {x : Nat} (hx : isStr x) (hl : slen x ≤ 5) {B : Nat → Int32} {s e : Nat} {v : Vv} (he : e ≤ 160) (hB : ∀ i, i < e → v.1 107 i = B i) (hlen : slen x = e - s) (hse : s ≤ e) {Q : Bool → Vv → Prop} (h1 : ltr B s e = sstr x → Q true v) (h2 : ltr B s e ≠ sstr x → Q false v) : ∀ j i : Nat, i + j = slen x → (∀ k, k < i → schr x k = B (s + k)) → k_R_stands_15 x (nI s) (nI i) v Q
  | 0, i, q, hk => by
    refine s_R_stands_15 ⟨hx, ?_⟩
    rw [show Int32.ofNat (slen x) = nI (slen x) from rfl, if_neg (nI_nlt (a := i) (b := slen x) (by omega) (by omega))]
    exact h1 (ltr_is.mpr ⟨hlen, fun k hk2 => hk k (by unfold slen at q; omega)⟩)
  | j + 1, i, q, hk => by
    refine s_R_stands_15 ⟨hx, ?_⟩
    rw [show Int32.ofNat (slen x) = nI (slen x) from rfl, if_pos (nI_lt (a := i) (b := slen x) (by omega) (by omega))]
    rw [nI_add, ix_nI (by omega), ix_nI (by omega), hB _ (by omega)]
    refine ⟨ib_nI (by omega) (by omega), ib_nI (by omega) (by decide), ?_⟩
    by_cases c : schr x i = B (s + i)
    · rw [if_pos c, nI_1]
      refine R_stands_loop hx hl he hB hlen hse h1 h2 j (i + 1) (by omega) fun k hk2 => ?_
      by_cases e : k = i
      · rw [e]; exact c
      · exact hk k (by omega)
    · rw [if_neg c]
      exact h2 fun z => c ((ltr_is.mp z).2 i (by unfold slen at q; omega))
theorem R_stands {x : Nat} (hx : isStr x) (hl : slen x ≤ 5) {B : Nat → Int32} {s e : Nat} {v : Vv} (he : e ≤ 160) (hse : s ≤ e) (hB : ∀ i, i < e → v.1 107 i = B i) {Q : Bool → Vv → Prop} (h1 : ltr B s e = sstr x → Q true v) (h2 : ltr B s e ≠ sstr x → Q false v) : m_R_stands x (nI s) (nI e) v Q := by
  refine s_R_stands ⟨hx, ?_⟩
  rw [nI_sub hse (by omega)]
  by_cases c : slen x = e - s
  · rw [if_pos (by rw [c]; rfl)]
    exact R_stands_loop hx hl he hB c hse h1 h2 (slen x) 0 (by omega) fun k hk => absurd hk (Nat.not_lt_zero _)
  · rw [if_neg (fun z => c (by
      have z : nI (slen x) = nI (e - s) := z
      rw [i_eq, nI_tI (by omega), nI_tI (by omega)] at z
      omega))]
    exact h2 fun z => c (ltr_is.mp z).1
theorem R_word {w : Nat} (hw : w < 12) {v : Vv} {Q : Nat → Vv → Prop} (h : Q (100010 + w) v) : m_R_word (nI w) v Q := by
  refine s_R_word ?_
  have e : ∀ k : Nat, k < 12 → ((nI w = nI k) ↔ w = k) := fun k hk => by
    rw [i_eq, nI_tI (by omega), nI_tI (by omega)]
    omega
  have hc : w = 0 ∨ w = 1 ∨ w = 2 ∨ w = 3 ∨ w = 4 ∨ w = 5 ∨ w = 6 ∨ w = 7 ∨ w = 8 ∨ w = 9 ∨ w = 10 ∨ w = 11 := by omega
  rcases hc with rfl | rfl | rfl | rfl | rfl | rfl | rfl | rfl | rfl | rfl | rfl | rfl <;> exact h
theorem R_wordAt_loop {B : Nat → Int32} {s e : Nat} {v : Vv} (he : e ≤ 160) (hse : s ≤ e) (hB : ∀ i, i < e → v.1 107 i = B i) {Q : Int32 → Vv → Prop} : ∀ j w : Nat, w + j = 12 → Q (wrdF (ltr B s e) j w) v → k_R_wordAt_2 (nI s) (nI e) (nI w) v Q
  | 0, w, q, h => by
    refine s_R_wordAt_2 ?_
    rw [if_neg (by rw [show (12 : Int32) = nI 12 from rfl]; exact nI_nlt (by omega) (by omega))]
    exact h
  | j + 1, w, q, h => by
    refine s_R_wordAt_2 ?_
    rw [if_pos (by rw [show (12 : Int32) = nI 12 from rfl]; exact nI_lt (by omega) (by omega))]
    have hs : ∀ w, w < 12 → isStr (100010 + w) ∧ slen (100010 + w) ≤ 5 := by
      intro w hw
      have hc : w = 0 ∨ w = 1 ∨ w = 2 ∨ w = 3 ∨ w = 4 ∨ w = 5 ∨ w = 6 ∨ w = 7 ∨ w = 8 ∨ w = 9 ∨ w = 10 ∨ w = 11 := by omega
      unfold isStr
      rcases hc with rfl | rfl | rfl | rfl | rfl | rfl | rfl | rfl | rfl | rfl | rfl | rfl <;> exact ⟨by decide, by decide⟩
    obtain ⟨h1, h2⟩ := hs w (by omega)
    unfold wrdF at h
    refine R_word (by omega) (R_stands h1 h2 he hse hB (fun z => ?_) fun z => ?_)
    · rw [if_pos z] at h
      rw [if_pos rfl]
      exact h
    · rw [if_neg z] at h
      rw [if_neg (by decide), nI_1]
      exact R_wordAt_loop he hse hB j (w + 1) (by omega) h
theorem R_tokenOf {B : Nat → Int32} {n s : Nat} {v : Vv} (hn : n ≤ 160) (hs : s < n) (hB : ∀ i, i < n → v.1 107 i = B i) {Q : Int32 → Vv → Prop} (h : Q (cod B s (en B n s)) v) : m_R_tokenOf (nI s) (nI (en B n s)) v Q := by
  have h1 := en_le B n s
  have h2 := en_gt B hs
  refine s_R_tokenOf ⟨ib_nI (by omega) (by decide), ?_⟩
  rw [ix_nI (by omega), hB _ hs]
  unfold cod at h
  refine R_isSmall (fun a => ?_) fun a => ?_
  · rw [if_pos a] at h
    rw [if_pos rfl]
    refine s_R_wordAt ?_
    exact R_wordAt_loop (B := B) (by omega) (by omega) (fun i hi => hB i (by omega)) 12 0 rfl h
  · rw [if_neg a] at h
    rw [if_neg (by decide)]
    refine R_isDigit (fun b => ?_) fun b => ?_
    · rw [if_pos b] at h
      rw [if_pos rfl]
      exact R_numberAt (B := B) h2 (by omega) (fun i hi => hB i (by omega)) (fun i hi => run_dg b i hi) h
    · rw [if_neg b] at h
      rw [if_neg (by decide)]
      generalize B s = x at h ⊢
      by_cases c : sg x
      · rw [if_pos c] at h
        rcases c with rfl | rfl | rfl | rfl | rfl | rfl | rfl | rfl <;> exact h
      · rw [if_neg c] at h
        unfold sg at c
        have c0 : x ≠ 40 := fun z => c (by rw [z]; decide)
        have c1 : x ≠ 41 := fun z => c (by rw [z]; decide)
        have c2 : x ≠ 42 := fun z => c (by rw [z]; decide)
        have c3 : x ≠ 43 := fun z => c (by rw [z]; decide)
        have c4 : x ≠ 45 := fun z => c (by rw [z]; decide)
        have c5 : x ≠ 59 := fun z => c (by rw [z]; decide)
        have c6 : x ≠ 60 := fun z => c (by rw [z]; decide)
        have c7 : x ≠ 61 := fun z => c (by rw [z]; decide)
        simp only [if_neg c0, if_neg c1, if_neg c2, if_neg c3, if_neg c4, if_neg c5, if_neg c6, if_neg c7, ite_self]
        exact h
theorem R_split_tokens {B : Nat → Int32} {n c : Nat} {v : Vv} (hn : n ≤ 160) (hc : c ≤ n) (hst : st B n c = n) (hlt : ∀ t, t < c → st B n t < n) (hB : ∀ i, i < n → v.1 107 i = B i) {Q : Vv → Prop} (hQ : ∀ w, FX AR v w → TKS B n w c → Q w) : ∀ j i : Nat, i + j = c → ∀ w : Vv, FX AR v w → w.1 108 3 = nI c → (∀ t, t < c → w.1 110 t = nI (st B n t) ∧ w.1 111 t = nI (en B n (st B n t))) → (∀ t, t < i → w.1 109 t = tk B n t) → k_R_split_82 (nI n) (nI i) w Q
  | 0, i, e, w, hF, h3, hp, ht => by
    obtain rfl : i = c := e
    refine s_R_split_82 ?_
    rw [if_neg (by rw [h3]; exact nI_nlt (Nat.le_refl _) (by omega))]
    refine R_add (c := i) (by omega) h3 ?_
    generalize hw : sI (sI (sI w 110 i (nI n)) 111 i (nI n)) 108 3 (nI (i + 1)) = w2
    have e0 : w2.1 108 3 = nI (i + 1) := by rw [← hw, sI_same]
    have hF2 : FX AR v w2 := by rw [← hw]; exact ((hF.sI (by unfold AR; omega) _).sI (by unfold AR; omega) _).sI (by unfold AR; omega) _
    rw [e0, show nI (i + 1) - 1 = nI i from by rw [show (1 : Int32) = nI 1 from rfl, nI_sub (by omega) (by omega)]; rfl]
    refine ⟨ib_nI (by omega) (by decide), ?_⟩
    rw [ix_nI (by omega)]
    refine hQ _ (hF2.sI (by unfold AR; omega) _) ⟨⟨hc, hn, hst⟩, ?_, hlt, fun t htt => ?_⟩
    · rw [sI_cell _ _ _ _ (by decide)]
      exact e0
    · by_cases q : t = i
      · subst q
        rw [sI_same, sI_cell _ _ _ _ (by decide), tk_end hst, hst, ← hw, sI_cell _ _ _ _ (by decide), sI_cell _ _ _ _ (by decide), sI_same]
        exact ⟨rfl, rfl⟩
      · rw [sI_slot _ _ _ _ q, sI_cell _ _ _ _ (by decide), ← hw, sI_cell _ _ _ _ (by decide), sI_cell _ _ _ _ (by decide), sI_cell _ _ _ _ (by decide), sI_cell _ _ _ _ (by decide), sI_cell _ _ _ _ (by decide), sI_slot _ _ _ _ q]
        exact ⟨ht t (by omega), (hp t (by omega)).1⟩
  | j + 1, i, e, w, hF, h3, hp, ht => by
    refine s_R_split_82 ?_
    rw [if_pos (by rw [h3]; exact nI_lt (by omega) (by omega))]
    refine ⟨ib_nI (by omega) (by decide), ?_⟩
    rw [ix_nI (by omega), (hp i (by omega)).1, (hp i (by omega)).2]
    refine R_tokenOf (B := B) hn (hlt i (by omega)) (fun k hk => by rw [hF.1 _ _ (by unfold AR; omega)]; exact hB k hk) ?_
    rw [nI_1, ← tk_lt (hlt i (by omega))]
    refine R_split_tokens hn hc hst hlt hB hQ j (i + 1) (by omega) _ (hF.sI (by unfold AR; omega) _) (by rw [sI_cell _ _ _ _ (by decide)]; exact h3) (fun t htt => by rw [sI_cell _ _ _ _ (by decide), sI_cell _ _ _ _ (by decide)]; exact hp t htt) fun t htt => ?_
    by_cases q : t = i
    · rw [q, sI_same]
    · rw [sI_slot _ _ _ _ q]
      exact ht t (by omega)
theorem R_split_loop {B : Nat → Int32} {n : Nat} {v : Vv} (hn : n ≤ 160) (hB : ∀ i, i < n → v.1 107 i = B i) {Q : Vv → Prop} (hQ : ∀ w c, FX AR v w → TKS B n w c → Q w) : ∀ j i : Nat, i + j = n → ∀ (w : Vv) (c : Nat), SPI B n v w i c → k_R_split_7 (nI n) (nI i) w Q
  | 0, i, e, w, c, h => by
    obtain rfl : i = n := e
    refine s_R_split_7 ?_
    rw [if_neg (nI_nlt (Nat.le_refl _) (by omega))]
    obtain ⟨h1, h2, h3, h4, h5, h6⟩ := h
    have h7 : st B i c = i := h4.symm.trans (Lst_end (Nat.le_refl _))
    exact R_split_tokens hn h3 h7 (fun t ht => (h5 t ht).2.1) hB (fun w a b => hQ w c a b) c 0 (by omega) w h1 h2 (fun t ht => ⟨(h5 t ht).1, by rw [(h5 t ht).2.2, Nat.min_eq_left (en_le _ _ _)]⟩) fun t ht => absurd ht (Nat.not_lt_zero _)
  | j + 1, i, e, w, c, h => by
    have hF := h.1
    have h2 := h.2.1
    have h3 := h.2.2.1
    have hB2 : ∀ k, k < n → w.1 107 k = B k := fun k hk => by rw [hF.1 _ _ (by unfold AR; omega)]; exact hB k hk
    refine s_R_split_7 ?_
    rw [if_pos (nI_lt (by omega) (by omega))]
    refine ⟨ib_nI (by omega) (by decide), ?_⟩
    have hnext : ∀ w c, SPI B n v w (i + 1) c → k_R_split_74 (nI n) (nI i) w Q := fun w c h => by
      refine s_R_split_74 ?_
      rw [nI_1]
      exact R_split_loop hn hB hQ j (i + 1) (by omega) w c h
    have hnew : ¬ bl (B i) → ¬ o1 B i → k_R_split_66 (nI n) (nI i) w Q := fun a b => by
      refine s_R_split_66 (R_add (c := c) (by omega) h2 ?_)
      rw [nI_1]
      exact hnext _ _ (SPI_new h (by omega) a b)
    rw [ix_nI (by omega), hB2 i (by omega)]
    refine R_isBlank (fun a => ?_) fun a => ?_
    · rw [if_pos rfl]
      exact hnext _ _ (SPI_blank h (by omega) a)
    · rw [if_neg (by decide), h2]
      by_cases q : 0 < i
      · rw [if_pos (by rw [show (0 : Int32) = nI 0 from rfl]; exact nI_lt q (by omega))]
        by_cases q2 : 0 < c
        · rw [if_pos (by rw [show (0 : Int32) = nI 0 from rfl]; exact nI_lt q2 (by omega))]
          rw [show nI i - 1 = nI (i - 1) from by rw [show (1 : Int32) = nI 1 from rfl, nI_sub q (by omega)]]
          refine ⟨ib_nI (by omega) (by decide), ?_⟩
          rw [ix_nI (by omega), hB2 (i - 1) (by omega), hB2 i (by omega)]
          refine R_isOfOne (fun b => ?_) fun b => ?_
          · rw [if_pos rfl, h2, show nI c - 1 = nI (c - 1) from by rw [show (1 : Int32) = nI 1 from rfl, nI_sub q2 (by omega)]]
            refine ⟨ib_nI (by omega) (by decide), ?_⟩
            rw [ix_nI (by omega), nI_1]
            exact hnext _ _ (SPI_more h (by omega) ⟨q, b⟩).2
          · rw [if_neg (by decide)]
            exact hnew a fun z => b z.2
        · rw [if_neg (by rw [show (0 : Int32) = nI 0 from rfl]; exact nI_nlt (by omega) (by omega))]
          exact hnew a fun z => q2 (SPI_more h (by omega) z).1
      · rw [if_neg (by rw [show (0 : Int32) = nI 0 from rfl]; exact nI_nlt (by omega) (by omega))]
        exact hnew a fun z => q z.1
theorem R_split {B : Nat → Int32} {n : Nat} {v : Vv} (hn : n ≤ 160) (hB : ∀ i, i < n → v.1 107 i = B i) {Q : Vv → Prop} (hQ : ∀ w c, FX AR v w → TKS B n w c → Q w) : m_R_split (nI n) v Q := by
  refine s_R_split ?_
  refine R_split_loop hn hB hQ n 0 (by omega) _ 0 ⟨(FX.rf _ _).sI (by unfold AR; omega) _, sI_same _ _ _ _, Nat.le_refl _, rfl, fun t ht => absurd ht (Nat.not_lt_zero _), fun q => absurd q (Nat.lt_irrefl _)⟩
