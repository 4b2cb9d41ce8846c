-- the reference's tokens
theorem sI_over (v : Vv) (i k : Nat) (x y : Int32) : sI (sI v i k x) i k y = sI v i k y := vv_ext (fun a b => by
  rw [sI_at (sI v i k x) i k y a b, sI_at v i k y a b, sI_at v i k x a b]
  split <;> rfl) rfl
def FM (A : Nat → Prop) (v w : Vv) : Prop := (∀ i k, ¬ (i = 154 ∧ A k) → w.1 i k = v.1 i k) ∧ (∀ i k, ¬ (i = 154 ∧ k = 27) → w.2.1 i k = v.2.1 i k) ∧ w.2.2 = v.2.2
def AN (k : Nat) : Prop := 24 ≤ k ∧ k ≤ 27
def AP (k : Nat) : Prop := 24 ≤ k ∧ k ≤ 30
theorem FM.rf (A : Nat → Prop) (v : Vv) : FM A v v := ⟨fun _ _ _ => rfl, fun _ _ _ => rfl, rfl⟩
theorem FM.tr {A : Nat → Prop} {u v w : Vv} (h1 : FM A u v) (h2 : FM A v w) : FM A u w := ⟨fun i k h => (h2.1 i k h).trans (h1.1 i k h), fun i k h => (h2.2.1 i k h).trans (h1.2.1 i k h), h2.2.2.trans h1.2.2⟩
theorem FM.sI {A : Nat → Prop} {v w : Vv} (h : FM A v w) {k : Nat} (hA : A k) (x : Int32) : FM A v (sI w 154 k x) := ⟨fun a b hab => by
  rw [sI_at, if_neg (fun q => hab ⟨q.1, by rw [q.2]; exact hA⟩)]
  exact h.1 a b hab, h.2.1, h.2.2⟩
theorem FM.sJ {A : Nat → Prop} {v w : Vv} (h : FM A v w) (x : Int64) : FM A v (sJ w 154 27 x) := ⟨h.1, fun a b hab => by
  rw [sJ_at, if_neg hab]
  exact h.2.1 a b hab, h.2.2⟩
theorem FM.np {v w : Vv} (h : FM AN v w) : FM AP v w := ⟨fun i k hk => h.1 i k fun q => hk ⟨q.1, by have := q.2; unfold AN at this; unfold AP; omega⟩, h.2⟩
/-- the bytes that are read -/
def MB (B : Nat → Int32) (n : Nat) (w : Vv) : Prop := w.1 154 23 = nI n ∧ n ≤ 160 ∧ (∀ i, i < n → 0 ≤ (B i).toInt ∧ (B i).toInt ≤ 255) ∧ ∃ t, t < 6 ∧ w.1 154 22 = nI (160 * t) ∧ ∀ i, i < n → w.1 155 (160 * t + i) = B i
theorem MB_fm {A : Nat → Prop} (hA : ∀ k, A k → 24 ≤ k) {B : Nat → Int32} {n : Nat} {v w : Vv} (h : FM A v w) (hb : MB B n v) : MB B n w := by
  obtain ⟨h1, h2, h3, t, h4, h5, h6⟩ := hb
  have e : ∀ k, k < 24 → w.1 154 k = v.1 154 k := fun k hk => h.1 _ _ fun q => by have := hA k q.2; omega
  exact ⟨by rw [e _ (by decide)]; exact h1, h2, h3, t, h4, by rw [e _ (by decide)]; exact h5, fun i hi => by rw [h.1 _ _ (by omega)]; exact h6 i hi⟩
theorem AN_ge (k : Nat) (h : AN k) : 24 ≤ k := h.1
theorem AP_ge (k : Nat) (h : AP k) : 24 ≤ k := h.1
theorem M_byteAt {B : Nat → Int32} {n i : Nat} {w : Vv} (hb : MB B n w) (hi : i < 1000) {Q : Int32 → Vv → Prop} (h1 : i < n → Q (B i) w) (h2 : n ≤ i → Q (-1) w) : m_M_byteAt (nI i) w Q := by
  obtain ⟨a1, a2, a3, t, a4, a5, a6⟩ := hb
  refine s_M_byteAt ?_
  rw [a1]
  by_cases c : i < n
  · rw [if_pos (nI_lt c (by omega)), a5, nI_add]
    refine ⟨ib_nI (by omega) (by decide), ?_⟩
    rw [ix_nI (by omega), a6 i c]
    exact h1 c
  · rw [if_neg (nI_nlt (by omega) (by omega))]
    exact h2 (by omega)
theorem in_sm {x : Int32} {v : Vv} {Q : Bool → Vv → Prop} (h1 : sm x → Q true v) (h2 : ¬ sm x → Q false v) : m_M_in x.toInt64 97 122 v Q := by
  refine M_in ?_
  rw [Int32.toInt_toInt64, show (97 : Int64).toInt = 97 from by decide, show (122 : Int64).toInt = 122 from by decide]
  unfold sm at h1 h2
  by_cases c : 97 ≤ x.toInt ∧ x.toInt ≤ 122
  · rw [decide_eq_true c]; exact h1 c
  · rw [decide_eq_false c]; exact h2 c
theorem in_dg {x : Int32} {v : Vv} {Q : Bool → Vv → Prop} (h1 : dg x → Q true v) (h2 : ¬ dg x → Q false v) : m_M_in x.toInt64 48 57 v Q := by
  refine M_in ?_
  rw [Int32.toInt_toInt64, show (48 : Int64).toInt = 48 from by decide, show (57 : Int64).toInt = 57 from by decide]
  unfold dg at h1 h2
  by_cases c : 48 ≤ x.toInt ∧ x.toInt ≤ 57
  · rw [decide_eq_true c]; exact h1 c
  · rw [decide_eq_false c]; exact h2 c
theorem n1_sm : ¬ sm (-1) ∧ ¬ dg (-1) := by unfold sm dg; decide
def MK (B : Nat → Int32) (n : Nat) (w : Vv) (s : Nat) : Prop :=
  s = n ∧ w.1 154 25 = 0 ∨
  s < n ∧ sm (B s) ∧ w.1 154 25 = 1 ∧ w.1 154 24 = nI (en B n s) ∨
  s < n ∧ dg (B s) ∧ en B n s - s ≤ 4 ∧ w.1 154 25 = 2 ∧ (w.2.1 154 27).toInt = num B s (en B n s - s) ∧ w.1 154 24 = nI (en B n s) ∨
  s < n ∧ sg (B s) ∧ w.1 154 25 = 3 ∧ w.2.1 154 27 = (B s).toInt64 ∧ w.1 154 24 = nI (en B n s) ∨
  s < n ∧ ¬ sm (B s) ∧ cod B s (en B n s) = -2 ∧ w.1 154 25 = 4
/-- the token at hand is the t-th -/
def MS (B : Nat → Int32) (n : Nat) (w : Vv) (t : Nat) : Prop := MB B n w ∧ w.1 154 29 = 0 ∧ w.1 154 26 = nI (st B n t) ∧ MK B n w (st B n t)
theorem next_sm {B : Nat → Int32} {n s : Nat} (hs : s < n) (hsm : sm (B s)) {v : Vv} (hb : MB B n v) {Q : Vv → Prop} (hQ : ∀ w, FM AN v w → w.1 154 25 = v.1 154 25 → w.1 154 26 = v.1 154 26 → w.1 154 24 = nI (en B n s) → Q w) : ∀ j i : Nat, s + i + j = en B n s → ∀ w, FM AN v w → w.1 154 25 = v.1 154 25 → w.1 154 26 = v.1 154 26 → w.1 154 24 = nI (s + i) → k_M_next_100 w Q
  | 0, i, e, w, hF, h1, h2, h3 => by
    have he := en_le B n s
    have hg := en_gt B hs
    have hn := hb.2.1
    refine s_M_next_100 ?_
    rw [h3]
    have hz : ∀ x : Int32, ¬ sm x → m_M_in x.toInt64 97 122 w (fun x26 v27 => if x26 = true then k_M_next_100 (sI v27 154 24 (v27.1 154 24 + 1)) Q else Q v27) := fun x hx => by
      refine in_sm (fun q => absurd q hx) fun _ => ?_
      rw [if_neg (by decide)]
      exact hQ w hF h1 h2 (by rw [h3, e.symm]; rfl)
    refine M_byteAt (MB_fm AN_ge hF hb) (by omega) (fun c => hz _ fun q => ?_) fun c => hz _ n1_sm.1
    have h4 := en_is (B := B) (n := n) (s := s) (by omega)
    rw [← e] at h4
    have h5 := run_sm (n := n) hsm (s + i - 1 - s) (by omega)
    rw [show s + (s + i - 1 - s) = s + i - 1 by omega] at h5
    exact h4 ⟨by omega, Or.inl ⟨h5, q⟩⟩
  | j + 1, i, e, w, hF, h1, h2, h3 => by
    have he := en_le B n s
    have hn := hb.2.1
    refine s_M_next_100 ?_
    rw [h3]
    refine M_byteAt (MB_fm AN_ge hF hb) (by omega) (fun c => ?_) fun c => by omega
    refine in_sm (fun q => ?_) fun q => absurd (run_sm (n := n) hsm i (by omega)) q
    rw [if_pos rfl, h3, nI_1]
    refine next_sm hs hsm hb hQ j (i + 1) (by omega) _ (hF.sI (by unfold AN; omega) _) ?_ ?_ (sI_same _ _ _ _)
    · rw [sI_slot _ _ _ _ (by decide)]; exact h1
    · rw [sI_slot _ _ _ _ (by decide)]; exact h2
theorem worth_more {W : Int64} {x : Int32} {a : Nat} (hW : W.toInt = a) (ha : a < 10000) (hx : dg x) : ((10 : Int64) * W + x.toInt64 - 48).toInt = ((10 * a + (x.toInt.toNat - 48) : Nat) : Int) := by
  unfold dg at hx
  rw [Int64.toInt_sub, Int64.toInt_add, Int64.toInt_mul, hW, Int32.toInt_toInt64, show (10 : Int64).toInt = 10 from by decide, show (48 : Int64).toInt = 48 from by decide]
  rw [Int.bmod_eq_of_le (n := (10 : Int) * (a : Int)) (by omega) (by omega), Int.bmod_eq_of_le (n := (10 : Int) * (a : Int) + x.toInt) (by omega) (by omega), Int.bmod_eq_of_le (by omega) (by omega)]
  omega
theorem next_dg {B : Nat → Int32} {n s : Nat} (hs : s < n) (hd : dg (B s)) {v : Vv} (hb : MB B n v) {Q : Vv → Prop} (hQ : ∀ w, FM AN v w → w.1 154 25 = (if en B n s - s ≤ 4 then 2 else 4) → (en B n s - s ≤ 4 → (w.2.1 154 27).toInt = num B s (en B n s - s)) → w.1 154 26 = v.1 154 26 → w.1 154 24 = nI (en B n s) → Q w) : ∀ j i : Nat, s + i + j = en B n s → ∀ w, FM AN v w → (i ≤ 4 → (w.2.1 154 27).toInt = num B s i) → w.1 154 26 = v.1 154 26 → w.1 154 24 = nI (s + i) → k_M_next_160 (nI i) w Q
  | 0, i, e, w, hF, h1, h2, h3 => by
    have he := en_le B n s
    have hg := en_gt B hs
    have hn := hb.2.1
    refine s_M_next_160 ?_
    rw [h3]
    have hi : en B n s - s = i := by omega
    rw [hi] at hQ
    have hz : ∀ (x : Int32) (Q' : Bool → Vv → Prop), ¬ dg x → Q' false w → m_M_in x.toInt64 48 57 w Q' := fun x Q' hx hh => in_dg (fun q => absurd q hx) fun _ => hh
    have hfin : Q (sI w 154 25 (if (4 : Int32) < nI i then 4 else 2)) := by
      refine hQ _ (hF.sI (by unfold AN; omega) _) ?_ h1 ?_ ?_
      · rw [sI_same]
        by_cases c : i ≤ 4
        · rw [if_pos c, if_neg (by rw [show (4 : Int32) = nI 4 from rfl]; exact nI_nlt c (by omega))]
        · rw [if_neg c, if_pos (by rw [show (4 : Int32) = nI 4 from rfl]; exact nI_lt (by omega) (by omega))]
      · rw [sI_slot _ _ _ _ (by decide)]; exact h2
      · rw [sI_slot _ _ _ _ (by decide), h3, e.symm]; rfl
    refine M_byteAt (MB_fm AN_ge hF hb) (by omega) (fun c => hz _ _ (fun q => ?_) ?_) fun c => hz _ _ n1_sm.2 ?_
    · have h4 := en_is (B := B) (n := n) (s := s) (by omega)
      rw [← e] at h4
      have h5 := run_dg (n := n) hd (s + i - 1 - s) (by omega)
      rw [show s + (s + i - 1 - s) = s + i - 1 by omega] at h5
      exact h4 ⟨by omega, Or.inr ⟨h5, q⟩⟩
    · rw [if_neg (by decide)]
      exact hfin
    · rw [if_neg (by decide)]
      exact hfin
  | j + 1, i, e, w, hF, h1, h2, h3 => by
    have he := en_le B n s
    have hn := hb.2.1
    have hdi := run_dg (n := n) hd i (by omega)
    refine s_M_next_160 ?_
    rw [h3]
    refine M_byteAt (MB_fm AN_ge hF hb) (by omega) (fun c => ?_) fun c => by omega
    refine in_dg (fun q => ?_) fun q => absurd hdi q
    rw [if_pos rfl]
    have hgo : ∀ W : Int64, (i + 1 ≤ 4 → W.toInt = num B s (i + 1)) → k_M_next_216 (nI i) W w Q := fun W hW => by
      refine s_M_next_216 ?_
      have e24 : (sJ w 154 27 W).1 154 24 = nI (s + i) := h3
      rw [e24, nI_1, nI_1]
      refine next_dg hs hd hb hQ j (i + 1) (by omega) _ ((hF.sJ _).sI (by unfold AN; omega) _) (fun q => ?_) ?_ (sI_same _ _ _ _)
      · show ((sJ w 154 27 W).2.1 154 27).toInt = _
        rw [sJ_at, if_pos ⟨rfl, rfl⟩]
        exact hW q
      · rw [sI_slot _ _ _ _ (by decide)]; exact h2
    by_cases c4 : i < 4
    · rw [if_pos (by rw [show (4 : Int32) = nI 4 from rfl]; exact nI_lt c4 (by omega)), h3]
      refine M_byteAt (MB_fm AN_ge hF hb) (by omega) (fun c => ?_) fun c => by omega
      refine hgo _ fun _ => ?_
      have hb1 := num_lt (B := B) (s := s) (k := i) fun k hk => run_dg (n := n) hd k (by omega)
      have hb2 : 10 ^ i ≤ 10 ^ 4 := Nat.pow_le_pow_right (by decide) (by omega)
      exact worth_more (h1 (by omega)) (by omega) hdi
    · rw [if_neg (by rw [show (4 : Int32) = nI 4 from rfl]; exact nI_nlt (by omega) (by omega))]
      exact hgo _ fun q => by omega
/-- where reading goes on for the t-th token -/
def RE (B : Nat → Int32) (n h t : Nat) : Prop := h ≤ n ∧ ns B n h = st B n t ∧ (h < n → ¬ o1 B h)
theorem next_loop {B : Nat → Int32} {n t : Nat} {v : Vv} (hb : MB B n v) (h29 : v.1 154 29 = 0) {Q : Vv → Prop} (hQ : ∀ w, FM AN v w → MS B n w t → Q w) : ∀ j h : Nat, h + j = n → RE B n h t → ∀ w, FM AN v w → w.1 154 24 = nI h → k_M_next_0 w Q
  | j, h, e, hr, w, hF, h24 => by
    have hn := hb.2.1
    obtain ⟨r1, r2, r3⟩ := hr
    have h26 : k_M_next_26 w Q ∨ True := Or.inr trivial
    have hwb := MB_fm AN_ge hF hb
    refine s_M_next_0 ?_
    rw [h24]
    have hMS : ∀ w2, FM AN v w2 → w2.1 154 26 = nI (st B n t) → MK B n w2 (st B n t) → Q w2 := fun w2 f a b => hQ w2 f ⟨MB_fm AN_ge f hb, by rw [f.1 _ _ (by unfold AN; omega)]; exact h29, a, b⟩
    by_cases c : h < n
    · have hblank : bl (B h) → k_M_next_26 w Q := fun hbl => by
        refine s_M_next_26 ?_
        rw [h24, nI_1]
        match j, e with
        | j + 1, e =>
          refine next_loop hb h29 hQ j (h + 1) (by omega) ⟨by omega, ?_, fun _ => ?_⟩ _ (hF.sI (by unfold AN; omega) _) (sI_same _ _ _ _)
          · rw [← r2]
            exact (Lst_no c fun q => q.1 hbl).symm
          · rintro ⟨-, q | q⟩
            · exact (bl_sm hbl).1 q.1
            · exact (bl_sm hbl).2 q.1
        | 0, e => omega
      refine M_byteAt hwb (by omega) (fun _ => ?_) fun q => by omega
      by_cases c32 : B h = 32
      · rw [if_pos c32]
        exact hblank (Or.inl c32)
      · rw [if_neg c32, h24]
        refine M_byteAt hwb (by omega) (fun _ => ?_) fun q => by omega
        by_cases c10 : B h = 10
        · rw [if_pos c10]
          exact hblank (Or.inr c10)
        · rw [if_neg c10, h24]
          have hnb : ¬ bl (B h) := fun q => q.elim c32 c10
          have hst : st B n t = h := by rw [← r2]; exact Lst_yes c ⟨hnb, r3 c⟩
          have hF1 : FM AN v (sI w 154 26 (nI h)) := hF.sI (by unfold AN; omega) _
          rw [show (sI w 154 26 (nI h)).1 154 24 = nI h from by rw [sI_slot _ _ _ _ (by decide)]; exact h24]
          refine M_byteAt (MB_fm AN_ge hF1 hb) (by omega) (fun _ => ?_) fun q => by omega
          have hbr := hb.2.2.1 h c
          rw [if_neg (by rw [Int32.lt_iff_toInt_lt, t_0]; omega)]
          rw [hst] at hMS
          have hF2 : FM AN v (sI (sI w 154 26 (nI h)) 154 25 4) := hF1.sI (by unfold AN; omega) _
          have e26 : ∀ x, (sI (sI w 154 26 (nI h)) 154 25 x).1 154 26 = nI h := fun x => by rw [sI_slot _ _ _ _ (by decide), sI_same]
          have e24 : ∀ x, (sI (sI w 154 26 (nI h)) 154 25 x).1 154 24 = nI h := fun x => by rw [sI_slot _ _ _ _ (by decide), sI_slot _ _ _ _ (by decide)]; exact h24
          have ess : ∀ x, sI (sI (sI w 154 26 (nI h)) 154 25 4) 154 25 x = sI (sI w 154 26 (nI h)) 154 25 x := fun x => sI_over _ _ _ _ _
          have hg := en_gt B c
          have hle := en_le B n h
          refine in_sm (fun q => ?_) fun q => ?_
          · rw [if_pos rfl, ess]
            have hF3 : FM AN v (sI (sI w 154 26 (nI h)) 154 25 1) := hF1.sI (by unfold AN; omega) _
            refine next_sm c q (MB_fm AN_ge hF3 hb) (fun w2 f a b d => hMS w2 (hF3.tr f) (by rw [b]; exact e26 _) (Or.inr (Or.inl ⟨c, q, by rw [a, sI_same], d⟩))) (en B n h - h) 0 (by omega) _ (FM.rf _ _) rfl rfl (e24 _)
          · rw [if_neg (by decide)]
            refine in_dg (fun q2 => ?_) fun q2 => ?_
            · rw [if_pos rfl, ess]
              have hF3 : FM AN v (sJ (sI (sI w 154 26 (nI h)) 154 25 2) 154 27 0) := (hF1.sI (by unfold AN; omega) _).sJ _
              refine next_dg c q2 (MB_fm AN_ge hF3 hb) (fun w2 f a b d g => hMS w2 (hF3.tr f) (d.trans (e26 2)) ?_) (en B n h - h) 0 (by omega) _ (FM.rf _ _) (fun _ => ?_) rfl (e24 2)
              · by_cases c4 : en B n h - h ≤ 4
                · rw [if_pos c4] at a
                  exact Or.inr (Or.inr (Or.inl ⟨c, q2, c4, a, b c4, g⟩))
                · rw [if_neg c4] at a
                  refine Or.inr (Or.inr (Or.inr (Or.inr ⟨c, q, ?_, a⟩)))
                  unfold cod
                  rw [if_neg q, if_pos q2, if_neg c4]
              · rw [sJ_at, if_pos ⟨rfl, rfl⟩]
                rfl
            · rw [if_neg (by decide)]
              have hsign : sg (B h) → k_M_next_300 (B h) (sI (sI w 154 26 (nI h)) 154 25 4) Q := fun q3 => by
                refine s_M_next_300 ?_
                rw [ess, show (sJ (sI (sI w 154 26 (nI h)) 154 25 3) 154 27 (B h).toInt64).1 154 24 = nI h from e24 3, nI_1]
                refine hMS _ (((hF1.sI (by unfold AN; omega) _).sJ _).sI (by unfold AN; omega) _) ?_ (Or.inr (Or.inr (Or.inr (Or.inl ⟨c, q3, ?_, ?_, ?_⟩))))
                · rw [sI_slot _ _ _ _ (by decide)]; exact e26 3
                · rw [sI_slot _ _ _ _ (by decide)]; exact sI_same (sI w 154 26 (nI h)) 154 25 3
                · show (sJ (sI (sI w 154 26 (nI h)) 154 25 3) 154 27 (B h).toInt64).2.1 154 27 = _
                  rw [sJ_at, if_pos ⟨rfl, rfl⟩]
                · rw [sI_same]
                  have := en_stop (B := B) (n := n) (s := h) (j := h + 1) (by omega) (by omega) (fun _ => by
                    rintro ⟨-, z | z⟩
                    · exact q z.1
                    · exact q2 z.1)
                  rw [show en B n h = h + 1 by omega]
              by_cases q3 : sg (B h)
              · have hs := hsign q3
                generalize B h = x at hs q3 ⊢
                rcases q3 with rfl | rfl | rfl | rfl | rfl | rfl | rfl | rfl <;> exact hs
              · have c0 : B h ≠ 40 := fun z => q3 (by rw [z]; unfold sg; decide)
                have c1 : B h ≠ 41 := fun z => q3 (by rw [z]; unfold sg; decide)
                have c2 : B h ≠ 42 := fun z => q3 (by rw [z]; unfold sg; decide)
                have c3 : B h ≠ 43 := fun z => q3 (by rw [z]; unfold sg; decide)
                have c4 : B h ≠ 45 := fun z => q3 (by rw [z]; unfold sg; decide)
                have c5 : B h ≠ 59 := fun z => q3 (by rw [z]; unfold sg; decide)
                have c6 : B h ≠ 60 := fun z => q3 (by rw [z]; unfold sg; decide)
                have c7 : B h ≠ 61 := fun z => q3 (by rw [z]; unfold sg; decide)
                rw [if_neg c0, if_neg c1, if_neg c5, if_neg c3, if_neg c4, if_neg c2, if_neg c6, if_neg c7]
                refine hMS _ hF2 (e26 _) (Or.inr (Or.inr (Or.inr (Or.inr ⟨c, q, ?_, sI_same _ _ _ _⟩))))
                unfold cod
                rw [if_neg q, if_neg q2, if_neg q3]
    · obtain rfl : h = n := by omega
      have hst : st B h t = h := by rw [← r2]; exact Lst_end (Nat.le_refl _)
      refine M_byteAt hwb (by omega) (fun q => absurd q c) fun _ => ?_
      rw [if_neg (by decide), h24]
      refine M_byteAt hwb (by omega) (fun q => absurd q c) fun _ => ?_
      rw [if_neg (by decide), h24]
      have hF1 : FM AN v (sI w 154 26 (nI h)) := hF.sI (by unfold AN; omega) _
      rw [show (sI w 154 26 (nI h)).1 154 24 = nI h from by rw [sI_slot _ _ _ _ (by decide)]; exact h24]
      refine M_byteAt (MB_fm AN_ge hF1 hb) (by omega) (fun q => absurd q c) fun _ => ?_
      rw [if_pos (by decide)]
      have e23 : (sI (sI (sI w 154 26 (nI h)) 154 25 4) 154 25 0).1 154 23 = nI h := by
        rw [sI_slot _ _ _ _ (by decide), sI_slot _ _ _ _ (by decide), sI_slot _ _ _ _ (by decide)]
        exact hwb.1
      rw [e23]
      refine hMS _ (((hF1.sI (by unfold AN; omega) _).sI (by unfold AN; omega) _).sI (by unfold AN; omega) _) (by rw [sI_same, hst]) (Or.inl ⟨hst, ?_⟩)
      rw [sI_slot _ _ _ _ (by decide), sI_same]
