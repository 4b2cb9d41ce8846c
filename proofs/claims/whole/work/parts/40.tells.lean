-- the class's stack says what was read
def FT (t i k : Nat) : Prop := i = t ∧ k = 4 ∨ i = t + 3
theorem isText_ge {t : Nat} (h : isText t) : 88 ≤ t := by
  unfold isText at h
  revert h
  simp only [List.mem_cons, List.not_mem_nil, or_false]
  omega
theorem T_push {t k : Nat} (ht : isText t) {v : Vv} (hk : v.1 t 4 = nI k) (hk2 : k < 160) {x : Int32} {Q : Vv → Prop} (hQ : Q (sI (sI v (t + 3) k x) t 4 (nI (k + 1)))) : m_T_push t x v Q := by
  refine s_T_push ⟨ht, ?_⟩
  have e : (sI v (t + 3) (ix (v.1 t 4)) x).1 t 4 = nI k := by rw [sI_cell _ _ _ _ (by omega)]; exact hk
  rw [e, hk, if_pos (by rw [show (160 : Int32) = nI 160 from rfl]; exact nI_lt hk2 (by decide)), nI_1, ix_nI (by omega)]
  exact ⟨ib_nI hk2 (by decide), hQ⟩
theorem T_pop {t k : Nat} (ht : isText t) {v : Vv} (hk : v.1 t 4 = nI (k + 1)) (hk2 : k < 160) {Q : Int32 → Vv → Prop} (hQ : Q (v.1 (t + 3) k) (sI v t 4 (nI k))) : m_T_pop t v Q := by
  refine s_T_pop ⟨ht, ?_⟩
  rw [hk, if_pos (by rw [show (0 : Int32) = nI 0 from rfl]; exact nI_lt (by omega) (by omega)), show nI (k + 1) - 1 = nI k from by rw [show (1 : Int32) = nI 1 from rfl, nI_sub (by omega) (by omega)]; rfl, sI_same, ix_nI (by omega), sI_cell _ _ _ _ (by omega)]
  exact ⟨ib_nI hk2 (by decide), hQ⟩
theorem T_joined {x s y : Int32} {v : Vv} {Q : Int32 → Vv → Prop} (h : Q (joinV x s y) v) : m_T_joined x s y v Q := by
  refine s_T_joined ?_
  unfold joinV at h
  split
  · rename_i c; rw [if_pos c] at h; exact h
  · rename_i c1; rw [if_neg c1] at h
    split
    · rename_i c; rw [if_pos c] at h; exact h
    · rename_i c2; rw [if_neg c2] at h
      split
      · rename_i c; rw [if_pos c] at h; exact h
      · rename_i c3; rw [if_neg c3] at h
        split
        · rename_i c; rw [if_pos c] at h; exact h
        · rename_i c4; rw [if_neg c4] at h
          split
          · rename_i c; rw [if_pos c] at h; exact h
          · rename_i c5; rw [if_neg c5] at h
            split
            · rename_i c; rw [if_pos c] at h; exact h
            · rename_i c6; rw [if_neg c6] at h
              exact h
/-- from p on the code says e, on a stack of k -/
def EV0 (e : Ex) : Prop := ∀ (t : Nat) (pt : Int32) (v : Vv) (p k E : Nat) (Q : Int32 → Vv → Prop), isText t → ib pt 3 → v.1 (t + 2) (ix pt) = nI E → p + e.1.length ≤ E → E ≤ 160 → (∀ i, i < e.1.length → v.1 (t + 1) (p + i) = e.1.getD i 0) → v.1 t 4 = nI k → k + e.1.length ≤ 160 →
  (∀ w, FX (FT t) v w → w.1 t 4 = nI (k + 1) → (∀ i, i < k → w.1 (t + 3) i = v.1 (t + 3) i) → w.1 (t + 3) k = e.2 (v.1 73) → k_T_tells_22 t pt (nI (p + e.1.length)) w Q) → k_T_tells_22 t pt (nI p) v Q
theorem EV_step {t : Nat} {pt : Int32} {v : Vv} {p E : Nat} {Q : Int32 → Vv → Prop} (ht : isText t) (hp : ib pt 3) (hE : v.1 (t + 2) (ix pt) = nI E) (hpE : p < E) (h160 : E ≤ 160) {x : Int32} (hx : v.1 (t + 1) p = x)
    (h : if x < (100 : Int32) then (if x < (0 : Int32) then k_T_tells_82 t pt (nI p) x v Q else (if x < (6 : Int32) then ((ib x 6) ∧ m_T_push t (v.1 73 (ix x)) v (fun v13 => k_T_tells_148 t pt (nI p) v13 Q)) else k_T_tells_82 t pt (nI p) x v Q)) else m_T_push t (x - (100 : Int32)) v (fun v15 => k_T_tells_148 t pt (nI p) v15 Q)) : k_T_tells_22 t pt (nI p) v Q := by
  refine s_T_tells_22 ⟨ht, hp, ?_⟩
  rw [hE, if_pos (nI_lt hpE (by omega)), ix_nI (by omega), hx]
  exact ⟨ib_nI (by omega) (by decide), h⟩
theorem EV_lf {x : Int32} (a : isLf x) : EV0 (lf x) := by
  intro t pt v p k E Q ht hp hE hpE h160 hc hk hk2 hQ
  have hpE : p + 1 ≤ E := hpE
  have hk2 : k + 1 ≤ 160 := hk2
  have hQ : ∀ w, FX (FT t) v w → w.1 t 4 = nI (k + 1) → (∀ i, i < k → w.1 (t + 3) i = v.1 (t + 3) i) → w.1 (t + 3) k = (lf x).2 (v.1 73) → k_T_tells_22 t pt (nI (p + 1)) w Q := hQ
  have hx : v.1 (t + 1) p = x := hc 0 (by show 0 < 1; omega)
  have hfin : ∀ y, y = (lf x).2 (v.1 73) → k_T_tells_148 t pt (nI p) (sI (sI v (t + 3) k y) t 4 (nI (k + 1))) Q := fun y hy => by
    refine s_T_tells_148 ?_
    rw [nI_1]
    refine hQ _ (((FX.rf _ _).sI (Or.inr rfl) _).sI (Or.inl ⟨rfl, rfl⟩) _) (sI_same _ _ _ _) (fun i hi => ?_) ?_
    · rw [sI_cell _ _ _ _ (by omega), sI_slot _ _ _ _ (by omega)]
    · rw [sI_cell _ _ _ _ (by omega), sI_same, hy]
  refine EV_step ht hp hE (by omega) h160 hx ?_
  unfold isLf at a
  by_cases c : x < 100
  · have c' := c
    rw [Int32.lt_iff_toInt_lt, t_100] at c'
    rw [if_pos c, if_neg (by rw [Int32.lt_iff_toInt_lt, t_0]; omega), if_pos (by rw [Int32.lt_iff_toInt_lt, t_6]; omega)]
    refine ⟨by rw [ib_iff]; omega, T_push ht hk (by omega) (hfin _ ?_)⟩
    show _ = if x < 100 then _ else _
    rw [if_pos c]
  · rw [if_neg c]
    refine T_push ht hk (by omega) (hfin _ ?_)
    show _ = if x < 100 then _ else _
    rw [if_neg c]
theorem EV_op {t : Nat} {pt : Int32} {v : Vv} {p E : Nat} {Q : Int32 → Vv → Prop} (ht : isText t) (hp : ib pt 3) (hE : v.1 (t + 2) (ix pt) = nI E) (hpE : p < E) (h160 : E ≤ 160) {x : Int32} (hx : v.1 (t + 1) p = x) (hr : 6 ≤ x.toInt ∧ x.toInt < 100) (h : k_T_tells_82 t pt (nI p) x v Q) : k_T_tells_22 t pt (nI p) v Q := by
  refine EV_step ht hp hE hpE h160 hx ?_
  rw [if_pos (by rw [Int32.lt_iff_toInt_lt, t_100]; omega), if_neg (by rw [Int32.lt_iff_toInt_lt, t_0]; omega), if_neg (by rw [Int32.lt_iff_toInt_lt, t_6]; omega)]
  exact h
theorem getD_l {L M : List Int32} {i : Nat} (h : i < L.length) : (L ++ M).getD i 0 = L.getD i 0 := by
  rw [List.getD_eq_getElem?_getD, List.getD_eq_getElem?_getD, List.getElem?_append_left h]
theorem getD_r {L M : List Int32} {i : Nat} : (L ++ M).getD (L.length + i) 0 = M.getD i 0 := by
  rw [List.getD_eq_getElem?_getD, List.getD_eq_getElem?_getD, List.getElem?_append_right (by omega), Nat.add_sub_cancel_left]
theorem FT_keeps {t : Nat} {v w : Vv} (f : FX (FT t) v w) (ht : isText t) : (∀ i, w.1 (t + 1) i = v.1 (t + 1) i) ∧ (∀ i, w.1 (t + 2) i = v.1 (t + 2) i) ∧ (∀ i, w.1 73 i = v.1 73 i) := by
  have := isText_ge ht
  exact ⟨fun i => f.1 _ _ (by unfold FT; omega), fun i => f.1 _ _ (by unfold FT; omega), fun i => f.1 _ _ (by unfold FT; omega)⟩
theorem EV_un {e : Ex} (he : EV0 e) {op : Int32} {g : Int32 → Int32} (hr : 6 ≤ op.toInt ∧ op.toInt < 100) (hop : ∀ {t : Nat} {pt : Int32} {p : Nat} {v : Vv} {Q : Int32 → Vv → Prop}, isText t → m_T_pop t v (fun x19 v20 => m_T_push t (g x19) v20 (fun v23 => k_T_tells_148 t pt (nI p) v23 Q)) → k_T_tells_82 t pt (nI p) op v Q) : EV0 (e.1 ++ [op], fun f => g (e.2 f)) := by
  intro t pt v p k E Q ht hp hE hpE h160 hc hk hk2 hQ
  have hl : (e.1 ++ [op]).length = e.1.length + 1 := by rw [List.length_append]; rfl
  have hpE : p + (e.1 ++ [op]).length ≤ E := hpE
  have hk2 : k + (e.1 ++ [op]).length ≤ 160 := hk2
  have hc : ∀ i, i < (e.1 ++ [op]).length → v.1 (t + 1) (p + i) = (e.1 ++ [op]).getD i 0 := hc
  have hQ : ∀ w, FX (FT t) v w → w.1 t 4 = nI (k + 1) → (∀ i, i < k → w.1 (t + 3) i = v.1 (t + 3) i) → w.1 (t + 3) k = g (e.2 (v.1 73)) → k_T_tells_22 t pt (nI (p + (e.1 ++ [op]).length)) w Q := hQ
  rw [hl] at hpE hk2 hQ hc
  refine he t pt v p k E Q ht hp hE (by omega) h160 (fun i hi => by rw [hc i (by omega), getD_l hi]) hk (by omega) fun w f h4 hb hv => ?_
  obtain ⟨k1, k2, k3⟩ := FT_keeps f ht
  refine EV_op (x := op) ht hp (by rw [k2]; exact hE) (by omega) h160 (by rw [k1, hc _ (by omega), show e.1.length = e.1.length + 0 from rfl, getD_r]; rfl) hr (hop ht ?_)
  refine T_pop ht h4 (by omega) (T_push (k := k) ht (sI_same _ _ _ _) (by omega) (s_T_tells_148 ?_))
  rw [nI_1]
  refine hQ _ (f.tr ((((FX.rf _ _).sI (Or.inl ⟨rfl, rfl⟩) _).sI (Or.inr rfl) _).sI (Or.inl ⟨rfl, rfl⟩) _)) (sI_same _ _ _ _) (fun i hi => ?_) ?_
  · rw [sI_cell _ _ _ _ (by omega), sI_slot _ _ _ _ (by omega), sI_cell _ _ _ _ (by omega)]
    exact hb i hi
  · rw [sI_cell _ _ _ _ (by omega), sI_same, hv]
theorem EV_ng {e : Ex} (he : EV0 e) : EV0 (ng e) := by
  refine EV_un he (op := 12) (g := fun x => -x) (by decide) fun ht h => s_T_tells_82 ?_
  rw [if_pos rfl]
  exact ⟨ht, h⟩
theorem EV_nt {e : Ex} (he : EV0 e) : EV0 (nt e) := by
  refine EV_un he (op := 11) (g := fun x => bI (if x = 0 then true else false)) (by decide) fun ht h => s_T_tells_82 ?_
  rw [if_neg (by decide), if_pos rfl]
  exact ⟨ht, h⟩
def isBi (s : Int32) : Prop := (6 ≤ s.toInt ∧ s.toInt < 100) ∧ s ≠ 12 ∧ s ≠ 11
theorem EV_bi {s : Int32} {a b : Ex} (hs : isBi s) (hla : 1 ≤ a.1.length) (ha : EV0 a) (hb : EV0 b) : EV0 (bi s a b) := by
  intro t pt v p k E Q ht hp hE hpE h160 hc hk hk2 hQ
  have hl : (a.1 ++ b.1 ++ [s]).length = a.1.length + b.1.length + 1 := by rw [List.length_append, List.length_append]; rfl
  have hpE : p + (a.1 ++ b.1 ++ [s]).length ≤ E := hpE
  have hk2 : k + (a.1 ++ b.1 ++ [s]).length ≤ 160 := hk2
  have hc : ∀ i, i < (a.1 ++ b.1 ++ [s]).length → v.1 (t + 1) (p + i) = (a.1 ++ b.1 ++ [s]).getD i 0 := hc
  have hQ : ∀ w, FX (FT t) v w → w.1 t 4 = nI (k + 1) → (∀ i, i < k → w.1 (t + 3) i = v.1 (t + 3) i) → w.1 (t + 3) k = joinV (a.2 (v.1 73)) s (b.2 (v.1 73)) → k_T_tells_22 t pt (nI (p + (a.1 ++ b.1 ++ [s]).length)) w Q := hQ
  rw [hl] at hpE hk2 hQ hc
  have hab : (a.1 ++ b.1).length = a.1.length + b.1.length := List.length_append
  have hb0 : 0 ≤ b.1.length := Nat.zero_le _
  refine ha t pt v p k E Q ht hp hE (by omega) h160 (fun i hi => by rw [hc i (by omega), getD_l (by omega), getD_l hi]) hk (by omega) fun w f h4 hbl hv => ?_
  obtain ⟨k1, k2, k3⟩ := FT_keeps f ht
  refine hb t pt w (p + a.1.length) (k + 1) E Q ht hp (by rw [k2]; exact hE) (by omega) h160 (fun i hi => ?_) h4 (by omega) fun w2 f2 h42 hb2 hv2 => ?_
  · rw [k1, Nat.add_assoc, hc _ (by omega), getD_l (by omega), getD_r]
  obtain ⟨m1, m2, m3⟩ := FT_keeps f2 ht
  refine EV_op (x := s) ht hp (by rw [m2, k2]; exact hE) (by omega) h160 ?_ hs.1 ?_
  · rw [m1, k1, show p + a.1.length + b.1.length = p + ((a.1 ++ b.1).length + 0) by omega, hc _ (by omega), getD_r]
    rfl
  refine s_T_tells_82 ?_
  rw [if_neg hs.2.1, if_neg hs.2.2]
  refine ⟨ht, T_pop ht h42 (by omega) (T_pop (k := k) ht (sI_same _ _ _ _) (by omega) (T_joined (T_push (k := k) ht (sI_same _ _ _ _) (by omega) (s_T_tells_148 ?_))))⟩
  rw [nI_1, show p + a.1.length + b.1.length + 1 = p + (a.1.length + b.1.length + 1) by omega]
  refine hQ _ ((f.tr f2).tr (((((FX.rf _ _).sI (Or.inl ⟨rfl, rfl⟩) _).sI (Or.inl ⟨rfl, rfl⟩) _).sI (Or.inr rfl) _).sI (Or.inl ⟨rfl, rfl⟩) _)) (sI_same _ _ _ _) (fun i hi => ?_) ?_
  · rw [sI_cell _ _ _ _ (by omega), sI_slot _ _ _ _ (by omega), sI_cell _ _ _ _ (by omega), sI_cell _ _ _ _ (by omega), hb2 i (by omega)]
    exact hbl i hi
  · have e73 : w.1 73 = v.1 73 := funext k3
    rw [sI_cell _ _ _ _ (by omega), sI_same, sI_cell _ _ _ _ (by omega), hb2 k (by omega), hv, hv2, e73]
def EV (e : Ex) : Prop := EV0 e ∧ 1 ≤ e.1.length
theorem lenp (L : List Int32) (x : Int32) : 1 ≤ (L ++ [x]).length := by rw [List.length_append]; exact Nat.le_add_left _ _
theorem isBi_op {l : Nat} {s : Int32} (h : isOp l s) : isBi s := by
  unfold isOp at h
  unfold isBi
  rcases h with ⟨-, q⟩ | ⟨-, q | q⟩ | ⟨-, q⟩ | ⟨-, q⟩ <;> (rw [q]; decide)
theorem isBi_cm {s : Int32} (h : s = 60 ∨ s = 61) : isBi s := by
  unfold isBi
  rcases h with q | q <;> (rw [q]; decide)
def EVr (r : Out) : Prop := ∀ k e, r = ok k e → EV e
theorem EVr.ok {k : Nat} {e : Ex} (h : EVr (ok k e)) : EV e := h k e rfl
theorem EVr.mk {k : Nat} {e : Ex} (h : EV e) : EVr (some e, k) := fun k2 e2 q => by obtain ⟨-, rfl⟩ := ok_inj q; exact h
theorem EVr.no (k : Nat) : EVr (bad k) := fun k2 e2 q => absurd q.symm ok_bad
theorem Pr_ev {T : Nat → Int32} {o g : Nat} {e : Ex} {j : Nat} {r : Out} (h : Pr T o g e j r) : (7 ≤ g → EV e) → EVr r := by
  refine Pr_rec (P := fun o g e j r => (7 ≤ g → EV e) → EVr r) ?_ ?_ ?_ ?_ ?_ ?_ ?_ ?_ ?_ ?_ ?_ ?_ ?_ ?_ ?_ ?_ ?_ ?_ ?_ ?_ ?_ h
  · intro o j a _; exact .mk ⟨EV_lf a, Nat.le_refl _⟩
  · intro o j a b _; exact .no _
  · intro o j a b c d _; exact .no _
  · intro o j k a b p _; exact .no _
  · intro o j k e a b p c _; exact .no _
  · intro o j k e a b p c _; exact .mk (p.2 (fun z => absurd z (by decide))).ok
  · intro o j k a b p _; exact .no _
  · intro o j k e a b p _; exact .mk (⟨EV_ng (p.2 (fun z => absurd z (by decide))).ok.1, lenp _ _⟩)
  · intro o j k p _; exact .no _
  · intro o j k e p a b _; exact p.2 (fun z => absurd z (by decide))
  · intro o j k e l p a q _; exact .no _
  · intro o j k e l e2 p a q _; exact .mk (⟨EV_bi (isBi_cm a) (p.2 (fun z => absurd z (by decide))).ok.2 (p.2 (fun z => absurd z (by decide))).ok.1 (q.2 (fun z => absurd z (by decide))).ok.1, lenp _ _⟩)
  · intro o j r a p _; exact p.2 (fun z => absurd z (by decide))
  · intro o j a b _; exact .no _
  · intro o j k a b p _; exact .no _
  · intro o j k e a b p _; exact .mk (⟨EV_nt (p.2 (fun z => absurd z (by decide))).ok.1, lenp _ _⟩)
  · intro o j k c a p _; exact .no _
  · intro o j k c e r a p q _
    have := sub_lt c
    exact q.2 fun _ => (p.2 (fun z => by omega)).ok
  · intro o j c e a b he; exact .mk (he (by omega))
  · intro o j k c e a b p _; exact .no _
  · intro o j k c e e2 r a b p q he
    have := sub_lt c
    exact q.2 fun _ => ⟨EV_bi (isBi_op b) (he (by omega)).2 (he (by omega)).1 (p.2 (fun z => by omega)).ok.1, lenp _ _⟩
