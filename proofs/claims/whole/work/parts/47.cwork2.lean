-- all worlds worked out by the class
theorem shl1 : ∀ m, m < 6 → (1 : Int32) <<< (nI m &&& 31) = nI (2 ^ m) := by decide
theorem nb_bI (b : Bool) : nb (bI b) = bI b := by cases b <;> decide
def AWK (i k : Nat) : Prop := AZ i k ∨ 2 ≤ i ∧ i ≤ 72 ∨ i = 1 ∧ (k = 10 ∨ k = 12)
def FK (v w : Vv) : Prop := (∀ i k, ¬ AWK i k → w.1 i k = v.1 i k) ∧ ∀ i k, i ≠ 71 → ¬ (i = 1 ∧ k = 11) → w.2.1 i k = v.2.1 i k
theorem FK.rf (v : Vv) : FK v v := ⟨fun _ _ _ => rfl, fun _ _ _ _ => rfl⟩
theorem FK.tr {u v w : Vv} (h1 : FK u v) (h2 : FK v w) : FK u w := ⟨fun i k h => (h2.1 i k h).trans (h1.1 i k h), fun i k a b => (h2.2 i k a b).trans (h1.2 i k a b)⟩
theorem FK.sI {v w : Vv} (h : FK v w) {i k : Nat} (hA : AWK i k) (x : Int32) : FK v (sI w i k x) := ⟨fun a b hab => by
  rw [sI_at, if_neg (fun q => hab (by rw [q.1, q.2]; exact hA))]
  exact h.1 a b hab, h.2⟩
theorem FK.sJ {v w : Vv} (h : FK v w) {i k : Nat} (hA : i = 71 ∨ i = 1 ∧ k = 11) (x : Int64) : FK v (sJ w i k x) := ⟨h.1, fun a b h1 h2 => by
  rw [sJ_at, if_neg (fun q => by rcases hA with z | z; exact h1 (q.1.trans z); exact h2 ⟨q.1.trans z.1, q.2.trans z.2⟩)]
  exact h.2 a b h1 h2⟩
theorem FX.fk {A : Nat → Nat → Prop} {v w : Vv} (h : FX A v w) (hA : ∀ i k, A i k → AWK i k) : FK v w := ⟨fun i k q => h.1 i k fun z => q (hA i k z), fun i k _ _ => by rw [h.2]⟩
theorem awr_awk {w : Nat} (hw : w < 32) {i k : Nat} (h : AWr w i k) : AWK i k := by
  unfold AWr at h
  rcases h with h | h
  · exact Or.inl h
  · exact Or.inr (Or.inl (by omega))
theorem CA.fk {A : Cf} {n m : Nat} {v w : Vv} (h : CA A n m v) (hA : OK A n m) (f : FK v w) : CA A n m w := h.at hA fun i k a b => f.1 i k fun z => by
  unfold AWK at z
  rcases z with z | z
  · have := AZ_w z; omega
  · omega
theorem TX_fk {v w : Vv} (f : FK v w) : ∀ i k, TXs i → w.1 i k = v.1 i k := fun i k q => f.1 i k fun z => by
  unfold AWK at z
  rcases z with z | z
  · exact (AZ_w z).2.2.2 q
  · unfold TXs at q; omega
section WORK
variable {A : Cf} {F : Rl} {n m : Nat}
theorem ROW.on {w : Nat} {u v : Vv} (h : ROW A F n m w u) (hw : w < 32) (f1 : ∀ i k, (i = 3 + w ∨ i = 36 + w ∨ (68 ≤ i ∧ i ≤ 70 ∧ k = w)) → v.1 i k = u.1 i k) (f2 : v.2.1 71 w = u.2.1 71 w) : ROW A F n m w v := by
  obtain ⟨a, b, c, d, e⟩ := h
  refine ⟨fun x hx => ?_, ?_, f2.trans c, ?_, ?_⟩
  · rw [f1 _ _ (Or.inl rfl), f1 _ _ (Or.inr (Or.inl rfl))]; exact a x hx
  · rw [f1 _ _ (Or.inr (Or.inr ⟨by omega, by omega, rfl⟩))]; exact b
  · rw [f1 _ _ (Or.inr (Or.inr ⟨by omega, by omega, rfl⟩))]; exact d
  · rw [f1 _ _ (Or.inr (Or.inr ⟨by omega, by omega, rfl⟩))]; exact e
/-- a world worked out, all by one step -/
theorem C_world (hA : OK A n m) {w : Nat} (hw : w < 2 ^ m) {v : Vv} (hC : CA A n m v) (hT : CT F v) (h10 : v.1 1 10 = nI (2 ^ m)) (h72 : ∀ d, d < m → v.1 72 d = came A F d) {Q : Vv → Prop} (hQ : ∀ u, FK v u → u.2.2 = v.2.2 → u.1 1 10 = v.1 1 10 → (∀ d, u.1 72 d = v.1 72 d) → ROW A F n m w u → (∀ x, x < 32 → x ≠ w → (∀ i k, (i = 3 + x ∨ i = 36 + x ∨ (68 ≤ i ∧ i ≤ 70 ∧ k = x)) → u.1 i k = v.1 i k) ∧ u.2.1 71 x = v.2.1 71 x) → u.2.1 1 11 = v.2.1 1 11 + (if fit A F n m w = true then chc A F w m else 0) → k_W_work_55 (nI (w + 1)) u Q) : k_W_work_55 (nI w) v Q := by
  obtain ⟨h6, h5, -, -⟩ := id hA
  have hw32 := bt_w h5 hw
  have h2m := two m h5
  refine s_W_work_55 ?_
  rw [h10, if_pos (nI_lt hw (by omega)), ix_nI (by omega)]
  refine C_play hA hw32 hC hT fun v1 f1 hR => ?_
  have hC1 := hC.az hA hw32 f1
  refine C_right hA hw32 hC1 hR ⟨ib_nI hw32 (by decide), ?_⟩
  have g2 : FK v (sI v1 68 w (rgt A F n m w n)) := (f1.fk fun i k z => awr_awk hw32 z).sI (Or.inr (Or.inl (by omega))) _
  have hC2 := hC.fk hA g2
  have lo : ∀ i k, ¬ AWr w i k → i ≠ 68 → (sI v1 68 w (rgt A F n m w n)).1 i k = v.1 i k := fun i k z y => by rw [sI_cell _ _ _ _ y, f1.1 _ _ z]
  have nW : ∀ i k, 1 ≤ i → i ≤ 72 → i ≠ 3 + w → i ≠ 36 + w → ¬ AWr w i k := fun i k a b c d z => by
    unfold AWr at z
    rcases z with z | z | z
    · have := AZ_w z; omega
    · exact c z
    · exact d z
  refine C_chance hA hw32 hC2 (fun d hd => by rw [lo _ _ (nW _ _ (by omega) (by omega) (by omega) (by omega)) (by decide)]; exact h72 d hd) ?_
  have g3 : FK v (sJ (sI v1 68 w (rgt A F n m w n)) 71 w (chc A F w m)) := g2.sJ (Or.inl rfl) _
  have hC3 := hC.fk hA g3
  have hR3 : RW w n (gone A F n w m).1 (sJ (sI v1 68 w (rgt A F n m w n)) 71 w (chc A F w m)) := fun c hc => by
    show (sI v1 68 w (rgt A F n m w n)).1 (3 + w) c = _ ∧ (sI v1 68 w (rgt A F n m w n)).1 (36 + w) c = _
    rw [sI_cell _ _ _ _ (by omega), sI_cell _ _ _ _ (by omega)]
    exact hR c hc
  refine C_time hA hw32 hC3 hR3 ?_
  generalize hv3 : sJ (sI v1 68 w (rgt A F n m w n)) 71 w (chc A F w m) = v3 at g3 hC3 hR3 ⊢
  have r68 : v3.1 68 w = rgt A F n m w n := by rw [← hv3]; exact sI_same _ _ _ _
  have r71 : v3.2.1 71 w = chc A F w m := by rw [← hv3, sJ_at, if_pos ⟨rfl, rfl⟩]
  have r3 : ∀ i k, ¬ AWr w i k → i ≠ 68 → v3.1 i k = v.1 i k := fun i k z y => by rw [← hv3]; exact lo i k z y
  have r68o : ∀ k, k ≠ w → v3.1 68 k = v.1 68 k := fun k hk => by
    rw [← hv3]
    show (sI v1 68 w (rgt A F n m w n)).1 68 k = _
    rw [sI_slot _ _ _ _ hk, f1.1 _ _ (nW _ _ (by omega) (by omega) (by omega) (by omega))]
  have r71o : ∀ i k, ¬ (i = 71 ∧ k = w) → v3.2.1 i k = v.2.1 i k := fun i k hk => by
    rw [← hv3, sJ_at, if_neg hk]
    show v1.2.1 i k = _
    rw [f1.2]
  have r22 : v3.2.2 = v.2.2 := by
    rw [← hv3]
    show v1.2.2 = _
    rw [f1.2]
  have hx : (if (if (tmf A F n m w n).2 = true then (tmf A F n m w n).1 else -2) = (-2 : Int32) then false else true) = fit A F n m w := by
    unfold fit
    by_cases q : (tmf A F n m w n).2 = true
    · rw [if_pos q, q, if_neg]
      intro z
      rcases tmf_time (A := A) (F := F) (n := n) (m := m) (w := w) n with y | y
      · rw [z] at y; exact absurd y (by decide)
      · rw [z] at y; exact absurd y.1 (by decide)
    · rw [if_neg q, if_pos rfl]
      cases hq : (tmf A F n m w n).2
      · rfl
      · exact absurd hq q
  rw [hx, nb_bI, sI_same]
  have hy : (if bI (fit A F n m w) = 0 then (-1 : Int32) else (if (tmf A F n m w n).2 = true then (tmf A F n m w n).1 else -2)) = tim A F n m w := by
    unfold tim
    have : fit A F n m w = (tmf A F n m w n).2 := rfl
    rw [← this]
    cases hq : fit A F n m w
    · rw [if_pos (by decide), if_neg (by decide)]
    · rw [if_neg (by decide), if_pos rfl, if_pos rfl]
  rw [hy]
  have e69 : (sI (sI v3 69 w (bI (fit A F n m w))) 70 w (tim A F n m w)).1 69 w = bI (fit A F n m w) := by rw [sI_cell _ _ _ _ (by decide), sI_same]
  have e71 : (sI (sI v3 69 w (bI (fit A F n m w))) 70 w (tim A F n m w)).2.1 71 w = chc A F w m := r71
  have e11 : (sI (sI v3 69 w (bI (fit A F n m w))) 70 w (tim A F n m w)).2.1 1 11 = v.2.1 1 11 := r71o _ _ (by omega)
  rw [e69, e71, e11]
  have g5 : FK v (sI (sI v3 69 w (bI (fit A F n m w))) 70 w (tim A F n m w)) := (g3.sI (Or.inr (Or.inl (by omega))) _).sI (Or.inr (Or.inl (by omega))) _
  have hfin : ∀ u : Vv, FK v u → u.1 = (sI (sI v3 69 w (bI (fit A F n m w))) 70 w (tim A F n m w)).1 → (∀ x, u.2.1 71 x = v3.2.1 71 x) → u.2.2 = v3.2.2 → u.2.1 1 11 = v.2.1 1 11 + (if fit A F n m w = true then chc A F w m else 0) → k_W_work_157 (nI w) u Q := fun u g e1 e2 e3 e4 => by
    refine s_W_work_157 ?_
    rw [nI_1]
    refine hQ u g (e3.trans r22) ?_ (fun d => ?_) ⟨fun c hc => ?_, ?_, ?_, ?_, ?_⟩ (fun x hx32 hxw => ⟨fun i k hik => ?_, ?_⟩) e4
    · rw [e1, sI_cell _ _ _ _ (by decide), sI_cell _ _ _ _ (by decide), r3 _ _ (nW _ _ (by omega) (by omega) (by omega) (by omega)) (by decide)]
    · rw [e1, sI_cell _ _ _ _ (by decide), sI_cell _ _ _ _ (by decide), r3 _ _ (nW _ _ (by omega) (by omega) (by omega) (by omega)) (by decide)]
    · rw [e1, sI_cell _ _ _ _ (by omega), sI_cell _ _ _ _ (by omega), sI_cell _ _ _ _ (by omega), sI_cell _ _ _ _ (by omega)]
      exact hR3 c hc
    · rw [e1, sI_cell _ _ _ _ (by decide), sI_cell _ _ _ _ (by decide)]; exact r68
    · rw [e2]; exact r71
    · rw [e1, sI_cell _ _ _ _ (by decide), sI_same]; rfl
    · rw [e1, sI_same]
    · rcases hik with rfl | rfl | ⟨a, b, rfl⟩
      · rw [e1, sI_cell _ _ _ _ (by omega), sI_cell _ _ _ _ (by omega), r3 _ _ (nW _ _ (by omega) (by omega) (by omega) (by omega)) (by omega)]
      · rw [e1, sI_cell _ _ _ _ (by omega), sI_cell _ _ _ _ (by omega), r3 _ _ (nW _ _ (by omega) (by omega) (by omega) (by omega)) (by omega)]
      · rw [e1, sI_slot _ _ _ _ hxw, sI_slot _ _ _ _ hxw]
        by_cases c68 : i = 68
        · rw [c68]; exact r68o _ hxw
        · exact r3 _ _ (nW _ _ (by omega) (by omega) (by omega) (by omega)) c68
    · rw [e2, r71o _ _ (by omega)]
  cases hq : fit A F n m w
  · rw [if_pos (by decide)]
    rw [hq] at hfin g5
    refine hfin _ g5 rfl (fun _ => rfl) rfl ?_
    rw [if_neg (by decide)]
    show v3.2.1 1 11 = _
    rw [r71o _ _ (by omega), Int64.add_zero]
  · rw [if_neg (by decide)]
    rw [hq] at hfin g5
    refine hfin _ (g5.sJ (Or.inr ⟨rfl, rfl⟩) _) rfl (fun x => ?_) rfl ?_
    · rw [sJ_at, if_neg (by omega)]
    · rw [sJ_at, if_pos ⟨rfl, rfl⟩, if_pos rfl]
theorem C_work (hA : OK A n m) {l : Nat} {v : Vv} (hC : CA A n m v) (hT : CT F (sR v l)) {Q : Vv → Prop} (hQ : ∀ u, FK v u → u.2.2 = l → u.1 1 12 = 0 → FRESH A F n m u → Q u) : m_W_work l v Q := by
  obtain ⟨h6, h5, -, -⟩ := id hA
  have h2m := two m h5
  refine s_W_work ?_
  rw [show (sR v l).1 74 3 = nI m from hC.2.1, shl1 m (by omega)]
  generalize hv0 : sJ (sI (sR v l) 1 10 (nI (2 ^ m))) 1 11 0 = v0
  have g0 : FK v v0 := by
    rw [← hv0]
    have : FK v (sR v l) := ⟨fun _ _ _ => rfl, fun _ _ _ _ => rfl⟩
    exact (this.sI (Or.inr (Or.inr ⟨rfl, Or.inl rfl⟩)) _).sJ (Or.inr ⟨rfl, rfl⟩) _
  have e22 : v0.2.2 = l := by rw [← hv0]
  have e10 : v0.1 1 10 = nI (2 ^ m) := by rw [← hv0]; exact sI_same (sR v l) 1 10 _
  have e11 : v0.2.1 1 11 = 0 := by rw [← hv0, sJ_at, if_pos ⟨rfl, rfl⟩]
  have hT0 : ∀ u, FK v u → u.2.2 = l → CT F u := fun u g e => hT.at (TX_fk g) e
  have hworlds : ∀ j w : Nat, w + j = 2 ^ m → ∀ u, FK v u → u.2.2 = l → u.1 1 10 = nI (2 ^ m) → (∀ d, d < m → u.1 72 d = came A F d) → (∀ x, x < w → ROW A F n m x u) → u.2.1 1 11 = allc A F n m w → k_W_work_55 (nI w) u Q := by
    intro j
    induction j with
    | zero =>
      intro w e u g u22 u10 u72 ur ua
      obtain rfl : w = 2 ^ m := e
      refine s_W_work_55 ?_
      rw [u10, if_neg (nI_nlt (Nat.le_refl _) (by omega))]
      refine hQ _ (g.sI (Or.inr (Or.inr ⟨rfl, Or.inr rfl⟩)) _) u22 (sI_same _ _ _ _) ⟨?_, ua, fun d hd => ?_, fun x hx => ?_⟩
      · rw [sI_slot _ _ _ _ (by decide)]; exact u10
      · rw [sI_cell _ _ _ _ (by decide)]; exact u72 d hd
      · exact (ur x hx).on (bt_w h5 hx) (fun i k hik => by rw [sI_cell _ _ _ _ (by omega)]) rfl
    | succ j ih =>
      intro w e u g u22 u10 u72 ur ua
      refine C_world hA (by omega) (hC.fk hA g) (hT0 u g u22) u10 u72 fun u2 g2 e22 e10 e72 er eo ea => ?_
      refine ih (w + 1) (by omega) u2 (g.tr g2) (e22.trans u22) (e10.trans u10) (fun d hd => (e72 d).trans (u72 d hd)) (fun x hx => ?_) ?_
      · by_cases q : x = w
        · rw [q]; exact er
        · have hx32 := bt_w h5 (show x < 2 ^ m by omega)
          obtain ⟨o1, o2⟩ := eo x hx32 q
          exact (ur x (by omega)).on hx32 o1 o2
      · rw [ea, ua]; rfl
  have hcame : ∀ j d : Nat, d + j = m → ∀ u, FK v u → u.2.2 = l → u.1 1 10 = nI (2 ^ m) → (∀ x, x < d → u.1 72 x = came A F x) → u.2.1 1 11 = 0 → k_W_work_25 (nI d) u Q := by
    intro j
    induction j with
    | zero =>
      intro d e u g u22 u10 u72 ua
      obtain rfl : d = m := e
      refine s_W_work_25 ?_
      rw [(hC.fk hA g).2.1, if_neg (nI_nlt (Nat.le_refl _) (by omega))]
      exact hworlds (2 ^ d) 0 (by omega) u g u22 u10 u72 (fun x hx => absurd hx (Nat.not_lt_zero _)) ua
    | succ j ih =>
      intro d e u g u22 u10 u72 ua
      have hCu := hC.fk hA g
      refine s_W_work_25 ?_
      rw [hCu.2.1, if_pos (nI_lt (by omega) (by omega))]
      refine C_came hA (by omega) hCu (hT0 u g u22) fun u1 f1 => ⟨ib_nI (by omega) (by decide), ?_⟩
      have nz : ∀ i k, i ≤ 72 → u1.1 i k = u.1 i k := fun i k hi => f1.1 _ _ fun z => by have := AZ_w z; omega
      rw [ix_nI (by omega), nI_1]
      refine ih (d + 1) (by omega) _ ((g.tr (f1.fk fun i k z => Or.inl z)).sI (Or.inr (Or.inl (by omega))) _) ?_ ?_ (fun x hx => ?_) ?_
      · show u1.2.2 = l
        rw [f1.2]; exact u22
      · rw [sI_cell _ _ _ _ (by decide), nz _ _ (by decide)]; exact u10
      · by_cases q : x = d
        · rw [q, sI_same]
        · rw [sI_slot _ _ _ _ q, nz _ _ (by decide)]; exact u72 x (by omega)
      · show u1.2.1 1 11 = 0
        rw [f1.2]; exact ua
  exact hcame m 0 (by omega) v0 g0 e22 e10 (fun x hx => absurd hx (Nat.not_lt_zero _)) e11
end WORK
