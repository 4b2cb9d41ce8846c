-- live, film, drawn, chance, told of what came tells
def ALV (i k : Nat) : Prop := AQu i k ∨ 77 ≤ i ∧ i ≤ 82 ∧ (k = 1 ∨ k = 3) ∨ i = 158 ∨ i = 161
def ALc (i k : Nat) : Prop := 77 ≤ i ∧ i ≤ 82 ∧ (k = 1 ∨ k = 3)
def ALm (i _ : Nat) : Prop := i = 158 ∨ i = 161
section LV
variable {A : Cf} {F : Rl} {n m : Nat}
noncomputable def ofl (A : Cf) (F : Rl) (n m w c : Nat) : Int32 := clamp (wat A F n m w c - 60) (-120) 120
theorem ofl_rng (w c : Nat) : -120 ≤ (ofl A F n m w c).toInt ∧ (ofl A F n m w c).toInt ≤ 120 := by
  have := clamp_rng (x := wat A F n m w c - 60) (a := -120) (b := 120) (by decide)
  rw [t_n120, t_120] at this
  exact this
theorem live_step {a : Int32} {v : Vv} (h : INW v) {Q : Int32 → Int32 → Vv → Prop} (h0 : ∀ r, Q r r v) (hQ : ∀ r w, HO w → (∀ i k, ¬ ALV i k → w.1 i k = v.1 i k) → w.1 1 12 = 1 → Q r r w) : m_P_live a v (fun r v1 => m_M_live a v1 (fun r' v2 => Q r r' v2)) := by
  obtain ⟨n, m, hRH⟩ := id h.1
  obtain ⟨⟨h6, h5⟩, ⟨n1, n2⟩, ⟨m1, m2⟩, hru, hcl, hdo⟩ := id hRH
  have n1 : v.1 74 2 = nI n := n1
  have n2 : v.1 154 11 = nI n := n2
  have m1 : v.1 74 3 = nI m := m1
  have m2 : v.1 154 15 = nI m := m2
  have h2m := two m h5
  refine s_P_live (C_isWorld h5 m1 ?_)
  by_cases c2 : 0 ≤ a.toInt ∧ a.toInt < ((2 ^ m : Nat) : Int)
  rotate_left
  · rw [decide_eq_false c2, if_neg (by decide)]
    refine s_M_live (M_isWorld h5 m2 ?_)
    rw [decide_eq_false c2, if_neg (by decide)]
    exact h0 _
  rw [decide_eq_true c2, if_pos rfl]
  obtain ⟨w, hw, rfl⟩ := nI_of3 (x := a) (n := 2 ^ m) c2.1 c2.2
  have hw32 := bt_w h5 hw
  refine worked_R h fun A F n' m' u f hr hcc e1 e2 => ⟨rfl, ?_⟩
  obtain rfl := nm_eq (by have := hr.1.1; omega) (by omega) (e1.symm.trans n1)
  obtain rfl := nm_eq (by have := hr.1.2.1; omega) (by omega) (e2.symm.trans m1)
  obtain ⟨hA, hC, hMA, hR, hMT, hF⟩ := id hr
  have hrow := hF.2.2.2 w hw
  -- the reference, behind the class
  have last : ∀ y, FX ALc u y → (∀ x, x < n' → y.1 (77 + x) 1 = ofl A F n' m' w x ∧ y.1 (77 + x) 3 = -1) → m_M_live (nI w) (sI y 1 12 1) (fun r' v2 => Q (bitI (rgt A F n' m' w n')) r' v2) := fun y fy hy => by
    have hi : ∀ i k, 88 ≤ i → (sI y 1 12 1).1 i k = u.1 i k := fun i k q => by rw [sI_cell _ _ _ _ (by omega)]; exact fy.1 _ _ (by unfold ALc; omega)
    have hM1 : MA A n' m' (sI y 1 12 1) := hMA.at fun i k q => hi i k (by omega)
    have hT1 : MT F (sI y 1 12 1) := hMT.at (fun i k q => hi i k (by unfold TXs at q; omega)) (hi _ _ (by omega))
    refine s_M_live (M_isWorld h5 hM1.2.1 ?_)
    rw [decide_eq_true c2, if_pos rfl]
    refine M_makes hA hw32 hM1 hT1 fun y2 f2 hrow2 => ?_
    have hM2 := hM1.fw f2
    have key : ∀ j c : Nat, c + j = n' → ∀ z, FX ALm y2 z → (∀ x, x < c → z.1 158 x = ofl A F n' m' w x ∧ z.1 161 x = -1) → k_M_live_18 (nI w) (nI c) z (fun r' v2 => Q (bitI (rgt A F n' m' w n')) r' v2) := by
      intro j
      induction j with
      | zero =>
        intro c e z fz hz
        obtain rfl : c = n' := e
        refine s_M_live_18 ?_
        rw [fz.1 154 11 (by unfold ALm; omega), hM2.1, if_neg (nI_nlt (Nat.le_refl _) (by omega)), ix_nI (by omega), fz.1 168 w (by unfold ALm; omega), hrow2.2.1]
        refine ⟨ib_nI (by omega) (by decide), M_bitsOf (rgt_64 hA w) ?_⟩
        have lo : ∀ i k, ¬ ALV i k → z.1 i k = v.1 i k := fun i k q => by
          unfold ALV AQu at q
          rw [fz.1 _ _ (by unfold ALm; omega), f2.1 _ _ (by unfold AMw; omega), sI_at, if_neg (by unfold AWK at q; omega), fy.1 _ _ (by unfold ALc; omega), f.1 _ _ (fun z => q (Or.inl (Or.inl z)))]
        have hc77 : ∀ x k, x < c → z.1 (77 + x) k = y.1 (77 + x) k := fun x k hx => by
          rw [fz.1 _ _ (by unfold ALm; omega), f2.1 _ _ (by unfold AMw; omega), sI_cell _ _ _ _ (by omega)]
        have lo2 : ∀ i k, (74 ≤ i ∧ i ≤ 76 ∨ 83 ≤ i ∧ i ≤ 87 ∨ 77 ≤ i ∧ i ≤ 82 ∧ (k = 0 ∨ k = 2) ∨ 159 ≤ i ∧ i ≤ 160 ∨ 162 ≤ i ∧ i ≤ 164 ∨ i = 154 ∧ (k = 11 ∨ k = 15 ∨ k = 4)) → z.1 i k = v.1 i k := fun i k q => lo i k fun x => by
          unfold ALV AQu AWK at x
          rcases x with (x | x) | x
          · rcases x with x | x
            · have := AZ_w x; omega
            · omega
          · omega
          · omega
        have h12 : z.1 1 12 = 1 := by
          rw [fz.1 _ _ (by unfold ALm; omega), f2.1 _ _ (by unfold AMw; omega)]
          exact sI_same y 1 12 1
        refine hQ _ z ⟨c, m', ⟨h6, h5⟩, ⟨(lo2 74 2 (by omega)).trans n1, (lo2 154 11 (by omega)).trans n2⟩, ⟨(lo2 74 3 (by omega)).trans m1, (lo2 154 15 (by omega)).trans m2⟩, ?_, fun x hx => ?_, fun d hd => ?_⟩ lo h12
        · show z.1 154 4 = z.1 74 4 ∧ 0 ≤ (z.1 74 4).toInt ∧ (z.1 74 4).toInt ≤ 5
          rw [lo2 154 4 (by omega), lo2 74 4 (by omega)]
          exact hru
        · show (z.1 159 x = z.1 (74 + 3 + x) 0 ∧ z.1 158 x = z.1 (74 + 3 + x) 1 ∧ z.1 160 x = z.1 (74 + 3 + x) 2 ∧ z.1 161 x = z.1 (74 + 3 + x) 3) ∧ (0 ≤ (z.1 (74 + 3 + x) 0).toInt ∧ (z.1 (74 + 3 + x) 0).toInt ≤ 5) ∧ (-120 ≤ (z.1 (74 + 3 + x) 1).toInt ∧ (z.1 (74 + 3 + x) 1).toInt ≤ 120) ∧ (0 ≤ (z.1 (74 + 3 + x) 2).toInt ∧ (z.1 (74 + 3 + x) 2).toInt ≤ 1) ∧ (-1 ≤ (z.1 (74 + 3 + x) 3).toInt ∧ (z.1 (74 + 3 + x) 3).toInt ≤ 1439)
          have hx2 : x < c := hx
          obtain ⟨⟨k1, k2, k3, k4⟩, k5, k6, k7, k8⟩ := hcl x hx
          have k1 : v.1 159 x = v.1 (74 + 3 + x) 0 := k1
          have k3 : v.1 160 x = v.1 (74 + 3 + x) 2 := k3
          have k5 : 0 ≤ (v.1 (74 + 3 + x) 0).toInt ∧ (v.1 (74 + 3 + x) 0).toInt ≤ 5 := k5
          have k7 : 0 ≤ (v.1 (74 + 3 + x) 2).toInt ∧ (v.1 (74 + 3 + x) 2).toInt ≤ 1 := k7
          have z1 : z.1 (74 + 3 + x) 1 = ofl A F c m' w x := (hc77 x 1 hx2).trans (hy x hx2).1
          have z3 : z.1 (74 + 3 + x) 3 = -1 := (hc77 x 3 hx2).trans (hy x hx2).2
          rw [z1, z3, (hz x hx2).1, (hz x hx2).2, lo2 159 x (by omega), lo2 160 x (by omega), lo2 (74 + 3 + x) 0 (by omega), lo2 (74 + 3 + x) 2 (by omega)]
          exact ⟨⟨k1, rfl, k3, rfl⟩, k5, ofl_rng w x, k7, by decide, by decide⟩
        · show (z.1 162 d = z.1 (74 + 9 + d) 0 ∧ z.1 163 d = z.1 (74 + 9 + d) 1 ∧ z.1 164 d = z.1 (74 + 9 + d) 2) ∧ (0 ≤ (z.1 (74 + 9 + d) 0).toInt ∧ (z.1 (74 + 9 + d) 0).toInt ≤ 5) ∧ (0 ≤ (z.1 (74 + 9 + d) 1).toInt ∧ (z.1 (74 + 9 + d) 1).toInt ≤ 9) ∧ (0 ≤ (z.1 (74 + 9 + d) 2).toInt ∧ (z.1 (74 + 9 + d) 2).toInt ≤ 63)
          have y9 : ∀ k, z.1 (74 + 9 + d) k = v.1 (74 + 9 + d) k := fun k => lo2 _ _ (by omega)
          rw [lo2 162 _ (by omega), lo2 163 _ (by omega), lo2 164 _ (by omega), y9, y9, y9]
          exact hdo d hd
      | succ j ih =>
        intro c e z fz hz
        have hc : c < n' := by omega
        refine s_M_live_18 ?_
        rw [fz.1 154 11 (by unfold ALm; omega), hM2.1, if_pos (nI_lt (by omega) (by omega)), six, ix_nI (by omega), ix_nI (by omega), fz.1 165 _ (by unfold ALm; omega), (hrow2.1 c hc).1]
        refine ⟨ib_nI (by omega) (by decide), M_within ⟨ib_nI (by omega) (by decide), ?_⟩⟩
        rw [nI_1]
        refine ih (c + 1) (by omega) _ ((fz.sI (Or.inl rfl) _).sI (Or.inr rfl) _) fun x hx => ?_
        by_cases q : x = c
        · subst q
          refine ⟨?_, sI_same _ _ _ _⟩
          rw [sI_cell _ _ _ _ (by decide), sI_same]
          rfl
        · rw [sI_cell _ _ _ _ (by decide), sI_slot _ _ _ _ q, sI_slot _ _ _ _ q, sI_cell _ _ _ _ (by decide)]
          exact hz x (by omega)
    exact key n' 0 (by omega) y2 (FX.rf _ _) fun x hx => absurd hx (Nat.not_lt_zero _)
  have key : ∀ j c : Nat, c + j = n' → ∀ y, FX ALc u y → (∀ x, x < c → y.1 (77 + x) 1 = ofl A F n' m' w x ∧ y.1 (77 + x) 3 = -1) → k_P_live_18 (nI w) (nI c) y (fun r v1 => m_M_live (nI w) v1 (fun r' v2 => Q r r' v2)) := by
    intro j
    induction j with
    | zero =>
      intro c e y fy hy
      obtain rfl : c = n' := e
      refine s_P_live_18 ?_
      rw [fy.1 74 2 (by unfold ALc; omega), hC.1, if_neg (nI_nlt (Nat.le_refl _) (by omega)), ix_nI (by omega), sI_cell _ _ _ _ (by decide), fy.1 68 w (by unfold ALc; omega), hrow.2.1]
      exact ⟨ib_nI (by omega) (by decide), JI_bitCount (rgt_64 hA w) (last y fy hy)⟩
    | succ j ih =>
      intro c e y fy hy
      have hc : c < n' := by omega
      refine s_P_live_18 ?_
      rw [fy.1 74 2 (by unfold ALc; omega), hC.1, if_pos (nI_lt (by omega) (by omega)), ix_nI (by omega), ix_nI (by omega), fy.1 (3 + w) c (by unfold ALc; omega), (hrow.1 c hc).1]
      refine ⟨ib_nI (by omega) (by decide), ib_nI (by omega) (by decide), P_bounded (by decide) ?_⟩
      rw [nI_1]
      refine ih (c + 1) (by omega) _ ((fy.sI (by unfold ALc; omega) _).sI (by unfold ALc; omega) _) fun x hx => ?_
      by_cases q : x = c
      · subst q
        refine ⟨?_, sI_same _ _ _ _⟩
        rw [sI_slot _ _ _ _ (by decide), sI_same]
        rfl
      · rw [sI_cell _ _ _ _ (by omega), sI_cell _ _ _ _ (by omega), sI_cell _ _ _ _ (by omega), sI_cell _ _ _ _ (by omega)]
        exact hy x (by omega)
  exact key n' 0 (by omega) u (FX.rf _ _) fun x hx => absurd hx (Nat.not_lt_zero _)
-- film
def AFM (i k : Nat) : Prop := AQu i k ∨ 146 ≤ i ∧ i ≤ 153 ∨ 173 ≤ i ∧ i ≤ 176
theorem kept_bit (x : Int32) (h : x = 0 ∨ x = 1) : kept 0 x = x := by
  rcases h with rfl | rfl <;> decide
theorem bit_01 (x : Int32) : x &&& 1 = 0 ∨ x &&& 1 = 1 := by
  have h : ∀ b : BitVec 32, b &&& 1#32 = 0#32 ∨ b &&& 1#32 = 1#32 := by
    intro b
    by_cases z : b.getLsbD 0
    · right
      apply BitVec.eq_of_getLsbD_eq
      intro i hi
      by_cases y : i = 0
      · subst y; simp [z]
      · simp [y]
    · left
      apply BitVec.eq_of_getLsbD_eq
      intro i hi
      by_cases y : i = 0
      · subst y; simpa using z
      · simp [y]
  rcases h x.toBitVec with q | q
  · left
    apply Int32.toBitVec_inj.mp
    exact q
  · right
    apply Int32.toBitVec_inj.mp
    exact q
theorem film_step {a b : Int32} {v : Vv} (h : INW v) (hrs : RS v) {Q : Int32 → Int32 → Vv → Prop} (h0 : ∀ r, Q r r v) (hQ : ∀ r w, (∀ i k, ¬ AFM i k → w.1 i k = v.1 i k) → RS w → CACHE w → Q r r w) : m_P_film a b v (fun r v1 => m_M_film a b v1 (fun r' v2 => Q r r' v2)) := by
  obtain ⟨n, m, h6, h5, n1, n2, m1, m2⟩ := HO_nm h.1
  have h2m := two m h5
  refine s_P_film (P_isSheet ?_)
  by_cases c1 : 0 ≤ a.toInt ∧ a.toInt < 4
  rotate_left
  · rw [decide_eq_false c1, if_neg (by decide)]
    refine s_M_film (M_isSheet ?_)
    rw [decide_eq_false c1, if_neg (by decide)]
    exact h0 _
  rw [decide_eq_true c1, if_pos rfl]
  refine C_isWorld h5 m1 ?_
  by_cases c2 : 0 ≤ b.toInt ∧ b.toInt < ((2 ^ m : Nat) : Int)
  rotate_left
  · rw [decide_eq_false c2, if_neg (by decide)]
    refine s_M_film (M_isSheet ?_)
    rw [decide_eq_true c1, if_pos rfl]
    refine M_isWorld h5 m2 ?_
    rw [decide_eq_false c2, if_neg (by decide)]
    exact h0 _
  rw [decide_eq_true c2, if_pos rfl]
  obtain ⟨s, hs, rfl⟩ := nI_of3 (x := a) (n := 4) c1.1 c1.2
  obtain ⟨w, hw, rfl⟩ := nI_of3 (x := b) (n := 2 ^ m) c2.1 c2.2
  have hw32 := bt_w h5 hw
  refine worked_R h fun A F n' m' u f hr hcc e1 e2 => ⟨rfl, ib_nI hw32 (by decide), ib_nI hs (by decide), ?_⟩
  obtain rfl := nm_eq (by have := hr.1.1; omega) (by omega) (e1.symm.trans n1)
  obtain rfl := nm_eq (by have := hr.1.2.1; omega) (by omega) (e2.symm.trans m1)
  obtain ⟨hA, hC, hMA, hR, hMT, hF⟩ := id hr
  have hrow := hF.2.2.2 w hw
  have hsh : isSheet (146 + 2 * s) := by
    have := isSheet_of (x := nI s) c1
    rwa [ix_nI (by omega)] at this
  rw [ix_nI (by omega), ix_nI (by omega), hrow.2.1, hC.1]
  refine S_become hsh ?_
  have hn40 : 0 ≤ (nI n').toInt ∧ (nI n').toInt ≤ 40 := by rw [nI_tI (by omega)]; omega
  have hcl : clamp (nI n') 0 40 = nI n' := clamp_in (by rw [t_0, t_40]; exact hn40)
  -- what the class writes
  have rdC : ∀ i k, (sBecome u (146 + 2 * s) 0 (nI n')).1 i k = if i = 146 + 2 * s + 1 ∧ k < 40 then 0 else if i = 146 + 2 * s ∧ k = 2 then nI n' else if i = 146 + 2 * s ∧ k = 1 then 0 else u.1 i k := fun i k => by
    unfold sBecome
    rw [hcl, fz_at, sI_at, sI_at]
  have lou : ∀ i k, ¬ AFM i k → u.1 i k = v.1 i k := fun i k q => f.1 i k fun z => q (Or.inl (Or.inl z))
  have lou2 : ∀ i k, 146 ≤ i → u.1 i k = v.1 i k := fun i k hi => f.1 _ _ fun z => by
    unfold AWK at z
    rcases z with z | z
    · have := AZ_w z; omega
    · omega
  have last : ∀ y, FX (fun i _ => i = 146 + 2 * s ∨ i = 146 + 2 * s + 1) u y → y.1 (146 + 2 * s) 1 = 0 → y.1 (146 + 2 * s) 2 = nI n' → (∀ x, x < n' → y.1 (146 + 2 * s + 1) x = ((rgt A F n' m' w n' >>> (nI x &&& 31)) &&& 1)) → m_M_film (nI s) (nI w) y (fun r' v2 => Q (nI n') r' v2) := fun y fy y1 y2 y3 => by
    have hi : ∀ i k, 154 ≤ i → y.1 i k = u.1 i k := fun i k q => fy.1 _ _ (by omega)
    have hM1 : MA A n' m' y := hMA.at fun i k q => hi i k (by omega)
    have hT1 : MT F y := hMT.at (fun i k q => fy.1 i k (by unfold TXs at q; omega)) (hi _ _ (by omega))
    refine s_M_film (M_isSheet ?_)
    rw [decide_eq_true c1, if_pos rfl]
    refine M_isWorld h5 hM1.2.1 ?_
    rw [decide_eq_true c2, if_pos rfl]
    refine M_makes hA hw32 hM1 hT1 fun z f2 hrow2 => ?_
    have hM2 := hM1.fw f2
    rw [hM2.1]
    refine s_M_sheet (M_isSheet ?_)
    rw [decide_eq_true c1, if_pos rfl]
    refine M_in ?_
    rw [decide_eq_true (by decide), if_pos rfl, if_neg (by decide)]
    have h40 : ¬ (40 : Int32) < nI n' := by rw [Int32.lt_iff_toInt_lt, t_40]; omega
    rw [if_neg h40]
    refine s_M_sheet_34 ?_
    rw [if_neg (by decide), if_neg (by rw [Int32.lt_iff_toInt_lt, t_0]; omega)]
    refine M_sheet_set hs (by decide) hn40 ?_
    have rdM : ∀ i k, (mBecome z s 0 (nI n')).1 i k = if i = 176 ∧ 40 * s ≤ k ∧ k < 40 * s + n' then 0 else if i = 175 ∧ k = s then nI n' else if i = 174 ∧ k = s then 0 else if i = 173 ∧ k = s then 1 else z.1 i k := fun i k => by
      unfold mBecome
      rw [ix_nI (by omega), fzo_at, sI_at, sI_at, sI_at]
    have key : ∀ j c : Nat, c + j = n' → ∀ q, FX (fun i k => i = 176 ∧ 40 * s ≤ k ∧ k < 40 * s + 40) (mBecome z s 0 (nI n')) q → (∀ x, x < c → q.1 176 (40 * s + x) = ((rgt A F n' m' w n' >>> (nI x &&& 31)) &&& 1)) → k_M_film_36 (nI s) (nI w) (nI c) q (fun r' v2 => Q (nI n') r' v2) := by
      intro j
      induction j with
      | zero =>
        intro c e q fq hq
        obtain rfl : c = n' := e
        refine s_M_film_36 ?_
        have q11 : q.1 154 11 = nI c := by
          rw [fq.1 _ _ (by omega), rdM]
          repeat (first | rw [if_neg (by omega)] | rw [if_pos (by omega)])
          exact hM2.1
        rw [q11, if_neg (nI_nlt (Nat.le_refl _) (by omega))]
        have hlow : ∀ i k, ¬ (173 ≤ i ∧ i ≤ 176) → q.1 i k = z.1 i k := fun i k hik => by
          rw [fq.1 _ _ (by omega), rdM]
          repeat (first | rw [if_neg (by omega)] | rw [if_pos (by omega)])
        refine hQ _ q (fun i k hik => ?_) (fun t ht => ?_) (hcc.kw ⟨fun i k hik => ?_, fun k => ?_, ?_, ?_⟩)
        · have hik' := hik
          unfold AFM AQu at hik
          rw [hlow _ _ (by omega), f2.1 _ _ (by unfold AMw; omega), fy.1 _ _ (by omega)]
          exact lou i k hik'
        · have hv := hrs t ht
          have hzy : ∀ k, z.1 (146 + 2 * t) k = y.1 (146 + 2 * t) k ∧ z.1 (146 + 2 * t + 1) k = y.1 (146 + 2 * t + 1) k := fun k => ⟨f2.1 _ _ (by unfold AMw; omega), f2.1 _ _ (by unfold AMw; omega)⟩
          have hz3 : ∀ i k, 173 ≤ i → z.1 i k = v.1 i k := fun i k hi2 => by
            rw [f2.1 _ _ (by unfold AMw; omega), hi _ _ (by omega), lou2 _ _ (by omega)]
          unfold RS1 at hv ⊢
          rw [hlow (146 + 2 * t) 1 (by omega), hlow (146 + 2 * t) 2 (by omega), (hzy 1).1, (hzy 2).1]
          by_cases et : t = s
          · subst et
            rw [y1, y2]
            refine ⟨Or.inr ⟨?_, by decide, ?_, ?_, fun i hi2 => ?_⟩, hn40⟩
            · rw [fq.1 _ _ (by omega), rdM]
              repeat (first | rw [if_neg (by omega)] | rw [if_pos (by omega)])
            · rw [fq.1 _ _ (by omega), rdM]
              repeat (first | rw [if_neg (by omega)] | rw [if_pos (by omega)])
            · rw [fq.1 _ _ (by omega), rdM]
              repeat (first | rw [if_neg (by omega)] | rw [if_pos (by omega)])
            · rw [nI_tI (by omega)] at hi2
              rw [hq i (by omega), hlow _ _ (by omega), (hzy i).2, y3 i (by omega)]
          · have e0 : ∀ k, y.1 (146 + 2 * t) k = v.1 (146 + 2 * t) k := fun k => by rw [fy.1 _ _ (by omega), lou2 _ _ (by omega)]
            have e00 : ∀ k, y.1 (146 + 2 * t + 1) k = v.1 (146 + 2 * t + 1) k := fun k => by rw [fy.1 _ _ (by omega), lou2 _ _ (by omega)]
            have g3 : q.1 173 t = v.1 173 t := by
              rw [fq.1 _ _ (by omega), rdM]
              repeat (first | rw [if_neg (by omega)] | rw [if_pos (by omega)])
              exact hz3 _ _ (by omega)
            have g4 : q.1 174 t = v.1 174 t := by
              rw [fq.1 _ _ (by omega), rdM]
              repeat (first | rw [if_neg (by omega)] | rw [if_pos (by omega)])
              exact hz3 _ _ (by omega)
            have g5 : q.1 175 t = v.1 175 t := by
              rw [fq.1 _ _ (by omega), rdM]
              repeat (first | rw [if_neg (by omega)] | rw [if_pos (by omega)])
              exact hz3 _ _ (by omega)
            rw [e0, e0, g3, g4, g5]
            refine ⟨hv.1.imp id fun ⟨a1, a2, a3, a4, a5⟩ => ⟨a1, a2, a3, a4, fun i hi2 => ?_⟩, hv.2⟩
            have := hv.2
            rw [hlow (146 + 2 * t + 1) i (by omega), (hzy i).2, e00, fq.1 _ _ (by omega), rdM]
            repeat (first | rw [if_neg (by omega)] | rw [if_pos (by omega)])
            rw [hz3 _ _ (by omega)]
            exact a5 i hi2
        · rw [hlow _ _ (by unfold TXs at hik; omega), f2.1 _ _ (by unfold AMw; unfold TXs at hik; omega), fy.1 _ _ (by unfold TXs at hik; omega)]
        · rw [fq.2]
          show z.2.1 71 k = _
          rw [f2.2.1 _ _ (by unfold LMw; omega), fy.2]
        · rw [fq.2]
          show z.2.1 1 11 = _
          rw [f2.2.1 _ _ (by unfold LMw; omega), fy.2]
        · rw [fq.2]
          show z.2.2 = _
          rw [f2.2.2, fy.2]
      | succ j ih =>
        intro c e q fq hq
        have hc : c < n' := by omega
        refine s_M_film_36 ?_
        have q11 : q.1 154 11 = nI n' := by
          rw [fq.1 _ _ (by omega), rdM]
          repeat (first | rw [if_neg (by omega)] | rw [if_pos (by omega)])
          exact hM2.1
        have q68 : q.1 168 w = rgt A F n' m' w n' := by
          rw [fq.1 _ _ (by omega), rdM]
          repeat (first | rw [if_neg (by omega)] | rw [if_pos (by omega)])
          exact hrow2.2.1
        have e40 : (40 : Int32) * nI s + nI c = nI (40 * s + c) := by rw [show (40 : Int32) = nI 40 from rfl, nI_mul, nI_add]
        rw [q11, if_pos (nI_lt (by omega) (by omega)), e40, ix_nI (by omega), ix_nI (by omega), q68, nI_1]
        refine ⟨ib_nI (by omega) (by decide), ib_nI (by omega) (by decide), ih (c + 1) (by omega) _ (fq.sI ⟨rfl, by omega, by omega⟩ _) fun x hx => ?_⟩
        by_cases y9 : x = c
        · rw [y9, sI_same]
        · rw [sI_slot _ _ _ _ (by omega)]
          exact hq x (by omega)
    exact key n' 0 (by omega) _ (FX.rf _ _) fun x hx => absurd hx (Nat.not_lt_zero _)
  have key : ∀ j c : Nat, c + j = n' → ∀ y, FX (fun i _ => i = 146 + 2 * s ∨ i = 146 + 2 * s + 1) u y → y.1 (146 + 2 * s) 1 = 0 → y.1 (146 + 2 * s) 2 = nI n' → (∀ x, x < c → y.1 (146 + 2 * s + 1) x = ((rgt A F n' m' w n' >>> (nI x &&& 31)) &&& 1)) → k_P_film_52 (rgt A F n' m' w n') (146 + 2 * s) (nI c) y (fun r v1 => m_M_film (nI s) (nI w) v1 (fun r' v2 => Q r r' v2)) := by
    intro j
    induction j with
    | zero =>
      intro c e y fy y1 y2 y3
      obtain rfl : c = n' := e
      refine s_P_film_52 ?_
      rw [fy.1 74 2 (by omega), hC.1, if_neg (nI_nlt (Nat.le_refl _) (by omega))]
      exact last y fy y1 y2 y3
    | succ j ih =>
      intro c e y fy y1 y2 y3
      have hc : c < n' := by omega
      refine s_P_film_52 ?_
      rw [fy.1 74 2 (by omega), hC.1, if_pos (nI_lt (by omega) (by omega))]
      refine ⟨hsh, S_put hsh (by rw [y2]; exact hn40) (by rw [y2, nI_tI (by omega), nI_tI (by omega)]; omega) ?_⟩
      rw [y1, kept_bit _ (bit_01 _), ix_nI (by omega), nI_1]
      refine ih (c + 1) (by omega) _ (fy.sI (Or.inr rfl) _) ?_ ?_ fun x hx => ?_
      · rw [sI_cell _ _ _ _ (by omega)]; exact y1
      · rw [sI_cell _ _ _ _ (by omega)]; exact y2
      · by_cases q : x = c
        · rw [q, sI_same]
        · rw [sI_slot _ _ _ _ q]; exact y3 x (by omega)
  refine key n' 0 (by omega) _ ⟨fun i k hik => ?_, rfl⟩ ?_ ?_ fun x hx => absurd hx (Nat.not_lt_zero _)
  · rw [rdC]
    repeat (first | rw [if_neg (by omega)] | rw [if_pos (by omega)])
  · rw [rdC]
    repeat (first | rw [if_neg (by omega)] | rw [if_pos (by omega)])
  · rw [rdC]
    repeat (first | rw [if_neg (by omega)] | rw [if_pos (by omega)])
-- drawn, chance
noncomputable def drS (A : Cf) (F : Rl) (seed : Int32) : Nat → Int32 × Nat
  | 0 => (seed, 0)
  | d + 1 => ((drS A F seed d).1 * 1103515245 + 12345, if (((drS A F seed d).1 * 1103515245 + 12345).toUInt32 >>> ((9 : Int32).toUInt32 &&& Int32.toUInt32 31)).toInt32 % 100 < came A F d then (drS A F seed d).2 + 2 ^ d else (drS A F seed d).2)
theorem drS_lt (seed : Int32) : ∀ d, (drS A F seed d).2 < 2 ^ d
  | 0 => by show 0 < 1; decide
  | d + 1 => by
    have h := drS_lt seed d
    have hp : 2 ^ (d + 1) = 2 ^ d * 2 := Nat.pow_succ _ _
    have key : ∀ (c : Prop) [Decidable c] (x : Nat), x < 2 ^ d → (if c then x + 2 ^ d else x) < 2 ^ (d + 1) := by
      intro c _ x hx
      split <;> omega
    exact key _ _ h
theorem C_draw (hA : OK A n m) {v : Vv} (hC : CA A n m v) (hF : FRESH A F n m v) {seed : Int32} {Q : Int32 → Vv → Prop} (hQ : Q (nI (drS A F seed m).2) v) : m_W_draw seed v Q := by
  have h5 := hA.2.1
  have key : ∀ j d : Nat, d + j = m → k_W_draw_7 (drS A F seed d).1 (nI (drS A F seed d).2) (nI d) v Q := by
    intro j
    induction j with
    | zero =>
      intro d e
      obtain rfl : d = m := e
      refine s_W_draw_7 ?_
      rw [hC.2.1, if_neg (nI_nlt (Nat.le_refl _) (by omega))]
      exact hQ
    | succ j ih =>
      intro d e
      have hlt := drS_lt (A := A) (F := F) seed d
      have h32 : 2 ^ d ≤ 2 ^ 5 := Nat.pow_le_pow_right (by decide) (by omega)
      have ih := ih (d + 1) (by omega)
      unfold drS at ih
      refine s_W_draw_7 ?_
      rw [hC.2.1, if_pos (nI_lt (by omega) (by omega)), ix_nI (by omega), hF.2.2.1 d (by omega), or_bit d (by omega) _ (by omega) hlt, nI_1]
      refine ⟨ib_nI (by omega) (by decide), ?_⟩
      by_cases z : (((drS A F seed d).1 * 1103515245 + 12345).toUInt32 >>> ((9 : Int32).toUInt32 &&& Int32.toUInt32 31)).toInt32 % 100 < came A F d
      · rw [if_pos z] at ih ⊢
        exact ih
      · rw [if_neg z] at ih ⊢
        exact ih
  exact s_W_draw (key m 0 (by omega))
theorem M_draw (hA : OK A n m) {v : Vv} (hM : MA A n m v) (hT : MT F v) {seed : Int32} {Q : Int32 → Vv → Prop} (hQ : ∀ v', F2 AG LG v v' → Q (rgt A F n m (drS A F seed m).2 n) v') : m_M_draws seed v Q := by
  have h5 := hA.2.1
  have h2m := two m h5
  have zg : ∀ {u w}, F2 AMz LMz u w → F2 AG LG u w := fun f => f.mono (fun i k q => by unfold AMz at q; unfold AG; omega) fun i k q => by unfold LMz at q; unfold LG; omega
  have key : ∀ j d : Nat, d + j = m → ∀ u, F2 AG LG v u → k_M_draws_7 (drS A F seed d).1 (nI (drS A F seed d).2) (nI d) u Q := by
    intro j
    induction j with
    | zero =>
      intro d e u f
      obtain rfl : d = m := e
      have hlt := drS_lt (A := A) (F := F) seed d
      refine s_M_draws_7 ?_
      rw [(hM.fg f).2.1, if_neg (nI_nlt (Nat.le_refl _) (by omega))]
      refine M_makes hA (by omega) (hM.fg f) (hT.fg f) fun u1 f1 hr1 => ⟨ib_nI (by omega) (by decide), ?_⟩
      rw [ix_nI (by omega), hr1.2.1]
      exact hQ u1 (f.tr f1.wg)
    | succ j ih =>
      intro d e u f
      have hlt := drS_lt (A := A) (F := F) seed d
      have h32 : 2 ^ d ≤ 2 ^ 5 := Nat.pow_le_pow_right (by decide) (by omega)
      have ih := ih (d + 1) (by omega)
      unfold drS at ih
      refine s_M_draws_7 ?_
      rw [(hM.fg f).2.1, if_pos (nI_lt (by omega) (by omega))]
      refine M_came hA (by omega) (hM.fg f) (hT.fg f) fun u1 f1 => ?_
      rw [bI_shl, or_bit d (by omega) _ (by omega) hlt, nI_1]
      have ih := ih u1 (f.tr (zg f1))
      by_cases z : (((drS A F seed d).1 * 1103515245 + 12345).toUInt32 >>> ((9 : Int32).toUInt32 &&& Int32.toUInt32 31)).toInt32 % 100 < came A F d
      · rw [if_pos z] at ih ⊢
        rw [if_pos rfl]
        exact ih
      · rw [if_neg z] at ih ⊢
        rw [if_neg (by decide)]
        exact ih
  exact s_M_draws (key m 0 (by omega) v (F2.rf _ _ _))
theorem RDY.ag {u w : Vv} (h : RDY A F n m u) (f : F2 AG LG u w) : RDY A F n m w := h.on f.kw fun i k q => f.1 i k (by unfold TXs at q; unfold AG; omega)
theorem drawn_step {a : Int32} {v : Vv} (h : INW v) {Q : Int32 → Int32 → Vv → Prop} (hQ : ∀ r w, FQ v w → CACHE w → Q r r w) : m_P_drawn a v (fun r v1 => m_M_drawn a v1 (fun r' v2 => Q r r' v2)) := by
  refine s_P_drawn (worked_R h fun A F n m u f hr hcc e1 e2 => ⟨rfl, ?_⟩)
  obtain ⟨hA, hC, hMA, hR, hMT, hF⟩ := id hr
  have h2m := two m hA.2.1
  have hlt := drS_lt (A := A) (F := F) a m
  refine C_draw hA hC hF ⟨ib_nI (by omega) (by decide), ?_⟩
  rw [ix_nI (by omega), (hF.2.2.2 _ hlt).2.1]
  exact s_M_drawn (M_draw hA hMA hMT fun w f' => hQ _ w (f.q.tr f'.q) (hcc.kw f'.kw))
theorem chance_step {a b c : Int32} {v : Vv} (h : INW v) {Q : Int64 → Int64 → Vv → Prop} (hQ : ∀ r w, FQ v w → CACHE w → Q r r w) : m_P_chance a b c v (fun r v1 => m_M_chance a b c v1 (fun r' v2 => Q r r' v2)) := by
  have h0 : ∀ r, Q r r v := fun r => hQ r v (FQ.rf v) h.2.2.2
  have hM : ∀ {u : Vv} {R : Int64 → Vv → Prop}, (if 1 ≤ b.toInt ∧ b.toInt ≤ 20 then (if c = 0 ∨ c = 1 then k_M_chance_32 a b c 0 0 u R else R (-4611686018427387904) u) else R (-4611686018427387904) u) → m_M_chance a b c u R := by
    intro u R hh
    refine s_M_chance (M_in ?_)
    rw [Int32.toInt_toInt64, show (1 : Int64).toInt = 1 from rfl, show (20 : Int64).toInt = 20 from rfl]
    by_cases c1 : 1 ≤ b.toInt ∧ b.toInt ≤ 20
    · rw [if_pos c1] at hh
      rw [decide_eq_true c1, if_pos rfl]
      refine M_partI ?_
      by_cases c2 : c = 0 ∨ c = 1
      · rw [if_pos c2] at hh
        rw [decide_eq_true c2, if_pos rfl]
        exact hh
      · rw [if_neg c2] at hh
        rw [decide_eq_false c2, if_neg (by decide)]
        exact hh
    · rw [if_neg c1] at hh
      rw [decide_eq_false c1, if_neg (by decide)]
      exact hh
  refine s_P_chance ?_
  by_cases c1 : b < 1
  · rw [if_pos c1]
    rw [Int32.lt_iff_toInt_lt, t_1] at c1
    refine hM ?_
    rw [if_neg (by omega)]
    exact h0 _
  rw [if_neg c1]
  by_cases c2 : (20 : Int32) < b
  · rw [if_pos c2]
    rw [Int32.lt_iff_toInt_lt, t_20] at c2
    refine hM ?_
    rw [if_neg (by omega)]
    exact h0 _
  rw [if_neg c2]
  rw [Int32.lt_iff_toInt_lt, t_1] at c1
  rw [Int32.lt_iff_toInt_lt, t_20] at c2
  have c3 : 1 ≤ b.toInt ∧ b.toInt ≤ 20 := by omega
  refine P_isPart ?_
  by_cases c4 : c = 0 ∨ c = 1
  rotate_left
  · rw [decide_eq_false c4, if_neg (by decide)]
    refine hM ?_
    rw [if_pos c3, if_neg c4]
    exact h0 _
  rw [decide_eq_true c4, if_pos rfl]
  obtain ⟨N, hN, rfl⟩ := nI_of3 (x := b) (n := 21) (by omega) (by omega)
  rw [nI_tI (by omega)] at c3
  refine worked_R h fun A F n m u f hr hcc e1 e2 => ⟨rfl, ?_⟩
  obtain ⟨hA, hC, hMA, hR, hMT, hF⟩ := id hr
  have h2m := two m hA.2.1
  -- how many are good
  have hg : ∀ i, ∃ g, g ≤ i ∧ (∀ {R : Int64 → Vv → Prop} , ∀ y, F2 AG LG u y → i ≤ N → (∀ y', F2 AG LG u y' → k_M_chance_32 a (nI N) c (nL g) (nI i) y' R) → k_M_chance_32 a (nI N) c 0 0 y R) ∧ (∀ {R : Int64 → Vv → Prop}, i ≤ N → k_P_chance_47 a (nI N) c ((1 : Int32) <<< (u.1 74 2 &&& 31) - 1) (nI g) (nI i) u R → k_P_chance_47 a (nI N) c ((1 : Int32) <<< (u.1 74 2 &&& 31) - 1) 0 0 u R) := by
    intro i
    induction i with
    | zero => exact ⟨0, Nat.le_refl _, fun y fy _ hh => hh y fy, fun _ hh => hh⟩
    | succ i ih =>
      obtain ⟨g, g1, g2, g3⟩ := ih
      have hlt := drS_lt (A := A) (F := F) (a + nI i) m
      by_cases z : rgt A F n m (drS A F (a + nI i) m).2 n = (1 : Int32) <<< (nI n &&& 31) - 1
      · refine ⟨g + 1, by omega, fun y fy hi hh => g2 y fy (by omega) fun y' fy' => ?_, fun hi hh => g3 (by omega) ?_⟩
        · refine s_M_chance_32 ?_
          rw [if_pos (nI_lt (by omega) (by omega))]
          refine M_draw hA (hMA.fg fy') (hMT.fg fy') fun y2 f2 => ?_
          rw [(hMA.fg (fy'.tr f2)).1, if_pos z, show (1 : Int64) = nL 1 from rfl, nL_add, nI_1]
          exact hh y2 (fy'.tr f2)
        · refine s_P_chance_47 ?_
          rw [if_pos (nI_lt (by omega) (by omega))]
          refine C_draw hA hC hF ⟨ib_nI (by omega) (by decide), ?_⟩
          rw [ix_nI (by omega), (hF.2.2.2 _ hlt).2.1, hC.1, if_pos z, nI_1, nI_1]
          rw [hC.1] at hh
          exact hh
      · refine ⟨g, by omega, fun y fy hi hh => g2 y fy (by omega) fun y' fy' => ?_, fun hi hh => g3 (by omega) ?_⟩
        · refine s_M_chance_32 ?_
          rw [if_pos (nI_lt (by omega) (by omega))]
          refine M_draw hA (hMA.fg fy') (hMT.fg fy') fun y2 f2 => ?_
          rw [(hMA.fg (fy'.tr f2)).1, if_neg z, Int64.add_zero, nI_1]
          exact hh y2 (fy'.tr f2)
        · refine s_P_chance_47 ?_
          rw [if_pos (nI_lt (by omega) (by omega))]
          refine C_draw hA hC hF ⟨ib_nI (by omega) (by decide), ?_⟩
          rw [ix_nI (by omega), (hF.2.2.2 _ hlt).2.1, hC.1, if_neg z, nI_1]
          rw [hC.1] at hh
          exact hh
  obtain ⟨g, g1, g2, g3⟩ := hg N
  refine g3 (Nat.le_refl _) (s_P_chance_47 ?_)
  rw [if_neg (nI_nlt (Nat.le_refl _) (by omega)), nI_64 (by omega), nI_64 (by omega)]
  refine P_lowest (by omega) (by omega) ?_
  rw [if_neg (by omega)]
  refine hM ?_
  rw [nI_tI (by omega), if_pos (by omega), if_pos c4]
  refine g2 u (F2.rf _ _ _) (Nat.le_refl _) fun y' fy' => s_M_chance_32 ?_
  rw [if_neg (nI_nlt (Nat.le_refl _) (by omega)), nI_64 (by omega)]
  exact M_lowest (by omega) (by omega) (by omega) (hQ _ y' (f.q.tr fy'.q) (hcc.kw fy'.kw))
theorem told_all {a b : Int32} {v : Vv} (h : INW v) {Q : Int32 → Int32 → Vv → Prop} (hQ : ∀ r w, FQ v w → CACHE w → Q r r w) : m_P_told a b v (fun r v1 => m_M_told a b v1 (fun r' v2 => Q r r' v2)) := by
  refine told_step h.1 (fun r => hQ r v (FQ.rf v) h.2.2.2) fun n m hRH ha => ?_
  have h5 := hRH.1.2
  have m1 : v.1 74 3 = nI m := hRH.2.2.1.1
  obtain ⟨d, hd, rfl⟩ := nI_of3 (x := a) (n := m) ha.1 ha.2
  refine worked_R h fun A F n' m' u f hr hcc e1 e2 => ⟨rfl, ib_nI (by omega) (by decide), ?_⟩
  obtain rfl := nm_eq (by have := hr.1.2.1; omega) (by omega) (e2.symm.trans m1)
  obtain ⟨hA, hC, hMA, hR, hMT, hF⟩ := id hr
  refine ⟨hMA.2.1, M_came hA hd hMA hMT fun w f' => ?_⟩
  rw [ix_nI (by omega), hF.2.2.1 d hd]
  exact hQ _ w (f.q.tr (mz_q f')) (hcc.kw (mz_kw f'))
end LV
