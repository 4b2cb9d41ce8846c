-- a whole text: three parts
def PT (T : Nat → Int32) (key : Int32) (j : Nat) (r : Out) : Prop :=
  T j ≠ key ∧ r = bad j ∨ T j = key ∧ ((∃ k, Pr T 0 6 z0 (j + 1) (bad k) ∧ r = bad k) ∨ ∃ k e, Pr T 0 6 z0 (j + 1) (ok k e) ∧ (T k ≠ 59 ∧ r = bad k ∨ T k = 59 ∧ r = ok (k + 1) e))
theorem PT_ex {T : Nat → Int32} {c : Nat} (hT : ∀ j, c ≤ j → T j = -1) {key : Int32} (hk : key ≠ -1) {j : Nat} (hj : j ≤ c) : ∃ r, PT T key j r ∧ r.2 ≤ c := by
  by_cases h : T j = key
  · have hlt : j < c := by
      by_cases e : j = c
      · exact absurd ((h.symm.trans (hT j (by omega)))) hk
      · omega
    obtain ⟨r, p1, p2⟩ := Pr_ex hT ((c + 1 - (j + 1)) * 8 + rnk 6) 0 6 (j + 1) z0 (Nat.le_refl _) (by omega) (fun _ => rfl) (by decide)
    rcases out_cases r with ⟨k, rfl⟩ | ⟨k, e, rfl⟩
    · exact ⟨_, Or.inr ⟨h, Or.inl ⟨k, p1, rfl⟩⟩, p2⟩
    · have p2 : k ≤ c := p2
      by_cases h4 : T k = 59
      · have hkc : k < c := by
          by_cases e : k = c
          · exact absurd ((h4.symm.trans (hT k (by omega)))) (by decide)
          · omega
        exact ⟨_, Or.inr ⟨h, Or.inr ⟨k, e, p1, Or.inr ⟨h4, rfl⟩⟩⟩, by show k + 1 ≤ c; omega⟩
      · exact ⟨_, Or.inr ⟨h, Or.inr ⟨k, e, p1, Or.inl ⟨h4, rfl⟩⟩⟩, p2⟩
  · exact ⟨_, Or.inl ⟨h, rfl⟩, hj⟩
noncomputable def pr (T : Nat → Int32) (c : Nat) (key : Int32) (j : Nat) : Out := by
  classical exact if h : ∃ r, PT T key j r ∧ r.2 ≤ c then Classical.choose h else bad 0
theorem pr_spec {T : Nat → Int32} {c : Nat} (hT : ∀ j, c ≤ j → T j = -1) {key : Int32} (hk : key ≠ -1) {j : Nat} (hj : j ≤ c) : PT T key j (pr T c key j) ∧ (pr T c key j).2 ≤ c := by
  have h := PT_ex hT hk hj
  unfold pr
  rw [dif_pos h]
  exact Classical.choose_spec h
def RDok (T : Nat → Int32) (n : Nat) (e0 e1 e2 : Ex) : Prop := ∃ a b c, pr T n 6 0 = ok a e0 ∧ pr T n 7 a = ok b e1 ∧ pr T n 8 b = ok c e2 ∧ T c = -1
def RDbad (T : Nat → Int32) (n k : Nat) : Prop := pr T n 6 0 = bad k ∨ ∃ a e0, pr T n 6 0 = ok a e0 ∧ (pr T n 7 a = bad k ∨ ∃ b e1, pr T n 7 a = ok b e1 ∧ (pr T n 8 b = bad k ∨ ∃ e2, pr T n 8 b = ok k e2 ∧ T k ≠ -1))
theorem RD_one {T : Nat → Int32} {n k l : Nat} (h1 : RDbad T n k) (h2 : RDbad T n l) : k = l := by
  rcases h1 with a | ⟨a, e0, a1, h1⟩ <;> rcases h2 with b | ⟨b, f0, b1, h2⟩
  · exact bad_inj (a.symm.trans b)
  · exact absurd (b1.symm.trans a) ok_bad
  · exact absurd (a1.symm.trans b) ok_bad
  obtain ⟨rfl, rfl⟩ := ok_inj (a1.symm.trans b1)
  rcases h1 with c | ⟨c, e1, c1, h1⟩ <;> rcases h2 with d | ⟨d, f1, d1, h2⟩
  · exact bad_inj (c.symm.trans d)
  · exact absurd (d1.symm.trans c) ok_bad
  · exact absurd (c1.symm.trans d) ok_bad
  obtain ⟨rfl, rfl⟩ := ok_inj (c1.symm.trans d1)
  rcases h1 with c | ⟨e2, c2, h1⟩ <;> rcases h2 with d | ⟨f2, d2, h2⟩
  · exact bad_inj (c.symm.trans d)
  · exact absurd (d2.symm.trans c) ok_bad
  · exact absurd (c2.symm.trans d) ok_bad
  · exact (ok_inj (c2.symm.trans d2)).1
theorem RD_not {T : Nat → Int32} {n k : Nat} {e0 e1 e2 : Ex} (h1 : RDbad T n k) (h2 : RDok T n e0 e1 e2) : False := by
  obtain ⟨a, b, c, a1, b1, c1, z⟩ := h2
  rcases h1 with x | ⟨x, f0, x1, h1⟩
  · exact ok_bad (a1.symm.trans x)
  obtain ⟨rfl, rfl⟩ := ok_inj (a1.symm.trans x1)
  rcases h1 with x | ⟨x, f1, x2, h1⟩
  · exact ok_bad (b1.symm.trans x)
  obtain ⟨rfl, rfl⟩ := ok_inj (b1.symm.trans x2)
  rcases h1 with x | ⟨f2, x3, h1⟩
  · exact ok_bad (c1.symm.trans x)
  obtain ⟨rfl, rfl⟩ := ok_inj (c1.symm.trans x3)
  exact h1 z
theorem RD_same {T : Nat → Int32} {n : Nat} {e0 e1 e2 f0 f1 f2 : Ex} (h1 : RDok T n e0 e1 e2) (h2 : RDok T n f0 f1 f2) : e0 = f0 ∧ e1 = f1 ∧ e2 = f2 := by
  obtain ⟨a, b, c, a1, b1, c1, z⟩ := h1
  obtain ⟨a', b', c', a2, b2, c2, z2⟩ := h2
  obtain ⟨rfl, rfl⟩ := ok_inj (a1.symm.trans a2)
  obtain ⟨rfl, rfl⟩ := ok_inj (b1.symm.trans b2)
  obtain ⟨rfl, rfl⟩ := ok_inj (c1.symm.trans c2)
  exact ⟨rfl, rfl, rfl⟩
theorem tk_far (B : Nat → Int32) (n : Nat) : ∀ j, n ≤ j → tk B n j = -1 := fun j hj => tk_end (by
  have h0 : ∀ i, i ≤ n → i ≤ st B n i := by
    intro i
    induction i with
    | zero => intro _; exact Nat.zero_le _
    | succ i ih =>
      intro hi
      have h1 := ih (by omega)
      by_cases c : st B n i < n
      · have := st_lt c; omega
      · have := st_le B n i
        rw [st_end (by omega)]
        exact hi
  have h1 := h0 n (Nat.le_refl _)
  have h2 := st_mono (B := B) (n := n) hj
  have h3 := st_le B n j
  omega)
theorem PT_ev {T : Nat → Int32} {key : Int32} {j k : Nat} {e : Ex} (h : PT T key j (ok k e)) : EV e := by
  rcases h with ⟨-, q⟩ | ⟨-, ⟨k2, -, q⟩ | ⟨k2, e2, p, ⟨-, q⟩ | ⟨-, q⟩⟩⟩
  · exact absurd q ok_bad
  · exact absurd q ok_bad
  · exact absurd q ok_bad
  · obtain ⟨-, rfl⟩ := ok_inj q
    exact (Pr_ev p fun z => absurd z (by decide)).ok
theorem PT_le {T : Nat → Int32} {key : Int32} {j k : Nat} {e : Ex} (h : PT T key j (ok k e)) : j < k := by
  rcases h with ⟨-, q⟩ | ⟨-, ⟨k2, -, q⟩ | ⟨k2, e2, p, ⟨-, q⟩ | ⟨-, q⟩⟩⟩
  · exact absurd q ok_bad
  · exact absurd q ok_bad
  · exact absurd q ok_bad
  · obtain ⟨rfl, rfl⟩ := ok_inj q
    have := (Pr_far p).ok.1
    omega
-- the class
def AW (i k : Nat) : Prop := AQ i k ∨ i = 114
theorem FX.qw {v w : Vv} (h : FX AQ v w) : FX AW v w := ⟨fun i k q => h.1 i k fun z => q (Or.inl z), h.2⟩
theorem RK.fw {T : Nat → Int32} {c : Nat} {v w : Vv} (h : RK T c v) (f : FX AW v w) : RK T c w := ⟨h.1, by rw [f.1 _ _ (by unfold AW AQ; omega)]; exact h.2.1, fun t ht => by rw [f.1 _ _ (by unfold AW AQ; omega)]; exact h.2.2.1 t ht, h.2.2.2⟩
theorem R_part {T : Nat → Int32} {c j q : Nat} {key : Int32} {r : Out} (hP : PT T key j r) (hkey : key ≠ -1) {v : Vv} {pre : List Int32} {Q : Bool → Vv → Prop} (hK : RK T c v) (hj : v.1 108 4 = nI j) (hjc : j ≤ c) (hl : pre.length ≤ j) (hC : CD v pre) (hq : q < 3)
    (h1 : ∀ k, r = bad k → ∀ w, FX AW v w → w.1 108 4 = nI k → k ≤ c → Q false w)
    (h2 : ∀ k e, r = ok k e → ∀ w, FX AW v w → w.1 108 4 = nI k → k ≤ c → (pre ++ e.1).length ≤ k → CD w (pre ++ e.1) → w.1 114 q = nI (pre ++ e.1).length → (∀ p, p ≠ q → w.1 114 p = v.1 114 p) → Q true w) : m_R_part key (nI q) v Q := by
  refine s_R_part ?_
  rcases hP with ⟨a, rfl⟩ | ⟨a, hP⟩
  · refine R_accept hK hj hjc (fun z => absurd z a) fun _ => ?_
    rw [if_neg (by decide)]
    exact h1 _ rfl v (FX.rf _ _) hj hjc
  · have hlt := lt_c hK hjc (ne_m1 a hkey)
    refine R_accept hK hj hjc (fun _ => ?_) fun z => absurd a z
    rw [if_pos rfl]
    rcases hP with ⟨k, p, rfl⟩ | ⟨k, e, p, hP⟩
    · refine C_parse (c := c) p 100 0 0 _ pre _ (hK.fx (nx_fx _ _)) (sI_same _ _ _ _) (by omega) (by omega) (by rw [apz]; omega) (by rw [apz]; exact hC.nx _) (by decide) (by decide) (CR.mk_bad fun w f h4 hk => ?_)
      rw [if_neg (by decide)]
      exact h1 _ rfl w ((nx_fx _ _).tr f).qw h4 hk
    · refine C_parse (c := c) p 100 0 0 _ pre _ (hK.fx (nx_fx _ _)) (sI_same _ _ _ _) (by omega) (by omega) (by rw [apz]; omega) (by rw [apz]; exact hC.nx _) (by decide) (by decide) (CR.mk_ok fun w f h4 hk hlen hw => ?_)
      rw [if_pos rfl]
      have f2 := (nx_fx v (nI (j + 1))).tr f
      rcases hP with ⟨b, rfl⟩ | ⟨b, rfl⟩
      · refine R_accept (hK.fx f2) h4 hk (fun z => absurd z b) fun _ => ?_
        rw [if_neg (by decide)]
        exact h1 _ rfl w f2.qw h4 hk
      · have hkc := lt_c (hK.fx f2) hk (ne_m1 b (by decide))
        refine R_accept (hK.fx f2) h4 hk (fun _ => ?_) fun z => absurd b z
        rw [if_pos rfl]
        refine s_T_close ⟨by unfold isText; decide, ib_nI hq (by decide), ?_⟩
        rw [ix_nI (by omega), (hw.nx (nI (k + 1))).1]
        refine h2 _ _ rfl _ ((f2.tr (nx_fx _ _)).qw.sI (Or.inr rfl) _) ?_ (by omega) (by omega) ?_ (sI_same _ _ _ _) fun p hp => ?_
        · rw [sI_cell _ _ _ _ (by decide), sI_same]
        · exact (hw.nx _).at (by rw [sI_cell _ _ _ _ (by decide)]) fun i => by rw [sI_cell _ _ _ _ (by decide)]
        · rw [sI_slot _ _ _ _ hp, sI_cell _ _ _ _ (by decide), f2.1 _ _ (by unfold AQ; omega)]
theorem TKS.rk {B : Nat → Int32} {n c : Nat} {w : Vv} (h : TKS B n w c) : RK (tk B n) c w := by
  obtain ⟨⟨h1, h2, h3⟩, h4, h5, h6⟩ := h
  refine ⟨by omega, h4, fun t ht => (h6 t ht).1, fun j hj => tk_end ?_⟩
  have := st_mono (B := B) (n := n) hj
  have := st_le B n j
  omega
theorem CD_nil {v : Vv} (h : v.1 112 3 = 0) : CD v [] := ⟨h, fun i hi => absurd hi (Nat.not_lt_zero _)⟩
/-- what the class's reader gives back -/
theorem R_read {B : Nat → Int32} {n : Nat} {v : Vv} (hn : n ≤ 160) (hB : ∀ i, i < n → v.1 107 i = B i) {Q : Int32 → Vv → Prop}
    (h1 : ∀ k, RDbad (tk B n) n k → ∀ w, FX AR v w → Q (nI (st B n k)) w)
    (h2 : ∀ e0 e1 e2, RDok (tk B n) n e0 e1 e2 → ∀ w, FX AR v w → (e0.1 ++ e1.1 ++ e2.1).length ≤ 160 → CD w (e0.1 ++ e1.1 ++ e2.1) → w.1 114 0 = nI e0.1.length → w.1 114 1 = nI (e0.1 ++ e1.1).length → w.1 114 2 = nI (e0.1 ++ e1.1 ++ e2.1).length → Q (-1) w) : m_R_read (nI n) v Q := by
  refine s_R_read (R_split hn hB fun w c f tks => ?_)
  have hrk := tks.rk
  have hw0 : FX AW w (sI (sI w 112 3 0) 108 4 0) := ((FX.rf AW w).sI (Or.inl (Or.inr (Or.inl ⟨rfl, rfl⟩))) _).sI (Or.inl (Or.inl ⟨rfl, rfl⟩)) _
  have hfr : ∀ {u : Vv}, FX AW w u → FX AR v u := fun {u} g => f.tr ⟨fun i k z => g.1 i k fun y => z (by unfold AR; unfold AW AQ at y; omega), g.2⟩
  have hbad : ∀ k, RDbad (tk B n) n k → ∀ u, FX AW w u → u.1 108 4 = nI k → k ≤ c → k_R_read_69 (nI n) u Q := fun k hk u g h4 hkc => by
    refine s_R_read_69 ?_
    have hc := tks.1
    rw [(hrk.fw g).2.1, h4, if_pos (nI_lt (by omega) (by omega)), ix_nI (by omega), g.1 110 k (by unfold AW AQ; omega), (tks.2.2.2 k hkc).2]
    exact ⟨ib_nI (by omega) (by decide), h1 k hk u (hfr g)⟩
  have hb53 : ∀ u, k_R_read_69 (nI n) u Q → k_R_read_53 (nI n) u Q := fun u h => s_R_read_53 (s_R_read_54 (by rw [if_pos rfl]; exact h))
  have hT := tk_far B n
  have hcn := tks.1.1
  obtain ⟨p0, -⟩ := pr_spec hT (key := 6) (by decide) (Nat.zero_le n)
  refine R_part (q := 0) p0 (by decide) (hrk.fw hw0) (sI_same _ _ _ _) (Nat.zero_le _) (pre := []) (Nat.le_refl _) (CD_nil (by rw [sI_cell _ _ _ _ (by decide), sI_same])) (by decide) (fun k e w1 g1 h4 hk => ?_) fun a e0 q0 w1 g1 h4 ha hl hC hE hO => ?_
  · rw [if_neg (by decide)]
    exact hb53 _ (hbad k (Or.inl e) w1 (hw0.tr g1) h4 hk)
  rw [if_pos rfl]
  rw [List.nil_append] at hl hC hE
  have g1 := hw0.tr g1
  obtain ⟨p1, -⟩ := pr_spec hT (key := 7) (by decide) (j := a) (by omega)
  refine R_part (q := 1) p1 (by decide) (hrk.fw g1) h4 ha hl hC (by decide) (fun k e w2 g2 h42 hk => ?_) fun b e1 q1 w2 g2 h42 hb hl2 hC2 hE2 hO2 => ?_
  · rw [if_neg (by decide)]
    exact hb53 _ (hbad k (Or.inr ⟨a, e0, q0, Or.inl e⟩) w2 (g1.tr g2) h42 hk)
  rw [if_pos rfl]
  have g2 := g1.tr g2
  obtain ⟨p2, -⟩ := pr_spec hT (key := 8) (by decide) (j := b) (by omega)
  refine R_part (q := 2) p2 (by decide) (hrk.fw g2) h42 hb hl2 hC2 (by decide) (fun k e w3 g3 h43 hk => ?_) fun k e2 q2 w3 g3 h43 hk hl3 hC3 hE3 hO3 => ?_
  · rw [if_neg (by decide)]
    exact hbad k (Or.inr ⟨a, e0, q0, Or.inr ⟨b, e1, q1, Or.inl e⟩⟩) w3 (g2.tr g3) h43 hk
  rw [if_pos (by rw [if_pos rfl])]
  have g3 := g2.tr g3
  refine R_token (hrk.fw g3) h43 hk ?_
  by_cases hz : tk B n k = -1
  · rw [if_pos hz]
    have hc := tks.1
    refine h2 e0 e1 e2 ⟨a, b, k, q0, q1, q2, hz⟩ w3 (hfr g3) (by omega) hC3 ?_ ?_ hE3
    · rw [hO3 0 (by decide), hO2 0 (by decide)]
      exact hE
    · rw [hO3 1 (by decide)]
      exact hE2
  · rw [if_neg hz]
    exact hbad k (Or.inr ⟨a, e0, q0, Or.inr ⟨b, e1, q1, Or.inr ⟨e2, q2, hz⟩⟩⟩) w3 g3 h43 hk
-- the reference
theorem M_part {B : Nat → Int32} {n j kk : Nat} (hkk : kk < 12) {f : Nat → Int32} {r : Out} (hP : PT (tk B n) (nI kk) j r) {v : Vv} {Q : Int32 → Vv → Prop} (hS : MS B n v j) (h28 : v.1 154 28 = 0) (hN : NMS v f)
    (h1 : ∀ k, r = bad k → ∀ w x, FM AP v w → FB w (st B n k) → Q x w)
    (h2 : ∀ k e, r = ok k e → ∀ w, FM AP v w → MS B n w k → w.1 154 28 = 0 → Q (e.2 f) w) :
    m_M_isWord ((sstr (100010 + kk)).getD 0 0) ((sstr (100010 + kk)).getD 1 0) ((sstr (100010 + kk)).getD 2 0) ((sstr (100010 + kk)).getD 3 0) ((sstr (100010 + kk)).getD 4 0) ((sstr (100010 + kk)).getD 5 0) ((sstr (100010 + kk)).getD 6 0) ((sstr (100010 + kk)).getD 7 0) v (fun x v5 => m_M_part x v5 Q) := by
  have hend : ∀ {w : Vv} {x : Int32} {q : Nat}, FB w q → Q x w → k_M_part_34 x w Q := fun hb hq => by
    refine s_M_part_34 (isSign_bad hb.1 ?_)
    rw [if_neg (by decide)]
    refine fail_bad hb.1 (s_M_part_48 ?_)
    rw [if_neg (by rw [hb.1]; decide)]
    exact hq
  rcases hP with ⟨a, rfl⟩ | ⟨a, hP⟩
  · refine MS_isWord hS hkk (fun z => absurd z a) fun _ => s_M_part ?_
    rw [if_neg (by decide)]
    refine MS_fail hS fun w m b => s_M_part_8 ?_
    rw [if_neg (by rw [b.1]; decide)]
    refine s_M_part_19 ?_
    rw [if_neg (by rw [b.1]; decide)]
    exact hend b (h1 _ rfl w 0 m b)
  · have hne : tk B n j ≠ -1 ∧ tk B n j ≠ -2 := by rw [a]; exact ne12 (by rw [nI_tI (by omega)]; omega)
    refine MS_isWord hS hkk (fun _ => s_M_part ?_) fun z => absurd a z
    rw [if_pos rfl]
    refine s_M_part_8 ?_
    rw [if_pos hS.2.1]
    refine MS_next hS hne fun w m s => s_M_part_19 ?_
    have h28b : w.1 154 28 = nI 0 := by rw [m.1 _ _ (by unfold AN; omega)]; exact h28
    rw [if_pos s.2.1]
    rcases hP with ⟨k, p, rfl⟩ | ⟨k, e, p, hP⟩
    · exact M_parse p w _ s h28b (by decide) (hN.fm m.np) (MR.mk_bad fun w2 x m2 b2 => hend b2 (h1 _ rfl w2 x (m.np.tr m2) b2))
    · refine M_parse p w _ s h28b (by decide) (hN.fm m.np) (MR.mk_ok fun w2 m2 s2 h28c => s_M_part_34 ?_)
      rcases hP with ⟨b, rfl⟩ | ⟨b, rfl⟩
      · refine MS_sign s2 sg59 (fun z => absurd z b) fun _ => ?_
        rw [if_neg (by decide)]
        refine MS_fail s2 fun w3 m3 b3 => s_M_part_48 ?_
        rw [if_neg (by rw [b3.1]; decide)]
        exact h1 _ rfl w3 _ ((m.np.tr m2).tr m3) b3
      · refine MS_sign s2 sg59 (fun _ => ?_) fun z => absurd b z
        rw [if_pos rfl]
        refine s_M_part_48 ?_
        rw [if_pos s2.2.1]
        refine MS_next s2 (lit12 b (by decide)) fun w3 m3 s3 => ?_
        refine h2 _ _ rfl w3 ((m.np.tr m2).tr m3.np) s3 ?_
        rw [m3.1 _ _ (by unfold AN; omega)]
        exact h28c
def AV (k : Nat) : Prop := 22 ≤ k ∧ k ≤ 30
theorem FM.pv {v w : Vv} (h : FM AP v w) : FM AV v w := ⟨fun i k hk => h.1 i k fun q => hk ⟨q.1, by have := q.2; unfold AP at this; unfold AV; omega⟩, h.2⟩
/-- what the reference's reader gives back -/
theorem M_read {B : Nat → Int32} {n t : Nat} {f : Nat → Int32} {v : Vv} (ht : t < 6) (hn : n ≤ 160) (hr : ∀ i, i < n → 0 ≤ (B i).toInt ∧ (B i).toInt ≤ 255) (hz : v.1 156 t = nI n) (hB : ∀ i, i < n → v.1 155 (160 * t + i) = B i) (hN : NMS v f) {which : Int32} {Q : Int32 → Vv → Prop}
    (h1 : ∀ k, RDbad (tk B n) n k → ∀ w x, FM AV v w → FB w (st B n k) → Q x w)
    (h2 : ∀ e0 e1 e2, RDok (tk B n) n e0 e1 e2 → ∀ w, FM AV v w → w.1 154 29 = 0 → Q (if which = 0 then e0.2 f else if which = 1 then e1.2 f else e2.2 f) w) : m_M_read (nI t) which v Q := by
  refine s_M_read ⟨ib_nI ht (by decide), ?_⟩
  rw [show (160 : Int32) * nI t = nI (160 * t) from by rw [show (160 : Int32) = nI 160 from rfl, nI_mul], ix_nI (by omega), show (sI v 154 22 (nI (160 * t))).1 156 t = nI n from by rw [sI_cell _ _ _ _ (by decide)]; exact hz]
  generalize hw0 : sI (sI (sI (sI (sI v 154 22 (nI (160 * t))) 154 23 (nI n)) 154 24 0) 154 28 0) 154 29 0 = w0
  have f0 : FM AV v w0 := by
    rw [← hw0]
    exact (((((FM.rf AV v).sI (by unfold AV; omega) _).sI (by unfold AV; omega) _).sI (by unfold AV; omega) _).sI (by unfold AV; omega) _).sI (by unfold AV; omega) _
  have e22 : w0.1 154 22 = nI (160 * t) := by rw [← hw0, sI_slot _ _ _ _ (by decide), sI_slot _ _ _ _ (by decide), sI_slot _ _ _ _ (by decide), sI_slot _ _ _ _ (by decide), sI_same]
  have e23 : w0.1 154 23 = nI n := by rw [← hw0, sI_slot _ _ _ _ (by decide), sI_slot _ _ _ _ (by decide), sI_slot _ _ _ _ (by decide), sI_same]
  have e24 : w0.1 154 24 = 0 := by rw [← hw0, sI_slot _ _ _ _ (by decide), sI_slot _ _ _ _ (by decide), sI_same]
  have e28 : w0.1 154 28 = 0 := by rw [← hw0, sI_slot _ _ _ _ (by decide), sI_same]
  have e29 : w0.1 154 29 = 0 := by rw [← hw0, sI_same]
  have hb : MB B n w0 := ⟨e23, hn, hr, t, ht, e22, fun i hi => by rw [f0.1 _ _ (by omega)]; exact hB i hi⟩
  have hN0 : NMS w0 f := fun k hk => by rw [f0.1 _ _ (by unfold AV; omega)]; exact hN k hk
  have hend : ∀ {w : Vv} {x y z : Int32} {q : Nat}, FB w q → (∀ x, Q x w) → k_M_read_124 which x y z w Q := fun {w x y z q} hb hq => by
    refine s_M_read_124 ?_
    rw [if_neg (by rw [hb.1]; decide)]
    exact s_M_read_144 (hq _)
  have hend90 : ∀ {w : Vv} {x y : Int32} {q : Nat}, FB w q → (∀ x, Q x w) → k_M_read_90 which x y w Q := fun {w x y q} hb hq => by
    refine s_M_read_90 ?_
    rw [if_neg (by rw [hb.1]; decide)]
    exact hend hb hq
  have hT := tk_far B n
  refine M_next0 hb e29 e24 fun w1 m1 s1 => ?_
  have h28a : w1.1 154 28 = 0 := by rw [m1.1 _ _ (by unfold AN; omega)]; exact e28
  have m1 := m1.np
  obtain ⟨p0, l0⟩ := pr_spec hT (key := 6) (by decide) (Nat.zero_le n)
  refine M_part (kk := 6) (by decide) p0 s1 h28a (hN0.fm m1) (fun k e w x m b => ?_) fun a e0 q0 w2 m2 s2 h28b => ?_
  · rw [if_neg (by rw [b.1]; decide)]
    exact hend90 b fun y => h1 k (Or.inl e) w y (f0.tr (m1.tr m).pv) b
  rw [if_pos s2.2.1]
  have m2 := m1.tr m2
  obtain ⟨p1, l1⟩ := pr_spec hT (key := 7) (by decide) (j := a) (by rw [q0] at l0; exact l0)
  refine M_part (kk := 7) (by decide) p1 s2 h28b (hN0.fm m2) (fun k e w x m b => ?_) fun b e1 q1 w3 m3 s3 h28c => ?_
  · exact hend90 b fun y => h1 k (Or.inr ⟨a, e0, q0, Or.inl e⟩) w y (f0.tr (m2.tr m).pv) b
  refine s_M_read_90 ?_
  rw [if_pos s3.2.1]
  have m3 := m2.tr m3
  obtain ⟨p2, l2⟩ := pr_spec hT (key := 8) (by decide) (j := b) (by rw [q1] at l1; exact l1)
  refine M_part (kk := 8) (by decide) p2 s3 h28c (hN0.fm m3) (fun k e w x m q => ?_) fun k e2 q2 w4 m4 s4 h28d => ?_
  · exact hend q fun y => h1 k (Or.inr ⟨a, e0, q0, Or.inr ⟨b, e1, q1, Or.inl e⟩⟩) w y (f0.tr (m3.tr m).pv) q
  refine s_M_read_124 ?_
  rw [if_pos s4.2.1]
  have m4 := m3.tr m4
  by_cases hz : tk B n k = -1
  · rw [if_pos ((MS_fin s4).mpr hz)]
    exact s_M_read_144 (h2 e0 e1 e2 ⟨a, b, k, q0, q1, q2, hz⟩ w4 (f0.tr m4.pv) s4.2.1)
  · rw [if_neg (fun z => hz ((MS_fin s4).mp z))]
    refine MS_fail s4 fun w5 m5 b5 => s_M_read_144 ?_
    exact h1 k (Or.inr ⟨a, e0, q0, Or.inr ⟨b, e1, q1, Or.inr ⟨e2, q2, hz⟩⟩⟩) w5 _ (f0.tr (m4.tr m5).pv) b5
theorem RD_ex (B : Nat → Int32) (n : Nat) : (∃ e0 e1 e2, RDok (tk B n) n e0 e1 e2) ∨ ∃ k, RDbad (tk B n) n k := by
  have hT := tk_far B n
  rcases out_cases (pr (tk B n) n 6 0) with ⟨k, h⟩ | ⟨a, e0, h0⟩
  · exact Or.inr ⟨k, Or.inl h⟩
  rcases out_cases (pr (tk B n) n 7 a) with ⟨k, h⟩ | ⟨b, e1, h1⟩
  · exact Or.inr ⟨k, Or.inr ⟨a, e0, h0, Or.inl h⟩⟩
  rcases out_cases (pr (tk B n) n 8 b) with ⟨k, h⟩ | ⟨c, e2, h2⟩
  · exact Or.inr ⟨k, Or.inr ⟨a, e0, h0, Or.inr ⟨b, e1, h1, Or.inl h⟩⟩⟩
  by_cases z : tk B n c = -1
  · exact Or.inl ⟨e0, e1, e2, a, b, c, h0, h1, h2, z⟩
  · exact Or.inr ⟨c, Or.inr ⟨a, e0, h0, Or.inr ⟨b, e1, h1, Or.inr ⟨e2, h2, z⟩⟩⟩⟩
theorem RD_ev {B : Nat → Int32} {n : Nat} {e0 e1 e2 : Ex} (h : RDok (tk B n) n e0 e1 e2) : EV e0 ∧ EV e1 ∧ EV e2 := by
  have hT := tk_far B n
  obtain ⟨a, b, c, a1, b1, c1, z⟩ := h
  obtain ⟨p0, l0⟩ := pr_spec hT (key := 6) (by decide) (Nat.zero_le n)
  rw [a1] at p0 l0
  obtain ⟨p1, l1⟩ := pr_spec hT (key := 7) (by decide) (j := a) l0
  rw [b1] at p1 l1
  obtain ⟨p2, l2⟩ := pr_spec hT (key := 8) (by decide) (j := b) l1
  rw [c1] at p2
  exact ⟨PT_ev p0, PT_ev p1, PT_ev p2⟩
