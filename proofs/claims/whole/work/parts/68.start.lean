-- what the constructors leave keeps what stands between the calls
def W00 : Mm := em (I00, fun _ _ => 0, 88)
def v0 : Vv := ((SMo (E6 W00)).1, fun _ _ => 0, 88)
theorem em_v0 : SMo (E6 W00) = em v0 := rfl
theorem TG_W00 (b e : Nat) : TG b e W00 := fun _ _ _ _ => ⟨rfl, rfl, rfl⟩
theorem lone {T : Nat → Int32} {o g : Nat} {e : Ex} {j : Nat} {r : Out} (h : Pr T o g e j r) : (isLf (T j) → T (j + 1) = 59 → g ≤ 6 → r = ok (j + 1) (lf (T j))) ∧ (T j = 59 → 7 ≤ g → r = ok j e) := by
  have n40 : ∀ {x : Int32}, x = 40 → ¬ isLf x := by rintro _ rfl; unfold isLf; decide
  have n45 : ∀ {x : Int32}, x = 45 → ¬ isLf x := by rintro _ rfl; unfold isLf; decide
  have n11 : ∀ {x : Int32}, x = 11 → ¬ isLf x := by rintro _ rfl; unfold isLf; decide
  have nop : ∀ {c : Nat} {x : Int32}, x = 59 → ¬ isOp c x := by
    rintro c _ rfl h
    unfold isOp at h
    rcases h with ⟨-, h⟩ | ⟨-, h⟩ | ⟨-, h⟩ | ⟨-, h⟩ <;> revert h <;> decide
  have n60 : ∀ {x : Int32}, x = 59 → ¬ (x = 60 ∨ x = 61) := by rintro _ rfl; decide
  have sb : ∀ c, sub c ≤ 6 := fun c => by have := sub_lt c; omega
  refine Pr_rec (P := fun o g e j r => (isLf (T j) → T (j + 1) = 59 → g ≤ 6 → r = ok (j + 1) (lf (T j))) ∧ (T j = 59 → 7 ≤ g → r = ok j e)) ?_ ?_ ?_ ?_ ?_ ?_ ?_ ?_ ?_ ?_ ?_ ?_ ?_ ?_ ?_ ?_ ?_ ?_ ?_ ?_ ?_ h
  · exact fun o j ha => ⟨fun _ _ _ => rfl, fun _ q => by omega⟩
  · exact fun o j ha hb => ⟨fun z => absurd z ha, fun _ q => by omega⟩
  · exact fun o j ha hb hc hd => ⟨fun z => absurd z ha, fun _ q => by omega⟩
  · exact fun o j k ha hb hp => ⟨fun z => absurd z (n40 ha), fun _ q => by omega⟩
  · exact fun o j k e ha hb hp hc => ⟨fun z => absurd z (n40 ha), fun _ q => by omega⟩
  · exact fun o j k e ha hb hp hc => ⟨fun z => absurd z (n40 ha), fun _ q => by omega⟩
  · exact fun o j k ha hb hp => ⟨fun z => absurd z (n45 ha), fun _ q => by omega⟩
  · exact fun o j k e ha hb hp => ⟨fun z => absurd z (n45 ha), fun _ q => by omega⟩
  · exact fun o j k hp => ⟨fun z y _ => hp.2.1 z y (by omega), fun _ q => by omega⟩
  · exact fun o j k e hp ha hb => ⟨fun z y _ => hp.2.1 z y (by omega), fun _ q => by omega⟩
  · exact fun o j k e l hp ha hq => ⟨fun z y _ => by
      have h1 := hp.2.1 z y (by omega)
      rw [(ok_inj h1).1] at ha
      exact absurd ha (n60 y), fun _ q => by omega⟩
  · exact fun o j k e l e2 hp ha hq => ⟨fun z y _ => by
      have h1 := hp.2.1 z y (by omega)
      rw [(ok_inj h1).1] at ha
      exact absurd ha (n60 y), fun _ q => by omega⟩
  · exact fun o j r ha hp => ⟨fun z y _ => hp.2.1 z y (by omega), fun _ q => by omega⟩
  · exact fun o j ha hb => ⟨fun z => absurd z (n11 ha), fun _ q => by omega⟩
  · exact fun o j k ha hb hp => ⟨fun z => absurd z (n11 ha), fun _ q => by omega⟩
  · exact fun o j k e ha hb hp => ⟨fun z => absurd z (n11 ha), fun _ q => by omega⟩
  · exact fun o j k c ha hp => ⟨fun z y _ => hp.2.1 z y (sb c), fun _ q => by omega⟩
  · exact fun o j k c e r ha hp hq => ⟨fun z y _ => by
      obtain ⟨h1, h2⟩ := ok_inj (hp.2.1 z y (sb c))
      rw [hq.2.2 (by rw [h1]; exact y) (by omega), h1, h2], fun _ q => by omega⟩
  · exact fun o j c e ha hb => ⟨fun _ _ q => by omega, fun _ _ => rfl⟩
  · exact fun o j k c e ha hb hp => ⟨fun _ _ q => by omega, fun z _ => absurd hb (nop z)⟩
  · exact fun o j k c e e2 r ha hb hp hq => ⟨fun _ _ q => by omega, fun z _ => absurd hb (nop z)⟩
theorem pr_lone {T : Nat → Int32} {c j : Nat} {key : Int32} (hT : ∀ j, c ≤ j → T j = -1) (hk : key ≠ -1) (hj : j ≤ c) (h0 : T j = key) (h1 : isLf (T (j + 1))) (h2 : T (j + 2) = 59) : pr T c key j = ok (j + 3) (lf (T (j + 1))) := by
  rcases (pr_spec hT hk hj).1 with ⟨a, -⟩ | ⟨-, ⟨k, a, -⟩ | ⟨k, e, a, b⟩⟩
  · exact absurd h0 a
  · exact absurd ((lone a).1 h1 h2 (by decide)).symm ok_bad
  · obtain ⟨rfl, rfl⟩ := ok_inj ((lone a).1 h1 h2 (by decide))
    rcases b with ⟨b, -⟩ | ⟨-, b⟩
    · exact absurd h2 b
    · exact b
/-- the letters of the first text -/
def B0 (i : Nat) : Int32 := [99, 97, 109, 101, 32, 53, 48, 32, 59, 32, 97, 100, 100, 115, 32, 54, 48, 32, 59, 32, 109, 105, 110, 100, 115, 32, 49, 32, 59, 32, 32, 32].getD i 0
theorem B0_ns {i m : Nat} (h : (decide (i ≤ m) && (decide (m ≤ 32) && (decide (∀ j, j < m → i ≤ j → ((B0 j = 32 ∨ B0 j = 10) ∨ (0 < j ∧ ((97 ≤ (B0 (j - 1)).toInt ∧ (B0 (j - 1)).toInt ≤ 122) ∧ (97 ≤ (B0 j).toInt ∧ (B0 j).toInt ≤ 122) ∨ (48 ≤ (B0 (j - 1)).toInt ∧ (B0 (j - 1)).toInt ≤ 57) ∧ (48 ≤ (B0 j).toInt ∧ (B0 j).toInt ≤ 57))))) && decide (m < 32 → ¬ (B0 m = 32 ∨ B0 m = 10) ∧ ¬ (0 < m ∧ ((97 ≤ (B0 (m - 1)).toInt ∧ (B0 (m - 1)).toInt ≤ 122) ∧ (97 ≤ (B0 m).toInt ∧ (B0 m).toInt ≤ 122) ∨ (48 ≤ (B0 (m - 1)).toInt ∧ (B0 (m - 1)).toInt ≤ 57) ∧ (48 ≤ (B0 m).toInt ∧ (B0 m).toInt ≤ 57))))))) = true) : ns B0 32 i = m := by
  simp only [Bool.and_eq_true, decide_eq_true_eq] at h
  obtain ⟨h1, h2, h3, h4⟩ := h
  refine Lst_eq h1 h2 (fun j a b z => ?_) h4
  rcases h3 j b a with q | q
  · exact z.1 q
  · exact z.2 q
theorem B0_en {s m : Nat} (h : (decide (s + 1 ≤ m) && (decide (m ≤ 32) && (decide (∀ j, j < m → s + 1 ≤ j → (0 < j ∧ ((97 ≤ (B0 (j - 1)).toInt ∧ (B0 (j - 1)).toInt ≤ 122) ∧ (97 ≤ (B0 j).toInt ∧ (B0 j).toInt ≤ 122) ∨ (48 ≤ (B0 (j - 1)).toInt ∧ (B0 (j - 1)).toInt ≤ 57) ∧ (48 ≤ (B0 j).toInt ∧ (B0 j).toInt ≤ 57)))) && decide (m < 32 → ¬ (0 < m ∧ ((97 ≤ (B0 (m - 1)).toInt ∧ (B0 (m - 1)).toInt ≤ 122) ∧ (97 ≤ (B0 m).toInt ∧ (B0 m).toInt ≤ 122) ∨ (48 ≤ (B0 (m - 1)).toInt ∧ (B0 (m - 1)).toInt ≤ 57) ∧ (48 ≤ (B0 m).toInt ∧ (B0 m).toInt ≤ 57))))))) = true) : en B0 32 s = m := by
  simp only [Bool.and_eq_true, decide_eq_true_eq] at h
  obtain ⟨h1, h2, h3, h4⟩ := h
  exact Lst_eq h1 h2 (fun j a b z => z (h3 j b a)) h4
theorem st_0 : st B0 32 0 = 0 := B0_ns (by decide +kernel)
theorem st_n {t a b : Nat} (h : st B0 32 t = a) (h2 : ns B0 32 (a + 1) = b) : st B0 32 (t + 1) = b := by
  show ns B0 32 (st B0 32 t + 1) = b
  rw [h]
  exact h2
theorem st_1 : st B0 32 1 = 5 := st_n st_0 (B0_ns (by decide +kernel))
theorem st_2 : st B0 32 2 = 8 := st_n st_1 (B0_ns (by decide +kernel))
theorem st_3 : st B0 32 3 = 10 := st_n st_2 (B0_ns (by decide +kernel))
theorem st_4 : st B0 32 4 = 15 := st_n st_3 (B0_ns (by decide +kernel))
theorem st_5 : st B0 32 5 = 18 := st_n st_4 (B0_ns (by decide +kernel))
theorem st_6 : st B0 32 6 = 20 := st_n st_5 (B0_ns (by decide +kernel))
theorem st_7 : st B0 32 7 = 26 := st_n st_6 (B0_ns (by decide +kernel))
theorem st_8 : st B0 32 8 = 28 := st_n st_7 (B0_ns (by decide +kernel))
theorem st_9 : st B0 32 9 = 32 := st_n st_8 (B0_ns (by decide +kernel))
theorem tk_s {t s e : Nat} {x : Int32} (h : st B0 32 t = s) (h1 : s < 32) (he : en B0 32 s = e) (hs : sm (B0 s)) (hw : wrd (ltr B0 s e) = x) : tk B0 32 t = x := by
  rw [tk_lt (by rw [h]; exact h1), h, he]
  unfold cod
  rw [if_pos hs, hw]
theorem tk_d {t s e : Nat} {x : Int32} (h : st B0 32 t = s) (h1 : s < 32) (he : en B0 32 s = e) (hs : ¬ sm (B0 s)) (hd : dg (B0 s)) (h4 : e - s ≤ 4) (hw : 100 + nI (num B0 s (e - s)) = x) : tk B0 32 t = x := by
  rw [tk_lt (by rw [h]; exact h1), h, he]
  unfold cod
  rw [if_neg hs, if_pos hd, if_pos h4, hw]
theorem tk_g {t s e : Nat} {x : Int32} (h : st B0 32 t = s) (h1 : s < 32) (he : en B0 32 s = e) (hs : ¬ sm (B0 s)) (hd : ¬ dg (B0 s)) (hg : sg (B0 s)) (hw : B0 s = x) : tk B0 32 t = x := by
  rw [tk_lt (by rw [h]; exact h1), h, he]
  unfold cod
  rw [if_neg hs, if_neg hd, if_pos hg, hw]
theorem tk_0 : tk B0 32 0 = 6 := tk_s (e := 4) st_0 (by decide) (B0_en (by decide +kernel)) (by unfold sm; decide +kernel) (by decide +kernel)
theorem tk_1 : tk B0 32 1 = 150 := tk_d (e := 7) st_1 (by decide) (B0_en (by decide +kernel)) (by unfold sm; decide +kernel) (by unfold dg; decide +kernel) (by decide) (by decide +kernel)
theorem tk_2 : tk B0 32 2 = 59 := tk_g (e := 9) st_2 (by decide) (B0_en (by decide +kernel)) (by unfold sm; decide +kernel) (by unfold dg; decide +kernel) (by unfold sg; decide +kernel) (by decide +kernel)
theorem tk_3 : tk B0 32 3 = 7 := tk_s (e := 14) st_3 (by decide) (B0_en (by decide +kernel)) (by unfold sm; decide +kernel) (by decide +kernel)
theorem tk_4 : tk B0 32 4 = 160 := tk_d (e := 17) st_4 (by decide) (B0_en (by decide +kernel)) (by unfold sm; decide +kernel) (by unfold dg; decide +kernel) (by decide) (by decide +kernel)
theorem tk_5 : tk B0 32 5 = 59 := tk_g (e := 19) st_5 (by decide) (B0_en (by decide +kernel)) (by unfold sm; decide +kernel) (by unfold dg; decide +kernel) (by unfold sg; decide +kernel) (by decide +kernel)
theorem tk_6 : tk B0 32 6 = 8 := tk_s (e := 25) st_6 (by decide) (B0_en (by decide +kernel)) (by unfold sm; decide +kernel) (by decide +kernel)
theorem tk_7 : tk B0 32 7 = 101 := tk_d (e := 27) st_7 (by decide) (B0_en (by decide +kernel)) (by unfold sm; decide +kernel) (by unfold dg; decide +kernel) (by decide) (by decide +kernel)
theorem tk_8 : tk B0 32 8 = 59 := tk_g (e := 29) st_8 (by decide) (B0_en (by decide +kernel)) (by unfold sm; decide +kernel) (by unfold dg; decide +kernel) (by unfold sg; decide +kernel) (by decide +kernel)
theorem tk_9 : tk B0 32 9 = -1 := tk_end st_9
theorem tk_fr : ∀ j, 32 ≤ j → tk B0 32 j = -1 := fun j hj => tk_end (by
  have h1 := st_mono (B := B0) (n := 32) (t := 9) (u := j) (by omega)
  have h2 := st_le B0 32 j
  rw [st_9] at h1
  omega)
theorem rd_0 : RDok (tk B0 32) 32 (lf 150) (lf 160) (lf 101) := by
  have l1 : isLf (tk B0 32 1) := by rw [tk_1]; unfold isLf; decide
  have l2 : isLf (tk B0 32 4) := by rw [tk_4]; unfold isLf; decide
  have l3 : isLf (tk B0 32 7) := by rw [tk_7]; unfold isLf; decide
  have a := pr_lone tk_fr (key := 6) (by decide) (j := 0) (by decide) tk_0 l1 tk_2
  have b := pr_lone tk_fr (key := 7) (by decide) (j := 3) (by decide) tk_3 l2 tk_5
  have c := pr_lone tk_fr (key := 8) (by decide) (j := 6) (by decide) tk_6 l3 tk_8
  refine ⟨3, 6, 9, ?_, ?_, ?_, tk_9⟩
  · rw [a]; show ok 3 (lf (tk B0 32 1)) = _; rw [tk_1]
  · rw [b]; show ok 6 (lf (tk B0 32 4)) = _; rw [tk_4]
  · rw [c]; show ok 9 (lf (tk B0 32 7)) = _; rw [tk_7]
theorem INV_of (v : Vv) (hT : ∀ i ∈ List.range 32, v.1 155 i = B0 i) (hS : ∀ s ∈ List.range 4, v.1 173 s = 0 ∧ v.1 (146 + 2 * s) 1 = -1 ∧ 0 ≤ (v.1 (146 + 2 * s) 2).toInt ∧ (v.1 (146 + 2 * s) 2).toInt ≤ 40) (hC : ∀ i ∈ List.range 3, v.1 123 i = [150, 160, 101].getD i 0) (a1 : v.1 74 2 = nI 0) (a2 : v.1 154 11 = nI 0) (a3 : v.1 74 3 = nI 0) (a4 : v.1 154 15 = nI 0) (a5 : v.1 74 4 = 0) (a6 : v.1 154 4 = 0) (a7 : v.1 0 3 = 0) (a8 : v.1 154 42 = -1) (a9 : v.1 0 5 = 1) (b1 : v.1 154 3 = 1) (b2 : v.1 0 7 = 0) (b3 : v.1 154 6 = 0) (b4 : v.1 1 12 = 1) (b5 : v.1 156 0 = 32) (b6 : v.1 124 0 = 1) (b7 : v.1 124 1 = 2) (b8 : v.1 124 2 = 3) : INV v := by
  have hB : ∀ i ∈ List.range 32, 0 ≤ (B0 i).toInt ∧ (B0 i).toInt ≤ 255 := by decide +kernel
  refine ⟨⟨⟨0, 0, ⟨by decide, by decide⟩, ⟨a1, a2⟩, ⟨a3, a4⟩, ⟨?_, ?_⟩, fun c hc => absurd hc (by omega), fun c hc => absurd hc (by omega)⟩, Or.inl ⟨a7, a8⟩, ⟨1, by decide, a9, b1⟩, ⟨0, by decide, b2, b3, fun i hi => absurd hi (by omega)⟩⟩, ⟨?_, fun h => absurd (a7.symm.trans h) (by decide)⟩, fun s hs => ?_, fun t ht => ?_, CACHE.no b4⟩
  · exact a6.trans a5.symm
  · show 0 ≤ (v.1 74 4).toInt ∧ (v.1 74 4).toInt ≤ 5
    rw [a5]
    decide
  · rw [a5, a9]
    decide
  · obtain ⟨a, b, c⟩ := hS s (List.mem_range.mpr hs)
    exact ⟨Or.inl ⟨a, b⟩, c⟩
  · rw [a9, t_1] at ht
    obtain rfl : t = 0 := by omega
    refine ⟨B0, 32, lf 150, lf 160, lf 101, ⟨by decide, fun i hi => hB i (List.mem_range.mpr hi)⟩, ⟨b5, fun i hi => ?_⟩, rd_0, ⟨?_, fun i hi => ?_⟩, b6, b7, b8⟩
    · rw [show 160 * 0 + i = i by omega]
      exact hT i (List.mem_range.mpr hi)
    · show 3 ≤ 160; decide
    · exact hC i (List.mem_range.mpr hi)
theorem INV_0 : INV v0 := INV_of v0 (by decide +kernel) (by decide +kernel) (by decide +kernel) (by decide +kernel) (by decide +kernel) (by decide +kernel) (by decide +kernel) (by decide +kernel) (by decide +kernel) (by decide +kernel) (by decide +kernel) (by decide +kernel) (by decide +kernel) (by decide +kernel) (by decide +kernel) (by decide +kernel) (by decide +kernel) (by decide +kernel) (by decide +kernel) (by decide +kernel)
