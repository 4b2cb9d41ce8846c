-- AN IMAGE: kept, and laid back
theorem RH_kept {v w : Vv} {n m : Nat} (hs1 : ∀ i k, 92 ≤ i ∧ i ≤ 105 ∨ i = 171 ∨ i = 172 ∨ i = 154 ∧ 42 ≤ k ∧ k ≤ 44 → w.1 i k = v.1 i k) (hki : ∀ d, d < m → w.1 162 d = v.1 162 d) (h : RH (hs v 92) (hk v) n m) : RH (hs w 92) (hk w) n m := by
  obtain ⟨⟨hn6, hm5⟩, ⟨hnA, hnB⟩, ⟨hmA, hmB⟩, hru, hcl, hdo⟩ := id h
  refine ⟨⟨hn6, hm5⟩, ⟨(hs1 92 2 (by omega)).trans hnA, (hs1 154 42 (by omega)).trans hnB⟩, ⟨(hs1 92 3 (by omega)).trans hmA, (hs1 154 43 (by omega)).trans hmB⟩, ?_, fun c hc => ?_, fun d hd => ?_⟩
  · show w.1 154 44 = w.1 92 4 ∧ 0 ≤ (w.1 92 4).toInt ∧ (w.1 92 4).toInt ≤ 5
    rw [hs1 154 44 (by omega), hs1 92 4 (by omega)]
    exact hru
  · show (w.1 171 (6 + c) = w.1 (92 + 3 + c) 0 ∧ w.1 171 c = w.1 (92 + 3 + c) 1 ∧ w.1 171 (12 + c) = w.1 (92 + 3 + c) 2 ∧ w.1 171 (18 + c) = w.1 (92 + 3 + c) 3) ∧ (0 ≤ (w.1 (92 + 3 + c) 0).toInt ∧ (w.1 (92 + 3 + c) 0).toInt ≤ 5) ∧ (-120 ≤ (w.1 (92 + 3 + c) 1).toInt ∧ (w.1 (92 + 3 + c) 1).toInt ≤ 120) ∧ (0 ≤ (w.1 (92 + 3 + c) 2).toInt ∧ (w.1 (92 + 3 + c) 2).toInt ≤ 1) ∧ (-1 ≤ (w.1 (92 + 3 + c) 3).toInt ∧ (w.1 (92 + 3 + c) 3).toInt ≤ 1439)
    have z : ∀ k, w.1 (92 + 3 + c) k = v.1 (92 + 3 + c) k := fun k => hs1 _ _ (by omega)
    rw [hs1 171 _ (by omega), hs1 171 _ (by omega), hs1 171 _ (by omega), hs1 171 _ (by omega), z, z, z, z]
    exact hcl c hc
  · show (w.1 162 d = w.1 (92 + 9 + d) 0 ∧ w.1 172 d = w.1 (92 + 9 + d) 1 ∧ w.1 172 (5 + d) = w.1 (92 + 9 + d) 2) ∧ (0 ≤ (w.1 (92 + 9 + d) 0).toInt ∧ (w.1 (92 + 9 + d) 0).toInt ≤ 5) ∧ (0 ≤ (w.1 (92 + 9 + d) 1).toInt ∧ (w.1 (92 + 9 + d) 1).toInt ≤ 9) ∧ (0 ≤ (w.1 (92 + 9 + d) 2).toInt ∧ (w.1 (92 + 9 + d) 2).toInt ≤ 63)
    have z : ∀ k, w.1 (92 + 9 + d) k = v.1 (92 + 9 + d) k := fun k => hs1 _ _ (by omega)
    rw [hki d hd, hs1 172 _ (by omega), hs1 172 _ (by omega), z, z, z]
    exact hdo d hd
/-- the cells that tell of the house -/
def CH (i k : Nat) : Prop := 74 ≤ i ∧ i ≤ 87 ∨ 158 ≤ i ∧ i ≤ 164 ∨ i = 154 ∧ (k = 11 ∨ k = 15 ∨ k = 4)
theorem RH_house {v w : Vv} {n m : Nat} (hs1 : ∀ i k, CH i k → w.1 i k = v.1 i k) (h : RH (hs v 74) (hm v) n m) : RH (hs w 74) (hm w) n m := by
  obtain ⟨⟨hn6, hm5⟩, ⟨hnA, hnB⟩, ⟨hmA, hmB⟩, hru, hcl, hdo⟩ := id h
  unfold CH at hs1
  refine ⟨⟨hn6, hm5⟩, ⟨(hs1 74 2 (by omega)).trans hnA, (hs1 154 11 (by omega)).trans hnB⟩, ⟨(hs1 74 3 (by omega)).trans hmA, (hs1 154 15 (by omega)).trans hmB⟩, ?_, fun c hc => ?_, fun d hd => ?_⟩
  · show w.1 154 4 = w.1 74 4 ∧ 0 ≤ (w.1 74 4).toInt ∧ (w.1 74 4).toInt ≤ 5
    rw [hs1 154 4 (by omega), hs1 74 4 (by omega)]
    exact hru
  · show (w.1 159 c = w.1 (74 + 3 + c) 0 ∧ w.1 158 c = w.1 (74 + 3 + c) 1 ∧ w.1 160 c = w.1 (74 + 3 + c) 2 ∧ w.1 161 c = w.1 (74 + 3 + c) 3) ∧ (0 ≤ (w.1 (74 + 3 + c) 0).toInt ∧ (w.1 (74 + 3 + c) 0).toInt ≤ 5) ∧ (-120 ≤ (w.1 (74 + 3 + c) 1).toInt ∧ (w.1 (74 + 3 + c) 1).toInt ≤ 120) ∧ (0 ≤ (w.1 (74 + 3 + c) 2).toInt ∧ (w.1 (74 + 3 + c) 2).toInt ≤ 1) ∧ (-1 ≤ (w.1 (74 + 3 + c) 3).toInt ∧ (w.1 (74 + 3 + c) 3).toInt ≤ 1439)
    have z : ∀ k, w.1 (74 + 3 + c) k = v.1 (74 + 3 + c) k := fun k => hs1 _ _ (by omega)
    rw [hs1 158 _ (by omega), hs1 159 _ (by omega), hs1 160 _ (by omega), hs1 161 _ (by omega), z, z, z, z]
    exact hcl c hc
  · show (w.1 162 d = w.1 (74 + 9 + d) 0 ∧ w.1 163 d = w.1 (74 + 9 + d) 1 ∧ w.1 164 d = w.1 (74 + 9 + d) 2) ∧ (0 ≤ (w.1 (74 + 9 + d) 0).toInt ∧ (w.1 (74 + 9 + d) 0).toInt ≤ 5) ∧ (0 ≤ (w.1 (74 + 9 + d) 1).toInt ∧ (w.1 (74 + 9 + d) 1).toInt ≤ 9) ∧ (0 ≤ (w.1 (74 + 9 + d) 2).toInt ∧ (w.1 (74 + 9 + d) 2).toInt ≤ 63)
    have z : ∀ k, w.1 (74 + 9 + d) k = v.1 (74 + 9 + d) k := fun k => hs1 _ _ (by omega)
    rw [hs1 162 _ (by omega), hs1 163 _ (by omega), hs1 164 _ (by omega), z, z, z]
    exact hdo d hd
def KE (v : Vv) : Prop := (v.1 0 3 = 0 ∧ v.1 154 42 = -1) ∨ (v.1 0 3 = 1 ∧ ∃ n m, RH (hs v 92) (hk v) n m ∧ (m : Int) ≤ (v.1 74 3).toInt)
def AK (i k : Nat) : Prop := 92 ≤ i ∧ i ≤ 105 ∨ i = 0 ∧ k = 3 ∨ i = 171 ∨ i = 172 ∨ i = 154 ∧ 42 ≤ k ∧ k ≤ 44
theorem image_step {v : Vv} (h : HO v) {Q : Int32 → Int32 → Vv → Prop} (hQ : ∀ r w, KE w → FX AK v w → (w.1 0 3 = 1 ∧ w.1 92 4 = v.1 74 4) → Q r r w) : m_P_image v (fun r v1 => m_M_image v1 (fun r' v2 => Q r r' v2)) := by
  obtain ⟨n, m, h⟩ := h
  obtain ⟨⟨hn6, hm5⟩, ⟨hnA, hnB⟩, ⟨hmA, hmB⟩, hru, hcl, hdo⟩ := id h
  refine s_P_image (H_become (t := 92) (s := 74) (by unfold isHouse; decide) (by unfold isHouse; decide) (by omega) ?_)
  refine M_image ?_
  generalize hu : sI (hBecome v 92 74) 0 3 1 = u
  have ru : ∀ a k, u.1 a k = if a = 0 ∧ k = 3 then 1 else if a = 92 ∧ k = 4 then v.1 74 4 else if a = 92 ∧ k = 3 then v.1 74 3 else if a = 92 ∧ k = 2 then v.1 74 2 else if 92 + 3 ≤ a ∧ a < 92 + 3 + 6 ∧ k < 4 then v.1 (a - 92 + 74) k else if 92 + 9 ≤ a ∧ a < 92 + 9 + 5 ∧ k < 3 then v.1 (a - 92 + 74) k else v.1 a k := by
    intro a k
    rw [← hu]
    rfl
  generalize hw : mImage u = w
  have rd : ∀ a k, w.1 a k = if a = 154 ∧ k = 44 then u.1 154 4 else if a = 154 ∧ k = 43 then u.1 154 15 else if a = 154 ∧ k = 42 then u.1 154 11 else if a = 171 ∧ k < 24 ∧ k % 6 < 6 then u.1 (158 + k / 6) (k % 6) else if a = 172 ∧ k < 10 ∧ k % 5 < 5 then u.1 (163 + k / 5) (k % 5) else u.1 a k := by
    intro a k
    rw [← hw]
    rfl
  have same : ∀ a k, ¬ AK a k → w.1 a k = v.1 a k := by
    intro a k hak
    unfold AK at hak
    rw [rd]
    repeat (first | rw [if_neg (by omega)] | rw [if_pos (by omega)])
    rw [ru]
    repeat (first | rw [if_neg (by omega)] | rw [if_pos (by omega)])
  have e1 : u.1 92 2 = nI n := by
    rw [ru]
    repeat (first | rw [if_neg (by omega)] | rw [if_pos (by omega)])
    exact hnA
  have e2 : u.1 154 11 = nI n := by
    rw [ru]
    repeat (first | rw [if_neg (by omega)] | rw [if_pos (by omega)])
    exact hnB
  rw [e1, e2]
  have w3 : w.1 0 3 = 1 := by
    rw [rd]
    repeat (first | rw [if_neg (by omega)] | rw [if_pos (by omega)])
    rw [ru]
    repeat (first | rw [if_neg (by omega)] | rw [if_pos (by omega)])
  have w4 : w.1 92 4 = v.1 74 4 := by
    rw [rd]
    repeat (first | rw [if_neg (by omega)] | rw [if_pos (by omega)])
    rw [ru]
    repeat (first | rw [if_neg (by omega)] | rw [if_pos (by omega)])
  have wh : ∀ k, k = 2 ∨ k = 3 ∨ k = 4 → w.1 92 k = v.1 74 k := by
    intro k hk
    rw [rd]
    repeat (first | rw [if_neg (by omega)] | rw [if_pos (by omega)])
    rw [ru]
    rcases hk with rfl | rfl | rfl <;> (repeat (first | rw [if_neg (by omega)] | rw [if_pos (by omega)]))
  have wc : ∀ c k, c < 6 → k < 4 → w.1 (92 + 3 + c) k = v.1 (74 + 3 + c) k := by
    intro c k hc hk
    rw [rd]
    repeat (first | rw [if_neg (by omega)] | rw [if_pos (by omega)])
    rw [ru]
    repeat (first | rw [if_neg (by omega)] | rw [if_pos (by omega)])
    rw [show 92 + 3 + c - 92 + 74 = 74 + 3 + c by omega]
  have wd : ∀ c k, c < 5 → k < 3 → w.1 (92 + 9 + c) k = v.1 (74 + 9 + c) k := by
    intro c k hc hk
    rw [rd]
    repeat (first | rw [if_neg (by omega)] | rw [if_pos (by omega)])
    rw [ru]
    repeat (first | rw [if_neg (by omega)] | rw [if_pos (by omega)])
    rw [show 92 + 9 + c - 92 + 74 = 74 + 9 + c by omega]
  have wm : ∀ j c, j < 4 → c < 6 → w.1 171 (6 * j + c) = v.1 (158 + j) c := by
    intro j c hj hc
    rw [rd]
    repeat (first | rw [if_neg (by omega)] | rw [if_pos (by omega)])
    rw [show (6 * j + c) / 6 = j by omega, show (6 * j + c) % 6 = c by omega, ru]
    repeat (first | rw [if_neg (by omega)] | rw [if_pos (by omega)])
  have wn : ∀ j c, j < 2 → c < 5 → w.1 172 (5 * j + c) = v.1 (163 + j) c := by
    intro j c hj hc
    rw [rd]
    repeat (first | rw [if_neg (by omega)] | rw [if_pos (by omega)])
    rw [show (5 * j + c) / 5 = j by omega, show (5 * j + c) % 5 = c by omega, ru]
    repeat (first | rw [if_neg (by omega)] | rw [if_pos (by omega)])
  have w42 : ∀ k x, (k = 42 ∧ x = v.1 154 11 ∨ k = 43 ∧ x = v.1 154 15 ∨ k = 44 ∧ x = v.1 154 4) → w.1 154 k = x := by
    intro k x hk
    rcases hk with ⟨rfl, rfl⟩ | ⟨rfl, rfl⟩ | ⟨rfl, rfl⟩ <;> rw [rd] <;> (repeat (first | rw [if_neg (by omega)] | rw [if_pos (by omega)])) <;> rw [ru] <;> (repeat (first | rw [if_neg (by omega)] | rw [if_pos (by omega)]))
  refine hQ _ _ (Or.inr ⟨w3, n, m, ⟨⟨hn6, hm5⟩, ⟨?_, ?_⟩, ⟨?_, ?_⟩, ?_, fun c hc => ?_, fun d hd => ?_⟩, ?_⟩) ⟨same, by rw [← hw, ← hu]; rfl⟩ ⟨w3, w4⟩
  · exact (wh 2 (by omega)).trans hnA
  · exact (w42 42 _ (Or.inl ⟨rfl, rfl⟩)).trans hnB
  · exact (wh 3 (by omega)).trans hmA
  · exact (w42 43 _ (Or.inr (Or.inl ⟨rfl, rfl⟩))).trans hmB
  · show w.1 154 44 = w.1 92 4 ∧ 0 ≤ (w.1 92 4).toInt ∧ (w.1 92 4).toInt ≤ 5
    rw [w42 44 _ (Or.inr (Or.inr ⟨rfl, rfl⟩)), w4]
    exact hru
  · show (w.1 171 (6 + c) = w.1 (92 + 3 + c) 0 ∧ w.1 171 c = w.1 (92 + 3 + c) 1 ∧ w.1 171 (12 + c) = w.1 (92 + 3 + c) 2 ∧ w.1 171 (18 + c) = w.1 (92 + 3 + c) 3) ∧ (0 ≤ (w.1 (92 + 3 + c) 0).toInt ∧ (w.1 (92 + 3 + c) 0).toInt ≤ 5) ∧ (-120 ≤ (w.1 (92 + 3 + c) 1).toInt ∧ (w.1 (92 + 3 + c) 1).toInt ≤ 120) ∧ (0 ≤ (w.1 (92 + 3 + c) 2).toInt ∧ (w.1 (92 + 3 + c) 2).toInt ≤ 1) ∧ (-1 ≤ (w.1 (92 + 3 + c) 3).toInt ∧ (w.1 (92 + 3 + c) 3).toInt ≤ 1439)
    have a0 := wm 0 c (by omega) (by omega)
    have a1 := wm 1 c (by omega) (by omega)
    have a2 := wm 2 c (by omega) (by omega)
    have a3 := wm 3 c (by omega) (by omega)
    rw [show 6 * 0 + c = c by omega] at a0
    rw [show 6 * 1 + c = 6 + c by omega] at a1
    rw [show 6 * 2 + c = 12 + c by omega] at a2
    rw [show 6 * 3 + c = 18 + c by omega] at a3
    rw [a0, a1, a2, a3, wc c 0 (by omega) (by omega), wc c 1 (by omega) (by omega), wc c 2 (by omega) (by omega), wc c 3 (by omega) (by omega)]
    exact hcl c hc
  · show (w.1 162 d = w.1 (92 + 9 + d) 0 ∧ w.1 172 d = w.1 (92 + 9 + d) 1 ∧ w.1 172 (5 + d) = w.1 (92 + 9 + d) 2) ∧ (0 ≤ (w.1 (92 + 9 + d) 0).toInt ∧ (w.1 (92 + 9 + d) 0).toInt ≤ 5) ∧ (0 ≤ (w.1 (92 + 9 + d) 1).toInt ∧ (w.1 (92 + 9 + d) 1).toInt ≤ 9) ∧ (0 ≤ (w.1 (92 + 9 + d) 2).toInt ∧ (w.1 (92 + 9 + d) 2).toInt ≤ 63)
    have a0 := wn 0 d (by omega) (by omega)
    have a1 := wn 1 d (by omega) (by omega)
    rw [show 5 * 0 + d = d by omega] at a0
    rw [show 5 * 1 + d = 5 + d by omega] at a1
    rw [a0, a1, same 162 d (by unfold AK; omega), wd d 0 (by omega) (by omega), wd d 1 (by omega) (by omega), wd d 2 (by omega) (by omega)]
    exact hdo d hd
  · rw [same 74 3 (by unfold AK; omega), show v.1 74 3 = nI m from hmA, nI_tI (by omega)]
    omega
theorem back_step {v : Vv} (h : HO v) (hk0 : KE v) {Q : Int32 → Int32 → Vv → Prop} (h0 : ∀ r, Q r r v) (hQ : ∀ r w, HO w → KE w → FX AH v w → w.1 1 12 = 1 → w.1 74 4 = v.1 92 4 → v.1 0 3 = 1 → Q r r w) : m_P_back v (fun r v1 => m_M_back v1 (fun r' v2 => Q r r' v2)) := by
  refine s_P_back ?_
  rcases hk0 with ⟨g1, g2⟩ | ⟨g1, n, m, hR, hmm⟩
  · rw [if_pos g1]
    exact M_back (fun _ => h0 _) (fun q => absurd g2 q)
  · rw [if_neg (by rw [g1]; decide)]
    obtain ⟨⟨hn6, hm5⟩, ⟨hnA, hnB⟩, ⟨hmA, hmB⟩, hru, hcl, hdo⟩ := id hR
    refine H_become (t := 74) (s := 92) (by unfold isHouse; decide) (by unfold isHouse; decide) (by omega) ?_
    generalize hu : sI (hBecome v 74 92) 1 12 1 = u
    have ru : ∀ a k, u.1 a k = if a = 1 ∧ k = 12 then 1 else if a = 74 ∧ k = 4 then v.1 92 4 else if a = 74 ∧ k = 3 then v.1 92 3 else if a = 74 ∧ k = 2 then v.1 92 2 else if 74 + 3 ≤ a ∧ a < 74 + 3 + 6 ∧ k < 4 then v.1 (a - 74 + 92) k else if 74 + 9 ≤ a ∧ a < 74 + 9 + 5 ∧ k < 3 then v.1 (a - 74 + 92) k else v.1 a k := by
      intro a k
      rw [← hu]
      rfl
    have u42 : u.1 154 42 = nI n := by
      rw [ru]
      repeat (first | rw [if_neg (by omega)] | rw [if_pos (by omega)])
      exact hnB
    refine M_back (fun q => ?_) (fun _ => ?_)
    · exfalso
      rw [u42] at q
      have := congrArg Int32.toInt q
      rw [nI_tI (by omega), t_n1] at this
      omega
    generalize hw : mBack u = w
    have rd : ∀ a k, w.1 a k = if a = 154 ∧ k = 4 then u.1 154 44 else if a = 154 ∧ k = 15 then u.1 154 43 else if a = 154 ∧ k = 11 then u.1 154 42 else if 158 ≤ a ∧ a ≤ 161 ∧ k < 6 then u.1 171 (6 * (a - 158) + k) else if 163 ≤ a ∧ a ≤ 164 ∧ k < 5 then u.1 172 (5 * (a - 163) + k) else u.1 a k := by
      intro a k
      rw [← hw]
      rfl
    have same : ∀ a k, ¬ AH a k → w.1 a k = v.1 a k := by
      intro a k hak
      unfold AH at hak
      rw [rd]
      repeat (first | rw [if_neg (by omega)] | rw [if_pos (by omega)])
      rw [ru]
      repeat (first | rw [if_neg (by omega)] | rw [if_pos (by omega)])
    have same2 : ∀ k, w.1 162 k = v.1 162 k := by
      intro k
      rw [rd]
      repeat (first | rw [if_neg (by omega)] | rw [if_pos (by omega)])
      rw [ru]
      repeat (first | rw [if_neg (by omega)] | rw [if_pos (by omega)])
    have e1 : u.1 74 2 = nI n := by
      rw [ru]
      repeat (first | rw [if_neg (by omega)] | rw [if_pos (by omega)])
      exact hnA
    rw [e1, u42]
    have wh : ∀ k, k = 2 ∨ k = 3 ∨ k = 4 → w.1 74 k = v.1 92 k := by
      intro k hk
      rw [rd]
      repeat (first | rw [if_neg (by omega)] | rw [if_pos (by omega)])
      rw [ru]
      rcases hk with rfl | rfl | rfl <;> (repeat (first | rw [if_neg (by omega)] | rw [if_pos (by omega)]))
    have wc : ∀ c k, c < 6 → k < 4 → w.1 (74 + 3 + c) k = v.1 (92 + 3 + c) k := by
      intro c k hc hk
      rw [rd]
      repeat (first | rw [if_neg (by omega)] | rw [if_pos (by omega)])
      rw [ru]
      repeat (first | rw [if_neg (by omega)] | rw [if_pos (by omega)])
      rw [show 74 + 3 + c - 74 + 92 = 92 + 3 + c by omega]
    have wd : ∀ c k, c < 5 → k < 3 → w.1 (74 + 9 + c) k = v.1 (92 + 9 + c) k := by
      intro c k hc hk
      rw [rd]
      repeat (first | rw [if_neg (by omega)] | rw [if_pos (by omega)])
      rw [ru]
      repeat (first | rw [if_neg (by omega)] | rw [if_pos (by omega)])
      rw [show 74 + 9 + c - 74 + 92 = 92 + 9 + c by omega]
    have wm : ∀ j c, j < 4 → c < 6 → w.1 (158 + j) c = v.1 171 (6 * j + c) := by
      intro j c hj hc
      rw [rd]
      repeat (first | rw [if_neg (by omega)] | rw [if_pos (by omega)])
      rw [show 158 + j - 158 = j by omega, ru]
      repeat (first | rw [if_neg (by omega)] | rw [if_pos (by omega)])
    have wn : ∀ j c, j < 2 → c < 5 → w.1 (163 + j) c = v.1 172 (5 * j + c) := by
      intro j c hj hc
      rw [rd]
      repeat (first | rw [if_neg (by omega)] | rw [if_pos (by omega)])
      rw [show 163 + j - 163 = j by omega, ru]
      repeat (first | rw [if_neg (by omega)] | rw [if_pos (by omega)])
    have w42 : ∀ k x, (k = 11 ∧ x = v.1 154 42 ∨ k = 15 ∧ x = v.1 154 43 ∨ k = 4 ∧ x = v.1 154 44) → w.1 154 k = x := by
      intro k x hk
      rcases hk with ⟨rfl, rfl⟩ | ⟨rfl, rfl⟩ | ⟨rfl, rfl⟩ <;> rw [rd] <;> (repeat (first | rw [if_neg (by omega)] | rw [if_pos (by omega)])) <;> rw [ru] <;> (repeat (first | rw [if_neg (by omega)] | rw [if_pos (by omega)]))
    have w12 : w.1 1 12 = 1 := by
      rw [rd]
      repeat (first | rw [if_neg (by omega)] | rw [if_pos (by omega)])
      rw [ru]
      repeat (first | rw [if_neg (by omega)] | rw [if_pos (by omega)])
    have hH : RH (hs w 74) (hm w) n m := by
      refine ⟨⟨hn6, hm5⟩, ⟨?_, ?_⟩, ⟨?_, ?_⟩, ?_, fun c hc => ?_, fun d hd => ?_⟩
      · exact (wh 2 (by omega)).trans hnA
      · exact (w42 11 _ (Or.inl ⟨rfl, rfl⟩)).trans hnB
      · exact (wh 3 (by omega)).trans hmA
      · exact (w42 15 _ (Or.inr (Or.inl ⟨rfl, rfl⟩))).trans hmB
      · show w.1 154 4 = w.1 74 4 ∧ 0 ≤ (w.1 74 4).toInt ∧ (w.1 74 4).toInt ≤ 5
        rw [w42 4 _ (Or.inr (Or.inr ⟨rfl, rfl⟩)), wh 4 (by omega)]
        exact hru
      · show (w.1 159 c = w.1 (74 + 3 + c) 0 ∧ w.1 158 c = w.1 (74 + 3 + c) 1 ∧ w.1 160 c = w.1 (74 + 3 + c) 2 ∧ w.1 161 c = w.1 (74 + 3 + c) 3) ∧ (0 ≤ (w.1 (74 + 3 + c) 0).toInt ∧ (w.1 (74 + 3 + c) 0).toInt ≤ 5) ∧ (-120 ≤ (w.1 (74 + 3 + c) 1).toInt ∧ (w.1 (74 + 3 + c) 1).toInt ≤ 120) ∧ (0 ≤ (w.1 (74 + 3 + c) 2).toInt ∧ (w.1 (74 + 3 + c) 2).toInt ≤ 1) ∧ (-1 ≤ (w.1 (74 + 3 + c) 3).toInt ∧ (w.1 (74 + 3 + c) 3).toInt ≤ 1439)
        have a0 := wm 0 c (by omega) (by omega)
        have a1 := wm 1 c (by omega) (by omega)
        have a2 := wm 2 c (by omega) (by omega)
        have a3 := wm 3 c (by omega) (by omega)
        rw [show 6 * 0 + c = c by omega] at a0
        rw [show 6 * 1 + c = 6 + c by omega] at a1
        rw [show 6 * 2 + c = 12 + c by omega] at a2
        rw [show 6 * 3 + c = 18 + c by omega] at a3
        rw [a0, a1, a2, a3, wc c 0 (by omega) (by omega), wc c 1 (by omega) (by omega), wc c 2 (by omega) (by omega), wc c 3 (by omega) (by omega)]
        exact hcl c hc
      · show (w.1 162 d = w.1 (74 + 9 + d) 0 ∧ w.1 163 d = w.1 (74 + 9 + d) 1 ∧ w.1 164 d = w.1 (74 + 9 + d) 2) ∧ (0 ≤ (w.1 (74 + 9 + d) 0).toInt ∧ (w.1 (74 + 9 + d) 0).toInt ≤ 5) ∧ (0 ≤ (w.1 (74 + 9 + d) 1).toInt ∧ (w.1 (74 + 9 + d) 1).toInt ≤ 9) ∧ (0 ≤ (w.1 (74 + 9 + d) 2).toInt ∧ (w.1 (74 + 9 + d) 2).toInt ≤ 63)
        have a0 := wn 0 d (by omega) (by omega)
        have a1 := wn 1 d (by omega) (by omega)
        rw [show 5 * 0 + d = d by omega] at a0
        rw [show 5 * 1 + d = 5 + d by omega] at a1
        rw [a0, a1, same2, wd d 0 (by omega) (by omega), wd d 1 (by omega) (by omega), wd d 2 (by omega) (by omega)]
        exact hdo d hd
    refine hQ _ _ ⟨n, m, hH⟩ (Or.inr ⟨?_, n, m, ?_, ?_⟩) ⟨same, by rw [← hw, ← hu]; rfl⟩ w12 (wh 4 (by omega)) g1
    · rw [same 0 3 (by unfold AH; omega)]; exact g1
    · exact RH_kept (fun i k hik => same i k (by unfold AH; omega)) (fun d _ => same2 d) hR
    · rw [wh 3 (by omega), show v.1 92 3 = nI m from hmA, nI_tI (by omega)]
      omega
