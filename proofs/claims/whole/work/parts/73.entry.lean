-- all that was there before, in one
def oldF (st adK adV : Nat → Nat) (tf b : Nat) (x : Nat) : Nat := if x < 3 then st x else if 10 ≤ x ∧ x < 22 then adK (x - 10) else if 30 ≤ x ∧ x < 42 then adV (x - 30) else if x = 50 then tf else b
theorem b_all {s : State} {b : Nat} (hts : ∀ w ∈ lw_tbl, w.before #[Value.ref b] s = true) (hn : ∀ w ∈ nrw, w.before #[Value.ref b] s = true) : ∃ g : zG, zK g s ∧ zX g s s.heap ∧ g.2.2.1 = s.heap.size ∧ ad g 100060 = b := by
  have hA : ∀ a : Nat, a < s.heap.size → ¬ (fun q => s.heap.size ≤ q) a := fun a h q => Nat.not_lt.mpr q h
  obtain ⟨K, hK⟩ := Classical.axiomOfChoice (fun c => b_cls hts c)
  have h0 : ∀ ty : FieldType, ∃ cA : ClassId, ty ∈ zat → ArrOfT s cA ty ∧ va_RA s cA ty := fun ty => by
    by_cases h : ty ∈ zat
    · obtain ⟨cA, h1⟩ := b_arr hts ty h
      exact ⟨cA, fun _ => h1⟩
    · exact ⟨(0 : Nat), fun q => absurd q h⟩
  obtain ⟨fA, hfA⟩ := Classical.axiomOfChoice h0
  obtain ⟨st, hst⟩ := Classical.axiomOfChoice (fun j => b_stat hts hn hA j)
  obtain ⟨adK, adV, hS1, hS2⟩ := b_strs hn hA
  obtain ⟨hc, hf⟩ := b_form hts hn hA
  obtain ⟨tf, htf⟩ : ∃ tf : Nat, va_Z prC "SIOOBE_FORMATTER" bfT .null (fun q => s.heap.size ≤ q) s s.heap ∨ va_Z prC "SIOOBE_FORMATTER" bfT (.ref tf) (fun q => s.heap.size ≤ q) s s.heap := by
    rcases hf with h | ⟨t, h⟩
    · exact ⟨0, Or.inl h⟩
    · exact ⟨t, Or.inr h⟩
  have a0 : ∀ x : Nat, ad ((fun c => (K c).1, fun c => (K c).2), fA, s.heap.size, oldF st adK adV tf b) (100000 + x) = oldF st adK adV tf b x := fun x => by
    unfold ad
    rw [if_neg (by omega), show 100000 + x - 100000 = x by omega]
  refine ⟨((fun c => (K c).1, fun c => (K c).2), fA, s.heap.size, oldF st adK adV tf b), ⟨⟨fun c q h => hK c q h, fun k q h => by simp at h⟩, fun ty h => hfA ty h, fun w hw hz => ?_, fun C h => va_AO.of (hts _ h), b_ii hts⟩, ⟨fun j hj => ?_, ?_, fun j hj => ?_, hc, ?_⟩, rfl, ?_⟩
  · have h1 := hts w hw
    cases w <;> first | exact va_Nw.of rfl h1 | (simp [zNest] at hz)
  · have h1 := hst j hj
    rw [a0 j]
    have e : oldF st adK adV tf b j = st j := if_pos hj
    rw [e]
    exact h1
  · refine vkS_congr (fun i hi => ⟨?_, ?_⟩) hS1
    · rw [show 100010 + i = 100000 + (10 + i) by omega, a0]
      unfold oldF
      rw [if_neg (by omega), if_pos (by omega), show 10 + i - 10 = i by omega]
    · rw [show 100030 + i = 100000 + (30 + i) by omega, a0]
      unfold oldF
      rw [if_neg (by omega), if_neg (by omega), if_pos (by omega), show 30 + i - 30 = i by omega]
  · have e : ad ((fun c => (K c).1, fun c => (K c).2), fA, s.heap.size, oldF st adK adV tf b) (100010 + j) = adK j := by
      rw [show 100010 + j = 100000 + (10 + j) by omega, a0]
      unfold oldF
      rw [if_neg (by omega), if_pos (by omega), show 10 + j - 10 = j by omega]
    rw [e]
    have c1 : ∀ j ∈ List.range 12, Cond.stringRef "PutOn$Reader" (94 + 2 * j) (sTx.getD j "") ∈ lw_tbl := by decide +kernel
    have h9 : Value.ref (adK j) = Value.ref (adK j) := rfl
    refine vk_R.of (A := #[Value.ref b]) (hts _ (c1 j (List.mem_range.mpr hj))) (hS2 j hj)
  · have e : ad ((fun c => (K c).1, fun c => (K c).2), fA, s.heap.size, oldF st adK adV tf b) 100050 = tf := by
      rw [show 100050 = 100000 + 50 from rfl, a0]
      unfold oldF
      rw [if_neg (by omega), if_neg (by omega), if_neg (by omega), if_pos rfl]
    rw [e]
    exact htf
  · rw [show 100060 = 100000 + 60 from rfl, a0]
    unfold oldF
    rw [if_neg (by omega), if_neg (by omega), if_neg (by omega), if_neg (by omega)]
