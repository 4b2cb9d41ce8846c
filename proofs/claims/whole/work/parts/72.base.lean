-- what holds at the law's entry, of classes and of what was there before
theorem over_arr {args : Array Value} {s : State} (h : (Cond.arrayOver (.array .int)).before args s = true) : ∃ (comp c : ClassId) (k : Class), s.vm.findClass (FieldType.array .int).toString = some comp ∧ s.vm.classes[c]? = some k ∧ k.kind = .array comp (.array .int) ∧ s.vm.findClass ("[" ++ (FieldType.array .int).toString) = some c := by
  simp only [Cond.before, Cond.holds, Cond.value, beq_iff_eq] at h
  cases hc : s.vm.findClass (FieldType.array .int).toString with
  | none => simp [hc] at h
  | some comp =>
    simp only [hc, Option.bind_some, Option.bind_eq_some_iff, Option.map_eq_some_iff] at h
    obtain ⟨c, hi, k, hk, hb⟩ := h
    obtain ⟨hlt, hp, -⟩ := Array.findIdx?_eq_some_iff_getElem.mp hi
    have hkk : s.vm.classes[c] = k := (Array.getElem?_eq_some_iff.mp hk).2
    rw [hkk] at hp
    cases hkind : k.kind with
    | array component ty =>
      rw [hkind] at hb hp
      simp at hb hp
      exact ⟨comp, c, k, rfl, hk, by rw [hkind, hp, hb.1], hb.2⟩
    | _ => rw [hkind] at hb; simp at hb
theorem vkS_congr {n : Nat} {len : List Nat} {byt : List (List Int32)} {f f' h h' : Nat → Nat} {A : Nat → Prop} {U : State} {H : Heap} (e : ∀ i, i < n → f i = f' i ∧ h i = h' i) (q : vk_S n len byt f h A U H) : vk_S n len byt f' h' A U H := by
  refine ⟨fun i hi => ?_, fun i j hi hj z => q.2 i j hi hj (by rw [(e i hi).1, (e j hj).1]; exact z)⟩
  have h1 := q.1 i hi
  rw [(e i hi).1, (e i hi).2] at h1
  exact h1
section BA
variable {s : State} {b : Nat}
theorem b_arr (hts : ∀ w ∈ lw_tbl, w.before #[Value.ref b] s = true) : ∀ ty ∈ zat, ∃ cA : ClassId, ArrOfT s cA ty ∧ va_RA s cA ty := by
  have ht : ∀ w ∈ zT, w.before #[Value.ref b] s = true := fun w hw => hts w (List.mem_filter.mp hw).1
  have ob : ∀ C : String, Cond.arrayOver (.object C) ∈ lw_tbl → ∃ cA : ClassId, ArrOfT s cA (.object C) ∧ va_RA s cA (.object C) := by
    intro C hC
    obtain ⟨comp, c, k, h1, -, h3, h4, h5⟩ := Cond.arrayOver_spec (hts _ hC)
    exact ⟨c, fun n z => ⟨(fun k h => by cases h), k, h3, comp, h4⟩, k, comp, h3, h4, h1, h5⟩
  intro ty hty
  have h7 : ty = .int ∨ ty = .long ∨ ty = .boolean ∨ ty = .array .int ∨ ty = .object "PutOn$Clock" ∨ ty = .object "PutOn$Doer" ∨ ty = .object "PutOn$Text" ∨ ty = .object "PutOn$Sheet" := by
    simpa [zat] using hty
  rcases h7 with rfl | rfl | rfl | rfl | rfl | rfl | rfl | rfl
  · obtain ⟨c, k, comp, h1, h2, h3⟩ := Cond.arrayClass_spec (ht _ na_int)
    exact ⟨c, fun n z => ⟨(fun k h => by cases h), k, h2, comp, h3⟩, h1⟩
  · obtain ⟨c, k, comp, h1, h2, h3⟩ := Cond.arrayClass_spec (ht _ na_long)
    exact ⟨c, fun n z => ⟨(fun k h => by cases h), k, h2, comp, h3⟩, h1⟩
  · obtain ⟨c, k, comp, h1, h2, h3⟩ := Cond.arrayClass_spec (ht _ na_boolean)
    exact ⟨c, fun n z => ⟨(fun k h => by cases h), k, h2, comp, h3⟩, h1⟩
  · obtain ⟨comp, c, k, h1, h2, h3, h4⟩ := over_arr (hts (Cond.arrayOver (.array .int)) (by decide +kernel))
    exact ⟨c, fun n z => ⟨(fun k h => by cases h), k, h2, comp, h3⟩, h4⟩
  · exact ob _ no_C
  · exact ob _ no_D
  · exact ob _ no_T
  · exact ob _ no_S
theorem b_ii (hts : ∀ w ∈ lw_tbl, w.before #[Value.ref b] s = true) : zII s := by
  obtain ⟨comp, c, k, h1, h2, h3, h4⟩ := over_arr (hts (Cond.arrayOver (.array .int)) (by decide +kernel))
  exact ⟨c, comp, k, h4, h2, h3, h1⟩
theorem b_cls (hts : ∀ w ∈ lw_tbl, w.before #[Value.ref b] s = true) (c : Nat) : ∃ q : ClassId × (Nat → Nat), ∀ r, zcl[c]? = some r → u_Kn s r.1 r.2.1 r.2.2 q.1 q.2 := by
  have ht : ∀ w ∈ zT, w.before #[Value.ref b] s = true := fun w hw => hts w (List.mem_filter.mp hw).1
  have one : ∀ (r : vw_C), (∀ w ∈ u_ws r.1 r.2.1 r.2.2, w ∈ zT) → Cond.instantiable r.1 r.2.2 ∈ zT → ∃ q : ClassId × (Nat → Nat), ∀ r', some r = some r' → u_Kn s r'.1 r'.2.1 r'.2.2 q.1 q.2 := by
    intro r h1 h2
    obtain ⟨cC, iS, h3⟩ := u_known ht h1 (ht _ h2)
    exact ⟨(cC, iS), fun r' e => by cases e; exact h3⟩
  match c with
  | 0 => exact one (RX0, TX0, 4) inX0 ni_C
  | 1 => exact one (RX1, TX1, 3) inX1 ni_D
  | 2 => exact one (RX2, TX2, 5) inX2 ni_H
  | 3 => exact one (RX3, TX3, 2) inX3 ni_K
  | 4 => exact one (RX4, TX4, 6) inX4 ni_R
  | 5 => exact one (RX5, TX5, 3) inX5 ni_S
  | 6 => exact one (RX6, TX6, 3) inX6 ni_U
  | 7 => exact one (RX7, TX7, 5) inX7 ni_T
  | 8 => exact one (RX8, TX8, 13) inX8 ni_W
  | 9 => exact one (RX9, TX9, 11) inX9 ni_P
  | 10 => exact one (RX10, TX10, 49) inX10 ni_M
  | k + 11 => exact ⟨(0, fun _ => 0), fun r h => by simp [zcl] at h⟩
def nrw : List Cond := flatC (Jvm.Cond.and given_1 narrow_1)
def stT (j : Nat) : Term := .static "PutOn" (stN j) "[I"
theorem b_stat (hts : ∀ w ∈ lw_tbl, w.before #[Value.ref b] s = true) (hn : ∀ w ∈ nrw, w.before #[Value.ref b] s = true) {A : Nat → Prop} (hA : ∀ a : Nat, a < s.heap.size → ¬ A a) (j : Nat) : ∃ t : Nat, j < 3 → va_Z "PutOn" (stN j) "[I" (.ref t) A s s.heap ∧ va_T .int t 6 (fun k => .int (stV j k)) A s s.heap := by
  have c1 : ∀ j ∈ List.range 3, Cond.arrayOf (stT j) .int ∈ nrw ∧ Cond.eq (.length (stT j)) (.int 6) ∈ nrw ∧ (∀ k ∈ List.range 6, Cond.eq (.elem (stT j) (.int (Int32.ofNat k))) (.int (stV j k)) ∈ nrw) ∧ Cond.laysStatic "PutOn" (stN j) "[I" ∈ lw_tbl := by decide +kernel
  by_cases hj : j < 3
  · obtain ⟨h1, h2, h3, h4⟩ := c1 j (List.mem_range.mpr hj)
    obtain ⟨t, q1, q2⟩ := va_Tof (f := fun k => .int (stV j k)) (N := 6) (A := A) (by decide) (hn _ h1) (va_eqt (hn _ h2)) (fun k hk => va_eqt (hn _ (h3 k (List.mem_range.mpr hk)))) hA
    exact ⟨t, fun _ => ⟨va_Zof (hts _ h4) (hts _ (List.mem_filter.mp nt_P).1) q1 hA, q2⟩⟩
  · exact ⟨0, fun h => absurd h hj⟩
def sTm (i : Nat) : Term := .string "PutOn$Reader" (94 + 2 * i)
def prq (c : Cond) : Option (Nat × Nat) := match c with
  | .not (.eq (.string o a) (.string o' b)) => if o = "PutOn$Reader" ∧ o' = "PutOn$Reader" then some (a, b) else none
  | _ => none
theorem prq_inv {c : Cond} {q : Nat × Nat} (h : prq c = some q) : c = .not (.eq (.string "PutOn$Reader" q.1) (.string "PutOn$Reader" q.2)) := by
  unfold prq at h
  split at h
  · split at h
    · rename_i e
      obtain ⟨rfl, rfl⟩ := e
      cases h
      rfl
    · cases h
  · cases h
def PL : List (Nat × Nat) := [(94, 96), (94, 98), (96, 98), (94, 100), (96, 100), (98, 100), (94, 102), (96, 102), (98, 102), (100, 102), (94, 104), (96, 104), (98, 104), (100, 104), (102, 104), (94, 106), (96, 106), (98, 106), (100, 106), (102, 106), (104, 106), (94, 108), (96, 108), (98, 108), (100, 108), (102, 108), (104, 108), (106, 108), (94, 110), (96, 110), (98, 110), (100, 110), (102, 110), (104, 110), (106, 110), (108, 110), (94, 112), (96, 112), (98, 112), (100, 112), (102, 112), (104, 112), (106, 112), (108, 112), (110, 112), (94, 114), (96, 114), (98, 114), (100, 114), (102, 114), (104, 114), (106, 114), (108, 114), (110, 114), (112, 114), (94, 116), (96, 116), (98, 116), (100, 116), (102, 116), (104, 116), (106, 116), (108, 116), (110, 116), (112, 116), (114, 116)]
theorem prs_all : nrw.filterMap prq = PL := by decide +kernel
theorem prs_in {i j : Nat} (hi : i < 12) (hj : j < 12) (hij : i ≠ j) : Cond.not (Cond.eq (sTm i) (sTm j)) ∈ nrw ∨ Cond.not (Cond.eq (sTm j) (sTm i)) ∈ nrw := by
  have h1 : ∀ i ∈ List.range 12, ∀ j ∈ List.range 12, i ≠ j → (94 + 2 * i, 94 + 2 * j) ∈ PL ∨ (94 + 2 * j, 94 + 2 * i) ∈ PL := by decide +kernel
  have h2 : ∀ a b : Nat, (a, b) ∈ nrw.filterMap prq → Cond.not (Cond.eq (.string "PutOn$Reader" a) (.string "PutOn$Reader" b)) ∈ nrw := by
    intro a b h
    obtain ⟨c, hc, e⟩ := List.mem_filterMap.mp h
    have e1 := prq_inv e
    rw [e1] at hc
    exact hc
  rcases h1 i (List.mem_range.mpr hi) j (List.mem_range.mpr hj) hij with h | h
  · exact Or.inl (h2 _ _ (by rw [prs_all]; exact h))
  · exact Or.inr (h2 _ _ (by rw [prs_all]; exact h))
theorem b_strs (hn : ∀ w ∈ nrw, w.before #[Value.ref b] s = true) {A : Nat → Prop} (hA : ∀ a : Nat, a < s.heap.size → ¬ A a) : ∃ adK adV : Nat → Nat, vk_S 12 sLen sByt adK adV A s s.heap ∧ ∀ i : Nat, i < 12 → (sTm i).eval #[Value.ref b] s none [] s = some (.ref (adK i)) := by
  have c1 : ∀ i ∈ List.range 12, sLen.getD i 0 < 2 ^ 31 ∧ Cond.exactly (sTm i) "java/lang/String" ∈ nrw ∧ Cond.eq (.field (sTm i) "java/lang/String" "coder" "B") (.int 0) ∈ nrw ∧ Cond.arrayOf (.field (sTm i) "java/lang/String" "value" "[B") .byte ∈ nrw ∧ Cond.eq (.length (.field (sTm i) "java/lang/String" "value" "[B")) (.int (Int32.ofNat (sLen.getD i 0))) ∈ nrw := by decide +kernel
  have c2 : ∀ i ∈ List.range 12, ∀ j ∈ List.range (sLen.getD i 0), Cond.eq (.elem (.field (sTm i) "java/lang/String" "value" "[B") (.int (Int32.ofNat j))) (.int ((sByt.getD i []).getD j 0)) ∈ nrw := by decide +kernel
  refine vk_Sof (tm := sTm) (fun i hi => (c1 i (List.mem_range.mpr hi)).1) (fun i hi => hn _ (c1 i (List.mem_range.mpr hi)).2.1) (fun i hi => hn _ (c1 i (List.mem_range.mpr hi)).2.2.1) (fun i hi => hn _ (c1 i (List.mem_range.mpr hi)).2.2.2.1) (fun i hi => hn _ (c1 i (List.mem_range.mpr hi)).2.2.2.2) (fun i hi j hj => hn _ (c2 i (List.mem_range.mpr hi) j (List.mem_range.mpr hj))) (fun i j hi hj hij => (prs_in hi hj hij).imp (hn _) (hn _)) hA
theorem b_form (hts : ∀ w ∈ lw_tbl, w.before #[Value.ref b] s = true) (hn : ∀ w ∈ nrw, w.before #[Value.ref b] s = true) {A : Nat → Prop} (hA : ∀ a : Nat, a < s.heap.size → ¬ A a) : va_Z "java/lang/String" "COMPACT_STRINGS" "Z" (.int 1) A s s.heap ∧ va_Zq prC "SIOOBE_FORMATTER" bfT A s s.heap :=
  ⟨va_Zof (hts (.laysStatic "java/lang/String" "COMPACT_STRINGS" "Z") (by decide +kernel)) (hts (.initialized "java/lang/String") (by decide +kernel)) (va_eqt (hn (.eq (.static "java/lang/String" "COMPACT_STRINGS" "Z") (.int 1)) (by decide +kernel))) hA,
    va_Zqof (hts (.laysStatic prC "SIOOBE_FORMATTER" bfT) (by decide +kernel)) (hts (.initialized prC) (by decide +kernel)) (hn (.isRef (.static prC "SIOOBE_FORMATTER" bfT)) (by decide +kernel)) hA⟩
end BA
