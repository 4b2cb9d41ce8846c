-- cells are made
def rel (i k : Nat) : Prop := match SH[i]? with
  | some x => k < zsz x
  | none => False
/-- two memories tell the same of the first cells -/
def SAM (n : Nat) (w w' : Mm) : Prop := ∀ i, i < n → ∀ k, rel i k → w.1 i k = w'.1 i k ∧ w.2.1 i k = w'.2.1 i k ∧ w.2.2 i k = w'.2.2 i k
theorem SAM_fv {n : Nat} {w w' : Mm} (h : SAM n w w') {i k : Nat} (hi : i < n) (hk : rel i k) (g : zG) (ty : FieldType) : fv g w ty i k = fv g w' ty i k := by
  obtain ⟨a, b, c⟩ := h i hi k hk
  unfold fv
  cases ty <;> simp [a, b, c]
theorem arrV_ext {c : ClassId} {m : Nat} {f f' : Nat → Value} (h : ∀ k, k < m → f k = f' k) : arrV c m f = arrV c m f' := by
  unfold arrV
  refine congrArg (fun (z : Array Value) => ({ cls := c, slots := z, vm := .none } : Cell)) ?_
  exact congrArg Array.ofFn (funext fun j => h j.val j.isLt)
theorem cellAt.congr {g : zG} {n i : Nat} {w w' : Mm} {H : Heap} (hi : i < n) (h : SAM n w w') (hc : cellAt g w i H) : cellAt g w' i H := by
  unfold cellAt at hc ⊢
  split
  · rename_i ci hs
    rw [hs] at hc
    obtain ⟨r, h1, h2⟩ := hc
    refine ⟨r, h1, h2.to fun k hk => SAM_fv h hi ?_ g _⟩
    unfold rel
    rw [hs]
    show k < (match zcl[ci]? with | some r => r.2.2 | none => 0)
    rw [h1]
    exact hk
  · rename_i a hs
    rw [hs] at hc
    have hc : H[g.2.2.1 + i]? = some (arrV (g.2.1 a.1) a.2 (fun k => fv g w a.1 i k)) := hc
    rw [hc]
    refine congrArg some (arrV_ext fun k hk => SAM_fv h hi ?_ g _)
    unfold rel
    rw [hs]
    exact hk
  · rename_i hs
    rw [hs] at hc
    exact hc
theorem zP.congr {g : zG} {n : Nat} {w w' : Mm} {H : Heap} (h : SAM n w w') (hP : zP g n w H) : zP g n w' H := ⟨hP.1, hP.2.1, fun i hi => (hP.2.2 i hi).congr hi h⟩
theorem g_congr {d : Nat} {M : zM} {n0 nE n pc : Nat} {L : List (Nat × Value)} {S : List Value} {w w' : Mm} {Q : Option Value → Mm → Prop} (h : SAM n w w') (k : Go d M n0 nE n pc L S w' Q) : Go d M n0 nE n pc L S w Q :=
  fun p l e R s m args below meth c g Z hC hE H locs ls hP hS hl => k p l e R s m args below meth c g Z hC hE H locs ls (hP.congr h) hS hl
theorem call_congr {d : Nat} {M : zM} {n0 nE : Nat} {as : List Value} {w w' : Mm} {Q : Option Value → Mm → Prop} (h : SAM n0 w w') (k : Call d M n0 nE as w' Q) : Call d M n0 nE as w Q := by
  refine ⟨k.1, fun l g => ?_⟩
  have h1 := k.2 l g
  intro p e a1 a2 a3 s m args below a4 a5 a6 a7
  exact h1 p e a1 a2 a3 s m args below a4 a5 ⟨a6.1, a6.2.1, a6.2.2.congr h⟩ a7
theorem zs_succ {n : Nat} {x : Nat ⊕ (FieldType × Nat)} (h : SH[n]? = some x) : zs (n + 1) = zs n + zsz x := by
  unfold zs
  rw [List.take_succ, h]
  simp
/-- a cell as it is made -/
def zc (w : Mm) (n : Nat) : Mm := (fun i k => if i = n then 0 else w.1 i k, fun i k => if i = n then 0 else w.2.1 i k, fun i k => if i = n then none else w.2.2 i k)
theorem zc_fv {g : zG} {w : Mm} {n i : Nat} (h : i ≠ n) (ty : FieldType) (k : Nat) : fv g (zc w n) ty i k = fv g w ty i k := by
  unfold fv zc
  cases ty <;> simp [h]
theorem zc_def {g : zG} {w : Mm} {n : Nat} (ty : FieldType) (k : Nat) (h : ty ≠ .float ∧ ty ≠ .double) : fv g (zc w n) ty n k = defaultValue ty := by
  cases ty <;> first | (simp [fv, zc, defaultValue, va_rf]; done) | exact absurd rfl h.1 | exact absurd rfl h.2
def nff (ty : FieldType) : Prop := ty ≠ .float ∧ ty ≠ .double
theorem zft_nf (ci k : Nat) : zft ci k ≠ .float ∧ zft ci k ≠ .double := by
  show nff (zft ci k)
  unfold zft
  split <;> (first | unfold tyX0 | unfold tyX1 | unfold tyX2 | unfold tyX3 | unfold tyX4 | unfold tyX5 | unfold tyX6 | unfold tyX7 | unfold tyX8 | unfold tyX9 | unfold tyX10 | skip) <;> (try split) <;> exact ⟨(by intro h; cases h), (by intro h; cases h)⟩
section AL
variable {d : Nat} {M : zM} {n0 nE n pc q idx : Nat} {L : List (Nat × Value)} {S : List Value} {w : Mm} {Q : Option Value → Mm → Prop}
theorem g_newC {ci : Nat} {r : vw_C} (hd : zd M pc (.new idx) 3 q) (hs : SH[n]? = some (.inl ci)) (hr : zcl[ci]? = some r) (hcl : Cond.classLink M.1.cls idx r.1 ∈ zT) (hin0 : Cond.instantiable r.1 r.2.2 ∈ zT) (hini : Cond.initialized r.1 ∈ zT) (h0n : n0 ≤ n) (hn : n + 1 ≤ nE) (kk : Go d M n0 nE (n + 1) q L (.ref n :: S) (zc w n) Q) : Go d M n0 nE n pc L S w Q := by
  obtain ⟨hd, rfl⟩ := hd
  intro p l e R s m args below meth c g Z hC hE H locs ls hP hS hl
  have hC0 := hC
  obtain ⟨hx, hbd, hml, hown, hts, ⟨hK, hX⟩, hR, -, hbase⟩ := hC
  have hKn := hK.1.1 ci _ hr
  obtain ⟨hin, hty, hnm⟩ := zcl_ok ci r hr
  have hz : zsz (.inl ci) = r.2.2 := by
    show (match zcl[ci]? with | some r => r.2.2 | none => 0) = _
    rw [hr]
  have e1 := zs_succ hs
  rw [hz] at e1
  have m1 := zs_mono hn
  have m2 := zs_mono h0n
  refine W.newcK hx hbd hown (hts _ hcl) (hts _ hin0) (hts _ hini) rfl hd (by omega) (by omega) hKn.2.1 rfl fun H1 kC hkC f1 f2 f3 => ?_
  have c1 : n - n0 + 1 = n + 1 - n0 := by omega
  have c2 : zs n - zs n0 + r.2.2 = zs (n + 1) - zs n0 := by omega
  rw [c1, c2]
  have hnF := SH_lt hs
  have hP' : zP g (n + 1) (zc w n) H1 := by
    refine ⟨by rw [f2, hP.1]; omega, by omega, fun i hi => ?_⟩
    by_cases ei : i = n
    · subst ei
      unfold cellAt
      rw [hs]
      refine ⟨r, hr, ?_⟩
      rw [hP.1] at f1
      exact (u_born (zft ci) hts hin hKn hkC f1 hty).to fun k hk => (zc_def _ k (zft_nf ci k)).symm
    · exact (hP.2.2 i (by omega)).kept (f3 _ (by rw [hP.1]; omega)) fun ty k => zc_fv ei ty k
  have ha : ad g n = H.size := by rw [ad_lt g (Nat.lt_trans hnF NF_lt), hP.1]
  have hS' : va_S (zA g) s.heap H1 locs := ⟨Nat.le_trans hS.1 (by omega), fun x h1 h2 => (f3 x (Nat.lt_of_lt_of_le h1 hS.1)).trans (hS.2.1 x h1 h2), hS.2.2⟩
  have h9 := kk p l e R s m args below meth c g Z hC0 hE H1 locs ls hP' hS' hl
  have e9 : ((Value.ref n :: S).map (zv g)) = .ref H.size :: S.map (zv g) := by
    show Value.ref (ad g n) :: _ = _
    rw [ha]
  rw [e9] at h9
  exact h9
theorem g_newA {atype : ArrayType} {ty : FieldType} {sz : Nat} {x : Int32} (hd : zd M pc (.newarray atype) 2 q) (ht : newarray.typeOf atype = ty) (hty : ty = .int ∨ ty = .long ∨ ty = .boolean) (hs : SH[n]? = some (.inr (ty, sz))) (hw : Cond.arrayClass ty ∈ zT) (hx0 : ¬ x < 0 ∧ x.toNatClampNeg = sz) (hsz : sz ≤ 1000) (h0n : n0 ≤ n) (hn : n + 1 ≤ nE) (kk : Go d M n0 nE (n + 1) q L (.ref n :: S) (zc w n) Q) : Go d M n0 nE n pc L (.int x :: S) w Q := by
  obtain ⟨hd, rfl⟩ := hd
  intro p l e R s m args below meth c g Z hC hE H locs ls hP hS hl
  have hC0 := hC
  obtain ⟨hx, hbd, hml, hown, hts, ⟨hK, hX⟩, hR, -, hbase⟩ := hC
  have e1 := zs_succ hs
  have hz : zsz (.inr (ty, sz)) = sz := rfl
  rw [hz] at e1
  have m1 := zs_mono hn
  have m2 := zs_mono h0n
  subst ht
  have hcb : componentBytes (newarray.typeOf atype) ≤ 8 := by rcases hty with h | h | h <;> rw [h] <;> decide
  have hb2 : sz * componentBytes (newarray.typeOf atype) ≤ 1000 * 8 := Nat.mul_le_mul hsz hcb
  refine va_newaK hx hbd (hts _ hw) rfl hd rfl hx0.1 hx0.2 (by omega) (by omega) (by omega) rfl fun H1 cA f1 f2 f3 f4 f5 => ?_
  have c1 : n - n0 + 1 = n + 1 - n0 := by omega
  have c2 : zs n - zs n0 + sz = zs (n + 1) - zs n0 := by omega
  rw [c1, c2]
  have hnF := SH_lt hs
  have hmem : newarray.typeOf atype ∈ zat := by rcases hty with h | h | h <;> rw [h] <;> decide
  have hcA : cA = g.2.1 (newarray.typeOf atype) := by
    have h2 := (hK.2.1 _ hmem).2
    rcases hty with h | h | h <;> rw [h] at h2 f5 ⊢ <;> exact Option.some.inj (f5.symm.trans h2)
  have hnf : newarray.typeOf atype ≠ .float ∧ newarray.typeOf atype ≠ .double := by rcases hty with h | h | h <;> rw [h] <;> exact ⟨(by intro z; cases z), (by intro z; cases z)⟩
  have hP' : zP g (n + 1) (zc w n) H1 := by
    refine ⟨by rw [f2, hP.1]; omega, by omega, fun i hi => ?_⟩
    by_cases ei : i = n
    · subst ei
      refine cellAt_arr hs ?_
      rw [hP.1] at f1
      rw [f1, hcA]
      exact congrArg some (arrV_ext fun k _ => (zc_def _ k hnf).symm)
    · exact (hP.2.2 i (by omega)).kept (f3 _ (by rw [hP.1]; omega)) fun ty k => zc_fv ei ty k
  have ha : ad g n = H.size := by rw [ad_lt g (Nat.lt_trans hnF NF_lt), hP.1]
  have hS' : va_S (zA g) s.heap H1 locs := ⟨Nat.le_trans hS.1 (by omega), fun x h1 h2 => (f3 x (Nat.lt_of_lt_of_le h1 hS.1)).trans (hS.2.1 x h1 h2), hS.2.2⟩
  have h9 := kk p l e R s m args below meth c g Z hC0 hE H1 locs ls hP' hS' hl
  have e9 : ((Value.ref n :: S).map (zv g)) = .ref H.size :: S.map (zv g) := by
    show Value.ref (ad g n) :: _ = _
    rw [ha]
  rw [e9] at h9
  exact h9
theorem g_newQ {C : String} {sz : Nat} {x : Int32} (hd : zd M pc (.anewarray idx) 3 q) (hs : SH[n]? = some (.inr (.object C, sz))) (hmem : FieldType.object C ∈ zat) (hcl : Cond.classLink M.1.cls idx C ∈ zT) (hov : Cond.arrayOver (.object C) ∈ lw_tbl) (hx0 : ¬ x < 0 ∧ x.toNatClampNeg = sz) (hsz : sz ≤ 1000) (h0n : n0 ≤ n) (hn : n + 1 ≤ nE) (kk : Go d M n0 nE (n + 1) q L (.ref n :: S) (zc w n) Q) : Go d M n0 nE n pc L (.int x :: S) w Q := by
  obtain ⟨hd, rfl⟩ := hd
  intro p l e R s m args below meth c g Z hC hE H locs ls hP hS hl
  have hC0 := hC
  obtain ⟨hx, hbd, hml, hown, hts, ⟨hK, hX⟩, hR, -, hbase⟩ := hC
  have e1 := zs_succ hs
  have hz : zsz (.inr (.object C, sz)) = sz := rfl
  rw [hz] at e1
  have m1 := zs_mono hn
  have m2 := zs_mono h0n
  obtain ⟨hx1, hx2⟩ := hx0
  subst hx2
  refine W.anew hx hbd hown (hts _ hcl) (va_AO.use (hK.2.2.2.1 C hov)) rfl hd rfl hx1 (by omega) (by omega) (by omega) fun cA kA comp f1 f2 f3 f4 => ?_
  generalize hH1 : H.push ({ cls := cA, slots := Array.replicate x.toNatClampNeg .null, vm := .none } : Cell) = H1
  have z1 : H1.size = H.size + 1 := by rw [← hH1, Array.size_push]
  have g1 : H1[H.size]? = some (arrV cA x.toNatClampNeg (fun _ => .null)) := by rw [← hH1, Array.getElem?_push_size, ← arrV_new]
  have g3 : ∀ q : Nat, q < H.size → H1[q]? = H[q]? := fun q hq => by rw [← hH1, Array.getElem?_push, if_neg (Nat.ne_of_lt hq)]
  have c1 : n - n0 + 1 = n + 1 - n0 := by omega
  have c2 : zs n - zs n0 + x.toNatClampNeg = zs (n + 1) - zs n0 := by omega
  rw [c1, c2]
  have hnF := SH_lt hs
  have hcA : cA = g.2.1 (.object C) := by
    obtain ⟨-, -, -, -, -, h2⟩ := (hK.2.1 _ hmem).2
    exact Option.some.inj (f1.symm.trans h2)
  have hP' : zP g (n + 1) (zc w n) H1 := by
    refine ⟨by rw [z1, hP.1]; omega, by omega, fun i hi => ?_⟩
    by_cases ei : i = n
    · subst ei
      refine cellAt_arr hs ?_
      rw [hP.1] at g1
      rw [g1, hcA]
      exact congrArg some (arrV_ext fun k _ => (zc_def (g := g) (w := w) (n := i) (.object C) k ⟨(by intro z; cases z), (by intro z; cases z)⟩).symm)
    · exact (hP.2.2 i (by omega)).kept (g3 _ (by rw [hP.1]; omega)) fun ty k => zc_fv ei ty k
  have ha : ad g n = H.size := by rw [ad_lt g (Nat.lt_trans hnF NF_lt), hP.1]
  have hS' : va_S (zA g) s.heap H1 locs := ⟨Nat.le_trans hS.1 (by omega), fun x h1 h2 => (g3 x (Nat.lt_of_lt_of_le h1 hS.1)).trans (hS.2.1 x h1 h2), hS.2.2⟩
  have h9 := kk p l e R s m args below meth c g Z hC0 hE H1 locs ls hP' hS' hl
  have e9 : ((Value.ref n :: S).map (zv g)) = .ref H.size :: S.map (zv g) := by
    show Value.ref (ad g n) :: _ = _
    rw [ha]
  rw [e9] at h9
  exact h9
/-- a row of rows as it is made -/
def zcm (w : Mm) (n : Nat) : Mm := (fun i k => if n ≤ i ∧ i ≤ n + 32 then 0 else w.1 i k, fun i k => if n ≤ i ∧ i ≤ n + 32 then 0 else w.2.1 i k, fun i k => if i = n ∧ k < 32 then some (n + 1 + k) else if n ≤ i ∧ i ≤ n + 32 then none else w.2.2 i k)
theorem zs_far {n k : Nat} {x : Nat ⊕ (FieldType × Nat)} : (∀ j, j < k → SH[n + j]? = some x) → zs (n + k) = zs n + k * zsz x := by
  intro h
  induction k with
  | zero => rw [Nat.zero_mul]; rfl
  | succ k ih =>
    have h1 := zs_succ (h k (by omega))
    rw [show n + (k + 1) = n + k + 1 from rfl, h1, ih (fun j hj => h j (by omega)), Nat.succ_mul]
    omega
theorem g_mna (hd : zd M pc (.multianewarray idx 2) 4 q) (hs : SH[n]? = some (.inr (.array .int, 32))) (hs2 : ∀ j, j < 32 → SH[n + 1 + j]? = some (.inr (.int, 6))) (hcl : Cond.classLink M.1.cls idx ("[" ++ (FieldType.array .int).toString) ∈ zT) (h0n : n0 ≤ n) (hn : n + 33 ≤ nE) (kk : Go d M n0 nE (n + 33) q L (.ref n :: S) (zcm w n) Q) : Go d M n0 nE n pc L (.int 6 :: .int 32 :: S) w Q := by
  obtain ⟨hd, rfl⟩ := hd
  intro p l e R s m args below meth c g Z hC hE H locs ls hP hS hl
  have hC0 := hC
  obtain ⟨hx, hbd, hml, hown, hts, ⟨hK, hX⟩, hR, -, hbase⟩ := hC
  have e1 := zs_succ hs
  have hz : zsz (.inr (.array .int, 32)) = 32 := rfl
  have e2 := zs_far hs2
  have hz2 : zsz (.inr (.int, 6)) = 6 := rfl
  rw [hz] at e1
  rw [hz2] at e2
  have e3 : n + 1 + 32 = n + 33 := by omega
  rw [e3] at e2
  have m1 := zs_mono hn
  have m2 := zs_mono h0n
  obtain ⟨cA, cI, kA, j1, j2, j3, j4⟩ := hK.2.2.2.2
  have i2 : s.vm.findClass ("[" ++ (FieldType.array .int).toString) = some (g.2.1 (.array .int)) := (hK.2.1 (.array .int) (by decide)).2
  have i1 : s.vm.findClass ("[" ++ (FieldType.int).toString) = some (g.2.1 .int) := (hK.2.1 .int (by decide)).2
  have hcA : cA = g.2.1 (.array .int) := Option.some.inj (j1.symm.trans i2)
  have hcI : cI = g.2.1 .int := Option.some.inj (j4.symm.trans i1)
  obtain ⟨-, kI, hkI, c0, hkindI⟩ := (hK.2.1 .int (by decide)).1 0 (fun _ => .null)
  have hkI : s.vm.classes[g.2.1 .int]? = some kI := hkI
  subst hcI
  refine w_mna hx hbd hown (hts _ hcl) j1 j2 j3 hkI hkindI hd (by omega) (by omega) fun H1 locs1 f1 f2 f3 f4 f5 => ?_
  have c1 : n - n0 + 33 = n + 33 - n0 := by omega
  have c2 : zs n - zs n0 + 224 = zs (n + 33) - zs n0 := by omega
  rw [c1, c2]
  have hnF := SH_lt (hs2 31 (by decide))
  have hnF0 := SH_lt hs
  have hP' : zP g (n + 33) (zcm w n) H1 := by
    refine ⟨by rw [f1, hP.1]; omega, by omega, fun i hi => ?_⟩
    by_cases ei : i = n
    · subst ei
      refine cellAt_arr hs ?_
      rw [hP.1] at f3
      rw [f3, hcA]
      refine congrArg some (arrV_ext fun k hk => ?_)
      show (if k < 32 then Value.ref (g.2.2.1 + i + 1 + k) else .null) = va_rf ((if i = i ∧ k < 32 then some (i + 1 + k) else if i ≤ i ∧ i ≤ i + 32 then none else w.2.2 i k).map (ad g))
      rw [if_pos hk, if_pos ⟨rfl, hk⟩]
      show _ = Value.ref (ad g (i + 1 + k))
      have hNF := NF_lt
      have e7 : ad g (i + 1 + k) = g.2.2.1 + (i + 1 + k) := ad_lt g (by omega)
      rw [e7]
      exact congrArg Value.ref (show (g.2.2.1 + i + 1 + k : Nat) = g.2.2.1 + (i + 1 + k) by simp only [Nat.add_assoc])
    · by_cases e2 : i < n
      · refine (hP.2.2 i e2).kept (f2 _ (by rw [hP.1]; omega)) fun ty k => ?_
        unfold fv zcm
        have q1 : ¬ (n ≤ i ∧ i ≤ n + 32) := by omega
        cases ty <;> simp [q1, ei]
      · obtain ⟨j, hj, rfl⟩ : ∃ j, j < 32 ∧ i = n + 1 + j := ⟨i - n - 1, by omega, by omega⟩
        refine cellAt_arr (hs2 j hj) ?_
        have f4 := f4 j hj
        rw [hP.1] at f4
        rw [show g.2.2.1 + (n + 1 + j) = g.2.2.1 + n + 1 + j by omega, f4]
        refine congrArg some (arrV_ext fun k hk => ?_)
        show _ = Value.int (if n ≤ n + 1 + j ∧ n + 1 + j ≤ n + 32 then 0 else w.1 (n + 1 + j) k)
        rw [if_pos (by omega)]
  have ha : ad g n = H.size := by rw [ad_lt g (Nat.lt_trans hnF0 NF_lt), hP.1]
  have hS' : va_S (zA g) s.heap H1 locs1 := ⟨Nat.le_trans hS.1 (by omega), fun x h1 h2 => (f2 x (Nat.lt_of_lt_of_le h1 hS.1)).trans (hS.2.1 x h1 h2), fun z hz => by
    rcases f5 z hz with h | h
    · exact hS.2.2 z h
    · show g.2.2.1 ≤ z.base
      rw [h, hP.1]
      omega⟩
  have h9 := kk p l e R s m args below meth c g Z hC0 hE H1 locs1 ls hP' hS' hl
  have e9 : ((Value.ref n :: S).map (zv g)) = .ref H.size :: S.map (zv g) := by
    show Value.ref (ad g n) :: _ = _
    rw [ha]
  rw [e9] at h9
  exact h9
theorem g_objI {a : Nat} (hd : zd M pc (.invokespecial idx) 3 q) (hl1 : Cond.methodLink M.1.cls idx Lib.objectInit ∈ zT) (hl2 : Cond.instanceMethod Lib.objectInit ∈ zT) (hl3 : Cond.code Lib.objectInit ⟨#[0xb1]⟩ 1 none ∈ zT) (hcat : (S.map fun v => v.category).sum ≤ 8) (hd1 : 1 ≤ d) (kk : Go d M n0 nE n q L S w Q) : Go d M n0 nE n pc L (.ref a :: S) w Q := by
  obtain ⟨hd, rfl⟩ := hd
  intro p l e R s m args below meth c g Z hC hE H locs ls hP hS hl
  have hC0 := hC
  obtain ⟨hx, hbd, hml, hown, hts, ⟨hK, hX⟩, hR, -, hbase⟩ := hC
  exact W.objInit hx hbd hown (hts _ hl1) (hts _ hl2) (hts _ hl3) rfl (by rw [hml]; exact hl.1) (a := ad g a) rfl hd (by omega) (by
    show 2 * 0 + _ + 12 ≤ _
    rw [z_cats]
    omega) (kk p l e R s m args below meth c g Z hC0 hE H locs ls hP hS hl)
end AL
