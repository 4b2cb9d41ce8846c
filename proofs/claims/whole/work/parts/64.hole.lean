-- constructors: the memory that is aimed at, with holes where nothing is written yet
def dz (W : Mm) (i k : Nat) : Prop := W.1 i k = 0 ∧ W.2.1 i k = 0 ∧ W.2.2 i k = none
noncomputable def decc (p : Prop) : Decidable p := Classical.propDecidable p
noncomputable def hole (D : Nat → Nat → Prop) (W : Mm) : Mm := (fun i k => @ite _ (D i k) (decc _) 0 (W.1 i k), fun i k => @ite _ (D i k) (decc _) 0 (W.2.1 i k), fun i k => @ite _ (D i k) (decc _) none (W.2.2 i k))
theorem mm_ext {a b : Mm} (h : ∀ i k, a.1 i k = b.1 i k ∧ a.2.1 i k = b.2.1 i k ∧ a.2.2 i k = b.2.2 i k) : a = b := by
  obtain ⟨a1, a2, a3⟩ := a
  obtain ⟨b1, b2, b3⟩ := b
  have e1 : a1 = b1 := funext fun i => funext fun k => (h i k).1
  have e2 : a2 = b2 := funext fun i => funext fun k => (h i k).2.1
  have e3 : a3 = b3 := funext fun i => funext fun k => (h i k).2.2
  rw [e1, e2, e3]
theorem hole_in {D : Nat → Nat → Prop} {W : Mm} {i k : Nat} (h : D i k) : dz (hole D W) i k := ⟨if_pos h, if_pos h, if_pos h⟩
theorem hole_out {D : Nat → Nat → Prop} {W : Mm} {i k : Nat} (h : ¬ D i k) : (hole D W).1 i k = W.1 i k ∧ (hole D W).2.1 i k = W.2.1 i k ∧ (hole D W).2.2 i k = W.2.2 i k := ⟨if_neg h, if_neg h, if_neg h⟩
theorem hole_no {D : Nat → Nat → Prop} {W : Mm} (h : ∀ i k, ¬ D i k) : hole D W = W := mm_ext fun i k => hole_out (h i k)
theorem dz_hole {D : Nat → Nat → Prop} {W : Mm} {i k : Nat} (h : dz W i k) : dz (hole D W) i k := by
  by_cases q : D i k
  · exact hole_in q
  · obtain ⟨a, b, c⟩ := hole_out (W := W) q
    exact ⟨a.trans h.1, b.trans h.2.1, c.trans h.2.2⟩
theorem mI_same {W : Mm} {b k : Nat} {x : Int32} (h : W.1 b k = x) : mI W b k x = W := by
  refine mm_ext fun i j => ⟨?_, rfl, rfl⟩
  show u2 W.1 b k x i j = _
  unfold u2
  split
  · rename_i q; rw [q.1, q.2, h]
  · rfl
theorem mJ_same {W : Mm} {b k : Nat} {x : Int64} (h : W.2.1 b k = x) : mJ W b k x = W := by
  refine mm_ext fun i j => ⟨rfl, ?_, rfl⟩
  show u2 W.2.1 b k x i j = _
  unfold u2
  split
  · rename_i q; rw [q.1, q.2, h]
  · rfl
theorem hole_mI {D D' : Nat → Nat → Prop} {W : Mm} {b k : Nat} {x : Int32} (h : W.1 b k = x ∧ W.2.1 b k = 0 ∧ W.2.2 b k = none) (hb : D b k) (hD : ∀ i j, D' i j ↔ D i j ∧ ¬ (i = b ∧ j = k)) : mI (hole D W) b k x = hole D' W := by
  have hb' : ¬ D' b k := fun q => ((hD b k).mp q).2 ⟨rfl, rfl⟩
  obtain ⟨o1, o2, o3⟩ := hole_out (W := W) hb'
  obtain ⟨p1, p2, p3⟩ := hole_in (W := W) hb
  refine mm_ext fun i j => ?_
  by_cases e : i = b ∧ j = k
  · obtain ⟨rfl, rfl⟩ := e
    refine ⟨?_, ?_, ?_⟩
    · show u2 _ i j x i j = _
      rw [u2_same, o1, h.1]
    · show (hole D W).2.1 i j = _
      rw [p2, o2, h.2.1]
    · show (hole D W).2.2 i j = _
      rw [p3, o3, h.2.2]
  · have z : (mI (hole D W) b k x).1 i j = (hole D W).1 i j := if_neg e
    have y1 : (mI (hole D W) b k x).2.1 i j = (hole D W).2.1 i j := rfl
    have y2 : (mI (hole D W) b k x).2.2 i j = (hole D W).2.2 i j := rfl
    rw [z, y1, y2]
    by_cases q : D i j
    · have q' : D' i j := (hD i j).mpr ⟨q, e⟩
      obtain ⟨a, c, d⟩ := hole_in (W := W) q
      obtain ⟨a', c', d'⟩ := hole_in (W := W) q'
      exact ⟨a.trans a'.symm, c.trans c'.symm, d.trans d'.symm⟩
    · have q' : ¬ D' i j := fun z => q ((hD i j).mp z).1
      obtain ⟨a, c, d⟩ := hole_out (W := W) q
      obtain ⟨a', c', d'⟩ := hole_out (W := W) q'
      exact ⟨a.trans a'.symm, c.trans c'.symm, d.trans d'.symm⟩
theorem hole_mR {D D' : Nat → Nat → Prop} {W : Mm} {b k j0 : Nat} (h : W.1 b k = 0 ∧ W.2.1 b k = 0 ∧ W.2.2 b k = some j0) (hb : D b k) (hD : ∀ i j, D' i j ↔ D i j ∧ ¬ (i = b ∧ j = k)) : mR (hole D W) b k (some j0) = hole D' W := by
  have hb' : ¬ D' b k := fun q => ((hD b k).mp q).2 ⟨rfl, rfl⟩
  obtain ⟨o1, o2, o3⟩ := hole_out (W := W) hb'
  obtain ⟨p1, p2, p3⟩ := hole_in (W := W) hb
  refine mm_ext fun i j => ?_
  by_cases e : i = b ∧ j = k
  · obtain ⟨rfl, rfl⟩ := e
    refine ⟨?_, ?_, ?_⟩
    · show (hole D W).1 i j = _
      rw [p1, o1, h.1]
    · show (hole D W).2.1 i j = _
      rw [p2, o2, h.2.1]
    · show u2 _ i j (some j0) i j = _
      rw [u2_same, o3, h.2.2]
  · have z : (mR (hole D W) b k (some j0)).2.2 i j = (hole D W).2.2 i j := if_neg e
    have y1 : (mR (hole D W) b k (some j0)).1 i j = (hole D W).1 i j := rfl
    have y2 : (mR (hole D W) b k (some j0)).2.1 i j = (hole D W).2.1 i j := rfl
    rw [z, y1, y2]
    by_cases q : D i j
    · have q' : D' i j := (hD i j).mpr ⟨q, e⟩
      obtain ⟨a, c, d⟩ := hole_in (W := W) q
      obtain ⟨a', c', d'⟩ := hole_in (W := W) q'
      exact ⟨a.trans a'.symm, c.trans c'.symm, d.trans d'.symm⟩
    · have q' : ¬ D' i j := fun z => q ((hD i j).mp z).1
      obtain ⟨a, c, d⟩ := hole_out (W := W) q
      obtain ⟨a', c', d'⟩ := hole_out (W := W) q'
      exact ⟨a.trans a'.symm, c.trans c'.symm, d.trans d'.symm⟩
theorem SAM_new {W : Mm} {n : Nat} {D : Nat → Nat → Prop} (h1 : ∀ i k, D i k → i = n) (h2 : ∀ k, rel n k → D n k ∨ dz W n k) : SAM (n + 1) (zc W n) (hole D W) := by
  intro i hi k hk
  by_cases e : i = n
  · subst e
    have a : dz (zc W i) i k := ⟨if_pos rfl, if_pos rfl, if_pos rfl⟩
    have b : dz (hole D W) i k := (h2 k hk).elim hole_in dz_hole
    exact ⟨a.1.trans b.1.symm, a.2.1.trans b.2.1.symm, a.2.2.trans b.2.2.symm⟩
  · have q : ¬ D i k := fun q => e (h1 i k q)
    obtain ⟨a, b, c⟩ := hole_out (W := W) q
    exact ⟨(if_neg e).trans a.symm, (if_neg e).trans b.symm, (if_neg e).trans c.symm⟩
theorem SAM_newA {W : Mm} {n : Nat} (h2 : ∀ k, rel n k → dz W n k) : SAM (n + 1) (zc W n) W := by
  have h := SAM_new (W := W) (n := n) (D := fun _ _ => False) (fun _ _ q => q.elim) (fun k q => Or.inr (h2 k q))
  rwa [hole_no (fun _ _ q => q)] at h
section HK
variable {d d' : Nat} {M M' : zM} {n0 nE n n' pc q q1 q2 idx idx2 : Nat} {L : List (Nat × Value)} {S : List Value} {W : Mm} {D D' Dc : Nat → Nat → Prop} {Q : Option Value → Mm → Prop}
theorem k_newI {ci : Nat} {r : vw_C} (hc : Call d' M' (n + 1) n' [.ref n] (hole Dc W) (fun r w => r = none ∧ w = W)) (hD1 : ∀ i k, Dc i k → i = n) (hD2 : ∀ k, rel n k → Dc n k ∨ dz W n k) (hs : SH[n]? = some (.inl ci)) (hr : zcl[ci]? = some r) (hd1 : zd M pc (.new idx) 3 q1) (hd2 : zd M q1 .dup 1 q2) (hd3 : zd M q2 (.invokespecial idx2) 3 q) (hcl : Cond.classLink M.1.cls idx r.1 ∈ zT) (hin0 : Cond.instantiable r.1 r.2.2 ∈ zT) (hini : Cond.initialized r.1 ∈ zT) (hm : zm M' 0) (hv : zlI M.1.cls idx2 M') (hcat : ((Value.ref n :: S).map fun v => v.category).sum ≤ 8) (hd' : d' + 1 ≤ d) (h0n : n0 ≤ n) (hn : n + 1 ≤ n') (hn' : n' ≤ nE) (kk : Go d M n0 nE n' q L (.ref n :: S) W Q) : Go d M n0 nE n pc L S W Q := by
  refine g_newC hd1 hs hr hcl hin0 hini h0n (by omega) ?_
  refine g_congr (SAM_new hD1 hD2) ?_
  refine g_dup hd2 rfl ?_
  refine g_callI (As := []) (rest := .ref n :: S) hd3 hm hv rfl rfl hcat hd' (by omega) hn' (call_mono hc ?_)
  rintro r w ⟨rfl, rfl⟩
  exact kk
theorem k_newIN {ci : Nat} {r : vw_C} (hc : Call d' M' (n + 1) n' [.ref n] (hole Dc W) (fun r w => r = none ∧ w = W)) (hD1 : ∀ i k, Dc i k → i = n) (hD2 : ∀ k, rel n k → Dc n k ∨ dz W n k) (hs : SH[n]? = some (.inl ci)) (hr : zcl[ci]? = some r) (hd1 : zd M pc (.new idx) 3 q1) (hd2 : zd M q1 .dup 1 q2) (hd3 : zd M q2 (.invokespecial idx2) 3 q) (hcl : Cond.classLink M.1.cls idx r.1 ∈ zT) (hin0 : Cond.instantiable r.1 r.2.2 ∈ zT) (hini : Cond.initialized r.1 ∈ zT) (hm : zm M' 0) (hv : zlIN M.1.cls idx2 M') (hcat : ((Value.ref n :: S).map fun v => v.category).sum ≤ 8) (hd' : d' + 1 ≤ d) (h0n : n0 ≤ n) (hn : n + 1 ≤ n') (hn' : n' ≤ nE) (kk : Go d M n0 nE n' q L (.ref n :: S) W Q) : Go d M n0 nE n pc L S W Q := by
  refine g_newC hd1 hs hr hcl hin0 hini h0n (by omega) ?_
  refine g_congr (SAM_new hD1 hD2) ?_
  refine g_dup hd2 rfl ?_
  refine g_callIN (As := []) (rest := .ref n :: S) hd3 hm hv rfl rfl hcat hd' (by omega) hn' (call_mono hc ?_)
  rintro r w ⟨rfl, rfl⟩
  exact kk
theorem k_newA {atype : ArrayType} {ty : FieldType} {sz : Nat} {x : Int32} (hd : zd M pc (.newarray atype) 2 q) (hs : SH[n]? = some (.inr (ty, sz))) (hz : ∀ k, dz W n k) (ht : newarray.typeOf atype = ty) (hty : ty = .int ∨ ty = .long ∨ ty = .boolean) (hw : Cond.arrayClass ty ∈ zT) (hx0 : ¬ x < 0 ∧ x.toNatClampNeg = sz) (hsz : sz ≤ 1000) (h0n : n0 ≤ n) (hn : n + 1 ≤ nE) (kk : Go d M n0 nE (n + 1) q L (.ref n :: S) W Q) : Go d M n0 nE n pc L (.int x :: S) W Q :=
  g_newA hd ht hty hs hw hx0 hsz h0n hn (g_congr (SAM_newA fun k _ => hz k) kk)
theorem k_putR {b ci k j : Nat} (hd : zd M pc (.putfield idx) 3 q) (hs : SH[b]? = some (.inl ci)) (hi : b < n) (hf : zfp M.1.cls idx ci k) (hz : zref (zft ci k) = true) (hW : W.1 b k = 0 ∧ W.2.1 b k = 0 ∧ W.2.2 b k = some j) (hb : D b k) (hD : ∀ i j, D' i j ↔ D i j ∧ ¬ (i = b ∧ j = k)) (kk : Go d M n0 nE n q L S (hole D' W) Q) : Go d M n0 nE n pc L (.ref j :: .ref b :: S) (hole D W) Q :=
  g_putR hd hs hi hf hz (by rw [hole_mR hW hb hD]; exact kk)
theorem k_putF {b ci k j : Nat} (hd : zd M pc (.putfield idx) 3 q) (hs : SH[b]? = some (.inl ci)) (hi : b < n) (hf : zff M.1.cls idx ci k) (hini : M.1.name = "<init>") (hz : zref (zft ci k) = true) (hW : W.1 b k = 0 ∧ W.2.1 b k = 0 ∧ W.2.2 b k = some j) (hb : D b k) (hD : ∀ i j, D' i j ↔ D i j ∧ ¬ (i = b ∧ j = k)) (kk : Go d M n0 nE n q L S (hole D' W) Q) : Go d M n0 nE n pc L (.ref j :: .ref b :: S) (hole D W) Q :=
  g_putRF hd hs hi hf hini hz (by rw [hole_mR hW hb hD]; exact kk)
theorem k_putI {b ci k : Nat} {x : Int32} (hd : zd M pc (.putfield idx) 3 q) (hs : SH[b]? = some (.inl ci)) (hi : b < n) (hf : zfp M.1.cls idx ci k) (hz : zint (zft ci k) = true) (hn : narrow (zft ci k) (.int x) = .int x) (hfit : fits (zft ci k) (.int x) = true) (hW : W.1 b k = x ∧ W.2.1 b k = 0 ∧ W.2.2 b k = none) (hb : D b k) (hD : ∀ i j, D' i j ↔ D i j ∧ ¬ (i = b ∧ j = k)) (kk : Go d M n0 nE n q L S (hole D' W) Q) : Go d M n0 nE n pc L (.int x :: .ref b :: S) (hole D W) Q :=
  g_putI hd hs hi hf hz hn hfit (by rw [hole_mI hW hb hD]; exact kk)
theorem k_put0 {b ci k : Nat} (hd : zd M pc (.putfield idx) 3 q) (hs : SH[b]? = some (.inl ci)) (hi : b < n) (hf : zfp M.1.cls idx ci k) (hz : zint (zft ci k) = true) (hn : narrow (zft ci k) (.int 0) = .int 0) (hfit : fits (zft ci k) (.int 0) = true) (hW : dz W b k) (kk : Go d M n0 nE n q L S (hole D W) Q) : Go d M n0 nE n pc L (.int 0 :: .ref b :: S) (hole D W) Q :=
  g_putI hd hs hi hf hz hn hfit (by rw [mI_same (dz_hole hW).1]; exact kk)
theorem k_putJ0 {b ci k : Nat} (hd : zd M pc (.putfield idx) 3 q) (hs : SH[b]? = some (.inl ci)) (hi : b < n) (hf : zfp M.1.cls idx ci k) (hz : zft ci k = .long) (hW : dz W b k) (kk : Go d M n0 nE n q L S (hole D W) Q) : Go d M n0 nE n pc L (.long 0 :: .ref b :: S) (hole D W) Q :=
  g_putJ hd hs hi hf hz (by rw [mJ_same (dz_hole hW).2.1]; exact kk)
theorem k_ast {a m j cj : Nat} {r : vw_C} {x : Int32} (hd : zd M pc .aastore 1 q) (hs : SH[a]? = some (.inr (.object r.1, m))) (ha : a < n) (ht : FieldType.object r.1 ∈ zat) (hj : j < n) (hsj : SH[j]? = some (.inl cj)) (hr : zcl[cj]? = some r) (hx : ib x m) (hW : W.1 a (ix x) = 0 ∧ W.2.1 a (ix x) = 0 ∧ W.2.2 a (ix x) = some j) (hb : D a (ix x)) (hD : ∀ i j, D' i j ↔ D i j ∧ ¬ (i = a ∧ j = ix x)) (kk : Go d M n0 nE n q L S (hole D' W) Q) : Go d M n0 nE n pc L (.ref j :: .int x :: .ref a :: S) (hole D W) Q :=
  g_aast hd hs ha ht hj hsj hr hx (by rw [hole_mR hW hb hD]; exact kk)
theorem hole_or {D D' : Nat → Nat → Prop} {W : Mm} : hole D (hole D' W) = hole (fun i k => D i k ∨ D' i k) W := by
  refine mm_ext fun i k => ?_
  by_cases h : D i k
  · obtain ⟨a, b, c⟩ := hole_in (W := hole D' W) h
    obtain ⟨a', b', c'⟩ := hole_in (D := fun i k => D i k ∨ D' i k) (W := W) (Or.inl h)
    exact ⟨a.trans a'.symm, b.trans b'.symm, c.trans c'.symm⟩
  · obtain ⟨a, b, c⟩ := hole_out (W := hole D' W) h
    rw [a, b, c]
    by_cases h' : D' i k
    · obtain ⟨a, b, c⟩ := hole_in (W := W) h'
      obtain ⟨a', b', c'⟩ := hole_in (D := fun i k => D i k ∨ D' i k) (W := W) (Or.inr h')
      exact ⟨a.trans a'.symm, b.trans b'.symm, c.trans c'.symm⟩
    · obtain ⟨a, b, c⟩ := hole_out (W := W) h'
      obtain ⟨a', b', c'⟩ := hole_out (D := fun i k => D i k ∨ D' i k) (W := W) (fun q => q.elim h h')
      exact ⟨a.trans a'.symm, b.trans b'.symm, c.trans c'.symm⟩
theorem hole_cong {D D' : Nat → Nat → Prop} {W : Mm} (h : ∀ i k, D i k ↔ D' i k) : hole D W = hole D' W := by
  have e : D = D' := funext fun i => funext fun k => propext (h i k)
  rw [e]
theorem k_newQ {C : String} {sz : Nat} {x : Int32} (hd : zd M pc (.anewarray idx) 3 q) (hs : SH[n]? = some (.inr (.object C, sz))) (hmem : FieldType.object C ∈ zat) (hcl : Cond.classLink M.1.cls idx C ∈ zT) (hov : Cond.arrayOver (.object C) ∈ lw_tbl) (hx0 : ¬ x < 0 ∧ x.toNatClampNeg = sz) (hsz : sz ≤ 1000) (h0n : n0 ≤ n) (hn : n + 1 ≤ nE) (hD : ∀ i k, D' i k ↔ i = n ∧ k < sz ∨ D i k) (kk : Go d M n0 nE (n + 1) q L (.ref n :: S) (hole D' W) Q) : Go d M n0 nE n pc L (.int x :: S) (hole D W) Q := by
  refine g_newQ hd hs hmem hcl hov hx0 hsz h0n hn (g_congr (SAM_new (D := fun i k => i = n ∧ k < sz) (fun i k h => h.1) (fun k h => Or.inl ⟨rfl, ?_⟩)) ?_)
  · unfold rel at h
    rw [hs] at h
    exact h
  · rw [hole_or, ← hole_cong hD]
    exact kk
end HK
section HK2
variable {d d' : Nat} {M M' : zM} {n0 nE n n' pc q idx : Nat} {L : List (Nat × Value)} {S : List Value} {W : Mm} {D D' : Nat → Nat → Prop} {Q : Option Value → Mm → Prop}
theorem k_ast2 {a m j cj kx : Nat} {r : vw_C} {x : Int32} (hd : zd M pc .aastore 1 q) (hs : SH[a]? = some (.inr (.object r.1, m))) (ha : a < n) (ht : FieldType.object r.1 ∈ zat) (hj : j < n) (hsj : SH[j]? = some (.inl cj)) (hr : zcl[cj]? = some r) (hx : ib x m) (hk : ix x = kx) (hW : W.1 a kx = 0 ∧ W.2.1 a kx = 0 ∧ W.2.2 a kx = some j) (hb : D a kx) (hD : ∀ i j, D' i j ↔ D i j ∧ ¬ (i = a ∧ j = kx)) (kk : Go d M n0 nE n q L S (hole D' W) Q) : Go d M n0 nE n pc L (.ref j :: .int x :: .ref a :: S) (hole D W) Q := by
  subst hk
  exact k_ast hd hs ha ht hj hsj hr hx hW hb hD kk
theorem k_mna (hd : zd M pc (.multianewarray idx 2) 4 q) (hs : SH[n]? = some (.inr (.array .int, 32))) (hs2 : ∀ j, j < 32 → SH[n + 1 + j]? = some (.inr (.int, 6))) (hcl : Cond.classLink M.1.cls idx ("[" ++ (FieldType.array .int).toString) ∈ zT) (h0n : n0 ≤ n) (hn : n + 33 ≤ nE) (hz0 : ∀ k, k < 32 → W.1 n k = 0 ∧ W.2.1 n k = 0 ∧ W.2.2 n k = some (n + 1 + k)) (hz : ∀ j, j < 32 → ∀ k, dz W (n + 1 + j) k) (kk : Go d M n0 nE (n + 33) q L (.ref n :: S) W Q) : Go d M n0 nE n pc L (.int 6 :: .int 32 :: S) W Q := by
  refine g_mna hd hs hs2 hcl h0n hn (g_congr (fun i hi k hk => ?_) kk)
  unfold zcm
  by_cases e : i = n
  · subst e
    unfold rel at hk
    rw [hs] at hk
    have hk : k < 32 := hk
    obtain ⟨a, b, c⟩ := hz0 k hk
    rw [a, b, c]
    exact ⟨if_pos (by omega), if_pos (by omega), if_pos ⟨rfl, hk⟩⟩
  · by_cases e2 : i < n
    · exact ⟨if_neg (by omega), if_neg (by omega), (if_neg (by omega)).trans (if_neg (by omega))⟩
    · obtain ⟨j, hj, rfl⟩ : ∃ j, j < 32 ∧ i = n + 1 + j := ⟨i - n - 1, by omega, by omega⟩
      obtain ⟨a, b, c⟩ := hz j hj k
      rw [a, b, c]
      exact ⟨if_pos (by omega), if_pos (by omega), (if_neg (by omega)).trans (if_pos (by omega))⟩
end HK2
/-- what the constructors leave -/
def I00 (i k : Nat) : Int32 :=
  if (77 ≤ i ∧ i ≤ 82 ∨ 95 ≤ i ∧ i ≤ 100) ∧ k = 3 then -1
  else if i = 0 ∧ k = 5 then 1 else if i = 1 ∧ k = 12 then 1
  else if (i = 146 ∨ i = 148 ∨ i = 150 ∨ i = 152) ∧ k = 1 then -1
  else if i = 154 ∧ k = 42 then -1 else 0
def TG (b e : Nat) (W : Mm) : Prop := ∀ i, b ≤ i → i < e → ∀ k, W.1 i k = I00 i k ∧ W.2.1 i k = 0 ∧ W.2.2 i k = Rf 88 i k
theorem TG.mono {b e b' e' : Nat} {W : Mm} (h : TG b e W) (h1 : b ≤ b') (h2 : e' ≤ e) : TG b' e' W := fun i a c k => h i (by omega) (by omega) k
theorem TG.hole {b e b' e' : Nat} {W : Mm} {D : Nat → Nat → Prop} (h : TG b e W) (h1 : b ≤ b') (h2 : e' ≤ e) (hD : ∀ i k, D i k → i < b') : TG b' e' (hole D W) := fun i a c k => by
  have q : ¬ D i k := fun q => by have := hD i k q; omega
  obtain ⟨x, y, z⟩ := hole_out (W := W) q
  obtain ⟨x', y', z'⟩ := h i (by omega) (by omega) k
  exact ⟨x.trans x', y.trans y', z.trans z'⟩
theorem TG.at {b e i k : Nat} {W : Mm} {x : Int32} {r : Option Nat} (h : TG b e W) (h1 : b ≤ i) (h2 : i < e) (hv : I00 i k = x ∧ Rf 88 i k = r) : W.1 i k = x ∧ W.2.1 i k = 0 ∧ W.2.2 i k = r := by
  obtain ⟨x', y', z'⟩ := h i h1 h2 k
  exact ⟨x'.trans hv.1, y', z'.trans hv.2⟩
def isPl : Nat ⊕ (FieldType × Nat) → Bool
  | .inr (.int, _) => true
  | .inr (.long, _) => true
  | .inr (.boolean, _) => true
  | _ => false
def isOb : Nat ⊕ (FieldType × Nat) → Bool
  | .inl _ => true
  | _ => false
theorem Rf_arr {i k : Nat} {ty : FieldType} {m : Nat} (hs : SH[i]? = some (.inr (ty, m))) (ht : ty = .int ∨ ty = .long ∨ ty = .boolean) : Rf 88 i k = none := by
  have h0 : ∀ i ∈ List.range NF, (match SH[i]? with | some x => isPl x | none => false) = true → R0.getD i [] = [] ∧ i ≠ 1 := by decide +kernel
  have h1 := h0 i (List.mem_range.mpr (SH_lt hs)) (by
    rw [hs]
    rcases ht with h | h | h <;> rw [h] <;> rfl)
  unfold Rf
  rw [if_neg (fun q => h1.2 q.1), h1.1]
  rfl
theorem I00_arr {i k : Nat} {x : FieldType × Nat} (hs : SH[i]? = some (.inr x)) : I00 i k = 0 := by
  have h0 : ∀ i ∈ List.range NF, (match SH[i]? with | some x => isOb x | none => false) = false → ¬ ((77 ≤ i ∧ i ≤ 82 ∨ 95 ≤ i ∧ i ≤ 100) ∨ i = 0 ∨ i = 1 ∨ (i = 146 ∨ i = 148 ∨ i = 150 ∨ i = 152) ∨ i = 154) := by decide +kernel
  have h1 := h0 i (List.mem_range.mpr (SH_lt hs)) (by rw [hs]; rfl)
  unfold I00
  rw [if_neg (by omega), if_neg (by omega), if_neg (by omega), if_neg (by omega), if_neg (by omega)]
theorem TG.arr {b e i m : Nat} {W : Mm} {ty : FieldType} (h : TG b e W) (h1 : b ≤ i) (h2 : i < e) (hs : SH[i]? = some (.inr (ty, m))) (ht : ty = .int ∨ ty = .long ∨ ty = .boolean) (k : Nat) : dz W i k := h.at h1 h2 ⟨I00_arr hs, Rf_arr hs ht⟩
theorem rel_ob {n ci k : Nat} {r : vw_C} (hs : SH[n]? = some (.inl ci)) (hr : zcl[ci]? = some r) (h : rel n k) : k < r.2.2 := by
  unfold rel at h
  rw [hs] at h
  have h : k < (match zcl[ci]? with | some r => r.2.2 | none => 0) := h
  rw [hr] at h
  exact h
