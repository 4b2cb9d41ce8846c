-- the memory under the layer: cells, rows that read and write them
theorem SH_lt {i : Nat} {x : Nat ⊕ (FieldType × Nat)} (h : SH[i]? = some x) : i < NF := by
  rw [← SH_len]
  exact (List.getElem?_eq_some_iff.mp h).1
theorem NF_lt : NF < 100000 := by decide
theorem ad_lt (g : zG) {i : Nat} (h : i < 100000) : ad g i = g.2.2.1 + i := if_pos h
theorem zP.ad {g : zG} {n i : Nat} {w : Mm} {H : Heap} (h : zP g n w H) (hi : i < n) : ad g i = g.2.2.1 + i := ad_lt g (Nat.lt_trans (Nat.lt_of_lt_of_le hi h.2.1) NF_lt)
theorem zP.obj {g : zG} {n i ci : Nat} {w : Mm} {H : Heap} (h : zP g n w H) (hi : i < n) (hs : SH[i]? = some (.inl ci)) : ∃ r : vw_C, zcl[ci]? = some r ∧ t_OB (g.2.2.1 + i) (g.1.1 ci) r.2.2 (g.1.2 ci) H (fun k => fv g w (zft ci k) i k) := by
  have h1 := h.2.2 i hi
  unfold cellAt at h1
  rw [hs] at h1
  exact h1
theorem zP.arr {g : zG} {n i m : Nat} {ty : FieldType} {w : Mm} {H : Heap} (h : zP g n w H) (hi : i < n) (hs : SH[i]? = some (.inr (ty, m))) : H[g.2.2.1 + i]? = some (arrV (g.2.1 ty) m (fun k => fv g w ty i k)) := by
  have h1 := h.2.2 i hi
  unfold cellAt at h1
  rw [hs] at h1
  exact h1
theorem cellAt.kept {g : zG} {w w' : Mm} {i : Nat} {H H1 : Heap} (h : cellAt g w i H) (hq : H1[g.2.2.1 + i]? = H[g.2.2.1 + i]?) (hw : ∀ ty k, fv g w' ty i k = fv g w ty i k) : cellAt g w' i H1 := by
  unfold cellAt at h ⊢
  split
  · rename_i ci hs
    rw [hs] at h
    obtain ⟨r, h1, h2⟩ := h
    exact ⟨r, h1, (h2.kept hq).to (fun k _ => (hw _ k).symm)⟩
  · rename_i a hs
    rw [hs] at h
    rw [hq]
    simp only [hw]
    exact h
  · rename_i hs
    rw [hs] at h
    exact h
theorem zP.upd {g : zG} {n a : Nat} {w w' : Mm} {H H1 : Heap} (h : zP g n w H) (hw : ∀ j, j ≠ a → ∀ ty k, fv g w' ty j k = fv g w ty j k) (z : H1.size = H.size) (oq : ∀ q : Nat, q ≠ g.2.2.1 + a → H1[q]? = H[q]?) (hc : cellAt g w' a H1) : zP g n w' H1 := by
  refine ⟨z.trans h.1, h.2.1, fun i hi => ?_⟩
  by_cases e : i = a
  · rw [e]; exact hc
  · exact (h.2.2 i hi).kept (oq _ (by omega)) (hw i e)
theorem fv_mI {g : zG} {w : Mm} {i k : Nat} {x : Int32} {j : Nat} (h : j ≠ i) (ty : FieldType) (b : Nat) : fv g (mI w i k x) ty j b = fv g w ty j b := by
  cases ty <;> first | rfl | exact congrArg Value.int (u2_cell w.1 k x h b)
theorem fv_mJ {g : zG} {w : Mm} {i k : Nat} {x : Int64} {j : Nat} (h : j ≠ i) (ty : FieldType) (b : Nat) : fv g (mJ w i k x) ty j b = fv g w ty j b := by
  cases ty <;> first | rfl | exact congrArg Value.long (u2_cell w.2.1 k x h b)
theorem fv_mR {g : zG} {w : Mm} {i k : Nat} {x : Option Nat} {j : Nat} (h : j ≠ i) (ty : FieldType) (b : Nat) : fv g (mR w i k x) ty j b = fv g w ty j b := by
  cases ty <;> first | rfl | exact congrArg (fun o => va_rf (Option.map (ad g) o)) (u2_cell w.2.2 k x h b)
theorem fv_mI_slot {g : zG} {w : Mm} {i k : Nat} {x : Int32} {b : Nat} (h : b ≠ k) (ty : FieldType) (j : Nat) : fv g (mI w i k x) ty j b = fv g w ty j b := by
  cases ty <;> first | rfl | exact congrArg Value.int (u2_slot w.1 i x h j)
theorem fv_mJ_slot {g : zG} {w : Mm} {i k : Nat} {x : Int64} {b : Nat} (h : b ≠ k) (ty : FieldType) (j : Nat) : fv g (mJ w i k x) ty j b = fv g w ty j b := by
  cases ty <;> first | rfl | exact congrArg Value.long (u2_slot w.2.1 i x h j)
theorem fv_mR_slot {g : zG} {w : Mm} {i k : Nat} {x : Option Nat} {b : Nat} (h : b ≠ k) (ty : FieldType) (j : Nat) : fv g (mR w i k x) ty j b = fv g w ty j b := by
  cases ty <;> first | rfl | exact congrArg (fun o => va_rf (Option.map (ad g) o)) (u2_slot w.2.2 i x h j)
def zint (ty : FieldType) : Bool := match ty with
  | .long => false
  | .object _ => false
  | .array _ => false
  | _ => true
def zref (ty : FieldType) : Bool := match ty with
  | .object _ => true
  | .array _ => true
  | _ => false
theorem fv_int {g : zG} {w : Mm} {ty : FieldType} (h : zint ty = true) (i k : Nat) : fv g w ty i k = .int (w.1 i k) := by
  cases ty <;> first | rfl | exact absurd h (by decide) | (simp [zint] at h)
theorem fv_ref {g : zG} {w : Mm} {ty : FieldType} (h : zref ty = true) (i k : Nat) : fv g w ty i k = va_rf ((w.2.2 i k).map (ad g)) := by
  cases ty <;> first | rfl | exact absurd h (by decide)
def zfl (own : String) (idx ci k : Nat) : Prop := ∃ r : vw_C, zcl[ci]? = some r ∧ k < r.2.2 ∧ Cond.fieldLink own idx (r.2.1 k).1 (r.2.1 k).2.1 (r.2.1 k).2.2.1 ∈ zT
def zfp (own : String) (idx ci k : Nat) : Prop := ∃ r : vw_C, zcl[ci]? = some r ∧ k < r.2.2 ∧ Cond.fieldLink own idx (r.2.1 k).1 (r.2.1 k).2.1 (r.2.1 k).2.2.1 ∈ zT ∧ (r.2.1 k).2.2.2 = false
def zff (own : String) (idx ci k : Nat) : Prop := ∃ r : vw_C, zcl[ci]? = some r ∧ k < r.2.2 ∧ Cond.fieldLink own idx (r.2.1 k).1 (r.2.1 k).2.1 (r.2.1 k).2.2.1 ∈ zT ∧ (r.2.1 k).2.2.2 = true ∧ (r.2.1 k).1 = own
section MEM
variable {p : Program} {l : Launch} {e : Env} {R : Room} {s : State} {m : MethodId} {args : Array Value} {below : List Frame} {meth : Method} {c : Code} {H : Heap} {locs : List Loc} {cells slots : Nat} {Q : State → Prop}
variable {d : Nat} {M : zM} {n0 nE n pc : Nat} {w : Mm} {g : zG} {ls : Array Slot} {rest : List Value}
theorem z_get (hC : zC d M n0 nE p R s m args meth c g) (hP : zP g n w H) {i ci k idx : Nat} (hi : i < n) (hs : SH[i]? = some (.inl ci)) (hf : zfl M.1.cls idx ci k) (hd : decode M.2.1 pc = .ok (.getfield idx, 3))
    (kk : W p l e R s m args below meth c H locs cells slots Q (F0 m (pc + 3) ls (fv g w (zft ci k) i k :: rest))) : W p l e R s m args below meth c H locs cells slots Q (F0 m pc ls (.ref (ad g i) :: rest)) := by
  obtain ⟨hx, hb, -, hown, hts, ⟨hK, -⟩, -⟩ := hC
  obtain ⟨r, hr, cell, q1, q2, q3, q4⟩ := hP.obj hi hs
  obtain ⟨r', hr', hk, hlink⟩ := hf
  obtain rfl : r = r' := Option.some.inj (hr.symm.trans hr')
  obtain ⟨hin, hty, hnm⟩ := zcl_ok ci r hr
  obtain ⟨hS, hfc, kC, hkC, hkind⟩ := hK.1.1 ci _ hr
  obtain ⟨cf, kf, fi, f, hif, hsl⟩ := hS k hk
  rw [hP.ad hi]
  refine W.getf hx hb hown (hts _ hlink) hif (u_facts hfc hkC (u_lays hts hin hk) hif).1 q1 (by rw [q3]; exact fun h => by cases h) (v := fv g w (zft ci k) i k) ?_ rfl rfl hd kk
  rw [hsl, q4 k hk]
theorem z_apart (hC : zC d M n0 nE p R s m args meth c g) {ci : Nat} {r : vw_C} (hr : zcl[ci]? = some r) : ∀ x y, x < r.2.2 → y < r.2.2 → x ≠ y → (g.1.2 ci) x ≠ (g.1.2 ci) y := by
  obtain ⟨hx, hb, -, hown, hts, ⟨hK, -⟩, -⟩ := hC
  obtain ⟨hin, hty, hnm⟩ := zcl_ok ci r hr
  exact va_apart (own := M.1.cls) hts hin (zft ci) hty hnm hK.1 hr
theorem z_put (hC : zC d M n0 nE p R s m args meth c g) (hP : zP g n w H) (hSv : va_S (zA g) s.heap H locs) {i ci k idx : Nat} (hi : i < n) (hs : SH[i]? = some (.inl ci)) (hf : zfp M.1.cls idx ci k) (hd : decode M.2.1 pc = .ok (.putfield idx, 3)) {v : Value} (hn : narrow (zft ci k) v = v) (hfit : fits (zft ci k) v = true)
    {w' : Mm} (h1 : ∀ j, j ≠ i → ∀ ty b, fv g w' ty j b = fv g w ty j b) (h2 : ∀ ty b, b ≠ k → fv g w' ty i b = fv g w ty i b) (h3 : fv g w' (zft ci k) i k = v)
    (kk : ∀ (H1 : Heap) (locs1 : List Loc), zP g n w' H1 → va_S (zA g) s.heap H1 locs1 → W p l e R s m args below meth c H1 locs1 cells slots Q (F0 m (pc + 3) ls rest)) : W p l e R s m args below meth c H locs cells slots Q (F0 m pc ls (v :: .ref (ad g i) :: rest)) := by
  have hC0 := hC
  obtain ⟨hx, hb, -, hown, hts, ⟨hK, -⟩, -⟩ := hC
  obtain ⟨r, hr, cell, q1, q2, q3, q4⟩ := hP.obj hi hs
  obtain ⟨r', hr', hk, hlink, hfin⟩ := hf
  obtain rfl : r = r' := Option.some.inj (hr.symm.trans hr')
  obtain ⟨hin, hty, hnm⟩ := zcl_ok ci r hr
  have hap := z_apart hC0 hr
  obtain ⟨hS, hfc, kC, hkC, hkind⟩ := hK.1.1 ci _ hr
  obtain ⟨cf, kf, fi, f, hif, hsl⟩ := hS k hk
  have hlay := hts _ (hin _ (u_in_lay hk))
  unfold u_lay at hlay
  rw [if_neg (by rw [hfin]; decide)] at hlay
  have hst := (u_facts hfc hkC (u_lays hts hin hk) hif).1
  have h6 := u_store hfc hkC hkind hlay hif (hty k hk) hn hfit
  rw [hP.ad hi]
  refine W.putK hx hb (f := f) ⟨hown, hts _ hlink, ⟨_, _, _, hif⟩, hst⟩ (by rw [q2]; exact h6) q1 q3 (by rw [hsl]; exact k2_hasslot (q4 k hk)) rfl rfl hd fun H' e1 e2 e3 => ?_
  rw [hsl] at e1 ⊢
  refine kk H' _ (hP.upd h1 e2 e3 ?_) (hSv.put e2 e3 (Nat.le_add_right _ _))
  unfold cellAt
  rw [hs]
  refine ⟨r, hr, t_OB.to (V := updV (fun b => fv g w (zft ci b) i b) k v) ⟨_, e1, q2, q3, t_set q4 hap hk v⟩ (fun b _ => ?_)⟩
  unfold updV
  by_cases e : b = k
  · rw [if_pos e, e]; exact h3.symm
  · rw [if_neg e]; exact (h2 _ b e).symm
theorem z_putF (hC : zC d M n0 nE p R s m args meth c g) (hP : zP g n w H) (hSv : va_S (zA g) s.heap H locs) {i ci k idx : Nat} (hi : i < n) (hs : SH[i]? = some (.inl ci)) (hf : zff M.1.cls idx ci k) (hini : M.1.name = "<init>") (hd : decode M.2.1 pc = .ok (.putfield idx, 3)) {v : Value} (hn : narrow (zft ci k) v = v) (hfit : fits (zft ci k) v = true)
    {w' : Mm} (h1 : ∀ j, j ≠ i → ∀ ty b, fv g w' ty j b = fv g w ty j b) (h2 : ∀ ty b, b ≠ k → fv g w' ty i b = fv g w ty i b) (h3 : fv g w' (zft ci k) i k = v)
    (kk : ∀ (H1 : Heap) (locs1 : List Loc), zP g n w' H1 → va_S (zA g) s.heap H1 locs1 → W p l e R s m args below meth c H1 locs1 cells slots Q (F0 m (pc + 3) ls rest)) : W p l e R s m args below meth c H locs cells slots Q (F0 m pc ls (v :: .ref (ad g i) :: rest)) := by
  have hC0 := hC
  obtain ⟨hx, hb, -, hown, hts, ⟨hK, -⟩, -, hini2, -⟩ := hC
  obtain ⟨r, hr, cell, q1, q2, q3, q4⟩ := hP.obj hi hs
  obtain ⟨r', hr', hk, hlink, hfin, hdecl⟩ := hf
  obtain rfl : r = r' := Option.some.inj (hr.symm.trans hr')
  obtain ⟨hin, hty, hnm⟩ := zcl_ok ci r hr
  have hap := z_apart hC0 hr
  obtain ⟨hS, hfc, kC, hkC, hkind⟩ := hK.1.1 ci _ hr
  obtain ⟨cf, kf, fi, f, hif, hsl⟩ := hS k hk
  have hlay := hts _ (hin _ (u_in_lay hk))
  unfold u_lay at hlay
  rw [if_pos hfin] at hlay
  have hst := (u_facts hfc hkC (u_lays hts hin hk) hif).1
  have hcf : m.cls = cf := by
    obtain ⟨_, _, c', _, _, _, -, -, hf', -, -, -, hown2, -⟩ := Cond.laysFinal_spec hlay
    have e1 : c' = cf := by have := hif.symm.trans hf'; simp at this; exact this.1.symm
    rw [hdecl] at hown2
    rw [← e1]; exact Option.some.inj (hown.symm.trans hown2)
  have h6 := u_fits hfc hkC hkind (Or.inr hlay) hif (hty k hk) hn hfit
  rw [hP.ad hi]
  refine W.putFinK hx hb hown (hts _ hlink) hif hst hcf (hini2 hini) (by rw [q2]; exact h6) q1 q3 (by rw [hsl]; exact k2_hasslot (q4 k hk)) rfl rfl hd fun H' e1 e2 e3 => ?_
  rw [hsl] at e1 ⊢
  refine kk H' _ (hP.upd h1 e2 e3 ?_) (hSv.put e2 e3 (Nat.le_add_right _ _))
  unfold cellAt
  rw [hs]
  refine ⟨r, hr, t_OB.to (V := updV (fun b => fv g w (zft ci b) i b) k v) ⟨_, e1, q2, q3, t_set q4 hap hk v⟩ (fun b _ => ?_)⟩
  unfold updV
  by_cases e : b = k
  · rw [if_pos e, e]; exact h3.symm
  · rw [if_neg e]; exact (h2 _ b e).symm
end MEM
/-- an index within a row of n -/
def ib (x : Int32) (n : Nat) : Prop := 0 ≤ x.toInt ∧ x.toInt < n
abbrev ix (x : Int32) : Nat := x.toInt.toNat
theorem ib_vp {x : Int32} {n : Nat} (h : ib x n) : ¬ (x < 0 ∨ n ≤ x.toNatClampNeg) := by
  rintro (q | q)
  · have := Int32.lt_iff_toInt_lt.mp q
    rw [Int32.toInt_zero] at this
    unfold ib at h
    omega
  · have : n ≤ x.toInt.toNat := q
    unfold ib at h
    omega
theorem ib_lt {x : Int32} {n : Nat} (h : ib x n) : ix x < n := by
  unfold ib at h
  unfold ix
  omega
theorem ib_clamp {x : Int32} {n : Nat} (h : ib x n) : x.toNatClampNeg < n := ib_lt h
