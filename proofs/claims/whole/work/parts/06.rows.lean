-- the layer's rows that read and write the memory, and make cells
section GM
variable {d : Nat} {M : zM} {n0 nE n pc q : Nat} {L : List (Nat × Value)} {S : List Value} {w : Mm} {Q : Option Value → Mm → Prop}
theorem g_getI {i ci k idx : Nat} (hd : zd M pc (.getfield idx) 3 q) (hs : SH[i]? = some (.inl ci)) (hi : i < n) (hf : zfl M.1.cls idx ci k) (hz : zint (zft ci k) = true) (kk : Go d M n0 nE n q L (.int (w.1 i k) :: S) w Q) : Go d M n0 nE n pc L (.ref i :: S) w Q := by
  obtain ⟨hd, rfl⟩ := hd
  intro p l e R s m args below meth c g Z hC hE H locs ls hP hS hl
  refine z_get hC hP hi hs hf hd ?_
  rw [fv_int hz]
  exact kk p l e R s m args below meth c g Z hC hE H locs ls hP hS hl
theorem g_getJ {i ci k idx : Nat} (hd : zd M pc (.getfield idx) 3 q) (hs : SH[i]? = some (.inl ci)) (hi : i < n) (hf : zfl M.1.cls idx ci k) (hz : zft ci k = .long) (kk : Go d M n0 nE n q L (.long (w.2.1 i k) :: S) w Q) : Go d M n0 nE n pc L (.ref i :: S) w Q := by
  obtain ⟨hd, rfl⟩ := hd
  intro p l e R s m args below meth c g Z hC hE H locs ls hP hS hl
  refine z_get hC hP hi hs hf hd ?_
  rw [hz]
  exact kk p l e R s m args below meth c g Z hC hE H locs ls hP hS hl
theorem g_getR {i ci k idx j : Nat} (hd : zd M pc (.getfield idx) 3 q) (hs : SH[i]? = some (.inl ci)) (hi : i < n) (hf : zfl M.1.cls idx ci k) (hz : zref (zft ci k) = true) (hj : w.2.2 i k = some j) (kk : Go d M n0 nE n q L (.ref j :: S) w Q) : Go d M n0 nE n pc L (.ref i :: S) w Q := by
  obtain ⟨hd, rfl⟩ := hd
  intro p l e R s m args below meth c g Z hC hE H locs ls hP hS hl
  refine z_get hC hP hi hs hf hd ?_
  rw [fv_ref hz, hj]
  exact kk p l e R s m args below meth c g Z hC hE H locs ls hP hS hl
theorem g_putI {i ci k idx : Nat} {x : Int32} (hd : zd M pc (.putfield idx) 3 q) (hs : SH[i]? = some (.inl ci)) (hi : i < n) (hf : zfp M.1.cls idx ci k) (hz : zint (zft ci k) = true) (hn : narrow (zft ci k) (.int x) = .int x) (hfit : fits (zft ci k) (.int x) = true) (kk : Go d M n0 nE n q L S (mI w i k x) Q) : Go d M n0 nE n pc L (.int x :: .ref i :: S) w Q := by
  obtain ⟨hd, rfl⟩ := hd
  intro p l e R s m args below meth c g Z hC hE H locs ls hP hS hl
  refine z_put hC hP hS hi hs hf hd hn hfit (w' := mI w i k x) (fun j hj ty b => fv_mI hj ty b) (fun ty b hb => fv_mI_slot hb ty i) (by rw [fv_int hz]; exact congrArg Value.int (u2_same _ _ _ _)) (fun H1 locs1 hP hS => ?_)
  exact kk p l e R s m args below meth c g Z hC hE H1 locs1 ls hP hS hl
theorem g_putJ {i ci k idx : Nat} {x : Int64} (hd : zd M pc (.putfield idx) 3 q) (hs : SH[i]? = some (.inl ci)) (hi : i < n) (hf : zfp M.1.cls idx ci k) (hz : zft ci k = .long) (kk : Go d M n0 nE n q L S (mJ w i k x) Q) : Go d M n0 nE n pc L (.long x :: .ref i :: S) w Q := by
  obtain ⟨hd, rfl⟩ := hd
  intro p l e R s m args below meth c g Z hC hE H locs ls hP hS hl
  refine z_put hC hP hS hi hs hf hd (by rw [hz]; rfl) (by rw [hz]; rfl) (w' := mJ w i k x) (fun j hj ty b => fv_mJ hj ty b) (fun ty b hb => fv_mJ_slot hb ty i) (by rw [hz]; exact congrArg Value.long (u2_same _ _ _ _)) (fun H1 locs1 hP hS => ?_)
  exact kk p l e R s m args below meth c g Z hC hE H1 locs1 ls hP hS hl
theorem nar_ref {ty : FieldType} (h : zref ty = true) (a : Nat) : narrow ty (.ref a) = .ref a ∧ fits ty (.ref a) = true := by
  cases ty <;> first | exact ⟨rfl, rfl⟩ | exact absurd h (by decide)
theorem g_putR {i ci k idx j : Nat} (hd : zd M pc (.putfield idx) 3 q) (hs : SH[i]? = some (.inl ci)) (hi : i < n) (hf : zfp M.1.cls idx ci k) (hz : zref (zft ci k) = true) (kk : Go d M n0 nE n q L S (mR w i k (some j)) Q) : Go d M n0 nE n pc L (.ref j :: .ref i :: S) w Q := by
  obtain ⟨hd, rfl⟩ := hd
  intro p l e R s m args below meth c g Z hC hE H locs ls hP hS hl
  refine z_put hC hP hS hi hs hf hd (nar_ref hz _).1 (nar_ref hz _).2 (w' := mR w i k (some j)) (fun j hj ty b => fv_mR hj ty b) (fun ty b hb => fv_mR_slot hb ty i) (by rw [fv_ref hz]; exact congrArg (fun o => va_rf (Option.map (ad g) o)) (u2_same _ _ _ _)) (fun H1 locs1 hP hS => ?_)
  exact kk p l e R s m args below meth c g Z hC hE H1 locs1 ls hP hS hl
theorem g_putRF {i ci k idx j : Nat} (hd : zd M pc (.putfield idx) 3 q) (hs : SH[i]? = some (.inl ci)) (hi : i < n) (hf : zff M.1.cls idx ci k) (hini : M.1.name = "<init>") (hz : zref (zft ci k) = true) (kk : Go d M n0 nE n q L S (mR w i k (some j)) Q) : Go d M n0 nE n pc L (.ref j :: .ref i :: S) w Q := by
  obtain ⟨hd, rfl⟩ := hd
  intro p l e R s m args below meth c g Z hC hE H locs ls hP hS hl
  refine z_putF hC hP hS hi hs hf hini hd (nar_ref hz _).1 (nar_ref hz _).2 (w' := mR w i k (some j)) (fun j hj ty b => fv_mR hj ty b) (fun ty b hb => fv_mR_slot hb ty i) (by rw [fv_ref hz]; exact congrArg (fun o => va_rf (Option.map (ad g) o)) (u2_same _ _ _ _)) (fun H1 locs1 hP hS => ?_)
  exact kk p l e R s m args below meth c g Z hC hE H1 locs1 ls hP hS hl
-- rows of ints, longs, booleans, references
theorem arrO {g : zG} {s : State} (hK : zK g s) {ty : FieldType} (ht : ty ∈ zat) (m : Nat) (f : Nat → Value) : s.isArrayOf (arrV (g.2.1 ty) m f) ty := (hK.2.1 ty ht).1 m f
theorem g_iald {a m : Nat} {x : Int32} (hd : zd M pc .iaload 1 q) (hs : SH[a]? = some (.inr (.int, m))) (ha : a < n) (hx : ib x m) (kk : Go d M n0 nE n q L (.int (w.1 a (ix x)) :: S) w Q) : Go d M n0 nE n pc L (.int x :: .ref a :: S) w Q := by
  obtain ⟨hd, rfl⟩ := hd
  intro p l e R s m args below meth c g Z hC hE H locs ls hP hS hl
  show W p l e R s m args below meth c H locs _ _ Z (F0 m pc ls (.int x :: .ref (ad g a) :: S.map (zv g)))
  rw [hP.ad ha]
  exact W.iald (v := .int (w.1 a (ix x))) hC.1 hC.2.1 (hP.arr ha hs) (arrO hC.2.2.2.2.2.1.1 (by decide) _ _) (fun q => by cases q) (by rw [arrV_size]; exact ib_vp hx) (by rw [arrV_read _ _ (ib_clamp hx)]; rfl) rfl rfl hd (kk p l e R s m args below meth c g Z hC hE H locs ls hP hS hl)
theorem g_zald {a m : Nat} {x : Int32} (hd : zd M pc .baload 1 q) (hs : SH[a]? = some (.inr (.boolean, m))) (ha : a < n) (hx : ib x m) (kk : Go d M n0 nE n q L (.int (w.1 a (ix x)) :: S) w Q) : Go d M n0 nE n pc L (.int x :: .ref a :: S) w Q := by
  obtain ⟨hd, rfl⟩ := hd
  intro p l e R s m args below meth c g Z hC hE H locs ls hP hS hl
  show W p l e R s m args below meth c H locs _ _ Z (F0 m pc ls (.int x :: .ref (ad g a) :: S.map (zv g)))
  rw [hP.ad ha]
  exact W.zald (v := .int (w.1 a (ix x))) hC.1 hC.2.1 (hP.arr ha hs) (arrO hC.2.2.2.2.2.1.1 (by decide) _ _) (fun q => by cases q) (by rw [arrV_size]; exact ib_vp hx) (by rw [arrV_read _ _ (ib_clamp hx)]; rfl) rfl rfl hd (kk p l e R s m args below meth c g Z hC hE H locs ls hP hS hl)
theorem g_lald {a m : Nat} {x : Int32} (hd : zd M pc .laload 1 q) (hs : SH[a]? = some (.inr (.long, m))) (ha : a < n) (hx : ib x m) (kk : Go d M n0 nE n q L (.long (w.2.1 a (ix x)) :: S) w Q) : Go d M n0 nE n pc L (.int x :: .ref a :: S) w Q := by
  obtain ⟨hd, rfl⟩ := hd
  intro p l e R s m args below meth c g Z hC hE H locs ls hP hS hl
  show W p l e R s m args below meth c H locs _ _ Z (F0 m pc ls (.int x :: .ref (ad g a) :: S.map (zv g)))
  rw [hP.ad ha]
  exact W.lald (v := .long (w.2.1 a (ix x))) hC.1 hC.2.1 (hP.arr ha hs) (arrO hC.2.2.2.2.2.1.1 (by decide) _ _) (fun q => by cases q) (by rw [arrV_size]; exact ib_vp hx) (by rw [arrV_read _ _ (ib_clamp hx)]; rfl) rfl rfl hd (kk p l e R s m args below meth c g Z hC hE H locs ls hP hS hl)
theorem g_aald {a m j : Nat} {ty : FieldType} {x : Int32} (hd : zd M pc .aaload 1 q) (hs : SH[a]? = some (.inr (ty, m))) (ha : a < n) (ht : ty ∈ zat) (hz : zref ty = true) (hx : ib x m) (hj : w.2.2 a (ix x) = some j) (kk : Go d M n0 nE n q L (.ref j :: S) w Q) : Go d M n0 nE n pc L (.int x :: .ref a :: S) w Q := by
  obtain ⟨hd, rfl⟩ := hd
  intro p l e R s m args below meth c g Z hC hE H locs ls hP hS hl
  show W p l e R s m args below meth c H locs _ _ Z (F0 m pc ls (.int x :: .ref (ad g a) :: S.map (zv g)))
  rw [hP.ad ha]
  refine W.aald (v := .ref (ad g j)) hC.1 hC.2.1 (hP.arr ha hs) (arrO hC.2.2.2.2.2.1.1 ht _ _) (by cases ty <;> first | rfl | exact absurd hz (by decide)) (fun q => by cases q) (by rw [arrV_size]; exact ib_vp hx) (by rw [arrV_read _ _ (ib_clamp hx)]; rw [fv_ref hz, show w.2.2 a x.toNatClampNeg = some j from hj]; rfl) rfl rfl hd (kk p l e R s m args below meth c g Z hC hE H locs ls hP hS hl)
theorem arr_upd {g : zG} {w w' : Mm} {ty : FieldType} {a k m : Nat} {v : Value} (h1 : ∀ b, b ≠ k → fv g w' ty a b = fv g w ty a b) (h2 : fv g w' ty a k = v) : (arrV (g.2.1 ty) m (fun b => fv g w ty a b)).setSlot k v = arrV (g.2.1 ty) m (fun b => fv g w' ty a b) := by
  rw [arrV_store]
  refine congrArg (arrV _ m) (funext fun b => ?_)
  unfold updV
  by_cases h : b = k
  · rw [if_pos h, h, h2]
  · rw [if_neg h, h1 b h]
theorem cellAt_arr {g : zG} {w : Mm} {H : Heap} {ty : FieldType} {a m : Nat} (hs : SH[a]? = some (.inr (ty, m))) (h : H[g.2.2.1 + a]? = some (arrV (g.2.1 ty) m (fun b => fv g w ty a b))) : cellAt g w a H := by
  unfold cellAt
  rw [hs]
  exact h
theorem g_iast {a m : Nat} {x y : Int32} (hd : zd M pc .iastore 1 q) (hs : SH[a]? = some (.inr (.int, m))) (ha : a < n) (hx : ib x m) (kk : Go d M n0 nE n q L S (mI w a (ix x) y) Q) : Go d M n0 nE n pc L (.int y :: .int x :: .ref a :: S) w Q := by
  obtain ⟨hd, rfl⟩ := hd
  intro p l e R s m args below meth c g Z hC hE H locs ls hP hS hl
  show W p l e R s m args below meth c H locs _ _ Z (F0 m pc ls (.int y :: .int x :: .ref (ad g a) :: S.map (zv g)))
  rw [hP.ad ha]
  refine W.iast hC.1 hC.2.1 (hP.arr ha hs) (arrO hC.2.2.2.2.2.1.1 (by decide) _ _) (fun q => by cases q) (by rw [arrV_size]; exact ib_vp hx) rfl rfl hd fun H1 e1 z oq => ?_
  refine kk p l e R s m args below meth c g Z hC hE H1 _ ls (hP.upd (w' := mI w a (ix x) y) (fun j hj ty b => fv_mI hj ty b) z oq (cellAt_arr hs ?_)) (hS.put z oq (Nat.le_add_right _ _)) hl
  rw [e1]
  exact congrArg some (arr_upd (fun b hb => fv_mI_slot hb .int a) (congrArg Value.int (u2_same _ _ _ _)))
theorem g_last {a m : Nat} {x : Int32} {y : Int64} (hd : zd M pc .lastore 1 q) (hs : SH[a]? = some (.inr (.long, m))) (ha : a < n) (hx : ib x m) (kk : Go d M n0 nE n q L S (mJ w a (ix x) y) Q) : Go d M n0 nE n pc L (.long y :: .int x :: .ref a :: S) w Q := by
  obtain ⟨hd, rfl⟩ := hd
  intro p l e R s m args below meth c g Z hC hE H locs ls hP hS hl
  show W p l e R s m args below meth c H locs _ _ Z (F0 m pc ls (.long y :: .int x :: .ref (ad g a) :: S.map (zv g)))
  rw [hP.ad ha]
  refine W.last hC.1 hC.2.1 (hP.arr ha hs) (arrO hC.2.2.2.2.2.1.1 (by decide) _ _) (fun q => by cases q) (by rw [arrV_size]; exact ib_vp hx) rfl rfl hd fun H1 e1 z oq => ?_
  refine kk p l e R s m args below meth c g Z hC hE H1 _ ls (hP.upd (w' := mJ w a (ix x) y) (fun j hj ty b => fv_mJ hj ty b) z oq (cellAt_arr hs ?_)) (hS.put z oq (Nat.le_add_right _ _)) hl
  rw [e1]
  exact congrArg some (arr_upd (fun b hb => fv_mJ_slot hb .long a) (congrArg Value.long (u2_same _ _ _ _)))
/-- what a row of booleans keeps -/
def nb (x : Int32) : Int32 := vp_nar .boolean x
theorem nb_nar (x : Int32) : narrow .boolean (.int x) = .int (nb x) := by
  unfold nb vp_nar
  cases h : narrow .boolean (.int x) with
  | int y => rfl
  | _ => simp [narrow] at h
theorem g_zast {a m : Nat} {x y : Int32} (hd : zd M pc .bastore 1 q) (hs : SH[a]? = some (.inr (.boolean, m))) (ha : a < n) (hx : ib x m) (kk : Go d M n0 nE n q L S (mI w a (ix x) (nb y)) Q) : Go d M n0 nE n pc L (.int y :: .int x :: .ref a :: S) w Q := by
  obtain ⟨hd, rfl⟩ := hd
  intro p l e R s m args below meth c g Z hC hE H locs ls hP hS hl
  show W p l e R s m args below meth c H locs _ _ Z (F0 m pc ls (.int y :: .int x :: .ref (ad g a) :: S.map (zv g)))
  rw [hP.ad ha]
  refine W.zast hC.1 hC.2.1 (hP.arr ha hs) (arrO hC.2.2.2.2.2.1.1 (by decide) _ _) (fun q => by cases q) (by rw [arrV_size]; exact ib_vp hx) rfl rfl hd fun H1 e1 z oq => ?_
  refine kk p l e R s m args below meth c g Z hC hE H1 _ ls (hP.upd (w' := mI w a (ix x) (nb y)) (fun j hj ty b => fv_mI hj ty b) z oq (cellAt_arr hs ?_)) (hS.put z oq (Nat.le_add_right _ _)) hl
  rw [e1, nb_nar]
  exact congrArg some (arr_upd (fun b hb => fv_mI_slot hb .boolean a) (congrArg Value.int (u2_same _ _ _ _)))
theorem g_aast {a m j cj : Nat} {r : vw_C} {x : Int32} (hd : zd M pc .aastore 1 q) (hs : SH[a]? = some (.inr (.object r.1, m))) (ha : a < n) (ht : FieldType.object r.1 ∈ zat) (hj : j < n) (hsj : SH[j]? = some (.inl cj)) (hr : zcl[cj]? = some r) (hx : ib x m) (kk : Go d M n0 nE n q L S (mR w a (ix x) (some j)) Q) : Go d M n0 nE n pc L (.ref j :: .int x :: .ref a :: S) w Q := by
  obtain ⟨hd, rfl⟩ := hd
  intro p l e R s m args below meth c g Z hC hE H locs ls hP hS hl
  show W p l e R s m args below meth c H locs _ _ Z (F0 m pc ls (.ref (ad g j) :: .int x :: .ref (ad g a) :: S.map (zv g)))
  have hj0 := hP.ad hj
  rw [hP.ad ha, hj0]
  have hK := hC.2.2.2.2.2.1.1
  have hlt := ib_clamp hx
  have h0 : ¬ x < 0 := fun q => ib_vp hx (Or.inl q)
  obtain ⟨r', hr', cellV, g1, g2, g3, -⟩ := hP.obj hj hsj
  obtain rfl : r = r' := Option.some.inj (hr.symm.trans hr')
  have hcls := (hK.1.1 cj r hr).2
  obtain ⟨kA, comp, k1, k2, k3, -⟩ := (hK.2.1 _ ht).2
  have hcomp : comp = g.1.1 cj := Option.some.inj (k3.symm.trans hcls.1)
  subst hcomp
  obtain ⟨kC, hkC, -⟩ := hcls.2
  refine W.aast hC.1 hC.2.1 (hP.arr ha hs) (fun q h => by cases h) (fun h => by cases h) k1 k2 rfl hkC ⟨h0, by rw [arrV_size]; exact hlt⟩ g1 (fun q h => by rw [g3] at h; cases h) (by rw [g2]; exact hkC) (by rw [g2]; exact va_assign hcls) rfl rfl hd fun H1 e1 z oq => ?_
  refine kk p l e R s m args below meth c g Z hC hE H1 _ ls (hP.upd (w' := mR w a (ix x) (some j)) (fun j hj ty b => fv_mR hj ty b) z oq (cellAt_arr hs ?_)) (hS.put z oq (Nat.le_add_right _ _)) hl
  rw [e1, ← hj0]
  exact congrArg some (arr_upd (fun b hb => fv_mR_slot hb (.object r.1) a) (congrArg (fun o => va_rf (Option.map (ad g) o)) (u2_same _ _ _ _)))
theorem g_alen {a m : Nat} {ty : FieldType} {v : Int32} (hd : zd M pc .arraylength 1 q) (hs : SH[a]? = some (.inr (ty, m))) (ha : a < n) (ht : ty ∈ zat) (hv : Int32.ofNat m = v) (kk : Go d M n0 nE n q L (.int v :: S) w Q) : Go d M n0 nE n pc L (.ref a :: S) w Q := by
  obtain ⟨hd, rfl⟩ := hd
  intro p l e R s m args below meth c g Z hC hE H locs ls hP hS hl
  show W p l e R s m args below meth c H locs _ _ Z (F0 m pc ls (.ref (ad g a) :: S.map (zv g)))
  rw [hP.ad ha]
  exact W.alen (n := v) hC.1 hC.2.1 (hP.arr ha hs) (arrO hC.2.2.2.2.2.1.1 ht _ _) (by rw [arrV_size]; exact hv) rfl rfl hd (kk p l e R s m args below meth c g Z hC hE H locs ls hP hS hl)
-- static rows
theorem g_gets {j idx : Nat} (hd : zd M pc (.getstatic idx) 3 q) (hj : j < 3) (hl0 : Cond.fieldLink M.1.cls idx "PutOn" (stN j) "[I" ∈ zT) (kk : Go d M n0 nE n q L (.ref (100000 + j) :: S) w Q) : Go d M n0 nE n pc L S w Q := by
  obtain ⟨hd, rfl⟩ := hd
  intro p l e R s m args below meth c g Z hC hE H locs ls hP hS hl
  exact va_gets (A := zA g) hC.1 hC.2.1 (hC.2.2.2.2.2.1.2.1 j hj).1 hS hC.2.2.2.1 (hC.2.2.2.2.1 _ hl0) (fun x h => h) hd (kk p l e R s m args below meth c g Z hC hE H locs ls hP hS hl)
theorem g_getsN {j idx : Nat} {host : String} (hd : zd M pc (.getstatic idx) 3 q) (hj : j < 3) (hl0 : Cond.fieldLinkNest M.1.cls idx "PutOn" (stN j) "[I" host ∈ lw_tbl) (kk : Go d M n0 nE n q L (.ref (100000 + j) :: S) w Q) : Go d M n0 nE n pc L S w Q := by
  obtain ⟨hd, rfl⟩ := hd
  intro p l e R s m args below meth c g Z hC hE H locs ls hP hS hl
  exact va_getsN (A := zA g) hC.1 hC.2.1 (hC.2.2.2.2.2.1.2.1 j hj).1 hS hC.2.2.2.1 (va_Nw.use rfl (hC.2.2.2.2.2.1.1.2.2.1 _ hl0 rfl)) (fun x h => h) hd (kk p l e R s m args below meth c g Z hC hE H locs ls hP hS hl)
theorem g_sald {j : Nat} {x : Int32} (hd : zd M pc .iaload 1 q) (hj : j < 3) (hx : ib x 6) (kk : Go d M n0 nE n q L (.int (stV j (ix x)) :: S) w Q) : Go d M n0 nE n pc L (.int x :: .ref (100000 + j) :: S) w Q := by
  obtain ⟨hd, rfl⟩ := hd
  intro p l e R s m args below meth c g Z hC hE H locs ls hP hS hl
  obtain ⟨cell, h1, h2, h3, h4, h5, h6, h7⟩ := (hC.2.2.2.2.2.1.2.1 j hj).2
  have hlt : ad g (100000 + j) < s.heap.size := (Array.getElem?_eq_some_iff.mp h1).1
  refine W.iald (v := .int (stV j (ix x))) hC.1 hC.2.1 (by rw [hS.2.1 _ hlt h7]; exact h1) h2 h3 (fun q => ?_) (h6 _ (ib_clamp hx)) rfl rfl hd (kk p l e R s m args below meth c g Z hC hE H locs ls hP hS hl)
  rcases q with q | q
  · exact ib_vp hx (Or.inl q)
  · exact ib_vp hx (Or.inr (Nat.le_trans h4 q))
end GM
