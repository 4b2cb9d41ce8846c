-- the constant texts: what is asked of them
set_option maxHeartbeats 1000000 in
theorem call_of_goF {d : Nat} {M : zM} {n0 nE : Nat} {as : List Value} {w : Mm} {Q : Option Value → Mm → Prop} (hn : n0 ≤ nE) (hp : plainFor M.1 = true) (hla : (lg_sl as).length ≤ M.2.2.1) (h : Go d M n0 nE n0 0 (lv_args 0 as) [] w Q) : Call d M n0 nE as w Q := by
  refine ⟨hn, fun l g => ?_⟩
  refine va_MetF (cc := M.2.1) (maxL := M.2.2.1) (ret := M.2.2.2) hp rfl ?_
  intro p e s m args below meth c s₁ B hml hv
  obtain ⟨rfl, hK, hP⟩ := hv
  have hx := B.exec
  have hb := B.bytes
  have hr := B.returns
  have hts := atoms_spec (ws := zws M) B.pre
  have hown : s.vm.findClass M.1.cls = some m.cls := findClass_of_methodNamed B.named
  have hlocks := B.notSynchronized
  have hin : meth.name = M.1.name := (name_of_methodNamed B.named B.method).1
  have hl := lv_entry (as.map (zv g)) (n := M.2.2.1) (by rw [lg_sl_map]; exact hla)
  rw [lg_entry_eq]
  generalize (lg_sl (as.map (zv g)) ++ List.replicate (M.2.2.1 - (lg_sl (as.map (zv g))).length) Slot.unset).toArray = ls at hl ⊢
  have hG := h p l e (headSpec (zws M) (zrm d n0 nE)).room s m (as.map (zv g)).toArray below meth c g (MQ below (zQc g nE Q) (as.map (zv g)).toArray s (nE - n0) (zs nE - zs n0) (zA g))
    ⟨hx, hb, hml, hown, fun w hw => hts w (List.mem_cons_of_mem _ hw), hK, ⟨Nat.le_refl _, Nat.le_refl _, Nat.le_refl _, Nat.le_refl _, hn⟩, fun q => hin.trans q, by rw [hP.1]; omega⟩ ?_ s.heap [] ls hP va_S.rf (by rw [← lv_args_map]; exact hl)
  · rw [Nat.sub_self, Nat.sub_self] at hG
    exact hG
  · intro r w' H locs ls pc hP' hS hQ hR
    match r, hR with
    | none, hR => exact W.vret hx hb (hr.trans hR.1) (fun t ht _ => ⟨⟨none, w', rfl, hQ, by rw [ht]; exact hP'⟩, hS.F ht⟩) hS.2.2 hR.2
    | some (.int x), hR =>
      obtain ⟨h1, ty, h2, h3⟩ := hR
      exact W.zret hx hb (hr.trans h2) h3 (fun t ht _ => ⟨⟨some (.int x), w', rfl, hQ, by rw [ht]; exact hP'⟩, hS.F ht⟩) hS.2.2 h1
    | some (.long x), hR => exact W.lret hx hb (hr.trans hR.2) (fun t ht _ => ⟨⟨some (.long x), w', rfl, hQ, by rw [ht]; exact hP'⟩, hS.F ht⟩) hS.2.2 hR.1
    | some (.ref a), hR =>
      obtain ⟨h1, C, h2⟩ := hR
      exact W.aret hx hb (hr.trans h2) (Or.inl ⟨C, rfl⟩) (Or.inr ⟨_, rfl⟩) (fun t ht _ => ⟨⟨some (.ref a), w', rfl, hQ, by rw [ht]; exact hP'⟩, hS.F ht⟩) hS.2.2 h1
theorem cp_goF {d : Nat} {M : zM} {as : List Value} {v : Vv} {Q : Option Value → Vv → Prop} (hla : (lg_sl as).length ≤ M.2.2.1) (hp : plainFor M.1 = true) (h : Gp d M 0 (lv_args 0 as) [] v Q) : Cp d M as v Q := call_of_goF (Nat.le_refl _) hp hla h

def sstr (x : Nat) : List Int32 :=
  if x = 100010 then [99, 108, 111, 99, 107]
  else if x = 100011 then [119, 104, 111]
  else if x = 100012 then [114, 111, 111, 109]
  else if x = 100013 then [111, 102, 102]
  else if x = 100014 then [100, 111, 110, 101]
  else if x = 100015 then [114, 111, 111, 109, 115]
  else if x = 100016 then [99, 97, 109, 101]
  else if x = 100017 then [97, 100, 100, 115]
  else if x = 100018 then [109, 105, 110, 100, 115]
  else if x = 100019 then [111, 114]
  else if x = 100020 then [97, 110, 100]
  else if x = 100021 then [110, 111, 116]
  else []
def slen (x : Nat) : Nat := (sstr x).length
def schr (x k : Nat) : Int32 := (sstr x).getD k 0
def isStr (x : Nat) : Prop := x ∈ [100010, 100011, 100012, 100013, 100014, 100015, 100016, 100017, 100018, 100019, 100020, 100021]
theorem isStr_k {x : Nat} (h : isStr x) : ∃ j, j < 12 ∧ x = 100010 + j := by
  have h3 : ∀ t ∈ [100010, 100011, 100012, 100013, 100014, 100015, 100016, 100017, 100018, 100019, 100020, 100021], t - 100010 < 12 ∧ t = 100010 + (t - 100010) := by decide +kernel
  exact ⟨x - 100010, h3 x h⟩
theorem sstr_k : ∀ j, j < 12 → sstr (100010 + j) = sByt.getD j [] := by decide +kernel
theorem slen_k : ∀ j, j < 12 → slen (100010 + j) = sLen.getD j 0 ∧ sLen.getD j 0 < 100 := by decide +kernel
theorem slen_sh : ∀ j, j < 12 → (Int32.ofNat (sLen.getD j 0)) >>> ((0 : Int32) &&& 31) = Int32.ofNat (sLen.getD j 0) := by decide +kernel
theorem schr_k : ∀ j, j < 12 → ∀ k, k < 6 → (((sByt.getD j []).getD k 0 &&& 255).toUInt32 % 65536).toInt32 = (sByt.getD j []).getD k 0 ∧ narrow .char (.int ((sByt.getD j []).getD k 0)) = .int ((sByt.getD j []).getD k 0) := by decide +kernel
theorem slen_6 : ∀ j, j < 12 → sLen.getD j 0 < 6 := by decide +kernel
section STRG
variable {d d' : Nat} {M M' : zM} {n0 nE n n' pc q k idx : Nat} {L : List (Nat × Value)} {S rest As : List Value} {w : Mm} {Q : Option Value → Mm → Prop}
theorem g_ldcS (j : Nat) (hd : zd M pc (.ldc (94 + 2 * j)) 2 q) (hM : M.1.cls = "PutOn$Reader") (hj : j < 12) (kk : Go d M n0 nE n q L (.ref (100010 + j) :: S) w Q) : Go d M n0 nE n pc L S w Q := by
  obtain ⟨hd, rfl⟩ := hd
  intro p l e R s m args below meth c g Z hC hE H locs ls hP hS hl
  exact va_ldcS hC.1 hC.2.1 (by rw [← hM]; exact hC.2.2.2.1) (hC.2.2.2.2.2.1.2.2.2.1 j hj) hd (kk p l e R s m args below meth c g Z hC hE H locs ls hP hS hl)
theorem g_strV {j : Nat} (hj : j < 12) (hM : M.1.cls = "java/lang/String") (hd : zd M pc (.getfield 9) 3 q) (kk : Go d M n0 nE n q L (.ref (100030 + j) :: S) w Q) : Go d M n0 nE n pc L (.ref (100010 + j) :: S) w Q := by
  obtain ⟨hd, rfl⟩ := hd
  intro p l e R s m args below meth c g Z hC hE H locs ls hP hS hl
  exact vk_getf (A := zA g) hC.1 hC.2.1 (hC.2.2.2.2.2.1.2.2.1.1 j hj).2.2.1 hS (own := "java/lang/String") (by rw [← hM]; exact hC.2.2.2.1) (hC.2.2.2.2.1 _ (zT_7 (i := 73) rfl rfl)) (fun x h => h) hd (kk p l e R s m args below meth c g Z hC hE H locs ls hP hS hl)
theorem g_strC {j : Nat} (hj : j < 12) (hM : M.1.cls = "java/lang/String") (hd : zd M pc (.getfield 15) 3 q) (kk : Go d M n0 nE n q L (.int 0 :: S) w Q) : Go d M n0 nE n pc L (.ref (100010 + j) :: S) w Q := by
  obtain ⟨hd, rfl⟩ := hd
  intro p l e R s m args below meth c g Z hC hE H locs ls hP hS hl
  exact vk_getf (A := zA g) hC.1 hC.2.1 (hC.2.2.2.2.2.1.2.2.1.1 j hj).2.1 hS (own := "java/lang/String") (by rw [← hM]; exact hC.2.2.2.1) (hC.2.2.2.2.1 _ (zT_7 (i := 74) rfl rfl)) (fun x h => h) hd (kk p l e R s m args below meth c g Z hC hE H locs ls hP hS hl)
theorem g_getsC (hM : M.1.cls = "java/lang/String") (hd : zd M pc (.getstatic 38) 3 q) (kk : Go d M n0 nE n q L (.int 1 :: S) w Q) : Go d M n0 nE n pc L S w Q := by
  obtain ⟨hd, rfl⟩ := hd
  intro p l e R s m args below meth c g Z hC hE H locs ls hP hS hl
  exact va_gets (A := zA g) hC.1 hC.2.1 hC.2.2.2.2.2.1.2.2.2.2.1 hS (own := "java/lang/String") (by rw [← hM]; exact hC.2.2.2.1) (hC.2.2.2.2.1 _ (zT_3 (i := 65) rfl rfl)) (fun x h => h) hd (kk p l e R s m args below meth c g Z hC hE H locs ls hP hS hl)
theorem g_getsF (hM : M.1.cls = "java/lang/String") (hd : zd M pc (.getstatic 1053) 3 q) (kk : ∀ x, x = .null ∨ x = .ref 100050 → Go d M n0 nE n q L (x :: S) w Q) : Go d M n0 nE n pc L S w Q := by
  obtain ⟨hd, rfl⟩ := hd
  intro p l e R s m args below meth c g Z hC hE H locs ls hP hS hl
  rcases hC.2.2.2.2.2.1.2.2.2.2.2 with h | h
  · exact va_gets (A := zA g) hC.1 hC.2.1 h hS (own := "java/lang/String") (by rw [← hM]; exact hC.2.2.2.1) (hC.2.2.2.2.1 _ (zT_3 (i := 81) rfl rfl)) (fun x h => h) hd (kk .null (Or.inl rfl) p l e R s m args below meth c g Z hC hE H locs ls hP hS hl)
  · exact va_gets (A := zA g) hC.1 hC.2.1 h hS (own := "java/lang/String") (by rw [← hM]; exact hC.2.2.2.1) (hC.2.2.2.2.1 _ (zT_3 (i := 81) rfl rfl)) (fun x h => h) hd (kk (.ref 100050) (Or.inr rfl) p l e R s m args below meth c g Z hC hE H locs ls hP hS hl)
theorem g_bytL {j : Nat} (hj : j < 12) (hd : zd M pc .arraylength 1 q) (kk : Go d M n0 nE n q L (.int (Int32.ofNat (sLen.getD j 0)) :: S) w Q) : Go d M n0 nE n pc L (.ref (100030 + j) :: S) w Q := by
  obtain ⟨hd, rfl⟩ := hd
  intro p l e R s m args below meth c g Z hC hE H locs ls hP hS hl
  obtain ⟨cell, h1, h2, h3, h4, h5, h6, h7⟩ := (hC.2.2.2.2.2.1.2.2.1.1 j hj).2.2.2
  exact W.alen (n := Int32.ofNat (sLen.getD j 0)) hC.1 hC.2.1 (by rw [hS.2.1 _ (Array.getElem?_eq_some_iff.mp h1).1 h7]; exact h1) h2 h5 rfl rfl hd (kk p l e R s m args below meth c g Z hC hE H locs ls hP hS hl)
theorem g_bytA {j : Nat} {x : Int32} (hj : j < 12) (hx : ib x (sLen.getD j 0)) (hd : zd M pc .baload 1 q) (kk : Go d M n0 nE n q L (.int ((sByt.getD j []).getD (ix x) 0) :: S) w Q) : Go d M n0 nE n pc L (.int x :: .ref (100030 + j) :: S) w Q := by
  obtain ⟨hd, rfl⟩ := hd
  intro p l e R s m args below meth c g Z hC hE H locs ls hP hS hl
  exact va_tb (A := zA g) hC.1 hC.2.1 (hC.2.2.2.2.2.1.2.2.1.1 j hj).2.2.2 hS (ib_vp hx) rfl hd (kk p l e R s m args below meth c g Z hC hE H locs ls hP hS hl)
theorem g_i2c {x : Int32} (hd : zd M pc (.i2c) 1 q) (kk : Go d M n0 nE n q L (.int (x.toUInt32 % 65536).toInt32 :: S) w Q) : Go d M n0 nE n pc L (.int x :: S) w Q := by
  obtain ⟨hd, rfl⟩ := hd
  intro p l e R s m args below meth c g Z hC hE H locs ls hP hS hl
  obtain ⟨hx, hb, -⟩ := id hC
  exact lv_i2c hx hb hd rfl (kk p l e R s m args below meth c g Z hC hE H locs ls hP hS hl)
theorem g_callStr {j : Nat} (hj : j < 12) (hd : zd M pc (.invokevirtual idx) 3 q) (hm : zm M' k) (hv : zlV M.1.cls idx M') (hrc : M'.1.cls = "java/lang/String") (hS0 : S = As.reverse ++ .ref (100010 + j) :: rest) (hk : As.length = k) (hcat : (rest.map fun v => v.category).sum ≤ 8) (hd' : d' + 1 ≤ d) (h0n : n0 ≤ n) (hn' : n' ≤ nE)
    (kk : Call d' M' n n' (.ref (100010 + j) :: As) w (fun r w' => Go d M n0 nE n' q L (r.toList ++ rest) w' Q)) : Go d M n0 nE n pc L S w Q := by
  obtain ⟨hd, rfl⟩ := hd
  subst hS0
  intro p l e R s m args below meth c g Z hC hE H locs ls hP hS hl
  obtain ⟨hnn, hM⟩ := kk
  have hC0 := hC
  obtain ⟨hx, hbd, hml, hown, hts, ⟨hK, hX⟩, hR, -, hbase⟩ := hC
  obtain ⟨cellV, g1, g2, g3⟩ := vk_recv hX.2.1 hj hS
  obtain ⟨hm1, hm2, hm3, hm4, hm5⟩ := hm
  refine z_back (rest := rest) (av := (Value.ref (ad g (100010 + j)) :: As.map (zv g)).toArray) hC0 hE hS hl h0n hnn ?_
  rw [z_map_stack]
  refine va_runV (As := As.map (zv g)) (b := ad g (100010 + j)) ⟨hx, hbd, hml, hown, hts⟩ (hM l g) (C := M'.1.cls) (bytes := M'.2.1) (maxL := M'.2.2.1) (ret := M'.2.2.2) (n := k)
    ⟨⟨rfl, rfl, (z_room hR hd' hm3).1, (z_room hR hd' hm3).2, pay_in hts (zws_good ⟨hm1, hm2, hm3, hm4, hm5⟩), List.mem_cons_self, hts _ hm2, hts _ hm1, hm4, fun sig h => by rw [h] at hm5; exact (Option.some.inj hm5).symm, hts _ hv.1⟩, hts _ hv.2.1, hts _ hv.2.2⟩
    ⟨zPc_blind g n _ w, ⟨cellV, g1, g2, by rw [hrc]; exact g3⟩, fun U hU hW => ⟨rfl, ⟨hK.warm hW, by rw [hU]; exact (hX.kept fun a h1 h2 => hS.2.1 a h1 h2).warm hW⟩, by rw [hU]; exact hP⟩⟩
    rfl (by rw [List.length_map]; exact hk) hl.1 rfl (lv_room (by rw [z_cats]; exact hcat)) hd (z_fit hR h0n hnn hn')
end STRG
def M_JS_length : zM := (⟨"java/lang/String", "length", "()I"⟩, prog_15_method_54_code, 1, (some FieldType.int))
theorem zm_JS_length : zm M_JS_length 0 := ⟨zT_1 (i := 14) rfl rfl, zT_3 (i := 60) rfl rfl, by decide, by decide, by decide +kernel⟩
def M_JS_coder : zM := (⟨"java/lang/String", "coder", "()B"⟩, prog_15_method_152_code, 1, (some FieldType.byte))
theorem zm_JS_coder : zm M_JS_coder 0 := ⟨zT_1 (i := 14) rfl rfl, zT_3 (i := 64) rfl rfl, by decide, by decide, by decide +kernel⟩
def M_JS_charAt : zM := (⟨"java/lang/String", "charAt", "(I)C"⟩, prog_15_method_56_code, 2, (some FieldType.char))
theorem zm_JS_charAt : zm M_JS_charAt 1 := ⟨zT_1 (i := 14) rfl rfl, zT_3 (i := 70) rfl rfl, by decide, by decide, by decide +kernel⟩
def M_JS_isLatin : zM := (⟨"java/lang/String", "isLatin1", "()Z"⟩, prog_15_method_154_code, 1, (some FieldType.boolean))
theorem zm_JS_isLatin : zm M_JS_isLatin 0 := ⟨zT_1 (i := 14) rfl rfl, zT_3 (i := 74) rfl rfl, by decide, by decide, by decide +kernel⟩
def M_JL_charAt : zM := (⟨"java/lang/StringLatin1", "charAt", "([BI)C"⟩, prog_16_method_2_code, 2, (some FieldType.char))
theorem zm_JL_charAt : zm M_JL_charAt 2 := ⟨zT_1 (i := 15) rfl rfl, zT_3 (i := 77) rfl rfl, by decide, by decide, by decide +kernel⟩
def M_JS_check : zM := (⟨"java/lang/String", "checkIndex", "(II)V"⟩, prog_15_method_155_code, 2, none)
theorem zm_JS_check : zm M_JS_check 2 := ⟨zT_1 (i := 14) rfl rfl, zT_3 (i := 80) rfl rfl, by decide, by decide, by decide +kernel⟩
def M_JP_check : zM := (⟨"jdk/internal/util/Preconditions", "checkIndex", "(IILjava/util/function/BiFunction;)I"⟩, prog_19_method_11_code, 3, (some FieldType.int))
theorem zm_JP_check : zm M_JP_check 3 := ⟨zT_1 (i := 16) rfl rfl, zT_3 (i := 85) rfl rfl, by decide, by decide, by decide +kernel⟩
section STRM
variable {v : Vv}
theorem s_JP_check {x y : Int32} {z : Value} {Q : Int32 → Vv → Prop} (hxy : 0 ≤ x.toInt ∧ x.toInt < y.toInt) (hz : z = .null ∨ z = .ref 100050) (h : Q x v) : Cp 0 M_JP_check [.int x, .int y, z] v (QI Q) := by
  have hcz : z.category = 1 := by rcases hz with rfl | rfl <;> rfl
  refine cp_goF (by rcases hz with rfl | rfl <;> exact Nat.le_of_ble_eq_true rfl) (by decide +kernel) ?_
  show Gp 0 M_JP_check 0 [(0, .int x), (1, .int y), (2, z)] [] v (QI Q)
  refine g_iload_n (k0 := 0) (q := 1) 0 (zd_of (by decide +kernel)) rfl rfl ?_
  refine g_if_lt (off := 8) (tgt := 9) (q := 4) (zd_of (by decide +kernel)) rfl (fun hh => ?_) (fun _ => ?_)
  · have := Int32.lt_iff_toInt_lt.mp hh
    rw [Int32.toInt_zero] at this
    omega
  refine g_iload_n (k0 := 0) (q := 5) 0 (zd_of (by decide +kernel)) rfl rfl ?_
  refine g_iload_n (k0 := 1) (q := 6) 1 (zd_of (by decide +kernel)) rfl rfl ?_
  refine g_icmp_lt (off := 10) (tgt := 16) (q := 9) (zd_of (by decide +kernel)) rfl (fun _ => ?_) (fun hh => ?_)
  · refine g_iload_n (k0 := 0) (q := 17) 0 (zd_of (by decide +kernel)) rfl rfl ?_
    exact p_retI (by decide +kernel) rfl h
  · exact absurd (Int32.lt_iff_toInt_lt.mpr hxy.2) hh
theorem s_JS_check {x y : Int32} {Q : Vv → Prop} (hxy : 0 ≤ x.toInt ∧ x.toInt < y.toInt) (h : Q v) : Cp 1 M_JS_check [.int x, .int y] v (QV Q) := by
  refine cp_goF (Nat.le_of_ble_eq_true rfl) (by decide +kernel) ?_
  show Gp 1 M_JS_check 0 [(0, .int x), (1, .int y)] [] v (QV Q)
  refine g_iload_n (k0 := 0) (q := 1) 0 (zd_of (by decide +kernel)) rfl rfl ?_
  refine g_iload_n (k0 := 1) (q := 2) 1 (zd_of (by decide +kernel)) rfl rfl ?_
  refine g_getsF (q := 5) rfl (zd_of (by decide +kernel)) fun z hz => ?_
  refine p_callSI (q := 8) (d' := 0) (idx := 1059) (As := [.int x, .int y, z]) (rest := []) (zd_of (by decide +kernel)) zm_JP_check ⟨zT_3 (i := 83) rfl rfl, zT_3 (i := 84) rfl rfl⟩ rfl rfl (Nat.zero_le _) (Nat.le_refl _) ?_
  refine s_JP_check hxy hz ?_
  refine g_pop (q := 9) (zd_of (by decide +kernel)) rfl ?_
  exact p_retV (by decide +kernel) rfl h
theorem s_JL_charAt {j : Nat} {x : Int32} {Q : Int32 → Vv → Prop} (hj : j < 12) (hx : ib x (sLen.getD j 0)) (h : Q (schr (100010 + j) (ix x)) v) : Cp 2 M_JL_charAt [.ref (100030 + j), .int x] v (QI Q) := by
  have hl := slen_k j hj
  have h6 := slen_6 j hj
  refine cp_goF (Nat.le_of_ble_eq_true rfl) (by decide +kernel) ?_
  show Gp 2 M_JL_charAt 0 [(0, .ref (100030 + j)), (1, .int x)] [] v (QI Q)
  refine g_iload_n (k0 := 1) (q := 1) 1 (zd_of (by decide +kernel)) rfl rfl ?_
  refine g_aload_n (k0 := 0) (q := 2) 0 (zd_of (by decide +kernel)) rfl rfl ?_
  refine g_bytL (q := 3) hj (zd_of (by decide +kernel)) ?_
  refine p_callSV (q := 6) (d' := 1) (idx := 9) (As := [.int x, .int (Int32.ofNat (sLen.getD j 0))]) (rest := []) (zd_of (by decide +kernel)) zm_JS_check ⟨zT_3 (i := 78) rfl rfl, zT_3 (i := 79) rfl rfl⟩ rfl rfl (Nat.zero_le _) (Nat.le_refl _) ?_
  refine s_JS_check ⟨hx.1, ?_⟩ ?_
  · have e : (Int32.ofNat (sLen.getD j 0)).toInt = (sLen.getD j 0 : Int) := Int32.toInt_ofNat_of_lt (by omega)
    rw [e]; exact hx.2
  refine g_aload_n (k0 := 0) (q := 7) 0 (zd_of (by decide +kernel)) rfl rfl ?_
  refine g_iload_n (k0 := 1) (q := 8) 1 (zd_of (by decide +kernel)) rfl rfl ?_
  refine g_bytA (q := 9) hj hx (zd_of (by decide +kernel)) ?_
  refine g_sipush (a := 255) (255 : Int32) (q := 12) (zd_of (by decide +kernel)) (by decide) ?_
  refine g_iand (q := 13) (zd_of (by decide +kernel)) ?_
  refine g_i2c (q := 14) (zd_of (by decide +kernel)) ?_
  have hi : ix x < 6 := by have := ib_lt hx; omega
  obtain ⟨c1, c2⟩ := schr_k j hj (ix x) hi
  have e5 : schr (100010 + j) (ix x) = (sByt.getD j []).getD (ix x) 0 := by
    unfold schr
    rw [sstr_k j hj]
  rw [c1]
  rw [e5] at h
  exact p_retC (by decide +kernel) rfl c2 h
theorem s_JS_coder {j : Nat} {Q : Int32 → Vv → Prop} (hj : j < 12) (h : Q 0 v) : Cp 0 M_JS_coder [.ref (100010 + j)] v (QI Q) := by
  refine cp_goF (Nat.le_of_ble_eq_true rfl) (by decide +kernel) ?_
  show Gp 0 M_JS_coder 0 [(0, .ref (100010 + j))] [] v (QI Q)
  refine g_getsC (q := 3) rfl (zd_of (by decide +kernel)) ?_
  refine g_if_eq (off := 10) (tgt := 13) (q := 6) (zd_of (by decide +kernel)) rfl (fun hh => absurd hh (by decide)) (fun _ => ?_)
  refine g_aload_n (k0 := 0) (q := 7) 0 (zd_of (by decide +kernel)) rfl rfl ?_
  refine g_strC (q := 10) hj rfl (zd_of (by decide +kernel)) ?_
  refine g_goto (off := 4) (tgt := 14) (q := 13) (zd_of (by decide +kernel)) rfl ?_
  exact g_ret (some (.int 0)) ⟨by decide +kernel, .byte, rfl, rfl⟩ rfl rfl ⟨v, rfl, 0, rfl, h⟩
theorem s_JS_isLatin {j : Nat} {Q : Int32 → Vv → Prop} (hj : j < 12) (h : Q 1 v) : Cp 0 M_JS_isLatin [.ref (100010 + j)] v (QI Q) := by
  refine cp_goF (Nat.le_of_ble_eq_true rfl) (by decide +kernel) ?_
  show Gp 0 M_JS_isLatin 0 [(0, .ref (100010 + j))] [] v (QI Q)
  refine g_getsC (q := 3) rfl (zd_of (by decide +kernel)) ?_
  refine g_if_eq (off := 14) (tgt := 17) (q := 6) (zd_of (by decide +kernel)) rfl (fun hh => absurd hh (by decide)) (fun _ => ?_)
  refine g_aload_n (k0 := 0) (q := 7) 0 (zd_of (by decide +kernel)) rfl rfl ?_
  refine g_strC (q := 10) hj rfl (zd_of (by decide +kernel)) ?_
  refine g_if_ne (off := 7) (tgt := 17) (q := 13) (zd_of (by decide +kernel)) rfl (fun hh => absurd rfl hh) (fun _ => ?_)
  refine g_iconst (a := 1) (1 : Int32) (q := 14) (zd_of (by decide +kernel)) (by decide) ?_
  refine g_goto (off := 4) (tgt := 18) (q := 17) (zd_of (by decide +kernel)) rfl ?_
  exact g_ret (some (.int 1)) ⟨by decide +kernel, .boolean, rfl, rfl⟩ rfl rfl ⟨v, rfl, 1, rfl, h⟩
theorem s_JS_length {j : Nat} {Q : Int32 → Vv → Prop} (hj : j < 12) (h : Q (Int32.ofNat (sLen.getD j 0)) v) : Cp 1 M_JS_length [.ref (100010 + j)] v (QI Q) := by
  refine cp_goF (Nat.le_of_ble_eq_true rfl) (by decide +kernel) ?_
  show Gp 1 M_JS_length 0 [(0, .ref (100010 + j))] [] v (QI Q)
  refine g_aload_n (k0 := 0) (q := 1) 0 (zd_of (by decide +kernel)) rfl rfl ?_
  refine g_strV (q := 4) hj rfl (zd_of (by decide +kernel)) ?_
  refine g_bytL (q := 5) hj (zd_of (by decide +kernel)) ?_
  refine g_aload_n (k0 := 0) (q := 6) 0 (zd_of (by decide +kernel)) rfl rfl ?_
  refine g_callStr (q := 9) (d' := 0) (idx := 335) (As := []) (rest := [.int (Int32.ofNat (sLen.getD j 0))]) hj (zd_of (by decide +kernel)) zm_JS_coder ⟨zT_3 (i := 61) rfl rfl, zT_3 (i := 62) rfl rfl, zT_3 (i := 63) rfl rfl⟩ rfl rfl rfl (Nat.le_of_ble_eq_true rfl) (Nat.le_refl _) (Nat.le_refl _) (Nat.le_refl _) ?_
  refine call_mono (s_JS_coder (v := v) (Q := fun r v' => r = 0 ∧ v' = v) hj ⟨rfl, rfl⟩) fun r w ⟨v', hv, x, hr, h0, h1⟩ => ?_
  subst hv; subst hr; subst h0; subst h1
  refine g_ishr (q := 10) (zd_of (by decide +kernel)) ?_
  rw [slen_sh j hj]
  exact p_retI (by decide +kernel) rfl h
theorem s_JS_charAt {j : Nat} {x : Int32} {Q : Int32 → Vv → Prop} (hj : j < 12) (hx : ib x (sLen.getD j 0)) (h : Q (schr (100010 + j) (ix x)) v) : Cp 3 M_JS_charAt [.ref (100010 + j), .int x] v (QI Q) := by
  have h6 := slen_6 j hj
  refine cp_goF (Nat.le_of_ble_eq_true rfl) (by decide +kernel) ?_
  show Gp 3 M_JS_charAt 0 [(0, .ref (100010 + j)), (1, .int x)] [] v (QI Q)
  refine g_aload_n (k0 := 0) (q := 1) 0 (zd_of (by decide +kernel)) rfl rfl ?_
  refine g_callStr (q := 4) (d' := 0) (idx := 492) (As := []) (rest := []) hj (zd_of (by decide +kernel)) zm_JS_isLatin ⟨zT_3 (i := 71) rfl rfl, zT_3 (i := 72) rfl rfl, zT_3 (i := 73) rfl rfl⟩ rfl rfl rfl (Nat.zero_le _) (by decide) (Nat.le_refl _) (Nat.le_refl _) ?_
  refine call_mono (s_JS_isLatin (v := v) (Q := fun r v' => r = 1 ∧ v' = v) hj ⟨rfl, rfl⟩) fun r w ⟨v', hv, y, hr, h0, h1⟩ => ?_
  subst hv; subst hr; subst h0; subst h1
  refine g_if_eq (off := 12) (tgt := 16) (q := 7) (zd_of (by decide +kernel)) rfl (fun hh => absurd hh (by decide)) (fun _ => ?_)
  refine g_aload_n (k0 := 0) (q := 8) 0 (zd_of (by decide +kernel)) rfl rfl ?_
  refine g_strV (q := 11) hj rfl (zd_of (by decide +kernel)) ?_
  refine g_iload_n (k0 := 1) (q := 12) 1 (zd_of (by decide +kernel)) rfl rfl ?_
  refine p_callSI (q := 15) (d' := 2) (idx := 495) (As := [.ref (100030 + j), .int x]) (rest := []) (zd_of (by decide +kernel)) zm_JL_charAt ⟨zT_3 (i := 75) rfl rfl, zT_3 (i := 76) rfl rfl⟩ rfl rfl (Nat.zero_le _) (Nat.le_refl _) ?_
  have e5 : schr (100010 + j) (ix x) = (sByt.getD j []).getD (ix x) 0 := by
    unfold schr
    rw [sstr_k j hj]
  refine s_JL_charAt hj hx ?_
  exact p_retC (by decide +kernel) rfl (by rw [e5]; exact (schr_k j hj (ix x) (by have := ib_lt hx; omega)).2) h
end STRM
section STR
variable {d : Nat} {M : zM} {pc q idx : Nat} {L : List (Nat × Value)} {S : List Value} {v : Vv} {Q : Option Value → Vv → Prop}
theorem p_ldcS (j : Nat) (hd : zd M pc (.ldc (94 + 2 * j)) 2 q) (hM : M.1.cls = "PutOn$Reader" ∧ j < 12) (kk : Gp d M q L (.ref (100010 + j) :: S) v Q) : Gp d M pc L S v Q := g_ldcS j hd hM.1 hM.2 kk
theorem p_strlen {x : Nat} (hd : zd M pc (.invokevirtual 85) 3 q) (hx : isStr x) (hM : M.1.cls = "PutOn$Reader" ∧ 10 ≤ d) (kk : Gp d M q L (.int (Int32.ofNat (slen x)) :: S) v Q) (hcat : (S.map fun v => v.category).sum ≤ 8 := by exact Nat.le_of_ble_eq_true rfl) : Gp d M pc L (.ref x :: S) v Q := by
  obtain ⟨j, hj, rfl⟩ := isStr_k hx
  refine g_callStr (d' := 1) (As := []) (rest := S) hj hd zm_JS_length (by rw [hM.1]; exact ⟨zT_3 (i := 57) rfl rfl, zT_3 (i := 58) rfl rfl, zT_3 (i := 59) rfl rfl⟩) rfl rfl rfl hcat (by omega) (Nat.le_refl _) (Nat.le_refl _) ?_
  refine call_mono (s_JS_length (v := v) (Q := fun r v' => r = Int32.ofNat (slen (100010 + j)) ∧ v' = v) hj ⟨by rw [(slen_k j hj).1], rfl⟩) fun r w ⟨v', hv, y, hr, h0, h1⟩ => ?_
  subst hv; subst hr; subst h0; subst h1
  exact kk
theorem p_charAt {x : Nat} {i : Int32} (hd : zd M pc (.invokevirtual 90) 3 q) (hx : isStr x) (hi : ib i (slen x)) (hM : M.1.cls = "PutOn$Reader" ∧ 10 ≤ d) (kk : Gp d M q L (.int (schr x (ix i)) :: S) v Q) (hcat : (S.map fun v => v.category).sum ≤ 8 := by exact Nat.le_of_ble_eq_true rfl) : Gp d M pc L (.int i :: .ref x :: S) v Q := by
  obtain ⟨j, hj, rfl⟩ := isStr_k hx
  rw [(slen_k j hj).1] at hi
  refine g_callStr (d' := 3) (As := [.int i]) (rest := S) hj hd zm_JS_charAt (by rw [hM.1]; exact ⟨zT_3 (i := 67) rfl rfl, zT_3 (i := 68) rfl rfl, zT_3 (i := 69) rfl rfl⟩) rfl rfl rfl hcat (by omega) (Nat.le_refl _) (Nat.le_refl _) ?_
  refine call_mono (s_JS_charAt (v := v) (Q := fun r v' => r = schr (100010 + j) (ix i) ∧ v' = v) hj hi ⟨rfl, rfl⟩) fun r w ⟨v', hv, y, hr, h0, h1⟩ => ?_
  subst hv; subst hr; subst h1
  rw [h0]
  exact kk
end STR
