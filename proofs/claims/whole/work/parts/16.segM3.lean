-- segments: the reference
set_option maxHeartbeats 1000000 in
theorem s_M_not0  {v : Vv} {Q : Int32 → Vv → Prop} (h : m_M_isWord (110 : Int32) (111 : Int32) (116 : Int32) (0 : Int32) (0 : Int32) (0 : Int32) (0 : Int32) (0 : Int32) (v) (fun x1 v2 => if x1 = true then (m_M_opens  (v2) (fun x4 v5 => if x4 = true then (m_M_not1  (v5) (fun x7 v8 => Q (bI ((if x7 = (0 : Int32) then true else false))) (sI (v8) 154 28 ((v8).1 154 28 - (1 : Int32))))) else (Q ((0 : Int32)) (v5)))) else (m_M_added0  (v2) (fun x10 v11 => m_M_isSign (60 : Int32) (v11) (fun x12 v13 => if x12 = true then (k_M_not0_77 (x10) (v13) Q) else (m_M_isSign (61 : Int32) (v13) (fun x15 v16 => if x15 = true then (k_M_not0_77 (x10) (v16) Q) else (Q (x10) (v16))))))))) : m_M_not0  v Q := by
  refine cp_go (Nat.le_of_ble_eq_true rfl) (by decide +kernel) ?_
  show Gp 38 M_M_not0 0 [(0, .ref (154))] [] v (QI Q)
  refine g_aload_n 0 e_M_not0_0 rfl rfl ?_
  refine g_bipush (110 : Int32) e_M_not0_1 (by decide) ?_
  refine g_bipush (111 : Int32) e_M_not0_3 (by decide) ?_
  refine g_bipush (116 : Int32) e_M_not0_5 (by decide) ?_
  refine g_iconst (0 : Int32) e_M_not0_7 (by decide) ?_
  refine g_iconst (0 : Int32) e_M_not0_8 (by decide) ?_
  refine g_iconst (0 : Int32) e_M_not0_9 (by decide) ?_
  refine g_iconst (0 : Int32) e_M_not0_10 (by decide) ?_
  refine g_iconst (0 : Int32) e_M_not0_11 (by decide) ?_
  refine p_callVZ (d' := 3) (ci := 10) (r := (RX10, TX10, 49)) (As := [.int ((110 : Int32)), .int ((111 : Int32)), .int ((116 : Int32)), .int ((0 : Int32)), .int ((0 : Int32)), .int ((0 : Int32)), .int ((0 : Int32)), .int ((0 : Int32))]) (rest := []) e_M_not0_12 zm_M_isWord lV_M_188 sh_154 rfl rfl rfl rfl (Nat.le_of_ble_eq_true rfl) (by decide) ?_
  refine cp_mono h (fun _ v2 ⟨x1, e1, h⟩ => ⟨x1, e1, ?_⟩)
  refine p_ifz_eq (tgt := 52) e_M_not0_15 rfl (fun c3 => ?_) (fun c3 => ?_)
  · replace h := iteF h c3
    refine g_aload_n 0 e_M_not0_52 rfl rfl ?_
    refine p_callVI (d' := 37) (ci := 10) (r := (RX10, TX10, 49)) (As := []) (rest := []) e_M_not0_53 zm_M_added0 lV_M_321 sh_154 rfl rfl rfl rfl (Nat.le_of_ble_eq_true rfl) (by decide) ?_
    refine cp_mono h (fun _ v11 ⟨x10, e1, h⟩ => ⟨x10, e1, ?_⟩)
    refine g_istore_n (L' := [(1, .int (x10)), (0, .ref (154))]) e_M_not0_56 rfl (by decide) rfl ?_
    refine g_aload_n 1 e_M_not0_57 rfl rfl ?_
    refine g_bipush (60 : Int32) e_M_not0_58 (by decide) ?_
    refine p_callVZ (d' := 1) (ci := 10) (r := (RX10, TX10, 49)) (As := [.int ((60 : Int32))]) (rest := []) e_M_not0_60 zm_M_isSign lV_M_210 sh_154 rfl rfl rfl rfl (Nat.le_of_ble_eq_true rfl) (by decide) ?_
    refine cp_mono h (fun _ v13 ⟨x12, e1, h⟩ => ⟨x12, e1, ?_⟩)
    refine p_ifz_ne (tgt := 77) e_M_not0_63 rfl (fun c14 => ?_) (fun c14 => ?_)
    · replace h := iteT h c14
      exact g_sub [1, 0] rfl h
    · replace h := iteF h c14
      refine g_aload_n 1 e_M_not0_66 rfl rfl ?_
      refine g_bipush (61 : Int32) e_M_not0_67 (by decide) ?_
      refine p_callVZ (d' := 1) (ci := 10) (r := (RX10, TX10, 49)) (As := [.int ((61 : Int32))]) (rest := []) e_M_not0_69 zm_M_isSign lV_M_210 sh_154 rfl rfl rfl rfl (Nat.le_of_ble_eq_true rfl) (by decide) ?_
      refine cp_mono h (fun _ v16 ⟨x15, e1, h⟩ => ⟨x15, e1, ?_⟩)
      refine p_ifz_ne (tgt := 77) e_M_not0_72 rfl (fun c17 => ?_) (fun c17 => ?_)
      · replace h := iteT h c17
        exact g_sub [1, 0] rfl h
      · replace h := iteF h c17
        refine g_iload_n 0 e_M_not0_75 rfl rfl ?_
        exact p_retI e_M_not0_76.1 rfl h
  · replace h := iteT h c3
    refine g_aload_n 0 e_M_not0_18 rfl rfl ?_
    refine p_callVZ (d' := 3) (ci := 10) (r := (RX10, TX10, 49)) (As := []) (rest := []) e_M_not0_19 zm_M_opens lV_M_213 sh_154 rfl rfl rfl rfl (Nat.le_of_ble_eq_true rfl) (by decide) ?_
    refine cp_mono h (fun _ v5 ⟨x4, e1, h⟩ => ⟨x4, e1, ?_⟩)
    refine p_ifz_ne (tgt := 27) e_M_not0_22 rfl (fun c6 => ?_) (fun c6 => ?_)
    · replace h := iteT h c6
      refine g_aload_n 0 e_M_not0_27 rfl rfl ?_
      refine p_callVI (d' := 32) (ci := 10) (r := (RX10, TX10, 49)) (As := []) (rest := []) e_M_not0_28 zm_M_not1 lV_M_306 sh_154 rfl rfl rfl rfl (Nat.le_of_ble_eq_true rfl) (by decide) ?_
      refine cp_mono h (fun _ v8 ⟨x7, e1, h⟩ => ⟨x7, e1, ?_⟩)
      refine g_istore_n (L' := [(1, .int (x7)), (0, .ref (154))]) e_M_not0_31 rfl (by decide) rfl ?_
      refine g_aload_n 1 e_M_not0_32 rfl rfl ?_
      refine g_dup e_M_not0_33 rfl ?_
      refine p_getI e_M_not0_34 sh_154 fl_M_179 rfl ?_
      refine g_iconst (1 : Int32) e_M_not0_37 (by decide) ?_
      refine g_isub e_M_not0_38 ?_
      refine p_putI e_M_not0_39 sh_154 fp_M_179 rfl rfl rfl ?_
      refine g_iload_n 0 e_M_not0_42 rfl rfl ?_
      have hj : ∀ m0 : Bool, m0 = (if x7 = (0 : Int32) then true else false) → Gp 38 M_M_not0 51 [(0, .ref (154)), (1, .int (x7))] [.int (bI (m0))] (sI (v8) 154 28 ((v8).1 154 28 - (1 : Int32))) (QI Q) := by
        intro m0 hm0
        subst hm0
        exact p_retI e_M_not0_51.1 rfl h
      refine g_if_ne (tgt := 50) e_M_not0_43 rfl (fun c9 => ?_) (fun c9 => ?_)
      · refine g_iconst (0 : Int32) e_M_not0_50 (by decide) ?_
        refine g_sub [1, 0] rfl ?_
        exact hj (false) (by simp only [if_neg c9])
      · refine g_iconst (1 : Int32) e_M_not0_46 (by decide) ?_
        refine g_goto (tgt := 51) e_M_not0_47 rfl ?_
        refine g_sub [1, 0] rfl ?_
        exact hj (true) (by simp only [if_pos c9])
    · replace h := iteF h c6
      refine g_iconst (0 : Int32) e_M_not0_25 (by decide) ?_
      exact p_retI e_M_not0_26.1 rfl h
set_option maxHeartbeats 1000000 in
theorem s_M_not0_77 {l1 : Int32} {v : Vv} {Q : Int32 → Vv → Prop} (h : if (v).2.1 154 27 = (60 : Int64) then (k_M_not0_93 (l1) ((1 : Int32)) (v) Q) else (k_M_not0_93 (l1) ((0 : Int32)) (v) Q)) : k_M_not0_77 l1 v Q := by
  show Gp 38 M_M_not0 77 [(0, .ref (154)), (1, .int (l1))] [] v (QI Q)
  refine g_aload_n 0 e_M_not0_77 rfl rfl ?_
  refine p_getJ e_M_not0_78 sh_154 fl_M_162 rfl ?_
  refine g_ldc2 (v := (60 : Int64)) (hd := e_M_not0_81) cl_M_232 ?_
  refine g_l_ne (tgt := 92) e_M_not0_84 e_M_not0_85 rfl (fun c18 => ?_) (fun c18 => ?_)
  · replace h := iteF h c18
    refine g_iconst (0 : Int32) e_M_not0_92 (by decide) ?_
    exact g_sub [0, 1] rfl h
  · replace h := iteT h c18
    refine g_iconst (1 : Int32) e_M_not0_88 (by decide) ?_
    refine g_goto (tgt := 93) e_M_not0_89 rfl ?_
    exact g_sub [0, 1] rfl h
set_option maxHeartbeats 1000000 in
theorem s_M_not0_93 {l1 : Int32} {t0 : Int32} {v : Vv} {Q : Int32 → Vv → Prop} (h : m_M_next  (v) (fun v20 => m_M_added0  (v20) (fun x21 v22 => Q (bI ((if t0 = (0 : Int32) then (if l1 = x21 then true else false) else (if l1 < x21 then true else false)))) (v22)))) : k_M_not0_93 l1 t0 v Q := by
  show Gp 38 M_M_not0 93 [(0, .ref (154)), (1, .int (l1))] [.int (t0)] v (QI Q)
  refine g_istore_n (L' := [(2, .int (t0)), (0, .ref (154)), (1, .int (l1))]) e_M_not0_93 rfl (by decide) rfl ?_
  refine g_aload_n 1 e_M_not0_94 rfl rfl ?_
  refine p_callVV (d' := 2) (ci := 10) (r := (RX10, TX10, 49)) (As := []) (rest := []) e_M_not0_95 zm_M_next lV_M_185 sh_154 rfl rfl rfl rfl (Nat.le_of_ble_eq_true rfl) (by decide) ?_
  refine cp_mono h (fun _ v20 ⟨e1, h⟩ => ⟨e1, ?_⟩)
  refine g_aload_n 1 e_M_not0_98 rfl rfl ?_
  refine p_callVI (d' := 37) (ci := 10) (r := (RX10, TX10, 49)) (As := []) (rest := []) e_M_not0_99 zm_M_added0 lV_M_321 sh_154 rfl rfl rfl rfl (Nat.le_of_ble_eq_true rfl) (by decide) ?_
  refine cp_mono h (fun _ v22 ⟨x21, e1, h⟩ => ⟨x21, e1, ?_⟩)
  refine g_istore_n (L' := [(3, .int (x21)), (2, .int (t0)), (0, .ref (154)), (1, .int (l1))]) e_M_not0_102 rfl (by decide) rfl ?_
  refine g_iload_n 1 e_M_not0_103 rfl rfl ?_
  have hj : ∀ m0 : Bool, m0 = (if t0 = (0 : Int32) then (if l1 = x21 then true else false) else (if l1 < x21 then true else false)) → Gp 38 M_M_not0 125 [(0, .ref (154)), (1, .int (l1)), (2, .int (t0)), (3, .int (x21))] [.int (bI (m0))] (v22) (QI Q) := by
    intro m0 hm0
    subst hm0
    exact p_retI e_M_not0_125.1 rfl h
  refine g_if_eq (tgt := 115) e_M_not0_104 rfl (fun c23 => ?_) (fun c23 => ?_)
  · refine g_iload_n 3 e_M_not0_115 rfl rfl ?_
    refine g_iload_n 0 e_M_not0_116 rfl rfl ?_
    refine g_icmp_ne (tgt := 124) e_M_not0_117 rfl (fun c24 => ?_) (fun c24 => ?_)
    · refine g_iconst (0 : Int32) e_M_not0_124 (by decide) ?_
      refine g_sub [2, 3, 1, 0] rfl ?_
      exact hj (false) (by simp only [if_pos c23, if_neg c24])
    · refine g_iconst (1 : Int32) e_M_not0_120 (by decide) ?_
      refine g_goto (tgt := 125) e_M_not0_121 rfl ?_
      refine g_sub [2, 3, 1, 0] rfl ?_
      exact hj (true) (by simp only [if_pos c23, if_pos c24])
  · refine g_iload_n 3 e_M_not0_107 rfl rfl ?_
    refine g_iload_n 0 e_M_not0_108 rfl rfl ?_
    refine g_icmp_ge (tgt := 124) e_M_not0_109 rfl (fun c25 => ?_) (fun c25 => ?_)
    · refine g_iconst (0 : Int32) e_M_not0_124 (by decide) ?_
      refine g_sub [2, 3, 1, 0] rfl ?_
      exact hj (false) (by simp only [if_neg c23, if_neg c25])
    · refine g_goto (tgt := 120) e_M_not0_112 rfl ?_
      refine g_iconst (1 : Int32) e_M_not0_120 (by decide) ?_
      refine g_goto (tgt := 125) e_M_not0_121 rfl ?_
      refine g_sub [2, 3, 1, 0] rfl ?_
      exact hj (true) (by simp only [if_neg c23, if_pos c25])
set_option maxHeartbeats 1000000 in
theorem s_M_both0  {v : Vv} {Q : Int32 → Vv → Prop} (h : m_M_not0  (v) (fun x1 v2 => k_M_both0_5 (x1) (v2) Q)) : m_M_both0  v Q := by
  refine cp_go (Nat.le_of_ble_eq_true rfl) (by decide +kernel) ?_
  show Gp 39 M_M_both0 0 [(0, .ref (154))] [] v (QI Q)
  refine g_aload_n 0 e_M_both0_0 rfl rfl ?_
  refine p_callVI (d' := 38) (ci := 10) (r := (RX10, TX10, 49)) (As := []) (rest := []) e_M_both0_1 zm_M_not0 lV_M_324 sh_154 rfl rfl rfl rfl (Nat.le_of_ble_eq_true rfl) (by decide) ?_
  refine cp_mono h (fun _ v2 ⟨x1, e1, h⟩ => ⟨x1, e1, ?_⟩)
  refine g_istore_n (L' := [(1, .int (x1)), (0, .ref (154))]) e_M_both0_4 rfl (by decide) rfl ?_
  exact g_sub [1, 0] rfl h
set_option maxHeartbeats 1000000 in
theorem s_M_both0_5 {l1 : Int32} {v : Vv} {Q : Int32 → Vv → Prop} (h : m_M_isWord (97 : Int32) (110 : Int32) (100 : Int32) (0 : Int32) (0 : Int32) (0 : Int32) (0 : Int32) (0 : Int32) (v) (fun x3 v4 => if x3 = true then (m_M_next  (v4) (fun v7 => m_M_not0  (v7) (fun x8 v9 => k_M_both0_5 (bI ((if l1 = (0 : Int32) then false else (if x8 = (0 : Int32) then false else true)))) (v9) Q))) else (Q (l1) (v4)))) : k_M_both0_5 l1 v Q := by
  show Gp 39 M_M_both0 5 [(0, .ref (154)), (1, .int (l1))] [] v (QI Q)
  refine g_aload_n 0 e_M_both0_5 rfl rfl ?_
  refine g_bipush (97 : Int32) e_M_both0_6 (by decide) ?_
  refine g_bipush (110 : Int32) e_M_both0_8 (by decide) ?_
  refine g_bipush (100 : Int32) e_M_both0_10 (by decide) ?_
  refine g_iconst (0 : Int32) e_M_both0_12 (by decide) ?_
  refine g_iconst (0 : Int32) e_M_both0_13 (by decide) ?_
  refine g_iconst (0 : Int32) e_M_both0_14 (by decide) ?_
  refine g_iconst (0 : Int32) e_M_both0_15 (by decide) ?_
  refine g_iconst (0 : Int32) e_M_both0_16 (by decide) ?_
  refine p_callVZ (d' := 3) (ci := 10) (r := (RX10, TX10, 49)) (As := [.int ((97 : Int32)), .int ((110 : Int32)), .int ((100 : Int32)), .int ((0 : Int32)), .int ((0 : Int32)), .int ((0 : Int32)), .int ((0 : Int32)), .int ((0 : Int32))]) (rest := []) e_M_both0_17 zm_M_isWord lV_M_188 sh_154 rfl rfl rfl rfl (Nat.le_of_ble_eq_true rfl) (by decide) ?_
  refine cp_mono h (fun _ v4 ⟨x3, e1, h⟩ => ⟨x3, e1, ?_⟩)
  refine p_ifz_eq (tgt := 49) e_M_both0_20 rfl (fun c5 => ?_) (fun c5 => ?_)
  · replace h := iteF h c5
    refine g_iload_n 1 e_M_both0_49 rfl rfl ?_
    exact p_retI e_M_both0_50.1 rfl h
  · replace h := iteT h c5
    refine g_aload_n 0 e_M_both0_23 rfl rfl ?_
    refine p_callVV (d' := 2) (ci := 10) (r := (RX10, TX10, 49)) (As := []) (rest := []) e_M_both0_24 zm_M_next lV_M_185 sh_154 rfl rfl rfl rfl (Nat.le_of_ble_eq_true rfl) (by decide) ?_
    refine cp_mono h (fun _ v7 ⟨e1, h⟩ => ⟨e1, ?_⟩)
    refine g_aload_n 0 e_M_both0_27 rfl rfl ?_
    refine p_callVI (d' := 38) (ci := 10) (r := (RX10, TX10, 49)) (As := []) (rest := []) e_M_both0_28 zm_M_not0 lV_M_324 sh_154 rfl rfl rfl rfl (Nat.le_of_ble_eq_true rfl) (by decide) ?_
    refine cp_mono h (fun _ v9 ⟨x8, e1, h⟩ => ⟨x8, e1, ?_⟩)
    refine g_istore_n (L' := [(2, .int (x8)), (0, .ref (154)), (1, .int (l1))]) e_M_both0_31 rfl (by decide) rfl ?_
    refine g_iload_n 2 e_M_both0_32 rfl rfl ?_
    have hj : ∀ m0 : Bool, m0 = (if l1 = (0 : Int32) then false else (if x8 = (0 : Int32) then false else true)) → Gp 39 M_M_both0 45 [(0, .ref (154)), (1, .int (l1)), (2, .int (x8))] [.int (bI (m0))] (v9) (QI Q) := by
      intro m0 hm0
      subst hm0
      refine g_istore_n (L' := [(1, .int (bI ((if l1 = (0 : Int32) then false else (if x8 = (0 : Int32) then false else true))))), (0, .ref (154)), (2, .int (x8))]) e_M_both0_45 rfl (by decide) rfl ?_
      refine g_goto (tgt := 5) e_M_both0_46 rfl ?_
      exact g_sub [1, 0] rfl h
    refine g_if_eq (tgt := 44) e_M_both0_33 rfl (fun c10 => ?_) (fun c10 => ?_)
    · refine g_iconst (0 : Int32) e_M_both0_44 (by decide) ?_
      refine g_sub [1, 2, 0] rfl ?_
      exact hj (false) (by simp only [if_pos c10])
    · refine g_iload_n 0 e_M_both0_36 rfl rfl ?_
      refine g_if_eq (tgt := 44) e_M_both0_37 rfl (fun c11 => ?_) (fun c11 => ?_)
      · refine g_iconst (0 : Int32) e_M_both0_44 (by decide) ?_
        refine g_sub [1, 2, 0] rfl ?_
        exact hj (false) (by simp only [if_neg c10, if_pos c11])
      · refine g_iconst (1 : Int32) e_M_both0_40 (by decide) ?_
        refine g_goto (tgt := 45) e_M_both0_41 rfl ?_
        refine g_sub [1, 2, 0] rfl ?_
        exact hj (true) (by simp only [if_neg c10, if_neg c11])
set_option maxHeartbeats 1000000 in
theorem s_M_either0  {v : Vv} {Q : Int32 → Vv → Prop} (h : m_M_both0  (v) (fun x1 v2 => k_M_either0_5 (x1) (v2) Q)) : m_M_either0  v Q := by
  refine cp_go (Nat.le_of_ble_eq_true rfl) (by decide +kernel) ?_
  show Gp 40 M_M_either0 0 [(0, .ref (154))] [] v (QI Q)
  refine g_aload_n 0 e_M_either0_0 rfl rfl ?_
  refine p_callVI (d' := 39) (ci := 10) (r := (RX10, TX10, 49)) (As := []) (rest := []) e_M_either0_1 zm_M_both0 lV_M_327 sh_154 rfl rfl rfl rfl (Nat.le_of_ble_eq_true rfl) (by decide) ?_
  refine cp_mono h (fun _ v2 ⟨x1, e1, h⟩ => ⟨x1, e1, ?_⟩)
  refine g_istore_n (L' := [(1, .int (x1)), (0, .ref (154))]) e_M_either0_4 rfl (by decide) rfl ?_
  exact g_sub [1, 0] rfl h
set_option maxHeartbeats 1000000 in
theorem s_M_either0_5 {l1 : Int32} {v : Vv} {Q : Int32 → Vv → Prop} (h : m_M_isWord (111 : Int32) (114 : Int32) (0 : Int32) (0 : Int32) (0 : Int32) (0 : Int32) (0 : Int32) (0 : Int32) (v) (fun x3 v4 => if x3 = true then (m_M_next  (v4) (fun v7 => m_M_both0  (v7) (fun x8 v9 => k_M_either0_5 (bI ((if l1 = (0 : Int32) then (if x8 = (0 : Int32) then false else true) else true))) (v9) Q))) else (Q (l1) (v4)))) : k_M_either0_5 l1 v Q := by
  show Gp 40 M_M_either0 5 [(0, .ref (154)), (1, .int (l1))] [] v (QI Q)
  refine g_aload_n 0 e_M_either0_5 rfl rfl ?_
  refine g_bipush (111 : Int32) e_M_either0_6 (by decide) ?_
  refine g_bipush (114 : Int32) e_M_either0_8 (by decide) ?_
  refine g_iconst (0 : Int32) e_M_either0_10 (by decide) ?_
  refine g_iconst (0 : Int32) e_M_either0_11 (by decide) ?_
  refine g_iconst (0 : Int32) e_M_either0_12 (by decide) ?_
  refine g_iconst (0 : Int32) e_M_either0_13 (by decide) ?_
  refine g_iconst (0 : Int32) e_M_either0_14 (by decide) ?_
  refine g_iconst (0 : Int32) e_M_either0_15 (by decide) ?_
  refine p_callVZ (d' := 3) (ci := 10) (r := (RX10, TX10, 49)) (As := [.int ((111 : Int32)), .int ((114 : Int32)), .int ((0 : Int32)), .int ((0 : Int32)), .int ((0 : Int32)), .int ((0 : Int32)), .int ((0 : Int32)), .int ((0 : Int32))]) (rest := []) e_M_either0_16 zm_M_isWord lV_M_188 sh_154 rfl rfl rfl rfl (Nat.le_of_ble_eq_true rfl) (by decide) ?_
  refine cp_mono h (fun _ v4 ⟨x3, e1, h⟩ => ⟨x3, e1, ?_⟩)
  refine p_ifz_eq (tgt := 48) e_M_either0_19 rfl (fun c5 => ?_) (fun c5 => ?_)
  · replace h := iteF h c5
    refine g_iload_n 1 e_M_either0_48 rfl rfl ?_
    exact p_retI e_M_either0_49.1 rfl h
  · replace h := iteT h c5
    refine g_aload_n 0 e_M_either0_22 rfl rfl ?_
    refine p_callVV (d' := 2) (ci := 10) (r := (RX10, TX10, 49)) (As := []) (rest := []) e_M_either0_23 zm_M_next lV_M_185 sh_154 rfl rfl rfl rfl (Nat.le_of_ble_eq_true rfl) (by decide) ?_
    refine cp_mono h (fun _ v7 ⟨e1, h⟩ => ⟨e1, ?_⟩)
    refine g_aload_n 0 e_M_either0_26 rfl rfl ?_
    refine p_callVI (d' := 39) (ci := 10) (r := (RX10, TX10, 49)) (As := []) (rest := []) e_M_either0_27 zm_M_both0 lV_M_327 sh_154 rfl rfl rfl rfl (Nat.le_of_ble_eq_true rfl) (by decide) ?_
    refine cp_mono h (fun _ v9 ⟨x8, e1, h⟩ => ⟨x8, e1, ?_⟩)
    refine g_istore_n (L' := [(2, .int (x8)), (0, .ref (154)), (1, .int (l1))]) e_M_either0_30 rfl (by decide) rfl ?_
    refine g_iload_n 2 e_M_either0_31 rfl rfl ?_
    have hj : ∀ m0 : Bool, m0 = (if l1 = (0 : Int32) then (if x8 = (0 : Int32) then false else true) else true) → Gp 40 M_M_either0 44 [(0, .ref (154)), (1, .int (l1)), (2, .int (x8))] [.int (bI (m0))] (v9) (QI Q) := by
      intro m0 hm0
      subst hm0
      refine g_istore_n (L' := [(1, .int (bI ((if l1 = (0 : Int32) then (if x8 = (0 : Int32) then false else true) else true)))), (0, .ref (154)), (2, .int (x8))]) e_M_either0_44 rfl (by decide) rfl ?_
      refine g_goto (tgt := 5) e_M_either0_45 rfl ?_
      exact g_sub [1, 0] rfl h
    refine g_if_ne (tgt := 39) e_M_either0_32 rfl (fun c10 => ?_) (fun c10 => ?_)
    · refine g_iconst (1 : Int32) e_M_either0_39 (by decide) ?_
      refine g_goto (tgt := 44) e_M_either0_40 rfl ?_
      refine g_sub [1, 2, 0] rfl ?_
      exact hj (true) (by simp only [if_neg c10])
    · refine g_iload_n 0 e_M_either0_35 rfl rfl ?_
      refine g_if_eq (tgt := 43) e_M_either0_36 rfl (fun c11 => ?_) (fun c11 => ?_)
      · refine g_iconst (0 : Int32) e_M_either0_43 (by decide) ?_
        refine g_sub [1, 2, 0] rfl ?_
        exact hj (false) (by simp only [if_pos c10, if_pos c11])
      · refine g_iconst (1 : Int32) e_M_either0_39 (by decide) ?_
        refine g_goto (tgt := 44) e_M_either0_40 rfl ?_
        refine g_sub [1, 2, 0] rfl ?_
        exact hj (true) (by simp only [if_pos c10, if_neg c11])
set_option maxHeartbeats 1000000 in
theorem s_M_part {l1 : Bool} {v : Vv} {Q : Int32 → Vv → Prop} (h : if l1 = true then (k_M_part_8  (v) Q) else (m_M_fail  (v) (fun v3 => k_M_part_8  (v3) Q))) : m_M_part l1 v Q := by
  refine cp_go (Nat.le_of_ble_eq_true rfl) (by decide +kernel) ?_
  show Gp 41 M_M_part 0 [(0, .ref (154)), (1, .int (bI (l1)))] [] v (QI Q)
  refine g_iload_n 1 e_M_part_0 rfl rfl ?_
  refine p_ifz_ne (tgt := 8) e_M_part_1 rfl (fun c1 => ?_) (fun c1 => ?_)
  · replace h := iteT h c1
    exact g_sub [0] rfl h
  · replace h := iteF h c1
    refine g_aload_n 0 e_M_part_4 rfl rfl ?_
    refine p_callVV (d' := 1) (ci := 10) (r := (RX10, TX10, 49)) (As := []) (rest := []) e_M_part_5 zm_M_fail lV_M_182 sh_154 rfl rfl rfl rfl (Nat.le_of_ble_eq_true rfl) (by decide) ?_
    refine cp_mono h (fun _ v3 ⟨e1, h⟩ => ⟨e1, ?_⟩)
    exact g_sub [0] rfl h
set_option maxHeartbeats 1000000 in
theorem s_M_part_8  {v : Vv} {Q : Int32 → Vv → Prop} (h : if (v).1 154 29 = (0 : Int32) then (m_M_next  (v) (fun v6 => k_M_part_19  (v6) Q)) else (k_M_part_19  (v) Q)) : k_M_part_8  v Q := by
  show Gp 41 M_M_part 8 [(0, .ref (154))] [] v (QI Q)
  refine g_aload_n 0 e_M_part_8 rfl rfl ?_
  refine p_getI e_M_part_9 sh_154 fl_M_168 rfl ?_
  refine g_if_ne (tgt := 19) e_M_part_12 rfl (fun c4 => ?_) (fun c4 => ?_)
  · replace h := iteF h c4
    exact g_sub [0] rfl h
  · replace h := iteT h c4
    refine g_aload_n 0 e_M_part_15 rfl rfl ?_
    refine p_callVV (d' := 2) (ci := 10) (r := (RX10, TX10, 49)) (As := []) (rest := []) e_M_part_16 zm_M_next lV_M_185 sh_154 rfl rfl rfl rfl (Nat.le_of_ble_eq_true rfl) (by decide) ?_
    refine cp_mono h (fun _ v6 ⟨e1, h⟩ => ⟨e1, ?_⟩)
    exact g_sub [0] rfl h
set_option maxHeartbeats 1000000 in
theorem s_M_part_19  {v : Vv} {Q : Int32 → Vv → Prop} (h : if (v).1 154 29 = (0 : Int32) then (m_M_either0  (v) (fun x8 v9 => k_M_part_34 (x8) (v9) Q)) else (k_M_part_34 ((0 : Int32)) (v) Q)) : k_M_part_19  v Q := by
  show Gp 41 M_M_part 19 [(0, .ref (154))] [] v (QI Q)
  refine g_aload_n 0 e_M_part_19 rfl rfl ?_
  refine p_getI e_M_part_20 sh_154 fl_M_168 rfl ?_
  refine g_if_eq (tgt := 30) e_M_part_23 rfl (fun c7 => ?_) (fun c7 => ?_)
  · replace h := iteT h c7
    refine g_aload_n 0 e_M_part_30 rfl rfl ?_
    refine p_callVI (d' := 40) (ci := 10) (r := (RX10, TX10, 49)) (As := []) (rest := []) e_M_part_31 zm_M_either0 lV_M_330 sh_154 rfl rfl rfl rfl (Nat.le_of_ble_eq_true rfl) (by decide) ?_
    refine cp_mono h (fun _ v9 ⟨x8, e1, h⟩ => ⟨x8, e1, ?_⟩)
    exact g_sub [0] rfl h
  · replace h := iteF h c7
    refine g_iconst (0 : Int32) e_M_part_26 (by decide) ?_
    refine g_goto (tgt := 34) e_M_part_27 rfl ?_
    exact g_sub [0] rfl h
set_option maxHeartbeats 1000000 in
theorem s_M_part_34 {t0 : Int32} {v : Vv} {Q : Int32 → Vv → Prop} (h : m_M_isSign (59 : Int32) (v) (fun x10 v11 => if x10 = true then (k_M_part_48 (t0) (v11) Q) else (m_M_fail  (v11) (fun v14 => k_M_part_48 (t0) (v14) Q)))) : k_M_part_34 t0 v Q := by
  show Gp 41 M_M_part 34 [(0, .ref (154))] [.int (t0)] v (QI Q)
  refine g_istore_n (L' := [(2, .int (t0)), (0, .ref (154))]) e_M_part_34 rfl (by decide) rfl ?_
  refine g_aload_n 1 e_M_part_35 rfl rfl ?_
  refine g_bipush (59 : Int32) e_M_part_36 (by decide) ?_
  refine p_callVZ (d' := 1) (ci := 10) (r := (RX10, TX10, 49)) (As := [.int ((59 : Int32))]) (rest := []) e_M_part_38 zm_M_isSign lV_M_210 sh_154 rfl rfl rfl rfl (Nat.le_of_ble_eq_true rfl) (by decide) ?_
  refine cp_mono h (fun _ v11 ⟨x10, e1, h⟩ => ⟨x10, e1, ?_⟩)
  refine p_ifz_ne (tgt := 48) e_M_part_41 rfl (fun c12 => ?_) (fun c12 => ?_)
  · replace h := iteT h c12
    exact g_sub [1, 0] rfl h
  · replace h := iteF h c12
    refine g_aload_n 1 e_M_part_44 rfl rfl ?_
    refine p_callVV (d' := 1) (ci := 10) (r := (RX10, TX10, 49)) (As := []) (rest := []) e_M_part_45 zm_M_fail lV_M_182 sh_154 rfl rfl rfl rfl (Nat.le_of_ble_eq_true rfl) (by decide) ?_
    refine cp_mono h (fun _ v14 ⟨e1, h⟩ => ⟨e1, ?_⟩)
    exact g_sub [1, 0] rfl h
set_option maxHeartbeats 1000000 in
theorem s_M_part_48 {l2 : Int32} {v : Vv} {Q : Int32 → Vv → Prop} (h : if (v).1 154 29 = (0 : Int32) then (m_M_next  (v) (fun v17 => Q (l2) (v17))) else (Q (l2) (v))) : k_M_part_48 l2 v Q := by
  show Gp 41 M_M_part 48 [(0, .ref (154)), (2, .int (l2))] [] v (QI Q)
  refine g_aload_n 0 e_M_part_48 rfl rfl ?_
  refine p_getI e_M_part_49 sh_154 fl_M_168 rfl ?_
  refine g_if_ne (tgt := 59) e_M_part_52 rfl (fun c15 => ?_) (fun c15 => ?_)
  · replace h := iteF h c15
    refine g_iload_n 1 e_M_part_59 rfl rfl ?_
    exact p_retI e_M_part_60.1 rfl h
  · replace h := iteT h c15
    refine g_aload_n 0 e_M_part_55 rfl rfl ?_
    refine p_callVV (d' := 2) (ci := 10) (r := (RX10, TX10, 49)) (As := []) (rest := []) e_M_part_56 zm_M_next lV_M_185 sh_154 rfl rfl rfl rfl (Nat.le_of_ble_eq_true rfl) (by decide) ?_
    refine cp_mono h (fun _ v17 ⟨e1, h⟩ => ⟨e1, ?_⟩)
    refine g_iload_n 1 e_M_part_59 rfl rfl ?_
    exact p_retI e_M_part_60.1 rfl h
set_option maxHeartbeats 1000000 in
theorem s_M_read {l1 : Int32} {l2 : Int32} {v : Vv} {Q : Int32 → Vv → Prop} (h : (ib (l1) 6) ∧ (m_M_next  (sI (sI (sI (sI (sI (v) 154 22 ((160 : Int32) * l1)) 154 23 ((sI (v) 154 22 ((160 : Int32) * l1)).1 156 (ix (l1)))) 154 24 (0 : Int32)) 154 28 (0 : Int32)) 154 29 (0 : Int32)) (fun v3 => m_M_isWord (99 : Int32) (97 : Int32) (109 : Int32) (101 : Int32) (0 : Int32) (0 : Int32) (0 : Int32) (0 : Int32) (v3) (fun x4 v5 => m_M_part x4 (v5) (fun x6 v7 => if (v7).1 154 29 = (0 : Int32) then (m_M_isWord (97 : Int32) (100 : Int32) (100 : Int32) (115 : Int32) (0 : Int32) (0 : Int32) (0 : Int32) (0 : Int32) (v7) (fun x9 v10 => m_M_part x9 (v10) (fun x11 v12 => k_M_read_90 (l2) (x6) (x11) (v12) Q))) else (k_M_read_90 (l2) (x6) ((0 : Int32)) (v7) Q)))))) : m_M_read l1 l2 v Q := by
  refine cp_go (Nat.le_of_ble_eq_true rfl) (by decide +kernel) ?_
  show Gp 42 M_M_read 0 [(0, .ref (154)), (1, .int (l1)), (2, .int (l2))] [] v (QI Q)
  refine g_aload_n 0 e_M_read_0 rfl rfl ?_
  refine g_sipush (160 : Int32) e_M_read_1 (by decide) ?_
  refine g_iload_n 1 e_M_read_4 rfl rfl ?_
  refine g_imul e_M_read_5 ?_
  refine p_putI e_M_read_6 sh_154 fp_M_139 rfl rfl rfl ?_
  refine g_aload_n 0 e_M_read_9 rfl rfl ?_
  refine g_aload_n 0 e_M_read_10 rfl rfl ?_
  refine p_getR (j := 156) e_M_read_11 sh_154 fl_M_17 rfl (rf_154_2 _) ?_
  refine g_iload_n 1 e_M_read_14 rfl rfl ?_
  obtain ⟨h1, h⟩ := h
  refine p_iald e_M_read_15 sh_156 h1 ?_
  refine p_putI e_M_read_16 sh_154 fp_M_136 rfl rfl rfl ?_
  refine g_aload_n 0 e_M_read_19 rfl rfl ?_
  refine g_iconst (0 : Int32) e_M_read_20 (by decide) ?_
  refine p_putI e_M_read_21 sh_154 fp_M_142 rfl rfl rfl ?_
  refine g_aload_n 0 e_M_read_24 rfl rfl ?_
  refine g_iconst (0 : Int32) e_M_read_25 (by decide) ?_
  refine p_putI e_M_read_26 sh_154 fp_M_179 rfl rfl rfl ?_
  refine g_aload_n 0 e_M_read_29 rfl rfl ?_
  refine g_iconst (0 : Int32) e_M_read_30 (by decide) ?_
  refine p_putI e_M_read_31 sh_154 fp_M_168 rfl rfl rfl ?_
  refine g_aload_n 0 e_M_read_34 rfl rfl ?_
  refine p_callVV (d' := 2) (ci := 10) (r := (RX10, TX10, 49)) (As := []) (rest := []) e_M_read_35 zm_M_next lV_M_185 sh_154 rfl rfl rfl rfl (Nat.le_of_ble_eq_true rfl) (by decide) ?_
  refine cp_mono h (fun _ v3 ⟨e1, h⟩ => ⟨e1, ?_⟩)
  refine g_aload_n 0 e_M_read_38 rfl rfl ?_
  refine g_aload_n 0 e_M_read_39 rfl rfl ?_
  refine g_bipush (99 : Int32) e_M_read_40 (by decide) ?_
  refine g_bipush (97 : Int32) e_M_read_42 (by decide) ?_
  refine g_bipush (109 : Int32) e_M_read_44 (by decide) ?_
  refine g_bipush (101 : Int32) e_M_read_46 (by decide) ?_
  refine g_iconst (0 : Int32) e_M_read_48 (by decide) ?_
  refine g_iconst (0 : Int32) e_M_read_49 (by decide) ?_
  refine g_iconst (0 : Int32) e_M_read_50 (by decide) ?_
  refine g_iconst (0 : Int32) e_M_read_51 (by decide) ?_
  refine p_callVZ (d' := 3) (ci := 10) (r := (RX10, TX10, 49)) (As := [.int ((99 : Int32)), .int ((97 : Int32)), .int ((109 : Int32)), .int ((101 : Int32)), .int ((0 : Int32)), .int ((0 : Int32)), .int ((0 : Int32)), .int ((0 : Int32))]) (rest := [.ref (154)]) e_M_read_52 zm_M_isWord lV_M_188 sh_154 rfl rfl rfl rfl (Nat.le_of_ble_eq_true rfl) (by decide) ?_
  refine cp_mono h (fun _ v5 ⟨x4, e1, h⟩ => ⟨x4, e1, ?_⟩)
  refine p_callVI (d' := 41) (ci := 10) (r := (RX10, TX10, 49)) (As := [.int (bI (x4))]) (rest := []) e_M_read_55 zm_M_part lV_M_333 sh_154 rfl rfl rfl rfl (Nat.le_of_ble_eq_true rfl) (by decide) ?_
  refine cp_mono h (fun _ v7 ⟨x6, e1, h⟩ => ⟨x6, e1, ?_⟩)
  refine g_istore_n (L' := [(3, .int (x6)), (0, .ref (154)), (1, .int (l1)), (2, .int (l2))]) e_M_read_58 rfl (by decide) rfl ?_
  refine g_aload_n 1 e_M_read_59 rfl rfl ?_
  refine p_getI e_M_read_60 sh_154 fl_M_168 rfl ?_
  refine g_if_eq (tgt := 70) e_M_read_63 rfl (fun c8 => ?_) (fun c8 => ?_)
  · replace h := iteT h c8
    refine g_aload_n 1 e_M_read_70 rfl rfl ?_
    refine g_aload_n 1 e_M_read_71 rfl rfl ?_
    refine g_bipush (97 : Int32) e_M_read_72 (by decide) ?_
    refine g_bipush (100 : Int32) e_M_read_74 (by decide) ?_
    refine g_bipush (100 : Int32) e_M_read_76 (by decide) ?_
    refine g_bipush (115 : Int32) e_M_read_78 (by decide) ?_
    refine g_iconst (0 : Int32) e_M_read_80 (by decide) ?_
    refine g_iconst (0 : Int32) e_M_read_81 (by decide) ?_
    refine g_iconst (0 : Int32) e_M_read_82 (by decide) ?_
    refine g_iconst (0 : Int32) e_M_read_83 (by decide) ?_
    refine p_callVZ (d' := 3) (ci := 10) (r := (RX10, TX10, 49)) (As := [.int ((97 : Int32)), .int ((100 : Int32)), .int ((100 : Int32)), .int ((115 : Int32)), .int ((0 : Int32)), .int ((0 : Int32)), .int ((0 : Int32)), .int ((0 : Int32))]) (rest := [.ref (154)]) e_M_read_84 zm_M_isWord lV_M_188 sh_154 rfl rfl rfl rfl (Nat.le_of_ble_eq_true rfl) (by decide) ?_
    refine cp_mono h (fun _ v10 ⟨x9, e1, h⟩ => ⟨x9, e1, ?_⟩)
    refine p_callVI (d' := 41) (ci := 10) (r := (RX10, TX10, 49)) (As := [.int (bI (x9))]) (rest := []) e_M_read_87 zm_M_part lV_M_333 sh_154 rfl rfl rfl rfl (Nat.le_of_ble_eq_true rfl) (by decide) ?_
    refine cp_mono h (fun _ v12 ⟨x11, e1, h⟩ => ⟨x11, e1, ?_⟩)
    exact g_sub [1, 3, 0] rfl h
  · replace h := iteF h c8
    refine g_iconst (0 : Int32) e_M_read_66 (by decide) ?_
    refine g_goto (tgt := 90) e_M_read_67 rfl ?_
    exact g_sub [1, 3, 0] rfl h
set_option maxHeartbeats 1000000 in
theorem s_M_read_90 {l2 : Int32} {l3 : Int32} {t0 : Int32} {v : Vv} {Q : Int32 → Vv → Prop} (h : if (v).1 154 29 = (0 : Int32) then (m_M_isWord (109 : Int32) (105 : Int32) (110 : Int32) (100 : Int32) (115 : Int32) (0 : Int32) (0 : Int32) (0 : Int32) (v) (fun x14 v15 => m_M_part x14 (v15) (fun x16 v17 => k_M_read_124 (l2) (l3) (t0) (x16) (v17) Q))) else (k_M_read_124 (l2) (l3) (t0) ((0 : Int32)) (v) Q)) : k_M_read_90 l2 l3 t0 v Q := by
  show Gp 42 M_M_read 90 [(0, .ref (154)), (2, .int (l2)), (3, .int (l3))] [.int (t0)] v (QI Q)
  refine g_istore (L' := [(4, .int (t0)), (0, .ref (154)), (2, .int (l2)), (3, .int (l3))]) e_M_read_90 (by decide) rfl ?_
  refine g_aload_n 1 e_M_read_92 rfl rfl ?_
  refine p_getI e_M_read_93 sh_154 fl_M_168 rfl ?_
  refine g_if_eq (tgt := 103) e_M_read_96 rfl (fun c13 => ?_) (fun c13 => ?_)
  · replace h := iteT h c13
    refine g_aload_n 1 e_M_read_103 rfl rfl ?_
    refine g_aload_n 1 e_M_read_104 rfl rfl ?_
    refine g_bipush (109 : Int32) e_M_read_105 (by decide) ?_
    refine g_bipush (105 : Int32) e_M_read_107 (by decide) ?_
    refine g_bipush (110 : Int32) e_M_read_109 (by decide) ?_
    refine g_bipush (100 : Int32) e_M_read_111 (by decide) ?_
    refine g_bipush (115 : Int32) e_M_read_113 (by decide) ?_
    refine g_iconst (0 : Int32) e_M_read_115 (by decide) ?_
    refine g_iconst (0 : Int32) e_M_read_116 (by decide) ?_
    refine g_iconst (0 : Int32) e_M_read_117 (by decide) ?_
    refine p_callVZ (d' := 3) (ci := 10) (r := (RX10, TX10, 49)) (As := [.int ((109 : Int32)), .int ((105 : Int32)), .int ((110 : Int32)), .int ((100 : Int32)), .int ((115 : Int32)), .int ((0 : Int32)), .int ((0 : Int32)), .int ((0 : Int32))]) (rest := [.ref (154)]) e_M_read_118 zm_M_isWord lV_M_188 sh_154 rfl rfl rfl rfl (Nat.le_of_ble_eq_true rfl) (by decide) ?_
    refine cp_mono h (fun _ v15 ⟨x14, e1, h⟩ => ⟨x14, e1, ?_⟩)
    refine p_callVI (d' := 41) (ci := 10) (r := (RX10, TX10, 49)) (As := [.int (bI (x14))]) (rest := []) e_M_read_121 zm_M_part lV_M_333 sh_154 rfl rfl rfl rfl (Nat.le_of_ble_eq_true rfl) (by decide) ?_
    refine cp_mono h (fun _ v17 ⟨x16, e1, h⟩ => ⟨x16, e1, ?_⟩)
    exact g_sub [1, 2, 3, 0] rfl h
  · replace h := iteF h c13
    refine g_iconst (0 : Int32) e_M_read_99 (by decide) ?_
    refine g_goto (tgt := 124) e_M_read_100 rfl ?_
    exact g_sub [1, 2, 3, 0] rfl h
set_option maxHeartbeats 1000000 in
theorem s_M_read_124 {l2 : Int32} {l3 : Int32} {l4 : Int32} {t0 : Int32} {v : Vv} {Q : Int32 → Vv → Prop} (h : if (v).1 154 29 = (0 : Int32) then (if (v).1 154 25 = (0 : Int32) then (k_M_read_144 (l2) (l3) (l4) (t0) (v) Q) else (m_M_fail  (v) (fun v21 => k_M_read_144 (l2) (l3) (l4) (t0) (v21) Q))) else (k_M_read_144 (l2) (l3) (l4) (t0) (v) Q)) : k_M_read_124 l2 l3 l4 t0 v Q := by
  show Gp 42 M_M_read 124 [(0, .ref (154)), (2, .int (l2)), (3, .int (l3)), (4, .int (l4))] [.int (t0)] v (QI Q)
  refine g_istore (L' := [(5, .int (t0)), (0, .ref (154)), (2, .int (l2)), (3, .int (l3)), (4, .int (l4))]) e_M_read_124 (by decide) rfl ?_
  refine g_aload_n 1 e_M_read_126 rfl rfl ?_
  refine p_getI e_M_read_127 sh_154 fl_M_168 rfl ?_
  refine g_if_ne (tgt := 144) e_M_read_130 rfl (fun c18 => ?_) (fun c18 => ?_)
  · replace h := iteF h c18
    exact g_sub [2, 3, 4, 0] rfl h
  · replace h := iteT h c18
    refine g_aload_n 1 e_M_read_133 rfl rfl ?_
    refine p_getI e_M_read_134 sh_154 fl_M_151 rfl ?_
    refine g_if_eq (tgt := 144) e_M_read_137 rfl (fun c19 => ?_) (fun c19 => ?_)
    · replace h := iteT h c19
      exact g_sub [2, 3, 4, 0] rfl h
    · replace h := iteF h c19
      refine g_aload_n 1 e_M_read_140 rfl rfl ?_
      refine p_callVV (d' := 1) (ci := 10) (r := (RX10, TX10, 49)) (As := []) (rest := []) e_M_read_141 zm_M_fail lV_M_182 sh_154 rfl rfl rfl rfl (Nat.le_of_ble_eq_true rfl) (by decide) ?_
      refine cp_mono h (fun _ v21 ⟨e1, h⟩ => ⟨e1, ?_⟩)
      exact g_sub [2, 3, 4, 0] rfl h
set_option maxHeartbeats 1000000 in
theorem s_M_read_144 {l2 : Int32} {l3 : Int32} {l4 : Int32} {l5 : Int32} {v : Vv} {Q : Int32 → Vv → Prop} (h : Q ((if l2 = (0 : Int32) then l3 else (if l2 = (1 : Int32) then l4 else l5))) (v)) : k_M_read_144 l2 l3 l4 l5 v Q := by
  show Gp 42 M_M_read 144 [(2, .int (l2)), (3, .int (l3)), (4, .int (l4)), (5, .int (l5))] [] v (QI Q)
  refine g_iload_n 0 e_M_read_144 rfl rfl ?_
  have hj : ∀ m0 : Int32, m0 = (if l2 = (0 : Int32) then l3 else (if l2 = (1 : Int32) then l4 else l5)) → Gp 42 M_M_read 164 [(2, .int (l2)), (3, .int (l3)), (4, .int (l4)), (5, .int (l5))] [.int (m0)] (v) (QI Q) := by
    intro m0 hm0
    subst hm0
    exact p_retI e_M_read_164.1 rfl h
  refine g_if_ne (tgt := 152) e_M_read_145 rfl (fun c22 => ?_) (fun c22 => ?_)
  · refine g_iload_n 0 e_M_read_152 rfl rfl ?_
    refine g_iconst (1 : Int32) e_M_read_153 (by decide) ?_
    refine g_icmp_ne (tgt := 162) e_M_read_154 rfl (fun c23 => ?_) (fun c23 => ?_)
    · refine g_iload 3 e_M_read_162 rfl ?_
      exact hj (l5) (by simp only [if_neg c22, if_neg c23])
    · refine g_iload 2 e_M_read_157 rfl ?_
      refine g_goto (tgt := 164) e_M_read_159 rfl ?_
      exact hj (l4) (by simp only [if_neg c22, if_pos c23])
  · refine g_iload_n 1 e_M_read_148 rfl rfl ?_
    refine g_goto (tgt := 164) e_M_read_149 rfl ?_
    exact hj (l3) (by simp only [if_pos c22])
set_option maxHeartbeats 1000000 in
theorem s_M_text  {v : Vv} {Q : Int32 → Vv → Prop} (h : if (v).1 154 3 = (6 : Int32) then (Q ((-4 : Int32)) (v)) else (k_M_text_14 ((0 : Int32)) (v) Q)) : m_M_text  v Q := by
  refine cp_go (Nat.le_of_ble_eq_true rfl) (by decide +kernel) ?_
  show Gp 43 M_M_text 0 [(0, .ref (154))] [] v (QI Q)
  refine g_aload_n 0 e_M_text_0 rfl rfl ?_
  refine p_getI e_M_text_1 sh_154 fl_M_89 rfl ?_
  refine g_bipush (6 : Int32) e_M_text_4 (by decide) ?_
  refine g_icmp_ne (tgt := 12) e_M_text_6 rfl (fun c1 => ?_) (fun c1 => ?_)
  · replace h := iteF h c1
    refine g_iconst (0 : Int32) e_M_text_12 (by decide) ?_
    refine g_istore_n (L' := [(1, .int ((0 : Int32))), (0, .ref (154))]) e_M_text_13 rfl (by decide) rfl ?_
    exact g_sub [1, 0] rfl h
  · replace h := iteT h c1
    refine g_bipush (-4 : Int32) e_M_text_9 (by decide) ?_
    exact p_retI e_M_text_11.1 rfl h
set_option maxHeartbeats 1000000 in
theorem s_M_text_14 {l1 : Int32} {v : Vv} {Q : Int32 → Vv → Prop} (h : if l1 < (v).1 154 6 then ((ib (l1) 160) ∧ ((ib ((((160 : Int32) * (v).1 154 3) + l1)) 960) ∧ (k_M_text_14 ((l1 + (1 : Int32))) (sI (v) 155 (ix ((((160 : Int32) * (v).1 154 3) + l1))) ((v).1 157 (ix (l1)))) Q))) else ((ib ((v).1 154 3) 6) ∧ (m_M_read ((sI (sI (v) 156 (ix ((v).1 154 3)) ((v).1 154 6)) 154 6 (0 : Int32)).1 154 3) (0 : Int32) (sI (sI (v) 156 (ix ((v).1 154 3)) ((v).1 154 6)) 154 6 (0 : Int32)) (fun x6 v7 => if (v7).1 154 29 = (0 : Int32) then (Q (((sI (v7) 154 3 ((v7).1 154 3 + (1 : Int32))).1 154 3 - (1 : Int32))) (sI (v7) 154 3 ((v7).1 154 3 + (1 : Int32)))) else (Q (((-100 : Int32) - (v7).1 154 30)) (v7)))))) : k_M_text_14 l1 v Q := by
  show Gp 43 M_M_text 14 [(0, .ref (154)), (1, .int (l1))] [] v (QI Q)
  refine g_iload_n 1 e_M_text_14 rfl rfl ?_
  refine g_aload_n 0 e_M_text_15 rfl rfl ?_
  refine p_getI e_M_text_16 sh_154 fl_M_133 rfl ?_
  refine g_icmp_ge (tgt := 49) e_M_text_19 rfl (fun c2 => ?_) (fun c2 => ?_)
  · replace h := iteF h c2
    refine g_aload_n 0 e_M_text_49 rfl rfl ?_
    refine p_getR (j := 156) e_M_text_50 sh_154 fl_M_17 rfl (rf_154_2 _) ?_
    refine g_aload_n 0 e_M_text_53 rfl rfl ?_
    refine p_getI e_M_text_54 sh_154 fl_M_89 rfl ?_
    refine g_aload_n 0 e_M_text_57 rfl rfl ?_
    refine p_getI e_M_text_58 sh_154 fl_M_133 rfl ?_
    obtain ⟨h5, h⟩ := h
    refine p_iast e_M_text_61 sh_156 h5 ?_
    refine g_aload_n 0 e_M_text_62 rfl rfl ?_
    refine g_iconst (0 : Int32) e_M_text_63 (by decide) ?_
    refine p_putI e_M_text_64 sh_154 fp_M_133 rfl rfl rfl ?_
    refine g_aload_n 0 e_M_text_67 rfl rfl ?_
    refine g_aload_n 0 e_M_text_68 rfl rfl ?_
    refine p_getI e_M_text_69 sh_154 fl_M_89 rfl ?_
    refine g_iconst (0 : Int32) e_M_text_72 (by decide) ?_
    refine p_callVI (d' := 42) (ci := 10) (r := (RX10, TX10, 49)) (As := [.int ((sI (sI (v) 156 (ix ((v).1 154 3)) ((v).1 154 6)) 154 6 (0 : Int32)).1 154 3), .int ((0 : Int32))]) (rest := []) e_M_text_73 zm_M_read lV_M_337 sh_154 rfl rfl rfl rfl (Nat.le_of_ble_eq_true rfl) (by decide) ?_
    refine cp_mono h (fun _ v7 ⟨x6, e1, h⟩ => ⟨x6, e1, ?_⟩)
    refine g_istore_n (L' := [(1, .int (x6)), (0, .ref (154))]) e_M_text_76 rfl (by decide) rfl ?_
    refine g_aload_n 1 e_M_text_77 rfl rfl ?_
    refine p_getI e_M_text_78 sh_154 fl_M_168 rfl ?_
    refine g_if_eq (tgt := 92) e_M_text_81 rfl (fun c8 => ?_) (fun c8 => ?_)
    · replace h := iteT h c8
      refine g_aload_n 1 e_M_text_92 rfl rfl ?_
      refine g_dup e_M_text_93 rfl ?_
      refine p_getI e_M_text_94 sh_154 fl_M_89 rfl ?_
      refine g_iconst (1 : Int32) e_M_text_97 (by decide) ?_
      refine g_iadd e_M_text_98 ?_
      refine p_putI e_M_text_99 sh_154 fp_M_89 rfl rfl rfl ?_
      refine g_aload_n 1 e_M_text_102 rfl rfl ?_
      refine p_getI e_M_text_103 sh_154 fl_M_89 rfl ?_
      refine g_iconst (1 : Int32) e_M_text_106 (by decide) ?_
      refine g_isub e_M_text_107 ?_
      exact p_retI e_M_text_108.1 rfl h
    · replace h := iteF h c8
      refine g_bipush (-100 : Int32) e_M_text_84 (by decide) ?_
      refine g_aload_n 1 e_M_text_86 rfl rfl ?_
      refine p_getI e_M_text_87 sh_154 fl_M_172 rfl ?_
      refine g_isub e_M_text_90 ?_
      exact p_retI e_M_text_91.1 rfl h
  · replace h := iteT h c2
    refine g_aload_n 0 e_M_text_22 rfl rfl ?_
    refine p_getR (j := 155) e_M_text_23 sh_154 fl_M_13 rfl (rf_154_1 _) ?_
    refine g_sipush (160 : Int32) e_M_text_26 (by decide) ?_
    refine g_aload_n 0 e_M_text_29 rfl rfl ?_
    refine p_getI e_M_text_30 sh_154 fl_M_89 rfl ?_
    refine g_imul e_M_text_33 ?_
    refine g_iload_n 1 e_M_text_34 rfl rfl ?_
    refine g_iadd e_M_text_35 ?_
    refine g_aload_n 0 e_M_text_36 rfl rfl ?_
    refine p_getR (j := 157) e_M_text_37 sh_154 fl_M_20 rfl (rf_154_5 _) ?_
    refine g_iload_n 1 e_M_text_40 rfl rfl ?_
    obtain ⟨h3, h⟩ := h
    refine p_iald e_M_text_41 sh_157 h3 ?_
    obtain ⟨h4, h⟩ := h
    refine p_iast e_M_text_42 sh_155 h4 ?_
    refine g_iinc (v := (l1 + (1 : Int32))) (L' := [(1, .int ((l1 + (1 : Int32)))), (0, .ref (154))]) 1 e_M_text_43 rfl rfl (by decide) rfl ?_
    refine g_goto (tgt := 14) e_M_text_46 rfl ?_
    exact g_sub [1, 0] rfl h
set_option maxHeartbeats 1000000 in
theorem s_M_cameOf {l1 : Int32} {v : Vv} {Q : Int32 → Vv → Prop} (h : (ib (l1) 5) ∧ (m_M_bitsOf ((sI (sI (sI (sI (sI (v) 154 16 (0 : Int32)) 154 17 l1) 154 18 (0 : Int32)) 154 19 (0 : Int32)) 154 20 (0 : Int32)).1 164 (ix (l1))) (sI (sI (sI (sI (sI (v) 154 16 (0 : Int32)) 154 17 l1) 154 18 (0 : Int32)) 154 19 (0 : Int32)) 154 20 (0 : Int32)) (fun x2 v3 => m_M_read ((sI (v3) 154 21 x2).1 154 4) (0 : Int32) (sI (v3) 154 21 x2) (fun x4 v5 => m_M_within x4 (0 : Int32) (100 : Int32) (v5) (fun x6 v7 => Q (x6) (v7)))))) : m_M_cameOf l1 v Q := by
  refine cp_go (Nat.le_of_ble_eq_true rfl) (by decide +kernel) ?_
  show Gp 43 M_M_cameOf 0 [(0, .ref (154)), (1, .int (l1))] [] v (QI Q)
  refine g_aload_n 0 e_M_cameOf_0 rfl rfl ?_
  refine g_iconst (0 : Int32) e_M_cameOf_1 (by decide) ?_
  refine p_putI e_M_cameOf_2 sh_154 fp_M_192 rfl rfl rfl ?_
  refine g_aload_n 0 e_M_cameOf_5 rfl rfl ?_
  refine g_iload_n 1 e_M_cameOf_6 rfl rfl ?_
  refine p_putI e_M_cameOf_7 sh_154 fp_M_195 rfl rfl rfl ?_
  refine g_aload_n 0 e_M_cameOf_10 rfl rfl ?_
  refine g_iconst (0 : Int32) e_M_cameOf_11 (by decide) ?_
  refine p_putI e_M_cameOf_12 sh_154 fp_M_198 rfl rfl rfl ?_
  refine g_aload_n 0 e_M_cameOf_15 rfl rfl ?_
  refine g_iconst (0 : Int32) e_M_cameOf_16 (by decide) ?_
  refine p_putI e_M_cameOf_17 sh_154 fp_M_201 rfl rfl rfl ?_
  refine g_aload_n 0 e_M_cameOf_20 rfl rfl ?_
  refine g_iconst (0 : Int32) e_M_cameOf_21 (by decide) ?_
  refine p_putI e_M_cameOf_22 sh_154 fp_M_204 rfl rfl rfl ?_
  refine g_aload_n 0 e_M_cameOf_25 rfl rfl ?_
  refine g_aload_n 0 e_M_cameOf_26 rfl rfl ?_
  refine p_getR (j := 164) e_M_cameOf_27 sh_154 fl_M_41 rfl (rf_154_14 _) ?_
  refine g_iload_n 1 e_M_cameOf_30 rfl rfl ?_
  obtain ⟨h1, h⟩ := h
  refine p_iald e_M_cameOf_31 sh_164 h1 ?_
  refine p_callSI (d' := 1) (As := [.int ((sI (sI (sI (sI (sI (v) 154 16 (0 : Int32)) 154 17 l1) 154 18 (0 : Int32)) 154 19 (0 : Int32)) 154 20 (0 : Int32)).1 164 (ix (l1)))]) (rest := [.ref (154)]) e_M_cameOf_32 zm_M_bitsOf lS_M_343 rfl rfl (Nat.le_of_ble_eq_true rfl) (by decide) ?_
  refine cp_mono h (fun _ v3 ⟨x2, e1, h⟩ => ⟨x2, e1, ?_⟩)
  refine p_putI e_M_cameOf_35 sh_154 fp_M_207 rfl rfl rfl ?_
  refine g_aload_n 0 e_M_cameOf_38 rfl rfl ?_
  refine g_aload_n 0 e_M_cameOf_39 rfl rfl ?_
  refine p_getI e_M_cameOf_40 sh_154 fl_M_340 rfl ?_
  refine g_iconst (0 : Int32) e_M_cameOf_43 (by decide) ?_
  refine p_callVI (d' := 42) (ci := 10) (r := (RX10, TX10, 49)) (As := [.int ((sI (v3) 154 21 x2).1 154 4), .int ((0 : Int32))]) (rest := []) e_M_cameOf_44 zm_M_read lV_M_337 sh_154 rfl rfl rfl rfl (Nat.le_of_ble_eq_true rfl) (by decide) ?_
  refine cp_mono h (fun _ v5 ⟨x4, e1, h⟩ => ⟨x4, e1, ?_⟩)
  refine g_iconst (0 : Int32) e_M_cameOf_47 (by decide) ?_
  refine g_bipush (100 : Int32) e_M_cameOf_48 (by decide) ?_
  refine p_callSI (d' := 1) (As := [.int (x4), .int ((0 : Int32)), .int ((100 : Int32))]) (rest := []) e_M_cameOf_50 zm_M_within lS_M_346 rfl rfl (Nat.le_of_ble_eq_true rfl) (by decide) ?_
  refine cp_mono h (fun _ v7 ⟨x6, e1, h⟩ => ⟨x6, e1, ?_⟩)
  exact p_retI e_M_cameOf_53.1 rfl h
set_option maxHeartbeats 1000000 in
theorem s_M_addsOf {l1 : Int32} {l2 : Int32} {l3 : Int32} {v : Vv} {Q : Int32 → Vv → Prop} (h : (ib (l2) 6) ∧ ((ib (l1) 5) ∧ (m_M_bitsOf ((sI (sI (sI (sI (sI (v) 154 16 l2) 154 17 l1) 154 18 ((sI (sI (v) 154 16 l2) 154 17 l1).1 159 (ix (l2)))) 154 19 ((sI (sI (sI (v) 154 16 l2) 154 17 l1) 154 18 ((sI (sI (v) 154 16 l2) 154 17 l1).1 159 (ix (l2)))).1 158 (ix (l2)))) 154 20 l3).1 164 (ix (l1))) (sI (sI (sI (sI (sI (v) 154 16 l2) 154 17 l1) 154 18 ((sI (sI (v) 154 16 l2) 154 17 l1).1 159 (ix (l2)))) 154 19 ((sI (sI (sI (v) 154 16 l2) 154 17 l1) 154 18 ((sI (sI (v) 154 16 l2) 154 17 l1).1 159 (ix (l2)))).1 158 (ix (l2)))) 154 20 l3) (fun x3 v4 => m_M_read ((sI (v4) 154 21 x3).1 154 4) (1 : Int32) (sI (v4) 154 21 x3) (fun x5 v6 => m_M_within x5 (-120 : Int32) (120 : Int32) (v6) (fun x7 v8 => Q (x7) (v8))))))) : m_M_addsOf l1 l2 l3 v Q := by
  refine cp_go (Nat.le_of_ble_eq_true rfl) (by decide +kernel) ?_
  show Gp 43 M_M_addsOf 0 [(0, .ref (154)), (1, .int (l1)), (2, .int (l2)), (3, .int (l3))] [] v (QI Q)
  refine g_aload_n 0 e_M_addsOf_0 rfl rfl ?_
  refine g_iload_n 2 e_M_addsOf_1 rfl rfl ?_
  refine p_putI e_M_addsOf_2 sh_154 fp_M_192 rfl rfl rfl ?_
  refine g_aload_n 0 e_M_addsOf_5 rfl rfl ?_
  refine g_iload_n 1 e_M_addsOf_6 rfl rfl ?_
  refine p_putI e_M_addsOf_7 sh_154 fp_M_195 rfl rfl rfl ?_
  refine g_aload_n 0 e_M_addsOf_10 rfl rfl ?_
  refine g_aload_n 0 e_M_addsOf_11 rfl rfl ?_
  refine p_getR (j := 159) e_M_addsOf_12 sh_154 fl_M_26 rfl (rf_154_8 _) ?_
  refine g_iload_n 2 e_M_addsOf_15 rfl rfl ?_
  obtain ⟨h1, h⟩ := h
  refine p_iald e_M_addsOf_16 sh_159 h1 ?_
  refine p_putI e_M_addsOf_17 sh_154 fp_M_198 rfl rfl rfl ?_
  refine g_aload_n 0 e_M_addsOf_20 rfl rfl ?_
  refine g_aload_n 0 e_M_addsOf_21 rfl rfl ?_
  refine p_getR (j := 158) e_M_addsOf_22 sh_154 fl_M_23 rfl (rf_154_7 _) ?_
  refine g_iload_n 2 e_M_addsOf_25 rfl rfl ?_
  refine p_iald e_M_addsOf_26 sh_158 h1 ?_
  refine p_putI e_M_addsOf_27 sh_154 fp_M_201 rfl rfl rfl ?_
  refine g_aload_n 0 e_M_addsOf_30 rfl rfl ?_
  refine g_iload_n 3 e_M_addsOf_31 rfl rfl ?_
  refine p_putI e_M_addsOf_32 sh_154 fp_M_204 rfl rfl rfl ?_
  refine g_aload_n 0 e_M_addsOf_35 rfl rfl ?_
  refine g_aload_n 0 e_M_addsOf_36 rfl rfl ?_
  refine p_getR (j := 164) e_M_addsOf_37 sh_154 fl_M_41 rfl (rf_154_14 _) ?_
  refine g_iload_n 1 e_M_addsOf_40 rfl rfl ?_
  obtain ⟨h2, h⟩ := h
  refine p_iald e_M_addsOf_41 sh_164 h2 ?_
  refine p_callSI (d' := 1) (As := [.int ((sI (sI (sI (sI (sI (v) 154 16 l2) 154 17 l1) 154 18 ((sI (sI (v) 154 16 l2) 154 17 l1).1 159 (ix (l2)))) 154 19 ((sI (sI (sI (v) 154 16 l2) 154 17 l1) 154 18 ((sI (sI (v) 154 16 l2) 154 17 l1).1 159 (ix (l2)))).1 158 (ix (l2)))) 154 20 l3).1 164 (ix (l1)))]) (rest := [.ref (154)]) e_M_addsOf_42 zm_M_bitsOf lS_M_343 rfl rfl (Nat.le_of_ble_eq_true rfl) (by decide) ?_
  refine cp_mono h (fun _ v4 ⟨x3, e1, h⟩ => ⟨x3, e1, ?_⟩)
  refine p_putI e_M_addsOf_45 sh_154 fp_M_207 rfl rfl rfl ?_
  refine g_aload_n 0 e_M_addsOf_48 rfl rfl ?_
  refine g_aload_n 0 e_M_addsOf_49 rfl rfl ?_
  refine p_getI e_M_addsOf_50 sh_154 fl_M_340 rfl ?_
  refine g_iconst (1 : Int32) e_M_addsOf_53 (by decide) ?_
  refine p_callVI (d' := 42) (ci := 10) (r := (RX10, TX10, 49)) (As := [.int ((sI (v4) 154 21 x3).1 154 4), .int ((1 : Int32))]) (rest := []) e_M_addsOf_54 zm_M_read lV_M_337 sh_154 rfl rfl rfl rfl (Nat.le_of_ble_eq_true rfl) (by decide) ?_
  refine cp_mono h (fun _ v6 ⟨x5, e1, h⟩ => ⟨x5, e1, ?_⟩)
  refine g_bipush (-120 : Int32) e_M_addsOf_57 (by decide) ?_
  refine g_bipush (120 : Int32) e_M_addsOf_59 (by decide) ?_
  refine p_callSI (d' := 1) (As := [.int (x5), .int ((-120 : Int32)), .int ((120 : Int32))]) (rest := []) e_M_addsOf_61 zm_M_within lS_M_346 rfl rfl (Nat.le_of_ble_eq_true rfl) (by decide) ?_
  refine cp_mono h (fun _ v8 ⟨x7, e1, h⟩ => ⟨x7, e1, ?_⟩)
  exact p_retI e_M_addsOf_64.1 rfl h
set_option maxHeartbeats 1000000 in
theorem s_M_mindsOf {l1 : Int32} {l2 : Int32} {v : Vv} {Q : Int32 → Vv → Prop} (h : (ib (l1) 6) ∧ (m_M_read ((sI (sI (sI (sI (sI (sI (v) 154 16 l1) 154 17 (0 : Int32)) 154 18 ((sI (sI (v) 154 16 l1) 154 17 (0 : Int32)).1 159 (ix (l1)))) 154 19 ((sI (sI (sI (v) 154 16 l1) 154 17 (0 : Int32)) 154 18 ((sI (sI (v) 154 16 l1) 154 17 (0 : Int32)).1 159 (ix (l1)))).1 158 (ix (l1)))) 154 20 l2) 154 21 (0 : Int32)).1 154 4) (2 : Int32) (sI (sI (sI (sI (sI (sI (v) 154 16 l1) 154 17 (0 : Int32)) 154 18 ((sI (sI (v) 154 16 l1) 154 17 (0 : Int32)).1 159 (ix (l1)))) 154 19 ((sI (sI (sI (v) 154 16 l1) 154 17 (0 : Int32)) 154 18 ((sI (sI (v) 154 16 l1) 154 17 (0 : Int32)).1 159 (ix (l1)))).1 158 (ix (l1)))) 154 20 l2) 154 21 (0 : Int32)) (fun x2 v3 => m_M_within x2 (0 : Int32) (99 : Int32) (v3) (fun x4 v5 => Q (x4) (v5))))) : m_M_mindsOf l1 l2 v Q := by
  refine cp_go (Nat.le_of_ble_eq_true rfl) (by decide +kernel) ?_
  show Gp 43 M_M_mindsOf 0 [(0, .ref (154)), (1, .int (l1)), (2, .int (l2))] [] v (QI Q)
  refine g_aload_n 0 e_M_mindsOf_0 rfl rfl ?_
  refine g_iload_n 1 e_M_mindsOf_1 rfl rfl ?_
  refine p_putI e_M_mindsOf_2 sh_154 fp_M_192 rfl rfl rfl ?_
  refine g_aload_n 0 e_M_mindsOf_5 rfl rfl ?_
  refine g_iconst (0 : Int32) e_M_mindsOf_6 (by decide) ?_
  refine p_putI e_M_mindsOf_7 sh_154 fp_M_195 rfl rfl rfl ?_
  refine g_aload_n 0 e_M_mindsOf_10 rfl rfl ?_
  refine g_aload_n 0 e_M_mindsOf_11 rfl rfl ?_
  refine p_getR (j := 159) e_M_mindsOf_12 sh_154 fl_M_26 rfl (rf_154_8 _) ?_
  refine g_iload_n 1 e_M_mindsOf_15 rfl rfl ?_
  obtain ⟨h1, h⟩ := h
  refine p_iald e_M_mindsOf_16 sh_159 h1 ?_
  refine p_putI e_M_mindsOf_17 sh_154 fp_M_198 rfl rfl rfl ?_
  refine g_aload_n 0 e_M_mindsOf_20 rfl rfl ?_
  refine g_aload_n 0 e_M_mindsOf_21 rfl rfl ?_
  refine p_getR (j := 158) e_M_mindsOf_22 sh_154 fl_M_23 rfl (rf_154_7 _) ?_
  refine g_iload_n 1 e_M_mindsOf_25 rfl rfl ?_
  refine p_iald e_M_mindsOf_26 sh_158 h1 ?_
  refine p_putI e_M_mindsOf_27 sh_154 fp_M_201 rfl rfl rfl ?_
  refine g_aload_n 0 e_M_mindsOf_30 rfl rfl ?_
  refine g_iload_n 2 e_M_mindsOf_31 rfl rfl ?_
  refine p_putI e_M_mindsOf_32 sh_154 fp_M_204 rfl rfl rfl ?_
  refine g_aload_n 0 e_M_mindsOf_35 rfl rfl ?_
  refine g_iconst (0 : Int32) e_M_mindsOf_36 (by decide) ?_
  refine p_putI e_M_mindsOf_37 sh_154 fp_M_207 rfl rfl rfl ?_
  refine g_aload_n 0 e_M_mindsOf_40 rfl rfl ?_
  refine g_aload_n 0 e_M_mindsOf_41 rfl rfl ?_
  refine p_getI e_M_mindsOf_42 sh_154 fl_M_340 rfl ?_
  refine g_iconst (2 : Int32) e_M_mindsOf_45 (by decide) ?_
  refine p_callVI (d' := 42) (ci := 10) (r := (RX10, TX10, 49)) (As := [.int ((sI (sI (sI (sI (sI (sI (v) 154 16 l1) 154 17 (0 : Int32)) 154 18 ((sI (sI (v) 154 16 l1) 154 17 (0 : Int32)).1 159 (ix (l1)))) 154 19 ((sI (sI (sI (v) 154 16 l1) 154 17 (0 : Int32)) 154 18 ((sI (sI (v) 154 16 l1) 154 17 (0 : Int32)).1 159 (ix (l1)))).1 158 (ix (l1)))) 154 20 l2) 154 21 (0 : Int32)).1 154 4), .int ((2 : Int32))]) (rest := []) e_M_mindsOf_46 zm_M_read lV_M_337 sh_154 rfl rfl rfl rfl (Nat.le_of_ble_eq_true rfl) (by decide) ?_
  refine cp_mono h (fun _ v3 ⟨x2, e1, h⟩ => ⟨x2, e1, ?_⟩)
  refine g_iconst (0 : Int32) e_M_mindsOf_49 (by decide) ?_
  refine g_bipush (99 : Int32) e_M_mindsOf_50 (by decide) ?_
  refine p_callSI (d' := 1) (As := [.int (x2), .int ((0 : Int32)), .int ((99 : Int32))]) (rest := []) e_M_mindsOf_52 zm_M_within lS_M_346 rfl rfl (Nat.le_of_ble_eq_true rfl) (by decide) ?_
  refine cp_mono h (fun _ v5 ⟨x4, e1, h⟩ => ⟨x4, e1, ?_⟩)
  exact p_retI e_M_mindsOf_55.1 rfl h
set_option maxHeartbeats 1000000 in
theorem s_M_told {l1 : Int32} {l2 : Int32} {v : Vv} {Q : Int32 → Vv → Prop} (h : m_M_in ((l2).toInt64) (0 : Int64) (7 : Int64) (v) (fun x1 v2 => if x1 = true then (if l2 < (4 : Int32) then (m_M_isClock l1 (v2) (fun x5 v6 => if x5 = true then (k_M_told_40 (l1) (l2) (v6) Q) else (Q ((-1000 : Int32)) (v6)))) else (m_M_isDoer l1 (v2) (fun x8 v9 => if x8 = true then (k_M_told_40 (l1) (l2) (v9) Q) else (Q ((-1000 : Int32)) (v9))))) else (Q ((-1000 : Int32)) (v2)))) : m_M_told l1 l2 v Q := by
  refine cp_go (Nat.le_of_ble_eq_true rfl) (by decide +kernel) ?_
  show Gp 44 M_M_told 0 [(0, .ref (154)), (1, .int (l1)), (2, .int (l2))] [] v (QI Q)
  refine g_iload_n 2 e_M_told_0 rfl rfl ?_
  refine g_i2l e_M_told_1 ?_
  refine g_lconst (0 : Int64) e_M_told_2 (by decide) ?_
  refine g_ldc2 (v := (7 : Int64)) (hd := e_M_told_3) cl_M_125 ?_
  refine p_callSZ (d' := 1) (As := [.long ((l2).toInt64), .long ((0 : Int64)), .long ((7 : Int64))]) (rest := []) e_M_told_6 zm_M_in lS_M_95 rfl rfl (Nat.le_of_ble_eq_true rfl) (by decide) ?_
  refine cp_mono h (fun _ v2 ⟨x1, e1, h⟩ => ⟨x1, e1, ?_⟩)
  refine p_ifz_eq (tgt := 36) e_M_told_9 rfl (fun c3 => ?_) (fun c3 => ?_)
  · replace h := iteF h c3
    refine g_sipush (-1000 : Int32) e_M_told_36 (by decide) ?_
    exact p_retI e_M_told_39.1 rfl h
  · replace h := iteT h c3
    refine g_iload_n 2 e_M_told_12 rfl rfl ?_
    refine g_iconst (4 : Int32) e_M_told_13 (by decide) ?_
    refine g_icmp_ge (tgt := 28) e_M_told_14 rfl (fun c4 => ?_) (fun c4 => ?_)
    · replace h := iteF h c4
      refine g_aload_n 0 e_M_told_28 rfl rfl ?_
      refine g_iload_n 1 e_M_told_29 rfl rfl ?_
      refine p_callVZ (d' := 2) (ci := 10) (r := (RX10, TX10, 49)) (As := [.int (l1)]) (rest := []) e_M_told_30 zm_M_isDoer lV_M_118 sh_154 rfl rfl rfl rfl (Nat.le_of_ble_eq_true rfl) (by decide) ?_
      refine cp_mono h (fun _ v9 ⟨x8, e1, h⟩ => ⟨x8, e1, ?_⟩)
      refine p_ifz_ne (tgt := 40) e_M_told_33 rfl (fun c10 => ?_) (fun c10 => ?_)
      · replace h := iteT h c10
        exact g_sub [0, 1, 2] rfl h
      · replace h := iteF h c10
        refine g_sipush (-1000 : Int32) e_M_told_36 (by decide) ?_
        exact p_retI e_M_told_39.1 rfl h
    · replace h := iteT h c4
      refine g_aload_n 0 e_M_told_17 rfl rfl ?_
      refine g_iload_n 1 e_M_told_18 rfl rfl ?_
      refine p_callVZ (d' := 2) (ci := 10) (r := (RX10, TX10, 49)) (As := [.int (l1)]) (rest := []) e_M_told_19 zm_M_isClock lV_M_114 sh_154 rfl rfl rfl rfl (Nat.le_of_ble_eq_true rfl) (by decide) ?_
      refine cp_mono h (fun _ v6 ⟨x5, e1, h⟩ => ⟨x5, e1, ?_⟩)
      refine p_ifz_eq (tgt := 36) e_M_told_22 rfl (fun c7 => ?_) (fun c7 => ?_)
      · replace h := iteF h c7
        refine g_sipush (-1000 : Int32) e_M_told_36 (by decide) ?_
        exact p_retI e_M_told_39.1 rfl h
      · replace h := iteT h c7
        refine g_goto (tgt := 40) e_M_told_25 rfl ?_
        exact g_sub [0, 1, 2] rfl h
set_option maxHeartbeats 1000000 in
theorem s_M_told_40 {l1 : Int32} {l2 : Int32} {v : Vv} {Q : Int32 → Vv → Prop} (h : if l2 < (4 : Int32) then (if l2 = (0 : Int32) then ((ib (l1) 6) ∧ (Q ((v).1 158 (ix (l1))) (v))) else (if l2 = (1 : Int32) then ((ib (l1) 6) ∧ (Q ((v).1 159 (ix (l1))) (v))) else (if l2 = (2 : Int32) then ((ib (l1) 6) ∧ (Q ((v).1 160 (ix (l1))) (v))) else ((ib (l1) 6) ∧ (Q ((v).1 161 (ix (l1))) (v)))))) else (if l2 = (4 : Int32) then ((ib (l1) 5) ∧ (Q ((v).1 163 (ix (l1))) (v))) else (if l2 = (5 : Int32) then ((ib (l1) 5) ∧ (Q ((v).1 164 (ix (l1))) (v))) else (if l2 = (6 : Int32) then ((ib (l1) 5) ∧ (Q ((v).1 162 (ix (l1))) (v))) else (m_M_cameOf l1 (v) (fun x25 v26 => Q (x25) (v26))))))) : k_M_told_40 l1 l2 v Q := by
  show Gp 44 M_M_told 40 [(0, .ref (154)), (1, .int (l1)), (2, .int (l2))] [] v (QI Q)
  refine g_iload_n 2 e_M_told_40 rfl rfl ?_
  refine g_iconst (4 : Int32) e_M_told_41 (by decide) ?_
  refine g_icmp_ge (tgt := 93) e_M_told_42 rfl (fun c11 => ?_) (fun c11 => ?_)
  · replace h := iteF h c11
    refine g_iload_n 2 e_M_told_93 rfl rfl ?_
    refine g_iconst (4 : Int32) e_M_told_94 (by decide) ?_
    refine g_icmp_ne (tgt := 107) e_M_told_95 rfl (fun c19 => ?_) (fun c19 => ?_)
    · replace h := iteF h c19
      refine g_iload_n 2 e_M_told_107 rfl rfl ?_
      refine g_iconst (5 : Int32) e_M_told_108 (by decide) ?_
      refine g_icmp_ne (tgt := 121) e_M_told_109 rfl (fun c21 => ?_) (fun c21 => ?_)
      · replace h := iteF h c21
        refine g_iload_n 2 e_M_told_121 rfl rfl ?_
        refine g_bipush (6 : Int32) e_M_told_122 (by decide) ?_
        refine g_icmp_ne (tgt := 136) e_M_told_124 rfl (fun c23 => ?_) (fun c23 => ?_)
        · replace h := iteF h c23
          refine g_aload_n 0 e_M_told_136 rfl rfl ?_
          refine g_iload_n 1 e_M_told_137 rfl rfl ?_
          refine p_callVI (d' := 43) (ci := 10) (r := (RX10, TX10, 49)) (As := [.int (l1)]) (rest := []) e_M_told_138 zm_M_cameOf lV_M_127 sh_154 rfl rfl rfl rfl (Nat.le_of_ble_eq_true rfl) (by decide) ?_
          refine cp_mono h (fun _ v26 ⟨x25, e1, h⟩ => ⟨x25, e1, ?_⟩)
          exact p_retI e_M_told_141.1 rfl h
        · replace h := iteT h c23
          refine g_aload_n 0 e_M_told_127 rfl rfl ?_
          refine p_getR (j := 162) e_M_told_128 sh_154 fl_M_35 rfl (rf_154_12 _) ?_
          refine g_iload_n 1 e_M_told_131 rfl rfl ?_
          obtain ⟨h24, h⟩ := h
          refine p_iald e_M_told_132 sh_162 h24 ?_
          refine g_goto (tgt := 141) e_M_told_133 rfl ?_
          exact p_retI e_M_told_141.1 rfl h
      · replace h := iteT h c21
        refine g_aload_n 0 e_M_told_112 rfl rfl ?_
        refine p_getR (j := 164) e_M_told_113 sh_154 fl_M_41 rfl (rf_154_14 _) ?_
        refine g_iload_n 1 e_M_told_116 rfl rfl ?_
        obtain ⟨h22, h⟩ := h
        refine p_iald e_M_told_117 sh_164 h22 ?_
        refine g_goto (tgt := 141) e_M_told_118 rfl ?_
        exact p_retI e_M_told_141.1 rfl h
    · replace h := iteT h c19
      refine g_aload_n 0 e_M_told_98 rfl rfl ?_
      refine p_getR (j := 163) e_M_told_99 sh_154 fl_M_38 rfl (rf_154_13 _) ?_
      refine g_iload_n 1 e_M_told_102 rfl rfl ?_
      obtain ⟨h20, h⟩ := h
      refine p_iald e_M_told_103 sh_163 h20 ?_
      refine g_goto (tgt := 141) e_M_told_104 rfl ?_
      exact p_retI e_M_told_141.1 rfl h
  · replace h := iteT h c11
    refine g_iload_n 2 e_M_told_45 rfl rfl ?_
    refine g_if_ne (tgt := 58) e_M_told_46 rfl (fun c12 => ?_) (fun c12 => ?_)
    · replace h := iteF h c12
      refine g_iload_n 2 e_M_told_58 rfl rfl ?_
      refine g_iconst (1 : Int32) e_M_told_59 (by decide) ?_
      refine g_icmp_ne (tgt := 72) e_M_told_60 rfl (fun c14 => ?_) (fun c14 => ?_)
      · replace h := iteF h c14
        refine g_iload_n 2 e_M_told_72 rfl rfl ?_
        refine g_iconst (2 : Int32) e_M_told_73 (by decide) ?_
        refine g_icmp_ne (tgt := 86) e_M_told_74 rfl (fun c16 => ?_) (fun c16 => ?_)
        · replace h := iteF h c16
          refine g_aload_n 0 e_M_told_86 rfl rfl ?_
          refine p_getR (j := 161) e_M_told_87 sh_154 fl_M_32 rfl (rf_154_10 _) ?_
          refine g_iload_n 1 e_M_told_90 rfl rfl ?_
          obtain ⟨h18, h⟩ := h
          refine p_iald e_M_told_91 sh_161 h18 ?_
          exact p_retI e_M_told_92.1 rfl h
        · replace h := iteT h c16
          refine g_aload_n 0 e_M_told_77 rfl rfl ?_
          refine p_getR (j := 160) e_M_told_78 sh_154 fl_M_29 rfl (rf_154_9 _) ?_
          refine g_iload_n 1 e_M_told_81 rfl rfl ?_
          obtain ⟨h17, h⟩ := h
          refine p_iald e_M_told_82 sh_160 h17 ?_
          refine g_goto (tgt := 92) e_M_told_83 rfl ?_
          exact p_retI e_M_told_92.1 rfl h
      · replace h := iteT h c14
        refine g_aload_n 0 e_M_told_63 rfl rfl ?_
        refine p_getR (j := 159) e_M_told_64 sh_154 fl_M_26 rfl (rf_154_8 _) ?_
        refine g_iload_n 1 e_M_told_67 rfl rfl ?_
        obtain ⟨h15, h⟩ := h
        refine p_iald e_M_told_68 sh_159 h15 ?_
        refine g_goto (tgt := 92) e_M_told_69 rfl ?_
        exact p_retI e_M_told_92.1 rfl h
    · replace h := iteT h c12
      refine g_aload_n 0 e_M_told_49 rfl rfl ?_
      refine p_getR (j := 158) e_M_told_50 sh_154 fl_M_23 rfl (rf_154_7 _) ?_
      refine g_iload_n 1 e_M_told_53 rfl rfl ?_
      obtain ⟨h13, h⟩ := h
      refine p_iald e_M_told_54 sh_158 h13 ?_
      refine g_goto (tgt := 92) e_M_told_55 rfl ?_
      exact p_retI e_M_told_92.1 rfl h
set_option maxHeartbeats 1000000 in
theorem s_M_addsBy {l1 : Int32} {l2 : Int32} {l3 : Int32} {l4 : Int32} {v : Vv} {Q : Int32 → Vv → Prop} (h : (ib (l1) 5) ∧ (if (v).1 162 (ix (l1)) = (1 : Int32) then (Q (l4) (v)) else (if (v).1 162 (ix (l1)) = (3 : Int32) then (Q ((if (60 : Int32) < l4 then (60 : Int32) else l4)) (v)) else (m_M_addsOf l1 l2 l3 (v) (fun x5 v6 => Q ((if (v).1 162 (ix (l1)) = (4 : Int32) then (x5 / (2 : Int32)) else (if (v).1 162 (ix (l1)) = (5 : Int32) then (if (4 : Int32) < (v6).1 163 (ix (l1)) then ((2 : Int32) * x5) else x5) else x5))) (v6)))))) : m_M_addsBy l1 l2 l3 l4 v Q := by
  refine cp_go (Nat.le_of_ble_eq_true rfl) (by decide +kernel) ?_
  show Gp 44 M_M_addsBy 0 [(0, .ref (154)), (1, .int (l1)), (2, .int (l2)), (3, .int (l3)), (4, .int (l4))] [] v (QI Q)
  refine g_aload_n 0 e_M_addsBy_0 rfl rfl ?_
  refine p_getR (j := 162) e_M_addsBy_1 sh_154 fl_M_35 rfl (rf_154_12 _) ?_
  refine g_iload_n 1 e_M_addsBy_4 rfl rfl ?_
  obtain ⟨h1, h⟩ := h
  refine p_iald e_M_addsBy_5 sh_162 h1 ?_
  refine g_istore (L' := [(5, .int ((v).1 162 (ix (l1)))), (0, .ref (154)), (1, .int (l1)), (2, .int (l2)), (3, .int (l3)), (4, .int (l4))]) e_M_addsBy_6 (by decide) rfl ?_
  refine g_iload 0 e_M_addsBy_8 rfl ?_
  refine g_iconst (1 : Int32) e_M_addsBy_10 (by decide) ?_
  refine g_icmp_ne (tgt := 17) e_M_addsBy_11 rfl (fun c2 => ?_) (fun c2 => ?_)
  · replace h := iteF h c2
    refine g_iload 0 e_M_addsBy_17 rfl ?_
    refine g_iconst (3 : Int32) e_M_addsBy_19 (by decide) ?_
    refine g_icmp_ne (tgt := 38) e_M_addsBy_20 rfl (fun c3 => ?_) (fun c3 => ?_)
    · replace h := iteF h c3
      refine g_aload_n 1 e_M_addsBy_38 rfl rfl ?_
      refine g_iload_n 2 e_M_addsBy_39 rfl rfl ?_
      refine g_iload_n 3 e_M_addsBy_40 rfl rfl ?_
      refine g_iload_n 4 e_M_addsBy_41 rfl rfl ?_
      refine p_callVI (d' := 43) (ci := 10) (r := (RX10, TX10, 49)) (As := [.int (l1), .int (l2), .int (l3)]) (rest := []) e_M_addsBy_42 zm_M_addsOf lV_M_350 sh_154 rfl rfl rfl rfl (Nat.le_of_ble_eq_true rfl) (by decide) ?_
      refine cp_mono h (fun _ v6 ⟨x5, e1, h⟩ => ⟨x5, e1, ?_⟩)
      refine g_istore (L' := [(6, .int (x5)), (5, .int ((v).1 162 (ix (l1)))), (0, .ref (154)), (1, .int (l1)), (2, .int (l2)), (3, .int (l3)), (4, .int (l4))]) e_M_addsBy_45 (by decide) rfl ?_
      refine g_iload 1 e_M_addsBy_47 rfl ?_
      refine g_iconst (4 : Int32) e_M_addsBy_49 (by decide) ?_
      have hj : ∀ m0 : Int32, m0 = (if (v).1 162 (ix (l1)) = (4 : Int32) then (x5 / (2 : Int32)) else (if (v).1 162 (ix (l1)) = (5 : Int32) then (if (4 : Int32) < (v6).1 163 (ix (l1)) then ((2 : Int32) * x5) else x5) else x5)) → Gp 44 M_M_addsBy 85 [(0, .ref (154)), (1, .int (l1)), (2, .int (l2)), (3, .int (l3)), (4, .int (l4)), (5, .int ((v).1 162 (ix (l1)))), (6, .int (x5))] [.int (m0)] (v6) (QI Q) := by
        intro m0 hm0
        subst hm0
        exact p_retI e_M_addsBy_85.1 rfl h
      refine g_icmp_ne (tgt := 60) e_M_addsBy_50 rfl (fun c7 => ?_) (fun c7 => ?_)
      · refine g_iload 1 e_M_addsBy_60 rfl ?_
        refine g_iconst (5 : Int32) e_M_addsBy_62 (by decide) ?_
        refine g_icmp_ne (tgt := 83) e_M_addsBy_63 rfl (fun c8 => ?_) (fun c8 => ?_)
        · refine g_iload 0 e_M_addsBy_83 rfl ?_
          refine g_sub [2, 3, 4, 5, 6, 1, 0] rfl ?_
          exact hj (x5) (by simp only [if_neg c7, if_neg c8])
        · refine g_aload_n 2 e_M_addsBy_66 rfl rfl ?_
          refine p_getR (j := 163) e_M_addsBy_67 sh_154 fl_M_38 rfl (rf_154_13 _) ?_
          refine g_iload_n 3 e_M_addsBy_70 rfl rfl ?_
          refine p_iald e_M_addsBy_71 sh_163 h1 ?_
          refine g_iconst (4 : Int32) e_M_addsBy_72 (by decide) ?_
          refine g_icmp_le (tgt := 83) e_M_addsBy_73 rfl (fun c9 => ?_) (fun c9 => ?_)
          · refine g_iload 0 e_M_addsBy_83 rfl ?_
            refine g_sub [2, 3, 4, 5, 6, 1, 0] rfl ?_
            exact hj (x5) (by simp only [if_neg c7, if_pos c8, if_neg c9])
          · refine g_iconst (2 : Int32) e_M_addsBy_76 (by decide) ?_
            refine g_iload 0 e_M_addsBy_77 rfl ?_
            refine g_imul e_M_addsBy_79 ?_
            refine g_goto (tgt := 85) e_M_addsBy_80 rfl ?_
            refine g_sub [2, 3, 4, 5, 6, 1, 0] rfl ?_
            exact hj (((2 : Int32) * x5)) (by simp only [if_neg c7, if_pos c8, if_pos c9])
      · refine g_iload 0 e_M_addsBy_53 rfl ?_
        refine g_iconst (2 : Int32) e_M_addsBy_55 (by decide) ?_
        refine g_idiv e_M_addsBy_56 (by decide) ?_
        refine g_goto (tgt := 85) e_M_addsBy_57 rfl ?_
        refine g_sub [2, 3, 4, 5, 6, 1, 0] rfl ?_
        exact hj ((x5 / (2 : Int32))) (by simp only [if_pos c7])
    · replace h := iteT h c3
      refine g_iload 5 e_M_addsBy_23 rfl ?_
      refine g_bipush (60 : Int32) e_M_addsBy_25 (by decide) ?_
      have hj : ∀ m0 : Int32, m0 = (if (60 : Int32) < l4 then (60 : Int32) else l4) → Gp 44 M_M_addsBy 37 [(0, .ref (154)), (1, .int (l1)), (2, .int (l2)), (3, .int (l3)), (4, .int (l4)), (5, .int ((v).1 162 (ix (l1))))] [.int (m0)] (v) (QI Q) := by
        intro m0 hm0
        subst hm0
        exact p_retI e_M_addsBy_37.1 rfl h
      refine g_icmp_le (tgt := 35) e_M_addsBy_27 rfl (fun c4 => ?_) (fun c4 => ?_)
      · refine g_iload 5 e_M_addsBy_35 rfl ?_
        refine g_sub [1, 2, 3, 4, 5, 0] rfl ?_
        exact hj (l4) (by simp only [if_neg c4])
      · refine g_bipush (60 : Int32) e_M_addsBy_30 (by decide) ?_
        refine g_goto (tgt := 37) e_M_addsBy_32 rfl ?_
        refine g_sub [1, 2, 3, 4, 5, 0] rfl ?_
        exact hj ((60 : Int32)) (by simp only [if_pos c4])
  · replace h := iteT h c2
    refine g_iload 5 e_M_addsBy_14 rfl ?_
    exact p_retI e_M_addsBy_16.1 rfl h
set_option maxHeartbeats 1000000 in
theorem s_M_set {l1 : Int32} {l2 : Int32} {l3 : Int32} {v : Vv} {Q : Int32 → Vv → Prop} (h : m_M_in ((l1).toInt64) (0 : Int64) (5 : Int64) (v) (fun x1 v2 => if x1 = true then (if l1 < (4 : Int32) then (m_M_isClock l2 (v2) (fun x5 v6 => if x5 = true then (k_M_set_40 (l1) (l2) (l3) (v6) Q) else (Q ((-1000 : Int32)) (v6)))) else (m_M_isDoer l2 (v2) (fun x8 v9 => if x8 = true then (k_M_set_40 (l1) (l2) (l3) (v9) Q) else (Q ((-1000 : Int32)) (v9))))) else (Q ((-1000 : Int32)) (v2)))) : m_M_set l1 l2 l3 v Q := by
  refine cp_go (Nat.le_of_ble_eq_true rfl) (by decide +kernel) ?_
  show Gp 45 M_M_set 0 [(0, .ref (154)), (1, .int (l1)), (2, .int (l2)), (3, .int (l3))] [] v (QI Q)
  refine g_iload_n 1 e_M_set_0 rfl rfl ?_
  refine g_i2l e_M_set_1 ?_
  refine g_lconst (0 : Int64) e_M_set_2 (by decide) ?_
  refine g_ldc2 (v := (5 : Int64)) (hd := e_M_set_3) cl_M_108 ?_
  refine p_callSZ (d' := 1) (As := [.long ((l1).toInt64), .long ((0 : Int64)), .long ((5 : Int64))]) (rest := []) e_M_set_6 zm_M_in lS_M_95 rfl rfl (Nat.le_of_ble_eq_true rfl) (by decide) ?_
  refine cp_mono h (fun _ v2 ⟨x1, e1, h⟩ => ⟨x1, e1, ?_⟩)
  refine p_ifz_eq (tgt := 36) e_M_set_9 rfl (fun c3 => ?_) (fun c3 => ?_)
  · replace h := iteF h c3
    refine g_sipush (-1000 : Int32) e_M_set_36 (by decide) ?_
    exact p_retI e_M_set_39.1 rfl h
  · replace h := iteT h c3
    refine g_iload_n 1 e_M_set_12 rfl rfl ?_
    refine g_iconst (4 : Int32) e_M_set_13 (by decide) ?_
    refine g_icmp_ge (tgt := 28) e_M_set_14 rfl (fun c4 => ?_) (fun c4 => ?_)
    · replace h := iteF h c4
      refine g_aload_n 0 e_M_set_28 rfl rfl ?_
      refine g_iload_n 2 e_M_set_29 rfl rfl ?_
      refine p_callVZ (d' := 2) (ci := 10) (r := (RX10, TX10, 49)) (As := [.int (l2)]) (rest := []) e_M_set_30 zm_M_isDoer lV_M_118 sh_154 rfl rfl rfl rfl (Nat.le_of_ble_eq_true rfl) (by decide) ?_
      refine cp_mono h (fun _ v9 ⟨x8, e1, h⟩ => ⟨x8, e1, ?_⟩)
      refine p_ifz_ne (tgt := 40) e_M_set_33 rfl (fun c10 => ?_) (fun c10 => ?_)
      · replace h := iteT h c10
        exact g_sub [0, 1, 2, 3] rfl h
      · replace h := iteF h c10
        refine g_sipush (-1000 : Int32) e_M_set_36 (by decide) ?_
        exact p_retI e_M_set_39.1 rfl h
    · replace h := iteT h c4
      refine g_aload_n 0 e_M_set_17 rfl rfl ?_
      refine g_iload_n 2 e_M_set_18 rfl rfl ?_
      refine p_callVZ (d' := 2) (ci := 10) (r := (RX10, TX10, 49)) (As := [.int (l2)]) (rest := []) e_M_set_19 zm_M_isClock lV_M_114 sh_154 rfl rfl rfl rfl (Nat.le_of_ble_eq_true rfl) (by decide) ?_
      refine cp_mono h (fun _ v6 ⟨x5, e1, h⟩ => ⟨x5, e1, ?_⟩)
      refine p_ifz_eq (tgt := 36) e_M_set_22 rfl (fun c7 => ?_) (fun c7 => ?_)
      · replace h := iteF h c7
        refine g_sipush (-1000 : Int32) e_M_set_36 (by decide) ?_
        exact p_retI e_M_set_39.1 rfl h
      · replace h := iteT h c7
        refine g_goto (tgt := 40) e_M_set_25 rfl ?_
        exact g_sub [0, 1, 2, 3] rfl h
set_option maxHeartbeats 1000000 in
theorem s_M_set_40 {l1 : Int32} {l2 : Int32} {l3 : Int32} {v : Vv} {Q : Int32 → Vv → Prop} (h : if l1 = (0 : Int32) then (k_M_set_111 (l1) (l2) (l3) ((if l1 = (0 : Int32) then (-120 : Int32) else (if l1 = (3 : Int32) then (-1 : Int32) else (0 : Int32)))) ((120 : Int32)) (v) Q) else (if l1 = (1 : Int32) then (k_M_set_111 (l1) (l2) (l3) ((if l1 = (0 : Int32) then (-120 : Int32) else (if l1 = (3 : Int32) then (-1 : Int32) else (0 : Int32)))) ((5 : Int32)) (v) Q) else (m_M_in ((l3).toInt64) (((if l1 = (0 : Int32) then (-120 : Int32) else (if l1 = (3 : Int32) then (-1 : Int32) else (0 : Int32)))).toInt64) (((if l1 = (2 : Int32) then (1 : Int32) else (if l1 = (3 : Int32) then (1439 : Int32) else (if l1 = (4 : Int32) then (9 : Int32) else (63 : Int32))))).toInt64) (v) (fun x18 v19 => if x18 = true then (if l1 < (4 : Int32) then (m_M_told l2 l1 (v19) (fun x22 v23 => k_M_set_165 (l1) (l2) (l3) (x22) (v23) Q)) else (if l1 = (4 : Int32) then ((ib (l2) 5) ∧ (k_M_set_165 (l1) (l2) (l3) ((v19).1 163 (ix (l2))) (v19) Q)) else ((ib (l2) 5) ∧ (k_M_set_165 (l1) (l2) (l3) ((v19).1 164 (ix (l2))) (v19) Q)))) else (Q ((-1000 : Int32)) (v19)))))) : k_M_set_40 l1 l2 l3 v Q := by
  show Gp 45 M_M_set 40 [(0, .ref (154)), (1, .int (l1)), (2, .int (l2)), (3, .int (l3))] [] v (QI Q)
  refine g_iload_n 1 e_M_set_40 rfl rfl ?_
  have hj : ∀ m0 : Int32, m0 = (if l1 = (0 : Int32) then (-120 : Int32) else (if l1 = (3 : Int32) then (-1 : Int32) else (0 : Int32))) → Gp 45 M_M_set 59 [(0, .ref (154)), (1, .int (l1)), (2, .int (l2)), (3, .int (l3))] [.int (m0)] (v) (QI Q) := by
    intro m0 hm0
    subst hm0
    refine g_istore (L' := [(4, .int ((if l1 = (0 : Int32) then (-120 : Int32) else (if l1 = (3 : Int32) then (-1 : Int32) else (0 : Int32))))), (0, .ref (154)), (1, .int (l1)), (2, .int (l2)), (3, .int (l3))]) e_M_set_59 (by decide) rfl ?_
    refine g_iload_n 2 e_M_set_61 rfl rfl ?_
    refine g_if_ne (tgt := 70) e_M_set_62 rfl (fun c13 => ?_) (fun c13 => ?_)
    · replace h := iteF h c13
      refine g_iload_n 2 e_M_set_70 rfl rfl ?_
      refine g_iconst (1 : Int32) e_M_set_71 (by decide) ?_
      refine g_icmp_ne (tgt := 79) e_M_set_72 rfl (fun c14 => ?_) (fun c14 => ?_)
      · replace h := iteF h c14
        refine g_iload_n 2 e_M_set_79 rfl rfl ?_
        refine g_iconst (2 : Int32) e_M_set_80 (by decide) ?_
        have hj : ∀ m0 : Int32, m0 = (if l1 = (2 : Int32) then (1 : Int32) else (if l1 = (3 : Int32) then (1439 : Int32) else (if l1 = (4 : Int32) then (9 : Int32) else (63 : Int32)))) → Gp 45 M_M_set 111 [(0, .ref (154)), (1, .int (l1)), (2, .int (l2)), (3, .int (l3)), (4, .int ((if l1 = (0 : Int32) then (-120 : Int32) else (if l1 = (3 : Int32) then (-1 : Int32) else (0 : Int32)))))] [.int (m0)] (v) (QI Q) := by
          intro m0 hm0
          subst hm0
          refine g_istore (L' := [(5, .int ((if l1 = (2 : Int32) then (1 : Int32) else (if l1 = (3 : Int32) then (1439 : Int32) else (if l1 = (4 : Int32) then (9 : Int32) else (63 : Int32)))))), (0, .ref (154)), (1, .int (l1)), (2, .int (l2)), (3, .int (l3)), (4, .int ((if l1 = (0 : Int32) then (-120 : Int32) else (if l1 = (3 : Int32) then (-1 : Int32) else (0 : Int32)))))]) e_M_set_111 (by decide) rfl ?_
          refine g_iload_n 4 e_M_set_113 rfl rfl ?_
          refine g_i2l e_M_set_114 ?_
          refine g_iload 5 e_M_set_115 rfl ?_
          refine g_i2l e_M_set_117 ?_
          refine g_iload 0 e_M_set_118 rfl ?_
          refine g_i2l e_M_set_120 ?_
          refine p_callSZ (d' := 1) (As := [.long ((l3).toInt64), .long (((if l1 = (0 : Int32) then (-120 : Int32) else (if l1 = (3 : Int32) then (-1 : Int32) else (0 : Int32)))).toInt64), .long (((if l1 = (2 : Int32) then (1 : Int32) else (if l1 = (3 : Int32) then (1439 : Int32) else (if l1 = (4 : Int32) then (9 : Int32) else (63 : Int32))))).toInt64)]) (rest := []) e_M_set_121 zm_M_in lS_M_95 rfl rfl (Nat.le_of_ble_eq_true rfl) (by decide) ?_
          refine cp_mono h (fun _ v19 ⟨x18, e1, h⟩ => ⟨x18, e1, ?_⟩)
          refine p_ifz_ne (tgt := 131) e_M_set_124 rfl (fun c20 => ?_) (fun c20 => ?_)
          · replace h := iteT h c20
            refine g_iload_n 2 e_M_set_131 rfl rfl ?_
            refine g_iconst (4 : Int32) e_M_set_132 (by decide) ?_
            refine g_icmp_ge (tgt := 145) e_M_set_133 rfl (fun c21 => ?_) (fun c21 => ?_)
            · replace h := iteF h c21
              refine g_iload_n 2 e_M_set_145 rfl rfl ?_
              refine g_iconst (4 : Int32) e_M_set_146 (by decide) ?_
              refine g_icmp_ne (tgt := 159) e_M_set_147 rfl (fun c24 => ?_) (fun c24 => ?_)
              · replace h := iteF h c24
                refine g_aload_n 1 e_M_set_159 rfl rfl ?_
                refine p_getR (j := 164) e_M_set_160 sh_154 fl_M_41 rfl (rf_154_14 _) ?_
                refine g_iload_n 3 e_M_set_163 rfl rfl ?_
                obtain ⟨h26, h⟩ := h
                refine p_iald e_M_set_164 sh_164 h26 ?_
                exact g_sub [1, 2, 3, 4] rfl h
              · replace h := iteT h c24
                refine g_aload_n 1 e_M_set_150 rfl rfl ?_
                refine p_getR (j := 163) e_M_set_151 sh_154 fl_M_38 rfl (rf_154_13 _) ?_
                refine g_iload_n 3 e_M_set_154 rfl rfl ?_
                obtain ⟨h25, h⟩ := h
                refine p_iald e_M_set_155 sh_163 h25 ?_
                refine g_goto (tgt := 165) e_M_set_156 rfl ?_
                exact g_sub [1, 2, 3, 4] rfl h
            · replace h := iteT h c21
              refine g_aload_n 1 e_M_set_136 rfl rfl ?_
              refine g_iload_n 3 e_M_set_137 rfl rfl ?_
              refine g_iload_n 2 e_M_set_138 rfl rfl ?_
              refine p_callVI (d' := 44) (ci := 10) (r := (RX10, TX10, 49)) (As := [.int (l2), .int (l1)]) (rest := []) e_M_set_139 zm_M_told lV_M_121 sh_154 rfl rfl rfl rfl (Nat.le_of_ble_eq_true rfl) (by decide) ?_
              refine cp_mono h (fun _ v23 ⟨x22, e1, h⟩ => ⟨x22, e1, ?_⟩)
              refine g_goto (tgt := 165) e_M_set_142 rfl ?_
              exact g_sub [1, 2, 3, 4] rfl h
          · replace h := iteF h c20
            refine g_sipush (-1000 : Int32) e_M_set_127 (by decide) ?_
            exact p_retI e_M_set_130.1 rfl h
        refine g_icmp_ne (tgt := 88) e_M_set_81 rfl (fun c15 => ?_) (fun c15 => ?_)
        · refine g_iload_n 2 e_M_set_88 rfl rfl ?_
          refine g_iconst (3 : Int32) e_M_set_89 (by decide) ?_
          refine g_icmp_ne (tgt := 99) e_M_set_90 rfl (fun c16 => ?_) (fun c16 => ?_)
          · refine g_iload_n 2 e_M_set_99 rfl rfl ?_
            refine g_iconst (4 : Int32) e_M_set_100 (by decide) ?_
            refine g_icmp_ne (tgt := 109) e_M_set_101 rfl (fun c17 => ?_) (fun c17 => ?_)
            · refine g_bipush (63 : Int32) e_M_set_109 (by decide) ?_
              refine g_sub [1, 2, 3, 4, 0] rfl ?_
              exact hj ((63 : Int32)) (by simp only [if_neg c15, if_neg c16, if_neg c17])
            · refine g_bipush (9 : Int32) e_M_set_104 (by decide) ?_
              refine g_goto (tgt := 111) e_M_set_106 rfl ?_
              refine g_sub [1, 2, 3, 4, 0] rfl ?_
              exact hj ((9 : Int32)) (by simp only [if_neg c15, if_neg c16, if_pos c17])
          · refine g_sipush (1439 : Int32) e_M_set_93 (by decide) ?_
            refine g_goto (tgt := 111) e_M_set_96 rfl ?_
            refine g_sub [1, 2, 3, 4, 0] rfl ?_
            exact hj ((1439 : Int32)) (by simp only [if_neg c15, if_pos c16])
        · refine g_iconst (1 : Int32) e_M_set_84 (by decide) ?_
          refine g_goto (tgt := 111) e_M_set_85 rfl ?_
          refine g_sub [1, 2, 3, 4, 0] rfl ?_
          exact hj ((1 : Int32)) (by simp only [if_pos c15])
      · replace h := iteT h c14
        refine g_iconst (5 : Int32) e_M_set_75 (by decide) ?_
        refine g_goto (tgt := 111) e_M_set_76 rfl ?_
        exact g_sub [1, 2, 3, 4, 0] rfl h
    · replace h := iteT h c13
      refine g_bipush (120 : Int32) e_M_set_65 (by decide) ?_
      refine g_goto (tgt := 111) e_M_set_67 rfl ?_
      exact g_sub [1, 2, 3, 4, 0] rfl h
  refine g_if_ne (tgt := 49) e_M_set_41 rfl (fun c11 => ?_) (fun c11 => ?_)
  · refine g_iload_n 1 e_M_set_49 rfl rfl ?_
    refine g_iconst (3 : Int32) e_M_set_50 (by decide) ?_
    refine g_icmp_ne (tgt := 58) e_M_set_51 rfl (fun c12 => ?_) (fun c12 => ?_)
    · refine g_iconst (0 : Int32) e_M_set_58 (by decide) ?_
      exact hj ((0 : Int32)) (by simp only [if_neg c11, if_neg c12])
    · refine g_iconst (-1 : Int32) e_M_set_54 (by decide) ?_
      refine g_goto (tgt := 59) e_M_set_55 rfl ?_
      exact hj ((-1 : Int32)) (by simp only [if_neg c11, if_pos c12])
  · refine g_bipush (-120 : Int32) e_M_set_44 (by decide) ?_
    refine g_goto (tgt := 59) e_M_set_46 rfl ?_
    exact hj ((-120 : Int32)) (by simp only [if_pos c11])
set_option maxHeartbeats 1000000 in
theorem s_M_set_111 {l1 : Int32} {l2 : Int32} {l3 : Int32} {l4 : Int32} {t0 : Int32} {v : Vv} {Q : Int32 → Vv → Prop} (h : m_M_in ((l3).toInt64) ((l4).toInt64) ((t0).toInt64) (v) (fun x27 v28 => if x27 = true then (if l1 < (4 : Int32) then (m_M_told l2 l1 (v28) (fun x31 v32 => k_M_set_165 (l1) (l2) (l3) (x31) (v32) Q)) else (if l1 = (4 : Int32) then ((ib (l2) 5) ∧ (k_M_set_165 (l1) (l2) (l3) ((v28).1 163 (ix (l2))) (v28) Q)) else ((ib (l2) 5) ∧ (k_M_set_165 (l1) (l2) (l3) ((v28).1 164 (ix (l2))) (v28) Q)))) else (Q ((-1000 : Int32)) (v28)))) : k_M_set_111 l1 l2 l3 l4 t0 v Q := by
  show Gp 45 M_M_set 111 [(0, .ref (154)), (1, .int (l1)), (2, .int (l2)), (3, .int (l3)), (4, .int (l4))] [.int (t0)] v (QI Q)
  refine g_istore (L' := [(5, .int (t0)), (0, .ref (154)), (1, .int (l1)), (2, .int (l2)), (3, .int (l3)), (4, .int (l4))]) e_M_set_111 (by decide) rfl ?_
  refine g_iload_n 4 e_M_set_113 rfl rfl ?_
  refine g_i2l e_M_set_114 ?_
  refine g_iload 5 e_M_set_115 rfl ?_
  refine g_i2l e_M_set_117 ?_
  refine g_iload 0 e_M_set_118 rfl ?_
  refine g_i2l e_M_set_120 ?_
  refine p_callSZ (d' := 1) (As := [.long ((l3).toInt64), .long ((l4).toInt64), .long ((t0).toInt64)]) (rest := []) e_M_set_121 zm_M_in lS_M_95 rfl rfl (Nat.le_of_ble_eq_true rfl) (by decide) ?_
  refine cp_mono h (fun _ v28 ⟨x27, e1, h⟩ => ⟨x27, e1, ?_⟩)
  refine p_ifz_ne (tgt := 131) e_M_set_124 rfl (fun c29 => ?_) (fun c29 => ?_)
  · replace h := iteT h c29
    refine g_iload_n 2 e_M_set_131 rfl rfl ?_
    refine g_iconst (4 : Int32) e_M_set_132 (by decide) ?_
    refine g_icmp_ge (tgt := 145) e_M_set_133 rfl (fun c30 => ?_) (fun c30 => ?_)
    · replace h := iteF h c30
      refine g_iload_n 2 e_M_set_145 rfl rfl ?_
      refine g_iconst (4 : Int32) e_M_set_146 (by decide) ?_
      refine g_icmp_ne (tgt := 159) e_M_set_147 rfl (fun c33 => ?_) (fun c33 => ?_)
      · replace h := iteF h c33
        refine g_aload_n 1 e_M_set_159 rfl rfl ?_
        refine p_getR (j := 164) e_M_set_160 sh_154 fl_M_41 rfl (rf_154_14 _) ?_
        refine g_iload_n 3 e_M_set_163 rfl rfl ?_
        obtain ⟨h35, h⟩ := h
        refine p_iald e_M_set_164 sh_164 h35 ?_
        exact g_sub [1, 2, 3, 4] rfl h
      · replace h := iteT h c33
        refine g_aload_n 1 e_M_set_150 rfl rfl ?_
        refine p_getR (j := 163) e_M_set_151 sh_154 fl_M_38 rfl (rf_154_13 _) ?_
        refine g_iload_n 3 e_M_set_154 rfl rfl ?_
        obtain ⟨h34, h⟩ := h
        refine p_iald e_M_set_155 sh_163 h34 ?_
        refine g_goto (tgt := 165) e_M_set_156 rfl ?_
        exact g_sub [1, 2, 3, 4] rfl h
    · replace h := iteT h c30
      refine g_aload_n 1 e_M_set_136 rfl rfl ?_
      refine g_iload_n 3 e_M_set_137 rfl rfl ?_
      refine g_iload_n 2 e_M_set_138 rfl rfl ?_
      refine p_callVI (d' := 44) (ci := 10) (r := (RX10, TX10, 49)) (As := [.int (l2), .int (l1)]) (rest := []) e_M_set_139 zm_M_told lV_M_121 sh_154 rfl rfl rfl rfl (Nat.le_of_ble_eq_true rfl) (by decide) ?_
      refine cp_mono h (fun _ v32 ⟨x31, e1, h⟩ => ⟨x31, e1, ?_⟩)
      refine g_goto (tgt := 165) e_M_set_142 rfl ?_
      exact g_sub [1, 2, 3, 4] rfl h
  · replace h := iteF h c29
    refine g_sipush (-1000 : Int32) e_M_set_127 (by decide) ?_
    exact p_retI e_M_set_130.1 rfl h
set_option maxHeartbeats 1000000 in
theorem s_M_set_165 {l1 : Int32} {l2 : Int32} {l3 : Int32} {t0 : Int32} {v : Vv} {Q : Int32 → Vv → Prop} (h : if l1 = (0 : Int32) then ((ib (l2) 6) ∧ (Q (t0) (sI (v) 158 (ix (l2)) l3))) else (if l1 = (1 : Int32) then ((ib (l2) 6) ∧ (Q (t0) (sI (v) 159 (ix (l2)) l3))) else (if l1 = (2 : Int32) then ((ib (l2) 6) ∧ (Q (t0) (sI (v) 160 (ix (l2)) l3))) else (if l1 = (3 : Int32) then ((ib (l2) 6) ∧ (Q (t0) (sI (v) 161 (ix (l2)) l3))) else (if l1 = (4 : Int32) then ((ib (l2) 5) ∧ (Q (t0) (sI (v) 163 (ix (l2)) l3))) else ((ib (l2) 5) ∧ (Q (t0) (sI (v) 164 (ix (l2)) l3)))))))) : k_M_set_165 l1 l2 l3 t0 v Q := by
  show Gp 45 M_M_set 165 [(0, .ref (154)), (1, .int (l1)), (2, .int (l2)), (3, .int (l3))] [.int (t0)] v (QI Q)
  refine g_istore (L' := [(6, .int (t0)), (0, .ref (154)), (1, .int (l1)), (2, .int (l2)), (3, .int (l3))]) e_M_set_165 (by decide) rfl ?_
  refine g_iload_n 2 e_M_set_167 rfl rfl ?_
  refine g_if_ne (tgt := 181) e_M_set_168 rfl (fun c36 => ?_) (fun c36 => ?_)
  · replace h := iteF h c36
    refine g_iload_n 2 e_M_set_181 rfl rfl ?_
    refine g_iconst (1 : Int32) e_M_set_182 (by decide) ?_
    refine g_icmp_ne (tgt := 196) e_M_set_183 rfl (fun c38 => ?_) (fun c38 => ?_)
    · replace h := iteF h c38
      refine g_iload_n 2 e_M_set_196 rfl rfl ?_
      refine g_iconst (2 : Int32) e_M_set_197 (by decide) ?_
      refine g_icmp_ne (tgt := 211) e_M_set_198 rfl (fun c40 => ?_) (fun c40 => ?_)
      · replace h := iteF h c40
        refine g_iload_n 2 e_M_set_211 rfl rfl ?_
        refine g_iconst (3 : Int32) e_M_set_212 (by decide) ?_
        refine g_icmp_ne (tgt := 226) e_M_set_213 rfl (fun c42 => ?_) (fun c42 => ?_)
        · replace h := iteF h c42
          refine g_iload_n 2 e_M_set_226 rfl rfl ?_
          refine g_iconst (4 : Int32) e_M_set_227 (by decide) ?_
          refine g_icmp_ne (tgt := 241) e_M_set_228 rfl (fun c44 => ?_) (fun c44 => ?_)
          · replace h := iteF h c44
            refine g_aload_n 1 e_M_set_241 rfl rfl ?_
            refine p_getR (j := 164) e_M_set_242 sh_154 fl_M_41 rfl (rf_154_14 _) ?_
            refine g_iload_n 3 e_M_set_245 rfl rfl ?_
            refine g_iload_n 4 e_M_set_246 rfl rfl ?_
            obtain ⟨h46, h⟩ := h
            refine p_iast e_M_set_247 sh_164 h46 ?_
            refine g_iload 0 e_M_set_248 rfl ?_
            exact p_retI e_M_set_250.1 rfl h
          · replace h := iteT h c44
            refine g_aload_n 1 e_M_set_231 rfl rfl ?_
            refine p_getR (j := 163) e_M_set_232 sh_154 fl_M_38 rfl (rf_154_13 _) ?_
            refine g_iload_n 3 e_M_set_235 rfl rfl ?_
            refine g_iload_n 4 e_M_set_236 rfl rfl ?_
            obtain ⟨h45, h⟩ := h
            refine p_iast e_M_set_237 sh_163 h45 ?_
            refine g_goto (tgt := 248) e_M_set_238 rfl ?_
            refine g_iload 0 e_M_set_248 rfl ?_
            exact p_retI e_M_set_250.1 rfl h
        · replace h := iteT h c42
          refine g_aload_n 1 e_M_set_216 rfl rfl ?_
          refine p_getR (j := 161) e_M_set_217 sh_154 fl_M_32 rfl (rf_154_10 _) ?_
          refine g_iload_n 3 e_M_set_220 rfl rfl ?_
          refine g_iload_n 4 e_M_set_221 rfl rfl ?_
          obtain ⟨h43, h⟩ := h
          refine p_iast e_M_set_222 sh_161 h43 ?_
          refine g_goto (tgt := 248) e_M_set_223 rfl ?_
          refine g_iload 0 e_M_set_248 rfl ?_
          exact p_retI e_M_set_250.1 rfl h
      · replace h := iteT h c40
        refine g_aload_n 1 e_M_set_201 rfl rfl ?_
        refine p_getR (j := 160) e_M_set_202 sh_154 fl_M_29 rfl (rf_154_9 _) ?_
        refine g_iload_n 3 e_M_set_205 rfl rfl ?_
        refine g_iload_n 4 e_M_set_206 rfl rfl ?_
        obtain ⟨h41, h⟩ := h
        refine p_iast e_M_set_207 sh_160 h41 ?_
        refine g_goto (tgt := 248) e_M_set_208 rfl ?_
        refine g_iload 0 e_M_set_248 rfl ?_
        exact p_retI e_M_set_250.1 rfl h
    · replace h := iteT h c38
      refine g_aload_n 1 e_M_set_186 rfl rfl ?_
      refine p_getR (j := 159) e_M_set_187 sh_154 fl_M_26 rfl (rf_154_8 _) ?_
      refine g_iload_n 3 e_M_set_190 rfl rfl ?_
      refine g_iload_n 4 e_M_set_191 rfl rfl ?_
      obtain ⟨h39, h⟩ := h
      refine p_iast e_M_set_192 sh_159 h39 ?_
      refine g_goto (tgt := 248) e_M_set_193 rfl ?_
      refine g_iload 0 e_M_set_248 rfl ?_
      exact p_retI e_M_set_250.1 rfl h
  · replace h := iteT h c36
    refine g_aload_n 1 e_M_set_171 rfl rfl ?_
    refine p_getR (j := 158) e_M_set_172 sh_154 fl_M_23 rfl (rf_154_7 _) ?_
    refine g_iload_n 3 e_M_set_175 rfl rfl ?_
    refine g_iload_n 4 e_M_set_176 rfl rfl ?_
    obtain ⟨h37, h⟩ := h
    refine p_iast e_M_set_177 sh_158 h37 ?_
    refine g_goto (tgt := 248) e_M_set_178 rfl ?_
    refine g_iload 0 e_M_set_248 rfl ?_
    exact p_retI e_M_set_250.1 rfl h
set_option maxHeartbeats 1000000 in
theorem s_M_goesThrough {l1 : Int32} {l2 : Int32} {l3 : Int32} {v : Vv} {Q : Vv → Prop} (h : (ib (l2) 5) ∧ ((¬ (v).1 154 11 = (0 : Int32)) ∧ (k_M_goesThrough_25 (l2) (l3) (((6 : Int32) * l1)) ((((6 : Int32) * l1) + ((v).1 163 (ix (l2)) % (v).1 154 11))) ((0 : Int32)) (v) Q))) : m_M_goesThrough l1 l2 l3 v Q := by
  refine cp_go (Nat.le_of_ble_eq_true rfl) (by decide +kernel) ?_
  show Gp 45 M_M_goesThrough 0 [(0, .ref (154)), (1, .int (l1)), (2, .int (l2)), (3, .int (l3))] [] v (QV Q)
  refine g_bipush (6 : Int32) e_M_goesThrough_0 (by decide) ?_
  refine g_iload_n 1 e_M_goesThrough_2 rfl rfl ?_
  refine g_imul e_M_goesThrough_3 ?_
  refine g_istore (L' := [(4, .int (((6 : Int32) * l1))), (0, .ref (154)), (1, .int (l1)), (2, .int (l2)), (3, .int (l3))]) e_M_goesThrough_4 (by decide) rfl ?_
  refine g_iload 0 e_M_goesThrough_6 rfl ?_
  refine g_aload_n 1 e_M_goesThrough_8 rfl rfl ?_
  refine p_getR (j := 163) e_M_goesThrough_9 sh_154 fl_M_38 rfl (rf_154_13 _) ?_
  refine g_iload_n 3 e_M_goesThrough_12 rfl rfl ?_
  obtain ⟨h1, h⟩ := h
  refine p_iald e_M_goesThrough_13 sh_163 h1 ?_
  refine g_aload_n 1 e_M_goesThrough_14 rfl rfl ?_
  refine p_getI e_M_goesThrough_15 sh_154 fl_M_92 rfl ?_
  obtain ⟨h2, h⟩ := h
  refine g_irem e_M_goesThrough_18 h2 ?_
  refine g_iadd e_M_goesThrough_19 ?_
  refine g_istore (L' := [(5, .int ((((6 : Int32) * l1) + ((v).1 163 (ix (l2)) % (v).1 154 11)))), (4, .int (((6 : Int32) * l1))), (0, .ref (154)), (1, .int (l1)), (2, .int (l2)), (3, .int (l3))]) e_M_goesThrough_20 (by decide) rfl ?_
  refine g_iconst (0 : Int32) e_M_goesThrough_22 (by decide) ?_
  refine g_istore (L' := [(6, .int ((0 : Int32))), (5, .int ((((6 : Int32) * l1) + ((v).1 163 (ix (l2)) % (v).1 154 11)))), (4, .int (((6 : Int32) * l1))), (0, .ref (154)), (1, .int (l1)), (2, .int (l2)), (3, .int (l3))]) e_M_goesThrough_23 (by decide) rfl ?_
  exact g_sub [3, 5, 6, 2, 1, 0] rfl h
set_option maxHeartbeats 1000000 in
theorem s_M_goesThrough_25 {l2 : Int32} {l3 : Int32} {l4 : Int32} {l5 : Int32} {l6 : Int32} {v : Vv} {Q : Vv → Prop} (h : if l6 < (6 : Int32) then (k_M_goesThrough_35 (l2) (l3) (l4) (l5) (l6) ((0 : Int32)) (v) Q) else (Q (v))) : k_M_goesThrough_25 l2 l3 l4 l5 l6 v Q := by
  show Gp 45 M_M_goesThrough 25 [(0, .ref (154)), (2, .int (l2)), (3, .int (l3)), (4, .int (l4)), (5, .int (l5)), (6, .int (l6))] [] v (QV Q)
  refine g_iload 5 e_M_goesThrough_25 rfl ?_
  refine g_bipush (6 : Int32) e_M_goesThrough_27 (by decide) ?_
  refine g_icmp_ge (tgt := 174) e_M_goesThrough_29 rfl (fun c3 => ?_) (fun c3 => ?_)
  · replace h := iteF h c3
    exact p_retV e_M_goesThrough_174.1 rfl h
  · replace h := iteT h c3
    refine g_iconst (0 : Int32) e_M_goesThrough_32 (by decide) ?_
    refine g_istore (L' := [(7, .int ((0 : Int32))), (0, .ref (154)), (2, .int (l2)), (3, .int (l3)), (4, .int (l4)), (5, .int (l5)), (6, .int (l6))]) e_M_goesThrough_33 (by decide) rfl ?_
    exact g_sub [1, 2, 3, 4, 5, 6, 0] rfl h
set_option maxHeartbeats 1000000 in
theorem s_M_goesThrough_35 {l2 : Int32} {l3 : Int32} {l4 : Int32} {l5 : Int32} {l6 : Int32} {l7 : Int32} {v : Vv} {Q : Vv → Prop} (h : if l7 < (v).1 154 11 then ((ib (l2) 5) ∧ (if (((v).1 164 (ix (l2)) >>> (l6 &&& 31)) &&& (1 : Int32)) = (1 : Int32) then ((ib (l5) 192) ∧ ((ib ((l4 + l7)) 192) ∧ ((ib (l7) 6) ∧ (if (v).1 159 (ix (l7)) = l6 then (if (v).1 160 (ix (l7)) = (0 : Int32) then (m_M_does l2 l7 ((v).1 166 (ix ((l4 + l7)))) ((v).1 165 (ix (l5)) - (v).1 165 (ix ((l4 + l7)))) l3 (v) (fun x12 v13 => if x12 = true then (m_M_addsBy l2 l7 ((v13).1 166 (ix ((l4 + l7)))) ((v).1 165 (ix (l5)) - (v).1 165 (ix ((l4 + l7)))) (v13) (fun x15 v16 => k_M_goesThrough_162 (l2) (l3) (l4) (l5) (l6) (l7) (sI (sI (v16) 165 (ix ((l4 + l7))) ((v13).1 165 (ix ((l4 + l7))) + x15)) 166 (ix ((l4 + l7))) ((sI (v16) 165 (ix ((l4 + l7))) ((v13).1 165 (ix ((l4 + l7))) + x15)).1 166 (ix ((l4 + l7))) + (1 : Int32))) Q)) else (k_M_goesThrough_162 (l2) (l3) (l4) (l5) (l6) (l7) (v13) Q))) else (k_M_goesThrough_162 (l2) (l3) (l4) (l5) (l6) (l7) (v) Q)) else (k_M_goesThrough_162 (l2) (l3) (l4) (l5) (l6) (l7) (v) Q))))) else (k_M_goesThrough_168 (l2) (l3) (l4) (l5) (l6) (v) Q))) else (k_M_goesThrough_168 (l2) (l3) (l4) (l5) (l6) (v) Q)) : k_M_goesThrough_35 l2 l3 l4 l5 l6 l7 v Q := by
  show Gp 45 M_M_goesThrough 35 [(0, .ref (154)), (2, .int (l2)), (3, .int (l3)), (4, .int (l4)), (5, .int (l5)), (6, .int (l6)), (7, .int (l7))] [] v (QV Q)
  refine g_iload 6 e_M_goesThrough_35 rfl ?_
  refine g_aload_n 0 e_M_goesThrough_37 rfl rfl ?_
  refine p_getI e_M_goesThrough_38 sh_154 fl_M_92 rfl ?_
  refine g_icmp_ge (tgt := 168) e_M_goesThrough_41 rfl (fun c4 => ?_) (fun c4 => ?_)
  · replace h := iteF h c4
    exact g_sub [0, 1, 2, 3, 4, 5] rfl h
  · replace h := iteT h c4
    refine g_aload_n 0 e_M_goesThrough_44 rfl rfl ?_
    refine p_getR (j := 164) e_M_goesThrough_45 sh_154 fl_M_41 rfl (rf_154_14 _) ?_
    refine g_iload_n 1 e_M_goesThrough_48 rfl rfl ?_
    obtain ⟨h5, h⟩ := h
    refine p_iald e_M_goesThrough_49 sh_164 h5 ?_
    refine g_iload 5 e_M_goesThrough_50 rfl ?_
    refine g_ishr e_M_goesThrough_52 ?_
    refine g_iconst (1 : Int32) e_M_goesThrough_53 (by decide) ?_
    refine g_iand e_M_goesThrough_54 ?_
    refine g_iconst (1 : Int32) e_M_goesThrough_55 (by decide) ?_
    refine g_icmp_ne (tgt := 168) e_M_goesThrough_56 rfl (fun c6 => ?_) (fun c6 => ?_)
    · replace h := iteF h c6
      exact g_sub [0, 1, 2, 3, 4, 5] rfl h
    · replace h := iteT h c6
      refine g_iload 3 e_M_goesThrough_59 rfl ?_
      refine g_iload 6 e_M_goesThrough_61 rfl ?_
      refine g_iadd e_M_goesThrough_63 ?_
      refine g_istore (L' := [(8, .int ((l4 + l7))), (0, .ref (154)), (2, .int (l2)), (3, .int (l3)), (4, .int (l4)), (5, .int (l5)), (6, .int (l6)), (7, .int (l7))]) e_M_goesThrough_64 (by decide) rfl ?_
      refine g_aload_n 1 e_M_goesThrough_66 rfl rfl ?_
      refine p_getR (j := 165) e_M_goesThrough_67 sh_154 fl_M_44 rfl (rf_154_31 _) ?_
      refine g_iload 5 e_M_goesThrough_70 rfl ?_
      obtain ⟨h7, h⟩ := h
      refine p_iald e_M_goesThrough_72 sh_165 h7 ?_
      refine g_aload_n 1 e_M_goesThrough_73 rfl rfl ?_
      refine p_getR (j := 165) e_M_goesThrough_74 sh_154 fl_M_44 rfl (rf_154_31 _) ?_
      refine g_iload 0 e_M_goesThrough_77 rfl ?_
      obtain ⟨h8, h⟩ := h
      refine p_iald e_M_goesThrough_79 sh_165 h8 ?_
      refine g_isub e_M_goesThrough_80 ?_
      refine g_istore (L' := [(9, .int (((v).1 165 (ix (l5)) - (v).1 165 (ix ((l4 + l7)))))), (8, .int ((l4 + l7))), (0, .ref (154)), (2, .int (l2)), (3, .int (l3)), (4, .int (l4)), (5, .int (l5)), (6, .int (l6)), (7, .int (l7))]) e_M_goesThrough_81 (by decide) rfl ?_
      refine g_aload_n 2 e_M_goesThrough_83 rfl rfl ?_
      refine p_getR (j := 159) e_M_goesThrough_84 sh_154 fl_M_26 rfl (rf_154_8 _) ?_
      refine g_iload 8 e_M_goesThrough_87 rfl ?_
      obtain ⟨h9, h⟩ := h
      refine p_iald e_M_goesThrough_89 sh_159 h9 ?_
      refine g_iload 7 e_M_goesThrough_90 rfl ?_
      refine g_icmp_ne (tgt := 162) e_M_goesThrough_92 rfl (fun c10 => ?_) (fun c10 => ?_)
      · replace h := iteF h c10
        exact g_sub [2, 3, 4, 5, 6, 7, 8] rfl h
      · replace h := iteT h c10
        refine g_aload_n 2 e_M_goesThrough_95 rfl rfl ?_
        refine p_getR (j := 160) e_M_goesThrough_96 sh_154 fl_M_29 rfl (rf_154_9 _) ?_
        refine g_iload 8 e_M_goesThrough_99 rfl ?_
        refine p_iald e_M_goesThrough_101 sh_160 h9 ?_
        refine g_if_ne (tgt := 162) e_M_goesThrough_102 rfl (fun c11 => ?_) (fun c11 => ?_)
        · replace h := iteF h c11
          exact g_sub [2, 3, 4, 5, 6, 7, 8] rfl h
        · replace h := iteT h c11
          refine g_aload_n 2 e_M_goesThrough_105 rfl rfl ?_
          refine g_iload_n 3 e_M_goesThrough_106 rfl rfl ?_
          refine g_iload 8 e_M_goesThrough_107 rfl ?_
          refine g_aload_n 2 e_M_goesThrough_109 rfl rfl ?_
          refine p_getR (j := 166) e_M_goesThrough_110 sh_154 fl_M_47 rfl (rf_154_32 _) ?_
          refine g_iload 1 e_M_goesThrough_113 rfl ?_
          refine p_iald e_M_goesThrough_115 sh_166 h8 ?_
          refine g_iload 0 e_M_goesThrough_116 rfl ?_
          refine g_iload_n 4 e_M_goesThrough_118 rfl rfl ?_
          refine p_callVZ (d' := 1) (ci := 10) (r := (RX10, TX10, 49)) (As := [.int (l2), .int (l7), .int ((v).1 166 (ix ((l4 + l7)))), .int (((v).1 165 (ix (l5)) - (v).1 165 (ix ((l4 + l7))))), .int (l3)]) (rest := []) e_M_goesThrough_119 zm_M_does lV_M_353 sh_154 rfl rfl rfl rfl (Nat.le_of_ble_eq_true rfl) (by decide) ?_
          refine cp_mono h (fun _ v13 ⟨x12, e1, h⟩ => ⟨x12, e1, ?_⟩)
          refine p_ifz_eq (tgt := 162) e_M_goesThrough_122 rfl (fun c14 => ?_) (fun c14 => ?_)
          · replace h := iteF h c14
            exact g_sub [2, 3, 4, 5, 6, 7, 8] rfl h
          · replace h := iteT h c14
            refine g_aload_n 2 e_M_goesThrough_125 rfl rfl ?_
            refine p_getR (j := 165) e_M_goesThrough_126 sh_154 fl_M_44 rfl (rf_154_31 _) ?_
            refine g_iload 1 e_M_goesThrough_129 rfl ?_
            refine g_dup2 e_M_goesThrough_131 rfl rfl ?_
            refine p_iald e_M_goesThrough_132 sh_165 h8 ?_
            refine g_aload_n 2 e_M_goesThrough_133 rfl rfl ?_
            refine g_iload_n 3 e_M_goesThrough_134 rfl rfl ?_
            refine g_iload 8 e_M_goesThrough_135 rfl ?_
            refine g_aload_n 2 e_M_goesThrough_137 rfl rfl ?_
            refine p_getR (j := 166) e_M_goesThrough_138 sh_154 fl_M_47 rfl (rf_154_32 _) ?_
            refine g_iload 1 e_M_goesThrough_141 rfl ?_
            refine p_iald e_M_goesThrough_143 sh_166 h8 ?_
            refine g_iload 0 e_M_goesThrough_144 rfl ?_
            refine p_callVI (d' := 44) (ci := 10) (r := (RX10, TX10, 49)) (As := [.int (l2), .int (l7), .int ((v13).1 166 (ix ((l4 + l7)))), .int (((v).1 165 (ix (l5)) - (v).1 165 (ix ((l4 + l7)))))]) (rest := [.int ((v13).1 165 (ix ((l4 + l7)))), .int ((l4 + l7)), .ref (165)]) e_M_goesThrough_146 zm_M_addsBy lV_M_357 sh_154 rfl rfl rfl rfl (Nat.le_of_ble_eq_true rfl) (by decide) ?_
            refine cp_mono h (fun _ v16 ⟨x15, e1, h⟩ => ⟨x15, e1, ?_⟩)
            refine g_iadd e_M_goesThrough_149 ?_
            refine p_iast e_M_goesThrough_150 sh_165 h8 ?_
            refine g_aload_n 2 e_M_goesThrough_151 rfl rfl ?_
            refine p_getR (j := 166) e_M_goesThrough_152 sh_154 fl_M_47 rfl (rf_154_32 _) ?_
            refine g_iload 1 e_M_goesThrough_155 rfl ?_
            refine g_dup2 e_M_goesThrough_157 rfl rfl ?_
            refine p_iald e_M_goesThrough_158 sh_166 h8 ?_
            refine g_iconst (1 : Int32) e_M_goesThrough_159 (by decide) ?_
            refine g_iadd e_M_goesThrough_160 ?_
            refine p_iast e_M_goesThrough_161 sh_166 h8 ?_
            exact g_sub [2, 3, 4, 5, 6, 7, 8] rfl h
set_option maxHeartbeats 1000000 in
theorem s_M_goesThrough_162 {l2 : Int32} {l3 : Int32} {l4 : Int32} {l5 : Int32} {l6 : Int32} {l7 : Int32} {v : Vv} {Q : Vv → Prop} (h : k_M_goesThrough_35 (l2) (l3) (l4) (l5) (l6) ((l7 + (1 : Int32))) (v) Q) : k_M_goesThrough_162 l2 l3 l4 l5 l6 l7 v Q := by
  show Gp 45 M_M_goesThrough 162 [(0, .ref (154)), (2, .int (l2)), (3, .int (l3)), (4, .int (l4)), (5, .int (l5)), (6, .int (l6)), (7, .int (l7))] [] v (QV Q)
  refine g_iinc (v := (l7 + (1 : Int32))) (L' := [(7, .int ((l7 + (1 : Int32)))), (0, .ref (154)), (2, .int (l2)), (3, .int (l3)), (4, .int (l4)), (5, .int (l5)), (6, .int (l6))]) 6 e_M_goesThrough_162 rfl rfl (by decide) rfl ?_
  refine g_goto (tgt := 35) e_M_goesThrough_165 rfl ?_
  exact g_sub [1, 2, 3, 4, 5, 6, 0] rfl h
set_option maxHeartbeats 1000000 in
theorem s_M_goesThrough_168 {l2 : Int32} {l3 : Int32} {l4 : Int32} {l5 : Int32} {l6 : Int32} {v : Vv} {Q : Vv → Prop} (h : k_M_goesThrough_25 (l2) (l3) (l4) (l5) ((l6 + (1 : Int32))) (v) Q) : k_M_goesThrough_168 l2 l3 l4 l5 l6 v Q := by
  show Gp 45 M_M_goesThrough 168 [(0, .ref (154)), (2, .int (l2)), (3, .int (l3)), (4, .int (l4)), (5, .int (l5)), (6, .int (l6))] [] v (QV Q)
  refine g_iinc (v := (l6 + (1 : Int32))) (L' := [(6, .int ((l6 + (1 : Int32)))), (0, .ref (154)), (2, .int (l2)), (3, .int (l3)), (4, .int (l4)), (5, .int (l5))]) 5 e_M_goesThrough_168 rfl rfl (by decide) rfl ?_
  refine g_goto (tgt := 25) e_M_goesThrough_171 rfl ?_
  exact g_sub [1, 2, 3, 4, 5, 0] rfl h
set_option maxHeartbeats 1000000 in
theorem s_M_makes {l1 : Int32} {v : Vv} {Q : Vv → Prop} (h : k_M_makes_2 (l1) ((0 : Int32)) (v) Q) : m_M_makes l1 v Q := by
  refine cp_go (Nat.le_of_ble_eq_true rfl) (by decide +kernel) ?_
  show Gp 46 M_M_makes 0 [(0, .ref (154)), (1, .int (l1))] [] v (QV Q)
  refine g_iconst (0 : Int32) e_M_makes_0 (by decide) ?_
  refine g_istore_n (L' := [(2, .int ((0 : Int32))), (0, .ref (154)), (1, .int (l1))]) e_M_makes_1 rfl (by decide) rfl ?_
  exact g_sub [1, 2, 0] rfl h
set_option maxHeartbeats 1000000 in
theorem s_M_makes_2 {l1 : Int32} {l2 : Int32} {v : Vv} {Q : Vv → Prop} (h : if l2 < (v).1 154 11 then ((ib (l2) 6) ∧ ((ib ((((6 : Int32) * l1) + l2)) 192) ∧ (k_M_makes_2 (l1) ((l2 + (1 : Int32))) (sI (sI (v) 165 (ix ((((6 : Int32) * l1) + l2))) ((v).1 158 (ix (l2)) + ((60 : Int32) * (v).1 160 (ix (l2))))) 166 (ix ((((6 : Int32) * l1) + l2))) ((sI (v) 165 (ix ((((6 : Int32) * l1) + l2))) ((v).1 158 (ix (l2)) + ((60 : Int32) * (v).1 160 (ix (l2))))).1 160 (ix (l2)))) Q))) else ((ib (l1) 32) ∧ (k_M_makes_71 (l1) ((0 : Int32)) ((0 : Int32)) (sJ (v) 167 (ix (l1)) (1 : Int64)) Q))) : k_M_makes_2 l1 l2 v Q := by
  show Gp 46 M_M_makes 2 [(0, .ref (154)), (1, .int (l1)), (2, .int (l2))] [] v (QV Q)
  refine g_iload_n 2 e_M_makes_2 rfl rfl ?_
  refine g_aload_n 0 e_M_makes_3 rfl rfl ?_
  refine p_getI e_M_makes_4 sh_154 fl_M_92 rfl ?_
  refine g_icmp_ge (tgt := 60) e_M_makes_7 rfl (fun c1 => ?_) (fun c1 => ?_)
  · replace h := iteF h c1
    refine g_aload_n 0 e_M_makes_60 rfl rfl ?_
    refine p_getR (j := 167) e_M_makes_61 sh_154 fl_M_50 rfl (rf_154_33 _) ?_
    refine g_iload_n 1 e_M_makes_64 rfl rfl ?_
    refine g_lconst (1 : Int64) e_M_makes_65 (by decide) ?_
    obtain ⟨h4, h⟩ := h
    refine p_last e_M_makes_66 sh_167 h4 ?_
    refine g_iconst (0 : Int32) e_M_makes_67 (by decide) ?_
    refine g_istore_n (L' := [(2, .int ((0 : Int32))), (0, .ref (154)), (1, .int (l1))]) e_M_makes_68 rfl (by decide) rfl ?_
    refine g_iconst (0 : Int32) e_M_makes_69 (by decide) ?_
    refine g_istore_n (L' := [(3, .int ((0 : Int32))), (2, .int ((0 : Int32))), (0, .ref (154)), (1, .int (l1))]) e_M_makes_70 rfl (by decide) rfl ?_
    exact g_sub [2, 3, 1, 0] rfl h
  · replace h := iteT h c1
    refine g_aload_n 0 e_M_makes_10 rfl rfl ?_
    refine p_getR (j := 165) e_M_makes_11 sh_154 fl_M_44 rfl (rf_154_31 _) ?_
    refine g_bipush (6 : Int32) e_M_makes_14 (by decide) ?_
    refine g_iload_n 1 e_M_makes_16 rfl rfl ?_
    refine g_imul e_M_makes_17 ?_
    refine g_iload_n 2 e_M_makes_18 rfl rfl ?_
    refine g_iadd e_M_makes_19 ?_
    refine g_aload_n 0 e_M_makes_20 rfl rfl ?_
    refine p_getR (j := 158) e_M_makes_21 sh_154 fl_M_23 rfl (rf_154_7 _) ?_
    refine g_iload_n 2 e_M_makes_24 rfl rfl ?_
    obtain ⟨h2, h⟩ := h
    refine p_iald e_M_makes_25 sh_158 h2 ?_
    refine g_bipush (60 : Int32) e_M_makes_26 (by decide) ?_
    refine g_aload_n 0 e_M_makes_28 rfl rfl ?_
    refine p_getR (j := 160) e_M_makes_29 sh_154 fl_M_29 rfl (rf_154_9 _) ?_
    refine g_iload_n 2 e_M_makes_32 rfl rfl ?_
    refine p_iald e_M_makes_33 sh_160 h2 ?_
    refine g_imul e_M_makes_34 ?_
    refine g_iadd e_M_makes_35 ?_
    obtain ⟨h3, h⟩ := h
    refine p_iast e_M_makes_36 sh_165 h3 ?_
    refine g_aload_n 0 e_M_makes_37 rfl rfl ?_
    refine p_getR (j := 166) e_M_makes_38 sh_154 fl_M_47 rfl (rf_154_32 _) ?_
    refine g_bipush (6 : Int32) e_M_makes_41 (by decide) ?_
    refine g_iload_n 1 e_M_makes_43 rfl rfl ?_
    refine g_imul e_M_makes_44 ?_
    refine g_iload_n 2 e_M_makes_45 rfl rfl ?_
    refine g_iadd e_M_makes_46 ?_
    refine g_aload_n 0 e_M_makes_47 rfl rfl ?_
    refine p_getR (j := 160) e_M_makes_48 sh_154 fl_M_29 rfl (rf_154_9 _) ?_
    refine g_iload_n 2 e_M_makes_51 rfl rfl ?_
    refine p_iald e_M_makes_52 sh_160 h2 ?_
    refine p_iast e_M_makes_53 sh_166 h3 ?_
    refine g_iinc (v := (l2 + (1 : Int32))) (L' := [(2, .int ((l2 + (1 : Int32)))), (0, .ref (154)), (1, .int (l1))]) 2 e_M_makes_54 rfl rfl (by decide) rfl ?_
    refine g_goto (tgt := 2) e_M_makes_57 rfl ?_
    exact g_sub [1, 2, 0] rfl h
set_option maxHeartbeats 1000000 in
theorem s_M_makes_71 {l1 : Int32} {l2 : Int32} {l3 : Int32} {v : Vv} {Q : Vv → Prop} (h : if l3 < (v).1 154 15 then ((ib (l1) 32) ∧ (if (if ((l1 >>> (l3 &&& 31)) &&& (1 : Int32)) = (1 : Int32) then true else false) = true then (m_M_cameOf l3 (v) (fun x9 v10 => k_M_makes_125 (l1) (l2) (l3) (bI ((if ((l1 >>> (l3 &&& 31)) &&& (1 : Int32)) = (1 : Int32) then true else false))) ((x9).toInt64) ((v).2.1 167 (ix (l1))) (l1) (v10) Q)) else (m_M_cameOf l3 (v) (fun x11 v12 => k_M_makes_125 (l1) (l2) (l3) (bI ((if ((l1 >>> (l3 &&& 31)) &&& (1 : Int32)) = (1 : Int32) then true else false))) ((((100 : Int32) - x11)).toInt64) ((v).2.1 167 (ix (l1))) (l1) (v12) Q)))) else ((ib (l1) 32) ∧ (k_M_makes_188 (l1) ((0 : Int32)) (sI (sI (sI (v) 168 (ix (l1)) (0 : Int32)) 169 (ix (l1)) (1 : Int32)) 170 (ix (l1)) (-1 : Int32)) Q))) : k_M_makes_71 l1 l2 l3 v Q := by
  show Gp 46 M_M_makes 71 [(0, .ref (154)), (1, .int (l1)), (2, .int (l2)), (3, .int (l3))] [] v (QV Q)
  refine g_iload_n 3 e_M_makes_71 rfl rfl ?_
  refine g_aload_n 0 e_M_makes_72 rfl rfl ?_
  refine p_getI e_M_makes_73 sh_154 fl_M_99 rfl ?_
  refine g_icmp_ge (tgt := 165) e_M_makes_76 rfl (fun c5 => ?_) (fun c5 => ?_)
  · replace h := iteF h c5
    refine g_aload_n 0 e_M_makes_165 rfl rfl ?_
    refine p_getR (j := 168) e_M_makes_166 sh_154 fl_M_54 rfl (rf_154_34 _) ?_
    refine g_iload_n 1 e_M_makes_169 rfl rfl ?_
    refine g_iconst (0 : Int32) e_M_makes_170 (by decide) ?_
    obtain ⟨h13, h⟩ := h
    refine p_iast e_M_makes_171 sh_168 h13 ?_
    refine g_aload_n 0 e_M_makes_172 rfl rfl ?_
    refine p_getR (j := 169) e_M_makes_173 sh_154 fl_M_57 rfl (rf_154_35 _) ?_
    refine g_iload_n 1 e_M_makes_176 rfl rfl ?_
    refine g_iconst (1 : Int32) e_M_makes_177 (by decide) ?_
    refine p_iast e_M_makes_178 sh_169 h13 ?_
    refine g_aload_n 0 e_M_makes_179 rfl rfl ?_
    refine p_getR (j := 170) e_M_makes_180 sh_154 fl_M_60 rfl (rf_154_36 _) ?_
    refine g_iload_n 1 e_M_makes_183 rfl rfl ?_
    refine g_iconst (-1 : Int32) e_M_makes_184 (by decide) ?_
    refine p_iast e_M_makes_185 sh_170 h13 ?_
    refine g_iconst (0 : Int32) e_M_makes_186 (by decide) ?_
    refine g_istore_n (L' := [(3, .int ((0 : Int32))), (0, .ref (154)), (1, .int (l1)), (2, .int (l2))]) e_M_makes_187 rfl (by decide) rfl ?_
    exact g_sub [1, 2, 0] rfl h
  · replace h := iteT h c5
    refine g_iload_n 1 e_M_makes_79 rfl rfl ?_
    refine g_iload_n 3 e_M_makes_80 rfl rfl ?_
    refine g_ishr e_M_makes_81 ?_
    refine g_iconst (1 : Int32) e_M_makes_82 (by decide) ?_
    refine g_iand e_M_makes_83 ?_
    refine g_iconst (1 : Int32) e_M_makes_84 (by decide) ?_
    have hj : ∀ m0 : Bool, m0 = (if ((l1 >>> (l3 &&& 31)) &&& (1 : Int32)) = (1 : Int32) then true else false) → Gp 46 M_M_makes 93 [(0, .ref (154)), (1, .int (l1)), (2, .int (l2)), (3, .int (l3))] [.int (bI (m0))] (v) (QV Q) := by
      intro m0 hm0
      subst hm0
      refine g_istore (L' := [(4, .int (bI ((if ((l1 >>> (l3 &&& 31)) &&& (1 : Int32)) = (1 : Int32) then true else false)))), (0, .ref (154)), (1, .int (l1)), (2, .int (l2)), (3, .int (l3))]) e_M_makes_93 (by decide) rfl ?_
      refine g_aload_n 1 e_M_makes_95 rfl rfl ?_
      refine p_getR (j := 167) e_M_makes_96 sh_154 fl_M_50 rfl (rf_154_33 _) ?_
      refine g_iload_n 2 e_M_makes_99 rfl rfl ?_
      refine g_dup2 e_M_makes_100 rfl rfl ?_
      obtain ⟨h7, h⟩ := h
      refine p_lald e_M_makes_101 sh_167 h7 ?_
      refine g_iload 0 e_M_makes_102 rfl ?_
      refine p_ifz_eq (tgt := 116) e_M_makes_104 rfl (fun c8 => ?_) (fun c8 => ?_)
      · replace h := iteF h c8
        refine g_bipush (100 : Int32) e_M_makes_116 (by decide) ?_
        refine g_aload_n 1 e_M_makes_118 rfl rfl ?_
        refine g_iload_n 4 e_M_makes_119 rfl rfl ?_
        refine p_callVI (d' := 43) (ci := 10) (r := (RX10, TX10, 49)) (As := [.int (l3)]) (rest := [.int ((100 : Int32)), .long ((v).2.1 167 (ix (l1))), .int (l1), .ref (167)]) e_M_makes_120 zm_M_cameOf lV_M_127 sh_154 rfl rfl rfl rfl (Nat.le_of_ble_eq_true rfl) (by decide) ?_
        refine cp_mono h (fun _ v12 ⟨x11, e1, h⟩ => ⟨x11, e1, ?_⟩)
        refine g_isub e_M_makes_123 ?_
        refine g_i2l e_M_makes_124 ?_
        exact g_sub [1, 2, 3, 4, 0] rfl h
      · replace h := iteT h c8
        refine g_aload_n 1 e_M_makes_107 rfl rfl ?_
        refine g_iload_n 4 e_M_makes_108 rfl rfl ?_
        refine p_callVI (d' := 43) (ci := 10) (r := (RX10, TX10, 49)) (As := [.int (l3)]) (rest := [.long ((v).2.1 167 (ix (l1))), .int (l1), .ref (167)]) e_M_makes_109 zm_M_cameOf lV_M_127 sh_154 rfl rfl rfl rfl (Nat.le_of_ble_eq_true rfl) (by decide) ?_
        refine cp_mono h (fun _ v10 ⟨x9, e1, h⟩ => ⟨x9, e1, ?_⟩)
        refine g_i2l e_M_makes_112 ?_
        refine g_goto (tgt := 125) e_M_makes_113 rfl ?_
        exact g_sub [1, 2, 3, 4, 0] rfl h
    refine g_icmp_ne (tgt := 92) e_M_makes_85 rfl (fun c6 => ?_) (fun c6 => ?_)
    · refine g_iconst (0 : Int32) e_M_makes_92 (by decide) ?_
      exact hj (false) (by simp only [if_neg c6])
    · refine g_iconst (1 : Int32) e_M_makes_88 (by decide) ?_
      refine g_goto (tgt := 93) e_M_makes_89 rfl ?_
      exact hj (true) (by simp only [if_pos c6])
set_option maxHeartbeats 1000000 in
theorem s_M_makes_125 {l1 : Int32} {l2 : Int32} {l3 : Int32} {l4 : Int32} {t0 : Int64} {t1 : Int64} {t2 : Int32} {v : Vv} {Q : Vv → Prop} (h : (ib (t2) 32) ∧ (if l4 = (0 : Int32) then (k_M_makes_146 (l1) (l2) (l3) (l4) (sJ (v) 167 (ix (t2)) (t1 * t0)) Q) else (if (0 : Int32) < (sJ (v) 167 (ix (t2)) (t1 * t0)).1 154 11 then (m_M_goesThrough l1 l3 l2 (sJ (v) 167 (ix (t2)) (t1 * t0)) (fun v18 => k_M_makes_146 (l1) (l2) (l3) (l4) (v18) Q)) else (k_M_makes_146 (l1) (l2) (l3) (l4) (sJ (v) 167 (ix (t2)) (t1 * t0)) Q)))) : k_M_makes_125 l1 l2 l3 l4 t0 t1 t2 v Q := by
  show Gp 46 M_M_makes 125 [(0, .ref (154)), (1, .int (l1)), (2, .int (l2)), (3, .int (l3)), (4, .int (l4))] [.long (t0), .long (t1), .int (t2), .ref (167)] v (QV Q)
  refine g_lmul e_M_makes_125 ?_
  obtain ⟨h14, h⟩ := h
  refine p_last e_M_makes_126 sh_167 h14 ?_
  refine g_iload 4 e_M_makes_127 rfl ?_
  refine g_if_eq (tgt := 146) e_M_makes_129 rfl (fun c15 => ?_) (fun c15 => ?_)
  · replace h := iteT h c15
    exact g_sub [0, 1, 2, 3, 4] rfl h
  · replace h := iteF h c15
    refine g_aload_n 0 e_M_makes_132 rfl rfl ?_
    refine p_getI e_M_makes_133 sh_154 fl_M_92 rfl ?_
    refine g_if_le (tgt := 146) e_M_makes_136 rfl (fun c16 => ?_) (fun c16 => ?_)
    · replace h := iteF h c16
      exact g_sub [0, 1, 2, 3, 4] rfl h
    · replace h := iteT h c16
      refine g_aload_n 0 e_M_makes_139 rfl rfl ?_
      refine g_iload_n 1 e_M_makes_140 rfl rfl ?_
      refine g_iload_n 3 e_M_makes_141 rfl rfl ?_
      refine g_iload_n 2 e_M_makes_142 rfl rfl ?_
      refine p_callVV (d' := 45) (ci := 10) (r := (RX10, TX10, 49)) (As := [.int (l1), .int (l3), .int (l2)]) (rest := []) e_M_makes_143 zm_M_goesThrough lV_M_361 sh_154 rfl rfl rfl rfl (Nat.le_of_ble_eq_true rfl) (by decide) ?_
      refine cp_mono h (fun _ v18 ⟨e1, h⟩ => ⟨e1, ?_⟩)
      exact g_sub [0, 1, 2, 3, 4] rfl h
set_option maxHeartbeats 1000000 in
theorem s_M_makes_188 {l1 : Int32} {l3 : Int32} {v : Vv} {Q : Vv → Prop} (h : if l3 < (v).1 154 11 then ((ib (l1) 32) ∧ ((ib ((((6 : Int32) * l1) + l3)) 192) ∧ ((ib (l3) 6) ∧ (if (sI (v) 168 (ix (l1)) ((v).1 168 (ix (l1)) ||| (bI ((if (v).1 165 (ix ((((6 : Int32) * l1) + l3))) = (60 : Int32) then true else false)) <<< (l3 &&& 31)))).1 161 (ix (l3)) = (-1 : Int32) then (k_M_makes_300 (l1) (l3) (sI (v) 168 (ix (l1)) ((v).1 168 (ix (l1)) ||| (bI ((if (v).1 165 (ix ((((6 : Int32) * l1) + l3))) = (60 : Int32) then true else false)) <<< (l3 &&& 31)))) Q) else (m_M_dayOf (((sI (v) 168 (ix (l1)) ((v).1 168 (ix (l1)) ||| (bI ((if (v).1 165 (ix ((((6 : Int32) * l1) + l3))) = (60 : Int32) then true else false)) <<< (l3 &&& 31)))).1 161 (ix (l3)) - (sI (v) 168 (ix (l1)) ((v).1 168 (ix (l1)) ||| (bI ((if (v).1 165 (ix ((((6 : Int32) * l1) + l3))) = (60 : Int32) then true else false)) <<< (l3 &&& 31)))).1 165 (ix ((((6 : Int32) * l1) + l3)))) + (60 : Int32)) (sI (v) 168 (ix (l1)) ((v).1 168 (ix (l1)) ||| (bI ((if (v).1 165 (ix ((((6 : Int32) * l1) + l3))) = (60 : Int32) then true else false)) <<< (l3 &&& 31)))) (fun x25 v26 => if (v26).1 170 (ix (l1)) = (-1 : Int32) then (k_M_makes_292 (l1) (l3) (x25) (v26) Q) else (if (v26).1 170 (ix (l1)) = x25 then (k_M_makes_292 (l1) (l3) (x25) (v26) Q) else (k_M_makes_292 (l1) (l3) (x25) (sI (v26) 169 (ix (l1)) (0 : Int32)) Q)))))))) else ((ib (l1) 32) ∧ (Q (sI (v) 170 (ix (l1)) (if (v).1 169 (ix (l1)) = (1 : Int32) then (v).1 170 (ix (l1)) else (-1 : Int32)))))) : k_M_makes_188 l1 l3 v Q := by
  show Gp 46 M_M_makes 188 [(0, .ref (154)), (1, .int (l1)), (3, .int (l3))] [] v (QV Q)
  refine g_iload_n 2 e_M_makes_188 rfl rfl ?_
  refine g_aload_n 0 e_M_makes_189 rfl rfl ?_
  refine p_getI e_M_makes_190 sh_154 fl_M_92 rfl ?_
  refine g_icmp_ge (tgt := 306) e_M_makes_193 rfl (fun c19 => ?_) (fun c19 => ?_)
  · replace h := iteF h c19
    refine g_aload_n 0 e_M_makes_306 rfl rfl ?_
    refine p_getR (j := 170) e_M_makes_307 sh_154 fl_M_60 rfl (rf_154_36 _) ?_
    refine g_iload_n 1 e_M_makes_310 rfl rfl ?_
    refine g_aload_n 0 e_M_makes_311 rfl rfl ?_
    refine p_getR (j := 169) e_M_makes_312 sh_154 fl_M_57 rfl (rf_154_35 _) ?_
    refine g_iload_n 1 e_M_makes_315 rfl rfl ?_
    obtain ⟨h29, h⟩ := h
    refine p_iald e_M_makes_316 sh_169 h29 ?_
    refine g_iconst (1 : Int32) e_M_makes_317 (by decide) ?_
    have hj : ∀ m0 : Int32, m0 = (if (v).1 169 (ix (l1)) = (1 : Int32) then (v).1 170 (ix (l1)) else (-1 : Int32)) → Gp 46 M_M_makes 331 [(0, .ref (154)), (1, .int (l1)), (3, .int (l3))] [.int (m0), .int (l1), .ref (170)] (v) (QV Q) := by
      intro m0 hm0
      subst hm0
      refine p_iast e_M_makes_331 sh_170 h29 ?_
      exact p_retV e_M_makes_332.1 rfl h
    refine g_icmp_ne (tgt := 330) e_M_makes_318 rfl (fun c30 => ?_) (fun c30 => ?_)
    · refine g_iconst (-1 : Int32) e_M_makes_330 (by decide) ?_
      exact hj ((-1 : Int32)) (by simp only [if_neg c30])
    · refine g_aload_n 0 e_M_makes_321 rfl rfl ?_
      refine p_getR (j := 170) e_M_makes_322 sh_154 fl_M_60 rfl (rf_154_36 _) ?_
      refine g_iload_n 1 e_M_makes_325 rfl rfl ?_
      refine p_iald e_M_makes_326 sh_170 h29 ?_
      refine g_goto (tgt := 331) e_M_makes_327 rfl ?_
      exact hj ((v).1 170 (ix (l1))) (by simp only [if_pos c30])
  · replace h := iteT h c19
    refine g_aload_n 0 e_M_makes_196 rfl rfl ?_
    refine p_getR (j := 168) e_M_makes_197 sh_154 fl_M_54 rfl (rf_154_34 _) ?_
    refine g_iload_n 1 e_M_makes_200 rfl rfl ?_
    refine g_dup2 e_M_makes_201 rfl rfl ?_
    obtain ⟨h20, h⟩ := h
    refine p_iald e_M_makes_202 sh_168 h20 ?_
    refine g_aload_n 0 e_M_makes_203 rfl rfl ?_
    refine p_getR (j := 165) e_M_makes_204 sh_154 fl_M_44 rfl (rf_154_31 _) ?_
    refine g_bipush (6 : Int32) e_M_makes_207 (by decide) ?_
    refine g_iload_n 1 e_M_makes_209 rfl rfl ?_
    refine g_imul e_M_makes_210 ?_
    refine g_iload_n 2 e_M_makes_211 rfl rfl ?_
    refine g_iadd e_M_makes_212 ?_
    obtain ⟨h21, h⟩ := h
    refine p_iald e_M_makes_213 sh_165 h21 ?_
    refine g_bipush (60 : Int32) e_M_makes_214 (by decide) ?_
    have hj : ∀ m0 : Bool, m0 = (if (v).1 165 (ix ((((6 : Int32) * l1) + l3))) = (60 : Int32) then true else false) → Gp 46 M_M_makes 224 [(0, .ref (154)), (1, .int (l1)), (3, .int (l3))] [.int (bI (m0)), .int ((v).1 168 (ix (l1))), .int (l1), .ref (168)] (v) (QV Q) := by
      intro m0 hm0
      subst hm0
      refine g_iload_n 2 e_M_makes_224 rfl rfl ?_
      refine g_ishl e_M_makes_225 ?_
      refine g_ior e_M_makes_226 ?_
      refine p_iast e_M_makes_227 sh_168 h20 ?_
      refine g_aload_n 0 e_M_makes_228 rfl rfl ?_
      refine p_getR (j := 161) e_M_makes_229 sh_154 fl_M_32 rfl (rf_154_10 _) ?_
      refine g_iload_n 2 e_M_makes_232 rfl rfl ?_
      obtain ⟨h23, h⟩ := h
      refine p_iald e_M_makes_233 sh_161 h23 ?_
      refine g_iconst (-1 : Int32) e_M_makes_234 (by decide) ?_
      refine g_icmp_eq (tgt := 300) e_M_makes_235 rfl (fun c24 => ?_) (fun c24 => ?_)
      · replace h := iteT h c24
        exact g_sub [0, 1, 2] rfl h
      · replace h := iteF h c24
        refine g_aload_n 0 e_M_makes_238 rfl rfl ?_
        refine p_getR (j := 161) e_M_makes_239 sh_154 fl_M_32 rfl (rf_154_10 _) ?_
        refine g_iload_n 2 e_M_makes_242 rfl rfl ?_
        refine p_iald e_M_makes_243 sh_161 h23 ?_
        refine g_aload_n 0 e_M_makes_244 rfl rfl ?_
        refine p_getR (j := 165) e_M_makes_245 sh_154 fl_M_44 rfl (rf_154_31 _) ?_
        refine g_bipush (6 : Int32) e_M_makes_248 (by decide) ?_
        refine g_iload_n 1 e_M_makes_250 rfl rfl ?_
        refine g_imul e_M_makes_251 ?_
        refine g_iload_n 2 e_M_makes_252 rfl rfl ?_
        refine g_iadd e_M_makes_253 ?_
        refine p_iald e_M_makes_254 sh_165 h21 ?_
        refine g_isub e_M_makes_255 ?_
        refine g_bipush (60 : Int32) e_M_makes_256 (by decide) ?_
        refine g_iadd e_M_makes_258 ?_
        refine p_callSI (d' := 1) (As := [.int ((((sI (v) 168 (ix (l1)) ((v).1 168 (ix (l1)) ||| (bI ((if (v).1 165 (ix ((((6 : Int32) * l1) + l3))) = (60 : Int32) then true else false)) <<< (l3 &&& 31)))).1 161 (ix (l3)) - (sI (v) 168 (ix (l1)) ((v).1 168 (ix (l1)) ||| (bI ((if (v).1 165 (ix ((((6 : Int32) * l1) + l3))) = (60 : Int32) then true else false)) <<< (l3 &&& 31)))).1 165 (ix ((((6 : Int32) * l1) + l3)))) + (60 : Int32)))]) (rest := []) e_M_makes_259 zm_M_dayOf lS_M_365 rfl rfl (Nat.le_of_ble_eq_true rfl) (by decide) ?_
        refine cp_mono h (fun _ v26 ⟨x25, e1, h⟩ => ⟨x25, e1, ?_⟩)
        refine g_istore (L' := [(4, .int (x25)), (0, .ref (154)), (1, .int (l1)), (3, .int (l3))]) e_M_makes_262 (by decide) rfl ?_
        refine g_aload_n 1 e_M_makes_264 rfl rfl ?_
        refine p_getR (j := 170) e_M_makes_265 sh_154 fl_M_60 rfl (rf_154_36 _) ?_
        refine g_iload_n 2 e_M_makes_268 rfl rfl ?_
        refine p_iald e_M_makes_269 sh_170 h20 ?_
        refine g_iconst (-1 : Int32) e_M_makes_270 (by decide) ?_
        refine g_icmp_eq (tgt := 292) e_M_makes_271 rfl (fun c27 => ?_) (fun c27 => ?_)
        · replace h := iteT h c27
          exact g_sub [1, 2, 3, 0] rfl h
        · replace h := iteF h c27
          refine g_aload_n 1 e_M_makes_274 rfl rfl ?_
          refine p_getR (j := 170) e_M_makes_275 sh_154 fl_M_60 rfl (rf_154_36 _) ?_
          refine g_iload_n 2 e_M_makes_278 rfl rfl ?_
          refine p_iald e_M_makes_279 sh_170 h20 ?_
          refine g_iload 0 e_M_makes_280 rfl ?_
          refine g_icmp_eq (tgt := 292) e_M_makes_282 rfl (fun c28 => ?_) (fun c28 => ?_)
          · replace h := iteT h c28
            exact g_sub [1, 2, 3, 0] rfl h
          · replace h := iteF h c28
            refine g_aload_n 1 e_M_makes_285 rfl rfl ?_
            refine p_getR (j := 169) e_M_makes_286 sh_154 fl_M_57 rfl (rf_154_35 _) ?_
            refine g_iload_n 2 e_M_makes_289 rfl rfl ?_
            refine g_iconst (0 : Int32) e_M_makes_290 (by decide) ?_
            refine p_iast e_M_makes_291 sh_169 h20 ?_
            exact g_sub [1, 2, 3, 0] rfl h
    refine g_icmp_ne (tgt := 223) e_M_makes_216 rfl (fun c22 => ?_) (fun c22 => ?_)
    · refine g_iconst (0 : Int32) e_M_makes_223 (by decide) ?_
      exact hj (false) (by simp only [if_neg c22])
    · refine g_iconst (1 : Int32) e_M_makes_219 (by decide) ?_
      refine g_goto (tgt := 224) e_M_makes_220 rfl ?_
      exact hj (true) (by simp only [if_pos c22])
set_option maxHeartbeats 1000000 in
theorem s_M_makes_146 {l1 : Int32} {l2 : Int32} {l3 : Int32} {l4 : Int32} {v : Vv} {Q : Vv → Prop} (h : k_M_makes_71 (l1) ((l2 + bI ((if l4 = (0 : Int32) then false else true)))) ((l3 + (1 : Int32))) (v) Q) : k_M_makes_146 l1 l2 l3 l4 v Q := by
  show Gp 46 M_M_makes 146 [(0, .ref (154)), (1, .int (l1)), (2, .int (l2)), (3, .int (l3)), (4, .int (l4))] [] v (QV Q)
  refine g_iload_n 2 e_M_makes_146 rfl rfl ?_
  refine g_iload 4 e_M_makes_147 rfl ?_
  have hj : ∀ m0 : Bool, m0 = (if l4 = (0 : Int32) then false else true) → Gp 46 M_M_makes 157 [(0, .ref (154)), (1, .int (l1)), (2, .int (l2)), (3, .int (l3)), (4, .int (l4))] [.int (bI (m0)), .int (l2)] (v) (QV Q) := by
    intro m0 hm0
    subst hm0
    refine g_iadd e_M_makes_157 ?_
    refine g_istore_n (L' := [(2, .int ((l2 + bI ((if l4 = (0 : Int32) then false else true))))), (0, .ref (154)), (1, .int (l1)), (3, .int (l3)), (4, .int (l4))]) e_M_makes_158 rfl (by decide) rfl ?_
    refine g_iinc (v := (l3 + (1 : Int32))) (L' := [(3, .int ((l3 + (1 : Int32)))), (2, .int ((l2 + bI ((if l4 = (0 : Int32) then false else true))))), (0, .ref (154)), (1, .int (l1)), (4, .int (l4))]) 3 e_M_makes_159 rfl rfl (by decide) rfl ?_
    refine g_goto (tgt := 71) e_M_makes_162 rfl ?_
    exact g_sub [2, 3, 1, 0] rfl h
  refine g_if_eq (tgt := 156) e_M_makes_149 rfl (fun c31 => ?_) (fun c31 => ?_)
  · refine g_iconst (0 : Int32) e_M_makes_156 (by decide) ?_
    exact hj (false) (by simp only [if_pos c31])
  · refine g_iconst (1 : Int32) e_M_makes_152 (by decide) ?_
    refine g_goto (tgt := 157) e_M_makes_153 rfl ?_
    exact hj (true) (by simp only [if_neg c31])
set_option maxHeartbeats 1000000 in
theorem s_M_makes_300 {l1 : Int32} {l3 : Int32} {v : Vv} {Q : Vv → Prop} (h : k_M_makes_188 (l1) ((l3 + (1 : Int32))) (v) Q) : k_M_makes_300 l1 l3 v Q := by
  show Gp 46 M_M_makes 300 [(0, .ref (154)), (1, .int (l1)), (3, .int (l3))] [] v (QV Q)
  refine g_iinc (v := (l3 + (1 : Int32))) (L' := [(3, .int ((l3 + (1 : Int32)))), (0, .ref (154)), (1, .int (l1))]) 2 e_M_makes_300 rfl rfl (by decide) rfl ?_
  refine g_goto (tgt := 188) e_M_makes_303 rfl ?_
  exact g_sub [1, 2, 0] rfl h
set_option maxHeartbeats 1000000 in
theorem s_M_makes_292 {l1 : Int32} {l3 : Int32} {l4 : Int32} {v : Vv} {Q : Vv → Prop} (h : (ib (l1) 32) ∧ (k_M_makes_300 (l1) (l3) (sI (v) 170 (ix (l1)) l4) Q)) : k_M_makes_292 l1 l3 l4 v Q := by
  show Gp 46 M_M_makes 292 [(0, .ref (154)), (1, .int (l1)), (3, .int (l3)), (4, .int (l4))] [] v (QV Q)
  refine g_aload_n 0 e_M_makes_292 rfl rfl ?_
  refine p_getR (j := 170) e_M_makes_293 sh_154 fl_M_60 rfl (rf_154_36 _) ?_
  refine g_iload_n 1 e_M_makes_296 rfl rfl ?_
  refine g_iload 3 e_M_makes_297 rfl ?_
  obtain ⟨h32, h⟩ := h
  refine p_iast e_M_makes_299 sh_170 h32 ?_
  exact g_sub [0, 1, 2] rfl h
set_option maxHeartbeats 1000000 in
theorem s_M_gathers  {v : Vv} {Q : Vv → Prop} (h : k_M_gathers_7 ((0 : Int32)) (sJ (v) 154 37 (0 : Int64)) Q) : m_M_gathers  v Q := by
  refine cp_go (Nat.le_of_ble_eq_true rfl) (by decide +kernel) ?_
  show Gp 47 M_M_gathers 0 [(0, .ref (154))] [] v (QV Q)
  refine g_aload_n 0 e_M_gathers_0 rfl rfl ?_
  refine g_lconst (0 : Int64) e_M_gathers_1 (by decide) ?_
  refine p_putJ e_M_gathers_2 sh_154 fp_M_368 rfl ?_
  refine g_iconst (0 : Int32) e_M_gathers_5 (by decide) ?_
  refine g_istore_n (L' := [(1, .int ((0 : Int32))), (0, .ref (154))]) e_M_gathers_6 rfl (by decide) rfl ?_
  exact g_sub [1, 0] rfl h
set_option maxHeartbeats 1000000 in
theorem s_M_gathers_7 {l1 : Int32} {v : Vv} {Q : Vv → Prop} (h : m_M_worlds  (v) (fun x1 v2 => if l1 < x1 then (m_M_makes l1 (v2) (fun v5 => (ib (l1) 32) ∧ (k_M_gathers_7 ((l1 + (1 : Int32))) (sJ (v5) 154 37 ((v5).2.1 154 37 + (if (v5).1 169 (ix (l1)) = (1 : Int32) then (v5).2.1 167 (ix (l1)) else (0 : Int64)))) Q))) else (Q (v2)))) : k_M_gathers_7 l1 v Q := by
  show Gp 47 M_M_gathers 7 [(0, .ref (154)), (1, .int (l1))] [] v (QV Q)
  refine g_iload_n 1 e_M_gathers_7 rfl rfl ?_
  refine g_aload_n 0 e_M_gathers_8 rfl rfl ?_
  refine p_callVI (d' := 1) (ci := 10) (r := (RX10, TX10, 49)) (As := []) (rest := [.int (l1)]) e_M_gathers_9 zm_M_worlds lV_M_371 sh_154 rfl rfl rfl rfl (Nat.le_of_ble_eq_true rfl) (by decide) ?_
  refine cp_mono h (fun _ v2 ⟨x1, e1, h⟩ => ⟨x1, e1, ?_⟩)
  refine g_icmp_ge (tgt := 55) e_M_gathers_12 rfl (fun c3 => ?_) (fun c3 => ?_)
  · replace h := iteF h c3
    exact p_retV e_M_gathers_55.1 rfl h
  · replace h := iteT h c3
    refine g_aload_n 0 e_M_gathers_15 rfl rfl ?_
    refine g_iload_n 1 e_M_gathers_16 rfl rfl ?_
    refine p_callVV (d' := 46) (ci := 10) (r := (RX10, TX10, 49)) (As := [.int (l1)]) (rest := []) e_M_gathers_17 zm_M_makes lV_M_374 sh_154 rfl rfl rfl rfl (Nat.le_of_ble_eq_true rfl) (by decide) ?_
    refine cp_mono h (fun _ v5 ⟨e1, h⟩ => ⟨e1, ?_⟩)
    refine g_aload_n 0 e_M_gathers_20 rfl rfl ?_
    refine g_dup e_M_gathers_21 rfl ?_
    refine p_getJ e_M_gathers_22 sh_154 fl_M_368 rfl ?_
    refine g_aload_n 0 e_M_gathers_25 rfl rfl ?_
    refine p_getR (j := 169) e_M_gathers_26 sh_154 fl_M_57 rfl (rf_154_35 _) ?_
    refine g_iload_n 1 e_M_gathers_29 rfl rfl ?_
    obtain ⟨h6, h⟩ := h
    refine p_iald e_M_gathers_30 sh_169 h6 ?_
    refine g_iconst (1 : Int32) e_M_gathers_31 (by decide) ?_
    have hj : ∀ m0 : Int64, m0 = (if (v5).1 169 (ix (l1)) = (1 : Int32) then (v5).2.1 167 (ix (l1)) else (0 : Int64)) → Gp 47 M_M_gathers 45 [(0, .ref (154)), (1, .int (l1))] [.long (m0), .long ((v5).2.1 154 37), .ref (154)] (v5) (QV Q) := by
      intro m0 hm0
      subst hm0
      refine g_ladd e_M_gathers_45 ?_
      refine p_putJ e_M_gathers_46 sh_154 fp_M_368 rfl ?_
      refine g_iinc (v := (l1 + (1 : Int32))) (L' := [(1, .int ((l1 + (1 : Int32)))), (0, .ref (154))]) 1 e_M_gathers_49 rfl rfl (by decide) rfl ?_
      refine g_goto (tgt := 7) e_M_gathers_52 rfl ?_
      exact g_sub [1, 0] rfl h
    refine g_icmp_ne (tgt := 44) e_M_gathers_32 rfl (fun c7 => ?_) (fun c7 => ?_)
    · refine g_lconst (0 : Int64) e_M_gathers_44 (by decide) ?_
      exact hj ((0 : Int64)) (by simp only [if_neg c7])
    · refine g_aload_n 0 e_M_gathers_35 rfl rfl ?_
      refine p_getR (j := 167) e_M_gathers_36 sh_154 fl_M_50 rfl (rf_154_33 _) ?_
      refine g_iload_n 1 e_M_gathers_39 rfl rfl ?_
      refine p_lald e_M_gathers_40 sh_167 h6 ?_
      refine g_goto (tgt := 45) e_M_gathers_41 rfl ?_
      exact hj ((v5).2.1 167 (ix (l1))) (by simp only [if_pos c7])
set_option maxHeartbeats 1000000 in
theorem s_M_at {l1 : Int32} {l2 : Int32} {l3 : Int32} {v : Vv} {Q : Int32 → Vv → Prop} (h : m_M_isClock l1 (v) (fun x1 v2 => if x1 = true then (m_M_isWorld l2 (v2) (fun x4 v5 => if x4 = true then (m_M_in ((l3).toInt64) (0 : Int64) (2 : Int64) (v5) (fun x7 v8 => if x7 = true then (m_M_makes l2 (v8) (fun v11 => if l3 = (0 : Int32) then ((ib ((((6 : Int32) * l2) + l1)) 192) ∧ (Q ((v11).1 165 (ix ((((6 : Int32) * l2) + l1)))) (v11))) else (if l3 = (1 : Int32) then ((ib ((((6 : Int32) * l2) + l1)) 192) ∧ (Q ((v11).1 166 (ix ((((6 : Int32) * l2) + l1)))) (v11))) else ((ib (l2) 32) ∧ (Q ((((v11).1 168 (ix (l2)) >>> (l1 &&& 31)) &&& (1 : Int32))) (v11)))))) else (Q ((-100000 : Int32)) (v8)))) else (Q ((-100000 : Int32)) (v5)))) else (Q ((-100000 : Int32)) (v2)))) : m_M_at l1 l2 l3 v Q := by
  refine cp_go (Nat.le_of_ble_eq_true rfl) (by decide +kernel) ?_
  show Gp 47 M_M_at 0 [(0, .ref (154)), (1, .int (l1)), (2, .int (l2)), (3, .int (l3))] [] v (QI Q)
  refine g_aload_n 0 e_M_at_0 rfl rfl ?_
  refine g_iload_n 1 e_M_at_1 rfl rfl ?_
  refine p_callVZ (d' := 2) (ci := 10) (r := (RX10, TX10, 49)) (As := [.int (l1)]) (rest := []) e_M_at_2 zm_M_isClock lV_M_114 sh_154 rfl rfl rfl rfl (Nat.le_of_ble_eq_true rfl) (by decide) ?_
  refine cp_mono h (fun _ v2 ⟨x1, e1, h⟩ => ⟨x1, e1, ?_⟩)
  refine p_ifz_eq (tgt := 28) e_M_at_5 rfl (fun c3 => ?_) (fun c3 => ?_)
  · replace h := iteF h c3
    refine g_ldcw (v := (-100000 : Int32)) (hd := e_M_at_28) ci_M_383 ?_
    exact p_retI e_M_at_31.1 rfl h
  · replace h := iteT h c3
    refine g_aload_n 0 e_M_at_8 rfl rfl ?_
    refine g_iload_n 2 e_M_at_9 rfl rfl ?_
    refine p_callVZ (d' := 2) (ci := 10) (r := (RX10, TX10, 49)) (As := [.int (l2)]) (rest := []) e_M_at_10 zm_M_isWorld lV_M_378 sh_154 rfl rfl rfl rfl (Nat.le_of_ble_eq_true rfl) (by decide) ?_
    refine cp_mono h (fun _ v5 ⟨x4, e1, h⟩ => ⟨x4, e1, ?_⟩)
    refine p_ifz_eq (tgt := 28) e_M_at_13 rfl (fun c6 => ?_) (fun c6 => ?_)
    · replace h := iteF h c6
      refine g_ldcw (v := (-100000 : Int32)) (hd := e_M_at_28) ci_M_383 ?_
      exact p_retI e_M_at_31.1 rfl h
    · replace h := iteT h c6
      refine g_iload_n 3 e_M_at_16 rfl rfl ?_
      refine g_i2l e_M_at_17 ?_
      refine g_lconst (0 : Int64) e_M_at_18 (by decide) ?_
      refine g_ldc2 (v := (2 : Int64)) (hd := e_M_at_19) cl_M_381 ?_
      refine p_callSZ (d' := 1) (As := [.long ((l3).toInt64), .long ((0 : Int64)), .long ((2 : Int64))]) (rest := []) e_M_at_22 zm_M_in lS_M_95 rfl rfl (Nat.le_of_ble_eq_true rfl) (by decide) ?_
      refine cp_mono h (fun _ v8 ⟨x7, e1, h⟩ => ⟨x7, e1, ?_⟩)
      refine p_ifz_ne (tgt := 32) e_M_at_25 rfl (fun c9 => ?_) (fun c9 => ?_)
      · replace h := iteT h c9
        refine g_aload_n 0 e_M_at_32 rfl rfl ?_
        refine g_iload_n 2 e_M_at_33 rfl rfl ?_
        refine p_callVV (d' := 46) (ci := 10) (r := (RX10, TX10, 49)) (As := [.int (l2)]) (rest := []) e_M_at_34 zm_M_makes lV_M_374 sh_154 rfl rfl rfl rfl (Nat.le_of_ble_eq_true rfl) (by decide) ?_
        refine cp_mono h (fun _ v11 ⟨e1, h⟩ => ⟨e1, ?_⟩)
        refine g_bipush (6 : Int32) e_M_at_37 (by decide) ?_
        refine g_iload_n 2 e_M_at_39 rfl rfl ?_
        refine g_imul e_M_at_40 ?_
        refine g_iload_n 1 e_M_at_41 rfl rfl ?_
        refine g_iadd e_M_at_42 ?_
        refine g_istore (L' := [(4, .int ((((6 : Int32) * l2) + l1))), (0, .ref (154)), (1, .int (l1)), (2, .int (l2)), (3, .int (l3))]) e_M_at_43 (by decide) rfl ?_
        refine g_iload_n 4 e_M_at_45 rfl rfl ?_
        refine g_if_ne (tgt := 59) e_M_at_46 rfl (fun c12 => ?_) (fun c12 => ?_)
        · replace h := iteF h c12
          refine g_iload_n 4 e_M_at_59 rfl rfl ?_
          refine g_iconst (1 : Int32) e_M_at_60 (by decide) ?_
          refine g_icmp_ne (tgt := 74) e_M_at_61 rfl (fun c14 => ?_) (fun c14 => ?_)
          · replace h := iteF h c14
            refine g_aload_n 1 e_M_at_74 rfl rfl ?_
            refine p_getR (j := 168) e_M_at_75 sh_154 fl_M_54 rfl (rf_154_34 _) ?_
            refine g_iload_n 3 e_M_at_78 rfl rfl ?_
            obtain ⟨h16, h⟩ := h
            refine p_iald e_M_at_79 sh_168 h16 ?_
            refine g_iload_n 2 e_M_at_80 rfl rfl ?_
            refine g_ishr e_M_at_81 ?_
            refine g_iconst (1 : Int32) e_M_at_82 (by decide) ?_
            refine g_iand e_M_at_83 ?_
            exact p_retI e_M_at_84.1 rfl h
          · replace h := iteT h c14
            refine g_aload_n 1 e_M_at_64 rfl rfl ?_
            refine p_getR (j := 166) e_M_at_65 sh_154 fl_M_47 rfl (rf_154_32 _) ?_
            refine g_iload 0 e_M_at_68 rfl ?_
            obtain ⟨h15, h⟩ := h
            refine p_iald e_M_at_70 sh_166 h15 ?_
            refine g_goto (tgt := 84) e_M_at_71 rfl ?_
            exact p_retI e_M_at_84.1 rfl h
        · replace h := iteT h c12
          refine g_aload_n 1 e_M_at_49 rfl rfl ?_
          refine p_getR (j := 165) e_M_at_50 sh_154 fl_M_44 rfl (rf_154_31 _) ?_
          refine g_iload 0 e_M_at_53 rfl ?_
          obtain ⟨h13, h⟩ := h
          refine p_iald e_M_at_55 sh_165 h13 ?_
          refine g_goto (tgt := 84) e_M_at_56 rfl ?_
          exact p_retI e_M_at_84.1 rfl h
      · replace h := iteF h c9
        refine g_ldcw (v := (-100000 : Int32)) (hd := e_M_at_28) ci_M_383 ?_
        exact p_retI e_M_at_31.1 rfl h
set_option maxHeartbeats 1000000 in
theorem s_M_right {l1 : Int32} {l2 : Int32} {v : Vv} {Q : Int32 → Vv → Prop} (h : m_M_isWorld l1 (v) (fun x1 v2 => if x1 = true then (m_M_in ((l2).toInt64) (0 : Int64) (2 : Int64) (v2) (fun x4 v5 => if x4 = true then (m_M_makes l1 (v5) (fun v8 => if l2 = (0 : Int32) then ((ib (l1) 32) ∧ (Q ((v8).1 168 (ix (l1))) (v8))) else (if l2 = (1 : Int32) then ((ib (l1) 32) ∧ (Q ((v8).1 169 (ix (l1))) (v8))) else ((ib (l1) 32) ∧ (Q ((v8).1 170 (ix (l1))) (v8)))))) else (Q ((-100000 : Int32)) (v5)))) else (Q ((-100000 : Int32)) (v2)))) : m_M_right l1 l2 v Q := by
  refine cp_go (Nat.le_of_ble_eq_true rfl) (by decide +kernel) ?_
  show Gp 47 M_M_right 0 [(0, .ref (154)), (1, .int (l1)), (2, .int (l2))] [] v (QI Q)
  refine g_aload_n 0 e_M_right_0 rfl rfl ?_
  refine g_iload_n 1 e_M_right_1 rfl rfl ?_
  refine p_callVZ (d' := 2) (ci := 10) (r := (RX10, TX10, 49)) (As := [.int (l1)]) (rest := []) e_M_right_2 zm_M_isWorld lV_M_378 sh_154 rfl rfl rfl rfl (Nat.le_of_ble_eq_true rfl) (by decide) ?_
  refine cp_mono h (fun _ v2 ⟨x1, e1, h⟩ => ⟨x1, e1, ?_⟩)
  refine p_ifz_eq (tgt := 20) e_M_right_5 rfl (fun c3 => ?_) (fun c3 => ?_)
  · replace h := iteF h c3
    refine g_ldcw (v := (-100000 : Int32)) (hd := e_M_right_20) ci_M_383 ?_
    exact p_retI e_M_right_23.1 rfl h
  · replace h := iteT h c3
    refine g_iload_n 2 e_M_right_8 rfl rfl ?_
    refine g_i2l e_M_right_9 ?_
    refine g_lconst (0 : Int64) e_M_right_10 (by decide) ?_
    refine g_ldc2 (v := (2 : Int64)) (hd := e_M_right_11) cl_M_381 ?_
    refine p_callSZ (d' := 1) (As := [.long ((l2).toInt64), .long ((0 : Int64)), .long ((2 : Int64))]) (rest := []) e_M_right_14 zm_M_in lS_M_95 rfl rfl (Nat.le_of_ble_eq_true rfl) (by decide) ?_
    refine cp_mono h (fun _ v5 ⟨x4, e1, h⟩ => ⟨x4, e1, ?_⟩)
    refine p_ifz_ne (tgt := 24) e_M_right_17 rfl (fun c6 => ?_) (fun c6 => ?_)
    · replace h := iteT h c6
      refine g_aload_n 0 e_M_right_24 rfl rfl ?_
      refine g_iload_n 1 e_M_right_25 rfl rfl ?_
      refine p_callVV (d' := 46) (ci := 10) (r := (RX10, TX10, 49)) (As := [.int (l1)]) (rest := []) e_M_right_26 zm_M_makes lV_M_374 sh_154 rfl rfl rfl rfl (Nat.le_of_ble_eq_true rfl) (by decide) ?_
      refine cp_mono h (fun _ v8 ⟨e1, h⟩ => ⟨e1, ?_⟩)
      refine g_iload_n 2 e_M_right_29 rfl rfl ?_
      refine g_if_ne (tgt := 42) e_M_right_30 rfl (fun c9 => ?_) (fun c9 => ?_)
      · replace h := iteF h c9
        refine g_iload_n 2 e_M_right_42 rfl rfl ?_
        refine g_iconst (1 : Int32) e_M_right_43 (by decide) ?_
        refine g_icmp_ne (tgt := 56) e_M_right_44 rfl (fun c11 => ?_) (fun c11 => ?_)
        · replace h := iteF h c11
          refine g_aload_n 0 e_M_right_56 rfl rfl ?_
          refine p_getR (j := 170) e_M_right_57 sh_154 fl_M_60 rfl (rf_154_36 _) ?_
          refine g_iload_n 1 e_M_right_60 rfl rfl ?_
          obtain ⟨h13, h⟩ := h
          refine p_iald e_M_right_61 sh_170 h13 ?_
          exact p_retI e_M_right_62.1 rfl h
        · replace h := iteT h c11
          refine g_aload_n 0 e_M_right_47 rfl rfl ?_
          refine p_getR (j := 169) e_M_right_48 sh_154 fl_M_57 rfl (rf_154_35 _) ?_
          refine g_iload_n 1 e_M_right_51 rfl rfl ?_
          obtain ⟨h12, h⟩ := h
          refine p_iald e_M_right_52 sh_169 h12 ?_
          refine g_goto (tgt := 62) e_M_right_53 rfl ?_
          exact p_retI e_M_right_62.1 rfl h
      · replace h := iteT h c9
        refine g_aload_n 0 e_M_right_33 rfl rfl ?_
        refine p_getR (j := 168) e_M_right_34 sh_154 fl_M_54 rfl (rf_154_34 _) ?_
        refine g_iload_n 1 e_M_right_37 rfl rfl ?_
        obtain ⟨h10, h⟩ := h
        refine p_iald e_M_right_38 sh_168 h10 ?_
        refine g_goto (tgt := 62) e_M_right_39 rfl ?_
        exact p_retI e_M_right_62.1 rfl h
    · replace h := iteF h c6
      refine g_ldcw (v := (-100000 : Int32)) (hd := e_M_right_20) ci_M_383 ?_
      exact p_retI e_M_right_23.1 rfl h
set_option maxHeartbeats 1000000 in
theorem s_M_live {l1 : Int32} {v : Vv} {Q : Int32 → Vv → Prop} (h : m_M_isWorld l1 (v) (fun x1 v2 => if x1 = true then (m_M_makes l1 (v2) (fun v5 => k_M_live_18 (l1) ((0 : Int32)) (v5) Q)) else (Q ((-2 : Int32)) (v2)))) : m_M_live l1 v Q := by
  refine cp_go (Nat.le_of_ble_eq_true rfl) (by decide +kernel) ?_
  show Gp 47 M_M_live 0 [(0, .ref (154)), (1, .int (l1))] [] v (QI Q)
  refine g_aload_n 0 e_M_live_0 rfl rfl ?_
  refine g_iload_n 1 e_M_live_1 rfl rfl ?_
  refine p_callVZ (d' := 2) (ci := 10) (r := (RX10, TX10, 49)) (As := [.int (l1)]) (rest := []) e_M_live_2 zm_M_isWorld lV_M_378 sh_154 rfl rfl rfl rfl (Nat.le_of_ble_eq_true rfl) (by decide) ?_
  refine cp_mono h (fun _ v2 ⟨x1, e1, h⟩ => ⟨x1, e1, ?_⟩)
  refine p_ifz_ne (tgt := 11) e_M_live_5 rfl (fun c3 => ?_) (fun c3 => ?_)
  · replace h := iteT h c3
    refine g_aload_n 0 e_M_live_11 rfl rfl ?_
    refine g_iload_n 1 e_M_live_12 rfl rfl ?_
    refine p_callVV (d' := 46) (ci := 10) (r := (RX10, TX10, 49)) (As := [.int (l1)]) (rest := []) e_M_live_13 zm_M_makes lV_M_374 sh_154 rfl rfl rfl rfl (Nat.le_of_ble_eq_true rfl) (by decide) ?_
    refine cp_mono h (fun _ v5 ⟨e1, h⟩ => ⟨e1, ?_⟩)
    refine g_iconst (0 : Int32) e_M_live_16 (by decide) ?_
    refine g_istore_n (L' := [(2, .int ((0 : Int32))), (0, .ref (154)), (1, .int (l1))]) e_M_live_17 rfl (by decide) rfl ?_
    exact g_sub [1, 2, 0] rfl h
  · replace h := iteF h c3
    refine g_bipush (-2 : Int32) e_M_live_8 (by decide) ?_
    exact p_retI e_M_live_10.1 rfl h
set_option maxHeartbeats 1000000 in
theorem s_M_live_18 {l1 : Int32} {l2 : Int32} {v : Vv} {Q : Int32 → Vv → Prop} (h : if l2 < (v).1 154 11 then ((ib ((((6 : Int32) * l1) + l2)) 192) ∧ (m_M_within ((v).1 165 (ix ((((6 : Int32) * l1) + l2))) - (60 : Int32)) (-120 : Int32) (120 : Int32) (v) (fun x8 v9 => (ib (l2) 6) ∧ (k_M_live_18 (l1) ((l2 + (1 : Int32))) (sI (sI (v9) 158 (ix (l2)) x8) 161 (ix (l2)) (-1 : Int32)) Q)))) else ((ib (l1) 32) ∧ (m_M_bitsOf ((v).1 168 (ix (l1))) (v) (fun x12 v13 => Q (x12) (v13))))) : k_M_live_18 l1 l2 v Q := by
  show Gp 47 M_M_live 18 [(0, .ref (154)), (1, .int (l1)), (2, .int (l2))] [] v (QI Q)
  refine g_iload_n 2 e_M_live_18 rfl rfl ?_
  refine g_aload_n 0 e_M_live_19 rfl rfl ?_
  refine p_getI e_M_live_20 sh_154 fl_M_92 rfl ?_
  refine g_icmp_ge (tgt := 66) e_M_live_23 rfl (fun c6 => ?_) (fun c6 => ?_)
  · replace h := iteF h c6
    refine g_aload_n 0 e_M_live_66 rfl rfl ?_
    refine p_getR (j := 168) e_M_live_67 sh_154 fl_M_54 rfl (rf_154_34 _) ?_
    refine g_iload_n 1 e_M_live_70 rfl rfl ?_
    obtain ⟨h11, h⟩ := h
    refine p_iald e_M_live_71 sh_168 h11 ?_
    refine p_callSI (d' := 1) (As := [.int ((v).1 168 (ix (l1)))]) (rest := []) e_M_live_72 zm_M_bitsOf lS_M_343 rfl rfl (Nat.le_of_ble_eq_true rfl) (by decide) ?_
    refine cp_mono h (fun _ v13 ⟨x12, e1, h⟩ => ⟨x12, e1, ?_⟩)
    exact p_retI e_M_live_75.1 rfl h
  · replace h := iteT h c6
    refine g_aload_n 0 e_M_live_26 rfl rfl ?_
    refine p_getR (j := 158) e_M_live_27 sh_154 fl_M_23 rfl (rf_154_7 _) ?_
    refine g_iload_n 2 e_M_live_30 rfl rfl ?_
    refine g_aload_n 0 e_M_live_31 rfl rfl ?_
    refine p_getR (j := 165) e_M_live_32 sh_154 fl_M_44 rfl (rf_154_31 _) ?_
    refine g_bipush (6 : Int32) e_M_live_35 (by decide) ?_
    refine g_iload_n 1 e_M_live_37 rfl rfl ?_
    refine g_imul e_M_live_38 ?_
    refine g_iload_n 2 e_M_live_39 rfl rfl ?_
    refine g_iadd e_M_live_40 ?_
    obtain ⟨h7, h⟩ := h
    refine p_iald e_M_live_41 sh_165 h7 ?_
    refine g_bipush (60 : Int32) e_M_live_42 (by decide) ?_
    refine g_isub e_M_live_44 ?_
    refine g_bipush (-120 : Int32) e_M_live_45 (by decide) ?_
    refine g_bipush (120 : Int32) e_M_live_47 (by decide) ?_
    refine p_callSI (d' := 1) (As := [.int (((v).1 165 (ix ((((6 : Int32) * l1) + l2))) - (60 : Int32))), .int ((-120 : Int32)), .int ((120 : Int32))]) (rest := [.int (l2), .ref (158)]) e_M_live_49 zm_M_within lS_M_346 rfl rfl (Nat.le_of_ble_eq_true rfl) (by decide) ?_
    refine cp_mono h (fun _ v9 ⟨x8, e1, h⟩ => ⟨x8, e1, ?_⟩)
    obtain ⟨h10, h⟩ := h
    refine p_iast e_M_live_52 sh_158 h10 ?_
    refine g_aload_n 0 e_M_live_53 rfl rfl ?_
    refine p_getR (j := 161) e_M_live_54 sh_154 fl_M_32 rfl (rf_154_10 _) ?_
    refine g_iload_n 2 e_M_live_57 rfl rfl ?_
    refine g_iconst (-1 : Int32) e_M_live_58 (by decide) ?_
    refine p_iast e_M_live_59 sh_161 h10 ?_
    refine g_iinc (v := (l2 + (1 : Int32))) (L' := [(2, .int ((l2 + (1 : Int32)))), (0, .ref (154)), (1, .int (l1))]) 2 e_M_live_60 rfl rfl (by decide) rfl ?_
    refine g_goto (tgt := 18) e_M_live_63 rfl ?_
    exact g_sub [1, 2, 0] rfl h
set_option maxHeartbeats 1000000 in
theorem s_M_film {l1 : Int32} {l2 : Int32} {v : Vv} {Q : Int32 → Vv → Prop} (h : m_M_isSheet l1 (v) (fun x1 v2 => if x1 = true then (m_M_isWorld l2 (v2) (fun x4 v5 => if x4 = true then (m_M_makes l2 (v5) (fun v8 => m_M_sheet l1 (0 : Int32) ((v8).1 154 11) (v8) (fun x9 v10 => k_M_film_36 (l1) (l2) ((0 : Int32)) (v10) Q))) else (Q ((-2 : Int32)) (v5)))) else (Q ((-2 : Int32)) (v2)))) : m_M_film l1 l2 v Q := by
  refine cp_go (Nat.le_of_ble_eq_true rfl) (by decide +kernel) ?_
  show Gp 47 M_M_film 0 [(0, .ref (154)), (1, .int (l1)), (2, .int (l2))] [] v (QI Q)
  refine g_iload_n 1 e_M_film_0 rfl rfl ?_
  refine p_callSZ (d' := 2) (As := [.int (l1)]) (rest := []) e_M_film_1 zm_M_isSheet lS_M_422 rfl rfl (Nat.le_of_ble_eq_true rfl) (by decide) ?_
  refine cp_mono h (fun _ v2 ⟨x1, e1, h⟩ => ⟨x1, e1, ?_⟩)
  refine p_ifz_eq (tgt := 15) e_M_film_4 rfl (fun c3 => ?_) (fun c3 => ?_)
  · replace h := iteF h c3
    refine g_bipush (-2 : Int32) e_M_film_15 (by decide) ?_
    exact p_retI e_M_film_17.1 rfl h
  · replace h := iteT h c3
    refine g_aload_n 0 e_M_film_7 rfl rfl ?_
    refine g_iload_n 2 e_M_film_8 rfl rfl ?_
    refine p_callVZ (d' := 2) (ci := 10) (r := (RX10, TX10, 49)) (As := [.int (l2)]) (rest := []) e_M_film_9 zm_M_isWorld lV_M_378 sh_154 rfl rfl rfl rfl (Nat.le_of_ble_eq_true rfl) (by decide) ?_
    refine cp_mono h (fun _ v5 ⟨x4, e1, h⟩ => ⟨x4, e1, ?_⟩)
    refine p_ifz_ne (tgt := 18) e_M_film_12 rfl (fun c6 => ?_) (fun c6 => ?_)
    · replace h := iteT h c6
      refine g_aload_n 0 e_M_film_18 rfl rfl ?_
      refine g_iload_n 2 e_M_film_19 rfl rfl ?_
      refine p_callVV (d' := 46) (ci := 10) (r := (RX10, TX10, 49)) (As := [.int (l2)]) (rest := []) e_M_film_20 zm_M_makes lV_M_374 sh_154 rfl rfl rfl rfl (Nat.le_of_ble_eq_true rfl) (by decide) ?_
      refine cp_mono h (fun _ v8 ⟨e1, h⟩ => ⟨e1, ?_⟩)
      refine g_aload_n 0 e_M_film_23 rfl rfl ?_
      refine g_iload_n 1 e_M_film_24 rfl rfl ?_
      refine g_iconst (0 : Int32) e_M_film_25 (by decide) ?_
      refine g_aload_n 0 e_M_film_26 rfl rfl ?_
      refine p_getI e_M_film_27 sh_154 fl_M_92 rfl ?_
      refine p_callVI (d' := 3) (ci := 10) (r := (RX10, TX10, 49)) (As := [.int (l1), .int ((0 : Int32)), .int ((v8).1 154 11)]) (rest := []) e_M_film_30 zm_M_sheet lV_M_428 sh_154 rfl rfl rfl rfl (Nat.le_of_ble_eq_true rfl) (by decide) ?_
      refine cp_mono h (fun _ v10 ⟨x9, e1, h⟩ => ⟨x9, e1, ?_⟩)
      refine g_pop e_M_film_33 rfl ?_
      refine g_iconst (0 : Int32) e_M_film_34 (by decide) ?_
      refine g_istore_n (L' := [(3, .int ((0 : Int32))), (0, .ref (154)), (1, .int (l1)), (2, .int (l2))]) e_M_film_35 rfl (by decide) rfl ?_
      exact g_sub [1, 2, 3, 0] rfl h
    · replace h := iteF h c6
      refine g_bipush (-2 : Int32) e_M_film_15 (by decide) ?_
      exact p_retI e_M_film_17.1 rfl h
set_option maxHeartbeats 1000000 in
theorem s_M_film_36 {l1 : Int32} {l2 : Int32} {l3 : Int32} {v : Vv} {Q : Int32 → Vv → Prop} (h : if l3 < (v).1 154 11 then ((ib (l2) 32) ∧ ((ib ((((40 : Int32) * l1) + l3)) 160) ∧ (k_M_film_36 (l1) (l2) ((l3 + (1 : Int32))) (sI (v) 176 (ix ((((40 : Int32) * l1) + l3))) (((v).1 168 (ix (l2)) >>> (l3 &&& 31)) &&& (1 : Int32))) Q))) else (Q ((v).1 154 11) (v))) : k_M_film_36 l1 l2 l3 v Q := by
  show Gp 47 M_M_film 36 [(0, .ref (154)), (1, .int (l1)), (2, .int (l2)), (3, .int (l3))] [] v (QI Q)
  refine g_iload_n 3 e_M_film_36 rfl rfl ?_
  refine g_aload_n 0 e_M_film_37 rfl rfl ?_
  refine p_getI e_M_film_38 sh_154 fl_M_92 rfl ?_
  refine g_icmp_ge (tgt := 71) e_M_film_41 rfl (fun c11 => ?_) (fun c11 => ?_)
  · replace h := iteF h c11
    refine g_aload_n 0 e_M_film_71 rfl rfl ?_
    refine p_getI e_M_film_72 sh_154 fl_M_92 rfl ?_
    exact p_retI e_M_film_75.1 rfl h
  · replace h := iteT h c11
    refine g_aload_n 0 e_M_film_44 rfl rfl ?_
    refine p_getR (j := 176) e_M_film_45 sh_154 fl_M_82 rfl (rf_154_48 _) ?_
    refine g_bipush (40 : Int32) e_M_film_48 (by decide) ?_
    refine g_iload_n 1 e_M_film_50 rfl rfl ?_
    refine g_imul e_M_film_51 ?_
    refine g_iload_n 3 e_M_film_52 rfl rfl ?_
    refine g_iadd e_M_film_53 ?_
    refine g_aload_n 0 e_M_film_54 rfl rfl ?_
    refine p_getR (j := 168) e_M_film_55 sh_154 fl_M_54 rfl (rf_154_34 _) ?_
    refine g_iload_n 2 e_M_film_58 rfl rfl ?_
    obtain ⟨h12, h⟩ := h
    refine p_iald e_M_film_59 sh_168 h12 ?_
    refine g_iload_n 3 e_M_film_60 rfl rfl ?_
    refine g_ishr e_M_film_61 ?_
    refine g_iconst (1 : Int32) e_M_film_62 (by decide) ?_
    refine g_iand e_M_film_63 ?_
    obtain ⟨h13, h⟩ := h
    refine p_iast e_M_film_64 sh_176 h13 ?_
    refine g_iinc (v := (l3 + (1 : Int32))) (L' := [(3, .int ((l3 + (1 : Int32)))), (0, .ref (154)), (1, .int (l1)), (2, .int (l2))]) 3 e_M_film_65 rfl rfl (by decide) rfl ?_
    refine g_goto (tgt := 36) e_M_film_68 rfl ?_
    exact g_sub [1, 2, 3, 0] rfl h
set_option maxHeartbeats 1000000 in
theorem s_M_draws {l1 : Int32} {v : Vv} {Q : Int32 → Vv → Prop} (h : k_M_draws_7 (l1) ((0 : Int32)) ((0 : Int32)) (v) Q) : m_M_draws l1 v Q := by
  refine cp_go (Nat.le_of_ble_eq_true rfl) (by decide +kernel) ?_
  show Gp 47 M_M_draws 0 [(0, .ref (154)), (1, .int (l1))] [] v (QI Q)
  refine g_iload_n 1 e_M_draws_0 rfl rfl ?_
  refine g_istore_n (L' := [(2, .int (l1)), (0, .ref (154)), (1, .int (l1))]) e_M_draws_1 rfl (by decide) rfl ?_
  refine g_iconst (0 : Int32) e_M_draws_2 (by decide) ?_
  refine g_istore_n (L' := [(3, .int ((0 : Int32))), (2, .int (l1)), (0, .ref (154)), (1, .int (l1))]) e_M_draws_3 rfl (by decide) rfl ?_
  refine g_iconst (0 : Int32) e_M_draws_4 (by decide) ?_
  refine g_istore (L' := [(4, .int ((0 : Int32))), (3, .int ((0 : Int32))), (2, .int (l1)), (0, .ref (154)), (1, .int (l1))]) e_M_draws_5 (by decide) rfl ?_
  exact g_sub [3, 2, 1, 0] rfl h
set_option maxHeartbeats 1000000 in
theorem s_M_draws_7 {l2 : Int32} {l3 : Int32} {l4 : Int32} {v : Vv} {Q : Int32 → Vv → Prop} (h : if l4 < (v).1 154 15 then (m_M_cameOf l4 (v) (fun x2 v3 => k_M_draws_7 (((l2 * (1103515245 : Int32)) + (12345 : Int32))) ((l3 ||| (bI ((if (((((l2 * (1103515245 : Int32)) + (12345 : Int32))).toUInt32 >>> (((9 : Int32)).toUInt32 &&& Int32.toUInt32 31)).toInt32 % (100 : Int32)) < x2 then true else false)) <<< (l4 &&& 31)))) ((l4 + (1 : Int32))) (v3) Q)) else (m_M_makes l3 (v) (fun v6 => (ib (l3) 32) ∧ (Q ((v6).1 168 (ix (l3))) (v6))))) : k_M_draws_7 l2 l3 l4 v Q := by
  show Gp 47 M_M_draws 7 [(0, .ref (154)), (2, .int (l2)), (3, .int (l3)), (4, .int (l4))] [] v (QI Q)
  refine g_iload 3 e_M_draws_7 rfl ?_
  refine g_aload_n 0 e_M_draws_9 rfl rfl ?_
  refine p_getI e_M_draws_10 sh_154 fl_M_99 rfl ?_
  refine g_icmp_ge (tgt := 59) e_M_draws_13 rfl (fun c1 => ?_) (fun c1 => ?_)
  · replace h := iteF h c1
    refine g_aload_n 0 e_M_draws_59 rfl rfl ?_
    refine g_iload_n 2 e_M_draws_60 rfl rfl ?_
    refine p_callVV (d' := 46) (ci := 10) (r := (RX10, TX10, 49)) (As := [.int (l3)]) (rest := []) e_M_draws_61 zm_M_makes lV_M_374 sh_154 rfl rfl rfl rfl (Nat.le_of_ble_eq_true rfl) (by decide) ?_
    refine cp_mono h (fun _ v6 ⟨e1, h⟩ => ⟨e1, ?_⟩)
    refine g_aload_n 0 e_M_draws_64 rfl rfl ?_
    refine p_getR (j := 168) e_M_draws_65 sh_154 fl_M_54 rfl (rf_154_34 _) ?_
    refine g_iload_n 2 e_M_draws_68 rfl rfl ?_
    obtain ⟨h7, h⟩ := h
    refine p_iald e_M_draws_69 sh_168 h7 ?_
    exact p_retI e_M_draws_70.1 rfl h
  · replace h := iteT h c1
    refine g_iload_n 1 e_M_draws_16 rfl rfl ?_
    refine g_ldcw (v := (1103515245 : Int32)) (hd := e_M_draws_17) ci_M_431 ?_
    refine g_imul e_M_draws_20 ?_
    refine g_sipush (12345 : Int32) e_M_draws_21 (by decide) ?_
    refine g_iadd e_M_draws_24 ?_
    refine g_istore_n (L' := [(2, .int (((l2 * (1103515245 : Int32)) + (12345 : Int32)))), (0, .ref (154)), (3, .int (l3)), (4, .int (l4))]) e_M_draws_25 rfl (by decide) rfl ?_
    refine g_iload_n 2 e_M_draws_26 rfl rfl ?_
    refine g_iload_n 0 e_M_draws_27 rfl rfl ?_
    refine g_bipush (9 : Int32) e_M_draws_28 (by decide) ?_
    refine g_iushr e_M_draws_30 ?_
    refine g_bipush (100 : Int32) e_M_draws_31 (by decide) ?_
    refine g_irem e_M_draws_33 (by decide) ?_
    refine g_aload_n 1 e_M_draws_34 rfl rfl ?_
    refine g_iload 3 e_M_draws_35 rfl ?_
    refine p_callVI (d' := 43) (ci := 10) (r := (RX10, TX10, 49)) (As := [.int (l4)]) (rest := [.int ((((((l2 * (1103515245 : Int32)) + (12345 : Int32))).toUInt32 >>> (((9 : Int32)).toUInt32 &&& Int32.toUInt32 31)).toInt32 % (100 : Int32))), .int (l3)]) e_M_draws_37 zm_M_cameOf lV_M_127 sh_154 rfl rfl rfl rfl (Nat.le_of_ble_eq_true rfl) (by decide) ?_
    refine cp_mono h (fun _ v3 ⟨x2, e1, h⟩ => ⟨x2, e1, ?_⟩)
    have hj : ∀ m0 : Bool, m0 = (if (((((l2 * (1103515245 : Int32)) + (12345 : Int32))).toUInt32 >>> (((9 : Int32)).toUInt32 &&& Int32.toUInt32 31)).toInt32 % (100 : Int32)) < x2 then true else false) → Gp 47 M_M_draws 48 [(0, .ref (154)), (2, .int (((l2 * (1103515245 : Int32)) + (12345 : Int32)))), (3, .int (l3)), (4, .int (l4))] [.int (bI (m0)), .int (l3)] (v3) (QI Q) := by
      intro m0 hm0
      subst hm0
      refine g_iload 3 e_M_draws_48 rfl ?_
      refine g_ishl e_M_draws_50 ?_
      refine g_ior e_M_draws_51 ?_
      refine g_istore_n (L' := [(3, .int ((l3 ||| (bI ((if (((((l2 * (1103515245 : Int32)) + (12345 : Int32))).toUInt32 >>> (((9 : Int32)).toUInt32 &&& Int32.toUInt32 31)).toInt32 % (100 : Int32)) < x2 then true else false)) <<< (l4 &&& 31))))), (0, .ref (154)), (2, .int (((l2 * (1103515245 : Int32)) + (12345 : Int32)))), (4, .int (l4))]) e_M_draws_52 rfl (by decide) rfl ?_
      refine g_iinc (v := (l4 + (1 : Int32))) (L' := [(4, .int ((l4 + (1 : Int32)))), (3, .int ((l3 ||| (bI ((if (((((l2 * (1103515245 : Int32)) + (12345 : Int32))).toUInt32 >>> (((9 : Int32)).toUInt32 &&& Int32.toUInt32 31)).toInt32 % (100 : Int32)) < x2 then true else false)) <<< (l4 &&& 31))))), (0, .ref (154)), (2, .int (((l2 * (1103515245 : Int32)) + (12345 : Int32))))]) 3 e_M_draws_53 rfl rfl (by decide) rfl ?_
      refine g_goto (tgt := 7) e_M_draws_56 rfl ?_
      exact g_sub [2, 3, 1, 0] rfl h
    refine g_icmp_ge (tgt := 47) e_M_draws_40 rfl (fun c4 => ?_) (fun c4 => ?_)
    · refine g_iconst (0 : Int32) e_M_draws_47 (by decide) ?_
      refine g_sub [1, 0, 2, 3] rfl ?_
      exact hj (false) (by simp only [if_neg c4])
    · refine g_iconst (1 : Int32) e_M_draws_43 (by decide) ?_
      refine g_goto (tgt := 48) e_M_draws_44 rfl ?_
      refine g_sub [1, 0, 2, 3] rfl ?_
      exact hj (true) (by simp only [if_pos c4])
set_option maxHeartbeats 1000000 in
theorem s_M_world {l1 : Int32} {v : Vv} {Q : Int64 → Vv → Prop} (h : if l1 = (-1 : Int32) then (k_M_world_17 (l1) (v) Q) else (m_M_isWorld l1 (v) (fun x2 v3 => if x2 = true then (k_M_world_17 (l1) (v3) Q) else (Q ((-4611686018427387904 : Int64)) (v3))))) : m_M_world l1 v Q := by
  refine cp_go (Nat.le_of_ble_eq_true rfl) (by decide +kernel) ?_
  show Gp 48 M_M_world 0 [(0, .ref (154)), (1, .int (l1))] [] v (QJ Q)
  refine g_iload_n 1 e_M_world_0 rfl rfl ?_
  refine g_iconst (-1 : Int32) e_M_world_1 (by decide) ?_
  refine g_icmp_eq (tgt := 17) e_M_world_2 rfl (fun c1 => ?_) (fun c1 => ?_)
  · replace h := iteT h c1
    exact g_sub [0, 1] rfl h
  · replace h := iteF h c1
    refine g_aload_n 0 e_M_world_5 rfl rfl ?_
    refine g_iload_n 1 e_M_world_6 rfl rfl ?_
    refine p_callVZ (d' := 2) (ci := 10) (r := (RX10, TX10, 49)) (As := [.int (l1)]) (rest := []) e_M_world_7 zm_M_isWorld lV_M_378 sh_154 rfl rfl rfl rfl (Nat.le_of_ble_eq_true rfl) (by decide) ?_
    refine cp_mono h (fun _ v3 ⟨x2, e1, h⟩ => ⟨x2, e1, ?_⟩)
    refine p_ifz_ne (tgt := 17) e_M_world_10 rfl (fun c4 => ?_) (fun c4 => ?_)
    · replace h := iteT h c4
      exact g_sub [0, 1] rfl h
    · replace h := iteF h c4
      refine g_ldc2 (v := (-4611686018427387904 : Int64)) (hd := e_M_world_13) cl_M_384 ?_
      exact p_retJ e_M_world_16.1 rfl h
set_option maxHeartbeats 1000000 in
theorem s_M_world_17 {l1 : Int32} {v : Vv} {Q : Int64 → Vv → Prop} (h : m_M_gathers  (v) (fun v6 => if l1 = (-1 : Int32) then (Q ((v6).2.1 154 37) (v6)) else ((ib (l1) 32) ∧ (Q ((v6).2.1 167 (ix (l1))) (v6))))) : k_M_world_17 l1 v Q := by
  show Gp 48 M_M_world 17 [(0, .ref (154)), (1, .int (l1))] [] v (QJ Q)
  refine g_aload_n 0 e_M_world_17 rfl rfl ?_
  refine p_callVV (d' := 47) (ci := 10) (r := (RX10, TX10, 49)) (As := []) (rest := []) e_M_world_18 zm_M_gathers lV_M_386 sh_154 rfl rfl rfl rfl (Nat.le_of_ble_eq_true rfl) (by decide) ?_
  refine cp_mono h (fun _ v6 ⟨e1, h⟩ => ⟨e1, ?_⟩)
  refine g_iload_n 1 e_M_world_21 rfl rfl ?_
  refine g_iconst (-1 : Int32) e_M_world_22 (by decide) ?_
  refine g_icmp_ne (tgt := 33) e_M_world_23 rfl (fun c7 => ?_) (fun c7 => ?_)
  · replace h := iteF h c7
    refine g_aload_n 0 e_M_world_33 rfl rfl ?_
    refine p_getR (j := 167) e_M_world_34 sh_154 fl_M_50 rfl (rf_154_33 _) ?_
    refine g_iload_n 1 e_M_world_37 rfl rfl ?_
    obtain ⟨h8, h⟩ := h
    refine p_lald e_M_world_38 sh_167 h8 ?_
    exact p_retJ e_M_world_39.1 rfl h
  · replace h := iteT h c7
    refine g_aload_n 0 e_M_world_26 rfl rfl ?_
    refine p_getJ e_M_world_27 sh_154 fl_M_368 rfl ?_
    refine g_goto (tgt := 39) e_M_world_30 rfl ?_
    exact p_retJ e_M_world_39.1 rfl h
set_option maxHeartbeats 1000000 in
theorem s_M_odds {l1 : Int32} {l2 : Int32} {v : Vv} {Q : Int64 → Vv → Prop} (h : m_M_isClock l1 (v) (fun x1 v2 => if x1 = true then (m_M_in ((l2).toInt64) (0 : Int64) (1 : Int64) (v2) (fun x4 v5 => if x4 = true then (m_M_gathers  (v5) (fun v8 => if (v8).2.1 154 37 = (0 : Int64) then (Q ((-4611686018427387904 : Int64)) (v8)) else (k_M_odds_44 (l1) (l2) ((0 : Int64)) ((0 : Int32)) (v8) Q))) else (Q ((-4611686018427387904 : Int64)) (v5)))) else (Q ((-4611686018427387904 : Int64)) (v2)))) : m_M_odds l1 l2 v Q := by
  refine cp_go (Nat.le_of_ble_eq_true rfl) (by decide +kernel) ?_
  show Gp 48 M_M_odds 0 [(0, .ref (154)), (1, .int (l1)), (2, .int (l2))] [] v (QJ Q)
  refine g_aload_n 0 e_M_odds_0 rfl rfl ?_
  refine g_iload_n 1 e_M_odds_1 rfl rfl ?_
  refine p_callVZ (d' := 2) (ci := 10) (r := (RX10, TX10, 49)) (As := [.int (l1)]) (rest := []) e_M_odds_2 zm_M_isClock lV_M_114 sh_154 rfl rfl rfl rfl (Nat.le_of_ble_eq_true rfl) (by decide) ?_
  refine cp_mono h (fun _ v2 ⟨x1, e1, h⟩ => ⟨x1, e1, ?_⟩)
  refine p_ifz_eq (tgt := 18) e_M_odds_5 rfl (fun c3 => ?_) (fun c3 => ?_)
  · replace h := iteF h c3
    refine g_ldc2 (v := (-4611686018427387904 : Int64)) (hd := e_M_odds_18) cl_M_384 ?_
    exact p_retJ e_M_odds_21.1 rfl h
  · replace h := iteT h c3
    refine g_iload_n 2 e_M_odds_8 rfl rfl ?_
    refine g_i2l e_M_odds_9 ?_
    refine g_lconst (0 : Int64) e_M_odds_10 (by decide) ?_
    refine g_lconst (1 : Int64) e_M_odds_11 (by decide) ?_
    refine p_callSZ (d' := 1) (As := [.long ((l2).toInt64), .long ((0 : Int64)), .long ((1 : Int64))]) (rest := []) e_M_odds_12 zm_M_in lS_M_95 rfl rfl (Nat.le_of_ble_eq_true rfl) (by decide) ?_
    refine cp_mono h (fun _ v5 ⟨x4, e1, h⟩ => ⟨x4, e1, ?_⟩)
    refine p_ifz_ne (tgt := 22) e_M_odds_15 rfl (fun c6 => ?_) (fun c6 => ?_)
    · replace h := iteT h c6
      refine g_aload_n 0 e_M_odds_22 rfl rfl ?_
      refine p_callVV (d' := 47) (ci := 10) (r := (RX10, TX10, 49)) (As := []) (rest := []) e_M_odds_23 zm_M_gathers lV_M_386 sh_154 rfl rfl rfl rfl (Nat.le_of_ble_eq_true rfl) (by decide) ?_
      refine cp_mono h (fun _ v8 ⟨e1, h⟩ => ⟨e1, ?_⟩)
      refine g_aload_n 0 e_M_odds_26 rfl rfl ?_
      refine p_getJ e_M_odds_27 sh_154 fl_M_368 rfl ?_
      refine g_lconst (0 : Int64) e_M_odds_30 (by decide) ?_
      refine g_l_ne (tgt := 39) e_M_odds_31 e_M_odds_32 rfl (fun c9 => ?_) (fun c9 => ?_)
      · replace h := iteF h c9
        refine g_lconst (0 : Int64) e_M_odds_39 (by decide) ?_
        refine g_lstore_n (L' := [(3, .long ((0 : Int64))), (0, .ref (154)), (1, .int (l1)), (2, .int (l2))]) e_M_odds_40 rfl (by decide) rfl ?_
        refine g_iconst (0 : Int32) e_M_odds_41 (by decide) ?_
        refine g_istore (L' := [(5, .int ((0 : Int32))), (3, .long ((0 : Int64))), (0, .ref (154)), (1, .int (l1)), (2, .int (l2))]) e_M_odds_42 (by decide) rfl ?_
        exact g_sub [2, 3, 4, 1, 0] rfl h
      · replace h := iteT h c9
        refine g_ldc2 (v := (-4611686018427387904 : Int64)) (hd := e_M_odds_35) cl_M_384 ?_
        exact p_retJ e_M_odds_38.1 rfl h
    · replace h := iteF h c6
      refine g_ldc2 (v := (-4611686018427387904 : Int64)) (hd := e_M_odds_18) cl_M_384 ?_
      exact p_retJ e_M_odds_21.1 rfl h
set_option maxHeartbeats 1000000 in
theorem s_M_odds_44 {l1 : Int32} {l2 : Int32} {l3 : Int64} {l5 : Int32} {v : Vv} {Q : Int64 → Vv → Prop} (h : m_M_worlds  (v) (fun x10 v11 => if l5 < x10 then ((ib (l5) 32) ∧ (k_M_odds_44 (l1) (l2) ((l3 + (if (v11).1 169 (ix (l5)) = (1 : Int32) then (if (((v11).1 168 (ix (l5)) >>> (l1 &&& 31)) &&& (1 : Int32)) = (1 : Int32) then (v11).2.1 167 (ix (l5)) else (0 : Int64)) else (0 : Int64)))) ((l5 + (1 : Int32))) (v11) Q)) else (m_M_lowest l3 ((v11).2.1 154 37) l2 (v11) (fun x16 v17 => Q (x16) (v17))))) : k_M_odds_44 l1 l2 l3 l5 v Q := by
  show Gp 48 M_M_odds 44 [(0, .ref (154)), (1, .int (l1)), (2, .int (l2)), (3, .long (l3)), (5, .int (l5))] [] v (QJ Q)
  refine g_iload 4 e_M_odds_44 rfl ?_
  refine g_aload_n 0 e_M_odds_46 rfl rfl ?_
  refine p_callVI (d' := 1) (ci := 10) (r := (RX10, TX10, 49)) (As := []) (rest := [.int (l5)]) e_M_odds_47 zm_M_worlds lV_M_371 sh_154 rfl rfl rfl rfl (Nat.le_of_ble_eq_true rfl) (by decide) ?_
  refine cp_mono h (fun _ v11 ⟨x10, e1, h⟩ => ⟨x10, e1, ?_⟩)
  refine g_icmp_ge (tgt := 99) e_M_odds_50 rfl (fun c12 => ?_) (fun c12 => ?_)
  · replace h := iteF h c12
    refine g_lload_n 3 e_M_odds_99 rfl rfl ?_
    refine g_aload_n 0 e_M_odds_100 rfl rfl ?_
    refine p_getJ e_M_odds_101 sh_154 fl_M_368 rfl ?_
    refine g_iload_n 2 e_M_odds_104 rfl rfl ?_
    refine p_callSJ (d' := 1) (As := [.long (l3), .long ((v11).2.1 154 37), .int (l2)]) (rest := []) e_M_odds_105 zm_M_lowest lS_M_389 rfl rfl (Nat.le_of_ble_eq_true rfl) (by decide) ?_
    refine cp_mono h (fun _ v17 ⟨x16, e1, h⟩ => ⟨x16, e1, ?_⟩)
    exact p_retJ e_M_odds_108.1 rfl h
  · replace h := iteT h c12
    refine g_lload_n 3 e_M_odds_53 rfl rfl ?_
    refine g_aload_n 0 e_M_odds_54 rfl rfl ?_
    refine p_getR (j := 169) e_M_odds_55 sh_154 fl_M_57 rfl (rf_154_35 _) ?_
    refine g_iload 4 e_M_odds_58 rfl ?_
    obtain ⟨h13, h⟩ := h
    refine p_iald e_M_odds_60 sh_169 h13 ?_
    refine g_iconst (1 : Int32) e_M_odds_61 (by decide) ?_
    have hj : ∀ m0 : Int64, m0 = (if (v11).1 169 (ix (l5)) = (1 : Int32) then (if (((v11).1 168 (ix (l5)) >>> (l1 &&& 31)) &&& (1 : Int32)) = (1 : Int32) then (v11).2.1 167 (ix (l5)) else (0 : Int64)) else (0 : Int64)) → Gp 48 M_M_odds 91 [(0, .ref (154)), (1, .int (l1)), (2, .int (l2)), (3, .long (l3)), (5, .int (l5))] [.long (m0), .long (l3)] (v11) (QJ Q) := by
      intro m0 hm0
      subst hm0
      refine g_ladd e_M_odds_91 ?_
      refine g_lstore_n (L' := [(3, .long ((l3 + (if (v11).1 169 (ix (l5)) = (1 : Int32) then (if (((v11).1 168 (ix (l5)) >>> (l1 &&& 31)) &&& (1 : Int32)) = (1 : Int32) then (v11).2.1 167 (ix (l5)) else (0 : Int64)) else (0 : Int64))))), (0, .ref (154)), (1, .int (l1)), (2, .int (l2)), (5, .int (l5))]) e_M_odds_92 rfl (by decide) rfl ?_
      refine g_iinc (v := (l5 + (1 : Int32))) (L' := [(5, .int ((l5 + (1 : Int32)))), (3, .long ((l3 + (if (v11).1 169 (ix (l5)) = (1 : Int32) then (if (((v11).1 168 (ix (l5)) >>> (l1 &&& 31)) &&& (1 : Int32)) = (1 : Int32) then (v11).2.1 167 (ix (l5)) else (0 : Int64)) else (0 : Int64))))), (0, .ref (154)), (1, .int (l1)), (2, .int (l2))]) 4 e_M_odds_93 rfl rfl (by decide) rfl ?_
      refine g_goto (tgt := 44) e_M_odds_96 rfl ?_
      exact g_sub [2, 3, 4, 1, 0] rfl h
    refine g_icmp_ne (tgt := 90) e_M_odds_62 rfl (fun c14 => ?_) (fun c14 => ?_)
    · refine g_lconst (0 : Int64) e_M_odds_90 (by decide) ?_
      exact hj ((0 : Int64)) (by simp only [if_neg c14])
    · refine g_aload_n 0 e_M_odds_65 rfl rfl ?_
      refine p_getR (j := 168) e_M_odds_66 sh_154 fl_M_54 rfl (rf_154_34 _) ?_
      refine g_iload 4 e_M_odds_69 rfl ?_
      refine p_iald e_M_odds_71 sh_168 h13 ?_
      refine g_iload_n 1 e_M_odds_72 rfl rfl ?_
      refine g_ishr e_M_odds_73 ?_
      refine g_iconst (1 : Int32) e_M_odds_74 (by decide) ?_
      refine g_iand e_M_odds_75 ?_
      refine g_iconst (1 : Int32) e_M_odds_76 (by decide) ?_
      refine g_icmp_ne (tgt := 90) e_M_odds_77 rfl (fun c15 => ?_) (fun c15 => ?_)
      · refine g_lconst (0 : Int64) e_M_odds_90 (by decide) ?_
        exact hj ((0 : Int64)) (by simp only [if_pos c14, if_neg c15])
      · refine g_aload_n 0 e_M_odds_80 rfl rfl ?_
        refine p_getR (j := 167) e_M_odds_81 sh_154 fl_M_50 rfl (rf_154_33 _) ?_
        refine g_iload 4 e_M_odds_84 rfl ?_
        refine p_lald e_M_odds_86 sh_167 h13 ?_
        refine g_goto (tgt := 91) e_M_odds_87 rfl ?_
        exact hj ((v11).2.1 167 (ix (l5))) (by simp only [if_pos c14, if_pos c15])
set_option maxHeartbeats 1000000 in
theorem s_M_time {l1 : Int32} {v : Vv} {Q : Int32 → Vv → Prop} (h : m_M_in ((l1).toInt64) (0 : Int64) (1 : Int64) (v) (fun x1 v2 => if x1 = true then (m_M_gathers  (v2) (fun v5 => m_M_times  (v5) (fun x6 v7 => Q ((if l1 = (0 : Int32) then (v7).1 154 38 else x6)) (v7)))) else (Q ((-2 : Int32)) (v2)))) : m_M_time l1 v Q := by
  refine cp_go (Nat.le_of_ble_eq_true rfl) (by decide +kernel) ?_
  show Gp 48 M_M_time 0 [(0, .ref (154)), (1, .int (l1))] [] v (QI Q)
  refine g_iload_n 1 e_M_time_0 rfl rfl ?_
  refine g_i2l e_M_time_1 ?_
  refine g_lconst (0 : Int64) e_M_time_2 (by decide) ?_
  refine g_lconst (1 : Int64) e_M_time_3 (by decide) ?_
  refine p_callSZ (d' := 1) (As := [.long ((l1).toInt64), .long ((0 : Int64)), .long ((1 : Int64))]) (rest := []) e_M_time_4 zm_M_in lS_M_95 rfl rfl (Nat.le_of_ble_eq_true rfl) (by decide) ?_
  refine cp_mono h (fun _ v2 ⟨x1, e1, h⟩ => ⟨x1, e1, ?_⟩)
  refine p_ifz_ne (tgt := 13) e_M_time_7 rfl (fun c3 => ?_) (fun c3 => ?_)
  · replace h := iteT h c3
    refine g_aload_n 0 e_M_time_13 rfl rfl ?_
    refine p_callVV (d' := 47) (ci := 10) (r := (RX10, TX10, 49)) (As := []) (rest := []) e_M_time_14 zm_M_gathers lV_M_386 sh_154 rfl rfl rfl rfl (Nat.le_of_ble_eq_true rfl) (by decide) ?_
    refine cp_mono h (fun _ v5 ⟨e1, h⟩ => ⟨e1, ?_⟩)
    refine g_aload_n 0 e_M_time_17 rfl rfl ?_
    refine p_callVI (d' := 2) (ci := 10) (r := (RX10, TX10, 49)) (As := []) (rest := []) e_M_time_18 zm_M_times lV_M_399 sh_154 rfl rfl rfl rfl (Nat.le_of_ble_eq_true rfl) (by decide) ?_
    refine cp_mono h (fun _ v7 ⟨x6, e1, h⟩ => ⟨x6, e1, ?_⟩)
    refine g_istore_n (L' := [(2, .int (x6)), (0, .ref (154)), (1, .int (l1))]) e_M_time_21 rfl (by decide) rfl ?_
    refine g_iload_n 2 e_M_time_22 rfl rfl ?_
    have hj : ∀ m0 : Int32, m0 = (if l1 = (0 : Int32) then (v7).1 154 38 else x6) → Gp 48 M_M_time 34 [(0, .ref (154)), (1, .int (l1)), (2, .int (x6))] [.int (m0)] (v7) (QI Q) := by
      intro m0 hm0
      subst hm0
      exact p_retI e_M_time_34.1 rfl h
    refine g_if_ne (tgt := 33) e_M_time_23 rfl (fun c8 => ?_) (fun c8 => ?_)
    · refine g_iload_n 0 e_M_time_33 rfl rfl ?_
      refine g_sub [1, 2, 0] rfl ?_
      exact hj (x6) (by simp only [if_neg c8])
    · refine g_aload_n 1 e_M_time_26 rfl rfl ?_
      refine p_getI e_M_time_27 sh_154 fl_M_393 rfl ?_
      refine g_goto (tgt := 34) e_M_time_30 rfl ?_
      refine g_sub [1, 2, 0] rfl ?_
      exact hj ((v7).1 154 38) (by simp only [if_pos c8])
  · replace h := iteF h c3
    refine g_bipush (-2 : Int32) e_M_time_10 (by decide) ?_
    exact p_retI e_M_time_12.1 rfl h
set_option maxHeartbeats 1000000 in
theorem s_M_sure {l1 : Int32} {v : Vv} {Q : Int64 → Vv → Prop} (h : m_M_in ((l1).toInt64) (0 : Int64) (1 : Int64) (v) (fun x1 v2 => if x1 = true then (m_M_gathers  (v2) (fun v5 => m_M_times  (v5) (fun x6 v7 => if (v7).1 154 38 = (-1 : Int32) then (Q ((-4611686018427387904 : Int64)) (v7)) else (m_M_lowest ((v7).2.1 154 39) ((v7).2.1 154 37) l1 (v7) (fun x9 v10 => Q (x9) (v10)))))) else (Q ((-4611686018427387904 : Int64)) (v2)))) : m_M_sure l1 v Q := by
  refine cp_go (Nat.le_of_ble_eq_true rfl) (by decide +kernel) ?_
  show Gp 48 M_M_sure 0 [(0, .ref (154)), (1, .int (l1))] [] v (QJ Q)
  refine g_iload_n 1 e_M_sure_0 rfl rfl ?_
  refine g_i2l e_M_sure_1 ?_
  refine g_lconst (0 : Int64) e_M_sure_2 (by decide) ?_
  refine g_lconst (1 : Int64) e_M_sure_3 (by decide) ?_
  refine p_callSZ (d' := 1) (As := [.long ((l1).toInt64), .long ((0 : Int64)), .long ((1 : Int64))]) (rest := []) e_M_sure_4 zm_M_in lS_M_95 rfl rfl (Nat.le_of_ble_eq_true rfl) (by decide) ?_
  refine cp_mono h (fun _ v2 ⟨x1, e1, h⟩ => ⟨x1, e1, ?_⟩)
  refine p_ifz_ne (tgt := 14) e_M_sure_7 rfl (fun c3 => ?_) (fun c3 => ?_)
  · replace h := iteT h c3
    refine g_aload_n 0 e_M_sure_14 rfl rfl ?_
    refine p_callVV (d' := 47) (ci := 10) (r := (RX10, TX10, 49)) (As := []) (rest := []) e_M_sure_15 zm_M_gathers lV_M_386 sh_154 rfl rfl rfl rfl (Nat.le_of_ble_eq_true rfl) (by decide) ?_
    refine cp_mono h (fun _ v5 ⟨e1, h⟩ => ⟨e1, ?_⟩)
    refine g_aload_n 0 e_M_sure_18 rfl rfl ?_
    refine p_callVI (d' := 2) (ci := 10) (r := (RX10, TX10, 49)) (As := []) (rest := []) e_M_sure_19 zm_M_times lV_M_399 sh_154 rfl rfl rfl rfl (Nat.le_of_ble_eq_true rfl) (by decide) ?_
    refine cp_mono h (fun _ v7 ⟨x6, e1, h⟩ => ⟨x6, e1, ?_⟩)
    refine g_pop e_M_sure_22 rfl ?_
    refine g_aload_n 0 e_M_sure_23 rfl rfl ?_
    refine p_getI e_M_sure_24 sh_154 fl_M_393 rfl ?_
    refine g_iconst (-1 : Int32) e_M_sure_27 (by decide) ?_
    refine g_icmp_ne (tgt := 37) e_M_sure_28 rfl (fun c8 => ?_) (fun c8 => ?_)
    · replace h := iteF h c8
      refine g_aload_n 0 e_M_sure_37 rfl rfl ?_
      refine p_getJ e_M_sure_38 sh_154 fl_M_396 rfl ?_
      refine g_aload_n 0 e_M_sure_41 rfl rfl ?_
      refine p_getJ e_M_sure_42 sh_154 fl_M_368 rfl ?_
      refine g_iload_n 1 e_M_sure_45 rfl rfl ?_
      refine p_callSJ (d' := 1) (As := [.long ((v7).2.1 154 39), .long ((v7).2.1 154 37), .int (l1)]) (rest := []) e_M_sure_46 zm_M_lowest lS_M_389 rfl rfl (Nat.le_of_ble_eq_true rfl) (by decide) ?_
      refine cp_mono h (fun _ v10 ⟨x9, e1, h⟩ => ⟨x9, e1, ?_⟩)
      exact p_retJ e_M_sure_49.1 rfl h
    · replace h := iteT h c8
      refine g_ldc2 (v := (-4611686018427387904 : Int64)) (hd := e_M_sure_31) cl_M_384 ?_
      refine g_goto (tgt := 49) e_M_sure_34 rfl ?_
      exact p_retJ e_M_sure_49.1 rfl h
  · replace h := iteF h c3
    refine g_ldc2 (v := (-4611686018427387904 : Int64)) (hd := e_M_sure_10) cl_M_384 ?_
    exact p_retJ e_M_sure_13.1 rfl h
set_option maxHeartbeats 1000000 in
theorem s_M_look  {v : Vv} {Q : Int32 → Vv → Prop} (h : m_M_seenMany  (v) (fun x1 v2 => if x1 = (0 : Int32) then (Q ((-1 : Int32)) (v2)) else (m_M_gathers  (v2) (fun v5 => k_M_look_20 ((-1 : Int32)) ((0 : Int64)) ((0 : Int32)) (v5) Q)))) : m_M_look  v Q := by
  refine cp_go (Nat.le_of_ble_eq_true rfl) (by decide +kernel) ?_
  show Gp 48 M_M_look 0 [(0, .ref (154))] [] v (QI Q)
  refine g_aload_n 0 e_M_look_0 rfl rfl ?_
  refine p_callVI (d' := 1) (ci := 10) (r := (RX10, TX10, 49)) (As := []) (rest := []) e_M_look_1 zm_M_seenMany lV_M_405 sh_154 rfl rfl rfl rfl (Nat.le_of_ble_eq_true rfl) (by decide) ?_
  refine cp_mono h (fun _ v2 ⟨x1, e1, h⟩ => ⟨x1, e1, ?_⟩)
  refine g_if_ne (tgt := 9) e_M_look_4 rfl (fun c3 => ?_) (fun c3 => ?_)
  · replace h := iteF h c3
    refine g_aload_n 0 e_M_look_9 rfl rfl ?_
    refine p_callVV (d' := 47) (ci := 10) (r := (RX10, TX10, 49)) (As := []) (rest := []) e_M_look_10 zm_M_gathers lV_M_386 sh_154 rfl rfl rfl rfl (Nat.le_of_ble_eq_true rfl) (by decide) ?_
    refine cp_mono h (fun _ v5 ⟨e1, h⟩ => ⟨e1, ?_⟩)
    refine g_iconst (-1 : Int32) e_M_look_13 (by decide) ?_
    refine g_istore_n (L' := [(1, .int ((-1 : Int32))), (0, .ref (154))]) e_M_look_14 rfl (by decide) rfl ?_
    refine g_lconst (0 : Int64) e_M_look_15 (by decide) ?_
    refine g_lstore_n (L' := [(2, .long ((0 : Int64))), (1, .int ((-1 : Int32))), (0, .ref (154))]) e_M_look_16 rfl (by decide) rfl ?_
    refine g_iconst (0 : Int32) e_M_look_17 (by decide) ?_
    refine g_istore (L' := [(4, .int ((0 : Int32))), (2, .long ((0 : Int64))), (1, .int ((-1 : Int32))), (0, .ref (154))]) e_M_look_18 (by decide) rfl ?_
    exact g_sub [3, 2, 1, 0] rfl h
  · replace h := iteT h c3
    refine g_iconst (-1 : Int32) e_M_look_7 (by decide) ?_
    exact p_retI e_M_look_8.1 rfl h
set_option maxHeartbeats 1000000 in
theorem s_M_look_20 {l1 : Int32} {l2 : Int64} {l4 : Int32} {v : Vv} {Q : Int32 → Vv → Prop} (h : if l4 < (v).1 154 11 then ((ib (l4) 6) ∧ (if (v).1 161 (ix (l4)) = (-1 : Int32) then (m_M_alike l4 (v) (fun x9 v10 => k_M_look_20 ((if l1 = (-1 : Int32) then l4 else (if x9 < l2 then l4 else l1))) ((if l1 = (-1 : Int32) then x9 else (if x9 < l2 then x9 else l2))) ((l4 + (1 : Int32))) (v10) Q)) else (k_M_look_66 (l1) (l2) (l4) (v) Q))) else (Q (l1) (v))) : k_M_look_20 l1 l2 l4 v Q := by
  show Gp 48 M_M_look 20 [(0, .ref (154)), (1, .int (l1)), (2, .long (l2)), (4, .int (l4))] [] v (QI Q)
  refine g_iload 3 e_M_look_20 rfl ?_
  refine g_aload_n 0 e_M_look_22 rfl rfl ?_
  refine p_getI e_M_look_23 sh_154 fl_M_92 rfl ?_
  refine g_icmp_ge (tgt := 72) e_M_look_26 rfl (fun c6 => ?_) (fun c6 => ?_)
  · replace h := iteF h c6
    refine g_iload_n 1 e_M_look_72 rfl rfl ?_
    exact p_retI e_M_look_73.1 rfl h
  · replace h := iteT h c6
    refine g_aload_n 0 e_M_look_29 rfl rfl ?_
    refine p_getR (j := 161) e_M_look_30 sh_154 fl_M_32 rfl (rf_154_10 _) ?_
    refine g_iload 3 e_M_look_33 rfl ?_
    obtain ⟨h7, h⟩ := h
    refine p_iald e_M_look_35 sh_161 h7 ?_
    refine g_iconst (-1 : Int32) e_M_look_36 (by decide) ?_
    refine g_icmp_ne (tgt := 66) e_M_look_37 rfl (fun c8 => ?_) (fun c8 => ?_)
    · replace h := iteF h c8
      exact g_sub [0, 1, 2, 3] rfl h
    · replace h := iteT h c8
      refine g_aload_n 0 e_M_look_40 rfl rfl ?_
      refine g_iload 3 e_M_look_41 rfl ?_
      refine p_callVJ (d' := 3) (ci := 10) (r := (RX10, TX10, 49)) (As := [.int (l4)]) (rest := []) e_M_look_43 zm_M_alike lV_M_408 sh_154 rfl rfl rfl rfl (Nat.le_of_ble_eq_true rfl) (by decide) ?_
      refine cp_mono h (fun _ v10 ⟨x9, e1, h⟩ => ⟨x9, e1, ?_⟩)
      refine g_lstore (L' := [(5, .long (x9)), (0, .ref (154)), (1, .int (l1)), (2, .long (l2)), (4, .int (l4))]) e_M_look_46 (by decide) rfl ?_
      refine g_iload_n 2 e_M_look_48 rfl rfl ?_
      refine g_iconst (-1 : Int32) e_M_look_49 (by decide) ?_
      have hj : ∀ m0 : Int32, m0 = (if l1 = (-1 : Int32) then l4 else (if x9 < l2 then l4 else l1)) → ∀ m1 : Int64, m1 = (if l1 = (-1 : Int32) then x9 else (if x9 < l2 then x9 else l2)) → Gp 48 M_M_look 66 [(0, .ref (154)), (1, .int (m0)), (2, .long (m1)), (4, .int (l4)), (5, .long (x9))] [] (v10) (QI Q) := by
        intro m0 hm0 m1 hm1
        subst hm0
        subst hm1
        refine g_iinc (v := (l4 + (1 : Int32))) (L' := [(4, .int ((l4 + (1 : Int32)))), (0, .ref (154)), (1, .int ((if l1 = (-1 : Int32) then l4 else (if x9 < l2 then l4 else l1)))), (2, .long ((if l1 = (-1 : Int32) then x9 else (if x9 < l2 then x9 else l2)))), (5, .long (x9))]) 3 e_M_look_66 rfl rfl (by decide) rfl ?_
        refine g_goto (tgt := 20) e_M_look_69 rfl ?_
        exact g_sub [1, 2, 3, 0] rfl h
      refine g_icmp_eq (tgt := 60) e_M_look_50 rfl (fun c11 => ?_) (fun c11 => ?_)
      · refine g_iload 4 e_M_look_60 rfl ?_
        refine g_istore_n (L' := [(1, .int (l4)), (5, .long (x9)), (0, .ref (154)), (2, .long (l2)), (4, .int (l4))]) e_M_look_62 rfl (by decide) rfl ?_
        refine g_lload 1 e_M_look_63 rfl ?_
        refine g_lstore_n (L' := [(2, .long (x9)), (1, .int (l4)), (5, .long (x9)), (0, .ref (154)), (4, .int (l4))]) e_M_look_65 rfl (by decide) rfl ?_
        refine g_sub [3, 1, 0, 4, 2] rfl ?_
        exact hj (l4) (by simp only [if_pos c11]) (x9) (by simp only [if_pos c11])
      · refine g_lload 0 e_M_look_53 rfl ?_
        refine g_lload_n 3 e_M_look_55 rfl rfl ?_
        refine g_l_ge (tgt := 66) e_M_look_56 e_M_look_57 rfl (fun c12 => ?_) (fun c12 => ?_)
        · refine g_sub [1, 2, 3, 4, 0] rfl ?_
          exact hj (l1) (by simp only [if_neg c11, if_neg c12]) (l2) (by simp only [if_neg c11, if_neg c12])
        · refine g_iload 4 e_M_look_60 rfl ?_
          refine g_istore_n (L' := [(1, .int (l4)), (5, .long (x9)), (0, .ref (154)), (2, .long (l2)), (4, .int (l4))]) e_M_look_62 rfl (by decide) rfl ?_
          refine g_lload 1 e_M_look_63 rfl ?_
          refine g_lstore_n (L' := [(2, .long (x9)), (1, .int (l4)), (5, .long (x9)), (0, .ref (154)), (4, .int (l4))]) e_M_look_65 rfl (by decide) rfl ?_
          refine g_sub [3, 1, 0, 4, 2] rfl ?_
          exact hj (l4) (by simp only [if_neg c11, if_pos c12]) (x9) (by simp only [if_neg c11, if_pos c12])
set_option maxHeartbeats 1000000 in
theorem s_M_look_66 {l1 : Int32} {l2 : Int64} {l4 : Int32} {v : Vv} {Q : Int32 → Vv → Prop} (h : k_M_look_20 (l1) (l2) ((l4 + (1 : Int32))) (v) Q) : k_M_look_66 l1 l2 l4 v Q := by
  show Gp 48 M_M_look 66 [(0, .ref (154)), (1, .int (l1)), (2, .long (l2)), (4, .int (l4))] [] v (QI Q)
  refine g_iinc (v := (l4 + (1 : Int32))) (L' := [(4, .int ((l4 + (1 : Int32)))), (0, .ref (154)), (1, .int (l1)), (2, .long (l2))]) 3 e_M_look_66 rfl rfl (by decide) rfl ?_
  refine g_goto (tgt := 20) e_M_look_69 rfl ?_
  exact g_sub [1, 2, 3, 0] rfl h
set_option maxHeartbeats 1000000 in
theorem s_M_fewest  {v : Vv} {Q : Int32 → Vv → Prop} (h : m_M_gathers  (v) (fun v2 => k_M_fewest_8 ((-1 : Int32)) ((1 : Int32)) (v2) Q)) : m_M_fewest  v Q := by
  refine cp_go (Nat.le_of_ble_eq_true rfl) (by decide +kernel) ?_
  show Gp 48 M_M_fewest 0 [(0, .ref (154))] [] v (QI Q)
  refine g_aload_n 0 e_M_fewest_0 rfl rfl ?_
  refine p_callVV (d' := 47) (ci := 10) (r := (RX10, TX10, 49)) (As := []) (rest := []) e_M_fewest_1 zm_M_gathers lV_M_386 sh_154 rfl rfl rfl rfl (Nat.le_of_ble_eq_true rfl) (by decide) ?_
  refine cp_mono h (fun _ v2 ⟨e1, h⟩ => ⟨e1, ?_⟩)
  refine g_iconst (-1 : Int32) e_M_fewest_4 (by decide) ?_
  refine g_istore_n (L' := [(1, .int ((-1 : Int32))), (0, .ref (154))]) e_M_fewest_5 rfl (by decide) rfl ?_
  refine g_iconst (1 : Int32) e_M_fewest_6 (by decide) ?_
  refine g_istore_n (L' := [(2, .int ((1 : Int32))), (1, .int ((-1 : Int32))), (0, .ref (154))]) e_M_fewest_7 rfl (by decide) rfl ?_
  exact g_sub [2, 1, 0] rfl h
set_option maxHeartbeats 1000000 in
theorem s_M_fewest_8 {l1 : Int32} {l2 : Int32} {v : Vv} {Q : Int32 → Vv → Prop} (h : if l2 < ((1 : Int32) <<< ((v).1 154 11 &&& 31)) then (if l1 = (-1 : Int32) then (k_M_fewest_34 (l1) (l2) (v) Q) else (m_M_bitsOf l2 (v) (fun x5 v6 => m_M_bitsOf l1 (v6) (fun x7 v8 => if x5 < x7 then (k_M_fewest_34 (l1) (l2) (v8) Q) else (k_M_fewest_44 (l1) (l2) (v8) Q))))) else (Q (l1) (v))) : k_M_fewest_8 l1 l2 v Q := by
  show Gp 48 M_M_fewest 8 [(0, .ref (154)), (1, .int (l1)), (2, .int (l2))] [] v (QI Q)
  refine g_iload_n 2 e_M_fewest_8 rfl rfl ?_
  refine g_iconst (1 : Int32) e_M_fewest_9 (by decide) ?_
  refine g_aload_n 0 e_M_fewest_10 rfl rfl ?_
  refine p_getI e_M_fewest_11 sh_154 fl_M_92 rfl ?_
  refine g_ishl e_M_fewest_14 ?_
  refine g_icmp_ge (tgt := 50) e_M_fewest_15 rfl (fun c3 => ?_) (fun c3 => ?_)
  · replace h := iteF h c3
    refine g_iload_n 1 e_M_fewest_50 rfl rfl ?_
    exact p_retI e_M_fewest_51.1 rfl h
  · replace h := iteT h c3
    refine g_iload_n 1 e_M_fewest_18 rfl rfl ?_
    refine g_iconst (-1 : Int32) e_M_fewest_19 (by decide) ?_
    refine g_icmp_eq (tgt := 34) e_M_fewest_20 rfl (fun c4 => ?_) (fun c4 => ?_)
    · replace h := iteT h c4
      exact g_sub [0, 1, 2] rfl h
    · replace h := iteF h c4
      refine g_iload_n 2 e_M_fewest_23 rfl rfl ?_
      refine p_callSI (d' := 1) (As := [.int (l2)]) (rest := []) e_M_fewest_24 zm_M_bitsOf lS_M_343 rfl rfl (Nat.le_of_ble_eq_true rfl) (by decide) ?_
      refine cp_mono h (fun _ v6 ⟨x5, e1, h⟩ => ⟨x5, e1, ?_⟩)
      refine g_iload_n 1 e_M_fewest_27 rfl rfl ?_
      refine p_callSI (d' := 1) (As := [.int (l1)]) (rest := [.int (x5)]) e_M_fewest_28 zm_M_bitsOf lS_M_343 rfl rfl (Nat.le_of_ble_eq_true rfl) (by decide) ?_
      refine cp_mono h (fun _ v8 ⟨x7, e1, h⟩ => ⟨x7, e1, ?_⟩)
      refine g_icmp_ge (tgt := 44) e_M_fewest_31 rfl (fun c9 => ?_) (fun c9 => ?_)
      · replace h := iteF h c9
        exact g_sub [0, 1, 2] rfl h
      · replace h := iteT h c9
        exact g_sub [0, 1, 2] rfl h
set_option maxHeartbeats 1000000 in
theorem s_M_fewest_34 {l1 : Int32} {l2 : Int32} {v : Vv} {Q : Int32 → Vv → Prop} (h : m_M_tellsAll l2 (v) (fun x10 v11 => k_M_fewest_8 ((if x10 = true then l2 else l1)) ((l2 + (1 : Int32))) (v11) Q)) : k_M_fewest_34 l1 l2 v Q := by
  show Gp 48 M_M_fewest 34 [(0, .ref (154)), (1, .int (l1)), (2, .int (l2))] [] v (QI Q)
  refine g_aload_n 0 e_M_fewest_34 rfl rfl ?_
  refine g_iload_n 2 e_M_fewest_35 rfl rfl ?_
  refine p_callVZ (d' := 2) (ci := 10) (r := (RX10, TX10, 49)) (As := [.int (l2)]) (rest := []) e_M_fewest_36 zm_M_tellsAll lV_M_416 sh_154 rfl rfl rfl rfl (Nat.le_of_ble_eq_true rfl) (by decide) ?_
  refine cp_mono h (fun _ v11 ⟨x10, e1, h⟩ => ⟨x10, e1, ?_⟩)
  have hj : ∀ m0 : Int32, m0 = (if x10 = true then l2 else l1) → Gp 48 M_M_fewest 44 [(0, .ref (154)), (1, .int (m0)), (2, .int (l2))] [] (v11) (QI Q) := by
    intro m0 hm0
    subst hm0
    refine g_iinc (v := (l2 + (1 : Int32))) (L' := [(2, .int ((l2 + (1 : Int32)))), (0, .ref (154)), (1, .int ((if x10 = true then l2 else l1)))]) 2 e_M_fewest_44 rfl rfl (by decide) rfl ?_
    refine g_goto (tgt := 8) e_M_fewest_47 rfl ?_
    exact g_sub [1, 2, 0] rfl h
  refine p_ifz_eq (tgt := 44) e_M_fewest_39 rfl (fun c12 => ?_) (fun c12 => ?_)
  · exact hj (l1) (by simp only [if_neg c12])
  · refine g_iload_n 2 e_M_fewest_42 rfl rfl ?_
    refine g_istore_n (L' := [(1, .int (l2)), (0, .ref (154)), (2, .int (l2))]) e_M_fewest_43 rfl (by decide) rfl ?_
    refine g_sub [1, 0, 2] rfl ?_
    exact hj (l2) (by simp only [if_pos c12])
set_option maxHeartbeats 1000000 in
theorem s_M_fewest_44 {l1 : Int32} {l2 : Int32} {v : Vv} {Q : Int32 → Vv → Prop} (h : k_M_fewest_8 (l1) ((l2 + (1 : Int32))) (v) Q) : k_M_fewest_44 l1 l2 v Q := by
  show Gp 48 M_M_fewest 44 [(0, .ref (154)), (1, .int (l1)), (2, .int (l2))] [] v (QI Q)
  refine g_iinc (v := (l2 + (1 : Int32))) (L' := [(2, .int ((l2 + (1 : Int32)))), (0, .ref (154)), (1, .int (l1))]) 2 e_M_fewest_44 rfl rfl (by decide) rfl ?_
  refine g_goto (tgt := 8) e_M_fewest_47 rfl ?_
  exact g_sub [1, 2, 0] rfl h
set_option maxHeartbeats 1000000 in
theorem s_M_ask  {v : Vv} {Q : Int32 → Vv → Prop} (h : m_M_gathers  (v) (fun v2 => k_M_ask_11 ((-1 : Int32)) ((0 : Int64)) ((0 : Int32)) (v2) Q)) : m_M_ask  v Q := by
  refine cp_go (Nat.le_of_ble_eq_true rfl) (by decide +kernel) ?_
  show Gp 48 M_M_ask 0 [(0, .ref (154))] [] v (QI Q)
  refine g_aload_n 0 e_M_ask_0 rfl rfl ?_
  refine p_callVV (d' := 47) (ci := 10) (r := (RX10, TX10, 49)) (As := []) (rest := []) e_M_ask_1 zm_M_gathers lV_M_386 sh_154 rfl rfl rfl rfl (Nat.le_of_ble_eq_true rfl) (by decide) ?_
  refine cp_mono h (fun _ v2 ⟨e1, h⟩ => ⟨e1, ?_⟩)
  refine g_iconst (-1 : Int32) e_M_ask_4 (by decide) ?_
  refine g_istore_n (L' := [(1, .int ((-1 : Int32))), (0, .ref (154))]) e_M_ask_5 rfl (by decide) rfl ?_
  refine g_lconst (0 : Int64) e_M_ask_6 (by decide) ?_
  refine g_lstore_n (L' := [(2, .long ((0 : Int64))), (1, .int ((-1 : Int32))), (0, .ref (154))]) e_M_ask_7 rfl (by decide) rfl ?_
  refine g_iconst (0 : Int32) e_M_ask_8 (by decide) ?_
  refine g_istore (L' := [(4, .int ((0 : Int32))), (2, .long ((0 : Int64))), (1, .int ((-1 : Int32))), (0, .ref (154))]) e_M_ask_9 (by decide) rfl ?_
  exact g_sub [3, 2, 1, 0] rfl h
set_option maxHeartbeats 1000000 in
theorem s_M_ask_11 {l1 : Int32} {l2 : Int64} {l4 : Int32} {v : Vv} {Q : Int32 → Vv → Prop} (h : if l4 < (v).1 154 15 then (k_M_ask_26 (l1) (l2) (l4) ((0 : Int64)) ((0 : Int32)) (v) Q) else (Q (l1) (v))) : k_M_ask_11 l1 l2 l4 v Q := by
  show Gp 48 M_M_ask 11 [(0, .ref (154)), (1, .int (l1)), (2, .long (l2)), (4, .int (l4))] [] v (QI Q)
  refine g_iload 3 e_M_ask_11 rfl ?_
  refine g_aload_n 0 e_M_ask_13 rfl rfl ?_
  refine p_getI e_M_ask_14 sh_154 fl_M_99 rfl ?_
  refine g_icmp_ge (tgt := 130) e_M_ask_17 rfl (fun c3 => ?_) (fun c3 => ?_)
  · replace h := iteF h c3
    refine g_iload_n 1 e_M_ask_130 rfl rfl ?_
    exact p_retI e_M_ask_131.1 rfl h
  · replace h := iteT h c3
    refine g_lconst (0 : Int64) e_M_ask_20 (by decide) ?_
    refine g_lstore (L' := [(5, .long ((0 : Int64))), (0, .ref (154)), (1, .int (l1)), (2, .long (l2)), (4, .int (l4))]) e_M_ask_21 (by decide) rfl ?_
    refine g_iconst (0 : Int32) e_M_ask_23 (by decide) ?_
    refine g_istore (L' := [(7, .int ((0 : Int32))), (5, .long ((0 : Int64))), (0, .ref (154)), (1, .int (l1)), (2, .long (l2)), (4, .int (l4))]) e_M_ask_24 (by decide) rfl ?_
    exact g_sub [2, 3, 4, 5, 1, 0] rfl h
set_option maxHeartbeats 1000000 in
theorem s_M_ask_26 {l1 : Int32} {l2 : Int64} {l4 : Int32} {l5 : Int64} {l7 : Int32} {v : Vv} {Q : Int32 → Vv → Prop} (h : m_M_worlds  (v) (fun x4 v5 => if l7 < x4 then ((ib (l7) 32) ∧ (k_M_ask_26 (l1) (l2) (l4) ((l5 + (if (v5).1 169 (ix (l7)) = (1 : Int32) then (if ((l7 >>> (l4 &&& 31)) &&& (1 : Int32)) = (1 : Int32) then (v5).2.1 167 (ix (l7)) else (0 : Int64)) else (0 : Int64)))) ((l7 + (1 : Int32))) (v5) Q)) else (if ((v5).2.1 154 37 - l5) < l5 then (k_M_ask_104 (l1) (l2) (l4) (l5) (v5) Q) else (k_M_ask_104 (l1) (l2) (l4) (((v5).2.1 154 37 - l5)) (v5) Q)))) : k_M_ask_26 l1 l2 l4 l5 l7 v Q := by
  show Gp 48 M_M_ask 26 [(0, .ref (154)), (1, .int (l1)), (2, .long (l2)), (4, .int (l4)), (5, .long (l5)), (7, .int (l7))] [] v (QI Q)
  refine g_iload 5 e_M_ask_26 rfl ?_
  refine g_aload_n 0 e_M_ask_28 rfl rfl ?_
  refine p_callVI (d' := 1) (ci := 10) (r := (RX10, TX10, 49)) (As := []) (rest := [.int (l7)]) e_M_ask_29 zm_M_worlds lV_M_371 sh_154 rfl rfl rfl rfl (Nat.le_of_ble_eq_true rfl) (by decide) ?_
  refine cp_mono h (fun _ v5 ⟨x4, e1, h⟩ => ⟨x4, e1, ?_⟩)
  refine g_icmp_ge (tgt := 79) e_M_ask_32 rfl (fun c6 => ?_) (fun c6 => ?_)
  · replace h := iteF h c6
    refine g_lload 4 e_M_ask_79 rfl ?_
    refine g_aload_n 0 e_M_ask_81 rfl rfl ?_
    refine p_getJ e_M_ask_82 sh_154 fl_M_368 rfl ?_
    refine g_lload 4 e_M_ask_85 rfl ?_
    refine g_lsub e_M_ask_87 ?_
    refine g_l_le (tgt := 97) e_M_ask_88 e_M_ask_89 rfl (fun c10 => ?_) (fun c10 => ?_)
    · replace h := iteF h c10
      refine g_aload_n 0 e_M_ask_97 rfl rfl ?_
      refine p_getJ e_M_ask_98 sh_154 fl_M_368 rfl ?_
      refine g_lload 4 e_M_ask_101 rfl ?_
      refine g_lsub e_M_ask_103 ?_
      exact g_sub [0, 1, 2, 3] rfl h
    · replace h := iteT h c10
      refine g_lload 4 e_M_ask_92 rfl ?_
      refine g_goto (tgt := 104) e_M_ask_94 rfl ?_
      exact g_sub [0, 1, 2, 3] rfl h
  · replace h := iteT h c6
    refine g_lload 4 e_M_ask_35 rfl ?_
    refine g_aload_n 0 e_M_ask_37 rfl rfl ?_
    refine p_getR (j := 169) e_M_ask_38 sh_154 fl_M_57 rfl (rf_154_35 _) ?_
    refine g_iload 5 e_M_ask_41 rfl ?_
    obtain ⟨h7, h⟩ := h
    refine p_iald e_M_ask_43 sh_169 h7 ?_
    refine g_iconst (1 : Int32) e_M_ask_44 (by decide) ?_
    have hj : ∀ m0 : Int64, m0 = (if (v5).1 169 (ix (l7)) = (1 : Int32) then (if ((l7 >>> (l4 &&& 31)) &&& (1 : Int32)) = (1 : Int32) then (v5).2.1 167 (ix (l7)) else (0 : Int64)) else (0 : Int64)) → Gp 48 M_M_ask 70 [(0, .ref (154)), (1, .int (l1)), (2, .long (l2)), (4, .int (l4)), (5, .long (l5)), (7, .int (l7))] [.long (m0), .long (l5)] (v5) (QI Q) := by
      intro m0 hm0
      subst hm0
      refine g_ladd e_M_ask_70 ?_
      refine g_lstore (L' := [(5, .long ((l5 + (if (v5).1 169 (ix (l7)) = (1 : Int32) then (if ((l7 >>> (l4 &&& 31)) &&& (1 : Int32)) = (1 : Int32) then (v5).2.1 167 (ix (l7)) else (0 : Int64)) else (0 : Int64))))), (0, .ref (154)), (1, .int (l1)), (2, .long (l2)), (4, .int (l4)), (7, .int (l7))]) e_M_ask_71 (by decide) rfl ?_
      refine g_iinc (v := (l7 + (1 : Int32))) (L' := [(7, .int ((l7 + (1 : Int32)))), (5, .long ((l5 + (if (v5).1 169 (ix (l7)) = (1 : Int32) then (if ((l7 >>> (l4 &&& 31)) &&& (1 : Int32)) = (1 : Int32) then (v5).2.1 167 (ix (l7)) else (0 : Int64)) else (0 : Int64))))), (0, .ref (154)), (1, .int (l1)), (2, .long (l2)), (4, .int (l4))]) 5 e_M_ask_73 rfl rfl (by decide) rfl ?_
      refine g_goto (tgt := 26) e_M_ask_76 rfl ?_
      exact g_sub [2, 3, 4, 5, 1, 0] rfl h
    refine g_icmp_ne (tgt := 69) e_M_ask_45 rfl (fun c8 => ?_) (fun c8 => ?_)
    · refine g_lconst (0 : Int64) e_M_ask_69 (by decide) ?_
      exact hj ((0 : Int64)) (by simp only [if_neg c8])
    · refine g_iload 5 e_M_ask_48 rfl ?_
      refine g_iload 3 e_M_ask_50 rfl ?_
      refine g_ishr e_M_ask_52 ?_
      refine g_iconst (1 : Int32) e_M_ask_53 (by decide) ?_
      refine g_iand e_M_ask_54 ?_
      refine g_iconst (1 : Int32) e_M_ask_55 (by decide) ?_
      refine g_icmp_ne (tgt := 69) e_M_ask_56 rfl (fun c9 => ?_) (fun c9 => ?_)
      · refine g_lconst (0 : Int64) e_M_ask_69 (by decide) ?_
        exact hj ((0 : Int64)) (by simp only [if_pos c8, if_neg c9])
      · refine g_aload_n 0 e_M_ask_59 rfl rfl ?_
        refine p_getR (j := 167) e_M_ask_60 sh_154 fl_M_50 rfl (rf_154_33 _) ?_
        refine g_iload 5 e_M_ask_63 rfl ?_
        refine p_lald e_M_ask_65 sh_167 h7 ?_
        refine g_goto (tgt := 70) e_M_ask_66 rfl ?_
        exact hj ((v5).2.1 167 (ix (l7))) (by simp only [if_pos c8, if_pos c9])
set_option maxHeartbeats 1000000 in
theorem s_M_ask_104 {l1 : Int32} {l2 : Int64} {l4 : Int32} {t0 : Int64} {v : Vv} {Q : Int32 → Vv → Prop} (h : k_M_ask_11 ((if l1 = (-1 : Int32) then l4 else (if t0 < l2 then l4 else l1))) ((if l1 = (-1 : Int32) then t0 else (if t0 < l2 then t0 else l2))) ((l4 + (1 : Int32))) (v) Q) : k_M_ask_104 l1 l2 l4 t0 v Q := by
  show Gp 48 M_M_ask 104 [(0, .ref (154)), (1, .int (l1)), (2, .long (l2)), (4, .int (l4))] [.long (t0)] v (QI Q)
  refine g_lstore (L' := [(7, .long (t0)), (0, .ref (154)), (1, .int (l1)), (2, .long (l2)), (4, .int (l4))]) e_M_ask_104 (by decide) rfl ?_
  refine g_iload_n 2 e_M_ask_106 rfl rfl ?_
  refine g_iconst (-1 : Int32) e_M_ask_107 (by decide) ?_
  have hj : ∀ m0 : Int32, m0 = (if l1 = (-1 : Int32) then l4 else (if t0 < l2 then l4 else l1)) → ∀ m1 : Int64, m1 = (if l1 = (-1 : Int32) then t0 else (if t0 < l2 then t0 else l2)) → Gp 48 M_M_ask 124 [(0, .ref (154)), (1, .int (m0)), (2, .long (m1)), (4, .int (l4)), (7, .long (t0))] [] (v) (QI Q) := by
    intro m0 hm0 m1 hm1
    subst hm0
    subst hm1
    refine g_iinc (v := (l4 + (1 : Int32))) (L' := [(4, .int ((l4 + (1 : Int32)))), (0, .ref (154)), (1, .int ((if l1 = (-1 : Int32) then l4 else (if t0 < l2 then l4 else l1)))), (2, .long ((if l1 = (-1 : Int32) then t0 else (if t0 < l2 then t0 else l2)))), (7, .long (t0))]) 3 e_M_ask_124 rfl rfl (by decide) rfl ?_
    refine g_goto (tgt := 11) e_M_ask_127 rfl ?_
    exact g_sub [1, 2, 3, 0] rfl h
  refine g_icmp_eq (tgt := 118) e_M_ask_108 rfl (fun c11 => ?_) (fun c11 => ?_)
  · refine g_iload 4 e_M_ask_118 rfl ?_
    refine g_istore_n (L' := [(1, .int (l4)), (7, .long (t0)), (0, .ref (154)), (2, .long (l2)), (4, .int (l4))]) e_M_ask_120 rfl (by decide) rfl ?_
    refine g_lload 1 e_M_ask_121 rfl ?_
    refine g_lstore_n (L' := [(2, .long (t0)), (1, .int (l4)), (7, .long (t0)), (0, .ref (154)), (4, .int (l4))]) e_M_ask_123 rfl (by decide) rfl ?_
    refine g_sub [3, 1, 0, 4, 2] rfl ?_
    exact hj (l4) (by simp only [if_pos c11]) (t0) (by simp only [if_pos c11])
  · refine g_lload 0 e_M_ask_111 rfl ?_
    refine g_lload_n 3 e_M_ask_113 rfl rfl ?_
    refine g_l_ge (tgt := 124) e_M_ask_114 e_M_ask_115 rfl (fun c12 => ?_) (fun c12 => ?_)
    · refine g_sub [1, 2, 3, 4, 0] rfl ?_
      exact hj (l1) (by simp only [if_neg c11, if_neg c12]) (l2) (by simp only [if_neg c11, if_neg c12])
    · refine g_iload 4 e_M_ask_118 rfl ?_
      refine g_istore_n (L' := [(1, .int (l4)), (7, .long (t0)), (0, .ref (154)), (2, .long (l2)), (4, .int (l4))]) e_M_ask_120 rfl (by decide) rfl ?_
      refine g_lload 1 e_M_ask_121 rfl ?_
      refine g_lstore_n (L' := [(2, .long (t0)), (1, .int (l4)), (7, .long (t0)), (0, .ref (154)), (4, .int (l4))]) e_M_ask_123 rfl (by decide) rfl ?_
      refine g_sub [3, 1, 0, 4, 2] rfl ?_
      exact hj (l4) (by simp only [if_neg c11, if_pos c12]) (t0) (by simp only [if_neg c11, if_pos c12])
set_option maxHeartbeats 1000000 in
theorem s_M_say {l1 : Int32} {v : Vv} {Q : Int32 → Vv → Prop} (h : m_M_in ((l1).toInt64) (0 : Int64) (1 : Int64) (v) (fun x1 v2 => if x1 = true then (m_M_gathers  (v2) (fun v5 => k_M_say_21 (l1) ((0 : Int32)) ((1 : Int32)) (v5) Q)) else (Q ((-2 : Int32)) (v2)))) : m_M_say l1 v Q := by
  refine cp_go (Nat.le_of_ble_eq_true rfl) (by decide +kernel) ?_
  show Gp 48 M_M_say 0 [(0, .ref (154)), (1, .int (l1))] [] v (QI Q)
  refine g_iload_n 1 e_M_say_0 rfl rfl ?_
  refine g_i2l e_M_say_1 ?_
  refine g_lconst (0 : Int64) e_M_say_2 (by decide) ?_
  refine g_lconst (1 : Int64) e_M_say_3 (by decide) ?_
  refine p_callSZ (d' := 1) (As := [.long ((l1).toInt64), .long ((0 : Int64)), .long ((1 : Int64))]) (rest := []) e_M_say_4 zm_M_in lS_M_95 rfl rfl (Nat.le_of_ble_eq_true rfl) (by decide) ?_
  refine cp_mono h (fun _ v2 ⟨x1, e1, h⟩ => ⟨x1, e1, ?_⟩)
  refine p_ifz_ne (tgt := 13) e_M_say_7 rfl (fun c3 => ?_) (fun c3 => ?_)
  · replace h := iteT h c3
    refine g_aload_n 0 e_M_say_13 rfl rfl ?_
    refine p_callVV (d' := 47) (ci := 10) (r := (RX10, TX10, 49)) (As := []) (rest := []) e_M_say_14 zm_M_gathers lV_M_386 sh_154 rfl rfl rfl rfl (Nat.le_of_ble_eq_true rfl) (by decide) ?_
    refine cp_mono h (fun _ v5 ⟨e1, h⟩ => ⟨e1, ?_⟩)
    refine g_iconst (0 : Int32) e_M_say_17 (by decide) ?_
    refine g_istore_n (L' := [(2, .int ((0 : Int32))), (0, .ref (154)), (1, .int (l1))]) e_M_say_18 rfl (by decide) rfl ?_
    refine g_iconst (1 : Int32) e_M_say_19 (by decide) ?_
    refine g_istore_n (L' := [(3, .int ((1 : Int32))), (2, .int ((0 : Int32))), (0, .ref (154)), (1, .int (l1))]) e_M_say_20 rfl (by decide) rfl ?_
    exact g_sub [2, 3, 1, 0] rfl h
  · replace h := iteF h c3
    refine g_bipush (-2 : Int32) e_M_say_10 (by decide) ?_
    exact p_retI e_M_say_12.1 rfl h
set_option maxHeartbeats 1000000 in
theorem s_M_say_21 {l1 : Int32} {l2 : Int32} {l3 : Int32} {v : Vv} {Q : Int32 → Vv → Prop} (h : m_M_worlds  (v) (fun x6 v7 => if l3 < x6 then ((ib (l3) 32) ∧ (m_M_bitsOf ((v7).1 168 (ix (l3))) (v7) (fun x10 v11 => (ib (l2) 32) ∧ (m_M_bitsOf ((v11).1 168 (ix (l2))) (v11) (fun x13 v14 => if (0 : Int32) < (x10 - x13) then (k_M_say_71 (l1) (l3) (v14) Q) else (if (x10 - x13) = (0 : Int32) then (m_M_bitsOf l3 (v14) (fun x17 v18 => m_M_bitsOf l2 (v18) (fun x19 v20 => k_M_say_21 (l1) ((if x17 < x19 then l3 else l2)) ((l3 + (1 : Int32))) (v20) Q))) else (k_M_say_73 (l1) (l2) (l3) (v14) Q))))))) else (if l1 = (0 : Int32) then (Q (l2) (v7)) else ((ib (l2) 32) ∧ (m_M_bitsOf ((v7).1 168 (ix (l2))) (v7) (fun x24 v25 => Q (x24) (v25))))))) : k_M_say_21 l1 l2 l3 v Q := by
  show Gp 48 M_M_say 21 [(0, .ref (154)), (1, .int (l1)), (2, .int (l2)), (3, .int (l3))] [] v (QI Q)
  refine g_iload_n 3 e_M_say_21 rfl rfl ?_
  refine g_aload_n 0 e_M_say_22 rfl rfl ?_
  refine p_callVI (d' := 1) (ci := 10) (r := (RX10, TX10, 49)) (As := []) (rest := [.int (l3)]) e_M_say_23 zm_M_worlds lV_M_371 sh_154 rfl rfl rfl rfl (Nat.le_of_ble_eq_true rfl) (by decide) ?_
  refine cp_mono h (fun _ v7 ⟨x6, e1, h⟩ => ⟨x6, e1, ?_⟩)
  refine g_icmp_ge (tgt := 79) e_M_say_26 rfl (fun c8 => ?_) (fun c8 => ?_)
  · replace h := iteF h c8
    refine g_iload_n 1 e_M_say_79 rfl rfl ?_
    refine g_if_ne (tgt := 87) e_M_say_80 rfl (fun c22 => ?_) (fun c22 => ?_)
    · replace h := iteF h c22
      refine g_aload_n 0 e_M_say_87 rfl rfl ?_
      refine p_getR (j := 168) e_M_say_88 sh_154 fl_M_54 rfl (rf_154_34 _) ?_
      refine g_iload_n 2 e_M_say_91 rfl rfl ?_
      obtain ⟨h23, h⟩ := h
      refine p_iald e_M_say_92 sh_168 h23 ?_
      refine p_callSI (d' := 1) (As := [.int ((v7).1 168 (ix (l2)))]) (rest := []) e_M_say_93 zm_M_bitsOf lS_M_343 rfl rfl (Nat.le_of_ble_eq_true rfl) (by decide) ?_
      refine cp_mono h (fun _ v25 ⟨x24, e1, h⟩ => ⟨x24, e1, ?_⟩)
      exact p_retI e_M_say_96.1 rfl h
    · replace h := iteT h c22
      refine g_iload_n 2 e_M_say_83 rfl rfl ?_
      refine g_goto (tgt := 96) e_M_say_84 rfl ?_
      exact p_retI e_M_say_96.1 rfl h
  · replace h := iteT h c8
    refine g_aload_n 0 e_M_say_29 rfl rfl ?_
    refine p_getR (j := 168) e_M_say_30 sh_154 fl_M_54 rfl (rf_154_34 _) ?_
    refine g_iload_n 3 e_M_say_33 rfl rfl ?_
    obtain ⟨h9, h⟩ := h
    refine p_iald e_M_say_34 sh_168 h9 ?_
    refine p_callSI (d' := 1) (As := [.int ((v7).1 168 (ix (l3)))]) (rest := []) e_M_say_35 zm_M_bitsOf lS_M_343 rfl rfl (Nat.le_of_ble_eq_true rfl) (by decide) ?_
    refine cp_mono h (fun _ v11 ⟨x10, e1, h⟩ => ⟨x10, e1, ?_⟩)
    refine g_aload_n 0 e_M_say_38 rfl rfl ?_
    refine p_getR (j := 168) e_M_say_39 sh_154 fl_M_54 rfl (rf_154_34 _) ?_
    refine g_iload_n 2 e_M_say_42 rfl rfl ?_
    obtain ⟨h12, h⟩ := h
    refine p_iald e_M_say_43 sh_168 h12 ?_
    refine p_callSI (d' := 1) (As := [.int ((v11).1 168 (ix (l2)))]) (rest := [.int (x10)]) e_M_say_44 zm_M_bitsOf lS_M_343 rfl rfl (Nat.le_of_ble_eq_true rfl) (by decide) ?_
    refine cp_mono h (fun _ v14 ⟨x13, e1, h⟩ => ⟨x13, e1, ?_⟩)
    refine g_isub e_M_say_47 ?_
    refine g_istore (L' := [(4, .int ((x10 - x13))), (0, .ref (154)), (1, .int (l1)), (2, .int (l2)), (3, .int (l3))]) e_M_say_48 (by decide) rfl ?_
    refine g_iload 0 e_M_say_50 rfl ?_
    refine g_if_gt (tgt := 71) e_M_say_52 rfl (fun c15 => ?_) (fun c15 => ?_)
    · replace h := iteT h c15
      exact g_sub [1, 2, 4] rfl h
    · replace h := iteF h c15
      refine g_iload 0 e_M_say_55 rfl ?_
      refine g_if_ne (tgt := 73) e_M_say_57 rfl (fun c16 => ?_) (fun c16 => ?_)
      · replace h := iteF h c16
        exact g_sub [1, 2, 3, 4] rfl h
      · replace h := iteT h c16
        refine g_iload_n 4 e_M_say_60 rfl rfl ?_
        refine p_callSI (d' := 1) (As := [.int (l3)]) (rest := []) e_M_say_61 zm_M_bitsOf lS_M_343 rfl rfl (Nat.le_of_ble_eq_true rfl) (by decide) ?_
        refine cp_mono h (fun _ v18 ⟨x17, e1, h⟩ => ⟨x17, e1, ?_⟩)
        refine g_iload_n 3 e_M_say_64 rfl rfl ?_
        refine p_callSI (d' := 1) (As := [.int (l2)]) (rest := [.int (x17)]) e_M_say_65 zm_M_bitsOf lS_M_343 rfl rfl (Nat.le_of_ble_eq_true rfl) (by decide) ?_
        refine cp_mono h (fun _ v20 ⟨x19, e1, h⟩ => ⟨x19, e1, ?_⟩)
        have hj : ∀ m0 : Int32, m0 = (if x17 < x19 then l3 else l2) → Gp 48 M_M_say 73 [(0, .ref (154)), (1, .int (l1)), (2, .int (m0)), (3, .int (l3)), (4, .int ((x10 - x13)))] [] (v20) (QI Q) := by
          intro m0 hm0
          subst hm0
          refine g_iinc (v := (l3 + (1 : Int32))) (L' := [(3, .int ((l3 + (1 : Int32)))), (0, .ref (154)), (1, .int (l1)), (2, .int ((if x17 < x19 then l3 else l2))), (4, .int ((x10 - x13)))]) 3 e_M_say_73 rfl rfl (by decide) rfl ?_
          refine g_goto (tgt := 21) e_M_say_76 rfl ?_
          exact g_sub [1, 2, 3, 0] rfl h
        refine g_icmp_ge (tgt := 73) e_M_say_68 rfl (fun c21 => ?_) (fun c21 => ?_)
        · refine g_sub [1, 2, 3, 4, 0] rfl ?_
          exact hj (l2) (by simp only [if_neg c21])
        · refine g_iload_n 4 e_M_say_71 rfl rfl ?_
          refine g_istore_n (L' := [(2, .int (l3)), (4, .int ((x10 - x13))), (0, .ref (154)), (1, .int (l1)), (3, .int (l3))]) e_M_say_72 rfl (by decide) rfl ?_
          refine g_sub [2, 3, 0, 4, 1] rfl ?_
          exact hj (l3) (by simp only [if_pos c21])
set_option maxHeartbeats 1000000 in
theorem s_M_say_71 {l1 : Int32} {l3 : Int32} {v : Vv} {Q : Int32 → Vv → Prop} (h : k_M_say_73 (l1) (l3) (l3) (v) Q) : k_M_say_71 l1 l3 v Q := by
  show Gp 48 M_M_say 71 [(0, .ref (154)), (1, .int (l1)), (3, .int (l3))] [] v (QI Q)
  refine g_iload_n 2 e_M_say_71 rfl rfl ?_
  refine g_istore_n (L' := [(2, .int (l3)), (0, .ref (154)), (1, .int (l1)), (3, .int (l3))]) e_M_say_72 rfl (by decide) rfl ?_
  exact g_sub [1, 2, 0, 3] rfl h
set_option maxHeartbeats 1000000 in
theorem s_M_say_73 {l1 : Int32} {l2 : Int32} {l3 : Int32} {v : Vv} {Q : Int32 → Vv → Prop} (h : k_M_say_21 (l1) (l2) ((l3 + (1 : Int32))) (v) Q) : k_M_say_73 l1 l2 l3 v Q := by
  show Gp 48 M_M_say 73 [(0, .ref (154)), (1, .int (l1)), (2, .int (l2)), (3, .int (l3))] [] v (QI Q)
  refine g_iinc (v := (l3 + (1 : Int32))) (L' := [(3, .int ((l3 + (1 : Int32)))), (0, .ref (154)), (1, .int (l1)), (2, .int (l2))]) 3 e_M_say_73 rfl rfl (by decide) rfl ?_
  refine g_goto (tgt := 21) e_M_say_76 rfl ?_
  exact g_sub [1, 2, 3, 0] rfl h
set_option maxHeartbeats 1000000 in
theorem s_M_bad {l1 : Int32} {v : Vv} {Q : Int64 → Vv → Prop} (h : m_M_in ((l1).toInt64) (0 : Int64) (1 : Int64) (v) (fun x1 v2 => if x1 = true then (m_M_gathers  (v2) (fun v5 => if (v5).2.1 154 37 = (0 : Int64) then (Q ((-4611686018427387904 : Int64)) (v5)) else (k_M_bad_36 (l1) ((0 : Int64)) ((0 : Int32)) (v5) Q))) else (Q ((-4611686018427387904 : Int64)) (v2)))) : m_M_bad l1 v Q := by
  refine cp_go (Nat.le_of_ble_eq_true rfl) (by decide +kernel) ?_
  show Gp 48 M_M_bad 0 [(0, .ref (154)), (1, .int (l1))] [] v (QJ Q)
  refine g_iload_n 1 e_M_bad_0 rfl rfl ?_
  refine g_i2l e_M_bad_1 ?_
  refine g_lconst (0 : Int64) e_M_bad_2 (by decide) ?_
  refine g_lconst (1 : Int64) e_M_bad_3 (by decide) ?_
  refine p_callSZ (d' := 1) (As := [.long ((l1).toInt64), .long ((0 : Int64)), .long ((1 : Int64))]) (rest := []) e_M_bad_4 zm_M_in lS_M_95 rfl rfl (Nat.le_of_ble_eq_true rfl) (by decide) ?_
  refine cp_mono h (fun _ v2 ⟨x1, e1, h⟩ => ⟨x1, e1, ?_⟩)
  refine p_ifz_ne (tgt := 14) e_M_bad_7 rfl (fun c3 => ?_) (fun c3 => ?_)
  · replace h := iteT h c3
    refine g_aload_n 0 e_M_bad_14 rfl rfl ?_
    refine p_callVV (d' := 47) (ci := 10) (r := (RX10, TX10, 49)) (As := []) (rest := []) e_M_bad_15 zm_M_gathers lV_M_386 sh_154 rfl rfl rfl rfl (Nat.le_of_ble_eq_true rfl) (by decide) ?_
    refine cp_mono h (fun _ v5 ⟨e1, h⟩ => ⟨e1, ?_⟩)
    refine g_aload_n 0 e_M_bad_18 rfl rfl ?_
    refine p_getJ e_M_bad_19 sh_154 fl_M_368 rfl ?_
    refine g_lconst (0 : Int64) e_M_bad_22 (by decide) ?_
    refine g_l_ne (tgt := 31) e_M_bad_23 e_M_bad_24 rfl (fun c6 => ?_) (fun c6 => ?_)
    · replace h := iteF h c6
      refine g_lconst (0 : Int64) e_M_bad_31 (by decide) ?_
      refine g_lstore_n (L' := [(2, .long ((0 : Int64))), (0, .ref (154)), (1, .int (l1))]) e_M_bad_32 rfl (by decide) rfl ?_
      refine g_iconst (0 : Int32) e_M_bad_33 (by decide) ?_
      refine g_istore (L' := [(4, .int ((0 : Int32))), (2, .long ((0 : Int64))), (0, .ref (154)), (1, .int (l1))]) e_M_bad_34 (by decide) rfl ?_
      exact g_sub [2, 3, 1, 0] rfl h
    · replace h := iteT h c6
      refine g_ldc2 (v := (-4611686018427387904 : Int64)) (hd := e_M_bad_27) cl_M_384 ?_
      exact p_retJ e_M_bad_30.1 rfl h
  · replace h := iteF h c3
    refine g_ldc2 (v := (-4611686018427387904 : Int64)) (hd := e_M_bad_10) cl_M_384 ?_
    exact p_retJ e_M_bad_13.1 rfl h
set_option maxHeartbeats 1000000 in
theorem s_M_bad_36 {l1 : Int32} {l2 : Int64} {l4 : Int32} {v : Vv} {Q : Int64 → Vv → Prop} (h : m_M_worlds  (v) (fun x7 v8 => if l4 < x7 then (k_M_bad_48 (l1) (l2) (l4) ((0 : Int32)) (v8) Q) else (m_M_lowest l2 ((v8).2.1 154 37) l1 (v8) (fun x10 v11 => Q (x10) (v11))))) : k_M_bad_36 l1 l2 l4 v Q := by
  show Gp 48 M_M_bad 36 [(0, .ref (154)), (1, .int (l1)), (2, .long (l2)), (4, .int (l4))] [] v (QJ Q)
  refine g_iload 3 e_M_bad_36 rfl ?_
  refine g_aload_n 0 e_M_bad_38 rfl rfl ?_
  refine p_callVI (d' := 1) (ci := 10) (r := (RX10, TX10, 49)) (As := []) (rest := [.int (l4)]) e_M_bad_39 zm_M_worlds lV_M_371 sh_154 rfl rfl rfl rfl (Nat.le_of_ble_eq_true rfl) (by decide) ?_
  refine cp_mono h (fun _ v8 ⟨x7, e1, h⟩ => ⟨x7, e1, ?_⟩)
  refine g_icmp_ge (tgt := 130) e_M_bad_42 rfl (fun c9 => ?_) (fun c9 => ?_)
  · replace h := iteF h c9
    refine g_lload_n 2 e_M_bad_130 rfl rfl ?_
    refine g_aload_n 0 e_M_bad_131 rfl rfl ?_
    refine p_getJ e_M_bad_132 sh_154 fl_M_368 rfl ?_
    refine g_iload_n 1 e_M_bad_135 rfl rfl ?_
    refine p_callSJ (d' := 1) (As := [.long (l2), .long ((v8).2.1 154 37), .int (l1)]) (rest := []) e_M_bad_136 zm_M_lowest lS_M_389 rfl rfl (Nat.le_of_ble_eq_true rfl) (by decide) ?_
    refine cp_mono h (fun _ v11 ⟨x10, e1, h⟩ => ⟨x10, e1, ?_⟩)
    exact p_retJ e_M_bad_139.1 rfl h
  · replace h := iteT h c9
    refine g_iconst (0 : Int32) e_M_bad_45 (by decide) ?_
    refine g_istore (L' := [(5, .int ((0 : Int32))), (0, .ref (154)), (1, .int (l1)), (2, .long (l2)), (4, .int (l4))]) e_M_bad_46 (by decide) rfl ?_
    exact g_sub [1, 2, 3, 4, 0] rfl h
set_option maxHeartbeats 1000000 in
theorem s_M_bad_48 {l1 : Int32} {l2 : Int64} {l4 : Int32} {l5 : Int32} {v : Vv} {Q : Int64 → Vv → Prop} (h : if l5 < (v).1 154 11 then ((ib (l4) 32) ∧ (if (v).1 169 (ix (l4)) = (1 : Int32) then (if (((v).1 168 (ix (l4)) >>> (l5 &&& 31)) &&& (1 : Int32)) = (0 : Int32) then ((ib ((((6 : Int32) * l4) + l5)) 192) ∧ (m_M_mindsOf l5 ((v).1 166 (ix ((((6 : Int32) * l4) + l5)))) (v) (fun x17 v18 => k_M_bad_116 (l1) (l4) (l5) (((v).2.1 167 (ix (l4)) * (x17).toInt64)) (l2) (v18) Q))) else (k_M_bad_116 (l1) (l4) (l5) ((0 : Int64)) (l2) (v) Q)) else (k_M_bad_124 (l1) (l2) (l4) (v) Q))) else (k_M_bad_124 (l1) (l2) (l4) (v) Q)) : k_M_bad_48 l1 l2 l4 l5 v Q := by
  show Gp 48 M_M_bad 48 [(0, .ref (154)), (1, .int (l1)), (2, .long (l2)), (4, .int (l4)), (5, .int (l5))] [] v (QJ Q)
  refine g_iload 4 e_M_bad_48 rfl ?_
  refine g_aload_n 0 e_M_bad_50 rfl rfl ?_
  refine p_getI e_M_bad_51 sh_154 fl_M_92 rfl ?_
  refine g_icmp_ge (tgt := 124) e_M_bad_54 rfl (fun c12 => ?_) (fun c12 => ?_)
  · replace h := iteF h c12
    exact g_sub [0, 1, 2, 3] rfl h
  · replace h := iteT h c12
    refine g_aload_n 0 e_M_bad_57 rfl rfl ?_
    refine p_getR (j := 169) e_M_bad_58 sh_154 fl_M_57 rfl (rf_154_35 _) ?_
    refine g_iload 3 e_M_bad_61 rfl ?_
    obtain ⟨h13, h⟩ := h
    refine p_iald e_M_bad_63 sh_169 h13 ?_
    refine g_iconst (1 : Int32) e_M_bad_64 (by decide) ?_
    refine g_icmp_ne (tgt := 124) e_M_bad_65 rfl (fun c14 => ?_) (fun c14 => ?_)
    · replace h := iteF h c14
      exact g_sub [0, 1, 2, 3] rfl h
    · replace h := iteT h c14
      refine g_lload_n 2 e_M_bad_68 rfl rfl ?_
      refine g_aload_n 0 e_M_bad_69 rfl rfl ?_
      refine p_getR (j := 168) e_M_bad_70 sh_154 fl_M_54 rfl (rf_154_34 _) ?_
      refine g_iload 3 e_M_bad_73 rfl ?_
      refine p_iald e_M_bad_75 sh_168 h13 ?_
      refine g_iload 4 e_M_bad_76 rfl ?_
      refine g_ishr e_M_bad_78 ?_
      refine g_iconst (1 : Int32) e_M_bad_79 (by decide) ?_
      refine g_iand e_M_bad_80 ?_
      refine g_if_ne (tgt := 115) e_M_bad_81 rfl (fun c15 => ?_) (fun c15 => ?_)
      · replace h := iteF h c15
        refine g_lconst (0 : Int64) e_M_bad_115 (by decide) ?_
        exact g_sub [0, 1, 3, 4] rfl h
      · replace h := iteT h c15
        refine g_aload_n 0 e_M_bad_84 rfl rfl ?_
        refine p_getR (j := 167) e_M_bad_85 sh_154 fl_M_50 rfl (rf_154_33 _) ?_
        refine g_iload 3 e_M_bad_88 rfl ?_
        refine p_lald e_M_bad_90 sh_167 h13 ?_
        refine g_aload_n 0 e_M_bad_91 rfl rfl ?_
        refine g_iload 4 e_M_bad_92 rfl ?_
        refine g_aload_n 0 e_M_bad_94 rfl rfl ?_
        refine p_getR (j := 166) e_M_bad_95 sh_154 fl_M_47 rfl (rf_154_32 _) ?_
        refine g_bipush (6 : Int32) e_M_bad_98 (by decide) ?_
        refine g_iload 3 e_M_bad_100 rfl ?_
        refine g_imul e_M_bad_102 ?_
        refine g_iload 4 e_M_bad_103 rfl ?_
        refine g_iadd e_M_bad_105 ?_
        obtain ⟨h16, h⟩ := h
        refine p_iald e_M_bad_106 sh_166 h16 ?_
        refine p_callVI (d' := 43) (ci := 10) (r := (RX10, TX10, 49)) (As := [.int (l5), .int ((v).1 166 (ix ((((6 : Int32) * l4) + l5))))]) (rest := [.long ((v).2.1 167 (ix (l4))), .long (l2)]) e_M_bad_107 zm_M_mindsOf lV_M_419 sh_154 rfl rfl rfl rfl (Nat.le_of_ble_eq_true rfl) (by decide) ?_
        refine cp_mono h (fun _ v18 ⟨x17, e1, h⟩ => ⟨x17, e1, ?_⟩)
        refine g_i2l e_M_bad_110 ?_
        refine g_lmul e_M_bad_111 ?_
        refine g_goto (tgt := 116) e_M_bad_112 rfl ?_
        exact g_sub [0, 1, 3, 4] rfl h
set_option maxHeartbeats 1000000 in
theorem s_M_bad_116 {l1 : Int32} {l4 : Int32} {l5 : Int32} {t0 : Int64} {t1 : Int64} {v : Vv} {Q : Int64 → Vv → Prop} (h : k_M_bad_48 (l1) ((t1 + t0)) (l4) ((l5 + (1 : Int32))) (v) Q) : k_M_bad_116 l1 l4 l5 t0 t1 v Q := by
  show Gp 48 M_M_bad 116 [(0, .ref (154)), (1, .int (l1)), (4, .int (l4)), (5, .int (l5))] [.long (t0), .long (t1)] v (QJ Q)
  refine g_ladd e_M_bad_116 ?_
  refine g_lstore_n (L' := [(2, .long ((t1 + t0))), (0, .ref (154)), (1, .int (l1)), (4, .int (l4)), (5, .int (l5))]) e_M_bad_117 rfl (by decide) rfl ?_
  refine g_iinc (v := (l5 + (1 : Int32))) (L' := [(5, .int ((l5 + (1 : Int32)))), (2, .long ((t1 + t0))), (0, .ref (154)), (1, .int (l1)), (4, .int (l4))]) 4 e_M_bad_118 rfl rfl (by decide) rfl ?_
  refine g_goto (tgt := 48) e_M_bad_121 rfl ?_
  exact g_sub [2, 3, 1, 4, 0] rfl h
set_option maxHeartbeats 1000000 in
theorem s_M_bad_124 {l1 : Int32} {l2 : Int64} {l4 : Int32} {v : Vv} {Q : Int64 → Vv → Prop} (h : k_M_bad_36 (l1) (l2) ((l4 + (1 : Int32))) (v) Q) : k_M_bad_124 l1 l2 l4 v Q := by
  show Gp 48 M_M_bad 124 [(0, .ref (154)), (1, .int (l1)), (2, .long (l2)), (4, .int (l4))] [] v (QJ Q)
  refine g_iinc (v := (l4 + (1 : Int32))) (L' := [(4, .int ((l4 + (1 : Int32)))), (0, .ref (154)), (1, .int (l1)), (2, .long (l2))]) 3 e_M_bad_124 rfl rfl (by decide) rfl ?_
  refine g_goto (tgt := 36) e_M_bad_127 rfl ?_
  exact g_sub [1, 2, 3, 0] rfl h
