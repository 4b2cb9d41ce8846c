-- segments: the reference
set_option maxHeartbeats 1000000 in
theorem s_M_atom5  {v : Vv} {Q : Int32 → Vv → Prop} (h : m_M_isSign (45 : Int32) (v) (fun x1 v2 => if x1 = true then (m_M_opens  (v2) (fun x4 v5 => Q ((0 : Int32)) (v5))) else (m_M_isSign (40 : Int32) (v2) (fun x6 v7 => if x6 = true then (m_M_opens  (v7) (fun x9 v10 => Q ((0 : Int32)) (v10))) else (if (v7).1 154 29 = (0 : Int32) then (if (v7).1 154 25 = (2 : Int32) then (m_M_next  (v7) (fun v14 => Q (((v7).2.1 154 27).toInt32) (v14))) else (k_M_atom5_64 ((0 : Int32)) (v7) Q)) else (k_M_atom5_64 ((0 : Int32)) (v7) Q)))))) : m_M_atom5  v Q := by
  refine cp_go (Nat.le_of_ble_eq_true rfl) (by decide +kernel) ?_
  show Gp 5 M_M_atom5 0 [(0, .ref (154))] [] v (QI Q)
  refine g_iconst (0 : Int32) e_M_atom5_0 (by decide) ?_
  refine g_istore_n (L' := [(1, .int ((0 : Int32))), (0, .ref (154))]) e_M_atom5_1 rfl (by decide) rfl ?_
  refine g_aload_n 1 e_M_atom5_2 rfl rfl ?_
  refine g_bipush (45 : Int32) e_M_atom5_3 (by decide) ?_
  refine p_callVZ (d' := 1) (ci := 10) (r := (RX10, TX10, 49)) (As := [.int ((45 : Int32))]) (rest := []) e_M_atom5_5 zm_M_isSign lV_M_210 sh_154 rfl rfl rfl rfl (Nat.le_of_ble_eq_true rfl) (by decide) ?_
  refine cp_mono h (fun _ v2 ⟨x1, e1, h⟩ => ⟨x1, e1, ?_⟩)
  refine p_ifz_eq (tgt := 19) e_M_atom5_8 rfl (fun c3 => ?_) (fun c3 => ?_)
  · replace h := iteF h c3
    refine g_aload_n 1 e_M_atom5_19 rfl rfl ?_
    refine g_bipush (40 : Int32) e_M_atom5_20 (by decide) ?_
    refine p_callVZ (d' := 1) (ci := 10) (r := (RX10, TX10, 49)) (As := [.int ((40 : Int32))]) (rest := []) e_M_atom5_22 zm_M_isSign lV_M_210 sh_154 rfl rfl rfl rfl (Nat.le_of_ble_eq_true rfl) (by decide) ?_
    refine cp_mono h (fun _ v7 ⟨x6, e1, h⟩ => ⟨x6, e1, ?_⟩)
    refine p_ifz_eq (tgt := 36) e_M_atom5_25 rfl (fun c8 => ?_) (fun c8 => ?_)
    · replace h := iteF h c8
      refine g_aload_n 1 e_M_atom5_36 rfl rfl ?_
      refine p_getI e_M_atom5_37 sh_154 fl_M_168 rfl ?_
      refine g_if_ne (tgt := 64) e_M_atom5_40 rfl (fun c11 => ?_) (fun c11 => ?_)
      · replace h := iteF h c11
        exact g_sub [1, 0] rfl h
      · replace h := iteT h c11
        refine g_aload_n 1 e_M_atom5_43 rfl rfl ?_
        refine p_getI e_M_atom5_44 sh_154 fl_M_151 rfl ?_
        refine g_iconst (2 : Int32) e_M_atom5_47 (by decide) ?_
        refine g_icmp_ne (tgt := 64) e_M_atom5_48 rfl (fun c12 => ?_) (fun c12 => ?_)
        · replace h := iteF h c12
          exact g_sub [1, 0] rfl h
        · replace h := iteT h c12
          refine g_aload_n 1 e_M_atom5_51 rfl rfl ?_
          refine p_getJ e_M_atom5_52 sh_154 fl_M_162 rfl ?_
          refine g_l2i e_M_atom5_55 ?_
          refine g_istore_n (L' := [(1, .int (((v7).2.1 154 27).toInt32)), (0, .ref (154))]) e_M_atom5_56 rfl (by decide) rfl ?_
          refine g_aload_n 1 e_M_atom5_57 rfl rfl ?_
          refine p_callVV (d' := 2) (ci := 10) (r := (RX10, TX10, 49)) (As := []) (rest := []) e_M_atom5_58 zm_M_next lV_M_185 sh_154 rfl rfl rfl rfl (Nat.le_of_ble_eq_true rfl) (by decide) ?_
          refine cp_mono h (fun _ v14 ⟨e1, h⟩ => ⟨e1, ?_⟩)
          refine g_goto (tgt := 102) e_M_atom5_61 rfl ?_
          refine g_iload_n 0 e_M_atom5_102 rfl rfl ?_
          exact p_retI e_M_atom5_103.1 rfl h
    · replace h := iteT h c8
      refine g_aload_n 1 e_M_atom5_28 rfl rfl ?_
      refine p_callVZ (d' := 3) (ci := 10) (r := (RX10, TX10, 49)) (As := []) (rest := []) e_M_atom5_29 zm_M_opens lV_M_213 sh_154 rfl rfl rfl rfl (Nat.le_of_ble_eq_true rfl) (by decide) ?_
      refine cp_mono h (fun _ v10 ⟨x9, e1, h⟩ => ⟨x9, e1, ?_⟩)
      refine g_pop e_M_atom5_32 rfl ?_
      refine g_goto (tgt := 102) e_M_atom5_33 rfl ?_
      refine g_iload_n 0 e_M_atom5_102 rfl rfl ?_
      exact p_retI e_M_atom5_103.1 rfl h
  · replace h := iteT h c3
    refine g_aload_n 1 e_M_atom5_11 rfl rfl ?_
    refine p_callVZ (d' := 3) (ci := 10) (r := (RX10, TX10, 49)) (As := []) (rest := []) e_M_atom5_12 zm_M_opens lV_M_213 sh_154 rfl rfl rfl rfl (Nat.le_of_ble_eq_true rfl) (by decide) ?_
    refine cp_mono h (fun _ v5 ⟨x4, e1, h⟩ => ⟨x4, e1, ?_⟩)
    refine g_pop e_M_atom5_15 rfl ?_
    refine g_goto (tgt := 102) e_M_atom5_16 rfl ?_
    refine g_iload_n 0 e_M_atom5_102 rfl rfl ?_
    exact p_retI e_M_atom5_103.1 rfl h
set_option maxHeartbeats 1000000 in
theorem s_M_atom5_64 {l1 : Int32} {v : Vv} {Q : Int32 → Vv → Prop} (h : if (v).1 154 29 = (0 : Int32) then (if (v).1 154 25 = (1 : Int32) then (m_M_name  (v) (fun x17 v18 => if (v18).1 154 29 = (0 : Int32) then (m_M_next  (v18) (fun v21 => Q (x17) (v21))) else (Q (x17) (v18)))) else (k_M_atom5_98 (l1) (v) Q)) else (k_M_atom5_98 (l1) (v) Q)) : k_M_atom5_64 l1 v Q := by
  show Gp 5 M_M_atom5 64 [(0, .ref (154)), (1, .int (l1))] [] v (QI Q)
  refine g_aload_n 0 e_M_atom5_64 rfl rfl ?_
  refine p_getI e_M_atom5_65 sh_154 fl_M_168 rfl ?_
  refine g_if_ne (tgt := 98) e_M_atom5_68 rfl (fun c15 => ?_) (fun c15 => ?_)
  · replace h := iteF h c15
    exact g_sub [0, 1] rfl h
  · replace h := iteT h c15
    refine g_aload_n 0 e_M_atom5_71 rfl rfl ?_
    refine p_getI e_M_atom5_72 sh_154 fl_M_151 rfl ?_
    refine g_iconst (1 : Int32) e_M_atom5_75 (by decide) ?_
    refine g_icmp_ne (tgt := 98) e_M_atom5_76 rfl (fun c16 => ?_) (fun c16 => ?_)
    · replace h := iteF h c16
      exact g_sub [0, 1] rfl h
    · replace h := iteT h c16
      refine g_aload_n 0 e_M_atom5_79 rfl rfl ?_
      refine p_callVI (d' := 4) (ci := 10) (r := (RX10, TX10, 49)) (As := []) (rest := []) e_M_atom5_80 zm_M_name lV_M_217 sh_154 rfl rfl rfl rfl (Nat.le_of_ble_eq_true rfl) (by decide) ?_
      refine cp_mono h (fun _ v18 ⟨x17, e1, h⟩ => ⟨x17, e1, ?_⟩)
      refine g_istore_n (L' := [(1, .int (x17)), (0, .ref (154))]) e_M_atom5_83 rfl (by decide) rfl ?_
      refine g_aload_n 1 e_M_atom5_84 rfl rfl ?_
      refine p_getI e_M_atom5_85 sh_154 fl_M_168 rfl ?_
      refine g_if_ne (tgt := 102) e_M_atom5_88 rfl (fun c19 => ?_) (fun c19 => ?_)
      · replace h := iteF h c19
        refine g_iload_n 0 e_M_atom5_102 rfl rfl ?_
        exact p_retI e_M_atom5_103.1 rfl h
      · replace h := iteT h c19
        refine g_aload_n 1 e_M_atom5_91 rfl rfl ?_
        refine p_callVV (d' := 2) (ci := 10) (r := (RX10, TX10, 49)) (As := []) (rest := []) e_M_atom5_92 zm_M_next lV_M_185 sh_154 rfl rfl rfl rfl (Nat.le_of_ble_eq_true rfl) (by decide) ?_
        refine cp_mono h (fun _ v21 ⟨e1, h⟩ => ⟨e1, ?_⟩)
        refine g_goto (tgt := 102) e_M_atom5_95 rfl ?_
        refine g_iload_n 0 e_M_atom5_102 rfl rfl ?_
        exact p_retI e_M_atom5_103.1 rfl h
set_option maxHeartbeats 1000000 in
theorem s_M_atom5_98 {l1 : Int32} {v : Vv} {Q : Int32 → Vv → Prop} (h : m_M_fail  (v) (fun v23 => Q (l1) (v23))) : k_M_atom5_98 l1 v Q := by
  show Gp 5 M_M_atom5 98 [(0, .ref (154)), (1, .int (l1))] [] v (QI Q)
  refine g_aload_n 0 e_M_atom5_98 rfl rfl ?_
  refine p_callVV (d' := 1) (ci := 10) (r := (RX10, TX10, 49)) (As := []) (rest := []) e_M_atom5_99 zm_M_fail lV_M_182 sh_154 rfl rfl rfl rfl (Nat.le_of_ble_eq_true rfl) (by decide) ?_
  refine cp_mono h (fun _ v23 ⟨e1, h⟩ => ⟨e1, ?_⟩)
  refine g_iload_n 1 e_M_atom5_102 rfl rfl ?_
  exact p_retI e_M_atom5_103.1 rfl h
set_option maxHeartbeats 1000000 in
theorem s_M_term5  {v : Vv} {Q : Int32 → Vv → Prop} (h : m_M_atom5  (v) (fun x1 v2 => k_M_term5_5 (x1) (v2) Q)) : m_M_term5  v Q := by
  refine cp_go (Nat.le_of_ble_eq_true rfl) (by decide +kernel) ?_
  show Gp 6 M_M_term5 0 [(0, .ref (154))] [] v (QI Q)
  refine g_aload_n 0 e_M_term5_0 rfl rfl ?_
  refine p_callVI (d' := 5) (ci := 10) (r := (RX10, TX10, 49)) (As := []) (rest := []) e_M_term5_1 zm_M_atom5 lV_M_221 sh_154 rfl rfl rfl rfl (Nat.le_of_ble_eq_true rfl) (by decide) ?_
  refine cp_mono h (fun _ v2 ⟨x1, e1, h⟩ => ⟨x1, e1, ?_⟩)
  refine g_istore_n (L' := [(1, .int (x1)), (0, .ref (154))]) e_M_term5_4 rfl (by decide) rfl ?_
  exact g_sub [1, 0] rfl h
set_option maxHeartbeats 1000000 in
theorem s_M_term5_5 {l1 : Int32} {v : Vv} {Q : Int32 → Vv → Prop} (h : m_M_isSign (42 : Int32) (v) (fun x3 v4 => if x3 = true then (m_M_next  (v4) (fun v7 => m_M_atom5  (v7) (fun x8 v9 => k_M_term5_5 ((l1 * x8)) (v9) Q))) else (Q (l1) (v4)))) : k_M_term5_5 l1 v Q := by
  show Gp 6 M_M_term5 5 [(0, .ref (154)), (1, .int (l1))] [] v (QI Q)
  refine g_aload_n 0 e_M_term5_5 rfl rfl ?_
  refine g_bipush (42 : Int32) e_M_term5_6 (by decide) ?_
  refine p_callVZ (d' := 1) (ci := 10) (r := (RX10, TX10, 49)) (As := [.int ((42 : Int32))]) (rest := []) e_M_term5_8 zm_M_isSign lV_M_210 sh_154 rfl rfl rfl rfl (Nat.le_of_ble_eq_true rfl) (by decide) ?_
  refine cp_mono h (fun _ v4 ⟨x3, e1, h⟩ => ⟨x3, e1, ?_⟩)
  refine p_ifz_eq (tgt := 28) e_M_term5_11 rfl (fun c5 => ?_) (fun c5 => ?_)
  · replace h := iteF h c5
    refine g_iload_n 1 e_M_term5_28 rfl rfl ?_
    exact p_retI e_M_term5_29.1 rfl h
  · replace h := iteT h c5
    refine g_aload_n 0 e_M_term5_14 rfl rfl ?_
    refine p_callVV (d' := 2) (ci := 10) (r := (RX10, TX10, 49)) (As := []) (rest := []) e_M_term5_15 zm_M_next lV_M_185 sh_154 rfl rfl rfl rfl (Nat.le_of_ble_eq_true rfl) (by decide) ?_
    refine cp_mono h (fun _ v7 ⟨e1, h⟩ => ⟨e1, ?_⟩)
    refine g_iload_n 1 e_M_term5_18 rfl rfl ?_
    refine g_aload_n 0 e_M_term5_19 rfl rfl ?_
    refine p_callVI (d' := 5) (ci := 10) (r := (RX10, TX10, 49)) (As := []) (rest := [.int (l1)]) e_M_term5_20 zm_M_atom5 lV_M_221 sh_154 rfl rfl rfl rfl (Nat.le_of_ble_eq_true rfl) (by decide) ?_
    refine cp_mono h (fun _ v9 ⟨x8, e1, h⟩ => ⟨x8, e1, ?_⟩)
    refine g_imul e_M_term5_23 ?_
    refine g_istore_n (L' := [(1, .int ((l1 * x8))), (0, .ref (154))]) e_M_term5_24 rfl (by decide) rfl ?_
    refine g_goto (tgt := 5) e_M_term5_25 rfl ?_
    exact g_sub [1, 0] rfl h
set_option maxHeartbeats 1000000 in
theorem s_M_added5  {v : Vv} {Q : Int32 → Vv → Prop} (h : m_M_term5  (v) (fun x1 v2 => k_M_added5_5 (x1) (v2) Q)) : m_M_added5  v Q := by
  refine cp_go (Nat.le_of_ble_eq_true rfl) (by decide +kernel) ?_
  show Gp 7 M_M_added5 0 [(0, .ref (154))] [] v (QI Q)
  refine g_aload_n 0 e_M_added5_0 rfl rfl ?_
  refine p_callVI (d' := 6) (ci := 10) (r := (RX10, TX10, 49)) (As := []) (rest := []) e_M_added5_1 zm_M_term5 lV_M_224 sh_154 rfl rfl rfl rfl (Nat.le_of_ble_eq_true rfl) (by decide) ?_
  refine cp_mono h (fun _ v2 ⟨x1, e1, h⟩ => ⟨x1, e1, ?_⟩)
  refine g_istore_n (L' := [(1, .int (x1)), (0, .ref (154))]) e_M_added5_4 rfl (by decide) rfl ?_
  exact g_sub [1, 0] rfl h
set_option maxHeartbeats 1000000 in
theorem s_M_added5_5 {l1 : Int32} {v : Vv} {Q : Int32 → Vv → Prop} (h : m_M_isSign (43 : Int32) (v) (fun x3 v4 => if x3 = true then (k_M_added5_23 (l1) (v4) Q) else (m_M_isSign (45 : Int32) (v4) (fun x6 v7 => if x6 = true then (k_M_added5_23 (l1) (v7) Q) else (Q (l1) (v7)))))) : k_M_added5_5 l1 v Q := by
  show Gp 7 M_M_added5 5 [(0, .ref (154)), (1, .int (l1))] [] v (QI Q)
  refine g_aload_n 0 e_M_added5_5 rfl rfl ?_
  refine g_bipush (43 : Int32) e_M_added5_6 (by decide) ?_
  refine p_callVZ (d' := 1) (ci := 10) (r := (RX10, TX10, 49)) (As := [.int ((43 : Int32))]) (rest := []) e_M_added5_8 zm_M_isSign lV_M_210 sh_154 rfl rfl rfl rfl (Nat.le_of_ble_eq_true rfl) (by decide) ?_
  refine cp_mono h (fun _ v4 ⟨x3, e1, h⟩ => ⟨x3, e1, ?_⟩)
  refine p_ifz_ne (tgt := 23) e_M_added5_11 rfl (fun c5 => ?_) (fun c5 => ?_)
  · replace h := iteT h c5
    exact g_sub [0, 1] rfl h
  · replace h := iteF h c5
    refine g_aload_n 0 e_M_added5_14 rfl rfl ?_
    refine g_bipush (45 : Int32) e_M_added5_15 (by decide) ?_
    refine p_callVZ (d' := 1) (ci := 10) (r := (RX10, TX10, 49)) (As := [.int ((45 : Int32))]) (rest := []) e_M_added5_17 zm_M_isSign lV_M_210 sh_154 rfl rfl rfl rfl (Nat.le_of_ble_eq_true rfl) (by decide) ?_
    refine cp_mono h (fun _ v7 ⟨x6, e1, h⟩ => ⟨x6, e1, ?_⟩)
    refine p_ifz_eq (tgt := 66) e_M_added5_20 rfl (fun c8 => ?_) (fun c8 => ?_)
    · replace h := iteF h c8
      refine g_iload_n 1 e_M_added5_66 rfl rfl ?_
      exact p_retI e_M_added5_67.1 rfl h
    · replace h := iteT h c8
      exact g_sub [0, 1] rfl h
set_option maxHeartbeats 1000000 in
theorem s_M_added5_23 {l1 : Int32} {v : Vv} {Q : Int32 → Vv → Prop} (h : if (v).2.1 154 27 = (43 : Int64) then (k_M_added5_39 (l1) ((1 : Int32)) (v) Q) else (k_M_added5_39 (l1) ((0 : Int32)) (v) Q)) : k_M_added5_23 l1 v Q := by
  show Gp 7 M_M_added5 23 [(0, .ref (154)), (1, .int (l1))] [] v (QI Q)
  refine g_aload_n 0 e_M_added5_23 rfl rfl ?_
  refine p_getJ e_M_added5_24 sh_154 fl_M_162 rfl ?_
  refine g_ldc2 (v := (43 : Int64)) (hd := e_M_added5_27) cl_M_227 ?_
  refine g_l_ne (tgt := 38) e_M_added5_30 e_M_added5_31 rfl (fun c9 => ?_) (fun c9 => ?_)
  · replace h := iteF h c9
    refine g_iconst (0 : Int32) e_M_added5_38 (by decide) ?_
    exact g_sub [0, 1] rfl h
  · replace h := iteT h c9
    refine g_iconst (1 : Int32) e_M_added5_34 (by decide) ?_
    refine g_goto (tgt := 39) e_M_added5_35 rfl ?_
    exact g_sub [0, 1] rfl h
set_option maxHeartbeats 1000000 in
theorem s_M_added5_39 {l1 : Int32} {t0 : Int32} {v : Vv} {Q : Int32 → Vv → Prop} (h : m_M_next  (v) (fun v11 => m_M_term5  (v11) (fun x12 v13 => k_M_added5_5 ((if t0 = (0 : Int32) then (l1 - x12) else (l1 + x12))) (v13) Q))) : k_M_added5_39 l1 t0 v Q := by
  show Gp 7 M_M_added5 39 [(0, .ref (154)), (1, .int (l1))] [.int (t0)] v (QI Q)
  refine g_istore_n (L' := [(2, .int (t0)), (0, .ref (154)), (1, .int (l1))]) e_M_added5_39 rfl (by decide) rfl ?_
  refine g_aload_n 1 e_M_added5_40 rfl rfl ?_
  refine p_callVV (d' := 2) (ci := 10) (r := (RX10, TX10, 49)) (As := []) (rest := []) e_M_added5_41 zm_M_next lV_M_185 sh_154 rfl rfl rfl rfl (Nat.le_of_ble_eq_true rfl) (by decide) ?_
  refine cp_mono h (fun _ v11 ⟨e1, h⟩ => ⟨e1, ?_⟩)
  refine g_aload_n 1 e_M_added5_44 rfl rfl ?_
  refine p_callVI (d' := 6) (ci := 10) (r := (RX10, TX10, 49)) (As := []) (rest := []) e_M_added5_45 zm_M_term5 lV_M_224 sh_154 rfl rfl rfl rfl (Nat.le_of_ble_eq_true rfl) (by decide) ?_
  refine cp_mono h (fun _ v13 ⟨x12, e1, h⟩ => ⟨x12, e1, ?_⟩)
  refine g_istore_n (L' := [(3, .int (x12)), (2, .int (t0)), (0, .ref (154)), (1, .int (l1))]) e_M_added5_48 rfl (by decide) rfl ?_
  refine g_iload_n 1 e_M_added5_49 rfl rfl ?_
  have hj : ∀ m0 : Int32, m0 = (if t0 = (0 : Int32) then (l1 - x12) else (l1 + x12)) → Gp 7 M_M_added5 62 [(0, .ref (154)), (1, .int (l1)), (2, .int (t0)), (3, .int (x12))] [.int (m0)] (v13) (QI Q) := by
    intro m0 hm0
    subst hm0
    refine g_istore_n (L' := [(1, .int ((if t0 = (0 : Int32) then (l1 - x12) else (l1 + x12)))), (0, .ref (154)), (2, .int (t0)), (3, .int (x12))]) e_M_added5_62 rfl (by decide) rfl ?_
    refine g_goto (tgt := 5) e_M_added5_63 rfl ?_
    exact g_sub [1, 0] rfl h
  refine g_if_eq (tgt := 59) e_M_added5_50 rfl (fun c14 => ?_) (fun c14 => ?_)
  · refine g_iload_n 3 e_M_added5_59 rfl rfl ?_
    refine g_iload_n 0 e_M_added5_60 rfl rfl ?_
    refine g_isub e_M_added5_61 ?_
    refine g_sub [2, 3, 1, 0] rfl ?_
    exact hj ((l1 - x12)) (by simp only [if_pos c14])
  · refine g_iload_n 3 e_M_added5_53 rfl rfl ?_
    refine g_iload_n 0 e_M_added5_54 rfl rfl ?_
    refine g_iadd e_M_added5_55 ?_
    refine g_goto (tgt := 62) e_M_added5_56 rfl ?_
    refine g_sub [2, 3, 1, 0] rfl ?_
    exact hj ((l1 + x12)) (by simp only [if_neg c14])
set_option maxHeartbeats 1000000 in
theorem s_M_not5  {v : Vv} {Q : Int32 → Vv → Prop} (h : m_M_isWord (110 : Int32) (111 : Int32) (116 : Int32) (0 : Int32) (0 : Int32) (0 : Int32) (0 : Int32) (0 : Int32) (v) (fun x1 v2 => if x1 = true then (m_M_opens  (v2) (fun x4 v5 => Q ((0 : Int32)) (v5))) else (m_M_added5  (v2) (fun x6 v7 => m_M_isSign (60 : Int32) (v7) (fun x8 v9 => if x8 = true then (k_M_not5_50 (x6) (v9) Q) else (m_M_isSign (61 : Int32) (v9) (fun x11 v12 => if x11 = true then (k_M_not5_50 (x6) (v12) Q) else (Q (x6) (v12))))))))) : m_M_not5  v Q := by
  refine cp_go (Nat.le_of_ble_eq_true rfl) (by decide +kernel) ?_
  show Gp 8 M_M_not5 0 [(0, .ref (154))] [] v (QI Q)
  refine g_aload_n 0 e_M_not5_0 rfl rfl ?_
  refine g_bipush (110 : Int32) e_M_not5_1 (by decide) ?_
  refine g_bipush (111 : Int32) e_M_not5_3 (by decide) ?_
  refine g_bipush (116 : Int32) e_M_not5_5 (by decide) ?_
  refine g_iconst (0 : Int32) e_M_not5_7 (by decide) ?_
  refine g_iconst (0 : Int32) e_M_not5_8 (by decide) ?_
  refine g_iconst (0 : Int32) e_M_not5_9 (by decide) ?_
  refine g_iconst (0 : Int32) e_M_not5_10 (by decide) ?_
  refine g_iconst (0 : Int32) e_M_not5_11 (by decide) ?_
  refine p_callVZ (d' := 3) (ci := 10) (r := (RX10, TX10, 49)) (As := [.int ((110 : Int32)), .int ((111 : Int32)), .int ((116 : Int32)), .int ((0 : Int32)), .int ((0 : Int32)), .int ((0 : Int32)), .int ((0 : Int32)), .int ((0 : Int32))]) (rest := []) e_M_not5_12 zm_M_isWord lV_M_188 sh_154 rfl rfl rfl rfl (Nat.le_of_ble_eq_true rfl) (by decide) ?_
  refine cp_mono h (fun _ v2 ⟨x1, e1, h⟩ => ⟨x1, e1, ?_⟩)
  refine p_ifz_eq (tgt := 25) e_M_not5_15 rfl (fun c3 => ?_) (fun c3 => ?_)
  · replace h := iteF h c3
    refine g_aload_n 0 e_M_not5_25 rfl rfl ?_
    refine p_callVI (d' := 7) (ci := 10) (r := (RX10, TX10, 49)) (As := []) (rest := []) e_M_not5_26 zm_M_added5 lV_M_229 sh_154 rfl rfl rfl rfl (Nat.le_of_ble_eq_true rfl) (by decide) ?_
    refine cp_mono h (fun _ v7 ⟨x6, e1, h⟩ => ⟨x6, e1, ?_⟩)
    refine g_istore_n (L' := [(1, .int (x6)), (0, .ref (154))]) e_M_not5_29 rfl (by decide) rfl ?_
    refine g_aload_n 1 e_M_not5_30 rfl rfl ?_
    refine g_bipush (60 : Int32) e_M_not5_31 (by decide) ?_
    refine p_callVZ (d' := 1) (ci := 10) (r := (RX10, TX10, 49)) (As := [.int ((60 : Int32))]) (rest := []) e_M_not5_33 zm_M_isSign lV_M_210 sh_154 rfl rfl rfl rfl (Nat.le_of_ble_eq_true rfl) (by decide) ?_
    refine cp_mono h (fun _ v9 ⟨x8, e1, h⟩ => ⟨x8, e1, ?_⟩)
    refine p_ifz_ne (tgt := 50) e_M_not5_36 rfl (fun c10 => ?_) (fun c10 => ?_)
    · replace h := iteT h c10
      exact g_sub [1, 0] rfl h
    · replace h := iteF h c10
      refine g_aload_n 1 e_M_not5_39 rfl rfl ?_
      refine g_bipush (61 : Int32) e_M_not5_40 (by decide) ?_
      refine p_callVZ (d' := 1) (ci := 10) (r := (RX10, TX10, 49)) (As := [.int ((61 : Int32))]) (rest := []) e_M_not5_42 zm_M_isSign lV_M_210 sh_154 rfl rfl rfl rfl (Nat.le_of_ble_eq_true rfl) (by decide) ?_
      refine cp_mono h (fun _ v12 ⟨x11, e1, h⟩ => ⟨x11, e1, ?_⟩)
      refine p_ifz_ne (tgt := 50) e_M_not5_45 rfl (fun c13 => ?_) (fun c13 => ?_)
      · replace h := iteT h c13
        exact g_sub [1, 0] rfl h
      · replace h := iteF h c13
        refine g_iload_n 0 e_M_not5_48 rfl rfl ?_
        exact p_retI e_M_not5_49.1 rfl h
  · replace h := iteT h c3
    refine g_aload_n 0 e_M_not5_18 rfl rfl ?_
    refine p_callVZ (d' := 3) (ci := 10) (r := (RX10, TX10, 49)) (As := []) (rest := []) e_M_not5_19 zm_M_opens lV_M_213 sh_154 rfl rfl rfl rfl (Nat.le_of_ble_eq_true rfl) (by decide) ?_
    refine cp_mono h (fun _ v5 ⟨x4, e1, h⟩ => ⟨x4, e1, ?_⟩)
    refine g_pop e_M_not5_22 rfl ?_
    refine g_iconst (0 : Int32) e_M_not5_23 (by decide) ?_
    exact p_retI e_M_not5_24.1 rfl h
set_option maxHeartbeats 1000000 in
theorem s_M_not5_50 {l1 : Int32} {v : Vv} {Q : Int32 → Vv → Prop} (h : if (v).2.1 154 27 = (60 : Int64) then (k_M_not5_66 (l1) ((1 : Int32)) (v) Q) else (k_M_not5_66 (l1) ((0 : Int32)) (v) Q)) : k_M_not5_50 l1 v Q := by
  show Gp 8 M_M_not5 50 [(0, .ref (154)), (1, .int (l1))] [] v (QI Q)
  refine g_aload_n 0 e_M_not5_50 rfl rfl ?_
  refine p_getJ e_M_not5_51 sh_154 fl_M_162 rfl ?_
  refine g_ldc2 (v := (60 : Int64)) (hd := e_M_not5_54) cl_M_232 ?_
  refine g_l_ne (tgt := 65) e_M_not5_57 e_M_not5_58 rfl (fun c14 => ?_) (fun c14 => ?_)
  · replace h := iteF h c14
    refine g_iconst (0 : Int32) e_M_not5_65 (by decide) ?_
    exact g_sub [0, 1] rfl h
  · replace h := iteT h c14
    refine g_iconst (1 : Int32) e_M_not5_61 (by decide) ?_
    refine g_goto (tgt := 66) e_M_not5_62 rfl ?_
    exact g_sub [0, 1] rfl h
set_option maxHeartbeats 1000000 in
theorem s_M_not5_66 {l1 : Int32} {t0 : Int32} {v : Vv} {Q : Int32 → Vv → Prop} (h : m_M_next  (v) (fun v16 => m_M_added5  (v16) (fun x17 v18 => Q (bI ((if t0 = (0 : Int32) then (if l1 = x17 then true else false) else (if l1 < x17 then true else false)))) (v18)))) : k_M_not5_66 l1 t0 v Q := by
  show Gp 8 M_M_not5 66 [(0, .ref (154)), (1, .int (l1))] [.int (t0)] v (QI Q)
  refine g_istore_n (L' := [(2, .int (t0)), (0, .ref (154)), (1, .int (l1))]) e_M_not5_66 rfl (by decide) rfl ?_
  refine g_aload_n 1 e_M_not5_67 rfl rfl ?_
  refine p_callVV (d' := 2) (ci := 10) (r := (RX10, TX10, 49)) (As := []) (rest := []) e_M_not5_68 zm_M_next lV_M_185 sh_154 rfl rfl rfl rfl (Nat.le_of_ble_eq_true rfl) (by decide) ?_
  refine cp_mono h (fun _ v16 ⟨e1, h⟩ => ⟨e1, ?_⟩)
  refine g_aload_n 1 e_M_not5_71 rfl rfl ?_
  refine p_callVI (d' := 7) (ci := 10) (r := (RX10, TX10, 49)) (As := []) (rest := []) e_M_not5_72 zm_M_added5 lV_M_229 sh_154 rfl rfl rfl rfl (Nat.le_of_ble_eq_true rfl) (by decide) ?_
  refine cp_mono h (fun _ v18 ⟨x17, e1, h⟩ => ⟨x17, e1, ?_⟩)
  refine g_istore_n (L' := [(3, .int (x17)), (2, .int (t0)), (0, .ref (154)), (1, .int (l1))]) e_M_not5_75 rfl (by decide) rfl ?_
  refine g_iload_n 1 e_M_not5_76 rfl rfl ?_
  have hj : ∀ m0 : Bool, m0 = (if t0 = (0 : Int32) then (if l1 = x17 then true else false) else (if l1 < x17 then true else false)) → Gp 8 M_M_not5 98 [(0, .ref (154)), (1, .int (l1)), (2, .int (t0)), (3, .int (x17))] [.int (bI (m0))] (v18) (QI Q) := by
    intro m0 hm0
    subst hm0
    exact p_retI e_M_not5_98.1 rfl h
  refine g_if_eq (tgt := 88) e_M_not5_77 rfl (fun c19 => ?_) (fun c19 => ?_)
  · refine g_iload_n 3 e_M_not5_88 rfl rfl ?_
    refine g_iload_n 0 e_M_not5_89 rfl rfl ?_
    refine g_icmp_ne (tgt := 97) e_M_not5_90 rfl (fun c20 => ?_) (fun c20 => ?_)
    · refine g_iconst (0 : Int32) e_M_not5_97 (by decide) ?_
      refine g_sub [2, 3, 1, 0] rfl ?_
      exact hj (false) (by simp only [if_pos c19, if_neg c20])
    · refine g_iconst (1 : Int32) e_M_not5_93 (by decide) ?_
      refine g_goto (tgt := 98) e_M_not5_94 rfl ?_
      refine g_sub [2, 3, 1, 0] rfl ?_
      exact hj (true) (by simp only [if_pos c19, if_pos c20])
  · refine g_iload_n 3 e_M_not5_80 rfl rfl ?_
    refine g_iload_n 0 e_M_not5_81 rfl rfl ?_
    refine g_icmp_ge (tgt := 97) e_M_not5_82 rfl (fun c21 => ?_) (fun c21 => ?_)
    · refine g_iconst (0 : Int32) e_M_not5_97 (by decide) ?_
      refine g_sub [2, 3, 1, 0] rfl ?_
      exact hj (false) (by simp only [if_neg c19, if_neg c21])
    · refine g_goto (tgt := 93) e_M_not5_85 rfl ?_
      refine g_iconst (1 : Int32) e_M_not5_93 (by decide) ?_
      refine g_goto (tgt := 98) e_M_not5_94 rfl ?_
      refine g_sub [2, 3, 1, 0] rfl ?_
      exact hj (true) (by simp only [if_neg c19, if_pos c21])
set_option maxHeartbeats 1000000 in
theorem s_M_both5  {v : Vv} {Q : Int32 → Vv → Prop} (h : m_M_not5  (v) (fun x1 v2 => k_M_both5_5 (x1) (v2) Q)) : m_M_both5  v Q := by
  refine cp_go (Nat.le_of_ble_eq_true rfl) (by decide +kernel) ?_
  show Gp 9 M_M_both5 0 [(0, .ref (154))] [] v (QI Q)
  refine g_aload_n 0 e_M_both5_0 rfl rfl ?_
  refine p_callVI (d' := 8) (ci := 10) (r := (RX10, TX10, 49)) (As := []) (rest := []) e_M_both5_1 zm_M_not5 lV_M_234 sh_154 rfl rfl rfl rfl (Nat.le_of_ble_eq_true rfl) (by decide) ?_
  refine cp_mono h (fun _ v2 ⟨x1, e1, h⟩ => ⟨x1, e1, ?_⟩)
  refine g_istore_n (L' := [(1, .int (x1)), (0, .ref (154))]) e_M_both5_4 rfl (by decide) rfl ?_
  exact g_sub [1, 0] rfl h
set_option maxHeartbeats 1000000 in
theorem s_M_both5_5 {l1 : Int32} {v : Vv} {Q : Int32 → Vv → Prop} (h : m_M_isWord (97 : Int32) (110 : Int32) (100 : Int32) (0 : Int32) (0 : Int32) (0 : Int32) (0 : Int32) (0 : Int32) (v) (fun x3 v4 => if x3 = true then (m_M_next  (v4) (fun v7 => m_M_not5  (v7) (fun x8 v9 => k_M_both5_5 (bI ((if l1 = (0 : Int32) then false else (if x8 = (0 : Int32) then false else true)))) (v9) Q))) else (Q (l1) (v4)))) : k_M_both5_5 l1 v Q := by
  show Gp 9 M_M_both5 5 [(0, .ref (154)), (1, .int (l1))] [] v (QI Q)
  refine g_aload_n 0 e_M_both5_5 rfl rfl ?_
  refine g_bipush (97 : Int32) e_M_both5_6 (by decide) ?_
  refine g_bipush (110 : Int32) e_M_both5_8 (by decide) ?_
  refine g_bipush (100 : Int32) e_M_both5_10 (by decide) ?_
  refine g_iconst (0 : Int32) e_M_both5_12 (by decide) ?_
  refine g_iconst (0 : Int32) e_M_both5_13 (by decide) ?_
  refine g_iconst (0 : Int32) e_M_both5_14 (by decide) ?_
  refine g_iconst (0 : Int32) e_M_both5_15 (by decide) ?_
  refine g_iconst (0 : Int32) e_M_both5_16 (by decide) ?_
  refine p_callVZ (d' := 3) (ci := 10) (r := (RX10, TX10, 49)) (As := [.int ((97 : Int32)), .int ((110 : Int32)), .int ((100 : Int32)), .int ((0 : Int32)), .int ((0 : Int32)), .int ((0 : Int32)), .int ((0 : Int32)), .int ((0 : Int32))]) (rest := []) e_M_both5_17 zm_M_isWord lV_M_188 sh_154 rfl rfl rfl rfl (Nat.le_of_ble_eq_true rfl) (by decide) ?_
  refine cp_mono h (fun _ v4 ⟨x3, e1, h⟩ => ⟨x3, e1, ?_⟩)
  refine p_ifz_eq (tgt := 49) e_M_both5_20 rfl (fun c5 => ?_) (fun c5 => ?_)
  · replace h := iteF h c5
    refine g_iload_n 1 e_M_both5_49 rfl rfl ?_
    exact p_retI e_M_both5_50.1 rfl h
  · replace h := iteT h c5
    refine g_aload_n 0 e_M_both5_23 rfl rfl ?_
    refine p_callVV (d' := 2) (ci := 10) (r := (RX10, TX10, 49)) (As := []) (rest := []) e_M_both5_24 zm_M_next lV_M_185 sh_154 rfl rfl rfl rfl (Nat.le_of_ble_eq_true rfl) (by decide) ?_
    refine cp_mono h (fun _ v7 ⟨e1, h⟩ => ⟨e1, ?_⟩)
    refine g_aload_n 0 e_M_both5_27 rfl rfl ?_
    refine p_callVI (d' := 8) (ci := 10) (r := (RX10, TX10, 49)) (As := []) (rest := []) e_M_both5_28 zm_M_not5 lV_M_234 sh_154 rfl rfl rfl rfl (Nat.le_of_ble_eq_true rfl) (by decide) ?_
    refine cp_mono h (fun _ v9 ⟨x8, e1, h⟩ => ⟨x8, e1, ?_⟩)
    refine g_istore_n (L' := [(2, .int (x8)), (0, .ref (154)), (1, .int (l1))]) e_M_both5_31 rfl (by decide) rfl ?_
    refine g_iload_n 2 e_M_both5_32 rfl rfl ?_
    have hj : ∀ m0 : Bool, m0 = (if l1 = (0 : Int32) then false else (if x8 = (0 : Int32) then false else true)) → Gp 9 M_M_both5 45 [(0, .ref (154)), (1, .int (l1)), (2, .int (x8))] [.int (bI (m0))] (v9) (QI Q) := by
      intro m0 hm0
      subst hm0
      refine g_istore_n (L' := [(1, .int (bI ((if l1 = (0 : Int32) then false else (if x8 = (0 : Int32) then false else true))))), (0, .ref (154)), (2, .int (x8))]) e_M_both5_45 rfl (by decide) rfl ?_
      refine g_goto (tgt := 5) e_M_both5_46 rfl ?_
      exact g_sub [1, 0] rfl h
    refine g_if_eq (tgt := 44) e_M_both5_33 rfl (fun c10 => ?_) (fun c10 => ?_)
    · refine g_iconst (0 : Int32) e_M_both5_44 (by decide) ?_
      refine g_sub [1, 2, 0] rfl ?_
      exact hj (false) (by simp only [if_pos c10])
    · refine g_iload_n 0 e_M_both5_36 rfl rfl ?_
      refine g_if_eq (tgt := 44) e_M_both5_37 rfl (fun c11 => ?_) (fun c11 => ?_)
      · refine g_iconst (0 : Int32) e_M_both5_44 (by decide) ?_
        refine g_sub [1, 2, 0] rfl ?_
        exact hj (false) (by simp only [if_neg c10, if_pos c11])
      · refine g_iconst (1 : Int32) e_M_both5_40 (by decide) ?_
        refine g_goto (tgt := 45) e_M_both5_41 rfl ?_
        refine g_sub [1, 2, 0] rfl ?_
        exact hj (true) (by simp only [if_neg c10, if_neg c11])
set_option maxHeartbeats 1000000 in
theorem s_M_either5  {v : Vv} {Q : Int32 → Vv → Prop} (h : m_M_both5  (v) (fun x1 v2 => k_M_either5_5 (x1) (v2) Q)) : m_M_either5  v Q := by
  refine cp_go (Nat.le_of_ble_eq_true rfl) (by decide +kernel) ?_
  show Gp 10 M_M_either5 0 [(0, .ref (154))] [] v (QI Q)
  refine g_aload_n 0 e_M_either5_0 rfl rfl ?_
  refine p_callVI (d' := 9) (ci := 10) (r := (RX10, TX10, 49)) (As := []) (rest := []) e_M_either5_1 zm_M_both5 lV_M_237 sh_154 rfl rfl rfl rfl (Nat.le_of_ble_eq_true rfl) (by decide) ?_
  refine cp_mono h (fun _ v2 ⟨x1, e1, h⟩ => ⟨x1, e1, ?_⟩)
  refine g_istore_n (L' := [(1, .int (x1)), (0, .ref (154))]) e_M_either5_4 rfl (by decide) rfl ?_
  exact g_sub [1, 0] rfl h
set_option maxHeartbeats 1000000 in
theorem s_M_either5_5 {l1 : Int32} {v : Vv} {Q : Int32 → Vv → Prop} (h : m_M_isWord (111 : Int32) (114 : Int32) (0 : Int32) (0 : Int32) (0 : Int32) (0 : Int32) (0 : Int32) (0 : Int32) (v) (fun x3 v4 => if x3 = true then (m_M_next  (v4) (fun v7 => m_M_both5  (v7) (fun x8 v9 => k_M_either5_5 (bI ((if l1 = (0 : Int32) then (if x8 = (0 : Int32) then false else true) else true))) (v9) Q))) else (Q (l1) (v4)))) : k_M_either5_5 l1 v Q := by
  show Gp 10 M_M_either5 5 [(0, .ref (154)), (1, .int (l1))] [] v (QI Q)
  refine g_aload_n 0 e_M_either5_5 rfl rfl ?_
  refine g_bipush (111 : Int32) e_M_either5_6 (by decide) ?_
  refine g_bipush (114 : Int32) e_M_either5_8 (by decide) ?_
  refine g_iconst (0 : Int32) e_M_either5_10 (by decide) ?_
  refine g_iconst (0 : Int32) e_M_either5_11 (by decide) ?_
  refine g_iconst (0 : Int32) e_M_either5_12 (by decide) ?_
  refine g_iconst (0 : Int32) e_M_either5_13 (by decide) ?_
  refine g_iconst (0 : Int32) e_M_either5_14 (by decide) ?_
  refine g_iconst (0 : Int32) e_M_either5_15 (by decide) ?_
  refine p_callVZ (d' := 3) (ci := 10) (r := (RX10, TX10, 49)) (As := [.int ((111 : Int32)), .int ((114 : Int32)), .int ((0 : Int32)), .int ((0 : Int32)), .int ((0 : Int32)), .int ((0 : Int32)), .int ((0 : Int32)), .int ((0 : Int32))]) (rest := []) e_M_either5_16 zm_M_isWord lV_M_188 sh_154 rfl rfl rfl rfl (Nat.le_of_ble_eq_true rfl) (by decide) ?_
  refine cp_mono h (fun _ v4 ⟨x3, e1, h⟩ => ⟨x3, e1, ?_⟩)
  refine p_ifz_eq (tgt := 48) e_M_either5_19 rfl (fun c5 => ?_) (fun c5 => ?_)
  · replace h := iteF h c5
    refine g_iload_n 1 e_M_either5_48 rfl rfl ?_
    exact p_retI e_M_either5_49.1 rfl h
  · replace h := iteT h c5
    refine g_aload_n 0 e_M_either5_22 rfl rfl ?_
    refine p_callVV (d' := 2) (ci := 10) (r := (RX10, TX10, 49)) (As := []) (rest := []) e_M_either5_23 zm_M_next lV_M_185 sh_154 rfl rfl rfl rfl (Nat.le_of_ble_eq_true rfl) (by decide) ?_
    refine cp_mono h (fun _ v7 ⟨e1, h⟩ => ⟨e1, ?_⟩)
    refine g_aload_n 0 e_M_either5_26 rfl rfl ?_
    refine p_callVI (d' := 9) (ci := 10) (r := (RX10, TX10, 49)) (As := []) (rest := []) e_M_either5_27 zm_M_both5 lV_M_237 sh_154 rfl rfl rfl rfl (Nat.le_of_ble_eq_true rfl) (by decide) ?_
    refine cp_mono h (fun _ v9 ⟨x8, e1, h⟩ => ⟨x8, e1, ?_⟩)
    refine g_istore_n (L' := [(2, .int (x8)), (0, .ref (154)), (1, .int (l1))]) e_M_either5_30 rfl (by decide) rfl ?_
    refine g_iload_n 2 e_M_either5_31 rfl rfl ?_
    have hj : ∀ m0 : Bool, m0 = (if l1 = (0 : Int32) then (if x8 = (0 : Int32) then false else true) else true) → Gp 10 M_M_either5 44 [(0, .ref (154)), (1, .int (l1)), (2, .int (x8))] [.int (bI (m0))] (v9) (QI Q) := by
      intro m0 hm0
      subst hm0
      refine g_istore_n (L' := [(1, .int (bI ((if l1 = (0 : Int32) then (if x8 = (0 : Int32) then false else true) else true)))), (0, .ref (154)), (2, .int (x8))]) e_M_either5_44 rfl (by decide) rfl ?_
      refine g_goto (tgt := 5) e_M_either5_45 rfl ?_
      exact g_sub [1, 0] rfl h
    refine g_if_ne (tgt := 39) e_M_either5_32 rfl (fun c10 => ?_) (fun c10 => ?_)
    · refine g_iconst (1 : Int32) e_M_either5_39 (by decide) ?_
      refine g_goto (tgt := 44) e_M_either5_40 rfl ?_
      refine g_sub [1, 2, 0] rfl ?_
      exact hj (true) (by simp only [if_neg c10])
    · refine g_iload_n 0 e_M_either5_35 rfl rfl ?_
      refine g_if_eq (tgt := 43) e_M_either5_36 rfl (fun c11 => ?_) (fun c11 => ?_)
      · refine g_iconst (0 : Int32) e_M_either5_43 (by decide) ?_
        refine g_sub [1, 2, 0] rfl ?_
        exact hj (false) (by simp only [if_pos c10, if_pos c11])
      · refine g_iconst (1 : Int32) e_M_either5_39 (by decide) ?_
        refine g_goto (tgt := 44) e_M_either5_40 rfl ?_
        refine g_sub [1, 2, 0] rfl ?_
        exact hj (true) (by simp only [if_pos c10, if_neg c11])
set_option maxHeartbeats 1000000 in
theorem s_M_atom4  {v : Vv} {Q : Int32 → Vv → Prop} (h : m_M_isSign (45 : Int32) (v) (fun x1 v2 => if x1 = true then (m_M_opens  (v2) (fun x4 v5 => if x4 = true then (m_M_atom5  (v5) (fun x7 v8 => Q ((-x7)) (sI (v8) 154 28 ((v8).1 154 28 - (1 : Int32))))) else (Q ((0 : Int32)) (v5)))) else (m_M_isSign (40 : Int32) (v2) (fun x9 v10 => if x9 = true then (m_M_opens  (v10) (fun x12 v13 => if x12 = true then (m_M_either5  (v13) (fun x15 v16 => m_M_isSign (41 : Int32) (v16) (fun x17 v18 => if x17 = true then (k_M_atom4_71 (x15) (v18) Q) else (m_M_fail  (v18) (fun v21 => k_M_atom4_71 (x15) (v21) Q))))) else (Q ((0 : Int32)) (v13)))) else (if (v10).1 154 29 = (0 : Int32) then (if (v10).1 154 25 = (2 : Int32) then (m_M_next  (v10) (fun v25 => Q (((v10).2.1 154 27).toInt32) (v25))) else (k_M_atom4_123 ((0 : Int32)) (v10) Q)) else (k_M_atom4_123 ((0 : Int32)) (v10) Q)))))) : m_M_atom4  v Q := by
  refine cp_go (Nat.le_of_ble_eq_true rfl) (by decide +kernel) ?_
  show Gp 11 M_M_atom4 0 [(0, .ref (154))] [] v (QI Q)
  refine g_iconst (0 : Int32) e_M_atom4_0 (by decide) ?_
  refine g_istore_n (L' := [(1, .int ((0 : Int32))), (0, .ref (154))]) e_M_atom4_1 rfl (by decide) rfl ?_
  refine g_aload_n 1 e_M_atom4_2 rfl rfl ?_
  refine g_bipush (45 : Int32) e_M_atom4_3 (by decide) ?_
  refine p_callVZ (d' := 1) (ci := 10) (r := (RX10, TX10, 49)) (As := [.int ((45 : Int32))]) (rest := []) e_M_atom4_5 zm_M_isSign lV_M_210 sh_154 rfl rfl rfl rfl (Nat.le_of_ble_eq_true rfl) (by decide) ?_
  refine cp_mono h (fun _ v2 ⟨x1, e1, h⟩ => ⟨x1, e1, ?_⟩)
  refine p_ifz_eq (tgt := 37) e_M_atom4_8 rfl (fun c3 => ?_) (fun c3 => ?_)
  · replace h := iteF h c3
    refine g_aload_n 1 e_M_atom4_37 rfl rfl ?_
    refine g_bipush (40 : Int32) e_M_atom4_38 (by decide) ?_
    refine p_callVZ (d' := 1) (ci := 10) (r := (RX10, TX10, 49)) (As := [.int ((40 : Int32))]) (rest := []) e_M_atom4_40 zm_M_isSign lV_M_210 sh_154 rfl rfl rfl rfl (Nat.le_of_ble_eq_true rfl) (by decide) ?_
    refine cp_mono h (fun _ v10 ⟨x9, e1, h⟩ => ⟨x9, e1, ?_⟩)
    refine p_ifz_eq (tgt := 95) e_M_atom4_43 rfl (fun c11 => ?_) (fun c11 => ?_)
    · replace h := iteF h c11
      refine g_aload_n 1 e_M_atom4_95 rfl rfl ?_
      refine p_getI e_M_atom4_96 sh_154 fl_M_168 rfl ?_
      refine g_if_ne (tgt := 123) e_M_atom4_99 rfl (fun c22 => ?_) (fun c22 => ?_)
      · replace h := iteF h c22
        exact g_sub [1, 0] rfl h
      · replace h := iteT h c22
        refine g_aload_n 1 e_M_atom4_102 rfl rfl ?_
        refine p_getI e_M_atom4_103 sh_154 fl_M_151 rfl ?_
        refine g_iconst (2 : Int32) e_M_atom4_106 (by decide) ?_
        refine g_icmp_ne (tgt := 123) e_M_atom4_107 rfl (fun c23 => ?_) (fun c23 => ?_)
        · replace h := iteF h c23
          exact g_sub [1, 0] rfl h
        · replace h := iteT h c23
          refine g_aload_n 1 e_M_atom4_110 rfl rfl ?_
          refine p_getJ e_M_atom4_111 sh_154 fl_M_162 rfl ?_
          refine g_l2i e_M_atom4_114 ?_
          refine g_istore_n (L' := [(1, .int (((v10).2.1 154 27).toInt32)), (0, .ref (154))]) e_M_atom4_115 rfl (by decide) rfl ?_
          refine g_aload_n 1 e_M_atom4_116 rfl rfl ?_
          refine p_callVV (d' := 2) (ci := 10) (r := (RX10, TX10, 49)) (As := []) (rest := []) e_M_atom4_117 zm_M_next lV_M_185 sh_154 rfl rfl rfl rfl (Nat.le_of_ble_eq_true rfl) (by decide) ?_
          refine cp_mono h (fun _ v25 ⟨e1, h⟩ => ⟨e1, ?_⟩)
          refine g_goto (tgt := 161) e_M_atom4_120 rfl ?_
          refine g_iload_n 0 e_M_atom4_161 rfl rfl ?_
          exact p_retI e_M_atom4_162.1 rfl h
    · replace h := iteT h c11
      refine g_aload_n 1 e_M_atom4_46 rfl rfl ?_
      refine p_callVZ (d' := 3) (ci := 10) (r := (RX10, TX10, 49)) (As := []) (rest := []) e_M_atom4_47 zm_M_opens lV_M_213 sh_154 rfl rfl rfl rfl (Nat.le_of_ble_eq_true rfl) (by decide) ?_
      refine cp_mono h (fun _ v13 ⟨x12, e1, h⟩ => ⟨x12, e1, ?_⟩)
      refine p_ifz_eq (tgt := 161) e_M_atom4_50 rfl (fun c14 => ?_) (fun c14 => ?_)
      · replace h := iteF h c14
        refine g_iload_n 0 e_M_atom4_161 rfl rfl ?_
        exact p_retI e_M_atom4_162.1 rfl h
      · replace h := iteT h c14
        refine g_aload_n 1 e_M_atom4_53 rfl rfl ?_
        refine p_callVI (d' := 10) (ci := 10) (r := (RX10, TX10, 49)) (As := []) (rest := []) e_M_atom4_54 zm_M_either5 lV_M_240 sh_154 rfl rfl rfl rfl (Nat.le_of_ble_eq_true rfl) (by decide) ?_
        refine cp_mono h (fun _ v16 ⟨x15, e1, h⟩ => ⟨x15, e1, ?_⟩)
        refine g_istore_n (L' := [(1, .int (x15)), (0, .ref (154))]) e_M_atom4_57 rfl (by decide) rfl ?_
        refine g_aload_n 1 e_M_atom4_58 rfl rfl ?_
        refine g_bipush (41 : Int32) e_M_atom4_59 (by decide) ?_
        refine p_callVZ (d' := 1) (ci := 10) (r := (RX10, TX10, 49)) (As := [.int ((41 : Int32))]) (rest := []) e_M_atom4_61 zm_M_isSign lV_M_210 sh_154 rfl rfl rfl rfl (Nat.le_of_ble_eq_true rfl) (by decide) ?_
        refine cp_mono h (fun _ v18 ⟨x17, e1, h⟩ => ⟨x17, e1, ?_⟩)
        refine p_ifz_ne (tgt := 71) e_M_atom4_64 rfl (fun c19 => ?_) (fun c19 => ?_)
        · replace h := iteT h c19
          exact g_sub [1, 0] rfl h
        · replace h := iteF h c19
          refine g_aload_n 1 e_M_atom4_67 rfl rfl ?_
          refine p_callVV (d' := 1) (ci := 10) (r := (RX10, TX10, 49)) (As := []) (rest := []) e_M_atom4_68 zm_M_fail lV_M_182 sh_154 rfl rfl rfl rfl (Nat.le_of_ble_eq_true rfl) (by decide) ?_
          refine cp_mono h (fun _ v21 ⟨e1, h⟩ => ⟨e1, ?_⟩)
          exact g_sub [1, 0] rfl h
  · replace h := iteT h c3
    refine g_aload_n 1 e_M_atom4_11 rfl rfl ?_
    refine p_callVZ (d' := 3) (ci := 10) (r := (RX10, TX10, 49)) (As := []) (rest := []) e_M_atom4_12 zm_M_opens lV_M_213 sh_154 rfl rfl rfl rfl (Nat.le_of_ble_eq_true rfl) (by decide) ?_
    refine cp_mono h (fun _ v5 ⟨x4, e1, h⟩ => ⟨x4, e1, ?_⟩)
    refine p_ifz_eq (tgt := 161) e_M_atom4_15 rfl (fun c6 => ?_) (fun c6 => ?_)
    · replace h := iteF h c6
      refine g_iload_n 0 e_M_atom4_161 rfl rfl ?_
      exact p_retI e_M_atom4_162.1 rfl h
    · replace h := iteT h c6
      refine g_aload_n 1 e_M_atom4_18 rfl rfl ?_
      refine p_callVI (d' := 5) (ci := 10) (r := (RX10, TX10, 49)) (As := []) (rest := []) e_M_atom4_19 zm_M_atom5 lV_M_221 sh_154 rfl rfl rfl rfl (Nat.le_of_ble_eq_true rfl) (by decide) ?_
      refine cp_mono h (fun _ v8 ⟨x7, e1, h⟩ => ⟨x7, e1, ?_⟩)
      refine g_ineg e_M_atom4_22 ?_
      refine g_istore_n (L' := [(1, .int ((-x7))), (0, .ref (154))]) e_M_atom4_23 rfl (by decide) rfl ?_
      refine g_aload_n 1 e_M_atom4_24 rfl rfl ?_
      refine g_dup e_M_atom4_25 rfl ?_
      refine p_getI e_M_atom4_26 sh_154 fl_M_179 rfl ?_
      refine g_iconst (1 : Int32) e_M_atom4_29 (by decide) ?_
      refine g_isub e_M_atom4_30 ?_
      refine p_putI e_M_atom4_31 sh_154 fp_M_179 rfl rfl rfl ?_
      refine g_goto (tgt := 161) e_M_atom4_34 rfl ?_
      refine g_iload_n 0 e_M_atom4_161 rfl rfl ?_
      exact p_retI e_M_atom4_162.1 rfl h
set_option maxHeartbeats 1000000 in
theorem s_M_atom4_71 {l1 : Int32} {v : Vv} {Q : Int32 → Vv → Prop} (h : if (sI (v) 154 28 ((v).1 154 28 - (1 : Int32))).1 154 29 = (0 : Int32) then (m_M_next  (sI (v) 154 28 ((v).1 154 28 - (1 : Int32))) (fun v28 => Q (l1) (v28))) else (Q (l1) (sI (v) 154 28 ((v).1 154 28 - (1 : Int32))))) : k_M_atom4_71 l1 v Q := by
  show Gp 11 M_M_atom4 71 [(0, .ref (154)), (1, .int (l1))] [] v (QI Q)
  refine g_aload_n 0 e_M_atom4_71 rfl rfl ?_
  refine g_dup e_M_atom4_72 rfl ?_
  refine p_getI e_M_atom4_73 sh_154 fl_M_179 rfl ?_
  refine g_iconst (1 : Int32) e_M_atom4_76 (by decide) ?_
  refine g_isub e_M_atom4_77 ?_
  refine p_putI e_M_atom4_78 sh_154 fp_M_179 rfl rfl rfl ?_
  refine g_aload_n 0 e_M_atom4_81 rfl rfl ?_
  refine p_getI e_M_atom4_82 sh_154 fl_M_168 rfl ?_
  refine g_if_ne (tgt := 161) e_M_atom4_85 rfl (fun c26 => ?_) (fun c26 => ?_)
  · replace h := iteF h c26
    refine g_iload_n 1 e_M_atom4_161 rfl rfl ?_
    exact p_retI e_M_atom4_162.1 rfl h
  · replace h := iteT h c26
    refine g_aload_n 0 e_M_atom4_88 rfl rfl ?_
    refine p_callVV (d' := 2) (ci := 10) (r := (RX10, TX10, 49)) (As := []) (rest := []) e_M_atom4_89 zm_M_next lV_M_185 sh_154 rfl rfl rfl rfl (Nat.le_of_ble_eq_true rfl) (by decide) ?_
    refine cp_mono h (fun _ v28 ⟨e1, h⟩ => ⟨e1, ?_⟩)
    refine g_goto (tgt := 161) e_M_atom4_92 rfl ?_
    refine g_iload_n 1 e_M_atom4_161 rfl rfl ?_
    exact p_retI e_M_atom4_162.1 rfl h
set_option maxHeartbeats 1000000 in
theorem s_M_atom4_123 {l1 : Int32} {v : Vv} {Q : Int32 → Vv → Prop} (h : if (v).1 154 29 = (0 : Int32) then (if (v).1 154 25 = (1 : Int32) then (m_M_name  (v) (fun x31 v32 => if (v32).1 154 29 = (0 : Int32) then (m_M_next  (v32) (fun v35 => Q (x31) (v35))) else (Q (x31) (v32)))) else (k_M_atom4_157 (l1) (v) Q)) else (k_M_atom4_157 (l1) (v) Q)) : k_M_atom4_123 l1 v Q := by
  show Gp 11 M_M_atom4 123 [(0, .ref (154)), (1, .int (l1))] [] v (QI Q)
  refine g_aload_n 0 e_M_atom4_123 rfl rfl ?_
  refine p_getI e_M_atom4_124 sh_154 fl_M_168 rfl ?_
  refine g_if_ne (tgt := 157) e_M_atom4_127 rfl (fun c29 => ?_) (fun c29 => ?_)
  · replace h := iteF h c29
    exact g_sub [0, 1] rfl h
  · replace h := iteT h c29
    refine g_aload_n 0 e_M_atom4_130 rfl rfl ?_
    refine p_getI e_M_atom4_131 sh_154 fl_M_151 rfl ?_
    refine g_iconst (1 : Int32) e_M_atom4_134 (by decide) ?_
    refine g_icmp_ne (tgt := 157) e_M_atom4_135 rfl (fun c30 => ?_) (fun c30 => ?_)
    · replace h := iteF h c30
      exact g_sub [0, 1] rfl h
    · replace h := iteT h c30
      refine g_aload_n 0 e_M_atom4_138 rfl rfl ?_
      refine p_callVI (d' := 4) (ci := 10) (r := (RX10, TX10, 49)) (As := []) (rest := []) e_M_atom4_139 zm_M_name lV_M_217 sh_154 rfl rfl rfl rfl (Nat.le_of_ble_eq_true rfl) (by decide) ?_
      refine cp_mono h (fun _ v32 ⟨x31, e1, h⟩ => ⟨x31, e1, ?_⟩)
      refine g_istore_n (L' := [(1, .int (x31)), (0, .ref (154))]) e_M_atom4_142 rfl (by decide) rfl ?_
      refine g_aload_n 1 e_M_atom4_143 rfl rfl ?_
      refine p_getI e_M_atom4_144 sh_154 fl_M_168 rfl ?_
      refine g_if_ne (tgt := 161) e_M_atom4_147 rfl (fun c33 => ?_) (fun c33 => ?_)
      · replace h := iteF h c33
        refine g_iload_n 0 e_M_atom4_161 rfl rfl ?_
        exact p_retI e_M_atom4_162.1 rfl h
      · replace h := iteT h c33
        refine g_aload_n 1 e_M_atom4_150 rfl rfl ?_
        refine p_callVV (d' := 2) (ci := 10) (r := (RX10, TX10, 49)) (As := []) (rest := []) e_M_atom4_151 zm_M_next lV_M_185 sh_154 rfl rfl rfl rfl (Nat.le_of_ble_eq_true rfl) (by decide) ?_
        refine cp_mono h (fun _ v35 ⟨e1, h⟩ => ⟨e1, ?_⟩)
        refine g_goto (tgt := 161) e_M_atom4_154 rfl ?_
        refine g_iload_n 0 e_M_atom4_161 rfl rfl ?_
        exact p_retI e_M_atom4_162.1 rfl h
set_option maxHeartbeats 1000000 in
theorem s_M_atom4_157 {l1 : Int32} {v : Vv} {Q : Int32 → Vv → Prop} (h : m_M_fail  (v) (fun v37 => Q (l1) (v37))) : k_M_atom4_157 l1 v Q := by
  show Gp 11 M_M_atom4 157 [(0, .ref (154)), (1, .int (l1))] [] v (QI Q)
  refine g_aload_n 0 e_M_atom4_157 rfl rfl ?_
  refine p_callVV (d' := 1) (ci := 10) (r := (RX10, TX10, 49)) (As := []) (rest := []) e_M_atom4_158 zm_M_fail lV_M_182 sh_154 rfl rfl rfl rfl (Nat.le_of_ble_eq_true rfl) (by decide) ?_
  refine cp_mono h (fun _ v37 ⟨e1, h⟩ => ⟨e1, ?_⟩)
  refine g_iload_n 1 e_M_atom4_161 rfl rfl ?_
  exact p_retI e_M_atom4_162.1 rfl h
set_option maxHeartbeats 1000000 in
theorem s_M_term4  {v : Vv} {Q : Int32 → Vv → Prop} (h : m_M_atom4  (v) (fun x1 v2 => k_M_term4_5 (x1) (v2) Q)) : m_M_term4  v Q := by
  refine cp_go (Nat.le_of_ble_eq_true rfl) (by decide +kernel) ?_
  show Gp 12 M_M_term4 0 [(0, .ref (154))] [] v (QI Q)
  refine g_aload_n 0 e_M_term4_0 rfl rfl ?_
  refine p_callVI (d' := 11) (ci := 10) (r := (RX10, TX10, 49)) (As := []) (rest := []) e_M_term4_1 zm_M_atom4 lV_M_243 sh_154 rfl rfl rfl rfl (Nat.le_of_ble_eq_true rfl) (by decide) ?_
  refine cp_mono h (fun _ v2 ⟨x1, e1, h⟩ => ⟨x1, e1, ?_⟩)
  refine g_istore_n (L' := [(1, .int (x1)), (0, .ref (154))]) e_M_term4_4 rfl (by decide) rfl ?_
  exact g_sub [1, 0] rfl h
set_option maxHeartbeats 1000000 in
theorem s_M_term4_5 {l1 : Int32} {v : Vv} {Q : Int32 → Vv → Prop} (h : m_M_isSign (42 : Int32) (v) (fun x3 v4 => if x3 = true then (m_M_next  (v4) (fun v7 => m_M_atom4  (v7) (fun x8 v9 => k_M_term4_5 ((l1 * x8)) (v9) Q))) else (Q (l1) (v4)))) : k_M_term4_5 l1 v Q := by
  show Gp 12 M_M_term4 5 [(0, .ref (154)), (1, .int (l1))] [] v (QI Q)
  refine g_aload_n 0 e_M_term4_5 rfl rfl ?_
  refine g_bipush (42 : Int32) e_M_term4_6 (by decide) ?_
  refine p_callVZ (d' := 1) (ci := 10) (r := (RX10, TX10, 49)) (As := [.int ((42 : Int32))]) (rest := []) e_M_term4_8 zm_M_isSign lV_M_210 sh_154 rfl rfl rfl rfl (Nat.le_of_ble_eq_true rfl) (by decide) ?_
  refine cp_mono h (fun _ v4 ⟨x3, e1, h⟩ => ⟨x3, e1, ?_⟩)
  refine p_ifz_eq (tgt := 28) e_M_term4_11 rfl (fun c5 => ?_) (fun c5 => ?_)
  · replace h := iteF h c5
    refine g_iload_n 1 e_M_term4_28 rfl rfl ?_
    exact p_retI e_M_term4_29.1 rfl h
  · replace h := iteT h c5
    refine g_aload_n 0 e_M_term4_14 rfl rfl ?_
    refine p_callVV (d' := 2) (ci := 10) (r := (RX10, TX10, 49)) (As := []) (rest := []) e_M_term4_15 zm_M_next lV_M_185 sh_154 rfl rfl rfl rfl (Nat.le_of_ble_eq_true rfl) (by decide) ?_
    refine cp_mono h (fun _ v7 ⟨e1, h⟩ => ⟨e1, ?_⟩)
    refine g_iload_n 1 e_M_term4_18 rfl rfl ?_
    refine g_aload_n 0 e_M_term4_19 rfl rfl ?_
    refine p_callVI (d' := 11) (ci := 10) (r := (RX10, TX10, 49)) (As := []) (rest := [.int (l1)]) e_M_term4_20 zm_M_atom4 lV_M_243 sh_154 rfl rfl rfl rfl (Nat.le_of_ble_eq_true rfl) (by decide) ?_
    refine cp_mono h (fun _ v9 ⟨x8, e1, h⟩ => ⟨x8, e1, ?_⟩)
    refine g_imul e_M_term4_23 ?_
    refine g_istore_n (L' := [(1, .int ((l1 * x8))), (0, .ref (154))]) e_M_term4_24 rfl (by decide) rfl ?_
    refine g_goto (tgt := 5) e_M_term4_25 rfl ?_
    exact g_sub [1, 0] rfl h
set_option maxHeartbeats 1000000 in
theorem s_M_added4  {v : Vv} {Q : Int32 → Vv → Prop} (h : m_M_term4  (v) (fun x1 v2 => k_M_added4_5 (x1) (v2) Q)) : m_M_added4  v Q := by
  refine cp_go (Nat.le_of_ble_eq_true rfl) (by decide +kernel) ?_
  show Gp 13 M_M_added4 0 [(0, .ref (154))] [] v (QI Q)
  refine g_aload_n 0 e_M_added4_0 rfl rfl ?_
  refine p_callVI (d' := 12) (ci := 10) (r := (RX10, TX10, 49)) (As := []) (rest := []) e_M_added4_1 zm_M_term4 lV_M_246 sh_154 rfl rfl rfl rfl (Nat.le_of_ble_eq_true rfl) (by decide) ?_
  refine cp_mono h (fun _ v2 ⟨x1, e1, h⟩ => ⟨x1, e1, ?_⟩)
  refine g_istore_n (L' := [(1, .int (x1)), (0, .ref (154))]) e_M_added4_4 rfl (by decide) rfl ?_
  exact g_sub [1, 0] rfl h
set_option maxHeartbeats 1000000 in
theorem s_M_added4_5 {l1 : Int32} {v : Vv} {Q : Int32 → Vv → Prop} (h : m_M_isSign (43 : Int32) (v) (fun x3 v4 => if x3 = true then (k_M_added4_23 (l1) (v4) Q) else (m_M_isSign (45 : Int32) (v4) (fun x6 v7 => if x6 = true then (k_M_added4_23 (l1) (v7) Q) else (Q (l1) (v7)))))) : k_M_added4_5 l1 v Q := by
  show Gp 13 M_M_added4 5 [(0, .ref (154)), (1, .int (l1))] [] v (QI Q)
  refine g_aload_n 0 e_M_added4_5 rfl rfl ?_
  refine g_bipush (43 : Int32) e_M_added4_6 (by decide) ?_
  refine p_callVZ (d' := 1) (ci := 10) (r := (RX10, TX10, 49)) (As := [.int ((43 : Int32))]) (rest := []) e_M_added4_8 zm_M_isSign lV_M_210 sh_154 rfl rfl rfl rfl (Nat.le_of_ble_eq_true rfl) (by decide) ?_
  refine cp_mono h (fun _ v4 ⟨x3, e1, h⟩ => ⟨x3, e1, ?_⟩)
  refine p_ifz_ne (tgt := 23) e_M_added4_11 rfl (fun c5 => ?_) (fun c5 => ?_)
  · replace h := iteT h c5
    exact g_sub [0, 1] rfl h
  · replace h := iteF h c5
    refine g_aload_n 0 e_M_added4_14 rfl rfl ?_
    refine g_bipush (45 : Int32) e_M_added4_15 (by decide) ?_
    refine p_callVZ (d' := 1) (ci := 10) (r := (RX10, TX10, 49)) (As := [.int ((45 : Int32))]) (rest := []) e_M_added4_17 zm_M_isSign lV_M_210 sh_154 rfl rfl rfl rfl (Nat.le_of_ble_eq_true rfl) (by decide) ?_
    refine cp_mono h (fun _ v7 ⟨x6, e1, h⟩ => ⟨x6, e1, ?_⟩)
    refine p_ifz_eq (tgt := 66) e_M_added4_20 rfl (fun c8 => ?_) (fun c8 => ?_)
    · replace h := iteF h c8
      refine g_iload_n 1 e_M_added4_66 rfl rfl ?_
      exact p_retI e_M_added4_67.1 rfl h
    · replace h := iteT h c8
      exact g_sub [0, 1] rfl h
set_option maxHeartbeats 1000000 in
theorem s_M_added4_23 {l1 : Int32} {v : Vv} {Q : Int32 → Vv → Prop} (h : if (v).2.1 154 27 = (43 : Int64) then (k_M_added4_39 (l1) ((1 : Int32)) (v) Q) else (k_M_added4_39 (l1) ((0 : Int32)) (v) Q)) : k_M_added4_23 l1 v Q := by
  show Gp 13 M_M_added4 23 [(0, .ref (154)), (1, .int (l1))] [] v (QI Q)
  refine g_aload_n 0 e_M_added4_23 rfl rfl ?_
  refine p_getJ e_M_added4_24 sh_154 fl_M_162 rfl ?_
  refine g_ldc2 (v := (43 : Int64)) (hd := e_M_added4_27) cl_M_227 ?_
  refine g_l_ne (tgt := 38) e_M_added4_30 e_M_added4_31 rfl (fun c9 => ?_) (fun c9 => ?_)
  · replace h := iteF h c9
    refine g_iconst (0 : Int32) e_M_added4_38 (by decide) ?_
    exact g_sub [0, 1] rfl h
  · replace h := iteT h c9
    refine g_iconst (1 : Int32) e_M_added4_34 (by decide) ?_
    refine g_goto (tgt := 39) e_M_added4_35 rfl ?_
    exact g_sub [0, 1] rfl h
set_option maxHeartbeats 1000000 in
theorem s_M_added4_39 {l1 : Int32} {t0 : Int32} {v : Vv} {Q : Int32 → Vv → Prop} (h : m_M_next  (v) (fun v11 => m_M_term4  (v11) (fun x12 v13 => k_M_added4_5 ((if t0 = (0 : Int32) then (l1 - x12) else (l1 + x12))) (v13) Q))) : k_M_added4_39 l1 t0 v Q := by
  show Gp 13 M_M_added4 39 [(0, .ref (154)), (1, .int (l1))] [.int (t0)] v (QI Q)
  refine g_istore_n (L' := [(2, .int (t0)), (0, .ref (154)), (1, .int (l1))]) e_M_added4_39 rfl (by decide) rfl ?_
  refine g_aload_n 1 e_M_added4_40 rfl rfl ?_
  refine p_callVV (d' := 2) (ci := 10) (r := (RX10, TX10, 49)) (As := []) (rest := []) e_M_added4_41 zm_M_next lV_M_185 sh_154 rfl rfl rfl rfl (Nat.le_of_ble_eq_true rfl) (by decide) ?_
  refine cp_mono h (fun _ v11 ⟨e1, h⟩ => ⟨e1, ?_⟩)
  refine g_aload_n 1 e_M_added4_44 rfl rfl ?_
  refine p_callVI (d' := 12) (ci := 10) (r := (RX10, TX10, 49)) (As := []) (rest := []) e_M_added4_45 zm_M_term4 lV_M_246 sh_154 rfl rfl rfl rfl (Nat.le_of_ble_eq_true rfl) (by decide) ?_
  refine cp_mono h (fun _ v13 ⟨x12, e1, h⟩ => ⟨x12, e1, ?_⟩)
  refine g_istore_n (L' := [(3, .int (x12)), (2, .int (t0)), (0, .ref (154)), (1, .int (l1))]) e_M_added4_48 rfl (by decide) rfl ?_
  refine g_iload_n 1 e_M_added4_49 rfl rfl ?_
  have hj : ∀ m0 : Int32, m0 = (if t0 = (0 : Int32) then (l1 - x12) else (l1 + x12)) → Gp 13 M_M_added4 62 [(0, .ref (154)), (1, .int (l1)), (2, .int (t0)), (3, .int (x12))] [.int (m0)] (v13) (QI Q) := by
    intro m0 hm0
    subst hm0
    refine g_istore_n (L' := [(1, .int ((if t0 = (0 : Int32) then (l1 - x12) else (l1 + x12)))), (0, .ref (154)), (2, .int (t0)), (3, .int (x12))]) e_M_added4_62 rfl (by decide) rfl ?_
    refine g_goto (tgt := 5) e_M_added4_63 rfl ?_
    exact g_sub [1, 0] rfl h
  refine g_if_eq (tgt := 59) e_M_added4_50 rfl (fun c14 => ?_) (fun c14 => ?_)
  · refine g_iload_n 3 e_M_added4_59 rfl rfl ?_
    refine g_iload_n 0 e_M_added4_60 rfl rfl ?_
    refine g_isub e_M_added4_61 ?_
    refine g_sub [2, 3, 1, 0] rfl ?_
    exact hj ((l1 - x12)) (by simp only [if_pos c14])
  · refine g_iload_n 3 e_M_added4_53 rfl rfl ?_
    refine g_iload_n 0 e_M_added4_54 rfl rfl ?_
    refine g_iadd e_M_added4_55 ?_
    refine g_goto (tgt := 62) e_M_added4_56 rfl ?_
    refine g_sub [2, 3, 1, 0] rfl ?_
    exact hj ((l1 + x12)) (by simp only [if_neg c14])
set_option maxHeartbeats 1000000 in
theorem s_M_not4  {v : Vv} {Q : Int32 → Vv → Prop} (h : m_M_isWord (110 : Int32) (111 : Int32) (116 : Int32) (0 : Int32) (0 : Int32) (0 : Int32) (0 : Int32) (0 : Int32) (v) (fun x1 v2 => if x1 = true then (m_M_opens  (v2) (fun x4 v5 => if x4 = true then (m_M_not5  (v5) (fun x7 v8 => Q (bI ((if x7 = (0 : Int32) then true else false))) (sI (v8) 154 28 ((v8).1 154 28 - (1 : Int32))))) else (Q ((0 : Int32)) (v5)))) else (m_M_added4  (v2) (fun x10 v11 => m_M_isSign (60 : Int32) (v11) (fun x12 v13 => if x12 = true then (k_M_not4_77 (x10) (v13) Q) else (m_M_isSign (61 : Int32) (v13) (fun x15 v16 => if x15 = true then (k_M_not4_77 (x10) (v16) Q) else (Q (x10) (v16))))))))) : m_M_not4  v Q := by
  refine cp_go (Nat.le_of_ble_eq_true rfl) (by decide +kernel) ?_
  show Gp 14 M_M_not4 0 [(0, .ref (154))] [] v (QI Q)
  refine g_aload_n 0 e_M_not4_0 rfl rfl ?_
  refine g_bipush (110 : Int32) e_M_not4_1 (by decide) ?_
  refine g_bipush (111 : Int32) e_M_not4_3 (by decide) ?_
  refine g_bipush (116 : Int32) e_M_not4_5 (by decide) ?_
  refine g_iconst (0 : Int32) e_M_not4_7 (by decide) ?_
  refine g_iconst (0 : Int32) e_M_not4_8 (by decide) ?_
  refine g_iconst (0 : Int32) e_M_not4_9 (by decide) ?_
  refine g_iconst (0 : Int32) e_M_not4_10 (by decide) ?_
  refine g_iconst (0 : Int32) e_M_not4_11 (by decide) ?_
  refine p_callVZ (d' := 3) (ci := 10) (r := (RX10, TX10, 49)) (As := [.int ((110 : Int32)), .int ((111 : Int32)), .int ((116 : Int32)), .int ((0 : Int32)), .int ((0 : Int32)), .int ((0 : Int32)), .int ((0 : Int32)), .int ((0 : Int32))]) (rest := []) e_M_not4_12 zm_M_isWord lV_M_188 sh_154 rfl rfl rfl rfl (Nat.le_of_ble_eq_true rfl) (by decide) ?_
  refine cp_mono h (fun _ v2 ⟨x1, e1, h⟩ => ⟨x1, e1, ?_⟩)
  refine p_ifz_eq (tgt := 52) e_M_not4_15 rfl (fun c3 => ?_) (fun c3 => ?_)
  · replace h := iteF h c3
    refine g_aload_n 0 e_M_not4_52 rfl rfl ?_
    refine p_callVI (d' := 13) (ci := 10) (r := (RX10, TX10, 49)) (As := []) (rest := []) e_M_not4_53 zm_M_added4 lV_M_249 sh_154 rfl rfl rfl rfl (Nat.le_of_ble_eq_true rfl) (by decide) ?_
    refine cp_mono h (fun _ v11 ⟨x10, e1, h⟩ => ⟨x10, e1, ?_⟩)
    refine g_istore_n (L' := [(1, .int (x10)), (0, .ref (154))]) e_M_not4_56 rfl (by decide) rfl ?_
    refine g_aload_n 1 e_M_not4_57 rfl rfl ?_
    refine g_bipush (60 : Int32) e_M_not4_58 (by decide) ?_
    refine p_callVZ (d' := 1) (ci := 10) (r := (RX10, TX10, 49)) (As := [.int ((60 : Int32))]) (rest := []) e_M_not4_60 zm_M_isSign lV_M_210 sh_154 rfl rfl rfl rfl (Nat.le_of_ble_eq_true rfl) (by decide) ?_
    refine cp_mono h (fun _ v13 ⟨x12, e1, h⟩ => ⟨x12, e1, ?_⟩)
    refine p_ifz_ne (tgt := 77) e_M_not4_63 rfl (fun c14 => ?_) (fun c14 => ?_)
    · replace h := iteT h c14
      exact g_sub [1, 0] rfl h
    · replace h := iteF h c14
      refine g_aload_n 1 e_M_not4_66 rfl rfl ?_
      refine g_bipush (61 : Int32) e_M_not4_67 (by decide) ?_
      refine p_callVZ (d' := 1) (ci := 10) (r := (RX10, TX10, 49)) (As := [.int ((61 : Int32))]) (rest := []) e_M_not4_69 zm_M_isSign lV_M_210 sh_154 rfl rfl rfl rfl (Nat.le_of_ble_eq_true rfl) (by decide) ?_
      refine cp_mono h (fun _ v16 ⟨x15, e1, h⟩ => ⟨x15, e1, ?_⟩)
      refine p_ifz_ne (tgt := 77) e_M_not4_72 rfl (fun c17 => ?_) (fun c17 => ?_)
      · replace h := iteT h c17
        exact g_sub [1, 0] rfl h
      · replace h := iteF h c17
        refine g_iload_n 0 e_M_not4_75 rfl rfl ?_
        exact p_retI e_M_not4_76.1 rfl h
  · replace h := iteT h c3
    refine g_aload_n 0 e_M_not4_18 rfl rfl ?_
    refine p_callVZ (d' := 3) (ci := 10) (r := (RX10, TX10, 49)) (As := []) (rest := []) e_M_not4_19 zm_M_opens lV_M_213 sh_154 rfl rfl rfl rfl (Nat.le_of_ble_eq_true rfl) (by decide) ?_
    refine cp_mono h (fun _ v5 ⟨x4, e1, h⟩ => ⟨x4, e1, ?_⟩)
    refine p_ifz_ne (tgt := 27) e_M_not4_22 rfl (fun c6 => ?_) (fun c6 => ?_)
    · replace h := iteT h c6
      refine g_aload_n 0 e_M_not4_27 rfl rfl ?_
      refine p_callVI (d' := 8) (ci := 10) (r := (RX10, TX10, 49)) (As := []) (rest := []) e_M_not4_28 zm_M_not5 lV_M_234 sh_154 rfl rfl rfl rfl (Nat.le_of_ble_eq_true rfl) (by decide) ?_
      refine cp_mono h (fun _ v8 ⟨x7, e1, h⟩ => ⟨x7, e1, ?_⟩)
      refine g_istore_n (L' := [(1, .int (x7)), (0, .ref (154))]) e_M_not4_31 rfl (by decide) rfl ?_
      refine g_aload_n 1 e_M_not4_32 rfl rfl ?_
      refine g_dup e_M_not4_33 rfl ?_
      refine p_getI e_M_not4_34 sh_154 fl_M_179 rfl ?_
      refine g_iconst (1 : Int32) e_M_not4_37 (by decide) ?_
      refine g_isub e_M_not4_38 ?_
      refine p_putI e_M_not4_39 sh_154 fp_M_179 rfl rfl rfl ?_
      refine g_iload_n 0 e_M_not4_42 rfl rfl ?_
      have hj : ∀ m0 : Bool, m0 = (if x7 = (0 : Int32) then true else false) → Gp 14 M_M_not4 51 [(0, .ref (154)), (1, .int (x7))] [.int (bI (m0))] (sI (v8) 154 28 ((v8).1 154 28 - (1 : Int32))) (QI Q) := by
        intro m0 hm0
        subst hm0
        exact p_retI e_M_not4_51.1 rfl h
      refine g_if_ne (tgt := 50) e_M_not4_43 rfl (fun c9 => ?_) (fun c9 => ?_)
      · refine g_iconst (0 : Int32) e_M_not4_50 (by decide) ?_
        refine g_sub [1, 0] rfl ?_
        exact hj (false) (by simp only [if_neg c9])
      · refine g_iconst (1 : Int32) e_M_not4_46 (by decide) ?_
        refine g_goto (tgt := 51) e_M_not4_47 rfl ?_
        refine g_sub [1, 0] rfl ?_
        exact hj (true) (by simp only [if_pos c9])
    · replace h := iteF h c6
      refine g_iconst (0 : Int32) e_M_not4_25 (by decide) ?_
      exact p_retI e_M_not4_26.1 rfl h
set_option maxHeartbeats 1000000 in
theorem s_M_not4_77 {l1 : Int32} {v : Vv} {Q : Int32 → Vv → Prop} (h : if (v).2.1 154 27 = (60 : Int64) then (k_M_not4_93 (l1) ((1 : Int32)) (v) Q) else (k_M_not4_93 (l1) ((0 : Int32)) (v) Q)) : k_M_not4_77 l1 v Q := by
  show Gp 14 M_M_not4 77 [(0, .ref (154)), (1, .int (l1))] [] v (QI Q)
  refine g_aload_n 0 e_M_not4_77 rfl rfl ?_
  refine p_getJ e_M_not4_78 sh_154 fl_M_162 rfl ?_
  refine g_ldc2 (v := (60 : Int64)) (hd := e_M_not4_81) cl_M_232 ?_
  refine g_l_ne (tgt := 92) e_M_not4_84 e_M_not4_85 rfl (fun c18 => ?_) (fun c18 => ?_)
  · replace h := iteF h c18
    refine g_iconst (0 : Int32) e_M_not4_92 (by decide) ?_
    exact g_sub [0, 1] rfl h
  · replace h := iteT h c18
    refine g_iconst (1 : Int32) e_M_not4_88 (by decide) ?_
    refine g_goto (tgt := 93) e_M_not4_89 rfl ?_
    exact g_sub [0, 1] rfl h
set_option maxHeartbeats 1000000 in
theorem s_M_not4_93 {l1 : Int32} {t0 : Int32} {v : Vv} {Q : Int32 → Vv → Prop} (h : m_M_next  (v) (fun v20 => m_M_added4  (v20) (fun x21 v22 => Q (bI ((if t0 = (0 : Int32) then (if l1 = x21 then true else false) else (if l1 < x21 then true else false)))) (v22)))) : k_M_not4_93 l1 t0 v Q := by
  show Gp 14 M_M_not4 93 [(0, .ref (154)), (1, .int (l1))] [.int (t0)] v (QI Q)
  refine g_istore_n (L' := [(2, .int (t0)), (0, .ref (154)), (1, .int (l1))]) e_M_not4_93 rfl (by decide) rfl ?_
  refine g_aload_n 1 e_M_not4_94 rfl rfl ?_
  refine p_callVV (d' := 2) (ci := 10) (r := (RX10, TX10, 49)) (As := []) (rest := []) e_M_not4_95 zm_M_next lV_M_185 sh_154 rfl rfl rfl rfl (Nat.le_of_ble_eq_true rfl) (by decide) ?_
  refine cp_mono h (fun _ v20 ⟨e1, h⟩ => ⟨e1, ?_⟩)
  refine g_aload_n 1 e_M_not4_98 rfl rfl ?_
  refine p_callVI (d' := 13) (ci := 10) (r := (RX10, TX10, 49)) (As := []) (rest := []) e_M_not4_99 zm_M_added4 lV_M_249 sh_154 rfl rfl rfl rfl (Nat.le_of_ble_eq_true rfl) (by decide) ?_
  refine cp_mono h (fun _ v22 ⟨x21, e1, h⟩ => ⟨x21, e1, ?_⟩)
  refine g_istore_n (L' := [(3, .int (x21)), (2, .int (t0)), (0, .ref (154)), (1, .int (l1))]) e_M_not4_102 rfl (by decide) rfl ?_
  refine g_iload_n 1 e_M_not4_103 rfl rfl ?_
  have hj : ∀ m0 : Bool, m0 = (if t0 = (0 : Int32) then (if l1 = x21 then true else false) else (if l1 < x21 then true else false)) → Gp 14 M_M_not4 125 [(0, .ref (154)), (1, .int (l1)), (2, .int (t0)), (3, .int (x21))] [.int (bI (m0))] (v22) (QI Q) := by
    intro m0 hm0
    subst hm0
    exact p_retI e_M_not4_125.1 rfl h
  refine g_if_eq (tgt := 115) e_M_not4_104 rfl (fun c23 => ?_) (fun c23 => ?_)
  · refine g_iload_n 3 e_M_not4_115 rfl rfl ?_
    refine g_iload_n 0 e_M_not4_116 rfl rfl ?_
    refine g_icmp_ne (tgt := 124) e_M_not4_117 rfl (fun c24 => ?_) (fun c24 => ?_)
    · refine g_iconst (0 : Int32) e_M_not4_124 (by decide) ?_
      refine g_sub [2, 3, 1, 0] rfl ?_
      exact hj (false) (by simp only [if_pos c23, if_neg c24])
    · refine g_iconst (1 : Int32) e_M_not4_120 (by decide) ?_
      refine g_goto (tgt := 125) e_M_not4_121 rfl ?_
      refine g_sub [2, 3, 1, 0] rfl ?_
      exact hj (true) (by simp only [if_pos c23, if_pos c24])
  · refine g_iload_n 3 e_M_not4_107 rfl rfl ?_
    refine g_iload_n 0 e_M_not4_108 rfl rfl ?_
    refine g_icmp_ge (tgt := 124) e_M_not4_109 rfl (fun c25 => ?_) (fun c25 => ?_)
    · refine g_iconst (0 : Int32) e_M_not4_124 (by decide) ?_
      refine g_sub [2, 3, 1, 0] rfl ?_
      exact hj (false) (by simp only [if_neg c23, if_neg c25])
    · refine g_goto (tgt := 120) e_M_not4_112 rfl ?_
      refine g_iconst (1 : Int32) e_M_not4_120 (by decide) ?_
      refine g_goto (tgt := 125) e_M_not4_121 rfl ?_
      refine g_sub [2, 3, 1, 0] rfl ?_
      exact hj (true) (by simp only [if_neg c23, if_pos c25])
set_option maxHeartbeats 1000000 in
theorem s_M_both4  {v : Vv} {Q : Int32 → Vv → Prop} (h : m_M_not4  (v) (fun x1 v2 => k_M_both4_5 (x1) (v2) Q)) : m_M_both4  v Q := by
  refine cp_go (Nat.le_of_ble_eq_true rfl) (by decide +kernel) ?_
  show Gp 15 M_M_both4 0 [(0, .ref (154))] [] v (QI Q)
  refine g_aload_n 0 e_M_both4_0 rfl rfl ?_
  refine p_callVI (d' := 14) (ci := 10) (r := (RX10, TX10, 49)) (As := []) (rest := []) e_M_both4_1 zm_M_not4 lV_M_252 sh_154 rfl rfl rfl rfl (Nat.le_of_ble_eq_true rfl) (by decide) ?_
  refine cp_mono h (fun _ v2 ⟨x1, e1, h⟩ => ⟨x1, e1, ?_⟩)
  refine g_istore_n (L' := [(1, .int (x1)), (0, .ref (154))]) e_M_both4_4 rfl (by decide) rfl ?_
  exact g_sub [1, 0] rfl h
set_option maxHeartbeats 1000000 in
theorem s_M_both4_5 {l1 : Int32} {v : Vv} {Q : Int32 → Vv → Prop} (h : m_M_isWord (97 : Int32) (110 : Int32) (100 : Int32) (0 : Int32) (0 : Int32) (0 : Int32) (0 : Int32) (0 : Int32) (v) (fun x3 v4 => if x3 = true then (m_M_next  (v4) (fun v7 => m_M_not4  (v7) (fun x8 v9 => k_M_both4_5 (bI ((if l1 = (0 : Int32) then false else (if x8 = (0 : Int32) then false else true)))) (v9) Q))) else (Q (l1) (v4)))) : k_M_both4_5 l1 v Q := by
  show Gp 15 M_M_both4 5 [(0, .ref (154)), (1, .int (l1))] [] v (QI Q)
  refine g_aload_n 0 e_M_both4_5 rfl rfl ?_
  refine g_bipush (97 : Int32) e_M_both4_6 (by decide) ?_
  refine g_bipush (110 : Int32) e_M_both4_8 (by decide) ?_
  refine g_bipush (100 : Int32) e_M_both4_10 (by decide) ?_
  refine g_iconst (0 : Int32) e_M_both4_12 (by decide) ?_
  refine g_iconst (0 : Int32) e_M_both4_13 (by decide) ?_
  refine g_iconst (0 : Int32) e_M_both4_14 (by decide) ?_
  refine g_iconst (0 : Int32) e_M_both4_15 (by decide) ?_
  refine g_iconst (0 : Int32) e_M_both4_16 (by decide) ?_
  refine p_callVZ (d' := 3) (ci := 10) (r := (RX10, TX10, 49)) (As := [.int ((97 : Int32)), .int ((110 : Int32)), .int ((100 : Int32)), .int ((0 : Int32)), .int ((0 : Int32)), .int ((0 : Int32)), .int ((0 : Int32)), .int ((0 : Int32))]) (rest := []) e_M_both4_17 zm_M_isWord lV_M_188 sh_154 rfl rfl rfl rfl (Nat.le_of_ble_eq_true rfl) (by decide) ?_
  refine cp_mono h (fun _ v4 ⟨x3, e1, h⟩ => ⟨x3, e1, ?_⟩)
  refine p_ifz_eq (tgt := 49) e_M_both4_20 rfl (fun c5 => ?_) (fun c5 => ?_)
  · replace h := iteF h c5
    refine g_iload_n 1 e_M_both4_49 rfl rfl ?_
    exact p_retI e_M_both4_50.1 rfl h
  · replace h := iteT h c5
    refine g_aload_n 0 e_M_both4_23 rfl rfl ?_
    refine p_callVV (d' := 2) (ci := 10) (r := (RX10, TX10, 49)) (As := []) (rest := []) e_M_both4_24 zm_M_next lV_M_185 sh_154 rfl rfl rfl rfl (Nat.le_of_ble_eq_true rfl) (by decide) ?_
    refine cp_mono h (fun _ v7 ⟨e1, h⟩ => ⟨e1, ?_⟩)
    refine g_aload_n 0 e_M_both4_27 rfl rfl ?_
    refine p_callVI (d' := 14) (ci := 10) (r := (RX10, TX10, 49)) (As := []) (rest := []) e_M_both4_28 zm_M_not4 lV_M_252 sh_154 rfl rfl rfl rfl (Nat.le_of_ble_eq_true rfl) (by decide) ?_
    refine cp_mono h (fun _ v9 ⟨x8, e1, h⟩ => ⟨x8, e1, ?_⟩)
    refine g_istore_n (L' := [(2, .int (x8)), (0, .ref (154)), (1, .int (l1))]) e_M_both4_31 rfl (by decide) rfl ?_
    refine g_iload_n 2 e_M_both4_32 rfl rfl ?_
    have hj : ∀ m0 : Bool, m0 = (if l1 = (0 : Int32) then false else (if x8 = (0 : Int32) then false else true)) → Gp 15 M_M_both4 45 [(0, .ref (154)), (1, .int (l1)), (2, .int (x8))] [.int (bI (m0))] (v9) (QI Q) := by
      intro m0 hm0
      subst hm0
      refine g_istore_n (L' := [(1, .int (bI ((if l1 = (0 : Int32) then false else (if x8 = (0 : Int32) then false else true))))), (0, .ref (154)), (2, .int (x8))]) e_M_both4_45 rfl (by decide) rfl ?_
      refine g_goto (tgt := 5) e_M_both4_46 rfl ?_
      exact g_sub [1, 0] rfl h
    refine g_if_eq (tgt := 44) e_M_both4_33 rfl (fun c10 => ?_) (fun c10 => ?_)
    · refine g_iconst (0 : Int32) e_M_both4_44 (by decide) ?_
      refine g_sub [1, 2, 0] rfl ?_
      exact hj (false) (by simp only [if_pos c10])
    · refine g_iload_n 0 e_M_both4_36 rfl rfl ?_
      refine g_if_eq (tgt := 44) e_M_both4_37 rfl (fun c11 => ?_) (fun c11 => ?_)
      · refine g_iconst (0 : Int32) e_M_both4_44 (by decide) ?_
        refine g_sub [1, 2, 0] rfl ?_
        exact hj (false) (by simp only [if_neg c10, if_pos c11])
      · refine g_iconst (1 : Int32) e_M_both4_40 (by decide) ?_
        refine g_goto (tgt := 45) e_M_both4_41 rfl ?_
        refine g_sub [1, 2, 0] rfl ?_
        exact hj (true) (by simp only [if_neg c10, if_neg c11])
set_option maxHeartbeats 1000000 in
theorem s_M_either4  {v : Vv} {Q : Int32 → Vv → Prop} (h : m_M_both4  (v) (fun x1 v2 => k_M_either4_5 (x1) (v2) Q)) : m_M_either4  v Q := by
  refine cp_go (Nat.le_of_ble_eq_true rfl) (by decide +kernel) ?_
  show Gp 16 M_M_either4 0 [(0, .ref (154))] [] v (QI Q)
  refine g_aload_n 0 e_M_either4_0 rfl rfl ?_
  refine p_callVI (d' := 15) (ci := 10) (r := (RX10, TX10, 49)) (As := []) (rest := []) e_M_either4_1 zm_M_both4 lV_M_255 sh_154 rfl rfl rfl rfl (Nat.le_of_ble_eq_true rfl) (by decide) ?_
  refine cp_mono h (fun _ v2 ⟨x1, e1, h⟩ => ⟨x1, e1, ?_⟩)
  refine g_istore_n (L' := [(1, .int (x1)), (0, .ref (154))]) e_M_either4_4 rfl (by decide) rfl ?_
  exact g_sub [1, 0] rfl h
set_option maxHeartbeats 1000000 in
theorem s_M_either4_5 {l1 : Int32} {v : Vv} {Q : Int32 → Vv → Prop} (h : m_M_isWord (111 : Int32) (114 : Int32) (0 : Int32) (0 : Int32) (0 : Int32) (0 : Int32) (0 : Int32) (0 : Int32) (v) (fun x3 v4 => if x3 = true then (m_M_next  (v4) (fun v7 => m_M_both4  (v7) (fun x8 v9 => k_M_either4_5 (bI ((if l1 = (0 : Int32) then (if x8 = (0 : Int32) then false else true) else true))) (v9) Q))) else (Q (l1) (v4)))) : k_M_either4_5 l1 v Q := by
  show Gp 16 M_M_either4 5 [(0, .ref (154)), (1, .int (l1))] [] v (QI Q)
  refine g_aload_n 0 e_M_either4_5 rfl rfl ?_
  refine g_bipush (111 : Int32) e_M_either4_6 (by decide) ?_
  refine g_bipush (114 : Int32) e_M_either4_8 (by decide) ?_
  refine g_iconst (0 : Int32) e_M_either4_10 (by decide) ?_
  refine g_iconst (0 : Int32) e_M_either4_11 (by decide) ?_
  refine g_iconst (0 : Int32) e_M_either4_12 (by decide) ?_
  refine g_iconst (0 : Int32) e_M_either4_13 (by decide) ?_
  refine g_iconst (0 : Int32) e_M_either4_14 (by decide) ?_
  refine g_iconst (0 : Int32) e_M_either4_15 (by decide) ?_
  refine p_callVZ (d' := 3) (ci := 10) (r := (RX10, TX10, 49)) (As := [.int ((111 : Int32)), .int ((114 : Int32)), .int ((0 : Int32)), .int ((0 : Int32)), .int ((0 : Int32)), .int ((0 : Int32)), .int ((0 : Int32)), .int ((0 : Int32))]) (rest := []) e_M_either4_16 zm_M_isWord lV_M_188 sh_154 rfl rfl rfl rfl (Nat.le_of_ble_eq_true rfl) (by decide) ?_
  refine cp_mono h (fun _ v4 ⟨x3, e1, h⟩ => ⟨x3, e1, ?_⟩)
  refine p_ifz_eq (tgt := 48) e_M_either4_19 rfl (fun c5 => ?_) (fun c5 => ?_)
  · replace h := iteF h c5
    refine g_iload_n 1 e_M_either4_48 rfl rfl ?_
    exact p_retI e_M_either4_49.1 rfl h
  · replace h := iteT h c5
    refine g_aload_n 0 e_M_either4_22 rfl rfl ?_
    refine p_callVV (d' := 2) (ci := 10) (r := (RX10, TX10, 49)) (As := []) (rest := []) e_M_either4_23 zm_M_next lV_M_185 sh_154 rfl rfl rfl rfl (Nat.le_of_ble_eq_true rfl) (by decide) ?_
    refine cp_mono h (fun _ v7 ⟨e1, h⟩ => ⟨e1, ?_⟩)
    refine g_aload_n 0 e_M_either4_26 rfl rfl ?_
    refine p_callVI (d' := 15) (ci := 10) (r := (RX10, TX10, 49)) (As := []) (rest := []) e_M_either4_27 zm_M_both4 lV_M_255 sh_154 rfl rfl rfl rfl (Nat.le_of_ble_eq_true rfl) (by decide) ?_
    refine cp_mono h (fun _ v9 ⟨x8, e1, h⟩ => ⟨x8, e1, ?_⟩)
    refine g_istore_n (L' := [(2, .int (x8)), (0, .ref (154)), (1, .int (l1))]) e_M_either4_30 rfl (by decide) rfl ?_
    refine g_iload_n 2 e_M_either4_31 rfl rfl ?_
    have hj : ∀ m0 : Bool, m0 = (if l1 = (0 : Int32) then (if x8 = (0 : Int32) then false else true) else true) → Gp 16 M_M_either4 44 [(0, .ref (154)), (1, .int (l1)), (2, .int (x8))] [.int (bI (m0))] (v9) (QI Q) := by
      intro m0 hm0
      subst hm0
      refine g_istore_n (L' := [(1, .int (bI ((if l1 = (0 : Int32) then (if x8 = (0 : Int32) then false else true) else true)))), (0, .ref (154)), (2, .int (x8))]) e_M_either4_44 rfl (by decide) rfl ?_
      refine g_goto (tgt := 5) e_M_either4_45 rfl ?_
      exact g_sub [1, 0] rfl h
    refine g_if_ne (tgt := 39) e_M_either4_32 rfl (fun c10 => ?_) (fun c10 => ?_)
    · refine g_iconst (1 : Int32) e_M_either4_39 (by decide) ?_
      refine g_goto (tgt := 44) e_M_either4_40 rfl ?_
      refine g_sub [1, 2, 0] rfl ?_
      exact hj (true) (by simp only [if_neg c10])
    · refine g_iload_n 0 e_M_either4_35 rfl rfl ?_
      refine g_if_eq (tgt := 43) e_M_either4_36 rfl (fun c11 => ?_) (fun c11 => ?_)
      · refine g_iconst (0 : Int32) e_M_either4_43 (by decide) ?_
        refine g_sub [1, 2, 0] rfl ?_
        exact hj (false) (by simp only [if_pos c10, if_pos c11])
      · refine g_iconst (1 : Int32) e_M_either4_39 (by decide) ?_
        refine g_goto (tgt := 44) e_M_either4_40 rfl ?_
        refine g_sub [1, 2, 0] rfl ?_
        exact hj (true) (by simp only [if_pos c10, if_neg c11])
set_option maxHeartbeats 1000000 in
theorem s_M_atom3  {v : Vv} {Q : Int32 → Vv → Prop} (h : m_M_isSign (45 : Int32) (v) (fun x1 v2 => if x1 = true then (m_M_opens  (v2) (fun x4 v5 => if x4 = true then (m_M_atom4  (v5) (fun x7 v8 => Q ((-x7)) (sI (v8) 154 28 ((v8).1 154 28 - (1 : Int32))))) else (Q ((0 : Int32)) (v5)))) else (m_M_isSign (40 : Int32) (v2) (fun x9 v10 => if x9 = true then (m_M_opens  (v10) (fun x12 v13 => if x12 = true then (m_M_either4  (v13) (fun x15 v16 => m_M_isSign (41 : Int32) (v16) (fun x17 v18 => if x17 = true then (k_M_atom3_71 (x15) (v18) Q) else (m_M_fail  (v18) (fun v21 => k_M_atom3_71 (x15) (v21) Q))))) else (Q ((0 : Int32)) (v13)))) else (if (v10).1 154 29 = (0 : Int32) then (if (v10).1 154 25 = (2 : Int32) then (m_M_next  (v10) (fun v25 => Q (((v10).2.1 154 27).toInt32) (v25))) else (k_M_atom3_123 ((0 : Int32)) (v10) Q)) else (k_M_atom3_123 ((0 : Int32)) (v10) Q)))))) : m_M_atom3  v Q := by
  refine cp_go (Nat.le_of_ble_eq_true rfl) (by decide +kernel) ?_
  show Gp 17 M_M_atom3 0 [(0, .ref (154))] [] v (QI Q)
  refine g_iconst (0 : Int32) e_M_atom3_0 (by decide) ?_
  refine g_istore_n (L' := [(1, .int ((0 : Int32))), (0, .ref (154))]) e_M_atom3_1 rfl (by decide) rfl ?_
  refine g_aload_n 1 e_M_atom3_2 rfl rfl ?_
  refine g_bipush (45 : Int32) e_M_atom3_3 (by decide) ?_
  refine p_callVZ (d' := 1) (ci := 10) (r := (RX10, TX10, 49)) (As := [.int ((45 : Int32))]) (rest := []) e_M_atom3_5 zm_M_isSign lV_M_210 sh_154 rfl rfl rfl rfl (Nat.le_of_ble_eq_true rfl) (by decide) ?_
  refine cp_mono h (fun _ v2 ⟨x1, e1, h⟩ => ⟨x1, e1, ?_⟩)
  refine p_ifz_eq (tgt := 37) e_M_atom3_8 rfl (fun c3 => ?_) (fun c3 => ?_)
  · replace h := iteF h c3
    refine g_aload_n 1 e_M_atom3_37 rfl rfl ?_
    refine g_bipush (40 : Int32) e_M_atom3_38 (by decide) ?_
    refine p_callVZ (d' := 1) (ci := 10) (r := (RX10, TX10, 49)) (As := [.int ((40 : Int32))]) (rest := []) e_M_atom3_40 zm_M_isSign lV_M_210 sh_154 rfl rfl rfl rfl (Nat.le_of_ble_eq_true rfl) (by decide) ?_
    refine cp_mono h (fun _ v10 ⟨x9, e1, h⟩ => ⟨x9, e1, ?_⟩)
    refine p_ifz_eq (tgt := 95) e_M_atom3_43 rfl (fun c11 => ?_) (fun c11 => ?_)
    · replace h := iteF h c11
      refine g_aload_n 1 e_M_atom3_95 rfl rfl ?_
      refine p_getI e_M_atom3_96 sh_154 fl_M_168 rfl ?_
      refine g_if_ne (tgt := 123) e_M_atom3_99 rfl (fun c22 => ?_) (fun c22 => ?_)
      · replace h := iteF h c22
        exact g_sub [1, 0] rfl h
      · replace h := iteT h c22
        refine g_aload_n 1 e_M_atom3_102 rfl rfl ?_
        refine p_getI e_M_atom3_103 sh_154 fl_M_151 rfl ?_
        refine g_iconst (2 : Int32) e_M_atom3_106 (by decide) ?_
        refine g_icmp_ne (tgt := 123) e_M_atom3_107 rfl (fun c23 => ?_) (fun c23 => ?_)
        · replace h := iteF h c23
          exact g_sub [1, 0] rfl h
        · replace h := iteT h c23
          refine g_aload_n 1 e_M_atom3_110 rfl rfl ?_
          refine p_getJ e_M_atom3_111 sh_154 fl_M_162 rfl ?_
          refine g_l2i e_M_atom3_114 ?_
          refine g_istore_n (L' := [(1, .int (((v10).2.1 154 27).toInt32)), (0, .ref (154))]) e_M_atom3_115 rfl (by decide) rfl ?_
          refine g_aload_n 1 e_M_atom3_116 rfl rfl ?_
          refine p_callVV (d' := 2) (ci := 10) (r := (RX10, TX10, 49)) (As := []) (rest := []) e_M_atom3_117 zm_M_next lV_M_185 sh_154 rfl rfl rfl rfl (Nat.le_of_ble_eq_true rfl) (by decide) ?_
          refine cp_mono h (fun _ v25 ⟨e1, h⟩ => ⟨e1, ?_⟩)
          refine g_goto (tgt := 161) e_M_atom3_120 rfl ?_
          refine g_iload_n 0 e_M_atom3_161 rfl rfl ?_
          exact p_retI e_M_atom3_162.1 rfl h
    · replace h := iteT h c11
      refine g_aload_n 1 e_M_atom3_46 rfl rfl ?_
      refine p_callVZ (d' := 3) (ci := 10) (r := (RX10, TX10, 49)) (As := []) (rest := []) e_M_atom3_47 zm_M_opens lV_M_213 sh_154 rfl rfl rfl rfl (Nat.le_of_ble_eq_true rfl) (by decide) ?_
      refine cp_mono h (fun _ v13 ⟨x12, e1, h⟩ => ⟨x12, e1, ?_⟩)
      refine p_ifz_eq (tgt := 161) e_M_atom3_50 rfl (fun c14 => ?_) (fun c14 => ?_)
      · replace h := iteF h c14
        refine g_iload_n 0 e_M_atom3_161 rfl rfl ?_
        exact p_retI e_M_atom3_162.1 rfl h
      · replace h := iteT h c14
        refine g_aload_n 1 e_M_atom3_53 rfl rfl ?_
        refine p_callVI (d' := 16) (ci := 10) (r := (RX10, TX10, 49)) (As := []) (rest := []) e_M_atom3_54 zm_M_either4 lV_M_258 sh_154 rfl rfl rfl rfl (Nat.le_of_ble_eq_true rfl) (by decide) ?_
        refine cp_mono h (fun _ v16 ⟨x15, e1, h⟩ => ⟨x15, e1, ?_⟩)
        refine g_istore_n (L' := [(1, .int (x15)), (0, .ref (154))]) e_M_atom3_57 rfl (by decide) rfl ?_
        refine g_aload_n 1 e_M_atom3_58 rfl rfl ?_
        refine g_bipush (41 : Int32) e_M_atom3_59 (by decide) ?_
        refine p_callVZ (d' := 1) (ci := 10) (r := (RX10, TX10, 49)) (As := [.int ((41 : Int32))]) (rest := []) e_M_atom3_61 zm_M_isSign lV_M_210 sh_154 rfl rfl rfl rfl (Nat.le_of_ble_eq_true rfl) (by decide) ?_
        refine cp_mono h (fun _ v18 ⟨x17, e1, h⟩ => ⟨x17, e1, ?_⟩)
        refine p_ifz_ne (tgt := 71) e_M_atom3_64 rfl (fun c19 => ?_) (fun c19 => ?_)
        · replace h := iteT h c19
          exact g_sub [1, 0] rfl h
        · replace h := iteF h c19
          refine g_aload_n 1 e_M_atom3_67 rfl rfl ?_
          refine p_callVV (d' := 1) (ci := 10) (r := (RX10, TX10, 49)) (As := []) (rest := []) e_M_atom3_68 zm_M_fail lV_M_182 sh_154 rfl rfl rfl rfl (Nat.le_of_ble_eq_true rfl) (by decide) ?_
          refine cp_mono h (fun _ v21 ⟨e1, h⟩ => ⟨e1, ?_⟩)
          exact g_sub [1, 0] rfl h
  · replace h := iteT h c3
    refine g_aload_n 1 e_M_atom3_11 rfl rfl ?_
    refine p_callVZ (d' := 3) (ci := 10) (r := (RX10, TX10, 49)) (As := []) (rest := []) e_M_atom3_12 zm_M_opens lV_M_213 sh_154 rfl rfl rfl rfl (Nat.le_of_ble_eq_true rfl) (by decide) ?_
    refine cp_mono h (fun _ v5 ⟨x4, e1, h⟩ => ⟨x4, e1, ?_⟩)
    refine p_ifz_eq (tgt := 161) e_M_atom3_15 rfl (fun c6 => ?_) (fun c6 => ?_)
    · replace h := iteF h c6
      refine g_iload_n 0 e_M_atom3_161 rfl rfl ?_
      exact p_retI e_M_atom3_162.1 rfl h
    · replace h := iteT h c6
      refine g_aload_n 1 e_M_atom3_18 rfl rfl ?_
      refine p_callVI (d' := 11) (ci := 10) (r := (RX10, TX10, 49)) (As := []) (rest := []) e_M_atom3_19 zm_M_atom4 lV_M_243 sh_154 rfl rfl rfl rfl (Nat.le_of_ble_eq_true rfl) (by decide) ?_
      refine cp_mono h (fun _ v8 ⟨x7, e1, h⟩ => ⟨x7, e1, ?_⟩)
      refine g_ineg e_M_atom3_22 ?_
      refine g_istore_n (L' := [(1, .int ((-x7))), (0, .ref (154))]) e_M_atom3_23 rfl (by decide) rfl ?_
      refine g_aload_n 1 e_M_atom3_24 rfl rfl ?_
      refine g_dup e_M_atom3_25 rfl ?_
      refine p_getI e_M_atom3_26 sh_154 fl_M_179 rfl ?_
      refine g_iconst (1 : Int32) e_M_atom3_29 (by decide) ?_
      refine g_isub e_M_atom3_30 ?_
      refine p_putI e_M_atom3_31 sh_154 fp_M_179 rfl rfl rfl ?_
      refine g_goto (tgt := 161) e_M_atom3_34 rfl ?_
      refine g_iload_n 0 e_M_atom3_161 rfl rfl ?_
      exact p_retI e_M_atom3_162.1 rfl h
set_option maxHeartbeats 1000000 in
theorem s_M_atom3_71 {l1 : Int32} {v : Vv} {Q : Int32 → Vv → Prop} (h : if (sI (v) 154 28 ((v).1 154 28 - (1 : Int32))).1 154 29 = (0 : Int32) then (m_M_next  (sI (v) 154 28 ((v).1 154 28 - (1 : Int32))) (fun v28 => Q (l1) (v28))) else (Q (l1) (sI (v) 154 28 ((v).1 154 28 - (1 : Int32))))) : k_M_atom3_71 l1 v Q := by
  show Gp 17 M_M_atom3 71 [(0, .ref (154)), (1, .int (l1))] [] v (QI Q)
  refine g_aload_n 0 e_M_atom3_71 rfl rfl ?_
  refine g_dup e_M_atom3_72 rfl ?_
  refine p_getI e_M_atom3_73 sh_154 fl_M_179 rfl ?_
  refine g_iconst (1 : Int32) e_M_atom3_76 (by decide) ?_
  refine g_isub e_M_atom3_77 ?_
  refine p_putI e_M_atom3_78 sh_154 fp_M_179 rfl rfl rfl ?_
  refine g_aload_n 0 e_M_atom3_81 rfl rfl ?_
  refine p_getI e_M_atom3_82 sh_154 fl_M_168 rfl ?_
  refine g_if_ne (tgt := 161) e_M_atom3_85 rfl (fun c26 => ?_) (fun c26 => ?_)
  · replace h := iteF h c26
    refine g_iload_n 1 e_M_atom3_161 rfl rfl ?_
    exact p_retI e_M_atom3_162.1 rfl h
  · replace h := iteT h c26
    refine g_aload_n 0 e_M_atom3_88 rfl rfl ?_
    refine p_callVV (d' := 2) (ci := 10) (r := (RX10, TX10, 49)) (As := []) (rest := []) e_M_atom3_89 zm_M_next lV_M_185 sh_154 rfl rfl rfl rfl (Nat.le_of_ble_eq_true rfl) (by decide) ?_
    refine cp_mono h (fun _ v28 ⟨e1, h⟩ => ⟨e1, ?_⟩)
    refine g_goto (tgt := 161) e_M_atom3_92 rfl ?_
    refine g_iload_n 1 e_M_atom3_161 rfl rfl ?_
    exact p_retI e_M_atom3_162.1 rfl h
set_option maxHeartbeats 1000000 in
theorem s_M_atom3_123 {l1 : Int32} {v : Vv} {Q : Int32 → Vv → Prop} (h : if (v).1 154 29 = (0 : Int32) then (if (v).1 154 25 = (1 : Int32) then (m_M_name  (v) (fun x31 v32 => if (v32).1 154 29 = (0 : Int32) then (m_M_next  (v32) (fun v35 => Q (x31) (v35))) else (Q (x31) (v32)))) else (k_M_atom3_157 (l1) (v) Q)) else (k_M_atom3_157 (l1) (v) Q)) : k_M_atom3_123 l1 v Q := by
  show Gp 17 M_M_atom3 123 [(0, .ref (154)), (1, .int (l1))] [] v (QI Q)
  refine g_aload_n 0 e_M_atom3_123 rfl rfl ?_
  refine p_getI e_M_atom3_124 sh_154 fl_M_168 rfl ?_
  refine g_if_ne (tgt := 157) e_M_atom3_127 rfl (fun c29 => ?_) (fun c29 => ?_)
  · replace h := iteF h c29
    exact g_sub [0, 1] rfl h
  · replace h := iteT h c29
    refine g_aload_n 0 e_M_atom3_130 rfl rfl ?_
    refine p_getI e_M_atom3_131 sh_154 fl_M_151 rfl ?_
    refine g_iconst (1 : Int32) e_M_atom3_134 (by decide) ?_
    refine g_icmp_ne (tgt := 157) e_M_atom3_135 rfl (fun c30 => ?_) (fun c30 => ?_)
    · replace h := iteF h c30
      exact g_sub [0, 1] rfl h
    · replace h := iteT h c30
      refine g_aload_n 0 e_M_atom3_138 rfl rfl ?_
      refine p_callVI (d' := 4) (ci := 10) (r := (RX10, TX10, 49)) (As := []) (rest := []) e_M_atom3_139 zm_M_name lV_M_217 sh_154 rfl rfl rfl rfl (Nat.le_of_ble_eq_true rfl) (by decide) ?_
      refine cp_mono h (fun _ v32 ⟨x31, e1, h⟩ => ⟨x31, e1, ?_⟩)
      refine g_istore_n (L' := [(1, .int (x31)), (0, .ref (154))]) e_M_atom3_142 rfl (by decide) rfl ?_
      refine g_aload_n 1 e_M_atom3_143 rfl rfl ?_
      refine p_getI e_M_atom3_144 sh_154 fl_M_168 rfl ?_
      refine g_if_ne (tgt := 161) e_M_atom3_147 rfl (fun c33 => ?_) (fun c33 => ?_)
      · replace h := iteF h c33
        refine g_iload_n 0 e_M_atom3_161 rfl rfl ?_
        exact p_retI e_M_atom3_162.1 rfl h
      · replace h := iteT h c33
        refine g_aload_n 1 e_M_atom3_150 rfl rfl ?_
        refine p_callVV (d' := 2) (ci := 10) (r := (RX10, TX10, 49)) (As := []) (rest := []) e_M_atom3_151 zm_M_next lV_M_185 sh_154 rfl rfl rfl rfl (Nat.le_of_ble_eq_true rfl) (by decide) ?_
        refine cp_mono h (fun _ v35 ⟨e1, h⟩ => ⟨e1, ?_⟩)
        refine g_goto (tgt := 161) e_M_atom3_154 rfl ?_
        refine g_iload_n 0 e_M_atom3_161 rfl rfl ?_
        exact p_retI e_M_atom3_162.1 rfl h
set_option maxHeartbeats 1000000 in
theorem s_M_atom3_157 {l1 : Int32} {v : Vv} {Q : Int32 → Vv → Prop} (h : m_M_fail  (v) (fun v37 => Q (l1) (v37))) : k_M_atom3_157 l1 v Q := by
  show Gp 17 M_M_atom3 157 [(0, .ref (154)), (1, .int (l1))] [] v (QI Q)
  refine g_aload_n 0 e_M_atom3_157 rfl rfl ?_
  refine p_callVV (d' := 1) (ci := 10) (r := (RX10, TX10, 49)) (As := []) (rest := []) e_M_atom3_158 zm_M_fail lV_M_182 sh_154 rfl rfl rfl rfl (Nat.le_of_ble_eq_true rfl) (by decide) ?_
  refine cp_mono h (fun _ v37 ⟨e1, h⟩ => ⟨e1, ?_⟩)
  refine g_iload_n 1 e_M_atom3_161 rfl rfl ?_
  exact p_retI e_M_atom3_162.1 rfl h
set_option maxHeartbeats 1000000 in
theorem s_M_term3  {v : Vv} {Q : Int32 → Vv → Prop} (h : m_M_atom3  (v) (fun x1 v2 => k_M_term3_5 (x1) (v2) Q)) : m_M_term3  v Q := by
  refine cp_go (Nat.le_of_ble_eq_true rfl) (by decide +kernel) ?_
  show Gp 18 M_M_term3 0 [(0, .ref (154))] [] v (QI Q)
  refine g_aload_n 0 e_M_term3_0 rfl rfl ?_
  refine p_callVI (d' := 17) (ci := 10) (r := (RX10, TX10, 49)) (As := []) (rest := []) e_M_term3_1 zm_M_atom3 lV_M_261 sh_154 rfl rfl rfl rfl (Nat.le_of_ble_eq_true rfl) (by decide) ?_
  refine cp_mono h (fun _ v2 ⟨x1, e1, h⟩ => ⟨x1, e1, ?_⟩)
  refine g_istore_n (L' := [(1, .int (x1)), (0, .ref (154))]) e_M_term3_4 rfl (by decide) rfl ?_
  exact g_sub [1, 0] rfl h
set_option maxHeartbeats 1000000 in
theorem s_M_term3_5 {l1 : Int32} {v : Vv} {Q : Int32 → Vv → Prop} (h : m_M_isSign (42 : Int32) (v) (fun x3 v4 => if x3 = true then (m_M_next  (v4) (fun v7 => m_M_atom3  (v7) (fun x8 v9 => k_M_term3_5 ((l1 * x8)) (v9) Q))) else (Q (l1) (v4)))) : k_M_term3_5 l1 v Q := by
  show Gp 18 M_M_term3 5 [(0, .ref (154)), (1, .int (l1))] [] v (QI Q)
  refine g_aload_n 0 e_M_term3_5 rfl rfl ?_
  refine g_bipush (42 : Int32) e_M_term3_6 (by decide) ?_
  refine p_callVZ (d' := 1) (ci := 10) (r := (RX10, TX10, 49)) (As := [.int ((42 : Int32))]) (rest := []) e_M_term3_8 zm_M_isSign lV_M_210 sh_154 rfl rfl rfl rfl (Nat.le_of_ble_eq_true rfl) (by decide) ?_
  refine cp_mono h (fun _ v4 ⟨x3, e1, h⟩ => ⟨x3, e1, ?_⟩)
  refine p_ifz_eq (tgt := 28) e_M_term3_11 rfl (fun c5 => ?_) (fun c5 => ?_)
  · replace h := iteF h c5
    refine g_iload_n 1 e_M_term3_28 rfl rfl ?_
    exact p_retI e_M_term3_29.1 rfl h
  · replace h := iteT h c5
    refine g_aload_n 0 e_M_term3_14 rfl rfl ?_
    refine p_callVV (d' := 2) (ci := 10) (r := (RX10, TX10, 49)) (As := []) (rest := []) e_M_term3_15 zm_M_next lV_M_185 sh_154 rfl rfl rfl rfl (Nat.le_of_ble_eq_true rfl) (by decide) ?_
    refine cp_mono h (fun _ v7 ⟨e1, h⟩ => ⟨e1, ?_⟩)
    refine g_iload_n 1 e_M_term3_18 rfl rfl ?_
    refine g_aload_n 0 e_M_term3_19 rfl rfl ?_
    refine p_callVI (d' := 17) (ci := 10) (r := (RX10, TX10, 49)) (As := []) (rest := [.int (l1)]) e_M_term3_20 zm_M_atom3 lV_M_261 sh_154 rfl rfl rfl rfl (Nat.le_of_ble_eq_true rfl) (by decide) ?_
    refine cp_mono h (fun _ v9 ⟨x8, e1, h⟩ => ⟨x8, e1, ?_⟩)
    refine g_imul e_M_term3_23 ?_
    refine g_istore_n (L' := [(1, .int ((l1 * x8))), (0, .ref (154))]) e_M_term3_24 rfl (by decide) rfl ?_
    refine g_goto (tgt := 5) e_M_term3_25 rfl ?_
    exact g_sub [1, 0] rfl h
set_option maxHeartbeats 1000000 in
theorem s_M_added3  {v : Vv} {Q : Int32 → Vv → Prop} (h : m_M_term3  (v) (fun x1 v2 => k_M_added3_5 (x1) (v2) Q)) : m_M_added3  v Q := by
  refine cp_go (Nat.le_of_ble_eq_true rfl) (by decide +kernel) ?_
  show Gp 19 M_M_added3 0 [(0, .ref (154))] [] v (QI Q)
  refine g_aload_n 0 e_M_added3_0 rfl rfl ?_
  refine p_callVI (d' := 18) (ci := 10) (r := (RX10, TX10, 49)) (As := []) (rest := []) e_M_added3_1 zm_M_term3 lV_M_264 sh_154 rfl rfl rfl rfl (Nat.le_of_ble_eq_true rfl) (by decide) ?_
  refine cp_mono h (fun _ v2 ⟨x1, e1, h⟩ => ⟨x1, e1, ?_⟩)
  refine g_istore_n (L' := [(1, .int (x1)), (0, .ref (154))]) e_M_added3_4 rfl (by decide) rfl ?_
  exact g_sub [1, 0] rfl h
set_option maxHeartbeats 1000000 in
theorem s_M_added3_5 {l1 : Int32} {v : Vv} {Q : Int32 → Vv → Prop} (h : m_M_isSign (43 : Int32) (v) (fun x3 v4 => if x3 = true then (k_M_added3_23 (l1) (v4) Q) else (m_M_isSign (45 : Int32) (v4) (fun x6 v7 => if x6 = true then (k_M_added3_23 (l1) (v7) Q) else (Q (l1) (v7)))))) : k_M_added3_5 l1 v Q := by
  show Gp 19 M_M_added3 5 [(0, .ref (154)), (1, .int (l1))] [] v (QI Q)
  refine g_aload_n 0 e_M_added3_5 rfl rfl ?_
  refine g_bipush (43 : Int32) e_M_added3_6 (by decide) ?_
  refine p_callVZ (d' := 1) (ci := 10) (r := (RX10, TX10, 49)) (As := [.int ((43 : Int32))]) (rest := []) e_M_added3_8 zm_M_isSign lV_M_210 sh_154 rfl rfl rfl rfl (Nat.le_of_ble_eq_true rfl) (by decide) ?_
  refine cp_mono h (fun _ v4 ⟨x3, e1, h⟩ => ⟨x3, e1, ?_⟩)
  refine p_ifz_ne (tgt := 23) e_M_added3_11 rfl (fun c5 => ?_) (fun c5 => ?_)
  · replace h := iteT h c5
    exact g_sub [0, 1] rfl h
  · replace h := iteF h c5
    refine g_aload_n 0 e_M_added3_14 rfl rfl ?_
    refine g_bipush (45 : Int32) e_M_added3_15 (by decide) ?_
    refine p_callVZ (d' := 1) (ci := 10) (r := (RX10, TX10, 49)) (As := [.int ((45 : Int32))]) (rest := []) e_M_added3_17 zm_M_isSign lV_M_210 sh_154 rfl rfl rfl rfl (Nat.le_of_ble_eq_true rfl) (by decide) ?_
    refine cp_mono h (fun _ v7 ⟨x6, e1, h⟩ => ⟨x6, e1, ?_⟩)
    refine p_ifz_eq (tgt := 66) e_M_added3_20 rfl (fun c8 => ?_) (fun c8 => ?_)
    · replace h := iteF h c8
      refine g_iload_n 1 e_M_added3_66 rfl rfl ?_
      exact p_retI e_M_added3_67.1 rfl h
    · replace h := iteT h c8
      exact g_sub [0, 1] rfl h
set_option maxHeartbeats 1000000 in
theorem s_M_added3_23 {l1 : Int32} {v : Vv} {Q : Int32 → Vv → Prop} (h : if (v).2.1 154 27 = (43 : Int64) then (k_M_added3_39 (l1) ((1 : Int32)) (v) Q) else (k_M_added3_39 (l1) ((0 : Int32)) (v) Q)) : k_M_added3_23 l1 v Q := by
  show Gp 19 M_M_added3 23 [(0, .ref (154)), (1, .int (l1))] [] v (QI Q)
  refine g_aload_n 0 e_M_added3_23 rfl rfl ?_
  refine p_getJ e_M_added3_24 sh_154 fl_M_162 rfl ?_
  refine g_ldc2 (v := (43 : Int64)) (hd := e_M_added3_27) cl_M_227 ?_
  refine g_l_ne (tgt := 38) e_M_added3_30 e_M_added3_31 rfl (fun c9 => ?_) (fun c9 => ?_)
  · replace h := iteF h c9
    refine g_iconst (0 : Int32) e_M_added3_38 (by decide) ?_
    exact g_sub [0, 1] rfl h
  · replace h := iteT h c9
    refine g_iconst (1 : Int32) e_M_added3_34 (by decide) ?_
    refine g_goto (tgt := 39) e_M_added3_35 rfl ?_
    exact g_sub [0, 1] rfl h
set_option maxHeartbeats 1000000 in
theorem s_M_added3_39 {l1 : Int32} {t0 : Int32} {v : Vv} {Q : Int32 → Vv → Prop} (h : m_M_next  (v) (fun v11 => m_M_term3  (v11) (fun x12 v13 => k_M_added3_5 ((if t0 = (0 : Int32) then (l1 - x12) else (l1 + x12))) (v13) Q))) : k_M_added3_39 l1 t0 v Q := by
  show Gp 19 M_M_added3 39 [(0, .ref (154)), (1, .int (l1))] [.int (t0)] v (QI Q)
  refine g_istore_n (L' := [(2, .int (t0)), (0, .ref (154)), (1, .int (l1))]) e_M_added3_39 rfl (by decide) rfl ?_
  refine g_aload_n 1 e_M_added3_40 rfl rfl ?_
  refine p_callVV (d' := 2) (ci := 10) (r := (RX10, TX10, 49)) (As := []) (rest := []) e_M_added3_41 zm_M_next lV_M_185 sh_154 rfl rfl rfl rfl (Nat.le_of_ble_eq_true rfl) (by decide) ?_
  refine cp_mono h (fun _ v11 ⟨e1, h⟩ => ⟨e1, ?_⟩)
  refine g_aload_n 1 e_M_added3_44 rfl rfl ?_
  refine p_callVI (d' := 18) (ci := 10) (r := (RX10, TX10, 49)) (As := []) (rest := []) e_M_added3_45 zm_M_term3 lV_M_264 sh_154 rfl rfl rfl rfl (Nat.le_of_ble_eq_true rfl) (by decide) ?_
  refine cp_mono h (fun _ v13 ⟨x12, e1, h⟩ => ⟨x12, e1, ?_⟩)
  refine g_istore_n (L' := [(3, .int (x12)), (2, .int (t0)), (0, .ref (154)), (1, .int (l1))]) e_M_added3_48 rfl (by decide) rfl ?_
  refine g_iload_n 1 e_M_added3_49 rfl rfl ?_
  have hj : ∀ m0 : Int32, m0 = (if t0 = (0 : Int32) then (l1 - x12) else (l1 + x12)) → Gp 19 M_M_added3 62 [(0, .ref (154)), (1, .int (l1)), (2, .int (t0)), (3, .int (x12))] [.int (m0)] (v13) (QI Q) := by
    intro m0 hm0
    subst hm0
    refine g_istore_n (L' := [(1, .int ((if t0 = (0 : Int32) then (l1 - x12) else (l1 + x12)))), (0, .ref (154)), (2, .int (t0)), (3, .int (x12))]) e_M_added3_62 rfl (by decide) rfl ?_
    refine g_goto (tgt := 5) e_M_added3_63 rfl ?_
    exact g_sub [1, 0] rfl h
  refine g_if_eq (tgt := 59) e_M_added3_50 rfl (fun c14 => ?_) (fun c14 => ?_)
  · refine g_iload_n 3 e_M_added3_59 rfl rfl ?_
    refine g_iload_n 0 e_M_added3_60 rfl rfl ?_
    refine g_isub e_M_added3_61 ?_
    refine g_sub [2, 3, 1, 0] rfl ?_
    exact hj ((l1 - x12)) (by simp only [if_pos c14])
  · refine g_iload_n 3 e_M_added3_53 rfl rfl ?_
    refine g_iload_n 0 e_M_added3_54 rfl rfl ?_
    refine g_iadd e_M_added3_55 ?_
    refine g_goto (tgt := 62) e_M_added3_56 rfl ?_
    refine g_sub [2, 3, 1, 0] rfl ?_
    exact hj ((l1 + x12)) (by simp only [if_neg c14])
set_option maxHeartbeats 1000000 in
theorem s_M_not3  {v : Vv} {Q : Int32 → Vv → Prop} (h : m_M_isWord (110 : Int32) (111 : Int32) (116 : Int32) (0 : Int32) (0 : Int32) (0 : Int32) (0 : Int32) (0 : Int32) (v) (fun x1 v2 => if x1 = true then (m_M_opens  (v2) (fun x4 v5 => if x4 = true then (m_M_not4  (v5) (fun x7 v8 => Q (bI ((if x7 = (0 : Int32) then true else false))) (sI (v8) 154 28 ((v8).1 154 28 - (1 : Int32))))) else (Q ((0 : Int32)) (v5)))) else (m_M_added3  (v2) (fun x10 v11 => m_M_isSign (60 : Int32) (v11) (fun x12 v13 => if x12 = true then (k_M_not3_77 (x10) (v13) Q) else (m_M_isSign (61 : Int32) (v13) (fun x15 v16 => if x15 = true then (k_M_not3_77 (x10) (v16) Q) else (Q (x10) (v16))))))))) : m_M_not3  v Q := by
  refine cp_go (Nat.le_of_ble_eq_true rfl) (by decide +kernel) ?_
  show Gp 20 M_M_not3 0 [(0, .ref (154))] [] v (QI Q)
  refine g_aload_n 0 e_M_not3_0 rfl rfl ?_
  refine g_bipush (110 : Int32) e_M_not3_1 (by decide) ?_
  refine g_bipush (111 : Int32) e_M_not3_3 (by decide) ?_
  refine g_bipush (116 : Int32) e_M_not3_5 (by decide) ?_
  refine g_iconst (0 : Int32) e_M_not3_7 (by decide) ?_
  refine g_iconst (0 : Int32) e_M_not3_8 (by decide) ?_
  refine g_iconst (0 : Int32) e_M_not3_9 (by decide) ?_
  refine g_iconst (0 : Int32) e_M_not3_10 (by decide) ?_
  refine g_iconst (0 : Int32) e_M_not3_11 (by decide) ?_
  refine p_callVZ (d' := 3) (ci := 10) (r := (RX10, TX10, 49)) (As := [.int ((110 : Int32)), .int ((111 : Int32)), .int ((116 : Int32)), .int ((0 : Int32)), .int ((0 : Int32)), .int ((0 : Int32)), .int ((0 : Int32)), .int ((0 : Int32))]) (rest := []) e_M_not3_12 zm_M_isWord lV_M_188 sh_154 rfl rfl rfl rfl (Nat.le_of_ble_eq_true rfl) (by decide) ?_
  refine cp_mono h (fun _ v2 ⟨x1, e1, h⟩ => ⟨x1, e1, ?_⟩)
  refine p_ifz_eq (tgt := 52) e_M_not3_15 rfl (fun c3 => ?_) (fun c3 => ?_)
  · replace h := iteF h c3
    refine g_aload_n 0 e_M_not3_52 rfl rfl ?_
    refine p_callVI (d' := 19) (ci := 10) (r := (RX10, TX10, 49)) (As := []) (rest := []) e_M_not3_53 zm_M_added3 lV_M_267 sh_154 rfl rfl rfl rfl (Nat.le_of_ble_eq_true rfl) (by decide) ?_
    refine cp_mono h (fun _ v11 ⟨x10, e1, h⟩ => ⟨x10, e1, ?_⟩)
    refine g_istore_n (L' := [(1, .int (x10)), (0, .ref (154))]) e_M_not3_56 rfl (by decide) rfl ?_
    refine g_aload_n 1 e_M_not3_57 rfl rfl ?_
    refine g_bipush (60 : Int32) e_M_not3_58 (by decide) ?_
    refine p_callVZ (d' := 1) (ci := 10) (r := (RX10, TX10, 49)) (As := [.int ((60 : Int32))]) (rest := []) e_M_not3_60 zm_M_isSign lV_M_210 sh_154 rfl rfl rfl rfl (Nat.le_of_ble_eq_true rfl) (by decide) ?_
    refine cp_mono h (fun _ v13 ⟨x12, e1, h⟩ => ⟨x12, e1, ?_⟩)
    refine p_ifz_ne (tgt := 77) e_M_not3_63 rfl (fun c14 => ?_) (fun c14 => ?_)
    · replace h := iteT h c14
      exact g_sub [1, 0] rfl h
    · replace h := iteF h c14
      refine g_aload_n 1 e_M_not3_66 rfl rfl ?_
      refine g_bipush (61 : Int32) e_M_not3_67 (by decide) ?_
      refine p_callVZ (d' := 1) (ci := 10) (r := (RX10, TX10, 49)) (As := [.int ((61 : Int32))]) (rest := []) e_M_not3_69 zm_M_isSign lV_M_210 sh_154 rfl rfl rfl rfl (Nat.le_of_ble_eq_true rfl) (by decide) ?_
      refine cp_mono h (fun _ v16 ⟨x15, e1, h⟩ => ⟨x15, e1, ?_⟩)
      refine p_ifz_ne (tgt := 77) e_M_not3_72 rfl (fun c17 => ?_) (fun c17 => ?_)
      · replace h := iteT h c17
        exact g_sub [1, 0] rfl h
      · replace h := iteF h c17
        refine g_iload_n 0 e_M_not3_75 rfl rfl ?_
        exact p_retI e_M_not3_76.1 rfl h
  · replace h := iteT h c3
    refine g_aload_n 0 e_M_not3_18 rfl rfl ?_
    refine p_callVZ (d' := 3) (ci := 10) (r := (RX10, TX10, 49)) (As := []) (rest := []) e_M_not3_19 zm_M_opens lV_M_213 sh_154 rfl rfl rfl rfl (Nat.le_of_ble_eq_true rfl) (by decide) ?_
    refine cp_mono h (fun _ v5 ⟨x4, e1, h⟩ => ⟨x4, e1, ?_⟩)
    refine p_ifz_ne (tgt := 27) e_M_not3_22 rfl (fun c6 => ?_) (fun c6 => ?_)
    · replace h := iteT h c6
      refine g_aload_n 0 e_M_not3_27 rfl rfl ?_
      refine p_callVI (d' := 14) (ci := 10) (r := (RX10, TX10, 49)) (As := []) (rest := []) e_M_not3_28 zm_M_not4 lV_M_252 sh_154 rfl rfl rfl rfl (Nat.le_of_ble_eq_true rfl) (by decide) ?_
      refine cp_mono h (fun _ v8 ⟨x7, e1, h⟩ => ⟨x7, e1, ?_⟩)
      refine g_istore_n (L' := [(1, .int (x7)), (0, .ref (154))]) e_M_not3_31 rfl (by decide) rfl ?_
      refine g_aload_n 1 e_M_not3_32 rfl rfl ?_
      refine g_dup e_M_not3_33 rfl ?_
      refine p_getI e_M_not3_34 sh_154 fl_M_179 rfl ?_
      refine g_iconst (1 : Int32) e_M_not3_37 (by decide) ?_
      refine g_isub e_M_not3_38 ?_
      refine p_putI e_M_not3_39 sh_154 fp_M_179 rfl rfl rfl ?_
      refine g_iload_n 0 e_M_not3_42 rfl rfl ?_
      have hj : ∀ m0 : Bool, m0 = (if x7 = (0 : Int32) then true else false) → Gp 20 M_M_not3 51 [(0, .ref (154)), (1, .int (x7))] [.int (bI (m0))] (sI (v8) 154 28 ((v8).1 154 28 - (1 : Int32))) (QI Q) := by
        intro m0 hm0
        subst hm0
        exact p_retI e_M_not3_51.1 rfl h
      refine g_if_ne (tgt := 50) e_M_not3_43 rfl (fun c9 => ?_) (fun c9 => ?_)
      · refine g_iconst (0 : Int32) e_M_not3_50 (by decide) ?_
        refine g_sub [1, 0] rfl ?_
        exact hj (false) (by simp only [if_neg c9])
      · refine g_iconst (1 : Int32) e_M_not3_46 (by decide) ?_
        refine g_goto (tgt := 51) e_M_not3_47 rfl ?_
        refine g_sub [1, 0] rfl ?_
        exact hj (true) (by simp only [if_pos c9])
    · replace h := iteF h c6
      refine g_iconst (0 : Int32) e_M_not3_25 (by decide) ?_
      exact p_retI e_M_not3_26.1 rfl h
set_option maxHeartbeats 1000000 in
theorem s_M_not3_77 {l1 : Int32} {v : Vv} {Q : Int32 → Vv → Prop} (h : if (v).2.1 154 27 = (60 : Int64) then (k_M_not3_93 (l1) ((1 : Int32)) (v) Q) else (k_M_not3_93 (l1) ((0 : Int32)) (v) Q)) : k_M_not3_77 l1 v Q := by
  show Gp 20 M_M_not3 77 [(0, .ref (154)), (1, .int (l1))] [] v (QI Q)
  refine g_aload_n 0 e_M_not3_77 rfl rfl ?_
  refine p_getJ e_M_not3_78 sh_154 fl_M_162 rfl ?_
  refine g_ldc2 (v := (60 : Int64)) (hd := e_M_not3_81) cl_M_232 ?_
  refine g_l_ne (tgt := 92) e_M_not3_84 e_M_not3_85 rfl (fun c18 => ?_) (fun c18 => ?_)
  · replace h := iteF h c18
    refine g_iconst (0 : Int32) e_M_not3_92 (by decide) ?_
    exact g_sub [0, 1] rfl h
  · replace h := iteT h c18
    refine g_iconst (1 : Int32) e_M_not3_88 (by decide) ?_
    refine g_goto (tgt := 93) e_M_not3_89 rfl ?_
    exact g_sub [0, 1] rfl h
set_option maxHeartbeats 1000000 in
theorem s_M_not3_93 {l1 : Int32} {t0 : Int32} {v : Vv} {Q : Int32 → Vv → Prop} (h : m_M_next  (v) (fun v20 => m_M_added3  (v20) (fun x21 v22 => Q (bI ((if t0 = (0 : Int32) then (if l1 = x21 then true else false) else (if l1 < x21 then true else false)))) (v22)))) : k_M_not3_93 l1 t0 v Q := by
  show Gp 20 M_M_not3 93 [(0, .ref (154)), (1, .int (l1))] [.int (t0)] v (QI Q)
  refine g_istore_n (L' := [(2, .int (t0)), (0, .ref (154)), (1, .int (l1))]) e_M_not3_93 rfl (by decide) rfl ?_
  refine g_aload_n 1 e_M_not3_94 rfl rfl ?_
  refine p_callVV (d' := 2) (ci := 10) (r := (RX10, TX10, 49)) (As := []) (rest := []) e_M_not3_95 zm_M_next lV_M_185 sh_154 rfl rfl rfl rfl (Nat.le_of_ble_eq_true rfl) (by decide) ?_
  refine cp_mono h (fun _ v20 ⟨e1, h⟩ => ⟨e1, ?_⟩)
  refine g_aload_n 1 e_M_not3_98 rfl rfl ?_
  refine p_callVI (d' := 19) (ci := 10) (r := (RX10, TX10, 49)) (As := []) (rest := []) e_M_not3_99 zm_M_added3 lV_M_267 sh_154 rfl rfl rfl rfl (Nat.le_of_ble_eq_true rfl) (by decide) ?_
  refine cp_mono h (fun _ v22 ⟨x21, e1, h⟩ => ⟨x21, e1, ?_⟩)
  refine g_istore_n (L' := [(3, .int (x21)), (2, .int (t0)), (0, .ref (154)), (1, .int (l1))]) e_M_not3_102 rfl (by decide) rfl ?_
  refine g_iload_n 1 e_M_not3_103 rfl rfl ?_
  have hj : ∀ m0 : Bool, m0 = (if t0 = (0 : Int32) then (if l1 = x21 then true else false) else (if l1 < x21 then true else false)) → Gp 20 M_M_not3 125 [(0, .ref (154)), (1, .int (l1)), (2, .int (t0)), (3, .int (x21))] [.int (bI (m0))] (v22) (QI Q) := by
    intro m0 hm0
    subst hm0
    exact p_retI e_M_not3_125.1 rfl h
  refine g_if_eq (tgt := 115) e_M_not3_104 rfl (fun c23 => ?_) (fun c23 => ?_)
  · refine g_iload_n 3 e_M_not3_115 rfl rfl ?_
    refine g_iload_n 0 e_M_not3_116 rfl rfl ?_
    refine g_icmp_ne (tgt := 124) e_M_not3_117 rfl (fun c24 => ?_) (fun c24 => ?_)
    · refine g_iconst (0 : Int32) e_M_not3_124 (by decide) ?_
      refine g_sub [2, 3, 1, 0] rfl ?_
      exact hj (false) (by simp only [if_pos c23, if_neg c24])
    · refine g_iconst (1 : Int32) e_M_not3_120 (by decide) ?_
      refine g_goto (tgt := 125) e_M_not3_121 rfl ?_
      refine g_sub [2, 3, 1, 0] rfl ?_
      exact hj (true) (by simp only [if_pos c23, if_pos c24])
  · refine g_iload_n 3 e_M_not3_107 rfl rfl ?_
    refine g_iload_n 0 e_M_not3_108 rfl rfl ?_
    refine g_icmp_ge (tgt := 124) e_M_not3_109 rfl (fun c25 => ?_) (fun c25 => ?_)
    · refine g_iconst (0 : Int32) e_M_not3_124 (by decide) ?_
      refine g_sub [2, 3, 1, 0] rfl ?_
      exact hj (false) (by simp only [if_neg c23, if_neg c25])
    · refine g_goto (tgt := 120) e_M_not3_112 rfl ?_
      refine g_iconst (1 : Int32) e_M_not3_120 (by decide) ?_
      refine g_goto (tgt := 125) e_M_not3_121 rfl ?_
      refine g_sub [2, 3, 1, 0] rfl ?_
      exact hj (true) (by simp only [if_neg c23, if_pos c25])
set_option maxHeartbeats 1000000 in
theorem s_M_both3  {v : Vv} {Q : Int32 → Vv → Prop} (h : m_M_not3  (v) (fun x1 v2 => k_M_both3_5 (x1) (v2) Q)) : m_M_both3  v Q := by
  refine cp_go (Nat.le_of_ble_eq_true rfl) (by decide +kernel) ?_
  show Gp 21 M_M_both3 0 [(0, .ref (154))] [] v (QI Q)
  refine g_aload_n 0 e_M_both3_0 rfl rfl ?_
  refine p_callVI (d' := 20) (ci := 10) (r := (RX10, TX10, 49)) (As := []) (rest := []) e_M_both3_1 zm_M_not3 lV_M_270 sh_154 rfl rfl rfl rfl (Nat.le_of_ble_eq_true rfl) (by decide) ?_
  refine cp_mono h (fun _ v2 ⟨x1, e1, h⟩ => ⟨x1, e1, ?_⟩)
  refine g_istore_n (L' := [(1, .int (x1)), (0, .ref (154))]) e_M_both3_4 rfl (by decide) rfl ?_
  exact g_sub [1, 0] rfl h
set_option maxHeartbeats 1000000 in
theorem s_M_both3_5 {l1 : Int32} {v : Vv} {Q : Int32 → Vv → Prop} (h : m_M_isWord (97 : Int32) (110 : Int32) (100 : Int32) (0 : Int32) (0 : Int32) (0 : Int32) (0 : Int32) (0 : Int32) (v) (fun x3 v4 => if x3 = true then (m_M_next  (v4) (fun v7 => m_M_not3  (v7) (fun x8 v9 => k_M_both3_5 (bI ((if l1 = (0 : Int32) then false else (if x8 = (0 : Int32) then false else true)))) (v9) Q))) else (Q (l1) (v4)))) : k_M_both3_5 l1 v Q := by
  show Gp 21 M_M_both3 5 [(0, .ref (154)), (1, .int (l1))] [] v (QI Q)
  refine g_aload_n 0 e_M_both3_5 rfl rfl ?_
  refine g_bipush (97 : Int32) e_M_both3_6 (by decide) ?_
  refine g_bipush (110 : Int32) e_M_both3_8 (by decide) ?_
  refine g_bipush (100 : Int32) e_M_both3_10 (by decide) ?_
  refine g_iconst (0 : Int32) e_M_both3_12 (by decide) ?_
  refine g_iconst (0 : Int32) e_M_both3_13 (by decide) ?_
  refine g_iconst (0 : Int32) e_M_both3_14 (by decide) ?_
  refine g_iconst (0 : Int32) e_M_both3_15 (by decide) ?_
  refine g_iconst (0 : Int32) e_M_both3_16 (by decide) ?_
  refine p_callVZ (d' := 3) (ci := 10) (r := (RX10, TX10, 49)) (As := [.int ((97 : Int32)), .int ((110 : Int32)), .int ((100 : Int32)), .int ((0 : Int32)), .int ((0 : Int32)), .int ((0 : Int32)), .int ((0 : Int32)), .int ((0 : Int32))]) (rest := []) e_M_both3_17 zm_M_isWord lV_M_188 sh_154 rfl rfl rfl rfl (Nat.le_of_ble_eq_true rfl) (by decide) ?_
  refine cp_mono h (fun _ v4 ⟨x3, e1, h⟩ => ⟨x3, e1, ?_⟩)
  refine p_ifz_eq (tgt := 49) e_M_both3_20 rfl (fun c5 => ?_) (fun c5 => ?_)
  · replace h := iteF h c5
    refine g_iload_n 1 e_M_both3_49 rfl rfl ?_
    exact p_retI e_M_both3_50.1 rfl h
  · replace h := iteT h c5
    refine g_aload_n 0 e_M_both3_23 rfl rfl ?_
    refine p_callVV (d' := 2) (ci := 10) (r := (RX10, TX10, 49)) (As := []) (rest := []) e_M_both3_24 zm_M_next lV_M_185 sh_154 rfl rfl rfl rfl (Nat.le_of_ble_eq_true rfl) (by decide) ?_
    refine cp_mono h (fun _ v7 ⟨e1, h⟩ => ⟨e1, ?_⟩)
    refine g_aload_n 0 e_M_both3_27 rfl rfl ?_
    refine p_callVI (d' := 20) (ci := 10) (r := (RX10, TX10, 49)) (As := []) (rest := []) e_M_both3_28 zm_M_not3 lV_M_270 sh_154 rfl rfl rfl rfl (Nat.le_of_ble_eq_true rfl) (by decide) ?_
    refine cp_mono h (fun _ v9 ⟨x8, e1, h⟩ => ⟨x8, e1, ?_⟩)
    refine g_istore_n (L' := [(2, .int (x8)), (0, .ref (154)), (1, .int (l1))]) e_M_both3_31 rfl (by decide) rfl ?_
    refine g_iload_n 2 e_M_both3_32 rfl rfl ?_
    have hj : ∀ m0 : Bool, m0 = (if l1 = (0 : Int32) then false else (if x8 = (0 : Int32) then false else true)) → Gp 21 M_M_both3 45 [(0, .ref (154)), (1, .int (l1)), (2, .int (x8))] [.int (bI (m0))] (v9) (QI Q) := by
      intro m0 hm0
      subst hm0
      refine g_istore_n (L' := [(1, .int (bI ((if l1 = (0 : Int32) then false else (if x8 = (0 : Int32) then false else true))))), (0, .ref (154)), (2, .int (x8))]) e_M_both3_45 rfl (by decide) rfl ?_
      refine g_goto (tgt := 5) e_M_both3_46 rfl ?_
      exact g_sub [1, 0] rfl h
    refine g_if_eq (tgt := 44) e_M_both3_33 rfl (fun c10 => ?_) (fun c10 => ?_)
    · refine g_iconst (0 : Int32) e_M_both3_44 (by decide) ?_
      refine g_sub [1, 2, 0] rfl ?_
      exact hj (false) (by simp only [if_pos c10])
    · refine g_iload_n 0 e_M_both3_36 rfl rfl ?_
      refine g_if_eq (tgt := 44) e_M_both3_37 rfl (fun c11 => ?_) (fun c11 => ?_)
      · refine g_iconst (0 : Int32) e_M_both3_44 (by decide) ?_
        refine g_sub [1, 2, 0] rfl ?_
        exact hj (false) (by simp only [if_neg c10, if_pos c11])
      · refine g_iconst (1 : Int32) e_M_both3_40 (by decide) ?_
        refine g_goto (tgt := 45) e_M_both3_41 rfl ?_
        refine g_sub [1, 2, 0] rfl ?_
        exact hj (true) (by simp only [if_neg c10, if_neg c11])
set_option maxHeartbeats 1000000 in
theorem s_M_either3  {v : Vv} {Q : Int32 → Vv → Prop} (h : m_M_both3  (v) (fun x1 v2 => k_M_either3_5 (x1) (v2) Q)) : m_M_either3  v Q := by
  refine cp_go (Nat.le_of_ble_eq_true rfl) (by decide +kernel) ?_
  show Gp 22 M_M_either3 0 [(0, .ref (154))] [] v (QI Q)
  refine g_aload_n 0 e_M_either3_0 rfl rfl ?_
  refine p_callVI (d' := 21) (ci := 10) (r := (RX10, TX10, 49)) (As := []) (rest := []) e_M_either3_1 zm_M_both3 lV_M_273 sh_154 rfl rfl rfl rfl (Nat.le_of_ble_eq_true rfl) (by decide) ?_
  refine cp_mono h (fun _ v2 ⟨x1, e1, h⟩ => ⟨x1, e1, ?_⟩)
  refine g_istore_n (L' := [(1, .int (x1)), (0, .ref (154))]) e_M_either3_4 rfl (by decide) rfl ?_
  exact g_sub [1, 0] rfl h
set_option maxHeartbeats 1000000 in
theorem s_M_either3_5 {l1 : Int32} {v : Vv} {Q : Int32 → Vv → Prop} (h : m_M_isWord (111 : Int32) (114 : Int32) (0 : Int32) (0 : Int32) (0 : Int32) (0 : Int32) (0 : Int32) (0 : Int32) (v) (fun x3 v4 => if x3 = true then (m_M_next  (v4) (fun v7 => m_M_both3  (v7) (fun x8 v9 => k_M_either3_5 (bI ((if l1 = (0 : Int32) then (if x8 = (0 : Int32) then false else true) else true))) (v9) Q))) else (Q (l1) (v4)))) : k_M_either3_5 l1 v Q := by
  show Gp 22 M_M_either3 5 [(0, .ref (154)), (1, .int (l1))] [] v (QI Q)
  refine g_aload_n 0 e_M_either3_5 rfl rfl ?_
  refine g_bipush (111 : Int32) e_M_either3_6 (by decide) ?_
  refine g_bipush (114 : Int32) e_M_either3_8 (by decide) ?_
  refine g_iconst (0 : Int32) e_M_either3_10 (by decide) ?_
  refine g_iconst (0 : Int32) e_M_either3_11 (by decide) ?_
  refine g_iconst (0 : Int32) e_M_either3_12 (by decide) ?_
  refine g_iconst (0 : Int32) e_M_either3_13 (by decide) ?_
  refine g_iconst (0 : Int32) e_M_either3_14 (by decide) ?_
  refine g_iconst (0 : Int32) e_M_either3_15 (by decide) ?_
  refine p_callVZ (d' := 3) (ci := 10) (r := (RX10, TX10, 49)) (As := [.int ((111 : Int32)), .int ((114 : Int32)), .int ((0 : Int32)), .int ((0 : Int32)), .int ((0 : Int32)), .int ((0 : Int32)), .int ((0 : Int32)), .int ((0 : Int32))]) (rest := []) e_M_either3_16 zm_M_isWord lV_M_188 sh_154 rfl rfl rfl rfl (Nat.le_of_ble_eq_true rfl) (by decide) ?_
  refine cp_mono h (fun _ v4 ⟨x3, e1, h⟩ => ⟨x3, e1, ?_⟩)
  refine p_ifz_eq (tgt := 48) e_M_either3_19 rfl (fun c5 => ?_) (fun c5 => ?_)
  · replace h := iteF h c5
    refine g_iload_n 1 e_M_either3_48 rfl rfl ?_
    exact p_retI e_M_either3_49.1 rfl h
  · replace h := iteT h c5
    refine g_aload_n 0 e_M_either3_22 rfl rfl ?_
    refine p_callVV (d' := 2) (ci := 10) (r := (RX10, TX10, 49)) (As := []) (rest := []) e_M_either3_23 zm_M_next lV_M_185 sh_154 rfl rfl rfl rfl (Nat.le_of_ble_eq_true rfl) (by decide) ?_
    refine cp_mono h (fun _ v7 ⟨e1, h⟩ => ⟨e1, ?_⟩)
    refine g_aload_n 0 e_M_either3_26 rfl rfl ?_
    refine p_callVI (d' := 21) (ci := 10) (r := (RX10, TX10, 49)) (As := []) (rest := []) e_M_either3_27 zm_M_both3 lV_M_273 sh_154 rfl rfl rfl rfl (Nat.le_of_ble_eq_true rfl) (by decide) ?_
    refine cp_mono h (fun _ v9 ⟨x8, e1, h⟩ => ⟨x8, e1, ?_⟩)
    refine g_istore_n (L' := [(2, .int (x8)), (0, .ref (154)), (1, .int (l1))]) e_M_either3_30 rfl (by decide) rfl ?_
    refine g_iload_n 2 e_M_either3_31 rfl rfl ?_
    have hj : ∀ m0 : Bool, m0 = (if l1 = (0 : Int32) then (if x8 = (0 : Int32) then false else true) else true) → Gp 22 M_M_either3 44 [(0, .ref (154)), (1, .int (l1)), (2, .int (x8))] [.int (bI (m0))] (v9) (QI Q) := by
      intro m0 hm0
      subst hm0
      refine g_istore_n (L' := [(1, .int (bI ((if l1 = (0 : Int32) then (if x8 = (0 : Int32) then false else true) else true)))), (0, .ref (154)), (2, .int (x8))]) e_M_either3_44 rfl (by decide) rfl ?_
      refine g_goto (tgt := 5) e_M_either3_45 rfl ?_
      exact g_sub [1, 0] rfl h
    refine g_if_ne (tgt := 39) e_M_either3_32 rfl (fun c10 => ?_) (fun c10 => ?_)
    · refine g_iconst (1 : Int32) e_M_either3_39 (by decide) ?_
      refine g_goto (tgt := 44) e_M_either3_40 rfl ?_
      refine g_sub [1, 2, 0] rfl ?_
      exact hj (true) (by simp only [if_neg c10])
    · refine g_iload_n 0 e_M_either3_35 rfl rfl ?_
      refine g_if_eq (tgt := 43) e_M_either3_36 rfl (fun c11 => ?_) (fun c11 => ?_)
      · refine g_iconst (0 : Int32) e_M_either3_43 (by decide) ?_
        refine g_sub [1, 2, 0] rfl ?_
        exact hj (false) (by simp only [if_pos c10, if_pos c11])
      · refine g_iconst (1 : Int32) e_M_either3_39 (by decide) ?_
        refine g_goto (tgt := 44) e_M_either3_40 rfl ?_
        refine g_sub [1, 2, 0] rfl ?_
        exact hj (true) (by simp only [if_pos c10, if_neg c11])
set_option maxHeartbeats 1000000 in
theorem s_M_atom2  {v : Vv} {Q : Int32 → Vv → Prop} (h : m_M_isSign (45 : Int32) (v) (fun x1 v2 => if x1 = true then (m_M_opens  (v2) (fun x4 v5 => if x4 = true then (m_M_atom3  (v5) (fun x7 v8 => Q ((-x7)) (sI (v8) 154 28 ((v8).1 154 28 - (1 : Int32))))) else (Q ((0 : Int32)) (v5)))) else (m_M_isSign (40 : Int32) (v2) (fun x9 v10 => if x9 = true then (m_M_opens  (v10) (fun x12 v13 => if x12 = true then (m_M_either3  (v13) (fun x15 v16 => m_M_isSign (41 : Int32) (v16) (fun x17 v18 => if x17 = true then (k_M_atom2_71 (x15) (v18) Q) else (m_M_fail  (v18) (fun v21 => k_M_atom2_71 (x15) (v21) Q))))) else (Q ((0 : Int32)) (v13)))) else (if (v10).1 154 29 = (0 : Int32) then (if (v10).1 154 25 = (2 : Int32) then (m_M_next  (v10) (fun v25 => Q (((v10).2.1 154 27).toInt32) (v25))) else (k_M_atom2_123 ((0 : Int32)) (v10) Q)) else (k_M_atom2_123 ((0 : Int32)) (v10) Q)))))) : m_M_atom2  v Q := by
  refine cp_go (Nat.le_of_ble_eq_true rfl) (by decide +kernel) ?_
  show Gp 23 M_M_atom2 0 [(0, .ref (154))] [] v (QI Q)
  refine g_iconst (0 : Int32) e_M_atom2_0 (by decide) ?_
  refine g_istore_n (L' := [(1, .int ((0 : Int32))), (0, .ref (154))]) e_M_atom2_1 rfl (by decide) rfl ?_
  refine g_aload_n 1 e_M_atom2_2 rfl rfl ?_
  refine g_bipush (45 : Int32) e_M_atom2_3 (by decide) ?_
  refine p_callVZ (d' := 1) (ci := 10) (r := (RX10, TX10, 49)) (As := [.int ((45 : Int32))]) (rest := []) e_M_atom2_5 zm_M_isSign lV_M_210 sh_154 rfl rfl rfl rfl (Nat.le_of_ble_eq_true rfl) (by decide) ?_
  refine cp_mono h (fun _ v2 ⟨x1, e1, h⟩ => ⟨x1, e1, ?_⟩)
  refine p_ifz_eq (tgt := 37) e_M_atom2_8 rfl (fun c3 => ?_) (fun c3 => ?_)
  · replace h := iteF h c3
    refine g_aload_n 1 e_M_atom2_37 rfl rfl ?_
    refine g_bipush (40 : Int32) e_M_atom2_38 (by decide) ?_
    refine p_callVZ (d' := 1) (ci := 10) (r := (RX10, TX10, 49)) (As := [.int ((40 : Int32))]) (rest := []) e_M_atom2_40 zm_M_isSign lV_M_210 sh_154 rfl rfl rfl rfl (Nat.le_of_ble_eq_true rfl) (by decide) ?_
    refine cp_mono h (fun _ v10 ⟨x9, e1, h⟩ => ⟨x9, e1, ?_⟩)
    refine p_ifz_eq (tgt := 95) e_M_atom2_43 rfl (fun c11 => ?_) (fun c11 => ?_)
    · replace h := iteF h c11
      refine g_aload_n 1 e_M_atom2_95 rfl rfl ?_
      refine p_getI e_M_atom2_96 sh_154 fl_M_168 rfl ?_
      refine g_if_ne (tgt := 123) e_M_atom2_99 rfl (fun c22 => ?_) (fun c22 => ?_)
      · replace h := iteF h c22
        exact g_sub [1, 0] rfl h
      · replace h := iteT h c22
        refine g_aload_n 1 e_M_atom2_102 rfl rfl ?_
        refine p_getI e_M_atom2_103 sh_154 fl_M_151 rfl ?_
        refine g_iconst (2 : Int32) e_M_atom2_106 (by decide) ?_
        refine g_icmp_ne (tgt := 123) e_M_atom2_107 rfl (fun c23 => ?_) (fun c23 => ?_)
        · replace h := iteF h c23
          exact g_sub [1, 0] rfl h
        · replace h := iteT h c23
          refine g_aload_n 1 e_M_atom2_110 rfl rfl ?_
          refine p_getJ e_M_atom2_111 sh_154 fl_M_162 rfl ?_
          refine g_l2i e_M_atom2_114 ?_
          refine g_istore_n (L' := [(1, .int (((v10).2.1 154 27).toInt32)), (0, .ref (154))]) e_M_atom2_115 rfl (by decide) rfl ?_
          refine g_aload_n 1 e_M_atom2_116 rfl rfl ?_
          refine p_callVV (d' := 2) (ci := 10) (r := (RX10, TX10, 49)) (As := []) (rest := []) e_M_atom2_117 zm_M_next lV_M_185 sh_154 rfl rfl rfl rfl (Nat.le_of_ble_eq_true rfl) (by decide) ?_
          refine cp_mono h (fun _ v25 ⟨e1, h⟩ => ⟨e1, ?_⟩)
          refine g_goto (tgt := 161) e_M_atom2_120 rfl ?_
          refine g_iload_n 0 e_M_atom2_161 rfl rfl ?_
          exact p_retI e_M_atom2_162.1 rfl h
    · replace h := iteT h c11
      refine g_aload_n 1 e_M_atom2_46 rfl rfl ?_
      refine p_callVZ (d' := 3) (ci := 10) (r := (RX10, TX10, 49)) (As := []) (rest := []) e_M_atom2_47 zm_M_opens lV_M_213 sh_154 rfl rfl rfl rfl (Nat.le_of_ble_eq_true rfl) (by decide) ?_
      refine cp_mono h (fun _ v13 ⟨x12, e1, h⟩ => ⟨x12, e1, ?_⟩)
      refine p_ifz_eq (tgt := 161) e_M_atom2_50 rfl (fun c14 => ?_) (fun c14 => ?_)
      · replace h := iteF h c14
        refine g_iload_n 0 e_M_atom2_161 rfl rfl ?_
        exact p_retI e_M_atom2_162.1 rfl h
      · replace h := iteT h c14
        refine g_aload_n 1 e_M_atom2_53 rfl rfl ?_
        refine p_callVI (d' := 22) (ci := 10) (r := (RX10, TX10, 49)) (As := []) (rest := []) e_M_atom2_54 zm_M_either3 lV_M_276 sh_154 rfl rfl rfl rfl (Nat.le_of_ble_eq_true rfl) (by decide) ?_
        refine cp_mono h (fun _ v16 ⟨x15, e1, h⟩ => ⟨x15, e1, ?_⟩)
        refine g_istore_n (L' := [(1, .int (x15)), (0, .ref (154))]) e_M_atom2_57 rfl (by decide) rfl ?_
        refine g_aload_n 1 e_M_atom2_58 rfl rfl ?_
        refine g_bipush (41 : Int32) e_M_atom2_59 (by decide) ?_
        refine p_callVZ (d' := 1) (ci := 10) (r := (RX10, TX10, 49)) (As := [.int ((41 : Int32))]) (rest := []) e_M_atom2_61 zm_M_isSign lV_M_210 sh_154 rfl rfl rfl rfl (Nat.le_of_ble_eq_true rfl) (by decide) ?_
        refine cp_mono h (fun _ v18 ⟨x17, e1, h⟩ => ⟨x17, e1, ?_⟩)
        refine p_ifz_ne (tgt := 71) e_M_atom2_64 rfl (fun c19 => ?_) (fun c19 => ?_)
        · replace h := iteT h c19
          exact g_sub [1, 0] rfl h
        · replace h := iteF h c19
          refine g_aload_n 1 e_M_atom2_67 rfl rfl ?_
          refine p_callVV (d' := 1) (ci := 10) (r := (RX10, TX10, 49)) (As := []) (rest := []) e_M_atom2_68 zm_M_fail lV_M_182 sh_154 rfl rfl rfl rfl (Nat.le_of_ble_eq_true rfl) (by decide) ?_
          refine cp_mono h (fun _ v21 ⟨e1, h⟩ => ⟨e1, ?_⟩)
          exact g_sub [1, 0] rfl h
  · replace h := iteT h c3
    refine g_aload_n 1 e_M_atom2_11 rfl rfl ?_
    refine p_callVZ (d' := 3) (ci := 10) (r := (RX10, TX10, 49)) (As := []) (rest := []) e_M_atom2_12 zm_M_opens lV_M_213 sh_154 rfl rfl rfl rfl (Nat.le_of_ble_eq_true rfl) (by decide) ?_
    refine cp_mono h (fun _ v5 ⟨x4, e1, h⟩ => ⟨x4, e1, ?_⟩)
    refine p_ifz_eq (tgt := 161) e_M_atom2_15 rfl (fun c6 => ?_) (fun c6 => ?_)
    · replace h := iteF h c6
      refine g_iload_n 0 e_M_atom2_161 rfl rfl ?_
      exact p_retI e_M_atom2_162.1 rfl h
    · replace h := iteT h c6
      refine g_aload_n 1 e_M_atom2_18 rfl rfl ?_
      refine p_callVI (d' := 17) (ci := 10) (r := (RX10, TX10, 49)) (As := []) (rest := []) e_M_atom2_19 zm_M_atom3 lV_M_261 sh_154 rfl rfl rfl rfl (Nat.le_of_ble_eq_true rfl) (by decide) ?_
      refine cp_mono h (fun _ v8 ⟨x7, e1, h⟩ => ⟨x7, e1, ?_⟩)
      refine g_ineg e_M_atom2_22 ?_
      refine g_istore_n (L' := [(1, .int ((-x7))), (0, .ref (154))]) e_M_atom2_23 rfl (by decide) rfl ?_
      refine g_aload_n 1 e_M_atom2_24 rfl rfl ?_
      refine g_dup e_M_atom2_25 rfl ?_
      refine p_getI e_M_atom2_26 sh_154 fl_M_179 rfl ?_
      refine g_iconst (1 : Int32) e_M_atom2_29 (by decide) ?_
      refine g_isub e_M_atom2_30 ?_
      refine p_putI e_M_atom2_31 sh_154 fp_M_179 rfl rfl rfl ?_
      refine g_goto (tgt := 161) e_M_atom2_34 rfl ?_
      refine g_iload_n 0 e_M_atom2_161 rfl rfl ?_
      exact p_retI e_M_atom2_162.1 rfl h
set_option maxHeartbeats 1000000 in
theorem s_M_atom2_71 {l1 : Int32} {v : Vv} {Q : Int32 → Vv → Prop} (h : if (sI (v) 154 28 ((v).1 154 28 - (1 : Int32))).1 154 29 = (0 : Int32) then (m_M_next  (sI (v) 154 28 ((v).1 154 28 - (1 : Int32))) (fun v28 => Q (l1) (v28))) else (Q (l1) (sI (v) 154 28 ((v).1 154 28 - (1 : Int32))))) : k_M_atom2_71 l1 v Q := by
  show Gp 23 M_M_atom2 71 [(0, .ref (154)), (1, .int (l1))] [] v (QI Q)
  refine g_aload_n 0 e_M_atom2_71 rfl rfl ?_
  refine g_dup e_M_atom2_72 rfl ?_
  refine p_getI e_M_atom2_73 sh_154 fl_M_179 rfl ?_
  refine g_iconst (1 : Int32) e_M_atom2_76 (by decide) ?_
  refine g_isub e_M_atom2_77 ?_
  refine p_putI e_M_atom2_78 sh_154 fp_M_179 rfl rfl rfl ?_
  refine g_aload_n 0 e_M_atom2_81 rfl rfl ?_
  refine p_getI e_M_atom2_82 sh_154 fl_M_168 rfl ?_
  refine g_if_ne (tgt := 161) e_M_atom2_85 rfl (fun c26 => ?_) (fun c26 => ?_)
  · replace h := iteF h c26
    refine g_iload_n 1 e_M_atom2_161 rfl rfl ?_
    exact p_retI e_M_atom2_162.1 rfl h
  · replace h := iteT h c26
    refine g_aload_n 0 e_M_atom2_88 rfl rfl ?_
    refine p_callVV (d' := 2) (ci := 10) (r := (RX10, TX10, 49)) (As := []) (rest := []) e_M_atom2_89 zm_M_next lV_M_185 sh_154 rfl rfl rfl rfl (Nat.le_of_ble_eq_true rfl) (by decide) ?_
    refine cp_mono h (fun _ v28 ⟨e1, h⟩ => ⟨e1, ?_⟩)
    refine g_goto (tgt := 161) e_M_atom2_92 rfl ?_
    refine g_iload_n 1 e_M_atom2_161 rfl rfl ?_
    exact p_retI e_M_atom2_162.1 rfl h
set_option maxHeartbeats 1000000 in
theorem s_M_atom2_123 {l1 : Int32} {v : Vv} {Q : Int32 → Vv → Prop} (h : if (v).1 154 29 = (0 : Int32) then (if (v).1 154 25 = (1 : Int32) then (m_M_name  (v) (fun x31 v32 => if (v32).1 154 29 = (0 : Int32) then (m_M_next  (v32) (fun v35 => Q (x31) (v35))) else (Q (x31) (v32)))) else (k_M_atom2_157 (l1) (v) Q)) else (k_M_atom2_157 (l1) (v) Q)) : k_M_atom2_123 l1 v Q := by
  show Gp 23 M_M_atom2 123 [(0, .ref (154)), (1, .int (l1))] [] v (QI Q)
  refine g_aload_n 0 e_M_atom2_123 rfl rfl ?_
  refine p_getI e_M_atom2_124 sh_154 fl_M_168 rfl ?_
  refine g_if_ne (tgt := 157) e_M_atom2_127 rfl (fun c29 => ?_) (fun c29 => ?_)
  · replace h := iteF h c29
    exact g_sub [0, 1] rfl h
  · replace h := iteT h c29
    refine g_aload_n 0 e_M_atom2_130 rfl rfl ?_
    refine p_getI e_M_atom2_131 sh_154 fl_M_151 rfl ?_
    refine g_iconst (1 : Int32) e_M_atom2_134 (by decide) ?_
    refine g_icmp_ne (tgt := 157) e_M_atom2_135 rfl (fun c30 => ?_) (fun c30 => ?_)
    · replace h := iteF h c30
      exact g_sub [0, 1] rfl h
    · replace h := iteT h c30
      refine g_aload_n 0 e_M_atom2_138 rfl rfl ?_
      refine p_callVI (d' := 4) (ci := 10) (r := (RX10, TX10, 49)) (As := []) (rest := []) e_M_atom2_139 zm_M_name lV_M_217 sh_154 rfl rfl rfl rfl (Nat.le_of_ble_eq_true rfl) (by decide) ?_
      refine cp_mono h (fun _ v32 ⟨x31, e1, h⟩ => ⟨x31, e1, ?_⟩)
      refine g_istore_n (L' := [(1, .int (x31)), (0, .ref (154))]) e_M_atom2_142 rfl (by decide) rfl ?_
      refine g_aload_n 1 e_M_atom2_143 rfl rfl ?_
      refine p_getI e_M_atom2_144 sh_154 fl_M_168 rfl ?_
      refine g_if_ne (tgt := 161) e_M_atom2_147 rfl (fun c33 => ?_) (fun c33 => ?_)
      · replace h := iteF h c33
        refine g_iload_n 0 e_M_atom2_161 rfl rfl ?_
        exact p_retI e_M_atom2_162.1 rfl h
      · replace h := iteT h c33
        refine g_aload_n 1 e_M_atom2_150 rfl rfl ?_
        refine p_callVV (d' := 2) (ci := 10) (r := (RX10, TX10, 49)) (As := []) (rest := []) e_M_atom2_151 zm_M_next lV_M_185 sh_154 rfl rfl rfl rfl (Nat.le_of_ble_eq_true rfl) (by decide) ?_
        refine cp_mono h (fun _ v35 ⟨e1, h⟩ => ⟨e1, ?_⟩)
        refine g_goto (tgt := 161) e_M_atom2_154 rfl ?_
        refine g_iload_n 0 e_M_atom2_161 rfl rfl ?_
        exact p_retI e_M_atom2_162.1 rfl h
set_option maxHeartbeats 1000000 in
theorem s_M_atom2_157 {l1 : Int32} {v : Vv} {Q : Int32 → Vv → Prop} (h : m_M_fail  (v) (fun v37 => Q (l1) (v37))) : k_M_atom2_157 l1 v Q := by
  show Gp 23 M_M_atom2 157 [(0, .ref (154)), (1, .int (l1))] [] v (QI Q)
  refine g_aload_n 0 e_M_atom2_157 rfl rfl ?_
  refine p_callVV (d' := 1) (ci := 10) (r := (RX10, TX10, 49)) (As := []) (rest := []) e_M_atom2_158 zm_M_fail lV_M_182 sh_154 rfl rfl rfl rfl (Nat.le_of_ble_eq_true rfl) (by decide) ?_
  refine cp_mono h (fun _ v37 ⟨e1, h⟩ => ⟨e1, ?_⟩)
  refine g_iload_n 1 e_M_atom2_161 rfl rfl ?_
  exact p_retI e_M_atom2_162.1 rfl h
set_option maxHeartbeats 1000000 in
theorem s_M_term2  {v : Vv} {Q : Int32 → Vv → Prop} (h : m_M_atom2  (v) (fun x1 v2 => k_M_term2_5 (x1) (v2) Q)) : m_M_term2  v Q := by
  refine cp_go (Nat.le_of_ble_eq_true rfl) (by decide +kernel) ?_
  show Gp 24 M_M_term2 0 [(0, .ref (154))] [] v (QI Q)
  refine g_aload_n 0 e_M_term2_0 rfl rfl ?_
  refine p_callVI (d' := 23) (ci := 10) (r := (RX10, TX10, 49)) (As := []) (rest := []) e_M_term2_1 zm_M_atom2 lV_M_279 sh_154 rfl rfl rfl rfl (Nat.le_of_ble_eq_true rfl) (by decide) ?_
  refine cp_mono h (fun _ v2 ⟨x1, e1, h⟩ => ⟨x1, e1, ?_⟩)
  refine g_istore_n (L' := [(1, .int (x1)), (0, .ref (154))]) e_M_term2_4 rfl (by decide) rfl ?_
  exact g_sub [1, 0] rfl h
set_option maxHeartbeats 1000000 in
theorem s_M_term2_5 {l1 : Int32} {v : Vv} {Q : Int32 → Vv → Prop} (h : m_M_isSign (42 : Int32) (v) (fun x3 v4 => if x3 = true then (m_M_next  (v4) (fun v7 => m_M_atom2  (v7) (fun x8 v9 => k_M_term2_5 ((l1 * x8)) (v9) Q))) else (Q (l1) (v4)))) : k_M_term2_5 l1 v Q := by
  show Gp 24 M_M_term2 5 [(0, .ref (154)), (1, .int (l1))] [] v (QI Q)
  refine g_aload_n 0 e_M_term2_5 rfl rfl ?_
  refine g_bipush (42 : Int32) e_M_term2_6 (by decide) ?_
  refine p_callVZ (d' := 1) (ci := 10) (r := (RX10, TX10, 49)) (As := [.int ((42 : Int32))]) (rest := []) e_M_term2_8 zm_M_isSign lV_M_210 sh_154 rfl rfl rfl rfl (Nat.le_of_ble_eq_true rfl) (by decide) ?_
  refine cp_mono h (fun _ v4 ⟨x3, e1, h⟩ => ⟨x3, e1, ?_⟩)
  refine p_ifz_eq (tgt := 28) e_M_term2_11 rfl (fun c5 => ?_) (fun c5 => ?_)
  · replace h := iteF h c5
    refine g_iload_n 1 e_M_term2_28 rfl rfl ?_
    exact p_retI e_M_term2_29.1 rfl h
  · replace h := iteT h c5
    refine g_aload_n 0 e_M_term2_14 rfl rfl ?_
    refine p_callVV (d' := 2) (ci := 10) (r := (RX10, TX10, 49)) (As := []) (rest := []) e_M_term2_15 zm_M_next lV_M_185 sh_154 rfl rfl rfl rfl (Nat.le_of_ble_eq_true rfl) (by decide) ?_
    refine cp_mono h (fun _ v7 ⟨e1, h⟩ => ⟨e1, ?_⟩)
    refine g_iload_n 1 e_M_term2_18 rfl rfl ?_
    refine g_aload_n 0 e_M_term2_19 rfl rfl ?_
    refine p_callVI (d' := 23) (ci := 10) (r := (RX10, TX10, 49)) (As := []) (rest := [.int (l1)]) e_M_term2_20 zm_M_atom2 lV_M_279 sh_154 rfl rfl rfl rfl (Nat.le_of_ble_eq_true rfl) (by decide) ?_
    refine cp_mono h (fun _ v9 ⟨x8, e1, h⟩ => ⟨x8, e1, ?_⟩)
    refine g_imul e_M_term2_23 ?_
    refine g_istore_n (L' := [(1, .int ((l1 * x8))), (0, .ref (154))]) e_M_term2_24 rfl (by decide) rfl ?_
    refine g_goto (tgt := 5) e_M_term2_25 rfl ?_
    exact g_sub [1, 0] rfl h
set_option maxHeartbeats 1000000 in
theorem s_M_added2  {v : Vv} {Q : Int32 → Vv → Prop} (h : m_M_term2  (v) (fun x1 v2 => k_M_added2_5 (x1) (v2) Q)) : m_M_added2  v Q := by
  refine cp_go (Nat.le_of_ble_eq_true rfl) (by decide +kernel) ?_
  show Gp 25 M_M_added2 0 [(0, .ref (154))] [] v (QI Q)
  refine g_aload_n 0 e_M_added2_0 rfl rfl ?_
  refine p_callVI (d' := 24) (ci := 10) (r := (RX10, TX10, 49)) (As := []) (rest := []) e_M_added2_1 zm_M_term2 lV_M_282 sh_154 rfl rfl rfl rfl (Nat.le_of_ble_eq_true rfl) (by decide) ?_
  refine cp_mono h (fun _ v2 ⟨x1, e1, h⟩ => ⟨x1, e1, ?_⟩)
  refine g_istore_n (L' := [(1, .int (x1)), (0, .ref (154))]) e_M_added2_4 rfl (by decide) rfl ?_
  exact g_sub [1, 0] rfl h
set_option maxHeartbeats 1000000 in
theorem s_M_added2_5 {l1 : Int32} {v : Vv} {Q : Int32 → Vv → Prop} (h : m_M_isSign (43 : Int32) (v) (fun x3 v4 => if x3 = true then (k_M_added2_23 (l1) (v4) Q) else (m_M_isSign (45 : Int32) (v4) (fun x6 v7 => if x6 = true then (k_M_added2_23 (l1) (v7) Q) else (Q (l1) (v7)))))) : k_M_added2_5 l1 v Q := by
  show Gp 25 M_M_added2 5 [(0, .ref (154)), (1, .int (l1))] [] v (QI Q)
  refine g_aload_n 0 e_M_added2_5 rfl rfl ?_
  refine g_bipush (43 : Int32) e_M_added2_6 (by decide) ?_
  refine p_callVZ (d' := 1) (ci := 10) (r := (RX10, TX10, 49)) (As := [.int ((43 : Int32))]) (rest := []) e_M_added2_8 zm_M_isSign lV_M_210 sh_154 rfl rfl rfl rfl (Nat.le_of_ble_eq_true rfl) (by decide) ?_
  refine cp_mono h (fun _ v4 ⟨x3, e1, h⟩ => ⟨x3, e1, ?_⟩)
  refine p_ifz_ne (tgt := 23) e_M_added2_11 rfl (fun c5 => ?_) (fun c5 => ?_)
  · replace h := iteT h c5
    exact g_sub [0, 1] rfl h
  · replace h := iteF h c5
    refine g_aload_n 0 e_M_added2_14 rfl rfl ?_
    refine g_bipush (45 : Int32) e_M_added2_15 (by decide) ?_
    refine p_callVZ (d' := 1) (ci := 10) (r := (RX10, TX10, 49)) (As := [.int ((45 : Int32))]) (rest := []) e_M_added2_17 zm_M_isSign lV_M_210 sh_154 rfl rfl rfl rfl (Nat.le_of_ble_eq_true rfl) (by decide) ?_
    refine cp_mono h (fun _ v7 ⟨x6, e1, h⟩ => ⟨x6, e1, ?_⟩)
    refine p_ifz_eq (tgt := 66) e_M_added2_20 rfl (fun c8 => ?_) (fun c8 => ?_)
    · replace h := iteF h c8
      refine g_iload_n 1 e_M_added2_66 rfl rfl ?_
      exact p_retI e_M_added2_67.1 rfl h
    · replace h := iteT h c8
      exact g_sub [0, 1] rfl h
set_option maxHeartbeats 1000000 in
theorem s_M_added2_23 {l1 : Int32} {v : Vv} {Q : Int32 → Vv → Prop} (h : if (v).2.1 154 27 = (43 : Int64) then (k_M_added2_39 (l1) ((1 : Int32)) (v) Q) else (k_M_added2_39 (l1) ((0 : Int32)) (v) Q)) : k_M_added2_23 l1 v Q := by
  show Gp 25 M_M_added2 23 [(0, .ref (154)), (1, .int (l1))] [] v (QI Q)
  refine g_aload_n 0 e_M_added2_23 rfl rfl ?_
  refine p_getJ e_M_added2_24 sh_154 fl_M_162 rfl ?_
  refine g_ldc2 (v := (43 : Int64)) (hd := e_M_added2_27) cl_M_227 ?_
  refine g_l_ne (tgt := 38) e_M_added2_30 e_M_added2_31 rfl (fun c9 => ?_) (fun c9 => ?_)
  · replace h := iteF h c9
    refine g_iconst (0 : Int32) e_M_added2_38 (by decide) ?_
    exact g_sub [0, 1] rfl h
  · replace h := iteT h c9
    refine g_iconst (1 : Int32) e_M_added2_34 (by decide) ?_
    refine g_goto (tgt := 39) e_M_added2_35 rfl ?_
    exact g_sub [0, 1] rfl h
set_option maxHeartbeats 1000000 in
theorem s_M_added2_39 {l1 : Int32} {t0 : Int32} {v : Vv} {Q : Int32 → Vv → Prop} (h : m_M_next  (v) (fun v11 => m_M_term2  (v11) (fun x12 v13 => k_M_added2_5 ((if t0 = (0 : Int32) then (l1 - x12) else (l1 + x12))) (v13) Q))) : k_M_added2_39 l1 t0 v Q := by
  show Gp 25 M_M_added2 39 [(0, .ref (154)), (1, .int (l1))] [.int (t0)] v (QI Q)
  refine g_istore_n (L' := [(2, .int (t0)), (0, .ref (154)), (1, .int (l1))]) e_M_added2_39 rfl (by decide) rfl ?_
  refine g_aload_n 1 e_M_added2_40 rfl rfl ?_
  refine p_callVV (d' := 2) (ci := 10) (r := (RX10, TX10, 49)) (As := []) (rest := []) e_M_added2_41 zm_M_next lV_M_185 sh_154 rfl rfl rfl rfl (Nat.le_of_ble_eq_true rfl) (by decide) ?_
  refine cp_mono h (fun _ v11 ⟨e1, h⟩ => ⟨e1, ?_⟩)
  refine g_aload_n 1 e_M_added2_44 rfl rfl ?_
  refine p_callVI (d' := 24) (ci := 10) (r := (RX10, TX10, 49)) (As := []) (rest := []) e_M_added2_45 zm_M_term2 lV_M_282 sh_154 rfl rfl rfl rfl (Nat.le_of_ble_eq_true rfl) (by decide) ?_
  refine cp_mono h (fun _ v13 ⟨x12, e1, h⟩ => ⟨x12, e1, ?_⟩)
  refine g_istore_n (L' := [(3, .int (x12)), (2, .int (t0)), (0, .ref (154)), (1, .int (l1))]) e_M_added2_48 rfl (by decide) rfl ?_
  refine g_iload_n 1 e_M_added2_49 rfl rfl ?_
  have hj : ∀ m0 : Int32, m0 = (if t0 = (0 : Int32) then (l1 - x12) else (l1 + x12)) → Gp 25 M_M_added2 62 [(0, .ref (154)), (1, .int (l1)), (2, .int (t0)), (3, .int (x12))] [.int (m0)] (v13) (QI Q) := by
    intro m0 hm0
    subst hm0
    refine g_istore_n (L' := [(1, .int ((if t0 = (0 : Int32) then (l1 - x12) else (l1 + x12)))), (0, .ref (154)), (2, .int (t0)), (3, .int (x12))]) e_M_added2_62 rfl (by decide) rfl ?_
    refine g_goto (tgt := 5) e_M_added2_63 rfl ?_
    exact g_sub [1, 0] rfl h
  refine g_if_eq (tgt := 59) e_M_added2_50 rfl (fun c14 => ?_) (fun c14 => ?_)
  · refine g_iload_n 3 e_M_added2_59 rfl rfl ?_
    refine g_iload_n 0 e_M_added2_60 rfl rfl ?_
    refine g_isub e_M_added2_61 ?_
    refine g_sub [2, 3, 1, 0] rfl ?_
    exact hj ((l1 - x12)) (by simp only [if_pos c14])
  · refine g_iload_n 3 e_M_added2_53 rfl rfl ?_
    refine g_iload_n 0 e_M_added2_54 rfl rfl ?_
    refine g_iadd e_M_added2_55 ?_
    refine g_goto (tgt := 62) e_M_added2_56 rfl ?_
    refine g_sub [2, 3, 1, 0] rfl ?_
    exact hj ((l1 + x12)) (by simp only [if_neg c14])
set_option maxHeartbeats 1000000 in
theorem s_M_not2  {v : Vv} {Q : Int32 → Vv → Prop} (h : m_M_isWord (110 : Int32) (111 : Int32) (116 : Int32) (0 : Int32) (0 : Int32) (0 : Int32) (0 : Int32) (0 : Int32) (v) (fun x1 v2 => if x1 = true then (m_M_opens  (v2) (fun x4 v5 => if x4 = true then (m_M_not3  (v5) (fun x7 v8 => Q (bI ((if x7 = (0 : Int32) then true else false))) (sI (v8) 154 28 ((v8).1 154 28 - (1 : Int32))))) else (Q ((0 : Int32)) (v5)))) else (m_M_added2  (v2) (fun x10 v11 => m_M_isSign (60 : Int32) (v11) (fun x12 v13 => if x12 = true then (k_M_not2_77 (x10) (v13) Q) else (m_M_isSign (61 : Int32) (v13) (fun x15 v16 => if x15 = true then (k_M_not2_77 (x10) (v16) Q) else (Q (x10) (v16))))))))) : m_M_not2  v Q := by
  refine cp_go (Nat.le_of_ble_eq_true rfl) (by decide +kernel) ?_
  show Gp 26 M_M_not2 0 [(0, .ref (154))] [] v (QI Q)
  refine g_aload_n 0 e_M_not2_0 rfl rfl ?_
  refine g_bipush (110 : Int32) e_M_not2_1 (by decide) ?_
  refine g_bipush (111 : Int32) e_M_not2_3 (by decide) ?_
  refine g_bipush (116 : Int32) e_M_not2_5 (by decide) ?_
  refine g_iconst (0 : Int32) e_M_not2_7 (by decide) ?_
  refine g_iconst (0 : Int32) e_M_not2_8 (by decide) ?_
  refine g_iconst (0 : Int32) e_M_not2_9 (by decide) ?_
  refine g_iconst (0 : Int32) e_M_not2_10 (by decide) ?_
  refine g_iconst (0 : Int32) e_M_not2_11 (by decide) ?_
  refine p_callVZ (d' := 3) (ci := 10) (r := (RX10, TX10, 49)) (As := [.int ((110 : Int32)), .int ((111 : Int32)), .int ((116 : Int32)), .int ((0 : Int32)), .int ((0 : Int32)), .int ((0 : Int32)), .int ((0 : Int32)), .int ((0 : Int32))]) (rest := []) e_M_not2_12 zm_M_isWord lV_M_188 sh_154 rfl rfl rfl rfl (Nat.le_of_ble_eq_true rfl) (by decide) ?_
  refine cp_mono h (fun _ v2 ⟨x1, e1, h⟩ => ⟨x1, e1, ?_⟩)
  refine p_ifz_eq (tgt := 52) e_M_not2_15 rfl (fun c3 => ?_) (fun c3 => ?_)
  · replace h := iteF h c3
    refine g_aload_n 0 e_M_not2_52 rfl rfl ?_
    refine p_callVI (d' := 25) (ci := 10) (r := (RX10, TX10, 49)) (As := []) (rest := []) e_M_not2_53 zm_M_added2 lV_M_285 sh_154 rfl rfl rfl rfl (Nat.le_of_ble_eq_true rfl) (by decide) ?_
    refine cp_mono h (fun _ v11 ⟨x10, e1, h⟩ => ⟨x10, e1, ?_⟩)
    refine g_istore_n (L' := [(1, .int (x10)), (0, .ref (154))]) e_M_not2_56 rfl (by decide) rfl ?_
    refine g_aload_n 1 e_M_not2_57 rfl rfl ?_
    refine g_bipush (60 : Int32) e_M_not2_58 (by decide) ?_
    refine p_callVZ (d' := 1) (ci := 10) (r := (RX10, TX10, 49)) (As := [.int ((60 : Int32))]) (rest := []) e_M_not2_60 zm_M_isSign lV_M_210 sh_154 rfl rfl rfl rfl (Nat.le_of_ble_eq_true rfl) (by decide) ?_
    refine cp_mono h (fun _ v13 ⟨x12, e1, h⟩ => ⟨x12, e1, ?_⟩)
    refine p_ifz_ne (tgt := 77) e_M_not2_63 rfl (fun c14 => ?_) (fun c14 => ?_)
    · replace h := iteT h c14
      exact g_sub [1, 0] rfl h
    · replace h := iteF h c14
      refine g_aload_n 1 e_M_not2_66 rfl rfl ?_
      refine g_bipush (61 : Int32) e_M_not2_67 (by decide) ?_
      refine p_callVZ (d' := 1) (ci := 10) (r := (RX10, TX10, 49)) (As := [.int ((61 : Int32))]) (rest := []) e_M_not2_69 zm_M_isSign lV_M_210 sh_154 rfl rfl rfl rfl (Nat.le_of_ble_eq_true rfl) (by decide) ?_
      refine cp_mono h (fun _ v16 ⟨x15, e1, h⟩ => ⟨x15, e1, ?_⟩)
      refine p_ifz_ne (tgt := 77) e_M_not2_72 rfl (fun c17 => ?_) (fun c17 => ?_)
      · replace h := iteT h c17
        exact g_sub [1, 0] rfl h
      · replace h := iteF h c17
        refine g_iload_n 0 e_M_not2_75 rfl rfl ?_
        exact p_retI e_M_not2_76.1 rfl h
  · replace h := iteT h c3
    refine g_aload_n 0 e_M_not2_18 rfl rfl ?_
    refine p_callVZ (d' := 3) (ci := 10) (r := (RX10, TX10, 49)) (As := []) (rest := []) e_M_not2_19 zm_M_opens lV_M_213 sh_154 rfl rfl rfl rfl (Nat.le_of_ble_eq_true rfl) (by decide) ?_
    refine cp_mono h (fun _ v5 ⟨x4, e1, h⟩ => ⟨x4, e1, ?_⟩)
    refine p_ifz_ne (tgt := 27) e_M_not2_22 rfl (fun c6 => ?_) (fun c6 => ?_)
    · replace h := iteT h c6
      refine g_aload_n 0 e_M_not2_27 rfl rfl ?_
      refine p_callVI (d' := 20) (ci := 10) (r := (RX10, TX10, 49)) (As := []) (rest := []) e_M_not2_28 zm_M_not3 lV_M_270 sh_154 rfl rfl rfl rfl (Nat.le_of_ble_eq_true rfl) (by decide) ?_
      refine cp_mono h (fun _ v8 ⟨x7, e1, h⟩ => ⟨x7, e1, ?_⟩)
      refine g_istore_n (L' := [(1, .int (x7)), (0, .ref (154))]) e_M_not2_31 rfl (by decide) rfl ?_
      refine g_aload_n 1 e_M_not2_32 rfl rfl ?_
      refine g_dup e_M_not2_33 rfl ?_
      refine p_getI e_M_not2_34 sh_154 fl_M_179 rfl ?_
      refine g_iconst (1 : Int32) e_M_not2_37 (by decide) ?_
      refine g_isub e_M_not2_38 ?_
      refine p_putI e_M_not2_39 sh_154 fp_M_179 rfl rfl rfl ?_
      refine g_iload_n 0 e_M_not2_42 rfl rfl ?_
      have hj : ∀ m0 : Bool, m0 = (if x7 = (0 : Int32) then true else false) → Gp 26 M_M_not2 51 [(0, .ref (154)), (1, .int (x7))] [.int (bI (m0))] (sI (v8) 154 28 ((v8).1 154 28 - (1 : Int32))) (QI Q) := by
        intro m0 hm0
        subst hm0
        exact p_retI e_M_not2_51.1 rfl h
      refine g_if_ne (tgt := 50) e_M_not2_43 rfl (fun c9 => ?_) (fun c9 => ?_)
      · refine g_iconst (0 : Int32) e_M_not2_50 (by decide) ?_
        refine g_sub [1, 0] rfl ?_
        exact hj (false) (by simp only [if_neg c9])
      · refine g_iconst (1 : Int32) e_M_not2_46 (by decide) ?_
        refine g_goto (tgt := 51) e_M_not2_47 rfl ?_
        refine g_sub [1, 0] rfl ?_
        exact hj (true) (by simp only [if_pos c9])
    · replace h := iteF h c6
      refine g_iconst (0 : Int32) e_M_not2_25 (by decide) ?_
      exact p_retI e_M_not2_26.1 rfl h
set_option maxHeartbeats 1000000 in
theorem s_M_not2_77 {l1 : Int32} {v : Vv} {Q : Int32 → Vv → Prop} (h : if (v).2.1 154 27 = (60 : Int64) then (k_M_not2_93 (l1) ((1 : Int32)) (v) Q) else (k_M_not2_93 (l1) ((0 : Int32)) (v) Q)) : k_M_not2_77 l1 v Q := by
  show Gp 26 M_M_not2 77 [(0, .ref (154)), (1, .int (l1))] [] v (QI Q)
  refine g_aload_n 0 e_M_not2_77 rfl rfl ?_
  refine p_getJ e_M_not2_78 sh_154 fl_M_162 rfl ?_
  refine g_ldc2 (v := (60 : Int64)) (hd := e_M_not2_81) cl_M_232 ?_
  refine g_l_ne (tgt := 92) e_M_not2_84 e_M_not2_85 rfl (fun c18 => ?_) (fun c18 => ?_)
  · replace h := iteF h c18
    refine g_iconst (0 : Int32) e_M_not2_92 (by decide) ?_
    exact g_sub [0, 1] rfl h
  · replace h := iteT h c18
    refine g_iconst (1 : Int32) e_M_not2_88 (by decide) ?_
    refine g_goto (tgt := 93) e_M_not2_89 rfl ?_
    exact g_sub [0, 1] rfl h
set_option maxHeartbeats 1000000 in
theorem s_M_not2_93 {l1 : Int32} {t0 : Int32} {v : Vv} {Q : Int32 → Vv → Prop} (h : m_M_next  (v) (fun v20 => m_M_added2  (v20) (fun x21 v22 => Q (bI ((if t0 = (0 : Int32) then (if l1 = x21 then true else false) else (if l1 < x21 then true else false)))) (v22)))) : k_M_not2_93 l1 t0 v Q := by
  show Gp 26 M_M_not2 93 [(0, .ref (154)), (1, .int (l1))] [.int (t0)] v (QI Q)
  refine g_istore_n (L' := [(2, .int (t0)), (0, .ref (154)), (1, .int (l1))]) e_M_not2_93 rfl (by decide) rfl ?_
  refine g_aload_n 1 e_M_not2_94 rfl rfl ?_
  refine p_callVV (d' := 2) (ci := 10) (r := (RX10, TX10, 49)) (As := []) (rest := []) e_M_not2_95 zm_M_next lV_M_185 sh_154 rfl rfl rfl rfl (Nat.le_of_ble_eq_true rfl) (by decide) ?_
  refine cp_mono h (fun _ v20 ⟨e1, h⟩ => ⟨e1, ?_⟩)
  refine g_aload_n 1 e_M_not2_98 rfl rfl ?_
  refine p_callVI (d' := 25) (ci := 10) (r := (RX10, TX10, 49)) (As := []) (rest := []) e_M_not2_99 zm_M_added2 lV_M_285 sh_154 rfl rfl rfl rfl (Nat.le_of_ble_eq_true rfl) (by decide) ?_
  refine cp_mono h (fun _ v22 ⟨x21, e1, h⟩ => ⟨x21, e1, ?_⟩)
  refine g_istore_n (L' := [(3, .int (x21)), (2, .int (t0)), (0, .ref (154)), (1, .int (l1))]) e_M_not2_102 rfl (by decide) rfl ?_
  refine g_iload_n 1 e_M_not2_103 rfl rfl ?_
  have hj : ∀ m0 : Bool, m0 = (if t0 = (0 : Int32) then (if l1 = x21 then true else false) else (if l1 < x21 then true else false)) → Gp 26 M_M_not2 125 [(0, .ref (154)), (1, .int (l1)), (2, .int (t0)), (3, .int (x21))] [.int (bI (m0))] (v22) (QI Q) := by
    intro m0 hm0
    subst hm0
    exact p_retI e_M_not2_125.1 rfl h
  refine g_if_eq (tgt := 115) e_M_not2_104 rfl (fun c23 => ?_) (fun c23 => ?_)
  · refine g_iload_n 3 e_M_not2_115 rfl rfl ?_
    refine g_iload_n 0 e_M_not2_116 rfl rfl ?_
    refine g_icmp_ne (tgt := 124) e_M_not2_117 rfl (fun c24 => ?_) (fun c24 => ?_)
    · refine g_iconst (0 : Int32) e_M_not2_124 (by decide) ?_
      refine g_sub [2, 3, 1, 0] rfl ?_
      exact hj (false) (by simp only [if_pos c23, if_neg c24])
    · refine g_iconst (1 : Int32) e_M_not2_120 (by decide) ?_
      refine g_goto (tgt := 125) e_M_not2_121 rfl ?_
      refine g_sub [2, 3, 1, 0] rfl ?_
      exact hj (true) (by simp only [if_pos c23, if_pos c24])
  · refine g_iload_n 3 e_M_not2_107 rfl rfl ?_
    refine g_iload_n 0 e_M_not2_108 rfl rfl ?_
    refine g_icmp_ge (tgt := 124) e_M_not2_109 rfl (fun c25 => ?_) (fun c25 => ?_)
    · refine g_iconst (0 : Int32) e_M_not2_124 (by decide) ?_
      refine g_sub [2, 3, 1, 0] rfl ?_
      exact hj (false) (by simp only [if_neg c23, if_neg c25])
    · refine g_goto (tgt := 120) e_M_not2_112 rfl ?_
      refine g_iconst (1 : Int32) e_M_not2_120 (by decide) ?_
      refine g_goto (tgt := 125) e_M_not2_121 rfl ?_
      refine g_sub [2, 3, 1, 0] rfl ?_
      exact hj (true) (by simp only [if_neg c23, if_pos c25])
set_option maxHeartbeats 1000000 in
theorem s_M_both2  {v : Vv} {Q : Int32 → Vv → Prop} (h : m_M_not2  (v) (fun x1 v2 => k_M_both2_5 (x1) (v2) Q)) : m_M_both2  v Q := by
  refine cp_go (Nat.le_of_ble_eq_true rfl) (by decide +kernel) ?_
  show Gp 27 M_M_both2 0 [(0, .ref (154))] [] v (QI Q)
  refine g_aload_n 0 e_M_both2_0 rfl rfl ?_
  refine p_callVI (d' := 26) (ci := 10) (r := (RX10, TX10, 49)) (As := []) (rest := []) e_M_both2_1 zm_M_not2 lV_M_288 sh_154 rfl rfl rfl rfl (Nat.le_of_ble_eq_true rfl) (by decide) ?_
  refine cp_mono h (fun _ v2 ⟨x1, e1, h⟩ => ⟨x1, e1, ?_⟩)
  refine g_istore_n (L' := [(1, .int (x1)), (0, .ref (154))]) e_M_both2_4 rfl (by decide) rfl ?_
  exact g_sub [1, 0] rfl h
set_option maxHeartbeats 1000000 in
theorem s_M_both2_5 {l1 : Int32} {v : Vv} {Q : Int32 → Vv → Prop} (h : m_M_isWord (97 : Int32) (110 : Int32) (100 : Int32) (0 : Int32) (0 : Int32) (0 : Int32) (0 : Int32) (0 : Int32) (v) (fun x3 v4 => if x3 = true then (m_M_next  (v4) (fun v7 => m_M_not2  (v7) (fun x8 v9 => k_M_both2_5 (bI ((if l1 = (0 : Int32) then false else (if x8 = (0 : Int32) then false else true)))) (v9) Q))) else (Q (l1) (v4)))) : k_M_both2_5 l1 v Q := by
  show Gp 27 M_M_both2 5 [(0, .ref (154)), (1, .int (l1))] [] v (QI Q)
  refine g_aload_n 0 e_M_both2_5 rfl rfl ?_
  refine g_bipush (97 : Int32) e_M_both2_6 (by decide) ?_
  refine g_bipush (110 : Int32) e_M_both2_8 (by decide) ?_
  refine g_bipush (100 : Int32) e_M_both2_10 (by decide) ?_
  refine g_iconst (0 : Int32) e_M_both2_12 (by decide) ?_
  refine g_iconst (0 : Int32) e_M_both2_13 (by decide) ?_
  refine g_iconst (0 : Int32) e_M_both2_14 (by decide) ?_
  refine g_iconst (0 : Int32) e_M_both2_15 (by decide) ?_
  refine g_iconst (0 : Int32) e_M_both2_16 (by decide) ?_
  refine p_callVZ (d' := 3) (ci := 10) (r := (RX10, TX10, 49)) (As := [.int ((97 : Int32)), .int ((110 : Int32)), .int ((100 : Int32)), .int ((0 : Int32)), .int ((0 : Int32)), .int ((0 : Int32)), .int ((0 : Int32)), .int ((0 : Int32))]) (rest := []) e_M_both2_17 zm_M_isWord lV_M_188 sh_154 rfl rfl rfl rfl (Nat.le_of_ble_eq_true rfl) (by decide) ?_
  refine cp_mono h (fun _ v4 ⟨x3, e1, h⟩ => ⟨x3, e1, ?_⟩)
  refine p_ifz_eq (tgt := 49) e_M_both2_20 rfl (fun c5 => ?_) (fun c5 => ?_)
  · replace h := iteF h c5
    refine g_iload_n 1 e_M_both2_49 rfl rfl ?_
    exact p_retI e_M_both2_50.1 rfl h
  · replace h := iteT h c5
    refine g_aload_n 0 e_M_both2_23 rfl rfl ?_
    refine p_callVV (d' := 2) (ci := 10) (r := (RX10, TX10, 49)) (As := []) (rest := []) e_M_both2_24 zm_M_next lV_M_185 sh_154 rfl rfl rfl rfl (Nat.le_of_ble_eq_true rfl) (by decide) ?_
    refine cp_mono h (fun _ v7 ⟨e1, h⟩ => ⟨e1, ?_⟩)
    refine g_aload_n 0 e_M_both2_27 rfl rfl ?_
    refine p_callVI (d' := 26) (ci := 10) (r := (RX10, TX10, 49)) (As := []) (rest := []) e_M_both2_28 zm_M_not2 lV_M_288 sh_154 rfl rfl rfl rfl (Nat.le_of_ble_eq_true rfl) (by decide) ?_
    refine cp_mono h (fun _ v9 ⟨x8, e1, h⟩ => ⟨x8, e1, ?_⟩)
    refine g_istore_n (L' := [(2, .int (x8)), (0, .ref (154)), (1, .int (l1))]) e_M_both2_31 rfl (by decide) rfl ?_
    refine g_iload_n 2 e_M_both2_32 rfl rfl ?_
    have hj : ∀ m0 : Bool, m0 = (if l1 = (0 : Int32) then false else (if x8 = (0 : Int32) then false else true)) → Gp 27 M_M_both2 45 [(0, .ref (154)), (1, .int (l1)), (2, .int (x8))] [.int (bI (m0))] (v9) (QI Q) := by
      intro m0 hm0
      subst hm0
      refine g_istore_n (L' := [(1, .int (bI ((if l1 = (0 : Int32) then false else (if x8 = (0 : Int32) then false else true))))), (0, .ref (154)), (2, .int (x8))]) e_M_both2_45 rfl (by decide) rfl ?_
      refine g_goto (tgt := 5) e_M_both2_46 rfl ?_
      exact g_sub [1, 0] rfl h
    refine g_if_eq (tgt := 44) e_M_both2_33 rfl (fun c10 => ?_) (fun c10 => ?_)
    · refine g_iconst (0 : Int32) e_M_both2_44 (by decide) ?_
      refine g_sub [1, 2, 0] rfl ?_
      exact hj (false) (by simp only [if_pos c10])
    · refine g_iload_n 0 e_M_both2_36 rfl rfl ?_
      refine g_if_eq (tgt := 44) e_M_both2_37 rfl (fun c11 => ?_) (fun c11 => ?_)
      · refine g_iconst (0 : Int32) e_M_both2_44 (by decide) ?_
        refine g_sub [1, 2, 0] rfl ?_
        exact hj (false) (by simp only [if_neg c10, if_pos c11])
      · refine g_iconst (1 : Int32) e_M_both2_40 (by decide) ?_
        refine g_goto (tgt := 45) e_M_both2_41 rfl ?_
        refine g_sub [1, 2, 0] rfl ?_
        exact hj (true) (by simp only [if_neg c10, if_neg c11])
set_option maxHeartbeats 1000000 in
theorem s_M_either2  {v : Vv} {Q : Int32 → Vv → Prop} (h : m_M_both2  (v) (fun x1 v2 => k_M_either2_5 (x1) (v2) Q)) : m_M_either2  v Q := by
  refine cp_go (Nat.le_of_ble_eq_true rfl) (by decide +kernel) ?_
  show Gp 28 M_M_either2 0 [(0, .ref (154))] [] v (QI Q)
  refine g_aload_n 0 e_M_either2_0 rfl rfl ?_
  refine p_callVI (d' := 27) (ci := 10) (r := (RX10, TX10, 49)) (As := []) (rest := []) e_M_either2_1 zm_M_both2 lV_M_291 sh_154 rfl rfl rfl rfl (Nat.le_of_ble_eq_true rfl) (by decide) ?_
  refine cp_mono h (fun _ v2 ⟨x1, e1, h⟩ => ⟨x1, e1, ?_⟩)
  refine g_istore_n (L' := [(1, .int (x1)), (0, .ref (154))]) e_M_either2_4 rfl (by decide) rfl ?_
  exact g_sub [1, 0] rfl h
set_option maxHeartbeats 1000000 in
theorem s_M_either2_5 {l1 : Int32} {v : Vv} {Q : Int32 → Vv → Prop} (h : m_M_isWord (111 : Int32) (114 : Int32) (0 : Int32) (0 : Int32) (0 : Int32) (0 : Int32) (0 : Int32) (0 : Int32) (v) (fun x3 v4 => if x3 = true then (m_M_next  (v4) (fun v7 => m_M_both2  (v7) (fun x8 v9 => k_M_either2_5 (bI ((if l1 = (0 : Int32) then (if x8 = (0 : Int32) then false else true) else true))) (v9) Q))) else (Q (l1) (v4)))) : k_M_either2_5 l1 v Q := by
  show Gp 28 M_M_either2 5 [(0, .ref (154)), (1, .int (l1))] [] v (QI Q)
  refine g_aload_n 0 e_M_either2_5 rfl rfl ?_
  refine g_bipush (111 : Int32) e_M_either2_6 (by decide) ?_
  refine g_bipush (114 : Int32) e_M_either2_8 (by decide) ?_
  refine g_iconst (0 : Int32) e_M_either2_10 (by decide) ?_
  refine g_iconst (0 : Int32) e_M_either2_11 (by decide) ?_
  refine g_iconst (0 : Int32) e_M_either2_12 (by decide) ?_
  refine g_iconst (0 : Int32) e_M_either2_13 (by decide) ?_
  refine g_iconst (0 : Int32) e_M_either2_14 (by decide) ?_
  refine g_iconst (0 : Int32) e_M_either2_15 (by decide) ?_
  refine p_callVZ (d' := 3) (ci := 10) (r := (RX10, TX10, 49)) (As := [.int ((111 : Int32)), .int ((114 : Int32)), .int ((0 : Int32)), .int ((0 : Int32)), .int ((0 : Int32)), .int ((0 : Int32)), .int ((0 : Int32)), .int ((0 : Int32))]) (rest := []) e_M_either2_16 zm_M_isWord lV_M_188 sh_154 rfl rfl rfl rfl (Nat.le_of_ble_eq_true rfl) (by decide) ?_
  refine cp_mono h (fun _ v4 ⟨x3, e1, h⟩ => ⟨x3, e1, ?_⟩)
  refine p_ifz_eq (tgt := 48) e_M_either2_19 rfl (fun c5 => ?_) (fun c5 => ?_)
  · replace h := iteF h c5
    refine g_iload_n 1 e_M_either2_48 rfl rfl ?_
    exact p_retI e_M_either2_49.1 rfl h
  · replace h := iteT h c5
    refine g_aload_n 0 e_M_either2_22 rfl rfl ?_
    refine p_callVV (d' := 2) (ci := 10) (r := (RX10, TX10, 49)) (As := []) (rest := []) e_M_either2_23 zm_M_next lV_M_185 sh_154 rfl rfl rfl rfl (Nat.le_of_ble_eq_true rfl) (by decide) ?_
    refine cp_mono h (fun _ v7 ⟨e1, h⟩ => ⟨e1, ?_⟩)
    refine g_aload_n 0 e_M_either2_26 rfl rfl ?_
    refine p_callVI (d' := 27) (ci := 10) (r := (RX10, TX10, 49)) (As := []) (rest := []) e_M_either2_27 zm_M_both2 lV_M_291 sh_154 rfl rfl rfl rfl (Nat.le_of_ble_eq_true rfl) (by decide) ?_
    refine cp_mono h (fun _ v9 ⟨x8, e1, h⟩ => ⟨x8, e1, ?_⟩)
    refine g_istore_n (L' := [(2, .int (x8)), (0, .ref (154)), (1, .int (l1))]) e_M_either2_30 rfl (by decide) rfl ?_
    refine g_iload_n 2 e_M_either2_31 rfl rfl ?_
    have hj : ∀ m0 : Bool, m0 = (if l1 = (0 : Int32) then (if x8 = (0 : Int32) then false else true) else true) → Gp 28 M_M_either2 44 [(0, .ref (154)), (1, .int (l1)), (2, .int (x8))] [.int (bI (m0))] (v9) (QI Q) := by
      intro m0 hm0
      subst hm0
      refine g_istore_n (L' := [(1, .int (bI ((if l1 = (0 : Int32) then (if x8 = (0 : Int32) then false else true) else true)))), (0, .ref (154)), (2, .int (x8))]) e_M_either2_44 rfl (by decide) rfl ?_
      refine g_goto (tgt := 5) e_M_either2_45 rfl ?_
      exact g_sub [1, 0] rfl h
    refine g_if_ne (tgt := 39) e_M_either2_32 rfl (fun c10 => ?_) (fun c10 => ?_)
    · refine g_iconst (1 : Int32) e_M_either2_39 (by decide) ?_
      refine g_goto (tgt := 44) e_M_either2_40 rfl ?_
      refine g_sub [1, 2, 0] rfl ?_
      exact hj (true) (by simp only [if_neg c10])
    · refine g_iload_n 0 e_M_either2_35 rfl rfl ?_
      refine g_if_eq (tgt := 43) e_M_either2_36 rfl (fun c11 => ?_) (fun c11 => ?_)
      · refine g_iconst (0 : Int32) e_M_either2_43 (by decide) ?_
        refine g_sub [1, 2, 0] rfl ?_
        exact hj (false) (by simp only [if_pos c10, if_pos c11])
      · refine g_iconst (1 : Int32) e_M_either2_39 (by decide) ?_
        refine g_goto (tgt := 44) e_M_either2_40 rfl ?_
        refine g_sub [1, 2, 0] rfl ?_
        exact hj (true) (by simp only [if_pos c10, if_neg c11])
set_option maxHeartbeats 1000000 in
theorem s_M_atom1  {v : Vv} {Q : Int32 → Vv → Prop} (h : m_M_isSign (45 : Int32) (v) (fun x1 v2 => if x1 = true then (m_M_opens  (v2) (fun x4 v5 => if x4 = true then (m_M_atom2  (v5) (fun x7 v8 => Q ((-x7)) (sI (v8) 154 28 ((v8).1 154 28 - (1 : Int32))))) else (Q ((0 : Int32)) (v5)))) else (m_M_isSign (40 : Int32) (v2) (fun x9 v10 => if x9 = true then (m_M_opens  (v10) (fun x12 v13 => if x12 = true then (m_M_either2  (v13) (fun x15 v16 => m_M_isSign (41 : Int32) (v16) (fun x17 v18 => if x17 = true then (k_M_atom1_71 (x15) (v18) Q) else (m_M_fail  (v18) (fun v21 => k_M_atom1_71 (x15) (v21) Q))))) else (Q ((0 : Int32)) (v13)))) else (if (v10).1 154 29 = (0 : Int32) then (if (v10).1 154 25 = (2 : Int32) then (m_M_next  (v10) (fun v25 => Q (((v10).2.1 154 27).toInt32) (v25))) else (k_M_atom1_123 ((0 : Int32)) (v10) Q)) else (k_M_atom1_123 ((0 : Int32)) (v10) Q)))))) : m_M_atom1  v Q := by
  refine cp_go (Nat.le_of_ble_eq_true rfl) (by decide +kernel) ?_
  show Gp 29 M_M_atom1 0 [(0, .ref (154))] [] v (QI Q)
  refine g_iconst (0 : Int32) e_M_atom1_0 (by decide) ?_
  refine g_istore_n (L' := [(1, .int ((0 : Int32))), (0, .ref (154))]) e_M_atom1_1 rfl (by decide) rfl ?_
  refine g_aload_n 1 e_M_atom1_2 rfl rfl ?_
  refine g_bipush (45 : Int32) e_M_atom1_3 (by decide) ?_
  refine p_callVZ (d' := 1) (ci := 10) (r := (RX10, TX10, 49)) (As := [.int ((45 : Int32))]) (rest := []) e_M_atom1_5 zm_M_isSign lV_M_210 sh_154 rfl rfl rfl rfl (Nat.le_of_ble_eq_true rfl) (by decide) ?_
  refine cp_mono h (fun _ v2 ⟨x1, e1, h⟩ => ⟨x1, e1, ?_⟩)
  refine p_ifz_eq (tgt := 37) e_M_atom1_8 rfl (fun c3 => ?_) (fun c3 => ?_)
  · replace h := iteF h c3
    refine g_aload_n 1 e_M_atom1_37 rfl rfl ?_
    refine g_bipush (40 : Int32) e_M_atom1_38 (by decide) ?_
    refine p_callVZ (d' := 1) (ci := 10) (r := (RX10, TX10, 49)) (As := [.int ((40 : Int32))]) (rest := []) e_M_atom1_40 zm_M_isSign lV_M_210 sh_154 rfl rfl rfl rfl (Nat.le_of_ble_eq_true rfl) (by decide) ?_
    refine cp_mono h (fun _ v10 ⟨x9, e1, h⟩ => ⟨x9, e1, ?_⟩)
    refine p_ifz_eq (tgt := 95) e_M_atom1_43 rfl (fun c11 => ?_) (fun c11 => ?_)
    · replace h := iteF h c11
      refine g_aload_n 1 e_M_atom1_95 rfl rfl ?_
      refine p_getI e_M_atom1_96 sh_154 fl_M_168 rfl ?_
      refine g_if_ne (tgt := 123) e_M_atom1_99 rfl (fun c22 => ?_) (fun c22 => ?_)
      · replace h := iteF h c22
        exact g_sub [1, 0] rfl h
      · replace h := iteT h c22
        refine g_aload_n 1 e_M_atom1_102 rfl rfl ?_
        refine p_getI e_M_atom1_103 sh_154 fl_M_151 rfl ?_
        refine g_iconst (2 : Int32) e_M_atom1_106 (by decide) ?_
        refine g_icmp_ne (tgt := 123) e_M_atom1_107 rfl (fun c23 => ?_) (fun c23 => ?_)
        · replace h := iteF h c23
          exact g_sub [1, 0] rfl h
        · replace h := iteT h c23
          refine g_aload_n 1 e_M_atom1_110 rfl rfl ?_
          refine p_getJ e_M_atom1_111 sh_154 fl_M_162 rfl ?_
          refine g_l2i e_M_atom1_114 ?_
          refine g_istore_n (L' := [(1, .int (((v10).2.1 154 27).toInt32)), (0, .ref (154))]) e_M_atom1_115 rfl (by decide) rfl ?_
          refine g_aload_n 1 e_M_atom1_116 rfl rfl ?_
          refine p_callVV (d' := 2) (ci := 10) (r := (RX10, TX10, 49)) (As := []) (rest := []) e_M_atom1_117 zm_M_next lV_M_185 sh_154 rfl rfl rfl rfl (Nat.le_of_ble_eq_true rfl) (by decide) ?_
          refine cp_mono h (fun _ v25 ⟨e1, h⟩ => ⟨e1, ?_⟩)
          refine g_goto (tgt := 161) e_M_atom1_120 rfl ?_
          refine g_iload_n 0 e_M_atom1_161 rfl rfl ?_
          exact p_retI e_M_atom1_162.1 rfl h
    · replace h := iteT h c11
      refine g_aload_n 1 e_M_atom1_46 rfl rfl ?_
      refine p_callVZ (d' := 3) (ci := 10) (r := (RX10, TX10, 49)) (As := []) (rest := []) e_M_atom1_47 zm_M_opens lV_M_213 sh_154 rfl rfl rfl rfl (Nat.le_of_ble_eq_true rfl) (by decide) ?_
      refine cp_mono h (fun _ v13 ⟨x12, e1, h⟩ => ⟨x12, e1, ?_⟩)
      refine p_ifz_eq (tgt := 161) e_M_atom1_50 rfl (fun c14 => ?_) (fun c14 => ?_)
      · replace h := iteF h c14
        refine g_iload_n 0 e_M_atom1_161 rfl rfl ?_
        exact p_retI e_M_atom1_162.1 rfl h
      · replace h := iteT h c14
        refine g_aload_n 1 e_M_atom1_53 rfl rfl ?_
        refine p_callVI (d' := 28) (ci := 10) (r := (RX10, TX10, 49)) (As := []) (rest := []) e_M_atom1_54 zm_M_either2 lV_M_294 sh_154 rfl rfl rfl rfl (Nat.le_of_ble_eq_true rfl) (by decide) ?_
        refine cp_mono h (fun _ v16 ⟨x15, e1, h⟩ => ⟨x15, e1, ?_⟩)
        refine g_istore_n (L' := [(1, .int (x15)), (0, .ref (154))]) e_M_atom1_57 rfl (by decide) rfl ?_
        refine g_aload_n 1 e_M_atom1_58 rfl rfl ?_
        refine g_bipush (41 : Int32) e_M_atom1_59 (by decide) ?_
        refine p_callVZ (d' := 1) (ci := 10) (r := (RX10, TX10, 49)) (As := [.int ((41 : Int32))]) (rest := []) e_M_atom1_61 zm_M_isSign lV_M_210 sh_154 rfl rfl rfl rfl (Nat.le_of_ble_eq_true rfl) (by decide) ?_
        refine cp_mono h (fun _ v18 ⟨x17, e1, h⟩ => ⟨x17, e1, ?_⟩)
        refine p_ifz_ne (tgt := 71) e_M_atom1_64 rfl (fun c19 => ?_) (fun c19 => ?_)
        · replace h := iteT h c19
          exact g_sub [1, 0] rfl h
        · replace h := iteF h c19
          refine g_aload_n 1 e_M_atom1_67 rfl rfl ?_
          refine p_callVV (d' := 1) (ci := 10) (r := (RX10, TX10, 49)) (As := []) (rest := []) e_M_atom1_68 zm_M_fail lV_M_182 sh_154 rfl rfl rfl rfl (Nat.le_of_ble_eq_true rfl) (by decide) ?_
          refine cp_mono h (fun _ v21 ⟨e1, h⟩ => ⟨e1, ?_⟩)
          exact g_sub [1, 0] rfl h
  · replace h := iteT h c3
    refine g_aload_n 1 e_M_atom1_11 rfl rfl ?_
    refine p_callVZ (d' := 3) (ci := 10) (r := (RX10, TX10, 49)) (As := []) (rest := []) e_M_atom1_12 zm_M_opens lV_M_213 sh_154 rfl rfl rfl rfl (Nat.le_of_ble_eq_true rfl) (by decide) ?_
    refine cp_mono h (fun _ v5 ⟨x4, e1, h⟩ => ⟨x4, e1, ?_⟩)
    refine p_ifz_eq (tgt := 161) e_M_atom1_15 rfl (fun c6 => ?_) (fun c6 => ?_)
    · replace h := iteF h c6
      refine g_iload_n 0 e_M_atom1_161 rfl rfl ?_
      exact p_retI e_M_atom1_162.1 rfl h
    · replace h := iteT h c6
      refine g_aload_n 1 e_M_atom1_18 rfl rfl ?_
      refine p_callVI (d' := 23) (ci := 10) (r := (RX10, TX10, 49)) (As := []) (rest := []) e_M_atom1_19 zm_M_atom2 lV_M_279 sh_154 rfl rfl rfl rfl (Nat.le_of_ble_eq_true rfl) (by decide) ?_
      refine cp_mono h (fun _ v8 ⟨x7, e1, h⟩ => ⟨x7, e1, ?_⟩)
      refine g_ineg e_M_atom1_22 ?_
      refine g_istore_n (L' := [(1, .int ((-x7))), (0, .ref (154))]) e_M_atom1_23 rfl (by decide) rfl ?_
      refine g_aload_n 1 e_M_atom1_24 rfl rfl ?_
      refine g_dup e_M_atom1_25 rfl ?_
      refine p_getI e_M_atom1_26 sh_154 fl_M_179 rfl ?_
      refine g_iconst (1 : Int32) e_M_atom1_29 (by decide) ?_
      refine g_isub e_M_atom1_30 ?_
      refine p_putI e_M_atom1_31 sh_154 fp_M_179 rfl rfl rfl ?_
      refine g_goto (tgt := 161) e_M_atom1_34 rfl ?_
      refine g_iload_n 0 e_M_atom1_161 rfl rfl ?_
      exact p_retI e_M_atom1_162.1 rfl h
set_option maxHeartbeats 1000000 in
theorem s_M_atom1_71 {l1 : Int32} {v : Vv} {Q : Int32 → Vv → Prop} (h : if (sI (v) 154 28 ((v).1 154 28 - (1 : Int32))).1 154 29 = (0 : Int32) then (m_M_next  (sI (v) 154 28 ((v).1 154 28 - (1 : Int32))) (fun v28 => Q (l1) (v28))) else (Q (l1) (sI (v) 154 28 ((v).1 154 28 - (1 : Int32))))) : k_M_atom1_71 l1 v Q := by
  show Gp 29 M_M_atom1 71 [(0, .ref (154)), (1, .int (l1))] [] v (QI Q)
  refine g_aload_n 0 e_M_atom1_71 rfl rfl ?_
  refine g_dup e_M_atom1_72 rfl ?_
  refine p_getI e_M_atom1_73 sh_154 fl_M_179 rfl ?_
  refine g_iconst (1 : Int32) e_M_atom1_76 (by decide) ?_
  refine g_isub e_M_atom1_77 ?_
  refine p_putI e_M_atom1_78 sh_154 fp_M_179 rfl rfl rfl ?_
  refine g_aload_n 0 e_M_atom1_81 rfl rfl ?_
  refine p_getI e_M_atom1_82 sh_154 fl_M_168 rfl ?_
  refine g_if_ne (tgt := 161) e_M_atom1_85 rfl (fun c26 => ?_) (fun c26 => ?_)
  · replace h := iteF h c26
    refine g_iload_n 1 e_M_atom1_161 rfl rfl ?_
    exact p_retI e_M_atom1_162.1 rfl h
  · replace h := iteT h c26
    refine g_aload_n 0 e_M_atom1_88 rfl rfl ?_
    refine p_callVV (d' := 2) (ci := 10) (r := (RX10, TX10, 49)) (As := []) (rest := []) e_M_atom1_89 zm_M_next lV_M_185 sh_154 rfl rfl rfl rfl (Nat.le_of_ble_eq_true rfl) (by decide) ?_
    refine cp_mono h (fun _ v28 ⟨e1, h⟩ => ⟨e1, ?_⟩)
    refine g_goto (tgt := 161) e_M_atom1_92 rfl ?_
    refine g_iload_n 1 e_M_atom1_161 rfl rfl ?_
    exact p_retI e_M_atom1_162.1 rfl h
set_option maxHeartbeats 1000000 in
theorem s_M_atom1_123 {l1 : Int32} {v : Vv} {Q : Int32 → Vv → Prop} (h : if (v).1 154 29 = (0 : Int32) then (if (v).1 154 25 = (1 : Int32) then (m_M_name  (v) (fun x31 v32 => if (v32).1 154 29 = (0 : Int32) then (m_M_next  (v32) (fun v35 => Q (x31) (v35))) else (Q (x31) (v32)))) else (k_M_atom1_157 (l1) (v) Q)) else (k_M_atom1_157 (l1) (v) Q)) : k_M_atom1_123 l1 v Q := by
  show Gp 29 M_M_atom1 123 [(0, .ref (154)), (1, .int (l1))] [] v (QI Q)
  refine g_aload_n 0 e_M_atom1_123 rfl rfl ?_
  refine p_getI e_M_atom1_124 sh_154 fl_M_168 rfl ?_
  refine g_if_ne (tgt := 157) e_M_atom1_127 rfl (fun c29 => ?_) (fun c29 => ?_)
  · replace h := iteF h c29
    exact g_sub [0, 1] rfl h
  · replace h := iteT h c29
    refine g_aload_n 0 e_M_atom1_130 rfl rfl ?_
    refine p_getI e_M_atom1_131 sh_154 fl_M_151 rfl ?_
    refine g_iconst (1 : Int32) e_M_atom1_134 (by decide) ?_
    refine g_icmp_ne (tgt := 157) e_M_atom1_135 rfl (fun c30 => ?_) (fun c30 => ?_)
    · replace h := iteF h c30
      exact g_sub [0, 1] rfl h
    · replace h := iteT h c30
      refine g_aload_n 0 e_M_atom1_138 rfl rfl ?_
      refine p_callVI (d' := 4) (ci := 10) (r := (RX10, TX10, 49)) (As := []) (rest := []) e_M_atom1_139 zm_M_name lV_M_217 sh_154 rfl rfl rfl rfl (Nat.le_of_ble_eq_true rfl) (by decide) ?_
      refine cp_mono h (fun _ v32 ⟨x31, e1, h⟩ => ⟨x31, e1, ?_⟩)
      refine g_istore_n (L' := [(1, .int (x31)), (0, .ref (154))]) e_M_atom1_142 rfl (by decide) rfl ?_
      refine g_aload_n 1 e_M_atom1_143 rfl rfl ?_
      refine p_getI e_M_atom1_144 sh_154 fl_M_168 rfl ?_
      refine g_if_ne (tgt := 161) e_M_atom1_147 rfl (fun c33 => ?_) (fun c33 => ?_)
      · replace h := iteF h c33
        refine g_iload_n 0 e_M_atom1_161 rfl rfl ?_
        exact p_retI e_M_atom1_162.1 rfl h
      · replace h := iteT h c33
        refine g_aload_n 1 e_M_atom1_150 rfl rfl ?_
        refine p_callVV (d' := 2) (ci := 10) (r := (RX10, TX10, 49)) (As := []) (rest := []) e_M_atom1_151 zm_M_next lV_M_185 sh_154 rfl rfl rfl rfl (Nat.le_of_ble_eq_true rfl) (by decide) ?_
        refine cp_mono h (fun _ v35 ⟨e1, h⟩ => ⟨e1, ?_⟩)
        refine g_goto (tgt := 161) e_M_atom1_154 rfl ?_
        refine g_iload_n 0 e_M_atom1_161 rfl rfl ?_
        exact p_retI e_M_atom1_162.1 rfl h
set_option maxHeartbeats 1000000 in
theorem s_M_atom1_157 {l1 : Int32} {v : Vv} {Q : Int32 → Vv → Prop} (h : m_M_fail  (v) (fun v37 => Q (l1) (v37))) : k_M_atom1_157 l1 v Q := by
  show Gp 29 M_M_atom1 157 [(0, .ref (154)), (1, .int (l1))] [] v (QI Q)
  refine g_aload_n 0 e_M_atom1_157 rfl rfl ?_
  refine p_callVV (d' := 1) (ci := 10) (r := (RX10, TX10, 49)) (As := []) (rest := []) e_M_atom1_158 zm_M_fail lV_M_182 sh_154 rfl rfl rfl rfl (Nat.le_of_ble_eq_true rfl) (by decide) ?_
  refine cp_mono h (fun _ v37 ⟨e1, h⟩ => ⟨e1, ?_⟩)
  refine g_iload_n 1 e_M_atom1_161 rfl rfl ?_
  exact p_retI e_M_atom1_162.1 rfl h
set_option maxHeartbeats 1000000 in
theorem s_M_term1  {v : Vv} {Q : Int32 → Vv → Prop} (h : m_M_atom1  (v) (fun x1 v2 => k_M_term1_5 (x1) (v2) Q)) : m_M_term1  v Q := by
  refine cp_go (Nat.le_of_ble_eq_true rfl) (by decide +kernel) ?_
  show Gp 30 M_M_term1 0 [(0, .ref (154))] [] v (QI Q)
  refine g_aload_n 0 e_M_term1_0 rfl rfl ?_
  refine p_callVI (d' := 29) (ci := 10) (r := (RX10, TX10, 49)) (As := []) (rest := []) e_M_term1_1 zm_M_atom1 lV_M_297 sh_154 rfl rfl rfl rfl (Nat.le_of_ble_eq_true rfl) (by decide) ?_
  refine cp_mono h (fun _ v2 ⟨x1, e1, h⟩ => ⟨x1, e1, ?_⟩)
  refine g_istore_n (L' := [(1, .int (x1)), (0, .ref (154))]) e_M_term1_4 rfl (by decide) rfl ?_
  exact g_sub [1, 0] rfl h
set_option maxHeartbeats 1000000 in
theorem s_M_term1_5 {l1 : Int32} {v : Vv} {Q : Int32 → Vv → Prop} (h : m_M_isSign (42 : Int32) (v) (fun x3 v4 => if x3 = true then (m_M_next  (v4) (fun v7 => m_M_atom1  (v7) (fun x8 v9 => k_M_term1_5 ((l1 * x8)) (v9) Q))) else (Q (l1) (v4)))) : k_M_term1_5 l1 v Q := by
  show Gp 30 M_M_term1 5 [(0, .ref (154)), (1, .int (l1))] [] v (QI Q)
  refine g_aload_n 0 e_M_term1_5 rfl rfl ?_
  refine g_bipush (42 : Int32) e_M_term1_6 (by decide) ?_
  refine p_callVZ (d' := 1) (ci := 10) (r := (RX10, TX10, 49)) (As := [.int ((42 : Int32))]) (rest := []) e_M_term1_8 zm_M_isSign lV_M_210 sh_154 rfl rfl rfl rfl (Nat.le_of_ble_eq_true rfl) (by decide) ?_
  refine cp_mono h (fun _ v4 ⟨x3, e1, h⟩ => ⟨x3, e1, ?_⟩)
  refine p_ifz_eq (tgt := 28) e_M_term1_11 rfl (fun c5 => ?_) (fun c5 => ?_)
  · replace h := iteF h c5
    refine g_iload_n 1 e_M_term1_28 rfl rfl ?_
    exact p_retI e_M_term1_29.1 rfl h
  · replace h := iteT h c5
    refine g_aload_n 0 e_M_term1_14 rfl rfl ?_
    refine p_callVV (d' := 2) (ci := 10) (r := (RX10, TX10, 49)) (As := []) (rest := []) e_M_term1_15 zm_M_next lV_M_185 sh_154 rfl rfl rfl rfl (Nat.le_of_ble_eq_true rfl) (by decide) ?_
    refine cp_mono h (fun _ v7 ⟨e1, h⟩ => ⟨e1, ?_⟩)
    refine g_iload_n 1 e_M_term1_18 rfl rfl ?_
    refine g_aload_n 0 e_M_term1_19 rfl rfl ?_
    refine p_callVI (d' := 29) (ci := 10) (r := (RX10, TX10, 49)) (As := []) (rest := [.int (l1)]) e_M_term1_20 zm_M_atom1 lV_M_297 sh_154 rfl rfl rfl rfl (Nat.le_of_ble_eq_true rfl) (by decide) ?_
    refine cp_mono h (fun _ v9 ⟨x8, e1, h⟩ => ⟨x8, e1, ?_⟩)
    refine g_imul e_M_term1_23 ?_
    refine g_istore_n (L' := [(1, .int ((l1 * x8))), (0, .ref (154))]) e_M_term1_24 rfl (by decide) rfl ?_
    refine g_goto (tgt := 5) e_M_term1_25 rfl ?_
    exact g_sub [1, 0] rfl h
set_option maxHeartbeats 1000000 in
theorem s_M_added1  {v : Vv} {Q : Int32 → Vv → Prop} (h : m_M_term1  (v) (fun x1 v2 => k_M_added1_5 (x1) (v2) Q)) : m_M_added1  v Q := by
  refine cp_go (Nat.le_of_ble_eq_true rfl) (by decide +kernel) ?_
  show Gp 31 M_M_added1 0 [(0, .ref (154))] [] v (QI Q)
  refine g_aload_n 0 e_M_added1_0 rfl rfl ?_
  refine p_callVI (d' := 30) (ci := 10) (r := (RX10, TX10, 49)) (As := []) (rest := []) e_M_added1_1 zm_M_term1 lV_M_300 sh_154 rfl rfl rfl rfl (Nat.le_of_ble_eq_true rfl) (by decide) ?_
  refine cp_mono h (fun _ v2 ⟨x1, e1, h⟩ => ⟨x1, e1, ?_⟩)
  refine g_istore_n (L' := [(1, .int (x1)), (0, .ref (154))]) e_M_added1_4 rfl (by decide) rfl ?_
  exact g_sub [1, 0] rfl h
set_option maxHeartbeats 1000000 in
theorem s_M_added1_5 {l1 : Int32} {v : Vv} {Q : Int32 → Vv → Prop} (h : m_M_isSign (43 : Int32) (v) (fun x3 v4 => if x3 = true then (k_M_added1_23 (l1) (v4) Q) else (m_M_isSign (45 : Int32) (v4) (fun x6 v7 => if x6 = true then (k_M_added1_23 (l1) (v7) Q) else (Q (l1) (v7)))))) : k_M_added1_5 l1 v Q := by
  show Gp 31 M_M_added1 5 [(0, .ref (154)), (1, .int (l1))] [] v (QI Q)
  refine g_aload_n 0 e_M_added1_5 rfl rfl ?_
  refine g_bipush (43 : Int32) e_M_added1_6 (by decide) ?_
  refine p_callVZ (d' := 1) (ci := 10) (r := (RX10, TX10, 49)) (As := [.int ((43 : Int32))]) (rest := []) e_M_added1_8 zm_M_isSign lV_M_210 sh_154 rfl rfl rfl rfl (Nat.le_of_ble_eq_true rfl) (by decide) ?_
  refine cp_mono h (fun _ v4 ⟨x3, e1, h⟩ => ⟨x3, e1, ?_⟩)
  refine p_ifz_ne (tgt := 23) e_M_added1_11 rfl (fun c5 => ?_) (fun c5 => ?_)
  · replace h := iteT h c5
    exact g_sub [0, 1] rfl h
  · replace h := iteF h c5
    refine g_aload_n 0 e_M_added1_14 rfl rfl ?_
    refine g_bipush (45 : Int32) e_M_added1_15 (by decide) ?_
    refine p_callVZ (d' := 1) (ci := 10) (r := (RX10, TX10, 49)) (As := [.int ((45 : Int32))]) (rest := []) e_M_added1_17 zm_M_isSign lV_M_210 sh_154 rfl rfl rfl rfl (Nat.le_of_ble_eq_true rfl) (by decide) ?_
    refine cp_mono h (fun _ v7 ⟨x6, e1, h⟩ => ⟨x6, e1, ?_⟩)
    refine p_ifz_eq (tgt := 66) e_M_added1_20 rfl (fun c8 => ?_) (fun c8 => ?_)
    · replace h := iteF h c8
      refine g_iload_n 1 e_M_added1_66 rfl rfl ?_
      exact p_retI e_M_added1_67.1 rfl h
    · replace h := iteT h c8
      exact g_sub [0, 1] rfl h
set_option maxHeartbeats 1000000 in
theorem s_M_added1_23 {l1 : Int32} {v : Vv} {Q : Int32 → Vv → Prop} (h : if (v).2.1 154 27 = (43 : Int64) then (k_M_added1_39 (l1) ((1 : Int32)) (v) Q) else (k_M_added1_39 (l1) ((0 : Int32)) (v) Q)) : k_M_added1_23 l1 v Q := by
  show Gp 31 M_M_added1 23 [(0, .ref (154)), (1, .int (l1))] [] v (QI Q)
  refine g_aload_n 0 e_M_added1_23 rfl rfl ?_
  refine p_getJ e_M_added1_24 sh_154 fl_M_162 rfl ?_
  refine g_ldc2 (v := (43 : Int64)) (hd := e_M_added1_27) cl_M_227 ?_
  refine g_l_ne (tgt := 38) e_M_added1_30 e_M_added1_31 rfl (fun c9 => ?_) (fun c9 => ?_)
  · replace h := iteF h c9
    refine g_iconst (0 : Int32) e_M_added1_38 (by decide) ?_
    exact g_sub [0, 1] rfl h
  · replace h := iteT h c9
    refine g_iconst (1 : Int32) e_M_added1_34 (by decide) ?_
    refine g_goto (tgt := 39) e_M_added1_35 rfl ?_
    exact g_sub [0, 1] rfl h
set_option maxHeartbeats 1000000 in
theorem s_M_added1_39 {l1 : Int32} {t0 : Int32} {v : Vv} {Q : Int32 → Vv → Prop} (h : m_M_next  (v) (fun v11 => m_M_term1  (v11) (fun x12 v13 => k_M_added1_5 ((if t0 = (0 : Int32) then (l1 - x12) else (l1 + x12))) (v13) Q))) : k_M_added1_39 l1 t0 v Q := by
  show Gp 31 M_M_added1 39 [(0, .ref (154)), (1, .int (l1))] [.int (t0)] v (QI Q)
  refine g_istore_n (L' := [(2, .int (t0)), (0, .ref (154)), (1, .int (l1))]) e_M_added1_39 rfl (by decide) rfl ?_
  refine g_aload_n 1 e_M_added1_40 rfl rfl ?_
  refine p_callVV (d' := 2) (ci := 10) (r := (RX10, TX10, 49)) (As := []) (rest := []) e_M_added1_41 zm_M_next lV_M_185 sh_154 rfl rfl rfl rfl (Nat.le_of_ble_eq_true rfl) (by decide) ?_
  refine cp_mono h (fun _ v11 ⟨e1, h⟩ => ⟨e1, ?_⟩)
  refine g_aload_n 1 e_M_added1_44 rfl rfl ?_
  refine p_callVI (d' := 30) (ci := 10) (r := (RX10, TX10, 49)) (As := []) (rest := []) e_M_added1_45 zm_M_term1 lV_M_300 sh_154 rfl rfl rfl rfl (Nat.le_of_ble_eq_true rfl) (by decide) ?_
  refine cp_mono h (fun _ v13 ⟨x12, e1, h⟩ => ⟨x12, e1, ?_⟩)
  refine g_istore_n (L' := [(3, .int (x12)), (2, .int (t0)), (0, .ref (154)), (1, .int (l1))]) e_M_added1_48 rfl (by decide) rfl ?_
  refine g_iload_n 1 e_M_added1_49 rfl rfl ?_
  have hj : ∀ m0 : Int32, m0 = (if t0 = (0 : Int32) then (l1 - x12) else (l1 + x12)) → Gp 31 M_M_added1 62 [(0, .ref (154)), (1, .int (l1)), (2, .int (t0)), (3, .int (x12))] [.int (m0)] (v13) (QI Q) := by
    intro m0 hm0
    subst hm0
    refine g_istore_n (L' := [(1, .int ((if t0 = (0 : Int32) then (l1 - x12) else (l1 + x12)))), (0, .ref (154)), (2, .int (t0)), (3, .int (x12))]) e_M_added1_62 rfl (by decide) rfl ?_
    refine g_goto (tgt := 5) e_M_added1_63 rfl ?_
    exact g_sub [1, 0] rfl h
  refine g_if_eq (tgt := 59) e_M_added1_50 rfl (fun c14 => ?_) (fun c14 => ?_)
  · refine g_iload_n 3 e_M_added1_59 rfl rfl ?_
    refine g_iload_n 0 e_M_added1_60 rfl rfl ?_
    refine g_isub e_M_added1_61 ?_
    refine g_sub [2, 3, 1, 0] rfl ?_
    exact hj ((l1 - x12)) (by simp only [if_pos c14])
  · refine g_iload_n 3 e_M_added1_53 rfl rfl ?_
    refine g_iload_n 0 e_M_added1_54 rfl rfl ?_
    refine g_iadd e_M_added1_55 ?_
    refine g_goto (tgt := 62) e_M_added1_56 rfl ?_
    refine g_sub [2, 3, 1, 0] rfl ?_
    exact hj ((l1 + x12)) (by simp only [if_neg c14])
set_option maxHeartbeats 1000000 in
theorem s_M_not1  {v : Vv} {Q : Int32 → Vv → Prop} (h : m_M_isWord (110 : Int32) (111 : Int32) (116 : Int32) (0 : Int32) (0 : Int32) (0 : Int32) (0 : Int32) (0 : Int32) (v) (fun x1 v2 => if x1 = true then (m_M_opens  (v2) (fun x4 v5 => if x4 = true then (m_M_not2  (v5) (fun x7 v8 => Q (bI ((if x7 = (0 : Int32) then true else false))) (sI (v8) 154 28 ((v8).1 154 28 - (1 : Int32))))) else (Q ((0 : Int32)) (v5)))) else (m_M_added1  (v2) (fun x10 v11 => m_M_isSign (60 : Int32) (v11) (fun x12 v13 => if x12 = true then (k_M_not1_77 (x10) (v13) Q) else (m_M_isSign (61 : Int32) (v13) (fun x15 v16 => if x15 = true then (k_M_not1_77 (x10) (v16) Q) else (Q (x10) (v16))))))))) : m_M_not1  v Q := by
  refine cp_go (Nat.le_of_ble_eq_true rfl) (by decide +kernel) ?_
  show Gp 32 M_M_not1 0 [(0, .ref (154))] [] v (QI Q)
  refine g_aload_n 0 e_M_not1_0 rfl rfl ?_
  refine g_bipush (110 : Int32) e_M_not1_1 (by decide) ?_
  refine g_bipush (111 : Int32) e_M_not1_3 (by decide) ?_
  refine g_bipush (116 : Int32) e_M_not1_5 (by decide) ?_
  refine g_iconst (0 : Int32) e_M_not1_7 (by decide) ?_
  refine g_iconst (0 : Int32) e_M_not1_8 (by decide) ?_
  refine g_iconst (0 : Int32) e_M_not1_9 (by decide) ?_
  refine g_iconst (0 : Int32) e_M_not1_10 (by decide) ?_
  refine g_iconst (0 : Int32) e_M_not1_11 (by decide) ?_
  refine p_callVZ (d' := 3) (ci := 10) (r := (RX10, TX10, 49)) (As := [.int ((110 : Int32)), .int ((111 : Int32)), .int ((116 : Int32)), .int ((0 : Int32)), .int ((0 : Int32)), .int ((0 : Int32)), .int ((0 : Int32)), .int ((0 : Int32))]) (rest := []) e_M_not1_12 zm_M_isWord lV_M_188 sh_154 rfl rfl rfl rfl (Nat.le_of_ble_eq_true rfl) (by decide) ?_
  refine cp_mono h (fun _ v2 ⟨x1, e1, h⟩ => ⟨x1, e1, ?_⟩)
  refine p_ifz_eq (tgt := 52) e_M_not1_15 rfl (fun c3 => ?_) (fun c3 => ?_)
  · replace h := iteF h c3
    refine g_aload_n 0 e_M_not1_52 rfl rfl ?_
    refine p_callVI (d' := 31) (ci := 10) (r := (RX10, TX10, 49)) (As := []) (rest := []) e_M_not1_53 zm_M_added1 lV_M_303 sh_154 rfl rfl rfl rfl (Nat.le_of_ble_eq_true rfl) (by decide) ?_
    refine cp_mono h (fun _ v11 ⟨x10, e1, h⟩ => ⟨x10, e1, ?_⟩)
    refine g_istore_n (L' := [(1, .int (x10)), (0, .ref (154))]) e_M_not1_56 rfl (by decide) rfl ?_
    refine g_aload_n 1 e_M_not1_57 rfl rfl ?_
    refine g_bipush (60 : Int32) e_M_not1_58 (by decide) ?_
    refine p_callVZ (d' := 1) (ci := 10) (r := (RX10, TX10, 49)) (As := [.int ((60 : Int32))]) (rest := []) e_M_not1_60 zm_M_isSign lV_M_210 sh_154 rfl rfl rfl rfl (Nat.le_of_ble_eq_true rfl) (by decide) ?_
    refine cp_mono h (fun _ v13 ⟨x12, e1, h⟩ => ⟨x12, e1, ?_⟩)
    refine p_ifz_ne (tgt := 77) e_M_not1_63 rfl (fun c14 => ?_) (fun c14 => ?_)
    · replace h := iteT h c14
      exact g_sub [1, 0] rfl h
    · replace h := iteF h c14
      refine g_aload_n 1 e_M_not1_66 rfl rfl ?_
      refine g_bipush (61 : Int32) e_M_not1_67 (by decide) ?_
      refine p_callVZ (d' := 1) (ci := 10) (r := (RX10, TX10, 49)) (As := [.int ((61 : Int32))]) (rest := []) e_M_not1_69 zm_M_isSign lV_M_210 sh_154 rfl rfl rfl rfl (Nat.le_of_ble_eq_true rfl) (by decide) ?_
      refine cp_mono h (fun _ v16 ⟨x15, e1, h⟩ => ⟨x15, e1, ?_⟩)
      refine p_ifz_ne (tgt := 77) e_M_not1_72 rfl (fun c17 => ?_) (fun c17 => ?_)
      · replace h := iteT h c17
        exact g_sub [1, 0] rfl h
      · replace h := iteF h c17
        refine g_iload_n 0 e_M_not1_75 rfl rfl ?_
        exact p_retI e_M_not1_76.1 rfl h
  · replace h := iteT h c3
    refine g_aload_n 0 e_M_not1_18 rfl rfl ?_
    refine p_callVZ (d' := 3) (ci := 10) (r := (RX10, TX10, 49)) (As := []) (rest := []) e_M_not1_19 zm_M_opens lV_M_213 sh_154 rfl rfl rfl rfl (Nat.le_of_ble_eq_true rfl) (by decide) ?_
    refine cp_mono h (fun _ v5 ⟨x4, e1, h⟩ => ⟨x4, e1, ?_⟩)
    refine p_ifz_ne (tgt := 27) e_M_not1_22 rfl (fun c6 => ?_) (fun c6 => ?_)
    · replace h := iteT h c6
      refine g_aload_n 0 e_M_not1_27 rfl rfl ?_
      refine p_callVI (d' := 26) (ci := 10) (r := (RX10, TX10, 49)) (As := []) (rest := []) e_M_not1_28 zm_M_not2 lV_M_288 sh_154 rfl rfl rfl rfl (Nat.le_of_ble_eq_true rfl) (by decide) ?_
      refine cp_mono h (fun _ v8 ⟨x7, e1, h⟩ => ⟨x7, e1, ?_⟩)
      refine g_istore_n (L' := [(1, .int (x7)), (0, .ref (154))]) e_M_not1_31 rfl (by decide) rfl ?_
      refine g_aload_n 1 e_M_not1_32 rfl rfl ?_
      refine g_dup e_M_not1_33 rfl ?_
      refine p_getI e_M_not1_34 sh_154 fl_M_179 rfl ?_
      refine g_iconst (1 : Int32) e_M_not1_37 (by decide) ?_
      refine g_isub e_M_not1_38 ?_
      refine p_putI e_M_not1_39 sh_154 fp_M_179 rfl rfl rfl ?_
      refine g_iload_n 0 e_M_not1_42 rfl rfl ?_
      have hj : ∀ m0 : Bool, m0 = (if x7 = (0 : Int32) then true else false) → Gp 32 M_M_not1 51 [(0, .ref (154)), (1, .int (x7))] [.int (bI (m0))] (sI (v8) 154 28 ((v8).1 154 28 - (1 : Int32))) (QI Q) := by
        intro m0 hm0
        subst hm0
        exact p_retI e_M_not1_51.1 rfl h
      refine g_if_ne (tgt := 50) e_M_not1_43 rfl (fun c9 => ?_) (fun c9 => ?_)
      · refine g_iconst (0 : Int32) e_M_not1_50 (by decide) ?_
        refine g_sub [1, 0] rfl ?_
        exact hj (false) (by simp only [if_neg c9])
      · refine g_iconst (1 : Int32) e_M_not1_46 (by decide) ?_
        refine g_goto (tgt := 51) e_M_not1_47 rfl ?_
        refine g_sub [1, 0] rfl ?_
        exact hj (true) (by simp only [if_pos c9])
    · replace h := iteF h c6
      refine g_iconst (0 : Int32) e_M_not1_25 (by decide) ?_
      exact p_retI e_M_not1_26.1 rfl h
set_option maxHeartbeats 1000000 in
theorem s_M_not1_77 {l1 : Int32} {v : Vv} {Q : Int32 → Vv → Prop} (h : if (v).2.1 154 27 = (60 : Int64) then (k_M_not1_93 (l1) ((1 : Int32)) (v) Q) else (k_M_not1_93 (l1) ((0 : Int32)) (v) Q)) : k_M_not1_77 l1 v Q := by
  show Gp 32 M_M_not1 77 [(0, .ref (154)), (1, .int (l1))] [] v (QI Q)
  refine g_aload_n 0 e_M_not1_77 rfl rfl ?_
  refine p_getJ e_M_not1_78 sh_154 fl_M_162 rfl ?_
  refine g_ldc2 (v := (60 : Int64)) (hd := e_M_not1_81) cl_M_232 ?_
  refine g_l_ne (tgt := 92) e_M_not1_84 e_M_not1_85 rfl (fun c18 => ?_) (fun c18 => ?_)
  · replace h := iteF h c18
    refine g_iconst (0 : Int32) e_M_not1_92 (by decide) ?_
    exact g_sub [0, 1] rfl h
  · replace h := iteT h c18
    refine g_iconst (1 : Int32) e_M_not1_88 (by decide) ?_
    refine g_goto (tgt := 93) e_M_not1_89 rfl ?_
    exact g_sub [0, 1] rfl h
set_option maxHeartbeats 1000000 in
theorem s_M_not1_93 {l1 : Int32} {t0 : Int32} {v : Vv} {Q : Int32 → Vv → Prop} (h : m_M_next  (v) (fun v20 => m_M_added1  (v20) (fun x21 v22 => Q (bI ((if t0 = (0 : Int32) then (if l1 = x21 then true else false) else (if l1 < x21 then true else false)))) (v22)))) : k_M_not1_93 l1 t0 v Q := by
  show Gp 32 M_M_not1 93 [(0, .ref (154)), (1, .int (l1))] [.int (t0)] v (QI Q)
  refine g_istore_n (L' := [(2, .int (t0)), (0, .ref (154)), (1, .int (l1))]) e_M_not1_93 rfl (by decide) rfl ?_
  refine g_aload_n 1 e_M_not1_94 rfl rfl ?_
  refine p_callVV (d' := 2) (ci := 10) (r := (RX10, TX10, 49)) (As := []) (rest := []) e_M_not1_95 zm_M_next lV_M_185 sh_154 rfl rfl rfl rfl (Nat.le_of_ble_eq_true rfl) (by decide) ?_
  refine cp_mono h (fun _ v20 ⟨e1, h⟩ => ⟨e1, ?_⟩)
  refine g_aload_n 1 e_M_not1_98 rfl rfl ?_
  refine p_callVI (d' := 31) (ci := 10) (r := (RX10, TX10, 49)) (As := []) (rest := []) e_M_not1_99 zm_M_added1 lV_M_303 sh_154 rfl rfl rfl rfl (Nat.le_of_ble_eq_true rfl) (by decide) ?_
  refine cp_mono h (fun _ v22 ⟨x21, e1, h⟩ => ⟨x21, e1, ?_⟩)
  refine g_istore_n (L' := [(3, .int (x21)), (2, .int (t0)), (0, .ref (154)), (1, .int (l1))]) e_M_not1_102 rfl (by decide) rfl ?_
  refine g_iload_n 1 e_M_not1_103 rfl rfl ?_
  have hj : ∀ m0 : Bool, m0 = (if t0 = (0 : Int32) then (if l1 = x21 then true else false) else (if l1 < x21 then true else false)) → Gp 32 M_M_not1 125 [(0, .ref (154)), (1, .int (l1)), (2, .int (t0)), (3, .int (x21))] [.int (bI (m0))] (v22) (QI Q) := by
    intro m0 hm0
    subst hm0
    exact p_retI e_M_not1_125.1 rfl h
  refine g_if_eq (tgt := 115) e_M_not1_104 rfl (fun c23 => ?_) (fun c23 => ?_)
  · refine g_iload_n 3 e_M_not1_115 rfl rfl ?_
    refine g_iload_n 0 e_M_not1_116 rfl rfl ?_
    refine g_icmp_ne (tgt := 124) e_M_not1_117 rfl (fun c24 => ?_) (fun c24 => ?_)
    · refine g_iconst (0 : Int32) e_M_not1_124 (by decide) ?_
      refine g_sub [2, 3, 1, 0] rfl ?_
      exact hj (false) (by simp only [if_pos c23, if_neg c24])
    · refine g_iconst (1 : Int32) e_M_not1_120 (by decide) ?_
      refine g_goto (tgt := 125) e_M_not1_121 rfl ?_
      refine g_sub [2, 3, 1, 0] rfl ?_
      exact hj (true) (by simp only [if_pos c23, if_pos c24])
  · refine g_iload_n 3 e_M_not1_107 rfl rfl ?_
    refine g_iload_n 0 e_M_not1_108 rfl rfl ?_
    refine g_icmp_ge (tgt := 124) e_M_not1_109 rfl (fun c25 => ?_) (fun c25 => ?_)
    · refine g_iconst (0 : Int32) e_M_not1_124 (by decide) ?_
      refine g_sub [2, 3, 1, 0] rfl ?_
      exact hj (false) (by simp only [if_neg c23, if_neg c25])
    · refine g_goto (tgt := 120) e_M_not1_112 rfl ?_
      refine g_iconst (1 : Int32) e_M_not1_120 (by decide) ?_
      refine g_goto (tgt := 125) e_M_not1_121 rfl ?_
      refine g_sub [2, 3, 1, 0] rfl ?_
      exact hj (true) (by simp only [if_neg c23, if_pos c25])
set_option maxHeartbeats 1000000 in
theorem s_M_both1  {v : Vv} {Q : Int32 → Vv → Prop} (h : m_M_not1  (v) (fun x1 v2 => k_M_both1_5 (x1) (v2) Q)) : m_M_both1  v Q := by
  refine cp_go (Nat.le_of_ble_eq_true rfl) (by decide +kernel) ?_
  show Gp 33 M_M_both1 0 [(0, .ref (154))] [] v (QI Q)
  refine g_aload_n 0 e_M_both1_0 rfl rfl ?_
  refine p_callVI (d' := 32) (ci := 10) (r := (RX10, TX10, 49)) (As := []) (rest := []) e_M_both1_1 zm_M_not1 lV_M_306 sh_154 rfl rfl rfl rfl (Nat.le_of_ble_eq_true rfl) (by decide) ?_
  refine cp_mono h (fun _ v2 ⟨x1, e1, h⟩ => ⟨x1, e1, ?_⟩)
  refine g_istore_n (L' := [(1, .int (x1)), (0, .ref (154))]) e_M_both1_4 rfl (by decide) rfl ?_
  exact g_sub [1, 0] rfl h
set_option maxHeartbeats 1000000 in
theorem s_M_both1_5 {l1 : Int32} {v : Vv} {Q : Int32 → Vv → Prop} (h : m_M_isWord (97 : Int32) (110 : Int32) (100 : Int32) (0 : Int32) (0 : Int32) (0 : Int32) (0 : Int32) (0 : Int32) (v) (fun x3 v4 => if x3 = true then (m_M_next  (v4) (fun v7 => m_M_not1  (v7) (fun x8 v9 => k_M_both1_5 (bI ((if l1 = (0 : Int32) then false else (if x8 = (0 : Int32) then false else true)))) (v9) Q))) else (Q (l1) (v4)))) : k_M_both1_5 l1 v Q := by
  show Gp 33 M_M_both1 5 [(0, .ref (154)), (1, .int (l1))] [] v (QI Q)
  refine g_aload_n 0 e_M_both1_5 rfl rfl ?_
  refine g_bipush (97 : Int32) e_M_both1_6 (by decide) ?_
  refine g_bipush (110 : Int32) e_M_both1_8 (by decide) ?_
  refine g_bipush (100 : Int32) e_M_both1_10 (by decide) ?_
  refine g_iconst (0 : Int32) e_M_both1_12 (by decide) ?_
  refine g_iconst (0 : Int32) e_M_both1_13 (by decide) ?_
  refine g_iconst (0 : Int32) e_M_both1_14 (by decide) ?_
  refine g_iconst (0 : Int32) e_M_both1_15 (by decide) ?_
  refine g_iconst (0 : Int32) e_M_both1_16 (by decide) ?_
  refine p_callVZ (d' := 3) (ci := 10) (r := (RX10, TX10, 49)) (As := [.int ((97 : Int32)), .int ((110 : Int32)), .int ((100 : Int32)), .int ((0 : Int32)), .int ((0 : Int32)), .int ((0 : Int32)), .int ((0 : Int32)), .int ((0 : Int32))]) (rest := []) e_M_both1_17 zm_M_isWord lV_M_188 sh_154 rfl rfl rfl rfl (Nat.le_of_ble_eq_true rfl) (by decide) ?_
  refine cp_mono h (fun _ v4 ⟨x3, e1, h⟩ => ⟨x3, e1, ?_⟩)
  refine p_ifz_eq (tgt := 49) e_M_both1_20 rfl (fun c5 => ?_) (fun c5 => ?_)
  · replace h := iteF h c5
    refine g_iload_n 1 e_M_both1_49 rfl rfl ?_
    exact p_retI e_M_both1_50.1 rfl h
  · replace h := iteT h c5
    refine g_aload_n 0 e_M_both1_23 rfl rfl ?_
    refine p_callVV (d' := 2) (ci := 10) (r := (RX10, TX10, 49)) (As := []) (rest := []) e_M_both1_24 zm_M_next lV_M_185 sh_154 rfl rfl rfl rfl (Nat.le_of_ble_eq_true rfl) (by decide) ?_
    refine cp_mono h (fun _ v7 ⟨e1, h⟩ => ⟨e1, ?_⟩)
    refine g_aload_n 0 e_M_both1_27 rfl rfl ?_
    refine p_callVI (d' := 32) (ci := 10) (r := (RX10, TX10, 49)) (As := []) (rest := []) e_M_both1_28 zm_M_not1 lV_M_306 sh_154 rfl rfl rfl rfl (Nat.le_of_ble_eq_true rfl) (by decide) ?_
    refine cp_mono h (fun _ v9 ⟨x8, e1, h⟩ => ⟨x8, e1, ?_⟩)
    refine g_istore_n (L' := [(2, .int (x8)), (0, .ref (154)), (1, .int (l1))]) e_M_both1_31 rfl (by decide) rfl ?_
    refine g_iload_n 2 e_M_both1_32 rfl rfl ?_
    have hj : ∀ m0 : Bool, m0 = (if l1 = (0 : Int32) then false else (if x8 = (0 : Int32) then false else true)) → Gp 33 M_M_both1 45 [(0, .ref (154)), (1, .int (l1)), (2, .int (x8))] [.int (bI (m0))] (v9) (QI Q) := by
      intro m0 hm0
      subst hm0
      refine g_istore_n (L' := [(1, .int (bI ((if l1 = (0 : Int32) then false else (if x8 = (0 : Int32) then false else true))))), (0, .ref (154)), (2, .int (x8))]) e_M_both1_45 rfl (by decide) rfl ?_
      refine g_goto (tgt := 5) e_M_both1_46 rfl ?_
      exact g_sub [1, 0] rfl h
    refine g_if_eq (tgt := 44) e_M_both1_33 rfl (fun c10 => ?_) (fun c10 => ?_)
    · refine g_iconst (0 : Int32) e_M_both1_44 (by decide) ?_
      refine g_sub [1, 2, 0] rfl ?_
      exact hj (false) (by simp only [if_pos c10])
    · refine g_iload_n 0 e_M_both1_36 rfl rfl ?_
      refine g_if_eq (tgt := 44) e_M_both1_37 rfl (fun c11 => ?_) (fun c11 => ?_)
      · refine g_iconst (0 : Int32) e_M_both1_44 (by decide) ?_
        refine g_sub [1, 2, 0] rfl ?_
        exact hj (false) (by simp only [if_neg c10, if_pos c11])
      · refine g_iconst (1 : Int32) e_M_both1_40 (by decide) ?_
        refine g_goto (tgt := 45) e_M_both1_41 rfl ?_
        refine g_sub [1, 2, 0] rfl ?_
        exact hj (true) (by simp only [if_neg c10, if_neg c11])
set_option maxHeartbeats 1000000 in
theorem s_M_either1  {v : Vv} {Q : Int32 → Vv → Prop} (h : m_M_both1  (v) (fun x1 v2 => k_M_either1_5 (x1) (v2) Q)) : m_M_either1  v Q := by
  refine cp_go (Nat.le_of_ble_eq_true rfl) (by decide +kernel) ?_
  show Gp 34 M_M_either1 0 [(0, .ref (154))] [] v (QI Q)
  refine g_aload_n 0 e_M_either1_0 rfl rfl ?_
  refine p_callVI (d' := 33) (ci := 10) (r := (RX10, TX10, 49)) (As := []) (rest := []) e_M_either1_1 zm_M_both1 lV_M_309 sh_154 rfl rfl rfl rfl (Nat.le_of_ble_eq_true rfl) (by decide) ?_
  refine cp_mono h (fun _ v2 ⟨x1, e1, h⟩ => ⟨x1, e1, ?_⟩)
  refine g_istore_n (L' := [(1, .int (x1)), (0, .ref (154))]) e_M_either1_4 rfl (by decide) rfl ?_
  exact g_sub [1, 0] rfl h
set_option maxHeartbeats 1000000 in
theorem s_M_either1_5 {l1 : Int32} {v : Vv} {Q : Int32 → Vv → Prop} (h : m_M_isWord (111 : Int32) (114 : Int32) (0 : Int32) (0 : Int32) (0 : Int32) (0 : Int32) (0 : Int32) (0 : Int32) (v) (fun x3 v4 => if x3 = true then (m_M_next  (v4) (fun v7 => m_M_both1  (v7) (fun x8 v9 => k_M_either1_5 (bI ((if l1 = (0 : Int32) then (if x8 = (0 : Int32) then false else true) else true))) (v9) Q))) else (Q (l1) (v4)))) : k_M_either1_5 l1 v Q := by
  show Gp 34 M_M_either1 5 [(0, .ref (154)), (1, .int (l1))] [] v (QI Q)
  refine g_aload_n 0 e_M_either1_5 rfl rfl ?_
  refine g_bipush (111 : Int32) e_M_either1_6 (by decide) ?_
  refine g_bipush (114 : Int32) e_M_either1_8 (by decide) ?_
  refine g_iconst (0 : Int32) e_M_either1_10 (by decide) ?_
  refine g_iconst (0 : Int32) e_M_either1_11 (by decide) ?_
  refine g_iconst (0 : Int32) e_M_either1_12 (by decide) ?_
  refine g_iconst (0 : Int32) e_M_either1_13 (by decide) ?_
  refine g_iconst (0 : Int32) e_M_either1_14 (by decide) ?_
  refine g_iconst (0 : Int32) e_M_either1_15 (by decide) ?_
  refine p_callVZ (d' := 3) (ci := 10) (r := (RX10, TX10, 49)) (As := [.int ((111 : Int32)), .int ((114 : Int32)), .int ((0 : Int32)), .int ((0 : Int32)), .int ((0 : Int32)), .int ((0 : Int32)), .int ((0 : Int32)), .int ((0 : Int32))]) (rest := []) e_M_either1_16 zm_M_isWord lV_M_188 sh_154 rfl rfl rfl rfl (Nat.le_of_ble_eq_true rfl) (by decide) ?_
  refine cp_mono h (fun _ v4 ⟨x3, e1, h⟩ => ⟨x3, e1, ?_⟩)
  refine p_ifz_eq (tgt := 48) e_M_either1_19 rfl (fun c5 => ?_) (fun c5 => ?_)
  · replace h := iteF h c5
    refine g_iload_n 1 e_M_either1_48 rfl rfl ?_
    exact p_retI e_M_either1_49.1 rfl h
  · replace h := iteT h c5
    refine g_aload_n 0 e_M_either1_22 rfl rfl ?_
    refine p_callVV (d' := 2) (ci := 10) (r := (RX10, TX10, 49)) (As := []) (rest := []) e_M_either1_23 zm_M_next lV_M_185 sh_154 rfl rfl rfl rfl (Nat.le_of_ble_eq_true rfl) (by decide) ?_
    refine cp_mono h (fun _ v7 ⟨e1, h⟩ => ⟨e1, ?_⟩)
    refine g_aload_n 0 e_M_either1_26 rfl rfl ?_
    refine p_callVI (d' := 33) (ci := 10) (r := (RX10, TX10, 49)) (As := []) (rest := []) e_M_either1_27 zm_M_both1 lV_M_309 sh_154 rfl rfl rfl rfl (Nat.le_of_ble_eq_true rfl) (by decide) ?_
    refine cp_mono h (fun _ v9 ⟨x8, e1, h⟩ => ⟨x8, e1, ?_⟩)
    refine g_istore_n (L' := [(2, .int (x8)), (0, .ref (154)), (1, .int (l1))]) e_M_either1_30 rfl (by decide) rfl ?_
    refine g_iload_n 2 e_M_either1_31 rfl rfl ?_
    have hj : ∀ m0 : Bool, m0 = (if l1 = (0 : Int32) then (if x8 = (0 : Int32) then false else true) else true) → Gp 34 M_M_either1 44 [(0, .ref (154)), (1, .int (l1)), (2, .int (x8))] [.int (bI (m0))] (v9) (QI Q) := by
      intro m0 hm0
      subst hm0
      refine g_istore_n (L' := [(1, .int (bI ((if l1 = (0 : Int32) then (if x8 = (0 : Int32) then false else true) else true)))), (0, .ref (154)), (2, .int (x8))]) e_M_either1_44 rfl (by decide) rfl ?_
      refine g_goto (tgt := 5) e_M_either1_45 rfl ?_
      exact g_sub [1, 0] rfl h
    refine g_if_ne (tgt := 39) e_M_either1_32 rfl (fun c10 => ?_) (fun c10 => ?_)
    · refine g_iconst (1 : Int32) e_M_either1_39 (by decide) ?_
      refine g_goto (tgt := 44) e_M_either1_40 rfl ?_
      refine g_sub [1, 2, 0] rfl ?_
      exact hj (true) (by simp only [if_neg c10])
    · refine g_iload_n 0 e_M_either1_35 rfl rfl ?_
      refine g_if_eq (tgt := 43) e_M_either1_36 rfl (fun c11 => ?_) (fun c11 => ?_)
      · refine g_iconst (0 : Int32) e_M_either1_43 (by decide) ?_
        refine g_sub [1, 2, 0] rfl ?_
        exact hj (false) (by simp only [if_pos c10, if_pos c11])
      · refine g_iconst (1 : Int32) e_M_either1_39 (by decide) ?_
        refine g_goto (tgt := 44) e_M_either1_40 rfl ?_
        refine g_sub [1, 2, 0] rfl ?_
        exact hj (true) (by simp only [if_pos c10, if_neg c11])
set_option maxHeartbeats 1000000 in
theorem s_M_atom0  {v : Vv} {Q : Int32 → Vv → Prop} (h : m_M_isSign (45 : Int32) (v) (fun x1 v2 => if x1 = true then (m_M_opens  (v2) (fun x4 v5 => if x4 = true then (m_M_atom1  (v5) (fun x7 v8 => Q ((-x7)) (sI (v8) 154 28 ((v8).1 154 28 - (1 : Int32))))) else (Q ((0 : Int32)) (v5)))) else (m_M_isSign (40 : Int32) (v2) (fun x9 v10 => if x9 = true then (m_M_opens  (v10) (fun x12 v13 => if x12 = true then (m_M_either1  (v13) (fun x15 v16 => m_M_isSign (41 : Int32) (v16) (fun x17 v18 => if x17 = true then (k_M_atom0_71 (x15) (v18) Q) else (m_M_fail  (v18) (fun v21 => k_M_atom0_71 (x15) (v21) Q))))) else (Q ((0 : Int32)) (v13)))) else (if (v10).1 154 29 = (0 : Int32) then (if (v10).1 154 25 = (2 : Int32) then (m_M_next  (v10) (fun v25 => Q (((v10).2.1 154 27).toInt32) (v25))) else (k_M_atom0_123 ((0 : Int32)) (v10) Q)) else (k_M_atom0_123 ((0 : Int32)) (v10) Q)))))) : m_M_atom0  v Q := by
  refine cp_go (Nat.le_of_ble_eq_true rfl) (by decide +kernel) ?_
  show Gp 35 M_M_atom0 0 [(0, .ref (154))] [] v (QI Q)
  refine g_iconst (0 : Int32) e_M_atom0_0 (by decide) ?_
  refine g_istore_n (L' := [(1, .int ((0 : Int32))), (0, .ref (154))]) e_M_atom0_1 rfl (by decide) rfl ?_
  refine g_aload_n 1 e_M_atom0_2 rfl rfl ?_
  refine g_bipush (45 : Int32) e_M_atom0_3 (by decide) ?_
  refine p_callVZ (d' := 1) (ci := 10) (r := (RX10, TX10, 49)) (As := [.int ((45 : Int32))]) (rest := []) e_M_atom0_5 zm_M_isSign lV_M_210 sh_154 rfl rfl rfl rfl (Nat.le_of_ble_eq_true rfl) (by decide) ?_
  refine cp_mono h (fun _ v2 ⟨x1, e1, h⟩ => ⟨x1, e1, ?_⟩)
  refine p_ifz_eq (tgt := 37) e_M_atom0_8 rfl (fun c3 => ?_) (fun c3 => ?_)
  · replace h := iteF h c3
    refine g_aload_n 1 e_M_atom0_37 rfl rfl ?_
    refine g_bipush (40 : Int32) e_M_atom0_38 (by decide) ?_
    refine p_callVZ (d' := 1) (ci := 10) (r := (RX10, TX10, 49)) (As := [.int ((40 : Int32))]) (rest := []) e_M_atom0_40 zm_M_isSign lV_M_210 sh_154 rfl rfl rfl rfl (Nat.le_of_ble_eq_true rfl) (by decide) ?_
    refine cp_mono h (fun _ v10 ⟨x9, e1, h⟩ => ⟨x9, e1, ?_⟩)
    refine p_ifz_eq (tgt := 95) e_M_atom0_43 rfl (fun c11 => ?_) (fun c11 => ?_)
    · replace h := iteF h c11
      refine g_aload_n 1 e_M_atom0_95 rfl rfl ?_
      refine p_getI e_M_atom0_96 sh_154 fl_M_168 rfl ?_
      refine g_if_ne (tgt := 123) e_M_atom0_99 rfl (fun c22 => ?_) (fun c22 => ?_)
      · replace h := iteF h c22
        exact g_sub [1, 0] rfl h
      · replace h := iteT h c22
        refine g_aload_n 1 e_M_atom0_102 rfl rfl ?_
        refine p_getI e_M_atom0_103 sh_154 fl_M_151 rfl ?_
        refine g_iconst (2 : Int32) e_M_atom0_106 (by decide) ?_
        refine g_icmp_ne (tgt := 123) e_M_atom0_107 rfl (fun c23 => ?_) (fun c23 => ?_)
        · replace h := iteF h c23
          exact g_sub [1, 0] rfl h
        · replace h := iteT h c23
          refine g_aload_n 1 e_M_atom0_110 rfl rfl ?_
          refine p_getJ e_M_atom0_111 sh_154 fl_M_162 rfl ?_
          refine g_l2i e_M_atom0_114 ?_
          refine g_istore_n (L' := [(1, .int (((v10).2.1 154 27).toInt32)), (0, .ref (154))]) e_M_atom0_115 rfl (by decide) rfl ?_
          refine g_aload_n 1 e_M_atom0_116 rfl rfl ?_
          refine p_callVV (d' := 2) (ci := 10) (r := (RX10, TX10, 49)) (As := []) (rest := []) e_M_atom0_117 zm_M_next lV_M_185 sh_154 rfl rfl rfl rfl (Nat.le_of_ble_eq_true rfl) (by decide) ?_
          refine cp_mono h (fun _ v25 ⟨e1, h⟩ => ⟨e1, ?_⟩)
          refine g_goto (tgt := 161) e_M_atom0_120 rfl ?_
          refine g_iload_n 0 e_M_atom0_161 rfl rfl ?_
          exact p_retI e_M_atom0_162.1 rfl h
    · replace h := iteT h c11
      refine g_aload_n 1 e_M_atom0_46 rfl rfl ?_
      refine p_callVZ (d' := 3) (ci := 10) (r := (RX10, TX10, 49)) (As := []) (rest := []) e_M_atom0_47 zm_M_opens lV_M_213 sh_154 rfl rfl rfl rfl (Nat.le_of_ble_eq_true rfl) (by decide) ?_
      refine cp_mono h (fun _ v13 ⟨x12, e1, h⟩ => ⟨x12, e1, ?_⟩)
      refine p_ifz_eq (tgt := 161) e_M_atom0_50 rfl (fun c14 => ?_) (fun c14 => ?_)
      · replace h := iteF h c14
        refine g_iload_n 0 e_M_atom0_161 rfl rfl ?_
        exact p_retI e_M_atom0_162.1 rfl h
      · replace h := iteT h c14
        refine g_aload_n 1 e_M_atom0_53 rfl rfl ?_
        refine p_callVI (d' := 34) (ci := 10) (r := (RX10, TX10, 49)) (As := []) (rest := []) e_M_atom0_54 zm_M_either1 lV_M_312 sh_154 rfl rfl rfl rfl (Nat.le_of_ble_eq_true rfl) (by decide) ?_
        refine cp_mono h (fun _ v16 ⟨x15, e1, h⟩ => ⟨x15, e1, ?_⟩)
        refine g_istore_n (L' := [(1, .int (x15)), (0, .ref (154))]) e_M_atom0_57 rfl (by decide) rfl ?_
        refine g_aload_n 1 e_M_atom0_58 rfl rfl ?_
        refine g_bipush (41 : Int32) e_M_atom0_59 (by decide) ?_
        refine p_callVZ (d' := 1) (ci := 10) (r := (RX10, TX10, 49)) (As := [.int ((41 : Int32))]) (rest := []) e_M_atom0_61 zm_M_isSign lV_M_210 sh_154 rfl rfl rfl rfl (Nat.le_of_ble_eq_true rfl) (by decide) ?_
        refine cp_mono h (fun _ v18 ⟨x17, e1, h⟩ => ⟨x17, e1, ?_⟩)
        refine p_ifz_ne (tgt := 71) e_M_atom0_64 rfl (fun c19 => ?_) (fun c19 => ?_)
        · replace h := iteT h c19
          exact g_sub [1, 0] rfl h
        · replace h := iteF h c19
          refine g_aload_n 1 e_M_atom0_67 rfl rfl ?_
          refine p_callVV (d' := 1) (ci := 10) (r := (RX10, TX10, 49)) (As := []) (rest := []) e_M_atom0_68 zm_M_fail lV_M_182 sh_154 rfl rfl rfl rfl (Nat.le_of_ble_eq_true rfl) (by decide) ?_
          refine cp_mono h (fun _ v21 ⟨e1, h⟩ => ⟨e1, ?_⟩)
          exact g_sub [1, 0] rfl h
  · replace h := iteT h c3
    refine g_aload_n 1 e_M_atom0_11 rfl rfl ?_
    refine p_callVZ (d' := 3) (ci := 10) (r := (RX10, TX10, 49)) (As := []) (rest := []) e_M_atom0_12 zm_M_opens lV_M_213 sh_154 rfl rfl rfl rfl (Nat.le_of_ble_eq_true rfl) (by decide) ?_
    refine cp_mono h (fun _ v5 ⟨x4, e1, h⟩ => ⟨x4, e1, ?_⟩)
    refine p_ifz_eq (tgt := 161) e_M_atom0_15 rfl (fun c6 => ?_) (fun c6 => ?_)
    · replace h := iteF h c6
      refine g_iload_n 0 e_M_atom0_161 rfl rfl ?_
      exact p_retI e_M_atom0_162.1 rfl h
    · replace h := iteT h c6
      refine g_aload_n 1 e_M_atom0_18 rfl rfl ?_
      refine p_callVI (d' := 29) (ci := 10) (r := (RX10, TX10, 49)) (As := []) (rest := []) e_M_atom0_19 zm_M_atom1 lV_M_297 sh_154 rfl rfl rfl rfl (Nat.le_of_ble_eq_true rfl) (by decide) ?_
      refine cp_mono h (fun _ v8 ⟨x7, e1, h⟩ => ⟨x7, e1, ?_⟩)
      refine g_ineg e_M_atom0_22 ?_
      refine g_istore_n (L' := [(1, .int ((-x7))), (0, .ref (154))]) e_M_atom0_23 rfl (by decide) rfl ?_
      refine g_aload_n 1 e_M_atom0_24 rfl rfl ?_
      refine g_dup e_M_atom0_25 rfl ?_
      refine p_getI e_M_atom0_26 sh_154 fl_M_179 rfl ?_
      refine g_iconst (1 : Int32) e_M_atom0_29 (by decide) ?_
      refine g_isub e_M_atom0_30 ?_
      refine p_putI e_M_atom0_31 sh_154 fp_M_179 rfl rfl rfl ?_
      refine g_goto (tgt := 161) e_M_atom0_34 rfl ?_
      refine g_iload_n 0 e_M_atom0_161 rfl rfl ?_
      exact p_retI e_M_atom0_162.1 rfl h
set_option maxHeartbeats 1000000 in
theorem s_M_atom0_71 {l1 : Int32} {v : Vv} {Q : Int32 → Vv → Prop} (h : if (sI (v) 154 28 ((v).1 154 28 - (1 : Int32))).1 154 29 = (0 : Int32) then (m_M_next  (sI (v) 154 28 ((v).1 154 28 - (1 : Int32))) (fun v28 => Q (l1) (v28))) else (Q (l1) (sI (v) 154 28 ((v).1 154 28 - (1 : Int32))))) : k_M_atom0_71 l1 v Q := by
  show Gp 35 M_M_atom0 71 [(0, .ref (154)), (1, .int (l1))] [] v (QI Q)
  refine g_aload_n 0 e_M_atom0_71 rfl rfl ?_
  refine g_dup e_M_atom0_72 rfl ?_
  refine p_getI e_M_atom0_73 sh_154 fl_M_179 rfl ?_
  refine g_iconst (1 : Int32) e_M_atom0_76 (by decide) ?_
  refine g_isub e_M_atom0_77 ?_
  refine p_putI e_M_atom0_78 sh_154 fp_M_179 rfl rfl rfl ?_
  refine g_aload_n 0 e_M_atom0_81 rfl rfl ?_
  refine p_getI e_M_atom0_82 sh_154 fl_M_168 rfl ?_
  refine g_if_ne (tgt := 161) e_M_atom0_85 rfl (fun c26 => ?_) (fun c26 => ?_)
  · replace h := iteF h c26
    refine g_iload_n 1 e_M_atom0_161 rfl rfl ?_
    exact p_retI e_M_atom0_162.1 rfl h
  · replace h := iteT h c26
    refine g_aload_n 0 e_M_atom0_88 rfl rfl ?_
    refine p_callVV (d' := 2) (ci := 10) (r := (RX10, TX10, 49)) (As := []) (rest := []) e_M_atom0_89 zm_M_next lV_M_185 sh_154 rfl rfl rfl rfl (Nat.le_of_ble_eq_true rfl) (by decide) ?_
    refine cp_mono h (fun _ v28 ⟨e1, h⟩ => ⟨e1, ?_⟩)
    refine g_goto (tgt := 161) e_M_atom0_92 rfl ?_
    refine g_iload_n 1 e_M_atom0_161 rfl rfl ?_
    exact p_retI e_M_atom0_162.1 rfl h
set_option maxHeartbeats 1000000 in
theorem s_M_atom0_123 {l1 : Int32} {v : Vv} {Q : Int32 → Vv → Prop} (h : if (v).1 154 29 = (0 : Int32) then (if (v).1 154 25 = (1 : Int32) then (m_M_name  (v) (fun x31 v32 => if (v32).1 154 29 = (0 : Int32) then (m_M_next  (v32) (fun v35 => Q (x31) (v35))) else (Q (x31) (v32)))) else (k_M_atom0_157 (l1) (v) Q)) else (k_M_atom0_157 (l1) (v) Q)) : k_M_atom0_123 l1 v Q := by
  show Gp 35 M_M_atom0 123 [(0, .ref (154)), (1, .int (l1))] [] v (QI Q)
  refine g_aload_n 0 e_M_atom0_123 rfl rfl ?_
  refine p_getI e_M_atom0_124 sh_154 fl_M_168 rfl ?_
  refine g_if_ne (tgt := 157) e_M_atom0_127 rfl (fun c29 => ?_) (fun c29 => ?_)
  · replace h := iteF h c29
    exact g_sub [0, 1] rfl h
  · replace h := iteT h c29
    refine g_aload_n 0 e_M_atom0_130 rfl rfl ?_
    refine p_getI e_M_atom0_131 sh_154 fl_M_151 rfl ?_
    refine g_iconst (1 : Int32) e_M_atom0_134 (by decide) ?_
    refine g_icmp_ne (tgt := 157) e_M_atom0_135 rfl (fun c30 => ?_) (fun c30 => ?_)
    · replace h := iteF h c30
      exact g_sub [0, 1] rfl h
    · replace h := iteT h c30
      refine g_aload_n 0 e_M_atom0_138 rfl rfl ?_
      refine p_callVI (d' := 4) (ci := 10) (r := (RX10, TX10, 49)) (As := []) (rest := []) e_M_atom0_139 zm_M_name lV_M_217 sh_154 rfl rfl rfl rfl (Nat.le_of_ble_eq_true rfl) (by decide) ?_
      refine cp_mono h (fun _ v32 ⟨x31, e1, h⟩ => ⟨x31, e1, ?_⟩)
      refine g_istore_n (L' := [(1, .int (x31)), (0, .ref (154))]) e_M_atom0_142 rfl (by decide) rfl ?_
      refine g_aload_n 1 e_M_atom0_143 rfl rfl ?_
      refine p_getI e_M_atom0_144 sh_154 fl_M_168 rfl ?_
      refine g_if_ne (tgt := 161) e_M_atom0_147 rfl (fun c33 => ?_) (fun c33 => ?_)
      · replace h := iteF h c33
        refine g_iload_n 0 e_M_atom0_161 rfl rfl ?_
        exact p_retI e_M_atom0_162.1 rfl h
      · replace h := iteT h c33
        refine g_aload_n 1 e_M_atom0_150 rfl rfl ?_
        refine p_callVV (d' := 2) (ci := 10) (r := (RX10, TX10, 49)) (As := []) (rest := []) e_M_atom0_151 zm_M_next lV_M_185 sh_154 rfl rfl rfl rfl (Nat.le_of_ble_eq_true rfl) (by decide) ?_
        refine cp_mono h (fun _ v35 ⟨e1, h⟩ => ⟨e1, ?_⟩)
        refine g_goto (tgt := 161) e_M_atom0_154 rfl ?_
        refine g_iload_n 0 e_M_atom0_161 rfl rfl ?_
        exact p_retI e_M_atom0_162.1 rfl h
set_option maxHeartbeats 1000000 in
theorem s_M_atom0_157 {l1 : Int32} {v : Vv} {Q : Int32 → Vv → Prop} (h : m_M_fail  (v) (fun v37 => Q (l1) (v37))) : k_M_atom0_157 l1 v Q := by
  show Gp 35 M_M_atom0 157 [(0, .ref (154)), (1, .int (l1))] [] v (QI Q)
  refine g_aload_n 0 e_M_atom0_157 rfl rfl ?_
  refine p_callVV (d' := 1) (ci := 10) (r := (RX10, TX10, 49)) (As := []) (rest := []) e_M_atom0_158 zm_M_fail lV_M_182 sh_154 rfl rfl rfl rfl (Nat.le_of_ble_eq_true rfl) (by decide) ?_
  refine cp_mono h (fun _ v37 ⟨e1, h⟩ => ⟨e1, ?_⟩)
  refine g_iload_n 1 e_M_atom0_161 rfl rfl ?_
  exact p_retI e_M_atom0_162.1 rfl h
set_option maxHeartbeats 1000000 in
theorem s_M_term0  {v : Vv} {Q : Int32 → Vv → Prop} (h : m_M_atom0  (v) (fun x1 v2 => k_M_term0_5 (x1) (v2) Q)) : m_M_term0  v Q := by
  refine cp_go (Nat.le_of_ble_eq_true rfl) (by decide +kernel) ?_
  show Gp 36 M_M_term0 0 [(0, .ref (154))] [] v (QI Q)
  refine g_aload_n 0 e_M_term0_0 rfl rfl ?_
  refine p_callVI (d' := 35) (ci := 10) (r := (RX10, TX10, 49)) (As := []) (rest := []) e_M_term0_1 zm_M_atom0 lV_M_315 sh_154 rfl rfl rfl rfl (Nat.le_of_ble_eq_true rfl) (by decide) ?_
  refine cp_mono h (fun _ v2 ⟨x1, e1, h⟩ => ⟨x1, e1, ?_⟩)
  refine g_istore_n (L' := [(1, .int (x1)), (0, .ref (154))]) e_M_term0_4 rfl (by decide) rfl ?_
  exact g_sub [1, 0] rfl h
set_option maxHeartbeats 1000000 in
theorem s_M_term0_5 {l1 : Int32} {v : Vv} {Q : Int32 → Vv → Prop} (h : m_M_isSign (42 : Int32) (v) (fun x3 v4 => if x3 = true then (m_M_next  (v4) (fun v7 => m_M_atom0  (v7) (fun x8 v9 => k_M_term0_5 ((l1 * x8)) (v9) Q))) else (Q (l1) (v4)))) : k_M_term0_5 l1 v Q := by
  show Gp 36 M_M_term0 5 [(0, .ref (154)), (1, .int (l1))] [] v (QI Q)
  refine g_aload_n 0 e_M_term0_5 rfl rfl ?_
  refine g_bipush (42 : Int32) e_M_term0_6 (by decide) ?_
  refine p_callVZ (d' := 1) (ci := 10) (r := (RX10, TX10, 49)) (As := [.int ((42 : Int32))]) (rest := []) e_M_term0_8 zm_M_isSign lV_M_210 sh_154 rfl rfl rfl rfl (Nat.le_of_ble_eq_true rfl) (by decide) ?_
  refine cp_mono h (fun _ v4 ⟨x3, e1, h⟩ => ⟨x3, e1, ?_⟩)
  refine p_ifz_eq (tgt := 28) e_M_term0_11 rfl (fun c5 => ?_) (fun c5 => ?_)
  · replace h := iteF h c5
    refine g_iload_n 1 e_M_term0_28 rfl rfl ?_
    exact p_retI e_M_term0_29.1 rfl h
  · replace h := iteT h c5
    refine g_aload_n 0 e_M_term0_14 rfl rfl ?_
    refine p_callVV (d' := 2) (ci := 10) (r := (RX10, TX10, 49)) (As := []) (rest := []) e_M_term0_15 zm_M_next lV_M_185 sh_154 rfl rfl rfl rfl (Nat.le_of_ble_eq_true rfl) (by decide) ?_
    refine cp_mono h (fun _ v7 ⟨e1, h⟩ => ⟨e1, ?_⟩)
    refine g_iload_n 1 e_M_term0_18 rfl rfl ?_
    refine g_aload_n 0 e_M_term0_19 rfl rfl ?_
    refine p_callVI (d' := 35) (ci := 10) (r := (RX10, TX10, 49)) (As := []) (rest := [.int (l1)]) e_M_term0_20 zm_M_atom0 lV_M_315 sh_154 rfl rfl rfl rfl (Nat.le_of_ble_eq_true rfl) (by decide) ?_
    refine cp_mono h (fun _ v9 ⟨x8, e1, h⟩ => ⟨x8, e1, ?_⟩)
    refine g_imul e_M_term0_23 ?_
    refine g_istore_n (L' := [(1, .int ((l1 * x8))), (0, .ref (154))]) e_M_term0_24 rfl (by decide) rfl ?_
    refine g_goto (tgt := 5) e_M_term0_25 rfl ?_
    exact g_sub [1, 0] rfl h
set_option maxHeartbeats 1000000 in
theorem s_M_added0  {v : Vv} {Q : Int32 → Vv → Prop} (h : m_M_term0  (v) (fun x1 v2 => k_M_added0_5 (x1) (v2) Q)) : m_M_added0  v Q := by
  refine cp_go (Nat.le_of_ble_eq_true rfl) (by decide +kernel) ?_
  show Gp 37 M_M_added0 0 [(0, .ref (154))] [] v (QI Q)
  refine g_aload_n 0 e_M_added0_0 rfl rfl ?_
  refine p_callVI (d' := 36) (ci := 10) (r := (RX10, TX10, 49)) (As := []) (rest := []) e_M_added0_1 zm_M_term0 lV_M_318 sh_154 rfl rfl rfl rfl (Nat.le_of_ble_eq_true rfl) (by decide) ?_
  refine cp_mono h (fun _ v2 ⟨x1, e1, h⟩ => ⟨x1, e1, ?_⟩)
  refine g_istore_n (L' := [(1, .int (x1)), (0, .ref (154))]) e_M_added0_4 rfl (by decide) rfl ?_
  exact g_sub [1, 0] rfl h
set_option maxHeartbeats 1000000 in
theorem s_M_added0_5 {l1 : Int32} {v : Vv} {Q : Int32 → Vv → Prop} (h : m_M_isSign (43 : Int32) (v) (fun x3 v4 => if x3 = true then (k_M_added0_23 (l1) (v4) Q) else (m_M_isSign (45 : Int32) (v4) (fun x6 v7 => if x6 = true then (k_M_added0_23 (l1) (v7) Q) else (Q (l1) (v7)))))) : k_M_added0_5 l1 v Q := by
  show Gp 37 M_M_added0 5 [(0, .ref (154)), (1, .int (l1))] [] v (QI Q)
  refine g_aload_n 0 e_M_added0_5 rfl rfl ?_
  refine g_bipush (43 : Int32) e_M_added0_6 (by decide) ?_
  refine p_callVZ (d' := 1) (ci := 10) (r := (RX10, TX10, 49)) (As := [.int ((43 : Int32))]) (rest := []) e_M_added0_8 zm_M_isSign lV_M_210 sh_154 rfl rfl rfl rfl (Nat.le_of_ble_eq_true rfl) (by decide) ?_
  refine cp_mono h (fun _ v4 ⟨x3, e1, h⟩ => ⟨x3, e1, ?_⟩)
  refine p_ifz_ne (tgt := 23) e_M_added0_11 rfl (fun c5 => ?_) (fun c5 => ?_)
  · replace h := iteT h c5
    exact g_sub [0, 1] rfl h
  · replace h := iteF h c5
    refine g_aload_n 0 e_M_added0_14 rfl rfl ?_
    refine g_bipush (45 : Int32) e_M_added0_15 (by decide) ?_
    refine p_callVZ (d' := 1) (ci := 10) (r := (RX10, TX10, 49)) (As := [.int ((45 : Int32))]) (rest := []) e_M_added0_17 zm_M_isSign lV_M_210 sh_154 rfl rfl rfl rfl (Nat.le_of_ble_eq_true rfl) (by decide) ?_
    refine cp_mono h (fun _ v7 ⟨x6, e1, h⟩ => ⟨x6, e1, ?_⟩)
    refine p_ifz_eq (tgt := 66) e_M_added0_20 rfl (fun c8 => ?_) (fun c8 => ?_)
    · replace h := iteF h c8
      refine g_iload_n 1 e_M_added0_66 rfl rfl ?_
      exact p_retI e_M_added0_67.1 rfl h
    · replace h := iteT h c8
      exact g_sub [0, 1] rfl h
set_option maxHeartbeats 1000000 in
theorem s_M_added0_23 {l1 : Int32} {v : Vv} {Q : Int32 → Vv → Prop} (h : if (v).2.1 154 27 = (43 : Int64) then (k_M_added0_39 (l1) ((1 : Int32)) (v) Q) else (k_M_added0_39 (l1) ((0 : Int32)) (v) Q)) : k_M_added0_23 l1 v Q := by
  show Gp 37 M_M_added0 23 [(0, .ref (154)), (1, .int (l1))] [] v (QI Q)
  refine g_aload_n 0 e_M_added0_23 rfl rfl ?_
  refine p_getJ e_M_added0_24 sh_154 fl_M_162 rfl ?_
  refine g_ldc2 (v := (43 : Int64)) (hd := e_M_added0_27) cl_M_227 ?_
  refine g_l_ne (tgt := 38) e_M_added0_30 e_M_added0_31 rfl (fun c9 => ?_) (fun c9 => ?_)
  · replace h := iteF h c9
    refine g_iconst (0 : Int32) e_M_added0_38 (by decide) ?_
    exact g_sub [0, 1] rfl h
  · replace h := iteT h c9
    refine g_iconst (1 : Int32) e_M_added0_34 (by decide) ?_
    refine g_goto (tgt := 39) e_M_added0_35 rfl ?_
    exact g_sub [0, 1] rfl h
set_option maxHeartbeats 1000000 in
theorem s_M_added0_39 {l1 : Int32} {t0 : Int32} {v : Vv} {Q : Int32 → Vv → Prop} (h : m_M_next  (v) (fun v11 => m_M_term0  (v11) (fun x12 v13 => k_M_added0_5 ((if t0 = (0 : Int32) then (l1 - x12) else (l1 + x12))) (v13) Q))) : k_M_added0_39 l1 t0 v Q := by
  show Gp 37 M_M_added0 39 [(0, .ref (154)), (1, .int (l1))] [.int (t0)] v (QI Q)
  refine g_istore_n (L' := [(2, .int (t0)), (0, .ref (154)), (1, .int (l1))]) e_M_added0_39 rfl (by decide) rfl ?_
  refine g_aload_n 1 e_M_added0_40 rfl rfl ?_
  refine p_callVV (d' := 2) (ci := 10) (r := (RX10, TX10, 49)) (As := []) (rest := []) e_M_added0_41 zm_M_next lV_M_185 sh_154 rfl rfl rfl rfl (Nat.le_of_ble_eq_true rfl) (by decide) ?_
  refine cp_mono h (fun _ v11 ⟨e1, h⟩ => ⟨e1, ?_⟩)
  refine g_aload_n 1 e_M_added0_44 rfl rfl ?_
  refine p_callVI (d' := 36) (ci := 10) (r := (RX10, TX10, 49)) (As := []) (rest := []) e_M_added0_45 zm_M_term0 lV_M_318 sh_154 rfl rfl rfl rfl (Nat.le_of_ble_eq_true rfl) (by decide) ?_
  refine cp_mono h (fun _ v13 ⟨x12, e1, h⟩ => ⟨x12, e1, ?_⟩)
  refine g_istore_n (L' := [(3, .int (x12)), (2, .int (t0)), (0, .ref (154)), (1, .int (l1))]) e_M_added0_48 rfl (by decide) rfl ?_
  refine g_iload_n 1 e_M_added0_49 rfl rfl ?_
  have hj : ∀ m0 : Int32, m0 = (if t0 = (0 : Int32) then (l1 - x12) else (l1 + x12)) → Gp 37 M_M_added0 62 [(0, .ref (154)), (1, .int (l1)), (2, .int (t0)), (3, .int (x12))] [.int (m0)] (v13) (QI Q) := by
    intro m0 hm0
    subst hm0
    refine g_istore_n (L' := [(1, .int ((if t0 = (0 : Int32) then (l1 - x12) else (l1 + x12)))), (0, .ref (154)), (2, .int (t0)), (3, .int (x12))]) e_M_added0_62 rfl (by decide) rfl ?_
    refine g_goto (tgt := 5) e_M_added0_63 rfl ?_
    exact g_sub [1, 0] rfl h
  refine g_if_eq (tgt := 59) e_M_added0_50 rfl (fun c14 => ?_) (fun c14 => ?_)
  · refine g_iload_n 3 e_M_added0_59 rfl rfl ?_
    refine g_iload_n 0 e_M_added0_60 rfl rfl ?_
    refine g_isub e_M_added0_61 ?_
    refine g_sub [2, 3, 1, 0] rfl ?_
    exact hj ((l1 - x12)) (by simp only [if_pos c14])
  · refine g_iload_n 3 e_M_added0_53 rfl rfl ?_
    refine g_iload_n 0 e_M_added0_54 rfl rfl ?_
    refine g_iadd e_M_added0_55 ?_
    refine g_goto (tgt := 62) e_M_added0_56 rfl ?_
    refine g_sub [2, 3, 1, 0] rfl ?_
    exact hj ((l1 + x12)) (by simp only [if_neg c14])
