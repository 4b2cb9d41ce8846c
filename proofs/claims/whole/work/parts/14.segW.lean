-- segments: W K
set_option maxHeartbeats 1000000 in
theorem s_W_name {l1 : Int32} {l2 : Int32} {l3 : Int32} {l4 : Int32} {l5 : Int32} {l6 : Int32} {v : Vv} {Q : Vv → Prop} (h : Q (sI (sI (sI (sI (sI (sI (v) 73 (ix ((0 : Int32))) l1) 73 (ix ((1 : Int32))) l2) 73 (ix ((2 : Int32))) l3) 73 (ix ((3 : Int32))) l4) 73 (ix ((4 : Int32))) l5) 73 (ix ((5 : Int32))) l6)) : m_W_name l1 l2 l3 l4 l5 l6 v Q := by
  refine cp_go (Nat.le_of_ble_eq_true rfl) (by decide +kernel) ?_
  show Gp 1 M_W_name 0 [(0, .ref (1)), (1, .int (l1)), (2, .int (l2)), (3, .int (l3)), (4, .int (l4)), (5, .int (l5)), (6, .int (l6))] [] v (QV Q)
  refine g_aload_n 0 e_W_name_0 rfl rfl ?_
  refine p_getR (j := 73) e_W_name_1 sh_1 fl_W_37 rfl (rf_1_7 _) ?_
  refine g_iconst (0 : Int32) e_W_name_4 (by decide) ?_
  refine g_iload_n 1 e_W_name_5 rfl rfl ?_
  refine p_iast e_W_name_6 sh_73 (⟨by decide, by decide⟩ : ib (0 : Int32) 6) ?_
  refine g_aload_n 0 e_W_name_7 rfl rfl ?_
  refine p_getR (j := 73) e_W_name_8 sh_1 fl_W_37 rfl (rf_1_7 _) ?_
  refine g_iconst (1 : Int32) e_W_name_11 (by decide) ?_
  refine g_iload_n 2 e_W_name_12 rfl rfl ?_
  refine p_iast e_W_name_13 sh_73 (⟨by decide, by decide⟩ : ib (1 : Int32) 6) ?_
  refine g_aload_n 0 e_W_name_14 rfl rfl ?_
  refine p_getR (j := 73) e_W_name_15 sh_1 fl_W_37 rfl (rf_1_7 _) ?_
  refine g_iconst (2 : Int32) e_W_name_18 (by decide) ?_
  refine g_iload_n 3 e_W_name_19 rfl rfl ?_
  refine p_iast e_W_name_20 sh_73 (⟨by decide, by decide⟩ : ib (2 : Int32) 6) ?_
  refine g_aload_n 0 e_W_name_21 rfl rfl ?_
  refine p_getR (j := 73) e_W_name_22 sh_1 fl_W_37 rfl (rf_1_7 _) ?_
  refine g_iconst (3 : Int32) e_W_name_25 (by decide) ?_
  refine g_iload 4 e_W_name_26 rfl ?_
  refine p_iast e_W_name_28 sh_73 (⟨by decide, by decide⟩ : ib (3 : Int32) 6) ?_
  refine g_aload_n 0 e_W_name_29 rfl rfl ?_
  refine p_getR (j := 73) e_W_name_30 sh_1 fl_W_37 rfl (rf_1_7 _) ?_
  refine g_iconst (4 : Int32) e_W_name_33 (by decide) ?_
  refine g_iload 5 e_W_name_34 rfl ?_
  refine p_iast e_W_name_36 sh_73 (⟨by decide, by decide⟩ : ib (4 : Int32) 6) ?_
  refine g_aload_n 0 e_W_name_37 rfl rfl ?_
  refine p_getR (j := 73) e_W_name_38 sh_1 fl_W_37 rfl (rf_1_7 _) ?_
  refine g_iconst (5 : Int32) e_W_name_41 (by decide) ?_
  refine g_iload 6 e_W_name_42 rfl ?_
  refine p_iast e_W_name_44 sh_73 (⟨by decide, by decide⟩ : ib (5 : Int32) 6) ?_
  exact p_retV e_W_name_45.1 rfl h
set_option maxHeartbeats 1000000 in
theorem s_W_chanceOf {l1 : Int32} {v : Vv} {Q : Int64 → Vv → Prop} (h : k_W_chanceOf_5 (l1) ((1 : Int64)) ((0 : Int32)) (v) Q) : m_W_chanceOf l1 v Q := by
  refine cp_go (Nat.le_of_ble_eq_true rfl) (by decide +kernel) ?_
  show Gp 1 M_W_chanceOf 0 [(0, .ref (1)), (1, .int (l1))] [] v (QJ Q)
  refine g_lconst (1 : Int64) e_W_chanceOf_0 (by decide) ?_
  refine g_lstore_n (L' := [(2, .long ((1 : Int64))), (0, .ref (1)), (1, .int (l1))]) e_W_chanceOf_1 rfl (by decide) rfl ?_
  refine g_iconst (0 : Int32) e_W_chanceOf_2 (by decide) ?_
  refine g_istore (L' := [(4, .int ((0 : Int32))), (2, .long ((1 : Int64))), (0, .ref (1)), (1, .int (l1))]) e_W_chanceOf_3 (by decide) rfl ?_
  exact g_sub [2, 3, 1, 0] rfl h
set_option maxHeartbeats 1000000 in
theorem s_W_chanceOf_5 {l1 : Int32} {l2 : Int64} {l4 : Int32} {v : Vv} {Q : Int64 → Vv → Prop} (h : if l4 < (v).1 74 3 then (if ((l1 >>> (l4 &&& 31)) &&& (1 : Int32)) = (1 : Int32) then ((ib (l4) 5) ∧ (k_W_chanceOf_50 (l1) (l4) (((v).1 72 (ix (l4))).toInt64) (l2) (v) Q)) else ((ib (l4) 5) ∧ (k_W_chanceOf_50 (l1) (l4) ((((100 : Int32) - (v).1 72 (ix (l4)))).toInt64) (l2) (v) Q))) else (Q (l2) (v))) : k_W_chanceOf_5 l1 l2 l4 v Q := by
  show Gp 1 M_W_chanceOf 5 [(0, .ref (1)), (1, .int (l1)), (2, .long (l2)), (4, .int (l4))] [] v (QJ Q)
  refine g_iload 3 e_W_chanceOf_5 rfl ?_
  refine g_aload_n 0 e_W_chanceOf_7 rfl rfl ?_
  refine p_getR (j := 74) e_W_chanceOf_8 sh_1 fl_W_43 rfl (rf_1_8 _) ?_
  refine p_getI e_W_chanceOf_11 sh_74 fl_W_66 rfl ?_
  refine g_icmp_ge (tgt := 58) e_W_chanceOf_14 rfl (fun c1 => ?_) (fun c1 => ?_)
  · replace h := iteF h c1
    refine g_lload_n 2 e_W_chanceOf_58 rfl rfl ?_
    exact p_retJ e_W_chanceOf_59.1 rfl h
  · replace h := iteT h c1
    refine g_lload_n 2 e_W_chanceOf_17 rfl rfl ?_
    refine g_iload_n 1 e_W_chanceOf_18 rfl rfl ?_
    refine g_iload 3 e_W_chanceOf_19 rfl ?_
    refine g_ishr e_W_chanceOf_21 ?_
    refine g_iconst (1 : Int32) e_W_chanceOf_22 (by decide) ?_
    refine g_iand e_W_chanceOf_23 ?_
    refine g_iconst (1 : Int32) e_W_chanceOf_24 (by decide) ?_
    refine g_icmp_ne (tgt := 39) e_W_chanceOf_25 rfl (fun c2 => ?_) (fun c2 => ?_)
    · replace h := iteF h c2
      refine g_bipush (100 : Int32) e_W_chanceOf_39 (by decide) ?_
      refine g_aload_n 0 e_W_chanceOf_41 rfl rfl ?_
      refine p_getR (j := 72) e_W_chanceOf_42 sh_1 fl_W_34 rfl (rf_1_6 _) ?_
      refine g_iload 3 e_W_chanceOf_45 rfl ?_
      obtain ⟨h4, h⟩ := h
      refine p_iald e_W_chanceOf_47 sh_72 h4 ?_
      refine g_isub e_W_chanceOf_48 ?_
      refine g_i2l e_W_chanceOf_49 ?_
      exact g_sub [0, 1, 3] rfl h
    · replace h := iteT h c2
      refine g_aload_n 0 e_W_chanceOf_28 rfl rfl ?_
      refine p_getR (j := 72) e_W_chanceOf_29 sh_1 fl_W_34 rfl (rf_1_6 _) ?_
      refine g_iload 3 e_W_chanceOf_32 rfl ?_
      obtain ⟨h3, h⟩ := h
      refine p_iald e_W_chanceOf_34 sh_72 h3 ?_
      refine g_i2l e_W_chanceOf_35 ?_
      refine g_goto (tgt := 50) e_W_chanceOf_36 rfl ?_
      exact g_sub [0, 1, 3] rfl h
set_option maxHeartbeats 1000000 in
theorem s_W_chanceOf_50 {l1 : Int32} {l4 : Int32} {t0 : Int64} {t1 : Int64} {v : Vv} {Q : Int64 → Vv → Prop} (h : k_W_chanceOf_5 (l1) ((t1 * t0)) ((l4 + (1 : Int32))) (v) Q) : k_W_chanceOf_50 l1 l4 t0 t1 v Q := by
  show Gp 1 M_W_chanceOf 50 [(0, .ref (1)), (1, .int (l1)), (4, .int (l4))] [.long (t0), .long (t1)] v (QJ Q)
  refine g_lmul e_W_chanceOf_50 ?_
  refine g_lstore_n (L' := [(2, .long ((t1 * t0))), (0, .ref (1)), (1, .int (l1)), (4, .int (l4))]) e_W_chanceOf_51 rfl (by decide) rfl ?_
  refine g_iinc (v := (l4 + (1 : Int32))) (L' := [(4, .int ((l4 + (1 : Int32)))), (2, .long ((t1 * t0))), (0, .ref (1)), (1, .int (l1))]) 3 e_W_chanceOf_52 rfl rfl (by decide) rfl ?_
  refine g_goto (tgt := 5) e_W_chanceOf_55 rfl ?_
  exact g_sub [2, 3, 1, 0] rfl h
set_option maxHeartbeats 1000000 in
theorem s_W_begin {l1 : Int32} {v : Vv} {Q : Vv → Prop} (h : k_W_begin_2 (l1) ((0 : Int32)) (v) Q) : m_W_begin l1 v Q := by
  refine cp_go (Nat.le_of_ble_eq_true rfl) (by decide +kernel) ?_
  show Gp 1 M_W_begin 0 [(0, .ref (1)), (1, .int (l1))] [] v (QV Q)
  refine g_iconst (0 : Int32) e_W_begin_0 (by decide) ?_
  refine g_istore_n (L' := [(2, .int ((0 : Int32))), (0, .ref (1)), (1, .int (l1))]) e_W_begin_1 rfl (by decide) rfl ?_
  exact g_sub [1, 2, 0] rfl h
set_option maxHeartbeats 1000000 in
theorem s_W_begin_2 {l1 : Int32} {l2 : Int32} {v : Vv} {Q : Vv → Prop} (h : if l2 < (v).1 74 2 then ((ib (l2) 6) ∧ ((ib (l1) 32) ∧ (k_W_begin_2 (l1) ((l2 + (1 : Int32))) (sI (sI (v) (3 + ix (l1)) (ix (l2)) ((v).1 (77 + ix (l2)) 1 + (if (v).1 (77 + ix (l2)) 2 = (1 : Int32) then (60 : Int32) else (0 : Int32)))) (36 + ix (l1)) (ix (l2)) ((sI (v) (3 + ix (l1)) (ix (l2)) ((v).1 (77 + ix (l2)) 1 + (if (v).1 (77 + ix (l2)) 2 = (1 : Int32) then (60 : Int32) else (0 : Int32)))).1 (77 + ix (l2)) 2)) Q))) else (Q (v))) : k_W_begin_2 l1 l2 v Q := by
  show Gp 1 M_W_begin 2 [(0, .ref (1)), (1, .int (l1)), (2, .int (l2))] [] v (QV Q)
  refine g_iload_n 2 e_W_begin_2 rfl rfl ?_
  refine g_aload_n 0 e_W_begin_3 rfl rfl ?_
  refine p_getR (j := 74) e_W_begin_4 sh_1 fl_W_43 rfl (rf_1_8 _) ?_
  refine p_getI e_W_begin_7 sh_74 fl_W_112 rfl ?_
  refine g_icmp_ge (tgt := 68) e_W_begin_10 rfl (fun c1 => ?_) (fun c1 => ?_)
  · replace h := iteF h c1
    exact p_retV e_W_begin_68.1 rfl h
  · replace h := iteT h c1
    refine g_aload_n 0 e_W_begin_13 rfl rfl ?_
    refine p_getR (j := 74) e_W_begin_14 sh_1 fl_W_43 rfl (rf_1_8 _) ?_
    refine p_getR (j := 75) e_W_begin_17 sh_74 fl_W_119 rfl (rf_74_0 _) ?_
    refine g_iload_n 2 e_W_begin_20 rfl rfl ?_
    obtain ⟨h2, h⟩ := h
    refine p_aald (j := (77 + ix (l2))) e_W_begin_21 sh_75 (by decide) rfl h2 (el_74c h2 _) ?_
    refine g_astore_n (L' := [(3, .ref ((77 + ix (l2)))), (0, .ref (1)), (1, .int (l1)), (2, .int (l2))]) e_W_begin_22 rfl (by decide) rfl ?_
    refine g_aload_n 1 e_W_begin_23 rfl rfl ?_
    refine p_getR (j := 2) e_W_begin_24 sh_1 fl_W_11 rfl (rf_1_0 _) ?_
    refine g_iload_n 2 e_W_begin_27 rfl rfl ?_
    obtain ⟨h3, h⟩ := h
    refine p_aald (j := (3 + ix (l1))) e_W_begin_28 sh_2 (by decide) rfl h3 (el_at h3 _) ?_
    refine g_iload_n 3 e_W_begin_29 rfl rfl ?_
    refine g_aload_n 0 e_W_begin_30 rfl rfl ?_
    refine p_getI e_W_begin_31 (isClock_o (el_74c_k h2)) fl_W_135 rfl ?_
    refine g_aload_n 0 e_W_begin_34 rfl rfl ?_
    refine p_getI e_W_begin_35 (isClock_o (el_74c_k h2)) fl_W_128 rfl ?_
    refine g_iconst (1 : Int32) e_W_begin_38 (by decide) ?_
    have hj : ∀ m0 : Int32, m0 = (if (v).1 (77 + ix (l2)) 2 = (1 : Int32) then (60 : Int32) else (0 : Int32)) → Gp 1 M_W_begin 48 [(0, .ref (1)), (1, .int (l1)), (2, .int (l2)), (3, .ref ((77 + ix (l2))))] [.int (m0), .int ((v).1 (77 + ix (l2)) 1), .int (l2), .ref ((3 + ix (l1)))] (v) (QV Q) := by
      intro m0 hm0
      subst hm0
      refine g_iadd e_W_begin_48 ?_
      refine p_iast e_W_begin_49 (el_at_s h3) h2 ?_
      refine g_aload_n 0 e_W_begin_50 rfl rfl ?_
      refine p_getR (j := 35) e_W_begin_51 sh_1 fl_W_16 rfl (rf_1_1 _) ?_
      refine g_iload_n 1 e_W_begin_54 rfl rfl ?_
      refine p_aald (j := (36 + ix (l1))) e_W_begin_55 sh_35 (by decide) rfl h3 (el_dn h3 _) ?_
      refine g_iload_n 2 e_W_begin_56 rfl rfl ?_
      refine g_aload_n 3 e_W_begin_57 rfl rfl ?_
      refine p_getI e_W_begin_58 (isClock_o (el_74c_k h2)) fl_W_128 rfl ?_
      refine p_iast e_W_begin_61 (el_dn_s h3) h2 ?_
      refine g_iinc (v := (l2 + (1 : Int32))) (L' := [(2, .int ((l2 + (1 : Int32)))), (0, .ref (1)), (1, .int (l1)), (3, .ref ((77 + ix (l2))))]) 2 e_W_begin_62 rfl rfl (by decide) rfl ?_
      refine g_goto (tgt := 2) e_W_begin_65 rfl ?_
      exact g_sub [1, 2, 0] rfl h
    refine g_icmp_ne (tgt := 47) e_W_begin_39 rfl (fun c4 => ?_) (fun c4 => ?_)
    · refine g_iconst (0 : Int32) e_W_begin_47 (by decide) ?_
      refine g_sub [1, 2, 3, 0] rfl ?_
      exact hj ((0 : Int32)) (by simp only [if_neg c4])
    · refine g_bipush (60 : Int32) e_W_begin_42 (by decide) ?_
      refine g_goto (tgt := 48) e_W_begin_44 rfl ?_
      refine g_sub [1, 2, 3, 0] rfl ?_
      exact hj ((60 : Int32)) (by simp only [if_pos c4])
set_option maxHeartbeats 1000000 in
theorem s_W_rightIn {l1 : Int32} {v : Vv} {Q : Int32 → Vv → Prop} (h : k_W_rightIn_4 (l1) ((0 : Int32)) ((0 : Int32)) (v) Q) : m_W_rightIn l1 v Q := by
  refine cp_go (Nat.le_of_ble_eq_true rfl) (by decide +kernel) ?_
  show Gp 1 M_W_rightIn 0 [(0, .ref (1)), (1, .int (l1))] [] v (QI Q)
  refine g_iconst (0 : Int32) e_W_rightIn_0 (by decide) ?_
  refine g_istore_n (L' := [(2, .int ((0 : Int32))), (0, .ref (1)), (1, .int (l1))]) e_W_rightIn_1 rfl (by decide) rfl ?_
  refine g_iconst (0 : Int32) e_W_rightIn_2 (by decide) ?_
  refine g_istore_n (L' := [(3, .int ((0 : Int32))), (2, .int ((0 : Int32))), (0, .ref (1)), (1, .int (l1))]) e_W_rightIn_3 rfl (by decide) rfl ?_
  exact g_sub [2, 3, 1, 0] rfl h
set_option maxHeartbeats 1000000 in
theorem s_W_rightIn_4 {l1 : Int32} {l2 : Int32} {l3 : Int32} {v : Vv} {Q : Int32 → Vv → Prop} (h : if l3 < (v).1 74 2 then ((ib (l1) 32) ∧ ((ib (l3) 6) ∧ (k_W_rightIn_4 (l1) ((if (v).1 (3 + ix (l1)) (ix (l3)) = (60 : Int32) then (l2 ||| ((1 : Int32) <<< (l3 &&& 31))) else l2)) ((l3 + (1 : Int32))) (v) Q))) else (Q (l2) (v))) : k_W_rightIn_4 l1 l2 l3 v Q := by
  show Gp 1 M_W_rightIn 4 [(0, .ref (1)), (1, .int (l1)), (2, .int (l2)), (3, .int (l3))] [] v (QI Q)
  refine g_iload_n 3 e_W_rightIn_4 rfl rfl ?_
  refine g_aload_n 0 e_W_rightIn_5 rfl rfl ?_
  refine p_getR (j := 74) e_W_rightIn_6 sh_1 fl_W_43 rfl (rf_1_8 _) ?_
  refine p_getI e_W_rightIn_9 sh_74 fl_W_112 rfl ?_
  refine g_icmp_ge (tgt := 40) e_W_rightIn_12 rfl (fun c1 => ?_) (fun c1 => ?_)
  · replace h := iteF h c1
    refine g_iload_n 2 e_W_rightIn_40 rfl rfl ?_
    exact p_retI e_W_rightIn_41.1 rfl h
  · replace h := iteT h c1
    refine g_aload_n 0 e_W_rightIn_15 rfl rfl ?_
    refine p_getR (j := 2) e_W_rightIn_16 sh_1 fl_W_11 rfl (rf_1_0 _) ?_
    refine g_iload_n 1 e_W_rightIn_19 rfl rfl ?_
    obtain ⟨h2, h⟩ := h
    refine p_aald (j := (3 + ix (l1))) e_W_rightIn_20 sh_2 (by decide) rfl h2 (el_at h2 _) ?_
    refine g_iload_n 3 e_W_rightIn_21 rfl rfl ?_
    obtain ⟨h3, h⟩ := h
    refine p_iald e_W_rightIn_22 (el_at_s h2) h3 ?_
    refine g_bipush (60 : Int32) e_W_rightIn_23 (by decide) ?_
    have hj : ∀ m0 : Int32, m0 = (if (v).1 (3 + ix (l1)) (ix (l3)) = (60 : Int32) then (l2 ||| ((1 : Int32) <<< (l3 &&& 31))) else l2) → Gp 1 M_W_rightIn 34 [(0, .ref (1)), (1, .int (l1)), (2, .int (m0)), (3, .int (l3))] [] (v) (QI Q) := by
      intro m0 hm0
      subst hm0
      refine g_iinc (v := (l3 + (1 : Int32))) (L' := [(3, .int ((l3 + (1 : Int32)))), (0, .ref (1)), (1, .int (l1)), (2, .int ((if (v).1 (3 + ix (l1)) (ix (l3)) = (60 : Int32) then (l2 ||| ((1 : Int32) <<< (l3 &&& 31))) else l2)))]) 3 e_W_rightIn_34 rfl rfl (by decide) rfl ?_
      refine g_goto (tgt := 4) e_W_rightIn_37 rfl ?_
      exact g_sub [1, 2, 3, 0] rfl h
    refine g_icmp_ne (tgt := 34) e_W_rightIn_25 rfl (fun c4 => ?_) (fun c4 => ?_)
    · exact hj (l2) (by simp only [if_neg c4])
    · refine g_iload_n 2 e_W_rightIn_28 rfl rfl ?_
      refine g_iconst (1 : Int32) e_W_rightIn_29 (by decide) ?_
      refine g_iload_n 3 e_W_rightIn_30 rfl rfl ?_
      refine g_ishl e_W_rightIn_31 ?_
      refine g_ior e_W_rightIn_32 ?_
      refine g_istore_n (L' := [(2, .int ((l2 ||| ((1 : Int32) <<< (l3 &&& 31))))), (0, .ref (1)), (1, .int (l1)), (3, .int (l3))]) e_W_rightIn_33 rfl (by decide) rfl ?_
      refine g_sub [1, 2, 0, 3] rfl ?_
      exact hj ((l2 ||| ((1 : Int32) <<< (l3 &&& 31)))) (by simp only [if_pos c4])
set_option maxHeartbeats 1000000 in
theorem s_W_draw {l1 : Int32} {v : Vv} {Q : Int32 → Vv → Prop} (h : k_W_draw_7 (l1) ((0 : Int32)) ((0 : Int32)) (v) Q) : m_W_draw l1 v Q := by
  refine cp_go (Nat.le_of_ble_eq_true rfl) (by decide +kernel) ?_
  show Gp 1 M_W_draw 0 [(0, .ref (1)), (1, .int (l1))] [] v (QI Q)
  refine g_iload_n 1 e_W_draw_0 rfl rfl ?_
  refine g_istore_n (L' := [(2, .int (l1)), (0, .ref (1)), (1, .int (l1))]) e_W_draw_1 rfl (by decide) rfl ?_
  refine g_iconst (0 : Int32) e_W_draw_2 (by decide) ?_
  refine g_istore_n (L' := [(3, .int ((0 : Int32))), (2, .int (l1)), (0, .ref (1)), (1, .int (l1))]) e_W_draw_3 rfl (by decide) rfl ?_
  refine g_iconst (0 : Int32) e_W_draw_4 (by decide) ?_
  refine g_istore (L' := [(4, .int ((0 : Int32))), (3, .int ((0 : Int32))), (2, .int (l1)), (0, .ref (1)), (1, .int (l1))]) e_W_draw_5 (by decide) rfl ?_
  exact g_sub [3, 2, 1, 0] rfl h
set_option maxHeartbeats 1000000 in
theorem s_W_draw_7 {l2 : Int32} {l3 : Int32} {l4 : Int32} {v : Vv} {Q : Int32 → Vv → Prop} (h : if l4 < (v).1 74 3 then ((ib (l4) 5) ∧ (k_W_draw_7 (((l2 * (1103515245 : Int32)) + (12345 : Int32))) ((if (((((l2 * (1103515245 : Int32)) + (12345 : Int32))).toUInt32 >>> (((9 : Int32)).toUInt32 &&& Int32.toUInt32 31)).toInt32 % (100 : Int32)) < (v).1 72 (ix (l4)) then (l3 ||| ((1 : Int32) <<< (l4 &&& 31))) else l3)) ((l4 + (1 : Int32))) (v) Q)) else (Q (l3) (v))) : k_W_draw_7 l2 l3 l4 v Q := by
  show Gp 1 M_W_draw 7 [(0, .ref (1)), (2, .int (l2)), (3, .int (l3)), (4, .int (l4))] [] v (QI Q)
  refine g_iload 3 e_W_draw_7 rfl ?_
  refine g_aload_n 0 e_W_draw_9 rfl rfl ?_
  refine p_getR (j := 74) e_W_draw_10 sh_1 fl_W_43 rfl (rf_1_8 _) ?_
  refine p_getI e_W_draw_13 sh_74 fl_W_66 rfl ?_
  refine g_icmp_ge (tgt := 58) e_W_draw_16 rfl (fun c1 => ?_) (fun c1 => ?_)
  · replace h := iteF h c1
    refine g_iload_n 2 e_W_draw_58 rfl rfl ?_
    exact p_retI e_W_draw_59.1 rfl h
  · replace h := iteT h c1
    refine g_iload_n 1 e_W_draw_19 rfl rfl ?_
    refine g_ldc (v := (1103515245 : Int32)) (hd := e_W_draw_20) ci_W_157 ?_
    refine g_imul e_W_draw_22 ?_
    refine g_sipush (12345 : Int32) e_W_draw_23 (by decide) ?_
    refine g_iadd e_W_draw_26 ?_
    refine g_istore_n (L' := [(2, .int (((l2 * (1103515245 : Int32)) + (12345 : Int32)))), (0, .ref (1)), (3, .int (l3)), (4, .int (l4))]) e_W_draw_27 rfl (by decide) rfl ?_
    refine g_iload_n 0 e_W_draw_28 rfl rfl ?_
    refine g_bipush (9 : Int32) e_W_draw_29 (by decide) ?_
    refine g_iushr e_W_draw_31 ?_
    refine g_bipush (100 : Int32) e_W_draw_32 (by decide) ?_
    refine g_irem e_W_draw_34 (by decide) ?_
    refine g_aload_n 1 e_W_draw_35 rfl rfl ?_
    refine p_getR (j := 72) e_W_draw_36 sh_1 fl_W_34 rfl (rf_1_6 _) ?_
    refine g_iload 3 e_W_draw_39 rfl ?_
    obtain ⟨h2, h⟩ := h
    refine p_iald e_W_draw_41 sh_72 h2 ?_
    have hj : ∀ m0 : Int32, m0 = (if (((((l2 * (1103515245 : Int32)) + (12345 : Int32))).toUInt32 >>> (((9 : Int32)).toUInt32 &&& Int32.toUInt32 31)).toInt32 % (100 : Int32)) < (v).1 72 (ix (l4)) then (l3 ||| ((1 : Int32) <<< (l4 &&& 31))) else l3) → Gp 1 M_W_draw 52 [(0, .ref (1)), (2, .int (((l2 * (1103515245 : Int32)) + (12345 : Int32)))), (3, .int (m0)), (4, .int (l4))] [] (v) (QI Q) := by
      intro m0 hm0
      subst hm0
      refine g_iinc (v := (l4 + (1 : Int32))) (L' := [(4, .int ((l4 + (1 : Int32)))), (0, .ref (1)), (2, .int (((l2 * (1103515245 : Int32)) + (12345 : Int32)))), (3, .int ((if (((((l2 * (1103515245 : Int32)) + (12345 : Int32))).toUInt32 >>> (((9 : Int32)).toUInt32 &&& Int32.toUInt32 31)).toInt32 % (100 : Int32)) < (v).1 72 (ix (l4)) then (l3 ||| ((1 : Int32) <<< (l4 &&& 31))) else l3)))]) 3 e_W_draw_52 rfl rfl (by decide) rfl ?_
      refine g_goto (tgt := 7) e_W_draw_55 rfl ?_
      exact g_sub [1, 2, 3, 0] rfl h
    refine g_icmp_ge (tgt := 52) e_W_draw_42 rfl (fun c3 => ?_) (fun c3 => ?_)
    · refine g_sub [1, 0, 2, 3] rfl ?_
      exact hj (l3) (by simp only [if_neg c3])
    · refine g_iload_n 2 e_W_draw_45 rfl rfl ?_
      refine g_iconst (1 : Int32) e_W_draw_46 (by decide) ?_
      refine g_iload 3 e_W_draw_47 rfl ?_
      refine g_ishl e_W_draw_49 ?_
      refine g_ior e_W_draw_50 ?_
      refine g_istore_n (L' := [(3, .int ((l3 ||| ((1 : Int32) <<< (l4 &&& 31))))), (2, .int (((l2 * (1103515245 : Int32)) + (12345 : Int32)))), (0, .ref (1)), (4, .int (l4))]) e_W_draw_51 rfl (by decide) rfl ?_
      refine g_sub [2, 1, 0, 3] rfl ?_
      exact hj ((l3 ||| ((1 : Int32) <<< (l4 &&& 31)))) (by simp only [if_pos c3])
set_option maxHeartbeats 1000000 in
theorem s_W_timeIn {l1 : Int32} {v : Vv} {Q : Int32 → Vv → Prop} (h : k_W_timeIn_4 (l1) ((-1 : Int32)) ((0 : Int32)) (v) Q) : m_W_timeIn l1 v Q := by
  refine cp_go (Nat.le_of_ble_eq_true rfl) (by decide +kernel) ?_
  show Gp 2 M_W_timeIn 0 [(0, .ref (1)), (1, .int (l1))] [] v (QI Q)
  refine g_iconst (-1 : Int32) e_W_timeIn_0 (by decide) ?_
  refine g_istore_n (L' := [(2, .int ((-1 : Int32))), (0, .ref (1)), (1, .int (l1))]) e_W_timeIn_1 rfl (by decide) rfl ?_
  refine g_iconst (0 : Int32) e_W_timeIn_2 (by decide) ?_
  refine g_istore_n (L' := [(3, .int ((0 : Int32))), (2, .int ((-1 : Int32))), (0, .ref (1)), (1, .int (l1))]) e_W_timeIn_3 rfl (by decide) rfl ?_
  exact g_sub [2, 3, 1, 0] rfl h
set_option maxHeartbeats 1000000 in
theorem s_W_timeIn_4 {l1 : Int32} {l2 : Int32} {l3 : Int32} {v : Vv} {Q : Int32 → Vv → Prop} (h : if l3 < (v).1 74 2 then ((ib (l3) 6) ∧ (if (v).1 (77 + ix (l3)) 3 = (-1 : Int32) then (k_W_timeIn_77 (l1) (l2) (l3) (v) Q) else ((ib (l1) 32) ∧ (m_JM_floorMod (((v).1 (77 + ix (l3)) 3 - (v).1 (3 + ix (l1)) (ix (l3))) + (60 : Int32)) (1440 : Int32) (v) (fun x5 v6 => if l2 = (-1 : Int32) then (k_W_timeIn_74 (l1) (l3) (x5) (v6) Q) else (if l2 = x5 then (k_W_timeIn_74 (l1) (l3) (x5) (v6) Q) else (Q ((-2 : Int32)) (v6)))))))) else (Q (l2) (v))) : k_W_timeIn_4 l1 l2 l3 v Q := by
  show Gp 2 M_W_timeIn 4 [(0, .ref (1)), (1, .int (l1)), (2, .int (l2)), (3, .int (l3))] [] v (QI Q)
  refine g_iload_n 3 e_W_timeIn_4 rfl rfl ?_
  refine g_aload_n 0 e_W_timeIn_5 rfl rfl ?_
  refine p_getR (j := 74) e_W_timeIn_6 sh_1 fl_W_43 rfl (rf_1_8 _) ?_
  refine p_getI e_W_timeIn_9 sh_74 fl_W_112 rfl ?_
  refine g_icmp_ge (tgt := 83) e_W_timeIn_12 rfl (fun c1 => ?_) (fun c1 => ?_)
  · replace h := iteF h c1
    refine g_iload_n 2 e_W_timeIn_83 rfl rfl ?_
    exact p_retI e_W_timeIn_84.1 rfl h
  · replace h := iteT h c1
    refine g_aload_n 0 e_W_timeIn_15 rfl rfl ?_
    refine p_getR (j := 74) e_W_timeIn_16 sh_1 fl_W_43 rfl (rf_1_8 _) ?_
    refine p_getR (j := 75) e_W_timeIn_19 sh_74 fl_W_119 rfl (rf_74_0 _) ?_
    refine g_iload_n 3 e_W_timeIn_22 rfl rfl ?_
    obtain ⟨h2, h⟩ := h
    refine p_aald (j := (77 + ix (l3))) e_W_timeIn_23 sh_75 (by decide) rfl h2 (el_74c h2 _) ?_
    refine p_getI e_W_timeIn_24 (isClock_o (el_74c_k h2)) fl_W_149 rfl ?_
    refine g_istore (L' := [(4, .int ((v).1 (77 + ix (l3)) 3)), (0, .ref (1)), (1, .int (l1)), (2, .int (l2)), (3, .int (l3))]) e_W_timeIn_27 (by decide) rfl ?_
    refine g_iload 0 e_W_timeIn_29 rfl ?_
    refine g_iconst (-1 : Int32) e_W_timeIn_31 (by decide) ?_
    refine g_icmp_ne (tgt := 38) e_W_timeIn_32 rfl (fun c3 => ?_) (fun c3 => ?_)
    · replace h := iteF h c3
      refine g_iload 0 e_W_timeIn_38 rfl ?_
      refine g_aload_n 1 e_W_timeIn_40 rfl rfl ?_
      refine p_getR (j := 2) e_W_timeIn_41 sh_1 fl_W_11 rfl (rf_1_0 _) ?_
      refine g_iload_n 2 e_W_timeIn_44 rfl rfl ?_
      obtain ⟨h4, h⟩ := h
      refine p_aald (j := (3 + ix (l1))) e_W_timeIn_45 sh_2 (by decide) rfl h4 (el_at h4 _) ?_
      refine g_iload_n 4 e_W_timeIn_46 rfl rfl ?_
      refine p_iald e_W_timeIn_47 (el_at_s h4) h2 ?_
      refine g_isub e_W_timeIn_48 ?_
      refine g_bipush (60 : Int32) e_W_timeIn_49 (by decide) ?_
      refine g_iadd e_W_timeIn_51 ?_
      refine g_sipush (1440 : Int32) e_W_timeIn_52 (by decide) ?_
      refine p_callSI (d' := 1) (As := [.int ((((v).1 (77 + ix (l3)) 3 - (v).1 (3 + ix (l1)) (ix (l3))) + (60 : Int32))), .int ((1440 : Int32))]) (rest := []) e_W_timeIn_55 zm_JM_floorMod lS_W_152 rfl rfl (Nat.le_of_ble_eq_true rfl) (by decide) ?_
      refine cp_mono h (fun _ v6 ⟨x5, e1, h⟩ => ⟨x5, e1, ?_⟩)
      refine g_istore (L' := [(5, .int (x5)), (4, .int ((v).1 (77 + ix (l3)) 3)), (0, .ref (1)), (1, .int (l1)), (2, .int (l2)), (3, .int (l3))]) e_W_timeIn_58 (by decide) rfl ?_
      refine g_iload_n 4 e_W_timeIn_60 rfl rfl ?_
      refine g_iconst (-1 : Int32) e_W_timeIn_61 (by decide) ?_
      refine g_icmp_eq (tgt := 74) e_W_timeIn_62 rfl (fun c7 => ?_) (fun c7 => ?_)
      · replace h := iteT h c7
        exact g_sub [2, 3, 5, 0] rfl h
      · replace h := iteF h c7
        refine g_iload_n 4 e_W_timeIn_65 rfl rfl ?_
        refine g_iload 0 e_W_timeIn_66 rfl ?_
        refine g_icmp_eq (tgt := 74) e_W_timeIn_68 rfl (fun c8 => ?_) (fun c8 => ?_)
        · replace h := iteT h c8
          exact g_sub [2, 3, 5, 0] rfl h
        · replace h := iteF h c8
          refine g_bipush (-2 : Int32) e_W_timeIn_71 (by decide) ?_
          exact p_retI e_W_timeIn_73.1 rfl h
    · replace h := iteT h c3
      refine g_goto (tgt := 77) e_W_timeIn_35 rfl ?_
      exact g_sub [1, 2, 3, 4] rfl h
set_option maxHeartbeats 1000000 in
theorem s_W_timeIn_77 {l1 : Int32} {l2 : Int32} {l3 : Int32} {v : Vv} {Q : Int32 → Vv → Prop} (h : k_W_timeIn_4 (l1) (l2) ((l3 + (1 : Int32))) (v) Q) : k_W_timeIn_77 l1 l2 l3 v Q := by
  show Gp 2 M_W_timeIn 77 [(0, .ref (1)), (1, .int (l1)), (2, .int (l2)), (3, .int (l3))] [] v (QI Q)
  refine g_iinc (v := (l3 + (1 : Int32))) (L' := [(3, .int ((l3 + (1 : Int32)))), (0, .ref (1)), (1, .int (l1)), (2, .int (l2))]) 3 e_W_timeIn_77 rfl rfl (by decide) rfl ?_
  refine g_goto (tgt := 4) e_W_timeIn_80 rfl ?_
  exact g_sub [1, 2, 3, 0] rfl h
set_option maxHeartbeats 1000000 in
theorem s_W_timeIn_74 {l1 : Int32} {l3 : Int32} {l5 : Int32} {v : Vv} {Q : Int32 → Vv → Prop} (h : k_W_timeIn_77 (l1) (l5) (l3) (v) Q) : k_W_timeIn_74 l1 l3 l5 v Q := by
  show Gp 2 M_W_timeIn 74 [(0, .ref (1)), (1, .int (l1)), (3, .int (l3)), (5, .int (l5))] [] v (QI Q)
  refine g_iload 3 e_W_timeIn_74 rfl ?_
  refine g_istore_n (L' := [(2, .int (l5)), (0, .ref (1)), (1, .int (l1)), (3, .int (l3)), (5, .int (l5))]) e_W_timeIn_76 rfl (by decide) rfl ?_
  exact g_sub [1, 2, 0, 3] rfl h
set_option maxHeartbeats 1000000 in
theorem s_W_says {l1 : Int32} {l2 : Int32} {v : Vv} {Q : Int32 → Vv → Prop} (h : (ib (l1) 32) ∧ ((ib (l2) 6) ∧ (m_JM_floorMod (((v).1 70 (ix (l1)) - (60 : Int32)) + (v).1 (3 + ix (l1)) (ix (l2))) (1440 : Int32) (v) (fun x3 v4 => Q (x3) (v4))))) : m_W_says l1 l2 v Q := by
  refine cp_go (Nat.le_of_ble_eq_true rfl) (by decide +kernel) ?_
  show Gp 2 M_W_says 0 [(0, .ref (1)), (1, .int (l1)), (2, .int (l2))] [] v (QI Q)
  refine g_aload_n 0 e_W_says_0 rfl rfl ?_
  refine p_getR (j := 70) e_W_says_1 sh_1 fl_W_27 rfl (rf_1_4 _) ?_
  refine g_iload_n 1 e_W_says_4 rfl rfl ?_
  obtain ⟨h1, h⟩ := h
  refine p_iald e_W_says_5 sh_70 h1 ?_
  refine g_bipush (60 : Int32) e_W_says_6 (by decide) ?_
  refine g_isub e_W_says_8 ?_
  refine g_aload_n 0 e_W_says_9 rfl rfl ?_
  refine p_getR (j := 2) e_W_says_10 sh_1 fl_W_11 rfl (rf_1_0 _) ?_
  refine g_iload_n 1 e_W_says_13 rfl rfl ?_
  refine p_aald (j := (3 + ix (l1))) e_W_says_14 sh_2 (by decide) rfl h1 (el_at h1 _) ?_
  refine g_iload_n 2 e_W_says_15 rfl rfl ?_
  obtain ⟨h2, h⟩ := h
  refine p_iald e_W_says_16 (el_at_s h1) h2 ?_
  refine g_iadd e_W_says_17 ?_
  refine g_sipush (1440 : Int32) e_W_says_18 (by decide) ?_
  refine p_callSI (d' := 1) (As := [.int ((((v).1 70 (ix (l1)) - (60 : Int32)) + (v).1 (3 + ix (l1)) (ix (l2)))), .int ((1440 : Int32))]) (rest := []) e_W_says_21 zm_JM_floorMod lS_W_152 rfl rfl (Nat.le_of_ble_eq_true rfl) (by decide) ?_
  refine cp_mono h (fun _ v4 ⟨x3, e1, h⟩ => ⟨x3, e1, ?_⟩)
  exact p_retI e_W_says_24.1 rfl h
set_option maxHeartbeats 1000000 in
theorem s_W_howLikely {l1 : Int32} {v : Vv} {Q : Int32 → Vv → Prop} (h : (ib (l1) 5) ∧ (m_D_rooms (83 + ix (l1)) (v) (fun x2 v3 => m_W_name (0 : Int32) l1 (0 : Int32) (0 : Int32) (0 : Int32) x2 (v3) (fun v5 => (isText ((v5).2.2)) ∧ (m_T_tells ((v5).2.2) (0 : Int32) (v5) (fun x6 v7 => m_P_bounded x6 (0 : Int32) (100 : Int32) (v7) (fun x9 v10 => Q (x9) (v10)))))))) : m_W_howLikely l1 v Q := by
  refine cp_go (Nat.le_of_ble_eq_true rfl) (by decide +kernel) ?_
  show Gp 3 M_W_howLikely 0 [(0, .ref (1)), (1, .int (l1))] [] v (QI Q)
  refine g_aload_n 0 e_W_howLikely_0 rfl rfl ?_
  refine g_iconst (0 : Int32) e_W_howLikely_1 (by decide) ?_
  refine g_iload_n 1 e_W_howLikely_2 rfl rfl ?_
  refine g_iconst (0 : Int32) e_W_howLikely_3 (by decide) ?_
  refine g_iconst (0 : Int32) e_W_howLikely_4 (by decide) ?_
  refine g_iconst (0 : Int32) e_W_howLikely_5 (by decide) ?_
  refine g_aload_n 0 e_W_howLikely_6 rfl rfl ?_
  refine p_getR (j := 74) e_W_howLikely_7 sh_1 fl_W_43 rfl (rf_1_8 _) ?_
  refine p_getR (j := 76) e_W_howLikely_10 sh_74 fl_W_87 rfl (rf_74_1 _) ?_
  refine g_iload_n 1 e_W_howLikely_13 rfl rfl ?_
  obtain ⟨h1, h⟩ := h
  refine p_aald (j := (83 + ix (l1))) e_W_howLikely_14 sh_76 (by decide) rfl h1 (el_74d h1 _) ?_
  refine p_callVI (d' := 2) (ci := 1) (r := (RX1, TX1, 3)) (As := []) (rest := [.int ((0 : Int32)), .int ((0 : Int32)), .int ((0 : Int32)), .int (l1), .int ((0 : Int32)), .ref (1)]) e_W_howLikely_15 zm_D_rooms lV_W_91 (isDoer_o (el_74d_k h1)) rfl rfl rfl rfl (Nat.le_of_ble_eq_true rfl) (by decide) ?_
  refine cp_mono h (fun _ v3 ⟨x2, e1, h⟩ => ⟨x2, e1, ?_⟩)
  refine p_callVV (d' := 1) (ci := 8) (r := (RX8, TX8, 13)) (As := [.int ((0 : Int32)), .int (l1), .int ((0 : Int32)), .int ((0 : Int32)), .int ((0 : Int32)), .int (x2)]) (rest := []) e_W_howLikely_18 zm_W_name lV_W_97 sh_1 rfl rfl rfl rfl (Nat.le_of_ble_eq_true rfl) (by decide) ?_
  refine cp_mono h (fun _ v5 ⟨e1, h⟩ => ⟨e1, ?_⟩)
  refine g_aload_n 0 e_W_howLikely_21 rfl rfl ?_
  refine p_getR (j := (v5).2.2) e_W_howLikely_22 sh_1 fl_W_50 rfl (if_pos ⟨rfl, rfl⟩) ?_
  refine g_iconst (0 : Int32) e_W_howLikely_25 (by decide) ?_
  refine g_aload_n 0 e_W_howLikely_26 rfl rfl ?_
  refine p_getR (j := 73) e_W_howLikely_27 sh_1 fl_W_37 rfl (rf_1_7 _) ?_
  obtain ⟨h8, h⟩ := h
  refine p_callVI (d' := 2) (ci := 7) (r := (RX7, TX7, 5)) (As := [.int ((0 : Int32)), .ref (73)]) (rest := []) e_W_howLikely_30 zm_T_tells lV_W_101 (isText_o h8) rfl rfl rfl rfl (Nat.le_of_ble_eq_true rfl) (by decide) ?_
  refine cp_mono h (fun _ v7 ⟨x6, e1, h⟩ => ⟨x6, e1, ?_⟩)
  refine g_iconst (0 : Int32) e_W_howLikely_33 (by decide) ?_
  refine g_bipush (100 : Int32) e_W_howLikely_34 (by decide) ?_
  refine p_callSNI (d' := 2) (As := [.int (x6), .int ((0 : Int32)), .int ((100 : Int32))]) (rest := []) e_W_howLikely_36 zm_P_bounded lSN_W_105 rfl rfl (Nat.le_of_ble_eq_true rfl) (by decide) ?_
  refine cp_mono h (fun _ v10 ⟨x9, e1, h⟩ => ⟨x9, e1, ?_⟩)
  exact p_retI e_W_howLikely_39.1 rfl h
set_option maxHeartbeats 1000000 in
theorem s_W_visit {l1 : Int32} {l2 : Int32} {l3 : Int32} {l4 : Int32} {v : Vv} {Q : Vv → Prop} (h : if (0 : Int32) < (v).1 74 2 then ((ib (l2) 5) ∧ ((ib (l4) 6) ∧ ((¬ (v).1 74 2 = (0 : Int32)) ∧ ((ib (l1) 32) ∧ ((ib (((v).1 (83 + ix (l2)) 1 % (v).1 74 2)) 6) ∧ (m_D_does (83 + ix (l2)) l4 ((v).1 (36 + ix (l1)) (ix (l4))) ((v).1 (3 + ix (l1)) (ix (((v).1 (83 + ix (l2)) 1 % (v).1 74 2))) - (v).1 (3 + ix (l1)) (ix (l4))) l3 (v) (fun x7 v8 => if x7 = true then (m_D_rooms (83 + ix (l2)) (v8) (fun x10 v11 => m_W_name l4 l2 ((v8).1 (77 + ix (l4)) 0) ((v8).1 (77 + ix (l4)) 1) ((v8).1 (36 + ix (l1)) (ix (l4))) x10 (v11) (fun v13 => (isText ((v13).2.2)) ∧ (m_T_tells ((v13).2.2) (1 : Int32) (v13) (fun x14 v15 => m_P_bounded x14 (-120 : Int32) (120 : Int32) (v15) (fun x17 v18 => m_D_adds (83 + ix (l2)) x17 ((v).1 (3 + ix (l1)) (ix (((v).1 (83 + ix (l2)) 1 % (v).1 74 2))) - (v).1 (3 + ix (l1)) (ix (l4))) (v18) (fun x19 v20 => Q (sI (sI (v20) (3 + ix (l1)) (ix (l4)) ((v18).1 (3 + ix (l1)) (ix (l4)) + x19)) (36 + ix (l1)) (ix (l4)) ((sI (v20) (3 + ix (l1)) (ix (l4)) ((v18).1 (3 + ix (l1)) (ix (l4)) + x19)).1 (36 + ix (l1)) (ix (l4)) + (1 : Int32)))))))))) else (Q (v8))))))))) else (Q (v))) : m_W_visit l1 l2 l3 l4 v Q := by
  refine cp_go (Nat.le_of_ble_eq_true rfl) (by decide +kernel) ?_
  show Gp 3 M_W_visit 0 [(0, .ref (1)), (1, .int (l1)), (2, .int (l2)), (3, .int (l3)), (4, .int (l4))] [] v (QV Q)
  refine g_aload_n 0 e_W_visit_0 rfl rfl ?_
  refine p_getR (j := 74) e_W_visit_1 sh_1 fl_W_43 rfl (rf_1_8 _) ?_
  refine p_getI e_W_visit_4 sh_74 fl_W_112 rfl ?_
  refine g_if_gt (tgt := 11) e_W_visit_7 rfl (fun c1 => ?_) (fun c1 => ?_)
  · replace h := iteT h c1
    refine g_aload_n 0 e_W_visit_11 rfl rfl ?_
    refine p_getR (j := 74) e_W_visit_12 sh_1 fl_W_43 rfl (rf_1_8 _) ?_
    refine p_getR (j := 76) e_W_visit_15 sh_74 fl_W_87 rfl (rf_74_1 _) ?_
    refine g_iload_n 2 e_W_visit_18 rfl rfl ?_
    obtain ⟨h2, h⟩ := h
    refine p_aald (j := (83 + ix (l2))) e_W_visit_19 sh_76 (by decide) rfl h2 (el_74d h2 _) ?_
    refine g_astore (L' := [(5, .ref ((83 + ix (l2)))), (0, .ref (1)), (1, .int (l1)), (2, .int (l2)), (3, .int (l3)), (4, .int (l4))]) e_W_visit_20 (by decide) rfl ?_
    refine g_aload_n 1 e_W_visit_22 rfl rfl ?_
    refine p_getR (j := 74) e_W_visit_23 sh_1 fl_W_43 rfl (rf_1_8 _) ?_
    refine p_getR (j := 75) e_W_visit_26 sh_74 fl_W_119 rfl (rf_74_0 _) ?_
    refine g_iload 5 e_W_visit_29 rfl ?_
    obtain ⟨h3, h⟩ := h
    refine p_aald (j := (77 + ix (l4))) e_W_visit_31 sh_75 (by decide) rfl h3 (el_74c h3 _) ?_
    refine g_astore (L' := [(6, .ref ((77 + ix (l4)))), (5, .ref ((83 + ix (l2)))), (0, .ref (1)), (1, .int (l1)), (2, .int (l2)), (3, .int (l3)), (4, .int (l4))]) e_W_visit_32 (by decide) rfl ?_
    refine g_aload 1 e_W_visit_34 rfl ?_
    refine p_getI e_W_visit_36 (isDoer_o (el_74d_k h2)) fl_W_138 rfl ?_
    refine g_aload_n 2 e_W_visit_39 rfl rfl ?_
    refine p_getR (j := 74) e_W_visit_40 sh_1 fl_W_43 rfl (rf_1_8 _) ?_
    refine p_getI e_W_visit_43 sh_74 fl_W_112 rfl ?_
    obtain ⟨h4, h⟩ := h
    refine g_irem e_W_visit_46 h4 ?_
    refine g_istore (L' := [(7, .int (((v).1 (83 + ix (l2)) 1 % (v).1 74 2))), (6, .ref ((77 + ix (l4)))), (5, .ref ((83 + ix (l2)))), (0, .ref (1)), (1, .int (l1)), (2, .int (l2)), (3, .int (l3)), (4, .int (l4))]) e_W_visit_47 (by decide) rfl ?_
    refine g_aload_n 3 e_W_visit_49 rfl rfl ?_
    refine p_getR (j := 2) e_W_visit_50 sh_1 fl_W_11 rfl (rf_1_0 _) ?_
    refine g_iload_n 4 e_W_visit_53 rfl rfl ?_
    obtain ⟨h5, h⟩ := h
    refine p_aald (j := (3 + ix (l1))) e_W_visit_54 sh_2 (by decide) rfl h5 (el_at h5 _) ?_
    refine g_iload 0 e_W_visit_55 rfl ?_
    obtain ⟨h6, h⟩ := h
    refine p_iald e_W_visit_57 (el_at_s h5) h6 ?_
    refine g_aload_n 3 e_W_visit_58 rfl rfl ?_
    refine p_getR (j := 2) e_W_visit_59 sh_1 fl_W_11 rfl (rf_1_0 _) ?_
    refine g_iload_n 4 e_W_visit_62 rfl rfl ?_
    refine p_aald (j := (3 + ix (l1))) e_W_visit_63 sh_2 (by decide) rfl h5 (el_at h5 _) ?_
    refine g_iload 7 e_W_visit_64 rfl ?_
    refine p_iald e_W_visit_66 (el_at_s h5) h3 ?_
    refine g_isub e_W_visit_67 ?_
    refine g_istore (L' := [(8, .int (((v).1 (3 + ix (l1)) (ix (((v).1 (83 + ix (l2)) 1 % (v).1 74 2))) - (v).1 (3 + ix (l1)) (ix (l4))))), (7, .int (((v).1 (83 + ix (l2)) 1 % (v).1 74 2))), (6, .ref ((77 + ix (l4)))), (5, .ref ((83 + ix (l2)))), (0, .ref (1)), (1, .int (l1)), (2, .int (l2)), (3, .int (l3)), (4, .int (l4))]) e_W_visit_68 (by decide) rfl ?_
    refine g_aload 3 e_W_visit_70 rfl ?_
    refine g_iload 8 e_W_visit_72 rfl ?_
    refine g_aload_n 4 e_W_visit_74 rfl rfl ?_
    refine p_getR (j := 35) e_W_visit_75 sh_1 fl_W_16 rfl (rf_1_1 _) ?_
    refine g_iload_n 5 e_W_visit_78 rfl rfl ?_
    refine p_aald (j := (36 + ix (l1))) e_W_visit_79 sh_35 (by decide) rfl h5 (el_dn h5 _) ?_
    refine g_iload 8 e_W_visit_80 rfl ?_
    refine p_iald e_W_visit_82 (el_dn_s h5) h3 ?_
    refine g_iload 0 e_W_visit_83 rfl ?_
    refine g_iload_n 7 e_W_visit_85 rfl rfl ?_
    refine p_callVZ (d' := 2) (ci := 1) (r := (RX1, TX1, 3)) (As := [.int (l4), .int ((v).1 (36 + ix (l1)) (ix (l4))), .int (((v).1 (3 + ix (l1)) (ix (((v).1 (83 + ix (l2)) 1 % (v).1 74 2))) - (v).1 (3 + ix (l1)) (ix (l4)))), .int (l3)]) (rest := []) e_W_visit_86 zm_D_does lV_W_141 (isDoer_o (el_74d_k h2)) rfl rfl rfl rfl (Nat.le_of_ble_eq_true rfl) (by decide) ?_
    refine cp_mono h (fun _ v8 ⟨x7, e1, h⟩ => ⟨x7, e1, ?_⟩)
    refine p_ifz_ne (tgt := 93) e_W_visit_89 rfl (fun c9 => ?_) (fun c9 => ?_)
    · replace h := iteT h c9
      refine g_aload_n 4 e_W_visit_93 rfl rfl ?_
      refine g_iload 8 e_W_visit_94 rfl ?_
      refine g_iload_n 6 e_W_visit_96 rfl rfl ?_
      refine g_aload 2 e_W_visit_97 rfl ?_
      refine p_getI e_W_visit_99 (isClock_o (el_74c_k h3)) fl_W_123 rfl ?_
      refine g_aload 2 e_W_visit_102 rfl ?_
      refine p_getI e_W_visit_104 (isClock_o (el_74c_k h3)) fl_W_135 rfl ?_
      refine g_aload_n 4 e_W_visit_107 rfl rfl ?_
      refine p_getR (j := 35) e_W_visit_108 sh_1 fl_W_16 rfl (rf_1_1 _) ?_
      refine g_iload_n 5 e_W_visit_111 rfl rfl ?_
      refine p_aald (j := (36 + ix (l1))) e_W_visit_112 sh_35 (by decide) rfl h5 (el_dn h5 _) ?_
      refine g_iload 8 e_W_visit_113 rfl ?_
      refine p_iald e_W_visit_115 (el_dn_s h5) h3 ?_
      refine g_aload 3 e_W_visit_116 rfl ?_
      refine p_callVI (d' := 2) (ci := 1) (r := (RX1, TX1, 3)) (As := []) (rest := [.int ((v8).1 (36 + ix (l1)) (ix (l4))), .int ((v8).1 (77 + ix (l4)) 1), .int ((v8).1 (77 + ix (l4)) 0), .int (l2), .int (l4), .ref (1)]) e_W_visit_118 zm_D_rooms lV_W_91 (isDoer_o (el_74d_k h2)) rfl rfl rfl rfl (Nat.le_of_ble_eq_true rfl) (by decide) ?_
      refine cp_mono h (fun _ v11 ⟨x10, e1, h⟩ => ⟨x10, e1, ?_⟩)
      refine p_callVV (d' := 1) (ci := 8) (r := (RX8, TX8, 13)) (As := [.int (l4), .int (l2), .int ((v8).1 (77 + ix (l4)) 0), .int ((v8).1 (77 + ix (l4)) 1), .int ((v8).1 (36 + ix (l1)) (ix (l4))), .int (x10)]) (rest := []) e_W_visit_121 zm_W_name lV_W_97 sh_1 rfl rfl rfl rfl (Nat.le_of_ble_eq_true rfl) (by decide) ?_
      refine cp_mono h (fun _ v13 ⟨e1, h⟩ => ⟨e1, ?_⟩)
      refine g_aload_n 4 e_W_visit_124 rfl rfl ?_
      refine p_getR (j := (v13).2.2) e_W_visit_125 sh_1 fl_W_50 rfl (if_pos ⟨rfl, rfl⟩) ?_
      refine g_iconst (1 : Int32) e_W_visit_128 (by decide) ?_
      refine g_aload_n 4 e_W_visit_129 rfl rfl ?_
      refine p_getR (j := 73) e_W_visit_130 sh_1 fl_W_37 rfl (rf_1_7 _) ?_
      obtain ⟨h16, h⟩ := h
      refine p_callVI (d' := 2) (ci := 7) (r := (RX7, TX7, 5)) (As := [.int ((1 : Int32)), .ref (73)]) (rest := []) e_W_visit_133 zm_T_tells lV_W_101 (isText_o h16) rfl rfl rfl rfl (Nat.le_of_ble_eq_true rfl) (by decide) ?_
      refine cp_mono h (fun _ v15 ⟨x14, e1, h⟩ => ⟨x14, e1, ?_⟩)
      refine g_bipush (-120 : Int32) e_W_visit_136 (by decide) ?_
      refine g_bipush (120 : Int32) e_W_visit_138 (by decide) ?_
      refine p_callSNI (d' := 2) (As := [.int (x14), .int ((-120 : Int32)), .int ((120 : Int32))]) (rest := []) e_W_visit_140 zm_P_bounded lSN_W_105 rfl rfl (Nat.le_of_ble_eq_true rfl) (by decide) ?_
      refine cp_mono h (fun _ v18 ⟨x17, e1, h⟩ => ⟨x17, e1, ?_⟩)
      refine g_istore (L' := [(9, .int (x17)), (8, .int (((v).1 (3 + ix (l1)) (ix (((v).1 (83 + ix (l2)) 1 % (v).1 74 2))) - (v).1 (3 + ix (l1)) (ix (l4))))), (7, .int (((v).1 (83 + ix (l2)) 1 % (v).1 74 2))), (6, .ref ((77 + ix (l4)))), (5, .ref ((83 + ix (l2)))), (0, .ref (1)), (1, .int (l1)), (2, .int (l2)), (3, .int (l3)), (4, .int (l4))]) e_W_visit_143 (by decide) rfl ?_
      refine g_aload_n 5 e_W_visit_145 rfl rfl ?_
      refine p_getR (j := 2) e_W_visit_146 sh_1 fl_W_11 rfl (rf_1_0 _) ?_
      refine g_iload_n 6 e_W_visit_149 rfl rfl ?_
      refine p_aald (j := (3 + ix (l1))) e_W_visit_150 sh_2 (by decide) rfl h5 (el_at h5 _) ?_
      refine g_iload 9 e_W_visit_151 rfl ?_
      refine g_dup2 e_W_visit_153 rfl rfl ?_
      refine p_iald e_W_visit_154 (el_at_s h5) h3 ?_
      refine g_aload 4 e_W_visit_155 rfl ?_
      refine g_iload 0 e_W_visit_157 rfl ?_
      refine g_iload 1 e_W_visit_159 rfl ?_
      refine p_callVI (d' := 2) (ci := 1) (r := (RX1, TX1, 3)) (As := [.int (x17), .int (((v).1 (3 + ix (l1)) (ix (((v).1 (83 + ix (l2)) 1 % (v).1 74 2))) - (v).1 (3 + ix (l1)) (ix (l4))))]) (rest := [.int ((v18).1 (3 + ix (l1)) (ix (l4))), .int (l4), .ref ((3 + ix (l1)))]) e_W_visit_161 zm_D_adds lV_W_145 (isDoer_o (el_74d_k h2)) rfl rfl rfl rfl (Nat.le_of_ble_eq_true rfl) (by decide) ?_
      refine cp_mono h (fun _ v20 ⟨x19, e1, h⟩ => ⟨x19, e1, ?_⟩)
      refine g_iadd e_W_visit_164 ?_
      refine p_iast e_W_visit_165 (el_at_s h5) h3 ?_
      refine g_aload_n 5 e_W_visit_166 rfl rfl ?_
      refine p_getR (j := 35) e_W_visit_167 sh_1 fl_W_16 rfl (rf_1_1 _) ?_
      refine g_iload_n 6 e_W_visit_170 rfl rfl ?_
      refine p_aald (j := (36 + ix (l1))) e_W_visit_171 sh_35 (by decide) rfl h5 (el_dn h5 _) ?_
      refine g_iload 9 e_W_visit_172 rfl ?_
      refine g_dup2 e_W_visit_174 rfl rfl ?_
      refine p_iald e_W_visit_175 (el_dn_s h5) h3 ?_
      refine g_iconst (1 : Int32) e_W_visit_176 (by decide) ?_
      refine g_iadd e_W_visit_177 ?_
      refine p_iast e_W_visit_178 (el_dn_s h5) h3 ?_
      exact p_retV e_W_visit_179.1 rfl h
    · replace h := iteF h c9
      exact p_retV e_W_visit_92.1 rfl h
  · replace h := iteF h c1
    exact p_retV e_W_visit_10.1 rfl h
set_option maxHeartbeats 1000000 in
theorem s_W_minds {l1 : Int32} {l2 : Int32} {v : Vv} {Q : Int32 → Vv → Prop} (h : (ib (l2) 6) ∧ ((ib (l1) 32) ∧ (m_W_name l2 (0 : Int32) ((v).1 (77 + ix (l2)) 0) ((v).1 (77 + ix (l2)) 1) ((v).1 (36 + ix (l1)) (ix (l2))) (0 : Int32) (v) (fun v4 => (isText ((v4).2.2)) ∧ (m_T_tells ((v4).2.2) (2 : Int32) (v4) (fun x5 v6 => m_P_bounded x5 (0 : Int32) (99 : Int32) (v6) (fun x8 v9 => Q (x8) (v9)))))))) : m_W_minds l1 l2 v Q := by
  refine cp_go (Nat.le_of_ble_eq_true rfl) (by decide +kernel) ?_
  show Gp 3 M_W_minds 0 [(0, .ref (1)), (1, .int (l1)), (2, .int (l2))] [] v (QI Q)
  refine g_aload_n 0 e_W_minds_0 rfl rfl ?_
  refine p_getR (j := 74) e_W_minds_1 sh_1 fl_W_43 rfl (rf_1_8 _) ?_
  refine p_getR (j := 75) e_W_minds_4 sh_74 fl_W_119 rfl (rf_74_0 _) ?_
  refine g_iload_n 2 e_W_minds_7 rfl rfl ?_
  obtain ⟨h1, h⟩ := h
  refine p_aald (j := (77 + ix (l2))) e_W_minds_8 sh_75 (by decide) rfl h1 (el_74c h1 _) ?_
  refine g_astore_n (L' := [(3, .ref ((77 + ix (l2)))), (0, .ref (1)), (1, .int (l1)), (2, .int (l2))]) e_W_minds_9 rfl (by decide) rfl ?_
  refine g_aload_n 1 e_W_minds_10 rfl rfl ?_
  refine g_iload_n 3 e_W_minds_11 rfl rfl ?_
  refine g_iconst (0 : Int32) e_W_minds_12 (by decide) ?_
  refine g_aload_n 0 e_W_minds_13 rfl rfl ?_
  refine p_getI e_W_minds_14 (isClock_o (el_74c_k h1)) fl_W_123 rfl ?_
  refine g_aload_n 0 e_W_minds_17 rfl rfl ?_
  refine p_getI e_W_minds_18 (isClock_o (el_74c_k h1)) fl_W_135 rfl ?_
  refine g_aload_n 1 e_W_minds_21 rfl rfl ?_
  refine p_getR (j := 35) e_W_minds_22 sh_1 fl_W_16 rfl (rf_1_1 _) ?_
  refine g_iload_n 2 e_W_minds_25 rfl rfl ?_
  obtain ⟨h2, h⟩ := h
  refine p_aald (j := (36 + ix (l1))) e_W_minds_26 sh_35 (by decide) rfl h2 (el_dn h2 _) ?_
  refine g_iload_n 3 e_W_minds_27 rfl rfl ?_
  refine p_iald e_W_minds_28 (el_dn_s h2) h1 ?_
  refine g_iconst (0 : Int32) e_W_minds_29 (by decide) ?_
  refine p_callVV (d' := 1) (ci := 8) (r := (RX8, TX8, 13)) (As := [.int (l2), .int ((0 : Int32)), .int ((v).1 (77 + ix (l2)) 0), .int ((v).1 (77 + ix (l2)) 1), .int ((v).1 (36 + ix (l1)) (ix (l2))), .int ((0 : Int32))]) (rest := []) e_W_minds_30 zm_W_name lV_W_97 sh_1 rfl rfl rfl rfl (Nat.le_of_ble_eq_true rfl) (by decide) ?_
  refine cp_mono h (fun _ v4 ⟨e1, h⟩ => ⟨e1, ?_⟩)
  refine g_aload_n 1 e_W_minds_33 rfl rfl ?_
  refine p_getR (j := (v4).2.2) e_W_minds_34 sh_1 fl_W_50 rfl (if_pos ⟨rfl, rfl⟩) ?_
  refine g_iconst (2 : Int32) e_W_minds_37 (by decide) ?_
  refine g_aload_n 1 e_W_minds_38 rfl rfl ?_
  refine p_getR (j := 73) e_W_minds_39 sh_1 fl_W_37 rfl (rf_1_7 _) ?_
  obtain ⟨h7, h⟩ := h
  refine p_callVI (d' := 2) (ci := 7) (r := (RX7, TX7, 5)) (As := [.int ((2 : Int32)), .ref (73)]) (rest := []) e_W_minds_42 zm_T_tells lV_W_101 (isText_o h7) rfl rfl rfl rfl (Nat.le_of_ble_eq_true rfl) (by decide) ?_
  refine cp_mono h (fun _ v6 ⟨x5, e1, h⟩ => ⟨x5, e1, ?_⟩)
  refine g_iconst (0 : Int32) e_W_minds_45 (by decide) ?_
  refine g_bipush (99 : Int32) e_W_minds_46 (by decide) ?_
  refine p_callSNI (d' := 2) (As := [.int (x5), .int ((0 : Int32)), .int ((99 : Int32))]) (rest := []) e_W_minds_48 zm_P_bounded lSN_W_105 rfl rfl (Nat.le_of_ble_eq_true rfl) (by decide) ?_
  refine cp_mono h (fun _ v9 ⟨x8, e1, h⟩ => ⟨x8, e1, ?_⟩)
  exact p_retI e_W_minds_51.1 rfl h
set_option maxHeartbeats 1000000 in
theorem s_W_play {l1 : Int32} {v : Vv} {Q : Vv → Prop} (h : m_W_begin l1 (v) (fun v2 => k_W_play_9 (l1) ((0 : Int32)) ((0 : Int32)) (v2) Q)) : m_W_play l1 v Q := by
  refine cp_go (Nat.le_of_ble_eq_true rfl) (by decide +kernel) ?_
  show Gp 4 M_W_play 0 [(0, .ref (1)), (1, .int (l1))] [] v (QV Q)
  refine g_aload_n 0 e_W_play_0 rfl rfl ?_
  refine g_iload_n 1 e_W_play_1 rfl rfl ?_
  refine p_callVV (d' := 1) (ci := 8) (r := (RX8, TX8, 13)) (As := [.int (l1)]) (rest := []) e_W_play_2 zm_W_begin lV_W_109 sh_1 rfl rfl rfl rfl (Nat.le_of_ble_eq_true rfl) (by decide) ?_
  refine cp_mono h (fun _ v2 ⟨e1, h⟩ => ⟨e1, ?_⟩)
  refine g_iconst (0 : Int32) e_W_play_5 (by decide) ?_
  refine g_istore_n (L' := [(2, .int ((0 : Int32))), (0, .ref (1)), (1, .int (l1))]) e_W_play_6 rfl (by decide) rfl ?_
  refine g_iconst (0 : Int32) e_W_play_7 (by decide) ?_
  refine g_istore_n (L' := [(3, .int ((0 : Int32))), (2, .int ((0 : Int32))), (0, .ref (1)), (1, .int (l1))]) e_W_play_8 rfl (by decide) rfl ?_
  exact g_sub [2, 3, 1, 0] rfl h
set_option maxHeartbeats 1000000 in
theorem s_W_play_9 {l1 : Int32} {l2 : Int32} {l3 : Int32} {v : Vv} {Q : Vv → Prop} (h : if l3 < (v).1 74 3 then (if ((l1 >>> (l3 &&& 31)) &&& (1 : Int32)) = (0 : Int32) then (k_W_play_131 (l1) (l2) (l3) (v) Q) else (k_W_play_34 (l1) (l2) (l3) ((0 : Int32)) (v) Q)) else (Q (v))) : k_W_play_9 l1 l2 l3 v Q := by
  show Gp 4 M_W_play 9 [(0, .ref (1)), (1, .int (l1)), (2, .int (l2)), (3, .int (l3))] [] v (QV Q)
  refine g_iload_n 3 e_W_play_9 rfl rfl ?_
  refine g_aload_n 0 e_W_play_10 rfl rfl ?_
  refine p_getR (j := 74) e_W_play_11 sh_1 fl_W_43 rfl (rf_1_8 _) ?_
  refine p_getI e_W_play_14 sh_74 fl_W_66 rfl ?_
  refine g_icmp_ge (tgt := 137) e_W_play_17 rfl (fun c3 => ?_) (fun c3 => ?_)
  · replace h := iteF h c3
    exact p_retV e_W_play_137.1 rfl h
  · replace h := iteT h c3
    refine g_iload_n 1 e_W_play_20 rfl rfl ?_
    refine g_iload_n 3 e_W_play_21 rfl rfl ?_
    refine g_ishr e_W_play_22 ?_
    refine g_iconst (1 : Int32) e_W_play_23 (by decide) ?_
    refine g_iand e_W_play_24 ?_
    refine g_if_ne (tgt := 31) e_W_play_25 rfl (fun c4 => ?_) (fun c4 => ?_)
    · replace h := iteF h c4
      refine g_iconst (0 : Int32) e_W_play_31 (by decide) ?_
      refine g_istore (L' := [(4, .int ((0 : Int32))), (0, .ref (1)), (1, .int (l1)), (2, .int (l2)), (3, .int (l3))]) e_W_play_32 (by decide) rfl ?_
      exact g_sub [1, 2, 3, 4, 0] rfl h
    · replace h := iteT h c4
      refine g_goto (tgt := 131) e_W_play_28 rfl ?_
      exact g_sub [0, 1, 2, 3] rfl h
set_option maxHeartbeats 1000000 in
theorem s_W_play_131 {l1 : Int32} {l2 : Int32} {l3 : Int32} {v : Vv} {Q : Vv → Prop} (h : k_W_play_9 (l1) (l2) ((l3 + (1 : Int32))) (v) Q) : k_W_play_131 l1 l2 l3 v Q := by
  show Gp 4 M_W_play 131 [(0, .ref (1)), (1, .int (l1)), (2, .int (l2)), (3, .int (l3))] [] v (QV Q)
  refine g_iinc (v := (l3 + (1 : Int32))) (L' := [(3, .int ((l3 + (1 : Int32)))), (0, .ref (1)), (1, .int (l1)), (2, .int (l2))]) 3 e_W_play_131 rfl rfl (by decide) rfl ?_
  refine g_goto (tgt := 9) e_W_play_134 rfl ?_
  exact g_sub [1, 2, 3, 0] rfl h
set_option maxHeartbeats 1000000 in
theorem s_W_play_34 {l1 : Int32} {l2 : Int32} {l3 : Int32} {l4 : Int32} {v : Vv} {Q : Vv → Prop} (h : if l4 < (6 : Int32) then (k_W_play_44 (l1) (l2) (l3) (l4) ((0 : Int32)) (v) Q) else (k_W_play_131 (l1) ((l2 + (1 : Int32))) (l3) (v) Q)) : k_W_play_34 l1 l2 l3 l4 v Q := by
  show Gp 4 M_W_play 34 [(0, .ref (1)), (1, .int (l1)), (2, .int (l2)), (3, .int (l3)), (4, .int (l4))] [] v (QV Q)
  refine g_iload 4 e_W_play_34 rfl ?_
  refine g_bipush (6 : Int32) e_W_play_36 (by decide) ?_
  refine g_icmp_ge (tgt := 128) e_W_play_38 rfl (fun c5 => ?_) (fun c5 => ?_)
  · replace h := iteF h c5
    refine g_iinc (v := (l2 + (1 : Int32))) (L' := [(2, .int ((l2 + (1 : Int32)))), (0, .ref (1)), (1, .int (l1)), (3, .int (l3)), (4, .int (l4))]) 2 e_W_play_128 rfl rfl (by decide) rfl ?_
    exact g_sub [1, 2, 0, 3] rfl h
  · replace h := iteT h c5
    refine g_iconst (0 : Int32) e_W_play_41 (by decide) ?_
    refine g_istore (L' := [(5, .int ((0 : Int32))), (0, .ref (1)), (1, .int (l1)), (2, .int (l2)), (3, .int (l3)), (4, .int (l4))]) e_W_play_42 (by decide) rfl ?_
    exact g_sub [1, 2, 3, 4, 5, 0] rfl h
set_option maxHeartbeats 1000000 in
theorem s_W_play_44 {l1 : Int32} {l2 : Int32} {l3 : Int32} {l4 : Int32} {l5 : Int32} {v : Vv} {Q : Vv → Prop} (h : if l5 < (v).1 74 2 then ((ib (l3) 5) ∧ (m_D_goesTo (83 + ix (l3)) l4 (v) (fun x8 v9 => if x8 = true then ((ib (l5) 6) ∧ (if (v9).1 (77 + ix (l5)) 0 = l4 then (if (v9).1 (77 + ix (l5)) 2 = (0 : Int32) then (m_W_visit l1 l3 l2 l5 (v9) (fun v15 => k_W_play_116 (l1) (l2) (l3) (l4) (l5) (v15) Q)) else (k_W_play_116 (l1) (l2) (l3) (l4) (l5) (v9) Q)) else (k_W_play_116 (l1) (l2) (l3) (l4) (l5) (v9) Q))) else (k_W_play_122 (l1) (l2) (l3) (l4) (v9) Q)))) else (k_W_play_122 (l1) (l2) (l3) (l4) (v) Q)) : k_W_play_44 l1 l2 l3 l4 l5 v Q := by
  show Gp 4 M_W_play 44 [(0, .ref (1)), (1, .int (l1)), (2, .int (l2)), (3, .int (l3)), (4, .int (l4)), (5, .int (l5))] [] v (QV Q)
  refine g_iload 5 e_W_play_44 rfl ?_
  refine g_aload_n 0 e_W_play_46 rfl rfl ?_
  refine p_getR (j := 74) e_W_play_47 sh_1 fl_W_43 rfl (rf_1_8 _) ?_
  refine p_getI e_W_play_50 sh_74 fl_W_112 rfl ?_
  refine g_icmp_ge (tgt := 122) e_W_play_53 rfl (fun c6 => ?_) (fun c6 => ?_)
  · replace h := iteF h c6
    exact g_sub [0, 1, 2, 3, 4] rfl h
  · replace h := iteT h c6
    refine g_aload_n 0 e_W_play_56 rfl rfl ?_
    refine p_getR (j := 74) e_W_play_57 sh_1 fl_W_43 rfl (rf_1_8 _) ?_
    refine p_getR (j := 76) e_W_play_60 sh_74 fl_W_87 rfl (rf_74_1 _) ?_
    refine g_iload_n 3 e_W_play_63 rfl rfl ?_
    obtain ⟨h7, h⟩ := h
    refine p_aald (j := (83 + ix (l3))) e_W_play_64 sh_76 (by decide) rfl h7 (el_74d h7 _) ?_
    refine g_iload 4 e_W_play_65 rfl ?_
    refine p_callVZ (d' := 1) (ci := 1) (r := (RX1, TX1, 3)) (As := [.int (l4)]) (rest := []) e_W_play_67 zm_D_goesTo lV_W_115 (isDoer_o (el_74d_k h7)) rfl rfl rfl rfl (Nat.le_of_ble_eq_true rfl) (by decide) ?_
    refine cp_mono h (fun _ v9 ⟨x8, e1, h⟩ => ⟨x8, e1, ?_⟩)
    refine p_ifz_eq (tgt := 122) e_W_play_70 rfl (fun c10 => ?_) (fun c10 => ?_)
    · replace h := iteF h c10
      exact g_sub [0, 1, 2, 3, 4] rfl h
    · replace h := iteT h c10
      refine g_aload_n 0 e_W_play_73 rfl rfl ?_
      refine p_getR (j := 74) e_W_play_74 sh_1 fl_W_43 rfl (rf_1_8 _) ?_
      refine p_getR (j := 75) e_W_play_77 sh_74 fl_W_119 rfl (rf_74_0 _) ?_
      refine g_iload 5 e_W_play_80 rfl ?_
      obtain ⟨h11, h⟩ := h
      refine p_aald (j := (77 + ix (l5))) e_W_play_82 sh_75 (by decide) rfl h11 (el_74c h11 _) ?_
      refine p_getI e_W_play_83 (isClock_o (el_74c_k h11)) fl_W_123 rfl ?_
      refine g_iload 4 e_W_play_86 rfl ?_
      refine g_icmp_ne (tgt := 116) e_W_play_88 rfl (fun c12 => ?_) (fun c12 => ?_)
      · replace h := iteF h c12
        exact g_sub [0, 1, 2, 3, 4, 5] rfl h
      · replace h := iteT h c12
        refine g_aload_n 0 e_W_play_91 rfl rfl ?_
        refine p_getR (j := 74) e_W_play_92 sh_1 fl_W_43 rfl (rf_1_8 _) ?_
        refine p_getR (j := 75) e_W_play_95 sh_74 fl_W_119 rfl (rf_74_0 _) ?_
        refine g_iload 5 e_W_play_98 rfl ?_
        refine p_aald (j := (77 + ix (l5))) e_W_play_100 sh_75 (by decide) rfl h11 (el_74c h11 _) ?_
        refine p_getI e_W_play_101 (isClock_o (el_74c_k h11)) fl_W_128 rfl ?_
        refine g_if_ne (tgt := 116) e_W_play_104 rfl (fun c13 => ?_) (fun c13 => ?_)
        · replace h := iteF h c13
          exact g_sub [0, 1, 2, 3, 4, 5] rfl h
        · replace h := iteT h c13
          refine g_aload_n 0 e_W_play_107 rfl rfl ?_
          refine g_iload_n 1 e_W_play_108 rfl rfl ?_
          refine g_iload_n 3 e_W_play_109 rfl rfl ?_
          refine g_iload_n 2 e_W_play_110 rfl rfl ?_
          refine g_iload 5 e_W_play_111 rfl ?_
          refine p_callVV (d' := 3) (ci := 8) (r := (RX8, TX8, 13)) (As := [.int (l1), .int (l3), .int (l2), .int (l5)]) (rest := []) e_W_play_113 zm_W_visit lV_W_131 sh_1 rfl rfl rfl rfl (Nat.le_of_ble_eq_true rfl) (by decide) ?_
          refine cp_mono h (fun _ v15 ⟨e1, h⟩ => ⟨e1, ?_⟩)
          exact g_sub [0, 1, 2, 3, 4, 5] rfl h
set_option maxHeartbeats 1000000 in
theorem s_W_play_116 {l1 : Int32} {l2 : Int32} {l3 : Int32} {l4 : Int32} {l5 : Int32} {v : Vv} {Q : Vv → Prop} (h : k_W_play_44 (l1) (l2) (l3) (l4) ((l5 + (1 : Int32))) (v) Q) : k_W_play_116 l1 l2 l3 l4 l5 v Q := by
  show Gp 4 M_W_play 116 [(0, .ref (1)), (1, .int (l1)), (2, .int (l2)), (3, .int (l3)), (4, .int (l4)), (5, .int (l5))] [] v (QV Q)
  refine g_iinc (v := (l5 + (1 : Int32))) (L' := [(5, .int ((l5 + (1 : Int32)))), (0, .ref (1)), (1, .int (l1)), (2, .int (l2)), (3, .int (l3)), (4, .int (l4))]) 5 e_W_play_116 rfl rfl (by decide) rfl ?_
  refine g_goto (tgt := 44) e_W_play_119 rfl ?_
  exact g_sub [1, 2, 3, 4, 5, 0] rfl h
set_option maxHeartbeats 1000000 in
theorem s_W_play_122 {l1 : Int32} {l2 : Int32} {l3 : Int32} {l4 : Int32} {v : Vv} {Q : Vv → Prop} (h : k_W_play_34 (l1) (l2) (l3) ((l4 + (1 : Int32))) (v) Q) : k_W_play_122 l1 l2 l3 l4 v Q := by
  show Gp 4 M_W_play 122 [(0, .ref (1)), (1, .int (l1)), (2, .int (l2)), (3, .int (l3)), (4, .int (l4))] [] v (QV Q)
  refine g_iinc (v := (l4 + (1 : Int32))) (L' := [(4, .int ((l4 + (1 : Int32)))), (0, .ref (1)), (1, .int (l1)), (2, .int (l2)), (3, .int (l3))]) 4 e_W_play_122 rfl rfl (by decide) rfl ?_
  refine g_goto (tgt := 34) e_W_play_125 rfl ?_
  exact g_sub [1, 2, 3, 4, 0] rfl h
set_option maxHeartbeats 1000000 in
theorem s_W_work {l1 : Nat} {v : Vv} {Q : Vv → Prop} (h : k_W_work_25 ((0 : Int32)) (sJ (sI (sR (v) l1) 1 10 ((1 : Int32) <<< ((sR (v) l1).1 74 3 &&& 31))) 1 11 (0 : Int64)) Q) : m_W_work l1 v Q := by
  refine cp_go (Nat.le_of_ble_eq_true rfl) (by decide +kernel) ?_
  show Gp 5 M_W_work 0 [(0, .ref (1)), (1, .ref (l1))] [] v (QV Q)
  refine g_aload_n 0 e_W_work_0 rfl rfl ?_
  refine g_aload_n 1 e_W_work_1 rfl rfl ?_
  refine p_putRule e_W_work_2 fp_W_50 ?_
  refine g_aload_n 0 e_W_work_5 rfl rfl ?_
  refine g_iconst (1 : Int32) e_W_work_6 (by decide) ?_
  refine g_aload_n 0 e_W_work_7 rfl rfl ?_
  refine p_getR (j := 74) e_W_work_8 sh_1 fl_W_43 rfl (rf_1_8 _) ?_
  refine p_getI e_W_work_11 sh_74 fl_W_66 rfl ?_
  refine g_ishl e_W_work_14 ?_
  refine p_putI e_W_work_15 sh_1 fp_W_54 rfl rfl rfl ?_
  refine g_aload_n 0 e_W_work_18 rfl rfl ?_
  refine g_lconst (0 : Int64) e_W_work_19 (by decide) ?_
  refine p_putJ e_W_work_20 sh_1 fp_W_58 rfl ?_
  refine g_iconst (0 : Int32) e_W_work_23 (by decide) ?_
  refine g_istore_n (L' := [(2, .int ((0 : Int32))), (0, .ref (1)), (1, .ref (l1))]) e_W_work_24 rfl (by decide) rfl ?_
  exact g_sub [1, 0] rfl h
set_option maxHeartbeats 1000000 in
theorem s_W_work_25 {l2 : Int32} {v : Vv} {Q : Vv → Prop} (h : if l2 < (v).1 74 3 then (m_W_howLikely l2 (v) (fun x2 v3 => (ib (l2) 5) ∧ (k_W_work_25 ((l2 + (1 : Int32))) (sI (v3) 72 (ix (l2)) x2) Q))) else (k_W_work_55 ((0 : Int32)) (v) Q)) : k_W_work_25 l2 v Q := by
  show Gp 5 M_W_work 25 [(0, .ref (1)), (2, .int (l2))] [] v (QV Q)
  refine g_iload_n 1 e_W_work_25 rfl rfl ?_
  refine g_aload_n 0 e_W_work_26 rfl rfl ?_
  refine p_getR (j := 74) e_W_work_27 sh_1 fl_W_43 rfl (rf_1_8 _) ?_
  refine p_getI e_W_work_30 sh_74 fl_W_66 rfl ?_
  refine g_icmp_ge (tgt := 53) e_W_work_33 rfl (fun c1 => ?_) (fun c1 => ?_)
  · replace h := iteF h c1
    refine g_iconst (0 : Int32) e_W_work_53 (by decide) ?_
    refine g_istore_n (L' := [(2, .int ((0 : Int32))), (0, .ref (1))]) e_W_work_54 rfl (by decide) rfl ?_
    exact g_sub [1, 0] rfl h
  · replace h := iteT h c1
    refine g_aload_n 0 e_W_work_36 rfl rfl ?_
    refine p_getR (j := 72) e_W_work_37 sh_1 fl_W_34 rfl (rf_1_6 _) ?_
    refine g_iload_n 1 e_W_work_40 rfl rfl ?_
    refine g_aload_n 0 e_W_work_41 rfl rfl ?_
    refine g_iload_n 1 e_W_work_42 rfl rfl ?_
    refine p_callVI (d' := 3) (ci := 8) (r := (RX8, TX8, 13)) (As := [.int (l2)]) (rest := [.int (l2), .ref (72)]) e_W_work_43 zm_W_howLikely lV_W_69 sh_1 rfl rfl rfl rfl (Nat.le_of_ble_eq_true rfl) (by decide) ?_
    refine cp_mono h (fun _ v3 ⟨x2, e1, h⟩ => ⟨x2, e1, ?_⟩)
    obtain ⟨h4, h⟩ := h
    refine p_iast e_W_work_46 sh_72 h4 ?_
    refine g_iinc (v := (l2 + (1 : Int32))) (L' := [(2, .int ((l2 + (1 : Int32)))), (0, .ref (1))]) 1 e_W_work_47 rfl rfl (by decide) rfl ?_
    refine g_goto (tgt := 25) e_W_work_50 rfl ?_
    exact g_sub [1, 0] rfl h
set_option maxHeartbeats 1000000 in
theorem s_W_work_55 {l2 : Int32} {v : Vv} {Q : Vv → Prop} (h : if l2 < (v).1 1 10 then (m_W_play l2 (v) (fun v7 => m_W_rightIn l2 (v7) (fun x8 v9 => (ib (l2) 32) ∧ (m_W_chanceOf l2 (sI (v9) 68 (ix (l2)) x8) (fun x11 v12 => m_W_timeIn l2 (sJ (v12) 71 (ix (l2)) x11) (fun x13 v14 => if (sI (sI (v14) 69 (ix (l2)) (nb (bI ((if x13 = (-2 : Int32) then false else true))))) 70 (ix (l2)) (if (sI (v14) 69 (ix (l2)) (nb (bI ((if x13 = (-2 : Int32) then false else true))))).1 69 (ix (l2)) = (0 : Int32) then (-1 : Int32) else x13)).1 69 (ix (l2)) = (0 : Int32) then (k_W_work_157 (l2) (sI (sI (v14) 69 (ix (l2)) (nb (bI ((if x13 = (-2 : Int32) then false else true))))) 70 (ix (l2)) (if (sI (v14) 69 (ix (l2)) (nb (bI ((if x13 = (-2 : Int32) then false else true))))).1 69 (ix (l2)) = (0 : Int32) then (-1 : Int32) else x13)) Q) else (k_W_work_157 (l2) (sJ (sI (sI (v14) 69 (ix (l2)) (nb (bI ((if x13 = (-2 : Int32) then false else true))))) 70 (ix (l2)) (if (sI (v14) 69 (ix (l2)) (nb (bI ((if x13 = (-2 : Int32) then false else true))))).1 69 (ix (l2)) = (0 : Int32) then (-1 : Int32) else x13)) 1 11 ((sI (sI (v14) 69 (ix (l2)) (nb (bI ((if x13 = (-2 : Int32) then false else true))))) 70 (ix (l2)) (if (sI (v14) 69 (ix (l2)) (nb (bI ((if x13 = (-2 : Int32) then false else true))))).1 69 (ix (l2)) = (0 : Int32) then (-1 : Int32) else x13)).2.1 1 11 + (sI (sI (v14) 69 (ix (l2)) (nb (bI ((if x13 = (-2 : Int32) then false else true))))) 70 (ix (l2)) (if (sI (v14) 69 (ix (l2)) (nb (bI ((if x13 = (-2 : Int32) then false else true))))).1 69 (ix (l2)) = (0 : Int32) then (-1 : Int32) else x13)).2.1 71 (ix (l2)))) Q))))))) else (Q (sI (v) 1 12 (0 : Int32)))) : k_W_work_55 l2 v Q := by
  show Gp 5 M_W_work 55 [(0, .ref (1)), (2, .int (l2))] [] v (QV Q)
  refine g_iload_n 1 e_W_work_55 rfl rfl ?_
  refine g_aload_n 0 e_W_work_56 rfl rfl ?_
  refine p_getI e_W_work_57 sh_1 fl_W_54 rfl ?_
  refine g_icmp_ge (tgt := 163) e_W_work_60 rfl (fun c5 => ?_) (fun c5 => ?_)
  · replace h := iteF h c5
    refine g_aload_n 0 e_W_work_163 rfl rfl ?_
    refine g_iconst (0 : Int32) e_W_work_164 (by decide) ?_
    refine p_putI e_W_work_165 sh_1 fp_W_62 rfl rfl rfl ?_
    exact p_retV e_W_work_168.1 rfl h
  · replace h := iteT h c5
    refine g_aload_n 0 e_W_work_63 rfl rfl ?_
    refine g_iload_n 1 e_W_work_64 rfl rfl ?_
    refine p_callVV (d' := 4) (ci := 8) (r := (RX8, TX8, 13)) (As := [.int (l2)]) (rest := []) e_W_work_65 zm_W_play lV_W_73 sh_1 rfl rfl rfl rfl (Nat.le_of_ble_eq_true rfl) (by decide) ?_
    refine cp_mono h (fun _ v7 ⟨e1, h⟩ => ⟨e1, ?_⟩)
    refine g_aload_n 0 e_W_work_68 rfl rfl ?_
    refine p_getR (j := 68) e_W_work_69 sh_1 fl_W_19 rfl (rf_1_2 _) ?_
    refine g_iload_n 1 e_W_work_72 rfl rfl ?_
    refine g_aload_n 0 e_W_work_73 rfl rfl ?_
    refine g_iload_n 1 e_W_work_74 rfl rfl ?_
    refine p_callVI (d' := 1) (ci := 8) (r := (RX8, TX8, 13)) (As := [.int (l2)]) (rest := [.int (l2), .ref (68)]) e_W_work_75 zm_W_rightIn lV_W_77 sh_1 rfl rfl rfl rfl (Nat.le_of_ble_eq_true rfl) (by decide) ?_
    refine cp_mono h (fun _ v9 ⟨x8, e1, h⟩ => ⟨x8, e1, ?_⟩)
    obtain ⟨h10, h⟩ := h
    refine p_iast e_W_work_78 sh_68 h10 ?_
    refine g_aload_n 0 e_W_work_79 rfl rfl ?_
    refine p_getR (j := 71) e_W_work_80 sh_1 fl_W_30 rfl (rf_1_5 _) ?_
    refine g_iload_n 1 e_W_work_83 rfl rfl ?_
    refine g_aload_n 0 e_W_work_84 rfl rfl ?_
    refine g_iload_n 1 e_W_work_85 rfl rfl ?_
    refine p_callVJ (d' := 1) (ci := 8) (r := (RX8, TX8, 13)) (As := [.int (l2)]) (rest := [.int (l2), .ref (71)]) e_W_work_86 zm_W_chanceOf lV_W_80 sh_1 rfl rfl rfl rfl (Nat.le_of_ble_eq_true rfl) (by decide) ?_
    refine cp_mono h (fun _ v12 ⟨x11, e1, h⟩ => ⟨x11, e1, ?_⟩)
    refine p_last e_W_work_89 sh_71 h10 ?_
    refine g_aload_n 0 e_W_work_90 rfl rfl ?_
    refine g_iload_n 1 e_W_work_91 rfl rfl ?_
    refine p_callVI (d' := 2) (ci := 8) (r := (RX8, TX8, 13)) (As := [.int (l2)]) (rest := []) e_W_work_92 zm_W_timeIn lV_W_84 sh_1 rfl rfl rfl rfl (Nat.le_of_ble_eq_true rfl) (by decide) ?_
    refine cp_mono h (fun _ v14 ⟨x13, e1, h⟩ => ⟨x13, e1, ?_⟩)
    refine g_istore_n (L' := [(3, .int (x13)), (0, .ref (1)), (2, .int (l2))]) e_W_work_95 rfl (by decide) rfl ?_
    refine g_aload_n 1 e_W_work_96 rfl rfl ?_
    refine p_getR (j := 69) e_W_work_97 sh_1 fl_W_23 rfl (rf_1_3 _) ?_
    refine g_iload_n 2 e_W_work_100 rfl rfl ?_
    refine g_iload_n 0 e_W_work_101 rfl rfl ?_
    refine g_bipush (-2 : Int32) e_W_work_102 (by decide) ?_
    have hj : ∀ m0 : Bool, m0 = (if x13 = (-2 : Int32) then false else true) → Gp 5 M_W_work 112 [(0, .ref (1)), (2, .int (l2)), (3, .int (x13))] [.int (bI (m0)), .int (l2), .ref (69)] (v14) (QV Q) := by
      intro m0 hm0
      subst hm0
      refine p_zast e_W_work_112 sh_69 h10 ?_
      refine g_aload_n 0 e_W_work_113 rfl rfl ?_
      refine p_getR (j := 70) e_W_work_114 sh_1 fl_W_27 rfl (rf_1_4 _) ?_
      refine g_iload_n 1 e_W_work_117 rfl rfl ?_
      refine g_aload_n 0 e_W_work_118 rfl rfl ?_
      refine p_getR (j := 69) e_W_work_119 sh_1 fl_W_23 rfl (rf_1_3 _) ?_
      refine g_iload_n 1 e_W_work_122 rfl rfl ?_
      refine p_zald e_W_work_123 sh_69 h10 ?_
      have hj : ∀ m0 : Int32, m0 = (if (sI (v14) 69 (ix (l2)) (nb (bI ((if x13 = (-2 : Int32) then false else true))))).1 69 (ix (l2)) = (0 : Int32) then (-1 : Int32) else x13) → Gp 5 M_W_work 132 [(0, .ref (1)), (2, .int (l2)), (3, .int (x13))] [.int (m0), .int (l2), .ref (70)] (sI (v14) 69 (ix (l2)) (nb (bI ((if x13 = (-2 : Int32) then false else true))))) (QV Q) := by
        intro m0 hm0
        subst hm0
        refine p_iast e_W_work_132 sh_70 h10 ?_
        refine g_aload_n 0 e_W_work_133 rfl rfl ?_
        refine p_getR (j := 69) e_W_work_134 sh_1 fl_W_23 rfl (rf_1_3 _) ?_
        refine g_iload_n 1 e_W_work_137 rfl rfl ?_
        refine p_zald e_W_work_138 sh_69 h10 ?_
        refine g_if_eq (tgt := 157) e_W_work_139 rfl (fun c17 => ?_) (fun c17 => ?_)
        · replace h := iteT h c17
          exact g_sub [0, 1] rfl h
        · replace h := iteF h c17
          refine g_aload_n 0 e_W_work_142 rfl rfl ?_
          refine g_dup e_W_work_143 rfl ?_
          refine p_getJ e_W_work_144 sh_1 fl_W_58 rfl ?_
          refine g_aload_n 0 e_W_work_147 rfl rfl ?_
          refine p_getR (j := 71) e_W_work_148 sh_1 fl_W_30 rfl (rf_1_5 _) ?_
          refine g_iload_n 1 e_W_work_151 rfl rfl ?_
          refine p_lald e_W_work_152 sh_71 h10 ?_
          refine g_ladd e_W_work_153 ?_
          refine p_putJ e_W_work_154 sh_1 fp_W_58 rfl ?_
          exact g_sub [0, 1] rfl h
      refine g_if_eq (tgt := 131) e_W_work_124 rfl (fun c16 => ?_) (fun c16 => ?_)
      · refine g_iconst (-1 : Int32) e_W_work_131 (by decide) ?_
        exact hj ((-1 : Int32)) (by simp only [if_pos c16])
      · refine g_iload_n 2 e_W_work_127 rfl rfl ?_
        refine g_goto (tgt := 132) e_W_work_128 rfl ?_
        exact hj (x13) (by simp only [if_neg c16])
    refine g_icmp_eq (tgt := 111) e_W_work_104 rfl (fun c15 => ?_) (fun c15 => ?_)
    · refine g_iconst (0 : Int32) e_W_work_111 (by decide) ?_
      refine g_sub [1, 2, 0] rfl ?_
      exact hj (false) (by simp only [if_pos c15])
    · refine g_iconst (1 : Int32) e_W_work_107 (by decide) ?_
      refine g_goto (tgt := 112) e_W_work_108 rfl ?_
      refine g_sub [1, 2, 0] rfl ?_
      exact hj (true) (by simp only [if_neg c15])
set_option maxHeartbeats 1000000 in
theorem s_W_work_157 {l2 : Int32} {v : Vv} {Q : Vv → Prop} (h : k_W_work_55 ((l2 + (1 : Int32))) (v) Q) : k_W_work_157 l2 v Q := by
  show Gp 5 M_W_work 157 [(0, .ref (1)), (2, .int (l2))] [] v (QV Q)
  refine g_iinc (v := (l2 + (1 : Int32))) (L' := [(2, .int ((l2 + (1 : Int32)))), (0, .ref (1))]) 1 e_W_work_157 rfl rfl (by decide) rfl ?_
  refine g_goto (tgt := 55) e_W_work_160 rfl ?_
  exact g_sub [1, 0] rfl h
set_option maxHeartbeats 1000000 in
theorem s_K_chanceRight {l2 : Int32} {v : Vv} {Q : Int64 → Vv → Prop} (h : k_K_chanceRight_5 (l2) ((0 : Int64)) ((0 : Int32)) (v) Q) : m_K_chanceRight l2 v Q := by
  refine cp_go (Nat.le_of_ble_eq_true rfl) (by decide +kernel) ?_
  show Gp 1 M_K_chanceRight 0 [(0, .ref (116)), (1, .ref (1)), (2, .int (l2))] [] v (QJ Q)
  refine g_lconst (0 : Int64) e_K_chanceRight_0 (by decide) ?_
  refine g_lstore_n (L' := [(3, .long ((0 : Int64))), (0, .ref (116)), (1, .ref (1)), (2, .int (l2))]) e_K_chanceRight_1 rfl (by decide) rfl ?_
  refine g_iconst (0 : Int32) e_K_chanceRight_2 (by decide) ?_
  refine g_istore (L' := [(5, .int ((0 : Int32))), (3, .long ((0 : Int64))), (0, .ref (116)), (1, .ref (1)), (2, .int (l2))]) e_K_chanceRight_3 (by decide) rfl ?_
  exact g_sub [3, 4, 1, 0] rfl h
set_option maxHeartbeats 1000000 in
theorem s_K_chanceRight_5 {l2 : Int32} {l3 : Int64} {l5 : Int32} {v : Vv} {Q : Int64 → Vv → Prop} (h : if l5 < (v).1 1 10 then ((ib (l5) 32) ∧ (k_K_chanceRight_5 (l2) ((if (v).1 69 (ix (l5)) = (0 : Int32) then l3 else (if (((v).1 68 (ix (l5)) >>> (l2 &&& 31)) &&& (1 : Int32)) = (1 : Int32) then (l3 + (v).2.1 71 (ix (l5))) else l3))) ((l5 + (1 : Int32))) (v) Q)) else (Q (l3) (v))) : k_K_chanceRight_5 l2 l3 l5 v Q := by
  show Gp 1 M_K_chanceRight 5 [(1, .ref (1)), (2, .int (l2)), (3, .long (l3)), (5, .int (l5))] [] v (QJ Q)
  refine g_iload 3 e_K_chanceRight_5 rfl ?_
  refine g_aload_n 0 e_K_chanceRight_7 rfl rfl ?_
  refine p_getI e_K_chanceRight_8 sh_1 fl_K_22 rfl ?_
  refine g_icmp_ge (tgt := 55) e_K_chanceRight_11 rfl (fun c1 => ?_) (fun c1 => ?_)
  · replace h := iteF h c1
    refine g_lload_n 2 e_K_chanceRight_55 rfl rfl ?_
    exact p_retJ e_K_chanceRight_56.1 rfl h
  · replace h := iteT h c1
    refine g_aload_n 0 e_K_chanceRight_14 rfl rfl ?_
    refine p_getR (j := 69) e_K_chanceRight_15 sh_1 fl_K_28 rfl (rf_1_3 _) ?_
    refine g_iload 3 e_K_chanceRight_18 rfl ?_
    obtain ⟨h2, h⟩ := h
    refine p_zald e_K_chanceRight_20 sh_69 h2 ?_
    have hj : ∀ m0 : Int64, m0 = (if (v).1 69 (ix (l5)) = (0 : Int32) then l3 else (if (((v).1 68 (ix (l5)) >>> (l2 &&& 31)) &&& (1 : Int32)) = (1 : Int32) then (l3 + (v).2.1 71 (ix (l5))) else l3)) → Gp 1 M_K_chanceRight 49 [(1, .ref (1)), (2, .int (l2)), (3, .long (m0)), (5, .int (l5))] [] (v) (QJ Q) := by
      intro m0 hm0
      subst hm0
      refine g_iinc (v := (l5 + (1 : Int32))) (L' := [(5, .int ((l5 + (1 : Int32)))), (1, .ref (1)), (2, .int (l2)), (3, .long ((if (v).1 69 (ix (l5)) = (0 : Int32) then l3 else (if (((v).1 68 (ix (l5)) >>> (l2 &&& 31)) &&& (1 : Int32)) = (1 : Int32) then (l3 + (v).2.1 71 (ix (l5))) else l3))))]) 3 e_K_chanceRight_49 rfl rfl (by decide) rfl ?_
      refine g_goto (tgt := 5) e_K_chanceRight_52 rfl ?_
      exact g_sub [1, 2, 3, 0] rfl h
    refine g_if_eq (tgt := 49) e_K_chanceRight_21 rfl (fun c3 => ?_) (fun c3 => ?_)
    · exact hj (l3) (by simp only [if_pos c3])
    · refine g_aload_n 0 e_K_chanceRight_24 rfl rfl ?_
      refine p_getR (j := 68) e_K_chanceRight_25 sh_1 fl_K_31 rfl (rf_1_2 _) ?_
      refine g_iload 3 e_K_chanceRight_28 rfl ?_
      refine p_iald e_K_chanceRight_30 sh_68 h2 ?_
      refine g_iload_n 1 e_K_chanceRight_31 rfl rfl ?_
      refine g_ishr e_K_chanceRight_32 ?_
      refine g_iconst (1 : Int32) e_K_chanceRight_33 (by decide) ?_
      refine g_iand e_K_chanceRight_34 ?_
      refine g_iconst (1 : Int32) e_K_chanceRight_35 (by decide) ?_
      refine g_icmp_ne (tgt := 49) e_K_chanceRight_36 rfl (fun c4 => ?_) (fun c4 => ?_)
      · exact hj (l3) (by simp only [if_neg c3, if_neg c4])
      · refine g_lload_n 2 e_K_chanceRight_39 rfl rfl ?_
        refine g_aload_n 0 e_K_chanceRight_40 rfl rfl ?_
        refine p_getR (j := 71) e_K_chanceRight_41 sh_1 fl_K_35 rfl (rf_1_5 _) ?_
        refine g_iload 3 e_K_chanceRight_44 rfl ?_
        refine p_lald e_K_chanceRight_46 sh_71 h2 ?_
        refine g_ladd e_K_chanceRight_47 ?_
        refine g_lstore_n (L' := [(3, .long ((l3 + (v).2.1 71 (ix (l5))))), (1, .ref (1)), (2, .int (l2)), (5, .int (l5))]) e_K_chanceRight_48 rfl (by decide) rfl ?_
        refine g_sub [1, 2, 0, 3] rfl ?_
        exact hj ((l3 + (v).2.1 71 (ix (l5)))) (by simp only [if_neg c3, if_pos c4])
set_option maxHeartbeats 1000000 in
theorem s_K_blindAllOf {l1 : Int32} {v : Vv} {Q : Vv → Prop} (h : (ib (l1) 64) ∧ (if (v).1 120 (ix (l1)) = (0 : Int32) then (k_K_blindAllOf_12 (l1) ((1 : Int32)) (v) Q) else (Q (v)))) : m_K_blindAllOf l1 v Q := by
  refine cp_go (Nat.le_of_ble_eq_true rfl) (by decide +kernel) ?_
  show Gp 1 M_K_blindAllOf 0 [(0, .ref (116)), (1, .int (l1))] [] v (QV Q)
  refine g_aload_n 0 e_K_blindAllOf_0 rfl rfl ?_
  refine p_getR (j := 120) e_K_blindAllOf_1 sh_116 fl_K_18 rfl (rf_116_1 _) ?_
  refine g_iload_n 1 e_K_blindAllOf_4 rfl rfl ?_
  obtain ⟨h1, h⟩ := h
  refine p_zald e_K_blindAllOf_5 sh_120 h1 ?_
  refine g_if_eq (tgt := 10) e_K_blindAllOf_6 rfl (fun c2 => ?_) (fun c2 => ?_)
  · replace h := iteT h c2
    refine g_iconst (1 : Int32) e_K_blindAllOf_10 (by decide) ?_
    refine g_istore_n (L' := [(2, .int ((1 : Int32))), (0, .ref (116)), (1, .int (l1))]) e_K_blindAllOf_11 rfl (by decide) rfl ?_
    exact g_sub [1, 2, 0] rfl h
  · replace h := iteF h c2
    exact p_retV e_K_blindAllOf_9.1 rfl h
set_option maxHeartbeats 1000000 in
theorem s_K_blindAllOf_12 {l1 : Int32} {l2 : Int32} {v : Vv} {Q : Vv → Prop} (h : if l1 < l2 then (Q (v)) else (if (l2 &&& l1) = l2 then ((ib (l2) 64) ∧ (k_K_blindAllOf_31 (l1) (l2) (sI (v) 120 (ix (l2)) (nb (1 : Int32))) Q)) else (k_K_blindAllOf_31 (l1) (l2) (v) Q))) : k_K_blindAllOf_12 l1 l2 v Q := by
  show Gp 1 M_K_blindAllOf 12 [(0, .ref (116)), (1, .int (l1)), (2, .int (l2))] [] v (QV Q)
  refine g_iload_n 2 e_K_blindAllOf_12 rfl rfl ?_
  refine g_iload_n 1 e_K_blindAllOf_13 rfl rfl ?_
  refine g_icmp_gt (tgt := 37) e_K_blindAllOf_14 rfl (fun c3 => ?_) (fun c3 => ?_)
  · replace h := iteT h c3
    exact p_retV e_K_blindAllOf_37.1 rfl h
  · replace h := iteF h c3
    refine g_iload_n 2 e_K_blindAllOf_17 rfl rfl ?_
    refine g_iload_n 1 e_K_blindAllOf_18 rfl rfl ?_
    refine g_iand e_K_blindAllOf_19 ?_
    refine g_iload_n 2 e_K_blindAllOf_20 rfl rfl ?_
    refine g_icmp_ne (tgt := 31) e_K_blindAllOf_21 rfl (fun c4 => ?_) (fun c4 => ?_)
    · replace h := iteF h c4
      exact g_sub [0, 1, 2] rfl h
    · replace h := iteT h c4
      refine g_aload_n 0 e_K_blindAllOf_24 rfl rfl ?_
      refine p_getR (j := 120) e_K_blindAllOf_25 sh_116 fl_K_18 rfl (rf_116_1 _) ?_
      refine g_iload_n 2 e_K_blindAllOf_28 rfl rfl ?_
      refine g_iconst (1 : Int32) e_K_blindAllOf_29 (by decide) ?_
      obtain ⟨h5, h⟩ := h
      refine p_zast e_K_blindAllOf_30 sh_120 h5 ?_
      exact g_sub [0, 1, 2] rfl h
set_option maxHeartbeats 1000000 in
theorem s_K_blindAllOf_31 {l1 : Int32} {l2 : Int32} {v : Vv} {Q : Vv → Prop} (h : k_K_blindAllOf_12 (l1) ((l2 + (1 : Int32))) (v) Q) : k_K_blindAllOf_31 l1 l2 v Q := by
  show Gp 1 M_K_blindAllOf 31 [(0, .ref (116)), (1, .int (l1)), (2, .int (l2))] [] v (QV Q)
  refine g_iinc (v := (l2 + (1 : Int32))) (L' := [(2, .int ((l2 + (1 : Int32)))), (0, .ref (116)), (1, .int (l1))]) 2 e_K_blindAllOf_31 rfl rfl (by decide) rfl ?_
  refine g_goto (tgt := 12) e_K_blindAllOf_34 rfl ?_
  exact g_sub [1, 2, 0] rfl h
set_option maxHeartbeats 1000000 in
theorem s_K_isAsTold {l2 : Int32} {l3 : Nat} {v : Vv} {Q : Bool → Vv → Prop} (h : (ib (l2) 32) ∧ (if (0 : Int64) < (v).2.1 71 (ix (l2)) then (k_K_isAsTold_16 (l2) (l3) ((0 : Int32)) (v) Q) else (Q false (v)))) : m_K_isAsTold l2 l3 v Q := by
  refine cp_go (Nat.le_of_ble_eq_true rfl) (by decide +kernel) ?_
  show Gp 1 M_K_isAsTold 0 [(0, .ref (116)), (1, .ref (1)), (2, .int (l2)), (3, .ref (l3))] [] v (QZ Q)
  refine g_aload_n 1 e_K_isAsTold_0 rfl rfl ?_
  refine p_getR (j := 71) e_K_isAsTold_1 sh_1 fl_K_35 rfl (rf_1_5 _) ?_
  refine g_iload_n 2 e_K_isAsTold_4 rfl rfl ?_
  obtain ⟨h1, h⟩ := h
  refine p_lald e_K_isAsTold_5 sh_71 h1 ?_
  refine g_lconst (0 : Int64) e_K_isAsTold_6 (by decide) ?_
  refine g_l_gt (tgt := 13) e_K_isAsTold_7 e_K_isAsTold_8 rfl (fun c2 => ?_) (fun c2 => ?_)
  · replace h := iteT h c2
    refine g_iconst (0 : Int32) e_K_isAsTold_13 (by decide) ?_
    refine g_istore (L' := [(4, .int ((0 : Int32))), (0, .ref (116)), (1, .ref (1)), (2, .int (l2)), (3, .ref (l3))]) e_K_isAsTold_14 (by decide) rfl ?_
    exact g_sub [2, 3, 4, 0] rfl h
  · replace h := iteF h c2
    refine g_iconst (0 : Int32) e_K_isAsTold_11 (by decide) ?_
    exact p_retZ (x := false) e_K_isAsTold_12.1 rfl h
set_option maxHeartbeats 1000000 in
theorem s_K_isAsTold_16 {l2 : Int32} {l3 : Nat} {l4 : Int32} {v : Vv} {Q : Bool → Vv → Prop} (h : if l4 < (v).1 74 2 then ((isSheet (l3)) ∧ (if l4 < (v).1 l3 2 then ((ib (l4) 40) ∧ (if (v).1 (l3 + 1) (ix (l4)) = (0 : Int32) then (k_K_isAsTold_57 (l2) (l3) (l4) ((v).1 (l3 + 1) (ix (l4))) (v) Q) else (if (v).1 (l3 + 1) (ix (l4)) = (1 : Int32) then (k_K_isAsTold_57 (l2) (l3) (l4) ((v).1 (l3 + 1) (ix (l4))) (v) Q) else (k_K_isAsTold_75 (l2) (l3) (l4) (v) Q)))) else (Q true (v)))) else (Q true (v))) : k_K_isAsTold_16 l2 l3 l4 v Q := by
  show Gp 1 M_K_isAsTold 16 [(1, .ref (1)), (2, .int (l2)), (3, .ref (l3)), (4, .int (l4))] [] v (QZ Q)
  refine g_iload 3 e_K_isAsTold_16 rfl ?_
  refine g_aload_n 0 e_K_isAsTold_18 rfl rfl ?_
  refine p_getR (j := 74) e_K_isAsTold_19 sh_1 fl_K_66 rfl (rf_1_8 _) ?_
  refine p_getI e_K_isAsTold_22 sh_74 fl_K_75 rfl ?_
  refine g_icmp_ge (tgt := 81) e_K_isAsTold_25 rfl (fun c3 => ?_) (fun c3 => ?_)
  · replace h := iteF h c3
    refine g_iconst (1 : Int32) e_K_isAsTold_81 (by decide) ?_
    exact p_retZ (x := true) e_K_isAsTold_82.1 rfl h
  · replace h := iteT h c3
    refine g_iload 3 e_K_isAsTold_28 rfl ?_
    refine g_aload_n 2 e_K_isAsTold_30 rfl rfl ?_
    obtain ⟨h4, h⟩ := h
    refine p_getI e_K_isAsTold_31 (isSheet_o h4) fl_K_134 rfl ?_
    refine g_icmp_ge (tgt := 81) e_K_isAsTold_34 rfl (fun c5 => ?_) (fun c5 => ?_)
    · replace h := iteF h c5
      refine g_iconst (1 : Int32) e_K_isAsTold_81 (by decide) ?_
      exact p_retZ (x := true) e_K_isAsTold_82.1 rfl h
    · replace h := iteT h c5
      refine g_aload_n 2 e_K_isAsTold_37 rfl rfl ?_
      refine p_getR (j := (l3 + 1)) e_K_isAsTold_38 (isSheet_o h4) fl_K_139 rfl (isSheet_cells h4 _) ?_
      refine g_iload 3 e_K_isAsTold_41 rfl ?_
      obtain ⟨h6, h⟩ := h
      refine p_iald e_K_isAsTold_43 (isSheet_cells_s h4) h6 ?_
      refine g_istore (L' := [(5, .int ((v).1 (l3 + 1) (ix (l4)))), (1, .ref (1)), (2, .int (l2)), (3, .ref (l3)), (4, .int (l4))]) e_K_isAsTold_44 (by decide) rfl ?_
      refine g_iload 0 e_K_isAsTold_46 rfl ?_
      refine g_if_eq (tgt := 57) e_K_isAsTold_48 rfl (fun c7 => ?_) (fun c7 => ?_)
      · replace h := iteT h c7
        exact g_sub [1, 2, 3, 4, 0] rfl h
      · replace h := iteF h c7
        refine g_iload 0 e_K_isAsTold_51 rfl ?_
        refine g_iconst (1 : Int32) e_K_isAsTold_53 (by decide) ?_
        refine g_icmp_ne (tgt := 75) e_K_isAsTold_54 rfl (fun c8 => ?_) (fun c8 => ?_)
        · replace h := iteF h c8
          exact g_sub [1, 2, 3, 4] rfl h
        · replace h := iteT h c8
          exact g_sub [1, 2, 3, 4, 0] rfl h
set_option maxHeartbeats 1000000 in
theorem s_K_isAsTold_57 {l2 : Int32} {l3 : Nat} {l4 : Int32} {l5 : Int32} {v : Vv} {Q : Bool → Vv → Prop} (h : (ib (l2) 32) ∧ (if l5 = (((v).1 68 (ix (l2)) >>> (l4 &&& 31)) &&& (1 : Int32)) then (k_K_isAsTold_75 (l2) (l3) (l4) (v) Q) else (Q false (v)))) : k_K_isAsTold_57 l2 l3 l4 l5 v Q := by
  show Gp 1 M_K_isAsTold 57 [(1, .ref (1)), (2, .int (l2)), (3, .ref (l3)), (4, .int (l4)), (5, .int (l5))] [] v (QZ Q)
  refine g_iload 4 e_K_isAsTold_57 rfl ?_
  refine g_aload_n 0 e_K_isAsTold_59 rfl rfl ?_
  refine p_getR (j := 68) e_K_isAsTold_60 sh_1 fl_K_31 rfl (rf_1_2 _) ?_
  refine g_iload_n 1 e_K_isAsTold_63 rfl rfl ?_
  obtain ⟨h9, h⟩ := h
  refine p_iald e_K_isAsTold_64 sh_68 h9 ?_
  refine g_iload 3 e_K_isAsTold_65 rfl ?_
  refine g_ishr e_K_isAsTold_67 ?_
  refine g_iconst (1 : Int32) e_K_isAsTold_68 (by decide) ?_
  refine g_iand e_K_isAsTold_69 ?_
  refine g_icmp_eq (tgt := 75) e_K_isAsTold_70 rfl (fun c10 => ?_) (fun c10 => ?_)
  · replace h := iteT h c10
    exact g_sub [0, 1, 2, 3] rfl h
  · replace h := iteF h c10
    refine g_iconst (0 : Int32) e_K_isAsTold_73 (by decide) ?_
    exact p_retZ (x := false) e_K_isAsTold_74.1 rfl h
set_option maxHeartbeats 1000000 in
theorem s_K_isAsTold_75 {l2 : Int32} {l3 : Nat} {l4 : Int32} {v : Vv} {Q : Bool → Vv → Prop} (h : k_K_isAsTold_16 (l2) (l3) ((l4 + (1 : Int32))) (v) Q) : k_K_isAsTold_75 l2 l3 l4 v Q := by
  show Gp 1 M_K_isAsTold 75 [(1, .ref (1)), (2, .int (l2)), (3, .ref (l3)), (4, .int (l4))] [] v (QZ Q)
  refine g_iinc (v := (l4 + (1 : Int32))) (L' := [(4, .int ((l4 + (1 : Int32)))), (1, .ref (1)), (2, .int (l2)), (3, .ref (l3))]) 3 e_K_isAsTold_75 rfl rfl (by decide) rfl ?_
  refine g_goto (tgt := 16) e_K_isAsTold_78 rfl ?_
  exact g_sub [1, 2, 3, 0] rfl h
set_option maxHeartbeats 1000000 in
theorem s_K_sumTimes  {v : Vv} {Q : Vv → Prop} (h : k_K_sumTimes_10 ((0 : Int32)) (sI (v) 117 2 (0 : Int32)) Q) : m_K_sumTimes  v Q := by
  refine cp_go (Nat.le_of_ble_eq_true rfl) (by decide +kernel) ?_
  show Gp 2 M_K_sumTimes 0 [(0, .ref (116)), (1, .ref (1))] [] v (QV Q)
  refine g_aload_n 0 e_K_sumTimes_0 rfl rfl ?_
  refine p_getR (j := 117) e_K_sumTimes_1 sh_116 fl_K_12 rfl (rf_116_0 _) ?_
  refine g_iconst (0 : Int32) e_K_sumTimes_4 (by decide) ?_
  refine p_putI e_K_sumTimes_5 sh_117 fp_K_39 rfl rfl rfl ?_
  refine g_iconst (0 : Int32) e_K_sumTimes_8 (by decide) ?_
  refine g_istore_n (L' := [(2, .int ((0 : Int32))), (0, .ref (116)), (1, .ref (1))]) e_K_sumTimes_9 rfl (by decide) rfl ?_
  exact g_sub [1, 2, 0] rfl h
set_option maxHeartbeats 1000000 in
theorem s_K_sumTimes_10 {l2 : Int32} {v : Vv} {Q : Vv → Prop} (h : if l2 < (v).1 1 10 then ((ib (l2) 32) ∧ (if (v).1 70 (ix (l2)) = (-1 : Int32) then (k_K_sumTimes_47 (l2) (v) Q) else (m_U_add ((v).1 70 (ix (l2))) ((v).2.1 71 (ix (l2))) (v) (fun v5 => k_K_sumTimes_47 (l2) (v5) Q)))) else (Q (v))) : k_K_sumTimes_10 l2 v Q := by
  show Gp 2 M_K_sumTimes 10 [(0, .ref (116)), (1, .ref (1)), (2, .int (l2))] [] v (QV Q)
  refine g_iload_n 2 e_K_sumTimes_10 rfl rfl ?_
  refine g_aload_n 1 e_K_sumTimes_11 rfl rfl ?_
  refine p_getI e_K_sumTimes_12 sh_1 fl_K_22 rfl ?_
  refine g_icmp_ge (tgt := 53) e_K_sumTimes_15 rfl (fun c1 => ?_) (fun c1 => ?_)
  · replace h := iteF h c1
    exact p_retV e_K_sumTimes_53.1 rfl h
  · replace h := iteT h c1
    refine g_aload_n 1 e_K_sumTimes_18 rfl rfl ?_
    refine p_getR (j := 70) e_K_sumTimes_19 sh_1 fl_K_40 rfl (rf_1_4 _) ?_
    refine g_iload_n 2 e_K_sumTimes_22 rfl rfl ?_
    obtain ⟨h2, h⟩ := h
    refine p_iald e_K_sumTimes_23 sh_70 h2 ?_
    refine g_iconst (-1 : Int32) e_K_sumTimes_24 (by decide) ?_
    refine g_icmp_eq (tgt := 47) e_K_sumTimes_25 rfl (fun c3 => ?_) (fun c3 => ?_)
    · replace h := iteT h c3
      exact g_sub [0, 1, 2] rfl h
    · replace h := iteF h c3
      refine g_aload_n 0 e_K_sumTimes_28 rfl rfl ?_
      refine p_getR (j := 117) e_K_sumTimes_29 sh_116 fl_K_12 rfl (rf_116_0 _) ?_
      refine g_aload_n 1 e_K_sumTimes_32 rfl rfl ?_
      refine p_getR (j := 70) e_K_sumTimes_33 sh_1 fl_K_40 rfl (rf_1_4 _) ?_
      refine g_iload_n 2 e_K_sumTimes_36 rfl rfl ?_
      refine p_iald e_K_sumTimes_37 sh_70 h2 ?_
      refine g_aload_n 1 e_K_sumTimes_38 rfl rfl ?_
      refine p_getR (j := 71) e_K_sumTimes_39 sh_1 fl_K_35 rfl (rf_1_5 _) ?_
      refine g_iload_n 2 e_K_sumTimes_42 rfl rfl ?_
      refine p_lald e_K_sumTimes_43 sh_71 h2 ?_
      refine p_callVV (d' := 1) (ci := 6) (r := (RX6, TX6, 3)) (As := [.int ((v).1 70 (ix (l2))), .long ((v).2.1 71 (ix (l2)))]) (rest := []) e_K_sumTimes_44 zm_U_add lV_K_43 sh_117 rfl rfl rfl rfl (Nat.le_of_ble_eq_true rfl) (by decide) ?_
      refine cp_mono h (fun _ v5 ⟨e1, h⟩ => ⟨e1, ?_⟩)
      exact g_sub [0, 1, 2] rfl h
set_option maxHeartbeats 1000000 in
theorem s_K_sumTimes_47 {l2 : Int32} {v : Vv} {Q : Vv → Prop} (h : k_K_sumTimes_10 ((l2 + (1 : Int32))) (v) Q) : k_K_sumTimes_47 l2 v Q := by
  show Gp 2 M_K_sumTimes 47 [(0, .ref (116)), (1, .ref (1)), (2, .int (l2))] [] v (QV Q)
  refine g_iinc (v := (l2 + (1 : Int32))) (L' := [(2, .int ((l2 + (1 : Int32)))), (0, .ref (116)), (1, .ref (1))]) 2 e_K_sumTimes_47 rfl rfl (by decide) rfl ?_
  refine g_goto (tgt := 10) e_K_sumTimes_50 rfl ?_
  exact g_sub [1, 2, 0] rfl h
set_option maxHeartbeats 1000000 in
theorem s_K_blindBy {l2 : Int32} {l3 : Int32} {v : Vv} {Q : Vv → Prop} (h : k_K_blindBy_3 (l2) (l3) ((0 : Int32)) (v) Q) : m_K_blindBy l2 l3 v Q := by
  refine cp_go (Nat.le_of_ble_eq_true rfl) (by decide +kernel) ?_
  show Gp 2 M_K_blindBy 0 [(0, .ref (116)), (1, .ref (1)), (2, .int (l2)), (3, .int (l3))] [] v (QV Q)
  refine g_iconst (0 : Int32) e_K_blindBy_0 (by decide) ?_
  refine g_istore (L' := [(4, .int ((0 : Int32))), (0, .ref (116)), (1, .ref (1)), (2, .int (l2)), (3, .int (l3))]) e_K_blindBy_1 (by decide) rfl ?_
  exact g_sub [1, 2, 3, 4, 0] rfl h
set_option maxHeartbeats 1000000 in
theorem s_K_blindBy_3 {l2 : Int32} {l3 : Int32} {l4 : Int32} {v : Vv} {Q : Vv → Prop} (h : if l4 < (v).1 74 2 then ((ib (l2) 32) ∧ ((ib (l4) 6) ∧ ((ib (l3) 32) ∧ (if (0 : Int32) < ((v).1 (3 + ix (l2)) (ix (l4)) - (v).1 (3 + ix (l3)) (ix (l4))) then (k_K_blindBy_50 (l2) (l3) (l4) (((v).1 (3 + ix (l2)) (ix (l4)) - (v).1 (3 + ix (l3)) (ix (l4)))) ((0 : Int32)) ((0 : Int32)) (v) Q) else (k_K_blindBy_107 (l2) (l3) (l4) (v) Q))))) else (Q (v))) : k_K_blindBy_3 l2 l3 l4 v Q := by
  show Gp 2 M_K_blindBy 3 [(0, .ref (116)), (1, .ref (1)), (2, .int (l2)), (3, .int (l3)), (4, .int (l4))] [] v (QV Q)
  refine g_iload 4 e_K_blindBy_3 rfl ?_
  refine g_aload_n 1 e_K_blindBy_5 rfl rfl ?_
  refine p_getR (j := 74) e_K_blindBy_6 sh_1 fl_K_66 rfl (rf_1_8 _) ?_
  refine p_getI e_K_blindBy_9 sh_74 fl_K_75 rfl ?_
  refine g_icmp_ge (tgt := 113) e_K_blindBy_12 rfl (fun c1 => ?_) (fun c1 => ?_)
  · replace h := iteF h c1
    exact p_retV e_K_blindBy_113.1 rfl h
  · replace h := iteT h c1
    refine g_aload_n 1 e_K_blindBy_15 rfl rfl ?_
    refine p_getR (j := 2) e_K_blindBy_16 sh_1 fl_K_105 rfl (rf_1_0 _) ?_
    refine g_iload_n 2 e_K_blindBy_19 rfl rfl ?_
    obtain ⟨h2, h⟩ := h
    refine p_aald (j := (3 + ix (l2))) e_K_blindBy_20 sh_2 (by decide) rfl h2 (el_at h2 _) ?_
    refine g_iload 4 e_K_blindBy_21 rfl ?_
    obtain ⟨h3, h⟩ := h
    refine p_iald e_K_blindBy_23 (el_at_s h2) h3 ?_
    refine g_aload_n 1 e_K_blindBy_24 rfl rfl ?_
    refine p_getR (j := 2) e_K_blindBy_25 sh_1 fl_K_105 rfl (rf_1_0 _) ?_
    refine g_iload_n 3 e_K_blindBy_28 rfl rfl ?_
    obtain ⟨h4, h⟩ := h
    refine p_aald (j := (3 + ix (l3))) e_K_blindBy_29 sh_2 (by decide) rfl h4 (el_at h4 _) ?_
    refine g_iload 4 e_K_blindBy_30 rfl ?_
    refine p_iald e_K_blindBy_32 (el_at_s h4) h3 ?_
    refine g_isub e_K_blindBy_33 ?_
    refine g_istore (L' := [(5, .int (((v).1 (3 + ix (l2)) (ix (l4)) - (v).1 (3 + ix (l3)) (ix (l4))))), (0, .ref (116)), (1, .ref (1)), (2, .int (l2)), (3, .int (l3)), (4, .int (l4))]) e_K_blindBy_34 (by decide) rfl ?_
    refine g_iload 0 e_K_blindBy_36 rfl ?_
    refine g_if_gt (tgt := 44) e_K_blindBy_38 rfl (fun c5 => ?_) (fun c5 => ?_)
    · replace h := iteT h c5
      refine g_iconst (0 : Int32) e_K_blindBy_44 (by decide) ?_
      refine g_istore (L' := [(6, .int ((0 : Int32))), (5, .int (((v).1 (3 + ix (l2)) (ix (l4)) - (v).1 (3 + ix (l3)) (ix (l4))))), (0, .ref (116)), (1, .ref (1)), (2, .int (l2)), (3, .int (l3)), (4, .int (l4))]) e_K_blindBy_45 (by decide) rfl ?_
      refine g_iconst (0 : Int32) e_K_blindBy_47 (by decide) ?_
      refine g_istore (L' := [(7, .int ((0 : Int32))), (6, .int ((0 : Int32))), (5, .int (((v).1 (3 + ix (l2)) (ix (l4)) - (v).1 (3 + ix (l3)) (ix (l4))))), (0, .ref (116)), (1, .ref (1)), (2, .int (l2)), (3, .int (l3)), (4, .int (l4))]) e_K_blindBy_48 (by decide) rfl ?_
      exact g_sub [3, 4, 5, 6, 7, 2, 1, 0] rfl h
    · replace h := iteF h c5
      refine g_goto (tgt := 107) e_K_blindBy_41 rfl ?_
      exact g_sub [1, 2, 3, 4, 5] rfl h
set_option maxHeartbeats 1000000 in
theorem s_K_blindBy_50 {l2 : Int32} {l3 : Int32} {l4 : Int32} {l5 : Int32} {l6 : Int32} {l7 : Int32} {v : Vv} {Q : Vv → Prop} (h : if l7 < (v).1 74 2 then ((ib (l2) 32) ∧ ((ib (l7) 6) ∧ ((ib (l3) 32) ∧ (k_K_blindBy_50 (l2) (l3) (l4) (l5) ((if ((v).1 (3 + ix (l2)) (ix (l7)) - (v).1 (3 + ix (l3)) (ix (l7))) = l5 then (l6 ||| ((1 : Int32) <<< (l7 &&& 31))) else l6)) ((l7 + (1 : Int32))) (v) Q)))) else (m_K_blindAllOf l6 (v) (fun v12 => k_K_blindBy_107 (l2) (l3) (l4) (v12) Q))) : k_K_blindBy_50 l2 l3 l4 l5 l6 l7 v Q := by
  show Gp 2 M_K_blindBy 50 [(0, .ref (116)), (1, .ref (1)), (2, .int (l2)), (3, .int (l3)), (4, .int (l4)), (5, .int (l5)), (6, .int (l6)), (7, .int (l7))] [] v (QV Q)
  refine g_iload 7 e_K_blindBy_50 rfl ?_
  refine g_aload_n 1 e_K_blindBy_52 rfl rfl ?_
  refine p_getR (j := 74) e_K_blindBy_53 sh_1 fl_K_66 rfl (rf_1_8 _) ?_
  refine p_getI e_K_blindBy_56 sh_74 fl_K_75 rfl ?_
  refine g_icmp_ge (tgt := 101) e_K_blindBy_59 rfl (fun c6 => ?_) (fun c6 => ?_)
  · replace h := iteF h c6
    refine g_aload_n 0 e_K_blindBy_101 rfl rfl ?_
    refine g_iload 6 e_K_blindBy_102 rfl ?_
    refine p_callVV (d' := 1) (ci := 3) (r := (RX3, TX3, 2)) (As := [.int (l6)]) (rest := []) e_K_blindBy_104 zm_K_blindAllOf lV_K_109 sh_116 rfl rfl rfl rfl (Nat.le_of_ble_eq_true rfl) (by decide) ?_
    refine cp_mono h (fun _ v12 ⟨e1, h⟩ => ⟨e1, ?_⟩)
    exact g_sub [0, 1, 2, 3, 4] rfl h
  · replace h := iteT h c6
    refine g_aload_n 1 e_K_blindBy_62 rfl rfl ?_
    refine p_getR (j := 2) e_K_blindBy_63 sh_1 fl_K_105 rfl (rf_1_0 _) ?_
    refine g_iload_n 2 e_K_blindBy_66 rfl rfl ?_
    obtain ⟨h7, h⟩ := h
    refine p_aald (j := (3 + ix (l2))) e_K_blindBy_67 sh_2 (by decide) rfl h7 (el_at h7 _) ?_
    refine g_iload 7 e_K_blindBy_68 rfl ?_
    obtain ⟨h8, h⟩ := h
    refine p_iald e_K_blindBy_70 (el_at_s h7) h8 ?_
    refine g_aload_n 1 e_K_blindBy_71 rfl rfl ?_
    refine p_getR (j := 2) e_K_blindBy_72 sh_1 fl_K_105 rfl (rf_1_0 _) ?_
    refine g_iload_n 3 e_K_blindBy_75 rfl rfl ?_
    obtain ⟨h9, h⟩ := h
    refine p_aald (j := (3 + ix (l3))) e_K_blindBy_76 sh_2 (by decide) rfl h9 (el_at h9 _) ?_
    refine g_iload 7 e_K_blindBy_77 rfl ?_
    refine p_iald e_K_blindBy_79 (el_at_s h9) h8 ?_
    refine g_isub e_K_blindBy_80 ?_
    refine g_iload 5 e_K_blindBy_81 rfl ?_
    have hj : ∀ m0 : Int32, m0 = (if ((v).1 (3 + ix (l2)) (ix (l7)) - (v).1 (3 + ix (l3)) (ix (l7))) = l5 then (l6 ||| ((1 : Int32) <<< (l7 &&& 31))) else l6) → Gp 2 M_K_blindBy 95 [(0, .ref (116)), (1, .ref (1)), (2, .int (l2)), (3, .int (l3)), (4, .int (l4)), (5, .int (l5)), (6, .int (m0)), (7, .int (l7))] [] (v) (QV Q) := by
      intro m0 hm0
      subst hm0
      refine g_iinc (v := (l7 + (1 : Int32))) (L' := [(7, .int ((l7 + (1 : Int32)))), (0, .ref (116)), (1, .ref (1)), (2, .int (l2)), (3, .int (l3)), (4, .int (l4)), (5, .int (l5)), (6, .int ((if ((v).1 (3 + ix (l2)) (ix (l7)) - (v).1 (3 + ix (l3)) (ix (l7))) = l5 then (l6 ||| ((1 : Int32) <<< (l7 &&& 31))) else l6)))]) 7 e_K_blindBy_95 rfl rfl (by decide) rfl ?_
      refine g_goto (tgt := 50) e_K_blindBy_98 rfl ?_
      exact g_sub [1, 2, 3, 4, 5, 6, 7, 0] rfl h
    refine g_icmp_ne (tgt := 95) e_K_blindBy_83 rfl (fun c10 => ?_) (fun c10 => ?_)
    · exact hj (l6) (by simp only [if_neg c10])
    · refine g_iload 6 e_K_blindBy_86 rfl ?_
      refine g_iconst (1 : Int32) e_K_blindBy_88 (by decide) ?_
      refine g_iload 7 e_K_blindBy_89 rfl ?_
      refine g_ishl e_K_blindBy_91 ?_
      refine g_ior e_K_blindBy_92 ?_
      refine g_istore (L' := [(6, .int ((l6 ||| ((1 : Int32) <<< (l7 &&& 31))))), (0, .ref (116)), (1, .ref (1)), (2, .int (l2)), (3, .int (l3)), (4, .int (l4)), (5, .int (l5)), (7, .int (l7))]) e_K_blindBy_93 (by decide) rfl ?_
      refine g_sub [1, 2, 3, 4, 5, 6, 0, 7] rfl ?_
      exact hj ((l6 ||| ((1 : Int32) <<< (l7 &&& 31)))) (by simp only [if_pos c10])
set_option maxHeartbeats 1000000 in
theorem s_K_blindBy_107 {l2 : Int32} {l3 : Int32} {l4 : Int32} {v : Vv} {Q : Vv → Prop} (h : k_K_blindBy_3 (l2) (l3) ((l4 + (1 : Int32))) (v) Q) : k_K_blindBy_107 l2 l3 l4 v Q := by
  show Gp 2 M_K_blindBy 107 [(0, .ref (116)), (1, .ref (1)), (2, .int (l2)), (3, .int (l3)), (4, .int (l4))] [] v (QV Q)
  refine g_iinc (v := (l4 + (1 : Int32))) (L' := [(4, .int ((l4 + (1 : Int32)))), (0, .ref (116)), (1, .ref (1)), (2, .int (l2)), (3, .int (l3))]) 4 e_K_blindBy_107 rfl rfl (by decide) rfl ?_
  refine g_goto (tgt := 3) e_K_blindBy_110 rfl ?_
  exact g_sub [1, 2, 3, 4, 0] rfl h
set_option maxHeartbeats 1000000 in
theorem s_K_whomToAsk  {v : Vv} {Q : Int32 → Vv → Prop} (h : k_K_whomToAsk_7 ((-1 : Int32)) ((0 : Int64)) ((0 : Int32)) (v) Q) : m_K_whomToAsk  v Q := by
  refine cp_go (Nat.le_of_ble_eq_true rfl) (by decide +kernel) ?_
  show Gp 2 M_K_whomToAsk 0 [(0, .ref (116)), (1, .ref (1))] [] v (QI Q)
  refine g_iconst (-1 : Int32) e_K_whomToAsk_0 (by decide) ?_
  refine g_istore_n (L' := [(2, .int ((-1 : Int32))), (0, .ref (116)), (1, .ref (1))]) e_K_whomToAsk_1 rfl (by decide) rfl ?_
  refine g_lconst (0 : Int64) e_K_whomToAsk_2 (by decide) ?_
  refine g_lstore_n (L' := [(3, .long ((0 : Int64))), (2, .int ((-1 : Int32))), (0, .ref (116)), (1, .ref (1))]) e_K_whomToAsk_3 rfl (by decide) rfl ?_
  refine g_iconst (0 : Int32) e_K_whomToAsk_4 (by decide) ?_
  refine g_istore (L' := [(5, .int ((0 : Int32))), (3, .long ((0 : Int64))), (2, .int ((-1 : Int32))), (0, .ref (116)), (1, .ref (1))]) e_K_whomToAsk_5 (by decide) rfl ?_
  exact g_sub [4, 2, 1, 0] rfl h
set_option maxHeartbeats 1000000 in
theorem s_K_whomToAsk_7 {l2 : Int32} {l3 : Int64} {l5 : Int32} {v : Vv} {Q : Int32 → Vv → Prop} (h : if l5 < (v).1 74 3 then (k_K_whomToAsk_25 (l2) (l3) (l5) ((0 : Int64)) ((0 : Int32)) (v) Q) else (Q (l2) (v))) : k_K_whomToAsk_7 l2 l3 l5 v Q := by
  show Gp 2 M_K_whomToAsk 7 [(1, .ref (1)), (2, .int (l2)), (3, .long (l3)), (5, .int (l5))] [] v (QI Q)
  refine g_iload 3 e_K_whomToAsk_7 rfl ?_
  refine g_aload_n 0 e_K_whomToAsk_9 rfl rfl ?_
  refine p_getR (j := 74) e_K_whomToAsk_10 sh_1 fl_K_66 rfl (rf_1_8 _) ?_
  refine p_getI e_K_whomToAsk_13 sh_74 fl_K_113 rfl ?_
  refine g_icmp_ge (tgt := 111) e_K_whomToAsk_16 rfl (fun c1 => ?_) (fun c1 => ?_)
  · replace h := iteF h c1
    refine g_iload_n 1 e_K_whomToAsk_111 rfl rfl ?_
    exact p_retI e_K_whomToAsk_112.1 rfl h
  · replace h := iteT h c1
    refine g_lconst (0 : Int64) e_K_whomToAsk_19 (by decide) ?_
    refine g_lstore (L' := [(6, .long ((0 : Int64))), (1, .ref (1)), (2, .int (l2)), (3, .long (l3)), (5, .int (l5))]) e_K_whomToAsk_20 (by decide) rfl ?_
    refine g_iconst (0 : Int32) e_K_whomToAsk_22 (by decide) ?_
    refine g_istore (L' := [(8, .int ((0 : Int32))), (6, .long ((0 : Int64))), (1, .ref (1)), (2, .int (l2)), (3, .long (l3)), (5, .int (l5))]) e_K_whomToAsk_23 (by decide) rfl ?_
    exact g_sub [2, 3, 4, 5, 1, 0] rfl h
set_option maxHeartbeats 1000000 in
theorem s_K_whomToAsk_25 {l2 : Int32} {l3 : Int64} {l5 : Int32} {l6 : Int64} {l8 : Int32} {v : Vv} {Q : Int32 → Vv → Prop} (h : if l8 < (v).1 1 10 then ((ib (l8) 32) ∧ (k_K_whomToAsk_25 (l2) (l3) (l5) ((if (v).1 69 (ix (l8)) = (0 : Int32) then l6 else (if ((l8 >>> (l5 &&& 31)) &&& (1 : Int32)) = (1 : Int32) then (l6 + (v).2.1 71 (ix (l8))) else l6))) ((l8 + (1 : Int32))) (v) Q)) else (m_JM_max_JJJ l6 ((v).2.1 1 11 - l6) (v) (fun x6 v7 => k_K_whomToAsk_7 ((if l2 = (-1 : Int32) then l5 else (if x6 < l3 then l5 else l2))) ((if l2 = (-1 : Int32) then x6 else (if x6 < l3 then x6 else l3))) ((l5 + (1 : Int32))) (v7) Q))) : k_K_whomToAsk_25 l2 l3 l5 l6 l8 v Q := by
  show Gp 2 M_K_whomToAsk 25 [(1, .ref (1)), (2, .int (l2)), (3, .long (l3)), (5, .int (l5)), (6, .long (l6)), (8, .int (l8))] [] v (QI Q)
  refine g_iload 5 e_K_whomToAsk_25 rfl ?_
  refine g_aload_n 0 e_K_whomToAsk_27 rfl rfl ?_
  refine p_getI e_K_whomToAsk_28 sh_1 fl_K_22 rfl ?_
  refine g_icmp_ge (tgt := 73) e_K_whomToAsk_31 rfl (fun c2 => ?_) (fun c2 => ?_)
  · replace h := iteF h c2
    refine g_lload 4 e_K_whomToAsk_73 rfl ?_
    refine g_aload_n 0 e_K_whomToAsk_75 rfl rfl ?_
    refine p_getJ e_K_whomToAsk_76 sh_1 fl_K_47 rfl ?_
    refine g_lload 4 e_K_whomToAsk_79 rfl ?_
    refine g_lsub e_K_whomToAsk_81 ?_
    refine p_callSJ (d' := 1) (As := [.long (l6), .long (((v).2.1 1 11 - l6))]) (rest := []) e_K_whomToAsk_82 zm_JM_max_JJJ lS_K_116 rfl rfl (Nat.le_of_ble_eq_true rfl) (by decide) ?_
    refine cp_mono h (fun _ v7 ⟨x6, e1, h⟩ => ⟨x6, e1, ?_⟩)
    refine g_lstore (L' := [(8, .long (x6)), (1, .ref (1)), (2, .int (l2)), (3, .long (l3)), (5, .int (l5)), (6, .long (l6))]) e_K_whomToAsk_85 (by decide) rfl ?_
    refine g_iload_n 2 e_K_whomToAsk_87 rfl rfl ?_
    refine g_iconst (-1 : Int32) e_K_whomToAsk_88 (by decide) ?_
    have hj : ∀ m0 : Int32, m0 = (if l2 = (-1 : Int32) then l5 else (if x6 < l3 then l5 else l2)) → ∀ m1 : Int64, m1 = (if l2 = (-1 : Int32) then x6 else (if x6 < l3 then x6 else l3)) → Gp 2 M_K_whomToAsk 105 [(1, .ref (1)), (2, .int (m0)), (3, .long (m1)), (5, .int (l5)), (6, .long (l6)), (8, .long (x6))] [] (v7) (QI Q) := by
      intro m0 hm0 m1 hm1
      subst hm0
      subst hm1
      refine g_iinc (v := (l5 + (1 : Int32))) (L' := [(5, .int ((l5 + (1 : Int32)))), (1, .ref (1)), (2, .int ((if l2 = (-1 : Int32) then l5 else (if x6 < l3 then l5 else l2)))), (3, .long ((if l2 = (-1 : Int32) then x6 else (if x6 < l3 then x6 else l3)))), (6, .long (l6)), (8, .long (x6))]) 3 e_K_whomToAsk_105 rfl rfl (by decide) rfl ?_
      refine g_goto (tgt := 7) e_K_whomToAsk_108 rfl ?_
      exact g_sub [1, 2, 3, 0] rfl h
    refine g_icmp_eq (tgt := 99) e_K_whomToAsk_89 rfl (fun c8 => ?_) (fun c8 => ?_)
    · refine g_iload 4 e_K_whomToAsk_99 rfl ?_
      refine g_istore_n (L' := [(2, .int (l5)), (8, .long (x6)), (1, .ref (1)), (3, .long (l3)), (5, .int (l5)), (6, .long (l6))]) e_K_whomToAsk_101 rfl (by decide) rfl ?_
      refine g_lload 1 e_K_whomToAsk_102 rfl ?_
      refine g_lstore_n (L' := [(3, .long (x6)), (2, .int (l5)), (8, .long (x6)), (1, .ref (1)), (5, .int (l5)), (6, .long (l6))]) e_K_whomToAsk_104 rfl (by decide) rfl ?_
      refine g_sub [3, 1, 0, 4, 5, 2] rfl ?_
      exact hj (l5) (by simp only [if_pos c8]) (x6) (by simp only [if_pos c8])
    · refine g_lload 0 e_K_whomToAsk_92 rfl ?_
      refine g_lload_n 3 e_K_whomToAsk_94 rfl rfl ?_
      refine g_l_ge (tgt := 105) e_K_whomToAsk_95 e_K_whomToAsk_96 rfl (fun c9 => ?_) (fun c9 => ?_)
      · refine g_sub [1, 2, 3, 4, 5, 0] rfl ?_
        exact hj (l2) (by simp only [if_neg c8, if_neg c9]) (l3) (by simp only [if_neg c8, if_neg c9])
      · refine g_iload 4 e_K_whomToAsk_99 rfl ?_
        refine g_istore_n (L' := [(2, .int (l5)), (8, .long (x6)), (1, .ref (1)), (3, .long (l3)), (5, .int (l5)), (6, .long (l6))]) e_K_whomToAsk_101 rfl (by decide) rfl ?_
        refine g_lload 1 e_K_whomToAsk_102 rfl ?_
        refine g_lstore_n (L' := [(3, .long (x6)), (2, .int (l5)), (8, .long (x6)), (1, .ref (1)), (5, .int (l5)), (6, .long (l6))]) e_K_whomToAsk_104 rfl (by decide) rfl ?_
        refine g_sub [3, 1, 0, 4, 5, 2] rfl ?_
        exact hj (l5) (by simp only [if_neg c8, if_pos c9]) (x6) (by simp only [if_neg c8, if_pos c9])
  · replace h := iteT h c2
    refine g_aload_n 0 e_K_whomToAsk_34 rfl rfl ?_
    refine p_getR (j := 69) e_K_whomToAsk_35 sh_1 fl_K_28 rfl (rf_1_3 _) ?_
    refine g_iload 5 e_K_whomToAsk_38 rfl ?_
    obtain ⟨h3, h⟩ := h
    refine p_zald e_K_whomToAsk_40 sh_69 h3 ?_
    have hj : ∀ m0 : Int64, m0 = (if (v).1 69 (ix (l8)) = (0 : Int32) then l6 else (if ((l8 >>> (l5 &&& 31)) &&& (1 : Int32)) = (1 : Int32) then (l6 + (v).2.1 71 (ix (l8))) else l6)) → Gp 2 M_K_whomToAsk 67 [(1, .ref (1)), (2, .int (l2)), (3, .long (l3)), (5, .int (l5)), (6, .long (m0)), (8, .int (l8))] [] (v) (QI Q) := by
      intro m0 hm0
      subst hm0
      refine g_iinc (v := (l8 + (1 : Int32))) (L' := [(8, .int ((l8 + (1 : Int32)))), (1, .ref (1)), (2, .int (l2)), (3, .long (l3)), (5, .int (l5)), (6, .long ((if (v).1 69 (ix (l8)) = (0 : Int32) then l6 else (if ((l8 >>> (l5 &&& 31)) &&& (1 : Int32)) = (1 : Int32) then (l6 + (v).2.1 71 (ix (l8))) else l6))))]) 5 e_K_whomToAsk_67 rfl rfl (by decide) rfl ?_
      refine g_goto (tgt := 25) e_K_whomToAsk_70 rfl ?_
      exact g_sub [1, 2, 3, 4, 5, 0] rfl h
    refine g_if_eq (tgt := 67) e_K_whomToAsk_41 rfl (fun c4 => ?_) (fun c4 => ?_)
    · exact hj (l6) (by simp only [if_pos c4])
    · refine g_iload 5 e_K_whomToAsk_44 rfl ?_
      refine g_iload 3 e_K_whomToAsk_46 rfl ?_
      refine g_ishr e_K_whomToAsk_48 ?_
      refine g_iconst (1 : Int32) e_K_whomToAsk_49 (by decide) ?_
      refine g_iand e_K_whomToAsk_50 ?_
      refine g_iconst (1 : Int32) e_K_whomToAsk_51 (by decide) ?_
      refine g_icmp_ne (tgt := 67) e_K_whomToAsk_52 rfl (fun c5 => ?_) (fun c5 => ?_)
      · exact hj (l6) (by simp only [if_neg c4, if_neg c5])
      · refine g_lload 4 e_K_whomToAsk_55 rfl ?_
        refine g_aload_n 0 e_K_whomToAsk_57 rfl rfl ?_
        refine p_getR (j := 71) e_K_whomToAsk_58 sh_1 fl_K_35 rfl (rf_1_5 _) ?_
        refine g_iload 5 e_K_whomToAsk_61 rfl ?_
        refine p_lald e_K_whomToAsk_63 sh_71 h3 ?_
        refine g_ladd e_K_whomToAsk_64 ?_
        refine g_lstore (L' := [(6, .long ((l6 + (v).2.1 71 (ix (l8))))), (1, .ref (1)), (2, .int (l2)), (3, .long (l3)), (5, .int (l5)), (8, .int (l8))]) e_K_whomToAsk_65 (by decide) rfl ?_
        refine g_sub [1, 2, 3, 4, 0, 5] rfl ?_
        exact hj ((l6 + (v).2.1 71 (ix (l8)))) (by simp only [if_neg c4, if_pos c5])
set_option maxHeartbeats 1000000 in
theorem s_K_worldOfMostRight  {v : Vv} {Q : Int32 → Vv → Prop} (h : k_K_worldOfMostRight_4 ((0 : Int32)) ((1 : Int32)) (v) Q) : m_K_worldOfMostRight  v Q := by
  refine cp_go (Nat.le_of_ble_eq_true rfl) (by decide +kernel) ?_
  show Gp 2 M_K_worldOfMostRight 0 [(0, .ref (116)), (1, .ref (1))] [] v (QI Q)
  refine g_iconst (0 : Int32) e_K_worldOfMostRight_0 (by decide) ?_
  refine g_istore_n (L' := [(2, .int ((0 : Int32))), (0, .ref (116)), (1, .ref (1))]) e_K_worldOfMostRight_1 rfl (by decide) rfl ?_
  refine g_iconst (1 : Int32) e_K_worldOfMostRight_2 (by decide) ?_
  refine g_istore_n (L' := [(3, .int ((1 : Int32))), (2, .int ((0 : Int32))), (0, .ref (116)), (1, .ref (1))]) e_K_worldOfMostRight_3 rfl (by decide) rfl ?_
  exact g_sub [3, 1, 0] rfl h
set_option maxHeartbeats 1000000 in
theorem s_K_worldOfMostRight_4 {l2 : Int32} {l3 : Int32} {v : Vv} {Q : Int32 → Vv → Prop} (h : if l3 < (v).1 1 10 then ((ib (l3) 32) ∧ (m_JI_bitCount ((v).1 68 (ix (l3))) (v) (fun x3 v4 => (ib (l2) 32) ∧ (m_JI_bitCount ((v4).1 68 (ix (l2))) (v4) (fun x6 v7 => if (0 : Int32) < (x3 - x6) then (k_K_worldOfMostRight_54 (l3) (v7) Q) else (if (x3 - x6) = (0 : Int32) then (m_JI_bitCount l3 (v7) (fun x10 v11 => m_JI_bitCount l2 (v11) (fun x12 v13 => k_K_worldOfMostRight_4 ((if x10 < x12 then l3 else l2)) ((l3 + (1 : Int32))) (v13) Q))) else (k_K_worldOfMostRight_56 (l2) (l3) (v7) Q))))))) else (Q (l2) (v))) : k_K_worldOfMostRight_4 l2 l3 v Q := by
  show Gp 2 M_K_worldOfMostRight 4 [(1, .ref (1)), (2, .int (l2)), (3, .int (l3))] [] v (QI Q)
  refine g_iload_n 2 e_K_worldOfMostRight_4 rfl rfl ?_
  refine g_aload_n 0 e_K_worldOfMostRight_5 rfl rfl ?_
  refine p_getI e_K_worldOfMostRight_6 sh_1 fl_K_22 rfl ?_
  refine g_icmp_ge (tgt := 62) e_K_worldOfMostRight_9 rfl (fun c1 => ?_) (fun c1 => ?_)
  · replace h := iteF h c1
    refine g_iload_n 1 e_K_worldOfMostRight_62 rfl rfl ?_
    exact p_retI e_K_worldOfMostRight_63.1 rfl h
  · replace h := iteT h c1
    refine g_aload_n 0 e_K_worldOfMostRight_12 rfl rfl ?_
    refine p_getR (j := 68) e_K_worldOfMostRight_13 sh_1 fl_K_31 rfl (rf_1_2 _) ?_
    refine g_iload_n 2 e_K_worldOfMostRight_16 rfl rfl ?_
    obtain ⟨h2, h⟩ := h
    refine p_iald e_K_worldOfMostRight_17 sh_68 h2 ?_
    refine p_callSI (d' := 1) (As := [.int ((v).1 68 (ix (l3)))]) (rest := []) e_K_worldOfMostRight_18 zm_JI_bitCount lS_K_99 rfl rfl (Nat.le_of_ble_eq_true rfl) (by decide) ?_
    refine cp_mono h (fun _ v4 ⟨x3, e1, h⟩ => ⟨x3, e1, ?_⟩)
    refine g_aload_n 0 e_K_worldOfMostRight_21 rfl rfl ?_
    refine p_getR (j := 68) e_K_worldOfMostRight_22 sh_1 fl_K_31 rfl (rf_1_2 _) ?_
    refine g_iload_n 1 e_K_worldOfMostRight_25 rfl rfl ?_
    obtain ⟨h5, h⟩ := h
    refine p_iald e_K_worldOfMostRight_26 sh_68 h5 ?_
    refine p_callSI (d' := 1) (As := [.int ((v4).1 68 (ix (l2)))]) (rest := [.int (x3)]) e_K_worldOfMostRight_27 zm_JI_bitCount lS_K_99 rfl rfl (Nat.le_of_ble_eq_true rfl) (by decide) ?_
    refine cp_mono h (fun _ v7 ⟨x6, e1, h⟩ => ⟨x6, e1, ?_⟩)
    refine g_isub e_K_worldOfMostRight_30 ?_
    refine g_istore (L' := [(4, .int ((x3 - x6))), (1, .ref (1)), (2, .int (l2)), (3, .int (l3))]) e_K_worldOfMostRight_31 (by decide) rfl ?_
    refine g_iload 0 e_K_worldOfMostRight_33 rfl ?_
    refine g_if_gt (tgt := 54) e_K_worldOfMostRight_35 rfl (fun c8 => ?_) (fun c8 => ?_)
    · replace h := iteT h c8
      exact g_sub [1, 3] rfl h
    · replace h := iteF h c8
      refine g_iload 0 e_K_worldOfMostRight_38 rfl ?_
      refine g_if_ne (tgt := 56) e_K_worldOfMostRight_40 rfl (fun c9 => ?_) (fun c9 => ?_)
      · replace h := iteF h c9
        exact g_sub [1, 2, 3] rfl h
      · replace h := iteT h c9
        refine g_iload_n 3 e_K_worldOfMostRight_43 rfl rfl ?_
        refine p_callSI (d' := 1) (As := [.int (l3)]) (rest := []) e_K_worldOfMostRight_44 zm_JI_bitCount lS_K_99 rfl rfl (Nat.le_of_ble_eq_true rfl) (by decide) ?_
        refine cp_mono h (fun _ v11 ⟨x10, e1, h⟩ => ⟨x10, e1, ?_⟩)
        refine g_iload_n 2 e_K_worldOfMostRight_47 rfl rfl ?_
        refine p_callSI (d' := 1) (As := [.int (l2)]) (rest := [.int (x10)]) e_K_worldOfMostRight_48 zm_JI_bitCount lS_K_99 rfl rfl (Nat.le_of_ble_eq_true rfl) (by decide) ?_
        refine cp_mono h (fun _ v13 ⟨x12, e1, h⟩ => ⟨x12, e1, ?_⟩)
        have hj : ∀ m0 : Int32, m0 = (if x10 < x12 then l3 else l2) → Gp 2 M_K_worldOfMostRight 56 [(1, .ref (1)), (2, .int (m0)), (3, .int (l3)), (4, .int ((x3 - x6)))] [] (v13) (QI Q) := by
          intro m0 hm0
          subst hm0
          refine g_iinc (v := (l3 + (1 : Int32))) (L' := [(3, .int ((l3 + (1 : Int32)))), (1, .ref (1)), (2, .int ((if x10 < x12 then l3 else l2))), (4, .int ((x3 - x6)))]) 2 e_K_worldOfMostRight_56 rfl rfl (by decide) rfl ?_
          refine g_goto (tgt := 4) e_K_worldOfMostRight_59 rfl ?_
          exact g_sub [1, 2, 0] rfl h
        refine g_icmp_ge (tgt := 56) e_K_worldOfMostRight_51 rfl (fun c14 => ?_) (fun c14 => ?_)
        · refine g_sub [1, 2, 3, 0] rfl ?_
          exact hj (l2) (by simp only [if_neg c14])
        · refine g_iload_n 3 e_K_worldOfMostRight_54 rfl rfl ?_
          refine g_istore_n (L' := [(2, .int (l3)), (4, .int ((x3 - x6))), (1, .ref (1)), (3, .int (l3))]) e_K_worldOfMostRight_55 rfl (by decide) rfl ?_
          refine g_sub [2, 0, 3, 1] rfl ?_
          exact hj (l3) (by simp only [if_pos c14])
set_option maxHeartbeats 1000000 in
theorem s_K_worldOfMostRight_54 {l3 : Int32} {v : Vv} {Q : Int32 → Vv → Prop} (h : k_K_worldOfMostRight_56 (l3) (l3) (v) Q) : k_K_worldOfMostRight_54 l3 v Q := by
  show Gp 2 M_K_worldOfMostRight 54 [(1, .ref (1)), (3, .int (l3))] [] v (QI Q)
  refine g_iload_n 1 e_K_worldOfMostRight_54 rfl rfl ?_
  refine g_istore_n (L' := [(2, .int (l3)), (1, .ref (1)), (3, .int (l3))]) e_K_worldOfMostRight_55 rfl (by decide) rfl ?_
  exact g_sub [1, 0, 2] rfl h
set_option maxHeartbeats 1000000 in
theorem s_K_worldOfMostRight_56 {l2 : Int32} {l3 : Int32} {v : Vv} {Q : Int32 → Vv → Prop} (h : k_K_worldOfMostRight_4 (l2) ((l3 + (1 : Int32))) (v) Q) : k_K_worldOfMostRight_56 l2 l3 v Q := by
  show Gp 2 M_K_worldOfMostRight 56 [(1, .ref (1)), (2, .int (l2)), (3, .int (l3))] [] v (QI Q)
  refine g_iinc (v := (l3 + (1 : Int32))) (L' := [(3, .int ((l3 + (1 : Int32)))), (1, .ref (1)), (2, .int (l2))]) 2 e_K_worldOfMostRight_56 rfl rfl (by decide) rfl ?_
  refine g_goto (tgt := 4) e_K_worldOfMostRight_59 rfl ?_
  exact g_sub [1, 2, 0] rfl h
set_option maxHeartbeats 1000000 in
theorem s_K_latest {l2 : Int32} {v : Vv} {Q : Int32 → Vv → Prop} (h : k_K_latest_5 (l2) ((-1 : Int32)) ((0 : Int32)) (v) Q) : m_K_latest l2 v Q := by
  refine cp_go (Nat.le_of_ble_eq_true rfl) (by decide +kernel) ?_
  show Gp 2 M_K_latest 0 [(0, .ref (116)), (1, .ref (1)), (2, .int (l2))] [] v (QI Q)
  refine g_iconst (-1 : Int32) e_K_latest_0 (by decide) ?_
  refine g_istore_n (L' := [(3, .int ((-1 : Int32))), (0, .ref (116)), (1, .ref (1)), (2, .int (l2))]) e_K_latest_1 rfl (by decide) rfl ?_
  refine g_iconst (0 : Int32) e_K_latest_2 (by decide) ?_
  refine g_istore (L' := [(4, .int ((0 : Int32))), (3, .int ((-1 : Int32))), (0, .ref (116)), (1, .ref (1)), (2, .int (l2))]) e_K_latest_3 (by decide) rfl ?_
  exact g_sub [3, 4, 1, 0] rfl h
set_option maxHeartbeats 1000000 in
theorem s_K_latest_5 {l2 : Int32} {l3 : Int32} {l4 : Int32} {v : Vv} {Q : Int32 → Vv → Prop} (h : if l4 < (v).1 1 10 then ((ib (l4) 32) ∧ (if (v).1 69 (ix (l4)) = (0 : Int32) then (k_K_latest_56 (l2) (l3) (l4) (v) Q) else (if (0 : Int64) < (v).2.1 71 (ix (l4)) then ((ib (l2) 6) ∧ (m_JM_abs ((v).1 (3 + ix (l4)) (ix (l2)) - (60 : Int32)) (v) (fun x6 v7 => m_JM_max_III l3 x6 (v7) (fun x8 v9 => k_K_latest_56 (l2) (x8) (l4) (v9) Q)))) else (k_K_latest_56 (l2) (l3) (l4) (v) Q)))) else (Q (l3) (v))) : k_K_latest_5 l2 l3 l4 v Q := by
  show Gp 2 M_K_latest 5 [(1, .ref (1)), (2, .int (l2)), (3, .int (l3)), (4, .int (l4))] [] v (QI Q)
  refine g_iload 3 e_K_latest_5 rfl ?_
  refine g_aload_n 0 e_K_latest_7 rfl rfl ?_
  refine p_getI e_K_latest_8 sh_1 fl_K_22 rfl ?_
  refine g_icmp_ge (tgt := 62) e_K_latest_11 rfl (fun c1 => ?_) (fun c1 => ?_)
  · replace h := iteF h c1
    refine g_iload_n 2 e_K_latest_62 rfl rfl ?_
    exact p_retI e_K_latest_63.1 rfl h
  · replace h := iteT h c1
    refine g_aload_n 0 e_K_latest_14 rfl rfl ?_
    refine p_getR (j := 69) e_K_latest_15 sh_1 fl_K_28 rfl (rf_1_3 _) ?_
    refine g_iload 3 e_K_latest_18 rfl ?_
    obtain ⟨h2, h⟩ := h
    refine p_zald e_K_latest_20 sh_69 h2 ?_
    refine g_if_eq (tgt := 56) e_K_latest_21 rfl (fun c3 => ?_) (fun c3 => ?_)
    · replace h := iteT h c3
      exact g_sub [0, 1, 2, 3] rfl h
    · replace h := iteF h c3
      refine g_aload_n 0 e_K_latest_24 rfl rfl ?_
      refine p_getR (j := 71) e_K_latest_25 sh_1 fl_K_35 rfl (rf_1_5 _) ?_
      refine g_iload 3 e_K_latest_28 rfl ?_
      refine p_lald e_K_latest_30 sh_71 h2 ?_
      refine g_lconst (0 : Int64) e_K_latest_31 (by decide) ?_
      refine g_l_le (tgt := 56) e_K_latest_32 e_K_latest_33 rfl (fun c4 => ?_) (fun c4 => ?_)
      · replace h := iteF h c4
        exact g_sub [0, 1, 2, 3] rfl h
      · replace h := iteT h c4
        refine g_iload_n 2 e_K_latest_36 rfl rfl ?_
        refine g_aload_n 0 e_K_latest_37 rfl rfl ?_
        refine p_getR (j := 2) e_K_latest_38 sh_1 fl_K_105 rfl (rf_1_0 _) ?_
        refine g_iload 3 e_K_latest_41 rfl ?_
        refine p_aald (j := (3 + ix (l4))) e_K_latest_43 sh_2 (by decide) rfl h2 (el_at h2 _) ?_
        refine g_iload_n 1 e_K_latest_44 rfl rfl ?_
        obtain ⟨h5, h⟩ := h
        refine p_iald e_K_latest_45 (el_at_s h2) h5 ?_
        refine g_bipush (60 : Int32) e_K_latest_46 (by decide) ?_
        refine g_isub e_K_latest_48 ?_
        refine p_callSI (d' := 1) (As := [.int (((v).1 (3 + ix (l4)) (ix (l2)) - (60 : Int32)))]) (rest := [.int (l3)]) e_K_latest_49 zm_JM_abs lS_K_129 rfl rfl (Nat.le_of_ble_eq_true rfl) (by decide) ?_
        refine cp_mono h (fun _ v7 ⟨x6, e1, h⟩ => ⟨x6, e1, ?_⟩)
        refine p_callSI (d' := 1) (As := [.int (l3), .int (x6)]) (rest := []) e_K_latest_52 zm_JM_max_III lS_K_132 rfl rfl (Nat.le_of_ble_eq_true rfl) (by decide) ?_
        refine cp_mono h (fun _ v9 ⟨x8, e1, h⟩ => ⟨x8, e1, ?_⟩)
        refine g_istore_n (L' := [(3, .int (x8)), (1, .ref (1)), (2, .int (l2)), (4, .int (l4))]) e_K_latest_55 rfl (by decide) rfl ?_
        exact g_sub [1, 2, 0, 3] rfl h
set_option maxHeartbeats 1000000 in
theorem s_K_latest_56 {l2 : Int32} {l3 : Int32} {l4 : Int32} {v : Vv} {Q : Int32 → Vv → Prop} (h : k_K_latest_5 (l2) (l3) ((l4 + (1 : Int32))) (v) Q) : k_K_latest_56 l2 l3 l4 v Q := by
  show Gp 2 M_K_latest 56 [(1, .ref (1)), (2, .int (l2)), (3, .int (l3)), (4, .int (l4))] [] v (QI Q)
  refine g_iinc (v := (l4 + (1 : Int32))) (L' := [(4, .int ((l4 + (1 : Int32)))), (1, .ref (1)), (2, .int (l2)), (3, .int (l3))]) 3 e_K_latest_56 rfl rfl (by decide) rfl ?_
  refine g_goto (tgt := 5) e_K_latest_59 rfl ?_
  exact g_sub [1, 2, 3, 0] rfl h
set_option maxHeartbeats 1000000 in
theorem s_K_howManyAsTold {l2 : Nat} {v : Vv} {Q : Int32 → Vv → Prop} (h : k_K_howManyAsTold_5 (l2) ((0 : Int32)) ((0 : Int32)) (v) Q) : m_K_howManyAsTold l2 v Q := by
  refine cp_go (Nat.le_of_ble_eq_true rfl) (by decide +kernel) ?_
  show Gp 2 M_K_howManyAsTold 0 [(0, .ref (116)), (1, .ref (1)), (2, .ref (l2))] [] v (QI Q)
  refine g_iconst (0 : Int32) e_K_howManyAsTold_0 (by decide) ?_
  refine g_istore_n (L' := [(3, .int ((0 : Int32))), (0, .ref (116)), (1, .ref (1)), (2, .ref (l2))]) e_K_howManyAsTold_1 rfl (by decide) rfl ?_
  refine g_iconst (0 : Int32) e_K_howManyAsTold_2 (by decide) ?_
  refine g_istore (L' := [(4, .int ((0 : Int32))), (3, .int ((0 : Int32))), (0, .ref (116)), (1, .ref (1)), (2, .ref (l2))]) e_K_howManyAsTold_3 (by decide) rfl ?_
  exact g_sub [2, 3, 4, 1, 0] rfl h
set_option maxHeartbeats 1000000 in
theorem s_K_howManyAsTold_5 {l2 : Nat} {l3 : Int32} {l4 : Int32} {v : Vv} {Q : Int32 → Vv → Prop} (h : if l4 < (v).1 1 10 then (m_K_isAsTold l4 l2 (v) (fun x2 v3 => k_K_howManyAsTold_5 (l2) ((if x2 = true then (l3 + (1 : Int32)) else l3)) ((l4 + (1 : Int32))) (v3) Q)) else (Q (l3) (v))) : k_K_howManyAsTold_5 l2 l3 l4 v Q := by
  show Gp 2 M_K_howManyAsTold 5 [(0, .ref (116)), (1, .ref (1)), (2, .ref (l2)), (3, .int (l3)), (4, .int (l4))] [] v (QI Q)
  refine g_iload 4 e_K_howManyAsTold_5 rfl ?_
  refine g_aload_n 1 e_K_howManyAsTold_7 rfl rfl ?_
  refine p_getI e_K_howManyAsTold_8 sh_1 fl_K_22 rfl ?_
  refine g_icmp_ge (tgt := 34) e_K_howManyAsTold_11 rfl (fun c1 => ?_) (fun c1 => ?_)
  · replace h := iteF h c1
    refine g_iload_n 3 e_K_howManyAsTold_34 rfl rfl ?_
    exact p_retI e_K_howManyAsTold_35.1 rfl h
  · replace h := iteT h c1
    refine g_aload_n 0 e_K_howManyAsTold_14 rfl rfl ?_
    refine g_aload_n 1 e_K_howManyAsTold_15 rfl rfl ?_
    refine g_iload 4 e_K_howManyAsTold_16 rfl ?_
    refine g_aload_n 2 e_K_howManyAsTold_18 rfl rfl ?_
    refine p_callVZ (d' := 1) (ci := 3) (r := (RX3, TX3, 2)) (As := [.ref (1), .int (l4), .ref (l2)]) (rest := []) e_K_howManyAsTold_19 zm_K_isAsTold lV_K_142 sh_116 rfl rfl rfl rfl (Nat.le_of_ble_eq_true rfl) (by decide) ?_
    refine cp_mono h (fun _ v3 ⟨x2, e1, h⟩ => ⟨x2, e1, ?_⟩)
    have hj : ∀ m0 : Int32, m0 = (if x2 = true then (l3 + (1 : Int32)) else l3) → Gp 2 M_K_howManyAsTold 28 [(0, .ref (116)), (1, .ref (1)), (2, .ref (l2)), (3, .int (m0)), (4, .int (l4))] [] (v3) (QI Q) := by
      intro m0 hm0
      subst hm0
      refine g_iinc (v := (l4 + (1 : Int32))) (L' := [(4, .int ((l4 + (1 : Int32)))), (0, .ref (116)), (1, .ref (1)), (2, .ref (l2)), (3, .int ((if x2 = true then (l3 + (1 : Int32)) else l3)))]) 4 e_K_howManyAsTold_28 rfl rfl (by decide) rfl ?_
      refine g_goto (tgt := 5) e_K_howManyAsTold_31 rfl ?_
      exact g_sub [1, 2, 3, 4, 0] rfl h
    refine p_ifz_eq (tgt := 28) e_K_howManyAsTold_22 rfl (fun c4 => ?_) (fun c4 => ?_)
    · exact hj (l3) (by simp only [if_neg c4])
    · refine g_iinc (v := (l3 + (1 : Int32))) (L' := [(3, .int ((l3 + (1 : Int32)))), (0, .ref (116)), (1, .ref (1)), (2, .ref (l2)), (4, .int (l4))]) 3 e_K_howManyAsTold_25 rfl rfl (by decide) rfl ?_
      refine g_sub [1, 2, 3, 0, 4] rfl ?_
      exact hj ((l3 + (1 : Int32))) (by simp only [if_pos c4])
set_option maxHeartbeats 1000000 in
theorem s_K_likeliestAsTold {l2 : Nat} {v : Vv} {Q : Int32 → Vv → Prop} (h : k_K_likeliestAsTold_8 (l2) ((-1 : Int32)) ((0 : Int64)) ((0 : Int32)) (v) Q) : m_K_likeliestAsTold l2 v Q := by
  refine cp_go (Nat.le_of_ble_eq_true rfl) (by decide +kernel) ?_
  show Gp 2 M_K_likeliestAsTold 0 [(0, .ref (116)), (1, .ref (1)), (2, .ref (l2))] [] v (QI Q)
  refine g_iconst (-1 : Int32) e_K_likeliestAsTold_0 (by decide) ?_
  refine g_istore_n (L' := [(3, .int ((-1 : Int32))), (0, .ref (116)), (1, .ref (1)), (2, .ref (l2))]) e_K_likeliestAsTold_1 rfl (by decide) rfl ?_
  refine g_lconst (0 : Int64) e_K_likeliestAsTold_2 (by decide) ?_
  refine g_lstore (L' := [(4, .long ((0 : Int64))), (3, .int ((-1 : Int32))), (0, .ref (116)), (1, .ref (1)), (2, .ref (l2))]) e_K_likeliestAsTold_3 (by decide) rfl ?_
  refine g_iconst (0 : Int32) e_K_likeliestAsTold_5 (by decide) ?_
  refine g_istore (L' := [(6, .int ((0 : Int32))), (4, .long ((0 : Int64))), (3, .int ((-1 : Int32))), (0, .ref (116)), (1, .ref (1)), (2, .ref (l2))]) e_K_likeliestAsTold_6 (by decide) rfl ?_
  exact g_sub [3, 4, 5, 2, 1, 0] rfl h
set_option maxHeartbeats 1000000 in
theorem s_K_likeliestAsTold_8 {l2 : Nat} {l3 : Int32} {l4 : Int64} {l6 : Int32} {v : Vv} {Q : Int32 → Vv → Prop} (h : if l6 < (v).1 1 10 then ((ib (l6) 32) ∧ (if l4 < (v).2.1 71 (ix (l6)) then (m_K_isAsTold l6 l2 (v) (fun x4 v5 => k_K_likeliestAsTold_8 (l2) ((if x4 = true then l6 else l3)) ((if x4 = true then (v5).2.1 71 (ix (l6)) else l4)) ((l6 + (1 : Int32))) (v5) Q)) else (k_K_likeliestAsTold_53 (l2) (l3) (l4) (l6) (v) Q))) else (Q (l3) (v))) : k_K_likeliestAsTold_8 l2 l3 l4 l6 v Q := by
  show Gp 2 M_K_likeliestAsTold 8 [(0, .ref (116)), (1, .ref (1)), (2, .ref (l2)), (3, .int (l3)), (4, .long (l4)), (6, .int (l6))] [] v (QI Q)
  refine g_iload 5 e_K_likeliestAsTold_8 rfl ?_
  refine g_aload_n 1 e_K_likeliestAsTold_10 rfl rfl ?_
  refine p_getI e_K_likeliestAsTold_11 sh_1 fl_K_22 rfl ?_
  refine g_icmp_ge (tgt := 59) e_K_likeliestAsTold_14 rfl (fun c1 => ?_) (fun c1 => ?_)
  · replace h := iteF h c1
    refine g_iload_n 3 e_K_likeliestAsTold_59 rfl rfl ?_
    exact p_retI e_K_likeliestAsTold_60.1 rfl h
  · replace h := iteT h c1
    refine g_aload_n 1 e_K_likeliestAsTold_17 rfl rfl ?_
    refine p_getR (j := 71) e_K_likeliestAsTold_18 sh_1 fl_K_35 rfl (rf_1_5 _) ?_
    refine g_iload 5 e_K_likeliestAsTold_21 rfl ?_
    obtain ⟨h2, h⟩ := h
    refine p_lald e_K_likeliestAsTold_23 sh_71 h2 ?_
    refine g_lload 4 e_K_likeliestAsTold_24 rfl ?_
    refine g_l_le (tgt := 53) e_K_likeliestAsTold_26 e_K_likeliestAsTold_27 rfl (fun c3 => ?_) (fun c3 => ?_)
    · replace h := iteF h c3
      exact g_sub [0, 1, 2, 3, 4, 5] rfl h
    · replace h := iteT h c3
      refine g_aload_n 0 e_K_likeliestAsTold_30 rfl rfl ?_
      refine g_aload_n 1 e_K_likeliestAsTold_31 rfl rfl ?_
      refine g_iload 5 e_K_likeliestAsTold_32 rfl ?_
      refine g_aload_n 2 e_K_likeliestAsTold_34 rfl rfl ?_
      refine p_callVZ (d' := 1) (ci := 3) (r := (RX3, TX3, 2)) (As := [.ref (1), .int (l6), .ref (l2)]) (rest := []) e_K_likeliestAsTold_35 zm_K_isAsTold lV_K_142 sh_116 rfl rfl rfl rfl (Nat.le_of_ble_eq_true rfl) (by decide) ?_
      refine cp_mono h (fun _ v5 ⟨x4, e1, h⟩ => ⟨x4, e1, ?_⟩)
      have hj : ∀ m0 : Int32, m0 = (if x4 = true then l6 else l3) → ∀ m1 : Int64, m1 = (if x4 = true then (v5).2.1 71 (ix (l6)) else l4) → Gp 2 M_K_likeliestAsTold 53 [(0, .ref (116)), (1, .ref (1)), (2, .ref (l2)), (3, .int (m0)), (4, .long (m1)), (6, .int (l6))] [] (v5) (QI Q) := by
        intro m0 hm0 m1 hm1
        subst hm0
        subst hm1
        refine g_iinc (v := (l6 + (1 : Int32))) (L' := [(6, .int ((l6 + (1 : Int32)))), (0, .ref (116)), (1, .ref (1)), (2, .ref (l2)), (3, .int ((if x4 = true then l6 else l3))), (4, .long ((if x4 = true then (v5).2.1 71 (ix (l6)) else l4)))]) 5 e_K_likeliestAsTold_53 rfl rfl (by decide) rfl ?_
        refine g_goto (tgt := 8) e_K_likeliestAsTold_56 rfl ?_
        exact g_sub [1, 2, 3, 4, 5, 0] rfl h
      refine p_ifz_eq (tgt := 53) e_K_likeliestAsTold_38 rfl (fun c6 => ?_) (fun c6 => ?_)
      · exact hj (l3) (by simp only [if_neg c6]) (l4) (by simp only [if_neg c6])
      · refine g_iload 5 e_K_likeliestAsTold_41 rfl ?_
        refine g_istore_n (L' := [(3, .int (l6)), (0, .ref (116)), (1, .ref (1)), (2, .ref (l2)), (4, .long (l4)), (6, .int (l6))]) e_K_likeliestAsTold_43 rfl (by decide) rfl ?_
        refine g_aload_n 2 e_K_likeliestAsTold_44 rfl rfl ?_
        refine p_getR (j := 71) e_K_likeliestAsTold_45 sh_1 fl_K_35 rfl (rf_1_5 _) ?_
        refine g_iload 5 e_K_likeliestAsTold_48 rfl ?_
        refine p_lald e_K_likeliestAsTold_50 sh_71 h2 ?_
        refine g_lstore (L' := [(4, .long ((v5).2.1 71 (ix (l6)))), (3, .int (l6)), (0, .ref (116)), (1, .ref (1)), (2, .ref (l2)), (6, .int (l6))]) e_K_likeliestAsTold_51 (by decide) rfl ?_
        refine g_sub [2, 3, 4, 1, 0, 5] rfl ?_
        exact hj (l6) (by simp only [if_pos c6]) ((v5).2.1 71 (ix (l6))) (by simp only [if_pos c6])
set_option maxHeartbeats 1000000 in
theorem s_K_likeliestAsTold_53 {l2 : Nat} {l3 : Int32} {l4 : Int64} {l6 : Int32} {v : Vv} {Q : Int32 → Vv → Prop} (h : k_K_likeliestAsTold_8 (l2) (l3) (l4) ((l6 + (1 : Int32))) (v) Q) : k_K_likeliestAsTold_53 l2 l3 l4 l6 v Q := by
  show Gp 2 M_K_likeliestAsTold 53 [(0, .ref (116)), (1, .ref (1)), (2, .ref (l2)), (3, .int (l3)), (4, .long (l4)), (6, .int (l6))] [] v (QI Q)
  refine g_iinc (v := (l6 + (1 : Int32))) (L' := [(6, .int ((l6 + (1 : Int32)))), (0, .ref (116)), (1, .ref (1)), (2, .ref (l2)), (3, .int (l3)), (4, .long (l4))]) 5 e_K_likeliestAsTold_53 rfl rfl (by decide) rfl ?_
  refine g_goto (tgt := 8) e_K_likeliestAsTold_56 rfl ?_
  exact g_sub [1, 2, 3, 4, 5, 0] rfl h
set_option maxHeartbeats 1000000 in
theorem s_K_whoCameAsTold {l2 : Nat} {v : Vv} {Q : Int32 → Vv → Prop} (h : k_K_whoCameAsTold_13 (l2) (((v).1 1 10 - (1 : Int32))) ((0 : Int32)) ((0 : Int32)) (v) Q) : m_K_whoCameAsTold l2 v Q := by
  refine cp_go (Nat.le_of_ble_eq_true rfl) (by decide +kernel) ?_
  show Gp 2 M_K_whoCameAsTold 0 [(0, .ref (116)), (1, .ref (1)), (2, .ref (l2))] [] v (QI Q)
  refine g_aload_n 1 e_K_whoCameAsTold_0 rfl rfl ?_
  refine p_getI e_K_whoCameAsTold_1 sh_1 fl_K_22 rfl ?_
  refine g_iconst (1 : Int32) e_K_whoCameAsTold_4 (by decide) ?_
  refine g_isub e_K_whoCameAsTold_5 ?_
  refine g_istore_n (L' := [(3, .int (((v).1 1 10 - (1 : Int32)))), (0, .ref (116)), (1, .ref (1)), (2, .ref (l2))]) e_K_whoCameAsTold_6 rfl (by decide) rfl ?_
  refine g_iconst (0 : Int32) e_K_whoCameAsTold_7 (by decide) ?_
  refine g_istore (L' := [(4, .int ((0 : Int32))), (3, .int (((v).1 1 10 - (1 : Int32)))), (0, .ref (116)), (1, .ref (1)), (2, .ref (l2))]) e_K_whoCameAsTold_8 (by decide) rfl ?_
  refine g_iconst (0 : Int32) e_K_whoCameAsTold_10 (by decide) ?_
  refine g_istore (L' := [(5, .int ((0 : Int32))), (4, .int ((0 : Int32))), (3, .int (((v).1 1 10 - (1 : Int32)))), (0, .ref (116)), (1, .ref (1)), (2, .ref (l2))]) e_K_whoCameAsTold_11 (by decide) rfl ?_
  exact g_sub [3, 4, 5, 2, 1, 0] rfl h
set_option maxHeartbeats 1000000 in
theorem s_K_whoCameAsTold_13 {l2 : Nat} {l3 : Int32} {l4 : Int32} {l5 : Int32} {v : Vv} {Q : Int32 → Vv → Prop} (h : if l5 < (v).1 1 10 then (m_K_isAsTold l5 l2 (v) (fun x2 v3 => k_K_whoCameAsTold_13 (l2) ((if x2 = true then (l3 &&& l5) else l3)) ((if x2 = true then (1 : Int32) else l4)) ((l5 + (1 : Int32))) (v3) Q)) else (Q ((if l4 = (0 : Int32) then (0 : Int32) else l3)) (v))) : k_K_whoCameAsTold_13 l2 l3 l4 l5 v Q := by
  show Gp 2 M_K_whoCameAsTold 13 [(0, .ref (116)), (1, .ref (1)), (2, .ref (l2)), (3, .int (l3)), (4, .int (l4)), (5, .int (l5))] [] v (QI Q)
  refine g_iload 5 e_K_whoCameAsTold_13 rfl ?_
  refine g_aload_n 1 e_K_whoCameAsTold_15 rfl rfl ?_
  refine p_getI e_K_whoCameAsTold_16 sh_1 fl_K_22 rfl ?_
  refine g_icmp_ge (tgt := 47) e_K_whoCameAsTold_19 rfl (fun c1 => ?_) (fun c1 => ?_)
  · replace h := iteF h c1
    refine g_iload 4 e_K_whoCameAsTold_47 rfl ?_
    have hj : ∀ m0 : Int32, m0 = (if l4 = (0 : Int32) then (0 : Int32) else l3) → Gp 2 M_K_whoCameAsTold 57 [(0, .ref (116)), (1, .ref (1)), (2, .ref (l2)), (3, .int (l3)), (4, .int (l4)), (5, .int (l5))] [.int (m0)] (v) (QI Q) := by
      intro m0 hm0
      subst hm0
      exact p_retI e_K_whoCameAsTold_57.1 rfl h
    refine g_if_eq (tgt := 56) e_K_whoCameAsTold_49 rfl (fun c5 => ?_) (fun c5 => ?_)
    · refine g_iconst (0 : Int32) e_K_whoCameAsTold_56 (by decide) ?_
      exact hj ((0 : Int32)) (by simp only [if_pos c5])
    · refine g_iload_n 3 e_K_whoCameAsTold_52 rfl rfl ?_
      refine g_goto (tgt := 57) e_K_whoCameAsTold_53 rfl ?_
      exact hj (l3) (by simp only [if_neg c5])
  · replace h := iteT h c1
    refine g_aload_n 0 e_K_whoCameAsTold_22 rfl rfl ?_
    refine g_aload_n 1 e_K_whoCameAsTold_23 rfl rfl ?_
    refine g_iload 5 e_K_whoCameAsTold_24 rfl ?_
    refine g_aload_n 2 e_K_whoCameAsTold_26 rfl rfl ?_
    refine p_callVZ (d' := 1) (ci := 3) (r := (RX3, TX3, 2)) (As := [.ref (1), .int (l5), .ref (l2)]) (rest := []) e_K_whoCameAsTold_27 zm_K_isAsTold lV_K_142 sh_116 rfl rfl rfl rfl (Nat.le_of_ble_eq_true rfl) (by decide) ?_
    refine cp_mono h (fun _ v3 ⟨x2, e1, h⟩ => ⟨x2, e1, ?_⟩)
    have hj : ∀ m0 : Int32, m0 = (if x2 = true then (l3 &&& l5) else l3) → ∀ m1 : Int32, m1 = (if x2 = true then (1 : Int32) else l4) → Gp 2 M_K_whoCameAsTold 41 [(0, .ref (116)), (1, .ref (1)), (2, .ref (l2)), (3, .int (m0)), (4, .int (m1)), (5, .int (l5))] [] (v3) (QI Q) := by
      intro m0 hm0 m1 hm1
      subst hm0
      subst hm1
      refine g_iinc (v := (l5 + (1 : Int32))) (L' := [(5, .int ((l5 + (1 : Int32)))), (0, .ref (116)), (1, .ref (1)), (2, .ref (l2)), (3, .int ((if x2 = true then (l3 &&& l5) else l3))), (4, .int ((if x2 = true then (1 : Int32) else l4)))]) 5 e_K_whoCameAsTold_41 rfl rfl (by decide) rfl ?_
      refine g_goto (tgt := 13) e_K_whoCameAsTold_44 rfl ?_
      exact g_sub [1, 2, 3, 4, 5, 0] rfl h
    refine p_ifz_eq (tgt := 41) e_K_whoCameAsTold_30 rfl (fun c4 => ?_) (fun c4 => ?_)
    · exact hj (l3) (by simp only [if_neg c4]) (l4) (by simp only [if_neg c4])
    · refine g_iload_n 3 e_K_whoCameAsTold_33 rfl rfl ?_
      refine g_iload 5 e_K_whoCameAsTold_34 rfl ?_
      refine g_iand e_K_whoCameAsTold_36 ?_
      refine g_istore_n (L' := [(3, .int ((l3 &&& l5))), (0, .ref (116)), (1, .ref (1)), (2, .ref (l2)), (4, .int (l4)), (5, .int (l5))]) e_K_whoCameAsTold_37 rfl (by decide) rfl ?_
      refine g_iconst (1 : Int32) e_K_whoCameAsTold_38 (by decide) ?_
      refine g_istore (L' := [(4, .int ((1 : Int32))), (3, .int ((l3 &&& l5))), (0, .ref (116)), (1, .ref (1)), (2, .ref (l2)), (5, .int (l5))]) e_K_whoCameAsTold_39 (by decide) rfl ?_
      refine g_sub [2, 3, 4, 1, 0, 5] rfl ?_
      exact hj ((l3 &&& l5)) (by simp only [if_pos c4]) ((1 : Int32)) (by simp only [if_pos c4])
set_option maxHeartbeats 1000000 in
theorem s_K_unlikeTimes  {v : Vv} {Q : Int32 → Vv → Prop} (h : m_K_sumTimes  (v) (fun v2 => m_U_aboveNothing  (v2) (fun x3 v4 => Q (x3) (v4)))) : m_K_unlikeTimes  v Q := by
  refine cp_go (Nat.le_of_ble_eq_true rfl) (by decide +kernel) ?_
  show Gp 3 M_K_unlikeTimes 0 [(0, .ref (116)), (1, .ref (1))] [] v (QI Q)
  refine g_aload_n 0 e_K_unlikeTimes_0 rfl rfl ?_
  refine g_aload_n 1 e_K_unlikeTimes_1 rfl rfl ?_
  refine p_callVV (d' := 2) (ci := 3) (r := (RX3, TX3, 2)) (As := [.ref (1)]) (rest := []) e_K_unlikeTimes_2 zm_K_sumTimes lV_K_51 sh_116 rfl rfl rfl rfl (Nat.le_of_ble_eq_true rfl) (by decide) ?_
  refine cp_mono h (fun _ v2 ⟨e1, h⟩ => ⟨e1, ?_⟩)
  refine g_aload_n 0 e_K_unlikeTimes_5 rfl rfl ?_
  refine p_getR (j := 117) e_K_unlikeTimes_6 sh_116 fl_K_12 rfl (rf_116_0 _) ?_
  refine p_callVI (d' := 1) (ci := 6) (r := (RX6, TX6, 3)) (As := []) (rest := []) e_K_unlikeTimes_9 zm_U_aboveNothing lV_K_59 sh_117 rfl rfl rfl rfl (Nat.le_of_ble_eq_true rfl) (by decide) ?_
  refine cp_mono h (fun _ v4 ⟨x3, e1, h⟩ => ⟨x3, e1, ?_⟩)
  exact p_retI e_K_unlikeTimes_12.1 rfl h
set_option maxHeartbeats 1000000 in
theorem s_K_chanceOfTime  {v : Vv} {Q : Int64 → Vv → Prop} (h : m_K_sumTimes  (v) (fun v2 => m_U_greatest  (v2) (fun x3 v4 => Q (x3) (v4)))) : m_K_chanceOfTime  v Q := by
  refine cp_go (Nat.le_of_ble_eq_true rfl) (by decide +kernel) ?_
  show Gp 3 M_K_chanceOfTime 0 [(0, .ref (116)), (1, .ref (1))] [] v (QJ Q)
  refine g_aload_n 0 e_K_chanceOfTime_0 rfl rfl ?_
  refine g_aload_n 1 e_K_chanceOfTime_1 rfl rfl ?_
  refine p_callVV (d' := 2) (ci := 3) (r := (RX3, TX3, 2)) (As := [.ref (1)]) (rest := []) e_K_chanceOfTime_2 zm_K_sumTimes lV_K_51 sh_116 rfl rfl rfl rfl (Nat.le_of_ble_eq_true rfl) (by decide) ?_
  refine cp_mono h (fun _ v2 ⟨e1, h⟩ => ⟨e1, ?_⟩)
  refine g_aload_n 0 e_K_chanceOfTime_5 rfl rfl ?_
  refine p_getR (j := 117) e_K_chanceOfTime_6 sh_116 fl_K_12 rfl (rf_116_0 _) ?_
  refine p_callVJ (d' := 2) (ci := 6) (r := (RX6, TX6, 3)) (As := []) (rest := []) e_K_chanceOfTime_9 zm_U_greatest lV_K_62 sh_117 rfl rfl rfl rfl (Nat.le_of_ble_eq_true rfl) (by decide) ?_
  refine cp_mono h (fun _ v4 ⟨x3, e1, h⟩ => ⟨x3, e1, ?_⟩)
  exact p_retJ e_K_chanceOfTime_12.1 rfl h
set_option maxHeartbeats 1000000 in
theorem s_K_chanceOfSaying {l2 : Int32} {v : Vv} {Q : Int64 → Vv → Prop} (h : k_K_chanceOfSaying_10 (l2) ((0 : Int32)) (sI (v) 117 2 (0 : Int32)) Q) : m_K_chanceOfSaying l2 v Q := by
  refine cp_go (Nat.le_of_ble_eq_true rfl) (by decide +kernel) ?_
  show Gp 3 M_K_chanceOfSaying 0 [(0, .ref (116)), (1, .ref (1)), (2, .int (l2))] [] v (QJ Q)
  refine g_aload_n 0 e_K_chanceOfSaying_0 rfl rfl ?_
  refine p_getR (j := 117) e_K_chanceOfSaying_1 sh_116 fl_K_12 rfl (rf_116_0 _) ?_
  refine g_iconst (0 : Int32) e_K_chanceOfSaying_4 (by decide) ?_
  refine p_putI e_K_chanceOfSaying_5 sh_117 fp_K_39 rfl rfl rfl ?_
  refine g_iconst (0 : Int32) e_K_chanceOfSaying_8 (by decide) ?_
  refine g_istore_n (L' := [(3, .int ((0 : Int32))), (0, .ref (116)), (1, .ref (1)), (2, .int (l2))]) e_K_chanceOfSaying_9 rfl (by decide) rfl ?_
  exact g_sub [1, 2, 3, 0] rfl h
set_option maxHeartbeats 1000000 in
theorem s_K_chanceOfSaying_10 {l2 : Int32} {l3 : Int32} {v : Vv} {Q : Int64 → Vv → Prop} (h : if l3 < (v).1 1 10 then ((ib (l3) 32) ∧ (if (v).1 69 (ix (l3)) = (0 : Int32) then (k_K_chanceOfSaying_46 (l2) (l3) (v) Q) else (m_W_says l3 l2 (v) (fun x4 v5 => m_U_add x4 ((v5).2.1 71 (ix (l3))) (v5) (fun v7 => k_K_chanceOfSaying_46 (l2) (l3) (v7) Q))))) else (m_U_greatest  (v) (fun x8 v9 => Q (x8) (v9)))) : k_K_chanceOfSaying_10 l2 l3 v Q := by
  show Gp 3 M_K_chanceOfSaying 10 [(0, .ref (116)), (1, .ref (1)), (2, .int (l2)), (3, .int (l3))] [] v (QJ Q)
  refine g_iload_n 3 e_K_chanceOfSaying_10 rfl rfl ?_
  refine g_aload_n 1 e_K_chanceOfSaying_11 rfl rfl ?_
  refine p_getI e_K_chanceOfSaying_12 sh_1 fl_K_22 rfl ?_
  refine g_icmp_ge (tgt := 52) e_K_chanceOfSaying_15 rfl (fun c1 => ?_) (fun c1 => ?_)
  · replace h := iteF h c1
    refine g_aload_n 0 e_K_chanceOfSaying_52 rfl rfl ?_
    refine p_getR (j := 117) e_K_chanceOfSaying_53 sh_116 fl_K_12 rfl (rf_116_0 _) ?_
    refine p_callVJ (d' := 2) (ci := 6) (r := (RX6, TX6, 3)) (As := []) (rest := []) e_K_chanceOfSaying_56 zm_U_greatest lV_K_62 sh_117 rfl rfl rfl rfl (Nat.le_of_ble_eq_true rfl) (by decide) ?_
    refine cp_mono h (fun _ v9 ⟨x8, e1, h⟩ => ⟨x8, e1, ?_⟩)
    exact p_retJ e_K_chanceOfSaying_59.1 rfl h
  · replace h := iteT h c1
    refine g_aload_n 1 e_K_chanceOfSaying_18 rfl rfl ?_
    refine p_getR (j := 69) e_K_chanceOfSaying_19 sh_1 fl_K_28 rfl (rf_1_3 _) ?_
    refine g_iload_n 3 e_K_chanceOfSaying_22 rfl rfl ?_
    obtain ⟨h2, h⟩ := h
    refine p_zald e_K_chanceOfSaying_23 sh_69 h2 ?_
    refine g_if_eq (tgt := 46) e_K_chanceOfSaying_24 rfl (fun c3 => ?_) (fun c3 => ?_)
    · replace h := iteT h c3
      exact g_sub [0, 1, 2, 3] rfl h
    · replace h := iteF h c3
      refine g_aload_n 0 e_K_chanceOfSaying_27 rfl rfl ?_
      refine p_getR (j := 117) e_K_chanceOfSaying_28 sh_116 fl_K_12 rfl (rf_116_0 _) ?_
      refine g_aload_n 1 e_K_chanceOfSaying_31 rfl rfl ?_
      refine g_iload_n 3 e_K_chanceOfSaying_32 rfl rfl ?_
      refine g_iload_n 2 e_K_chanceOfSaying_33 rfl rfl ?_
      refine p_callVI (d' := 2) (ci := 8) (r := (RX8, TX8, 13)) (As := [.int (l3), .int (l2)]) (rest := [.ref (117)]) e_K_chanceOfSaying_34 zm_W_says lV_K_91 sh_1 rfl rfl rfl rfl (Nat.le_of_ble_eq_true rfl) (by decide) ?_
      refine cp_mono h (fun _ v5 ⟨x4, e1, h⟩ => ⟨x4, e1, ?_⟩)
      refine g_aload_n 1 e_K_chanceOfSaying_37 rfl rfl ?_
      refine p_getR (j := 71) e_K_chanceOfSaying_38 sh_1 fl_K_35 rfl (rf_1_5 _) ?_
      refine g_iload_n 3 e_K_chanceOfSaying_41 rfl rfl ?_
      refine p_lald e_K_chanceOfSaying_42 sh_71 h2 ?_
      refine p_callVV (d' := 1) (ci := 6) (r := (RX6, TX6, 3)) (As := [.int (x4), .long ((v5).2.1 71 (ix (l3)))]) (rest := []) e_K_chanceOfSaying_43 zm_U_add lV_K_43 sh_117 rfl rfl rfl rfl (Nat.le_of_ble_eq_true rfl) (by decide) ?_
      refine cp_mono h (fun _ v7 ⟨e1, h⟩ => ⟨e1, ?_⟩)
      exact g_sub [0, 1, 2, 3] rfl h
set_option maxHeartbeats 1000000 in
theorem s_K_chanceOfSaying_46 {l2 : Int32} {l3 : Int32} {v : Vv} {Q : Int64 → Vv → Prop} (h : k_K_chanceOfSaying_10 (l2) ((l3 + (1 : Int32))) (v) Q) : k_K_chanceOfSaying_46 l2 l3 v Q := by
  show Gp 3 M_K_chanceOfSaying 46 [(0, .ref (116)), (1, .ref (1)), (2, .int (l2)), (3, .int (l3))] [] v (QJ Q)
  refine g_iinc (v := (l3 + (1 : Int32))) (L' := [(3, .int ((l3 + (1 : Int32)))), (0, .ref (116)), (1, .ref (1)), (2, .int (l2))]) 3 e_K_chanceOfSaying_46 rfl rfl (by decide) rfl ?_
  refine g_goto (tgt := 10) e_K_chanceOfSaying_49 rfl ?_
  exact g_sub [1, 2, 3, 0] rfl h
set_option maxHeartbeats 1000000 in
theorem s_K_fewestThatTell  {v : Vv} {Q : Int32 → Vv → Prop} (h : k_K_fewestThatTell_2 ((0 : Int32)) (v) Q) : m_K_fewestThatTell  v Q := by
  refine cp_go (Nat.le_of_ble_eq_true rfl) (by decide +kernel) ?_
  show Gp 3 M_K_fewestThatTell 0 [(0, .ref (116)), (1, .ref (1))] [] v (QI Q)
  refine g_iconst (0 : Int32) e_K_fewestThatTell_0 (by decide) ?_
  refine g_istore_n (L' := [(2, .int ((0 : Int32))), (0, .ref (116)), (1, .ref (1))]) e_K_fewestThatTell_1 rfl (by decide) rfl ?_
  exact g_sub [1, 2, 0] rfl h
set_option maxHeartbeats 1000000 in
theorem s_K_fewestThatTell_2 {l2 : Int32} {v : Vv} {Q : Int32 → Vv → Prop} (h : if l2 < (64 : Int32) then ((ib (l2) 64) ∧ (k_K_fewestThatTell_2 ((l2 + (1 : Int32))) (sI (v) 120 (ix (l2)) (nb (0 : Int32))) Q)) else (k_K_fewestThatTell_26 ((0 : Int32)) (v) Q)) : k_K_fewestThatTell_2 l2 v Q := by
  show Gp 3 M_K_fewestThatTell 2 [(0, .ref (116)), (1, .ref (1)), (2, .int (l2))] [] v (QI Q)
  refine g_iload_n 2 e_K_fewestThatTell_2 rfl rfl ?_
  refine g_aload_n 0 e_K_fewestThatTell_3 rfl rfl ?_
  refine p_getR (j := 120) e_K_fewestThatTell_4 sh_116 fl_K_18 rfl (rf_116_1 _) ?_
  refine p_alen (x := (64 : Int32)) e_K_fewestThatTell_7 sh_120 (by decide) (by decide) ?_
  refine g_icmp_ge (tgt := 24) e_K_fewestThatTell_8 rfl (fun c1 => ?_) (fun c1 => ?_)
  · replace h := iteF h c1
    refine g_iconst (0 : Int32) e_K_fewestThatTell_24 (by decide) ?_
    refine g_istore_n (L' := [(2, .int ((0 : Int32))), (0, .ref (116)), (1, .ref (1))]) e_K_fewestThatTell_25 rfl (by decide) rfl ?_
    exact g_sub [1, 2, 0] rfl h
  · replace h := iteT h c1
    refine g_aload_n 0 e_K_fewestThatTell_11 rfl rfl ?_
    refine p_getR (j := 120) e_K_fewestThatTell_12 sh_116 fl_K_18 rfl (rf_116_1 _) ?_
    refine g_iload_n 2 e_K_fewestThatTell_15 rfl rfl ?_
    refine g_iconst (0 : Int32) e_K_fewestThatTell_16 (by decide) ?_
    obtain ⟨h2, h⟩ := h
    refine p_zast e_K_fewestThatTell_17 sh_120 h2 ?_
    refine g_iinc (v := (l2 + (1 : Int32))) (L' := [(2, .int ((l2 + (1 : Int32)))), (0, .ref (116)), (1, .ref (1))]) 2 e_K_fewestThatTell_18 rfl rfl (by decide) rfl ?_
    refine g_goto (tgt := 2) e_K_fewestThatTell_21 rfl ?_
    exact g_sub [1, 2, 0] rfl h
set_option maxHeartbeats 1000000 in
theorem s_K_fewestThatTell_26 {l2 : Int32} {v : Vv} {Q : Int32 → Vv → Prop} (h : if l2 < (v).1 1 10 then (k_K_fewestThatTell_36 (l2) ((0 : Int32)) (v) Q) else (k_K_fewestThatTell_89 ((-1 : Int32)) ((1 : Int32)) (v) Q)) : k_K_fewestThatTell_26 l2 v Q := by
  show Gp 3 M_K_fewestThatTell 26 [(0, .ref (116)), (1, .ref (1)), (2, .int (l2))] [] v (QI Q)
  refine g_iload_n 2 e_K_fewestThatTell_26 rfl rfl ?_
  refine g_aload_n 1 e_K_fewestThatTell_27 rfl rfl ?_
  refine p_getI e_K_fewestThatTell_28 sh_1 fl_K_22 rfl ?_
  refine g_icmp_ge (tgt := 85) e_K_fewestThatTell_31 rfl (fun c3 => ?_) (fun c3 => ?_)
  · replace h := iteF h c3
    refine g_iconst (-1 : Int32) e_K_fewestThatTell_85 (by decide) ?_
    refine g_istore_n (L' := [(2, .int ((-1 : Int32))), (0, .ref (116)), (1, .ref (1))]) e_K_fewestThatTell_86 rfl (by decide) rfl ?_
    refine g_iconst (1 : Int32) e_K_fewestThatTell_87 (by decide) ?_
    refine g_istore_n (L' := [(3, .int ((1 : Int32))), (2, .int ((-1 : Int32))), (0, .ref (116)), (1, .ref (1))]) e_K_fewestThatTell_88 rfl (by decide) rfl ?_
    exact g_sub [2, 3, 1, 0] rfl h
  · replace h := iteT h c3
    refine g_iconst (0 : Int32) e_K_fewestThatTell_34 (by decide) ?_
    refine g_istore_n (L' := [(3, .int ((0 : Int32))), (0, .ref (116)), (1, .ref (1)), (2, .int (l2))]) e_K_fewestThatTell_35 rfl (by decide) rfl ?_
    exact g_sub [1, 2, 3, 0] rfl h
set_option maxHeartbeats 1000000 in
theorem s_K_fewestThatTell_36 {l2 : Int32} {l3 : Int32} {v : Vv} {Q : Int32 → Vv → Prop} (h : if l3 < (v).1 1 10 then ((ib (l2) 32) ∧ (if (0 : Int64) < (v).2.1 71 (ix (l2)) then ((ib (l3) 32) ∧ (if (0 : Int64) < (v).2.1 71 (ix (l3)) then (m_K_blindBy l2 l3 (v) (fun v10 => k_K_fewestThatTell_73 (l2) (l3) (v10) Q)) else (k_K_fewestThatTell_73 (l2) (l3) (v) Q))) else (k_K_fewestThatTell_73 (l2) (l3) (v) Q))) else (k_K_fewestThatTell_26 ((l2 + (1 : Int32))) (v) Q)) : k_K_fewestThatTell_36 l2 l3 v Q := by
  show Gp 3 M_K_fewestThatTell 36 [(0, .ref (116)), (1, .ref (1)), (2, .int (l2)), (3, .int (l3))] [] v (QI Q)
  refine g_iload_n 3 e_K_fewestThatTell_36 rfl rfl ?_
  refine g_aload_n 1 e_K_fewestThatTell_37 rfl rfl ?_
  refine p_getI e_K_fewestThatTell_38 sh_1 fl_K_22 rfl ?_
  refine g_icmp_ge (tgt := 79) e_K_fewestThatTell_41 rfl (fun c4 => ?_) (fun c4 => ?_)
  · replace h := iteF h c4
    refine g_iinc (v := (l2 + (1 : Int32))) (L' := [(2, .int ((l2 + (1 : Int32)))), (0, .ref (116)), (1, .ref (1)), (3, .int (l3))]) 2 e_K_fewestThatTell_79 rfl rfl (by decide) rfl ?_
    refine g_goto (tgt := 26) e_K_fewestThatTell_82 rfl ?_
    exact g_sub [1, 2, 0] rfl h
  · replace h := iteT h c4
    refine g_aload_n 1 e_K_fewestThatTell_44 rfl rfl ?_
    refine p_getR (j := 71) e_K_fewestThatTell_45 sh_1 fl_K_35 rfl (rf_1_5 _) ?_
    refine g_iload_n 2 e_K_fewestThatTell_48 rfl rfl ?_
    obtain ⟨h5, h⟩ := h
    refine p_lald e_K_fewestThatTell_49 sh_71 h5 ?_
    refine g_lconst (0 : Int64) e_K_fewestThatTell_50 (by decide) ?_
    refine g_l_le (tgt := 73) e_K_fewestThatTell_51 e_K_fewestThatTell_52 rfl (fun c6 => ?_) (fun c6 => ?_)
    · replace h := iteF h c6
      exact g_sub [0, 1, 2, 3] rfl h
    · replace h := iteT h c6
      refine g_aload_n 1 e_K_fewestThatTell_55 rfl rfl ?_
      refine p_getR (j := 71) e_K_fewestThatTell_56 sh_1 fl_K_35 rfl (rf_1_5 _) ?_
      refine g_iload_n 3 e_K_fewestThatTell_59 rfl rfl ?_
      obtain ⟨h7, h⟩ := h
      refine p_lald e_K_fewestThatTell_60 sh_71 h7 ?_
      refine g_lconst (0 : Int64) e_K_fewestThatTell_61 (by decide) ?_
      refine g_l_le (tgt := 73) e_K_fewestThatTell_62 e_K_fewestThatTell_63 rfl (fun c8 => ?_) (fun c8 => ?_)
      · replace h := iteF h c8
        exact g_sub [0, 1, 2, 3] rfl h
      · replace h := iteT h c8
        refine g_aload_n 0 e_K_fewestThatTell_66 rfl rfl ?_
        refine g_aload_n 1 e_K_fewestThatTell_67 rfl rfl ?_
        refine g_iload_n 2 e_K_fewestThatTell_68 rfl rfl ?_
        refine g_iload_n 3 e_K_fewestThatTell_69 rfl rfl ?_
        refine p_callVV (d' := 2) (ci := 3) (r := (RX3, TX3, 2)) (As := [.ref (1), .int (l2), .int (l3)]) (rest := []) e_K_fewestThatTell_70 zm_K_blindBy lV_K_95 sh_116 rfl rfl rfl rfl (Nat.le_of_ble_eq_true rfl) (by decide) ?_
        refine cp_mono h (fun _ v10 ⟨e1, h⟩ => ⟨e1, ?_⟩)
        exact g_sub [0, 1, 2, 3] rfl h
set_option maxHeartbeats 1000000 in
theorem s_K_fewestThatTell_89 {l2 : Int32} {l3 : Int32} {v : Vv} {Q : Int32 → Vv → Prop} (h : if l3 < ((1 : Int32) <<< ((v).1 74 2 &&& 31)) then ((ib (l3) 64) ∧ (if (v).1 120 (ix (l3)) = (0 : Int32) then (if l2 = (-1 : Int32) then (k_K_fewestThatTell_127 (l3) (v) Q) else (m_JI_bitCount l3 (v) (fun x15 v16 => m_JI_bitCount l2 (v16) (fun x17 v18 => k_K_fewestThatTell_89 ((if x15 < x17 then l3 else l2)) ((l3 + (1 : Int32))) (v18) Q)))) else (k_K_fewestThatTell_129 (l2) (l3) (v) Q))) else (Q (l2) (v))) : k_K_fewestThatTell_89 l2 l3 v Q := by
  show Gp 3 M_K_fewestThatTell 89 [(0, .ref (116)), (1, .ref (1)), (2, .int (l2)), (3, .int (l3))] [] v (QI Q)
  refine g_iload_n 3 e_K_fewestThatTell_89 rfl rfl ?_
  refine g_iconst (1 : Int32) e_K_fewestThatTell_90 (by decide) ?_
  refine g_aload_n 1 e_K_fewestThatTell_91 rfl rfl ?_
  refine p_getR (j := 74) e_K_fewestThatTell_92 sh_1 fl_K_66 rfl (rf_1_8 _) ?_
  refine p_getI e_K_fewestThatTell_95 sh_74 fl_K_75 rfl ?_
  refine g_ishl e_K_fewestThatTell_98 ?_
  refine g_icmp_ge (tgt := 135) e_K_fewestThatTell_99 rfl (fun c11 => ?_) (fun c11 => ?_)
  · replace h := iteF h c11
    refine g_iload_n 2 e_K_fewestThatTell_135 rfl rfl ?_
    exact p_retI e_K_fewestThatTell_136.1 rfl h
  · replace h := iteT h c11
    refine g_aload_n 0 e_K_fewestThatTell_102 rfl rfl ?_
    refine p_getR (j := 120) e_K_fewestThatTell_103 sh_116 fl_K_18 rfl (rf_116_1 _) ?_
    refine g_iload_n 3 e_K_fewestThatTell_106 rfl rfl ?_
    obtain ⟨h12, h⟩ := h
    refine p_zald e_K_fewestThatTell_107 sh_120 h12 ?_
    refine g_if_ne (tgt := 129) e_K_fewestThatTell_108 rfl (fun c13 => ?_) (fun c13 => ?_)
    · replace h := iteF h c13
      exact g_sub [0, 1, 2, 3] rfl h
    · replace h := iteT h c13
      refine g_iload_n 2 e_K_fewestThatTell_111 rfl rfl ?_
      refine g_iconst (-1 : Int32) e_K_fewestThatTell_112 (by decide) ?_
      refine g_icmp_eq (tgt := 127) e_K_fewestThatTell_113 rfl (fun c14 => ?_) (fun c14 => ?_)
      · replace h := iteT h c14
        exact g_sub [0, 1, 3] rfl h
      · replace h := iteF h c14
        refine g_iload_n 3 e_K_fewestThatTell_116 rfl rfl ?_
        refine p_callSI (d' := 1) (As := [.int (l3)]) (rest := []) e_K_fewestThatTell_117 zm_JI_bitCount lS_K_99 rfl rfl (Nat.le_of_ble_eq_true rfl) (by decide) ?_
        refine cp_mono h (fun _ v16 ⟨x15, e1, h⟩ => ⟨x15, e1, ?_⟩)
        refine g_iload_n 2 e_K_fewestThatTell_120 rfl rfl ?_
        refine p_callSI (d' := 1) (As := [.int (l2)]) (rest := [.int (x15)]) e_K_fewestThatTell_121 zm_JI_bitCount lS_K_99 rfl rfl (Nat.le_of_ble_eq_true rfl) (by decide) ?_
        refine cp_mono h (fun _ v18 ⟨x17, e1, h⟩ => ⟨x17, e1, ?_⟩)
        have hj : ∀ m0 : Int32, m0 = (if x15 < x17 then l3 else l2) → Gp 3 M_K_fewestThatTell 129 [(0, .ref (116)), (1, .ref (1)), (2, .int (m0)), (3, .int (l3))] [] (v18) (QI Q) := by
          intro m0 hm0
          subst hm0
          refine g_iinc (v := (l3 + (1 : Int32))) (L' := [(3, .int ((l3 + (1 : Int32)))), (0, .ref (116)), (1, .ref (1)), (2, .int ((if x15 < x17 then l3 else l2)))]) 3 e_K_fewestThatTell_129 rfl rfl (by decide) rfl ?_
          refine g_goto (tgt := 89) e_K_fewestThatTell_132 rfl ?_
          exact g_sub [1, 2, 3, 0] rfl h
        refine g_icmp_ge (tgt := 129) e_K_fewestThatTell_124 rfl (fun c19 => ?_) (fun c19 => ?_)
        · exact hj (l2) (by simp only [if_neg c19])
        · refine g_iload_n 3 e_K_fewestThatTell_127 rfl rfl ?_
          refine g_istore_n (L' := [(2, .int (l3)), (0, .ref (116)), (1, .ref (1)), (3, .int (l3))]) e_K_fewestThatTell_128 rfl (by decide) rfl ?_
          refine g_sub [1, 2, 0, 3] rfl ?_
          exact hj (l3) (by simp only [if_pos c19])
set_option maxHeartbeats 1000000 in
theorem s_K_fewestThatTell_73 {l2 : Int32} {l3 : Int32} {v : Vv} {Q : Int32 → Vv → Prop} (h : k_K_fewestThatTell_36 (l2) ((l3 + (1 : Int32))) (v) Q) : k_K_fewestThatTell_73 l2 l3 v Q := by
  show Gp 3 M_K_fewestThatTell 73 [(0, .ref (116)), (1, .ref (1)), (2, .int (l2)), (3, .int (l3))] [] v (QI Q)
  refine g_iinc (v := (l3 + (1 : Int32))) (L' := [(3, .int ((l3 + (1 : Int32)))), (0, .ref (116)), (1, .ref (1)), (2, .int (l2))]) 3 e_K_fewestThatTell_73 rfl rfl (by decide) rfl ?_
  refine g_goto (tgt := 36) e_K_fewestThatTell_76 rfl ?_
  exact g_sub [1, 2, 3, 0] rfl h
set_option maxHeartbeats 1000000 in
theorem s_K_fewestThatTell_127 {l3 : Int32} {v : Vv} {Q : Int32 → Vv → Prop} (h : k_K_fewestThatTell_129 (l3) (l3) (v) Q) : k_K_fewestThatTell_127 l3 v Q := by
  show Gp 3 M_K_fewestThatTell 127 [(0, .ref (116)), (1, .ref (1)), (3, .int (l3))] [] v (QI Q)
  refine g_iload_n 2 e_K_fewestThatTell_127 rfl rfl ?_
  refine g_istore_n (L' := [(2, .int (l3)), (0, .ref (116)), (1, .ref (1)), (3, .int (l3))]) e_K_fewestThatTell_128 rfl (by decide) rfl ?_
  exact g_sub [1, 2, 0, 3] rfl h
set_option maxHeartbeats 1000000 in
theorem s_K_fewestThatTell_129 {l2 : Int32} {l3 : Int32} {v : Vv} {Q : Int32 → Vv → Prop} (h : k_K_fewestThatTell_89 (l2) ((l3 + (1 : Int32))) (v) Q) : k_K_fewestThatTell_129 l2 l3 v Q := by
  show Gp 3 M_K_fewestThatTell 129 [(0, .ref (116)), (1, .ref (1)), (2, .int (l2)), (3, .int (l3))] [] v (QI Q)
  refine g_iinc (v := (l3 + (1 : Int32))) (L' := [(3, .int ((l3 + (1 : Int32)))), (0, .ref (116)), (1, .ref (1)), (2, .int (l2))]) 3 e_K_fewestThatTell_129 rfl rfl (by decide) rfl ?_
  refine g_goto (tgt := 89) e_K_fewestThatTell_132 rfl ?_
  exact g_sub [1, 2, 3, 0] rfl h
set_option maxHeartbeats 1000000 in
theorem s_K_likeliestTime  {v : Vv} {Q : Int32 → Vv → Prop} (h : if (v).2.1 1 11 = (0 : Int64) then (Q ((-1 : Int32)) (v)) else (m_K_sumTimes  (v) (fun v3 => m_U_keyOfGreatest  (v3) (fun x4 v5 => Q (x4) (v5))))) : m_K_likeliestTime  v Q := by
  refine cp_go (Nat.le_of_ble_eq_true rfl) (by decide +kernel) ?_
  show Gp 4 M_K_likeliestTime 0 [(0, .ref (116)), (1, .ref (1))] [] v (QI Q)
  refine g_aload_n 1 e_K_likeliestTime_0 rfl rfl ?_
  refine p_getJ e_K_likeliestTime_1 sh_1 fl_K_47 rfl ?_
  refine g_lconst (0 : Int64) e_K_likeliestTime_4 (by decide) ?_
  refine g_l_ne (tgt := 11) e_K_likeliestTime_5 e_K_likeliestTime_6 rfl (fun c1 => ?_) (fun c1 => ?_)
  · replace h := iteF h c1
    refine g_aload_n 0 e_K_likeliestTime_11 rfl rfl ?_
    refine g_aload_n 1 e_K_likeliestTime_12 rfl rfl ?_
    refine p_callVV (d' := 2) (ci := 3) (r := (RX3, TX3, 2)) (As := [.ref (1)]) (rest := []) e_K_likeliestTime_13 zm_K_sumTimes lV_K_51 sh_116 rfl rfl rfl rfl (Nat.le_of_ble_eq_true rfl) (by decide) ?_
    refine cp_mono h (fun _ v3 ⟨e1, h⟩ => ⟨e1, ?_⟩)
    refine g_aload_n 0 e_K_likeliestTime_16 rfl rfl ?_
    refine p_getR (j := 117) e_K_likeliestTime_17 sh_116 fl_K_12 rfl (rf_116_0 _) ?_
    refine p_callVI (d' := 3) (ci := 6) (r := (RX6, TX6, 3)) (As := []) (rest := []) e_K_likeliestTime_20 zm_U_keyOfGreatest lV_K_55 sh_117 rfl rfl rfl rfl (Nat.le_of_ble_eq_true rfl) (by decide) ?_
    refine cp_mono h (fun _ v5 ⟨x4, e1, h⟩ => ⟨x4, e1, ?_⟩)
    exact p_retI e_K_likeliestTime_23.1 rfl h
  · replace h := iteT h c1
    refine g_iconst (-1 : Int32) e_K_likeliestTime_9 (by decide) ?_
    exact p_retI e_K_likeliestTime_10.1 rfl h
set_option maxHeartbeats 1000000 in
theorem s_K_nextToSee  {v : Vv} {Q : Int32 → Vv → Prop} (h : m_H_seen 74 (v) (fun x1 v2 => if x1 = (0 : Int32) then (Q ((-1 : Int32)) (v2)) else (k_K_nextToSee_19 ((-1 : Int32)) ((0 : Int64)) ((0 : Int32)) (v2) Q))) : m_K_nextToSee  v Q := by
  refine cp_go (Nat.le_of_ble_eq_true rfl) (by decide +kernel) ?_
  show Gp 4 M_K_nextToSee 0 [(0, .ref (116)), (1, .ref (1))] [] v (QI Q)
  refine g_aload_n 1 e_K_nextToSee_0 rfl rfl ?_
  refine p_getR (j := 74) e_K_nextToSee_1 sh_1 fl_K_66 rfl (rf_1_8 _) ?_
  refine p_callVI (d' := 1) (ci := 2) (r := (RX2, TX2, 5)) (As := []) (rest := []) e_K_nextToSee_4 zm_H_seen lV_K_70 sh_74 rfl rfl rfl rfl (Nat.le_of_ble_eq_true rfl) (by decide) ?_
  refine cp_mono h (fun _ v2 ⟨x1, e1, h⟩ => ⟨x1, e1, ?_⟩)
  refine g_if_ne (tgt := 12) e_K_nextToSee_7 rfl (fun c3 => ?_) (fun c3 => ?_)
  · replace h := iteF h c3
    refine g_iconst (-1 : Int32) e_K_nextToSee_12 (by decide) ?_
    refine g_istore_n (L' := [(2, .int ((-1 : Int32))), (0, .ref (116)), (1, .ref (1))]) e_K_nextToSee_13 rfl (by decide) rfl ?_
    refine g_lconst (0 : Int64) e_K_nextToSee_14 (by decide) ?_
    refine g_lstore_n (L' := [(3, .long ((0 : Int64))), (2, .int ((-1 : Int32))), (0, .ref (116)), (1, .ref (1))]) e_K_nextToSee_15 rfl (by decide) rfl ?_
    refine g_iconst (0 : Int32) e_K_nextToSee_16 (by decide) ?_
    refine g_istore (L' := [(5, .int ((0 : Int32))), (3, .long ((0 : Int64))), (2, .int ((-1 : Int32))), (0, .ref (116)), (1, .ref (1))]) e_K_nextToSee_17 (by decide) rfl ?_
    exact g_sub [3, 4, 2, 1, 0] rfl h
  · replace h := iteT h c3
    refine g_iconst (-1 : Int32) e_K_nextToSee_10 (by decide) ?_
    exact p_retI e_K_nextToSee_11.1 rfl h
set_option maxHeartbeats 1000000 in
theorem s_K_nextToSee_19 {l2 : Int32} {l3 : Int64} {l5 : Int32} {v : Vv} {Q : Int32 → Vv → Prop} (h : if l5 < (v).1 74 2 then ((ib (l5) 6) ∧ (if (v).1 (77 + ix (l5)) 3 = (-1 : Int32) then (m_K_chanceOfSaying l5 (v) (fun x7 v8 => k_K_nextToSee_19 ((if l2 = (-1 : Int32) then l5 else (if x7 < l3 then l5 else l2))) ((if l2 = (-1 : Int32) then x7 else (if x7 < l3 then x7 else l3))) ((l5 + (1 : Int32))) (v8) Q)) else (k_K_nextToSee_78 (l2) (l3) (l5) (v) Q))) else (Q (l2) (v))) : k_K_nextToSee_19 l2 l3 l5 v Q := by
  show Gp 4 M_K_nextToSee 19 [(0, .ref (116)), (1, .ref (1)), (2, .int (l2)), (3, .long (l3)), (5, .int (l5))] [] v (QI Q)
  refine g_iload 4 e_K_nextToSee_19 rfl ?_
  refine g_aload_n 1 e_K_nextToSee_21 rfl rfl ?_
  refine p_getR (j := 74) e_K_nextToSee_22 sh_1 fl_K_66 rfl (rf_1_8 _) ?_
  refine p_getI e_K_nextToSee_25 sh_74 fl_K_75 rfl ?_
  refine g_icmp_ge (tgt := 84) e_K_nextToSee_28 rfl (fun c4 => ?_) (fun c4 => ?_)
  · replace h := iteF h c4
    refine g_iload_n 2 e_K_nextToSee_84 rfl rfl ?_
    exact p_retI e_K_nextToSee_85.1 rfl h
  · replace h := iteT h c4
    refine g_aload_n 1 e_K_nextToSee_31 rfl rfl ?_
    refine p_getR (j := 74) e_K_nextToSee_32 sh_1 fl_K_66 rfl (rf_1_8 _) ?_
    refine p_getR (j := 75) e_K_nextToSee_35 sh_74 fl_K_78 rfl (rf_74_0 _) ?_
    refine g_iload 4 e_K_nextToSee_38 rfl ?_
    obtain ⟨h5, h⟩ := h
    refine p_aald (j := (77 + ix (l5))) e_K_nextToSee_40 sh_75 (by decide) rfl h5 (el_74c h5 _) ?_
    refine p_getI e_K_nextToSee_41 (isClock_o (el_74c_k h5)) fl_K_82 rfl ?_
    refine g_iconst (-1 : Int32) e_K_nextToSee_44 (by decide) ?_
    refine g_icmp_eq (tgt := 51) e_K_nextToSee_45 rfl (fun c6 => ?_) (fun c6 => ?_)
    · replace h := iteT h c6
      refine g_aload_n 0 e_K_nextToSee_51 rfl rfl ?_
      refine g_aload_n 1 e_K_nextToSee_52 rfl rfl ?_
      refine g_iload 4 e_K_nextToSee_53 rfl ?_
      refine p_callVJ (d' := 3) (ci := 3) (r := (RX3, TX3, 2)) (As := [.ref (1), .int (l5)]) (rest := []) e_K_nextToSee_55 zm_K_chanceOfSaying lV_K_87 sh_116 rfl rfl rfl rfl (Nat.le_of_ble_eq_true rfl) (by decide) ?_
      refine cp_mono h (fun _ v8 ⟨x7, e1, h⟩ => ⟨x7, e1, ?_⟩)
      refine g_lstore (L' := [(6, .long (x7)), (0, .ref (116)), (1, .ref (1)), (2, .int (l2)), (3, .long (l3)), (5, .int (l5))]) e_K_nextToSee_58 (by decide) rfl ?_
      refine g_iload_n 3 e_K_nextToSee_60 rfl rfl ?_
      refine g_iconst (-1 : Int32) e_K_nextToSee_61 (by decide) ?_
      have hj : ∀ m0 : Int32, m0 = (if l2 = (-1 : Int32) then l5 else (if x7 < l3 then l5 else l2)) → ∀ m1 : Int64, m1 = (if l2 = (-1 : Int32) then x7 else (if x7 < l3 then x7 else l3)) → Gp 4 M_K_nextToSee 78 [(0, .ref (116)), (1, .ref (1)), (2, .int (m0)), (3, .long (m1)), (5, .int (l5)), (6, .long (x7))] [] (v8) (QI Q) := by
        intro m0 hm0 m1 hm1
        subst hm0
        subst hm1
        refine g_iinc (v := (l5 + (1 : Int32))) (L' := [(5, .int ((l5 + (1 : Int32)))), (0, .ref (116)), (1, .ref (1)), (2, .int ((if l2 = (-1 : Int32) then l5 else (if x7 < l3 then l5 else l2)))), (3, .long ((if l2 = (-1 : Int32) then x7 else (if x7 < l3 then x7 else l3)))), (6, .long (x7))]) 4 e_K_nextToSee_78 rfl rfl (by decide) rfl ?_
        refine g_goto (tgt := 19) e_K_nextToSee_81 rfl ?_
        exact g_sub [1, 2, 3, 4, 0] rfl h
      refine g_icmp_eq (tgt := 72) e_K_nextToSee_62 rfl (fun c9 => ?_) (fun c9 => ?_)
      · refine g_iload 5 e_K_nextToSee_72 rfl ?_
        refine g_istore_n (L' := [(2, .int (l5)), (6, .long (x7)), (0, .ref (116)), (1, .ref (1)), (3, .long (l3)), (5, .int (l5))]) e_K_nextToSee_74 rfl (by decide) rfl ?_
        refine g_lload 1 e_K_nextToSee_75 rfl ?_
        refine g_lstore_n (L' := [(3, .long (x7)), (2, .int (l5)), (6, .long (x7)), (0, .ref (116)), (1, .ref (1)), (5, .int (l5))]) e_K_nextToSee_77 rfl (by decide) rfl ?_
        refine g_sub [3, 4, 1, 0, 5, 2] rfl ?_
        exact hj (l5) (by simp only [if_pos c9]) (x7) (by simp only [if_pos c9])
      · refine g_lload 0 e_K_nextToSee_65 rfl ?_
        refine g_lload_n 4 e_K_nextToSee_67 rfl rfl ?_
        refine g_l_ge (tgt := 78) e_K_nextToSee_68 e_K_nextToSee_69 rfl (fun c10 => ?_) (fun c10 => ?_)
        · refine g_sub [1, 2, 3, 4, 5, 0] rfl ?_
          exact hj (l2) (by simp only [if_neg c9, if_neg c10]) (l3) (by simp only [if_neg c9, if_neg c10])
        · refine g_iload 5 e_K_nextToSee_72 rfl ?_
          refine g_istore_n (L' := [(2, .int (l5)), (6, .long (x7)), (0, .ref (116)), (1, .ref (1)), (3, .long (l3)), (5, .int (l5))]) e_K_nextToSee_74 rfl (by decide) rfl ?_
          refine g_lload 1 e_K_nextToSee_75 rfl ?_
          refine g_lstore_n (L' := [(3, .long (x7)), (2, .int (l5)), (6, .long (x7)), (0, .ref (116)), (1, .ref (1)), (5, .int (l5))]) e_K_nextToSee_77 rfl (by decide) rfl ?_
          refine g_sub [3, 4, 1, 0, 5, 2] rfl ?_
          exact hj (l5) (by simp only [if_neg c9, if_pos c10]) (x7) (by simp only [if_neg c9, if_pos c10])
    · replace h := iteF h c6
      refine g_goto (tgt := 78) e_K_nextToSee_48 rfl ?_
      exact g_sub [0, 1, 2, 3, 4] rfl h
set_option maxHeartbeats 1000000 in
theorem s_K_nextToSee_78 {l2 : Int32} {l3 : Int64} {l5 : Int32} {v : Vv} {Q : Int32 → Vv → Prop} (h : k_K_nextToSee_19 (l2) (l3) ((l5 + (1 : Int32))) (v) Q) : k_K_nextToSee_78 l2 l3 l5 v Q := by
  show Gp 4 M_K_nextToSee 78 [(0, .ref (116)), (1, .ref (1)), (2, .int (l2)), (3, .long (l3)), (5, .int (l5))] [] v (QI Q)
  refine g_iinc (v := (l5 + (1 : Int32))) (L' := [(5, .int ((l5 + (1 : Int32)))), (0, .ref (116)), (1, .ref (1)), (2, .int (l2)), (3, .long (l3))]) 4 e_K_nextToSee_78 rfl rfl (by decide) rfl ?_
  refine g_goto (tgt := 19) e_K_nextToSee_81 rfl ?_
  exact g_sub [1, 2, 3, 4, 0] rfl h
set_option maxHeartbeats 1000000 in
theorem s_K_wrongIn {l2 : Int32} {v : Vv} {Q : Int32 → Vv → Prop} (h : k_K_wrongIn_5 (l2) ((0 : Int32)) ((0 : Int32)) (v) Q) : m_K_wrongIn l2 v Q := by
  refine cp_go (Nat.le_of_ble_eq_true rfl) (by decide +kernel) ?_
  show Gp 4 M_K_wrongIn 0 [(0, .ref (116)), (1, .ref (1)), (2, .int (l2))] [] v (QI Q)
  refine g_iconst (0 : Int32) e_K_wrongIn_0 (by decide) ?_
  refine g_istore_n (L' := [(3, .int ((0 : Int32))), (0, .ref (116)), (1, .ref (1)), (2, .int (l2))]) e_K_wrongIn_1 rfl (by decide) rfl ?_
  refine g_iconst (0 : Int32) e_K_wrongIn_2 (by decide) ?_
  refine g_istore (L' := [(4, .int ((0 : Int32))), (3, .int ((0 : Int32))), (0, .ref (116)), (1, .ref (1)), (2, .int (l2))]) e_K_wrongIn_3 (by decide) rfl ?_
  exact g_sub [3, 4, 1, 0] rfl h
set_option maxHeartbeats 1000000 in
theorem s_K_wrongIn_5 {l2 : Int32} {l3 : Int32} {l4 : Int32} {v : Vv} {Q : Int32 → Vv → Prop} (h : if l4 < (v).1 74 2 then ((ib (l2) 32) ∧ (if (((v).1 68 (ix (l2)) >>> (l4 &&& 31)) &&& (1 : Int32)) = (0 : Int32) then (m_W_minds l2 l4 (v) (fun x4 v5 => k_K_wrongIn_41 (l2) ((l3 + x4)) (l4) (v5) Q)) else (k_K_wrongIn_41 (l2) (l3) (l4) (v) Q))) else (Q (l3) (v))) : k_K_wrongIn_5 l2 l3 l4 v Q := by
  show Gp 4 M_K_wrongIn 5 [(1, .ref (1)), (2, .int (l2)), (3, .int (l3)), (4, .int (l4))] [] v (QI Q)
  refine g_iload 3 e_K_wrongIn_5 rfl ?_
  refine g_aload_n 0 e_K_wrongIn_7 rfl rfl ?_
  refine p_getR (j := 74) e_K_wrongIn_8 sh_1 fl_K_66 rfl (rf_1_8 _) ?_
  refine p_getI e_K_wrongIn_11 sh_74 fl_K_75 rfl ?_
  refine g_icmp_ge (tgt := 47) e_K_wrongIn_14 rfl (fun c1 => ?_) (fun c1 => ?_)
  · replace h := iteF h c1
    refine g_iload_n 2 e_K_wrongIn_47 rfl rfl ?_
    exact p_retI e_K_wrongIn_48.1 rfl h
  · replace h := iteT h c1
    refine g_aload_n 0 e_K_wrongIn_17 rfl rfl ?_
    refine p_getR (j := 68) e_K_wrongIn_18 sh_1 fl_K_31 rfl (rf_1_2 _) ?_
    refine g_iload_n 1 e_K_wrongIn_21 rfl rfl ?_
    obtain ⟨h2, h⟩ := h
    refine p_iald e_K_wrongIn_22 sh_68 h2 ?_
    refine g_iload 3 e_K_wrongIn_23 rfl ?_
    refine g_ishr e_K_wrongIn_25 ?_
    refine g_iconst (1 : Int32) e_K_wrongIn_26 (by decide) ?_
    refine g_iand e_K_wrongIn_27 ?_
    refine g_if_ne (tgt := 41) e_K_wrongIn_28 rfl (fun c3 => ?_) (fun c3 => ?_)
    · replace h := iteF h c3
      exact g_sub [0, 1, 2, 3] rfl h
    · replace h := iteT h c3
      refine g_iload_n 2 e_K_wrongIn_31 rfl rfl ?_
      refine g_aload_n 0 e_K_wrongIn_32 rfl rfl ?_
      refine g_iload_n 1 e_K_wrongIn_33 rfl rfl ?_
      refine g_iload 3 e_K_wrongIn_34 rfl ?_
      refine p_callVI (d' := 3) (ci := 8) (r := (RX8, TX8, 13)) (As := [.int (l2), .int (l4)]) (rest := [.int (l3)]) e_K_wrongIn_36 zm_W_minds lV_K_126 sh_1 rfl rfl rfl rfl (Nat.le_of_ble_eq_true rfl) (by decide) ?_
      refine cp_mono h (fun _ v5 ⟨x4, e1, h⟩ => ⟨x4, e1, ?_⟩)
      refine g_iadd e_K_wrongIn_39 ?_
      refine g_istore_n (L' := [(3, .int ((l3 + x4))), (1, .ref (1)), (2, .int (l2)), (4, .int (l4))]) e_K_wrongIn_40 rfl (by decide) rfl ?_
      exact g_sub [1, 2, 0, 3] rfl h
set_option maxHeartbeats 1000000 in
theorem s_K_wrongIn_41 {l2 : Int32} {l3 : Int32} {l4 : Int32} {v : Vv} {Q : Int32 → Vv → Prop} (h : k_K_wrongIn_5 (l2) (l3) ((l4 + (1 : Int32))) (v) Q) : k_K_wrongIn_41 l2 l3 l4 v Q := by
  show Gp 4 M_K_wrongIn 41 [(1, .ref (1)), (2, .int (l2)), (3, .int (l3)), (4, .int (l4))] [] v (QI Q)
  refine g_iinc (v := (l4 + (1 : Int32))) (L' := [(4, .int ((l4 + (1 : Int32)))), (1, .ref (1)), (2, .int (l2)), (3, .int (l3))]) 3 e_K_wrongIn_41 rfl rfl (by decide) rfl ?_
  refine g_goto (tgt := 5) e_K_wrongIn_44 rfl ?_
  exact g_sub [1, 2, 3, 0] rfl h
set_option maxHeartbeats 1000000 in
theorem s_K_badness  {v : Vv} {Q : Int64 → Vv → Prop} (h : k_K_badness_5 ((0 : Int64)) ((0 : Int32)) (v) Q) : m_K_badness  v Q := by
  refine cp_go (Nat.le_of_ble_eq_true rfl) (by decide +kernel) ?_
  show Gp 5 M_K_badness 0 [(0, .ref (116)), (1, .ref (1))] [] v (QJ Q)
  refine g_lconst (0 : Int64) e_K_badness_0 (by decide) ?_
  refine g_lstore_n (L' := [(2, .long ((0 : Int64))), (0, .ref (116)), (1, .ref (1))]) e_K_badness_1 rfl (by decide) rfl ?_
  refine g_iconst (0 : Int32) e_K_badness_2 (by decide) ?_
  refine g_istore (L' := [(4, .int ((0 : Int32))), (2, .long ((0 : Int64))), (0, .ref (116)), (1, .ref (1))]) e_K_badness_3 (by decide) rfl ?_
  exact g_sub [2, 3, 1, 0] rfl h
set_option maxHeartbeats 1000000 in
theorem s_K_badness_5 {l2 : Int64} {l4 : Int32} {v : Vv} {Q : Int64 → Vv → Prop} (h : if l4 < (v).1 1 10 then ((ib (l4) 32) ∧ (if (v).1 69 (ix (l4)) = (0 : Int32) then (k_K_badness_55 (l2) (l4) (v) Q) else (if (0 : Int64) < (v).2.1 71 (ix (l4)) then (m_K_wrongIn l4 (v) (fun x5 v6 => k_K_badness_55 ((l2 + ((v).2.1 71 (ix (l4)) * (x5).toInt64))) (l4) (v6) Q)) else (k_K_badness_55 (l2) (l4) (v) Q)))) else (Q (l2) (v))) : k_K_badness_5 l2 l4 v Q := by
  show Gp 5 M_K_badness 5 [(0, .ref (116)), (1, .ref (1)), (2, .long (l2)), (4, .int (l4))] [] v (QJ Q)
  refine g_iload 3 e_K_badness_5 rfl ?_
  refine g_aload_n 1 e_K_badness_7 rfl rfl ?_
  refine p_getI e_K_badness_8 sh_1 fl_K_22 rfl ?_
  refine g_icmp_ge (tgt := 61) e_K_badness_11 rfl (fun c1 => ?_) (fun c1 => ?_)
  · replace h := iteF h c1
    refine g_lload_n 2 e_K_badness_61 rfl rfl ?_
    exact p_retJ e_K_badness_62.1 rfl h
  · replace h := iteT h c1
    refine g_aload_n 1 e_K_badness_14 rfl rfl ?_
    refine p_getR (j := 69) e_K_badness_15 sh_1 fl_K_28 rfl (rf_1_3 _) ?_
    refine g_iload 3 e_K_badness_18 rfl ?_
    obtain ⟨h2, h⟩ := h
    refine p_zald e_K_badness_20 sh_69 h2 ?_
    refine g_if_eq (tgt := 55) e_K_badness_21 rfl (fun c3 => ?_) (fun c3 => ?_)
    · replace h := iteT h c3
      exact g_sub [0, 1, 2, 3] rfl h
    · replace h := iteF h c3
      refine g_aload_n 1 e_K_badness_24 rfl rfl ?_
      refine p_getR (j := 71) e_K_badness_25 sh_1 fl_K_35 rfl (rf_1_5 _) ?_
      refine g_iload 3 e_K_badness_28 rfl ?_
      refine p_lald e_K_badness_30 sh_71 h2 ?_
      refine g_lconst (0 : Int64) e_K_badness_31 (by decide) ?_
      refine g_l_le (tgt := 55) e_K_badness_32 e_K_badness_33 rfl (fun c4 => ?_) (fun c4 => ?_)
      · replace h := iteF h c4
        exact g_sub [0, 1, 2, 3] rfl h
      · replace h := iteT h c4
        refine g_lload_n 2 e_K_badness_36 rfl rfl ?_
        refine g_aload_n 1 e_K_badness_37 rfl rfl ?_
        refine p_getR (j := 71) e_K_badness_38 sh_1 fl_K_35 rfl (rf_1_5 _) ?_
        refine g_iload 3 e_K_badness_41 rfl ?_
        refine p_lald e_K_badness_43 sh_71 h2 ?_
        refine g_aload_n 0 e_K_badness_44 rfl rfl ?_
        refine g_aload_n 1 e_K_badness_45 rfl rfl ?_
        refine g_iload 3 e_K_badness_46 rfl ?_
        refine p_callVI (d' := 4) (ci := 3) (r := (RX3, TX3, 2)) (As := [.ref (1), .int (l4)]) (rest := [.long ((v).2.1 71 (ix (l4))), .long (l2)]) e_K_badness_48 zm_K_wrongIn lV_K_122 sh_116 rfl rfl rfl rfl (Nat.le_of_ble_eq_true rfl) (by decide) ?_
        refine cp_mono h (fun _ v6 ⟨x5, e1, h⟩ => ⟨x5, e1, ?_⟩)
        refine g_i2l e_K_badness_51 ?_
        refine g_lmul e_K_badness_52 ?_
        refine g_ladd e_K_badness_53 ?_
        refine g_lstore_n (L' := [(2, .long ((l2 + ((v).2.1 71 (ix (l4)) * (x5).toInt64)))), (0, .ref (116)), (1, .ref (1)), (4, .int (l4))]) e_K_badness_54 rfl (by decide) rfl ?_
        exact g_sub [1, 2, 0, 3] rfl h
set_option maxHeartbeats 1000000 in
theorem s_K_badness_55 {l2 : Int64} {l4 : Int32} {v : Vv} {Q : Int64 → Vv → Prop} (h : k_K_badness_5 (l2) ((l4 + (1 : Int32))) (v) Q) : k_K_badness_55 l2 l4 v Q := by
  show Gp 5 M_K_badness 55 [(0, .ref (116)), (1, .ref (1)), (2, .long (l2)), (4, .int (l4))] [] v (QJ Q)
  refine g_iinc (v := (l4 + (1 : Int32))) (L' := [(4, .int ((l4 + (1 : Int32)))), (0, .ref (116)), (1, .ref (1)), (2, .long (l2))]) 3 e_K_badness_55 rfl rfl (by decide) rfl ?_
  refine g_goto (tgt := 5) e_K_badness_58 rfl ?_
  exact g_sub [1, 2, 3, 0] rfl h
