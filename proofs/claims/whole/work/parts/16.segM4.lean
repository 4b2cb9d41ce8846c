-- segments: the reference
set_option maxHeartbeats 1000000 in
theorem s_M_late {l1 : Int32} {v : Vv} {Q : Int32 → Vv → Prop} (h : m_M_isClock l1 (v) (fun x1 v2 => if x1 = true then (m_M_gathers  (v2) (fun v5 => k_M_late_19 (l1) ((-1 : Int32)) ((0 : Int32)) (v5) Q)) else (Q ((-2 : Int32)) (v2)))) : m_M_late l1 v Q := by
  refine cp_go (Nat.le_of_ble_eq_true rfl) (by decide +kernel) ?_
  show Gp 48 M_M_late 0 [(0, .ref (154)), (1, .int (l1))] [] v (QI Q)
  refine g_aload_n 0 e_M_late_0 rfl rfl ?_
  refine g_iload_n 1 e_M_late_1 rfl rfl ?_
  refine p_callVZ (d' := 2) (ci := 10) (r := (RX10, TX10, 49)) (As := [.int (l1)]) (rest := []) e_M_late_2 zm_M_isClock lV_M_114 sh_154 rfl rfl rfl rfl (Nat.le_of_ble_eq_true rfl) (by decide) ?_
  refine cp_mono h (fun _ v2 ⟨x1, e1, h⟩ => ⟨x1, e1, ?_⟩)
  refine p_ifz_ne (tgt := 11) e_M_late_5 rfl (fun c3 => ?_) (fun c3 => ?_)
  · replace h := iteT h c3
    refine g_aload_n 0 e_M_late_11 rfl rfl ?_
    refine p_callVV (d' := 47) (ci := 10) (r := (RX10, TX10, 49)) (As := []) (rest := []) e_M_late_12 zm_M_gathers lV_M_386 sh_154 rfl rfl rfl rfl (Nat.le_of_ble_eq_true rfl) (by decide) ?_
    refine cp_mono h (fun _ v5 ⟨e1, h⟩ => ⟨e1, ?_⟩)
    refine g_iconst (-1 : Int32) e_M_late_15 (by decide) ?_
    refine g_istore_n (L' := [(2, .int ((-1 : Int32))), (0, .ref (154)), (1, .int (l1))]) e_M_late_16 rfl (by decide) rfl ?_
    refine g_iconst (0 : Int32) e_M_late_17 (by decide) ?_
    refine g_istore_n (L' := [(3, .int ((0 : Int32))), (2, .int ((-1 : Int32))), (0, .ref (154)), (1, .int (l1))]) e_M_late_18 rfl (by decide) rfl ?_
    exact g_sub [2, 3, 1, 0] rfl h
  · replace h := iteF h c3
    refine g_bipush (-2 : Int32) e_M_late_8 (by decide) ?_
    exact p_retI e_M_late_10.1 rfl h
set_option maxHeartbeats 1000000 in
theorem s_M_late_19 {l1 : Int32} {l2 : Int32} {l3 : Int32} {v : Vv} {Q : Int32 → Vv → Prop} (h : m_M_worlds  (v) (fun x6 v7 => if l3 < x6 then ((ib ((((6 : Int32) * l3) + l1)) 192) ∧ ((ib (l3) 32) ∧ (k_M_late_19 (l1) ((if (v7).1 169 (ix (l3)) = (1 : Int32) then (if (0 : Int64) < (v7).2.1 167 (ix (l3)) then (if l2 < (if ((v7).1 165 (ix ((((6 : Int32) * l3) + l1))) - (60 : Int32)) < (0 : Int32) then (-((v7).1 165 (ix ((((6 : Int32) * l3) + l1))) - (60 : Int32))) else ((v7).1 165 (ix ((((6 : Int32) * l3) + l1))) - (60 : Int32))) then (if ((v7).1 165 (ix ((((6 : Int32) * l3) + l1))) - (60 : Int32)) < (0 : Int32) then (-((v7).1 165 (ix ((((6 : Int32) * l3) + l1))) - (60 : Int32))) else ((v7).1 165 (ix ((((6 : Int32) * l3) + l1))) - (60 : Int32))) else l2) else l2) else l2)) ((l3 + (1 : Int32))) (v7) Q))) else (Q (l2) (v7)))) : k_M_late_19 l1 l2 l3 v Q := by
  show Gp 48 M_M_late 19 [(0, .ref (154)), (1, .int (l1)), (2, .int (l2)), (3, .int (l3))] [] v (QI Q)
  refine g_iload_n 3 e_M_late_19 rfl rfl ?_
  refine g_aload_n 0 e_M_late_20 rfl rfl ?_
  refine p_callVI (d' := 1) (ci := 10) (r := (RX10, TX10, 49)) (As := []) (rest := [.int (l3)]) e_M_late_21 zm_M_worlds lV_M_371 sh_154 rfl rfl rfl rfl (Nat.le_of_ble_eq_true rfl) (by decide) ?_
  refine cp_mono h (fun _ v7 ⟨x6, e1, h⟩ => ⟨x6, e1, ?_⟩)
  refine g_icmp_ge (tgt := 98) e_M_late_24 rfl (fun c8 => ?_) (fun c8 => ?_)
  · replace h := iteF h c8
    refine g_iload_n 2 e_M_late_98 rfl rfl ?_
    exact p_retI e_M_late_99.1 rfl h
  · replace h := iteT h c8
    refine g_aload_n 0 e_M_late_27 rfl rfl ?_
    refine p_getR (j := 165) e_M_late_28 sh_154 fl_M_44 rfl (rf_154_31 _) ?_
    refine g_bipush (6 : Int32) e_M_late_31 (by decide) ?_
    refine g_iload_n 3 e_M_late_33 rfl rfl ?_
    refine g_imul e_M_late_34 ?_
    refine g_iload_n 1 e_M_late_35 rfl rfl ?_
    refine g_iadd e_M_late_36 ?_
    obtain ⟨h9, h⟩ := h
    refine p_iald e_M_late_37 sh_165 h9 ?_
    refine g_bipush (60 : Int32) e_M_late_38 (by decide) ?_
    refine g_isub e_M_late_40 ?_
    refine g_istore (L' := [(4, .int (((v7).1 165 (ix ((((6 : Int32) * l3) + l1))) - (60 : Int32)))), (0, .ref (154)), (1, .int (l1)), (2, .int (l2)), (3, .int (l3))]) e_M_late_41 (by decide) rfl ?_
    refine g_iload 0 e_M_late_43 rfl ?_
    have hj : ∀ m0 : Int32, m0 = (if ((v7).1 165 (ix ((((6 : Int32) * l3) + l1))) - (60 : Int32)) < (0 : Int32) then (-((v7).1 165 (ix ((((6 : Int32) * l3) + l1))) - (60 : Int32))) else ((v7).1 165 (ix ((((6 : Int32) * l3) + l1))) - (60 : Int32))) → Gp 48 M_M_late 56 [(0, .ref (154)), (1, .int (l1)), (2, .int (l2)), (3, .int (l3)), (4, .int (((v7).1 165 (ix ((((6 : Int32) * l3) + l1))) - (60 : Int32))))] [.int (m0)] (v7) (QI Q) := by
      intro m0 hm0
      subst hm0
      refine g_istore (L' := [(5, .int ((if ((v7).1 165 (ix ((((6 : Int32) * l3) + l1))) - (60 : Int32)) < (0 : Int32) then (-((v7).1 165 (ix ((((6 : Int32) * l3) + l1))) - (60 : Int32))) else ((v7).1 165 (ix ((((6 : Int32) * l3) + l1))) - (60 : Int32))))), (0, .ref (154)), (1, .int (l1)), (2, .int (l2)), (3, .int (l3)), (4, .int (((v7).1 165 (ix ((((6 : Int32) * l3) + l1))) - (60 : Int32))))]) e_M_late_56 (by decide) rfl ?_
      refine g_aload_n 1 e_M_late_58 rfl rfl ?_
      refine p_getR (j := 169) e_M_late_59 sh_154 fl_M_57 rfl (rf_154_35 _) ?_
      refine g_iload_n 4 e_M_late_62 rfl rfl ?_
      obtain ⟨h11, h⟩ := h
      refine p_iald e_M_late_63 sh_169 h11 ?_
      refine g_iconst (1 : Int32) e_M_late_64 (by decide) ?_
      have hj : ∀ m0 : Int32, m0 = (if (v7).1 169 (ix (l3)) = (1 : Int32) then (if (0 : Int64) < (v7).2.1 167 (ix (l3)) then (if l2 < (if ((v7).1 165 (ix ((((6 : Int32) * l3) + l1))) - (60 : Int32)) < (0 : Int32) then (-((v7).1 165 (ix ((((6 : Int32) * l3) + l1))) - (60 : Int32))) else ((v7).1 165 (ix ((((6 : Int32) * l3) + l1))) - (60 : Int32))) then (if ((v7).1 165 (ix ((((6 : Int32) * l3) + l1))) - (60 : Int32)) < (0 : Int32) then (-((v7).1 165 (ix ((((6 : Int32) * l3) + l1))) - (60 : Int32))) else ((v7).1 165 (ix ((((6 : Int32) * l3) + l1))) - (60 : Int32))) else l2) else l2) else l2) → Gp 48 M_M_late 91 [(0, .ref (154)), (1, .int (l1)), (2, .int (l2)), (3, .int (l3)), (4, .int (((v7).1 165 (ix ((((6 : Int32) * l3) + l1))) - (60 : Int32)))), (5, .int ((if ((v7).1 165 (ix ((((6 : Int32) * l3) + l1))) - (60 : Int32)) < (0 : Int32) then (-((v7).1 165 (ix ((((6 : Int32) * l3) + l1))) - (60 : Int32))) else ((v7).1 165 (ix ((((6 : Int32) * l3) + l1))) - (60 : Int32)))))] [.int (m0)] (v7) (QI Q) := by
        intro m0 hm0
        subst hm0
        refine g_istore_n (L' := [(2, .int ((if (v7).1 169 (ix (l3)) = (1 : Int32) then (if (0 : Int64) < (v7).2.1 167 (ix (l3)) then (if l2 < (if ((v7).1 165 (ix ((((6 : Int32) * l3) + l1))) - (60 : Int32)) < (0 : Int32) then (-((v7).1 165 (ix ((((6 : Int32) * l3) + l1))) - (60 : Int32))) else ((v7).1 165 (ix ((((6 : Int32) * l3) + l1))) - (60 : Int32))) then (if ((v7).1 165 (ix ((((6 : Int32) * l3) + l1))) - (60 : Int32)) < (0 : Int32) then (-((v7).1 165 (ix ((((6 : Int32) * l3) + l1))) - (60 : Int32))) else ((v7).1 165 (ix ((((6 : Int32) * l3) + l1))) - (60 : Int32))) else l2) else l2) else l2))), (0, .ref (154)), (1, .int (l1)), (3, .int (l3)), (4, .int (((v7).1 165 (ix ((((6 : Int32) * l3) + l1))) - (60 : Int32)))), (5, .int ((if ((v7).1 165 (ix ((((6 : Int32) * l3) + l1))) - (60 : Int32)) < (0 : Int32) then (-((v7).1 165 (ix ((((6 : Int32) * l3) + l1))) - (60 : Int32))) else ((v7).1 165 (ix ((((6 : Int32) * l3) + l1))) - (60 : Int32)))))]) e_M_late_91 rfl (by decide) rfl ?_
        refine g_iinc (v := (l3 + (1 : Int32))) (L' := [(3, .int ((l3 + (1 : Int32)))), (2, .int ((if (v7).1 169 (ix (l3)) = (1 : Int32) then (if (0 : Int64) < (v7).2.1 167 (ix (l3)) then (if l2 < (if ((v7).1 165 (ix ((((6 : Int32) * l3) + l1))) - (60 : Int32)) < (0 : Int32) then (-((v7).1 165 (ix ((((6 : Int32) * l3) + l1))) - (60 : Int32))) else ((v7).1 165 (ix ((((6 : Int32) * l3) + l1))) - (60 : Int32))) then (if ((v7).1 165 (ix ((((6 : Int32) * l3) + l1))) - (60 : Int32)) < (0 : Int32) then (-((v7).1 165 (ix ((((6 : Int32) * l3) + l1))) - (60 : Int32))) else ((v7).1 165 (ix ((((6 : Int32) * l3) + l1))) - (60 : Int32))) else l2) else l2) else l2))), (0, .ref (154)), (1, .int (l1)), (4, .int (((v7).1 165 (ix ((((6 : Int32) * l3) + l1))) - (60 : Int32)))), (5, .int ((if ((v7).1 165 (ix ((((6 : Int32) * l3) + l1))) - (60 : Int32)) < (0 : Int32) then (-((v7).1 165 (ix ((((6 : Int32) * l3) + l1))) - (60 : Int32))) else ((v7).1 165 (ix ((((6 : Int32) * l3) + l1))) - (60 : Int32)))))]) 3 e_M_late_92 rfl rfl (by decide) rfl ?_
        refine g_goto (tgt := 19) e_M_late_95 rfl ?_
        exact g_sub [2, 3, 1, 0] rfl h
      refine g_icmp_ne (tgt := 90) e_M_late_65 rfl (fun c12 => ?_) (fun c12 => ?_)
      · refine g_iload_n 3 e_M_late_90 rfl rfl ?_
        refine g_sub [1, 2, 3, 4, 5, 0] rfl ?_
        exact hj (l2) (by simp only [if_neg c12])
      · refine g_aload_n 1 e_M_late_68 rfl rfl ?_
        refine p_getR (j := 167) e_M_late_69 sh_154 fl_M_50 rfl (rf_154_33 _) ?_
        refine g_iload_n 4 e_M_late_72 rfl rfl ?_
        refine p_lald e_M_late_73 sh_167 h11 ?_
        refine g_lconst (0 : Int64) e_M_late_74 (by decide) ?_
        refine g_l_le (tgt := 90) e_M_late_75 e_M_late_76 rfl (fun c13 => ?_) (fun c13 => ?_)
        · refine g_iload_n 3 e_M_late_90 rfl rfl ?_
          refine g_sub [1, 2, 3, 4, 5, 0] rfl ?_
          exact hj (l2) (by simp only [if_pos c12, if_neg c13])
        · refine g_iload 0 e_M_late_79 rfl ?_
          refine g_iload_n 3 e_M_late_81 rfl rfl ?_
          refine g_icmp_le (tgt := 90) e_M_late_82 rfl (fun c14 => ?_) (fun c14 => ?_)
          · refine g_iload_n 3 e_M_late_90 rfl rfl ?_
            refine g_sub [1, 2, 3, 4, 5, 0] rfl ?_
            exact hj (l2) (by simp only [if_pos c12, if_pos c13, if_neg c14])
          · refine g_iload 0 e_M_late_85 rfl ?_
            refine g_goto (tgt := 91) e_M_late_87 rfl ?_
            refine g_sub [1, 2, 3, 4, 5, 0] rfl ?_
            exact hj ((if ((v7).1 165 (ix ((((6 : Int32) * l3) + l1))) - (60 : Int32)) < (0 : Int32) then (-((v7).1 165 (ix ((((6 : Int32) * l3) + l1))) - (60 : Int32))) else ((v7).1 165 (ix ((((6 : Int32) * l3) + l1))) - (60 : Int32)))) (by simp only [if_pos c12, if_pos c13, if_pos c14])
    refine g_if_ge (tgt := 54) e_M_late_45 rfl (fun c10 => ?_) (fun c10 => ?_)
    · refine g_iload 0 e_M_late_54 rfl ?_
      refine g_sub [1, 2, 3, 4, 0] rfl ?_
      exact hj (((v7).1 165 (ix ((((6 : Int32) * l3) + l1))) - (60 : Int32))) (by simp only [if_neg c10])
    · refine g_iload 0 e_M_late_48 rfl ?_
      refine g_ineg e_M_late_50 ?_
      refine g_goto (tgt := 56) e_M_late_51 rfl ?_
      refine g_sub [1, 2, 3, 4, 0] rfl ?_
      exact hj ((-((v7).1 165 (ix ((((6 : Int32) * l3) + l1))) - (60 : Int32)))) (by simp only [if_pos c10])
set_option maxHeartbeats 1000000 in
theorem s_M_tellsBack {l1 : Int32} {l2 : Int32} {v : Vv} {Q : Int32 → Vv → Prop} (h : m_M_isSheet l1 (v) (fun x1 v2 => if x1 = true then (m_M_in ((l2).toInt64) (0 : Int64) (2 : Int64) (v2) (fun x4 v5 => if x4 = true then ((ib (l1) 4) ∧ (if (v5).1 173 (ix (l1)) = (0 : Int32) then (Q ((-11 : Int32)) (v5)) else (if (v5).1 175 (ix (l1)) = (v5).1 154 11 then (m_M_gathers  (v5) (fun v11 => m_M_worlds  (v11) (fun x12 v13 => k_M_tellsBack_70 (l1) (l2) ((0 : Int32)) ((-1 : Int32)) ((x12 - (1 : Int32))) ((0 : Int32)) (v13) Q))) else (Q ((-2 : Int32)) (v5))))) else (Q ((-2 : Int32)) (v5)))) else (Q ((-2 : Int32)) (v2)))) : m_M_tellsBack l1 l2 v Q := by
  refine cp_go (Nat.le_of_ble_eq_true rfl) (by decide +kernel) ?_
  show Gp 48 M_M_tellsBack 0 [(0, .ref (154)), (1, .int (l1)), (2, .int (l2))] [] v (QI Q)
  refine g_iload_n 1 e_M_tellsBack_0 rfl rfl ?_
  refine p_callSZ (d' := 2) (As := [.int (l1)]) (rest := []) e_M_tellsBack_1 zm_M_isSheet lS_M_422 rfl rfl (Nat.le_of_ble_eq_true rfl) (by decide) ?_
  refine cp_mono h (fun _ v2 ⟨x1, e1, h⟩ => ⟨x1, e1, ?_⟩)
  refine p_ifz_eq (tgt := 19) e_M_tellsBack_4 rfl (fun c3 => ?_) (fun c3 => ?_)
  · replace h := iteF h c3
    refine g_bipush (-2 : Int32) e_M_tellsBack_19 (by decide) ?_
    exact p_retI e_M_tellsBack_21.1 rfl h
  · replace h := iteT h c3
    refine g_iload_n 2 e_M_tellsBack_7 rfl rfl ?_
    refine g_i2l e_M_tellsBack_8 ?_
    refine g_lconst (0 : Int64) e_M_tellsBack_9 (by decide) ?_
    refine g_ldc2 (v := (2 : Int64)) (hd := e_M_tellsBack_10) cl_M_381 ?_
    refine p_callSZ (d' := 1) (As := [.long ((l2).toInt64), .long ((0 : Int64)), .long ((2 : Int64))]) (rest := []) e_M_tellsBack_13 zm_M_in lS_M_95 rfl rfl (Nat.le_of_ble_eq_true rfl) (by decide) ?_
    refine cp_mono h (fun _ v5 ⟨x4, e1, h⟩ => ⟨x4, e1, ?_⟩)
    refine p_ifz_ne (tgt := 22) e_M_tellsBack_16 rfl (fun c6 => ?_) (fun c6 => ?_)
    · replace h := iteT h c6
      refine g_aload_n 0 e_M_tellsBack_22 rfl rfl ?_
      refine p_getR (j := 173) e_M_tellsBack_23 sh_154 fl_M_72 rfl (rf_154_45 _) ?_
      refine g_iload_n 1 e_M_tellsBack_26 rfl rfl ?_
      obtain ⟨h7, h⟩ := h
      refine p_zald e_M_tellsBack_27 sh_173 h7 ?_
      refine g_if_ne (tgt := 34) e_M_tellsBack_28 rfl (fun c8 => ?_) (fun c8 => ?_)
      · replace h := iteF h c8
        refine g_aload_n 0 e_M_tellsBack_34 rfl rfl ?_
        refine p_getR (j := 175) e_M_tellsBack_35 sh_154 fl_M_79 rfl (rf_154_47 _) ?_
        refine g_iload_n 1 e_M_tellsBack_38 rfl rfl ?_
        refine p_iald e_M_tellsBack_39 sh_175 h7 ?_
        refine g_aload_n 0 e_M_tellsBack_40 rfl rfl ?_
        refine p_getI e_M_tellsBack_41 sh_154 fl_M_92 rfl ?_
        refine g_icmp_eq (tgt := 50) e_M_tellsBack_44 rfl (fun c9 => ?_) (fun c9 => ?_)
        · replace h := iteT h c9
          refine g_aload_n 0 e_M_tellsBack_50 rfl rfl ?_
          refine p_callVV (d' := 47) (ci := 10) (r := (RX10, TX10, 49)) (As := []) (rest := []) e_M_tellsBack_51 zm_M_gathers lV_M_386 sh_154 rfl rfl rfl rfl (Nat.le_of_ble_eq_true rfl) (by decide) ?_
          refine cp_mono h (fun _ v11 ⟨e1, h⟩ => ⟨e1, ?_⟩)
          refine g_iconst (0 : Int32) e_M_tellsBack_54 (by decide) ?_
          refine g_istore_n (L' := [(3, .int ((0 : Int32))), (0, .ref (154)), (1, .int (l1)), (2, .int (l2))]) e_M_tellsBack_55 rfl (by decide) rfl ?_
          refine g_iconst (-1 : Int32) e_M_tellsBack_56 (by decide) ?_
          refine g_istore (L' := [(4, .int ((-1 : Int32))), (3, .int ((0 : Int32))), (0, .ref (154)), (1, .int (l1)), (2, .int (l2))]) e_M_tellsBack_57 (by decide) rfl ?_
          refine g_aload_n 2 e_M_tellsBack_59 rfl rfl ?_
          refine p_callVI (d' := 1) (ci := 10) (r := (RX10, TX10, 49)) (As := []) (rest := []) e_M_tellsBack_60 zm_M_worlds lV_M_371 sh_154 rfl rfl rfl rfl (Nat.le_of_ble_eq_true rfl) (by decide) ?_
          refine cp_mono h (fun _ v13 ⟨x12, e1, h⟩ => ⟨x12, e1, ?_⟩)
          refine g_iconst (1 : Int32) e_M_tellsBack_63 (by decide) ?_
          refine g_isub e_M_tellsBack_64 ?_
          refine g_istore (L' := [(5, .int ((x12 - (1 : Int32)))), (4, .int ((-1 : Int32))), (3, .int ((0 : Int32))), (0, .ref (154)), (1, .int (l1)), (2, .int (l2))]) e_M_tellsBack_65 (by decide) rfl ?_
          refine g_iconst (0 : Int32) e_M_tellsBack_67 (by decide) ?_
          refine g_istore (L' := [(6, .int ((0 : Int32))), (5, .int ((x12 - (1 : Int32)))), (4, .int ((-1 : Int32))), (3, .int ((0 : Int32))), (0, .ref (154)), (1, .int (l1)), (2, .int (l2))]) e_M_tellsBack_68 (by decide) rfl ?_
          exact g_sub [4, 5, 6, 3, 2, 1, 0] rfl h
        · replace h := iteF h c9
          refine g_bipush (-2 : Int32) e_M_tellsBack_47 (by decide) ?_
          exact p_retI e_M_tellsBack_49.1 rfl h
      · replace h := iteT h c8
        refine g_bipush (-11 : Int32) e_M_tellsBack_31 (by decide) ?_
        exact p_retI e_M_tellsBack_33.1 rfl h
    · replace h := iteF h c6
      refine g_bipush (-2 : Int32) e_M_tellsBack_19 (by decide) ?_
      exact p_retI e_M_tellsBack_21.1 rfl h
set_option maxHeartbeats 1000000 in
theorem s_M_tellsBack_70 {l1 : Int32} {l2 : Int32} {l3 : Int32} {l4 : Int32} {l5 : Int32} {l6 : Int32} {v : Vv} {Q : Int32 → Vv → Prop} (h : m_M_worlds  (v) (fun x14 v15 => if l6 < x14 then ((ib (l6) 32) ∧ (if (0 : Int64) < (v15).2.1 167 (ix (l6)) then (m_M_isSo l1 l6 (v15) (fun x19 v20 => if x19 = true then (if l4 = (-1 : Int32) then (k_M_tellsBack_135 (l1) (l2) ((l3 + (1 : Int32))) ((l5 &&& l6)) (l6) (v20) Q) else ((ib (l4) 32) ∧ (if (v20).2.1 167 (ix (l4)) < (v20).2.1 167 (ix (l6)) then (k_M_tellsBack_135 (l1) (l2) ((l3 + (1 : Int32))) ((l5 &&& l6)) (l6) (v20) Q) else (k_M_tellsBack_142 (l1) (l2) ((l3 + (1 : Int32))) ((l5 &&& l6)) (l6) (l4) (v20) Q)))) else (k_M_tellsBack_144 (l1) (l2) (l3) (l4) (l5) (l6) (v20) Q))) else (k_M_tellsBack_144 (l1) (l2) (l3) (l4) (l5) (l6) (v15) Q))) else (if l2 < (2 : Int32) then (Q ((if l2 = (0 : Int32) then l3 else l4)) (v15)) else (Q ((if l3 = (0 : Int32) then (0 : Int32) else l5)) (v15))))) : k_M_tellsBack_70 l1 l2 l3 l4 l5 l6 v Q := by
  show Gp 48 M_M_tellsBack 70 [(0, .ref (154)), (1, .int (l1)), (2, .int (l2)), (3, .int (l3)), (4, .int (l4)), (5, .int (l5)), (6, .int (l6))] [] v (QI Q)
  refine g_iload 6 e_M_tellsBack_70 rfl ?_
  refine g_aload_n 0 e_M_tellsBack_72 rfl rfl ?_
  refine p_callVI (d' := 1) (ci := 10) (r := (RX10, TX10, 49)) (As := []) (rest := [.int (l6)]) e_M_tellsBack_73 zm_M_worlds lV_M_371 sh_154 rfl rfl rfl rfl (Nat.le_of_ble_eq_true rfl) (by decide) ?_
  refine cp_mono h (fun _ v15 ⟨x14, e1, h⟩ => ⟨x14, e1, ?_⟩)
  refine g_icmp_ge (tgt := 150) e_M_tellsBack_76 rfl (fun c16 => ?_) (fun c16 => ?_)
  · replace h := iteF h c16
    refine g_iload_n 2 e_M_tellsBack_150 rfl rfl ?_
    refine g_iconst (2 : Int32) e_M_tellsBack_151 (by decide) ?_
    refine g_icmp_ge (tgt := 166) e_M_tellsBack_152 rfl (fun c25 => ?_) (fun c25 => ?_)
    · replace h := iteF h c25
      refine g_iload_n 3 e_M_tellsBack_166 rfl rfl ?_
      have hj : ∀ m0 : Int32, m0 = (if l3 = (0 : Int32) then (0 : Int32) else l5) → Gp 48 M_M_tellsBack 176 [(0, .ref (154)), (1, .int (l1)), (2, .int (l2)), (3, .int (l3)), (4, .int (l4)), (5, .int (l5)), (6, .int (l6))] [.int (m0)] (v15) (QI Q) := by
        intro m0 hm0
        subst hm0
        exact p_retI e_M_tellsBack_176.1 rfl h
      refine g_if_ne (tgt := 174) e_M_tellsBack_167 rfl (fun c27 => ?_) (fun c27 => ?_)
      · refine g_iload 5 e_M_tellsBack_174 rfl ?_
        exact hj (l5) (by simp only [if_neg c27])
      · refine g_iconst (0 : Int32) e_M_tellsBack_170 (by decide) ?_
        refine g_goto (tgt := 176) e_M_tellsBack_171 rfl ?_
        exact hj ((0 : Int32)) (by simp only [if_pos c27])
    · replace h := iteT h c25
      refine g_iload_n 2 e_M_tellsBack_155 rfl rfl ?_
      have hj : ∀ m0 : Int32, m0 = (if l2 = (0 : Int32) then l3 else l4) → Gp 48 M_M_tellsBack 165 [(0, .ref (154)), (1, .int (l1)), (2, .int (l2)), (3, .int (l3)), (4, .int (l4)), (5, .int (l5)), (6, .int (l6))] [.int (m0)] (v15) (QI Q) := by
        intro m0 hm0
        subst hm0
        exact p_retI e_M_tellsBack_165.1 rfl h
      refine g_if_ne (tgt := 163) e_M_tellsBack_156 rfl (fun c26 => ?_) (fun c26 => ?_)
      · refine g_iload 4 e_M_tellsBack_163 rfl ?_
        exact hj (l4) (by simp only [if_neg c26])
      · refine g_iload_n 3 e_M_tellsBack_159 rfl rfl ?_
        refine g_goto (tgt := 165) e_M_tellsBack_160 rfl ?_
        exact hj (l3) (by simp only [if_pos c26])
  · replace h := iteT h c16
    refine g_aload_n 0 e_M_tellsBack_79 rfl rfl ?_
    refine p_getR (j := 167) e_M_tellsBack_80 sh_154 fl_M_50 rfl (rf_154_33 _) ?_
    refine g_iload 6 e_M_tellsBack_83 rfl ?_
    obtain ⟨h17, h⟩ := h
    refine p_lald e_M_tellsBack_85 sh_167 h17 ?_
    refine g_lconst (0 : Int64) e_M_tellsBack_86 (by decide) ?_
    refine g_l_le (tgt := 144) e_M_tellsBack_87 e_M_tellsBack_88 rfl (fun c18 => ?_) (fun c18 => ?_)
    · replace h := iteF h c18
      exact g_sub [0, 1, 2, 3, 4, 5, 6] rfl h
    · replace h := iteT h c18
      refine g_aload_n 0 e_M_tellsBack_91 rfl rfl ?_
      refine g_iload_n 1 e_M_tellsBack_92 rfl rfl ?_
      refine g_iload 6 e_M_tellsBack_93 rfl ?_
      refine p_callVZ (d' := 2) (ci := 10) (r := (RX10, TX10, 49)) (As := [.int (l1), .int (l6)]) (rest := []) e_M_tellsBack_95 zm_M_isSo lV_M_425 sh_154 rfl rfl rfl rfl (Nat.le_of_ble_eq_true rfl) (by decide) ?_
      refine cp_mono h (fun _ v20 ⟨x19, e1, h⟩ => ⟨x19, e1, ?_⟩)
      refine p_ifz_eq (tgt := 144) e_M_tellsBack_98 rfl (fun c21 => ?_) (fun c21 => ?_)
      · replace h := iteF h c21
        exact g_sub [0, 1, 2, 3, 4, 5, 6] rfl h
      · replace h := iteT h c21
        refine g_iinc (v := (l3 + (1 : Int32))) (L' := [(3, .int ((l3 + (1 : Int32)))), (0, .ref (154)), (1, .int (l1)), (2, .int (l2)), (4, .int (l4)), (5, .int (l5)), (6, .int (l6))]) 3 e_M_tellsBack_101 rfl rfl (by decide) rfl ?_
        refine g_iload 5 e_M_tellsBack_104 rfl ?_
        refine g_iload 6 e_M_tellsBack_106 rfl ?_
        refine g_iand e_M_tellsBack_108 ?_
        refine g_istore (L' := [(5, .int ((l5 &&& l6))), (3, .int ((l3 + (1 : Int32)))), (0, .ref (154)), (1, .int (l1)), (2, .int (l2)), (4, .int (l4)), (6, .int (l6))]) e_M_tellsBack_109 (by decide) rfl ?_
        refine g_iload 5 e_M_tellsBack_111 rfl ?_
        refine g_iconst (-1 : Int32) e_M_tellsBack_113 (by decide) ?_
        refine g_icmp_eq (tgt := 135) e_M_tellsBack_114 rfl (fun c22 => ?_) (fun c22 => ?_)
        · replace h := iteT h c22
          exact g_sub [2, 3, 4, 1, 0, 6] rfl h
        · replace h := iteF h c22
          refine g_aload_n 2 e_M_tellsBack_117 rfl rfl ?_
          refine p_getR (j := 167) e_M_tellsBack_118 sh_154 fl_M_50 rfl (rf_154_33 _) ?_
          refine g_iload 6 e_M_tellsBack_121 rfl ?_
          refine p_lald e_M_tellsBack_123 sh_167 h17 ?_
          refine g_aload_n 2 e_M_tellsBack_124 rfl rfl ?_
          refine p_getR (j := 167) e_M_tellsBack_125 sh_154 fl_M_50 rfl (rf_154_33 _) ?_
          refine g_iload 5 e_M_tellsBack_128 rfl ?_
          obtain ⟨h23, h⟩ := h
          refine p_lald e_M_tellsBack_130 sh_167 h23 ?_
          refine g_l_le (tgt := 140) e_M_tellsBack_131 e_M_tellsBack_132 rfl (fun c24 => ?_) (fun c24 => ?_)
          · replace h := iteF h c24
            refine g_iload 5 e_M_tellsBack_140 rfl ?_
            exact g_sub [2, 3, 4, 1, 0, 6] rfl h
          · replace h := iteT h c24
            exact g_sub [2, 3, 4, 1, 0, 6] rfl h
set_option maxHeartbeats 1000000 in
theorem s_M_tellsBack_135 {l1 : Int32} {l2 : Int32} {l3 : Int32} {l5 : Int32} {l6 : Int32} {v : Vv} {Q : Int32 → Vv → Prop} (h : k_M_tellsBack_142 (l1) (l2) (l3) (l5) (l6) (l6) (v) Q) : k_M_tellsBack_135 l1 l2 l3 l5 l6 v Q := by
  show Gp 48 M_M_tellsBack 135 [(0, .ref (154)), (1, .int (l1)), (2, .int (l2)), (3, .int (l3)), (5, .int (l5)), (6, .int (l6))] [] v (QI Q)
  refine g_iload 5 e_M_tellsBack_135 rfl ?_
  refine g_goto (tgt := 142) e_M_tellsBack_137 rfl ?_
  exact g_sub [0, 1, 2, 3, 4, 5] rfl h
set_option maxHeartbeats 1000000 in
theorem s_M_tellsBack_142 {l1 : Int32} {l2 : Int32} {l3 : Int32} {l5 : Int32} {l6 : Int32} {t0 : Int32} {v : Vv} {Q : Int32 → Vv → Prop} (h : k_M_tellsBack_144 (l1) (l2) (l3) (t0) (l5) (l6) (v) Q) : k_M_tellsBack_142 l1 l2 l3 l5 l6 t0 v Q := by
  show Gp 48 M_M_tellsBack 142 [(0, .ref (154)), (1, .int (l1)), (2, .int (l2)), (3, .int (l3)), (5, .int (l5)), (6, .int (l6))] [.int (t0)] v (QI Q)
  refine g_istore (L' := [(4, .int (t0)), (0, .ref (154)), (1, .int (l1)), (2, .int (l2)), (3, .int (l3)), (5, .int (l5)), (6, .int (l6))]) e_M_tellsBack_142 (by decide) rfl ?_
  exact g_sub [1, 2, 3, 4, 0, 5, 6] rfl h
set_option maxHeartbeats 1000000 in
theorem s_M_tellsBack_144 {l1 : Int32} {l2 : Int32} {l3 : Int32} {l4 : Int32} {l5 : Int32} {l6 : Int32} {v : Vv} {Q : Int32 → Vv → Prop} (h : k_M_tellsBack_70 (l1) (l2) (l3) (l4) (l5) ((l6 + (1 : Int32))) (v) Q) : k_M_tellsBack_144 l1 l2 l3 l4 l5 l6 v Q := by
  show Gp 48 M_M_tellsBack 144 [(0, .ref (154)), (1, .int (l1)), (2, .int (l2)), (3, .int (l3)), (4, .int (l4)), (5, .int (l5)), (6, .int (l6))] [] v (QI Q)
  refine g_iinc (v := (l6 + (1 : Int32))) (L' := [(6, .int ((l6 + (1 : Int32)))), (0, .ref (154)), (1, .int (l1)), (2, .int (l2)), (3, .int (l3)), (4, .int (l4)), (5, .int (l5))]) 6 e_M_tellsBack_144 rfl rfl (by decide) rfl ?_
  refine g_goto (tgt := 70) e_M_tellsBack_147 rfl ?_
  exact g_sub [1, 2, 3, 4, 5, 6, 0] rfl h
set_option maxHeartbeats 1000000 in
theorem s_M_drawn {l1 : Int32} {v : Vv} {Q : Int32 → Vv → Prop} (h : m_M_draws l1 (v) (fun x1 v2 => Q (x1) (v2))) : m_M_drawn l1 v Q := by
  refine cp_go (Nat.le_of_ble_eq_true rfl) (by decide +kernel) ?_
  show Gp 48 M_M_drawn 0 [(0, .ref (154)), (1, .int (l1))] [] v (QI Q)
  refine g_aload_n 0 e_M_drawn_0 rfl rfl ?_
  refine g_iload_n 1 e_M_drawn_1 rfl rfl ?_
  refine p_callVI (d' := 47) (ci := 10) (r := (RX10, TX10, 49)) (As := [.int (l1)]) (rest := []) e_M_drawn_2 zm_M_draws lV_M_432 sh_154 rfl rfl rfl rfl (Nat.le_of_ble_eq_true rfl) (by decide) ?_
  refine cp_mono h (fun _ v2 ⟨x1, e1, h⟩ => ⟨x1, e1, ?_⟩)
  exact p_retI e_M_drawn_5.1 rfl h
set_option maxHeartbeats 1000000 in
theorem s_M_chance {l1 : Int32} {l2 : Int32} {l3 : Int32} {v : Vv} {Q : Int64 → Vv → Prop} (h : m_M_in ((l2).toInt64) (1 : Int64) (20 : Int64) (v) (fun x1 v2 => if x1 = true then (m_M_in ((l3).toInt64) (0 : Int64) (1 : Int64) (v2) (fun x4 v5 => if x4 = true then (k_M_chance_32 (l1) (l2) (l3) ((0 : Int64)) ((0 : Int32)) (v5) Q) else (Q ((-4611686018427387904 : Int64)) (v5)))) else (Q ((-4611686018427387904 : Int64)) (v2)))) : m_M_chance l1 l2 l3 v Q := by
  refine cp_go (Nat.le_of_ble_eq_true rfl) (by decide +kernel) ?_
  show Gp 48 M_M_chance 0 [(0, .ref (154)), (1, .int (l1)), (2, .int (l2)), (3, .int (l3))] [] v (QJ Q)
  refine g_iload_n 2 e_M_chance_0 rfl rfl ?_
  refine g_i2l e_M_chance_1 ?_
  refine g_lconst (1 : Int64) e_M_chance_2 (by decide) ?_
  refine g_ldc2 (v := (20 : Int64)) (hd := e_M_chance_3) cl_M_435 ?_
  refine p_callSZ (d' := 1) (As := [.long ((l2).toInt64), .long ((1 : Int64)), .long ((20 : Int64))]) (rest := []) e_M_chance_6 zm_M_in lS_M_95 rfl rfl (Nat.le_of_ble_eq_true rfl) (by decide) ?_
  refine cp_mono h (fun _ v2 ⟨x1, e1, h⟩ => ⟨x1, e1, ?_⟩)
  refine p_ifz_eq (tgt := 22) e_M_chance_9 rfl (fun c3 => ?_) (fun c3 => ?_)
  · replace h := iteF h c3
    refine g_ldc2 (v := (-4611686018427387904 : Int64)) (hd := e_M_chance_22) cl_M_384 ?_
    exact p_retJ e_M_chance_25.1 rfl h
  · replace h := iteT h c3
    refine g_iload_n 3 e_M_chance_12 rfl rfl ?_
    refine g_i2l e_M_chance_13 ?_
    refine g_lconst (0 : Int64) e_M_chance_14 (by decide) ?_
    refine g_lconst (1 : Int64) e_M_chance_15 (by decide) ?_
    refine p_callSZ (d' := 1) (As := [.long ((l3).toInt64), .long ((0 : Int64)), .long ((1 : Int64))]) (rest := []) e_M_chance_16 zm_M_in lS_M_95 rfl rfl (Nat.le_of_ble_eq_true rfl) (by decide) ?_
    refine cp_mono h (fun _ v5 ⟨x4, e1, h⟩ => ⟨x4, e1, ?_⟩)
    refine p_ifz_ne (tgt := 26) e_M_chance_19 rfl (fun c6 => ?_) (fun c6 => ?_)
    · replace h := iteT h c6
      refine g_lconst (0 : Int64) e_M_chance_26 (by decide) ?_
      refine g_lstore (L' := [(4, .long ((0 : Int64))), (0, .ref (154)), (1, .int (l1)), (2, .int (l2)), (3, .int (l3))]) e_M_chance_27 (by decide) rfl ?_
      refine g_iconst (0 : Int32) e_M_chance_29 (by decide) ?_
      refine g_istore (L' := [(6, .int ((0 : Int32))), (4, .long ((0 : Int64))), (0, .ref (154)), (1, .int (l1)), (2, .int (l2)), (3, .int (l3))]) e_M_chance_30 (by decide) rfl ?_
      exact g_sub [2, 3, 4, 5, 1, 0] rfl h
    · replace h := iteF h c6
      refine g_ldc2 (v := (-4611686018427387904 : Int64)) (hd := e_M_chance_22) cl_M_384 ?_
      exact p_retJ e_M_chance_25.1 rfl h
set_option maxHeartbeats 1000000 in
theorem s_M_chance_32 {l1 : Int32} {l2 : Int32} {l3 : Int32} {l4 : Int64} {l6 : Int32} {v : Vv} {Q : Int64 → Vv → Prop} (h : if l6 < l2 then (m_M_draws (l1 + l6) (v) (fun x8 v9 => k_M_chance_32 (l1) (l2) (l3) ((l4 + (if x8 = (((1 : Int32) <<< ((v9).1 154 11 &&& 31)) - (1 : Int32)) then (1 : Int64) else (0 : Int64)))) ((l6 + (1 : Int32))) (v9) Q)) else (m_M_lowest l4 ((l2).toInt64) l3 (v) (fun x11 v12 => Q (x11) (v12)))) : k_M_chance_32 l1 l2 l3 l4 l6 v Q := by
  show Gp 48 M_M_chance 32 [(0, .ref (154)), (1, .int (l1)), (2, .int (l2)), (3, .int (l3)), (4, .long (l4)), (6, .int (l6))] [] v (QJ Q)
  refine g_iload 5 e_M_chance_32 rfl ?_
  refine g_iload_n 2 e_M_chance_34 rfl rfl ?_
  refine g_icmp_ge (tgt := 73) e_M_chance_35 rfl (fun c7 => ?_) (fun c7 => ?_)
  · replace h := iteF h c7
    refine g_lload 4 e_M_chance_73 rfl ?_
    refine g_iload_n 2 e_M_chance_75 rfl rfl ?_
    refine g_i2l e_M_chance_76 ?_
    refine g_iload_n 3 e_M_chance_77 rfl rfl ?_
    refine p_callSJ (d' := 1) (As := [.long (l4), .long ((l2).toInt64), .int (l3)]) (rest := []) e_M_chance_78 zm_M_lowest lS_M_389 rfl rfl (Nat.le_of_ble_eq_true rfl) (by decide) ?_
    refine cp_mono h (fun _ v12 ⟨x11, e1, h⟩ => ⟨x11, e1, ?_⟩)
    exact p_retJ e_M_chance_81.1 rfl h
  · replace h := iteT h c7
    refine g_lload 4 e_M_chance_38 rfl ?_
    refine g_aload_n 0 e_M_chance_40 rfl rfl ?_
    refine g_iload_n 1 e_M_chance_41 rfl rfl ?_
    refine g_iload 5 e_M_chance_42 rfl ?_
    refine g_iadd e_M_chance_44 ?_
    refine p_callVI (d' := 47) (ci := 10) (r := (RX10, TX10, 49)) (As := [.int ((l1 + l6))]) (rest := [.long (l4)]) e_M_chance_45 zm_M_draws lV_M_432 sh_154 rfl rfl rfl rfl (Nat.le_of_ble_eq_true rfl) (by decide) ?_
    refine cp_mono h (fun _ v9 ⟨x8, e1, h⟩ => ⟨x8, e1, ?_⟩)
    refine g_iconst (1 : Int32) e_M_chance_48 (by decide) ?_
    refine g_aload_n 0 e_M_chance_49 rfl rfl ?_
    refine p_getI e_M_chance_50 sh_154 fl_M_92 rfl ?_
    refine g_ishl e_M_chance_53 ?_
    refine g_iconst (1 : Int32) e_M_chance_54 (by decide) ?_
    refine g_isub e_M_chance_55 ?_
    have hj : ∀ m0 : Int64, m0 = (if x8 = (((1 : Int32) <<< ((v9).1 154 11 &&& 31)) - (1 : Int32)) then (1 : Int64) else (0 : Int64)) → Gp 48 M_M_chance 64 [(0, .ref (154)), (1, .int (l1)), (2, .int (l2)), (3, .int (l3)), (4, .long (l4)), (6, .int (l6))] [.long (m0), .long (l4)] (v9) (QJ Q) := by
      intro m0 hm0
      subst hm0
      refine g_ladd e_M_chance_64 ?_
      refine g_lstore (L' := [(4, .long ((l4 + (if x8 = (((1 : Int32) <<< ((v9).1 154 11 &&& 31)) - (1 : Int32)) then (1 : Int64) else (0 : Int64))))), (0, .ref (154)), (1, .int (l1)), (2, .int (l2)), (3, .int (l3)), (6, .int (l6))]) e_M_chance_65 (by decide) rfl ?_
      refine g_iinc (v := (l6 + (1 : Int32))) (L' := [(6, .int ((l6 + (1 : Int32)))), (4, .long ((l4 + (if x8 = (((1 : Int32) <<< ((v9).1 154 11 &&& 31)) - (1 : Int32)) then (1 : Int64) else (0 : Int64))))), (0, .ref (154)), (1, .int (l1)), (2, .int (l2)), (3, .int (l3))]) 5 e_M_chance_67 rfl rfl (by decide) rfl ?_
      refine g_goto (tgt := 32) e_M_chance_70 rfl ?_
      exact g_sub [2, 3, 4, 5, 1, 0] rfl h
    refine g_icmp_ne (tgt := 63) e_M_chance_56 rfl (fun c10 => ?_) (fun c10 => ?_)
    · refine g_lconst (0 : Int64) e_M_chance_63 (by decide) ?_
      exact hj ((0 : Int64)) (by simp only [if_neg c10])
    · refine g_lconst (1 : Int64) e_M_chance_59 (by decide) ?_
      refine g_goto (tgt := 64) e_M_chance_60 rfl ?_
      exact hj ((1 : Int64)) (by simp only [if_pos c10])
