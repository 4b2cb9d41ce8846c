-- segments: the reference
set_option maxHeartbeats 1000000 in
theorem s_M_in {l0 : Int64} {l2 : Int64} {l4 : Int64} {v : Vv} {Q : Bool → Vv → Prop} (h : if l0 < l2 then (Q false (v)) else (if l4 < l0 then (Q false (v)) else (Q true (v)))) : m_M_in l0 l2 l4 v Q := by
  refine cp_go (Nat.le_of_ble_eq_true rfl) (by decide +kernel) ?_
  show Gp 1 M_M_in 0 [(0, .long (l0)), (2, .long (l2)), (4, .long (l4))] [] v (QZ Q)
  refine g_lload_n 0 e_M_in_0 rfl rfl ?_
  refine g_lload_n 1 e_M_in_1 rfl rfl ?_
  refine g_l_lt (tgt := 17) e_M_in_2 e_M_in_3 rfl (fun c1 => ?_) (fun c1 => ?_)
  · replace h := iteT h c1
    refine g_iconst (0 : Int32) e_M_in_17 (by decide) ?_
    exact p_retZ (x := false) e_M_in_18.1 rfl h
  · replace h := iteF h c1
    refine g_lload_n 0 e_M_in_6 rfl rfl ?_
    refine g_lload 2 e_M_in_7 rfl ?_
    refine g_l_gt (tgt := 17) e_M_in_9 e_M_in_10 rfl (fun c2 => ?_) (fun c2 => ?_)
    · replace h := iteT h c2
      refine g_iconst (0 : Int32) e_M_in_17 (by decide) ?_
      exact p_retZ (x := false) e_M_in_18.1 rfl h
    · replace h := iteF h c2
      refine g_iconst (1 : Int32) e_M_in_13 (by decide) ?_
      refine g_goto (tgt := 18) e_M_in_14 rfl ?_
      exact p_retZ (x := true) e_M_in_18.1 rfl h
set_option maxHeartbeats 1000000 in
theorem s_M_within {l0 : Int32} {l1 : Int32} {l2 : Int32} {v : Vv} {Q : Int32 → Vv → Prop} (h : Q ((if l0 < l1 then l1 else (if l2 < l0 then l2 else l0))) (v)) : m_M_within l0 l1 l2 v Q := by
  refine cp_go (Nat.le_of_ble_eq_true rfl) (by decide +kernel) ?_
  show Gp 1 M_M_within 0 [(0, .int (l0)), (1, .int (l1)), (2, .int (l2))] [] v (QI Q)
  refine g_iload_n 0 e_M_within_0 rfl rfl ?_
  refine g_iload_n 1 e_M_within_1 rfl rfl ?_
  have hj : ∀ m0 : Int32, m0 = (if l0 < l1 then l1 else (if l2 < l0 then l2 else l0)) → Gp 1 M_M_within 19 [(0, .int (l0)), (1, .int (l1)), (2, .int (l2))] [.int (m0)] (v) (QI Q) := by
    intro m0 hm0
    subst hm0
    exact p_retI e_M_within_19.1 rfl h
  refine g_icmp_ge (tgt := 9) e_M_within_2 rfl (fun c1 => ?_) (fun c1 => ?_)
  · refine g_iload_n 0 e_M_within_9 rfl rfl ?_
    refine g_iload_n 2 e_M_within_10 rfl rfl ?_
    refine g_icmp_le (tgt := 18) e_M_within_11 rfl (fun c2 => ?_) (fun c2 => ?_)
    · refine g_iload_n 0 e_M_within_18 rfl rfl ?_
      exact hj (l0) (by simp only [if_neg c1, if_neg c2])
    · refine g_iload_n 2 e_M_within_14 rfl rfl ?_
      refine g_goto (tgt := 19) e_M_within_15 rfl ?_
      exact hj (l2) (by simp only [if_neg c1, if_pos c2])
  · refine g_iload_n 1 e_M_within_5 rfl rfl ?_
    refine g_goto (tgt := 19) e_M_within_6 rfl ?_
    exact hj (l1) (by simp only [if_pos c1])
set_option maxHeartbeats 1000000 in
theorem s_M_bitsOf {l0 : Int32} {v : Vv} {Q : Int32 → Vv → Prop} (h : k_M_bitsOf_4 ((0 : Int32)) (l0) (v) Q) : m_M_bitsOf l0 v Q := by
  refine cp_go (Nat.le_of_ble_eq_true rfl) (by decide +kernel) ?_
  show Gp 1 M_M_bitsOf 0 [(0, .int (l0))] [] v (QI Q)
  refine g_iconst (0 : Int32) e_M_bitsOf_0 (by decide) ?_
  refine g_istore_n (L' := [(1, .int ((0 : Int32))), (0, .int (l0))]) e_M_bitsOf_1 rfl (by decide) rfl ?_
  refine g_iload_n 1 e_M_bitsOf_2 rfl rfl ?_
  refine g_istore_n (L' := [(2, .int (l0)), (1, .int ((0 : Int32))), (0, .int (l0))]) e_M_bitsOf_3 rfl (by decide) rfl ?_
  exact g_sub [1, 0] rfl h
set_option maxHeartbeats 1000000 in
theorem s_M_bitsOf_4 {l1 : Int32} {l2 : Int32} {v : Vv} {Q : Int32 → Vv → Prop} (h : if l2 = (0 : Int32) then (Q (l1) (v)) else (k_M_bitsOf_4 ((l1 + (1 : Int32))) ((l2 &&& (l2 - (1 : Int32)))) (v) Q)) : k_M_bitsOf_4 l1 l2 v Q := by
  show Gp 1 M_M_bitsOf 4 [(1, .int (l1)), (2, .int (l2))] [] v (QI Q)
  refine g_iload_n 1 e_M_bitsOf_4 rfl rfl ?_
  refine g_if_eq (tgt := 20) e_M_bitsOf_5 rfl (fun c1 => ?_) (fun c1 => ?_)
  · replace h := iteT h c1
    refine g_iload_n 0 e_M_bitsOf_20 rfl rfl ?_
    exact p_retI e_M_bitsOf_21.1 rfl h
  · replace h := iteF h c1
    refine g_iinc (v := (l1 + (1 : Int32))) (L' := [(1, .int ((l1 + (1 : Int32)))), (2, .int (l2))]) 0 e_M_bitsOf_8 rfl rfl (by decide) rfl ?_
    refine g_iload_n 1 e_M_bitsOf_11 rfl rfl ?_
    refine g_iload_n 1 e_M_bitsOf_12 rfl rfl ?_
    refine g_iconst (1 : Int32) e_M_bitsOf_13 (by decide) ?_
    refine g_isub e_M_bitsOf_14 ?_
    refine g_iand e_M_bitsOf_15 ?_
    refine g_istore_n (L' := [(2, .int ((l2 &&& (l2 - (1 : Int32))))), (1, .int ((l1 + (1 : Int32))))]) e_M_bitsOf_16 rfl (by decide) rfl ?_
    refine g_goto (tgt := 4) e_M_bitsOf_17 rfl ?_
    exact g_sub [1, 0] rfl h
set_option maxHeartbeats 1000000 in
theorem s_M_dayOf {l0 : Int32} {v : Vv} {Q : Int32 → Vv → Prop} (h : Q ((((l0 % (1440 : Int32)) + (1440 : Int32)) % (1440 : Int32))) (v)) : m_M_dayOf l0 v Q := by
  refine cp_go (Nat.le_of_ble_eq_true rfl) (by decide +kernel) ?_
  show Gp 1 M_M_dayOf 0 [(0, .int (l0))] [] v (QI Q)
  refine g_iload_n 0 e_M_dayOf_0 rfl rfl ?_
  refine g_sipush (1440 : Int32) e_M_dayOf_1 (by decide) ?_
  refine g_irem e_M_dayOf_4 (by decide) ?_
  refine g_sipush (1440 : Int32) e_M_dayOf_5 (by decide) ?_
  refine g_iadd e_M_dayOf_8 ?_
  refine g_sipush (1440 : Int32) e_M_dayOf_9 (by decide) ?_
  refine g_irem e_M_dayOf_12 (by decide) ?_
  exact p_retI e_M_dayOf_13.1 rfl h
set_option maxHeartbeats 1000000 in
theorem s_M_byteAt {l1 : Int32} {v : Vv} {Q : Int32 → Vv → Prop} (h : if l1 < (v).1 154 23 then ((ib (((v).1 154 22 + l1)) 960) ∧ (Q ((v).1 155 (ix (((v).1 154 22 + l1)))) (v))) else (Q ((-1 : Int32)) (v))) : m_M_byteAt l1 v Q := by
  refine cp_go (Nat.le_of_ble_eq_true rfl) (by decide +kernel) ?_
  show Gp 1 M_M_byteAt 0 [(0, .ref (154)), (1, .int (l1))] [] v (QI Q)
  refine g_iload_n 1 e_M_byteAt_0 rfl rfl ?_
  refine g_aload_n 0 e_M_byteAt_1 rfl rfl ?_
  refine p_getI e_M_byteAt_2 sh_154 fl_M_136 rfl ?_
  refine g_icmp_ge (tgt := 22) e_M_byteAt_5 rfl (fun c1 => ?_) (fun c1 => ?_)
  · replace h := iteF h c1
    refine g_iconst (-1 : Int32) e_M_byteAt_22 (by decide) ?_
    exact p_retI e_M_byteAt_23.1 rfl h
  · replace h := iteT h c1
    refine g_aload_n 0 e_M_byteAt_8 rfl rfl ?_
    refine p_getR (j := 155) e_M_byteAt_9 sh_154 fl_M_13 rfl (rf_154_1 _) ?_
    refine g_aload_n 0 e_M_byteAt_12 rfl rfl ?_
    refine p_getI e_M_byteAt_13 sh_154 fl_M_139 rfl ?_
    refine g_iload_n 1 e_M_byteAt_16 rfl rfl ?_
    refine g_iadd e_M_byteAt_17 ?_
    obtain ⟨h2, h⟩ := h
    refine p_iald e_M_byteAt_18 sh_155 h2 ?_
    refine g_goto (tgt := 23) e_M_byteAt_19 rfl ?_
    exact p_retI e_M_byteAt_23.1 rfl h
set_option maxHeartbeats 1000000 in
theorem s_M_fail  {v : Vv} {Q : Vv → Prop} (h : if (v).1 154 29 = (0 : Int32) then (Q (sI (sI (v) 154 29 (1 : Int32)) 154 30 ((sI (v) 154 29 (1 : Int32)).1 154 26))) else (Q (v))) : m_M_fail  v Q := by
  refine cp_go (Nat.le_of_ble_eq_true rfl) (by decide +kernel) ?_
  show Gp 1 M_M_fail 0 [(0, .ref (154))] [] v (QV Q)
  refine g_aload_n 0 e_M_fail_0 rfl rfl ?_
  refine p_getI e_M_fail_1 sh_154 fl_M_168 rfl ?_
  refine g_if_ne (tgt := 20) e_M_fail_4 rfl (fun c1 => ?_) (fun c1 => ?_)
  · replace h := iteF h c1
    exact p_retV e_M_fail_20.1 rfl h
  · replace h := iteT h c1
    refine g_aload_n 0 e_M_fail_7 rfl rfl ?_
    refine g_iconst (1 : Int32) e_M_fail_8 (by decide) ?_
    refine p_putI e_M_fail_9 sh_154 fp_M_168 rfl rfl rfl ?_
    refine g_aload_n 0 e_M_fail_12 rfl rfl ?_
    refine g_aload_n 0 e_M_fail_13 rfl rfl ?_
    refine p_getI e_M_fail_14 sh_154 fl_M_148 rfl ?_
    refine p_putI e_M_fail_17 sh_154 fp_M_172 rfl rfl rfl ?_
    exact p_retV e_M_fail_20.1 rfl h
set_option maxHeartbeats 1000000 in
theorem s_M_isSign {l1 : Int32} {v : Vv} {Q : Bool → Vv → Prop} (h : Q ((if (v).1 154 29 = (0 : Int32) then (if (v).1 154 25 = (3 : Int32) then (if (v).2.1 154 27 = (l1).toInt64 then true else false) else false) else false)) (v)) : m_M_isSign l1 v Q := by
  refine cp_go (Nat.le_of_ble_eq_true rfl) (by decide +kernel) ?_
  show Gp 1 M_M_isSign 0 [(0, .ref (154)), (1, .int (l1))] [] v (QZ Q)
  refine g_aload_n 0 e_M_isSign_0 rfl rfl ?_
  refine p_getI e_M_isSign_1 sh_154 fl_M_168 rfl ?_
  have hj : ∀ m0 : Bool, m0 = (if (v).1 154 29 = (0 : Int32) then (if (v).1 154 25 = (3 : Int32) then (if (v).2.1 154 27 = (l1).toInt64 then true else false) else false) else false) → Gp 1 M_M_isSign 30 [(0, .ref (154)), (1, .int (l1))] [.int (bI (m0))] (v) (QZ Q) := by
    intro m0 hm0
    subst hm0
    exact p_retZ e_M_isSign_30.1 rfl h
  refine g_if_ne (tgt := 29) e_M_isSign_4 rfl (fun c1 => ?_) (fun c1 => ?_)
  · refine g_iconst (0 : Int32) e_M_isSign_29 (by decide) ?_
    exact hj (false) (by simp only [if_neg c1])
  · refine g_aload_n 0 e_M_isSign_7 rfl rfl ?_
    refine p_getI e_M_isSign_8 sh_154 fl_M_151 rfl ?_
    refine g_iconst (3 : Int32) e_M_isSign_11 (by decide) ?_
    refine g_icmp_ne (tgt := 29) e_M_isSign_12 rfl (fun c2 => ?_) (fun c2 => ?_)
    · refine g_iconst (0 : Int32) e_M_isSign_29 (by decide) ?_
      exact hj (false) (by simp only [if_pos c1, if_neg c2])
    · refine g_aload_n 0 e_M_isSign_15 rfl rfl ?_
      refine p_getJ e_M_isSign_16 sh_154 fl_M_162 rfl ?_
      refine g_iload_n 1 e_M_isSign_19 rfl rfl ?_
      refine g_i2l e_M_isSign_20 ?_
      refine g_l_ne (tgt := 29) e_M_isSign_21 e_M_isSign_22 rfl (fun c3 => ?_) (fun c3 => ?_)
      · refine g_iconst (0 : Int32) e_M_isSign_29 (by decide) ?_
        exact hj (false) (by simp only [if_pos c1, if_pos c2, if_neg c3])
      · refine g_iconst (1 : Int32) e_M_isSign_25 (by decide) ?_
        refine g_goto (tgt := 30) e_M_isSign_26 rfl ?_
        exact hj (true) (by simp only [if_pos c1, if_pos c2, if_pos c3])
set_option maxHeartbeats 1000000 in
theorem s_M_does {l1 : Int32} {l2 : Int32} {l3 : Int32} {l4 : Int32} {l5 : Int32} {v : Vv} {Q : Bool → Vv → Prop} (h : (ib (l1) 5) ∧ (if (v).1 162 (ix (l1)) = (1 : Int32) then (k_M_does_20 (l3) (l4) ((v).1 162 (ix (l1))) (v) Q) else (if (v).1 162 (ix (l1)) = (3 : Int32) then (k_M_does_20 (l3) (l4) ((v).1 162 (ix (l1))) (v) Q) else (if (v).1 162 (ix (l1)) = (2 : Int32) then (k_M_does_55 (l1) (l2) (l5) ((v).1 162 (ix (l1))) (v) Q) else (if (v).1 162 (ix (l1)) = (4 : Int32) then (k_M_does_55 (l1) (l2) (l5) ((v).1 162 (ix (l1))) (v) Q) else (Q ((if (v).1 162 (ix (l1)) = (0 : Int32) then true else (if (1 : Int32) < l3 then false else true))) (v))))))) : m_M_does l1 l2 l3 l4 l5 v Q := by
  refine cp_go (Nat.le_of_ble_eq_true rfl) (by decide +kernel) ?_
  show Gp 1 M_M_does 0 [(0, .ref (154)), (1, .int (l1)), (2, .int (l2)), (3, .int (l3)), (4, .int (l4)), (5, .int (l5))] [] v (QZ Q)
  refine g_aload_n 0 e_M_does_0 rfl rfl ?_
  refine p_getR (j := 162) e_M_does_1 sh_154 fl_M_35 rfl (rf_154_12 _) ?_
  refine g_iload_n 1 e_M_does_4 rfl rfl ?_
  obtain ⟨h1, h⟩ := h
  refine p_iald e_M_does_5 sh_162 h1 ?_
  refine g_istore (L' := [(6, .int ((v).1 162 (ix (l1)))), (0, .ref (154)), (1, .int (l1)), (2, .int (l2)), (3, .int (l3)), (4, .int (l4)), (5, .int (l5))]) e_M_does_6 (by decide) rfl ?_
  refine g_iload 0 e_M_does_8 rfl ?_
  refine g_iconst (1 : Int32) e_M_does_10 (by decide) ?_
  refine g_icmp_eq (tgt := 20) e_M_does_11 rfl (fun c2 => ?_) (fun c2 => ?_)
  · replace h := iteT h c2
    exact g_sub [4, 5, 0] rfl h
  · replace h := iteF h c2
    refine g_iload 0 e_M_does_14 rfl ?_
    refine g_iconst (3 : Int32) e_M_does_16 (by decide) ?_
    refine g_icmp_ne (tgt := 43) e_M_does_17 rfl (fun c3 => ?_) (fun c3 => ?_)
    · replace h := iteF h c3
      refine g_iload 0 e_M_does_43 rfl ?_
      refine g_iconst (2 : Int32) e_M_does_45 (by decide) ?_
      refine g_icmp_eq (tgt := 55) e_M_does_46 rfl (fun c4 => ?_) (fun c4 => ?_)
      · replace h := iteT h c4
        exact g_sub [1, 2, 3, 6, 0] rfl h
      · replace h := iteF h c4
        refine g_iload 0 e_M_does_49 rfl ?_
        refine g_iconst (4 : Int32) e_M_does_51 (by decide) ?_
        refine g_icmp_ne (tgt := 93) e_M_does_52 rfl (fun c5 => ?_) (fun c5 => ?_)
        · replace h := iteF h c5
          refine g_iload 0 e_M_does_93 rfl ?_
          have hj : ∀ m0 : Bool, m0 = (if (v).1 162 (ix (l1)) = (0 : Int32) then true else (if (1 : Int32) < l3 then false else true)) → Gp 1 M_M_does 108 [(0, .ref (154)), (1, .int (l1)), (2, .int (l2)), (3, .int (l3)), (4, .int (l4)), (5, .int (l5)), (6, .int ((v).1 162 (ix (l1))))] [.int (bI (m0))] (v) (QZ Q) := by
            intro m0 hm0
            subst hm0
            exact p_retZ e_M_does_108.1 rfl h
          refine g_if_eq (tgt := 103) e_M_does_95 rfl (fun c6 => ?_) (fun c6 => ?_)
          · refine g_iconst (1 : Int32) e_M_does_103 (by decide) ?_
            refine g_goto (tgt := 108) e_M_does_104 rfl ?_
            refine g_sub [1, 2, 3, 4, 5, 6, 0] rfl ?_
            exact hj (true) (by simp only [if_pos c6])
          · refine g_iload_n 4 e_M_does_98 rfl rfl ?_
            refine g_iconst (1 : Int32) e_M_does_99 (by decide) ?_
            refine g_icmp_gt (tgt := 107) e_M_does_100 rfl (fun c7 => ?_) (fun c7 => ?_)
            · refine g_iconst (0 : Int32) e_M_does_107 (by decide) ?_
              refine g_sub [1, 2, 3, 4, 5, 6, 0] rfl ?_
              exact hj (false) (by simp only [if_neg c6, if_pos c7])
            · refine g_iconst (1 : Int32) e_M_does_103 (by decide) ?_
              refine g_goto (tgt := 108) e_M_does_104 rfl ?_
              refine g_sub [1, 2, 3, 4, 5, 6, 0] rfl ?_
              exact hj (true) (by simp only [if_neg c6, if_neg c7])
        · replace h := iteT h c5
          exact g_sub [1, 2, 3, 6, 0] rfl h
    · replace h := iteT h c3
      exact g_sub [4, 5, 0] rfl h
set_option maxHeartbeats 1000000 in
theorem s_M_does_20 {l3 : Int32} {l4 : Int32} {l6 : Int32} {v : Vv} {Q : Bool → Vv → Prop} (h : Q ((if l4 < (30 : Int32) then false else (if l6 = (1 : Int32) then true else (if l3 = (0 : Int32) then true else false)))) (v)) : k_M_does_20 l3 l4 l6 v Q := by
  show Gp 1 M_M_does 20 [(3, .int (l3)), (4, .int (l4)), (6, .int (l6))] [] v (QZ Q)
  refine g_iload 1 e_M_does_20 rfl ?_
  refine g_bipush (30 : Int32) e_M_does_22 (by decide) ?_
  have hj : ∀ m0 : Bool, m0 = (if l4 < (30 : Int32) then false else (if l6 = (1 : Int32) then true else (if l3 = (0 : Int32) then true else false))) → Gp 1 M_M_does 42 [(3, .int (l3)), (4, .int (l4)), (6, .int (l6))] [.int (bI (m0))] (v) (QZ Q) := by
    intro m0 hm0
    subst hm0
    exact p_retZ e_M_does_42.1 rfl h
  refine g_icmp_lt (tgt := 41) e_M_does_24 rfl (fun c8 => ?_) (fun c8 => ?_)
  · refine g_iconst (0 : Int32) e_M_does_41 (by decide) ?_
    exact hj (false) (by simp only [if_pos c8])
  · refine g_iload 2 e_M_does_27 rfl ?_
    refine g_iconst (1 : Int32) e_M_does_29 (by decide) ?_
    refine g_icmp_eq (tgt := 37) e_M_does_30 rfl (fun c9 => ?_) (fun c9 => ?_)
    · refine g_iconst (1 : Int32) e_M_does_37 (by decide) ?_
      refine g_goto (tgt := 42) e_M_does_38 rfl ?_
      exact hj (true) (by simp only [if_neg c8, if_pos c9])
    · refine g_iload_n 0 e_M_does_33 rfl rfl ?_
      refine g_if_ne (tgt := 41) e_M_does_34 rfl (fun c10 => ?_) (fun c10 => ?_)
      · refine g_iconst (0 : Int32) e_M_does_41 (by decide) ?_
        exact hj (false) (by simp only [if_neg c8, if_neg c9, if_neg c10])
      · refine g_iconst (1 : Int32) e_M_does_37 (by decide) ?_
        refine g_goto (tgt := 42) e_M_does_38 rfl ?_
        exact hj (true) (by simp only [if_neg c8, if_neg c9, if_pos c10])
set_option maxHeartbeats 1000000 in
theorem s_M_does_55 {l1 : Int32} {l2 : Int32} {l5 : Int32} {l6 : Int32} {v : Vv} {Q : Bool → Vv → Prop} (h : (ib (l1) 5) ∧ (Q ((if ((v).1 163 (ix (l1)) / (4 : Int32)) < l5 then false else (if l6 = (2 : Int32) then true else (if ((l2 + (v).1 163 (ix (l1))) % (2 : Int32)) = (0 : Int32) then true else false)))) (v))) : k_M_does_55 l1 l2 l5 l6 v Q := by
  show Gp 1 M_M_does 55 [(0, .ref (154)), (1, .int (l1)), (2, .int (l2)), (5, .int (l5)), (6, .int (l6))] [] v (QZ Q)
  refine g_iload 3 e_M_does_55 rfl ?_
  refine g_aload_n 0 e_M_does_57 rfl rfl ?_
  refine p_getR (j := 163) e_M_does_58 sh_154 fl_M_38 rfl (rf_154_13 _) ?_
  refine g_iload_n 1 e_M_does_61 rfl rfl ?_
  obtain ⟨h11, h⟩ := h
  refine p_iald e_M_does_62 sh_163 h11 ?_
  refine g_iconst (4 : Int32) e_M_does_63 (by decide) ?_
  refine g_idiv e_M_does_64 (by decide) ?_
  have hj : ∀ m0 : Bool, m0 = (if ((v).1 163 (ix (l1)) / (4 : Int32)) < l5 then false else (if l6 = (2 : Int32) then true else (if ((l2 + (v).1 163 (ix (l1))) % (2 : Int32)) = (0 : Int32) then true else false))) → Gp 1 M_M_does 92 [(0, .ref (154)), (1, .int (l1)), (2, .int (l2)), (5, .int (l5)), (6, .int (l6))] [.int (bI (m0))] (v) (QZ Q) := by
    intro m0 hm0
    subst hm0
    exact p_retZ e_M_does_92.1 rfl h
  refine g_icmp_gt (tgt := 91) e_M_does_65 rfl (fun c12 => ?_) (fun c12 => ?_)
  · refine g_iconst (0 : Int32) e_M_does_91 (by decide) ?_
    exact hj (false) (by simp only [if_pos c12])
  · refine g_iload 4 e_M_does_68 rfl ?_
    refine g_iconst (2 : Int32) e_M_does_70 (by decide) ?_
    refine g_icmp_eq (tgt := 87) e_M_does_71 rfl (fun c13 => ?_) (fun c13 => ?_)
    · refine g_iconst (1 : Int32) e_M_does_87 (by decide) ?_
      refine g_goto (tgt := 92) e_M_does_88 rfl ?_
      exact hj (true) (by simp only [if_neg c12, if_pos c13])
    · refine g_iload_n 2 e_M_does_74 rfl rfl ?_
      refine g_aload_n 0 e_M_does_75 rfl rfl ?_
      refine p_getR (j := 163) e_M_does_76 sh_154 fl_M_38 rfl (rf_154_13 _) ?_
      refine g_iload_n 1 e_M_does_79 rfl rfl ?_
      refine p_iald e_M_does_80 sh_163 h11 ?_
      refine g_iadd e_M_does_81 ?_
      refine g_iconst (2 : Int32) e_M_does_82 (by decide) ?_
      refine g_irem e_M_does_83 (by decide) ?_
      refine g_if_ne (tgt := 91) e_M_does_84 rfl (fun c14 => ?_) (fun c14 => ?_)
      · refine g_iconst (0 : Int32) e_M_does_91 (by decide) ?_
        exact hj (false) (by simp only [if_neg c12, if_neg c13, if_neg c14])
      · refine g_iconst (1 : Int32) e_M_does_87 (by decide) ?_
        refine g_goto (tgt := 92) e_M_does_88 rfl ?_
        exact hj (true) (by simp only [if_neg c12, if_neg c13, if_pos c14])
set_option maxHeartbeats 1000000 in
theorem s_M_worlds  {v : Vv} {Q : Int32 → Vv → Prop} (h : Q (((1 : Int32) <<< ((v).1 154 15 &&& 31))) (v)) : m_M_worlds  v Q := by
  refine cp_go (Nat.le_of_ble_eq_true rfl) (by decide +kernel) ?_
  show Gp 1 M_M_worlds 0 [(0, .ref (154))] [] v (QI Q)
  refine g_iconst (1 : Int32) e_M_worlds_0 (by decide) ?_
  refine g_aload_n 0 e_M_worlds_1 rfl rfl ?_
  refine p_getI e_M_worlds_2 sh_154 fl_M_99 rfl ?_
  refine g_ishl e_M_worlds_5 ?_
  exact p_retI e_M_worlds_6.1 rfl h
set_option maxHeartbeats 1000000 in
theorem s_M_lowest {l0 : Int64} {l2 : Int64} {l4 : Int32} {v : Vv} {Q : Int64 → Vv → Prop} (h : k_M_lowest_6 (l0) (l2) (l4) (l0) (l2) (v) Q) : m_M_lowest l0 l2 l4 v Q := by
  refine cp_go (Nat.le_of_ble_eq_true rfl) (by decide +kernel) ?_
  show Gp 1 M_M_lowest 0 [(0, .long (l0)), (2, .long (l2)), (4, .int (l4))] [] v (QJ Q)
  refine g_lload_n 0 e_M_lowest_0 rfl rfl ?_
  refine g_lstore (L' := [(5, .long (l0)), (0, .long (l0)), (2, .long (l2)), (4, .int (l4))]) e_M_lowest_1 (by decide) rfl ?_
  refine g_lload_n 2 e_M_lowest_3 rfl rfl ?_
  refine g_lstore (L' := [(7, .long (l2)), (5, .long (l0)), (0, .long (l0)), (2, .long (l2)), (4, .int (l4))]) e_M_lowest_4 (by decide) rfl ?_
  exact g_sub [2, 3, 4, 1, 0] rfl h
set_option maxHeartbeats 1000000 in
theorem s_M_lowest_6 {l0 : Int64} {l2 : Int64} {l4 : Int32} {l5 : Int64} {l7 : Int64} {v : Vv} {Q : Int64 → Vv → Prop} (h : if l7 = (0 : Int64) then (if l4 = (0 : Int32) then ((¬ l5 = (0 : Int64)) ∧ (Q ((l0 / l5)) (v))) else ((¬ l5 = (0 : Int64)) ∧ (Q ((l2 / l5)) (v)))) else ((¬ l7 = (0 : Int64)) ∧ (k_M_lowest_6 (l0) (l2) (l4) (l7) ((l5 % l7)) (v) Q))) : k_M_lowest_6 l0 l2 l4 l5 l7 v Q := by
  show Gp 1 M_M_lowest 6 [(0, .long (l0)), (2, .long (l2)), (4, .int (l4)), (5, .long (l5)), (7, .long (l7))] [] v (QJ Q)
  refine g_lload 4 e_M_lowest_6 rfl ?_
  refine g_lconst (0 : Int64) e_M_lowest_8 (by decide) ?_
  refine g_l_eq (tgt := 31) e_M_lowest_9 e_M_lowest_10 rfl (fun c1 => ?_) (fun c1 => ?_)
  · replace h := iteT h c1
    refine g_iload 2 e_M_lowest_31 rfl ?_
    refine g_if_ne (tgt := 43) e_M_lowest_33 rfl (fun c2 => ?_) (fun c2 => ?_)
    · replace h := iteF h c2
      refine g_lload_n 1 e_M_lowest_43 rfl rfl ?_
      refine g_lload 3 e_M_lowest_44 rfl ?_
      obtain ⟨h4, h⟩ := h
      refine g_ldiv e_M_lowest_46 h4 ?_
      exact p_retJ e_M_lowest_47.1 rfl h
    · replace h := iteT h c2
      refine g_lload_n 0 e_M_lowest_36 rfl rfl ?_
      refine g_lload 3 e_M_lowest_37 rfl ?_
      obtain ⟨h3, h⟩ := h
      refine g_ldiv e_M_lowest_39 h3 ?_
      refine g_goto (tgt := 47) e_M_lowest_40 rfl ?_
      exact p_retJ e_M_lowest_47.1 rfl h
  · replace h := iteF h c1
    refine g_lload 3 e_M_lowest_13 rfl ?_
    refine g_lload 4 e_M_lowest_15 rfl ?_
    obtain ⟨h5, h⟩ := h
    refine g_lrem e_M_lowest_17 h5 ?_
    refine g_lstore (L' := [(9, .long ((l5 % l7))), (0, .long (l0)), (2, .long (l2)), (4, .int (l4)), (5, .long (l5)), (7, .long (l7))]) e_M_lowest_18 (by decide) rfl ?_
    refine g_lload 5 e_M_lowest_20 rfl ?_
    refine g_lstore (L' := [(5, .long (l7)), (9, .long ((l5 % l7))), (0, .long (l0)), (2, .long (l2)), (4, .int (l4)), (7, .long (l7))]) e_M_lowest_22 (by decide) rfl ?_
    refine g_lload 1 e_M_lowest_24 rfl ?_
    refine g_lstore (L' := [(7, .long ((l5 % l7))), (5, .long (l7)), (9, .long ((l5 % l7))), (0, .long (l0)), (2, .long (l2)), (4, .int (l4))]) e_M_lowest_26 (by decide) rfl ?_
    refine g_goto (tgt := 6) e_M_lowest_28 rfl ?_
    exact g_sub [3, 4, 5, 1, 0] rfl h
set_option maxHeartbeats 1000000 in
theorem s_M_seenMany  {v : Vv} {Q : Int32 → Vv → Prop} (h : k_M_seenMany_4 ((0 : Int32)) ((0 : Int32)) (v) Q) : m_M_seenMany  v Q := by
  refine cp_go (Nat.le_of_ble_eq_true rfl) (by decide +kernel) ?_
  show Gp 1 M_M_seenMany 0 [(0, .ref (154))] [] v (QI Q)
  refine g_iconst (0 : Int32) e_M_seenMany_0 (by decide) ?_
  refine g_istore_n (L' := [(1, .int ((0 : Int32))), (0, .ref (154))]) e_M_seenMany_1 rfl (by decide) rfl ?_
  refine g_iconst (0 : Int32) e_M_seenMany_2 (by decide) ?_
  refine g_istore_n (L' := [(2, .int ((0 : Int32))), (1, .int ((0 : Int32))), (0, .ref (154))]) e_M_seenMany_3 rfl (by decide) rfl ?_
  exact g_sub [2, 1, 0] rfl h
set_option maxHeartbeats 1000000 in
theorem s_M_seenMany_4 {l1 : Int32} {l2 : Int32} {v : Vv} {Q : Int32 → Vv → Prop} (h : if l2 < (v).1 154 11 then ((ib (l2) 6) ∧ (k_M_seenMany_4 ((l1 + bI ((if (v).1 161 (ix (l2)) = (-1 : Int32) then false else true)))) ((l2 + (1 : Int32))) (v) Q)) else (Q (l1) (v))) : k_M_seenMany_4 l1 l2 v Q := by
  show Gp 1 M_M_seenMany 4 [(0, .ref (154)), (1, .int (l1)), (2, .int (l2))] [] v (QI Q)
  refine g_iload_n 2 e_M_seenMany_4 rfl rfl ?_
  refine g_aload_n 0 e_M_seenMany_5 rfl rfl ?_
  refine p_getI e_M_seenMany_6 sh_154 fl_M_92 rfl ?_
  refine g_icmp_ge (tgt := 36) e_M_seenMany_9 rfl (fun c1 => ?_) (fun c1 => ?_)
  · replace h := iteF h c1
    refine g_iload_n 1 e_M_seenMany_36 rfl rfl ?_
    exact p_retI e_M_seenMany_37.1 rfl h
  · replace h := iteT h c1
    refine g_iload_n 1 e_M_seenMany_12 rfl rfl ?_
    refine g_aload_n 0 e_M_seenMany_13 rfl rfl ?_
    refine p_getR (j := 161) e_M_seenMany_14 sh_154 fl_M_32 rfl (rf_154_10 _) ?_
    refine g_iload_n 2 e_M_seenMany_17 rfl rfl ?_
    obtain ⟨h2, h⟩ := h
    refine p_iald e_M_seenMany_18 sh_161 h2 ?_
    refine g_iconst (-1 : Int32) e_M_seenMany_19 (by decide) ?_
    have hj : ∀ m0 : Bool, m0 = (if (v).1 161 (ix (l2)) = (-1 : Int32) then false else true) → Gp 1 M_M_seenMany 28 [(0, .ref (154)), (1, .int (l1)), (2, .int (l2))] [.int (bI (m0)), .int (l1)] (v) (QI Q) := by
      intro m0 hm0
      subst hm0
      refine g_iadd e_M_seenMany_28 ?_
      refine g_istore_n (L' := [(1, .int ((l1 + bI ((if (v).1 161 (ix (l2)) = (-1 : Int32) then false else true))))), (0, .ref (154)), (2, .int (l2))]) e_M_seenMany_29 rfl (by decide) rfl ?_
      refine g_iinc (v := (l2 + (1 : Int32))) (L' := [(2, .int ((l2 + (1 : Int32)))), (1, .int ((l1 + bI ((if (v).1 161 (ix (l2)) = (-1 : Int32) then false else true))))), (0, .ref (154))]) 2 e_M_seenMany_30 rfl rfl (by decide) rfl ?_
      refine g_goto (tgt := 4) e_M_seenMany_33 rfl ?_
      exact g_sub [2, 1, 0] rfl h
    refine g_icmp_eq (tgt := 27) e_M_seenMany_20 rfl (fun c3 => ?_) (fun c3 => ?_)
    · refine g_iconst (0 : Int32) e_M_seenMany_27 (by decide) ?_
      exact hj (false) (by simp only [if_pos c3])
    · refine g_iconst (1 : Int32) e_M_seenMany_23 (by decide) ?_
      refine g_goto (tgt := 28) e_M_seenMany_24 rfl ?_
      exact hj (true) (by simp only [if_neg c3])
set_option maxHeartbeats 1000000 in
theorem s_M_areMore {l1 : Int32} {l2 : Int32} {l3 : Int32} {v : Vv} {Q : Bool → Vv → Prop} (h : k_M_areMore_6 (l1) (l2) (l3) ((0 : Int32)) ((0 : Int32)) (v) Q) : m_M_areMore l1 l2 l3 v Q := by
  refine cp_go (Nat.le_of_ble_eq_true rfl) (by decide +kernel) ?_
  show Gp 1 M_M_areMore 0 [(0, .ref (154)), (1, .int (l1)), (2, .int (l2)), (3, .int (l3))] [] v (QZ Q)
  refine g_iconst (0 : Int32) e_M_areMore_0 (by decide) ?_
  refine g_istore (L' := [(4, .int ((0 : Int32))), (0, .ref (154)), (1, .int (l1)), (2, .int (l2)), (3, .int (l3))]) e_M_areMore_1 (by decide) rfl ?_
  refine g_iconst (0 : Int32) e_M_areMore_3 (by decide) ?_
  refine g_istore (L' := [(5, .int ((0 : Int32))), (4, .int ((0 : Int32))), (0, .ref (154)), (1, .int (l1)), (2, .int (l2)), (3, .int (l3))]) e_M_areMore_4 (by decide) rfl ?_
  exact g_sub [2, 3, 4, 5, 1, 0] rfl h
set_option maxHeartbeats 1000000 in
theorem s_M_areMore_6 {l1 : Int32} {l2 : Int32} {l3 : Int32} {l4 : Int32} {l5 : Int32} {v : Vv} {Q : Bool → Vv → Prop} (h : if l5 < (v).1 154 11 then (if ((l1 >>> (l5 &&& 31)) &&& (1 : Int32)) = (1 : Int32) then ((ib ((((6 : Int32) * l2) + l5)) 192) ∧ ((ib ((((6 : Int32) * l3) + l5)) 192) ∧ (if (0 : Int32) < ((v).1 165 (ix ((((6 : Int32) * l2) + l5))) - (v).1 165 (ix ((((6 : Int32) * l3) + l5)))) then (if l4 = (0 : Int32) then (k_M_areMore_71 (l1) (l2) (l3) (l5) (((v).1 165 (ix ((((6 : Int32) * l2) + l5))) - (v).1 165 (ix ((((6 : Int32) * l3) + l5))))) (v) Q) else (if ((v).1 165 (ix ((((6 : Int32) * l2) + l5))) - (v).1 165 (ix ((((6 : Int32) * l3) + l5)))) = l4 then (k_M_areMore_71 (l1) (l2) (l3) (l5) (((v).1 165 (ix ((((6 : Int32) * l2) + l5))) - (v).1 165 (ix ((((6 : Int32) * l3) + l5))))) (v) Q) else (Q false (v)))) else (Q false (v))))) else (k_M_areMore_75 (l1) (l2) (l3) (l4) (l5) (v) Q)) else (Q true (v))) : k_M_areMore_6 l1 l2 l3 l4 l5 v Q := by
  show Gp 1 M_M_areMore 6 [(0, .ref (154)), (1, .int (l1)), (2, .int (l2)), (3, .int (l3)), (4, .int (l4)), (5, .int (l5))] [] v (QZ Q)
  refine g_iload 5 e_M_areMore_6 rfl ?_
  refine g_aload_n 0 e_M_areMore_8 rfl rfl ?_
  refine p_getI e_M_areMore_9 sh_154 fl_M_92 rfl ?_
  refine g_icmp_ge (tgt := 81) e_M_areMore_12 rfl (fun c1 => ?_) (fun c1 => ?_)
  · replace h := iteF h c1
    refine g_iconst (1 : Int32) e_M_areMore_81 (by decide) ?_
    exact p_retZ (x := true) e_M_areMore_82.1 rfl h
  · replace h := iteT h c1
    refine g_iload_n 1 e_M_areMore_15 rfl rfl ?_
    refine g_iload 5 e_M_areMore_16 rfl ?_
    refine g_ishr e_M_areMore_18 ?_
    refine g_iconst (1 : Int32) e_M_areMore_19 (by decide) ?_
    refine g_iand e_M_areMore_20 ?_
    refine g_iconst (1 : Int32) e_M_areMore_21 (by decide) ?_
    refine g_icmp_ne (tgt := 75) e_M_areMore_22 rfl (fun c2 => ?_) (fun c2 => ?_)
    · replace h := iteF h c2
      exact g_sub [0, 1, 2, 3, 4, 5] rfl h
    · replace h := iteT h c2
      refine g_aload_n 0 e_M_areMore_25 rfl rfl ?_
      refine p_getR (j := 165) e_M_areMore_26 sh_154 fl_M_44 rfl (rf_154_31 _) ?_
      refine g_bipush (6 : Int32) e_M_areMore_29 (by decide) ?_
      refine g_iload_n 2 e_M_areMore_31 rfl rfl ?_
      refine g_imul e_M_areMore_32 ?_
      refine g_iload 5 e_M_areMore_33 rfl ?_
      refine g_iadd e_M_areMore_35 ?_
      obtain ⟨h3, h⟩ := h
      refine p_iald e_M_areMore_36 sh_165 h3 ?_
      refine g_aload_n 0 e_M_areMore_37 rfl rfl ?_
      refine p_getR (j := 165) e_M_areMore_38 sh_154 fl_M_44 rfl (rf_154_31 _) ?_
      refine g_bipush (6 : Int32) e_M_areMore_41 (by decide) ?_
      refine g_iload_n 3 e_M_areMore_43 rfl rfl ?_
      refine g_imul e_M_areMore_44 ?_
      refine g_iload 5 e_M_areMore_45 rfl ?_
      refine g_iadd e_M_areMore_47 ?_
      obtain ⟨h4, h⟩ := h
      refine p_iald e_M_areMore_48 sh_165 h4 ?_
      refine g_isub e_M_areMore_49 ?_
      refine g_istore (L' := [(6, .int (((v).1 165 (ix ((((6 : Int32) * l2) + l5))) - (v).1 165 (ix ((((6 : Int32) * l3) + l5)))))), (0, .ref (154)), (1, .int (l1)), (2, .int (l2)), (3, .int (l3)), (4, .int (l4)), (5, .int (l5))]) e_M_areMore_50 (by decide) rfl ?_
      refine g_iload 0 e_M_areMore_52 rfl ?_
      refine g_if_le (tgt := 69) e_M_areMore_54 rfl (fun c5 => ?_) (fun c5 => ?_)
      · replace h := iteF h c5
        refine g_iconst (0 : Int32) e_M_areMore_69 (by decide) ?_
        exact p_retZ (x := false) e_M_areMore_70.1 rfl h
      · replace h := iteT h c5
        refine g_iload 5 e_M_areMore_57 rfl ?_
        refine g_if_eq (tgt := 71) e_M_areMore_59 rfl (fun c6 => ?_) (fun c6 => ?_)
        · replace h := iteT h c6
          exact g_sub [1, 2, 3, 4, 6, 0] rfl h
        · replace h := iteF h c6
          refine g_iload 0 e_M_areMore_62 rfl ?_
          refine g_iload 5 e_M_areMore_64 rfl ?_
          refine g_icmp_eq (tgt := 71) e_M_areMore_66 rfl (fun c7 => ?_) (fun c7 => ?_)
          · replace h := iteT h c7
            exact g_sub [1, 2, 3, 4, 6, 0] rfl h
          · replace h := iteF h c7
            refine g_iconst (0 : Int32) e_M_areMore_69 (by decide) ?_
            exact p_retZ (x := false) e_M_areMore_70.1 rfl h
set_option maxHeartbeats 1000000 in
theorem s_M_areMore_71 {l1 : Int32} {l2 : Int32} {l3 : Int32} {l5 : Int32} {l6 : Int32} {v : Vv} {Q : Bool → Vv → Prop} (h : k_M_areMore_75 (l1) (l2) (l3) (l6) (l5) (v) Q) : k_M_areMore_71 l1 l2 l3 l5 l6 v Q := by
  show Gp 1 M_M_areMore 71 [(0, .ref (154)), (1, .int (l1)), (2, .int (l2)), (3, .int (l3)), (5, .int (l5)), (6, .int (l6))] [] v (QZ Q)
  refine g_iload 5 e_M_areMore_71 rfl ?_
  refine g_istore (L' := [(4, .int (l6)), (0, .ref (154)), (1, .int (l1)), (2, .int (l2)), (3, .int (l3)), (5, .int (l5)), (6, .int (l6))]) e_M_areMore_73 (by decide) rfl ?_
  exact g_sub [1, 2, 3, 4, 0, 5] rfl h
set_option maxHeartbeats 1000000 in
theorem s_M_areMore_75 {l1 : Int32} {l2 : Int32} {l3 : Int32} {l4 : Int32} {l5 : Int32} {v : Vv} {Q : Bool → Vv → Prop} (h : k_M_areMore_6 (l1) (l2) (l3) (l4) ((l5 + (1 : Int32))) (v) Q) : k_M_areMore_75 l1 l2 l3 l4 l5 v Q := by
  show Gp 1 M_M_areMore 75 [(0, .ref (154)), (1, .int (l1)), (2, .int (l2)), (3, .int (l3)), (4, .int (l4)), (5, .int (l5))] [] v (QZ Q)
  refine g_iinc (v := (l5 + (1 : Int32))) (L' := [(5, .int ((l5 + (1 : Int32)))), (0, .ref (154)), (1, .int (l1)), (2, .int (l2)), (3, .int (l3)), (4, .int (l4))]) 5 e_M_areMore_75 rfl rfl (by decide) rfl ?_
  refine g_goto (tgt := 6) e_M_areMore_78 rfl ?_
  exact g_sub [1, 2, 3, 4, 5, 0] rfl h
set_option maxHeartbeats 1000000 in
theorem s_M_image  {v : Vv} {Q : Int32 → Vv → Prop} (h : k_M_image_2 ((0 : Int32)) (v) Q) : m_M_image  v Q := by
  refine cp_go (Nat.le_of_ble_eq_true rfl) (by decide +kernel) ?_
  show Gp 1 M_M_image 0 [(0, .ref (154))] [] v (QI Q)
  refine g_iconst (0 : Int32) e_M_image_0 (by decide) ?_
  refine g_istore_n (L' := [(1, .int ((0 : Int32))), (0, .ref (154))]) e_M_image_1 rfl (by decide) rfl ?_
  exact g_sub [1, 0] rfl h
set_option maxHeartbeats 1000000 in
theorem s_M_image_2 {l1 : Int32} {v : Vv} {Q : Int32 → Vv → Prop} (h : if l1 < (6 : Int32) then ((ib (l1) 6) ∧ ((ib (l1) 24) ∧ ((ib (((6 : Int32) + l1)) 24) ∧ ((ib (((12 : Int32) + l1)) 24) ∧ ((ib (((18 : Int32) + l1)) 24) ∧ (k_M_image_2 ((l1 + (1 : Int32))) (sI (sI (sI (sI (v) 171 (ix (l1)) ((v).1 158 (ix (l1)))) 171 (ix (((6 : Int32) + l1))) ((sI (v) 171 (ix (l1)) ((v).1 158 (ix (l1)))).1 159 (ix (l1)))) 171 (ix (((12 : Int32) + l1))) ((sI (sI (v) 171 (ix (l1)) ((v).1 158 (ix (l1)))) 171 (ix (((6 : Int32) + l1))) ((sI (v) 171 (ix (l1)) ((v).1 158 (ix (l1)))).1 159 (ix (l1)))).1 160 (ix (l1)))) 171 (ix (((18 : Int32) + l1))) ((sI (sI (sI (v) 171 (ix (l1)) ((v).1 158 (ix (l1)))) 171 (ix (((6 : Int32) + l1))) ((sI (v) 171 (ix (l1)) ((v).1 158 (ix (l1)))).1 159 (ix (l1)))) 171 (ix (((12 : Int32) + l1))) ((sI (sI (v) 171 (ix (l1)) ((v).1 158 (ix (l1)))) 171 (ix (((6 : Int32) + l1))) ((sI (v) 171 (ix (l1)) ((v).1 158 (ix (l1)))).1 159 (ix (l1)))).1 160 (ix (l1)))).1 161 (ix (l1)))) Q)))))) else (k_M_image_73 ((0 : Int32)) (v) Q)) : k_M_image_2 l1 v Q := by
  show Gp 1 M_M_image 2 [(0, .ref (154)), (1, .int (l1))] [] v (QI Q)
  refine g_iload_n 1 e_M_image_2 rfl rfl ?_
  refine g_bipush (6 : Int32) e_M_image_3 (by decide) ?_
  refine g_icmp_ge (tgt := 71) e_M_image_5 rfl (fun c1 => ?_) (fun c1 => ?_)
  · replace h := iteF h c1
    refine g_iconst (0 : Int32) e_M_image_71 (by decide) ?_
    refine g_istore_n (L' := [(1, .int ((0 : Int32))), (0, .ref (154))]) e_M_image_72 rfl (by decide) rfl ?_
    exact g_sub [1, 0] rfl h
  · replace h := iteT h c1
    refine g_aload_n 0 e_M_image_8 rfl rfl ?_
    refine p_getR (j := 171) e_M_image_9 sh_154 fl_M_63 rfl (rf_154_40 _) ?_
    refine g_iload_n 1 e_M_image_12 rfl rfl ?_
    refine g_aload_n 0 e_M_image_13 rfl rfl ?_
    refine p_getR (j := 158) e_M_image_14 sh_154 fl_M_23 rfl (rf_154_7 _) ?_
    refine g_iload_n 1 e_M_image_17 rfl rfl ?_
    obtain ⟨h2, h⟩ := h
    refine p_iald e_M_image_18 sh_158 h2 ?_
    obtain ⟨h3, h⟩ := h
    refine p_iast e_M_image_19 sh_171 h3 ?_
    refine g_aload_n 0 e_M_image_20 rfl rfl ?_
    refine p_getR (j := 171) e_M_image_21 sh_154 fl_M_63 rfl (rf_154_40 _) ?_
    refine g_bipush (6 : Int32) e_M_image_24 (by decide) ?_
    refine g_iload_n 1 e_M_image_26 rfl rfl ?_
    refine g_iadd e_M_image_27 ?_
    refine g_aload_n 0 e_M_image_28 rfl rfl ?_
    refine p_getR (j := 159) e_M_image_29 sh_154 fl_M_26 rfl (rf_154_8 _) ?_
    refine g_iload_n 1 e_M_image_32 rfl rfl ?_
    refine p_iald e_M_image_33 sh_159 h2 ?_
    obtain ⟨h4, h⟩ := h
    refine p_iast e_M_image_34 sh_171 h4 ?_
    refine g_aload_n 0 e_M_image_35 rfl rfl ?_
    refine p_getR (j := 171) e_M_image_36 sh_154 fl_M_63 rfl (rf_154_40 _) ?_
    refine g_bipush (12 : Int32) e_M_image_39 (by decide) ?_
    refine g_iload_n 1 e_M_image_41 rfl rfl ?_
    refine g_iadd e_M_image_42 ?_
    refine g_aload_n 0 e_M_image_43 rfl rfl ?_
    refine p_getR (j := 160) e_M_image_44 sh_154 fl_M_29 rfl (rf_154_9 _) ?_
    refine g_iload_n 1 e_M_image_47 rfl rfl ?_
    refine p_iald e_M_image_48 sh_160 h2 ?_
    obtain ⟨h5, h⟩ := h
    refine p_iast e_M_image_49 sh_171 h5 ?_
    refine g_aload_n 0 e_M_image_50 rfl rfl ?_
    refine p_getR (j := 171) e_M_image_51 sh_154 fl_M_63 rfl (rf_154_40 _) ?_
    refine g_bipush (18 : Int32) e_M_image_54 (by decide) ?_
    refine g_iload_n 1 e_M_image_56 rfl rfl ?_
    refine g_iadd e_M_image_57 ?_
    refine g_aload_n 0 e_M_image_58 rfl rfl ?_
    refine p_getR (j := 161) e_M_image_59 sh_154 fl_M_32 rfl (rf_154_10 _) ?_
    refine g_iload_n 1 e_M_image_62 rfl rfl ?_
    refine p_iald e_M_image_63 sh_161 h2 ?_
    obtain ⟨h6, h⟩ := h
    refine p_iast e_M_image_64 sh_171 h6 ?_
    refine g_iinc (v := (l1 + (1 : Int32))) (L' := [(1, .int ((l1 + (1 : Int32)))), (0, .ref (154))]) 1 e_M_image_65 rfl rfl (by decide) rfl ?_
    refine g_goto (tgt := 2) e_M_image_68 rfl ?_
    exact g_sub [1, 0] rfl h
set_option maxHeartbeats 1000000 in
theorem s_M_image_73 {l1 : Int32} {v : Vv} {Q : Int32 → Vv → Prop} (h : if l1 < (5 : Int32) then ((ib (l1) 5) ∧ ((ib (l1) 10) ∧ ((ib (((5 : Int32) + l1)) 10) ∧ (k_M_image_73 ((l1 + (1 : Int32))) (sI (sI (v) 172 (ix (l1)) ((v).1 163 (ix (l1)))) 172 (ix (((5 : Int32) + l1))) ((sI (v) 172 (ix (l1)) ((v).1 163 (ix (l1)))).1 164 (ix (l1)))) Q)))) else (Q ((sI (sI (sI (v) 154 42 ((v).1 154 11)) 154 43 ((sI (v) 154 42 ((v).1 154 11)).1 154 15)) 154 44 ((sI (sI (v) 154 42 ((v).1 154 11)) 154 43 ((sI (v) 154 42 ((v).1 154 11)).1 154 15)).1 154 4)).1 154 11) (sI (sI (sI (v) 154 42 ((v).1 154 11)) 154 43 ((sI (v) 154 42 ((v).1 154 11)).1 154 15)) 154 44 ((sI (sI (v) 154 42 ((v).1 154 11)) 154 43 ((sI (v) 154 42 ((v).1 154 11)).1 154 15)).1 154 4)))) : k_M_image_73 l1 v Q := by
  show Gp 1 M_M_image 73 [(0, .ref (154)), (1, .int (l1))] [] v (QI Q)
  refine g_iload_n 1 e_M_image_73 rfl rfl ?_
  refine g_iconst (5 : Int32) e_M_image_74 (by decide) ?_
  refine g_icmp_ge (tgt := 110) e_M_image_75 rfl (fun c7 => ?_) (fun c7 => ?_)
  · replace h := iteF h c7
    refine g_aload_n 0 e_M_image_110 rfl rfl ?_
    refine g_aload_n 0 e_M_image_111 rfl rfl ?_
    refine p_getI e_M_image_112 sh_154 fl_M_92 rfl ?_
    refine p_putI e_M_image_115 sh_154 fp_M_69 rfl rfl rfl ?_
    refine g_aload_n 0 e_M_image_118 rfl rfl ?_
    refine g_aload_n 0 e_M_image_119 rfl rfl ?_
    refine p_getI e_M_image_120 sh_154 fl_M_99 rfl ?_
    refine p_putI e_M_image_123 sh_154 fp_M_437 rfl rfl rfl ?_
    refine g_aload_n 0 e_M_image_126 rfl rfl ?_
    refine g_aload_n 0 e_M_image_127 rfl rfl ?_
    refine p_getI e_M_image_128 sh_154 fl_M_340 rfl ?_
    refine p_putI e_M_image_131 sh_154 fp_M_440 rfl rfl rfl ?_
    refine g_aload_n 0 e_M_image_134 rfl rfl ?_
    refine p_getI e_M_image_135 sh_154 fl_M_92 rfl ?_
    exact p_retI e_M_image_138.1 rfl h
  · replace h := iteT h c7
    refine g_aload_n 0 e_M_image_78 rfl rfl ?_
    refine p_getR (j := 172) e_M_image_79 sh_154 fl_M_66 rfl (rf_154_41 _) ?_
    refine g_iload_n 1 e_M_image_82 rfl rfl ?_
    refine g_aload_n 0 e_M_image_83 rfl rfl ?_
    refine p_getR (j := 163) e_M_image_84 sh_154 fl_M_38 rfl (rf_154_13 _) ?_
    refine g_iload_n 1 e_M_image_87 rfl rfl ?_
    obtain ⟨h8, h⟩ := h
    refine p_iald e_M_image_88 sh_163 h8 ?_
    obtain ⟨h9, h⟩ := h
    refine p_iast e_M_image_89 sh_172 h9 ?_
    refine g_aload_n 0 e_M_image_90 rfl rfl ?_
    refine p_getR (j := 172) e_M_image_91 sh_154 fl_M_66 rfl (rf_154_41 _) ?_
    refine g_iconst (5 : Int32) e_M_image_94 (by decide) ?_
    refine g_iload_n 1 e_M_image_95 rfl rfl ?_
    refine g_iadd e_M_image_96 ?_
    refine g_aload_n 0 e_M_image_97 rfl rfl ?_
    refine p_getR (j := 164) e_M_image_98 sh_154 fl_M_41 rfl (rf_154_14 _) ?_
    refine g_iload_n 1 e_M_image_101 rfl rfl ?_
    refine p_iald e_M_image_102 sh_164 h8 ?_
    obtain ⟨h10, h⟩ := h
    refine p_iast e_M_image_103 sh_172 h10 ?_
    refine g_iinc (v := (l1 + (1 : Int32))) (L' := [(1, .int ((l1 + (1 : Int32)))), (0, .ref (154))]) 1 e_M_image_104 rfl rfl (by decide) rfl ?_
    refine g_goto (tgt := 73) e_M_image_107 rfl ?_
    exact g_sub [1, 0] rfl h
set_option maxHeartbeats 1000000 in
theorem s_M_back  {v : Vv} {Q : Int32 → Vv → Prop} (h : if (v).1 154 42 = (-1 : Int32) then (Q ((-3 : Int32)) (v)) else (k_M_back_13 ((0 : Int32)) (v) Q)) : m_M_back  v Q := by
  refine cp_go (Nat.le_of_ble_eq_true rfl) (by decide +kernel) ?_
  show Gp 1 M_M_back 0 [(0, .ref (154))] [] v (QI Q)
  refine g_aload_n 0 e_M_back_0 rfl rfl ?_
  refine p_getI e_M_back_1 sh_154 fl_M_69 rfl ?_
  refine g_iconst (-1 : Int32) e_M_back_4 (by decide) ?_
  refine g_icmp_ne (tgt := 11) e_M_back_5 rfl (fun c1 => ?_) (fun c1 => ?_)
  · replace h := iteF h c1
    refine g_iconst (0 : Int32) e_M_back_11 (by decide) ?_
    refine g_istore_n (L' := [(1, .int ((0 : Int32))), (0, .ref (154))]) e_M_back_12 rfl (by decide) rfl ?_
    exact g_sub [1, 0] rfl h
  · replace h := iteT h c1
    refine g_bipush (-3 : Int32) e_M_back_8 (by decide) ?_
    exact p_retI e_M_back_10.1 rfl h
set_option maxHeartbeats 1000000 in
theorem s_M_back_13 {l1 : Int32} {v : Vv} {Q : Int32 → Vv → Prop} (h : if l1 < (6 : Int32) then ((ib (l1) 24) ∧ ((ib (l1) 6) ∧ ((ib (((6 : Int32) + l1)) 24) ∧ ((ib (((12 : Int32) + l1)) 24) ∧ ((ib (((18 : Int32) + l1)) 24) ∧ (k_M_back_13 ((l1 + (1 : Int32))) (sI (sI (sI (sI (v) 158 (ix (l1)) ((v).1 171 (ix (l1)))) 159 (ix (l1)) ((sI (v) 158 (ix (l1)) ((v).1 171 (ix (l1)))).1 171 (ix (((6 : Int32) + l1))))) 160 (ix (l1)) ((sI (sI (v) 158 (ix (l1)) ((v).1 171 (ix (l1)))) 159 (ix (l1)) ((sI (v) 158 (ix (l1)) ((v).1 171 (ix (l1)))).1 171 (ix (((6 : Int32) + l1))))).1 171 (ix (((12 : Int32) + l1))))) 161 (ix (l1)) ((sI (sI (sI (v) 158 (ix (l1)) ((v).1 171 (ix (l1)))) 159 (ix (l1)) ((sI (v) 158 (ix (l1)) ((v).1 171 (ix (l1)))).1 171 (ix (((6 : Int32) + l1))))) 160 (ix (l1)) ((sI (sI (v) 158 (ix (l1)) ((v).1 171 (ix (l1)))) 159 (ix (l1)) ((sI (v) 158 (ix (l1)) ((v).1 171 (ix (l1)))).1 171 (ix (((6 : Int32) + l1))))).1 171 (ix (((12 : Int32) + l1))))).1 171 (ix (((18 : Int32) + l1))))) Q)))))) else (k_M_back_84 ((0 : Int32)) (v) Q)) : k_M_back_13 l1 v Q := by
  show Gp 1 M_M_back 13 [(0, .ref (154)), (1, .int (l1))] [] v (QI Q)
  refine g_iload_n 1 e_M_back_13 rfl rfl ?_
  refine g_bipush (6 : Int32) e_M_back_14 (by decide) ?_
  refine g_icmp_ge (tgt := 82) e_M_back_16 rfl (fun c2 => ?_) (fun c2 => ?_)
  · replace h := iteF h c2
    refine g_iconst (0 : Int32) e_M_back_82 (by decide) ?_
    refine g_istore_n (L' := [(1, .int ((0 : Int32))), (0, .ref (154))]) e_M_back_83 rfl (by decide) rfl ?_
    exact g_sub [1, 0] rfl h
  · replace h := iteT h c2
    refine g_aload_n 0 e_M_back_19 rfl rfl ?_
    refine p_getR (j := 158) e_M_back_20 sh_154 fl_M_23 rfl (rf_154_7 _) ?_
    refine g_iload_n 1 e_M_back_23 rfl rfl ?_
    refine g_aload_n 0 e_M_back_24 rfl rfl ?_
    refine p_getR (j := 171) e_M_back_25 sh_154 fl_M_63 rfl (rf_154_40 _) ?_
    refine g_iload_n 1 e_M_back_28 rfl rfl ?_
    obtain ⟨h3, h⟩ := h
    refine p_iald e_M_back_29 sh_171 h3 ?_
    obtain ⟨h4, h⟩ := h
    refine p_iast e_M_back_30 sh_158 h4 ?_
    refine g_aload_n 0 e_M_back_31 rfl rfl ?_
    refine p_getR (j := 159) e_M_back_32 sh_154 fl_M_26 rfl (rf_154_8 _) ?_
    refine g_iload_n 1 e_M_back_35 rfl rfl ?_
    refine g_aload_n 0 e_M_back_36 rfl rfl ?_
    refine p_getR (j := 171) e_M_back_37 sh_154 fl_M_63 rfl (rf_154_40 _) ?_
    refine g_bipush (6 : Int32) e_M_back_40 (by decide) ?_
    refine g_iload_n 1 e_M_back_42 rfl rfl ?_
    refine g_iadd e_M_back_43 ?_
    obtain ⟨h5, h⟩ := h
    refine p_iald e_M_back_44 sh_171 h5 ?_
    refine p_iast e_M_back_45 sh_159 h4 ?_
    refine g_aload_n 0 e_M_back_46 rfl rfl ?_
    refine p_getR (j := 160) e_M_back_47 sh_154 fl_M_29 rfl (rf_154_9 _) ?_
    refine g_iload_n 1 e_M_back_50 rfl rfl ?_
    refine g_aload_n 0 e_M_back_51 rfl rfl ?_
    refine p_getR (j := 171) e_M_back_52 sh_154 fl_M_63 rfl (rf_154_40 _) ?_
    refine g_bipush (12 : Int32) e_M_back_55 (by decide) ?_
    refine g_iload_n 1 e_M_back_57 rfl rfl ?_
    refine g_iadd e_M_back_58 ?_
    obtain ⟨h6, h⟩ := h
    refine p_iald e_M_back_59 sh_171 h6 ?_
    refine p_iast e_M_back_60 sh_160 h4 ?_
    refine g_aload_n 0 e_M_back_61 rfl rfl ?_
    refine p_getR (j := 161) e_M_back_62 sh_154 fl_M_32 rfl (rf_154_10 _) ?_
    refine g_iload_n 1 e_M_back_65 rfl rfl ?_
    refine g_aload_n 0 e_M_back_66 rfl rfl ?_
    refine p_getR (j := 171) e_M_back_67 sh_154 fl_M_63 rfl (rf_154_40 _) ?_
    refine g_bipush (18 : Int32) e_M_back_70 (by decide) ?_
    refine g_iload_n 1 e_M_back_72 rfl rfl ?_
    refine g_iadd e_M_back_73 ?_
    obtain ⟨h7, h⟩ := h
    refine p_iald e_M_back_74 sh_171 h7 ?_
    refine p_iast e_M_back_75 sh_161 h4 ?_
    refine g_iinc (v := (l1 + (1 : Int32))) (L' := [(1, .int ((l1 + (1 : Int32)))), (0, .ref (154))]) 1 e_M_back_76 rfl rfl (by decide) rfl ?_
    refine g_goto (tgt := 13) e_M_back_79 rfl ?_
    exact g_sub [1, 0] rfl h
set_option maxHeartbeats 1000000 in
theorem s_M_back_84 {l1 : Int32} {v : Vv} {Q : Int32 → Vv → Prop} (h : if l1 < (5 : Int32) then ((ib (l1) 10) ∧ ((ib (l1) 5) ∧ ((ib (((5 : Int32) + l1)) 10) ∧ (k_M_back_84 ((l1 + (1 : Int32))) (sI (sI (v) 163 (ix (l1)) ((v).1 172 (ix (l1)))) 164 (ix (l1)) ((sI (v) 163 (ix (l1)) ((v).1 172 (ix (l1)))).1 172 (ix (((5 : Int32) + l1))))) Q)))) else (Q ((sI (sI (sI (v) 154 11 ((v).1 154 42)) 154 15 ((sI (v) 154 11 ((v).1 154 42)).1 154 43)) 154 4 ((sI (sI (v) 154 11 ((v).1 154 42)) 154 15 ((sI (v) 154 11 ((v).1 154 42)).1 154 43)).1 154 44)).1 154 11) (sI (sI (sI (v) 154 11 ((v).1 154 42)) 154 15 ((sI (v) 154 11 ((v).1 154 42)).1 154 43)) 154 4 ((sI (sI (v) 154 11 ((v).1 154 42)) 154 15 ((sI (v) 154 11 ((v).1 154 42)).1 154 43)).1 154 44)))) : k_M_back_84 l1 v Q := by
  show Gp 1 M_M_back 84 [(0, .ref (154)), (1, .int (l1))] [] v (QI Q)
  refine g_iload_n 1 e_M_back_84 rfl rfl ?_
  refine g_iconst (5 : Int32) e_M_back_85 (by decide) ?_
  refine g_icmp_ge (tgt := 121) e_M_back_86 rfl (fun c8 => ?_) (fun c8 => ?_)
  · replace h := iteF h c8
    refine g_aload_n 0 e_M_back_121 rfl rfl ?_
    refine g_aload_n 0 e_M_back_122 rfl rfl ?_
    refine p_getI e_M_back_123 sh_154 fl_M_69 rfl ?_
    refine p_putI e_M_back_126 sh_154 fp_M_92 rfl rfl rfl ?_
    refine g_aload_n 0 e_M_back_129 rfl rfl ?_
    refine g_aload_n 0 e_M_back_130 rfl rfl ?_
    refine p_getI e_M_back_131 sh_154 fl_M_437 rfl ?_
    refine p_putI e_M_back_134 sh_154 fp_M_99 rfl rfl rfl ?_
    refine g_aload_n 0 e_M_back_137 rfl rfl ?_
    refine g_aload_n 0 e_M_back_138 rfl rfl ?_
    refine p_getI e_M_back_139 sh_154 fl_M_440 rfl ?_
    refine p_putI e_M_back_142 sh_154 fp_M_340 rfl rfl rfl ?_
    refine g_aload_n 0 e_M_back_145 rfl rfl ?_
    refine p_getI e_M_back_146 sh_154 fl_M_92 rfl ?_
    exact p_retI e_M_back_149.1 rfl h
  · replace h := iteT h c8
    refine g_aload_n 0 e_M_back_89 rfl rfl ?_
    refine p_getR (j := 163) e_M_back_90 sh_154 fl_M_38 rfl (rf_154_13 _) ?_
    refine g_iload_n 1 e_M_back_93 rfl rfl ?_
    refine g_aload_n 0 e_M_back_94 rfl rfl ?_
    refine p_getR (j := 172) e_M_back_95 sh_154 fl_M_66 rfl (rf_154_41 _) ?_
    refine g_iload_n 1 e_M_back_98 rfl rfl ?_
    obtain ⟨h9, h⟩ := h
    refine p_iald e_M_back_99 sh_172 h9 ?_
    obtain ⟨h10, h⟩ := h
    refine p_iast e_M_back_100 sh_163 h10 ?_
    refine g_aload_n 0 e_M_back_101 rfl rfl ?_
    refine p_getR (j := 164) e_M_back_102 sh_154 fl_M_41 rfl (rf_154_14 _) ?_
    refine g_iload_n 1 e_M_back_105 rfl rfl ?_
    refine g_aload_n 0 e_M_back_106 rfl rfl ?_
    refine p_getR (j := 172) e_M_back_107 sh_154 fl_M_66 rfl (rf_154_41 _) ?_
    refine g_iconst (5 : Int32) e_M_back_110 (by decide) ?_
    refine g_iload_n 1 e_M_back_111 rfl rfl ?_
    refine g_iadd e_M_back_112 ?_
    obtain ⟨h11, h⟩ := h
    refine p_iald e_M_back_113 sh_172 h11 ?_
    refine p_iast e_M_back_114 sh_164 h10 ?_
    refine g_iinc (v := (l1 + (1 : Int32))) (L' := [(1, .int ((l1 + (1 : Int32)))), (0, .ref (154))]) 1 e_M_back_115 rfl rfl (by decide) rfl ?_
    refine g_goto (tgt := 84) e_M_back_118 rfl ?_
    exact g_sub [1, 0] rfl h
set_option maxHeartbeats 1000000 in
theorem s_M_over {l0 : Int32} {v : Vv} {Q : Int32 → Vv → Prop} (h : Q ((if l0 = (0 : Int32) then (-1 : Int32) else (if l0 = (3 : Int32) then (1 : Int32) else (if l0 = (4 : Int32) then (2 : Int32) else (0 : Int32))))) (v)) : m_M_over l0 v Q := by
  refine cp_go (Nat.le_of_ble_eq_true rfl) (by decide +kernel) ?_
  show Gp 1 M_M_over 0 [(0, .int (l0))] [] v (QI Q)
  refine g_iload_n 0 e_M_over_0 rfl rfl ?_
  have hj : ∀ m0 : Int32, m0 = (if l0 = (0 : Int32) then (-1 : Int32) else (if l0 = (3 : Int32) then (1 : Int32) else (if l0 = (4 : Int32) then (2 : Int32) else (0 : Int32)))) → Gp 1 M_M_over 27 [(0, .int (l0))] [.int (m0)] (v) (QI Q) := by
    intro m0 hm0
    subst hm0
    exact p_retI e_M_over_27.1 rfl h
  refine g_if_ne (tgt := 8) e_M_over_1 rfl (fun c1 => ?_) (fun c1 => ?_)
  · refine g_iload_n 0 e_M_over_8 rfl rfl ?_
    refine g_iconst (3 : Int32) e_M_over_9 (by decide) ?_
    refine g_icmp_ne (tgt := 17) e_M_over_10 rfl (fun c2 => ?_) (fun c2 => ?_)
    · refine g_iload_n 0 e_M_over_17 rfl rfl ?_
      refine g_iconst (4 : Int32) e_M_over_18 (by decide) ?_
      refine g_icmp_ne (tgt := 26) e_M_over_19 rfl (fun c3 => ?_) (fun c3 => ?_)
      · refine g_iconst (0 : Int32) e_M_over_26 (by decide) ?_
        exact hj ((0 : Int32)) (by simp only [if_neg c1, if_neg c2, if_neg c3])
      · refine g_iconst (2 : Int32) e_M_over_22 (by decide) ?_
        refine g_goto (tgt := 27) e_M_over_23 rfl ?_
        exact hj ((2 : Int32)) (by simp only [if_neg c1, if_neg c2, if_pos c3])
    · refine g_iconst (1 : Int32) e_M_over_13 (by decide) ?_
      refine g_goto (tgt := 27) e_M_over_14 rfl ?_
      exact hj ((1 : Int32)) (by simp only [if_neg c1, if_pos c2])
  · refine g_iconst (-1 : Int32) e_M_over_4 (by decide) ?_
    refine g_goto (tgt := 27) e_M_over_5 rfl ?_
    exact hj ((-1 : Int32)) (by simp only [if_pos c1])
set_option maxHeartbeats 1000000 in
theorem s_M_isClock {l1 : Int32} {v : Vv} {Q : Bool → Vv → Prop} (h : m_M_in ((l1).toInt64) (0 : Int64) ((((v).1 154 11 - (1 : Int32))).toInt64) (v) (fun x1 v2 => Q (x1) (v2))) : m_M_isClock l1 v Q := by
  refine cp_go (Nat.le_of_ble_eq_true rfl) (by decide +kernel) ?_
  show Gp 2 M_M_isClock 0 [(0, .ref (154)), (1, .int (l1))] [] v (QZ Q)
  refine g_iload_n 1 e_M_isClock_0 rfl rfl ?_
  refine g_i2l e_M_isClock_1 ?_
  refine g_lconst (0 : Int64) e_M_isClock_2 (by decide) ?_
  refine g_aload_n 0 e_M_isClock_3 rfl rfl ?_
  refine p_getI e_M_isClock_4 sh_154 fl_M_92 rfl ?_
  refine g_iconst (1 : Int32) e_M_isClock_7 (by decide) ?_
  refine g_isub e_M_isClock_8 ?_
  refine g_i2l e_M_isClock_9 ?_
  refine p_callSZ (d' := 1) (As := [.long ((l1).toInt64), .long ((0 : Int64)), .long ((((v).1 154 11 - (1 : Int32))).toInt64)]) (rest := []) e_M_isClock_10 zm_M_in lS_M_95 rfl rfl (Nat.le_of_ble_eq_true rfl) (by decide) ?_
  refine cp_mono h (fun _ v2 ⟨x1, e1, h⟩ => ⟨x1, e1, ?_⟩)
  exact p_retZ e_M_isClock_13.1 rfl h
set_option maxHeartbeats 1000000 in
theorem s_M_isDoer {l1 : Int32} {v : Vv} {Q : Bool → Vv → Prop} (h : m_M_in ((l1).toInt64) (0 : Int64) ((((v).1 154 15 - (1 : Int32))).toInt64) (v) (fun x1 v2 => Q (x1) (v2))) : m_M_isDoer l1 v Q := by
  refine cp_go (Nat.le_of_ble_eq_true rfl) (by decide +kernel) ?_
  show Gp 2 M_M_isDoer 0 [(0, .ref (154)), (1, .int (l1))] [] v (QZ Q)
  refine g_iload_n 1 e_M_isDoer_0 rfl rfl ?_
  refine g_i2l e_M_isDoer_1 ?_
  refine g_lconst (0 : Int64) e_M_isDoer_2 (by decide) ?_
  refine g_aload_n 0 e_M_isDoer_3 rfl rfl ?_
  refine p_getI e_M_isDoer_4 sh_154 fl_M_99 rfl ?_
  refine g_iconst (1 : Int32) e_M_isDoer_7 (by decide) ?_
  refine g_isub e_M_isDoer_8 ?_
  refine g_i2l e_M_isDoer_9 ?_
  refine p_callSZ (d' := 1) (As := [.long ((l1).toInt64), .long ((0 : Int64)), .long ((((v).1 154 15 - (1 : Int32))).toInt64)]) (rest := []) e_M_isDoer_10 zm_M_in lS_M_95 rfl rfl (Nat.le_of_ble_eq_true rfl) (by decide) ?_
  refine cp_mono h (fun _ v2 ⟨x1, e1, h⟩ => ⟨x1, e1, ?_⟩)
  exact p_retZ e_M_isDoer_13.1 rfl h
set_option maxHeartbeats 1000000 in
theorem s_M_isWorld {l1 : Int32} {v : Vv} {Q : Bool → Vv → Prop} (h : m_M_in ((l1).toInt64) (0 : Int64) (((((1 : Int32) <<< ((v).1 154 15 &&& 31)) - (1 : Int32))).toInt64) (v) (fun x1 v2 => Q (x1) (v2))) : m_M_isWorld l1 v Q := by
  refine cp_go (Nat.le_of_ble_eq_true rfl) (by decide +kernel) ?_
  show Gp 2 M_M_isWorld 0 [(0, .ref (154)), (1, .int (l1))] [] v (QZ Q)
  refine g_iload_n 1 e_M_isWorld_0 rfl rfl ?_
  refine g_i2l e_M_isWorld_1 ?_
  refine g_lconst (0 : Int64) e_M_isWorld_2 (by decide) ?_
  refine g_iconst (1 : Int32) e_M_isWorld_3 (by decide) ?_
  refine g_aload_n 0 e_M_isWorld_4 rfl rfl ?_
  refine p_getI e_M_isWorld_5 sh_154 fl_M_99 rfl ?_
  refine g_ishl e_M_isWorld_8 ?_
  refine g_iconst (1 : Int32) e_M_isWorld_9 (by decide) ?_
  refine g_isub e_M_isWorld_10 ?_
  refine g_i2l e_M_isWorld_11 ?_
  refine p_callSZ (d' := 1) (As := [.long ((l1).toInt64), .long ((0 : Int64)), .long (((((1 : Int32) <<< ((v).1 154 15 &&& 31)) - (1 : Int32))).toInt64)]) (rest := []) e_M_isWorld_12 zm_M_in lS_M_95 rfl rfl (Nat.le_of_ble_eq_true rfl) (by decide) ?_
  refine cp_mono h (fun _ v2 ⟨x1, e1, h⟩ => ⟨x1, e1, ?_⟩)
  exact p_retZ e_M_isWorld_15.1 rfl h
set_option maxHeartbeats 1000000 in
theorem s_M_clock {l1 : Int32} {l2 : Int32} {v : Vv} {Q : Int32 → Vv → Prop} (h : m_M_in ((l1).toInt64) (0 : Int64) (59 : Int64) (v) (fun x1 v2 => if x1 = true then (if (1 : Int32) < (l1 % (10 : Int32)) then (Q ((-2 : Int32)) (v2)) else (m_M_in ((l2).toInt64) (-120 : Int64) (120 : Int64) (v2) (fun x5 v6 => if x5 = true then (if (v6).1 154 11 = (6 : Int32) then (Q ((-4 : Int32)) (v6)) else ((ib ((v6).1 154 11) 6) ∧ ((ib ((sI (v6) 159 (ix ((v6).1 154 11)) (l1 / (10 : Int32))).1 154 11) 6) ∧ ((ib ((sI (sI (v6) 159 (ix ((v6).1 154 11)) (l1 / (10 : Int32))) 160 (ix ((sI (v6) 159 (ix ((v6).1 154 11)) (l1 / (10 : Int32))).1 154 11)) (l1 % (10 : Int32))).1 154 11) 6) ∧ ((ib ((sI (sI (sI (v6) 159 (ix ((v6).1 154 11)) (l1 / (10 : Int32))) 160 (ix ((sI (v6) 159 (ix ((v6).1 154 11)) (l1 / (10 : Int32))).1 154 11)) (l1 % (10 : Int32))) 158 (ix ((sI (sI (v6) 159 (ix ((v6).1 154 11)) (l1 / (10 : Int32))) 160 (ix ((sI (v6) 159 (ix ((v6).1 154 11)) (l1 / (10 : Int32))).1 154 11)) (l1 % (10 : Int32))).1 154 11)) l2).1 154 11) 6) ∧ (Q (((sI (sI (sI (sI (sI (v6) 159 (ix ((v6).1 154 11)) (l1 / (10 : Int32))) 160 (ix ((sI (v6) 159 (ix ((v6).1 154 11)) (l1 / (10 : Int32))).1 154 11)) (l1 % (10 : Int32))) 158 (ix ((sI (sI (v6) 159 (ix ((v6).1 154 11)) (l1 / (10 : Int32))) 160 (ix ((sI (v6) 159 (ix ((v6).1 154 11)) (l1 / (10 : Int32))).1 154 11)) (l1 % (10 : Int32))).1 154 11)) l2) 161 (ix ((sI (sI (sI (v6) 159 (ix ((v6).1 154 11)) (l1 / (10 : Int32))) 160 (ix ((sI (v6) 159 (ix ((v6).1 154 11)) (l1 / (10 : Int32))).1 154 11)) (l1 % (10 : Int32))) 158 (ix ((sI (sI (v6) 159 (ix ((v6).1 154 11)) (l1 / (10 : Int32))) 160 (ix ((sI (v6) 159 (ix ((v6).1 154 11)) (l1 / (10 : Int32))).1 154 11)) (l1 % (10 : Int32))).1 154 11)) l2).1 154 11)) (-1 : Int32)) 154 11 ((sI (sI (sI (sI (v6) 159 (ix ((v6).1 154 11)) (l1 / (10 : Int32))) 160 (ix ((sI (v6) 159 (ix ((v6).1 154 11)) (l1 / (10 : Int32))).1 154 11)) (l1 % (10 : Int32))) 158 (ix ((sI (sI (v6) 159 (ix ((v6).1 154 11)) (l1 / (10 : Int32))) 160 (ix ((sI (v6) 159 (ix ((v6).1 154 11)) (l1 / (10 : Int32))).1 154 11)) (l1 % (10 : Int32))).1 154 11)) l2) 161 (ix ((sI (sI (sI (v6) 159 (ix ((v6).1 154 11)) (l1 / (10 : Int32))) 160 (ix ((sI (v6) 159 (ix ((v6).1 154 11)) (l1 / (10 : Int32))).1 154 11)) (l1 % (10 : Int32))) 158 (ix ((sI (sI (v6) 159 (ix ((v6).1 154 11)) (l1 / (10 : Int32))) 160 (ix ((sI (v6) 159 (ix ((v6).1 154 11)) (l1 / (10 : Int32))).1 154 11)) (l1 % (10 : Int32))).1 154 11)) l2).1 154 11)) (-1 : Int32)).1 154 11 + (1 : Int32))).1 154 11 - (1 : Int32))) (sI (sI (sI (sI (sI (v6) 159 (ix ((v6).1 154 11)) (l1 / (10 : Int32))) 160 (ix ((sI (v6) 159 (ix ((v6).1 154 11)) (l1 / (10 : Int32))).1 154 11)) (l1 % (10 : Int32))) 158 (ix ((sI (sI (v6) 159 (ix ((v6).1 154 11)) (l1 / (10 : Int32))) 160 (ix ((sI (v6) 159 (ix ((v6).1 154 11)) (l1 / (10 : Int32))).1 154 11)) (l1 % (10 : Int32))).1 154 11)) l2) 161 (ix ((sI (sI (sI (v6) 159 (ix ((v6).1 154 11)) (l1 / (10 : Int32))) 160 (ix ((sI (v6) 159 (ix ((v6).1 154 11)) (l1 / (10 : Int32))).1 154 11)) (l1 % (10 : Int32))) 158 (ix ((sI (sI (v6) 159 (ix ((v6).1 154 11)) (l1 / (10 : Int32))) 160 (ix ((sI (v6) 159 (ix ((v6).1 154 11)) (l1 / (10 : Int32))).1 154 11)) (l1 % (10 : Int32))).1 154 11)) l2).1 154 11)) (-1 : Int32)) 154 11 ((sI (sI (sI (sI (v6) 159 (ix ((v6).1 154 11)) (l1 / (10 : Int32))) 160 (ix ((sI (v6) 159 (ix ((v6).1 154 11)) (l1 / (10 : Int32))).1 154 11)) (l1 % (10 : Int32))) 158 (ix ((sI (sI (v6) 159 (ix ((v6).1 154 11)) (l1 / (10 : Int32))) 160 (ix ((sI (v6) 159 (ix ((v6).1 154 11)) (l1 / (10 : Int32))).1 154 11)) (l1 % (10 : Int32))).1 154 11)) l2) 161 (ix ((sI (sI (sI (v6) 159 (ix ((v6).1 154 11)) (l1 / (10 : Int32))) 160 (ix ((sI (v6) 159 (ix ((v6).1 154 11)) (l1 / (10 : Int32))).1 154 11)) (l1 % (10 : Int32))) 158 (ix ((sI (sI (v6) 159 (ix ((v6).1 154 11)) (l1 / (10 : Int32))) 160 (ix ((sI (v6) 159 (ix ((v6).1 154 11)) (l1 / (10 : Int32))).1 154 11)) (l1 % (10 : Int32))).1 154 11)) l2).1 154 11)) (-1 : Int32)).1 154 11 + (1 : Int32))))))))) else (Q ((-2 : Int32)) (v6))))) else (Q ((-2 : Int32)) (v2)))) : m_M_clock l1 l2 v Q := by
  refine cp_go (Nat.le_of_ble_eq_true rfl) (by decide +kernel) ?_
  show Gp 2 M_M_clock 0 [(0, .ref (154)), (1, .int (l1)), (2, .int (l2))] [] v (QI Q)
  refine g_iload_n 1 e_M_clock_0 rfl rfl ?_
  refine g_i2l e_M_clock_1 ?_
  refine g_lconst (0 : Int64) e_M_clock_2 (by decide) ?_
  refine g_ldc2 (v := (59 : Int64)) (hd := e_M_clock_3) cl_M_102 ?_
  refine p_callSZ (d' := 1) (As := [.long ((l1).toInt64), .long ((0 : Int64)), .long ((59 : Int64))]) (rest := []) e_M_clock_6 zm_M_in lS_M_95 rfl rfl (Nat.le_of_ble_eq_true rfl) (by decide) ?_
  refine cp_mono h (fun _ v2 ⟨x1, e1, h⟩ => ⟨x1, e1, ?_⟩)
  refine p_ifz_eq (tgt := 34) e_M_clock_9 rfl (fun c3 => ?_) (fun c3 => ?_)
  · replace h := iteF h c3
    refine g_bipush (-2 : Int32) e_M_clock_34 (by decide) ?_
    exact p_retI e_M_clock_36.1 rfl h
  · replace h := iteT h c3
    refine g_iload_n 1 e_M_clock_12 rfl rfl ?_
    refine g_bipush (10 : Int32) e_M_clock_13 (by decide) ?_
    refine g_irem e_M_clock_15 (by decide) ?_
    refine g_iconst (1 : Int32) e_M_clock_16 (by decide) ?_
    refine g_icmp_gt (tgt := 34) e_M_clock_17 rfl (fun c4 => ?_) (fun c4 => ?_)
    · replace h := iteT h c4
      refine g_bipush (-2 : Int32) e_M_clock_34 (by decide) ?_
      exact p_retI e_M_clock_36.1 rfl h
    · replace h := iteF h c4
      refine g_iload_n 2 e_M_clock_20 rfl rfl ?_
      refine g_i2l e_M_clock_21 ?_
      refine g_ldc2 (v := (-120 : Int64)) (hd := e_M_clock_22) cl_M_104 ?_
      refine g_ldc2 (v := (120 : Int64)) (hd := e_M_clock_25) cl_M_106 ?_
      refine p_callSZ (d' := 1) (As := [.long ((l2).toInt64), .long ((-120 : Int64)), .long ((120 : Int64))]) (rest := []) e_M_clock_28 zm_M_in lS_M_95 rfl rfl (Nat.le_of_ble_eq_true rfl) (by decide) ?_
      refine cp_mono h (fun _ v6 ⟨x5, e1, h⟩ => ⟨x5, e1, ?_⟩)
      refine p_ifz_ne (tgt := 37) e_M_clock_31 rfl (fun c7 => ?_) (fun c7 => ?_)
      · replace h := iteT h c7
        refine g_aload_n 0 e_M_clock_37 rfl rfl ?_
        refine p_getI e_M_clock_38 sh_154 fl_M_92 rfl ?_
        refine g_bipush (6 : Int32) e_M_clock_41 (by decide) ?_
        refine g_icmp_ne (tgt := 49) e_M_clock_43 rfl (fun c8 => ?_) (fun c8 => ?_)
        · replace h := iteF h c8
          refine g_aload_n 0 e_M_clock_49 rfl rfl ?_
          refine p_getR (j := 159) e_M_clock_50 sh_154 fl_M_26 rfl (rf_154_8 _) ?_
          refine g_aload_n 0 e_M_clock_53 rfl rfl ?_
          refine p_getI e_M_clock_54 sh_154 fl_M_92 rfl ?_
          refine g_iload_n 1 e_M_clock_57 rfl rfl ?_
          refine g_bipush (10 : Int32) e_M_clock_58 (by decide) ?_
          refine g_idiv e_M_clock_60 (by decide) ?_
          obtain ⟨h9, h⟩ := h
          refine p_iast e_M_clock_61 sh_159 h9 ?_
          refine g_aload_n 0 e_M_clock_62 rfl rfl ?_
          refine p_getR (j := 160) e_M_clock_63 sh_154 fl_M_29 rfl (rf_154_9 _) ?_
          refine g_aload_n 0 e_M_clock_66 rfl rfl ?_
          refine p_getI e_M_clock_67 sh_154 fl_M_92 rfl ?_
          refine g_iload_n 1 e_M_clock_70 rfl rfl ?_
          refine g_bipush (10 : Int32) e_M_clock_71 (by decide) ?_
          refine g_irem e_M_clock_73 (by decide) ?_
          obtain ⟨h10, h⟩ := h
          refine p_iast e_M_clock_74 sh_160 h10 ?_
          refine g_aload_n 0 e_M_clock_75 rfl rfl ?_
          refine p_getR (j := 158) e_M_clock_76 sh_154 fl_M_23 rfl (rf_154_7 _) ?_
          refine g_aload_n 0 e_M_clock_79 rfl rfl ?_
          refine p_getI e_M_clock_80 sh_154 fl_M_92 rfl ?_
          refine g_iload_n 2 e_M_clock_83 rfl rfl ?_
          obtain ⟨h11, h⟩ := h
          refine p_iast e_M_clock_84 sh_158 h11 ?_
          refine g_aload_n 0 e_M_clock_85 rfl rfl ?_
          refine p_getR (j := 161) e_M_clock_86 sh_154 fl_M_32 rfl (rf_154_10 _) ?_
          refine g_aload_n 0 e_M_clock_89 rfl rfl ?_
          refine p_getI e_M_clock_90 sh_154 fl_M_92 rfl ?_
          refine g_iconst (-1 : Int32) e_M_clock_93 (by decide) ?_
          obtain ⟨h12, h⟩ := h
          refine p_iast e_M_clock_94 sh_161 h12 ?_
          refine g_aload_n 0 e_M_clock_95 rfl rfl ?_
          refine g_dup e_M_clock_96 rfl ?_
          refine p_getI e_M_clock_97 sh_154 fl_M_92 rfl ?_
          refine g_iconst (1 : Int32) e_M_clock_100 (by decide) ?_
          refine g_iadd e_M_clock_101 ?_
          refine p_putI e_M_clock_102 sh_154 fp_M_92 rfl rfl rfl ?_
          refine g_aload_n 0 e_M_clock_105 rfl rfl ?_
          refine p_getI e_M_clock_106 sh_154 fl_M_92 rfl ?_
          refine g_iconst (1 : Int32) e_M_clock_109 (by decide) ?_
          refine g_isub e_M_clock_110 ?_
          exact p_retI e_M_clock_111.1 rfl h
        · replace h := iteT h c8
          refine g_bipush (-4 : Int32) e_M_clock_46 (by decide) ?_
          exact p_retI e_M_clock_48.1 rfl h
      · replace h := iteF h c7
        refine g_bipush (-2 : Int32) e_M_clock_34 (by decide) ?_
        exact p_retI e_M_clock_36.1 rfl h
set_option maxHeartbeats 1000000 in
theorem s_M_doer {l1 : Int32} {l2 : Int32} {l3 : Int32} {v : Vv} {Q : Int32 → Vv → Prop} (h : m_M_in ((l1).toInt64) (0 : Int64) (5 : Int64) (v) (fun x1 v2 => if x1 = true then (m_M_in ((l2).toInt64) (0 : Int64) (9 : Int64) (v2) (fun x4 v5 => if x4 = true then (m_M_in ((l3).toInt64) (0 : Int64) (63 : Int64) (v5) (fun x7 v8 => if x7 = true then (if (v8).1 154 15 = (5 : Int32) then (Q ((-4 : Int32)) (v8)) else ((ib ((v8).1 154 15) 5) ∧ ((ib ((sI (v8) 162 (ix ((v8).1 154 15)) l1).1 154 15) 5) ∧ ((ib ((sI (sI (v8) 162 (ix ((v8).1 154 15)) l1) 163 (ix ((sI (v8) 162 (ix ((v8).1 154 15)) l1).1 154 15)) l2).1 154 15) 5) ∧ (Q (((sI (sI (sI (sI (v8) 162 (ix ((v8).1 154 15)) l1) 163 (ix ((sI (v8) 162 (ix ((v8).1 154 15)) l1).1 154 15)) l2) 164 (ix ((sI (sI (v8) 162 (ix ((v8).1 154 15)) l1) 163 (ix ((sI (v8) 162 (ix ((v8).1 154 15)) l1).1 154 15)) l2).1 154 15)) l3) 154 15 ((sI (sI (sI (v8) 162 (ix ((v8).1 154 15)) l1) 163 (ix ((sI (v8) 162 (ix ((v8).1 154 15)) l1).1 154 15)) l2) 164 (ix ((sI (sI (v8) 162 (ix ((v8).1 154 15)) l1) 163 (ix ((sI (v8) 162 (ix ((v8).1 154 15)) l1).1 154 15)) l2).1 154 15)) l3).1 154 15 + (1 : Int32))).1 154 15 - (1 : Int32))) (sI (sI (sI (sI (v8) 162 (ix ((v8).1 154 15)) l1) 163 (ix ((sI (v8) 162 (ix ((v8).1 154 15)) l1).1 154 15)) l2) 164 (ix ((sI (sI (v8) 162 (ix ((v8).1 154 15)) l1) 163 (ix ((sI (v8) 162 (ix ((v8).1 154 15)) l1).1 154 15)) l2).1 154 15)) l3) 154 15 ((sI (sI (sI (v8) 162 (ix ((v8).1 154 15)) l1) 163 (ix ((sI (v8) 162 (ix ((v8).1 154 15)) l1).1 154 15)) l2) 164 (ix ((sI (sI (v8) 162 (ix ((v8).1 154 15)) l1) 163 (ix ((sI (v8) 162 (ix ((v8).1 154 15)) l1).1 154 15)) l2).1 154 15)) l3).1 154 15 + (1 : Int32)))))))) else (Q ((-2 : Int32)) (v8)))) else (Q ((-2 : Int32)) (v5)))) else (Q ((-2 : Int32)) (v2)))) : m_M_doer l1 l2 l3 v Q := by
  refine cp_go (Nat.le_of_ble_eq_true rfl) (by decide +kernel) ?_
  show Gp 2 M_M_doer 0 [(0, .ref (154)), (1, .int (l1)), (2, .int (l2)), (3, .int (l3))] [] v (QI Q)
  refine g_iload_n 1 e_M_doer_0 rfl rfl ?_
  refine g_i2l e_M_doer_1 ?_
  refine g_lconst (0 : Int64) e_M_doer_2 (by decide) ?_
  refine g_ldc2 (v := (5 : Int64)) (hd := e_M_doer_3) cl_M_108 ?_
  refine p_callSZ (d' := 1) (As := [.long ((l1).toInt64), .long ((0 : Int64)), .long ((5 : Int64))]) (rest := []) e_M_doer_6 zm_M_in lS_M_95 rfl rfl (Nat.le_of_ble_eq_true rfl) (by decide) ?_
  refine cp_mono h (fun _ v2 ⟨x1, e1, h⟩ => ⟨x1, e1, ?_⟩)
  refine p_ifz_eq (tgt := 36) e_M_doer_9 rfl (fun c3 => ?_) (fun c3 => ?_)
  · replace h := iteF h c3
    refine g_bipush (-2 : Int32) e_M_doer_36 (by decide) ?_
    exact p_retI e_M_doer_38.1 rfl h
  · replace h := iteT h c3
    refine g_iload_n 2 e_M_doer_12 rfl rfl ?_
    refine g_i2l e_M_doer_13 ?_
    refine g_lconst (0 : Int64) e_M_doer_14 (by decide) ?_
    refine g_ldc2 (v := (9 : Int64)) (hd := e_M_doer_15) cl_M_110 ?_
    refine p_callSZ (d' := 1) (As := [.long ((l2).toInt64), .long ((0 : Int64)), .long ((9 : Int64))]) (rest := []) e_M_doer_18 zm_M_in lS_M_95 rfl rfl (Nat.le_of_ble_eq_true rfl) (by decide) ?_
    refine cp_mono h (fun _ v5 ⟨x4, e1, h⟩ => ⟨x4, e1, ?_⟩)
    refine p_ifz_eq (tgt := 36) e_M_doer_21 rfl (fun c6 => ?_) (fun c6 => ?_)
    · replace h := iteF h c6
      refine g_bipush (-2 : Int32) e_M_doer_36 (by decide) ?_
      exact p_retI e_M_doer_38.1 rfl h
    · replace h := iteT h c6
      refine g_iload_n 3 e_M_doer_24 rfl rfl ?_
      refine g_i2l e_M_doer_25 ?_
      refine g_lconst (0 : Int64) e_M_doer_26 (by decide) ?_
      refine g_ldc2 (v := (63 : Int64)) (hd := e_M_doer_27) cl_M_112 ?_
      refine p_callSZ (d' := 1) (As := [.long ((l3).toInt64), .long ((0 : Int64)), .long ((63 : Int64))]) (rest := []) e_M_doer_30 zm_M_in lS_M_95 rfl rfl (Nat.le_of_ble_eq_true rfl) (by decide) ?_
      refine cp_mono h (fun _ v8 ⟨x7, e1, h⟩ => ⟨x7, e1, ?_⟩)
      refine p_ifz_ne (tgt := 39) e_M_doer_33 rfl (fun c9 => ?_) (fun c9 => ?_)
      · replace h := iteT h c9
        refine g_aload_n 0 e_M_doer_39 rfl rfl ?_
        refine p_getI e_M_doer_40 sh_154 fl_M_99 rfl ?_
        refine g_iconst (5 : Int32) e_M_doer_43 (by decide) ?_
        refine g_icmp_ne (tgt := 50) e_M_doer_44 rfl (fun c10 => ?_) (fun c10 => ?_)
        · replace h := iteF h c10
          refine g_aload_n 0 e_M_doer_50 rfl rfl ?_
          refine p_getR (j := 162) e_M_doer_51 sh_154 fl_M_35 rfl (rf_154_12 _) ?_
          refine g_aload_n 0 e_M_doer_54 rfl rfl ?_
          refine p_getI e_M_doer_55 sh_154 fl_M_99 rfl ?_
          refine g_iload_n 1 e_M_doer_58 rfl rfl ?_
          obtain ⟨h11, h⟩ := h
          refine p_iast e_M_doer_59 sh_162 h11 ?_
          refine g_aload_n 0 e_M_doer_60 rfl rfl ?_
          refine p_getR (j := 163) e_M_doer_61 sh_154 fl_M_38 rfl (rf_154_13 _) ?_
          refine g_aload_n 0 e_M_doer_64 rfl rfl ?_
          refine p_getI e_M_doer_65 sh_154 fl_M_99 rfl ?_
          refine g_iload_n 2 e_M_doer_68 rfl rfl ?_
          obtain ⟨h12, h⟩ := h
          refine p_iast e_M_doer_69 sh_163 h12 ?_
          refine g_aload_n 0 e_M_doer_70 rfl rfl ?_
          refine p_getR (j := 164) e_M_doer_71 sh_154 fl_M_41 rfl (rf_154_14 _) ?_
          refine g_aload_n 0 e_M_doer_74 rfl rfl ?_
          refine p_getI e_M_doer_75 sh_154 fl_M_99 rfl ?_
          refine g_iload_n 3 e_M_doer_78 rfl rfl ?_
          obtain ⟨h13, h⟩ := h
          refine p_iast e_M_doer_79 sh_164 h13 ?_
          refine g_aload_n 0 e_M_doer_80 rfl rfl ?_
          refine g_dup e_M_doer_81 rfl ?_
          refine p_getI e_M_doer_82 sh_154 fl_M_99 rfl ?_
          refine g_iconst (1 : Int32) e_M_doer_85 (by decide) ?_
          refine g_iadd e_M_doer_86 ?_
          refine p_putI e_M_doer_87 sh_154 fp_M_99 rfl rfl rfl ?_
          refine g_aload_n 0 e_M_doer_90 rfl rfl ?_
          refine p_getI e_M_doer_91 sh_154 fl_M_99 rfl ?_
          refine g_iconst (1 : Int32) e_M_doer_94 (by decide) ?_
          refine g_isub e_M_doer_95 ?_
          exact p_retI e_M_doer_96.1 rfl h
        · replace h := iteT h c10
          refine g_bipush (-4 : Int32) e_M_doer_47 (by decide) ?_
          exact p_retI e_M_doer_49.1 rfl h
      · replace h := iteF h c9
        refine g_bipush (-2 : Int32) e_M_doer_36 (by decide) ?_
        exact p_retI e_M_doer_38.1 rfl h
set_option maxHeartbeats 1000000 in
theorem s_M_feed {l1 : Int32} {v : Vv} {Q : Int32 → Vv → Prop} (h : m_M_in ((l1).toInt64) (0 : Int64) (255 : Int64) (v) (fun x1 v2 => if x1 = true then (if (v2).1 154 6 = (160 : Int32) then (Q ((-4 : Int32)) (v2)) else ((ib ((v2).1 154 6) 160) ∧ (Q ((sI (sI (v2) 157 (ix ((v2).1 154 6)) l1) 154 6 ((sI (v2) 157 (ix ((v2).1 154 6)) l1).1 154 6 + (1 : Int32))).1 154 6) (sI (sI (v2) 157 (ix ((v2).1 154 6)) l1) 154 6 ((sI (v2) 157 (ix ((v2).1 154 6)) l1).1 154 6 + (1 : Int32)))))) else (Q ((-2 : Int32)) (v2)))) : m_M_feed l1 v Q := by
  refine cp_go (Nat.le_of_ble_eq_true rfl) (by decide +kernel) ?_
  show Gp 2 M_M_feed 0 [(0, .ref (154)), (1, .int (l1))] [] v (QI Q)
  refine g_iload_n 1 e_M_feed_0 rfl rfl ?_
  refine g_i2l e_M_feed_1 ?_
  refine g_lconst (0 : Int64) e_M_feed_2 (by decide) ?_
  refine g_ldc2 (v := (255 : Int64)) (hd := e_M_feed_3) cl_M_131 ?_
  refine p_callSZ (d' := 1) (As := [.long ((l1).toInt64), .long ((0 : Int64)), .long ((255 : Int64))]) (rest := []) e_M_feed_6 zm_M_in lS_M_95 rfl rfl (Nat.le_of_ble_eq_true rfl) (by decide) ?_
  refine cp_mono h (fun _ v2 ⟨x1, e1, h⟩ => ⟨x1, e1, ?_⟩)
  refine p_ifz_ne (tgt := 15) e_M_feed_9 rfl (fun c3 => ?_) (fun c3 => ?_)
  · replace h := iteT h c3
    refine g_aload_n 0 e_M_feed_15 rfl rfl ?_
    refine p_getI e_M_feed_16 sh_154 fl_M_133 rfl ?_
    refine g_sipush (160 : Int32) e_M_feed_19 (by decide) ?_
    refine g_icmp_ne (tgt := 28) e_M_feed_22 rfl (fun c4 => ?_) (fun c4 => ?_)
    · replace h := iteF h c4
      refine g_aload_n 0 e_M_feed_28 rfl rfl ?_
      refine p_getR (j := 157) e_M_feed_29 sh_154 fl_M_20 rfl (rf_154_5 _) ?_
      refine g_aload_n 0 e_M_feed_32 rfl rfl ?_
      refine p_getI e_M_feed_33 sh_154 fl_M_133 rfl ?_
      refine g_iload_n 1 e_M_feed_36 rfl rfl ?_
      obtain ⟨h5, h⟩ := h
      refine p_iast e_M_feed_37 sh_157 h5 ?_
      refine g_aload_n 0 e_M_feed_38 rfl rfl ?_
      refine g_dup e_M_feed_39 rfl ?_
      refine p_getI e_M_feed_40 sh_154 fl_M_133 rfl ?_
      refine g_iconst (1 : Int32) e_M_feed_43 (by decide) ?_
      refine g_iadd e_M_feed_44 ?_
      refine p_putI e_M_feed_45 sh_154 fp_M_133 rfl rfl rfl ?_
      refine g_aload_n 0 e_M_feed_48 rfl rfl ?_
      refine p_getI e_M_feed_49 sh_154 fl_M_133 rfl ?_
      exact p_retI e_M_feed_52.1 rfl h
    · replace h := iteT h c4
      refine g_bipush (-4 : Int32) e_M_feed_25 (by decide) ?_
      exact p_retI e_M_feed_27.1 rfl h
  · replace h := iteF h c3
    refine g_bipush (-2 : Int32) e_M_feed_12 (by decide) ?_
    exact p_retI e_M_feed_14.1 rfl h
set_option maxHeartbeats 1000000 in
theorem s_M_next  {v : Vv} {Q : Vv → Prop} (h : k_M_next_0  (v) Q) : m_M_next  v Q := by
  refine cp_go (Nat.le_of_ble_eq_true rfl) (by decide +kernel) ?_
  show Gp 2 M_M_next 0 [(0, .ref (154))] [] v (QV Q)
  exact g_sub [0] rfl h
set_option maxHeartbeats 1000000 in
theorem s_M_next_0  {v : Vv} {Q : Vv → Prop} (h : m_M_byteAt ((v).1 154 24) (v) (fun x1 v2 => if x1 = (32 : Int32) then (k_M_next_26  (v2) Q) else (m_M_byteAt ((v2).1 154 24) (v2) (fun x4 v5 => if x4 = (10 : Int32) then (k_M_next_26  (v5) Q) else (m_M_byteAt ((sI (v5) 154 26 ((v5).1 154 24)).1 154 24) (sI (v5) 154 26 ((v5).1 154 24)) (fun x7 v8 => if x7 < (0 : Int32) then (Q (sI (sI (sI (v8) 154 25 (4 : Int32)) 154 25 (0 : Int32)) 154 26 ((sI (sI (v8) 154 25 (4 : Int32)) 154 25 (0 : Int32)).1 154 23))) else (m_M_in ((x7).toInt64) (97 : Int64) (122 : Int64) (sI (v8) 154 25 (4 : Int32)) (fun x10 v11 => if x10 = true then (k_M_next_100  (sI (v11) 154 25 (1 : Int32)) Q) else (m_M_in ((x7).toInt64) (48 : Int64) (57 : Int64) (v11) (fun x13 v14 => if x13 = true then (k_M_next_160 ((0 : Int32)) (sJ (sI (v14) 154 25 (2 : Int32)) 154 27 (0 : Int64)) Q) else (if x7 = (40 : Int32) then (k_M_next_300 (x7) (v14) Q) else (if x7 = (41 : Int32) then (k_M_next_300 (x7) (v14) Q) else (if x7 = (59 : Int32) then (k_M_next_300 (x7) (v14) Q) else (if x7 = (43 : Int32) then (k_M_next_300 (x7) (v14) Q) else (if x7 = (45 : Int32) then (k_M_next_300 (x7) (v14) Q) else (if x7 = (42 : Int32) then (k_M_next_300 (x7) (v14) Q) else (if x7 = (60 : Int32) then (k_M_next_300 (x7) (v14) Q) else (if x7 = (61 : Int32) then (k_M_next_300 (x7) (v14) Q) else (Q (v14)))))))))))))))))))) : k_M_next_0  v Q := by
  show Gp 2 M_M_next 0 [(0, .ref (154))] [] v (QV Q)
  refine g_aload_n 0 e_M_next_0 rfl rfl ?_
  refine g_aload_n 0 e_M_next_1 rfl rfl ?_
  refine p_getI e_M_next_2 sh_154 fl_M_142 rfl ?_
  refine p_callVI (d' := 1) (ci := 10) (r := (RX10, TX10, 49)) (As := [.int ((v).1 154 24)]) (rest := []) e_M_next_5 zm_M_byteAt lV_M_145 sh_154 rfl rfl rfl rfl (Nat.le_of_ble_eq_true rfl) (by decide) ?_
  refine cp_mono h (fun _ v2 ⟨x1, e1, h⟩ => ⟨x1, e1, ?_⟩)
  refine g_bipush (32 : Int32) e_M_next_8 (by decide) ?_
  refine g_icmp_eq (tgt := 26) e_M_next_10 rfl (fun c3 => ?_) (fun c3 => ?_)
  · replace h := iteT h c3
    exact g_sub [0] rfl h
  · replace h := iteF h c3
    refine g_aload_n 0 e_M_next_13 rfl rfl ?_
    refine g_aload_n 0 e_M_next_14 rfl rfl ?_
    refine p_getI e_M_next_15 sh_154 fl_M_142 rfl ?_
    refine p_callVI (d' := 1) (ci := 10) (r := (RX10, TX10, 49)) (As := [.int ((v2).1 154 24)]) (rest := []) e_M_next_18 zm_M_byteAt lV_M_145 sh_154 rfl rfl rfl rfl (Nat.le_of_ble_eq_true rfl) (by decide) ?_
    refine cp_mono h (fun _ v5 ⟨x4, e1, h⟩ => ⟨x4, e1, ?_⟩)
    refine g_bipush (10 : Int32) e_M_next_21 (by decide) ?_
    refine g_icmp_ne (tgt := 39) e_M_next_23 rfl (fun c6 => ?_) (fun c6 => ?_)
    · replace h := iteF h c6
      refine g_aload_n 0 e_M_next_39 rfl rfl ?_
      refine g_aload_n 0 e_M_next_40 rfl rfl ?_
      refine p_getI e_M_next_41 sh_154 fl_M_142 rfl ?_
      refine p_putI e_M_next_44 sh_154 fp_M_148 rfl rfl rfl ?_
      refine g_aload_n 0 e_M_next_47 rfl rfl ?_
      refine g_aload_n 0 e_M_next_48 rfl rfl ?_
      refine p_getI e_M_next_49 sh_154 fl_M_142 rfl ?_
      refine p_callVI (d' := 1) (ci := 10) (r := (RX10, TX10, 49)) (As := [.int ((sI (v5) 154 26 ((v5).1 154 24)).1 154 24)]) (rest := []) e_M_next_52 zm_M_byteAt lV_M_145 sh_154 rfl rfl rfl rfl (Nat.le_of_ble_eq_true rfl) (by decide) ?_
      refine cp_mono h (fun _ v8 ⟨x7, e1, h⟩ => ⟨x7, e1, ?_⟩)
      refine g_istore_n (L' := [(1, .int (x7)), (0, .ref (154))]) e_M_next_55 rfl (by decide) rfl ?_
      refine g_aload_n 1 e_M_next_56 rfl rfl ?_
      refine g_iconst (4 : Int32) e_M_next_57 (by decide) ?_
      refine p_putI e_M_next_58 sh_154 fp_M_151 rfl rfl rfl ?_
      refine g_iload_n 0 e_M_next_61 rfl rfl ?_
      refine g_if_ge (tgt := 81) e_M_next_62 rfl (fun c9 => ?_) (fun c9 => ?_)
      · replace h := iteF h c9
        refine g_iload_n 0 e_M_next_81 rfl rfl ?_
        refine g_i2l e_M_next_82 ?_
        refine g_ldc2 (v := (97 : Int64)) (hd := e_M_next_83) cl_M_154 ?_
        refine g_ldc2 (v := (122 : Int64)) (hd := e_M_next_86) cl_M_156 ?_
        refine p_callSZ (d' := 1) (As := [.long ((x7).toInt64), .long ((97 : Int64)), .long ((122 : Int64))]) (rest := []) e_M_next_89 zm_M_in lS_M_95 rfl rfl (Nat.le_of_ble_eq_true rfl) (by decide) ?_
        refine cp_mono h (fun _ v11 ⟨x10, e1, h⟩ => ⟨x10, e1, ?_⟩)
        refine p_ifz_eq (tgt := 134) e_M_next_92 rfl (fun c12 => ?_) (fun c12 => ?_)
        · replace h := iteF h c12
          refine g_iload_n 0 e_M_next_134 rfl rfl ?_
          refine g_i2l e_M_next_135 ?_
          refine g_ldc2 (v := (48 : Int64)) (hd := e_M_next_136) cl_M_158 ?_
          refine g_ldc2 (v := (57 : Int64)) (hd := e_M_next_139) cl_M_160 ?_
          refine p_callSZ (d' := 1) (As := [.long ((x7).toInt64), .long ((48 : Int64)), .long ((57 : Int64))]) (rest := []) e_M_next_142 zm_M_in lS_M_95 rfl rfl (Nat.le_of_ble_eq_true rfl) (by decide) ?_
          refine cp_mono h (fun _ v14 ⟨x13, e1, h⟩ => ⟨x13, e1, ?_⟩)
          refine p_ifz_eq (tgt := 252) e_M_next_145 rfl (fun c15 => ?_) (fun c15 => ?_)
          · replace h := iteF h c15
            refine g_iload_n 0 e_M_next_252 rfl rfl ?_
            refine g_bipush (40 : Int32) e_M_next_253 (by decide) ?_
            refine g_icmp_eq (tgt := 300) e_M_next_255 rfl (fun c16 => ?_) (fun c16 => ?_)
            · replace h := iteT h c16
              exact g_sub [1, 0] rfl h
            · replace h := iteF h c16
              refine g_iload_n 0 e_M_next_258 rfl rfl ?_
              refine g_bipush (41 : Int32) e_M_next_259 (by decide) ?_
              refine g_icmp_eq (tgt := 300) e_M_next_261 rfl (fun c17 => ?_) (fun c17 => ?_)
              · replace h := iteT h c17
                exact g_sub [1, 0] rfl h
              · replace h := iteF h c17
                refine g_iload_n 0 e_M_next_264 rfl rfl ?_
                refine g_bipush (59 : Int32) e_M_next_265 (by decide) ?_
                refine g_icmp_eq (tgt := 300) e_M_next_267 rfl (fun c18 => ?_) (fun c18 => ?_)
                · replace h := iteT h c18
                  exact g_sub [1, 0] rfl h
                · replace h := iteF h c18
                  refine g_iload_n 0 e_M_next_270 rfl rfl ?_
                  refine g_bipush (43 : Int32) e_M_next_271 (by decide) ?_
                  refine g_icmp_eq (tgt := 300) e_M_next_273 rfl (fun c19 => ?_) (fun c19 => ?_)
                  · replace h := iteT h c19
                    exact g_sub [1, 0] rfl h
                  · replace h := iteF h c19
                    refine g_iload_n 0 e_M_next_276 rfl rfl ?_
                    refine g_bipush (45 : Int32) e_M_next_277 (by decide) ?_
                    refine g_icmp_eq (tgt := 300) e_M_next_279 rfl (fun c20 => ?_) (fun c20 => ?_)
                    · replace h := iteT h c20
                      exact g_sub [1, 0] rfl h
                    · replace h := iteF h c20
                      refine g_iload_n 0 e_M_next_282 rfl rfl ?_
                      refine g_bipush (42 : Int32) e_M_next_283 (by decide) ?_
                      refine g_icmp_eq (tgt := 300) e_M_next_285 rfl (fun c21 => ?_) (fun c21 => ?_)
                      · replace h := iteT h c21
                        exact g_sub [1, 0] rfl h
                      · replace h := iteF h c21
                        refine g_iload_n 0 e_M_next_288 rfl rfl ?_
                        refine g_bipush (60 : Int32) e_M_next_289 (by decide) ?_
                        refine g_icmp_eq (tgt := 300) e_M_next_291 rfl (fun c22 => ?_) (fun c22 => ?_)
                        · replace h := iteT h c22
                          exact g_sub [1, 0] rfl h
                        · replace h := iteF h c22
                          refine g_iload_n 0 e_M_next_294 rfl rfl ?_
                          refine g_bipush (61 : Int32) e_M_next_295 (by decide) ?_
                          refine g_icmp_ne (tgt := 321) e_M_next_297 rfl (fun c23 => ?_) (fun c23 => ?_)
                          · replace h := iteF h c23
                            exact p_retV e_M_next_321.1 rfl h
                          · replace h := iteT h c23
                            exact g_sub [1, 0] rfl h
          · replace h := iteT h c15
            refine g_aload_n 1 e_M_next_148 rfl rfl ?_
            refine g_iconst (2 : Int32) e_M_next_149 (by decide) ?_
            refine p_putI e_M_next_150 sh_154 fp_M_151 rfl rfl rfl ?_
            refine g_aload_n 1 e_M_next_153 rfl rfl ?_
            refine g_lconst (0 : Int64) e_M_next_154 (by decide) ?_
            refine p_putJ e_M_next_155 sh_154 fp_M_162 rfl ?_
            refine g_iconst (0 : Int32) e_M_next_158 (by decide) ?_
            refine g_istore_n (L' := [(2, .int ((0 : Int32))), (1, .int (x7)), (0, .ref (154))]) e_M_next_159 rfl (by decide) rfl ?_
            exact g_sub [2, 0] rfl h
        · replace h := iteT h c12
          refine g_aload_n 1 e_M_next_95 rfl rfl ?_
          refine g_iconst (1 : Int32) e_M_next_96 (by decide) ?_
          refine p_putI e_M_next_97 sh_154 fp_M_151 rfl rfl rfl ?_
          exact g_sub [1] rfl h
      · replace h := iteT h c9
        refine g_aload_n 1 e_M_next_65 rfl rfl ?_
        refine g_iconst (0 : Int32) e_M_next_66 (by decide) ?_
        refine p_putI e_M_next_67 sh_154 fp_M_151 rfl rfl rfl ?_
        refine g_aload_n 1 e_M_next_70 rfl rfl ?_
        refine g_aload_n 1 e_M_next_71 rfl rfl ?_
        refine p_getI e_M_next_72 sh_154 fl_M_136 rfl ?_
        refine p_putI e_M_next_75 sh_154 fp_M_148 rfl rfl rfl ?_
        refine g_goto (tgt := 321) e_M_next_78 rfl ?_
        exact p_retV e_M_next_321.1 rfl h
    · replace h := iteT h c6
      exact g_sub [0] rfl h
set_option maxHeartbeats 1000000 in
theorem s_M_next_26  {v : Vv} {Q : Vv → Prop} (h : k_M_next_0  (sI (v) 154 24 ((v).1 154 24 + (1 : Int32))) Q) : k_M_next_26  v Q := by
  show Gp 2 M_M_next 26 [(0, .ref (154))] [] v (QV Q)
  refine g_aload_n 0 e_M_next_26 rfl rfl ?_
  refine g_dup e_M_next_27 rfl ?_
  refine p_getI e_M_next_28 sh_154 fl_M_142 rfl ?_
  refine g_iconst (1 : Int32) e_M_next_31 (by decide) ?_
  refine g_iadd e_M_next_32 ?_
  refine p_putI e_M_next_33 sh_154 fp_M_142 rfl rfl rfl ?_
  refine g_goto (tgt := 0) e_M_next_36 rfl ?_
  exact g_sub [0] rfl h
set_option maxHeartbeats 1000000 in
theorem s_M_next_100  {v : Vv} {Q : Vv → Prop} (h : m_M_byteAt ((v).1 154 24) (v) (fun x24 v25 => m_M_in ((x24).toInt64) (97 : Int64) (122 : Int64) (v25) (fun x26 v27 => if x26 = true then (k_M_next_100  (sI (v27) 154 24 ((v27).1 154 24 + (1 : Int32))) Q) else (Q (v27))))) : k_M_next_100  v Q := by
  show Gp 2 M_M_next 100 [(0, .ref (154))] [] v (QV Q)
  refine g_aload_n 0 e_M_next_100 rfl rfl ?_
  refine g_aload_n 0 e_M_next_101 rfl rfl ?_
  refine p_getI e_M_next_102 sh_154 fl_M_142 rfl ?_
  refine p_callVI (d' := 1) (ci := 10) (r := (RX10, TX10, 49)) (As := [.int ((v).1 154 24)]) (rest := []) e_M_next_105 zm_M_byteAt lV_M_145 sh_154 rfl rfl rfl rfl (Nat.le_of_ble_eq_true rfl) (by decide) ?_
  refine cp_mono h (fun _ v25 ⟨x24, e1, h⟩ => ⟨x24, e1, ?_⟩)
  refine g_i2l e_M_next_108 ?_
  refine g_ldc2 (v := (97 : Int64)) (hd := e_M_next_109) cl_M_154 ?_
  refine g_ldc2 (v := (122 : Int64)) (hd := e_M_next_112) cl_M_156 ?_
  refine p_callSZ (d' := 1) (As := [.long ((x24).toInt64), .long ((97 : Int64)), .long ((122 : Int64))]) (rest := []) e_M_next_115 zm_M_in lS_M_95 rfl rfl (Nat.le_of_ble_eq_true rfl) (by decide) ?_
  refine cp_mono h (fun _ v27 ⟨x26, e1, h⟩ => ⟨x26, e1, ?_⟩)
  refine p_ifz_eq (tgt := 321) e_M_next_118 rfl (fun c28 => ?_) (fun c28 => ?_)
  · replace h := iteF h c28
    exact p_retV e_M_next_321.1 rfl h
  · replace h := iteT h c28
    refine g_aload_n 0 e_M_next_121 rfl rfl ?_
    refine g_dup e_M_next_122 rfl ?_
    refine p_getI e_M_next_123 sh_154 fl_M_142 rfl ?_
    refine g_iconst (1 : Int32) e_M_next_126 (by decide) ?_
    refine g_iadd e_M_next_127 ?_
    refine p_putI e_M_next_128 sh_154 fp_M_142 rfl rfl rfl ?_
    refine g_goto (tgt := 100) e_M_next_131 rfl ?_
    exact g_sub [0] rfl h
set_option maxHeartbeats 1000000 in
theorem s_M_next_160 {l2 : Int32} {v : Vv} {Q : Vv → Prop} (h : m_M_byteAt ((v).1 154 24) (v) (fun x29 v30 => m_M_in ((x29).toInt64) (48 : Int64) (57 : Int64) (v30) (fun x31 v32 => if x31 = true then (if l2 < (4 : Int32) then (m_M_byteAt ((v32).1 154 24) (v32) (fun x35 v36 => k_M_next_216 (l2) (((((10 : Int64) * (v32).2.1 154 27) + (x35).toInt64) - (48 : Int64))) (v36) Q)) else (k_M_next_216 (l2) ((v32).2.1 154 27) (v32) Q)) else (Q (sI (v32) 154 25 (if (4 : Int32) < l2 then (4 : Int32) else (2 : Int32))))))) : k_M_next_160 l2 v Q := by
  show Gp 2 M_M_next 160 [(0, .ref (154)), (2, .int (l2))] [] v (QV Q)
  refine g_aload_n 0 e_M_next_160 rfl rfl ?_
  refine g_aload_n 0 e_M_next_161 rfl rfl ?_
  refine p_getI e_M_next_162 sh_154 fl_M_142 rfl ?_
  refine p_callVI (d' := 1) (ci := 10) (r := (RX10, TX10, 49)) (As := [.int ((v).1 154 24)]) (rest := []) e_M_next_165 zm_M_byteAt lV_M_145 sh_154 rfl rfl rfl rfl (Nat.le_of_ble_eq_true rfl) (by decide) ?_
  refine cp_mono h (fun _ v30 ⟨x29, e1, h⟩ => ⟨x29, e1, ?_⟩)
  refine g_i2l e_M_next_168 ?_
  refine g_ldc2 (v := (48 : Int64)) (hd := e_M_next_169) cl_M_158 ?_
  refine g_ldc2 (v := (57 : Int64)) (hd := e_M_next_172) cl_M_160 ?_
  refine p_callSZ (d' := 1) (As := [.long ((x29).toInt64), .long ((48 : Int64)), .long ((57 : Int64))]) (rest := []) e_M_next_175 zm_M_in lS_M_95 rfl rfl (Nat.le_of_ble_eq_true rfl) (by decide) ?_
  refine cp_mono h (fun _ v32 ⟨x31, e1, h⟩ => ⟨x31, e1, ?_⟩)
  refine p_ifz_eq (tgt := 235) e_M_next_178 rfl (fun c33 => ?_) (fun c33 => ?_)
  · replace h := iteF h c33
    refine g_aload_n 0 e_M_next_235 rfl rfl ?_
    refine g_iload_n 1 e_M_next_236 rfl rfl ?_
    refine g_iconst (4 : Int32) e_M_next_237 (by decide) ?_
    have hj : ∀ m0 : Int32, m0 = (if (4 : Int32) < l2 then (4 : Int32) else (2 : Int32)) → Gp 2 M_M_next 246 [(0, .ref (154)), (2, .int (l2))] [.int (m0), .ref (154)] (v32) (QV Q) := by
      intro m0 hm0
      subst hm0
      refine p_putI e_M_next_246 sh_154 fp_M_151 rfl rfl rfl ?_
      refine g_goto (tgt := 321) e_M_next_249 rfl ?_
      exact p_retV e_M_next_321.1 rfl h
    refine g_icmp_le (tgt := 245) e_M_next_238 rfl (fun c37 => ?_) (fun c37 => ?_)
    · refine g_iconst (2 : Int32) e_M_next_245 (by decide) ?_
      exact hj ((2 : Int32)) (by simp only [if_neg c37])
    · refine g_iconst (4 : Int32) e_M_next_241 (by decide) ?_
      refine g_goto (tgt := 246) e_M_next_242 rfl ?_
      exact hj ((4 : Int32)) (by simp only [if_pos c37])
  · replace h := iteT h c33
    refine g_aload_n 0 e_M_next_181 rfl rfl ?_
    refine g_iload_n 1 e_M_next_182 rfl rfl ?_
    refine g_iconst (4 : Int32) e_M_next_183 (by decide) ?_
    refine g_icmp_ge (tgt := 212) e_M_next_184 rfl (fun c34 => ?_) (fun c34 => ?_)
    · replace h := iteF h c34
      refine g_aload_n 0 e_M_next_212 rfl rfl ?_
      refine p_getJ e_M_next_213 sh_154 fl_M_162 rfl ?_
      exact g_sub [0, 1] rfl h
    · replace h := iteT h c34
      refine g_ldc2 (v := (10 : Int64)) (hd := e_M_next_187) cl_M_166 ?_
      refine g_aload_n 0 e_M_next_190 rfl rfl ?_
      refine p_getJ e_M_next_191 sh_154 fl_M_162 rfl ?_
      refine g_lmul e_M_next_194 ?_
      refine g_aload_n 0 e_M_next_195 rfl rfl ?_
      refine g_aload_n 0 e_M_next_196 rfl rfl ?_
      refine p_getI e_M_next_197 sh_154 fl_M_142 rfl ?_
      refine p_callVI (d' := 1) (ci := 10) (r := (RX10, TX10, 49)) (As := [.int ((v32).1 154 24)]) (rest := [.long (((10 : Int64) * (v32).2.1 154 27)), .ref (154)]) e_M_next_200 zm_M_byteAt lV_M_145 sh_154 rfl rfl rfl rfl (Nat.le_of_ble_eq_true rfl) (by decide) ?_
      refine cp_mono h (fun _ v36 ⟨x35, e1, h⟩ => ⟨x35, e1, ?_⟩)
      refine g_i2l e_M_next_203 ?_
      refine g_ladd e_M_next_204 ?_
      refine g_ldc2 (v := (48 : Int64)) (hd := e_M_next_205) cl_M_158 ?_
      refine g_lsub e_M_next_208 ?_
      refine g_goto (tgt := 216) e_M_next_209 rfl ?_
      exact g_sub [0, 1] rfl h
set_option maxHeartbeats 1000000 in
theorem s_M_next_300 {l1 : Int32} {v : Vv} {Q : Vv → Prop} (h : Q (sI (sJ (sI (v) 154 25 (3 : Int32)) 154 27 ((l1).toInt64)) 154 24 ((sJ (sI (v) 154 25 (3 : Int32)) 154 27 ((l1).toInt64)).1 154 24 + (1 : Int32)))) : k_M_next_300 l1 v Q := by
  show Gp 2 M_M_next 300 [(0, .ref (154)), (1, .int (l1))] [] v (QV Q)
  refine g_aload_n 0 e_M_next_300 rfl rfl ?_
  refine g_iconst (3 : Int32) e_M_next_301 (by decide) ?_
  refine p_putI e_M_next_302 sh_154 fp_M_151 rfl rfl rfl ?_
  refine g_aload_n 0 e_M_next_305 rfl rfl ?_
  refine g_iload_n 1 e_M_next_306 rfl rfl ?_
  refine g_i2l e_M_next_307 ?_
  refine p_putJ e_M_next_308 sh_154 fp_M_162 rfl ?_
  refine g_aload_n 0 e_M_next_311 rfl rfl ?_
  refine g_dup e_M_next_312 rfl ?_
  refine p_getI e_M_next_313 sh_154 fl_M_142 rfl ?_
  refine g_iconst (1 : Int32) e_M_next_316 (by decide) ?_
  refine g_iadd e_M_next_317 ?_
  refine p_putI e_M_next_318 sh_154 fp_M_142 rfl rfl rfl ?_
  exact p_retV e_M_next_321.1 rfl h
set_option maxHeartbeats 1000000 in
theorem s_M_next_216 {l2 : Int32} {t0 : Int64} {v : Vv} {Q : Vv → Prop} (h : k_M_next_160 ((l2 + (1 : Int32))) (sI (sJ (v) 154 27 t0) 154 24 ((sJ (v) 154 27 t0).1 154 24 + (1 : Int32))) Q) : k_M_next_216 l2 t0 v Q := by
  show Gp 2 M_M_next 216 [(0, .ref (154)), (2, .int (l2))] [.long (t0), .ref (154)] v (QV Q)
  refine p_putJ e_M_next_216 sh_154 fp_M_162 rfl ?_
  refine g_iinc (v := (l2 + (1 : Int32))) (L' := [(2, .int ((l2 + (1 : Int32)))), (0, .ref (154))]) 1 e_M_next_219 rfl rfl (by decide) rfl ?_
  refine g_aload_n 1 e_M_next_222 rfl rfl ?_
  refine g_dup e_M_next_223 rfl ?_
  refine p_getI e_M_next_224 sh_154 fl_M_142 rfl ?_
  refine g_iconst (1 : Int32) e_M_next_227 (by decide) ?_
  refine g_iadd e_M_next_228 ?_
  refine p_putI e_M_next_229 sh_154 fp_M_142 rfl rfl rfl ?_
  refine g_goto (tgt := 160) e_M_next_232 rfl ?_
  exact g_sub [1, 0] rfl h
set_option maxHeartbeats 1000000 in
theorem s_M_isLetter {l1 : Int32} {l2 : Int32} {v : Vv} {Q : Bool → Vv → Prop} (h : if ((v).1 154 26 + l1) < (v).1 154 24 then (m_M_byteAt ((v).1 154 26 + l1) (v) (fun x2 v3 => Q ((if x2 = l2 then true else false)) (v3))) else (Q ((if l2 = (0 : Int32) then true else false)) (v))) : m_M_isLetter l1 l2 v Q := by
  refine cp_go (Nat.le_of_ble_eq_true rfl) (by decide +kernel) ?_
  show Gp 2 M_M_isLetter 0 [(0, .ref (154)), (1, .int (l1)), (2, .int (l2))] [] v (QZ Q)
  refine g_aload_n 0 e_M_isLetter_0 rfl rfl ?_
  refine p_getI e_M_isLetter_1 sh_154 fl_M_148 rfl ?_
  refine g_iload_n 1 e_M_isLetter_4 rfl rfl ?_
  refine g_iadd e_M_isLetter_5 ?_
  refine g_aload_n 0 e_M_isLetter_6 rfl rfl ?_
  refine p_getI e_M_isLetter_7 sh_154 fl_M_142 rfl ?_
  refine g_icmp_ge (tgt := 35) e_M_isLetter_10 rfl (fun c1 => ?_) (fun c1 => ?_)
  · replace h := iteF h c1
    refine g_iload_n 2 e_M_isLetter_35 rfl rfl ?_
    have hj : ∀ m0 : Bool, m0 = (if l2 = (0 : Int32) then true else false) → Gp 2 M_M_isLetter 44 [(0, .ref (154)), (1, .int (l1)), (2, .int (l2))] [.int (bI (m0))] (v) (QZ Q) := by
      intro m0 hm0
      subst hm0
      exact p_retZ e_M_isLetter_44.1 rfl h
    refine g_if_ne (tgt := 43) e_M_isLetter_36 rfl (fun c5 => ?_) (fun c5 => ?_)
    · refine g_iconst (0 : Int32) e_M_isLetter_43 (by decide) ?_
      exact hj (false) (by simp only [if_neg c5])
    · refine g_iconst (1 : Int32) e_M_isLetter_39 (by decide) ?_
      refine g_goto (tgt := 44) e_M_isLetter_40 rfl ?_
      exact hj (true) (by simp only [if_pos c5])
  · replace h := iteT h c1
    refine g_aload_n 0 e_M_isLetter_13 rfl rfl ?_
    refine g_aload_n 0 e_M_isLetter_14 rfl rfl ?_
    refine p_getI e_M_isLetter_15 sh_154 fl_M_148 rfl ?_
    refine g_iload_n 1 e_M_isLetter_18 rfl rfl ?_
    refine g_iadd e_M_isLetter_19 ?_
    refine p_callVI (d' := 1) (ci := 10) (r := (RX10, TX10, 49)) (As := [.int (((v).1 154 26 + l1))]) (rest := []) e_M_isLetter_20 zm_M_byteAt lV_M_145 sh_154 rfl rfl rfl rfl (Nat.le_of_ble_eq_true rfl) (by decide) ?_
    refine cp_mono h (fun _ v3 ⟨x2, e1, h⟩ => ⟨x2, e1, ?_⟩)
    refine g_iload_n 2 e_M_isLetter_23 rfl rfl ?_
    have hj : ∀ m0 : Bool, m0 = (if x2 = l2 then true else false) → Gp 2 M_M_isLetter 44 [(0, .ref (154)), (1, .int (l1)), (2, .int (l2))] [.int (bI (m0))] (v3) (QZ Q) := by
      intro m0 hm0
      subst hm0
      exact p_retZ e_M_isLetter_44.1 rfl h
    refine g_icmp_ne (tgt := 31) e_M_isLetter_24 rfl (fun c4 => ?_) (fun c4 => ?_)
    · refine g_iconst (0 : Int32) e_M_isLetter_31 (by decide) ?_
      refine g_goto (tgt := 44) e_M_isLetter_32 rfl ?_
      exact hj (false) (by simp only [if_neg c4])
    · refine g_iconst (1 : Int32) e_M_isLetter_27 (by decide) ?_
      refine g_goto (tgt := 44) e_M_isLetter_28 rfl ?_
      exact hj (true) (by simp only [if_pos c4])
set_option maxHeartbeats 1000000 in
theorem s_M_force {l1 : Int32} {v : Vv} {Q : Int32 → Vv → Prop} (h : m_M_in ((l1).toInt64) (0 : Int64) ((((v).1 154 3 - (1 : Int32))).toInt64) (v) (fun x1 v2 => if x1 = true then (Q ((v2).1 154 4) (sI (v2) 154 4 l1)) else (Q ((-2 : Int32)) (v2)))) : m_M_force l1 v Q := by
  refine cp_go (Nat.le_of_ble_eq_true rfl) (by decide +kernel) ?_
  show Gp 2 M_M_force 0 [(0, .ref (154)), (1, .int (l1))] [] v (QI Q)
  refine g_iload_n 1 e_M_force_0 rfl rfl ?_
  refine g_i2l e_M_force_1 ?_
  refine g_lconst (0 : Int64) e_M_force_2 (by decide) ?_
  refine g_aload_n 0 e_M_force_3 rfl rfl ?_
  refine p_getI e_M_force_4 sh_154 fl_M_89 rfl ?_
  refine g_iconst (1 : Int32) e_M_force_7 (by decide) ?_
  refine g_isub e_M_force_8 ?_
  refine g_i2l e_M_force_9 ?_
  refine p_callSZ (d' := 1) (As := [.long ((l1).toInt64), .long ((0 : Int64)), .long ((((v).1 154 3 - (1 : Int32))).toInt64)]) (rest := []) e_M_force_10 zm_M_in lS_M_95 rfl rfl (Nat.le_of_ble_eq_true rfl) (by decide) ?_
  refine cp_mono h (fun _ v2 ⟨x1, e1, h⟩ => ⟨x1, e1, ?_⟩)
  refine p_ifz_ne (tgt := 19) e_M_force_13 rfl (fun c3 => ?_) (fun c3 => ?_)
  · replace h := iteT h c3
    refine g_aload_n 0 e_M_force_19 rfl rfl ?_
    refine p_getI e_M_force_20 sh_154 fl_M_340 rfl ?_
    refine g_istore_n (L' := [(2, .int ((v2).1 154 4)), (0, .ref (154)), (1, .int (l1))]) e_M_force_23 rfl (by decide) rfl ?_
    refine g_aload_n 1 e_M_force_24 rfl rfl ?_
    refine g_iload_n 2 e_M_force_25 rfl rfl ?_
    refine p_putI e_M_force_26 sh_154 fp_M_340 rfl rfl rfl ?_
    refine g_iload_n 0 e_M_force_29 rfl rfl ?_
    exact p_retI e_M_force_30.1 rfl h
  · replace h := iteF h c3
    refine g_bipush (-2 : Int32) e_M_force_16 (by decide) ?_
    exact p_retI e_M_force_18.1 rfl h
set_option maxHeartbeats 1000000 in
theorem s_M_times  {v : Vv} {Q : Int32 → Vv → Prop} (h : k_M_times_14 ((0 : Int32)) ((0 : Int32)) (sJ (sI (v) 154 38 (-1 : Int32)) 154 39 (0 : Int64)) Q) : m_M_times  v Q := by
  refine cp_go (Nat.le_of_ble_eq_true rfl) (by decide +kernel) ?_
  show Gp 2 M_M_times 0 [(0, .ref (154))] [] v (QI Q)
  refine g_iconst (0 : Int32) e_M_times_0 (by decide) ?_
  refine g_istore_n (L' := [(1, .int ((0 : Int32))), (0, .ref (154))]) e_M_times_1 rfl (by decide) rfl ?_
  refine g_aload_n 1 e_M_times_2 rfl rfl ?_
  refine g_iconst (-1 : Int32) e_M_times_3 (by decide) ?_
  refine p_putI e_M_times_4 sh_154 fp_M_393 rfl rfl rfl ?_
  refine g_aload_n 1 e_M_times_7 rfl rfl ?_
  refine g_lconst (0 : Int64) e_M_times_8 (by decide) ?_
  refine p_putJ e_M_times_9 sh_154 fp_M_396 rfl ?_
  refine g_iconst (0 : Int32) e_M_times_12 (by decide) ?_
  refine g_istore_n (L' := [(2, .int ((0 : Int32))), (1, .int ((0 : Int32))), (0, .ref (154))]) e_M_times_13 rfl (by decide) rfl ?_
  exact g_sub [2, 1, 0] rfl h
set_option maxHeartbeats 1000000 in
theorem s_M_times_14 {l1 : Int32} {l2 : Int32} {v : Vv} {Q : Int32 → Vv → Prop} (h : m_M_worlds  (v) (fun x1 v2 => if l2 < x1 then ((ib (l2) 32) ∧ (if (v2).1 170 (ix (l2)) = (-1 : Int32) then (k_M_times_181 (l1) (l2) (v2) Q) else (if (0 : Int64) < (v2).2.1 167 (ix (l2)) then (k_M_times_51 (l1) (l2) ((0 : Int64)) ((1 : Int32)) ((0 : Int32)) (v2) Q) else (k_M_times_181 (l1) (l2) (v2) Q)))) else (Q (l1) (v2)))) : k_M_times_14 l1 l2 v Q := by
  show Gp 2 M_M_times 14 [(0, .ref (154)), (1, .int (l1)), (2, .int (l2))] [] v (QI Q)
  refine g_iload_n 2 e_M_times_14 rfl rfl ?_
  refine g_aload_n 0 e_M_times_15 rfl rfl ?_
  refine p_callVI (d' := 1) (ci := 10) (r := (RX10, TX10, 49)) (As := []) (rest := [.int (l2)]) e_M_times_16 zm_M_worlds lV_M_371 sh_154 rfl rfl rfl rfl (Nat.le_of_ble_eq_true rfl) (by decide) ?_
  refine cp_mono h (fun _ v2 ⟨x1, e1, h⟩ => ⟨x1, e1, ?_⟩)
  refine g_icmp_ge (tgt := 187) e_M_times_19 rfl (fun c3 => ?_) (fun c3 => ?_)
  · replace h := iteF h c3
    refine g_iload_n 1 e_M_times_187 rfl rfl ?_
    exact p_retI e_M_times_188.1 rfl h
  · replace h := iteT h c3
    refine g_aload_n 0 e_M_times_22 rfl rfl ?_
    refine p_getR (j := 170) e_M_times_23 sh_154 fl_M_60 rfl (rf_154_36 _) ?_
    refine g_iload_n 2 e_M_times_26 rfl rfl ?_
    obtain ⟨h4, h⟩ := h
    refine p_iald e_M_times_27 sh_170 h4 ?_
    refine g_iconst (-1 : Int32) e_M_times_28 (by decide) ?_
    refine g_icmp_eq (tgt := 181) e_M_times_29 rfl (fun c5 => ?_) (fun c5 => ?_)
    · replace h := iteT h c5
      exact g_sub [0, 1, 2] rfl h
    · replace h := iteF h c5
      refine g_aload_n 0 e_M_times_32 rfl rfl ?_
      refine p_getR (j := 167) e_M_times_33 sh_154 fl_M_50 rfl (rf_154_33 _) ?_
      refine g_iload_n 2 e_M_times_36 rfl rfl ?_
      refine p_lald e_M_times_37 sh_167 h4 ?_
      refine g_lconst (0 : Int64) e_M_times_38 (by decide) ?_
      refine g_l_le (tgt := 181) e_M_times_39 e_M_times_40 rfl (fun c6 => ?_) (fun c6 => ?_)
      · replace h := iteF h c6
        exact g_sub [0, 1, 2] rfl h
      · replace h := iteT h c6
        refine g_lconst (0 : Int64) e_M_times_43 (by decide) ?_
        refine g_lstore_n (L' := [(3, .long ((0 : Int64))), (0, .ref (154)), (1, .int (l1)), (2, .int (l2))]) e_M_times_44 rfl (by decide) rfl ?_
        refine g_iconst (1 : Int32) e_M_times_45 (by decide) ?_
        refine g_istore (L' := [(5, .int ((1 : Int32))), (3, .long ((0 : Int64))), (0, .ref (154)), (1, .int (l1)), (2, .int (l2))]) e_M_times_46 (by decide) rfl ?_
        refine g_iconst (0 : Int32) e_M_times_48 (by decide) ?_
        refine g_istore (L' := [(6, .int ((0 : Int32))), (5, .int ((1 : Int32))), (3, .long ((0 : Int64))), (0, .ref (154)), (1, .int (l1)), (2, .int (l2))]) e_M_times_49 (by decide) rfl ?_
        exact g_sub [3, 4, 5, 2, 1, 0] rfl h
set_option maxHeartbeats 1000000 in
theorem s_M_times_181 {l1 : Int32} {l2 : Int32} {v : Vv} {Q : Int32 → Vv → Prop} (h : k_M_times_14 (l1) ((l2 + (1 : Int32))) (v) Q) : k_M_times_181 l1 l2 v Q := by
  show Gp 2 M_M_times 181 [(0, .ref (154)), (1, .int (l1)), (2, .int (l2))] [] v (QI Q)
  refine g_iinc (v := (l2 + (1 : Int32))) (L' := [(2, .int ((l2 + (1 : Int32)))), (0, .ref (154)), (1, .int (l1))]) 2 e_M_times_181 rfl rfl (by decide) rfl ?_
  refine g_goto (tgt := 14) e_M_times_184 rfl ?_
  exact g_sub [1, 2, 0] rfl h
set_option maxHeartbeats 1000000 in
theorem s_M_times_51 {l1 : Int32} {l2 : Int32} {l3 : Int64} {l5 : Int32} {l6 : Int32} {v : Vv} {Q : Int32 → Vv → Prop} (h : m_M_worlds  (v) (fun x7 v8 => if l6 < x7 then ((ib (l6) 32) ∧ ((ib (l2) 32) ∧ (if (v8).1 170 (ix (l6)) = (v8).1 170 (ix (l2)) then (if (0 : Int64) < (v8).2.1 167 (ix (l6)) then (k_M_times_116 (l1) (l2) ((l3 + (v8).2.1 167 (ix (l6)))) (bI ((if l5 = (0 : Int32) then false else (if l6 < l2 then false else true)))) (l6) (v8) Q) else (k_M_times_116 (l1) (l2) (l3) (l5) (l6) (v8) Q)) else (k_M_times_116 (l1) (l2) (l3) (l5) (l6) (v8) Q)))) else (if (v8).2.1 154 39 < l3 then (k_M_times_166 ((l1 + bI ((if l5 = (0 : Int32) then false else true)))) (l2) (l3) (v8) Q) else (if l3 = (v8).2.1 154 39 then ((ib (l2) 32) ∧ (if (v8).1 170 (ix (l2)) < (v8).1 154 38 then (k_M_times_166 ((l1 + bI ((if l5 = (0 : Int32) then false else true)))) (l2) (l3) (v8) Q) else (k_M_times_181 ((l1 + bI ((if l5 = (0 : Int32) then false else true)))) (l2) (v8) Q))) else (k_M_times_181 ((l1 + bI ((if l5 = (0 : Int32) then false else true)))) (l2) (v8) Q))))) : k_M_times_51 l1 l2 l3 l5 l6 v Q := by
  show Gp 2 M_M_times 51 [(0, .ref (154)), (1, .int (l1)), (2, .int (l2)), (3, .long (l3)), (5, .int (l5)), (6, .int (l6))] [] v (QI Q)
  refine g_iload 5 e_M_times_51 rfl ?_
  refine g_aload_n 0 e_M_times_53 rfl rfl ?_
  refine p_callVI (d' := 1) (ci := 10) (r := (RX10, TX10, 49)) (As := []) (rest := [.int (l6)]) e_M_times_54 zm_M_worlds lV_M_371 sh_154 rfl rfl rfl rfl (Nat.le_of_ble_eq_true rfl) (by decide) ?_
  refine cp_mono h (fun _ v8 ⟨x7, e1, h⟩ => ⟨x7, e1, ?_⟩)
  refine g_icmp_ge (tgt := 122) e_M_times_57 rfl (fun c9 => ?_) (fun c9 => ?_)
  · replace h := iteF h c9
    refine g_iload_n 1 e_M_times_122 rfl rfl ?_
    refine g_iload 4 e_M_times_123 rfl ?_
    have hj : ∀ m0 : Bool, m0 = (if l5 = (0 : Int32) then false else true) → Gp 2 M_M_times 133 [(0, .ref (154)), (1, .int (l1)), (2, .int (l2)), (3, .long (l3)), (5, .int (l5)), (6, .int (l6))] [.int (bI (m0)), .int (l1)] (v8) (QI Q) := by
      intro m0 hm0
      subst hm0
      refine g_iadd e_M_times_133 ?_
      refine g_istore_n (L' := [(1, .int ((l1 + bI ((if l5 = (0 : Int32) then false else true))))), (0, .ref (154)), (2, .int (l2)), (3, .long (l3)), (5, .int (l5)), (6, .int (l6))]) e_M_times_134 rfl (by decide) rfl ?_
      refine g_lload_n 3 e_M_times_135 rfl rfl ?_
      refine g_aload_n 1 e_M_times_136 rfl rfl ?_
      refine p_getJ e_M_times_137 sh_154 fl_M_396 rfl ?_
      refine g_l_gt (tgt := 166) e_M_times_140 e_M_times_141 rfl (fun c17 => ?_) (fun c17 => ?_)
      · replace h := iteT h c17
        exact g_sub [1, 0, 2, 3] rfl h
      · replace h := iteF h c17
        refine g_lload_n 3 e_M_times_144 rfl rfl ?_
        refine g_aload_n 1 e_M_times_145 rfl rfl ?_
        refine p_getJ e_M_times_146 sh_154 fl_M_396 rfl ?_
        refine g_l_ne (tgt := 181) e_M_times_149 e_M_times_150 rfl (fun c18 => ?_) (fun c18 => ?_)
        · replace h := iteF h c18
          exact g_sub [1, 0, 2] rfl h
        · replace h := iteT h c18
          refine g_aload_n 1 e_M_times_153 rfl rfl ?_
          refine p_getR (j := 170) e_M_times_154 sh_154 fl_M_60 rfl (rf_154_36 _) ?_
          refine g_iload_n 2 e_M_times_157 rfl rfl ?_
          obtain ⟨h19, h⟩ := h
          refine p_iald e_M_times_158 sh_170 h19 ?_
          refine g_aload_n 1 e_M_times_159 rfl rfl ?_
          refine p_getI e_M_times_160 sh_154 fl_M_393 rfl ?_
          refine g_icmp_ge (tgt := 181) e_M_times_163 rfl (fun c20 => ?_) (fun c20 => ?_)
          · replace h := iteF h c20
            exact g_sub [1, 0, 2] rfl h
          · replace h := iteT h c20
            exact g_sub [1, 0, 2, 3] rfl h
    refine g_if_eq (tgt := 132) e_M_times_125 rfl (fun c16 => ?_) (fun c16 => ?_)
    · refine g_iconst (0 : Int32) e_M_times_132 (by decide) ?_
      exact hj (false) (by simp only [if_pos c16])
    · refine g_iconst (1 : Int32) e_M_times_128 (by decide) ?_
      refine g_goto (tgt := 133) e_M_times_129 rfl ?_
      exact hj (true) (by simp only [if_neg c16])
  · replace h := iteT h c9
    refine g_aload_n 0 e_M_times_60 rfl rfl ?_
    refine p_getR (j := 170) e_M_times_61 sh_154 fl_M_60 rfl (rf_154_36 _) ?_
    refine g_iload 5 e_M_times_64 rfl ?_
    obtain ⟨h10, h⟩ := h
    refine p_iald e_M_times_66 sh_170 h10 ?_
    refine g_aload_n 0 e_M_times_67 rfl rfl ?_
    refine p_getR (j := 170) e_M_times_68 sh_154 fl_M_60 rfl (rf_154_36 _) ?_
    refine g_iload_n 2 e_M_times_71 rfl rfl ?_
    obtain ⟨h11, h⟩ := h
    refine p_iald e_M_times_72 sh_170 h11 ?_
    refine g_icmp_ne (tgt := 116) e_M_times_73 rfl (fun c12 => ?_) (fun c12 => ?_)
    · replace h := iteF h c12
      exact g_sub [0, 1, 2, 3, 4, 5] rfl h
    · replace h := iteT h c12
      refine g_aload_n 0 e_M_times_76 rfl rfl ?_
      refine p_getR (j := 167) e_M_times_77 sh_154 fl_M_50 rfl (rf_154_33 _) ?_
      refine g_iload 5 e_M_times_80 rfl ?_
      refine p_lald e_M_times_82 sh_167 h10 ?_
      refine g_lconst (0 : Int64) e_M_times_83 (by decide) ?_
      refine g_l_le (tgt := 116) e_M_times_84 e_M_times_85 rfl (fun c13 => ?_) (fun c13 => ?_)
      · replace h := iteF h c13
        exact g_sub [0, 1, 2, 3, 4, 5] rfl h
      · replace h := iteT h c13
        refine g_lload_n 3 e_M_times_88 rfl rfl ?_
        refine g_aload_n 0 e_M_times_89 rfl rfl ?_
        refine p_getR (j := 167) e_M_times_90 sh_154 fl_M_50 rfl (rf_154_33 _) ?_
        refine g_iload 5 e_M_times_93 rfl ?_
        refine p_lald e_M_times_95 sh_167 h10 ?_
        refine g_ladd e_M_times_96 ?_
        refine g_lstore_n (L' := [(3, .long ((l3 + (v8).2.1 167 (ix (l6))))), (0, .ref (154)), (1, .int (l1)), (2, .int (l2)), (5, .int (l5)), (6, .int (l6))]) e_M_times_97 rfl (by decide) rfl ?_
        refine g_iload 4 e_M_times_98 rfl ?_
        have hj : ∀ m0 : Bool, m0 = (if l5 = (0 : Int32) then false else (if l6 < l2 then false else true)) → Gp 2 M_M_times 114 [(0, .ref (154)), (1, .int (l1)), (2, .int (l2)), (3, .long ((l3 + (v8).2.1 167 (ix (l6))))), (5, .int (l5)), (6, .int (l6))] [.int (bI (m0))] (v8) (QI Q) := by
          intro m0 hm0
          subst hm0
          refine g_istore (L' := [(5, .int (bI ((if l5 = (0 : Int32) then false else (if l6 < l2 then false else true))))), (0, .ref (154)), (1, .int (l1)), (2, .int (l2)), (3, .long ((l3 + (v8).2.1 167 (ix (l6))))), (6, .int (l6))]) e_M_times_114 (by decide) rfl ?_
          exact g_sub [1, 2, 3, 4, 0, 5] rfl h
        refine g_if_eq (tgt := 113) e_M_times_100 rfl (fun c14 => ?_) (fun c14 => ?_)
        · refine g_iconst (0 : Int32) e_M_times_113 (by decide) ?_
          refine g_sub [1, 2, 3, 0, 4, 5] rfl ?_
          exact hj (false) (by simp only [if_pos c14])
        · refine g_iload 5 e_M_times_103 rfl ?_
          refine g_iload_n 3 e_M_times_105 rfl rfl ?_
          refine g_icmp_lt (tgt := 113) e_M_times_106 rfl (fun c15 => ?_) (fun c15 => ?_)
          · refine g_iconst (0 : Int32) e_M_times_113 (by decide) ?_
            refine g_sub [1, 2, 3, 0, 4, 5] rfl ?_
            exact hj (false) (by simp only [if_neg c14, if_pos c15])
          · refine g_iconst (1 : Int32) e_M_times_109 (by decide) ?_
            refine g_goto (tgt := 114) e_M_times_110 rfl ?_
            refine g_sub [1, 2, 3, 0, 4, 5] rfl ?_
            exact hj (true) (by simp only [if_neg c14, if_neg c15])
set_option maxHeartbeats 1000000 in
theorem s_M_times_116 {l1 : Int32} {l2 : Int32} {l3 : Int64} {l5 : Int32} {l6 : Int32} {v : Vv} {Q : Int32 → Vv → Prop} (h : k_M_times_51 (l1) (l2) (l3) (l5) ((l6 + (1 : Int32))) (v) Q) : k_M_times_116 l1 l2 l3 l5 l6 v Q := by
  show Gp 2 M_M_times 116 [(0, .ref (154)), (1, .int (l1)), (2, .int (l2)), (3, .long (l3)), (5, .int (l5)), (6, .int (l6))] [] v (QI Q)
  refine g_iinc (v := (l6 + (1 : Int32))) (L' := [(6, .int ((l6 + (1 : Int32)))), (0, .ref (154)), (1, .int (l1)), (2, .int (l2)), (3, .long (l3)), (5, .int (l5))]) 5 e_M_times_116 rfl rfl (by decide) rfl ?_
  refine g_goto (tgt := 51) e_M_times_119 rfl ?_
  exact g_sub [1, 2, 3, 4, 5, 0] rfl h
set_option maxHeartbeats 1000000 in
theorem s_M_times_166 {l1 : Int32} {l2 : Int32} {l3 : Int64} {v : Vv} {Q : Int32 → Vv → Prop} (h : (ib (l2) 32) ∧ (k_M_times_181 (l1) (l2) (sI (sJ (v) 154 39 l3) 154 38 ((sJ (v) 154 39 l3).1 170 (ix (l2)))) Q)) : k_M_times_166 l1 l2 l3 v Q := by
  show Gp 2 M_M_times 166 [(0, .ref (154)), (1, .int (l1)), (2, .int (l2)), (3, .long (l3))] [] v (QI Q)
  refine g_aload_n 0 e_M_times_166 rfl rfl ?_
  refine g_lload_n 3 e_M_times_167 rfl rfl ?_
  refine p_putJ e_M_times_168 sh_154 fp_M_396 rfl ?_
  refine g_aload_n 0 e_M_times_171 rfl rfl ?_
  refine g_aload_n 0 e_M_times_172 rfl rfl ?_
  refine p_getR (j := 170) e_M_times_173 sh_154 fl_M_60 rfl (rf_154_36 _) ?_
  refine g_iload_n 2 e_M_times_176 rfl rfl ?_
  obtain ⟨h21, h⟩ := h
  refine p_iald e_M_times_177 sh_170 h21 ?_
  refine p_putI e_M_times_178 sh_154 fp_M_393 rfl rfl rfl ?_
  exact g_sub [0, 1, 2] rfl h
set_option maxHeartbeats 1000000 in
theorem s_M_saysIn {l1 : Int32} {l2 : Int32} {v : Vv} {Q : Int32 → Vv → Prop} (h : (ib (l1) 32) ∧ ((ib ((((6 : Int32) * l1) + l2)) 192) ∧ (m_M_dayOf (((v).1 170 (ix (l1)) - (60 : Int32)) + (v).1 165 (ix ((((6 : Int32) * l1) + l2)))) (v) (fun x3 v4 => Q (x3) (v4))))) : m_M_saysIn l1 l2 v Q := by
  refine cp_go (Nat.le_of_ble_eq_true rfl) (by decide +kernel) ?_
  show Gp 2 M_M_saysIn 0 [(0, .ref (154)), (1, .int (l1)), (2, .int (l2))] [] v (QI Q)
  refine g_aload_n 0 e_M_saysIn_0 rfl rfl ?_
  refine p_getR (j := 170) e_M_saysIn_1 sh_154 fl_M_60 rfl (rf_154_36 _) ?_
  refine g_iload_n 1 e_M_saysIn_4 rfl rfl ?_
  obtain ⟨h1, h⟩ := h
  refine p_iald e_M_saysIn_5 sh_170 h1 ?_
  refine g_bipush (60 : Int32) e_M_saysIn_6 (by decide) ?_
  refine g_isub e_M_saysIn_8 ?_
  refine g_aload_n 0 e_M_saysIn_9 rfl rfl ?_
  refine p_getR (j := 165) e_M_saysIn_10 sh_154 fl_M_44 rfl (rf_154_31 _) ?_
  refine g_bipush (6 : Int32) e_M_saysIn_13 (by decide) ?_
  refine g_iload_n 1 e_M_saysIn_15 rfl rfl ?_
  refine g_imul e_M_saysIn_16 ?_
  refine g_iload_n 2 e_M_saysIn_17 rfl rfl ?_
  refine g_iadd e_M_saysIn_18 ?_
  obtain ⟨h2, h⟩ := h
  refine p_iald e_M_saysIn_19 sh_165 h2 ?_
  refine g_iadd e_M_saysIn_20 ?_
  refine p_callSI (d' := 1) (As := [.int ((((v).1 170 (ix (l1)) - (60 : Int32)) + (v).1 165 (ix ((((6 : Int32) * l1) + l2)))))]) (rest := []) e_M_saysIn_21 zm_M_dayOf lS_M_365 rfl rfl (Nat.le_of_ble_eq_true rfl) (by decide) ?_
  refine cp_mono h (fun _ v4 ⟨x3, e1, h⟩ => ⟨x3, e1, ?_⟩)
  exact p_retI e_M_saysIn_24.1 rfl h
set_option maxHeartbeats 1000000 in
theorem s_M_tellsAll {l1 : Int32} {v : Vv} {Q : Bool → Vv → Prop} (h : k_M_tellsAll_2 (l1) ((0 : Int32)) (v) Q) : m_M_tellsAll l1 v Q := by
  refine cp_go (Nat.le_of_ble_eq_true rfl) (by decide +kernel) ?_
  show Gp 2 M_M_tellsAll 0 [(0, .ref (154)), (1, .int (l1))] [] v (QZ Q)
  refine g_iconst (0 : Int32) e_M_tellsAll_0 (by decide) ?_
  refine g_istore_n (L' := [(2, .int ((0 : Int32))), (0, .ref (154)), (1, .int (l1))]) e_M_tellsAll_1 rfl (by decide) rfl ?_
  exact g_sub [1, 2, 0] rfl h
set_option maxHeartbeats 1000000 in
theorem s_M_tellsAll_2 {l1 : Int32} {l2 : Int32} {v : Vv} {Q : Bool → Vv → Prop} (h : m_M_worlds  (v) (fun x1 v2 => if l2 < x1 then (k_M_tellsAll_12 (l1) (l2) ((0 : Int32)) (v2) Q) else (Q true (v2)))) : k_M_tellsAll_2 l1 l2 v Q := by
  show Gp 2 M_M_tellsAll 2 [(0, .ref (154)), (1, .int (l1)), (2, .int (l2))] [] v (QZ Q)
  refine g_iload_n 2 e_M_tellsAll_2 rfl rfl ?_
  refine g_aload_n 0 e_M_tellsAll_3 rfl rfl ?_
  refine p_callVI (d' := 1) (ci := 10) (r := (RX10, TX10, 49)) (As := []) (rest := [.int (l2)]) e_M_tellsAll_4 zm_M_worlds lV_M_371 sh_154 rfl rfl rfl rfl (Nat.le_of_ble_eq_true rfl) (by decide) ?_
  refine cp_mono h (fun _ v2 ⟨x1, e1, h⟩ => ⟨x1, e1, ?_⟩)
  refine g_icmp_ge (tgt := 66) e_M_tellsAll_7 rfl (fun c3 => ?_) (fun c3 => ?_)
  · replace h := iteF h c3
    refine g_iconst (1 : Int32) e_M_tellsAll_66 (by decide) ?_
    exact p_retZ (x := true) e_M_tellsAll_67.1 rfl h
  · replace h := iteT h c3
    refine g_iconst (0 : Int32) e_M_tellsAll_10 (by decide) ?_
    refine g_istore_n (L' := [(3, .int ((0 : Int32))), (0, .ref (154)), (1, .int (l1)), (2, .int (l2))]) e_M_tellsAll_11 rfl (by decide) rfl ?_
    exact g_sub [1, 2, 3, 0] rfl h
set_option maxHeartbeats 1000000 in
theorem s_M_tellsAll_12 {l1 : Int32} {l2 : Int32} {l3 : Int32} {v : Vv} {Q : Bool → Vv → Prop} (h : m_M_worlds  (v) (fun x4 v5 => if l3 < x4 then ((ib (l2) 32) ∧ (if (0 : Int64) < (v5).2.1 167 (ix (l2)) then ((ib (l3) 32) ∧ (if (0 : Int64) < (v5).2.1 167 (ix (l3)) then (m_M_areMore l1 l2 l3 (v5) (fun x11 v12 => if x11 = true then (Q false (v12)) else (k_M_tellsAll_54 (l1) (l2) (l3) (v12) Q))) else (k_M_tellsAll_54 (l1) (l2) (l3) (v5) Q))) else (k_M_tellsAll_54 (l1) (l2) (l3) (v5) Q))) else (k_M_tellsAll_2 (l1) ((l2 + (1 : Int32))) (v5) Q))) : k_M_tellsAll_12 l1 l2 l3 v Q := by
  show Gp 2 M_M_tellsAll 12 [(0, .ref (154)), (1, .int (l1)), (2, .int (l2)), (3, .int (l3))] [] v (QZ Q)
  refine g_iload_n 3 e_M_tellsAll_12 rfl rfl ?_
  refine g_aload_n 0 e_M_tellsAll_13 rfl rfl ?_
  refine p_callVI (d' := 1) (ci := 10) (r := (RX10, TX10, 49)) (As := []) (rest := [.int (l3)]) e_M_tellsAll_14 zm_M_worlds lV_M_371 sh_154 rfl rfl rfl rfl (Nat.le_of_ble_eq_true rfl) (by decide) ?_
  refine cp_mono h (fun _ v5 ⟨x4, e1, h⟩ => ⟨x4, e1, ?_⟩)
  refine g_icmp_ge (tgt := 60) e_M_tellsAll_17 rfl (fun c6 => ?_) (fun c6 => ?_)
  · replace h := iteF h c6
    refine g_iinc (v := (l2 + (1 : Int32))) (L' := [(2, .int ((l2 + (1 : Int32)))), (0, .ref (154)), (1, .int (l1)), (3, .int (l3))]) 2 e_M_tellsAll_60 rfl rfl (by decide) rfl ?_
    refine g_goto (tgt := 2) e_M_tellsAll_63 rfl ?_
    exact g_sub [1, 2, 0] rfl h
  · replace h := iteT h c6
    refine g_aload_n 0 e_M_tellsAll_20 rfl rfl ?_
    refine p_getR (j := 167) e_M_tellsAll_21 sh_154 fl_M_50 rfl (rf_154_33 _) ?_
    refine g_iload_n 2 e_M_tellsAll_24 rfl rfl ?_
    obtain ⟨h7, h⟩ := h
    refine p_lald e_M_tellsAll_25 sh_167 h7 ?_
    refine g_lconst (0 : Int64) e_M_tellsAll_26 (by decide) ?_
    refine g_l_le (tgt := 54) e_M_tellsAll_27 e_M_tellsAll_28 rfl (fun c8 => ?_) (fun c8 => ?_)
    · replace h := iteF h c8
      exact g_sub [0, 1, 2, 3] rfl h
    · replace h := iteT h c8
      refine g_aload_n 0 e_M_tellsAll_31 rfl rfl ?_
      refine p_getR (j := 167) e_M_tellsAll_32 sh_154 fl_M_50 rfl (rf_154_33 _) ?_
      refine g_iload_n 3 e_M_tellsAll_35 rfl rfl ?_
      obtain ⟨h9, h⟩ := h
      refine p_lald e_M_tellsAll_36 sh_167 h9 ?_
      refine g_lconst (0 : Int64) e_M_tellsAll_37 (by decide) ?_
      refine g_l_le (tgt := 54) e_M_tellsAll_38 e_M_tellsAll_39 rfl (fun c10 => ?_) (fun c10 => ?_)
      · replace h := iteF h c10
        exact g_sub [0, 1, 2, 3] rfl h
      · replace h := iteT h c10
        refine g_aload_n 0 e_M_tellsAll_42 rfl rfl ?_
        refine g_iload_n 1 e_M_tellsAll_43 rfl rfl ?_
        refine g_iload_n 2 e_M_tellsAll_44 rfl rfl ?_
        refine g_iload_n 3 e_M_tellsAll_45 rfl rfl ?_
        refine p_callVZ (d' := 1) (ci := 10) (r := (RX10, TX10, 49)) (As := [.int (l1), .int (l2), .int (l3)]) (rest := []) e_M_tellsAll_46 zm_M_areMore lV_M_412 sh_154 rfl rfl rfl rfl (Nat.le_of_ble_eq_true rfl) (by decide) ?_
        refine cp_mono h (fun _ v12 ⟨x11, e1, h⟩ => ⟨x11, e1, ?_⟩)
        refine p_ifz_eq (tgt := 54) e_M_tellsAll_49 rfl (fun c13 => ?_) (fun c13 => ?_)
        · replace h := iteF h c13
          exact g_sub [0, 1, 2, 3] rfl h
        · replace h := iteT h c13
          refine g_iconst (0 : Int32) e_M_tellsAll_52 (by decide) ?_
          exact p_retZ (x := false) e_M_tellsAll_53.1 rfl h
set_option maxHeartbeats 1000000 in
theorem s_M_tellsAll_54 {l1 : Int32} {l2 : Int32} {l3 : Int32} {v : Vv} {Q : Bool → Vv → Prop} (h : k_M_tellsAll_12 (l1) (l2) ((l3 + (1 : Int32))) (v) Q) : k_M_tellsAll_54 l1 l2 l3 v Q := by
  show Gp 2 M_M_tellsAll 54 [(0, .ref (154)), (1, .int (l1)), (2, .int (l2)), (3, .int (l3))] [] v (QZ Q)
  refine g_iinc (v := (l3 + (1 : Int32))) (L' := [(3, .int ((l3 + (1 : Int32)))), (0, .ref (154)), (1, .int (l1)), (2, .int (l2))]) 3 e_M_tellsAll_54 rfl rfl (by decide) rfl ?_
  refine g_goto (tgt := 12) e_M_tellsAll_57 rfl ?_
  exact g_sub [1, 2, 3, 0] rfl h
set_option maxHeartbeats 1000000 in
theorem s_M_isSo {l1 : Int32} {l2 : Int32} {v : Vv} {Q : Bool → Vv → Prop} (h : k_M_isSo_2 (l1) (l2) ((0 : Int32)) (v) Q) : m_M_isSo l1 l2 v Q := by
  refine cp_go (Nat.le_of_ble_eq_true rfl) (by decide +kernel) ?_
  show Gp 2 M_M_isSo 0 [(0, .ref (154)), (1, .int (l1)), (2, .int (l2))] [] v (QZ Q)
  refine g_iconst (0 : Int32) e_M_isSo_0 (by decide) ?_
  refine g_istore_n (L' := [(3, .int ((0 : Int32))), (0, .ref (154)), (1, .int (l1)), (2, .int (l2))]) e_M_isSo_1 rfl (by decide) rfl ?_
  exact g_sub [1, 2, 3, 0] rfl h
set_option maxHeartbeats 1000000 in
theorem s_M_isSo_2 {l1 : Int32} {l2 : Int32} {l3 : Int32} {v : Vv} {Q : Bool → Vv → Prop} (h : if l3 < (v).1 154 11 then ((ib ((((40 : Int32) * l1) + l3)) 160) ∧ (m_M_in (((v).1 176 (ix ((((40 : Int32) * l1) + l3)))).toInt64) (0 : Int64) (1 : Int64) (v) (fun x3 v4 => if x3 = true then ((ib (l2) 32) ∧ (if (v).1 176 (ix ((((40 : Int32) * l1) + l3))) = (((v4).1 168 (ix (l2)) >>> (l3 &&& 31)) &&& (1 : Int32)) then (k_M_isSo_51 (l1) (l2) (l3) (v4) Q) else (Q false (v4)))) else (k_M_isSo_51 (l1) (l2) (l3) (v4) Q)))) else (Q true (v))) : k_M_isSo_2 l1 l2 l3 v Q := by
  show Gp 2 M_M_isSo 2 [(0, .ref (154)), (1, .int (l1)), (2, .int (l2)), (3, .int (l3))] [] v (QZ Q)
  refine g_iload_n 3 e_M_isSo_2 rfl rfl ?_
  refine g_aload_n 0 e_M_isSo_3 rfl rfl ?_
  refine p_getI e_M_isSo_4 sh_154 fl_M_92 rfl ?_
  refine g_icmp_ge (tgt := 57) e_M_isSo_7 rfl (fun c1 => ?_) (fun c1 => ?_)
  · replace h := iteF h c1
    refine g_iconst (1 : Int32) e_M_isSo_57 (by decide) ?_
    exact p_retZ (x := true) e_M_isSo_58.1 rfl h
  · replace h := iteT h c1
    refine g_aload_n 0 e_M_isSo_10 rfl rfl ?_
    refine p_getR (j := 176) e_M_isSo_11 sh_154 fl_M_82 rfl (rf_154_48 _) ?_
    refine g_bipush (40 : Int32) e_M_isSo_14 (by decide) ?_
    refine g_iload_n 1 e_M_isSo_16 rfl rfl ?_
    refine g_imul e_M_isSo_17 ?_
    refine g_iload_n 3 e_M_isSo_18 rfl rfl ?_
    refine g_iadd e_M_isSo_19 ?_
    obtain ⟨h2, h⟩ := h
    refine p_iald e_M_isSo_20 sh_176 h2 ?_
    refine g_istore (L' := [(4, .int ((v).1 176 (ix ((((40 : Int32) * l1) + l3))))), (0, .ref (154)), (1, .int (l1)), (2, .int (l2)), (3, .int (l3))]) e_M_isSo_21 (by decide) rfl ?_
    refine g_iload 0 e_M_isSo_23 rfl ?_
    refine g_i2l e_M_isSo_25 ?_
    refine g_lconst (0 : Int64) e_M_isSo_26 (by decide) ?_
    refine g_lconst (1 : Int64) e_M_isSo_27 (by decide) ?_
    refine p_callSZ (d' := 1) (As := [.long (((v).1 176 (ix ((((40 : Int32) * l1) + l3)))).toInt64), .long ((0 : Int64)), .long ((1 : Int64))]) (rest := []) e_M_isSo_28 zm_M_in lS_M_95 rfl rfl (Nat.le_of_ble_eq_true rfl) (by decide) ?_
    refine cp_mono h (fun _ v4 ⟨x3, e1, h⟩ => ⟨x3, e1, ?_⟩)
    refine p_ifz_eq (tgt := 51) e_M_isSo_31 rfl (fun c5 => ?_) (fun c5 => ?_)
    · replace h := iteF h c5
      exact g_sub [1, 2, 3, 4] rfl h
    · replace h := iteT h c5
      refine g_iload 0 e_M_isSo_34 rfl ?_
      refine g_aload_n 1 e_M_isSo_36 rfl rfl ?_
      refine p_getR (j := 168) e_M_isSo_37 sh_154 fl_M_54 rfl (rf_154_34 _) ?_
      refine g_iload_n 3 e_M_isSo_40 rfl rfl ?_
      obtain ⟨h6, h⟩ := h
      refine p_iald e_M_isSo_41 sh_168 h6 ?_
      refine g_iload_n 4 e_M_isSo_42 rfl rfl ?_
      refine g_ishr e_M_isSo_43 ?_
      refine g_iconst (1 : Int32) e_M_isSo_44 (by decide) ?_
      refine g_iand e_M_isSo_45 ?_
      refine g_icmp_eq (tgt := 51) e_M_isSo_46 rfl (fun c7 => ?_) (fun c7 => ?_)
      · replace h := iteT h c7
        exact g_sub [1, 2, 3, 4] rfl h
      · replace h := iteF h c7
        refine g_iconst (0 : Int32) e_M_isSo_49 (by decide) ?_
        exact p_retZ (x := false) e_M_isSo_50.1 rfl h
set_option maxHeartbeats 1000000 in
theorem s_M_isSo_51 {l1 : Int32} {l2 : Int32} {l3 : Int32} {v : Vv} {Q : Bool → Vv → Prop} (h : k_M_isSo_2 (l1) (l2) ((l3 + (1 : Int32))) (v) Q) : k_M_isSo_51 l1 l2 l3 v Q := by
  show Gp 2 M_M_isSo 51 [(0, .ref (154)), (1, .int (l1)), (2, .int (l2)), (3, .int (l3))] [] v (QZ Q)
  refine g_iinc (v := (l3 + (1 : Int32))) (L' := [(3, .int ((l3 + (1 : Int32)))), (0, .ref (154)), (1, .int (l1)), (2, .int (l2))]) 3 e_M_isSo_51 rfl rfl (by decide) rfl ?_
  refine g_goto (tgt := 2) e_M_isSo_54 rfl ?_
  exact g_sub [1, 2, 3, 0] rfl h
set_option maxHeartbeats 1000000 in
theorem s_M_count {l1 : Int32} {v : Vv} {Q : Int32 → Vv → Prop} (h : m_M_in ((l1).toInt64) (0 : Int64) (5 : Int64) (v) (fun x1 v2 => if x1 = true then (if l1 < (3 : Int32) then (if l1 = (0 : Int32) then (Q ((v2).1 154 11) (v2)) else (if l1 = (1 : Int32) then (Q ((v2).1 154 15) (v2)) else (m_M_seenMany  (v2) (fun x7 v8 => Q (x7) (v8))))) else (Q ((if l1 = (3 : Int32) then (v2).1 154 3 else (if l1 = (4 : Int32) then (v2).1 154 6 else (v2).1 154 4))) (v2))) else (Q ((-2 : Int32)) (v2)))) : m_M_count l1 v Q := by
  refine cp_go (Nat.le_of_ble_eq_true rfl) (by decide +kernel) ?_
  show Gp 2 M_M_count 0 [(0, .ref (154)), (1, .int (l1))] [] v (QI Q)
  refine g_iload_n 1 e_M_count_0 rfl rfl ?_
  refine g_i2l e_M_count_1 ?_
  refine g_lconst (0 : Int64) e_M_count_2 (by decide) ?_
  refine g_ldc2 (v := (5 : Int64)) (hd := e_M_count_3) cl_M_108 ?_
  refine p_callSZ (d' := 1) (As := [.long ((l1).toInt64), .long ((0 : Int64)), .long ((5 : Int64))]) (rest := []) e_M_count_6 zm_M_in lS_M_95 rfl rfl (Nat.le_of_ble_eq_true rfl) (by decide) ?_
  refine cp_mono h (fun _ v2 ⟨x1, e1, h⟩ => ⟨x1, e1, ?_⟩)
  refine p_ifz_ne (tgt := 15) e_M_count_9 rfl (fun c3 => ?_) (fun c3 => ?_)
  · replace h := iteT h c3
    refine g_iload_n 1 e_M_count_15 rfl rfl ?_
    refine g_iconst (3 : Int32) e_M_count_16 (by decide) ?_
    refine g_icmp_ge (tgt := 48) e_M_count_17 rfl (fun c4 => ?_) (fun c4 => ?_)
    · replace h := iteF h c4
      refine g_iload_n 1 e_M_count_48 rfl rfl ?_
      refine g_iconst (3 : Int32) e_M_count_49 (by decide) ?_
      have hj : ∀ m0 : Int32, m0 = (if l1 = (3 : Int32) then (v2).1 154 3 else (if l1 = (4 : Int32) then (v2).1 154 6 else (v2).1 154 4)) → Gp 2 M_M_count 76 [(0, .ref (154)), (1, .int (l1))] [.int (m0)] (v2) (QI Q) := by
        intro m0 hm0
        subst hm0
        exact p_retI e_M_count_76.1 rfl h
      refine g_icmp_ne (tgt := 60) e_M_count_50 rfl (fun c9 => ?_) (fun c9 => ?_)
      · refine g_iload_n 1 e_M_count_60 rfl rfl ?_
        refine g_iconst (4 : Int32) e_M_count_61 (by decide) ?_
        refine g_icmp_ne (tgt := 72) e_M_count_62 rfl (fun c10 => ?_) (fun c10 => ?_)
        · refine g_aload_n 0 e_M_count_72 rfl rfl ?_
          refine p_getI e_M_count_73 sh_154 fl_M_340 rfl ?_
          exact hj ((v2).1 154 4) (by simp only [if_neg c9, if_neg c10])
        · refine g_aload_n 0 e_M_count_65 rfl rfl ?_
          refine p_getI e_M_count_66 sh_154 fl_M_133 rfl ?_
          refine g_goto (tgt := 76) e_M_count_69 rfl ?_
          exact hj ((v2).1 154 6) (by simp only [if_neg c9, if_pos c10])
      · refine g_aload_n 0 e_M_count_53 rfl rfl ?_
        refine p_getI e_M_count_54 sh_154 fl_M_89 rfl ?_
        refine g_goto (tgt := 76) e_M_count_57 rfl ?_
        exact hj ((v2).1 154 3) (by simp only [if_pos c9])
    · replace h := iteT h c4
      refine g_iload_n 1 e_M_count_20 rfl rfl ?_
      refine g_if_ne (tgt := 31) e_M_count_21 rfl (fun c5 => ?_) (fun c5 => ?_)
      · replace h := iteF h c5
        refine g_iload_n 1 e_M_count_31 rfl rfl ?_
        refine g_iconst (1 : Int32) e_M_count_32 (by decide) ?_
        refine g_icmp_ne (tgt := 43) e_M_count_33 rfl (fun c6 => ?_) (fun c6 => ?_)
        · replace h := iteF h c6
          refine g_aload_n 0 e_M_count_43 rfl rfl ?_
          refine p_callVI (d' := 1) (ci := 10) (r := (RX10, TX10, 49)) (As := []) (rest := []) e_M_count_44 zm_M_seenMany lV_M_405 sh_154 rfl rfl rfl rfl (Nat.le_of_ble_eq_true rfl) (by decide) ?_
          refine cp_mono h (fun _ v8 ⟨x7, e1, h⟩ => ⟨x7, e1, ?_⟩)
          exact p_retI e_M_count_47.1 rfl h
        · replace h := iteT h c6
          refine g_aload_n 0 e_M_count_36 rfl rfl ?_
          refine p_getI e_M_count_37 sh_154 fl_M_99 rfl ?_
          refine g_goto (tgt := 47) e_M_count_40 rfl ?_
          exact p_retI e_M_count_47.1 rfl h
      · replace h := iteT h c5
        refine g_aload_n 0 e_M_count_24 rfl rfl ?_
        refine p_getI e_M_count_25 sh_154 fl_M_92 rfl ?_
        refine g_goto (tgt := 47) e_M_count_28 rfl ?_
        exact p_retI e_M_count_47.1 rfl h
  · replace h := iteF h c3
    refine g_bipush (-2 : Int32) e_M_count_12 (by decide) ?_
    exact p_retI e_M_count_14.1 rfl h
set_option maxHeartbeats 1000000 in
theorem s_M_isSheet {l0 : Int32} {v : Vv} {Q : Bool → Vv → Prop} (h : m_M_in ((l0).toInt64) (0 : Int64) (3 : Int64) (v) (fun x1 v2 => Q (x1) (v2))) : m_M_isSheet l0 v Q := by
  refine cp_go (Nat.le_of_ble_eq_true rfl) (by decide +kernel) ?_
  show Gp 2 M_M_isSheet 0 [(0, .int (l0))] [] v (QZ Q)
  refine g_iload_n 0 e_M_isSheet_0 rfl rfl ?_
  refine g_i2l e_M_isSheet_1 ?_
  refine g_lconst (0 : Int64) e_M_isSheet_2 (by decide) ?_
  refine g_ldc2 (v := (3 : Int64)) (hd := e_M_isSheet_3) cl_M_443 ?_
  refine p_callSZ (d' := 1) (As := [.long ((l0).toInt64), .long ((0 : Int64)), .long ((3 : Int64))]) (rest := []) e_M_isSheet_6 zm_M_in lS_M_95 rfl rfl (Nat.le_of_ble_eq_true rfl) (by decide) ?_
  refine cp_mono h (fun _ v2 ⟨x1, e1, h⟩ => ⟨x1, e1, ?_⟩)
  exact p_retZ e_M_isSheet_9.1 rfl h
set_option maxHeartbeats 1000000 in
theorem s_M_isWord {l1 : Int32} {l2 : Int32} {l3 : Int32} {l4 : Int32} {l5 : Int32} {l6 : Int32} {l7 : Int32} {l8 : Int32} {v : Vv} {Q : Bool → Vv → Prop} (h : if (v).1 154 29 = (0 : Int32) then (if (v).1 154 25 = (1 : Int32) then (if ((v).1 154 26 + (8 : Int32)) < (v).1 154 24 then (Q false (v)) else (m_M_isLetter (0 : Int32) l1 (v) (fun x4 v5 => if x4 = true then (m_M_isLetter (1 : Int32) l2 (v5) (fun x7 v8 => if x7 = true then (m_M_isLetter (2 : Int32) l3 (v8) (fun x10 v11 => if x10 = true then (m_M_isLetter (3 : Int32) l4 (v11) (fun x13 v14 => if x13 = true then (m_M_isLetter (4 : Int32) l5 (v14) (fun x16 v17 => if x16 = true then (m_M_isLetter (5 : Int32) l6 (v17) (fun x19 v20 => if x19 = true then (m_M_isLetter (6 : Int32) l7 (v20) (fun x22 v23 => if x22 = true then (m_M_isLetter (7 : Int32) l8 (v23) (fun x25 v26 => Q ((if x25 = true then true else false)) (v26))) else (Q false (v23)))) else (Q false (v20)))) else (Q false (v17)))) else (Q false (v14)))) else (Q false (v11)))) else (Q false (v8)))) else (Q false (v5))))) else (Q false (v))) else (Q false (v))) : m_M_isWord l1 l2 l3 l4 l5 l6 l7 l8 v Q := by
  refine cp_go (Nat.le_of_ble_eq_true rfl) (by decide +kernel) ?_
  show Gp 3 M_M_isWord 0 [(0, .ref (154)), (1, .int (l1)), (2, .int (l2)), (3, .int (l3)), (4, .int (l4)), (5, .int (l5)), (6, .int (l6)), (7, .int (l7)), (8, .int (l8))] [] v (QZ Q)
  refine g_aload_n 0 e_M_isWord_0 rfl rfl ?_
  refine p_getI e_M_isWord_1 sh_154 fl_M_168 rfl ?_
  refine g_if_ne (tgt := 112) e_M_isWord_4 rfl (fun c1 => ?_) (fun c1 => ?_)
  · replace h := iteF h c1
    refine g_iconst (0 : Int32) e_M_isWord_112 (by decide) ?_
    exact p_retZ (x := false) e_M_isWord_113.1 rfl h
  · replace h := iteT h c1
    refine g_aload_n 0 e_M_isWord_7 rfl rfl ?_
    refine p_getI e_M_isWord_8 sh_154 fl_M_151 rfl ?_
    refine g_iconst (1 : Int32) e_M_isWord_11 (by decide) ?_
    refine g_icmp_ne (tgt := 112) e_M_isWord_12 rfl (fun c2 => ?_) (fun c2 => ?_)
    · replace h := iteF h c2
      refine g_iconst (0 : Int32) e_M_isWord_112 (by decide) ?_
      exact p_retZ (x := false) e_M_isWord_113.1 rfl h
    · replace h := iteT h c2
      refine g_aload_n 0 e_M_isWord_15 rfl rfl ?_
      refine p_getI e_M_isWord_16 sh_154 fl_M_142 rfl ?_
      refine g_aload_n 0 e_M_isWord_19 rfl rfl ?_
      refine p_getI e_M_isWord_20 sh_154 fl_M_148 rfl ?_
      refine g_bipush (8 : Int32) e_M_isWord_23 (by decide) ?_
      refine g_iadd e_M_isWord_25 ?_
      refine g_icmp_gt (tgt := 112) e_M_isWord_26 rfl (fun c3 => ?_) (fun c3 => ?_)
      · replace h := iteT h c3
        refine g_iconst (0 : Int32) e_M_isWord_112 (by decide) ?_
        exact p_retZ (x := false) e_M_isWord_113.1 rfl h
      · replace h := iteF h c3
        refine g_aload_n 0 e_M_isWord_29 rfl rfl ?_
        refine g_iconst (0 : Int32) e_M_isWord_30 (by decide) ?_
        refine g_iload_n 1 e_M_isWord_31 rfl rfl ?_
        refine p_callVZ (d' := 2) (ci := 10) (r := (RX10, TX10, 49)) (As := [.int ((0 : Int32)), .int (l1)]) (rest := []) e_M_isWord_32 zm_M_isLetter lV_M_175 sh_154 rfl rfl rfl rfl (Nat.le_of_ble_eq_true rfl) (by decide) ?_
        refine cp_mono h (fun _ v5 ⟨x4, e1, h⟩ => ⟨x4, e1, ?_⟩)
        refine p_ifz_eq (tgt := 112) e_M_isWord_35 rfl (fun c6 => ?_) (fun c6 => ?_)
        · replace h := iteF h c6
          refine g_iconst (0 : Int32) e_M_isWord_112 (by decide) ?_
          exact p_retZ (x := false) e_M_isWord_113.1 rfl h
        · replace h := iteT h c6
          refine g_aload_n 0 e_M_isWord_38 rfl rfl ?_
          refine g_iconst (1 : Int32) e_M_isWord_39 (by decide) ?_
          refine g_iload_n 2 e_M_isWord_40 rfl rfl ?_
          refine p_callVZ (d' := 2) (ci := 10) (r := (RX10, TX10, 49)) (As := [.int ((1 : Int32)), .int (l2)]) (rest := []) e_M_isWord_41 zm_M_isLetter lV_M_175 sh_154 rfl rfl rfl rfl (Nat.le_of_ble_eq_true rfl) (by decide) ?_
          refine cp_mono h (fun _ v8 ⟨x7, e1, h⟩ => ⟨x7, e1, ?_⟩)
          refine p_ifz_eq (tgt := 112) e_M_isWord_44 rfl (fun c9 => ?_) (fun c9 => ?_)
          · replace h := iteF h c9
            refine g_iconst (0 : Int32) e_M_isWord_112 (by decide) ?_
            exact p_retZ (x := false) e_M_isWord_113.1 rfl h
          · replace h := iteT h c9
            refine g_aload_n 0 e_M_isWord_47 rfl rfl ?_
            refine g_iconst (2 : Int32) e_M_isWord_48 (by decide) ?_
            refine g_iload_n 3 e_M_isWord_49 rfl rfl ?_
            refine p_callVZ (d' := 2) (ci := 10) (r := (RX10, TX10, 49)) (As := [.int ((2 : Int32)), .int (l3)]) (rest := []) e_M_isWord_50 zm_M_isLetter lV_M_175 sh_154 rfl rfl rfl rfl (Nat.le_of_ble_eq_true rfl) (by decide) ?_
            refine cp_mono h (fun _ v11 ⟨x10, e1, h⟩ => ⟨x10, e1, ?_⟩)
            refine p_ifz_eq (tgt := 112) e_M_isWord_53 rfl (fun c12 => ?_) (fun c12 => ?_)
            · replace h := iteF h c12
              refine g_iconst (0 : Int32) e_M_isWord_112 (by decide) ?_
              exact p_retZ (x := false) e_M_isWord_113.1 rfl h
            · replace h := iteT h c12
              refine g_aload_n 0 e_M_isWord_56 rfl rfl ?_
              refine g_iconst (3 : Int32) e_M_isWord_57 (by decide) ?_
              refine g_iload 4 e_M_isWord_58 rfl ?_
              refine p_callVZ (d' := 2) (ci := 10) (r := (RX10, TX10, 49)) (As := [.int ((3 : Int32)), .int (l4)]) (rest := []) e_M_isWord_60 zm_M_isLetter lV_M_175 sh_154 rfl rfl rfl rfl (Nat.le_of_ble_eq_true rfl) (by decide) ?_
              refine cp_mono h (fun _ v14 ⟨x13, e1, h⟩ => ⟨x13, e1, ?_⟩)
              refine p_ifz_eq (tgt := 112) e_M_isWord_63 rfl (fun c15 => ?_) (fun c15 => ?_)
              · replace h := iteF h c15
                refine g_iconst (0 : Int32) e_M_isWord_112 (by decide) ?_
                exact p_retZ (x := false) e_M_isWord_113.1 rfl h
              · replace h := iteT h c15
                refine g_aload_n 0 e_M_isWord_66 rfl rfl ?_
                refine g_iconst (4 : Int32) e_M_isWord_67 (by decide) ?_
                refine g_iload 5 e_M_isWord_68 rfl ?_
                refine p_callVZ (d' := 2) (ci := 10) (r := (RX10, TX10, 49)) (As := [.int ((4 : Int32)), .int (l5)]) (rest := []) e_M_isWord_70 zm_M_isLetter lV_M_175 sh_154 rfl rfl rfl rfl (Nat.le_of_ble_eq_true rfl) (by decide) ?_
                refine cp_mono h (fun _ v17 ⟨x16, e1, h⟩ => ⟨x16, e1, ?_⟩)
                refine p_ifz_eq (tgt := 112) e_M_isWord_73 rfl (fun c18 => ?_) (fun c18 => ?_)
                · replace h := iteF h c18
                  refine g_iconst (0 : Int32) e_M_isWord_112 (by decide) ?_
                  exact p_retZ (x := false) e_M_isWord_113.1 rfl h
                · replace h := iteT h c18
                  refine g_aload_n 0 e_M_isWord_76 rfl rfl ?_
                  refine g_iconst (5 : Int32) e_M_isWord_77 (by decide) ?_
                  refine g_iload 6 e_M_isWord_78 rfl ?_
                  refine p_callVZ (d' := 2) (ci := 10) (r := (RX10, TX10, 49)) (As := [.int ((5 : Int32)), .int (l6)]) (rest := []) e_M_isWord_80 zm_M_isLetter lV_M_175 sh_154 rfl rfl rfl rfl (Nat.le_of_ble_eq_true rfl) (by decide) ?_
                  refine cp_mono h (fun _ v20 ⟨x19, e1, h⟩ => ⟨x19, e1, ?_⟩)
                  refine p_ifz_eq (tgt := 112) e_M_isWord_83 rfl (fun c21 => ?_) (fun c21 => ?_)
                  · replace h := iteF h c21
                    refine g_iconst (0 : Int32) e_M_isWord_112 (by decide) ?_
                    exact p_retZ (x := false) e_M_isWord_113.1 rfl h
                  · replace h := iteT h c21
                    refine g_aload_n 0 e_M_isWord_86 rfl rfl ?_
                    refine g_bipush (6 : Int32) e_M_isWord_87 (by decide) ?_
                    refine g_iload 7 e_M_isWord_89 rfl ?_
                    refine p_callVZ (d' := 2) (ci := 10) (r := (RX10, TX10, 49)) (As := [.int ((6 : Int32)), .int (l7)]) (rest := []) e_M_isWord_91 zm_M_isLetter lV_M_175 sh_154 rfl rfl rfl rfl (Nat.le_of_ble_eq_true rfl) (by decide) ?_
                    refine cp_mono h (fun _ v23 ⟨x22, e1, h⟩ => ⟨x22, e1, ?_⟩)
                    refine p_ifz_eq (tgt := 112) e_M_isWord_94 rfl (fun c24 => ?_) (fun c24 => ?_)
                    · replace h := iteF h c24
                      refine g_iconst (0 : Int32) e_M_isWord_112 (by decide) ?_
                      exact p_retZ (x := false) e_M_isWord_113.1 rfl h
                    · replace h := iteT h c24
                      refine g_aload_n 0 e_M_isWord_97 rfl rfl ?_
                      refine g_bipush (7 : Int32) e_M_isWord_98 (by decide) ?_
                      refine g_iload 8 e_M_isWord_100 rfl ?_
                      refine p_callVZ (d' := 2) (ci := 10) (r := (RX10, TX10, 49)) (As := [.int ((7 : Int32)), .int (l8)]) (rest := []) e_M_isWord_102 zm_M_isLetter lV_M_175 sh_154 rfl rfl rfl rfl (Nat.le_of_ble_eq_true rfl) (by decide) ?_
                      refine cp_mono h (fun _ v26 ⟨x25, e1, h⟩ => ⟨x25, e1, ?_⟩)
                      have hj : ∀ m0 : Bool, m0 = (if x25 = true then true else false) → Gp 3 M_M_isWord 113 [(0, .ref (154)), (1, .int (l1)), (2, .int (l2)), (3, .int (l3)), (4, .int (l4)), (5, .int (l5)), (6, .int (l6)), (7, .int (l7)), (8, .int (l8))] [.int (bI (m0))] (v26) (QZ Q) := by
                        intro m0 hm0
                        subst hm0
                        exact p_retZ e_M_isWord_113.1 rfl h
                      refine p_ifz_eq (tgt := 112) e_M_isWord_105 rfl (fun c27 => ?_) (fun c27 => ?_)
                      · refine g_iconst (0 : Int32) e_M_isWord_112 (by decide) ?_
                        exact hj (false) (by simp only [if_neg c27])
                      · refine g_iconst (1 : Int32) e_M_isWord_108 (by decide) ?_
                        refine g_goto (tgt := 113) e_M_isWord_109 rfl ?_
                        exact hj (true) (by simp only [if_pos c27])
set_option maxHeartbeats 1000000 in
theorem s_M_opens  {v : Vv} {Q : Bool → Vv → Prop} (h : if (v).1 154 28 = (5 : Int32) then (m_M_fail  (v) (fun v3 => Q false (v3))) else (m_M_next  (sI (v) 154 28 ((v).1 154 28 + (1 : Int32))) (fun v5 => Q true (v5)))) : m_M_opens  v Q := by
  refine cp_go (Nat.le_of_ble_eq_true rfl) (by decide +kernel) ?_
  show Gp 3 M_M_opens 0 [(0, .ref (154))] [] v (QZ Q)
  refine g_aload_n 0 e_M_opens_0 rfl rfl ?_
  refine p_getI e_M_opens_1 sh_154 fl_M_179 rfl ?_
  refine g_iconst (5 : Int32) e_M_opens_4 (by decide) ?_
  refine g_icmp_ne (tgt := 14) e_M_opens_5 rfl (fun c1 => ?_) (fun c1 => ?_)
  · replace h := iteF h c1
    refine g_aload_n 0 e_M_opens_14 rfl rfl ?_
    refine g_dup e_M_opens_15 rfl ?_
    refine p_getI e_M_opens_16 sh_154 fl_M_179 rfl ?_
    refine g_iconst (1 : Int32) e_M_opens_19 (by decide) ?_
    refine g_iadd e_M_opens_20 ?_
    refine p_putI e_M_opens_21 sh_154 fp_M_179 rfl rfl rfl ?_
    refine g_aload_n 0 e_M_opens_24 rfl rfl ?_
    refine p_callVV (d' := 2) (ci := 10) (r := (RX10, TX10, 49)) (As := []) (rest := []) e_M_opens_25 zm_M_next lV_M_185 sh_154 rfl rfl rfl rfl (Nat.le_of_ble_eq_true rfl) (by decide) ?_
    refine cp_mono h (fun _ v5 ⟨e1, h⟩ => ⟨e1, ?_⟩)
    refine g_iconst (1 : Int32) e_M_opens_28 (by decide) ?_
    exact p_retZ (x := true) e_M_opens_29.1 rfl h
  · replace h := iteT h c1
    refine g_aload_n 0 e_M_opens_8 rfl rfl ?_
    refine p_callVV (d' := 1) (ci := 10) (r := (RX10, TX10, 49)) (As := []) (rest := []) e_M_opens_9 zm_M_fail lV_M_182 sh_154 rfl rfl rfl rfl (Nat.le_of_ble_eq_true rfl) (by decide) ?_
    refine cp_mono h (fun _ v3 ⟨e1, h⟩ => ⟨e1, ?_⟩)
    refine g_iconst (0 : Int32) e_M_opens_12 (by decide) ?_
    exact p_retZ (x := false) e_M_opens_13.1 rfl h
set_option maxHeartbeats 1000000 in
theorem s_M_alike {l1 : Int32} {v : Vv} {Q : Int64 → Vv → Prop} (h : k_M_alike_5 (l1) ((0 : Int64)) ((0 : Int32)) (v) Q) : m_M_alike l1 v Q := by
  refine cp_go (Nat.le_of_ble_eq_true rfl) (by decide +kernel) ?_
  show Gp 3 M_M_alike 0 [(0, .ref (154)), (1, .int (l1))] [] v (QJ Q)
  refine g_lconst (0 : Int64) e_M_alike_0 (by decide) ?_
  refine g_lstore_n (L' := [(2, .long ((0 : Int64))), (0, .ref (154)), (1, .int (l1))]) e_M_alike_1 rfl (by decide) rfl ?_
  refine g_iconst (0 : Int32) e_M_alike_2 (by decide) ?_
  refine g_istore (L' := [(4, .int ((0 : Int32))), (2, .long ((0 : Int64))), (0, .ref (154)), (1, .int (l1))]) e_M_alike_3 (by decide) rfl ?_
  exact g_sub [2, 3, 1, 0] rfl h
set_option maxHeartbeats 1000000 in
theorem s_M_alike_5 {l1 : Int32} {l2 : Int64} {l4 : Int32} {v : Vv} {Q : Int64 → Vv → Prop} (h : m_M_worlds  (v) (fun x1 v2 => if l4 < x1 then (k_M_alike_20 (l1) (l2) (l4) ((0 : Int64)) ((0 : Int32)) (v2) Q) else (Q (l2) (v2)))) : k_M_alike_5 l1 l2 l4 v Q := by
  show Gp 3 M_M_alike 5 [(0, .ref (154)), (1, .int (l1)), (2, .long (l2)), (4, .int (l4))] [] v (QJ Q)
  refine g_iload 3 e_M_alike_5 rfl ?_
  refine g_aload_n 0 e_M_alike_7 rfl rfl ?_
  refine p_callVI (d' := 1) (ci := 10) (r := (RX10, TX10, 49)) (As := []) (rest := [.int (l4)]) e_M_alike_8 zm_M_worlds lV_M_371 sh_154 rfl rfl rfl rfl (Nat.le_of_ble_eq_true rfl) (by decide) ?_
  refine cp_mono h (fun _ v2 ⟨x1, e1, h⟩ => ⟨x1, e1, ?_⟩)
  refine g_icmp_ge (tgt := 110) e_M_alike_11 rfl (fun c3 => ?_) (fun c3 => ?_)
  · replace h := iteF h c3
    refine g_lload_n 2 e_M_alike_110 rfl rfl ?_
    exact p_retJ e_M_alike_111.1 rfl h
  · replace h := iteT h c3
    refine g_lconst (0 : Int64) e_M_alike_14 (by decide) ?_
    refine g_lstore (L' := [(5, .long ((0 : Int64))), (0, .ref (154)), (1, .int (l1)), (2, .long (l2)), (4, .int (l4))]) e_M_alike_15 (by decide) rfl ?_
    refine g_iconst (0 : Int32) e_M_alike_17 (by decide) ?_
    refine g_istore (L' := [(7, .int ((0 : Int32))), (5, .long ((0 : Int64))), (0, .ref (154)), (1, .int (l1)), (2, .long (l2)), (4, .int (l4))]) e_M_alike_18 (by decide) rfl ?_
    exact g_sub [2, 3, 4, 5, 1, 0] rfl h
set_option maxHeartbeats 1000000 in
theorem s_M_alike_20 {l1 : Int32} {l2 : Int64} {l4 : Int32} {l5 : Int64} {l7 : Int32} {v : Vv} {Q : Int64 → Vv → Prop} (h : m_M_worlds  (v) (fun x4 v5 => if l7 < x4 then ((ib (l4) 32) ∧ (if (v5).1 169 (ix (l4)) = (1 : Int32) then ((ib (l7) 32) ∧ (if (v5).1 169 (ix (l7)) = (1 : Int32) then (m_M_saysIn l7 l1 (v5) (fun x11 v12 => m_M_saysIn l4 l1 (v12) (fun x13 v14 => k_M_alike_20 (l1) (l2) (l4) ((l5 + (if x11 = x13 then (v14).2.1 167 (ix (l7)) else (0 : Int64)))) ((l7 + (1 : Int32))) (v14) Q))) else (k_M_alike_80 (l1) (l2) (l4) (l7) (l5) (v5) Q))) else (k_M_alike_90 (l1) (l2) (l4) (l5) (v5) Q))) else (k_M_alike_90 (l1) (l2) (l4) (l5) (v5) Q))) : k_M_alike_20 l1 l2 l4 l5 l7 v Q := by
  show Gp 3 M_M_alike 20 [(0, .ref (154)), (1, .int (l1)), (2, .long (l2)), (4, .int (l4)), (5, .long (l5)), (7, .int (l7))] [] v (QJ Q)
  refine g_iload 5 e_M_alike_20 rfl ?_
  refine g_aload_n 0 e_M_alike_22 rfl rfl ?_
  refine p_callVI (d' := 1) (ci := 10) (r := (RX10, TX10, 49)) (As := []) (rest := [.int (l7)]) e_M_alike_23 zm_M_worlds lV_M_371 sh_154 rfl rfl rfl rfl (Nat.le_of_ble_eq_true rfl) (by decide) ?_
  refine cp_mono h (fun _ v5 ⟨x4, e1, h⟩ => ⟨x4, e1, ?_⟩)
  refine g_icmp_ge (tgt := 90) e_M_alike_26 rfl (fun c6 => ?_) (fun c6 => ?_)
  · replace h := iteF h c6
    exact g_sub [0, 1, 2, 3, 4] rfl h
  · replace h := iteT h c6
    refine g_aload_n 0 e_M_alike_29 rfl rfl ?_
    refine p_getR (j := 169) e_M_alike_30 sh_154 fl_M_57 rfl (rf_154_35 _) ?_
    refine g_iload 3 e_M_alike_33 rfl ?_
    obtain ⟨h7, h⟩ := h
    refine p_iald e_M_alike_35 sh_169 h7 ?_
    refine g_iconst (1 : Int32) e_M_alike_36 (by decide) ?_
    refine g_icmp_ne (tgt := 90) e_M_alike_37 rfl (fun c8 => ?_) (fun c8 => ?_)
    · replace h := iteF h c8
      exact g_sub [0, 1, 2, 3, 4] rfl h
    · replace h := iteT h c8
      refine g_lload 4 e_M_alike_40 rfl ?_
      refine g_aload_n 0 e_M_alike_42 rfl rfl ?_
      refine p_getR (j := 169) e_M_alike_43 sh_154 fl_M_57 rfl (rf_154_35 _) ?_
      refine g_iload 5 e_M_alike_46 rfl ?_
      obtain ⟨h9, h⟩ := h
      refine p_iald e_M_alike_48 sh_169 h9 ?_
      refine g_iconst (1 : Int32) e_M_alike_49 (by decide) ?_
      refine g_icmp_ne (tgt := 80) e_M_alike_50 rfl (fun c10 => ?_) (fun c10 => ?_)
      · replace h := iteF h c10
        exact g_sub [0, 1, 2, 3, 5] rfl h
      · replace h := iteT h c10
        refine g_aload_n 0 e_M_alike_53 rfl rfl ?_
        refine g_iload 5 e_M_alike_54 rfl ?_
        refine g_iload_n 1 e_M_alike_56 rfl rfl ?_
        refine p_callVI (d' := 2) (ci := 10) (r := (RX10, TX10, 49)) (As := [.int (l7), .int (l1)]) (rest := [.long (l5)]) e_M_alike_57 zm_M_saysIn lV_M_402 sh_154 rfl rfl rfl rfl (Nat.le_of_ble_eq_true rfl) (by decide) ?_
        refine cp_mono h (fun _ v12 ⟨x11, e1, h⟩ => ⟨x11, e1, ?_⟩)
        refine g_aload_n 0 e_M_alike_60 rfl rfl ?_
        refine g_iload 3 e_M_alike_61 rfl ?_
        refine g_iload_n 1 e_M_alike_63 rfl rfl ?_
        refine p_callVI (d' := 2) (ci := 10) (r := (RX10, TX10, 49)) (As := [.int (l4), .int (l1)]) (rest := [.int (x11), .long (l5)]) e_M_alike_64 zm_M_saysIn lV_M_402 sh_154 rfl rfl rfl rfl (Nat.le_of_ble_eq_true rfl) (by decide) ?_
        refine cp_mono h (fun _ v14 ⟨x13, e1, h⟩ => ⟨x13, e1, ?_⟩)
        have hj : ∀ m0 : Int64, m0 = (if x11 = x13 then (v14).2.1 167 (ix (l7)) else (0 : Int64)) → Gp 3 M_M_alike 81 [(0, .ref (154)), (1, .int (l1)), (2, .long (l2)), (4, .int (l4)), (5, .long (l5)), (7, .int (l7))] [.long (m0), .long (l5)] (v14) (QJ Q) := by
          intro m0 hm0
          subst hm0
          refine g_ladd e_M_alike_81 ?_
          refine g_lstore (L' := [(5, .long ((l5 + (if x11 = x13 then (v14).2.1 167 (ix (l7)) else (0 : Int64))))), (0, .ref (154)), (1, .int (l1)), (2, .long (l2)), (4, .int (l4)), (7, .int (l7))]) e_M_alike_82 (by decide) rfl ?_
          refine g_iinc (v := (l7 + (1 : Int32))) (L' := [(7, .int ((l7 + (1 : Int32)))), (5, .long ((l5 + (if x11 = x13 then (v14).2.1 167 (ix (l7)) else (0 : Int64))))), (0, .ref (154)), (1, .int (l1)), (2, .long (l2)), (4, .int (l4))]) 5 e_M_alike_84 rfl rfl (by decide) rfl ?_
          refine g_goto (tgt := 20) e_M_alike_87 rfl ?_
          exact g_sub [2, 3, 4, 5, 1, 0] rfl h
        refine g_icmp_ne (tgt := 80) e_M_alike_67 rfl (fun c15 => ?_) (fun c15 => ?_)
        · refine g_lconst (0 : Int64) e_M_alike_80 (by decide) ?_
          exact hj ((0 : Int64)) (by simp only [if_neg c15])
        · refine g_aload_n 0 e_M_alike_70 rfl rfl ?_
          refine p_getR (j := 167) e_M_alike_71 sh_154 fl_M_50 rfl (rf_154_33 _) ?_
          refine g_iload 5 e_M_alike_74 rfl ?_
          refine p_lald e_M_alike_76 sh_167 h9 ?_
          refine g_goto (tgt := 81) e_M_alike_77 rfl ?_
          exact hj ((v14).2.1 167 (ix (l7))) (by simp only [if_pos c15])
set_option maxHeartbeats 1000000 in
theorem s_M_alike_80 {l1 : Int32} {l2 : Int64} {l4 : Int32} {l7 : Int32} {t0 : Int64} {v : Vv} {Q : Int64 → Vv → Prop} (h : k_M_alike_81 (l1) (l2) (l4) (l7) ((0 : Int64)) (t0) (v) Q) : k_M_alike_80 l1 l2 l4 l7 t0 v Q := by
  show Gp 3 M_M_alike 80 [(0, .ref (154)), (1, .int (l1)), (2, .long (l2)), (4, .int (l4)), (7, .int (l7))] [.long (t0)] v (QJ Q)
  refine g_lconst (0 : Int64) e_M_alike_80 (by decide) ?_
  exact g_sub [0, 1, 2, 3, 4] rfl h
set_option maxHeartbeats 1000000 in
theorem s_M_alike_90 {l1 : Int32} {l2 : Int64} {l4 : Int32} {l5 : Int64} {v : Vv} {Q : Int64 → Vv → Prop} (h : if l2 < l5 then (k_M_alike_103 (l1) (l4) (l5) (v) Q) else (k_M_alike_103 (l1) (l4) (l2) (v) Q)) : k_M_alike_90 l1 l2 l4 l5 v Q := by
  show Gp 3 M_M_alike 90 [(0, .ref (154)), (1, .int (l1)), (2, .long (l2)), (4, .int (l4)), (5, .long (l5))] [] v (QJ Q)
  refine g_lload 4 e_M_alike_90 rfl ?_
  refine g_lload_n 2 e_M_alike_92 rfl rfl ?_
  refine g_l_le (tgt := 102) e_M_alike_93 e_M_alike_94 rfl (fun c16 => ?_) (fun c16 => ?_)
  · replace h := iteF h c16
    refine g_lload_n 2 e_M_alike_102 rfl rfl ?_
    exact g_sub [0, 1, 3] rfl h
  · replace h := iteT h c16
    refine g_lload 4 e_M_alike_97 rfl ?_
    refine g_goto (tgt := 103) e_M_alike_99 rfl ?_
    exact g_sub [0, 1, 3] rfl h
set_option maxHeartbeats 1000000 in
theorem s_M_alike_81 {l1 : Int32} {l2 : Int64} {l4 : Int32} {l7 : Int32} {t0 : Int64} {t1 : Int64} {v : Vv} {Q : Int64 → Vv → Prop} (h : k_M_alike_20 (l1) (l2) (l4) ((t1 + t0)) ((l7 + (1 : Int32))) (v) Q) : k_M_alike_81 l1 l2 l4 l7 t0 t1 v Q := by
  show Gp 3 M_M_alike 81 [(0, .ref (154)), (1, .int (l1)), (2, .long (l2)), (4, .int (l4)), (7, .int (l7))] [.long (t0), .long (t1)] v (QJ Q)
  refine g_ladd e_M_alike_81 ?_
  refine g_lstore (L' := [(5, .long ((t1 + t0))), (0, .ref (154)), (1, .int (l1)), (2, .long (l2)), (4, .int (l4)), (7, .int (l7))]) e_M_alike_82 (by decide) rfl ?_
  refine g_iinc (v := (l7 + (1 : Int32))) (L' := [(7, .int ((l7 + (1 : Int32)))), (5, .long ((t1 + t0))), (0, .ref (154)), (1, .int (l1)), (2, .long (l2)), (4, .int (l4))]) 5 e_M_alike_84 rfl rfl (by decide) rfl ?_
  refine g_goto (tgt := 20) e_M_alike_87 rfl ?_
  exact g_sub [2, 3, 4, 5, 1, 0] rfl h
set_option maxHeartbeats 1000000 in
theorem s_M_alike_103 {l1 : Int32} {l4 : Int32} {t0 : Int64} {v : Vv} {Q : Int64 → Vv → Prop} (h : k_M_alike_5 (l1) (t0) ((l4 + (1 : Int32))) (v) Q) : k_M_alike_103 l1 l4 t0 v Q := by
  show Gp 3 M_M_alike 103 [(0, .ref (154)), (1, .int (l1)), (4, .int (l4))] [.long (t0)] v (QJ Q)
  refine g_lstore_n (L' := [(2, .long (t0)), (0, .ref (154)), (1, .int (l1)), (4, .int (l4))]) e_M_alike_103 rfl (by decide) rfl ?_
  refine g_iinc (v := (l4 + (1 : Int32))) (L' := [(4, .int ((l4 + (1 : Int32)))), (2, .long (t0)), (0, .ref (154)), (1, .int (l1))]) 3 e_M_alike_104 rfl rfl (by decide) rfl ?_
  refine g_goto (tgt := 5) e_M_alike_107 rfl ?_
  exact g_sub [2, 3, 1, 0] rfl h
set_option maxHeartbeats 1000000 in
theorem s_M_sheet {l1 : Int32} {l2 : Int32} {l3 : Int32} {v : Vv} {Q : Int32 → Vv → Prop} (h : m_M_isSheet l1 (v) (fun x1 v2 => if x1 = true then (m_M_in ((l2).toInt64) (-1 : Int64) (2 : Int64) (v2) (fun x4 v5 => if x4 = true then (if l2 < (0 : Int32) then (k_M_sheet_34 (l1) (l2) (l3) (v5) Q) else (if (40 : Int32) < l3 then (Q ((-2 : Int32)) (v5)) else (k_M_sheet_34 (l1) (l2) (l3) (v5) Q))) else (Q ((-2 : Int32)) (v5)))) else (Q ((-2 : Int32)) (v2)))) : m_M_sheet l1 l2 l3 v Q := by
  refine cp_go (Nat.le_of_ble_eq_true rfl) (by decide +kernel) ?_
  show Gp 3 M_M_sheet 0 [(0, .ref (154)), (1, .int (l1)), (2, .int (l2)), (3, .int (l3))] [] v (QI Q)
  refine g_iload_n 1 e_M_sheet_0 rfl rfl ?_
  refine p_callSZ (d' := 2) (As := [.int (l1)]) (rest := []) e_M_sheet_1 zm_M_isSheet lS_M_422 rfl rfl (Nat.le_of_ble_eq_true rfl) (by decide) ?_
  refine cp_mono h (fun _ v2 ⟨x1, e1, h⟩ => ⟨x1, e1, ?_⟩)
  refine p_ifz_eq (tgt := 31) e_M_sheet_4 rfl (fun c3 => ?_) (fun c3 => ?_)
  · replace h := iteF h c3
    refine g_bipush (-2 : Int32) e_M_sheet_31 (by decide) ?_
    exact p_retI e_M_sheet_33.1 rfl h
  · replace h := iteT h c3
    refine g_iload_n 2 e_M_sheet_7 rfl rfl ?_
    refine g_i2l e_M_sheet_8 ?_
    refine g_ldc2 (v := (-1 : Int64)) (hd := e_M_sheet_9) cl_M_445 ?_
    refine g_ldc2 (v := (2 : Int64)) (hd := e_M_sheet_12) cl_M_381 ?_
    refine p_callSZ (d' := 1) (As := [.long ((l2).toInt64), .long ((-1 : Int64)), .long ((2 : Int64))]) (rest := []) e_M_sheet_15 zm_M_in lS_M_95 rfl rfl (Nat.le_of_ble_eq_true rfl) (by decide) ?_
    refine cp_mono h (fun _ v5 ⟨x4, e1, h⟩ => ⟨x4, e1, ?_⟩)
    refine p_ifz_eq (tgt := 31) e_M_sheet_18 rfl (fun c6 => ?_) (fun c6 => ?_)
    · replace h := iteF h c6
      refine g_bipush (-2 : Int32) e_M_sheet_31 (by decide) ?_
      exact p_retI e_M_sheet_33.1 rfl h
    · replace h := iteT h c6
      refine g_iload_n 2 e_M_sheet_21 rfl rfl ?_
      refine g_if_lt (tgt := 34) e_M_sheet_22 rfl (fun c7 => ?_) (fun c7 => ?_)
      · replace h := iteT h c7
        exact g_sub [0, 1, 2, 3] rfl h
      · replace h := iteF h c7
        refine g_iload_n 3 e_M_sheet_25 rfl rfl ?_
        refine g_bipush (40 : Int32) e_M_sheet_26 (by decide) ?_
        refine g_icmp_le (tgt := 34) e_M_sheet_28 rfl (fun c8 => ?_) (fun c8 => ?_)
        · replace h := iteF h c8
          exact g_sub [0, 1, 2, 3] rfl h
        · replace h := iteT h c8
          refine g_bipush (-2 : Int32) e_M_sheet_31 (by decide) ?_
          exact p_retI e_M_sheet_33.1 rfl h
set_option maxHeartbeats 1000000 in
theorem s_M_sheet_34 {l1 : Int32} {l2 : Int32} {l3 : Int32} {v : Vv} {Q : Int32 → Vv → Prop} (h : if l2 < (0 : Int32) then (k_M_sheet_45 (l1) (l2) (l3) (v) Q) else (if l3 < (0 : Int32) then (Q ((-14 : Int32)) (v)) else (k_M_sheet_45 (l1) (l2) (l3) (v) Q))) : k_M_sheet_34 l1 l2 l3 v Q := by
  show Gp 3 M_M_sheet 34 [(0, .ref (154)), (1, .int (l1)), (2, .int (l2)), (3, .int (l3))] [] v (QI Q)
  refine g_iload_n 2 e_M_sheet_34 rfl rfl ?_
  refine g_if_lt (tgt := 45) e_M_sheet_35 rfl (fun c9 => ?_) (fun c9 => ?_)
  · replace h := iteT h c9
    exact g_sub [0, 1, 2, 3] rfl h
  · replace h := iteF h c9
    refine g_iload_n 3 e_M_sheet_38 rfl rfl ?_
    refine g_if_ge (tgt := 45) e_M_sheet_39 rfl (fun c10 => ?_) (fun c10 => ?_)
    · replace h := iteF h c10
      exact g_sub [0, 1, 2, 3] rfl h
    · replace h := iteT h c10
      refine g_bipush (-14 : Int32) e_M_sheet_42 (by decide) ?_
      exact p_retI e_M_sheet_44.1 rfl h
set_option maxHeartbeats 1000000 in
theorem s_M_sheet_45 {l1 : Int32} {l2 : Int32} {l3 : Int32} {v : Vv} {Q : Int32 → Vv → Prop} (h : (ib (l1) 4) ∧ (k_M_sheet_77 (l1) (l2) (l3) ((0 : Int32)) (sI (sI (sI (v) 173 (ix (l1)) (nb (bI ((if l2 < (0 : Int32) then false else true))))) 174 (ix (l1)) l2) 175 (ix (l1)) l3) Q)) : k_M_sheet_45 l1 l2 l3 v Q := by
  show Gp 3 M_M_sheet 45 [(0, .ref (154)), (1, .int (l1)), (2, .int (l2)), (3, .int (l3))] [] v (QI Q)
  refine g_aload_n 0 e_M_sheet_45 rfl rfl ?_
  refine p_getR (j := 173) e_M_sheet_46 sh_154 fl_M_72 rfl (rf_154_45 _) ?_
  refine g_iload_n 1 e_M_sheet_49 rfl rfl ?_
  refine g_iload_n 2 e_M_sheet_50 rfl rfl ?_
  have hj : ∀ m0 : Bool, m0 = (if l2 < (0 : Int32) then false else true) → Gp 3 M_M_sheet 59 [(0, .ref (154)), (1, .int (l1)), (2, .int (l2)), (3, .int (l3))] [.int (bI (m0)), .int (l1), .ref (173)] (v) (QI Q) := by
    intro m0 hm0
    subst hm0
    obtain ⟨h12, h⟩ := h
    refine p_zast e_M_sheet_59 sh_173 h12 ?_
    refine g_aload_n 0 e_M_sheet_60 rfl rfl ?_
    refine p_getR (j := 174) e_M_sheet_61 sh_154 fl_M_76 rfl (rf_154_46 _) ?_
    refine g_iload_n 1 e_M_sheet_64 rfl rfl ?_
    refine g_iload_n 2 e_M_sheet_65 rfl rfl ?_
    refine p_iast e_M_sheet_66 sh_174 h12 ?_
    refine g_aload_n 0 e_M_sheet_67 rfl rfl ?_
    refine p_getR (j := 175) e_M_sheet_68 sh_154 fl_M_79 rfl (rf_154_47 _) ?_
    refine g_iload_n 1 e_M_sheet_71 rfl rfl ?_
    refine g_iload_n 3 e_M_sheet_72 rfl rfl ?_
    refine p_iast e_M_sheet_73 sh_175 h12 ?_
    refine g_iconst (0 : Int32) e_M_sheet_74 (by decide) ?_
    refine g_istore (L' := [(4, .int ((0 : Int32))), (0, .ref (154)), (1, .int (l1)), (2, .int (l2)), (3, .int (l3))]) e_M_sheet_75 (by decide) rfl ?_
    exact g_sub [1, 2, 3, 4, 0] rfl h
  refine g_if_lt (tgt := 58) e_M_sheet_51 rfl (fun c11 => ?_) (fun c11 => ?_)
  · refine g_iconst (0 : Int32) e_M_sheet_58 (by decide) ?_
    exact hj (false) (by simp only [if_pos c11])
  · refine g_iconst (1 : Int32) e_M_sheet_54 (by decide) ?_
    refine g_goto (tgt := 59) e_M_sheet_55 rfl ?_
    exact hj (true) (by simp only [if_neg c11])
set_option maxHeartbeats 1000000 in
theorem s_M_sheet_77 {l1 : Int32} {l2 : Int32} {l3 : Int32} {l4 : Int32} {v : Vv} {Q : Int32 → Vv → Prop} (h : if l4 < l3 then (if l2 < (0 : Int32) then (Q ((1 : Int32)) (v)) else ((ib ((((40 : Int32) * l1) + l4)) 160) ∧ (k_M_sheet_77 (l1) (l2) (l3) ((l4 + (1 : Int32))) (sI (v) 176 (ix ((((40 : Int32) * l1) + l4))) (0 : Int32)) Q))) else (Q ((1 : Int32)) (v))) : k_M_sheet_77 l1 l2 l3 l4 v Q := by
  show Gp 3 M_M_sheet 77 [(0, .ref (154)), (1, .int (l1)), (2, .int (l2)), (3, .int (l3)), (4, .int (l4))] [] v (QI Q)
  refine g_iload 4 e_M_sheet_77 rfl ?_
  refine g_iload_n 3 e_M_sheet_79 rfl rfl ?_
  refine g_icmp_ge (tgt := 106) e_M_sheet_80 rfl (fun c13 => ?_) (fun c13 => ?_)
  · replace h := iteF h c13
    refine g_iconst (1 : Int32) e_M_sheet_106 (by decide) ?_
    exact p_retI e_M_sheet_107.1 rfl h
  · replace h := iteT h c13
    refine g_iload_n 2 e_M_sheet_83 rfl rfl ?_
    refine g_if_lt (tgt := 106) e_M_sheet_84 rfl (fun c14 => ?_) (fun c14 => ?_)
    · replace h := iteT h c14
      refine g_iconst (1 : Int32) e_M_sheet_106 (by decide) ?_
      exact p_retI e_M_sheet_107.1 rfl h
    · replace h := iteF h c14
      refine g_aload_n 0 e_M_sheet_87 rfl rfl ?_
      refine p_getR (j := 176) e_M_sheet_88 sh_154 fl_M_82 rfl (rf_154_48 _) ?_
      refine g_bipush (40 : Int32) e_M_sheet_91 (by decide) ?_
      refine g_iload_n 1 e_M_sheet_93 rfl rfl ?_
      refine g_imul e_M_sheet_94 ?_
      refine g_iload 4 e_M_sheet_95 rfl ?_
      refine g_iadd e_M_sheet_97 ?_
      refine g_iconst (0 : Int32) e_M_sheet_98 (by decide) ?_
      obtain ⟨h15, h⟩ := h
      refine p_iast e_M_sheet_99 sh_176 h15 ?_
      refine g_iinc (v := (l4 + (1 : Int32))) (L' := [(4, .int ((l4 + (1 : Int32)))), (0, .ref (154)), (1, .int (l1)), (2, .int (l2)), (3, .int (l3))]) 4 e_M_sheet_100 rfl rfl (by decide) rfl ?_
      refine g_goto (tgt := 77) e_M_sheet_103 rfl ?_
      exact g_sub [1, 2, 3, 4, 0] rfl h
set_option maxHeartbeats 1000000 in
theorem s_M_cell {l1 : Int32} {l2 : Int32} {l3 : Int32} {v : Vv} {Q : Int32 → Vv → Prop} (h : m_M_isSheet l1 (v) (fun x1 v2 => if x1 = true then ((ib (l1) 4) ∧ (if (v2).1 173 (ix (l1)) = (0 : Int32) then (Q ((-11 : Int32)) (v2)) else (m_M_in ((l2).toInt64) (0 : Int64) ((((v2).1 175 (ix (l1)) - (1 : Int32))).toInt64) (v2) (fun x6 v7 => if x6 = true then ((ib ((((40 : Int32) * l1) + l2)) 160) ∧ (Q ((1 : Int32)) (sI (v7) 176 (ix ((((40 : Int32) * l1) + l2))) (if (v7).1 174 (ix (l1)) = (0 : Int32) then (l3).toInt8.toInt32 else (if (v7).1 174 (ix (l1)) = (1 : Int32) then (l3).toInt16.toInt32 else l3))))) else (Q ((-12 : Int32)) (v7)))))) else (Q ((-2 : Int32)) (v2)))) : m_M_cell l1 l2 l3 v Q := by
  refine cp_go (Nat.le_of_ble_eq_true rfl) (by decide +kernel) ?_
  show Gp 3 M_M_cell 0 [(0, .ref (154)), (1, .int (l1)), (2, .int (l2)), (3, .int (l3))] [] v (QI Q)
  refine g_iload_n 1 e_M_cell_0 rfl rfl ?_
  refine p_callSZ (d' := 2) (As := [.int (l1)]) (rest := []) e_M_cell_1 zm_M_isSheet lS_M_422 rfl rfl (Nat.le_of_ble_eq_true rfl) (by decide) ?_
  refine cp_mono h (fun _ v2 ⟨x1, e1, h⟩ => ⟨x1, e1, ?_⟩)
  refine p_ifz_ne (tgt := 10) e_M_cell_4 rfl (fun c3 => ?_) (fun c3 => ?_)
  · replace h := iteT h c3
    refine g_aload_n 0 e_M_cell_10 rfl rfl ?_
    refine p_getR (j := 173) e_M_cell_11 sh_154 fl_M_72 rfl (rf_154_45 _) ?_
    refine g_iload_n 1 e_M_cell_14 rfl rfl ?_
    obtain ⟨h4, h⟩ := h
    refine p_zald e_M_cell_15 sh_173 h4 ?_
    refine g_if_ne (tgt := 22) e_M_cell_16 rfl (fun c5 => ?_) (fun c5 => ?_)
    · replace h := iteF h c5
      refine g_iload_n 2 e_M_cell_22 rfl rfl ?_
      refine g_i2l e_M_cell_23 ?_
      refine g_lconst (0 : Int64) e_M_cell_24 (by decide) ?_
      refine g_aload_n 0 e_M_cell_25 rfl rfl ?_
      refine p_getR (j := 175) e_M_cell_26 sh_154 fl_M_79 rfl (rf_154_47 _) ?_
      refine g_iload_n 1 e_M_cell_29 rfl rfl ?_
      refine p_iald e_M_cell_30 sh_175 h4 ?_
      refine g_iconst (1 : Int32) e_M_cell_31 (by decide) ?_
      refine g_isub e_M_cell_32 ?_
      refine g_i2l e_M_cell_33 ?_
      refine p_callSZ (d' := 1) (As := [.long ((l2).toInt64), .long ((0 : Int64)), .long ((((v2).1 175 (ix (l1)) - (1 : Int32))).toInt64)]) (rest := []) e_M_cell_34 zm_M_in lS_M_95 rfl rfl (Nat.le_of_ble_eq_true rfl) (by decide) ?_
      refine cp_mono h (fun _ v7 ⟨x6, e1, h⟩ => ⟨x6, e1, ?_⟩)
      refine p_ifz_ne (tgt := 43) e_M_cell_37 rfl (fun c8 => ?_) (fun c8 => ?_)
      · replace h := iteT h c8
        refine g_aload_n 0 e_M_cell_43 rfl rfl ?_
        refine p_getR (j := 176) e_M_cell_44 sh_154 fl_M_82 rfl (rf_154_48 _) ?_
        refine g_bipush (40 : Int32) e_M_cell_47 (by decide) ?_
        refine g_iload_n 1 e_M_cell_49 rfl rfl ?_
        refine g_imul e_M_cell_50 ?_
        refine g_iload_n 2 e_M_cell_51 rfl rfl ?_
        refine g_iadd e_M_cell_52 ?_
        refine g_aload_n 0 e_M_cell_53 rfl rfl ?_
        refine p_getR (j := 174) e_M_cell_54 sh_154 fl_M_76 rfl (rf_154_46 _) ?_
        refine g_iload_n 1 e_M_cell_57 rfl rfl ?_
        refine p_iald e_M_cell_58 sh_174 h4 ?_
        have hj : ∀ m0 : Int32, m0 = (if (v7).1 174 (ix (l1)) = (0 : Int32) then (l3).toInt8.toInt32 else (if (v7).1 174 (ix (l1)) = (1 : Int32) then (l3).toInt16.toInt32 else l3)) → Gp 3 M_M_cell 83 [(0, .ref (154)), (1, .int (l1)), (2, .int (l2)), (3, .int (l3))] [.int (m0), .int ((((40 : Int32) * l1) + l2)), .ref (176)] (v7) (QI Q) := by
          intro m0 hm0
          subst hm0
          obtain ⟨h11, h⟩ := h
          refine p_iast e_M_cell_83 sh_176 h11 ?_
          refine g_iconst (1 : Int32) e_M_cell_84 (by decide) ?_
          exact p_retI e_M_cell_85.1 rfl h
        refine g_if_ne (tgt := 67) e_M_cell_59 rfl (fun c9 => ?_) (fun c9 => ?_)
        · refine g_aload_n 0 e_M_cell_67 rfl rfl ?_
          refine p_getR (j := 174) e_M_cell_68 sh_154 fl_M_76 rfl (rf_154_46 _) ?_
          refine g_iload_n 1 e_M_cell_71 rfl rfl ?_
          refine p_iald e_M_cell_72 sh_174 h4 ?_
          refine g_iconst (1 : Int32) e_M_cell_73 (by decide) ?_
          refine g_icmp_ne (tgt := 82) e_M_cell_74 rfl (fun c10 => ?_) (fun c10 => ?_)
          · refine g_iload_n 3 e_M_cell_82 rfl rfl ?_
            exact hj (l3) (by simp only [if_neg c9, if_neg c10])
          · refine g_iload_n 3 e_M_cell_77 rfl rfl ?_
            refine g_i2s e_M_cell_78 ?_
            refine g_goto (tgt := 83) e_M_cell_79 rfl ?_
            exact hj ((l3).toInt16.toInt32) (by simp only [if_neg c9, if_pos c10])
        · refine g_iload_n 3 e_M_cell_62 rfl rfl ?_
          refine g_i2b e_M_cell_63 ?_
          refine g_goto (tgt := 83) e_M_cell_64 rfl ?_
          exact hj ((l3).toInt8.toInt32) (by simp only [if_pos c9])
      · replace h := iteF h c8
        refine g_bipush (-12 : Int32) e_M_cell_40 (by decide) ?_
        exact p_retI e_M_cell_42.1 rfl h
    · replace h := iteT h c5
      refine g_bipush (-11 : Int32) e_M_cell_19 (by decide) ?_
      exact p_retI e_M_cell_21.1 rfl h
  · replace h := iteF h c3
    refine g_bipush (-2 : Int32) e_M_cell_7 (by decide) ?_
    exact p_retI e_M_cell_9.1 rfl h
set_option maxHeartbeats 1000000 in
theorem s_M_copy {l1 : Int32} {l2 : Int32} {l3 : Int32} {l4 : Int32} {l5 : Int32} {v : Vv} {Q : Int32 → Vv → Prop} (h : m_M_isSheet l1 (v) (fun x1 v2 => if x1 = true then (m_M_isSheet l3 (v2) (fun x4 v5 => if x4 = true then ((ib (l1) 4) ∧ (if (v5).1 173 (ix (l1)) = (0 : Int32) then (Q ((-11 : Int32)) (v5)) else ((ib (l3) 4) ∧ (if (v5).1 173 (ix (l3)) = (0 : Int32) then (Q ((-11 : Int32)) (v5)) else (if (v5).1 174 (ix (l1)) = (v5).1 174 (ix (l3)) then (if l5 < (0 : Int32) then (Q ((-12 : Int32)) (v5)) else (if l2 < (0 : Int32) then (Q ((-12 : Int32)) (v5)) else (if l4 < (0 : Int32) then (Q ((-12 : Int32)) (v5)) else (if ((v5).1 175 (ix (l1)) - l5) < l2 then (Q ((-12 : Int32)) (v5)) else (if ((v5).1 175 (ix (l3)) - l5) < l4 then (Q ((-12 : Int32)) (v5)) else (k_M_copy_121 (l1) (l2) (l3) (l4) (l5) (bI ((if l1 = l3 then (if l2 < l4 then true else false) else false))) ((0 : Int32)) (v5) Q)))))) else (Q ((-13 : Int32)) (v5))))))) else (Q ((-2 : Int32)) (v5)))) else (Q ((-2 : Int32)) (v2)))) : m_M_copy l1 l2 l3 l4 l5 v Q := by
  refine cp_go (Nat.le_of_ble_eq_true rfl) (by decide +kernel) ?_
  show Gp 3 M_M_copy 0 [(0, .ref (154)), (1, .int (l1)), (2, .int (l2)), (3, .int (l3)), (4, .int (l4)), (5, .int (l5))] [] v (QI Q)
  refine g_iload_n 1 e_M_copy_0 rfl rfl ?_
  refine p_callSZ (d' := 2) (As := [.int (l1)]) (rest := []) e_M_copy_1 zm_M_isSheet lS_M_422 rfl rfl (Nat.le_of_ble_eq_true rfl) (by decide) ?_
  refine cp_mono h (fun _ v2 ⟨x1, e1, h⟩ => ⟨x1, e1, ?_⟩)
  refine p_ifz_eq (tgt := 14) e_M_copy_4 rfl (fun c3 => ?_) (fun c3 => ?_)
  · replace h := iteF h c3
    refine g_bipush (-2 : Int32) e_M_copy_14 (by decide) ?_
    exact p_retI e_M_copy_16.1 rfl h
  · replace h := iteT h c3
    refine g_iload_n 3 e_M_copy_7 rfl rfl ?_
    refine p_callSZ (d' := 2) (As := [.int (l3)]) (rest := []) e_M_copy_8 zm_M_isSheet lS_M_422 rfl rfl (Nat.le_of_ble_eq_true rfl) (by decide) ?_
    refine cp_mono h (fun _ v5 ⟨x4, e1, h⟩ => ⟨x4, e1, ?_⟩)
    refine p_ifz_ne (tgt := 17) e_M_copy_11 rfl (fun c6 => ?_) (fun c6 => ?_)
    · replace h := iteT h c6
      refine g_aload_n 0 e_M_copy_17 rfl rfl ?_
      refine p_getR (j := 173) e_M_copy_18 sh_154 fl_M_72 rfl (rf_154_45 _) ?_
      refine g_iload_n 1 e_M_copy_21 rfl rfl ?_
      obtain ⟨h7, h⟩ := h
      refine p_zald e_M_copy_22 sh_173 h7 ?_
      refine g_if_eq (tgt := 35) e_M_copy_23 rfl (fun c8 => ?_) (fun c8 => ?_)
      · replace h := iteT h c8
        refine g_bipush (-11 : Int32) e_M_copy_35 (by decide) ?_
        exact p_retI e_M_copy_37.1 rfl h
      · replace h := iteF h c8
        refine g_aload_n 0 e_M_copy_26 rfl rfl ?_
        refine p_getR (j := 173) e_M_copy_27 sh_154 fl_M_72 rfl (rf_154_45 _) ?_
        refine g_iload_n 3 e_M_copy_30 rfl rfl ?_
        obtain ⟨h9, h⟩ := h
        refine p_zald e_M_copy_31 sh_173 h9 ?_
        refine g_if_ne (tgt := 38) e_M_copy_32 rfl (fun c10 => ?_) (fun c10 => ?_)
        · replace h := iteF h c10
          refine g_aload_n 0 e_M_copy_38 rfl rfl ?_
          refine p_getR (j := 174) e_M_copy_39 sh_154 fl_M_76 rfl (rf_154_46 _) ?_
          refine g_iload_n 1 e_M_copy_42 rfl rfl ?_
          refine p_iald e_M_copy_43 sh_174 h7 ?_
          refine g_aload_n 0 e_M_copy_44 rfl rfl ?_
          refine p_getR (j := 174) e_M_copy_45 sh_154 fl_M_76 rfl (rf_154_46 _) ?_
          refine g_iload_n 3 e_M_copy_48 rfl rfl ?_
          refine p_iald e_M_copy_49 sh_174 h9 ?_
          refine g_icmp_eq (tgt := 56) e_M_copy_50 rfl (fun c11 => ?_) (fun c11 => ?_)
          · replace h := iteT h c11
            refine g_iload 5 e_M_copy_56 rfl ?_
            refine g_if_lt (tgt := 97) e_M_copy_58 rfl (fun c12 => ?_) (fun c12 => ?_)
            · replace h := iteT h c12
              refine g_bipush (-12 : Int32) e_M_copy_97 (by decide) ?_
              exact p_retI e_M_copy_99.1 rfl h
            · replace h := iteF h c12
              refine g_iload_n 2 e_M_copy_61 rfl rfl ?_
              refine g_if_lt (tgt := 97) e_M_copy_62 rfl (fun c13 => ?_) (fun c13 => ?_)
              · replace h := iteT h c13
                refine g_bipush (-12 : Int32) e_M_copy_97 (by decide) ?_
                exact p_retI e_M_copy_99.1 rfl h
              · replace h := iteF h c13
                refine g_iload 4 e_M_copy_65 rfl ?_
                refine g_if_lt (tgt := 97) e_M_copy_67 rfl (fun c14 => ?_) (fun c14 => ?_)
                · replace h := iteT h c14
                  refine g_bipush (-12 : Int32) e_M_copy_97 (by decide) ?_
                  exact p_retI e_M_copy_99.1 rfl h
                · replace h := iteF h c14
                  refine g_iload_n 2 e_M_copy_70 rfl rfl ?_
                  refine g_aload_n 0 e_M_copy_71 rfl rfl ?_
                  refine p_getR (j := 175) e_M_copy_72 sh_154 fl_M_79 rfl (rf_154_47 _) ?_
                  refine g_iload_n 1 e_M_copy_75 rfl rfl ?_
                  refine p_iald e_M_copy_76 sh_175 h7 ?_
                  refine g_iload 5 e_M_copy_77 rfl ?_
                  refine g_isub e_M_copy_79 ?_
                  refine g_icmp_gt (tgt := 97) e_M_copy_80 rfl (fun c15 => ?_) (fun c15 => ?_)
                  · replace h := iteT h c15
                    refine g_bipush (-12 : Int32) e_M_copy_97 (by decide) ?_
                    exact p_retI e_M_copy_99.1 rfl h
                  · replace h := iteF h c15
                    refine g_iload 4 e_M_copy_83 rfl ?_
                    refine g_aload_n 0 e_M_copy_85 rfl rfl ?_
                    refine p_getR (j := 175) e_M_copy_86 sh_154 fl_M_79 rfl (rf_154_47 _) ?_
                    refine g_iload_n 3 e_M_copy_89 rfl rfl ?_
                    refine p_iald e_M_copy_90 sh_175 h9 ?_
                    refine g_iload 5 e_M_copy_91 rfl ?_
                    refine g_isub e_M_copy_93 ?_
                    refine g_icmp_le (tgt := 100) e_M_copy_94 rfl (fun c16 => ?_) (fun c16 => ?_)
                    · replace h := iteF h c16
                      refine g_iload_n 1 e_M_copy_100 rfl rfl ?_
                      refine g_iload_n 3 e_M_copy_101 rfl rfl ?_
                      have hj : ∀ m0 : Bool, m0 = (if l1 = l3 then (if l2 < l4 then true else false) else false) → Gp 3 M_M_copy 116 [(0, .ref (154)), (1, .int (l1)), (2, .int (l2)), (3, .int (l3)), (4, .int (l4)), (5, .int (l5))] [.int (bI (m0))] (v5) (QI Q) := by
                        intro m0 hm0
                        subst hm0
                        refine g_istore (L' := [(6, .int (bI ((if l1 = l3 then (if l2 < l4 then true else false) else false)))), (0, .ref (154)), (1, .int (l1)), (2, .int (l2)), (3, .int (l3)), (4, .int (l4)), (5, .int (l5))]) e_M_copy_116 (by decide) rfl ?_
                        refine g_iconst (0 : Int32) e_M_copy_118 (by decide) ?_
                        refine g_istore (L' := [(7, .int ((0 : Int32))), (6, .int (bI ((if l1 = l3 then (if l2 < l4 then true else false) else false)))), (0, .ref (154)), (1, .int (l1)), (2, .int (l2)), (3, .int (l3)), (4, .int (l4)), (5, .int (l5))]) e_M_copy_119 (by decide) rfl ?_
                        exact g_sub [2, 3, 4, 5, 6, 7, 1, 0] rfl h
                      refine g_icmp_ne (tgt := 115) e_M_copy_102 rfl (fun c17 => ?_) (fun c17 => ?_)
                      · refine g_iconst (0 : Int32) e_M_copy_115 (by decide) ?_
                        exact hj (false) (by simp only [if_neg c17])
                      · refine g_iload_n 2 e_M_copy_105 rfl rfl ?_
                        refine g_iload 4 e_M_copy_106 rfl ?_
                        refine g_icmp_ge (tgt := 115) e_M_copy_108 rfl (fun c18 => ?_) (fun c18 => ?_)
                        · refine g_iconst (0 : Int32) e_M_copy_115 (by decide) ?_
                          exact hj (false) (by simp only [if_pos c17, if_neg c18])
                        · refine g_iconst (1 : Int32) e_M_copy_111 (by decide) ?_
                          refine g_goto (tgt := 116) e_M_copy_112 rfl ?_
                          exact hj (true) (by simp only [if_pos c17, if_pos c18])
                    · replace h := iteT h c16
                      refine g_bipush (-12 : Int32) e_M_copy_97 (by decide) ?_
                      exact p_retI e_M_copy_99.1 rfl h
          · replace h := iteF h c11
            refine g_bipush (-13 : Int32) e_M_copy_53 (by decide) ?_
            exact p_retI e_M_copy_55.1 rfl h
        · replace h := iteT h c10
          refine g_bipush (-11 : Int32) e_M_copy_35 (by decide) ?_
          exact p_retI e_M_copy_37.1 rfl h
    · replace h := iteF h c6
      refine g_bipush (-2 : Int32) e_M_copy_14 (by decide) ?_
      exact p_retI e_M_copy_16.1 rfl h
set_option maxHeartbeats 1000000 in
theorem s_M_copy_121 {l1 : Int32} {l2 : Int32} {l3 : Int32} {l4 : Int32} {l5 : Int32} {l6 : Int32} {l7 : Int32} {v : Vv} {Q : Int32 → Vv → Prop} (h : if l7 < l5 then ((ib (((((40 : Int32) * l1) + l2) + (if l6 = (0 : Int32) then l7 else ((l5 - (1 : Int32)) - l7)))) 160) ∧ ((ib (((((40 : Int32) * l3) + l4) + (if l6 = (0 : Int32) then l7 else ((l5 - (1 : Int32)) - l7)))) 160) ∧ (k_M_copy_121 (l1) (l2) (l3) (l4) (l5) (l6) ((l7 + (1 : Int32))) (sI (v) 176 (ix (((((40 : Int32) * l3) + l4) + (if l6 = (0 : Int32) then l7 else ((l5 - (1 : Int32)) - l7))))) ((v).1 176 (ix (((((40 : Int32) * l1) + l2) + (if l6 = (0 : Int32) then l7 else ((l5 - (1 : Int32)) - l7))))))) Q))) else (Q (l5) (v))) : k_M_copy_121 l1 l2 l3 l4 l5 l6 l7 v Q := by
  show Gp 3 M_M_copy 121 [(0, .ref (154)), (1, .int (l1)), (2, .int (l2)), (3, .int (l3)), (4, .int (l4)), (5, .int (l5)), (6, .int (l6)), (7, .int (l7))] [] v (QI Q)
  refine g_iload 7 e_M_copy_121 rfl ?_
  refine g_iload 5 e_M_copy_123 rfl ?_
  refine g_icmp_ge (tgt := 182) e_M_copy_125 rfl (fun c19 => ?_) (fun c19 => ?_)
  · replace h := iteF h c19
    refine g_iload 5 e_M_copy_182 rfl ?_
    exact p_retI e_M_copy_184.1 rfl h
  · replace h := iteT h c19
    refine g_iload 6 e_M_copy_128 rfl ?_
    have hj : ∀ m0 : Int32, m0 = (if l6 = (0 : Int32) then l7 else ((l5 - (1 : Int32)) - l7)) → Gp 3 M_M_copy 145 [(0, .ref (154)), (1, .int (l1)), (2, .int (l2)), (3, .int (l3)), (4, .int (l4)), (5, .int (l5)), (6, .int (l6)), (7, .int (l7))] [.int (m0)] (v) (QI Q) := by
      intro m0 hm0
      subst hm0
      refine g_istore (L' := [(8, .int ((if l6 = (0 : Int32) then l7 else ((l5 - (1 : Int32)) - l7)))), (0, .ref (154)), (1, .int (l1)), (2, .int (l2)), (3, .int (l3)), (4, .int (l4)), (5, .int (l5)), (6, .int (l6)), (7, .int (l7))]) e_M_copy_145 (by decide) rfl ?_
      refine g_aload_n 1 e_M_copy_147 rfl rfl ?_
      refine p_getR (j := 176) e_M_copy_148 sh_154 fl_M_82 rfl (rf_154_48 _) ?_
      refine g_bipush (40 : Int32) e_M_copy_151 (by decide) ?_
      refine g_iload_n 4 e_M_copy_153 rfl rfl ?_
      refine g_imul e_M_copy_154 ?_
      refine g_iload 5 e_M_copy_155 rfl ?_
      refine g_iadd e_M_copy_157 ?_
      refine g_iload 0 e_M_copy_158 rfl ?_
      refine g_iadd e_M_copy_160 ?_
      refine g_aload_n 1 e_M_copy_161 rfl rfl ?_
      refine p_getR (j := 176) e_M_copy_162 sh_154 fl_M_82 rfl (rf_154_48 _) ?_
      refine g_bipush (40 : Int32) e_M_copy_165 (by decide) ?_
      refine g_iload_n 2 e_M_copy_167 rfl rfl ?_
      refine g_imul e_M_copy_168 ?_
      refine g_iload_n 3 e_M_copy_169 rfl rfl ?_
      refine g_iadd e_M_copy_170 ?_
      refine g_iload 0 e_M_copy_171 rfl ?_
      refine g_iadd e_M_copy_173 ?_
      obtain ⟨h21, h⟩ := h
      refine p_iald e_M_copy_174 sh_176 h21 ?_
      obtain ⟨h22, h⟩ := h
      refine p_iast e_M_copy_175 sh_176 h22 ?_
      refine g_iinc (v := (l7 + (1 : Int32))) (L' := [(7, .int ((l7 + (1 : Int32)))), (8, .int ((if l6 = (0 : Int32) then l7 else ((l5 - (1 : Int32)) - l7)))), (0, .ref (154)), (1, .int (l1)), (2, .int (l2)), (3, .int (l3)), (4, .int (l4)), (5, .int (l5)), (6, .int (l6))]) 8 e_M_copy_176 rfl rfl (by decide) rfl ?_
      refine g_goto (tgt := 121) e_M_copy_179 rfl ?_
      exact g_sub [2, 3, 4, 5, 6, 7, 8, 0] rfl h
    refine g_if_eq (tgt := 143) e_M_copy_130 rfl (fun c20 => ?_) (fun c20 => ?_)
    · refine g_iload 7 e_M_copy_143 rfl ?_
      exact hj (l7) (by simp only [if_pos c20])
    · refine g_iload 5 e_M_copy_133 rfl ?_
      refine g_iconst (1 : Int32) e_M_copy_135 (by decide) ?_
      refine g_isub e_M_copy_136 ?_
      refine g_iload 7 e_M_copy_137 rfl ?_
      refine g_isub e_M_copy_139 ?_
      refine g_goto (tgt := 145) e_M_copy_140 rfl ?_
      exact hj (((l5 - (1 : Int32)) - l7)) (by simp only [if_neg c20])
set_option maxHeartbeats 1000000 in
theorem s_M_clocks {l1 : Int32} {l2 : Int32} {l3 : Int32} {l4 : Int32} {v : Vv} {Q : Int32 → Vv → Prop} (h : m_M_isSheet l1 (v) (fun x1 v2 => if x1 = true then (m_M_in ((l2).toInt64) (0 : Int64) (2 : Int64) (v2) (fun x4 v5 => if x4 = true then (m_M_in ((l4).toInt64) (0 : Int64) (6 : Int64) (v5) (fun x7 v8 => if x7 = true then ((ib (l1) 4) ∧ (if (v8).1 173 (ix (l1)) = (0 : Int32) then (k_M_clocks_57 (l1) (l3) (l4) (v8) Q) else (if (v8).1 174 (ix (l1)) = l2 then (k_M_clocks_57 (l1) (l3) (l4) (v8) Q) else (Q ((-13 : Int32)) (v8))))) else (Q ((-2 : Int32)) (v8)))) else (Q ((-2 : Int32)) (v5)))) else (Q ((-2 : Int32)) (v2)))) : m_M_clocks l1 l2 l3 l4 v Q := by
  refine cp_go (Nat.le_of_ble_eq_true rfl) (by decide +kernel) ?_
  show Gp 3 M_M_clocks 0 [(0, .ref (154)), (1, .int (l1)), (2, .int (l2)), (3, .int (l3)), (4, .int (l4))] [] v (QI Q)
  refine g_iload_n 1 e_M_clocks_0 rfl rfl ?_
  refine p_callSZ (d' := 2) (As := [.int (l1)]) (rest := []) e_M_clocks_1 zm_M_isSheet lS_M_422 rfl rfl (Nat.le_of_ble_eq_true rfl) (by decide) ?_
  refine cp_mono h (fun _ v2 ⟨x1, e1, h⟩ => ⟨x1, e1, ?_⟩)
  refine p_ifz_eq (tgt := 32) e_M_clocks_4 rfl (fun c3 => ?_) (fun c3 => ?_)
  · replace h := iteF h c3
    refine g_bipush (-2 : Int32) e_M_clocks_32 (by decide) ?_
    exact p_retI e_M_clocks_34.1 rfl h
  · replace h := iteT h c3
    refine g_iload_n 2 e_M_clocks_7 rfl rfl ?_
    refine g_i2l e_M_clocks_8 ?_
    refine g_lconst (0 : Int64) e_M_clocks_9 (by decide) ?_
    refine g_ldc2 (v := (2 : Int64)) (hd := e_M_clocks_10) cl_M_381 ?_
    refine p_callSZ (d' := 1) (As := [.long ((l2).toInt64), .long ((0 : Int64)), .long ((2 : Int64))]) (rest := []) e_M_clocks_13 zm_M_in lS_M_95 rfl rfl (Nat.le_of_ble_eq_true rfl) (by decide) ?_
    refine cp_mono h (fun _ v5 ⟨x4, e1, h⟩ => ⟨x4, e1, ?_⟩)
    refine p_ifz_eq (tgt := 32) e_M_clocks_16 rfl (fun c6 => ?_) (fun c6 => ?_)
    · replace h := iteF h c6
      refine g_bipush (-2 : Int32) e_M_clocks_32 (by decide) ?_
      exact p_retI e_M_clocks_34.1 rfl h
    · replace h := iteT h c6
      refine g_iload 4 e_M_clocks_19 rfl ?_
      refine g_i2l e_M_clocks_21 ?_
      refine g_lconst (0 : Int64) e_M_clocks_22 (by decide) ?_
      refine g_ldc2 (v := (6 : Int64)) (hd := e_M_clocks_23) cl_M_447 ?_
      refine p_callSZ (d' := 1) (As := [.long ((l4).toInt64), .long ((0 : Int64)), .long ((6 : Int64))]) (rest := []) e_M_clocks_26 zm_M_in lS_M_95 rfl rfl (Nat.le_of_ble_eq_true rfl) (by decide) ?_
      refine cp_mono h (fun _ v8 ⟨x7, e1, h⟩ => ⟨x7, e1, ?_⟩)
      refine p_ifz_ne (tgt := 35) e_M_clocks_29 rfl (fun c9 => ?_) (fun c9 => ?_)
      · replace h := iteT h c9
        refine g_aload_n 0 e_M_clocks_35 rfl rfl ?_
        refine p_getR (j := 173) e_M_clocks_36 sh_154 fl_M_72 rfl (rf_154_45 _) ?_
        refine g_iload_n 1 e_M_clocks_39 rfl rfl ?_
        obtain ⟨h10, h⟩ := h
        refine p_zald e_M_clocks_40 sh_173 h10 ?_
        refine g_if_eq (tgt := 57) e_M_clocks_41 rfl (fun c11 => ?_) (fun c11 => ?_)
        · replace h := iteT h c11
          exact g_sub [0, 1, 3, 4] rfl h
        · replace h := iteF h c11
          refine g_aload_n 0 e_M_clocks_44 rfl rfl ?_
          refine p_getR (j := 174) e_M_clocks_45 sh_154 fl_M_76 rfl (rf_154_46 _) ?_
          refine g_iload_n 1 e_M_clocks_48 rfl rfl ?_
          refine p_iald e_M_clocks_49 sh_174 h10 ?_
          refine g_iload_n 2 e_M_clocks_50 rfl rfl ?_
          refine g_icmp_eq (tgt := 57) e_M_clocks_51 rfl (fun c12 => ?_) (fun c12 => ?_)
          · replace h := iteT h c12
            exact g_sub [0, 1, 3, 4] rfl h
          · replace h := iteF h c12
            refine g_bipush (-13 : Int32) e_M_clocks_54 (by decide) ?_
            exact p_retI e_M_clocks_56.1 rfl h
      · replace h := iteF h c9
        refine g_bipush (-2 : Int32) e_M_clocks_32 (by decide) ?_
        exact p_retI e_M_clocks_34.1 rfl h
set_option maxHeartbeats 1000000 in
theorem s_M_clocks_57 {l1 : Int32} {l3 : Int32} {l4 : Int32} {v : Vv} {Q : Int32 → Vv → Prop} (h : (ib (l1) 4) ∧ (if (v).1 173 (ix (l1)) = (0 : Int32) then (Q ((-11 : Int32)) (v)) else (k_M_clocks_75 (l1) (l3) (l4) ((0 : Int32)) ((0 : Int32)) (v) Q))) : k_M_clocks_57 l1 l3 l4 v Q := by
  show Gp 3 M_M_clocks 57 [(0, .ref (154)), (1, .int (l1)), (3, .int (l3)), (4, .int (l4))] [] v (QI Q)
  refine g_aload_n 0 e_M_clocks_57 rfl rfl ?_
  refine p_getR (j := 173) e_M_clocks_58 sh_154 fl_M_72 rfl (rf_154_45 _) ?_
  refine g_iload_n 1 e_M_clocks_61 rfl rfl ?_
  obtain ⟨h13, h⟩ := h
  refine p_zald e_M_clocks_62 sh_173 h13 ?_
  refine g_if_ne (tgt := 69) e_M_clocks_63 rfl (fun c14 => ?_) (fun c14 => ?_)
  · replace h := iteF h c14
    refine g_iconst (0 : Int32) e_M_clocks_69 (by decide) ?_
    refine g_istore (L' := [(5, .int ((0 : Int32))), (0, .ref (154)), (1, .int (l1)), (3, .int (l3)), (4, .int (l4))]) e_M_clocks_70 (by decide) rfl ?_
    refine g_iconst (0 : Int32) e_M_clocks_72 (by decide) ?_
    refine g_istore (L' := [(6, .int ((0 : Int32))), (5, .int ((0 : Int32))), (0, .ref (154)), (1, .int (l1)), (3, .int (l3)), (4, .int (l4))]) e_M_clocks_73 (by decide) rfl ?_
    exact g_sub [2, 3, 4, 5, 1, 0] rfl h
  · replace h := iteT h c14
    refine g_bipush (-11 : Int32) e_M_clocks_66 (by decide) ?_
    exact p_retI e_M_clocks_68.1 rfl h
set_option maxHeartbeats 1000000 in
theorem s_M_clocks_75 {l1 : Int32} {l3 : Int32} {l4 : Int32} {l5 : Int32} {l6 : Int32} {v : Vv} {Q : Int32 → Vv → Prop} (h : if l6 < l4 then (if l3 < (0 : Int32) then (Q ((-12 : Int32)) (v)) else ((ib (l1) 4) ∧ (if (((v).1 175 (ix (l1)) - ((2 : Int32) * l6)) - (2 : Int32)) < l3 then (Q ((-12 : Int32)) (v)) else ((ib (((((40 : Int32) * l1) + l3) + ((2 : Int32) * l6))) 160) ∧ ((ib ((((((40 : Int32) * l1) + l3) + ((2 : Int32) * l6)) + (1 : Int32))) 160) ∧ (m_M_clock ((v).1 176 (ix (((((40 : Int32) * l1) + l3) + ((2 : Int32) * l6))))) ((v).1 176 (ix ((((((40 : Int32) * l1) + l3) + ((2 : Int32) * l6)) + (1 : Int32))))) (v) (fun x21 v22 => k_M_clocks_75 (l1) (l3) (l4) ((l5 + bI ((if x21 < (0 : Int32) then false else true)))) ((l6 + (1 : Int32))) (v22) Q))))))) else (Q (l5) (v))) : k_M_clocks_75 l1 l3 l4 l5 l6 v Q := by
  show Gp 3 M_M_clocks 75 [(0, .ref (154)), (1, .int (l1)), (3, .int (l3)), (4, .int (l4)), (5, .int (l5)), (6, .int (l6))] [] v (QI Q)
  refine g_iload 5 e_M_clocks_75 rfl ?_
  refine g_iload 3 e_M_clocks_77 rfl ?_
  refine g_icmp_ge (tgt := 158) e_M_clocks_79 rfl (fun c15 => ?_) (fun c15 => ?_)
  · replace h := iteF h c15
    refine g_iload 4 e_M_clocks_158 rfl ?_
    exact p_retI e_M_clocks_160.1 rfl h
  · replace h := iteT h c15
    refine g_iload_n 2 e_M_clocks_82 rfl rfl ?_
    refine g_if_lt (tgt := 103) e_M_clocks_83 rfl (fun c16 => ?_) (fun c16 => ?_)
    · replace h := iteT h c16
      refine g_bipush (-12 : Int32) e_M_clocks_103 (by decide) ?_
      exact p_retI e_M_clocks_105.1 rfl h
    · replace h := iteF h c16
      refine g_iload_n 2 e_M_clocks_86 rfl rfl ?_
      refine g_aload_n 0 e_M_clocks_87 rfl rfl ?_
      refine p_getR (j := 175) e_M_clocks_88 sh_154 fl_M_79 rfl (rf_154_47 _) ?_
      refine g_iload_n 1 e_M_clocks_91 rfl rfl ?_
      obtain ⟨h17, h⟩ := h
      refine p_iald e_M_clocks_92 sh_175 h17 ?_
      refine g_iconst (2 : Int32) e_M_clocks_93 (by decide) ?_
      refine g_iload 5 e_M_clocks_94 rfl ?_
      refine g_imul e_M_clocks_96 ?_
      refine g_isub e_M_clocks_97 ?_
      refine g_iconst (2 : Int32) e_M_clocks_98 (by decide) ?_
      refine g_isub e_M_clocks_99 ?_
      refine g_icmp_le (tgt := 106) e_M_clocks_100 rfl (fun c18 => ?_) (fun c18 => ?_)
      · replace h := iteF h c18
        refine g_bipush (40 : Int32) e_M_clocks_106 (by decide) ?_
        refine g_iload_n 1 e_M_clocks_108 rfl rfl ?_
        refine g_imul e_M_clocks_109 ?_
        refine g_iload_n 2 e_M_clocks_110 rfl rfl ?_
        refine g_iadd e_M_clocks_111 ?_
        refine g_iconst (2 : Int32) e_M_clocks_112 (by decide) ?_
        refine g_iload 5 e_M_clocks_113 rfl ?_
        refine g_imul e_M_clocks_115 ?_
        refine g_iadd e_M_clocks_116 ?_
        refine g_istore (L' := [(7, .int (((((40 : Int32) * l1) + l3) + ((2 : Int32) * l6)))), (0, .ref (154)), (1, .int (l1)), (3, .int (l3)), (4, .int (l4)), (5, .int (l5)), (6, .int (l6))]) e_M_clocks_117 (by decide) rfl ?_
        refine g_iload 5 e_M_clocks_119 rfl ?_
        refine g_aload_n 1 e_M_clocks_121 rfl rfl ?_
        refine g_aload_n 1 e_M_clocks_122 rfl rfl ?_
        refine p_getR (j := 176) e_M_clocks_123 sh_154 fl_M_82 rfl (rf_154_48 _) ?_
        refine g_iload 0 e_M_clocks_126 rfl ?_
        obtain ⟨h19, h⟩ := h
        refine p_iald e_M_clocks_128 sh_176 h19 ?_
        refine g_aload_n 1 e_M_clocks_129 rfl rfl ?_
        refine p_getR (j := 176) e_M_clocks_130 sh_154 fl_M_82 rfl (rf_154_48 _) ?_
        refine g_iload 0 e_M_clocks_133 rfl ?_
        refine g_iconst (1 : Int32) e_M_clocks_135 (by decide) ?_
        refine g_iadd e_M_clocks_136 ?_
        obtain ⟨h20, h⟩ := h
        refine p_iald e_M_clocks_137 sh_176 h20 ?_
        refine p_callVI (d' := 2) (ci := 10) (r := (RX10, TX10, 49)) (As := [.int ((v).1 176 (ix (((((40 : Int32) * l1) + l3) + ((2 : Int32) * l6))))), .int ((v).1 176 (ix ((((((40 : Int32) * l1) + l3) + ((2 : Int32) * l6)) + (1 : Int32)))))]) (rest := [.int (l5)]) e_M_clocks_138 zm_M_clock lV_M_449 sh_154 rfl rfl rfl rfl (Nat.le_of_ble_eq_true rfl) (by decide) ?_
        refine cp_mono h (fun _ v22 ⟨x21, e1, h⟩ => ⟨x21, e1, ?_⟩)
        have hj : ∀ m0 : Bool, m0 = (if x21 < (0 : Int32) then false else true) → Gp 3 M_M_clocks 149 [(0, .ref (154)), (1, .int (l1)), (3, .int (l3)), (4, .int (l4)), (5, .int (l5)), (6, .int (l6)), (7, .int (((((40 : Int32) * l1) + l3) + ((2 : Int32) * l6))))] [.int (bI (m0)), .int (l5)] (v22) (QI Q) := by
          intro m0 hm0
          subst hm0
          refine g_iadd e_M_clocks_149 ?_
          refine g_istore (L' := [(5, .int ((l5 + bI ((if x21 < (0 : Int32) then false else true))))), (0, .ref (154)), (1, .int (l1)), (3, .int (l3)), (4, .int (l4)), (6, .int (l6)), (7, .int (((((40 : Int32) * l1) + l3) + ((2 : Int32) * l6))))]) e_M_clocks_150 (by decide) rfl ?_
          refine g_iinc (v := (l6 + (1 : Int32))) (L' := [(6, .int ((l6 + (1 : Int32)))), (5, .int ((l5 + bI ((if x21 < (0 : Int32) then false else true))))), (0, .ref (154)), (1, .int (l1)), (3, .int (l3)), (4, .int (l4)), (7, .int (((((40 : Int32) * l1) + l3) + ((2 : Int32) * l6))))]) 5 e_M_clocks_152 rfl rfl (by decide) rfl ?_
          refine g_goto (tgt := 75) e_M_clocks_155 rfl ?_
          exact g_sub [2, 3, 4, 5, 1, 0] rfl h
        refine g_if_lt (tgt := 148) e_M_clocks_141 rfl (fun c23 => ?_) (fun c23 => ?_)
        · refine g_iconst (0 : Int32) e_M_clocks_148 (by decide) ?_
          refine g_sub [1, 2, 3, 4, 5, 6, 0] rfl ?_
          exact hj (false) (by simp only [if_pos c23])
        · refine g_iconst (1 : Int32) e_M_clocks_144 (by decide) ?_
          refine g_goto (tgt := 149) e_M_clocks_145 rfl ?_
          refine g_sub [1, 2, 3, 4, 5, 6, 0] rfl ?_
          exact hj (true) (by simp only [if_neg c23])
      · replace h := iteT h c18
        refine g_bipush (-12 : Int32) e_M_clocks_103 (by decide) ?_
        exact p_retI e_M_clocks_105.1 rfl h
set_option maxHeartbeats 1000000 in
theorem s_M_taken {l1 : Int32} {l2 : Int32} {v : Vv} {Q : Int32 → Vv → Prop} (h : m_M_in ((l2).toInt64) (0 : Int64) (5 : Int64) (v) (fun x1 v2 => if x1 = true then (m_M_isDoer l1 (v2) (fun x4 v5 => if x4 = true then ((ib (l1) 5) ∧ (k_M_taken_33 (l1) (l2) ((v5).1 162 (ix (l1))) (v5) Q)) else (Q ((-11 : Int32)) (v5)))) else (Q ((-2 : Int32)) (v2)))) : m_M_taken l1 l2 v Q := by
  refine cp_go (Nat.le_of_ble_eq_true rfl) (by decide +kernel) ?_
  show Gp 3 M_M_taken 0 [(0, .ref (154)), (1, .int (l1)), (2, .int (l2))] [] v (QI Q)
  refine g_iload_n 2 e_M_taken_0 rfl rfl ?_
  refine g_i2l e_M_taken_1 ?_
  refine g_lconst (0 : Int64) e_M_taken_2 (by decide) ?_
  refine g_ldc2 (v := (5 : Int64)) (hd := e_M_taken_3) cl_M_108 ?_
  refine p_callSZ (d' := 1) (As := [.long ((l2).toInt64), .long ((0 : Int64)), .long ((5 : Int64))]) (rest := []) e_M_taken_6 zm_M_in lS_M_95 rfl rfl (Nat.le_of_ble_eq_true rfl) (by decide) ?_
  refine cp_mono h (fun _ v2 ⟨x1, e1, h⟩ => ⟨x1, e1, ?_⟩)
  refine p_ifz_ne (tgt := 15) e_M_taken_9 rfl (fun c3 => ?_) (fun c3 => ?_)
  · replace h := iteT h c3
    refine g_aload_n 0 e_M_taken_15 rfl rfl ?_
    refine g_iload_n 1 e_M_taken_16 rfl rfl ?_
    refine p_callVZ (d' := 2) (ci := 10) (r := (RX10, TX10, 49)) (As := [.int (l1)]) (rest := []) e_M_taken_17 zm_M_isDoer lV_M_118 sh_154 rfl rfl rfl rfl (Nat.le_of_ble_eq_true rfl) (by decide) ?_
    refine cp_mono h (fun _ v5 ⟨x4, e1, h⟩ => ⟨x4, e1, ?_⟩)
    refine p_ifz_ne (tgt := 26) e_M_taken_20 rfl (fun c6 => ?_) (fun c6 => ?_)
    · replace h := iteT h c6
      refine g_aload_n 0 e_M_taken_26 rfl rfl ?_
      refine p_getR (j := 162) e_M_taken_27 sh_154 fl_M_35 rfl (rf_154_12 _) ?_
      refine g_iload_n 1 e_M_taken_30 rfl rfl ?_
      obtain ⟨h7, h⟩ := h
      refine p_iald e_M_taken_31 sh_162 h7 ?_
      refine g_istore_n (L' := [(3, .int ((v5).1 162 (ix (l1)))), (0, .ref (154)), (1, .int (l1)), (2, .int (l2))]) e_M_taken_32 rfl (by decide) rfl ?_
      exact g_sub [1, 2, 3, 0] rfl h
    · replace h := iteF h c6
      refine g_bipush (-11 : Int32) e_M_taken_23 (by decide) ?_
      exact p_retI e_M_taken_25.1 rfl h
  · replace h := iteF h c3
    refine g_bipush (-2 : Int32) e_M_taken_12 (by decide) ?_
    exact p_retI e_M_taken_14.1 rfl h
set_option maxHeartbeats 1000000 in
theorem s_M_taken_33 {l1 : Int32} {l2 : Int32} {l3 : Int32} {v : Vv} {Q : Int32 → Vv → Prop} (h : if l3 = (-1 : Int32) then (k_M_taken_51 (l1) (l2) (l3) (v) Q) else (if l3 = l2 then (k_M_taken_51 (l1) (l2) (l3) (v) Q) else (m_M_over l3 (v) (fun x10 v11 => k_M_taken_33 (l1) (l2) (x10) (v11) Q)))) : k_M_taken_33 l1 l2 l3 v Q := by
  show Gp 3 M_M_taken 33 [(0, .ref (154)), (1, .int (l1)), (2, .int (l2)), (3, .int (l3))] [] v (QI Q)
  refine g_iload_n 3 e_M_taken_33 rfl rfl ?_
  refine g_iconst (-1 : Int32) e_M_taken_34 (by decide) ?_
  refine g_icmp_eq (tgt := 51) e_M_taken_35 rfl (fun c8 => ?_) (fun c8 => ?_)
  · replace h := iteT h c8
    exact g_sub [0, 1, 2, 3] rfl h
  · replace h := iteF h c8
    refine g_iload_n 3 e_M_taken_38 rfl rfl ?_
    refine g_iload_n 2 e_M_taken_39 rfl rfl ?_
    refine g_icmp_eq (tgt := 51) e_M_taken_40 rfl (fun c9 => ?_) (fun c9 => ?_)
    · replace h := iteT h c9
      exact g_sub [0, 1, 2, 3] rfl h
    · replace h := iteF h c9
      refine g_iload_n 3 e_M_taken_43 rfl rfl ?_
      refine p_callSI (d' := 1) (As := [.int (l3)]) (rest := []) e_M_taken_44 zm_M_over lS_M_452 rfl rfl (Nat.le_of_ble_eq_true rfl) (by decide) ?_
      refine cp_mono h (fun _ v11 ⟨x10, e1, h⟩ => ⟨x10, e1, ?_⟩)
      refine g_istore_n (L' := [(3, .int (x10)), (0, .ref (154)), (1, .int (l1)), (2, .int (l2))]) e_M_taken_47 rfl (by decide) rfl ?_
      refine g_goto (tgt := 33) e_M_taken_48 rfl ?_
      exact g_sub [1, 2, 3, 0] rfl h
set_option maxHeartbeats 1000000 in
theorem s_M_taken_51 {l1 : Int32} {l2 : Int32} {l3 : Int32} {v : Vv} {Q : Int32 → Vv → Prop} (h : if l3 = l2 then ((ib (l1) 5) ∧ (Q ((v).1 163 (ix (l1))) (v))) else (Q ((-13 : Int32)) (v))) : k_M_taken_51 l1 l2 l3 v Q := by
  show Gp 3 M_M_taken 51 [(0, .ref (154)), (1, .int (l1)), (2, .int (l2)), (3, .int (l3))] [] v (QI Q)
  refine g_iload_n 3 e_M_taken_51 rfl rfl ?_
  refine g_iload_n 2 e_M_taken_52 rfl rfl ?_
  refine g_icmp_ne (tgt := 65) e_M_taken_53 rfl (fun c12 => ?_) (fun c12 => ?_)
  · replace h := iteF h c12
    refine g_bipush (-13 : Int32) e_M_taken_65 (by decide) ?_
    exact p_retI e_M_taken_67.1 rfl h
  · replace h := iteT h c12
    refine g_aload_n 0 e_M_taken_56 rfl rfl ?_
    refine p_getR (j := 163) e_M_taken_57 sh_154 fl_M_38 rfl (rf_154_13 _) ?_
    refine g_iload_n 1 e_M_taken_60 rfl rfl ?_
    obtain ⟨h13, h⟩ := h
    refine p_iald e_M_taken_61 sh_163 h13 ?_
    refine g_goto (tgt := 67) e_M_taken_62 rfl ?_
    exact p_retI e_M_taken_67.1 rfl h
set_option maxHeartbeats 1000000 in
theorem s_M_name  {v : Vv} {Q : Int32 → Vv → Prop} (h : m_M_isWord (99 : Int32) (108 : Int32) (111 : Int32) (99 : Int32) (107 : Int32) (0 : Int32) (0 : Int32) (0 : Int32) (v) (fun x1 v2 => if x1 = true then (Q ((v2).1 154 16) (v2)) else (m_M_isWord (119 : Int32) (104 : Int32) (111 : Int32) (0 : Int32) (0 : Int32) (0 : Int32) (0 : Int32) (0 : Int32) (v2) (fun x4 v5 => if x4 = true then (Q ((v5).1 154 17) (v5)) else (m_M_isWord (114 : Int32) (111 : Int32) (111 : Int32) (109 : Int32) (0 : Int32) (0 : Int32) (0 : Int32) (0 : Int32) (v5) (fun x7 v8 => if x7 = true then (Q ((v8).1 154 18) (v8)) else (m_M_isWord (111 : Int32) (102 : Int32) (102 : Int32) (0 : Int32) (0 : Int32) (0 : Int32) (0 : Int32) (0 : Int32) (v8) (fun x10 v11 => if x10 = true then (Q ((v11).1 154 19) (v11)) else (m_M_isWord (100 : Int32) (111 : Int32) (110 : Int32) (101 : Int32) (0 : Int32) (0 : Int32) (0 : Int32) (0 : Int32) (v11) (fun x13 v14 => if x13 = true then (Q ((v14).1 154 20) (v14)) else (m_M_isWord (114 : Int32) (111 : Int32) (111 : Int32) (109 : Int32) (115 : Int32) (0 : Int32) (0 : Int32) (0 : Int32) (v14) (fun x16 v17 => if x16 = true then (Q ((v17).1 154 21) (v17)) else (m_M_fail  (v17) (fun v20 => Q ((0 : Int32)) (v20))))))))))))))) : m_M_name  v Q := by
  refine cp_go (Nat.le_of_ble_eq_true rfl) (by decide +kernel) ?_
  show Gp 4 M_M_name 0 [(0, .ref (154))] [] v (QI Q)
  refine g_aload_n 0 e_M_name_0 rfl rfl ?_
  refine g_bipush (99 : Int32) e_M_name_1 (by decide) ?_
  refine g_bipush (108 : Int32) e_M_name_3 (by decide) ?_
  refine g_bipush (111 : Int32) e_M_name_5 (by decide) ?_
  refine g_bipush (99 : Int32) e_M_name_7 (by decide) ?_
  refine g_bipush (107 : Int32) e_M_name_9 (by decide) ?_
  refine g_iconst (0 : Int32) e_M_name_11 (by decide) ?_
  refine g_iconst (0 : Int32) e_M_name_12 (by decide) ?_
  refine g_iconst (0 : Int32) e_M_name_13 (by decide) ?_
  refine p_callVZ (d' := 3) (ci := 10) (r := (RX10, TX10, 49)) (As := [.int ((99 : Int32)), .int ((108 : Int32)), .int ((111 : Int32)), .int ((99 : Int32)), .int ((107 : Int32)), .int ((0 : Int32)), .int ((0 : Int32)), .int ((0 : Int32))]) (rest := []) e_M_name_14 zm_M_isWord lV_M_188 sh_154 rfl rfl rfl rfl (Nat.le_of_ble_eq_true rfl) (by decide) ?_
  refine cp_mono h (fun _ v2 ⟨x1, e1, h⟩ => ⟨x1, e1, ?_⟩)
  refine p_ifz_eq (tgt := 25) e_M_name_17 rfl (fun c3 => ?_) (fun c3 => ?_)
  · replace h := iteF h c3
    refine g_aload_n 0 e_M_name_25 rfl rfl ?_
    refine g_bipush (119 : Int32) e_M_name_26 (by decide) ?_
    refine g_bipush (104 : Int32) e_M_name_28 (by decide) ?_
    refine g_bipush (111 : Int32) e_M_name_30 (by decide) ?_
    refine g_iconst (0 : Int32) e_M_name_32 (by decide) ?_
    refine g_iconst (0 : Int32) e_M_name_33 (by decide) ?_
    refine g_iconst (0 : Int32) e_M_name_34 (by decide) ?_
    refine g_iconst (0 : Int32) e_M_name_35 (by decide) ?_
    refine g_iconst (0 : Int32) e_M_name_36 (by decide) ?_
    refine p_callVZ (d' := 3) (ci := 10) (r := (RX10, TX10, 49)) (As := [.int ((119 : Int32)), .int ((104 : Int32)), .int ((111 : Int32)), .int ((0 : Int32)), .int ((0 : Int32)), .int ((0 : Int32)), .int ((0 : Int32)), .int ((0 : Int32))]) (rest := []) e_M_name_37 zm_M_isWord lV_M_188 sh_154 rfl rfl rfl rfl (Nat.le_of_ble_eq_true rfl) (by decide) ?_
    refine cp_mono h (fun _ v5 ⟨x4, e1, h⟩ => ⟨x4, e1, ?_⟩)
    refine p_ifz_eq (tgt := 48) e_M_name_40 rfl (fun c6 => ?_) (fun c6 => ?_)
    · replace h := iteF h c6
      refine g_aload_n 0 e_M_name_48 rfl rfl ?_
      refine g_bipush (114 : Int32) e_M_name_49 (by decide) ?_
      refine g_bipush (111 : Int32) e_M_name_51 (by decide) ?_
      refine g_bipush (111 : Int32) e_M_name_53 (by decide) ?_
      refine g_bipush (109 : Int32) e_M_name_55 (by decide) ?_
      refine g_iconst (0 : Int32) e_M_name_57 (by decide) ?_
      refine g_iconst (0 : Int32) e_M_name_58 (by decide) ?_
      refine g_iconst (0 : Int32) e_M_name_59 (by decide) ?_
      refine g_iconst (0 : Int32) e_M_name_60 (by decide) ?_
      refine p_callVZ (d' := 3) (ci := 10) (r := (RX10, TX10, 49)) (As := [.int ((114 : Int32)), .int ((111 : Int32)), .int ((111 : Int32)), .int ((109 : Int32)), .int ((0 : Int32)), .int ((0 : Int32)), .int ((0 : Int32)), .int ((0 : Int32))]) (rest := []) e_M_name_61 zm_M_isWord lV_M_188 sh_154 rfl rfl rfl rfl (Nat.le_of_ble_eq_true rfl) (by decide) ?_
      refine cp_mono h (fun _ v8 ⟨x7, e1, h⟩ => ⟨x7, e1, ?_⟩)
      refine p_ifz_eq (tgt := 72) e_M_name_64 rfl (fun c9 => ?_) (fun c9 => ?_)
      · replace h := iteF h c9
        refine g_aload_n 0 e_M_name_72 rfl rfl ?_
        refine g_bipush (111 : Int32) e_M_name_73 (by decide) ?_
        refine g_bipush (102 : Int32) e_M_name_75 (by decide) ?_
        refine g_bipush (102 : Int32) e_M_name_77 (by decide) ?_
        refine g_iconst (0 : Int32) e_M_name_79 (by decide) ?_
        refine g_iconst (0 : Int32) e_M_name_80 (by decide) ?_
        refine g_iconst (0 : Int32) e_M_name_81 (by decide) ?_
        refine g_iconst (0 : Int32) e_M_name_82 (by decide) ?_
        refine g_iconst (0 : Int32) e_M_name_83 (by decide) ?_
        refine p_callVZ (d' := 3) (ci := 10) (r := (RX10, TX10, 49)) (As := [.int ((111 : Int32)), .int ((102 : Int32)), .int ((102 : Int32)), .int ((0 : Int32)), .int ((0 : Int32)), .int ((0 : Int32)), .int ((0 : Int32)), .int ((0 : Int32))]) (rest := []) e_M_name_84 zm_M_isWord lV_M_188 sh_154 rfl rfl rfl rfl (Nat.le_of_ble_eq_true rfl) (by decide) ?_
        refine cp_mono h (fun _ v11 ⟨x10, e1, h⟩ => ⟨x10, e1, ?_⟩)
        refine p_ifz_eq (tgt := 95) e_M_name_87 rfl (fun c12 => ?_) (fun c12 => ?_)
        · replace h := iteF h c12
          refine g_aload_n 0 e_M_name_95 rfl rfl ?_
          refine g_bipush (100 : Int32) e_M_name_96 (by decide) ?_
          refine g_bipush (111 : Int32) e_M_name_98 (by decide) ?_
          refine g_bipush (110 : Int32) e_M_name_100 (by decide) ?_
          refine g_bipush (101 : Int32) e_M_name_102 (by decide) ?_
          refine g_iconst (0 : Int32) e_M_name_104 (by decide) ?_
          refine g_iconst (0 : Int32) e_M_name_105 (by decide) ?_
          refine g_iconst (0 : Int32) e_M_name_106 (by decide) ?_
          refine g_iconst (0 : Int32) e_M_name_107 (by decide) ?_
          refine p_callVZ (d' := 3) (ci := 10) (r := (RX10, TX10, 49)) (As := [.int ((100 : Int32)), .int ((111 : Int32)), .int ((110 : Int32)), .int ((101 : Int32)), .int ((0 : Int32)), .int ((0 : Int32)), .int ((0 : Int32)), .int ((0 : Int32))]) (rest := []) e_M_name_108 zm_M_isWord lV_M_188 sh_154 rfl rfl rfl rfl (Nat.le_of_ble_eq_true rfl) (by decide) ?_
          refine cp_mono h (fun _ v14 ⟨x13, e1, h⟩ => ⟨x13, e1, ?_⟩)
          refine p_ifz_eq (tgt := 119) e_M_name_111 rfl (fun c15 => ?_) (fun c15 => ?_)
          · replace h := iteF h c15
            refine g_aload_n 0 e_M_name_119 rfl rfl ?_
            refine g_bipush (114 : Int32) e_M_name_120 (by decide) ?_
            refine g_bipush (111 : Int32) e_M_name_122 (by decide) ?_
            refine g_bipush (111 : Int32) e_M_name_124 (by decide) ?_
            refine g_bipush (109 : Int32) e_M_name_126 (by decide) ?_
            refine g_bipush (115 : Int32) e_M_name_128 (by decide) ?_
            refine g_iconst (0 : Int32) e_M_name_130 (by decide) ?_
            refine g_iconst (0 : Int32) e_M_name_131 (by decide) ?_
            refine g_iconst (0 : Int32) e_M_name_132 (by decide) ?_
            refine p_callVZ (d' := 3) (ci := 10) (r := (RX10, TX10, 49)) (As := [.int ((114 : Int32)), .int ((111 : Int32)), .int ((111 : Int32)), .int ((109 : Int32)), .int ((115 : Int32)), .int ((0 : Int32)), .int ((0 : Int32)), .int ((0 : Int32))]) (rest := []) e_M_name_133 zm_M_isWord lV_M_188 sh_154 rfl rfl rfl rfl (Nat.le_of_ble_eq_true rfl) (by decide) ?_
            refine cp_mono h (fun _ v17 ⟨x16, e1, h⟩ => ⟨x16, e1, ?_⟩)
            refine p_ifz_eq (tgt := 144) e_M_name_136 rfl (fun c18 => ?_) (fun c18 => ?_)
            · replace h := iteF h c18
              refine g_aload_n 0 e_M_name_144 rfl rfl ?_
              refine p_callVV (d' := 1) (ci := 10) (r := (RX10, TX10, 49)) (As := []) (rest := []) e_M_name_145 zm_M_fail lV_M_182 sh_154 rfl rfl rfl rfl (Nat.le_of_ble_eq_true rfl) (by decide) ?_
              refine cp_mono h (fun _ v20 ⟨e1, h⟩ => ⟨e1, ?_⟩)
              refine g_iconst (0 : Int32) e_M_name_148 (by decide) ?_
              exact p_retI e_M_name_149.1 rfl h
            · replace h := iteT h c18
              refine g_aload_n 0 e_M_name_139 rfl rfl ?_
              refine p_getI e_M_name_140 sh_154 fl_M_207 rfl ?_
              exact p_retI e_M_name_143.1 rfl h
          · replace h := iteT h c15
            refine g_aload_n 0 e_M_name_114 rfl rfl ?_
            refine p_getI e_M_name_115 sh_154 fl_M_204 rfl ?_
            exact p_retI e_M_name_118.1 rfl h
        · replace h := iteT h c12
          refine g_aload_n 0 e_M_name_90 rfl rfl ?_
          refine p_getI e_M_name_91 sh_154 fl_M_201 rfl ?_
          exact p_retI e_M_name_94.1 rfl h
      · replace h := iteT h c9
        refine g_aload_n 0 e_M_name_67 rfl rfl ?_
        refine p_getI e_M_name_68 sh_154 fl_M_198 rfl ?_
        exact p_retI e_M_name_71.1 rfl h
    · replace h := iteT h c6
      refine g_aload_n 0 e_M_name_43 rfl rfl ?_
      refine p_getI e_M_name_44 sh_154 fl_M_195 rfl ?_
      exact p_retI e_M_name_47.1 rfl h
  · replace h := iteT h c3
    refine g_aload_n 0 e_M_name_20 rfl rfl ?_
    refine p_getI e_M_name_21 sh_154 fl_M_192 rfl ?_
    exact p_retI e_M_name_24.1 rfl h
