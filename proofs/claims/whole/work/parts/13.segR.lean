-- segments: R
set_option maxHeartbeats 1000000 in
theorem s_R_add {l1 : Int32} {l2 : Int32} {v : Vv} {Q : Vv → Prop} (h : if (v).1 108 3 < (161 : Int32) then ((ib ((v).1 108 3) 161) ∧ ((ib ((sI (v) 110 (ix ((v).1 108 3)) l1).1 108 3) 161) ∧ (Q (sI (sI (sI (v) 110 (ix ((v).1 108 3)) l1) 111 (ix ((sI (v) 110 (ix ((v).1 108 3)) l1).1 108 3)) l2) 108 3 ((sI (sI (v) 110 (ix ((v).1 108 3)) l1) 111 (ix ((sI (v) 110 (ix ((v).1 108 3)) l1).1 108 3)) l2).1 108 3 + (1 : Int32)))))) else (Q (v))) : m_R_add l1 l2 v Q := by
  refine cp_go (Nat.le_of_ble_eq_true rfl) (by decide +kernel) ?_
  show Gp 1 M_R_add 0 [(0, .ref (108)), (1, .int (l1)), (2, .int (l2))] [] v (QV Q)
  refine g_aload_n 0 e_R_add_0 rfl rfl ?_
  refine p_getI e_R_add_1 sh_108 fl_R_21 rfl ?_
  refine g_aload_n 0 e_R_add_4 rfl rfl ?_
  refine p_getR (j := 110) e_R_add_5 sh_108 fl_R_15 rfl (rf_108_1 _) ?_
  refine p_alen (x := (161 : Int32)) e_R_add_8 sh_110 (by decide) (by decide) ?_
  refine g_icmp_ge (tgt := 42) e_R_add_9 rfl (fun c1 => ?_) (fun c1 => ?_)
  · replace h := iteF h c1
    exact p_retV e_R_add_42.1 rfl h
  · replace h := iteT h c1
    refine g_aload_n 0 e_R_add_12 rfl rfl ?_
    refine p_getR (j := 110) e_R_add_13 sh_108 fl_R_15 rfl (rf_108_1 _) ?_
    refine g_aload_n 0 e_R_add_16 rfl rfl ?_
    refine p_getI e_R_add_17 sh_108 fl_R_21 rfl ?_
    refine g_iload_n 1 e_R_add_20 rfl rfl ?_
    obtain ⟨h2, h⟩ := h
    refine p_iast e_R_add_21 sh_110 h2 ?_
    refine g_aload_n 0 e_R_add_22 rfl rfl ?_
    refine p_getR (j := 111) e_R_add_23 sh_108 fl_R_18 rfl (rf_108_2 _) ?_
    refine g_aload_n 0 e_R_add_26 rfl rfl ?_
    refine p_getI e_R_add_27 sh_108 fl_R_21 rfl ?_
    refine g_iload_n 2 e_R_add_30 rfl rfl ?_
    obtain ⟨h3, h⟩ := h
    refine p_iast e_R_add_31 sh_111 h3 ?_
    refine g_aload_n 0 e_R_add_32 rfl rfl ?_
    refine g_dup e_R_add_33 rfl ?_
    refine p_getI e_R_add_34 sh_108 fl_R_21 rfl ?_
    refine g_iconst (1 : Int32) e_R_add_37 (by decide) ?_
    refine g_iadd e_R_add_38 ?_
    refine p_putI e_R_add_39 sh_108 fp_R_21 rfl rfl rfl ?_
    exact p_retV e_R_add_42.1 rfl h
set_option maxHeartbeats 1000000 in
theorem s_R_isBlank {l0 : Int32} {v : Vv} {Q : Bool → Vv → Prop} (h : Q ((if l0 = (32 : Int32) then true else (if l0 = (10 : Int32) then true else false))) (v)) : m_R_isBlank l0 v Q := by
  refine cp_go (Nat.le_of_ble_eq_true rfl) (by decide +kernel) ?_
  show Gp 1 M_R_isBlank 0 [(0, .int (l0))] [] v (QZ Q)
  refine g_iload_n 0 e_R_isBlank_0 rfl rfl ?_
  refine g_bipush (32 : Int32) e_R_isBlank_1 (by decide) ?_
  have hj : ∀ m0 : Bool, m0 = (if l0 = (32 : Int32) then true else (if l0 = (10 : Int32) then true else false)) → Gp 1 M_R_isBlank 17 [(0, .int (l0))] [.int (bI (m0))] (v) (QZ Q) := by
    intro m0 hm0
    subst hm0
    exact p_retZ e_R_isBlank_17.1 rfl h
  refine g_icmp_eq (tgt := 12) e_R_isBlank_3 rfl (fun c1 => ?_) (fun c1 => ?_)
  · refine g_iconst (1 : Int32) e_R_isBlank_12 (by decide) ?_
    refine g_goto (tgt := 17) e_R_isBlank_13 rfl ?_
    exact hj (true) (by simp only [if_pos c1])
  · refine g_iload_n 0 e_R_isBlank_6 rfl rfl ?_
    refine g_bipush (10 : Int32) e_R_isBlank_7 (by decide) ?_
    refine g_icmp_ne (tgt := 16) e_R_isBlank_9 rfl (fun c2 => ?_) (fun c2 => ?_)
    · refine g_iconst (0 : Int32) e_R_isBlank_16 (by decide) ?_
      exact hj (false) (by simp only [if_neg c1, if_neg c2])
    · refine g_iconst (1 : Int32) e_R_isBlank_12 (by decide) ?_
      refine g_goto (tgt := 17) e_R_isBlank_13 rfl ?_
      exact hj (true) (by simp only [if_neg c1, if_pos c2])
set_option maxHeartbeats 1000000 in
theorem s_R_isSmall {l0 : Int32} {v : Vv} {Q : Bool → Vv → Prop} (h : Q ((if l0 < (97 : Int32) then false else (if (122 : Int32) < l0 then false else true))) (v)) : m_R_isSmall l0 v Q := by
  refine cp_go (Nat.le_of_ble_eq_true rfl) (by decide +kernel) ?_
  show Gp 1 M_R_isSmall 0 [(0, .int (l0))] [] v (QZ Q)
  refine g_iload_n 0 e_R_isSmall_0 rfl rfl ?_
  refine g_bipush (97 : Int32) e_R_isSmall_1 (by decide) ?_
  have hj : ∀ m0 : Bool, m0 = (if l0 < (97 : Int32) then false else (if (122 : Int32) < l0 then false else true)) → Gp 1 M_R_isSmall 17 [(0, .int (l0))] [.int (bI (m0))] (v) (QZ Q) := by
    intro m0 hm0
    subst hm0
    exact p_retZ e_R_isSmall_17.1 rfl h
  refine g_icmp_lt (tgt := 16) e_R_isSmall_3 rfl (fun c1 => ?_) (fun c1 => ?_)
  · refine g_iconst (0 : Int32) e_R_isSmall_16 (by decide) ?_
    exact hj (false) (by simp only [if_pos c1])
  · refine g_iload_n 0 e_R_isSmall_6 rfl rfl ?_
    refine g_bipush (122 : Int32) e_R_isSmall_7 (by decide) ?_
    refine g_icmp_gt (tgt := 16) e_R_isSmall_9 rfl (fun c2 => ?_) (fun c2 => ?_)
    · refine g_iconst (0 : Int32) e_R_isSmall_16 (by decide) ?_
      exact hj (false) (by simp only [if_neg c1, if_pos c2])
    · refine g_iconst (1 : Int32) e_R_isSmall_12 (by decide) ?_
      refine g_goto (tgt := 17) e_R_isSmall_13 rfl ?_
      exact hj (true) (by simp only [if_neg c1, if_neg c2])
set_option maxHeartbeats 1000000 in
theorem s_R_isDigit {l0 : Int32} {v : Vv} {Q : Bool → Vv → Prop} (h : Q ((if l0 < (48 : Int32) then false else (if (57 : Int32) < l0 then false else true))) (v)) : m_R_isDigit l0 v Q := by
  refine cp_go (Nat.le_of_ble_eq_true rfl) (by decide +kernel) ?_
  show Gp 1 M_R_isDigit 0 [(0, .int (l0))] [] v (QZ Q)
  refine g_iload_n 0 e_R_isDigit_0 rfl rfl ?_
  refine g_bipush (48 : Int32) e_R_isDigit_1 (by decide) ?_
  have hj : ∀ m0 : Bool, m0 = (if l0 < (48 : Int32) then false else (if (57 : Int32) < l0 then false else true)) → Gp 1 M_R_isDigit 17 [(0, .int (l0))] [.int (bI (m0))] (v) (QZ Q) := by
    intro m0 hm0
    subst hm0
    exact p_retZ e_R_isDigit_17.1 rfl h
  refine g_icmp_lt (tgt := 16) e_R_isDigit_3 rfl (fun c1 => ?_) (fun c1 => ?_)
  · refine g_iconst (0 : Int32) e_R_isDigit_16 (by decide) ?_
    exact hj (false) (by simp only [if_pos c1])
  · refine g_iload_n 0 e_R_isDigit_6 rfl rfl ?_
    refine g_bipush (57 : Int32) e_R_isDigit_7 (by decide) ?_
    refine g_icmp_gt (tgt := 16) e_R_isDigit_9 rfl (fun c2 => ?_) (fun c2 => ?_)
    · refine g_iconst (0 : Int32) e_R_isDigit_16 (by decide) ?_
      exact hj (false) (by simp only [if_neg c1, if_pos c2])
    · refine g_iconst (1 : Int32) e_R_isDigit_12 (by decide) ?_
      refine g_goto (tgt := 17) e_R_isDigit_13 rfl ?_
      exact hj (true) (by simp only [if_neg c1, if_neg c2])
set_option maxHeartbeats 1000000 in
theorem s_R_numberAt {l1 : Int32} {l2 : Int32} {v : Vv} {Q : Int32 → Vv → Prop} (h : if (4 : Int32) < (l2 - l1) then (Q ((-2 : Int32)) (v)) else (k_R_numberAt_15 (l2) ((0 : Int32)) (l1) (v) Q)) : m_R_numberAt l1 l2 v Q := by
  refine cp_go (Nat.le_of_ble_eq_true rfl) (by decide +kernel) ?_
  show Gp 1 M_R_numberAt 0 [(0, .ref (107)), (1, .int (l1)), (2, .int (l2))] [] v (QI Q)
  refine g_iload_n 2 e_R_numberAt_0 rfl rfl ?_
  refine g_iload_n 1 e_R_numberAt_1 rfl rfl ?_
  refine g_isub e_R_numberAt_2 ?_
  refine g_iconst (4 : Int32) e_R_numberAt_3 (by decide) ?_
  refine g_icmp_le (tgt := 10) e_R_numberAt_4 rfl (fun c1 => ?_) (fun c1 => ?_)
  · replace h := iteF h c1
    refine g_iconst (0 : Int32) e_R_numberAt_10 (by decide) ?_
    refine g_istore_n (L' := [(3, .int ((0 : Int32))), (0, .ref (107)), (1, .int (l1)), (2, .int (l2))]) e_R_numberAt_11 rfl (by decide) rfl ?_
    refine g_iload_n 2 e_R_numberAt_12 rfl rfl ?_
    refine g_istore (L' := [(4, .int (l1)), (3, .int ((0 : Int32))), (0, .ref (107)), (1, .int (l1)), (2, .int (l2))]) e_R_numberAt_13 (by decide) rfl ?_
    exact g_sub [2, 4, 1, 0] rfl h
  · replace h := iteT h c1
    refine g_bipush (-2 : Int32) e_R_numberAt_7 (by decide) ?_
    exact p_retI e_R_numberAt_9.1 rfl h
set_option maxHeartbeats 1000000 in
theorem s_R_numberAt_15 {l2 : Int32} {l3 : Int32} {l4 : Int32} {v : Vv} {Q : Int32 → Vv → Prop} (h : if l4 < l2 then ((ib (l4) 160) ∧ (k_R_numberAt_15 (l2) (((((10 : Int32) * l3) + (v).1 107 (ix (l4))) - (48 : Int32))) ((l4 + (1 : Int32))) (v) Q)) else (Q (((100 : Int32) + l3)) (v))) : k_R_numberAt_15 l2 l3 l4 v Q := by
  show Gp 1 M_R_numberAt 15 [(0, .ref (107)), (2, .int (l2)), (3, .int (l3)), (4, .int (l4))] [] v (QI Q)
  refine g_iload 3 e_R_numberAt_15 rfl ?_
  refine g_iload_n 1 e_R_numberAt_17 rfl rfl ?_
  refine g_icmp_ge (tgt := 40) e_R_numberAt_18 rfl (fun c2 => ?_) (fun c2 => ?_)
  · replace h := iteF h c2
    refine g_bipush (100 : Int32) e_R_numberAt_40 (by decide) ?_
    refine g_iload_n 2 e_R_numberAt_42 rfl rfl ?_
    refine g_iadd e_R_numberAt_43 ?_
    exact p_retI e_R_numberAt_44.1 rfl h
  · replace h := iteT h c2
    refine g_bipush (10 : Int32) e_R_numberAt_21 (by decide) ?_
    refine g_iload_n 2 e_R_numberAt_23 rfl rfl ?_
    refine g_imul e_R_numberAt_24 ?_
    refine g_aload_n 0 e_R_numberAt_25 rfl rfl ?_
    refine g_iload 3 e_R_numberAt_26 rfl ?_
    obtain ⟨h3, h⟩ := h
    refine p_iald e_R_numberAt_28 sh_107 h3 ?_
    refine g_iadd e_R_numberAt_29 ?_
    refine g_bipush (48 : Int32) e_R_numberAt_30 (by decide) ?_
    refine g_isub e_R_numberAt_32 ?_
    refine g_istore_n (L' := [(3, .int (((((10 : Int32) * l3) + (v).1 107 (ix (l4))) - (48 : Int32)))), (0, .ref (107)), (2, .int (l2)), (4, .int (l4))]) e_R_numberAt_33 rfl (by decide) rfl ?_
    refine g_iinc (v := (l4 + (1 : Int32))) (L' := [(4, .int ((l4 + (1 : Int32)))), (3, .int (((((10 : Int32) * l3) + (v).1 107 (ix (l4))) - (48 : Int32)))), (0, .ref (107)), (2, .int (l2))]) 3 e_R_numberAt_34 rfl rfl (by decide) rfl ?_
    refine g_goto (tgt := 15) e_R_numberAt_37 rfl ?_
    exact g_sub [2, 3, 1, 0] rfl h
set_option maxHeartbeats 1000000 in
theorem s_R_word {l0 : Int32} {v : Vv} {Q : Nat → Vv → Prop} (h : if l0 = (0 : Int32) then (Q ((100010 : Nat)) (v)) else (if l0 = (1 : Int32) then (Q ((100011 : Nat)) (v)) else (if l0 = (2 : Int32) then (Q ((100012 : Nat)) (v)) else (if l0 = (3 : Int32) then (Q ((100013 : Nat)) (v)) else (if l0 = (4 : Int32) then (Q ((100014 : Nat)) (v)) else (if l0 = (5 : Int32) then (Q ((100015 : Nat)) (v)) else (if l0 = (6 : Int32) then (Q ((100016 : Nat)) (v)) else (if l0 = (7 : Int32) then (Q ((100017 : Nat)) (v)) else (if l0 = (8 : Int32) then (Q ((100018 : Nat)) (v)) else (if l0 = (9 : Int32) then (Q ((100019 : Nat)) (v)) else (if l0 = (10 : Int32) then (Q ((100020 : Nat)) (v)) else (Q ((100021 : Nat)) (v))))))))))))) : m_R_word l0 v Q := by
  refine cp_go (Nat.le_of_ble_eq_true rfl) (by decide +kernel) ?_
  show Gp 1 M_R_word 0 [(0, .int (l0))] [] v (QR Q)
  refine g_iload_n 0 e_R_word_0 rfl rfl ?_
  by_cases c1 : l0 = (0 : Int32)
  · replace h := iteT h c1
    refine g_tsw (tgt := 60) e_R_word_1 (0 : Int32) c1 (by decide) (by decide) rfl rfl ?_
    refine p_ldcS 0 e_R_word_60 (by decide) ?_
    exact p_retR e_R_word_62.1 rfl h
  · replace h := iteF h c1
    by_cases c2 : l0 = (1 : Int32)
    · replace h := iteT h c2
      refine g_tsw (tgt := 63) e_R_word_1 (1 : Int32) c2 (by decide) (by decide) rfl rfl ?_
      refine p_ldcS 1 e_R_word_63 (by decide) ?_
      exact p_retR e_R_word_65.1 rfl h
    · replace h := iteF h c2
      by_cases c3 : l0 = (2 : Int32)
      · replace h := iteT h c3
        refine g_tsw (tgt := 66) e_R_word_1 (2 : Int32) c3 (by decide) (by decide) rfl rfl ?_
        refine p_ldcS 2 e_R_word_66 (by decide) ?_
        exact p_retR e_R_word_68.1 rfl h
      · replace h := iteF h c3
        by_cases c4 : l0 = (3 : Int32)
        · replace h := iteT h c4
          refine g_tsw (tgt := 69) e_R_word_1 (3 : Int32) c4 (by decide) (by decide) rfl rfl ?_
          refine p_ldcS 3 e_R_word_69 (by decide) ?_
          exact p_retR e_R_word_71.1 rfl h
        · replace h := iteF h c4
          by_cases c5 : l0 = (4 : Int32)
          · replace h := iteT h c5
            refine g_tsw (tgt := 72) e_R_word_1 (4 : Int32) c5 (by decide) (by decide) rfl rfl ?_
            refine p_ldcS 4 e_R_word_72 (by decide) ?_
            exact p_retR e_R_word_74.1 rfl h
          · replace h := iteF h c5
            by_cases c6 : l0 = (5 : Int32)
            · replace h := iteT h c6
              refine g_tsw (tgt := 75) e_R_word_1 (5 : Int32) c6 (by decide) (by decide) rfl rfl ?_
              refine p_ldcS 5 e_R_word_75 (by decide) ?_
              exact p_retR e_R_word_77.1 rfl h
            · replace h := iteF h c6
              by_cases c7 : l0 = (6 : Int32)
              · replace h := iteT h c7
                refine g_tsw (tgt := 78) e_R_word_1 (6 : Int32) c7 (by decide) (by decide) rfl rfl ?_
                refine p_ldcS 6 e_R_word_78 (by decide) ?_
                exact p_retR e_R_word_80.1 rfl h
              · replace h := iteF h c7
                by_cases c8 : l0 = (7 : Int32)
                · replace h := iteT h c8
                  refine g_tsw (tgt := 81) e_R_word_1 (7 : Int32) c8 (by decide) (by decide) rfl rfl ?_
                  refine p_ldcS 7 e_R_word_81 (by decide) ?_
                  exact p_retR e_R_word_83.1 rfl h
                · replace h := iteF h c8
                  by_cases c9 : l0 = (8 : Int32)
                  · replace h := iteT h c9
                    refine g_tsw (tgt := 84) e_R_word_1 (8 : Int32) c9 (by decide) (by decide) rfl rfl ?_
                    refine p_ldcS 8 e_R_word_84 (by decide) ?_
                    exact p_retR e_R_word_86.1 rfl h
                  · replace h := iteF h c9
                    by_cases c10 : l0 = (9 : Int32)
                    · replace h := iteT h c10
                      refine g_tsw (tgt := 87) e_R_word_1 (9 : Int32) c10 (by decide) (by decide) rfl rfl ?_
                      refine p_ldcS 9 e_R_word_87 (by decide) ?_
                      exact p_retR e_R_word_89.1 rfl h
                    · replace h := iteF h c10
                      by_cases c11 : l0 = (10 : Int32)
                      · replace h := iteT h c11
                        refine g_tsw (tgt := 90) e_R_word_1 (10 : Int32) c11 (by decide) (by decide) rfl rfl ?_
                        refine p_ldcS 10 e_R_word_90 (by decide) ?_
                        exact p_retR e_R_word_92.1 rfl h
                      · replace h := iteF h c11
                        refine g_tsd (tgt := 93) [(0 : Int32), (1 : Int32), (2 : Int32), (3 : Int32), (4 : Int32), (5 : Int32), (6 : Int32), (7 : Int32), (8 : Int32), (9 : Int32), (10 : Int32)] e_R_word_1 (List.forall_mem_cons.mpr ⟨c1, (List.forall_mem_cons.mpr ⟨c2, (List.forall_mem_cons.mpr ⟨c3, (List.forall_mem_cons.mpr ⟨c4, (List.forall_mem_cons.mpr ⟨c5, (List.forall_mem_cons.mpr ⟨c6, (List.forall_mem_cons.mpr ⟨c7, (List.forall_mem_cons.mpr ⟨c8, (List.forall_mem_cons.mpr ⟨c9, (List.forall_mem_cons.mpr ⟨c10, (List.forall_mem_cons.mpr ⟨c11, (fun _ h => absurd h List.not_mem_nil)⟩)⟩)⟩)⟩)⟩)⟩)⟩)⟩)⟩)⟩)⟩) (by decide) rfl ?_
                        refine p_ldcS 11 e_R_word_93 (by decide) ?_
                        exact p_retR e_R_word_95.1 rfl h
set_option maxHeartbeats 1000000 in
theorem s_R_token  {v : Vv} {Q : Int32 → Vv → Prop} (h : if (v).1 108 4 < (v).1 108 3 then ((ib ((v).1 108 4) 161) ∧ (Q ((v).1 109 (ix ((v).1 108 4))) (v))) else (Q ((-1 : Int32)) (v))) : m_R_token  v Q := by
  refine cp_go (Nat.le_of_ble_eq_true rfl) (by decide +kernel) ?_
  show Gp 1 M_R_token 0 [(0, .ref (108))] [] v (QI Q)
  refine g_aload_n 0 e_R_token_0 rfl rfl ?_
  refine p_getI e_R_token_1 sh_108 fl_R_25 rfl ?_
  refine g_aload_n 0 e_R_token_4 rfl rfl ?_
  refine p_getI e_R_token_5 sh_108 fl_R_21 rfl ?_
  refine g_icmp_ge (tgt := 23) e_R_token_8 rfl (fun c1 => ?_) (fun c1 => ?_)
  · replace h := iteF h c1
    refine g_iconst (-1 : Int32) e_R_token_23 (by decide) ?_
    exact p_retI e_R_token_24.1 rfl h
  · replace h := iteT h c1
    refine g_aload_n 0 e_R_token_11 rfl rfl ?_
    refine p_getR (j := 109) e_R_token_12 sh_108 fl_R_9 rfl (rf_108_0 _) ?_
    refine g_aload_n 0 e_R_token_15 rfl rfl ?_
    refine p_getI e_R_token_16 sh_108 fl_R_25 rfl ?_
    obtain ⟨h2, h⟩ := h
    refine p_iald e_R_token_19 sh_109 h2 ?_
    refine g_goto (tgt := 24) e_R_token_20 rfl ?_
    exact p_retI e_R_token_24.1 rfl h
set_option maxHeartbeats 1000000 in
theorem s_R_isOfOne {l0 : Int32} {l1 : Int32} {v : Vv} {Q : Bool → Vv → Prop} (h : m_R_isSmall l0 (v) (fun x1 v2 => if x1 = true then (m_R_isSmall l1 (v2) (fun x4 v5 => if x4 = true then (Q true (v5)) else (k_R_isOfOne_14 (l0) (l1) (v5) Q))) else (k_R_isOfOne_14 (l0) (l1) (v2) Q))) : m_R_isOfOne l0 l1 v Q := by
  refine cp_go (Nat.le_of_ble_eq_true rfl) (by decide +kernel) ?_
  show Gp 2 M_R_isOfOne 0 [(0, .int (l0)), (1, .int (l1))] [] v (QZ Q)
  refine g_iload_n 0 e_R_isOfOne_0 rfl rfl ?_
  refine p_callSZ (d' := 1) (As := [.int (l0)]) (rest := []) e_R_isOfOne_1 zm_R_isSmall lS_R_65 rfl rfl (Nat.le_of_ble_eq_true rfl) (by decide) ?_
  refine cp_mono h (fun _ v2 ⟨x1, e1, h⟩ => ⟨x1, e1, ?_⟩)
  refine p_ifz_eq (tgt := 14) e_R_isOfOne_4 rfl (fun c3 => ?_) (fun c3 => ?_)
  · replace h := iteF h c3
    exact g_sub [0, 1] rfl h
  · replace h := iteT h c3
    refine g_iload_n 1 e_R_isOfOne_7 rfl rfl ?_
    refine p_callSZ (d' := 1) (As := [.int (l1)]) (rest := []) e_R_isOfOne_8 zm_R_isSmall lS_R_65 rfl rfl (Nat.le_of_ble_eq_true rfl) (by decide) ?_
    refine cp_mono h (fun _ v5 ⟨x4, e1, h⟩ => ⟨x4, e1, ?_⟩)
    refine p_ifz_ne (tgt := 28) e_R_isOfOne_11 rfl (fun c6 => ?_) (fun c6 => ?_)
    · replace h := iteT h c6
      refine g_iconst (1 : Int32) e_R_isOfOne_28 (by decide) ?_
      refine g_goto (tgt := 33) e_R_isOfOne_29 rfl ?_
      exact p_retZ (x := true) e_R_isOfOne_33.1 rfl h
    · replace h := iteF h c6
      exact g_sub [0, 1] rfl h
set_option maxHeartbeats 1000000 in
theorem s_R_isOfOne_14 {l0 : Int32} {l1 : Int32} {v : Vv} {Q : Bool → Vv → Prop} (h : m_R_isDigit l0 (v) (fun x7 v8 => if x7 = true then (m_R_isDigit l1 (v8) (fun x10 v11 => Q ((if x10 = true then true else false)) (v11))) else (Q false (v8)))) : k_R_isOfOne_14 l0 l1 v Q := by
  show Gp 2 M_R_isOfOne 14 [(0, .int (l0)), (1, .int (l1))] [] v (QZ Q)
  refine g_iload_n 0 e_R_isOfOne_14 rfl rfl ?_
  refine p_callSZ (d' := 1) (As := [.int (l0)]) (rest := []) e_R_isOfOne_15 zm_R_isDigit lS_R_68 rfl rfl (Nat.le_of_ble_eq_true rfl) (by decide) ?_
  refine cp_mono h (fun _ v8 ⟨x7, e1, h⟩ => ⟨x7, e1, ?_⟩)
  refine p_ifz_eq (tgt := 32) e_R_isOfOne_18 rfl (fun c9 => ?_) (fun c9 => ?_)
  · replace h := iteF h c9
    refine g_iconst (0 : Int32) e_R_isOfOne_32 (by decide) ?_
    exact p_retZ (x := false) e_R_isOfOne_33.1 rfl h
  · replace h := iteT h c9
    refine g_iload_n 1 e_R_isOfOne_21 rfl rfl ?_
    refine p_callSZ (d' := 1) (As := [.int (l1)]) (rest := []) e_R_isOfOne_22 zm_R_isDigit lS_R_68 rfl rfl (Nat.le_of_ble_eq_true rfl) (by decide) ?_
    refine cp_mono h (fun _ v11 ⟨x10, e1, h⟩ => ⟨x10, e1, ?_⟩)
    have hj : ∀ m0 : Bool, m0 = (if x10 = true then true else false) → Gp 2 M_R_isOfOne 33 [(0, .int (l0)), (1, .int (l1))] [.int (bI (m0))] (v11) (QZ Q) := by
      intro m0 hm0
      subst hm0
      exact p_retZ e_R_isOfOne_33.1 rfl h
    refine p_ifz_eq (tgt := 32) e_R_isOfOne_25 rfl (fun c12 => ?_) (fun c12 => ?_)
    · refine g_iconst (0 : Int32) e_R_isOfOne_32 (by decide) ?_
      exact hj (false) (by simp only [if_neg c12])
    · refine g_iconst (1 : Int32) e_R_isOfOne_28 (by decide) ?_
      refine g_goto (tgt := 33) e_R_isOfOne_29 rfl ?_
      exact hj (true) (by simp only [if_pos c12])
set_option maxHeartbeats 1000000 in
theorem s_R_accept {l1 : Int32} {v : Vv} {Q : Bool → Vv → Prop} (h : m_R_token  (v) (fun x1 v2 => if x1 = l1 then (Q true (sI (v2) 108 4 ((v2).1 108 4 + (1 : Int32)))) else (Q false (v2)))) : m_R_accept l1 v Q := by
  refine cp_go (Nat.le_of_ble_eq_true rfl) (by decide +kernel) ?_
  show Gp 2 M_R_accept 0 [(0, .ref (108)), (1, .int (l1))] [] v (QZ Q)
  refine g_aload_n 0 e_R_accept_0 rfl rfl ?_
  refine p_callVI (d' := 1) (ci := 4) (r := (RX4, TX4, 6)) (As := []) (rest := []) e_R_accept_1 zm_R_token lV_R_46 sh_108 rfl rfl rfl rfl (Nat.le_of_ble_eq_true rfl) (by decide) ?_
  refine cp_mono h (fun _ v2 ⟨x1, e1, h⟩ => ⟨x1, e1, ?_⟩)
  refine g_iload_n 1 e_R_accept_4 rfl rfl ?_
  refine g_icmp_eq (tgt := 10) e_R_accept_5 rfl (fun c3 => ?_) (fun c3 => ?_)
  · replace h := iteT h c3
    refine g_aload_n 0 e_R_accept_10 rfl rfl ?_
    refine g_dup e_R_accept_11 rfl ?_
    refine p_getI e_R_accept_12 sh_108 fl_R_25 rfl ?_
    refine g_iconst (1 : Int32) e_R_accept_15 (by decide) ?_
    refine g_iadd e_R_accept_16 ?_
    refine p_putI e_R_accept_17 sh_108 fp_R_25 rfl rfl rfl ?_
    refine g_iconst (1 : Int32) e_R_accept_20 (by decide) ?_
    exact p_retZ (x := true) e_R_accept_21.1 rfl h
  · replace h := iteF h c3
    refine g_iconst (0 : Int32) e_R_accept_8 (by decide) ?_
    exact p_retZ (x := false) e_R_accept_9.1 rfl h
set_option maxHeartbeats 1000000 in
theorem s_R_stands {l0 : Nat} {l2 : Int32} {l3 : Int32} {v : Vv} {Q : Bool → Vv → Prop} (h : (isStr (l0)) ∧ (if Int32.ofNat (slen (l0)) = (l3 - l2) then (k_R_stands_15 (l0) (l2) ((0 : Int32)) (v) Q) else (Q false (v)))) : m_R_stands l0 l2 l3 v Q := by
  refine cp_go (Nat.le_of_ble_eq_true rfl) (by decide +kernel) ?_
  show Gp 13 M_R_stands 0 [(0, .ref (l0)), (1, .ref (107)), (2, .int (l2)), (3, .int (l3))] [] v (QZ Q)
  refine g_aload_n 0 e_R_stands_0 rfl rfl ?_
  obtain ⟨h1, h⟩ := h
  refine p_strlen e_R_stands_1 h1 (by decide) ?_
  refine g_iload_n 3 e_R_stands_4 rfl rfl ?_
  refine g_iload_n 2 e_R_stands_5 rfl rfl ?_
  refine g_isub e_R_stands_6 ?_
  refine g_icmp_eq (tgt := 12) e_R_stands_7 rfl (fun c2 => ?_) (fun c2 => ?_)
  · replace h := iteT h c2
    refine g_iconst (0 : Int32) e_R_stands_12 (by decide) ?_
    refine g_istore (L' := [(4, .int ((0 : Int32))), (0, .ref (l0)), (1, .ref (107)), (2, .int (l2)), (3, .int (l3))]) e_R_stands_13 (by decide) rfl ?_
    exact g_sub [1, 2, 3, 0] rfl h
  · replace h := iteF h c2
    refine g_iconst (0 : Int32) e_R_stands_10 (by decide) ?_
    exact p_retZ (x := false) e_R_stands_11.1 rfl h
set_option maxHeartbeats 1000000 in
theorem s_R_stands_15 {l0 : Nat} {l2 : Int32} {l4 : Int32} {v : Vv} {Q : Bool → Vv → Prop} (h : (isStr (l0)) ∧ (if l4 < Int32.ofNat (slen (l0)) then ((ib (l4) (slen (l0))) ∧ ((ib ((l2 + l4)) 160) ∧ (if schr (l0) (ix (l4)) = (v).1 107 (ix ((l2 + l4))) then (k_R_stands_15 (l0) (l2) ((l4 + (1 : Int32))) (v) Q) else (Q false (v))))) else (Q true (v)))) : k_R_stands_15 l0 l2 l4 v Q := by
  show Gp 13 M_R_stands 15 [(0, .ref (l0)), (1, .ref (107)), (2, .int (l2)), (4, .int (l4))] [] v (QZ Q)
  refine g_iload 3 e_R_stands_15 rfl ?_
  refine g_aload_n 0 e_R_stands_17 rfl rfl ?_
  obtain ⟨h3, h⟩ := h
  refine p_strlen e_R_stands_18 h3 (by decide) ?_
  refine g_icmp_ge (tgt := 47) e_R_stands_21 rfl (fun c4 => ?_) (fun c4 => ?_)
  · replace h := iteF h c4
    refine g_iconst (1 : Int32) e_R_stands_47 (by decide) ?_
    exact p_retZ (x := true) e_R_stands_48.1 rfl h
  · replace h := iteT h c4
    refine g_aload_n 0 e_R_stands_24 rfl rfl ?_
    refine g_iload 3 e_R_stands_25 rfl ?_
    obtain ⟨h5, h⟩ := h
    refine p_charAt e_R_stands_27 h3 h5 (by decide) ?_
    refine g_aload_n 1 e_R_stands_30 rfl rfl ?_
    refine g_iload_n 2 e_R_stands_31 rfl rfl ?_
    refine g_iload 3 e_R_stands_32 rfl ?_
    refine g_iadd e_R_stands_34 ?_
    obtain ⟨h6, h⟩ := h
    refine p_iald e_R_stands_35 sh_107 h6 ?_
    refine g_icmp_eq (tgt := 41) e_R_stands_36 rfl (fun c7 => ?_) (fun c7 => ?_)
    · replace h := iteT h c7
      refine g_iinc (v := (l4 + (1 : Int32))) (L' := [(4, .int ((l4 + (1 : Int32)))), (0, .ref (l0)), (1, .ref (107)), (2, .int (l2))]) 3 e_R_stands_41 rfl rfl (by decide) rfl ?_
      refine g_goto (tgt := 15) e_R_stands_44 rfl ?_
      exact g_sub [1, 2, 3, 0] rfl h
    · replace h := iteF h c7
      refine g_iconst (0 : Int32) e_R_stands_39 (by decide) ?_
      exact p_retZ (x := false) e_R_stands_40.1 rfl h
set_option maxHeartbeats 1000000 in
theorem s_R_wordAt {l1 : Int32} {l2 : Int32} {v : Vv} {Q : Int32 → Vv → Prop} (h : k_R_wordAt_2 (l1) (l2) ((0 : Int32)) (v) Q) : m_R_wordAt l1 l2 v Q := by
  refine cp_go (Nat.le_of_ble_eq_true rfl) (by decide +kernel) ?_
  show Gp 14 M_R_wordAt 0 [(0, .ref (107)), (1, .int (l1)), (2, .int (l2))] [] v (QI Q)
  refine g_iconst (0 : Int32) e_R_wordAt_0 (by decide) ?_
  refine g_istore_n (L' := [(3, .int ((0 : Int32))), (0, .ref (107)), (1, .int (l1)), (2, .int (l2))]) e_R_wordAt_1 rfl (by decide) rfl ?_
  exact g_sub [1, 2, 3, 0] rfl h
set_option maxHeartbeats 1000000 in
theorem s_R_wordAt_2 {l1 : Int32} {l2 : Int32} {l3 : Int32} {v : Vv} {Q : Int32 → Vv → Prop} (h : if l3 < (12 : Int32) then (m_R_word l3 (v) (fun x2 v3 => m_R_stands x2 l1 l2 (v3) (fun x4 v5 => if x4 = true then (Q (l3) (v5)) else (k_R_wordAt_2 (l1) (l2) ((l3 + (1 : Int32))) (v5) Q)))) else (Q ((-2 : Int32)) (v))) : k_R_wordAt_2 l1 l2 l3 v Q := by
  show Gp 14 M_R_wordAt 2 [(0, .ref (107)), (1, .int (l1)), (2, .int (l2)), (3, .int (l3))] [] v (QI Q)
  refine g_iload_n 3 e_R_wordAt_2 rfl rfl ?_
  refine g_bipush (12 : Int32) e_R_wordAt_3 (by decide) ?_
  refine g_icmp_ge (tgt := 29) e_R_wordAt_5 rfl (fun c1 => ?_) (fun c1 => ?_)
  · replace h := iteF h c1
    refine g_bipush (-2 : Int32) e_R_wordAt_29 (by decide) ?_
    exact p_retI e_R_wordAt_31.1 rfl h
  · replace h := iteT h c1
    refine g_iload_n 3 e_R_wordAt_8 rfl rfl ?_
    refine p_callSR (d' := 1) (As := [.int (l3)]) (rest := []) e_R_wordAt_9 zm_R_word lS_R_77 rfl rfl (Nat.le_of_ble_eq_true rfl) (by decide) ?_
    refine cp_mono h (fun _ v3 ⟨x2, e1, h⟩ => ⟨x2, e1, ?_⟩)
    refine g_aload_n 0 e_R_wordAt_12 rfl rfl ?_
    refine g_iload_n 1 e_R_wordAt_13 rfl rfl ?_
    refine g_iload_n 2 e_R_wordAt_14 rfl rfl ?_
    refine p_callSZ (d' := 13) (As := [.ref (x2), .ref (107), .int (l1), .int (l2)]) (rest := []) e_R_wordAt_15 zm_R_stands lS_R_81 rfl rfl (Nat.le_of_ble_eq_true rfl) (by decide) ?_
    refine cp_mono h (fun _ v5 ⟨x4, e1, h⟩ => ⟨x4, e1, ?_⟩)
    refine p_ifz_eq (tgt := 23) e_R_wordAt_18 rfl (fun c6 => ?_) (fun c6 => ?_)
    · replace h := iteF h c6
      refine g_iinc (v := (l3 + (1 : Int32))) (L' := [(3, .int ((l3 + (1 : Int32)))), (0, .ref (107)), (1, .int (l1)), (2, .int (l2))]) 3 e_R_wordAt_23 rfl rfl (by decide) rfl ?_
      refine g_goto (tgt := 2) e_R_wordAt_26 rfl ?_
      exact g_sub [1, 2, 3, 0] rfl h
    · replace h := iteT h c6
      refine g_iload_n 3 e_R_wordAt_21 rfl rfl ?_
      exact p_retI e_R_wordAt_22.1 rfl h
set_option maxHeartbeats 1000000 in
theorem s_R_tokenOf {l1 : Int32} {l2 : Int32} {v : Vv} {Q : Int32 → Vv → Prop} (h : (ib (l1) 160) ∧ (m_R_isSmall ((v).1 107 (ix (l1))) (v) (fun x2 v3 => if x2 = true then (m_R_wordAt l1 l2 (v3) (fun x5 v6 => Q (x5) (v6))) else (m_R_isDigit ((v).1 107 (ix (l1))) (v3) (fun x7 v8 => if x7 = true then (m_R_numberAt l1 l2 (v8) (fun x10 v11 => Q (x10) (v11))) else (if (v).1 107 (ix (l1)) = (40 : Int32) then (Q ((v).1 107 (ix (l1))) (v8)) else (if (v).1 107 (ix (l1)) = (41 : Int32) then (Q ((v).1 107 (ix (l1))) (v8)) else (if (v).1 107 (ix (l1)) = (42 : Int32) then (Q ((v).1 107 (ix (l1))) (v8)) else (if (v).1 107 (ix (l1)) = (43 : Int32) then (Q ((v).1 107 (ix (l1))) (v8)) else (if (v).1 107 (ix (l1)) = (44 : Int32) then (Q ((-2 : Int32)) (v8)) else (if (v).1 107 (ix (l1)) = (45 : Int32) then (Q ((v).1 107 (ix (l1))) (v8)) else (if (v).1 107 (ix (l1)) = (46 : Int32) then (Q ((-2 : Int32)) (v8)) else (if (v).1 107 (ix (l1)) = (47 : Int32) then (Q ((-2 : Int32)) (v8)) else (if (v).1 107 (ix (l1)) = (48 : Int32) then (Q ((-2 : Int32)) (v8)) else (if (v).1 107 (ix (l1)) = (49 : Int32) then (Q ((-2 : Int32)) (v8)) else (if (v).1 107 (ix (l1)) = (50 : Int32) then (Q ((-2 : Int32)) (v8)) else (if (v).1 107 (ix (l1)) = (51 : Int32) then (Q ((-2 : Int32)) (v8)) else (if (v).1 107 (ix (l1)) = (52 : Int32) then (Q ((-2 : Int32)) (v8)) else (if (v).1 107 (ix (l1)) = (53 : Int32) then (Q ((-2 : Int32)) (v8)) else (if (v).1 107 (ix (l1)) = (54 : Int32) then (Q ((-2 : Int32)) (v8)) else (if (v).1 107 (ix (l1)) = (55 : Int32) then (Q ((-2 : Int32)) (v8)) else (if (v).1 107 (ix (l1)) = (56 : Int32) then (Q ((-2 : Int32)) (v8)) else (if (v).1 107 (ix (l1)) = (57 : Int32) then (Q ((-2 : Int32)) (v8)) else (if (v).1 107 (ix (l1)) = (58 : Int32) then (Q ((-2 : Int32)) (v8)) else (if (v).1 107 (ix (l1)) = (59 : Int32) then (Q ((v).1 107 (ix (l1))) (v8)) else (if (v).1 107 (ix (l1)) = (60 : Int32) then (Q ((v).1 107 (ix (l1))) (v8)) else (if (v).1 107 (ix (l1)) = (61 : Int32) then (Q ((v).1 107 (ix (l1))) (v8)) else (Q ((-2 : Int32)) (v8))))))))))))))))))))))))))))) : m_R_tokenOf l1 l2 v Q := by
  refine cp_go (Nat.le_of_ble_eq_true rfl) (by decide +kernel) ?_
  show Gp 15 M_R_tokenOf 0 [(0, .ref (107)), (1, .int (l1)), (2, .int (l2))] [] v (QI Q)
  refine g_aload_n 0 e_R_tokenOf_0 rfl rfl ?_
  refine g_iload_n 1 e_R_tokenOf_1 rfl rfl ?_
  obtain ⟨h1, h⟩ := h
  refine p_iald e_R_tokenOf_2 sh_107 h1 ?_
  refine g_istore_n (L' := [(3, .int ((v).1 107 (ix (l1)))), (0, .ref (107)), (1, .int (l1)), (2, .int (l2))]) e_R_tokenOf_3 rfl (by decide) rfl ?_
  refine g_iload_n 0 e_R_tokenOf_4 rfl rfl ?_
  refine p_callSZ (d' := 1) (As := [.int ((v).1 107 (ix (l1)))]) (rest := []) e_R_tokenOf_5 zm_R_isSmall lS_R_65 rfl rfl (Nat.le_of_ble_eq_true rfl) (by decide) ?_
  refine cp_mono h (fun _ v3 ⟨x2, e1, h⟩ => ⟨x2, e1, ?_⟩)
  refine p_ifz_eq (tgt := 18) e_R_tokenOf_8 rfl (fun c4 => ?_) (fun c4 => ?_)
  · replace h := iteF h c4
    refine g_iload_n 0 e_R_tokenOf_18 rfl rfl ?_
    refine p_callSZ (d' := 1) (As := [.int ((v).1 107 (ix (l1)))]) (rest := []) e_R_tokenOf_19 zm_R_isDigit lS_R_68 rfl rfl (Nat.le_of_ble_eq_true rfl) (by decide) ?_
    refine cp_mono h (fun _ v8 ⟨x7, e1, h⟩ => ⟨x7, e1, ?_⟩)
    refine p_ifz_eq (tgt := 32) e_R_tokenOf_22 rfl (fun c9 => ?_) (fun c9 => ?_)
    · replace h := iteF h c9
      refine g_iload_n 0 e_R_tokenOf_32 rfl rfl ?_
      by_cases c12 : (v).1 107 (ix (l1)) = (40 : Int32)
      · replace h := iteT h c12
        refine g_tsw (tgt := 136) e_R_tokenOf_33 (40 : Int32) c12 (by decide) (by decide) rfl rfl ?_
        refine g_iload_n 0 e_R_tokenOf_136 rfl rfl ?_
        exact p_retI e_R_tokenOf_137.1 rfl h
      · replace h := iteF h c12
        by_cases c13 : (v).1 107 (ix (l1)) = (41 : Int32)
        · replace h := iteT h c13
          refine g_tsw (tgt := 136) e_R_tokenOf_33 (41 : Int32) c13 (by decide) (by decide) rfl rfl ?_
          refine g_iload_n 0 e_R_tokenOf_136 rfl rfl ?_
          exact p_retI e_R_tokenOf_137.1 rfl h
        · replace h := iteF h c13
          by_cases c14 : (v).1 107 (ix (l1)) = (42 : Int32)
          · replace h := iteT h c14
            refine g_tsw (tgt := 136) e_R_tokenOf_33 (42 : Int32) c14 (by decide) (by decide) rfl rfl ?_
            refine g_iload_n 0 e_R_tokenOf_136 rfl rfl ?_
            exact p_retI e_R_tokenOf_137.1 rfl h
          · replace h := iteF h c14
            by_cases c15 : (v).1 107 (ix (l1)) = (43 : Int32)
            · replace h := iteT h c15
              refine g_tsw (tgt := 136) e_R_tokenOf_33 (43 : Int32) c15 (by decide) (by decide) rfl rfl ?_
              refine g_iload_n 0 e_R_tokenOf_136 rfl rfl ?_
              exact p_retI e_R_tokenOf_137.1 rfl h
            · replace h := iteF h c15
              by_cases c16 : (v).1 107 (ix (l1)) = (44 : Int32)
              · replace h := iteT h c16
                refine g_tsw (tgt := 138) e_R_tokenOf_33 (44 : Int32) c16 (by decide) (by decide) rfl rfl ?_
                refine g_bipush (-2 : Int32) e_R_tokenOf_138 (by decide) ?_
                exact p_retI e_R_tokenOf_140.1 rfl h
              · replace h := iteF h c16
                by_cases c17 : (v).1 107 (ix (l1)) = (45 : Int32)
                · replace h := iteT h c17
                  refine g_tsw (tgt := 136) e_R_tokenOf_33 (45 : Int32) c17 (by decide) (by decide) rfl rfl ?_
                  refine g_iload_n 0 e_R_tokenOf_136 rfl rfl ?_
                  exact p_retI e_R_tokenOf_137.1 rfl h
                · replace h := iteF h c17
                  by_cases c18 : (v).1 107 (ix (l1)) = (46 : Int32)
                  · replace h := iteT h c18
                    refine g_tsw (tgt := 138) e_R_tokenOf_33 (46 : Int32) c18 (by decide) (by decide) rfl rfl ?_
                    refine g_bipush (-2 : Int32) e_R_tokenOf_138 (by decide) ?_
                    exact p_retI e_R_tokenOf_140.1 rfl h
                  · replace h := iteF h c18
                    by_cases c19 : (v).1 107 (ix (l1)) = (47 : Int32)
                    · replace h := iteT h c19
                      refine g_tsw (tgt := 138) e_R_tokenOf_33 (47 : Int32) c19 (by decide) (by decide) rfl rfl ?_
                      refine g_bipush (-2 : Int32) e_R_tokenOf_138 (by decide) ?_
                      exact p_retI e_R_tokenOf_140.1 rfl h
                    · replace h := iteF h c19
                      by_cases c20 : (v).1 107 (ix (l1)) = (48 : Int32)
                      · replace h := iteT h c20
                        refine g_tsw (tgt := 138) e_R_tokenOf_33 (48 : Int32) c20 (by decide) (by decide) rfl rfl ?_
                        refine g_bipush (-2 : Int32) e_R_tokenOf_138 (by decide) ?_
                        exact p_retI e_R_tokenOf_140.1 rfl h
                      · replace h := iteF h c20
                        by_cases c21 : (v).1 107 (ix (l1)) = (49 : Int32)
                        · replace h := iteT h c21
                          refine g_tsw (tgt := 138) e_R_tokenOf_33 (49 : Int32) c21 (by decide) (by decide) rfl rfl ?_
                          refine g_bipush (-2 : Int32) e_R_tokenOf_138 (by decide) ?_
                          exact p_retI e_R_tokenOf_140.1 rfl h
                        · replace h := iteF h c21
                          by_cases c22 : (v).1 107 (ix (l1)) = (50 : Int32)
                          · replace h := iteT h c22
                            refine g_tsw (tgt := 138) e_R_tokenOf_33 (50 : Int32) c22 (by decide) (by decide) rfl rfl ?_
                            refine g_bipush (-2 : Int32) e_R_tokenOf_138 (by decide) ?_
                            exact p_retI e_R_tokenOf_140.1 rfl h
                          · replace h := iteF h c22
                            by_cases c23 : (v).1 107 (ix (l1)) = (51 : Int32)
                            · replace h := iteT h c23
                              refine g_tsw (tgt := 138) e_R_tokenOf_33 (51 : Int32) c23 (by decide) (by decide) rfl rfl ?_
                              refine g_bipush (-2 : Int32) e_R_tokenOf_138 (by decide) ?_
                              exact p_retI e_R_tokenOf_140.1 rfl h
                            · replace h := iteF h c23
                              by_cases c24 : (v).1 107 (ix (l1)) = (52 : Int32)
                              · replace h := iteT h c24
                                refine g_tsw (tgt := 138) e_R_tokenOf_33 (52 : Int32) c24 (by decide) (by decide) rfl rfl ?_
                                refine g_bipush (-2 : Int32) e_R_tokenOf_138 (by decide) ?_
                                exact p_retI e_R_tokenOf_140.1 rfl h
                              · replace h := iteF h c24
                                by_cases c25 : (v).1 107 (ix (l1)) = (53 : Int32)
                                · replace h := iteT h c25
                                  refine g_tsw (tgt := 138) e_R_tokenOf_33 (53 : Int32) c25 (by decide) (by decide) rfl rfl ?_
                                  refine g_bipush (-2 : Int32) e_R_tokenOf_138 (by decide) ?_
                                  exact p_retI e_R_tokenOf_140.1 rfl h
                                · replace h := iteF h c25
                                  by_cases c26 : (v).1 107 (ix (l1)) = (54 : Int32)
                                  · replace h := iteT h c26
                                    refine g_tsw (tgt := 138) e_R_tokenOf_33 (54 : Int32) c26 (by decide) (by decide) rfl rfl ?_
                                    refine g_bipush (-2 : Int32) e_R_tokenOf_138 (by decide) ?_
                                    exact p_retI e_R_tokenOf_140.1 rfl h
                                  · replace h := iteF h c26
                                    by_cases c27 : (v).1 107 (ix (l1)) = (55 : Int32)
                                    · replace h := iteT h c27
                                      refine g_tsw (tgt := 138) e_R_tokenOf_33 (55 : Int32) c27 (by decide) (by decide) rfl rfl ?_
                                      refine g_bipush (-2 : Int32) e_R_tokenOf_138 (by decide) ?_
                                      exact p_retI e_R_tokenOf_140.1 rfl h
                                    · replace h := iteF h c27
                                      by_cases c28 : (v).1 107 (ix (l1)) = (56 : Int32)
                                      · replace h := iteT h c28
                                        refine g_tsw (tgt := 138) e_R_tokenOf_33 (56 : Int32) c28 (by decide) (by decide) rfl rfl ?_
                                        refine g_bipush (-2 : Int32) e_R_tokenOf_138 (by decide) ?_
                                        exact p_retI e_R_tokenOf_140.1 rfl h
                                      · replace h := iteF h c28
                                        by_cases c29 : (v).1 107 (ix (l1)) = (57 : Int32)
                                        · replace h := iteT h c29
                                          refine g_tsw (tgt := 138) e_R_tokenOf_33 (57 : Int32) c29 (by decide) (by decide) rfl rfl ?_
                                          refine g_bipush (-2 : Int32) e_R_tokenOf_138 (by decide) ?_
                                          exact p_retI e_R_tokenOf_140.1 rfl h
                                        · replace h := iteF h c29
                                          by_cases c30 : (v).1 107 (ix (l1)) = (58 : Int32)
                                          · replace h := iteT h c30
                                            refine g_tsw (tgt := 138) e_R_tokenOf_33 (58 : Int32) c30 (by decide) (by decide) rfl rfl ?_
                                            refine g_bipush (-2 : Int32) e_R_tokenOf_138 (by decide) ?_
                                            exact p_retI e_R_tokenOf_140.1 rfl h
                                          · replace h := iteF h c30
                                            by_cases c31 : (v).1 107 (ix (l1)) = (59 : Int32)
                                            · replace h := iteT h c31
                                              refine g_tsw (tgt := 136) e_R_tokenOf_33 (59 : Int32) c31 (by decide) (by decide) rfl rfl ?_
                                              refine g_iload_n 0 e_R_tokenOf_136 rfl rfl ?_
                                              exact p_retI e_R_tokenOf_137.1 rfl h
                                            · replace h := iteF h c31
                                              by_cases c32 : (v).1 107 (ix (l1)) = (60 : Int32)
                                              · replace h := iteT h c32
                                                refine g_tsw (tgt := 136) e_R_tokenOf_33 (60 : Int32) c32 (by decide) (by decide) rfl rfl ?_
                                                refine g_iload_n 0 e_R_tokenOf_136 rfl rfl ?_
                                                exact p_retI e_R_tokenOf_137.1 rfl h
                                              · replace h := iteF h c32
                                                by_cases c33 : (v).1 107 (ix (l1)) = (61 : Int32)
                                                · replace h := iteT h c33
                                                  refine g_tsw (tgt := 136) e_R_tokenOf_33 (61 : Int32) c33 (by decide) (by decide) rfl rfl ?_
                                                  refine g_iload_n 0 e_R_tokenOf_136 rfl rfl ?_
                                                  exact p_retI e_R_tokenOf_137.1 rfl h
                                                · replace h := iteF h c33
                                                  refine g_tsd (tgt := 138) [(40 : Int32), (41 : Int32), (42 : Int32), (43 : Int32), (44 : Int32), (45 : Int32), (46 : Int32), (47 : Int32), (48 : Int32), (49 : Int32), (50 : Int32), (51 : Int32), (52 : Int32), (53 : Int32), (54 : Int32), (55 : Int32), (56 : Int32), (57 : Int32), (58 : Int32), (59 : Int32), (60 : Int32), (61 : Int32)] e_R_tokenOf_33 (List.forall_mem_cons.mpr ⟨c12, (List.forall_mem_cons.mpr ⟨c13, (List.forall_mem_cons.mpr ⟨c14, (List.forall_mem_cons.mpr ⟨c15, (List.forall_mem_cons.mpr ⟨c16, (List.forall_mem_cons.mpr ⟨c17, (List.forall_mem_cons.mpr ⟨c18, (List.forall_mem_cons.mpr ⟨c19, (List.forall_mem_cons.mpr ⟨c20, (List.forall_mem_cons.mpr ⟨c21, (List.forall_mem_cons.mpr ⟨c22, (List.forall_mem_cons.mpr ⟨c23, (List.forall_mem_cons.mpr ⟨c24, (List.forall_mem_cons.mpr ⟨c25, (List.forall_mem_cons.mpr ⟨c26, (List.forall_mem_cons.mpr ⟨c27, (List.forall_mem_cons.mpr ⟨c28, (List.forall_mem_cons.mpr ⟨c29, (List.forall_mem_cons.mpr ⟨c30, (List.forall_mem_cons.mpr ⟨c31, (List.forall_mem_cons.mpr ⟨c32, (List.forall_mem_cons.mpr ⟨c33, (fun _ h => absurd h List.not_mem_nil)⟩)⟩)⟩)⟩)⟩)⟩)⟩)⟩)⟩)⟩)⟩)⟩)⟩)⟩)⟩)⟩)⟩)⟩)⟩)⟩)⟩)⟩) (by decide) rfl ?_
                                                  refine g_bipush (-2 : Int32) e_R_tokenOf_138 (by decide) ?_
                                                  exact p_retI e_R_tokenOf_140.1 rfl h
    · replace h := iteT h c9
      refine g_aload_n 1 e_R_tokenOf_25 rfl rfl ?_
      refine g_iload_n 2 e_R_tokenOf_26 rfl rfl ?_
      refine g_iload_n 3 e_R_tokenOf_27 rfl rfl ?_
      refine p_callSI (d' := 1) (As := [.ref (107), .int (l1), .int (l2)]) (rest := []) e_R_tokenOf_28 zm_R_numberAt lS_R_74 rfl rfl (Nat.le_of_ble_eq_true rfl) (by decide) ?_
      refine cp_mono h (fun _ v11 ⟨x10, e1, h⟩ => ⟨x10, e1, ?_⟩)
      exact p_retI e_R_tokenOf_31.1 rfl h
  · replace h := iteT h c4
    refine g_aload_n 1 e_R_tokenOf_11 rfl rfl ?_
    refine g_iload_n 2 e_R_tokenOf_12 rfl rfl ?_
    refine g_iload_n 3 e_R_tokenOf_13 rfl rfl ?_
    refine p_callSI (d' := 14) (As := [.ref (107), .int (l1), .int (l2)]) (rest := []) e_R_tokenOf_14 zm_R_wordAt lS_R_71 rfl rfl (Nat.le_of_ble_eq_true rfl) (by decide) ?_
    refine cp_mono h (fun _ v6 ⟨x5, e1, h⟩ => ⟨x5, e1, ?_⟩)
    exact p_retI e_R_tokenOf_17.1 rfl h
set_option maxHeartbeats 1000000 in
theorem s_R_split {l2 : Int32} {v : Vv} {Q : Vv → Prop} (h : k_R_split_7 (l2) ((0 : Int32)) (sI (v) 108 3 (0 : Int32)) Q) : m_R_split l2 v Q := by
  refine cp_go (Nat.le_of_ble_eq_true rfl) (by decide +kernel) ?_
  show Gp 16 M_R_split 0 [(0, .ref (108)), (1, .ref (107)), (2, .int (l2))] [] v (QV Q)
  refine g_aload_n 0 e_R_split_0 rfl rfl ?_
  refine g_iconst (0 : Int32) e_R_split_1 (by decide) ?_
  refine p_putI e_R_split_2 sh_108 fp_R_21 rfl rfl rfl ?_
  refine g_iconst (0 : Int32) e_R_split_5 (by decide) ?_
  refine g_istore_n (L' := [(3, .int ((0 : Int32))), (0, .ref (108)), (1, .ref (107)), (2, .int (l2))]) e_R_split_6 rfl (by decide) rfl ?_
  exact g_sub [1, 2, 3, 0] rfl h
set_option maxHeartbeats 1000000 in
theorem s_R_split_7 {l2 : Int32} {l3 : Int32} {v : Vv} {Q : Vv → Prop} (h : if l3 < l2 then ((ib (l3) 160) ∧ (m_R_isBlank ((v).1 107 (ix (l3))) (v) (fun x3 v4 => if x3 = true then (k_R_split_74 (l2) (l3) (v4) Q) else (if (0 : Int32) < l3 then (if (0 : Int32) < (v4).1 108 3 then ((ib ((l3 - (1 : Int32))) 160) ∧ (m_R_isOfOne ((v4).1 107 (ix ((l3 - (1 : Int32))))) ((v4).1 107 (ix (l3))) (v4) (fun x9 v10 => if x9 = true then ((ib (((v10).1 108 3 - (1 : Int32))) 161) ∧ (k_R_split_74 (l2) (l3) (sI (v10) 111 (ix (((v10).1 108 3 - (1 : Int32)))) (l3 + (1 : Int32))) Q)) else (k_R_split_66 (l2) (l3) (v10) Q)))) else (k_R_split_66 (l2) (l3) (v4) Q)) else (k_R_split_66 (l2) (l3) (v4) Q))))) else (k_R_split_82 (l2) ((0 : Int32)) (v) Q)) : k_R_split_7 l2 l3 v Q := by
  show Gp 16 M_R_split 7 [(0, .ref (108)), (1, .ref (107)), (2, .int (l2)), (3, .int (l3))] [] v (QV Q)
  refine g_iload_n 3 e_R_split_7 rfl rfl ?_
  refine g_iload_n 2 e_R_split_8 rfl rfl ?_
  refine g_icmp_ge (tgt := 80) e_R_split_9 rfl (fun c1 => ?_) (fun c1 => ?_)
  · replace h := iteF h c1
    refine g_iconst (0 : Int32) e_R_split_80 (by decide) ?_
    refine g_istore_n (L' := [(3, .int ((0 : Int32))), (0, .ref (108)), (1, .ref (107)), (2, .int (l2))]) e_R_split_81 rfl (by decide) rfl ?_
    exact g_sub [1, 2, 3, 0] rfl h
  · replace h := iteT h c1
    refine g_aload_n 1 e_R_split_12 rfl rfl ?_
    refine g_iload_n 3 e_R_split_13 rfl rfl ?_
    obtain ⟨h2, h⟩ := h
    refine p_iald e_R_split_14 sh_107 h2 ?_
    refine p_callSZ (d' := 1) (As := [.int ((v).1 107 (ix (l3)))]) (rest := []) e_R_split_15 zm_R_isBlank lS_R_50 rfl rfl (Nat.le_of_ble_eq_true rfl) (by decide) ?_
    refine cp_mono h (fun _ v4 ⟨x3, e1, h⟩ => ⟨x3, e1, ?_⟩)
    refine p_ifz_eq (tgt := 24) e_R_split_18 rfl (fun c5 => ?_) (fun c5 => ?_)
    · replace h := iteF h c5
      refine g_iload_n 3 e_R_split_24 rfl rfl ?_
      refine g_if_le (tgt := 66) e_R_split_25 rfl (fun c6 => ?_) (fun c6 => ?_)
      · replace h := iteF h c6
        exact g_sub [0, 1, 2, 3] rfl h
      · replace h := iteT h c6
        refine g_aload_n 0 e_R_split_28 rfl rfl ?_
        refine p_getI e_R_split_29 sh_108 fl_R_21 rfl ?_
        refine g_if_le (tgt := 66) e_R_split_32 rfl (fun c7 => ?_) (fun c7 => ?_)
        · replace h := iteF h c7
          exact g_sub [0, 1, 2, 3] rfl h
        · replace h := iteT h c7
          refine g_aload_n 1 e_R_split_35 rfl rfl ?_
          refine g_iload_n 3 e_R_split_36 rfl rfl ?_
          refine g_iconst (1 : Int32) e_R_split_37 (by decide) ?_
          refine g_isub e_R_split_38 ?_
          obtain ⟨h8, h⟩ := h
          refine p_iald e_R_split_39 sh_107 h8 ?_
          refine g_aload_n 1 e_R_split_40 rfl rfl ?_
          refine g_iload_n 3 e_R_split_41 rfl rfl ?_
          refine p_iald e_R_split_42 sh_107 h2 ?_
          refine p_callSZ (d' := 2) (As := [.int ((v4).1 107 (ix ((l3 - (1 : Int32))))), .int ((v4).1 107 (ix (l3)))]) (rest := []) e_R_split_43 zm_R_isOfOne lS_R_54 rfl rfl (Nat.le_of_ble_eq_true rfl) (by decide) ?_
          refine cp_mono h (fun _ v10 ⟨x9, e1, h⟩ => ⟨x9, e1, ?_⟩)
          refine p_ifz_eq (tgt := 66) e_R_split_46 rfl (fun c11 => ?_) (fun c11 => ?_)
          · replace h := iteF h c11
            exact g_sub [0, 1, 2, 3] rfl h
          · replace h := iteT h c11
            refine g_aload_n 0 e_R_split_49 rfl rfl ?_
            refine p_getR (j := 111) e_R_split_50 sh_108 fl_R_18 rfl (rf_108_2 _) ?_
            refine g_aload_n 0 e_R_split_53 rfl rfl ?_
            refine p_getI e_R_split_54 sh_108 fl_R_21 rfl ?_
            refine g_iconst (1 : Int32) e_R_split_57 (by decide) ?_
            refine g_isub e_R_split_58 ?_
            refine g_iload_n 3 e_R_split_59 rfl rfl ?_
            refine g_iconst (1 : Int32) e_R_split_60 (by decide) ?_
            refine g_iadd e_R_split_61 ?_
            obtain ⟨h12, h⟩ := h
            refine p_iast e_R_split_62 sh_111 h12 ?_
            refine g_goto (tgt := 74) e_R_split_63 rfl ?_
            exact g_sub [0, 1, 2, 3] rfl h
    · replace h := iteT h c5
      refine g_goto (tgt := 74) e_R_split_21 rfl ?_
      exact g_sub [0, 1, 2, 3] rfl h
set_option maxHeartbeats 1000000 in
theorem s_R_split_74 {l2 : Int32} {l3 : Int32} {v : Vv} {Q : Vv → Prop} (h : k_R_split_7 (l2) ((l3 + (1 : Int32))) (v) Q) : k_R_split_74 l2 l3 v Q := by
  show Gp 16 M_R_split 74 [(0, .ref (108)), (1, .ref (107)), (2, .int (l2)), (3, .int (l3))] [] v (QV Q)
  refine g_iinc (v := (l3 + (1 : Int32))) (L' := [(3, .int ((l3 + (1 : Int32)))), (0, .ref (108)), (1, .ref (107)), (2, .int (l2))]) 3 e_R_split_74 rfl rfl (by decide) rfl ?_
  refine g_goto (tgt := 7) e_R_split_77 rfl ?_
  exact g_sub [1, 2, 3, 0] rfl h
set_option maxHeartbeats 1000000 in
theorem s_R_split_66 {l2 : Int32} {l3 : Int32} {v : Vv} {Q : Vv → Prop} (h : m_R_add l3 (l3 + (1 : Int32)) (v) (fun v14 => k_R_split_74 (l2) (l3) (v14) Q)) : k_R_split_66 l2 l3 v Q := by
  show Gp 16 M_R_split 66 [(0, .ref (108)), (1, .ref (107)), (2, .int (l2)), (3, .int (l3))] [] v (QV Q)
  refine g_aload_n 0 e_R_split_66 rfl rfl ?_
  refine g_iload_n 3 e_R_split_67 rfl rfl ?_
  refine g_iload_n 3 e_R_split_68 rfl rfl ?_
  refine g_iconst (1 : Int32) e_R_split_69 (by decide) ?_
  refine g_iadd e_R_split_70 ?_
  refine p_callVV (d' := 1) (ci := 4) (r := (RX4, TX4, 6)) (As := [.int (l3), .int ((l3 + (1 : Int32)))]) (rest := []) e_R_split_71 zm_R_add lV_R_57 sh_108 rfl rfl rfl rfl (Nat.le_of_ble_eq_true rfl) (by decide) ?_
  refine cp_mono h (fun _ v14 ⟨e1, h⟩ => ⟨e1, ?_⟩)
  exact g_sub [0, 1, 2, 3] rfl h
set_option maxHeartbeats 1000000 in
theorem s_R_split_82 {l2 : Int32} {l3 : Int32} {v : Vv} {Q : Vv → Prop} (h : if l3 < (v).1 108 3 then ((ib (l3) 161) ∧ (m_R_tokenOf ((v).1 110 (ix (l3))) ((v).1 111 (ix (l3))) (v) (fun x17 v18 => k_R_split_82 (l2) ((l3 + (1 : Int32))) (sI (v18) 109 (ix (l3)) x17) Q))) else (m_R_add l2 l2 (v) (fun v20 => (ib (((v20).1 108 3 - (1 : Int32))) 161) ∧ (Q (sI (v20) 109 (ix (((v20).1 108 3 - (1 : Int32)))) (-1 : Int32)))))) : k_R_split_82 l2 l3 v Q := by
  show Gp 16 M_R_split 82 [(0, .ref (108)), (1, .ref (107)), (2, .int (l2)), (3, .int (l3))] [] v (QV Q)
  refine g_iload_n 3 e_R_split_82 rfl rfl ?_
  refine g_aload_n 0 e_R_split_83 rfl rfl ?_
  refine p_getI e_R_split_84 sh_108 fl_R_21 rfl ?_
  refine g_icmp_ge (tgt := 118) e_R_split_87 rfl (fun c15 => ?_) (fun c15 => ?_)
  · replace h := iteF h c15
    refine g_aload_n 0 e_R_split_118 rfl rfl ?_
    refine g_iload_n 2 e_R_split_119 rfl rfl ?_
    refine g_iload_n 2 e_R_split_120 rfl rfl ?_
    refine p_callVV (d' := 1) (ci := 4) (r := (RX4, TX4, 6)) (As := [.int (l2), .int (l2)]) (rest := []) e_R_split_121 zm_R_add lV_R_57 sh_108 rfl rfl rfl rfl (Nat.le_of_ble_eq_true rfl) (by decide) ?_
    refine cp_mono h (fun _ v20 ⟨e1, h⟩ => ⟨e1, ?_⟩)
    refine g_aload_n 0 e_R_split_124 rfl rfl ?_
    refine p_getR (j := 109) e_R_split_125 sh_108 fl_R_9 rfl (rf_108_0 _) ?_
    refine g_aload_n 0 e_R_split_128 rfl rfl ?_
    refine p_getI e_R_split_129 sh_108 fl_R_21 rfl ?_
    refine g_iconst (1 : Int32) e_R_split_132 (by decide) ?_
    refine g_isub e_R_split_133 ?_
    refine g_iconst (-1 : Int32) e_R_split_134 (by decide) ?_
    obtain ⟨h21, h⟩ := h
    refine p_iast e_R_split_135 sh_109 h21 ?_
    exact p_retV e_R_split_136.1 rfl h
  · replace h := iteT h c15
    refine g_aload_n 0 e_R_split_90 rfl rfl ?_
    refine p_getR (j := 109) e_R_split_91 sh_108 fl_R_9 rfl (rf_108_0 _) ?_
    refine g_iload_n 3 e_R_split_94 rfl rfl ?_
    refine g_aload_n 1 e_R_split_95 rfl rfl ?_
    refine g_aload_n 0 e_R_split_96 rfl rfl ?_
    refine p_getR (j := 110) e_R_split_97 sh_108 fl_R_15 rfl (rf_108_1 _) ?_
    refine g_iload_n 3 e_R_split_100 rfl rfl ?_
    obtain ⟨h16, h⟩ := h
    refine p_iald e_R_split_101 sh_110 h16 ?_
    refine g_aload_n 0 e_R_split_102 rfl rfl ?_
    refine p_getR (j := 111) e_R_split_103 sh_108 fl_R_18 rfl (rf_108_2 _) ?_
    refine g_iload_n 3 e_R_split_106 rfl rfl ?_
    refine p_iald e_R_split_107 sh_111 h16 ?_
    refine p_callSI (d' := 15) (As := [.ref (107), .int ((v).1 110 (ix (l3))), .int ((v).1 111 (ix (l3)))]) (rest := [.int (l3), .ref (109)]) e_R_split_108 zm_R_tokenOf lS_R_61 rfl rfl (Nat.le_of_ble_eq_true rfl) (by decide) ?_
    refine cp_mono h (fun _ v18 ⟨x17, e1, h⟩ => ⟨x17, e1, ?_⟩)
    refine p_iast e_R_split_111 sh_109 h16 ?_
    refine g_iinc (v := (l3 + (1 : Int32))) (L' := [(3, .int ((l3 + (1 : Int32)))), (0, .ref (108)), (1, .ref (107)), (2, .int (l2))]) 3 e_R_split_112 rfl rfl (by decide) rfl ?_
    refine g_goto (tgt := 82) e_R_split_115 rfl ?_
    exact g_sub [1, 2, 3, 0] rfl h
set_option maxHeartbeats 1000000 in
theorem s_R_any {d : Nat} (hd : 12 ≤ d) {l1 : Int32} {v : Vv} {Q : Bool → Vv → Prop} (h : m_R_every d l1 (v) (fun x1 v2 => if x1 = true then (k_R_any_12 d (l1) ((0 : Int32)) (v2) Q) else (Q false (v2)))) : m_R_any (d + 1) l1 v Q := by
  refine cp_go (Nat.le_of_ble_eq_true rfl) (by decide +kernel) ?_
  show Gp (d + 1) M_R_any 0 [(0, .ref (108)), (1, .int (l1))] [] v (QZ Q)
  refine g_aload_n 0 e_R_any_0 rfl rfl ?_
  refine g_iload_n 1 e_R_any_1 rfl rfl ?_
  refine p_callVZ (d' := d) (ci := 4) (r := (RX4, TX4, 6)) (As := [.int (l1)]) (rest := []) e_R_any_2 zm_R_every lV_R_128 sh_108 rfl rfl rfl rfl (Nat.le_of_ble_eq_true rfl) (Nat.le_refl _) ?_
  refine cp_mono h (fun _ v2 ⟨x1, e1, h⟩ => ⟨x1, e1, ?_⟩)
  refine p_ifz_ne (tgt := 10) e_R_any_5 rfl (fun c3 => ?_) (fun c3 => ?_)
  · replace h := iteT h c3
    refine g_iconst (0 : Int32) e_R_any_10 (by decide) ?_
    refine g_istore_n (L' := [(2, .int ((0 : Int32))), (0, .ref (108)), (1, .int (l1))]) e_R_any_11 rfl (by decide) rfl ?_
    exact g_sub [1, 2, 0] rfl h
  · replace h := iteF h c3
    refine g_iconst (0 : Int32) e_R_any_8 (by decide) ?_
    exact p_retZ (x := false) e_R_any_9.1 rfl h
set_option maxHeartbeats 1000000 in
theorem s_R_any_12 {d : Nat} (hd : 12 ≤ d) {l1 : Int32} {l2 : Int32} {v : Vv} {Q : Bool → Vv → Prop} (h : if l2 < (v).1 108 3 then (m_R_accept (9 : Int32) (v) (fun x5 v6 => if x5 = true then (m_R_every d l1 (v6) (fun x8 v9 => if x8 = true then (m_T_emit 112 (9 : Int32) (v9) (fun v12 => k_R_any_12 d (l1) ((l2 + (1 : Int32))) (v12) Q)) else (Q false (v9)))) else (Q true (v6)))) else (Q true (v))) : k_R_any_12 d l1 l2 v Q := by
  show Gp (d + 1) M_R_any 12 [(0, .ref (108)), (1, .int (l1)), (2, .int (l2))] [] v (QZ Q)
  refine g_iload_n 2 e_R_any_12 rfl rfl ?_
  refine g_aload_n 0 e_R_any_13 rfl rfl ?_
  refine p_getI e_R_any_14 sh_108 fl_R_21 rfl ?_
  refine g_icmp_ge (tgt := 54) e_R_any_17 rfl (fun c4 => ?_) (fun c4 => ?_)
  · replace h := iteF h c4
    refine g_iconst (1 : Int32) e_R_any_54 (by decide) ?_
    exact p_retZ (x := true) e_R_any_55.1 rfl h
  · replace h := iteT h c4
    refine g_aload_n 0 e_R_any_20 rfl rfl ?_
    refine g_bipush (9 : Int32) e_R_any_21 (by decide) ?_
    refine p_callVZ (d' := 2) (ci := 4) (r := (RX4, TX4, 6)) (As := [.int ((9 : Int32))]) (rest := []) e_R_any_23 zm_R_accept lV_R_118 sh_108 rfl rfl rfl rfl (Nat.le_of_ble_eq_true rfl) (by omega) ?_
    refine cp_mono h (fun _ v6 ⟨x5, e1, h⟩ => ⟨x5, e1, ?_⟩)
    refine p_ifz_eq (tgt := 54) e_R_any_26 rfl (fun c7 => ?_) (fun c7 => ?_)
    · replace h := iteF h c7
      refine g_iconst (1 : Int32) e_R_any_54 (by decide) ?_
      exact p_retZ (x := true) e_R_any_55.1 rfl h
    · replace h := iteT h c7
      refine g_aload_n 0 e_R_any_29 rfl rfl ?_
      refine g_iload_n 1 e_R_any_30 rfl rfl ?_
      refine p_callVZ (d' := d) (ci := 4) (r := (RX4, TX4, 6)) (As := [.int (l1)]) (rest := []) e_R_any_31 zm_R_every lV_R_128 sh_108 rfl rfl rfl rfl (Nat.le_of_ble_eq_true rfl) (Nat.le_refl _) ?_
      refine cp_mono h (fun _ v9 ⟨x8, e1, h⟩ => ⟨x8, e1, ?_⟩)
      refine p_ifz_ne (tgt := 39) e_R_any_34 rfl (fun c10 => ?_) (fun c10 => ?_)
      · replace h := iteT h c10
        refine g_aload_n 0 e_R_any_39 rfl rfl ?_
        refine p_getR (j := 112) e_R_any_40 sh_108 fl_R_31 rfl (rf_108_5 _) ?_
        refine g_bipush (9 : Int32) e_R_any_43 (by decide) ?_
        refine p_callVV (d' := 1) (ci := 7) (r := (RX7, TX7, 5)) (As := [.int ((9 : Int32))]) (rest := []) e_R_any_45 zm_T_emit lV_R_131 sh_112 rfl rfl rfl rfl (Nat.le_of_ble_eq_true rfl) (by omega) ?_
        refine cp_mono h (fun _ v12 ⟨e1, h⟩ => ⟨e1, ?_⟩)
        refine g_iinc (v := (l2 + (1 : Int32))) (L' := [(2, .int ((l2 + (1 : Int32)))), (0, .ref (108)), (1, .int (l1))]) 2 e_R_any_48 rfl rfl (by decide) rfl ?_
        refine g_goto (tgt := 12) e_R_any_51 rfl ?_
        exact g_sub [1, 2, 0] rfl h
      · replace h := iteF h c10
        refine g_iconst (0 : Int32) e_R_any_37 (by decide) ?_
        exact p_retZ (x := false) e_R_any_38.1 rfl h
set_option maxHeartbeats 1000000 in
theorem s_R_every {d : Nat} (hd : 12 ≤ d) {l1 : Int32} {v : Vv} {Q : Bool → Vv → Prop} (h : m_R_denial d l1 (v) (fun x1 v2 => if x1 = true then (k_R_every_12 d (l1) ((0 : Int32)) (v2) Q) else (Q false (v2)))) : m_R_every (d + 1) l1 v Q := by
  refine cp_go (Nat.le_of_ble_eq_true rfl) (by decide +kernel) ?_
  show Gp (d + 1) M_R_every 0 [(0, .ref (108)), (1, .int (l1))] [] v (QZ Q)
  refine g_aload_n 0 e_R_every_0 rfl rfl ?_
  refine g_iload_n 1 e_R_every_1 rfl rfl ?_
  refine p_callVZ (d' := d) (ci := 4) (r := (RX4, TX4, 6)) (As := [.int (l1)]) (rest := []) e_R_every_2 zm_R_denial lV_R_134 sh_108 rfl rfl rfl rfl (Nat.le_of_ble_eq_true rfl) (Nat.le_refl _) ?_
  refine cp_mono h (fun _ v2 ⟨x1, e1, h⟩ => ⟨x1, e1, ?_⟩)
  refine p_ifz_ne (tgt := 10) e_R_every_5 rfl (fun c3 => ?_) (fun c3 => ?_)
  · replace h := iteT h c3
    refine g_iconst (0 : Int32) e_R_every_10 (by decide) ?_
    refine g_istore_n (L' := [(2, .int ((0 : Int32))), (0, .ref (108)), (1, .int (l1))]) e_R_every_11 rfl (by decide) rfl ?_
    exact g_sub [1, 2, 0] rfl h
  · replace h := iteF h c3
    refine g_iconst (0 : Int32) e_R_every_8 (by decide) ?_
    exact p_retZ (x := false) e_R_every_9.1 rfl h
set_option maxHeartbeats 1000000 in
theorem s_R_every_12 {d : Nat} (hd : 12 ≤ d) {l1 : Int32} {l2 : Int32} {v : Vv} {Q : Bool → Vv → Prop} (h : if l2 < (v).1 108 3 then (m_R_accept (10 : Int32) (v) (fun x5 v6 => if x5 = true then (m_R_denial d l1 (v6) (fun x8 v9 => if x8 = true then (m_T_emit 112 (10 : Int32) (v9) (fun v12 => k_R_every_12 d (l1) ((l2 + (1 : Int32))) (v12) Q)) else (Q false (v9)))) else (Q true (v6)))) else (Q true (v))) : k_R_every_12 d l1 l2 v Q := by
  show Gp (d + 1) M_R_every 12 [(0, .ref (108)), (1, .int (l1)), (2, .int (l2))] [] v (QZ Q)
  refine g_iload_n 2 e_R_every_12 rfl rfl ?_
  refine g_aload_n 0 e_R_every_13 rfl rfl ?_
  refine p_getI e_R_every_14 sh_108 fl_R_21 rfl ?_
  refine g_icmp_ge (tgt := 54) e_R_every_17 rfl (fun c4 => ?_) (fun c4 => ?_)
  · replace h := iteF h c4
    refine g_iconst (1 : Int32) e_R_every_54 (by decide) ?_
    exact p_retZ (x := true) e_R_every_55.1 rfl h
  · replace h := iteT h c4
    refine g_aload_n 0 e_R_every_20 rfl rfl ?_
    refine g_bipush (10 : Int32) e_R_every_21 (by decide) ?_
    refine p_callVZ (d' := 2) (ci := 4) (r := (RX4, TX4, 6)) (As := [.int ((10 : Int32))]) (rest := []) e_R_every_23 zm_R_accept lV_R_118 sh_108 rfl rfl rfl rfl (Nat.le_of_ble_eq_true rfl) (by omega) ?_
    refine cp_mono h (fun _ v6 ⟨x5, e1, h⟩ => ⟨x5, e1, ?_⟩)
    refine p_ifz_eq (tgt := 54) e_R_every_26 rfl (fun c7 => ?_) (fun c7 => ?_)
    · replace h := iteF h c7
      refine g_iconst (1 : Int32) e_R_every_54 (by decide) ?_
      exact p_retZ (x := true) e_R_every_55.1 rfl h
    · replace h := iteT h c7
      refine g_aload_n 0 e_R_every_29 rfl rfl ?_
      refine g_iload_n 1 e_R_every_30 rfl rfl ?_
      refine p_callVZ (d' := d) (ci := 4) (r := (RX4, TX4, 6)) (As := [.int (l1)]) (rest := []) e_R_every_31 zm_R_denial lV_R_134 sh_108 rfl rfl rfl rfl (Nat.le_of_ble_eq_true rfl) (Nat.le_refl _) ?_
      refine cp_mono h (fun _ v9 ⟨x8, e1, h⟩ => ⟨x8, e1, ?_⟩)
      refine p_ifz_ne (tgt := 39) e_R_every_34 rfl (fun c10 => ?_) (fun c10 => ?_)
      · replace h := iteT h c10
        refine g_aload_n 0 e_R_every_39 rfl rfl ?_
        refine p_getR (j := 112) e_R_every_40 sh_108 fl_R_31 rfl (rf_108_5 _) ?_
        refine g_bipush (10 : Int32) e_R_every_43 (by decide) ?_
        refine p_callVV (d' := 1) (ci := 7) (r := (RX7, TX7, 5)) (As := [.int ((10 : Int32))]) (rest := []) e_R_every_45 zm_T_emit lV_R_131 sh_112 rfl rfl rfl rfl (Nat.le_of_ble_eq_true rfl) (by omega) ?_
        refine cp_mono h (fun _ v12 ⟨e1, h⟩ => ⟨e1, ?_⟩)
        refine g_iinc (v := (l2 + (1 : Int32))) (L' := [(2, .int ((l2 + (1 : Int32)))), (0, .ref (108)), (1, .int (l1))]) 2 e_R_every_48 rfl rfl (by decide) rfl ?_
        refine g_goto (tgt := 12) e_R_every_51 rfl ?_
        exact g_sub [1, 2, 0] rfl h
      · replace h := iteF h c10
        refine g_iconst (0 : Int32) e_R_every_37 (by decide) ?_
        exact p_retZ (x := false) e_R_every_38.1 rfl h
set_option maxHeartbeats 1000000 in
theorem s_R_denial {d : Nat} (hd : 12 ≤ d) {l1 : Int32} {v : Vv} {Q : Bool → Vv → Prop} (h : m_R_token  (v) (fun x1 v2 => if x1 = (11 : Int32) then (if l1 < (5 : Int32) then (m_R_denial d (l1 + (1 : Int32)) (sI (v2) 108 4 ((v2).1 108 4 + (1 : Int32))) (fun x5 v6 => if x5 = true then (m_T_emit 112 (11 : Int32) (v6) (fun v9 => Q true (v9))) else (Q false (v6)))) else (Q false (v2))) else (m_R_comparison d l1 (v2) (fun x10 v11 => Q (x10) (v11))))) : m_R_denial (d + 1) l1 v Q := by
  refine cp_go (Nat.le_of_ble_eq_true rfl) (by decide +kernel) ?_
  show Gp (d + 1) M_R_denial 0 [(0, .ref (108)), (1, .int (l1))] [] v (QZ Q)
  refine g_aload_n 0 e_R_denial_0 rfl rfl ?_
  refine p_callVI (d' := 1) (ci := 4) (r := (RX4, TX4, 6)) (As := []) (rest := []) e_R_denial_1 zm_R_token lV_R_46 sh_108 rfl rfl rfl rfl (Nat.le_of_ble_eq_true rfl) (by omega) ?_
  refine cp_mono h (fun _ v2 ⟨x1, e1, h⟩ => ⟨x1, e1, ?_⟩)
  refine g_bipush (11 : Int32) e_R_denial_4 (by decide) ?_
  refine g_icmp_eq (tgt := 15) e_R_denial_6 rfl (fun c3 => ?_) (fun c3 => ?_)
  · replace h := iteT h c3
    refine g_iload_n 1 e_R_denial_15 rfl rfl ?_
    refine g_iconst (5 : Int32) e_R_denial_16 (by decide) ?_
    refine g_icmp_lt (tgt := 22) e_R_denial_17 rfl (fun c4 => ?_) (fun c4 => ?_)
    · replace h := iteT h c4
      refine g_aload_n 0 e_R_denial_22 rfl rfl ?_
      refine g_dup e_R_denial_23 rfl ?_
      refine p_getI e_R_denial_24 sh_108 fl_R_25 rfl ?_
      refine g_iconst (1 : Int32) e_R_denial_27 (by decide) ?_
      refine g_iadd e_R_denial_28 ?_
      refine p_putI e_R_denial_29 sh_108 fp_R_25 rfl rfl rfl ?_
      refine g_aload_n 0 e_R_denial_32 rfl rfl ?_
      refine g_iload_n 1 e_R_denial_33 rfl rfl ?_
      refine g_iconst (1 : Int32) e_R_denial_34 (by decide) ?_
      refine g_iadd e_R_denial_35 ?_
      refine p_callVZ (d' := d) (ci := 4) (r := (RX4, TX4, 6)) (As := [.int ((l1 + (1 : Int32)))]) (rest := []) e_R_denial_36 zm_R_denial lV_R_134 sh_108 rfl rfl rfl rfl (Nat.le_of_ble_eq_true rfl) (Nat.le_refl _) ?_
      refine cp_mono h (fun _ v6 ⟨x5, e1, h⟩ => ⟨x5, e1, ?_⟩)
      refine p_ifz_ne (tgt := 44) e_R_denial_39 rfl (fun c7 => ?_) (fun c7 => ?_)
      · replace h := iteT h c7
        refine g_aload_n 0 e_R_denial_44 rfl rfl ?_
        refine p_getR (j := 112) e_R_denial_45 sh_108 fl_R_31 rfl (rf_108_5 _) ?_
        refine g_bipush (11 : Int32) e_R_denial_48 (by decide) ?_
        refine p_callVV (d' := 1) (ci := 7) (r := (RX7, TX7, 5)) (As := [.int ((11 : Int32))]) (rest := []) e_R_denial_50 zm_T_emit lV_R_131 sh_112 rfl rfl rfl rfl (Nat.le_of_ble_eq_true rfl) (by omega) ?_
        refine cp_mono h (fun _ v9 ⟨e1, h⟩ => ⟨e1, ?_⟩)
        refine g_iconst (1 : Int32) e_R_denial_53 (by decide) ?_
        exact p_retZ (x := true) e_R_denial_54.1 rfl h
      · replace h := iteF h c7
        refine g_iconst (0 : Int32) e_R_denial_42 (by decide) ?_
        exact p_retZ (x := false) e_R_denial_43.1 rfl h
    · replace h := iteF h c4
      refine g_iconst (0 : Int32) e_R_denial_20 (by decide) ?_
      exact p_retZ (x := false) e_R_denial_21.1 rfl h
  · replace h := iteF h c3
    refine g_aload_n 0 e_R_denial_9 rfl rfl ?_
    refine g_iload_n 1 e_R_denial_10 rfl rfl ?_
    refine p_callVZ (d' := d) (ci := 4) (r := (RX4, TX4, 6)) (As := [.int (l1)]) (rest := []) e_R_denial_11 zm_R_comparison lV_R_137 sh_108 rfl rfl rfl rfl (Nat.le_of_ble_eq_true rfl) (Nat.le_refl _) ?_
    refine cp_mono h (fun _ v11 ⟨x10, e1, h⟩ => ⟨x10, e1, ?_⟩)
    exact p_retZ e_R_denial_14.1 rfl h
set_option maxHeartbeats 1000000 in
theorem s_R_comparison {d : Nat} (hd : 12 ≤ d) {l1 : Int32} {v : Vv} {Q : Bool → Vv → Prop} (h : m_R_sum d l1 (v) (fun x1 v2 => if x1 = true then (m_R_token  (v2) (fun x4 v5 => m_R_accept (60 : Int32) (v5) (fun x6 v7 => if x6 = true then (k_R_comparison_35 d (l1) (x4) (v7) Q) else (m_R_accept (61 : Int32) (v7) (fun x9 v10 => if x9 = true then (k_R_comparison_35 d (l1) (x4) (v10) Q) else (Q true (v10))))))) else (Q false (v2)))) : m_R_comparison (d + 1) l1 v Q := by
  refine cp_go (Nat.le_of_ble_eq_true rfl) (by decide +kernel) ?_
  show Gp (d + 1) M_R_comparison 0 [(0, .ref (108)), (1, .int (l1))] [] v (QZ Q)
  refine g_aload_n 0 e_R_comparison_0 rfl rfl ?_
  refine g_iload_n 1 e_R_comparison_1 rfl rfl ?_
  refine p_callVZ (d' := d) (ci := 4) (r := (RX4, TX4, 6)) (As := [.int (l1)]) (rest := []) e_R_comparison_2 zm_R_sum lV_R_140 sh_108 rfl rfl rfl rfl (Nat.le_of_ble_eq_true rfl) (Nat.le_refl _) ?_
  refine cp_mono h (fun _ v2 ⟨x1, e1, h⟩ => ⟨x1, e1, ?_⟩)
  refine p_ifz_ne (tgt := 10) e_R_comparison_5 rfl (fun c3 => ?_) (fun c3 => ?_)
  · replace h := iteT h c3
    refine g_aload_n 0 e_R_comparison_10 rfl rfl ?_
    refine p_callVI (d' := 1) (ci := 4) (r := (RX4, TX4, 6)) (As := []) (rest := []) e_R_comparison_11 zm_R_token lV_R_46 sh_108 rfl rfl rfl rfl (Nat.le_of_ble_eq_true rfl) (by omega) ?_
    refine cp_mono h (fun _ v5 ⟨x4, e1, h⟩ => ⟨x4, e1, ?_⟩)
    refine g_istore_n (L' := [(2, .int (x4)), (0, .ref (108)), (1, .int (l1))]) e_R_comparison_14 rfl (by decide) rfl ?_
    refine g_aload_n 1 e_R_comparison_15 rfl rfl ?_
    refine g_bipush (60 : Int32) e_R_comparison_16 (by decide) ?_
    refine p_callVZ (d' := 2) (ci := 4) (r := (RX4, TX4, 6)) (As := [.int ((60 : Int32))]) (rest := []) e_R_comparison_18 zm_R_accept lV_R_118 sh_108 rfl rfl rfl rfl (Nat.le_of_ble_eq_true rfl) (by omega) ?_
    refine cp_mono h (fun _ v7 ⟨x6, e1, h⟩ => ⟨x6, e1, ?_⟩)
    refine p_ifz_ne (tgt := 35) e_R_comparison_21 rfl (fun c8 => ?_) (fun c8 => ?_)
    · replace h := iteT h c8
      exact g_sub [1, 2, 0] rfl h
    · replace h := iteF h c8
      refine g_aload_n 1 e_R_comparison_24 rfl rfl ?_
      refine g_bipush (61 : Int32) e_R_comparison_25 (by decide) ?_
      refine p_callVZ (d' := 2) (ci := 4) (r := (RX4, TX4, 6)) (As := [.int ((61 : Int32))]) (rest := []) e_R_comparison_27 zm_R_accept lV_R_118 sh_108 rfl rfl rfl rfl (Nat.le_of_ble_eq_true rfl) (by omega) ?_
      refine cp_mono h (fun _ v10 ⟨x9, e1, h⟩ => ⟨x9, e1, ?_⟩)
      refine p_ifz_ne (tgt := 35) e_R_comparison_30 rfl (fun c11 => ?_) (fun c11 => ?_)
      · replace h := iteT h c11
        exact g_sub [1, 2, 0] rfl h
      · replace h := iteF h c11
        refine g_iconst (1 : Int32) e_R_comparison_33 (by decide) ?_
        exact p_retZ (x := true) e_R_comparison_34.1 rfl h
  · replace h := iteF h c3
    refine g_iconst (0 : Int32) e_R_comparison_8 (by decide) ?_
    exact p_retZ (x := false) e_R_comparison_9.1 rfl h
set_option maxHeartbeats 1000000 in
theorem s_R_comparison_35 {d : Nat} (hd : 12 ≤ d) {l1 : Int32} {l2 : Int32} {v : Vv} {Q : Bool → Vv → Prop} (h : m_R_sum d l1 (v) (fun x12 v13 => if x12 = true then (m_T_emit 112 l2 (v13) (fun v16 => Q true (v16))) else (Q false (v13)))) : k_R_comparison_35 d l1 l2 v Q := by
  show Gp (d + 1) M_R_comparison 35 [(0, .ref (108)), (1, .int (l1)), (2, .int (l2))] [] v (QZ Q)
  refine g_aload_n 0 e_R_comparison_35 rfl rfl ?_
  refine g_iload_n 1 e_R_comparison_36 rfl rfl ?_
  refine p_callVZ (d' := d) (ci := 4) (r := (RX4, TX4, 6)) (As := [.int (l1)]) (rest := []) e_R_comparison_37 zm_R_sum lV_R_140 sh_108 rfl rfl rfl rfl (Nat.le_of_ble_eq_true rfl) (Nat.le_refl _) ?_
  refine cp_mono h (fun _ v13 ⟨x12, e1, h⟩ => ⟨x12, e1, ?_⟩)
  refine p_ifz_ne (tgt := 45) e_R_comparison_40 rfl (fun c14 => ?_) (fun c14 => ?_)
  · replace h := iteT h c14
    refine g_aload_n 0 e_R_comparison_45 rfl rfl ?_
    refine p_getR (j := 112) e_R_comparison_46 sh_108 fl_R_31 rfl (rf_108_5 _) ?_
    refine g_iload_n 2 e_R_comparison_49 rfl rfl ?_
    refine p_callVV (d' := 1) (ci := 7) (r := (RX7, TX7, 5)) (As := [.int (l2)]) (rest := []) e_R_comparison_50 zm_T_emit lV_R_131 sh_112 rfl rfl rfl rfl (Nat.le_of_ble_eq_true rfl) (by omega) ?_
    refine cp_mono h (fun _ v16 ⟨e1, h⟩ => ⟨e1, ?_⟩)
    refine g_iconst (1 : Int32) e_R_comparison_53 (by decide) ?_
    exact p_retZ (x := true) e_R_comparison_54.1 rfl h
  · replace h := iteF h c14
    refine g_iconst (0 : Int32) e_R_comparison_43 (by decide) ?_
    exact p_retZ (x := false) e_R_comparison_44.1 rfl h
set_option maxHeartbeats 1000000 in
theorem s_R_sum {d : Nat} (hd : 12 ≤ d) {l1 : Int32} {v : Vv} {Q : Bool → Vv → Prop} (h : m_R_term d l1 (v) (fun x1 v2 => if x1 = true then (m_R_token  (v2) (fun x4 v5 => k_R_sum_17 d (l1) (x4) ((0 : Int32)) (v5) Q)) else (Q false (v2)))) : m_R_sum (d + 1) l1 v Q := by
  refine cp_go (Nat.le_of_ble_eq_true rfl) (by decide +kernel) ?_
  show Gp (d + 1) M_R_sum 0 [(0, .ref (108)), (1, .int (l1))] [] v (QZ Q)
  refine g_aload_n 0 e_R_sum_0 rfl rfl ?_
  refine g_iload_n 1 e_R_sum_1 rfl rfl ?_
  refine p_callVZ (d' := d) (ci := 4) (r := (RX4, TX4, 6)) (As := [.int (l1)]) (rest := []) e_R_sum_2 zm_R_term lV_R_143 sh_108 rfl rfl rfl rfl (Nat.le_of_ble_eq_true rfl) (Nat.le_refl _) ?_
  refine cp_mono h (fun _ v2 ⟨x1, e1, h⟩ => ⟨x1, e1, ?_⟩)
  refine p_ifz_ne (tgt := 10) e_R_sum_5 rfl (fun c3 => ?_) (fun c3 => ?_)
  · replace h := iteT h c3
    refine g_aload_n 0 e_R_sum_10 rfl rfl ?_
    refine p_callVI (d' := 1) (ci := 4) (r := (RX4, TX4, 6)) (As := []) (rest := []) e_R_sum_11 zm_R_token lV_R_46 sh_108 rfl rfl rfl rfl (Nat.le_of_ble_eq_true rfl) (by omega) ?_
    refine cp_mono h (fun _ v5 ⟨x4, e1, h⟩ => ⟨x4, e1, ?_⟩)
    refine g_istore_n (L' := [(2, .int (x4)), (0, .ref (108)), (1, .int (l1))]) e_R_sum_14 rfl (by decide) rfl ?_
    refine g_iconst (0 : Int32) e_R_sum_15 (by decide) ?_
    refine g_istore_n (L' := [(3, .int ((0 : Int32))), (2, .int (x4)), (0, .ref (108)), (1, .int (l1))]) e_R_sum_16 rfl (by decide) rfl ?_
    exact g_sub [2, 3, 1, 0] rfl h
  · replace h := iteF h c3
    refine g_iconst (0 : Int32) e_R_sum_8 (by decide) ?_
    exact p_retZ (x := false) e_R_sum_9.1 rfl h
set_option maxHeartbeats 1000000 in
theorem s_R_sum_17 {d : Nat} (hd : 12 ≤ d) {l1 : Int32} {l2 : Int32} {l3 : Int32} {v : Vv} {Q : Bool → Vv → Prop} (h : if l3 < (v).1 108 3 then (m_R_accept (43 : Int32) (v) (fun x7 v8 => if x7 = true then (k_R_sum_43 d (l1) (l2) (l3) (v8) Q) else (m_R_accept (45 : Int32) (v8) (fun x10 v11 => if x10 = true then (k_R_sum_43 d (l1) (l2) (l3) (v11) Q) else (Q true (v11)))))) else (Q true (v))) : k_R_sum_17 d l1 l2 l3 v Q := by
  show Gp (d + 1) M_R_sum 17 [(0, .ref (108)), (1, .int (l1)), (2, .int (l2)), (3, .int (l3))] [] v (QZ Q)
  refine g_iload_n 3 e_R_sum_17 rfl rfl ?_
  refine g_aload_n 0 e_R_sum_18 rfl rfl ?_
  refine p_getI e_R_sum_19 sh_108 fl_R_21 rfl ?_
  refine g_icmp_ge (tgt := 72) e_R_sum_22 rfl (fun c6 => ?_) (fun c6 => ?_)
  · replace h := iteF h c6
    refine g_iconst (1 : Int32) e_R_sum_72 (by decide) ?_
    exact p_retZ (x := true) e_R_sum_73.1 rfl h
  · replace h := iteT h c6
    refine g_aload_n 0 e_R_sum_25 rfl rfl ?_
    refine g_bipush (43 : Int32) e_R_sum_26 (by decide) ?_
    refine p_callVZ (d' := 2) (ci := 4) (r := (RX4, TX4, 6)) (As := [.int ((43 : Int32))]) (rest := []) e_R_sum_28 zm_R_accept lV_R_118 sh_108 rfl rfl rfl rfl (Nat.le_of_ble_eq_true rfl) (by omega) ?_
    refine cp_mono h (fun _ v8 ⟨x7, e1, h⟩ => ⟨x7, e1, ?_⟩)
    refine p_ifz_ne (tgt := 43) e_R_sum_31 rfl (fun c9 => ?_) (fun c9 => ?_)
    · replace h := iteT h c9
      exact g_sub [0, 1, 2, 3] rfl h
    · replace h := iteF h c9
      refine g_aload_n 0 e_R_sum_34 rfl rfl ?_
      refine g_bipush (45 : Int32) e_R_sum_35 (by decide) ?_
      refine p_callVZ (d' := 2) (ci := 4) (r := (RX4, TX4, 6)) (As := [.int ((45 : Int32))]) (rest := []) e_R_sum_37 zm_R_accept lV_R_118 sh_108 rfl rfl rfl rfl (Nat.le_of_ble_eq_true rfl) (by omega) ?_
      refine cp_mono h (fun _ v11 ⟨x10, e1, h⟩ => ⟨x10, e1, ?_⟩)
      refine p_ifz_eq (tgt := 72) e_R_sum_40 rfl (fun c12 => ?_) (fun c12 => ?_)
      · replace h := iteF h c12
        refine g_iconst (1 : Int32) e_R_sum_72 (by decide) ?_
        exact p_retZ (x := true) e_R_sum_73.1 rfl h
      · replace h := iteT h c12
        exact g_sub [0, 1, 2, 3] rfl h
set_option maxHeartbeats 1000000 in
theorem s_R_sum_43 {d : Nat} (hd : 12 ≤ d) {l1 : Int32} {l2 : Int32} {l3 : Int32} {v : Vv} {Q : Bool → Vv → Prop} (h : m_R_term d l1 (v) (fun x13 v14 => if x13 = true then (m_T_emit 112 l2 (v14) (fun v17 => m_R_token  (v17) (fun x18 v19 => k_R_sum_17 d (l1) (x18) ((l3 + (1 : Int32))) (v19) Q))) else (Q false (v14)))) : k_R_sum_43 d l1 l2 l3 v Q := by
  show Gp (d + 1) M_R_sum 43 [(0, .ref (108)), (1, .int (l1)), (2, .int (l2)), (3, .int (l3))] [] v (QZ Q)
  refine g_aload_n 0 e_R_sum_43 rfl rfl ?_
  refine g_iload_n 1 e_R_sum_44 rfl rfl ?_
  refine p_callVZ (d' := d) (ci := 4) (r := (RX4, TX4, 6)) (As := [.int (l1)]) (rest := []) e_R_sum_45 zm_R_term lV_R_143 sh_108 rfl rfl rfl rfl (Nat.le_of_ble_eq_true rfl) (Nat.le_refl _) ?_
  refine cp_mono h (fun _ v14 ⟨x13, e1, h⟩ => ⟨x13, e1, ?_⟩)
  refine p_ifz_ne (tgt := 53) e_R_sum_48 rfl (fun c15 => ?_) (fun c15 => ?_)
  · replace h := iteT h c15
    refine g_aload_n 0 e_R_sum_53 rfl rfl ?_
    refine p_getR (j := 112) e_R_sum_54 sh_108 fl_R_31 rfl (rf_108_5 _) ?_
    refine g_iload_n 2 e_R_sum_57 rfl rfl ?_
    refine p_callVV (d' := 1) (ci := 7) (r := (RX7, TX7, 5)) (As := [.int (l2)]) (rest := []) e_R_sum_58 zm_T_emit lV_R_131 sh_112 rfl rfl rfl rfl (Nat.le_of_ble_eq_true rfl) (by omega) ?_
    refine cp_mono h (fun _ v17 ⟨e1, h⟩ => ⟨e1, ?_⟩)
    refine g_aload_n 0 e_R_sum_61 rfl rfl ?_
    refine p_callVI (d' := 1) (ci := 4) (r := (RX4, TX4, 6)) (As := []) (rest := []) e_R_sum_62 zm_R_token lV_R_46 sh_108 rfl rfl rfl rfl (Nat.le_of_ble_eq_true rfl) (by omega) ?_
    refine cp_mono h (fun _ v19 ⟨x18, e1, h⟩ => ⟨x18, e1, ?_⟩)
    refine g_istore_n (L' := [(2, .int (x18)), (0, .ref (108)), (1, .int (l1)), (3, .int (l3))]) e_R_sum_65 rfl (by decide) rfl ?_
    refine g_iinc (v := (l3 + (1 : Int32))) (L' := [(3, .int ((l3 + (1 : Int32)))), (2, .int (x18)), (0, .ref (108)), (1, .int (l1))]) 3 e_R_sum_66 rfl rfl (by decide) rfl ?_
    refine g_goto (tgt := 17) e_R_sum_69 rfl ?_
    exact g_sub [2, 3, 1, 0] rfl h
  · replace h := iteF h c15
    refine g_iconst (0 : Int32) e_R_sum_51 (by decide) ?_
    exact p_retZ (x := false) e_R_sum_52.1 rfl h
set_option maxHeartbeats 1000000 in
theorem s_R_term {d : Nat} (hd : 12 ≤ d) {l1 : Int32} {v : Vv} {Q : Bool → Vv → Prop} (h : m_R_one d l1 (v) (fun x1 v2 => if x1 = true then (k_R_term_12 d (l1) ((0 : Int32)) (v2) Q) else (Q false (v2)))) : m_R_term (d + 1) l1 v Q := by
  refine cp_go (Nat.le_of_ble_eq_true rfl) (by decide +kernel) ?_
  show Gp (d + 1) M_R_term 0 [(0, .ref (108)), (1, .int (l1))] [] v (QZ Q)
  refine g_aload_n 0 e_R_term_0 rfl rfl ?_
  refine g_iload_n 1 e_R_term_1 rfl rfl ?_
  refine p_callVZ (d' := d) (ci := 4) (r := (RX4, TX4, 6)) (As := [.int (l1)]) (rest := []) e_R_term_2 zm_R_one lV_R_146 sh_108 rfl rfl rfl rfl (Nat.le_of_ble_eq_true rfl) (Nat.le_refl _) ?_
  refine cp_mono h (fun _ v2 ⟨x1, e1, h⟩ => ⟨x1, e1, ?_⟩)
  refine p_ifz_ne (tgt := 10) e_R_term_5 rfl (fun c3 => ?_) (fun c3 => ?_)
  · replace h := iteT h c3
    refine g_iconst (0 : Int32) e_R_term_10 (by decide) ?_
    refine g_istore_n (L' := [(2, .int ((0 : Int32))), (0, .ref (108)), (1, .int (l1))]) e_R_term_11 rfl (by decide) rfl ?_
    exact g_sub [1, 2, 0] rfl h
  · replace h := iteF h c3
    refine g_iconst (0 : Int32) e_R_term_8 (by decide) ?_
    exact p_retZ (x := false) e_R_term_9.1 rfl h
set_option maxHeartbeats 1000000 in
theorem s_R_term_12 {d : Nat} (hd : 12 ≤ d) {l1 : Int32} {l2 : Int32} {v : Vv} {Q : Bool → Vv → Prop} (h : if l2 < (v).1 108 3 then (m_R_accept (42 : Int32) (v) (fun x5 v6 => if x5 = true then (m_R_one d l1 (v6) (fun x8 v9 => if x8 = true then (m_T_emit 112 (42 : Int32) (v9) (fun v12 => k_R_term_12 d (l1) ((l2 + (1 : Int32))) (v12) Q)) else (Q false (v9)))) else (Q true (v6)))) else (Q true (v))) : k_R_term_12 d l1 l2 v Q := by
  show Gp (d + 1) M_R_term 12 [(0, .ref (108)), (1, .int (l1)), (2, .int (l2))] [] v (QZ Q)
  refine g_iload_n 2 e_R_term_12 rfl rfl ?_
  refine g_aload_n 0 e_R_term_13 rfl rfl ?_
  refine p_getI e_R_term_14 sh_108 fl_R_21 rfl ?_
  refine g_icmp_ge (tgt := 54) e_R_term_17 rfl (fun c4 => ?_) (fun c4 => ?_)
  · replace h := iteF h c4
    refine g_iconst (1 : Int32) e_R_term_54 (by decide) ?_
    exact p_retZ (x := true) e_R_term_55.1 rfl h
  · replace h := iteT h c4
    refine g_aload_n 0 e_R_term_20 rfl rfl ?_
    refine g_bipush (42 : Int32) e_R_term_21 (by decide) ?_
    refine p_callVZ (d' := 2) (ci := 4) (r := (RX4, TX4, 6)) (As := [.int ((42 : Int32))]) (rest := []) e_R_term_23 zm_R_accept lV_R_118 sh_108 rfl rfl rfl rfl (Nat.le_of_ble_eq_true rfl) (by omega) ?_
    refine cp_mono h (fun _ v6 ⟨x5, e1, h⟩ => ⟨x5, e1, ?_⟩)
    refine p_ifz_eq (tgt := 54) e_R_term_26 rfl (fun c7 => ?_) (fun c7 => ?_)
    · replace h := iteF h c7
      refine g_iconst (1 : Int32) e_R_term_54 (by decide) ?_
      exact p_retZ (x := true) e_R_term_55.1 rfl h
    · replace h := iteT h c7
      refine g_aload_n 0 e_R_term_29 rfl rfl ?_
      refine g_iload_n 1 e_R_term_30 rfl rfl ?_
      refine p_callVZ (d' := d) (ci := 4) (r := (RX4, TX4, 6)) (As := [.int (l1)]) (rest := []) e_R_term_31 zm_R_one lV_R_146 sh_108 rfl rfl rfl rfl (Nat.le_of_ble_eq_true rfl) (Nat.le_refl _) ?_
      refine cp_mono h (fun _ v9 ⟨x8, e1, h⟩ => ⟨x8, e1, ?_⟩)
      refine p_ifz_ne (tgt := 39) e_R_term_34 rfl (fun c10 => ?_) (fun c10 => ?_)
      · replace h := iteT h c10
        refine g_aload_n 0 e_R_term_39 rfl rfl ?_
        refine p_getR (j := 112) e_R_term_40 sh_108 fl_R_31 rfl (rf_108_5 _) ?_
        refine g_bipush (42 : Int32) e_R_term_43 (by decide) ?_
        refine p_callVV (d' := 1) (ci := 7) (r := (RX7, TX7, 5)) (As := [.int ((42 : Int32))]) (rest := []) e_R_term_45 zm_T_emit lV_R_131 sh_112 rfl rfl rfl rfl (Nat.le_of_ble_eq_true rfl) (by omega) ?_
        refine cp_mono h (fun _ v12 ⟨e1, h⟩ => ⟨e1, ?_⟩)
        refine g_iinc (v := (l2 + (1 : Int32))) (L' := [(2, .int ((l2 + (1 : Int32)))), (0, .ref (108)), (1, .int (l1))]) 2 e_R_term_48 rfl rfl (by decide) rfl ?_
        refine g_goto (tgt := 12) e_R_term_51 rfl ?_
        exact g_sub [1, 2, 0] rfl h
      · replace h := iteF h c10
        refine g_iconst (0 : Int32) e_R_term_37 (by decide) ?_
        exact p_retZ (x := false) e_R_term_38.1 rfl h
set_option maxHeartbeats 1000000 in
theorem s_R_one {d : Nat} (hd : 12 ≤ d) {l1 : Int32} {v : Vv} {Q : Bool → Vv → Prop} (h : m_R_token  (v) (fun x1 v2 => if x1 < (100 : Int32) then (if x1 < (0 : Int32) then (k_R_one_41 d (l1) (v2) Q) else (if x1 < (6 : Int32) then (k_R_one_21 d (x1) (v2) Q) else (k_R_one_41 d (l1) (v2) Q))) else (k_R_one_21 d (x1) (v2) Q))) : m_R_one (d + 1) l1 v Q := by
  refine cp_go (Nat.le_of_ble_eq_true rfl) (by decide +kernel) ?_
  show Gp (d + 1) M_R_one 0 [(0, .ref (108)), (1, .int (l1))] [] v (QZ Q)
  refine g_aload_n 0 e_R_one_0 rfl rfl ?_
  refine p_callVI (d' := 1) (ci := 4) (r := (RX4, TX4, 6)) (As := []) (rest := []) e_R_one_1 zm_R_token lV_R_46 sh_108 rfl rfl rfl rfl (Nat.le_of_ble_eq_true rfl) (by omega) ?_
  refine cp_mono h (fun _ v2 ⟨x1, e1, h⟩ => ⟨x1, e1, ?_⟩)
  refine g_istore_n (L' := [(2, .int (x1)), (0, .ref (108)), (1, .int (l1))]) e_R_one_4 rfl (by decide) rfl ?_
  refine g_iload_n 0 e_R_one_5 rfl rfl ?_
  refine g_bipush (100 : Int32) e_R_one_6 (by decide) ?_
  refine g_icmp_ge (tgt := 21) e_R_one_8 rfl (fun c3 => ?_) (fun c3 => ?_)
  · replace h := iteF h c3
    exact g_sub [1, 0] rfl h
  · replace h := iteT h c3
    refine g_iload_n 0 e_R_one_11 rfl rfl ?_
    refine g_if_lt (tgt := 41) e_R_one_12 rfl (fun c4 => ?_) (fun c4 => ?_)
    · replace h := iteT h c4
      exact g_sub [1, 2] rfl h
    · replace h := iteF h c4
      refine g_iload_n 0 e_R_one_15 rfl rfl ?_
      refine g_bipush (6 : Int32) e_R_one_16 (by decide) ?_
      refine g_icmp_ge (tgt := 41) e_R_one_18 rfl (fun c5 => ?_) (fun c5 => ?_)
      · replace h := iteF h c5
        exact g_sub [1, 2] rfl h
      · replace h := iteT h c5
        exact g_sub [1, 0] rfl h
set_option maxHeartbeats 1000000 in
theorem s_R_one_41 {d : Nat} (hd : 12 ≤ d) {l1 : Int32} {v : Vv} {Q : Bool → Vv → Prop} (h : if l1 < (5 : Int32) then (m_R_accept (40 : Int32) (v) (fun x7 v8 => if x7 = true then (m_R_any d (l1 + (1 : Int32)) (v8) (fun x10 v11 => if x10 = true then (m_R_accept (41 : Int32) (v11) (fun x13 v14 => Q ((if x13 = true then true else false)) (v14))) else (Q false (v11)))) else (m_R_accept (45 : Int32) (v8) (fun x16 v17 => if x16 = true then (m_R_one d (l1 + (1 : Int32)) (v17) (fun x19 v20 => if x19 = true then (m_T_emit 112 (12 : Int32) (v20) (fun v23 => Q true (v23))) else (Q false (v20)))) else (Q false (v17)))))) else (Q false (v))) : k_R_one_41 d l1 v Q := by
  show Gp (d + 1) M_R_one 41 [(0, .ref (108)), (1, .int (l1))] [] v (QZ Q)
  refine g_iload_n 1 e_R_one_41 rfl rfl ?_
  refine g_iconst (5 : Int32) e_R_one_42 (by decide) ?_
  refine g_icmp_lt (tgt := 48) e_R_one_43 rfl (fun c6 => ?_) (fun c6 => ?_)
  · replace h := iteT h c6
    refine g_aload_n 0 e_R_one_48 rfl rfl ?_
    refine g_bipush (40 : Int32) e_R_one_49 (by decide) ?_
    refine p_callVZ (d' := 2) (ci := 4) (r := (RX4, TX4, 6)) (As := [.int ((40 : Int32))]) (rest := []) e_R_one_51 zm_R_accept lV_R_118 sh_108 rfl rfl rfl rfl (Nat.le_of_ble_eq_true rfl) (by omega) ?_
    refine cp_mono h (fun _ v8 ⟨x7, e1, h⟩ => ⟨x7, e1, ?_⟩)
    refine p_ifz_eq (tgt := 82) e_R_one_54 rfl (fun c9 => ?_) (fun c9 => ?_)
    · replace h := iteF h c9
      refine g_aload_n 0 e_R_one_82 rfl rfl ?_
      refine g_bipush (45 : Int32) e_R_one_83 (by decide) ?_
      refine p_callVZ (d' := 2) (ci := 4) (r := (RX4, TX4, 6)) (As := [.int ((45 : Int32))]) (rest := []) e_R_one_85 zm_R_accept lV_R_118 sh_108 rfl rfl rfl rfl (Nat.le_of_ble_eq_true rfl) (by omega) ?_
      refine cp_mono h (fun _ v17 ⟨x16, e1, h⟩ => ⟨x16, e1, ?_⟩)
      refine p_ifz_eq (tgt := 101) e_R_one_88 rfl (fun c18 => ?_) (fun c18 => ?_)
      · replace h := iteF h c18
        refine g_iconst (0 : Int32) e_R_one_101 (by decide) ?_
        exact p_retZ (x := false) e_R_one_102.1 rfl h
      · replace h := iteT h c18
        refine g_aload_n 0 e_R_one_91 rfl rfl ?_
        refine g_iload_n 1 e_R_one_92 rfl rfl ?_
        refine g_iconst (1 : Int32) e_R_one_93 (by decide) ?_
        refine g_iadd e_R_one_94 ?_
        refine p_callVZ (d' := d) (ci := 4) (r := (RX4, TX4, 6)) (As := [.int ((l1 + (1 : Int32)))]) (rest := []) e_R_one_95 zm_R_one lV_R_146 sh_108 rfl rfl rfl rfl (Nat.le_of_ble_eq_true rfl) (Nat.le_refl _) ?_
        refine cp_mono h (fun _ v20 ⟨x19, e1, h⟩ => ⟨x19, e1, ?_⟩)
        refine p_ifz_ne (tgt := 103) e_R_one_98 rfl (fun c21 => ?_) (fun c21 => ?_)
        · replace h := iteT h c21
          refine g_aload_n 0 e_R_one_103 rfl rfl ?_
          refine p_getR (j := 112) e_R_one_104 sh_108 fl_R_31 rfl (rf_108_5 _) ?_
          refine g_bipush (12 : Int32) e_R_one_107 (by decide) ?_
          refine p_callVV (d' := 1) (ci := 7) (r := (RX7, TX7, 5)) (As := [.int ((12 : Int32))]) (rest := []) e_R_one_109 zm_T_emit lV_R_131 sh_112 rfl rfl rfl rfl (Nat.le_of_ble_eq_true rfl) (by omega) ?_
          refine cp_mono h (fun _ v23 ⟨e1, h⟩ => ⟨e1, ?_⟩)
          refine g_iconst (1 : Int32) e_R_one_112 (by decide) ?_
          exact p_retZ (x := true) e_R_one_113.1 rfl h
        · replace h := iteF h c21
          refine g_iconst (0 : Int32) e_R_one_101 (by decide) ?_
          exact p_retZ (x := false) e_R_one_102.1 rfl h
    · replace h := iteT h c9
      refine g_aload_n 0 e_R_one_57 rfl rfl ?_
      refine g_iload_n 1 e_R_one_58 rfl rfl ?_
      refine g_iconst (1 : Int32) e_R_one_59 (by decide) ?_
      refine g_iadd e_R_one_60 ?_
      refine p_callVZ (d' := d) (ci := 4) (r := (RX4, TX4, 6)) (As := [.int ((l1 + (1 : Int32)))]) (rest := []) e_R_one_61 zm_R_any lV_R_121 sh_108 rfl rfl rfl rfl (Nat.le_of_ble_eq_true rfl) (Nat.le_refl _) ?_
      refine cp_mono h (fun _ v11 ⟨x10, e1, h⟩ => ⟨x10, e1, ?_⟩)
      refine p_ifz_eq (tgt := 80) e_R_one_64 rfl (fun c12 => ?_) (fun c12 => ?_)
      · replace h := iteF h c12
        refine g_iconst (0 : Int32) e_R_one_80 (by decide) ?_
        exact p_retZ (x := false) e_R_one_81.1 rfl h
      · replace h := iteT h c12
        refine g_aload_n 0 e_R_one_67 rfl rfl ?_
        refine g_bipush (41 : Int32) e_R_one_68 (by decide) ?_
        refine p_callVZ (d' := 2) (ci := 4) (r := (RX4, TX4, 6)) (As := [.int ((41 : Int32))]) (rest := []) e_R_one_70 zm_R_accept lV_R_118 sh_108 rfl rfl rfl rfl (Nat.le_of_ble_eq_true rfl) (by omega) ?_
        refine cp_mono h (fun _ v14 ⟨x13, e1, h⟩ => ⟨x13, e1, ?_⟩)
        have hj : ∀ m0 : Bool, m0 = (if x13 = true then true else false) → Gp (d + 1) M_R_one 81 [(0, .ref (108)), (1, .int (l1))] [.int (bI (m0))] (v14) (QZ Q) := by
          intro m0 hm0
          subst hm0
          exact p_retZ e_R_one_81.1 rfl h
        refine p_ifz_eq (tgt := 80) e_R_one_73 rfl (fun c15 => ?_) (fun c15 => ?_)
        · refine g_iconst (0 : Int32) e_R_one_80 (by decide) ?_
          exact hj (false) (by simp only [if_neg c15])
        · refine g_iconst (1 : Int32) e_R_one_76 (by decide) ?_
          refine g_goto (tgt := 81) e_R_one_77 rfl ?_
          exact hj (true) (by simp only [if_pos c15])
  · replace h := iteF h c6
    refine g_iconst (0 : Int32) e_R_one_46 (by decide) ?_
    exact p_retZ (x := false) e_R_one_47.1 rfl h
set_option maxHeartbeats 1000000 in
theorem s_R_one_21 {d : Nat} (hd : 12 ≤ d) {l2 : Int32} {v : Vv} {Q : Bool → Vv → Prop} (h : m_T_emit 112 l2 (sI (v) 108 4 ((v).1 108 4 + (1 : Int32))) (fun v25 => Q true (v25))) : k_R_one_21 d l2 v Q := by
  show Gp (d + 1) M_R_one 21 [(0, .ref (108)), (2, .int (l2))] [] v (QZ Q)
  refine g_aload_n 0 e_R_one_21 rfl rfl ?_
  refine g_dup e_R_one_22 rfl ?_
  refine p_getI e_R_one_23 sh_108 fl_R_25 rfl ?_
  refine g_iconst (1 : Int32) e_R_one_26 (by decide) ?_
  refine g_iadd e_R_one_27 ?_
  refine p_putI e_R_one_28 sh_108 fp_R_25 rfl rfl rfl ?_
  refine g_aload_n 0 e_R_one_31 rfl rfl ?_
  refine p_getR (j := 112) e_R_one_32 sh_108 fl_R_31 rfl (rf_108_5 _) ?_
  refine g_iload_n 1 e_R_one_35 rfl rfl ?_
  refine p_callVV (d' := 1) (ci := 7) (r := (RX7, TX7, 5)) (As := [.int (l2)]) (rest := []) e_R_one_36 zm_T_emit lV_R_131 sh_112 rfl rfl rfl rfl (Nat.le_of_ble_eq_true rfl) (by omega) ?_
  refine cp_mono h (fun _ v25 ⟨e1, h⟩ => ⟨e1, ?_⟩)
  refine g_iconst (1 : Int32) e_R_one_39 (by decide) ?_
  exact p_retZ (x := true) e_R_one_40.1 rfl h
set_option maxHeartbeats 1000000 in
theorem s_R_part {l1 : Int32} {l2 : Int32} {v : Vv} {Q : Bool → Vv → Prop} (h : m_R_accept l1 (v) (fun x1 v2 => if x1 = true then (m_R_any 100 (0 : Int32) (v2) (fun x4 v5 => if x4 = true then (m_R_accept (59 : Int32) (v5) (fun x7 v8 => if x7 = true then (m_T_close 112 l2 (v8) (fun v11 => Q true (v11))) else (Q false (v8)))) else (Q false (v5)))) else (Q false (v2)))) : m_R_part l1 l2 v Q := by
  refine cp_go (Nat.le_of_ble_eq_true rfl) (by decide +kernel) ?_
  show Gp 101 M_R_part 0 [(0, .ref (108)), (1, .int (l1)), (2, .int (l2))] [] v (QZ Q)
  refine g_aload_n 0 e_R_part_0 rfl rfl ?_
  refine g_iload_n 1 e_R_part_1 rfl rfl ?_
  refine p_callVZ (d' := 2) (ci := 4) (r := (RX4, TX4, 6)) (As := [.int (l1)]) (rest := []) e_R_part_2 zm_R_accept lV_R_118 sh_108 rfl rfl rfl rfl (Nat.le_of_ble_eq_true rfl) (by decide) ?_
  refine cp_mono h (fun _ v2 ⟨x1, e1, h⟩ => ⟨x1, e1, ?_⟩)
  refine p_ifz_eq (tgt := 25) e_R_part_5 rfl (fun c3 => ?_) (fun c3 => ?_)
  · replace h := iteF h c3
    refine g_iconst (0 : Int32) e_R_part_25 (by decide) ?_
    exact p_retZ (x := false) e_R_part_26.1 rfl h
  · replace h := iteT h c3
    refine g_aload_n 0 e_R_part_8 rfl rfl ?_
    refine g_iconst (0 : Int32) e_R_part_9 (by decide) ?_
    refine p_callVZ (d' := 100) (ci := 4) (r := (RX4, TX4, 6)) (As := [.int ((0 : Int32))]) (rest := []) e_R_part_10 zm_R_any lV_R_121 sh_108 rfl rfl rfl rfl (Nat.le_of_ble_eq_true rfl) (by decide) ?_
    refine cp_mono h (fun _ v5 ⟨x4, e1, h⟩ => ⟨x4, e1, ?_⟩)
    refine p_ifz_eq (tgt := 25) e_R_part_13 rfl (fun c6 => ?_) (fun c6 => ?_)
    · replace h := iteF h c6
      refine g_iconst (0 : Int32) e_R_part_25 (by decide) ?_
      exact p_retZ (x := false) e_R_part_26.1 rfl h
    · replace h := iteT h c6
      refine g_aload_n 0 e_R_part_16 rfl rfl ?_
      refine g_bipush (59 : Int32) e_R_part_17 (by decide) ?_
      refine p_callVZ (d' := 2) (ci := 4) (r := (RX4, TX4, 6)) (As := [.int ((59 : Int32))]) (rest := []) e_R_part_19 zm_R_accept lV_R_118 sh_108 rfl rfl rfl rfl (Nat.le_of_ble_eq_true rfl) (by decide) ?_
      refine cp_mono h (fun _ v8 ⟨x7, e1, h⟩ => ⟨x7, e1, ?_⟩)
      refine p_ifz_ne (tgt := 27) e_R_part_22 rfl (fun c9 => ?_) (fun c9 => ?_)
      · replace h := iteT h c9
        refine g_aload_n 0 e_R_part_27 rfl rfl ?_
        refine p_getR (j := 112) e_R_part_28 sh_108 fl_R_31 rfl (rf_108_5 _) ?_
        refine g_iload_n 2 e_R_part_31 rfl rfl ?_
        refine p_callVV (d' := 1) (ci := 7) (r := (RX7, TX7, 5)) (As := [.int (l2)]) (rest := []) e_R_part_32 zm_T_close lV_R_124 sh_112 rfl rfl rfl rfl (Nat.le_of_ble_eq_true rfl) (by decide) ?_
        refine cp_mono h (fun _ v11 ⟨e1, h⟩ => ⟨e1, ?_⟩)
        refine g_iconst (1 : Int32) e_R_part_35 (by decide) ?_
        exact p_retZ (x := true) e_R_part_36.1 rfl h
      · replace h := iteF h c9
        refine g_iconst (0 : Int32) e_R_part_25 (by decide) ?_
        exact p_retZ (x := false) e_R_part_26.1 rfl h
set_option maxHeartbeats 1000000 in
theorem s_R_read {l2 : Int32} {v : Vv} {Q : Int32 → Vv → Prop} (h : m_R_split l2 (v) (fun v2 => m_R_part (6 : Int32) (0 : Int32) (sI (sI (v2) 112 3 (0 : Int32)) 108 4 (0 : Int32)) (fun x3 v4 => if x3 = true then (m_R_part (7 : Int32) (1 : Int32) (v4) (fun x6 v7 => if x6 = true then (m_R_part (8 : Int32) (2 : Int32) (v7) (fun x9 v10 => if (if x9 = true then true else false) = true then (m_R_token  (v10) (fun x13 v14 => if x13 = (-1 : Int32) then (Q ((-1 : Int32)) (v14)) else (k_R_read_69 (l2) (v14) Q))) else (k_R_read_69 (l2) (v10) Q))) else (k_R_read_53 (l2) (v7) Q))) else (k_R_read_53 (l2) (v4) Q)))) : m_R_read l2 v Q := by
  refine cp_go (Nat.le_of_ble_eq_true rfl) (by decide +kernel) ?_
  show Gp 102 M_R_read 0 [(0, .ref (108)), (1, .ref (107)), (2, .int (l2))] [] v (QI Q)
  refine g_aload_n 0 e_R_read_0 rfl rfl ?_
  refine g_aload_n 1 e_R_read_1 rfl rfl ?_
  refine g_iload_n 2 e_R_read_2 rfl rfl ?_
  refine p_callVV (d' := 16) (ci := 4) (r := (RX4, TX4, 6)) (As := [.ref (107), .int (l2)]) (rest := []) e_R_read_3 zm_R_split lV_R_35 sh_108 rfl rfl rfl rfl (Nat.le_of_ble_eq_true rfl) (by decide) ?_
  refine cp_mono h (fun _ v2 ⟨e1, h⟩ => ⟨e1, ?_⟩)
  refine g_aload_n 0 e_R_read_6 rfl rfl ?_
  refine p_getR (j := 112) e_R_read_7 sh_108 fl_R_31 rfl (rf_108_5 _) ?_
  refine g_iconst (0 : Int32) e_R_read_10 (by decide) ?_
  refine p_putI e_R_read_11 sh_112 fp_R_39 rfl rfl rfl ?_
  refine g_aload_n 0 e_R_read_14 rfl rfl ?_
  refine g_iconst (0 : Int32) e_R_read_15 (by decide) ?_
  refine p_putI e_R_read_16 sh_108 fp_R_25 rfl rfl rfl ?_
  refine g_aload_n 0 e_R_read_19 rfl rfl ?_
  refine g_bipush (6 : Int32) e_R_read_20 (by decide) ?_
  refine g_iconst (0 : Int32) e_R_read_22 (by decide) ?_
  refine p_callVZ (d' := 101) (ci := 4) (r := (RX4, TX4, 6)) (As := [.int ((6 : Int32)), .int ((0 : Int32))]) (rest := []) e_R_read_23 zm_R_part lV_R_42 sh_108 rfl rfl rfl rfl (Nat.le_of_ble_eq_true rfl) (by decide) ?_
  refine cp_mono h (fun _ v4 ⟨x3, e1, h⟩ => ⟨x3, e1, ?_⟩)
  refine p_ifz_eq (tgt := 53) e_R_read_26 rfl (fun c5 => ?_) (fun c5 => ?_)
  · replace h := iteF h c5
    exact g_sub [0, 2] rfl h
  · replace h := iteT h c5
    refine g_aload_n 0 e_R_read_29 rfl rfl ?_
    refine g_bipush (7 : Int32) e_R_read_30 (by decide) ?_
    refine g_iconst (1 : Int32) e_R_read_32 (by decide) ?_
    refine p_callVZ (d' := 101) (ci := 4) (r := (RX4, TX4, 6)) (As := [.int ((7 : Int32)), .int ((1 : Int32))]) (rest := []) e_R_read_33 zm_R_part lV_R_42 sh_108 rfl rfl rfl rfl (Nat.le_of_ble_eq_true rfl) (by decide) ?_
    refine cp_mono h (fun _ v7 ⟨x6, e1, h⟩ => ⟨x6, e1, ?_⟩)
    refine p_ifz_eq (tgt := 53) e_R_read_36 rfl (fun c8 => ?_) (fun c8 => ?_)
    · replace h := iteF h c8
      exact g_sub [0, 2] rfl h
    · replace h := iteT h c8
      refine g_aload_n 0 e_R_read_39 rfl rfl ?_
      refine g_bipush (8 : Int32) e_R_read_40 (by decide) ?_
      refine g_iconst (2 : Int32) e_R_read_42 (by decide) ?_
      refine p_callVZ (d' := 101) (ci := 4) (r := (RX4, TX4, 6)) (As := [.int ((8 : Int32)), .int ((2 : Int32))]) (rest := []) e_R_read_43 zm_R_part lV_R_42 sh_108 rfl rfl rfl rfl (Nat.le_of_ble_eq_true rfl) (by decide) ?_
      refine cp_mono h (fun _ v10 ⟨x9, e1, h⟩ => ⟨x9, e1, ?_⟩)
      have hj : ∀ m0 : Bool, m0 = (if x9 = true then true else false) → Gp 102 M_R_read 54 [(0, .ref (108)), (1, .ref (107)), (2, .int (l2))] [.int (bI (m0))] (v10) (QI Q) := by
        intro m0 hm0
        subst hm0
        refine g_istore_n (L' := [(3, .int (bI ((if x9 = true then true else false)))), (0, .ref (108)), (1, .ref (107)), (2, .int (l2))]) e_R_read_54 rfl (by decide) rfl ?_
        refine g_iload_n 0 e_R_read_55 rfl rfl ?_
        refine p_ifz_eq (tgt := 69) e_R_read_56 rfl (fun c12 => ?_) (fun c12 => ?_)
        · replace h := iteF h c12
          exact g_sub [1, 3] rfl h
        · replace h := iteT h c12
          refine g_aload_n 1 e_R_read_59 rfl rfl ?_
          refine p_callVI (d' := 1) (ci := 4) (r := (RX4, TX4, 6)) (As := []) (rest := []) e_R_read_60 zm_R_token lV_R_46 sh_108 rfl rfl rfl rfl (Nat.le_of_ble_eq_true rfl) (by decide) ?_
          refine cp_mono h (fun _ v14 ⟨x13, e1, h⟩ => ⟨x13, e1, ?_⟩)
          refine g_iconst (-1 : Int32) e_R_read_63 (by decide) ?_
          refine g_icmp_ne (tgt := 69) e_R_read_64 rfl (fun c15 => ?_) (fun c15 => ?_)
          · replace h := iteF h c15
            exact g_sub [1, 3] rfl h
          · replace h := iteT h c15
            refine g_iconst (-1 : Int32) e_R_read_67 (by decide) ?_
            exact p_retI e_R_read_68.1 rfl h
      refine p_ifz_eq (tgt := 53) e_R_read_46 rfl (fun c11 => ?_) (fun c11 => ?_)
      · refine g_iconst (0 : Int32) e_R_read_53 (by decide) ?_
        exact hj (false) (by simp only [if_neg c11])
      · refine g_iconst (1 : Int32) e_R_read_49 (by decide) ?_
        refine g_goto (tgt := 54) e_R_read_50 rfl ?_
        exact hj (true) (by simp only [if_pos c11])
set_option maxHeartbeats 1000000 in
theorem s_R_read_69 {l2 : Int32} {v : Vv} {Q : Int32 → Vv → Prop} (h : if (v).1 108 4 < (v).1 108 3 then ((ib ((v).1 108 4) 161) ∧ (Q ((v).1 110 (ix ((v).1 108 4))) (v))) else (Q (l2) (v))) : k_R_read_69 l2 v Q := by
  show Gp 102 M_R_read 69 [(0, .ref (108)), (2, .int (l2))] [] v (QI Q)
  refine g_aload_n 0 e_R_read_69 rfl rfl ?_
  refine p_getI e_R_read_70 sh_108 fl_R_25 rfl ?_
  refine g_aload_n 0 e_R_read_73 rfl rfl ?_
  refine p_getI e_R_read_74 sh_108 fl_R_21 rfl ?_
  refine g_icmp_ge (tgt := 92) e_R_read_77 rfl (fun c16 => ?_) (fun c16 => ?_)
  · replace h := iteF h c16
    refine g_iload_n 1 e_R_read_92 rfl rfl ?_
    exact p_retI e_R_read_93.1 rfl h
  · replace h := iteT h c16
    refine g_aload_n 0 e_R_read_80 rfl rfl ?_
    refine p_getR (j := 110) e_R_read_81 sh_108 fl_R_15 rfl (rf_108_1 _) ?_
    refine g_aload_n 0 e_R_read_84 rfl rfl ?_
    refine p_getI e_R_read_85 sh_108 fl_R_25 rfl ?_
    obtain ⟨h17, h⟩ := h
    refine p_iald e_R_read_88 sh_110 h17 ?_
    refine g_goto (tgt := 93) e_R_read_89 rfl ?_
    exact p_retI e_R_read_93.1 rfl h
set_option maxHeartbeats 1000000 in
theorem s_R_read_53 {l2 : Int32} {v : Vv} {Q : Int32 → Vv → Prop} (h : k_R_read_54 (l2) ((0 : Int32)) (v) Q) : k_R_read_53 l2 v Q := by
  show Gp 102 M_R_read 53 [(0, .ref (108)), (2, .int (l2))] [] v (QI Q)
  refine g_iconst (0 : Int32) e_R_read_53 (by decide) ?_
  exact g_sub [0, 1] rfl h
set_option maxHeartbeats 1000000 in
theorem s_R_read_54 {l2 : Int32} {t0 : Int32} {v : Vv} {Q : Int32 → Vv → Prop} (h : if t0 = (0 : Int32) then (k_R_read_69 (l2) (v) Q) else (m_R_token  (v) (fun x19 v20 => if x19 = (-1 : Int32) then (Q ((-1 : Int32)) (v20)) else (k_R_read_69 (l2) (v20) Q)))) : k_R_read_54 l2 t0 v Q := by
  show Gp 102 M_R_read 54 [(0, .ref (108)), (2, .int (l2))] [.int (t0)] v (QI Q)
  refine g_istore_n (L' := [(3, .int (t0)), (0, .ref (108)), (2, .int (l2))]) e_R_read_54 rfl (by decide) rfl ?_
  refine g_iload_n 0 e_R_read_55 rfl rfl ?_
  refine g_if_eq (tgt := 69) e_R_read_56 rfl (fun c18 => ?_) (fun c18 => ?_)
  · replace h := iteT h c18
    exact g_sub [1, 2] rfl h
  · replace h := iteF h c18
    refine g_aload_n 1 e_R_read_59 rfl rfl ?_
    refine p_callVI (d' := 1) (ci := 4) (r := (RX4, TX4, 6)) (As := []) (rest := []) e_R_read_60 zm_R_token lV_R_46 sh_108 rfl rfl rfl rfl (Nat.le_of_ble_eq_true rfl) (by decide) ?_
    refine cp_mono h (fun _ v20 ⟨x19, e1, h⟩ => ⟨x19, e1, ?_⟩)
    refine g_iconst (-1 : Int32) e_R_read_63 (by decide) ?_
    refine g_icmp_ne (tgt := 69) e_R_read_64 rfl (fun c21 => ?_) (fun c21 => ?_)
    · replace h := iteF h c21
      exact g_sub [1, 2] rfl h
    · replace h := iteT h c21
      refine g_iconst (-1 : Int32) e_R_read_67 (by decide) ?_
      exact p_retI e_R_read_68.1 rfl h
