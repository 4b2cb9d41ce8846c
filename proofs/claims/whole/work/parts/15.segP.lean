-- segments: P
set_option maxHeartbeats 1000000 in
theorem s_P_feed {l1 : Int32} {v : Vv} {Q : Int32 → Vv → Prop} (h : if l1 < (0 : Int32) then (Q ((-2 : Int32)) (v)) else (if (255 : Int32) < l1 then (Q ((-2 : Int32)) (v)) else (if (v).1 0 7 < (160 : Int32) then ((ib ((v).1 0 7) 160) ∧ (Q ((sI (sI (v) 107 (ix ((v).1 0 7)) l1) 0 7 ((sI (v) 107 (ix ((v).1 0 7)) l1).1 0 7 + (1 : Int32))).1 0 7) (sI (sI (v) 107 (ix ((v).1 0 7)) l1) 0 7 ((sI (v) 107 (ix ((v).1 0 7)) l1).1 0 7 + (1 : Int32))))) else (Q ((-4 : Int32)) (v))))) : m_P_feed l1 v Q := by
  refine cp_go (Nat.le_of_ble_eq_true rfl) (by decide +kernel) ?_
  show Gp 1 M_P_feed 0 [(0, .ref (0)), (1, .int (l1))] [] v (QI Q)
  refine g_iload_n 1 e_P_feed_0 rfl rfl ?_
  refine g_if_lt (tgt := 11) e_P_feed_1 rfl (fun c1 => ?_) (fun c1 => ?_)
  · replace h := iteT h c1
    refine g_bipush (-2 : Int32) e_P_feed_11 (by decide) ?_
    exact p_retI e_P_feed_13.1 rfl h
  · replace h := iteF h c1
    refine g_iload_n 1 e_P_feed_4 rfl rfl ?_
    refine g_sipush (255 : Int32) e_P_feed_5 (by decide) ?_
    refine g_icmp_le (tgt := 14) e_P_feed_8 rfl (fun c2 => ?_) (fun c2 => ?_)
    · replace h := iteF h c2
      refine g_aload_n 0 e_P_feed_14 rfl rfl ?_
      refine p_getI e_P_feed_15 sh_0 fl_P_45 rfl ?_
      refine g_sipush (160 : Int32) e_P_feed_18 (by decide) ?_
      refine g_icmp_lt (tgt := 27) e_P_feed_21 rfl (fun c3 => ?_) (fun c3 => ?_)
      · replace h := iteT h c3
        refine g_aload_n 0 e_P_feed_27 rfl rfl ?_
        refine p_getR (j := 107) e_P_feed_28 sh_0 fl_P_41 rfl (rf_0_6 _) ?_
        refine g_aload_n 0 e_P_feed_31 rfl rfl ?_
        refine p_getI e_P_feed_32 sh_0 fl_P_45 rfl ?_
        refine g_iload_n 1 e_P_feed_35 rfl rfl ?_
        obtain ⟨h4, h⟩ := h
        refine p_iast e_P_feed_36 sh_107 h4 ?_
        refine g_aload_n 0 e_P_feed_37 rfl rfl ?_
        refine g_dup e_P_feed_38 rfl ?_
        refine p_getI e_P_feed_39 sh_0 fl_P_45 rfl ?_
        refine g_iconst (1 : Int32) e_P_feed_42 (by decide) ?_
        refine g_iadd e_P_feed_43 ?_
        refine p_putI e_P_feed_44 sh_0 fp_P_45 rfl rfl rfl ?_
        refine g_aload_n 0 e_P_feed_47 rfl rfl ?_
        refine p_getI e_P_feed_48 sh_0 fl_P_45 rfl ?_
        exact p_retI e_P_feed_51.1 rfl h
      · replace h := iteF h c3
        refine g_bipush (-4 : Int32) e_P_feed_24 (by decide) ?_
        exact p_retI e_P_feed_26.1 rfl h
    · replace h := iteT h c2
      refine g_bipush (-2 : Int32) e_P_feed_11 (by decide) ?_
      exact p_retI e_P_feed_13.1 rfl h
set_option maxHeartbeats 1000000 in
theorem s_P_force {l1 : Int32} {v : Vv} {Q : Int32 → Vv → Prop} (h : if l1 < (0 : Int32) then (Q ((-2 : Int32)) (v)) else (if l1 < (v).1 0 5 then (Q ((v).1 74 4) (sI (sI (v) 74 4 l1) 1 12 (1 : Int32))) else (Q ((-2 : Int32)) (v)))) : m_P_force l1 v Q := by
  refine cp_go (Nat.le_of_ble_eq_true rfl) (by decide +kernel) ?_
  show Gp 1 M_P_force 0 [(0, .ref (0)), (1, .int (l1))] [] v (QI Q)
  refine g_iload_n 1 e_P_force_0 rfl rfl ?_
  refine g_if_lt (tgt := 12) e_P_force_1 rfl (fun c1 => ?_) (fun c1 => ?_)
  · replace h := iteT h c1
    refine g_bipush (-2 : Int32) e_P_force_12 (by decide) ?_
    exact p_retI e_P_force_14.1 rfl h
  · replace h := iteF h c1
    refine g_iload_n 1 e_P_force_4 rfl rfl ?_
    refine g_aload_n 0 e_P_force_5 rfl rfl ?_
    refine p_getI e_P_force_6 sh_0 fl_P_37 rfl ?_
    refine g_icmp_lt (tgt := 15) e_P_force_9 rfl (fun c2 => ?_) (fun c2 => ?_)
    · replace h := iteT h c2
      refine g_aload_n 0 e_P_force_15 rfl rfl ?_
      refine p_getR (j := 74) e_P_force_16 sh_0 fl_P_20 rfl (rf_0_1 _) ?_
      refine p_getI e_P_force_19 sh_74 fl_P_162 rfl ?_
      refine g_istore_n (L' := [(2, .int ((v).1 74 4)), (0, .ref (0)), (1, .int (l1))]) e_P_force_22 rfl (by decide) rfl ?_
      refine g_aload_n 1 e_P_force_23 rfl rfl ?_
      refine p_getR (j := 74) e_P_force_24 sh_0 fl_P_20 rfl (rf_0_1 _) ?_
      refine g_iload_n 2 e_P_force_27 rfl rfl ?_
      refine p_putI e_P_force_28 sh_74 fp_P_162 rfl rfl rfl ?_
      refine g_aload_n 1 e_P_force_31 rfl rfl ?_
      refine p_getR (j := 1) e_P_force_32 sh_0 fl_P_10 rfl (rf_0_0 _) ?_
      refine g_iconst (1 : Int32) e_P_force_35 (by decide) ?_
      refine p_putI e_P_force_36 sh_1 fp_P_102 rfl rfl rfl ?_
      refine g_iload_n 0 e_P_force_39 rfl rfl ?_
      exact p_retI e_P_force_40.1 rfl h
    · replace h := iteF h c2
      refine g_bipush (-2 : Int32) e_P_force_12 (by decide) ?_
      exact p_retI e_P_force_14.1 rfl h
set_option maxHeartbeats 1000000 in
theorem s_P_isClock {l1 : Int32} {v : Vv} {Q : Bool → Vv → Prop} (h : Q ((if l1 < (0 : Int32) then false else (if l1 < (v).1 74 2 then true else false))) (v)) : m_P_isClock l1 v Q := by
  refine cp_go (Nat.le_of_ble_eq_true rfl) (by decide +kernel) ?_
  show Gp 1 M_P_isClock 0 [(0, .ref (0)), (1, .int (l1))] [] v (QZ Q)
  refine g_iload_n 1 e_P_isClock_0 rfl rfl ?_
  have hj : ∀ m0 : Bool, m0 = (if l1 < (0 : Int32) then false else (if l1 < (v).1 74 2 then true else false)) → Gp 1 M_P_isClock 20 [(0, .ref (0)), (1, .int (l1))] [.int (bI (m0))] (v) (QZ Q) := by
    intro m0 hm0
    subst hm0
    exact p_retZ e_P_isClock_20.1 rfl h
  refine g_if_lt (tgt := 19) e_P_isClock_1 rfl (fun c1 => ?_) (fun c1 => ?_)
  · refine g_iconst (0 : Int32) e_P_isClock_19 (by decide) ?_
    exact hj (false) (by simp only [if_pos c1])
  · refine g_iload_n 1 e_P_isClock_4 rfl rfl ?_
    refine g_aload_n 0 e_P_isClock_5 rfl rfl ?_
    refine p_getR (j := 74) e_P_isClock_6 sh_0 fl_P_20 rfl (rf_0_1 _) ?_
    refine p_getI e_P_isClock_9 sh_74 fl_P_81 rfl ?_
    refine g_icmp_ge (tgt := 19) e_P_isClock_12 rfl (fun c2 => ?_) (fun c2 => ?_)
    · refine g_iconst (0 : Int32) e_P_isClock_19 (by decide) ?_
      exact hj (false) (by simp only [if_neg c1, if_neg c2])
    · refine g_iconst (1 : Int32) e_P_isClock_15 (by decide) ?_
      refine g_goto (tgt := 20) e_P_isClock_16 rfl ?_
      exact hj (true) (by simp only [if_neg c1, if_pos c2])
set_option maxHeartbeats 1000000 in
theorem s_P_isDoer {l1 : Int32} {v : Vv} {Q : Bool → Vv → Prop} (h : Q ((if l1 < (0 : Int32) then false else (if l1 < (v).1 74 3 then true else false))) (v)) : m_P_isDoer l1 v Q := by
  refine cp_go (Nat.le_of_ble_eq_true rfl) (by decide +kernel) ?_
  show Gp 1 M_P_isDoer 0 [(0, .ref (0)), (1, .int (l1))] [] v (QZ Q)
  refine g_iload_n 1 e_P_isDoer_0 rfl rfl ?_
  have hj : ∀ m0 : Bool, m0 = (if l1 < (0 : Int32) then false else (if l1 < (v).1 74 3 then true else false)) → Gp 1 M_P_isDoer 20 [(0, .ref (0)), (1, .int (l1))] [.int (bI (m0))] (v) (QZ Q) := by
    intro m0 hm0
    subst hm0
    exact p_retZ e_P_isDoer_20.1 rfl h
  refine g_if_lt (tgt := 19) e_P_isDoer_1 rfl (fun c1 => ?_) (fun c1 => ?_)
  · refine g_iconst (0 : Int32) e_P_isDoer_19 (by decide) ?_
    exact hj (false) (by simp only [if_pos c1])
  · refine g_iload_n 1 e_P_isDoer_4 rfl rfl ?_
    refine g_aload_n 0 e_P_isDoer_5 rfl rfl ?_
    refine p_getR (j := 74) e_P_isDoer_6 sh_0 fl_P_20 rfl (rf_0_1 _) ?_
    refine p_getI e_P_isDoer_9 sh_74 fl_P_109 rfl ?_
    refine g_icmp_ge (tgt := 19) e_P_isDoer_12 rfl (fun c2 => ?_) (fun c2 => ?_)
    · refine g_iconst (0 : Int32) e_P_isDoer_19 (by decide) ?_
      exact hj (false) (by simp only [if_neg c1, if_neg c2])
    · refine g_iconst (1 : Int32) e_P_isDoer_15 (by decide) ?_
      refine g_goto (tgt := 20) e_P_isDoer_16 rfl ?_
      exact hj (true) (by simp only [if_neg c1, if_pos c2])
set_option maxHeartbeats 1000000 in
theorem s_P_isWorld {l1 : Int32} {v : Vv} {Q : Bool → Vv → Prop} (h : Q ((if l1 < (0 : Int32) then false else (if l1 < ((1 : Int32) <<< ((v).1 74 3 &&& 31)) then true else false))) (v)) : m_P_isWorld l1 v Q := by
  refine cp_go (Nat.le_of_ble_eq_true rfl) (by decide +kernel) ?_
  show Gp 1 M_P_isWorld 0 [(0, .ref (0)), (1, .int (l1))] [] v (QZ Q)
  refine g_iload_n 1 e_P_isWorld_0 rfl rfl ?_
  have hj : ∀ m0 : Bool, m0 = (if l1 < (0 : Int32) then false else (if l1 < ((1 : Int32) <<< ((v).1 74 3 &&& 31)) then true else false)) → Gp 1 M_P_isWorld 22 [(0, .ref (0)), (1, .int (l1))] [.int (bI (m0))] (v) (QZ Q) := by
    intro m0 hm0
    subst hm0
    exact p_retZ e_P_isWorld_22.1 rfl h
  refine g_if_lt (tgt := 21) e_P_isWorld_1 rfl (fun c1 => ?_) (fun c1 => ?_)
  · refine g_iconst (0 : Int32) e_P_isWorld_21 (by decide) ?_
    exact hj (false) (by simp only [if_pos c1])
  · refine g_iload_n 1 e_P_isWorld_4 rfl rfl ?_
    refine g_iconst (1 : Int32) e_P_isWorld_5 (by decide) ?_
    refine g_aload_n 0 e_P_isWorld_6 rfl rfl ?_
    refine p_getR (j := 74) e_P_isWorld_7 sh_0 fl_P_20 rfl (rf_0_1 _) ?_
    refine p_getI e_P_isWorld_10 sh_74 fl_P_109 rfl ?_
    refine g_ishl e_P_isWorld_13 ?_
    refine g_icmp_ge (tgt := 21) e_P_isWorld_14 rfl (fun c2 => ?_) (fun c2 => ?_)
    · refine g_iconst (0 : Int32) e_P_isWorld_21 (by decide) ?_
      exact hj (false) (by simp only [if_neg c1, if_neg c2])
    · refine g_iconst (1 : Int32) e_P_isWorld_17 (by decide) ?_
      refine g_goto (tgt := 22) e_P_isWorld_18 rfl ?_
      exact hj (true) (by simp only [if_neg c1, if_pos c2])
set_option maxHeartbeats 1000000 in
theorem s_P_isKind {l0 : Int32} {v : Vv} {Q : Bool → Vv → Prop} (h : Q ((if l0 < (0 : Int32) then false else (if l0 < (6 : Int32) then true else false))) (v)) : m_P_isKind l0 v Q := by
  refine cp_go (Nat.le_of_ble_eq_true rfl) (by decide +kernel) ?_
  show Gp 1 M_P_isKind 0 [(0, .int (l0))] [] v (QZ Q)
  refine g_iload_n 0 e_P_isKind_0 rfl rfl ?_
  have hj : ∀ m0 : Bool, m0 = (if l0 < (0 : Int32) then false else (if l0 < (6 : Int32) then true else false)) → Gp 1 M_P_isKind 15 [(0, .int (l0))] [.int (bI (m0))] (v) (QZ Q) := by
    intro m0 hm0
    subst hm0
    exact p_retZ e_P_isKind_15.1 rfl h
  refine g_if_lt (tgt := 14) e_P_isKind_1 rfl (fun c1 => ?_) (fun c1 => ?_)
  · refine g_iconst (0 : Int32) e_P_isKind_14 (by decide) ?_
    exact hj (false) (by simp only [if_pos c1])
  · refine g_iload_n 0 e_P_isKind_4 rfl rfl ?_
    refine g_bipush (6 : Int32) e_P_isKind_5 (by decide) ?_
    refine g_icmp_ge (tgt := 14) e_P_isKind_7 rfl (fun c2 => ?_) (fun c2 => ?_)
    · refine g_iconst (0 : Int32) e_P_isKind_14 (by decide) ?_
      exact hj (false) (by simp only [if_neg c1, if_neg c2])
    · refine g_iconst (1 : Int32) e_P_isKind_10 (by decide) ?_
      refine g_goto (tgt := 15) e_P_isKind_11 rfl ?_
      exact hj (true) (by simp only [if_neg c1, if_pos c2])
set_option maxHeartbeats 1000000 in
theorem s_P_isSheet {l0 : Int32} {v : Vv} {Q : Bool → Vv → Prop} (h : Q ((if l0 < (0 : Int32) then false else (if l0 < (4 : Int32) then true else false))) (v)) : m_P_isSheet l0 v Q := by
  refine cp_go (Nat.le_of_ble_eq_true rfl) (by decide +kernel) ?_
  show Gp 1 M_P_isSheet 0 [(0, .int (l0))] [] v (QZ Q)
  refine g_iload_n 0 e_P_isSheet_0 rfl rfl ?_
  have hj : ∀ m0 : Bool, m0 = (if l0 < (0 : Int32) then false else (if l0 < (4 : Int32) then true else false)) → Gp 1 M_P_isSheet 14 [(0, .int (l0))] [.int (bI (m0))] (v) (QZ Q) := by
    intro m0 hm0
    subst hm0
    exact p_retZ e_P_isSheet_14.1 rfl h
  refine g_if_lt (tgt := 13) e_P_isSheet_1 rfl (fun c1 => ?_) (fun c1 => ?_)
  · refine g_iconst (0 : Int32) e_P_isSheet_13 (by decide) ?_
    exact hj (false) (by simp only [if_pos c1])
  · refine g_iload_n 0 e_P_isSheet_4 rfl rfl ?_
    refine g_iconst (4 : Int32) e_P_isSheet_5 (by decide) ?_
    refine g_icmp_ge (tgt := 13) e_P_isSheet_6 rfl (fun c2 => ?_) (fun c2 => ?_)
    · refine g_iconst (0 : Int32) e_P_isSheet_13 (by decide) ?_
      exact hj (false) (by simp only [if_neg c1, if_neg c2])
    · refine g_iconst (1 : Int32) e_P_isSheet_9 (by decide) ?_
      refine g_goto (tgt := 14) e_P_isSheet_10 rfl ?_
      exact hj (true) (by simp only [if_neg c1, if_pos c2])
set_option maxHeartbeats 1000000 in
theorem s_P_isSort {l0 : Int32} {v : Vv} {Q : Bool → Vv → Prop} (h : Q ((if l0 < (0 : Int32) then false else (if (2 : Int32) < l0 then false else true))) (v)) : m_P_isSort l0 v Q := by
  refine cp_go (Nat.le_of_ble_eq_true rfl) (by decide +kernel) ?_
  show Gp 1 M_P_isSort 0 [(0, .int (l0))] [] v (QZ Q)
  refine g_iload_n 0 e_P_isSort_0 rfl rfl ?_
  have hj : ∀ m0 : Bool, m0 = (if l0 < (0 : Int32) then false else (if (2 : Int32) < l0 then false else true)) → Gp 1 M_P_isSort 14 [(0, .int (l0))] [.int (bI (m0))] (v) (QZ Q) := by
    intro m0 hm0
    subst hm0
    exact p_retZ e_P_isSort_14.1 rfl h
  refine g_if_lt (tgt := 13) e_P_isSort_1 rfl (fun c1 => ?_) (fun c1 => ?_)
  · refine g_iconst (0 : Int32) e_P_isSort_13 (by decide) ?_
    exact hj (false) (by simp only [if_pos c1])
  · refine g_iload_n 0 e_P_isSort_4 rfl rfl ?_
    refine g_iconst (2 : Int32) e_P_isSort_5 (by decide) ?_
    refine g_icmp_gt (tgt := 13) e_P_isSort_6 rfl (fun c2 => ?_) (fun c2 => ?_)
    · refine g_iconst (0 : Int32) e_P_isSort_13 (by decide) ?_
      exact hj (false) (by simp only [if_neg c1, if_pos c2])
    · refine g_iconst (1 : Int32) e_P_isSort_9 (by decide) ?_
      refine g_goto (tgt := 14) e_P_isSort_10 rfl ?_
      exact hj (true) (by simp only [if_neg c1, if_neg c2])
set_option maxHeartbeats 1000000 in
theorem s_P_isPart {l0 : Int32} {v : Vv} {Q : Bool → Vv → Prop} (h : Q ((if l0 = (0 : Int32) then true else (if l0 = (1 : Int32) then true else false))) (v)) : m_P_isPart l0 v Q := by
  refine cp_go (Nat.le_of_ble_eq_true rfl) (by decide +kernel) ?_
  show Gp 1 M_P_isPart 0 [(0, .int (l0))] [] v (QZ Q)
  refine g_iload_n 0 e_P_isPart_0 rfl rfl ?_
  have hj : ∀ m0 : Bool, m0 = (if l0 = (0 : Int32) then true else (if l0 = (1 : Int32) then true else false)) → Gp 1 M_P_isPart 14 [(0, .int (l0))] [.int (bI (m0))] (v) (QZ Q) := by
    intro m0 hm0
    subst hm0
    exact p_retZ e_P_isPart_14.1 rfl h
  refine g_if_eq (tgt := 9) e_P_isPart_1 rfl (fun c1 => ?_) (fun c1 => ?_)
  · refine g_iconst (1 : Int32) e_P_isPart_9 (by decide) ?_
    refine g_goto (tgt := 14) e_P_isPart_10 rfl ?_
    exact hj (true) (by simp only [if_pos c1])
  · refine g_iload_n 0 e_P_isPart_4 rfl rfl ?_
    refine g_iconst (1 : Int32) e_P_isPart_5 (by decide) ?_
    refine g_icmp_ne (tgt := 13) e_P_isPart_6 rfl (fun c2 => ?_) (fun c2 => ?_)
    · refine g_iconst (0 : Int32) e_P_isPart_13 (by decide) ?_
      exact hj (false) (by simp only [if_neg c1, if_neg c2])
    · refine g_iconst (1 : Int32) e_P_isPart_9 (by decide) ?_
      refine g_goto (tgt := 14) e_P_isPart_10 rfl ?_
      exact hj (true) (by simp only [if_neg c1, if_pos c2])
set_option maxHeartbeats 1000000 in
theorem s_P_canBe {l0 : Int32} {l1 : Int32} {v : Vv} {Q : Bool → Vv → Prop} (h : if l0 < (0 : Int32) then (Q false (v)) else (if (5 : Int32) < l0 then (Q false (v)) else ((ib (l0) 6) ∧ (Q ((if l1 < stV 0 (ix (l0)) then false else (if stV 1 (ix (l0)) < l1 then false else true))) (v))))) : m_P_canBe l0 l1 v Q := by
  refine cp_go (Nat.le_of_ble_eq_true rfl) (by decide +kernel) ?_
  show Gp 1 M_P_canBe 0 [(0, .int (l0)), (1, .int (l1))] [] v (QZ Q)
  refine g_iload_n 0 e_P_canBe_0 rfl rfl ?_
  refine g_if_lt (tgt := 31) e_P_canBe_1 rfl (fun c1 => ?_) (fun c1 => ?_)
  · replace h := iteT h c1
    refine g_iconst (0 : Int32) e_P_canBe_31 (by decide) ?_
    exact p_retZ (x := false) e_P_canBe_32.1 rfl h
  · replace h := iteF h c1
    refine g_iload_n 0 e_P_canBe_4 rfl rfl ?_
    refine g_iconst (5 : Int32) e_P_canBe_5 (by decide) ?_
    refine g_icmp_gt (tgt := 31) e_P_canBe_6 rfl (fun c2 => ?_) (fun c2 => ?_)
    · replace h := iteT h c2
      refine g_iconst (0 : Int32) e_P_canBe_31 (by decide) ?_
      exact p_retZ (x := false) e_P_canBe_32.1 rfl h
    · replace h := iteF h c2
      refine g_iload_n 1 e_P_canBe_9 rfl rfl ?_
      refine g_gets (j := 0) e_P_canBe_10 (by decide) gs_P_304 ?_
      refine g_iload_n 0 e_P_canBe_13 rfl rfl ?_
      obtain ⟨h3, h⟩ := h
      refine g_sald (j := 0) e_P_canBe_14 (by decide) h3 ?_
      have hj : ∀ m0 : Bool, m0 = (if l1 < stV 0 (ix (l0)) then false else (if stV 1 (ix (l0)) < l1 then false else true)) → Gp 1 M_P_canBe 32 [(0, .int (l0)), (1, .int (l1))] [.int (bI (m0))] (v) (QZ Q) := by
        intro m0 hm0
        subst hm0
        exact p_retZ e_P_canBe_32.1 rfl h
      refine g_icmp_lt (tgt := 31) e_P_canBe_15 rfl (fun c4 => ?_) (fun c4 => ?_)
      · refine g_iconst (0 : Int32) e_P_canBe_31 (by decide) ?_
        exact hj (false) (by simp only [if_pos c4])
      · refine g_iload_n 1 e_P_canBe_18 rfl rfl ?_
        refine g_gets (j := 1) e_P_canBe_19 (by decide) gs_P_307 ?_
        refine g_iload_n 0 e_P_canBe_22 rfl rfl ?_
        refine g_sald (j := 1) e_P_canBe_23 (by decide) h3 ?_
        refine g_icmp_gt (tgt := 31) e_P_canBe_24 rfl (fun c5 => ?_) (fun c5 => ?_)
        · refine g_iconst (0 : Int32) e_P_canBe_31 (by decide) ?_
          exact hj (false) (by simp only [if_neg c4, if_pos c5])
        · refine g_iconst (1 : Int32) e_P_canBe_27 (by decide) ?_
          refine g_goto (tgt := 32) e_P_canBe_28 rfl ?_
          exact hj (true) (by simp only [if_neg c4, if_neg c5])
set_option maxHeartbeats 1000000 in
theorem s_P_lowest {l0 : Int64} {l2 : Int64} {l4 : Int32} {v : Vv} {Q : Int64 → Vv → Prop} (h : k_P_lowest_9 (l0) (l2) (l4) (l0) (l2) ((0 : Int32)) (v) Q) : m_P_lowest l0 l2 l4 v Q := by
  refine cp_go (Nat.le_of_ble_eq_true rfl) (by decide +kernel) ?_
  show Gp 1 M_P_lowest 0 [(0, .long (l0)), (2, .long (l2)), (4, .int (l4))] [] v (QJ Q)
  refine g_lload_n 0 e_P_lowest_0 rfl rfl ?_
  refine g_lstore (L' := [(5, .long (l0)), (0, .long (l0)), (2, .long (l2)), (4, .int (l4))]) e_P_lowest_1 (by decide) rfl ?_
  refine g_lload_n 2 e_P_lowest_3 rfl rfl ?_
  refine g_lstore (L' := [(7, .long (l2)), (5, .long (l0)), (0, .long (l0)), (2, .long (l2)), (4, .int (l4))]) e_P_lowest_4 (by decide) rfl ?_
  refine g_iconst (0 : Int32) e_P_lowest_6 (by decide) ?_
  refine g_istore (L' := [(9, .int ((0 : Int32))), (7, .long (l2)), (5, .long (l0)), (0, .long (l0)), (2, .long (l2)), (4, .int (l4))]) e_P_lowest_7 (by decide) rfl ?_
  exact g_sub [3, 4, 5, 2, 1, 0] rfl h
set_option maxHeartbeats 1000000 in
theorem s_P_lowest_9 {l0 : Int64} {l2 : Int64} {l4 : Int32} {l5 : Int64} {l7 : Int64} {l9 : Int32} {v : Vv} {Q : Int64 → Vv → Prop} (h : if l9 < (200 : Int32) then (if l7 = (0 : Int64) then (k_P_lowest_45 (l0) (l2) (l4) (l5) (v) Q) else ((¬ l7 = (0 : Int64)) ∧ (k_P_lowest_9 (l0) (l2) (l4) (l7) ((l5 % l7)) ((l9 + (1 : Int32))) (v) Q))) else (k_P_lowest_45 (l0) (l2) (l4) (l5) (v) Q)) : k_P_lowest_9 l0 l2 l4 l5 l7 l9 v Q := by
  show Gp 1 M_P_lowest 9 [(0, .long (l0)), (2, .long (l2)), (4, .int (l4)), (5, .long (l5)), (7, .long (l7)), (9, .int (l9))] [] v (QJ Q)
  refine g_iload 5 e_P_lowest_9 rfl ?_
  refine g_sipush (200 : Int32) e_P_lowest_11 (by decide) ?_
  refine g_icmp_ge (tgt := 45) e_P_lowest_14 rfl (fun c1 => ?_) (fun c1 => ?_)
  · replace h := iteF h c1
    exact g_sub [0, 1, 2, 3] rfl h
  · replace h := iteT h c1
    refine g_lload 4 e_P_lowest_17 rfl ?_
    refine g_lconst (0 : Int64) e_P_lowest_19 (by decide) ?_
    refine g_l_eq (tgt := 45) e_P_lowest_20 e_P_lowest_21 rfl (fun c2 => ?_) (fun c2 => ?_)
    · replace h := iteT h c2
      exact g_sub [0, 1, 2, 3] rfl h
    · replace h := iteF h c2
      refine g_lload 3 e_P_lowest_24 rfl ?_
      refine g_lload 4 e_P_lowest_26 rfl ?_
      obtain ⟨h3, h⟩ := h
      refine g_lrem e_P_lowest_28 h3 ?_
      refine g_lstore (L' := [(10, .long ((l5 % l7))), (0, .long (l0)), (2, .long (l2)), (4, .int (l4)), (5, .long (l5)), (7, .long (l7)), (9, .int (l9))]) e_P_lowest_29 (by decide) rfl ?_
      refine g_lload 5 e_P_lowest_31 rfl ?_
      refine g_lstore (L' := [(5, .long (l7)), (10, .long ((l5 % l7))), (0, .long (l0)), (2, .long (l2)), (4, .int (l4)), (7, .long (l7)), (9, .int (l9))]) e_P_lowest_33 (by decide) rfl ?_
      refine g_lload 1 e_P_lowest_35 rfl ?_
      refine g_lstore (L' := [(7, .long ((l5 % l7))), (5, .long (l7)), (10, .long ((l5 % l7))), (0, .long (l0)), (2, .long (l2)), (4, .int (l4)), (9, .int (l9))]) e_P_lowest_37 (by decide) rfl ?_
      refine g_iinc (v := (l9 + (1 : Int32))) (L' := [(9, .int ((l9 + (1 : Int32)))), (7, .long ((l5 % l7))), (5, .long (l7)), (10, .long ((l5 % l7))), (0, .long (l0)), (2, .long (l2)), (4, .int (l4))]) 6 e_P_lowest_39 rfl rfl (by decide) rfl ?_
      refine g_goto (tgt := 9) e_P_lowest_42 rfl ?_
      exact g_sub [4, 5, 6, 2, 1, 0] rfl h
set_option maxHeartbeats 1000000 in
theorem s_P_lowest_45 {l0 : Int64} {l2 : Int64} {l4 : Int32} {l5 : Int64} {v : Vv} {Q : Int64 → Vv → Prop} (h : if l2 = (0 : Int64) then (Q ((-4611686018427387904 : Int64)) (v)) else (if l5 = (0 : Int64) then (Q ((-4611686018427387904 : Int64)) (v)) else ((¬ l5 = (0 : Int64)) ∧ (Q (((if l4 = (0 : Int32) then l0 else l2) / l5)) (v))))) : k_P_lowest_45 l0 l2 l4 l5 v Q := by
  show Gp 1 M_P_lowest 45 [(0, .long (l0)), (2, .long (l2)), (4, .int (l4)), (5, .long (l5))] [] v (QJ Q)
  refine g_lload_n 1 e_P_lowest_45 rfl rfl ?_
  refine g_lconst (0 : Int64) e_P_lowest_46 (by decide) ?_
  refine g_l_eq (tgt := 58) e_P_lowest_47 e_P_lowest_48 rfl (fun c4 => ?_) (fun c4 => ?_)
  · replace h := iteT h c4
    refine g_ldc2 (v := (-4611686018427387904 : Int64)) (hd := e_P_lowest_58) cl_P_194 ?_
    exact p_retJ e_P_lowest_61.1 rfl h
  · replace h := iteF h c4
    refine g_lload 3 e_P_lowest_51 rfl ?_
    refine g_lconst (0 : Int64) e_P_lowest_53 (by decide) ?_
    refine g_l_ne (tgt := 62) e_P_lowest_54 e_P_lowest_55 rfl (fun c5 => ?_) (fun c5 => ?_)
    · replace h := iteF h c5
      refine g_iload 2 e_P_lowest_62 rfl ?_
      have hj : ∀ m0 : Int64, m0 = (if l4 = (0 : Int32) then l0 else l2) → Gp 1 M_P_lowest 72 [(0, .long (l0)), (2, .long (l2)), (4, .int (l4)), (5, .long (l5))] [.long (m0)] (v) (QJ Q) := by
        intro m0 hm0
        subst hm0
        refine g_lload 3 e_P_lowest_72 rfl ?_
        obtain ⟨h7, h⟩ := h
        refine g_ldiv e_P_lowest_74 h7 ?_
        exact p_retJ e_P_lowest_75.1 rfl h
      refine g_if_ne (tgt := 71) e_P_lowest_64 rfl (fun c6 => ?_) (fun c6 => ?_)
      · refine g_lload_n 1 e_P_lowest_71 rfl rfl ?_
        exact hj (l2) (by simp only [if_neg c6])
      · refine g_lload_n 0 e_P_lowest_67 rfl rfl ?_
        refine g_goto (tgt := 72) e_P_lowest_68 rfl ?_
        exact hj (l0) (by simp only [if_pos c6])
    · replace h := iteT h c5
      refine g_ldc2 (v := (-4611686018427387904 : Int64)) (hd := e_P_lowest_58) cl_P_194 ?_
      exact p_retJ e_P_lowest_61.1 rfl h
set_option maxHeartbeats 1000000 in
theorem s_P_clock {l1 : Int32} {l2 : Int32} {v : Vv} {Q : Int32 → Vv → Prop} (h : if l1 < (0 : Int32) then (Q ((-2 : Int32)) (v)) else (m_P_canBe (1 : Int32) (l1 / (10 : Int32)) (v) (fun x2 v3 => if x2 = true then (m_P_canBe (2 : Int32) (l1 % (10 : Int32)) (v3) (fun x5 v6 => if x5 = true then (m_P_canBe (0 : Int32) l2 (v6) (fun x8 v9 => if x8 = true then (if (v9).1 74 2 < (6 : Int32) then ((ib ((v9).1 74 2) 6) ∧ (Q ((sI (sI (sI (sI (sI (v9) (77 + ix ((v9).1 74 2)) 0 (l1 / (10 : Int32))) (77 + ix ((v9).1 74 2)) 2 (l1 % (10 : Int32))) (77 + ix ((v9).1 74 2)) 1 l2) (77 + ix ((v9).1 74 2)) 3 (-1 : Int32)) 1 12 (1 : Int32)).1 74 2) (sI (sI (sI (sI (sI (sI (v9) (77 + ix ((v9).1 74 2)) 0 (l1 / (10 : Int32))) (77 + ix ((v9).1 74 2)) 2 (l1 % (10 : Int32))) (77 + ix ((v9).1 74 2)) 1 l2) (77 + ix ((v9).1 74 2)) 3 (-1 : Int32)) 1 12 (1 : Int32)) 74 2 ((sI (sI (sI (sI (sI (v9) (77 + ix ((v9).1 74 2)) 0 (l1 / (10 : Int32))) (77 + ix ((v9).1 74 2)) 2 (l1 % (10 : Int32))) (77 + ix ((v9).1 74 2)) 1 l2) (77 + ix ((v9).1 74 2)) 3 (-1 : Int32)) 1 12 (1 : Int32)).1 74 2 + (1 : Int32))))) else (Q ((-4 : Int32)) (v9))) else (Q ((-2 : Int32)) (v9)))) else (Q ((-2 : Int32)) (v6)))) else (Q ((-2 : Int32)) (v3))))) : m_P_clock l1 l2 v Q := by
  refine cp_go (Nat.le_of_ble_eq_true rfl) (by decide +kernel) ?_
  show Gp 2 M_P_clock 0 [(0, .ref (0)), (1, .int (l1)), (2, .int (l2))] [] v (QI Q)
  refine g_iload_n 1 e_P_clock_0 rfl rfl ?_
  refine g_if_lt (tgt := 34) e_P_clock_1 rfl (fun c1 => ?_) (fun c1 => ?_)
  · replace h := iteT h c1
    refine g_bipush (-2 : Int32) e_P_clock_34 (by decide) ?_
    exact p_retI e_P_clock_36.1 rfl h
  · replace h := iteF h c1
    refine g_iconst (1 : Int32) e_P_clock_4 (by decide) ?_
    refine g_iload_n 1 e_P_clock_5 rfl rfl ?_
    refine g_bipush (10 : Int32) e_P_clock_6 (by decide) ?_
    refine g_idiv e_P_clock_8 (by decide) ?_
    refine p_callSZ (d' := 1) (As := [.int ((1 : Int32)), .int ((l1 / (10 : Int32)))]) (rest := []) e_P_clock_9 zm_P_canBe lS_P_77 rfl rfl (Nat.le_of_ble_eq_true rfl) (by decide) ?_
    refine cp_mono h (fun _ v3 ⟨x2, e1, h⟩ => ⟨x2, e1, ?_⟩)
    refine p_ifz_eq (tgt := 34) e_P_clock_12 rfl (fun c4 => ?_) (fun c4 => ?_)
    · replace h := iteF h c4
      refine g_bipush (-2 : Int32) e_P_clock_34 (by decide) ?_
      exact p_retI e_P_clock_36.1 rfl h
    · replace h := iteT h c4
      refine g_iconst (2 : Int32) e_P_clock_15 (by decide) ?_
      refine g_iload_n 1 e_P_clock_16 rfl rfl ?_
      refine g_bipush (10 : Int32) e_P_clock_17 (by decide) ?_
      refine g_irem e_P_clock_19 (by decide) ?_
      refine p_callSZ (d' := 1) (As := [.int ((2 : Int32)), .int ((l1 % (10 : Int32)))]) (rest := []) e_P_clock_20 zm_P_canBe lS_P_77 rfl rfl (Nat.le_of_ble_eq_true rfl) (by decide) ?_
      refine cp_mono h (fun _ v6 ⟨x5, e1, h⟩ => ⟨x5, e1, ?_⟩)
      refine p_ifz_eq (tgt := 34) e_P_clock_23 rfl (fun c7 => ?_) (fun c7 => ?_)
      · replace h := iteF h c7
        refine g_bipush (-2 : Int32) e_P_clock_34 (by decide) ?_
        exact p_retI e_P_clock_36.1 rfl h
      · replace h := iteT h c7
        refine g_iconst (0 : Int32) e_P_clock_26 (by decide) ?_
        refine g_iload_n 2 e_P_clock_27 rfl rfl ?_
        refine p_callSZ (d' := 1) (As := [.int ((0 : Int32)), .int (l2)]) (rest := []) e_P_clock_28 zm_P_canBe lS_P_77 rfl rfl (Nat.le_of_ble_eq_true rfl) (by decide) ?_
        refine cp_mono h (fun _ v9 ⟨x8, e1, h⟩ => ⟨x8, e1, ?_⟩)
        refine p_ifz_ne (tgt := 37) e_P_clock_31 rfl (fun c10 => ?_) (fun c10 => ?_)
        · replace h := iteT h c10
          refine g_aload_n 0 e_P_clock_37 rfl rfl ?_
          refine p_getR (j := 74) e_P_clock_38 sh_0 fl_P_20 rfl (rf_0_1 _) ?_
          refine p_getI e_P_clock_41 sh_74 fl_P_81 rfl ?_
          refine g_bipush (6 : Int32) e_P_clock_44 (by decide) ?_
          refine g_icmp_lt (tgt := 52) e_P_clock_46 rfl (fun c11 => ?_) (fun c11 => ?_)
          · replace h := iteT h c11
            refine g_aload_n 0 e_P_clock_52 rfl rfl ?_
            refine p_getR (j := 74) e_P_clock_53 sh_0 fl_P_20 rfl (rf_0_1 _) ?_
            refine p_getR (j := 75) e_P_clock_56 sh_74 fl_P_84 rfl (rf_74_0 _) ?_
            refine g_aload_n 0 e_P_clock_59 rfl rfl ?_
            refine p_getR (j := 74) e_P_clock_60 sh_0 fl_P_20 rfl (rf_0_1 _) ?_
            refine p_getI e_P_clock_63 sh_74 fl_P_81 rfl ?_
            obtain ⟨h12, h⟩ := h
            refine p_aald (j := (77 + ix ((v9).1 74 2))) e_P_clock_66 sh_75 (by decide) rfl h12 (el_74c h12 _) ?_
            refine g_astore_n (L' := [(3, .ref ((77 + ix ((v9).1 74 2)))), (0, .ref (0)), (1, .int (l1)), (2, .int (l2))]) e_P_clock_67 rfl (by decide) rfl ?_
            refine g_aload_n 0 e_P_clock_68 rfl rfl ?_
            refine g_iload_n 2 e_P_clock_69 rfl rfl ?_
            refine g_bipush (10 : Int32) e_P_clock_70 (by decide) ?_
            refine g_idiv e_P_clock_72 (by decide) ?_
            refine p_putI e_P_clock_73 (isClock_o (el_74c_k h12)) fp_P_88 rfl rfl rfl ?_
            refine g_aload_n 0 e_P_clock_76 rfl rfl ?_
            refine g_iload_n 2 e_P_clock_77 rfl rfl ?_
            refine g_bipush (10 : Int32) e_P_clock_78 (by decide) ?_
            refine g_irem e_P_clock_80 (by decide) ?_
            refine p_putI e_P_clock_81 (isClock_o (el_74c_k h12)) fp_P_93 rfl rfl rfl ?_
            refine g_aload_n 0 e_P_clock_84 rfl rfl ?_
            refine g_iload_n 3 e_P_clock_85 rfl rfl ?_
            refine p_putI e_P_clock_86 (isClock_o (el_74c_k h12)) fp_P_96 rfl rfl rfl ?_
            refine g_aload_n 0 e_P_clock_89 rfl rfl ?_
            refine g_iconst (-1 : Int32) e_P_clock_90 (by decide) ?_
            refine p_putI e_P_clock_91 (isClock_o (el_74c_k h12)) fp_P_99 rfl rfl rfl ?_
            refine g_aload_n 1 e_P_clock_94 rfl rfl ?_
            refine p_getR (j := 1) e_P_clock_95 sh_0 fl_P_10 rfl (rf_0_0 _) ?_
            refine g_iconst (1 : Int32) e_P_clock_98 (by decide) ?_
            refine p_putI e_P_clock_99 sh_1 fp_P_102 rfl rfl rfl ?_
            refine g_aload_n 1 e_P_clock_102 rfl rfl ?_
            refine p_getR (j := 74) e_P_clock_103 sh_0 fl_P_20 rfl (rf_0_1 _) ?_
            refine g_dup e_P_clock_106 rfl ?_
            refine p_getI e_P_clock_107 sh_74 fl_P_81 rfl ?_
            refine g_dup_x1 e_P_clock_110 rfl rfl ?_
            refine g_iconst (1 : Int32) e_P_clock_111 (by decide) ?_
            refine g_iadd e_P_clock_112 ?_
            refine p_putI e_P_clock_113 sh_74 fp_P_81 rfl rfl rfl ?_
            exact p_retI e_P_clock_116.1 rfl h
          · replace h := iteF h c11
            refine g_bipush (-4 : Int32) e_P_clock_49 (by decide) ?_
            exact p_retI e_P_clock_51.1 rfl h
        · replace h := iteF h c10
          refine g_bipush (-2 : Int32) e_P_clock_34 (by decide) ?_
          exact p_retI e_P_clock_36.1 rfl h
set_option maxHeartbeats 1000000 in
theorem s_P_doer {l1 : Int32} {l2 : Int32} {l3 : Int32} {v : Vv} {Q : Int32 → Vv → Prop} (h : m_P_isKind l1 (v) (fun x1 v2 => if x1 = true then (m_P_canBe (4 : Int32) l2 (v2) (fun x4 v5 => if x4 = true then (m_P_canBe (5 : Int32) l3 (v5) (fun x7 v8 => if x7 = true then (if (v8).1 74 3 < (5 : Int32) then ((ib ((v8).1 74 3) 5) ∧ (Q ((sI (sI (sI (sI (v8) (83 + ix ((v8).1 74 3)) 0 l1) (83 + ix ((v8).1 74 3)) 1 l2) (83 + ix ((v8).1 74 3)) 2 l3) 1 12 (1 : Int32)).1 74 3) (sI (sI (sI (sI (sI (v8) (83 + ix ((v8).1 74 3)) 0 l1) (83 + ix ((v8).1 74 3)) 1 l2) (83 + ix ((v8).1 74 3)) 2 l3) 1 12 (1 : Int32)) 74 3 ((sI (sI (sI (sI (v8) (83 + ix ((v8).1 74 3)) 0 l1) (83 + ix ((v8).1 74 3)) 1 l2) (83 + ix ((v8).1 74 3)) 2 l3) 1 12 (1 : Int32)).1 74 3 + (1 : Int32))))) else (Q ((-4 : Int32)) (v8))) else (Q ((-2 : Int32)) (v8)))) else (Q ((-2 : Int32)) (v5)))) else (Q ((-2 : Int32)) (v2)))) : m_P_doer l1 l2 l3 v Q := by
  refine cp_go (Nat.le_of_ble_eq_true rfl) (by decide +kernel) ?_
  show Gp 2 M_P_doer 0 [(0, .ref (0)), (1, .int (l1)), (2, .int (l2)), (3, .int (l3))] [] v (QI Q)
  refine g_iload_n 1 e_P_doer_0 rfl rfl ?_
  refine p_callSZ (d' := 1) (As := [.int (l1)]) (rest := []) e_P_doer_1 zm_P_isKind lS_P_105 rfl rfl (Nat.le_of_ble_eq_true rfl) (by decide) ?_
  refine cp_mono h (fun _ v2 ⟨x1, e1, h⟩ => ⟨x1, e1, ?_⟩)
  refine p_ifz_eq (tgt := 23) e_P_doer_4 rfl (fun c3 => ?_) (fun c3 => ?_)
  · replace h := iteF h c3
    refine g_bipush (-2 : Int32) e_P_doer_23 (by decide) ?_
    exact p_retI e_P_doer_25.1 rfl h
  · replace h := iteT h c3
    refine g_iconst (4 : Int32) e_P_doer_7 (by decide) ?_
    refine g_iload_n 2 e_P_doer_8 rfl rfl ?_
    refine p_callSZ (d' := 1) (As := [.int ((4 : Int32)), .int (l2)]) (rest := []) e_P_doer_9 zm_P_canBe lS_P_77 rfl rfl (Nat.le_of_ble_eq_true rfl) (by decide) ?_
    refine cp_mono h (fun _ v5 ⟨x4, e1, h⟩ => ⟨x4, e1, ?_⟩)
    refine p_ifz_eq (tgt := 23) e_P_doer_12 rfl (fun c6 => ?_) (fun c6 => ?_)
    · replace h := iteF h c6
      refine g_bipush (-2 : Int32) e_P_doer_23 (by decide) ?_
      exact p_retI e_P_doer_25.1 rfl h
    · replace h := iteT h c6
      refine g_iconst (5 : Int32) e_P_doer_15 (by decide) ?_
      refine g_iload_n 3 e_P_doer_16 rfl rfl ?_
      refine p_callSZ (d' := 1) (As := [.int ((5 : Int32)), .int (l3)]) (rest := []) e_P_doer_17 zm_P_canBe lS_P_77 rfl rfl (Nat.le_of_ble_eq_true rfl) (by decide) ?_
      refine cp_mono h (fun _ v8 ⟨x7, e1, h⟩ => ⟨x7, e1, ?_⟩)
      refine p_ifz_ne (tgt := 26) e_P_doer_20 rfl (fun c9 => ?_) (fun c9 => ?_)
      · replace h := iteT h c9
        refine g_aload_n 0 e_P_doer_26 rfl rfl ?_
        refine p_getR (j := 74) e_P_doer_27 sh_0 fl_P_20 rfl (rf_0_1 _) ?_
        refine p_getI e_P_doer_30 sh_74 fl_P_109 rfl ?_
        refine g_iconst (5 : Int32) e_P_doer_33 (by decide) ?_
        refine g_icmp_lt (tgt := 40) e_P_doer_34 rfl (fun c10 => ?_) (fun c10 => ?_)
        · replace h := iteT h c10
          refine g_aload_n 0 e_P_doer_40 rfl rfl ?_
          refine p_getR (j := 74) e_P_doer_41 sh_0 fl_P_20 rfl (rf_0_1 _) ?_
          refine p_getR (j := 76) e_P_doer_44 sh_74 fl_P_112 rfl (rf_74_1 _) ?_
          refine g_aload_n 0 e_P_doer_47 rfl rfl ?_
          refine p_getR (j := 74) e_P_doer_48 sh_0 fl_P_20 rfl (rf_0_1 _) ?_
          refine p_getI e_P_doer_51 sh_74 fl_P_109 rfl ?_
          obtain ⟨h11, h⟩ := h
          refine p_aald (j := (83 + ix ((v8).1 74 3))) e_P_doer_54 sh_76 (by decide) rfl h11 (el_74d h11 _) ?_
          refine g_astore (L' := [(4, .ref ((83 + ix ((v8).1 74 3)))), (0, .ref (0)), (1, .int (l1)), (2, .int (l2)), (3, .int (l3))]) e_P_doer_55 (by decide) rfl ?_
          refine g_aload 0 e_P_doer_57 rfl ?_
          refine g_iload_n 2 e_P_doer_59 rfl rfl ?_
          refine p_putI e_P_doer_60 (isDoer_o (el_74d_k h11)) fp_P_116 rfl rfl rfl ?_
          refine g_aload 0 e_P_doer_63 rfl ?_
          refine g_iload_n 3 e_P_doer_65 rfl rfl ?_
          refine p_putI e_P_doer_66 (isDoer_o (el_74d_k h11)) fp_P_121 rfl rfl rfl ?_
          refine g_aload 0 e_P_doer_69 rfl ?_
          refine g_iload_n 4 e_P_doer_71 rfl rfl ?_
          refine p_putI e_P_doer_72 (isDoer_o (el_74d_k h11)) fp_P_124 rfl rfl rfl ?_
          refine g_aload_n 1 e_P_doer_75 rfl rfl ?_
          refine p_getR (j := 1) e_P_doer_76 sh_0 fl_P_10 rfl (rf_0_0 _) ?_
          refine g_iconst (1 : Int32) e_P_doer_79 (by decide) ?_
          refine p_putI e_P_doer_80 sh_1 fp_P_102 rfl rfl rfl ?_
          refine g_aload_n 1 e_P_doer_83 rfl rfl ?_
          refine p_getR (j := 74) e_P_doer_84 sh_0 fl_P_20 rfl (rf_0_1 _) ?_
          refine g_dup e_P_doer_87 rfl ?_
          refine p_getI e_P_doer_88 sh_74 fl_P_109 rfl ?_
          refine g_dup_x1 e_P_doer_91 rfl rfl ?_
          refine g_iconst (1 : Int32) e_P_doer_92 (by decide) ?_
          refine g_iadd e_P_doer_93 ?_
          refine p_putI e_P_doer_94 sh_74 fp_P_109 rfl rfl rfl ?_
          exact p_retI e_P_doer_97.1 rfl h
        · replace h := iteF h c10
          refine g_bipush (-4 : Int32) e_P_doer_37 (by decide) ?_
          exact p_retI e_P_doer_39.1 rfl h
      · replace h := iteF h c9
        refine g_bipush (-2 : Int32) e_P_doer_23 (by decide) ?_
        exact p_retI e_P_doer_25.1 rfl h
set_option maxHeartbeats 1000000 in
theorem s_P_count {l1 : Int32} {v : Vv} {Q : Int32 → Vv → Prop} (h : if l1 = (0 : Int32) then (Q ((v).1 74 2) (v)) else (if l1 = (1 : Int32) then (Q ((v).1 74 3) (v)) else (if l1 = (2 : Int32) then (m_H_seen 74 (v) (fun x4 v5 => Q (x4) (v5))) else (if l1 = (3 : Int32) then (Q ((v).1 0 5) (v)) else (if l1 = (4 : Int32) then (Q ((v).1 0 7) (v)) else (if l1 = (5 : Int32) then (Q ((v).1 74 4) (v)) else (Q ((-2 : Int32)) (v)))))))) : m_P_count l1 v Q := by
  refine cp_go (Nat.le_of_ble_eq_true rfl) (by decide +kernel) ?_
  show Gp 2 M_P_count 0 [(0, .ref (0)), (1, .int (l1))] [] v (QI Q)
  refine g_iload_n 1 e_P_count_0 rfl rfl ?_
  by_cases c1 : l1 = (0 : Int32)
  · replace h := iteT h c1
    refine g_tsw (tgt := 40) e_P_count_1 (0 : Int32) c1 (by decide) (by decide) rfl rfl ?_
    refine g_aload_n 0 e_P_count_40 rfl rfl ?_
    refine p_getR (j := 74) e_P_count_41 sh_0 fl_P_20 rfl (rf_0_1 _) ?_
    refine p_getI e_P_count_44 sh_74 fl_P_81 rfl ?_
    exact p_retI e_P_count_47.1 rfl h
  · replace h := iteF h c1
    by_cases c2 : l1 = (1 : Int32)
    · replace h := iteT h c2
      refine g_tsw (tgt := 48) e_P_count_1 (1 : Int32) c2 (by decide) (by decide) rfl rfl ?_
      refine g_aload_n 0 e_P_count_48 rfl rfl ?_
      refine p_getR (j := 74) e_P_count_49 sh_0 fl_P_20 rfl (rf_0_1 _) ?_
      refine p_getI e_P_count_52 sh_74 fl_P_109 rfl ?_
      exact p_retI e_P_count_55.1 rfl h
    · replace h := iteF h c2
      by_cases c3 : l1 = (2 : Int32)
      · replace h := iteT h c3
        refine g_tsw (tgt := 56) e_P_count_1 (2 : Int32) c3 (by decide) (by decide) rfl rfl ?_
        refine g_aload_n 0 e_P_count_56 rfl rfl ?_
        refine p_getR (j := 74) e_P_count_57 sh_0 fl_P_20 rfl (rf_0_1 _) ?_
        refine p_callVI (d' := 1) (ci := 2) (r := (RX2, TX2, 5)) (As := []) (rest := []) e_P_count_60 zm_H_seen lV_P_276 sh_74 rfl rfl rfl rfl (Nat.le_of_ble_eq_true rfl) (by decide) ?_
        refine cp_mono h (fun _ v5 ⟨x4, e1, h⟩ => ⟨x4, e1, ?_⟩)
        exact p_retI e_P_count_63.1 rfl h
      · replace h := iteF h c3
        by_cases c6 : l1 = (3 : Int32)
        · replace h := iteT h c6
          refine g_tsw (tgt := 64) e_P_count_1 (3 : Int32) c6 (by decide) (by decide) rfl rfl ?_
          refine g_aload_n 0 e_P_count_64 rfl rfl ?_
          refine p_getI e_P_count_65 sh_0 fl_P_37 rfl ?_
          exact p_retI e_P_count_68.1 rfl h
        · replace h := iteF h c6
          by_cases c7 : l1 = (4 : Int32)
          · replace h := iteT h c7
            refine g_tsw (tgt := 69) e_P_count_1 (4 : Int32) c7 (by decide) (by decide) rfl rfl ?_
            refine g_aload_n 0 e_P_count_69 rfl rfl ?_
            refine p_getI e_P_count_70 sh_0 fl_P_45 rfl ?_
            exact p_retI e_P_count_73.1 rfl h
          · replace h := iteF h c7
            by_cases c8 : l1 = (5 : Int32)
            · replace h := iteT h c8
              refine g_tsw (tgt := 74) e_P_count_1 (5 : Int32) c8 (by decide) (by decide) rfl rfl ?_
              refine g_aload_n 0 e_P_count_74 rfl rfl ?_
              refine p_getR (j := 74) e_P_count_75 sh_0 fl_P_20 rfl (rf_0_1 _) ?_
              refine p_getI e_P_count_78 sh_74 fl_P_162 rfl ?_
              exact p_retI e_P_count_81.1 rfl h
            · replace h := iteF h c8
              refine g_tsd (tgt := 82) [(0 : Int32), (1 : Int32), (2 : Int32), (3 : Int32), (4 : Int32), (5 : Int32)] e_P_count_1 (List.forall_mem_cons.mpr ⟨c1, (List.forall_mem_cons.mpr ⟨c2, (List.forall_mem_cons.mpr ⟨c3, (List.forall_mem_cons.mpr ⟨c6, (List.forall_mem_cons.mpr ⟨c7, (List.forall_mem_cons.mpr ⟨c8, (fun _ h => absurd h List.not_mem_nil)⟩)⟩)⟩)⟩)⟩)⟩) (by decide) rfl ?_
              refine g_bipush (-2 : Int32) e_P_count_82 (by decide) ?_
              exact p_retI e_P_count_84.1 rfl h
set_option maxHeartbeats 1000000 in
theorem s_P_bounded {l0 : Int32} {l1 : Int32} {l2 : Int32} {v : Vv} {Q : Int32 → Vv → Prop} (h : m_JM_min l2 l0 (v) (fun x1 v2 => m_JM_max_III l1 x1 (v2) (fun x3 v4 => Q (x3) (v4)))) : m_P_bounded l0 l1 l2 v Q := by
  refine cp_go (Nat.le_of_ble_eq_true rfl) (by decide +kernel) ?_
  show Gp 2 M_P_bounded 0 [(0, .int (l0)), (1, .int (l1)), (2, .int (l2))] [] v (QI Q)
  refine g_iload_n 1 e_P_bounded_0 rfl rfl ?_
  refine g_iload_n 2 e_P_bounded_1 rfl rfl ?_
  refine g_iload_n 0 e_P_bounded_2 rfl rfl ?_
  refine p_callSI (d' := 1) (As := [.int (l2), .int (l0)]) (rest := [.int (l1)]) e_P_bounded_3 zm_JM_min lS_P_310 rfl rfl (Nat.le_of_ble_eq_true rfl) (by decide) ?_
  refine cp_mono h (fun _ v2 ⟨x1, e1, h⟩ => ⟨x1, e1, ?_⟩)
  refine p_callSI (d' := 1) (As := [.int (l1), .int (x1)]) (rest := []) e_P_bounded_6 zm_JM_max_III lS_P_315 rfl rfl (Nat.le_of_ble_eq_true rfl) (by decide) ?_
  refine cp_mono h (fun _ v4 ⟨x3, e1, h⟩ => ⟨x3, e1, ?_⟩)
  exact p_retI e_P_bounded_9.1 rfl h
set_option maxHeartbeats 1000000 in
theorem s_P_set {l1 : Int32} {l2 : Int32} {l3 : Int32} {v : Vv} {Q : Int32 → Vv → Prop} (h : m_P_canBe l1 l3 (v) (fun x1 v2 => if x1 = true then (if (3 : Int32) < l1 then (m_P_isDoer l2 (v2) (fun x5 v6 => if x5 = true then (k_P_set_36 (l1) (l2) (l3) (v6) Q) else (Q ((-1000 : Int32)) (v6)))) else (m_P_isClock l2 (v2) (fun x8 v9 => if x8 = true then (k_P_set_36 (l1) (l2) (l3) (v9) Q) else (Q ((-1000 : Int32)) (v9))))) else (Q ((-1000 : Int32)) (v2)))) : m_P_set l1 l2 l3 v Q := by
  refine cp_go (Nat.le_of_ble_eq_true rfl) (by decide +kernel) ?_
  show Gp 3 M_P_set 0 [(0, .ref (0)), (1, .int (l1)), (2, .int (l2)), (3, .int (l3))] [] v (QI Q)
  refine g_iload_n 1 e_P_set_0 rfl rfl ?_
  refine g_iload_n 3 e_P_set_1 rfl rfl ?_
  refine p_callSZ (d' := 1) (As := [.int (l1), .int (l3)]) (rest := []) e_P_set_2 zm_P_canBe lS_P_77 rfl rfl (Nat.le_of_ble_eq_true rfl) (by decide) ?_
  refine cp_mono h (fun _ v2 ⟨x1, e1, h⟩ => ⟨x1, e1, ?_⟩)
  refine p_ifz_eq (tgt := 32) e_P_set_5 rfl (fun c3 => ?_) (fun c3 => ?_)
  · replace h := iteF h c3
    refine g_sipush (-1000 : Int32) e_P_set_32 (by decide) ?_
    exact p_retI e_P_set_35.1 rfl h
  · replace h := iteT h c3
    refine g_iload_n 1 e_P_set_8 rfl rfl ?_
    refine g_iconst (3 : Int32) e_P_set_9 (by decide) ?_
    refine g_icmp_gt (tgt := 24) e_P_set_10 rfl (fun c4 => ?_) (fun c4 => ?_)
    · replace h := iteT h c4
      refine g_aload_n 0 e_P_set_24 rfl rfl ?_
      refine g_iload_n 2 e_P_set_25 rfl rfl ?_
      refine p_callVZ (d' := 1) (ci := 9) (r := (RX9, TX9, 11)) (As := [.int (l2)]) (rest := []) e_P_set_26 zm_P_isDoer lV_P_130 sh_0 rfl rfl rfl rfl (Nat.le_of_ble_eq_true rfl) (by decide) ?_
      refine cp_mono h (fun _ v6 ⟨x5, e1, h⟩ => ⟨x5, e1, ?_⟩)
      refine p_ifz_ne (tgt := 36) e_P_set_29 rfl (fun c7 => ?_) (fun c7 => ?_)
      · replace h := iteT h c7
        exact g_sub [0, 1, 2, 3] rfl h
      · replace h := iteF h c7
        refine g_sipush (-1000 : Int32) e_P_set_32 (by decide) ?_
        exact p_retI e_P_set_35.1 rfl h
    · replace h := iteF h c4
      refine g_aload_n 0 e_P_set_13 rfl rfl ?_
      refine g_iload_n 2 e_P_set_14 rfl rfl ?_
      refine p_callVZ (d' := 1) (ci := 9) (r := (RX9, TX9, 11)) (As := [.int (l2)]) (rest := []) e_P_set_15 zm_P_isClock lV_P_127 sh_0 rfl rfl rfl rfl (Nat.le_of_ble_eq_true rfl) (by decide) ?_
      refine cp_mono h (fun _ v9 ⟨x8, e1, h⟩ => ⟨x8, e1, ?_⟩)
      refine p_ifz_eq (tgt := 32) e_P_set_18 rfl (fun c10 => ?_) (fun c10 => ?_)
      · replace h := iteF h c10
        refine g_sipush (-1000 : Int32) e_P_set_32 (by decide) ?_
        exact p_retI e_P_set_35.1 rfl h
      · replace h := iteT h c10
        refine g_goto (tgt := 36) e_P_set_21 rfl ?_
        exact g_sub [0, 1, 2, 3] rfl h
set_option maxHeartbeats 1000000 in
theorem s_P_set_36 {l1 : Int32} {l2 : Int32} {l3 : Int32} {v : Vv} {Q : Int32 → Vv → Prop} (h : if (3 : Int32) < l1 then ((ib (l2) 5) ∧ (m_D_put (83 + ix (l2)) l1 l3 (sI (v) 1 12 (1 : Int32)) (fun x13 v14 => Q (x13) (v14)))) else ((ib (l2) 6) ∧ (m_C_put (77 + ix (l2)) l1 l3 (sI (v) 1 12 (1 : Int32)) (fun x16 v17 => Q (x16) (v17))))) : k_P_set_36 l1 l2 l3 v Q := by
  show Gp 3 M_P_set 36 [(0, .ref (0)), (1, .int (l1)), (2, .int (l2)), (3, .int (l3))] [] v (QI Q)
  refine g_aload_n 0 e_P_set_36 rfl rfl ?_
  refine p_getR (j := 1) e_P_set_37 sh_0 fl_P_10 rfl (rf_0_0 _) ?_
  refine g_iconst (1 : Int32) e_P_set_40 (by decide) ?_
  refine p_putI e_P_set_41 sh_1 fp_P_102 rfl rfl rfl ?_
  refine g_iload_n 1 e_P_set_44 rfl rfl ?_
  refine g_iconst (3 : Int32) e_P_set_45 (by decide) ?_
  refine g_icmp_gt (tgt := 66) e_P_set_46 rfl (fun c11 => ?_) (fun c11 => ?_)
  · replace h := iteT h c11
    refine g_aload_n 0 e_P_set_66 rfl rfl ?_
    refine p_getR (j := 74) e_P_set_67 sh_0 fl_P_20 rfl (rf_0_1 _) ?_
    refine p_getR (j := 76) e_P_set_70 sh_74 fl_P_112 rfl (rf_74_1 _) ?_
    refine g_iload_n 2 e_P_set_73 rfl rfl ?_
    obtain ⟨h12, h⟩ := h
    refine p_aald (j := (83 + ix (l2))) e_P_set_74 sh_76 (by decide) rfl h12 (el_74d h12 _) ?_
    refine g_iload_n 1 e_P_set_75 rfl rfl ?_
    refine g_iload_n 3 e_P_set_76 rfl rfl ?_
    refine p_callVI (d' := 2) (ci := 1) (r := (RX1, TX1, 3)) (As := [.int (l1), .int (l3)]) (rest := []) e_P_set_77 zm_D_put lV_P_137 (isDoer_o (el_74d_k h12)) rfl rfl rfl rfl (Nat.le_of_ble_eq_true rfl) (by decide) ?_
    refine cp_mono h (fun _ v14 ⟨x13, e1, h⟩ => ⟨x13, e1, ?_⟩)
    exact p_retI e_P_set_80.1 rfl h
  · replace h := iteF h c11
    refine g_aload_n 0 e_P_set_49 rfl rfl ?_
    refine p_getR (j := 74) e_P_set_50 sh_0 fl_P_20 rfl (rf_0_1 _) ?_
    refine p_getR (j := 75) e_P_set_53 sh_74 fl_P_84 rfl (rf_74_0 _) ?_
    refine g_iload_n 2 e_P_set_56 rfl rfl ?_
    obtain ⟨h15, h⟩ := h
    refine p_aald (j := (77 + ix (l2))) e_P_set_57 sh_75 (by decide) rfl h15 (el_74c h15 _) ?_
    refine g_iload_n 1 e_P_set_58 rfl rfl ?_
    refine g_iload_n 3 e_P_set_59 rfl rfl ?_
    refine p_callVI (d' := 2) (ci := 0) (r := (RX0, TX0, 4)) (As := [.int (l1), .int (l3)]) (rest := []) e_P_set_60 zm_C_put lV_P_133 (isClock_o (el_74c_k h15)) rfl rfl rfl rfl (Nat.le_of_ble_eq_true rfl) (by decide) ?_
    refine cp_mono h (fun _ v17 ⟨x16, e1, h⟩ => ⟨x16, e1, ?_⟩)
    refine g_goto (tgt := 80) e_P_set_63 rfl ?_
    exact p_retI e_P_set_80.1 rfl h
set_option maxHeartbeats 1000000 in
theorem s_P_image  {v : Vv} {Q : Int32 → Vv → Prop} (h : m_H_become 92 74 (v) (fun v2 => Q ((sI (v2) 0 3 (1 : Int32)).1 92 2) (sI (v2) 0 3 (1 : Int32)))) : m_P_image  v Q := by
  refine cp_go (Nat.le_of_ble_eq_true rfl) (by decide +kernel) ?_
  show Gp 3 M_P_image 0 [(0, .ref (0))] [] v (QI Q)
  refine g_aload_n 0 e_P_image_0 rfl rfl ?_
  refine p_getR (j := 92) e_P_image_1 sh_0 fl_P_24 rfl (rf_0_2 _) ?_
  refine g_aload_n 0 e_P_image_4 rfl rfl ?_
  refine p_getR (j := 74) e_P_image_5 sh_0 fl_P_20 rfl (rf_0_1 _) ?_
  refine p_callVV (d' := 2) (ci := 2) (r := (RX2, TX2, 5)) (As := [.ref (74)]) (rest := []) e_P_image_8 zm_H_become lV_P_273 sh_92 rfl rfl rfl rfl (Nat.le_of_ble_eq_true rfl) (by decide) ?_
  refine cp_mono h (fun _ v2 ⟨e1, h⟩ => ⟨e1, ?_⟩)
  refine g_aload_n 0 e_P_image_11 rfl rfl ?_
  refine g_iconst (1 : Int32) e_P_image_12 (by decide) ?_
  refine p_putI e_P_image_13 sh_0 fp_P_27 rfl rfl rfl ?_
  refine g_aload_n 0 e_P_image_16 rfl rfl ?_
  refine p_getR (j := 92) e_P_image_17 sh_0 fl_P_24 rfl (rf_0_2 _) ?_
  refine p_getI e_P_image_20 sh_92 fl_P_81 rfl ?_
  exact p_retI e_P_image_23.1 rfl h
set_option maxHeartbeats 1000000 in
theorem s_P_back  {v : Vv} {Q : Int32 → Vv → Prop} (h : if (v).1 0 3 = (0 : Int32) then (Q ((-3 : Int32)) (v)) else (m_H_become 74 92 (v) (fun v3 => Q ((sI (v3) 1 12 (1 : Int32)).1 74 2) (sI (v3) 1 12 (1 : Int32))))) : m_P_back  v Q := by
  refine cp_go (Nat.le_of_ble_eq_true rfl) (by decide +kernel) ?_
  show Gp 3 M_P_back 0 [(0, .ref (0))] [] v (QI Q)
  refine g_aload_n 0 e_P_back_0 rfl rfl ?_
  refine p_getI e_P_back_1 sh_0 fl_P_27 rfl ?_
  refine g_if_ne (tgt := 10) e_P_back_4 rfl (fun c1 => ?_) (fun c1 => ?_)
  · replace h := iteF h c1
    refine g_aload_n 0 e_P_back_10 rfl rfl ?_
    refine p_getR (j := 74) e_P_back_11 sh_0 fl_P_20 rfl (rf_0_1 _) ?_
    refine g_aload_n 0 e_P_back_14 rfl rfl ?_
    refine p_getR (j := 92) e_P_back_15 sh_0 fl_P_24 rfl (rf_0_2 _) ?_
    refine p_callVV (d' := 2) (ci := 2) (r := (RX2, TX2, 5)) (As := [.ref (92)]) (rest := []) e_P_back_18 zm_H_become lV_P_273 sh_74 rfl rfl rfl rfl (Nat.le_of_ble_eq_true rfl) (by decide) ?_
    refine cp_mono h (fun _ v3 ⟨e1, h⟩ => ⟨e1, ?_⟩)
    refine g_aload_n 0 e_P_back_21 rfl rfl ?_
    refine p_getR (j := 1) e_P_back_22 sh_0 fl_P_10 rfl (rf_0_0 _) ?_
    refine g_iconst (1 : Int32) e_P_back_25 (by decide) ?_
    refine p_putI e_P_back_26 sh_1 fp_P_102 rfl rfl rfl ?_
    refine g_aload_n 0 e_P_back_29 rfl rfl ?_
    refine p_getR (j := 74) e_P_back_30 sh_0 fl_P_20 rfl (rf_0_1 _) ?_
    refine p_getI e_P_back_33 sh_74 fl_P_81 rfl ?_
    exact p_retI e_P_back_36.1 rfl h
  · replace h := iteT h c1
    refine g_bipush (-3 : Int32) e_P_back_7 (by decide) ?_
    exact p_retI e_P_back_9.1 rfl h
set_option maxHeartbeats 1000000 in
theorem s_P_cell {l1 : Int32} {l2 : Int32} {l3 : Int32} {v : Vv} {Q : Int32 → Vv → Prop} (h : m_P_isSheet l1 (v) (fun x1 v2 => if x1 = true then ((ib (l1) 4) ∧ (if (v2).1 (146 + 2 * ix (l1)) 1 = (-1 : Int32) then (Q ((-11 : Int32)) (v2)) else (m_S_holds (146 + 2 * ix (l1)) l2 (1 : Int32) (v2) (fun x6 v7 => if x6 = true then (m_S_put (146 + 2 * ix (l1)) l2 l3 (v7) (fun v10 => Q ((1 : Int32)) (v10))) else (Q ((-12 : Int32)) (v7)))))) else (Q ((-2 : Int32)) (v2)))) : m_P_cell l1 l2 l3 v Q := by
  refine cp_go (Nat.le_of_ble_eq_true rfl) (by decide +kernel) ?_
  show Gp 3 M_P_cell 0 [(0, .ref (0)), (1, .int (l1)), (2, .int (l2)), (3, .int (l3))] [] v (QI Q)
  refine g_iload_n 1 e_P_cell_0 rfl rfl ?_
  refine p_callSZ (d' := 1) (As := [.int (l1)]) (rest := []) e_P_cell_1 zm_P_isSheet lS_P_246 rfl rfl (Nat.le_of_ble_eq_true rfl) (by decide) ?_
  refine cp_mono h (fun _ v2 ⟨x1, e1, h⟩ => ⟨x1, e1, ?_⟩)
  refine p_ifz_ne (tgt := 10) e_P_cell_4 rfl (fun c3 => ?_) (fun c3 => ?_)
  · replace h := iteT h c3
    refine g_aload_n 0 e_P_cell_10 rfl rfl ?_
    refine p_getR (j := 121) e_P_cell_11 sh_0 fl_P_64 rfl (rf_0_10 _) ?_
    refine g_iload_n 1 e_P_cell_14 rfl rfl ?_
    obtain ⟨h4, h⟩ := h
    refine p_aald (j := (146 + 2 * ix (l1))) e_P_cell_15 sh_121 (by decide) rfl h4 (el_sh h4 _) ?_
    refine g_astore (L' := [(4, .ref ((146 + 2 * ix (l1)))), (0, .ref (0)), (1, .int (l1)), (2, .int (l2)), (3, .int (l3))]) e_P_cell_16 (by decide) rfl ?_
    refine g_aload 0 e_P_cell_18 rfl ?_
    refine p_getI e_P_cell_20 (isSheet_o (el_sh_k h4)) fl_P_249 rfl ?_
    refine g_iconst (-1 : Int32) e_P_cell_23 (by decide) ?_
    refine g_icmp_ne (tgt := 30) e_P_cell_24 rfl (fun c5 => ?_) (fun c5 => ?_)
    · replace h := iteF h c5
      refine g_aload 0 e_P_cell_30 rfl ?_
      refine g_iload_n 3 e_P_cell_32 rfl rfl ?_
      refine g_iconst (1 : Int32) e_P_cell_33 (by decide) ?_
      refine p_callVZ (d' := 1) (ci := 5) (r := (RX5, TX5, 3)) (As := [.int (l2), .int ((1 : Int32))]) (rest := []) e_P_cell_34 zm_S_holds lV_P_283 (isSheet_o (el_sh_k h4)) rfl rfl rfl rfl (Nat.le_of_ble_eq_true rfl) (by decide) ?_
      refine cp_mono h (fun _ v7 ⟨x6, e1, h⟩ => ⟨x6, e1, ?_⟩)
      refine p_ifz_ne (tgt := 43) e_P_cell_37 rfl (fun c8 => ?_) (fun c8 => ?_)
      · replace h := iteT h c8
        refine g_aload 0 e_P_cell_43 rfl ?_
        refine g_iload_n 3 e_P_cell_45 rfl rfl ?_
        refine g_iload_n 4 e_P_cell_46 rfl rfl ?_
        refine p_callVV (d' := 2) (ci := 5) (r := (RX5, TX5, 3)) (As := [.int (l2), .int (l3)]) (rest := []) e_P_cell_47 zm_S_put lV_P_268 (isSheet_o (el_sh_k h4)) rfl rfl rfl rfl (Nat.le_of_ble_eq_true rfl) (by decide) ?_
        refine cp_mono h (fun _ v10 ⟨e1, h⟩ => ⟨e1, ?_⟩)
        refine g_iconst (1 : Int32) e_P_cell_50 (by decide) ?_
        exact p_retI e_P_cell_51.1 rfl h
      · replace h := iteF h c8
        refine g_bipush (-12 : Int32) e_P_cell_40 (by decide) ?_
        exact p_retI e_P_cell_42.1 rfl h
    · replace h := iteT h c5
      refine g_bipush (-11 : Int32) e_P_cell_27 (by decide) ?_
      exact p_retI e_P_cell_29.1 rfl h
  · replace h := iteF h c3
    refine g_bipush (-2 : Int32) e_P_cell_7 (by decide) ?_
    exact p_retI e_P_cell_9.1 rfl h
set_option maxHeartbeats 1000000 in
theorem s_P_clocks {l1 : Int32} {l2 : Int32} {l3 : Int32} {l4 : Int32} {v : Vv} {Q : Int32 → Vv → Prop} (h : m_P_isSheet l1 (v) (fun x1 v2 => if x1 = true then (m_P_isSort l2 (v2) (fun x4 v5 => if x4 = true then (if l4 < (0 : Int32) then (Q ((-2 : Int32)) (v5)) else (if (6 : Int32) < l4 then (Q ((-2 : Int32)) (v5)) else ((ib (l1) 4) ∧ (if (v5).1 (146 + 2 * ix (l1)) 1 = (-1 : Int32) then (Q ((-11 : Int32)) (v5)) else (if (v5).1 (146 + 2 * ix (l1)) 1 = l2 then (k_P_clocks_67 (l3) (l4) ((146 + 2 * ix (l1))) ((0 : Int32)) ((0 : Int32)) (v5) Q) else (Q ((-13 : Int32)) (v5))))))) else (Q ((-2 : Int32)) (v5)))) else (Q ((-2 : Int32)) (v2)))) : m_P_clocks l1 l2 l3 l4 v Q := by
  refine cp_go (Nat.le_of_ble_eq_true rfl) (by decide +kernel) ?_
  show Gp 3 M_P_clocks 0 [(0, .ref (0)), (1, .int (l1)), (2, .int (l2)), (3, .int (l3)), (4, .int (l4))] [] v (QI Q)
  refine g_iload_n 1 e_P_clocks_0 rfl rfl ?_
  refine p_callSZ (d' := 1) (As := [.int (l1)]) (rest := []) e_P_clocks_1 zm_P_isSheet lS_P_246 rfl rfl (Nat.le_of_ble_eq_true rfl) (by decide) ?_
  refine cp_mono h (fun _ v2 ⟨x1, e1, h⟩ => ⟨x1, e1, ?_⟩)
  refine p_ifz_eq (tgt := 26) e_P_clocks_4 rfl (fun c3 => ?_) (fun c3 => ?_)
  · replace h := iteF h c3
    refine g_bipush (-2 : Int32) e_P_clocks_26 (by decide) ?_
    exact p_retI e_P_clocks_28.1 rfl h
  · replace h := iteT h c3
    refine g_iload_n 2 e_P_clocks_7 rfl rfl ?_
    refine p_callSZ (d' := 1) (As := [.int (l2)]) (rest := []) e_P_clocks_8 zm_P_isSort lS_P_280 rfl rfl (Nat.le_of_ble_eq_true rfl) (by decide) ?_
    refine cp_mono h (fun _ v5 ⟨x4, e1, h⟩ => ⟨x4, e1, ?_⟩)
    refine p_ifz_eq (tgt := 26) e_P_clocks_11 rfl (fun c6 => ?_) (fun c6 => ?_)
    · replace h := iteF h c6
      refine g_bipush (-2 : Int32) e_P_clocks_26 (by decide) ?_
      exact p_retI e_P_clocks_28.1 rfl h
    · replace h := iteT h c6
      refine g_iload 4 e_P_clocks_14 rfl ?_
      refine g_if_lt (tgt := 26) e_P_clocks_16 rfl (fun c7 => ?_) (fun c7 => ?_)
      · replace h := iteT h c7
        refine g_bipush (-2 : Int32) e_P_clocks_26 (by decide) ?_
        exact p_retI e_P_clocks_28.1 rfl h
      · replace h := iteF h c7
        refine g_iload 4 e_P_clocks_19 rfl ?_
        refine g_bipush (6 : Int32) e_P_clocks_21 (by decide) ?_
        refine g_icmp_le (tgt := 29) e_P_clocks_23 rfl (fun c8 => ?_) (fun c8 => ?_)
        · replace h := iteF h c8
          refine g_aload_n 0 e_P_clocks_29 rfl rfl ?_
          refine p_getR (j := 121) e_P_clocks_30 sh_0 fl_P_64 rfl (rf_0_10 _) ?_
          refine g_iload_n 1 e_P_clocks_33 rfl rfl ?_
          obtain ⟨h9, h⟩ := h
          refine p_aald (j := (146 + 2 * ix (l1))) e_P_clocks_34 sh_121 (by decide) rfl h9 (el_sh h9 _) ?_
          refine g_astore (L' := [(5, .ref ((146 + 2 * ix (l1)))), (0, .ref (0)), (1, .int (l1)), (2, .int (l2)), (3, .int (l3)), (4, .int (l4))]) e_P_clocks_35 (by decide) rfl ?_
          refine g_aload 0 e_P_clocks_37 rfl ?_
          refine p_getI e_P_clocks_39 (isSheet_o (el_sh_k h9)) fl_P_249 rfl ?_
          refine g_iconst (-1 : Int32) e_P_clocks_42 (by decide) ?_
          refine g_icmp_ne (tgt := 49) e_P_clocks_43 rfl (fun c10 => ?_) (fun c10 => ?_)
          · replace h := iteF h c10
            refine g_aload 0 e_P_clocks_49 rfl ?_
            refine p_getI e_P_clocks_51 (isSheet_o (el_sh_k h9)) fl_P_249 rfl ?_
            refine g_iload_n 3 e_P_clocks_54 rfl rfl ?_
            refine g_icmp_eq (tgt := 61) e_P_clocks_55 rfl (fun c11 => ?_) (fun c11 => ?_)
            · replace h := iteT h c11
              refine g_iconst (0 : Int32) e_P_clocks_61 (by decide) ?_
              refine g_istore (L' := [(6, .int ((0 : Int32))), (5, .ref ((146 + 2 * ix (l1)))), (0, .ref (0)), (1, .int (l1)), (2, .int (l2)), (3, .int (l3)), (4, .int (l4))]) e_P_clocks_62 (by decide) rfl ?_
              refine g_iconst (0 : Int32) e_P_clocks_64 (by decide) ?_
              refine g_istore (L' := [(7, .int ((0 : Int32))), (6, .int ((0 : Int32))), (5, .ref ((146 + 2 * ix (l1)))), (0, .ref (0)), (1, .int (l1)), (2, .int (l2)), (3, .int (l3)), (4, .int (l4))]) e_P_clocks_65 (by decide) rfl ?_
              exact g_sub [3, 6, 7, 2, 1, 0] rfl h
            · replace h := iteF h c11
              refine g_bipush (-13 : Int32) e_P_clocks_58 (by decide) ?_
              exact p_retI e_P_clocks_60.1 rfl h
          · replace h := iteT h c10
            refine g_bipush (-11 : Int32) e_P_clocks_46 (by decide) ?_
            exact p_retI e_P_clocks_48.1 rfl h
        · replace h := iteT h c8
          refine g_bipush (-2 : Int32) e_P_clocks_26 (by decide) ?_
          exact p_retI e_P_clocks_28.1 rfl h
set_option maxHeartbeats 1000000 in
theorem s_P_clocks_67 {l3 : Int32} {l4 : Int32} {l5 : Nat} {l6 : Int32} {l7 : Int32} {v : Vv} {Q : Int32 → Vv → Prop} (h : if l7 < l4 then ((isSheet (l5)) ∧ (m_S_holds l5 l3 (((2 : Int32) * l7) + (2 : Int32)) (v) (fun x13 v14 => if x13 = true then ((ib ((l3 + ((2 : Int32) * l7))) 40) ∧ ((ib (((l3 + ((2 : Int32) * l7)) + (1 : Int32))) 40) ∧ (m_P_clock ((v14).1 (l5 + 1) (ix ((l3 + ((2 : Int32) * l7))))) ((v14).1 (l5 + 1) (ix (((l3 + ((2 : Int32) * l7)) + (1 : Int32))))) (v14) (fun x19 v20 => k_P_clocks_67 (l3) (l4) (l5) ((if x19 < (0 : Int32) then l6 else (l6 + (1 : Int32)))) ((l7 + (1 : Int32))) (v20) Q)))) else (Q ((-12 : Int32)) (v14))))) else (Q (l6) (v))) : k_P_clocks_67 l3 l4 l5 l6 l7 v Q := by
  show Gp 3 M_P_clocks 67 [(0, .ref (0)), (3, .int (l3)), (4, .int (l4)), (5, .ref (l5)), (6, .int (l6)), (7, .int (l7))] [] v (QI Q)
  refine g_iload 5 e_P_clocks_67 rfl ?_
  refine g_iload 2 e_P_clocks_69 rfl ?_
  refine g_icmp_ge (tgt := 134) e_P_clocks_71 rfl (fun c12 => ?_) (fun c12 => ?_)
  · replace h := iteF h c12
    refine g_iload 4 e_P_clocks_134 rfl ?_
    exact p_retI e_P_clocks_136.1 rfl h
  · replace h := iteT h c12
    refine g_aload 3 e_P_clocks_74 rfl ?_
    refine g_iload_n 1 e_P_clocks_76 rfl rfl ?_
    refine g_iconst (2 : Int32) e_P_clocks_77 (by decide) ?_
    refine g_iload 5 e_P_clocks_78 rfl ?_
    refine g_imul e_P_clocks_80 ?_
    refine g_iconst (2 : Int32) e_P_clocks_81 (by decide) ?_
    refine g_iadd e_P_clocks_82 ?_
    obtain ⟨h15, h⟩ := h
    refine p_callVZ (d' := 1) (ci := 5) (r := (RX5, TX5, 3)) (As := [.int (l3), .int ((((2 : Int32) * l7) + (2 : Int32)))]) (rest := []) e_P_clocks_83 zm_S_holds lV_P_283 (isSheet_o h15) rfl rfl rfl rfl (Nat.le_of_ble_eq_true rfl) (by decide) ?_
    refine cp_mono h (fun _ v14 ⟨x13, e1, h⟩ => ⟨x13, e1, ?_⟩)
    refine p_ifz_ne (tgt := 92) e_P_clocks_86 rfl (fun c16 => ?_) (fun c16 => ?_)
    · replace h := iteT h c16
      refine g_aload_n 0 e_P_clocks_92 rfl rfl ?_
      refine g_aload 3 e_P_clocks_93 rfl ?_
      refine p_getR (j := (l5 + 1)) e_P_clocks_95 (isSheet_o h15) fl_P_286 rfl (isSheet_cells h15 _) ?_
      refine g_iload_n 1 e_P_clocks_98 rfl rfl ?_
      refine g_iconst (2 : Int32) e_P_clocks_99 (by decide) ?_
      refine g_iload 5 e_P_clocks_100 rfl ?_
      refine g_imul e_P_clocks_102 ?_
      refine g_iadd e_P_clocks_103 ?_
      obtain ⟨h17, h⟩ := h
      refine p_iald e_P_clocks_104 (isSheet_cells_s h15) h17 ?_
      refine g_aload 3 e_P_clocks_105 rfl ?_
      refine p_getR (j := (l5 + 1)) e_P_clocks_107 (isSheet_o h15) fl_P_286 rfl (isSheet_cells h15 _) ?_
      refine g_iload_n 1 e_P_clocks_110 rfl rfl ?_
      refine g_iconst (2 : Int32) e_P_clocks_111 (by decide) ?_
      refine g_iload 5 e_P_clocks_112 rfl ?_
      refine g_imul e_P_clocks_114 ?_
      refine g_iadd e_P_clocks_115 ?_
      refine g_iconst (1 : Int32) e_P_clocks_116 (by decide) ?_
      refine g_iadd e_P_clocks_117 ?_
      obtain ⟨h18, h⟩ := h
      refine p_iald e_P_clocks_118 (isSheet_cells_s h15) h18 ?_
      refine p_callVI (d' := 2) (ci := 9) (r := (RX9, TX9, 11)) (As := [.int ((v14).1 (l5 + 1) (ix ((l3 + ((2 : Int32) * l7))))), .int ((v14).1 (l5 + 1) (ix (((l3 + ((2 : Int32) * l7)) + (1 : Int32)))))]) (rest := []) e_P_clocks_119 zm_P_clock lV_P_295 sh_0 rfl rfl rfl rfl (Nat.le_of_ble_eq_true rfl) (by decide) ?_
      refine cp_mono h (fun _ v20 ⟨x19, e1, h⟩ => ⟨x19, e1, ?_⟩)
      have hj : ∀ m0 : Int32, m0 = (if x19 < (0 : Int32) then l6 else (l6 + (1 : Int32))) → Gp 3 M_P_clocks 128 [(0, .ref (0)), (3, .int (l3)), (4, .int (l4)), (5, .ref (l5)), (6, .int (m0)), (7, .int (l7))] [] (v20) (QI Q) := by
        intro m0 hm0
        subst hm0
        refine g_iinc (v := (l7 + (1 : Int32))) (L' := [(7, .int ((l7 + (1 : Int32)))), (0, .ref (0)), (3, .int (l3)), (4, .int (l4)), (5, .ref (l5)), (6, .int ((if x19 < (0 : Int32) then l6 else (l6 + (1 : Int32)))))]) 5 e_P_clocks_128 rfl rfl (by decide) rfl ?_
        refine g_goto (tgt := 67) e_P_clocks_131 rfl ?_
        exact g_sub [1, 2, 3, 4, 5, 0] rfl h
      refine g_if_lt (tgt := 128) e_P_clocks_122 rfl (fun c21 => ?_) (fun c21 => ?_)
      · exact hj (l6) (by simp only [if_pos c21])
      · refine g_iinc (v := (l6 + (1 : Int32))) (L' := [(6, .int ((l6 + (1 : Int32)))), (0, .ref (0)), (3, .int (l3)), (4, .int (l4)), (5, .ref (l5)), (7, .int (l7))]) 4 e_P_clocks_125 rfl rfl (by decide) rfl ?_
        refine g_sub [1, 2, 3, 4, 0, 5] rfl ?_
        exact hj ((l6 + (1 : Int32))) (by simp only [if_neg c21])
    · replace h := iteF h c16
      refine g_bipush (-12 : Int32) e_P_clocks_89 (by decide) ?_
      exact p_retI e_P_clocks_91.1 rfl h
set_option maxHeartbeats 1000000 in
theorem s_P_taken {l1 : Int32} {l2 : Int32} {v : Vv} {Q : Int32 → Vv → Prop} (h : m_P_isKind l2 (v) (fun x1 v2 => if x1 = true then (m_P_isDoer l1 (v2) (fun x4 v5 => if x4 = true then ((ib (l1) 5) ∧ (m_D_isUnder (83 + ix (l1)) l2 (v5) (fun x8 v9 => Q ((if x8 = true then (v9).1 (83 + ix (l1)) 1 else (-13 : Int32))) (v9)))) else (Q ((-11 : Int32)) (v5)))) else (Q ((-2 : Int32)) (v2)))) : m_P_taken l1 l2 v Q := by
  refine cp_go (Nat.le_of_ble_eq_true rfl) (by decide +kernel) ?_
  show Gp 3 M_P_taken 0 [(0, .ref (0)), (1, .int (l1)), (2, .int (l2))] [] v (QI Q)
  refine g_iload_n 2 e_P_taken_0 rfl rfl ?_
  refine p_callSZ (d' := 1) (As := [.int (l2)]) (rest := []) e_P_taken_1 zm_P_isKind lS_P_105 rfl rfl (Nat.le_of_ble_eq_true rfl) (by decide) ?_
  refine cp_mono h (fun _ v2 ⟨x1, e1, h⟩ => ⟨x1, e1, ?_⟩)
  refine p_ifz_ne (tgt := 10) e_P_taken_4 rfl (fun c3 => ?_) (fun c3 => ?_)
  · replace h := iteT h c3
    refine g_aload_n 0 e_P_taken_10 rfl rfl ?_
    refine g_iload_n 1 e_P_taken_11 rfl rfl ?_
    refine p_callVZ (d' := 1) (ci := 9) (r := (RX9, TX9, 11)) (As := [.int (l1)]) (rest := []) e_P_taken_12 zm_P_isDoer lV_P_130 sh_0 rfl rfl rfl rfl (Nat.le_of_ble_eq_true rfl) (by decide) ?_
    refine cp_mono h (fun _ v5 ⟨x4, e1, h⟩ => ⟨x4, e1, ?_⟩)
    refine p_ifz_ne (tgt := 21) e_P_taken_15 rfl (fun c6 => ?_) (fun c6 => ?_)
    · replace h := iteT h c6
      refine g_aload_n 0 e_P_taken_21 rfl rfl ?_
      refine p_getR (j := 74) e_P_taken_22 sh_0 fl_P_20 rfl (rf_0_1 _) ?_
      refine p_getR (j := 76) e_P_taken_25 sh_74 fl_P_112 rfl (rf_74_1 _) ?_
      refine g_iload_n 1 e_P_taken_28 rfl rfl ?_
      obtain ⟨h7, h⟩ := h
      refine p_aald (j := (83 + ix (l1))) e_P_taken_29 sh_76 (by decide) rfl h7 (el_74d h7 _) ?_
      refine g_iload_n 2 e_P_taken_30 rfl rfl ?_
      refine p_callVZ (d' := 2) (ci := 1) (r := (RX1, TX1, 3)) (As := [.int (l2)]) (rest := []) e_P_taken_31 zm_D_isUnder lV_P_298 (isDoer_o (el_74d_k h7)) rfl rfl rfl rfl (Nat.le_of_ble_eq_true rfl) (by decide) ?_
      refine cp_mono h (fun _ v9 ⟨x8, e1, h⟩ => ⟨x8, e1, ?_⟩)
      have hj : ∀ m0 : Int32, m0 = (if x8 = true then (v9).1 (83 + ix (l1)) 1 else (-13 : Int32)) → Gp 3 M_P_taken 54 [(0, .ref (0)), (1, .int (l1)), (2, .int (l2))] [.int (m0)] (v9) (QI Q) := by
        intro m0 hm0
        subst hm0
        exact p_retI e_P_taken_54.1 rfl h
      refine p_ifz_eq (tgt := 52) e_P_taken_34 rfl (fun c10 => ?_) (fun c10 => ?_)
      · refine g_bipush (-13 : Int32) e_P_taken_52 (by decide) ?_
        exact hj ((-13 : Int32)) (by simp only [if_neg c10])
      · refine g_aload_n 0 e_P_taken_37 rfl rfl ?_
        refine p_getR (j := 74) e_P_taken_38 sh_0 fl_P_20 rfl (rf_0_1 _) ?_
        refine p_getR (j := 76) e_P_taken_41 sh_74 fl_P_112 rfl (rf_74_1 _) ?_
        refine g_iload_n 1 e_P_taken_44 rfl rfl ?_
        refine p_aald (j := (83 + ix (l1))) e_P_taken_45 sh_76 (by decide) rfl h7 (el_74d h7 _) ?_
        refine p_getI e_P_taken_46 (isDoer_o (el_74d_k h7)) fl_P_121 rfl ?_
        refine g_goto (tgt := 54) e_P_taken_49 rfl ?_
        exact hj ((v9).1 (83 + ix (l1)) 1) (by simp only [if_pos c10])
    · replace h := iteF h c6
      refine g_bipush (-11 : Int32) e_P_taken_18 (by decide) ?_
      exact p_retI e_P_taken_20.1 rfl h
  · replace h := iteF h c3
    refine g_bipush (-2 : Int32) e_P_taken_7 (by decide) ?_
    exact p_retI e_P_taken_9.1 rfl h
set_option maxHeartbeats 1000000 in
theorem s_P_sheet {l1 : Int32} {l2 : Int32} {l3 : Int32} {v : Vv} {Q : Int32 → Vv → Prop} (h : m_P_isSheet l1 (v) (fun x1 v2 => if x1 = true then (if l2 = (-1 : Int32) then ((ib (l1) 4) ∧ (m_S_become (146 + 2 * ix (l1)) (-1 : Int32) (0 : Int32) (v2) (fun v7 => Q ((1 : Int32)) (v7)))) else (m_P_isSort l2 (v2) (fun x8 v9 => if x8 = true then (if (40 : Int32) < l3 then (Q ((-2 : Int32)) (v9)) else (if l3 < (0 : Int32) then (Q ((-14 : Int32)) (v9)) else ((ib (l1) 4) ∧ (m_S_become (146 + 2 * ix (l1)) l2 l3 (v9) (fun v15 => Q ((1 : Int32)) (v15)))))) else (Q ((-2 : Int32)) (v9))))) else (Q ((-2 : Int32)) (v2)))) : m_P_sheet l1 l2 l3 v Q := by
  refine cp_go (Nat.le_of_ble_eq_true rfl) (by decide +kernel) ?_
  show Gp 4 M_P_sheet 0 [(0, .ref (0)), (1, .int (l1)), (2, .int (l2)), (3, .int (l3))] [] v (QI Q)
  refine g_iload_n 1 e_P_sheet_0 rfl rfl ?_
  refine p_callSZ (d' := 1) (As := [.int (l1)]) (rest := []) e_P_sheet_1 zm_P_isSheet lS_P_246 rfl rfl (Nat.le_of_ble_eq_true rfl) (by decide) ?_
  refine cp_mono h (fun _ v2 ⟨x1, e1, h⟩ => ⟨x1, e1, ?_⟩)
  refine p_ifz_ne (tgt := 10) e_P_sheet_4 rfl (fun c3 => ?_) (fun c3 => ?_)
  · replace h := iteT h c3
    refine g_iload_n 2 e_P_sheet_10 rfl rfl ?_
    refine g_iconst (-1 : Int32) e_P_sheet_11 (by decide) ?_
    refine g_icmp_ne (tgt := 28) e_P_sheet_12 rfl (fun c4 => ?_) (fun c4 => ?_)
    · replace h := iteF h c4
      refine g_iload_n 2 e_P_sheet_28 rfl rfl ?_
      refine p_callSZ (d' := 1) (As := [.int (l2)]) (rest := []) e_P_sheet_29 zm_P_isSort lS_P_280 rfl rfl (Nat.le_of_ble_eq_true rfl) (by decide) ?_
      refine cp_mono h (fun _ v9 ⟨x8, e1, h⟩ => ⟨x8, e1, ?_⟩)
      refine p_ifz_eq (tgt := 41) e_P_sheet_32 rfl (fun c10 => ?_) (fun c10 => ?_)
      · replace h := iteF h c10
        refine g_bipush (-2 : Int32) e_P_sheet_41 (by decide) ?_
        exact p_retI e_P_sheet_43.1 rfl h
      · replace h := iteT h c10
        refine g_iload_n 3 e_P_sheet_35 rfl rfl ?_
        refine g_bipush (40 : Int32) e_P_sheet_36 (by decide) ?_
        refine g_icmp_le (tgt := 44) e_P_sheet_38 rfl (fun c11 => ?_) (fun c11 => ?_)
        · replace h := iteF h c11
          refine g_iload_n 3 e_P_sheet_44 rfl rfl ?_
          refine g_if_ge (tgt := 51) e_P_sheet_45 rfl (fun c12 => ?_) (fun c12 => ?_)
          · replace h := iteF h c12
            refine g_aload_n 0 e_P_sheet_51 rfl rfl ?_
            refine p_getR (j := 121) e_P_sheet_52 sh_0 fl_P_64 rfl (rf_0_10 _) ?_
            refine g_iload_n 1 e_P_sheet_55 rfl rfl ?_
            obtain ⟨h13, h⟩ := h
            refine p_aald (j := (146 + 2 * ix (l1))) e_P_sheet_56 sh_121 (by decide) rfl h13 (el_sh h13 _) ?_
            refine g_iload_n 2 e_P_sheet_57 rfl rfl ?_
            refine g_iload_n 3 e_P_sheet_58 rfl rfl ?_
            refine p_callVV (d' := 3) (ci := 5) (r := (RX5, TX5, 3)) (As := [.int (l2), .int (l3)]) (rest := []) e_P_sheet_59 zm_S_become lV_P_265 (isSheet_o (el_sh_k h13)) rfl rfl rfl rfl (Nat.le_of_ble_eq_true rfl) (by decide) ?_
            refine cp_mono h (fun _ v15 ⟨e1, h⟩ => ⟨e1, ?_⟩)
            refine g_iconst (1 : Int32) e_P_sheet_62 (by decide) ?_
            exact p_retI e_P_sheet_63.1 rfl h
          · replace h := iteT h c12
            refine g_bipush (-14 : Int32) e_P_sheet_48 (by decide) ?_
            exact p_retI e_P_sheet_50.1 rfl h
        · replace h := iteT h c11
          refine g_bipush (-2 : Int32) e_P_sheet_41 (by decide) ?_
          exact p_retI e_P_sheet_43.1 rfl h
    · replace h := iteT h c4
      refine g_aload_n 0 e_P_sheet_15 rfl rfl ?_
      refine p_getR (j := 121) e_P_sheet_16 sh_0 fl_P_64 rfl (rf_0_10 _) ?_
      refine g_iload_n 1 e_P_sheet_19 rfl rfl ?_
      obtain ⟨h5, h⟩ := h
      refine p_aald (j := (146 + 2 * ix (l1))) e_P_sheet_20 sh_121 (by decide) rfl h5 (el_sh h5 _) ?_
      refine g_iconst (-1 : Int32) e_P_sheet_21 (by decide) ?_
      refine g_iconst (0 : Int32) e_P_sheet_22 (by decide) ?_
      refine p_callVV (d' := 3) (ci := 5) (r := (RX5, TX5, 3)) (As := [.int ((-1 : Int32)), .int ((0 : Int32))]) (rest := []) e_P_sheet_23 zm_S_become lV_P_265 (isSheet_o (el_sh_k h5)) rfl rfl rfl rfl (Nat.le_of_ble_eq_true rfl) (by decide) ?_
      refine cp_mono h (fun _ v7 ⟨e1, h⟩ => ⟨e1, ?_⟩)
      refine g_iconst (1 : Int32) e_P_sheet_26 (by decide) ?_
      exact p_retI e_P_sheet_27.1 rfl h
  · replace h := iteF h c3
    refine g_bipush (-2 : Int32) e_P_sheet_7 (by decide) ?_
    exact p_retI e_P_sheet_9.1 rfl h
set_option maxHeartbeats 1000000 in
theorem s_P_worked  {v : Vv} {Q : Nat → Vv → Prop} (h : if (v).1 1 12 = (0 : Int32) then (Q (1) (v)) else ((ib ((v).1 74 4) 6) ∧ (m_W_work (122 + 4 * ix ((v).1 74 4)) (v) (fun v4 => Q (1) (v4))))) : m_P_worked  v Q := by
  refine cp_go (Nat.le_of_ble_eq_true rfl) (by decide +kernel) ?_
  show Gp 6 M_P_worked 0 [(0, .ref (0))] [] v (QR Q)
  refine g_aload_n 0 e_P_worked_0 rfl rfl ?_
  refine p_getR (j := 1) e_P_worked_1 sh_0 fl_P_10 rfl (rf_0_0 _) ?_
  refine p_getI e_P_worked_4 sh_1 fl_P_102 rfl ?_
  refine g_if_eq (tgt := 29) e_P_worked_7 rfl (fun c1 => ?_) (fun c1 => ?_)
  · replace h := iteT h c1
    refine g_aload_n 0 e_P_worked_29 rfl rfl ?_
    refine p_getR (j := 1) e_P_worked_30 sh_0 fl_P_10 rfl (rf_0_0 _) ?_
    exact p_retR e_P_worked_33.1 rfl h
  · replace h := iteF h c1
    refine g_aload_n 0 e_P_worked_10 rfl rfl ?_
    refine p_getR (j := 1) e_P_worked_11 sh_0 fl_P_10 rfl (rf_0_0 _) ?_
    refine g_aload_n 0 e_P_worked_14 rfl rfl ?_
    refine p_getR (j := 106) e_P_worked_15 sh_0 fl_P_33 rfl (rf_0_4 _) ?_
    refine g_aload_n 0 e_P_worked_18 rfl rfl ?_
    refine p_getR (j := 74) e_P_worked_19 sh_0 fl_P_20 rfl (rf_0_1 _) ?_
    refine p_getI e_P_worked_22 sh_74 fl_P_162 rfl ?_
    obtain ⟨h2, h⟩ := h
    refine p_aald (j := (122 + 4 * ix ((v).1 74 4))) e_P_worked_25 sh_106 (by decide) rfl h2 (el_tx h2 _) ?_
    refine p_callVV (d' := 5) (ci := 8) (r := (RX8, TX8, 13)) (As := [.ref ((122 + 4 * ix ((v).1 74 4)))]) (rest := []) e_P_worked_26 zm_W_work lV_P_301 sh_1 rfl rfl rfl rfl (Nat.le_of_ble_eq_true rfl) (by decide) ?_
    refine cp_mono h (fun _ v4 ⟨e1, h⟩ => ⟨e1, ?_⟩)
    refine g_aload_n 0 e_P_worked_29 rfl rfl ?_
    refine p_getR (j := 1) e_P_worked_30 sh_0 fl_P_10 rfl (rf_0_0 _) ?_
    exact p_retR e_P_worked_33.1 rfl h
set_option maxHeartbeats 1000000 in
theorem s_P_told {l1 : Int32} {l2 : Int32} {v : Vv} {Q : Int32 → Vv → Prop} (h : if l2 < (0 : Int32) then (k_P_told_31 (l1) (l2) (v) Q) else (if (3 : Int32) < l2 then (k_P_told_31 (l1) (l2) (v) Q) else (m_P_isClock l1 (v) (fun x3 v4 => if x3 = true then ((ib (l1) 6) ∧ (m_C_tell (77 + ix (l1)) l2 (v4) (fun x7 v8 => Q (x7) (v8)))) else (k_P_told_31 (l1) (l2) (v4) Q))))) : m_P_told l1 l2 v Q := by
  refine cp_go (Nat.le_of_ble_eq_true rfl) (by decide +kernel) ?_
  show Gp 7 M_P_told 0 [(0, .ref (0)), (1, .int (l1)), (2, .int (l2))] [] v (QI Q)
  refine g_iload_n 2 e_P_told_0 rfl rfl ?_
  refine g_if_lt (tgt := 31) e_P_told_1 rfl (fun c1 => ?_) (fun c1 => ?_)
  · replace h := iteT h c1
    exact g_sub [0, 1, 2] rfl h
  · replace h := iteF h c1
    refine g_iload_n 2 e_P_told_4 rfl rfl ?_
    refine g_iconst (3 : Int32) e_P_told_5 (by decide) ?_
    refine g_icmp_gt (tgt := 31) e_P_told_6 rfl (fun c2 => ?_) (fun c2 => ?_)
    · replace h := iteT h c2
      exact g_sub [0, 1, 2] rfl h
    · replace h := iteF h c2
      refine g_aload_n 0 e_P_told_9 rfl rfl ?_
      refine g_iload_n 1 e_P_told_10 rfl rfl ?_
      refine p_callVZ (d' := 1) (ci := 9) (r := (RX9, TX9, 11)) (As := [.int (l1)]) (rest := []) e_P_told_11 zm_P_isClock lV_P_127 sh_0 rfl rfl rfl rfl (Nat.le_of_ble_eq_true rfl) (by decide) ?_
      refine cp_mono h (fun _ v4 ⟨x3, e1, h⟩ => ⟨x3, e1, ?_⟩)
      refine p_ifz_eq (tgt := 31) e_P_told_14 rfl (fun c5 => ?_) (fun c5 => ?_)
      · replace h := iteF h c5
        exact g_sub [0, 1, 2] rfl h
      · replace h := iteT h c5
        refine g_aload_n 0 e_P_told_17 rfl rfl ?_
        refine p_getR (j := 74) e_P_told_18 sh_0 fl_P_20 rfl (rf_0_1 _) ?_
        refine p_getR (j := 75) e_P_told_21 sh_74 fl_P_84 rfl (rf_74_0 _) ?_
        refine g_iload_n 1 e_P_told_24 rfl rfl ?_
        obtain ⟨h6, h⟩ := h
        refine p_aald (j := (77 + ix (l1))) e_P_told_25 sh_75 (by decide) rfl h6 (el_74c h6 _) ?_
        refine g_iload_n 2 e_P_told_26 rfl rfl ?_
        refine p_callVI (d' := 1) (ci := 0) (r := (RX0, TX0, 4)) (As := [.int (l2)]) (rest := []) e_P_told_27 zm_C_tell lV_P_138 (isClock_o (el_74c_k h6)) rfl rfl rfl rfl (Nat.le_of_ble_eq_true rfl) (by decide) ?_
        refine cp_mono h (fun _ v8 ⟨x7, e1, h⟩ => ⟨x7, e1, ?_⟩)
        exact p_retI e_P_told_30.1 rfl h
set_option maxHeartbeats 1000000 in
theorem s_P_told_31 {l1 : Int32} {l2 : Int32} {v : Vv} {Q : Int32 → Vv → Prop} (h : if l2 < (4 : Int32) then (k_P_told_64 (l1) (l2) (v) Q) else (if (6 : Int32) < l2 then (k_P_told_64 (l1) (l2) (v) Q) else (m_P_isDoer l1 (v) (fun x11 v12 => if x11 = true then ((ib (l1) 5) ∧ (m_D_tell (83 + ix (l1)) l2 (v12) (fun x15 v16 => Q (x15) (v16)))) else (k_P_told_64 (l1) (l2) (v12) Q))))) : k_P_told_31 l1 l2 v Q := by
  show Gp 7 M_P_told 31 [(0, .ref (0)), (1, .int (l1)), (2, .int (l2))] [] v (QI Q)
  refine g_iload_n 2 e_P_told_31 rfl rfl ?_
  refine g_iconst (4 : Int32) e_P_told_32 (by decide) ?_
  refine g_icmp_lt (tgt := 64) e_P_told_33 rfl (fun c9 => ?_) (fun c9 => ?_)
  · replace h := iteT h c9
    exact g_sub [0, 1, 2] rfl h
  · replace h := iteF h c9
    refine g_iload_n 2 e_P_told_36 rfl rfl ?_
    refine g_bipush (6 : Int32) e_P_told_37 (by decide) ?_
    refine g_icmp_gt (tgt := 64) e_P_told_39 rfl (fun c10 => ?_) (fun c10 => ?_)
    · replace h := iteT h c10
      exact g_sub [0, 1, 2] rfl h
    · replace h := iteF h c10
      refine g_aload_n 0 e_P_told_42 rfl rfl ?_
      refine g_iload_n 1 e_P_told_43 rfl rfl ?_
      refine p_callVZ (d' := 1) (ci := 9) (r := (RX9, TX9, 11)) (As := [.int (l1)]) (rest := []) e_P_told_44 zm_P_isDoer lV_P_130 sh_0 rfl rfl rfl rfl (Nat.le_of_ble_eq_true rfl) (by decide) ?_
      refine cp_mono h (fun _ v12 ⟨x11, e1, h⟩ => ⟨x11, e1, ?_⟩)
      refine p_ifz_eq (tgt := 64) e_P_told_47 rfl (fun c13 => ?_) (fun c13 => ?_)
      · replace h := iteF h c13
        exact g_sub [0, 1, 2] rfl h
      · replace h := iteT h c13
        refine g_aload_n 0 e_P_told_50 rfl rfl ?_
        refine p_getR (j := 74) e_P_told_51 sh_0 fl_P_20 rfl (rf_0_1 _) ?_
        refine p_getR (j := 76) e_P_told_54 sh_74 fl_P_112 rfl (rf_74_1 _) ?_
        refine g_iload_n 1 e_P_told_57 rfl rfl ?_
        obtain ⟨h14, h⟩ := h
        refine p_aald (j := (83 + ix (l1))) e_P_told_58 sh_76 (by decide) rfl h14 (el_74d h14 _) ?_
        refine g_iload_n 2 e_P_told_59 rfl rfl ?_
        refine p_callVI (d' := 1) (ci := 1) (r := (RX1, TX1, 3)) (As := [.int (l2)]) (rest := []) e_P_told_60 zm_D_tell lV_P_142 (isDoer_o (el_74d_k h14)) rfl rfl rfl rfl (Nat.le_of_ble_eq_true rfl) (by decide) ?_
        refine cp_mono h (fun _ v16 ⟨x15, e1, h⟩ => ⟨x15, e1, ?_⟩)
        exact p_retI e_P_told_63.1 rfl h
set_option maxHeartbeats 1000000 in
theorem s_P_told_64 {l1 : Int32} {l2 : Int32} {v : Vv} {Q : Int32 → Vv → Prop} (h : if l2 = (7 : Int32) then (m_P_isDoer l1 (v) (fun x18 v19 => if x18 = true then (m_P_worked  (v19) (fun (x21 : Nat) v22 => x21 = 1 ∧ ((ib (l1) 5) ∧ (Q ((v22).1 72 (ix (l1))) (v22))))) else (Q ((-1000 : Int32)) (v19)))) else (Q ((-1000 : Int32)) (v))) : k_P_told_64 l1 l2 v Q := by
  show Gp 7 M_P_told 64 [(0, .ref (0)), (1, .int (l1)), (2, .int (l2))] [] v (QI Q)
  refine g_iload_n 2 e_P_told_64 rfl rfl ?_
  refine g_bipush (7 : Int32) e_P_told_65 (by decide) ?_
  refine g_icmp_ne (tgt := 88) e_P_told_67 rfl (fun c17 => ?_) (fun c17 => ?_)
  · replace h := iteF h c17
    refine g_sipush (-1000 : Int32) e_P_told_88 (by decide) ?_
    exact p_retI e_P_told_91.1 rfl h
  · replace h := iteT h c17
    refine g_aload_n 0 e_P_told_70 rfl rfl ?_
    refine g_iload_n 1 e_P_told_71 rfl rfl ?_
    refine p_callVZ (d' := 1) (ci := 9) (r := (RX9, TX9, 11)) (As := [.int (l1)]) (rest := []) e_P_told_72 zm_P_isDoer lV_P_130 sh_0 rfl rfl rfl rfl (Nat.le_of_ble_eq_true rfl) (by decide) ?_
    refine cp_mono h (fun _ v19 ⟨x18, e1, h⟩ => ⟨x18, e1, ?_⟩)
    refine p_ifz_eq (tgt := 88) e_P_told_75 rfl (fun c20 => ?_) (fun c20 => ?_)
    · replace h := iteF h c20
      refine g_sipush (-1000 : Int32) e_P_told_88 (by decide) ?_
      exact p_retI e_P_told_91.1 rfl h
    · replace h := iteT h c20
      refine g_aload_n 0 e_P_told_78 rfl rfl ?_
      refine p_callVR (d' := 6) (ci := 9) (r := (RX9, TX9, 11)) (As := []) (rest := []) e_P_told_79 zm_P_worked lV_P_143 sh_0 rfl rfl rfl rfl (Nat.le_of_ble_eq_true rfl) (by decide) ?_
      refine cp_mono h (fun _ v22 ⟨x21, e1, h⟩ => ⟨x21, e1, ?_⟩)
      obtain ⟨rfl, h⟩ := h
      refine p_getR (j := 72) e_P_told_82 sh_1 fl_P_147 rfl (rf_1_6 _) ?_
      refine g_iload_n 1 e_P_told_85 rfl rfl ?_
      obtain ⟨h24, h⟩ := h
      refine p_iald e_P_told_86 sh_72 h24 ?_
      exact p_retI e_P_told_87.1 rfl h
set_option maxHeartbeats 1000000 in
theorem s_P_at {l1 : Int32} {l2 : Int32} {l3 : Int32} {v : Vv} {Q : Int32 → Vv → Prop} (h : m_P_isClock l1 (v) (fun x1 v2 => if x1 = true then (m_P_isWorld l2 (v2) (fun x4 v5 => if x4 = true then (if l3 = (0 : Int32) then (m_P_worked  (v5) (fun (x8 : Nat) v9 => x8 = 1 ∧ ((ib (l2) 32) ∧ ((ib (l1) 6) ∧ (Q ((v9).1 (3 + ix (l2)) (ix (l1))) (v9)))))) else (if l3 = (1 : Int32) then (m_P_worked  (v5) (fun (x14 : Nat) v15 => x14 = 1 ∧ ((ib (l2) 32) ∧ ((ib (l1) 6) ∧ (Q ((v15).1 (36 + ix (l2)) (ix (l1))) (v15)))))) else (if l3 = (2 : Int32) then (m_P_worked  (v5) (fun (x20 : Nat) v21 => x20 = 1 ∧ ((ib (l2) 32) ∧ (Q ((((v21).1 68 (ix (l2)) >>> (l1 &&& 31)) &&& (1 : Int32))) (v21))))) else (Q ((-100000 : Int32)) (v5))))) else (Q ((-100000 : Int32)) (v5)))) else (Q ((-100000 : Int32)) (v2)))) : m_P_at l1 l2 l3 v Q := by
  refine cp_go (Nat.le_of_ble_eq_true rfl) (by decide +kernel) ?_
  show Gp 7 M_P_at 0 [(0, .ref (0)), (1, .int (l1)), (2, .int (l2)), (3, .int (l3))] [] v (QI Q)
  refine g_aload_n 0 e_P_at_0 rfl rfl ?_
  refine g_iload_n 1 e_P_at_1 rfl rfl ?_
  refine p_callVZ (d' := 1) (ci := 9) (r := (RX9, TX9, 11)) (As := [.int (l1)]) (rest := []) e_P_at_2 zm_P_isClock lV_P_127 sh_0 rfl rfl rfl rfl (Nat.le_of_ble_eq_true rfl) (by decide) ?_
  refine cp_mono h (fun _ v2 ⟨x1, e1, h⟩ => ⟨x1, e1, ?_⟩)
  refine p_ifz_eq (tgt := 16) e_P_at_5 rfl (fun c3 => ?_) (fun c3 => ?_)
  · replace h := iteF h c3
    refine g_ldc (v := (-100000 : Int32)) (hd := e_P_at_16) ci_P_168 ?_
    exact p_retI e_P_at_18.1 rfl h
  · replace h := iteT h c3
    refine g_aload_n 0 e_P_at_8 rfl rfl ?_
    refine g_iload_n 2 e_P_at_9 rfl rfl ?_
    refine p_callVZ (d' := 1) (ci := 9) (r := (RX9, TX9, 11)) (As := [.int (l2)]) (rest := []) e_P_at_10 zm_P_isWorld lV_P_165 sh_0 rfl rfl rfl rfl (Nat.le_of_ble_eq_true rfl) (by decide) ?_
    refine cp_mono h (fun _ v5 ⟨x4, e1, h⟩ => ⟨x4, e1, ?_⟩)
    refine p_ifz_ne (tgt := 19) e_P_at_13 rfl (fun c6 => ?_) (fun c6 => ?_)
    · replace h := iteT h c6
      refine g_iload_n 3 e_P_at_19 rfl rfl ?_
      by_cases c7 : l3 = (0 : Int32)
      · replace h := iteT h c7
        refine g_tsw (tgt := 48) e_P_at_20 (0 : Int32) c7 (by decide) (by decide) rfl rfl ?_
        refine g_aload_n 0 e_P_at_48 rfl rfl ?_
        refine p_callVR (d' := 6) (ci := 9) (r := (RX9, TX9, 11)) (As := []) (rest := []) e_P_at_49 zm_P_worked lV_P_143 sh_0 rfl rfl rfl rfl (Nat.le_of_ble_eq_true rfl) (by decide) ?_
        refine cp_mono h (fun _ v9 ⟨x8, e1, h⟩ => ⟨x8, e1, ?_⟩)
        obtain ⟨rfl, h⟩ := h
        refine p_getR (j := 2) e_P_at_52 sh_1 fl_P_169 rfl (rf_1_0 _) ?_
        refine g_iload_n 2 e_P_at_55 rfl rfl ?_
        obtain ⟨h11, h⟩ := h
        refine p_aald (j := (3 + ix (l2))) e_P_at_56 sh_2 (by decide) rfl h11 (el_at h11 _) ?_
        refine g_iload_n 1 e_P_at_57 rfl rfl ?_
        obtain ⟨h12, h⟩ := h
        refine p_iald e_P_at_58 (el_at_s h11) h12 ?_
        exact p_retI e_P_at_59.1 rfl h
      · replace h := iteF h c7
        by_cases c13 : l3 = (1 : Int32)
        · replace h := iteT h c13
          refine g_tsw (tgt := 60) e_P_at_20 (1 : Int32) c13 (by decide) (by decide) rfl rfl ?_
          refine g_aload_n 0 e_P_at_60 rfl rfl ?_
          refine p_callVR (d' := 6) (ci := 9) (r := (RX9, TX9, 11)) (As := []) (rest := []) e_P_at_61 zm_P_worked lV_P_143 sh_0 rfl rfl rfl rfl (Nat.le_of_ble_eq_true rfl) (by decide) ?_
          refine cp_mono h (fun _ v15 ⟨x14, e1, h⟩ => ⟨x14, e1, ?_⟩)
          obtain ⟨rfl, h⟩ := h
          refine p_getR (j := 35) e_P_at_64 sh_1 fl_P_173 rfl (rf_1_1 _) ?_
          refine g_iload_n 2 e_P_at_67 rfl rfl ?_
          obtain ⟨h17, h⟩ := h
          refine p_aald (j := (36 + ix (l2))) e_P_at_68 sh_35 (by decide) rfl h17 (el_dn h17 _) ?_
          refine g_iload_n 1 e_P_at_69 rfl rfl ?_
          obtain ⟨h18, h⟩ := h
          refine p_iald e_P_at_70 (el_dn_s h17) h18 ?_
          exact p_retI e_P_at_71.1 rfl h
        · replace h := iteF h c13
          by_cases c19 : l3 = (2 : Int32)
          · replace h := iteT h c19
            refine g_tsw (tgt := 72) e_P_at_20 (2 : Int32) c19 (by decide) (by decide) rfl rfl ?_
            refine g_aload_n 0 e_P_at_72 rfl rfl ?_
            refine p_callVR (d' := 6) (ci := 9) (r := (RX9, TX9, 11)) (As := []) (rest := []) e_P_at_73 zm_P_worked lV_P_143 sh_0 rfl rfl rfl rfl (Nat.le_of_ble_eq_true rfl) (by decide) ?_
            refine cp_mono h (fun _ v21 ⟨x20, e1, h⟩ => ⟨x20, e1, ?_⟩)
            obtain ⟨rfl, h⟩ := h
            refine p_getR (j := 68) e_P_at_76 sh_1 fl_P_176 rfl (rf_1_2 _) ?_
            refine g_iload_n 2 e_P_at_79 rfl rfl ?_
            obtain ⟨h23, h⟩ := h
            refine p_iald e_P_at_80 sh_68 h23 ?_
            refine g_iload_n 1 e_P_at_81 rfl rfl ?_
            refine g_ishr e_P_at_82 ?_
            refine g_iconst (1 : Int32) e_P_at_83 (by decide) ?_
            refine g_iand e_P_at_84 ?_
            exact p_retI e_P_at_85.1 rfl h
          · replace h := iteF h c19
            refine g_tsd (tgt := 86) [(0 : Int32), (1 : Int32), (2 : Int32)] e_P_at_20 (List.forall_mem_cons.mpr ⟨c7, (List.forall_mem_cons.mpr ⟨c13, (List.forall_mem_cons.mpr ⟨c19, (fun _ h => absurd h List.not_mem_nil)⟩)⟩)⟩) (by decide) rfl ?_
            refine g_ldc (v := (-100000 : Int32)) (hd := e_P_at_86) ci_P_168 ?_
            exact p_retI e_P_at_88.1 rfl h
    · replace h := iteF h c6
      refine g_ldc (v := (-100000 : Int32)) (hd := e_P_at_16) ci_P_168 ?_
      exact p_retI e_P_at_18.1 rfl h
set_option maxHeartbeats 1000000 in
theorem s_P_right {l1 : Int32} {l2 : Int32} {v : Vv} {Q : Int32 → Vv → Prop} (h : m_P_isWorld l1 (v) (fun x1 v2 => if x1 = true then (if l2 = (0 : Int32) then (m_P_worked  (v2) (fun (x5 : Nat) v6 => x5 = 1 ∧ ((ib (l1) 32) ∧ (Q ((v6).1 68 (ix (l1))) (v6))))) else (if l2 = (1 : Int32) then (m_P_worked  (v2) (fun (x10 : Nat) v11 => x10 = 1 ∧ ((ib (l1) 32) ∧ (Q (bI ((if (v11).1 69 (ix (l1)) = (0 : Int32) then false else true))) (v11))))) else (if l2 = (2 : Int32) then (m_P_worked  (v2) (fun (x16 : Nat) v17 => x16 = 1 ∧ ((ib (l1) 32) ∧ (Q ((v17).1 70 (ix (l1))) (v17))))) else (Q ((-100000 : Int32)) (v2))))) else (Q ((-100000 : Int32)) (v2)))) : m_P_right l1 l2 v Q := by
  refine cp_go (Nat.le_of_ble_eq_true rfl) (by decide +kernel) ?_
  show Gp 7 M_P_right 0 [(0, .ref (0)), (1, .int (l1)), (2, .int (l2))] [] v (QI Q)
  refine g_aload_n 0 e_P_right_0 rfl rfl ?_
  refine g_iload_n 1 e_P_right_1 rfl rfl ?_
  refine p_callVZ (d' := 1) (ci := 9) (r := (RX9, TX9, 11)) (As := [.int (l1)]) (rest := []) e_P_right_2 zm_P_isWorld lV_P_165 sh_0 rfl rfl rfl rfl (Nat.le_of_ble_eq_true rfl) (by decide) ?_
  refine cp_mono h (fun _ v2 ⟨x1, e1, h⟩ => ⟨x1, e1, ?_⟩)
  refine p_ifz_ne (tgt := 11) e_P_right_5 rfl (fun c3 => ?_) (fun c3 => ?_)
  · replace h := iteT h c3
    refine g_iload_n 2 e_P_right_11 rfl rfl ?_
    by_cases c4 : l2 = (0 : Int32)
    · replace h := iteT h c4
      refine g_tsw (tgt := 40) e_P_right_12 (0 : Int32) c4 (by decide) (by decide) rfl rfl ?_
      refine g_aload_n 0 e_P_right_40 rfl rfl ?_
      refine p_callVR (d' := 6) (ci := 9) (r := (RX9, TX9, 11)) (As := []) (rest := []) e_P_right_41 zm_P_worked lV_P_143 sh_0 rfl rfl rfl rfl (Nat.le_of_ble_eq_true rfl) (by decide) ?_
      refine cp_mono h (fun _ v6 ⟨x5, e1, h⟩ => ⟨x5, e1, ?_⟩)
      obtain ⟨rfl, h⟩ := h
      refine p_getR (j := 68) e_P_right_44 sh_1 fl_P_176 rfl (rf_1_2 _) ?_
      refine g_iload_n 1 e_P_right_47 rfl rfl ?_
      obtain ⟨h8, h⟩ := h
      refine p_iald e_P_right_48 sh_68 h8 ?_
      exact p_retI e_P_right_49.1 rfl h
    · replace h := iteF h c4
      by_cases c9 : l2 = (1 : Int32)
      · replace h := iteT h c9
        refine g_tsw (tgt := 50) e_P_right_12 (1 : Int32) c9 (by decide) (by decide) rfl rfl ?_
        refine g_aload_n 0 e_P_right_50 rfl rfl ?_
        refine p_callVR (d' := 6) (ci := 9) (r := (RX9, TX9, 11)) (As := []) (rest := []) e_P_right_51 zm_P_worked lV_P_143 sh_0 rfl rfl rfl rfl (Nat.le_of_ble_eq_true rfl) (by decide) ?_
        refine cp_mono h (fun _ v11 ⟨x10, e1, h⟩ => ⟨x10, e1, ?_⟩)
        obtain ⟨rfl, h⟩ := h
        refine p_getR (j := 69) e_P_right_54 sh_1 fl_P_179 rfl (rf_1_3 _) ?_
        refine g_iload_n 1 e_P_right_57 rfl rfl ?_
        obtain ⟨h13, h⟩ := h
        refine p_zald e_P_right_58 sh_69 h13 ?_
        have hj : ∀ m0 : Bool, m0 = (if (v11).1 69 (ix (l1)) = (0 : Int32) then false else true) → Gp 7 M_P_right 67 [(0, .ref (0)), (1, .int (l1)), (2, .int (l2))] [.int (bI (m0))] (v11) (QI Q) := by
          intro m0 hm0
          subst hm0
          exact p_retI e_P_right_67.1 rfl h
        refine g_if_eq (tgt := 66) e_P_right_59 rfl (fun c14 => ?_) (fun c14 => ?_)
        · refine g_iconst (0 : Int32) e_P_right_66 (by decide) ?_
          exact hj (false) (by simp only [if_pos c14])
        · refine g_iconst (1 : Int32) e_P_right_62 (by decide) ?_
          refine g_goto (tgt := 67) e_P_right_63 rfl ?_
          exact hj (true) (by simp only [if_neg c14])
      · replace h := iteF h c9
        by_cases c15 : l2 = (2 : Int32)
        · replace h := iteT h c15
          refine g_tsw (tgt := 68) e_P_right_12 (2 : Int32) c15 (by decide) (by decide) rfl rfl ?_
          refine g_aload_n 0 e_P_right_68 rfl rfl ?_
          refine p_callVR (d' := 6) (ci := 9) (r := (RX9, TX9, 11)) (As := []) (rest := []) e_P_right_69 zm_P_worked lV_P_143 sh_0 rfl rfl rfl rfl (Nat.le_of_ble_eq_true rfl) (by decide) ?_
          refine cp_mono h (fun _ v17 ⟨x16, e1, h⟩ => ⟨x16, e1, ?_⟩)
          obtain ⟨rfl, h⟩ := h
          refine p_getR (j := 70) e_P_right_72 sh_1 fl_P_183 rfl (rf_1_4 _) ?_
          refine g_iload_n 1 e_P_right_75 rfl rfl ?_
          obtain ⟨h19, h⟩ := h
          refine p_iald e_P_right_76 sh_70 h19 ?_
          exact p_retI e_P_right_77.1 rfl h
        · replace h := iteF h c15
          refine g_tsd (tgt := 78) [(0 : Int32), (1 : Int32), (2 : Int32)] e_P_right_12 (List.forall_mem_cons.mpr ⟨c4, (List.forall_mem_cons.mpr ⟨c9, (List.forall_mem_cons.mpr ⟨c15, (fun _ h => absurd h List.not_mem_nil)⟩)⟩)⟩) (by decide) rfl ?_
          refine g_ldc (v := (-100000 : Int32)) (hd := e_P_right_78) ci_P_168 ?_
          exact p_retI e_P_right_80.1 rfl h
  · replace h := iteF h c3
    refine g_ldc (v := (-100000 : Int32)) (hd := e_P_right_8) ci_P_168 ?_
    exact p_retI e_P_right_10.1 rfl h
set_option maxHeartbeats 1000000 in
theorem s_P_world {l1 : Int32} {v : Vv} {Q : Int64 → Vv → Prop} (h : if l1 = (-1 : Int32) then (m_P_worked  (v) (fun (x2 : Nat) v3 => x2 = 1 ∧ (Q ((v3).2.1 1 11) (v3)))) else (m_P_isWorld l1 (v) (fun x5 v6 => if x5 = true then (m_P_worked  (v6) (fun (x8 : Nat) v9 => x8 = 1 ∧ ((ib (l1) 32) ∧ (Q ((v9).2.1 71 (ix (l1))) (v9))))) else (Q ((-4611686018427387904 : Int64)) (v6))))) : m_P_world l1 v Q := by
  refine cp_go (Nat.le_of_ble_eq_true rfl) (by decide +kernel) ?_
  show Gp 7 M_P_world 0 [(0, .ref (0)), (1, .int (l1))] [] v (QJ Q)
  refine g_iload_n 1 e_P_world_0 rfl rfl ?_
  refine g_iconst (-1 : Int32) e_P_world_1 (by decide) ?_
  refine g_icmp_ne (tgt := 13) e_P_world_2 rfl (fun c1 => ?_) (fun c1 => ?_)
  · replace h := iteF h c1
    refine g_aload_n 0 e_P_world_13 rfl rfl ?_
    refine g_iload_n 1 e_P_world_14 rfl rfl ?_
    refine p_callVZ (d' := 1) (ci := 9) (r := (RX9, TX9, 11)) (As := [.int (l1)]) (rest := []) e_P_world_15 zm_P_isWorld lV_P_165 sh_0 rfl rfl rfl rfl (Nat.le_of_ble_eq_true rfl) (by decide) ?_
    refine cp_mono h (fun _ v6 ⟨x5, e1, h⟩ => ⟨x5, e1, ?_⟩)
    refine p_ifz_eq (tgt := 33) e_P_world_18 rfl (fun c7 => ?_) (fun c7 => ?_)
    · replace h := iteF h c7
      refine g_ldc2 (v := (-4611686018427387904 : Int64)) (hd := e_P_world_33) cl_P_194 ?_
      exact p_retJ e_P_world_36.1 rfl h
    · replace h := iteT h c7
      refine g_aload_n 0 e_P_world_21 rfl rfl ?_
      refine p_callVR (d' := 6) (ci := 9) (r := (RX9, TX9, 11)) (As := []) (rest := []) e_P_world_22 zm_P_worked lV_P_143 sh_0 rfl rfl rfl rfl (Nat.le_of_ble_eq_true rfl) (by decide) ?_
      refine cp_mono h (fun _ v9 ⟨x8, e1, h⟩ => ⟨x8, e1, ?_⟩)
      obtain ⟨rfl, h⟩ := h
      refine p_getR (j := 71) e_P_world_25 sh_1 fl_P_190 rfl (rf_1_5 _) ?_
      refine g_iload_n 1 e_P_world_28 rfl rfl ?_
      obtain ⟨h11, h⟩ := h
      refine p_lald e_P_world_29 sh_71 h11 ?_
      refine g_goto (tgt := 36) e_P_world_30 rfl ?_
      exact p_retJ e_P_world_36.1 rfl h
  · replace h := iteT h c1
    refine g_aload_n 0 e_P_world_5 rfl rfl ?_
    refine p_callVR (d' := 6) (ci := 9) (r := (RX9, TX9, 11)) (As := []) (rest := []) e_P_world_6 zm_P_worked lV_P_143 sh_0 rfl rfl rfl rfl (Nat.le_of_ble_eq_true rfl) (by decide) ?_
    refine cp_mono h (fun _ v3 ⟨x2, e1, h⟩ => ⟨x2, e1, ?_⟩)
    obtain ⟨rfl, h⟩ := h
    refine p_getJ e_P_world_9 sh_1 fl_P_186 rfl ?_
    exact p_retJ e_P_world_12.1 rfl h
set_option maxHeartbeats 1000000 in
theorem s_P_odds {l1 : Int32} {l2 : Int32} {v : Vv} {Q : Int64 → Vv → Prop} (h : m_P_isClock l1 (v) (fun x1 v2 => if x1 = true then (m_P_isPart l2 (v2) (fun x4 v5 => if x4 = true then (m_P_worked  (v5) (fun (x7 : Nat) v8 => x7 = 1 ∧ (m_K_chanceRight l1 (v8) (fun x10 v11 => m_P_lowest x10 ((v11).2.1 1 11) l2 (v11) (fun x12 v13 => Q (x12) (v13)))))) else (Q ((-4611686018427387904 : Int64)) (v5)))) else (Q ((-4611686018427387904 : Int64)) (v2)))) : m_P_odds l1 l2 v Q := by
  refine cp_go (Nat.le_of_ble_eq_true rfl) (by decide +kernel) ?_
  show Gp 7 M_P_odds 0 [(0, .ref (0)), (1, .int (l1)), (2, .int (l2))] [] v (QJ Q)
  refine g_aload_n 0 e_P_odds_0 rfl rfl ?_
  refine g_iload_n 1 e_P_odds_1 rfl rfl ?_
  refine p_callVZ (d' := 1) (ci := 9) (r := (RX9, TX9, 11)) (As := [.int (l1)]) (rest := []) e_P_odds_2 zm_P_isClock lV_P_127 sh_0 rfl rfl rfl rfl (Nat.le_of_ble_eq_true rfl) (by decide) ?_
  refine cp_mono h (fun _ v2 ⟨x1, e1, h⟩ => ⟨x1, e1, ?_⟩)
  refine p_ifz_eq (tgt := 15) e_P_odds_5 rfl (fun c3 => ?_) (fun c3 => ?_)
  · replace h := iteF h c3
    refine g_ldc2 (v := (-4611686018427387904 : Int64)) (hd := e_P_odds_15) cl_P_194 ?_
    exact p_retJ e_P_odds_18.1 rfl h
  · replace h := iteT h c3
    refine g_iload_n 2 e_P_odds_8 rfl rfl ?_
    refine p_callSZ (d' := 1) (As := [.int (l2)]) (rest := []) e_P_odds_9 zm_P_isPart lS_P_196 rfl rfl (Nat.le_of_ble_eq_true rfl) (by decide) ?_
    refine cp_mono h (fun _ v5 ⟨x4, e1, h⟩ => ⟨x4, e1, ?_⟩)
    refine p_ifz_ne (tgt := 19) e_P_odds_12 rfl (fun c6 => ?_) (fun c6 => ?_)
    · replace h := iteT h c6
      refine g_aload_n 0 e_P_odds_19 rfl rfl ?_
      refine p_callVR (d' := 6) (ci := 9) (r := (RX9, TX9, 11)) (As := []) (rest := []) e_P_odds_20 zm_P_worked lV_P_143 sh_0 rfl rfl rfl rfl (Nat.le_of_ble_eq_true rfl) (by decide) ?_
      refine cp_mono h (fun _ v8 ⟨x7, e1, h⟩ => ⟨x7, e1, ?_⟩)
      obtain ⟨rfl, h⟩ := h
      refine g_astore_n (L' := [(3, .ref (1)), (0, .ref (0)), (1, .int (l1)), (2, .int (l2))]) e_P_odds_23 rfl (by decide) rfl ?_
      refine g_aload_n 1 e_P_odds_24 rfl rfl ?_
      refine p_getR (j := 116) e_P_odds_25 sh_0 fl_P_58 rfl (rf_0_9 _) ?_
      refine g_aload_n 0 e_P_odds_28 rfl rfl ?_
      refine g_iload_n 2 e_P_odds_29 rfl rfl ?_
      refine p_callVJ (d' := 1) (ci := 3) (r := (RX3, TX3, 2)) (As := [.ref (1), .int (l1)]) (rest := []) e_P_odds_30 zm_K_chanceRight lV_P_199 sh_116 rfl rfl rfl rfl (Nat.le_of_ble_eq_true rfl) (by decide) ?_
      refine cp_mono h (fun _ v11 ⟨x10, e1, h⟩ => ⟨x10, e1, ?_⟩)
      refine g_aload_n 0 e_P_odds_33 rfl rfl ?_
      refine p_getJ e_P_odds_34 sh_1 fl_P_186 rfl ?_
      refine g_iload_n 3 e_P_odds_37 rfl rfl ?_
      refine p_callSJ (d' := 1) (As := [.long (x10), .long ((v11).2.1 1 11), .int (l2)]) (rest := []) e_P_odds_38 zm_P_lowest lS_P_203 rfl rfl (Nat.le_of_ble_eq_true rfl) (by decide) ?_
      refine cp_mono h (fun _ v13 ⟨x12, e1, h⟩ => ⟨x12, e1, ?_⟩)
      exact p_retJ e_P_odds_41.1 rfl h
    · replace h := iteF h c6
      refine g_ldc2 (v := (-4611686018427387904 : Int64)) (hd := e_P_odds_15) cl_P_194 ?_
      exact p_retJ e_P_odds_18.1 rfl h
set_option maxHeartbeats 1000000 in
theorem s_P_time {l1 : Int32} {v : Vv} {Q : Int32 → Vv → Prop} (h : if l1 = (0 : Int32) then (m_P_worked  (v) (fun (x2 : Nat) v3 => x2 = 1 ∧ (m_K_likeliestTime  (v3) (fun x5 v6 => Q (x5) (v6))))) else (if l1 = (1 : Int32) then (m_P_worked  (v) (fun (x8 : Nat) v9 => x8 = 1 ∧ (m_K_unlikeTimes  (v9) (fun x11 v12 => Q (x11) (v12))))) else (Q ((-2 : Int32)) (v)))) : m_P_time l1 v Q := by
  refine cp_go (Nat.le_of_ble_eq_true rfl) (by decide +kernel) ?_
  show Gp 7 M_P_time 0 [(0, .ref (0)), (1, .int (l1))] [] v (QI Q)
  refine g_iload_n 1 e_P_time_0 rfl rfl ?_
  refine g_if_ne (tgt := 16) e_P_time_1 rfl (fun c1 => ?_) (fun c1 => ?_)
  · replace h := iteF h c1
    refine g_iload_n 1 e_P_time_16 rfl rfl ?_
    refine g_iconst (1 : Int32) e_P_time_17 (by decide) ?_
    refine g_icmp_ne (tgt := 35) e_P_time_18 rfl (fun c7 => ?_) (fun c7 => ?_)
    · replace h := iteF h c7
      refine g_bipush (-2 : Int32) e_P_time_35 (by decide) ?_
      exact p_retI e_P_time_37.1 rfl h
    · replace h := iteT h c7
      refine g_aload_n 0 e_P_time_21 rfl rfl ?_
      refine p_getR (j := 116) e_P_time_22 sh_0 fl_P_58 rfl (rf_0_9 _) ?_
      refine g_aload_n 0 e_P_time_25 rfl rfl ?_
      refine p_callVR (d' := 6) (ci := 9) (r := (RX9, TX9, 11)) (As := []) (rest := [.ref (116)]) e_P_time_26 zm_P_worked lV_P_143 sh_0 rfl rfl rfl rfl (Nat.le_of_ble_eq_true rfl) (by decide) ?_
      refine cp_mono h (fun _ v9 ⟨x8, e1, h⟩ => ⟨x8, e1, ?_⟩)
      obtain ⟨rfl, h⟩ := h
      refine p_callVI (d' := 3) (ci := 3) (r := (RX3, TX3, 2)) (As := [.ref (1)]) (rest := []) e_P_time_29 zm_K_unlikeTimes lV_P_211 sh_116 rfl rfl rfl rfl (Nat.le_of_ble_eq_true rfl) (by decide) ?_
      refine cp_mono h (fun _ v12 ⟨x11, e1, h⟩ => ⟨x11, e1, ?_⟩)
      refine g_goto (tgt := 37) e_P_time_32 rfl ?_
      exact p_retI e_P_time_37.1 rfl h
  · replace h := iteT h c1
    refine g_aload_n 0 e_P_time_4 rfl rfl ?_
    refine p_getR (j := 116) e_P_time_5 sh_0 fl_P_58 rfl (rf_0_9 _) ?_
    refine g_aload_n 0 e_P_time_8 rfl rfl ?_
    refine p_callVR (d' := 6) (ci := 9) (r := (RX9, TX9, 11)) (As := []) (rest := [.ref (116)]) e_P_time_9 zm_P_worked lV_P_143 sh_0 rfl rfl rfl rfl (Nat.le_of_ble_eq_true rfl) (by decide) ?_
    refine cp_mono h (fun _ v3 ⟨x2, e1, h⟩ => ⟨x2, e1, ?_⟩)
    obtain ⟨rfl, h⟩ := h
    refine p_callVI (d' := 4) (ci := 3) (r := (RX3, TX3, 2)) (As := [.ref (1)]) (rest := []) e_P_time_12 zm_K_likeliestTime lV_P_207 sh_116 rfl rfl rfl rfl (Nat.le_of_ble_eq_true rfl) (by decide) ?_
    refine cp_mono h (fun _ v6 ⟨x5, e1, h⟩ => ⟨x5, e1, ?_⟩)
    exact p_retI e_P_time_15.1 rfl h
set_option maxHeartbeats 1000000 in
theorem s_P_sure {l1 : Int32} {v : Vv} {Q : Int64 → Vv → Prop} (h : m_P_worked  (v) (fun (x1 : Nat) v2 => x1 = 1 ∧ (m_P_isPart l1 (v2) (fun x4 v5 => if x4 = true then (m_K_likeliestTime  (v5) (fun x7 v8 => if x7 = (-1 : Int32) then (Q ((-4611686018427387904 : Int64)) (v8)) else (m_K_chanceOfTime  (v8) (fun x10 v11 => m_P_lowest x10 ((v11).2.1 1 11) l1 (v11) (fun x12 v13 => Q (x12) (v13)))))) else (Q ((-4611686018427387904 : Int64)) (v5)))))) : m_P_sure l1 v Q := by
  refine cp_go (Nat.le_of_ble_eq_true rfl) (by decide +kernel) ?_
  show Gp 7 M_P_sure 0 [(0, .ref (0)), (1, .int (l1))] [] v (QJ Q)
  refine g_aload_n 0 e_P_sure_0 rfl rfl ?_
  refine p_callVR (d' := 6) (ci := 9) (r := (RX9, TX9, 11)) (As := []) (rest := []) e_P_sure_1 zm_P_worked lV_P_143 sh_0 rfl rfl rfl rfl (Nat.le_of_ble_eq_true rfl) (by decide) ?_
  refine cp_mono h (fun _ v2 ⟨x1, e1, h⟩ => ⟨x1, e1, ?_⟩)
  obtain ⟨rfl, h⟩ := h
  refine g_astore_n (L' := [(2, .ref (1)), (0, .ref (0)), (1, .int (l1))]) e_P_sure_4 rfl (by decide) rfl ?_
  refine g_iload_n 2 e_P_sure_5 rfl rfl ?_
  refine p_callSZ (d' := 1) (As := [.int (l1)]) (rest := []) e_P_sure_6 zm_P_isPart lS_P_196 rfl rfl (Nat.le_of_ble_eq_true rfl) (by decide) ?_
  refine cp_mono h (fun _ v5 ⟨x4, e1, h⟩ => ⟨x4, e1, ?_⟩)
  refine p_ifz_eq (tgt := 24) e_P_sure_9 rfl (fun c6 => ?_) (fun c6 => ?_)
  · replace h := iteF h c6
    refine g_ldc2 (v := (-4611686018427387904 : Int64)) (hd := e_P_sure_24) cl_P_194 ?_
    exact p_retJ e_P_sure_27.1 rfl h
  · replace h := iteT h c6
    refine g_aload_n 1 e_P_sure_12 rfl rfl ?_
    refine p_getR (j := 116) e_P_sure_13 sh_0 fl_P_58 rfl (rf_0_9 _) ?_
    refine g_aload_n 0 e_P_sure_16 rfl rfl ?_
    refine p_callVI (d' := 4) (ci := 3) (r := (RX3, TX3, 2)) (As := [.ref (1)]) (rest := []) e_P_sure_17 zm_K_likeliestTime lV_P_207 sh_116 rfl rfl rfl rfl (Nat.le_of_ble_eq_true rfl) (by decide) ?_
    refine cp_mono h (fun _ v8 ⟨x7, e1, h⟩ => ⟨x7, e1, ?_⟩)
    refine g_iconst (-1 : Int32) e_P_sure_20 (by decide) ?_
    refine g_icmp_ne (tgt := 28) e_P_sure_21 rfl (fun c9 => ?_) (fun c9 => ?_)
    · replace h := iteF h c9
      refine g_aload_n 1 e_P_sure_28 rfl rfl ?_
      refine p_getR (j := 116) e_P_sure_29 sh_0 fl_P_58 rfl (rf_0_9 _) ?_
      refine g_aload_n 0 e_P_sure_32 rfl rfl ?_
      refine p_callVJ (d' := 3) (ci := 3) (r := (RX3, TX3, 2)) (As := [.ref (1)]) (rest := []) e_P_sure_33 zm_K_chanceOfTime lV_P_214 sh_116 rfl rfl rfl rfl (Nat.le_of_ble_eq_true rfl) (by decide) ?_
      refine cp_mono h (fun _ v11 ⟨x10, e1, h⟩ => ⟨x10, e1, ?_⟩)
      refine g_aload_n 0 e_P_sure_36 rfl rfl ?_
      refine p_getJ e_P_sure_37 sh_1 fl_P_186 rfl ?_
      refine g_iload_n 2 e_P_sure_40 rfl rfl ?_
      refine p_callSJ (d' := 1) (As := [.long (x10), .long ((v11).2.1 1 11), .int (l1)]) (rest := []) e_P_sure_41 zm_P_lowest lS_P_203 rfl rfl (Nat.le_of_ble_eq_true rfl) (by decide) ?_
      refine cp_mono h (fun _ v13 ⟨x12, e1, h⟩ => ⟨x12, e1, ?_⟩)
      exact p_retJ e_P_sure_44.1 rfl h
    · replace h := iteT h c9
      refine g_ldc2 (v := (-4611686018427387904 : Int64)) (hd := e_P_sure_24) cl_P_194 ?_
      exact p_retJ e_P_sure_27.1 rfl h
set_option maxHeartbeats 1000000 in
theorem s_P_look  {v : Vv} {Q : Int32 → Vv → Prop} (h : m_P_worked  (v) (fun (x1 : Nat) v2 => x1 = 1 ∧ (m_K_nextToSee  (v2) (fun x4 v5 => Q (x4) (v5))))) : m_P_look  v Q := by
  refine cp_go (Nat.le_of_ble_eq_true rfl) (by decide +kernel) ?_
  show Gp 7 M_P_look 0 [(0, .ref (0))] [] v (QI Q)
  refine g_aload_n 0 e_P_look_0 rfl rfl ?_
  refine p_getR (j := 116) e_P_look_1 sh_0 fl_P_58 rfl (rf_0_9 _) ?_
  refine g_aload_n 0 e_P_look_4 rfl rfl ?_
  refine p_callVR (d' := 6) (ci := 9) (r := (RX9, TX9, 11)) (As := []) (rest := [.ref (116)]) e_P_look_5 zm_P_worked lV_P_143 sh_0 rfl rfl rfl rfl (Nat.le_of_ble_eq_true rfl) (by decide) ?_
  refine cp_mono h (fun _ v2 ⟨x1, e1, h⟩ => ⟨x1, e1, ?_⟩)
  obtain ⟨rfl, h⟩ := h
  refine p_callVI (d' := 4) (ci := 3) (r := (RX3, TX3, 2)) (As := [.ref (1)]) (rest := []) e_P_look_8 zm_K_nextToSee lV_P_218 sh_116 rfl rfl rfl rfl (Nat.le_of_ble_eq_true rfl) (by decide) ?_
  refine cp_mono h (fun _ v5 ⟨x4, e1, h⟩ => ⟨x4, e1, ?_⟩)
  exact p_retI e_P_look_11.1 rfl h
set_option maxHeartbeats 1000000 in
theorem s_P_fewest  {v : Vv} {Q : Int32 → Vv → Prop} (h : m_P_worked  (v) (fun (x1 : Nat) v2 => x1 = 1 ∧ (m_K_fewestThatTell  (v2) (fun x4 v5 => Q (x4) (v5))))) : m_P_fewest  v Q := by
  refine cp_go (Nat.le_of_ble_eq_true rfl) (by decide +kernel) ?_
  show Gp 7 M_P_fewest 0 [(0, .ref (0))] [] v (QI Q)
  refine g_aload_n 0 e_P_fewest_0 rfl rfl ?_
  refine p_getR (j := 116) e_P_fewest_1 sh_0 fl_P_58 rfl (rf_0_9 _) ?_
  refine g_aload_n 0 e_P_fewest_4 rfl rfl ?_
  refine p_callVR (d' := 6) (ci := 9) (r := (RX9, TX9, 11)) (As := []) (rest := [.ref (116)]) e_P_fewest_5 zm_P_worked lV_P_143 sh_0 rfl rfl rfl rfl (Nat.le_of_ble_eq_true rfl) (by decide) ?_
  refine cp_mono h (fun _ v2 ⟨x1, e1, h⟩ => ⟨x1, e1, ?_⟩)
  obtain ⟨rfl, h⟩ := h
  refine p_callVI (d' := 3) (ci := 3) (r := (RX3, TX3, 2)) (As := [.ref (1)]) (rest := []) e_P_fewest_8 zm_K_fewestThatTell lV_P_221 sh_116 rfl rfl rfl rfl (Nat.le_of_ble_eq_true rfl) (by decide) ?_
  refine cp_mono h (fun _ v5 ⟨x4, e1, h⟩ => ⟨x4, e1, ?_⟩)
  exact p_retI e_P_fewest_11.1 rfl h
set_option maxHeartbeats 1000000 in
theorem s_P_ask  {v : Vv} {Q : Int32 → Vv → Prop} (h : m_P_worked  (v) (fun (x1 : Nat) v2 => x1 = 1 ∧ (m_K_whomToAsk  (v2) (fun x4 v5 => Q (x4) (v5))))) : m_P_ask  v Q := by
  refine cp_go (Nat.le_of_ble_eq_true rfl) (by decide +kernel) ?_
  show Gp 7 M_P_ask 0 [(0, .ref (0))] [] v (QI Q)
  refine g_aload_n 0 e_P_ask_0 rfl rfl ?_
  refine p_getR (j := 116) e_P_ask_1 sh_0 fl_P_58 rfl (rf_0_9 _) ?_
  refine g_aload_n 0 e_P_ask_4 rfl rfl ?_
  refine p_callVR (d' := 6) (ci := 9) (r := (RX9, TX9, 11)) (As := []) (rest := [.ref (116)]) e_P_ask_5 zm_P_worked lV_P_143 sh_0 rfl rfl rfl rfl (Nat.le_of_ble_eq_true rfl) (by decide) ?_
  refine cp_mono h (fun _ v2 ⟨x1, e1, h⟩ => ⟨x1, e1, ?_⟩)
  obtain ⟨rfl, h⟩ := h
  refine p_callVI (d' := 2) (ci := 3) (r := (RX3, TX3, 2)) (As := [.ref (1)]) (rest := []) e_P_ask_8 zm_K_whomToAsk lV_P_224 sh_116 rfl rfl rfl rfl (Nat.le_of_ble_eq_true rfl) (by decide) ?_
  refine cp_mono h (fun _ v5 ⟨x4, e1, h⟩ => ⟨x4, e1, ?_⟩)
  exact p_retI e_P_ask_11.1 rfl h
set_option maxHeartbeats 1000000 in
theorem s_P_say {l1 : Int32} {v : Vv} {Q : Int32 → Vv → Prop} (h : if l1 = (0 : Int32) then (k_P_say_12 (l1) (v) Q) else (if l1 = (1 : Int32) then (k_P_say_12 (l1) (v) Q) else (Q ((-2 : Int32)) (v)))) : m_P_say l1 v Q := by
  refine cp_go (Nat.le_of_ble_eq_true rfl) (by decide +kernel) ?_
  show Gp 7 M_P_say 0 [(0, .ref (0)), (1, .int (l1))] [] v (QI Q)
  refine g_iload_n 1 e_P_say_0 rfl rfl ?_
  refine g_if_eq (tgt := 12) e_P_say_1 rfl (fun c1 => ?_) (fun c1 => ?_)
  · replace h := iteT h c1
    exact g_sub [0, 1] rfl h
  · replace h := iteF h c1
    refine g_iload_n 1 e_P_say_4 rfl rfl ?_
    refine g_iconst (1 : Int32) e_P_say_5 (by decide) ?_
    refine g_icmp_eq (tgt := 12) e_P_say_6 rfl (fun c2 => ?_) (fun c2 => ?_)
    · replace h := iteT h c2
      exact g_sub [0, 1] rfl h
    · replace h := iteF h c2
      refine g_bipush (-2 : Int32) e_P_say_9 (by decide) ?_
      exact p_retI e_P_say_11.1 rfl h
set_option maxHeartbeats 1000000 in
theorem s_P_say_12 {l1 : Int32} {v : Vv} {Q : Int32 → Vv → Prop} (h : m_P_worked  (v) (fun (x3 : Nat) v4 => x3 = 1 ∧ (m_K_worldOfMostRight  (v4) (fun x6 v7 => if l1 = (0 : Int32) then (Q (x6) (v7)) else ((ib (x6) 32) ∧ (m_JI_bitCount ((v7).1 68 (ix (x6))) (v7) (fun x10 v11 => Q (x10) (v11)))))))) : k_P_say_12 l1 v Q := by
  show Gp 7 M_P_say 12 [(0, .ref (0)), (1, .int (l1))] [] v (QI Q)
  refine g_aload_n 0 e_P_say_12 rfl rfl ?_
  refine p_callVR (d' := 6) (ci := 9) (r := (RX9, TX9, 11)) (As := []) (rest := []) e_P_say_13 zm_P_worked lV_P_143 sh_0 rfl rfl rfl rfl (Nat.le_of_ble_eq_true rfl) (by decide) ?_
  refine cp_mono h (fun _ v4 ⟨x3, e1, h⟩ => ⟨x3, e1, ?_⟩)
  obtain ⟨rfl, h⟩ := h
  refine g_astore_n (L' := [(2, .ref (1)), (0, .ref (0)), (1, .int (l1))]) e_P_say_16 rfl (by decide) rfl ?_
  refine g_aload_n 1 e_P_say_17 rfl rfl ?_
  refine p_getR (j := 116) e_P_say_18 sh_0 fl_P_58 rfl (rf_0_9 _) ?_
  refine g_aload_n 0 e_P_say_21 rfl rfl ?_
  refine p_callVI (d' := 2) (ci := 3) (r := (RX3, TX3, 2)) (As := [.ref (1)]) (rest := []) e_P_say_22 zm_K_worldOfMostRight lV_P_227 sh_116 rfl rfl rfl rfl (Nat.le_of_ble_eq_true rfl) (by decide) ?_
  refine cp_mono h (fun _ v7 ⟨x6, e1, h⟩ => ⟨x6, e1, ?_⟩)
  refine g_istore_n (L' := [(3, .int (x6)), (2, .ref (1)), (0, .ref (0)), (1, .int (l1))]) e_P_say_25 rfl (by decide) rfl ?_
  refine g_iload_n 3 e_P_say_26 rfl rfl ?_
  refine g_if_ne (tgt := 34) e_P_say_27 rfl (fun c8 => ?_) (fun c8 => ?_)
  · replace h := iteF h c8
    refine g_aload_n 1 e_P_say_34 rfl rfl ?_
    refine p_getR (j := 68) e_P_say_35 sh_1 fl_P_176 rfl (rf_1_2 _) ?_
    refine g_iload_n 0 e_P_say_38 rfl rfl ?_
    obtain ⟨h9, h⟩ := h
    refine p_iald e_P_say_39 sh_68 h9 ?_
    refine p_callSI (d' := 1) (As := [.int ((v7).1 68 (ix (x6)))]) (rest := []) e_P_say_40 zm_JI_bitCount lS_P_230 rfl rfl (Nat.le_of_ble_eq_true rfl) (by decide) ?_
    refine cp_mono h (fun _ v11 ⟨x10, e1, h⟩ => ⟨x10, e1, ?_⟩)
    exact p_retI e_P_say_43.1 rfl h
  · replace h := iteT h c8
    refine g_iload_n 0 e_P_say_30 rfl rfl ?_
    refine g_goto (tgt := 43) e_P_say_31 rfl ?_
    exact p_retI e_P_say_43.1 rfl h
set_option maxHeartbeats 1000000 in
theorem s_P_bad {l1 : Int32} {v : Vv} {Q : Int64 → Vv → Prop} (h : m_P_isPart l1 (v) (fun x1 v2 => if x1 = true then (m_P_worked  (v2) (fun (x4 : Nat) v5 => x4 = 1 ∧ (m_K_badness  (v5) (fun x7 v8 => m_P_lowest x7 ((v8).2.1 1 11) l1 (v8) (fun x9 v10 => Q (x9) (v10)))))) else (Q ((-4611686018427387904 : Int64)) (v2)))) : m_P_bad l1 v Q := by
  refine cp_go (Nat.le_of_ble_eq_true rfl) (by decide +kernel) ?_
  show Gp 7 M_P_bad 0 [(0, .ref (0)), (1, .int (l1))] [] v (QJ Q)
  refine g_iload_n 1 e_P_bad_0 rfl rfl ?_
  refine p_callSZ (d' := 1) (As := [.int (l1)]) (rest := []) e_P_bad_1 zm_P_isPart lS_P_196 rfl rfl (Nat.le_of_ble_eq_true rfl) (by decide) ?_
  refine cp_mono h (fun _ v2 ⟨x1, e1, h⟩ => ⟨x1, e1, ?_⟩)
  refine p_ifz_ne (tgt := 11) e_P_bad_4 rfl (fun c3 => ?_) (fun c3 => ?_)
  · replace h := iteT h c3
    refine g_aload_n 0 e_P_bad_11 rfl rfl ?_
    refine p_callVR (d' := 6) (ci := 9) (r := (RX9, TX9, 11)) (As := []) (rest := []) e_P_bad_12 zm_P_worked lV_P_143 sh_0 rfl rfl rfl rfl (Nat.le_of_ble_eq_true rfl) (by decide) ?_
    refine cp_mono h (fun _ v5 ⟨x4, e1, h⟩ => ⟨x4, e1, ?_⟩)
    obtain ⟨rfl, h⟩ := h
    refine g_astore_n (L' := [(2, .ref (1)), (0, .ref (0)), (1, .int (l1))]) e_P_bad_15 rfl (by decide) rfl ?_
    refine g_aload_n 1 e_P_bad_16 rfl rfl ?_
    refine p_getR (j := 116) e_P_bad_17 sh_0 fl_P_58 rfl (rf_0_9 _) ?_
    refine g_aload_n 0 e_P_bad_20 rfl rfl ?_
    refine p_callVJ (d' := 5) (ci := 3) (r := (RX3, TX3, 2)) (As := [.ref (1)]) (rest := []) e_P_bad_21 zm_K_badness lV_P_235 sh_116 rfl rfl rfl rfl (Nat.le_of_ble_eq_true rfl) (by decide) ?_
    refine cp_mono h (fun _ v8 ⟨x7, e1, h⟩ => ⟨x7, e1, ?_⟩)
    refine g_aload_n 0 e_P_bad_24 rfl rfl ?_
    refine p_getJ e_P_bad_25 sh_1 fl_P_186 rfl ?_
    refine g_iload_n 2 e_P_bad_28 rfl rfl ?_
    refine p_callSJ (d' := 1) (As := [.long (x7), .long ((v8).2.1 1 11), .int (l1)]) (rest := []) e_P_bad_29 zm_P_lowest lS_P_203 rfl rfl (Nat.le_of_ble_eq_true rfl) (by decide) ?_
    refine cp_mono h (fun _ v10 ⟨x9, e1, h⟩ => ⟨x9, e1, ?_⟩)
    exact p_retJ e_P_bad_32.1 rfl h
  · replace h := iteF h c3
    refine g_ldc2 (v := (-4611686018427387904 : Int64)) (hd := e_P_bad_7) cl_P_194 ?_
    exact p_retJ e_P_bad_10.1 rfl h
set_option maxHeartbeats 1000000 in
theorem s_P_late {l1 : Int32} {v : Vv} {Q : Int32 → Vv → Prop} (h : m_P_isClock l1 (v) (fun x1 v2 => if x1 = true then (m_P_worked  (v2) (fun (x4 : Nat) v5 => x4 = 1 ∧ (m_K_latest l1 (v5) (fun x7 v8 => Q (x7) (v8))))) else (Q ((-2 : Int32)) (v2)))) : m_P_late l1 v Q := by
  refine cp_go (Nat.le_of_ble_eq_true rfl) (by decide +kernel) ?_
  show Gp 7 M_P_late 0 [(0, .ref (0)), (1, .int (l1))] [] v (QI Q)
  refine g_aload_n 0 e_P_late_0 rfl rfl ?_
  refine g_iload_n 1 e_P_late_1 rfl rfl ?_
  refine p_callVZ (d' := 1) (ci := 9) (r := (RX9, TX9, 11)) (As := [.int (l1)]) (rest := []) e_P_late_2 zm_P_isClock lV_P_127 sh_0 rfl rfl rfl rfl (Nat.le_of_ble_eq_true rfl) (by decide) ?_
  refine cp_mono h (fun _ v2 ⟨x1, e1, h⟩ => ⟨x1, e1, ?_⟩)
  refine p_ifz_eq (tgt := 23) e_P_late_5 rfl (fun c3 => ?_) (fun c3 => ?_)
  · replace h := iteF h c3
    refine g_bipush (-2 : Int32) e_P_late_23 (by decide) ?_
    exact p_retI e_P_late_25.1 rfl h
  · replace h := iteT h c3
    refine g_aload_n 0 e_P_late_8 rfl rfl ?_
    refine p_getR (j := 116) e_P_late_9 sh_0 fl_P_58 rfl (rf_0_9 _) ?_
    refine g_aload_n 0 e_P_late_12 rfl rfl ?_
    refine p_callVR (d' := 6) (ci := 9) (r := (RX9, TX9, 11)) (As := []) (rest := [.ref (116)]) e_P_late_13 zm_P_worked lV_P_143 sh_0 rfl rfl rfl rfl (Nat.le_of_ble_eq_true rfl) (by decide) ?_
    refine cp_mono h (fun _ v5 ⟨x4, e1, h⟩ => ⟨x4, e1, ?_⟩)
    obtain ⟨rfl, h⟩ := h
    refine g_iload_n 1 e_P_late_16 rfl rfl ?_
    refine p_callVI (d' := 2) (ci := 3) (r := (RX3, TX3, 2)) (As := [.ref (1), .int (l1)]) (rest := []) e_P_late_17 zm_K_latest lV_P_238 sh_116 rfl rfl rfl rfl (Nat.le_of_ble_eq_true rfl) (by decide) ?_
    refine cp_mono h (fun _ v8 ⟨x7, e1, h⟩ => ⟨x7, e1, ?_⟩)
    refine g_goto (tgt := 25) e_P_late_20 rfl ?_
    exact p_retI e_P_late_25.1 rfl h
set_option maxHeartbeats 1000000 in
theorem s_P_live {l1 : Int32} {v : Vv} {Q : Int32 → Vv → Prop} (h : m_P_isWorld l1 (v) (fun x1 v2 => if x1 = true then (m_P_worked  (v2) (fun (x4 : Nat) v5 => x4 = 1 ∧ (k_P_live_18 (l1) ((0 : Int32)) (v5) Q))) else (Q ((-2 : Int32)) (v2)))) : m_P_live l1 v Q := by
  refine cp_go (Nat.le_of_ble_eq_true rfl) (by decide +kernel) ?_
  show Gp 7 M_P_live 0 [(0, .ref (0)), (1, .int (l1))] [] v (QI Q)
  refine g_aload_n 0 e_P_live_0 rfl rfl ?_
  refine g_iload_n 1 e_P_live_1 rfl rfl ?_
  refine p_callVZ (d' := 1) (ci := 9) (r := (RX9, TX9, 11)) (As := [.int (l1)]) (rest := []) e_P_live_2 zm_P_isWorld lV_P_165 sh_0 rfl rfl rfl rfl (Nat.le_of_ble_eq_true rfl) (by decide) ?_
  refine cp_mono h (fun _ v2 ⟨x1, e1, h⟩ => ⟨x1, e1, ?_⟩)
  refine p_ifz_ne (tgt := 11) e_P_live_5 rfl (fun c3 => ?_) (fun c3 => ?_)
  · replace h := iteT h c3
    refine g_aload_n 0 e_P_live_11 rfl rfl ?_
    refine p_callVR (d' := 6) (ci := 9) (r := (RX9, TX9, 11)) (As := []) (rest := []) e_P_live_12 zm_P_worked lV_P_143 sh_0 rfl rfl rfl rfl (Nat.le_of_ble_eq_true rfl) (by decide) ?_
    refine cp_mono h (fun _ v5 ⟨x4, e1, h⟩ => ⟨x4, e1, ?_⟩)
    obtain ⟨rfl, h⟩ := h
    refine g_astore_n (L' := [(2, .ref (1)), (0, .ref (0)), (1, .int (l1))]) e_P_live_15 rfl (by decide) rfl ?_
    refine g_iconst (0 : Int32) e_P_live_16 (by decide) ?_
    refine g_istore_n (L' := [(3, .int ((0 : Int32))), (2, .ref (1)), (0, .ref (0)), (1, .int (l1))]) e_P_live_17 rfl (by decide) rfl ?_
    exact g_sub [2, 3, 1, 0] rfl h
  · replace h := iteF h c3
    refine g_bipush (-2 : Int32) e_P_live_8 (by decide) ?_
    exact p_retI e_P_live_10.1 rfl h
set_option maxHeartbeats 1000000 in
theorem s_P_live_18 {l1 : Int32} {l3 : Int32} {v : Vv} {Q : Int32 → Vv → Prop} (h : if l3 < (v).1 74 2 then ((ib (l3) 6) ∧ ((ib (l1) 32) ∧ (m_P_bounded ((v).1 (3 + ix (l1)) (ix (l3)) - (60 : Int32)) (-120 : Int32) (120 : Int32) (v) (fun x10 v11 => k_P_live_18 (l1) ((l3 + (1 : Int32))) (sI (sI (v11) (77 + ix (l3)) 1 x10) (77 + ix (l3)) 3 (-1 : Int32)) Q)))) else ((ib (l1) 32) ∧ (m_JI_bitCount ((sI (v) 1 12 (1 : Int32)).1 68 (ix (l1))) (sI (v) 1 12 (1 : Int32)) (fun x13 v14 => Q (x13) (v14))))) : k_P_live_18 l1 l3 v Q := by
  show Gp 7 M_P_live 18 [(0, .ref (0)), (1, .int (l1)), (2, .ref (1)), (3, .int (l3))] [] v (QI Q)
  refine g_iload_n 3 e_P_live_18 rfl rfl ?_
  refine g_aload_n 0 e_P_live_19 rfl rfl ?_
  refine p_getR (j := 74) e_P_live_20 sh_0 fl_P_20 rfl (rf_0_1 _) ?_
  refine p_getI e_P_live_23 sh_74 fl_P_81 rfl ?_
  refine g_icmp_ge (tgt := 75) e_P_live_26 rfl (fun c7 => ?_) (fun c7 => ?_)
  · replace h := iteF h c7
    refine g_aload_n 0 e_P_live_75 rfl rfl ?_
    refine p_getR (j := 1) e_P_live_76 sh_0 fl_P_10 rfl (rf_0_0 _) ?_
    refine g_iconst (1 : Int32) e_P_live_79 (by decide) ?_
    refine p_putI e_P_live_80 sh_1 fp_P_102 rfl rfl rfl ?_
    refine g_aload_n 2 e_P_live_83 rfl rfl ?_
    refine p_getR (j := 68) e_P_live_84 sh_1 fl_P_176 rfl (rf_1_2 _) ?_
    refine g_iload_n 1 e_P_live_87 rfl rfl ?_
    obtain ⟨h12, h⟩ := h
    refine p_iald e_P_live_88 sh_68 h12 ?_
    refine p_callSI (d' := 1) (As := [.int ((sI (v) 1 12 (1 : Int32)).1 68 (ix (l1)))]) (rest := []) e_P_live_89 zm_JI_bitCount lS_P_230 rfl rfl (Nat.le_of_ble_eq_true rfl) (by decide) ?_
    refine cp_mono h (fun _ v14 ⟨x13, e1, h⟩ => ⟨x13, e1, ?_⟩)
    exact p_retI e_P_live_92.1 rfl h
  · replace h := iteT h c7
    refine g_aload_n 0 e_P_live_29 rfl rfl ?_
    refine p_getR (j := 74) e_P_live_30 sh_0 fl_P_20 rfl (rf_0_1 _) ?_
    refine p_getR (j := 75) e_P_live_33 sh_74 fl_P_84 rfl (rf_74_0 _) ?_
    refine g_iload_n 3 e_P_live_36 rfl rfl ?_
    obtain ⟨h8, h⟩ := h
    refine p_aald (j := (77 + ix (l3))) e_P_live_37 sh_75 (by decide) rfl h8 (el_74c h8 _) ?_
    refine g_astore (L' := [(4, .ref ((77 + ix (l3)))), (0, .ref (0)), (1, .int (l1)), (2, .ref (1)), (3, .int (l3))]) e_P_live_38 (by decide) rfl ?_
    refine g_aload 0 e_P_live_40 rfl ?_
    refine g_aload_n 3 e_P_live_42 rfl rfl ?_
    refine p_getR (j := 2) e_P_live_43 sh_1 fl_P_169 rfl (rf_1_0 _) ?_
    refine g_iload_n 2 e_P_live_46 rfl rfl ?_
    obtain ⟨h9, h⟩ := h
    refine p_aald (j := (3 + ix (l1))) e_P_live_47 sh_2 (by decide) rfl h9 (el_at h9 _) ?_
    refine g_iload_n 4 e_P_live_48 rfl rfl ?_
    refine p_iald e_P_live_49 (el_at_s h9) h8 ?_
    refine g_bipush (60 : Int32) e_P_live_50 (by decide) ?_
    refine g_isub e_P_live_52 ?_
    refine g_bipush (-120 : Int32) e_P_live_53 (by decide) ?_
    refine g_bipush (120 : Int32) e_P_live_55 (by decide) ?_
    refine p_callSI (d' := 2) (As := [.int (((v).1 (3 + ix (l1)) (ix (l3)) - (60 : Int32))), .int ((-120 : Int32)), .int ((120 : Int32))]) (rest := [.ref ((77 + ix (l3)))]) e_P_live_57 zm_P_bounded lS_P_242 rfl rfl (Nat.le_of_ble_eq_true rfl) (by decide) ?_
    refine cp_mono h (fun _ v11 ⟨x10, e1, h⟩ => ⟨x10, e1, ?_⟩)
    refine p_putI e_P_live_60 (isClock_o (el_74c_k h8)) fp_P_96 rfl rfl rfl ?_
    refine g_aload 0 e_P_live_63 rfl ?_
    refine g_iconst (-1 : Int32) e_P_live_65 (by decide) ?_
    refine p_putI e_P_live_66 (isClock_o (el_74c_k h8)) fp_P_99 rfl rfl rfl ?_
    refine g_iinc (v := (l3 + (1 : Int32))) (L' := [(3, .int ((l3 + (1 : Int32)))), (4, .ref ((77 + ix (l3)))), (0, .ref (0)), (1, .int (l1)), (2, .ref (1))]) 4 e_P_live_69 rfl rfl (by decide) rfl ?_
    refine g_goto (tgt := 18) e_P_live_72 rfl ?_
    exact g_sub [2, 3, 4, 0] rfl h
set_option maxHeartbeats 1000000 in
theorem s_P_tellsBack {l1 : Int32} {l2 : Int32} {v : Vv} {Q : Int32 → Vv → Prop} (h : m_P_isSheet l1 (v) (fun x1 v2 => if x1 = true then (if l2 < (0 : Int32) then (Q ((-2 : Int32)) (v2)) else (if (2 : Int32) < l2 then (Q ((-2 : Int32)) (v2)) else ((ib (l1) 4) ∧ (if (v2).1 (146 + 2 * ix (l1)) 1 = (-1 : Int32) then (Q ((-11 : Int32)) (v2)) else (if (v2).1 (146 + 2 * ix (l1)) 2 = (v2).1 74 2 then (if l2 = (0 : Int32) then (m_P_worked  (v2) (fun (x10 : Nat) v11 => x10 = 1 ∧ (m_K_howManyAsTold (146 + 2 * ix (l1)) (v11) (fun x13 v14 => Q (x13) (v14))))) else (if l2 = (1 : Int32) then (m_P_worked  (v2) (fun (x16 : Nat) v17 => x16 = 1 ∧ (m_K_likeliestAsTold (146 + 2 * ix (l1)) (v17) (fun x19 v20 => Q (x19) (v20))))) else (m_P_worked  (v2) (fun (x21 : Nat) v22 => x21 = 1 ∧ (m_K_whoCameAsTold (146 + 2 * ix (l1)) (v22) (fun x24 v25 => Q (x24) (v25))))))) else (Q ((-2 : Int32)) (v2))))))) else (Q ((-2 : Int32)) (v2)))) : m_P_tellsBack l1 l2 v Q := by
  refine cp_go (Nat.le_of_ble_eq_true rfl) (by decide +kernel) ?_
  show Gp 7 M_P_tellsBack 0 [(0, .ref (0)), (1, .int (l1)), (2, .int (l2))] [] v (QI Q)
  refine g_iload_n 1 e_P_tellsBack_0 rfl rfl ?_
  refine p_callSZ (d' := 1) (As := [.int (l1)]) (rest := []) e_P_tellsBack_1 zm_P_isSheet lS_P_246 rfl rfl (Nat.le_of_ble_eq_true rfl) (by decide) ?_
  refine cp_mono h (fun _ v2 ⟨x1, e1, h⟩ => ⟨x1, e1, ?_⟩)
  refine p_ifz_eq (tgt := 16) e_P_tellsBack_4 rfl (fun c3 => ?_) (fun c3 => ?_)
  · replace h := iteF h c3
    refine g_bipush (-2 : Int32) e_P_tellsBack_16 (by decide) ?_
    exact p_retI e_P_tellsBack_18.1 rfl h
  · replace h := iteT h c3
    refine g_iload_n 2 e_P_tellsBack_7 rfl rfl ?_
    refine g_if_lt (tgt := 16) e_P_tellsBack_8 rfl (fun c4 => ?_) (fun c4 => ?_)
    · replace h := iteT h c4
      refine g_bipush (-2 : Int32) e_P_tellsBack_16 (by decide) ?_
      exact p_retI e_P_tellsBack_18.1 rfl h
    · replace h := iteF h c4
      refine g_iload_n 2 e_P_tellsBack_11 rfl rfl ?_
      refine g_iconst (2 : Int32) e_P_tellsBack_12 (by decide) ?_
      refine g_icmp_le (tgt := 19) e_P_tellsBack_13 rfl (fun c5 => ?_) (fun c5 => ?_)
      · replace h := iteF h c5
        refine g_aload_n 0 e_P_tellsBack_19 rfl rfl ?_
        refine p_getR (j := 121) e_P_tellsBack_20 sh_0 fl_P_64 rfl (rf_0_10 _) ?_
        refine g_iload_n 1 e_P_tellsBack_23 rfl rfl ?_
        obtain ⟨h6, h⟩ := h
        refine p_aald (j := (146 + 2 * ix (l1))) e_P_tellsBack_24 sh_121 (by decide) rfl h6 (el_sh h6 _) ?_
        refine g_astore_n (L' := [(3, .ref ((146 + 2 * ix (l1)))), (0, .ref (0)), (1, .int (l1)), (2, .int (l2))]) e_P_tellsBack_25 rfl (by decide) rfl ?_
        refine g_aload_n 0 e_P_tellsBack_26 rfl rfl ?_
        refine p_getI e_P_tellsBack_27 (isSheet_o (el_sh_k h6)) fl_P_249 rfl ?_
        refine g_iconst (-1 : Int32) e_P_tellsBack_30 (by decide) ?_
        refine g_icmp_ne (tgt := 37) e_P_tellsBack_31 rfl (fun c7 => ?_) (fun c7 => ?_)
        · replace h := iteF h c7
          refine g_aload_n 0 e_P_tellsBack_37 rfl rfl ?_
          refine p_getI e_P_tellsBack_38 (isSheet_o (el_sh_k h6)) fl_P_252 rfl ?_
          refine g_aload_n 1 e_P_tellsBack_41 rfl rfl ?_
          refine p_getR (j := 74) e_P_tellsBack_42 sh_0 fl_P_20 rfl (rf_0_1 _) ?_
          refine p_getI e_P_tellsBack_45 sh_74 fl_P_81 rfl ?_
          refine g_icmp_eq (tgt := 54) e_P_tellsBack_48 rfl (fun c8 => ?_) (fun c8 => ?_)
          · replace h := iteT h c8
            refine g_iload_n 3 e_P_tellsBack_54 rfl rfl ?_
            by_cases c9 : l2 = (0 : Int32)
            · replace h := iteT h c9
              refine g_lsw (tgt := 80) (off := 25) e_P_tellsBack_55 (by decide) (by rw [c9]; decide) rfl ?_
              refine g_aload_n 1 e_P_tellsBack_80 rfl rfl ?_
              refine p_getR (j := 116) e_P_tellsBack_81 sh_0 fl_P_58 rfl (rf_0_9 _) ?_
              refine g_aload_n 1 e_P_tellsBack_84 rfl rfl ?_
              refine p_callVR (d' := 6) (ci := 9) (r := (RX9, TX9, 11)) (As := []) (rest := [.ref (116)]) e_P_tellsBack_85 zm_P_worked lV_P_143 sh_0 rfl rfl rfl rfl (Nat.le_of_ble_eq_true rfl) (by decide) ?_
              refine cp_mono h (fun _ v11 ⟨x10, e1, h⟩ => ⟨x10, e1, ?_⟩)
              obtain ⟨rfl, h⟩ := h
              refine g_aload_n 0 e_P_tellsBack_88 rfl rfl ?_
              refine p_callVI (d' := 2) (ci := 3) (r := (RX3, TX3, 2)) (As := [.ref (1), .ref ((146 + 2 * ix (l1)))]) (rest := []) e_P_tellsBack_89 zm_K_howManyAsTold lV_P_255 sh_116 rfl rfl rfl rfl (Nat.le_of_ble_eq_true rfl) (by decide) ?_
              refine cp_mono h (fun _ v14 ⟨x13, e1, h⟩ => ⟨x13, e1, ?_⟩)
              exact p_retI e_P_tellsBack_92.1 rfl h
            · replace h := iteF h c9
              by_cases c15 : l2 = (1 : Int32)
              · replace h := iteT h c15
                refine g_lsw (tgt := 93) (off := 38) e_P_tellsBack_55 (by decide) (by rw [c15]; decide) rfl ?_
                refine g_aload_n 1 e_P_tellsBack_93 rfl rfl ?_
                refine p_getR (j := 116) e_P_tellsBack_94 sh_0 fl_P_58 rfl (rf_0_9 _) ?_
                refine g_aload_n 1 e_P_tellsBack_97 rfl rfl ?_
                refine p_callVR (d' := 6) (ci := 9) (r := (RX9, TX9, 11)) (As := []) (rest := [.ref (116)]) e_P_tellsBack_98 zm_P_worked lV_P_143 sh_0 rfl rfl rfl rfl (Nat.le_of_ble_eq_true rfl) (by decide) ?_
                refine cp_mono h (fun _ v17 ⟨x16, e1, h⟩ => ⟨x16, e1, ?_⟩)
                obtain ⟨rfl, h⟩ := h
                refine g_aload_n 0 e_P_tellsBack_101 rfl rfl ?_
                refine p_callVI (d' := 2) (ci := 3) (r := (RX3, TX3, 2)) (As := [.ref (1), .ref ((146 + 2 * ix (l1)))]) (rest := []) e_P_tellsBack_102 zm_K_likeliestAsTold lV_P_259 sh_116 rfl rfl rfl rfl (Nat.le_of_ble_eq_true rfl) (by decide) ?_
                refine cp_mono h (fun _ v20 ⟨x19, e1, h⟩ => ⟨x19, e1, ?_⟩)
                exact p_retI e_P_tellsBack_105.1 rfl h
              · replace h := iteF h c15
                refine g_lsw (tgt := 106) e_P_tellsBack_55 (by decide) ((lv_osw c9 rfl).trans ((lv_osw c15 rfl).trans rfl)) rfl ?_
                refine g_aload_n 1 e_P_tellsBack_106 rfl rfl ?_
                refine p_getR (j := 116) e_P_tellsBack_107 sh_0 fl_P_58 rfl (rf_0_9 _) ?_
                refine g_aload_n 1 e_P_tellsBack_110 rfl rfl ?_
                refine p_callVR (d' := 6) (ci := 9) (r := (RX9, TX9, 11)) (As := []) (rest := [.ref (116)]) e_P_tellsBack_111 zm_P_worked lV_P_143 sh_0 rfl rfl rfl rfl (Nat.le_of_ble_eq_true rfl) (by decide) ?_
                refine cp_mono h (fun _ v22 ⟨x21, e1, h⟩ => ⟨x21, e1, ?_⟩)
                obtain ⟨rfl, h⟩ := h
                refine g_aload_n 0 e_P_tellsBack_114 rfl rfl ?_
                refine p_callVI (d' := 2) (ci := 3) (r := (RX3, TX3, 2)) (As := [.ref (1), .ref ((146 + 2 * ix (l1)))]) (rest := []) e_P_tellsBack_115 zm_K_whoCameAsTold lV_P_262 sh_116 rfl rfl rfl rfl (Nat.le_of_ble_eq_true rfl) (by decide) ?_
                refine cp_mono h (fun _ v25 ⟨x24, e1, h⟩ => ⟨x24, e1, ?_⟩)
                exact p_retI e_P_tellsBack_118.1 rfl h
          · replace h := iteF h c8
            refine g_bipush (-2 : Int32) e_P_tellsBack_51 (by decide) ?_
            exact p_retI e_P_tellsBack_53.1 rfl h
        · replace h := iteT h c7
          refine g_bipush (-11 : Int32) e_P_tellsBack_34 (by decide) ?_
          exact p_retI e_P_tellsBack_36.1 rfl h
      · replace h := iteT h c5
        refine g_bipush (-2 : Int32) e_P_tellsBack_16 (by decide) ?_
        exact p_retI e_P_tellsBack_18.1 rfl h
set_option maxHeartbeats 1000000 in
theorem s_P_film {l1 : Int32} {l2 : Int32} {v : Vv} {Q : Int32 → Vv → Prop} (h : m_P_isSheet l1 (v) (fun x1 v2 => if x1 = true then (m_P_isWorld l2 (v2) (fun x4 v5 => if x4 = true then (m_P_worked  (v5) (fun (x7 : Nat) v8 => x7 = 1 ∧ ((ib (l2) 32) ∧ ((ib (l1) 4) ∧ (m_S_become (146 + 2 * ix (l1)) (0 : Int32) ((v8).1 74 2) (v8) (fun v13 => k_P_film_52 ((v8).1 68 (ix (l2))) ((146 + 2 * ix (l1))) ((0 : Int32)) (v13) Q)))))) else (Q ((-2 : Int32)) (v5)))) else (Q ((-2 : Int32)) (v2)))) : m_P_film l1 l2 v Q := by
  refine cp_go (Nat.le_of_ble_eq_true rfl) (by decide +kernel) ?_
  show Gp 7 M_P_film 0 [(0, .ref (0)), (1, .int (l1)), (2, .int (l2))] [] v (QI Q)
  refine g_iload_n 1 e_P_film_0 rfl rfl ?_
  refine p_callSZ (d' := 1) (As := [.int (l1)]) (rest := []) e_P_film_1 zm_P_isSheet lS_P_246 rfl rfl (Nat.le_of_ble_eq_true rfl) (by decide) ?_
  refine cp_mono h (fun _ v2 ⟨x1, e1, h⟩ => ⟨x1, e1, ?_⟩)
  refine p_ifz_eq (tgt := 15) e_P_film_4 rfl (fun c3 => ?_) (fun c3 => ?_)
  · replace h := iteF h c3
    refine g_bipush (-2 : Int32) e_P_film_15 (by decide) ?_
    exact p_retI e_P_film_17.1 rfl h
  · replace h := iteT h c3
    refine g_aload_n 0 e_P_film_7 rfl rfl ?_
    refine g_iload_n 2 e_P_film_8 rfl rfl ?_
    refine p_callVZ (d' := 1) (ci := 9) (r := (RX9, TX9, 11)) (As := [.int (l2)]) (rest := []) e_P_film_9 zm_P_isWorld lV_P_165 sh_0 rfl rfl rfl rfl (Nat.le_of_ble_eq_true rfl) (by decide) ?_
    refine cp_mono h (fun _ v5 ⟨x4, e1, h⟩ => ⟨x4, e1, ?_⟩)
    refine p_ifz_ne (tgt := 18) e_P_film_12 rfl (fun c6 => ?_) (fun c6 => ?_)
    · replace h := iteT h c6
      refine g_aload_n 0 e_P_film_18 rfl rfl ?_
      refine p_callVR (d' := 6) (ci := 9) (r := (RX9, TX9, 11)) (As := []) (rest := []) e_P_film_19 zm_P_worked lV_P_143 sh_0 rfl rfl rfl rfl (Nat.le_of_ble_eq_true rfl) (by decide) ?_
      refine cp_mono h (fun _ v8 ⟨x7, e1, h⟩ => ⟨x7, e1, ?_⟩)
      obtain ⟨rfl, h⟩ := h
      refine p_getR (j := 68) e_P_film_22 sh_1 fl_P_176 rfl (rf_1_2 _) ?_
      refine g_iload_n 2 e_P_film_25 rfl rfl ?_
      obtain ⟨h10, h⟩ := h
      refine p_iald e_P_film_26 sh_68 h10 ?_
      refine g_istore_n (L' := [(3, .int ((v8).1 68 (ix (l2)))), (0, .ref (0)), (1, .int (l1)), (2, .int (l2))]) e_P_film_27 rfl (by decide) rfl ?_
      refine g_aload_n 1 e_P_film_28 rfl rfl ?_
      refine p_getR (j := 121) e_P_film_29 sh_0 fl_P_64 rfl (rf_0_10 _) ?_
      refine g_iload_n 2 e_P_film_32 rfl rfl ?_
      obtain ⟨h11, h⟩ := h
      refine p_aald (j := (146 + 2 * ix (l1))) e_P_film_33 sh_121 (by decide) rfl h11 (el_sh h11 _) ?_
      refine g_astore (L' := [(4, .ref ((146 + 2 * ix (l1)))), (3, .int ((v8).1 68 (ix (l2)))), (0, .ref (0)), (1, .int (l1)), (2, .int (l2))]) e_P_film_34 (by decide) rfl ?_
      refine g_aload 0 e_P_film_36 rfl ?_
      refine g_iconst (0 : Int32) e_P_film_38 (by decide) ?_
      refine g_aload_n 2 e_P_film_39 rfl rfl ?_
      refine p_getR (j := 74) e_P_film_40 sh_0 fl_P_20 rfl (rf_0_1 _) ?_
      refine p_getI e_P_film_43 sh_74 fl_P_81 rfl ?_
      refine p_callVV (d' := 3) (ci := 5) (r := (RX5, TX5, 3)) (As := [.int ((0 : Int32)), .int ((v8).1 74 2)]) (rest := []) e_P_film_46 zm_S_become lV_P_265 (isSheet_o (el_sh_k h11)) rfl rfl rfl rfl (Nat.le_of_ble_eq_true rfl) (by decide) ?_
      refine cp_mono h (fun _ v13 ⟨e1, h⟩ => ⟨e1, ?_⟩)
      refine g_iconst (0 : Int32) e_P_film_49 (by decide) ?_
      refine g_istore (L' := [(5, .int ((0 : Int32))), (4, .ref ((146 + 2 * ix (l1)))), (3, .int ((v8).1 68 (ix (l2)))), (0, .ref (0)), (1, .int (l1)), (2, .int (l2))]) e_P_film_50 (by decide) rfl ?_
      exact g_sub [3, 2, 1, 0] rfl h
    · replace h := iteF h c6
      refine g_bipush (-2 : Int32) e_P_film_15 (by decide) ?_
      exact p_retI e_P_film_17.1 rfl h
set_option maxHeartbeats 1000000 in
theorem s_P_film_52 {l3 : Int32} {l4 : Nat} {l5 : Int32} {v : Vv} {Q : Int32 → Vv → Prop} (h : if l5 < (v).1 74 2 then ((isSheet (l4)) ∧ (m_S_put l4 l5 ((l3 >>> (l5 &&& 31)) &&& (1 : Int32)) (v) (fun v16 => k_P_film_52 (l3) (l4) ((l5 + (1 : Int32))) (v16) Q))) else (Q ((v).1 74 2) (v))) : k_P_film_52 l3 l4 l5 v Q := by
  show Gp 7 M_P_film 52 [(0, .ref (0)), (3, .int (l3)), (4, .ref (l4)), (5, .int (l5))] [] v (QI Q)
  refine g_iload 3 e_P_film_52 rfl ?_
  refine g_aload_n 0 e_P_film_54 rfl rfl ?_
  refine p_getR (j := 74) e_P_film_55 sh_0 fl_P_20 rfl (rf_0_1 _) ?_
  refine p_getI e_P_film_58 sh_74 fl_P_81 rfl ?_
  refine g_icmp_ge (tgt := 83) e_P_film_61 rfl (fun c14 => ?_) (fun c14 => ?_)
  · replace h := iteF h c14
    refine g_aload_n 0 e_P_film_83 rfl rfl ?_
    refine p_getR (j := 74) e_P_film_84 sh_0 fl_P_20 rfl (rf_0_1 _) ?_
    refine p_getI e_P_film_87 sh_74 fl_P_81 rfl ?_
    exact p_retI e_P_film_90.1 rfl h
  · replace h := iteT h c14
    refine g_aload 2 e_P_film_64 rfl ?_
    refine g_iload 3 e_P_film_66 rfl ?_
    refine g_iload_n 1 e_P_film_68 rfl rfl ?_
    refine g_iload 3 e_P_film_69 rfl ?_
    refine g_ishr e_P_film_71 ?_
    refine g_iconst (1 : Int32) e_P_film_72 (by decide) ?_
    refine g_iand e_P_film_73 ?_
    obtain ⟨h17, h⟩ := h
    refine p_callVV (d' := 2) (ci := 5) (r := (RX5, TX5, 3)) (As := [.int (l5), .int (((l3 >>> (l5 &&& 31)) &&& (1 : Int32)))]) (rest := []) e_P_film_74 zm_S_put lV_P_268 (isSheet_o h17) rfl rfl rfl rfl (Nat.le_of_ble_eq_true rfl) (by decide) ?_
    refine cp_mono h (fun _ v16 ⟨e1, h⟩ => ⟨e1, ?_⟩)
    refine g_iinc (v := (l5 + (1 : Int32))) (L' := [(5, .int ((l5 + (1 : Int32)))), (0, .ref (0)), (3, .int (l3)), (4, .ref (l4))]) 3 e_P_film_77 rfl rfl (by decide) rfl ?_
    refine g_goto (tgt := 52) e_P_film_80 rfl ?_
    exact g_sub [1, 2, 3, 0] rfl h
set_option maxHeartbeats 1000000 in
theorem s_P_drawn {l1 : Int32} {v : Vv} {Q : Int32 → Vv → Prop} (h : m_P_worked  (v) (fun (x1 : Nat) v2 => x1 = 1 ∧ (m_W_draw l1 (v2) (fun x4 v5 => (ib (x4) 32) ∧ (Q ((v5).1 68 (ix (x4))) (v5)))))) : m_P_drawn l1 v Q := by
  refine cp_go (Nat.le_of_ble_eq_true rfl) (by decide +kernel) ?_
  show Gp 7 M_P_drawn 0 [(0, .ref (0)), (1, .int (l1))] [] v (QI Q)
  refine g_aload_n 0 e_P_drawn_0 rfl rfl ?_
  refine p_callVR (d' := 6) (ci := 9) (r := (RX9, TX9, 11)) (As := []) (rest := []) e_P_drawn_1 zm_P_worked lV_P_143 sh_0 rfl rfl rfl rfl (Nat.le_of_ble_eq_true rfl) (by decide) ?_
  refine cp_mono h (fun _ v2 ⟨x1, e1, h⟩ => ⟨x1, e1, ?_⟩)
  obtain ⟨rfl, h⟩ := h
  refine g_astore_n (L' := [(2, .ref (1)), (0, .ref (0)), (1, .int (l1))]) e_P_drawn_4 rfl (by decide) rfl ?_
  refine g_aload_n 0 e_P_drawn_5 rfl rfl ?_
  refine p_getR (j := 68) e_P_drawn_6 sh_1 fl_P_176 rfl (rf_1_2 _) ?_
  refine g_aload_n 0 e_P_drawn_9 rfl rfl ?_
  refine g_iload_n 2 e_P_drawn_10 rfl rfl ?_
  refine p_callVI (d' := 1) (ci := 8) (r := (RX8, TX8, 13)) (As := [.int (l1)]) (rest := [.ref (68)]) e_P_drawn_11 zm_W_draw lV_P_270 sh_1 rfl rfl rfl rfl (Nat.le_of_ble_eq_true rfl) (by decide) ?_
  refine cp_mono h (fun _ v5 ⟨x4, e1, h⟩ => ⟨x4, e1, ?_⟩)
  obtain ⟨h6, h⟩ := h
  refine p_iald e_P_drawn_14 sh_68 h6 ?_
  exact p_retI e_P_drawn_15.1 rfl h
set_option maxHeartbeats 1000000 in
theorem s_P_chance {l1 : Int32} {l2 : Int32} {l3 : Int32} {v : Vv} {Q : Int64 → Vv → Prop} (h : if l2 < (1 : Int32) then (Q ((-4611686018427387904 : Int64)) (v)) else (if (20 : Int32) < l2 then (Q ((-4611686018427387904 : Int64)) (v)) else (m_P_isPart l3 (v) (fun x3 v4 => if x3 = true then (m_P_worked  (v4) (fun (x6 : Nat) v7 => x6 = 1 ∧ (k_P_chance_47 (l1) (l2) (l3) ((((1 : Int32) <<< ((v7).1 74 2 &&& 31)) - (1 : Int32))) ((0 : Int32)) ((0 : Int32)) (v7) Q))) else (Q ((-4611686018427387904 : Int64)) (v4)))))) : m_P_chance l1 l2 l3 v Q := by
  refine cp_go (Nat.le_of_ble_eq_true rfl) (by decide +kernel) ?_
  show Gp 7 M_P_chance 0 [(0, .ref (0)), (1, .int (l1)), (2, .int (l2)), (3, .int (l3))] [] v (QJ Q)
  refine g_iload_n 2 e_P_chance_0 rfl rfl ?_
  refine g_iconst (1 : Int32) e_P_chance_1 (by decide) ?_
  refine g_icmp_lt (tgt := 18) e_P_chance_2 rfl (fun c1 => ?_) (fun c1 => ?_)
  · replace h := iteT h c1
    refine g_ldc2 (v := (-4611686018427387904 : Int64)) (hd := e_P_chance_18) cl_P_194 ?_
    exact p_retJ e_P_chance_21.1 rfl h
  · replace h := iteF h c1
    refine g_iload_n 2 e_P_chance_5 rfl rfl ?_
    refine g_bipush (20 : Int32) e_P_chance_6 (by decide) ?_
    refine g_icmp_gt (tgt := 18) e_P_chance_8 rfl (fun c2 => ?_) (fun c2 => ?_)
    · replace h := iteT h c2
      refine g_ldc2 (v := (-4611686018427387904 : Int64)) (hd := e_P_chance_18) cl_P_194 ?_
      exact p_retJ e_P_chance_21.1 rfl h
    · replace h := iteF h c2
      refine g_iload_n 3 e_P_chance_11 rfl rfl ?_
      refine p_callSZ (d' := 1) (As := [.int (l3)]) (rest := []) e_P_chance_12 zm_P_isPart lS_P_196 rfl rfl (Nat.le_of_ble_eq_true rfl) (by decide) ?_
      refine cp_mono h (fun _ v4 ⟨x3, e1, h⟩ => ⟨x3, e1, ?_⟩)
      refine p_ifz_ne (tgt := 22) e_P_chance_15 rfl (fun c5 => ?_) (fun c5 => ?_)
      · replace h := iteT h c5
        refine g_aload_n 0 e_P_chance_22 rfl rfl ?_
        refine p_callVR (d' := 6) (ci := 9) (r := (RX9, TX9, 11)) (As := []) (rest := []) e_P_chance_23 zm_P_worked lV_P_143 sh_0 rfl rfl rfl rfl (Nat.le_of_ble_eq_true rfl) (by decide) ?_
        refine cp_mono h (fun _ v7 ⟨x6, e1, h⟩ => ⟨x6, e1, ?_⟩)
        obtain ⟨rfl, h⟩ := h
        refine g_astore (L' := [(4, .ref (1)), (0, .ref (0)), (1, .int (l1)), (2, .int (l2)), (3, .int (l3))]) e_P_chance_26 (by decide) rfl ?_
        refine g_iconst (1 : Int32) e_P_chance_28 (by decide) ?_
        refine g_aload_n 1 e_P_chance_29 rfl rfl ?_
        refine p_getR (j := 74) e_P_chance_30 sh_0 fl_P_20 rfl (rf_0_1 _) ?_
        refine p_getI e_P_chance_33 sh_74 fl_P_81 rfl ?_
        refine g_ishl e_P_chance_36 ?_
        refine g_iconst (1 : Int32) e_P_chance_37 (by decide) ?_
        refine g_isub e_P_chance_38 ?_
        refine g_istore (L' := [(5, .int ((((1 : Int32) <<< ((v7).1 74 2 &&& 31)) - (1 : Int32)))), (4, .ref (1)), (0, .ref (0)), (1, .int (l1)), (2, .int (l2)), (3, .int (l3))]) e_P_chance_39 (by decide) rfl ?_
        refine g_iconst (0 : Int32) e_P_chance_41 (by decide) ?_
        refine g_istore (L' := [(6, .int ((0 : Int32))), (5, .int ((((1 : Int32) <<< ((v7).1 74 2 &&& 31)) - (1 : Int32)))), (4, .ref (1)), (0, .ref (0)), (1, .int (l1)), (2, .int (l2)), (3, .int (l3))]) e_P_chance_42 (by decide) rfl ?_
        refine g_iconst (0 : Int32) e_P_chance_44 (by decide) ?_
        refine g_istore (L' := [(7, .int ((0 : Int32))), (6, .int ((0 : Int32))), (5, .int ((((1 : Int32) <<< ((v7).1 74 2 &&& 31)) - (1 : Int32)))), (4, .ref (1)), (0, .ref (0)), (1, .int (l1)), (2, .int (l2)), (3, .int (l3))]) e_P_chance_45 (by decide) rfl ?_
        exact g_sub [5, 6, 7, 3, 2, 1, 0] rfl h
      · replace h := iteF h c5
        refine g_ldc2 (v := (-4611686018427387904 : Int64)) (hd := e_P_chance_18) cl_P_194 ?_
        exact p_retJ e_P_chance_21.1 rfl h
set_option maxHeartbeats 1000000 in
theorem s_P_chance_47 {l1 : Int32} {l2 : Int32} {l3 : Int32} {l5 : Int32} {l6 : Int32} {l7 : Int32} {v : Vv} {Q : Int64 → Vv → Prop} (h : if l7 < l2 then (m_W_draw (l1 + l7) (v) (fun x10 v11 => (ib (x10) 32) ∧ (k_P_chance_47 (l1) (l2) (l3) (l5) ((if (v11).1 68 (ix (x10)) = l5 then (l6 + (1 : Int32)) else l6)) ((l7 + (1 : Int32))) (v11) Q))) else (m_P_lowest ((l6).toInt64) ((l2).toInt64) l3 (v) (fun x14 v15 => Q (x14) (v15)))) : k_P_chance_47 l1 l2 l3 l5 l6 l7 v Q := by
  show Gp 7 M_P_chance 47 [(1, .int (l1)), (2, .int (l2)), (3, .int (l3)), (4, .ref (1)), (5, .int (l5)), (6, .int (l6)), (7, .int (l7))] [] v (QJ Q)
  refine g_iload 6 e_P_chance_47 rfl ?_
  refine g_iload_n 1 e_P_chance_49 rfl rfl ?_
  refine g_icmp_ge (tgt := 82) e_P_chance_50 rfl (fun c9 => ?_) (fun c9 => ?_)
  · replace h := iteF h c9
    refine g_iload 5 e_P_chance_82 rfl ?_
    refine g_i2l e_P_chance_84 ?_
    refine g_iload_n 1 e_P_chance_85 rfl rfl ?_
    refine g_i2l e_P_chance_86 ?_
    refine g_iload_n 2 e_P_chance_87 rfl rfl ?_
    refine p_callSJ (d' := 1) (As := [.long ((l6).toInt64), .long ((l2).toInt64), .int (l3)]) (rest := []) e_P_chance_88 zm_P_lowest lS_P_203 rfl rfl (Nat.le_of_ble_eq_true rfl) (by decide) ?_
    refine cp_mono h (fun _ v15 ⟨x14, e1, h⟩ => ⟨x14, e1, ?_⟩)
    exact p_retJ e_P_chance_91.1 rfl h
  · replace h := iteT h c9
    refine g_aload 3 e_P_chance_53 rfl ?_
    refine p_getR (j := 68) e_P_chance_55 sh_1 fl_P_176 rfl (rf_1_2 _) ?_
    refine g_aload 3 e_P_chance_58 rfl ?_
    refine g_iload_n 0 e_P_chance_60 rfl rfl ?_
    refine g_iload 6 e_P_chance_61 rfl ?_
    refine g_iadd e_P_chance_63 ?_
    refine p_callVI (d' := 1) (ci := 8) (r := (RX8, TX8, 13)) (As := [.int ((l1 + l7))]) (rest := [.ref (68)]) e_P_chance_64 zm_W_draw lV_P_270 sh_1 rfl rfl rfl rfl (Nat.le_of_ble_eq_true rfl) (by decide) ?_
    refine cp_mono h (fun _ v11 ⟨x10, e1, h⟩ => ⟨x10, e1, ?_⟩)
    obtain ⟨h12, h⟩ := h
    refine p_iald e_P_chance_67 sh_68 h12 ?_
    refine g_iload 4 e_P_chance_68 rfl ?_
    have hj : ∀ m0 : Int32, m0 = (if (v11).1 68 (ix (x10)) = l5 then (l6 + (1 : Int32)) else l6) → Gp 7 M_P_chance 76 [(1, .int (l1)), (2, .int (l2)), (3, .int (l3)), (4, .ref (1)), (5, .int (l5)), (6, .int (m0)), (7, .int (l7))] [] (v11) (QJ Q) := by
      intro m0 hm0
      subst hm0
      refine g_iinc (v := (l7 + (1 : Int32))) (L' := [(7, .int ((l7 + (1 : Int32)))), (1, .int (l1)), (2, .int (l2)), (3, .int (l3)), (4, .ref (1)), (5, .int (l5)), (6, .int ((if (v11).1 68 (ix (x10)) = l5 then (l6 + (1 : Int32)) else l6)))]) 6 e_P_chance_76 rfl rfl (by decide) rfl ?_
      refine g_goto (tgt := 47) e_P_chance_79 rfl ?_
      exact g_sub [1, 2, 3, 4, 5, 6, 0] rfl h
    refine g_icmp_ne (tgt := 76) e_P_chance_70 rfl (fun c13 => ?_) (fun c13 => ?_)
    · exact hj (l6) (by simp only [if_neg c13])
    · refine g_iinc (v := (l6 + (1 : Int32))) (L' := [(6, .int ((l6 + (1 : Int32)))), (1, .int (l1)), (2, .int (l2)), (3, .int (l3)), (4, .ref (1)), (5, .int (l5)), (7, .int (l7))]) 5 e_P_chance_73 rfl rfl (by decide) rfl ?_
      refine g_sub [1, 2, 3, 4, 5, 0, 6] rfl ?_
      exact hj ((l6 + (1 : Int32))) (by simp only [if_pos c13])
set_option maxHeartbeats 1000000 in
theorem s_P_copy {l1 : Int32} {l2 : Int32} {l3 : Int32} {l4 : Int32} {l5 : Int32} {v : Vv} {Q : Int32 → Vv → Prop} (h : m_P_isSheet l1 (v) (fun x1 v2 => if x1 = true then (m_P_isSheet l3 (v2) (fun x4 v5 => if x4 = true then ((ib (l1) 4) ∧ ((ib (l3) 4) ∧ (if (v5).1 (146 + 2 * ix (l1)) 1 = (-1 : Int32) then (Q ((-11 : Int32)) (v5)) else (if (v5).1 (146 + 2 * ix (l3)) 1 = (-1 : Int32) then (Q ((-11 : Int32)) (v5)) else (if (v5).1 (146 + 2 * ix (l1)) 1 = (v5).1 (146 + 2 * ix (l3)) 1 then (m_S_holds (146 + 2 * ix (l1)) l2 l5 (v5) (fun x12 v13 => if x12 = true then (m_S_holds (146 + 2 * ix (l3)) l4 l5 (v13) (fun x15 v16 => if x15 = true then ((0 ≤ (l2).toInt ∧ 0 ≤ (l4).toInt ∧ 0 ≤ (l5).toInt ∧ (l2).toInt + (l5).toInt ≤ 40 ∧ (l4).toInt + (l5).toInt ≤ 40) ∧ (Q (l5) (sC (v16) ((146 + 2 * ix (l1)) + 1) ((146 + 2 * ix (l3)) + 1) l2 l4 (l5)))) else (Q ((-12 : Int32)) (v16)))) else (Q ((-12 : Int32)) (v13)))) else (Q ((-13 : Int32)) (v5))))))) else (Q ((-2 : Int32)) (v5)))) else (Q ((-2 : Int32)) (v2)))) : m_P_copy l1 l2 l3 l4 l5 v Q := by
  refine cp_go (Nat.le_of_ble_eq_true rfl) (by decide +kernel) ?_
  show Gp 13 M_P_copy 0 [(0, .ref (0)), (1, .int (l1)), (2, .int (l2)), (3, .int (l3)), (4, .int (l4)), (5, .int (l5))] [] v (QI Q)
  refine g_iload_n 1 e_P_copy_0 rfl rfl ?_
  refine p_callSZ (d' := 1) (As := [.int (l1)]) (rest := []) e_P_copy_1 zm_P_isSheet lS_P_246 rfl rfl (Nat.le_of_ble_eq_true rfl) (by decide) ?_
  refine cp_mono h (fun _ v2 ⟨x1, e1, h⟩ => ⟨x1, e1, ?_⟩)
  refine p_ifz_eq (tgt := 14) e_P_copy_4 rfl (fun c3 => ?_) (fun c3 => ?_)
  · replace h := iteF h c3
    refine g_bipush (-2 : Int32) e_P_copy_14 (by decide) ?_
    exact p_retI e_P_copy_16.1 rfl h
  · replace h := iteT h c3
    refine g_iload_n 3 e_P_copy_7 rfl rfl ?_
    refine p_callSZ (d' := 1) (As := [.int (l3)]) (rest := []) e_P_copy_8 zm_P_isSheet lS_P_246 rfl rfl (Nat.le_of_ble_eq_true rfl) (by decide) ?_
    refine cp_mono h (fun _ v5 ⟨x4, e1, h⟩ => ⟨x4, e1, ?_⟩)
    refine p_ifz_ne (tgt := 17) e_P_copy_11 rfl (fun c6 => ?_) (fun c6 => ?_)
    · replace h := iteT h c6
      refine g_aload_n 0 e_P_copy_17 rfl rfl ?_
      refine p_getR (j := 121) e_P_copy_18 sh_0 fl_P_64 rfl (rf_0_10 _) ?_
      refine g_iload_n 1 e_P_copy_21 rfl rfl ?_
      obtain ⟨h7, h⟩ := h
      refine p_aald (j := (146 + 2 * ix (l1))) e_P_copy_22 sh_121 (by decide) rfl h7 (el_sh h7 _) ?_
      refine g_astore (L' := [(6, .ref ((146 + 2 * ix (l1)))), (0, .ref (0)), (1, .int (l1)), (2, .int (l2)), (3, .int (l3)), (4, .int (l4)), (5, .int (l5))]) e_P_copy_23 (by decide) rfl ?_
      refine g_aload_n 1 e_P_copy_25 rfl rfl ?_
      refine p_getR (j := 121) e_P_copy_26 sh_0 fl_P_64 rfl (rf_0_10 _) ?_
      refine g_iload_n 4 e_P_copy_29 rfl rfl ?_
      obtain ⟨h8, h⟩ := h
      refine p_aald (j := (146 + 2 * ix (l3))) e_P_copy_30 sh_121 (by decide) rfl h8 (el_sh h8 _) ?_
      refine g_astore (L' := [(7, .ref ((146 + 2 * ix (l3)))), (6, .ref ((146 + 2 * ix (l1)))), (0, .ref (0)), (1, .int (l1)), (2, .int (l2)), (3, .int (l3)), (4, .int (l4)), (5, .int (l5))]) e_P_copy_31 (by decide) rfl ?_
      refine g_aload 1 e_P_copy_33 rfl ?_
      refine p_getI e_P_copy_35 (isSheet_o (el_sh_k h7)) fl_P_249 rfl ?_
      refine g_iconst (-1 : Int32) e_P_copy_38 (by decide) ?_
      refine g_icmp_eq (tgt := 51) e_P_copy_39 rfl (fun c9 => ?_) (fun c9 => ?_)
      · replace h := iteT h c9
        refine g_bipush (-11 : Int32) e_P_copy_51 (by decide) ?_
        exact p_retI e_P_copy_53.1 rfl h
      · replace h := iteF h c9
        refine g_aload 0 e_P_copy_42 rfl ?_
        refine p_getI e_P_copy_44 (isSheet_o (el_sh_k h8)) fl_P_249 rfl ?_
        refine g_iconst (-1 : Int32) e_P_copy_47 (by decide) ?_
        refine g_icmp_ne (tgt := 54) e_P_copy_48 rfl (fun c10 => ?_) (fun c10 => ?_)
        · replace h := iteF h c10
          refine g_aload 1 e_P_copy_54 rfl ?_
          refine p_getI e_P_copy_56 (isSheet_o (el_sh_k h7)) fl_P_249 rfl ?_
          refine g_aload 0 e_P_copy_59 rfl ?_
          refine p_getI e_P_copy_61 (isSheet_o (el_sh_k h8)) fl_P_249 rfl ?_
          refine g_icmp_eq (tgt := 70) e_P_copy_64 rfl (fun c11 => ?_) (fun c11 => ?_)
          · replace h := iteT h c11
            refine g_aload 1 e_P_copy_70 rfl ?_
            refine g_iload_n 4 e_P_copy_72 rfl rfl ?_
            refine g_iload 7 e_P_copy_73 rfl ?_
            refine p_callVZ (d' := 1) (ci := 5) (r := (RX5, TX5, 3)) (As := [.int (l2), .int (l5)]) (rest := []) e_P_copy_75 zm_S_holds lV_P_283 (isSheet_o (el_sh_k h7)) rfl rfl rfl rfl (Nat.le_of_ble_eq_true rfl) (by decide) ?_
            refine cp_mono h (fun _ v13 ⟨x12, e1, h⟩ => ⟨x12, e1, ?_⟩)
            refine p_ifz_eq (tgt := 93) e_P_copy_78 rfl (fun c14 => ?_) (fun c14 => ?_)
            · replace h := iteF h c14
              refine g_bipush (-12 : Int32) e_P_copy_93 (by decide) ?_
              exact p_retI e_P_copy_95.1 rfl h
            · replace h := iteT h c14
              refine g_aload 0 e_P_copy_81 rfl ?_
              refine g_iload 6 e_P_copy_83 rfl ?_
              refine g_iload 7 e_P_copy_85 rfl ?_
              refine p_callVZ (d' := 1) (ci := 5) (r := (RX5, TX5, 3)) (As := [.int (l4), .int (l5)]) (rest := []) e_P_copy_87 zm_S_holds lV_P_283 (isSheet_o (el_sh_k h8)) rfl rfl rfl rfl (Nat.le_of_ble_eq_true rfl) (by decide) ?_
              refine cp_mono h (fun _ v16 ⟨x15, e1, h⟩ => ⟨x15, e1, ?_⟩)
              refine p_ifz_ne (tgt := 96) e_P_copy_90 rfl (fun c17 => ?_) (fun c17 => ?_)
              · replace h := iteT h c17
                refine g_aload 1 e_P_copy_96 rfl ?_
                refine p_getR (j := ((146 + 2 * ix (l1)) + 1)) e_P_copy_98 (isSheet_o (el_sh_k h7)) fl_P_286 rfl (isSheet_cells (el_sh_k h7) _) ?_
                refine g_iload_n 4 e_P_copy_101 rfl rfl ?_
                refine g_aload 0 e_P_copy_102 rfl ?_
                refine p_getR (j := ((146 + 2 * ix (l3)) + 1)) e_P_copy_104 (isSheet_o (el_sh_k h8)) fl_P_286 rfl (isSheet_cells (el_sh_k h8) _) ?_
                refine g_iload 6 e_P_copy_107 rfl ?_
                refine g_iload 7 e_P_copy_109 rfl ?_
                obtain ⟨h18, h⟩ := h
                refine p_copy e_P_copy_111 ac_P_289 (isSheet_cells_s (el_sh_k h7)) (isSheet_cells_s (el_sh_k h8)) h18 (by decide) ?_
                refine g_iload 7 e_P_copy_114 rfl ?_
                exact p_retI e_P_copy_116.1 rfl h
              · replace h := iteF h c17
                refine g_bipush (-12 : Int32) e_P_copy_93 (by decide) ?_
                exact p_retI e_P_copy_95.1 rfl h
          · replace h := iteF h c11
            refine g_bipush (-13 : Int32) e_P_copy_67 (by decide) ?_
            exact p_retI e_P_copy_69.1 rfl h
        · replace h := iteT h c10
          refine g_bipush (-11 : Int32) e_P_copy_51 (by decide) ?_
          exact p_retI e_P_copy_53.1 rfl h
    · replace h := iteF h c6
      refine g_bipush (-2 : Int32) e_P_copy_14 (by decide) ?_
      exact p_retI e_P_copy_16.1 rfl h
set_option maxHeartbeats 1000000 in
theorem s_P_text  {v : Vv} {Q : Int32 → Vv → Prop} (h : if (v).1 0 5 < (6 : Int32) then (m_R_read ((v).1 0 7) (v) (fun x2 v3 => if x2 = (-1 : Int32) then ((ib ((sI (v3) 0 7 (0 : Int32)).1 0 5) 6) ∧ (m_T_become (122 + 4 * ix ((sI (v3) 0 7 (0 : Int32)).1 0 5)) 112 (sI (v3) 0 7 (0 : Int32)) (fun v7 => Q ((v7).1 0 5) (sI (v7) 0 5 ((v7).1 0 5 + (1 : Int32)))))) else (Q (((-100 : Int32) - x2)) (sI (v3) 0 7 (0 : Int32))))) else (Q ((-4 : Int32)) (v))) : m_P_text  v Q := by
  refine cp_go (Nat.le_of_ble_eq_true rfl) (by decide +kernel) ?_
  show Gp 103 M_P_text 0 [(0, .ref (0))] [] v (QI Q)
  refine g_aload_n 0 e_P_text_0 rfl rfl ?_
  refine p_getI e_P_text_1 sh_0 fl_P_37 rfl ?_
  refine g_bipush (6 : Int32) e_P_text_4 (by decide) ?_
  refine g_icmp_lt (tgt := 12) e_P_text_6 rfl (fun c1 => ?_) (fun c1 => ?_)
  · replace h := iteT h c1
    refine g_aload_n 0 e_P_text_12 rfl rfl ?_
    refine p_getR (j := 108) e_P_text_13 sh_0 fl_P_51 rfl (rf_0_8 _) ?_
    refine g_aload_n 0 e_P_text_16 rfl rfl ?_
    refine p_getR (j := 107) e_P_text_17 sh_0 fl_P_41 rfl (rf_0_6 _) ?_
    refine g_aload_n 0 e_P_text_20 rfl rfl ?_
    refine p_getI e_P_text_21 sh_0 fl_P_45 rfl ?_
    refine p_callVI (d' := 102) (ci := 4) (r := (RX4, TX4, 6)) (As := [.ref (107), .int ((v).1 0 7)]) (rest := []) e_P_text_24 zm_R_read lV_P_150 sh_108 rfl rfl rfl rfl (Nat.le_of_ble_eq_true rfl) (by decide) ?_
    refine cp_mono h (fun _ v3 ⟨x2, e1, h⟩ => ⟨x2, e1, ?_⟩)
    refine g_istore_n (L' := [(1, .int (x2)), (0, .ref (0))]) e_P_text_27 rfl (by decide) rfl ?_
    refine g_aload_n 1 e_P_text_28 rfl rfl ?_
    refine g_iconst (0 : Int32) e_P_text_29 (by decide) ?_
    refine p_putI e_P_text_30 sh_0 fp_P_45 rfl rfl rfl ?_
    refine g_iload_n 0 e_P_text_33 rfl rfl ?_
    refine g_iconst (-1 : Int32) e_P_text_34 (by decide) ?_
    refine g_icmp_eq (tgt := 43) e_P_text_35 rfl (fun c4 => ?_) (fun c4 => ?_)
    · replace h := iteT h c4
      refine g_aload_n 1 e_P_text_43 rfl rfl ?_
      refine p_getR (j := 106) e_P_text_44 sh_0 fl_P_33 rfl (rf_0_4 _) ?_
      refine g_aload_n 1 e_P_text_47 rfl rfl ?_
      refine p_getI e_P_text_48 sh_0 fl_P_37 rfl ?_
      obtain ⟨h5, h⟩ := h
      refine p_aald (j := (122 + 4 * ix ((sI (v3) 0 7 (0 : Int32)).1 0 5))) e_P_text_51 sh_106 (by decide) rfl h5 (el_tx h5 _) ?_
      refine g_aload_n 1 e_P_text_52 rfl rfl ?_
      refine p_getR (j := 108) e_P_text_53 sh_0 fl_P_51 rfl (rf_0_8 _) ?_
      refine p_getR (j := 112) e_P_text_56 sh_108 fl_P_154 rfl (rf_108_5 _) ?_
      refine p_callVV (d' := 13) (ci := 7) (r := (RX7, TX7, 5)) (As := [.ref (112)]) (rest := []) e_P_text_59 zm_T_become lV_P_158 (isText_o (el_tx_k h5)) rfl rfl rfl rfl (Nat.le_of_ble_eq_true rfl) (by decide) ?_
      refine cp_mono h (fun _ v7 ⟨e1, h⟩ => ⟨e1, ?_⟩)
      refine g_aload_n 1 e_P_text_62 rfl rfl ?_
      refine g_dup e_P_text_63 rfl ?_
      refine p_getI e_P_text_64 sh_0 fl_P_37 rfl ?_
      refine g_dup_x1 e_P_text_67 rfl rfl ?_
      refine g_iconst (1 : Int32) e_P_text_68 (by decide) ?_
      refine g_iadd e_P_text_69 ?_
      refine p_putI e_P_text_70 sh_0 fp_P_37 rfl rfl rfl ?_
      exact p_retI e_P_text_73.1 rfl h
    · replace h := iteF h c4
      refine g_bipush (-100 : Int32) e_P_text_38 (by decide) ?_
      refine g_iload_n 0 e_P_text_40 rfl rfl ?_
      refine g_isub e_P_text_41 ?_
      exact p_retI e_P_text_42.1 rfl h
  · replace h := iteF h c1
    refine g_bipush (-4 : Int32) e_P_text_9 (by decide) ?_
    exact p_retI e_P_text_11.1 rfl h
