-- segments: JI JM C D U T S H
set_option maxHeartbeats 1000000 in
theorem s_JI_bitCount {l0 : Int32} {v : Vv} {Q : Int32 → Vv → Prop} (h : Q (((((((((l0 - (((l0).toUInt32 >>> (((1 : Int32)).toUInt32 &&& Int32.toUInt32 31)).toInt32 &&& (1431655765 : Int32))) &&& (858993459 : Int32)) + ((((l0 - (((l0).toUInt32 >>> (((1 : Int32)).toUInt32 &&& Int32.toUInt32 31)).toInt32 &&& (1431655765 : Int32)))).toUInt32 >>> (((2 : Int32)).toUInt32 &&& Int32.toUInt32 31)).toInt32 &&& (858993459 : Int32))) + (((((l0 - (((l0).toUInt32 >>> (((1 : Int32)).toUInt32 &&& Int32.toUInt32 31)).toInt32 &&& (1431655765 : Int32))) &&& (858993459 : Int32)) + ((((l0 - (((l0).toUInt32 >>> (((1 : Int32)).toUInt32 &&& Int32.toUInt32 31)).toInt32 &&& (1431655765 : Int32)))).toUInt32 >>> (((2 : Int32)).toUInt32 &&& Int32.toUInt32 31)).toInt32 &&& (858993459 : Int32)))).toUInt32 >>> (((4 : Int32)).toUInt32 &&& Int32.toUInt32 31)).toInt32) &&& (252645135 : Int32)) + (((((((l0 - (((l0).toUInt32 >>> (((1 : Int32)).toUInt32 &&& Int32.toUInt32 31)).toInt32 &&& (1431655765 : Int32))) &&& (858993459 : Int32)) + ((((l0 - (((l0).toUInt32 >>> (((1 : Int32)).toUInt32 &&& Int32.toUInt32 31)).toInt32 &&& (1431655765 : Int32)))).toUInt32 >>> (((2 : Int32)).toUInt32 &&& Int32.toUInt32 31)).toInt32 &&& (858993459 : Int32))) + (((((l0 - (((l0).toUInt32 >>> (((1 : Int32)).toUInt32 &&& Int32.toUInt32 31)).toInt32 &&& (1431655765 : Int32))) &&& (858993459 : Int32)) + ((((l0 - (((l0).toUInt32 >>> (((1 : Int32)).toUInt32 &&& Int32.toUInt32 31)).toInt32 &&& (1431655765 : Int32)))).toUInt32 >>> (((2 : Int32)).toUInt32 &&& Int32.toUInt32 31)).toInt32 &&& (858993459 : Int32)))).toUInt32 >>> (((4 : Int32)).toUInt32 &&& Int32.toUInt32 31)).toInt32) &&& (252645135 : Int32))).toUInt32 >>> (((8 : Int32)).toUInt32 &&& Int32.toUInt32 31)).toInt32) + ((((((((l0 - (((l0).toUInt32 >>> (((1 : Int32)).toUInt32 &&& Int32.toUInt32 31)).toInt32 &&& (1431655765 : Int32))) &&& (858993459 : Int32)) + ((((l0 - (((l0).toUInt32 >>> (((1 : Int32)).toUInt32 &&& Int32.toUInt32 31)).toInt32 &&& (1431655765 : Int32)))).toUInt32 >>> (((2 : Int32)).toUInt32 &&& Int32.toUInt32 31)).toInt32 &&& (858993459 : Int32))) + (((((l0 - (((l0).toUInt32 >>> (((1 : Int32)).toUInt32 &&& Int32.toUInt32 31)).toInt32 &&& (1431655765 : Int32))) &&& (858993459 : Int32)) + ((((l0 - (((l0).toUInt32 >>> (((1 : Int32)).toUInt32 &&& Int32.toUInt32 31)).toInt32 &&& (1431655765 : Int32)))).toUInt32 >>> (((2 : Int32)).toUInt32 &&& Int32.toUInt32 31)).toInt32 &&& (858993459 : Int32)))).toUInt32 >>> (((4 : Int32)).toUInt32 &&& Int32.toUInt32 31)).toInt32) &&& (252645135 : Int32)) + (((((((l0 - (((l0).toUInt32 >>> (((1 : Int32)).toUInt32 &&& Int32.toUInt32 31)).toInt32 &&& (1431655765 : Int32))) &&& (858993459 : Int32)) + ((((l0 - (((l0).toUInt32 >>> (((1 : Int32)).toUInt32 &&& Int32.toUInt32 31)).toInt32 &&& (1431655765 : Int32)))).toUInt32 >>> (((2 : Int32)).toUInt32 &&& Int32.toUInt32 31)).toInt32 &&& (858993459 : Int32))) + (((((l0 - (((l0).toUInt32 >>> (((1 : Int32)).toUInt32 &&& Int32.toUInt32 31)).toInt32 &&& (1431655765 : Int32))) &&& (858993459 : Int32)) + ((((l0 - (((l0).toUInt32 >>> (((1 : Int32)).toUInt32 &&& Int32.toUInt32 31)).toInt32 &&& (1431655765 : Int32)))).toUInt32 >>> (((2 : Int32)).toUInt32 &&& Int32.toUInt32 31)).toInt32 &&& (858993459 : Int32)))).toUInt32 >>> (((4 : Int32)).toUInt32 &&& Int32.toUInt32 31)).toInt32) &&& (252645135 : Int32))).toUInt32 >>> (((8 : Int32)).toUInt32 &&& Int32.toUInt32 31)).toInt32)).toUInt32 >>> (((16 : Int32)).toUInt32 &&& Int32.toUInt32 31)).toInt32) &&& (63 : Int32))) (v)) : m_JI_bitCount l0 v Q := by
  refine cp_goF (Nat.le_of_ble_eq_true rfl) (by decide +kernel) ?_
  show Gp 1 M_JI_bitCount 0 [(0, .int (l0))] [] v (QI Q)
  refine g_iload_n 0 e_JI_bitCount_0 rfl rfl ?_
  refine g_iload_n 0 e_JI_bitCount_1 rfl rfl ?_
  refine g_iconst (1 : Int32) e_JI_bitCount_2 (by decide) ?_
  refine g_iushr e_JI_bitCount_3 ?_
  refine g_ldcw (v := (1431655765 : Int32)) (hd := e_JI_bitCount_4) ci_JI_265 ?_
  refine g_iand e_JI_bitCount_7 ?_
  refine g_isub e_JI_bitCount_8 ?_
  refine g_istore_n (L' := [(0, .int ((l0 - (((l0).toUInt32 >>> (((1 : Int32)).toUInt32 &&& Int32.toUInt32 31)).toInt32 &&& (1431655765 : Int32)))))]) e_JI_bitCount_9 rfl (by decide) rfl ?_
  refine g_iload_n 0 e_JI_bitCount_10 rfl rfl ?_
  refine g_ldcw (v := (858993459 : Int32)) (hd := e_JI_bitCount_11) ci_JI_266 ?_
  refine g_iand e_JI_bitCount_14 ?_
  refine g_iload_n 0 e_JI_bitCount_15 rfl rfl ?_
  refine g_iconst (2 : Int32) e_JI_bitCount_16 (by decide) ?_
  refine g_iushr e_JI_bitCount_17 ?_
  refine g_ldcw (v := (858993459 : Int32)) (hd := e_JI_bitCount_18) ci_JI_266 ?_
  refine g_iand e_JI_bitCount_21 ?_
  refine g_iadd e_JI_bitCount_22 ?_
  refine g_istore_n (L' := [(0, .int ((((l0 - (((l0).toUInt32 >>> (((1 : Int32)).toUInt32 &&& Int32.toUInt32 31)).toInt32 &&& (1431655765 : Int32))) &&& (858993459 : Int32)) + ((((l0 - (((l0).toUInt32 >>> (((1 : Int32)).toUInt32 &&& Int32.toUInt32 31)).toInt32 &&& (1431655765 : Int32)))).toUInt32 >>> (((2 : Int32)).toUInt32 &&& Int32.toUInt32 31)).toInt32 &&& (858993459 : Int32)))))]) e_JI_bitCount_23 rfl (by decide) rfl ?_
  refine g_iload_n 0 e_JI_bitCount_24 rfl rfl ?_
  refine g_iload_n 0 e_JI_bitCount_25 rfl rfl ?_
  refine g_iconst (4 : Int32) e_JI_bitCount_26 (by decide) ?_
  refine g_iushr e_JI_bitCount_27 ?_
  refine g_iadd e_JI_bitCount_28 ?_
  refine g_ldcw (v := (252645135 : Int32)) (hd := e_JI_bitCount_29) ci_JI_267 ?_
  refine g_iand e_JI_bitCount_32 ?_
  refine g_istore_n (L' := [(0, .int ((((((l0 - (((l0).toUInt32 >>> (((1 : Int32)).toUInt32 &&& Int32.toUInt32 31)).toInt32 &&& (1431655765 : Int32))) &&& (858993459 : Int32)) + ((((l0 - (((l0).toUInt32 >>> (((1 : Int32)).toUInt32 &&& Int32.toUInt32 31)).toInt32 &&& (1431655765 : Int32)))).toUInt32 >>> (((2 : Int32)).toUInt32 &&& Int32.toUInt32 31)).toInt32 &&& (858993459 : Int32))) + (((((l0 - (((l0).toUInt32 >>> (((1 : Int32)).toUInt32 &&& Int32.toUInt32 31)).toInt32 &&& (1431655765 : Int32))) &&& (858993459 : Int32)) + ((((l0 - (((l0).toUInt32 >>> (((1 : Int32)).toUInt32 &&& Int32.toUInt32 31)).toInt32 &&& (1431655765 : Int32)))).toUInt32 >>> (((2 : Int32)).toUInt32 &&& Int32.toUInt32 31)).toInt32 &&& (858993459 : Int32)))).toUInt32 >>> (((4 : Int32)).toUInt32 &&& Int32.toUInt32 31)).toInt32) &&& (252645135 : Int32))))]) e_JI_bitCount_33 rfl (by decide) rfl ?_
  refine g_iload_n 0 e_JI_bitCount_34 rfl rfl ?_
  refine g_iload_n 0 e_JI_bitCount_35 rfl rfl ?_
  refine g_bipush (8 : Int32) e_JI_bitCount_36 (by decide) ?_
  refine g_iushr e_JI_bitCount_38 ?_
  refine g_iadd e_JI_bitCount_39 ?_
  refine g_istore_n (L' := [(0, .int (((((((l0 - (((l0).toUInt32 >>> (((1 : Int32)).toUInt32 &&& Int32.toUInt32 31)).toInt32 &&& (1431655765 : Int32))) &&& (858993459 : Int32)) + ((((l0 - (((l0).toUInt32 >>> (((1 : Int32)).toUInt32 &&& Int32.toUInt32 31)).toInt32 &&& (1431655765 : Int32)))).toUInt32 >>> (((2 : Int32)).toUInt32 &&& Int32.toUInt32 31)).toInt32 &&& (858993459 : Int32))) + (((((l0 - (((l0).toUInt32 >>> (((1 : Int32)).toUInt32 &&& Int32.toUInt32 31)).toInt32 &&& (1431655765 : Int32))) &&& (858993459 : Int32)) + ((((l0 - (((l0).toUInt32 >>> (((1 : Int32)).toUInt32 &&& Int32.toUInt32 31)).toInt32 &&& (1431655765 : Int32)))).toUInt32 >>> (((2 : Int32)).toUInt32 &&& Int32.toUInt32 31)).toInt32 &&& (858993459 : Int32)))).toUInt32 >>> (((4 : Int32)).toUInt32 &&& Int32.toUInt32 31)).toInt32) &&& (252645135 : Int32)) + (((((((l0 - (((l0).toUInt32 >>> (((1 : Int32)).toUInt32 &&& Int32.toUInt32 31)).toInt32 &&& (1431655765 : Int32))) &&& (858993459 : Int32)) + ((((l0 - (((l0).toUInt32 >>> (((1 : Int32)).toUInt32 &&& Int32.toUInt32 31)).toInt32 &&& (1431655765 : Int32)))).toUInt32 >>> (((2 : Int32)).toUInt32 &&& Int32.toUInt32 31)).toInt32 &&& (858993459 : Int32))) + (((((l0 - (((l0).toUInt32 >>> (((1 : Int32)).toUInt32 &&& Int32.toUInt32 31)).toInt32 &&& (1431655765 : Int32))) &&& (858993459 : Int32)) + ((((l0 - (((l0).toUInt32 >>> (((1 : Int32)).toUInt32 &&& Int32.toUInt32 31)).toInt32 &&& (1431655765 : Int32)))).toUInt32 >>> (((2 : Int32)).toUInt32 &&& Int32.toUInt32 31)).toInt32 &&& (858993459 : Int32)))).toUInt32 >>> (((4 : Int32)).toUInt32 &&& Int32.toUInt32 31)).toInt32) &&& (252645135 : Int32))).toUInt32 >>> (((8 : Int32)).toUInt32 &&& Int32.toUInt32 31)).toInt32)))]) e_JI_bitCount_40 rfl (by decide) rfl ?_
  refine g_iload_n 0 e_JI_bitCount_41 rfl rfl ?_
  refine g_iload_n 0 e_JI_bitCount_42 rfl rfl ?_
  refine g_bipush (16 : Int32) e_JI_bitCount_43 (by decide) ?_
  refine g_iushr e_JI_bitCount_45 ?_
  refine g_iadd e_JI_bitCount_46 ?_
  refine g_istore_n (L' := [(0, .int ((((((((l0 - (((l0).toUInt32 >>> (((1 : Int32)).toUInt32 &&& Int32.toUInt32 31)).toInt32 &&& (1431655765 : Int32))) &&& (858993459 : Int32)) + ((((l0 - (((l0).toUInt32 >>> (((1 : Int32)).toUInt32 &&& Int32.toUInt32 31)).toInt32 &&& (1431655765 : Int32)))).toUInt32 >>> (((2 : Int32)).toUInt32 &&& Int32.toUInt32 31)).toInt32 &&& (858993459 : Int32))) + (((((l0 - (((l0).toUInt32 >>> (((1 : Int32)).toUInt32 &&& Int32.toUInt32 31)).toInt32 &&& (1431655765 : Int32))) &&& (858993459 : Int32)) + ((((l0 - (((l0).toUInt32 >>> (((1 : Int32)).toUInt32 &&& Int32.toUInt32 31)).toInt32 &&& (1431655765 : Int32)))).toUInt32 >>> (((2 : Int32)).toUInt32 &&& Int32.toUInt32 31)).toInt32 &&& (858993459 : Int32)))).toUInt32 >>> (((4 : Int32)).toUInt32 &&& Int32.toUInt32 31)).toInt32) &&& (252645135 : Int32)) + (((((((l0 - (((l0).toUInt32 >>> (((1 : Int32)).toUInt32 &&& Int32.toUInt32 31)).toInt32 &&& (1431655765 : Int32))) &&& (858993459 : Int32)) + ((((l0 - (((l0).toUInt32 >>> (((1 : Int32)).toUInt32 &&& Int32.toUInt32 31)).toInt32 &&& (1431655765 : Int32)))).toUInt32 >>> (((2 : Int32)).toUInt32 &&& Int32.toUInt32 31)).toInt32 &&& (858993459 : Int32))) + (((((l0 - (((l0).toUInt32 >>> (((1 : Int32)).toUInt32 &&& Int32.toUInt32 31)).toInt32 &&& (1431655765 : Int32))) &&& (858993459 : Int32)) + ((((l0 - (((l0).toUInt32 >>> (((1 : Int32)).toUInt32 &&& Int32.toUInt32 31)).toInt32 &&& (1431655765 : Int32)))).toUInt32 >>> (((2 : Int32)).toUInt32 &&& Int32.toUInt32 31)).toInt32 &&& (858993459 : Int32)))).toUInt32 >>> (((4 : Int32)).toUInt32 &&& Int32.toUInt32 31)).toInt32) &&& (252645135 : Int32))).toUInt32 >>> (((8 : Int32)).toUInt32 &&& Int32.toUInt32 31)).toInt32) + ((((((((l0 - (((l0).toUInt32 >>> (((1 : Int32)).toUInt32 &&& Int32.toUInt32 31)).toInt32 &&& (1431655765 : Int32))) &&& (858993459 : Int32)) + ((((l0 - (((l0).toUInt32 >>> (((1 : Int32)).toUInt32 &&& Int32.toUInt32 31)).toInt32 &&& (1431655765 : Int32)))).toUInt32 >>> (((2 : Int32)).toUInt32 &&& Int32.toUInt32 31)).toInt32 &&& (858993459 : Int32))) + (((((l0 - (((l0).toUInt32 >>> (((1 : Int32)).toUInt32 &&& Int32.toUInt32 31)).toInt32 &&& (1431655765 : Int32))) &&& (858993459 : Int32)) + ((((l0 - (((l0).toUInt32 >>> (((1 : Int32)).toUInt32 &&& Int32.toUInt32 31)).toInt32 &&& (1431655765 : Int32)))).toUInt32 >>> (((2 : Int32)).toUInt32 &&& Int32.toUInt32 31)).toInt32 &&& (858993459 : Int32)))).toUInt32 >>> (((4 : Int32)).toUInt32 &&& Int32.toUInt32 31)).toInt32) &&& (252645135 : Int32)) + (((((((l0 - (((l0).toUInt32 >>> (((1 : Int32)).toUInt32 &&& Int32.toUInt32 31)).toInt32 &&& (1431655765 : Int32))) &&& (858993459 : Int32)) + ((((l0 - (((l0).toUInt32 >>> (((1 : Int32)).toUInt32 &&& Int32.toUInt32 31)).toInt32 &&& (1431655765 : Int32)))).toUInt32 >>> (((2 : Int32)).toUInt32 &&& Int32.toUInt32 31)).toInt32 &&& (858993459 : Int32))) + (((((l0 - (((l0).toUInt32 >>> (((1 : Int32)).toUInt32 &&& Int32.toUInt32 31)).toInt32 &&& (1431655765 : Int32))) &&& (858993459 : Int32)) + ((((l0 - (((l0).toUInt32 >>> (((1 : Int32)).toUInt32 &&& Int32.toUInt32 31)).toInt32 &&& (1431655765 : Int32)))).toUInt32 >>> (((2 : Int32)).toUInt32 &&& Int32.toUInt32 31)).toInt32 &&& (858993459 : Int32)))).toUInt32 >>> (((4 : Int32)).toUInt32 &&& Int32.toUInt32 31)).toInt32) &&& (252645135 : Int32))).toUInt32 >>> (((8 : Int32)).toUInt32 &&& Int32.toUInt32 31)).toInt32)).toUInt32 >>> (((16 : Int32)).toUInt32 &&& Int32.toUInt32 31)).toInt32)))]) e_JI_bitCount_47 rfl (by decide) rfl ?_
  refine g_iload_n 0 e_JI_bitCount_48 rfl rfl ?_
  refine g_bipush (63 : Int32) e_JI_bitCount_49 (by decide) ?_
  refine g_iand e_JI_bitCount_51 ?_
  exact p_retI e_JI_bitCount_52.1 rfl h
set_option maxHeartbeats 1000000 in
theorem s_JM_floorMod {l0 : Int32} {l1 : Int32} {v : Vv} {Q : Int32 → Vv → Prop} (h : (¬ l1 = (0 : Int32)) ∧ (if (l0 ^^^ l1) < (0 : Int32) then (if (l0 % l1) = (0 : Int32) then (Q ((l0 % l1)) (v)) else (Q (((l0 % l1) + l1)) (v))) else (Q ((l0 % l1)) (v)))) : m_JM_floorMod l0 l1 v Q := by
  refine cp_goF (Nat.le_of_ble_eq_true rfl) (by decide +kernel) ?_
  show Gp 1 M_JM_floorMod 0 [(0, .int (l0)), (1, .int (l1))] [] v (QI Q)
  refine g_iload_n 0 e_JM_floorMod_0 rfl rfl ?_
  refine g_iload_n 1 e_JM_floorMod_1 rfl rfl ?_
  obtain ⟨h1, h⟩ := h
  refine g_irem e_JM_floorMod_2 h1 ?_
  refine g_istore_n (L' := [(2, .int ((l0 % l1))), (0, .int (l0)), (1, .int (l1))]) e_JM_floorMod_3 rfl (by decide) rfl ?_
  refine g_iload_n 1 e_JM_floorMod_4 rfl rfl ?_
  refine g_iload_n 2 e_JM_floorMod_5 rfl rfl ?_
  refine g_ixor e_JM_floorMod_6 ?_
  refine g_if_ge (tgt := 18) e_JM_floorMod_7 rfl (fun c2 => ?_) (fun c2 => ?_)
  · replace h := iteF h c2
    refine g_iload_n 0 e_JM_floorMod_18 rfl rfl ?_
    exact p_retI e_JM_floorMod_19.1 rfl h
  · replace h := iteT h c2
    refine g_iload_n 0 e_JM_floorMod_10 rfl rfl ?_
    refine g_if_eq (tgt := 18) e_JM_floorMod_11 rfl (fun c3 => ?_) (fun c3 => ?_)
    · replace h := iteT h c3
      refine g_iload_n 0 e_JM_floorMod_18 rfl rfl ?_
      exact p_retI e_JM_floorMod_19.1 rfl h
    · replace h := iteF h c3
      refine g_iload_n 0 e_JM_floorMod_14 rfl rfl ?_
      refine g_iload_n 2 e_JM_floorMod_15 rfl rfl ?_
      refine g_iadd e_JM_floorMod_16 ?_
      exact p_retI e_JM_floorMod_17.1 rfl h
set_option maxHeartbeats 1000000 in
theorem s_JM_abs {l0 : Int32} {v : Vv} {Q : Int32 → Vv → Prop} (h : Q ((if l0 < (0 : Int32) then (-l0) else l0)) (v)) : m_JM_abs l0 v Q := by
  refine cp_goF (Nat.le_of_ble_eq_true rfl) (by decide +kernel) ?_
  show Gp 1 M_JM_abs 0 [(0, .int (l0))] [] v (QI Q)
  refine g_iload_n 0 e_JM_abs_0 rfl rfl ?_
  have hj : ∀ m0 : Int32, m0 = (if l0 < (0 : Int32) then (-l0) else l0) → Gp 1 M_JM_abs 10 [(0, .int (l0))] [.int (m0)] (v) (QI Q) := by
    intro m0 hm0
    subst hm0
    exact p_retI e_JM_abs_10.1 rfl h
  refine g_if_ge (tgt := 9) e_JM_abs_1 rfl (fun c1 => ?_) (fun c1 => ?_)
  · refine g_iload_n 0 e_JM_abs_9 rfl rfl ?_
    exact hj (l0) (by simp only [if_neg c1])
  · refine g_iload_n 0 e_JM_abs_4 rfl rfl ?_
    refine g_ineg e_JM_abs_5 ?_
    refine g_goto (tgt := 10) e_JM_abs_6 rfl ?_
    exact hj ((-l0)) (by simp only [if_pos c1])
set_option maxHeartbeats 1000000 in
theorem s_JM_max_III {l0 : Int32} {l1 : Int32} {v : Vv} {Q : Int32 → Vv → Prop} (h : Q ((if l0 < l1 then l1 else l0)) (v)) : m_JM_max_III l0 l1 v Q := by
  refine cp_goF (Nat.le_of_ble_eq_true rfl) (by decide +kernel) ?_
  show Gp 1 M_JM_max_III 0 [(0, .int (l0)), (1, .int (l1))] [] v (QI Q)
  refine g_iload_n 0 e_JM_max_III_0 rfl rfl ?_
  refine g_iload_n 1 e_JM_max_III_1 rfl rfl ?_
  have hj : ∀ m0 : Int32, m0 = (if l0 < l1 then l1 else l0) → Gp 1 M_JM_max_III 10 [(0, .int (l0)), (1, .int (l1))] [.int (m0)] (v) (QI Q) := by
    intro m0 hm0
    subst hm0
    exact p_retI e_JM_max_III_10.1 rfl h
  refine g_icmp_lt (tgt := 9) e_JM_max_III_2 rfl (fun c1 => ?_) (fun c1 => ?_)
  · refine g_iload_n 1 e_JM_max_III_9 rfl rfl ?_
    exact hj (l1) (by simp only [if_pos c1])
  · refine g_iload_n 0 e_JM_max_III_5 rfl rfl ?_
    refine g_goto (tgt := 10) e_JM_max_III_6 rfl ?_
    exact hj (l0) (by simp only [if_neg c1])
set_option maxHeartbeats 1000000 in
theorem s_JM_max_JJJ {l0 : Int64} {l2 : Int64} {v : Vv} {Q : Int64 → Vv → Prop} (h : if l0 < l2 then (Q (l2) (v)) else (Q (l0) (v))) : m_JM_max_JJJ l0 l2 v Q := by
  refine cp_goF (Nat.le_of_ble_eq_true rfl) (by decide +kernel) ?_
  show Gp 1 M_JM_max_JJJ 0 [(0, .long (l0)), (2, .long (l2))] [] v (QJ Q)
  refine g_lload_n 0 e_JM_max_JJJ_0 rfl rfl ?_
  refine g_lload_n 1 e_JM_max_JJJ_1 rfl rfl ?_
  refine g_l_lt (tgt := 10) e_JM_max_JJJ_2 e_JM_max_JJJ_3 rfl (fun c1 => ?_) (fun c1 => ?_)
  · replace h := iteT h c1
    refine g_lload_n 1 e_JM_max_JJJ_10 rfl rfl ?_
    exact p_retJ e_JM_max_JJJ_11.1 rfl h
  · replace h := iteF h c1
    refine g_lload_n 0 e_JM_max_JJJ_6 rfl rfl ?_
    refine g_goto (tgt := 11) e_JM_max_JJJ_7 rfl ?_
    exact p_retJ e_JM_max_JJJ_11.1 rfl h
set_option maxHeartbeats 1000000 in
theorem s_JM_min {l0 : Int32} {l1 : Int32} {v : Vv} {Q : Int32 → Vv → Prop} (h : Q ((if l1 < l0 then l1 else l0)) (v)) : m_JM_min l0 l1 v Q := by
  refine cp_goF (Nat.le_of_ble_eq_true rfl) (by decide +kernel) ?_
  show Gp 1 M_JM_min 0 [(0, .int (l0)), (1, .int (l1))] [] v (QI Q)
  refine g_iload_n 0 e_JM_min_0 rfl rfl ?_
  refine g_iload_n 1 e_JM_min_1 rfl rfl ?_
  have hj : ∀ m0 : Int32, m0 = (if l1 < l0 then l1 else l0) → Gp 1 M_JM_min 10 [(0, .int (l0)), (1, .int (l1))] [.int (m0)] (v) (QI Q) := by
    intro m0 hm0
    subst hm0
    exact p_retI e_JM_min_10.1 rfl h
  refine g_icmp_gt (tgt := 9) e_JM_min_2 rfl (fun c1 => ?_) (fun c1 => ?_)
  · refine g_iload_n 1 e_JM_min_9 rfl rfl ?_
    exact hj (l1) (by simp only [if_pos c1])
  · refine g_iload_n 0 e_JM_min_5 rfl rfl ?_
    refine g_goto (tgt := 10) e_JM_min_6 rfl ?_
    exact hj (l0) (by simp only [if_neg c1])
set_option maxHeartbeats 1000000 in
theorem s_C_tell {l0 : Nat} {l1 : Int32} {v : Vv} {Q : Int32 → Vv → Prop} (h : if l1 = (0 : Int32) then ((isClock (l0)) ∧ (Q ((v).1 l0 1) (v))) else (if l1 = (1 : Int32) then ((isClock (l0)) ∧ (Q ((v).1 l0 0) (v))) else (if l1 = (2 : Int32) then ((isClock (l0)) ∧ (Q ((v).1 l0 2) (v))) else ((isClock (l0)) ∧ (Q ((v).1 l0 3) (v)))))) : m_C_tell l0 l1 v Q := by
  refine cp_go (Nat.le_of_ble_eq_true rfl) (by decide +kernel) ?_
  show Gp 1 M_C_tell 0 [(0, .ref (l0)), (1, .int (l1))] [] v (QI Q)
  refine g_iload_n 1 e_C_tell_0 rfl rfl ?_
  by_cases c1 : l1 = (0 : Int32)
  · replace h := iteT h c1
    refine g_tsw (tgt := 28) e_C_tell_1 (0 : Int32) c1 (by decide) (by decide) rfl rfl ?_
    refine g_aload_n 0 e_C_tell_28 rfl rfl ?_
    obtain ⟨h2, h⟩ := h
    refine p_getI e_C_tell_29 (isClock_o h2) fl_C_15 rfl ?_
    exact p_retI e_C_tell_32.1 rfl h
  · replace h := iteF h c1
    by_cases c3 : l1 = (1 : Int32)
    · replace h := iteT h c3
      refine g_tsw (tgt := 33) e_C_tell_1 (1 : Int32) c3 (by decide) (by decide) rfl rfl ?_
      refine g_aload_n 0 e_C_tell_33 rfl rfl ?_
      obtain ⟨h4, h⟩ := h
      refine p_getI e_C_tell_34 (isClock_o h4) fl_C_9 rfl ?_
      exact p_retI e_C_tell_37.1 rfl h
    · replace h := iteF h c3
      by_cases c5 : l1 = (2 : Int32)
      · replace h := iteT h c5
        refine g_tsw (tgt := 38) e_C_tell_1 (2 : Int32) c5 (by decide) (by decide) rfl rfl ?_
        refine g_aload_n 0 e_C_tell_38 rfl rfl ?_
        obtain ⟨h6, h⟩ := h
        refine p_getI e_C_tell_39 (isClock_o h6) fl_C_18 rfl ?_
        exact p_retI e_C_tell_42.1 rfl h
      · replace h := iteF h c5
        refine g_tsd (tgt := 43) [(0 : Int32), (1 : Int32), (2 : Int32)] e_C_tell_1 (List.forall_mem_cons.mpr ⟨c1, (List.forall_mem_cons.mpr ⟨c3, (List.forall_mem_cons.mpr ⟨c5, (fun _ h => absurd h List.not_mem_nil)⟩)⟩)⟩) (by decide) rfl ?_
        refine g_aload_n 0 e_C_tell_43 rfl rfl ?_
        obtain ⟨h7, h⟩ := h
        refine p_getI e_C_tell_44 (isClock_o h7) fl_C_21 rfl ?_
        exact p_retI e_C_tell_47.1 rfl h
set_option maxHeartbeats 1000000 in
theorem s_C_become {l0 : Nat} {l1 : Nat} {v : Vv} {Q : Vv → Prop} (h : (isClock (l1)) ∧ ((isClock (l0)) ∧ (Q (sI (sI (sI (sI (v) l0 0 ((v).1 l1 0)) l0 1 ((sI (v) l0 0 ((v).1 l1 0)).1 l1 1)) l0 2 ((sI (sI (v) l0 0 ((v).1 l1 0)) l0 1 ((sI (v) l0 0 ((v).1 l1 0)).1 l1 1)).1 l1 2)) l0 3 ((sI (sI (sI (v) l0 0 ((v).1 l1 0)) l0 1 ((sI (v) l0 0 ((v).1 l1 0)).1 l1 1)) l0 2 ((sI (sI (v) l0 0 ((v).1 l1 0)) l0 1 ((sI (v) l0 0 ((v).1 l1 0)).1 l1 1)).1 l1 2)).1 l1 3))))) : m_C_become l0 l1 v Q := by
  refine cp_go (Nat.le_of_ble_eq_true rfl) (by decide +kernel) ?_
  show Gp 1 M_C_become 0 [(0, .ref (l0)), (1, .ref (l1))] [] v (QV Q)
  refine g_aload_n 0 e_C_become_0 rfl rfl ?_
  refine g_aload_n 1 e_C_become_1 rfl rfl ?_
  obtain ⟨h1, h⟩ := h
  refine p_getI e_C_become_2 (isClock_o h1) fl_C_9 rfl ?_
  obtain ⟨h2, h⟩ := h
  refine p_putI e_C_become_5 (isClock_o h2) fp_C_9 rfl rfl rfl ?_
  refine g_aload_n 0 e_C_become_8 rfl rfl ?_
  refine g_aload_n 1 e_C_become_9 rfl rfl ?_
  refine p_getI e_C_become_10 (isClock_o h1) fl_C_15 rfl ?_
  refine p_putI e_C_become_13 (isClock_o h2) fp_C_15 rfl rfl rfl ?_
  refine g_aload_n 0 e_C_become_16 rfl rfl ?_
  refine g_aload_n 1 e_C_become_17 rfl rfl ?_
  refine p_getI e_C_become_18 (isClock_o h1) fl_C_18 rfl ?_
  refine p_putI e_C_become_21 (isClock_o h2) fp_C_18 rfl rfl rfl ?_
  refine g_aload_n 0 e_C_become_24 rfl rfl ?_
  refine g_aload_n 1 e_C_become_25 rfl rfl ?_
  refine p_getI e_C_become_26 (isClock_o h1) fl_C_21 rfl ?_
  refine p_putI e_C_become_29 (isClock_o h2) fp_C_21 rfl rfl rfl ?_
  exact p_retV e_C_become_32.1 rfl h
set_option maxHeartbeats 1000000 in
theorem s_C_put {l0 : Nat} {l1 : Int32} {l2 : Int32} {v : Vv} {Q : Int32 → Vv → Prop} (h : (isClock (l0)) ∧ (m_C_tell l0 l1 (v) (fun x1 v2 => if l1 = (0 : Int32) then (Q (x1) (sI (v2) l0 1 l2)) else (if l1 = (1 : Int32) then (Q (x1) (sI (v2) l0 0 l2)) else (if l1 = (2 : Int32) then (Q (x1) (sI (v2) l0 2 l2)) else (Q (x1) (sI (v2) l0 3 l2))))))) : m_C_put l0 l1 l2 v Q := by
  refine cp_go (Nat.le_of_ble_eq_true rfl) (by decide +kernel) ?_
  show Gp 2 M_C_put 0 [(0, .ref (l0)), (1, .int (l1)), (2, .int (l2))] [] v (QI Q)
  refine g_aload_n 0 e_C_put_0 rfl rfl ?_
  refine g_iload_n 1 e_C_put_1 rfl rfl ?_
  obtain ⟨h3, h⟩ := h
  refine p_callVI (d' := 1) (ci := 0) (r := (RX0, TX0, 4)) (As := [.int (l1)]) (rest := []) e_C_put_2 zm_C_tell lV_C_24 (isClock_o h3) rfl rfl rfl rfl (Nat.le_of_ble_eq_true rfl) (by decide) ?_
  refine cp_mono h (fun _ v2 ⟨x1, e1, h⟩ => ⟨x1, e1, ?_⟩)
  refine g_istore_n (L' := [(3, .int (x1)), (0, .ref (l0)), (1, .int (l1)), (2, .int (l2))]) e_C_put_5 rfl (by decide) rfl ?_
  refine g_iload_n 2 e_C_put_6 rfl rfl ?_
  by_cases c4 : l1 = (0 : Int32)
  · replace h := iteT h c4
    refine g_tsw (tgt := 32) e_C_put_7 (0 : Int32) c4 (by decide) (by decide) rfl rfl ?_
    refine g_aload_n 1 e_C_put_32 rfl rfl ?_
    refine g_iload_n 3 e_C_put_33 rfl rfl ?_
    refine p_putI e_C_put_34 (isClock_o h3) fp_C_15 rfl rfl rfl ?_
    refine g_goto (tgt := 61) e_C_put_37 rfl ?_
    refine g_iload_n 0 e_C_put_61 rfl rfl ?_
    exact p_retI e_C_put_62.1 rfl h
  · replace h := iteF h c4
    by_cases c5 : l1 = (1 : Int32)
    · replace h := iteT h c5
      refine g_tsw (tgt := 40) e_C_put_7 (1 : Int32) c5 (by decide) (by decide) rfl rfl ?_
      refine g_aload_n 1 e_C_put_40 rfl rfl ?_
      refine g_iload_n 3 e_C_put_41 rfl rfl ?_
      refine p_putI e_C_put_42 (isClock_o h3) fp_C_9 rfl rfl rfl ?_
      refine g_goto (tgt := 61) e_C_put_45 rfl ?_
      refine g_iload_n 0 e_C_put_61 rfl rfl ?_
      exact p_retI e_C_put_62.1 rfl h
    · replace h := iteF h c5
      by_cases c6 : l1 = (2 : Int32)
      · replace h := iteT h c6
        refine g_tsw (tgt := 48) e_C_put_7 (2 : Int32) c6 (by decide) (by decide) rfl rfl ?_
        refine g_aload_n 1 e_C_put_48 rfl rfl ?_
        refine g_iload_n 3 e_C_put_49 rfl rfl ?_
        refine p_putI e_C_put_50 (isClock_o h3) fp_C_18 rfl rfl rfl ?_
        refine g_goto (tgt := 61) e_C_put_53 rfl ?_
        refine g_iload_n 0 e_C_put_61 rfl rfl ?_
        exact p_retI e_C_put_62.1 rfl h
      · replace h := iteF h c6
        refine g_tsd (tgt := 56) [(0 : Int32), (1 : Int32), (2 : Int32)] e_C_put_7 (List.forall_mem_cons.mpr ⟨c4, (List.forall_mem_cons.mpr ⟨c5, (List.forall_mem_cons.mpr ⟨c6, (fun _ h => absurd h List.not_mem_nil)⟩)⟩)⟩) (by decide) rfl ?_
        refine g_aload_n 1 e_C_put_56 rfl rfl ?_
        refine g_iload_n 3 e_C_put_57 rfl rfl ?_
        refine p_putI e_C_put_58 (isClock_o h3) fp_C_21 rfl rfl rfl ?_
        refine g_iload_n 0 e_C_put_61 rfl rfl ?_
        exact p_retI e_C_put_62.1 rfl h
set_option maxHeartbeats 1000000 in
theorem s_D_tell {l0 : Nat} {l1 : Int32} {v : Vv} {Q : Int32 → Vv → Prop} (h : if l1 = (4 : Int32) then ((isDoer (l0)) ∧ (Q ((v).1 l0 1) (v))) else (if l1 = (5 : Int32) then ((isDoer (l0)) ∧ (Q ((v).1 l0 2) (v))) else ((isDoer (l0)) ∧ (Q ((v).1 l0 0) (v))))) : m_D_tell l0 l1 v Q := by
  refine cp_go (Nat.le_of_ble_eq_true rfl) (by decide +kernel) ?_
  show Gp 1 M_D_tell 0 [(0, .ref (l0)), (1, .int (l1))] [] v (QI Q)
  refine g_iload_n 1 e_D_tell_0 rfl rfl ?_
  by_cases c1 : l1 = (4 : Int32)
  · replace h := iteT h c1
    refine g_lsw (tgt := 28) (off := 27) e_D_tell_1 (by decide) (by rw [c1]; decide) rfl ?_
    refine g_aload_n 0 e_D_tell_28 rfl rfl ?_
    obtain ⟨h2, h⟩ := h
    refine p_getI e_D_tell_29 (isDoer_o h2) fl_D_15 rfl ?_
    exact p_retI e_D_tell_32.1 rfl h
  · replace h := iteF h c1
    by_cases c3 : l1 = (5 : Int32)
    · replace h := iteT h c3
      refine g_lsw (tgt := 33) (off := 32) e_D_tell_1 (by decide) (by rw [c3]; decide) rfl ?_
      refine g_aload_n 0 e_D_tell_33 rfl rfl ?_
      obtain ⟨h4, h⟩ := h
      refine p_getI e_D_tell_34 (isDoer_o h4) fl_D_18 rfl ?_
      exact p_retI e_D_tell_37.1 rfl h
    · replace h := iteF h c3
      refine g_lsw (tgt := 38) e_D_tell_1 (by decide) ((lv_osw c1 rfl).trans ((lv_osw c3 rfl).trans rfl)) rfl ?_
      refine g_aload_n 0 e_D_tell_38 rfl rfl ?_
      obtain ⟨h5, h⟩ := h
      refine p_getI e_D_tell_39 (isDoer_o h5) fl_D_9 rfl ?_
      exact p_retI e_D_tell_42.1 rfl h
set_option maxHeartbeats 1000000 in
theorem s_D_become {l0 : Nat} {l1 : Nat} {v : Vv} {Q : Vv → Prop} (h : (isDoer (l1)) ∧ ((isDoer (l0)) ∧ (Q (sI (sI (sI (v) l0 0 ((v).1 l1 0)) l0 1 ((sI (v) l0 0 ((v).1 l1 0)).1 l1 1)) l0 2 ((sI (sI (v) l0 0 ((v).1 l1 0)) l0 1 ((sI (v) l0 0 ((v).1 l1 0)).1 l1 1)).1 l1 2))))) : m_D_become l0 l1 v Q := by
  refine cp_go (Nat.le_of_ble_eq_true rfl) (by decide +kernel) ?_
  show Gp 1 M_D_become 0 [(0, .ref (l0)), (1, .ref (l1))] [] v (QV Q)
  refine g_aload_n 0 e_D_become_0 rfl rfl ?_
  refine g_aload_n 1 e_D_become_1 rfl rfl ?_
  obtain ⟨h1, h⟩ := h
  refine p_getI e_D_become_2 (isDoer_o h1) fl_D_9 rfl ?_
  obtain ⟨h2, h⟩ := h
  refine p_putI e_D_become_5 (isDoer_o h2) fp_D_9 rfl rfl rfl ?_
  refine g_aload_n 0 e_D_become_8 rfl rfl ?_
  refine g_aload_n 1 e_D_become_9 rfl rfl ?_
  refine p_getI e_D_become_10 (isDoer_o h1) fl_D_15 rfl ?_
  refine p_putI e_D_become_13 (isDoer_o h2) fp_D_15 rfl rfl rfl ?_
  refine g_aload_n 0 e_D_become_16 rfl rfl ?_
  refine g_aload_n 1 e_D_become_17 rfl rfl ?_
  refine p_getI e_D_become_18 (isDoer_o h1) fl_D_18 rfl ?_
  refine p_putI e_D_become_21 (isDoer_o h2) fp_D_18 rfl rfl rfl ?_
  exact p_retV e_D_become_24.1 rfl h
set_option maxHeartbeats 1000000 in
theorem s_D_goesTo {l0 : Nat} {l1 : Int32} {v : Vv} {Q : Bool → Vv → Prop} (h : (isDoer (l0)) ∧ (Q ((if (((v).1 l0 2 >>> (l1 &&& 31)) &&& (1 : Int32)) = (1 : Int32) then true else false)) (v))) : m_D_goesTo l0 l1 v Q := by
  refine cp_go (Nat.le_of_ble_eq_true rfl) (by decide +kernel) ?_
  show Gp 1 M_D_goesTo 0 [(0, .ref (l0)), (1, .int (l1))] [] v (QZ Q)
  refine g_aload_n 0 e_D_goesTo_0 rfl rfl ?_
  obtain ⟨h1, h⟩ := h
  refine p_getI e_D_goesTo_1 (isDoer_o h1) fl_D_18 rfl ?_
  refine g_iload_n 1 e_D_goesTo_4 rfl rfl ?_
  refine g_ishr e_D_goesTo_5 ?_
  refine g_iconst (1 : Int32) e_D_goesTo_6 (by decide) ?_
  refine g_iand e_D_goesTo_7 ?_
  refine g_iconst (1 : Int32) e_D_goesTo_8 (by decide) ?_
  have hj : ∀ m0 : Bool, m0 = (if (((v).1 l0 2 >>> (l1 &&& 31)) &&& (1 : Int32)) = (1 : Int32) then true else false) → Gp 1 M_D_goesTo 17 [(0, .ref (l0)), (1, .int (l1))] [.int (bI (m0))] (v) (QZ Q) := by
    intro m0 hm0
    subst hm0
    exact p_retZ e_D_goesTo_17.1 rfl h
  refine g_icmp_ne (tgt := 16) e_D_goesTo_9 rfl (fun c2 => ?_) (fun c2 => ?_)
  · refine g_iconst (0 : Int32) e_D_goesTo_16 (by decide) ?_
    exact hj (false) (by simp only [if_neg c2])
  · refine g_iconst (1 : Int32) e_D_goesTo_12 (by decide) ?_
    refine g_goto (tgt := 17) e_D_goesTo_13 rfl ?_
    exact hj (true) (by simp only [if_pos c2])
set_option maxHeartbeats 1000000 in
theorem s_D_trusts {l0 : Nat} {l1 : Int32} {v : Vv} {Q : Bool → Vv → Prop} (h : Q ((if l1 < (30 : Int32) then false else true)) (v)) : m_D_trusts l0 l1 v Q := by
  refine cp_go (Nat.le_of_ble_eq_true rfl) (by decide +kernel) ?_
  show Gp 1 M_D_trusts 0 [(0, .ref (l0)), (1, .int (l1))] [] v (QZ Q)
  refine g_iload_n 1 e_D_trusts_0 rfl rfl ?_
  refine g_bipush (30 : Int32) e_D_trusts_1 (by decide) ?_
  have hj : ∀ m0 : Bool, m0 = (if l1 < (30 : Int32) then false else true) → Gp 1 M_D_trusts 11 [(0, .ref (l0)), (1, .int (l1))] [.int (bI (m0))] (v) (QZ Q) := by
    intro m0 hm0
    subst hm0
    exact p_retZ e_D_trusts_11.1 rfl h
  refine g_icmp_lt (tgt := 10) e_D_trusts_3 rfl (fun c1 => ?_) (fun c1 => ?_)
  · refine g_iconst (0 : Int32) e_D_trusts_10 (by decide) ?_
    exact hj (false) (by simp only [if_pos c1])
  · refine g_iconst (1 : Int32) e_D_trusts_6 (by decide) ?_
    refine g_goto (tgt := 11) e_D_trusts_7 rfl ?_
    exact hj (true) (by simp only [if_neg c1])
set_option maxHeartbeats 1000000 in
theorem s_D_dares {l0 : Nat} {l1 : Int32} {v : Vv} {Q : Bool → Vv → Prop} (h : (isDoer (l0)) ∧ (Q ((if ((v).1 l0 1 / (4 : Int32)) < l1 then false else true)) (v))) : m_D_dares l0 l1 v Q := by
  refine cp_go (Nat.le_of_ble_eq_true rfl) (by decide +kernel) ?_
  show Gp 1 M_D_dares 0 [(0, .ref (l0)), (1, .int (l1))] [] v (QZ Q)
  refine g_iload_n 1 e_D_dares_0 rfl rfl ?_
  refine g_aload_n 0 e_D_dares_1 rfl rfl ?_
  obtain ⟨h1, h⟩ := h
  refine p_getI e_D_dares_2 (isDoer_o h1) fl_D_15 rfl ?_
  refine g_iconst (4 : Int32) e_D_dares_5 (by decide) ?_
  refine g_idiv e_D_dares_6 (by decide) ?_
  have hj : ∀ m0 : Bool, m0 = (if ((v).1 l0 1 / (4 : Int32)) < l1 then false else true) → Gp 1 M_D_dares 15 [(0, .ref (l0)), (1, .int (l1))] [.int (bI (m0))] (v) (QZ Q) := by
    intro m0 hm0
    subst hm0
    exact p_retZ e_D_dares_15.1 rfl h
  refine g_icmp_gt (tgt := 14) e_D_dares_7 rfl (fun c2 => ?_) (fun c2 => ?_)
  · refine g_iconst (0 : Int32) e_D_dares_14 (by decide) ?_
    exact hj (false) (by simp only [if_pos c2])
  · refine g_iconst (1 : Int32) e_D_dares_10 (by decide) ?_
    refine g_goto (tgt := 15) e_D_dares_11 rfl ?_
    exact hj (true) (by simp only [if_neg c2])
set_option maxHeartbeats 1000000 in
theorem s_D_put {l0 : Nat} {l1 : Int32} {l2 : Int32} {v : Vv} {Q : Int32 → Vv → Prop} (h : (isDoer (l0)) ∧ (m_D_tell l0 l1 (v) (fun x1 v2 => if l1 = (4 : Int32) then (Q (x1) (sI (v2) l0 1 l2)) else (Q (x1) (sI (v2) l0 2 l2))))) : m_D_put l0 l1 l2 v Q := by
  refine cp_go (Nat.le_of_ble_eq_true rfl) (by decide +kernel) ?_
  show Gp 2 M_D_put 0 [(0, .ref (l0)), (1, .int (l1)), (2, .int (l2))] [] v (QI Q)
  refine g_aload_n 0 e_D_put_0 rfl rfl ?_
  refine g_iload_n 1 e_D_put_1 rfl rfl ?_
  obtain ⟨h3, h⟩ := h
  refine p_callVI (d' := 1) (ci := 1) (r := (RX1, TX1, 3)) (As := [.int (l1)]) (rest := []) e_D_put_2 zm_D_tell lV_D_21 (isDoer_o h3) rfl rfl rfl rfl (Nat.le_of_ble_eq_true rfl) (by decide) ?_
  refine cp_mono h (fun _ v2 ⟨x1, e1, h⟩ => ⟨x1, e1, ?_⟩)
  refine g_istore_n (L' := [(3, .int (x1)), (0, .ref (l0)), (1, .int (l1)), (2, .int (l2))]) e_D_put_5 rfl (by decide) rfl ?_
  refine g_iload_n 2 e_D_put_6 rfl rfl ?_
  refine g_iconst (4 : Int32) e_D_put_7 (by decide) ?_
  refine g_icmp_ne (tgt := 19) e_D_put_8 rfl (fun c4 => ?_) (fun c4 => ?_)
  · replace h := iteF h c4
    refine g_aload_n 1 e_D_put_19 rfl rfl ?_
    refine g_iload_n 3 e_D_put_20 rfl rfl ?_
    refine p_putI e_D_put_21 (isDoer_o h3) fp_D_18 rfl rfl rfl ?_
    refine g_iload_n 0 e_D_put_24 rfl rfl ?_
    exact p_retI e_D_put_25.1 rfl h
  · replace h := iteT h c4
    refine g_aload_n 1 e_D_put_11 rfl rfl ?_
    refine g_iload_n 3 e_D_put_12 rfl rfl ?_
    refine p_putI e_D_put_13 (isDoer_o h3) fp_D_15 rfl rfl rfl ?_
    refine g_goto (tgt := 24) e_D_put_16 rfl ?_
    refine g_iload_n 0 e_D_put_24 rfl rfl ?_
    exact p_retI e_D_put_25.1 rfl h
set_option maxHeartbeats 1000000 in
theorem s_D_isUnder {l0 : Nat} {l1 : Int32} {v : Vv} {Q : Bool → Vv → Prop} (h : (isDoer (l0)) ∧ (k_D_isUnder_7 (l1) ((v).1 l0 0) ((0 : Int32)) (v) Q)) : m_D_isUnder l0 l1 v Q := by
  refine cp_go (Nat.le_of_ble_eq_true rfl) (by decide +kernel) ?_
  show Gp 2 M_D_isUnder 0 [(0, .ref (l0)), (1, .int (l1))] [] v (QZ Q)
  refine g_aload_n 0 e_D_isUnder_0 rfl rfl ?_
  obtain ⟨h1, h⟩ := h
  refine p_getI e_D_isUnder_1 (isDoer_o h1) fl_D_9 rfl ?_
  refine g_istore_n (L' := [(2, .int ((v).1 l0 0)), (0, .ref (l0)), (1, .int (l1))]) e_D_isUnder_4 rfl (by decide) rfl ?_
  refine g_iconst (0 : Int32) e_D_isUnder_5 (by decide) ?_
  refine g_istore_n (L' := [(3, .int ((0 : Int32))), (2, .int ((v).1 l0 0)), (0, .ref (l0)), (1, .int (l1))]) e_D_isUnder_6 rfl (by decide) rfl ?_
  exact g_sub [3, 1, 0] rfl h
set_option maxHeartbeats 1000000 in
theorem s_D_isUnder_7 {l1 : Int32} {l2 : Int32} {l3 : Int32} {v : Vv} {Q : Bool → Vv → Prop} (h : if l3 < (6 : Int32) then (m_P_isKind l2 (v) (fun x3 v4 => if x3 = true then (if l2 = l1 then (Q true (v4)) else ((ib (l2) 6) ∧ (k_D_isUnder_7 (l1) (stV 2 (ix (l2))) ((l3 + (1 : Int32))) (v4) Q))) else (Q false (v4)))) else (Q false (v))) : k_D_isUnder_7 l1 l2 l3 v Q := by
  show Gp 2 M_D_isUnder 7 [(1, .int (l1)), (2, .int (l2)), (3, .int (l3))] [] v (QZ Q)
  refine g_iload_n 2 e_D_isUnder_7 rfl rfl ?_
  refine g_bipush (6 : Int32) e_D_isUnder_8 (by decide) ?_
  refine g_icmp_ge (tgt := 39) e_D_isUnder_10 rfl (fun c2 => ?_) (fun c2 => ?_)
  · replace h := iteF h c2
    refine g_iconst (0 : Int32) e_D_isUnder_39 (by decide) ?_
    exact p_retZ (x := false) e_D_isUnder_40.1 rfl h
  · replace h := iteT h c2
    refine g_iload_n 1 e_D_isUnder_13 rfl rfl ?_
    refine p_callSNZ (d' := 1) (As := [.int (l2)]) (rest := []) e_D_isUnder_14 zm_P_isKind lSN_D_25 rfl rfl (Nat.le_of_ble_eq_true rfl) (by decide) ?_
    refine cp_mono h (fun _ v4 ⟨x3, e1, h⟩ => ⟨x3, e1, ?_⟩)
    refine p_ifz_eq (tgt := 39) e_D_isUnder_17 rfl (fun c5 => ?_) (fun c5 => ?_)
    · replace h := iteF h c5
      refine g_iconst (0 : Int32) e_D_isUnder_39 (by decide) ?_
      exact p_retZ (x := false) e_D_isUnder_40.1 rfl h
    · replace h := iteT h c5
      refine g_iload_n 1 e_D_isUnder_20 rfl rfl ?_
      refine g_iload_n 0 e_D_isUnder_21 rfl rfl ?_
      refine g_icmp_ne (tgt := 27) e_D_isUnder_22 rfl (fun c6 => ?_) (fun c6 => ?_)
      · replace h := iteF h c6
        refine g_getsN (j := 2) e_D_isUnder_27 (by decide) gn_D_29 ?_
        refine g_iload_n 1 e_D_isUnder_30 rfl rfl ?_
        obtain ⟨h7, h⟩ := h
        refine g_sald (j := 2) e_D_isUnder_31 (by decide) h7 ?_
        refine g_istore_n (L' := [(2, .int (stV 2 (ix (l2)))), (1, .int (l1)), (3, .int (l3))]) e_D_isUnder_32 rfl (by decide) rfl ?_
        refine g_iinc (v := (l3 + (1 : Int32))) (L' := [(3, .int ((l3 + (1 : Int32)))), (2, .int (stV 2 (ix (l2)))), (1, .int (l1))]) 2 e_D_isUnder_33 rfl rfl (by decide) rfl ?_
        refine g_goto (tgt := 7) e_D_isUnder_36 rfl ?_
        exact g_sub [2, 1, 0] rfl h
      · replace h := iteT h c6
        refine g_iconst (1 : Int32) e_D_isUnder_25 (by decide) ?_
        exact p_retZ (x := true) e_D_isUnder_26.1 rfl h
set_option maxHeartbeats 1000000 in
theorem s_D_rooms {l0 : Nat} {v : Vv} {Q : Int32 → Vv → Prop} (h : (isDoer (l0)) ∧ (m_JI_bitCount ((v).1 l0 2) (v) (fun x2 v3 => Q (x2) (v3)))) : m_D_rooms l0 v Q := by
  refine cp_go (Nat.le_of_ble_eq_true rfl) (by decide +kernel) ?_
  show Gp 2 M_D_rooms 0 [(0, .ref (l0))] [] v (QI Q)
  refine g_aload_n 0 e_D_rooms_0 rfl rfl ?_
  obtain ⟨h1, h⟩ := h
  refine p_getI e_D_rooms_1 (isDoer_o h1) fl_D_18 rfl ?_
  refine p_callSI (d' := 1) (As := [.int ((v).1 l0 2)]) (rest := []) e_D_rooms_4 zm_JI_bitCount lS_D_33 rfl rfl (Nat.le_of_ble_eq_true rfl) (by decide) ?_
  refine cp_mono h (fun _ v3 ⟨x2, e1, h⟩ => ⟨x2, e1, ?_⟩)
  exact p_retI e_D_rooms_7.1 rfl h
set_option maxHeartbeats 1000000 in
theorem s_D_does {l0 : Nat} {l1 : Int32} {l2 : Int32} {l3 : Int32} {l4 : Int32} {v : Vv} {Q : Bool → Vv → Prop} (h : (isDoer (l0)) ∧ (if (v).1 l0 0 = (1 : Int32) then (m_D_trusts l0 l3 (v) (fun x3 v4 => Q (x3) (v4))) else (if (v).1 l0 0 = (2 : Int32) then (m_D_dares l0 l4 (v) (fun x6 v7 => Q (x6) (v7))) else (if (v).1 l0 0 = (3 : Int32) then (m_D_trusts l0 l3 (v) (fun x9 v10 => Q ((if x9 = true then (if (0 : Int32) < l2 then false else true) else false)) (v10))) else (if (v).1 l0 0 = (4 : Int32) then (m_D_dares l0 l4 (v) (fun x14 v15 => Q ((if x14 = true then (if ((l1 + (v15).1 l0 1) % (2 : Int32)) = (0 : Int32) then true else false) else false)) (v15))) else (if (v).1 l0 0 = (5 : Int32) then (Q ((if (1 : Int32) < l2 then false else true)) (v)) else (Q true (v)))))))) : m_D_does l0 l1 l2 l3 l4 v Q := by
  refine cp_go (Nat.le_of_ble_eq_true rfl) (by decide +kernel) ?_
  show Gp 2 M_D_does 0 [(0, .ref (l0)), (1, .int (l1)), (2, .int (l2)), (3, .int (l3)), (4, .int (l4))] [] v (QZ Q)
  refine g_aload_n 0 e_D_does_0 rfl rfl ?_
  obtain ⟨h1, h⟩ := h
  refine p_getI e_D_does_1 (isDoer_o h1) fl_D_9 rfl ?_
  by_cases c2 : (v).1 l0 0 = (1 : Int32)
  · replace h := iteT h c2
    refine g_tsw (tgt := 40) e_D_does_4 (1 : Int32) c2 (by decide) (by decide) rfl rfl ?_
    refine g_aload_n 0 e_D_does_40 rfl rfl ?_
    refine g_iload_n 3 e_D_does_41 rfl rfl ?_
    refine p_callVZ (d' := 1) (ci := 1) (r := (RX1, TX1, 3)) (As := [.int (l3)]) (rest := []) e_D_does_42 zm_D_trusts lV_D_38 (isDoer_o h1) rfl rfl rfl rfl (Nat.le_of_ble_eq_true rfl) (by decide) ?_
    refine cp_mono h (fun _ v4 ⟨x3, e1, h⟩ => ⟨x3, e1, ?_⟩)
    exact p_retZ e_D_does_45.1 rfl h
  · replace h := iteF h c2
    by_cases c5 : (v).1 l0 0 = (2 : Int32)
    · replace h := iteT h c5
      refine g_tsw (tgt := 46) e_D_does_4 (2 : Int32) c5 (by decide) (by decide) rfl rfl ?_
      refine g_aload_n 0 e_D_does_46 rfl rfl ?_
      refine g_iload 4 e_D_does_47 rfl ?_
      refine p_callVZ (d' := 1) (ci := 1) (r := (RX1, TX1, 3)) (As := [.int (l4)]) (rest := []) e_D_does_49 zm_D_dares lV_D_41 (isDoer_o h1) rfl rfl rfl rfl (Nat.le_of_ble_eq_true rfl) (by decide) ?_
      refine cp_mono h (fun _ v7 ⟨x6, e1, h⟩ => ⟨x6, e1, ?_⟩)
      exact p_retZ e_D_does_52.1 rfl h
    · replace h := iteF h c5
      by_cases c8 : (v).1 l0 0 = (3 : Int32)
      · replace h := iteT h c8
        refine g_tsw (tgt := 53) e_D_does_4 (3 : Int32) c8 (by decide) (by decide) rfl rfl ?_
        refine g_aload_n 0 e_D_does_53 rfl rfl ?_
        refine g_iload_n 3 e_D_does_54 rfl rfl ?_
        refine p_callVZ (d' := 1) (ci := 1) (r := (RX1, TX1, 3)) (As := [.int (l3)]) (rest := []) e_D_does_55 zm_D_trusts lV_D_38 (isDoer_o h1) rfl rfl rfl rfl (Nat.le_of_ble_eq_true rfl) (by decide) ?_
        refine cp_mono h (fun _ v10 ⟨x9, e1, h⟩ => ⟨x9, e1, ?_⟩)
        have hj : ∀ m0 : Bool, m0 = (if x9 = true then (if (0 : Int32) < l2 then false else true) else false) → Gp 2 M_D_does 70 [(0, .ref (l0)), (1, .int (l1)), (2, .int (l2)), (3, .int (l3)), (4, .int (l4))] [.int (bI (m0))] (v10) (QZ Q) := by
          intro m0 hm0
          subst hm0
          exact p_retZ e_D_does_70.1 rfl h
        refine p_ifz_eq (tgt := 69) e_D_does_58 rfl (fun c11 => ?_) (fun c11 => ?_)
        · refine g_iconst (0 : Int32) e_D_does_69 (by decide) ?_
          exact hj (false) (by simp only [if_neg c11])
        · refine g_iload_n 2 e_D_does_61 rfl rfl ?_
          refine g_if_gt (tgt := 69) e_D_does_62 rfl (fun c12 => ?_) (fun c12 => ?_)
          · refine g_iconst (0 : Int32) e_D_does_69 (by decide) ?_
            exact hj (false) (by simp only [if_pos c11, if_pos c12])
          · refine g_iconst (1 : Int32) e_D_does_65 (by decide) ?_
            refine g_goto (tgt := 70) e_D_does_66 rfl ?_
            exact hj (true) (by simp only [if_pos c11, if_neg c12])
      · replace h := iteF h c8
        by_cases c13 : (v).1 l0 0 = (4 : Int32)
        · replace h := iteT h c13
          refine g_tsw (tgt := 71) e_D_does_4 (4 : Int32) c13 (by decide) (by decide) rfl rfl ?_
          refine g_aload_n 0 e_D_does_71 rfl rfl ?_
          refine g_iload 4 e_D_does_72 rfl ?_
          refine p_callVZ (d' := 1) (ci := 1) (r := (RX1, TX1, 3)) (As := [.int (l4)]) (rest := []) e_D_does_74 zm_D_dares lV_D_41 (isDoer_o h1) rfl rfl rfl rfl (Nat.le_of_ble_eq_true rfl) (by decide) ?_
          refine cp_mono h (fun _ v15 ⟨x14, e1, h⟩ => ⟨x14, e1, ?_⟩)
          have hj : ∀ m0 : Bool, m0 = (if x14 = true then (if ((l1 + (v15).1 l0 1) % (2 : Int32)) = (0 : Int32) then true else false) else false) → Gp 2 M_D_does 96 [(0, .ref (l0)), (1, .int (l1)), (2, .int (l2)), (3, .int (l3)), (4, .int (l4))] [.int (bI (m0))] (v15) (QZ Q) := by
            intro m0 hm0
            subst hm0
            exact p_retZ e_D_does_96.1 rfl h
          refine p_ifz_eq (tgt := 95) e_D_does_77 rfl (fun c16 => ?_) (fun c16 => ?_)
          · refine g_iconst (0 : Int32) e_D_does_95 (by decide) ?_
            exact hj (false) (by simp only [if_neg c16])
          · refine g_iload_n 1 e_D_does_80 rfl rfl ?_
            refine g_aload_n 0 e_D_does_81 rfl rfl ?_
            refine p_getI e_D_does_82 (isDoer_o h1) fl_D_15 rfl ?_
            refine g_iadd e_D_does_85 ?_
            refine g_iconst (2 : Int32) e_D_does_86 (by decide) ?_
            refine g_irem e_D_does_87 (by decide) ?_
            refine g_if_ne (tgt := 95) e_D_does_88 rfl (fun c17 => ?_) (fun c17 => ?_)
            · refine g_iconst (0 : Int32) e_D_does_95 (by decide) ?_
              exact hj (false) (by simp only [if_pos c16, if_neg c17])
            · refine g_iconst (1 : Int32) e_D_does_91 (by decide) ?_
              refine g_goto (tgt := 96) e_D_does_92 rfl ?_
              exact hj (true) (by simp only [if_pos c16, if_pos c17])
        · replace h := iteF h c13
          by_cases c18 : (v).1 l0 0 = (5 : Int32)
          · replace h := iteT h c18
            refine g_tsw (tgt := 97) e_D_does_4 (5 : Int32) c18 (by decide) (by decide) rfl rfl ?_
            refine g_iload_n 2 e_D_does_97 rfl rfl ?_
            refine g_iconst (1 : Int32) e_D_does_98 (by decide) ?_
            have hj : ∀ m0 : Bool, m0 = (if (1 : Int32) < l2 then false else true) → Gp 2 M_D_does 107 [(0, .ref (l0)), (1, .int (l1)), (2, .int (l2)), (3, .int (l3)), (4, .int (l4))] [.int (bI (m0))] (v) (QZ Q) := by
              intro m0 hm0
              subst hm0
              exact p_retZ e_D_does_107.1 rfl h
            refine g_icmp_gt (tgt := 106) e_D_does_99 rfl (fun c19 => ?_) (fun c19 => ?_)
            · refine g_iconst (0 : Int32) e_D_does_106 (by decide) ?_
              exact hj (false) (by simp only [if_pos c19])
            · refine g_iconst (1 : Int32) e_D_does_102 (by decide) ?_
              refine g_goto (tgt := 107) e_D_does_103 rfl ?_
              exact hj (true) (by simp only [if_neg c19])
          · replace h := iteF h c18
            refine g_tsd (tgt := 108) [(1 : Int32), (2 : Int32), (3 : Int32), (4 : Int32), (5 : Int32)] e_D_does_4 (List.forall_mem_cons.mpr ⟨c2, (List.forall_mem_cons.mpr ⟨c5, (List.forall_mem_cons.mpr ⟨c8, (List.forall_mem_cons.mpr ⟨c13, (List.forall_mem_cons.mpr ⟨c18, (fun _ h => absurd h List.not_mem_nil)⟩)⟩)⟩)⟩)⟩) (by decide) rfl ?_
            refine g_iconst (1 : Int32) e_D_does_108 (by decide) ?_
            exact p_retZ (x := true) e_D_does_109.1 rfl h
set_option maxHeartbeats 1000000 in
theorem s_D_adds {l0 : Nat} {l1 : Int32} {l2 : Int32} {v : Vv} {Q : Int32 → Vv → Prop} (h : (isDoer (l0)) ∧ (if (v).1 l0 0 = (1 : Int32) then (Q (l2) (v)) else (if (v).1 l0 0 = (2 : Int32) then (Q (l1) (v)) else (if (v).1 l0 0 = (3 : Int32) then (m_JM_min l2 (60 : Int32) (v) (fun x5 v6 => Q (x5) (v6))) else (if (v).1 l0 0 = (4 : Int32) then (Q ((l1 / (2 : Int32))) (v)) else (if (v).1 l0 0 = (5 : Int32) then (Q ((if (4 : Int32) < (v).1 l0 1 then ((2 : Int32) * l1) else l1)) (v)) else (Q (l1) (v)))))))) : m_D_adds l0 l1 l2 v Q := by
  refine cp_go (Nat.le_of_ble_eq_true rfl) (by decide +kernel) ?_
  show Gp 2 M_D_adds 0 [(0, .ref (l0)), (1, .int (l1)), (2, .int (l2))] [] v (QI Q)
  refine g_aload_n 0 e_D_adds_0 rfl rfl ?_
  obtain ⟨h1, h⟩ := h
  refine p_getI e_D_adds_1 (isDoer_o h1) fl_D_9 rfl ?_
  by_cases c2 : (v).1 l0 0 = (1 : Int32)
  · replace h := iteT h c2
    refine g_tsw (tgt := 40) e_D_adds_4 (1 : Int32) c2 (by decide) (by decide) rfl rfl ?_
    refine g_iload_n 2 e_D_adds_40 rfl rfl ?_
    exact p_retI e_D_adds_41.1 rfl h
  · replace h := iteF h c2
    by_cases c3 : (v).1 l0 0 = (2 : Int32)
    · replace h := iteT h c3
      refine g_tsw (tgt := 69) e_D_adds_4 (2 : Int32) c3 (by decide) (by decide) rfl rfl ?_
      refine g_iload_n 1 e_D_adds_69 rfl rfl ?_
      exact p_retI e_D_adds_70.1 rfl h
    · replace h := iteF h c3
      by_cases c4 : (v).1 l0 0 = (3 : Int32)
      · replace h := iteT h c4
        refine g_tsw (tgt := 42) e_D_adds_4 (3 : Int32) c4 (by decide) (by decide) rfl rfl ?_
        refine g_iload_n 2 e_D_adds_42 rfl rfl ?_
        refine g_bipush (60 : Int32) e_D_adds_43 (by decide) ?_
        refine p_callSI (d' := 1) (As := [.int (l2), .int ((60 : Int32))]) (rest := []) e_D_adds_45 zm_JM_min lS_D_44 rfl rfl (Nat.le_of_ble_eq_true rfl) (by decide) ?_
        refine cp_mono h (fun _ v6 ⟨x5, e1, h⟩ => ⟨x5, e1, ?_⟩)
        exact p_retI e_D_adds_48.1 rfl h
      · replace h := iteF h c4
        by_cases c7 : (v).1 l0 0 = (4 : Int32)
        · replace h := iteT h c7
          refine g_tsw (tgt := 49) e_D_adds_4 (4 : Int32) c7 (by decide) (by decide) rfl rfl ?_
          refine g_iload_n 1 e_D_adds_49 rfl rfl ?_
          refine g_iconst (2 : Int32) e_D_adds_50 (by decide) ?_
          refine g_idiv e_D_adds_51 (by decide) ?_
          exact p_retI e_D_adds_52.1 rfl h
        · replace h := iteF h c7
          by_cases c8 : (v).1 l0 0 = (5 : Int32)
          · replace h := iteT h c8
            refine g_tsw (tgt := 53) e_D_adds_4 (5 : Int32) c8 (by decide) (by decide) rfl rfl ?_
            refine g_aload_n 0 e_D_adds_53 rfl rfl ?_
            refine p_getI e_D_adds_54 (isDoer_o h1) fl_D_15 rfl ?_
            refine g_iconst (4 : Int32) e_D_adds_57 (by decide) ?_
            have hj : ∀ m0 : Int32, m0 = (if (4 : Int32) < (v).1 l0 1 then ((2 : Int32) * l1) else l1) → Gp 2 M_D_adds 68 [(0, .ref (l0)), (1, .int (l1)), (2, .int (l2))] [.int (m0)] (v) (QI Q) := by
              intro m0 hm0
              subst hm0
              exact p_retI e_D_adds_68.1 rfl h
            refine g_icmp_le (tgt := 67) e_D_adds_58 rfl (fun c9 => ?_) (fun c9 => ?_)
            · refine g_iload_n 1 e_D_adds_67 rfl rfl ?_
              exact hj (l1) (by simp only [if_neg c9])
            · refine g_iconst (2 : Int32) e_D_adds_61 (by decide) ?_
              refine g_iload_n 1 e_D_adds_62 rfl rfl ?_
              refine g_imul e_D_adds_63 ?_
              refine g_goto (tgt := 68) e_D_adds_64 rfl ?_
              exact hj (((2 : Int32) * l1)) (by simp only [if_pos c9])
          · replace h := iteF h c8
            refine g_tsd (tgt := 69) [(1 : Int32), (2 : Int32), (3 : Int32), (4 : Int32), (5 : Int32)] e_D_adds_4 (List.forall_mem_cons.mpr ⟨c2, (List.forall_mem_cons.mpr ⟨c3, (List.forall_mem_cons.mpr ⟨c4, (List.forall_mem_cons.mpr ⟨c7, (List.forall_mem_cons.mpr ⟨c8, (fun _ h => absurd h List.not_mem_nil)⟩)⟩)⟩)⟩)⟩) (by decide) rfl ?_
            refine g_iload_n 1 e_D_adds_69 rfl rfl ?_
            exact p_retI e_D_adds_70.1 rfl h
set_option maxHeartbeats 1000000 in
theorem s_U_add {l1 : Int32} {l2 : Int64} {v : Vv} {Q : Vv → Prop} (h : k_U_add_3 (l1) (l2) ((0 : Int32)) (v) Q) : m_U_add l1 l2 v Q := by
  refine cp_go (Nat.le_of_ble_eq_true rfl) (by decide +kernel) ?_
  show Gp 1 M_U_add 0 [(0, .ref (117)), (1, .int (l1)), (2, .long (l2))] [] v (QV Q)
  refine g_iconst (0 : Int32) e_U_add_0 (by decide) ?_
  refine g_istore (L' := [(4, .int ((0 : Int32))), (0, .ref (117)), (1, .int (l1)), (2, .long (l2))]) e_U_add_1 (by decide) rfl ?_
  exact g_sub [1, 2, 3, 0] rfl h
set_option maxHeartbeats 1000000 in
theorem s_U_add_3 {l1 : Int32} {l2 : Int64} {l4 : Int32} {v : Vv} {Q : Vv → Prop} (h : if l4 < (v).1 117 2 then ((ib (l4) 32) ∧ (if (v).1 118 (ix (l4)) = l1 then (k_U_add_29 (l1) (l2) (l4) (v) Q) else (k_U_add_3 (l1) (l2) ((l4 + (1 : Int32))) (v) Q))) else (k_U_add_29 (l1) (l2) (l4) (v) Q)) : k_U_add_3 l1 l2 l4 v Q := by
  show Gp 1 M_U_add 3 [(0, .ref (117)), (1, .int (l1)), (2, .long (l2)), (4, .int (l4))] [] v (QV Q)
  refine g_iload 3 e_U_add_3 rfl ?_
  refine g_aload_n 0 e_U_add_5 rfl rfl ?_
  refine p_getI e_U_add_6 sh_117 fl_U_19 rfl ?_
  refine g_icmp_ge (tgt := 29) e_U_add_9 rfl (fun c1 => ?_) (fun c1 => ?_)
  · replace h := iteF h c1
    exact g_sub [0, 1, 2, 3] rfl h
  · replace h := iteT h c1
    refine g_aload_n 0 e_U_add_12 rfl rfl ?_
    refine p_getR (j := 118) e_U_add_13 sh_117 fl_U_9 rfl (rf_117_0 _) ?_
    refine g_iload 3 e_U_add_16 rfl ?_
    obtain ⟨h2, h⟩ := h
    refine p_iald e_U_add_18 sh_118 h2 ?_
    refine g_iload_n 1 e_U_add_19 rfl rfl ?_
    refine g_icmp_eq (tgt := 29) e_U_add_20 rfl (fun c3 => ?_) (fun c3 => ?_)
    · replace h := iteT h c3
      exact g_sub [0, 1, 2, 3] rfl h
    · replace h := iteF h c3
      refine g_iinc (v := (l4 + (1 : Int32))) (L' := [(4, .int ((l4 + (1 : Int32)))), (0, .ref (117)), (1, .int (l1)), (2, .long (l2))]) 3 e_U_add_23 rfl rfl (by decide) rfl ?_
      refine g_goto (tgt := 3) e_U_add_26 rfl ?_
      exact g_sub [1, 2, 3, 0] rfl h
set_option maxHeartbeats 1000000 in
theorem s_U_add_29 {l1 : Int32} {l2 : Int64} {l4 : Int32} {v : Vv} {Q : Vv → Prop} (h : if l4 < (32 : Int32) then (if l4 = (v).1 117 2 then ((ib (l4) 32) ∧ (k_U_add_75 (l2) (l4) (sI (sJ (sI (v) 118 (ix (l4)) l1) 119 (ix (l4)) (0 : Int64)) 117 2 ((sJ (sI (v) 118 (ix (l4)) l1) 119 (ix (l4)) (0 : Int64)).1 117 2 + (1 : Int32))) Q)) else (k_U_add_75 (l2) (l4) (v) Q)) else (Q (v))) : k_U_add_29 l1 l2 l4 v Q := by
  show Gp 1 M_U_add 29 [(0, .ref (117)), (1, .int (l1)), (2, .long (l2)), (4, .int (l4))] [] v (QV Q)
  refine g_iload 3 e_U_add_29 rfl ?_
  refine g_aload_n 0 e_U_add_31 rfl rfl ?_
  refine p_getR (j := 118) e_U_add_32 sh_117 fl_U_9 rfl (rf_117_0 _) ?_
  refine p_alen (x := (32 : Int32)) e_U_add_35 sh_118 (by decide) (by decide) ?_
  refine g_icmp_lt (tgt := 40) e_U_add_36 rfl (fun c4 => ?_) (fun c4 => ?_)
  · replace h := iteT h c4
    refine g_iload 3 e_U_add_40 rfl ?_
    refine g_aload_n 0 e_U_add_42 rfl rfl ?_
    refine p_getI e_U_add_43 sh_117 fl_U_19 rfl ?_
    refine g_icmp_ne (tgt := 75) e_U_add_46 rfl (fun c5 => ?_) (fun c5 => ?_)
    · replace h := iteF h c5
      exact g_sub [0, 2, 3] rfl h
    · replace h := iteT h c5
      refine g_aload_n 0 e_U_add_49 rfl rfl ?_
      refine p_getR (j := 118) e_U_add_50 sh_117 fl_U_9 rfl (rf_117_0 _) ?_
      refine g_iload 3 e_U_add_53 rfl ?_
      refine g_iload_n 1 e_U_add_55 rfl rfl ?_
      obtain ⟨h6, h⟩ := h
      refine p_iast e_U_add_56 sh_118 h6 ?_
      refine g_aload_n 0 e_U_add_57 rfl rfl ?_
      refine p_getR (j := 119) e_U_add_58 sh_117 fl_U_15 rfl (rf_117_1 _) ?_
      refine g_iload 3 e_U_add_61 rfl ?_
      refine g_lconst (0 : Int64) e_U_add_63 (by decide) ?_
      refine p_last e_U_add_64 sh_119 h6 ?_
      refine g_aload_n 0 e_U_add_65 rfl rfl ?_
      refine g_dup e_U_add_66 rfl ?_
      refine p_getI e_U_add_67 sh_117 fl_U_19 rfl ?_
      refine g_iconst (1 : Int32) e_U_add_70 (by decide) ?_
      refine g_iadd e_U_add_71 ?_
      refine p_putI e_U_add_72 sh_117 fp_U_19 rfl rfl rfl ?_
      exact g_sub [0, 2, 3] rfl h
  · replace h := iteF h c4
    exact p_retV e_U_add_39.1 rfl h
set_option maxHeartbeats 1000000 in
theorem s_U_add_75 {l2 : Int64} {l4 : Int32} {v : Vv} {Q : Vv → Prop} (h : (ib (l4) 32) ∧ (Q (sJ (v) 119 (ix (l4)) ((v).2.1 119 (ix (l4)) + l2)))) : k_U_add_75 l2 l4 v Q := by
  show Gp 1 M_U_add 75 [(0, .ref (117)), (2, .long (l2)), (4, .int (l4))] [] v (QV Q)
  refine g_aload_n 0 e_U_add_75 rfl rfl ?_
  refine p_getR (j := 119) e_U_add_76 sh_117 fl_U_15 rfl (rf_117_1 _) ?_
  refine g_iload 2 e_U_add_79 rfl ?_
  refine g_dup2 e_U_add_81 rfl rfl ?_
  obtain ⟨h7, h⟩ := h
  refine p_lald e_U_add_82 sh_119 h7 ?_
  refine g_lload_n 1 e_U_add_83 rfl rfl ?_
  refine g_ladd e_U_add_84 ?_
  refine p_last e_U_add_85 sh_119 h7 ?_
  exact p_retV e_U_add_86.1 rfl h
set_option maxHeartbeats 1000000 in
theorem s_U_aboveNothing  {v : Vv} {Q : Int32 → Vv → Prop} (h : k_U_aboveNothing_4 ((0 : Int32)) ((0 : Int32)) (v) Q) : m_U_aboveNothing  v Q := by
  refine cp_go (Nat.le_of_ble_eq_true rfl) (by decide +kernel) ?_
  show Gp 1 M_U_aboveNothing 0 [(0, .ref (117))] [] v (QI Q)
  refine g_iconst (0 : Int32) e_U_aboveNothing_0 (by decide) ?_
  refine g_istore_n (L' := [(1, .int ((0 : Int32))), (0, .ref (117))]) e_U_aboveNothing_1 rfl (by decide) rfl ?_
  refine g_iconst (0 : Int32) e_U_aboveNothing_2 (by decide) ?_
  refine g_istore_n (L' := [(2, .int ((0 : Int32))), (1, .int ((0 : Int32))), (0, .ref (117))]) e_U_aboveNothing_3 rfl (by decide) rfl ?_
  exact g_sub [2, 1, 0] rfl h
set_option maxHeartbeats 1000000 in
theorem s_U_aboveNothing_4 {l1 : Int32} {l2 : Int32} {v : Vv} {Q : Int32 → Vv → Prop} (h : if l2 < (v).1 117 2 then ((ib (l2) 32) ∧ (if (0 : Int64) < (v).2.1 119 (ix (l2)) then (k_U_aboveNothing_26 ((l1 + (1 : Int32))) (l2) (v) Q) else (k_U_aboveNothing_26 (l1) (l2) (v) Q))) else (Q (l1) (v))) : k_U_aboveNothing_4 l1 l2 v Q := by
  show Gp 1 M_U_aboveNothing 4 [(0, .ref (117)), (1, .int (l1)), (2, .int (l2))] [] v (QI Q)
  refine g_iload_n 2 e_U_aboveNothing_4 rfl rfl ?_
  refine g_aload_n 0 e_U_aboveNothing_5 rfl rfl ?_
  refine p_getI e_U_aboveNothing_6 sh_117 fl_U_19 rfl ?_
  refine g_icmp_ge (tgt := 32) e_U_aboveNothing_9 rfl (fun c1 => ?_) (fun c1 => ?_)
  · replace h := iteF h c1
    refine g_iload_n 1 e_U_aboveNothing_32 rfl rfl ?_
    exact p_retI e_U_aboveNothing_33.1 rfl h
  · replace h := iteT h c1
    refine g_aload_n 0 e_U_aboveNothing_12 rfl rfl ?_
    refine p_getR (j := 119) e_U_aboveNothing_13 sh_117 fl_U_15 rfl (rf_117_1 _) ?_
    refine g_iload_n 2 e_U_aboveNothing_16 rfl rfl ?_
    obtain ⟨h2, h⟩ := h
    refine p_lald e_U_aboveNothing_17 sh_119 h2 ?_
    refine g_lconst (0 : Int64) e_U_aboveNothing_18 (by decide) ?_
    refine g_l_le (tgt := 26) e_U_aboveNothing_19 e_U_aboveNothing_20 rfl (fun c3 => ?_) (fun c3 => ?_)
    · replace h := iteF h c3
      exact g_sub [0, 1, 2] rfl h
    · replace h := iteT h c3
      refine g_iinc (v := (l1 + (1 : Int32))) (L' := [(1, .int ((l1 + (1 : Int32)))), (0, .ref (117)), (2, .int (l2))]) 1 e_U_aboveNothing_23 rfl rfl (by decide) rfl ?_
      exact g_sub [1, 0, 2] rfl h
set_option maxHeartbeats 1000000 in
theorem s_U_aboveNothing_26 {l1 : Int32} {l2 : Int32} {v : Vv} {Q : Int32 → Vv → Prop} (h : k_U_aboveNothing_4 (l1) ((l2 + (1 : Int32))) (v) Q) : k_U_aboveNothing_26 l1 l2 v Q := by
  show Gp 1 M_U_aboveNothing 26 [(0, .ref (117)), (1, .int (l1)), (2, .int (l2))] [] v (QI Q)
  refine g_iinc (v := (l2 + (1 : Int32))) (L' := [(2, .int ((l2 + (1 : Int32)))), (0, .ref (117)), (1, .int (l1))]) 2 e_U_aboveNothing_26 rfl rfl (by decide) rfl ?_
  refine g_goto (tgt := 4) e_U_aboveNothing_29 rfl ?_
  exact g_sub [1, 2, 0] rfl h
set_option maxHeartbeats 1000000 in
theorem s_U_greatest  {v : Vv} {Q : Int64 → Vv → Prop} (h : k_U_greatest_4 ((0 : Int64)) ((0 : Int32)) (v) Q) : m_U_greatest  v Q := by
  refine cp_go (Nat.le_of_ble_eq_true rfl) (by decide +kernel) ?_
  show Gp 2 M_U_greatest 0 [(0, .ref (117))] [] v (QJ Q)
  refine g_lconst (0 : Int64) e_U_greatest_0 (by decide) ?_
  refine g_lstore_n (L' := [(1, .long ((0 : Int64))), (0, .ref (117))]) e_U_greatest_1 rfl (by decide) rfl ?_
  refine g_iconst (0 : Int32) e_U_greatest_2 (by decide) ?_
  refine g_istore_n (L' := [(3, .int ((0 : Int32))), (1, .long ((0 : Int64))), (0, .ref (117))]) e_U_greatest_3 rfl (by decide) rfl ?_
  exact g_sub [2, 1, 0] rfl h
set_option maxHeartbeats 1000000 in
theorem s_U_greatest_4 {l1 : Int64} {l3 : Int32} {v : Vv} {Q : Int64 → Vv → Prop} (h : if l3 < (v).1 117 2 then ((ib (l3) 32) ∧ (m_JM_max_JJJ l1 ((v).2.1 119 (ix (l3))) (v) (fun x3 v4 => k_U_greatest_4 (x3) ((l3 + (1 : Int32))) (v4) Q))) else (Q (l1) (v))) : k_U_greatest_4 l1 l3 v Q := by
  show Gp 2 M_U_greatest 4 [(0, .ref (117)), (1, .long (l1)), (3, .int (l3))] [] v (QJ Q)
  refine g_iload_n 2 e_U_greatest_4 rfl rfl ?_
  refine g_aload_n 0 e_U_greatest_5 rfl rfl ?_
  refine p_getI e_U_greatest_6 sh_117 fl_U_19 rfl ?_
  refine g_icmp_ge (tgt := 29) e_U_greatest_9 rfl (fun c1 => ?_) (fun c1 => ?_)
  · replace h := iteF h c1
    refine g_lload_n 1 e_U_greatest_29 rfl rfl ?_
    exact p_retJ e_U_greatest_30.1 rfl h
  · replace h := iteT h c1
    refine g_lload_n 1 e_U_greatest_12 rfl rfl ?_
    refine g_aload_n 0 e_U_greatest_13 rfl rfl ?_
    refine p_getR (j := 119) e_U_greatest_14 sh_117 fl_U_15 rfl (rf_117_1 _) ?_
    refine g_iload_n 2 e_U_greatest_17 rfl rfl ?_
    obtain ⟨h2, h⟩ := h
    refine p_lald e_U_greatest_18 sh_119 h2 ?_
    refine p_callSJ (d' := 1) (As := [.long (l1), .long ((v).2.1 119 (ix (l3)))]) (rest := []) e_U_greatest_19 zm_JM_max_JJJ lS_U_23 rfl rfl (Nat.le_of_ble_eq_true rfl) (by decide) ?_
    refine cp_mono h (fun _ v4 ⟨x3, e1, h⟩ => ⟨x3, e1, ?_⟩)
    refine g_lstore_n (L' := [(1, .long (x3)), (0, .ref (117)), (3, .int (l3))]) e_U_greatest_22 rfl (by decide) rfl ?_
    refine g_iinc (v := (l3 + (1 : Int32))) (L' := [(3, .int ((l3 + (1 : Int32)))), (1, .long (x3)), (0, .ref (117))]) 2 e_U_greatest_23 rfl rfl (by decide) rfl ?_
    refine g_goto (tgt := 4) e_U_greatest_26 rfl ?_
    exact g_sub [2, 1, 0] rfl h
set_option maxHeartbeats 1000000 in
theorem s_U_keyOfGreatest  {v : Vv} {Q : Int32 → Vv → Prop} (h : m_U_greatest  (v) (fun x1 v2 => k_U_keyOfGreatest_10 (x1) ((-1 : Int32)) ((0 : Int32)) (v2) Q)) : m_U_keyOfGreatest  v Q := by
  refine cp_go (Nat.le_of_ble_eq_true rfl) (by decide +kernel) ?_
  show Gp 3 M_U_keyOfGreatest 0 [(0, .ref (117))] [] v (QI Q)
  refine g_aload_n 0 e_U_keyOfGreatest_0 rfl rfl ?_
  refine p_callVJ (d' := 2) (ci := 6) (r := (RX6, TX6, 3)) (As := []) (rest := []) e_U_keyOfGreatest_1 zm_U_greatest lV_U_29 sh_117 rfl rfl rfl rfl (Nat.le_of_ble_eq_true rfl) (by decide) ?_
  refine cp_mono h (fun _ v2 ⟨x1, e1, h⟩ => ⟨x1, e1, ?_⟩)
  refine g_lstore_n (L' := [(1, .long (x1)), (0, .ref (117))]) e_U_keyOfGreatest_4 rfl (by decide) rfl ?_
  refine g_iconst (-1 : Int32) e_U_keyOfGreatest_5 (by decide) ?_
  refine g_istore_n (L' := [(3, .int ((-1 : Int32))), (1, .long (x1)), (0, .ref (117))]) e_U_keyOfGreatest_6 rfl (by decide) rfl ?_
  refine g_iconst (0 : Int32) e_U_keyOfGreatest_7 (by decide) ?_
  refine g_istore (L' := [(4, .int ((0 : Int32))), (3, .int ((-1 : Int32))), (1, .long (x1)), (0, .ref (117))]) e_U_keyOfGreatest_8 (by decide) rfl ?_
  exact g_sub [3, 2, 1, 0] rfl h
set_option maxHeartbeats 1000000 in
theorem s_U_keyOfGreatest_10 {l1 : Int64} {l3 : Int32} {l4 : Int32} {v : Vv} {Q : Int32 → Vv → Prop} (h : if l4 < (v).1 117 2 then ((ib (l4) 32) ∧ (if (v).2.1 119 (ix (l4)) = l1 then (k_U_keyOfGreatest_10 (l1) ((if l3 = (-1 : Int32) then (v).1 118 (ix (l4)) else (if (v).1 118 (ix (l4)) < l3 then (v).1 118 (ix (l4)) else l3))) ((l4 + (1 : Int32))) (v) Q) else (k_U_keyOfGreatest_55 (l1) (l3) (l4) (v) Q))) else (Q (l3) (v))) : k_U_keyOfGreatest_10 l1 l3 l4 v Q := by
  show Gp 3 M_U_keyOfGreatest 10 [(0, .ref (117)), (1, .long (l1)), (3, .int (l3)), (4, .int (l4))] [] v (QI Q)
  refine g_iload 3 e_U_keyOfGreatest_10 rfl ?_
  refine g_aload_n 0 e_U_keyOfGreatest_12 rfl rfl ?_
  refine p_getI e_U_keyOfGreatest_13 sh_117 fl_U_19 rfl ?_
  refine g_icmp_ge (tgt := 61) e_U_keyOfGreatest_16 rfl (fun c3 => ?_) (fun c3 => ?_)
  · replace h := iteF h c3
    refine g_iload_n 2 e_U_keyOfGreatest_61 rfl rfl ?_
    exact p_retI e_U_keyOfGreatest_62.1 rfl h
  · replace h := iteT h c3
    refine g_aload_n 0 e_U_keyOfGreatest_19 rfl rfl ?_
    refine p_getR (j := 119) e_U_keyOfGreatest_20 sh_117 fl_U_15 rfl (rf_117_1 _) ?_
    refine g_iload 3 e_U_keyOfGreatest_23 rfl ?_
    obtain ⟨h4, h⟩ := h
    refine p_lald e_U_keyOfGreatest_25 sh_119 h4 ?_
    refine g_lload_n 1 e_U_keyOfGreatest_26 rfl rfl ?_
    refine g_l_ne (tgt := 55) e_U_keyOfGreatest_27 e_U_keyOfGreatest_28 rfl (fun c5 => ?_) (fun c5 => ?_)
    · replace h := iteF h c5
      exact g_sub [0, 1, 2, 3] rfl h
    · replace h := iteT h c5
      refine g_iload_n 2 e_U_keyOfGreatest_31 rfl rfl ?_
      refine g_iconst (-1 : Int32) e_U_keyOfGreatest_32 (by decide) ?_
      have hj : ∀ m0 : Int32, m0 = (if l3 = (-1 : Int32) then (v).1 118 (ix (l4)) else (if (v).1 118 (ix (l4)) < l3 then (v).1 118 (ix (l4)) else l3)) → Gp 3 M_U_keyOfGreatest 55 [(0, .ref (117)), (1, .long (l1)), (3, .int (m0)), (4, .int (l4))] [] (v) (QI Q) := by
        intro m0 hm0
        subst hm0
        refine g_iinc (v := (l4 + (1 : Int32))) (L' := [(4, .int ((l4 + (1 : Int32)))), (0, .ref (117)), (1, .long (l1)), (3, .int ((if l3 = (-1 : Int32) then (v).1 118 (ix (l4)) else (if (v).1 118 (ix (l4)) < l3 then (v).1 118 (ix (l4)) else l3))))]) 3 e_U_keyOfGreatest_55 rfl rfl (by decide) rfl ?_
        refine g_goto (tgt := 10) e_U_keyOfGreatest_58 rfl ?_
        exact g_sub [1, 2, 3, 0] rfl h
      refine g_icmp_eq (tgt := 47) e_U_keyOfGreatest_33 rfl (fun c6 => ?_) (fun c6 => ?_)
      · refine g_aload_n 0 e_U_keyOfGreatest_47 rfl rfl ?_
        refine p_getR (j := 118) e_U_keyOfGreatest_48 sh_117 fl_U_9 rfl (rf_117_0 _) ?_
        refine g_iload 3 e_U_keyOfGreatest_51 rfl ?_
        refine p_iald e_U_keyOfGreatest_53 sh_118 h4 ?_
        refine g_istore_n (L' := [(3, .int ((v).1 118 (ix (l4)))), (0, .ref (117)), (1, .long (l1)), (4, .int (l4))]) e_U_keyOfGreatest_54 rfl (by decide) rfl ?_
        refine g_sub [1, 2, 0, 3] rfl ?_
        exact hj ((v).1 118 (ix (l4))) (by simp only [if_pos c6])
      · refine g_aload_n 0 e_U_keyOfGreatest_36 rfl rfl ?_
        refine p_getR (j := 118) e_U_keyOfGreatest_37 sh_117 fl_U_9 rfl (rf_117_0 _) ?_
        refine g_iload 3 e_U_keyOfGreatest_40 rfl ?_
        refine p_iald e_U_keyOfGreatest_42 sh_118 h4 ?_
        refine g_iload_n 2 e_U_keyOfGreatest_43 rfl rfl ?_
        refine g_icmp_ge (tgt := 55) e_U_keyOfGreatest_44 rfl (fun c7 => ?_) (fun c7 => ?_)
        · exact hj (l3) (by simp only [if_neg c6, if_neg c7])
        · refine g_aload_n 0 e_U_keyOfGreatest_47 rfl rfl ?_
          refine p_getR (j := 118) e_U_keyOfGreatest_48 sh_117 fl_U_9 rfl (rf_117_0 _) ?_
          refine g_iload 3 e_U_keyOfGreatest_51 rfl ?_
          refine p_iald e_U_keyOfGreatest_53 sh_118 h4 ?_
          refine g_istore_n (L' := [(3, .int ((v).1 118 (ix (l4)))), (0, .ref (117)), (1, .long (l1)), (4, .int (l4))]) e_U_keyOfGreatest_54 rfl (by decide) rfl ?_
          refine g_sub [1, 2, 0, 3] rfl ?_
          exact hj ((v).1 118 (ix (l4))) (by simp only [if_neg c6, if_pos c7])
set_option maxHeartbeats 1000000 in
theorem s_U_keyOfGreatest_55 {l1 : Int64} {l3 : Int32} {l4 : Int32} {v : Vv} {Q : Int32 → Vv → Prop} (h : k_U_keyOfGreatest_10 (l1) (l3) ((l4 + (1 : Int32))) (v) Q) : k_U_keyOfGreatest_55 l1 l3 l4 v Q := by
  show Gp 3 M_U_keyOfGreatest 55 [(0, .ref (117)), (1, .long (l1)), (3, .int (l3)), (4, .int (l4))] [] v (QI Q)
  refine g_iinc (v := (l4 + (1 : Int32))) (L' := [(4, .int ((l4 + (1 : Int32)))), (0, .ref (117)), (1, .long (l1)), (3, .int (l3))]) 3 e_U_keyOfGreatest_55 rfl rfl (by decide) rfl ?_
  refine g_goto (tgt := 10) e_U_keyOfGreatest_58 rfl ?_
  exact g_sub [1, 2, 3, 0] rfl h
set_option maxHeartbeats 1000000 in
theorem s_T_emit {l0 : Nat} {l1 : Int32} {v : Vv} {Q : Vv → Prop} (h : (isText (l0)) ∧ (if (v).1 l0 3 < (160 : Int32) then ((ib ((v).1 l0 3) 160) ∧ (Q (sI (sI (v) (l0 + 1) (ix ((v).1 l0 3)) l1) l0 3 ((sI (v) (l0 + 1) (ix ((v).1 l0 3)) l1).1 l0 3 + (1 : Int32))))) else (Q (v)))) : m_T_emit l0 l1 v Q := by
  refine cp_go (Nat.le_of_ble_eq_true rfl) (by decide +kernel) ?_
  show Gp 1 M_T_emit 0 [(0, .ref (l0)), (1, .int (l1))] [] v (QV Q)
  refine g_aload_n 0 e_T_emit_0 rfl rfl ?_
  obtain ⟨h1, h⟩ := h
  refine p_getI e_T_emit_1 (isText_o h1) fl_T_21 rfl ?_
  refine g_aload_n 0 e_T_emit_4 rfl rfl ?_
  refine p_getR (j := (l0 + 1)) e_T_emit_5 (isText_o h1) fl_T_9 rfl (isText_code h1 _) ?_
  refine p_alen (x := (160 : Int32)) e_T_emit_8 (isText_code_s h1) (by decide) (by decide) ?_
  refine g_icmp_ge (tgt := 32) e_T_emit_9 rfl (fun c2 => ?_) (fun c2 => ?_)
  · replace h := iteF h c2
    exact p_retV e_T_emit_32.1 rfl h
  · replace h := iteT h c2
    refine g_aload_n 0 e_T_emit_12 rfl rfl ?_
    refine p_getR (j := (l0 + 1)) e_T_emit_13 (isText_o h1) fl_T_9 rfl (isText_code h1 _) ?_
    refine g_aload_n 0 e_T_emit_16 rfl rfl ?_
    refine p_getI e_T_emit_17 (isText_o h1) fl_T_21 rfl ?_
    refine g_iload_n 1 e_T_emit_20 rfl rfl ?_
    obtain ⟨h3, h⟩ := h
    refine p_iast e_T_emit_21 (isText_code_s h1) h3 ?_
    refine g_aload_n 0 e_T_emit_22 rfl rfl ?_
    refine g_dup e_T_emit_23 rfl ?_
    refine p_getI e_T_emit_24 (isText_o h1) fl_T_21 rfl ?_
    refine g_iconst (1 : Int32) e_T_emit_27 (by decide) ?_
    refine g_iadd e_T_emit_28 ?_
    refine p_putI e_T_emit_29 (isText_o h1) fp_T_21 rfl rfl rfl ?_
    exact p_retV e_T_emit_32.1 rfl h
set_option maxHeartbeats 1000000 in
theorem s_T_close {l0 : Nat} {l1 : Int32} {v : Vv} {Q : Vv → Prop} (h : (isText (l0)) ∧ ((ib (l1) 3) ∧ (Q (sI (v) (l0 + 2) (ix (l1)) ((v).1 l0 3))))) : m_T_close l0 l1 v Q := by
  refine cp_go (Nat.le_of_ble_eq_true rfl) (by decide +kernel) ?_
  show Gp 1 M_T_close 0 [(0, .ref (l0)), (1, .int (l1))] [] v (QV Q)
  refine g_aload_n 0 e_T_close_0 rfl rfl ?_
  obtain ⟨h1, h⟩ := h
  refine p_getR (j := (l0 + 2)) e_T_close_1 (isText_o h1) fl_T_15 rfl (isText_ends h1 _) ?_
  refine g_iload_n 1 e_T_close_4 rfl rfl ?_
  refine g_aload_n 0 e_T_close_5 rfl rfl ?_
  refine p_getI e_T_close_6 (isText_o h1) fl_T_21 rfl ?_
  obtain ⟨h2, h⟩ := h
  refine p_iast e_T_close_9 (isText_ends_s h1) h2 ?_
  exact p_retV e_T_close_10.1 rfl h
set_option maxHeartbeats 1000000 in
theorem s_T_push {l0 : Nat} {l1 : Int32} {v : Vv} {Q : Vv → Prop} (h : (isText (l0)) ∧ (if (v).1 l0 4 < (160 : Int32) then ((ib ((v).1 l0 4) 160) ∧ (Q (sI (sI (v) (l0 + 3) (ix ((v).1 l0 4)) l1) l0 4 ((sI (v) (l0 + 3) (ix ((v).1 l0 4)) l1).1 l0 4 + (1 : Int32))))) else (Q (v)))) : m_T_push l0 l1 v Q := by
  refine cp_go (Nat.le_of_ble_eq_true rfl) (by decide +kernel) ?_
  show Gp 1 M_T_push 0 [(0, .ref (l0)), (1, .int (l1))] [] v (QV Q)
  refine g_aload_n 0 e_T_push_0 rfl rfl ?_
  obtain ⟨h1, h⟩ := h
  refine p_getI e_T_push_1 (isText_o h1) fl_T_25 rfl ?_
  refine g_aload_n 0 e_T_push_4 rfl rfl ?_
  refine p_getR (j := (l0 + 3)) e_T_push_5 (isText_o h1) fl_T_18 rfl (isText_stack h1 _) ?_
  refine p_alen (x := (160 : Int32)) e_T_push_8 (isText_stack_s h1) (by decide) (by decide) ?_
  refine g_icmp_ge (tgt := 32) e_T_push_9 rfl (fun c2 => ?_) (fun c2 => ?_)
  · replace h := iteF h c2
    exact p_retV e_T_push_32.1 rfl h
  · replace h := iteT h c2
    refine g_aload_n 0 e_T_push_12 rfl rfl ?_
    refine p_getR (j := (l0 + 3)) e_T_push_13 (isText_o h1) fl_T_18 rfl (isText_stack h1 _) ?_
    refine g_aload_n 0 e_T_push_16 rfl rfl ?_
    refine p_getI e_T_push_17 (isText_o h1) fl_T_25 rfl ?_
    refine g_iload_n 1 e_T_push_20 rfl rfl ?_
    obtain ⟨h3, h⟩ := h
    refine p_iast e_T_push_21 (isText_stack_s h1) h3 ?_
    refine g_aload_n 0 e_T_push_22 rfl rfl ?_
    refine g_dup e_T_push_23 rfl ?_
    refine p_getI e_T_push_24 (isText_o h1) fl_T_25 rfl ?_
    refine g_iconst (1 : Int32) e_T_push_27 (by decide) ?_
    refine g_iadd e_T_push_28 ?_
    refine p_putI e_T_push_29 (isText_o h1) fp_T_25 rfl rfl rfl ?_
    exact p_retV e_T_push_32.1 rfl h
set_option maxHeartbeats 1000000 in
theorem s_T_pop {l0 : Nat} {v : Vv} {Q : Int32 → Vv → Prop} (h : (isText (l0)) ∧ (if (0 : Int32) < (v).1 l0 4 then ((ib ((sI (v) l0 4 ((v).1 l0 4 - (1 : Int32))).1 l0 4) 160) ∧ (Q ((sI (v) l0 4 ((v).1 l0 4 - (1 : Int32))).1 (l0 + 3) (ix ((sI (v) l0 4 ((v).1 l0 4 - (1 : Int32))).1 l0 4))) (sI (v) l0 4 ((v).1 l0 4 - (1 : Int32))))) else (Q ((0 : Int32)) (v)))) : m_T_pop l0 v Q := by
  refine cp_go (Nat.le_of_ble_eq_true rfl) (by decide +kernel) ?_
  show Gp 1 M_T_pop 0 [(0, .ref (l0))] [] v (QI Q)
  refine g_aload_n 0 e_T_pop_0 rfl rfl ?_
  obtain ⟨h1, h⟩ := h
  refine p_getI e_T_pop_1 (isText_o h1) fl_T_25 rfl ?_
  refine g_if_gt (tgt := 9) e_T_pop_4 rfl (fun c2 => ?_) (fun c2 => ?_)
  · replace h := iteT h c2
    refine g_aload_n 0 e_T_pop_9 rfl rfl ?_
    refine g_dup e_T_pop_10 rfl ?_
    refine p_getI e_T_pop_11 (isText_o h1) fl_T_25 rfl ?_
    refine g_iconst (1 : Int32) e_T_pop_14 (by decide) ?_
    refine g_isub e_T_pop_15 ?_
    refine p_putI e_T_pop_16 (isText_o h1) fp_T_25 rfl rfl rfl ?_
    refine g_aload_n 0 e_T_pop_19 rfl rfl ?_
    refine p_getR (j := (l0 + 3)) e_T_pop_20 (isText_o h1) fl_T_18 rfl (isText_stack h1 _) ?_
    refine g_aload_n 0 e_T_pop_23 rfl rfl ?_
    refine p_getI e_T_pop_24 (isText_o h1) fl_T_25 rfl ?_
    obtain ⟨h3, h⟩ := h
    refine p_iald e_T_pop_27 (isText_stack_s h1) h3 ?_
    exact p_retI e_T_pop_28.1 rfl h
  · replace h := iteF h c2
    refine g_iconst (0 : Int32) e_T_pop_7 (by decide) ?_
    exact p_retI e_T_pop_8.1 rfl h
set_option maxHeartbeats 1000000 in
theorem s_T_joined {l0 : Int32} {l1 : Int32} {l2 : Int32} {v : Vv} {Q : Int32 → Vv → Prop} (h : if l1 = (9 : Int32) then (Q (bI ((if l0 = (0 : Int32) then (if l2 = (0 : Int32) then false else true) else true))) (v)) else (if l1 = (10 : Int32) then (Q (bI ((if l0 = (0 : Int32) then false else (if l2 = (0 : Int32) then false else true)))) (v)) else (if l1 = (43 : Int32) then (Q ((l0 + l2)) (v)) else (if l1 = (45 : Int32) then (Q ((l0 - l2)) (v)) else (if l1 = (60 : Int32) then (Q (bI ((if l0 < l2 then true else false))) (v)) else (if l1 = (61 : Int32) then (Q (bI ((if l0 = l2 then true else false))) (v)) else (Q ((l0 * l2)) (v)))))))) : m_T_joined l0 l1 l2 v Q := by
  refine cp_go (Nat.le_of_ble_eq_true rfl) (by decide +kernel) ?_
  show Gp 1 M_T_joined 0 [(0, .int (l0)), (1, .int (l1)), (2, .int (l2))] [] v (QI Q)
  refine g_iload_n 1 e_T_joined_0 rfl rfl ?_
  by_cases c1 : l1 = (9 : Int32)
  · replace h := iteT h c1
    refine g_lsw (tgt := 60) (off := 59) e_T_joined_1 (by decide) (by rw [c1]; decide) rfl ?_
    refine g_iload_n 0 e_T_joined_60 rfl rfl ?_
    have hj : ∀ m0 : Bool, m0 = (if l0 = (0 : Int32) then (if l2 = (0 : Int32) then false else true) else true) → Gp 1 M_T_joined 73 [(0, .int (l0)), (1, .int (l1)), (2, .int (l2))] [.int (bI (m0))] (v) (QI Q) := by
      intro m0 hm0
      subst hm0
      exact p_retI e_T_joined_73.1 rfl h
    refine g_if_ne (tgt := 68) e_T_joined_61 rfl (fun c2 => ?_) (fun c2 => ?_)
    · refine g_iconst (1 : Int32) e_T_joined_68 (by decide) ?_
      refine g_goto (tgt := 73) e_T_joined_69 rfl ?_
      exact hj (true) (by simp only [if_neg c2])
    · refine g_iload_n 2 e_T_joined_64 rfl rfl ?_
      refine g_if_eq (tgt := 72) e_T_joined_65 rfl (fun c3 => ?_) (fun c3 => ?_)
      · refine g_iconst (0 : Int32) e_T_joined_72 (by decide) ?_
        exact hj (false) (by simp only [if_pos c2, if_pos c3])
      · refine g_iconst (1 : Int32) e_T_joined_68 (by decide) ?_
        refine g_goto (tgt := 73) e_T_joined_69 rfl ?_
        exact hj (true) (by simp only [if_pos c2, if_neg c3])
  · replace h := iteF h c1
    by_cases c4 : l1 = (10 : Int32)
    · replace h := iteT h c4
      refine g_lsw (tgt := 74) (off := 73) e_T_joined_1 (by decide) (by rw [c4]; decide) rfl ?_
      refine g_iload_n 0 e_T_joined_74 rfl rfl ?_
      have hj : ∀ m0 : Bool, m0 = (if l0 = (0 : Int32) then false else (if l2 = (0 : Int32) then false else true)) → Gp 1 M_T_joined 87 [(0, .int (l0)), (1, .int (l1)), (2, .int (l2))] [.int (bI (m0))] (v) (QI Q) := by
        intro m0 hm0
        subst hm0
        exact p_retI e_T_joined_87.1 rfl h
      refine g_if_eq (tgt := 86) e_T_joined_75 rfl (fun c5 => ?_) (fun c5 => ?_)
      · refine g_iconst (0 : Int32) e_T_joined_86 (by decide) ?_
        exact hj (false) (by simp only [if_pos c5])
      · refine g_iload_n 2 e_T_joined_78 rfl rfl ?_
        refine g_if_eq (tgt := 86) e_T_joined_79 rfl (fun c6 => ?_) (fun c6 => ?_)
        · refine g_iconst (0 : Int32) e_T_joined_86 (by decide) ?_
          exact hj (false) (by simp only [if_neg c5, if_pos c6])
        · refine g_iconst (1 : Int32) e_T_joined_82 (by decide) ?_
          refine g_goto (tgt := 87) e_T_joined_83 rfl ?_
          exact hj (true) (by simp only [if_neg c5, if_neg c6])
    · replace h := iteF h c4
      by_cases c7 : l1 = (43 : Int32)
      · replace h := iteT h c7
        refine g_lsw (tgt := 110) (off := 109) e_T_joined_1 (by decide) (by rw [c7]; decide) rfl ?_
        refine g_iload_n 0 e_T_joined_110 rfl rfl ?_
        refine g_iload_n 2 e_T_joined_111 rfl rfl ?_
        refine g_iadd e_T_joined_112 ?_
        exact p_retI e_T_joined_113.1 rfl h
      · replace h := iteF h c7
        by_cases c8 : l1 = (45 : Int32)
        · replace h := iteT h c8
          refine g_lsw (tgt := 114) (off := 113) e_T_joined_1 (by decide) (by rw [c8]; decide) rfl ?_
          refine g_iload_n 0 e_T_joined_114 rfl rfl ?_
          refine g_iload_n 2 e_T_joined_115 rfl rfl ?_
          refine g_isub e_T_joined_116 ?_
          exact p_retI e_T_joined_117.1 rfl h
        · replace h := iteF h c8
          by_cases c9 : l1 = (60 : Int32)
          · replace h := iteT h c9
            refine g_lsw (tgt := 88) (off := 87) e_T_joined_1 (by decide) (by rw [c9]; decide) rfl ?_
            refine g_iload_n 0 e_T_joined_88 rfl rfl ?_
            refine g_iload_n 2 e_T_joined_89 rfl rfl ?_
            have hj : ∀ m0 : Bool, m0 = (if l0 < l2 then true else false) → Gp 1 M_T_joined 98 [(0, .int (l0)), (1, .int (l1)), (2, .int (l2))] [.int (bI (m0))] (v) (QI Q) := by
              intro m0 hm0
              subst hm0
              exact p_retI e_T_joined_98.1 rfl h
            refine g_icmp_ge (tgt := 97) e_T_joined_90 rfl (fun c10 => ?_) (fun c10 => ?_)
            · refine g_iconst (0 : Int32) e_T_joined_97 (by decide) ?_
              exact hj (false) (by simp only [if_neg c10])
            · refine g_iconst (1 : Int32) e_T_joined_93 (by decide) ?_
              refine g_goto (tgt := 98) e_T_joined_94 rfl ?_
              exact hj (true) (by simp only [if_pos c10])
          · replace h := iteF h c9
            by_cases c11 : l1 = (61 : Int32)
            · replace h := iteT h c11
              refine g_lsw (tgt := 99) (off := 98) e_T_joined_1 (by decide) (by rw [c11]; decide) rfl ?_
              refine g_iload_n 0 e_T_joined_99 rfl rfl ?_
              refine g_iload_n 2 e_T_joined_100 rfl rfl ?_
              have hj : ∀ m0 : Bool, m0 = (if l0 = l2 then true else false) → Gp 1 M_T_joined 109 [(0, .int (l0)), (1, .int (l1)), (2, .int (l2))] [.int (bI (m0))] (v) (QI Q) := by
                intro m0 hm0
                subst hm0
                exact p_retI e_T_joined_109.1 rfl h
              refine g_icmp_ne (tgt := 108) e_T_joined_101 rfl (fun c12 => ?_) (fun c12 => ?_)
              · refine g_iconst (0 : Int32) e_T_joined_108 (by decide) ?_
                exact hj (false) (by simp only [if_neg c12])
              · refine g_iconst (1 : Int32) e_T_joined_104 (by decide) ?_
                refine g_goto (tgt := 109) e_T_joined_105 rfl ?_
                exact hj (true) (by simp only [if_pos c12])
            · replace h := iteF h c11
              refine g_lsw (tgt := 118) e_T_joined_1 (by decide) ((lv_osw c1 rfl).trans ((lv_osw c4 rfl).trans ((lv_osw c7 rfl).trans ((lv_osw c8 rfl).trans ((lv_osw c9 rfl).trans ((lv_osw c11 rfl).trans rfl)))))) rfl ?_
              refine g_iload_n 0 e_T_joined_118 rfl rfl ?_
              refine g_iload_n 2 e_T_joined_119 rfl rfl ?_
              refine g_imul e_T_joined_120 ?_
              exact p_retI e_T_joined_121.1 rfl h
set_option maxHeartbeats 1000000 in
theorem s_T_tells {l0 : Nat} {l1 : Int32} {v : Vv} {Q : Int32 → Vv → Prop} (h : (isText (l0)) ∧ (if l1 = (0 : Int32) then (k_T_tells_21 (l0) (l1) ((0 : Int32)) (sI (v) l0 4 (0 : Int32)) Q) else ((ib ((l1 - (1 : Int32))) 3) ∧ (k_T_tells_21 (l0) (l1) ((sI (v) l0 4 (0 : Int32)).1 (l0 + 2) (ix ((l1 - (1 : Int32))))) (sI (v) l0 4 (0 : Int32)) Q)))) : m_T_tells l0 l1 v Q := by
  refine cp_go (Nat.le_of_ble_eq_true rfl) (by decide +kernel) ?_
  show Gp 2 M_T_tells 0 [(0, .ref (l0)), (1, .int (l1)), (2, .ref (73))] [] v (QI Q)
  refine g_aload_n 0 e_T_tells_0 rfl rfl ?_
  refine g_iconst (0 : Int32) e_T_tells_1 (by decide) ?_
  obtain ⟨h1, h⟩ := h
  refine p_putI e_T_tells_2 (isText_o h1) fp_T_25 rfl rfl rfl ?_
  refine g_iload_n 1 e_T_tells_5 rfl rfl ?_
  refine g_if_ne (tgt := 13) e_T_tells_6 rfl (fun c2 => ?_) (fun c2 => ?_)
  · replace h := iteF h c2
    refine g_aload_n 0 e_T_tells_13 rfl rfl ?_
    refine p_getR (j := (l0 + 2)) e_T_tells_14 (isText_o h1) fl_T_15 rfl (isText_ends h1 _) ?_
    refine g_iload_n 1 e_T_tells_17 rfl rfl ?_
    refine g_iconst (1 : Int32) e_T_tells_18 (by decide) ?_
    refine g_isub e_T_tells_19 ?_
    obtain ⟨h3, h⟩ := h
    refine p_iald e_T_tells_20 (isText_ends_s h1) h3 ?_
    exact g_sub [0, 1, 2] rfl h
  · replace h := iteT h c2
    refine g_iconst (0 : Int32) e_T_tells_9 (by decide) ?_
    refine g_goto (tgt := 21) e_T_tells_10 rfl ?_
    exact g_sub [0, 1, 2] rfl h
set_option maxHeartbeats 1000000 in
theorem s_T_tells_21 {l0 : Nat} {l1 : Int32} {t0 : Int32} {v : Vv} {Q : Int32 → Vv → Prop} (h : k_T_tells_22 (l0) (l1) (t0) (v) Q) : k_T_tells_21 l0 l1 t0 v Q := by
  show Gp 2 M_T_tells 21 [(0, .ref (l0)), (1, .int (l1)), (2, .ref (73))] [.int (t0)] v (QI Q)
  refine g_istore_n (L' := [(3, .int (t0)), (0, .ref (l0)), (1, .int (l1)), (2, .ref (73))]) e_T_tells_21 rfl (by decide) rfl ?_
  exact g_sub [1, 2, 3, 0] rfl h
set_option maxHeartbeats 1000000 in
theorem s_T_tells_22 {l0 : Nat} {l1 : Int32} {l3 : Int32} {v : Vv} {Q : Int32 → Vv → Prop} (h : (isText (l0)) ∧ ((ib (l1) 3) ∧ (if l3 < (v).1 (l0 + 2) (ix (l1)) then ((ib (l3) 160) ∧ (if (v).1 (l0 + 1) (ix (l3)) < (100 : Int32) then (if (v).1 (l0 + 1) (ix (l3)) < (0 : Int32) then (k_T_tells_82 (l0) (l1) (l3) ((v).1 (l0 + 1) (ix (l3))) (v) Q) else (if (v).1 (l0 + 1) (ix (l3)) < (6 : Int32) then ((ib ((v).1 (l0 + 1) (ix (l3))) 6) ∧ (m_T_push l0 ((v).1 73 (ix ((v).1 (l0 + 1) (ix (l3))))) (v) (fun v13 => k_T_tells_148 (l0) (l1) (l3) (v13) Q))) else (k_T_tells_82 (l0) (l1) (l3) ((v).1 (l0 + 1) (ix (l3))) (v) Q))) else (m_T_push l0 ((v).1 (l0 + 1) (ix (l3)) - (100 : Int32)) (v) (fun v15 => k_T_tells_148 (l0) (l1) (l3) (v15) Q)))) else (m_T_pop l0 (v) (fun x16 v17 => Q (x16) (v17)))))) : k_T_tells_22 l0 l1 l3 v Q := by
  show Gp 2 M_T_tells 22 [(0, .ref (l0)), (1, .int (l1)), (2, .ref (73)), (3, .int (l3))] [] v (QI Q)
  refine g_iload_n 3 e_T_tells_22 rfl rfl ?_
  refine g_aload_n 0 e_T_tells_23 rfl rfl ?_
  obtain ⟨h4, h⟩ := h
  refine p_getR (j := (l0 + 2)) e_T_tells_24 (isText_o h4) fl_T_15 rfl (isText_ends h4 _) ?_
  refine g_iload_n 1 e_T_tells_27 rfl rfl ?_
  obtain ⟨h5, h⟩ := h
  refine p_iald e_T_tells_28 (isText_ends_s h4) h5 ?_
  refine g_icmp_ge (tgt := 154) e_T_tells_29 rfl (fun c6 => ?_) (fun c6 => ?_)
  · replace h := iteF h c6
    refine g_aload_n 0 e_T_tells_154 rfl rfl ?_
    refine p_callVI (d' := 1) (ci := 7) (r := (RX7, TX7, 5)) (As := []) (rest := []) e_T_tells_155 zm_T_pop lV_T_38 (isText_o h4) rfl rfl rfl rfl (Nat.le_of_ble_eq_true rfl) (by decide) ?_
    refine cp_mono h (fun _ v17 ⟨x16, e1, h⟩ => ⟨x16, e1, ?_⟩)
    exact p_retI e_T_tells_158.1 rfl h
  · replace h := iteT h c6
    refine g_aload_n 0 e_T_tells_32 rfl rfl ?_
    refine p_getR (j := (l0 + 1)) e_T_tells_33 (isText_o h4) fl_T_9 rfl (isText_code h4 _) ?_
    refine g_iload_n 3 e_T_tells_36 rfl rfl ?_
    obtain ⟨h7, h⟩ := h
    refine p_iald e_T_tells_37 (isText_code_s h4) h7 ?_
    refine g_istore (L' := [(4, .int ((v).1 (l0 + 1) (ix (l3)))), (0, .ref (l0)), (1, .int (l1)), (2, .ref (73)), (3, .int (l3))]) e_T_tells_38 (by decide) rfl ?_
    refine g_iload 0 e_T_tells_40 rfl ?_
    refine g_bipush (100 : Int32) e_T_tells_42 (by decide) ?_
    refine g_icmp_lt (tgt := 59) e_T_tells_44 rfl (fun c8 => ?_) (fun c8 => ?_)
    · replace h := iteT h c8
      refine g_iload 0 e_T_tells_59 rfl ?_
      refine g_if_lt (tgt := 82) e_T_tells_61 rfl (fun c9 => ?_) (fun c9 => ?_)
      · replace h := iteT h c9
        exact g_sub [1, 2, 3, 4, 0] rfl h
      · replace h := iteF h c9
        refine g_iload 0 e_T_tells_64 rfl ?_
        refine g_bipush (6 : Int32) e_T_tells_66 (by decide) ?_
        refine g_icmp_ge (tgt := 82) e_T_tells_68 rfl (fun c10 => ?_) (fun c10 => ?_)
        · replace h := iteF h c10
          exact g_sub [1, 2, 3, 4, 0] rfl h
        · replace h := iteT h c10
          refine g_aload_n 1 e_T_tells_71 rfl rfl ?_
          refine g_aload_n 3 e_T_tells_72 rfl rfl ?_
          refine g_iload 0 e_T_tells_73 rfl ?_
          obtain ⟨h11, h⟩ := h
          refine p_iald e_T_tells_75 sh_73 h11 ?_
          refine p_callVV (d' := 1) (ci := 7) (r := (RX7, TX7, 5)) (As := [.int ((v).1 73 (ix ((v).1 (l0 + 1) (ix (l3)))))]) (rest := []) e_T_tells_76 zm_T_push lV_T_34 (isText_o h4) rfl rfl rfl rfl (Nat.le_of_ble_eq_true rfl) (by decide) ?_
          refine cp_mono h (fun _ v13 ⟨e1, h⟩ => ⟨e1, ?_⟩)
          refine g_goto (tgt := 148) e_T_tells_79 rfl ?_
          exact g_sub [1, 2, 3, 4] rfl h
    · replace h := iteF h c8
      refine g_aload_n 1 e_T_tells_47 rfl rfl ?_
      refine g_iload 0 e_T_tells_48 rfl ?_
      refine g_bipush (100 : Int32) e_T_tells_50 (by decide) ?_
      refine g_isub e_T_tells_52 ?_
      refine p_callVV (d' := 1) (ci := 7) (r := (RX7, TX7, 5)) (As := [.int (((v).1 (l0 + 1) (ix (l3)) - (100 : Int32)))]) (rest := []) e_T_tells_53 zm_T_push lV_T_34 (isText_o h4) rfl rfl rfl rfl (Nat.le_of_ble_eq_true rfl) (by decide) ?_
      refine cp_mono h (fun _ v15 ⟨e1, h⟩ => ⟨e1, ?_⟩)
      refine g_goto (tgt := 148) e_T_tells_56 rfl ?_
      exact g_sub [1, 2, 3, 4] rfl h
set_option maxHeartbeats 1000000 in
theorem s_T_tells_82 {l0 : Nat} {l1 : Int32} {l3 : Int32} {l4 : Int32} {v : Vv} {Q : Int32 → Vv → Prop} (h : if l4 = (12 : Int32) then ((isText (l0)) ∧ (m_T_pop l0 (v) (fun x19 v20 => m_T_push l0 (-x19) (v20) (fun v23 => k_T_tells_148 (l0) (l1) (l3) (v23) Q)))) else (if l4 = (11 : Int32) then ((isText (l0)) ∧ (m_T_pop l0 (v) (fun x25 v26 => m_T_push l0 (bI ((if x25 = (0 : Int32) then true else false))) (v26) (fun v30 => k_T_tells_148 (l0) (l1) (l3) (v30) Q)))) else ((isText (l0)) ∧ (m_T_pop l0 (v) (fun x31 v32 => m_T_pop l0 (v32) (fun x34 v35 => m_T_joined x34 l4 x31 (v35) (fun x36 v37 => m_T_push l0 x36 (v37) (fun v39 => k_T_tells_148 (l0) (l1) (l3) (v39) Q)))))))) : k_T_tells_82 l0 l1 l3 l4 v Q := by
  show Gp 2 M_T_tells 82 [(0, .ref (l0)), (1, .int (l1)), (2, .ref (73)), (3, .int (l3)), (4, .int (l4))] [] v (QI Q)
  refine g_iload 4 e_T_tells_82 rfl ?_
  refine g_bipush (12 : Int32) e_T_tells_84 (by decide) ?_
  refine g_icmp_ne (tgt := 101) e_T_tells_86 rfl (fun c18 => ?_) (fun c18 => ?_)
  · replace h := iteF h c18
    refine g_iload 4 e_T_tells_101 rfl ?_
    refine g_bipush (11 : Int32) e_T_tells_103 (by decide) ?_
    refine g_icmp_ne (tgt := 127) e_T_tells_105 rfl (fun c24 => ?_) (fun c24 => ?_)
    · replace h := iteF h c24
      refine g_aload_n 0 e_T_tells_127 rfl rfl ?_
      obtain ⟨h33, h⟩ := h
      refine p_callVI (d' := 1) (ci := 7) (r := (RX7, TX7, 5)) (As := []) (rest := []) e_T_tells_128 zm_T_pop lV_T_38 (isText_o h33) rfl rfl rfl rfl (Nat.le_of_ble_eq_true rfl) (by decide) ?_
      refine cp_mono h (fun _ v32 ⟨x31, e1, h⟩ => ⟨x31, e1, ?_⟩)
      refine g_istore (L' := [(5, .int (x31)), (0, .ref (l0)), (1, .int (l1)), (2, .ref (73)), (3, .int (l3)), (4, .int (l4))]) e_T_tells_131 (by decide) rfl ?_
      refine g_aload_n 1 e_T_tells_133 rfl rfl ?_
      refine g_aload_n 1 e_T_tells_134 rfl rfl ?_
      refine p_callVI (d' := 1) (ci := 7) (r := (RX7, TX7, 5)) (As := []) (rest := [.ref (l0)]) e_T_tells_135 zm_T_pop lV_T_38 (isText_o h33) rfl rfl rfl rfl (Nat.le_of_ble_eq_true rfl) (by decide) ?_
      refine cp_mono h (fun _ v35 ⟨x34, e1, h⟩ => ⟨x34, e1, ?_⟩)
      refine g_iload 5 e_T_tells_138 rfl ?_
      refine g_iload 0 e_T_tells_140 rfl ?_
      refine p_callSI (d' := 1) (As := [.int (x34), .int (l4), .int (x31)]) (rest := [.ref (l0)]) e_T_tells_142 zm_T_joined lS_T_42 rfl rfl (Nat.le_of_ble_eq_true rfl) (by decide) ?_
      refine cp_mono h (fun _ v37 ⟨x36, e1, h⟩ => ⟨x36, e1, ?_⟩)
      refine p_callVV (d' := 1) (ci := 7) (r := (RX7, TX7, 5)) (As := [.int (x36)]) (rest := []) e_T_tells_145 zm_T_push lV_T_34 (isText_o h33) rfl rfl rfl rfl (Nat.le_of_ble_eq_true rfl) (by decide) ?_
      refine cp_mono h (fun _ v39 ⟨e1, h⟩ => ⟨e1, ?_⟩)
      exact g_sub [1, 2, 3, 4] rfl h
    · replace h := iteT h c24
      refine g_aload_n 0 e_T_tells_108 rfl rfl ?_
      refine g_aload_n 0 e_T_tells_109 rfl rfl ?_
      obtain ⟨h27, h⟩ := h
      refine p_callVI (d' := 1) (ci := 7) (r := (RX7, TX7, 5)) (As := []) (rest := [.ref (l0)]) e_T_tells_110 zm_T_pop lV_T_38 (isText_o h27) rfl rfl rfl rfl (Nat.le_of_ble_eq_true rfl) (by decide) ?_
      refine cp_mono h (fun _ v26 ⟨x25, e1, h⟩ => ⟨x25, e1, ?_⟩)
      have hj : ∀ m0 : Bool, m0 = (if x25 = (0 : Int32) then true else false) → Gp 2 M_T_tells 121 [(0, .ref (l0)), (1, .int (l1)), (2, .ref (73)), (3, .int (l3)), (4, .int (l4))] [.int (bI (m0)), .ref (l0)] (v26) (QI Q) := by
        intro m0 hm0
        subst hm0
        refine p_callVV (d' := 1) (ci := 7) (r := (RX7, TX7, 5)) (As := [.int (bI ((if x25 = (0 : Int32) then true else false)))]) (rest := []) e_T_tells_121 zm_T_push lV_T_34 (isText_o h27) rfl rfl rfl rfl (Nat.le_of_ble_eq_true rfl) (by decide) ?_
        refine cp_mono h (fun _ v30 ⟨e1, h⟩ => ⟨e1, ?_⟩)
        refine g_goto (tgt := 148) e_T_tells_124 rfl ?_
        exact g_sub [0, 1, 2, 3] rfl h
      refine g_if_ne (tgt := 120) e_T_tells_113 rfl (fun c28 => ?_) (fun c28 => ?_)
      · refine g_iconst (0 : Int32) e_T_tells_120 (by decide) ?_
        exact hj (false) (by simp only [if_neg c28])
      · refine g_iconst (1 : Int32) e_T_tells_116 (by decide) ?_
        refine g_goto (tgt := 121) e_T_tells_117 rfl ?_
        exact hj (true) (by simp only [if_pos c28])
  · replace h := iteT h c18
    refine g_aload_n 0 e_T_tells_89 rfl rfl ?_
    refine g_aload_n 0 e_T_tells_90 rfl rfl ?_
    obtain ⟨h21, h⟩ := h
    refine p_callVI (d' := 1) (ci := 7) (r := (RX7, TX7, 5)) (As := []) (rest := [.ref (l0)]) e_T_tells_91 zm_T_pop lV_T_38 (isText_o h21) rfl rfl rfl rfl (Nat.le_of_ble_eq_true rfl) (by decide) ?_
    refine cp_mono h (fun _ v20 ⟨x19, e1, h⟩ => ⟨x19, e1, ?_⟩)
    refine g_ineg e_T_tells_94 ?_
    refine p_callVV (d' := 1) (ci := 7) (r := (RX7, TX7, 5)) (As := [.int ((-x19))]) (rest := []) e_T_tells_95 zm_T_push lV_T_34 (isText_o h21) rfl rfl rfl rfl (Nat.le_of_ble_eq_true rfl) (by decide) ?_
    refine cp_mono h (fun _ v23 ⟨e1, h⟩ => ⟨e1, ?_⟩)
    refine g_goto (tgt := 148) e_T_tells_98 rfl ?_
    exact g_sub [0, 1, 2, 3] rfl h
set_option maxHeartbeats 1000000 in
theorem s_T_tells_148 {l0 : Nat} {l1 : Int32} {l3 : Int32} {v : Vv} {Q : Int32 → Vv → Prop} (h : k_T_tells_22 (l0) (l1) ((l3 + (1 : Int32))) (v) Q) : k_T_tells_148 l0 l1 l3 v Q := by
  show Gp 2 M_T_tells 148 [(0, .ref (l0)), (1, .int (l1)), (2, .ref (73)), (3, .int (l3))] [] v (QI Q)
  refine g_iinc (v := (l3 + (1 : Int32))) (L' := [(3, .int ((l3 + (1 : Int32)))), (0, .ref (l0)), (1, .int (l1)), (2, .ref (73))]) 3 e_T_tells_148 rfl rfl (by decide) rfl ?_
  refine g_goto (tgt := 22) e_T_tells_151 rfl ?_
  exact g_sub [1, 2, 3, 0] rfl h
set_option maxHeartbeats 1000000 in
theorem s_T_become {l0 : Nat} {l1 : Nat} {v : Vv} {Q : Vv → Prop} (h : (isText (l1)) ∧ ((isText (l0)) ∧ ((0 ≤ ((0 : Int32)).toInt ∧ 0 ≤ ((0 : Int32)).toInt ∧ 0 ≤ ((v).1 l1 3).toInt ∧ ((0 : Int32)).toInt + ((v).1 l1 3).toInt ≤ 160 ∧ ((0 : Int32)).toInt + ((v).1 l1 3).toInt ≤ 160) ∧ ((0 ≤ ((0 : Int32)).toInt ∧ 0 ≤ ((0 : Int32)).toInt ∧ 0 ≤ ((3 : Int32)).toInt ∧ ((0 : Int32)).toInt + ((3 : Int32)).toInt ≤ 3 ∧ ((0 : Int32)).toInt + ((3 : Int32)).toInt ≤ 3) ∧ (Q (sI (sC (sC (v) (l1 + 1) (l0 + 1) (0 : Int32) (0 : Int32) ((v).1 l1 3)) (l1 + 2) (l0 + 2) (0 : Int32) (0 : Int32) ((3 : Int32))) l0 3 ((sC (sC (v) (l1 + 1) (l0 + 1) (0 : Int32) (0 : Int32) ((v).1 l1 3)) (l1 + 2) (l0 + 2) (0 : Int32) (0 : Int32) ((3 : Int32))).1 l1 3))))))) : m_T_become l0 l1 v Q := by
  refine cp_go (Nat.le_of_ble_eq_true rfl) (by decide +kernel) ?_
  show Gp 13 M_T_become 0 [(0, .ref (l0)), (1, .ref (l1))] [] v (QV Q)
  refine g_aload_n 1 e_T_become_0 rfl rfl ?_
  obtain ⟨h1, h⟩ := h
  refine p_getR (j := (l1 + 1)) e_T_become_1 (isText_o h1) fl_T_9 rfl (isText_code h1 _) ?_
  refine g_iconst (0 : Int32) e_T_become_4 (by decide) ?_
  refine g_aload_n 0 e_T_become_5 rfl rfl ?_
  obtain ⟨h2, h⟩ := h
  refine p_getR (j := (l0 + 1)) e_T_become_6 (isText_o h2) fl_T_9 rfl (isText_code h2 _) ?_
  refine g_iconst (0 : Int32) e_T_become_9 (by decide) ?_
  refine g_aload_n 1 e_T_become_10 rfl rfl ?_
  refine p_getI e_T_become_11 (isText_o h1) fl_T_21 rfl ?_
  obtain ⟨h3, h⟩ := h
  refine p_copy e_T_become_14 ac_T_28 (isText_code_s h1) (isText_code_s h2) h3 (by decide) ?_
  refine g_aload_n 1 e_T_become_17 rfl rfl ?_
  refine p_getR (j := (l1 + 2)) e_T_become_18 (isText_o h1) fl_T_15 rfl (isText_ends h1 _) ?_
  refine g_iconst (0 : Int32) e_T_become_21 (by decide) ?_
  refine g_aload_n 0 e_T_become_22 rfl rfl ?_
  refine p_getR (j := (l0 + 2)) e_T_become_23 (isText_o h2) fl_T_15 rfl (isText_ends h2 _) ?_
  refine g_iconst (0 : Int32) e_T_become_26 (by decide) ?_
  refine g_iconst (3 : Int32) e_T_become_27 (by decide) ?_
  obtain ⟨h4, h⟩ := h
  refine p_copy e_T_become_28 ac_T_28 (isText_ends_s h1) (isText_ends_s h2) h4 (by decide) ?_
  refine g_aload_n 0 e_T_become_31 rfl rfl ?_
  refine g_aload_n 1 e_T_become_32 rfl rfl ?_
  refine p_getI e_T_become_33 (isText_o h1) fl_T_21 rfl ?_
  refine p_putI e_T_become_36 (isText_o h2) fp_T_21 rfl rfl rfl ?_
  exact p_retV e_T_become_39.1 rfl h
set_option maxHeartbeats 1000000 in
theorem s_S_holds {l0 : Nat} {l1 : Int32} {l2 : Int32} {v : Vv} {Q : Bool → Vv → Prop} (h : if l1 < (0 : Int32) then (Q false (v)) else (if l2 < (0 : Int32) then (Q false (v)) else ((isSheet (l0)) ∧ (Q ((if ((v).1 l0 2 - l1) < l2 then false else true)) (v))))) : m_S_holds l0 l1 l2 v Q := by
  refine cp_go (Nat.le_of_ble_eq_true rfl) (by decide +kernel) ?_
  show Gp 1 M_S_holds 0 [(0, .ref (l0)), (1, .int (l1)), (2, .int (l2))] [] v (QZ Q)
  refine g_iload_n 1 e_S_holds_0 rfl rfl ?_
  refine g_if_lt (tgt := 22) e_S_holds_1 rfl (fun c1 => ?_) (fun c1 => ?_)
  · replace h := iteT h c1
    refine g_iconst (0 : Int32) e_S_holds_22 (by decide) ?_
    exact p_retZ (x := false) e_S_holds_23.1 rfl h
  · replace h := iteF h c1
    refine g_iload_n 2 e_S_holds_4 rfl rfl ?_
    refine g_if_lt (tgt := 22) e_S_holds_5 rfl (fun c2 => ?_) (fun c2 => ?_)
    · replace h := iteT h c2
      refine g_iconst (0 : Int32) e_S_holds_22 (by decide) ?_
      exact p_retZ (x := false) e_S_holds_23.1 rfl h
    · replace h := iteF h c2
      refine g_iload_n 2 e_S_holds_8 rfl rfl ?_
      refine g_aload_n 0 e_S_holds_9 rfl rfl ?_
      obtain ⟨h3, h⟩ := h
      refine p_getI e_S_holds_10 (isSheet_o h3) fl_S_19 rfl ?_
      refine g_iload_n 1 e_S_holds_13 rfl rfl ?_
      refine g_isub e_S_holds_14 ?_
      have hj : ∀ m0 : Bool, m0 = (if ((v).1 l0 2 - l1) < l2 then false else true) → Gp 1 M_S_holds 23 [(0, .ref (l0)), (1, .int (l1)), (2, .int (l2))] [.int (bI (m0))] (v) (QZ Q) := by
        intro m0 hm0
        subst hm0
        exact p_retZ e_S_holds_23.1 rfl h
      refine g_icmp_gt (tgt := 22) e_S_holds_15 rfl (fun c4 => ?_) (fun c4 => ?_)
      · refine g_iconst (0 : Int32) e_S_holds_22 (by decide) ?_
        exact hj (false) (by simp only [if_pos c4])
      · refine g_iconst (1 : Int32) e_S_holds_18 (by decide) ?_
        refine g_goto (tgt := 23) e_S_holds_19 rfl ?_
        exact hj (true) (by simp only [if_neg c4])
set_option maxHeartbeats 1000000 in
theorem s_S_put {l0 : Nat} {l1 : Int32} {l2 : Int32} {v : Vv} {Q : Vv → Prop} (h : (isSheet (l0)) ∧ (m_S_holds l0 l1 (1 : Int32) (v) (fun x1 v2 => if x1 = true then (if (v2).1 l0 1 = (0 : Int32) then ((ib (l1) 40) ∧ (Q (sI (v2) (l0 + 1) (ix (l1)) ((l2).toInt8.toInt32)))) else (if (v2).1 l0 1 = (1 : Int32) then ((ib (l1) 40) ∧ (Q (sI (v2) (l0 + 1) (ix (l1)) ((l2).toInt16.toInt32)))) else ((ib (l1) 40) ∧ (Q (sI (v2) (l0 + 1) (ix (l1)) l2))))) else (Q (v2))))) : m_S_put l0 l1 l2 v Q := by
  refine cp_go (Nat.le_of_ble_eq_true rfl) (by decide +kernel) ?_
  show Gp 2 M_S_put 0 [(0, .ref (l0)), (1, .int (l1)), (2, .int (l2))] [] v (QV Q)
  refine g_aload_n 0 e_S_put_0 rfl rfl ?_
  refine g_iload_n 1 e_S_put_1 rfl rfl ?_
  refine g_iconst (1 : Int32) e_S_put_2 (by decide) ?_
  obtain ⟨h3, h⟩ := h
  refine p_callVZ (d' := 1) (ci := 5) (r := (RX5, TX5, 3)) (As := [.int (l1), .int ((1 : Int32))]) (rest := []) e_S_put_3 zm_S_holds lV_S_26 (isSheet_o h3) rfl rfl rfl rfl (Nat.le_of_ble_eq_true rfl) (by decide) ?_
  refine cp_mono h (fun _ v2 ⟨x1, e1, h⟩ => ⟨x1, e1, ?_⟩)
  refine p_ifz_ne (tgt := 10) e_S_put_6 rfl (fun c4 => ?_) (fun c4 => ?_)
  · replace h := iteT h c4
    refine g_aload_n 0 e_S_put_10 rfl rfl ?_
    refine p_getI e_S_put_11 (isSheet_o h3) fl_S_15 rfl ?_
    by_cases c5 : (v2).1 l0 1 = (0 : Int32)
    · replace h := iteT h c5
      refine g_lsw (tgt := 40) (off := 26) e_S_put_14 (by decide) (by rw [c5]; decide) rfl ?_
      refine g_aload_n 0 e_S_put_40 rfl rfl ?_
      refine p_getR (j := (l0 + 1)) e_S_put_41 (isSheet_o h3) fl_S_9 rfl (isSheet_cells h3 _) ?_
      refine g_iload_n 1 e_S_put_44 rfl rfl ?_
      refine g_iload_n 2 e_S_put_45 rfl rfl ?_
      refine g_i2b e_S_put_46 ?_
      obtain ⟨h6, h⟩ := h
      refine p_iast e_S_put_47 (isSheet_cells_s h3) h6 ?_
      refine g_goto (tgt := 69) e_S_put_48 rfl ?_
      exact p_retV e_S_put_69.1 rfl h
    · replace h := iteF h c5
      by_cases c7 : (v2).1 l0 1 = (1 : Int32)
      · replace h := iteT h c7
        refine g_lsw (tgt := 51) (off := 37) e_S_put_14 (by decide) (by rw [c7]; decide) rfl ?_
        refine g_aload_n 0 e_S_put_51 rfl rfl ?_
        refine p_getR (j := (l0 + 1)) e_S_put_52 (isSheet_o h3) fl_S_9 rfl (isSheet_cells h3 _) ?_
        refine g_iload_n 1 e_S_put_55 rfl rfl ?_
        refine g_iload_n 2 e_S_put_56 rfl rfl ?_
        refine g_i2s e_S_put_57 ?_
        obtain ⟨h8, h⟩ := h
        refine p_iast e_S_put_58 (isSheet_cells_s h3) h8 ?_
        refine g_goto (tgt := 69) e_S_put_59 rfl ?_
        exact p_retV e_S_put_69.1 rfl h
      · replace h := iteF h c7
        refine g_lsw (tgt := 62) e_S_put_14 (by decide) ((lv_osw c5 rfl).trans ((lv_osw c7 rfl).trans rfl)) rfl ?_
        refine g_aload_n 0 e_S_put_62 rfl rfl ?_
        refine p_getR (j := (l0 + 1)) e_S_put_63 (isSheet_o h3) fl_S_9 rfl (isSheet_cells h3 _) ?_
        refine g_iload_n 1 e_S_put_66 rfl rfl ?_
        refine g_iload_n 2 e_S_put_67 rfl rfl ?_
        obtain ⟨h9, h⟩ := h
        refine p_iast e_S_put_68 (isSheet_cells_s h3) h9 ?_
        exact p_retV e_S_put_69.1 rfl h
  · replace h := iteF h c4
    exact p_retV e_S_put_9.1 rfl h
set_option maxHeartbeats 1000000 in
theorem s_S_become {l0 : Nat} {l1 : Int32} {l2 : Int32} {v : Vv} {Q : Vv → Prop} (h : (isSheet (l0)) ∧ (m_P_bounded l2 (0 : Int32) (40 : Int32) (sI (v) l0 1 l1) (fun x2 v3 => k_S_become_21 (l0) ((0 : Int32)) (sI (v3) l0 2 x2) Q))) : m_S_become l0 l1 l2 v Q := by
  refine cp_go (Nat.le_of_ble_eq_true rfl) (by decide +kernel) ?_
  show Gp 3 M_S_become 0 [(0, .ref (l0)), (1, .int (l1)), (2, .int (l2))] [] v (QV Q)
  refine g_aload_n 0 e_S_become_0 rfl rfl ?_
  refine g_iload_n 1 e_S_become_1 rfl rfl ?_
  obtain ⟨h1, h⟩ := h
  refine p_putI e_S_become_2 (isSheet_o h1) fp_S_15 rfl rfl rfl ?_
  refine g_aload_n 0 e_S_become_5 rfl rfl ?_
  refine g_iload_n 2 e_S_become_6 rfl rfl ?_
  refine g_iconst (0 : Int32) e_S_become_7 (by decide) ?_
  refine g_aload_n 0 e_S_become_8 rfl rfl ?_
  refine p_getR (j := (l0 + 1)) e_S_become_9 (isSheet_o h1) fl_S_9 rfl (isSheet_cells h1 _) ?_
  refine p_alen (x := (40 : Int32)) e_S_become_12 (isSheet_cells_s h1) (by decide) (by decide) ?_
  refine p_callSNI (d' := 2) (As := [.int (l2), .int ((0 : Int32)), .int ((40 : Int32))]) (rest := [.ref (l0)]) e_S_become_13 zm_P_bounded lSN_S_22 rfl rfl (Nat.le_of_ble_eq_true rfl) (by decide) ?_
  refine cp_mono h (fun _ v3 ⟨x2, e1, h⟩ => ⟨x2, e1, ?_⟩)
  refine p_putI e_S_become_16 (isSheet_o h1) fp_S_19 rfl rfl rfl ?_
  refine g_iconst (0 : Int32) e_S_become_19 (by decide) ?_
  refine g_istore_n (L' := [(3, .int ((0 : Int32))), (0, .ref (l0)), (1, .int (l1)), (2, .int (l2))]) e_S_become_20 rfl (by decide) rfl ?_
  exact g_sub [1, 0] rfl h
set_option maxHeartbeats 1000000 in
theorem s_S_become_21 {l0 : Nat} {l3 : Int32} {v : Vv} {Q : Vv → Prop} (h : (isSheet (l0)) ∧ (if l3 < (40 : Int32) then ((ib (l3) 40) ∧ (k_S_become_21 (l0) ((l3 + (1 : Int32))) (sI (v) (l0 + 1) (ix (l3)) (0 : Int32)) Q)) else (Q (v)))) : k_S_become_21 l0 l3 v Q := by
  show Gp 3 M_S_become 21 [(0, .ref (l0)), (3, .int (l3))] [] v (QV Q)
  refine g_iload_n 1 e_S_become_21 rfl rfl ?_
  refine g_aload_n 0 e_S_become_22 rfl rfl ?_
  obtain ⟨h4, h⟩ := h
  refine p_getR (j := (l0 + 1)) e_S_become_23 (isSheet_o h4) fl_S_9 rfl (isSheet_cells h4 _) ?_
  refine p_alen (x := (40 : Int32)) e_S_become_26 (isSheet_cells_s h4) (by decide) (by decide) ?_
  refine g_icmp_ge (tgt := 43) e_S_become_27 rfl (fun c5 => ?_) (fun c5 => ?_)
  · replace h := iteF h c5
    exact p_retV e_S_become_43.1 rfl h
  · replace h := iteT h c5
    refine g_aload_n 0 e_S_become_30 rfl rfl ?_
    refine p_getR (j := (l0 + 1)) e_S_become_31 (isSheet_o h4) fl_S_9 rfl (isSheet_cells h4 _) ?_
    refine g_iload_n 1 e_S_become_34 rfl rfl ?_
    refine g_iconst (0 : Int32) e_S_become_35 (by decide) ?_
    obtain ⟨h6, h⟩ := h
    refine p_iast e_S_become_36 (isSheet_cells_s h4) h6 ?_
    refine g_iinc (v := (l3 + (1 : Int32))) (L' := [(3, .int ((l3 + (1 : Int32)))), (0, .ref (l0))]) 1 e_S_become_37 rfl rfl (by decide) rfl ?_
    refine g_goto (tgt := 21) e_S_become_40 rfl ?_
    exact g_sub [1, 0] rfl h
set_option maxHeartbeats 1000000 in
theorem s_H_seen {l0 : Nat} {v : Vv} {Q : Int32 → Vv → Prop} (h : k_H_seen_4 (l0) ((0 : Int32)) ((0 : Int32)) (v) Q) : m_H_seen l0 v Q := by
  refine cp_go (Nat.le_of_ble_eq_true rfl) (by decide +kernel) ?_
  show Gp 1 M_H_seen 0 [(0, .ref (l0))] [] v (QI Q)
  refine g_iconst (0 : Int32) e_H_seen_0 (by decide) ?_
  refine g_istore_n (L' := [(1, .int ((0 : Int32))), (0, .ref (l0))]) e_H_seen_1 rfl (by decide) rfl ?_
  refine g_iconst (0 : Int32) e_H_seen_2 (by decide) ?_
  refine g_istore_n (L' := [(2, .int ((0 : Int32))), (1, .int ((0 : Int32))), (0, .ref (l0))]) e_H_seen_3 rfl (by decide) rfl ?_
  exact g_sub [2, 1, 0] rfl h
set_option maxHeartbeats 1000000 in
theorem s_H_seen_4 {l0 : Nat} {l1 : Int32} {l2 : Int32} {v : Vv} {Q : Int32 → Vv → Prop} (h : (isHouse (l0)) ∧ (if l2 < (v).1 l0 2 then ((ib (l2) 6) ∧ (k_H_seen_4 (l0) ((if (v).1 (l0 + 3 + ix (l2)) 3 = (-1 : Int32) then l1 else (l1 + (1 : Int32)))) ((l2 + (1 : Int32))) (v) Q)) else (Q (l1) (v)))) : k_H_seen_4 l0 l1 l2 v Q := by
  show Gp 1 M_H_seen 4 [(0, .ref (l0)), (1, .int (l1)), (2, .int (l2))] [] v (QI Q)
  refine g_iload_n 2 e_H_seen_4 rfl rfl ?_
  refine g_aload_n 0 e_H_seen_5 rfl rfl ?_
  obtain ⟨h1, h⟩ := h
  refine p_getI e_H_seen_6 (isHouse_o h1) fl_H_23 rfl ?_
  refine g_icmp_ge (tgt := 34) e_H_seen_9 rfl (fun c2 => ?_) (fun c2 => ?_)
  · replace h := iteF h c2
    refine g_iload_n 1 e_H_seen_34 rfl rfl ?_
    exact p_retI e_H_seen_35.1 rfl h
  · replace h := iteT h c2
    refine g_aload_n 0 e_H_seen_12 rfl rfl ?_
    refine p_getR (j := (l0 + 1)) e_H_seen_13 (isHouse_o h1) fl_H_11 rfl (isHouse_clocks h1 _) ?_
    refine g_iload_n 2 e_H_seen_16 rfl rfl ?_
    obtain ⟨h3, h⟩ := h
    refine p_aald (j := (l0 + 3 + ix (l2))) e_H_seen_17 (isHouse_clocks_s h1) (by decide) rfl h3 (el_hclocks h1 h3 _) ?_
    refine p_getI e_H_seen_18 (isClock_o (el_hclocks_k h1 h3)) fl_H_42 rfl ?_
    refine g_iconst (-1 : Int32) e_H_seen_21 (by decide) ?_
    have hj : ∀ m0 : Int32, m0 = (if (v).1 (l0 + 3 + ix (l2)) 3 = (-1 : Int32) then l1 else (l1 + (1 : Int32))) → Gp 1 M_H_seen 28 [(0, .ref (l0)), (1, .int (m0)), (2, .int (l2))] [] (v) (QI Q) := by
      intro m0 hm0
      subst hm0
      refine g_iinc (v := (l2 + (1 : Int32))) (L' := [(2, .int ((l2 + (1 : Int32)))), (0, .ref (l0)), (1, .int ((if (v).1 (l0 + 3 + ix (l2)) 3 = (-1 : Int32) then l1 else (l1 + (1 : Int32)))))]) 2 e_H_seen_28 rfl rfl (by decide) rfl ?_
      refine g_goto (tgt := 4) e_H_seen_31 rfl ?_
      exact g_sub [1, 2, 0] rfl h
    refine g_icmp_eq (tgt := 28) e_H_seen_22 rfl (fun c4 => ?_) (fun c4 => ?_)
    · exact hj (l1) (by simp only [if_pos c4])
    · refine g_iinc (v := (l1 + (1 : Int32))) (L' := [(1, .int ((l1 + (1 : Int32)))), (0, .ref (l0)), (2, .int (l2))]) 1 e_H_seen_25 rfl rfl (by decide) rfl ?_
      refine g_sub [1, 0, 2] rfl ?_
      exact hj ((l1 + (1 : Int32))) (by simp only [if_neg c4])
set_option maxHeartbeats 1000000 in
theorem s_H_become {l0 : Nat} {l1 : Nat} {v : Vv} {Q : Vv → Prop} (h : k_H_become_2 (l0) (l1) ((0 : Int32)) (v) Q) : m_H_become l0 l1 v Q := by
  refine cp_go (Nat.le_of_ble_eq_true rfl) (by decide +kernel) ?_
  show Gp 2 M_H_become 0 [(0, .ref (l0)), (1, .ref (l1))] [] v (QV Q)
  refine g_iconst (0 : Int32) e_H_become_0 (by decide) ?_
  refine g_istore_n (L' := [(2, .int ((0 : Int32))), (0, .ref (l0)), (1, .ref (l1))]) e_H_become_1 rfl (by decide) rfl ?_
  exact g_sub [1, 2, 0] rfl h
set_option maxHeartbeats 1000000 in
theorem s_H_become_2 {l0 : Nat} {l1 : Nat} {l2 : Int32} {v : Vv} {Q : Vv → Prop} (h : if l2 < (6 : Int32) then ((isHouse (l0)) ∧ ((ib (l2) 6) ∧ ((isHouse (l1)) ∧ (m_C_become (l0 + 3 + ix (l2)) (l1 + 3 + ix (l2)) (v) (fun v6 => k_H_become_2 (l0) (l1) ((l2 + (1 : Int32))) (v6) Q))))) else (k_H_become_31 (l0) (l1) ((0 : Int32)) (v) Q)) : k_H_become_2 l0 l1 l2 v Q := by
  show Gp 2 M_H_become 2 [(0, .ref (l0)), (1, .ref (l1)), (2, .int (l2))] [] v (QV Q)
  refine g_iload_n 2 e_H_become_2 rfl rfl ?_
  refine g_bipush (6 : Int32) e_H_become_3 (by decide) ?_
  refine g_icmp_ge (tgt := 29) e_H_become_5 rfl (fun c1 => ?_) (fun c1 => ?_)
  · replace h := iteF h c1
    refine g_iconst (0 : Int32) e_H_become_29 (by decide) ?_
    refine g_istore_n (L' := [(2, .int ((0 : Int32))), (0, .ref (l0)), (1, .ref (l1))]) e_H_become_30 rfl (by decide) rfl ?_
    exact g_sub [1, 2, 0] rfl h
  · replace h := iteT h c1
    refine g_aload_n 0 e_H_become_8 rfl rfl ?_
    obtain ⟨h2, h⟩ := h
    refine p_getR (j := (l0 + 1)) e_H_become_9 (isHouse_o h2) fl_H_11 rfl (isHouse_clocks h2 _) ?_
    refine g_iload_n 2 e_H_become_12 rfl rfl ?_
    obtain ⟨h3, h⟩ := h
    refine p_aald (j := (l0 + 3 + ix (l2))) e_H_become_13 (isHouse_clocks_s h2) (by decide) rfl h3 (el_hclocks h2 h3 _) ?_
    refine g_aload_n 1 e_H_become_14 rfl rfl ?_
    obtain ⟨h4, h⟩ := h
    refine p_getR (j := (l1 + 1)) e_H_become_15 (isHouse_o h4) fl_H_11 rfl (isHouse_clocks h4 _) ?_
    refine g_iload_n 2 e_H_become_18 rfl rfl ?_
    refine p_aald (j := (l1 + 3 + ix (l2))) e_H_become_19 (isHouse_clocks_s h4) (by decide) rfl h3 (el_hclocks h4 h3 _) ?_
    refine p_callVV (d' := 1) (ci := 0) (r := (RX0, TX0, 4)) (As := [.ref ((l1 + 3 + ix (l2)))]) (rest := []) e_H_become_20 zm_C_become lV_H_35 (isClock_o (el_hclocks_k h2 h3)) rfl rfl rfl rfl (Nat.le_of_ble_eq_true rfl) (by decide) ?_
    refine cp_mono h (fun _ v6 ⟨e1, h⟩ => ⟨e1, ?_⟩)
    refine g_iinc (v := (l2 + (1 : Int32))) (L' := [(2, .int ((l2 + (1 : Int32)))), (0, .ref (l0)), (1, .ref (l1))]) 2 e_H_become_23 rfl rfl (by decide) rfl ?_
    refine g_goto (tgt := 2) e_H_become_26 rfl ?_
    exact g_sub [1, 2, 0] rfl h
set_option maxHeartbeats 1000000 in
theorem s_H_become_31 {l0 : Nat} {l1 : Nat} {l2 : Int32} {v : Vv} {Q : Vv → Prop} (h : if l2 < (5 : Int32) then ((isHouse (l0)) ∧ ((ib (l2) 5) ∧ ((isHouse (l1)) ∧ (m_D_become (l0 + 9 + ix (l2)) (l1 + 9 + ix (l2)) (v) (fun v12 => k_H_become_31 (l0) (l1) ((l2 + (1 : Int32))) (v12) Q))))) else ((isHouse (l1)) ∧ ((isHouse (l0)) ∧ (Q (sI (sI (sI (v) l0 2 ((v).1 l1 2)) l0 3 ((sI (v) l0 2 ((v).1 l1 2)).1 l1 3)) l0 4 ((sI (sI (v) l0 2 ((v).1 l1 2)) l0 3 ((sI (v) l0 2 ((v).1 l1 2)).1 l1 3)).1 l1 4)))))) : k_H_become_31 l0 l1 l2 v Q := by
  show Gp 2 M_H_become 31 [(0, .ref (l0)), (1, .ref (l1)), (2, .int (l2))] [] v (QV Q)
  refine g_iload_n 2 e_H_become_31 rfl rfl ?_
  refine g_iconst (5 : Int32) e_H_become_32 (by decide) ?_
  refine g_icmp_ge (tgt := 57) e_H_become_33 rfl (fun c7 => ?_) (fun c7 => ?_)
  · replace h := iteF h c7
    refine g_aload_n 0 e_H_become_57 rfl rfl ?_
    refine g_aload_n 1 e_H_become_58 rfl rfl ?_
    obtain ⟨h13, h⟩ := h
    refine p_getI e_H_become_59 (isHouse_o h13) fl_H_23 rfl ?_
    obtain ⟨h14, h⟩ := h
    refine p_putI e_H_become_62 (isHouse_o h14) fp_H_23 rfl rfl rfl ?_
    refine g_aload_n 0 e_H_become_65 rfl rfl ?_
    refine g_aload_n 1 e_H_become_66 rfl rfl ?_
    refine p_getI e_H_become_67 (isHouse_o h13) fl_H_27 rfl ?_
    refine p_putI e_H_become_70 (isHouse_o h14) fp_H_27 rfl rfl rfl ?_
    refine g_aload_n 0 e_H_become_73 rfl rfl ?_
    refine g_aload_n 1 e_H_become_74 rfl rfl ?_
    refine p_getI e_H_become_75 (isHouse_o h13) fl_H_30 rfl ?_
    refine p_putI e_H_become_78 (isHouse_o h14) fp_H_30 rfl rfl rfl ?_
    exact p_retV e_H_become_81.1 rfl h
  · replace h := iteT h c7
    refine g_aload_n 0 e_H_become_36 rfl rfl ?_
    obtain ⟨h8, h⟩ := h
    refine p_getR (j := (l0 + 2)) e_H_become_37 (isHouse_o h8) fl_H_19 rfl (isHouse_doers h8 _) ?_
    refine g_iload_n 2 e_H_become_40 rfl rfl ?_
    obtain ⟨h9, h⟩ := h
    refine p_aald (j := (l0 + 9 + ix (l2))) e_H_become_41 (isHouse_doers_s h8) (by decide) rfl h9 (el_hdoers h8 h9 _) ?_
    refine g_aload_n 1 e_H_become_42 rfl rfl ?_
    obtain ⟨h10, h⟩ := h
    refine p_getR (j := (l1 + 2)) e_H_become_43 (isHouse_o h10) fl_H_19 rfl (isHouse_doers h10 _) ?_
    refine g_iload_n 2 e_H_become_46 rfl rfl ?_
    refine p_aald (j := (l1 + 9 + ix (l2))) e_H_become_47 (isHouse_doers_s h10) (by decide) rfl h9 (el_hdoers h10 h9 _) ?_
    refine p_callVV (d' := 1) (ci := 1) (r := (RX1, TX1, 3)) (As := [.ref ((l1 + 9 + ix (l2)))]) (rest := []) e_H_become_48 zm_D_become lV_H_39 (isDoer_o (el_hdoers_k h8 h9)) rfl rfl rfl rfl (Nat.le_of_ble_eq_true rfl) (by decide) ?_
    refine cp_mono h (fun _ v12 ⟨e1, h⟩ => ⟨e1, ?_⟩)
    refine g_iinc (v := (l2 + (1 : Int32))) (L' := [(2, .int ((l2 + (1 : Int32)))), (0, .ref (l0)), (1, .ref (l1))]) 2 e_H_become_51 rfl rfl (by decide) rfl ?_
    refine g_goto (tgt := 31) e_H_become_54 rfl ?_
    exact g_sub [1, 2, 0] rfl h
