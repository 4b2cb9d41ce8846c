-- the two outer constructors
theorem c_P {W : Mm} (h : TG 0 154 W) : Call 4 M_P_init 1 154 [.ref 0] (hole (H_P 0) W) (fun r w => r = none ∧ w = E6 W) := by
  refine call_of_go (by omega) (by decide +kernel) (Nat.le_of_ble_eq_true rfl) ?_
  show Go _ _ _ _ _ 0 [(0, .ref 0)] [] (hole (fun i k => i = 0 ∧ (k < 3 ∨ (4 ≤ k ∧ k < 7) ∨ (8 ≤ k ∧ k < 11))) W) _
  refine g_aload_n 0 e_P_init_0 rfl rfl ?_
  refine g_objI e_P_init_1 (zT_1 (i := 24) rfl rfl) oi_2 oi_3 (by decide) (by omega) ?_
  refine g_aload_n 0 e_P_init_4 rfl rfl ?_
  refine k_newIN (d' := 3) (n' := 92) (r := (RX8, TX8, 13)) (c_W (h.hole (b' := 1) (e' := 92) (by omega) (by omega) (fun i k q => by omega))) (ho_W (1)) (nz_W (h.hole (b' := 1) (e' := 92) (by omega) (by omega) (fun i k q => by omega)) (Nat.le_refl _) (by omega) sy_1) sy_1 rfl e_P_init_5 e_P_init_8 e_P_init_9 (zT_1 (i := 27) rfl rfl) ni_W nt_W zm_W_init (⟨"PutOn", zL_1 (i := 29) rfl, zT_1 (i := 30) rfl rfl, rfl, rfl⟩) (Nat.le_of_ble_eq_true rfl) (by omega) (by omega) (by omega) (by omega) ?_
  refine k_putF (D' := (fun i k => i = 0 ∧ ((1 ≤ k ∧ k < 3) ∨ (4 ≤ k ∧ k < 7) ∨ (8 ≤ k ∧ k < 11)))) e_P_init_12 sy_0 (by omega) (⟨_, rfl, by decide, zT_2 (i := 57) rfl rfl, rfl, rfl⟩) rfl rfl (h.at (by omega) (by omega) (v_P_0)) (by omega) (fun i j => by omega) ?_
  refine g_aload_n 0 e_P_init_15 rfl rfl ?_
  refine g_aload_n 0 e_P_init_16 rfl rfl ?_
  refine g_getR (j := 1) e_P_init_17 sy_0 (by omega) (⟨_, rfl, by decide, zT_2 (i := 57) rfl rfl⟩) rfl ((hole_out (by omega)).2.2.trans (h.at (by omega) (by omega) (v_P_0)).2.2) ?_
  refine g_getR (j := 74) e_P_init_20 sy_1 (by omega) (⟨_, rfl, by decide, zT_1 (i := 166) rfl rfl⟩) rfl ((hole_out (by omega)).2.2.trans (h.at (by omega) (by omega) (v_W_8)).2.2) ?_
  refine k_putF (D' := (fun i k => i = 0 ∧ (k = 2 ∨ (4 ≤ k ∧ k < 7) ∨ (8 ≤ k ∧ k < 11)))) e_P_init_23 sy_0 (by omega) (⟨_, rfl, by decide, zT_2 (i := 58) rfl rfl, rfl, rfl⟩) rfl rfl (h.at (by omega) (by omega) (v_P_1)) (by omega) (fun i j => by omega) ?_
  refine g_aload_n 0 e_P_init_26 rfl rfl ?_
  refine k_newI (d' := 2) (n' := 106) (r := (RX2, TX2, 5)) (c_H (by unfold isHouse; decide) (h.hole (b' := 92) (e' := 106) (by omega) (by omega) (fun i k q => by omega))) (ho_H (92)) (nz_H (by unfold isHouse; decide) (h.hole (b' := 92) (e' := 106) (by omega) (by omega) (fun i k q => by omega)) (Nat.le_refl _) (by omega) sy_92) sy_92 rfl e_P_init_27 e_P_init_30 e_P_init_31 (zT_1 (i := 204) rfl rfl) ni_H nt_H zm_H_init (⟨zT_1 (i := 205) rfl rfl, zT_1 (i := 38) rfl rfl, rfl, rfl⟩) (Nat.le_of_ble_eq_true rfl) (by omega) (by omega) (by omega) (by omega) ?_
  refine k_putF (D' := (fun i k => i = 0 ∧ ((4 ≤ k ∧ k < 7) ∨ (8 ≤ k ∧ k < 11)))) e_P_init_34 sy_0 (by omega) (⟨_, rfl, by decide, zT_2 (i := 59) rfl rfl, rfl, rfl⟩) rfl rfl (h.at (by omega) (by omega) (v_P_2)) (by omega) (fun i j => by omega) ?_
  refine g_aload_n 0 e_P_init_37 rfl rfl ?_
  refine g_iconst (0 : Int32) e_P_init_38 (by decide) ?_
  refine k_put0 e_P_init_39 sy_0 (by omega) (⟨_, rfl, by decide, zT_2 (i := 60) rfl rfl, rfl⟩) rfl (by decide) (by decide) (h.at (by omega) (by omega) (z_P 3 (by decide))) ?_
  refine g_aload_n 0 e_P_init_42 rfl rfl ?_
  refine g_bipush (6 : Int32) e_P_init_43 (by decide) ?_
  refine k_newQ (D' := (fun i k => i = 106 ∧ k < 6 ∨ i = 0 ∧ ((4 ≤ k ∧ k < 7) ∨ (8 ≤ k ∧ k < 11)))) (sz := 6) e_P_init_45 sy_106 (by decide) (zT_1 (i := 206) rfl rfl) no_T (by decide) (by decide) (by omega) (by omega) (fun i k => by omega) ?_
  refine k_putF (D' := (fun i k => i = 106 ∧ k < 6 ∨ i = 0 ∧ ((5 ≤ k ∧ k < 7) ∨ (8 ≤ k ∧ k < 11)))) e_P_init_48 sy_0 (by omega) (⟨_, rfl, by decide, zT_2 (i := 61) rfl rfl, rfl, rfl⟩) rfl rfl (h.at (by omega) (by omega) (v_P_4)) (by omega) (fun i j => by omega) ?_
  refine g_aload_n 0 e_P_init_51 rfl rfl ?_
  refine g_iconst (1 : Int32) e_P_init_52 (by decide) ?_
  refine k_putI (D' := (fun i k => i = 106 ∧ k < 6 ∨ i = 0 ∧ (k = 6 ∨ (8 ≤ k ∧ k < 11)))) e_P_init_53 sy_0 (by omega) (⟨_, rfl, by decide, zT_2 (i := 62) rfl rfl, rfl⟩) rfl (by decide) (by decide) (h.at (by omega) (by omega) (v_P_5)) (by omega) (fun i j => by omega) ?_
  refine g_aload_n 0 e_P_init_56 rfl rfl ?_
  refine g_sipush (160 : Int32) e_P_init_57 (by decide) ?_
  refine k_newA (sz := 160) e_P_init_60 sy_107 (fun k => dz_hole (h.arr (by omega) (by omega) sy_107 (by decide) k)) rfl (by decide) na_int (by decide) (by decide) (by omega) (by omega) ?_
  refine k_putF (D' := (fun i k => i = 106 ∧ k < 6 ∨ i = 0 ∧ (8 ≤ k ∧ k < 11))) e_P_init_62 sy_0 (by omega) (⟨_, rfl, by decide, zT_2 (i := 63) rfl rfl, rfl, rfl⟩) rfl rfl (h.at (by omega) (by omega) (v_P_6)) (by omega) (fun i j => by omega) ?_
  refine g_aload_n 0 e_P_init_65 rfl rfl ?_
  refine g_iconst (0 : Int32) e_P_init_66 (by decide) ?_
  refine k_put0 e_P_init_67 sy_0 (by omega) (⟨_, rfl, by decide, zT_2 (i := 64) rfl rfl, rfl⟩) rfl (by decide) (by decide) (h.at (by omega) (by omega) (z_P 7 (by decide))) ?_
  refine g_aload_n 0 e_P_init_70 rfl rfl ?_
  refine k_newIN (d' := 2) (n' := 116) (r := (RX4, TX4, 6)) (c_R (h.hole (b' := 108) (e' := 116) (by omega) (by omega) (fun i k q => by omega))) (ho_R (108)) (nz_R (h.hole (b' := 108) (e' := 116) (by omega) (by omega) (fun i k q => by omega)) (Nat.le_refl _) (by omega) sy_108) sy_108 rfl e_P_init_71 e_P_init_74 e_P_init_75 (zT_1 (i := 208) rfl rfl) ni_R nt_R zm_R_init (⟨"PutOn", zL_1 (i := 210) rfl, zT_1 (i := 211) rfl rfl, rfl, rfl⟩) (Nat.le_of_ble_eq_true rfl) (by omega) (by omega) (by omega) (by omega) ?_
  refine k_putF (D' := (fun i k => i = 106 ∧ k < 6 ∨ i = 0 ∧ (9 ≤ k ∧ k < 11))) e_P_init_78 sy_0 (by omega) (⟨_, rfl, by decide, zT_2 (i := 65) rfl rfl, rfl, rfl⟩) rfl rfl (h.at (by omega) (by omega) (v_P_8)) (by omega) (fun i j => by omega) ?_
  refine g_aload_n 0 e_P_init_81 rfl rfl ?_
  refine k_newIN (d' := 2) (n' := 121) (r := (RX3, TX3, 2)) (c_K (h.hole (b' := 116) (e' := 121) (by omega) (by omega) (fun i k q => by omega))) (ho_K (116)) (nz_K (h.hole (b' := 116) (e' := 121) (by omega) (by omega) (fun i k q => by omega)) (Nat.le_refl _) (by omega) sy_116) sy_116 rfl e_P_init_82 e_P_init_85 e_P_init_86 (zT_1 (i := 236) rfl rfl) ni_K nt_K zm_K_init (⟨"PutOn", zL_1 (i := 238) rfl, zT_1 (i := 239) rfl rfl, rfl, rfl⟩) (Nat.le_of_ble_eq_true rfl) (by omega) (by omega) (by omega) (by omega) ?_
  refine k_putF (D' := (fun i k => i = 106 ∧ k < 6 ∨ i = 0 ∧ k = 10)) e_P_init_89 sy_0 (by omega) (⟨_, rfl, by decide, zT_2 (i := 66) rfl rfl, rfl, rfl⟩) rfl rfl (h.at (by omega) (by omega) (v_P_9)) (by omega) (fun i j => by omega) ?_
  refine g_aload_n 0 e_P_init_92 rfl rfl ?_
  refine g_iconst (4 : Int32) e_P_init_93 (by decide) ?_
  refine k_newQ (D' := (fun i k => i = 121 ∧ k < 4 ∨ i = 106 ∧ k < 6 ∨ i = 0 ∧ k = 10)) (sz := 4) e_P_init_94 sy_121 (by decide) (zT_2 (i := 26) rfl rfl) no_S (by decide) (by decide) (by omega) (by omega) (fun i k => by omega) ?_
  refine k_putF (D' := (fun i k => i = 121 ∧ k < 4 ∨ i = 106 ∧ k < 6)) e_P_init_97 sy_0 (by omega) (⟨_, rfl, by decide, zT_2 (i := 67) rfl rfl, rfl, rfl⟩) rfl rfl (h.at (by omega) (by omega) (v_P_10)) (by omega) (fun i j => by omega) ?_
  refine g_iconst (0 : Int32) e_P_init_100 (by decide) ?_
  refine g_istore_n (L' := [(1, .int 0), (0, .ref (0))]) e_P_init_101 rfl (by decide) rfl ?_
  refine g_iload_n 0 e_P_init_102 rfl rfl ?_
  refine g_bipush (6 : Int32) e_P_init_103 (by decide) ?_
  refine g_icmp_ge (tgt := 127) e_P_init_105 rfl (fun h0 => absurd h0 (by decide)) (fun _ => ?_)
  refine g_aload_n 1 e_P_init_108 rfl rfl ?_
  refine g_getR (j := 106) e_P_init_109 sy_0 (by omega) (⟨_, rfl, by decide, zT_2 (i := 61) rfl rfl⟩) rfl ((hole_out (by omega)).2.2.trans (h.at (by omega) (by omega) (v_P_4)).2.2) ?_
  refine g_iload_n 0 e_P_init_112 rfl rfl ?_
  refine k_newIN (d' := 1) (n' := 126) (r := (RX7, TX7, 5)) (c_T (by unfold isText; decide) (h.hole (b' := 122) (e' := 126) (by omega) (by omega) (fun i k q => by omega))) (ho_T (122)) (nz_T (by unfold isText; decide) (h.hole (b' := 122) (e' := 126) (by omega) (by omega) (fun i k q => by omega)) (Nat.le_refl _) (by omega) sy_122) sy_122 rfl e_P_init_113 e_P_init_116 e_P_init_117 (zT_1 (i := 206) rfl rfl) ni_T nt_T zm_T_init (⟨"PutOn", zL_2 (i := 28) rfl, zT_1 (i := 126) rfl rfl, rfl, rfl⟩) (Nat.le_of_ble_eq_true rfl) (by omega) (by omega) (by omega) (by omega) ?_
  refine k_ast2 (D' := (fun i k => i = 121 ∧ k < 4 ∨ i = 106 ∧ (1 ≤ k ∧ k < 6))) (r := (RX7, TX7, 5)) e_P_init_120 sy_106 (by omega) (by decide) (by omega) sy_122 rfl ⟨by decide, by decide⟩ (by decide) (h.at (by omega) (by omega) (el_P_106_0)) (by omega) (fun i j => by omega) ?_
  refine g_iinc (v := (1 : Int32)) (L' := [(1, .int 1), (0, .ref (0))]) 0 e_P_init_121 rfl (by decide) (by decide) rfl ?_
  refine g_goto (tgt := 102) e_P_init_124 rfl ?_
  refine g_iload_n 0 e_P_init_102 rfl rfl ?_
  refine g_bipush (6 : Int32) e_P_init_103 (by decide) ?_
  refine g_icmp_ge (tgt := 127) e_P_init_105 rfl (fun h0 => absurd h0 (by decide)) (fun _ => ?_)
  refine g_aload_n 1 e_P_init_108 rfl rfl ?_
  refine g_getR (j := 106) e_P_init_109 sy_0 (by omega) (⟨_, rfl, by decide, zT_2 (i := 61) rfl rfl⟩) rfl ((hole_out (by omega)).2.2.trans (h.at (by omega) (by omega) (v_P_4)).2.2) ?_
  refine g_iload_n 0 e_P_init_112 rfl rfl ?_
  refine k_newIN (d' := 1) (n' := 130) (r := (RX7, TX7, 5)) (c_T (by unfold isText; decide) (h.hole (b' := 126) (e' := 130) (by omega) (by omega) (fun i k q => by omega))) (ho_T (126)) (nz_T (by unfold isText; decide) (h.hole (b' := 126) (e' := 130) (by omega) (by omega) (fun i k q => by omega)) (Nat.le_refl _) (by omega) sy_126) sy_126 rfl e_P_init_113 e_P_init_116 e_P_init_117 (zT_1 (i := 206) rfl rfl) ni_T nt_T zm_T_init (⟨"PutOn", zL_2 (i := 28) rfl, zT_1 (i := 126) rfl rfl, rfl, rfl⟩) (Nat.le_of_ble_eq_true rfl) (by omega) (by omega) (by omega) (by omega) ?_
  refine k_ast2 (D' := (fun i k => i = 121 ∧ k < 4 ∨ i = 106 ∧ (2 ≤ k ∧ k < 6))) (r := (RX7, TX7, 5)) e_P_init_120 sy_106 (by omega) (by decide) (by omega) sy_126 rfl ⟨by decide, by decide⟩ (by decide) (h.at (by omega) (by omega) (el_P_106_1)) (by omega) (fun i j => by omega) ?_
  refine g_iinc (v := (2 : Int32)) (L' := [(1, .int 2), (0, .ref (0))]) 0 e_P_init_121 rfl (by decide) (by decide) rfl ?_
  refine g_goto (tgt := 102) e_P_init_124 rfl ?_
  refine g_iload_n 0 e_P_init_102 rfl rfl ?_
  refine g_bipush (6 : Int32) e_P_init_103 (by decide) ?_
  refine g_icmp_ge (tgt := 127) e_P_init_105 rfl (fun h0 => absurd h0 (by decide)) (fun _ => ?_)
  refine g_aload_n 1 e_P_init_108 rfl rfl ?_
  refine g_getR (j := 106) e_P_init_109 sy_0 (by omega) (⟨_, rfl, by decide, zT_2 (i := 61) rfl rfl⟩) rfl ((hole_out (by omega)).2.2.trans (h.at (by omega) (by omega) (v_P_4)).2.2) ?_
  refine g_iload_n 0 e_P_init_112 rfl rfl ?_
  refine k_newIN (d' := 1) (n' := 134) (r := (RX7, TX7, 5)) (c_T (by unfold isText; decide) (h.hole (b' := 130) (e' := 134) (by omega) (by omega) (fun i k q => by omega))) (ho_T (130)) (nz_T (by unfold isText; decide) (h.hole (b' := 130) (e' := 134) (by omega) (by omega) (fun i k q => by omega)) (Nat.le_refl _) (by omega) sy_130) sy_130 rfl e_P_init_113 e_P_init_116 e_P_init_117 (zT_1 (i := 206) rfl rfl) ni_T nt_T zm_T_init (⟨"PutOn", zL_2 (i := 28) rfl, zT_1 (i := 126) rfl rfl, rfl, rfl⟩) (Nat.le_of_ble_eq_true rfl) (by omega) (by omega) (by omega) (by omega) ?_
  refine k_ast2 (D' := (fun i k => i = 121 ∧ k < 4 ∨ i = 106 ∧ (3 ≤ k ∧ k < 6))) (r := (RX7, TX7, 5)) e_P_init_120 sy_106 (by omega) (by decide) (by omega) sy_130 rfl ⟨by decide, by decide⟩ (by decide) (h.at (by omega) (by omega) (el_P_106_2)) (by omega) (fun i j => by omega) ?_
  refine g_iinc (v := (3 : Int32)) (L' := [(1, .int 3), (0, .ref (0))]) 0 e_P_init_121 rfl (by decide) (by decide) rfl ?_
  refine g_goto (tgt := 102) e_P_init_124 rfl ?_
  refine g_iload_n 0 e_P_init_102 rfl rfl ?_
  refine g_bipush (6 : Int32) e_P_init_103 (by decide) ?_
  refine g_icmp_ge (tgt := 127) e_P_init_105 rfl (fun h0 => absurd h0 (by decide)) (fun _ => ?_)
  refine g_aload_n 1 e_P_init_108 rfl rfl ?_
  refine g_getR (j := 106) e_P_init_109 sy_0 (by omega) (⟨_, rfl, by decide, zT_2 (i := 61) rfl rfl⟩) rfl ((hole_out (by omega)).2.2.trans (h.at (by omega) (by omega) (v_P_4)).2.2) ?_
  refine g_iload_n 0 e_P_init_112 rfl rfl ?_
  refine k_newIN (d' := 1) (n' := 138) (r := (RX7, TX7, 5)) (c_T (by unfold isText; decide) (h.hole (b' := 134) (e' := 138) (by omega) (by omega) (fun i k q => by omega))) (ho_T (134)) (nz_T (by unfold isText; decide) (h.hole (b' := 134) (e' := 138) (by omega) (by omega) (fun i k q => by omega)) (Nat.le_refl _) (by omega) sy_134) sy_134 rfl e_P_init_113 e_P_init_116 e_P_init_117 (zT_1 (i := 206) rfl rfl) ni_T nt_T zm_T_init (⟨"PutOn", zL_2 (i := 28) rfl, zT_1 (i := 126) rfl rfl, rfl, rfl⟩) (Nat.le_of_ble_eq_true rfl) (by omega) (by omega) (by omega) (by omega) ?_
  refine k_ast2 (D' := (fun i k => i = 121 ∧ k < 4 ∨ i = 106 ∧ (4 ≤ k ∧ k < 6))) (r := (RX7, TX7, 5)) e_P_init_120 sy_106 (by omega) (by decide) (by omega) sy_134 rfl ⟨by decide, by decide⟩ (by decide) (h.at (by omega) (by omega) (el_P_106_3)) (by omega) (fun i j => by omega) ?_
  refine g_iinc (v := (4 : Int32)) (L' := [(1, .int 4), (0, .ref (0))]) 0 e_P_init_121 rfl (by decide) (by decide) rfl ?_
  refine g_goto (tgt := 102) e_P_init_124 rfl ?_
  refine g_iload_n 0 e_P_init_102 rfl rfl ?_
  refine g_bipush (6 : Int32) e_P_init_103 (by decide) ?_
  refine g_icmp_ge (tgt := 127) e_P_init_105 rfl (fun h0 => absurd h0 (by decide)) (fun _ => ?_)
  refine g_aload_n 1 e_P_init_108 rfl rfl ?_
  refine g_getR (j := 106) e_P_init_109 sy_0 (by omega) (⟨_, rfl, by decide, zT_2 (i := 61) rfl rfl⟩) rfl ((hole_out (by omega)).2.2.trans (h.at (by omega) (by omega) (v_P_4)).2.2) ?_
  refine g_iload_n 0 e_P_init_112 rfl rfl ?_
  refine k_newIN (d' := 1) (n' := 142) (r := (RX7, TX7, 5)) (c_T (by unfold isText; decide) (h.hole (b' := 138) (e' := 142) (by omega) (by omega) (fun i k q => by omega))) (ho_T (138)) (nz_T (by unfold isText; decide) (h.hole (b' := 138) (e' := 142) (by omega) (by omega) (fun i k q => by omega)) (Nat.le_refl _) (by omega) sy_138) sy_138 rfl e_P_init_113 e_P_init_116 e_P_init_117 (zT_1 (i := 206) rfl rfl) ni_T nt_T zm_T_init (⟨"PutOn", zL_2 (i := 28) rfl, zT_1 (i := 126) rfl rfl, rfl, rfl⟩) (Nat.le_of_ble_eq_true rfl) (by omega) (by omega) (by omega) (by omega) ?_
  refine k_ast2 (D' := (fun i k => i = 121 ∧ k < 4 ∨ i = 106 ∧ k = 5)) (r := (RX7, TX7, 5)) e_P_init_120 sy_106 (by omega) (by decide) (by omega) sy_138 rfl ⟨by decide, by decide⟩ (by decide) (h.at (by omega) (by omega) (el_P_106_4)) (by omega) (fun i j => by omega) ?_
  refine g_iinc (v := (5 : Int32)) (L' := [(1, .int 5), (0, .ref (0))]) 0 e_P_init_121 rfl (by decide) (by decide) rfl ?_
  refine g_goto (tgt := 102) e_P_init_124 rfl ?_
  refine g_iload_n 0 e_P_init_102 rfl rfl ?_
  refine g_bipush (6 : Int32) e_P_init_103 (by decide) ?_
  refine g_icmp_ge (tgt := 127) e_P_init_105 rfl (fun h0 => absurd h0 (by decide)) (fun _ => ?_)
  refine g_aload_n 1 e_P_init_108 rfl rfl ?_
  refine g_getR (j := 106) e_P_init_109 sy_0 (by omega) (⟨_, rfl, by decide, zT_2 (i := 61) rfl rfl⟩) rfl ((hole_out (by omega)).2.2.trans (h.at (by omega) (by omega) (v_P_4)).2.2) ?_
  refine g_iload_n 0 e_P_init_112 rfl rfl ?_
  refine k_newIN (d' := 1) (n' := 146) (r := (RX7, TX7, 5)) (c_T (by unfold isText; decide) (h.hole (b' := 142) (e' := 146) (by omega) (by omega) (fun i k q => by omega))) (ho_T (142)) (nz_T (by unfold isText; decide) (h.hole (b' := 142) (e' := 146) (by omega) (by omega) (fun i k q => by omega)) (Nat.le_refl _) (by omega) sy_142) sy_142 rfl e_P_init_113 e_P_init_116 e_P_init_117 (zT_1 (i := 206) rfl rfl) ni_T nt_T zm_T_init (⟨"PutOn", zL_2 (i := 28) rfl, zT_1 (i := 126) rfl rfl, rfl, rfl⟩) (Nat.le_of_ble_eq_true rfl) (by omega) (by omega) (by omega) (by omega) ?_
  refine k_ast2 (D' := (fun i k => i = 121 ∧ k < 4)) (r := (RX7, TX7, 5)) e_P_init_120 sy_106 (by omega) (by decide) (by omega) sy_142 rfl ⟨by decide, by decide⟩ (by decide) (h.at (by omega) (by omega) (el_P_106_5)) (by omega) (fun i j => by omega) ?_
  refine g_iinc (v := (6 : Int32)) (L' := [(1, .int 6), (0, .ref (0))]) 0 e_P_init_121 rfl (by decide) (by decide) rfl ?_
  refine g_goto (tgt := 102) e_P_init_124 rfl ?_
  refine g_iload_n 0 e_P_init_102 rfl rfl ?_
  refine g_bipush (6 : Int32) e_P_init_103 (by decide) ?_
  refine g_icmp_ge (tgt := 127) e_P_init_105 rfl (fun _ => ?_) (fun h0 => absurd h0 (by decide))
  refine g_iconst (0 : Int32) e_P_init_127 (by decide) ?_
  refine g_istore_n (L' := [(1, .int 0), (0, .ref (0))]) e_P_init_128 rfl (by decide) rfl ?_
  refine g_iload_n 0 e_P_init_129 rfl rfl ?_
  refine g_iconst (4 : Int32) e_P_init_130 (by decide) ?_
  refine g_icmp_ge (tgt := 153) e_P_init_131 rfl (fun h0 => absurd h0 (by decide)) (fun _ => ?_)
  refine g_aload_n 1 e_P_init_134 rfl rfl ?_
  refine g_getR (j := 121) e_P_init_135 sy_0 (by omega) (⟨_, rfl, by decide, zT_2 (i := 67) rfl rfl⟩) rfl ((hole_out (by omega)).2.2.trans (h.at (by omega) (by omega) (v_P_10)).2.2) ?_
  refine g_iload_n 0 e_P_init_138 rfl rfl ?_
  refine k_newIN (d' := 1) (n' := 148) (r := (RX5, TX5, 3)) (c_S (by unfold isSheet; decide) (h.hole (b' := 146) (e' := 148) (by omega) (by omega) (fun i k q => by omega))) (ho_S (146)) (nz_S (by unfold isSheet; decide) (h.hole (b' := 146) (e' := 148) (by omega) (by omega) (fun i k q => by omega)) (Nat.le_refl _) (by omega) sy_146) sy_146 rfl e_P_init_139 e_P_init_142 e_P_init_143 (zT_2 (i := 26) rfl rfl) ni_S nt_S zm_S_init (⟨"PutOn", zL_2 (i := 30) rfl, zT_2 (i := 31) rfl rfl, rfl, rfl⟩) (Nat.le_of_ble_eq_true rfl) (by omega) (by omega) (by omega) (by omega) ?_
  refine k_ast2 (D' := (fun i k => i = 121 ∧ (1 ≤ k ∧ k < 4))) (r := (RX5, TX5, 3)) e_P_init_146 sy_121 (by omega) (by decide) (by omega) sy_146 rfl ⟨by decide, by decide⟩ (by decide) (h.at (by omega) (by omega) (el_P_121_0)) (by omega) (fun i j => by omega) ?_
  refine g_iinc (v := (1 : Int32)) (L' := [(1, .int 1), (0, .ref (0))]) 0 e_P_init_147 rfl (by decide) (by decide) rfl ?_
  refine g_goto (tgt := 129) e_P_init_150 rfl ?_
  refine g_iload_n 0 e_P_init_129 rfl rfl ?_
  refine g_iconst (4 : Int32) e_P_init_130 (by decide) ?_
  refine g_icmp_ge (tgt := 153) e_P_init_131 rfl (fun h0 => absurd h0 (by decide)) (fun _ => ?_)
  refine g_aload_n 1 e_P_init_134 rfl rfl ?_
  refine g_getR (j := 121) e_P_init_135 sy_0 (by omega) (⟨_, rfl, by decide, zT_2 (i := 67) rfl rfl⟩) rfl ((hole_out (by omega)).2.2.trans (h.at (by omega) (by omega) (v_P_10)).2.2) ?_
  refine g_iload_n 0 e_P_init_138 rfl rfl ?_
  refine k_newIN (d' := 1) (n' := 150) (r := (RX5, TX5, 3)) (c_S (by unfold isSheet; decide) (h.hole (b' := 148) (e' := 150) (by omega) (by omega) (fun i k q => by omega))) (ho_S (148)) (nz_S (by unfold isSheet; decide) (h.hole (b' := 148) (e' := 150) (by omega) (by omega) (fun i k q => by omega)) (Nat.le_refl _) (by omega) sy_148) sy_148 rfl e_P_init_139 e_P_init_142 e_P_init_143 (zT_2 (i := 26) rfl rfl) ni_S nt_S zm_S_init (⟨"PutOn", zL_2 (i := 30) rfl, zT_2 (i := 31) rfl rfl, rfl, rfl⟩) (Nat.le_of_ble_eq_true rfl) (by omega) (by omega) (by omega) (by omega) ?_
  refine k_ast2 (D' := (fun i k => i = 121 ∧ (2 ≤ k ∧ k < 4))) (r := (RX5, TX5, 3)) e_P_init_146 sy_121 (by omega) (by decide) (by omega) sy_148 rfl ⟨by decide, by decide⟩ (by decide) (h.at (by omega) (by omega) (el_P_121_1)) (by omega) (fun i j => by omega) ?_
  refine g_iinc (v := (2 : Int32)) (L' := [(1, .int 2), (0, .ref (0))]) 0 e_P_init_147 rfl (by decide) (by decide) rfl ?_
  refine g_goto (tgt := 129) e_P_init_150 rfl ?_
  refine g_iload_n 0 e_P_init_129 rfl rfl ?_
  refine g_iconst (4 : Int32) e_P_init_130 (by decide) ?_
  refine g_icmp_ge (tgt := 153) e_P_init_131 rfl (fun h0 => absurd h0 (by decide)) (fun _ => ?_)
  refine g_aload_n 1 e_P_init_134 rfl rfl ?_
  refine g_getR (j := 121) e_P_init_135 sy_0 (by omega) (⟨_, rfl, by decide, zT_2 (i := 67) rfl rfl⟩) rfl ((hole_out (by omega)).2.2.trans (h.at (by omega) (by omega) (v_P_10)).2.2) ?_
  refine g_iload_n 0 e_P_init_138 rfl rfl ?_
  refine k_newIN (d' := 1) (n' := 152) (r := (RX5, TX5, 3)) (c_S (by unfold isSheet; decide) (h.hole (b' := 150) (e' := 152) (by omega) (by omega) (fun i k q => by omega))) (ho_S (150)) (nz_S (by unfold isSheet; decide) (h.hole (b' := 150) (e' := 152) (by omega) (by omega) (fun i k q => by omega)) (Nat.le_refl _) (by omega) sy_150) sy_150 rfl e_P_init_139 e_P_init_142 e_P_init_143 (zT_2 (i := 26) rfl rfl) ni_S nt_S zm_S_init (⟨"PutOn", zL_2 (i := 30) rfl, zT_2 (i := 31) rfl rfl, rfl, rfl⟩) (Nat.le_of_ble_eq_true rfl) (by omega) (by omega) (by omega) (by omega) ?_
  refine k_ast2 (D' := (fun i k => i = 121 ∧ k = 3)) (r := (RX5, TX5, 3)) e_P_init_146 sy_121 (by omega) (by decide) (by omega) sy_150 rfl ⟨by decide, by decide⟩ (by decide) (h.at (by omega) (by omega) (el_P_121_2)) (by omega) (fun i j => by omega) ?_
  refine g_iinc (v := (3 : Int32)) (L' := [(1, .int 3), (0, .ref (0))]) 0 e_P_init_147 rfl (by decide) (by decide) rfl ?_
  refine g_goto (tgt := 129) e_P_init_150 rfl ?_
  refine g_iload_n 0 e_P_init_129 rfl rfl ?_
  refine g_iconst (4 : Int32) e_P_init_130 (by decide) ?_
  refine g_icmp_ge (tgt := 153) e_P_init_131 rfl (fun h0 => absurd h0 (by decide)) (fun _ => ?_)
  refine g_aload_n 1 e_P_init_134 rfl rfl ?_
  refine g_getR (j := 121) e_P_init_135 sy_0 (by omega) (⟨_, rfl, by decide, zT_2 (i := 67) rfl rfl⟩) rfl ((hole_out (by omega)).2.2.trans (h.at (by omega) (by omega) (v_P_10)).2.2) ?_
  refine g_iload_n 0 e_P_init_138 rfl rfl ?_
  refine k_newIN (d' := 1) (n' := 154) (r := (RX5, TX5, 3)) (c_S (by unfold isSheet; decide) (h.hole (b' := 152) (e' := 154) (by omega) (by omega) (fun i k q => by omega))) (ho_S (152)) (nz_S (by unfold isSheet; decide) (h.hole (b' := 152) (e' := 154) (by omega) (by omega) (fun i k q => by omega)) (Nat.le_refl _) (by omega) sy_152) sy_152 rfl e_P_init_139 e_P_init_142 e_P_init_143 (zT_2 (i := 26) rfl rfl) ni_S nt_S zm_S_init (⟨"PutOn", zL_2 (i := 30) rfl, zT_2 (i := 31) rfl rfl, rfl, rfl⟩) (Nat.le_of_ble_eq_true rfl) (by omega) (by omega) (by omega) (by omega) ?_
  refine k_ast2 (D' := (fun i k => i < 0)) (r := (RX5, TX5, 3)) e_P_init_146 sy_121 (by omega) (by decide) (by omega) sy_152 rfl ⟨by decide, by decide⟩ (by decide) (h.at (by omega) (by omega) (el_P_121_3)) (by omega) (fun i j => by omega) ?_
  refine g_iinc (v := (4 : Int32)) (L' := [(1, .int 4), (0, .ref (0))]) 0 e_P_init_147 rfl (by decide) (by decide) rfl ?_
  refine g_goto (tgt := 129) e_P_init_150 rfl ?_
  refine g_iload_n 0 e_P_init_129 rfl rfl ?_
  refine g_iconst (4 : Int32) e_P_init_130 (by decide) ?_
  refine g_icmp_ge (tgt := 153) e_P_init_131 rfl (fun _ => ?_) (fun h0 => absurd h0 (by decide))
  have hh : hole (fun i k => i < 0) W = W := hole_no (fun i k q => by omega)
  rw [hh]
  have ht : isText 122 := by unfold isText; decide
  have r4 : W.2.2 0 4 = some 106 := (h.at (by omega) (by omega) v_P_4).2.2
  have r0 : W.2.2 106 0 = some 122 := (h.at (by omega) (by omega) el_P_106_0).2.2
  have a0 : W.2.2 122 0 = some 123 := (h.at (by omega) (by omega) (v_T_0 ht)).2.2
  have a1 : W.2.2 122 1 = some 124 := (h.at (by omega) (by omega) (v_T_1 ht)).2.2
  have s0 : W.1 122 3 = 0 := (h.at (by omega) (by omega) (z_T ht 3 (by decide))).1
  refine g_aload_n 1 e_P_init_153 rfl rfl ?_
  refine g_getR (j := 106) e_P_init_154 sy_0 (by omega) (⟨_, rfl, by decide, zT_2 (i := 61) rfl rfl⟩) rfl r4 ?_
  refine g_iconst (0 : Int32) e_P_init_157 (by decide) ?_
  refine g_aald (j := 122) e_P_init_158 sy_106 (by omega) (by decide) rfl ⟨by decide, by decide⟩ r0 ?_
  refine g_sipush (150 : Int32) e_P_init_159 (by decide) ?_
  refine g_callV (d' := 0) (r := (RX7, TX7, 5)) (As := [.int (150)]) (rest := []) e_P_init_162 zm_T_emit (⟨zT_2 (i := 49) rfl rfl, zT_2 (i := 50) rfl rfl, zT_2 (i := 51) rfl rfl⟩) (isText_o ht) (by omega) rfl rfl rfl rfl (Nat.le_of_ble_eq_true rfl) (by omega) (by omega) (by omega) (call_mono (c_emit ht (by omega) a0 (s := 0) (s' := 1) (kx := 0) s0 ⟨by decide, by decide⟩ (by decide) (by decide)) ?_)
  rintro _ _ ⟨rfl, rfl⟩
  refine g_aload_n 1 e_P_init_165 rfl rfl ?_
  refine g_getR (j := 106) e_P_init_166 sy_0 (by omega) (⟨_, rfl, by decide, zT_2 (i := 61) rfl rfl⟩) rfl r4 ?_
  refine g_iconst (0 : Int32) e_P_init_169 (by decide) ?_
  refine g_aald (j := 122) e_P_init_170 sy_106 (by omega) (by decide) rfl ⟨by decide, by decide⟩ r0 ?_
  refine g_iconst (0 : Int32) e_P_init_171 (by decide) ?_
  refine g_callV (d' := 0) (r := (RX7, TX7, 5)) (As := [.int (0)]) (rest := []) e_P_init_172 zm_T_close (⟨zT_2 (i := 53) rfl rfl, zT_2 (i := 54) rfl rfl, zT_2 (i := 55) rfl rfl⟩) (isText_o ht) (by omega) rfl rfl rfl rfl (Nat.le_of_ble_eq_true rfl) (by omega) (by omega) (by omega) (call_mono (c_close ht (by omega) a1 (s := 1) (kx := 0) rfl ⟨by decide, by decide⟩ (by decide)) ?_)
  rintro _ _ ⟨rfl, rfl⟩
  refine g_aload_n 1 e_P_init_175 rfl rfl ?_
  refine g_getR (j := 106) e_P_init_176 sy_0 (by omega) (⟨_, rfl, by decide, zT_2 (i := 61) rfl rfl⟩) rfl r4 ?_
  refine g_iconst (0 : Int32) e_P_init_179 (by decide) ?_
  refine g_aald (j := 122) e_P_init_180 sy_106 (by omega) (by decide) rfl ⟨by decide, by decide⟩ r0 ?_
  refine g_sipush (160 : Int32) e_P_init_181 (by decide) ?_
  refine g_callV (d' := 0) (r := (RX7, TX7, 5)) (As := [.int (160)]) (rest := []) e_P_init_184 zm_T_emit (⟨zT_2 (i := 49) rfl rfl, zT_2 (i := 50) rfl rfl, zT_2 (i := 51) rfl rfl⟩) (isText_o ht) (by omega) rfl rfl rfl rfl (Nat.le_of_ble_eq_true rfl) (by omega) (by omega) (by omega) (call_mono (c_emit ht (by omega) a0 (s := 1) (s' := 2) (kx := 1) rfl ⟨by decide, by decide⟩ (by decide) (by decide)) ?_)
  rintro _ _ ⟨rfl, rfl⟩
  refine g_aload_n 1 e_P_init_187 rfl rfl ?_
  refine g_getR (j := 106) e_P_init_188 sy_0 (by omega) (⟨_, rfl, by decide, zT_2 (i := 61) rfl rfl⟩) rfl r4 ?_
  refine g_iconst (0 : Int32) e_P_init_191 (by decide) ?_
  refine g_aald (j := 122) e_P_init_192 sy_106 (by omega) (by decide) rfl ⟨by decide, by decide⟩ r0 ?_
  refine g_iconst (1 : Int32) e_P_init_193 (by decide) ?_
  refine g_callV (d' := 0) (r := (RX7, TX7, 5)) (As := [.int (1)]) (rest := []) e_P_init_194 zm_T_close (⟨zT_2 (i := 53) rfl rfl, zT_2 (i := 54) rfl rfl, zT_2 (i := 55) rfl rfl⟩) (isText_o ht) (by omega) rfl rfl rfl rfl (Nat.le_of_ble_eq_true rfl) (by omega) (by omega) (by omega) (call_mono (c_close ht (by omega) a1 (s := 2) (kx := 1) rfl ⟨by decide, by decide⟩ (by decide)) ?_)
  rintro _ _ ⟨rfl, rfl⟩
  refine g_aload_n 1 e_P_init_197 rfl rfl ?_
  refine g_getR (j := 106) e_P_init_198 sy_0 (by omega) (⟨_, rfl, by decide, zT_2 (i := 61) rfl rfl⟩) rfl r4 ?_
  refine g_iconst (0 : Int32) e_P_init_201 (by decide) ?_
  refine g_aald (j := 122) e_P_init_202 sy_106 (by omega) (by decide) rfl ⟨by decide, by decide⟩ r0 ?_
  refine g_bipush (101 : Int32) e_P_init_203 (by decide) ?_
  refine g_callV (d' := 0) (r := (RX7, TX7, 5)) (As := [.int (101)]) (rest := []) e_P_init_205 zm_T_emit (⟨zT_2 (i := 49) rfl rfl, zT_2 (i := 50) rfl rfl, zT_2 (i := 51) rfl rfl⟩) (isText_o ht) (by omega) rfl rfl rfl rfl (Nat.le_of_ble_eq_true rfl) (by omega) (by omega) (by omega) (call_mono (c_emit ht (by omega) a0 (s := 2) (s' := 3) (kx := 2) rfl ⟨by decide, by decide⟩ (by decide) (by decide)) ?_)
  rintro _ _ ⟨rfl, rfl⟩
  refine g_aload_n 1 e_P_init_208 rfl rfl ?_
  refine g_getR (j := 106) e_P_init_209 sy_0 (by omega) (⟨_, rfl, by decide, zT_2 (i := 61) rfl rfl⟩) rfl r4 ?_
  refine g_iconst (0 : Int32) e_P_init_212 (by decide) ?_
  refine g_aald (j := 122) e_P_init_213 sy_106 (by omega) (by decide) rfl ⟨by decide, by decide⟩ r0 ?_
  refine g_iconst (2 : Int32) e_P_init_214 (by decide) ?_
  refine g_callV (d' := 0) (r := (RX7, TX7, 5)) (As := [.int (2)]) (rest := []) e_P_init_215 zm_T_close (⟨zT_2 (i := 53) rfl rfl, zT_2 (i := 54) rfl rfl, zT_2 (i := 55) rfl rfl⟩) (isText_o ht) (by omega) rfl rfl rfl rfl (Nat.le_of_ble_eq_true rfl) (by omega) (by omega) (by omega) (call_mono (c_close ht (by omega) a1 (s := 3) (kx := 2) rfl ⟨by decide, by decide⟩ (by decide)) ?_)
  rintro _ _ ⟨rfl, rfl⟩
  exact g_ret none ⟨rfl, e_P_init_218.1⟩ rfl rfl ⟨rfl, rfl⟩
theorem c_M {W : Mm} (h : TG 154 177 W) : Call 1 M_M_init 155 177 [.ref 154] (hole (H_M 154) W) (fun r w => r = none ∧ w = SMo W) := by
  refine call_of_go (by omega) (by decide +kernel) (Nat.le_of_ble_eq_true rfl) ?_
  show Go _ _ _ _ _ 0 [(0, .ref 154)] [] (hole (fun i k => i = 154 ∧ ((1 ≤ k ∧ k < 3) ∨ k = 5 ∨ (7 ≤ k ∧ k < 11) ∨ (12 ≤ k ∧ k < 15) ∨ (31 ≤ k ∧ k < 37) ∨ (40 ≤ k ∧ k < 43) ∨ (45 ≤ k ∧ k < 49))) W) _
  refine g_aload_n 0 e_M_init_0 rfl rfl ?_
  refine g_objI e_M_init_1 (zT_4 (i := 202) rfl rfl) oi_2 oi_3 (by decide) (by omega) ?_
  refine g_aload_n 0 e_M_init_4 rfl rfl ?_
  refine g_sipush (960 : Int32) e_M_init_5 (by decide) ?_
  refine k_newA (sz := 960) e_M_init_8 sy_155 (fun k => dz_hole (h.arr (by omega) (by omega) sy_155 (by decide) k)) rfl (by decide) na_int (by decide) (by decide) (by omega) (by omega) ?_
  refine k_putF (D' := (fun i k => i = 154 ∧ (k = 2 ∨ k = 5 ∨ (7 ≤ k ∧ k < 11) ∨ (12 ≤ k ∧ k < 15) ∨ (31 ≤ k ∧ k < 37) ∨ (40 ≤ k ∧ k < 43) ∨ (45 ≤ k ∧ k < 49)))) e_M_init_10 sy_154 (by omega) (⟨_, rfl, by decide, zT_4 (i := 207) rfl rfl, rfl, rfl⟩) rfl rfl (h.at (by omega) (by omega) (v_M_1)) (by omega) (fun i j => by omega) ?_
  refine g_aload_n 0 e_M_init_13 rfl rfl ?_
  refine g_bipush (6 : Int32) e_M_init_14 (by decide) ?_
  refine k_newA (sz := 6) e_M_init_16 sy_156 (fun k => dz_hole (h.arr (by omega) (by omega) sy_156 (by decide) k)) rfl (by decide) na_int (by decide) (by decide) (by omega) (by omega) ?_
  refine k_putF (D' := (fun i k => i = 154 ∧ (k = 5 ∨ (7 ≤ k ∧ k < 11) ∨ (12 ≤ k ∧ k < 15) ∨ (31 ≤ k ∧ k < 37) ∨ (40 ≤ k ∧ k < 43) ∨ (45 ≤ k ∧ k < 49)))) e_M_init_18 sy_154 (by omega) (⟨_, rfl, by decide, zT_4 (i := 208) rfl rfl, rfl, rfl⟩) rfl rfl (h.at (by omega) (by omega) (v_M_2)) (by omega) (fun i j => by omega) ?_
  refine g_aload_n 0 e_M_init_21 rfl rfl ?_
  refine g_sipush (160 : Int32) e_M_init_22 (by decide) ?_
  refine k_newA (sz := 160) e_M_init_25 sy_157 (fun k => dz_hole (h.arr (by omega) (by omega) sy_157 (by decide) k)) rfl (by decide) na_int (by decide) (by decide) (by omega) (by omega) ?_
  refine k_putF (D' := (fun i k => i = 154 ∧ ((7 ≤ k ∧ k < 11) ∨ (12 ≤ k ∧ k < 15) ∨ (31 ≤ k ∧ k < 37) ∨ (40 ≤ k ∧ k < 43) ∨ (45 ≤ k ∧ k < 49)))) e_M_init_27 sy_154 (by omega) (⟨_, rfl, by decide, zT_4 (i := 211) rfl rfl, rfl, rfl⟩) rfl rfl (h.at (by omega) (by omega) (v_M_5)) (by omega) (fun i j => by omega) ?_
  refine g_aload_n 0 e_M_init_30 rfl rfl ?_
  refine g_bipush (6 : Int32) e_M_init_31 (by decide) ?_
  refine k_newA (sz := 6) e_M_init_33 sy_158 (fun k => dz_hole (h.arr (by omega) (by omega) sy_158 (by decide) k)) rfl (by decide) na_int (by decide) (by decide) (by omega) (by omega) ?_
  refine k_putF (D' := (fun i k => i = 154 ∧ ((8 ≤ k ∧ k < 11) ∨ (12 ≤ k ∧ k < 15) ∨ (31 ≤ k ∧ k < 37) ∨ (40 ≤ k ∧ k < 43) ∨ (45 ≤ k ∧ k < 49)))) e_M_init_35 sy_154 (by omega) (⟨_, rfl, by decide, zT_4 (i := 213) rfl rfl, rfl, rfl⟩) rfl rfl (h.at (by omega) (by omega) (v_M_7)) (by omega) (fun i j => by omega) ?_
  refine g_aload_n 0 e_M_init_38 rfl rfl ?_
  refine g_bipush (6 : Int32) e_M_init_39 (by decide) ?_
  refine k_newA (sz := 6) e_M_init_41 sy_159 (fun k => dz_hole (h.arr (by omega) (by omega) sy_159 (by decide) k)) rfl (by decide) na_int (by decide) (by decide) (by omega) (by omega) ?_
  refine k_putF (D' := (fun i k => i = 154 ∧ ((9 ≤ k ∧ k < 11) ∨ (12 ≤ k ∧ k < 15) ∨ (31 ≤ k ∧ k < 37) ∨ (40 ≤ k ∧ k < 43) ∨ (45 ≤ k ∧ k < 49)))) e_M_init_43 sy_154 (by omega) (⟨_, rfl, by decide, zT_4 (i := 214) rfl rfl, rfl, rfl⟩) rfl rfl (h.at (by omega) (by omega) (v_M_8)) (by omega) (fun i j => by omega) ?_
  refine g_aload_n 0 e_M_init_46 rfl rfl ?_
  refine g_bipush (6 : Int32) e_M_init_47 (by decide) ?_
  refine k_newA (sz := 6) e_M_init_49 sy_160 (fun k => dz_hole (h.arr (by omega) (by omega) sy_160 (by decide) k)) rfl (by decide) na_int (by decide) (by decide) (by omega) (by omega) ?_
  refine k_putF (D' := (fun i k => i = 154 ∧ (k = 10 ∨ (12 ≤ k ∧ k < 15) ∨ (31 ≤ k ∧ k < 37) ∨ (40 ≤ k ∧ k < 43) ∨ (45 ≤ k ∧ k < 49)))) e_M_init_51 sy_154 (by omega) (⟨_, rfl, by decide, zT_4 (i := 215) rfl rfl, rfl, rfl⟩) rfl rfl (h.at (by omega) (by omega) (v_M_9)) (by omega) (fun i j => by omega) ?_
  refine g_aload_n 0 e_M_init_54 rfl rfl ?_
  refine g_bipush (6 : Int32) e_M_init_55 (by decide) ?_
  refine k_newA (sz := 6) e_M_init_57 sy_161 (fun k => dz_hole (h.arr (by omega) (by omega) sy_161 (by decide) k)) rfl (by decide) na_int (by decide) (by decide) (by omega) (by omega) ?_
  refine k_putF (D' := (fun i k => i = 154 ∧ ((12 ≤ k ∧ k < 15) ∨ (31 ≤ k ∧ k < 37) ∨ (40 ≤ k ∧ k < 43) ∨ (45 ≤ k ∧ k < 49)))) e_M_init_59 sy_154 (by omega) (⟨_, rfl, by decide, zT_4 (i := 216) rfl rfl, rfl, rfl⟩) rfl rfl (h.at (by omega) (by omega) (v_M_10)) (by omega) (fun i j => by omega) ?_
  refine g_aload_n 0 e_M_init_62 rfl rfl ?_
  refine g_iconst (5 : Int32) e_M_init_63 (by decide) ?_
  refine k_newA (sz := 5) e_M_init_64 sy_162 (fun k => dz_hole (h.arr (by omega) (by omega) sy_162 (by decide) k)) rfl (by decide) na_int (by decide) (by decide) (by omega) (by omega) ?_
  refine k_putF (D' := (fun i k => i = 154 ∧ ((13 ≤ k ∧ k < 15) ∨ (31 ≤ k ∧ k < 37) ∨ (40 ≤ k ∧ k < 43) ∨ (45 ≤ k ∧ k < 49)))) e_M_init_66 sy_154 (by omega) (⟨_, rfl, by decide, zT_4 (i := 218) rfl rfl, rfl, rfl⟩) rfl rfl (h.at (by omega) (by omega) (v_M_12)) (by omega) (fun i j => by omega) ?_
  refine g_aload_n 0 e_M_init_69 rfl rfl ?_
  refine g_iconst (5 : Int32) e_M_init_70 (by decide) ?_
  refine k_newA (sz := 5) e_M_init_71 sy_163 (fun k => dz_hole (h.arr (by omega) (by omega) sy_163 (by decide) k)) rfl (by decide) na_int (by decide) (by decide) (by omega) (by omega) ?_
  refine k_putF (D' := (fun i k => i = 154 ∧ (k = 14 ∨ (31 ≤ k ∧ k < 37) ∨ (40 ≤ k ∧ k < 43) ∨ (45 ≤ k ∧ k < 49)))) e_M_init_73 sy_154 (by omega) (⟨_, rfl, by decide, zT_4 (i := 219) rfl rfl, rfl, rfl⟩) rfl rfl (h.at (by omega) (by omega) (v_M_13)) (by omega) (fun i j => by omega) ?_
  refine g_aload_n 0 e_M_init_76 rfl rfl ?_
  refine g_iconst (5 : Int32) e_M_init_77 (by decide) ?_
  refine k_newA (sz := 5) e_M_init_78 sy_164 (fun k => dz_hole (h.arr (by omega) (by omega) sy_164 (by decide) k)) rfl (by decide) na_int (by decide) (by decide) (by omega) (by omega) ?_
  refine k_putF (D' := (fun i k => i = 154 ∧ ((31 ≤ k ∧ k < 37) ∨ (40 ≤ k ∧ k < 43) ∨ (45 ≤ k ∧ k < 49)))) e_M_init_80 sy_154 (by omega) (⟨_, rfl, by decide, zT_4 (i := 220) rfl rfl, rfl, rfl⟩) rfl rfl (h.at (by omega) (by omega) (v_M_14)) (by omega) (fun i j => by omega) ?_
  refine g_aload_n 0 e_M_init_83 rfl rfl ?_
  refine g_sipush (192 : Int32) e_M_init_84 (by decide) ?_
  refine k_newA (sz := 192) e_M_init_87 sy_165 (fun k => dz_hole (h.arr (by omega) (by omega) sy_165 (by decide) k)) rfl (by decide) na_int (by decide) (by decide) (by omega) (by omega) ?_
  refine k_putF (D' := (fun i k => i = 154 ∧ ((32 ≤ k ∧ k < 37) ∨ (40 ≤ k ∧ k < 43) ∨ (45 ≤ k ∧ k < 49)))) e_M_init_89 sy_154 (by omega) (⟨_, rfl, by decide, zT_4 (i := 237) rfl rfl, rfl, rfl⟩) rfl rfl (h.at (by omega) (by omega) (v_M_31)) (by omega) (fun i j => by omega) ?_
  refine g_aload_n 0 e_M_init_92 rfl rfl ?_
  refine g_sipush (192 : Int32) e_M_init_93 (by decide) ?_
  refine k_newA (sz := 192) e_M_init_96 sy_166 (fun k => dz_hole (h.arr (by omega) (by omega) sy_166 (by decide) k)) rfl (by decide) na_int (by decide) (by decide) (by omega) (by omega) ?_
  refine k_putF (D' := (fun i k => i = 154 ∧ ((33 ≤ k ∧ k < 37) ∨ (40 ≤ k ∧ k < 43) ∨ (45 ≤ k ∧ k < 49)))) e_M_init_98 sy_154 (by omega) (⟨_, rfl, by decide, zT_4 (i := 238) rfl rfl, rfl, rfl⟩) rfl rfl (h.at (by omega) (by omega) (v_M_32)) (by omega) (fun i j => by omega) ?_
  refine g_aload_n 0 e_M_init_101 rfl rfl ?_
  refine g_bipush (32 : Int32) e_M_init_102 (by decide) ?_
  refine k_newA (sz := 32) e_M_init_104 sy_167 (fun k => dz_hole (h.arr (by omega) (by omega) sy_167 (by decide) k)) rfl (by decide) na_long (by decide) (by decide) (by omega) (by omega) ?_
  refine k_putF (D' := (fun i k => i = 154 ∧ ((34 ≤ k ∧ k < 37) ∨ (40 ≤ k ∧ k < 43) ∨ (45 ≤ k ∧ k < 49)))) e_M_init_106 sy_154 (by omega) (⟨_, rfl, by decide, zT_4 (i := 239) rfl rfl, rfl, rfl⟩) rfl rfl (h.at (by omega) (by omega) (v_M_33)) (by omega) (fun i j => by omega) ?_
  refine g_aload_n 0 e_M_init_109 rfl rfl ?_
  refine g_bipush (32 : Int32) e_M_init_110 (by decide) ?_
  refine k_newA (sz := 32) e_M_init_112 sy_168 (fun k => dz_hole (h.arr (by omega) (by omega) sy_168 (by decide) k)) rfl (by decide) na_int (by decide) (by decide) (by omega) (by omega) ?_
  refine k_putF (D' := (fun i k => i = 154 ∧ ((35 ≤ k ∧ k < 37) ∨ (40 ≤ k ∧ k < 43) ∨ (45 ≤ k ∧ k < 49)))) e_M_init_114 sy_154 (by omega) (⟨_, rfl, by decide, zT_5 (i := 0) rfl rfl, rfl, rfl⟩) rfl rfl (h.at (by omega) (by omega) (v_M_34)) (by omega) (fun i j => by omega) ?_
  refine g_aload_n 0 e_M_init_117 rfl rfl ?_
  refine g_bipush (32 : Int32) e_M_init_118 (by decide) ?_
  refine k_newA (sz := 32) e_M_init_120 sy_169 (fun k => dz_hole (h.arr (by omega) (by omega) sy_169 (by decide) k)) rfl (by decide) na_int (by decide) (by decide) (by omega) (by omega) ?_
  refine k_putF (D' := (fun i k => i = 154 ∧ (k = 36 ∨ (40 ≤ k ∧ k < 43) ∨ (45 ≤ k ∧ k < 49)))) e_M_init_122 sy_154 (by omega) (⟨_, rfl, by decide, zT_5 (i := 1) rfl rfl, rfl, rfl⟩) rfl rfl (h.at (by omega) (by omega) (v_M_35)) (by omega) (fun i j => by omega) ?_
  refine g_aload_n 0 e_M_init_125 rfl rfl ?_
  refine g_bipush (32 : Int32) e_M_init_126 (by decide) ?_
  refine k_newA (sz := 32) e_M_init_128 sy_170 (fun k => dz_hole (h.arr (by omega) (by omega) sy_170 (by decide) k)) rfl (by decide) na_int (by decide) (by decide) (by omega) (by omega) ?_
  refine k_putF (D' := (fun i k => i = 154 ∧ ((40 ≤ k ∧ k < 43) ∨ (45 ≤ k ∧ k < 49)))) e_M_init_130 sy_154 (by omega) (⟨_, rfl, by decide, zT_5 (i := 2) rfl rfl, rfl, rfl⟩) rfl rfl (h.at (by omega) (by omega) (v_M_36)) (by omega) (fun i j => by omega) ?_
  refine g_aload_n 0 e_M_init_133 rfl rfl ?_
  refine g_bipush (24 : Int32) e_M_init_134 (by decide) ?_
  refine k_newA (sz := 24) e_M_init_136 sy_171 (fun k => dz_hole (h.arr (by omega) (by omega) sy_171 (by decide) k)) rfl (by decide) na_int (by decide) (by decide) (by omega) (by omega) ?_
  refine k_putF (D' := (fun i k => i = 154 ∧ ((41 ≤ k ∧ k < 43) ∨ (45 ≤ k ∧ k < 49)))) e_M_init_138 sy_154 (by omega) (⟨_, rfl, by decide, zT_5 (i := 6) rfl rfl, rfl, rfl⟩) rfl rfl (h.at (by omega) (by omega) (v_M_40)) (by omega) (fun i j => by omega) ?_
  refine g_aload_n 0 e_M_init_141 rfl rfl ?_
  refine g_bipush (10 : Int32) e_M_init_142 (by decide) ?_
  refine k_newA (sz := 10) e_M_init_144 sy_172 (fun k => dz_hole (h.arr (by omega) (by omega) sy_172 (by decide) k)) rfl (by decide) na_int (by decide) (by decide) (by omega) (by omega) ?_
  refine k_putF (D' := (fun i k => i = 154 ∧ (k = 42 ∨ (45 ≤ k ∧ k < 49)))) e_M_init_146 sy_154 (by omega) (⟨_, rfl, by decide, zT_5 (i := 7) rfl rfl, rfl, rfl⟩) rfl rfl (h.at (by omega) (by omega) (v_M_41)) (by omega) (fun i j => by omega) ?_
  refine g_aload_n 0 e_M_init_149 rfl rfl ?_
  refine g_iconst (-1 : Int32) e_M_init_150 (by decide) ?_
  refine k_putI (D' := (fun i k => i = 154 ∧ (45 ≤ k ∧ k < 49))) e_M_init_151 sy_154 (by omega) (⟨_, rfl, by decide, zT_5 (i := 8) rfl rfl, rfl⟩) rfl (by decide) (by decide) (h.at (by omega) (by omega) (v_M_42)) (by omega) (fun i j => by omega) ?_
  refine g_aload_n 0 e_M_init_154 rfl rfl ?_
  refine g_iconst (4 : Int32) e_M_init_155 (by decide) ?_
  refine k_newA (sz := 4) e_M_init_156 sy_173 (fun k => dz_hole (h.arr (by omega) (by omega) sy_173 (by decide) k)) rfl (by decide) na_boolean (by decide) (by decide) (by omega) (by omega) ?_
  refine k_putF (D' := (fun i k => i = 154 ∧ (46 ≤ k ∧ k < 49))) e_M_init_158 sy_154 (by omega) (⟨_, rfl, by decide, zT_5 (i := 11) rfl rfl, rfl, rfl⟩) rfl rfl (h.at (by omega) (by omega) (v_M_45)) (by omega) (fun i j => by omega) ?_
  refine g_aload_n 0 e_M_init_161 rfl rfl ?_
  refine g_iconst (4 : Int32) e_M_init_162 (by decide) ?_
  refine k_newA (sz := 4) e_M_init_163 sy_174 (fun k => dz_hole (h.arr (by omega) (by omega) sy_174 (by decide) k)) rfl (by decide) na_int (by decide) (by decide) (by omega) (by omega) ?_
  refine k_putF (D' := (fun i k => i = 154 ∧ (47 ≤ k ∧ k < 49))) e_M_init_165 sy_154 (by omega) (⟨_, rfl, by decide, zT_5 (i := 12) rfl rfl, rfl, rfl⟩) rfl rfl (h.at (by omega) (by omega) (v_M_46)) (by omega) (fun i j => by omega) ?_
  refine g_aload_n 0 e_M_init_168 rfl rfl ?_
  refine g_iconst (4 : Int32) e_M_init_169 (by decide) ?_
  refine k_newA (sz := 4) e_M_init_170 sy_175 (fun k => dz_hole (h.arr (by omega) (by omega) sy_175 (by decide) k)) rfl (by decide) na_int (by decide) (by decide) (by omega) (by omega) ?_
  refine k_putF (D' := (fun i k => i = 154 ∧ k = 48)) e_M_init_172 sy_154 (by omega) (⟨_, rfl, by decide, zT_5 (i := 13) rfl rfl, rfl, rfl⟩) rfl rfl (h.at (by omega) (by omega) (v_M_47)) (by omega) (fun i j => by omega) ?_
  refine g_aload_n 0 e_M_init_175 rfl rfl ?_
  refine g_sipush (160 : Int32) e_M_init_176 (by decide) ?_
  refine k_newA (sz := 160) e_M_init_179 sy_176 (fun k => dz_hole (h.arr (by omega) (by omega) sy_176 (by decide) k)) rfl (by decide) na_int (by decide) (by decide) (by omega) (by omega) ?_
  refine k_putF (D' := (fun i k => i < 0)) e_M_init_181 sy_154 (by omega) (⟨_, rfl, by decide, zT_5 (i := 14) rfl rfl, rfl, rfl⟩) rfl rfl (h.at (by omega) (by omega) (v_M_48)) (by omega) (fun i j => by omega) ?_
  have hh : hole (fun i k => i < 0) W = W := hole_no (fun i k q => by omega)
  rw [hh]
  have a0 : W.2.2 154 1 = some 155 := (h.at (by omega) (by omega) v_M_1).2.2
  have a1 : W.2.2 154 2 = some 156 := (h.at (by omega) (by omega) v_M_2).2.2
  refine g_aload_n 0 e_M_init_184 rfl rfl ?_
  refine g_iconst (0 : Int32) e_M_init_185 (by decide) ?_
  refine g_bipush (99 : Int32) e_M_init_186 (by decide) ?_
  refine g_bipush (97 : Int32) e_M_init_188 (by decide) ?_
  refine g_bipush (109 : Int32) e_M_init_190 (by decide) ?_
  refine g_bipush (101 : Int32) e_M_init_192 (by decide) ?_
  refine g_bipush (32 : Int32) e_M_init_194 (by decide) ?_
  refine g_bipush (53 : Int32) e_M_init_196 (by decide) ?_
  refine g_bipush (48 : Int32) e_M_init_198 (by decide) ?_
  refine g_bipush (32 : Int32) e_M_init_200 (by decide) ?_
  refine g_callV (d' := 0) (r := (RX10, TX10, 49)) (As := [.int 0, .int 99, .int 97, .int 109, .int 101, .int 32, .int 53, .int 48, .int 32]) (rest := []) e_M_init_202 zm_M_spell (⟨zT_4 (i := 203) rfl rfl, zT_4 (i := 205) rfl rfl, zTp_3 (i := 2) rfl rfl⟩) sy_154 (by omega) rfl rfl rfl rfl (Nat.le_of_ble_eq_true rfl) (by omega) (by omega) (by omega) (call_mono (c_spell (k := 0) (by omega) (a0) ⟨⟨by decide, by decide⟩, by decide⟩ ⟨⟨by decide, by decide⟩, by decide⟩ ⟨⟨by decide, by decide⟩, by decide⟩ ⟨⟨by decide, by decide⟩, by decide⟩ ⟨⟨by decide, by decide⟩, by decide⟩ ⟨⟨by decide, by decide⟩, by decide⟩ ⟨⟨by decide, by decide⟩, by decide⟩ ⟨⟨by decide, by decide⟩, by decide⟩ ) ?_)
  rintro _ _ ⟨rfl, rfl⟩
  refine g_aload_n 0 e_M_init_205 rfl rfl ?_
  refine g_bipush (8 : Int32) e_M_init_206 (by decide) ?_
  refine g_bipush (59 : Int32) e_M_init_208 (by decide) ?_
  refine g_bipush (32 : Int32) e_M_init_210 (by decide) ?_
  refine g_bipush (97 : Int32) e_M_init_212 (by decide) ?_
  refine g_bipush (100 : Int32) e_M_init_214 (by decide) ?_
  refine g_bipush (100 : Int32) e_M_init_216 (by decide) ?_
  refine g_bipush (115 : Int32) e_M_init_218 (by decide) ?_
  refine g_bipush (32 : Int32) e_M_init_220 (by decide) ?_
  refine g_bipush (54 : Int32) e_M_init_222 (by decide) ?_
  refine g_callV (d' := 0) (r := (RX10, TX10, 49)) (As := [.int 8, .int 59, .int 32, .int 97, .int 100, .int 100, .int 115, .int 32, .int 54]) (rest := []) e_M_init_224 zm_M_spell (⟨zT_4 (i := 203) rfl rfl, zT_4 (i := 205) rfl rfl, zTp_3 (i := 2) rfl rfl⟩) sy_154 (by omega) rfl rfl rfl rfl (Nat.le_of_ble_eq_true rfl) (by omega) (by omega) (by omega) (call_mono (c_spell (k := 8) (by omega) (by rw [sp8_r]; exact a0) ⟨⟨by decide, by decide⟩, by decide⟩ ⟨⟨by decide, by decide⟩, by decide⟩ ⟨⟨by decide, by decide⟩, by decide⟩ ⟨⟨by decide, by decide⟩, by decide⟩ ⟨⟨by decide, by decide⟩, by decide⟩ ⟨⟨by decide, by decide⟩, by decide⟩ ⟨⟨by decide, by decide⟩, by decide⟩ ⟨⟨by decide, by decide⟩, by decide⟩ ) ?_)
  rintro _ _ ⟨rfl, rfl⟩
  refine g_aload_n 0 e_M_init_227 rfl rfl ?_
  refine g_bipush (16 : Int32) e_M_init_228 (by decide) ?_
  refine g_bipush (48 : Int32) e_M_init_230 (by decide) ?_
  refine g_bipush (32 : Int32) e_M_init_232 (by decide) ?_
  refine g_bipush (59 : Int32) e_M_init_234 (by decide) ?_
  refine g_bipush (32 : Int32) e_M_init_236 (by decide) ?_
  refine g_bipush (109 : Int32) e_M_init_238 (by decide) ?_
  refine g_bipush (105 : Int32) e_M_init_240 (by decide) ?_
  refine g_bipush (110 : Int32) e_M_init_242 (by decide) ?_
  refine g_bipush (100 : Int32) e_M_init_244 (by decide) ?_
  refine g_callV (d' := 0) (r := (RX10, TX10, 49)) (As := [.int 16, .int 48, .int 32, .int 59, .int 32, .int 109, .int 105, .int 110, .int 100]) (rest := []) e_M_init_246 zm_M_spell (⟨zT_4 (i := 203) rfl rfl, zT_4 (i := 205) rfl rfl, zTp_3 (i := 2) rfl rfl⟩) sy_154 (by omega) rfl rfl rfl rfl (Nat.le_of_ble_eq_true rfl) (by omega) (by omega) (by omega) (call_mono (c_spell (k := 16) (by omega) (by rw [sp8_r, sp8_r]; exact a0) ⟨⟨by decide, by decide⟩, by decide⟩ ⟨⟨by decide, by decide⟩, by decide⟩ ⟨⟨by decide, by decide⟩, by decide⟩ ⟨⟨by decide, by decide⟩, by decide⟩ ⟨⟨by decide, by decide⟩, by decide⟩ ⟨⟨by decide, by decide⟩, by decide⟩ ⟨⟨by decide, by decide⟩, by decide⟩ ⟨⟨by decide, by decide⟩, by decide⟩ ) ?_)
  rintro _ _ ⟨rfl, rfl⟩
  refine g_aload_n 0 e_M_init_249 rfl rfl ?_
  refine g_bipush (24 : Int32) e_M_init_250 (by decide) ?_
  refine g_bipush (115 : Int32) e_M_init_252 (by decide) ?_
  refine g_bipush (32 : Int32) e_M_init_254 (by decide) ?_
  refine g_bipush (49 : Int32) e_M_init_256 (by decide) ?_
  refine g_bipush (32 : Int32) e_M_init_258 (by decide) ?_
  refine g_bipush (59 : Int32) e_M_init_260 (by decide) ?_
  refine g_bipush (32 : Int32) e_M_init_262 (by decide) ?_
  refine g_bipush (32 : Int32) e_M_init_264 (by decide) ?_
  refine g_bipush (32 : Int32) e_M_init_266 (by decide) ?_
  refine g_callV (d' := 0) (r := (RX10, TX10, 49)) (As := [.int 24, .int 115, .int 32, .int 49, .int 32, .int 59, .int 32, .int 32, .int 32]) (rest := []) e_M_init_268 zm_M_spell (⟨zT_4 (i := 203) rfl rfl, zT_4 (i := 205) rfl rfl, zTp_3 (i := 2) rfl rfl⟩) sy_154 (by omega) rfl rfl rfl rfl (Nat.le_of_ble_eq_true rfl) (by omega) (by omega) (by omega) (call_mono (c_spell (k := 24) (by omega) (by rw [sp8_r, sp8_r, sp8_r]; exact a0) ⟨⟨by decide, by decide⟩, by decide⟩ ⟨⟨by decide, by decide⟩, by decide⟩ ⟨⟨by decide, by decide⟩, by decide⟩ ⟨⟨by decide, by decide⟩, by decide⟩ ⟨⟨by decide, by decide⟩, by decide⟩ ⟨⟨by decide, by decide⟩, by decide⟩ ⟨⟨by decide, by decide⟩, by decide⟩ ⟨⟨by decide, by decide⟩, by decide⟩ ) ?_)
  rintro _ _ ⟨rfl, rfl⟩
  refine g_aload_n 0 e_M_init_271 rfl rfl ?_
  refine g_getR (k := 2) (j := 156) e_M_init_272 sy_154 (by omega) (⟨_, rfl, by decide, zT_4 (i := 208) rfl rfl⟩) rfl (by rw [sp8_r, sp8_r, sp8_r, sp8_r]; exact a1) ?_
  refine g_iconst (0 : Int32) e_M_init_275 (by decide) ?_
  refine g_bipush (32 : Int32) e_M_init_276 (by decide) ?_
  refine g_iast e_M_init_278 sy_156 (by omega) ⟨by decide, by decide⟩ ?_
  refine g_aload_n 0 e_M_init_279 rfl rfl ?_
  refine g_iconst (1 : Int32) e_M_init_280 (by decide) ?_
  refine g_putI (k := 3) e_M_init_281 sy_154 (by omega) (⟨_, rfl, by decide, zT_4 (i := 209) rfl rfl, rfl⟩) rfl (by rfl) (by rfl) ?_
  exact g_ret none ⟨rfl, e_M_init_284.1⟩ rfl rfl ⟨rfl, rfl⟩
