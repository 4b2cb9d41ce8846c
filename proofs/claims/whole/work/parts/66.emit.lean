-- emit, close and spell while cells are made
section EM
variable {d n : Nat} {W : Mm}
theorem c_emit {t kx : Nat} {x s s' : Int32} (ht : isText t) (hn : t + 1 < n) (hR : W.2.2 t 0 = some (t + 1)) (hs : W.1 t 3 = s) (hb : ib s 160) (hk : ix s = kx) (hs' : s + 1 = s') : Call d M_T_emit n n [.ref t, .int x] W (fun r w => r = none ∧ w = mI (mI W (t + 1) kx x) t 3 s') := by
  subst hs hk hs'
  refine call_of_go (Nat.le_refl _) (by decide +kernel) (Nat.le_of_ble_eq_true rfl) ?_
  show Go _ _ _ _ _ 0 [(0, .ref t), (1, .int x)] [] W _
  refine g_aload_n 0 e_T_emit_0 rfl rfl ?_
  refine g_getI e_T_emit_1 (isText_o ht) (by omega) fl_T_21 rfl ?_
  refine g_aload_n 0 e_T_emit_4 rfl rfl ?_
  refine g_getR (j := t + 1) e_T_emit_5 (isText_o ht) (by omega) fl_T_9 rfl hR ?_
  refine g_alen (v := 160) e_T_emit_8 (isText_code_s ht) hn (by decide) (by decide) ?_
  refine g_icmp_ge (tgt := 32) e_T_emit_9 rfl (fun h0 => absurd (Int32.lt_iff_toInt_lt.mpr hb.2) h0) (fun _ => ?_)
  refine g_aload_n 0 e_T_emit_12 rfl rfl ?_
  refine g_getR (j := t + 1) e_T_emit_13 (isText_o ht) (by omega) fl_T_9 rfl hR ?_
  refine g_aload_n 0 e_T_emit_16 rfl rfl ?_
  refine g_getI e_T_emit_17 (isText_o ht) (by omega) fl_T_21 rfl ?_
  refine g_iload_n 1 e_T_emit_20 rfl rfl ?_
  refine g_iast e_T_emit_21 (isText_code_s ht) hn hb ?_
  refine g_aload_n 0 e_T_emit_22 rfl rfl ?_
  refine g_dup e_T_emit_23 rfl ?_
  refine g_getI e_T_emit_24 (isText_o ht) (by omega) fl_T_21 rfl ?_
  refine g_iconst (1 : Int32) e_T_emit_27 (by decide) ?_
  refine g_iadd e_T_emit_28 ?_
  refine g_putI e_T_emit_29 (isText_o ht) (by omega) fp_T_21 rfl (by rfl) (by rfl) ?_
  have e : (mI W (t + 1) (ix (W.1 t 3)) x).1 t 3 = W.1 t 3 := u2_cell _ _ _ (by omega) _
  rw [e]
  exact g_ret none ⟨rfl, e_T_emit_32.1⟩ rfl rfl ⟨rfl, rfl⟩
theorem c_close {t kx : Nat} {x s : Int32} (ht : isText t) (hn : t + 2 < n) (hR : W.2.2 t 1 = some (t + 2)) (hs : W.1 t 3 = s) (hb : ib x 3) (hk : ix x = kx) : Call d M_T_close n n [.ref t, .int x] W (fun r w => r = none ∧ w = mI W (t + 2) kx s) := by
  subst hs hk
  refine call_of_go (Nat.le_refl _) (by decide +kernel) (Nat.le_of_ble_eq_true rfl) ?_
  show Go _ _ _ _ _ 0 [(0, .ref t), (1, .int x)] [] W _
  refine g_aload_n 0 e_T_close_0 rfl rfl ?_
  refine g_getR (j := t + 2) e_T_close_1 (isText_o ht) (by omega) fl_T_15 rfl hR ?_
  refine g_iload_n 1 e_T_close_4 rfl rfl ?_
  refine g_aload_n 0 e_T_close_5 rfl rfl ?_
  refine g_getI e_T_close_6 (isText_o ht) (by omega) fl_T_21 rfl ?_
  refine g_iast e_T_close_9 (isText_ends_s ht) hn hb ?_
  exact g_ret none ⟨rfl, e_T_close_10.1⟩ rfl rfl ⟨rfl, rfl⟩
def sp8 (W : Mm) (k : Nat) (c0 c1 c2 c3 c4 c5 c6 c7 : Int32) : Mm := mI (mI (mI (mI (mI (mI (mI (mI W 155 k c0) 155 (k + 1) c1) 155 (k + 2) c2) 155 (k + 3) c3) 155 (k + 4) c4) 155 (k + 5) c5) 155 (k + 6) c6) 155 (k + 7) c7
theorem sp8_r (W : Mm) (k : Nat) (c0 c1 c2 c3 c4 c5 c6 c7 : Int32) : (sp8 W k c0 c1 c2 c3 c4 c5 c6 c7).2.2 = W.2.2 := rfl
theorem c_spell {k : Nat} {a c0 c1 c2 c3 c4 c5 c6 c7 : Int32} (hn : 155 < n) (hR : W.2.2 154 1 = some 155) (h0 : ib a 960 ∧ ix a = k) (h1 : ib (a + 1) 960 ∧ ix (a + 1) = k + 1) (h2 : ib (a + 2) 960 ∧ ix (a + 2) = k + 2) (h3 : ib (a + 3) 960 ∧ ix (a + 3) = k + 3) (h4 : ib (a + 4) 960 ∧ ix (a + 4) = k + 4) (h5 : ib (a + 5) 960 ∧ ix (a + 5) = k + 5) (h6 : ib (a + 6) 960 ∧ ix (a + 6) = k + 6) (h7 : ib (a + 7) 960 ∧ ix (a + 7) = k + 7) : Call d M_M_spell n n [.ref 154, .int a, .int c0, .int c1, .int c2, .int c3, .int c4, .int c5, .int c6, .int c7] W (fun r w => r = none ∧ w = sp8 W k c0 c1 c2 c3 c4 c5 c6 c7) := by
  refine call_of_go (Nat.le_refl _) (by decide +kernel) (Nat.le_of_ble_eq_true rfl) ?_
  show Go _ _ _ _ _ 0 [(0, .ref 154), (1, .int a), (2, .int c0), (3, .int c1), (4, .int c2), (5, .int c3), (6, .int c4), (7, .int c5), (8, .int c6), (9, .int c7)] [] W _
  refine g_aload_n 0 e_M_spell_0 rfl rfl ?_
  refine g_getR (j := 155) e_M_spell_1 sh_154 (by omega) fl_M_13 rfl hR ?_
  refine g_iload_n 1 e_M_spell_4 rfl rfl ?_
  refine g_iload_n 2 e_M_spell_5 rfl rfl ?_
  refine g_iast e_M_spell_6 sh_155 hn h0.1 ?_
  rw [h0.2]
  refine g_aload_n 0 e_M_spell_7 rfl rfl ?_
  refine g_getR (j := 155) e_M_spell_8 sh_154 (by omega) fl_M_13 rfl hR ?_
  refine g_iload_n 1 e_M_spell_11 rfl rfl ?_
  refine g_iconst (1 : Int32) e_M_spell_12 (by decide) ?_
  refine g_iadd e_M_spell_13 ?_
  refine g_iload_n 3 e_M_spell_14 rfl rfl ?_
  refine g_iast e_M_spell_15 sh_155 hn h1.1 ?_
  rw [h1.2]
  refine g_aload_n 0 e_M_spell_16 rfl rfl ?_
  refine g_getR (j := 155) e_M_spell_17 sh_154 (by omega) fl_M_13 rfl hR ?_
  refine g_iload_n 1 e_M_spell_20 rfl rfl ?_
  refine g_iconst (2 : Int32) e_M_spell_21 (by decide) ?_
  refine g_iadd e_M_spell_22 ?_
  refine g_iload 4 e_M_spell_23 rfl ?_
  refine g_iast e_M_spell_25 sh_155 hn h2.1 ?_
  rw [h2.2]
  refine g_aload_n 0 e_M_spell_26 rfl rfl ?_
  refine g_getR (j := 155) e_M_spell_27 sh_154 (by omega) fl_M_13 rfl hR ?_
  refine g_iload_n 1 e_M_spell_30 rfl rfl ?_
  refine g_iconst (3 : Int32) e_M_spell_31 (by decide) ?_
  refine g_iadd e_M_spell_32 ?_
  refine g_iload 5 e_M_spell_33 rfl ?_
  refine g_iast e_M_spell_35 sh_155 hn h3.1 ?_
  rw [h3.2]
  refine g_aload_n 0 e_M_spell_36 rfl rfl ?_
  refine g_getR (j := 155) e_M_spell_37 sh_154 (by omega) fl_M_13 rfl hR ?_
  refine g_iload_n 1 e_M_spell_40 rfl rfl ?_
  refine g_iconst (4 : Int32) e_M_spell_41 (by decide) ?_
  refine g_iadd e_M_spell_42 ?_
  refine g_iload 6 e_M_spell_43 rfl ?_
  refine g_iast e_M_spell_45 sh_155 hn h4.1 ?_
  rw [h4.2]
  refine g_aload_n 0 e_M_spell_46 rfl rfl ?_
  refine g_getR (j := 155) e_M_spell_47 sh_154 (by omega) fl_M_13 rfl hR ?_
  refine g_iload_n 1 e_M_spell_50 rfl rfl ?_
  refine g_iconst (5 : Int32) e_M_spell_51 (by decide) ?_
  refine g_iadd e_M_spell_52 ?_
  refine g_iload 7 e_M_spell_53 rfl ?_
  refine g_iast e_M_spell_55 sh_155 hn h5.1 ?_
  rw [h5.2]
  refine g_aload_n 0 e_M_spell_56 rfl rfl ?_
  refine g_getR (j := 155) e_M_spell_57 sh_154 (by omega) fl_M_13 rfl hR ?_
  refine g_iload_n 1 e_M_spell_60 rfl rfl ?_
  refine g_bipush (6 : Int32) e_M_spell_61 (by decide) ?_
  refine g_iadd e_M_spell_63 ?_
  refine g_iload 8 e_M_spell_64 rfl ?_
  refine g_iast e_M_spell_66 sh_155 hn h6.1 ?_
  rw [h6.2]
  refine g_aload_n 0 e_M_spell_67 rfl rfl ?_
  refine g_getR (j := 155) e_M_spell_68 sh_154 (by omega) fl_M_13 rfl hR ?_
  refine g_iload_n 1 e_M_spell_71 rfl rfl ?_
  refine g_bipush (7 : Int32) e_M_spell_72 (by decide) ?_
  refine g_iadd e_M_spell_74 ?_
  refine g_iload 9 e_M_spell_75 rfl ?_
  refine g_iast e_M_spell_77 sh_155 hn h7.1 ?_
  rw [h7.2]
  exact g_ret none ⟨rfl, e_M_spell_78.1⟩ rfl rfl ⟨rfl, rfl⟩
end EM
/-- the memory behind the first text's making, and behind the model's -/
def E6 (W : Mm) : Mm := mI (mI (mI (mI (mI (mI (mI (mI (mI W 123 0 150) 122 3 1) 124 0 1) 123 1 160) 122 3 2) 124 1 2) 123 2 101) 122 3 3) 124 2 3
def SMo (W : Mm) : Mm := mI (mI (sp8 (sp8 (sp8 (sp8 W 0 99 97 109 101 32 53 48 32) 8 59 32 97 100 100 115 32 54) 16 48 32 59 32 109 105 110 100) 24 115 32 49 32 59 32 32 32) 156 0 32) 154 3 1
