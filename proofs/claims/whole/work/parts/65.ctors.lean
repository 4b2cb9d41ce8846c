-- constructors: links and walks
theorem ni_C : Cond.instantiable "PutOn$Clock" 4 ∈ zT := zT_1 (i := 45) rfl rfl
theorem nt_C : Cond.initialized "PutOn$Clock" ∈ zT := zT_1 (i := 4) rfl rfl
theorem ni_D : Cond.instantiable "PutOn$Doer" 3 ∈ zT := zT_1 (i := 76) rfl rfl
theorem nt_D : Cond.initialized "PutOn$Doer" ∈ zT := zT_1 (i := 5) rfl rfl
theorem ni_H : Cond.instantiable "PutOn$House" 5 ∈ zT := zT_1 (i := 36) rfl rfl
theorem nt_H : Cond.initialized "PutOn$House" ∈ zT := zT_1 (i := 3) rfl rfl
theorem ni_K : Cond.instantiable "PutOn$Known" 2 ∈ zT := zT_1 (i := 237) rfl rfl
theorem nt_K : Cond.initialized "PutOn$Known" ∈ zT := zT_1 (i := 8) rfl rfl
theorem ni_R : Cond.instantiable "PutOn$Reader" 6 ∈ zT := zT_1 (i := 209) rfl rfl
theorem nt_R : Cond.initialized "PutOn$Reader" ∈ zT := zT_1 (i := 7) rfl rfl
theorem ni_S : Cond.instantiable "PutOn$Sheet" 3 ∈ zT := zT_2 (i := 29) rfl rfl
theorem nt_S : Cond.initialized "PutOn$Sheet" ∈ zT := zT_1 (i := 10) rfl rfl
theorem ni_U : Cond.instantiable "PutOn$Sums" 3 ∈ zT := zT_2 (i := 3) rfl rfl
theorem nt_U : Cond.initialized "PutOn$Sums" ∈ zT := zT_1 (i := 9) rfl rfl
theorem ni_T : Cond.instantiable "PutOn$Text" 5 ∈ zT := zT_1 (i := 124) rfl rfl
theorem nt_T : Cond.initialized "PutOn$Text" ∈ zT := zT_1 (i := 6) rfl rfl
theorem ni_W : Cond.instantiable "PutOn$Worlds" 13 ∈ zT := zT_1 (i := 28) rfl rfl
theorem nt_W : Cond.initialized "PutOn$Worlds" ∈ zT := zT_1 (i := 2) rfl rfl
theorem ni_P : Cond.instantiable "PutOn" 11 ∈ zT := zT_1 (i := 20) rfl rfl
theorem nt_P : Cond.initialized "PutOn" ∈ zT := zT_1 (i := 1) rfl rfl
theorem ni_M : Cond.instantiable "PutOnModel" 49 ∈ zT := zT_4 (i := 198) rfl rfl
theorem nt_M : Cond.initialized "PutOnModel" ∈ zT := zT_1 (i := 11) rfl rfl
theorem no_C : Cond.arrayOver (.object "PutOn$Clock") ∈ lw_tbl := zL_1 (i := 42) rfl
theorem no_D : Cond.arrayOver (.object "PutOn$Doer") ∈ lw_tbl := zL_1 (i := 44) rfl
theorem na_int : Cond.arrayClass .int ∈ zT := zT_1 (i := 73) rfl rfl
theorem na_boolean : Cond.arrayClass .boolean ∈ zT := zT_1 (i := 74) rfl rfl
theorem na_long : Cond.arrayClass .long ∈ zT := zT_1 (i := 75) rfl rfl
theorem no_T : Cond.arrayOver (.object "PutOn$Text") ∈ lw_tbl := zL_1 (i := 207) rfl
theorem no_S : Cond.arrayOver (.object "PutOn$Sheet") ∈ lw_tbl := zL_2 (i := 27) rfl
theorem na_byte : Cond.arrayClass .byte ∈ zT := zT_3 (i := 157) rfl rfl
theorem oi_2 : Cond.instanceMethod Lib.objectInit ∈ zT := zT_1 (i := 25) rfl rfl
theorem oi_3 : Cond.code Lib.objectInit ⟨#[0xb1]⟩ 1 none ∈ zT := zT_1 (i := 26) rfl rfl
def H_C (b i k : Nat) : Prop := i = b ∧ k = 3
def H_D (b i k : Nat) : Prop := i < 0
def H_H (b i k : Nat) : Prop := i = b ∧ k < 2
def H_K (b i k : Nat) : Prop := i = b ∧ k < 2
def H_R (b i k : Nat) : Prop := i = b ∧ (k < 3 ∨ k = 5)
def H_S (b i k : Nat) : Prop := i = b ∧ k < 2
def H_U (b i k : Nat) : Prop := i = b ∧ k < 2
def H_T (b i k : Nat) : Prop := i = b ∧ k < 3
def H_W (b i k : Nat) : Prop := i = b ∧ (k < 10 ∨ k = 12)
def H_P (b i k : Nat) : Prop := i = b ∧ (k < 3 ∨ (4 ≤ k ∧ k < 7) ∨ (8 ≤ k ∧ k < 11))
def H_M (b i k : Nat) : Prop := i = b ∧ ((1 ≤ k ∧ k < 3) ∨ k = 5 ∨ (7 ≤ k ∧ k < 11) ∨ (12 ≤ k ∧ k < 15) ∨ (31 ≤ k ∧ k < 37) ∨ (40 ≤ k ∧ k < 43) ∨ (45 ≤ k ∧ k < 49))
theorem z_C {b : Nat} (hb : isClock b) : ∀ k ∈ [0, 1, 2], I00 b k = 0 ∧ Rf 88 b k = none := by
  have h : ∀ t ∈ [77, 78, 79, 80, 81, 82, 95, 96, 97, 98, 99, 100], ∀ k ∈ [0, 1, 2], I00 t k = 0 ∧ Rf 88 t k = none := by decide +kernel
  exact h b hb
theorem v_C_3 {b : Nat} (hb : isClock b) : I00 b 3 = (-1) ∧ Rf 88 b 3 = none := by
  have h : ∀ t ∈ [77, 78, 79, 80, 81, 82, 95, 96, 97, 98, 99, 100], I00 t 3 = (-1) ∧ Rf 88 t 3 = none := by decide +kernel
  exact h b hb
theorem nz_C {b : Nat} (hb : isClock b) {b0 e0 : Nat} {W : Mm} (h : TG b0 e0 W) (h1 : b0 ≤ b) (h2 : b < e0) (hs : SH[b]? = some (.inl 0)) : ∀ k, rel b k → H_C b b k ∨ dz W b k := by
  intro k hk
  have hk := rel_ob (r := (RX0, TX0, 4)) hs rfl hk
  have hk : k < 4 := hk
  by_cases q : k = 0 ∨ k = 1 ∨ k = 2
  · exact Or.inr (h.at h1 h2 (z_C hb k (by simp only [List.mem_cons, List.not_mem_nil, or_false]; omega)))
  · exact Or.inl (by unfold H_C; omega)
theorem ho_C (b : Nat) : ∀ i k, H_C b i k → i = b := fun i k h => by unfold H_C at h; omega
theorem z_D {b : Nat} (hb : isDoer b) : ∀ k ∈ [0, 1, 2], I00 b k = 0 ∧ Rf 88 b k = none := by
  have h : ∀ t ∈ [83, 84, 85, 86, 87, 101, 102, 103, 104, 105], ∀ k ∈ [0, 1, 2], I00 t k = 0 ∧ Rf 88 t k = none := by decide +kernel
  exact h b hb
theorem nz_D {b : Nat} (hb : isDoer b) {b0 e0 : Nat} {W : Mm} (h : TG b0 e0 W) (h1 : b0 ≤ b) (h2 : b < e0) (hs : SH[b]? = some (.inl 1)) : ∀ k, rel b k → H_D b b k ∨ dz W b k := by
  intro k hk
  have hk := rel_ob (r := (RX1, TX1, 3)) hs rfl hk
  have hk : k < 3 := hk
  by_cases q : k = 0 ∨ k = 1 ∨ k = 2
  · exact Or.inr (h.at h1 h2 (z_D hb k (by simp only [List.mem_cons, List.not_mem_nil, or_false]; omega)))
  · exact Or.inl (by unfold H_D; omega)
theorem ho_D (b : Nat) : ∀ i k, H_D b i k → i = b := fun i k h => by unfold H_D at h; omega
theorem z_H {b : Nat} (hb : isHouse b) : ∀ k ∈ [2, 3, 4], I00 b k = 0 ∧ Rf 88 b k = none := by
  have h : ∀ t ∈ [74, 92], ∀ k ∈ [2, 3, 4], I00 t k = 0 ∧ Rf 88 t k = none := by decide +kernel
  exact h b hb
theorem v_H_0 {b : Nat} (hb : isHouse b) : I00 b 0 = 0 ∧ Rf 88 b 0 = some (b + 1) := by
  have h : ∀ t ∈ [74, 92], I00 t 0 = 0 ∧ Rf 88 t 0 = some (t + 1) := by decide +kernel
  exact h b hb
theorem v_H_1 {b : Nat} (hb : isHouse b) : I00 b 1 = 0 ∧ Rf 88 b 1 = some (b + 2) := by
  have h : ∀ t ∈ [74, 92], I00 t 1 = 0 ∧ Rf 88 t 1 = some (t + 2) := by decide +kernel
  exact h b hb
theorem nz_H {b : Nat} (hb : isHouse b) {b0 e0 : Nat} {W : Mm} (h : TG b0 e0 W) (h1 : b0 ≤ b) (h2 : b < e0) (hs : SH[b]? = some (.inl 2)) : ∀ k, rel b k → H_H b b k ∨ dz W b k := by
  intro k hk
  have hk := rel_ob (r := (RX2, TX2, 5)) hs rfl hk
  have hk : k < 5 := hk
  by_cases q : k = 2 ∨ k = 3 ∨ k = 4
  · exact Or.inr (h.at h1 h2 (z_H hb k (by simp only [List.mem_cons, List.not_mem_nil, or_false]; omega)))
  · exact Or.inl (by unfold H_H; omega)
theorem ho_H (b : Nat) : ∀ i k, H_H b i k → i = b := fun i k h => by unfold H_H at h; omega
theorem v_K_0 : I00 116 0 = 0 ∧ Rf 88 116 0 = some (117) := by decide +kernel
theorem v_K_1 : I00 116 1 = 0 ∧ Rf 88 116 1 = some (120) := by decide +kernel
theorem nz_K {b0 e0 : Nat} {W : Mm} (h : TG b0 e0 W) (h1 : b0 ≤ 116) (h2 : 116 < e0) (hs : SH[116]? = some (.inl 3)) : ∀ k, rel 116 k → H_K 116 116 k ∨ dz W 116 k := by
  intro k hk
  have hk := rel_ob (r := (RX3, TX3, 2)) hs rfl hk
  have hk : k < 2 := hk
  exact Or.inl (by unfold H_K; omega)
theorem ho_K (b : Nat) : ∀ i k, H_K b i k → i = b := fun i k h => by unfold H_K at h; omega
theorem z_R : ∀ k ∈ [3, 4], I00 108 k = 0 ∧ Rf 88 108 k = none := by decide +kernel
theorem v_R_0 : I00 108 0 = 0 ∧ Rf 88 108 0 = some (109) := by decide +kernel
theorem v_R_1 : I00 108 1 = 0 ∧ Rf 88 108 1 = some (110) := by decide +kernel
theorem v_R_2 : I00 108 2 = 0 ∧ Rf 88 108 2 = some (111) := by decide +kernel
theorem v_R_5 : I00 108 5 = 0 ∧ Rf 88 108 5 = some (112) := by decide +kernel
theorem nz_R {b0 e0 : Nat} {W : Mm} (h : TG b0 e0 W) (h1 : b0 ≤ 108) (h2 : 108 < e0) (hs : SH[108]? = some (.inl 4)) : ∀ k, rel 108 k → H_R 108 108 k ∨ dz W 108 k := by
  intro k hk
  have hk := rel_ob (r := (RX4, TX4, 6)) hs rfl hk
  have hk : k < 6 := hk
  by_cases q : k = 3 ∨ k = 4
  · exact Or.inr (h.at h1 h2 (z_R k (by simp only [List.mem_cons, List.not_mem_nil, or_false]; omega)))
  · exact Or.inl (by unfold H_R; omega)
theorem ho_R (b : Nat) : ∀ i k, H_R b i k → i = b := fun i k h => by unfold H_R at h; omega
theorem z_S {b : Nat} (hb : isSheet b) : ∀ k ∈ [2], I00 b k = 0 ∧ Rf 88 b k = none := by
  have h : ∀ t ∈ [146, 148, 150, 152], ∀ k ∈ [2], I00 t k = 0 ∧ Rf 88 t k = none := by decide +kernel
  exact h b hb
theorem v_S_0 {b : Nat} (hb : isSheet b) : I00 b 0 = 0 ∧ Rf 88 b 0 = some (b + 1) := by
  have h : ∀ t ∈ [146, 148, 150, 152], I00 t 0 = 0 ∧ Rf 88 t 0 = some (t + 1) := by decide +kernel
  exact h b hb
theorem v_S_1 {b : Nat} (hb : isSheet b) : I00 b 1 = (-1) ∧ Rf 88 b 1 = none := by
  have h : ∀ t ∈ [146, 148, 150, 152], I00 t 1 = (-1) ∧ Rf 88 t 1 = none := by decide +kernel
  exact h b hb
theorem nz_S {b : Nat} (hb : isSheet b) {b0 e0 : Nat} {W : Mm} (h : TG b0 e0 W) (h1 : b0 ≤ b) (h2 : b < e0) (hs : SH[b]? = some (.inl 5)) : ∀ k, rel b k → H_S b b k ∨ dz W b k := by
  intro k hk
  have hk := rel_ob (r := (RX5, TX5, 3)) hs rfl hk
  have hk : k < 3 := hk
  by_cases q : k = 2
  · exact Or.inr (h.at h1 h2 (z_S hb k (by simp only [List.mem_cons, List.not_mem_nil, or_false]; omega)))
  · exact Or.inl (by unfold H_S; omega)
theorem ho_S (b : Nat) : ∀ i k, H_S b i k → i = b := fun i k h => by unfold H_S at h; omega
theorem z_U : ∀ k ∈ [2], I00 117 k = 0 ∧ Rf 88 117 k = none := by decide +kernel
theorem v_U_0 : I00 117 0 = 0 ∧ Rf 88 117 0 = some (118) := by decide +kernel
theorem v_U_1 : I00 117 1 = 0 ∧ Rf 88 117 1 = some (119) := by decide +kernel
theorem nz_U {b0 e0 : Nat} {W : Mm} (h : TG b0 e0 W) (h1 : b0 ≤ 117) (h2 : 117 < e0) (hs : SH[117]? = some (.inl 6)) : ∀ k, rel 117 k → H_U 117 117 k ∨ dz W 117 k := by
  intro k hk
  have hk := rel_ob (r := (RX6, TX6, 3)) hs rfl hk
  have hk : k < 3 := hk
  by_cases q : k = 2
  · exact Or.inr (h.at h1 h2 (z_U k (by simp only [List.mem_cons, List.not_mem_nil, or_false]; omega)))
  · exact Or.inl (by unfold H_U; omega)
theorem ho_U (b : Nat) : ∀ i k, H_U b i k → i = b := fun i k h => by unfold H_U at h; omega
theorem z_T {b : Nat} (hb : isText b) : ∀ k ∈ [3, 4], I00 b k = 0 ∧ Rf 88 b k = none := by
  have h : ∀ t ∈ [88, 112, 122, 126, 130, 134, 138, 142], ∀ k ∈ [3, 4], I00 t k = 0 ∧ Rf 88 t k = none := by decide +kernel
  exact h b hb
theorem v_T_0 {b : Nat} (hb : isText b) : I00 b 0 = 0 ∧ Rf 88 b 0 = some (b + 1) := by
  have h : ∀ t ∈ [88, 112, 122, 126, 130, 134, 138, 142], I00 t 0 = 0 ∧ Rf 88 t 0 = some (t + 1) := by decide +kernel
  exact h b hb
theorem v_T_1 {b : Nat} (hb : isText b) : I00 b 1 = 0 ∧ Rf 88 b 1 = some (b + 2) := by
  have h : ∀ t ∈ [88, 112, 122, 126, 130, 134, 138, 142], I00 t 1 = 0 ∧ Rf 88 t 1 = some (t + 2) := by decide +kernel
  exact h b hb
theorem v_T_2 {b : Nat} (hb : isText b) : I00 b 2 = 0 ∧ Rf 88 b 2 = some (b + 3) := by
  have h : ∀ t ∈ [88, 112, 122, 126, 130, 134, 138, 142], I00 t 2 = 0 ∧ Rf 88 t 2 = some (t + 3) := by decide +kernel
  exact h b hb
theorem nz_T {b : Nat} (hb : isText b) {b0 e0 : Nat} {W : Mm} (h : TG b0 e0 W) (h1 : b0 ≤ b) (h2 : b < e0) (hs : SH[b]? = some (.inl 7)) : ∀ k, rel b k → H_T b b k ∨ dz W b k := by
  intro k hk
  have hk := rel_ob (r := (RX7, TX7, 5)) hs rfl hk
  have hk : k < 5 := hk
  by_cases q : k = 3 ∨ k = 4
  · exact Or.inr (h.at h1 h2 (z_T hb k (by simp only [List.mem_cons, List.not_mem_nil, or_false]; omega)))
  · exact Or.inl (by unfold H_T; omega)
theorem ho_T (b : Nat) : ∀ i k, H_T b i k → i = b := fun i k h => by unfold H_T at h; omega
theorem z_W : ∀ k ∈ [10, 11], I00 1 k = 0 ∧ Rf 88 1 k = none := by decide +kernel
theorem v_W_0 : I00 1 0 = 0 ∧ Rf 88 1 0 = some (2) := by decide +kernel
theorem v_W_1 : I00 1 1 = 0 ∧ Rf 88 1 1 = some (35) := by decide +kernel
theorem v_W_2 : I00 1 2 = 0 ∧ Rf 88 1 2 = some (68) := by decide +kernel
theorem v_W_3 : I00 1 3 = 0 ∧ Rf 88 1 3 = some (69) := by decide +kernel
theorem v_W_4 : I00 1 4 = 0 ∧ Rf 88 1 4 = some (70) := by decide +kernel
theorem v_W_5 : I00 1 5 = 0 ∧ Rf 88 1 5 = some (71) := by decide +kernel
theorem v_W_6 : I00 1 6 = 0 ∧ Rf 88 1 6 = some (72) := by decide +kernel
theorem v_W_7 : I00 1 7 = 0 ∧ Rf 88 1 7 = some (73) := by decide +kernel
theorem v_W_8 : I00 1 8 = 0 ∧ Rf 88 1 8 = some (74) := by decide +kernel
theorem v_W_9 : I00 1 9 = 0 ∧ Rf 88 1 9 = some (88) := by decide +kernel
theorem v_W_12 : I00 1 12 = (1) ∧ Rf 88 1 12 = none := by decide +kernel
theorem nz_W {b0 e0 : Nat} {W : Mm} (h : TG b0 e0 W) (h1 : b0 ≤ 1) (h2 : 1 < e0) (hs : SH[1]? = some (.inl 8)) : ∀ k, rel 1 k → H_W 1 1 k ∨ dz W 1 k := by
  intro k hk
  have hk := rel_ob (r := (RX8, TX8, 13)) hs rfl hk
  have hk : k < 13 := hk
  by_cases q : k = 10 ∨ k = 11
  · exact Or.inr (h.at h1 h2 (z_W k (by simp only [List.mem_cons, List.not_mem_nil, or_false]; omega)))
  · exact Or.inl (by unfold H_W; omega)
theorem ho_W (b : Nat) : ∀ i k, H_W b i k → i = b := fun i k h => by unfold H_W at h; omega
theorem z_P : ∀ k ∈ [3, 7], I00 0 k = 0 ∧ Rf 88 0 k = none := by decide +kernel
theorem v_P_0 : I00 0 0 = 0 ∧ Rf 88 0 0 = some (1) := by decide +kernel
theorem v_P_1 : I00 0 1 = 0 ∧ Rf 88 0 1 = some (74) := by decide +kernel
theorem v_P_2 : I00 0 2 = 0 ∧ Rf 88 0 2 = some (92) := by decide +kernel
theorem v_P_4 : I00 0 4 = 0 ∧ Rf 88 0 4 = some (106) := by decide +kernel
theorem v_P_5 : I00 0 5 = (1) ∧ Rf 88 0 5 = none := by decide +kernel
theorem v_P_6 : I00 0 6 = 0 ∧ Rf 88 0 6 = some (107) := by decide +kernel
theorem v_P_8 : I00 0 8 = 0 ∧ Rf 88 0 8 = some (108) := by decide +kernel
theorem v_P_9 : I00 0 9 = 0 ∧ Rf 88 0 9 = some (116) := by decide +kernel
theorem v_P_10 : I00 0 10 = 0 ∧ Rf 88 0 10 = some (121) := by decide +kernel
theorem nz_P {b0 e0 : Nat} {W : Mm} (h : TG b0 e0 W) (h1 : b0 ≤ 0) (h2 : 0 < e0) (hs : SH[0]? = some (.inl 9)) : ∀ k, rel 0 k → H_P 0 0 k ∨ dz W 0 k := by
  intro k hk
  have hk := rel_ob (r := (RX9, TX9, 11)) hs rfl hk
  have hk : k < 11 := hk
  by_cases q : k = 3 ∨ k = 7
  · exact Or.inr (h.at h1 h2 (z_P k (by simp only [List.mem_cons, List.not_mem_nil, or_false]; omega)))
  · exact Or.inl (by unfold H_P; omega)
theorem ho_P (b : Nat) : ∀ i k, H_P b i k → i = b := fun i k h => by unfold H_P at h; omega
theorem z_M : ∀ k ∈ [0, 3, 4, 6, 11, 15, 16, 17, 18, 19, 20, 21, 22, 23, 24, 25, 26, 27, 28, 29, 30, 37, 38, 39, 43, 44], I00 154 k = 0 ∧ Rf 88 154 k = none := by decide +kernel
theorem v_M_1 : I00 154 1 = 0 ∧ Rf 88 154 1 = some (155) := by decide +kernel
theorem v_M_2 : I00 154 2 = 0 ∧ Rf 88 154 2 = some (156) := by decide +kernel
theorem v_M_5 : I00 154 5 = 0 ∧ Rf 88 154 5 = some (157) := by decide +kernel
theorem v_M_7 : I00 154 7 = 0 ∧ Rf 88 154 7 = some (158) := by decide +kernel
theorem v_M_8 : I00 154 8 = 0 ∧ Rf 88 154 8 = some (159) := by decide +kernel
theorem v_M_9 : I00 154 9 = 0 ∧ Rf 88 154 9 = some (160) := by decide +kernel
theorem v_M_10 : I00 154 10 = 0 ∧ Rf 88 154 10 = some (161) := by decide +kernel
theorem v_M_12 : I00 154 12 = 0 ∧ Rf 88 154 12 = some (162) := by decide +kernel
theorem v_M_13 : I00 154 13 = 0 ∧ Rf 88 154 13 = some (163) := by decide +kernel
theorem v_M_14 : I00 154 14 = 0 ∧ Rf 88 154 14 = some (164) := by decide +kernel
theorem v_M_31 : I00 154 31 = 0 ∧ Rf 88 154 31 = some (165) := by decide +kernel
theorem v_M_32 : I00 154 32 = 0 ∧ Rf 88 154 32 = some (166) := by decide +kernel
theorem v_M_33 : I00 154 33 = 0 ∧ Rf 88 154 33 = some (167) := by decide +kernel
theorem v_M_34 : I00 154 34 = 0 ∧ Rf 88 154 34 = some (168) := by decide +kernel
theorem v_M_35 : I00 154 35 = 0 ∧ Rf 88 154 35 = some (169) := by decide +kernel
theorem v_M_36 : I00 154 36 = 0 ∧ Rf 88 154 36 = some (170) := by decide +kernel
theorem v_M_40 : I00 154 40 = 0 ∧ Rf 88 154 40 = some (171) := by decide +kernel
theorem v_M_41 : I00 154 41 = 0 ∧ Rf 88 154 41 = some (172) := by decide +kernel
theorem v_M_42 : I00 154 42 = (-1) ∧ Rf 88 154 42 = none := by decide +kernel
theorem v_M_45 : I00 154 45 = 0 ∧ Rf 88 154 45 = some (173) := by decide +kernel
theorem v_M_46 : I00 154 46 = 0 ∧ Rf 88 154 46 = some (174) := by decide +kernel
theorem v_M_47 : I00 154 47 = 0 ∧ Rf 88 154 47 = some (175) := by decide +kernel
theorem v_M_48 : I00 154 48 = 0 ∧ Rf 88 154 48 = some (176) := by decide +kernel
theorem nz_M {b0 e0 : Nat} {W : Mm} (h : TG b0 e0 W) (h1 : b0 ≤ 154) (h2 : 154 < e0) (hs : SH[154]? = some (.inl 10)) : ∀ k, rel 154 k → H_M 154 154 k ∨ dz W 154 k := by
  intro k hk
  have hk := rel_ob (r := (RX10, TX10, 49)) hs rfl hk
  have hk : k < 49 := hk
  by_cases q : k = 0 ∨ k = 3 ∨ k = 4 ∨ k = 6 ∨ k = 11 ∨ k = 15 ∨ k = 16 ∨ k = 17 ∨ k = 18 ∨ k = 19 ∨ k = 20 ∨ k = 21 ∨ k = 22 ∨ k = 23 ∨ k = 24 ∨ k = 25 ∨ k = 26 ∨ k = 27 ∨ k = 28 ∨ k = 29 ∨ k = 30 ∨ k = 37 ∨ k = 38 ∨ k = 39 ∨ k = 43 ∨ k = 44
  · exact Or.inr (h.at h1 h2 (z_M k (by simp only [List.mem_cons, List.not_mem_nil, or_false]; omega)))
  · exact Or.inl (by unfold H_M; omega)
theorem ho_M (b : Nat) : ∀ i k, H_M b i k → i = b := fun i k h => by unfold H_M at h; omega
theorem sx_C_0 {b : Nat} (hb : isClock b) : SH[b]? = some (.inl 0) := by
  have h : ∀ t ∈ [77, 78, 79, 80, 81, 82, 95, 96, 97, 98, 99, 100], SH[t + 0]? = some (.inl 0) := by decide +kernel
  exact h b hb
theorem sx_D_0 {b : Nat} (hb : isDoer b) : SH[b]? = some (.inl 1) := by
  have h : ∀ t ∈ [83, 84, 85, 86, 87, 101, 102, 103, 104, 105], SH[t + 0]? = some (.inl 1) := by decide +kernel
  exact h b hb
theorem sx_H_0 {b : Nat} (hb : isHouse b) : SH[b]? = some (.inl 2) := by
  have h : ∀ t ∈ [74, 92], SH[t + 0]? = some (.inl 2) := by decide +kernel
  exact h b hb
theorem sx_H_1 {b : Nat} (hb : isHouse b) : SH[b + 1]? = some (.inr (.object "PutOn$Clock", 6)) := by
  have h : ∀ t ∈ [74, 92], SH[t + 1]? = some (.inr (.object "PutOn$Clock", 6)) := by decide +kernel
  exact h b hb
theorem sx_H_2 {b : Nat} (hb : isHouse b) : SH[b + 2]? = some (.inr (.object "PutOn$Doer", 5)) := by
  have h : ∀ t ∈ [74, 92], SH[t + 2]? = some (.inr (.object "PutOn$Doer", 5)) := by decide +kernel
  exact h b hb
theorem sx_H_3 {b : Nat} (hb : isHouse b) : SH[b + 3]? = some (.inl 0) := by
  have h : ∀ t ∈ [74, 92], SH[t + 3]? = some (.inl 0) := by decide +kernel
  exact h b hb
theorem sx_H_4 {b : Nat} (hb : isHouse b) : SH[b + 4]? = some (.inl 0) := by
  have h : ∀ t ∈ [74, 92], SH[t + 4]? = some (.inl 0) := by decide +kernel
  exact h b hb
theorem sx_H_5 {b : Nat} (hb : isHouse b) : SH[b + 5]? = some (.inl 0) := by
  have h : ∀ t ∈ [74, 92], SH[t + 5]? = some (.inl 0) := by decide +kernel
  exact h b hb
theorem sx_H_6 {b : Nat} (hb : isHouse b) : SH[b + 6]? = some (.inl 0) := by
  have h : ∀ t ∈ [74, 92], SH[t + 6]? = some (.inl 0) := by decide +kernel
  exact h b hb
theorem sx_H_7 {b : Nat} (hb : isHouse b) : SH[b + 7]? = some (.inl 0) := by
  have h : ∀ t ∈ [74, 92], SH[t + 7]? = some (.inl 0) := by decide +kernel
  exact h b hb
theorem sx_H_8 {b : Nat} (hb : isHouse b) : SH[b + 8]? = some (.inl 0) := by
  have h : ∀ t ∈ [74, 92], SH[t + 8]? = some (.inl 0) := by decide +kernel
  exact h b hb
theorem sx_H_9 {b : Nat} (hb : isHouse b) : SH[b + 9]? = some (.inl 1) := by
  have h : ∀ t ∈ [74, 92], SH[t + 9]? = some (.inl 1) := by decide +kernel
  exact h b hb
theorem sx_H_10 {b : Nat} (hb : isHouse b) : SH[b + 10]? = some (.inl 1) := by
  have h : ∀ t ∈ [74, 92], SH[t + 10]? = some (.inl 1) := by decide +kernel
  exact h b hb
theorem sx_H_11 {b : Nat} (hb : isHouse b) : SH[b + 11]? = some (.inl 1) := by
  have h : ∀ t ∈ [74, 92], SH[t + 11]? = some (.inl 1) := by decide +kernel
  exact h b hb
theorem sx_H_12 {b : Nat} (hb : isHouse b) : SH[b + 12]? = some (.inl 1) := by
  have h : ∀ t ∈ [74, 92], SH[t + 12]? = some (.inl 1) := by decide +kernel
  exact h b hb
theorem sx_H_13 {b : Nat} (hb : isHouse b) : SH[b + 13]? = some (.inl 1) := by
  have h : ∀ t ∈ [74, 92], SH[t + 13]? = some (.inl 1) := by decide +kernel
  exact h b hb
theorem sx_T_0 {b : Nat} (hb : isText b) : SH[b]? = some (.inl 7) := by
  have h : ∀ t ∈ [88, 112, 122, 126, 130, 134, 138, 142], SH[t + 0]? = some (.inl 7) := by decide +kernel
  exact h b hb
theorem sx_T_1 {b : Nat} (hb : isText b) : SH[b + 1]? = some (.inr (.int, 160)) := by
  have h : ∀ t ∈ [88, 112, 122, 126, 130, 134, 138, 142], SH[t + 1]? = some (.inr (.int, 160)) := by decide +kernel
  exact h b hb
theorem sx_T_2 {b : Nat} (hb : isText b) : SH[b + 2]? = some (.inr (.int, 3)) := by
  have h : ∀ t ∈ [88, 112, 122, 126, 130, 134, 138, 142], SH[t + 2]? = some (.inr (.int, 3)) := by decide +kernel
  exact h b hb
theorem sx_T_3 {b : Nat} (hb : isText b) : SH[b + 3]? = some (.inr (.int, 160)) := by
  have h : ∀ t ∈ [88, 112, 122, 126, 130, 134, 138, 142], SH[t + 3]? = some (.inr (.int, 160)) := by decide +kernel
  exact h b hb
theorem sx_S_0 {b : Nat} (hb : isSheet b) : SH[b]? = some (.inl 5) := by
  have h : ∀ t ∈ [146, 148, 150, 152], SH[t + 0]? = some (.inl 5) := by decide +kernel
  exact h b hb
theorem sx_S_1 {b : Nat} (hb : isSheet b) : SH[b + 1]? = some (.inr (.int, 40)) := by
  have h : ∀ t ∈ [146, 148, 150, 152], SH[t + 1]? = some (.inr (.int, 40)) := by decide +kernel
  exact h b hb
theorem pp_H_C_3 {b : Nat} (hb : isHouse b) : isClock (b + 3) := by
  have h : ∀ t ∈ [74, 92], isClock (t + 3) := by unfold isClock; decide +kernel
  exact h b hb
theorem pp_H_C_4 {b : Nat} (hb : isHouse b) : isClock (b + 4) := by
  have h : ∀ t ∈ [74, 92], isClock (t + 4) := by unfold isClock; decide +kernel
  exact h b hb
theorem pp_H_C_5 {b : Nat} (hb : isHouse b) : isClock (b + 5) := by
  have h : ∀ t ∈ [74, 92], isClock (t + 5) := by unfold isClock; decide +kernel
  exact h b hb
theorem pp_H_C_6 {b : Nat} (hb : isHouse b) : isClock (b + 6) := by
  have h : ∀ t ∈ [74, 92], isClock (t + 6) := by unfold isClock; decide +kernel
  exact h b hb
theorem pp_H_C_7 {b : Nat} (hb : isHouse b) : isClock (b + 7) := by
  have h : ∀ t ∈ [74, 92], isClock (t + 7) := by unfold isClock; decide +kernel
  exact h b hb
theorem pp_H_C_8 {b : Nat} (hb : isHouse b) : isClock (b + 8) := by
  have h : ∀ t ∈ [74, 92], isClock (t + 8) := by unfold isClock; decide +kernel
  exact h b hb
theorem pp_H_D_9 {b : Nat} (hb : isHouse b) : isDoer (b + 9) := by
  have h : ∀ t ∈ [74, 92], isDoer (t + 9) := by unfold isDoer; decide +kernel
  exact h b hb
theorem pp_H_D_10 {b : Nat} (hb : isHouse b) : isDoer (b + 10) := by
  have h : ∀ t ∈ [74, 92], isDoer (t + 10) := by unfold isDoer; decide +kernel
  exact h b hb
theorem pp_H_D_11 {b : Nat} (hb : isHouse b) : isDoer (b + 11) := by
  have h : ∀ t ∈ [74, 92], isDoer (t + 11) := by unfold isDoer; decide +kernel
  exact h b hb
theorem pp_H_D_12 {b : Nat} (hb : isHouse b) : isDoer (b + 12) := by
  have h : ∀ t ∈ [74, 92], isDoer (t + 12) := by unfold isDoer; decide +kernel
  exact h b hb
theorem pp_H_D_13 {b : Nat} (hb : isHouse b) : isDoer (b + 13) := by
  have h : ∀ t ∈ [74, 92], isDoer (t + 13) := by unfold isDoer; decide +kernel
  exact h b hb
theorem wq_2 : ∀ j, j < 32 → SH[2 + 1 + j]? = some (.inr (.int, 6)) := by
  have h : ∀ j ∈ List.range 32, SH[2 + 1 + j]? = some (.inr (.int, 6)) := by decide +kernel
  exact fun j hj => h j (List.mem_range.mpr hj)
theorem wr_2 {b e : Nat} {W : Mm} (h : TG b e W) (h1 : b ≤ 2) (h2 : 2 < e) : ∀ k, k < 32 → W.1 2 k = 0 ∧ W.2.1 2 k = 0 ∧ W.2.2 2 k = some (2 + 1 + k) := by
  have q : ∀ k ∈ List.range 32, I00 2 k = 0 ∧ Rf 88 2 k = some (2 + 1 + k) := by decide +kernel
  exact fun k hk => h.at h1 h2 (q k (List.mem_range.mpr hk))
theorem wq_35 : ∀ j, j < 32 → SH[35 + 1 + j]? = some (.inr (.int, 6)) := by
  have h : ∀ j ∈ List.range 32, SH[35 + 1 + j]? = some (.inr (.int, 6)) := by decide +kernel
  exact fun j hj => h j (List.mem_range.mpr hj)
theorem wr_35 {b e : Nat} {W : Mm} (h : TG b e W) (h1 : b ≤ 35) (h2 : 35 < e) : ∀ k, k < 32 → W.1 35 k = 0 ∧ W.2.1 35 k = 0 ∧ W.2.2 35 k = some (35 + 1 + k) := by
  have q : ∀ k ∈ List.range 32, I00 35 k = 0 ∧ Rf 88 35 k = some (35 + 1 + k) := by decide +kernel
  exact fun k hk => h.at h1 h2 (q k (List.mem_range.mpr hk))
theorem el_H_1_0 {b : Nat} (hb : isHouse b) : I00 (b + 1) 0 = 0 ∧ Rf 88 (b + 1) 0 = some (b + 3) := by
  have h : ∀ t ∈ [74, 92], I00 (t + 1) 0 = 0 ∧ Rf 88 (t + 1) 0 = some (t + 3) := by decide +kernel
  exact h b hb
theorem el_H_1_1 {b : Nat} (hb : isHouse b) : I00 (b + 1) 1 = 0 ∧ Rf 88 (b + 1) 1 = some (b + 4) := by
  have h : ∀ t ∈ [74, 92], I00 (t + 1) 1 = 0 ∧ Rf 88 (t + 1) 1 = some (t + 4) := by decide +kernel
  exact h b hb
theorem el_H_1_2 {b : Nat} (hb : isHouse b) : I00 (b + 1) 2 = 0 ∧ Rf 88 (b + 1) 2 = some (b + 5) := by
  have h : ∀ t ∈ [74, 92], I00 (t + 1) 2 = 0 ∧ Rf 88 (t + 1) 2 = some (t + 5) := by decide +kernel
  exact h b hb
theorem el_H_1_3 {b : Nat} (hb : isHouse b) : I00 (b + 1) 3 = 0 ∧ Rf 88 (b + 1) 3 = some (b + 6) := by
  have h : ∀ t ∈ [74, 92], I00 (t + 1) 3 = 0 ∧ Rf 88 (t + 1) 3 = some (t + 6) := by decide +kernel
  exact h b hb
theorem el_H_1_4 {b : Nat} (hb : isHouse b) : I00 (b + 1) 4 = 0 ∧ Rf 88 (b + 1) 4 = some (b + 7) := by
  have h : ∀ t ∈ [74, 92], I00 (t + 1) 4 = 0 ∧ Rf 88 (t + 1) 4 = some (t + 7) := by decide +kernel
  exact h b hb
theorem el_H_1_5 {b : Nat} (hb : isHouse b) : I00 (b + 1) 5 = 0 ∧ Rf 88 (b + 1) 5 = some (b + 8) := by
  have h : ∀ t ∈ [74, 92], I00 (t + 1) 5 = 0 ∧ Rf 88 (t + 1) 5 = some (t + 8) := by decide +kernel
  exact h b hb
theorem el_H_2_0 {b : Nat} (hb : isHouse b) : I00 (b + 2) 0 = 0 ∧ Rf 88 (b + 2) 0 = some (b + 9) := by
  have h : ∀ t ∈ [74, 92], I00 (t + 2) 0 = 0 ∧ Rf 88 (t + 2) 0 = some (t + 9) := by decide +kernel
  exact h b hb
theorem el_H_2_1 {b : Nat} (hb : isHouse b) : I00 (b + 2) 1 = 0 ∧ Rf 88 (b + 2) 1 = some (b + 10) := by
  have h : ∀ t ∈ [74, 92], I00 (t + 2) 1 = 0 ∧ Rf 88 (t + 2) 1 = some (t + 10) := by decide +kernel
  exact h b hb
theorem el_H_2_2 {b : Nat} (hb : isHouse b) : I00 (b + 2) 2 = 0 ∧ Rf 88 (b + 2) 2 = some (b + 11) := by
  have h : ∀ t ∈ [74, 92], I00 (t + 2) 2 = 0 ∧ Rf 88 (t + 2) 2 = some (t + 11) := by decide +kernel
  exact h b hb
theorem el_H_2_3 {b : Nat} (hb : isHouse b) : I00 (b + 2) 3 = 0 ∧ Rf 88 (b + 2) 3 = some (b + 12) := by
  have h : ∀ t ∈ [74, 92], I00 (t + 2) 3 = 0 ∧ Rf 88 (t + 2) 3 = some (t + 12) := by decide +kernel
  exact h b hb
theorem el_H_2_4 {b : Nat} (hb : isHouse b) : I00 (b + 2) 4 = 0 ∧ Rf 88 (b + 2) 4 = some (b + 13) := by
  have h : ∀ t ∈ [74, 92], I00 (t + 2) 4 = 0 ∧ Rf 88 (t + 2) 4 = some (t + 13) := by decide +kernel
  exact h b hb
theorem el_P_106_0 : I00 106 0 = 0 ∧ Rf 88 106 0 = some 122 := by decide +kernel
theorem el_P_106_1 : I00 106 1 = 0 ∧ Rf 88 106 1 = some 126 := by decide +kernel
theorem el_P_106_2 : I00 106 2 = 0 ∧ Rf 88 106 2 = some 130 := by decide +kernel
theorem el_P_106_3 : I00 106 3 = 0 ∧ Rf 88 106 3 = some 134 := by decide +kernel
theorem el_P_106_4 : I00 106 4 = 0 ∧ Rf 88 106 4 = some 138 := by decide +kernel
theorem el_P_106_5 : I00 106 5 = 0 ∧ Rf 88 106 5 = some 142 := by decide +kernel
theorem el_P_121_0 : I00 121 0 = 0 ∧ Rf 88 121 0 = some 146 := by decide +kernel
theorem el_P_121_1 : I00 121 1 = 0 ∧ Rf 88 121 1 = some 148 := by decide +kernel
theorem el_P_121_2 : I00 121 2 = 0 ∧ Rf 88 121 2 = some 150 := by decide +kernel
theorem el_P_121_3 : I00 121 3 = 0 ∧ Rf 88 121 3 = some 152 := by decide +kernel
theorem sy_0 : SH[0]? = some (.inl 9) := by decide +kernel
theorem sy_1 : SH[1]? = some (.inl 8) := by decide +kernel
theorem sy_92 : SH[92]? = some (.inl 2) := by decide +kernel
theorem sy_106 : SH[106]? = some (.inr (.object "PutOn$Text", 6)) := by decide +kernel
theorem sy_107 : SH[107]? = some (.inr (.int, 160)) := by decide +kernel
theorem sy_108 : SH[108]? = some (.inl 4) := by decide +kernel
theorem sy_116 : SH[116]? = some (.inl 3) := by decide +kernel
theorem sy_121 : SH[121]? = some (.inr (.object "PutOn$Sheet", 4)) := by decide +kernel
theorem sy_122 : SH[122]? = some (.inl 7) := by decide +kernel
theorem sy_126 : SH[126]? = some (.inl 7) := by decide +kernel
theorem sy_130 : SH[130]? = some (.inl 7) := by decide +kernel
theorem sy_134 : SH[134]? = some (.inl 7) := by decide +kernel
theorem sy_138 : SH[138]? = some (.inl 7) := by decide +kernel
theorem sy_142 : SH[142]? = some (.inl 7) := by decide +kernel
theorem sy_146 : SH[146]? = some (.inl 5) := by decide +kernel
theorem sy_148 : SH[148]? = some (.inl 5) := by decide +kernel
theorem sy_150 : SH[150]? = some (.inl 5) := by decide +kernel
theorem sy_152 : SH[152]? = some (.inl 5) := by decide +kernel
theorem sy_117 : SH[117]? = some (.inl 6) := by decide +kernel
theorem sy_120 : SH[120]? = some (.inr (.boolean, 64)) := by decide +kernel
theorem sy_109 : SH[109]? = some (.inr (.int, 161)) := by decide +kernel
theorem sy_110 : SH[110]? = some (.inr (.int, 161)) := by decide +kernel
theorem sy_111 : SH[111]? = some (.inr (.int, 161)) := by decide +kernel
theorem sy_112 : SH[112]? = some (.inl 7) := by decide +kernel
theorem sy_118 : SH[118]? = some (.inr (.int, 32)) := by decide +kernel
theorem sy_119 : SH[119]? = some (.inr (.long, 32)) := by decide +kernel
theorem sy_2 : SH[2]? = some (.inr (.array .int, 32)) := by decide +kernel
theorem sy_35 : SH[35]? = some (.inr (.array .int, 32)) := by decide +kernel
theorem sy_68 : SH[68]? = some (.inr (.int, 32)) := by decide +kernel
theorem sy_69 : SH[69]? = some (.inr (.boolean, 32)) := by decide +kernel
theorem sy_70 : SH[70]? = some (.inr (.int, 32)) := by decide +kernel
theorem sy_71 : SH[71]? = some (.inr (.long, 32)) := by decide +kernel
theorem sy_72 : SH[72]? = some (.inr (.int, 5)) := by decide +kernel
theorem sy_73 : SH[73]? = some (.inr (.int, 6)) := by decide +kernel
theorem sy_74 : SH[74]? = some (.inl 2) := by decide +kernel
theorem sy_88 : SH[88]? = some (.inl 7) := by decide +kernel
theorem sy_155 : SH[155]? = some (.inr (.int, 960)) := by decide +kernel
theorem sy_156 : SH[156]? = some (.inr (.int, 6)) := by decide +kernel
theorem sy_157 : SH[157]? = some (.inr (.int, 160)) := by decide +kernel
theorem sy_158 : SH[158]? = some (.inr (.int, 6)) := by decide +kernel
theorem sy_159 : SH[159]? = some (.inr (.int, 6)) := by decide +kernel
theorem sy_160 : SH[160]? = some (.inr (.int, 6)) := by decide +kernel
theorem sy_161 : SH[161]? = some (.inr (.int, 6)) := by decide +kernel
theorem sy_162 : SH[162]? = some (.inr (.int, 5)) := by decide +kernel
theorem sy_163 : SH[163]? = some (.inr (.int, 5)) := by decide +kernel
theorem sy_164 : SH[164]? = some (.inr (.int, 5)) := by decide +kernel
theorem sy_165 : SH[165]? = some (.inr (.int, 192)) := by decide +kernel
theorem sy_166 : SH[166]? = some (.inr (.int, 192)) := by decide +kernel
theorem sy_167 : SH[167]? = some (.inr (.long, 32)) := by decide +kernel
theorem sy_168 : SH[168]? = some (.inr (.int, 32)) := by decide +kernel
theorem sy_169 : SH[169]? = some (.inr (.int, 32)) := by decide +kernel
theorem sy_170 : SH[170]? = some (.inr (.int, 32)) := by decide +kernel
theorem sy_171 : SH[171]? = some (.inr (.int, 24)) := by decide +kernel
theorem sy_172 : SH[172]? = some (.inr (.int, 10)) := by decide +kernel
theorem sy_173 : SH[173]? = some (.inr (.boolean, 4)) := by decide +kernel
theorem sy_174 : SH[174]? = some (.inr (.int, 4)) := by decide +kernel
theorem sy_175 : SH[175]? = some (.inr (.int, 4)) := by decide +kernel
theorem sy_176 : SH[176]? = some (.inr (.int, 160)) := by decide +kernel
theorem sy_154 : SH[154]? = some (.inl 10) := by decide +kernel
theorem c_C {b : Nat} (hb : isClock b) {W : Mm} (h : TG (b) (b + 1) W) : Call 1 M_C_init (b + 1) (b + 1) [.ref (b)] (hole (H_C (b)) W) (fun r w => r = none ∧ w = W) := by
  refine call_of_go (by omega) (by decide +kernel) (Nat.le_of_ble_eq_true rfl) ?_
  show Go _ _ _ _ _ 0 [(0, .ref (b))] [] (hole (fun i k => i = b ∧ k = 3) W) _
  refine g_aload_n 0 e_C_init_0 rfl rfl ?_
  refine g_objI e_C_init_1 (zT_1 (i := 49) rfl rfl) oi_2 oi_3 (by decide) (by omega) ?_
  refine g_aload_n 0 e_C_init_4 rfl rfl ?_
  refine g_iconst (0 : Int32) e_C_init_5 (by decide) ?_
  refine k_put0 e_C_init_6 (sx_C_0 hb) (by omega) (⟨_, rfl, by decide, zT_1 (i := 50) rfl rfl, rfl⟩) rfl (by decide) (by decide) (h.at (by omega) (by omega) (z_C hb 0 (by decide))) ?_
  refine g_aload_n 0 e_C_init_9 rfl rfl ?_
  refine g_iconst (0 : Int32) e_C_init_10 (by decide) ?_
  refine k_put0 e_C_init_11 (sx_C_0 hb) (by omega) (⟨_, rfl, by decide, zT_1 (i := 53) rfl rfl, rfl⟩) rfl (by decide) (by decide) (h.at (by omega) (by omega) (z_C hb 1 (by decide))) ?_
  refine g_aload_n 0 e_C_init_14 rfl rfl ?_
  refine g_iconst (0 : Int32) e_C_init_15 (by decide) ?_
  refine k_put0 e_C_init_16 (sx_C_0 hb) (by omega) (⟨_, rfl, by decide, zT_1 (i := 56) rfl rfl, rfl⟩) rfl (by decide) (by decide) (h.at (by omega) (by omega) (z_C hb 2 (by decide))) ?_
  refine g_aload_n 0 e_C_init_19 rfl rfl ?_
  refine g_iconst (-1 : Int32) e_C_init_20 (by decide) ?_
  refine k_putI (D' := (fun i k => i < 0)) e_C_init_21 (sx_C_0 hb) (by omega) (⟨_, rfl, by decide, zT_1 (i := 59) rfl rfl, rfl⟩) rfl (by decide) (by decide) (h.at (by omega) (by omega) (v_C_3 hb)) (by omega) (fun i j => by omega) ?_
  have hh : hole (fun i k => i < 0) W = W := hole_no (fun i k q => by omega)
  rw [hh]
  exact g_ret none ⟨rfl, e_C_init_24.1⟩ rfl rfl ⟨rfl, rfl⟩
theorem c_D {b : Nat} (hb : isDoer b) {W : Mm} (h : TG (b) (b + 1) W) : Call 1 M_D_init (b + 1) (b + 1) [.ref (b)] (hole (H_D (b)) W) (fun r w => r = none ∧ w = W) := by
  refine call_of_go (by omega) (by decide +kernel) (Nat.le_of_ble_eq_true rfl) ?_
  show Go _ _ _ _ _ 0 [(0, .ref (b))] [] (hole (fun i k => i < 0) W) _
  refine g_aload_n 0 e_D_init_0 rfl rfl ?_
  refine g_objI e_D_init_1 (zT_1 (i := 80) rfl rfl) oi_2 oi_3 (by decide) (by omega) ?_
  refine g_aload_n 0 e_D_init_4 rfl rfl ?_
  refine g_iconst (0 : Int32) e_D_init_5 (by decide) ?_
  refine k_put0 e_D_init_6 (sx_D_0 hb) (by omega) (⟨_, rfl, by decide, zT_1 (i := 81) rfl rfl, rfl⟩) rfl (by decide) (by decide) (h.at (by omega) (by omega) (z_D hb 0 (by decide))) ?_
  refine g_aload_n 0 e_D_init_9 rfl rfl ?_
  refine g_iconst (0 : Int32) e_D_init_10 (by decide) ?_
  refine k_put0 e_D_init_11 (sx_D_0 hb) (by omega) (⟨_, rfl, by decide, zT_1 (i := 83) rfl rfl, rfl⟩) rfl (by decide) (by decide) (h.at (by omega) (by omega) (z_D hb 1 (by decide))) ?_
  refine g_aload_n 0 e_D_init_14 rfl rfl ?_
  refine g_iconst (0 : Int32) e_D_init_15 (by decide) ?_
  refine k_put0 e_D_init_16 (sx_D_0 hb) (by omega) (⟨_, rfl, by decide, zT_1 (i := 86) rfl rfl, rfl⟩) rfl (by decide) (by decide) (h.at (by omega) (by omega) (z_D hb 2 (by decide))) ?_
  have hh : hole (fun i k => i < 0) W = W := hole_no (fun i k q => by omega)
  rw [hh]
  exact g_ret none ⟨rfl, e_D_init_19.1⟩ rfl rfl ⟨rfl, rfl⟩
theorem c_S {b : Nat} (hb : isSheet b) {W : Mm} (h : TG (b) (b + 2) W) : Call 1 M_S_init (b + 1) (b + 2) [.ref (b)] (hole (H_S (b)) W) (fun r w => r = none ∧ w = W) := by
  refine call_of_go (by omega) (by decide +kernel) (Nat.le_of_ble_eq_true rfl) ?_
  show Go _ _ _ _ _ 0 [(0, .ref (b))] [] (hole (fun i k => i = b ∧ k < 2) W) _
  refine g_aload_n 0 e_S_init_0 rfl rfl ?_
  refine g_objI e_S_init_1 (zT_2 (i := 33) rfl rfl) oi_2 oi_3 (by decide) (by omega) ?_
  refine g_aload_n 0 e_S_init_4 rfl rfl ?_
  refine g_bipush (40 : Int32) e_S_init_5 (by decide) ?_
  refine k_newA (sz := 40) e_S_init_7 (sx_S_1 hb) (fun k => dz_hole (h.arr (by omega) (by omega) (sx_S_1 hb) (by decide) k)) rfl (by decide) na_int (by decide) (by decide) (by omega) (by omega) ?_
  refine k_putF (D' := (fun i k => i = b ∧ k = 1)) e_S_init_9 (sx_S_0 hb) (by omega) (⟨_, rfl, by decide, zT_2 (i := 34) rfl rfl, rfl, rfl⟩) rfl rfl (h.at (by omega) (by omega) (v_S_0 hb)) (by omega) (fun i j => by omega) ?_
  refine g_aload_n 0 e_S_init_12 rfl rfl ?_
  refine g_iconst (-1 : Int32) e_S_init_13 (by decide) ?_
  refine k_putI (D' := (fun i k => i < 0)) e_S_init_14 (sx_S_0 hb) (by omega) (⟨_, rfl, by decide, zT_2 (i := 37) rfl rfl, rfl⟩) rfl (by decide) (by decide) (h.at (by omega) (by omega) (v_S_1 hb)) (by omega) (fun i j => by omega) ?_
  refine g_aload_n 0 e_S_init_17 rfl rfl ?_
  refine g_iconst (0 : Int32) e_S_init_18 (by decide) ?_
  refine k_put0 e_S_init_19 (sx_S_0 hb) (by omega) (⟨_, rfl, by decide, zT_2 (i := 39) rfl rfl, rfl⟩) rfl (by decide) (by decide) (h.at (by omega) (by omega) (z_S hb 2 (by decide))) ?_
  have hh : hole (fun i k => i < 0) W = W := hole_no (fun i k q => by omega)
  rw [hh]
  exact g_ret none ⟨rfl, e_S_init_22.1⟩ rfl rfl ⟨rfl, rfl⟩
theorem c_T {b : Nat} (hb : isText b) {W : Mm} (h : TG (b) (b + 4) W) : Call 1 M_T_init (b + 1) (b + 4) [.ref (b)] (hole (H_T (b)) W) (fun r w => r = none ∧ w = W) := by
  refine call_of_go (by omega) (by decide +kernel) (Nat.le_of_ble_eq_true rfl) ?_
  show Go _ _ _ _ _ 0 [(0, .ref (b))] [] (hole (fun i k => i = b ∧ k < 3) W) _
  refine g_aload_n 0 e_T_init_0 rfl rfl ?_
  refine g_objI e_T_init_1 (zT_1 (i := 128) rfl rfl) oi_2 oi_3 (by decide) (by omega) ?_
  refine g_aload_n 0 e_T_init_4 rfl rfl ?_
  refine g_sipush (160 : Int32) e_T_init_5 (by decide) ?_
  refine k_newA (sz := 160) e_T_init_8 (sx_T_1 hb) (fun k => dz_hole (h.arr (by omega) (by omega) (sx_T_1 hb) (by decide) k)) rfl (by decide) na_int (by decide) (by decide) (by omega) (by omega) ?_
  refine k_putF (D' := (fun i k => i = b ∧ (1 ≤ k ∧ k < 3))) e_T_init_10 (sx_T_0 hb) (by omega) (⟨_, rfl, by decide, zT_1 (i := 129) rfl rfl, rfl, rfl⟩) rfl rfl (h.at (by omega) (by omega) (v_T_0 hb)) (by omega) (fun i j => by omega) ?_
  refine g_aload_n 0 e_T_init_13 rfl rfl ?_
  refine g_iconst (3 : Int32) e_T_init_14 (by decide) ?_
  refine k_newA (sz := 3) e_T_init_15 (sx_T_2 hb) (fun k => dz_hole (h.arr (by omega) (by omega) (sx_T_2 hb) (by decide) k)) rfl (by decide) na_int (by decide) (by decide) (by omega) (by omega) ?_
  refine k_putF (D' := (fun i k => i = b ∧ k = 2)) e_T_init_17 (sx_T_0 hb) (by omega) (⟨_, rfl, by decide, zT_1 (i := 130) rfl rfl, rfl, rfl⟩) rfl rfl (h.at (by omega) (by omega) (v_T_1 hb)) (by omega) (fun i j => by omega) ?_
  refine g_aload_n 0 e_T_init_20 rfl rfl ?_
  refine g_sipush (160 : Int32) e_T_init_21 (by decide) ?_
  refine k_newA (sz := 160) e_T_init_24 (sx_T_3 hb) (fun k => dz_hole (h.arr (by omega) (by omega) (sx_T_3 hb) (by decide) k)) rfl (by decide) na_int (by decide) (by decide) (by omega) (by omega) ?_
  refine k_putF (D' := (fun i k => i < 0)) e_T_init_26 (sx_T_0 hb) (by omega) (⟨_, rfl, by decide, zT_1 (i := 131) rfl rfl, rfl, rfl⟩) rfl rfl (h.at (by omega) (by omega) (v_T_2 hb)) (by omega) (fun i j => by omega) ?_
  refine g_aload_n 0 e_T_init_29 rfl rfl ?_
  refine g_iconst (0 : Int32) e_T_init_30 (by decide) ?_
  refine k_put0 e_T_init_31 (sx_T_0 hb) (by omega) (⟨_, rfl, by decide, zT_1 (i := 132) rfl rfl, rfl⟩) rfl (by decide) (by decide) (h.at (by omega) (by omega) (z_T hb 3 (by decide))) ?_
  refine g_aload_n 0 e_T_init_34 rfl rfl ?_
  refine g_iconst (0 : Int32) e_T_init_35 (by decide) ?_
  refine k_put0 e_T_init_36 (sx_T_0 hb) (by omega) (⟨_, rfl, by decide, zT_1 (i := 134) rfl rfl, rfl⟩) rfl (by decide) (by decide) (h.at (by omega) (by omega) (z_T hb 4 (by decide))) ?_
  have hh : hole (fun i k => i < 0) W = W := hole_no (fun i k q => by omega)
  rw [hh]
  exact g_ret none ⟨rfl, e_T_init_39.1⟩ rfl rfl ⟨rfl, rfl⟩
theorem c_U {W : Mm} (h : TG (117) (120) W) : Call 1 M_U_init (118) (120) [.ref (117)] (hole (H_U (117)) W) (fun r w => r = none ∧ w = W) := by
  refine call_of_go (by omega) (by decide +kernel) (Nat.le_of_ble_eq_true rfl) ?_
  show Go _ _ _ _ _ 0 [(0, .ref (117))] [] (hole (fun i k => i = 117 ∧ k < 2) W) _
  refine g_aload_n 0 e_U_init_0 rfl rfl ?_
  refine g_objI e_U_init_1 (zT_2 (i := 7) rfl rfl) oi_2 oi_3 (by decide) (by omega) ?_
  refine g_aload_n 0 e_U_init_4 rfl rfl ?_
  refine g_bipush (32 : Int32) e_U_init_5 (by decide) ?_
  refine k_newA (sz := 32) e_U_init_7 sy_118 (fun k => dz_hole (h.arr (by omega) (by omega) sy_118 (by decide) k)) rfl (by decide) na_int (by decide) (by decide) (by omega) (by omega) ?_
  refine k_putF (D' := (fun i k => i = 117 ∧ k = 1)) e_U_init_9 sy_117 (by omega) (⟨_, rfl, by decide, zT_2 (i := 8) rfl rfl, rfl, rfl⟩) rfl rfl (h.at (by omega) (by omega) (v_U_0)) (by omega) (fun i j => by omega) ?_
  refine g_aload_n 0 e_U_init_12 rfl rfl ?_
  refine g_bipush (32 : Int32) e_U_init_13 (by decide) ?_
  refine k_newA (sz := 32) e_U_init_15 sy_119 (fun k => dz_hole (h.arr (by omega) (by omega) sy_119 (by decide) k)) rfl (by decide) na_long (by decide) (by decide) (by omega) (by omega) ?_
  refine k_putF (D' := (fun i k => i < 0)) e_U_init_17 sy_117 (by omega) (⟨_, rfl, by decide, zT_2 (i := 9) rfl rfl, rfl, rfl⟩) rfl rfl (h.at (by omega) (by omega) (v_U_1)) (by omega) (fun i j => by omega) ?_
  refine g_aload_n 0 e_U_init_20 rfl rfl ?_
  refine g_iconst (0 : Int32) e_U_init_21 (by decide) ?_
  refine k_put0 e_U_init_22 sy_117 (by omega) (⟨_, rfl, by decide, zT_2 (i := 10) rfl rfl, rfl⟩) rfl (by decide) (by decide) (h.at (by omega) (by omega) (z_U 2 (by decide))) ?_
  have hh : hole (fun i k => i < 0) W = W := hole_no (fun i k q => by omega)
  rw [hh]
  exact g_ret none ⟨rfl, e_U_init_25.1⟩ rfl rfl ⟨rfl, rfl⟩
theorem c_H {b : Nat} (hb : isHouse b) {W : Mm} (h : TG (b) (b + 14) W) : Call 2 M_H_init (b + 1) (b + 14) [.ref (b)] (hole (H_H (b)) W) (fun r w => r = none ∧ w = W) := by
  refine call_of_go (by omega) (by decide +kernel) (Nat.le_of_ble_eq_true rfl) ?_
  show Go _ _ _ _ _ 0 [(0, .ref (b))] [] (hole (fun i k => i = b ∧ k < 2) W) _
  refine g_aload_n 0 e_H_init_0 rfl rfl ?_
  refine g_objI e_H_init_1 (zT_1 (i := 40) rfl rfl) oi_2 oi_3 (by decide) (by omega) ?_
  refine g_aload_n 0 e_H_init_4 rfl rfl ?_
  refine g_bipush (6 : Int32) e_H_init_5 (by decide) ?_
  refine k_newQ (D' := (fun i k => i = b + 1 ∧ k < 6 ∨ i = b ∧ k < 2)) (sz := 6) e_H_init_7 (sx_H_1 hb) (by decide) (zT_1 (i := 41) rfl rfl) no_C (by decide) (by decide) (by omega) (by omega) (fun i k => by omega) ?_
  refine k_putF (D' := (fun i k => i = b + 1 ∧ k < 6 ∨ i = b ∧ k = 1)) e_H_init_10 (sx_H_0 hb) (by omega) (⟨_, rfl, by decide, zT_1 (i := 95) rfl rfl, rfl, rfl⟩) rfl rfl (h.at (by omega) (by omega) (v_H_0 hb)) (by omega) (fun i j => by omega) ?_
  refine g_aload_n 0 e_H_init_13 rfl rfl ?_
  refine g_iconst (5 : Int32) e_H_init_14 (by decide) ?_
  refine k_newQ (D' := (fun i k => i = b + 2 ∧ k < 5 ∨ i = b + 1 ∧ k < 6 ∨ i = b ∧ k = 1)) (sz := 5) e_H_init_15 (sx_H_2 hb) (by decide) (zT_1 (i := 43) rfl rfl) no_D (by decide) (by decide) (by omega) (by omega) (fun i k => by omega) ?_
  refine k_putF (D' := (fun i k => i = b + 2 ∧ k < 5 ∨ i = b + 1 ∧ k < 6)) e_H_init_18 (sx_H_0 hb) (by omega) (⟨_, rfl, by decide, zT_1 (i := 99) rfl rfl, rfl, rfl⟩) rfl rfl (h.at (by omega) (by omega) (v_H_1 hb)) (by omega) (fun i j => by omega) ?_
  refine g_aload_n 0 e_H_init_21 rfl rfl ?_
  refine g_iconst (0 : Int32) e_H_init_22 (by decide) ?_
  refine k_put0 e_H_init_23 (sx_H_0 hb) (by omega) (⟨_, rfl, by decide, zT_1 (i := 102) rfl rfl, rfl⟩) rfl (by decide) (by decide) (h.at (by omega) (by omega) (z_H hb 2 (by decide))) ?_
  refine g_aload_n 0 e_H_init_26 rfl rfl ?_
  refine g_iconst (0 : Int32) e_H_init_27 (by decide) ?_
  refine k_put0 e_H_init_28 (sx_H_0 hb) (by omega) (⟨_, rfl, by decide, zT_1 (i := 106) rfl rfl, rfl⟩) rfl (by decide) (by decide) (h.at (by omega) (by omega) (z_H hb 3 (by decide))) ?_
  refine g_aload_n 0 e_H_init_31 rfl rfl ?_
  refine g_iconst (0 : Int32) e_H_init_32 (by decide) ?_
  refine k_put0 e_H_init_33 (sx_H_0 hb) (by omega) (⟨_, rfl, by decide, zT_1 (i := 110) rfl rfl, rfl⟩) rfl (by decide) (by decide) (h.at (by omega) (by omega) (z_H hb 4 (by decide))) ?_
  refine g_iconst (0 : Int32) e_H_init_36 (by decide) ?_
  refine g_istore_n (L' := [(1, .int 0), (0, .ref (b))]) e_H_init_37 rfl (by decide) rfl ?_
  refine g_iload_n 0 e_H_init_38 rfl rfl ?_
  refine g_bipush (6 : Int32) e_H_init_39 (by decide) ?_
  refine g_icmp_ge (tgt := 63) e_H_init_41 rfl (fun h0 => absurd h0 (by decide)) (fun _ => ?_)
  refine g_aload_n 1 e_H_init_44 rfl rfl ?_
  refine g_getR (j := b + 1) e_H_init_45 (sx_H_0 hb) (by omega) (⟨_, rfl, by decide, zT_1 (i := 95) rfl rfl⟩) rfl ((hole_out (by omega)).2.2.trans (h.at (by omega) (by omega) (v_H_0 hb)).2.2) ?_
  refine g_iload_n 0 e_H_init_48 rfl rfl ?_
  refine k_newIN (d' := 1) (n' := b + 4) (r := (RX0, TX0, 4)) (c_C (pp_H_C_3 hb) (h.hole (b' := b + 3) (e' := b + 4) (by omega) (by omega) (fun i k q => by omega))) (ho_C (b + 3)) (nz_C (pp_H_C_3 hb) (h.hole (b' := b + 3) (e' := b + 4) (by omega) (by omega) (fun i k q => by omega)) (Nat.le_refl _) (by omega) (sx_H_3 hb)) (sx_H_3 hb) rfl e_H_init_49 e_H_init_52 e_H_init_53 (zT_1 (i := 41) rfl rfl) ni_C nt_C zm_C_init (⟨"PutOn", zL_1 (i := 46) rfl, zT_1 (i := 47) rfl rfl, rfl, rfl⟩) (Nat.le_of_ble_eq_true rfl) (by omega) (by omega) (by omega) (by omega) ?_
  refine k_ast2 (D' := (fun i k => i = b + 2 ∧ k < 5 ∨ i = b + 1 ∧ (1 ≤ k ∧ k < 6))) (r := (RX0, TX0, 4)) e_H_init_56 (sx_H_1 hb) (by omega) (by decide) (by omega) (sx_H_3 hb) rfl ⟨by decide, by decide⟩ (by decide) (h.at (by omega) (by omega) (el_H_1_0 hb)) (by omega) (fun i j => by omega) ?_
  refine g_iinc (v := (1 : Int32)) (L' := [(1, .int 1), (0, .ref (b))]) 0 e_H_init_57 rfl (by decide) (by decide) rfl ?_
  refine g_goto (tgt := 38) e_H_init_60 rfl ?_
  refine g_iload_n 0 e_H_init_38 rfl rfl ?_
  refine g_bipush (6 : Int32) e_H_init_39 (by decide) ?_
  refine g_icmp_ge (tgt := 63) e_H_init_41 rfl (fun h0 => absurd h0 (by decide)) (fun _ => ?_)
  refine g_aload_n 1 e_H_init_44 rfl rfl ?_
  refine g_getR (j := b + 1) e_H_init_45 (sx_H_0 hb) (by omega) (⟨_, rfl, by decide, zT_1 (i := 95) rfl rfl⟩) rfl ((hole_out (by omega)).2.2.trans (h.at (by omega) (by omega) (v_H_0 hb)).2.2) ?_
  refine g_iload_n 0 e_H_init_48 rfl rfl ?_
  refine k_newIN (d' := 1) (n' := b + 5) (r := (RX0, TX0, 4)) (c_C (pp_H_C_4 hb) (h.hole (b' := b + 4) (e' := b + 5) (by omega) (by omega) (fun i k q => by omega))) (ho_C (b + 4)) (nz_C (pp_H_C_4 hb) (h.hole (b' := b + 4) (e' := b + 5) (by omega) (by omega) (fun i k q => by omega)) (Nat.le_refl _) (by omega) (sx_H_4 hb)) (sx_H_4 hb) rfl e_H_init_49 e_H_init_52 e_H_init_53 (zT_1 (i := 41) rfl rfl) ni_C nt_C zm_C_init (⟨"PutOn", zL_1 (i := 46) rfl, zT_1 (i := 47) rfl rfl, rfl, rfl⟩) (Nat.le_of_ble_eq_true rfl) (by omega) (by omega) (by omega) (by omega) ?_
  refine k_ast2 (D' := (fun i k => i = b + 2 ∧ k < 5 ∨ i = b + 1 ∧ (2 ≤ k ∧ k < 6))) (r := (RX0, TX0, 4)) e_H_init_56 (sx_H_1 hb) (by omega) (by decide) (by omega) (sx_H_4 hb) rfl ⟨by decide, by decide⟩ (by decide) (h.at (by omega) (by omega) (el_H_1_1 hb)) (by omega) (fun i j => by omega) ?_
  refine g_iinc (v := (2 : Int32)) (L' := [(1, .int 2), (0, .ref (b))]) 0 e_H_init_57 rfl (by decide) (by decide) rfl ?_
  refine g_goto (tgt := 38) e_H_init_60 rfl ?_
  refine g_iload_n 0 e_H_init_38 rfl rfl ?_
  refine g_bipush (6 : Int32) e_H_init_39 (by decide) ?_
  refine g_icmp_ge (tgt := 63) e_H_init_41 rfl (fun h0 => absurd h0 (by decide)) (fun _ => ?_)
  refine g_aload_n 1 e_H_init_44 rfl rfl ?_
  refine g_getR (j := b + 1) e_H_init_45 (sx_H_0 hb) (by omega) (⟨_, rfl, by decide, zT_1 (i := 95) rfl rfl⟩) rfl ((hole_out (by omega)).2.2.trans (h.at (by omega) (by omega) (v_H_0 hb)).2.2) ?_
  refine g_iload_n 0 e_H_init_48 rfl rfl ?_
  refine k_newIN (d' := 1) (n' := b + 6) (r := (RX0, TX0, 4)) (c_C (pp_H_C_5 hb) (h.hole (b' := b + 5) (e' := b + 6) (by omega) (by omega) (fun i k q => by omega))) (ho_C (b + 5)) (nz_C (pp_H_C_5 hb) (h.hole (b' := b + 5) (e' := b + 6) (by omega) (by omega) (fun i k q => by omega)) (Nat.le_refl _) (by omega) (sx_H_5 hb)) (sx_H_5 hb) rfl e_H_init_49 e_H_init_52 e_H_init_53 (zT_1 (i := 41) rfl rfl) ni_C nt_C zm_C_init (⟨"PutOn", zL_1 (i := 46) rfl, zT_1 (i := 47) rfl rfl, rfl, rfl⟩) (Nat.le_of_ble_eq_true rfl) (by omega) (by omega) (by omega) (by omega) ?_
  refine k_ast2 (D' := (fun i k => i = b + 2 ∧ k < 5 ∨ i = b + 1 ∧ (3 ≤ k ∧ k < 6))) (r := (RX0, TX0, 4)) e_H_init_56 (sx_H_1 hb) (by omega) (by decide) (by omega) (sx_H_5 hb) rfl ⟨by decide, by decide⟩ (by decide) (h.at (by omega) (by omega) (el_H_1_2 hb)) (by omega) (fun i j => by omega) ?_
  refine g_iinc (v := (3 : Int32)) (L' := [(1, .int 3), (0, .ref (b))]) 0 e_H_init_57 rfl (by decide) (by decide) rfl ?_
  refine g_goto (tgt := 38) e_H_init_60 rfl ?_
  refine g_iload_n 0 e_H_init_38 rfl rfl ?_
  refine g_bipush (6 : Int32) e_H_init_39 (by decide) ?_
  refine g_icmp_ge (tgt := 63) e_H_init_41 rfl (fun h0 => absurd h0 (by decide)) (fun _ => ?_)
  refine g_aload_n 1 e_H_init_44 rfl rfl ?_
  refine g_getR (j := b + 1) e_H_init_45 (sx_H_0 hb) (by omega) (⟨_, rfl, by decide, zT_1 (i := 95) rfl rfl⟩) rfl ((hole_out (by omega)).2.2.trans (h.at (by omega) (by omega) (v_H_0 hb)).2.2) ?_
  refine g_iload_n 0 e_H_init_48 rfl rfl ?_
  refine k_newIN (d' := 1) (n' := b + 7) (r := (RX0, TX0, 4)) (c_C (pp_H_C_6 hb) (h.hole (b' := b + 6) (e' := b + 7) (by omega) (by omega) (fun i k q => by omega))) (ho_C (b + 6)) (nz_C (pp_H_C_6 hb) (h.hole (b' := b + 6) (e' := b + 7) (by omega) (by omega) (fun i k q => by omega)) (Nat.le_refl _) (by omega) (sx_H_6 hb)) (sx_H_6 hb) rfl e_H_init_49 e_H_init_52 e_H_init_53 (zT_1 (i := 41) rfl rfl) ni_C nt_C zm_C_init (⟨"PutOn", zL_1 (i := 46) rfl, zT_1 (i := 47) rfl rfl, rfl, rfl⟩) (Nat.le_of_ble_eq_true rfl) (by omega) (by omega) (by omega) (by omega) ?_
  refine k_ast2 (D' := (fun i k => i = b + 2 ∧ k < 5 ∨ i = b + 1 ∧ (4 ≤ k ∧ k < 6))) (r := (RX0, TX0, 4)) e_H_init_56 (sx_H_1 hb) (by omega) (by decide) (by omega) (sx_H_6 hb) rfl ⟨by decide, by decide⟩ (by decide) (h.at (by omega) (by omega) (el_H_1_3 hb)) (by omega) (fun i j => by omega) ?_
  refine g_iinc (v := (4 : Int32)) (L' := [(1, .int 4), (0, .ref (b))]) 0 e_H_init_57 rfl (by decide) (by decide) rfl ?_
  refine g_goto (tgt := 38) e_H_init_60 rfl ?_
  refine g_iload_n 0 e_H_init_38 rfl rfl ?_
  refine g_bipush (6 : Int32) e_H_init_39 (by decide) ?_
  refine g_icmp_ge (tgt := 63) e_H_init_41 rfl (fun h0 => absurd h0 (by decide)) (fun _ => ?_)
  refine g_aload_n 1 e_H_init_44 rfl rfl ?_
  refine g_getR (j := b + 1) e_H_init_45 (sx_H_0 hb) (by omega) (⟨_, rfl, by decide, zT_1 (i := 95) rfl rfl⟩) rfl ((hole_out (by omega)).2.2.trans (h.at (by omega) (by omega) (v_H_0 hb)).2.2) ?_
  refine g_iload_n 0 e_H_init_48 rfl rfl ?_
  refine k_newIN (d' := 1) (n' := b + 8) (r := (RX0, TX0, 4)) (c_C (pp_H_C_7 hb) (h.hole (b' := b + 7) (e' := b + 8) (by omega) (by omega) (fun i k q => by omega))) (ho_C (b + 7)) (nz_C (pp_H_C_7 hb) (h.hole (b' := b + 7) (e' := b + 8) (by omega) (by omega) (fun i k q => by omega)) (Nat.le_refl _) (by omega) (sx_H_7 hb)) (sx_H_7 hb) rfl e_H_init_49 e_H_init_52 e_H_init_53 (zT_1 (i := 41) rfl rfl) ni_C nt_C zm_C_init (⟨"PutOn", zL_1 (i := 46) rfl, zT_1 (i := 47) rfl rfl, rfl, rfl⟩) (Nat.le_of_ble_eq_true rfl) (by omega) (by omega) (by omega) (by omega) ?_
  refine k_ast2 (D' := (fun i k => i = b + 2 ∧ k < 5 ∨ i = b + 1 ∧ k = 5)) (r := (RX0, TX0, 4)) e_H_init_56 (sx_H_1 hb) (by omega) (by decide) (by omega) (sx_H_7 hb) rfl ⟨by decide, by decide⟩ (by decide) (h.at (by omega) (by omega) (el_H_1_4 hb)) (by omega) (fun i j => by omega) ?_
  refine g_iinc (v := (5 : Int32)) (L' := [(1, .int 5), (0, .ref (b))]) 0 e_H_init_57 rfl (by decide) (by decide) rfl ?_
  refine g_goto (tgt := 38) e_H_init_60 rfl ?_
  refine g_iload_n 0 e_H_init_38 rfl rfl ?_
  refine g_bipush (6 : Int32) e_H_init_39 (by decide) ?_
  refine g_icmp_ge (tgt := 63) e_H_init_41 rfl (fun h0 => absurd h0 (by decide)) (fun _ => ?_)
  refine g_aload_n 1 e_H_init_44 rfl rfl ?_
  refine g_getR (j := b + 1) e_H_init_45 (sx_H_0 hb) (by omega) (⟨_, rfl, by decide, zT_1 (i := 95) rfl rfl⟩) rfl ((hole_out (by omega)).2.2.trans (h.at (by omega) (by omega) (v_H_0 hb)).2.2) ?_
  refine g_iload_n 0 e_H_init_48 rfl rfl ?_
  refine k_newIN (d' := 1) (n' := b + 9) (r := (RX0, TX0, 4)) (c_C (pp_H_C_8 hb) (h.hole (b' := b + 8) (e' := b + 9) (by omega) (by omega) (fun i k q => by omega))) (ho_C (b + 8)) (nz_C (pp_H_C_8 hb) (h.hole (b' := b + 8) (e' := b + 9) (by omega) (by omega) (fun i k q => by omega)) (Nat.le_refl _) (by omega) (sx_H_8 hb)) (sx_H_8 hb) rfl e_H_init_49 e_H_init_52 e_H_init_53 (zT_1 (i := 41) rfl rfl) ni_C nt_C zm_C_init (⟨"PutOn", zL_1 (i := 46) rfl, zT_1 (i := 47) rfl rfl, rfl, rfl⟩) (Nat.le_of_ble_eq_true rfl) (by omega) (by omega) (by omega) (by omega) ?_
  refine k_ast2 (D' := (fun i k => i = b + 2 ∧ k < 5)) (r := (RX0, TX0, 4)) e_H_init_56 (sx_H_1 hb) (by omega) (by decide) (by omega) (sx_H_8 hb) rfl ⟨by decide, by decide⟩ (by decide) (h.at (by omega) (by omega) (el_H_1_5 hb)) (by omega) (fun i j => by omega) ?_
  refine g_iinc (v := (6 : Int32)) (L' := [(1, .int 6), (0, .ref (b))]) 0 e_H_init_57 rfl (by decide) (by decide) rfl ?_
  refine g_goto (tgt := 38) e_H_init_60 rfl ?_
  refine g_iload_n 0 e_H_init_38 rfl rfl ?_
  refine g_bipush (6 : Int32) e_H_init_39 (by decide) ?_
  refine g_icmp_ge (tgt := 63) e_H_init_41 rfl (fun _ => ?_) (fun h0 => absurd h0 (by decide))
  refine g_iconst (0 : Int32) e_H_init_63 (by decide) ?_
  refine g_istore_n (L' := [(1, .int 0), (0, .ref (b))]) e_H_init_64 rfl (by decide) rfl ?_
  refine g_iload_n 0 e_H_init_65 rfl rfl ?_
  refine g_iconst (5 : Int32) e_H_init_66 (by decide) ?_
  refine g_icmp_ge (tgt := 89) e_H_init_67 rfl (fun h0 => absurd h0 (by decide)) (fun _ => ?_)
  refine g_aload_n 1 e_H_init_70 rfl rfl ?_
  refine g_getR (j := b + 2) e_H_init_71 (sx_H_0 hb) (by omega) (⟨_, rfl, by decide, zT_1 (i := 99) rfl rfl⟩) rfl ((hole_out (by omega)).2.2.trans (h.at (by omega) (by omega) (v_H_1 hb)).2.2) ?_
  refine g_iload_n 0 e_H_init_74 rfl rfl ?_
  refine k_newIN (d' := 1) (n' := b + 10) (r := (RX1, TX1, 3)) (c_D (pp_H_D_9 hb) (h.hole (b' := b + 9) (e' := b + 10) (by omega) (by omega) (fun i k q => by omega))) (ho_D (b + 9)) (nz_D (pp_H_D_9 hb) (h.hole (b' := b + 9) (e' := b + 10) (by omega) (by omega) (fun i k q => by omega)) (Nat.le_refl _) (by omega) (sx_H_9 hb)) (sx_H_9 hb) rfl e_H_init_75 e_H_init_78 e_H_init_79 (zT_1 (i := 43) rfl rfl) ni_D nt_D zm_D_init (⟨"PutOn", zL_1 (i := 77) rfl, zT_1 (i := 78) rfl rfl, rfl, rfl⟩) (Nat.le_of_ble_eq_true rfl) (by omega) (by omega) (by omega) (by omega) ?_
  refine k_ast2 (D' := (fun i k => i = b + 2 ∧ (1 ≤ k ∧ k < 5))) (r := (RX1, TX1, 3)) e_H_init_82 (sx_H_2 hb) (by omega) (by decide) (by omega) (sx_H_9 hb) rfl ⟨by decide, by decide⟩ (by decide) (h.at (by omega) (by omega) (el_H_2_0 hb)) (by omega) (fun i j => by omega) ?_
  refine g_iinc (v := (1 : Int32)) (L' := [(1, .int 1), (0, .ref (b))]) 0 e_H_init_83 rfl (by decide) (by decide) rfl ?_
  refine g_goto (tgt := 65) e_H_init_86 rfl ?_
  refine g_iload_n 0 e_H_init_65 rfl rfl ?_
  refine g_iconst (5 : Int32) e_H_init_66 (by decide) ?_
  refine g_icmp_ge (tgt := 89) e_H_init_67 rfl (fun h0 => absurd h0 (by decide)) (fun _ => ?_)
  refine g_aload_n 1 e_H_init_70 rfl rfl ?_
  refine g_getR (j := b + 2) e_H_init_71 (sx_H_0 hb) (by omega) (⟨_, rfl, by decide, zT_1 (i := 99) rfl rfl⟩) rfl ((hole_out (by omega)).2.2.trans (h.at (by omega) (by omega) (v_H_1 hb)).2.2) ?_
  refine g_iload_n 0 e_H_init_74 rfl rfl ?_
  refine k_newIN (d' := 1) (n' := b + 11) (r := (RX1, TX1, 3)) (c_D (pp_H_D_10 hb) (h.hole (b' := b + 10) (e' := b + 11) (by omega) (by omega) (fun i k q => by omega))) (ho_D (b + 10)) (nz_D (pp_H_D_10 hb) (h.hole (b' := b + 10) (e' := b + 11) (by omega) (by omega) (fun i k q => by omega)) (Nat.le_refl _) (by omega) (sx_H_10 hb)) (sx_H_10 hb) rfl e_H_init_75 e_H_init_78 e_H_init_79 (zT_1 (i := 43) rfl rfl) ni_D nt_D zm_D_init (⟨"PutOn", zL_1 (i := 77) rfl, zT_1 (i := 78) rfl rfl, rfl, rfl⟩) (Nat.le_of_ble_eq_true rfl) (by omega) (by omega) (by omega) (by omega) ?_
  refine k_ast2 (D' := (fun i k => i = b + 2 ∧ (2 ≤ k ∧ k < 5))) (r := (RX1, TX1, 3)) e_H_init_82 (sx_H_2 hb) (by omega) (by decide) (by omega) (sx_H_10 hb) rfl ⟨by decide, by decide⟩ (by decide) (h.at (by omega) (by omega) (el_H_2_1 hb)) (by omega) (fun i j => by omega) ?_
  refine g_iinc (v := (2 : Int32)) (L' := [(1, .int 2), (0, .ref (b))]) 0 e_H_init_83 rfl (by decide) (by decide) rfl ?_
  refine g_goto (tgt := 65) e_H_init_86 rfl ?_
  refine g_iload_n 0 e_H_init_65 rfl rfl ?_
  refine g_iconst (5 : Int32) e_H_init_66 (by decide) ?_
  refine g_icmp_ge (tgt := 89) e_H_init_67 rfl (fun h0 => absurd h0 (by decide)) (fun _ => ?_)
  refine g_aload_n 1 e_H_init_70 rfl rfl ?_
  refine g_getR (j := b + 2) e_H_init_71 (sx_H_0 hb) (by omega) (⟨_, rfl, by decide, zT_1 (i := 99) rfl rfl⟩) rfl ((hole_out (by omega)).2.2.trans (h.at (by omega) (by omega) (v_H_1 hb)).2.2) ?_
  refine g_iload_n 0 e_H_init_74 rfl rfl ?_
  refine k_newIN (d' := 1) (n' := b + 12) (r := (RX1, TX1, 3)) (c_D (pp_H_D_11 hb) (h.hole (b' := b + 11) (e' := b + 12) (by omega) (by omega) (fun i k q => by omega))) (ho_D (b + 11)) (nz_D (pp_H_D_11 hb) (h.hole (b' := b + 11) (e' := b + 12) (by omega) (by omega) (fun i k q => by omega)) (Nat.le_refl _) (by omega) (sx_H_11 hb)) (sx_H_11 hb) rfl e_H_init_75 e_H_init_78 e_H_init_79 (zT_1 (i := 43) rfl rfl) ni_D nt_D zm_D_init (⟨"PutOn", zL_1 (i := 77) rfl, zT_1 (i := 78) rfl rfl, rfl, rfl⟩) (Nat.le_of_ble_eq_true rfl) (by omega) (by omega) (by omega) (by omega) ?_
  refine k_ast2 (D' := (fun i k => i = b + 2 ∧ (3 ≤ k ∧ k < 5))) (r := (RX1, TX1, 3)) e_H_init_82 (sx_H_2 hb) (by omega) (by decide) (by omega) (sx_H_11 hb) rfl ⟨by decide, by decide⟩ (by decide) (h.at (by omega) (by omega) (el_H_2_2 hb)) (by omega) (fun i j => by omega) ?_
  refine g_iinc (v := (3 : Int32)) (L' := [(1, .int 3), (0, .ref (b))]) 0 e_H_init_83 rfl (by decide) (by decide) rfl ?_
  refine g_goto (tgt := 65) e_H_init_86 rfl ?_
  refine g_iload_n 0 e_H_init_65 rfl rfl ?_
  refine g_iconst (5 : Int32) e_H_init_66 (by decide) ?_
  refine g_icmp_ge (tgt := 89) e_H_init_67 rfl (fun h0 => absurd h0 (by decide)) (fun _ => ?_)
  refine g_aload_n 1 e_H_init_70 rfl rfl ?_
  refine g_getR (j := b + 2) e_H_init_71 (sx_H_0 hb) (by omega) (⟨_, rfl, by decide, zT_1 (i := 99) rfl rfl⟩) rfl ((hole_out (by omega)).2.2.trans (h.at (by omega) (by omega) (v_H_1 hb)).2.2) ?_
  refine g_iload_n 0 e_H_init_74 rfl rfl ?_
  refine k_newIN (d' := 1) (n' := b + 13) (r := (RX1, TX1, 3)) (c_D (pp_H_D_12 hb) (h.hole (b' := b + 12) (e' := b + 13) (by omega) (by omega) (fun i k q => by omega))) (ho_D (b + 12)) (nz_D (pp_H_D_12 hb) (h.hole (b' := b + 12) (e' := b + 13) (by omega) (by omega) (fun i k q => by omega)) (Nat.le_refl _) (by omega) (sx_H_12 hb)) (sx_H_12 hb) rfl e_H_init_75 e_H_init_78 e_H_init_79 (zT_1 (i := 43) rfl rfl) ni_D nt_D zm_D_init (⟨"PutOn", zL_1 (i := 77) rfl, zT_1 (i := 78) rfl rfl, rfl, rfl⟩) (Nat.le_of_ble_eq_true rfl) (by omega) (by omega) (by omega) (by omega) ?_
  refine k_ast2 (D' := (fun i k => i = b + 2 ∧ k = 4)) (r := (RX1, TX1, 3)) e_H_init_82 (sx_H_2 hb) (by omega) (by decide) (by omega) (sx_H_12 hb) rfl ⟨by decide, by decide⟩ (by decide) (h.at (by omega) (by omega) (el_H_2_3 hb)) (by omega) (fun i j => by omega) ?_
  refine g_iinc (v := (4 : Int32)) (L' := [(1, .int 4), (0, .ref (b))]) 0 e_H_init_83 rfl (by decide) (by decide) rfl ?_
  refine g_goto (tgt := 65) e_H_init_86 rfl ?_
  refine g_iload_n 0 e_H_init_65 rfl rfl ?_
  refine g_iconst (5 : Int32) e_H_init_66 (by decide) ?_
  refine g_icmp_ge (tgt := 89) e_H_init_67 rfl (fun h0 => absurd h0 (by decide)) (fun _ => ?_)
  refine g_aload_n 1 e_H_init_70 rfl rfl ?_
  refine g_getR (j := b + 2) e_H_init_71 (sx_H_0 hb) (by omega) (⟨_, rfl, by decide, zT_1 (i := 99) rfl rfl⟩) rfl ((hole_out (by omega)).2.2.trans (h.at (by omega) (by omega) (v_H_1 hb)).2.2) ?_
  refine g_iload_n 0 e_H_init_74 rfl rfl ?_
  refine k_newIN (d' := 1) (n' := b + 14) (r := (RX1, TX1, 3)) (c_D (pp_H_D_13 hb) (h.hole (b' := b + 13) (e' := b + 14) (by omega) (by omega) (fun i k q => by omega))) (ho_D (b + 13)) (nz_D (pp_H_D_13 hb) (h.hole (b' := b + 13) (e' := b + 14) (by omega) (by omega) (fun i k q => by omega)) (Nat.le_refl _) (by omega) (sx_H_13 hb)) (sx_H_13 hb) rfl e_H_init_75 e_H_init_78 e_H_init_79 (zT_1 (i := 43) rfl rfl) ni_D nt_D zm_D_init (⟨"PutOn", zL_1 (i := 77) rfl, zT_1 (i := 78) rfl rfl, rfl, rfl⟩) (Nat.le_of_ble_eq_true rfl) (by omega) (by omega) (by omega) (by omega) ?_
  refine k_ast2 (D' := (fun i k => i < 0)) (r := (RX1, TX1, 3)) e_H_init_82 (sx_H_2 hb) (by omega) (by decide) (by omega) (sx_H_13 hb) rfl ⟨by decide, by decide⟩ (by decide) (h.at (by omega) (by omega) (el_H_2_4 hb)) (by omega) (fun i j => by omega) ?_
  refine g_iinc (v := (5 : Int32)) (L' := [(1, .int 5), (0, .ref (b))]) 0 e_H_init_83 rfl (by decide) (by decide) rfl ?_
  refine g_goto (tgt := 65) e_H_init_86 rfl ?_
  refine g_iload_n 0 e_H_init_65 rfl rfl ?_
  refine g_iconst (5 : Int32) e_H_init_66 (by decide) ?_
  refine g_icmp_ge (tgt := 89) e_H_init_67 rfl (fun _ => ?_) (fun h0 => absurd h0 (by decide))
  have hh : hole (fun i k => i < 0) W = W := hole_no (fun i k q => by omega)
  rw [hh]
  exact g_ret none ⟨rfl, e_H_init_89.1⟩ rfl rfl ⟨rfl, rfl⟩
theorem c_K {W : Mm} (h : TG (116) (121) W) : Call 2 M_K_init (117) (121) [.ref (116)] (hole (H_K (116)) W) (fun r w => r = none ∧ w = W) := by
  refine call_of_go (by omega) (by decide +kernel) (Nat.le_of_ble_eq_true rfl) ?_
  show Go _ _ _ _ _ 0 [(0, .ref (116))] [] (hole (fun i k => i = 116 ∧ k < 2) W) _
  refine g_aload_n 0 e_K_init_0 rfl rfl ?_
  refine g_objI e_K_init_1 (zT_2 (i := 1) rfl rfl) oi_2 oi_3 (by decide) (by omega) ?_
  refine g_aload_n 0 e_K_init_4 rfl rfl ?_
  refine k_newIN (d' := 1) (n' := 120) (r := (RX6, TX6, 3)) (c_U (h.hole (b' := 117) (e' := 120) (by omega) (by omega) (fun i k q => by omega))) (ho_U (117)) (nz_U (h.hole (b' := 117) (e' := 120) (by omega) (by omega) (fun i k q => by omega)) (Nat.le_refl _) (by omega) sy_117) sy_117 rfl e_K_init_5 e_K_init_8 e_K_init_9 (zT_2 (i := 2) rfl rfl) ni_U nt_U zm_U_init (⟨"PutOn", zL_2 (i := 4) rfl, zT_2 (i := 5) rfl rfl, rfl, rfl⟩) (Nat.le_of_ble_eq_true rfl) (by omega) (by omega) (by omega) (by omega) ?_
  refine k_putF (D' := (fun i k => i = 116 ∧ k = 1)) e_K_init_12 sy_116 (by omega) (⟨_, rfl, by decide, zT_2 (i := 19) rfl rfl, rfl, rfl⟩) rfl rfl (h.at (by omega) (by omega) (v_K_0)) (by omega) (fun i j => by omega) ?_
  refine g_aload_n 0 e_K_init_15 rfl rfl ?_
  refine g_bipush (64 : Int32) e_K_init_16 (by decide) ?_
  refine k_newA (sz := 64) e_K_init_18 sy_120 (fun k => dz_hole (h.arr (by omega) (by omega) sy_120 (by decide) k)) rfl (by decide) na_boolean (by decide) (by decide) (by omega) (by omega) ?_
  refine k_putF (D' := (fun i k => i < 0)) e_K_init_20 sy_116 (by omega) (⟨_, rfl, by decide, zT_2 (i := 20) rfl rfl, rfl, rfl⟩) rfl rfl (h.at (by omega) (by omega) (v_K_1)) (by omega) (fun i j => by omega) ?_
  have hh : hole (fun i k => i < 0) W = W := hole_no (fun i k q => by omega)
  rw [hh]
  exact g_ret none ⟨rfl, e_K_init_23.1⟩ rfl rfl ⟨rfl, rfl⟩
theorem c_R {W : Mm} (h : TG (108) (116) W) : Call 2 M_R_init (109) (116) [.ref (108)] (hole (H_R (108)) W) (fun r w => r = none ∧ w = W) := by
  refine call_of_go (by omega) (by decide +kernel) (Nat.le_of_ble_eq_true rfl) ?_
  show Go _ _ _ _ _ 0 [(0, .ref (108))] [] (hole (fun i k => i = 108 ∧ (k < 3 ∨ k = 5)) W) _
  refine g_aload_n 0 e_R_init_0 rfl rfl ?_
  refine g_objI e_R_init_1 (zT_1 (i := 213) rfl rfl) oi_2 oi_3 (by decide) (by omega) ?_
  refine g_aload_n 0 e_R_init_4 rfl rfl ?_
  refine g_sipush (161 : Int32) e_R_init_5 (by decide) ?_
  refine k_newA (sz := 161) e_R_init_8 sy_109 (fun k => dz_hole (h.arr (by omega) (by omega) sy_109 (by decide) k)) rfl (by decide) na_int (by decide) (by decide) (by omega) (by omega) ?_
  refine k_putF (D' := (fun i k => i = 108 ∧ ((1 ≤ k ∧ k < 3) ∨ k = 5))) e_R_init_10 sy_108 (by omega) (⟨_, rfl, by decide, zT_1 (i := 216) rfl rfl, rfl, rfl⟩) rfl rfl (h.at (by omega) (by omega) (v_R_0)) (by omega) (fun i j => by omega) ?_
  refine g_aload_n 0 e_R_init_13 rfl rfl ?_
  refine g_sipush (161 : Int32) e_R_init_14 (by decide) ?_
  refine k_newA (sz := 161) e_R_init_17 sy_110 (fun k => dz_hole (h.arr (by omega) (by omega) sy_110 (by decide) k)) rfl (by decide) na_int (by decide) (by decide) (by omega) (by omega) ?_
  refine k_putF (D' := (fun i k => i = 108 ∧ (k = 2 ∨ k = 5))) e_R_init_19 sy_108 (by omega) (⟨_, rfl, by decide, zT_1 (i := 217) rfl rfl, rfl, rfl⟩) rfl rfl (h.at (by omega) (by omega) (v_R_1)) (by omega) (fun i j => by omega) ?_
  refine g_aload_n 0 e_R_init_22 rfl rfl ?_
  refine g_sipush (161 : Int32) e_R_init_23 (by decide) ?_
  refine k_newA (sz := 161) e_R_init_26 sy_111 (fun k => dz_hole (h.arr (by omega) (by omega) sy_111 (by decide) k)) rfl (by decide) na_int (by decide) (by decide) (by omega) (by omega) ?_
  refine k_putF (D' := (fun i k => i = 108 ∧ k = 5)) e_R_init_28 sy_108 (by omega) (⟨_, rfl, by decide, zT_1 (i := 218) rfl rfl, rfl, rfl⟩) rfl rfl (h.at (by omega) (by omega) (v_R_2)) (by omega) (fun i j => by omega) ?_
  refine g_aload_n 0 e_R_init_31 rfl rfl ?_
  refine g_iconst (0 : Int32) e_R_init_32 (by decide) ?_
  refine k_put0 e_R_init_33 sy_108 (by omega) (⟨_, rfl, by decide, zT_1 (i := 219) rfl rfl, rfl⟩) rfl (by decide) (by decide) (h.at (by omega) (by omega) (z_R 3 (by decide))) ?_
  refine g_aload_n 0 e_R_init_36 rfl rfl ?_
  refine g_iconst (0 : Int32) e_R_init_37 (by decide) ?_
  refine k_put0 e_R_init_38 sy_108 (by omega) (⟨_, rfl, by decide, zT_1 (i := 220) rfl rfl, rfl⟩) rfl (by decide) (by decide) (h.at (by omega) (by omega) (z_R 4 (by decide))) ?_
  refine g_aload_n 0 e_R_init_41 rfl rfl ?_
  refine k_newIN (d' := 1) (n' := 116) (r := (RX7, TX7, 5)) (c_T (by unfold isText; decide) (h.hole (b' := 112) (e' := 116) (by omega) (by omega) (fun i k q => by omega))) (ho_T (112)) (nz_T (by unfold isText; decide) (h.hole (b' := 112) (e' := 116) (by omega) (by omega) (fun i k q => by omega)) (Nat.le_refl _) (by omega) sy_112) sy_112 rfl e_R_init_42 e_R_init_45 e_R_init_46 (zT_1 (i := 214) rfl rfl) ni_T nt_T zm_T_init (⟨"PutOn", zL_1 (i := 215) rfl, zT_1 (i := 126) rfl rfl, rfl, rfl⟩) (Nat.le_of_ble_eq_true rfl) (by omega) (by omega) (by omega) (by omega) ?_
  refine k_putF (D' := (fun i k => i < 0)) e_R_init_49 sy_108 (by omega) (⟨_, rfl, by decide, zT_1 (i := 221) rfl rfl, rfl, rfl⟩) rfl rfl (h.at (by omega) (by omega) (v_R_5)) (by omega) (fun i j => by omega) ?_
  have hh : hole (fun i k => i < 0) W = W := hole_no (fun i k q => by omega)
  rw [hh]
  exact g_ret none ⟨rfl, e_R_init_52.1⟩ rfl rfl ⟨rfl, rfl⟩
theorem c_W {W : Mm} (h : TG (1) (92) W) : Call 3 M_W_init (2) (92) [.ref (1)] (hole (H_W (1)) W) (fun r w => r = none ∧ w = W) := by
  refine call_of_go (by omega) (by decide +kernel) (Nat.le_of_ble_eq_true rfl) ?_
  show Go _ _ _ _ _ 0 [(0, .ref (1))] [] (hole (fun i k => i = 1 ∧ (k < 10 ∨ k = 12)) W) _
  refine g_aload_n 0 e_W_init_0 rfl rfl ?_
  refine g_objI e_W_init_1 (zT_1 (i := 32) rfl rfl) oi_2 oi_3 (by decide) (by omega) ?_
  refine g_aload_n 0 e_W_init_4 rfl rfl ?_
  refine g_bipush (32 : Int32) e_W_init_5 (by decide) ?_
  refine g_bipush (6 : Int32) e_W_init_7 (by decide) ?_
  refine k_mna e_W_init_9 sy_2 wq_2 (zT_1 (i := 33) rfl rfl) (by omega) (by omega) (wr_2 (h.hole (b' := 2) (by omega) (Nat.le_refl _) (fun i k q => by omega)) (by omega) (by omega)) (fun j hj k => dz_hole (h.arr (by omega) (by omega) (wq_2 j hj) (by decide) k)) ?_
  refine k_putF (D' := (fun i k => i = 1 ∧ ((1 ≤ k ∧ k < 10) ∨ k = 12))) e_W_init_13 sy_1 (by omega) (⟨_, rfl, by decide, zT_1 (i := 146) rfl rfl, rfl, rfl⟩) rfl rfl (h.at (by omega) (by omega) (v_W_0)) (by omega) (fun i j => by omega) ?_
  refine g_aload_n 0 e_W_init_16 rfl rfl ?_
  refine g_bipush (32 : Int32) e_W_init_17 (by decide) ?_
  refine g_bipush (6 : Int32) e_W_init_19 (by decide) ?_
  refine k_mna e_W_init_21 sy_35 wq_35 (zT_1 (i := 33) rfl rfl) (by omega) (by omega) (wr_35 (h.hole (b' := 35) (by omega) (Nat.le_refl _) (fun i k q => by omega)) (by omega) (by omega)) (fun j hj k => dz_hole (h.arr (by omega) (by omega) (wq_35 j hj) (by decide) k)) ?_
  refine k_putF (D' := (fun i k => i = 1 ∧ ((2 ≤ k ∧ k < 10) ∨ k = 12))) e_W_init_25 sy_1 (by omega) (⟨_, rfl, by decide, zT_1 (i := 149) rfl rfl, rfl, rfl⟩) rfl rfl (h.at (by omega) (by omega) (v_W_1)) (by omega) (fun i j => by omega) ?_
  refine g_aload_n 0 e_W_init_28 rfl rfl ?_
  refine g_bipush (32 : Int32) e_W_init_29 (by decide) ?_
  refine k_newA (sz := 32) e_W_init_31 sy_68 (fun k => dz_hole (h.arr (by omega) (by omega) sy_68 (by decide) k)) rfl (by decide) na_int (by decide) (by decide) (by omega) (by omega) ?_
  refine k_putF (D' := (fun i k => i = 1 ∧ ((3 ≤ k ∧ k < 10) ∨ k = 12))) e_W_init_33 sy_1 (by omega) (⟨_, rfl, by decide, zT_1 (i := 151) rfl rfl, rfl, rfl⟩) rfl rfl (h.at (by omega) (by omega) (v_W_2)) (by omega) (fun i j => by omega) ?_
  refine g_aload_n 0 e_W_init_36 rfl rfl ?_
  refine g_bipush (32 : Int32) e_W_init_37 (by decide) ?_
  refine k_newA (sz := 32) e_W_init_39 sy_69 (fun k => dz_hole (h.arr (by omega) (by omega) sy_69 (by decide) k)) rfl (by decide) na_boolean (by decide) (by decide) (by omega) (by omega) ?_
  refine k_putF (D' := (fun i k => i = 1 ∧ ((4 ≤ k ∧ k < 10) ∨ k = 12))) e_W_init_41 sy_1 (by omega) (⟨_, rfl, by decide, zT_1 (i := 154) rfl rfl, rfl, rfl⟩) rfl rfl (h.at (by omega) (by omega) (v_W_3)) (by omega) (fun i j => by omega) ?_
  refine g_aload_n 0 e_W_init_44 rfl rfl ?_
  refine g_bipush (32 : Int32) e_W_init_45 (by decide) ?_
  refine k_newA (sz := 32) e_W_init_47 sy_70 (fun k => dz_hole (h.arr (by omega) (by omega) sy_70 (by decide) k)) rfl (by decide) na_int (by decide) (by decide) (by omega) (by omega) ?_
  refine k_putF (D' := (fun i k => i = 1 ∧ ((5 ≤ k ∧ k < 10) ∨ k = 12))) e_W_init_49 sy_1 (by omega) (⟨_, rfl, by decide, zT_1 (i := 157) rfl rfl, rfl, rfl⟩) rfl rfl (h.at (by omega) (by omega) (v_W_4)) (by omega) (fun i j => by omega) ?_
  refine g_aload_n 0 e_W_init_52 rfl rfl ?_
  refine g_bipush (32 : Int32) e_W_init_53 (by decide) ?_
  refine k_newA (sz := 32) e_W_init_55 sy_71 (fun k => dz_hole (h.arr (by omega) (by omega) sy_71 (by decide) k)) rfl (by decide) na_long (by decide) (by decide) (by omega) (by omega) ?_
  refine k_putF (D' := (fun i k => i = 1 ∧ ((6 ≤ k ∧ k < 10) ∨ k = 12))) e_W_init_57 sy_1 (by omega) (⟨_, rfl, by decide, zT_1 (i := 160) rfl rfl, rfl, rfl⟩) rfl rfl (h.at (by omega) (by omega) (v_W_5)) (by omega) (fun i j => by omega) ?_
  refine g_aload_n 0 e_W_init_60 rfl rfl ?_
  refine g_iconst (5 : Int32) e_W_init_61 (by decide) ?_
  refine k_newA (sz := 5) e_W_init_62 sy_72 (fun k => dz_hole (h.arr (by omega) (by omega) sy_72 (by decide) k)) rfl (by decide) na_int (by decide) (by decide) (by omega) (by omega) ?_
  refine k_putF (D' := (fun i k => i = 1 ∧ ((7 ≤ k ∧ k < 10) ∨ k = 12))) e_W_init_64 sy_1 (by omega) (⟨_, rfl, by decide, zT_1 (i := 163) rfl rfl, rfl, rfl⟩) rfl rfl (h.at (by omega) (by omega) (v_W_6)) (by omega) (fun i j => by omega) ?_
  refine g_aload_n 0 e_W_init_67 rfl rfl ?_
  refine g_bipush (6 : Int32) e_W_init_68 (by decide) ?_
  refine k_newA (sz := 6) e_W_init_70 sy_73 (fun k => dz_hole (h.arr (by omega) (by omega) sy_73 (by decide) k)) rfl (by decide) na_int (by decide) (by decide) (by omega) (by omega) ?_
  refine k_putF (D' := (fun i k => i = 1 ∧ ((8 ≤ k ∧ k < 10) ∨ k = 12))) e_W_init_72 sy_1 (by omega) (⟨_, rfl, by decide, zT_1 (i := 165) rfl rfl, rfl, rfl⟩) rfl rfl (h.at (by omega) (by omega) (v_W_7)) (by omega) (fun i j => by omega) ?_
  refine g_aload_n 0 e_W_init_75 rfl rfl ?_
  refine k_newI (d' := 2) (n' := 88) (r := (RX2, TX2, 5)) (c_H (by unfold isHouse; decide) (h.hole (b' := 74) (e' := 88) (by omega) (by omega) (fun i k q => by omega))) (ho_H (74)) (nz_H (by unfold isHouse; decide) (h.hole (b' := 74) (e' := 88) (by omega) (by omega) (fun i k q => by omega)) (Nat.le_refl _) (by omega) sy_74) sy_74 rfl e_W_init_76 e_W_init_79 e_W_init_80 (zT_1 (i := 35) rfl rfl) ni_H nt_H zm_H_init (⟨zT_1 (i := 37) rfl rfl, zT_1 (i := 38) rfl rfl, rfl, rfl⟩) (Nat.le_of_ble_eq_true rfl) (by omega) (by omega) (by omega) (by omega) ?_
  refine k_putF (D' := (fun i k => i = 1 ∧ (k = 9 ∨ k = 12))) e_W_init_83 sy_1 (by omega) (⟨_, rfl, by decide, zT_1 (i := 167) rfl rfl, rfl, rfl⟩) rfl rfl (h.at (by omega) (by omega) (v_W_8)) (by omega) (fun i j => by omega) ?_
  refine g_aload_n 0 e_W_init_86 rfl rfl ?_
  refine k_newIN (d' := 1) (n' := 92) (r := (RX7, TX7, 5)) (c_T (by unfold isText; decide) (h.hole (b' := 88) (e' := 92) (by omega) (by omega) (fun i k q => by omega))) (ho_T (88)) (nz_T (by unfold isText; decide) (h.hole (b' := 88) (e' := 92) (by omega) (by omega) (fun i k q => by omega)) (Nat.le_refl _) (by omega) sy_88) sy_88 rfl e_W_init_87 e_W_init_90 e_W_init_91 (zT_1 (i := 123) rfl rfl) ni_T nt_T zm_T_init (⟨"PutOn", zL_1 (i := 125) rfl, zT_1 (i := 126) rfl rfl, rfl, rfl⟩) (Nat.le_of_ble_eq_true rfl) (by omega) (by omega) (by omega) (by omega) ?_
  refine k_putR (D' := (fun i k => i = 1 ∧ k = 12)) e_W_init_94 sy_1 (by omega) (⟨_, rfl, by decide, zT_1 (i := 169) rfl rfl, rfl⟩) rfl (h.at (by omega) (by omega) (v_W_9)) (by omega) (fun i j => by omega) ?_
  refine g_aload_n 0 e_W_init_97 rfl rfl ?_
  refine g_iconst (0 : Int32) e_W_init_98 (by decide) ?_
  refine k_put0 e_W_init_99 sy_1 (by omega) (⟨_, rfl, by decide, zT_1 (i := 170) rfl rfl, rfl⟩) rfl (by decide) (by decide) (h.at (by omega) (by omega) (z_W 10 (by decide))) ?_
  refine g_aload_n 0 e_W_init_102 rfl rfl ?_
  refine g_lconst (0 : Int64) e_W_init_103 (by decide) ?_
  refine k_putJ0 e_W_init_104 sy_1 (by omega) (⟨_, rfl, by decide, zT_1 (i := 172) rfl rfl, rfl⟩) rfl (h.at (by omega) (by omega) (z_W 11 (by decide))) ?_
  refine g_aload_n 0 e_W_init_107 rfl rfl ?_
  refine g_iconst (1 : Int32) e_W_init_108 (by decide) ?_
  refine k_putI (D' := (fun i k => i < 0)) e_W_init_109 sy_1 (by omega) (⟨_, rfl, by decide, zT_1 (i := 175) rfl rfl, rfl⟩) rfl (by decide) (by decide) (h.at (by omega) (by omega) (v_W_12)) (by omega) (fun i j => by omega) ?_
  have hh : hole (fun i k => i < 0) W = W := hole_no (fun i k q => by omega)
  rw [hh]
  exact g_ret none ⟨rfl, e_W_init_112.1⟩ rfl rfl ⟨rfl, rfl⟩
