-- the memory once the constructors are through: ints, longs, and which TEXT the worlds hold
def R0 : List (List (Option Nat)) := [[some 1, some 74, some 92, none, some 106, none, some 107, none, some 108, some 116, some 121], [some 2, some 35, some 68, some 69, some 70, some 71, some 72, some 73, some 74], [some 3, some 4, some 5, some 6, some 7, some 8, some 9, some 10, some 11, some 12, some 13, some 14, some 15, some 16, some 17, some 18, some 19, some 20, some 21, some 22, some 23, some 24, some 25, some 26, some 27, some 28, some 29, some 30, some 31, some 32, some 33, some 34], [], [], [], [], [], [], [], [], [], [], [], [], [], [], [], [], [], [], [], [], [], [], [], [], [], [], [], [], [], [], [], [], [some 36, some 37, some 38, some 39, some 40, some 41, some 42, some 43, some 44, some 45, some 46, some 47, some 48, some 49, some 50, some 51, some 52, some 53, some 54, some 55, some 56, some 57, some 58, some 59, some 60, some 61, some 62, some 63, some 64, some 65, some 66, some 67], [], [], [], [], [], [], [], [], [], [], [], [], [], [], [], [], [], [], [], [], [], [], [], [], [], [], [], [], [], [], [], [], [], [], [], [], [], [], [some 75, some 76], [some 77, some 78, some 79, some 80, some 81, some 82], [some 83, some 84, some 85, some 86, some 87], [], [], [], [], [], [], [], [], [], [], [], [some 89, some 90, some 91], [], [], [], [some 93, some 94], [some 95, some 96, some 97, some 98, some 99, some 100], [some 101, some 102, some 103, some 104, some 105], [], [], [], [], [], [], [], [], [], [], [], [some 122, some 126, some 130, some 134, some 138, some 142], [], [some 109, some 110, some 111, none, none, some 112], [], [], [], [some 113, some 114, some 115], [], [], [], [some 117, some 120], [some 118, some 119], [], [], [], [some 146, some 148, some 150, some 152], [some 123, some 124, some 125], [], [], [], [some 127, some 128, some 129], [], [], [], [some 131, some 132, some 133], [], [], [], [some 135, some 136, some 137], [], [], [], [some 139, some 140, some 141], [], [], [], [some 143, some 144, some 145], [], [], [], [some 147], [], [some 149], [], [some 151], [], [some 153], [], [none, some 155, some 156, none, none, some 157, none, some 158, some 159, some 160, some 161, none, some 162, some 163, some 164, none, none, none, none, none, none, none, none, none, none, none, none, none, none, none, none, some 165, some 166, some 167, some 168, some 169, some 170, none, none, none, some 171, some 172, none, none, none, some 173, some 174, some 175, some 176], [], [], [], [], [], [], [], [], [], [], [], [], [], [], [], [], [], [], [], [], [], []]
def Rf (r i k : Nat) : Option Nat := if i = 1 ∧ k = 9 then some r else (R0.getD i []).getD k none
abbrev Vv : Type := (Nat → Nat → Int32) × (Nat → Nat → Int64) × Nat
abbrev em (v : Vv) : Mm := (v.1, v.2.1, Rf v.2.2)
abbrev sI (v : Vv) (i k : Nat) (x : Int32) : Vv := (u2 v.1 i k x, v.2.1, v.2.2)
abbrev sJ (v : Vv) (i k : Nat) (x : Int64) : Vv := (v.1, u2 v.2.1 i k x, v.2.2)
abbrev sR (v : Vv) (r : Nat) : Vv := (v.1, v.2.1, r)
theorem Rf_set (r r' : Nat) : u2 (Rf r) 1 9 (some r') = Rf r' := by
  funext i k
  unfold u2 Rf
  by_cases h : i = 1 ∧ k = 9
  · rw [if_pos h, if_pos h]
  · rw [if_neg h, if_neg h, if_neg h]
def isText (t : Nat) : Prop := t ∈ [88, 112, 122, 126, 130, 134, 138, 142]
def isHouse (t : Nat) : Prop := t ∈ [74, 92]
def isSheet (t : Nat) : Prop := t ∈ [146, 148, 150, 152]
def isClock (t : Nat) : Prop := t ∈ [77, 78, 79, 80, 81, 82, 95, 96, 97, 98, 99, 100]
def isDoer (t : Nat) : Prop := t ∈ [83, 84, 85, 86, 87, 101, 102, 103, 104, 105]
theorem isText_o {t : Nat} (h : isText t) : SH[t]? = some (.inl 7) := by
  have h3 : ∀ t ∈ [88, 112, 122, 126, 130, 134, 138, 142], SH[t]? = some (.inl 7) := by decide +kernel
  exact h3 t h
theorem isHouse_o {t : Nat} (h : isHouse t) : SH[t]? = some (.inl 2) := by
  have h3 : ∀ t ∈ [74, 92], SH[t]? = some (.inl 2) := by decide +kernel
  exact h3 t h
theorem isSheet_o {t : Nat} (h : isSheet t) : SH[t]? = some (.inl 5) := by
  have h3 : ∀ t ∈ [146, 148, 150, 152], SH[t]? = some (.inl 5) := by decide +kernel
  exact h3 t h
theorem isClock_o {t : Nat} (h : isClock t) : SH[t]? = some (.inl 0) := by
  have h3 : ∀ t ∈ [77, 78, 79, 80, 81, 82, 95, 96, 97, 98, 99, 100], SH[t]? = some (.inl 0) := by decide +kernel
  exact h3 t h
theorem isDoer_o {t : Nat} (h : isDoer t) : SH[t]? = some (.inl 1) := by
  have h3 : ∀ t ∈ [83, 84, 85, 86, 87, 101, 102, 103, 104, 105], SH[t]? = some (.inl 1) := by decide +kernel
  exact h3 t h
theorem isText_code {t : Nat} (h : isText t) (r : Nat) : Rf r t 0 = some (t + 1) := by
  have h1 : ¬ (t = 1 ∧ 0 = 9) := fun q => absurd q.2 (by decide)
  unfold Rf
  rw [if_neg h1]
  have h3 : ∀ t ∈ [88, 112, 122, 126, 130, 134, 138, 142], (R0.getD t []).getD 0 none = some (t + 1) := by decide +kernel
  exact h3 t h
theorem isText_code_s {t : Nat} (h : isText t) : SH[t + 1]? = some (.inr (.int, 160)) := by
  have h3 : ∀ t ∈ [88, 112, 122, 126, 130, 134, 138, 142], SH[t + 1]? = some (.inr (.int, 160)) := by decide +kernel
  exact h3 t h
theorem isText_ends {t : Nat} (h : isText t) (r : Nat) : Rf r t 1 = some (t + 2) := by
  have h1 : ¬ (t = 1 ∧ 1 = 9) := fun q => absurd q.2 (by decide)
  unfold Rf
  rw [if_neg h1]
  have h3 : ∀ t ∈ [88, 112, 122, 126, 130, 134, 138, 142], (R0.getD t []).getD 1 none = some (t + 2) := by decide +kernel
  exact h3 t h
theorem isText_ends_s {t : Nat} (h : isText t) : SH[t + 2]? = some (.inr (.int, 3)) := by
  have h3 : ∀ t ∈ [88, 112, 122, 126, 130, 134, 138, 142], SH[t + 2]? = some (.inr (.int, 3)) := by decide +kernel
  exact h3 t h
theorem isText_stack {t : Nat} (h : isText t) (r : Nat) : Rf r t 2 = some (t + 3) := by
  have h1 : ¬ (t = 1 ∧ 2 = 9) := fun q => absurd q.2 (by decide)
  unfold Rf
  rw [if_neg h1]
  have h3 : ∀ t ∈ [88, 112, 122, 126, 130, 134, 138, 142], (R0.getD t []).getD 2 none = some (t + 3) := by decide +kernel
  exact h3 t h
theorem isText_stack_s {t : Nat} (h : isText t) : SH[t + 3]? = some (.inr (.int, 160)) := by
  have h3 : ∀ t ∈ [88, 112, 122, 126, 130, 134, 138, 142], SH[t + 3]? = some (.inr (.int, 160)) := by decide +kernel
  exact h3 t h
theorem isHouse_clocks {t : Nat} (h : isHouse t) (r : Nat) : Rf r t 0 = some (t + 1) := by
  have h1 : ¬ (t = 1 ∧ 0 = 9) := fun q => absurd q.2 (by decide)
  unfold Rf
  rw [if_neg h1]
  have h3 : ∀ t ∈ [74, 92], (R0.getD t []).getD 0 none = some (t + 1) := by decide +kernel
  exact h3 t h
theorem isHouse_clocks_s {t : Nat} (h : isHouse t) : SH[t + 1]? = some (.inr (.object "PutOn$Clock", 6)) := by
  have h3 : ∀ t ∈ [74, 92], SH[t + 1]? = some (.inr (.object "PutOn$Clock", 6)) := by decide +kernel
  exact h3 t h
theorem isHouse_doers {t : Nat} (h : isHouse t) (r : Nat) : Rf r t 1 = some (t + 2) := by
  have h1 : ¬ (t = 1 ∧ 1 = 9) := fun q => absurd q.2 (by decide)
  unfold Rf
  rw [if_neg h1]
  have h3 : ∀ t ∈ [74, 92], (R0.getD t []).getD 1 none = some (t + 2) := by decide +kernel
  exact h3 t h
theorem isHouse_doers_s {t : Nat} (h : isHouse t) : SH[t + 2]? = some (.inr (.object "PutOn$Doer", 5)) := by
  have h3 : ∀ t ∈ [74, 92], SH[t + 2]? = some (.inr (.object "PutOn$Doer", 5)) := by decide +kernel
  exact h3 t h
theorem isSheet_cells {t : Nat} (h : isSheet t) (r : Nat) : Rf r t 0 = some (t + 1) := by
  have h1 : ¬ (t = 1 ∧ 0 = 9) := fun q => absurd q.2 (by decide)
  unfold Rf
  rw [if_neg h1]
  have h3 : ∀ t ∈ [146, 148, 150, 152], (R0.getD t []).getD 0 none = some (t + 1) := by decide +kernel
  exact h3 t h
theorem isSheet_cells_s {t : Nat} (h : isSheet t) : SH[t + 1]? = some (.inr (.int, 40)) := by
  have h3 : ∀ t ∈ [146, 148, 150, 152], SH[t + 1]? = some (.inr (.int, 40)) := by decide +kernel
  exact h3 t h
theorem el_of {x : Int32} {n : Nat} (hx : ib x n) : ix x ∈ List.range n := List.mem_range.mpr (ib_lt hx)
theorem Rf_ne {r i k : Nat} (h : i ≠ 1) : Rf r i k = (R0.getD i []).getD k none := if_neg (fun q => h q.1)
theorem el_74c {x : Int32} (hx : ib x 6) (r : Nat) : Rf r 75 (ix x) = some (77 + ix x) := by
  rw [Rf_ne (by decide)]
  have h : ∀ k ∈ List.range 6, (R0.getD 75 []).getD k none = some (77 + k) := by decide +kernel
  exact h _ (el_of hx)
theorem el_74c_k {x : Int32} (hx : ib x 6) : isClock (77 + ix x) := by
  have h : ∀ k ∈ List.range 6, isClock (77 + k) := by unfold isClock; decide +kernel
  exact h _ (el_of hx)
theorem el_74d {x : Int32} (hx : ib x 5) (r : Nat) : Rf r 76 (ix x) = some (83 + ix x) := by
  rw [Rf_ne (by decide)]
  have h : ∀ k ∈ List.range 5, (R0.getD 76 []).getD k none = some (83 + k) := by decide +kernel
  exact h _ (el_of hx)
theorem el_74d_k {x : Int32} (hx : ib x 5) : isDoer (83 + ix x) := by
  have h : ∀ k ∈ List.range 5, isDoer (83 + k) := by unfold isDoer; decide +kernel
  exact h _ (el_of hx)
theorem el_tx {x : Int32} (hx : ib x 6) (r : Nat) : Rf r 106 (ix x) = some (122 + 4 * ix x) := by
  rw [Rf_ne (by decide)]
  have h : ∀ k ∈ List.range 6, (R0.getD 106 []).getD k none = some (122 + 4 * k) := by decide +kernel
  exact h _ (el_of hx)
theorem el_tx_k {x : Int32} (hx : ib x 6) : isText (122 + 4 * ix x) := by
  have h : ∀ k ∈ List.range 6, isText (122 + 4 * k) := by unfold isText; decide +kernel
  exact h _ (el_of hx)
theorem el_sh {x : Int32} (hx : ib x 4) (r : Nat) : Rf r 121 (ix x) = some (146 + 2 * ix x) := by
  rw [Rf_ne (by decide)]
  have h : ∀ k ∈ List.range 4, (R0.getD 121 []).getD k none = some (146 + 2 * k) := by decide +kernel
  exact h _ (el_of hx)
theorem el_sh_k {x : Int32} (hx : ib x 4) : isSheet (146 + 2 * ix x) := by
  have h : ∀ k ∈ List.range 4, isSheet (146 + 2 * k) := by unfold isSheet; decide +kernel
  exact h _ (el_of hx)
theorem el_at {x : Int32} (hx : ib x 32) (r : Nat) : Rf r 2 (ix x) = some (3 + ix x) := by
  rw [Rf_ne (by decide)]
  have h : ∀ k ∈ List.range 32, (R0.getD 2 []).getD k none = some (3 + k) := by decide +kernel
  exact h _ (el_of hx)
theorem el_dn {x : Int32} (hx : ib x 32) (r : Nat) : Rf r 35 (ix x) = some (36 + ix x) := by
  rw [Rf_ne (by decide)]
  have h : ∀ k ∈ List.range 32, (R0.getD 35 []).getD k none = some (36 + k) := by decide +kernel
  exact h _ (el_of hx)
theorem el_at_s {x : Int32} (hx : ib x 32) : SH[3 + ix x]? = some (.inr (.int, 6)) := by
  have h : ∀ k ∈ List.range 32, SH[3 + k]? = some (.inr (.int, 6)) := by decide +kernel
  exact h _ (el_of hx)
theorem el_dn_s {x : Int32} (hx : ib x 32) : SH[36 + ix x]? = some (.inr (.int, 6)) := by
  have h : ∀ k ∈ List.range 32, SH[36 + k]? = some (.inr (.int, 6)) := by decide +kernel
  exact h _ (el_of hx)
theorem el_hclocks {t : Nat} (ht : isHouse t) {x : Int32} (hx : ib x 6) (r : Nat) : Rf r (t + 1) (ix x) = some (t + 3 + ix x) := by
  rw [Rf_ne (by have h : ∀ t ∈ [74, 92], t + 1 ≠ 1 := by decide
                exact h t ht)]
  have h : ∀ t ∈ [74, 92], ∀ k ∈ List.range 6, (R0.getD (t + 1) []).getD k none = some (t + 3 + k) := by decide +kernel
  exact h t ht _ (el_of hx)
theorem el_hclocks_k {t : Nat} (ht : isHouse t) {x : Int32} (hx : ib x 6) : isClock (t + 3 + ix x) := by
  have h : ∀ t ∈ [74, 92], ∀ k ∈ List.range 6, isClock (t + 3 + k) := by unfold isClock; decide +kernel
  exact h t ht _ (el_of hx)
theorem el_hdoers {t : Nat} (ht : isHouse t) {x : Int32} (hx : ib x 5) (r : Nat) : Rf r (t + 2) (ix x) = some (t + 9 + ix x) := by
  rw [Rf_ne (by have h : ∀ t ∈ [74, 92], t + 2 ≠ 1 := by decide
                exact h t ht)]
  have h : ∀ t ∈ [74, 92], ∀ k ∈ List.range 5, (R0.getD (t + 2) []).getD k none = some (t + 9 + k) := by decide +kernel
  exact h t ht _ (el_of hx)
theorem el_hdoers_k {t : Nat} (ht : isHouse t) {x : Int32} (hx : ib x 5) : isDoer (t + 9 + ix x) := by
  have h : ∀ t ∈ [74, 92], ∀ k ∈ List.range 5, isDoer (t + 9 + k) := by unfold isDoer; decide +kernel
  exact h t ht _ (el_of hx)
theorem sh_0 : SH[0]? = some (.inl 9) := by decide +kernel
theorem sh_1 : SH[1]? = some (.inl 8) := by decide +kernel
theorem sh_2 : SH[2]? = some (.inr (.array .int, 32)) := by decide +kernel
theorem sh_35 : SH[35]? = some (.inr (.array .int, 32)) := by decide +kernel
theorem sh_36 : SH[36]? = some (.inr (.int, 6)) := by decide +kernel
theorem sh_68 : SH[68]? = some (.inr (.int, 32)) := by decide +kernel
theorem sh_69 : SH[69]? = some (.inr (.boolean, 32)) := by decide +kernel
theorem sh_70 : SH[70]? = some (.inr (.int, 32)) := by decide +kernel
theorem sh_71 : SH[71]? = some (.inr (.long, 32)) := by decide +kernel
theorem sh_72 : SH[72]? = some (.inr (.int, 5)) := by decide +kernel
theorem sh_73 : SH[73]? = some (.inr (.int, 6)) := by decide +kernel
theorem sh_74 : SH[74]? = some (.inl 2) := by decide +kernel
theorem sh_75 : SH[75]? = some (.inr (.object "PutOn$Clock", 6)) := by decide +kernel
theorem sh_76 : SH[76]? = some (.inr (.object "PutOn$Doer", 5)) := by decide +kernel
theorem sh_88 : SH[88]? = some (.inl 7) := by decide +kernel
theorem sh_92 : SH[92]? = some (.inl 2) := by decide +kernel
theorem sh_93 : SH[93]? = some (.inr (.object "PutOn$Clock", 6)) := by decide +kernel
theorem sh_94 : SH[94]? = some (.inr (.object "PutOn$Doer", 5)) := by decide +kernel
theorem sh_106 : SH[106]? = some (.inr (.object "PutOn$Text", 6)) := by decide +kernel
theorem sh_107 : SH[107]? = some (.inr (.int, 160)) := by decide +kernel
theorem sh_108 : SH[108]? = some (.inl 4) := by decide +kernel
theorem sh_109 : SH[109]? = some (.inr (.int, 161)) := by decide +kernel
theorem sh_110 : SH[110]? = some (.inr (.int, 161)) := by decide +kernel
theorem sh_111 : SH[111]? = some (.inr (.int, 161)) := by decide +kernel
theorem sh_112 : SH[112]? = some (.inl 7) := by decide +kernel
theorem sh_116 : SH[116]? = some (.inl 3) := by decide +kernel
theorem sh_117 : SH[117]? = some (.inl 6) := by decide +kernel
theorem sh_118 : SH[118]? = some (.inr (.int, 32)) := by decide +kernel
theorem sh_119 : SH[119]? = some (.inr (.long, 32)) := by decide +kernel
theorem sh_120 : SH[120]? = some (.inr (.boolean, 64)) := by decide +kernel
theorem sh_121 : SH[121]? = some (.inr (.object "PutOn$Sheet", 4)) := by decide +kernel
theorem sh_154 : SH[154]? = some (.inl 10) := by decide +kernel
theorem sh_155 : SH[155]? = some (.inr (.int, 960)) := by decide +kernel
theorem sh_156 : SH[156]? = some (.inr (.int, 6)) := by decide +kernel
theorem sh_157 : SH[157]? = some (.inr (.int, 160)) := by decide +kernel
theorem sh_158 : SH[158]? = some (.inr (.int, 6)) := by decide +kernel
theorem sh_159 : SH[159]? = some (.inr (.int, 6)) := by decide +kernel
theorem sh_160 : SH[160]? = some (.inr (.int, 6)) := by decide +kernel
theorem sh_161 : SH[161]? = some (.inr (.int, 6)) := by decide +kernel
theorem sh_162 : SH[162]? = some (.inr (.int, 5)) := by decide +kernel
theorem sh_163 : SH[163]? = some (.inr (.int, 5)) := by decide +kernel
theorem sh_164 : SH[164]? = some (.inr (.int, 5)) := by decide +kernel
theorem sh_165 : SH[165]? = some (.inr (.int, 192)) := by decide +kernel
theorem sh_166 : SH[166]? = some (.inr (.int, 192)) := by decide +kernel
theorem sh_167 : SH[167]? = some (.inr (.long, 32)) := by decide +kernel
theorem sh_168 : SH[168]? = some (.inr (.int, 32)) := by decide +kernel
theorem sh_169 : SH[169]? = some (.inr (.int, 32)) := by decide +kernel
theorem sh_170 : SH[170]? = some (.inr (.int, 32)) := by decide +kernel
theorem sh_171 : SH[171]? = some (.inr (.int, 24)) := by decide +kernel
theorem sh_172 : SH[172]? = some (.inr (.int, 10)) := by decide +kernel
theorem sh_173 : SH[173]? = some (.inr (.boolean, 4)) := by decide +kernel
theorem sh_174 : SH[174]? = some (.inr (.int, 4)) := by decide +kernel
theorem sh_175 : SH[175]? = some (.inr (.int, 4)) := by decide +kernel
theorem sh_176 : SH[176]? = some (.inr (.int, 160)) := by decide +kernel
theorem rf_0_0 (r : Nat) : Rf r 0 0 = some 1 := if_neg (by decide)
theorem rf_0_1 (r : Nat) : Rf r 0 1 = some 74 := if_neg (by decide)
theorem rf_0_2 (r : Nat) : Rf r 0 2 = some 92 := if_neg (by decide)
theorem rf_0_4 (r : Nat) : Rf r 0 4 = some 106 := if_neg (by decide)
theorem rf_0_6 (r : Nat) : Rf r 0 6 = some 107 := if_neg (by decide)
theorem rf_0_8 (r : Nat) : Rf r 0 8 = some 108 := if_neg (by decide)
theorem rf_0_9 (r : Nat) : Rf r 0 9 = some 116 := if_neg (by decide)
theorem rf_0_10 (r : Nat) : Rf r 0 10 = some 121 := if_neg (by decide)
theorem rf_1_0 (r : Nat) : Rf r 1 0 = some 2 := if_neg (by decide)
theorem rf_1_1 (r : Nat) : Rf r 1 1 = some 35 := if_neg (by decide)
theorem rf_1_2 (r : Nat) : Rf r 1 2 = some 68 := if_neg (by decide)
theorem rf_1_3 (r : Nat) : Rf r 1 3 = some 69 := if_neg (by decide)
theorem rf_1_4 (r : Nat) : Rf r 1 4 = some 70 := if_neg (by decide)
theorem rf_1_5 (r : Nat) : Rf r 1 5 = some 71 := if_neg (by decide)
theorem rf_1_6 (r : Nat) : Rf r 1 6 = some 72 := if_neg (by decide)
theorem rf_1_7 (r : Nat) : Rf r 1 7 = some 73 := if_neg (by decide)
theorem rf_1_8 (r : Nat) : Rf r 1 8 = some 74 := if_neg (by decide)
theorem rf_74_0 (r : Nat) : Rf r 74 0 = some 75 := if_neg (by decide)
theorem rf_74_1 (r : Nat) : Rf r 74 1 = some 76 := if_neg (by decide)
theorem rf_108_0 (r : Nat) : Rf r 108 0 = some 109 := if_neg (by decide)
theorem rf_108_1 (r : Nat) : Rf r 108 1 = some 110 := if_neg (by decide)
theorem rf_108_2 (r : Nat) : Rf r 108 2 = some 111 := if_neg (by decide)
theorem rf_108_5 (r : Nat) : Rf r 108 5 = some 112 := if_neg (by decide)
theorem rf_116_0 (r : Nat) : Rf r 116 0 = some 117 := if_neg (by decide)
theorem rf_116_1 (r : Nat) : Rf r 116 1 = some 120 := if_neg (by decide)
theorem rf_117_0 (r : Nat) : Rf r 117 0 = some 118 := if_neg (by decide)
theorem rf_117_1 (r : Nat) : Rf r 117 1 = some 119 := if_neg (by decide)
theorem rf_154_1 (r : Nat) : Rf r 154 1 = some 155 := if_neg (by decide)
theorem rf_154_2 (r : Nat) : Rf r 154 2 = some 156 := if_neg (by decide)
theorem rf_154_5 (r : Nat) : Rf r 154 5 = some 157 := if_neg (by decide)
theorem rf_154_7 (r : Nat) : Rf r 154 7 = some 158 := if_neg (by decide)
theorem rf_154_8 (r : Nat) : Rf r 154 8 = some 159 := if_neg (by decide)
theorem rf_154_9 (r : Nat) : Rf r 154 9 = some 160 := if_neg (by decide)
theorem rf_154_10 (r : Nat) : Rf r 154 10 = some 161 := if_neg (by decide)
theorem rf_154_12 (r : Nat) : Rf r 154 12 = some 162 := if_neg (by decide)
theorem rf_154_13 (r : Nat) : Rf r 154 13 = some 163 := if_neg (by decide)
theorem rf_154_14 (r : Nat) : Rf r 154 14 = some 164 := if_neg (by decide)
theorem rf_154_31 (r : Nat) : Rf r 154 31 = some 165 := if_neg (by decide)
theorem rf_154_32 (r : Nat) : Rf r 154 32 = some 166 := if_neg (by decide)
theorem rf_154_33 (r : Nat) : Rf r 154 33 = some 167 := if_neg (by decide)
theorem rf_154_34 (r : Nat) : Rf r 154 34 = some 168 := if_neg (by decide)
theorem rf_154_35 (r : Nat) : Rf r 154 35 = some 169 := if_neg (by decide)
theorem rf_154_36 (r : Nat) : Rf r 154 36 = some 170 := if_neg (by decide)
theorem rf_154_40 (r : Nat) : Rf r 154 40 = some 171 := if_neg (by decide)
theorem rf_154_41 (r : Nat) : Rf r 154 41 = some 172 := if_neg (by decide)
theorem rf_154_45 (r : Nat) : Rf r 154 45 = some 173 := if_neg (by decide)
theorem rf_154_46 (r : Nat) : Rf r 154 46 = some 174 := if_neg (by decide)
theorem rf_154_47 (r : Nat) : Rf r 154 47 = some 175 := if_neg (by decide)
theorem rf_154_48 (r : Nat) : Rf r 154 48 = some 176 := if_neg (by decide)
abbrev Gp (d : Nat) (M : zM) (pc : Nat) (L : List (Nat × Value)) (S : List Value) (v : Vv) (Q : Option Value → Vv → Prop) : Prop := Go d M NF NF NF pc L S (em v) (fun r w => ∃ v', w = em v' ∧ Q r v')
def Cp (d : Nat) (M : zM) (as : List Value) (v : Vv) (Q : Option Value → Vv → Prop) : Prop := Call d M NF NF as (em v) (fun r w => ∃ v', w = em v' ∧ Q r v')
def bI (b : Bool) : Int32 := if b then 1 else 0
abbrev QI (Q : Int32 → Vv → Prop) : Option Value → Vv → Prop := fun r v => ∃ x, r = some (.int x) ∧ Q x v
abbrev QZ (Q : Bool → Vv → Prop) : Option Value → Vv → Prop := fun r v => ∃ x, r = some (.int (bI x)) ∧ Q x v
abbrev QJ (Q : Int64 → Vv → Prop) : Option Value → Vv → Prop := fun r v => ∃ x, r = some (.long x) ∧ Q x v
abbrev QR (Q : Nat → Vv → Prop) : Option Value → Vv → Prop := fun r v => ∃ x, r = some (.ref x) ∧ Q x v
abbrev QV (Q : Vv → Prop) : Option Value → Vv → Prop := fun r v => r = none ∧ Q v
theorem cp_mono {d : Nat} {M : zM} {as : List Value} {v : Vv} {Q Q' : Option Value → Vv → Prop} (h : Cp d M as v Q') (hQ : ∀ r v, Q' r v → Q r v) : Cp d M as v Q := call_mono h (fun r w ⟨v', h1, h2⟩ => ⟨v', h1, hQ r v' h2⟩)
theorem iteT {c : Prop} [Decidable c] {A B : Prop} (h : if c then A else B) (hc : c) : A := by rwa [if_pos hc] at h
theorem iteF {c : Prop} [Decidable c] {A B : Prop} (h : if c then A else B) (hc : ¬ c) : B := by rwa [if_neg hc] at h
theorem bI_eq0 (b : Bool) : bI b = 0 ↔ ¬ b = true := by cases b <;> decide
theorem bI_nar (b : Bool) : narrow .boolean (.int (bI b)) = .int (bI b) := by cases b <;> rfl
section PP
variable {d d' : Nat} {M M' : zM} {pc q k idx : Nat} {L : List (Nat × Value)} {S rest As : List Value} {v : Vv} {Q : Option Value → Vv → Prop}
theorem p_getI {i ci : Nat} (hd : zd M pc (.getfield idx) 3 q) (hs : SH[i]? = some (.inl ci)) (hf : zfl M.1.cls idx ci k) (hz : zint (zft ci k) = true) (kk : Gp d M q L (.int (v.1 i k) :: S) v Q) : Gp d M pc L (.ref i :: S) v Q := g_getI hd hs (SH_lt hs) hf hz kk
theorem p_getJ {i ci : Nat} (hd : zd M pc (.getfield idx) 3 q) (hs : SH[i]? = some (.inl ci)) (hf : zfl M.1.cls idx ci k) (hz : zft ci k = .long) (kk : Gp d M q L (.long (v.2.1 i k) :: S) v Q) : Gp d M pc L (.ref i :: S) v Q := g_getJ hd hs (SH_lt hs) hf hz kk
theorem p_getR {i ci j : Nat} (hd : zd M pc (.getfield idx) 3 q) (hs : SH[i]? = some (.inl ci)) (hf : zfl M.1.cls idx ci k) (hz : zref (zft ci k) = true) (hj : Rf v.2.2 i k = some j) (kk : Gp d M q L (.ref j :: S) v Q) : Gp d M pc L (.ref i :: S) v Q := g_getR hd hs (SH_lt hs) hf hz hj kk
theorem p_putI {i ci : Nat} {x : Int32} (hd : zd M pc (.putfield idx) 3 q) (hs : SH[i]? = some (.inl ci)) (hf : zfp M.1.cls idx ci k) (hz : zint (zft ci k) = true) (hn : narrow (zft ci k) (.int x) = .int x) (hfit : fits (zft ci k) (.int x) = true) (kk : Gp d M q L S (sI v i k x) Q) : Gp d M pc L (.int x :: .ref i :: S) v Q := g_putI hd hs (SH_lt hs) hf hz hn hfit kk
theorem p_putJ {i ci : Nat} {x : Int64} (hd : zd M pc (.putfield idx) 3 q) (hs : SH[i]? = some (.inl ci)) (hf : zfp M.1.cls idx ci k) (hz : zft ci k = .long) (kk : Gp d M q L S (sJ v i k x) Q) : Gp d M pc L (.long x :: .ref i :: S) v Q := g_putJ hd hs (SH_lt hs) hf hz kk
theorem p_putRule {j : Nat} (hd : zd M pc (.putfield idx) 3 q) (hf : zfp M.1.cls idx 8 9) (kk : Gp d M q L S (sR v j) Q) : Gp d M pc L (.ref j :: .ref 1 :: S) v Q := by
  refine g_putR hd sh_1 (by decide) hf rfl ?_
  have e : mR (em v) 1 9 (some j) = em (sR v j) := by unfold mR; rw [Rf_set]
  rw [e]
  exact kk
theorem p_iald {a m : Nat} {x : Int32} (hd : zd M pc .iaload 1 q) (hs : SH[a]? = some (.inr (.int, m))) (hx : ib x m) (kk : Gp d M q L (.int (v.1 a (ix x)) :: S) v Q) : Gp d M pc L (.int x :: .ref a :: S) v Q := g_iald hd hs (SH_lt hs) hx kk
theorem p_zald {a m : Nat} {x : Int32} (hd : zd M pc .baload 1 q) (hs : SH[a]? = some (.inr (.boolean, m))) (hx : ib x m) (kk : Gp d M q L (.int (v.1 a (ix x)) :: S) v Q) : Gp d M pc L (.int x :: .ref a :: S) v Q := g_zald hd hs (SH_lt hs) hx kk
theorem p_lald {a m : Nat} {x : Int32} (hd : zd M pc .laload 1 q) (hs : SH[a]? = some (.inr (.long, m))) (hx : ib x m) (kk : Gp d M q L (.long (v.2.1 a (ix x)) :: S) v Q) : Gp d M pc L (.int x :: .ref a :: S) v Q := g_lald hd hs (SH_lt hs) hx kk
theorem p_aald {a m j : Nat} {ty : FieldType} {x : Int32} (hd : zd M pc .aaload 1 q) (hs : SH[a]? = some (.inr (ty, m))) (ht : ty ∈ zat) (hz : zref ty = true) (hx : ib x m) (hj : Rf v.2.2 a (ix x) = some j) (kk : Gp d M q L (.ref j :: S) v Q) : Gp d M pc L (.int x :: .ref a :: S) v Q := g_aald hd hs (SH_lt hs) ht hz hx hj kk
theorem p_iast {a m : Nat} {x y : Int32} (hd : zd M pc .iastore 1 q) (hs : SH[a]? = some (.inr (.int, m))) (hx : ib x m) (kk : Gp d M q L S (sI v a (ix x) y) Q) : Gp d M pc L (.int y :: .int x :: .ref a :: S) v Q := g_iast hd hs (SH_lt hs) hx kk
theorem p_last {a m : Nat} {x : Int32} {y : Int64} (hd : zd M pc .lastore 1 q) (hs : SH[a]? = some (.inr (.long, m))) (hx : ib x m) (kk : Gp d M q L S (sJ v a (ix x) y) Q) : Gp d M pc L (.long y :: .int x :: .ref a :: S) v Q := g_last hd hs (SH_lt hs) hx kk
theorem p_zast {a m : Nat} {x y : Int32} (hd : zd M pc .bastore 1 q) (hs : SH[a]? = some (.inr (.boolean, m))) (hx : ib x m) (kk : Gp d M q L S (sI v a (ix x) (nb y)) Q) : Gp d M pc L (.int y :: .int x :: .ref a :: S) v Q := g_zast hd hs (SH_lt hs) hx kk
theorem p_alen {a m : Nat} {ty : FieldType} {x : Int32} (hd : zd M pc .arraylength 1 q) (hs : SH[a]? = some (.inr (ty, m))) (ht : ty ∈ zat) (hv : Int32.ofNat m = x) (kk : Gp d M q L (.int x :: S) v Q) : Gp d M pc L (.ref a :: S) v Q := g_alen hd hs (SH_lt hs) ht hv kk
theorem p_retI {x : Int32} {Q : Int32 → Vv → Prop} (hd : decode M.2.1 pc = .ok (.ireturn, 1)) (hr : M.2.2.2 = some .int) (h : Q x v) : Gp d M pc L [.int x] v (QI Q) := g_ret (some (.int x)) ⟨hd, _, hr, rfl⟩ rfl rfl ⟨v, rfl, x, rfl, h⟩
theorem p_retC {x : Int32} {Q : Int32 → Vv → Prop} (hd : decode M.2.1 pc = .ok (.ireturn, 1)) (hr : M.2.2.2 = some .char) (hn : narrow .char (.int x) = .int x) (h : Q x v) : Gp d M pc L [.int x] v (QI Q) := g_ret (some (.int x)) ⟨hd, _, hr, hn⟩ rfl rfl ⟨v, rfl, x, rfl, h⟩
theorem p_retZ {x : Bool} {Q : Bool → Vv → Prop} (hd : decode M.2.1 pc = .ok (.ireturn, 1)) (hr : M.2.2.2 = some .boolean) (h : Q x v) : Gp d M pc L [.int (bI x)] v (QZ Q) := g_ret (some (.int (bI x))) ⟨hd, _, hr, bI_nar x⟩ rfl rfl ⟨v, rfl, x, rfl, h⟩
theorem p_retJ {x : Int64} {Q : Int64 → Vv → Prop} (hd : decode M.2.1 pc = .ok (.lreturn, 1)) (hr : M.2.2.2 = some .long) (h : Q x v) : Gp d M pc L [.long x] v (QJ Q) := g_ret (some (.long x)) ⟨hd, hr⟩ rfl rfl ⟨v, rfl, x, rfl, h⟩
theorem p_retR {x : Nat} {C : String} {Q : Nat → Vv → Prop} (hd : decode M.2.1 pc = .ok (.areturn, 1)) (hr : M.2.2.2 = some (.object C)) (h : Q x v) : Gp d M pc L [.ref x] v (QR Q) := g_ret (some (.ref x)) ⟨hd, C, hr⟩ rfl rfl ⟨v, rfl, x, rfl, h⟩
theorem p_retV {Q : Vv → Prop} (hd : decode M.2.1 pc = .ok (.return_, 1)) (hr : M.2.2.2 = none) (h : Q v) : Gp d M pc L [] v (QV Q) := g_ret none ⟨hr, hd⟩ rfl rfl ⟨v, rfl, rfl, h⟩
theorem cp_go {as : List Value} {Q : Option Value → Vv → Prop} (hla : (lg_sl as).length ≤ M.2.2.1) (hp : plainName M.1.cls = true) (h : Gp d M 0 (lv_args 0 as) [] v Q) : Cp d M as v Q := call_of_go (Nat.le_refl _) hp hla h
theorem p_ifz_eq {x : Bool} {off : Int} {tgt : Nat} (hd : zd M pc (.ifCond .eq off) 3 q) (ht : (pc : Int) + off = (tgt : Int)) (kt : ¬ x = true → Gp d M tgt L S v Q) (kf : x = true → Gp d M q L S v Q) : Gp d M pc L (.int (bI x) :: S) v Q := g_if_eq hd ht (fun h => kt ((bI_eq0 x).mp h)) (fun h => kf (Classical.not_not.mp (fun z => h ((bI_eq0 x).mpr z))))
theorem p_ifz_ne {x : Bool} {off : Int} {tgt : Nat} (hd : zd M pc (.ifCond .ne off) 3 q) (ht : (pc : Int) + off = (tgt : Int)) (kt : x = true → Gp d M tgt L S v Q) (kf : ¬ x = true → Gp d M q L S v Q) : Gp d M pc L (.int (bI x) :: S) v Q := g_if_ne hd ht (fun h => kt (Classical.not_not.mp (fun z => h ((bI_eq0 x).mpr z)))) (fun h => kf ((bI_eq0 x).mp h))
theorem p_callVI {b ci : Nat} {r : vw_C} (hd : zd M pc (.invokevirtual idx) 3 q) (hm : zm M' k) (hv : zlV M.1.cls idx M') (hs : SH[b]? = some (.inl ci)) (hr : zcl[ci]? = some r) (hrc : r.1 = M'.1.cls) (hS0 : S = As.reverse ++ .ref b :: rest) (hk : As.length = k) (hcat : (rest.map fun v => v.category).sum ≤ 8) (hd' : d' + 1 ≤ d) (kk : Cp d' M' (.ref b :: As) v (QI (fun x v' => Gp d M q L (.int x :: rest) v' Q))) : Gp d M pc L S v Q := g_callV hd hm hv hs (SH_lt hs) hr hrc hS0 hk hcat hd' (Nat.le_refl _) (Nat.le_refl _) (call_mono kk (fun r w ⟨v', hv, x, hr, h⟩ => by subst hv; subst hr; exact h))
theorem p_callSI (hd : zd M pc (.invokestatic idx) 3 q) (hm : zm M' k) (hv : zlS M.1.cls idx M') (hS0 : S = As.reverse ++ rest) (hk : As.length = k) (hcat : (rest.map fun v => v.category).sum ≤ 8) (hd' : d' + 1 ≤ d) (kk : Cp d' M' As v (QI (fun x v' => Gp d M q L (.int x :: rest) v' Q))) : Gp d M pc L S v Q := g_callS hd hm hv hS0 hk hcat hd' (Nat.le_refl _) (Nat.le_refl _) (call_mono kk (fun r w ⟨v', hv, x, hr, h⟩ => by subst hv; subst hr; exact h))
theorem p_callSNI (hd : zd M pc (.invokestatic idx) 3 q) (hm : zm M' k) (hv : zlSN M.1.cls idx M') (hS0 : S = As.reverse ++ rest) (hk : As.length = k) (hcat : (rest.map fun v => v.category).sum ≤ 8) (hd' : d' + 1 ≤ d) (kk : Cp d' M' As v (QI (fun x v' => Gp d M q L (.int x :: rest) v' Q))) : Gp d M pc L S v Q := g_callSN hd hm hv hS0 hk hcat hd' (Nat.le_refl _) (Nat.le_refl _) (call_mono kk (fun r w ⟨v', hv, x, hr, h⟩ => by subst hv; subst hr; exact h))
theorem p_callVZ {b ci : Nat} {r : vw_C} (hd : zd M pc (.invokevirtual idx) 3 q) (hm : zm M' k) (hv : zlV M.1.cls idx M') (hs : SH[b]? = some (.inl ci)) (hr : zcl[ci]? = some r) (hrc : r.1 = M'.1.cls) (hS0 : S = As.reverse ++ .ref b :: rest) (hk : As.length = k) (hcat : (rest.map fun v => v.category).sum ≤ 8) (hd' : d' + 1 ≤ d) (kk : Cp d' M' (.ref b :: As) v (QZ (fun x v' => Gp d M q L (.int (bI x) :: rest) v' Q))) : Gp d M pc L S v Q := g_callV hd hm hv hs (SH_lt hs) hr hrc hS0 hk hcat hd' (Nat.le_refl _) (Nat.le_refl _) (call_mono kk (fun r w ⟨v', hv, x, hr, h⟩ => by subst hv; subst hr; exact h))
theorem p_callSZ (hd : zd M pc (.invokestatic idx) 3 q) (hm : zm M' k) (hv : zlS M.1.cls idx M') (hS0 : S = As.reverse ++ rest) (hk : As.length = k) (hcat : (rest.map fun v => v.category).sum ≤ 8) (hd' : d' + 1 ≤ d) (kk : Cp d' M' As v (QZ (fun x v' => Gp d M q L (.int (bI x) :: rest) v' Q))) : Gp d M pc L S v Q := g_callS hd hm hv hS0 hk hcat hd' (Nat.le_refl _) (Nat.le_refl _) (call_mono kk (fun r w ⟨v', hv, x, hr, h⟩ => by subst hv; subst hr; exact h))
theorem p_callSNZ (hd : zd M pc (.invokestatic idx) 3 q) (hm : zm M' k) (hv : zlSN M.1.cls idx M') (hS0 : S = As.reverse ++ rest) (hk : As.length = k) (hcat : (rest.map fun v => v.category).sum ≤ 8) (hd' : d' + 1 ≤ d) (kk : Cp d' M' As v (QZ (fun x v' => Gp d M q L (.int (bI x) :: rest) v' Q))) : Gp d M pc L S v Q := g_callSN hd hm hv hS0 hk hcat hd' (Nat.le_refl _) (Nat.le_refl _) (call_mono kk (fun r w ⟨v', hv, x, hr, h⟩ => by subst hv; subst hr; exact h))
theorem p_callVJ {b ci : Nat} {r : vw_C} (hd : zd M pc (.invokevirtual idx) 3 q) (hm : zm M' k) (hv : zlV M.1.cls idx M') (hs : SH[b]? = some (.inl ci)) (hr : zcl[ci]? = some r) (hrc : r.1 = M'.1.cls) (hS0 : S = As.reverse ++ .ref b :: rest) (hk : As.length = k) (hcat : (rest.map fun v => v.category).sum ≤ 8) (hd' : d' + 1 ≤ d) (kk : Cp d' M' (.ref b :: As) v (QJ (fun x v' => Gp d M q L (.long x :: rest) v' Q))) : Gp d M pc L S v Q := g_callV hd hm hv hs (SH_lt hs) hr hrc hS0 hk hcat hd' (Nat.le_refl _) (Nat.le_refl _) (call_mono kk (fun r w ⟨v', hv, x, hr, h⟩ => by subst hv; subst hr; exact h))
theorem p_callSJ (hd : zd M pc (.invokestatic idx) 3 q) (hm : zm M' k) (hv : zlS M.1.cls idx M') (hS0 : S = As.reverse ++ rest) (hk : As.length = k) (hcat : (rest.map fun v => v.category).sum ≤ 8) (hd' : d' + 1 ≤ d) (kk : Cp d' M' As v (QJ (fun x v' => Gp d M q L (.long x :: rest) v' Q))) : Gp d M pc L S v Q := g_callS hd hm hv hS0 hk hcat hd' (Nat.le_refl _) (Nat.le_refl _) (call_mono kk (fun r w ⟨v', hv, x, hr, h⟩ => by subst hv; subst hr; exact h))
theorem p_callSNJ (hd : zd M pc (.invokestatic idx) 3 q) (hm : zm M' k) (hv : zlSN M.1.cls idx M') (hS0 : S = As.reverse ++ rest) (hk : As.length = k) (hcat : (rest.map fun v => v.category).sum ≤ 8) (hd' : d' + 1 ≤ d) (kk : Cp d' M' As v (QJ (fun x v' => Gp d M q L (.long x :: rest) v' Q))) : Gp d M pc L S v Q := g_callSN hd hm hv hS0 hk hcat hd' (Nat.le_refl _) (Nat.le_refl _) (call_mono kk (fun r w ⟨v', hv, x, hr, h⟩ => by subst hv; subst hr; exact h))
theorem p_callVR {b ci : Nat} {r : vw_C} (hd : zd M pc (.invokevirtual idx) 3 q) (hm : zm M' k) (hv : zlV M.1.cls idx M') (hs : SH[b]? = some (.inl ci)) (hr : zcl[ci]? = some r) (hrc : r.1 = M'.1.cls) (hS0 : S = As.reverse ++ .ref b :: rest) (hk : As.length = k) (hcat : (rest.map fun v => v.category).sum ≤ 8) (hd' : d' + 1 ≤ d) (kk : Cp d' M' (.ref b :: As) v (QR (fun x v' => Gp d M q L (.ref x :: rest) v' Q))) : Gp d M pc L S v Q := g_callV hd hm hv hs (SH_lt hs) hr hrc hS0 hk hcat hd' (Nat.le_refl _) (Nat.le_refl _) (call_mono kk (fun r w ⟨v', hv, x, hr, h⟩ => by subst hv; subst hr; exact h))
theorem p_callSR (hd : zd M pc (.invokestatic idx) 3 q) (hm : zm M' k) (hv : zlS M.1.cls idx M') (hS0 : S = As.reverse ++ rest) (hk : As.length = k) (hcat : (rest.map fun v => v.category).sum ≤ 8) (hd' : d' + 1 ≤ d) (kk : Cp d' M' As v (QR (fun x v' => Gp d M q L (.ref x :: rest) v' Q))) : Gp d M pc L S v Q := g_callS hd hm hv hS0 hk hcat hd' (Nat.le_refl _) (Nat.le_refl _) (call_mono kk (fun r w ⟨v', hv, x, hr, h⟩ => by subst hv; subst hr; exact h))
theorem p_callSNR (hd : zd M pc (.invokestatic idx) 3 q) (hm : zm M' k) (hv : zlSN M.1.cls idx M') (hS0 : S = As.reverse ++ rest) (hk : As.length = k) (hcat : (rest.map fun v => v.category).sum ≤ 8) (hd' : d' + 1 ≤ d) (kk : Cp d' M' As v (QR (fun x v' => Gp d M q L (.ref x :: rest) v' Q))) : Gp d M pc L S v Q := g_callSN hd hm hv hS0 hk hcat hd' (Nat.le_refl _) (Nat.le_refl _) (call_mono kk (fun r w ⟨v', hv, x, hr, h⟩ => by subst hv; subst hr; exact h))
theorem p_callVV {b ci : Nat} {r : vw_C} (hd : zd M pc (.invokevirtual idx) 3 q) (hm : zm M' k) (hv : zlV M.1.cls idx M') (hs : SH[b]? = some (.inl ci)) (hr : zcl[ci]? = some r) (hrc : r.1 = M'.1.cls) (hS0 : S = As.reverse ++ .ref b :: rest) (hk : As.length = k) (hcat : (rest.map fun v => v.category).sum ≤ 8) (hd' : d' + 1 ≤ d) (kk : Cp d' M' (.ref b :: As) v (QV (fun v' => Gp d M q L rest v' Q))) : Gp d M pc L S v Q := g_callV hd hm hv hs (SH_lt hs) hr hrc hS0 hk hcat hd' (Nat.le_refl _) (Nat.le_refl _) (call_mono kk (fun r w ⟨v', hv, hr, h⟩ => by subst hv; subst hr; exact h))
theorem p_callSV (hd : zd M pc (.invokestatic idx) 3 q) (hm : zm M' k) (hv : zlS M.1.cls idx M') (hS0 : S = As.reverse ++ rest) (hk : As.length = k) (hcat : (rest.map fun v => v.category).sum ≤ 8) (hd' : d' + 1 ≤ d) (kk : Cp d' M' As v (QV (fun v' => Gp d M q L rest v' Q))) : Gp d M pc L S v Q := g_callS hd hm hv hS0 hk hcat hd' (Nat.le_refl _) (Nat.le_refl _) (call_mono kk (fun r w ⟨v', hv, hr, h⟩ => by subst hv; subst hr; exact h))
theorem p_callSNV (hd : zd M pc (.invokestatic idx) 3 q) (hm : zm M' k) (hv : zlSN M.1.cls idx M') (hS0 : S = As.reverse ++ rest) (hk : As.length = k) (hcat : (rest.map fun v => v.category).sum ≤ 8) (hd' : d' + 1 ≤ d) (kk : Cp d' M' As v (QV (fun v' => Gp d M q L rest v' Q))) : Gp d M pc L S v Q := g_callSN hd hm hv hS0 hk hcat hd' (Nat.le_refl _) (Nat.le_refl _) (call_mono kk (fun r w ⟨v', hv, hr, h⟩ => by subst hv; subst hr; exact h))
end PP
