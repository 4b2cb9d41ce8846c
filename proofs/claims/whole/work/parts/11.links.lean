-- what the instructions link
theorem ac_P_289 : Cond.methodLink "PutOn" 289 arraycopyName ∈ zT := zT_4 (i := 180) rfl rfl
theorem ac_T_28 : Cond.methodLink "PutOn$Text" 28 arraycopyName ∈ zT := zT_3 (i := 154) rfl rfl
theorem ci_P_168 : Cond.constant "PutOn" 168 (-100000 : Int32) ∈ zT := zT_3 (i := 170) rfl rfl
theorem ci_W_157 : Cond.constant "PutOn$Worlds" 157 (1103515245 : Int32) ∈ zT := zT_4 (i := 134) rfl rfl
theorem ci_M_383 : Cond.constant "PutOnModel" 383 (-100000 : Int32) ∈ zT := zT_6 (i := 132) rfl rfl
theorem ci_M_431 : Cond.constant "PutOnModel" 431 (1103515245 : Int32) ∈ zT := zT_7 (i := 33) rfl rfl
theorem ci_JI_265 : Cond.constant "java/lang/Integer" 265 (1431655765 : Int32) ∈ zT := zT_2 (i := 162) rfl rfl
theorem ci_JI_266 : Cond.constant "java/lang/Integer" 266 (858993459 : Int32) ∈ zT := zT_2 (i := 163) rfl rfl
theorem ci_JI_267 : Cond.constant "java/lang/Integer" 267 (252645135 : Int32) ∈ zT := zT_2 (i := 164) rfl rfl
theorem cl_P_194 : Cond.constantLong "PutOn" 194 (-4611686018427387904 : Int64) ∈ zT := zT_3 (i := 179) rfl rfl
theorem cl_M_102 : Cond.constantLong "PutOnModel" 102 (59 : Int64) ∈ zT := zT_5 (i := 118) rfl rfl
theorem cl_M_104 : Cond.constantLong "PutOnModel" 104 (-120 : Int64) ∈ zT := zT_5 (i := 122) rfl rfl
theorem cl_M_106 : Cond.constantLong "PutOnModel" 106 (120 : Int64) ∈ zT := zT_5 (i := 123) rfl rfl
theorem cl_M_108 : Cond.constantLong "PutOnModel" 108 (5 : Int64) ∈ zT := zT_5 (i := 128) rfl rfl
theorem cl_M_110 : Cond.constantLong "PutOnModel" 110 (9 : Int64) ∈ zT := zT_5 (i := 129) rfl rfl
theorem cl_M_112 : Cond.constantLong "PutOnModel" 112 (63 : Int64) ∈ zT := zT_5 (i := 130) rfl rfl
theorem cl_M_125 : Cond.constantLong "PutOnModel" 125 (7 : Int64) ∈ zT := zT_5 (i := 147) rfl rfl
theorem cl_M_131 : Cond.constantLong "PutOnModel" 131 (255 : Int64) ∈ zT := zT_6 (i := 114) rfl rfl
theorem cl_M_154 : Cond.constantLong "PutOnModel" 154 (97 : Int64) ∈ zT := zT_5 (i := 167) rfl rfl
theorem cl_M_156 : Cond.constantLong "PutOnModel" 156 (122 : Int64) ∈ zT := zT_5 (i := 168) rfl rfl
theorem cl_M_158 : Cond.constantLong "PutOnModel" 158 (48 : Int64) ∈ zT := zT_5 (i := 169) rfl rfl
theorem cl_M_160 : Cond.constantLong "PutOnModel" 160 (57 : Int64) ∈ zT := zT_5 (i := 170) rfl rfl
theorem cl_M_166 : Cond.constantLong "PutOnModel" 166 (10 : Int64) ∈ zT := zT_5 (i := 171) rfl rfl
theorem cl_M_227 : Cond.constantLong "PutOnModel" 227 (43 : Int64) ∈ zT := zT_6 (i := 4) rfl rfl
theorem cl_M_232 : Cond.constantLong "PutOnModel" 232 (60 : Int64) ∈ zT := zT_6 (i := 5) rfl rfl
theorem cl_M_381 : Cond.constantLong "PutOnModel" 381 (2 : Int64) ∈ zT := zT_6 (i := 131) rfl rfl
theorem cl_M_384 : Cond.constantLong "PutOnModel" 384 (-4611686018427387904 : Int64) ∈ zT := zT_6 (i := 164) rfl rfl
theorem cl_M_435 : Cond.constantLong "PutOnModel" 435 (20 : Int64) ∈ zT := zT_7 (i := 38) rfl rfl
theorem cl_M_443 : Cond.constantLong "PutOnModel" 443 (3 : Int64) ∈ zT := zT_7 (i := 11) rfl rfl
theorem cl_M_445 : Cond.constantLong "PutOnModel" 445 (-1 : Int64) ∈ zT := zT_7 (i := 24) rfl rfl
theorem cl_M_447 : Cond.constantLong "PutOnModel" 447 (6 : Int64) ∈ zT := zT_7 (i := 64) rfl rfl
theorem fl_P_10 : zfl "PutOn" 10 9 0 := ⟨_, rfl, by decide, zT_2 (i := 57) rfl rfl⟩
theorem fl_P_20 : zfl "PutOn" 20 9 1 := ⟨_, rfl, by decide, zT_2 (i := 58) rfl rfl⟩
theorem fl_P_24 : zfl "PutOn" 24 9 2 := ⟨_, rfl, by decide, zT_2 (i := 59) rfl rfl⟩
theorem fl_P_27 : zfl "PutOn" 27 9 3 := ⟨_, rfl, by decide, zT_2 (i := 60) rfl rfl⟩
theorem fl_P_33 : zfl "PutOn" 33 9 4 := ⟨_, rfl, by decide, zT_2 (i := 61) rfl rfl⟩
theorem fl_P_37 : zfl "PutOn" 37 9 5 := ⟨_, rfl, by decide, zT_2 (i := 62) rfl rfl⟩
theorem fl_P_41 : zfl "PutOn" 41 9 6 := ⟨_, rfl, by decide, zT_2 (i := 63) rfl rfl⟩
theorem fl_P_45 : zfl "PutOn" 45 9 7 := ⟨_, rfl, by decide, zT_2 (i := 64) rfl rfl⟩
theorem fl_P_51 : zfl "PutOn" 51 9 8 := ⟨_, rfl, by decide, zT_2 (i := 65) rfl rfl⟩
theorem fl_P_58 : zfl "PutOn" 58 9 9 := ⟨_, rfl, by decide, zT_2 (i := 66) rfl rfl⟩
theorem fl_P_64 : zfl "PutOn" 64 9 10 := ⟨_, rfl, by decide, zT_2 (i := 67) rfl rfl⟩
theorem fl_P_81 : zfl "PutOn" 81 2 2 := ⟨_, rfl, by decide, zT_1 (i := 103) rfl rfl⟩
theorem fl_P_84 : zfl "PutOn" 84 2 0 := ⟨_, rfl, by decide, zT_1 (i := 96) rfl rfl⟩
theorem fl_P_102 : zfl "PutOn" 102 8 12 := ⟨_, rfl, by decide, zT_1 (i := 176) rfl rfl⟩
theorem fl_P_109 : zfl "PutOn" 109 2 3 := ⟨_, rfl, by decide, zT_1 (i := 108) rfl rfl⟩
theorem fl_P_112 : zfl "PutOn" 112 2 1 := ⟨_, rfl, by decide, zT_1 (i := 100) rfl rfl⟩
theorem fl_P_121 : zfl "PutOn" 121 1 1 := ⟨_, rfl, by decide, zT_1 (i := 84) rfl rfl⟩
theorem fl_P_147 : zfl "PutOn" 147 8 6 := ⟨_, rfl, by decide, zT_1 (i := 164) rfl rfl⟩
theorem fl_P_154 : zfl "PutOn" 154 4 5 := ⟨_, rfl, by decide, zT_1 (i := 222) rfl rfl⟩
theorem fl_P_162 : zfl "PutOn" 162 2 4 := ⟨_, rfl, by decide, zT_1 (i := 111) rfl rfl⟩
theorem fl_P_169 : zfl "PutOn" 169 8 0 := ⟨_, rfl, by decide, zT_1 (i := 147) rfl rfl⟩
theorem fl_P_173 : zfl "PutOn" 173 8 1 := ⟨_, rfl, by decide, zT_1 (i := 150) rfl rfl⟩
theorem fl_P_176 : zfl "PutOn" 176 8 2 := ⟨_, rfl, by decide, zT_1 (i := 153) rfl rfl⟩
theorem fl_P_179 : zfl "PutOn" 179 8 3 := ⟨_, rfl, by decide, zT_1 (i := 156) rfl rfl⟩
theorem fl_P_183 : zfl "PutOn" 183 8 4 := ⟨_, rfl, by decide, zT_1 (i := 159) rfl rfl⟩
theorem fl_P_186 : zfl "PutOn" 186 8 11 := ⟨_, rfl, by decide, zT_1 (i := 174) rfl rfl⟩
theorem fl_P_190 : zfl "PutOn" 190 8 5 := ⟨_, rfl, by decide, zT_1 (i := 162) rfl rfl⟩
theorem fl_P_249 : zfl "PutOn" 249 5 1 := ⟨_, rfl, by decide, zT_2 (i := 38) rfl rfl⟩
theorem fl_P_252 : zfl "PutOn" 252 5 2 := ⟨_, rfl, by decide, zT_2 (i := 41) rfl rfl⟩
theorem fl_P_286 : zfl "PutOn" 286 5 0 := ⟨_, rfl, by decide, zT_2 (i := 36) rfl rfl⟩
theorem fl_C_9 : zfl "PutOn$Clock" 9 0 0 := ⟨_, rfl, by decide, zT_1 (i := 50) rfl rfl⟩
theorem fl_C_15 : zfl "PutOn$Clock" 15 0 1 := ⟨_, rfl, by decide, zT_1 (i := 53) rfl rfl⟩
theorem fl_C_18 : zfl "PutOn$Clock" 18 0 2 := ⟨_, rfl, by decide, zT_1 (i := 56) rfl rfl⟩
theorem fl_C_21 : zfl "PutOn$Clock" 21 0 3 := ⟨_, rfl, by decide, zT_1 (i := 59) rfl rfl⟩
theorem fl_D_9 : zfl "PutOn$Doer" 9 1 0 := ⟨_, rfl, by decide, zT_1 (i := 81) rfl rfl⟩
theorem fl_D_15 : zfl "PutOn$Doer" 15 1 1 := ⟨_, rfl, by decide, zT_1 (i := 83) rfl rfl⟩
theorem fl_D_18 : zfl "PutOn$Doer" 18 1 2 := ⟨_, rfl, by decide, zT_1 (i := 86) rfl rfl⟩
theorem fl_H_11 : zfl "PutOn$House" 11 2 0 := ⟨_, rfl, by decide, zT_1 (i := 95) rfl rfl⟩
theorem fl_H_19 : zfl "PutOn$House" 19 2 1 := ⟨_, rfl, by decide, zT_1 (i := 99) rfl rfl⟩
theorem fl_H_23 : zfl "PutOn$House" 23 2 2 := ⟨_, rfl, by decide, zT_1 (i := 102) rfl rfl⟩
theorem fl_H_27 : zfl "PutOn$House" 27 2 3 := ⟨_, rfl, by decide, zT_1 (i := 106) rfl rfl⟩
theorem fl_H_30 : zfl "PutOn$House" 30 2 4 := ⟨_, rfl, by decide, zT_1 (i := 110) rfl rfl⟩
theorem fl_H_42 : zfl "PutOn$House" 42 0 3 := ⟨_, rfl, by decide, zT_1 (i := 61) rfl rfl⟩
theorem fl_K_12 : zfl "PutOn$Known" 12 3 0 := ⟨_, rfl, by decide, zT_2 (i := 19) rfl rfl⟩
theorem fl_K_18 : zfl "PutOn$Known" 18 3 1 := ⟨_, rfl, by decide, zT_2 (i := 20) rfl rfl⟩
theorem fl_K_22 : zfl "PutOn$Known" 22 8 10 := ⟨_, rfl, by decide, zT_1 (i := 171) rfl rfl⟩
theorem fl_K_28 : zfl "PutOn$Known" 28 8 3 := ⟨_, rfl, by decide, zT_1 (i := 155) rfl rfl⟩
theorem fl_K_31 : zfl "PutOn$Known" 31 8 2 := ⟨_, rfl, by decide, zT_1 (i := 152) rfl rfl⟩
theorem fl_K_35 : zfl "PutOn$Known" 35 8 5 := ⟨_, rfl, by decide, zT_1 (i := 161) rfl rfl⟩
theorem fl_K_40 : zfl "PutOn$Known" 40 8 4 := ⟨_, rfl, by decide, zT_1 (i := 158) rfl rfl⟩
theorem fl_K_47 : zfl "PutOn$Known" 47 8 11 := ⟨_, rfl, by decide, zT_1 (i := 173) rfl rfl⟩
theorem fl_K_66 : zfl "PutOn$Known" 66 8 8 := ⟨_, rfl, by decide, zT_1 (i := 168) rfl rfl⟩
theorem fl_K_75 : zfl "PutOn$Known" 75 2 2 := ⟨_, rfl, by decide, zT_1 (i := 105) rfl rfl⟩
theorem fl_K_78 : zfl "PutOn$Known" 78 2 0 := ⟨_, rfl, by decide, zT_1 (i := 98) rfl rfl⟩
theorem fl_K_82 : zfl "PutOn$Known" 82 0 3 := ⟨_, rfl, by decide, zT_1 (i := 62) rfl rfl⟩
theorem fl_K_105 : zfl "PutOn$Known" 105 8 0 := ⟨_, rfl, by decide, zT_1 (i := 148) rfl rfl⟩
theorem fl_K_113 : zfl "PutOn$Known" 113 2 3 := ⟨_, rfl, by decide, zT_1 (i := 109) rfl rfl⟩
theorem fl_K_134 : zfl "PutOn$Known" 134 5 2 := ⟨_, rfl, by decide, zT_2 (i := 40) rfl rfl⟩
theorem fl_K_139 : zfl "PutOn$Known" 139 5 0 := ⟨_, rfl, by decide, zT_2 (i := 35) rfl rfl⟩
theorem fl_R_9 : zfl "PutOn$Reader" 9 4 0 := ⟨_, rfl, by decide, zT_1 (i := 216) rfl rfl⟩
theorem fl_R_15 : zfl "PutOn$Reader" 15 4 1 := ⟨_, rfl, by decide, zT_1 (i := 217) rfl rfl⟩
theorem fl_R_18 : zfl "PutOn$Reader" 18 4 2 := ⟨_, rfl, by decide, zT_1 (i := 218) rfl rfl⟩
theorem fl_R_21 : zfl "PutOn$Reader" 21 4 3 := ⟨_, rfl, by decide, zT_1 (i := 219) rfl rfl⟩
theorem fl_R_25 : zfl "PutOn$Reader" 25 4 4 := ⟨_, rfl, by decide, zT_1 (i := 220) rfl rfl⟩
theorem fl_R_31 : zfl "PutOn$Reader" 31 4 5 := ⟨_, rfl, by decide, zT_1 (i := 221) rfl rfl⟩
theorem fl_S_9 : zfl "PutOn$Sheet" 9 5 0 := ⟨_, rfl, by decide, zT_2 (i := 34) rfl rfl⟩
theorem fl_S_15 : zfl "PutOn$Sheet" 15 5 1 := ⟨_, rfl, by decide, zT_2 (i := 37) rfl rfl⟩
theorem fl_S_19 : zfl "PutOn$Sheet" 19 5 2 := ⟨_, rfl, by decide, zT_2 (i := 39) rfl rfl⟩
theorem fl_U_9 : zfl "PutOn$Sums" 9 6 0 := ⟨_, rfl, by decide, zT_2 (i := 8) rfl rfl⟩
theorem fl_U_15 : zfl "PutOn$Sums" 15 6 1 := ⟨_, rfl, by decide, zT_2 (i := 9) rfl rfl⟩
theorem fl_U_19 : zfl "PutOn$Sums" 19 6 2 := ⟨_, rfl, by decide, zT_2 (i := 10) rfl rfl⟩
theorem fl_T_9 : zfl "PutOn$Text" 9 7 0 := ⟨_, rfl, by decide, zT_1 (i := 129) rfl rfl⟩
theorem fl_T_15 : zfl "PutOn$Text" 15 7 1 := ⟨_, rfl, by decide, zT_1 (i := 130) rfl rfl⟩
theorem fl_T_18 : zfl "PutOn$Text" 18 7 2 := ⟨_, rfl, by decide, zT_1 (i := 131) rfl rfl⟩
theorem fl_T_21 : zfl "PutOn$Text" 21 7 3 := ⟨_, rfl, by decide, zT_1 (i := 132) rfl rfl⟩
theorem fl_T_25 : zfl "PutOn$Text" 25 7 4 := ⟨_, rfl, by decide, zT_1 (i := 134) rfl rfl⟩
theorem fl_W_11 : zfl "PutOn$Worlds" 11 8 0 := ⟨_, rfl, by decide, zT_1 (i := 146) rfl rfl⟩
theorem fl_W_16 : zfl "PutOn$Worlds" 16 8 1 := ⟨_, rfl, by decide, zT_1 (i := 149) rfl rfl⟩
theorem fl_W_19 : zfl "PutOn$Worlds" 19 8 2 := ⟨_, rfl, by decide, zT_1 (i := 151) rfl rfl⟩
theorem fl_W_23 : zfl "PutOn$Worlds" 23 8 3 := ⟨_, rfl, by decide, zT_1 (i := 154) rfl rfl⟩
theorem fl_W_27 : zfl "PutOn$Worlds" 27 8 4 := ⟨_, rfl, by decide, zT_1 (i := 157) rfl rfl⟩
theorem fl_W_30 : zfl "PutOn$Worlds" 30 8 5 := ⟨_, rfl, by decide, zT_1 (i := 160) rfl rfl⟩
theorem fl_W_34 : zfl "PutOn$Worlds" 34 8 6 := ⟨_, rfl, by decide, zT_1 (i := 163) rfl rfl⟩
theorem fl_W_37 : zfl "PutOn$Worlds" 37 8 7 := ⟨_, rfl, by decide, zT_1 (i := 165) rfl rfl⟩
theorem fl_W_43 : zfl "PutOn$Worlds" 43 8 8 := ⟨_, rfl, by decide, zT_1 (i := 167) rfl rfl⟩
theorem fl_W_50 : zfl "PutOn$Worlds" 50 8 9 := ⟨_, rfl, by decide, zT_1 (i := 169) rfl rfl⟩
theorem fl_W_54 : zfl "PutOn$Worlds" 54 8 10 := ⟨_, rfl, by decide, zT_1 (i := 170) rfl rfl⟩
theorem fl_W_58 : zfl "PutOn$Worlds" 58 8 11 := ⟨_, rfl, by decide, zT_1 (i := 172) rfl rfl⟩
theorem fl_W_66 : zfl "PutOn$Worlds" 66 2 3 := ⟨_, rfl, by decide, zT_1 (i := 107) rfl rfl⟩
theorem fl_W_87 : zfl "PutOn$Worlds" 87 2 1 := ⟨_, rfl, by decide, zT_1 (i := 101) rfl rfl⟩
theorem fl_W_112 : zfl "PutOn$Worlds" 112 2 2 := ⟨_, rfl, by decide, zT_1 (i := 104) rfl rfl⟩
theorem fl_W_119 : zfl "PutOn$Worlds" 119 2 0 := ⟨_, rfl, by decide, zT_1 (i := 97) rfl rfl⟩
theorem fl_W_123 : zfl "PutOn$Worlds" 123 0 0 := ⟨_, rfl, by decide, zT_1 (i := 52) rfl rfl⟩
theorem fl_W_128 : zfl "PutOn$Worlds" 128 0 2 := ⟨_, rfl, by decide, zT_1 (i := 58) rfl rfl⟩
theorem fl_W_135 : zfl "PutOn$Worlds" 135 0 1 := ⟨_, rfl, by decide, zT_1 (i := 55) rfl rfl⟩
theorem fl_W_138 : zfl "PutOn$Worlds" 138 1 1 := ⟨_, rfl, by decide, zT_1 (i := 85) rfl rfl⟩
theorem fl_W_149 : zfl "PutOn$Worlds" 149 0 3 := ⟨_, rfl, by decide, zT_1 (i := 63) rfl rfl⟩
theorem fl_M_13 : zfl "PutOnModel" 13 10 1 := ⟨_, rfl, by decide, zT_4 (i := 207) rfl rfl⟩
theorem fl_M_17 : zfl "PutOnModel" 17 10 2 := ⟨_, rfl, by decide, zT_4 (i := 208) rfl rfl⟩
theorem fl_M_20 : zfl "PutOnModel" 20 10 5 := ⟨_, rfl, by decide, zT_4 (i := 211) rfl rfl⟩
theorem fl_M_23 : zfl "PutOnModel" 23 10 7 := ⟨_, rfl, by decide, zT_4 (i := 213) rfl rfl⟩
theorem fl_M_26 : zfl "PutOnModel" 26 10 8 := ⟨_, rfl, by decide, zT_4 (i := 214) rfl rfl⟩
theorem fl_M_29 : zfl "PutOnModel" 29 10 9 := ⟨_, rfl, by decide, zT_4 (i := 215) rfl rfl⟩
theorem fl_M_32 : zfl "PutOnModel" 32 10 10 := ⟨_, rfl, by decide, zT_4 (i := 216) rfl rfl⟩
theorem fl_M_35 : zfl "PutOnModel" 35 10 12 := ⟨_, rfl, by decide, zT_4 (i := 218) rfl rfl⟩
theorem fl_M_38 : zfl "PutOnModel" 38 10 13 := ⟨_, rfl, by decide, zT_4 (i := 219) rfl rfl⟩
theorem fl_M_41 : zfl "PutOnModel" 41 10 14 := ⟨_, rfl, by decide, zT_4 (i := 220) rfl rfl⟩
theorem fl_M_44 : zfl "PutOnModel" 44 10 31 := ⟨_, rfl, by decide, zT_4 (i := 237) rfl rfl⟩
theorem fl_M_47 : zfl "PutOnModel" 47 10 32 := ⟨_, rfl, by decide, zT_4 (i := 238) rfl rfl⟩
theorem fl_M_50 : zfl "PutOnModel" 50 10 33 := ⟨_, rfl, by decide, zT_4 (i := 239) rfl rfl⟩
theorem fl_M_54 : zfl "PutOnModel" 54 10 34 := ⟨_, rfl, by decide, zT_5 (i := 0) rfl rfl⟩
theorem fl_M_57 : zfl "PutOnModel" 57 10 35 := ⟨_, rfl, by decide, zT_5 (i := 1) rfl rfl⟩
theorem fl_M_60 : zfl "PutOnModel" 60 10 36 := ⟨_, rfl, by decide, zT_5 (i := 2) rfl rfl⟩
theorem fl_M_63 : zfl "PutOnModel" 63 10 40 := ⟨_, rfl, by decide, zT_5 (i := 6) rfl rfl⟩
theorem fl_M_66 : zfl "PutOnModel" 66 10 41 := ⟨_, rfl, by decide, zT_5 (i := 7) rfl rfl⟩
theorem fl_M_69 : zfl "PutOnModel" 69 10 42 := ⟨_, rfl, by decide, zT_5 (i := 8) rfl rfl⟩
theorem fl_M_72 : zfl "PutOnModel" 72 10 45 := ⟨_, rfl, by decide, zT_5 (i := 11) rfl rfl⟩
theorem fl_M_76 : zfl "PutOnModel" 76 10 46 := ⟨_, rfl, by decide, zT_5 (i := 12) rfl rfl⟩
theorem fl_M_79 : zfl "PutOnModel" 79 10 47 := ⟨_, rfl, by decide, zT_5 (i := 13) rfl rfl⟩
theorem fl_M_82 : zfl "PutOnModel" 82 10 48 := ⟨_, rfl, by decide, zT_5 (i := 14) rfl rfl⟩
theorem fl_M_89 : zfl "PutOnModel" 89 10 3 := ⟨_, rfl, by decide, zT_4 (i := 209) rfl rfl⟩
theorem fl_M_92 : zfl "PutOnModel" 92 10 11 := ⟨_, rfl, by decide, zT_4 (i := 217) rfl rfl⟩
theorem fl_M_99 : zfl "PutOnModel" 99 10 15 := ⟨_, rfl, by decide, zT_4 (i := 221) rfl rfl⟩
theorem fl_M_133 : zfl "PutOnModel" 133 10 6 := ⟨_, rfl, by decide, zT_4 (i := 212) rfl rfl⟩
theorem fl_M_136 : zfl "PutOnModel" 136 10 23 := ⟨_, rfl, by decide, zT_4 (i := 229) rfl rfl⟩
theorem fl_M_139 : zfl "PutOnModel" 139 10 22 := ⟨_, rfl, by decide, zT_4 (i := 228) rfl rfl⟩
theorem fl_M_142 : zfl "PutOnModel" 142 10 24 := ⟨_, rfl, by decide, zT_4 (i := 230) rfl rfl⟩
theorem fl_M_148 : zfl "PutOnModel" 148 10 26 := ⟨_, rfl, by decide, zT_4 (i := 232) rfl rfl⟩
theorem fl_M_151 : zfl "PutOnModel" 151 10 25 := ⟨_, rfl, by decide, zT_4 (i := 231) rfl rfl⟩
theorem fl_M_162 : zfl "PutOnModel" 162 10 27 := ⟨_, rfl, by decide, zT_4 (i := 233) rfl rfl⟩
theorem fl_M_168 : zfl "PutOnModel" 168 10 29 := ⟨_, rfl, by decide, zT_4 (i := 235) rfl rfl⟩
theorem fl_M_172 : zfl "PutOnModel" 172 10 30 := ⟨_, rfl, by decide, zT_4 (i := 236) rfl rfl⟩
theorem fl_M_179 : zfl "PutOnModel" 179 10 28 := ⟨_, rfl, by decide, zT_4 (i := 234) rfl rfl⟩
theorem fl_M_192 : zfl "PutOnModel" 192 10 16 := ⟨_, rfl, by decide, zT_4 (i := 222) rfl rfl⟩
theorem fl_M_195 : zfl "PutOnModel" 195 10 17 := ⟨_, rfl, by decide, zT_4 (i := 223) rfl rfl⟩
theorem fl_M_198 : zfl "PutOnModel" 198 10 18 := ⟨_, rfl, by decide, zT_4 (i := 224) rfl rfl⟩
theorem fl_M_201 : zfl "PutOnModel" 201 10 19 := ⟨_, rfl, by decide, zT_4 (i := 225) rfl rfl⟩
theorem fl_M_204 : zfl "PutOnModel" 204 10 20 := ⟨_, rfl, by decide, zT_4 (i := 226) rfl rfl⟩
theorem fl_M_207 : zfl "PutOnModel" 207 10 21 := ⟨_, rfl, by decide, zT_4 (i := 227) rfl rfl⟩
theorem fl_M_340 : zfl "PutOnModel" 340 10 4 := ⟨_, rfl, by decide, zT_4 (i := 210) rfl rfl⟩
theorem fl_M_368 : zfl "PutOnModel" 368 10 37 := ⟨_, rfl, by decide, zT_5 (i := 3) rfl rfl⟩
theorem fl_M_393 : zfl "PutOnModel" 393 10 38 := ⟨_, rfl, by decide, zT_5 (i := 4) rfl rfl⟩
theorem fl_M_396 : zfl "PutOnModel" 396 10 39 := ⟨_, rfl, by decide, zT_5 (i := 5) rfl rfl⟩
theorem fl_M_437 : zfl "PutOnModel" 437 10 43 := ⟨_, rfl, by decide, zT_5 (i := 9) rfl rfl⟩
theorem fl_M_440 : zfl "PutOnModel" 440 10 44 := ⟨_, rfl, by decide, zT_5 (i := 10) rfl rfl⟩
theorem fp_P_27 : zfp "PutOn" 27 9 3 := ⟨_, rfl, by decide, zT_2 (i := 60) rfl rfl, rfl⟩
theorem fp_P_37 : zfp "PutOn" 37 9 5 := ⟨_, rfl, by decide, zT_2 (i := 62) rfl rfl, rfl⟩
theorem fp_P_45 : zfp "PutOn" 45 9 7 := ⟨_, rfl, by decide, zT_2 (i := 64) rfl rfl, rfl⟩
theorem fp_P_81 : zfp "PutOn" 81 2 2 := ⟨_, rfl, by decide, zT_1 (i := 103) rfl rfl, rfl⟩
theorem fp_P_88 : zfp "PutOn" 88 0 0 := ⟨_, rfl, by decide, zT_1 (i := 51) rfl rfl, rfl⟩
theorem fp_P_93 : zfp "PutOn" 93 0 2 := ⟨_, rfl, by decide, zT_1 (i := 57) rfl rfl, rfl⟩
theorem fp_P_96 : zfp "PutOn" 96 0 1 := ⟨_, rfl, by decide, zT_1 (i := 54) rfl rfl, rfl⟩
theorem fp_P_99 : zfp "PutOn" 99 0 3 := ⟨_, rfl, by decide, zT_1 (i := 60) rfl rfl, rfl⟩
theorem fp_P_102 : zfp "PutOn" 102 8 12 := ⟨_, rfl, by decide, zT_1 (i := 176) rfl rfl, rfl⟩
theorem fp_P_109 : zfp "PutOn" 109 2 3 := ⟨_, rfl, by decide, zT_1 (i := 108) rfl rfl, rfl⟩
theorem fp_P_116 : zfp "PutOn" 116 1 0 := ⟨_, rfl, by decide, zT_1 (i := 82) rfl rfl, rfl⟩
theorem fp_P_121 : zfp "PutOn" 121 1 1 := ⟨_, rfl, by decide, zT_1 (i := 84) rfl rfl, rfl⟩
theorem fp_P_124 : zfp "PutOn" 124 1 2 := ⟨_, rfl, by decide, zT_1 (i := 87) rfl rfl, rfl⟩
theorem fp_P_162 : zfp "PutOn" 162 2 4 := ⟨_, rfl, by decide, zT_1 (i := 111) rfl rfl, rfl⟩
theorem fp_C_9 : zfp "PutOn$Clock" 9 0 0 := ⟨_, rfl, by decide, zT_1 (i := 50) rfl rfl, rfl⟩
theorem fp_C_15 : zfp "PutOn$Clock" 15 0 1 := ⟨_, rfl, by decide, zT_1 (i := 53) rfl rfl, rfl⟩
theorem fp_C_18 : zfp "PutOn$Clock" 18 0 2 := ⟨_, rfl, by decide, zT_1 (i := 56) rfl rfl, rfl⟩
theorem fp_C_21 : zfp "PutOn$Clock" 21 0 3 := ⟨_, rfl, by decide, zT_1 (i := 59) rfl rfl, rfl⟩
theorem fp_D_9 : zfp "PutOn$Doer" 9 1 0 := ⟨_, rfl, by decide, zT_1 (i := 81) rfl rfl, rfl⟩
theorem fp_D_15 : zfp "PutOn$Doer" 15 1 1 := ⟨_, rfl, by decide, zT_1 (i := 83) rfl rfl, rfl⟩
theorem fp_D_18 : zfp "PutOn$Doer" 18 1 2 := ⟨_, rfl, by decide, zT_1 (i := 86) rfl rfl, rfl⟩
theorem fp_H_23 : zfp "PutOn$House" 23 2 2 := ⟨_, rfl, by decide, zT_1 (i := 102) rfl rfl, rfl⟩
theorem fp_H_27 : zfp "PutOn$House" 27 2 3 := ⟨_, rfl, by decide, zT_1 (i := 106) rfl rfl, rfl⟩
theorem fp_H_30 : zfp "PutOn$House" 30 2 4 := ⟨_, rfl, by decide, zT_1 (i := 110) rfl rfl, rfl⟩
theorem fp_K_39 : zfp "PutOn$Known" 39 6 2 := ⟨_, rfl, by decide, zT_2 (i := 11) rfl rfl, rfl⟩
theorem fp_R_21 : zfp "PutOn$Reader" 21 4 3 := ⟨_, rfl, by decide, zT_1 (i := 219) rfl rfl, rfl⟩
theorem fp_R_25 : zfp "PutOn$Reader" 25 4 4 := ⟨_, rfl, by decide, zT_1 (i := 220) rfl rfl, rfl⟩
theorem fp_R_39 : zfp "PutOn$Reader" 39 7 3 := ⟨_, rfl, by decide, zT_1 (i := 133) rfl rfl, rfl⟩
theorem fp_S_15 : zfp "PutOn$Sheet" 15 5 1 := ⟨_, rfl, by decide, zT_2 (i := 37) rfl rfl, rfl⟩
theorem fp_S_19 : zfp "PutOn$Sheet" 19 5 2 := ⟨_, rfl, by decide, zT_2 (i := 39) rfl rfl, rfl⟩
theorem fp_U_19 : zfp "PutOn$Sums" 19 6 2 := ⟨_, rfl, by decide, zT_2 (i := 10) rfl rfl, rfl⟩
theorem fp_T_21 : zfp "PutOn$Text" 21 7 3 := ⟨_, rfl, by decide, zT_1 (i := 132) rfl rfl, rfl⟩
theorem fp_T_25 : zfp "PutOn$Text" 25 7 4 := ⟨_, rfl, by decide, zT_1 (i := 134) rfl rfl, rfl⟩
theorem fp_W_50 : zfp "PutOn$Worlds" 50 8 9 := ⟨_, rfl, by decide, zT_1 (i := 169) rfl rfl, rfl⟩
theorem fp_W_54 : zfp "PutOn$Worlds" 54 8 10 := ⟨_, rfl, by decide, zT_1 (i := 170) rfl rfl, rfl⟩
theorem fp_W_58 : zfp "PutOn$Worlds" 58 8 11 := ⟨_, rfl, by decide, zT_1 (i := 172) rfl rfl, rfl⟩
theorem fp_W_62 : zfp "PutOn$Worlds" 62 8 12 := ⟨_, rfl, by decide, zT_1 (i := 175) rfl rfl, rfl⟩
theorem fp_M_69 : zfp "PutOnModel" 69 10 42 := ⟨_, rfl, by decide, zT_5 (i := 8) rfl rfl, rfl⟩
theorem fp_M_89 : zfp "PutOnModel" 89 10 3 := ⟨_, rfl, by decide, zT_4 (i := 209) rfl rfl, rfl⟩
theorem fp_M_92 : zfp "PutOnModel" 92 10 11 := ⟨_, rfl, by decide, zT_4 (i := 217) rfl rfl, rfl⟩
theorem fp_M_99 : zfp "PutOnModel" 99 10 15 := ⟨_, rfl, by decide, zT_4 (i := 221) rfl rfl, rfl⟩
theorem fp_M_133 : zfp "PutOnModel" 133 10 6 := ⟨_, rfl, by decide, zT_4 (i := 212) rfl rfl, rfl⟩
theorem fp_M_136 : zfp "PutOnModel" 136 10 23 := ⟨_, rfl, by decide, zT_4 (i := 229) rfl rfl, rfl⟩
theorem fp_M_139 : zfp "PutOnModel" 139 10 22 := ⟨_, rfl, by decide, zT_4 (i := 228) rfl rfl, rfl⟩
theorem fp_M_142 : zfp "PutOnModel" 142 10 24 := ⟨_, rfl, by decide, zT_4 (i := 230) rfl rfl, rfl⟩
theorem fp_M_148 : zfp "PutOnModel" 148 10 26 := ⟨_, rfl, by decide, zT_4 (i := 232) rfl rfl, rfl⟩
theorem fp_M_151 : zfp "PutOnModel" 151 10 25 := ⟨_, rfl, by decide, zT_4 (i := 231) rfl rfl, rfl⟩
theorem fp_M_162 : zfp "PutOnModel" 162 10 27 := ⟨_, rfl, by decide, zT_4 (i := 233) rfl rfl, rfl⟩
theorem fp_M_168 : zfp "PutOnModel" 168 10 29 := ⟨_, rfl, by decide, zT_4 (i := 235) rfl rfl, rfl⟩
theorem fp_M_172 : zfp "PutOnModel" 172 10 30 := ⟨_, rfl, by decide, zT_4 (i := 236) rfl rfl, rfl⟩
theorem fp_M_179 : zfp "PutOnModel" 179 10 28 := ⟨_, rfl, by decide, zT_4 (i := 234) rfl rfl, rfl⟩
theorem fp_M_192 : zfp "PutOnModel" 192 10 16 := ⟨_, rfl, by decide, zT_4 (i := 222) rfl rfl, rfl⟩
theorem fp_M_195 : zfp "PutOnModel" 195 10 17 := ⟨_, rfl, by decide, zT_4 (i := 223) rfl rfl, rfl⟩
theorem fp_M_198 : zfp "PutOnModel" 198 10 18 := ⟨_, rfl, by decide, zT_4 (i := 224) rfl rfl, rfl⟩
theorem fp_M_201 : zfp "PutOnModel" 201 10 19 := ⟨_, rfl, by decide, zT_4 (i := 225) rfl rfl, rfl⟩
theorem fp_M_204 : zfp "PutOnModel" 204 10 20 := ⟨_, rfl, by decide, zT_4 (i := 226) rfl rfl, rfl⟩
theorem fp_M_207 : zfp "PutOnModel" 207 10 21 := ⟨_, rfl, by decide, zT_4 (i := 227) rfl rfl, rfl⟩
theorem fp_M_340 : zfp "PutOnModel" 340 10 4 := ⟨_, rfl, by decide, zT_4 (i := 210) rfl rfl, rfl⟩
theorem fp_M_368 : zfp "PutOnModel" 368 10 37 := ⟨_, rfl, by decide, zT_5 (i := 3) rfl rfl, rfl⟩
theorem fp_M_393 : zfp "PutOnModel" 393 10 38 := ⟨_, rfl, by decide, zT_5 (i := 4) rfl rfl, rfl⟩
theorem fp_M_396 : zfp "PutOnModel" 396 10 39 := ⟨_, rfl, by decide, zT_5 (i := 5) rfl rfl, rfl⟩
theorem fp_M_437 : zfp "PutOnModel" 437 10 43 := ⟨_, rfl, by decide, zT_5 (i := 9) rfl rfl, rfl⟩
theorem fp_M_440 : zfp "PutOnModel" 440 10 44 := ⟨_, rfl, by decide, zT_5 (i := 10) rfl rfl, rfl⟩
theorem gn_D_29 : Cond.fieldLinkNest "PutOn$Doer" 29 "PutOn" (stN 2) "[I" "PutOn" ∈ lw_tbl := zL_4 (i := 195) rfl
theorem gs_P_304 : Cond.fieldLink "PutOn" 304 "PutOn" (stN 0) "[I" ∈ zT := zT_2 (i := 98) rfl rfl
theorem gs_P_307 : Cond.fieldLink "PutOn" 307 "PutOn" (stN 1) "[I" ∈ zT := zT_2 (i := 100) rfl rfl
theorem lS_P_77 : zlS "PutOn" 77 M_P_canBe := ⟨zT_2 (i := 95) rfl rfl, zT_2 (i := 96) rfl rfl⟩
theorem lS_P_105 : zlS "PutOn" 105 M_P_isKind := ⟨zT_2 (i := 106) rfl rfl, zT_2 (i := 107) rfl rfl⟩
theorem lS_P_196 : zlS "PutOn" 196 M_P_isPart := ⟨zT_3 (i := 184) rfl rfl, zT_3 (i := 185) rfl rfl⟩
theorem lS_P_203 : zlS "PutOn" 203 M_P_lowest := ⟨zT_3 (i := 191) rfl rfl, zT_3 (i := 192) rfl rfl⟩
theorem lS_P_230 : zlS "PutOn" 230 M_JI_bitCount := ⟨zT_4 (i := 52) rfl rfl, zT_2 (i := 160) rfl rfl⟩
theorem lS_P_242 : zlS "PutOn" 242 M_P_bounded := ⟨zT_4 (i := 85) rfl rfl, zT_2 (i := 185) rfl rfl⟩
theorem lS_P_246 : zlS "PutOn" 246 M_P_isSheet := ⟨zT_4 (i := 90) rfl rfl, zT_4 (i := 91) rfl rfl⟩
theorem lS_P_280 : zlS "PutOn" 280 M_P_isSort := ⟨zT_4 (i := 168) rfl rfl, zT_4 (i := 169) rfl rfl⟩
theorem lS_P_310 : zlS "PutOn" 310 M_JM_min := ⟨zT_2 (i := 187) rfl rfl, zT_2 (i := 188) rfl rfl⟩
theorem lS_P_315 : zlS "PutOn" 315 M_JM_max_III := ⟨zT_2 (i := 190) rfl rfl, zT_2 (i := 191) rfl rfl⟩
theorem lS_D_33 : zlS "PutOn$Doer" 33 M_JI_bitCount := ⟨zT_2 (i := 159) rfl rfl, zT_2 (i := 160) rfl rfl⟩
theorem lS_D_44 : zlS "PutOn$Doer" 44 M_JM_min := ⟨zT_2 (i := 225) rfl rfl, zT_2 (i := 188) rfl rfl⟩
theorem lS_K_99 : zlS "PutOn$Known" 99 M_JI_bitCount := ⟨zT_4 (i := 34) rfl rfl, zT_2 (i := 160) rfl rfl⟩
theorem lS_K_116 : zlS "PutOn$Known" 116 M_JM_max_JJJ := ⟨zT_4 (i := 43) rfl rfl, zT_3 (i := 219) rfl rfl⟩
theorem lS_K_129 : zlS "PutOn$Known" 129 M_JM_abs := ⟨zT_4 (i := 77) rfl rfl, zT_4 (i := 78) rfl rfl⟩
theorem lS_K_132 : zlS "PutOn$Known" 132 M_JM_max_III := ⟨zT_4 (i := 80) rfl rfl, zT_2 (i := 191) rfl rfl⟩
theorem lS_R_50 : zlS "PutOn$Reader" 50 M_R_isBlank := ⟨zT_3 (i := 17) rfl rfl, zT_3 (i := 18) rfl rfl⟩
theorem lS_R_54 : zlS "PutOn$Reader" 54 M_R_isOfOne := ⟨zT_3 (i := 20) rfl rfl, zT_3 (i := 21) rfl rfl⟩
theorem lS_R_61 : zlS "PutOn$Reader" 61 M_R_tokenOf := ⟨zT_3 (i := 33) rfl rfl, zT_3 (i := 34) rfl rfl⟩
theorem lS_R_65 : zlS "PutOn$Reader" 65 M_R_isSmall := ⟨zT_3 (i := 23) rfl rfl, zT_3 (i := 24) rfl rfl⟩
theorem lS_R_68 : zlS "PutOn$Reader" 68 M_R_isDigit := ⟨zT_3 (i := 26) rfl rfl, zT_3 (i := 27) rfl rfl⟩
theorem lS_R_71 : zlS "PutOn$Reader" 71 M_R_wordAt := ⟨zT_3 (i := 36) rfl rfl, zT_3 (i := 37) rfl rfl⟩
theorem lS_R_74 : zlS "PutOn$Reader" 74 M_R_numberAt := ⟨zT_3 (i := 105) rfl rfl, zT_3 (i := 106) rfl rfl⟩
theorem lS_R_77 : zlS "PutOn$Reader" 77 M_R_word := ⟨zT_3 (i := 39) rfl rfl, zT_3 (i := 40) rfl rfl⟩
theorem lS_R_81 : zlS "PutOn$Reader" 81 M_R_stands := ⟨zT_3 (i := 54) rfl rfl, zT_3 (i := 55) rfl rfl⟩
theorem lS_U_23 : zlS "PutOn$Sums" 23 M_JM_max_JJJ := ⟨zT_3 (i := 218) rfl rfl, zT_3 (i := 219) rfl rfl⟩
theorem lS_T_42 : zlS "PutOn$Text" 42 M_T_joined := ⟨zT_2 (i := 181) rfl rfl, zT_2 (i := 182) rfl rfl⟩
theorem lS_W_152 : zlS "PutOn$Worlds" 152 M_JM_floorMod := ⟨zT_2 (i := 238) rfl rfl, zT_2 (i := 239) rfl rfl⟩
theorem lS_M_95 : zlS "PutOnModel" 95 M_M_in := ⟨zT_5 (i := 119) rfl rfl, zT_5 (i := 120) rfl rfl⟩
theorem lS_M_343 : zlS "PutOnModel" 343 M_M_bitsOf := ⟨zT_5 (i := 152) rfl rfl, zT_5 (i := 153) rfl rfl⟩
theorem lS_M_346 : zlS "PutOnModel" 346 M_M_within := ⟨zT_6 (i := 106) rfl rfl, zT_6 (i := 107) rfl rfl⟩
theorem lS_M_365 : zlS "PutOnModel" 365 M_M_dayOf := ⟨zT_6 (i := 153) rfl rfl, zT_6 (i := 154) rfl rfl⟩
theorem lS_M_389 : zlS "PutOnModel" 389 M_M_lowest := ⟨zT_6 (i := 177) rfl rfl, zT_6 (i := 178) rfl rfl⟩
theorem lS_M_422 : zlS "PutOnModel" 422 M_M_isSheet := ⟨zT_7 (i := 8) rfl rfl, zT_7 (i := 9) rfl rfl⟩
theorem lS_M_452 : zlS "PutOnModel" 452 M_M_over := ⟨zT_7 (i := 70) rfl rfl, zT_7 (i := 71) rfl rfl⟩
theorem lSN_D_25 : zlSN "PutOn$Doer" 25 M_P_isKind := ⟨"PutOn", zL_4 (i := 194) rfl, zT_2 (i := 107) rfl rfl⟩
theorem lSN_S_22 : zlSN "PutOn$Sheet" 22 M_P_bounded := ⟨"PutOn", zL_4 (i := 117) rfl, zT_2 (i := 185) rfl rfl⟩
theorem lSN_W_105 : zlSN "PutOn$Worlds" 105 M_P_bounded := ⟨"PutOn", zL_2 (i := 184) rfl, zT_2 (i := 185) rfl rfl⟩
theorem lV_P_127 : zlV "PutOn" 127 M_P_isClock := ⟨zT_2 (i := 113) rfl rfl, zT_2 (i := 115) rfl rfl, zTp_1 (i := 0) rfl rfl⟩
theorem lV_P_130 : zlV "PutOn" 130 M_P_isDoer := ⟨zT_2 (i := 117) rfl rfl, zT_2 (i := 119) rfl rfl, zTp_1 (i := 1) rfl rfl⟩
theorem lV_P_133 : zlV "PutOn" 133 M_C_put := ⟨zT_2 (i := 121) rfl rfl, zT_2 (i := 122) rfl rfl, zT_2 (i := 123) rfl rfl⟩
theorem lV_P_137 : zlV "PutOn" 137 M_D_put := ⟨zT_2 (i := 129) rfl rfl, zT_2 (i := 130) rfl rfl, zT_2 (i := 131) rfl rfl⟩
theorem lV_P_138 : zlV "PutOn" 138 M_C_tell := ⟨zT_2 (i := 141) rfl rfl, zT_2 (i := 126) rfl rfl, zT_2 (i := 127) rfl rfl⟩
theorem lV_P_142 : zlV "PutOn" 142 M_D_tell := ⟨zT_2 (i := 142) rfl rfl, zT_2 (i := 134) rfl rfl, zT_2 (i := 135) rfl rfl⟩
theorem lV_P_143 : zlV "PutOn" 143 M_P_worked := ⟨zT_2 (i := 143) rfl rfl, zT_2 (i := 145) rfl rfl, zTp_1 (i := 2) rfl rfl⟩
theorem lV_P_150 : zlV "PutOn" 150 M_R_read := ⟨zT_3 (i := 9) rfl rfl, zT_3 (i := 10) rfl rfl, zT_3 (i := 11) rfl rfl⟩
theorem lV_P_158 : zlV "PutOn" 158 M_T_become := ⟨zT_3 (i := 150) rfl rfl, zT_3 (i := 151) rfl rfl, zT_3 (i := 152) rfl rfl⟩
theorem lV_P_165 : zlV "PutOn" 165 M_P_isWorld := ⟨zT_3 (i := 166) rfl rfl, zT_3 (i := 168) rfl rfl, zTp_2 (i := 11) rfl rfl⟩
theorem lV_P_199 : zlV "PutOn" 199 M_K_chanceRight := ⟨zT_3 (i := 187) rfl rfl, zT_3 (i := 188) rfl rfl, zT_3 (i := 189) rfl rfl⟩
theorem lV_P_207 : zlV "PutOn" 207 M_K_likeliestTime := ⟨zT_3 (i := 198) rfl rfl, zT_3 (i := 199) rfl rfl, zT_3 (i := 200) rfl rfl⟩
theorem lV_P_211 : zlV "PutOn" 211 M_K_unlikeTimes := ⟨zT_3 (i := 221) rfl rfl, zT_3 (i := 222) rfl rfl, zT_3 (i := 223) rfl rfl⟩
theorem lV_P_214 : zlV "PutOn" 214 M_K_chanceOfTime := ⟨zT_3 (i := 233) rfl rfl, zT_3 (i := 234) rfl rfl, zT_3 (i := 235) rfl rfl⟩
theorem lV_P_218 : zlV "PutOn" 218 M_K_nextToSee := ⟨zT_4 (i := 2) rfl rfl, zT_4 (i := 3) rfl rfl, zT_4 (i := 4) rfl rfl⟩
theorem lV_P_221 : zlV "PutOn" 221 M_K_fewestThatTell := ⟨zT_4 (i := 22) rfl rfl, zT_4 (i := 23) rfl rfl, zT_4 (i := 24) rfl rfl⟩
theorem lV_P_224 : zlV "PutOn" 224 M_K_whomToAsk := ⟨zT_4 (i := 39) rfl rfl, zT_4 (i := 40) rfl rfl, zT_4 (i := 41) rfl rfl⟩
theorem lV_P_227 : zlV "PutOn" 227 M_K_worldOfMostRight := ⟨zT_4 (i := 48) rfl rfl, zT_4 (i := 49) rfl rfl, zT_4 (i := 50) rfl rfl⟩
theorem lV_P_235 : zlV "PutOn" 235 M_K_badness := ⟨zT_4 (i := 57) rfl rfl, zT_4 (i := 58) rfl rfl, zT_4 (i := 59) rfl rfl⟩
theorem lV_P_238 : zlV "PutOn" 238 M_K_latest := ⟨zT_4 (i := 73) rfl rfl, zT_4 (i := 74) rfl rfl, zT_4 (i := 75) rfl rfl⟩
theorem lV_P_255 : zlV "PutOn" 255 M_K_howManyAsTold := ⟨zT_4 (i := 93) rfl rfl, zT_4 (i := 94) rfl rfl, zT_4 (i := 95) rfl rfl⟩
theorem lV_P_259 : zlV "PutOn" 259 M_K_likeliestAsTold := ⟨zT_4 (i := 101) rfl rfl, zT_4 (i := 102) rfl rfl, zT_4 (i := 103) rfl rfl⟩
theorem lV_P_262 : zlV "PutOn" 262 M_K_whoCameAsTold := ⟨zT_4 (i := 105) rfl rfl, zT_4 (i := 106) rfl rfl, zT_4 (i := 107) rfl rfl⟩
theorem lV_P_265 : zlV "PutOn" 265 M_S_become := ⟨zT_4 (i := 113) rfl rfl, zT_4 (i := 114) rfl rfl, zT_4 (i := 115) rfl rfl⟩
theorem lV_P_268 : zlV "PutOn" 268 M_S_put := ⟨zT_4 (i := 118) rfl rfl, zT_4 (i := 119) rfl rfl, zT_4 (i := 120) rfl rfl⟩
theorem lV_P_270 : zlV "PutOn" 270 M_W_draw := ⟨zT_4 (i := 130) rfl rfl, zT_4 (i := 131) rfl rfl, zT_4 (i := 132) rfl rfl⟩
theorem lV_P_273 : zlV "PutOn" 273 M_H_become := ⟨zT_4 (i := 143) rfl rfl, zT_4 (i := 144) rfl rfl, zT_4 (i := 145) rfl rfl⟩
theorem lV_P_276 : zlV "PutOn" 276 M_H_seen := ⟨zT_4 (i := 163) rfl rfl, zT_4 (i := 7) rfl rfl, zT_4 (i := 8) rfl rfl⟩
theorem lV_P_283 : zlV "PutOn" 283 M_S_holds := ⟨zT_4 (i := 175) rfl rfl, zT_4 (i := 123) rfl rfl, zT_4 (i := 124) rfl rfl⟩
theorem lV_P_295 : zlV "PutOn" 295 M_P_clock := ⟨zT_4 (i := 185) rfl rfl, zT_2 (i := 92) rfl rfl, zT_2 (i := 93) rfl rfl⟩
theorem lV_P_298 : zlV "PutOn" 298 M_D_isUnder := ⟨zT_4 (i := 190) rfl rfl, zT_4 (i := 191) rfl rfl, zT_4 (i := 192) rfl rfl⟩
theorem lV_P_301 : zlV "PutOn" 301 M_W_work := ⟨zT_2 (i := 147) rfl rfl, zT_2 (i := 148) rfl rfl, zT_2 (i := 149) rfl rfl⟩
theorem lV_C_24 : zlV "PutOn$Clock" 24 M_C_tell := ⟨zT_2 (i := 125) rfl rfl, zT_2 (i := 126) rfl rfl, zT_2 (i := 127) rfl rfl⟩
theorem lV_D_21 : zlV "PutOn$Doer" 21 M_D_tell := ⟨zT_2 (i := 133) rfl rfl, zT_2 (i := 134) rfl rfl, zT_2 (i := 135) rfl rfl⟩
theorem lV_D_38 : zlV "PutOn$Doer" 38 M_D_trusts := ⟨zT_2 (i := 213) rfl rfl, zT_2 (i := 215) rfl rfl, zTp_1 (i := 10) rfl rfl⟩
theorem lV_D_41 : zlV "PutOn$Doer" 41 M_D_dares := ⟨zT_2 (i := 217) rfl rfl, zT_2 (i := 219) rfl rfl, zTp_1 (i := 11) rfl rfl⟩
theorem lV_H_35 : zlV "PutOn$House" 35 M_C_become := ⟨zT_4 (i := 147) rfl rfl, zT_4 (i := 148) rfl rfl, zT_4 (i := 149) rfl rfl⟩
theorem lV_H_39 : zlV "PutOn$House" 39 M_D_become := ⟨zT_4 (i := 151) rfl rfl, zT_4 (i := 152) rfl rfl, zT_4 (i := 153) rfl rfl⟩
theorem lV_K_43 : zlV "PutOn$Known" 43 M_U_add := ⟨zT_3 (i := 206) rfl rfl, zT_3 (i := 207) rfl rfl, zT_3 (i := 208) rfl rfl⟩
theorem lV_K_51 : zlV "PutOn$Known" 51 M_K_sumTimes := ⟨zT_3 (i := 202) rfl rfl, zT_3 (i := 204) rfl rfl, zTp_2 (i := 12) rfl rfl⟩
theorem lV_K_55 : zlV "PutOn$Known" 55 M_U_keyOfGreatest := ⟨zT_3 (i := 210) rfl rfl, zT_3 (i := 211) rfl rfl, zT_3 (i := 212) rfl rfl⟩
theorem lV_K_59 : zlV "PutOn$Known" 59 M_U_aboveNothing := ⟨zT_3 (i := 225) rfl rfl, zT_3 (i := 226) rfl rfl, zT_3 (i := 227) rfl rfl⟩
theorem lV_K_62 : zlV "PutOn$Known" 62 M_U_greatest := ⟨zT_3 (i := 237) rfl rfl, zT_3 (i := 215) rfl rfl, zT_3 (i := 216) rfl rfl⟩
theorem lV_K_70 : zlV "PutOn$Known" 70 M_H_seen := ⟨zT_4 (i := 6) rfl rfl, zT_4 (i := 7) rfl rfl, zT_4 (i := 8) rfl rfl⟩
theorem lV_K_87 : zlV "PutOn$Known" 87 M_K_chanceOfSaying := ⟨zT_4 (i := 10) rfl rfl, zT_4 (i := 12) rfl rfl, zTp_2 (i := 13) rfl rfl⟩
theorem lV_K_91 : zlV "PutOn$Known" 91 M_W_says := ⟨zT_4 (i := 14) rfl rfl, zT_4 (i := 15) rfl rfl, zT_4 (i := 16) rfl rfl⟩
theorem lV_K_95 : zlV "PutOn$Known" 95 M_K_blindBy := ⟨zT_4 (i := 26) rfl rfl, zT_4 (i := 28) rfl rfl, zTp_2 (i := 14) rfl rfl⟩
theorem lV_K_109 : zlV "PutOn$Known" 109 M_K_blindAllOf := ⟨zT_4 (i := 30) rfl rfl, zT_4 (i := 32) rfl rfl, zTp_2 (i := 15) rfl rfl⟩
theorem lV_K_122 : zlV "PutOn$Known" 122 M_K_wrongIn := ⟨zT_4 (i := 61) rfl rfl, zT_4 (i := 63) rfl rfl, zTp_3 (i := 0) rfl rfl⟩
theorem lV_K_126 : zlV "PutOn$Known" 126 M_W_minds := ⟨zT_4 (i := 65) rfl rfl, zT_4 (i := 66) rfl rfl, zT_4 (i := 67) rfl rfl⟩
theorem lV_K_142 : zlV "PutOn$Known" 142 M_K_isAsTold := ⟨zT_4 (i := 97) rfl rfl, zT_4 (i := 99) rfl rfl, zTp_3 (i := 1) rfl rfl⟩
theorem lV_R_35 : zlV "PutOn$Reader" 35 M_R_split := ⟨zT_3 (i := 13) rfl rfl, zT_3 (i := 15) rfl rfl, zTp_1 (i := 15) rfl rfl⟩
theorem lV_R_42 : zlV "PutOn$Reader" 42 M_R_part := ⟨zT_3 (i := 108) rfl rfl, zT_3 (i := 110) rfl rfl, zTp_2 (i := 1) rfl rfl⟩
theorem lV_R_46 : zlV "PutOn$Reader" 46 M_R_token := ⟨zT_3 (i := 116) rfl rfl, zT_3 (i := 118) rfl rfl, zTp_2 (i := 3) rfl rfl⟩
theorem lV_R_57 : zlV "PutOn$Reader" 57 M_R_add := ⟨zT_3 (i := 29) rfl rfl, zT_3 (i := 31) rfl rfl, zTp_2 (i := 0) rfl rfl⟩
theorem lV_R_118 : zlV "PutOn$Reader" 118 M_R_accept := ⟨zT_3 (i := 112) rfl rfl, zT_3 (i := 114) rfl rfl, zTp_2 (i := 2) rfl rfl⟩
theorem lV_R_121 : zlV "PutOn$Reader" 121 M_R_any := ⟨zT_3 (i := 120) rfl rfl, zT_3 (i := 122) rfl rfl, zTp_2 (i := 4) rfl rfl⟩
theorem lV_R_124 : zlV "PutOn$Reader" 124 M_T_close := ⟨zT_3 (i := 149) rfl rfl, zT_2 (i := 54) rfl rfl, zT_2 (i := 55) rfl rfl⟩
theorem lV_R_128 : zlV "PutOn$Reader" 128 M_R_every := ⟨zT_3 (i := 124) rfl rfl, zT_3 (i := 126) rfl rfl, zTp_2 (i := 5) rfl rfl⟩
theorem lV_R_131 : zlV "PutOn$Reader" 131 M_T_emit := ⟨zT_3 (i := 148) rfl rfl, zT_2 (i := 50) rfl rfl, zT_2 (i := 51) rfl rfl⟩
theorem lV_R_134 : zlV "PutOn$Reader" 134 M_R_denial := ⟨zT_3 (i := 128) rfl rfl, zT_3 (i := 130) rfl rfl, zTp_2 (i := 6) rfl rfl⟩
theorem lV_R_137 : zlV "PutOn$Reader" 137 M_R_comparison := ⟨zT_3 (i := 132) rfl rfl, zT_3 (i := 134) rfl rfl, zTp_2 (i := 7) rfl rfl⟩
theorem lV_R_140 : zlV "PutOn$Reader" 140 M_R_sum := ⟨zT_3 (i := 136) rfl rfl, zT_3 (i := 138) rfl rfl, zTp_2 (i := 8) rfl rfl⟩
theorem lV_R_143 : zlV "PutOn$Reader" 143 M_R_term := ⟨zT_3 (i := 140) rfl rfl, zT_3 (i := 142) rfl rfl, zTp_2 (i := 9) rfl rfl⟩
theorem lV_R_146 : zlV "PutOn$Reader" 146 M_R_one := ⟨zT_3 (i := 144) rfl rfl, zT_3 (i := 146) rfl rfl, zTp_2 (i := 10) rfl rfl⟩
theorem lV_S_26 : zlV "PutOn$Sheet" 26 M_S_holds := ⟨zT_4 (i := 122) rfl rfl, zT_4 (i := 123) rfl rfl, zT_4 (i := 124) rfl rfl⟩
theorem lV_U_29 : zlV "PutOn$Sums" 29 M_U_greatest := ⟨zT_3 (i := 214) rfl rfl, zT_3 (i := 215) rfl rfl, zT_3 (i := 216) rfl rfl⟩
theorem lV_T_34 : zlV "PutOn$Text" 34 M_T_push := ⟨zT_2 (i := 173) rfl rfl, zT_2 (i := 175) rfl rfl, zTp_1 (i := 5) rfl rfl⟩
theorem lV_T_38 : zlV "PutOn$Text" 38 M_T_pop := ⟨zT_2 (i := 177) rfl rfl, zT_2 (i := 179) rfl rfl, zTp_1 (i := 6) rfl rfl⟩
theorem lV_W_69 : zlV "PutOn$Worlds" 69 M_W_howLikely := ⟨zT_2 (i := 151) rfl rfl, zT_2 (i := 153) rfl rfl, zTp_1 (i := 3) rfl rfl⟩
theorem lV_W_73 : zlV "PutOn$Worlds" 73 M_W_play := ⟨zT_2 (i := 193) rfl rfl, zT_2 (i := 195) rfl rfl, zTp_1 (i := 7) rfl rfl⟩
theorem lV_W_77 : zlV "PutOn$Worlds" 77 M_W_rightIn := ⟨zT_2 (i := 226) rfl rfl, zT_2 (i := 228) rfl rfl, zTp_1 (i := 12) rfl rfl⟩
theorem lV_W_80 : zlV "PutOn$Worlds" 80 M_W_chanceOf := ⟨zT_2 (i := 230) rfl rfl, zT_2 (i := 232) rfl rfl, zTp_1 (i := 13) rfl rfl⟩
theorem lV_W_84 : zlV "PutOn$Worlds" 84 M_W_timeIn := ⟨zT_2 (i := 234) rfl rfl, zT_2 (i := 236) rfl rfl, zTp_1 (i := 14) rfl rfl⟩
theorem lV_W_91 : zlV "PutOn$Worlds" 91 M_D_rooms := ⟨zT_2 (i := 155) rfl rfl, zT_2 (i := 156) rfl rfl, zT_2 (i := 157) rfl rfl⟩
theorem lV_W_97 : zlV "PutOn$Worlds" 97 M_W_name := ⟨zT_2 (i := 165) rfl rfl, zT_2 (i := 167) rfl rfl, zTp_1 (i := 4) rfl rfl⟩
theorem lV_W_101 : zlV "PutOn$Worlds" 101 M_T_tells := ⟨zT_2 (i := 169) rfl rfl, zT_2 (i := 170) rfl rfl, zT_2 (i := 171) rfl rfl⟩
theorem lV_W_109 : zlV "PutOn$Worlds" 109 M_W_begin := ⟨zT_2 (i := 197) rfl rfl, zT_2 (i := 199) rfl rfl, zTp_1 (i := 8) rfl rfl⟩
theorem lV_W_115 : zlV "PutOn$Worlds" 115 M_D_goesTo := ⟨zT_2 (i := 201) rfl rfl, zT_2 (i := 202) rfl rfl, zT_2 (i := 203) rfl rfl⟩
theorem lV_W_131 : zlV "PutOn$Worlds" 131 M_W_visit := ⟨zT_2 (i := 205) rfl rfl, zT_2 (i := 207) rfl rfl, zTp_1 (i := 9) rfl rfl⟩
theorem lV_W_141 : zlV "PutOn$Worlds" 141 M_D_does := ⟨zT_2 (i := 209) rfl rfl, zT_2 (i := 210) rfl rfl, zT_2 (i := 211) rfl rfl⟩
theorem lV_W_145 : zlV "PutOn$Worlds" 145 M_D_adds := ⟨zT_2 (i := 221) rfl rfl, zT_2 (i := 222) rfl rfl, zT_2 (i := 223) rfl rfl⟩
theorem lV_M_114 : zlV "PutOnModel" 114 M_M_isClock := ⟨zT_5 (i := 135) rfl rfl, zT_5 (i := 137) rfl rfl, zTp_3 (i := 3) rfl rfl⟩
theorem lV_M_118 : zlV "PutOnModel" 118 M_M_isDoer := ⟨zT_5 (i := 139) rfl rfl, zT_5 (i := 141) rfl rfl, zTp_3 (i := 4) rfl rfl⟩
theorem lV_M_121 : zlV "PutOnModel" 121 M_M_told := ⟨zT_5 (i := 143) rfl rfl, zT_5 (i := 144) rfl rfl, zT_5 (i := 145) rfl rfl⟩
theorem lV_M_127 : zlV "PutOnModel" 127 M_M_cameOf := ⟨zT_5 (i := 148) rfl rfl, zT_5 (i := 150) rfl rfl, zTp_3 (i := 5) rfl rfl⟩
theorem lV_M_145 : zlV "PutOnModel" 145 M_M_byteAt := ⟨zT_5 (i := 163) rfl rfl, zT_5 (i := 165) rfl rfl, zTp_3 (i := 8) rfl rfl⟩
theorem lV_M_175 : zlV "PutOnModel" 175 M_M_isLetter := ⟨zT_5 (i := 176) rfl rfl, zT_5 (i := 178) rfl rfl, zTp_3 (i := 10) rfl rfl⟩
theorem lV_M_182 : zlV "PutOnModel" 182 M_M_fail := ⟨zT_5 (i := 184) rfl rfl, zT_5 (i := 186) rfl rfl, zTp_3 (i := 12) rfl rfl⟩
theorem lV_M_185 : zlV "PutOnModel" 185 M_M_next := ⟨zT_5 (i := 159) rfl rfl, zT_5 (i := 161) rfl rfl, zTp_3 (i := 7) rfl rfl⟩
theorem lV_M_188 : zlV "PutOnModel" 188 M_M_isWord := ⟨zT_5 (i := 172) rfl rfl, zT_5 (i := 174) rfl rfl, zTp_3 (i := 9) rfl rfl⟩
theorem lV_M_210 : zlV "PutOnModel" 210 M_M_isSign := ⟨zT_5 (i := 236) rfl rfl, zT_5 (i := 238) rfl rfl, zTp_4 (i := 9) rfl rfl⟩
theorem lV_M_213 : zlV "PutOnModel" 213 M_M_opens := ⟨zT_5 (i := 200) rfl rfl, zT_5 (i := 202) rfl rfl, zTp_4 (i := 0) rfl rfl⟩
theorem lV_M_217 : zlV "PutOnModel" 217 M_M_name := ⟨zT_6 (i := 0) rfl rfl, zT_6 (i := 2) rfl rfl, zTp_4 (i := 10) rfl rfl⟩
theorem lV_M_221 : zlV "PutOnModel" 221 M_M_atom5 := ⟨zT_5 (i := 232) rfl rfl, zT_5 (i := 234) rfl rfl, zTp_4 (i := 8) rfl rfl⟩
theorem lV_M_224 : zlV "PutOnModel" 224 M_M_term5 := ⟨zT_5 (i := 228) rfl rfl, zT_5 (i := 230) rfl rfl, zTp_4 (i := 7) rfl rfl⟩
theorem lV_M_229 : zlV "PutOnModel" 229 M_M_added5 := ⟨zT_5 (i := 224) rfl rfl, zT_5 (i := 226) rfl rfl, zTp_4 (i := 6) rfl rfl⟩
theorem lV_M_234 : zlV "PutOnModel" 234 M_M_not5 := ⟨zT_5 (i := 220) rfl rfl, zT_5 (i := 222) rfl rfl, zTp_4 (i := 5) rfl rfl⟩
theorem lV_M_237 : zlV "PutOnModel" 237 M_M_both5 := ⟨zT_6 (i := 22) rfl rfl, zT_6 (i := 24) rfl rfl, zTp_4 (i := 15) rfl rfl⟩
theorem lV_M_240 : zlV "PutOnModel" 240 M_M_either5 := ⟨zT_6 (i := 18) rfl rfl, zT_6 (i := 20) rfl rfl, zTp_4 (i := 14) rfl rfl⟩
theorem lV_M_243 : zlV "PutOnModel" 243 M_M_atom4 := ⟨zT_6 (i := 14) rfl rfl, zT_6 (i := 16) rfl rfl, zTp_4 (i := 13) rfl rfl⟩
theorem lV_M_246 : zlV "PutOnModel" 246 M_M_term4 := ⟨zT_6 (i := 10) rfl rfl, zT_6 (i := 12) rfl rfl, zTp_4 (i := 12) rfl rfl⟩
theorem lV_M_249 : zlV "PutOnModel" 249 M_M_added4 := ⟨zT_6 (i := 6) rfl rfl, zT_6 (i := 8) rfl rfl, zTp_4 (i := 11) rfl rfl⟩
theorem lV_M_252 : zlV "PutOnModel" 252 M_M_not4 := ⟨zT_5 (i := 216) rfl rfl, zT_5 (i := 218) rfl rfl, zTp_4 (i := 4) rfl rfl⟩
theorem lV_M_255 : zlV "PutOnModel" 255 M_M_both4 := ⟨zT_6 (i := 42) rfl rfl, zT_6 (i := 44) rfl rfl, zTp_5 (i := 4) rfl rfl⟩
theorem lV_M_258 : zlV "PutOnModel" 258 M_M_either4 := ⟨zT_6 (i := 38) rfl rfl, zT_6 (i := 40) rfl rfl, zTp_5 (i := 3) rfl rfl⟩
theorem lV_M_261 : zlV "PutOnModel" 261 M_M_atom3 := ⟨zT_6 (i := 34) rfl rfl, zT_6 (i := 36) rfl rfl, zTp_5 (i := 2) rfl rfl⟩
theorem lV_M_264 : zlV "PutOnModel" 264 M_M_term3 := ⟨zT_6 (i := 30) rfl rfl, zT_6 (i := 32) rfl rfl, zTp_5 (i := 1) rfl rfl⟩
theorem lV_M_267 : zlV "PutOnModel" 267 M_M_added3 := ⟨zT_6 (i := 26) rfl rfl, zT_6 (i := 28) rfl rfl, zTp_5 (i := 0) rfl rfl⟩
theorem lV_M_270 : zlV "PutOnModel" 270 M_M_not3 := ⟨zT_5 (i := 212) rfl rfl, zT_5 (i := 214) rfl rfl, zTp_4 (i := 3) rfl rfl⟩
theorem lV_M_273 : zlV "PutOnModel" 273 M_M_both3 := ⟨zT_6 (i := 62) rfl rfl, zT_6 (i := 64) rfl rfl, zTp_5 (i := 9) rfl rfl⟩
theorem lV_M_276 : zlV "PutOnModel" 276 M_M_either3 := ⟨zT_6 (i := 58) rfl rfl, zT_6 (i := 60) rfl rfl, zTp_5 (i := 8) rfl rfl⟩
theorem lV_M_279 : zlV "PutOnModel" 279 M_M_atom2 := ⟨zT_6 (i := 54) rfl rfl, zT_6 (i := 56) rfl rfl, zTp_5 (i := 7) rfl rfl⟩
theorem lV_M_282 : zlV "PutOnModel" 282 M_M_term2 := ⟨zT_6 (i := 50) rfl rfl, zT_6 (i := 52) rfl rfl, zTp_5 (i := 6) rfl rfl⟩
theorem lV_M_285 : zlV "PutOnModel" 285 M_M_added2 := ⟨zT_6 (i := 46) rfl rfl, zT_6 (i := 48) rfl rfl, zTp_5 (i := 5) rfl rfl⟩
theorem lV_M_288 : zlV "PutOnModel" 288 M_M_not2 := ⟨zT_5 (i := 208) rfl rfl, zT_5 (i := 210) rfl rfl, zTp_4 (i := 2) rfl rfl⟩
theorem lV_M_291 : zlV "PutOnModel" 291 M_M_both2 := ⟨zT_6 (i := 82) rfl rfl, zT_6 (i := 84) rfl rfl, zTp_5 (i := 14) rfl rfl⟩
theorem lV_M_294 : zlV "PutOnModel" 294 M_M_either2 := ⟨zT_6 (i := 78) rfl rfl, zT_6 (i := 80) rfl rfl, zTp_5 (i := 13) rfl rfl⟩
theorem lV_M_297 : zlV "PutOnModel" 297 M_M_atom1 := ⟨zT_6 (i := 74) rfl rfl, zT_6 (i := 76) rfl rfl, zTp_5 (i := 12) rfl rfl⟩
theorem lV_M_300 : zlV "PutOnModel" 300 M_M_term1 := ⟨zT_6 (i := 70) rfl rfl, zT_6 (i := 72) rfl rfl, zTp_5 (i := 11) rfl rfl⟩
theorem lV_M_303 : zlV "PutOnModel" 303 M_M_added1 := ⟨zT_6 (i := 66) rfl rfl, zT_6 (i := 68) rfl rfl, zTp_5 (i := 10) rfl rfl⟩
theorem lV_M_306 : zlV "PutOnModel" 306 M_M_not1 := ⟨zT_5 (i := 204) rfl rfl, zT_5 (i := 206) rfl rfl, zTp_4 (i := 1) rfl rfl⟩
theorem lV_M_309 : zlV "PutOnModel" 309 M_M_both1 := ⟨zT_6 (i := 102) rfl rfl, zT_6 (i := 104) rfl rfl, zTp_6 (i := 3) rfl rfl⟩
theorem lV_M_312 : zlV "PutOnModel" 312 M_M_either1 := ⟨zT_6 (i := 98) rfl rfl, zT_6 (i := 100) rfl rfl, zTp_6 (i := 2) rfl rfl⟩
theorem lV_M_315 : zlV "PutOnModel" 315 M_M_atom0 := ⟨zT_6 (i := 94) rfl rfl, zT_6 (i := 96) rfl rfl, zTp_6 (i := 1) rfl rfl⟩
theorem lV_M_318 : zlV "PutOnModel" 318 M_M_term0 := ⟨zT_6 (i := 90) rfl rfl, zT_6 (i := 92) rfl rfl, zTp_6 (i := 0) rfl rfl⟩
theorem lV_M_321 : zlV "PutOnModel" 321 M_M_added0 := ⟨zT_6 (i := 86) rfl rfl, zT_6 (i := 88) rfl rfl, zTp_5 (i := 15) rfl rfl⟩
theorem lV_M_324 : zlV "PutOnModel" 324 M_M_not0 := ⟨zT_5 (i := 196) rfl rfl, zT_5 (i := 198) rfl rfl, zTp_3 (i := 15) rfl rfl⟩
theorem lV_M_327 : zlV "PutOnModel" 327 M_M_both0 := ⟨zT_5 (i := 192) rfl rfl, zT_5 (i := 194) rfl rfl, zTp_3 (i := 14) rfl rfl⟩
theorem lV_M_330 : zlV "PutOnModel" 330 M_M_either0 := ⟨zT_5 (i := 188) rfl rfl, zT_5 (i := 190) rfl rfl, zTp_3 (i := 13) rfl rfl⟩
theorem lV_M_333 : zlV "PutOnModel" 333 M_M_part := ⟨zT_5 (i := 180) rfl rfl, zT_5 (i := 182) rfl rfl, zTp_3 (i := 11) rfl rfl⟩
theorem lV_M_337 : zlV "PutOnModel" 337 M_M_read := ⟨zT_5 (i := 155) rfl rfl, zT_5 (i := 157) rfl rfl, zTp_3 (i := 6) rfl rfl⟩
theorem lV_M_350 : zlV "PutOnModel" 350 M_M_addsOf := ⟨zT_6 (i := 149) rfl rfl, zT_6 (i := 151) rfl rfl, zTp_6 (i := 9) rfl rfl⟩
theorem lV_M_353 : zlV "PutOnModel" 353 M_M_does := ⟨zT_6 (i := 141) rfl rfl, zT_6 (i := 143) rfl rfl, zTp_6 (i := 7) rfl rfl⟩
theorem lV_M_357 : zlV "PutOnModel" 357 M_M_addsBy := ⟨zT_6 (i := 145) rfl rfl, zT_6 (i := 147) rfl rfl, zTp_6 (i := 8) rfl rfl⟩
theorem lV_M_361 : zlV "PutOnModel" 361 M_M_goesThrough := ⟨zT_6 (i := 137) rfl rfl, zT_6 (i := 139) rfl rfl, zTp_6 (i := 6) rfl rfl⟩
theorem lV_M_371 : zlV "PutOnModel" 371 M_M_worlds := ⟨zT_6 (i := 169) rfl rfl, zT_6 (i := 171) rfl rfl, zTp_6 (i := 11) rfl rfl⟩
theorem lV_M_374 : zlV "PutOnModel" 374 M_M_makes := ⟨zT_6 (i := 133) rfl rfl, zT_6 (i := 135) rfl rfl, zTp_6 (i := 5) rfl rfl⟩
theorem lV_M_378 : zlV "PutOnModel" 378 M_M_isWorld := ⟨zT_6 (i := 127) rfl rfl, zT_6 (i := 129) rfl rfl, zTp_6 (i := 4) rfl rfl⟩
theorem lV_M_386 : zlV "PutOnModel" 386 M_M_gathers := ⟨zT_6 (i := 165) rfl rfl, zT_6 (i := 167) rfl rfl, zTp_6 (i := 10) rfl rfl⟩
theorem lV_M_399 : zlV "PutOnModel" 399 M_M_times := ⟨zT_6 (i := 184) rfl rfl, zT_6 (i := 186) rfl rfl, zTp_6 (i := 12) rfl rfl⟩
theorem lV_M_402 : zlV "PutOnModel" 402 M_M_saysIn := ⟨zT_6 (i := 204) rfl rfl, zT_6 (i := 206) rfl rfl, zTp_6 (i := 15) rfl rfl⟩
theorem lV_M_405 : zlV "PutOnModel" 405 M_M_seenMany := ⟨zT_6 (i := 196) rfl rfl, zT_6 (i := 198) rfl rfl, zTp_6 (i := 13) rfl rfl⟩
theorem lV_M_408 : zlV "PutOnModel" 408 M_M_alike := ⟨zT_6 (i := 200) rfl rfl, zT_6 (i := 202) rfl rfl, zTp_6 (i := 14) rfl rfl⟩
theorem lV_M_412 : zlV "PutOnModel" 412 M_M_areMore := ⟨zT_6 (i := 216) rfl rfl, zT_6 (i := 218) rfl rfl, zTp_7 (i := 1) rfl rfl⟩
theorem lV_M_416 : zlV "PutOnModel" 416 M_M_tellsAll := ⟨zT_6 (i := 212) rfl rfl, zT_6 (i := 214) rfl rfl, zTp_7 (i := 0) rfl rfl⟩
theorem lV_M_419 : zlV "PutOnModel" 419 M_M_mindsOf := ⟨zT_6 (i := 232) rfl rfl, zT_6 (i := 234) rfl rfl, zTp_7 (i := 2) rfl rfl⟩
theorem lV_M_425 : zlV "PutOnModel" 425 M_M_isSo := ⟨zT_7 (i := 12) rfl rfl, zT_7 (i := 14) rfl rfl, zTp_7 (i := 3) rfl rfl⟩
theorem lV_M_428 : zlV "PutOnModel" 428 M_M_sheet := ⟨zT_7 (i := 20) rfl rfl, zT_7 (i := 21) rfl rfl, zT_7 (i := 22) rfl rfl⟩
theorem lV_M_432 : zlV "PutOnModel" 432 M_M_draws := ⟨zT_7 (i := 29) rfl rfl, zT_7 (i := 31) rfl rfl, zTp_7 (i := 4) rfl rfl⟩
theorem lV_M_449 : zlV "PutOnModel" 449 M_M_clock := ⟨zT_7 (i := 65) rfl rfl, zT_5 (i := 115) rfl rfl, zT_5 (i := 116) rfl rfl⟩
-- the methods as judgements
def m_C_tell (l0 : Nat) (l1 : Int32) (v : Vv) (Q : Int32 → Vv → Prop) : Prop := Cp 1 M_C_tell [.ref (l0), .int (l1)] v (QI Q)
def m_C_become (l0 : Nat) (l1 : Nat) (v : Vv) (Q : Vv → Prop) : Prop := Cp 1 M_C_become [.ref (l0), .ref (l1)] v (QV Q)
def m_D_tell (l0 : Nat) (l1 : Int32) (v : Vv) (Q : Int32 → Vv → Prop) : Prop := Cp 1 M_D_tell [.ref (l0), .int (l1)] v (QI Q)
def m_D_become (l0 : Nat) (l1 : Nat) (v : Vv) (Q : Vv → Prop) : Prop := Cp 1 M_D_become [.ref (l0), .ref (l1)] v (QV Q)
def m_D_goesTo (l0 : Nat) (l1 : Int32) (v : Vv) (Q : Bool → Vv → Prop) : Prop := Cp 1 M_D_goesTo [.ref (l0), .int (l1)] v (QZ Q)
def m_D_trusts (l0 : Nat) (l1 : Int32) (v : Vv) (Q : Bool → Vv → Prop) : Prop := Cp 1 M_D_trusts [.ref (l0), .int (l1)] v (QZ Q)
def m_D_dares (l0 : Nat) (l1 : Int32) (v : Vv) (Q : Bool → Vv → Prop) : Prop := Cp 1 M_D_dares [.ref (l0), .int (l1)] v (QZ Q)
def m_H_seen (l0 : Nat) (v : Vv) (Q : Int32 → Vv → Prop) : Prop := Cp 1 M_H_seen [.ref (l0)] v (QI Q)
def k_H_seen_4 (l0 : Nat) (l1 : Int32) (l2 : Int32) (v : Vv) (Q : Int32 → Vv → Prop) : Prop := Gp 1 M_H_seen 4 [(0, .ref (l0)), (1, .int (l1)), (2, .int (l2))] [] v (QI Q)
def m_K_chanceRight (l2 : Int32) (v : Vv) (Q : Int64 → Vv → Prop) : Prop := Cp 1 M_K_chanceRight [.ref (116), .ref (1), .int (l2)] v (QJ Q)
def k_K_chanceRight_5 (l2 : Int32) (l3 : Int64) (l5 : Int32) (v : Vv) (Q : Int64 → Vv → Prop) : Prop := Gp 1 M_K_chanceRight 5 [(1, .ref (1)), (2, .int (l2)), (3, .long (l3)), (5, .int (l5))] [] v (QJ Q)
def m_K_blindAllOf (l1 : Int32) (v : Vv) (Q : Vv → Prop) : Prop := Cp 1 M_K_blindAllOf [.ref (116), .int (l1)] v (QV Q)
def k_K_blindAllOf_12 (l1 : Int32) (l2 : Int32) (v : Vv) (Q : Vv → Prop) : Prop := Gp 1 M_K_blindAllOf 12 [(0, .ref (116)), (1, .int (l1)), (2, .int (l2))] [] v (QV Q)
def k_K_blindAllOf_31 (l1 : Int32) (l2 : Int32) (v : Vv) (Q : Vv → Prop) : Prop := Gp 1 M_K_blindAllOf 31 [(0, .ref (116)), (1, .int (l1)), (2, .int (l2))] [] v (QV Q)
def m_K_isAsTold (l2 : Int32) (l3 : Nat) (v : Vv) (Q : Bool → Vv → Prop) : Prop := Cp 1 M_K_isAsTold [.ref (116), .ref (1), .int (l2), .ref (l3)] v (QZ Q)
def k_K_isAsTold_16 (l2 : Int32) (l3 : Nat) (l4 : Int32) (v : Vv) (Q : Bool → Vv → Prop) : Prop := Gp 1 M_K_isAsTold 16 [(1, .ref (1)), (2, .int (l2)), (3, .ref (l3)), (4, .int (l4))] [] v (QZ Q)
def k_K_isAsTold_57 (l2 : Int32) (l3 : Nat) (l4 : Int32) (l5 : Int32) (v : Vv) (Q : Bool → Vv → Prop) : Prop := Gp 1 M_K_isAsTold 57 [(1, .ref (1)), (2, .int (l2)), (3, .ref (l3)), (4, .int (l4)), (5, .int (l5))] [] v (QZ Q)
def k_K_isAsTold_75 (l2 : Int32) (l3 : Nat) (l4 : Int32) (v : Vv) (Q : Bool → Vv → Prop) : Prop := Gp 1 M_K_isAsTold 75 [(1, .ref (1)), (2, .int (l2)), (3, .ref (l3)), (4, .int (l4))] [] v (QZ Q)
def m_R_add (l1 : Int32) (l2 : Int32) (v : Vv) (Q : Vv → Prop) : Prop := Cp 1 M_R_add [.ref (108), .int (l1), .int (l2)] v (QV Q)
def m_R_isBlank (l0 : Int32) (v : Vv) (Q : Bool → Vv → Prop) : Prop := Cp 1 M_R_isBlank [.int (l0)] v (QZ Q)
def m_R_isSmall (l0 : Int32) (v : Vv) (Q : Bool → Vv → Prop) : Prop := Cp 1 M_R_isSmall [.int (l0)] v (QZ Q)
def m_R_isDigit (l0 : Int32) (v : Vv) (Q : Bool → Vv → Prop) : Prop := Cp 1 M_R_isDigit [.int (l0)] v (QZ Q)
def m_R_numberAt (l1 : Int32) (l2 : Int32) (v : Vv) (Q : Int32 → Vv → Prop) : Prop := Cp 1 M_R_numberAt [.ref (107), .int (l1), .int (l2)] v (QI Q)
def k_R_numberAt_15 (l2 : Int32) (l3 : Int32) (l4 : Int32) (v : Vv) (Q : Int32 → Vv → Prop) : Prop := Gp 1 M_R_numberAt 15 [(0, .ref (107)), (2, .int (l2)), (3, .int (l3)), (4, .int (l4))] [] v (QI Q)
def m_R_word (l0 : Int32) (v : Vv) (Q : Nat → Vv → Prop) : Prop := Cp 1 M_R_word [.int (l0)] v (QR Q)
def m_R_token  (v : Vv) (Q : Int32 → Vv → Prop) : Prop := Cp 1 M_R_token [.ref (108)] v (QI Q)
def m_S_holds (l0 : Nat) (l1 : Int32) (l2 : Int32) (v : Vv) (Q : Bool → Vv → Prop) : Prop := Cp 1 M_S_holds [.ref (l0), .int (l1), .int (l2)] v (QZ Q)
def m_U_add (l1 : Int32) (l2 : Int64) (v : Vv) (Q : Vv → Prop) : Prop := Cp 1 M_U_add [.ref (117), .int (l1), .long (l2)] v (QV Q)
def k_U_add_3 (l1 : Int32) (l2 : Int64) (l4 : Int32) (v : Vv) (Q : Vv → Prop) : Prop := Gp 1 M_U_add 3 [(0, .ref (117)), (1, .int (l1)), (2, .long (l2)), (4, .int (l4))] [] v (QV Q)
def k_U_add_29 (l1 : Int32) (l2 : Int64) (l4 : Int32) (v : Vv) (Q : Vv → Prop) : Prop := Gp 1 M_U_add 29 [(0, .ref (117)), (1, .int (l1)), (2, .long (l2)), (4, .int (l4))] [] v (QV Q)
def k_U_add_75 (l2 : Int64) (l4 : Int32) (v : Vv) (Q : Vv → Prop) : Prop := Gp 1 M_U_add 75 [(0, .ref (117)), (2, .long (l2)), (4, .int (l4))] [] v (QV Q)
def m_U_aboveNothing  (v : Vv) (Q : Int32 → Vv → Prop) : Prop := Cp 1 M_U_aboveNothing [.ref (117)] v (QI Q)
def k_U_aboveNothing_4 (l1 : Int32) (l2 : Int32) (v : Vv) (Q : Int32 → Vv → Prop) : Prop := Gp 1 M_U_aboveNothing 4 [(0, .ref (117)), (1, .int (l1)), (2, .int (l2))] [] v (QI Q)
def k_U_aboveNothing_26 (l1 : Int32) (l2 : Int32) (v : Vv) (Q : Int32 → Vv → Prop) : Prop := Gp 1 M_U_aboveNothing 26 [(0, .ref (117)), (1, .int (l1)), (2, .int (l2))] [] v (QI Q)
def m_T_emit (l0 : Nat) (l1 : Int32) (v : Vv) (Q : Vv → Prop) : Prop := Cp 1 M_T_emit [.ref (l0), .int (l1)] v (QV Q)
def m_T_close (l0 : Nat) (l1 : Int32) (v : Vv) (Q : Vv → Prop) : Prop := Cp 1 M_T_close [.ref (l0), .int (l1)] v (QV Q)
def m_T_push (l0 : Nat) (l1 : Int32) (v : Vv) (Q : Vv → Prop) : Prop := Cp 1 M_T_push [.ref (l0), .int (l1)] v (QV Q)
def m_T_pop (l0 : Nat) (v : Vv) (Q : Int32 → Vv → Prop) : Prop := Cp 1 M_T_pop [.ref (l0)] v (QI Q)
def m_T_joined (l0 : Int32) (l1 : Int32) (l2 : Int32) (v : Vv) (Q : Int32 → Vv → Prop) : Prop := Cp 1 M_T_joined [.int (l0), .int (l1), .int (l2)] v (QI Q)
def m_W_name (l1 : Int32) (l2 : Int32) (l3 : Int32) (l4 : Int32) (l5 : Int32) (l6 : Int32) (v : Vv) (Q : Vv → Prop) : Prop := Cp 1 M_W_name [.ref (1), .int (l1), .int (l2), .int (l3), .int (l4), .int (l5), .int (l6)] v (QV Q)
def m_W_chanceOf (l1 : Int32) (v : Vv) (Q : Int64 → Vv → Prop) : Prop := Cp 1 M_W_chanceOf [.ref (1), .int (l1)] v (QJ Q)
def k_W_chanceOf_5 (l1 : Int32) (l2 : Int64) (l4 : Int32) (v : Vv) (Q : Int64 → Vv → Prop) : Prop := Gp 1 M_W_chanceOf 5 [(0, .ref (1)), (1, .int (l1)), (2, .long (l2)), (4, .int (l4))] [] v (QJ Q)
def k_W_chanceOf_50 (l1 : Int32) (l4 : Int32) (t0 : Int64) (t1 : Int64) (v : Vv) (Q : Int64 → Vv → Prop) : Prop := Gp 1 M_W_chanceOf 50 [(0, .ref (1)), (1, .int (l1)), (4, .int (l4))] [.long (t0), .long (t1)] v (QJ Q)
def m_W_begin (l1 : Int32) (v : Vv) (Q : Vv → Prop) : Prop := Cp 1 M_W_begin [.ref (1), .int (l1)] v (QV Q)
def k_W_begin_2 (l1 : Int32) (l2 : Int32) (v : Vv) (Q : Vv → Prop) : Prop := Gp 1 M_W_begin 2 [(0, .ref (1)), (1, .int (l1)), (2, .int (l2))] [] v (QV Q)
def m_W_rightIn (l1 : Int32) (v : Vv) (Q : Int32 → Vv → Prop) : Prop := Cp 1 M_W_rightIn [.ref (1), .int (l1)] v (QI Q)
def k_W_rightIn_4 (l1 : Int32) (l2 : Int32) (l3 : Int32) (v : Vv) (Q : Int32 → Vv → Prop) : Prop := Gp 1 M_W_rightIn 4 [(0, .ref (1)), (1, .int (l1)), (2, .int (l2)), (3, .int (l3))] [] v (QI Q)
def m_W_draw (l1 : Int32) (v : Vv) (Q : Int32 → Vv → Prop) : Prop := Cp 1 M_W_draw [.ref (1), .int (l1)] v (QI Q)
def k_W_draw_7 (l2 : Int32) (l3 : Int32) (l4 : Int32) (v : Vv) (Q : Int32 → Vv → Prop) : Prop := Gp 1 M_W_draw 7 [(0, .ref (1)), (2, .int (l2)), (3, .int (l3)), (4, .int (l4))] [] v (QI Q)
def m_P_feed (l1 : Int32) (v : Vv) (Q : Int32 → Vv → Prop) : Prop := Cp 1 M_P_feed [.ref (0), .int (l1)] v (QI Q)
def m_P_force (l1 : Int32) (v : Vv) (Q : Int32 → Vv → Prop) : Prop := Cp 1 M_P_force [.ref (0), .int (l1)] v (QI Q)
def m_P_isClock (l1 : Int32) (v : Vv) (Q : Bool → Vv → Prop) : Prop := Cp 1 M_P_isClock [.ref (0), .int (l1)] v (QZ Q)
def m_P_isDoer (l1 : Int32) (v : Vv) (Q : Bool → Vv → Prop) : Prop := Cp 1 M_P_isDoer [.ref (0), .int (l1)] v (QZ Q)
def m_P_isWorld (l1 : Int32) (v : Vv) (Q : Bool → Vv → Prop) : Prop := Cp 1 M_P_isWorld [.ref (0), .int (l1)] v (QZ Q)
def m_P_isKind (l0 : Int32) (v : Vv) (Q : Bool → Vv → Prop) : Prop := Cp 1 M_P_isKind [.int (l0)] v (QZ Q)
def m_P_isSheet (l0 : Int32) (v : Vv) (Q : Bool → Vv → Prop) : Prop := Cp 1 M_P_isSheet [.int (l0)] v (QZ Q)
def m_P_isSort (l0 : Int32) (v : Vv) (Q : Bool → Vv → Prop) : Prop := Cp 1 M_P_isSort [.int (l0)] v (QZ Q)
def m_P_isPart (l0 : Int32) (v : Vv) (Q : Bool → Vv → Prop) : Prop := Cp 1 M_P_isPart [.int (l0)] v (QZ Q)
def m_P_canBe (l0 : Int32) (l1 : Int32) (v : Vv) (Q : Bool → Vv → Prop) : Prop := Cp 1 M_P_canBe [.int (l0), .int (l1)] v (QZ Q)
def m_P_lowest (l0 : Int64) (l2 : Int64) (l4 : Int32) (v : Vv) (Q : Int64 → Vv → Prop) : Prop := Cp 1 M_P_lowest [.long (l0), .long (l2), .int (l4)] v (QJ Q)
def k_P_lowest_9 (l0 : Int64) (l2 : Int64) (l4 : Int32) (l5 : Int64) (l7 : Int64) (l9 : Int32) (v : Vv) (Q : Int64 → Vv → Prop) : Prop := Gp 1 M_P_lowest 9 [(0, .long (l0)), (2, .long (l2)), (4, .int (l4)), (5, .long (l5)), (7, .long (l7)), (9, .int (l9))] [] v (QJ Q)
def k_P_lowest_45 (l0 : Int64) (l2 : Int64) (l4 : Int32) (l5 : Int64) (v : Vv) (Q : Int64 → Vv → Prop) : Prop := Gp 1 M_P_lowest 45 [(0, .long (l0)), (2, .long (l2)), (4, .int (l4)), (5, .long (l5))] [] v (QJ Q)
def m_M_in (l0 : Int64) (l2 : Int64) (l4 : Int64) (v : Vv) (Q : Bool → Vv → Prop) : Prop := Cp 1 M_M_in [.long (l0), .long (l2), .long (l4)] v (QZ Q)
def m_M_within (l0 : Int32) (l1 : Int32) (l2 : Int32) (v : Vv) (Q : Int32 → Vv → Prop) : Prop := Cp 1 M_M_within [.int (l0), .int (l1), .int (l2)] v (QI Q)
def m_M_bitsOf (l0 : Int32) (v : Vv) (Q : Int32 → Vv → Prop) : Prop := Cp 1 M_M_bitsOf [.int (l0)] v (QI Q)
def k_M_bitsOf_4 (l1 : Int32) (l2 : Int32) (v : Vv) (Q : Int32 → Vv → Prop) : Prop := Gp 1 M_M_bitsOf 4 [(1, .int (l1)), (2, .int (l2))] [] v (QI Q)
def m_M_dayOf (l0 : Int32) (v : Vv) (Q : Int32 → Vv → Prop) : Prop := Cp 1 M_M_dayOf [.int (l0)] v (QI Q)
def m_M_byteAt (l1 : Int32) (v : Vv) (Q : Int32 → Vv → Prop) : Prop := Cp 1 M_M_byteAt [.ref (154), .int (l1)] v (QI Q)
def m_M_fail  (v : Vv) (Q : Vv → Prop) : Prop := Cp 1 M_M_fail [.ref (154)] v (QV Q)
def m_M_isSign (l1 : Int32) (v : Vv) (Q : Bool → Vv → Prop) : Prop := Cp 1 M_M_isSign [.ref (154), .int (l1)] v (QZ Q)
def m_M_does (l1 : Int32) (l2 : Int32) (l3 : Int32) (l4 : Int32) (l5 : Int32) (v : Vv) (Q : Bool → Vv → Prop) : Prop := Cp 1 M_M_does [.ref (154), .int (l1), .int (l2), .int (l3), .int (l4), .int (l5)] v (QZ Q)
def k_M_does_20 (l3 : Int32) (l4 : Int32) (l6 : Int32) (v : Vv) (Q : Bool → Vv → Prop) : Prop := Gp 1 M_M_does 20 [(3, .int (l3)), (4, .int (l4)), (6, .int (l6))] [] v (QZ Q)
def k_M_does_55 (l1 : Int32) (l2 : Int32) (l5 : Int32) (l6 : Int32) (v : Vv) (Q : Bool → Vv → Prop) : Prop := Gp 1 M_M_does 55 [(0, .ref (154)), (1, .int (l1)), (2, .int (l2)), (5, .int (l5)), (6, .int (l6))] [] v (QZ Q)
def m_M_worlds  (v : Vv) (Q : Int32 → Vv → Prop) : Prop := Cp 1 M_M_worlds [.ref (154)] v (QI Q)
def m_M_lowest (l0 : Int64) (l2 : Int64) (l4 : Int32) (v : Vv) (Q : Int64 → Vv → Prop) : Prop := Cp 1 M_M_lowest [.long (l0), .long (l2), .int (l4)] v (QJ Q)
def k_M_lowest_6 (l0 : Int64) (l2 : Int64) (l4 : Int32) (l5 : Int64) (l7 : Int64) (v : Vv) (Q : Int64 → Vv → Prop) : Prop := Gp 1 M_M_lowest 6 [(0, .long (l0)), (2, .long (l2)), (4, .int (l4)), (5, .long (l5)), (7, .long (l7))] [] v (QJ Q)
def m_M_seenMany  (v : Vv) (Q : Int32 → Vv → Prop) : Prop := Cp 1 M_M_seenMany [.ref (154)] v (QI Q)
def k_M_seenMany_4 (l1 : Int32) (l2 : Int32) (v : Vv) (Q : Int32 → Vv → Prop) : Prop := Gp 1 M_M_seenMany 4 [(0, .ref (154)), (1, .int (l1)), (2, .int (l2))] [] v (QI Q)
def m_M_areMore (l1 : Int32) (l2 : Int32) (l3 : Int32) (v : Vv) (Q : Bool → Vv → Prop) : Prop := Cp 1 M_M_areMore [.ref (154), .int (l1), .int (l2), .int (l3)] v (QZ Q)
def k_M_areMore_6 (l1 : Int32) (l2 : Int32) (l3 : Int32) (l4 : Int32) (l5 : Int32) (v : Vv) (Q : Bool → Vv → Prop) : Prop := Gp 1 M_M_areMore 6 [(0, .ref (154)), (1, .int (l1)), (2, .int (l2)), (3, .int (l3)), (4, .int (l4)), (5, .int (l5))] [] v (QZ Q)
def k_M_areMore_71 (l1 : Int32) (l2 : Int32) (l3 : Int32) (l5 : Int32) (l6 : Int32) (v : Vv) (Q : Bool → Vv → Prop) : Prop := Gp 1 M_M_areMore 71 [(0, .ref (154)), (1, .int (l1)), (2, .int (l2)), (3, .int (l3)), (5, .int (l5)), (6, .int (l6))] [] v (QZ Q)
def k_M_areMore_75 (l1 : Int32) (l2 : Int32) (l3 : Int32) (l4 : Int32) (l5 : Int32) (v : Vv) (Q : Bool → Vv → Prop) : Prop := Gp 1 M_M_areMore 75 [(0, .ref (154)), (1, .int (l1)), (2, .int (l2)), (3, .int (l3)), (4, .int (l4)), (5, .int (l5))] [] v (QZ Q)
def m_M_image  (v : Vv) (Q : Int32 → Vv → Prop) : Prop := Cp 1 M_M_image [.ref (154)] v (QI Q)
def k_M_image_2 (l1 : Int32) (v : Vv) (Q : Int32 → Vv → Prop) : Prop := Gp 1 M_M_image 2 [(0, .ref (154)), (1, .int (l1))] [] v (QI Q)
def k_M_image_73 (l1 : Int32) (v : Vv) (Q : Int32 → Vv → Prop) : Prop := Gp 1 M_M_image 73 [(0, .ref (154)), (1, .int (l1))] [] v (QI Q)
def m_M_back  (v : Vv) (Q : Int32 → Vv → Prop) : Prop := Cp 1 M_M_back [.ref (154)] v (QI Q)
def k_M_back_13 (l1 : Int32) (v : Vv) (Q : Int32 → Vv → Prop) : Prop := Gp 1 M_M_back 13 [(0, .ref (154)), (1, .int (l1))] [] v (QI Q)
def k_M_back_84 (l1 : Int32) (v : Vv) (Q : Int32 → Vv → Prop) : Prop := Gp 1 M_M_back 84 [(0, .ref (154)), (1, .int (l1))] [] v (QI Q)
def m_M_over (l0 : Int32) (v : Vv) (Q : Int32 → Vv → Prop) : Prop := Cp 1 M_M_over [.int (l0)] v (QI Q)
def m_JI_bitCount (l0 : Int32) (v : Vv) (Q : Int32 → Vv → Prop) : Prop := Cp 1 M_JI_bitCount [.int (l0)] v (QI Q)
def m_JM_floorMod (l0 : Int32) (l1 : Int32) (v : Vv) (Q : Int32 → Vv → Prop) : Prop := Cp 1 M_JM_floorMod [.int (l0), .int (l1)] v (QI Q)
def m_JM_abs (l0 : Int32) (v : Vv) (Q : Int32 → Vv → Prop) : Prop := Cp 1 M_JM_abs [.int (l0)] v (QI Q)
def m_JM_max_III (l0 : Int32) (l1 : Int32) (v : Vv) (Q : Int32 → Vv → Prop) : Prop := Cp 1 M_JM_max_III [.int (l0), .int (l1)] v (QI Q)
def m_JM_max_JJJ (l0 : Int64) (l2 : Int64) (v : Vv) (Q : Int64 → Vv → Prop) : Prop := Cp 1 M_JM_max_JJJ [.long (l0), .long (l2)] v (QJ Q)
def m_JM_min (l0 : Int32) (l1 : Int32) (v : Vv) (Q : Int32 → Vv → Prop) : Prop := Cp 1 M_JM_min [.int (l0), .int (l1)] v (QI Q)
def m_C_put (l0 : Nat) (l1 : Int32) (l2 : Int32) (v : Vv) (Q : Int32 → Vv → Prop) : Prop := Cp 2 M_C_put [.ref (l0), .int (l1), .int (l2)] v (QI Q)
def m_D_put (l0 : Nat) (l1 : Int32) (l2 : Int32) (v : Vv) (Q : Int32 → Vv → Prop) : Prop := Cp 2 M_D_put [.ref (l0), .int (l1), .int (l2)] v (QI Q)
def m_D_isUnder (l0 : Nat) (l1 : Int32) (v : Vv) (Q : Bool → Vv → Prop) : Prop := Cp 2 M_D_isUnder [.ref (l0), .int (l1)] v (QZ Q)
def k_D_isUnder_7 (l1 : Int32) (l2 : Int32) (l3 : Int32) (v : Vv) (Q : Bool → Vv → Prop) : Prop := Gp 2 M_D_isUnder 7 [(1, .int (l1)), (2, .int (l2)), (3, .int (l3))] [] v (QZ Q)
def m_D_rooms (l0 : Nat) (v : Vv) (Q : Int32 → Vv → Prop) : Prop := Cp 2 M_D_rooms [.ref (l0)] v (QI Q)
def m_D_does (l0 : Nat) (l1 : Int32) (l2 : Int32) (l3 : Int32) (l4 : Int32) (v : Vv) (Q : Bool → Vv → Prop) : Prop := Cp 2 M_D_does [.ref (l0), .int (l1), .int (l2), .int (l3), .int (l4)] v (QZ Q)
def m_D_adds (l0 : Nat) (l1 : Int32) (l2 : Int32) (v : Vv) (Q : Int32 → Vv → Prop) : Prop := Cp 2 M_D_adds [.ref (l0), .int (l1), .int (l2)] v (QI Q)
def m_H_become (l0 : Nat) (l1 : Nat) (v : Vv) (Q : Vv → Prop) : Prop := Cp 2 M_H_become [.ref (l0), .ref (l1)] v (QV Q)
def k_H_become_2 (l0 : Nat) (l1 : Nat) (l2 : Int32) (v : Vv) (Q : Vv → Prop) : Prop := Gp 2 M_H_become 2 [(0, .ref (l0)), (1, .ref (l1)), (2, .int (l2))] [] v (QV Q)
def k_H_become_31 (l0 : Nat) (l1 : Nat) (l2 : Int32) (v : Vv) (Q : Vv → Prop) : Prop := Gp 2 M_H_become 31 [(0, .ref (l0)), (1, .ref (l1)), (2, .int (l2))] [] v (QV Q)
def m_K_sumTimes  (v : Vv) (Q : Vv → Prop) : Prop := Cp 2 M_K_sumTimes [.ref (116), .ref (1)] v (QV Q)
def k_K_sumTimes_10 (l2 : Int32) (v : Vv) (Q : Vv → Prop) : Prop := Gp 2 M_K_sumTimes 10 [(0, .ref (116)), (1, .ref (1)), (2, .int (l2))] [] v (QV Q)
def k_K_sumTimes_47 (l2 : Int32) (v : Vv) (Q : Vv → Prop) : Prop := Gp 2 M_K_sumTimes 47 [(0, .ref (116)), (1, .ref (1)), (2, .int (l2))] [] v (QV Q)
def m_K_blindBy (l2 : Int32) (l3 : Int32) (v : Vv) (Q : Vv → Prop) : Prop := Cp 2 M_K_blindBy [.ref (116), .ref (1), .int (l2), .int (l3)] v (QV Q)
def k_K_blindBy_3 (l2 : Int32) (l3 : Int32) (l4 : Int32) (v : Vv) (Q : Vv → Prop) : Prop := Gp 2 M_K_blindBy 3 [(0, .ref (116)), (1, .ref (1)), (2, .int (l2)), (3, .int (l3)), (4, .int (l4))] [] v (QV Q)
def k_K_blindBy_50 (l2 : Int32) (l3 : Int32) (l4 : Int32) (l5 : Int32) (l6 : Int32) (l7 : Int32) (v : Vv) (Q : Vv → Prop) : Prop := Gp 2 M_K_blindBy 50 [(0, .ref (116)), (1, .ref (1)), (2, .int (l2)), (3, .int (l3)), (4, .int (l4)), (5, .int (l5)), (6, .int (l6)), (7, .int (l7))] [] v (QV Q)
def k_K_blindBy_107 (l2 : Int32) (l3 : Int32) (l4 : Int32) (v : Vv) (Q : Vv → Prop) : Prop := Gp 2 M_K_blindBy 107 [(0, .ref (116)), (1, .ref (1)), (2, .int (l2)), (3, .int (l3)), (4, .int (l4))] [] v (QV Q)
def m_K_whomToAsk  (v : Vv) (Q : Int32 → Vv → Prop) : Prop := Cp 2 M_K_whomToAsk [.ref (116), .ref (1)] v (QI Q)
def k_K_whomToAsk_7 (l2 : Int32) (l3 : Int64) (l5 : Int32) (v : Vv) (Q : Int32 → Vv → Prop) : Prop := Gp 2 M_K_whomToAsk 7 [(1, .ref (1)), (2, .int (l2)), (3, .long (l3)), (5, .int (l5))] [] v (QI Q)
def k_K_whomToAsk_25 (l2 : Int32) (l3 : Int64) (l5 : Int32) (l6 : Int64) (l8 : Int32) (v : Vv) (Q : Int32 → Vv → Prop) : Prop := Gp 2 M_K_whomToAsk 25 [(1, .ref (1)), (2, .int (l2)), (3, .long (l3)), (5, .int (l5)), (6, .long (l6)), (8, .int (l8))] [] v (QI Q)
def m_K_worldOfMostRight  (v : Vv) (Q : Int32 → Vv → Prop) : Prop := Cp 2 M_K_worldOfMostRight [.ref (116), .ref (1)] v (QI Q)
def k_K_worldOfMostRight_4 (l2 : Int32) (l3 : Int32) (v : Vv) (Q : Int32 → Vv → Prop) : Prop := Gp 2 M_K_worldOfMostRight 4 [(1, .ref (1)), (2, .int (l2)), (3, .int (l3))] [] v (QI Q)
def k_K_worldOfMostRight_54 (l3 : Int32) (v : Vv) (Q : Int32 → Vv → Prop) : Prop := Gp 2 M_K_worldOfMostRight 54 [(1, .ref (1)), (3, .int (l3))] [] v (QI Q)
def k_K_worldOfMostRight_56 (l2 : Int32) (l3 : Int32) (v : Vv) (Q : Int32 → Vv → Prop) : Prop := Gp 2 M_K_worldOfMostRight 56 [(1, .ref (1)), (2, .int (l2)), (3, .int (l3))] [] v (QI Q)
def m_K_latest (l2 : Int32) (v : Vv) (Q : Int32 → Vv → Prop) : Prop := Cp 2 M_K_latest [.ref (116), .ref (1), .int (l2)] v (QI Q)
def k_K_latest_5 (l2 : Int32) (l3 : Int32) (l4 : Int32) (v : Vv) (Q : Int32 → Vv → Prop) : Prop := Gp 2 M_K_latest 5 [(1, .ref (1)), (2, .int (l2)), (3, .int (l3)), (4, .int (l4))] [] v (QI Q)
def k_K_latest_56 (l2 : Int32) (l3 : Int32) (l4 : Int32) (v : Vv) (Q : Int32 → Vv → Prop) : Prop := Gp 2 M_K_latest 56 [(1, .ref (1)), (2, .int (l2)), (3, .int (l3)), (4, .int (l4))] [] v (QI Q)
def m_K_howManyAsTold (l2 : Nat) (v : Vv) (Q : Int32 → Vv → Prop) : Prop := Cp 2 M_K_howManyAsTold [.ref (116), .ref (1), .ref (l2)] v (QI Q)
def k_K_howManyAsTold_5 (l2 : Nat) (l3 : Int32) (l4 : Int32) (v : Vv) (Q : Int32 → Vv → Prop) : Prop := Gp 2 M_K_howManyAsTold 5 [(0, .ref (116)), (1, .ref (1)), (2, .ref (l2)), (3, .int (l3)), (4, .int (l4))] [] v (QI Q)
def m_K_likeliestAsTold (l2 : Nat) (v : Vv) (Q : Int32 → Vv → Prop) : Prop := Cp 2 M_K_likeliestAsTold [.ref (116), .ref (1), .ref (l2)] v (QI Q)
def k_K_likeliestAsTold_8 (l2 : Nat) (l3 : Int32) (l4 : Int64) (l6 : Int32) (v : Vv) (Q : Int32 → Vv → Prop) : Prop := Gp 2 M_K_likeliestAsTold 8 [(0, .ref (116)), (1, .ref (1)), (2, .ref (l2)), (3, .int (l3)), (4, .long (l4)), (6, .int (l6))] [] v (QI Q)
def k_K_likeliestAsTold_53 (l2 : Nat) (l3 : Int32) (l4 : Int64) (l6 : Int32) (v : Vv) (Q : Int32 → Vv → Prop) : Prop := Gp 2 M_K_likeliestAsTold 53 [(0, .ref (116)), (1, .ref (1)), (2, .ref (l2)), (3, .int (l3)), (4, .long (l4)), (6, .int (l6))] [] v (QI Q)
def m_K_whoCameAsTold (l2 : Nat) (v : Vv) (Q : Int32 → Vv → Prop) : Prop := Cp 2 M_K_whoCameAsTold [.ref (116), .ref (1), .ref (l2)] v (QI Q)
def k_K_whoCameAsTold_13 (l2 : Nat) (l3 : Int32) (l4 : Int32) (l5 : Int32) (v : Vv) (Q : Int32 → Vv → Prop) : Prop := Gp 2 M_K_whoCameAsTold 13 [(0, .ref (116)), (1, .ref (1)), (2, .ref (l2)), (3, .int (l3)), (4, .int (l4)), (5, .int (l5))] [] v (QI Q)
def m_R_isOfOne (l0 : Int32) (l1 : Int32) (v : Vv) (Q : Bool → Vv → Prop) : Prop := Cp 2 M_R_isOfOne [.int (l0), .int (l1)] v (QZ Q)
def k_R_isOfOne_14 (l0 : Int32) (l1 : Int32) (v : Vv) (Q : Bool → Vv → Prop) : Prop := Gp 2 M_R_isOfOne 14 [(0, .int (l0)), (1, .int (l1))] [] v (QZ Q)
def m_R_accept (l1 : Int32) (v : Vv) (Q : Bool → Vv → Prop) : Prop := Cp 2 M_R_accept [.ref (108), .int (l1)] v (QZ Q)
def m_S_put (l0 : Nat) (l1 : Int32) (l2 : Int32) (v : Vv) (Q : Vv → Prop) : Prop := Cp 2 M_S_put [.ref (l0), .int (l1), .int (l2)] v (QV Q)
def m_U_greatest  (v : Vv) (Q : Int64 → Vv → Prop) : Prop := Cp 2 M_U_greatest [.ref (117)] v (QJ Q)
def k_U_greatest_4 (l1 : Int64) (l3 : Int32) (v : Vv) (Q : Int64 → Vv → Prop) : Prop := Gp 2 M_U_greatest 4 [(0, .ref (117)), (1, .long (l1)), (3, .int (l3))] [] v (QJ Q)
def m_T_tells (l0 : Nat) (l1 : Int32) (v : Vv) (Q : Int32 → Vv → Prop) : Prop := Cp 2 M_T_tells [.ref (l0), .int (l1), .ref (73)] v (QI Q)
def k_T_tells_21 (l0 : Nat) (l1 : Int32) (t0 : Int32) (v : Vv) (Q : Int32 → Vv → Prop) : Prop := Gp 2 M_T_tells 21 [(0, .ref (l0)), (1, .int (l1)), (2, .ref (73))] [.int (t0)] v (QI Q)
def k_T_tells_22 (l0 : Nat) (l1 : Int32) (l3 : Int32) (v : Vv) (Q : Int32 → Vv → Prop) : Prop := Gp 2 M_T_tells 22 [(0, .ref (l0)), (1, .int (l1)), (2, .ref (73)), (3, .int (l3))] [] v (QI Q)
def k_T_tells_82 (l0 : Nat) (l1 : Int32) (l3 : Int32) (l4 : Int32) (v : Vv) (Q : Int32 → Vv → Prop) : Prop := Gp 2 M_T_tells 82 [(0, .ref (l0)), (1, .int (l1)), (2, .ref (73)), (3, .int (l3)), (4, .int (l4))] [] v (QI Q)
def k_T_tells_148 (l0 : Nat) (l1 : Int32) (l3 : Int32) (v : Vv) (Q : Int32 → Vv → Prop) : Prop := Gp 2 M_T_tells 148 [(0, .ref (l0)), (1, .int (l1)), (2, .ref (73)), (3, .int (l3))] [] v (QI Q)
def m_W_timeIn (l1 : Int32) (v : Vv) (Q : Int32 → Vv → Prop) : Prop := Cp 2 M_W_timeIn [.ref (1), .int (l1)] v (QI Q)
def k_W_timeIn_4 (l1 : Int32) (l2 : Int32) (l3 : Int32) (v : Vv) (Q : Int32 → Vv → Prop) : Prop := Gp 2 M_W_timeIn 4 [(0, .ref (1)), (1, .int (l1)), (2, .int (l2)), (3, .int (l3))] [] v (QI Q)
def k_W_timeIn_77 (l1 : Int32) (l2 : Int32) (l3 : Int32) (v : Vv) (Q : Int32 → Vv → Prop) : Prop := Gp 2 M_W_timeIn 77 [(0, .ref (1)), (1, .int (l1)), (2, .int (l2)), (3, .int (l3))] [] v (QI Q)
def k_W_timeIn_74 (l1 : Int32) (l3 : Int32) (l5 : Int32) (v : Vv) (Q : Int32 → Vv → Prop) : Prop := Gp 2 M_W_timeIn 74 [(0, .ref (1)), (1, .int (l1)), (3, .int (l3)), (5, .int (l5))] [] v (QI Q)
def m_W_says (l1 : Int32) (l2 : Int32) (v : Vv) (Q : Int32 → Vv → Prop) : Prop := Cp 2 M_W_says [.ref (1), .int (l1), .int (l2)] v (QI Q)
def m_P_clock (l1 : Int32) (l2 : Int32) (v : Vv) (Q : Int32 → Vv → Prop) : Prop := Cp 2 M_P_clock [.ref (0), .int (l1), .int (l2)] v (QI Q)
def m_P_doer (l1 : Int32) (l2 : Int32) (l3 : Int32) (v : Vv) (Q : Int32 → Vv → Prop) : Prop := Cp 2 M_P_doer [.ref (0), .int (l1), .int (l2), .int (l3)] v (QI Q)
def m_P_count (l1 : Int32) (v : Vv) (Q : Int32 → Vv → Prop) : Prop := Cp 2 M_P_count [.ref (0), .int (l1)] v (QI Q)
def m_P_bounded (l0 : Int32) (l1 : Int32) (l2 : Int32) (v : Vv) (Q : Int32 → Vv → Prop) : Prop := Cp 2 M_P_bounded [.int (l0), .int (l1), .int (l2)] v (QI Q)
def m_M_isClock (l1 : Int32) (v : Vv) (Q : Bool → Vv → Prop) : Prop := Cp 2 M_M_isClock [.ref (154), .int (l1)] v (QZ Q)
def m_M_isDoer (l1 : Int32) (v : Vv) (Q : Bool → Vv → Prop) : Prop := Cp 2 M_M_isDoer [.ref (154), .int (l1)] v (QZ Q)
def m_M_isWorld (l1 : Int32) (v : Vv) (Q : Bool → Vv → Prop) : Prop := Cp 2 M_M_isWorld [.ref (154), .int (l1)] v (QZ Q)
def m_M_clock (l1 : Int32) (l2 : Int32) (v : Vv) (Q : Int32 → Vv → Prop) : Prop := Cp 2 M_M_clock [.ref (154), .int (l1), .int (l2)] v (QI Q)
def m_M_doer (l1 : Int32) (l2 : Int32) (l3 : Int32) (v : Vv) (Q : Int32 → Vv → Prop) : Prop := Cp 2 M_M_doer [.ref (154), .int (l1), .int (l2), .int (l3)] v (QI Q)
def m_M_feed (l1 : Int32) (v : Vv) (Q : Int32 → Vv → Prop) : Prop := Cp 2 M_M_feed [.ref (154), .int (l1)] v (QI Q)
def m_M_next  (v : Vv) (Q : Vv → Prop) : Prop := Cp 2 M_M_next [.ref (154)] v (QV Q)
def k_M_next_0  (v : Vv) (Q : Vv → Prop) : Prop := Gp 2 M_M_next 0 [(0, .ref (154))] [] v (QV Q)
def k_M_next_26  (v : Vv) (Q : Vv → Prop) : Prop := Gp 2 M_M_next 26 [(0, .ref (154))] [] v (QV Q)
def k_M_next_100  (v : Vv) (Q : Vv → Prop) : Prop := Gp 2 M_M_next 100 [(0, .ref (154))] [] v (QV Q)
def k_M_next_160 (l2 : Int32) (v : Vv) (Q : Vv → Prop) : Prop := Gp 2 M_M_next 160 [(0, .ref (154)), (2, .int (l2))] [] v (QV Q)
def k_M_next_300 (l1 : Int32) (v : Vv) (Q : Vv → Prop) : Prop := Gp 2 M_M_next 300 [(0, .ref (154)), (1, .int (l1))] [] v (QV Q)
def k_M_next_216 (l2 : Int32) (t0 : Int64) (v : Vv) (Q : Vv → Prop) : Prop := Gp 2 M_M_next 216 [(0, .ref (154)), (2, .int (l2))] [.long (t0), .ref (154)] v (QV Q)
def m_M_isLetter (l1 : Int32) (l2 : Int32) (v : Vv) (Q : Bool → Vv → Prop) : Prop := Cp 2 M_M_isLetter [.ref (154), .int (l1), .int (l2)] v (QZ Q)
def m_M_force (l1 : Int32) (v : Vv) (Q : Int32 → Vv → Prop) : Prop := Cp 2 M_M_force [.ref (154), .int (l1)] v (QI Q)
def m_M_times  (v : Vv) (Q : Int32 → Vv → Prop) : Prop := Cp 2 M_M_times [.ref (154)] v (QI Q)
def k_M_times_14 (l1 : Int32) (l2 : Int32) (v : Vv) (Q : Int32 → Vv → Prop) : Prop := Gp 2 M_M_times 14 [(0, .ref (154)), (1, .int (l1)), (2, .int (l2))] [] v (QI Q)
def k_M_times_181 (l1 : Int32) (l2 : Int32) (v : Vv) (Q : Int32 → Vv → Prop) : Prop := Gp 2 M_M_times 181 [(0, .ref (154)), (1, .int (l1)), (2, .int (l2))] [] v (QI Q)
def k_M_times_51 (l1 : Int32) (l2 : Int32) (l3 : Int64) (l5 : Int32) (l6 : Int32) (v : Vv) (Q : Int32 → Vv → Prop) : Prop := Gp 2 M_M_times 51 [(0, .ref (154)), (1, .int (l1)), (2, .int (l2)), (3, .long (l3)), (5, .int (l5)), (6, .int (l6))] [] v (QI Q)
def k_M_times_116 (l1 : Int32) (l2 : Int32) (l3 : Int64) (l5 : Int32) (l6 : Int32) (v : Vv) (Q : Int32 → Vv → Prop) : Prop := Gp 2 M_M_times 116 [(0, .ref (154)), (1, .int (l1)), (2, .int (l2)), (3, .long (l3)), (5, .int (l5)), (6, .int (l6))] [] v (QI Q)
def k_M_times_166 (l1 : Int32) (l2 : Int32) (l3 : Int64) (v : Vv) (Q : Int32 → Vv → Prop) : Prop := Gp 2 M_M_times 166 [(0, .ref (154)), (1, .int (l1)), (2, .int (l2)), (3, .long (l3))] [] v (QI Q)
def m_M_saysIn (l1 : Int32) (l2 : Int32) (v : Vv) (Q : Int32 → Vv → Prop) : Prop := Cp 2 M_M_saysIn [.ref (154), .int (l1), .int (l2)] v (QI Q)
def m_M_tellsAll (l1 : Int32) (v : Vv) (Q : Bool → Vv → Prop) : Prop := Cp 2 M_M_tellsAll [.ref (154), .int (l1)] v (QZ Q)
def k_M_tellsAll_2 (l1 : Int32) (l2 : Int32) (v : Vv) (Q : Bool → Vv → Prop) : Prop := Gp 2 M_M_tellsAll 2 [(0, .ref (154)), (1, .int (l1)), (2, .int (l2))] [] v (QZ Q)
def k_M_tellsAll_12 (l1 : Int32) (l2 : Int32) (l3 : Int32) (v : Vv) (Q : Bool → Vv → Prop) : Prop := Gp 2 M_M_tellsAll 12 [(0, .ref (154)), (1, .int (l1)), (2, .int (l2)), (3, .int (l3))] [] v (QZ Q)
def k_M_tellsAll_54 (l1 : Int32) (l2 : Int32) (l3 : Int32) (v : Vv) (Q : Bool → Vv → Prop) : Prop := Gp 2 M_M_tellsAll 54 [(0, .ref (154)), (1, .int (l1)), (2, .int (l2)), (3, .int (l3))] [] v (QZ Q)
def m_M_isSo (l1 : Int32) (l2 : Int32) (v : Vv) (Q : Bool → Vv → Prop) : Prop := Cp 2 M_M_isSo [.ref (154), .int (l1), .int (l2)] v (QZ Q)
def k_M_isSo_2 (l1 : Int32) (l2 : Int32) (l3 : Int32) (v : Vv) (Q : Bool → Vv → Prop) : Prop := Gp 2 M_M_isSo 2 [(0, .ref (154)), (1, .int (l1)), (2, .int (l2)), (3, .int (l3))] [] v (QZ Q)
def k_M_isSo_51 (l1 : Int32) (l2 : Int32) (l3 : Int32) (v : Vv) (Q : Bool → Vv → Prop) : Prop := Gp 2 M_M_isSo 51 [(0, .ref (154)), (1, .int (l1)), (2, .int (l2)), (3, .int (l3))] [] v (QZ Q)
def m_M_count (l1 : Int32) (v : Vv) (Q : Int32 → Vv → Prop) : Prop := Cp 2 M_M_count [.ref (154), .int (l1)] v (QI Q)
def m_M_isSheet (l0 : Int32) (v : Vv) (Q : Bool → Vv → Prop) : Prop := Cp 2 M_M_isSheet [.int (l0)] v (QZ Q)
def m_K_unlikeTimes  (v : Vv) (Q : Int32 → Vv → Prop) : Prop := Cp 3 M_K_unlikeTimes [.ref (116), .ref (1)] v (QI Q)
def m_K_chanceOfTime  (v : Vv) (Q : Int64 → Vv → Prop) : Prop := Cp 3 M_K_chanceOfTime [.ref (116), .ref (1)] v (QJ Q)
def m_K_chanceOfSaying (l2 : Int32) (v : Vv) (Q : Int64 → Vv → Prop) : Prop := Cp 3 M_K_chanceOfSaying [.ref (116), .ref (1), .int (l2)] v (QJ Q)
def k_K_chanceOfSaying_10 (l2 : Int32) (l3 : Int32) (v : Vv) (Q : Int64 → Vv → Prop) : Prop := Gp 3 M_K_chanceOfSaying 10 [(0, .ref (116)), (1, .ref (1)), (2, .int (l2)), (3, .int (l3))] [] v (QJ Q)
def k_K_chanceOfSaying_46 (l2 : Int32) (l3 : Int32) (v : Vv) (Q : Int64 → Vv → Prop) : Prop := Gp 3 M_K_chanceOfSaying 46 [(0, .ref (116)), (1, .ref (1)), (2, .int (l2)), (3, .int (l3))] [] v (QJ Q)
def m_K_fewestThatTell  (v : Vv) (Q : Int32 → Vv → Prop) : Prop := Cp 3 M_K_fewestThatTell [.ref (116), .ref (1)] v (QI Q)
def k_K_fewestThatTell_2 (l2 : Int32) (v : Vv) (Q : Int32 → Vv → Prop) : Prop := Gp 3 M_K_fewestThatTell 2 [(0, .ref (116)), (1, .ref (1)), (2, .int (l2))] [] v (QI Q)
def k_K_fewestThatTell_26 (l2 : Int32) (v : Vv) (Q : Int32 → Vv → Prop) : Prop := Gp 3 M_K_fewestThatTell 26 [(0, .ref (116)), (1, .ref (1)), (2, .int (l2))] [] v (QI Q)
def k_K_fewestThatTell_36 (l2 : Int32) (l3 : Int32) (v : Vv) (Q : Int32 → Vv → Prop) : Prop := Gp 3 M_K_fewestThatTell 36 [(0, .ref (116)), (1, .ref (1)), (2, .int (l2)), (3, .int (l3))] [] v (QI Q)
def k_K_fewestThatTell_89 (l2 : Int32) (l3 : Int32) (v : Vv) (Q : Int32 → Vv → Prop) : Prop := Gp 3 M_K_fewestThatTell 89 [(0, .ref (116)), (1, .ref (1)), (2, .int (l2)), (3, .int (l3))] [] v (QI Q)
def k_K_fewestThatTell_73 (l2 : Int32) (l3 : Int32) (v : Vv) (Q : Int32 → Vv → Prop) : Prop := Gp 3 M_K_fewestThatTell 73 [(0, .ref (116)), (1, .ref (1)), (2, .int (l2)), (3, .int (l3))] [] v (QI Q)
def k_K_fewestThatTell_127 (l3 : Int32) (v : Vv) (Q : Int32 → Vv → Prop) : Prop := Gp 3 M_K_fewestThatTell 127 [(0, .ref (116)), (1, .ref (1)), (3, .int (l3))] [] v (QI Q)
def k_K_fewestThatTell_129 (l2 : Int32) (l3 : Int32) (v : Vv) (Q : Int32 → Vv → Prop) : Prop := Gp 3 M_K_fewestThatTell 129 [(0, .ref (116)), (1, .ref (1)), (2, .int (l2)), (3, .int (l3))] [] v (QI Q)
def m_S_become (l0 : Nat) (l1 : Int32) (l2 : Int32) (v : Vv) (Q : Vv → Prop) : Prop := Cp 3 M_S_become [.ref (l0), .int (l1), .int (l2)] v (QV Q)
def k_S_become_21 (l0 : Nat) (l3 : Int32) (v : Vv) (Q : Vv → Prop) : Prop := Gp 3 M_S_become 21 [(0, .ref (l0)), (3, .int (l3))] [] v (QV Q)
def m_U_keyOfGreatest  (v : Vv) (Q : Int32 → Vv → Prop) : Prop := Cp 3 M_U_keyOfGreatest [.ref (117)] v (QI Q)
def k_U_keyOfGreatest_10 (l1 : Int64) (l3 : Int32) (l4 : Int32) (v : Vv) (Q : Int32 → Vv → Prop) : Prop := Gp 3 M_U_keyOfGreatest 10 [(0, .ref (117)), (1, .long (l1)), (3, .int (l3)), (4, .int (l4))] [] v (QI Q)
def k_U_keyOfGreatest_55 (l1 : Int64) (l3 : Int32) (l4 : Int32) (v : Vv) (Q : Int32 → Vv → Prop) : Prop := Gp 3 M_U_keyOfGreatest 55 [(0, .ref (117)), (1, .long (l1)), (3, .int (l3)), (4, .int (l4))] [] v (QI Q)
def m_W_howLikely (l1 : Int32) (v : Vv) (Q : Int32 → Vv → Prop) : Prop := Cp 3 M_W_howLikely [.ref (1), .int (l1)] v (QI Q)
def m_W_visit (l1 : Int32) (l2 : Int32) (l3 : Int32) (l4 : Int32) (v : Vv) (Q : Vv → Prop) : Prop := Cp 3 M_W_visit [.ref (1), .int (l1), .int (l2), .int (l3), .int (l4)] v (QV Q)
def m_W_minds (l1 : Int32) (l2 : Int32) (v : Vv) (Q : Int32 → Vv → Prop) : Prop := Cp 3 M_W_minds [.ref (1), .int (l1), .int (l2)] v (QI Q)
def m_P_set (l1 : Int32) (l2 : Int32) (l3 : Int32) (v : Vv) (Q : Int32 → Vv → Prop) : Prop := Cp 3 M_P_set [.ref (0), .int (l1), .int (l2), .int (l3)] v (QI Q)
def k_P_set_36 (l1 : Int32) (l2 : Int32) (l3 : Int32) (v : Vv) (Q : Int32 → Vv → Prop) : Prop := Gp 3 M_P_set 36 [(0, .ref (0)), (1, .int (l1)), (2, .int (l2)), (3, .int (l3))] [] v (QI Q)
def m_P_image  (v : Vv) (Q : Int32 → Vv → Prop) : Prop := Cp 3 M_P_image [.ref (0)] v (QI Q)
def m_P_back  (v : Vv) (Q : Int32 → Vv → Prop) : Prop := Cp 3 M_P_back [.ref (0)] v (QI Q)
def m_P_cell (l1 : Int32) (l2 : Int32) (l3 : Int32) (v : Vv) (Q : Int32 → Vv → Prop) : Prop := Cp 3 M_P_cell [.ref (0), .int (l1), .int (l2), .int (l3)] v (QI Q)
def m_P_clocks (l1 : Int32) (l2 : Int32) (l3 : Int32) (l4 : Int32) (v : Vv) (Q : Int32 → Vv → Prop) : Prop := Cp 3 M_P_clocks [.ref (0), .int (l1), .int (l2), .int (l3), .int (l4)] v (QI Q)
def k_P_clocks_67 (l3 : Int32) (l4 : Int32) (l5 : Nat) (l6 : Int32) (l7 : Int32) (v : Vv) (Q : Int32 → Vv → Prop) : Prop := Gp 3 M_P_clocks 67 [(0, .ref (0)), (3, .int (l3)), (4, .int (l4)), (5, .ref (l5)), (6, .int (l6)), (7, .int (l7))] [] v (QI Q)
def m_P_taken (l1 : Int32) (l2 : Int32) (v : Vv) (Q : Int32 → Vv → Prop) : Prop := Cp 3 M_P_taken [.ref (0), .int (l1), .int (l2)] v (QI Q)
def m_M_isWord (l1 : Int32) (l2 : Int32) (l3 : Int32) (l4 : Int32) (l5 : Int32) (l6 : Int32) (l7 : Int32) (l8 : Int32) (v : Vv) (Q : Bool → Vv → Prop) : Prop := Cp 3 M_M_isWord [.ref (154), .int (l1), .int (l2), .int (l3), .int (l4), .int (l5), .int (l6), .int (l7), .int (l8)] v (QZ Q)
def m_M_opens  (v : Vv) (Q : Bool → Vv → Prop) : Prop := Cp 3 M_M_opens [.ref (154)] v (QZ Q)
def m_M_alike (l1 : Int32) (v : Vv) (Q : Int64 → Vv → Prop) : Prop := Cp 3 M_M_alike [.ref (154), .int (l1)] v (QJ Q)
def k_M_alike_5 (l1 : Int32) (l2 : Int64) (l4 : Int32) (v : Vv) (Q : Int64 → Vv → Prop) : Prop := Gp 3 M_M_alike 5 [(0, .ref (154)), (1, .int (l1)), (2, .long (l2)), (4, .int (l4))] [] v (QJ Q)
def k_M_alike_20 (l1 : Int32) (l2 : Int64) (l4 : Int32) (l5 : Int64) (l7 : Int32) (v : Vv) (Q : Int64 → Vv → Prop) : Prop := Gp 3 M_M_alike 20 [(0, .ref (154)), (1, .int (l1)), (2, .long (l2)), (4, .int (l4)), (5, .long (l5)), (7, .int (l7))] [] v (QJ Q)
def k_M_alike_80 (l1 : Int32) (l2 : Int64) (l4 : Int32) (l7 : Int32) (t0 : Int64) (v : Vv) (Q : Int64 → Vv → Prop) : Prop := Gp 3 M_M_alike 80 [(0, .ref (154)), (1, .int (l1)), (2, .long (l2)), (4, .int (l4)), (7, .int (l7))] [.long (t0)] v (QJ Q)
def k_M_alike_90 (l1 : Int32) (l2 : Int64) (l4 : Int32) (l5 : Int64) (v : Vv) (Q : Int64 → Vv → Prop) : Prop := Gp 3 M_M_alike 90 [(0, .ref (154)), (1, .int (l1)), (2, .long (l2)), (4, .int (l4)), (5, .long (l5))] [] v (QJ Q)
def k_M_alike_81 (l1 : Int32) (l2 : Int64) (l4 : Int32) (l7 : Int32) (t0 : Int64) (t1 : Int64) (v : Vv) (Q : Int64 → Vv → Prop) : Prop := Gp 3 M_M_alike 81 [(0, .ref (154)), (1, .int (l1)), (2, .long (l2)), (4, .int (l4)), (7, .int (l7))] [.long (t0), .long (t1)] v (QJ Q)
def k_M_alike_103 (l1 : Int32) (l4 : Int32) (t0 : Int64) (v : Vv) (Q : Int64 → Vv → Prop) : Prop := Gp 3 M_M_alike 103 [(0, .ref (154)), (1, .int (l1)), (4, .int (l4))] [.long (t0)] v (QJ Q)
def m_M_sheet (l1 : Int32) (l2 : Int32) (l3 : Int32) (v : Vv) (Q : Int32 → Vv → Prop) : Prop := Cp 3 M_M_sheet [.ref (154), .int (l1), .int (l2), .int (l3)] v (QI Q)
def k_M_sheet_34 (l1 : Int32) (l2 : Int32) (l3 : Int32) (v : Vv) (Q : Int32 → Vv → Prop) : Prop := Gp 3 M_M_sheet 34 [(0, .ref (154)), (1, .int (l1)), (2, .int (l2)), (3, .int (l3))] [] v (QI Q)
def k_M_sheet_45 (l1 : Int32) (l2 : Int32) (l3 : Int32) (v : Vv) (Q : Int32 → Vv → Prop) : Prop := Gp 3 M_M_sheet 45 [(0, .ref (154)), (1, .int (l1)), (2, .int (l2)), (3, .int (l3))] [] v (QI Q)
def k_M_sheet_77 (l1 : Int32) (l2 : Int32) (l3 : Int32) (l4 : Int32) (v : Vv) (Q : Int32 → Vv → Prop) : Prop := Gp 3 M_M_sheet 77 [(0, .ref (154)), (1, .int (l1)), (2, .int (l2)), (3, .int (l3)), (4, .int (l4))] [] v (QI Q)
def m_M_cell (l1 : Int32) (l2 : Int32) (l3 : Int32) (v : Vv) (Q : Int32 → Vv → Prop) : Prop := Cp 3 M_M_cell [.ref (154), .int (l1), .int (l2), .int (l3)] v (QI Q)
def m_M_copy (l1 : Int32) (l2 : Int32) (l3 : Int32) (l4 : Int32) (l5 : Int32) (v : Vv) (Q : Int32 → Vv → Prop) : Prop := Cp 3 M_M_copy [.ref (154), .int (l1), .int (l2), .int (l3), .int (l4), .int (l5)] v (QI Q)
def k_M_copy_121 (l1 : Int32) (l2 : Int32) (l3 : Int32) (l4 : Int32) (l5 : Int32) (l6 : Int32) (l7 : Int32) (v : Vv) (Q : Int32 → Vv → Prop) : Prop := Gp 3 M_M_copy 121 [(0, .ref (154)), (1, .int (l1)), (2, .int (l2)), (3, .int (l3)), (4, .int (l4)), (5, .int (l5)), (6, .int (l6)), (7, .int (l7))] [] v (QI Q)
def m_M_clocks (l1 : Int32) (l2 : Int32) (l3 : Int32) (l4 : Int32) (v : Vv) (Q : Int32 → Vv → Prop) : Prop := Cp 3 M_M_clocks [.ref (154), .int (l1), .int (l2), .int (l3), .int (l4)] v (QI Q)
def k_M_clocks_57 (l1 : Int32) (l3 : Int32) (l4 : Int32) (v : Vv) (Q : Int32 → Vv → Prop) : Prop := Gp 3 M_M_clocks 57 [(0, .ref (154)), (1, .int (l1)), (3, .int (l3)), (4, .int (l4))] [] v (QI Q)
def k_M_clocks_75 (l1 : Int32) (l3 : Int32) (l4 : Int32) (l5 : Int32) (l6 : Int32) (v : Vv) (Q : Int32 → Vv → Prop) : Prop := Gp 3 M_M_clocks 75 [(0, .ref (154)), (1, .int (l1)), (3, .int (l3)), (4, .int (l4)), (5, .int (l5)), (6, .int (l6))] [] v (QI Q)
def m_M_taken (l1 : Int32) (l2 : Int32) (v : Vv) (Q : Int32 → Vv → Prop) : Prop := Cp 3 M_M_taken [.ref (154), .int (l1), .int (l2)] v (QI Q)
def k_M_taken_33 (l1 : Int32) (l2 : Int32) (l3 : Int32) (v : Vv) (Q : Int32 → Vv → Prop) : Prop := Gp 3 M_M_taken 33 [(0, .ref (154)), (1, .int (l1)), (2, .int (l2)), (3, .int (l3))] [] v (QI Q)
def k_M_taken_51 (l1 : Int32) (l2 : Int32) (l3 : Int32) (v : Vv) (Q : Int32 → Vv → Prop) : Prop := Gp 3 M_M_taken 51 [(0, .ref (154)), (1, .int (l1)), (2, .int (l2)), (3, .int (l3))] [] v (QI Q)
def m_K_likeliestTime  (v : Vv) (Q : Int32 → Vv → Prop) : Prop := Cp 4 M_K_likeliestTime [.ref (116), .ref (1)] v (QI Q)
def m_K_nextToSee  (v : Vv) (Q : Int32 → Vv → Prop) : Prop := Cp 4 M_K_nextToSee [.ref (116), .ref (1)] v (QI Q)
def k_K_nextToSee_19 (l2 : Int32) (l3 : Int64) (l5 : Int32) (v : Vv) (Q : Int32 → Vv → Prop) : Prop := Gp 4 M_K_nextToSee 19 [(0, .ref (116)), (1, .ref (1)), (2, .int (l2)), (3, .long (l3)), (5, .int (l5))] [] v (QI Q)
def k_K_nextToSee_78 (l2 : Int32) (l3 : Int64) (l5 : Int32) (v : Vv) (Q : Int32 → Vv → Prop) : Prop := Gp 4 M_K_nextToSee 78 [(0, .ref (116)), (1, .ref (1)), (2, .int (l2)), (3, .long (l3)), (5, .int (l5))] [] v (QI Q)
def m_K_wrongIn (l2 : Int32) (v : Vv) (Q : Int32 → Vv → Prop) : Prop := Cp 4 M_K_wrongIn [.ref (116), .ref (1), .int (l2)] v (QI Q)
def k_K_wrongIn_5 (l2 : Int32) (l3 : Int32) (l4 : Int32) (v : Vv) (Q : Int32 → Vv → Prop) : Prop := Gp 4 M_K_wrongIn 5 [(1, .ref (1)), (2, .int (l2)), (3, .int (l3)), (4, .int (l4))] [] v (QI Q)
def k_K_wrongIn_41 (l2 : Int32) (l3 : Int32) (l4 : Int32) (v : Vv) (Q : Int32 → Vv → Prop) : Prop := Gp 4 M_K_wrongIn 41 [(1, .ref (1)), (2, .int (l2)), (3, .int (l3)), (4, .int (l4))] [] v (QI Q)
def m_W_play (l1 : Int32) (v : Vv) (Q : Vv → Prop) : Prop := Cp 4 M_W_play [.ref (1), .int (l1)] v (QV Q)
def k_W_play_9 (l1 : Int32) (l2 : Int32) (l3 : Int32) (v : Vv) (Q : Vv → Prop) : Prop := Gp 4 M_W_play 9 [(0, .ref (1)), (1, .int (l1)), (2, .int (l2)), (3, .int (l3))] [] v (QV Q)
def k_W_play_131 (l1 : Int32) (l2 : Int32) (l3 : Int32) (v : Vv) (Q : Vv → Prop) : Prop := Gp 4 M_W_play 131 [(0, .ref (1)), (1, .int (l1)), (2, .int (l2)), (3, .int (l3))] [] v (QV Q)
def k_W_play_34 (l1 : Int32) (l2 : Int32) (l3 : Int32) (l4 : Int32) (v : Vv) (Q : Vv → Prop) : Prop := Gp 4 M_W_play 34 [(0, .ref (1)), (1, .int (l1)), (2, .int (l2)), (3, .int (l3)), (4, .int (l4))] [] v (QV Q)
def k_W_play_44 (l1 : Int32) (l2 : Int32) (l3 : Int32) (l4 : Int32) (l5 : Int32) (v : Vv) (Q : Vv → Prop) : Prop := Gp 4 M_W_play 44 [(0, .ref (1)), (1, .int (l1)), (2, .int (l2)), (3, .int (l3)), (4, .int (l4)), (5, .int (l5))] [] v (QV Q)
def k_W_play_116 (l1 : Int32) (l2 : Int32) (l3 : Int32) (l4 : Int32) (l5 : Int32) (v : Vv) (Q : Vv → Prop) : Prop := Gp 4 M_W_play 116 [(0, .ref (1)), (1, .int (l1)), (2, .int (l2)), (3, .int (l3)), (4, .int (l4)), (5, .int (l5))] [] v (QV Q)
def k_W_play_122 (l1 : Int32) (l2 : Int32) (l3 : Int32) (l4 : Int32) (v : Vv) (Q : Vv → Prop) : Prop := Gp 4 M_W_play 122 [(0, .ref (1)), (1, .int (l1)), (2, .int (l2)), (3, .int (l3)), (4, .int (l4))] [] v (QV Q)
def m_P_sheet (l1 : Int32) (l2 : Int32) (l3 : Int32) (v : Vv) (Q : Int32 → Vv → Prop) : Prop := Cp 4 M_P_sheet [.ref (0), .int (l1), .int (l2), .int (l3)] v (QI Q)
def m_M_name  (v : Vv) (Q : Int32 → Vv → Prop) : Prop := Cp 4 M_M_name [.ref (154)] v (QI Q)
def m_K_badness  (v : Vv) (Q : Int64 → Vv → Prop) : Prop := Cp 5 M_K_badness [.ref (116), .ref (1)] v (QJ Q)
def k_K_badness_5 (l2 : Int64) (l4 : Int32) (v : Vv) (Q : Int64 → Vv → Prop) : Prop := Gp 5 M_K_badness 5 [(0, .ref (116)), (1, .ref (1)), (2, .long (l2)), (4, .int (l4))] [] v (QJ Q)
def k_K_badness_55 (l2 : Int64) (l4 : Int32) (v : Vv) (Q : Int64 → Vv → Prop) : Prop := Gp 5 M_K_badness 55 [(0, .ref (116)), (1, .ref (1)), (2, .long (l2)), (4, .int (l4))] [] v (QJ Q)
def m_W_work (l1 : Nat) (v : Vv) (Q : Vv → Prop) : Prop := Cp 5 M_W_work [.ref (1), .ref (l1)] v (QV Q)
def k_W_work_25 (l2 : Int32) (v : Vv) (Q : Vv → Prop) : Prop := Gp 5 M_W_work 25 [(0, .ref (1)), (2, .int (l2))] [] v (QV Q)
def k_W_work_55 (l2 : Int32) (v : Vv) (Q : Vv → Prop) : Prop := Gp 5 M_W_work 55 [(0, .ref (1)), (2, .int (l2))] [] v (QV Q)
def k_W_work_157 (l2 : Int32) (v : Vv) (Q : Vv → Prop) : Prop := Gp 5 M_W_work 157 [(0, .ref (1)), (2, .int (l2))] [] v (QV Q)
def m_M_atom5  (v : Vv) (Q : Int32 → Vv → Prop) : Prop := Cp 5 M_M_atom5 [.ref (154)] v (QI Q)
def k_M_atom5_64 (l1 : Int32) (v : Vv) (Q : Int32 → Vv → Prop) : Prop := Gp 5 M_M_atom5 64 [(0, .ref (154)), (1, .int (l1))] [] v (QI Q)
def k_M_atom5_98 (l1 : Int32) (v : Vv) (Q : Int32 → Vv → Prop) : Prop := Gp 5 M_M_atom5 98 [(0, .ref (154)), (1, .int (l1))] [] v (QI Q)
def m_P_worked  (v : Vv) (Q : Nat → Vv → Prop) : Prop := Cp 6 M_P_worked [.ref (0)] v (QR Q)
def m_M_term5  (v : Vv) (Q : Int32 → Vv → Prop) : Prop := Cp 6 M_M_term5 [.ref (154)] v (QI Q)
def k_M_term5_5 (l1 : Int32) (v : Vv) (Q : Int32 → Vv → Prop) : Prop := Gp 6 M_M_term5 5 [(0, .ref (154)), (1, .int (l1))] [] v (QI Q)
def m_P_told (l1 : Int32) (l2 : Int32) (v : Vv) (Q : Int32 → Vv → Prop) : Prop := Cp 7 M_P_told [.ref (0), .int (l1), .int (l2)] v (QI Q)
def k_P_told_31 (l1 : Int32) (l2 : Int32) (v : Vv) (Q : Int32 → Vv → Prop) : Prop := Gp 7 M_P_told 31 [(0, .ref (0)), (1, .int (l1)), (2, .int (l2))] [] v (QI Q)
def k_P_told_64 (l1 : Int32) (l2 : Int32) (v : Vv) (Q : Int32 → Vv → Prop) : Prop := Gp 7 M_P_told 64 [(0, .ref (0)), (1, .int (l1)), (2, .int (l2))] [] v (QI Q)
def m_P_at (l1 : Int32) (l2 : Int32) (l3 : Int32) (v : Vv) (Q : Int32 → Vv → Prop) : Prop := Cp 7 M_P_at [.ref (0), .int (l1), .int (l2), .int (l3)] v (QI Q)
def m_P_right (l1 : Int32) (l2 : Int32) (v : Vv) (Q : Int32 → Vv → Prop) : Prop := Cp 7 M_P_right [.ref (0), .int (l1), .int (l2)] v (QI Q)
def m_P_world (l1 : Int32) (v : Vv) (Q : Int64 → Vv → Prop) : Prop := Cp 7 M_P_world [.ref (0), .int (l1)] v (QJ Q)
def m_P_odds (l1 : Int32) (l2 : Int32) (v : Vv) (Q : Int64 → Vv → Prop) : Prop := Cp 7 M_P_odds [.ref (0), .int (l1), .int (l2)] v (QJ Q)
def m_P_time (l1 : Int32) (v : Vv) (Q : Int32 → Vv → Prop) : Prop := Cp 7 M_P_time [.ref (0), .int (l1)] v (QI Q)
def m_P_sure (l1 : Int32) (v : Vv) (Q : Int64 → Vv → Prop) : Prop := Cp 7 M_P_sure [.ref (0), .int (l1)] v (QJ Q)
def m_P_look  (v : Vv) (Q : Int32 → Vv → Prop) : Prop := Cp 7 M_P_look [.ref (0)] v (QI Q)
def m_P_fewest  (v : Vv) (Q : Int32 → Vv → Prop) : Prop := Cp 7 M_P_fewest [.ref (0)] v (QI Q)
def m_P_ask  (v : Vv) (Q : Int32 → Vv → Prop) : Prop := Cp 7 M_P_ask [.ref (0)] v (QI Q)
def m_P_say (l1 : Int32) (v : Vv) (Q : Int32 → Vv → Prop) : Prop := Cp 7 M_P_say [.ref (0), .int (l1)] v (QI Q)
def k_P_say_12 (l1 : Int32) (v : Vv) (Q : Int32 → Vv → Prop) : Prop := Gp 7 M_P_say 12 [(0, .ref (0)), (1, .int (l1))] [] v (QI Q)
def m_P_bad (l1 : Int32) (v : Vv) (Q : Int64 → Vv → Prop) : Prop := Cp 7 M_P_bad [.ref (0), .int (l1)] v (QJ Q)
def m_P_late (l1 : Int32) (v : Vv) (Q : Int32 → Vv → Prop) : Prop := Cp 7 M_P_late [.ref (0), .int (l1)] v (QI Q)
def m_P_live (l1 : Int32) (v : Vv) (Q : Int32 → Vv → Prop) : Prop := Cp 7 M_P_live [.ref (0), .int (l1)] v (QI Q)
def k_P_live_18 (l1 : Int32) (l3 : Int32) (v : Vv) (Q : Int32 → Vv → Prop) : Prop := Gp 7 M_P_live 18 [(0, .ref (0)), (1, .int (l1)), (2, .ref (1)), (3, .int (l3))] [] v (QI Q)
def m_P_tellsBack (l1 : Int32) (l2 : Int32) (v : Vv) (Q : Int32 → Vv → Prop) : Prop := Cp 7 M_P_tellsBack [.ref (0), .int (l1), .int (l2)] v (QI Q)
def m_P_film (l1 : Int32) (l2 : Int32) (v : Vv) (Q : Int32 → Vv → Prop) : Prop := Cp 7 M_P_film [.ref (0), .int (l1), .int (l2)] v (QI Q)
def k_P_film_52 (l3 : Int32) (l4 : Nat) (l5 : Int32) (v : Vv) (Q : Int32 → Vv → Prop) : Prop := Gp 7 M_P_film 52 [(0, .ref (0)), (3, .int (l3)), (4, .ref (l4)), (5, .int (l5))] [] v (QI Q)
def m_P_drawn (l1 : Int32) (v : Vv) (Q : Int32 → Vv → Prop) : Prop := Cp 7 M_P_drawn [.ref (0), .int (l1)] v (QI Q)
def m_P_chance (l1 : Int32) (l2 : Int32) (l3 : Int32) (v : Vv) (Q : Int64 → Vv → Prop) : Prop := Cp 7 M_P_chance [.ref (0), .int (l1), .int (l2), .int (l3)] v (QJ Q)
def k_P_chance_47 (l1 : Int32) (l2 : Int32) (l3 : Int32) (l5 : Int32) (l6 : Int32) (l7 : Int32) (v : Vv) (Q : Int64 → Vv → Prop) : Prop := Gp 7 M_P_chance 47 [(1, .int (l1)), (2, .int (l2)), (3, .int (l3)), (4, .ref (1)), (5, .int (l5)), (6, .int (l6)), (7, .int (l7))] [] v (QJ Q)
def m_M_added5  (v : Vv) (Q : Int32 → Vv → Prop) : Prop := Cp 7 M_M_added5 [.ref (154)] v (QI Q)
def k_M_added5_5 (l1 : Int32) (v : Vv) (Q : Int32 → Vv → Prop) : Prop := Gp 7 M_M_added5 5 [(0, .ref (154)), (1, .int (l1))] [] v (QI Q)
def k_M_added5_23 (l1 : Int32) (v : Vv) (Q : Int32 → Vv → Prop) : Prop := Gp 7 M_M_added5 23 [(0, .ref (154)), (1, .int (l1))] [] v (QI Q)
def k_M_added5_39 (l1 : Int32) (t0 : Int32) (v : Vv) (Q : Int32 → Vv → Prop) : Prop := Gp 7 M_M_added5 39 [(0, .ref (154)), (1, .int (l1))] [.int (t0)] v (QI Q)
def m_M_not5  (v : Vv) (Q : Int32 → Vv → Prop) : Prop := Cp 8 M_M_not5 [.ref (154)] v (QI Q)
def k_M_not5_50 (l1 : Int32) (v : Vv) (Q : Int32 → Vv → Prop) : Prop := Gp 8 M_M_not5 50 [(0, .ref (154)), (1, .int (l1))] [] v (QI Q)
def k_M_not5_66 (l1 : Int32) (t0 : Int32) (v : Vv) (Q : Int32 → Vv → Prop) : Prop := Gp 8 M_M_not5 66 [(0, .ref (154)), (1, .int (l1))] [.int (t0)] v (QI Q)
def m_M_both5  (v : Vv) (Q : Int32 → Vv → Prop) : Prop := Cp 9 M_M_both5 [.ref (154)] v (QI Q)
def k_M_both5_5 (l1 : Int32) (v : Vv) (Q : Int32 → Vv → Prop) : Prop := Gp 9 M_M_both5 5 [(0, .ref (154)), (1, .int (l1))] [] v (QI Q)
def m_M_either5  (v : Vv) (Q : Int32 → Vv → Prop) : Prop := Cp 10 M_M_either5 [.ref (154)] v (QI Q)
def k_M_either5_5 (l1 : Int32) (v : Vv) (Q : Int32 → Vv → Prop) : Prop := Gp 10 M_M_either5 5 [(0, .ref (154)), (1, .int (l1))] [] v (QI Q)
def m_M_atom4  (v : Vv) (Q : Int32 → Vv → Prop) : Prop := Cp 11 M_M_atom4 [.ref (154)] v (QI Q)
def k_M_atom4_71 (l1 : Int32) (v : Vv) (Q : Int32 → Vv → Prop) : Prop := Gp 11 M_M_atom4 71 [(0, .ref (154)), (1, .int (l1))] [] v (QI Q)
def k_M_atom4_123 (l1 : Int32) (v : Vv) (Q : Int32 → Vv → Prop) : Prop := Gp 11 M_M_atom4 123 [(0, .ref (154)), (1, .int (l1))] [] v (QI Q)
def k_M_atom4_157 (l1 : Int32) (v : Vv) (Q : Int32 → Vv → Prop) : Prop := Gp 11 M_M_atom4 157 [(0, .ref (154)), (1, .int (l1))] [] v (QI Q)
def m_M_term4  (v : Vv) (Q : Int32 → Vv → Prop) : Prop := Cp 12 M_M_term4 [.ref (154)] v (QI Q)
def k_M_term4_5 (l1 : Int32) (v : Vv) (Q : Int32 → Vv → Prop) : Prop := Gp 12 M_M_term4 5 [(0, .ref (154)), (1, .int (l1))] [] v (QI Q)
def m_R_stands (l0 : Nat) (l2 : Int32) (l3 : Int32) (v : Vv) (Q : Bool → Vv → Prop) : Prop := Cp 13 M_R_stands [.ref (l0), .ref (107), .int (l2), .int (l3)] v (QZ Q)
def k_R_stands_15 (l0 : Nat) (l2 : Int32) (l4 : Int32) (v : Vv) (Q : Bool → Vv → Prop) : Prop := Gp 13 M_R_stands 15 [(0, .ref (l0)), (1, .ref (107)), (2, .int (l2)), (4, .int (l4))] [] v (QZ Q)
def m_T_become (l0 : Nat) (l1 : Nat) (v : Vv) (Q : Vv → Prop) : Prop := Cp 13 M_T_become [.ref (l0), .ref (l1)] v (QV Q)
def m_P_copy (l1 : Int32) (l2 : Int32) (l3 : Int32) (l4 : Int32) (l5 : Int32) (v : Vv) (Q : Int32 → Vv → Prop) : Prop := Cp 13 M_P_copy [.ref (0), .int (l1), .int (l2), .int (l3), .int (l4), .int (l5)] v (QI Q)
def m_M_added4  (v : Vv) (Q : Int32 → Vv → Prop) : Prop := Cp 13 M_M_added4 [.ref (154)] v (QI Q)
def k_M_added4_5 (l1 : Int32) (v : Vv) (Q : Int32 → Vv → Prop) : Prop := Gp 13 M_M_added4 5 [(0, .ref (154)), (1, .int (l1))] [] v (QI Q)
def k_M_added4_23 (l1 : Int32) (v : Vv) (Q : Int32 → Vv → Prop) : Prop := Gp 13 M_M_added4 23 [(0, .ref (154)), (1, .int (l1))] [] v (QI Q)
def k_M_added4_39 (l1 : Int32) (t0 : Int32) (v : Vv) (Q : Int32 → Vv → Prop) : Prop := Gp 13 M_M_added4 39 [(0, .ref (154)), (1, .int (l1))] [.int (t0)] v (QI Q)
def m_R_wordAt (l1 : Int32) (l2 : Int32) (v : Vv) (Q : Int32 → Vv → Prop) : Prop := Cp 14 M_R_wordAt [.ref (107), .int (l1), .int (l2)] v (QI Q)
def k_R_wordAt_2 (l1 : Int32) (l2 : Int32) (l3 : Int32) (v : Vv) (Q : Int32 → Vv → Prop) : Prop := Gp 14 M_R_wordAt 2 [(0, .ref (107)), (1, .int (l1)), (2, .int (l2)), (3, .int (l3))] [] v (QI Q)
def m_M_not4  (v : Vv) (Q : Int32 → Vv → Prop) : Prop := Cp 14 M_M_not4 [.ref (154)] v (QI Q)
def k_M_not4_77 (l1 : Int32) (v : Vv) (Q : Int32 → Vv → Prop) : Prop := Gp 14 M_M_not4 77 [(0, .ref (154)), (1, .int (l1))] [] v (QI Q)
def k_M_not4_93 (l1 : Int32) (t0 : Int32) (v : Vv) (Q : Int32 → Vv → Prop) : Prop := Gp 14 M_M_not4 93 [(0, .ref (154)), (1, .int (l1))] [.int (t0)] v (QI Q)
def m_R_tokenOf (l1 : Int32) (l2 : Int32) (v : Vv) (Q : Int32 → Vv → Prop) : Prop := Cp 15 M_R_tokenOf [.ref (107), .int (l1), .int (l2)] v (QI Q)
def m_M_both4  (v : Vv) (Q : Int32 → Vv → Prop) : Prop := Cp 15 M_M_both4 [.ref (154)] v (QI Q)
def k_M_both4_5 (l1 : Int32) (v : Vv) (Q : Int32 → Vv → Prop) : Prop := Gp 15 M_M_both4 5 [(0, .ref (154)), (1, .int (l1))] [] v (QI Q)
def m_R_split (l2 : Int32) (v : Vv) (Q : Vv → Prop) : Prop := Cp 16 M_R_split [.ref (108), .ref (107), .int (l2)] v (QV Q)
def k_R_split_7 (l2 : Int32) (l3 : Int32) (v : Vv) (Q : Vv → Prop) : Prop := Gp 16 M_R_split 7 [(0, .ref (108)), (1, .ref (107)), (2, .int (l2)), (3, .int (l3))] [] v (QV Q)
def k_R_split_74 (l2 : Int32) (l3 : Int32) (v : Vv) (Q : Vv → Prop) : Prop := Gp 16 M_R_split 74 [(0, .ref (108)), (1, .ref (107)), (2, .int (l2)), (3, .int (l3))] [] v (QV Q)
def k_R_split_66 (l2 : Int32) (l3 : Int32) (v : Vv) (Q : Vv → Prop) : Prop := Gp 16 M_R_split 66 [(0, .ref (108)), (1, .ref (107)), (2, .int (l2)), (3, .int (l3))] [] v (QV Q)
def k_R_split_82 (l2 : Int32) (l3 : Int32) (v : Vv) (Q : Vv → Prop) : Prop := Gp 16 M_R_split 82 [(0, .ref (108)), (1, .ref (107)), (2, .int (l2)), (3, .int (l3))] [] v (QV Q)
def m_M_either4  (v : Vv) (Q : Int32 → Vv → Prop) : Prop := Cp 16 M_M_either4 [.ref (154)] v (QI Q)
def k_M_either4_5 (l1 : Int32) (v : Vv) (Q : Int32 → Vv → Prop) : Prop := Gp 16 M_M_either4 5 [(0, .ref (154)), (1, .int (l1))] [] v (QI Q)
def m_M_atom3  (v : Vv) (Q : Int32 → Vv → Prop) : Prop := Cp 17 M_M_atom3 [.ref (154)] v (QI Q)
def k_M_atom3_71 (l1 : Int32) (v : Vv) (Q : Int32 → Vv → Prop) : Prop := Gp 17 M_M_atom3 71 [(0, .ref (154)), (1, .int (l1))] [] v (QI Q)
def k_M_atom3_123 (l1 : Int32) (v : Vv) (Q : Int32 → Vv → Prop) : Prop := Gp 17 M_M_atom3 123 [(0, .ref (154)), (1, .int (l1))] [] v (QI Q)
def k_M_atom3_157 (l1 : Int32) (v : Vv) (Q : Int32 → Vv → Prop) : Prop := Gp 17 M_M_atom3 157 [(0, .ref (154)), (1, .int (l1))] [] v (QI Q)
def m_M_term3  (v : Vv) (Q : Int32 → Vv → Prop) : Prop := Cp 18 M_M_term3 [.ref (154)] v (QI Q)
def k_M_term3_5 (l1 : Int32) (v : Vv) (Q : Int32 → Vv → Prop) : Prop := Gp 18 M_M_term3 5 [(0, .ref (154)), (1, .int (l1))] [] v (QI Q)
def m_M_added3  (v : Vv) (Q : Int32 → Vv → Prop) : Prop := Cp 19 M_M_added3 [.ref (154)] v (QI Q)
def k_M_added3_5 (l1 : Int32) (v : Vv) (Q : Int32 → Vv → Prop) : Prop := Gp 19 M_M_added3 5 [(0, .ref (154)), (1, .int (l1))] [] v (QI Q)
def k_M_added3_23 (l1 : Int32) (v : Vv) (Q : Int32 → Vv → Prop) : Prop := Gp 19 M_M_added3 23 [(0, .ref (154)), (1, .int (l1))] [] v (QI Q)
def k_M_added3_39 (l1 : Int32) (t0 : Int32) (v : Vv) (Q : Int32 → Vv → Prop) : Prop := Gp 19 M_M_added3 39 [(0, .ref (154)), (1, .int (l1))] [.int (t0)] v (QI Q)
def m_M_not3  (v : Vv) (Q : Int32 → Vv → Prop) : Prop := Cp 20 M_M_not3 [.ref (154)] v (QI Q)
def k_M_not3_77 (l1 : Int32) (v : Vv) (Q : Int32 → Vv → Prop) : Prop := Gp 20 M_M_not3 77 [(0, .ref (154)), (1, .int (l1))] [] v (QI Q)
def k_M_not3_93 (l1 : Int32) (t0 : Int32) (v : Vv) (Q : Int32 → Vv → Prop) : Prop := Gp 20 M_M_not3 93 [(0, .ref (154)), (1, .int (l1))] [.int (t0)] v (QI Q)
def m_M_both3  (v : Vv) (Q : Int32 → Vv → Prop) : Prop := Cp 21 M_M_both3 [.ref (154)] v (QI Q)
def k_M_both3_5 (l1 : Int32) (v : Vv) (Q : Int32 → Vv → Prop) : Prop := Gp 21 M_M_both3 5 [(0, .ref (154)), (1, .int (l1))] [] v (QI Q)
def m_M_either3  (v : Vv) (Q : Int32 → Vv → Prop) : Prop := Cp 22 M_M_either3 [.ref (154)] v (QI Q)
def k_M_either3_5 (l1 : Int32) (v : Vv) (Q : Int32 → Vv → Prop) : Prop := Gp 22 M_M_either3 5 [(0, .ref (154)), (1, .int (l1))] [] v (QI Q)
def m_M_atom2  (v : Vv) (Q : Int32 → Vv → Prop) : Prop := Cp 23 M_M_atom2 [.ref (154)] v (QI Q)
def k_M_atom2_71 (l1 : Int32) (v : Vv) (Q : Int32 → Vv → Prop) : Prop := Gp 23 M_M_atom2 71 [(0, .ref (154)), (1, .int (l1))] [] v (QI Q)
def k_M_atom2_123 (l1 : Int32) (v : Vv) (Q : Int32 → Vv → Prop) : Prop := Gp 23 M_M_atom2 123 [(0, .ref (154)), (1, .int (l1))] [] v (QI Q)
def k_M_atom2_157 (l1 : Int32) (v : Vv) (Q : Int32 → Vv → Prop) : Prop := Gp 23 M_M_atom2 157 [(0, .ref (154)), (1, .int (l1))] [] v (QI Q)
def m_M_term2  (v : Vv) (Q : Int32 → Vv → Prop) : Prop := Cp 24 M_M_term2 [.ref (154)] v (QI Q)
def k_M_term2_5 (l1 : Int32) (v : Vv) (Q : Int32 → Vv → Prop) : Prop := Gp 24 M_M_term2 5 [(0, .ref (154)), (1, .int (l1))] [] v (QI Q)
def m_M_added2  (v : Vv) (Q : Int32 → Vv → Prop) : Prop := Cp 25 M_M_added2 [.ref (154)] v (QI Q)
def k_M_added2_5 (l1 : Int32) (v : Vv) (Q : Int32 → Vv → Prop) : Prop := Gp 25 M_M_added2 5 [(0, .ref (154)), (1, .int (l1))] [] v (QI Q)
def k_M_added2_23 (l1 : Int32) (v : Vv) (Q : Int32 → Vv → Prop) : Prop := Gp 25 M_M_added2 23 [(0, .ref (154)), (1, .int (l1))] [] v (QI Q)
def k_M_added2_39 (l1 : Int32) (t0 : Int32) (v : Vv) (Q : Int32 → Vv → Prop) : Prop := Gp 25 M_M_added2 39 [(0, .ref (154)), (1, .int (l1))] [.int (t0)] v (QI Q)
def m_M_not2  (v : Vv) (Q : Int32 → Vv → Prop) : Prop := Cp 26 M_M_not2 [.ref (154)] v (QI Q)
def k_M_not2_77 (l1 : Int32) (v : Vv) (Q : Int32 → Vv → Prop) : Prop := Gp 26 M_M_not2 77 [(0, .ref (154)), (1, .int (l1))] [] v (QI Q)
def k_M_not2_93 (l1 : Int32) (t0 : Int32) (v : Vv) (Q : Int32 → Vv → Prop) : Prop := Gp 26 M_M_not2 93 [(0, .ref (154)), (1, .int (l1))] [.int (t0)] v (QI Q)
def m_M_both2  (v : Vv) (Q : Int32 → Vv → Prop) : Prop := Cp 27 M_M_both2 [.ref (154)] v (QI Q)
def k_M_both2_5 (l1 : Int32) (v : Vv) (Q : Int32 → Vv → Prop) : Prop := Gp 27 M_M_both2 5 [(0, .ref (154)), (1, .int (l1))] [] v (QI Q)
def m_M_either2  (v : Vv) (Q : Int32 → Vv → Prop) : Prop := Cp 28 M_M_either2 [.ref (154)] v (QI Q)
def k_M_either2_5 (l1 : Int32) (v : Vv) (Q : Int32 → Vv → Prop) : Prop := Gp 28 M_M_either2 5 [(0, .ref (154)), (1, .int (l1))] [] v (QI Q)
def m_M_atom1  (v : Vv) (Q : Int32 → Vv → Prop) : Prop := Cp 29 M_M_atom1 [.ref (154)] v (QI Q)
def k_M_atom1_71 (l1 : Int32) (v : Vv) (Q : Int32 → Vv → Prop) : Prop := Gp 29 M_M_atom1 71 [(0, .ref (154)), (1, .int (l1))] [] v (QI Q)
def k_M_atom1_123 (l1 : Int32) (v : Vv) (Q : Int32 → Vv → Prop) : Prop := Gp 29 M_M_atom1 123 [(0, .ref (154)), (1, .int (l1))] [] v (QI Q)
def k_M_atom1_157 (l1 : Int32) (v : Vv) (Q : Int32 → Vv → Prop) : Prop := Gp 29 M_M_atom1 157 [(0, .ref (154)), (1, .int (l1))] [] v (QI Q)
def m_M_term1  (v : Vv) (Q : Int32 → Vv → Prop) : Prop := Cp 30 M_M_term1 [.ref (154)] v (QI Q)
def k_M_term1_5 (l1 : Int32) (v : Vv) (Q : Int32 → Vv → Prop) : Prop := Gp 30 M_M_term1 5 [(0, .ref (154)), (1, .int (l1))] [] v (QI Q)
def m_M_added1  (v : Vv) (Q : Int32 → Vv → Prop) : Prop := Cp 31 M_M_added1 [.ref (154)] v (QI Q)
def k_M_added1_5 (l1 : Int32) (v : Vv) (Q : Int32 → Vv → Prop) : Prop := Gp 31 M_M_added1 5 [(0, .ref (154)), (1, .int (l1))] [] v (QI Q)
def k_M_added1_23 (l1 : Int32) (v : Vv) (Q : Int32 → Vv → Prop) : Prop := Gp 31 M_M_added1 23 [(0, .ref (154)), (1, .int (l1))] [] v (QI Q)
def k_M_added1_39 (l1 : Int32) (t0 : Int32) (v : Vv) (Q : Int32 → Vv → Prop) : Prop := Gp 31 M_M_added1 39 [(0, .ref (154)), (1, .int (l1))] [.int (t0)] v (QI Q)
def m_M_not1  (v : Vv) (Q : Int32 → Vv → Prop) : Prop := Cp 32 M_M_not1 [.ref (154)] v (QI Q)
def k_M_not1_77 (l1 : Int32) (v : Vv) (Q : Int32 → Vv → Prop) : Prop := Gp 32 M_M_not1 77 [(0, .ref (154)), (1, .int (l1))] [] v (QI Q)
def k_M_not1_93 (l1 : Int32) (t0 : Int32) (v : Vv) (Q : Int32 → Vv → Prop) : Prop := Gp 32 M_M_not1 93 [(0, .ref (154)), (1, .int (l1))] [.int (t0)] v (QI Q)
def m_M_both1  (v : Vv) (Q : Int32 → Vv → Prop) : Prop := Cp 33 M_M_both1 [.ref (154)] v (QI Q)
def k_M_both1_5 (l1 : Int32) (v : Vv) (Q : Int32 → Vv → Prop) : Prop := Gp 33 M_M_both1 5 [(0, .ref (154)), (1, .int (l1))] [] v (QI Q)
def m_M_either1  (v : Vv) (Q : Int32 → Vv → Prop) : Prop := Cp 34 M_M_either1 [.ref (154)] v (QI Q)
def k_M_either1_5 (l1 : Int32) (v : Vv) (Q : Int32 → Vv → Prop) : Prop := Gp 34 M_M_either1 5 [(0, .ref (154)), (1, .int (l1))] [] v (QI Q)
def m_M_atom0  (v : Vv) (Q : Int32 → Vv → Prop) : Prop := Cp 35 M_M_atom0 [.ref (154)] v (QI Q)
def k_M_atom0_71 (l1 : Int32) (v : Vv) (Q : Int32 → Vv → Prop) : Prop := Gp 35 M_M_atom0 71 [(0, .ref (154)), (1, .int (l1))] [] v (QI Q)
def k_M_atom0_123 (l1 : Int32) (v : Vv) (Q : Int32 → Vv → Prop) : Prop := Gp 35 M_M_atom0 123 [(0, .ref (154)), (1, .int (l1))] [] v (QI Q)
def k_M_atom0_157 (l1 : Int32) (v : Vv) (Q : Int32 → Vv → Prop) : Prop := Gp 35 M_M_atom0 157 [(0, .ref (154)), (1, .int (l1))] [] v (QI Q)
def m_M_term0  (v : Vv) (Q : Int32 → Vv → Prop) : Prop := Cp 36 M_M_term0 [.ref (154)] v (QI Q)
def k_M_term0_5 (l1 : Int32) (v : Vv) (Q : Int32 → Vv → Prop) : Prop := Gp 36 M_M_term0 5 [(0, .ref (154)), (1, .int (l1))] [] v (QI Q)
def m_M_added0  (v : Vv) (Q : Int32 → Vv → Prop) : Prop := Cp 37 M_M_added0 [.ref (154)] v (QI Q)
def k_M_added0_5 (l1 : Int32) (v : Vv) (Q : Int32 → Vv → Prop) : Prop := Gp 37 M_M_added0 5 [(0, .ref (154)), (1, .int (l1))] [] v (QI Q)
def k_M_added0_23 (l1 : Int32) (v : Vv) (Q : Int32 → Vv → Prop) : Prop := Gp 37 M_M_added0 23 [(0, .ref (154)), (1, .int (l1))] [] v (QI Q)
def k_M_added0_39 (l1 : Int32) (t0 : Int32) (v : Vv) (Q : Int32 → Vv → Prop) : Prop := Gp 37 M_M_added0 39 [(0, .ref (154)), (1, .int (l1))] [.int (t0)] v (QI Q)
def m_M_not0  (v : Vv) (Q : Int32 → Vv → Prop) : Prop := Cp 38 M_M_not0 [.ref (154)] v (QI Q)
def k_M_not0_77 (l1 : Int32) (v : Vv) (Q : Int32 → Vv → Prop) : Prop := Gp 38 M_M_not0 77 [(0, .ref (154)), (1, .int (l1))] [] v (QI Q)
def k_M_not0_93 (l1 : Int32) (t0 : Int32) (v : Vv) (Q : Int32 → Vv → Prop) : Prop := Gp 38 M_M_not0 93 [(0, .ref (154)), (1, .int (l1))] [.int (t0)] v (QI Q)
def m_M_both0  (v : Vv) (Q : Int32 → Vv → Prop) : Prop := Cp 39 M_M_both0 [.ref (154)] v (QI Q)
def k_M_both0_5 (l1 : Int32) (v : Vv) (Q : Int32 → Vv → Prop) : Prop := Gp 39 M_M_both0 5 [(0, .ref (154)), (1, .int (l1))] [] v (QI Q)
def m_M_either0  (v : Vv) (Q : Int32 → Vv → Prop) : Prop := Cp 40 M_M_either0 [.ref (154)] v (QI Q)
def k_M_either0_5 (l1 : Int32) (v : Vv) (Q : Int32 → Vv → Prop) : Prop := Gp 40 M_M_either0 5 [(0, .ref (154)), (1, .int (l1))] [] v (QI Q)
def m_M_part (l1 : Bool) (v : Vv) (Q : Int32 → Vv → Prop) : Prop := Cp 41 M_M_part [.ref (154), .int (bI (l1))] v (QI Q)
def k_M_part_8  (v : Vv) (Q : Int32 → Vv → Prop) : Prop := Gp 41 M_M_part 8 [(0, .ref (154))] [] v (QI Q)
def k_M_part_19  (v : Vv) (Q : Int32 → Vv → Prop) : Prop := Gp 41 M_M_part 19 [(0, .ref (154))] [] v (QI Q)
def k_M_part_34 (t0 : Int32) (v : Vv) (Q : Int32 → Vv → Prop) : Prop := Gp 41 M_M_part 34 [(0, .ref (154))] [.int (t0)] v (QI Q)
def k_M_part_48 (l2 : Int32) (v : Vv) (Q : Int32 → Vv → Prop) : Prop := Gp 41 M_M_part 48 [(0, .ref (154)), (2, .int (l2))] [] v (QI Q)
def m_M_read (l1 : Int32) (l2 : Int32) (v : Vv) (Q : Int32 → Vv → Prop) : Prop := Cp 42 M_M_read [.ref (154), .int (l1), .int (l2)] v (QI Q)
def k_M_read_90 (l2 : Int32) (l3 : Int32) (t0 : Int32) (v : Vv) (Q : Int32 → Vv → Prop) : Prop := Gp 42 M_M_read 90 [(0, .ref (154)), (2, .int (l2)), (3, .int (l3))] [.int (t0)] v (QI Q)
def k_M_read_124 (l2 : Int32) (l3 : Int32) (l4 : Int32) (t0 : Int32) (v : Vv) (Q : Int32 → Vv → Prop) : Prop := Gp 42 M_M_read 124 [(0, .ref (154)), (2, .int (l2)), (3, .int (l3)), (4, .int (l4))] [.int (t0)] v (QI Q)
def k_M_read_144 (l2 : Int32) (l3 : Int32) (l4 : Int32) (l5 : Int32) (v : Vv) (Q : Int32 → Vv → Prop) : Prop := Gp 42 M_M_read 144 [(2, .int (l2)), (3, .int (l3)), (4, .int (l4)), (5, .int (l5))] [] v (QI Q)
def m_M_text  (v : Vv) (Q : Int32 → Vv → Prop) : Prop := Cp 43 M_M_text [.ref (154)] v (QI Q)
def k_M_text_14 (l1 : Int32) (v : Vv) (Q : Int32 → Vv → Prop) : Prop := Gp 43 M_M_text 14 [(0, .ref (154)), (1, .int (l1))] [] v (QI Q)
def m_M_cameOf (l1 : Int32) (v : Vv) (Q : Int32 → Vv → Prop) : Prop := Cp 43 M_M_cameOf [.ref (154), .int (l1)] v (QI Q)
def m_M_addsOf (l1 : Int32) (l2 : Int32) (l3 : Int32) (v : Vv) (Q : Int32 → Vv → Prop) : Prop := Cp 43 M_M_addsOf [.ref (154), .int (l1), .int (l2), .int (l3)] v (QI Q)
def m_M_mindsOf (l1 : Int32) (l2 : Int32) (v : Vv) (Q : Int32 → Vv → Prop) : Prop := Cp 43 M_M_mindsOf [.ref (154), .int (l1), .int (l2)] v (QI Q)
def m_M_told (l1 : Int32) (l2 : Int32) (v : Vv) (Q : Int32 → Vv → Prop) : Prop := Cp 44 M_M_told [.ref (154), .int (l1), .int (l2)] v (QI Q)
def k_M_told_40 (l1 : Int32) (l2 : Int32) (v : Vv) (Q : Int32 → Vv → Prop) : Prop := Gp 44 M_M_told 40 [(0, .ref (154)), (1, .int (l1)), (2, .int (l2))] [] v (QI Q)
def m_M_addsBy (l1 : Int32) (l2 : Int32) (l3 : Int32) (l4 : Int32) (v : Vv) (Q : Int32 → Vv → Prop) : Prop := Cp 44 M_M_addsBy [.ref (154), .int (l1), .int (l2), .int (l3), .int (l4)] v (QI Q)
def m_M_set (l1 : Int32) (l2 : Int32) (l3 : Int32) (v : Vv) (Q : Int32 → Vv → Prop) : Prop := Cp 45 M_M_set [.ref (154), .int (l1), .int (l2), .int (l3)] v (QI Q)
def k_M_set_40 (l1 : Int32) (l2 : Int32) (l3 : Int32) (v : Vv) (Q : Int32 → Vv → Prop) : Prop := Gp 45 M_M_set 40 [(0, .ref (154)), (1, .int (l1)), (2, .int (l2)), (3, .int (l3))] [] v (QI Q)
def k_M_set_111 (l1 : Int32) (l2 : Int32) (l3 : Int32) (l4 : Int32) (t0 : Int32) (v : Vv) (Q : Int32 → Vv → Prop) : Prop := Gp 45 M_M_set 111 [(0, .ref (154)), (1, .int (l1)), (2, .int (l2)), (3, .int (l3)), (4, .int (l4))] [.int (t0)] v (QI Q)
def k_M_set_165 (l1 : Int32) (l2 : Int32) (l3 : Int32) (t0 : Int32) (v : Vv) (Q : Int32 → Vv → Prop) : Prop := Gp 45 M_M_set 165 [(0, .ref (154)), (1, .int (l1)), (2, .int (l2)), (3, .int (l3))] [.int (t0)] v (QI Q)
def m_M_goesThrough (l1 : Int32) (l2 : Int32) (l3 : Int32) (v : Vv) (Q : Vv → Prop) : Prop := Cp 45 M_M_goesThrough [.ref (154), .int (l1), .int (l2), .int (l3)] v (QV Q)
def k_M_goesThrough_25 (l2 : Int32) (l3 : Int32) (l4 : Int32) (l5 : Int32) (l6 : Int32) (v : Vv) (Q : Vv → Prop) : Prop := Gp 45 M_M_goesThrough 25 [(0, .ref (154)), (2, .int (l2)), (3, .int (l3)), (4, .int (l4)), (5, .int (l5)), (6, .int (l6))] [] v (QV Q)
def k_M_goesThrough_35 (l2 : Int32) (l3 : Int32) (l4 : Int32) (l5 : Int32) (l6 : Int32) (l7 : Int32) (v : Vv) (Q : Vv → Prop) : Prop := Gp 45 M_M_goesThrough 35 [(0, .ref (154)), (2, .int (l2)), (3, .int (l3)), (4, .int (l4)), (5, .int (l5)), (6, .int (l6)), (7, .int (l7))] [] v (QV Q)
def k_M_goesThrough_162 (l2 : Int32) (l3 : Int32) (l4 : Int32) (l5 : Int32) (l6 : Int32) (l7 : Int32) (v : Vv) (Q : Vv → Prop) : Prop := Gp 45 M_M_goesThrough 162 [(0, .ref (154)), (2, .int (l2)), (3, .int (l3)), (4, .int (l4)), (5, .int (l5)), (6, .int (l6)), (7, .int (l7))] [] v (QV Q)
def k_M_goesThrough_168 (l2 : Int32) (l3 : Int32) (l4 : Int32) (l5 : Int32) (l6 : Int32) (v : Vv) (Q : Vv → Prop) : Prop := Gp 45 M_M_goesThrough 168 [(0, .ref (154)), (2, .int (l2)), (3, .int (l3)), (4, .int (l4)), (5, .int (l5)), (6, .int (l6))] [] v (QV Q)
def m_M_makes (l1 : Int32) (v : Vv) (Q : Vv → Prop) : Prop := Cp 46 M_M_makes [.ref (154), .int (l1)] v (QV Q)
def k_M_makes_2 (l1 : Int32) (l2 : Int32) (v : Vv) (Q : Vv → Prop) : Prop := Gp 46 M_M_makes 2 [(0, .ref (154)), (1, .int (l1)), (2, .int (l2))] [] v (QV Q)
def k_M_makes_71 (l1 : Int32) (l2 : Int32) (l3 : Int32) (v : Vv) (Q : Vv → Prop) : Prop := Gp 46 M_M_makes 71 [(0, .ref (154)), (1, .int (l1)), (2, .int (l2)), (3, .int (l3))] [] v (QV Q)
def k_M_makes_125 (l1 : Int32) (l2 : Int32) (l3 : Int32) (l4 : Int32) (t0 : Int64) (t1 : Int64) (t2 : Int32) (v : Vv) (Q : Vv → Prop) : Prop := Gp 46 M_M_makes 125 [(0, .ref (154)), (1, .int (l1)), (2, .int (l2)), (3, .int (l3)), (4, .int (l4))] [.long (t0), .long (t1), .int (t2), .ref (167)] v (QV Q)
def k_M_makes_188 (l1 : Int32) (l3 : Int32) (v : Vv) (Q : Vv → Prop) : Prop := Gp 46 M_M_makes 188 [(0, .ref (154)), (1, .int (l1)), (3, .int (l3))] [] v (QV Q)
def k_M_makes_146 (l1 : Int32) (l2 : Int32) (l3 : Int32) (l4 : Int32) (v : Vv) (Q : Vv → Prop) : Prop := Gp 46 M_M_makes 146 [(0, .ref (154)), (1, .int (l1)), (2, .int (l2)), (3, .int (l3)), (4, .int (l4))] [] v (QV Q)
def k_M_makes_300 (l1 : Int32) (l3 : Int32) (v : Vv) (Q : Vv → Prop) : Prop := Gp 46 M_M_makes 300 [(0, .ref (154)), (1, .int (l1)), (3, .int (l3))] [] v (QV Q)
def k_M_makes_292 (l1 : Int32) (l3 : Int32) (l4 : Int32) (v : Vv) (Q : Vv → Prop) : Prop := Gp 46 M_M_makes 292 [(0, .ref (154)), (1, .int (l1)), (3, .int (l3)), (4, .int (l4))] [] v (QV Q)
def m_M_gathers  (v : Vv) (Q : Vv → Prop) : Prop := Cp 47 M_M_gathers [.ref (154)] v (QV Q)
def k_M_gathers_7 (l1 : Int32) (v : Vv) (Q : Vv → Prop) : Prop := Gp 47 M_M_gathers 7 [(0, .ref (154)), (1, .int (l1))] [] v (QV Q)
def m_M_at (l1 : Int32) (l2 : Int32) (l3 : Int32) (v : Vv) (Q : Int32 → Vv → Prop) : Prop := Cp 47 M_M_at [.ref (154), .int (l1), .int (l2), .int (l3)] v (QI Q)
def m_M_right (l1 : Int32) (l2 : Int32) (v : Vv) (Q : Int32 → Vv → Prop) : Prop := Cp 47 M_M_right [.ref (154), .int (l1), .int (l2)] v (QI Q)
def m_M_live (l1 : Int32) (v : Vv) (Q : Int32 → Vv → Prop) : Prop := Cp 47 M_M_live [.ref (154), .int (l1)] v (QI Q)
def k_M_live_18 (l1 : Int32) (l2 : Int32) (v : Vv) (Q : Int32 → Vv → Prop) : Prop := Gp 47 M_M_live 18 [(0, .ref (154)), (1, .int (l1)), (2, .int (l2))] [] v (QI Q)
def m_M_film (l1 : Int32) (l2 : Int32) (v : Vv) (Q : Int32 → Vv → Prop) : Prop := Cp 47 M_M_film [.ref (154), .int (l1), .int (l2)] v (QI Q)
def k_M_film_36 (l1 : Int32) (l2 : Int32) (l3 : Int32) (v : Vv) (Q : Int32 → Vv → Prop) : Prop := Gp 47 M_M_film 36 [(0, .ref (154)), (1, .int (l1)), (2, .int (l2)), (3, .int (l3))] [] v (QI Q)
def m_M_draws (l1 : Int32) (v : Vv) (Q : Int32 → Vv → Prop) : Prop := Cp 47 M_M_draws [.ref (154), .int (l1)] v (QI Q)
def k_M_draws_7 (l2 : Int32) (l3 : Int32) (l4 : Int32) (v : Vv) (Q : Int32 → Vv → Prop) : Prop := Gp 47 M_M_draws 7 [(0, .ref (154)), (2, .int (l2)), (3, .int (l3)), (4, .int (l4))] [] v (QI Q)
def m_M_world (l1 : Int32) (v : Vv) (Q : Int64 → Vv → Prop) : Prop := Cp 48 M_M_world [.ref (154), .int (l1)] v (QJ Q)
def k_M_world_17 (l1 : Int32) (v : Vv) (Q : Int64 → Vv → Prop) : Prop := Gp 48 M_M_world 17 [(0, .ref (154)), (1, .int (l1))] [] v (QJ Q)
def m_M_odds (l1 : Int32) (l2 : Int32) (v : Vv) (Q : Int64 → Vv → Prop) : Prop := Cp 48 M_M_odds [.ref (154), .int (l1), .int (l2)] v (QJ Q)
def k_M_odds_44 (l1 : Int32) (l2 : Int32) (l3 : Int64) (l5 : Int32) (v : Vv) (Q : Int64 → Vv → Prop) : Prop := Gp 48 M_M_odds 44 [(0, .ref (154)), (1, .int (l1)), (2, .int (l2)), (3, .long (l3)), (5, .int (l5))] [] v (QJ Q)
def m_M_time (l1 : Int32) (v : Vv) (Q : Int32 → Vv → Prop) : Prop := Cp 48 M_M_time [.ref (154), .int (l1)] v (QI Q)
def m_M_sure (l1 : Int32) (v : Vv) (Q : Int64 → Vv → Prop) : Prop := Cp 48 M_M_sure [.ref (154), .int (l1)] v (QJ Q)
def m_M_look  (v : Vv) (Q : Int32 → Vv → Prop) : Prop := Cp 48 M_M_look [.ref (154)] v (QI Q)
def k_M_look_20 (l1 : Int32) (l2 : Int64) (l4 : Int32) (v : Vv) (Q : Int32 → Vv → Prop) : Prop := Gp 48 M_M_look 20 [(0, .ref (154)), (1, .int (l1)), (2, .long (l2)), (4, .int (l4))] [] v (QI Q)
def k_M_look_66 (l1 : Int32) (l2 : Int64) (l4 : Int32) (v : Vv) (Q : Int32 → Vv → Prop) : Prop := Gp 48 M_M_look 66 [(0, .ref (154)), (1, .int (l1)), (2, .long (l2)), (4, .int (l4))] [] v (QI Q)
def m_M_fewest  (v : Vv) (Q : Int32 → Vv → Prop) : Prop := Cp 48 M_M_fewest [.ref (154)] v (QI Q)
def k_M_fewest_8 (l1 : Int32) (l2 : Int32) (v : Vv) (Q : Int32 → Vv → Prop) : Prop := Gp 48 M_M_fewest 8 [(0, .ref (154)), (1, .int (l1)), (2, .int (l2))] [] v (QI Q)
def k_M_fewest_34 (l1 : Int32) (l2 : Int32) (v : Vv) (Q : Int32 → Vv → Prop) : Prop := Gp 48 M_M_fewest 34 [(0, .ref (154)), (1, .int (l1)), (2, .int (l2))] [] v (QI Q)
def k_M_fewest_44 (l1 : Int32) (l2 : Int32) (v : Vv) (Q : Int32 → Vv → Prop) : Prop := Gp 48 M_M_fewest 44 [(0, .ref (154)), (1, .int (l1)), (2, .int (l2))] [] v (QI Q)
def m_M_ask  (v : Vv) (Q : Int32 → Vv → Prop) : Prop := Cp 48 M_M_ask [.ref (154)] v (QI Q)
def k_M_ask_11 (l1 : Int32) (l2 : Int64) (l4 : Int32) (v : Vv) (Q : Int32 → Vv → Prop) : Prop := Gp 48 M_M_ask 11 [(0, .ref (154)), (1, .int (l1)), (2, .long (l2)), (4, .int (l4))] [] v (QI Q)
def k_M_ask_26 (l1 : Int32) (l2 : Int64) (l4 : Int32) (l5 : Int64) (l7 : Int32) (v : Vv) (Q : Int32 → Vv → Prop) : Prop := Gp 48 M_M_ask 26 [(0, .ref (154)), (1, .int (l1)), (2, .long (l2)), (4, .int (l4)), (5, .long (l5)), (7, .int (l7))] [] v (QI Q)
def k_M_ask_104 (l1 : Int32) (l2 : Int64) (l4 : Int32) (t0 : Int64) (v : Vv) (Q : Int32 → Vv → Prop) : Prop := Gp 48 M_M_ask 104 [(0, .ref (154)), (1, .int (l1)), (2, .long (l2)), (4, .int (l4))] [.long (t0)] v (QI Q)
def m_M_say (l1 : Int32) (v : Vv) (Q : Int32 → Vv → Prop) : Prop := Cp 48 M_M_say [.ref (154), .int (l1)] v (QI Q)
def k_M_say_21 (l1 : Int32) (l2 : Int32) (l3 : Int32) (v : Vv) (Q : Int32 → Vv → Prop) : Prop := Gp 48 M_M_say 21 [(0, .ref (154)), (1, .int (l1)), (2, .int (l2)), (3, .int (l3))] [] v (QI Q)
def k_M_say_71 (l1 : Int32) (l3 : Int32) (v : Vv) (Q : Int32 → Vv → Prop) : Prop := Gp 48 M_M_say 71 [(0, .ref (154)), (1, .int (l1)), (3, .int (l3))] [] v (QI Q)
def k_M_say_73 (l1 : Int32) (l2 : Int32) (l3 : Int32) (v : Vv) (Q : Int32 → Vv → Prop) : Prop := Gp 48 M_M_say 73 [(0, .ref (154)), (1, .int (l1)), (2, .int (l2)), (3, .int (l3))] [] v (QI Q)
def m_M_bad (l1 : Int32) (v : Vv) (Q : Int64 → Vv → Prop) : Prop := Cp 48 M_M_bad [.ref (154), .int (l1)] v (QJ Q)
def k_M_bad_36 (l1 : Int32) (l2 : Int64) (l4 : Int32) (v : Vv) (Q : Int64 → Vv → Prop) : Prop := Gp 48 M_M_bad 36 [(0, .ref (154)), (1, .int (l1)), (2, .long (l2)), (4, .int (l4))] [] v (QJ Q)
def k_M_bad_48 (l1 : Int32) (l2 : Int64) (l4 : Int32) (l5 : Int32) (v : Vv) (Q : Int64 → Vv → Prop) : Prop := Gp 48 M_M_bad 48 [(0, .ref (154)), (1, .int (l1)), (2, .long (l2)), (4, .int (l4)), (5, .int (l5))] [] v (QJ Q)
def k_M_bad_116 (l1 : Int32) (l4 : Int32) (l5 : Int32) (t0 : Int64) (t1 : Int64) (v : Vv) (Q : Int64 → Vv → Prop) : Prop := Gp 48 M_M_bad 116 [(0, .ref (154)), (1, .int (l1)), (4, .int (l4)), (5, .int (l5))] [.long (t0), .long (t1)] v (QJ Q)
def k_M_bad_124 (l1 : Int32) (l2 : Int64) (l4 : Int32) (v : Vv) (Q : Int64 → Vv → Prop) : Prop := Gp 48 M_M_bad 124 [(0, .ref (154)), (1, .int (l1)), (2, .long (l2)), (4, .int (l4))] [] v (QJ Q)
def m_M_late (l1 : Int32) (v : Vv) (Q : Int32 → Vv → Prop) : Prop := Cp 48 M_M_late [.ref (154), .int (l1)] v (QI Q)
def k_M_late_19 (l1 : Int32) (l2 : Int32) (l3 : Int32) (v : Vv) (Q : Int32 → Vv → Prop) : Prop := Gp 48 M_M_late 19 [(0, .ref (154)), (1, .int (l1)), (2, .int (l2)), (3, .int (l3))] [] v (QI Q)
def m_M_tellsBack (l1 : Int32) (l2 : Int32) (v : Vv) (Q : Int32 → Vv → Prop) : Prop := Cp 48 M_M_tellsBack [.ref (154), .int (l1), .int (l2)] v (QI Q)
def k_M_tellsBack_70 (l1 : Int32) (l2 : Int32) (l3 : Int32) (l4 : Int32) (l5 : Int32) (l6 : Int32) (v : Vv) (Q : Int32 → Vv → Prop) : Prop := Gp 48 M_M_tellsBack 70 [(0, .ref (154)), (1, .int (l1)), (2, .int (l2)), (3, .int (l3)), (4, .int (l4)), (5, .int (l5)), (6, .int (l6))] [] v (QI Q)
def k_M_tellsBack_135 (l1 : Int32) (l2 : Int32) (l3 : Int32) (l5 : Int32) (l6 : Int32) (v : Vv) (Q : Int32 → Vv → Prop) : Prop := Gp 48 M_M_tellsBack 135 [(0, .ref (154)), (1, .int (l1)), (2, .int (l2)), (3, .int (l3)), (5, .int (l5)), (6, .int (l6))] [] v (QI Q)
def k_M_tellsBack_142 (l1 : Int32) (l2 : Int32) (l3 : Int32) (l5 : Int32) (l6 : Int32) (t0 : Int32) (v : Vv) (Q : Int32 → Vv → Prop) : Prop := Gp 48 M_M_tellsBack 142 [(0, .ref (154)), (1, .int (l1)), (2, .int (l2)), (3, .int (l3)), (5, .int (l5)), (6, .int (l6))] [.int (t0)] v (QI Q)
def k_M_tellsBack_144 (l1 : Int32) (l2 : Int32) (l3 : Int32) (l4 : Int32) (l5 : Int32) (l6 : Int32) (v : Vv) (Q : Int32 → Vv → Prop) : Prop := Gp 48 M_M_tellsBack 144 [(0, .ref (154)), (1, .int (l1)), (2, .int (l2)), (3, .int (l3)), (4, .int (l4)), (5, .int (l5)), (6, .int (l6))] [] v (QI Q)
def m_M_drawn (l1 : Int32) (v : Vv) (Q : Int32 → Vv → Prop) : Prop := Cp 48 M_M_drawn [.ref (154), .int (l1)] v (QI Q)
def m_M_chance (l1 : Int32) (l2 : Int32) (l3 : Int32) (v : Vv) (Q : Int64 → Vv → Prop) : Prop := Cp 48 M_M_chance [.ref (154), .int (l1), .int (l2), .int (l3)] v (QJ Q)
def k_M_chance_32 (l1 : Int32) (l2 : Int32) (l3 : Int32) (l4 : Int64) (l6 : Int32) (v : Vv) (Q : Int64 → Vv → Prop) : Prop := Gp 48 M_M_chance 32 [(0, .ref (154)), (1, .int (l1)), (2, .int (l2)), (3, .int (l3)), (4, .long (l4)), (6, .int (l6))] [] v (QJ Q)
def m_R_any (d : Nat) (l1 : Int32) (v : Vv) (Q : Bool → Vv → Prop) : Prop := Cp d M_R_any [.ref (108), .int (l1)] v (QZ Q)
def k_R_any_12 (d : Nat) (l1 : Int32) (l2 : Int32) (v : Vv) (Q : Bool → Vv → Prop) : Prop := Gp (d + 1) M_R_any 12 [(0, .ref (108)), (1, .int (l1)), (2, .int (l2))] [] v (QZ Q)
def m_R_every (d : Nat) (l1 : Int32) (v : Vv) (Q : Bool → Vv → Prop) : Prop := Cp d M_R_every [.ref (108), .int (l1)] v (QZ Q)
def k_R_every_12 (d : Nat) (l1 : Int32) (l2 : Int32) (v : Vv) (Q : Bool → Vv → Prop) : Prop := Gp (d + 1) M_R_every 12 [(0, .ref (108)), (1, .int (l1)), (2, .int (l2))] [] v (QZ Q)
def m_R_denial (d : Nat) (l1 : Int32) (v : Vv) (Q : Bool → Vv → Prop) : Prop := Cp d M_R_denial [.ref (108), .int (l1)] v (QZ Q)
def m_R_comparison (d : Nat) (l1 : Int32) (v : Vv) (Q : Bool → Vv → Prop) : Prop := Cp d M_R_comparison [.ref (108), .int (l1)] v (QZ Q)
def k_R_comparison_35 (d : Nat) (l1 : Int32) (l2 : Int32) (v : Vv) (Q : Bool → Vv → Prop) : Prop := Gp (d + 1) M_R_comparison 35 [(0, .ref (108)), (1, .int (l1)), (2, .int (l2))] [] v (QZ Q)
def m_R_sum (d : Nat) (l1 : Int32) (v : Vv) (Q : Bool → Vv → Prop) : Prop := Cp d M_R_sum [.ref (108), .int (l1)] v (QZ Q)
def k_R_sum_17 (d : Nat) (l1 : Int32) (l2 : Int32) (l3 : Int32) (v : Vv) (Q : Bool → Vv → Prop) : Prop := Gp (d + 1) M_R_sum 17 [(0, .ref (108)), (1, .int (l1)), (2, .int (l2)), (3, .int (l3))] [] v (QZ Q)
def k_R_sum_43 (d : Nat) (l1 : Int32) (l2 : Int32) (l3 : Int32) (v : Vv) (Q : Bool → Vv → Prop) : Prop := Gp (d + 1) M_R_sum 43 [(0, .ref (108)), (1, .int (l1)), (2, .int (l2)), (3, .int (l3))] [] v (QZ Q)
def m_R_term (d : Nat) (l1 : Int32) (v : Vv) (Q : Bool → Vv → Prop) : Prop := Cp d M_R_term [.ref (108), .int (l1)] v (QZ Q)
def k_R_term_12 (d : Nat) (l1 : Int32) (l2 : Int32) (v : Vv) (Q : Bool → Vv → Prop) : Prop := Gp (d + 1) M_R_term 12 [(0, .ref (108)), (1, .int (l1)), (2, .int (l2))] [] v (QZ Q)
def m_R_one (d : Nat) (l1 : Int32) (v : Vv) (Q : Bool → Vv → Prop) : Prop := Cp d M_R_one [.ref (108), .int (l1)] v (QZ Q)
def k_R_one_41 (d : Nat) (l1 : Int32) (v : Vv) (Q : Bool → Vv → Prop) : Prop := Gp (d + 1) M_R_one 41 [(0, .ref (108)), (1, .int (l1))] [] v (QZ Q)
def k_R_one_21 (d : Nat) (l2 : Int32) (v : Vv) (Q : Bool → Vv → Prop) : Prop := Gp (d + 1) M_R_one 21 [(0, .ref (108)), (2, .int (l2))] [] v (QZ Q)
def m_R_part (l1 : Int32) (l2 : Int32) (v : Vv) (Q : Bool → Vv → Prop) : Prop := Cp 101 M_R_part [.ref (108), .int (l1), .int (l2)] v (QZ Q)
def m_R_read (l2 : Int32) (v : Vv) (Q : Int32 → Vv → Prop) : Prop := Cp 102 M_R_read [.ref (108), .ref (107), .int (l2)] v (QI Q)
def k_R_read_69 (l2 : Int32) (v : Vv) (Q : Int32 → Vv → Prop) : Prop := Gp 102 M_R_read 69 [(0, .ref (108)), (2, .int (l2))] [] v (QI Q)
def k_R_read_53 (l2 : Int32) (v : Vv) (Q : Int32 → Vv → Prop) : Prop := Gp 102 M_R_read 53 [(0, .ref (108)), (2, .int (l2))] [] v (QI Q)
def k_R_read_54 (l2 : Int32) (t0 : Int32) (v : Vv) (Q : Int32 → Vv → Prop) : Prop := Gp 102 M_R_read 54 [(0, .ref (108)), (2, .int (l2))] [.int (t0)] v (QI Q)
def m_P_text  (v : Vv) (Q : Int32 → Vv → Prop) : Prop := Cp 103 M_P_text [.ref (0)] v (QI Q)
