/-! the shapes by their numbers -/
theorem sh_0 : zzSh[0]? = some (1, .inr (0, [(2, 12, 1, 0), (2, 13, 1, 0), (0, 0, 0, 0), (0, 0, 0, 0), (0, 0, 0, 0), (0, 0, 0, 0), (1, 0, 0, 0)])) := rfl
theorem sh_1 : zzSh[1]? = some (49, .inr (1, [(0, 0, 0, 0), (0, 0, 0, 0), (0, 0, 0, 0), (0, 0, 0, 0), (2, 14, 1, 0), (2, 15, 1, 0), (2, 16, 1, 0), (2, 17, 1, 0), (2, 18, 1, 0)])) := rfl
theorem sh_2 : zzSh[2]? = some (6, .inr (2, [(0, 0, 0, 0), (0, 0, 0, 0), (0, 0, 0, 0), (0, 0, 0, 0), (2, 19, 1, 0), (2, 20, 1, 0), (2, 21, 1, 0), (2, 22, 1, 0), (2, 23, 1, 0), (2, 24, 1, 0), (2, 25, 1, 0)])) := rfl
theorem sh_3 : zzSh[3]? = some (4, .inr (3, [(0, 0, 0, 0), (2, 2, 1, 2), (2, 1, 1, 45)])) := rfl
theorem sh_4 : zzSh[4]? = some (1, .inr (4, [(0, 0, 0, 0), (0, 0, 0, 0), (2, 26, 1, 0)])) := rfl
theorem sh_5 : zzSh[5]? = some (1, .inr (5, [(0, 0, 0, 0), (0, 0, 0, 0), (2, 27, 1, 0), (2, 28, 1, 0), (2, 29, 1, 0), (2, 30, 1, 0), (2, 31, 1, 0)])) := rfl
theorem sh_6 : zzSh[6]? = some (1, .inr (6, [(2, 5, 1, 0), (2, 2, 0, 1), (0, 0, 0, 0), (0, 0, 0, 0), (2, 32, 1, 0), (2, 33, 1, 0)])) := rfl
theorem sh_7 : zzSh[7]? = some (60, .inr (7, [(0, 0, 0, 0), (0, 0, 0, 0), (0, 0, 0, 0), (0, 0, 0, 0), (0, 0, 0, 0), (0, 0, 0, 0), (0, 0, 0, 0), (0, 0, 0, 0)])) := rfl
theorem sh_8 : zzSh[8]? = some (0, .inr (8, [])) := rfl
theorem sh_9 : zzSh[9]? = some (1, .inr (9, [(0, 0, 0, 0), (0, 0, 0, 0), (0, 0, 0, 0), (0, 0, 0, 0), (1, 0, 0, 0), (2, 1, 0, 44)])) := rfl
theorem sh_10 : zzSh[10]? = some (1, .inr (10, [(2, 6, 1, 0), (2, 2, 1, 0), (2, 1, 1, 0), (2, 4, 1, 0), (2, 34, 1, 0), (2, 0, 1, 0), (2, 9, 1, 0)])) := rfl
theorem sh_11 : zzSh[11]? = some (1, .inr (11, [(0, 0, 0, 0), (0, 0, 0, 0), (2, 35, 1, 0), (0, 0, 0, 0), (0, 0, 0, 0), (0, 0, 0, 0), (0, 0, 0, 0), (1, 0, 0, 0), (0, 0, 0, 0), (0, 0, 0, 0), (2, 36, 1, 0), (2, 37, 1, 0), (2, 38, 1, 0), (2, 39, 1, 0), (2, 40, 1, 0), (2, 41, 1, 0), (2, 42, 1, 0), (2, 43, 1, 0), (2, 44, 1, 0), (2, 45, 1, 0), (2, 46, 1, 0), (2, 47, 1, 0), (2, 48, 1, 0), (2, 49, 1, 0), (2, 50, 1, 0), (2, 51, 1, 0), (2, 52, 1, 0), (2, 53, 1, 0), (2, 54, 1, 0), (2, 55, 1, 0), (2, 56, 1, 0), (2, 57, 1, 0), (0, 0, 0, 0), (2, 58, 1, 0), (2, 59, 1, 0), (2, 60, 1, 0), (2, 61, 1, 0), (2, 62, 1, 0), (2, 63, 1, 0), (2, 64, 1, 0), (2, 65, 1, 0), (2, 66, 1, 0), (2, 67, 1, 0), (2, 68, 1, 0), (2, 69, 1, 0), (0, 0, 0, 0), (2, 70, 1, 0), (2, 71, 1, 0), (2, 72, 1, 0), (2, 73, 1, 0), (0, 0, 0, 0), (0, 0, 0, 0), (0, 0, 0, 0), (1, 0, 0, 0), (2, 74, 1, 0)])) := rfl
theorem sh_12 : zzSh[12]? = some (1, .inl (5, 13, 2, 1, 0, 31)) := rfl
theorem sh_13 : zzSh[13]? = some (1, .inl (1, 64, 1, 0, 0, 0)) := rfl
theorem sh_14 : zzSh[14]? = some (49, .inl (0, 6, 0, 0, 0, 0)) := rfl
theorem sh_15 : zzSh[15]? = some (49, .inl (0, 10, 0, 0, 0, 0)) := rfl
theorem sh_16 : zzSh[16]? = some (49, .inl (0, 10, 0, 0, 0, 0)) := rfl
theorem sh_17 : zzSh[17]? = some (49, .inl (0, 10, 0, 0, 0, 0)) := rfl
theorem sh_18 : zzSh[18]? = some (49, .inl (0, 10, 0, 0, 0, 0)) := rfl
theorem sh_19 : zzSh[19]? = some (6, .inl (0, 4, 0, 0, 0, 0)) := rfl
theorem sh_20 : zzSh[20]? = some (6, .inl (0, 4, 0, 0, 0, 0)) := rfl
theorem sh_21 : zzSh[21]? = some (6, .inl (0, 6, 0, 0, 0, 0)) := rfl
theorem sh_22 : zzSh[22]? = some (6, .inl (4, 10, 2, 7, 10, 0)) := rfl
theorem sh_23 : zzSh[23]? = some (6, .inl (0, 8, 0, 0, 0, 0)) := rfl
theorem sh_24 : zzSh[24]? = some (6, .inl (0, 8, 0, 0, 0, 0)) := rfl
theorem sh_25 : zzSh[25]? = some (6, .inl (0, 8, 0, 0, 0, 0)) := rfl
theorem sh_26 : zzSh[26]? = some (1, .inl (5, 30, 2, 1, 0, 1)) := rfl
theorem sh_27 : zzSh[27]? = some (1, .inl (2, 1000, 0, 0, 0, 0)) := rfl
theorem sh_28 : zzSh[28]? = some (1, .inl (0, 1001, 0, 0, 0, 0)) := rfl
theorem sh_29 : zzSh[29]? = some (1, .inl (0, 1001, 0, 0, 0, 0)) := rfl
theorem sh_30 : zzSh[30]? = some (1, .inl (7, 1001, 3, 0, 0, 0)) := rfl
theorem sh_31 : zzSh[31]? = some (1, .inl (1, 1001, 1, 0, 0, 0)) := rfl
theorem sh_32 : zzSh[32]? = some (1, .inl (1, 4, 1, 0, 0, 0)) := rfl
theorem sh_33 : zzSh[33]? = some (1, .inl (1, 6, 1, 0, 0, 0)) := rfl
theorem sh_34 : zzSh[34]? = some (1, .inl (6, 4, 2, 3, 0, 0)) := rfl
theorem sh_35 : zzSh[35]? = some (1, .inl (0, 1000, 0, 0, 0, 0)) := rfl
theorem sh_36 : zzSh[36]? = some (1, .inl (0, 6, 0, 0, 0, 0)) := rfl
theorem sh_37 : zzSh[37]? = some (1, .inl (0, 6, 0, 0, 0, 0)) := rfl
theorem sh_38 : zzSh[38]? = some (1, .inl (0, 6, 0, 0, 0, 0)) := rfl
theorem sh_39 : zzSh[39]? = some (1, .inl (0, 6, 0, 0, 0, 0)) := rfl
theorem sh_40 : zzSh[40]? = some (1, .inl (1, 4, 1, 0, 0, 0)) := rfl
theorem sh_41 : zzSh[41]? = some (1, .inl (1, 6, 1, 0, 0, 0)) := rfl
theorem sh_42 : zzSh[42]? = some (1, .inl (0, 24, 0, 0, 0, 0)) := rfl
theorem sh_43 : zzSh[43]? = some (1, .inl (0, 24, 0, 0, 0, 0)) := rfl
theorem sh_44 : zzSh[44]? = some (1, .inl (0, 36, 0, 0, 0, 0)) := rfl
theorem sh_45 : zzSh[45]? = some (1, .inl (0, 60, 0, 0, 0, 0)) := rfl
theorem sh_46 : zzSh[46]? = some (1, .inl (0, 60, 0, 0, 0, 0)) := rfl
theorem sh_47 : zzSh[47]? = some (1, .inl (0, 60, 0, 0, 0, 0)) := rfl
theorem sh_48 : zzSh[48]? = some (1, .inl (0, 60, 0, 0, 0, 0)) := rfl
theorem sh_49 : zzSh[49]? = some (1, .inl (0, 60, 0, 0, 0, 0)) := rfl
theorem sh_50 : zzSh[50]? = some (1, .inl (0, 60, 0, 0, 0, 0)) := rfl
theorem sh_51 : zzSh[51]? = some (1, .inl (0, 60, 0, 0, 0, 0)) := rfl
theorem sh_52 : zzSh[52]? = some (1, .inl (0, 60, 0, 0, 0, 0)) := rfl
theorem sh_53 : zzSh[53]? = some (1, .inl (0, 48, 0, 0, 0, 0)) := rfl
theorem sh_54 : zzSh[54]? = some (1, .inl (0, 48, 0, 0, 0, 0)) := rfl
theorem sh_55 : zzSh[55]? = some (1, .inl (0, 48, 0, 0, 0, 0)) := rfl
theorem sh_56 : zzSh[56]? = some (1, .inl (0, 48, 0, 0, 0, 0)) := rfl
theorem sh_57 : zzSh[57]? = some (1, .inl (0, 6000, 0, 0, 0, 0)) := rfl
theorem sh_58 : zzSh[58]? = some (1, .inl (0, 7, 0, 0, 0, 0)) := rfl
theorem sh_59 : zzSh[59]? = some (1, .inl (3, 7, 0, 0, 0, 0)) := rfl
theorem sh_60 : zzSh[60]? = some (1, .inl (0, 7, 0, 0, 0, 0)) := rfl
theorem sh_61 : zzSh[61]? = some (1, .inl (0, 7, 0, 0, 0, 0)) := rfl
theorem sh_62 : zzSh[62]? = some (1, .inl (0, 7, 0, 0, 0, 0)) := rfl
theorem sh_63 : zzSh[63]? = some (1, .inl (0, 7, 0, 0, 0, 0)) := rfl
theorem sh_64 : zzSh[64]? = some (1, .inl (0, 7, 0, 0, 0, 0)) := rfl
theorem sh_65 : zzSh[65]? = some (1, .inl (0, 7, 0, 0, 0, 0)) := rfl
theorem sh_66 : zzSh[66]? = some (1, .inl (0, 7, 0, 0, 0, 0)) := rfl
theorem sh_67 : zzSh[67]? = some (1, .inl (0, 7, 0, 0, 0, 0)) := rfl
theorem sh_68 : zzSh[68]? = some (1, .inl (0, 7, 0, 0, 0, 0)) := rfl
theorem sh_69 : zzSh[69]? = some (1, .inl (0, 20, 0, 0, 0, 0)) := rfl
theorem sh_70 : zzSh[70]? = some (1, .inl (0, 64, 0, 0, 0, 0)) := rfl
theorem sh_71 : zzSh[71]? = some (1, .inl (0, 64, 0, 0, 0, 0)) := rfl
theorem sh_72 : zzSh[72]? = some (1, .inl (0, 1920, 0, 0, 0, 0)) := rfl
theorem sh_73 : zzSh[73]? = some (1, .inl (0, 256, 0, 0, 0, 0)) := rfl
theorem sh_74 : zzSh[74]? = some (1, .inl (3, 4, 0, 0, 0, 0)) := rfl
theorem sh_75 : zzSh[75]? = some (1, .inl (1, 1, 1, 0, 0, 0)) := rfl
/-! the fields' words are among all words -/
theorem ig_0 : ∀ w ∈ u_ws RX0 TX0 7, w ∈ gw := by decide +kernel
theorem ig_1 : ∀ w ∈ u_ws RX1 TX1 9, w ∈ gw := by decide +kernel
theorem ig_2 : ∀ w ∈ u_ws RX2 TX2 11, w ∈ gw := by decide +kernel
theorem ig_3 : ∀ w ∈ u_ws RX3 TX3 3, w ∈ gw := by decide +kernel
theorem ig_4 : ∀ w ∈ u_ws RX4 TX4 3, w ∈ gw := by decide +kernel
theorem ig_5 : ∀ w ∈ u_ws RX5 TX5 7, w ∈ gw := by decide +kernel
theorem ig_6 : ∀ w ∈ u_ws RX6 TX6 6, w ∈ gw := by decide +kernel
theorem ig_7 : ∀ w ∈ u_ws RX7 TX7 8, w ∈ gw := by decide +kernel
theorem ig_9 : ∀ w ∈ u_ws RX9 TX9 6, w ∈ gw := by decide +kernel
theorem ig_10 : ∀ w ∈ u_ws RX10 TX10 7, w ∈ gw := by decide +kernel
theorem ig_11 : ∀ w ∈ u_ws RX11 TX11 55, w ∈ gw := by decide +kernel
/-! links -/
theorem kf_X10_10 : zLk RX10 10 10 0 := ⟨RX10, TX10, 7, rfl, by decide, ig_10, gw_tbl 370 (by decide +kernel) rfl⟩
theorem kf_X10_19 : zLk RX10 19 10 1 := ⟨RX10, TX10, 7, rfl, by decide, ig_10, gw_tbl 371 (by decide +kernel) rfl⟩
theorem kf_X10_26 : zLk RX10 26 10 2 := ⟨RX10, TX10, 7, rfl, by decide, ig_10, gw_tbl 372 (by decide +kernel) rfl⟩
theorem kf_X10_33 : zLk RX10 33 10 3 := ⟨RX10, TX10, 7, rfl, by decide, ig_10, gw_tbl 373 (by decide +kernel) rfl⟩
theorem kf_X10_39 : zLk RX10 39 10 4 := ⟨RX10, TX10, 7, rfl, by decide, ig_10, gw_tbl 374 (by decide +kernel) rfl⟩
theorem kf_X10_47 : zLk RX10 47 10 5 := ⟨RX10, TX10, 7, rfl, by decide, ig_10, gw_tbl 375 (by decide +kernel) rfl⟩
theorem kf_X10_54 : zLk RX10 54 10 6 := ⟨RX10, TX10, 7, rfl, by decide, ig_10, gw_tbl 376 (by decide +kernel) rfl⟩
theorem kf_X10_58 : zLk RX10 58 6 0 := ⟨RX6, TX6, 6, rfl, by decide, ig_6, gw_tbl 195 (by decide +kernel) rfl⟩
theorem kf_X10_68 : zLk RX10 68 5 0 := ⟨RX5, TX5, 7, rfl, by decide, ig_5, gw_tbl 51 (by decide +kernel) rfl⟩
theorem kf_X10_79 : zLk RX10 79 6 1 := ⟨RX6, TX6, 6, rfl, by decide, ig_6, gw_tbl 197 (by decide +kernel) rfl⟩
theorem kf_X10_96 : zLk RX10 96 2 4 := ⟨RX2, TX2, 11, rfl, by decide, ig_2, gw_tbl 153 (by decide +kernel) rfl⟩
theorem kf_X10_100 : zLk RX10 100 2 5 := ⟨RX2, TX2, 11, rfl, by decide, ig_2, gw_tbl 156 (by decide +kernel) rfl⟩
theorem kf_X10_103 : zLk RX10 103 1 2 := ⟨RX1, TX1, 9, rfl, by decide, ig_1, gw_tbl 230 (by decide +kernel) rfl⟩
theorem kf_X10_116 : zLk RX10 116 1 4 := ⟨RX1, TX1, 9, rfl, by decide, ig_1, gw_tbl 234 (by decide +kernel) rfl⟩
theorem kf_X10_122 : zLk RX10 122 2 7 := ⟨RX2, TX2, 11, rfl, by decide, ig_2, gw_tbl 163 (by decide +kernel) rfl⟩
theorem kf_X10_126 : zLk RX10 126 7 0 := ⟨RX7, TX7, 8, rfl, by decide, ig_7, gw_tbl 91 (by decide +kernel) rfl⟩
theorem kf_X10_131 : zLk RX10 131 7 1 := ⟨RX7, TX7, 8, rfl, by decide, ig_7, gw_tbl 95 (by decide +kernel) rfl⟩
theorem kf_X10_134 : zLk RX10 134 1 5 := ⟨RX1, TX1, 9, rfl, by decide, ig_1, gw_tbl 237 (by decide +kernel) rfl⟩
theorem kf_X10_137 : zLk RX10 137 1 6 := ⟨RX1, TX1, 9, rfl, by decide, ig_1, gw_tbl 239 (by decide +kernel) rfl⟩
theorem kf_X10_140 : zLk RX10 140 1 7 := ⟨RX1, TX1, 9, rfl, by decide, ig_1, gw_tbl 242 (by decide +kernel) rfl⟩
theorem kf_X10_143 : zLk RX10 143 7 6 := ⟨RX7, TX7, 8, rfl, by decide, ig_7, gw_tbl 112 (by decide +kernel) rfl⟩
theorem kf_X10_146 : zLk RX10 146 7 7 := ⟨RX7, TX7, 8, rfl, by decide, ig_7, gw_tbl 116 (by decide +kernel) rfl⟩
theorem kf_X10_149 : zLk RX10 149 1 8 := ⟨RX1, TX1, 9, rfl, by decide, ig_1, gw_tbl 244 (by decide +kernel) rfl⟩
theorem kf_X10_201 : zLk RX10 201 2 0 := ⟨RX2, TX2, 11, rfl, by decide, ig_2, gw_tbl 140 (by decide +kernel) rfl⟩
theorem kf_X10_233 : zLk RX10 233 2 3 := ⟨RX2, TX2, 11, rfl, by decide, ig_2, gw_tbl 151 (by decide +kernel) rfl⟩
theorem kf_X10_243 : zLk RX10 243 9 0 := ⟨RX9, TX9, 6, rfl, by decide, ig_9, gw_tbl 348 (by decide +kernel) rfl⟩
theorem kf_X10_246 : zLk RX10 246 9 1 := ⟨RX9, TX9, 6, rfl, by decide, ig_9, gw_tbl 350 (by decide +kernel) rfl⟩
theorem kf_X10_249 : zLk RX10 249 9 2 := ⟨RX9, TX9, 6, rfl, by decide, ig_9, gw_tbl 352 (by decide +kernel) rfl⟩
theorem kf_X10_252 : zLk RX10 252 9 3 := ⟨RX9, TX9, 6, rfl, by decide, ig_9, gw_tbl 354 (by decide +kernel) rfl⟩
theorem kf_X10_259 : zLk RX10 259 3 0 := ⟨RX3, TX3, 3, rfl, by decide, ig_3, gw_tbl 297 (by decide +kernel) rfl⟩
theorem kf_X10_263 : zLk RX10 263 3 1 := ⟨RX3, TX3, 3, rfl, by decide, ig_3, gw_tbl 299 (by decide +kernel) rfl⟩
theorem kf_X10_264 : zLk RX10 264 3 2 := ⟨RX3, TX3, 3, rfl, by decide, ig_3, gw_tbl 301 (by decide +kernel) rfl⟩
theorem kf_X10_267 : zLk RX10 267 2 1 := ⟨RX2, TX2, 11, rfl, by decide, ig_2, gw_tbl 144 (by decide +kernel) rfl⟩
theorem kf_X10_270 : zLk RX10 270 2 2 := ⟨RX2, TX2, 11, rfl, by decide, ig_2, gw_tbl 148 (by decide +kernel) rfl⟩
theorem kf_X10_273 : zLk RX10 273 1 0 := ⟨RX1, TX1, 9, rfl, by decide, ig_1, gw_tbl 224 (by decide +kernel) rfl⟩
theorem kf_X10_276 : zLk RX10 276 1 1 := ⟨RX1, TX1, 9, rfl, by decide, ig_1, gw_tbl 227 (by decide +kernel) rfl⟩
theorem kf_X10_277 : zLk RX10 277 4 0 := ⟨RX4, TX4, 3, rfl, by decide, ig_4, gw_tbl 275 (by decide +kernel) rfl⟩
theorem kf_X0_11 : zLk RX0 11 0 0 := ⟨RX0, TX0, 7, rfl, by decide, ig_0, gw_tbl 317 (by decide +kernel) rfl⟩
theorem kf_X0_18 : zLk RX0 18 0 1 := ⟨RX0, TX0, 7, rfl, by decide, ig_0, gw_tbl 318 (by decide +kernel) rfl⟩
theorem kf_X0_30 : zLk RX0 30 0 2 := ⟨RX0, TX0, 7, rfl, by decide, ig_0, gw_tbl 319 (by decide +kernel) rfl⟩
theorem kp_X0_30 : zLp RX0 30 0 2 .int := ⟨RX0, TX0, 7, tyX0, rfl, by decide, ig_0, gw_tbl 319 (by decide +kernel) rfl, tyX0_ok, nmX0, rfl, rfl⟩
theorem kf_X0_34 : zLk RX0 34 0 3 := ⟨RX0, TX0, 7, rfl, by decide, ig_0, gw_tbl 320 (by decide +kernel) rfl⟩
theorem kp_X0_34 : zLp RX0 34 0 3 .int := ⟨RX0, TX0, 7, tyX0, rfl, by decide, ig_0, gw_tbl 320 (by decide +kernel) rfl, tyX0_ok, nmX0, rfl, rfl⟩
theorem kf_X0_37 : zLk RX0 37 0 4 := ⟨RX0, TX0, 7, rfl, by decide, ig_0, gw_tbl 321 (by decide +kernel) rfl⟩
theorem kp_X0_37 : zLp RX0 37 0 4 .int := ⟨RX0, TX0, 7, tyX0, rfl, by decide, ig_0, gw_tbl 321 (by decide +kernel) rfl, tyX0_ok, nmX0, rfl, rfl⟩
theorem kf_X0_40 : zLk RX0 40 0 6 := ⟨RX0, TX0, 7, rfl, by decide, ig_0, gw_tbl 323 (by decide +kernel) rfl⟩
theorem kp_X0_40 : zLp RX0 40 0 6 .long := ⟨RX0, TX0, 7, tyX0, rfl, by decide, ig_0, gw_tbl 323 (by decide +kernel) rfl, tyX0_ok, nmX0, rfl, rfl⟩
theorem kf_X0_48 : zLk RX0 48 0 5 := ⟨RX0, TX0, 7, rfl, by decide, ig_0, gw_tbl 322 (by decide +kernel) rfl⟩
theorem kp_X0_48 : zLp RX0 48 0 5 .int := ⟨RX0, TX0, 7, tyX0, rfl, by decide, ig_0, gw_tbl 322 (by decide +kernel) rfl, tyX0_ok, nmX0, rfl, rfl⟩
theorem kf_X0_59 : zLk RX0 59 2 0 := ⟨RX2, TX2, 11, rfl, by decide, ig_2, gw_tbl 139 (by decide +kernel) rfl⟩
theorem kf_X0_64 : zLk RX0 64 1 2 := ⟨RX1, TX1, 9, rfl, by decide, ig_1, gw_tbl 231 (by decide +kernel) rfl⟩
theorem kf_X0_74 : zLk RX0 74 1 8 := ⟨RX1, TX1, 9, rfl, by decide, ig_1, gw_tbl 245 (by decide +kernel) rfl⟩
theorem kf_X0_78 : zLk RX0 78 1 6 := ⟨RX1, TX1, 9, rfl, by decide, ig_1, gw_tbl 240 (by decide +kernel) rfl⟩
theorem kf_X0_81 : zLk RX0 81 1 4 := ⟨RX1, TX1, 9, rfl, by decide, ig_1, gw_tbl 235 (by decide +kernel) rfl⟩
theorem kf_X1_9 : zLk RX1 9 1 4 := ⟨RX1, TX1, 9, rfl, by decide, ig_1, gw_tbl 233 (by decide +kernel) rfl⟩
theorem kf_X1_15 : zLk RX1 15 1 5 := ⟨RX1, TX1, 9, rfl, by decide, ig_1, gw_tbl 236 (by decide +kernel) rfl⟩
theorem kf_X1_18 : zLk RX1 18 1 6 := ⟨RX1, TX1, 9, rfl, by decide, ig_1, gw_tbl 238 (by decide +kernel) rfl⟩
theorem kf_X1_21 : zLk RX1 21 1 7 := ⟨RX1, TX1, 9, rfl, by decide, ig_1, gw_tbl 241 (by decide +kernel) rfl⟩
theorem kf_X1_24 : zLk RX1 24 1 8 := ⟨RX1, TX1, 9, rfl, by decide, ig_1, gw_tbl 243 (by decide +kernel) rfl⟩
theorem kf_X1_27 : zLk RX1 27 1 0 := ⟨RX1, TX1, 9, rfl, by decide, ig_1, gw_tbl 223 (by decide +kernel) rfl⟩
theorem kp_X1_27 : zLp RX1 27 1 0 .int := ⟨RX1, TX1, 9, tyX1, rfl, by decide, ig_1, gw_tbl 223 (by decide +kernel) rfl, tyX1_ok, nmX1, rfl, rfl⟩
theorem kf_X1_31 : zLk RX1 31 1 1 := ⟨RX1, TX1, 9, rfl, by decide, ig_1, gw_tbl 225 (by decide +kernel) rfl⟩
theorem kp_X1_31 : zLp RX1 31 1 1 .int := ⟨RX1, TX1, 9, tyX1, rfl, by decide, ig_1, gw_tbl 225 (by decide +kernel) rfl, tyX1_ok, nmX1, rfl, rfl⟩
theorem kf_X1_34 : zLk RX1 34 1 2 := ⟨RX1, TX1, 9, rfl, by decide, ig_1, gw_tbl 228 (by decide +kernel) rfl⟩
theorem kp_X1_34 : zLp RX1 34 1 2 .int := ⟨RX1, TX1, 9, tyX1, rfl, by decide, ig_1, gw_tbl 228 (by decide +kernel) rfl, tyX1_ok, nmX1, rfl, rfl⟩
theorem kf_X1_37 : zLk RX1 37 1 3 := ⟨RX1, TX1, 9, rfl, by decide, ig_1, gw_tbl 232 (by decide +kernel) rfl⟩
theorem kp_X1_37 : zLp RX1 37 1 3 .int := ⟨RX1, TX1, 9, tyX1, rfl, by decide, ig_1, gw_tbl 232 (by decide +kernel) rfl, tyX1_ok, nmX1, rfl, rfl⟩
theorem kf_X1_40 : zLk RX1 40 2 1 := ⟨RX2, TX2, 11, rfl, by decide, ig_2, gw_tbl 142 (by decide +kernel) rfl⟩
theorem kf_X1_45 : zLk RX1 45 2 6 := ⟨RX2, TX2, 11, rfl, by decide, ig_2, gw_tbl 159 (by decide +kernel) rfl⟩
theorem kf_X1_48 : zLk RX1 48 2 2 := ⟨RX2, TX2, 11, rfl, by decide, ig_2, gw_tbl 146 (by decide +kernel) rfl⟩
theorem kf_X1_51 : zLk RX1 51 2 7 := ⟨RX2, TX2, 11, rfl, by decide, ig_2, gw_tbl 162 (by decide +kernel) rfl⟩
theorem kf_X1_55 : zLk RX1 55 7 2 := ⟨RX7, TX7, 8, rfl, by decide, ig_7, gw_tbl 99 (by decide +kernel) rfl⟩
theorem kf_X1_95 : zLk RX1 95 7 3 := ⟨RX7, TX7, 8, rfl, by decide, ig_7, gw_tbl 102 (by decide +kernel) rfl⟩
theorem kf_X1_98 : zLk RX1 98 7 4 := ⟨RX7, TX7, 8, rfl, by decide, ig_7, gw_tbl 105 (by decide +kernel) rfl⟩
theorem kf_X1_101 : zLk RX1 101 7 6 := ⟨RX7, TX7, 8, rfl, by decide, ig_7, gw_tbl 111 (by decide +kernel) rfl⟩
theorem kf_X1_104 : zLk RX1 104 7 1 := ⟨RX7, TX7, 8, rfl, by decide, ig_7, gw_tbl 96 (by decide +kernel) rfl⟩
theorem kf_X1_115 : zLk RX1 115 7 0 := ⟨RX7, TX7, 8, rfl, by decide, ig_7, gw_tbl 93 (by decide +kernel) rfl⟩
theorem kf_X1_122 : zLk RX1 122 7 7 := ⟨RX7, TX7, 8, rfl, by decide, ig_7, gw_tbl 118 (by decide +kernel) rfl⟩
theorem kf_X2_9 : zLk RX2 9 2 4 := ⟨RX2, TX2, 11, rfl, by decide, ig_2, gw_tbl 152 (by decide +kernel) rfl⟩
theorem kf_X2_15 : zLk RX2 15 2 5 := ⟨RX2, TX2, 11, rfl, by decide, ig_2, gw_tbl 155 (by decide +kernel) rfl⟩
theorem kf_X2_18 : zLk RX2 18 2 6 := ⟨RX2, TX2, 11, rfl, by decide, ig_2, gw_tbl 158 (by decide +kernel) rfl⟩
theorem kf_X2_23 : zLk RX2 23 2 7 := ⟨RX2, TX2, 11, rfl, by decide, ig_2, gw_tbl 161 (by decide +kernel) rfl⟩
theorem kf_X2_28 : zLk RX2 28 2 8 := ⟨RX2, TX2, 11, rfl, by decide, ig_2, gw_tbl 165 (by decide +kernel) rfl⟩
theorem kf_X2_31 : zLk RX2 31 2 9 := ⟨RX2, TX2, 11, rfl, by decide, ig_2, gw_tbl 167 (by decide +kernel) rfl⟩
theorem kf_X2_34 : zLk RX2 34 2 10 := ⟨RX2, TX2, 11, rfl, by decide, ig_2, gw_tbl 169 (by decide +kernel) rfl⟩
theorem kf_X2_37 : zLk RX2 37 2 0 := ⟨RX2, TX2, 11, rfl, by decide, ig_2, gw_tbl 136 (by decide +kernel) rfl⟩
theorem kp_X2_37 : zLp RX2 37 2 0 .int := ⟨RX2, TX2, 11, tyX2, rfl, by decide, ig_2, gw_tbl 136 (by decide +kernel) rfl, tyX2_ok, nmX2, rfl, rfl⟩
theorem kf_X2_41 : zLk RX2 41 2 1 := ⟨RX2, TX2, 11, rfl, by decide, ig_2, gw_tbl 141 (by decide +kernel) rfl⟩
theorem kp_X2_41 : zLp RX2 41 2 1 .int := ⟨RX2, TX2, 11, tyX2, rfl, by decide, ig_2, gw_tbl 141 (by decide +kernel) rfl, tyX2_ok, nmX2, rfl, rfl⟩
theorem kf_X2_44 : zLk RX2 44 2 2 := ⟨RX2, TX2, 11, rfl, by decide, ig_2, gw_tbl 145 (by decide +kernel) rfl⟩
theorem kp_X2_44 : zLp RX2 44 2 2 .int := ⟨RX2, TX2, 11, tyX2, rfl, by decide, ig_2, gw_tbl 145 (by decide +kernel) rfl, tyX2_ok, nmX2, rfl, rfl⟩
theorem kf_X2_47 : zLk RX2 47 2 3 := ⟨RX2, TX2, 11, rfl, by decide, ig_2, gw_tbl 149 (by decide +kernel) rfl⟩
theorem kp_X2_47 : zLp RX2 47 2 3 .int := ⟨RX2, TX2, 11, tyX2, rfl, by decide, ig_2, gw_tbl 149 (by decide +kernel) rfl, tyX2_ok, nmX2, rfl, rfl⟩
theorem kf_X2_60 : zLk RX2 60 7 5 := ⟨RX7, TX7, 8, rfl, by decide, ig_7, gw_tbl 109 (by decide +kernel) rfl⟩
theorem kf_X2_63 : zLk RX2 63 7 6 := ⟨RX7, TX7, 8, rfl, by decide, ig_7, gw_tbl 114 (by decide +kernel) rfl⟩
theorem kf_X3_10 : zLk RX3 10 3 1 := ⟨RX3, TX3, 3, rfl, by decide, ig_3, gw_tbl 298 (by decide +kernel) rfl⟩
theorem kf_X3_19 : zLk RX3 19 3 2 := ⟨RX3, TX3, 3, rfl, by decide, ig_3, gw_tbl 300 (by decide +kernel) rfl⟩
theorem kf_X3_23 : zLk RX3 23 3 0 := ⟨RX3, TX3, 3, rfl, by decide, ig_3, gw_tbl 296 (by decide +kernel) rfl⟩
theorem kp_X3_23 : zLp RX3 23 3 0 .boolean := ⟨RX3, TX3, 3, tyX3, rfl, by decide, ig_3, gw_tbl 296 (by decide +kernel) rfl, tyX3_ok, nmX3, rfl, rfl⟩
theorem kf_X4_11 : zLk RX4 11 4 2 := ⟨RX4, TX4, 3, rfl, by decide, ig_4, gw_tbl 277 (by decide +kernel) rfl⟩
theorem kf_X4_18 : zLk RX4 18 4 0 := ⟨RX4, TX4, 3, rfl, by decide, ig_4, gw_tbl 274 (by decide +kernel) rfl⟩
theorem kp_X4_18 : zLp RX4 18 4 0 .int := ⟨RX4, TX4, 3, tyX4, rfl, by decide, ig_4, gw_tbl 274 (by decide +kernel) rfl, tyX4_ok, nmX4, rfl, rfl⟩
theorem kf_X4_22 : zLk RX4 22 4 1 := ⟨RX4, TX4, 3, rfl, by decide, ig_4, gw_tbl 276 (by decide +kernel) rfl⟩
theorem kp_X4_22 : zLp RX4 22 4 1 .int := ⟨RX4, TX4, 3, tyX4, rfl, by decide, ig_4, gw_tbl 276 (by decide +kernel) rfl, tyX4_ok, nmX4, rfl, rfl⟩
theorem kf_X5_9 : zLk RX5 9 5 2 := ⟨RX5, TX5, 7, rfl, by decide, ig_5, gw_tbl 54 (by decide +kernel) rfl⟩
theorem kf_X5_15 : zLk RX5 15 5 3 := ⟨RX5, TX5, 7, rfl, by decide, ig_5, gw_tbl 55 (by decide +kernel) rfl⟩
theorem kf_X5_19 : zLk RX5 19 5 4 := ⟨RX5, TX5, 7, rfl, by decide, ig_5, gw_tbl 56 (by decide +kernel) rfl⟩
theorem kf_X5_24 : zLk RX5 24 5 5 := ⟨RX5, TX5, 7, rfl, by decide, ig_5, gw_tbl 57 (by decide +kernel) rfl⟩
theorem kf_X5_32 : zLk RX5 32 5 6 := ⟨RX5, TX5, 7, rfl, by decide, ig_5, gw_tbl 58 (by decide +kernel) rfl⟩
theorem kf_X5_36 : zLk RX5 36 5 0 := ⟨RX5, TX5, 7, rfl, by decide, ig_5, gw_tbl 50 (by decide +kernel) rfl⟩
theorem kp_X5_36 : zLp RX5 36 5 0 .int := ⟨RX5, TX5, 7, tyX5, rfl, by decide, ig_5, gw_tbl 50 (by decide +kernel) rfl, tyX5_ok, nmX5, rfl, rfl⟩
theorem kf_X5_40 : zLk RX5 40 5 1 := ⟨RX5, TX5, 7, rfl, by decide, ig_5, gw_tbl 52 (by decide +kernel) rfl⟩
theorem kp_X5_40 : zLp RX5 40 5 1 .int := ⟨RX5, TX5, 7, tyX5, rfl, by decide, ig_5, gw_tbl 52 (by decide +kernel) rfl, tyX5_ok, nmX5, rfl, rfl⟩
theorem kf_X6_12 : zLk RX6 12 6 0 := ⟨RX6, TX6, 6, rfl, by decide, ig_6, gw_tbl 194 (by decide +kernel) rfl⟩
theorem kf_X6_21 : zLk RX6 21 6 1 := ⟨RX6, TX6, 6, rfl, by decide, ig_6, gw_tbl 196 (by decide +kernel) rfl⟩
theorem kf_X6_25 : zLk RX6 25 6 4 := ⟨RX6, TX6, 6, rfl, by decide, ig_6, gw_tbl 200 (by decide +kernel) rfl⟩
theorem kf_X6_29 : zLk RX6 29 6 5 := ⟨RX6, TX6, 6, rfl, by decide, ig_6, gw_tbl 201 (by decide +kernel) rfl⟩
theorem kf_X6_32 : zLk RX6 32 6 2 := ⟨RX6, TX6, 6, rfl, by decide, ig_6, gw_tbl 198 (by decide +kernel) rfl⟩
theorem kp_X6_32 : zLp RX6 32 6 2 .int := ⟨RX6, TX6, 6, tyX6, rfl, by decide, ig_6, gw_tbl 198 (by decide +kernel) rfl, tyX6_ok, nmX6, rfl, rfl⟩
theorem kf_X6_88 : zLk RX6 88 2 0 := ⟨RX2, TX2, 11, rfl, by decide, ig_2, gw_tbl 138 (by decide +kernel) rfl⟩
theorem kp_X6_88 : zLp RX6 88 2 0 .int := ⟨RX2, TX2, 11, tyX2, rfl, by decide, ig_2, gw_tbl 138 (by decide +kernel) rfl, tyX2_ok, nmX2, rfl, rfl⟩
theorem kf_X6_105 : zLk RX6 105 2 4 := ⟨RX2, TX2, 11, rfl, by decide, ig_2, gw_tbl 154 (by decide +kernel) rfl⟩
theorem kf_X6_116 : zLk RX6 116 2 5 := ⟨RX2, TX2, 11, rfl, by decide, ig_2, gw_tbl 157 (by decide +kernel) rfl⟩
theorem kf_X6_123 : zLk RX6 123 2 1 := ⟨RX2, TX2, 11, rfl, by decide, ig_2, gw_tbl 143 (by decide +kernel) rfl⟩
theorem kp_X6_123 : zLp RX6 123 2 1 .int := ⟨RX2, TX2, 11, tyX2, rfl, by decide, ig_2, gw_tbl 143 (by decide +kernel) rfl, tyX2_ok, nmX2, rfl, rfl⟩
theorem kf_X6_126 : zLk RX6 126 2 6 := ⟨RX2, TX2, 11, rfl, by decide, ig_2, gw_tbl 160 (by decide +kernel) rfl⟩
theorem kf_X6_129 : zLk RX6 129 2 2 := ⟨RX2, TX2, 11, rfl, by decide, ig_2, gw_tbl 147 (by decide +kernel) rfl⟩
theorem kp_X6_129 : zLp RX6 129 2 2 .int := ⟨RX2, TX2, 11, tyX2, rfl, by decide, ig_2, gw_tbl 147 (by decide +kernel) rfl, tyX2_ok, nmX2, rfl, rfl⟩
theorem kf_X6_132 : zLk RX6 132 2 7 := ⟨RX2, TX2, 11, rfl, by decide, ig_2, gw_tbl 164 (by decide +kernel) rfl⟩
theorem kf_X6_139 : zLk RX6 139 7 0 := ⟨RX7, TX7, 8, rfl, by decide, ig_7, gw_tbl 92 (by decide +kernel) rfl⟩
theorem kp_X6_139 : zLp RX6 139 7 0 .int := ⟨RX7, TX7, 8, tyX7, rfl, by decide, ig_7, gw_tbl 92 (by decide +kernel) rfl, tyX7_ok, nmX7, rfl, rfl⟩
theorem kf_X6_147 : zLk RX6 147 7 1 := ⟨RX7, TX7, 8, rfl, by decide, ig_7, gw_tbl 97 (by decide +kernel) rfl⟩
theorem kp_X6_147 : zLp RX6 147 7 1 .int := ⟨RX7, TX7, 8, tyX7, rfl, by decide, ig_7, gw_tbl 97 (by decide +kernel) rfl, tyX7_ok, nmX7, rfl, rfl⟩
theorem kf_X6_153 : zLk RX6 153 7 2 := ⟨RX7, TX7, 8, rfl, by decide, ig_7, gw_tbl 100 (by decide +kernel) rfl⟩
theorem kp_X6_153 : zLp RX6 153 7 2 .int := ⟨RX7, TX7, 8, tyX7, rfl, by decide, ig_7, gw_tbl 100 (by decide +kernel) rfl, tyX7_ok, nmX7, rfl, rfl⟩
theorem kf_X6_158 : zLk RX6 158 7 3 := ⟨RX7, TX7, 8, rfl, by decide, ig_7, gw_tbl 103 (by decide +kernel) rfl⟩
theorem kp_X6_158 : zLp RX6 158 7 3 .int := ⟨RX7, TX7, 8, tyX7, rfl, by decide, ig_7, gw_tbl 103 (by decide +kernel) rfl, tyX7_ok, nmX7, rfl, rfl⟩
theorem kf_X6_164 : zLk RX6 164 7 4 := ⟨RX7, TX7, 8, rfl, by decide, ig_7, gw_tbl 106 (by decide +kernel) rfl⟩
theorem kp_X6_164 : zLp RX6 164 7 4 .int := ⟨RX7, TX7, 8, tyX7, rfl, by decide, ig_7, gw_tbl 106 (by decide +kernel) rfl, tyX7_ok, nmX7, rfl, rfl⟩
theorem kf_X6_174 : zLk RX6 174 7 5 := ⟨RX7, TX7, 8, rfl, by decide, ig_7, gw_tbl 108 (by decide +kernel) rfl⟩
theorem kp_X6_174 : zLp RX6 174 7 5 .int := ⟨RX7, TX7, 8, tyX7, rfl, by decide, ig_7, gw_tbl 108 (by decide +kernel) rfl, tyX7_ok, nmX7, rfl, rfl⟩
theorem kf_X6_180 : zLk RX6 180 7 6 := ⟨RX7, TX7, 8, rfl, by decide, ig_7, gw_tbl 113 (by decide +kernel) rfl⟩
theorem kp_X6_180 : zLp RX6 180 7 6 .int := ⟨RX7, TX7, 8, tyX7, rfl, by decide, ig_7, gw_tbl 113 (by decide +kernel) rfl, tyX7_ok, nmX7, rfl, rfl⟩
theorem kf_X6_183 : zLk RX6 183 7 7 := ⟨RX7, TX7, 8, rfl, by decide, ig_7, gw_tbl 117 (by decide +kernel) rfl⟩
theorem kp_X6_183 : zLp RX6 183 7 7 .int := ⟨RX7, TX7, 8, tyX7, rfl, by decide, ig_7, gw_tbl 117 (by decide +kernel) rfl, tyX7_ok, nmX7, rfl, rfl⟩
theorem kf_X6_189 : zLk RX6 189 2 3 := ⟨RX2, TX2, 11, rfl, by decide, ig_2, gw_tbl 150 (by decide +kernel) rfl⟩
theorem kp_X6_189 : zLp RX6 189 2 3 .int := ⟨RX2, TX2, 11, tyX2, rfl, by decide, ig_2, gw_tbl 150 (by decide +kernel) rfl, tyX2_ok, nmX2, rfl, rfl⟩
theorem kf_X6_192 : zLk RX6 192 2 8 := ⟨RX2, TX2, 11, rfl, by decide, ig_2, gw_tbl 166 (by decide +kernel) rfl⟩
theorem kf_X6_198 : zLk RX6 198 2 9 := ⟨RX2, TX2, 11, rfl, by decide, ig_2, gw_tbl 168 (by decide +kernel) rfl⟩
theorem kf_X6_204 : zLk RX6 204 2 10 := ⟨RX2, TX2, 11, rfl, by decide, ig_2, gw_tbl 170 (by decide +kernel) rfl⟩
theorem kf_X6_207 : zLk RX6 207 5 1 := ⟨RX5, TX5, 7, rfl, by decide, ig_5, gw_tbl 53 (by decide +kernel) rfl⟩
theorem kp_X6_207 : zLp RX6 207 5 1 .int := ⟨RX5, TX5, 7, tyX5, rfl, by decide, ig_5, gw_tbl 53 (by decide +kernel) rfl, tyX5_ok, nmX5, rfl, rfl⟩
theorem kf_X6_210 : zLk RX6 210 6 3 := ⟨RX6, TX6, 6, rfl, by decide, ig_6, gw_tbl 199 (by decide +kernel) rfl⟩
theorem kp_X6_210 : zLp RX6 210 6 3 .int := ⟨RX6, TX6, 6, tyX6, rfl, by decide, ig_6, gw_tbl 199 (by decide +kernel) rfl, tyX6_ok, nmX6, rfl, rfl⟩
theorem kf_X7_7 : zLk RX7 7 7 0 := ⟨RX7, TX7, 8, rfl, by decide, ig_7, gw_tbl 90 (by decide +kernel) rfl⟩
theorem kp_X7_7 : zLp RX7 7 7 0 .int := ⟨RX7, TX7, 8, tyX7, rfl, by decide, ig_7, gw_tbl 90 (by decide +kernel) rfl, tyX7_ok, nmX7, rfl, rfl⟩
theorem kf_X7_13 : zLk RX7 13 7 1 := ⟨RX7, TX7, 8, rfl, by decide, ig_7, gw_tbl 94 (by decide +kernel) rfl⟩
theorem kp_X7_13 : zLp RX7 13 7 1 .int := ⟨RX7, TX7, 8, tyX7, rfl, by decide, ig_7, gw_tbl 94 (by decide +kernel) rfl, tyX7_ok, nmX7, rfl, rfl⟩
theorem kf_X7_16 : zLk RX7 16 7 2 := ⟨RX7, TX7, 8, rfl, by decide, ig_7, gw_tbl 98 (by decide +kernel) rfl⟩
theorem kp_X7_16 : zLp RX7 16 7 2 .int := ⟨RX7, TX7, 8, tyX7, rfl, by decide, ig_7, gw_tbl 98 (by decide +kernel) rfl, tyX7_ok, nmX7, rfl, rfl⟩
theorem kf_X7_19 : zLk RX7 19 7 3 := ⟨RX7, TX7, 8, rfl, by decide, ig_7, gw_tbl 101 (by decide +kernel) rfl⟩
theorem kp_X7_19 : zLp RX7 19 7 3 .int := ⟨RX7, TX7, 8, tyX7, rfl, by decide, ig_7, gw_tbl 101 (by decide +kernel) rfl, tyX7_ok, nmX7, rfl, rfl⟩
theorem kf_X7_22 : zLk RX7 22 7 4 := ⟨RX7, TX7, 8, rfl, by decide, ig_7, gw_tbl 104 (by decide +kernel) rfl⟩
theorem kp_X7_22 : zLp RX7 22 7 4 .int := ⟨RX7, TX7, 8, tyX7, rfl, by decide, ig_7, gw_tbl 104 (by decide +kernel) rfl, tyX7_ok, nmX7, rfl, rfl⟩
theorem kf_X7_25 : zLk RX7 25 7 5 := ⟨RX7, TX7, 8, rfl, by decide, ig_7, gw_tbl 107 (by decide +kernel) rfl⟩
theorem kp_X7_25 : zLp RX7 25 7 5 .int := ⟨RX7, TX7, 8, tyX7, rfl, by decide, ig_7, gw_tbl 107 (by decide +kernel) rfl, tyX7_ok, nmX7, rfl, rfl⟩
theorem kf_X7_28 : zLk RX7 28 7 6 := ⟨RX7, TX7, 8, rfl, by decide, ig_7, gw_tbl 110 (by decide +kernel) rfl⟩
theorem kp_X7_28 : zLp RX7 28 7 6 .int := ⟨RX7, TX7, 8, tyX7, rfl, by decide, ig_7, gw_tbl 110 (by decide +kernel) rfl, tyX7_ok, nmX7, rfl, rfl⟩
theorem kf_X7_31 : zLk RX7 31 7 7 := ⟨RX7, TX7, 8, rfl, by decide, ig_7, gw_tbl 115 (by decide +kernel) rfl⟩
theorem kp_X7_31 : zLp RX7 31 7 7 .int := ⟨RX7, TX7, 8, tyX7, rfl, by decide, ig_7, gw_tbl 115 (by decide +kernel) rfl, tyX7_ok, nmX7, rfl, rfl⟩
theorem kf_X9_10 : zLk RX9 10 9 5 := ⟨RX9, TX9, 6, rfl, by decide, ig_9, gw_tbl 356 (by decide +kernel) rfl⟩
theorem kf_X9_16 : zLk RX9 16 9 4 := ⟨RX9, TX9, 6, rfl, by decide, ig_9, gw_tbl 355 (by decide +kernel) rfl⟩
theorem kp_X9_16 : zLp RX9 16 9 4 .long := ⟨RX9, TX9, 6, tyX9, rfl, by decide, ig_9, gw_tbl 355 (by decide +kernel) rfl, tyX9_ok, nmX9, rfl, rfl⟩
theorem kf_X9_20 : zLk RX9 20 9 0 := ⟨RX9, TX9, 6, rfl, by decide, ig_9, gw_tbl 347 (by decide +kernel) rfl⟩
theorem kp_X9_20 : zLp RX9 20 9 0 .int := ⟨RX9, TX9, 6, tyX9, rfl, by decide, ig_9, gw_tbl 347 (by decide +kernel) rfl, tyX9_ok, nmX9, rfl, rfl⟩
theorem kf_X9_24 : zLk RX9 24 9 1 := ⟨RX9, TX9, 6, rfl, by decide, ig_9, gw_tbl 349 (by decide +kernel) rfl⟩
theorem kp_X9_24 : zLp RX9 24 9 1 .int := ⟨RX9, TX9, 6, tyX9, rfl, by decide, ig_9, gw_tbl 349 (by decide +kernel) rfl, tyX9_ok, nmX9, rfl, rfl⟩
theorem kf_X9_27 : zLk RX9 27 9 2 := ⟨RX9, TX9, 6, rfl, by decide, ig_9, gw_tbl 351 (by decide +kernel) rfl⟩
theorem kp_X9_27 : zLp RX9 27 9 2 .int := ⟨RX9, TX9, 6, tyX9, rfl, by decide, ig_9, gw_tbl 351 (by decide +kernel) rfl, tyX9_ok, nmX9, rfl, rfl⟩
theorem kf_X9_30 : zLk RX9 30 9 3 := ⟨RX9, TX9, 6, rfl, by decide, ig_9, gw_tbl 353 (by decide +kernel) rfl⟩
theorem kp_X9_30 : zLp RX9 30 9 3 .int := ⟨RX9, TX9, 6, tyX9, rfl, by decide, ig_9, gw_tbl 353 (by decide +kernel) rfl, tyX9_ok, nmX9, rfl, rfl⟩
theorem kf_X9_37 : zLk RX9 37 1 2 := ⟨RX1, TX1, 9, rfl, by decide, ig_1, gw_tbl 229 (by decide +kernel) rfl⟩
theorem kf_X9_55 : zLk RX9 55 1 1 := ⟨RX1, TX1, 9, rfl, by decide, ig_1, gw_tbl 226 (by decide +kernel) rfl⟩
theorem kf_X9_65 : zLk RX9 65 2 0 := ⟨RX2, TX2, 11, rfl, by decide, ig_2, gw_tbl 137 (by decide +kernel) rfl⟩
theorem kf_X11_7 : zLk RX11 7 11 2 := ⟨RX11, TX11, 55, rfl, by decide, ig_11, gw_tbl 1092 (by decide +kernel) rfl⟩
theorem kf_X11_13 : zLk RX11 13 11 10 := ⟨RX11, TX11, 55, rfl, by decide, ig_11, gw_tbl 1100 (by decide +kernel) rfl⟩
theorem kf_X11_16 : zLk RX11 16 11 11 := ⟨RX11, TX11, 55, rfl, by decide, ig_11, gw_tbl 1101 (by decide +kernel) rfl⟩
theorem kf_X11_19 : zLk RX11 19 11 12 := ⟨RX11, TX11, 55, rfl, by decide, ig_11, gw_tbl 1102 (by decide +kernel) rfl⟩
theorem kf_X11_22 : zLk RX11 22 11 13 := ⟨RX11, TX11, 55, rfl, by decide, ig_11, gw_tbl 1103 (by decide +kernel) rfl⟩
theorem kf_X11_25 : zLk RX11 25 11 14 := ⟨RX11, TX11, 55, rfl, by decide, ig_11, gw_tbl 1104 (by decide +kernel) rfl⟩
theorem kf_X11_29 : zLk RX11 29 11 15 := ⟨RX11, TX11, 55, rfl, by decide, ig_11, gw_tbl 1105 (by decide +kernel) rfl⟩
theorem kf_X11_32 : zLk RX11 32 11 16 := ⟨RX11, TX11, 55, rfl, by decide, ig_11, gw_tbl 1106 (by decide +kernel) rfl⟩
theorem kf_X11_35 : zLk RX11 35 11 17 := ⟨RX11, TX11, 55, rfl, by decide, ig_11, gw_tbl 1107 (by decide +kernel) rfl⟩
theorem kf_X11_38 : zLk RX11 38 11 18 := ⟨RX11, TX11, 55, rfl, by decide, ig_11, gw_tbl 1108 (by decide +kernel) rfl⟩
theorem kf_X11_41 : zLk RX11 41 11 19 := ⟨RX11, TX11, 55, rfl, by decide, ig_11, gw_tbl 1109 (by decide +kernel) rfl⟩
theorem kf_X11_44 : zLk RX11 44 11 20 := ⟨RX11, TX11, 55, rfl, by decide, ig_11, gw_tbl 1110 (by decide +kernel) rfl⟩
theorem kf_X11_47 : zLk RX11 47 11 21 := ⟨RX11, TX11, 55, rfl, by decide, ig_11, gw_tbl 1111 (by decide +kernel) rfl⟩
theorem kf_X11_50 : zLk RX11 50 11 22 := ⟨RX11, TX11, 55, rfl, by decide, ig_11, gw_tbl 1112 (by decide +kernel) rfl⟩
theorem kf_X11_53 : zLk RX11 53 11 23 := ⟨RX11, TX11, 55, rfl, by decide, ig_11, gw_tbl 1113 (by decide +kernel) rfl⟩
theorem kf_X11_56 : zLk RX11 56 11 24 := ⟨RX11, TX11, 55, rfl, by decide, ig_11, gw_tbl 1114 (by decide +kernel) rfl⟩
theorem kf_X11_59 : zLk RX11 59 11 25 := ⟨RX11, TX11, 55, rfl, by decide, ig_11, gw_tbl 1115 (by decide +kernel) rfl⟩
theorem kf_X11_62 : zLk RX11 62 11 26 := ⟨RX11, TX11, 55, rfl, by decide, ig_11, gw_tbl 1116 (by decide +kernel) rfl⟩
theorem kf_X11_65 : zLk RX11 65 11 27 := ⟨RX11, TX11, 55, rfl, by decide, ig_11, gw_tbl 1117 (by decide +kernel) rfl⟩
theorem kf_X11_68 : zLk RX11 68 11 28 := ⟨RX11, TX11, 55, rfl, by decide, ig_11, gw_tbl 1118 (by decide +kernel) rfl⟩
theorem kf_X11_71 : zLk RX11 71 11 29 := ⟨RX11, TX11, 55, rfl, by decide, ig_11, gw_tbl 1119 (by decide +kernel) rfl⟩
theorem kf_X11_74 : zLk RX11 74 11 30 := ⟨RX11, TX11, 55, rfl, by decide, ig_11, gw_tbl 1120 (by decide +kernel) rfl⟩
theorem kf_X11_77 : zLk RX11 77 11 31 := ⟨RX11, TX11, 55, rfl, by decide, ig_11, gw_tbl 1121 (by decide +kernel) rfl⟩
theorem kf_X11_80 : zLk RX11 80 11 33 := ⟨RX11, TX11, 55, rfl, by decide, ig_11, gw_tbl 1123 (by decide +kernel) rfl⟩
theorem kf_X11_83 : zLk RX11 83 11 34 := ⟨RX11, TX11, 55, rfl, by decide, ig_11, gw_tbl 1124 (by decide +kernel) rfl⟩
theorem kf_X11_87 : zLk RX11 87 11 35 := ⟨RX11, TX11, 55, rfl, by decide, ig_11, gw_tbl 1125 (by decide +kernel) rfl⟩
theorem kf_X11_90 : zLk RX11 90 11 36 := ⟨RX11, TX11, 55, rfl, by decide, ig_11, gw_tbl 1126 (by decide +kernel) rfl⟩
theorem kf_X11_93 : zLk RX11 93 11 37 := ⟨RX11, TX11, 55, rfl, by decide, ig_11, gw_tbl 1127 (by decide +kernel) rfl⟩
theorem kf_X11_96 : zLk RX11 96 11 38 := ⟨RX11, TX11, 55, rfl, by decide, ig_11, gw_tbl 1128 (by decide +kernel) rfl⟩
theorem kf_X11_99 : zLk RX11 99 11 39 := ⟨RX11, TX11, 55, rfl, by decide, ig_11, gw_tbl 1129 (by decide +kernel) rfl⟩
theorem kf_X11_102 : zLk RX11 102 11 40 := ⟨RX11, TX11, 55, rfl, by decide, ig_11, gw_tbl 1130 (by decide +kernel) rfl⟩
theorem kf_X11_105 : zLk RX11 105 11 41 := ⟨RX11, TX11, 55, rfl, by decide, ig_11, gw_tbl 1131 (by decide +kernel) rfl⟩
theorem kf_X11_108 : zLk RX11 108 11 42 := ⟨RX11, TX11, 55, rfl, by decide, ig_11, gw_tbl 1132 (by decide +kernel) rfl⟩
theorem kf_X11_111 : zLk RX11 111 11 43 := ⟨RX11, TX11, 55, rfl, by decide, ig_11, gw_tbl 1133 (by decide +kernel) rfl⟩
theorem kf_X11_114 : zLk RX11 114 11 44 := ⟨RX11, TX11, 55, rfl, by decide, ig_11, gw_tbl 1134 (by decide +kernel) rfl⟩
theorem kf_X11_117 : zLk RX11 117 11 46 := ⟨RX11, TX11, 55, rfl, by decide, ig_11, gw_tbl 1136 (by decide +kernel) rfl⟩
theorem kf_X11_120 : zLk RX11 120 11 47 := ⟨RX11, TX11, 55, rfl, by decide, ig_11, gw_tbl 1137 (by decide +kernel) rfl⟩
theorem kf_X11_123 : zLk RX11 123 11 48 := ⟨RX11, TX11, 55, rfl, by decide, ig_11, gw_tbl 1138 (by decide +kernel) rfl⟩
theorem kf_X11_126 : zLk RX11 126 11 49 := ⟨RX11, TX11, 55, rfl, by decide, ig_11, gw_tbl 1139 (by decide +kernel) rfl⟩
theorem kf_X11_129 : zLk RX11 129 11 54 := ⟨RX11, TX11, 55, rfl, by decide, ig_11, gw_tbl 1144 (by decide +kernel) rfl⟩
theorem kf_X11_132 : zLk RX11 132 11 0 := ⟨RX11, TX11, 55, rfl, by decide, ig_11, gw_tbl 1090 (by decide +kernel) rfl⟩
theorem kp_X11_132 : zLp RX11 132 11 0 .int := ⟨RX11, TX11, 55, tyX11, rfl, by decide, ig_11, gw_tbl 1090 (by decide +kernel) rfl, tyX11_ok, nmX11, rfl, rfl⟩
theorem kf_X11_138 : zLk RX11 138 11 1 := ⟨RX11, TX11, 55, rfl, by decide, ig_11, gw_tbl 1091 (by decide +kernel) rfl⟩
theorem kp_X11_138 : zLp RX11 138 11 1 .int := ⟨RX11, TX11, 55, tyX11, rfl, by decide, ig_11, gw_tbl 1091 (by decide +kernel) rfl, tyX11_ok, nmX11, rfl, rfl⟩
theorem kf_X11_141 : zLk RX11 141 11 3 := ⟨RX11, TX11, 55, rfl, by decide, ig_11, gw_tbl 1093 (by decide +kernel) rfl⟩
theorem kp_X11_141 : zLp RX11 141 11 3 .int := ⟨RX11, TX11, 55, tyX11, rfl, by decide, ig_11, gw_tbl 1093 (by decide +kernel) rfl, tyX11_ok, nmX11, rfl, rfl⟩
theorem kf_X11_144 : zLk RX11 144 11 4 := ⟨RX11, TX11, 55, rfl, by decide, ig_11, gw_tbl 1094 (by decide +kernel) rfl⟩
theorem kp_X11_144 : zLp RX11 144 11 4 .int := ⟨RX11, TX11, 55, tyX11, rfl, by decide, ig_11, gw_tbl 1094 (by decide +kernel) rfl, tyX11_ok, nmX11, rfl, rfl⟩
theorem kf_X11_147 : zLk RX11 147 11 5 := ⟨RX11, TX11, 55, rfl, by decide, ig_11, gw_tbl 1095 (by decide +kernel) rfl⟩
theorem kp_X11_147 : zLp RX11 147 11 5 .int := ⟨RX11, TX11, 55, tyX11, rfl, by decide, ig_11, gw_tbl 1095 (by decide +kernel) rfl, tyX11_ok, nmX11, rfl, rfl⟩
theorem kf_X11_150 : zLk RX11 150 11 7 := ⟨RX11, TX11, 55, rfl, by decide, ig_11, gw_tbl 1097 (by decide +kernel) rfl⟩
theorem kp_X11_150 : zLp RX11 150 11 7 .long := ⟨RX11, TX11, 55, tyX11, rfl, by decide, ig_11, gw_tbl 1097 (by decide +kernel) rfl, tyX11_ok, nmX11, rfl, rfl⟩
theorem kf_X11_154 : zLk RX11 154 11 8 := ⟨RX11, TX11, 55, rfl, by decide, ig_11, gw_tbl 1098 (by decide +kernel) rfl⟩
theorem kp_X11_154 : zLp RX11 154 11 8 .int := ⟨RX11, TX11, 55, tyX11, rfl, by decide, ig_11, gw_tbl 1098 (by decide +kernel) rfl, tyX11_ok, nmX11, rfl, rfl⟩
theorem kf_X11_157 : zLk RX11 157 11 6 := ⟨RX11, TX11, 55, rfl, by decide, ig_11, gw_tbl 1096 (by decide +kernel) rfl⟩
theorem kp_X11_157 : zLp RX11 157 11 6 .int := ⟨RX11, TX11, 55, tyX11, rfl, by decide, ig_11, gw_tbl 1096 (by decide +kernel) rfl, tyX11_ok, nmX11, rfl, rfl⟩
theorem kf_X11_168 : zLk RX11 168 11 9 := ⟨RX11, TX11, 55, rfl, by decide, ig_11, gw_tbl 1099 (by decide +kernel) rfl⟩
theorem kp_X11_168 : zLp RX11 168 11 9 .int := ⟨RX11, TX11, 55, tyX11, rfl, by decide, ig_11, gw_tbl 1099 (by decide +kernel) rfl, tyX11_ok, nmX11, rfl, rfl⟩
theorem kf_X11_171 : zLk RX11 171 11 32 := ⟨RX11, TX11, 55, rfl, by decide, ig_11, gw_tbl 1122 (by decide +kernel) rfl⟩
theorem kp_X11_171 : zLp RX11 171 11 32 .int := ⟨RX11, TX11, 55, tyX11, rfl, by decide, ig_11, gw_tbl 1122 (by decide +kernel) rfl, tyX11_ok, nmX11, rfl, rfl⟩
theorem kf_X11_261 : zLk RX11 261 11 45 := ⟨RX11, TX11, 55, rfl, by decide, ig_11, gw_tbl 1135 (by decide +kernel) rfl⟩
theorem kp_X11_261 : zLp RX11 261 11 45 .int := ⟨RX11, TX11, 55, tyX11, rfl, by decide, ig_11, gw_tbl 1135 (by decide +kernel) rfl, tyX11_ok, nmX11, rfl, rfl⟩
theorem kf_X11_319 : zLk RX11 319 11 50 := ⟨RX11, TX11, 55, rfl, by decide, ig_11, gw_tbl 1140 (by decide +kernel) rfl⟩
theorem kp_X11_319 : zLp RX11 319 11 50 .int := ⟨RX11, TX11, 55, tyX11, rfl, by decide, ig_11, gw_tbl 1140 (by decide +kernel) rfl, tyX11_ok, nmX11, rfl, rfl⟩
theorem kf_X11_337 : zLk RX11 337 11 51 := ⟨RX11, TX11, 55, rfl, by decide, ig_11, gw_tbl 1141 (by decide +kernel) rfl⟩
theorem kp_X11_337 : zLp RX11 337 11 51 .int := ⟨RX11, TX11, 55, tyX11, rfl, by decide, ig_11, gw_tbl 1141 (by decide +kernel) rfl, tyX11_ok, nmX11, rfl, rfl⟩
theorem kf_X11_377 : zLk RX11 377 11 52 := ⟨RX11, TX11, 55, rfl, by decide, ig_11, gw_tbl 1142 (by decide +kernel) rfl⟩
theorem kp_X11_377 : zLp RX11 377 11 52 .int := ⟨RX11, TX11, 55, tyX11, rfl, by decide, ig_11, gw_tbl 1142 (by decide +kernel) rfl, tyX11_ok, nmX11, rfl, rfl⟩
theorem kf_X11_414 : zLk RX11 414 11 53 := ⟨RX11, TX11, 55, rfl, by decide, ig_11, gw_tbl 1143 (by decide +kernel) rfl⟩
theorem kp_X11_414 : zLp RX11 414 11 53 .long := ⟨RX11, TX11, 55, tyX11, rfl, by decide, ig_11, gw_tbl 1143 (by decide +kernel) rfl, tyX11_ok, nmX11, rfl, rfl⟩
theorem gi_RX10 : Cond.initialized RX10 ∈ gw := gw_tbl 1 (by decide +kernel) rfl
theorem gi_RX0 : Cond.initialized RX0 ∈ gw := gw_tbl 11 (by decide +kernel) rfl
theorem gi_RX1 : Cond.initialized RX1 ∈ gw := gw_tbl 8 (by decide +kernel) rfl
theorem gi_RX2 : Cond.initialized RX2 ∈ gw := gw_tbl 6 (by decide +kernel) rfl
theorem gi_RX3 : Cond.initialized RX3 ∈ gw := gw_tbl 10 (by decide +kernel) rfl
theorem gi_RX4 : Cond.initialized RX4 ∈ gw := gw_tbl 9 (by decide +kernel) rfl
theorem gi_RX5 : Cond.initialized RX5 ∈ gw := gw_tbl 3 (by decide +kernel) rfl
theorem gi_RX6 : Cond.initialized RX6 ∈ gw := gw_tbl 2 (by decide +kernel) rfl
theorem gi_RX7 : Cond.initialized RX7 ∈ gw := gw_tbl 7 (by decide +kernel) rfl
theorem gi_RX9 : Cond.initialized RX9 ∈ gw := gw_tbl 12 (by decide +kernel) rfl
theorem gi_RL : Cond.initialized RL ∈ gw := gw_tbl 0 (by decide +kernel) rfl
theorem gi_RX11 : Cond.initialized RX11 ∈ gw := gw_tbl 13 (by decide +kernel) rfl
theorem gi_RJ6 : Cond.initialized RJ6 ∈ gw := gw_tbl 20 (by decide +kernel) rfl
theorem gi_RJ9 : Cond.initialized RJ9 ∈ gw := gw_tbl 18 (by decide +kernel) rfl
theorem gi_RJ0 : Cond.initialized RJ0 ∈ gw := gw_tbl 14 (by decide +kernel) rfl
set_option maxRecDepth 100000 in
theorem gc_X5_addBytes : Cond.code yX5_addBytes cX5_addBytes 5 none ∈ gw := gw_tbl 399 rfl rfl
theorem gn_X5_addBytes : (yX5_addBytes.cls ≠ "java/lang/invoke/MethodHandle" ∧ yX5_addBytes.cls ≠ "java/lang/invoke/VarHandle" ∧ (parseMethodDescriptor yX5_addBytes.desc).map (fun d => d.parameters.length) = some 1) := by decide +kernel
theorem gm_X5_addBytes : Cond.instanceMethod yX5_addBytes ∈ gw := gw_tbl 397 (by decide +kernel) rfl
theorem gs_X5_addBytes : Cond.selects yX5_addBytes.cls yX5_addBytes yX5_addBytes ∈ gw := gw_tbl 398 (by decide +kernel) rfl
theorem vc_X10_62 : zCV RX10 62 yX5_addBytes cX5_addBytes 5 none 1 := ⟨gw_tbl 396 (by decide +kernel) rfl, gm_X5_addBytes, gs_X5_addBytes, gi_RX5, gc_X5_addBytes, by decide, gn_X5_addBytes⟩
set_option maxRecDepth 100000 in
theorem gc_X6_readTape : Cond.code yX6_readTape cX6_readTape 2 (some .int) ∈ gw := gw_tbl 407 rfl rfl
theorem gn_X6_readTape : (yX6_readTape.cls ≠ "java/lang/invoke/MethodHandle" ∧ yX6_readTape.cls ≠ "java/lang/invoke/VarHandle" ∧ (parseMethodDescriptor yX6_readTape.desc).map (fun d => d.parameters.length) = some 0) := by decide +kernel
theorem gm_X6_readTape : Cond.instanceMethod yX6_readTape ∈ gw := gw_tbl 405 (by decide +kernel) rfl
theorem gs_X6_readTape : Cond.selects yX6_readTape.cls yX6_readTape yX6_readTape ∈ gw := gw_tbl 406 (by decide +kernel) rfl
theorem vc_X10_72 : zCV RX10 72 yX6_readTape cX6_readTape 2 (some .int) 0 := ⟨gw_tbl 404 (by decide +kernel) rfl, gm_X6_readTape, gs_X6_readTape, gi_RX6, gc_X6_readTape, by decide, gn_X6_readTape⟩
set_option maxRecDepth 100000 in
theorem gc_X5_empty : Cond.code yX5_empty cX5_empty 1 none ∈ gw := gw_tbl 708 rfl rfl
theorem gn_X5_empty : (yX5_empty.cls ≠ "java/lang/invoke/MethodHandle" ∧ yX5_empty.cls ≠ "java/lang/invoke/VarHandle" ∧ (parseMethodDescriptor yX5_empty.desc).map (fun d => d.parameters.length) = some 0) := by decide +kernel
theorem gm_X5_empty : Cond.instanceMethod yX5_empty ∈ gw := gw_tbl 706 (by decide +kernel) rfl
theorem gs_X5_empty : Cond.selects yX5_empty.cls yX5_empty yX5_empty ∈ gw := gw_tbl 707 (by decide +kernel) rfl
theorem vc_X10_76 : zCV RX10 76 yX5_empty cX5_empty 1 none 0 := ⟨gw_tbl 705 (by decide +kernel) rfl, gm_X5_empty, gs_X5_empty, gi_RX5, gc_X5_empty, by decide, gn_X5_empty⟩
set_option maxRecDepth 100000 in
theorem gc_X2_copyFrom : Cond.code yX2_copyFrom cX2_copyFrom 3 none ∈ gw := gw_tbl 712 rfl rfl
theorem gn_X2_copyFrom : (yX2_copyFrom.cls ≠ "java/lang/invoke/MethodHandle" ∧ yX2_copyFrom.cls ≠ "java/lang/invoke/VarHandle" ∧ (parseMethodDescriptor yX2_copyFrom.desc).map (fun d => d.parameters.length) = some 1) := by decide +kernel
theorem gm_X2_copyFrom : Cond.instanceMethod yX2_copyFrom ∈ gw := gw_tbl 710 (by decide +kernel) rfl
theorem gs_X2_copyFrom : Cond.selects yX2_copyFrom.cls yX2_copyFrom yX2_copyFrom ∈ gw := gw_tbl 711 (by decide +kernel) rfl
theorem vc_X10_82 : zCV RX10 82 yX2_copyFrom cX2_copyFrom 3 none 1 := ⟨gw_tbl 709 (by decide +kernel) rfl, gm_X2_copyFrom, gs_X2_copyFrom, gi_RX2, gc_X2_copyFrom, by decide, gn_X2_copyFrom⟩
set_option maxRecDepth 100000 in
theorem gc_X1_open : Cond.code yX1_open cX1_open 3 none ∈ gw := gw_tbl 723 rfl rfl
theorem gn_X1_open : (yX1_open.cls ≠ "java/lang/invoke/MethodHandle" ∧ yX1_open.cls ≠ "java/lang/invoke/VarHandle" ∧ (parseMethodDescriptor yX1_open.desc).map (fun d => d.parameters.length) = some 1) := by decide +kernel
theorem gm_X1_open : Cond.instanceMethod yX1_open ∈ gw := gw_tbl 721 (by decide +kernel) rfl
theorem gs_X1_open : Cond.selects yX1_open.cls yX1_open yX1_open ∈ gw := gw_tbl 722 (by decide +kernel) rfl
theorem vc_X10_86 : zCV RX10 86 yX1_open cX1_open 3 none 1 := ⟨gw_tbl 720 (by decide +kernel) rfl, gm_X1_open, gs_X1_open, gi_RX1, gc_X1_open, by decide, gn_X1_open⟩
set_option maxRecDepth 100000 in
theorem gc_X4_forget : Cond.code yX4_forget cX4_forget 1 none ∈ gw := gw_tbl 727 rfl rfl
theorem gn_X4_forget : (yX4_forget.cls ≠ "java/lang/invoke/MethodHandle" ∧ yX4_forget.cls ≠ "java/lang/invoke/VarHandle" ∧ (parseMethodDescriptor yX4_forget.desc).map (fun d => d.parameters.length) = some 0) := by decide +kernel
theorem gm_X4_forget : Cond.instanceMethod yX4_forget ∈ gw := gw_tbl 725 (by decide +kernel) rfl
theorem gs_X4_forget : Cond.selects yX4_forget.cls yX4_forget yX4_forget ∈ gw := gw_tbl 726 (by decide +kernel) rfl
theorem vc_X10_89 : zCV RX10 89 yX4_forget cX4_forget 1 none 0 := ⟨gw_tbl 724 (by decide +kernel) rfl, gm_X4_forget, gs_X4_forget, gi_RX4, gc_X4_forget, by decide, gn_X4_forget⟩
set_option maxRecDepth 100000 in
theorem gc_X2_isHill : Cond.code yX2_isHill cX2_isHill 2 (some .boolean) ∈ gw := gw_tbl 736 rfl rfl
theorem gn_X2_isHill : (yX2_isHill.cls ≠ "java/lang/invoke/MethodHandle" ∧ yX2_isHill.cls ≠ "java/lang/invoke/VarHandle" ∧ (parseMethodDescriptor yX2_isHill.desc).map (fun d => d.parameters.length) = some 1) := by decide +kernel
theorem gm_X2_isHill : Cond.instanceMethod yX2_isHill ∈ gw := gw_tbl 734 (by decide +kernel) rfl
theorem gs_X2_isHill : Cond.selects yX2_isHill.cls yX2_isHill yX2_isHill ∈ gw := gw_tbl 735 (by decide +kernel) rfl
theorem vc_X10_92 : zCV RX10 92 yX2_isHill cX2_isHill 2 (some .boolean) 1 := ⟨gw_tbl 733 (by decide +kernel) rfl, gm_X2_isHill, gs_X2_isHill, gi_RX2, gc_X2_isHill, by decide, gn_X2_isHill⟩
set_option maxRecDepth 100000 in
theorem gc_X2_isPerson : Cond.code yX2_isPerson cX2_isPerson 2 (some .boolean) ∈ gw := gw_tbl 913 rfl rfl
theorem gn_X2_isPerson : (yX2_isPerson.cls ≠ "java/lang/invoke/MethodHandle" ∧ yX2_isPerson.cls ≠ "java/lang/invoke/VarHandle" ∧ (parseMethodDescriptor yX2_isPerson.desc).map (fun d => d.parameters.length) = some 1) := by decide +kernel
theorem gm_X2_isPerson : Cond.instanceMethod yX2_isPerson ∈ gw := gw_tbl 911 (by decide +kernel) rfl
theorem gs_X2_isPerson : Cond.selects yX2_isPerson.cls yX2_isPerson yX2_isPerson ∈ gw := gw_tbl 912 (by decide +kernel) rfl
theorem vc_X10_106 : zCV RX10 106 yX2_isPerson cX2_isPerson 2 (some .boolean) 1 := ⟨gw_tbl 910 (by decide +kernel) rfl, gm_X2_isPerson, gs_X2_isPerson, gi_RX2, gc_X2_isPerson, by decide, gn_X2_isPerson⟩
set_option maxRecDepth 100000 in
theorem gc_X2_isLoan : Cond.code yX2_isLoan cX2_isLoan 2 (some .boolean) ∈ gw := gw_tbl 744 rfl rfl
theorem gn_X2_isLoan : (yX2_isLoan.cls ≠ "java/lang/invoke/MethodHandle" ∧ yX2_isLoan.cls ≠ "java/lang/invoke/VarHandle" ∧ (parseMethodDescriptor yX2_isLoan.desc).map (fun d => d.parameters.length) = some 1) := by decide +kernel
theorem gm_X2_isLoan : Cond.instanceMethod yX2_isLoan ∈ gw := gw_tbl 742 (by decide +kernel) rfl
theorem gs_X2_isLoan : Cond.selects yX2_isLoan.cls yX2_isLoan yX2_isLoan ∈ gw := gw_tbl 743 (by decide +kernel) rfl
theorem vc_X10_119 : zCV RX10 119 yX2_isLoan cX2_isLoan 2 (some .boolean) 1 := ⟨gw_tbl 741 (by decide +kernel) rfl, gm_X2_isLoan, gs_X2_isLoan, gi_RX2, gc_X2_isLoan, by decide, gn_X2_isLoan⟩
set_option maxRecDepth 100000 in
theorem gc_X2_isWeather : Cond.code yX2_isWeather cX2_isWeather 2 (some .boolean) ∈ gw := gw_tbl 752 rfl rfl
theorem gn_X2_isWeather : (yX2_isWeather.cls ≠ "java/lang/invoke/MethodHandle" ∧ yX2_isWeather.cls ≠ "java/lang/invoke/VarHandle" ∧ (parseMethodDescriptor yX2_isWeather.desc).map (fun d => d.parameters.length) = some 1) := by decide +kernel
theorem gm_X2_isWeather : Cond.instanceMethod yX2_isWeather ∈ gw := gw_tbl 750 (by decide +kernel) rfl
theorem gs_X2_isWeather : Cond.selects yX2_isWeather.cls yX2_isWeather yX2_isWeather ∈ gw := gw_tbl 751 (by decide +kernel) rfl
theorem vc_X10_152 : zCV RX10 152 yX2_isWeather cX2_isWeather 2 (some .boolean) 1 := ⟨gw_tbl 749 (by decide +kernel) rfl, gm_X2_isWeather, gs_X2_isWeather, gi_RX2, gc_X2_isWeather, by decide, gn_X2_isWeather⟩
set_option maxRecDepth 100000 in
theorem gc_X4_keep : Cond.code yX4_keep cX4_keep 2 none ∈ gw := gw_tbl 756 rfl rfl
theorem gn_X4_keep : (yX4_keep.cls ≠ "java/lang/invoke/MethodHandle" ∧ yX4_keep.cls ≠ "java/lang/invoke/VarHandle" ∧ (parseMethodDescriptor yX4_keep.desc).map (fun d => d.parameters.length) = some 1) := by decide +kernel
theorem gm_X4_keep : Cond.instanceMethod yX4_keep ∈ gw := gw_tbl 754 (by decide +kernel) rfl
theorem gs_X4_keep : Cond.selects yX4_keep.cls yX4_keep yX4_keep ∈ gw := gw_tbl 755 (by decide +kernel) rfl
theorem vc_X10_155 : zCV RX10 155 yX4_keep cX4_keep 2 none 1 := ⟨gw_tbl 753 (by decide +kernel) rfl, gm_X4_keep, gs_X4_keep, gi_RX4, gc_X4_keep, by decide, gn_X4_keep⟩
set_option maxRecDepth 100000 in
theorem gc_X1_live : Cond.code yX1_live cX1_live 4 none ∈ gw := gw_tbl 766 rfl rfl
theorem gn_X1_live : (yX1_live.cls ≠ "java/lang/invoke/MethodHandle" ∧ yX1_live.cls ≠ "java/lang/invoke/VarHandle" ∧ (parseMethodDescriptor yX1_live.desc).map (fun d => d.parameters.length) = some 2) := by decide +kernel
theorem gm_X1_live : Cond.instanceMethod yX1_live ∈ gw := gw_tbl 764 (by decide +kernel) rfl
theorem gs_X1_live : Cond.selects yX1_live.cls yX1_live yX1_live ∈ gw := gw_tbl 765 (by decide +kernel) rfl
theorem vc_X10_159 : zCV RX10 159 yX1_live cX1_live 4 none 2 := ⟨gw_tbl 763 (by decide +kernel) rfl, gm_X1_live, gs_X1_live, gi_RX1, gc_X1_live, by decide, gn_X1_live⟩
set_option maxRecDepth 100000 in
theorem gc_X1_loansAt : Cond.code yX1_loansAt cX1_loansAt 5 (some .int) ∈ gw := gw_tbl 815 rfl rfl
theorem gn_X1_loansAt : (yX1_loansAt.cls ≠ "java/lang/invoke/MethodHandle" ∧ yX1_loansAt.cls ≠ "java/lang/invoke/VarHandle" ∧ (parseMethodDescriptor yX1_loansAt.desc).map (fun d => d.parameters.length) = some 2) := by decide +kernel
theorem gm_X1_loansAt : Cond.instanceMethod yX1_loansAt ∈ gw := gw_tbl 813 (by decide +kernel) rfl
theorem gs_X1_loansAt : Cond.selects yX1_loansAt.cls yX1_loansAt yX1_loansAt ∈ gw := gw_tbl 814 (by decide +kernel) rfl
theorem vc_X10_163 : zCV RX10 163 yX1_loansAt cX1_loansAt 5 (some .int) 2 := ⟨gw_tbl 812 (by decide +kernel) rfl, gm_X1_loansAt, gs_X1_loansAt, gi_RX1, gc_X1_loansAt, by decide, gn_X1_loansAt⟩
set_option maxRecDepth 100000 in
theorem gc_X1_canPayNow : Cond.code yX1_canPayNow cX1_canPayNow 3 (some .boolean) ∈ gw := gw_tbl 823 rfl rfl
theorem gn_X1_canPayNow : (yX1_canPayNow.cls ≠ "java/lang/invoke/MethodHandle" ∧ yX1_canPayNow.cls ≠ "java/lang/invoke/VarHandle" ∧ (parseMethodDescriptor yX1_canPayNow.desc).map (fun d => d.parameters.length) = some 2) := by decide +kernel
theorem gm_X1_canPayNow : Cond.instanceMethod yX1_canPayNow ∈ gw := gw_tbl 821 (by decide +kernel) rfl
theorem gs_X1_canPayNow : Cond.selects yX1_canPayNow.cls yX1_canPayNow yX1_canPayNow ∈ gw := gw_tbl 822 (by decide +kernel) rfl
theorem vc_X10_167 : zCV RX10 167 yX1_canPayNow cX1_canPayNow 3 (some .boolean) 2 := ⟨gw_tbl 820 (by decide +kernel) rfl, gm_X1_canPayNow, gs_X1_canPayNow, gi_RX1, gc_X1_canPayNow, by decide, gn_X1_canPayNow⟩
set_option maxRecDepth 100000 in
theorem gc_X1_payNow : Cond.code yX1_payNow cX1_payNow 3 none ∈ gw := gw_tbl 827 rfl rfl
theorem gn_X1_payNow : (yX1_payNow.cls ≠ "java/lang/invoke/MethodHandle" ∧ yX1_payNow.cls ≠ "java/lang/invoke/VarHandle" ∧ (parseMethodDescriptor yX1_payNow.desc).map (fun d => d.parameters.length) = some 2) := by decide +kernel
theorem gm_X1_payNow : Cond.instanceMethod yX1_payNow ∈ gw := gw_tbl 825 (by decide +kernel) rfl
theorem gs_X1_payNow : Cond.selects yX1_payNow.cls yX1_payNow yX1_payNow ∈ gw := gw_tbl 826 (by decide +kernel) rfl
theorem vc_X10_171 : zCV RX10 171 yX1_payNow cX1_payNow 3 none 2 := ⟨gw_tbl 824 (by decide +kernel) rfl, gm_X1_payNow, gs_X1_payNow, gi_RX1, gc_X1_payNow, by decide, gn_X1_payNow⟩
set_option maxRecDepth 100000 in
theorem gc_X4_giveBack : Cond.code yX4_giveBack cX4_giveBack 2 (some .boolean) ∈ gw := gw_tbl 835 rfl rfl
theorem gn_X4_giveBack : (yX4_giveBack.cls ≠ "java/lang/invoke/MethodHandle" ∧ yX4_giveBack.cls ≠ "java/lang/invoke/VarHandle" ∧ (parseMethodDescriptor yX4_giveBack.desc).map (fun d => d.parameters.length) = some 1) := by decide +kernel
theorem gm_X4_giveBack : Cond.instanceMethod yX4_giveBack ∈ gw := gw_tbl 833 (by decide +kernel) rfl
theorem gs_X4_giveBack : Cond.selects yX4_giveBack.cls yX4_giveBack yX4_giveBack ∈ gw := gw_tbl 834 (by decide +kernel) rfl
theorem vc_X10_174 : zCV RX10 174 yX4_giveBack cX4_giveBack 2 (some .boolean) 1 := ⟨gw_tbl 832 (by decide +kernel) rfl, gm_X4_giveBack, gs_X4_giveBack, gi_RX4, gc_X4_giveBack, by decide, gn_X4_giveBack⟩
set_option maxRecDepth 100000 in
theorem gc_X1_brokenPersons : Cond.code yX1_brokenPersons cX1_brokenPersons 4 (some .int) ∈ gw := gw_tbl 843 rfl rfl
theorem gn_X1_brokenPersons : (yX1_brokenPersons.cls ≠ "java/lang/invoke/MethodHandle" ∧ yX1_brokenPersons.cls ≠ "java/lang/invoke/VarHandle" ∧ (parseMethodDescriptor yX1_brokenPersons.desc).map (fun d => d.parameters.length) = some 1) := by decide +kernel
theorem gm_X1_brokenPersons : Cond.instanceMethod yX1_brokenPersons ∈ gw := gw_tbl 841 (by decide +kernel) rfl
theorem gs_X1_brokenPersons : Cond.selects yX1_brokenPersons.cls yX1_brokenPersons yX1_brokenPersons ∈ gw := gw_tbl 842 (by decide +kernel) rfl
theorem vc_X10_178 : zCV RX10 178 yX1_brokenPersons cX1_brokenPersons 4 (some .int) 1 := ⟨gw_tbl 840 (by decide +kernel) rfl, gm_X1_brokenPersons, gs_X1_brokenPersons, gi_RX1, gc_X1_brokenPersons, by decide, gn_X1_brokenPersons⟩
set_option maxRecDepth 100000 in
theorem gc_X1_wealth : Cond.code yX1_wealth cX1_wealth 5 (some .int) ∈ gw := gw_tbl 1070 rfl rfl
theorem gn_X1_wealth : (yX1_wealth.cls ≠ "java/lang/invoke/MethodHandle" ∧ yX1_wealth.cls ≠ "java/lang/invoke/VarHandle" ∧ (parseMethodDescriptor yX1_wealth.desc).map (fun d => d.parameters.length) = some 2) := by decide +kernel
theorem gm_X1_wealth : Cond.instanceMethod yX1_wealth ∈ gw := gw_tbl 1068 (by decide +kernel) rfl
theorem gs_X1_wealth : Cond.selects yX1_wealth.cls yX1_wealth yX1_wealth ∈ gw := gw_tbl 1069 (by decide +kernel) rfl
theorem vc_X10_182 : zCV RX10 182 yX1_wealth cX1_wealth 5 (some .int) 2 := ⟨gw_tbl 1067 (by decide +kernel) rfl, gm_X1_wealth, gs_X1_wealth, gi_RX1, gc_X1_wealth, by decide, gn_X1_wealth⟩
set_option maxRecDepth 100000 in
theorem gc_X10_share : Cond.code yX10_share cX10_share 10 (some .long) ∈ gw := gw_tbl 851 rfl rfl
theorem gn_X10_share : (yX10_share.cls ≠ "java/lang/invoke/MethodHandle" ∧ yX10_share.cls ≠ "java/lang/invoke/VarHandle" ∧ (parseMethodDescriptor yX10_share.desc).map (fun d => d.parameters.length) = some 4) := by decide +kernel
theorem gm_X10_share : Cond.instanceMethod yX10_share ∈ gw := gw_tbl 850 (by decide +kernel) rfl
theorem gs_X10_share : Cond.selects yX10_share.cls yX10_share yX10_share ∈ gw := gw_sel 33 (by decide +kernel) rfl
theorem vc_X10_185 : zCV RX10 185 yX10_share cX10_share 10 (some .long) 4 := ⟨gw_tbl 848 (by decide +kernel) rfl, gm_X10_share, gs_X10_share, gi_RX10, gc_X10_share, by decide, gn_X10_share⟩
set_option maxRecDepth 100000 in
theorem gc_X10_canLookAhead : Cond.code yX10_canLookAhead cX10_canLookAhead 2 (some .boolean) ∈ gw := gw_tbl 855 rfl rfl
theorem gn_X10_canLookAhead : (yX10_canLookAhead.cls ≠ "java/lang/invoke/MethodHandle" ∧ yX10_canLookAhead.cls ≠ "java/lang/invoke/VarHandle" ∧ (parseMethodDescriptor yX10_canLookAhead.desc).map (fun d => d.parameters.length) = some 1) := by decide +kernel
theorem gm_X10_canLookAhead : Cond.instanceMethod yX10_canLookAhead ∈ gw := gw_tbl 854 (by decide +kernel) rfl
theorem gs_X10_canLookAhead : Cond.selects yX10_canLookAhead.cls yX10_canLookAhead yX10_canLookAhead ∈ gw := gw_sel 34 (by decide +kernel) rfl
theorem vc_X10_189 : zCV RX10 189 yX10_canLookAhead cX10_canLookAhead 2 (some .boolean) 1 := ⟨gw_tbl 852 (by decide +kernel) rfl, gm_X10_canLookAhead, gs_X10_canLookAhead, gi_RX10, gc_X10_canLookAhead, by decide, gn_X10_canLookAhead⟩
set_option maxRecDepth 100000 in
theorem gc_X0_start : Cond.code yX0_start cX0_start 2 none ∈ gw := gw_tbl 860 rfl rfl
theorem gn_X0_start : (yX0_start.cls ≠ "java/lang/invoke/MethodHandle" ∧ yX0_start.cls ≠ "java/lang/invoke/VarHandle" ∧ (parseMethodDescriptor yX0_start.desc).map (fun d => d.parameters.length) = some 1) := by decide +kernel
theorem gm_X0_start : Cond.instanceMethod yX0_start ∈ gw := gw_tbl 858 (by decide +kernel) rfl
theorem gs_X0_start : Cond.selects yX0_start.cls yX0_start yX0_start ∈ gw := gw_tbl 859 (by decide +kernel) rfl
theorem vc_X10_194 : zCV RX10 194 yX0_start cX0_start 2 none 1 := ⟨gw_tbl 857 (by decide +kernel) rfl, gm_X0_start, gs_X0_start, gi_RX0, gc_X0_start, by decide, gn_X0_start⟩
set_option maxRecDepth 100000 in
theorem gc_X0_total : Cond.code yX0_total cX0_total 5 (some .long) ∈ gw := gw_tbl 865 rfl rfl
theorem gn_X0_total : (yX0_total.cls ≠ "java/lang/invoke/MethodHandle" ∧ yX0_total.cls ≠ "java/lang/invoke/VarHandle" ∧ (parseMethodDescriptor yX0_total.desc).map (fun d => d.parameters.length) = some 4) := by decide +kernel
theorem gm_X0_total : Cond.instanceMethod yX0_total ∈ gw := gw_tbl 863 (by decide +kernel) rfl
theorem gs_X0_total : Cond.selects yX0_total.cls yX0_total yX0_total ∈ gw := gw_tbl 864 (by decide +kernel) rfl
theorem vc_X10_197 : zCV RX10 197 yX0_total cX0_total 5 (some .long) 4 := ⟨gw_tbl 862 (by decide +kernel) rfl, gm_X0_total, gs_X0_total, gi_RX0, gc_X0_total, by decide, gn_X0_total⟩
set_option maxRecDepth 100000 in
theorem gc_X0_startPaid : Cond.code yX0_startPaid cX0_startPaid 3 none ∈ gw := gw_tbl 900 rfl rfl
theorem gn_X0_startPaid : (yX0_startPaid.cls ≠ "java/lang/invoke/MethodHandle" ∧ yX0_startPaid.cls ≠ "java/lang/invoke/VarHandle" ∧ (parseMethodDescriptor yX0_startPaid.desc).map (fun d => d.parameters.length) = some 2) := by decide +kernel
theorem gm_X0_startPaid : Cond.instanceMethod yX0_startPaid ∈ gw := gw_tbl 898 (by decide +kernel) rfl
theorem gs_X0_startPaid : Cond.selects yX0_startPaid.cls yX0_startPaid yX0_startPaid ∈ gw := gw_tbl 899 (by decide +kernel) rfl
theorem vc_X10_208 : zCV RX10 208 yX0_startPaid cX0_startPaid 3 none 2 := ⟨gw_tbl 897 (by decide +kernel) rfl, gm_X0_startPaid, gs_X0_startPaid, gi_RX0, gc_X0_startPaid, by decide, gn_X0_startPaid⟩
set_option maxRecDepth 100000 in
theorem gc_X10_canFit : Cond.code yX10_canFit cX10_canFit 4 (some .boolean) ∈ gw := gw_tbl 909 rfl rfl
theorem gn_X10_canFit : (yX10_canFit.cls ≠ "java/lang/invoke/MethodHandle" ∧ yX10_canFit.cls ≠ "java/lang/invoke/VarHandle" ∧ (parseMethodDescriptor yX10_canFit.desc).map (fun d => d.parameters.length) = some 3) := by decide +kernel
theorem gm_X10_canFit : Cond.instanceMethod yX10_canFit ∈ gw := gw_tbl 908 (by decide +kernel) rfl
theorem gs_X10_canFit : Cond.selects yX10_canFit.cls yX10_canFit yX10_canFit ∈ gw := gw_sel 38 (by decide +kernel) rfl
theorem vc_X10_211 : zCV RX10 211 yX10_canFit cX10_canFit 4 (some .boolean) 3 := ⟨gw_tbl 906 (by decide +kernel) rfl, gm_X10_canFit, gs_X10_canFit, gi_RX10, gc_X10_canFit, by decide, gn_X10_canFit⟩
set_option maxRecDepth 100000 in
theorem gc_X0_findFitting : Cond.code yX0_findFitting cX0_findFitting 6 (some .int) ∈ gw := gw_tbl 918 rfl rfl
theorem gn_X0_findFitting : (yX0_findFitting.cls ≠ "java/lang/invoke/MethodHandle" ∧ yX0_findFitting.cls ≠ "java/lang/invoke/VarHandle" ∧ (parseMethodDescriptor yX0_findFitting.desc).map (fun d => d.parameters.length) = some 4) := by decide +kernel
theorem gm_X0_findFitting : Cond.instanceMethod yX0_findFitting ∈ gw := gw_tbl 916 (by decide +kernel) rfl
theorem gs_X0_findFitting : Cond.selects yX0_findFitting.cls yX0_findFitting yX0_findFitting ∈ gw := gw_tbl 917 (by decide +kernel) rfl
theorem vc_X10_215 : zCV RX10 215 yX0_findFitting cX0_findFitting 6 (some .int) 4 := ⟨gw_tbl 915 (by decide +kernel) rfl, gm_X0_findFitting, gs_X0_findFitting, gi_RX0, gc_X0_findFitting, by decide, gn_X0_findFitting⟩
set_option maxRecDepth 100000 in
theorem gc_X0_fittingAt : Cond.code yX0_fittingAt cX0_fittingAt 4 (some .int) ∈ gw := gw_tbl 927 rfl rfl
theorem gn_X0_fittingAt : (yX0_fittingAt.cls ≠ "java/lang/invoke/MethodHandle" ∧ yX0_fittingAt.cls ≠ "java/lang/invoke/VarHandle" ∧ (parseMethodDescriptor yX0_fittingAt.desc).map (fun d => d.parameters.length) = some 1) := by decide +kernel
theorem gm_X0_fittingAt : Cond.instanceMethod yX0_fittingAt ∈ gw := gw_tbl 925 (by decide +kernel) rfl
theorem gs_X0_fittingAt : Cond.selects yX0_fittingAt.cls yX0_fittingAt yX0_fittingAt ∈ gw := gw_tbl 926 (by decide +kernel) rfl
theorem vc_X10_219 : zCV RX10 219 yX0_fittingAt cX0_fittingAt 4 (some .int) 1 := ⟨gw_tbl 924 (by decide +kernel) rfl, gm_X0_fittingAt, gs_X0_fittingAt, gi_RX0, gc_X0_fittingAt, by decide, gn_X0_fittingAt⟩
set_option maxRecDepth 100000 in
theorem gc_X2_isBetSet : Cond.code yX2_isBetSet cX2_isBetSet 2 (some .boolean) ∈ gw := gw_tbl 1081 rfl rfl
theorem gn_X2_isBetSet : (yX2_isBetSet.cls ≠ "java/lang/invoke/MethodHandle" ∧ yX2_isBetSet.cls ≠ "java/lang/invoke/VarHandle" ∧ (parseMethodDescriptor yX2_isBetSet.desc).map (fun d => d.parameters.length) = some 1) := by decide +kernel
theorem gm_X2_isBetSet : Cond.instanceMethod yX2_isBetSet ∈ gw := gw_tbl 1079 (by decide +kernel) rfl
theorem gs_X2_isBetSet : Cond.selects yX2_isBetSet.cls yX2_isBetSet yX2_isBetSet ∈ gw := gw_tbl 1080 (by decide +kernel) rfl
theorem vc_X10_224 : zCV RX10 224 yX2_isBetSet cX2_isBetSet 2 (some .boolean) 1 := ⟨gw_tbl 1078 (by decide +kernel) rfl, gm_X2_isBetSet, gs_X2_isBetSet, gi_RX2, gc_X2_isBetSet, by decide, gn_X2_isBetSet⟩
set_option maxRecDepth 100000 in
theorem gc_X2_gainOf : Cond.code yX2_gainOf cX2_gainOf 5 (some .int) ∈ gw := gw_tbl 939 rfl rfl
theorem gn_X2_gainOf : (yX2_gainOf.cls ≠ "java/lang/invoke/MethodHandle" ∧ yX2_gainOf.cls ≠ "java/lang/invoke/VarHandle" ∧ (parseMethodDescriptor yX2_gainOf.desc).map (fun d => d.parameters.length) = some 2) := by decide +kernel
theorem gm_X2_gainOf : Cond.instanceMethod yX2_gainOf ∈ gw := gw_tbl 937 (by decide +kernel) rfl
theorem gs_X2_gainOf : Cond.selects yX2_gainOf.cls yX2_gainOf yX2_gainOf ∈ gw := gw_tbl 938 (by decide +kernel) rfl
theorem vc_X10_229 : zCV RX10 229 yX2_gainOf cX2_gainOf 5 (some .int) 2 := ⟨gw_tbl 1083 (by decide +kernel) rfl, gm_X2_gainOf, gs_X2_gainOf, gi_RX2, gc_X2_gainOf, by decide, gn_X2_gainOf⟩
set_option maxRecDepth 100000 in
theorem gc_X2_leastGain : Cond.code yX2_leastGain cX2_leastGain 4 (some .int) ∈ gw := gw_tbl 935 rfl rfl
theorem gn_X2_leastGain : (yX2_leastGain.cls ≠ "java/lang/invoke/MethodHandle" ∧ yX2_leastGain.cls ≠ "java/lang/invoke/VarHandle" ∧ (parseMethodDescriptor yX2_leastGain.desc).map (fun d => d.parameters.length) = some 1) := by decide +kernel
theorem gm_X2_leastGain : Cond.instanceMethod yX2_leastGain ∈ gw := gw_tbl 933 (by decide +kernel) rfl
theorem gs_X2_leastGain : Cond.selects yX2_leastGain.cls yX2_leastGain yX2_leastGain ∈ gw := gw_tbl 934 (by decide +kernel) rfl
theorem vc_X10_236 : zCV RX10 236 yX2_leastGain cX2_leastGain 4 (some .int) 1 := ⟨gw_tbl 932 (by decide +kernel) rfl, gm_X2_leastGain, gs_X2_leastGain, gi_RX2, gc_X2_leastGain, by decide, gn_X2_leastGain⟩
set_option maxRecDepth 100000 in
theorem gc_X9_drawAll : Cond.code yX9_drawAll cX9_drawAll 7 none ∈ gw := gw_tbl 948 rfl rfl
theorem gn_X9_drawAll : (yX9_drawAll.cls ≠ "java/lang/invoke/MethodHandle" ∧ yX9_drawAll.cls ≠ "java/lang/invoke/VarHandle" ∧ (parseMethodDescriptor yX9_drawAll.desc).map (fun d => d.parameters.length) = some 4) := by decide +kernel
theorem gm_X9_drawAll : Cond.instanceMethod yX9_drawAll ∈ gw := gw_tbl 946 (by decide +kernel) rfl
theorem gs_X9_drawAll : Cond.selects yX9_drawAll.cls yX9_drawAll yX9_drawAll ∈ gw := gw_tbl 947 (by decide +kernel) rfl
theorem vc_X10_239 : zCV RX10 239 yX9_drawAll cX9_drawAll 7 none 4 := ⟨gw_tbl 945 (by decide +kernel) rfl, gm_X9_drawAll, gs_X9_drawAll, gi_RX9, gc_X9_drawAll, by decide, gn_X9_drawAll⟩
set_option maxRecDepth 100000 in
theorem gc_X3_lay : Cond.code yX3_lay cX3_lay 3 none ∈ gw := gw_tbl 979 rfl rfl
theorem gn_X3_lay : (yX3_lay.cls ≠ "java/lang/invoke/MethodHandle" ∧ yX3_lay.cls ≠ "java/lang/invoke/VarHandle" ∧ (parseMethodDescriptor yX3_lay.desc).map (fun d => d.parameters.length) = some 2) := by decide +kernel
theorem gm_X3_lay : Cond.instanceMethod yX3_lay ∈ gw := gw_tbl 977 (by decide +kernel) rfl
theorem gs_X3_lay : Cond.selects yX3_lay.cls yX3_lay yX3_lay ∈ gw := gw_tbl 978 (by decide +kernel) rfl
theorem vc_X10_255 : zCV RX10 255 yX3_lay cX3_lay 3 none 2 := ⟨gw_tbl 976 (by decide +kernel) rfl, gm_X3_lay, gs_X3_lay, gi_RX3, gc_X3_lay, by decide, gn_X3_lay⟩
set_option maxRecDepth 100000 in
theorem gc_X1_copyFrom : Cond.code yX1_copyFrom cX1_copyFrom 2 none ∈ gw := gw_tbl 760 rfl rfl
theorem gn_X1_copyFrom : (yX1_copyFrom.cls ≠ "java/lang/invoke/MethodHandle" ∧ yX1_copyFrom.cls ≠ "java/lang/invoke/VarHandle" ∧ (parseMethodDescriptor yX1_copyFrom.desc).map (fun d => d.parameters.length) = some 1) := by decide +kernel
theorem gm_X1_copyFrom : Cond.instanceMethod yX1_copyFrom ∈ gw := gw_tbl 758 (by decide +kernel) rfl
theorem gs_X1_copyFrom : Cond.selects yX1_copyFrom.cls yX1_copyFrom yX1_copyFrom ∈ gw := gw_tbl 759 (by decide +kernel) rfl
theorem vc_X10_265 : zCV RX10 265 yX1_copyFrom cX1_copyFrom 2 none 1 := ⟨gw_tbl 982 (by decide +kernel) rfl, gm_X1_copyFrom, gs_X1_copyFrom, gi_RX1, gc_X1_copyFrom, by decide, gn_X1_copyFrom⟩
theorem vc_X0_22 : zCV RX0 22 yX1_copyFrom cX1_copyFrom 2 none 1 := ⟨gw_tbl 861 (by decide +kernel) rfl, gm_X1_copyFrom, gs_X1_copyFrom, gi_RX1, gc_X1_copyFrom, by decide, gn_X1_copyFrom⟩
theorem vc_X0_26 : zCV RX0 26 yX1_payNow cX1_payNow 3 none 2 := ⟨gw_tbl 901 (by decide +kernel) rfl, gm_X1_payNow, gs_X1_payNow, gi_RX1, gc_X1_payNow, by decide, gn_X1_payNow⟩
set_option maxRecDepth 100000 in
theorem gc_X0_walk : Cond.code yX0_walk cX0_walk 9 none ∈ gw := gw_tbl 869 rfl rfl
theorem gn_X0_walk : (yX0_walk.cls ≠ "java/lang/invoke/MethodHandle" ∧ yX0_walk.cls ≠ "java/lang/invoke/VarHandle" ∧ (parseMethodDescriptor yX0_walk.desc).map (fun d => d.parameters.length) = some 4) := by decide +kernel
theorem gm_X0_walk : Cond.instanceMethod yX0_walk ∈ gw := gw_tbl 868 (by decide +kernel) rfl
theorem gs_X0_walk : Cond.selects yX0_walk.cls yX0_walk yX0_walk ∈ gw := gw_sel 35 (by decide +kernel) rfl
theorem vc_X0_44 : zCV RX0 44 yX0_walk cX0_walk 9 none 4 := ⟨gw_tbl 866 (by decide +kernel) rfl, gm_X0_walk, gs_X0_walk, gi_RX0, gc_X0_walk, by decide, gn_X0_walk⟩
theorem vc_X0_51 : zCV RX0 51 yX0_total cX0_total 5 (some .long) 4 := ⟨gw_tbl 919 (by decide +kernel) rfl, gm_X0_total, gs_X0_total, gi_RX0, gc_X0_total, by decide, gn_X0_total⟩
set_option maxRecDepth 100000 in
theorem gc_X0_arrive : Cond.code yX0_arrive cX0_arrive 5 none ∈ gw := gw_tbl 873 rfl rfl
theorem gn_X0_arrive : (yX0_arrive.cls ≠ "java/lang/invoke/MethodHandle" ∧ yX0_arrive.cls ≠ "java/lang/invoke/VarHandle" ∧ (parseMethodDescriptor yX0_arrive.desc).map (fun d => d.parameters.length) = some 3) := by decide +kernel
theorem gm_X0_arrive : Cond.instanceMethod yX0_arrive ∈ gw := gw_tbl 872 (by decide +kernel) rfl
theorem gs_X0_arrive : Cond.selects yX0_arrive.cls yX0_arrive yX0_arrive ∈ gw := gw_sel 36 (by decide +kernel) rfl
theorem vc_X0_55 : zCV RX0 55 yX0_arrive cX0_arrive 5 none 3 := ⟨gw_tbl 870 (by decide +kernel) rfl, gm_X0_arrive, gs_X0_arrive, gi_RX0, gc_X0_arrive, by decide, gn_X0_arrive⟩
set_option maxRecDepth 100000 in
theorem gc_X2_oddsOf : Cond.code yX2_oddsOf cX2_oddsOf 7 (some .long) ∈ gw := gw_tbl 881 rfl rfl
theorem gn_X2_oddsOf : (yX2_oddsOf.cls ≠ "java/lang/invoke/MethodHandle" ∧ yX2_oddsOf.cls ≠ "java/lang/invoke/VarHandle" ∧ (parseMethodDescriptor yX2_oddsOf.desc).map (fun d => d.parameters.length) = some 2) := by decide +kernel
theorem gm_X2_oddsOf : Cond.instanceMethod yX2_oddsOf ∈ gw := gw_tbl 879 (by decide +kernel) rfl
theorem gs_X2_oddsOf : Cond.selects yX2_oddsOf.cls yX2_oddsOf yX2_oddsOf ∈ gw := gw_tbl 880 (by decide +kernel) rfl
theorem vc_X0_67 : zCV RX0 67 yX2_oddsOf cX2_oddsOf 7 (some .long) 2 := ⟨gw_tbl 878 (by decide +kernel) rfl, gm_X2_oddsOf, gs_X2_oddsOf, gi_RX2, gc_X2_oddsOf, by decide, gn_X2_oddsOf⟩
theorem vc_X0_71 : zCV RX0 71 yX1_live cX1_live 4 none 2 := ⟨gw_tbl 886 (by decide +kernel) rfl, gm_X1_live, gs_X1_live, gi_RX1, gc_X1_live, by decide, gn_X1_live⟩
set_option maxRecDepth 100000 in
theorem gc_X0_noteFit : Cond.code yX0_noteFit cX0_noteFit 4 none ∈ gw := gw_tbl 877 rfl rfl
theorem gn_X0_noteFit : (yX0_noteFit.cls ≠ "java/lang/invoke/MethodHandle" ∧ yX0_noteFit.cls ≠ "java/lang/invoke/VarHandle" ∧ (parseMethodDescriptor yX0_noteFit.desc).map (fun d => d.parameters.length) = some 2) := by decide +kernel
theorem gm_X0_noteFit : Cond.instanceMethod yX0_noteFit ∈ gw := gw_tbl 876 (by decide +kernel) rfl
theorem gs_X0_noteFit : Cond.selects yX0_noteFit.cls yX0_noteFit yX0_noteFit ∈ gw := gw_sel 37 (by decide +kernel) rfl
theorem vc_X0_84 : zCV RX0 84 yX0_noteFit cX0_noteFit 4 none 2 := ⟨gw_tbl 874 (by decide +kernel) rfl, gm_X0_noteFit, gs_X0_noteFit, gi_RX0, gc_X0_noteFit, by decide, gn_X0_noteFit⟩
set_option maxRecDepth 100000 in
theorem gc_X2_isFlood : Cond.code yX2_isFlood cX2_isFlood 2 (some .boolean) ∈ gw := gw_tbl 770 rfl rfl
theorem gn_X2_isFlood : (yX2_isFlood.cls ≠ "java/lang/invoke/MethodHandle" ∧ yX2_isFlood.cls ≠ "java/lang/invoke/VarHandle" ∧ (parseMethodDescriptor yX2_isFlood.desc).map (fun d => d.parameters.length) = some 1) := by decide +kernel
theorem gm_X2_isFlood : Cond.instanceMethod yX2_isFlood ∈ gw := gw_tbl 768 (by decide +kernel) rfl
theorem gs_X2_isFlood : Cond.selects yX2_isFlood.cls yX2_isFlood yX2_isFlood ∈ gw := gw_tbl 769 (by decide +kernel) rfl
theorem vc_X1_65 : zCV RX1 65 yX2_isFlood cX2_isFlood 2 (some .boolean) 1 := ⟨gw_tbl 767 (by decide +kernel) rfl, gm_X2_isFlood, gs_X2_isFlood, gi_RX2, gc_X2_isFlood, by decide, gn_X2_isFlood⟩
set_option maxRecDepth 100000 in
theorem gc_X1_ripen : Cond.code yX1_ripen cX1_ripen 4 none ∈ gw := gw_tbl 774 rfl rfl
theorem gn_X1_ripen : (yX1_ripen.cls ≠ "java/lang/invoke/MethodHandle" ∧ yX1_ripen.cls ≠ "java/lang/invoke/VarHandle" ∧ (parseMethodDescriptor yX1_ripen.desc).map (fun d => d.parameters.length) = some 2) := by decide +kernel
theorem gm_X1_ripen : Cond.instanceMethod yX1_ripen ∈ gw := gw_tbl 773 (by decide +kernel) rfl
theorem gs_X1_ripen : Cond.selects yX1_ripen.cls yX1_ripen yX1_ripen ∈ gw := gw_sel 24 (by decide +kernel) rfl
theorem vc_X1_69 : zCV RX1 69 yX1_ripen cX1_ripen 4 none 2 := ⟨gw_tbl 771 (by decide +kernel) rfl, gm_X1_ripen, gs_X1_ripen, gi_RX1, gc_X1_ripen, by decide, gn_X1_ripen⟩
set_option maxRecDepth 100000 in
theorem gc_X1_callAllIn : Cond.code yX1_callAllIn cX1_callAllIn 3 none ∈ gw := gw_tbl 782 rfl rfl
theorem gn_X1_callAllIn : (yX1_callAllIn.cls ≠ "java/lang/invoke/MethodHandle" ∧ yX1_callAllIn.cls ≠ "java/lang/invoke/VarHandle" ∧ (parseMethodDescriptor yX1_callAllIn.desc).map (fun d => d.parameters.length) = some 1) := by decide +kernel
theorem gm_X1_callAllIn : Cond.instanceMethod yX1_callAllIn ∈ gw := gw_tbl 781 (by decide +kernel) rfl
theorem gs_X1_callAllIn : Cond.selects yX1_callAllIn.cls yX1_callAllIn yX1_callAllIn ∈ gw := gw_sel 25 (by decide +kernel) rfl
theorem vc_X1_73 : zCV RX1 73 yX1_callAllIn cX1_callAllIn 3 none 1 := ⟨gw_tbl 779 (by decide +kernel) rfl, gm_X1_callAllIn, gs_X1_callAllIn, gi_RX1, gc_X1_callAllIn, by decide, gn_X1_callAllIn⟩
set_option maxRecDepth 100000 in
theorem gc_X1_joinDue : Cond.code yX1_joinDue cX1_joinDue 3 none ∈ gw := gw_tbl 786 rfl rfl
theorem gn_X1_joinDue : (yX1_joinDue.cls ≠ "java/lang/invoke/MethodHandle" ∧ yX1_joinDue.cls ≠ "java/lang/invoke/VarHandle" ∧ (parseMethodDescriptor yX1_joinDue.desc).map (fun d => d.parameters.length) = some 1) := by decide +kernel
theorem gm_X1_joinDue : Cond.instanceMethod yX1_joinDue ∈ gw := gw_tbl 785 (by decide +kernel) rfl
theorem gs_X1_joinDue : Cond.selects yX1_joinDue.cls yX1_joinDue yX1_joinDue ∈ gw := gw_sel 26 (by decide +kernel) rfl
theorem vc_X1_77 : zCV RX1 77 yX1_joinDue cX1_joinDue 3 none 1 := ⟨gw_tbl 783 (by decide +kernel) rfl, gm_X1_joinDue, gs_X1_joinDue, gi_RX1, gc_X1_joinDue, by decide, gn_X1_joinDue⟩
set_option maxRecDepth 100000 in
theorem gc_X1_calledOn : Cond.code yX1_calledOn cX1_calledOn 7 (some .int) ∈ gw := gw_tbl 794 rfl rfl
theorem gn_X1_calledOn : (yX1_calledOn.cls ≠ "java/lang/invoke/MethodHandle" ∧ yX1_calledOn.cls ≠ "java/lang/invoke/VarHandle" ∧ (parseMethodDescriptor yX1_calledOn.desc).map (fun d => d.parameters.length) = some 3) := by decide +kernel
theorem gm_X1_calledOn : Cond.instanceMethod yX1_calledOn ∈ gw := gw_tbl 793 (by decide +kernel) rfl
theorem gs_X1_calledOn : Cond.selects yX1_calledOn.cls yX1_calledOn yX1_calledOn ∈ gw := gw_sel 28 (by decide +kernel) rfl
theorem vc_X1_80 : zCV RX1 80 yX1_calledOn cX1_calledOn 7 (some .int) 3 := ⟨gw_tbl 791 (by decide +kernel) rfl, gm_X1_calledOn, gs_X1_calledOn, gi_RX1, gc_X1_calledOn, by decide, gn_X1_calledOn⟩
set_option maxRecDepth 100000 in
theorem gc_X1_settle : Cond.code yX1_settle cX1_settle 7 none ∈ gw := gw_tbl 798 rfl rfl
theorem gn_X1_settle : (yX1_settle.cls ≠ "java/lang/invoke/MethodHandle" ∧ yX1_settle.cls ≠ "java/lang/invoke/VarHandle" ∧ (parseMethodDescriptor yX1_settle.desc).map (fun d => d.parameters.length) = some 2) := by decide +kernel
theorem gm_X1_settle : Cond.instanceMethod yX1_settle ∈ gw := gw_tbl 797 (by decide +kernel) rfl
theorem gs_X1_settle : Cond.selects yX1_settle.cls yX1_settle yX1_settle ∈ gw := gw_sel 29 (by decide +kernel) rfl
theorem vc_X1_84 : zCV RX1 84 yX1_settle cX1_settle 7 none 2 := ⟨gw_tbl 795 (by decide +kernel) rfl, gm_X1_settle, gs_X1_settle, gi_RX1, gc_X1_settle, by decide, gn_X1_settle⟩
set_option maxRecDepth 100000 in
theorem gc_X1_closePaid : Cond.code yX1_closePaid cX1_closePaid 3 none ∈ gw := gw_tbl 811 rfl rfl
theorem gn_X1_closePaid : (yX1_closePaid.cls ≠ "java/lang/invoke/MethodHandle" ∧ yX1_closePaid.cls ≠ "java/lang/invoke/VarHandle" ∧ (parseMethodDescriptor yX1_closePaid.desc).map (fun d => d.parameters.length) = some 1) := by decide +kernel
theorem gm_X1_closePaid : Cond.instanceMethod yX1_closePaid ∈ gw := gw_tbl 810 (by decide +kernel) rfl
theorem gs_X1_closePaid : Cond.selects yX1_closePaid.cls yX1_closePaid yX1_closePaid ∈ gw := gw_sel 32 (by decide +kernel) rfl
theorem vc_X1_88 : zCV RX1 88 yX1_closePaid cX1_closePaid 3 none 1 := ⟨gw_tbl 808 (by decide +kernel) rfl, gm_X1_closePaid, gs_X1_closePaid, gi_RX1, gc_X1_closePaid, by decide, gn_X1_closePaid⟩
set_option maxRecDepth 100000 in
theorem gc_X2_isRipe : Cond.code yX2_isRipe cX2_isRipe 7 (some .boolean) ∈ gw := gw_tbl 778 rfl rfl
theorem gn_X2_isRipe : (yX2_isRipe.cls ≠ "java/lang/invoke/MethodHandle" ∧ yX2_isRipe.cls ≠ "java/lang/invoke/VarHandle" ∧ (parseMethodDescriptor yX2_isRipe.desc).map (fun d => d.parameters.length) = some 2) := by decide +kernel
theorem gm_X2_isRipe : Cond.instanceMethod yX2_isRipe ∈ gw := gw_tbl 776 (by decide +kernel) rfl
theorem gs_X2_isRipe : Cond.selects yX2_isRipe.cls yX2_isRipe yX2_isRipe ∈ gw := gw_tbl 777 (by decide +kernel) rfl
theorem vc_X1_91 : zCV RX1 91 yX2_isRipe cX2_isRipe 7 (some .boolean) 2 := ⟨gw_tbl 775 (by decide +kernel) rfl, gm_X2_isRipe, gs_X2_isRipe, gi_RX2, gc_X2_isRipe, by decide, gn_X2_isRipe⟩
set_option maxRecDepth 100000 in
theorem gc_X1_hasDueLoan : Cond.code yX1_hasDueLoan cX1_hasDueLoan 4 (some .boolean) ∈ gw := gw_tbl 790 rfl rfl
theorem gn_X1_hasDueLoan : (yX1_hasDueLoan.cls ≠ "java/lang/invoke/MethodHandle" ∧ yX1_hasDueLoan.cls ≠ "java/lang/invoke/VarHandle" ∧ (parseMethodDescriptor yX1_hasDueLoan.desc).map (fun d => d.parameters.length) = some 2) := by decide +kernel
theorem gm_X1_hasDueLoan : Cond.instanceMethod yX1_hasDueLoan ∈ gw := gw_tbl 789 (by decide +kernel) rfl
theorem gs_X1_hasDueLoan : Cond.selects yX1_hasDueLoan.cls yX1_hasDueLoan yX1_hasDueLoan ∈ gw := gw_sel 27 (by decide +kernel) rfl
theorem vc_X1_107 : zCV RX1 107 yX1_hasDueLoan cX1_hasDueLoan 4 (some .boolean) 2 := ⟨gw_tbl 787 (by decide +kernel) rfl, gm_X1_hasDueLoan, gs_X1_hasDueLoan, gi_RX1, gc_X1_hasDueLoan, by decide, gn_X1_hasDueLoan⟩
set_option maxRecDepth 100000 in
theorem gc_X1_isCalled : Cond.code yX1_isCalled cX1_isCalled 2 (some .boolean) ∈ gw := gw_tbl 803 rfl rfl
theorem gn_X1_isCalled : (yX1_isCalled.cls ≠ "java/lang/invoke/MethodHandle" ∧ yX1_isCalled.cls ≠ "java/lang/invoke/VarHandle" ∧ (parseMethodDescriptor yX1_isCalled.desc).map (fun d => d.parameters.length) = some 1) := by decide +kernel
theorem gm_X1_isCalled : Cond.instanceMethod yX1_isCalled ∈ gw := gw_tbl 802 (by decide +kernel) rfl
theorem gs_X1_isCalled : Cond.selects yX1_isCalled.cls yX1_isCalled yX1_isCalled ∈ gw := gw_sel 30 (by decide +kernel) rfl
theorem vc_X1_112 : zCV RX1 112 yX1_isCalled cX1_isCalled 2 (some .boolean) 1 := ⟨gw_tbl 800 (by decide +kernel) rfl, gm_X1_isCalled, gs_X1_isCalled, gi_RX1, gc_X1_isCalled, by decide, gn_X1_isCalled⟩
set_option maxRecDepth 100000 in
theorem gc_X1_take : Cond.code yX1_take cX1_take 5 (some .boolean) ∈ gw := gw_tbl 807 rfl rfl
theorem gn_X1_take : (yX1_take.cls ≠ "java/lang/invoke/MethodHandle" ∧ yX1_take.cls ≠ "java/lang/invoke/VarHandle" ∧ (parseMethodDescriptor yX1_take.desc).map (fun d => d.parameters.length) = some 3) := by decide +kernel
theorem gm_X1_take : Cond.instanceMethod yX1_take ∈ gw := gw_tbl 806 (by decide +kernel) rfl
theorem gs_X1_take : Cond.selects yX1_take.cls yX1_take yX1_take ∈ gw := gw_sel 31 (by decide +kernel) rfl
theorem vc_X1_118 : zCV RX1 118 yX1_take cX1_take 5 (some .boolean) 3 := ⟨gw_tbl 804 (by decide +kernel) rfl, gm_X1_take, gs_X1_take, gi_RX1, gc_X1_take, by decide, gn_X1_take⟩
set_option maxRecDepth 100000 in
theorem gc_X7_copyFrom : Cond.code yX7_copyFrom cX7_copyFrom 2 none ∈ gw := gw_tbl 719 rfl rfl
theorem gn_X7_copyFrom : (yX7_copyFrom.cls ≠ "java/lang/invoke/MethodHandle" ∧ yX7_copyFrom.cls ≠ "java/lang/invoke/VarHandle" ∧ (parseMethodDescriptor yX7_copyFrom.desc).map (fun d => d.parameters.length) = some 1) := by decide +kernel
theorem gm_X7_copyFrom : Cond.instanceMethod yX7_copyFrom ∈ gw := gw_tbl 717 (by decide +kernel) rfl
theorem gs_X7_copyFrom : Cond.selects yX7_copyFrom.cls yX7_copyFrom yX7_copyFrom ∈ gw := gw_tbl 718 (by decide +kernel) rfl
theorem vc_X2_56 : zCV RX2 56 yX7_copyFrom cX7_copyFrom 2 none 1 := ⟨gw_tbl 716 (by decide +kernel) rfl, gm_X7_copyFrom, gs_X7_copyFrom, gi_RX7, gc_X7_copyFrom, by decide, gn_X7_copyFrom⟩
set_option maxRecDepth 100000 in
theorem gc_X2_oddsOfRain : Cond.code yX2_oddsOfRain cX2_oddsOfRain 3 (some .int) ∈ gw := gw_tbl 885 rfl rfl
theorem gn_X2_oddsOfRain : (yX2_oddsOfRain.cls ≠ "java/lang/invoke/MethodHandle" ∧ yX2_oddsOfRain.cls ≠ "java/lang/invoke/VarHandle" ∧ (parseMethodDescriptor yX2_oddsOfRain.desc).map (fun d => d.parameters.length) = some 2) := by decide +kernel
theorem gm_X2_oddsOfRain : Cond.instanceMethod yX2_oddsOfRain ∈ gw := gw_tbl 883 (by decide +kernel) rfl
theorem gs_X2_oddsOfRain : Cond.selects yX2_oddsOfRain.cls yX2_oddsOfRain yX2_oddsOfRain ∈ gw := gw_tbl 884 (by decide +kernel) rfl
theorem vc_X2_66 : zCV RX2 66 yX2_oddsOfRain cX2_oddsOfRain 3 (some .int) 2 := ⟨gw_tbl 882 (by decide +kernel) rfl, gm_X2_oddsOfRain, gs_X2_oddsOfRain, gi_RX2, gc_X2_oddsOfRain, by decide, gn_X2_oddsOfRain⟩
theorem vc_X2_70 : zCV RX2 70 yX2_gainOf cX2_gainOf 5 (some .int) 2 := ⟨gw_tbl 936 (by decide +kernel) rfl, gm_X2_gainOf, gs_X2_gainOf, gi_RX2, gc_X2_gainOf, by decide, gn_X2_gainOf⟩
set_option maxRecDepth 100000 in
theorem gc_J9_min_7cf53 : Cond.code yJ9_min_7cf53 cJ9_min_7cf53 2 (some .int) ∈ gw := gw_tbl 513 rfl rfl
theorem gn_J9_min_7cf53 : (yJ9_min_7cf53.cls ≠ "java/lang/invoke/MethodHandle" ∧ yJ9_min_7cf53.cls ≠ "java/lang/invoke/VarHandle" ∧ (parseMethodDescriptor yJ9_min_7cf53.desc).map (fun d => d.parameters.length) = some 2) := by decide +kernel
theorem gt_J9_min_7cf53 : Cond.static yJ9_min_7cf53 ∈ gw := gw_tbl 512 (by decide +kernel) rfl
theorem sc_X2_73 : zCS RX2 73 yJ9_min_7cf53 cJ9_min_7cf53 2 (some .int) 2 := ⟨gw_tbl 940 (by decide +kernel) rfl, gt_J9_min_7cf53, gi_RJ9, gc_J9_min_7cf53, by decide, gn_J9_min_7cf53⟩
theorem vc_X3_27 : zCV RX3 27 yX2_copyFrom cX2_copyFrom 3 none 1 := ⟨gw_tbl 980 (by decide +kernel) rfl, gm_X2_copyFrom, gs_X2_copyFrom, gi_RX2, gc_X2_copyFrom, by decide, gn_X2_copyFrom⟩
theorem vc_X3_31 : zCV RX3 31 yX1_copyFrom cX1_copyFrom 2 none 1 := ⟨gw_tbl 981 (by decide +kernel) rfl, gm_X1_copyFrom, gs_X1_copyFrom, gi_RX1, gc_X1_copyFrom, by decide, gn_X1_copyFrom⟩
theorem vc_X4_25 : zCV RX4 25 yX1_copyFrom cX1_copyFrom 2 none 1 := ⟨gw_tbl 757 (by decide +kernel) rfl, gm_X1_copyFrom, gs_X1_copyFrom, gi_RX1, gc_X1_copyFrom, by decide, gn_X1_copyFrom⟩
theorem sc_X4_29 : zCS RX4 29 yJ9_min_7cf53 cJ9_min_7cf53 2 (some .int) 2 := ⟨gw_tbl 762 (by decide +kernel) rfl, gt_J9_min_7cf53, gi_RJ9, gc_J9_min_7cf53, by decide, gn_J9_min_7cf53⟩
set_option maxRecDepth 100000 in
theorem gc_X5_splitOff : Cond.code yX5_splitOff cX5_splitOff 3 (some .int) ∈ gw := gw_tbl 419 rfl rfl
theorem gn_X5_splitOff : (yX5_splitOff.cls ≠ "java/lang/invoke/MethodHandle" ∧ yX5_splitOff.cls ≠ "java/lang/invoke/VarHandle" ∧ (parseMethodDescriptor yX5_splitOff.desc).map (fun d => d.parameters.length) = some 2) := by decide +kernel
theorem gm_X5_splitOff : Cond.instanceMethod yX5_splitOff ∈ gw := gw_tbl 418 (by decide +kernel) rfl
theorem gs_X5_splitOff : Cond.selects yX5_splitOff.cls yX5_splitOff yX5_splitOff ∈ gw := gw_sel 0 (by decide +kernel) rfl
theorem vc_X5_43 : zCV RX5 43 yX5_splitOff cX5_splitOff 3 (some .int) 2 := ⟨gw_tbl 416 (by decide +kernel) rfl, gm_X5_splitOff, gs_X5_splitOff, gi_RX5, gc_X5_splitOff, by decide, gn_X5_splitOff⟩
set_option maxRecDepth 100000 in
theorem gc_X5_isLetter : Cond.code yX5_isLetter cX5_isLetter 1 (some .boolean) ∈ gw := gw_tbl 422 rfl rfl
theorem gn_X5_isLetter : (yX5_isLetter.cls ≠ "java/lang/invoke/MethodHandle" ∧ yX5_isLetter.cls ≠ "java/lang/invoke/VarHandle" ∧ (parseMethodDescriptor yX5_isLetter.desc).map (fun d => d.parameters.length) = some 1) := by decide +kernel
theorem gt_X5_isLetter : Cond.static yX5_isLetter ∈ gw := gw_tbl 421 (by decide +kernel) rfl
theorem sc_X5_47 : zCS RX5 47 yX5_isLetter cX5_isLetter 1 (some .boolean) 1 := ⟨gw_tbl 420 (by decide +kernel) rfl, gt_X5_isLetter, gi_RX5, gc_X5_isLetter, by decide, gn_X5_isLetter⟩
set_option maxRecDepth 100000 in
theorem gc_X5_splitWord : Cond.code yX5_splitWord cX5_splitWord 6 (some .int) ∈ gw := gw_tbl 426 rfl rfl
theorem gn_X5_splitWord : (yX5_splitWord.cls ≠ "java/lang/invoke/MethodHandle" ∧ yX5_splitWord.cls ≠ "java/lang/invoke/VarHandle" ∧ (parseMethodDescriptor yX5_splitWord.desc).map (fun d => d.parameters.length) = some 1) := by decide +kernel
theorem gm_X5_splitWord : Cond.instanceMethod yX5_splitWord ∈ gw := gw_tbl 425 (by decide +kernel) rfl
theorem gs_X5_splitWord : Cond.selects yX5_splitWord.cls yX5_splitWord yX5_splitWord ∈ gw := gw_sel 1 (by decide +kernel) rfl
theorem vc_X5_51 : zCV RX5 51 yX5_splitWord cX5_splitWord 6 (some .int) 1 := ⟨gw_tbl 423 (by decide +kernel) rfl, gm_X5_splitWord, gs_X5_splitWord, gi_RX5, gc_X5_splitWord, by decide, gn_X5_splitWord⟩
set_option maxRecDepth 100000 in
theorem gc_X5_isDigit : Cond.code yX5_isDigit cX5_isDigit 1 (some .boolean) ∈ gw := gw_tbl 486 rfl rfl
theorem gn_X5_isDigit : (yX5_isDigit.cls ≠ "java/lang/invoke/MethodHandle" ∧ yX5_isDigit.cls ≠ "java/lang/invoke/VarHandle" ∧ (parseMethodDescriptor yX5_isDigit.desc).map (fun d => d.parameters.length) = some 1) := by decide +kernel
theorem gt_X5_isDigit : Cond.static yX5_isDigit ∈ gw := gw_tbl 485 (by decide +kernel) rfl
theorem sc_X5_55 : zCS RX5 55 yX5_isDigit cX5_isDigit 1 (some .boolean) 1 := ⟨gw_tbl 484 (by decide +kernel) rfl, gt_X5_isDigit, gi_RX5, gc_X5_isDigit, by decide, gn_X5_isDigit⟩
set_option maxRecDepth 100000 in
theorem gc_X5_splitNumber : Cond.code yX5_splitNumber cX5_splitNumber 5 (some .int) ∈ gw := gw_tbl 490 rfl rfl
theorem gn_X5_splitNumber : (yX5_splitNumber.cls ≠ "java/lang/invoke/MethodHandle" ∧ yX5_splitNumber.cls ≠ "java/lang/invoke/VarHandle" ∧ (parseMethodDescriptor yX5_splitNumber.desc).map (fun d => d.parameters.length) = some 1) := by decide +kernel
theorem gm_X5_splitNumber : Cond.instanceMethod yX5_splitNumber ∈ gw := gw_tbl 489 (by decide +kernel) rfl
theorem gs_X5_splitNumber : Cond.selects yX5_splitNumber.cls yX5_splitNumber yX5_splitNumber ∈ gw := gw_sel 3 (by decide +kernel) rfl
theorem vc_X5_58 : zCV RX5 58 yX5_splitNumber cX5_splitNumber 5 (some .int) 1 := ⟨gw_tbl 487 (by decide +kernel) rfl, gm_X5_splitNumber, gs_X5_splitNumber, gi_RX5, gc_X5_splitNumber, by decide, gn_X5_splitNumber⟩
set_option maxRecDepth 100000 in
theorem gc_J0_indexOf_0f7a4 : Cond.code yJ0_indexOf_0f7a4 cJ0_indexOf_0f7a4 2 (some .int) ∈ gw := gw_tbl 496 rfl rfl
theorem gn_J0_indexOf_0f7a4 : (yJ0_indexOf_0f7a4.cls ≠ "java/lang/invoke/MethodHandle" ∧ yJ0_indexOf_0f7a4.cls ≠ "java/lang/invoke/VarHandle" ∧ (parseMethodDescriptor yJ0_indexOf_0f7a4.desc).map (fun d => d.parameters.length) = some 1) := by decide +kernel
theorem gm_J0_indexOf_0f7a4 : Cond.instanceMethod yJ0_indexOf_0f7a4 ∈ gw := gw_tbl 494 (by decide +kernel) rfl
theorem gs_J0_indexOf_0f7a4 : Cond.selects yJ0_indexOf_0f7a4.cls yJ0_indexOf_0f7a4 yJ0_indexOf_0f7a4 ∈ gw := gw_tbl 495 (by decide +kernel) rfl
theorem vc_X5_63 : zCV RX5 63 yJ0_indexOf_0f7a4 cJ0_indexOf_0f7a4 2 (some .int) 1 := ⟨gw_tbl 493 (by decide +kernel) rfl, gm_J0_indexOf_0f7a4, gs_J0_indexOf_0f7a4, gi_RJ0, gc_J0_indexOf_0f7a4, by decide, gn_J0_indexOf_0f7a4⟩
set_option maxRecDepth 100000 in
theorem gc_X5_standsAt : Cond.code yX5_standsAt cX5_standsAt 5 (some .boolean) ∈ gw := gw_tbl 435 rfl rfl
theorem gn_X5_standsAt : (yX5_standsAt.cls ≠ "java/lang/invoke/MethodHandle" ∧ yX5_standsAt.cls ≠ "java/lang/invoke/VarHandle" ∧ (parseMethodDescriptor yX5_standsAt.desc).map (fun d => d.parameters.length) = some 3) := by decide +kernel
theorem gm_X5_standsAt : Cond.instanceMethod yX5_standsAt ∈ gw := gw_tbl 434 (by decide +kernel) rfl
theorem gs_X5_standsAt : Cond.selects yX5_standsAt.cls yX5_standsAt yX5_standsAt ∈ gw := gw_sel 2 (by decide +kernel) rfl
theorem vc_X5_80 : zCV RX5 80 yX5_standsAt cX5_standsAt 5 (some .boolean) 3 := ⟨gw_tbl 432 (by decide +kernel) rfl, gm_X5_standsAt, gs_X5_standsAt, gi_RX5, gc_X5_standsAt, by decide, gn_X5_standsAt⟩
set_option maxRecDepth 100000 in
theorem gc_J0_length_8abf5 : Cond.code yJ0_length_8abf5 cJ0_length_8abf5 1 (some .int) ∈ gw := gw_tbl 439 rfl rfl
theorem gn_J0_length_8abf5 : (yJ0_length_8abf5.cls ≠ "java/lang/invoke/MethodHandle" ∧ yJ0_length_8abf5.cls ≠ "java/lang/invoke/VarHandle" ∧ (parseMethodDescriptor yJ0_length_8abf5.desc).map (fun d => d.parameters.length) = some 0) := by decide +kernel
theorem gm_J0_length_8abf5 : Cond.instanceMethod yJ0_length_8abf5 ∈ gw := gw_tbl 437 (by decide +kernel) rfl
theorem gs_J0_length_8abf5 : Cond.selects yJ0_length_8abf5.cls yJ0_length_8abf5 yJ0_length_8abf5 ∈ gw := gw_tbl 438 (by decide +kernel) rfl
theorem vc_X5_84 : zCV RX5 84 yJ0_length_8abf5 cJ0_length_8abf5 1 (some .int) 0 := ⟨gw_tbl 436 (by decide +kernel) rfl, gm_J0_length_8abf5, gs_J0_length_8abf5, gi_RJ0, gc_J0_length_8abf5, by decide, gn_J0_length_8abf5⟩
set_option maxRecDepth 100000 in
theorem gc_J0_charAt_5068e : Cond.code yJ0_charAt_5068e cJ0_charAt_5068e 2 (some .char) ∈ gw := gw_tbl 449 rfl rfl
theorem gn_J0_charAt_5068e : (yJ0_charAt_5068e.cls ≠ "java/lang/invoke/MethodHandle" ∧ yJ0_charAt_5068e.cls ≠ "java/lang/invoke/VarHandle" ∧ (parseMethodDescriptor yJ0_charAt_5068e.desc).map (fun d => d.parameters.length) = some 1) := by decide +kernel
theorem gm_J0_charAt_5068e : Cond.instanceMethod yJ0_charAt_5068e ∈ gw := gw_tbl 447 (by decide +kernel) rfl
theorem gs_J0_charAt_5068e : Cond.selects yJ0_charAt_5068e.cls yJ0_charAt_5068e yJ0_charAt_5068e ∈ gw := gw_tbl 448 (by decide +kernel) rfl
theorem vc_X5_87 : zCV RX5 87 yJ0_charAt_5068e cJ0_charAt_5068e 2 (some .char) 1 := ⟨gw_tbl 446 (by decide +kernel) rfl, gm_J0_charAt_5068e, gs_J0_charAt_5068e, gi_RJ0, gc_J0_charAt_5068e, by decide, gn_J0_charAt_5068e⟩
set_option maxRecDepth 100000 in
theorem gc_X2_clear : Cond.code yX2_clear cX2_clear 1 none ∈ gw := gw_tbl 411 rfl rfl
theorem gn_X2_clear : (yX2_clear.cls ≠ "java/lang/invoke/MethodHandle" ∧ yX2_clear.cls ≠ "java/lang/invoke/VarHandle" ∧ (parseMethodDescriptor yX2_clear.desc).map (fun d => d.parameters.length) = some 0) := by decide +kernel
theorem gm_X2_clear : Cond.instanceMethod yX2_clear ∈ gw := gw_tbl 409 (by decide +kernel) rfl
theorem gs_X2_clear : Cond.selects yX2_clear.cls yX2_clear yX2_clear ∈ gw := gw_tbl 410 (by decide +kernel) rfl
theorem vc_X6_36 : zCV RX6 36 yX2_clear cX2_clear 1 none 0 := ⟨gw_tbl 408 (by decide +kernel) rfl, gm_X2_clear, gs_X2_clear, gi_RX2, gc_X2_clear, by decide, gn_X2_clear⟩
set_option maxRecDepth 100000 in
theorem gc_X5_split : Cond.code yX5_split cX5_split 4 none ∈ gw := gw_tbl 415 rfl rfl
theorem gn_X5_split : (yX5_split.cls ≠ "java/lang/invoke/MethodHandle" ∧ yX5_split.cls ≠ "java/lang/invoke/VarHandle" ∧ (parseMethodDescriptor yX5_split.desc).map (fun d => d.parameters.length) = some 0) := by decide +kernel
theorem gm_X5_split : Cond.instanceMethod yX5_split ∈ gw := gw_tbl 413 (by decide +kernel) rfl
theorem gs_X5_split : Cond.selects yX5_split.cls yX5_split yX5_split ∈ gw := gw_tbl 414 (by decide +kernel) rfl
theorem vc_X6_39 : zCV RX6 39 yX5_split cX5_split 4 none 0 := ⟨gw_tbl 412 (by decide +kernel) rfl, gm_X5_split, gs_X5_split, gi_RX5, gc_X5_split, by decide, gn_X5_split⟩
set_option maxRecDepth 100000 in
theorem gc_X5_isAtEnd : Cond.code yX5_isAtEnd cX5_isAtEnd 1 (some .boolean) ∈ gw := gw_tbl 555 rfl rfl
theorem gn_X5_isAtEnd : (yX5_isAtEnd.cls ≠ "java/lang/invoke/MethodHandle" ∧ yX5_isAtEnd.cls ≠ "java/lang/invoke/VarHandle" ∧ (parseMethodDescriptor yX5_isAtEnd.desc).map (fun d => d.parameters.length) = some 0) := by decide +kernel
theorem gm_X5_isAtEnd : Cond.instanceMethod yX5_isAtEnd ∈ gw := gw_tbl 553 (by decide +kernel) rfl
theorem gs_X5_isAtEnd : Cond.selects yX5_isAtEnd.cls yX5_isAtEnd yX5_isAtEnd ∈ gw := gw_tbl 554 (by decide +kernel) rfl
theorem vc_X6_42 : zCV RX6 42 yX5_isAtEnd cX5_isAtEnd 1 (some .boolean) 0 := ⟨gw_tbl 552 (by decide +kernel) rfl, gm_X5_isAtEnd, gs_X5_isAtEnd, gi_RX5, gc_X5_isAtEnd, by decide, gn_X5_isAtEnd⟩
set_option maxRecDepth 100000 in
theorem gc_X6_readSentence : Cond.code yX6_readSentence cX6_readSentence 1 none ∈ gw := gw_tbl 559 rfl rfl
theorem gn_X6_readSentence : (yX6_readSentence.cls ≠ "java/lang/invoke/MethodHandle" ∧ yX6_readSentence.cls ≠ "java/lang/invoke/VarHandle" ∧ (parseMethodDescriptor yX6_readSentence.desc).map (fun d => d.parameters.length) = some 0) := by decide +kernel
theorem gm_X6_readSentence : Cond.instanceMethod yX6_readSentence ∈ gw := gw_tbl 558 (by decide +kernel) rfl
theorem gs_X6_readSentence : Cond.selects yX6_readSentence.cls yX6_readSentence yX6_readSentence ∈ gw := gw_sel 4 (by decide +kernel) rfl
theorem vc_X6_46 : zCV RX6 46 yX6_readSentence cX6_readSentence 1 none 0 := ⟨gw_tbl 556 (by decide +kernel) rfl, gm_X6_readSentence, gs_X6_readSentence, gi_RX6, gc_X6_readSentence, by decide, gn_X6_readSentence⟩
set_option maxRecDepth 100000 in
theorem gc_X5_place : Cond.code yX5_place cX5_place 1 (some .int) ∈ gw := gw_tbl 577 rfl rfl
theorem gn_X5_place : (yX5_place.cls ≠ "java/lang/invoke/MethodHandle" ∧ yX5_place.cls ≠ "java/lang/invoke/VarHandle" ∧ (parseMethodDescriptor yX5_place.desc).map (fun d => d.parameters.length) = some 0) := by decide +kernel
theorem gm_X5_place : Cond.instanceMethod yX5_place ∈ gw := gw_tbl 575 (by decide +kernel) rfl
theorem gs_X5_place : Cond.selects yX5_place.cls yX5_place yX5_place ∈ gw := gw_tbl 576 (by decide +kernel) rfl
theorem vc_X6_49 : zCV RX6 49 yX5_place cX5_place 1 (some .int) 0 := ⟨gw_tbl 574 (by decide +kernel) rfl, gm_X5_place, gs_X5_place, gi_RX5, gc_X5_place, by decide, gn_X5_place⟩
set_option maxRecDepth 100000 in
theorem gc_X5_isWord : Cond.code yX5_isWord cX5_isWord 2 (some .boolean) ∈ gw := gw_tbl 565 rfl rfl
theorem gn_X5_isWord : (yX5_isWord.cls ≠ "java/lang/invoke/MethodHandle" ∧ yX5_isWord.cls ≠ "java/lang/invoke/VarHandle" ∧ (parseMethodDescriptor yX5_isWord.desc).map (fun d => d.parameters.length) = some 1) := by decide +kernel
theorem gm_X5_isWord : Cond.instanceMethod yX5_isWord ∈ gw := gw_tbl 563 (by decide +kernel) rfl
theorem gs_X5_isWord : Cond.selects yX5_isWord.cls yX5_isWord yX5_isWord ∈ gw := gw_tbl 564 (by decide +kernel) rfl
theorem vc_X6_59 : zCV RX6 59 yX5_isWord cX5_isWord 2 (some .boolean) 1 := ⟨gw_tbl 562 (by decide +kernel) rfl, gm_X5_isWord, gs_X5_isWord, gi_RX5, gc_X5_isWord, by decide, gn_X5_isWord⟩
set_option maxRecDepth 100000 in
theorem gc_X6_readHill : Cond.code yX6_readHill cX6_readHill 2 none ∈ gw := gw_tbl 569 rfl rfl
theorem gn_X6_readHill : (yX6_readHill.cls ≠ "java/lang/invoke/MethodHandle" ∧ yX6_readHill.cls ≠ "java/lang/invoke/VarHandle" ∧ (parseMethodDescriptor yX6_readHill.desc).map (fun d => d.parameters.length) = some 0) := by decide +kernel
theorem gm_X6_readHill : Cond.instanceMethod yX6_readHill ∈ gw := gw_tbl 568 (by decide +kernel) rfl
theorem gs_X6_readHill : Cond.selects yX6_readHill.cls yX6_readHill yX6_readHill ∈ gw := gw_sel 5 (by decide +kernel) rfl
theorem vc_X6_63 : zCV RX6 63 yX6_readHill cX6_readHill 2 none 0 := ⟨gw_tbl 566 (by decide +kernel) rfl, gm_X6_readHill, gs_X6_readHill, gi_RX6, gc_X6_readHill, by decide, gn_X6_readHill⟩
set_option maxRecDepth 100000 in
theorem gc_X6_readPurse : Cond.code yX6_readPurse cX6_readPurse 2 none ∈ gw := gw_tbl 624 rfl rfl
theorem gn_X6_readPurse : (yX6_readPurse.cls ≠ "java/lang/invoke/MethodHandle" ∧ yX6_readPurse.cls ≠ "java/lang/invoke/VarHandle" ∧ (parseMethodDescriptor yX6_readPurse.desc).map (fun d => d.parameters.length) = some 0) := by decide +kernel
theorem gm_X6_readPurse : Cond.instanceMethod yX6_readPurse ∈ gw := gw_tbl 623 (by decide +kernel) rfl
theorem gs_X6_readPurse : Cond.selects yX6_readPurse.cls yX6_readPurse yX6_readPurse ∈ gw := gw_sel 12 (by decide +kernel) rfl
theorem vc_X6_69 : zCV RX6 69 yX6_readPurse cX6_readPurse 2 none 0 := ⟨gw_tbl 621 (by decide +kernel) rfl, gm_X6_readPurse, gs_X6_readPurse, gi_RX6, gc_X6_readPurse, by decide, gn_X6_readPurse⟩
set_option maxRecDepth 100000 in
theorem gc_X6_readLoan : Cond.code yX6_readLoan cX6_readLoan 2 none ∈ gw := gw_tbl 630 rfl rfl
theorem gn_X6_readLoan : (yX6_readLoan.cls ≠ "java/lang/invoke/MethodHandle" ∧ yX6_readLoan.cls ≠ "java/lang/invoke/VarHandle" ∧ (parseMethodDescriptor yX6_readLoan.desc).map (fun d => d.parameters.length) = some 0) := by decide +kernel
theorem gm_X6_readLoan : Cond.instanceMethod yX6_readLoan ∈ gw := gw_tbl 629 (by decide +kernel) rfl
theorem gs_X6_readLoan : Cond.selects yX6_readLoan.cls yX6_readLoan yX6_readLoan ∈ gw := gw_sel 13 (by decide +kernel) rfl
theorem vc_X6_75 : zCV RX6 75 yX6_readLoan cX6_readLoan 2 none 0 := ⟨gw_tbl 627 (by decide +kernel) rfl, gm_X6_readLoan, gs_X6_readLoan, gi_RX6, gc_X6_readLoan, by decide, gn_X6_readLoan⟩
set_option maxRecDepth 100000 in
theorem gc_X6_readBet : Cond.code yX6_readBet cX6_readBet 4 none ∈ gw := gw_tbl 664 rfl rfl
theorem gn_X6_readBet : (yX6_readBet.cls ≠ "java/lang/invoke/MethodHandle" ∧ yX6_readBet.cls ≠ "java/lang/invoke/VarHandle" ∧ (parseMethodDescriptor yX6_readBet.desc).map (fun d => d.parameters.length) = some 0) := by decide +kernel
theorem gm_X6_readBet : Cond.instanceMethod yX6_readBet ∈ gw := gw_tbl 663 (by decide +kernel) rfl
theorem gs_X6_readBet : Cond.selects yX6_readBet.cls yX6_readBet yX6_readBet ∈ gw := gw_sel 17 (by decide +kernel) rfl
theorem vc_X6_81 : zCV RX6 81 yX6_readBet cX6_readBet 4 none 0 := ⟨gw_tbl 661 (by decide +kernel) rfl, gm_X6_readBet, gs_X6_readBet, gi_RX6, gc_X6_readBet, by decide, gn_X6_readBet⟩
set_option maxRecDepth 100000 in
theorem gc_X6_fail : Cond.code yX6_fail cX6_fail 2 none ∈ gw := gw_tbl 573 rfl rfl
theorem gn_X6_fail : (yX6_fail.cls ≠ "java/lang/invoke/MethodHandle" ∧ yX6_fail.cls ≠ "java/lang/invoke/VarHandle" ∧ (parseMethodDescriptor yX6_fail.desc).map (fun d => d.parameters.length) = some 1) := by decide +kernel
theorem gm_X6_fail : Cond.instanceMethod yX6_fail ∈ gw := gw_tbl 572 (by decide +kernel) rfl
theorem gs_X6_fail : Cond.selects yX6_fail.cls yX6_fail yX6_fail ∈ gw := gw_sel 6 (by decide +kernel) rfl
theorem vc_X6_84 : zCV RX6 84 yX6_fail cX6_fail 2 none 1 := ⟨gw_tbl 570 (by decide +kernel) rfl, gm_X6_fail, gs_X6_fail, gi_RX6, gc_X6_fail, by decide, gn_X6_fail⟩
set_option maxRecDepth 100000 in
theorem gc_X5_readOn : Cond.code yX5_readOn cX5_readOn 1 none ∈ gw := gw_tbl 581 rfl rfl
theorem gn_X5_readOn : (yX5_readOn.cls ≠ "java/lang/invoke/MethodHandle" ∧ yX5_readOn.cls ≠ "java/lang/invoke/VarHandle" ∧ (parseMethodDescriptor yX5_readOn.desc).map (fun d => d.parameters.length) = some 0) := by decide +kernel
theorem gm_X5_readOn : Cond.instanceMethod yX5_readOn ∈ gw := gw_tbl 579 (by decide +kernel) rfl
theorem gs_X5_readOn : Cond.selects yX5_readOn.cls yX5_readOn yX5_readOn ∈ gw := gw_tbl 580 (by decide +kernel) rfl
theorem vc_X6_91 : zCV RX6 91 yX5_readOn cX5_readOn 1 none 0 := ⟨gw_tbl 578 (by decide +kernel) rfl, gm_X5_readOn, gs_X5_readOn, gi_RX5, gc_X5_readOn, by decide, gn_X5_readOn⟩
set_option maxRecDepth 100000 in
theorem gc_X6_readNewName : Cond.code yX6_readNewName cX6_readNewName 3 (some .long) ∈ gw := gw_tbl 585 rfl rfl
theorem gn_X6_readNewName : (yX6_readNewName.cls ≠ "java/lang/invoke/MethodHandle" ∧ yX6_readNewName.cls ≠ "java/lang/invoke/VarHandle" ∧ (parseMethodDescriptor yX6_readNewName.desc).map (fun d => d.parameters.length) = some 0) := by decide +kernel
theorem gm_X6_readNewName : Cond.instanceMethod yX6_readNewName ∈ gw := gw_tbl 584 (by decide +kernel) rfl
theorem gs_X6_readNewName : Cond.selects yX6_readNewName.cls yX6_readNewName yX6_readNewName ∈ gw := gw_sel 7 (by decide +kernel) rfl
theorem vc_X6_94 : zCV RX6 94 yX6_readNewName cX6_readNewName 3 (some .long) 0 := ⟨gw_tbl 582 (by decide +kernel) rfl, gm_X6_readNewName, gs_X6_readNewName, gi_RX6, gc_X6_readNewName, by decide, gn_X6_readNewName⟩
set_option maxRecDepth 100000 in
theorem gc_X6_readWord : Cond.code yX6_readWord cX6_readWord 2 none ∈ gw := gw_tbl 600 rfl rfl
theorem gn_X6_readWord : (yX6_readWord.cls ≠ "java/lang/invoke/MethodHandle" ∧ yX6_readWord.cls ≠ "java/lang/invoke/VarHandle" ∧ (parseMethodDescriptor yX6_readWord.desc).map (fun d => d.parameters.length) = some 1) := by decide +kernel
theorem gm_X6_readWord : Cond.instanceMethod yX6_readWord ∈ gw := gw_tbl 599 (by decide +kernel) rfl
theorem gs_X6_readWord : Cond.selects yX6_readWord.cls yX6_readWord yX6_readWord ∈ gw := gw_sel 9 (by decide +kernel) rfl
theorem vc_X6_101 : zCV RX6 101 yX6_readWord cX6_readWord 2 none 1 := ⟨gw_tbl 597 (by decide +kernel) rfl, gm_X6_readWord, gs_X6_readWord, gi_RX6, gc_X6_readWord, by decide, gn_X6_readWord⟩
set_option maxRecDepth 100000 in
theorem gc_X6_readNumber : Cond.code yX6_readNumber cX6_readNumber 4 (some .int) ∈ gw := gw_tbl 604 rfl rfl
theorem gn_X6_readNumber : (yX6_readNumber.cls ≠ "java/lang/invoke/MethodHandle" ∧ yX6_readNumber.cls ≠ "java/lang/invoke/VarHandle" ∧ (parseMethodDescriptor yX6_readNumber.desc).map (fun d => d.parameters.length) = some 2) := by decide +kernel
theorem gm_X6_readNumber : Cond.instanceMethod yX6_readNumber ∈ gw := gw_tbl 603 (by decide +kernel) rfl
theorem gs_X6_readNumber : Cond.selects yX6_readNumber.cls yX6_readNumber yX6_readNumber ∈ gw := gw_sel 10 (by decide +kernel) rfl
theorem vc_X6_109 : zCV RX6 109 yX6_readNumber cX6_readNumber 4 (some .int) 2 := ⟨gw_tbl 601 (by decide +kernel) rfl, gm_X6_readNumber, gs_X6_readNumber, gi_RX6, gc_X6_readNumber, by decide, gn_X6_readNumber⟩
set_option maxRecDepth 100000 in
theorem gc_X6_readSign : Cond.code yX6_readSign cX6_readSign 2 none ∈ gw := gw_tbl 614 rfl rfl
theorem gn_X6_readSign : (yX6_readSign.cls ≠ "java/lang/invoke/MethodHandle" ∧ yX6_readSign.cls ≠ "java/lang/invoke/VarHandle" ∧ (parseMethodDescriptor yX6_readSign.desc).map (fun d => d.parameters.length) = some 1) := by decide +kernel
theorem gm_X6_readSign : Cond.instanceMethod yX6_readSign ∈ gw := gw_tbl 613 (by decide +kernel) rfl
theorem gs_X6_readSign : Cond.selects yX6_readSign.cls yX6_readSign yX6_readSign ∈ gw := gw_sel 11 (by decide +kernel) rfl
theorem vc_X6_119 : zCV RX6 119 yX6_readSign cX6_readSign 2 none 1 := ⟨gw_tbl 611 (by decide +kernel) rfl, gm_X6_readSign, gs_X6_readSign, gi_RX6, gc_X6_readSign, by decide, gn_X6_readSign⟩
set_option maxRecDepth 100000 in
theorem gc_X6_readPerson : Cond.code yX6_readPerson cX6_readPerson 3 (some .int) ∈ gw := gw_tbl 634 rfl rfl
theorem gn_X6_readPerson : (yX6_readPerson.cls ≠ "java/lang/invoke/MethodHandle" ∧ yX6_readPerson.cls ≠ "java/lang/invoke/VarHandle" ∧ (parseMethodDescriptor yX6_readPerson.desc).map (fun d => d.parameters.length) = some 2) := by decide +kernel
theorem gm_X6_readPerson : Cond.instanceMethod yX6_readPerson ∈ gw := gw_tbl 633 (by decide +kernel) rfl
theorem gs_X6_readPerson : Cond.selects yX6_readPerson.cls yX6_readPerson yX6_readPerson ∈ gw := gw_sel 14 (by decide +kernel) rfl
theorem vc_X6_136 : zCV RX6 136 yX6_readPerson cX6_readPerson 3 (some .int) 2 := ⟨gw_tbl 631 (by decide +kernel) rfl, gm_X6_readPerson, gs_X6_readPerson, gi_RX6, gc_X6_readPerson, by decide, gn_X6_readPerson⟩
set_option maxRecDepth 100000 in
theorem gc_X6_readToldName : Cond.code yX6_readToldName cX6_readToldName 6 (some .int) ∈ gw := gw_tbl 638 rfl rfl
theorem gn_X6_readToldName : (yX6_readToldName.cls ≠ "java/lang/invoke/MethodHandle" ∧ yX6_readToldName.cls ≠ "java/lang/invoke/VarHandle" ∧ (parseMethodDescriptor yX6_readToldName.desc).map (fun d => d.parameters.length) = some 4) := by decide +kernel
theorem gm_X6_readToldName : Cond.instanceMethod yX6_readToldName ∈ gw := gw_tbl 637 (by decide +kernel) rfl
theorem gs_X6_readToldName : Cond.selects yX6_readToldName.cls yX6_readToldName yX6_readToldName ∈ gw := gw_sel 15 (by decide +kernel) rfl
theorem vc_X6_170 : zCV RX6 170 yX6_readToldName cX6_readToldName 6 (some .int) 4 := ⟨gw_tbl 635 (by decide +kernel) rfl, gm_X6_readToldName, gs_X6_readToldName, gi_RX6, gc_X6_readToldName, by decide, gn_X6_readToldName⟩
set_option maxRecDepth 100000 in
theorem gc_X6_readKind : Cond.code yX6_readKind cX6_readKind 2 (some .int) ∈ gw := gw_tbl 652 rfl rfl
theorem gn_X6_readKind : (yX6_readKind.cls ≠ "java/lang/invoke/MethodHandle" ∧ yX6_readKind.cls ≠ "java/lang/invoke/VarHandle" ∧ (parseMethodDescriptor yX6_readKind.desc).map (fun d => d.parameters.length) = some 0) := by decide +kernel
theorem gm_X6_readKind : Cond.instanceMethod yX6_readKind ∈ gw := gw_tbl 651 (by decide +kernel) rfl
theorem gs_X6_readKind : Cond.selects yX6_readKind.cls yX6_readKind yX6_readKind ∈ gw := gw_sel 16 (by decide +kernel) rfl
theorem vc_X6_177 : zCV RX6 177 yX6_readKind cX6_readKind 2 (some .int) 0 := ⟨gw_tbl 649 (by decide +kernel) rfl, gm_X6_readKind, gs_X6_readKind, gi_RX6, gc_X6_readKind, by decide, gn_X6_readKind⟩
set_option maxRecDepth 100000 in
theorem gc_X6_readExpression : Cond.code yX6_readExpression cX6_readExpression 7 (some .int) ∈ gw := gw_tbl 672 rfl rfl
theorem gn_X6_readExpression : (yX6_readExpression.cls ≠ "java/lang/invoke/MethodHandle" ∧ yX6_readExpression.cls ≠ "java/lang/invoke/VarHandle" ∧ (parseMethodDescriptor yX6_readExpression.desc).map (fun d => d.parameters.length) = some 1) := by decide +kernel
theorem gm_X6_readExpression : Cond.instanceMethod yX6_readExpression ∈ gw := gw_tbl 671 (by decide +kernel) rfl
theorem gs_X6_readExpression : Cond.selects yX6_readExpression.cls yX6_readExpression yX6_readExpression ∈ gw := gw_sel 18 (by decide +kernel) rfl
theorem vc_X6_213 : zCV RX6 213 yX6_readExpression cX6_readExpression 7 (some .int) 1 := ⟨gw_tbl 669 (by decide +kernel) rfl, gm_X6_readExpression, gs_X6_readExpression, gi_RX6, gc_X6_readExpression, by decide, gn_X6_readExpression⟩
set_option maxRecDepth 100000 in
theorem gc_X5_isSign : Cond.code yX5_isSign cX5_isSign 2 (some .boolean) ∈ gw := gw_tbl 618 rfl rfl
theorem gn_X5_isSign : (yX5_isSign.cls ≠ "java/lang/invoke/MethodHandle" ∧ yX5_isSign.cls ≠ "java/lang/invoke/VarHandle" ∧ (parseMethodDescriptor yX5_isSign.desc).map (fun d => d.parameters.length) = some 1) := by decide +kernel
theorem gm_X5_isSign : Cond.instanceMethod yX5_isSign ∈ gw := gw_tbl 616 (by decide +kernel) rfl
theorem gs_X5_isSign : Cond.selects yX5_isSign.cls yX5_isSign yX5_isSign ∈ gw := gw_tbl 617 (by decide +kernel) rfl
theorem vc_X6_217 : zCV RX6 217 yX5_isSign cX5_isSign 2 (some .boolean) 1 := ⟨gw_tbl 615 (by decide +kernel) rfl, gm_X5_isSign, gs_X5_isSign, gi_RX5, gc_X5_isSign, by decide, gn_X5_isSign⟩
set_option maxRecDepth 100000 in
theorem gc_X5_isNumber : Cond.code yX5_isNumber cX5_isNumber 1 (some .boolean) ∈ gw := gw_tbl 608 rfl rfl
theorem gn_X5_isNumber : (yX5_isNumber.cls ≠ "java/lang/invoke/MethodHandle" ∧ yX5_isNumber.cls ≠ "java/lang/invoke/VarHandle" ∧ (parseMethodDescriptor yX5_isNumber.desc).map (fun d => d.parameters.length) = some 0) := by decide +kernel
theorem gm_X5_isNumber : Cond.instanceMethod yX5_isNumber ∈ gw := gw_tbl 606 (by decide +kernel) rfl
theorem gs_X5_isNumber : Cond.selects yX5_isNumber.cls yX5_isNumber yX5_isNumber ∈ gw := gw_tbl 607 (by decide +kernel) rfl
theorem vc_X6_221 : zCV RX6 221 yX5_isNumber cX5_isNumber 1 (some .boolean) 0 := ⟨gw_tbl 605 (by decide +kernel) rfl, gm_X5_isNumber, gs_X5_isNumber, gi_RX5, gc_X5_isNumber, by decide, gn_X5_isNumber⟩
set_option maxRecDepth 100000 in
theorem gc_X5_value : Cond.code yX5_value cX5_value 1 (some .long) ∈ gw := gw_tbl 589 rfl rfl
theorem gn_X5_value : (yX5_value.cls ≠ "java/lang/invoke/MethodHandle" ∧ yX5_value.cls ≠ "java/lang/invoke/VarHandle" ∧ (parseMethodDescriptor yX5_value.desc).map (fun d => d.parameters.length) = some 0) := by decide +kernel
theorem gm_X5_value : Cond.instanceMethod yX5_value ∈ gw := gw_tbl 587 (by decide +kernel) rfl
theorem gs_X5_value : Cond.selects yX5_value.cls yX5_value yX5_value ∈ gw := gw_tbl 588 (by decide +kernel) rfl
theorem vc_X6_224 : zCV RX6 224 yX5_value cX5_value 1 (some .long) 0 := ⟨gw_tbl 586 (by decide +kernel) rfl, gm_X5_value, gs_X5_value, gi_RX5, gc_X5_value, by decide, gn_X5_value⟩
set_option maxRecDepth 100000 in
theorem gc_X6_findName : Cond.code yX6_findName cX6_findName 6 (some .int) ∈ gw := gw_tbl 594 rfl rfl
theorem gn_X6_findName : (yX6_findName.cls ≠ "java/lang/invoke/MethodHandle" ∧ yX6_findName.cls ≠ "java/lang/invoke/VarHandle" ∧ (parseMethodDescriptor yX6_findName.desc).map (fun d => d.parameters.length) = some 3) := by decide +kernel
theorem gm_X6_findName : Cond.instanceMethod yX6_findName ∈ gw := gw_tbl 593 (by decide +kernel) rfl
theorem gs_X6_findName : Cond.selects yX6_findName.cls yX6_findName yX6_findName ∈ gw := gw_sel 8 (by decide +kernel) rfl
theorem vc_X6_230 : zCV RX6 230 yX6_findName cX6_findName 6 (some .int) 3 := ⟨gw_tbl 591 (by decide +kernel) rfl, gm_X6_findName, gs_X6_findName, gi_RX6, gc_X6_findName, by decide, gn_X6_findName⟩
set_option maxRecDepth 100000 in
theorem gc_X5_word : Cond.code yX5_word cX5_word 1 (some ((.object "RainLoans$Word"))) ∈ gw := gw_tbl 656 rfl rfl
theorem gn_X5_word : (yX5_word.cls ≠ "java/lang/invoke/MethodHandle" ∧ yX5_word.cls ≠ "java/lang/invoke/VarHandle" ∧ (parseMethodDescriptor yX5_word.desc).map (fun d => d.parameters.length) = some 0) := by decide +kernel
theorem gm_X5_word : Cond.instanceMethod yX5_word ∈ gw := gw_tbl 654 (by decide +kernel) rfl
theorem gs_X5_word : Cond.selects yX5_word.cls yX5_word yX5_word ∈ gw := gw_tbl 655 (by decide +kernel) rfl
theorem vc_X6_234 : zCV RX6 234 yX5_word cX5_word 1 (some ((.object "RainLoans$Word"))) 0 := ⟨gw_tbl 653 (by decide +kernel) rfl, gm_X5_word, gs_X5_word, gi_RX5, gc_X5_word, by decide, gn_X5_word⟩
set_option maxRecDepth 100000 in
theorem gc_X6_readTest : Cond.code yX6_readTest cX6_readTest 6 (some .int) ∈ gw := gw_tbl 676 rfl rfl
theorem gn_X6_readTest : (yX6_readTest.cls ≠ "java/lang/invoke/MethodHandle" ∧ yX6_readTest.cls ≠ "java/lang/invoke/VarHandle" ∧ (parseMethodDescriptor yX6_readTest.desc).map (fun d => d.parameters.length) = some 1) := by decide +kernel
theorem gm_X6_readTest : Cond.instanceMethod yX6_readTest ∈ gw := gw_tbl 675 (by decide +kernel) rfl
theorem gs_X6_readTest : Cond.selects yX6_readTest.cls yX6_readTest yX6_readTest ∈ gw := gw_sel 19 (by decide +kernel) rfl
theorem vc_X6_239 : zCV RX6 239 yX6_readTest cX6_readTest 6 (some .int) 1 := ⟨gw_tbl 673 (by decide +kernel) rfl, gm_X6_readTest, gs_X6_readTest, gi_RX6, gc_X6_readTest, by decide, gn_X6_readTest⟩
set_option maxRecDepth 100000 in
theorem gc_X6_readSum : Cond.code yX6_readSum cX6_readSum 6 (some .int) ∈ gw := gw_tbl 680 rfl rfl
theorem gn_X6_readSum : (yX6_readSum.cls ≠ "java/lang/invoke/MethodHandle" ∧ yX6_readSum.cls ≠ "java/lang/invoke/VarHandle" ∧ (parseMethodDescriptor yX6_readSum.desc).map (fun d => d.parameters.length) = some 1) := by decide +kernel
theorem gm_X6_readSum : Cond.instanceMethod yX6_readSum ∈ gw := gw_tbl 679 (by decide +kernel) rfl
theorem gs_X6_readSum : Cond.selects yX6_readSum.cls yX6_readSum yX6_readSum ∈ gw := gw_sel 20 (by decide +kernel) rfl
theorem vc_X6_248 : zCV RX6 248 yX6_readSum cX6_readSum 6 (some .int) 1 := ⟨gw_tbl 677 (by decide +kernel) rfl, gm_X6_readSum, gs_X6_readSum, gi_RX6, gc_X6_readSum, by decide, gn_X6_readSum⟩
set_option maxRecDepth 100000 in
theorem gc_X6_readProduct : Cond.code yX6_readProduct cX6_readProduct 4 (some .int) ∈ gw := gw_tbl 684 rfl rfl
theorem gn_X6_readProduct : (yX6_readProduct.cls ≠ "java/lang/invoke/MethodHandle" ∧ yX6_readProduct.cls ≠ "java/lang/invoke/VarHandle" ∧ (parseMethodDescriptor yX6_readProduct.desc).map (fun d => d.parameters.length) = some 1) := by decide +kernel
theorem gm_X6_readProduct : Cond.instanceMethod yX6_readProduct ∈ gw := gw_tbl 683 (by decide +kernel) rfl
theorem gs_X6_readProduct : Cond.selects yX6_readProduct.cls yX6_readProduct yX6_readProduct ∈ gw := gw_sel 21 (by decide +kernel) rfl
theorem vc_X6_251 : zCV RX6 251 yX6_readProduct cX6_readProduct 4 (some .int) 1 := ⟨gw_tbl 681 (by decide +kernel) rfl, gm_X6_readProduct, gs_X6_readProduct, gi_RX6, gc_X6_readProduct, by decide, gn_X6_readProduct⟩
set_option maxRecDepth 100000 in
theorem gc_X6_readPart : Cond.code yX6_readPart cX6_readPart 8 (some .int) ∈ gw := gw_tbl 688 rfl rfl
theorem gn_X6_readPart : (yX6_readPart.cls ≠ "java/lang/invoke/MethodHandle" ∧ yX6_readPart.cls ≠ "java/lang/invoke/VarHandle" ∧ (parseMethodDescriptor yX6_readPart.desc).map (fun d => d.parameters.length) = some 1) := by decide +kernel
theorem gm_X6_readPart : Cond.instanceMethod yX6_readPart ∈ gw := gw_tbl 687 (by decide +kernel) rfl
theorem gs_X6_readPart : Cond.selects yX6_readPart.cls yX6_readPart yX6_readPart ∈ gw := gw_sel 22 (by decide +kernel) rfl
theorem vc_X6_254 : zCV RX6 254 yX6_readPart cX6_readPart 8 (some .int) 1 := ⟨gw_tbl 685 (by decide +kernel) rfl, gm_X6_readPart, gs_X6_readPart, gi_RX6, gc_X6_readPart, by decide, gn_X6_readPart⟩
set_option maxRecDepth 100000 in
theorem gc_X6_factNow : Cond.code yX6_factNow cX6_factNow 2 (some .int) ∈ gw := gw_tbl 694 rfl rfl
theorem gn_X6_factNow : (yX6_factNow.cls ≠ "java/lang/invoke/MethodHandle" ∧ yX6_factNow.cls ≠ "java/lang/invoke/VarHandle" ∧ (parseMethodDescriptor yX6_factNow.desc).map (fun d => d.parameters.length) = some 1) := by decide +kernel
theorem gm_X6_factNow : Cond.instanceMethod yX6_factNow ∈ gw := gw_tbl 693 (by decide +kernel) rfl
theorem gs_X6_factNow : Cond.selects yX6_factNow.cls yX6_factNow yX6_factNow ∈ gw := gw_sel 23 (by decide +kernel) rfl
theorem vc_X6_263 : zCV RX6 263 yX6_factNow cX6_factNow 2 (some .int) 1 := ⟨gw_tbl 691 (by decide +kernel) rfl, gm_X6_factNow, gs_X6_factNow, gi_RX6, gc_X6_factNow, by decide, gn_X6_factNow⟩
set_option maxRecDepth 100000 in
theorem gc_J6_bitCount_0f7a4 : Cond.code yJ6_bitCount_0f7a4 cJ6_bitCount_0f7a4 1 (some .int) ∈ gw := gw_tbl 697 rfl rfl
theorem gn_J6_bitCount_0f7a4 : (yJ6_bitCount_0f7a4.cls ≠ "java/lang/invoke/MethodHandle" ∧ yJ6_bitCount_0f7a4.cls ≠ "java/lang/invoke/VarHandle" ∧ (parseMethodDescriptor yJ6_bitCount_0f7a4.desc).map (fun d => d.parameters.length) = some 1) := by decide +kernel
theorem gt_J6_bitCount_0f7a4 : Cond.static yJ6_bitCount_0f7a4 ∈ gw := gw_tbl 696 (by decide +kernel) rfl
theorem sc_X6_266 : zCS RX6 266 yJ6_bitCount_0f7a4 cJ6_bitCount_0f7a4 1 (some .int) 1 := ⟨gw_tbl 695 (by decide +kernel) rfl, gt_J6_bitCount_0f7a4, gi_RJ6, gc_J6_bitCount_0f7a4, by decide, gn_J6_bitCount_0f7a4⟩
theorem vc_X9_33 : zCV RX9 33 yX1_copyFrom cX1_copyFrom 2 none 1 := ⟨gw_tbl 949 (by decide +kernel) rfl, gm_X1_copyFrom, gs_X1_copyFrom, gi_RX1, gc_X1_copyFrom, by decide, gn_X1_copyFrom⟩
set_option maxRecDepth 100000 in
theorem gc_X9_drawWeather : Cond.code yX9_drawWeather cX9_drawWeather 5 (some .int) ∈ gw := gw_tbl 953 rfl rfl
theorem gn_X9_drawWeather : (yX9_drawWeather.cls ≠ "java/lang/invoke/MethodHandle" ∧ yX9_drawWeather.cls ≠ "java/lang/invoke/VarHandle" ∧ (parseMethodDescriptor yX9_drawWeather.desc).map (fun d => d.parameters.length) = some 2) := by decide +kernel
theorem gm_X9_drawWeather : Cond.instanceMethod yX9_drawWeather ∈ gw := gw_tbl 952 (by decide +kernel) rfl
theorem gs_X9_drawWeather : Cond.selects yX9_drawWeather.cls yX9_drawWeather yX9_drawWeather ∈ gw := gw_sel 39 (by decide +kernel) rfl
theorem vc_X9_40 : zCV RX9 40 yX9_drawWeather cX9_drawWeather 5 (some .int) 2 := ⟨gw_tbl 950 (by decide +kernel) rfl, gm_X9_drawWeather, gs_X9_drawWeather, gi_RX9, gc_X9_drawWeather, by decide, gn_X9_drawWeather⟩
theorem vc_X9_44 : zCV RX9 44 yX1_live cX1_live 4 none 2 := ⟨gw_tbl 964 (by decide +kernel) rfl, gm_X1_live, gs_X1_live, gi_RX1, gc_X1_live, by decide, gn_X1_live⟩
theorem vc_X9_48 : zCV RX9 48 yX1_loansAt cX1_loansAt 5 (some .int) 2 := ⟨gw_tbl 965 (by decide +kernel) rfl, gm_X1_loansAt, gs_X1_loansAt, gi_RX1, gc_X1_loansAt, by decide, gn_X1_loansAt⟩
set_option maxRecDepth 100000 in
theorem gc_X1_coinsDue : Cond.code yX1_coinsDue cX1_coinsDue 4 (some .int) ∈ gw := gw_tbl 969 rfl rfl
theorem gn_X1_coinsDue : (yX1_coinsDue.cls ≠ "java/lang/invoke/MethodHandle" ∧ yX1_coinsDue.cls ≠ "java/lang/invoke/VarHandle" ∧ (parseMethodDescriptor yX1_coinsDue.desc).map (fun d => d.parameters.length) = some 1) := by decide +kernel
theorem gm_X1_coinsDue : Cond.instanceMethod yX1_coinsDue ∈ gw := gw_tbl 967 (by decide +kernel) rfl
theorem gs_X1_coinsDue : Cond.selects yX1_coinsDue.cls yX1_coinsDue yX1_coinsDue ∈ gw := gw_tbl 968 (by decide +kernel) rfl
theorem vc_X9_51 : zCV RX9 51 yX1_coinsDue cX1_coinsDue 4 (some .int) 1 := ⟨gw_tbl 966 (by decide +kernel) rfl, gm_X1_coinsDue, gs_X1_coinsDue, gi_RX1, gc_X1_coinsDue, by decide, gn_X1_coinsDue⟩
theorem vc_X9_56 : zCV RX9 56 yX1_brokenPersons cX1_brokenPersons 4 (some .int) 1 := ⟨gw_tbl 970 (by decide +kernel) rfl, gm_X1_brokenPersons, gs_X1_brokenPersons, gi_RX1, gc_X1_brokenPersons, by decide, gn_X1_brokenPersons⟩
theorem sc_X9_59 : zCS RX9 59 yJ6_bitCount_0f7a4 cJ6_bitCount_0f7a4 1 (some .int) 1 := ⟨gw_tbl 971 (by decide +kernel) rfl, gt_J6_bitCount_0f7a4, gi_RJ6, gc_J6_bitCount_0f7a4, by decide, gn_J6_bitCount_0f7a4⟩
set_option maxRecDepth 100000 in
theorem gc_X9_drawBelow8 : Cond.code yX9_drawBelow8 cX9_drawBelow8 1 (some .int) ∈ gw := gw_tbl 957 rfl rfl
theorem gn_X9_drawBelow8 : (yX9_drawBelow8.cls ≠ "java/lang/invoke/MethodHandle" ∧ yX9_drawBelow8.cls ≠ "java/lang/invoke/VarHandle" ∧ (parseMethodDescriptor yX9_drawBelow8.desc).map (fun d => d.parameters.length) = some 0) := by decide +kernel
theorem gm_X9_drawBelow8 : Cond.instanceMethod yX9_drawBelow8 ∈ gw := gw_tbl 956 (by decide +kernel) rfl
theorem gs_X9_drawBelow8 : Cond.selects yX9_drawBelow8.cls yX9_drawBelow8 yX9_drawBelow8 ∈ gw := gw_sel 40 (by decide +kernel) rfl
theorem vc_X9_70 : zCV RX9 70 yX9_drawBelow8 cX9_drawBelow8 1 (some .int) 0 := ⟨gw_tbl 954 (by decide +kernel) rfl, gm_X9_drawBelow8, gs_X9_drawBelow8, gi_RX9, gc_X9_drawBelow8, by decide, gn_X9_drawBelow8⟩
theorem vc_X9_74 : zCV RX9 74 yX2_oddsOfRain cX2_oddsOfRain 3 (some .int) 2 := ⟨gw_tbl 963 (by decide +kernel) rfl, gm_X2_oddsOfRain, gs_X2_oddsOfRain, gi_RX2, gc_X2_oddsOfRain, by decide, gn_X2_oddsOfRain⟩
set_option maxRecDepth 100000 in
theorem gc_X10_purse : Cond.code yX10_purse cX10_purse 2 (some .int) ∈ gw := gw_tbl 994 rfl rfl
theorem gn_X10_purse : (yX10_purse.cls ≠ "java/lang/invoke/MethodHandle" ∧ yX10_purse.cls ≠ "java/lang/invoke/VarHandle" ∧ (parseMethodDescriptor yX10_purse.desc).map (fun d => d.parameters.length) = some 1) := by decide +kernel
theorem gm_X10_purse : Cond.instanceMethod yX10_purse ∈ gw := gw_tbl 992 (by decide +kernel) rfl
theorem gs_X10_purse : Cond.selects yX10_purse.cls yX10_purse yX10_purse ∈ gw := gw_tbl 993 (by decide +kernel) rfl
theorem vc_L_7 : zCV RL 7 yX10_purse cX10_purse 2 (some .int) 1 := ⟨gw_tbl 991 (by decide +kernel) rfl, gm_X10_purse, gs_X10_purse, gi_RX10, gc_X10_purse, by decide, gn_X10_purse⟩
set_option maxRecDepth 100000 in
theorem gc_X10_has : Cond.code yX10_has cX10_has 2 (some .int) ∈ gw := gw_tbl 1066 rfl rfl
theorem gn_X10_has : (yX10_has.cls ≠ "java/lang/invoke/MethodHandle" ∧ yX10_has.cls ≠ "java/lang/invoke/VarHandle" ∧ (parseMethodDescriptor yX10_has.desc).map (fun d => d.parameters.length) = some 1) := by decide +kernel
theorem gm_X10_has : Cond.instanceMethod yX10_has ∈ gw := gw_tbl 1064 (by decide +kernel) rfl
theorem gs_X10_has : Cond.selects yX10_has.cls yX10_has yX10_has ∈ gw := gw_tbl 1065 (by decide +kernel) rfl
theorem vc_L_15 : zCV RL 15 yX10_has cX10_has 2 (some .int) 1 := ⟨gw_tbl 1063 (by decide +kernel) rfl, gm_X10_has, gs_X10_has, gi_RX10, gc_X10_has, by decide, gn_X10_has⟩
set_option maxRecDepth 100000 in
theorem gc_X10_gain : Cond.code yX10_gain cX10_gain 3 (some .int) ∈ gw := gw_tbl 1077 rfl rfl
theorem gn_X10_gain : (yX10_gain.cls ≠ "java/lang/invoke/MethodHandle" ∧ yX10_gain.cls ≠ "java/lang/invoke/VarHandle" ∧ (parseMethodDescriptor yX10_gain.desc).map (fun d => d.parameters.length) = some 2) := by decide +kernel
theorem gm_X10_gain : Cond.instanceMethod yX10_gain ∈ gw := gw_tbl 1075 (by decide +kernel) rfl
theorem gs_X10_gain : Cond.selects yX10_gain.cls yX10_gain yX10_gain ∈ gw := gw_tbl 1076 (by decide +kernel) rfl
theorem vc_L_18 : zCV RL 18 yX10_gain cX10_gain 3 (some .int) 2 := ⟨gw_tbl 1074 (by decide +kernel) rfl, gm_X10_gain, gs_X10_gain, gi_RX10, gc_X10_gain, by decide, gn_X10_gain⟩
set_option maxRecDepth 100000 in
theorem gc_X10_feed : Cond.code yX10_feed cX10_feed 7 (some .int) ∈ gw := gw_tbl 395 rfl rfl
theorem gn_X10_feed : (yX10_feed.cls ≠ "java/lang/invoke/MethodHandle" ∧ yX10_feed.cls ≠ "java/lang/invoke/VarHandle" ∧ (parseMethodDescriptor yX10_feed.desc).map (fun d => d.parameters.length) = some 3) := by decide +kernel
theorem gm_X10_feed : Cond.instanceMethod yX10_feed ∈ gw := gw_tbl 393 (by decide +kernel) rfl
theorem gs_X10_feed : Cond.selects yX10_feed.cls yX10_feed yX10_feed ∈ gw := gw_tbl 394 (by decide +kernel) rfl
theorem vc_L_28 : zCV RL 28 yX10_feed cX10_feed 7 (some .int) 3 := ⟨gw_tbl 392 (by decide +kernel) rfl, gm_X10_feed, gs_X10_feed, gi_RX10, gc_X10_feed, by decide, gn_X10_feed⟩
set_option maxRecDepth 100000 in
theorem gc_X11_feed : Cond.code yX11_feed cX11_feed 11 (some .int) ∈ gw := gw_tbl 1264 rfl rfl
theorem gn_X11_feed : (yX11_feed.cls ≠ "java/lang/invoke/MethodHandle" ∧ yX11_feed.cls ≠ "java/lang/invoke/VarHandle" ∧ (parseMethodDescriptor yX11_feed.desc).map (fun d => d.parameters.length) = some 3) := by decide +kernel
theorem gm_X11_feed : Cond.instanceMethod yX11_feed ∈ gw := gw_tbl 1262 (by decide +kernel) rfl
theorem gs_X11_feed : Cond.selects yX11_feed.cls yX11_feed yX11_feed ∈ gw := gw_tbl 1263 (by decide +kernel) rfl
theorem vc_L_32 : zCV RL 32 yX11_feed cX11_feed 11 (some .int) 3 := ⟨gw_tbl 1261 (by decide +kernel) rfl, gm_X11_feed, gs_X11_feed, gi_RX11, gc_X11_feed, by decide, gn_X11_feed⟩
set_option maxRecDepth 100000 in
theorem gc_X10_custom : Cond.code yX10_custom cX10_custom 2 (some .int) ∈ gw := gw_tbl 403 rfl rfl
theorem gn_X10_custom : (yX10_custom.cls ≠ "java/lang/invoke/MethodHandle" ∧ yX10_custom.cls ≠ "java/lang/invoke/VarHandle" ∧ (parseMethodDescriptor yX10_custom.desc).map (fun d => d.parameters.length) = some 0) := by decide +kernel
theorem gm_X10_custom : Cond.instanceMethod yX10_custom ∈ gw := gw_tbl 401 (by decide +kernel) rfl
theorem gs_X10_custom : Cond.selects yX10_custom.cls yX10_custom yX10_custom ∈ gw := gw_tbl 402 (by decide +kernel) rfl
theorem vc_L_33 : zCV RL 33 yX10_custom cX10_custom 2 (some .int) 0 := ⟨gw_tbl 400 (by decide +kernel) rfl, gm_X10_custom, gs_X10_custom, gi_RX10, gc_X10_custom, by decide, gn_X10_custom⟩
set_option maxRecDepth 100000 in
theorem gc_X11_custom : Cond.code yX11_custom cX11_custom 2 (some .int) ∈ gw := gw_tbl 1269 rfl rfl
theorem gn_X11_custom : (yX11_custom.cls ≠ "java/lang/invoke/MethodHandle" ∧ yX11_custom.cls ≠ "java/lang/invoke/VarHandle" ∧ (parseMethodDescriptor yX11_custom.desc).map (fun d => d.parameters.length) = some 0) := by decide +kernel
theorem gm_X11_custom : Cond.instanceMethod yX11_custom ∈ gw := gw_tbl 1267 (by decide +kernel) rfl
theorem gs_X11_custom : Cond.selects yX11_custom.cls yX11_custom yX11_custom ∈ gw := gw_tbl 1268 (by decide +kernel) rfl
theorem vc_L_37 : zCV RL 37 yX11_custom cX11_custom 2 (some .int) 0 := ⟨gw_tbl 1266 (by decide +kernel) rfl, gm_X11_custom, gs_X11_custom, gi_RX11, gc_X11_custom, by decide, gn_X11_custom⟩
set_option maxRecDepth 100000 in
theorem gc_X10_hill : Cond.code yX10_hill cX10_hill 3 (some .int) ∈ gw := gw_tbl 732 rfl rfl
theorem gn_X10_hill : (yX10_hill.cls ≠ "java/lang/invoke/MethodHandle" ∧ yX10_hill.cls ≠ "java/lang/invoke/VarHandle" ∧ (parseMethodDescriptor yX10_hill.desc).map (fun d => d.parameters.length) = some 2) := by decide +kernel
theorem gm_X10_hill : Cond.instanceMethod yX10_hill ∈ gw := gw_tbl 730 (by decide +kernel) rfl
theorem gs_X10_hill : Cond.selects yX10_hill.cls yX10_hill yX10_hill ∈ gw := gw_tbl 731 (by decide +kernel) rfl
theorem vc_L_38 : zCV RL 38 yX10_hill cX10_hill 3 (some .int) 2 := ⟨gw_tbl 729 (by decide +kernel) rfl, gm_X10_hill, gs_X10_hill, gi_RX10, gc_X10_hill, by decide, gn_X10_hill⟩
set_option maxRecDepth 100000 in
theorem gc_X11_hill : Cond.code yX11_hill cX11_hill 3 (some .int) ∈ gw := gw_tbl 1399 rfl rfl
theorem gn_X11_hill : (yX11_hill.cls ≠ "java/lang/invoke/MethodHandle" ∧ yX11_hill.cls ≠ "java/lang/invoke/VarHandle" ∧ (parseMethodDescriptor yX11_hill.desc).map (fun d => d.parameters.length) = some 2) := by decide +kernel
theorem gm_X11_hill : Cond.instanceMethod yX11_hill ∈ gw := gw_tbl 1397 (by decide +kernel) rfl
theorem gs_X11_hill : Cond.selects yX11_hill.cls yX11_hill yX11_hill ∈ gw := gw_tbl 1398 (by decide +kernel) rfl
theorem vc_L_41 : zCV RL 41 yX11_hill cX11_hill 3 (some .int) 2 := ⟨gw_tbl 1396 (by decide +kernel) rfl, gm_X11_hill, gs_X11_hill, gi_RX11, gc_X11_hill, by decide, gn_X11_hill⟩
set_option maxRecDepth 100000 in
theorem gc_X11_purse : Cond.code yX11_purse cX11_purse 2 (some .int) ∈ gw := gw_tbl 1407 rfl rfl
theorem gn_X11_purse : (yX11_purse.cls ≠ "java/lang/invoke/MethodHandle" ∧ yX11_purse.cls ≠ "java/lang/invoke/VarHandle" ∧ (parseMethodDescriptor yX11_purse.desc).map (fun d => d.parameters.length) = some 1) := by decide +kernel
theorem gm_X11_purse : Cond.instanceMethod yX11_purse ∈ gw := gw_tbl 1405 (by decide +kernel) rfl
theorem gs_X11_purse : Cond.selects yX11_purse.cls yX11_purse yX11_purse ∈ gw := gw_tbl 1406 (by decide +kernel) rfl
theorem vc_L_47 : zCV RL 47 yX11_purse cX11_purse 2 (some .int) 1 := ⟨gw_tbl 1404 (by decide +kernel) rfl, gm_X11_purse, gs_X11_purse, gi_RX11, gc_X11_purse, by decide, gn_X11_purse⟩
set_option maxRecDepth 100000 in
theorem gc_X11_thrown : Cond.code yX11_thrown cX11_thrown 1 (some .int) ∈ gw := gw_tbl 1260 rfl rfl
theorem gn_X11_thrown : (yX11_thrown.cls ≠ "java/lang/invoke/MethodHandle" ∧ yX11_thrown.cls ≠ "java/lang/invoke/VarHandle" ∧ (parseMethodDescriptor yX11_thrown.desc).map (fun d => d.parameters.length) = some 0) := by decide +kernel
theorem gm_X11_thrown : Cond.instanceMethod yX11_thrown ∈ gw := gw_tbl 1258 (by decide +kernel) rfl
theorem gs_X11_thrown : Cond.selects yX11_thrown.cls yX11_thrown yX11_thrown ∈ gw := gw_tbl 1259 (by decide +kernel) rfl
theorem vc_L_48 : zCV RL 48 yX11_thrown cX11_thrown 1 (some .int) 0 := ⟨gw_tbl 1257 (by decide +kernel) rfl, gm_X11_thrown, gs_X11_thrown, gi_RX11, gc_X11_thrown, by decide, gn_X11_thrown⟩
set_option maxRecDepth 100000 in
theorem gc_X10_loan : Cond.code yX10_loan cX10_loan 4 (some .int) ∈ gw := gw_tbl 740 rfl rfl
theorem gn_X10_loan : (yX10_loan.cls ≠ "java/lang/invoke/MethodHandle" ∧ yX10_loan.cls ≠ "java/lang/invoke/VarHandle" ∧ (parseMethodDescriptor yX10_loan.desc).map (fun d => d.parameters.length) = some 2) := by decide +kernel
theorem gm_X10_loan : Cond.instanceMethod yX10_loan ∈ gw := gw_tbl 738 (by decide +kernel) rfl
theorem gs_X10_loan : Cond.selects yX10_loan.cls yX10_loan yX10_loan ∈ gw := gw_tbl 739 (by decide +kernel) rfl
theorem vc_L_51 : zCV RL 51 yX10_loan cX10_loan 4 (some .int) 2 := ⟨gw_tbl 737 (by decide +kernel) rfl, gm_X10_loan, gs_X10_loan, gi_RX10, gc_X10_loan, by decide, gn_X10_loan⟩
set_option maxRecDepth 100000 in
theorem gc_X11_loan : Cond.code yX11_loan cX11_loan 3 (some .int) ∈ gw := gw_tbl 1415 rfl rfl
theorem gn_X11_loan : (yX11_loan.cls ≠ "java/lang/invoke/MethodHandle" ∧ yX11_loan.cls ≠ "java/lang/invoke/VarHandle" ∧ (parseMethodDescriptor yX11_loan.desc).map (fun d => d.parameters.length) = some 2) := by decide +kernel
theorem gm_X11_loan : Cond.instanceMethod yX11_loan ∈ gw := gw_tbl 1413 (by decide +kernel) rfl
theorem gs_X11_loan : Cond.selects yX11_loan.cls yX11_loan yX11_loan ∈ gw := gw_tbl 1414 (by decide +kernel) rfl
theorem vc_L_54 : zCV RL 54 yX11_loan cX11_loan 3 (some .int) 2 := ⟨gw_tbl 1412 (by decide +kernel) rfl, gm_X11_loan, gs_X11_loan, gi_RX11, gc_X11_loan, by decide, gn_X11_loan⟩
set_option maxRecDepth 100000 in
theorem gc_X10_day : Cond.code yX10_day cX10_day 2 (some .int) ∈ gw := gw_tbl 748 rfl rfl
theorem gn_X10_day : (yX10_day.cls ≠ "java/lang/invoke/MethodHandle" ∧ yX10_day.cls ≠ "java/lang/invoke/VarHandle" ∧ (parseMethodDescriptor yX10_day.desc).map (fun d => d.parameters.length) = some 1) := by decide +kernel
theorem gm_X10_day : Cond.instanceMethod yX10_day ∈ gw := gw_tbl 746 (by decide +kernel) rfl
theorem gs_X10_day : Cond.selects yX10_day.cls yX10_day yX10_day ∈ gw := gw_tbl 747 (by decide +kernel) rfl
theorem vc_L_55 : zCV RL 55 yX10_day cX10_day 2 (some .int) 1 := ⟨gw_tbl 745 (by decide +kernel) rfl, gm_X10_day, gs_X10_day, gi_RX10, gc_X10_day, by decide, gn_X10_day⟩
set_option maxRecDepth 100000 in
theorem gc_X11_day : Cond.code yX11_day cX11_day 2 (some .int) ∈ gw := gw_tbl 1423 rfl rfl
theorem gn_X11_day : (yX11_day.cls ≠ "java/lang/invoke/MethodHandle" ∧ yX11_day.cls ≠ "java/lang/invoke/VarHandle" ∧ (parseMethodDescriptor yX11_day.desc).map (fun d => d.parameters.length) = some 1) := by decide +kernel
theorem gm_X11_day : Cond.instanceMethod yX11_day ∈ gw := gw_tbl 1421 (by decide +kernel) rfl
theorem gs_X11_day : Cond.selects yX11_day.cls yX11_day yX11_day ∈ gw := gw_tbl 1422 (by decide +kernel) rfl
theorem vc_L_58 : zCV RL 58 yX11_day cX11_day 2 (some .int) 1 := ⟨gw_tbl 1420 (by decide +kernel) rfl, gm_X11_day, gs_X11_day, gi_RX11, gc_X11_day, by decide, gn_X11_day⟩
set_option maxRecDepth 100000 in
theorem gc_X10_early : Cond.code yX10_early cX10_early 2 (some .boolean) ∈ gw := gw_tbl 819 rfl rfl
theorem gn_X10_early : (yX10_early.cls ≠ "java/lang/invoke/MethodHandle" ∧ yX10_early.cls ≠ "java/lang/invoke/VarHandle" ∧ (parseMethodDescriptor yX10_early.desc).map (fun d => d.parameters.length) = some 1) := by decide +kernel
theorem gm_X10_early : Cond.instanceMethod yX10_early ∈ gw := gw_tbl 817 (by decide +kernel) rfl
theorem gs_X10_early : Cond.selects yX10_early.cls yX10_early yX10_early ∈ gw := gw_tbl 818 (by decide +kernel) rfl
theorem vc_L_59 : zCV RL 59 yX10_early cX10_early 2 (some .boolean) 1 := ⟨gw_tbl 816 (by decide +kernel) rfl, gm_X10_early, gs_X10_early, gi_RX10, gc_X10_early, by decide, gn_X10_early⟩
set_option maxRecDepth 100000 in
theorem gc_X11_early : Cond.code yX11_early cX11_early 2 (some .boolean) ∈ gw := gw_tbl 1463 rfl rfl
theorem gn_X11_early : (yX11_early.cls ≠ "java/lang/invoke/MethodHandle" ∧ yX11_early.cls ≠ "java/lang/invoke/VarHandle" ∧ (parseMethodDescriptor yX11_early.desc).map (fun d => d.parameters.length) = some 1) := by decide +kernel
theorem gm_X11_early : Cond.instanceMethod yX11_early ∈ gw := gw_tbl 1461 (by decide +kernel) rfl
theorem gs_X11_early : Cond.selects yX11_early.cls yX11_early yX11_early ∈ gw := gw_tbl 1462 (by decide +kernel) rfl
theorem vc_L_63 : zCV RL 63 yX11_early cX11_early 2 (some .boolean) 1 := ⟨gw_tbl 1460 (by decide +kernel) rfl, gm_X11_early, gs_X11_early, gi_RX11, gc_X11_early, by decide, gn_X11_early⟩
set_option maxRecDepth 100000 in
theorem gc_X10_undo : Cond.code yX10_undo cX10_undo 1 (some .boolean) ∈ gw := gw_tbl 831 rfl rfl
theorem gn_X10_undo : (yX10_undo.cls ≠ "java/lang/invoke/MethodHandle" ∧ yX10_undo.cls ≠ "java/lang/invoke/VarHandle" ∧ (parseMethodDescriptor yX10_undo.desc).map (fun d => d.parameters.length) = some 0) := by decide +kernel
theorem gm_X10_undo : Cond.instanceMethod yX10_undo ∈ gw := gw_tbl 829 (by decide +kernel) rfl
theorem gs_X10_undo : Cond.selects yX10_undo.cls yX10_undo yX10_undo ∈ gw := gw_tbl 830 (by decide +kernel) rfl
theorem vc_L_64 : zCV RL 64 yX10_undo cX10_undo 1 (some .boolean) 0 := ⟨gw_tbl 828 (by decide +kernel) rfl, gm_X10_undo, gs_X10_undo, gi_RX10, gc_X10_undo, by decide, gn_X10_undo⟩
set_option maxRecDepth 100000 in
theorem gc_X11_undo : Cond.code yX11_undo cX11_undo 1 (some .boolean) ∈ gw := gw_tbl 1475 rfl rfl
theorem gn_X11_undo : (yX11_undo.cls ≠ "java/lang/invoke/MethodHandle" ∧ yX11_undo.cls ≠ "java/lang/invoke/VarHandle" ∧ (parseMethodDescriptor yX11_undo.desc).map (fun d => d.parameters.length) = some 0) := by decide +kernel
theorem gm_X11_undo : Cond.instanceMethod yX11_undo ∈ gw := gw_tbl 1473 (by decide +kernel) rfl
theorem gs_X11_undo : Cond.selects yX11_undo.cls yX11_undo yX11_undo ∈ gw := gw_tbl 1474 (by decide +kernel) rfl
theorem vc_L_68 : zCV RL 68 yX11_undo cX11_undo 1 (some .boolean) 0 := ⟨gw_tbl 1472 (by decide +kernel) rfl, gm_X11_undo, gs_X11_undo, gi_RX11, gc_X11_undo, by decide, gn_X11_undo⟩
set_option maxRecDepth 100000 in
theorem gc_X10_ruined : Cond.code yX10_ruined cX10_ruined 1 (some .int) ∈ gw := gw_tbl 839 rfl rfl
theorem gn_X10_ruined : (yX10_ruined.cls ≠ "java/lang/invoke/MethodHandle" ∧ yX10_ruined.cls ≠ "java/lang/invoke/VarHandle" ∧ (parseMethodDescriptor yX10_ruined.desc).map (fun d => d.parameters.length) = some 0) := by decide +kernel
theorem gm_X10_ruined : Cond.instanceMethod yX10_ruined ∈ gw := gw_tbl 837 (by decide +kernel) rfl
theorem gs_X10_ruined : Cond.selects yX10_ruined.cls yX10_ruined yX10_ruined ∈ gw := gw_tbl 838 (by decide +kernel) rfl
theorem vc_L_69 : zCV RL 69 yX10_ruined cX10_ruined 1 (some .int) 0 := ⟨gw_tbl 836 (by decide +kernel) rfl, gm_X10_ruined, gs_X10_ruined, gi_RX10, gc_X10_ruined, by decide, gn_X10_ruined⟩
set_option maxRecDepth 100000 in
theorem gc_X11_ruined : Cond.code yX11_ruined cX11_ruined 1 (some .int) ∈ gw := gw_tbl 1479 rfl rfl
theorem gn_X11_ruined : (yX11_ruined.cls ≠ "java/lang/invoke/MethodHandle" ∧ yX11_ruined.cls ≠ "java/lang/invoke/VarHandle" ∧ (parseMethodDescriptor yX11_ruined.desc).map (fun d => d.parameters.length) = some 0) := by decide +kernel
theorem gm_X11_ruined : Cond.instanceMethod yX11_ruined ∈ gw := gw_tbl 1477 (by decide +kernel) rfl
theorem gs_X11_ruined : Cond.selects yX11_ruined.cls yX11_ruined yX11_ruined ∈ gw := gw_tbl 1478 (by decide +kernel) rfl
theorem vc_L_72 : zCV RL 72 yX11_ruined cX11_ruined 1 (some .int) 0 := ⟨gw_tbl 1476 (by decide +kernel) rfl, gm_X11_ruined, gs_X11_ruined, gi_RX11, gc_X11_ruined, by decide, gn_X11_ruined⟩
set_option maxRecDepth 100000 in
theorem gc_X11_has : Cond.code yX11_has cX11_has 4 (some .int) ∈ gw := gw_tbl 1487 rfl rfl
theorem gn_X11_has : (yX11_has.cls ≠ "java/lang/invoke/MethodHandle" ∧ yX11_has.cls ≠ "java/lang/invoke/VarHandle" ∧ (parseMethodDescriptor yX11_has.desc).map (fun d => d.parameters.length) = some 1) := by decide +kernel
theorem gm_X11_has : Cond.instanceMethod yX11_has ∈ gw := gw_tbl 1485 (by decide +kernel) rfl
theorem gs_X11_has : Cond.selects yX11_has.cls yX11_has yX11_has ∈ gw := gw_tbl 1486 (by decide +kernel) rfl
theorem vc_L_75 : zCV RL 75 yX11_has cX11_has 4 (some .int) 1 := ⟨gw_tbl 1484 (by decide +kernel) rfl, gm_X11_has, gs_X11_has, gi_RX11, gc_X11_has, by decide, gn_X11_has⟩
set_option maxRecDepth 100000 in
theorem gc_X10_worth : Cond.code yX10_worth cX10_worth 4 (some .long) ∈ gw := gw_tbl 847 rfl rfl
theorem gn_X10_worth : (yX10_worth.cls ≠ "java/lang/invoke/MethodHandle" ∧ yX10_worth.cls ≠ "java/lang/invoke/VarHandle" ∧ (parseMethodDescriptor yX10_worth.desc).map (fun d => d.parameters.length) = some 3) := by decide +kernel
theorem gm_X10_worth : Cond.instanceMethod yX10_worth ∈ gw := gw_tbl 845 (by decide +kernel) rfl
theorem gs_X10_worth : Cond.selects yX10_worth.cls yX10_worth yX10_worth ∈ gw := gw_tbl 846 (by decide +kernel) rfl
theorem vc_L_76 : zCV RL 76 yX10_worth cX10_worth 4 (some .long) 3 := ⟨gw_tbl 844 (by decide +kernel) rfl, gm_X10_worth, gs_X10_worth, gi_RX10, gc_X10_worth, by decide, gn_X10_worth⟩
set_option maxRecDepth 100000 in
theorem gc_X11_worth : Cond.code yX11_worth cX11_worth 9 (some .long) ∈ gw := gw_tbl 1491 rfl rfl
theorem gn_X11_worth : (yX11_worth.cls ≠ "java/lang/invoke/MethodHandle" ∧ yX11_worth.cls ≠ "java/lang/invoke/VarHandle" ∧ (parseMethodDescriptor yX11_worth.desc).map (fun d => d.parameters.length) = some 3) := by decide +kernel
theorem gm_X11_worth : Cond.instanceMethod yX11_worth ∈ gw := gw_tbl 1489 (by decide +kernel) rfl
theorem gs_X11_worth : Cond.selects yX11_worth.cls yX11_worth yX11_worth ∈ gw := gw_tbl 1490 (by decide +kernel) rfl
theorem vc_L_80 : zCV RL 80 yX11_worth cX11_worth 9 (some .long) 3 := ⟨gw_tbl 1488 (by decide +kernel) rfl, gm_X11_worth, gs_X11_worth, gi_RX11, gc_X11_worth, by decide, gn_X11_worth⟩
set_option maxRecDepth 100000 in
theorem gc_X10_chance : Cond.code yX10_chance cX10_chance 4 (some .long) ∈ gw := gw_tbl 892 rfl rfl
theorem gn_X10_chance : (yX10_chance.cls ≠ "java/lang/invoke/MethodHandle" ∧ yX10_chance.cls ≠ "java/lang/invoke/VarHandle" ∧ (parseMethodDescriptor yX10_chance.desc).map (fun d => d.parameters.length) = some 3) := by decide +kernel
theorem gm_X10_chance : Cond.instanceMethod yX10_chance ∈ gw := gw_tbl 890 (by decide +kernel) rfl
theorem gs_X10_chance : Cond.selects yX10_chance.cls yX10_chance yX10_chance ∈ gw := gw_tbl 891 (by decide +kernel) rfl
theorem vc_L_81 : zCV RL 81 yX10_chance cX10_chance 4 (some .long) 3 := ⟨gw_tbl 889 (by decide +kernel) rfl, gm_X10_chance, gs_X10_chance, gi_RX10, gc_X10_chance, by decide, gn_X10_chance⟩
set_option maxRecDepth 100000 in
theorem gc_X11_chance : Cond.code yX11_chance cX11_chance 9 (some .long) ∈ gw := gw_tbl 1515 rfl rfl
theorem gn_X11_chance : (yX11_chance.cls ≠ "java/lang/invoke/MethodHandle" ∧ yX11_chance.cls ≠ "java/lang/invoke/VarHandle" ∧ (parseMethodDescriptor yX11_chance.desc).map (fun d => d.parameters.length) = some 3) := by decide +kernel
theorem gm_X11_chance : Cond.instanceMethod yX11_chance ∈ gw := gw_tbl 1513 (by decide +kernel) rfl
theorem gs_X11_chance : Cond.selects yX11_chance.cls yX11_chance yX11_chance ∈ gw := gw_tbl 1514 (by decide +kernel) rfl
theorem vc_L_84 : zCV RL 84 yX11_chance cX11_chance 9 (some .long) 3 := ⟨gw_tbl 1512 (by decide +kernel) rfl, gm_X11_chance, gs_X11_chance, gi_RX11, gc_X11_chance, by decide, gn_X11_chance⟩
set_option maxRecDepth 100000 in
theorem gc_X10_better : Cond.code yX10_better cX10_better 8 (some .int) ∈ gw := gw_tbl 896 rfl rfl
theorem gn_X10_better : (yX10_better.cls ≠ "java/lang/invoke/MethodHandle" ∧ yX10_better.cls ≠ "java/lang/invoke/VarHandle" ∧ (parseMethodDescriptor yX10_better.desc).map (fun d => d.parameters.length) = some 2) := by decide +kernel
theorem gm_X10_better : Cond.instanceMethod yX10_better ∈ gw := gw_tbl 894 (by decide +kernel) rfl
theorem gs_X10_better : Cond.selects yX10_better.cls yX10_better yX10_better ∈ gw := gw_tbl 895 (by decide +kernel) rfl
theorem vc_L_85 : zCV RL 85 yX10_better cX10_better 8 (some .int) 2 := ⟨gw_tbl 893 (by decide +kernel) rfl, gm_X10_better, gs_X10_better, gi_RX10, gc_X10_better, by decide, gn_X10_better⟩
set_option maxRecDepth 100000 in
theorem gc_X11_better : Cond.code yX11_better cX11_better 9 (some .int) ∈ gw := gw_tbl 1519 rfl rfl
theorem gn_X11_better : (yX11_better.cls ≠ "java/lang/invoke/MethodHandle" ∧ yX11_better.cls ≠ "java/lang/invoke/VarHandle" ∧ (parseMethodDescriptor yX11_better.desc).map (fun d => d.parameters.length) = some 2) := by decide +kernel
theorem gm_X11_better : Cond.instanceMethod yX11_better ∈ gw := gw_tbl 1517 (by decide +kernel) rfl
theorem gs_X11_better : Cond.selects yX11_better.cls yX11_better yX11_better ∈ gw := gw_tbl 1518 (by decide +kernel) rfl
theorem vc_L_88 : zCV RL 88 yX11_better cX11_better 9 (some .int) 2 := ⟨gw_tbl 1516 (by decide +kernel) rfl, gm_X11_better, gs_X11_better, gi_RX11, gc_X11_better, by decide, gn_X11_better⟩
set_option maxRecDepth 100000 in
theorem gc_X10_fits : Cond.code yX10_fits cX10_fits 4 (some .int) ∈ gw := gw_tbl 905 rfl rfl
theorem gn_X10_fits : (yX10_fits.cls ≠ "java/lang/invoke/MethodHandle" ∧ yX10_fits.cls ≠ "java/lang/invoke/VarHandle" ∧ (parseMethodDescriptor yX10_fits.desc).map (fun d => d.parameters.length) = some 3) := by decide +kernel
theorem gm_X10_fits : Cond.instanceMethod yX10_fits ∈ gw := gw_tbl 903 (by decide +kernel) rfl
theorem gs_X10_fits : Cond.selects yX10_fits.cls yX10_fits yX10_fits ∈ gw := gw_tbl 904 (by decide +kernel) rfl
theorem vc_L_89 : zCV RL 89 yX10_fits cX10_fits 4 (some .int) 3 := ⟨gw_tbl 902 (by decide +kernel) rfl, gm_X10_fits, gs_X10_fits, gi_RX10, gc_X10_fits, by decide, gn_X10_fits⟩
set_option maxRecDepth 100000 in
theorem gc_X11_fits : Cond.code yX11_fits cX11_fits 4 (some .int) ∈ gw := gw_tbl 1523 rfl rfl
theorem gn_X11_fits : (yX11_fits.cls ≠ "java/lang/invoke/MethodHandle" ∧ yX11_fits.cls ≠ "java/lang/invoke/VarHandle" ∧ (parseMethodDescriptor yX11_fits.desc).map (fun d => d.parameters.length) = some 3) := by decide +kernel
theorem gm_X11_fits : Cond.instanceMethod yX11_fits ∈ gw := gw_tbl 1521 (by decide +kernel) rfl
theorem gs_X11_fits : Cond.selects yX11_fits.cls yX11_fits yX11_fits ∈ gw := gw_tbl 1522 (by decide +kernel) rfl
theorem vc_L_93 : zCV RL 93 yX11_fits cX11_fits 4 (some .int) 3 := ⟨gw_tbl 1520 (by decide +kernel) rfl, gm_X11_fits, gs_X11_fits, gi_RX11, gc_X11_fits, by decide, gn_X11_fits⟩
set_option maxRecDepth 100000 in
theorem gc_X10_fit : Cond.code yX10_fit cX10_fit 6 (some .int) ∈ gw := gw_tbl 923 rfl rfl
theorem gn_X10_fit : (yX10_fit.cls ≠ "java/lang/invoke/MethodHandle" ∧ yX10_fit.cls ≠ "java/lang/invoke/VarHandle" ∧ (parseMethodDescriptor yX10_fit.desc).map (fun d => d.parameters.length) = some 4) := by decide +kernel
theorem gm_X10_fit : Cond.instanceMethod yX10_fit ∈ gw := gw_tbl 921 (by decide +kernel) rfl
theorem gs_X10_fit : Cond.selects yX10_fit.cls yX10_fit yX10_fit ∈ gw := gw_tbl 922 (by decide +kernel) rfl
theorem vc_L_94 : zCV RL 94 yX10_fit cX10_fit 6 (some .int) 4 := ⟨gw_tbl 920 (by decide +kernel) rfl, gm_X10_fit, gs_X10_fit, gi_RX10, gc_X10_fit, by decide, gn_X10_fit⟩
set_option maxRecDepth 100000 in
theorem gc_X11_fit : Cond.code yX11_fit cX11_fit 5 (some .int) ∈ gw := gw_tbl 1532 rfl rfl
theorem gn_X11_fit : (yX11_fit.cls ≠ "java/lang/invoke/MethodHandle" ∧ yX11_fit.cls ≠ "java/lang/invoke/VarHandle" ∧ (parseMethodDescriptor yX11_fit.desc).map (fun d => d.parameters.length) = some 4) := by decide +kernel
theorem gm_X11_fit : Cond.instanceMethod yX11_fit ∈ gw := gw_tbl 1530 (by decide +kernel) rfl
theorem gs_X11_fit : Cond.selects yX11_fit.cls yX11_fit yX11_fit ∈ gw := gw_tbl 1531 (by decide +kernel) rfl
theorem vc_L_98 : zCV RL 98 yX11_fit cX11_fit 5 (some .int) 4 := ⟨gw_tbl 1529 (by decide +kernel) rfl, gm_X11_fit, gs_X11_fit, gi_RX11, gc_X11_fit, by decide, gn_X11_fit⟩
set_option maxRecDepth 100000 in
theorem gc_X11_gain : Cond.code yX11_gain cX11_gain 3 (some .int) ∈ gw := gw_tbl 1536 rfl rfl
theorem gn_X11_gain : (yX11_gain.cls ≠ "java/lang/invoke/MethodHandle" ∧ yX11_gain.cls ≠ "java/lang/invoke/VarHandle" ∧ (parseMethodDescriptor yX11_gain.desc).map (fun d => d.parameters.length) = some 2) := by decide +kernel
theorem gm_X11_gain : Cond.instanceMethod yX11_gain ∈ gw := gw_tbl 1534 (by decide +kernel) rfl
theorem gs_X11_gain : Cond.selects yX11_gain.cls yX11_gain yX11_gain ∈ gw := gw_tbl 1535 (by decide +kernel) rfl
theorem vc_L_102 : zCV RL 102 yX11_gain cX11_gain 3 (some .int) 2 := ⟨gw_tbl 1533 (by decide +kernel) rfl, gm_X11_gain, gs_X11_gain, gi_RX11, gc_X11_gain, by decide, gn_X11_gain⟩
set_option maxRecDepth 100000 in
theorem gc_X10_sure : Cond.code yX10_sure cX10_sure 6 (some .int) ∈ gw := gw_tbl 931 rfl rfl
theorem gn_X10_sure : (yX10_sure.cls ≠ "java/lang/invoke/MethodHandle" ∧ yX10_sure.cls ≠ "java/lang/invoke/VarHandle" ∧ (parseMethodDescriptor yX10_sure.desc).map (fun d => d.parameters.length) = some 1) := by decide +kernel
theorem gm_X10_sure : Cond.instanceMethod yX10_sure ∈ gw := gw_tbl 929 (by decide +kernel) rfl
theorem gs_X10_sure : Cond.selects yX10_sure.cls yX10_sure yX10_sure ∈ gw := gw_tbl 930 (by decide +kernel) rfl
theorem vc_L_103 : zCV RL 103 yX10_sure cX10_sure 6 (some .int) 1 := ⟨gw_tbl 928 (by decide +kernel) rfl, gm_X10_sure, gs_X10_sure, gi_RX10, gc_X10_sure, by decide, gn_X10_sure⟩
set_option maxRecDepth 100000 in
theorem gc_X11_sure : Cond.code yX11_sure cX11_sure 7 (some .int) ∈ gw := gw_tbl 1560 rfl rfl
theorem gn_X11_sure : (yX11_sure.cls ≠ "java/lang/invoke/MethodHandle" ∧ yX11_sure.cls ≠ "java/lang/invoke/VarHandle" ∧ (parseMethodDescriptor yX11_sure.desc).map (fun d => d.parameters.length) = some 1) := by decide +kernel
theorem gm_X11_sure : Cond.instanceMethod yX11_sure ∈ gw := gw_tbl 1558 (by decide +kernel) rfl
theorem gs_X11_sure : Cond.selects yX11_sure.cls yX11_sure yX11_sure ∈ gw := gw_tbl 1559 (by decide +kernel) rfl
theorem vc_L_106 : zCV RL 106 yX11_sure cX11_sure 7 (some .int) 1 := ⟨gw_tbl 1557 (by decide +kernel) rfl, gm_X11_sure, gs_X11_sure, gi_RX11, gc_X11_sure, by decide, gn_X11_sure⟩
set_option maxRecDepth 100000 in
theorem gc_X10_lots : Cond.code yX10_lots cX10_lots 4 (some .int) ∈ gw := gw_tbl 944 rfl rfl
theorem gn_X10_lots : (yX10_lots.cls ≠ "java/lang/invoke/MethodHandle" ∧ yX10_lots.cls ≠ "java/lang/invoke/VarHandle" ∧ (parseMethodDescriptor yX10_lots.desc).map (fun d => d.parameters.length) = some 3) := by decide +kernel
theorem gm_X10_lots : Cond.instanceMethod yX10_lots ∈ gw := gw_tbl 942 (by decide +kernel) rfl
theorem gs_X10_lots : Cond.selects yX10_lots.cls yX10_lots yX10_lots ∈ gw := gw_tbl 943 (by decide +kernel) rfl
theorem vc_L_107 : zCV RL 107 yX10_lots cX10_lots 4 (some .int) 3 := ⟨gw_tbl 941 (by decide +kernel) rfl, gm_X10_lots, gs_X10_lots, gi_RX10, gc_X10_lots, by decide, gn_X10_lots⟩
set_option maxRecDepth 100000 in
theorem gc_X11_lots : Cond.code yX11_lots cX11_lots 9 (some .int) ∈ gw := gw_tbl 1564 rfl rfl
theorem gn_X11_lots : (yX11_lots.cls ≠ "java/lang/invoke/MethodHandle" ∧ yX11_lots.cls ≠ "java/lang/invoke/VarHandle" ∧ (parseMethodDescriptor yX11_lots.desc).map (fun d => d.parameters.length) = some 3) := by decide +kernel
theorem gm_X11_lots : Cond.instanceMethod yX11_lots ∈ gw := gw_tbl 1562 (by decide +kernel) rfl
theorem gs_X11_lots : Cond.selects yX11_lots.cls yX11_lots yX11_lots ∈ gw := gw_tbl 1563 (by decide +kernel) rfl
theorem vc_L_110 : zCV RL 110 yX11_lots cX11_lots 9 (some .int) 3 := ⟨gw_tbl 1561 (by decide +kernel) rfl, gm_X11_lots, gs_X11_lots, gi_RX11, gc_X11_lots, by decide, gn_X11_lots⟩
set_option maxRecDepth 100000 in
theorem gc_X10_mark : Cond.code yX10_mark cX10_mark 3 (some .boolean) ∈ gw := gw_tbl 975 rfl rfl
theorem gn_X10_mark : (yX10_mark.cls ≠ "java/lang/invoke/MethodHandle" ∧ yX10_mark.cls ≠ "java/lang/invoke/VarHandle" ∧ (parseMethodDescriptor yX10_mark.desc).map (fun d => d.parameters.length) = some 2) := by decide +kernel
theorem gm_X10_mark : Cond.instanceMethod yX10_mark ∈ gw := gw_tbl 973 (by decide +kernel) rfl
theorem gs_X10_mark : Cond.selects yX10_mark.cls yX10_mark yX10_mark ∈ gw := gw_tbl 974 (by decide +kernel) rfl
theorem vc_L_111 : zCV RL 111 yX10_mark cX10_mark 3 (some .boolean) 2 := ⟨gw_tbl 972 (by decide +kernel) rfl, gm_X10_mark, gs_X10_mark, gi_RX10, gc_X10_mark, by decide, gn_X10_mark⟩
set_option maxRecDepth 100000 in
theorem gc_X11_mark : Cond.code yX11_mark cX11_mark 3 (some .boolean) ∈ gw := gw_tbl 1576 rfl rfl
theorem gn_X11_mark : (yX11_mark.cls ≠ "java/lang/invoke/MethodHandle" ∧ yX11_mark.cls ≠ "java/lang/invoke/VarHandle" ∧ (parseMethodDescriptor yX11_mark.desc).map (fun d => d.parameters.length) = some 2) := by decide +kernel
theorem gm_X11_mark : Cond.instanceMethod yX11_mark ∈ gw := gw_tbl 1574 (by decide +kernel) rfl
theorem gs_X11_mark : Cond.selects yX11_mark.cls yX11_mark yX11_mark ∈ gw := gw_tbl 1575 (by decide +kernel) rfl
theorem vc_L_115 : zCV RL 115 yX11_mark cX11_mark 3 (some .boolean) 2 := ⟨gw_tbl 1573 (by decide +kernel) rfl, gm_X11_mark, gs_X11_mark, gi_RX11, gc_X11_mark, by decide, gn_X11_mark⟩
set_option maxRecDepth 100000 in
theorem gc_X10_count : Cond.code yX10_count cX10_count 2 (some .int) ∈ gw := gw_tbl 986 rfl rfl
theorem gn_X10_count : (yX10_count.cls ≠ "java/lang/invoke/MethodHandle" ∧ yX10_count.cls ≠ "java/lang/invoke/VarHandle" ∧ (parseMethodDescriptor yX10_count.desc).map (fun d => d.parameters.length) = some 1) := by decide +kernel
theorem gm_X10_count : Cond.instanceMethod yX10_count ∈ gw := gw_tbl 984 (by decide +kernel) rfl
theorem gs_X10_count : Cond.selects yX10_count.cls yX10_count yX10_count ∈ gw := gw_tbl 985 (by decide +kernel) rfl
theorem vc_L_116 : zCV RL 116 yX10_count cX10_count 2 (some .int) 1 := ⟨gw_tbl 983 (by decide +kernel) rfl, gm_X10_count, gs_X10_count, gi_RX10, gc_X10_count, by decide, gn_X10_count⟩
set_option maxRecDepth 100000 in
theorem gc_X11_count : Cond.code yX11_count cX11_count 2 (some .int) ∈ gw := gw_tbl 1580 rfl rfl
theorem gn_X11_count : (yX11_count.cls ≠ "java/lang/invoke/MethodHandle" ∧ yX11_count.cls ≠ "java/lang/invoke/VarHandle" ∧ (parseMethodDescriptor yX11_count.desc).map (fun d => d.parameters.length) = some 1) := by decide +kernel
theorem gm_X11_count : Cond.instanceMethod yX11_count ∈ gw := gw_tbl 1578 (by decide +kernel) rfl
theorem gs_X11_count : Cond.selects yX11_count.cls yX11_count yX11_count ∈ gw := gw_tbl 1579 (by decide +kernel) rfl
theorem vc_L_119 : zCV RL 119 yX11_count cX11_count 2 (some .int) 1 := ⟨gw_tbl 1577 (by decide +kernel) rfl, gm_X11_count, gs_X11_count, gi_RX11, gc_X11_count, by decide, gn_X11_count⟩
set_option maxRecDepth 100000 in
theorem gc_X11_signAt : Cond.code yX11_signAt cX11_signAt 2 (some .int) ∈ gw := gw_tbl 1281 rfl rfl
theorem gn_X11_signAt : (yX11_signAt.cls ≠ "java/lang/invoke/MethodHandle" ∧ yX11_signAt.cls ≠ "java/lang/invoke/VarHandle" ∧ (parseMethodDescriptor yX11_signAt.desc).map (fun d => d.parameters.length) = some 1) := by decide +kernel
theorem gm_X11_signAt : Cond.instanceMethod yX11_signAt ∈ gw := gw_tbl 1280 (by decide +kernel) rfl
theorem gs_X11_signAt : Cond.selects yX11_signAt.cls yX11_signAt yX11_signAt ∈ gw := gw_sel 44 (by decide +kernel) rfl
theorem vc_X11_160 : zCV RX11 160 yX11_signAt cX11_signAt 2 (some .int) 1 := ⟨gw_tbl 1278 (by decide +kernel) rfl, gm_X11_signAt, gs_X11_signAt, gi_RX11, gc_X11_signAt, by decide, gn_X11_signAt⟩
set_option maxRecDepth 100000 in
theorem gc_X11_fact : Cond.code yX11_fact cX11_fact 1 (some .int) ∈ gw := gw_tbl 1384 rfl rfl
theorem gn_X11_fact : (yX11_fact.cls ≠ "java/lang/invoke/MethodHandle" ∧ yX11_fact.cls ≠ "java/lang/invoke/VarHandle" ∧ (parseMethodDescriptor yX11_fact.desc).map (fun d => d.parameters.length) = some 0) := by decide +kernel
theorem gm_X11_fact : Cond.instanceMethod yX11_fact ∈ gw := gw_tbl 1383 (by decide +kernel) rfl
theorem gs_X11_fact : Cond.selects yX11_fact.cls yX11_fact yX11_fact ∈ gw := gw_sel 62 (by decide +kernel) rfl
theorem vc_X11_184 : zCV RX11 184 yX11_fact cX11_fact 1 (some .int) 0 := ⟨gw_tbl 1381 (by decide +kernel) rfl, gm_X11_fact, gs_X11_fact, gi_RX11, gc_X11_fact, by decide, gn_X11_fact⟩
set_option maxRecDepth 100000 in
theorem gc_X11_isWord : Cond.code yX11_isWord cX11_isWord 3 (some .boolean) ∈ gw := gw_tbl 1288 rfl rfl
theorem gn_X11_isWord : (yX11_isWord.cls ≠ "java/lang/invoke/MethodHandle" ∧ yX11_isWord.cls ≠ "java/lang/invoke/VarHandle" ∧ (parseMethodDescriptor yX11_isWord.desc).map (fun d => d.parameters.length) = some 1) := by decide +kernel
theorem gm_X11_isWord : Cond.instanceMethod yX11_isWord ∈ gw := gw_tbl 1287 (by decide +kernel) rfl
theorem gs_X11_isWord : Cond.selects yX11_isWord.cls yX11_isWord yX11_isWord ∈ gw := gw_sel 45 (by decide +kernel) rfl
theorem vc_X11_190 : zCV RX11 190 yX11_isWord cX11_isWord 3 (some .boolean) 1 := ⟨gw_tbl 1285 (by decide +kernel) rfl, gm_X11_isWord, gs_X11_isWord, gi_RX11, gc_X11_isWord, by decide, gn_X11_isWord⟩
set_option maxRecDepth 100000 in
theorem gc_X11_isSign : Cond.code yX11_isSign cX11_isSign 2 (some .boolean) ∈ gw := gw_tbl 1356 rfl rfl
theorem gn_X11_isSign : (yX11_isSign.cls ≠ "java/lang/invoke/MethodHandle" ∧ yX11_isSign.cls ≠ "java/lang/invoke/VarHandle" ∧ (parseMethodDescriptor yX11_isSign.desc).map (fun d => d.parameters.length) = some 1) := by decide +kernel
theorem gm_X11_isSign : Cond.instanceMethod yX11_isSign ∈ gw := gw_tbl 1355 (by decide +kernel) rfl
theorem gs_X11_isSign : Cond.selects yX11_isSign.cls yX11_isSign yX11_isSign ∈ gw := gw_sel 55 (by decide +kernel) rfl
theorem vc_X11_194 : zCV RX11 194 yX11_isSign cX11_isSign 2 (some .boolean) 1 := ⟨gw_tbl 1353 (by decide +kernel) rfl, gm_X11_isSign, gs_X11_isSign, gi_RX11, gc_X11_isSign, by decide, gn_X11_isSign⟩
set_option maxRecDepth 100000 in
theorem gc_X11_fails : Cond.code yX11_fails cX11_fails 2 (some .boolean) ∈ gw := gw_tbl 1296 rfl rfl
theorem gn_X11_fails : (yX11_fails.cls ≠ "java/lang/invoke/MethodHandle" ∧ yX11_fails.cls ≠ "java/lang/invoke/VarHandle" ∧ (parseMethodDescriptor yX11_fails.desc).map (fun d => d.parameters.length) = some 1) := by decide +kernel
theorem gm_X11_fails : Cond.instanceMethod yX11_fails ∈ gw := gw_tbl 1295 (by decide +kernel) rfl
theorem gs_X11_fails : Cond.selects yX11_fails.cls yX11_fails yX11_fails ∈ gw := gw_sel 47 (by decide +kernel) rfl
theorem vc_X11_198 : zCV RX11 198 yX11_fails cX11_fails 2 (some .boolean) 1 := ⟨gw_tbl 1293 (by decide +kernel) rfl, gm_X11_fails, gs_X11_fails, gi_RX11, gc_X11_fails, by decide, gn_X11_fails⟩
set_option maxRecDepth 100000 in
theorem gc_X11_puts : Cond.code yX11_puts cX11_puts 2 none ∈ gw := gw_tbl 1388 rfl rfl
theorem gn_X11_puts : (yX11_puts.cls ≠ "java/lang/invoke/MethodHandle" ∧ yX11_puts.cls ≠ "java/lang/invoke/VarHandle" ∧ (parseMethodDescriptor yX11_puts.desc).map (fun d => d.parameters.length) = some 1) := by decide +kernel
theorem gm_X11_puts : Cond.instanceMethod yX11_puts ∈ gw := gw_tbl 1387 (by decide +kernel) rfl
theorem gs_X11_puts : Cond.selects yX11_puts.cls yX11_puts yX11_puts ∈ gw := gw_sel 63 (by decide +kernel) rfl
theorem vc_X11_201 : zCV RX11 201 yX11_puts cX11_puts 2 none 1 := ⟨gw_tbl 1385 (by decide +kernel) rfl, gm_X11_puts, gs_X11_puts, gi_RX11, gc_X11_puts, by decide, gn_X11_puts⟩
set_option maxRecDepth 100000 in
theorem gc_X11_nextToken : Cond.code yX11_nextToken cX11_nextToken 2 none ∈ gw := gw_tbl 1277 rfl rfl
theorem gn_X11_nextToken : (yX11_nextToken.cls ≠ "java/lang/invoke/MethodHandle" ∧ yX11_nextToken.cls ≠ "java/lang/invoke/VarHandle" ∧ (parseMethodDescriptor yX11_nextToken.desc).map (fun d => d.parameters.length) = some 0) := by decide +kernel
theorem gm_X11_nextToken : Cond.instanceMethod yX11_nextToken ∈ gw := gw_tbl 1276 (by decide +kernel) rfl
theorem gs_X11_nextToken : Cond.selects yX11_nextToken.cls yX11_nextToken yX11_nextToken ∈ gw := gw_sel 43 (by decide +kernel) rfl
theorem vc_X11_205 : zCV RX11 205 yX11_nextToken cX11_nextToken 2 none 0 := ⟨gw_tbl 1274 (by decide +kernel) rfl, gm_X11_nextToken, gs_X11_nextToken, gi_RX11, gc_X11_nextToken, by decide, gn_X11_nextToken⟩
set_option maxRecDepth 100000 in
theorem gc_X11_sums : Cond.code yX11_sums cX11_sums 2 none ∈ gw := gw_tbl 1552 rfl rfl
theorem gn_X11_sums : (yX11_sums.cls ≠ "java/lang/invoke/MethodHandle" ∧ yX11_sums.cls ≠ "java/lang/invoke/VarHandle" ∧ (parseMethodDescriptor yX11_sums.desc).map (fun d => d.parameters.length) = some 1) := by decide +kernel
theorem gm_X11_sums : Cond.instanceMethod yX11_sums ∈ gw := gw_tbl 1551 (by decide +kernel) rfl
theorem gs_X11_sums : Cond.selects yX11_sums.cls yX11_sums yX11_sums ∈ gw := gw_sel 86 (by decide +kernel) rfl
theorem vc_X11_212 : zCV RX11 212 yX11_sums cX11_sums 2 none 1 := ⟨gw_tbl 1549 (by decide +kernel) rfl, gm_X11_sums, gs_X11_sums, gi_RX11, gc_X11_sums, by decide, gn_X11_sums⟩
set_option maxRecDepth 100000 in
theorem gc_X11_opens : Cond.code yX11_opens cX11_opens 2 none ∈ gw := gw_tbl 1548 rfl rfl
theorem gn_X11_opens : (yX11_opens.cls ≠ "java/lang/invoke/MethodHandle" ∧ yX11_opens.cls ≠ "java/lang/invoke/VarHandle" ∧ (parseMethodDescriptor yX11_opens.desc).map (fun d => d.parameters.length) = some 1) := by decide +kernel
theorem gm_X11_opens : Cond.instanceMethod yX11_opens ∈ gw := gw_tbl 1547 (by decide +kernel) rfl
theorem gs_X11_opens : Cond.selects yX11_opens.cls yX11_opens yX11_opens ∈ gw := gw_sel 85 (by decide +kernel) rfl
theorem vc_X11_215 : zCV RX11 215 yX11_opens cX11_opens 2 none 1 := ⟨gw_tbl 1545 (by decide +kernel) rfl, gm_X11_opens, gs_X11_opens, gi_RX11, gc_X11_opens, by decide, gn_X11_opens⟩
set_option maxRecDepth 100000 in
theorem gc_X11_tests : Cond.code yX11_tests cX11_tests 3 none ∈ gw := gw_tbl 1556 rfl rfl
theorem gn_X11_tests : (yX11_tests.cls ≠ "java/lang/invoke/MethodHandle" ∧ yX11_tests.cls ≠ "java/lang/invoke/VarHandle" ∧ (parseMethodDescriptor yX11_tests.desc).map (fun d => d.parameters.length) = some 1) := by decide +kernel
theorem gm_X11_tests : Cond.instanceMethod yX11_tests ∈ gw := gw_tbl 1555 (by decide +kernel) rfl
theorem gs_X11_tests : Cond.selects yX11_tests.cls yX11_tests yX11_tests ∈ gw := gw_sel 87 (by decide +kernel) rfl
theorem vc_X11_218 : zCV RX11 218 yX11_tests cX11_tests 3 none 1 := ⟨gw_tbl 1553 (by decide +kernel) rfl, gm_X11_tests, gs_X11_tests, gi_RX11, gc_X11_tests, by decide, gn_X11_tests⟩
set_option maxRecDepth 100000 in
theorem gc_X11_within : Cond.code yX11_within cX11_within 3 (some .boolean) ∈ gw := gw_tbl 1348 rfl rfl
theorem gn_X11_within : (yX11_within.cls ≠ "java/lang/invoke/MethodHandle" ∧ yX11_within.cls ≠ "java/lang/invoke/VarHandle" ∧ (parseMethodDescriptor yX11_within.desc).map (fun d => d.parameters.length) = some 3) := by decide +kernel
theorem gt_X11_within : Cond.static yX11_within ∈ gw := gw_tbl 1347 (by decide +kernel) rfl
theorem sc_X11_257 : zCS RX11 257 yX11_within cX11_within 3 (some .boolean) 3 := ⟨gw_tbl 1346 (by decide +kernel) rfl, gt_X11_within, gi_RX11, gc_X11_within, by decide, gn_X11_within⟩
set_option maxRecDepth 100000 in
theorem gc_X11_isKept : Cond.code yX11_isKept cX11_isKept 1 (some .boolean) ∈ gw := gw_tbl 1304 rfl rfl
theorem gn_X11_isKept : (yX11_isKept.cls ≠ "java/lang/invoke/MethodHandle" ∧ yX11_isKept.cls ≠ "java/lang/invoke/VarHandle" ∧ (parseMethodDescriptor yX11_isKept.desc).map (fun d => d.parameters.length) = some 0) := by decide +kernel
theorem gm_X11_isKept : Cond.instanceMethod yX11_isKept ∈ gw := gw_tbl 1303 (by decide +kernel) rfl
theorem gs_X11_isKept : Cond.selects yX11_isKept.cls yX11_isKept yX11_isKept ∈ gw := gw_sel 49 (by decide +kernel) rfl
theorem vc_X11_264 : zCV RX11 264 yX11_isKept cX11_isKept 1 (some .boolean) 0 := ⟨gw_tbl 1301 (by decide +kernel) rfl, gm_X11_isKept, gs_X11_isKept, gi_RX11, gc_X11_isKept, by decide, gn_X11_isKept⟩
set_option maxRecDepth 100000 in
theorem gc_X11_personNamed : Cond.code yX11_personNamed cX11_personNamed 2 (some .int) ∈ gw := gw_tbl 1333 rfl rfl
theorem gn_X11_personNamed : (yX11_personNamed.cls ≠ "java/lang/invoke/MethodHandle" ∧ yX11_personNamed.cls ≠ "java/lang/invoke/VarHandle" ∧ (parseMethodDescriptor yX11_personNamed.desc).map (fun d => d.parameters.length) = some 0) := by decide +kernel
theorem gm_X11_personNamed : Cond.instanceMethod yX11_personNamed ∈ gw := gw_tbl 1332 (by decide +kernel) rfl
theorem gs_X11_personNamed : Cond.selects yX11_personNamed.cls yX11_personNamed yX11_personNamed ∈ gw := gw_sel 50 (by decide +kernel) rfl
theorem vc_X11_268 : zCV RX11 268 yX11_personNamed cX11_personNamed 2 (some .int) 0 := ⟨gw_tbl 1330 (by decide +kernel) rfl, gm_X11_personNamed, gs_X11_personNamed, gi_RX11, gc_X11_personNamed, by decide, gn_X11_personNamed⟩
set_option maxRecDepth 100000 in
theorem gc_X11_hillNamed : Cond.code yX11_hillNamed cX11_hillNamed 2 (some .int) ∈ gw := gw_tbl 1337 rfl rfl
theorem gn_X11_hillNamed : (yX11_hillNamed.cls ≠ "java/lang/invoke/MethodHandle" ∧ yX11_hillNamed.cls ≠ "java/lang/invoke/VarHandle" ∧ (parseMethodDescriptor yX11_hillNamed.desc).map (fun d => d.parameters.length) = some 0) := by decide +kernel
theorem gm_X11_hillNamed : Cond.instanceMethod yX11_hillNamed ∈ gw := gw_tbl 1336 (by decide +kernel) rfl
theorem gs_X11_hillNamed : Cond.selects yX11_hillNamed.cls yX11_hillNamed yX11_hillNamed ∈ gw := gw_sel 51 (by decide +kernel) rfl
theorem vc_X11_271 : zCV RX11 271 yX11_hillNamed cX11_hillNamed 2 (some .int) 0 := ⟨gw_tbl 1334 (by decide +kernel) rfl, gm_X11_hillNamed, gs_X11_hillNamed, gi_RX11, gc_X11_hillNamed, by decide, gn_X11_hillNamed⟩
set_option maxRecDepth 100000 in
theorem gc_X11_isNew : Cond.code yX11_isNew cX11_isNew 1 (some .boolean) ∈ gw := gw_tbl 1300 rfl rfl
theorem gn_X11_isNew : (yX11_isNew.cls ≠ "java/lang/invoke/MethodHandle" ∧ yX11_isNew.cls ≠ "java/lang/invoke/VarHandle" ∧ (parseMethodDescriptor yX11_isNew.desc).map (fun d => d.parameters.length) = some 0) := by decide +kernel
theorem gm_X11_isNew : Cond.instanceMethod yX11_isNew ∈ gw := gw_tbl 1299 (by decide +kernel) rfl
theorem gs_X11_isNew : Cond.selects yX11_isNew.cls yX11_isNew yX11_isNew ∈ gw := gw_sel 48 (by decide +kernel) rfl
theorem vc_X11_274 : zCV RX11 274 yX11_isNew cX11_isNew 1 (some .boolean) 0 := ⟨gw_tbl 1297 (by decide +kernel) rfl, gm_X11_isNew, gs_X11_isNew, gi_RX11, gc_X11_isNew, by decide, gn_X11_isNew⟩
set_option maxRecDepth 100000 in
theorem gc_X11_needsWord : Cond.code yX11_needsWord cX11_needsWord 3 (some .boolean) ∈ gw := gw_tbl 1341 rfl rfl
theorem gn_X11_needsWord : (yX11_needsWord.cls ≠ "java/lang/invoke/MethodHandle" ∧ yX11_needsWord.cls ≠ "java/lang/invoke/VarHandle" ∧ (parseMethodDescriptor yX11_needsWord.desc).map (fun d => d.parameters.length) = some 1) := by decide +kernel
theorem gm_X11_needsWord : Cond.instanceMethod yX11_needsWord ∈ gw := gw_tbl 1340 (by decide +kernel) rfl
theorem gs_X11_needsWord : Cond.selects yX11_needsWord.cls yX11_needsWord yX11_needsWord ∈ gw := gw_sel 52 (by decide +kernel) rfl
theorem vc_X11_277 : zCV RX11 277 yX11_needsWord cX11_needsWord 3 (some .boolean) 1 := ⟨gw_tbl 1338 (by decide +kernel) rfl, gm_X11_needsWord, gs_X11_needsWord, gi_RX11, gc_X11_needsWord, by decide, gn_X11_needsWord⟩
set_option maxRecDepth 100000 in
theorem gc_X11_needsNumber : Cond.code yX11_needsNumber cX11_needsNumber 3 (some .boolean) ∈ gw := gw_tbl 1345 rfl rfl
theorem gn_X11_needsNumber : (yX11_needsNumber.cls ≠ "java/lang/invoke/MethodHandle" ∧ yX11_needsNumber.cls ≠ "java/lang/invoke/VarHandle" ∧ (parseMethodDescriptor yX11_needsNumber.desc).map (fun d => d.parameters.length) = some 2) := by decide +kernel
theorem gm_X11_needsNumber : Cond.instanceMethod yX11_needsNumber ∈ gw := gw_tbl 1344 (by decide +kernel) rfl
theorem gs_X11_needsNumber : Cond.selects yX11_needsNumber.cls yX11_needsNumber yX11_needsNumber ∈ gw := gw_sel 53 (by decide +kernel) rfl
theorem vc_X11_280 : zCV RX11 280 yX11_needsNumber cX11_needsNumber 3 (some .boolean) 2 := ⟨gw_tbl 1342 (by decide +kernel) rfl, gm_X11_needsNumber, gs_X11_needsNumber, gi_RX11, gc_X11_needsNumber, by decide, gn_X11_needsNumber⟩
set_option maxRecDepth 100000 in
theorem gc_X11_ends : Cond.code yX11_ends cX11_ends 1 (some .boolean) ∈ gw := gw_tbl 1352 rfl rfl
theorem gn_X11_ends : (yX11_ends.cls ≠ "java/lang/invoke/MethodHandle" ∧ yX11_ends.cls ≠ "java/lang/invoke/VarHandle" ∧ (parseMethodDescriptor yX11_ends.desc).map (fun d => d.parameters.length) = some 0) := by decide +kernel
theorem gm_X11_ends : Cond.instanceMethod yX11_ends ∈ gw := gw_tbl 1351 (by decide +kernel) rfl
theorem gs_X11_ends : Cond.selects yX11_ends.cls yX11_ends yX11_ends ∈ gw := gw_sel 54 (by decide +kernel) rfl
theorem vc_X11_284 : zCV RX11 284 yX11_ends cX11_ends 1 (some .boolean) 0 := ⟨gw_tbl 1349 (by decide +kernel) rfl, gm_X11_ends, gs_X11_ends, gi_RX11, gc_X11_ends, by decide, gn_X11_ends⟩
set_option maxRecDepth 100000 in
theorem gc_X11_needsPerson : Cond.code yX11_needsPerson cX11_needsPerson 3 (some .boolean) ∈ gw := gw_tbl 1368 rfl rfl
theorem gn_X11_needsPerson : (yX11_needsPerson.cls ≠ "java/lang/invoke/MethodHandle" ∧ yX11_needsPerson.cls ≠ "java/lang/invoke/VarHandle" ∧ (parseMethodDescriptor yX11_needsPerson.desc).map (fun d => d.parameters.length) = some 2) := by decide +kernel
theorem gm_X11_needsPerson : Cond.instanceMethod yX11_needsPerson ∈ gw := gw_tbl 1367 (by decide +kernel) rfl
theorem gs_X11_needsPerson : Cond.selects yX11_needsPerson.cls yX11_needsPerson yX11_needsPerson ∈ gw := gw_sel 58 (by decide +kernel) rfl
theorem vc_X11_287 : zCV RX11 287 yX11_needsPerson cX11_needsPerson 3 (some .boolean) 2 := ⟨gw_tbl 1365 (by decide +kernel) rfl, gm_X11_needsPerson, gs_X11_needsPerson, gi_RX11, gc_X11_needsPerson, by decide, gn_X11_needsPerson⟩
set_option maxRecDepth 100000 in
theorem gc_X11_kindAt : Cond.code yX11_kindAt cX11_kindAt 1 (some .int) ∈ gw := gw_tbl 1372 rfl rfl
theorem gn_X11_kindAt : (yX11_kindAt.cls ≠ "java/lang/invoke/MethodHandle" ∧ yX11_kindAt.cls ≠ "java/lang/invoke/VarHandle" ∧ (parseMethodDescriptor yX11_kindAt.desc).map (fun d => d.parameters.length) = some 0) := by decide +kernel
theorem gm_X11_kindAt : Cond.instanceMethod yX11_kindAt ∈ gw := gw_tbl 1371 (by decide +kernel) rfl
theorem gs_X11_kindAt : Cond.selects yX11_kindAt.cls yX11_kindAt yX11_kindAt ∈ gw := gw_sel 59 (by decide +kernel) rfl
theorem vc_X11_290 : zCV RX11 290 yX11_kindAt cX11_kindAt 1 (some .int) 0 := ⟨gw_tbl 1369 (by decide +kernel) rfl, gm_X11_kindAt, gs_X11_kindAt, gi_RX11, gc_X11_kindAt, by decide, gn_X11_kindAt⟩
set_option maxRecDepth 100000 in
theorem gc_X11_reads : Cond.code yX11_reads cX11_reads 6 (some .boolean) ∈ gw := gw_tbl 1380 rfl rfl
theorem gn_X11_reads : (yX11_reads.cls ≠ "java/lang/invoke/MethodHandle" ∧ yX11_reads.cls ≠ "java/lang/invoke/VarHandle" ∧ (parseMethodDescriptor yX11_reads.desc).map (fun d => d.parameters.length) = some 0) := by decide +kernel
theorem gm_X11_reads : Cond.instanceMethod yX11_reads ∈ gw := gw_tbl 1379 (by decide +kernel) rfl
theorem gs_X11_reads : Cond.selects yX11_reads.cls yX11_reads yX11_reads ∈ gw := gw_sel 61 (by decide +kernel) rfl
theorem vc_X11_293 : zCV RX11 293 yX11_reads cX11_reads 6 (some .boolean) 0 := ⟨gw_tbl 1377 (by decide +kernel) rfl, gm_X11_reads, gs_X11_reads, gi_RX11, gc_X11_reads, by decide, gn_X11_reads⟩
set_option maxRecDepth 100000 in
theorem gc_X11_readsHill : Cond.code yX11_readsHill cX11_readsHill 2 (some .boolean) ∈ gw := gw_tbl 1292 rfl rfl
theorem gn_X11_readsHill : (yX11_readsHill.cls ≠ "java/lang/invoke/MethodHandle" ∧ yX11_readsHill.cls ≠ "java/lang/invoke/VarHandle" ∧ (parseMethodDescriptor yX11_readsHill.desc).map (fun d => d.parameters.length) = some 0) := by decide +kernel
theorem gm_X11_readsHill : Cond.instanceMethod yX11_readsHill ∈ gw := gw_tbl 1291 (by decide +kernel) rfl
theorem gs_X11_readsHill : Cond.selects yX11_readsHill.cls yX11_readsHill yX11_readsHill ∈ gw := gw_sel 46 (by decide +kernel) rfl
theorem vc_X11_296 : zCV RX11 296 yX11_readsHill cX11_readsHill 2 (some .boolean) 0 := ⟨gw_tbl 1289 (by decide +kernel) rfl, gm_X11_readsHill, gs_X11_readsHill, gi_RX11, gc_X11_readsHill, by decide, gn_X11_readsHill⟩
set_option maxRecDepth 100000 in
theorem gc_X11_readsPurse : Cond.code yX11_readsPurse cX11_readsPurse 2 (some .boolean) ∈ gw := gw_tbl 1360 rfl rfl
theorem gn_X11_readsPurse : (yX11_readsPurse.cls ≠ "java/lang/invoke/MethodHandle" ∧ yX11_readsPurse.cls ≠ "java/lang/invoke/VarHandle" ∧ (parseMethodDescriptor yX11_readsPurse.desc).map (fun d => d.parameters.length) = some 0) := by decide +kernel
theorem gm_X11_readsPurse : Cond.instanceMethod yX11_readsPurse ∈ gw := gw_tbl 1359 (by decide +kernel) rfl
theorem gs_X11_readsPurse : Cond.selects yX11_readsPurse.cls yX11_readsPurse yX11_readsPurse ∈ gw := gw_sel 56 (by decide +kernel) rfl
theorem vc_X11_299 : zCV RX11 299 yX11_readsPurse cX11_readsPurse 2 (some .boolean) 0 := ⟨gw_tbl 1357 (by decide +kernel) rfl, gm_X11_readsPurse, gs_X11_readsPurse, gi_RX11, gc_X11_readsPurse, by decide, gn_X11_readsPurse⟩
set_option maxRecDepth 100000 in
theorem gc_X11_readsLoan : Cond.code yX11_readsLoan cX11_readsLoan 2 (some .boolean) ∈ gw := gw_tbl 1364 rfl rfl
theorem gn_X11_readsLoan : (yX11_readsLoan.cls ≠ "java/lang/invoke/MethodHandle" ∧ yX11_readsLoan.cls ≠ "java/lang/invoke/VarHandle" ∧ (parseMethodDescriptor yX11_readsLoan.desc).map (fun d => d.parameters.length) = some 0) := by decide +kernel
theorem gm_X11_readsLoan : Cond.instanceMethod yX11_readsLoan ∈ gw := gw_tbl 1363 (by decide +kernel) rfl
theorem gs_X11_readsLoan : Cond.selects yX11_readsLoan.cls yX11_readsLoan yX11_readsLoan ∈ gw := gw_sel 57 (by decide +kernel) rfl
theorem vc_X11_302 : zCV RX11 302 yX11_readsLoan cX11_readsLoan 2 (some .boolean) 0 := ⟨gw_tbl 1361 (by decide +kernel) rfl, gm_X11_readsLoan, gs_X11_readsLoan, gi_RX11, gc_X11_readsLoan, by decide, gn_X11_readsLoan⟩
set_option maxRecDepth 100000 in
theorem gc_X11_readsBet : Cond.code yX11_readsBet cX11_readsBet 2 (some .boolean) ∈ gw := gw_tbl 1376 rfl rfl
theorem gn_X11_readsBet : (yX11_readsBet.cls ≠ "java/lang/invoke/MethodHandle" ∧ yX11_readsBet.cls ≠ "java/lang/invoke/VarHandle" ∧ (parseMethodDescriptor yX11_readsBet.desc).map (fun d => d.parameters.length) = some 0) := by decide +kernel
theorem gm_X11_readsBet : Cond.instanceMethod yX11_readsBet ∈ gw := gw_tbl 1375 (by decide +kernel) rfl
theorem gs_X11_readsBet : Cond.selects yX11_readsBet.cls yX11_readsBet yX11_readsBet ∈ gw := gw_sel 60 (by decide +kernel) rfl
theorem vc_X11_305 : zCV RX11 305 yX11_readsBet cX11_readsBet 2 (some .boolean) 0 := ⟨gw_tbl 1373 (by decide +kernel) rfl, gm_X11_readsBet, gs_X11_readsBet, gi_RX11, gc_X11_readsBet, by decide, gn_X11_readsBet⟩
set_option maxRecDepth 100000 in
theorem gc_X11_moves : Cond.code yX11_moves cX11_moves 5 none ∈ gw := gw_tbl 1395 rfl rfl
theorem gn_X11_moves : (yX11_moves.cls ≠ "java/lang/invoke/MethodHandle" ∧ yX11_moves.cls ≠ "java/lang/invoke/VarHandle" ∧ (parseMethodDescriptor yX11_moves.desc).map (fun d => d.parameters.length) = some 4) := by decide +kernel
theorem gt_X11_moves : Cond.static yX11_moves ∈ gw := gw_tbl 1394 (by decide +kernel) rfl
theorem sc_X11_308 : zCS RX11 308 yX11_moves cX11_moves 5 none 4 := ⟨gw_tbl 1393 (by decide +kernel) rfl, gt_X11_moves, gi_RX11, gc_X11_moves, by decide, gn_X11_moves⟩
set_option maxRecDepth 100000 in
theorem gc_X11_readsAll : Cond.code yX11_readsAll cX11_readsAll 2 (some .boolean) ∈ gw := gw_tbl 1273 rfl rfl
theorem gn_X11_readsAll : (yX11_readsAll.cls ≠ "java/lang/invoke/MethodHandle" ∧ yX11_readsAll.cls ≠ "java/lang/invoke/VarHandle" ∧ (parseMethodDescriptor yX11_readsAll.desc).map (fun d => d.parameters.length) = some 0) := by decide +kernel
theorem gm_X11_readsAll : Cond.instanceMethod yX11_readsAll ∈ gw := gw_tbl 1272 (by decide +kernel) rfl
theorem gs_X11_readsAll : Cond.selects yX11_readsAll.cls yX11_readsAll yX11_readsAll ∈ gw := gw_sel 42 (by decide +kernel) rfl
theorem vc_X11_312 : zCV RX11 312 yX11_readsAll cX11_readsAll 2 (some .boolean) 0 := ⟨gw_tbl 1270 (by decide +kernel) rfl, gm_X11_readsAll, gs_X11_readsAll, gi_RX11, gc_X11_readsAll, by decide, gn_X11_readsAll⟩
set_option maxRecDepth 100000 in
theorem gc_X11_lays : Cond.code yX11_lays cX11_lays 4 none ∈ gw := gw_tbl 1392 rfl rfl
theorem gn_X11_lays : (yX11_lays.cls ≠ "java/lang/invoke/MethodHandle" ∧ yX11_lays.cls ≠ "java/lang/invoke/VarHandle" ∧ (parseMethodDescriptor yX11_lays.desc).map (fun d => d.parameters.length) = some 2) := by decide +kernel
theorem gm_X11_lays : Cond.instanceMethod yX11_lays ∈ gw := gw_tbl 1391 (by decide +kernel) rfl
theorem gs_X11_lays : Cond.selects yX11_lays.cls yX11_lays yX11_lays ∈ gw := gw_sel 64 (by decide +kernel) rfl
theorem vc_X11_315 : zCV RX11 315 yX11_lays cX11_lays 4 none 2 := ⟨gw_tbl 1389 (by decide +kernel) rfl, gm_X11_lays, gs_X11_lays, gi_RX11, gc_X11_lays, by decide, gn_X11_lays⟩
set_option maxRecDepth 100000 in
theorem gc_X11_isHill : Cond.code yX11_isHill cX11_isHill 2 (some .boolean) ∈ gw := gw_tbl 1403 rfl rfl
theorem gn_X11_isHill : (yX11_isHill.cls ≠ "java/lang/invoke/MethodHandle" ∧ yX11_isHill.cls ≠ "java/lang/invoke/VarHandle" ∧ (parseMethodDescriptor yX11_isHill.desc).map (fun d => d.parameters.length) = some 1) := by decide +kernel
theorem gm_X11_isHill : Cond.instanceMethod yX11_isHill ∈ gw := gw_tbl 1402 (by decide +kernel) rfl
theorem gs_X11_isHill : Cond.selects yX11_isHill.cls yX11_isHill yX11_isHill ∈ gw := gw_sel 65 (by decide +kernel) rfl
theorem vc_X11_322 : zCV RX11 322 yX11_isHill cX11_isHill 2 (some .boolean) 1 := ⟨gw_tbl 1400 (by decide +kernel) rfl, gm_X11_isHill, gs_X11_isHill, gi_RX11, gc_X11_isHill, by decide, gn_X11_isHill⟩
set_option maxRecDepth 100000 in
theorem gc_X11_isPerson : Cond.code yX11_isPerson cX11_isPerson 2 (some .boolean) ∈ gw := gw_tbl 1411 rfl rfl
theorem gn_X11_isPerson : (yX11_isPerson.cls ≠ "java/lang/invoke/MethodHandle" ∧ yX11_isPerson.cls ≠ "java/lang/invoke/VarHandle" ∧ (parseMethodDescriptor yX11_isPerson.desc).map (fun d => d.parameters.length) = some 1) := by decide +kernel
theorem gm_X11_isPerson : Cond.instanceMethod yX11_isPerson ∈ gw := gw_tbl 1410 (by decide +kernel) rfl
theorem gs_X11_isPerson : Cond.selects yX11_isPerson.cls yX11_isPerson yX11_isPerson ∈ gw := gw_sel 66 (by decide +kernel) rfl
theorem vc_X11_325 : zCV RX11 325 yX11_isPerson cX11_isPerson 2 (some .boolean) 1 := ⟨gw_tbl 1408 (by decide +kernel) rfl, gm_X11_isPerson, gs_X11_isPerson, gi_RX11, gc_X11_isPerson, by decide, gn_X11_isPerson⟩
set_option maxRecDepth 100000 in
theorem gc_X11_isLoan : Cond.code yX11_isLoan cX11_isLoan 2 (some .boolean) ∈ gw := gw_tbl 1419 rfl rfl
theorem gn_X11_isLoan : (yX11_isLoan.cls ≠ "java/lang/invoke/MethodHandle" ∧ yX11_isLoan.cls ≠ "java/lang/invoke/VarHandle" ∧ (parseMethodDescriptor yX11_isLoan.desc).map (fun d => d.parameters.length) = some 1) := by decide +kernel
theorem gm_X11_isLoan : Cond.instanceMethod yX11_isLoan ∈ gw := gw_tbl 1418 (by decide +kernel) rfl
theorem gs_X11_isLoan : Cond.selects yX11_isLoan.cls yX11_isLoan yX11_isLoan ∈ gw := gw_sel 67 (by decide +kernel) rfl
theorem vc_X11_328 : zCV RX11 328 yX11_isLoan cX11_isLoan 2 (some .boolean) 1 := ⟨gw_tbl 1416 (by decide +kernel) rfl, gm_X11_isLoan, gs_X11_isLoan, gi_RX11, gc_X11_isLoan, by decide, gn_X11_isLoan⟩
theorem sc_X11_331 : zCS RX11 331 yJ9_min_7cf53 cJ9_min_7cf53 2 (some .int) 2 := ⟨gw_tbl 1455 (by decide +kernel) rfl, gt_J9_min_7cf53, gi_RJ9, gc_J9_min_7cf53, by decide, gn_J9_min_7cf53⟩
set_option maxRecDepth 100000 in
theorem gc_X11_isFlood : Cond.code yX11_isFlood cX11_isFlood 2 (some .boolean) ∈ gw := gw_tbl 1446 rfl rfl
theorem gn_X11_isFlood : (yX11_isFlood.cls ≠ "java/lang/invoke/MethodHandle" ∧ yX11_isFlood.cls ≠ "java/lang/invoke/VarHandle" ∧ (parseMethodDescriptor yX11_isFlood.desc).map (fun d => d.parameters.length) = some 1) := by decide +kernel
theorem gm_X11_isFlood : Cond.instanceMethod yX11_isFlood ∈ gw := gw_tbl 1445 (by decide +kernel) rfl
theorem gs_X11_isFlood : Cond.selects yX11_isFlood.cls yX11_isFlood yX11_isFlood ∈ gw := gw_sel 72 (by decide +kernel) rfl
theorem vc_X11_340 : zCV RX11 340 yX11_isFlood cX11_isFlood 2 (some .boolean) 1 := ⟨gw_tbl 1443 (by decide +kernel) rfl, gm_X11_isFlood, gs_X11_isFlood, gi_RX11, gc_X11_isFlood, by decide, gn_X11_isFlood⟩
set_option maxRecDepth 100000 in
theorem gc_X11_isRipe : Cond.code yX11_isRipe cX11_isRipe 6 (some .boolean) ∈ gw := gw_tbl 1450 rfl rfl
theorem gn_X11_isRipe : (yX11_isRipe.cls ≠ "java/lang/invoke/MethodHandle" ∧ yX11_isRipe.cls ≠ "java/lang/invoke/VarHandle" ∧ (parseMethodDescriptor yX11_isRipe.desc).map (fun d => d.parameters.length) = some 2) := by decide +kernel
theorem gm_X11_isRipe : Cond.instanceMethod yX11_isRipe ∈ gw := gw_tbl 1449 (by decide +kernel) rfl
theorem gs_X11_isRipe : Cond.selects yX11_isRipe.cls yX11_isRipe yX11_isRipe ∈ gw := gw_sel 73 (by decide +kernel) rfl
theorem vc_X11_343 : zCV RX11 343 yX11_isRipe cX11_isRipe 6 (some .boolean) 2 := ⟨gw_tbl 1447 (by decide +kernel) rfl, gm_X11_isRipe, gs_X11_isRipe, gi_RX11, gc_X11_isRipe, by decide, gn_X11_isRipe⟩
set_option maxRecDepth 100000 in
theorem gc_X11_fallsDue : Cond.code yX11_fallsDue cX11_fallsDue 5 none ∈ gw := gw_tbl 1442 rfl rfl
theorem gn_X11_fallsDue : (yX11_fallsDue.cls ≠ "java/lang/invoke/MethodHandle" ∧ yX11_fallsDue.cls ≠ "java/lang/invoke/VarHandle" ∧ (parseMethodDescriptor yX11_fallsDue.desc).map (fun d => d.parameters.length) = some 1) := by decide +kernel
theorem gm_X11_fallsDue : Cond.instanceMethod yX11_fallsDue ∈ gw := gw_tbl 1441 (by decide +kernel) rfl
theorem gs_X11_fallsDue : Cond.selects yX11_fallsDue.cls yX11_fallsDue yX11_fallsDue ∈ gw := gw_sel 71 (by decide +kernel) rfl
theorem vc_X11_346 : zCV RX11 346 yX11_fallsDue cX11_fallsDue 5 none 1 := ⟨gw_tbl 1439 (by decide +kernel) rfl, gm_X11_fallsDue, gs_X11_fallsDue, gi_RX11, gc_X11_fallsDue, by decide, gn_X11_fallsDue⟩
set_option maxRecDepth 100000 in
theorem gc_X11_takes : Cond.code yX11_takes cX11_takes 4 none ∈ gw := gw_tbl 1454 rfl rfl
theorem gn_X11_takes : (yX11_takes.cls ≠ "java/lang/invoke/MethodHandle" ∧ yX11_takes.cls ≠ "java/lang/invoke/VarHandle" ∧ (parseMethodDescriptor yX11_takes.desc).map (fun d => d.parameters.length) = some 2) := by decide +kernel
theorem gm_X11_takes : Cond.instanceMethod yX11_takes ∈ gw := gw_tbl 1453 (by decide +kernel) rfl
theorem gs_X11_takes : Cond.selects yX11_takes.cls yX11_takes yX11_takes ∈ gw := gw_sel 74 (by decide +kernel) rfl
theorem vc_X11_349 : zCV RX11 349 yX11_takes cX11_takes 4 none 2 := ⟨gw_tbl 1451 (by decide +kernel) rfl, gm_X11_takes, gs_X11_takes, gi_RX11, gc_X11_takes, by decide, gn_X11_takes⟩
set_option maxRecDepth 100000 in
theorem gc_X11_copies : Cond.code yX11_copies cX11_copies 5 none ∈ gw := gw_tbl 1434 rfl rfl
theorem gn_X11_copies : (yX11_copies.cls ≠ "java/lang/invoke/MethodHandle" ∧ yX11_copies.cls ≠ "java/lang/invoke/VarHandle" ∧ (parseMethodDescriptor yX11_copies.desc).map (fun d => d.parameters.length) = some 4) := by decide +kernel
theorem gt_X11_copies : Cond.static yX11_copies ∈ gw := gw_tbl 1433 (by decide +kernel) rfl
theorem sc_X11_352 : zCS RX11 352 yX11_copies cX11_copies 5 none 4 := ⟨gw_tbl 1432 (by decide +kernel) rfl, gt_X11_copies, gi_RX11, gc_X11_copies, by decide, gn_X11_copies⟩
set_option maxRecDepth 100000 in
theorem gc_X11_isWeather : Cond.code yX11_isWeather cX11_isWeather 2 (some .boolean) ∈ gw := gw_tbl 1427 rfl rfl
theorem gn_X11_isWeather : (yX11_isWeather.cls ≠ "java/lang/invoke/MethodHandle" ∧ yX11_isWeather.cls ≠ "java/lang/invoke/VarHandle" ∧ (parseMethodDescriptor yX11_isWeather.desc).map (fun d => d.parameters.length) = some 1) := by decide +kernel
theorem gm_X11_isWeather : Cond.instanceMethod yX11_isWeather ∈ gw := gw_tbl 1426 (by decide +kernel) rfl
theorem gs_X11_isWeather : Cond.selects yX11_isWeather.cls yX11_isWeather yX11_isWeather ∈ gw := gw_sel 68 (by decide +kernel) rfl
theorem vc_X11_356 : zCV RX11 356 yX11_isWeather cX11_isWeather 2 (some .boolean) 1 := ⟨gw_tbl 1424 (by decide +kernel) rfl, gm_X11_isWeather, gs_X11_isWeather, gi_RX11, gc_X11_isWeather, by decide, gn_X11_isWeather⟩
set_option maxRecDepth 100000 in
theorem gc_X11_keeps : Cond.code yX11_keeps cX11_keeps 2 none ∈ gw := gw_tbl 1431 rfl rfl
theorem gn_X11_keeps : (yX11_keeps.cls ≠ "java/lang/invoke/MethodHandle" ∧ yX11_keeps.cls ≠ "java/lang/invoke/VarHandle" ∧ (parseMethodDescriptor yX11_keeps.desc).map (fun d => d.parameters.length) = some 0) := by decide +kernel
theorem gm_X11_keeps : Cond.instanceMethod yX11_keeps ∈ gw := gw_tbl 1430 (by decide +kernel) rfl
theorem gs_X11_keeps : Cond.selects yX11_keeps.cls yX11_keeps yX11_keeps ∈ gw := gw_sel 69 (by decide +kernel) rfl
theorem vc_X11_359 : zCV RX11 359 yX11_keeps cX11_keeps 2 none 0 := ⟨gw_tbl 1428 (by decide +kernel) rfl, gm_X11_keeps, gs_X11_keeps, gi_RX11, gc_X11_keeps, by decide, gn_X11_keeps⟩
set_option maxRecDepth 100000 in
theorem gc_X11_goes : Cond.code yX11_goes cX11_goes 4 none ∈ gw := gw_tbl 1438 rfl rfl
theorem gn_X11_goes : (yX11_goes.cls ≠ "java/lang/invoke/MethodHandle" ∧ yX11_goes.cls ≠ "java/lang/invoke/VarHandle" ∧ (parseMethodDescriptor yX11_goes.desc).map (fun d => d.parameters.length) = some 1) := by decide +kernel
theorem gm_X11_goes : Cond.instanceMethod yX11_goes ∈ gw := gw_tbl 1437 (by decide +kernel) rfl
theorem gs_X11_goes : Cond.selects yX11_goes.cls yX11_goes yX11_goes ∈ gw := gw_sel 70 (by decide +kernel) rfl
theorem vc_X11_362 : zCV RX11 362 yX11_goes cX11_goes 4 none 1 := ⟨gw_tbl 1435 (by decide +kernel) rfl, gm_X11_goes, gs_X11_goes, gi_RX11, gc_X11_goes, by decide, gn_X11_goes⟩
set_option maxRecDepth 100000 in
theorem gc_X11_dues : Cond.code yX11_dues cX11_dues 3 (some .int) ∈ gw := gw_tbl 1459 rfl rfl
theorem gn_X11_dues : (yX11_dues.cls ≠ "java/lang/invoke/MethodHandle" ∧ yX11_dues.cls ≠ "java/lang/invoke/VarHandle" ∧ (parseMethodDescriptor yX11_dues.desc).map (fun d => d.parameters.length) = some 0) := by decide +kernel
theorem gm_X11_dues : Cond.instanceMethod yX11_dues ∈ gw := gw_tbl 1458 (by decide +kernel) rfl
theorem gs_X11_dues : Cond.selects yX11_dues.cls yX11_dues yX11_dues ∈ gw := gw_sel 75 (by decide +kernel) rfl
theorem vc_X11_365 : zCV RX11 365 yX11_dues cX11_dues 3 (some .int) 0 := ⟨gw_tbl 1456 (by decide +kernel) rfl, gm_X11_dues, gs_X11_dues, gi_RX11, gc_X11_dues, by decide, gn_X11_dues⟩
set_option maxRecDepth 100000 in
theorem gc_X11_canEarly : Cond.code yX11_canEarly cX11_canEarly 2 (some .boolean) ∈ gw := gw_tbl 1467 rfl rfl
theorem gn_X11_canEarly : (yX11_canEarly.cls ≠ "java/lang/invoke/MethodHandle" ∧ yX11_canEarly.cls ≠ "java/lang/invoke/VarHandle" ∧ (parseMethodDescriptor yX11_canEarly.desc).map (fun d => d.parameters.length) = some 1) := by decide +kernel
theorem gm_X11_canEarly : Cond.instanceMethod yX11_canEarly ∈ gw := gw_tbl 1466 (by decide +kernel) rfl
theorem gs_X11_canEarly : Cond.selects yX11_canEarly.cls yX11_canEarly yX11_canEarly ∈ gw := gw_sel 76 (by decide +kernel) rfl
theorem vc_X11_368 : zCV RX11 368 yX11_canEarly cX11_canEarly 2 (some .boolean) 1 := ⟨gw_tbl 1464 (by decide +kernel) rfl, gm_X11_canEarly, gs_X11_canEarly, gi_RX11, gc_X11_canEarly, by decide, gn_X11_canEarly⟩
set_option maxRecDepth 100000 in
theorem gc_X11_paysEarly : Cond.code yX11_paysEarly cX11_paysEarly 2 none ∈ gw := gw_tbl 1471 rfl rfl
theorem gn_X11_paysEarly : (yX11_paysEarly.cls ≠ "java/lang/invoke/MethodHandle" ∧ yX11_paysEarly.cls ≠ "java/lang/invoke/VarHandle" ∧ (parseMethodDescriptor yX11_paysEarly.desc).map (fun d => d.parameters.length) = some 1) := by decide +kernel
theorem gm_X11_paysEarly : Cond.instanceMethod yX11_paysEarly ∈ gw := gw_tbl 1470 (by decide +kernel) rfl
theorem gs_X11_paysEarly : Cond.selects yX11_paysEarly.cls yX11_paysEarly yX11_paysEarly ∈ gw := gw_sel 77 (by decide +kernel) rfl
theorem vc_X11_371 : zCV RX11 371 yX11_paysEarly cX11_paysEarly 2 none 1 := ⟨gw_tbl 1468 (by decide +kernel) rfl, gm_X11_paysEarly, gs_X11_paysEarly, gi_RX11, gc_X11_paysEarly, by decide, gn_X11_paysEarly⟩
set_option maxRecDepth 100000 in
theorem gc_X11_ruinedNow : Cond.code yX11_ruinedNow cX11_ruinedNow 3 (some .int) ∈ gw := gw_tbl 1483 rfl rfl
theorem gn_X11_ruinedNow : (yX11_ruinedNow.cls ≠ "java/lang/invoke/MethodHandle" ∧ yX11_ruinedNow.cls ≠ "java/lang/invoke/VarHandle" ∧ (parseMethodDescriptor yX11_ruinedNow.desc).map (fun d => d.parameters.length) = some 0) := by decide +kernel
theorem gm_X11_ruinedNow : Cond.instanceMethod yX11_ruinedNow ∈ gw := gw_tbl 1482 (by decide +kernel) rfl
theorem gs_X11_ruinedNow : Cond.selects yX11_ruinedNow.cls yX11_ruinedNow yX11_ruinedNow ∈ gw := gw_sel 78 (by decide +kernel) rfl
theorem vc_X11_374 : zCV RX11 374 yX11_ruinedNow cX11_ruinedNow 3 (some .int) 0 := ⟨gw_tbl 1480 (by decide +kernel) rfl, gm_X11_ruinedNow, gs_X11_ruinedNow, gi_RX11, gc_X11_ruinedNow, by decide, gn_X11_ruinedNow⟩
set_option maxRecDepth 100000 in
theorem gc_X11_gcd : Cond.code yX11_gcd cX11_gcd 10 (some .long) ∈ gw := gw_tbl 1511 rfl rfl
theorem gn_X11_gcd : (yX11_gcd.cls ≠ "java/lang/invoke/MethodHandle" ∧ yX11_gcd.cls ≠ "java/lang/invoke/VarHandle" ∧ (parseMethodDescriptor yX11_gcd.desc).map (fun d => d.parameters.length) = some 2) := by decide +kernel
theorem gt_X11_gcd : Cond.static yX11_gcd ∈ gw := gw_tbl 1510 (by decide +kernel) rfl
theorem sc_X11_382 : zCS RX11 382 yX11_gcd cX11_gcd 10 (some .long) 2 := ⟨gw_tbl 1509 (by decide +kernel) rfl, gt_X11_gcd, gi_RX11, gc_X11_gcd, by decide, gn_X11_gcd⟩
set_option maxRecDepth 100000 in
theorem gc_X11_isAhead : Cond.code yX11_isAhead cX11_isAhead 2 (some .boolean) ∈ gw := gw_tbl 1495 rfl rfl
theorem gn_X11_isAhead : (yX11_isAhead.cls ≠ "java/lang/invoke/MethodHandle" ∧ yX11_isAhead.cls ≠ "java/lang/invoke/VarHandle" ∧ (parseMethodDescriptor yX11_isAhead.desc).map (fun d => d.parameters.length) = some 1) := by decide +kernel
theorem gm_X11_isAhead : Cond.instanceMethod yX11_isAhead ∈ gw := gw_tbl 1494 (by decide +kernel) rfl
theorem gs_X11_isAhead : Cond.selects yX11_isAhead.cls yX11_isAhead yX11_isAhead ∈ gw := gw_sel 79 (by decide +kernel) rfl
theorem vc_X11_386 : zCV RX11 386 yX11_isAhead cX11_isAhead 2 (some .boolean) 1 := ⟨gw_tbl 1492 (by decide +kernel) rfl, gm_X11_isAhead, gs_X11_isAhead, gi_RX11, gc_X11_isAhead, by decide, gn_X11_isAhead⟩
set_option maxRecDepth 100000 in
theorem gc_X11_passes : Cond.code yX11_passes cX11_passes 10 (some .long) ∈ gw := gw_tbl 1500 rfl rfl
theorem gn_X11_passes : (yX11_passes.cls ≠ "java/lang/invoke/MethodHandle" ∧ yX11_passes.cls ≠ "java/lang/invoke/VarHandle" ∧ (parseMethodDescriptor yX11_passes.desc).map (fun d => d.parameters.length) = some 2) := by decide +kernel
theorem gm_X11_passes : Cond.instanceMethod yX11_passes ∈ gw := gw_tbl 1499 (by decide +kernel) rfl
theorem gs_X11_passes : Cond.selects yX11_passes.cls yX11_passes yX11_passes ∈ gw := gw_sel 80 (by decide +kernel) rfl
theorem vc_X11_391 : zCV RX11 391 yX11_passes cX11_passes 10 (some .long) 2 := ⟨gw_tbl 1497 (by decide +kernel) rfl, gm_X11_passes, gs_X11_passes, gi_RX11, gc_X11_passes, by decide, gn_X11_passes⟩
set_option maxRecDepth 100000 in
theorem gc_X11_allOdds : Cond.code yX11_allOdds cX11_allOdds 5 (some .long) ∈ gw := gw_tbl 1504 rfl rfl
theorem gn_X11_allOdds : (yX11_allOdds.cls ≠ "java/lang/invoke/MethodHandle" ∧ yX11_allOdds.cls ≠ "java/lang/invoke/VarHandle" ∧ (parseMethodDescriptor yX11_allOdds.desc).map (fun d => d.parameters.length) = some 1) := by decide +kernel
theorem gm_X11_allOdds : Cond.instanceMethod yX11_allOdds ∈ gw := gw_tbl 1503 (by decide +kernel) rfl
theorem gs_X11_allOdds : Cond.selects yX11_allOdds.cls yX11_allOdds yX11_allOdds ∈ gw := gw_sel 81 (by decide +kernel) rfl
theorem vc_X11_395 : zCV RX11 395 yX11_allOdds cX11_allOdds 5 (some .long) 1 := ⟨gw_tbl 1501 (by decide +kernel) rfl, gm_X11_allOdds, gs_X11_allOdds, gi_RX11, gc_X11_allOdds, by decide, gn_X11_allOdds⟩
set_option maxRecDepth 100000 in
theorem gc_X11_lowest : Cond.code yX11_lowest cX11_lowest 5 (some .long) ∈ gw := gw_tbl 1508 rfl rfl
theorem gn_X11_lowest : (yX11_lowest.cls ≠ "java/lang/invoke/MethodHandle" ∧ yX11_lowest.cls ≠ "java/lang/invoke/VarHandle" ∧ (parseMethodDescriptor yX11_lowest.desc).map (fun d => d.parameters.length) = some 3) := by decide +kernel
theorem gt_X11_lowest : Cond.static yX11_lowest ∈ gw := gw_tbl 1507 (by decide +kernel) rfl
theorem sc_X11_399 : zCS RX11 399 yX11_lowest cX11_lowest 5 (some .long) 3 := ⟨gw_tbl 1506 (by decide +kernel) rfl, gt_X11_lowest, gi_RX11, gc_X11_lowest, by decide, gn_X11_lowest⟩
set_option maxRecDepth 100000 in
theorem gc_X11_fitting : Cond.code yX11_fitting cX11_fitting 9 (some .int) ∈ gw := gw_tbl 1528 rfl rfl
theorem gn_X11_fitting : (yX11_fitting.cls ≠ "java/lang/invoke/MethodHandle" ∧ yX11_fitting.cls ≠ "java/lang/invoke/VarHandle" ∧ (parseMethodDescriptor yX11_fitting.desc).map (fun d => d.parameters.length) = some 4) := by decide +kernel
theorem gm_X11_fitting : Cond.instanceMethod yX11_fitting ∈ gw := gw_tbl 1527 (by decide +kernel) rfl
theorem gs_X11_fitting : Cond.selects yX11_fitting.cls yX11_fitting yX11_fitting ∈ gw := gw_sel 82 (by decide +kernel) rfl
theorem vc_X11_404 : zCV RX11 404 yX11_fitting cX11_fitting 9 (some .int) 4 := ⟨gw_tbl 1525 (by decide +kernel) rfl, gm_X11_fitting, gs_X11_fitting, gi_RX11, gc_X11_fitting, by decide, gn_X11_fitting⟩
set_option maxRecDepth 100000 in
theorem gc_X11_worked : Cond.code yX11_worked cX11_worked 6 (some .int) ∈ gw := gw_tbl 1544 rfl rfl
theorem gn_X11_worked : (yX11_worked.cls ≠ "java/lang/invoke/MethodHandle" ∧ yX11_worked.cls ≠ "java/lang/invoke/VarHandle" ∧ (parseMethodDescriptor yX11_worked.desc).map (fun d => d.parameters.length) = some 1) := by decide +kernel
theorem gm_X11_worked : Cond.instanceMethod yX11_worked ∈ gw := gw_tbl 1543 (by decide +kernel) rfl
theorem gs_X11_worked : Cond.selects yX11_worked.cls yX11_worked yX11_worked ∈ gw := gw_sel 84 (by decide +kernel) rfl
theorem vc_X11_408 : zCV RX11 408 yX11_worked cX11_worked 6 (some .int) 1 := ⟨gw_tbl 1541 (by decide +kernel) rfl, gm_X11_worked, gs_X11_worked, gi_RX11, gc_X11_worked, by decide, gn_X11_worked⟩
set_option maxRecDepth 100000 in
theorem gc_X11_gains : Cond.code yX11_gains cX11_gains 5 (some .int) ∈ gw := gw_tbl 1540 rfl rfl
theorem gn_X11_gains : (yX11_gains.cls ≠ "java/lang/invoke/MethodHandle" ∧ yX11_gains.cls ≠ "java/lang/invoke/VarHandle" ∧ (parseMethodDescriptor yX11_gains.desc).map (fun d => d.parameters.length) = some 2) := by decide +kernel
theorem gm_X11_gains : Cond.instanceMethod yX11_gains ∈ gw := gw_tbl 1539 (by decide +kernel) rfl
theorem gs_X11_gains : Cond.selects yX11_gains.cls yX11_gains yX11_gains ∈ gw := gw_sel 83 (by decide +kernel) rfl
theorem vc_X11_411 : zCV RX11 411 yX11_gains cX11_gains 5 (some .int) 2 := ⟨gw_tbl 1537 (by decide +kernel) rfl, gm_X11_gains, gs_X11_gains, gi_RX11, gc_X11_gains, by decide, gn_X11_gains⟩
set_option maxRecDepth 100000 in
theorem gc_X11_draws : Cond.code yX11_draws cX11_draws 2 (some .int) ∈ gw := gw_tbl 1568 rfl rfl
theorem gn_X11_draws : (yX11_draws.cls ≠ "java/lang/invoke/MethodHandle" ∧ yX11_draws.cls ≠ "java/lang/invoke/VarHandle" ∧ (parseMethodDescriptor yX11_draws.desc).map (fun d => d.parameters.length) = some 1) := by decide +kernel
theorem gm_X11_draws : Cond.instanceMethod yX11_draws ∈ gw := gw_tbl 1567 (by decide +kernel) rfl
theorem gs_X11_draws : Cond.selects yX11_draws.cls yX11_draws yX11_draws ∈ gw := gw_sel 88 (by decide +kernel) rfl
theorem vc_X11_425 : zCV RX11 425 yX11_draws cX11_draws 2 (some .int) 1 := ⟨gw_tbl 1565 (by decide +kernel) rfl, gm_X11_draws, gs_X11_draws, gi_RX11, gc_X11_draws, by decide, gn_X11_draws⟩
/-! constants -/
theorem kc_X10_223 : Cond.constant RX10 223 (99999) ∈ gw := gw_tbl 914 (by decide +kernel) rfl
theorem kc_X1_111 : Cond.constant RX1 111 (1000000) ∈ gw := gw_tbl 799 (by decide +kernel) rfl
theorem kc_X11_403 : Cond.constant RX11 403 (99999) ∈ gw := gw_tbl 1524 (by decide +kernel) rfl
theorem kc_RJ11_76 : Cond.constant RJ11 76 (56320) ∈ gw := gw_tbl 551 (by decide +kernel) rfl
theorem kc_RJ11_110 : Cond.constant RJ11 110 (55232) ∈ gw := gw_tbl 547 (by decide +kernel) rfl
theorem kc_RJ6_265 : Cond.constant RJ6 265 (1431655765) ∈ gw := gw_tbl 698 (by decide +kernel) rfl
theorem kc_RJ6_266 : Cond.constant RJ6 266 (858993459) ∈ gw := gw_tbl 699 (by decide +kernel) rfl
theorem kc_RJ6_267 : Cond.constant RJ6 267 (252645135) ∈ gw := gw_tbl 700 (by decide +kernel) rfl
theorem kc_RJ2_227 : Cond.constant RJ2 227 (65536) ∈ gw := gw_tbl 522 (by decide +kernel) rfl
theorem kl_X10_192 : Cond.constantLong RX10 192 (-1) ∈ gw := gw_tbl 856 (by decide +kernel) rfl
theorem kl_X10_204 : Cond.constantLong RX10 204 (8) ∈ gw := gw_tbl 887 (by decide +kernel) rfl
theorem kl_X10_206 : Cond.constantLong RX10 206 (2) ∈ gw := gw_tbl 888 (by decide +kernel) rfl
theorem kl_X5_68 : Cond.constantLong RX5 68 (32) ∈ gw := gw_tbl 427 (by decide +kernel) rfl
theorem kl_X5_91 : Cond.constantLong RX5 91 (10) ∈ gw := gw_tbl 491 (by decide +kernel) rfl
theorem kl_X9_78 : Cond.constantLong RX9 78 (1103515245) ∈ gw := gw_tbl 958 (by decide +kernel) rfl
theorem kl_X9_80 : Cond.constantLong RX9 80 (12345) ∈ gw := gw_tbl 959 (by decide +kernel) rfl
theorem kl_X9_82 : Cond.constantLong RX9 82 (2147483648) ∈ gw := gw_tbl 960 (by decide +kernel) rfl
theorem kl_X9_84 : Cond.constantLong RX9 84 (65536) ∈ gw := gw_tbl 961 (by decide +kernel) rfl
theorem kl_X9_86 : Cond.constantLong RX9 86 (8) ∈ gw := gw_tbl 962 (by decide +kernel) rfl
theorem kl_L_26 : Cond.constantLong RL 26 (4294967295) ∈ gw := gw_tbl 1581 (by decide +kernel) rfl
theorem kl_X11_136 : Cond.constantLong RX11 136 (255) ∈ gw := gw_tbl 1265 (by decide +kernel) rfl
theorem kl_X11_164 : Cond.constantLong RX11 164 (27) ∈ gw := gw_tbl 1282 (by decide +kernel) rfl
theorem kl_X11_166 : Cond.constantLong RX11 166 (96) ∈ gw := gw_tbl 1283 (by decide +kernel) rfl
theorem kl_X11_174 : Cond.constantLong RX11 174 (3379448) ∈ gw := gw_tbl 1323 (by decide +kernel) rfl
theorem kl_X11_176 : Cond.constantLong RX11 176 (275356804) ∈ gw := gw_tbl 1324 (by decide +kernel) rfl
theorem kl_X11_178 : Cond.constantLong RX11 178 (10793335) ∈ gw := gw_tbl 1325 (by decide +kernel) rfl
theorem kl_X11_180 : Cond.constantLong RX11 180 (94492070) ∈ gw := gw_tbl 1326 (by decide +kernel) rfl
theorem kl_X11_182 : Cond.constantLong RX11 182 (16922) ∈ gw := gw_tbl 1306 (by decide +kernel) rfl
theorem kl_X11_188 : Cond.constantLong RX11 188 (10631) ∈ gw := gw_tbl 1327 (by decide +kernel) rfl
theorem kl_X11_208 : Cond.constantLong RX11 208 (1111) ∈ gw := gw_tbl 1328 (by decide +kernel) rfl
theorem kl_X11_210 : Cond.constantLong RX11 210 (423) ∈ gw := gw_tbl 1329 (by decide +kernel) rfl
theorem kl_X11_221 : Cond.constantLong RX11 221 (164361) ∈ gw := gw_tbl 1284 (by decide +kernel) rfl
theorem kl_X11_223 : Cond.constantLong RX11 223 (3427) ∈ gw := gw_tbl 1305 (by decide +kernel) rfl
theorem kl_X11_225 : Cond.constantLong RX11 225 (8930039) ∈ gw := gw_tbl 1307 (by decide +kernel) rfl
theorem kl_X11_227 : Cond.constantLong RX11 227 (247172) ∈ gw := gw_tbl 1308 (by decide +kernel) rfl
theorem kl_X11_229 : Cond.constantLong RX11 229 (555) ∈ gw := gw_tbl 1309 (by decide +kernel) rfl
theorem kl_X11_231 : Cond.constantLong RX11 231 (1896526) ∈ gw := gw_tbl 1310 (by decide +kernel) rfl
theorem kl_X11_233 : Cond.constantLong RX11 233 (355568) ∈ gw := gw_tbl 1311 (by decide +kernel) rfl
theorem kl_X11_235 : Cond.constantLong RX11 235 (3488) ∈ gw := gw_tbl 1312 (by decide +kernel) rfl
theorem kl_X11_237 : Cond.constantLong RX11 237 (419) ∈ gw := gw_tbl 1313 (by decide +kernel) rfl
theorem kl_X11_239 : Cond.constantLong RX11 239 (40350) ∈ gw := gw_tbl 1314 (by decide +kernel) rfl
theorem kl_X11_241 : Cond.constantLong RX11 241 (1613) ∈ gw := gw_tbl 1315 (by decide +kernel) rfl
theorem kl_X11_243 : Cond.constantLong RX11 243 (316351) ∈ gw := gw_tbl 1316 (by decide +kernel) rfl
theorem kl_X11_245 : Cond.constantLong RX11 245 (249) ∈ gw := gw_tbl 1317 (by decide +kernel) rfl
theorem kl_X11_247 : Cond.constantLong RX11 247 (8740238) ∈ gw := gw_tbl 1318 (by decide +kernel) rfl
theorem kl_X11_249 : Cond.constantLong RX11 249 (50849) ∈ gw := gw_tbl 1319 (by decide +kernel) rfl
theorem kl_X11_251 : Cond.constantLong RX11 251 (76927149) ∈ gw := gw_tbl 1320 (by decide +kernel) rfl
theorem kl_X11_253 : Cond.constantLong RX11 253 (119656022) ∈ gw := gw_tbl 1321 (by decide +kernel) rfl
theorem kl_X11_255 : Cond.constantLong RX11 255 (151648177) ∈ gw := gw_tbl 1322 (by decide +kernel) rfl
theorem kl_X11_380 : Cond.constantLong RX11 380 (8) ∈ gw := gw_tbl 1505 (by decide +kernel) rfl
theorem kl_X11_389 : Cond.constantLong RX11 389 (-1) ∈ gw := gw_tbl 1496 (by decide +kernel) rfl
theorem kl_X11_417 : Cond.constantLong RX11 417 (1103515245) ∈ gw := gw_tbl 1569 (by decide +kernel) rfl
theorem kl_X11_419 : Cond.constantLong RX11 419 (12345) ∈ gw := gw_tbl 1570 (by decide +kernel) rfl
theorem kl_X11_421 : Cond.constantLong RX11 421 (2147483648) ∈ gw := gw_tbl 1571 (by decide +kernel) rfl
theorem kl_X11_423 : Cond.constantLong RX11 423 (65536) ∈ gw := gw_tbl 1572 (by decide +kernel) rfl
theorem zk_m1 : Int32.ofInt (-1) = (-1 : Int32) := by decide
theorem zk_0 : Int32.ofInt (0) = (0 : Int32) := by decide
theorem zk_1 : Int32.ofInt (1) = (1 : Int32) := by decide
theorem zk_2 : Int32.ofInt (2) = (2 : Int32) := by decide
theorem zk_3 : Int32.ofInt (3) = (3 : Int32) := by decide
theorem zk_4 : Int32.ofInt (4) = (4 : Int32) := by decide
theorem zk_5 : Int32.ofInt (5) = (5 : Int32) := by decide
theorem zb_m2 : (Int8.ofInt (-2)).toInt32 = (-2 : Int32) := by decide
theorem zb_6 : (Int8.ofInt (6)).toInt32 = (6 : Int32) := by decide
theorem zb_7 : (Int8.ofInt (7)).toInt32 = (7 : Int32) := by decide
theorem zb_8 : (Int8.ofInt (8)).toInt32 = (8 : Int32) := by decide
theorem zb_9 : (Int8.ofInt (9)).toInt32 = (9 : Int32) := by decide
theorem zb_10 : (Int8.ofInt (10)).toInt32 = (10 : Int32) := by decide
theorem zb_12 : (Int8.ofInt (12)).toInt32 = (12 : Int32) := by decide
theorem zb_13 : (Int8.ofInt (13)).toInt32 = (13 : Int32) := by decide
theorem zb_16 : (Int8.ofInt (16)).toInt32 = (16 : Int32) := by decide
theorem zb_17 : (Int8.ofInt (17)).toInt32 = (17 : Int32) := by decide
theorem zb_20 : (Int8.ofInt (20)).toInt32 = (20 : Int32) := by decide
theorem zb_21 : (Int8.ofInt (21)).toInt32 = (21 : Int32) := by decide
theorem zb_22 : (Int8.ofInt (22)).toInt32 = (22 : Int32) := by decide
theorem zb_24 : (Int8.ofInt (24)).toInt32 = (24 : Int32) := by decide
theorem zb_25 : (Int8.ofInt (25)).toInt32 = (25 : Int32) := by decide
theorem zb_26 : (Int8.ofInt (26)).toInt32 = (26 : Int32) := by decide
theorem zb_27 : (Int8.ofInt (27)).toInt32 = (27 : Int32) := by decide
theorem zb_28 : (Int8.ofInt (28)).toInt32 = (28 : Int32) := by decide
theorem zb_29 : (Int8.ofInt (29)).toInt32 = (29 : Int32) := by decide
theorem zb_30 : (Int8.ofInt (30)).toInt32 = (30 : Int32) := by decide
theorem zb_31 : (Int8.ofInt (31)).toInt32 = (31 : Int32) := by decide
theorem zb_32 : (Int8.ofInt (32)).toInt32 = (32 : Int32) := by decide
theorem zb_36 : (Int8.ofInt (36)).toInt32 = (36 : Int32) := by decide
theorem zb_40 : (Int8.ofInt (40)).toInt32 = (40 : Int32) := by decide
theorem zb_41 : (Int8.ofInt (41)).toInt32 = (41 : Int32) := by decide
theorem zb_42 : (Int8.ofInt (42)).toInt32 = (42 : Int32) := by decide
theorem zb_43 : (Int8.ofInt (43)).toInt32 = (43 : Int32) := by decide
theorem zb_45 : (Int8.ofInt (45)).toInt32 = (45 : Int32) := by decide
theorem zb_46 : (Int8.ofInt (46)).toInt32 = (46 : Int32) := by decide
theorem zb_48 : (Int8.ofInt (48)).toInt32 = (48 : Int32) := by decide
theorem zb_56 : (Int8.ofInt (56)).toInt32 = (56 : Int32) := by decide
theorem zb_57 : (Int8.ofInt (57)).toInt32 = (57 : Int32) := by decide
theorem zb_58 : (Int8.ofInt (58)).toInt32 = (58 : Int32) := by decide
theorem zb_59 : (Int8.ofInt (59)).toInt32 = (59 : Int32) := by decide
theorem zb_60 : (Int8.ofInt (60)).toInt32 = (60 : Int32) := by decide
theorem zb_61 : (Int8.ofInt (61)).toInt32 = (61 : Int32) := by decide
theorem zb_63 : (Int8.ofInt (63)).toInt32 = (63 : Int32) := by decide
theorem zb_64 : (Int8.ofInt (64)).toInt32 = (64 : Int32) := by decide
theorem zb_97 : (Int8.ofInt (97)).toInt32 = (97 : Int32) := by decide
theorem zb_99 : (Int8.ofInt (99)).toInt32 = (99 : Int32) := by decide
theorem zb_100 : (Int8.ofInt (100)).toInt32 = (100 : Int32) := by decide
theorem zb_122 : (Int8.ofInt (122)).toInt32 = (122 : Int32) := by decide
theorem zb_126 : (Int8.ofInt (126)).toInt32 = (126 : Int32) := by decide
theorem zs_255 : (Int16.ofInt (255)).toInt32 = (255 : Int32) := by decide
theorem zs_256 : (Int16.ofInt (256)).toInt32 = (256 : Int32) := by decide
theorem zs_999 : (Int16.ofInt (999)).toInt32 = (999 : Int32) := by decide
theorem zs_1000 : (Int16.ofInt (1000)).toInt32 = (1000 : Int32) := by decide
theorem zs_1001 : (Int16.ofInt (1001)).toInt32 = (1001 : Int32) := by decide
theorem zs_1023 : (Int16.ofInt (1023)).toInt32 = (1023 : Int32) := by decide
theorem zs_1856 : (Int16.ofInt (1856)).toInt32 = (1856 : Int32) := by decide
theorem zs_1920 : (Int16.ofInt (1920)).toInt32 = (1920 : Int32) := by decide
theorem zs_4096 : (Int16.ofInt (4096)).toInt32 = (4096 : Int32) := by decide
theorem zs_6000 : (Int16.ofInt (6000)).toInt32 = (6000 : Int32) := by decide
theorem zs_9999 : (Int16.ofInt (9999)).toInt32 = (9999 : Int32) := by decide
theorem zin {i : Int32} {n : Nat} (h : vp_in i n) : i.toNatClampNeg < n := by unfold vp_in at h; omega
theorem zm1 (o off : Nat) : 1 * o + off = o + off := by rw [Nat.one_mul]
theorem aw_topi {X : zX} {pc : Nat} {L : List (Option Value)} {st : List Value} {μ : zM} {x : Int32} (k : ∀ y : Int32, y = x → AW X pc L (.int y :: st) μ) : AW X pc L (.int x :: st) μ := k x rfl
theorem aw_topl {X : zX} {pc : Nat} {L : List (Option Value)} {st : List Value} {μ : zM} {x : Int64} (k : ∀ y : Int64, y = x → AW X pc L (.long y :: st) μ) : AW X pc L (.long x :: st) μ := k x rfl
theorem aw_mem {X : zX} {pc : Nat} {L : List (Option Value)} {st : List Value} {μ : zM} (k : ∀ ν : zM, ν = μ → AW X pc L st ν) : AW X pc L st μ := k μ rfl
theorem zne {x y : Int32} (h : ¬ x = y) : x.toInt ≠ y.toInt := fun q => h (Int32.toInt_inj.mp q)
