/-! words of constructors -/
theorem ob_i : Cond.instanceMethod Lib.objectInit ∈ gw := gw_tbl 32 (by decide +kernel) rfl
theorem ob_c : Cond.code Lib.objectInit ⟨#[0xb1]⟩ 1 none ∈ gw := gw_tbl 33 (by decide +kernel) rfl
theorem ac_char : Cond.arrayClass (newarray.typeOf .char) ∈ gw := gw_tbl 74 (by decide +kernel) rfl
theorem ac_int : Cond.arrayClass (newarray.typeOf .int) ∈ gw := gw_tbl 75 (by decide +kernel) rfl
theorem ac_long : Cond.arrayClass (newarray.typeOf .long) ∈ gw := gw_tbl 76 (by decide +kernel) rfl
theorem ac_boolean : Cond.arrayClass (newarray.typeOf .boolean) ∈ gw := gw_tbl 1256 (by decide +kernel) rfl
theorem ob_X0 : Cond.methodLink RX0 3 Lib.objectInit ∈ gw ∧ Cond.instanceMethod Lib.objectInit ∈ gw ∧ Cond.code Lib.objectInit ⟨#[0xb1]⟩ 1 none ∈ gw := ⟨gw_tbl 314 (by decide +kernel) rfl, ob_i, ob_c⟩
theorem na_X0_9 : Cond.classLink RX0 9 "RainLoans$Book" ∈ gw := gw_tbl 315 (by decide +kernel) rfl
theorem kF_X0_11 : zLF RX0 11 0 0 (.array (.object "RainLoans$Book")) := ⟨TX0, 7, tyX0, rfl, by decide, ig_0, gw_tbl 317 (by decide +kernel) rfl, tyX0_ok, nmX0, rfl, rfl, rfl⟩
theorem nc_X0_9 : zLC RX0 9 1 RX1 TX1 9 tyX1 := ⟨rfl, ig_1, tyX1_ok, gw_tbl 315 (by decide +kernel) rfl, gw_tbl 218 (by decide +kernel) rfl, gi_RX1⟩
set_option maxRecDepth 100000 in
theorem ic_X0_17 : zCI RX0 17 yX1_init cX1_init 1 := ⟨gw_tbl 316 (by decide +kernel) rfl, gw_tbl 220 (by decide +kernel) rfl, gi_RX1, gw_tbl 221 rfl rfl, by decide, rfl, by decide +kernel⟩
theorem kF_X0_18 : zLF RX0 18 0 1 (.array .long) := ⟨TX0, 7, tyX0, rfl, by decide, ig_0, gw_tbl 318 (by decide +kernel) rfl, tyX0_ok, nmX0, rfl, rfl, rfl⟩
theorem ob_X1 : Cond.methodLink RX1 3 Lib.objectInit ∈ gw ∧ Cond.instanceMethod Lib.objectInit ∈ gw ∧ Cond.code Lib.objectInit ⟨#[0xb1]⟩ 1 none ∈ gw := ⟨gw_tbl 222 (by decide +kernel) rfl, ob_i, ob_c⟩
theorem kF_X1_9 : zLF RX1 9 1 4 (.array .int) := ⟨TX1, 9, tyX1, rfl, by decide, ig_1, gw_tbl 233 (by decide +kernel) rfl, tyX1_ok, nmX1, rfl, rfl, rfl⟩
theorem kF_X1_15 : zLF RX1 15 1 5 (.array .int) := ⟨TX1, 9, tyX1, rfl, by decide, ig_1, gw_tbl 236 (by decide +kernel) rfl, tyX1_ok, nmX1, rfl, rfl, rfl⟩
theorem kF_X1_18 : zLF RX1 18 1 6 (.array .int) := ⟨TX1, 9, tyX1, rfl, by decide, ig_1, gw_tbl 238 (by decide +kernel) rfl, tyX1_ok, nmX1, rfl, rfl, rfl⟩
theorem kF_X1_21 : zLF RX1 21 1 7 (.array .int) := ⟨TX1, 9, tyX1, rfl, by decide, ig_1, gw_tbl 241 (by decide +kernel) rfl, tyX1_ok, nmX1, rfl, rfl, rfl⟩
theorem kF_X1_24 : zLF RX1 24 1 8 (.array .int) := ⟨TX1, 9, tyX1, rfl, by decide, ig_1, gw_tbl 243 (by decide +kernel) rfl, tyX1_ok, nmX1, rfl, rfl, rfl⟩
theorem ob_X2 : Cond.methodLink RX2 3 Lib.objectInit ∈ gw ∧ Cond.instanceMethod Lib.objectInit ∈ gw ∧ Cond.code Lib.objectInit ⟨#[0xb1]⟩ 1 none ∈ gw := ⟨gw_tbl 82 (by decide +kernel) rfl, ob_i, ob_c⟩
theorem kF_X2_9 : zLF RX2 9 2 4 (.array .int) := ⟨TX2, 11, tyX2, rfl, by decide, ig_2, gw_tbl 152 (by decide +kernel) rfl, tyX2_ok, nmX2, rfl, rfl, rfl⟩
theorem kF_X2_15 : zLF RX2 15 2 5 (.array .int) := ⟨TX2, 11, tyX2, rfl, by decide, ig_2, gw_tbl 155 (by decide +kernel) rfl, tyX2_ok, nmX2, rfl, rfl, rfl⟩
theorem kF_X2_18 : zLF RX2 18 2 6 (.array .int) := ⟨TX2, 11, tyX2, rfl, by decide, ig_2, gw_tbl 158 (by decide +kernel) rfl, tyX2_ok, nmX2, rfl, rfl, rfl⟩
theorem na_X2_21 : Cond.classLink RX2 21 "RainLoans$Terms" ∈ gw := gw_tbl 83 (by decide +kernel) rfl
theorem kF_X2_23 : zLF RX2 23 2 7 (.array (.object "RainLoans$Terms")) := ⟨TX2, 11, tyX2, rfl, by decide, ig_2, gw_tbl 161 (by decide +kernel) rfl, tyX2_ok, nmX2, rfl, rfl, rfl⟩
theorem nc_X2_21 : zLC RX2 21 7 RX7 TX7 8 tyX7 := ⟨rfl, ig_7, tyX7_ok, gw_tbl 83 (by decide +kernel) rfl, gw_tbl 85 (by decide +kernel) rfl, gi_RX7⟩
theorem kF_X2_28 : zLF RX2 28 2 8 (.array .int) := ⟨TX2, 11, tyX2, rfl, by decide, ig_2, gw_tbl 165 (by decide +kernel) rfl, tyX2_ok, nmX2, rfl, rfl, rfl⟩
theorem kF_X2_31 : zLF RX2 31 2 9 (.array .int) := ⟨TX2, 11, tyX2, rfl, by decide, ig_2, gw_tbl 167 (by decide +kernel) rfl, tyX2_ok, nmX2, rfl, rfl, rfl⟩
theorem kF_X2_34 : zLF RX2 34 2 10 (.array .int) := ⟨TX2, 11, tyX2, rfl, by decide, ig_2, gw_tbl 169 (by decide +kernel) rfl, tyX2_ok, nmX2, rfl, rfl, rfl⟩
theorem ob_X3 : Cond.methodLink RX3 1 Lib.objectInit ∈ gw ∧ Cond.instanceMethod Lib.objectInit ∈ gw ∧ Cond.code Lib.objectInit ⟨#[0xb1]⟩ 1 none ∈ gw := ⟨gw_tbl 291 (by decide +kernel) rfl, ob_i, ob_c⟩
theorem nc_X3_7 : zLC RX3 7 2 RX2 TX2 11 tyX2 := ⟨rfl, ig_2, tyX2_ok, gw_tbl 292 (by decide +kernel) rfl, gw_tbl 78 (by decide +kernel) rfl, gi_RX2⟩
set_option maxRecDepth 100000 in
theorem ic_X3_9 : zCI RX3 9 yX2_init cX2_init 2 := ⟨gw_tbl 293 (by decide +kernel) rfl, gw_tbl 80 (by decide +kernel) rfl, gi_RX2, gw_tbl 81 rfl rfl, by decide, rfl, by decide +kernel⟩
theorem kF_X3_10 : zLF RX3 10 3 1 (.object "RainLoans$Custom") := ⟨TX3, 3, tyX3, rfl, by decide, ig_3, gw_tbl 298 (by decide +kernel) rfl, tyX3_ok, nmX3, rfl, rfl, rfl⟩
theorem nc_X3_16 : zLC RX3 16 1 RX1 TX1 9 tyX1 := ⟨rfl, ig_1, tyX1_ok, gw_tbl 294 (by decide +kernel) rfl, gw_tbl 218 (by decide +kernel) rfl, gi_RX1⟩
set_option maxRecDepth 100000 in
theorem ic_X3_18 : zCI RX3 18 yX1_init cX1_init 1 := ⟨gw_tbl 295 (by decide +kernel) rfl, gw_tbl 220 (by decide +kernel) rfl, gi_RX1, gw_tbl 221 rfl rfl, by decide, rfl, by decide +kernel⟩
theorem kF_X3_19 : zLF RX3 19 3 2 (.object "RainLoans$Book") := ⟨TX3, 3, tyX3, rfl, by decide, ig_3, gw_tbl 300 (by decide +kernel) rfl, tyX3_ok, nmX3, rfl, rfl, rfl⟩
theorem ob_X4 : Cond.methodLink RX4 3 Lib.objectInit ∈ gw ∧ Cond.instanceMethod Lib.objectInit ∈ gw ∧ Cond.code Lib.objectInit ⟨#[0xb1]⟩ 1 none ∈ gw := ⟨gw_tbl 270 (by decide +kernel) rfl, ob_i, ob_c⟩
theorem na_X4_9 : Cond.classLink RX4 9 "RainLoans$Book" ∈ gw := gw_tbl 271 (by decide +kernel) rfl
theorem kF_X4_11 : zLF RX4 11 4 2 (.array (.object "RainLoans$Book")) := ⟨TX4, 3, tyX4, rfl, by decide, ig_4, gw_tbl 277 (by decide +kernel) rfl, tyX4_ok, nmX4, rfl, rfl, rfl⟩
theorem nc_X4_9 : zLC RX4 9 1 RX1 TX1 9 tyX1 := ⟨rfl, ig_1, tyX1_ok, gw_tbl 271 (by decide +kernel) rfl, gw_tbl 218 (by decide +kernel) rfl, gi_RX1⟩
set_option maxRecDepth 100000 in
theorem ic_X4_17 : zCI RX4 17 yX1_init cX1_init 1 := ⟨gw_tbl 273 (by decide +kernel) rfl, gw_tbl 220 (by decide +kernel) rfl, gi_RX1, gw_tbl 221 rfl rfl, by decide, rfl, by decide +kernel⟩
theorem ob_X5 : Cond.methodLink RX5 3 Lib.objectInit ∈ gw ∧ Cond.instanceMethod Lib.objectInit ∈ gw ∧ Cond.code Lib.objectInit ⟨#[0xb1]⟩ 1 none ∈ gw := ⟨gw_tbl 45 (by decide +kernel) rfl, ob_i, ob_c⟩
theorem kF_X5_9 : zLF RX5 9 5 2 (.array .char) := ⟨TX5, 7, tyX5, rfl, by decide, ig_5, gw_tbl 54 (by decide +kernel) rfl, tyX5_ok, nmX5, rfl, rfl, rfl⟩
theorem kF_X5_15 : zLF RX5 15 5 3 (.array .int) := ⟨TX5, 7, tyX5, rfl, by decide, ig_5, gw_tbl 55 (by decide +kernel) rfl, tyX5_ok, nmX5, rfl, rfl, rfl⟩
theorem kF_X5_19 : zLF RX5 19 5 4 (.array .int) := ⟨TX5, 7, tyX5, rfl, by decide, ig_5, gw_tbl 56 (by decide +kernel) rfl, tyX5_ok, nmX5, rfl, rfl, rfl⟩
theorem na_X5_22 : Cond.classLink RX5 22 "RainLoans$Word" ∈ gw := gw_tbl 46 (by decide +kernel) rfl
theorem kF_X5_24 : zLF RX5 24 5 5 (.array (.object "RainLoans$Word")) := ⟨TX5, 7, tyX5, rfl, by decide, ig_5, gw_tbl 57 (by decide +kernel) rfl, tyX5_ok, nmX5, rfl, rfl, rfl⟩
theorem kF_X5_32 : zLF RX5 32 5 6 (.array .long) := ⟨TX5, 7, tyX5, rfl, by decide, ig_5, gw_tbl 58 (by decide +kernel) rfl, tyX5_ok, nmX5, rfl, rfl, rfl⟩
theorem ob_X6 : Cond.methodLink RX6 3 Lib.objectInit ∈ gw ∧ Cond.instanceMethod Lib.objectInit ∈ gw ∧ Cond.code Lib.objectInit ⟨#[0xb1]⟩ 1 none ∈ gw := ⟨gw_tbl 39 (by decide +kernel) rfl, ob_i, ob_c⟩
theorem nc_X6_9 : zLC RX6 9 5 RX5 TX5 7 tyX5 := ⟨rfl, ig_5, tyX5_ok, gw_tbl 40 (by decide +kernel) rfl, gw_tbl 41 (by decide +kernel) rfl, gi_RX5⟩
set_option maxRecDepth 100000 in
theorem ic_X6_11 : zCI RX6 11 yX5_init cX5_init 2 := ⟨gw_tbl 42 (by decide +kernel) rfl, gw_tbl 43 (by decide +kernel) rfl, gi_RX5, gw_tbl 44 rfl rfl, by decide, rfl, by decide +kernel⟩
theorem kF_X6_12 : zLF RX6 12 6 0 (.object "RainLoans$Tape") := ⟨TX6, 6, tyX6, rfl, by decide, ig_6, gw_tbl 194 (by decide +kernel) rfl, tyX6_ok, nmX6, rfl, rfl, rfl⟩
theorem nc_X6_18 : zLC RX6 18 2 RX2 TX2 11 tyX2 := ⟨rfl, ig_2, tyX2_ok, gw_tbl 77 (by decide +kernel) rfl, gw_tbl 78 (by decide +kernel) rfl, gi_RX2⟩
set_option maxRecDepth 100000 in
theorem ic_X6_20 : zCI RX6 20 yX2_init cX2_init 2 := ⟨gw_tbl 79 (by decide +kernel) rfl, gw_tbl 80 (by decide +kernel) rfl, gi_RX2, gw_tbl 81 rfl rfl, by decide, rfl, by decide +kernel⟩
theorem kF_X6_21 : zLF RX6 21 6 1 (.object "RainLoans$Custom") := ⟨TX6, 6, tyX6, rfl, by decide, ig_6, gw_tbl 196 (by decide +kernel) rfl, tyX6_ok, nmX6, rfl, rfl, rfl⟩
theorem kF_X6_25 : zLF RX6 25 6 4 (.array .long) := ⟨TX6, 6, tyX6, rfl, by decide, ig_6, gw_tbl 200 (by decide +kernel) rfl, tyX6_ok, nmX6, rfl, rfl, rfl⟩
theorem kF_X6_29 : zLF RX6 29 6 5 (.array .long) := ⟨TX6, 6, tyX6, rfl, by decide, ig_6, gw_tbl 201 (by decide +kernel) rfl, tyX6_ok, nmX6, rfl, rfl, rfl⟩
theorem ob_X7 : Cond.methodLink RX7 1 Lib.objectInit ∈ gw ∧ Cond.instanceMethod Lib.objectInit ∈ gw ∧ Cond.code Lib.objectInit ⟨#[0xb1]⟩ 1 none ∈ gw := ⟨gw_tbl 89 (by decide +kernel) rfl, ob_i, ob_c⟩
theorem ob_X9 : Cond.methodLink RX9 1 Lib.objectInit ∈ gw ∧ Cond.instanceMethod Lib.objectInit ∈ gw ∧ Cond.code Lib.objectInit ⟨#[0xb1]⟩ 1 none ∈ gw := ⟨gw_tbl 344 (by decide +kernel) rfl, ob_i, ob_c⟩
theorem nc_X9_7 : zLC RX9 7 1 RX1 TX1 9 tyX1 := ⟨rfl, ig_1, tyX1_ok, gw_tbl 345 (by decide +kernel) rfl, gw_tbl 218 (by decide +kernel) rfl, gi_RX1⟩
set_option maxRecDepth 100000 in
theorem ic_X9_9 : zCI RX9 9 yX1_init cX1_init 1 := ⟨gw_tbl 346 (by decide +kernel) rfl, gw_tbl 220 (by decide +kernel) rfl, gi_RX1, gw_tbl 221 rfl rfl, by decide, rfl, by decide +kernel⟩
theorem kF_X9_10 : zLF RX9 10 9 5 (.object "RainLoans$Book") := ⟨TX9, 6, tyX9, rfl, by decide, ig_9, gw_tbl 356 (by decide +kernel) rfl, tyX9_ok, nmX9, rfl, rfl, rfl⟩
theorem ob_X10 : Cond.methodLink RX10 1 Lib.objectInit ∈ gw ∧ Cond.instanceMethod Lib.objectInit ∈ gw ∧ Cond.code Lib.objectInit ⟨#[0xb1]⟩ 1 none ∈ gw := ⟨gw_tbl 31 (by decide +kernel) rfl, ob_i, ob_c⟩
theorem nc_X10_7 : zLC RX10 7 6 RX6 TX6 6 tyX6 := ⟨rfl, ig_6, tyX6_ok, gw_tbl 34 (by decide +kernel) rfl, gw_tbl 35 (by decide +kernel) rfl, gi_RX6⟩
set_option maxRecDepth 100000 in
theorem ic_X10_9 : zCI RX10 9 yX6_init cX6_init 1 := ⟨gw_tbl 36 (by decide +kernel) rfl, gw_tbl 37 (by decide +kernel) rfl, gi_RX6, gw_tbl 38 rfl rfl, by decide, rfl, by decide +kernel⟩
theorem kF_X10_10 : zLF RX10 10 10 0 (.object "RainLoans$Teller") := ⟨TX10, 7, tyX10, rfl, by decide, ig_10, gw_tbl 370 (by decide +kernel) rfl, tyX10_ok, nmX10, rfl, rfl, rfl⟩
theorem nc_X10_16 : zLC RX10 16 2 RX2 TX2 11 tyX2 := ⟨rfl, ig_2, tyX2_ok, gw_tbl 215 (by decide +kernel) rfl, gw_tbl 78 (by decide +kernel) rfl, gi_RX2⟩
set_option maxRecDepth 100000 in
theorem ic_X10_18 : zCI RX10 18 yX2_init cX2_init 2 := ⟨gw_tbl 216 (by decide +kernel) rfl, gw_tbl 80 (by decide +kernel) rfl, gi_RX2, gw_tbl 81 rfl rfl, by decide, rfl, by decide +kernel⟩
theorem kF_X10_19 : zLF RX10 19 10 1 (.object "RainLoans$Custom") := ⟨TX10, 7, tyX10, rfl, by decide, ig_10, gw_tbl 371 (by decide +kernel) rfl, tyX10_ok, nmX10, rfl, rfl, rfl⟩
theorem nc_X10_23 : zLC RX10 23 1 RX1 TX1 9 tyX1 := ⟨rfl, ig_1, tyX1_ok, gw_tbl 217 (by decide +kernel) rfl, gw_tbl 218 (by decide +kernel) rfl, gi_RX1⟩
set_option maxRecDepth 100000 in
theorem ic_X10_25 : zCI RX10 25 yX1_init cX1_init 1 := ⟨gw_tbl 219 (by decide +kernel) rfl, gw_tbl 220 (by decide +kernel) rfl, gi_RX1, gw_tbl 221 rfl rfl, by decide, rfl, by decide +kernel⟩
theorem kF_X10_26 : zLF RX10 26 10 2 (.object "RainLoans$Book") := ⟨TX10, 7, tyX10, rfl, by decide, ig_10, gw_tbl 372 (by decide +kernel) rfl, tyX10_ok, nmX10, rfl, rfl, rfl⟩
theorem nc_X10_30 : zLC RX10 30 4 RX4 TX4 3 tyX4 := ⟨rfl, ig_4, tyX4_ok, gw_tbl 265 (by decide +kernel) rfl, gw_tbl 266 (by decide +kernel) rfl, gi_RX4⟩
set_option maxRecDepth 100000 in
theorem ic_X10_32 : zCI RX10 32 yX4_init cX4_init 2 := ⟨gw_tbl 267 (by decide +kernel) rfl, gw_tbl 268 (by decide +kernel) rfl, gi_RX4, gw_tbl 269 rfl rfl, by decide, rfl, by decide +kernel⟩
theorem kF_X10_33 : zLF RX10 33 10 3 (.object "RainLoans$Past") := ⟨TX10, 7, tyX10, rfl, by decide, ig_10, gw_tbl 373 (by decide +kernel) rfl, tyX10_ok, nmX10, rfl, rfl, rfl⟩
theorem na_X10_37 : Cond.classLink RX10 37 "RainLoans$Mark" ∈ gw := gw_tbl 285 (by decide +kernel) rfl
theorem kF_X10_39 : zLF RX10 39 10 4 (.array (.object "RainLoans$Mark")) := ⟨TX10, 7, tyX10, rfl, by decide, ig_10, gw_tbl 374 (by decide +kernel) rfl, tyX10_ok, nmX10, rfl, rfl, rfl⟩
theorem nc_X10_37 : zLC RX10 37 3 RX3 TX3 3 tyX3 := ⟨rfl, ig_3, tyX3_ok, gw_tbl 285 (by decide +kernel) rfl, gw_tbl 287 (by decide +kernel) rfl, gi_RX3⟩
set_option maxRecDepth 100000 in
theorem ic_X10_43 : zCI RX10 43 yX3_init cX3_init 1 := ⟨gw_tbl 288 (by decide +kernel) rfl, gw_tbl 289 (by decide +kernel) rfl, gi_RX3, gw_tbl 290 rfl rfl, by decide, rfl, by decide +kernel⟩
theorem nc_X10_44 : zLC RX10 44 0 RX0 TX0 7 tyX0 := ⟨rfl, ig_0, tyX0_ok, gw_tbl 309 (by decide +kernel) rfl, gw_tbl 310 (by decide +kernel) rfl, gi_RX0⟩
set_option maxRecDepth 100000 in
theorem ic_X10_46 : zCI RX10 46 yX0_init cX0_init 2 := ⟨gw_tbl 311 (by decide +kernel) rfl, gw_tbl 312 (by decide +kernel) rfl, gi_RX0, gw_tbl 313 rfl rfl, by decide, rfl, by decide +kernel⟩
theorem kF_X10_47 : zLF RX10 47 10 5 (.object "RainLoans$Ahead") := ⟨TX10, 7, tyX10, rfl, by decide, ig_10, gw_tbl 375 (by decide +kernel) rfl, tyX10_ok, nmX10, rfl, rfl, rfl⟩
theorem nc_X10_51 : zLC RX10 51 9 RX9 TX9 6 tyX9 := ⟨rfl, ig_9, tyX9_ok, gw_tbl 339 (by decide +kernel) rfl, gw_tbl 340 (by decide +kernel) rfl, gi_RX9⟩
set_option maxRecDepth 100000 in
theorem ic_X10_53 : zCI RX10 53 yX9_init cX9_init 1 := ⟨gw_tbl 341 (by decide +kernel) rfl, gw_tbl 342 (by decide +kernel) rfl, gi_RX9, gw_tbl 343 rfl rfl, by decide, rfl, by decide +kernel⟩
theorem kF_X10_54 : zLF RX10 54 10 6 (.object "RainLoans$Years") := ⟨TX10, 7, tyX10, rfl, by decide, ig_10, gw_tbl 376 (by decide +kernel) rfl, tyX10_ok, nmX10, rfl, rfl, rfl⟩
theorem ob_X11 : Cond.methodLink RX11 1 Lib.objectInit ∈ gw ∧ Cond.instanceMethod Lib.objectInit ∈ gw ∧ Cond.code Lib.objectInit ⟨#[0xb1]⟩ 1 none ∈ gw := ⟨gw_tbl 1089 (by decide +kernel) rfl, ob_i, ob_c⟩
theorem kF_X11_7 : zLF RX11 7 11 2 (.array .int) := ⟨TX11, 55, tyX11, rfl, by decide, ig_11, gw_tbl 1092 (by decide +kernel) rfl, tyX11_ok, nmX11, rfl, rfl, rfl⟩
theorem kF_X11_13 : zLF RX11 13 11 10 (.array .int) := ⟨TX11, 55, tyX11, rfl, by decide, ig_11, gw_tbl 1100 (by decide +kernel) rfl, tyX11_ok, nmX11, rfl, rfl, rfl⟩
theorem kF_X11_16 : zLF RX11 16 11 11 (.array .int) := ⟨TX11, 55, tyX11, rfl, by decide, ig_11, gw_tbl 1101 (by decide +kernel) rfl, tyX11_ok, nmX11, rfl, rfl, rfl⟩
theorem kF_X11_19 : zLF RX11 19 11 12 (.array .int) := ⟨TX11, 55, tyX11, rfl, by decide, ig_11, gw_tbl 1102 (by decide +kernel) rfl, tyX11_ok, nmX11, rfl, rfl, rfl⟩
theorem kF_X11_22 : zLF RX11 22 11 13 (.array .int) := ⟨TX11, 55, tyX11, rfl, by decide, ig_11, gw_tbl 1103 (by decide +kernel) rfl, tyX11_ok, nmX11, rfl, rfl, rfl⟩
theorem kF_X11_25 : zLF RX11 25 11 14 (.array .long) := ⟨TX11, 55, tyX11, rfl, by decide, ig_11, gw_tbl 1104 (by decide +kernel) rfl, tyX11_ok, nmX11, rfl, rfl, rfl⟩
theorem kF_X11_29 : zLF RX11 29 11 15 (.array .long) := ⟨TX11, 55, tyX11, rfl, by decide, ig_11, gw_tbl 1105 (by decide +kernel) rfl, tyX11_ok, nmX11, rfl, rfl, rfl⟩
theorem kF_X11_32 : zLF RX11 32 11 16 (.array .int) := ⟨TX11, 55, tyX11, rfl, by decide, ig_11, gw_tbl 1106 (by decide +kernel) rfl, tyX11_ok, nmX11, rfl, rfl, rfl⟩
theorem kF_X11_35 : zLF RX11 35 11 17 (.array .int) := ⟨TX11, 55, tyX11, rfl, by decide, ig_11, gw_tbl 1107 (by decide +kernel) rfl, tyX11_ok, nmX11, rfl, rfl, rfl⟩
theorem kF_X11_38 : zLF RX11 38 11 18 (.array .int) := ⟨TX11, 55, tyX11, rfl, by decide, ig_11, gw_tbl 1108 (by decide +kernel) rfl, tyX11_ok, nmX11, rfl, rfl, rfl⟩
theorem kF_X11_41 : zLF RX11 41 11 19 (.array .int) := ⟨TX11, 55, tyX11, rfl, by decide, ig_11, gw_tbl 1109 (by decide +kernel) rfl, tyX11_ok, nmX11, rfl, rfl, rfl⟩
theorem kF_X11_44 : zLF RX11 44 11 20 (.array .int) := ⟨TX11, 55, tyX11, rfl, by decide, ig_11, gw_tbl 1110 (by decide +kernel) rfl, tyX11_ok, nmX11, rfl, rfl, rfl⟩
theorem kF_X11_47 : zLF RX11 47 11 21 (.array .int) := ⟨TX11, 55, tyX11, rfl, by decide, ig_11, gw_tbl 1111 (by decide +kernel) rfl, tyX11_ok, nmX11, rfl, rfl, rfl⟩
theorem kF_X11_50 : zLF RX11 50 11 22 (.array .int) := ⟨TX11, 55, tyX11, rfl, by decide, ig_11, gw_tbl 1112 (by decide +kernel) rfl, tyX11_ok, nmX11, rfl, rfl, rfl⟩
theorem kF_X11_53 : zLF RX11 53 11 23 (.array .int) := ⟨TX11, 55, tyX11, rfl, by decide, ig_11, gw_tbl 1113 (by decide +kernel) rfl, tyX11_ok, nmX11, rfl, rfl, rfl⟩
theorem kF_X11_56 : zLF RX11 56 11 24 (.array .int) := ⟨TX11, 55, tyX11, rfl, by decide, ig_11, gw_tbl 1114 (by decide +kernel) rfl, tyX11_ok, nmX11, rfl, rfl, rfl⟩
theorem kF_X11_59 : zLF RX11 59 11 25 (.array .int) := ⟨TX11, 55, tyX11, rfl, by decide, ig_11, gw_tbl 1115 (by decide +kernel) rfl, tyX11_ok, nmX11, rfl, rfl, rfl⟩
theorem kF_X11_62 : zLF RX11 62 11 26 (.array .int) := ⟨TX11, 55, tyX11, rfl, by decide, ig_11, gw_tbl 1116 (by decide +kernel) rfl, tyX11_ok, nmX11, rfl, rfl, rfl⟩
theorem kF_X11_65 : zLF RX11 65 11 27 (.array .int) := ⟨TX11, 55, tyX11, rfl, by decide, ig_11, gw_tbl 1117 (by decide +kernel) rfl, tyX11_ok, nmX11, rfl, rfl, rfl⟩
theorem kF_X11_68 : zLF RX11 68 11 28 (.array .int) := ⟨TX11, 55, tyX11, rfl, by decide, ig_11, gw_tbl 1118 (by decide +kernel) rfl, tyX11_ok, nmX11, rfl, rfl, rfl⟩
theorem kF_X11_71 : zLF RX11 71 11 29 (.array .int) := ⟨TX11, 55, tyX11, rfl, by decide, ig_11, gw_tbl 1119 (by decide +kernel) rfl, tyX11_ok, nmX11, rfl, rfl, rfl⟩
theorem kF_X11_74 : zLF RX11 74 11 30 (.array .int) := ⟨TX11, 55, tyX11, rfl, by decide, ig_11, gw_tbl 1120 (by decide +kernel) rfl, tyX11_ok, nmX11, rfl, rfl, rfl⟩
theorem kF_X11_77 : zLF RX11 77 11 31 (.array .int) := ⟨TX11, 55, tyX11, rfl, by decide, ig_11, gw_tbl 1121 (by decide +kernel) rfl, tyX11_ok, nmX11, rfl, rfl, rfl⟩
theorem kF_X11_80 : zLF RX11 80 11 33 (.array .int) := ⟨TX11, 55, tyX11, rfl, by decide, ig_11, gw_tbl 1123 (by decide +kernel) rfl, tyX11_ok, nmX11, rfl, rfl, rfl⟩
theorem kF_X11_83 : zLF RX11 83 11 34 (.array .boolean) := ⟨TX11, 55, tyX11, rfl, by decide, ig_11, gw_tbl 1124 (by decide +kernel) rfl, tyX11_ok, nmX11, rfl, rfl, rfl⟩
theorem kF_X11_87 : zLF RX11 87 11 35 (.array .int) := ⟨TX11, 55, tyX11, rfl, by decide, ig_11, gw_tbl 1125 (by decide +kernel) rfl, tyX11_ok, nmX11, rfl, rfl, rfl⟩
theorem kF_X11_90 : zLF RX11 90 11 36 (.array .int) := ⟨TX11, 55, tyX11, rfl, by decide, ig_11, gw_tbl 1126 (by decide +kernel) rfl, tyX11_ok, nmX11, rfl, rfl, rfl⟩
theorem kF_X11_93 : zLF RX11 93 11 37 (.array .int) := ⟨TX11, 55, tyX11, rfl, by decide, ig_11, gw_tbl 1127 (by decide +kernel) rfl, tyX11_ok, nmX11, rfl, rfl, rfl⟩
theorem kF_X11_96 : zLF RX11 96 11 38 (.array .int) := ⟨TX11, 55, tyX11, rfl, by decide, ig_11, gw_tbl 1128 (by decide +kernel) rfl, tyX11_ok, nmX11, rfl, rfl, rfl⟩
theorem kF_X11_99 : zLF RX11 99 11 39 (.array .int) := ⟨TX11, 55, tyX11, rfl, by decide, ig_11, gw_tbl 1129 (by decide +kernel) rfl, tyX11_ok, nmX11, rfl, rfl, rfl⟩
theorem kF_X11_102 : zLF RX11 102 11 40 (.array .int) := ⟨TX11, 55, tyX11, rfl, by decide, ig_11, gw_tbl 1130 (by decide +kernel) rfl, tyX11_ok, nmX11, rfl, rfl, rfl⟩
theorem kF_X11_105 : zLF RX11 105 11 41 (.array .int) := ⟨TX11, 55, tyX11, rfl, by decide, ig_11, gw_tbl 1131 (by decide +kernel) rfl, tyX11_ok, nmX11, rfl, rfl, rfl⟩
theorem kF_X11_108 : zLF RX11 108 11 42 (.array .int) := ⟨TX11, 55, tyX11, rfl, by decide, ig_11, gw_tbl 1132 (by decide +kernel) rfl, tyX11_ok, nmX11, rfl, rfl, rfl⟩
theorem kF_X11_111 : zLF RX11 111 11 43 (.array .int) := ⟨TX11, 55, tyX11, rfl, by decide, ig_11, gw_tbl 1133 (by decide +kernel) rfl, tyX11_ok, nmX11, rfl, rfl, rfl⟩
theorem kF_X11_114 : zLF RX11 114 11 44 (.array .int) := ⟨TX11, 55, tyX11, rfl, by decide, ig_11, gw_tbl 1134 (by decide +kernel) rfl, tyX11_ok, nmX11, rfl, rfl, rfl⟩
theorem kF_X11_117 : zLF RX11 117 11 46 (.array .int) := ⟨TX11, 55, tyX11, rfl, by decide, ig_11, gw_tbl 1136 (by decide +kernel) rfl, tyX11_ok, nmX11, rfl, rfl, rfl⟩
theorem kF_X11_120 : zLF RX11 120 11 47 (.array .int) := ⟨TX11, 55, tyX11, rfl, by decide, ig_11, gw_tbl 1137 (by decide +kernel) rfl, tyX11_ok, nmX11, rfl, rfl, rfl⟩
theorem kF_X11_123 : zLF RX11 123 11 48 (.array .int) := ⟨TX11, 55, tyX11, rfl, by decide, ig_11, gw_tbl 1138 (by decide +kernel) rfl, tyX11_ok, nmX11, rfl, rfl, rfl⟩
theorem kF_X11_126 : zLF RX11 126 11 49 (.array .int) := ⟨TX11, 55, tyX11, rfl, by decide, ig_11, gw_tbl 1139 (by decide +kernel) rfl, tyX11_ok, nmX11, rfl, rfl, rfl⟩
theorem kF_X11_129 : zLF RX11 129 11 54 (.array .boolean) := ⟨TX11, 55, tyX11, rfl, by decide, ig_11, gw_tbl 1144 (by decide +kernel) rfl, tyX11_ok, nmX11, rfl, rfl, rfl⟩
theorem nc_L_8 : zLC RL 8 10 RX10 TX10 7 tyX10 := ⟨rfl, ig_10, tyX10_ok, gw_tbl 26 (by decide +kernel) rfl, gw_tbl 27 (by decide +kernel) rfl, gi_RX10⟩
set_option maxRecDepth 100000 in
theorem ic_L_22 : zCI RL 22 yX10_init cX10_init 2 := ⟨gw_tbl 28 (by decide +kernel) rfl, gw_tbl 29 (by decide +kernel) rfl, gi_RX10, gw_tbl 30 rfl rfl, by decide, rfl, by decide +kernel⟩
theorem nc_L_23 : zLC RL 23 11 RX11 TX11 55 tyX11 := ⟨rfl, ig_11, tyX11_ok, gw_tbl 1084 (by decide +kernel) rfl, gw_tbl 1085 (by decide +kernel) rfl, gi_RX11⟩
set_option maxRecDepth 100000 in
theorem ic_L_25 : zCI RL 25 yX11_init cX11_init 1 := ⟨gw_tbl 1086 (by decide +kernel) rfl, gw_tbl 1087 (by decide +kernel) rfl, gi_RX11, gw_tbl 1088 rfl rfl, by decide, rfl, by decide +kernel⟩
set_option maxRecDepth 100000 in
theorem ic_T : Cond.instanceMethod yX7_init ∈ gw ∧ Cond.initialized yX7_init.cls ∈ gw ∧ Cond.code yX7_init cX7_init 1 none ∈ gw ∧ 1 ≤ 80 := ⟨gw_tbl 87 (by decide +kernel) rfl, gi_RX7, gw_tbl 88 rfl rfl, by decide⟩
