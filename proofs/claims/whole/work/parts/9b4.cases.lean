/-! the law's twenty cases -/
theorem Rel_up {M : Int} {μ : zM} (h : Rel M μ) : Rel (M + 990) μ := by
  obtain ⟨S, a, b, c⟩ := h
  exact ⟨S, a, b, wI_mono c (by omega)⟩
theorem lg_self (x : Int64) : lg_cmp x x = 0 := by simp [lg_cmp]
theorem lc_feed {X : zX} {b Ln k : Nat} {xs : Nat → Int32} {μ : zM} {M : Int} (hw : lwX X b Ln xs) (hk : 7 * k + 7 ≤ Ln) (hLn : Ln ≤ 3584) (h : Rel M μ) (hM0 : 10000 ≤ M) (hM : M ≤ 600000) (hce : X.ce + 1 ≤ 601024) (hsl : X.sl + 6 ≤ 7293034)
    (nx : ∀ (c s : Nat) (μ' : zM), c ≤ X.ce + 1 → s ≤ X.sl + 6 → Rel (M + 990) μ' → AW (X.at c s) 1025 (LL X b (7 * k)) [] μ') : AW X 136 (LL X b (7 * k)) [] μ := by
  have hX := hw.1
  refine aw_aload_n hX dL_law_136 rfl ?_
  refine lw_arg (k := k) (j := 1) (pc3 := 141) hw hX hk hLn (by decide) (by decide) rfl rfl dL_law_137 dL_law_138 (fun z => aw_iconst hX dL_law_140 zk_1 z) dL_law_141 dL_law_142 ?_
  refine aw_i2l hX dL_law_143 ?_
  refine aw_bipush hX dL_law_144 zb_32 ?_
  refine aw_lshl hX dL_law_146 ?_
  refine lw_arg (k := k) (j := 2) (pc3 := 151) hw hX hk hLn (by decide) (by decide) rfl rfl dL_law_147 dL_law_148 (fun z => aw_iconst hX dL_law_150 zk_2 z) dL_law_151 dL_law_152 ?_
  refine aw_i2l hX dL_law_153 ?_
  refine aw_ldc2 hX kl_L_26 dL_law_154 ?_
  refine aw_land hX dL_law_157 ?_
  refine aw_lor hX dL_law_158 ?_
  refine lw_arg (k := k) (j := 3) (pc3 := 163) hw hX hk hLn (by decide) (by decide) rfl rfl dL_law_159 dL_law_160 (fun z => aw_iconst hX dL_law_162 zk_3 z) dL_law_163 dL_law_164 ?_
  refine aw_i2l hX dL_law_165 ?_
  refine aw_bipush hX dL_law_166 zb_32 ?_
  refine aw_lshl hX dL_law_168 ?_
  refine lw_arg (k := k) (j := 4) (pc3 := 173) hw hX hk hLn (by decide) (by decide) rfl rfl dL_law_169 dL_law_170 (fun z => aw_iconst hX dL_law_172 zk_4 z) dL_law_173 dL_law_174 ?_
  refine aw_i2l hX dL_law_175 ?_
  refine aw_ldc2 hX kl_L_26 dL_law_176 ?_
  refine aw_land hX dL_law_179 ?_
  refine aw_lor hX dL_law_180 ?_
  refine lw_arg (k := k) (j := 5) (pc3 := 185) hw hX hk hLn (by decide) (by decide) rfl rfl dL_law_181 dL_law_182 (fun z => aw_iconst hX dL_law_184 zk_5 z) dL_law_185 dL_law_186 ?_
  refine aw_i2l hX dL_law_187 ?_
  refine aw_bipush hX dL_law_188 zb_32 ?_
  refine aw_lshl hX dL_law_190 ?_
  refine lw_arg (k := k) (j := 6) (pc3 := 196) hw hX hk hLn (by decide) (by decide) rfl rfl dL_law_191 dL_law_192 (fun z => aw_bipush hX dL_law_194 zb_6 z) dL_law_196 dL_law_197 ?_
  refine aw_i2l hX dL_law_198 ?_
  refine aw_ldc2 hX kl_L_26 dL_law_199 ?_
  refine aw_land hX dL_law_202 ?_
  refine aw_lor hX dL_law_203 ?_
  refine aw_callV (As := [.long (((xs (7 * k + 1)).toInt64 <<< ((32 : Int32).toInt64 &&& 63)) ||| ((xs (7 * k + 2)).toInt64 &&& 4294967295)), .long (((xs (7 * k + 3)).toInt64 <<< ((32 : Int32).toInt64 &&& 63)) ||| ((xs (7 * k + 4)).toInt64 &&& 4294967295)), .long (((xs (7 * k + 5)).toInt64 <<< ((32 : Int32).toInt64 &&& 63)) ||| ((xs (7 * k + 6)).toInt64 &&& 4294967295))]) (rest := []) (κ := 10) (o := 0) (T := TX10) (N := 7) hX vc_L_28 sh_10 (by decide) rfl (by decide) (pr_feed h) rfl rfl (Nat.le_of_ble_eq_true rfl) dL_law_204 (fun rv μ1 hp => ?_)
  obtain ⟨r, rfl, hp⟩ := hp
  refine aw_aload_n hX dL_law_207 rfl ?_
  refine lw_arg (k := k) (j := 1) (pc3 := 212) hw hX hk hLn (by decide) (by decide) rfl rfl dL_law_208 dL_law_209 (fun z => aw_iconst hX dL_law_211 zk_1 z) dL_law_212 dL_law_213 ?_
  refine aw_i2l hX dL_law_214 ?_
  refine aw_bipush hX dL_law_215 zb_32 ?_
  refine aw_lshl hX dL_law_217 ?_
  refine lw_arg (k := k) (j := 2) (pc3 := 222) hw hX hk hLn (by decide) (by decide) rfl rfl dL_law_218 dL_law_219 (fun z => aw_iconst hX dL_law_221 zk_2 z) dL_law_222 dL_law_223 ?_
  refine aw_i2l hX dL_law_224 ?_
  refine aw_ldc2 hX kl_L_26 dL_law_225 ?_
  refine aw_land hX dL_law_228 ?_
  refine aw_lor hX dL_law_229 ?_
  refine lw_arg (k := k) (j := 3) (pc3 := 234) hw hX hk hLn (by decide) (by decide) rfl rfl dL_law_230 dL_law_231 (fun z => aw_iconst hX dL_law_233 zk_3 z) dL_law_234 dL_law_235 ?_
  refine aw_i2l hX dL_law_236 ?_
  refine aw_bipush hX dL_law_237 zb_32 ?_
  refine aw_lshl hX dL_law_239 ?_
  refine lw_arg (k := k) (j := 4) (pc3 := 244) hw hX hk hLn (by decide) (by decide) rfl rfl dL_law_240 dL_law_241 (fun z => aw_iconst hX dL_law_243 zk_4 z) dL_law_244 dL_law_245 ?_
  refine aw_i2l hX dL_law_246 ?_
  refine aw_ldc2 hX kl_L_26 dL_law_247 ?_
  refine aw_land hX dL_law_250 ?_
  refine aw_lor hX dL_law_251 ?_
  refine lw_arg (k := k) (j := 5) (pc3 := 256) hw hX hk hLn (by decide) (by decide) rfl rfl dL_law_252 dL_law_253 (fun z => aw_iconst hX dL_law_255 zk_5 z) dL_law_256 dL_law_257 ?_
  refine aw_i2l hX dL_law_258 ?_
  refine aw_bipush hX dL_law_259 zb_32 ?_
  refine aw_lshl hX dL_law_261 ?_
  refine lw_arg (k := k) (j := 6) (pc3 := 267) hw hX hk hLn (by decide) (by decide) rfl rfl dL_law_262 dL_law_263 (fun z => aw_bipush hX dL_law_265 zb_6 z) dL_law_267 dL_law_268 ?_
  refine aw_i2l hX dL_law_269 ?_
  refine aw_ldc2 hX kl_L_26 dL_law_270 ?_
  refine aw_land hX dL_law_273 ?_
  refine aw_lor hX dL_law_274 ?_
  refine aw_callV (As := [.long (((xs (7 * k + 1)).toInt64 <<< ((32 : Int32).toInt64 &&& 63)) ||| ((xs (7 * k + 2)).toInt64 &&& 4294967295)), .long (((xs (7 * k + 3)).toInt64 <<< ((32 : Int32).toInt64 &&& 63)) ||| ((xs (7 * k + 4)).toInt64 &&& 4294967295)), .long (((xs (7 * k + 5)).toInt64 <<< ((32 : Int32).toInt64 &&& 63)) ||| ((xs (7 * k + 6)).toInt64 &&& 4294967295))]) (rest := [.int r]) (κ := 11) (o := 0) (T := TX11) (N := 55) hX vc_L_32 sh_11 (by decide) rfl (by decide) hp rfl rfl (Nat.le_of_ble_eq_true rfl) dL_law_275 (fun rv μ2 hp2 => ?_)
  obtain ⟨r2, rfl, rfl, hR⟩ := hp2
  exact aw_icmp_eq (tgt := 1025) hX dL_law_278 (by decide) (fun _ => nx X.ce X.sl μ2 (by omega) (by omega) (Rel_up hR)) (fun hne => absurd rfl hne)
theorem lc_custom {X : zX} {b Ln k : Nat} {xs : Nat → Int32} {μ : zM} {M : Int} (hw : lwX X b Ln xs) (hk : 7 * k + 7 ≤ Ln) (hLn : Ln ≤ 3584) (h : Rel M μ) (hM0 : 10000 ≤ M) (hM : M ≤ 600000) (hce : X.ce + 1 ≤ 601024) (hsl : X.sl + 6 ≤ 7293034)
    (nx : ∀ (c s : Nat) (μ' : zM), c ≤ X.ce + 1 → s ≤ X.sl + 6 → Rel (M + 990) μ' → AW (X.at c s) 1025 (LL X b (7 * k)) [] μ') : AW X 283 (LL X b (7 * k)) [] μ := by
  have hX := hw.1
  refine aw_aload_n hX dL_law_283 rfl ?_
  refine aw_callV (As := []) (rest := []) (κ := 10) (o := 0) (T := TX10) (N := 7) hX vc_L_33 sh_10 (by decide) rfl (by decide) (pr_custom hw.2.2.2.2.2.2.1 h hM0) rfl rfl (Nat.le_of_ble_eq_true rfl) dL_law_284 (fun rv μ1 hp => ?_)
  obtain ⟨r, rfl, hp⟩ := hp
  refine aw_aload_n hX dL_law_287 rfl ?_
  refine aw_callV (As := []) (rest := [.int r]) (κ := 11) (o := 0) (T := TX11) (N := 55) hX vc_L_37 sh_11 (by decide) rfl (by decide) hp rfl rfl (Nat.le_of_ble_eq_true rfl) dL_law_288 (fun rv μ2 hp2 => ?_)
  obtain ⟨r2, rfl, rfl, hR⟩ := hp2
  exact aw_icmp_eq (tgt := 1025) hX dL_law_291 (by decide) (fun _ => nx X.ce X.sl μ2 (by omega) (by omega) (Rel_up hR)) (fun hne => absurd rfl hne)
theorem lc_hill {X : zX} {b Ln k : Nat} {xs : Nat → Int32} {μ : zM} {M : Int} (hw : lwX X b Ln xs) (hk : 7 * k + 7 ≤ Ln) (hLn : Ln ≤ 3584) (h : Rel M μ) (hM0 : 10000 ≤ M) (hM : M ≤ 600000) (hce : X.ce + 1 ≤ 601024) (hsl : X.sl + 6 ≤ 7293034)
    (nx : ∀ (c s : Nat) (μ' : zM), c ≤ X.ce + 1 → s ≤ X.sl + 6 → Rel (M + 990) μ' → AW (X.at c s) 1025 (LL X b (7 * k)) [] μ') : AW X 296 (LL X b (7 * k)) [] μ := by
  have hX := hw.1
  refine aw_aload_n hX dL_law_296 rfl ?_
  refine lw_arg (k := k) (j := 1) (pc3 := 301) hw hX hk hLn (by decide) (by decide) rfl rfl dL_law_297 dL_law_298 (fun z => aw_iconst hX dL_law_300 zk_1 z) dL_law_301 dL_law_302 ?_
  refine lw_arg (k := k) (j := 2) (pc3 := 307) hw hX hk hLn (by decide) (by decide) rfl rfl dL_law_303 dL_law_304 (fun z => aw_iconst hX dL_law_306 zk_2 z) dL_law_307 dL_law_308 ?_
  refine aw_callV (As := [.int (xs (7 * k + 1)), .int (xs (7 * k + 2))]) (rest := []) (κ := 10) (o := 0) (T := TX10) (N := 7) hX vc_L_38 sh_10 (by decide) rfl (by decide) (pr_hill h) rfl rfl (Nat.le_of_ble_eq_true rfl) dL_law_309 (fun rv μ1 hp => ?_)
  obtain ⟨r, rfl, hp⟩ := hp
  refine aw_aload_n hX dL_law_312 rfl ?_
  refine lw_arg (k := k) (j := 1) (pc3 := 317) hw hX hk hLn (by decide) (by decide) rfl rfl dL_law_313 dL_law_314 (fun z => aw_iconst hX dL_law_316 zk_1 z) dL_law_317 dL_law_318 ?_
  refine lw_arg (k := k) (j := 2) (pc3 := 323) hw hX hk hLn (by decide) (by decide) rfl rfl dL_law_319 dL_law_320 (fun z => aw_iconst hX dL_law_322 zk_2 z) dL_law_323 dL_law_324 ?_
  refine aw_callV (As := [.int (xs (7 * k + 1)), .int (xs (7 * k + 2))]) (rest := [.int r]) (κ := 11) (o := 0) (T := TX11) (N := 55) hX vc_L_41 sh_11 (by decide) rfl (by decide) hp rfl rfl (Nat.le_of_ble_eq_true rfl) dL_law_325 (fun rv μ2 hp2 => ?_)
  obtain ⟨r2, rfl, rfl, hR⟩ := hp2
  exact aw_icmp_eq (tgt := 1025) hX dL_law_328 (by decide) (fun _ => nx X.ce X.sl μ2 (by omega) (by omega) (Rel_up hR)) (fun hne => absurd rfl hne)
theorem lc_purse {X : zX} {b Ln k : Nat} {xs : Nat → Int32} {μ : zM} {M : Int} (hw : lwX X b Ln xs) (hk : 7 * k + 7 ≤ Ln) (hLn : Ln ≤ 3584) (h : Rel M μ) (hM0 : 10000 ≤ M) (hM : M ≤ 600000) (hce : X.ce + 1 ≤ 601024) (hsl : X.sl + 6 ≤ 7293034)
    (nx : ∀ (c s : Nat) (μ' : zM), c ≤ X.ce + 1 → s ≤ X.sl + 6 → Rel (M + 990) μ' → AW (X.at c s) 1025 (LL X b (7 * k)) [] μ') : AW X 333 (LL X b (7 * k)) [] μ := by
  have hX := hw.1
  refine aw_aload_n hX dL_law_333 rfl ?_
  refine lw_arg (k := k) (j := 1) (pc3 := 338) hw hX hk hLn (by decide) (by decide) rfl rfl dL_law_334 dL_law_335 (fun z => aw_iconst hX dL_law_337 zk_1 z) dL_law_338 dL_law_339 ?_
  refine aw_aload_n hX dL_law_340 rfl ?_
  refine aw_callW (n := 3) (As := [.ref (X.G.ad 10 0), .int (xs (7 * k + 1)), .ref (X.G.ad 75 0)]) (rest := []) hX (gW_in gW_purse) (by decide) (by decide +kernel) (by decide) (pr_purse hw.2.2.2.2.2.2.1 hw.2.2.2.2.2.2.2.1 hw.2.2.2.2.2.2.2.2.1 h) rfl rfl (Nat.le_of_ble_eq_true rfl) dL_law_341 (by rw [hw.2.1]; exact hce) (by rw [hw.2.1]; exact hsl) (fun rv μ1 hp => ?_)
  obtain ⟨k1, rfl, hp⟩ := hp
  have hw2 := lwX_at hw hce hsl
  have hX2 := hw2.1
  refine aw_istore (L' := [some (.ref b), some (.ref (X.G.ad 10 0)), some (.ref (X.G.ad 11 0)), some (.ref (X.G.ad 75 0)), some (.int (nI (7 * k))), some (.int k1), none]) hX2 dL_law_344 (Nat.le_of_ble_eq_true rfl) rfl ?_
  refine aw_aload_n hX2 dL_law_346 rfl ?_
  refine lw_arg (k := k) (j := 1) (pc3 := 351) hw2 hX2 hk hLn (by decide) (by decide) rfl rfl dL_law_347 dL_law_348 (fun z => aw_iconst hX2 dL_law_350 zk_1 z) dL_law_351 dL_law_352 ?_
  refine aw_callV (As := [.int (xs (7 * k + 1))]) (rest := []) (κ := 11) (o := 0) (T := TX11) (N := 55) hX2 vc_L_47 sh_11 (by decide) rfl (by decide) hp rfl rfl (Nat.le_of_ble_eq_true rfl) dL_law_353 (fun rv μ2 hp2 => ?_)
  obtain ⟨r2, rfl, h1, h2, hR⟩ := hp2
  refine aw_istore (L' := [some (.ref b), some (.ref (X.G.ad 10 0)), some (.ref (X.G.ad 11 0)), some (.ref (X.G.ad 75 0)), some (.int (nI (7 * k))), some (.int k1), some (.int r2)]) hX2 dL_law_356 (Nat.le_of_ble_eq_true rfl) rfl ?_
  refine aw_aload_n hX2 dL_law_358 rfl ?_
  refine aw_callV (As := []) (rest := []) (κ := 11) (o := 0) (T := TX11) (N := 55) hX2 vc_L_48 sh_11 (by decide) rfl (by decide) ct_thrown rfl rfl (Nat.le_of_ble_eq_true rfl) dL_law_359 (fun rv μ3 hp3 => ?_)
  obtain ⟨q, rfl, hq, hμ⟩ := hp3
  rw [hμ, hq]
  refine aw_iload hX2 dL_law_362 rfl ?_
  refine aw_icmp_eq (tgt := 369) hX2 dL_law_364 (by decide) (fun _ => ?_) (fun hne => absurd h1 hne)
  refine aw_iload hX2 dL_law_369 rfl ?_
  have fin : AW (X.at (X.ce + 1) (X.sl + 6)) 386 [some (.ref b), some (.ref (X.G.ad 10 0)), some (.ref (X.G.ad 11 0)), some (.ref (X.G.ad 75 0)), some (.int (nI (7 * k))), some (.int k1), some (.int r2)] [] μ2 := by
    refine aw_goto (tgt := 1025) hX2 dL_law_386 (by decide) ?_
    exact aw_less (M := LL X b (7 * k)) ⟨rfl, rfl, rfl, rfl, rfl, trivial⟩ (nx _ _ μ2 (Nat.le_refl _) (Nat.le_refl _) (Rel_up hR))
  refine aw_if_ne (tgt := 386) hX2 dL_law_371 (by decide) (fun _ => fin) (fun h0 => ?_)
  refine aw_aload_n hX2 dL_law_374 rfl ?_
  refine aw_iconst hX2 dL_law_375 zk_0 ?_
  refine aw_lald' (k := 0) hX2 sh_75 (by decide) (zdi (by decide)) rfl dL_law_376 ?_
  refine aw_iload hX2 dL_law_377 rfl ?_
  refine aw_i2l hX2 dL_law_379 ?_
  refine aw_lcmp hX2 dL_law_380 ?_
  rw [h2 h0, lg_self]
  exact aw_if_eq (tgt := 386) hX2 dL_law_381 (by decide) (fun _ => fin) (fun hne => absurd rfl hne)
theorem lc_loan {X : zX} {b Ln k : Nat} {xs : Nat → Int32} {μ : zM} {M : Int} (hw : lwX X b Ln xs) (hk : 7 * k + 7 ≤ Ln) (hLn : Ln ≤ 3584) (h : Rel M μ) (hM0 : 10000 ≤ M) (hM : M ≤ 600000) (hce : X.ce + 1 ≤ 601024) (hsl : X.sl + 6 ≤ 7293034)
    (nx : ∀ (c s : Nat) (μ' : zM), c ≤ X.ce + 1 → s ≤ X.sl + 6 → Rel (M + 990) μ' → AW (X.at c s) 1025 (LL X b (7 * k)) [] μ') : AW X 389 (LL X b (7 * k)) [] μ := by
  have hX := hw.1
  refine aw_aload_n hX dL_law_389 rfl ?_
  refine lw_arg (k := k) (j := 1) (pc3 := 394) hw hX hk hLn (by decide) (by decide) rfl rfl dL_law_390 dL_law_391 (fun z => aw_iconst hX dL_law_393 zk_1 z) dL_law_394 dL_law_395 ?_
  refine lw_arg (k := k) (j := 2) (pc3 := 400) hw hX hk hLn (by decide) (by decide) rfl rfl dL_law_396 dL_law_397 (fun z => aw_iconst hX dL_law_399 zk_2 z) dL_law_400 dL_law_401 ?_
  refine aw_callV (As := [.int (xs (7 * k + 1)), .int (xs (7 * k + 2))]) (rest := []) (κ := 10) (o := 0) (T := TX10) (N := 7) hX vc_L_51 sh_10 (by decide) rfl (by decide) (pr_loan h) rfl rfl (Nat.le_of_ble_eq_true rfl) dL_law_402 (fun rv μ1 hp => ?_)
  obtain ⟨r, rfl, hp⟩ := hp
  refine aw_aload_n hX dL_law_405 rfl ?_
  refine lw_arg (k := k) (j := 1) (pc3 := 410) hw hX hk hLn (by decide) (by decide) rfl rfl dL_law_406 dL_law_407 (fun z => aw_iconst hX dL_law_409 zk_1 z) dL_law_410 dL_law_411 ?_
  refine lw_arg (k := k) (j := 2) (pc3 := 416) hw hX hk hLn (by decide) (by decide) rfl rfl dL_law_412 dL_law_413 (fun z => aw_iconst hX dL_law_415 zk_2 z) dL_law_416 dL_law_417 ?_
  refine aw_callV (As := [.int (xs (7 * k + 1)), .int (xs (7 * k + 2))]) (rest := [.int r]) (κ := 11) (o := 0) (T := TX11) (N := 55) hX vc_L_54 sh_11 (by decide) rfl (by decide) hp rfl rfl (Nat.le_of_ble_eq_true rfl) dL_law_418 (fun rv μ2 hp2 => ?_)
  obtain ⟨r2, rfl, rfl, hR⟩ := hp2
  exact aw_icmp_eq (tgt := 1025) hX dL_law_421 (by decide) (fun _ => nx X.ce X.sl μ2 (by omega) (by omega) (Rel_up hR)) (fun hne => absurd rfl hne)
theorem lc_day {X : zX} {b Ln k : Nat} {xs : Nat → Int32} {μ : zM} {M : Int} (hw : lwX X b Ln xs) (hk : 7 * k + 7 ≤ Ln) (hLn : Ln ≤ 3584) (h : Rel M μ) (hM0 : 10000 ≤ M) (hM : M ≤ 600000) (hce : X.ce + 1 ≤ 601024) (hsl : X.sl + 6 ≤ 7293034)
    (nx : ∀ (c s : Nat) (μ' : zM), c ≤ X.ce + 1 → s ≤ X.sl + 6 → Rel (M + 990) μ' → AW (X.at c s) 1025 (LL X b (7 * k)) [] μ') : AW X 426 (LL X b (7 * k)) [] μ := by
  have hX := hw.1
  refine aw_aload_n hX dL_law_426 rfl ?_
  refine lw_arg (k := k) (j := 1) (pc3 := 431) hw hX hk hLn (by decide) (by decide) rfl rfl dL_law_427 dL_law_428 (fun z => aw_iconst hX dL_law_430 zk_1 z) dL_law_431 dL_law_432 ?_
  refine aw_callV (As := [.int (xs (7 * k + 1))]) (rest := []) (κ := 10) (o := 0) (T := TX10) (N := 7) hX vc_L_55 sh_10 (by decide) rfl (by decide) (pr_day h (by omega)) rfl rfl (Nat.le_of_ble_eq_true rfl) dL_law_433 (fun rv μ1 hp => ?_)
  obtain ⟨r, rfl, hp⟩ := hp
  refine aw_aload_n hX dL_law_436 rfl ?_
  refine lw_arg (k := k) (j := 1) (pc3 := 441) hw hX hk hLn (by decide) (by decide) rfl rfl dL_law_437 dL_law_438 (fun z => aw_iconst hX dL_law_440 zk_1 z) dL_law_441 dL_law_442 ?_
  refine aw_callV (As := [.int (xs (7 * k + 1))]) (rest := [.int r]) (κ := 11) (o := 0) (T := TX11) (N := 55) hX vc_L_58 sh_11 (by decide) rfl (by decide) hp rfl rfl (Nat.le_of_ble_eq_true rfl) dL_law_443 (fun rv μ2 hp2 => ?_)
  obtain ⟨r2, rfl, rfl, hR⟩ := hp2
  exact aw_icmp_eq (tgt := 1025) hX dL_law_446 (by decide) (fun _ => nx X.ce X.sl μ2 (by omega) (by omega) hR) (fun hne => absurd rfl hne)
theorem lc_early {X : zX} {b Ln k : Nat} {xs : Nat → Int32} {μ : zM} {M : Int} (hw : lwX X b Ln xs) (hk : 7 * k + 7 ≤ Ln) (hLn : Ln ≤ 3584) (h : Rel M μ) (hM0 : 10000 ≤ M) (hM : M ≤ 600000) (hce : X.ce + 1 ≤ 601024) (hsl : X.sl + 6 ≤ 7293034)
    (nx : ∀ (c s : Nat) (μ' : zM), c ≤ X.ce + 1 → s ≤ X.sl + 6 → Rel (M + 990) μ' → AW (X.at c s) 1025 (LL X b (7 * k)) [] μ') : AW X 451 (LL X b (7 * k)) [] μ := by
  have hX := hw.1
  refine aw_aload_n hX dL_law_451 rfl ?_
  refine lw_arg (k := k) (j := 1) (pc3 := 456) hw hX hk hLn (by decide) (by decide) rfl rfl dL_law_452 dL_law_453 (fun z => aw_iconst hX dL_law_455 zk_1 z) dL_law_456 dL_law_457 ?_
  refine aw_callV (As := [.int (xs (7 * k + 1))]) (rest := []) (κ := 10) (o := 0) (T := TX10) (N := 7) hX vc_L_59 sh_10 (by decide) rfl (by decide) (pr_early h (by omega)) rfl rfl (Nat.le_of_ble_eq_true rfl) dL_law_458 (fun rv μ1 hp => ?_)
  obtain ⟨r, rfl, hp⟩ := hp
  refine aw_aload_n hX dL_law_461 rfl ?_
  refine lw_arg (k := k) (j := 1) (pc3 := 466) hw hX hk hLn (by decide) (by decide) rfl rfl dL_law_462 dL_law_463 (fun z => aw_iconst hX dL_law_465 zk_1 z) dL_law_466 dL_law_467 ?_
  refine aw_callV (As := [.int (xs (7 * k + 1))]) (rest := [.int r]) (κ := 11) (o := 0) (T := TX11) (N := 55) hX vc_L_63 sh_11 (by decide) rfl (by decide) hp rfl rfl (Nat.le_of_ble_eq_true rfl) dL_law_468 (fun rv μ2 hp2 => ?_)
  obtain ⟨r2, rfl, rfl, hR⟩ := hp2
  exact aw_icmp_eq (tgt := 1025) hX dL_law_471 (by decide) (fun _ => nx X.ce X.sl μ2 (by omega) (by omega) (Rel_up hR)) (fun hne => absurd rfl hne)
theorem lc_undo {X : zX} {b Ln k : Nat} {xs : Nat → Int32} {μ : zM} {M : Int} (hw : lwX X b Ln xs) (hk : 7 * k + 7 ≤ Ln) (hLn : Ln ≤ 3584) (h : Rel M μ) (hM0 : 10000 ≤ M) (hM : M ≤ 600000) (hce : X.ce + 1 ≤ 601024) (hsl : X.sl + 6 ≤ 7293034)
    (nx : ∀ (c s : Nat) (μ' : zM), c ≤ X.ce + 1 → s ≤ X.sl + 6 → Rel (M + 990) μ' → AW (X.at c s) 1025 (LL X b (7 * k)) [] μ') : AW X 476 (LL X b (7 * k)) [] μ := by
  have hX := hw.1
  refine aw_aload_n hX dL_law_476 rfl ?_
  refine aw_callV (As := []) (rest := []) (κ := 10) (o := 0) (T := TX10) (N := 7) hX vc_L_64 sh_10 (by decide) rfl (by decide) (pr_undo h) rfl rfl (Nat.le_of_ble_eq_true rfl) dL_law_477 (fun rv μ1 hp => ?_)
  obtain ⟨r, rfl, hp⟩ := hp
  refine aw_aload_n hX dL_law_480 rfl ?_
  refine aw_callV (As := []) (rest := [.int r]) (κ := 11) (o := 0) (T := TX11) (N := 55) hX vc_L_68 sh_11 (by decide) rfl (by decide) hp rfl rfl (Nat.le_of_ble_eq_true rfl) dL_law_481 (fun rv μ2 hp2 => ?_)
  obtain ⟨r2, rfl, rfl, hR⟩ := hp2
  exact aw_icmp_eq (tgt := 1025) hX dL_law_484 (by decide) (fun _ => nx X.ce X.sl μ2 (by omega) (by omega) (Rel_up hR)) (fun hne => absurd rfl hne)
theorem lc_ruined {X : zX} {b Ln k : Nat} {xs : Nat → Int32} {μ : zM} {M : Int} (hw : lwX X b Ln xs) (hk : 7 * k + 7 ≤ Ln) (hLn : Ln ≤ 3584) (h : Rel M μ) (hM0 : 10000 ≤ M) (hM : M ≤ 600000) (hce : X.ce + 1 ≤ 601024) (hsl : X.sl + 6 ≤ 7293034)
    (nx : ∀ (c s : Nat) (μ' : zM), c ≤ X.ce + 1 → s ≤ X.sl + 6 → Rel (M + 990) μ' → AW (X.at c s) 1025 (LL X b (7 * k)) [] μ') : AW X 489 (LL X b (7 * k)) [] μ := by
  have hX := hw.1
  refine aw_aload_n hX dL_law_489 rfl ?_
  refine aw_callV (As := []) (rest := []) (κ := 10) (o := 0) (T := TX10) (N := 7) hX vc_L_69 sh_10 (by decide) rfl (by decide) (pr_ruined h) rfl rfl (Nat.le_of_ble_eq_true rfl) dL_law_490 (fun rv μ1 hp => ?_)
  obtain ⟨r, rfl, hp⟩ := hp
  refine aw_aload_n hX dL_law_493 rfl ?_
  refine aw_callV (As := []) (rest := [.int r]) (κ := 11) (o := 0) (T := TX11) (N := 55) hX vc_L_72 sh_11 (by decide) rfl (by decide) hp rfl rfl (Nat.le_of_ble_eq_true rfl) dL_law_494 (fun rv μ2 hp2 => ?_)
  obtain ⟨r2, rfl, rfl, hR⟩ := hp2
  exact aw_icmp_eq (tgt := 1025) hX dL_law_497 (by decide) (fun _ => nx X.ce X.sl μ2 (by omega) (by omega) (Rel_up hR)) (fun hne => absurd rfl hne)
theorem lc_has {X : zX} {b Ln k : Nat} {xs : Nat → Int32} {μ : zM} {M : Int} (hw : lwX X b Ln xs) (hk : 7 * k + 7 ≤ Ln) (hLn : Ln ≤ 3584) (h : Rel M μ) (hM0 : 10000 ≤ M) (hM : M ≤ 600000) (hce : X.ce + 1 ≤ 601024) (hsl : X.sl + 6 ≤ 7293034)
    (nx : ∀ (c s : Nat) (μ' : zM), c ≤ X.ce + 1 → s ≤ X.sl + 6 → Rel (M + 990) μ' → AW (X.at c s) 1025 (LL X b (7 * k)) [] μ') : AW X 502 (LL X b (7 * k)) [] μ := by
  have hX := hw.1
  refine aw_aload_n hX dL_law_502 rfl ?_
  refine lw_arg (k := k) (j := 1) (pc3 := 507) hw hX hk hLn (by decide) (by decide) rfl rfl dL_law_503 dL_law_504 (fun z => aw_iconst hX dL_law_506 zk_1 z) dL_law_507 dL_law_508 ?_
  refine aw_aload_n hX dL_law_509 rfl ?_
  refine aw_callW (n := 3) (As := [.ref (X.G.ad 10 0), .int (xs (7 * k + 1)), .ref (X.G.ad 75 0)]) (rest := []) hX (gW_in gW_has) (by decide) (by decide +kernel) (by decide) (pr_has hw.2.2.2.2.2.2.1 hw.2.2.2.2.2.2.2.1 hw.2.2.2.2.2.2.2.2.1 h) rfl rfl (Nat.le_of_ble_eq_true rfl) dL_law_510 (by rw [hw.2.1]; exact hce) (by rw [hw.2.1]; exact hsl) (fun rv μ1 hp => ?_)
  obtain ⟨k1, rfl, hp⟩ := hp
  have hw2 := lwX_at hw hce hsl
  have hX2 := hw2.1
  refine aw_istore (L' := [some (.ref b), some (.ref (X.G.ad 10 0)), some (.ref (X.G.ad 11 0)), some (.ref (X.G.ad 75 0)), some (.int (nI (7 * k))), some (.int k1), none]) hX2 dL_law_513 (Nat.le_of_ble_eq_true rfl) rfl ?_
  refine aw_aload_n hX2 dL_law_515 rfl ?_
  refine lw_arg (k := k) (j := 1) (pc3 := 520) hw2 hX2 hk hLn (by decide) (by decide) rfl rfl dL_law_516 dL_law_517 (fun z => aw_iconst hX2 dL_law_519 zk_1 z) dL_law_520 dL_law_521 ?_
  refine aw_callV (As := [.int (xs (7 * k + 1))]) (rest := []) (κ := 11) (o := 0) (T := TX11) (N := 55) hX2 vc_L_75 sh_11 (by decide) rfl (by decide) hp rfl rfl (Nat.le_of_ble_eq_true rfl) dL_law_522 (fun rv μ2 hp2 => ?_)
  obtain ⟨r2, rfl, h1, h2, hR⟩ := hp2
  refine aw_istore (L' := [some (.ref b), some (.ref (X.G.ad 10 0)), some (.ref (X.G.ad 11 0)), some (.ref (X.G.ad 75 0)), some (.int (nI (7 * k))), some (.int k1), some (.int r2)]) hX2 dL_law_525 (Nat.le_of_ble_eq_true rfl) rfl ?_
  refine aw_aload_n hX2 dL_law_527 rfl ?_
  refine aw_callV (As := []) (rest := []) (κ := 11) (o := 0) (T := TX11) (N := 55) hX2 vc_L_48 sh_11 (by decide) rfl (by decide) ct_thrown rfl rfl (Nat.le_of_ble_eq_true rfl) dL_law_528 (fun rv μ3 hp3 => ?_)
  obtain ⟨q, rfl, hq, hμ⟩ := hp3
  rw [hμ, hq]
  refine aw_iload hX2 dL_law_531 rfl ?_
  refine aw_icmp_eq (tgt := 538) hX2 dL_law_533 (by decide) (fun _ => ?_) (fun hne => absurd h1 hne)
  refine aw_iload hX2 dL_law_538 rfl ?_
  have fin : AW (X.at (X.ce + 1) (X.sl + 6)) 555 [some (.ref b), some (.ref (X.G.ad 10 0)), some (.ref (X.G.ad 11 0)), some (.ref (X.G.ad 75 0)), some (.int (nI (7 * k))), some (.int k1), some (.int r2)] [] μ2 := by
    refine aw_goto (tgt := 1025) hX2 dL_law_555 (by decide) ?_
    exact aw_less (M := LL X b (7 * k)) ⟨rfl, rfl, rfl, rfl, rfl, trivial⟩ (nx _ _ μ2 (Nat.le_refl _) (Nat.le_refl _) (Rel_up hR))
  refine aw_if_ne (tgt := 555) hX2 dL_law_540 (by decide) (fun _ => fin) (fun h0 => ?_)
  refine aw_aload_n hX2 dL_law_543 rfl ?_
  refine aw_iconst hX2 dL_law_544 zk_0 ?_
  refine aw_lald' (k := 0) hX2 sh_75 (by decide) (zdi (by decide)) rfl dL_law_545 ?_
  refine aw_iload hX2 dL_law_546 rfl ?_
  refine aw_i2l hX2 dL_law_548 ?_
  refine aw_lcmp hX2 dL_law_549 ?_
  rw [h2 h0, lg_self]
  exact aw_if_eq (tgt := 555) hX2 dL_law_550 (by decide) (fun _ => fin) (fun hne => absurd rfl hne)
theorem lc_worth {X : zX} {b Ln k : Nat} {xs : Nat → Int32} {μ : zM} {M : Int} (hw : lwX X b Ln xs) (hk : 7 * k + 7 ≤ Ln) (hLn : Ln ≤ 3584) (h : Rel M μ) (hM0 : 10000 ≤ M) (hM : M ≤ 600000) (hce : X.ce + 1 ≤ 601024) (hsl : X.sl + 6 ≤ 7293034)
    (nx : ∀ (c s : Nat) (μ' : zM), c ≤ X.ce + 1 → s ≤ X.sl + 6 → Rel (M + 990) μ' → AW (X.at c s) 1025 (LL X b (7 * k)) [] μ') : AW X 558 (LL X b (7 * k)) [] μ := by
  have hX := hw.1
  refine aw_aload_n hX dL_law_558 rfl ?_
  refine lw_arg (k := k) (j := 1) (pc3 := 563) hw hX hk hLn (by decide) (by decide) rfl rfl dL_law_559 dL_law_560 (fun z => aw_iconst hX dL_law_562 zk_1 z) dL_law_563 dL_law_564 ?_
  refine lw_arg (k := k) (j := 2) (pc3 := 569) hw hX hk hLn (by decide) (by decide) rfl rfl dL_law_565 dL_law_566 (fun z => aw_iconst hX dL_law_568 zk_2 z) dL_law_569 dL_law_570 ?_
  refine lw_arg (k := k) (j := 3) (pc3 := 575) hw hX hk hLn (by decide) (by decide) rfl rfl dL_law_571 dL_law_572 (fun z => aw_iconst hX dL_law_574 zk_3 z) dL_law_575 dL_law_576 ?_
  refine aw_callV (As := [.int (xs (7 * k + 1)), .int (xs (7 * k + 2)), .int (xs (7 * k + 3))]) (rest := []) (κ := 10) (o := 0) (T := TX10) (N := 7) hX vc_L_76 sh_10 (by decide) rfl (by decide) (pr_worth h (by omega)) rfl rfl (Nat.le_of_ble_eq_true rfl) dL_law_577 (fun rv μ1 hp => ?_)
  obtain ⟨r, rfl, hp⟩ := hp
  refine aw_aload_n hX dL_law_580 rfl ?_
  refine lw_arg (k := k) (j := 1) (pc3 := 585) hw hX hk hLn (by decide) (by decide) rfl rfl dL_law_581 dL_law_582 (fun z => aw_iconst hX dL_law_584 zk_1 z) dL_law_585 dL_law_586 ?_
  refine lw_arg (k := k) (j := 2) (pc3 := 591) hw hX hk hLn (by decide) (by decide) rfl rfl dL_law_587 dL_law_588 (fun z => aw_iconst hX dL_law_590 zk_2 z) dL_law_591 dL_law_592 ?_
  refine lw_arg (k := k) (j := 3) (pc3 := 597) hw hX hk hLn (by decide) (by decide) rfl rfl dL_law_593 dL_law_594 (fun z => aw_iconst hX dL_law_596 zk_3 z) dL_law_597 dL_law_598 ?_
  refine aw_callV (As := [.int (xs (7 * k + 1)), .int (xs (7 * k + 2)), .int (xs (7 * k + 3))]) (rest := [.long r]) (κ := 11) (o := 0) (T := TX11) (N := 55) hX vc_L_80 sh_11 (by decide) rfl (by decide) hp rfl rfl (Nat.le_of_ble_eq_true rfl) dL_law_599 (fun rv μ2 hp2 => ?_)
  obtain ⟨r2, rfl, rfl, hR⟩ := hp2
  refine aw_lcmp hX dL_law_602 ?_
  rw [lg_self]
  exact aw_if_eq (tgt := 1025) hX dL_law_603 (by decide) (fun _ => nx X.ce X.sl μ2 (by omega) (by omega) (Rel_up hR)) (fun hne => absurd rfl hne)
theorem lc_chance {X : zX} {b Ln k : Nat} {xs : Nat → Int32} {μ : zM} {M : Int} (hw : lwX X b Ln xs) (hk : 7 * k + 7 ≤ Ln) (hLn : Ln ≤ 3584) (h : Rel M μ) (hM0 : 10000 ≤ M) (hM : M ≤ 600000) (hce : X.ce + 1 ≤ 601024) (hsl : X.sl + 6 ≤ 7293034)
    (nx : ∀ (c s : Nat) (μ' : zM), c ≤ X.ce + 1 → s ≤ X.sl + 6 → Rel (M + 990) μ' → AW (X.at c s) 1025 (LL X b (7 * k)) [] μ') : AW X 608 (LL X b (7 * k)) [] μ := by
  have hX := hw.1
  refine aw_aload_n hX dL_law_608 rfl ?_
  refine lw_arg (k := k) (j := 1) (pc3 := 613) hw hX hk hLn (by decide) (by decide) rfl rfl dL_law_609 dL_law_610 (fun z => aw_iconst hX dL_law_612 zk_1 z) dL_law_613 dL_law_614 ?_
  refine lw_arg (k := k) (j := 2) (pc3 := 619) hw hX hk hLn (by decide) (by decide) rfl rfl dL_law_615 dL_law_616 (fun z => aw_iconst hX dL_law_618 zk_2 z) dL_law_619 dL_law_620 ?_
  refine lw_arg (k := k) (j := 3) (pc3 := 625) hw hX hk hLn (by decide) (by decide) rfl rfl dL_law_621 dL_law_622 (fun z => aw_iconst hX dL_law_624 zk_3 z) dL_law_625 dL_law_626 ?_
  refine aw_callV (As := [.int (xs (7 * k + 1)), .int (xs (7 * k + 2)), .int (xs (7 * k + 3))]) (rest := []) (κ := 10) (o := 0) (T := TX10) (N := 7) hX vc_L_81 sh_10 (by decide) rfl (by decide) (pr_chance h (by omega)) rfl rfl (Nat.le_of_ble_eq_true rfl) dL_law_627 (fun rv μ1 hp => ?_)
  obtain ⟨r, rfl, hp⟩ := hp
  refine aw_aload_n hX dL_law_630 rfl ?_
  refine lw_arg (k := k) (j := 1) (pc3 := 635) hw hX hk hLn (by decide) (by decide) rfl rfl dL_law_631 dL_law_632 (fun z => aw_iconst hX dL_law_634 zk_1 z) dL_law_635 dL_law_636 ?_
  refine lw_arg (k := k) (j := 2) (pc3 := 641) hw hX hk hLn (by decide) (by decide) rfl rfl dL_law_637 dL_law_638 (fun z => aw_iconst hX dL_law_640 zk_2 z) dL_law_641 dL_law_642 ?_
  refine lw_arg (k := k) (j := 3) (pc3 := 647) hw hX hk hLn (by decide) (by decide) rfl rfl dL_law_643 dL_law_644 (fun z => aw_iconst hX dL_law_646 zk_3 z) dL_law_647 dL_law_648 ?_
  refine aw_callV (As := [.int (xs (7 * k + 1)), .int (xs (7 * k + 2)), .int (xs (7 * k + 3))]) (rest := [.long r]) (κ := 11) (o := 0) (T := TX11) (N := 55) hX vc_L_84 sh_11 (by decide) rfl (by decide) hp rfl rfl (Nat.le_of_ble_eq_true rfl) dL_law_649 (fun rv μ2 hp2 => ?_)
  obtain ⟨r2, rfl, rfl, hR⟩ := hp2
  refine aw_lcmp hX dL_law_652 ?_
  rw [lg_self]
  exact aw_if_eq (tgt := 1025) hX dL_law_653 (by decide) (fun _ => nx X.ce X.sl μ2 (by omega) (by omega) (Rel_up hR)) (fun hne => absurd rfl hne)
theorem lc_better {X : zX} {b Ln k : Nat} {xs : Nat → Int32} {μ : zM} {M : Int} (hw : lwX X b Ln xs) (hk : 7 * k + 7 ≤ Ln) (hLn : Ln ≤ 3584) (h : Rel M μ) (hM0 : 10000 ≤ M) (hM : M ≤ 600000) (hce : X.ce + 1 ≤ 601024) (hsl : X.sl + 6 ≤ 7293034)
    (nx : ∀ (c s : Nat) (μ' : zM), c ≤ X.ce + 1 → s ≤ X.sl + 6 → Rel (M + 990) μ' → AW (X.at c s) 1025 (LL X b (7 * k)) [] μ') : AW X 658 (LL X b (7 * k)) [] μ := by
  have hX := hw.1
  refine aw_aload_n hX dL_law_658 rfl ?_
  refine lw_arg (k := k) (j := 1) (pc3 := 663) hw hX hk hLn (by decide) (by decide) rfl rfl dL_law_659 dL_law_660 (fun z => aw_iconst hX dL_law_662 zk_1 z) dL_law_663 dL_law_664 ?_
  refine lw_arg (k := k) (j := 2) (pc3 := 669) hw hX hk hLn (by decide) (by decide) rfl rfl dL_law_665 dL_law_666 (fun z => aw_iconst hX dL_law_668 zk_2 z) dL_law_669 dL_law_670 ?_
  refine aw_callV (As := [.int (xs (7 * k + 1)), .int (xs (7 * k + 2))]) (rest := []) (κ := 10) (o := 0) (T := TX10) (N := 7) hX vc_L_85 sh_10 (by decide) rfl (by decide) (pr_better h (by omega)) rfl rfl (Nat.le_of_ble_eq_true rfl) dL_law_671 (fun rv μ1 hp => ?_)
  obtain ⟨r, rfl, hp⟩ := hp
  refine aw_aload_n hX dL_law_674 rfl ?_
  refine lw_arg (k := k) (j := 1) (pc3 := 679) hw hX hk hLn (by decide) (by decide) rfl rfl dL_law_675 dL_law_676 (fun z => aw_iconst hX dL_law_678 zk_1 z) dL_law_679 dL_law_680 ?_
  refine lw_arg (k := k) (j := 2) (pc3 := 685) hw hX hk hLn (by decide) (by decide) rfl rfl dL_law_681 dL_law_682 (fun z => aw_iconst hX dL_law_684 zk_2 z) dL_law_685 dL_law_686 ?_
  refine aw_callV (As := [.int (xs (7 * k + 1)), .int (xs (7 * k + 2))]) (rest := [.int r]) (κ := 11) (o := 0) (T := TX11) (N := 55) hX vc_L_88 sh_11 (by decide) rfl (by decide) hp rfl rfl (Nat.le_of_ble_eq_true rfl) dL_law_687 (fun rv μ2 hp2 => ?_)
  obtain ⟨r2, rfl, rfl, hR⟩ := hp2
  exact aw_icmp_eq (tgt := 1025) hX dL_law_690 (by decide) (fun _ => nx X.ce X.sl μ2 (by omega) (by omega) (Rel_up hR)) (fun hne => absurd rfl hne)
theorem lc_fits {X : zX} {b Ln k : Nat} {xs : Nat → Int32} {μ : zM} {M : Int} (hw : lwX X b Ln xs) (hk : 7 * k + 7 ≤ Ln) (hLn : Ln ≤ 3584) (h : Rel M μ) (hM0 : 10000 ≤ M) (hM : M ≤ 600000) (hce : X.ce + 1 ≤ 601024) (hsl : X.sl + 6 ≤ 7293034)
    (nx : ∀ (c s : Nat) (μ' : zM), c ≤ X.ce + 1 → s ≤ X.sl + 6 → Rel (M + 990) μ' → AW (X.at c s) 1025 (LL X b (7 * k)) [] μ') : AW X 695 (LL X b (7 * k)) [] μ := by
  have hX := hw.1
  refine aw_aload_n hX dL_law_695 rfl ?_
  refine lw_arg (k := k) (j := 1) (pc3 := 700) hw hX hk hLn (by decide) (by decide) rfl rfl dL_law_696 dL_law_697 (fun z => aw_iconst hX dL_law_699 zk_1 z) dL_law_700 dL_law_701 ?_
  refine lw_arg (k := k) (j := 2) (pc3 := 706) hw hX hk hLn (by decide) (by decide) rfl rfl dL_law_702 dL_law_703 (fun z => aw_iconst hX dL_law_705 zk_2 z) dL_law_706 dL_law_707 ?_
  refine lw_arg (k := k) (j := 3) (pc3 := 712) hw hX hk hLn (by decide) (by decide) rfl rfl dL_law_708 dL_law_709 (fun z => aw_iconst hX dL_law_711 zk_3 z) dL_law_712 dL_law_713 ?_
  refine aw_callV (As := [.int (xs (7 * k + 1)), .int (xs (7 * k + 2)), .int (xs (7 * k + 3))]) (rest := []) (κ := 10) (o := 0) (T := TX10) (N := 7) hX vc_L_89 sh_10 (by decide) rfl (by decide) (pr_fits h (by omega)) rfl rfl (Nat.le_of_ble_eq_true rfl) dL_law_714 (fun rv μ1 hp => ?_)
  obtain ⟨r, rfl, hp⟩ := hp
  refine aw_aload_n hX dL_law_717 rfl ?_
  refine lw_arg (k := k) (j := 1) (pc3 := 722) hw hX hk hLn (by decide) (by decide) rfl rfl dL_law_718 dL_law_719 (fun z => aw_iconst hX dL_law_721 zk_1 z) dL_law_722 dL_law_723 ?_
  refine lw_arg (k := k) (j := 2) (pc3 := 728) hw hX hk hLn (by decide) (by decide) rfl rfl dL_law_724 dL_law_725 (fun z => aw_iconst hX dL_law_727 zk_2 z) dL_law_728 dL_law_729 ?_
  refine lw_arg (k := k) (j := 3) (pc3 := 734) hw hX hk hLn (by decide) (by decide) rfl rfl dL_law_730 dL_law_731 (fun z => aw_iconst hX dL_law_733 zk_3 z) dL_law_734 dL_law_735 ?_
  refine aw_callV (As := [.int (xs (7 * k + 1)), .int (xs (7 * k + 2)), .int (xs (7 * k + 3))]) (rest := [.int r]) (κ := 11) (o := 0) (T := TX11) (N := 55) hX vc_L_93 sh_11 (by decide) rfl (by decide) hp rfl rfl (Nat.le_of_ble_eq_true rfl) dL_law_736 (fun rv μ2 hp2 => ?_)
  obtain ⟨r2, rfl, rfl, hR⟩ := hp2
  exact aw_icmp_eq (tgt := 1025) hX dL_law_739 (by decide) (fun _ => nx X.ce X.sl μ2 (by omega) (by omega) (Rel_up hR)) (fun hne => absurd rfl hne)
theorem lc_fit {X : zX} {b Ln k : Nat} {xs : Nat → Int32} {μ : zM} {M : Int} (hw : lwX X b Ln xs) (hk : 7 * k + 7 ≤ Ln) (hLn : Ln ≤ 3584) (h : Rel M μ) (hM0 : 10000 ≤ M) (hM : M ≤ 600000) (hce : X.ce + 1 ≤ 601024) (hsl : X.sl + 6 ≤ 7293034)
    (nx : ∀ (c s : Nat) (μ' : zM), c ≤ X.ce + 1 → s ≤ X.sl + 6 → Rel (M + 990) μ' → AW (X.at c s) 1025 (LL X b (7 * k)) [] μ') : AW X 744 (LL X b (7 * k)) [] μ := by
  have hX := hw.1
  refine aw_aload_n hX dL_law_744 rfl ?_
  refine lw_arg (k := k) (j := 1) (pc3 := 749) hw hX hk hLn (by decide) (by decide) rfl rfl dL_law_745 dL_law_746 (fun z => aw_iconst hX dL_law_748 zk_1 z) dL_law_749 dL_law_750 ?_
  refine lw_arg (k := k) (j := 2) (pc3 := 755) hw hX hk hLn (by decide) (by decide) rfl rfl dL_law_751 dL_law_752 (fun z => aw_iconst hX dL_law_754 zk_2 z) dL_law_755 dL_law_756 ?_
  refine lw_arg (k := k) (j := 3) (pc3 := 761) hw hX hk hLn (by decide) (by decide) rfl rfl dL_law_757 dL_law_758 (fun z => aw_iconst hX dL_law_760 zk_3 z) dL_law_761 dL_law_762 ?_
  refine lw_arg (k := k) (j := 4) (pc3 := 767) hw hX hk hLn (by decide) (by decide) rfl rfl dL_law_763 dL_law_764 (fun z => aw_iconst hX dL_law_766 zk_4 z) dL_law_767 dL_law_768 ?_
  refine aw_callV (As := [.int (xs (7 * k + 1)), .int (xs (7 * k + 2)), .int (xs (7 * k + 3)), .int (xs (7 * k + 4))]) (rest := []) (κ := 10) (o := 0) (T := TX10) (N := 7) hX vc_L_94 sh_10 (by decide) rfl (by decide) (pr_fit h (by omega)) rfl rfl (Nat.le_of_ble_eq_true rfl) dL_law_769 (fun rv μ1 hp => ?_)
  obtain ⟨r, rfl, hp⟩ := hp
  refine aw_aload_n hX dL_law_772 rfl ?_
  refine lw_arg (k := k) (j := 1) (pc3 := 777) hw hX hk hLn (by decide) (by decide) rfl rfl dL_law_773 dL_law_774 (fun z => aw_iconst hX dL_law_776 zk_1 z) dL_law_777 dL_law_778 ?_
  refine lw_arg (k := k) (j := 2) (pc3 := 783) hw hX hk hLn (by decide) (by decide) rfl rfl dL_law_779 dL_law_780 (fun z => aw_iconst hX dL_law_782 zk_2 z) dL_law_783 dL_law_784 ?_
  refine lw_arg (k := k) (j := 3) (pc3 := 789) hw hX hk hLn (by decide) (by decide) rfl rfl dL_law_785 dL_law_786 (fun z => aw_iconst hX dL_law_788 zk_3 z) dL_law_789 dL_law_790 ?_
  refine lw_arg (k := k) (j := 4) (pc3 := 795) hw hX hk hLn (by decide) (by decide) rfl rfl dL_law_791 dL_law_792 (fun z => aw_iconst hX dL_law_794 zk_4 z) dL_law_795 dL_law_796 ?_
  refine aw_callV (As := [.int (xs (7 * k + 1)), .int (xs (7 * k + 2)), .int (xs (7 * k + 3)), .int (xs (7 * k + 4))]) (rest := [.int r]) (κ := 11) (o := 0) (T := TX11) (N := 55) hX vc_L_98 sh_11 (by decide) rfl (by decide) hp rfl rfl (Nat.le_of_ble_eq_true rfl) dL_law_797 (fun rv μ2 hp2 => ?_)
  obtain ⟨r2, rfl, rfl, hR⟩ := hp2
  exact aw_icmp_eq (tgt := 1025) hX dL_law_800 (by decide) (fun _ => nx X.ce X.sl μ2 (by omega) (by omega) (Rel_up hR)) (fun hne => absurd rfl hne)
theorem lc_gain {X : zX} {b Ln k : Nat} {xs : Nat → Int32} {μ : zM} {M : Int} (hw : lwX X b Ln xs) (hk : 7 * k + 7 ≤ Ln) (hLn : Ln ≤ 3584) (h : Rel M μ) (hM0 : 10000 ≤ M) (hM : M ≤ 600000) (hce : X.ce + 1 ≤ 601024) (hsl : X.sl + 6 ≤ 7293034)
    (nx : ∀ (c s : Nat) (μ' : zM), c ≤ X.ce + 1 → s ≤ X.sl + 6 → Rel (M + 990) μ' → AW (X.at c s) 1025 (LL X b (7 * k)) [] μ') : AW X 805 (LL X b (7 * k)) [] μ := by
  have hX := hw.1
  refine aw_aload_n hX dL_law_805 rfl ?_
  refine lw_arg (k := k) (j := 1) (pc3 := 810) hw hX hk hLn (by decide) (by decide) rfl rfl dL_law_806 dL_law_807 (fun z => aw_iconst hX dL_law_809 zk_1 z) dL_law_810 dL_law_811 ?_
  refine lw_arg (k := k) (j := 2) (pc3 := 816) hw hX hk hLn (by decide) (by decide) rfl rfl dL_law_812 dL_law_813 (fun z => aw_iconst hX dL_law_815 zk_2 z) dL_law_816 dL_law_817 ?_
  refine aw_aload_n hX dL_law_818 rfl ?_
  refine aw_callW (n := 4) (As := [.ref (X.G.ad 10 0), .int (xs (7 * k + 1)), .int (xs (7 * k + 2)), .ref (X.G.ad 75 0)]) (rest := []) hX (gW_in gW_gain) (by decide) (by decide +kernel) (by decide) (pr_gain hw.2.2.2.2.2.2.1 hw.2.2.2.2.2.2.2.1 hw.2.2.2.2.2.2.2.2.1 h) rfl rfl (Nat.le_of_ble_eq_true rfl) dL_law_819 (by rw [hw.2.1]; exact hce) (by rw [hw.2.1]; exact hsl) (fun rv μ1 hp => ?_)
  obtain ⟨k1, rfl, hp⟩ := hp
  have hw2 := lwX_at hw hce hsl
  have hX2 := hw2.1
  refine aw_istore (L' := [some (.ref b), some (.ref (X.G.ad 10 0)), some (.ref (X.G.ad 11 0)), some (.ref (X.G.ad 75 0)), some (.int (nI (7 * k))), some (.int k1), none]) hX2 dL_law_822 (Nat.le_of_ble_eq_true rfl) rfl ?_
  refine aw_aload_n hX2 dL_law_824 rfl ?_
  refine lw_arg (k := k) (j := 1) (pc3 := 829) hw2 hX2 hk hLn (by decide) (by decide) rfl rfl dL_law_825 dL_law_826 (fun z => aw_iconst hX2 dL_law_828 zk_1 z) dL_law_829 dL_law_830 ?_
  refine lw_arg (k := k) (j := 2) (pc3 := 835) hw2 hX2 hk hLn (by decide) (by decide) rfl rfl dL_law_831 dL_law_832 (fun z => aw_iconst hX2 dL_law_834 zk_2 z) dL_law_835 dL_law_836 ?_
  refine aw_callV (As := [.int (xs (7 * k + 1)), .int (xs (7 * k + 2))]) (rest := []) (κ := 11) (o := 0) (T := TX11) (N := 55) hX2 vc_L_102 sh_11 (by decide) rfl (by decide) hp rfl rfl (Nat.le_of_ble_eq_true rfl) dL_law_837 (fun rv μ2 hp2 => ?_)
  obtain ⟨r2, rfl, h1, h2, hR⟩ := hp2
  refine aw_istore (L' := [some (.ref b), some (.ref (X.G.ad 10 0)), some (.ref (X.G.ad 11 0)), some (.ref (X.G.ad 75 0)), some (.int (nI (7 * k))), some (.int k1), some (.int r2)]) hX2 dL_law_840 (Nat.le_of_ble_eq_true rfl) rfl ?_
  refine aw_aload_n hX2 dL_law_842 rfl ?_
  refine aw_callV (As := []) (rest := []) (κ := 11) (o := 0) (T := TX11) (N := 55) hX2 vc_L_48 sh_11 (by decide) rfl (by decide) ct_thrown rfl rfl (Nat.le_of_ble_eq_true rfl) dL_law_843 (fun rv μ3 hp3 => ?_)
  obtain ⟨q, rfl, hq, hμ⟩ := hp3
  rw [hμ, hq]
  refine aw_iload hX2 dL_law_846 rfl ?_
  refine aw_icmp_eq (tgt := 853) hX2 dL_law_848 (by decide) (fun _ => ?_) (fun hne => absurd h1 hne)
  refine aw_iload hX2 dL_law_853 rfl ?_
  have fin : AW (X.at (X.ce + 1) (X.sl + 6)) 870 [some (.ref b), some (.ref (X.G.ad 10 0)), some (.ref (X.G.ad 11 0)), some (.ref (X.G.ad 75 0)), some (.int (nI (7 * k))), some (.int k1), some (.int r2)] [] μ2 := by
    refine aw_goto (tgt := 1025) hX2 dL_law_870 (by decide) ?_
    exact aw_less (M := LL X b (7 * k)) ⟨rfl, rfl, rfl, rfl, rfl, trivial⟩ (nx _ _ μ2 (Nat.le_refl _) (Nat.le_refl _) (Rel_up hR))
  refine aw_if_ne (tgt := 870) hX2 dL_law_855 (by decide) (fun _ => fin) (fun h0 => ?_)
  refine aw_aload_n hX2 dL_law_858 rfl ?_
  refine aw_iconst hX2 dL_law_859 zk_0 ?_
  refine aw_lald' (k := 0) hX2 sh_75 (by decide) (zdi (by decide)) rfl dL_law_860 ?_
  refine aw_iload hX2 dL_law_861 rfl ?_
  refine aw_i2l hX2 dL_law_863 ?_
  refine aw_lcmp hX2 dL_law_864 ?_
  rw [h2 h0, lg_self]
  exact aw_if_eq (tgt := 870) hX2 dL_law_865 (by decide) (fun _ => fin) (fun hne => absurd rfl hne)
theorem lc_sure {X : zX} {b Ln k : Nat} {xs : Nat → Int32} {μ : zM} {M : Int} (hw : lwX X b Ln xs) (hk : 7 * k + 7 ≤ Ln) (hLn : Ln ≤ 3584) (h : Rel M μ) (hM0 : 10000 ≤ M) (hM : M ≤ 600000) (hce : X.ce + 1 ≤ 601024) (hsl : X.sl + 6 ≤ 7293034)
    (nx : ∀ (c s : Nat) (μ' : zM), c ≤ X.ce + 1 → s ≤ X.sl + 6 → Rel (M + 990) μ' → AW (X.at c s) 1025 (LL X b (7 * k)) [] μ') : AW X 873 (LL X b (7 * k)) [] μ := by
  have hX := hw.1
  refine aw_aload_n hX dL_law_873 rfl ?_
  refine lw_arg (k := k) (j := 1) (pc3 := 878) hw hX hk hLn (by decide) (by decide) rfl rfl dL_law_874 dL_law_875 (fun z => aw_iconst hX dL_law_877 zk_1 z) dL_law_878 dL_law_879 ?_
  refine aw_callV (As := [.int (xs (7 * k + 1))]) (rest := []) (κ := 10) (o := 0) (T := TX10) (N := 7) hX vc_L_103 sh_10 (by decide) rfl (by decide) (pr_sure h) rfl rfl (Nat.le_of_ble_eq_true rfl) dL_law_880 (fun rv μ1 hp => ?_)
  obtain ⟨r, rfl, hp⟩ := hp
  refine aw_aload_n hX dL_law_883 rfl ?_
  refine lw_arg (k := k) (j := 1) (pc3 := 888) hw hX hk hLn (by decide) (by decide) rfl rfl dL_law_884 dL_law_885 (fun z => aw_iconst hX dL_law_887 zk_1 z) dL_law_888 dL_law_889 ?_
  refine aw_callV (As := [.int (xs (7 * k + 1))]) (rest := [.int r]) (κ := 11) (o := 0) (T := TX11) (N := 55) hX vc_L_106 sh_11 (by decide) rfl (by decide) hp rfl rfl (Nat.le_of_ble_eq_true rfl) dL_law_890 (fun rv μ2 hp2 => ?_)
  obtain ⟨r2, rfl, rfl, hR⟩ := hp2
  exact aw_icmp_eq (tgt := 1025) hX dL_law_893 (by decide) (fun _ => nx X.ce X.sl μ2 (by omega) (by omega) (Rel_up hR)) (fun hne => absurd rfl hne)
theorem lc_lots {X : zX} {b Ln k : Nat} {xs : Nat → Int32} {μ : zM} {M : Int} (hw : lwX X b Ln xs) (hk : 7 * k + 7 ≤ Ln) (hLn : Ln ≤ 3584) (h : Rel M μ) (hM0 : 10000 ≤ M) (hM : M ≤ 600000) (hce : X.ce + 1 ≤ 601024) (hsl : X.sl + 6 ≤ 7293034)
    (nx : ∀ (c s : Nat) (μ' : zM), c ≤ X.ce + 1 → s ≤ X.sl + 6 → Rel (M + 990) μ' → AW (X.at c s) 1025 (LL X b (7 * k)) [] μ') : AW X 898 (LL X b (7 * k)) [] μ := by
  have hX := hw.1
  refine aw_aload_n hX dL_law_898 rfl ?_
  refine lw_arg (k := k) (j := 1) (pc3 := 903) hw hX hk hLn (by decide) (by decide) rfl rfl dL_law_899 dL_law_900 (fun z => aw_iconst hX dL_law_902 zk_1 z) dL_law_903 dL_law_904 ?_
  refine lw_arg (k := k) (j := 2) (pc3 := 909) hw hX hk hLn (by decide) (by decide) rfl rfl dL_law_905 dL_law_906 (fun z => aw_iconst hX dL_law_908 zk_2 z) dL_law_909 dL_law_910 ?_
  refine lw_arg (k := k) (j := 3) (pc3 := 915) hw hX hk hLn (by decide) (by decide) rfl rfl dL_law_911 dL_law_912 (fun z => aw_iconst hX dL_law_914 zk_3 z) dL_law_915 dL_law_916 ?_
  refine aw_callV (As := [.int (xs (7 * k + 1)), .int (xs (7 * k + 2)), .int (xs (7 * k + 3))]) (rest := []) (κ := 10) (o := 0) (T := TX10) (N := 7) hX vc_L_107 sh_10 (by decide) rfl (by decide) (pr_lots h (by omega)) rfl rfl (Nat.le_of_ble_eq_true rfl) dL_law_917 (fun rv μ1 hp => ?_)
  obtain ⟨r, rfl, hp⟩ := hp
  refine aw_aload_n hX dL_law_920 rfl ?_
  refine lw_arg (k := k) (j := 1) (pc3 := 925) hw hX hk hLn (by decide) (by decide) rfl rfl dL_law_921 dL_law_922 (fun z => aw_iconst hX dL_law_924 zk_1 z) dL_law_925 dL_law_926 ?_
  refine lw_arg (k := k) (j := 2) (pc3 := 931) hw hX hk hLn (by decide) (by decide) rfl rfl dL_law_927 dL_law_928 (fun z => aw_iconst hX dL_law_930 zk_2 z) dL_law_931 dL_law_932 ?_
  refine lw_arg (k := k) (j := 3) (pc3 := 937) hw hX hk hLn (by decide) (by decide) rfl rfl dL_law_933 dL_law_934 (fun z => aw_iconst hX dL_law_936 zk_3 z) dL_law_937 dL_law_938 ?_
  refine aw_callV (As := [.int (xs (7 * k + 1)), .int (xs (7 * k + 2)), .int (xs (7 * k + 3))]) (rest := [.int r]) (κ := 11) (o := 0) (T := TX11) (N := 55) hX vc_L_110 sh_11 (by decide) rfl (by decide) hp rfl rfl (Nat.le_of_ble_eq_true rfl) dL_law_939 (fun rv μ2 hp2 => ?_)
  obtain ⟨r2, rfl, rfl, hR⟩ := hp2
  exact aw_icmp_eq (tgt := 1025) hX dL_law_942 (by decide) (fun _ => nx X.ce X.sl μ2 (by omega) (by omega) (Rel_up hR)) (fun hne => absurd rfl hne)
theorem lc_mark {X : zX} {b Ln k : Nat} {xs : Nat → Int32} {μ : zM} {M : Int} (hw : lwX X b Ln xs) (hk : 7 * k + 7 ≤ Ln) (hLn : Ln ≤ 3584) (h : Rel M μ) (hM0 : 10000 ≤ M) (hM : M ≤ 600000) (hce : X.ce + 1 ≤ 601024) (hsl : X.sl + 6 ≤ 7293034)
    (nx : ∀ (c s : Nat) (μ' : zM), c ≤ X.ce + 1 → s ≤ X.sl + 6 → Rel (M + 990) μ' → AW (X.at c s) 1025 (LL X b (7 * k)) [] μ') : AW X 947 (LL X b (7 * k)) [] μ := by
  have hX := hw.1
  obtain ⟨v, hv⟩ : ∃ v : Int32, v = if xs (7 * k + 2) = 0 then 0 else 1 := ⟨_, rfl⟩
  have go : AW X 968 (LL X b (7 * k)) [.int v, .int (xs (7 * k + 1)), .ref (X.G.ad 10 0)] μ := by
    refine aw_callV (As := [.int (xs (7 * k + 1)), .int v]) (rest := []) (κ := 10) (o := 0) (T := TX10) (N := 7) hX vc_L_111 sh_10 (by decide) rfl (by decide) (pr_mark h) rfl rfl (Nat.le_of_ble_eq_true rfl) dL_law_968 (fun rv μ1 hp => ?_)
    obtain ⟨r, rfl, hp⟩ := hp
    have go2 : AW X 992 (LL X b (7 * k)) [.int v, .int (xs (7 * k + 1)), .ref (X.G.ad 11 0), .int r] μ1 := by
      refine aw_callV (As := [.int (xs (7 * k + 1)), .int v]) (rest := [.int r]) (κ := 11) (o := 0) (T := TX11) (N := 55) hX vc_L_115 sh_11 (by decide) rfl (by decide) hp rfl rfl (Nat.le_of_ble_eq_true rfl) dL_law_992 (fun rv μ2 hp2 => ?_)
      obtain ⟨r2, rfl, rfl, hR⟩ := hp2
      exact aw_icmp_eq (tgt := 1025) hX dL_law_995 (by decide) (fun _ => nx X.ce X.sl μ2 (by omega) (by omega) (Rel_up hR)) (fun hne => absurd rfl hne)
    refine aw_aload_n hX dL_law_971 rfl ?_
    refine lw_arg (k := k) (j := 1) (pc3 := 976) hw hX hk hLn (by decide) (by decide) rfl rfl dL_law_972 dL_law_973 (fun z => aw_iconst hX dL_law_975 zk_1 z) dL_law_976 dL_law_977 ?_
    refine lw_arg (k := k) (j := 2) (pc3 := 982) hw hX hk hLn (by decide) (by decide) rfl rfl dL_law_978 dL_law_979 (fun z => aw_iconst hX dL_law_981 zk_2 z) dL_law_982 dL_law_983 ?_
    refine aw_if_eq (tgt := 991) hX dL_law_984 (by decide) (fun h0 => ?_) (fun h0 => ?_)
    · rw [if_pos h0] at hv
      subst hv
      exact aw_iconst hX dL_law_991 zk_0 go2
    · rw [if_neg h0] at hv
      subst hv
      refine aw_iconst hX dL_law_987 zk_1 ?_
      exact aw_goto (tgt := 992) hX dL_law_988 (by decide) go2
  refine aw_aload_n hX dL_law_947 rfl ?_
  refine lw_arg (k := k) (j := 1) (pc3 := 952) hw hX hk hLn (by decide) (by decide) rfl rfl dL_law_948 dL_law_949 (fun z => aw_iconst hX dL_law_951 zk_1 z) dL_law_952 dL_law_953 ?_
  refine lw_arg (k := k) (j := 2) (pc3 := 958) hw hX hk hLn (by decide) (by decide) rfl rfl dL_law_954 dL_law_955 (fun z => aw_iconst hX dL_law_957 zk_2 z) dL_law_958 dL_law_959 ?_
  refine aw_if_eq (tgt := 967) hX dL_law_960 (by decide) (fun h0 => ?_) (fun h0 => ?_)
  · rw [if_pos h0] at hv
    subst hv
    exact aw_iconst hX dL_law_967 zk_0 go
  · rw [if_neg h0] at hv
    subst hv
    refine aw_iconst hX dL_law_963 zk_1 ?_
    exact aw_goto (tgt := 968) hX dL_law_964 (by decide) go
theorem lc_count {X : zX} {b Ln k : Nat} {xs : Nat → Int32} {μ : zM} {M : Int} (hw : lwX X b Ln xs) (hk : 7 * k + 7 ≤ Ln) (hLn : Ln ≤ 3584) (h : Rel M μ) (hM0 : 10000 ≤ M) (hM : M ≤ 600000) (hce : X.ce + 1 ≤ 601024) (hsl : X.sl + 6 ≤ 7293034)
    (nx : ∀ (c s : Nat) (μ' : zM), c ≤ X.ce + 1 → s ≤ X.sl + 6 → Rel (M + 990) μ' → AW (X.at c s) 1025 (LL X b (7 * k)) [] μ') : AW X 1000 (LL X b (7 * k)) [] μ := by
  have hX := hw.1
  refine aw_aload_n hX dL_law_1000 rfl ?_
  refine lw_arg (k := k) (j := 1) (pc3 := 1005) hw hX hk hLn (by decide) (by decide) rfl rfl dL_law_1001 dL_law_1002 (fun z => aw_iconst hX dL_law_1004 zk_1 z) dL_law_1005 dL_law_1006 ?_
  refine aw_callV (As := [.int (xs (7 * k + 1))]) (rest := []) (κ := 10) (o := 0) (T := TX10) (N := 7) hX vc_L_116 sh_10 (by decide) rfl (by decide) (pr_count h) rfl rfl (Nat.le_of_ble_eq_true rfl) dL_law_1007 (fun rv μ1 hp => ?_)
  obtain ⟨r, rfl, hp⟩ := hp
  refine aw_aload_n hX dL_law_1010 rfl ?_
  refine lw_arg (k := k) (j := 1) (pc3 := 1015) hw hX hk hLn (by decide) (by decide) rfl rfl dL_law_1011 dL_law_1012 (fun z => aw_iconst hX dL_law_1014 zk_1 z) dL_law_1015 dL_law_1016 ?_
  refine aw_callV (As := [.int (xs (7 * k + 1))]) (rest := [.int r]) (κ := 11) (o := 0) (T := TX11) (N := 55) hX vc_L_119 sh_11 (by decide) rfl (by decide) hp rfl rfl (Nat.le_of_ble_eq_true rfl) dL_law_1017 (fun rv μ2 hp2 => ?_)
  obtain ⟨r2, rfl, rfl, hR⟩ := hp2
  exact aw_icmp_eq (tgt := 1025) hX dL_law_1020 (by decide) (fun _ => nx X.ce X.sl μ2 (by omega) (by omega) (Rel_up hR)) (fun hne => absurd rfl hne)
