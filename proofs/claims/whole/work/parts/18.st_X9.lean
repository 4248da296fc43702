set_option maxRecDepth 100000 in
set_option maxHeartbeats 4000000 in
theorem st_X9_drawAll_0 {X : zX} {lv : Nat} {Post : Option Value → zM → Prop} (hX : zOk X cX9_drawAll RX9 7 lv) (hr : zRt X none Post) {o1 : Nat} (ho1 : o1 < 6) {o2 : Nat} (ho2 : o2 < 49) {x3 : Int32} {x4 : Int32} {μ : zM}
    (k : ∀ μ1 : zM, μ1 = pL μ 9 0 4 (Int32.toInt64 x3) → (∀ μ2 : zM, μ2 = pI μ1 9 0 0 (0 : Int32) → (∀ μ3 : zM, μ3 = pI μ2 9 0 1 (0 : Int32) → (∀ μ4 : zM, μ4 = pI μ3 9 0 2 (0 : Int32) → (∀ μ5 : zM, μ5 = pI μ4 9 0 3 (0 : Int32) → (AW X 29 [some (.ref (X.G.ad 9 0)), some (.ref (X.G.ad 2 o1)), some (.ref (X.G.ad 1 o2)), none, some (.int x4), some (.int (0 : Int32)), none] [] μ5)))))) :
    AW X 0 [some (.ref (X.G.ad 9 0)), some (.ref (X.G.ad 2 o1)), some (.ref (X.G.ad 1 o2)), some (.int x3), some (.int x4), none, none] [] μ := by
  refine aw_aload_n hX dX9_drawAll_0 rfl ?_
  refine aw_iload_n hX dX9_drawAll_1 rfl ?_
  refine aw_i2l hX dX9_drawAll_2 ?_
  refine aw_putl hX kp_X9_16 sh_9 (by decide) rfl dX9_drawAll_3 ?_
  refine aw_mem (fun μ1 eμ1 => ?_)
  have k := k μ1 eμ1
  refine aw_aload_n hX dX9_drawAll_6 rfl ?_
  refine aw_iconst hX dX9_drawAll_7 zk_0 ?_
  refine aw_puti hX kp_X9_20 sh_9 (by decide) rfl rfl rfl dX9_drawAll_8 ?_
  refine aw_mem (fun μ2 eμ2 => ?_)
  have k := k μ2 eμ2
  refine aw_aload_n hX dX9_drawAll_11 rfl ?_
  refine aw_iconst hX dX9_drawAll_12 zk_0 ?_
  refine aw_puti hX kp_X9_24 sh_9 (by decide) rfl rfl rfl dX9_drawAll_13 ?_
  refine aw_mem (fun μ3 eμ3 => ?_)
  have k := k μ3 eμ3
  refine aw_aload_n hX dX9_drawAll_16 rfl ?_
  refine aw_iconst hX dX9_drawAll_17 zk_0 ?_
  refine aw_puti hX kp_X9_27 sh_9 (by decide) rfl rfl rfl dX9_drawAll_18 ?_
  refine aw_mem (fun μ4 eμ4 => ?_)
  have k := k μ4 eμ4
  refine aw_aload_n hX dX9_drawAll_21 rfl ?_
  refine aw_iconst hX dX9_drawAll_22 zk_0 ?_
  refine aw_puti hX kp_X9_30 sh_9 (by decide) rfl rfl rfl dX9_drawAll_23 ?_
  refine aw_mem (fun μ5 eμ5 => ?_)
  have k := k μ5 eμ5
  refine aw_iconst hX dX9_drawAll_26 zk_0 ?_
  refine aw_istore (L' := [some (.ref (X.G.ad 9 0)), some (.ref (X.G.ad 2 o1)), some (.ref (X.G.ad 1 o2)), some (.int x3), some (.int x4), some (.int (0 : Int32)), none]) hX dX9_drawAll_27 (Nat.le_of_ble_eq_true rfl) rfl ?_
  exact aw_less (zle_s (zle_s (zle_s (zle_o (zle_s (zle_s (zle_o zle_n))))))) k

set_option maxRecDepth 100000 in
set_option maxHeartbeats 4000000 in
theorem st_X9_drawAll_29 {X : zX} {lv : Nat} {Post : Option Value → zM → Prop} (hX : zOk X cX9_drawAll RX9 7 lv) (hr : zRt X none Post) {o1 : Nat} (ho1 : o1 < 6) {o2 : Nat} (ho2 : o2 < 49) {x4 : Int32} {x5 : Int32} {μ : zM}
    (k : (x4 ≤ x5 → (Post none μ)) ∧ (¬ x4 ≤ x5 → (zCallV X lv yX1_copyFrom cX1_copyFrom 2 none [.ref (X.G.ad 1 44), .ref (X.G.ad 1 o2)] μ (fun μ3 => AW X 47 [some (.ref (X.G.ad 9 0)), some (.ref (X.G.ad 2 o1)), some (.ref (X.G.ad 1 o2)), none, some (.int x4), some (.int x5), some (.int (0 : Int32))] [] μ3)))) :
    AW X 29 [some (.ref (X.G.ad 9 0)), some (.ref (X.G.ad 2 o1)), some (.ref (X.G.ad 1 o2)), none, some (.int x4), some (.int x5), none] [] μ := by
  refine aw_iload hX dX9_drawAll_29 rfl ?_
  refine aw_iload hX dX9_drawAll_31 rfl ?_
  refine aw_icmp_ge (tgt := 162) hX dX9_drawAll_33 (by decide) (fun c1 => ?_) (fun c1 => ?_)
  · have k := k.1 c1
    exact aw_vret hX hr dX9_drawAll_162 k
  · have k := k.2 c1
    refine aw_aload_n hX dX9_drawAll_36 rfl ?_
    refine aw_getr (o' := 44) hX kf_X9_10 sh_9 (by decide) rfl rfl dX9_drawAll_37 ?_
    refine aw_aload_n hX dX9_drawAll_40 rfl ?_
    refine aw_invV (As := [.ref (X.G.ad 1 o2)]) (rest := []) (κ := 1) (o := 44) (T := TX1) (N := 9) hX vc_X9_33 sh_1 (by decide) rfl rfl rfl (Nat.le_of_ble_eq_true rfl) dX9_drawAll_41 k (fun μ3 k => ?_)
    refine aw_iconst hX dX9_drawAll_44 zk_0 ?_
    refine aw_istore (L' := [some (.ref (X.G.ad 9 0)), some (.ref (X.G.ad 2 o1)), some (.ref (X.G.ad 1 o2)), none, some (.int x4), some (.int x5), some (.int (0 : Int32))]) hX dX9_drawAll_45 (Nat.le_of_ble_eq_true rfl) rfl ?_
    exact k

set_option maxRecDepth 100000 in
set_option maxHeartbeats 4000000 in
theorem st_X9_drawAll_47 {X : zX} {lv : Nat} {Post : Option Value → zM → Prop} (hX : zOk X cX9_drawAll RX9 7 lv) (hr : zRt X none Post) {o1 : Nat} (ho1 : o1 < 6) {o2 : Nat} (ho2 : o2 < 49) {x4 : Int32} {x5 : Int32} {x6 : Int32} {μ : zM}
    (k : ((60 : Int32) ≤ x6 → (zCallI X lv yX1_loansAt cX1_loansAt 5 (some .int) [.ref (X.G.ad 1 44), .ref (X.G.ad 2 o1), .int (2 : Int32)] μ (fun (r2 : Int32) μ3 => ∀ μ4 : zM, μ4 = pI μ3 9 0 0 ((μ.1 9 0 0) + r2) → (zCallI X lv yX1_coinsDue cX1_coinsDue 4 (some .int) [.ref (X.G.ad 1 44), .ref (X.G.ad 2 o1)] μ4 (fun (r5 : Int32) μ6 => ∀ μ7 : zM, μ7 = pI μ6 9 0 1 ((μ4.1 9 0 1) + r5) → (∀ μ8 : zM, μ8 = pI μ7 9 0 2 ((μ7.1 9 0 2) + ((μ7.1 1 44 1) - (μ7.1 1 o2 1))) → (zCallI X lv yX1_brokenPersons cX1_brokenPersons 4 (some .int) [.ref (X.G.ad 1 44), .ref (X.G.ad 2 o1)] μ8 (fun (r9 : Int32) μ10 => zCallI X lv yJ6_bitCount_0f7a4 cJ6_bitCount_0f7a4 1 (some .int) [.int r9] μ10 (fun (r11 : Int32) μ12 => ∀ μ13 : zM, μ13 = pI μ12 9 0 3 ((μ8.1 9 0 3) + r11) → (∀ v14 : Int32, v14 = x5 + (1 : Int32) → (AW X 29 [some (.ref (X.G.ad 9 0)), some (.ref (X.G.ad 2 o1)), some (.ref (X.G.ad 1 o2)), none, some (.int x4), some (.int v14), none] [] μ13))))))))))) ∧ (¬ (60 : Int32) ≤ x6 → (zCallI X lv yX9_drawWeather cX9_drawWeather 5 (some .int) [.ref (X.G.ad 9 0), .ref (X.G.ad 2 o1), .int (μ.1 1 44 2)] μ (fun (r15 : Int32) μ16 => zCallV X lv yX1_live cX1_live 4 none [.ref (X.G.ad 1 44), .ref (X.G.ad 2 o1), .int r15] μ16 (fun μ18 => ∀ v19 : Int32, v19 = x6 + (1 : Int32) → (AW X 47 [some (.ref (X.G.ad 9 0)), some (.ref (X.G.ad 2 o1)), some (.ref (X.G.ad 1 o2)), none, some (.int x4), some (.int x5), some (.int v19)] [] μ18)))))) :
    AW X 47 [some (.ref (X.G.ad 9 0)), some (.ref (X.G.ad 2 o1)), some (.ref (X.G.ad 1 o2)), none, some (.int x4), some (.int x5), some (.int x6)] [] μ := by
  refine aw_iload hX dX9_drawAll_47 rfl ?_
  refine aw_bipush hX dX9_drawAll_49 zb_60 ?_
  refine aw_icmp_ge (tgt := 80) hX dX9_drawAll_51 (by decide) (fun c1 => ?_) (fun c1 => ?_)
  · have k := k.1 c1
    refine aw_aload_n hX dX9_drawAll_80 rfl ?_
    refine aw_dup hX dX9_drawAll_81 rfl ?_
    refine aw_geti hX kf_X9_20 sh_9 (by decide) rfl dX9_drawAll_82 ?_
    refine aw_aload_n hX dX9_drawAll_85 rfl ?_
    refine aw_getr (o' := 44) hX kf_X9_10 sh_9 (by decide) rfl rfl dX9_drawAll_86 ?_
    refine aw_aload_n hX dX9_drawAll_89 rfl ?_
    refine aw_iconst hX dX9_drawAll_90 zk_2 ?_
    refine aw_invI (As := [.ref (X.G.ad 2 o1), .int (2 : Int32)]) (rest := [.int (μ.1 9 0 0), .ref (X.G.ad 9 0)]) (κ := 1) (o := 44) (T := TX1) (N := 9) hX vc_X9_48 sh_1 (by decide) rfl rfl rfl (Nat.le_of_ble_eq_true rfl) dX9_drawAll_91 k (fun r2 μ3 k => ?_)
    refine aw_iadd hX dX9_drawAll_94 ?_
    refine aw_puti hX kp_X9_20 sh_9 (by decide) rfl rfl rfl dX9_drawAll_95 ?_
    refine aw_mem (fun μ4 eμ4 => ?_)
    have k := k μ4 eμ4
    refine aw_aload_n hX dX9_drawAll_98 rfl ?_
    refine aw_dup hX dX9_drawAll_99 rfl ?_
    refine aw_geti hX kf_X9_24 sh_9 (by decide) rfl dX9_drawAll_100 ?_
    refine aw_aload_n hX dX9_drawAll_103 rfl ?_
    refine aw_getr (o' := 44) hX kf_X9_10 sh_9 (by decide) rfl rfl dX9_drawAll_104 ?_
    refine aw_aload_n hX dX9_drawAll_107 rfl ?_
    refine aw_invI (As := [.ref (X.G.ad 2 o1)]) (rest := [.int (μ4.1 9 0 1), .ref (X.G.ad 9 0)]) (κ := 1) (o := 44) (T := TX1) (N := 9) hX vc_X9_51 sh_1 (by decide) rfl rfl rfl (Nat.le_of_ble_eq_true rfl) dX9_drawAll_108 k (fun r5 μ6 k => ?_)
    refine aw_iadd hX dX9_drawAll_111 ?_
    refine aw_puti hX kp_X9_24 sh_9 (by decide) rfl rfl rfl dX9_drawAll_112 ?_
    refine aw_mem (fun μ7 eμ7 => ?_)
    have k := k μ7 eμ7
    refine aw_aload_n hX dX9_drawAll_115 rfl ?_
    refine aw_dup hX dX9_drawAll_116 rfl ?_
    refine aw_geti hX kf_X9_27 sh_9 (by decide) rfl dX9_drawAll_117 ?_
    refine aw_aload_n hX dX9_drawAll_120 rfl ?_
    refine aw_getr (o' := 44) hX kf_X9_10 sh_9 (by decide) rfl rfl dX9_drawAll_121 ?_
    refine aw_geti hX kf_X9_55 sh_1 (by decide) rfl dX9_drawAll_124 ?_
    refine aw_aload_n hX dX9_drawAll_127 rfl ?_
    refine aw_geti hX kf_X9_55 sh_1 ho2 rfl dX9_drawAll_128 ?_
    refine aw_isub hX dX9_drawAll_131 ?_
    refine aw_iadd hX dX9_drawAll_132 ?_
    refine aw_puti hX kp_X9_27 sh_9 (by decide) rfl rfl rfl dX9_drawAll_133 ?_
    refine aw_mem (fun μ8 eμ8 => ?_)
    have k := k μ8 eμ8
    refine aw_aload_n hX dX9_drawAll_136 rfl ?_
    refine aw_dup hX dX9_drawAll_137 rfl ?_
    refine aw_geti hX kf_X9_30 sh_9 (by decide) rfl dX9_drawAll_138 ?_
    refine aw_aload_n hX dX9_drawAll_141 rfl ?_
    refine aw_getr (o' := 44) hX kf_X9_10 sh_9 (by decide) rfl rfl dX9_drawAll_142 ?_
    refine aw_aload_n hX dX9_drawAll_145 rfl ?_
    refine aw_invI (As := [.ref (X.G.ad 2 o1)]) (rest := [.int (μ8.1 9 0 3), .ref (X.G.ad 9 0)]) (κ := 1) (o := 44) (T := TX1) (N := 9) hX vc_X9_56 sh_1 (by decide) rfl rfl rfl (Nat.le_of_ble_eq_true rfl) dX9_drawAll_146 k (fun r9 μ10 k => ?_)
    refine aw_ivsI (As := [.int r9]) (rest := [.int (μ8.1 9 0 3), .ref (X.G.ad 9 0)]) hX sc_X9_59 rfl rfl (Nat.le_of_ble_eq_true rfl) dX9_drawAll_149 k (fun r11 μ12 k => ?_)
    refine aw_iadd hX dX9_drawAll_152 ?_
    refine aw_puti hX kp_X9_30 sh_9 (by decide) rfl rfl rfl dX9_drawAll_153 ?_
    refine aw_mem (fun μ13 eμ13 => ?_)
    have k := k μ13 eμ13
    obtain ⟨v14, ev14⟩ : ∃ y : Int32, y = x5 + (1 : Int32) := ⟨_, rfl⟩
    have k := k v14 ev14
    refine aw_iinc (v := v14) (L' := [some (.ref (X.G.ad 9 0)), some (.ref (X.G.ad 2 o1)), some (.ref (X.G.ad 1 o2)), none, some (.int x4), some (.int v14), some (.int x6)]) hX dX9_drawAll_156 rfl (by rw [ev14]; rfl) (Nat.le_of_ble_eq_true rfl) rfl ?_
    refine aw_goto (tgt := 29) hX dX9_drawAll_159 (by decide) ?_
    exact aw_less (zle_s (zle_s (zle_s (zle_o (zle_s (zle_s (zle_o zle_n))))))) k
  · have k := k.2 c1
    refine aw_aload_n hX dX9_drawAll_54 rfl ?_
    refine aw_getr (o' := 44) hX kf_X9_10 sh_9 (by decide) rfl rfl dX9_drawAll_55 ?_
    refine aw_aload_n hX dX9_drawAll_58 rfl ?_
    refine aw_aload_n hX dX9_drawAll_59 rfl ?_
    refine aw_aload_n hX dX9_drawAll_60 rfl ?_
    refine aw_aload_n hX dX9_drawAll_61 rfl ?_
    refine aw_getr (o' := 44) hX kf_X9_10 sh_9 (by decide) rfl rfl dX9_drawAll_62 ?_
    refine aw_geti hX kf_X9_37 sh_1 (by decide) rfl dX9_drawAll_65 ?_
    refine aw_invI (As := [.ref (X.G.ad 2 o1), .int (μ.1 1 44 2)]) (rest := [.ref (X.G.ad 2 o1), .ref (X.G.ad 1 44)]) (κ := 9) (o := 0) (T := TX9) (N := 6) hX vc_X9_40 sh_9 (by decide) rfl rfl rfl (Nat.le_of_ble_eq_true rfl) dX9_drawAll_68 k (fun r15 μ16 k => ?_)
    refine aw_invV (As := [.ref (X.G.ad 2 o1), .int r15]) (rest := []) (κ := 1) (o := 44) (T := TX1) (N := 9) hX vc_X9_44 sh_1 (by decide) rfl rfl rfl (Nat.le_of_ble_eq_true rfl) dX9_drawAll_71 k (fun μ18 k => ?_)
    obtain ⟨v19, ev19⟩ : ∃ y : Int32, y = x6 + (1 : Int32) := ⟨_, rfl⟩
    have k := k v19 ev19
    refine aw_iinc (v := v19) (L' := [some (.ref (X.G.ad 9 0)), some (.ref (X.G.ad 2 o1)), some (.ref (X.G.ad 1 o2)), none, some (.int x4), some (.int x5), some (.int v19)]) hX dX9_drawAll_74 rfl (by rw [ev19]; rfl) (Nat.le_of_ble_eq_true rfl) rfl ?_
    refine aw_goto (tgt := 47) hX dX9_drawAll_77 (by decide) ?_
    exact k

set_option maxRecDepth 100000 in
set_option maxHeartbeats 4000000 in
theorem st_X9_drawWeather_0 {X : zX} {lv : Nat} {Post : Option Value → zM → Prop} (hX : zOk X cX9_drawWeather RX9 5 lv) (hr : zRt X (some .int) Post) {o1 : Nat} (ho1 : o1 < 6) {x2 : Int32} {μ : zM}
    (k : AW X 5 [some (.ref (X.G.ad 9 0)), some (.ref (X.G.ad 2 o1)), some (.int x2), some (.int (0 : Int32)), some (.int (0 : Int32))] [] μ) :
    AW X 0 [some (.ref (X.G.ad 9 0)), some (.ref (X.G.ad 2 o1)), some (.int x2), none, none] [] μ := by
  refine aw_iconst hX dX9_drawWeather_0 zk_0 ?_
  refine aw_istore_n (L' := [some (.ref (X.G.ad 9 0)), some (.ref (X.G.ad 2 o1)), some (.int x2), some (.int (0 : Int32)), none]) hX dX9_drawWeather_1 (Nat.le_of_ble_eq_true rfl) rfl ?_
  refine aw_iconst hX dX9_drawWeather_2 zk_0 ?_
  refine aw_istore (L' := [some (.ref (X.G.ad 9 0)), some (.ref (X.G.ad 2 o1)), some (.int x2), some (.int (0 : Int32)), some (.int (0 : Int32))]) hX dX9_drawWeather_3 (Nat.le_of_ble_eq_true rfl) rfl ?_
  exact k

set_option maxRecDepth 100000 in
set_option maxHeartbeats 4000000 in
theorem st_X9_drawWeather_5 {X : zX} {lv : Nat} {Post : Option Value → zM → Prop} (hX : zOk X cX9_drawWeather RX9 5 lv) (hr : zRt X (some .int) Post) {o1 : Nat} (ho1 : o1 < 6) {x2 : Int32} {x3 : Int32} {x4 : Int32} {μ : zM}
    (k : ((μ.1 2 o1 0) ≤ x4 → (Post (some (.int x3)) μ)) ∧ (¬ (μ.1 2 o1 0) ≤ x4 → (zCallI X lv yX9_drawBelow8 cX9_drawBelow8 1 (some .int) [.ref (X.G.ad 9 0)] μ (fun (r2 : Int32) μ3 => zCallI X lv yX2_oddsOfRain cX2_oddsOfRain 3 (some .int) [.ref (X.G.ad 2 o1), .int x4, .int x2] μ3 (fun (r4 : Int32) μ5 => (r4 ≤ r2 → (∀ v7 : Int32, v7 = x4 + (1 : Int32) → (AW X 5 [some (.ref (X.G.ad 9 0)), some (.ref (X.G.ad 2 o1)), some (.int x2), some (.int x3), some (.int v7)] [] μ5))) ∧ (¬ r4 ≤ r2 → (∀ v8 : Int32, v8 = (x3 ||| ((1 : Int32) <<< (x4 &&& 31))) → (∀ v9 : Int32, v9 = x4 + (1 : Int32) → (AW X 5 [some (.ref (X.G.ad 9 0)), some (.ref (X.G.ad 2 o1)), some (.int x2), some (.int v8), some (.int v9)] [] μ5))))))))) :
    AW X 5 [some (.ref (X.G.ad 9 0)), some (.ref (X.G.ad 2 o1)), some (.int x2), some (.int x3), some (.int x4)] [] μ := by
  refine aw_iload hX dX9_drawWeather_5 rfl ?_
  refine aw_aload_n hX dX9_drawWeather_7 rfl ?_
  refine aw_geti hX kf_X9_65 sh_2 ho1 rfl dX9_drawWeather_8 ?_
  refine aw_icmp_ge (tgt := 41) hX dX9_drawWeather_11 (by decide) (fun c1 => ?_) (fun c1 => ?_)
  · have k := k.1 c1
    refine aw_iload_n hX dX9_drawWeather_41 rfl ?_
    exact aw_iret hX hr dX9_drawWeather_42 k
  · have k := k.2 c1
    refine aw_aload_n hX dX9_drawWeather_14 rfl ?_
    refine aw_invI (As := []) (rest := []) (κ := 9) (o := 0) (T := TX9) (N := 6) hX vc_X9_70 sh_9 (by decide) rfl rfl rfl (Nat.le_of_ble_eq_true rfl) dX9_drawWeather_15 k (fun r2 μ3 k => ?_)
    refine aw_aload_n hX dX9_drawWeather_18 rfl ?_
    refine aw_iload hX dX9_drawWeather_19 rfl ?_
    refine aw_iload_n hX dX9_drawWeather_21 rfl ?_
    refine aw_invI (As := [.int x4, .int x2]) (rest := [.int r2]) (κ := 2) (o := o1) (T := TX2) (N := 11) hX vc_X9_74 sh_2 ho1 rfl rfl rfl (Nat.le_of_ble_eq_true rfl) dX9_drawWeather_22 k (fun r4 μ5 k => ?_)
    refine aw_icmp_ge (tgt := 35) hX dX9_drawWeather_25 (by decide) (fun c6 => ?_) (fun c6 => ?_)
    · have k := k.1 c6
      obtain ⟨v7, ev7⟩ : ∃ y : Int32, y = x4 + (1 : Int32) := ⟨_, rfl⟩
      have k := k v7 ev7
      refine aw_iinc (v := v7) (L' := [some (.ref (X.G.ad 9 0)), some (.ref (X.G.ad 2 o1)), some (.int x2), some (.int x3), some (.int v7)]) hX dX9_drawWeather_35 rfl (by rw [ev7]; rfl) (Nat.le_of_ble_eq_true rfl) rfl ?_
      refine aw_goto (tgt := 5) hX dX9_drawWeather_38 (by decide) ?_
      exact k
    · have k := k.2 c6
      refine aw_iload_n hX dX9_drawWeather_28 rfl ?_
      refine aw_iconst hX dX9_drawWeather_29 zk_1 ?_
      refine aw_iload hX dX9_drawWeather_30 rfl ?_
      refine aw_ishl hX dX9_drawWeather_32 ?_
      refine aw_ior hX dX9_drawWeather_33 ?_
      refine aw_topi (fun v8 ev8 => ?_)
      have k := k v8 ev8
      refine aw_istore_n (L' := [some (.ref (X.G.ad 9 0)), some (.ref (X.G.ad 2 o1)), some (.int x2), some (.int v8), some (.int x4)]) hX dX9_drawWeather_34 (Nat.le_of_ble_eq_true rfl) rfl ?_
      obtain ⟨v9, ev9⟩ : ∃ y : Int32, y = x4 + (1 : Int32) := ⟨_, rfl⟩
      have k := k v9 ev9
      refine aw_iinc (v := v9) (L' := [some (.ref (X.G.ad 9 0)), some (.ref (X.G.ad 2 o1)), some (.int x2), some (.int v8), some (.int v9)]) hX dX9_drawWeather_35 rfl (by rw [ev9]; rfl) (Nat.le_of_ble_eq_true rfl) rfl ?_
      refine aw_goto (tgt := 5) hX dX9_drawWeather_38 (by decide) ?_
      exact k

set_option maxRecDepth 100000 in
set_option maxHeartbeats 4000000 in
theorem st_X9_drawBelow8_0 {X : zX} {lv : Nat} {Post : Option Value → zM → Prop} (hX : zOk X cX9_drawBelow8 RX9 1 lv) (hr : zRt X (some .int) Post)   {μ : zM}
    (k : (¬ (2147483648 : Int64) = 0) ∧ (∀ μ2 : zM, μ2 = pL μ 9 0 4 ((((μ.2 9 0 4) * (1103515245 : Int64)) + (12345 : Int64)) - (((μ.2 9 0 4) * (1103515245 : Int64)) + (12345 : Int64)) / (2147483648 : Int64) * (2147483648 : Int64)) → ((¬ (65536 : Int64) = 0) ∧ ((¬ (8 : Int64) = 0) ∧ (Post (some (.int (Int64.toInt32 (((μ2.2 9 0 4) / (65536 : Int64)) - ((μ2.2 9 0 4) / (65536 : Int64)) / (8 : Int64) * (8 : Int64))))) μ2))))) :
    AW X 0 [some (.ref (X.G.ad 9 0))] [] μ := by
  refine aw_aload_n hX dX9_drawBelow8_0 rfl ?_
  refine aw_aload_n hX dX9_drawBelow8_1 rfl ?_
  refine aw_getl hX kf_X9_16 sh_9 (by decide) rfl dX9_drawBelow8_2 ?_
  refine aw_ldc2 hX kl_X9_78 dX9_drawBelow8_5 ?_
  refine aw_lmul hX dX9_drawBelow8_8 ?_
  refine aw_ldc2 hX kl_X9_80 dX9_drawBelow8_9 ?_
  refine aw_ladd hX dX9_drawBelow8_12 ?_
  refine aw_ldc2 hX kl_X9_82 dX9_drawBelow8_13 ?_
  have s1 := k.1
  have k := k.2
  refine aw_lrem hX dX9_drawBelow8_16 s1 ?_
  refine aw_putl hX kp_X9_16 sh_9 (by decide) rfl dX9_drawBelow8_17 ?_
  refine aw_mem (fun μ2 eμ2 => ?_)
  have k := k μ2 eμ2
  refine aw_aload_n hX dX9_drawBelow8_20 rfl ?_
  refine aw_getl hX kf_X9_16 sh_9 (by decide) rfl dX9_drawBelow8_21 ?_
  refine aw_ldc2 hX kl_X9_84 dX9_drawBelow8_24 ?_
  have s3 := k.1
  have k := k.2
  refine aw_ldiv hX dX9_drawBelow8_27 s3 ?_
  refine aw_ldc2 hX kl_X9_86 dX9_drawBelow8_28 ?_
  have s4 := k.1
  have k := k.2
  refine aw_lrem hX dX9_drawBelow8_31 s4 ?_
  refine aw_l2i hX dX9_drawBelow8_32 ?_
  exact aw_iret hX hr dX9_drawBelow8_33 k

