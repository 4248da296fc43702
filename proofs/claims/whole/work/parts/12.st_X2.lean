set_option maxRecDepth 100000 in
set_option maxHeartbeats 4000000 in
theorem st_X2_clear_0 {X : zX} {lv : Nat} {Post : Option Value → zM → Prop} (hX : zOk X cX2_clear RX2 1 lv) (hr : zRt X none Post) {o0 : Nat} (ho0 : o0 < 6)  {μ : zM}
    (k : ∀ μ1 : zM, μ1 = pI μ 2 o0 0 (0 : Int32) → (∀ μ2 : zM, μ2 = pI μ1 2 o0 1 (0 : Int32) → (∀ μ3 : zM, μ3 = pI μ2 2 o0 2 (0 : Int32) → (∀ μ4 : zM, μ4 = pI μ3 2 o0 3 (0 : Int32) → (Post none μ4))))) :
    AW X 0 [some (.ref (X.G.ad 2 o0))] [] μ := by
  refine aw_aload_n hX dX2_clear_0 rfl ?_
  refine aw_iconst hX dX2_clear_1 zk_0 ?_
  refine aw_puti hX kp_X2_37 sh_2 ho0 rfl rfl rfl dX2_clear_2 ?_
  refine aw_mem (fun μ1 eμ1 => ?_)
  have k := k μ1 eμ1
  refine aw_aload_n hX dX2_clear_5 rfl ?_
  refine aw_iconst hX dX2_clear_6 zk_0 ?_
  refine aw_puti hX kp_X2_41 sh_2 ho0 rfl rfl rfl dX2_clear_7 ?_
  refine aw_mem (fun μ2 eμ2 => ?_)
  have k := k μ2 eμ2
  refine aw_aload_n hX dX2_clear_10 rfl ?_
  refine aw_iconst hX dX2_clear_11 zk_0 ?_
  refine aw_puti hX kp_X2_44 sh_2 ho0 rfl rfl rfl dX2_clear_12 ?_
  refine aw_mem (fun μ3 eμ3 => ?_)
  have k := k μ3 eμ3
  refine aw_aload_n hX dX2_clear_15 rfl ?_
  refine aw_iconst hX dX2_clear_16 zk_0 ?_
  refine aw_puti hX kp_X2_47 sh_2 ho0 rfl rfl rfl dX2_clear_17 ?_
  refine aw_mem (fun μ4 eμ4 => ?_)
  have k := k μ4 eμ4
  exact aw_vret hX hr dX2_clear_20 k

set_option maxRecDepth 100000 in
set_option maxHeartbeats 4000000 in
theorem st_X2_copyFrom_0 {X : zX} {lv : Nat} {Post : Option Value → zM → Prop} (hX : zOk X cX2_copyFrom RX2 3 lv) (hr : zRt X none Post) {o0 : Nat} (ho0 : o0 < 6) {o1 : Nat} (ho1 : o1 < 6)  {μ : zM}
    (k : ∀ μ1 : zM, μ1 = pI μ 2 o0 0 (μ.1 2 o1 0) → (∀ μ2 : zM, μ2 = pI μ1 2 o0 1 (μ1.1 2 o1 1) → (∀ μ3 : zM, μ3 = pI μ2 2 o0 2 (μ2.1 2 o1 2) → (∀ μ4 : zM, μ4 = pI μ3 2 o0 3 (μ3.1 2 o1 3) → ((0 < lv) ∧ (∀ μ6 : zM, μ6 = pR μ4 19 o0 (va_cpy (μ4.1 19 o1) (μ4.1 19 o0) 0 0 4) → (∀ μ7 : zM, μ7 = pR μ6 20 o0 (va_cpy (μ6.1 20 o1) (μ6.1 20 o0) 0 0 4) → (∀ μ8 : zM, μ8 = pR μ7 21 o0 (va_cpy (μ7.1 21 o1) (μ7.1 21 o0) 0 0 6) → (AW X 77 [some (.ref (X.G.ad 2 o0)), some (.ref (X.G.ad 2 o1)), some (.int (0 : Int32))] [] μ8))))))))) :
    AW X 0 [some (.ref (X.G.ad 2 o0)), some (.ref (X.G.ad 2 o1)), none] [] μ := by
  refine aw_aload_n hX dX2_copyFrom_0 rfl ?_
  refine aw_aload_n hX dX2_copyFrom_1 rfl ?_
  refine aw_geti hX kf_X2_37 sh_2 ho1 rfl dX2_copyFrom_2 ?_
  refine aw_puti hX kp_X2_37 sh_2 ho0 rfl rfl rfl dX2_copyFrom_5 ?_
  refine aw_mem (fun μ1 eμ1 => ?_)
  have k := k μ1 eμ1
  refine aw_aload_n hX dX2_copyFrom_8 rfl ?_
  refine aw_aload_n hX dX2_copyFrom_9 rfl ?_
  refine aw_geti hX kf_X2_41 sh_2 ho1 rfl dX2_copyFrom_10 ?_
  refine aw_puti hX kp_X2_41 sh_2 ho0 rfl rfl rfl dX2_copyFrom_13 ?_
  refine aw_mem (fun μ2 eμ2 => ?_)
  have k := k μ2 eμ2
  refine aw_aload_n hX dX2_copyFrom_16 rfl ?_
  refine aw_aload_n hX dX2_copyFrom_17 rfl ?_
  refine aw_geti hX kf_X2_44 sh_2 ho1 rfl dX2_copyFrom_18 ?_
  refine aw_puti hX kp_X2_44 sh_2 ho0 rfl rfl rfl dX2_copyFrom_21 ?_
  refine aw_mem (fun μ3 eμ3 => ?_)
  have k := k μ3 eμ3
  refine aw_aload_n hX dX2_copyFrom_24 rfl ?_
  refine aw_aload_n hX dX2_copyFrom_25 rfl ?_
  refine aw_geti hX kf_X2_47 sh_2 ho1 rfl dX2_copyFrom_26 ?_
  refine aw_puti hX kp_X2_47 sh_2 ho0 rfl rfl rfl dX2_copyFrom_29 ?_
  refine aw_mem (fun μ4 eμ4 => ?_)
  have k := k μ4 eμ4
  refine aw_aload_n hX dX2_copyFrom_32 rfl ?_
  refine aw_getr (o' := o1) hX kf_X2_9 sh_2 ho1 rfl (Nat.one_mul o1) dX2_copyFrom_33 ?_
  refine aw_iconst hX dX2_copyFrom_36 zk_0 ?_
  refine aw_aload_n hX dX2_copyFrom_37 rfl ?_
  refine aw_getr (o' := o0) hX kf_X2_9 sh_2 ho0 rfl (Nat.one_mul o0) dX2_copyFrom_38 ?_
  refine aw_iconst hX dX2_copyFrom_41 zk_0 ?_
  refine aw_iconst hX dX2_copyFrom_42 zk_4 ?_
  have s5 := k.1
  have k := k.2
  refine aw_cpyG gx_ac hX ka_X2_50 s5 sh_19 ho1 sh_19 ho0 (by decide) (by decide) (by decide) (by decide) (by decide) (Nat.le_of_ble_eq_true rfl) dX2_copyFrom_43 ?_
  refine aw_mem (fun μ6 eμ6 => ?_)
  have k := k μ6 eμ6
  refine aw_aload_n hX dX2_copyFrom_46 rfl ?_
  refine aw_getr (o' := o1) hX kf_X2_15 sh_2 ho1 rfl (Nat.one_mul o1) dX2_copyFrom_47 ?_
  refine aw_iconst hX dX2_copyFrom_50 zk_0 ?_
  refine aw_aload_n hX dX2_copyFrom_51 rfl ?_
  refine aw_getr (o' := o0) hX kf_X2_15 sh_2 ho0 rfl (Nat.one_mul o0) dX2_copyFrom_52 ?_
  refine aw_iconst hX dX2_copyFrom_55 zk_0 ?_
  refine aw_iconst hX dX2_copyFrom_56 zk_4 ?_
  refine aw_cpyG gx_ac hX ka_X2_50 s5 sh_20 ho1 sh_20 ho0 (by decide) (by decide) (by decide) (by decide) (by decide) (Nat.le_of_ble_eq_true rfl) dX2_copyFrom_57 ?_
  refine aw_mem (fun μ7 eμ7 => ?_)
  have k := k μ7 eμ7
  refine aw_aload_n hX dX2_copyFrom_60 rfl ?_
  refine aw_getr (o' := o1) hX kf_X2_18 sh_2 ho1 rfl (Nat.one_mul o1) dX2_copyFrom_61 ?_
  refine aw_iconst hX dX2_copyFrom_64 zk_0 ?_
  refine aw_aload_n hX dX2_copyFrom_65 rfl ?_
  refine aw_getr (o' := o0) hX kf_X2_18 sh_2 ho0 rfl (Nat.one_mul o0) dX2_copyFrom_66 ?_
  refine aw_iconst hX dX2_copyFrom_69 zk_0 ?_
  refine aw_bipush hX dX2_copyFrom_70 zb_6 ?_
  refine aw_cpyG gx_ac hX ka_X2_50 s5 sh_21 ho1 sh_21 ho0 (by decide) (by decide) (by decide) (by decide) (by decide) (Nat.le_of_ble_eq_true rfl) dX2_copyFrom_72 ?_
  refine aw_mem (fun μ8 eμ8 => ?_)
  have k := k μ8 eμ8
  refine aw_iconst hX dX2_copyFrom_75 zk_0 ?_
  refine aw_istore_n (L' := [some (.ref (X.G.ad 2 o0)), some (.ref (X.G.ad 2 o1)), some (.int (0 : Int32))]) hX dX2_copyFrom_76 (Nat.le_of_ble_eq_true rfl) rfl ?_
  exact k

set_option maxRecDepth 100000 in
set_option maxHeartbeats 4000000 in
theorem st_X2_copyFrom_77 {X : zX} {lv : Nat} {Post : Option Value → zM → Prop} (hX : zOk X cX2_copyFrom RX2 3 lv) (hr : zRt X none Post) {o0 : Nat} (ho0 : o0 < 6) {o1 : Nat} (ho1 : o1 < 6) {x2 : Int32} {μ : zM}
    (k : ((10 : Int32) ≤ x2 → ((0 < lv) ∧ (∀ μ3 : zM, μ3 = pR μ 23 o0 (va_cpy (μ.1 23 o1) (μ.1 23 o0) 0 0 8) → (∀ μ4 : zM, μ4 = pR μ3 24 o0 (va_cpy (μ3.1 24 o1) (μ3.1 24 o0) 0 0 8) → (∀ μ5 : zM, μ5 = pR μ4 25 o0 (va_cpy (μ4.1 25 o1) (μ4.1 25 o0) 0 0 8) → (Post none μ5)))))) ∧ (¬ (10 : Int32) ≤ x2 → ((vp_in x2 10) ∧ (zCallV X lv yX7_copyFrom cX7_copyFrom 2 none [.ref (X.G.ad 7 (10 * o0 + 0 + (ix x2))), .ref (X.G.ad 7 (10 * o1 + 0 + (ix x2)))] μ (fun μ10 => ∀ v11 : Int32, v11 = x2 + (1 : Int32) → (AW X 77 [some (.ref (X.G.ad 2 o0)), some (.ref (X.G.ad 2 o1)), some (.int v11)] [] μ10)))))) :
    AW X 77 [some (.ref (X.G.ad 2 o0)), some (.ref (X.G.ad 2 o1)), some (.int x2)] [] μ := by
  refine aw_iload_n hX dX2_copyFrom_77 rfl ?_
  refine aw_bipush hX dX2_copyFrom_78 zb_10 ?_
  refine aw_icmp_ge (tgt := 104) hX dX2_copyFrom_80 (by decide) (fun c1 => ?_) (fun c1 => ?_)
  · have k := k.1 c1
    refine aw_aload_n hX dX2_copyFrom_104 rfl ?_
    refine aw_getr (o' := o1) hX kf_X2_28 sh_2 ho1 rfl (Nat.one_mul o1) dX2_copyFrom_105 ?_
    refine aw_iconst hX dX2_copyFrom_108 zk_0 ?_
    refine aw_aload_n hX dX2_copyFrom_109 rfl ?_
    refine aw_getr (o' := o0) hX kf_X2_28 sh_2 ho0 rfl (Nat.one_mul o0) dX2_copyFrom_110 ?_
    refine aw_iconst hX dX2_copyFrom_113 zk_0 ?_
    refine aw_bipush hX dX2_copyFrom_114 zb_8 ?_
    have s2 := k.1
    have k := k.2
    refine aw_cpyG gx_ac hX ka_X2_50 s2 sh_23 ho1 sh_23 ho0 (by decide) (by decide) (by decide) (by decide) (by decide) (Nat.le_of_ble_eq_true rfl) dX2_copyFrom_116 ?_
    refine aw_mem (fun μ3 eμ3 => ?_)
    have k := k μ3 eμ3
    refine aw_aload_n hX dX2_copyFrom_119 rfl ?_
    refine aw_getr (o' := o1) hX kf_X2_31 sh_2 ho1 rfl (Nat.one_mul o1) dX2_copyFrom_120 ?_
    refine aw_iconst hX dX2_copyFrom_123 zk_0 ?_
    refine aw_aload_n hX dX2_copyFrom_124 rfl ?_
    refine aw_getr (o' := o0) hX kf_X2_31 sh_2 ho0 rfl (Nat.one_mul o0) dX2_copyFrom_125 ?_
    refine aw_iconst hX dX2_copyFrom_128 zk_0 ?_
    refine aw_bipush hX dX2_copyFrom_129 zb_8 ?_
    refine aw_cpyG gx_ac hX ka_X2_50 s2 sh_24 ho1 sh_24 ho0 (by decide) (by decide) (by decide) (by decide) (by decide) (Nat.le_of_ble_eq_true rfl) dX2_copyFrom_131 ?_
    refine aw_mem (fun μ4 eμ4 => ?_)
    have k := k μ4 eμ4
    refine aw_aload_n hX dX2_copyFrom_134 rfl ?_
    refine aw_getr (o' := o1) hX kf_X2_34 sh_2 ho1 rfl (Nat.one_mul o1) dX2_copyFrom_135 ?_
    refine aw_iconst hX dX2_copyFrom_138 zk_0 ?_
    refine aw_aload_n hX dX2_copyFrom_139 rfl ?_
    refine aw_getr (o' := o0) hX kf_X2_34 sh_2 ho0 rfl (Nat.one_mul o0) dX2_copyFrom_140 ?_
    refine aw_iconst hX dX2_copyFrom_143 zk_0 ?_
    refine aw_bipush hX dX2_copyFrom_144 zb_8 ?_
    refine aw_cpyG gx_ac hX ka_X2_50 s2 sh_25 ho1 sh_25 ho0 (by decide) (by decide) (by decide) (by decide) (by decide) (Nat.le_of_ble_eq_true rfl) dX2_copyFrom_146 ?_
    refine aw_mem (fun μ5 eμ5 => ?_)
    have k := k μ5 eμ5
    exact aw_vret hX hr dX2_copyFrom_149 k
  · have k := k.2 c1
    refine aw_aload_n hX dX2_copyFrom_83 rfl ?_
    refine aw_getr (o' := o0) hX kf_X2_23 sh_2 ho0 rfl (Nat.one_mul o0) dX2_copyFrom_84 ?_
    refine aw_iload_n hX dX2_copyFrom_87 rfl ?_
    have s6 := k.1
    have k := k.2
    refine aw_aald' (k := (ix x2)) (o' := (10 * o0 + 0 + (ix x2))) (C := "RainLoans$Terms") hX sh_22 ho0 rfl s6 rfl rfl dX2_copyFrom_88 ?_
    have w7 : (10 * o0 + 0 + (ix x2)) < 60 := by have := zix s6; omega
    refine aw_aload_n hX dX2_copyFrom_89 rfl ?_
    refine aw_getr (o' := o1) hX kf_X2_23 sh_2 ho1 rfl (Nat.one_mul o1) dX2_copyFrom_90 ?_
    refine aw_iload_n hX dX2_copyFrom_93 rfl ?_
    refine aw_aald' (k := (ix x2)) (o' := (10 * o1 + 0 + (ix x2))) (C := "RainLoans$Terms") hX sh_22 ho1 rfl s6 rfl rfl dX2_copyFrom_94 ?_
    have w8 : (10 * o1 + 0 + (ix x2)) < 60 := by have := zix s6; omega
    refine aw_invV (As := [.ref (X.G.ad 7 (10 * o1 + 0 + (ix x2)))]) (rest := []) (κ := 7) (o := (10 * o0 + 0 + (ix x2))) (T := TX7) (N := 8) hX vc_X2_56 sh_7 w7 rfl rfl rfl (Nat.le_of_ble_eq_true rfl) dX2_copyFrom_95 k (fun μ10 k => ?_)
    obtain ⟨v11, ev11⟩ : ∃ y : Int32, y = x2 + (1 : Int32) := ⟨_, rfl⟩
    have k := k v11 ev11
    refine aw_iinc (v := v11) (L' := [some (.ref (X.G.ad 2 o0)), some (.ref (X.G.ad 2 o1)), some (.int v11)]) hX dX2_copyFrom_98 rfl (by rw [ev11]; rfl) (Nat.le_of_ble_eq_true rfl) rfl ?_
    refine aw_goto (tgt := 77) hX dX2_copyFrom_101 (by decide) ?_
    exact k

set_option maxRecDepth 100000 in
set_option maxHeartbeats 4000000 in
theorem st_X2_isHill_0 {X : zX} {lv : Nat} {Post : Option Value → zM → Prop} (hX : zOk X cX2_isHill RX2 2 lv) (hr : zRt X (some .boolean) Post) {o0 : Nat} (ho0 : o0 < 6) {x1 : Int32} {μ : zM}
    (k : (x1 < 0 → (Post (some (.int (0 : Int32))) μ)) ∧ (¬ x1 < 0 → (((μ.1 2 o0 0) ≤ x1 → (Post (some (.int (0 : Int32))) μ)) ∧ (¬ (μ.1 2 o0 0) ≤ x1 → (Post (some (.int (1 : Int32))) μ))))) :
    AW X 0 [some (.ref (X.G.ad 2 o0)), some (.int x1)] [] μ := by
  refine aw_iload_n hX dX2_isHill_0 rfl ?_
  refine aw_if_lt (tgt := 16) hX dX2_isHill_1 (by decide) (fun c1 => ?_) (fun c1 => ?_)
  · have k := k.1 c1
    refine aw_iconst hX dX2_isHill_16 zk_0 ?_
    exact aw_zret hX hr (by decide) dX2_isHill_17 k
  · have k := k.2 c1
    refine aw_iload_n hX dX2_isHill_4 rfl ?_
    refine aw_aload_n hX dX2_isHill_5 rfl ?_
    refine aw_geti hX kf_X2_37 sh_2 ho0 rfl dX2_isHill_6 ?_
    refine aw_icmp_ge (tgt := 16) hX dX2_isHill_9 (by decide) (fun c2 => ?_) (fun c2 => ?_)
    · have k := k.1 c2
      refine aw_iconst hX dX2_isHill_16 zk_0 ?_
      exact aw_zret hX hr (by decide) dX2_isHill_17 k
    · have k := k.2 c2
      refine aw_iconst hX dX2_isHill_12 zk_1 ?_
      refine aw_goto (tgt := 17) hX dX2_isHill_13 (by decide) ?_
      exact aw_zret hX hr (by decide) dX2_isHill_17 k

set_option maxRecDepth 100000 in
set_option maxHeartbeats 4000000 in
theorem st_X2_isPerson_0 {X : zX} {lv : Nat} {Post : Option Value → zM → Prop} (hX : zOk X cX2_isPerson RX2 2 lv) (hr : zRt X (some .boolean) Post) {o0 : Nat} (ho0 : o0 < 6) {x1 : Int32} {μ : zM}
    (k : (x1 < 0 → (Post (some (.int (0 : Int32))) μ)) ∧ (¬ x1 < 0 → (((μ.1 2 o0 1) ≤ x1 → (Post (some (.int (0 : Int32))) μ)) ∧ (¬ (μ.1 2 o0 1) ≤ x1 → (Post (some (.int (1 : Int32))) μ))))) :
    AW X 0 [some (.ref (X.G.ad 2 o0)), some (.int x1)] [] μ := by
  refine aw_iload_n hX dX2_isPerson_0 rfl ?_
  refine aw_if_lt (tgt := 16) hX dX2_isPerson_1 (by decide) (fun c1 => ?_) (fun c1 => ?_)
  · have k := k.1 c1
    refine aw_iconst hX dX2_isPerson_16 zk_0 ?_
    exact aw_zret hX hr (by decide) dX2_isPerson_17 k
  · have k := k.2 c1
    refine aw_iload_n hX dX2_isPerson_4 rfl ?_
    refine aw_aload_n hX dX2_isPerson_5 rfl ?_
    refine aw_geti hX kf_X2_41 sh_2 ho0 rfl dX2_isPerson_6 ?_
    refine aw_icmp_ge (tgt := 16) hX dX2_isPerson_9 (by decide) (fun c2 => ?_) (fun c2 => ?_)
    · have k := k.1 c2
      refine aw_iconst hX dX2_isPerson_16 zk_0 ?_
      exact aw_zret hX hr (by decide) dX2_isPerson_17 k
    · have k := k.2 c2
      refine aw_iconst hX dX2_isPerson_12 zk_1 ?_
      refine aw_goto (tgt := 17) hX dX2_isPerson_13 (by decide) ?_
      exact aw_zret hX hr (by decide) dX2_isPerson_17 k

set_option maxRecDepth 100000 in
set_option maxHeartbeats 4000000 in
theorem st_X2_isLoan_0 {X : zX} {lv : Nat} {Post : Option Value → zM → Prop} (hX : zOk X cX2_isLoan RX2 2 lv) (hr : zRt X (some .boolean) Post) {o0 : Nat} (ho0 : o0 < 6) {x1 : Int32} {μ : zM}
    (k : (x1 < 0 → (Post (some (.int (0 : Int32))) μ)) ∧ (¬ x1 < 0 → (((μ.1 2 o0 2) ≤ x1 → (Post (some (.int (0 : Int32))) μ)) ∧ (¬ (μ.1 2 o0 2) ≤ x1 → (Post (some (.int (1 : Int32))) μ))))) :
    AW X 0 [some (.ref (X.G.ad 2 o0)), some (.int x1)] [] μ := by
  refine aw_iload_n hX dX2_isLoan_0 rfl ?_
  refine aw_if_lt (tgt := 16) hX dX2_isLoan_1 (by decide) (fun c1 => ?_) (fun c1 => ?_)
  · have k := k.1 c1
    refine aw_iconst hX dX2_isLoan_16 zk_0 ?_
    exact aw_zret hX hr (by decide) dX2_isLoan_17 k
  · have k := k.2 c1
    refine aw_iload_n hX dX2_isLoan_4 rfl ?_
    refine aw_aload_n hX dX2_isLoan_5 rfl ?_
    refine aw_geti hX kf_X2_44 sh_2 ho0 rfl dX2_isLoan_6 ?_
    refine aw_icmp_ge (tgt := 16) hX dX2_isLoan_9 (by decide) (fun c2 => ?_) (fun c2 => ?_)
    · have k := k.1 c2
      refine aw_iconst hX dX2_isLoan_16 zk_0 ?_
      exact aw_zret hX hr (by decide) dX2_isLoan_17 k
    · have k := k.2 c2
      refine aw_iconst hX dX2_isLoan_12 zk_1 ?_
      refine aw_goto (tgt := 17) hX dX2_isLoan_13 (by decide) ?_
      exact aw_zret hX hr (by decide) dX2_isLoan_17 k

set_option maxRecDepth 100000 in
set_option maxHeartbeats 4000000 in
theorem st_X2_isWeather_0 {X : zX} {lv : Nat} {Post : Option Value → zM → Prop} (hX : zOk X cX2_isWeather RX2 2 lv) (hr : zRt X (some .boolean) Post) {o0 : Nat} (ho0 : o0 < 6) {x1 : Int32} {μ : zM}
    (k : (x1 < 0 → (Post (some (.int (0 : Int32))) μ)) ∧ (¬ x1 < 0 → ((((1 : Int32) <<< ((μ.1 2 o0 0) &&& 31)) ≤ x1 → (Post (some (.int (0 : Int32))) μ)) ∧ (¬ ((1 : Int32) <<< ((μ.1 2 o0 0) &&& 31)) ≤ x1 → (Post (some (.int (1 : Int32))) μ))))) :
    AW X 0 [some (.ref (X.G.ad 2 o0)), some (.int x1)] [] μ := by
  refine aw_iload_n hX dX2_isWeather_0 rfl ?_
  refine aw_if_lt (tgt := 18) hX dX2_isWeather_1 (by decide) (fun c1 => ?_) (fun c1 => ?_)
  · have k := k.1 c1
    refine aw_iconst hX dX2_isWeather_18 zk_0 ?_
    exact aw_zret hX hr (by decide) dX2_isWeather_19 k
  · have k := k.2 c1
    refine aw_iload_n hX dX2_isWeather_4 rfl ?_
    refine aw_iconst hX dX2_isWeather_5 zk_1 ?_
    refine aw_aload_n hX dX2_isWeather_6 rfl ?_
    refine aw_geti hX kf_X2_37 sh_2 ho0 rfl dX2_isWeather_7 ?_
    refine aw_ishl hX dX2_isWeather_10 ?_
    refine aw_icmp_ge (tgt := 18) hX dX2_isWeather_11 (by decide) (fun c2 => ?_) (fun c2 => ?_)
    · have k := k.1 c2
      refine aw_iconst hX dX2_isWeather_18 zk_0 ?_
      exact aw_zret hX hr (by decide) dX2_isWeather_19 k
    · have k := k.2 c2
      refine aw_iconst hX dX2_isWeather_14 zk_1 ?_
      refine aw_goto (tgt := 19) hX dX2_isWeather_15 (by decide) ?_
      exact aw_zret hX hr (by decide) dX2_isWeather_19 k

set_option maxRecDepth 100000 in
set_option maxHeartbeats 4000000 in
theorem st_X2_isBetSet_0 {X : zX} {lv : Nat} {Post : Option Value → zM → Prop} (hX : zOk X cX2_isBetSet RX2 2 lv) (hr : zRt X (some .boolean) Post) {o0 : Nat} (ho0 : o0 < 6) {x1 : Int32} {μ : zM}
    (k : (x1 < 0 → (Post (some (.int (0 : Int32))) μ)) ∧ (¬ x1 < 0 → ((((1 : Int32) <<< ((μ.1 2 o0 3) &&& 31)) ≤ x1 → (Post (some (.int (0 : Int32))) μ)) ∧ (¬ ((1 : Int32) <<< ((μ.1 2 o0 3) &&& 31)) ≤ x1 → (Post (some (.int (1 : Int32))) μ))))) :
    AW X 0 [some (.ref (X.G.ad 2 o0)), some (.int x1)] [] μ := by
  refine aw_iload_n hX dX2_isBetSet_0 rfl ?_
  refine aw_if_lt (tgt := 18) hX dX2_isBetSet_1 (by decide) (fun c1 => ?_) (fun c1 => ?_)
  · have k := k.1 c1
    refine aw_iconst hX dX2_isBetSet_18 zk_0 ?_
    exact aw_zret hX hr (by decide) dX2_isBetSet_19 k
  · have k := k.2 c1
    refine aw_iload_n hX dX2_isBetSet_4 rfl ?_
    refine aw_iconst hX dX2_isBetSet_5 zk_1 ?_
    refine aw_aload_n hX dX2_isBetSet_6 rfl ?_
    refine aw_geti hX kf_X2_47 sh_2 ho0 rfl dX2_isBetSet_7 ?_
    refine aw_ishl hX dX2_isBetSet_10 ?_
    refine aw_icmp_ge (tgt := 18) hX dX2_isBetSet_11 (by decide) (fun c2 => ?_) (fun c2 => ?_)
    · have k := k.1 c2
      refine aw_iconst hX dX2_isBetSet_18 zk_0 ?_
      exact aw_zret hX hr (by decide) dX2_isBetSet_19 k
    · have k := k.2 c2
      refine aw_iconst hX dX2_isBetSet_14 zk_1 ?_
      refine aw_goto (tgt := 19) hX dX2_isBetSet_15 (by decide) ?_
      exact aw_zret hX hr (by decide) dX2_isBetSet_19 k

set_option maxRecDepth 100000 in
set_option maxHeartbeats 4000000 in
theorem st_X2_isFlood_0 {X : zX} {lv : Nat} {Post : Option Value → zM → Prop} (hX : zOk X cX2_isFlood RX2 2 lv) (hr : zRt X (some .boolean) Post) {o0 : Nat} (ho0 : o0 < 6) {x1 : Int32} {μ : zM}
    (k : ((μ.1 2 o0 0) < (2 : Int32) → (Post (some (.int (0 : Int32))) μ)) ∧ (¬ (μ.1 2 o0 0) < (2 : Int32) → ((¬ x1 = (((1 : Int32) <<< ((μ.1 2 o0 0) &&& 31)) - (1 : Int32)) → (Post (some (.int (0 : Int32))) μ)) ∧ (x1 = (((1 : Int32) <<< ((μ.1 2 o0 0) &&& 31)) - (1 : Int32)) → (Post (some (.int (1 : Int32))) μ))))) :
    AW X 0 [some (.ref (X.G.ad 2 o0)), some (.int x1)] [] μ := by
  refine aw_aload_n hX dX2_isFlood_0 rfl ?_
  refine aw_geti hX kf_X2_37 sh_2 ho0 rfl dX2_isFlood_1 ?_
  refine aw_iconst hX dX2_isFlood_4 zk_2 ?_
  refine aw_icmp_lt (tgt := 24) hX dX2_isFlood_5 (by decide) (fun c1 => ?_) (fun c1 => ?_)
  · have k := k.1 c1
    refine aw_iconst hX dX2_isFlood_24 zk_0 ?_
    exact aw_zret hX hr (by decide) dX2_isFlood_25 k
  · have k := k.2 c1
    refine aw_iload_n hX dX2_isFlood_8 rfl ?_
    refine aw_iconst hX dX2_isFlood_9 zk_1 ?_
    refine aw_aload_n hX dX2_isFlood_10 rfl ?_
    refine aw_geti hX kf_X2_37 sh_2 ho0 rfl dX2_isFlood_11 ?_
    refine aw_ishl hX dX2_isFlood_14 ?_
    refine aw_iconst hX dX2_isFlood_15 zk_1 ?_
    refine aw_isub hX dX2_isFlood_16 ?_
    refine aw_icmp_ne (tgt := 24) hX dX2_isFlood_17 (by decide) (fun c2 => ?_) (fun c2 => ?_)
    · have k := k.1 c2
      refine aw_iconst hX dX2_isFlood_24 zk_0 ?_
      exact aw_zret hX hr (by decide) dX2_isFlood_25 k
    · have k := k.2 c2
      refine aw_iconst hX dX2_isFlood_20 zk_1 ?_
      refine aw_goto (tgt := 25) hX dX2_isFlood_21 (by decide) ?_
      exact aw_zret hX hr (by decide) dX2_isFlood_25 k

set_option maxRecDepth 100000 in
set_option maxHeartbeats 4000000 in
theorem st_X2_isRipe_0 {X : zX} {lv : Nat} {Post : Option Value → zM → Prop} (hX : zOk X cX2_isRipe RX2 7 lv) (hr : zRt X (some .boolean) Post) {o0 : Nat} (ho0 : o0 < 6) {x1 : Int32} {x2 : Int32} {μ : zM}
    (k : (vp_in x1 10) ∧ (∀ v3 : Int32, v3 = (μ.1 7 (10 * o0 + 0 + (ix x1)) 5) → (((μ.1 2 o0 0) ≤ (v3 + (1 : Int32)) → ((¬ ((x2 >>> (v3 &&& 31)) &&& (1 : Int32)) = (1 : Int32) → ((¬ ((x2 >>> ((0 : Int32) &&& 31)) &&& (1 : Int32)) = (1 : Int32) → (((μ.1 7 (10 * o0 + 0 + (ix x1)) 6) = (1 : Int32) → (Post (some (.int (1 : Int32))) μ)) ∧ (¬ (μ.1 7 (10 * o0 + 0 + (ix x1)) 6) = (1 : Int32) → ((μ.1 7 (10 * o0 + 0 + (ix x1)) 6) = (2 : Int32) → (Post (some (.int (0 : Int32))) μ)) ∧ (¬ (μ.1 7 (10 * o0 + 0 + (ix x1)) 6) = (2 : Int32) → ((μ.1 7 (10 * o0 + 0 + (ix x1)) 6) = (3 : Int32) → (Post (some (.int (0 : Int32))) μ)) ∧ (¬ (μ.1 7 (10 * o0 + 0 + (ix x1)) 6) = (3 : Int32) → (Post (some (.int (0 : Int32))) μ)))))) ∧ (((x2 >>> ((0 : Int32) &&& 31)) &&& (1 : Int32)) = (1 : Int32) → (((μ.1 7 (10 * o0 + 0 + (ix x1)) 6) = (1 : Int32) → (Post (some (.int (1 : Int32))) μ)) ∧ (¬ (μ.1 7 (10 * o0 + 0 + (ix x1)) 6) = (1 : Int32) → ((μ.1 7 (10 * o0 + 0 + (ix x1)) 6) = (2 : Int32) → (Post (some (.int (0 : Int32))) μ)) ∧ (¬ (μ.1 7 (10 * o0 + 0 + (ix x1)) 6) = (2 : Int32) → ((μ.1 7 (10 * o0 + 0 + (ix x1)) 6) = (3 : Int32) → (Post (some (.int (1 : Int32))) μ)) ∧ (¬ (μ.1 7 (10 * o0 + 0 + (ix x1)) 6) = (3 : Int32) → (Post (some (.int (0 : Int32))) μ)))))))) ∧ (((x2 >>> (v3 &&& 31)) &&& (1 : Int32)) = (1 : Int32) → ((¬ ((x2 >>> ((0 : Int32) &&& 31)) &&& (1 : Int32)) = (1 : Int32) → (((μ.1 7 (10 * o0 + 0 + (ix x1)) 6) = (1 : Int32) → (Post (some (.int (0 : Int32))) μ)) ∧ (¬ (μ.1 7 (10 * o0 + 0 + (ix x1)) 6) = (1 : Int32) → ((μ.1 7 (10 * o0 + 0 + (ix x1)) 6) = (2 : Int32) → (Post (some (.int (0 : Int32))) μ)) ∧ (¬ (μ.1 7 (10 * o0 + 0 + (ix x1)) 6) = (2 : Int32) → ((μ.1 7 (10 * o0 + 0 + (ix x1)) 6) = (3 : Int32) → (Post (some (.int (1 : Int32))) μ)) ∧ (¬ (μ.1 7 (10 * o0 + 0 + (ix x1)) 6) = (3 : Int32) → (Post (some (.int (1 : Int32))) μ)))))) ∧ (((x2 >>> ((0 : Int32) &&& 31)) &&& (1 : Int32)) = (1 : Int32) → (((μ.1 7 (10 * o0 + 0 + (ix x1)) 6) = (1 : Int32) → (Post (some (.int (0 : Int32))) μ)) ∧ (¬ (μ.1 7 (10 * o0 + 0 + (ix x1)) 6) = (1 : Int32) → ((μ.1 7 (10 * o0 + 0 + (ix x1)) 6) = (2 : Int32) → (Post (some (.int (1 : Int32))) μ)) ∧ (¬ (μ.1 7 (10 * o0 + 0 + (ix x1)) 6) = (2 : Int32) → ((μ.1 7 (10 * o0 + 0 + (ix x1)) 6) = (3 : Int32) → (Post (some (.int (1 : Int32))) μ)) ∧ (¬ (μ.1 7 (10 * o0 + 0 + (ix x1)) 6) = (3 : Int32) → (Post (some (.int (1 : Int32))) μ)))))))))) ∧ (¬ (μ.1 2 o0 0) ≤ (v3 + (1 : Int32)) → (∀ v36 : Int32, v36 = (v3 + (1 : Int32)) → ((¬ ((x2 >>> (v3 &&& 31)) &&& (1 : Int32)) = (1 : Int32) → ((¬ ((x2 >>> (v36 &&& 31)) &&& (1 : Int32)) = (1 : Int32) → (((μ.1 7 (10 * o0 + 0 + (ix x1)) 6) = (1 : Int32) → (Post (some (.int (1 : Int32))) μ)) ∧ (¬ (μ.1 7 (10 * o0 + 0 + (ix x1)) 6) = (1 : Int32) → ((μ.1 7 (10 * o0 + 0 + (ix x1)) 6) = (2 : Int32) → (Post (some (.int (0 : Int32))) μ)) ∧ (¬ (μ.1 7 (10 * o0 + 0 + (ix x1)) 6) = (2 : Int32) → ((μ.1 7 (10 * o0 + 0 + (ix x1)) 6) = (3 : Int32) → (Post (some (.int (0 : Int32))) μ)) ∧ (¬ (μ.1 7 (10 * o0 + 0 + (ix x1)) 6) = (3 : Int32) → (Post (some (.int (0 : Int32))) μ)))))) ∧ (((x2 >>> (v36 &&& 31)) &&& (1 : Int32)) = (1 : Int32) → (((μ.1 7 (10 * o0 + 0 + (ix x1)) 6) = (1 : Int32) → (Post (some (.int (1 : Int32))) μ)) ∧ (¬ (μ.1 7 (10 * o0 + 0 + (ix x1)) 6) = (1 : Int32) → ((μ.1 7 (10 * o0 + 0 + (ix x1)) 6) = (2 : Int32) → (Post (some (.int (0 : Int32))) μ)) ∧ (¬ (μ.1 7 (10 * o0 + 0 + (ix x1)) 6) = (2 : Int32) → ((μ.1 7 (10 * o0 + 0 + (ix x1)) 6) = (3 : Int32) → (Post (some (.int (1 : Int32))) μ)) ∧ (¬ (μ.1 7 (10 * o0 + 0 + (ix x1)) 6) = (3 : Int32) → (Post (some (.int (0 : Int32))) μ)))))))) ∧ (((x2 >>> (v3 &&& 31)) &&& (1 : Int32)) = (1 : Int32) → ((¬ ((x2 >>> (v36 &&& 31)) &&& (1 : Int32)) = (1 : Int32) → (((μ.1 7 (10 * o0 + 0 + (ix x1)) 6) = (1 : Int32) → (Post (some (.int (0 : Int32))) μ)) ∧ (¬ (μ.1 7 (10 * o0 + 0 + (ix x1)) 6) = (1 : Int32) → ((μ.1 7 (10 * o0 + 0 + (ix x1)) 6) = (2 : Int32) → (Post (some (.int (0 : Int32))) μ)) ∧ (¬ (μ.1 7 (10 * o0 + 0 + (ix x1)) 6) = (2 : Int32) → ((μ.1 7 (10 * o0 + 0 + (ix x1)) 6) = (3 : Int32) → (Post (some (.int (1 : Int32))) μ)) ∧ (¬ (μ.1 7 (10 * o0 + 0 + (ix x1)) 6) = (3 : Int32) → (Post (some (.int (1 : Int32))) μ)))))) ∧ (((x2 >>> (v36 &&& 31)) &&& (1 : Int32)) = (1 : Int32) → (((μ.1 7 (10 * o0 + 0 + (ix x1)) 6) = (1 : Int32) → (Post (some (.int (0 : Int32))) μ)) ∧ (¬ (μ.1 7 (10 * o0 + 0 + (ix x1)) 6) = (1 : Int32) → ((μ.1 7 (10 * o0 + 0 + (ix x1)) 6) = (2 : Int32) → (Post (some (.int (1 : Int32))) μ)) ∧ (¬ (μ.1 7 (10 * o0 + 0 + (ix x1)) 6) = (2 : Int32) → ((μ.1 7 (10 * o0 + 0 + (ix x1)) 6) = (3 : Int32) → (Post (some (.int (1 : Int32))) μ)) ∧ (¬ (μ.1 7 (10 * o0 + 0 + (ix x1)) 6) = (3 : Int32) → (Post (some (.int (1 : Int32))) μ)))))))))))))) :
    AW X 0 [some (.ref (X.G.ad 2 o0)), some (.int x1), some (.int x2), none, none, none, none] [] μ := by
  refine aw_aload_n hX dX2_isRipe_0 rfl ?_
  refine aw_getr (o' := o0) hX kf_X2_23 sh_2 ho0 rfl (Nat.one_mul o0) dX2_isRipe_1 ?_
  refine aw_iload_n hX dX2_isRipe_4 rfl ?_
  have s1 := k.1
  have k := k.2
  refine aw_aald' (k := (ix x1)) (o' := (10 * o0 + 0 + (ix x1))) (C := "RainLoans$Terms") hX sh_22 ho0 rfl s1 rfl rfl dX2_isRipe_5 ?_
  have w2 : (10 * o0 + 0 + (ix x1)) < 60 := by have := zix s1; omega
  refine aw_geti hX kf_X2_60 sh_7 w2 rfl dX2_isRipe_6 ?_
  refine aw_topi (fun v3 ev3 => ?_)
  have k := k v3 ev3
  refine aw_istore_n (L' := [some (.ref (X.G.ad 2 o0)), some (.int x1), some (.int x2), some (.int v3), none, none, none]) hX dX2_isRipe_9 (Nat.le_of_ble_eq_true rfl) rfl ?_
  refine aw_iload_n hX dX2_isRipe_10 rfl ?_
  refine aw_iconst hX dX2_isRipe_11 zk_1 ?_
  refine aw_iadd hX dX2_isRipe_12 ?_
  refine aw_aload_n hX dX2_isRipe_13 rfl ?_
  refine aw_geti hX kf_X2_37 sh_2 ho0 rfl dX2_isRipe_14 ?_
  refine aw_icmp_ge (tgt := 26) hX dX2_isRipe_17 (by decide) (fun c4 => ?_) (fun c4 => ?_)
  · have k := k.1 c4
    refine aw_iconst hX dX2_isRipe_26 zk_0 ?_
    refine aw_istore (L' := [some (.ref (X.G.ad 2 o0)), some (.int x1), some (.int x2), some (.int v3), some (.int (0 : Int32)), none, none]) hX dX2_isRipe_27 (Nat.le_of_ble_eq_true rfl) rfl ?_
    refine aw_iload_n hX dX2_isRipe_29 rfl ?_
    refine aw_iload_n hX dX2_isRipe_30 rfl ?_
    refine aw_ishr hX dX2_isRipe_31 ?_
    refine aw_iconst hX dX2_isRipe_32 zk_1 ?_
    refine aw_iand hX dX2_isRipe_33 ?_
    refine aw_iconst hX dX2_isRipe_34 zk_1 ?_
    refine aw_icmp_ne (tgt := 42) hX dX2_isRipe_35 (by decide) (fun c5 => ?_) (fun c5 => ?_)
    · have k := k.1 c5
      refine aw_iconst hX dX2_isRipe_42 zk_0 ?_
      refine aw_istore (L' := [some (.ref (X.G.ad 2 o0)), some (.int x1), some (.int x2), some (.int v3), some (.int (0 : Int32)), some (.int (0 : Int32)), none]) hX dX2_isRipe_43 (Nat.le_of_ble_eq_true rfl) rfl ?_
      refine aw_iload_n hX dX2_isRipe_45 rfl ?_
      refine aw_iload hX dX2_isRipe_46 rfl ?_
      refine aw_ishr hX dX2_isRipe_48 ?_
      refine aw_iconst hX dX2_isRipe_49 zk_1 ?_
      refine aw_iand hX dX2_isRipe_50 ?_
      refine aw_iconst hX dX2_isRipe_51 zk_1 ?_
      refine aw_icmp_ne (tgt := 59) hX dX2_isRipe_52 (by decide) (fun c6 => ?_) (fun c6 => ?_)
      · have k := k.1 c6
        refine aw_iconst hX dX2_isRipe_59 zk_0 ?_
        refine aw_istore (L' := [some (.ref (X.G.ad 2 o0)), some (.int x1), some (.int x2), some (.int v3), some (.int (0 : Int32)), some (.int (0 : Int32)), some (.int (0 : Int32))]) hX dX2_isRipe_60 (Nat.le_of_ble_eq_true rfl) rfl ?_
        refine aw_aload_n hX dX2_isRipe_62 rfl ?_
        refine aw_getr (o' := o0) hX kf_X2_23 sh_2 ho0 rfl (Nat.one_mul o0) dX2_isRipe_63 ?_
        refine aw_iload_n hX dX2_isRipe_66 rfl ?_
        refine aw_aald' (k := (ix x1)) (o' := (10 * o0 + 0 + (ix x1))) (C := "RainLoans$Terms") hX sh_22 ho0 rfl s1 rfl rfl dX2_isRipe_67 ?_
        refine aw_geti hX kf_X2_63 sh_7 w2 rfl dX2_isRipe_68 ?_
        by_cases c7 : (μ.1 7 (10 * o0 + 0 + (ix x1)) 6) = (1 : Int32)
        · have k := k.1 c7
          refine aw_tsIn (tgt := 96) (off := 25) hX dX2_isRipe_71 (by rw [c7]; decide) (by rw [c7]; decide) (by rw [c7]; decide) (by decide) ?_
          refine aw_iload hX dX2_isRipe_96 rfl ?_
          refine aw_if_ne (tgt := 105) hX dX2_isRipe_98 (by decide) (fun c8 => absurd c8 (by decide)) (fun _ => ?_)
          refine aw_iconst hX dX2_isRipe_101 zk_1 ?_
          refine aw_goto (tgt := 106) hX dX2_isRipe_102 (by decide) ?_
          exact aw_zret hX hr (by decide) dX2_isRipe_106 k
        · have k := k.2 c7
          by_cases c9 : (μ.1 7 (10 * o0 + 0 + (ix x1)) 6) = (2 : Int32)
          · have k := k.1 c9
            refine aw_tsIn (tgt := 107) (off := 36) hX dX2_isRipe_71 (by rw [c9]; decide) (by rw [c9]; decide) (by rw [c9]; decide) (by decide) ?_
            refine aw_iload hX dX2_isRipe_107 rfl ?_
            refine aw_if_eq (tgt := 121) hX dX2_isRipe_109 (by decide) (fun _ => ?_) (fun c10 => absurd c10 (by decide))
            refine aw_iconst hX dX2_isRipe_121 zk_0 ?_
            exact aw_zret hX hr (by decide) dX2_isRipe_122 k
          · have k := k.2 c9
            by_cases c11 : (μ.1 7 (10 * o0 + 0 + (ix x1)) 6) = (3 : Int32)
            · have k := k.1 c11
              refine aw_tsIn (tgt := 123) (off := 52) hX dX2_isRipe_71 (by rw [c11]; decide) (by rw [c11]; decide) (by rw [c11]; decide) (by decide) ?_
              refine aw_iload hX dX2_isRipe_123 rfl ?_
              refine aw_if_ne (tgt := 133) hX dX2_isRipe_125 (by decide) (fun c12 => absurd c12 (by decide)) (fun _ => ?_)
              refine aw_iload hX dX2_isRipe_128 rfl ?_
              refine aw_if_eq (tgt := 137) hX dX2_isRipe_130 (by decide) (fun _ => ?_) (fun c13 => absurd c13 (by decide))
              refine aw_iconst hX dX2_isRipe_137 zk_0 ?_
              exact aw_zret hX hr (by decide) dX2_isRipe_138 k
            · have k := k.2 c11
              have qc7 : Int32.toInt (μ.1 7 (10 * o0 + 0 + (ix x1)) 6) ≠ 1 := zne c7
              have qc9 : Int32.toInt (μ.1 7 (10 * o0 + 0 + (ix x1)) 6) ≠ 2 := zne c9
              have qc11 : Int32.toInt (μ.1 7 (10 * o0 + 0 + (ix x1)) 6) ≠ 3 := zne c11
              refine aw_tsOut (tgt := 139) hX dX2_isRipe_71 (by omega) (by decide) ?_
              refine aw_iload hX dX2_isRipe_139 rfl ?_
              exact aw_zret hX hr (by decide) dX2_isRipe_141 k
      · have k := k.2 c6
        refine aw_iconst hX dX2_isRipe_55 zk_1 ?_
        refine aw_goto (tgt := 60) hX dX2_isRipe_56 (by decide) ?_
        refine aw_istore (L' := [some (.ref (X.G.ad 2 o0)), some (.int x1), some (.int x2), some (.int v3), some (.int (0 : Int32)), some (.int (0 : Int32)), some (.int (1 : Int32))]) hX dX2_isRipe_60 (Nat.le_of_ble_eq_true rfl) rfl ?_
        refine aw_aload_n hX dX2_isRipe_62 rfl ?_
        refine aw_getr (o' := o0) hX kf_X2_23 sh_2 ho0 rfl (Nat.one_mul o0) dX2_isRipe_63 ?_
        refine aw_iload_n hX dX2_isRipe_66 rfl ?_
        refine aw_aald' (k := (ix x1)) (o' := (10 * o0 + 0 + (ix x1))) (C := "RainLoans$Terms") hX sh_22 ho0 rfl s1 rfl rfl dX2_isRipe_67 ?_
        refine aw_geti hX kf_X2_63 sh_7 w2 rfl dX2_isRipe_68 ?_
        by_cases c14 : (μ.1 7 (10 * o0 + 0 + (ix x1)) 6) = (1 : Int32)
        · have k := k.1 c14
          refine aw_tsIn (tgt := 96) (off := 25) hX dX2_isRipe_71 (by rw [c14]; decide) (by rw [c14]; decide) (by rw [c14]; decide) (by decide) ?_
          refine aw_iload hX dX2_isRipe_96 rfl ?_
          refine aw_if_ne (tgt := 105) hX dX2_isRipe_98 (by decide) (fun c15 => absurd c15 (by decide)) (fun _ => ?_)
          refine aw_iconst hX dX2_isRipe_101 zk_1 ?_
          refine aw_goto (tgt := 106) hX dX2_isRipe_102 (by decide) ?_
          exact aw_zret hX hr (by decide) dX2_isRipe_106 k
        · have k := k.2 c14
          by_cases c16 : (μ.1 7 (10 * o0 + 0 + (ix x1)) 6) = (2 : Int32)
          · have k := k.1 c16
            refine aw_tsIn (tgt := 107) (off := 36) hX dX2_isRipe_71 (by rw [c16]; decide) (by rw [c16]; decide) (by rw [c16]; decide) (by decide) ?_
            refine aw_iload hX dX2_isRipe_107 rfl ?_
            refine aw_if_eq (tgt := 121) hX dX2_isRipe_109 (by decide) (fun _ => ?_) (fun c17 => absurd c17 (by decide))
            refine aw_iconst hX dX2_isRipe_121 zk_0 ?_
            exact aw_zret hX hr (by decide) dX2_isRipe_122 k
          · have k := k.2 c16
            by_cases c18 : (μ.1 7 (10 * o0 + 0 + (ix x1)) 6) = (3 : Int32)
            · have k := k.1 c18
              refine aw_tsIn (tgt := 123) (off := 52) hX dX2_isRipe_71 (by rw [c18]; decide) (by rw [c18]; decide) (by rw [c18]; decide) (by decide) ?_
              refine aw_iload hX dX2_isRipe_123 rfl ?_
              refine aw_if_ne (tgt := 133) hX dX2_isRipe_125 (by decide) (fun c19 => absurd c19 (by decide)) (fun _ => ?_)
              refine aw_iload hX dX2_isRipe_128 rfl ?_
              refine aw_if_eq (tgt := 137) hX dX2_isRipe_130 (by decide) (fun c20 => absurd c20 (by decide)) (fun _ => ?_)
              refine aw_iconst hX dX2_isRipe_133 zk_1 ?_
              refine aw_goto (tgt := 138) hX dX2_isRipe_134 (by decide) ?_
              exact aw_zret hX hr (by decide) dX2_isRipe_138 k
            · have k := k.2 c18
              have qc14 : Int32.toInt (μ.1 7 (10 * o0 + 0 + (ix x1)) 6) ≠ 1 := zne c14
              have qc16 : Int32.toInt (μ.1 7 (10 * o0 + 0 + (ix x1)) 6) ≠ 2 := zne c16
              have qc18 : Int32.toInt (μ.1 7 (10 * o0 + 0 + (ix x1)) 6) ≠ 3 := zne c18
              refine aw_tsOut (tgt := 139) hX dX2_isRipe_71 (by omega) (by decide) ?_
              refine aw_iload hX dX2_isRipe_139 rfl ?_
              exact aw_zret hX hr (by decide) dX2_isRipe_141 k
    · have k := k.2 c5
      refine aw_iconst hX dX2_isRipe_38 zk_1 ?_
      refine aw_goto (tgt := 43) hX dX2_isRipe_39 (by decide) ?_
      refine aw_istore (L' := [some (.ref (X.G.ad 2 o0)), some (.int x1), some (.int x2), some (.int v3), some (.int (0 : Int32)), some (.int (1 : Int32)), none]) hX dX2_isRipe_43 (Nat.le_of_ble_eq_true rfl) rfl ?_
      refine aw_iload_n hX dX2_isRipe_45 rfl ?_
      refine aw_iload hX dX2_isRipe_46 rfl ?_
      refine aw_ishr hX dX2_isRipe_48 ?_
      refine aw_iconst hX dX2_isRipe_49 zk_1 ?_
      refine aw_iand hX dX2_isRipe_50 ?_
      refine aw_iconst hX dX2_isRipe_51 zk_1 ?_
      refine aw_icmp_ne (tgt := 59) hX dX2_isRipe_52 (by decide) (fun c21 => ?_) (fun c21 => ?_)
      · have k := k.1 c21
        refine aw_iconst hX dX2_isRipe_59 zk_0 ?_
        refine aw_istore (L' := [some (.ref (X.G.ad 2 o0)), some (.int x1), some (.int x2), some (.int v3), some (.int (0 : Int32)), some (.int (1 : Int32)), some (.int (0 : Int32))]) hX dX2_isRipe_60 (Nat.le_of_ble_eq_true rfl) rfl ?_
        refine aw_aload_n hX dX2_isRipe_62 rfl ?_
        refine aw_getr (o' := o0) hX kf_X2_23 sh_2 ho0 rfl (Nat.one_mul o0) dX2_isRipe_63 ?_
        refine aw_iload_n hX dX2_isRipe_66 rfl ?_
        refine aw_aald' (k := (ix x1)) (o' := (10 * o0 + 0 + (ix x1))) (C := "RainLoans$Terms") hX sh_22 ho0 rfl s1 rfl rfl dX2_isRipe_67 ?_
        refine aw_geti hX kf_X2_63 sh_7 w2 rfl dX2_isRipe_68 ?_
        by_cases c22 : (μ.1 7 (10 * o0 + 0 + (ix x1)) 6) = (1 : Int32)
        · have k := k.1 c22
          refine aw_tsIn (tgt := 96) (off := 25) hX dX2_isRipe_71 (by rw [c22]; decide) (by rw [c22]; decide) (by rw [c22]; decide) (by decide) ?_
          refine aw_iload hX dX2_isRipe_96 rfl ?_
          refine aw_if_ne (tgt := 105) hX dX2_isRipe_98 (by decide) (fun _ => ?_) (fun c23 => absurd c23 (by decide))
          refine aw_iconst hX dX2_isRipe_105 zk_0 ?_
          exact aw_zret hX hr (by decide) dX2_isRipe_106 k
        · have k := k.2 c22
          by_cases c24 : (μ.1 7 (10 * o0 + 0 + (ix x1)) 6) = (2 : Int32)
          · have k := k.1 c24
            refine aw_tsIn (tgt := 107) (off := 36) hX dX2_isRipe_71 (by rw [c24]; decide) (by rw [c24]; decide) (by rw [c24]; decide) (by decide) ?_
            refine aw_iload hX dX2_isRipe_107 rfl ?_
            refine aw_if_eq (tgt := 121) hX dX2_isRipe_109 (by decide) (fun c25 => absurd c25 (by decide)) (fun _ => ?_)
            refine aw_iload hX dX2_isRipe_112 rfl ?_
            refine aw_if_eq (tgt := 121) hX dX2_isRipe_114 (by decide) (fun _ => ?_) (fun c26 => absurd c26 (by decide))
            refine aw_iconst hX dX2_isRipe_121 zk_0 ?_
            exact aw_zret hX hr (by decide) dX2_isRipe_122 k
          · have k := k.2 c24
            by_cases c27 : (μ.1 7 (10 * o0 + 0 + (ix x1)) 6) = (3 : Int32)
            · have k := k.1 c27
              refine aw_tsIn (tgt := 123) (off := 52) hX dX2_isRipe_71 (by rw [c27]; decide) (by rw [c27]; decide) (by rw [c27]; decide) (by decide) ?_
              refine aw_iload hX dX2_isRipe_123 rfl ?_
              refine aw_if_ne (tgt := 133) hX dX2_isRipe_125 (by decide) (fun _ => ?_) (fun c28 => absurd c28 (by decide))
              refine aw_iconst hX dX2_isRipe_133 zk_1 ?_
              refine aw_goto (tgt := 138) hX dX2_isRipe_134 (by decide) ?_
              exact aw_zret hX hr (by decide) dX2_isRipe_138 k
            · have k := k.2 c27
              have qc22 : Int32.toInt (μ.1 7 (10 * o0 + 0 + (ix x1)) 6) ≠ 1 := zne c22
              have qc24 : Int32.toInt (μ.1 7 (10 * o0 + 0 + (ix x1)) 6) ≠ 2 := zne c24
              have qc27 : Int32.toInt (μ.1 7 (10 * o0 + 0 + (ix x1)) 6) ≠ 3 := zne c27
              refine aw_tsOut (tgt := 139) hX dX2_isRipe_71 (by omega) (by decide) ?_
              refine aw_iload hX dX2_isRipe_139 rfl ?_
              exact aw_zret hX hr (by decide) dX2_isRipe_141 k
      · have k := k.2 c21
        refine aw_iconst hX dX2_isRipe_55 zk_1 ?_
        refine aw_goto (tgt := 60) hX dX2_isRipe_56 (by decide) ?_
        refine aw_istore (L' := [some (.ref (X.G.ad 2 o0)), some (.int x1), some (.int x2), some (.int v3), some (.int (0 : Int32)), some (.int (1 : Int32)), some (.int (1 : Int32))]) hX dX2_isRipe_60 (Nat.le_of_ble_eq_true rfl) rfl ?_
        refine aw_aload_n hX dX2_isRipe_62 rfl ?_
        refine aw_getr (o' := o0) hX kf_X2_23 sh_2 ho0 rfl (Nat.one_mul o0) dX2_isRipe_63 ?_
        refine aw_iload_n hX dX2_isRipe_66 rfl ?_
        refine aw_aald' (k := (ix x1)) (o' := (10 * o0 + 0 + (ix x1))) (C := "RainLoans$Terms") hX sh_22 ho0 rfl s1 rfl rfl dX2_isRipe_67 ?_
        refine aw_geti hX kf_X2_63 sh_7 w2 rfl dX2_isRipe_68 ?_
        by_cases c29 : (μ.1 7 (10 * o0 + 0 + (ix x1)) 6) = (1 : Int32)
        · have k := k.1 c29
          refine aw_tsIn (tgt := 96) (off := 25) hX dX2_isRipe_71 (by rw [c29]; decide) (by rw [c29]; decide) (by rw [c29]; decide) (by decide) ?_
          refine aw_iload hX dX2_isRipe_96 rfl ?_
          refine aw_if_ne (tgt := 105) hX dX2_isRipe_98 (by decide) (fun _ => ?_) (fun c30 => absurd c30 (by decide))
          refine aw_iconst hX dX2_isRipe_105 zk_0 ?_
          exact aw_zret hX hr (by decide) dX2_isRipe_106 k
        · have k := k.2 c29
          by_cases c31 : (μ.1 7 (10 * o0 + 0 + (ix x1)) 6) = (2 : Int32)
          · have k := k.1 c31
            refine aw_tsIn (tgt := 107) (off := 36) hX dX2_isRipe_71 (by rw [c31]; decide) (by rw [c31]; decide) (by rw [c31]; decide) (by decide) ?_
            refine aw_iload hX dX2_isRipe_107 rfl ?_
            refine aw_if_eq (tgt := 121) hX dX2_isRipe_109 (by decide) (fun c32 => absurd c32 (by decide)) (fun _ => ?_)
            refine aw_iload hX dX2_isRipe_112 rfl ?_
            refine aw_if_eq (tgt := 121) hX dX2_isRipe_114 (by decide) (fun c33 => absurd c33 (by decide)) (fun _ => ?_)
            refine aw_iconst hX dX2_isRipe_117 zk_1 ?_
            refine aw_goto (tgt := 122) hX dX2_isRipe_118 (by decide) ?_
            exact aw_zret hX hr (by decide) dX2_isRipe_122 k
          · have k := k.2 c31
            by_cases c34 : (μ.1 7 (10 * o0 + 0 + (ix x1)) 6) = (3 : Int32)
            · have k := k.1 c34
              refine aw_tsIn (tgt := 123) (off := 52) hX dX2_isRipe_71 (by rw [c34]; decide) (by rw [c34]; decide) (by rw [c34]; decide) (by decide) ?_
              refine aw_iload hX dX2_isRipe_123 rfl ?_
              refine aw_if_ne (tgt := 133) hX dX2_isRipe_125 (by decide) (fun _ => ?_) (fun c35 => absurd c35 (by decide))
              refine aw_iconst hX dX2_isRipe_133 zk_1 ?_
              refine aw_goto (tgt := 138) hX dX2_isRipe_134 (by decide) ?_
              exact aw_zret hX hr (by decide) dX2_isRipe_138 k
            · have k := k.2 c34
              have qc29 : Int32.toInt (μ.1 7 (10 * o0 + 0 + (ix x1)) 6) ≠ 1 := zne c29
              have qc31 : Int32.toInt (μ.1 7 (10 * o0 + 0 + (ix x1)) 6) ≠ 2 := zne c31
              have qc34 : Int32.toInt (μ.1 7 (10 * o0 + 0 + (ix x1)) 6) ≠ 3 := zne c34
              refine aw_tsOut (tgt := 139) hX dX2_isRipe_71 (by omega) (by decide) ?_
              refine aw_iload hX dX2_isRipe_139 rfl ?_
              exact aw_zret hX hr (by decide) dX2_isRipe_141 k
  · have k := k.2 c4
    refine aw_iload_n hX dX2_isRipe_20 rfl ?_
    refine aw_iconst hX dX2_isRipe_21 zk_1 ?_
    refine aw_iadd hX dX2_isRipe_22 ?_
    refine aw_goto (tgt := 27) hX dX2_isRipe_23 (by decide) ?_
    refine aw_topi (fun v36 ev36 => ?_)
    have k := k v36 ev36
    refine aw_istore (L' := [some (.ref (X.G.ad 2 o0)), some (.int x1), some (.int x2), some (.int v3), some (.int v36), none, none]) hX dX2_isRipe_27 (Nat.le_of_ble_eq_true rfl) rfl ?_
    refine aw_iload_n hX dX2_isRipe_29 rfl ?_
    refine aw_iload_n hX dX2_isRipe_30 rfl ?_
    refine aw_ishr hX dX2_isRipe_31 ?_
    refine aw_iconst hX dX2_isRipe_32 zk_1 ?_
    refine aw_iand hX dX2_isRipe_33 ?_
    refine aw_iconst hX dX2_isRipe_34 zk_1 ?_
    refine aw_icmp_ne (tgt := 42) hX dX2_isRipe_35 (by decide) (fun c37 => ?_) (fun c37 => ?_)
    · have k := k.1 c37
      refine aw_iconst hX dX2_isRipe_42 zk_0 ?_
      refine aw_istore (L' := [some (.ref (X.G.ad 2 o0)), some (.int x1), some (.int x2), some (.int v3), some (.int v36), some (.int (0 : Int32)), none]) hX dX2_isRipe_43 (Nat.le_of_ble_eq_true rfl) rfl ?_
      refine aw_iload_n hX dX2_isRipe_45 rfl ?_
      refine aw_iload hX dX2_isRipe_46 rfl ?_
      refine aw_ishr hX dX2_isRipe_48 ?_
      refine aw_iconst hX dX2_isRipe_49 zk_1 ?_
      refine aw_iand hX dX2_isRipe_50 ?_
      refine aw_iconst hX dX2_isRipe_51 zk_1 ?_
      refine aw_icmp_ne (tgt := 59) hX dX2_isRipe_52 (by decide) (fun c38 => ?_) (fun c38 => ?_)
      · have k := k.1 c38
        refine aw_iconst hX dX2_isRipe_59 zk_0 ?_
        refine aw_istore (L' := [some (.ref (X.G.ad 2 o0)), some (.int x1), some (.int x2), some (.int v3), some (.int v36), some (.int (0 : Int32)), some (.int (0 : Int32))]) hX dX2_isRipe_60 (Nat.le_of_ble_eq_true rfl) rfl ?_
        refine aw_aload_n hX dX2_isRipe_62 rfl ?_
        refine aw_getr (o' := o0) hX kf_X2_23 sh_2 ho0 rfl (Nat.one_mul o0) dX2_isRipe_63 ?_
        refine aw_iload_n hX dX2_isRipe_66 rfl ?_
        refine aw_aald' (k := (ix x1)) (o' := (10 * o0 + 0 + (ix x1))) (C := "RainLoans$Terms") hX sh_22 ho0 rfl s1 rfl rfl dX2_isRipe_67 ?_
        refine aw_geti hX kf_X2_63 sh_7 w2 rfl dX2_isRipe_68 ?_
        by_cases c39 : (μ.1 7 (10 * o0 + 0 + (ix x1)) 6) = (1 : Int32)
        · have k := k.1 c39
          refine aw_tsIn (tgt := 96) (off := 25) hX dX2_isRipe_71 (by rw [c39]; decide) (by rw [c39]; decide) (by rw [c39]; decide) (by decide) ?_
          refine aw_iload hX dX2_isRipe_96 rfl ?_
          refine aw_if_ne (tgt := 105) hX dX2_isRipe_98 (by decide) (fun c40 => absurd c40 (by decide)) (fun _ => ?_)
          refine aw_iconst hX dX2_isRipe_101 zk_1 ?_
          refine aw_goto (tgt := 106) hX dX2_isRipe_102 (by decide) ?_
          exact aw_zret hX hr (by decide) dX2_isRipe_106 k
        · have k := k.2 c39
          by_cases c41 : (μ.1 7 (10 * o0 + 0 + (ix x1)) 6) = (2 : Int32)
          · have k := k.1 c41
            refine aw_tsIn (tgt := 107) (off := 36) hX dX2_isRipe_71 (by rw [c41]; decide) (by rw [c41]; decide) (by rw [c41]; decide) (by decide) ?_
            refine aw_iload hX dX2_isRipe_107 rfl ?_
            refine aw_if_eq (tgt := 121) hX dX2_isRipe_109 (by decide) (fun _ => ?_) (fun c42 => absurd c42 (by decide))
            refine aw_iconst hX dX2_isRipe_121 zk_0 ?_
            exact aw_zret hX hr (by decide) dX2_isRipe_122 k
          · have k := k.2 c41
            by_cases c43 : (μ.1 7 (10 * o0 + 0 + (ix x1)) 6) = (3 : Int32)
            · have k := k.1 c43
              refine aw_tsIn (tgt := 123) (off := 52) hX dX2_isRipe_71 (by rw [c43]; decide) (by rw [c43]; decide) (by rw [c43]; decide) (by decide) ?_
              refine aw_iload hX dX2_isRipe_123 rfl ?_
              refine aw_if_ne (tgt := 133) hX dX2_isRipe_125 (by decide) (fun c44 => absurd c44 (by decide)) (fun _ => ?_)
              refine aw_iload hX dX2_isRipe_128 rfl ?_
              refine aw_if_eq (tgt := 137) hX dX2_isRipe_130 (by decide) (fun _ => ?_) (fun c45 => absurd c45 (by decide))
              refine aw_iconst hX dX2_isRipe_137 zk_0 ?_
              exact aw_zret hX hr (by decide) dX2_isRipe_138 k
            · have k := k.2 c43
              have qc39 : Int32.toInt (μ.1 7 (10 * o0 + 0 + (ix x1)) 6) ≠ 1 := zne c39
              have qc41 : Int32.toInt (μ.1 7 (10 * o0 + 0 + (ix x1)) 6) ≠ 2 := zne c41
              have qc43 : Int32.toInt (μ.1 7 (10 * o0 + 0 + (ix x1)) 6) ≠ 3 := zne c43
              refine aw_tsOut (tgt := 139) hX dX2_isRipe_71 (by omega) (by decide) ?_
              refine aw_iload hX dX2_isRipe_139 rfl ?_
              exact aw_zret hX hr (by decide) dX2_isRipe_141 k
      · have k := k.2 c38
        refine aw_iconst hX dX2_isRipe_55 zk_1 ?_
        refine aw_goto (tgt := 60) hX dX2_isRipe_56 (by decide) ?_
        refine aw_istore (L' := [some (.ref (X.G.ad 2 o0)), some (.int x1), some (.int x2), some (.int v3), some (.int v36), some (.int (0 : Int32)), some (.int (1 : Int32))]) hX dX2_isRipe_60 (Nat.le_of_ble_eq_true rfl) rfl ?_
        refine aw_aload_n hX dX2_isRipe_62 rfl ?_
        refine aw_getr (o' := o0) hX kf_X2_23 sh_2 ho0 rfl (Nat.one_mul o0) dX2_isRipe_63 ?_
        refine aw_iload_n hX dX2_isRipe_66 rfl ?_
        refine aw_aald' (k := (ix x1)) (o' := (10 * o0 + 0 + (ix x1))) (C := "RainLoans$Terms") hX sh_22 ho0 rfl s1 rfl rfl dX2_isRipe_67 ?_
        refine aw_geti hX kf_X2_63 sh_7 w2 rfl dX2_isRipe_68 ?_
        by_cases c46 : (μ.1 7 (10 * o0 + 0 + (ix x1)) 6) = (1 : Int32)
        · have k := k.1 c46
          refine aw_tsIn (tgt := 96) (off := 25) hX dX2_isRipe_71 (by rw [c46]; decide) (by rw [c46]; decide) (by rw [c46]; decide) (by decide) ?_
          refine aw_iload hX dX2_isRipe_96 rfl ?_
          refine aw_if_ne (tgt := 105) hX dX2_isRipe_98 (by decide) (fun c47 => absurd c47 (by decide)) (fun _ => ?_)
          refine aw_iconst hX dX2_isRipe_101 zk_1 ?_
          refine aw_goto (tgt := 106) hX dX2_isRipe_102 (by decide) ?_
          exact aw_zret hX hr (by decide) dX2_isRipe_106 k
        · have k := k.2 c46
          by_cases c48 : (μ.1 7 (10 * o0 + 0 + (ix x1)) 6) = (2 : Int32)
          · have k := k.1 c48
            refine aw_tsIn (tgt := 107) (off := 36) hX dX2_isRipe_71 (by rw [c48]; decide) (by rw [c48]; decide) (by rw [c48]; decide) (by decide) ?_
            refine aw_iload hX dX2_isRipe_107 rfl ?_
            refine aw_if_eq (tgt := 121) hX dX2_isRipe_109 (by decide) (fun _ => ?_) (fun c49 => absurd c49 (by decide))
            refine aw_iconst hX dX2_isRipe_121 zk_0 ?_
            exact aw_zret hX hr (by decide) dX2_isRipe_122 k
          · have k := k.2 c48
            by_cases c50 : (μ.1 7 (10 * o0 + 0 + (ix x1)) 6) = (3 : Int32)
            · have k := k.1 c50
              refine aw_tsIn (tgt := 123) (off := 52) hX dX2_isRipe_71 (by rw [c50]; decide) (by rw [c50]; decide) (by rw [c50]; decide) (by decide) ?_
              refine aw_iload hX dX2_isRipe_123 rfl ?_
              refine aw_if_ne (tgt := 133) hX dX2_isRipe_125 (by decide) (fun c51 => absurd c51 (by decide)) (fun _ => ?_)
              refine aw_iload hX dX2_isRipe_128 rfl ?_
              refine aw_if_eq (tgt := 137) hX dX2_isRipe_130 (by decide) (fun c52 => absurd c52 (by decide)) (fun _ => ?_)
              refine aw_iconst hX dX2_isRipe_133 zk_1 ?_
              refine aw_goto (tgt := 138) hX dX2_isRipe_134 (by decide) ?_
              exact aw_zret hX hr (by decide) dX2_isRipe_138 k
            · have k := k.2 c50
              have qc46 : Int32.toInt (μ.1 7 (10 * o0 + 0 + (ix x1)) 6) ≠ 1 := zne c46
              have qc48 : Int32.toInt (μ.1 7 (10 * o0 + 0 + (ix x1)) 6) ≠ 2 := zne c48
              have qc50 : Int32.toInt (μ.1 7 (10 * o0 + 0 + (ix x1)) 6) ≠ 3 := zne c50
              refine aw_tsOut (tgt := 139) hX dX2_isRipe_71 (by omega) (by decide) ?_
              refine aw_iload hX dX2_isRipe_139 rfl ?_
              exact aw_zret hX hr (by decide) dX2_isRipe_141 k
    · have k := k.2 c37
      refine aw_iconst hX dX2_isRipe_38 zk_1 ?_
      refine aw_goto (tgt := 43) hX dX2_isRipe_39 (by decide) ?_
      refine aw_istore (L' := [some (.ref (X.G.ad 2 o0)), some (.int x1), some (.int x2), some (.int v3), some (.int v36), some (.int (1 : Int32)), none]) hX dX2_isRipe_43 (Nat.le_of_ble_eq_true rfl) rfl ?_
      refine aw_iload_n hX dX2_isRipe_45 rfl ?_
      refine aw_iload hX dX2_isRipe_46 rfl ?_
      refine aw_ishr hX dX2_isRipe_48 ?_
      refine aw_iconst hX dX2_isRipe_49 zk_1 ?_
      refine aw_iand hX dX2_isRipe_50 ?_
      refine aw_iconst hX dX2_isRipe_51 zk_1 ?_
      refine aw_icmp_ne (tgt := 59) hX dX2_isRipe_52 (by decide) (fun c53 => ?_) (fun c53 => ?_)
      · have k := k.1 c53
        refine aw_iconst hX dX2_isRipe_59 zk_0 ?_
        refine aw_istore (L' := [some (.ref (X.G.ad 2 o0)), some (.int x1), some (.int x2), some (.int v3), some (.int v36), some (.int (1 : Int32)), some (.int (0 : Int32))]) hX dX2_isRipe_60 (Nat.le_of_ble_eq_true rfl) rfl ?_
        refine aw_aload_n hX dX2_isRipe_62 rfl ?_
        refine aw_getr (o' := o0) hX kf_X2_23 sh_2 ho0 rfl (Nat.one_mul o0) dX2_isRipe_63 ?_
        refine aw_iload_n hX dX2_isRipe_66 rfl ?_
        refine aw_aald' (k := (ix x1)) (o' := (10 * o0 + 0 + (ix x1))) (C := "RainLoans$Terms") hX sh_22 ho0 rfl s1 rfl rfl dX2_isRipe_67 ?_
        refine aw_geti hX kf_X2_63 sh_7 w2 rfl dX2_isRipe_68 ?_
        by_cases c54 : (μ.1 7 (10 * o0 + 0 + (ix x1)) 6) = (1 : Int32)
        · have k := k.1 c54
          refine aw_tsIn (tgt := 96) (off := 25) hX dX2_isRipe_71 (by rw [c54]; decide) (by rw [c54]; decide) (by rw [c54]; decide) (by decide) ?_
          refine aw_iload hX dX2_isRipe_96 rfl ?_
          refine aw_if_ne (tgt := 105) hX dX2_isRipe_98 (by decide) (fun _ => ?_) (fun c55 => absurd c55 (by decide))
          refine aw_iconst hX dX2_isRipe_105 zk_0 ?_
          exact aw_zret hX hr (by decide) dX2_isRipe_106 k
        · have k := k.2 c54
          by_cases c56 : (μ.1 7 (10 * o0 + 0 + (ix x1)) 6) = (2 : Int32)
          · have k := k.1 c56
            refine aw_tsIn (tgt := 107) (off := 36) hX dX2_isRipe_71 (by rw [c56]; decide) (by rw [c56]; decide) (by rw [c56]; decide) (by decide) ?_
            refine aw_iload hX dX2_isRipe_107 rfl ?_
            refine aw_if_eq (tgt := 121) hX dX2_isRipe_109 (by decide) (fun c57 => absurd c57 (by decide)) (fun _ => ?_)
            refine aw_iload hX dX2_isRipe_112 rfl ?_
            refine aw_if_eq (tgt := 121) hX dX2_isRipe_114 (by decide) (fun _ => ?_) (fun c58 => absurd c58 (by decide))
            refine aw_iconst hX dX2_isRipe_121 zk_0 ?_
            exact aw_zret hX hr (by decide) dX2_isRipe_122 k
          · have k := k.2 c56
            by_cases c59 : (μ.1 7 (10 * o0 + 0 + (ix x1)) 6) = (3 : Int32)
            · have k := k.1 c59
              refine aw_tsIn (tgt := 123) (off := 52) hX dX2_isRipe_71 (by rw [c59]; decide) (by rw [c59]; decide) (by rw [c59]; decide) (by decide) ?_
              refine aw_iload hX dX2_isRipe_123 rfl ?_
              refine aw_if_ne (tgt := 133) hX dX2_isRipe_125 (by decide) (fun _ => ?_) (fun c60 => absurd c60 (by decide))
              refine aw_iconst hX dX2_isRipe_133 zk_1 ?_
              refine aw_goto (tgt := 138) hX dX2_isRipe_134 (by decide) ?_
              exact aw_zret hX hr (by decide) dX2_isRipe_138 k
            · have k := k.2 c59
              have qc54 : Int32.toInt (μ.1 7 (10 * o0 + 0 + (ix x1)) 6) ≠ 1 := zne c54
              have qc56 : Int32.toInt (μ.1 7 (10 * o0 + 0 + (ix x1)) 6) ≠ 2 := zne c56
              have qc59 : Int32.toInt (μ.1 7 (10 * o0 + 0 + (ix x1)) 6) ≠ 3 := zne c59
              refine aw_tsOut (tgt := 139) hX dX2_isRipe_71 (by omega) (by decide) ?_
              refine aw_iload hX dX2_isRipe_139 rfl ?_
              exact aw_zret hX hr (by decide) dX2_isRipe_141 k
      · have k := k.2 c53
        refine aw_iconst hX dX2_isRipe_55 zk_1 ?_
        refine aw_goto (tgt := 60) hX dX2_isRipe_56 (by decide) ?_
        refine aw_istore (L' := [some (.ref (X.G.ad 2 o0)), some (.int x1), some (.int x2), some (.int v3), some (.int v36), some (.int (1 : Int32)), some (.int (1 : Int32))]) hX dX2_isRipe_60 (Nat.le_of_ble_eq_true rfl) rfl ?_
        refine aw_aload_n hX dX2_isRipe_62 rfl ?_
        refine aw_getr (o' := o0) hX kf_X2_23 sh_2 ho0 rfl (Nat.one_mul o0) dX2_isRipe_63 ?_
        refine aw_iload_n hX dX2_isRipe_66 rfl ?_
        refine aw_aald' (k := (ix x1)) (o' := (10 * o0 + 0 + (ix x1))) (C := "RainLoans$Terms") hX sh_22 ho0 rfl s1 rfl rfl dX2_isRipe_67 ?_
        refine aw_geti hX kf_X2_63 sh_7 w2 rfl dX2_isRipe_68 ?_
        by_cases c61 : (μ.1 7 (10 * o0 + 0 + (ix x1)) 6) = (1 : Int32)
        · have k := k.1 c61
          refine aw_tsIn (tgt := 96) (off := 25) hX dX2_isRipe_71 (by rw [c61]; decide) (by rw [c61]; decide) (by rw [c61]; decide) (by decide) ?_
          refine aw_iload hX dX2_isRipe_96 rfl ?_
          refine aw_if_ne (tgt := 105) hX dX2_isRipe_98 (by decide) (fun _ => ?_) (fun c62 => absurd c62 (by decide))
          refine aw_iconst hX dX2_isRipe_105 zk_0 ?_
          exact aw_zret hX hr (by decide) dX2_isRipe_106 k
        · have k := k.2 c61
          by_cases c63 : (μ.1 7 (10 * o0 + 0 + (ix x1)) 6) = (2 : Int32)
          · have k := k.1 c63
            refine aw_tsIn (tgt := 107) (off := 36) hX dX2_isRipe_71 (by rw [c63]; decide) (by rw [c63]; decide) (by rw [c63]; decide) (by decide) ?_
            refine aw_iload hX dX2_isRipe_107 rfl ?_
            refine aw_if_eq (tgt := 121) hX dX2_isRipe_109 (by decide) (fun c64 => absurd c64 (by decide)) (fun _ => ?_)
            refine aw_iload hX dX2_isRipe_112 rfl ?_
            refine aw_if_eq (tgt := 121) hX dX2_isRipe_114 (by decide) (fun c65 => absurd c65 (by decide)) (fun _ => ?_)
            refine aw_iconst hX dX2_isRipe_117 zk_1 ?_
            refine aw_goto (tgt := 122) hX dX2_isRipe_118 (by decide) ?_
            exact aw_zret hX hr (by decide) dX2_isRipe_122 k
          · have k := k.2 c63
            by_cases c66 : (μ.1 7 (10 * o0 + 0 + (ix x1)) 6) = (3 : Int32)
            · have k := k.1 c66
              refine aw_tsIn (tgt := 123) (off := 52) hX dX2_isRipe_71 (by rw [c66]; decide) (by rw [c66]; decide) (by rw [c66]; decide) (by decide) ?_
              refine aw_iload hX dX2_isRipe_123 rfl ?_
              refine aw_if_ne (tgt := 133) hX dX2_isRipe_125 (by decide) (fun _ => ?_) (fun c67 => absurd c67 (by decide))
              refine aw_iconst hX dX2_isRipe_133 zk_1 ?_
              refine aw_goto (tgt := 138) hX dX2_isRipe_134 (by decide) ?_
              exact aw_zret hX hr (by decide) dX2_isRipe_138 k
            · have k := k.2 c66
              have qc61 : Int32.toInt (μ.1 7 (10 * o0 + 0 + (ix x1)) 6) ≠ 1 := zne c61
              have qc63 : Int32.toInt (μ.1 7 (10 * o0 + 0 + (ix x1)) 6) ≠ 2 := zne c63
              have qc66 : Int32.toInt (μ.1 7 (10 * o0 + 0 + (ix x1)) 6) ≠ 3 := zne c66
              refine aw_tsOut (tgt := 139) hX dX2_isRipe_71 (by omega) (by decide) ?_
              refine aw_iload hX dX2_isRipe_139 rfl ?_
              exact aw_zret hX hr (by decide) dX2_isRipe_141 k

set_option maxRecDepth 100000 in
set_option maxHeartbeats 4000000 in
theorem st_X2_oddsOfRain_0 {X : zX} {lv : Nat} {Post : Option Value → zM → Prop} (hX : zOk X cX2_oddsOfRain RX2 3 lv) (hr : zRt X (some .int) Post) {o0 : Nat} (ho0 : o0 < 6) {x1 : Int32} {x2 : Int32} {μ : zM}
    (k : (¬ ((x2 >>> (x1 &&& 31)) &&& (1 : Int32)) = (1 : Int32) → ((vp_in x1 4) ∧ (Post (some (.int (μ.1 19 o0 (ix x1)))) μ))) ∧ (((x2 >>> (x1 &&& 31)) &&& (1 : Int32)) = (1 : Int32) → ((vp_in x1 4) ∧ (Post (some (.int (μ.1 20 o0 (ix x1)))) μ)))) :
    AW X 0 [some (.ref (X.G.ad 2 o0)), some (.int x1), some (.int x2)] [] μ := by
  refine aw_iload_n hX dX2_oddsOfRain_0 rfl ?_
  refine aw_iload_n hX dX2_oddsOfRain_1 rfl ?_
  refine aw_ishr hX dX2_oddsOfRain_2 ?_
  refine aw_iconst hX dX2_oddsOfRain_3 zk_1 ?_
  refine aw_iand hX dX2_oddsOfRain_4 ?_
  refine aw_iconst hX dX2_oddsOfRain_5 zk_1 ?_
  refine aw_icmp_ne (tgt := 18) hX dX2_oddsOfRain_6 (by decide) (fun c1 => ?_) (fun c1 => ?_)
  · have k := k.1 c1
    refine aw_aload_n hX dX2_oddsOfRain_18 rfl ?_
    refine aw_getr (o' := o0) hX kf_X2_9 sh_2 ho0 rfl (Nat.one_mul o0) dX2_oddsOfRain_19 ?_
    refine aw_iload_n hX dX2_oddsOfRain_22 rfl ?_
    have s2 := k.1
    have k := k.2
    refine aw_iald' (k := (ix x1)) hX sh_19 ho0 s2 rfl dX2_oddsOfRain_23 ?_
    exact aw_iret hX hr dX2_oddsOfRain_24 k
  · have k := k.2 c1
    refine aw_aload_n hX dX2_oddsOfRain_9 rfl ?_
    refine aw_getr (o' := o0) hX kf_X2_15 sh_2 ho0 rfl (Nat.one_mul o0) dX2_oddsOfRain_10 ?_
    refine aw_iload_n hX dX2_oddsOfRain_13 rfl ?_
    have s3 := k.1
    have k := k.2
    refine aw_iald' (k := (ix x1)) hX sh_20 ho0 s3 rfl dX2_oddsOfRain_14 ?_
    refine aw_goto (tgt := 24) hX dX2_oddsOfRain_15 (by decide) ?_
    exact aw_iret hX hr dX2_oddsOfRain_24 k

set_option maxRecDepth 100000 in
set_option maxHeartbeats 4000000 in
theorem st_X2_oddsOf_0 {X : zX} {lv : Nat} {Post : Option Value → zM → Prop} (hX : zOk X cX2_oddsOf RX2 7 lv) (hr : zRt X (some .long) Post) {o0 : Nat} (ho0 : o0 < 6) {x1 : Int32} {x2 : Int32} {μ : zM}
    (k : AW X 5 [some (.ref (X.G.ad 2 o0)), some (.int x1), some (.int x2), some (.long (1 : Int64)), none, some (.int (0 : Int32)), none] [] μ) :
    AW X 0 [some (.ref (X.G.ad 2 o0)), some (.int x1), some (.int x2), none, none, none, none] [] μ := by
  refine aw_lconst (v := (1 : Int64)) hX dX2_oddsOf_0 (by decide) ?_
  refine aw_lstore_n (L' := [some (.ref (X.G.ad 2 o0)), some (.int x1), some (.int x2), some (.long (1 : Int64)), none, none, none]) hX dX2_oddsOf_1 (Nat.le_of_ble_eq_true rfl) rfl ?_
  refine aw_iconst hX dX2_oddsOf_2 zk_0 ?_
  refine aw_istore (L' := [some (.ref (X.G.ad 2 o0)), some (.int x1), some (.int x2), some (.long (1 : Int64)), none, some (.int (0 : Int32)), none]) hX dX2_oddsOf_3 (Nat.le_of_ble_eq_true rfl) rfl ?_
  exact k

set_option maxRecDepth 100000 in
set_option maxHeartbeats 4000000 in
theorem st_X2_oddsOf_5 {X : zX} {lv : Nat} {Post : Option Value → zM → Prop} (hX : zOk X cX2_oddsOf RX2 7 lv) (hr : zRt X (some .long) Post) {o0 : Nat} (ho0 : o0 < 6) {x1 : Int32} {x2 : Int32} {x3 : Int64} {x5 : Int32} {μ : zM}
    (k : ((μ.1 2 o0 0) ≤ x5 → (Post (some (.long x3)) μ)) ∧ (¬ (μ.1 2 o0 0) ≤ x5 → (zCallI X lv yX2_oddsOfRain cX2_oddsOfRain 3 (some .int) [.ref (X.G.ad 2 o0), .int x5, .int x2] μ (fun (r2 : Int32) μ3 => (¬ ((x1 >>> (x5 &&& 31)) &&& (1 : Int32)) = (1 : Int32) → (∀ v5 : Int64, v5 = (x3 * (Int32.toInt64 ((8 : Int32) - r2))) → (∀ v6 : Int32, v6 = x5 + (1 : Int32) → (AW X 5 [some (.ref (X.G.ad 2 o0)), some (.int x1), some (.int x2), some (.long v5), none, some (.int v6), none] [] μ3)))) ∧ (((x1 >>> (x5 &&& 31)) &&& (1 : Int32)) = (1 : Int32) → (∀ v7 : Int64, v7 = (x3 * (Int32.toInt64 r2)) → (∀ v8 : Int32, v8 = x5 + (1 : Int32) → (AW X 5 [some (.ref (X.G.ad 2 o0)), some (.int x1), some (.int x2), some (.long v7), none, some (.int v8), none] [] μ3)))))))) :
    AW X 5 [some (.ref (X.G.ad 2 o0)), some (.int x1), some (.int x2), some (.long x3), none, some (.int x5), none] [] μ := by
  refine aw_iload hX dX2_oddsOf_5 rfl ?_
  refine aw_aload_n hX dX2_oddsOf_7 rfl ?_
  refine aw_geti hX kf_X2_37 sh_2 ho0 rfl dX2_oddsOf_8 ?_
  refine aw_icmp_ge (tgt := 54) hX dX2_oddsOf_11 (by decide) (fun c1 => ?_) (fun c1 => ?_)
  · have k := k.1 c1
    refine aw_lload_n hX dX2_oddsOf_54 rfl ?_
    exact aw_lret hX hr dX2_oddsOf_55 k
  · have k := k.2 c1
    refine aw_aload_n hX dX2_oddsOf_14 rfl ?_
    refine aw_iload hX dX2_oddsOf_15 rfl ?_
    refine aw_iload_n hX dX2_oddsOf_17 rfl ?_
    refine aw_invI (As := [.int x5, .int x2]) (rest := []) (κ := 2) (o := o0) (T := TX2) (N := 11) hX vc_X2_66 sh_2 ho0 rfl rfl rfl (Nat.le_of_ble_eq_true rfl) dX2_oddsOf_18 k (fun r2 μ3 k => ?_)
    refine aw_istore (L' := [some (.ref (X.G.ad 2 o0)), some (.int x1), some (.int x2), some (.long x3), none, some (.int x5), some (.int r2)]) hX dX2_oddsOf_21 (Nat.le_of_ble_eq_true rfl) rfl ?_
    refine aw_lload_n hX dX2_oddsOf_23 rfl ?_
    refine aw_iload_n hX dX2_oddsOf_24 rfl ?_
    refine aw_iload hX dX2_oddsOf_25 rfl ?_
    refine aw_ishr hX dX2_oddsOf_27 ?_
    refine aw_iconst hX dX2_oddsOf_28 zk_1 ?_
    refine aw_iand hX dX2_oddsOf_29 ?_
    refine aw_iconst hX dX2_oddsOf_30 zk_1 ?_
    refine aw_icmp_ne (tgt := 40) hX dX2_oddsOf_31 (by decide) (fun c4 => ?_) (fun c4 => ?_)
    · have k := k.1 c4
      refine aw_bipush hX dX2_oddsOf_40 zb_8 ?_
      refine aw_iload hX dX2_oddsOf_42 rfl ?_
      refine aw_isub hX dX2_oddsOf_44 ?_
      refine aw_i2l hX dX2_oddsOf_45 ?_
      refine aw_lmul hX dX2_oddsOf_46 ?_
      refine aw_topl (fun v5 ev5 => ?_)
      have k := k v5 ev5
      refine aw_lstore_n (L' := [some (.ref (X.G.ad 2 o0)), some (.int x1), some (.int x2), some (.long v5), none, some (.int x5), some (.int r2)]) hX dX2_oddsOf_47 (Nat.le_of_ble_eq_true rfl) rfl ?_
      obtain ⟨v6, ev6⟩ : ∃ y : Int32, y = x5 + (1 : Int32) := ⟨_, rfl⟩
      have k := k v6 ev6
      refine aw_iinc (v := v6) (L' := [some (.ref (X.G.ad 2 o0)), some (.int x1), some (.int x2), some (.long v5), none, some (.int v6), some (.int r2)]) hX dX2_oddsOf_48 rfl (by rw [ev6]; rfl) (Nat.le_of_ble_eq_true rfl) rfl ?_
      refine aw_goto (tgt := 5) hX dX2_oddsOf_51 (by decide) ?_
      exact aw_less (zle_s (zle_s (zle_s (zle_s (zle_o (zle_s (zle_o zle_n))))))) k
    · have k := k.2 c4
      refine aw_iload hX dX2_oddsOf_34 rfl ?_
      refine aw_i2l hX dX2_oddsOf_36 ?_
      refine aw_goto (tgt := 46) hX dX2_oddsOf_37 (by decide) ?_
      refine aw_lmul hX dX2_oddsOf_46 ?_
      refine aw_topl (fun v7 ev7 => ?_)
      have k := k v7 ev7
      refine aw_lstore_n (L' := [some (.ref (X.G.ad 2 o0)), some (.int x1), some (.int x2), some (.long v7), none, some (.int x5), some (.int r2)]) hX dX2_oddsOf_47 (Nat.le_of_ble_eq_true rfl) rfl ?_
      obtain ⟨v8, ev8⟩ : ∃ y : Int32, y = x5 + (1 : Int32) := ⟨_, rfl⟩
      have k := k v8 ev8
      refine aw_iinc (v := v8) (L' := [some (.ref (X.G.ad 2 o0)), some (.int x1), some (.int x2), some (.long v7), none, some (.int v8), some (.int r2)]) hX dX2_oddsOf_48 rfl (by rw [ev8]; rfl) (Nat.le_of_ble_eq_true rfl) rfl ?_
      refine aw_goto (tgt := 5) hX dX2_oddsOf_51 (by decide) ?_
      exact aw_less (zle_s (zle_s (zle_s (zle_s (zle_o (zle_s (zle_o zle_n))))))) k

set_option maxRecDepth 100000 in
set_option maxHeartbeats 4000000 in
theorem st_X2_gainOf_0 {X : zX} {lv : Nat} {Post : Option Value → zM → Prop} (hX : zOk X cX2_gainOf RX2 5 lv) (hr : zRt X (some .int) Post) {o0 : Nat} (ho0 : o0 < 6) {x1 : Int32} {x2 : Int32} {μ : zM}
    (k : AW X 5 [some (.ref (X.G.ad 2 o0)), some (.int x1), some (.int x2), some (.int (0 : Int32)), some (.int (0 : Int32))] [] μ) :
    AW X 0 [some (.ref (X.G.ad 2 o0)), some (.int x1), some (.int x2), none, none] [] μ := by
  refine aw_iconst hX dX2_gainOf_0 zk_0 ?_
  refine aw_istore_n (L' := [some (.ref (X.G.ad 2 o0)), some (.int x1), some (.int x2), some (.int (0 : Int32)), none]) hX dX2_gainOf_1 (Nat.le_of_ble_eq_true rfl) rfl ?_
  refine aw_iconst hX dX2_gainOf_2 zk_0 ?_
  refine aw_istore (L' := [some (.ref (X.G.ad 2 o0)), some (.int x1), some (.int x2), some (.int (0 : Int32)), some (.int (0 : Int32))]) hX dX2_gainOf_3 (Nat.le_of_ble_eq_true rfl) rfl ?_
  exact k

set_option maxRecDepth 100000 in
set_option maxHeartbeats 4000000 in
theorem st_X2_gainOf_5 {X : zX} {lv : Nat} {Post : Option Value → zM → Prop} (hX : zOk X cX2_gainOf RX2 5 lv) (hr : zRt X (some .int) Post) {o0 : Nat} (ho0 : o0 < 6) {x1 : Int32} {x2 : Int32} {x3 : Int32} {x4 : Int32} {μ : zM}
    (k : ((μ.1 2 o0 3) ≤ x4 → (Post (some (.int x3)) μ)) ∧ (¬ (μ.1 2 o0 3) ≤ x4 → ((¬ ((x1 >>> (x4 &&& 31)) &&& (1 : Int32)) = (1 : Int32) → (∀ v3 : Int32, v3 = x4 + (1 : Int32) → (AW X 5 [some (.ref (X.G.ad 2 o0)), some (.int x1), some (.int x2), some (.int x3), some (.int v3)] [] μ))) ∧ (((x1 >>> (x4 &&& 31)) &&& (1 : Int32)) = (1 : Int32) → ((vp_in x4 8) ∧ (∀ v5 : Int32, v5 = (x3 - (μ.1 23 o0 (ix x4))) → ((¬ (((μ.1 25 o0 (ix x4)) >>> (x2 &&& 31)) &&& (1 : Int32)) = (1 : Int32) → (∀ v7 : Int32, v7 = (v5 + (0 : Int32)) → (∀ v8 : Int32, v8 = x4 + (1 : Int32) → (AW X 5 [some (.ref (X.G.ad 2 o0)), some (.int x1), some (.int x2), some (.int v7), some (.int v8)] [] μ)))) ∧ ((((μ.1 25 o0 (ix x4)) >>> (x2 &&& 31)) &&& (1 : Int32)) = (1 : Int32) → (∀ v9 : Int32, v9 = (v5 + (μ.1 24 o0 (ix x4))) → (∀ v10 : Int32, v10 = x4 + (1 : Int32) → (AW X 5 [some (.ref (X.G.ad 2 o0)), some (.int x1), some (.int x2), some (.int v9), some (.int v10)] [] μ))))))))))) :
    AW X 5 [some (.ref (X.G.ad 2 o0)), some (.int x1), some (.int x2), some (.int x3), some (.int x4)] [] μ := by
  refine aw_iload hX dX2_gainOf_5 rfl ?_
  refine aw_aload_n hX dX2_gainOf_7 rfl ?_
  refine aw_geti hX kf_X2_47 sh_2 ho0 rfl dX2_gainOf_8 ?_
  refine aw_icmp_ge (tgt := 69) hX dX2_gainOf_11 (by decide) (fun c1 => ?_) (fun c1 => ?_)
  · have k := k.1 c1
    refine aw_iload_n hX dX2_gainOf_69 rfl ?_
    exact aw_iret hX hr dX2_gainOf_70 k
  · have k := k.2 c1
    refine aw_iload_n hX dX2_gainOf_14 rfl ?_
    refine aw_iload hX dX2_gainOf_15 rfl ?_
    refine aw_ishr hX dX2_gainOf_17 ?_
    refine aw_iconst hX dX2_gainOf_18 zk_1 ?_
    refine aw_iand hX dX2_gainOf_19 ?_
    refine aw_iconst hX dX2_gainOf_20 zk_1 ?_
    refine aw_icmp_ne (tgt := 63) hX dX2_gainOf_21 (by decide) (fun c2 => ?_) (fun c2 => ?_)
    · have k := k.1 c2
      obtain ⟨v3, ev3⟩ : ∃ y : Int32, y = x4 + (1 : Int32) := ⟨_, rfl⟩
      have k := k v3 ev3
      refine aw_iinc (v := v3) (L' := [some (.ref (X.G.ad 2 o0)), some (.int x1), some (.int x2), some (.int x3), some (.int v3)]) hX dX2_gainOf_63 rfl (by rw [ev3]; rfl) (Nat.le_of_ble_eq_true rfl) rfl ?_
      refine aw_goto (tgt := 5) hX dX2_gainOf_66 (by decide) ?_
      exact k
    · have k := k.2 c2
      refine aw_iload_n hX dX2_gainOf_24 rfl ?_
      refine aw_aload_n hX dX2_gainOf_25 rfl ?_
      refine aw_getr (o' := o0) hX kf_X2_28 sh_2 ho0 rfl (Nat.one_mul o0) dX2_gainOf_26 ?_
      refine aw_iload hX dX2_gainOf_29 rfl ?_
      have s4 := k.1
      have k := k.2
      refine aw_iald' (k := (ix x4)) hX sh_23 ho0 s4 rfl dX2_gainOf_31 ?_
      refine aw_isub hX dX2_gainOf_32 ?_
      refine aw_topi (fun v5 ev5 => ?_)
      have k := k v5 ev5
      refine aw_istore_n (L' := [some (.ref (X.G.ad 2 o0)), some (.int x1), some (.int x2), some (.int v5), some (.int x4)]) hX dX2_gainOf_33 (Nat.le_of_ble_eq_true rfl) rfl ?_
      refine aw_iload_n hX dX2_gainOf_34 rfl ?_
      refine aw_aload_n hX dX2_gainOf_35 rfl ?_
      refine aw_getr (o' := o0) hX kf_X2_34 sh_2 ho0 rfl (Nat.one_mul o0) dX2_gainOf_36 ?_
      refine aw_iload hX dX2_gainOf_39 rfl ?_
      refine aw_iald' (k := (ix x4)) hX sh_25 ho0 s4 rfl dX2_gainOf_41 ?_
      refine aw_iload_n hX dX2_gainOf_42 rfl ?_
      refine aw_ishr hX dX2_gainOf_43 ?_
      refine aw_iconst hX dX2_gainOf_44 zk_1 ?_
      refine aw_iand hX dX2_gainOf_45 ?_
      refine aw_iconst hX dX2_gainOf_46 zk_1 ?_
      refine aw_icmp_ne (tgt := 60) hX dX2_gainOf_47 (by decide) (fun c6 => ?_) (fun c6 => ?_)
      · have k := k.1 c6
        refine aw_iconst hX dX2_gainOf_60 zk_0 ?_
        refine aw_iadd hX dX2_gainOf_61 ?_
        refine aw_topi (fun v7 ev7 => ?_)
        have k := k v7 ev7
        refine aw_istore_n (L' := [some (.ref (X.G.ad 2 o0)), some (.int x1), some (.int x2), some (.int v7), some (.int x4)]) hX dX2_gainOf_62 (Nat.le_of_ble_eq_true rfl) rfl ?_
        obtain ⟨v8, ev8⟩ : ∃ y : Int32, y = x4 + (1 : Int32) := ⟨_, rfl⟩
        have k := k v8 ev8
        refine aw_iinc (v := v8) (L' := [some (.ref (X.G.ad 2 o0)), some (.int x1), some (.int x2), some (.int v7), some (.int v8)]) hX dX2_gainOf_63 rfl (by rw [ev8]; rfl) (Nat.le_of_ble_eq_true rfl) rfl ?_
        refine aw_goto (tgt := 5) hX dX2_gainOf_66 (by decide) ?_
        exact k
      · have k := k.2 c6
        refine aw_aload_n hX dX2_gainOf_50 rfl ?_
        refine aw_getr (o' := o0) hX kf_X2_31 sh_2 ho0 rfl (Nat.one_mul o0) dX2_gainOf_51 ?_
        refine aw_iload hX dX2_gainOf_54 rfl ?_
        refine aw_iald' (k := (ix x4)) hX sh_24 ho0 s4 rfl dX2_gainOf_56 ?_
        refine aw_goto (tgt := 61) hX dX2_gainOf_57 (by decide) ?_
        refine aw_iadd hX dX2_gainOf_61 ?_
        refine aw_topi (fun v9 ev9 => ?_)
        have k := k v9 ev9
        refine aw_istore_n (L' := [some (.ref (X.G.ad 2 o0)), some (.int x1), some (.int x2), some (.int v9), some (.int x4)]) hX dX2_gainOf_62 (Nat.le_of_ble_eq_true rfl) rfl ?_
        obtain ⟨v10, ev10⟩ : ∃ y : Int32, y = x4 + (1 : Int32) := ⟨_, rfl⟩
        have k := k v10 ev10
        refine aw_iinc (v := v10) (L' := [some (.ref (X.G.ad 2 o0)), some (.int x1), some (.int x2), some (.int v9), some (.int v10)]) hX dX2_gainOf_63 rfl (by rw [ev10]; rfl) (Nat.le_of_ble_eq_true rfl) rfl ?_
        refine aw_goto (tgt := 5) hX dX2_gainOf_66 (by decide) ?_
        exact k

set_option maxRecDepth 100000 in
set_option maxHeartbeats 4000000 in
theorem st_X2_leastGain_0 {X : zX} {lv : Nat} {Post : Option Value → zM → Prop} (hX : zOk X cX2_leastGain RX2 4 lv) (hr : zRt X (some .int) Post) {o0 : Nat} (ho0 : o0 < 6) {x1 : Int32} {μ : zM}
    (k : zCallI X lv yX2_gainOf cX2_gainOf 5 (some .int) [.ref (X.G.ad 2 o0), .int x1, .int (0 : Int32)] μ (fun (r1 : Int32) μ2 => AW X 9 [some (.ref (X.G.ad 2 o0)), some (.int x1), some (.int r1), some (.int (1 : Int32))] [] μ2)) :
    AW X 0 [some (.ref (X.G.ad 2 o0)), some (.int x1), none, none] [] μ := by
  refine aw_aload_n hX dX2_leastGain_0 rfl ?_
  refine aw_iload_n hX dX2_leastGain_1 rfl ?_
  refine aw_iconst hX dX2_leastGain_2 zk_0 ?_
  refine aw_invI (As := [.int x1, .int (0 : Int32)]) (rest := []) (κ := 2) (o := o0) (T := TX2) (N := 11) hX vc_X2_70 sh_2 ho0 rfl rfl rfl (Nat.le_of_ble_eq_true rfl) dX2_leastGain_3 k (fun r1 μ2 k => ?_)
  refine aw_istore_n (L' := [some (.ref (X.G.ad 2 o0)), some (.int x1), some (.int r1), none]) hX dX2_leastGain_6 (Nat.le_of_ble_eq_true rfl) rfl ?_
  refine aw_iconst hX dX2_leastGain_7 zk_1 ?_
  refine aw_istore_n (L' := [some (.ref (X.G.ad 2 o0)), some (.int x1), some (.int r1), some (.int (1 : Int32))]) hX dX2_leastGain_8 (Nat.le_of_ble_eq_true rfl) rfl ?_
  exact k

set_option maxRecDepth 100000 in
set_option maxHeartbeats 4000000 in
theorem st_X2_leastGain_9 {X : zX} {lv : Nat} {Post : Option Value → zM → Prop} (hX : zOk X cX2_leastGain RX2 4 lv) (hr : zRt X (some .int) Post) {o0 : Nat} (ho0 : o0 < 6) {x1 : Int32} {x2 : Int32} {x3 : Int32} {μ : zM}
    (k : (((1 : Int32) <<< ((μ.1 2 o0 0) &&& 31)) ≤ x3 → (Post (some (.int x2)) μ)) ∧ (¬ ((1 : Int32) <<< ((μ.1 2 o0 0) &&& 31)) ≤ x3 → (zCallI X lv yX2_gainOf cX2_gainOf 5 (some .int) [.ref (X.G.ad 2 o0), .int x1, .int x3] μ (fun (r2 : Int32) μ3 => (0 < lv) ∧ (∀ v5 : Int32, v5 = (if r2 < x2 then r2 else x2) → (∀ v6 : Int32, v6 = x3 + (1 : Int32) → (AW X 9 [some (.ref (X.G.ad 2 o0)), some (.int x1), some (.int v5), some (.int v6)] [] μ3))))))) :
    AW X 9 [some (.ref (X.G.ad 2 o0)), some (.int x1), some (.int x2), some (.int x3)] [] μ := by
  refine aw_iload_n hX dX2_leastGain_9 rfl ?_
  refine aw_iconst hX dX2_leastGain_10 zk_1 ?_
  refine aw_aload_n hX dX2_leastGain_11 rfl ?_
  refine aw_geti hX kf_X2_37 sh_2 ho0 rfl dX2_leastGain_12 ?_
  refine aw_ishl hX dX2_leastGain_15 ?_
  refine aw_icmp_ge (tgt := 36) hX dX2_leastGain_16 (by decide) (fun c1 => ?_) (fun c1 => ?_)
  · have k := k.1 c1
    refine aw_iload_n hX dX2_leastGain_36 rfl ?_
    exact aw_iret hX hr dX2_leastGain_37 k
  · have k := k.2 c1
    refine aw_iload_n hX dX2_leastGain_19 rfl ?_
    refine aw_aload_n hX dX2_leastGain_20 rfl ?_
    refine aw_iload_n hX dX2_leastGain_21 rfl ?_
    refine aw_iload_n hX dX2_leastGain_22 rfl ?_
    refine aw_invI (As := [.int x1, .int x3]) (rest := [.int x2]) (κ := 2) (o := o0) (T := TX2) (N := 11) hX vc_X2_70 sh_2 ho0 rfl rfl rfl (Nat.le_of_ble_eq_true rfl) dX2_leastGain_23 k (fun r2 μ3 k => ?_)
    have s4 := k.1
    have k := k.2
    refine aw_minG gx_mi hX km_X2_73 s4 (Nat.le_of_ble_eq_true rfl) dX2_leastGain_26 ?_
    refine aw_topi (fun v5 ev5 => ?_)
    have k := k v5 ev5
    refine aw_istore_n (L' := [some (.ref (X.G.ad 2 o0)), some (.int x1), some (.int v5), some (.int x3)]) hX dX2_leastGain_29 (Nat.le_of_ble_eq_true rfl) rfl ?_
    obtain ⟨v6, ev6⟩ : ∃ y : Int32, y = x3 + (1 : Int32) := ⟨_, rfl⟩
    have k := k v6 ev6
    refine aw_iinc (v := v6) (L' := [some (.ref (X.G.ad 2 o0)), some (.int x1), some (.int v5), some (.int v6)]) hX dX2_leastGain_30 rfl (by rw [ev6]; rfl) (Nat.le_of_ble_eq_true rfl) rfl ?_
    refine aw_goto (tgt := 9) hX dX2_leastGain_33 (by decide) ?_
    exact k

