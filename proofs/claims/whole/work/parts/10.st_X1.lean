set_option maxRecDepth 100000 in
set_option maxHeartbeats 4000000 in
theorem st_X1_open_0 {X : zX} {lv : Nat} {Post : Option Value → zM → Prop} (hX : zOk X cX1_open RX1 3 lv) (hr : zRt X none Post) {o0 : Nat} (ho0 : o0 < 49) {o1 : Nat} (ho1 : o1 < 6)  {μ : zM}
    (k : ∀ μ1 : zM, μ1 = pI μ 1 o0 0 (0 : Int32) → (∀ μ2 : zM, μ2 = pI μ1 1 o0 1 (0 : Int32) → (∀ μ3 : zM, μ3 = pI μ2 1 o0 2 (0 : Int32) → (∀ μ4 : zM, μ4 = pI μ3 1 o0 3 (0 : Int32) → (AW X 22 [some (.ref (X.G.ad 1 o0)), some (.ref (X.G.ad 2 o1)), some (.int (0 : Int32))] [] μ4))))) :
    AW X 0 [some (.ref (X.G.ad 1 o0)), some (.ref (X.G.ad 2 o1)), none] [] μ := by
  refine aw_aload_n hX dX1_open_0 rfl ?_
  refine aw_iconst hX dX1_open_1 zk_0 ?_
  refine aw_puti hX kp_X1_27 sh_1 ho0 rfl rfl rfl dX1_open_2 ?_
  refine aw_mem (fun μ1 eμ1 => ?_)
  have k := k μ1 eμ1
  refine aw_aload_n hX dX1_open_5 rfl ?_
  refine aw_iconst hX dX1_open_6 zk_0 ?_
  refine aw_puti hX kp_X1_31 sh_1 ho0 rfl rfl rfl dX1_open_7 ?_
  refine aw_mem (fun μ2 eμ2 => ?_)
  have k := k μ2 eμ2
  refine aw_aload_n hX dX1_open_10 rfl ?_
  refine aw_iconst hX dX1_open_11 zk_0 ?_
  refine aw_puti hX kp_X1_34 sh_1 ho0 rfl rfl rfl dX1_open_12 ?_
  refine aw_mem (fun μ3 eμ3 => ?_)
  have k := k μ3 eμ3
  refine aw_aload_n hX dX1_open_15 rfl ?_
  refine aw_iconst hX dX1_open_16 zk_0 ?_
  refine aw_puti hX kp_X1_37 sh_1 ho0 rfl rfl rfl dX1_open_17 ?_
  refine aw_mem (fun μ4 eμ4 => ?_)
  have k := k μ4 eμ4
  refine aw_iconst hX dX1_open_20 zk_0 ?_
  refine aw_istore_n (L' := [some (.ref (X.G.ad 1 o0)), some (.ref (X.G.ad 2 o1)), some (.int (0 : Int32))]) hX dX1_open_21 (Nat.le_of_ble_eq_true rfl) rfl ?_
  exact k

set_option maxRecDepth 100000 in
set_option maxHeartbeats 4000000 in
theorem st_X1_open_22 {X : zX} {lv : Nat} {Post : Option Value → zM → Prop} (hX : zOk X cX1_open RX1 3 lv) (hr : zRt X none Post) {o0 : Nat} (ho0 : o0 < 49) {o1 : Nat} (ho1 : o1 < 6) {x2 : Int32} {μ : zM}
    (k : ((μ.1 2 o1 1) ≤ x2 → (AW X 50 [some (.ref (X.G.ad 1 o0)), some (.ref (X.G.ad 2 o1)), some (.int (0 : Int32))] [] μ)) ∧ (¬ (μ.1 2 o1 1) ≤ x2 → ((vp_in x2 6) ∧ (∀ μ3 : zM, μ3 = pI μ 14 o0 (ix x2) (μ.1 21 o1 (ix x2)) → (∀ v4 : Int32, v4 = x2 + (1 : Int32) → (AW X 22 [some (.ref (X.G.ad 1 o0)), some (.ref (X.G.ad 2 o1)), some (.int v4)] [] μ3)))))) :
    AW X 22 [some (.ref (X.G.ad 1 o0)), some (.ref (X.G.ad 2 o1)), some (.int x2)] [] μ := by
  refine aw_iload_n hX dX1_open_22 rfl ?_
  refine aw_aload_n hX dX1_open_23 rfl ?_
  refine aw_geti hX kf_X1_40 sh_2 ho1 rfl dX1_open_24 ?_
  refine aw_icmp_ge (tgt := 48) hX dX1_open_27 (by decide) (fun c1 => ?_) (fun c1 => ?_)
  · have k := k.1 c1
    refine aw_iconst hX dX1_open_48 zk_0 ?_
    refine aw_istore_n (L' := [some (.ref (X.G.ad 1 o0)), some (.ref (X.G.ad 2 o1)), some (.int (0 : Int32))]) hX dX1_open_49 (Nat.le_of_ble_eq_true rfl) rfl ?_
    exact k
  · have k := k.2 c1
    refine aw_aload_n hX dX1_open_30 rfl ?_
    refine aw_getr (o' := o0) hX kf_X1_9 sh_1 ho0 rfl (Nat.one_mul o0) dX1_open_31 ?_
    refine aw_iload_n hX dX1_open_34 rfl ?_
    refine aw_aload_n hX dX1_open_35 rfl ?_
    refine aw_getr (o' := o1) hX kf_X1_45 sh_2 ho1 rfl (Nat.one_mul o1) dX1_open_36 ?_
    refine aw_iload_n hX dX1_open_39 rfl ?_
    have s2 := k.1
    have k := k.2
    refine aw_iald' (k := (ix x2)) hX sh_21 ho1 s2 rfl dX1_open_40 ?_
    refine aw_iast' (k := (ix x2)) hX sh_14 ho0 s2 rfl dX1_open_41 ?_
    refine aw_mem (fun μ3 eμ3 => ?_)
    have k := k μ3 eμ3
    obtain ⟨v4, ev4⟩ : ∃ y : Int32, y = x2 + (1 : Int32) := ⟨_, rfl⟩
    have k := k v4 ev4
    refine aw_iinc (v := v4) (L' := [some (.ref (X.G.ad 1 o0)), some (.ref (X.G.ad 2 o1)), some (.int v4)]) hX dX1_open_42 rfl (by rw [ev4]; rfl) (Nat.le_of_ble_eq_true rfl) rfl ?_
    refine aw_goto (tgt := 22) hX dX1_open_45 (by decide) ?_
    exact k

set_option maxRecDepth 100000 in
set_option maxHeartbeats 4000000 in
theorem st_X1_open_50 {X : zX} {lv : Nat} {Post : Option Value → zM → Prop} (hX : zOk X cX1_open RX1 3 lv) (hr : zRt X none Post) {o0 : Nat} (ho0 : o0 < 49) {o1 : Nat} (ho1 : o1 < 6) {x2 : Int32} {μ : zM}
    (k : ((μ.1 2 o1 2) ≤ x2 → (Post none μ)) ∧ (¬ (μ.1 2 o1 2) ≤ x2 → ((vp_in x2 10) ∧ (∀ μ4 : zM, μ4 = pI μ 15 o0 (ix x2) (μ.1 7 (10 * o1 + 0 + (ix x2)) 2) → (∀ μ5 : zM, μ5 = pI μ4 16 o0 (ix x2) (0 : Int32) → (∀ μ6 : zM, μ6 = pI μ5 17 o0 (ix x2) (0 : Int32) → (∀ μ7 : zM, μ7 = pI μ6 18 o0 (ix x2) (0 : Int32) → (∀ v8 : Int32, v8 = x2 + (1 : Int32) → (AW X 50 [some (.ref (X.G.ad 1 o0)), some (.ref (X.G.ad 2 o1)), some (.int v8)] [] μ7))))))))) :
    AW X 50 [some (.ref (X.G.ad 1 o0)), some (.ref (X.G.ad 2 o1)), some (.int x2)] [] μ := by
  refine aw_iload_n hX dX1_open_50 rfl ?_
  refine aw_aload_n hX dX1_open_51 rfl ?_
  refine aw_geti hX kf_X1_48 sh_2 ho1 rfl dX1_open_52 ?_
  refine aw_icmp_ge (tgt := 100) hX dX1_open_55 (by decide) (fun c1 => ?_) (fun c1 => ?_)
  · have k := k.1 c1
    exact aw_vret hX hr dX1_open_100 k
  · have k := k.2 c1
    refine aw_aload_n hX dX1_open_58 rfl ?_
    refine aw_getr (o' := o0) hX kf_X1_15 sh_1 ho0 rfl (Nat.one_mul o0) dX1_open_59 ?_
    refine aw_iload_n hX dX1_open_62 rfl ?_
    refine aw_aload_n hX dX1_open_63 rfl ?_
    refine aw_getr (o' := o1) hX kf_X1_51 sh_2 ho1 rfl (Nat.one_mul o1) dX1_open_64 ?_
    refine aw_iload_n hX dX1_open_67 rfl ?_
    have s2 := k.1
    have k := k.2
    refine aw_aald' (k := (ix x2)) (o' := (10 * o1 + 0 + (ix x2))) (C := "RainLoans$Terms") hX sh_22 ho1 rfl s2 rfl rfl dX1_open_68 ?_
    have w3 : (10 * o1 + 0 + (ix x2)) < 60 := by have := zix s2; omega
    refine aw_geti hX kf_X1_55 sh_7 w3 rfl dX1_open_69 ?_
    refine aw_iast' (k := (ix x2)) hX sh_15 ho0 s2 rfl dX1_open_72 ?_
    refine aw_mem (fun μ4 eμ4 => ?_)
    have k := k μ4 eμ4
    refine aw_aload_n hX dX1_open_73 rfl ?_
    refine aw_getr (o' := o0) hX kf_X1_18 sh_1 ho0 rfl (Nat.one_mul o0) dX1_open_74 ?_
    refine aw_iload_n hX dX1_open_77 rfl ?_
    refine aw_iconst hX dX1_open_78 zk_0 ?_
    refine aw_iast' (k := (ix x2)) hX sh_16 ho0 s2 rfl dX1_open_79 ?_
    refine aw_mem (fun μ5 eμ5 => ?_)
    have k := k μ5 eμ5
    refine aw_aload_n hX dX1_open_80 rfl ?_
    refine aw_getr (o' := o0) hX kf_X1_21 sh_1 ho0 rfl (Nat.one_mul o0) dX1_open_81 ?_
    refine aw_iload_n hX dX1_open_84 rfl ?_
    refine aw_iconst hX dX1_open_85 zk_0 ?_
    refine aw_iast' (k := (ix x2)) hX sh_17 ho0 s2 rfl dX1_open_86 ?_
    refine aw_mem (fun μ6 eμ6 => ?_)
    have k := k μ6 eμ6
    refine aw_aload_n hX dX1_open_87 rfl ?_
    refine aw_getr (o' := o0) hX kf_X1_24 sh_1 ho0 rfl (Nat.one_mul o0) dX1_open_88 ?_
    refine aw_iload_n hX dX1_open_91 rfl ?_
    refine aw_iconst hX dX1_open_92 zk_0 ?_
    refine aw_iast' (k := (ix x2)) hX sh_18 ho0 s2 rfl dX1_open_93 ?_
    refine aw_mem (fun μ7 eμ7 => ?_)
    have k := k μ7 eμ7
    obtain ⟨v8, ev8⟩ : ∃ y : Int32, y = x2 + (1 : Int32) := ⟨_, rfl⟩
    have k := k v8 ev8
    refine aw_iinc (v := v8) (L' := [some (.ref (X.G.ad 1 o0)), some (.ref (X.G.ad 2 o1)), some (.int v8)]) hX dX1_open_94 rfl (by rw [ev8]; rfl) (Nat.le_of_ble_eq_true rfl) rfl ?_
    refine aw_goto (tgt := 50) hX dX1_open_97 (by decide) ?_
    exact k

set_option maxRecDepth 100000 in
set_option maxHeartbeats 4000000 in
theorem st_X1_copyFrom_0 {X : zX} {lv : Nat} {Post : Option Value → zM → Prop} (hX : zOk X cX1_copyFrom RX1 2 lv) (hr : zRt X none Post) {o0 : Nat} (ho0 : o0 < 49) {o1 : Nat} (ho1 : o1 < 49)  {μ : zM}
    (k : ∀ μ1 : zM, μ1 = pI μ 1 o0 0 (μ.1 1 o1 0) → (∀ μ2 : zM, μ2 = pI μ1 1 o0 1 (μ1.1 1 o1 1) → (∀ μ3 : zM, μ3 = pI μ2 1 o0 2 (μ2.1 1 o1 2) → (∀ μ4 : zM, μ4 = pI μ3 1 o0 3 (μ3.1 1 o1 3) → ((0 < lv) ∧ (∀ μ6 : zM, μ6 = pR μ4 14 o0 (va_cpy (μ4.1 14 o1) (μ4.1 14 o0) 0 0 6) → (∀ μ7 : zM, μ7 = pR μ6 15 o0 (va_cpy (μ6.1 15 o1) (μ6.1 15 o0) 0 0 10) → (∀ μ8 : zM, μ8 = pR μ7 16 o0 (va_cpy (μ7.1 16 o1) (μ7.1 16 o0) 0 0 10) → (∀ μ9 : zM, μ9 = pR μ8 17 o0 (va_cpy (μ8.1 17 o1) (μ8.1 17 o0) 0 0 10) → (∀ μ10 : zM, μ10 = pR μ9 18 o0 (va_cpy (μ9.1 18 o1) (μ9.1 18 o0) 0 0 10) → (Post none μ10))))))))))) :
    AW X 0 [some (.ref (X.G.ad 1 o0)), some (.ref (X.G.ad 1 o1))] [] μ := by
  refine aw_aload_n hX dX1_copyFrom_0 rfl ?_
  refine aw_aload_n hX dX1_copyFrom_1 rfl ?_
  refine aw_geti hX kf_X1_27 sh_1 ho1 rfl dX1_copyFrom_2 ?_
  refine aw_puti hX kp_X1_27 sh_1 ho0 rfl rfl rfl dX1_copyFrom_5 ?_
  refine aw_mem (fun μ1 eμ1 => ?_)
  have k := k μ1 eμ1
  refine aw_aload_n hX dX1_copyFrom_8 rfl ?_
  refine aw_aload_n hX dX1_copyFrom_9 rfl ?_
  refine aw_geti hX kf_X1_31 sh_1 ho1 rfl dX1_copyFrom_10 ?_
  refine aw_puti hX kp_X1_31 sh_1 ho0 rfl rfl rfl dX1_copyFrom_13 ?_
  refine aw_mem (fun μ2 eμ2 => ?_)
  have k := k μ2 eμ2
  refine aw_aload_n hX dX1_copyFrom_16 rfl ?_
  refine aw_aload_n hX dX1_copyFrom_17 rfl ?_
  refine aw_geti hX kf_X1_34 sh_1 ho1 rfl dX1_copyFrom_18 ?_
  refine aw_puti hX kp_X1_34 sh_1 ho0 rfl rfl rfl dX1_copyFrom_21 ?_
  refine aw_mem (fun μ3 eμ3 => ?_)
  have k := k μ3 eμ3
  refine aw_aload_n hX dX1_copyFrom_24 rfl ?_
  refine aw_aload_n hX dX1_copyFrom_25 rfl ?_
  refine aw_geti hX kf_X1_37 sh_1 ho1 rfl dX1_copyFrom_26 ?_
  refine aw_puti hX kp_X1_37 sh_1 ho0 rfl rfl rfl dX1_copyFrom_29 ?_
  refine aw_mem (fun μ4 eμ4 => ?_)
  have k := k μ4 eμ4
  refine aw_aload_n hX dX1_copyFrom_32 rfl ?_
  refine aw_getr (o' := o1) hX kf_X1_9 sh_1 ho1 rfl (Nat.one_mul o1) dX1_copyFrom_33 ?_
  refine aw_iconst hX dX1_copyFrom_36 zk_0 ?_
  refine aw_aload_n hX dX1_copyFrom_37 rfl ?_
  refine aw_getr (o' := o0) hX kf_X1_9 sh_1 ho0 rfl (Nat.one_mul o0) dX1_copyFrom_38 ?_
  refine aw_iconst hX dX1_copyFrom_41 zk_0 ?_
  refine aw_bipush hX dX1_copyFrom_42 zb_6 ?_
  have s5 := k.1
  have k := k.2
  refine aw_cpyG gx_ac hX ka_X1_59 s5 sh_14 ho1 sh_14 ho0 (by decide) (by decide) (by decide) (by decide) (by decide) (Nat.le_of_ble_eq_true rfl) dX1_copyFrom_44 ?_
  refine aw_mem (fun μ6 eμ6 => ?_)
  have k := k μ6 eμ6
  refine aw_aload_n hX dX1_copyFrom_47 rfl ?_
  refine aw_getr (o' := o1) hX kf_X1_15 sh_1 ho1 rfl (Nat.one_mul o1) dX1_copyFrom_48 ?_
  refine aw_iconst hX dX1_copyFrom_51 zk_0 ?_
  refine aw_aload_n hX dX1_copyFrom_52 rfl ?_
  refine aw_getr (o' := o0) hX kf_X1_15 sh_1 ho0 rfl (Nat.one_mul o0) dX1_copyFrom_53 ?_
  refine aw_iconst hX dX1_copyFrom_56 zk_0 ?_
  refine aw_bipush hX dX1_copyFrom_57 zb_10 ?_
  refine aw_cpyG gx_ac hX ka_X1_59 s5 sh_15 ho1 sh_15 ho0 (by decide) (by decide) (by decide) (by decide) (by decide) (Nat.le_of_ble_eq_true rfl) dX1_copyFrom_59 ?_
  refine aw_mem (fun μ7 eμ7 => ?_)
  have k := k μ7 eμ7
  refine aw_aload_n hX dX1_copyFrom_62 rfl ?_
  refine aw_getr (o' := o1) hX kf_X1_18 sh_1 ho1 rfl (Nat.one_mul o1) dX1_copyFrom_63 ?_
  refine aw_iconst hX dX1_copyFrom_66 zk_0 ?_
  refine aw_aload_n hX dX1_copyFrom_67 rfl ?_
  refine aw_getr (o' := o0) hX kf_X1_18 sh_1 ho0 rfl (Nat.one_mul o0) dX1_copyFrom_68 ?_
  refine aw_iconst hX dX1_copyFrom_71 zk_0 ?_
  refine aw_bipush hX dX1_copyFrom_72 zb_10 ?_
  refine aw_cpyG gx_ac hX ka_X1_59 s5 sh_16 ho1 sh_16 ho0 (by decide) (by decide) (by decide) (by decide) (by decide) (Nat.le_of_ble_eq_true rfl) dX1_copyFrom_74 ?_
  refine aw_mem (fun μ8 eμ8 => ?_)
  have k := k μ8 eμ8
  refine aw_aload_n hX dX1_copyFrom_77 rfl ?_
  refine aw_getr (o' := o1) hX kf_X1_21 sh_1 ho1 rfl (Nat.one_mul o1) dX1_copyFrom_78 ?_
  refine aw_iconst hX dX1_copyFrom_81 zk_0 ?_
  refine aw_aload_n hX dX1_copyFrom_82 rfl ?_
  refine aw_getr (o' := o0) hX kf_X1_21 sh_1 ho0 rfl (Nat.one_mul o0) dX1_copyFrom_83 ?_
  refine aw_iconst hX dX1_copyFrom_86 zk_0 ?_
  refine aw_bipush hX dX1_copyFrom_87 zb_10 ?_
  refine aw_cpyG gx_ac hX ka_X1_59 s5 sh_17 ho1 sh_17 ho0 (by decide) (by decide) (by decide) (by decide) (by decide) (Nat.le_of_ble_eq_true rfl) dX1_copyFrom_89 ?_
  refine aw_mem (fun μ9 eμ9 => ?_)
  have k := k μ9 eμ9
  refine aw_aload_n hX dX1_copyFrom_92 rfl ?_
  refine aw_getr (o' := o1) hX kf_X1_24 sh_1 ho1 rfl (Nat.one_mul o1) dX1_copyFrom_93 ?_
  refine aw_iconst hX dX1_copyFrom_96 zk_0 ?_
  refine aw_aload_n hX dX1_copyFrom_97 rfl ?_
  refine aw_getr (o' := o0) hX kf_X1_24 sh_1 ho0 rfl (Nat.one_mul o0) dX1_copyFrom_98 ?_
  refine aw_iconst hX dX1_copyFrom_101 zk_0 ?_
  refine aw_bipush hX dX1_copyFrom_102 zb_10 ?_
  refine aw_cpyG gx_ac hX ka_X1_59 s5 sh_18 ho1 sh_18 ho0 (by decide) (by decide) (by decide) (by decide) (by decide) (Nat.le_of_ble_eq_true rfl) dX1_copyFrom_104 ?_
  refine aw_mem (fun μ10 eμ10 => ?_)
  have k := k μ10 eμ10
  exact aw_vret hX hr dX1_copyFrom_107 k

set_option maxRecDepth 100000 in
set_option maxHeartbeats 4000000 in
theorem st_X1_live_0 {X : zX} {lv : Nat} {Post : Option Value → zM → Prop} (hX : zOk X cX1_live RX1 4 lv) (hr : zRt X none Post) {o0 : Nat} (ho0 : o0 < 49) {o1 : Nat} (ho1 : o1 < 6) {x2 : Int32} {μ : zM}
    (k : zCallI X lv yX2_isFlood cX2_isFlood 2 (some .boolean) [.ref (X.G.ad 2 o1), .int x2] μ (fun (r1 : Int32) μ2 => zCallV X lv yX1_ripen cX1_ripen 4 none [.ref (X.G.ad 1 o0), .ref (X.G.ad 2 o1), .int x2] μ2 (fun μ4 => (r1 = 0 → (AW X 31 [some (.ref (X.G.ad 1 o0)), some (.ref (X.G.ad 2 o1)), some (.int x2), some (.int r1)] [] μ4)) ∧ (¬ r1 = 0 → (∀ μ6 : zM, μ6 = pI μ4 1 o0 1 ((μ4.1 1 o0 1) + (1 : Int32)) → (zCallV X lv yX1_callAllIn cX1_callAllIn 3 none [.ref (X.G.ad 1 o0), .ref (X.G.ad 2 o1)] μ6 (fun μ8 => AW X 31 [some (.ref (X.G.ad 1 o0)), some (.ref (X.G.ad 2 o1)), some (.int x2), some (.int r1)] [] μ8))))))) :
    AW X 0 [some (.ref (X.G.ad 1 o0)), some (.ref (X.G.ad 2 o1)), some (.int x2), none] [] μ := by
  refine aw_aload_n hX dX1_live_0 rfl ?_
  refine aw_iload_n hX dX1_live_1 rfl ?_
  refine aw_invI (As := [.int x2]) (rest := []) (κ := 2) (o := o1) (T := TX2) (N := 11) hX vc_X1_65 sh_2 ho1 rfl rfl rfl (Nat.le_of_ble_eq_true rfl) dX1_live_2 k (fun r1 μ2 k => ?_)
  refine aw_istore_n (L' := [some (.ref (X.G.ad 1 o0)), some (.ref (X.G.ad 2 o1)), some (.int x2), some (.int r1)]) hX dX1_live_5 (Nat.le_of_ble_eq_true rfl) rfl ?_
  refine aw_aload_n hX dX1_live_6 rfl ?_
  refine aw_aload_n hX dX1_live_7 rfl ?_
  refine aw_iload_n hX dX1_live_8 rfl ?_
  refine aw_invV (As := [.ref (X.G.ad 2 o1), .int x2]) (rest := []) (κ := 1) (o := o0) (T := TX1) (N := 9) hX vc_X1_69 sh_1 ho0 rfl rfl rfl (Nat.le_of_ble_eq_true rfl) dX1_live_9 k (fun μ4 k => ?_)
  refine aw_iload_n hX dX1_live_12 rfl ?_
  refine aw_if_eq (tgt := 31) hX dX1_live_13 (by decide) (fun c5 => ?_) (fun c5 => ?_)
  · have k := k.1 c5
    exact k
  · have k := k.2 c5
    refine aw_aload_n hX dX1_live_16 rfl ?_
    refine aw_dup hX dX1_live_17 rfl ?_
    refine aw_geti hX kf_X1_31 sh_1 ho0 rfl dX1_live_18 ?_
    refine aw_iconst hX dX1_live_21 zk_1 ?_
    refine aw_iadd hX dX1_live_22 ?_
    refine aw_puti hX kp_X1_31 sh_1 ho0 rfl rfl rfl dX1_live_23 ?_
    refine aw_mem (fun μ6 eμ6 => ?_)
    have k := k μ6 eμ6
    refine aw_aload_n hX dX1_live_26 rfl ?_
    refine aw_aload_n hX dX1_live_27 rfl ?_
    refine aw_invV (As := [.ref (X.G.ad 2 o1)]) (rest := []) (κ := 1) (o := o0) (T := TX1) (N := 9) hX vc_X1_73 sh_1 ho0 rfl rfl rfl (Nat.le_of_ble_eq_true rfl) dX1_live_28 k (fun μ8 k => ?_)
    exact k

set_option maxRecDepth 100000 in
set_option maxHeartbeats 4000000 in
theorem st_X1_live_31 {X : zX} {lv : Nat} {Post : Option Value → zM → Prop} (hX : zOk X cX1_live RX1 4 lv) (hr : zRt X none Post) {o0 : Nat} (ho0 : o0 < 49) {o1 : Nat} (ho1 : o1 < 6) {x2 : Int32} {x3 : Int32} {μ : zM}
    (k : zCallV X lv yX1_joinDue cX1_joinDue 3 none [.ref (X.G.ad 1 o0), .ref (X.G.ad 2 o1)] μ (fun μ2 => zCallI X lv yX1_calledOn cX1_calledOn 7 (some .int) [.ref (X.G.ad 1 o0), .ref (X.G.ad 2 o1), .int x2, .int x3] μ2 (fun (r3 : Int32) μ4 => ∀ μ5 : zM, μ5 = pI μ4 1 o0 3 r3 → ((x2 = 0 → (zCallV X lv yX1_settle cX1_settle 7 none [.ref (X.G.ad 1 o0), .ref (X.G.ad 2 o1), .int (0 : Int32)] μ5 (fun μ8 => zCallV X lv yX1_closePaid cX1_closePaid 3 none [.ref (X.G.ad 1 o0), .ref (X.G.ad 2 o1)] μ8 (fun μ10 => ∀ μ11 : zM, μ11 = pI μ10 1 o0 0 ((μ10.1 1 o0 0) + (1 : Int32)) → (∀ μ12 : zM, μ12 = pI μ11 1 o0 2 x2 → (Post none μ12)))))) ∧ (¬ x2 = 0 → (zCallV X lv yX1_settle cX1_settle 7 none [.ref (X.G.ad 1 o0), .ref (X.G.ad 2 o1), .int (1 : Int32)] μ5 (fun μ14 => zCallV X lv yX1_closePaid cX1_closePaid 3 none [.ref (X.G.ad 1 o0), .ref (X.G.ad 2 o1)] μ14 (fun μ16 => ∀ μ17 : zM, μ17 = pI μ16 1 o0 0 ((μ16.1 1 o0 0) + (1 : Int32)) → (∀ μ18 : zM, μ18 = pI μ17 1 o0 2 x2 → (Post none μ18)))))))))) :
    AW X 31 [some (.ref (X.G.ad 1 o0)), some (.ref (X.G.ad 2 o1)), some (.int x2), some (.int x3)] [] μ := by
  refine aw_aload_n hX dX1_live_31 rfl ?_
  refine aw_aload_n hX dX1_live_32 rfl ?_
  refine aw_invV (As := [.ref (X.G.ad 2 o1)]) (rest := []) (κ := 1) (o := o0) (T := TX1) (N := 9) hX vc_X1_77 sh_1 ho0 rfl rfl rfl (Nat.le_of_ble_eq_true rfl) dX1_live_33 k (fun μ2 k => ?_)
  refine aw_aload_n hX dX1_live_36 rfl ?_
  refine aw_aload_n hX dX1_live_37 rfl ?_
  refine aw_aload_n hX dX1_live_38 rfl ?_
  refine aw_iload_n hX dX1_live_39 rfl ?_
  refine aw_iload_n hX dX1_live_40 rfl ?_
  refine aw_invI (As := [.ref (X.G.ad 2 o1), .int x2, .int x3]) (rest := [.ref (X.G.ad 1 o0)]) (κ := 1) (o := o0) (T := TX1) (N := 9) hX vc_X1_80 sh_1 ho0 rfl rfl rfl (Nat.le_of_ble_eq_true rfl) dX1_live_41 k (fun r3 μ4 k => ?_)
  refine aw_puti hX kp_X1_37 sh_1 ho0 rfl rfl rfl dX1_live_44 ?_
  refine aw_mem (fun μ5 eμ5 => ?_)
  have k := k μ5 eμ5
  refine aw_aload_n hX dX1_live_47 rfl ?_
  refine aw_aload_n hX dX1_live_48 rfl ?_
  refine aw_iload_n hX dX1_live_49 rfl ?_
  refine aw_if_eq (tgt := 57) hX dX1_live_50 (by decide) (fun c6 => ?_) (fun c6 => ?_)
  · have k := k.1 c6
    refine aw_iconst hX dX1_live_57 zk_0 ?_
    refine aw_invV (As := [.ref (X.G.ad 2 o1), .int (0 : Int32)]) (rest := []) (κ := 1) (o := o0) (T := TX1) (N := 9) hX vc_X1_84 sh_1 ho0 rfl rfl rfl (Nat.le_of_ble_eq_true rfl) dX1_live_58 k (fun μ8 k => ?_)
    refine aw_aload_n hX dX1_live_61 rfl ?_
    refine aw_aload_n hX dX1_live_62 rfl ?_
    refine aw_invV (As := [.ref (X.G.ad 2 o1)]) (rest := []) (κ := 1) (o := o0) (T := TX1) (N := 9) hX vc_X1_88 sh_1 ho0 rfl rfl rfl (Nat.le_of_ble_eq_true rfl) dX1_live_63 k (fun μ10 k => ?_)
    refine aw_aload_n hX dX1_live_66 rfl ?_
    refine aw_dup hX dX1_live_67 rfl ?_
    refine aw_geti hX kf_X1_27 sh_1 ho0 rfl dX1_live_68 ?_
    refine aw_iconst hX dX1_live_71 zk_1 ?_
    refine aw_iadd hX dX1_live_72 ?_
    refine aw_puti hX kp_X1_27 sh_1 ho0 rfl rfl rfl dX1_live_73 ?_
    refine aw_mem (fun μ11 eμ11 => ?_)
    have k := k μ11 eμ11
    refine aw_aload_n hX dX1_live_76 rfl ?_
    refine aw_iload_n hX dX1_live_77 rfl ?_
    refine aw_puti hX kp_X1_34 sh_1 ho0 rfl rfl rfl dX1_live_78 ?_
    refine aw_mem (fun μ12 eμ12 => ?_)
    have k := k μ12 eμ12
    exact aw_vret hX hr dX1_live_81 k
  · have k := k.2 c6
    refine aw_iconst hX dX1_live_53 zk_1 ?_
    refine aw_goto (tgt := 58) hX dX1_live_54 (by decide) ?_
    refine aw_invV (As := [.ref (X.G.ad 2 o1), .int (1 : Int32)]) (rest := []) (κ := 1) (o := o0) (T := TX1) (N := 9) hX vc_X1_84 sh_1 ho0 rfl rfl rfl (Nat.le_of_ble_eq_true rfl) dX1_live_58 k (fun μ14 k => ?_)
    refine aw_aload_n hX dX1_live_61 rfl ?_
    refine aw_aload_n hX dX1_live_62 rfl ?_
    refine aw_invV (As := [.ref (X.G.ad 2 o1)]) (rest := []) (κ := 1) (o := o0) (T := TX1) (N := 9) hX vc_X1_88 sh_1 ho0 rfl rfl rfl (Nat.le_of_ble_eq_true rfl) dX1_live_63 k (fun μ16 k => ?_)
    refine aw_aload_n hX dX1_live_66 rfl ?_
    refine aw_dup hX dX1_live_67 rfl ?_
    refine aw_geti hX kf_X1_27 sh_1 ho0 rfl dX1_live_68 ?_
    refine aw_iconst hX dX1_live_71 zk_1 ?_
    refine aw_iadd hX dX1_live_72 ?_
    refine aw_puti hX kp_X1_27 sh_1 ho0 rfl rfl rfl dX1_live_73 ?_
    refine aw_mem (fun μ17 eμ17 => ?_)
    have k := k μ17 eμ17
    refine aw_aload_n hX dX1_live_76 rfl ?_
    refine aw_iload_n hX dX1_live_77 rfl ?_
    refine aw_puti hX kp_X1_34 sh_1 ho0 rfl rfl rfl dX1_live_78 ?_
    refine aw_mem (fun μ18 eμ18 => ?_)
    have k := k μ18 eμ18
    exact aw_vret hX hr dX1_live_81 k

set_option maxRecDepth 100000 in
set_option maxHeartbeats 4000000 in
theorem st_X1_ripen_0 {X : zX} {lv : Nat} {Post : Option Value → zM → Prop} (hX : zOk X cX1_ripen RX1 4 lv) (hr : zRt X none Post) {o0 : Nat} (ho0 : o0 < 49) {o1 : Nat} (ho1 : o1 < 6) {x2 : Int32} {μ : zM}
    (k : AW X 2 [some (.ref (X.G.ad 1 o0)), some (.ref (X.G.ad 2 o1)), some (.int x2), some (.int (0 : Int32))] [] μ) :
    AW X 0 [some (.ref (X.G.ad 1 o0)), some (.ref (X.G.ad 2 o1)), some (.int x2), none] [] μ := by
  refine aw_iconst hX dX1_ripen_0 zk_0 ?_
  refine aw_istore_n (L' := [some (.ref (X.G.ad 1 o0)), some (.ref (X.G.ad 2 o1)), some (.int x2), some (.int (0 : Int32))]) hX dX1_ripen_1 (Nat.le_of_ble_eq_true rfl) rfl ?_
  exact k

set_option maxRecDepth 100000 in
set_option maxHeartbeats 4000000 in
theorem st_X1_ripen_2 {X : zX} {lv : Nat} {Post : Option Value → zM → Prop} (hX : zOk X cX1_ripen RX1 4 lv) (hr : zRt X none Post) {o0 : Nat} (ho0 : o0 < 49) {o1 : Nat} (ho1 : o1 < 6) {x2 : Int32} {x3 : Int32} {μ : zM}
    (k : ((μ.1 2 o1 2) ≤ x3 → (Post none μ)) ∧ (¬ (μ.1 2 o1 2) ≤ x3 → ((vp_in x3 10) ∧ (((μ.1 16 o0 (ix x3)) = (2 : Int32) → (∀ v4 : Int32, v4 = x3 + (1 : Int32) → (AW X 2 [some (.ref (X.G.ad 1 o0)), some (.ref (X.G.ad 2 o1)), some (.int x2), some (.int v4)] [] μ))) ∧ (¬ (μ.1 16 o0 (ix x3)) = (2 : Int32) → (zCallI X lv yX2_isRipe cX2_isRipe 7 (some .boolean) [.ref (X.G.ad 2 o1), .int x3, .int x2] μ (fun (r5 : Int32) μ6 => (r5 = 0 → (∀ v8 : Int32, v8 = x3 + (1 : Int32) → (AW X 2 [some (.ref (X.G.ad 1 o0)), some (.ref (X.G.ad 2 o1)), some (.int x2), some (.int v8)] [] μ6))) ∧ (¬ r5 = 0 → (∀ μ9 : zM, μ9 = pI μ6 17 o0 (ix x3) ((μ6.1 17 o0 (ix x3)) + (1 : Int32)) → (∀ μ11 : zM, μ11 = pI μ9 15 o0 (ix x3) ((μ9.1 15 o0 (ix x3)) + (μ9.1 7 (10 * o1 + 0 + (ix x3)) 3)) → ((¬ (μ11.1 16 o0 (ix x3)) = 0 → (∀ v13 : Int32, v13 = x3 + (1 : Int32) → (AW X 2 [some (.ref (X.G.ad 1 o0)), some (.ref (X.G.ad 2 o1)), some (.int x2), some (.int v13)] [] μ11))) ∧ ((μ11.1 16 o0 (ix x3)) = 0 → (((μ11.1 17 o0 (ix x3)) < (μ11.1 7 (10 * o1 + 0 + (ix x3)) 4) → (∀ v15 : Int32, v15 = x3 + (1 : Int32) → (AW X 2 [some (.ref (X.G.ad 1 o0)), some (.ref (X.G.ad 2 o1)), some (.int x2), some (.int v15)] [] μ11))) ∧ (¬ (μ11.1 17 o0 (ix x3)) < (μ11.1 7 (10 * o1 + 0 + (ix x3)) 4) → (∀ μ16 : zM, μ16 = pI μ11 16 o0 (ix x3) (1 : Int32) → (∀ v17 : Int32, v17 = x3 + (1 : Int32) → (AW X 2 [some (.ref (X.G.ad 1 o0)), some (.ref (X.G.ad 2 o1)), some (.int x2), some (.int v17)] [] μ16))))))))))))))))) :
    AW X 2 [some (.ref (X.G.ad 1 o0)), some (.ref (X.G.ad 2 o1)), some (.int x2), some (.int x3)] [] μ := by
  refine aw_iload_n hX dX1_ripen_2 rfl ?_
  refine aw_aload_n hX dX1_ripen_3 rfl ?_
  refine aw_geti hX kf_X1_48 sh_2 ho1 rfl dX1_ripen_4 ?_
  refine aw_icmp_ge (tgt := 97) hX dX1_ripen_7 (by decide) (fun c1 => ?_) (fun c1 => ?_)
  · have k := k.1 c1
    exact aw_vret hX hr dX1_ripen_97 k
  · have k := k.2 c1
    refine aw_aload_n hX dX1_ripen_10 rfl ?_
    refine aw_getr (o' := o0) hX kf_X1_18 sh_1 ho0 rfl (Nat.one_mul o0) dX1_ripen_11 ?_
    refine aw_iload_n hX dX1_ripen_14 rfl ?_
    have s2 := k.1
    have k := k.2
    refine aw_iald' (k := (ix x3)) hX sh_16 ho0 s2 rfl dX1_ripen_15 ?_
    refine aw_iconst hX dX1_ripen_16 zk_2 ?_
    refine aw_icmp_eq (tgt := 91) hX dX1_ripen_17 (by decide) (fun c3 => ?_) (fun c3 => ?_)
    · have k := k.1 c3
      obtain ⟨v4, ev4⟩ : ∃ y : Int32, y = x3 + (1 : Int32) := ⟨_, rfl⟩
      have k := k v4 ev4
      refine aw_iinc (v := v4) (L' := [some (.ref (X.G.ad 1 o0)), some (.ref (X.G.ad 2 o1)), some (.int x2), some (.int v4)]) hX dX1_ripen_91 rfl (by rw [ev4]; rfl) (Nat.le_of_ble_eq_true rfl) rfl ?_
      refine aw_goto (tgt := 2) hX dX1_ripen_94 (by decide) ?_
      exact k
    · have k := k.2 c3
      refine aw_aload_n hX dX1_ripen_20 rfl ?_
      refine aw_iload_n hX dX1_ripen_21 rfl ?_
      refine aw_iload_n hX dX1_ripen_22 rfl ?_
      refine aw_invI (As := [.int x3, .int x2]) (rest := []) (κ := 2) (o := o1) (T := TX2) (N := 11) hX vc_X1_91 sh_2 ho1 rfl rfl rfl (Nat.le_of_ble_eq_true rfl) dX1_ripen_23 k (fun r5 μ6 k => ?_)
      refine aw_if_eq (tgt := 91) hX dX1_ripen_26 (by decide) (fun c7 => ?_) (fun c7 => ?_)
      · have k := k.1 c7
        obtain ⟨v8, ev8⟩ : ∃ y : Int32, y = x3 + (1 : Int32) := ⟨_, rfl⟩
        have k := k v8 ev8
        refine aw_iinc (v := v8) (L' := [some (.ref (X.G.ad 1 o0)), some (.ref (X.G.ad 2 o1)), some (.int x2), some (.int v8)]) hX dX1_ripen_91 rfl (by rw [ev8]; rfl) (Nat.le_of_ble_eq_true rfl) rfl ?_
        refine aw_goto (tgt := 2) hX dX1_ripen_94 (by decide) ?_
        exact k
      · have k := k.2 c7
        refine aw_aload_n hX dX1_ripen_29 rfl ?_
        refine aw_getr (o' := o0) hX kf_X1_21 sh_1 ho0 rfl (Nat.one_mul o0) dX1_ripen_30 ?_
        refine aw_iload_n hX dX1_ripen_33 rfl ?_
        refine aw_dup2 hX dX1_ripen_34 rfl rfl ?_
        refine aw_iald' (k := (ix x3)) hX sh_17 ho0 s2 rfl dX1_ripen_35 ?_
        refine aw_iconst hX dX1_ripen_36 zk_1 ?_
        refine aw_iadd hX dX1_ripen_37 ?_
        refine aw_iast' (k := (ix x3)) hX sh_17 ho0 s2 rfl dX1_ripen_38 ?_
        refine aw_mem (fun μ9 eμ9 => ?_)
        have k := k μ9 eμ9
        refine aw_aload_n hX dX1_ripen_39 rfl ?_
        refine aw_getr (o' := o0) hX kf_X1_15 sh_1 ho0 rfl (Nat.one_mul o0) dX1_ripen_40 ?_
        refine aw_iload_n hX dX1_ripen_43 rfl ?_
        refine aw_dup2 hX dX1_ripen_44 rfl rfl ?_
        refine aw_iald' (k := (ix x3)) hX sh_15 ho0 s2 rfl dX1_ripen_45 ?_
        refine aw_aload_n hX dX1_ripen_46 rfl ?_
        refine aw_getr (o' := o1) hX kf_X1_51 sh_2 ho1 rfl (Nat.one_mul o1) dX1_ripen_47 ?_
        refine aw_iload_n hX dX1_ripen_50 rfl ?_
        refine aw_aald' (k := (ix x3)) (o' := (10 * o1 + 0 + (ix x3))) (C := "RainLoans$Terms") hX sh_22 ho1 rfl s2 rfl rfl dX1_ripen_51 ?_
        have w10 : (10 * o1 + 0 + (ix x3)) < 60 := by have := zix s2; omega
        refine aw_geti hX kf_X1_95 sh_7 w10 rfl dX1_ripen_52 ?_
        refine aw_iadd hX dX1_ripen_55 ?_
        refine aw_iast' (k := (ix x3)) hX sh_15 ho0 s2 rfl dX1_ripen_56 ?_
        refine aw_mem (fun μ11 eμ11 => ?_)
        have k := k μ11 eμ11
        refine aw_aload_n hX dX1_ripen_57 rfl ?_
        refine aw_getr (o' := o0) hX kf_X1_18 sh_1 ho0 rfl (Nat.one_mul o0) dX1_ripen_58 ?_
        refine aw_iload_n hX dX1_ripen_61 rfl ?_
        refine aw_iald' (k := (ix x3)) hX sh_16 ho0 s2 rfl dX1_ripen_62 ?_
        refine aw_if_ne (tgt := 91) hX dX1_ripen_63 (by decide) (fun c12 => ?_) (fun c12 => ?_)
        · have k := k.1 c12
          obtain ⟨v13, ev13⟩ : ∃ y : Int32, y = x3 + (1 : Int32) := ⟨_, rfl⟩
          have k := k v13 ev13
          refine aw_iinc (v := v13) (L' := [some (.ref (X.G.ad 1 o0)), some (.ref (X.G.ad 2 o1)), some (.int x2), some (.int v13)]) hX dX1_ripen_91 rfl (by rw [ev13]; rfl) (Nat.le_of_ble_eq_true rfl) rfl ?_
          refine aw_goto (tgt := 2) hX dX1_ripen_94 (by decide) ?_
          exact k
        · have k := k.2 c12
          refine aw_aload_n hX dX1_ripen_66 rfl ?_
          refine aw_getr (o' := o0) hX kf_X1_21 sh_1 ho0 rfl (Nat.one_mul o0) dX1_ripen_67 ?_
          refine aw_iload_n hX dX1_ripen_70 rfl ?_
          refine aw_iald' (k := (ix x3)) hX sh_17 ho0 s2 rfl dX1_ripen_71 ?_
          refine aw_aload_n hX dX1_ripen_72 rfl ?_
          refine aw_getr (o' := o1) hX kf_X1_51 sh_2 ho1 rfl (Nat.one_mul o1) dX1_ripen_73 ?_
          refine aw_iload_n hX dX1_ripen_76 rfl ?_
          refine aw_aald' (k := (ix x3)) (o' := (10 * o1 + 0 + (ix x3))) (C := "RainLoans$Terms") hX sh_22 ho1 rfl s2 rfl rfl dX1_ripen_77 ?_
          refine aw_geti hX kf_X1_98 sh_7 w10 rfl dX1_ripen_78 ?_
          refine aw_icmp_lt (tgt := 91) hX dX1_ripen_81 (by decide) (fun c14 => ?_) (fun c14 => ?_)
          · have k := k.1 c14
            obtain ⟨v15, ev15⟩ : ∃ y : Int32, y = x3 + (1 : Int32) := ⟨_, rfl⟩
            have k := k v15 ev15
            refine aw_iinc (v := v15) (L' := [some (.ref (X.G.ad 1 o0)), some (.ref (X.G.ad 2 o1)), some (.int x2), some (.int v15)]) hX dX1_ripen_91 rfl (by rw [ev15]; rfl) (Nat.le_of_ble_eq_true rfl) rfl ?_
            refine aw_goto (tgt := 2) hX dX1_ripen_94 (by decide) ?_
            exact k
          · have k := k.2 c14
            refine aw_aload_n hX dX1_ripen_84 rfl ?_
            refine aw_getr (o' := o0) hX kf_X1_18 sh_1 ho0 rfl (Nat.one_mul o0) dX1_ripen_85 ?_
            refine aw_iload_n hX dX1_ripen_88 rfl ?_
            refine aw_iconst hX dX1_ripen_89 zk_1 ?_
            refine aw_iast' (k := (ix x3)) hX sh_16 ho0 s2 rfl dX1_ripen_90 ?_
            refine aw_mem (fun μ16 eμ16 => ?_)
            have k := k μ16 eμ16
            obtain ⟨v17, ev17⟩ : ∃ y : Int32, y = x3 + (1 : Int32) := ⟨_, rfl⟩
            have k := k v17 ev17
            refine aw_iinc (v := v17) (L' := [some (.ref (X.G.ad 1 o0)), some (.ref (X.G.ad 2 o1)), some (.int x2), some (.int v17)]) hX dX1_ripen_91 rfl (by rw [ev17]; rfl) (Nat.le_of_ble_eq_true rfl) rfl ?_
            refine aw_goto (tgt := 2) hX dX1_ripen_94 (by decide) ?_
            exact k

set_option maxRecDepth 100000 in
set_option maxHeartbeats 4000000 in
theorem st_X1_callAllIn_0 {X : zX} {lv : Nat} {Post : Option Value → zM → Prop} (hX : zOk X cX1_callAllIn RX1 3 lv) (hr : zRt X none Post) {o0 : Nat} (ho0 : o0 < 49) {o1 : Nat} (ho1 : o1 < 6)  {μ : zM}
    (k : AW X 2 [some (.ref (X.G.ad 1 o0)), some (.ref (X.G.ad 2 o1)), some (.int (0 : Int32))] [] μ) :
    AW X 0 [some (.ref (X.G.ad 1 o0)), some (.ref (X.G.ad 2 o1)), none] [] μ := by
  refine aw_iconst hX dX1_callAllIn_0 zk_0 ?_
  refine aw_istore_n (L' := [some (.ref (X.G.ad 1 o0)), some (.ref (X.G.ad 2 o1)), some (.int (0 : Int32))]) hX dX1_callAllIn_1 (Nat.le_of_ble_eq_true rfl) rfl ?_
  exact k

set_option maxRecDepth 100000 in
set_option maxHeartbeats 4000000 in
theorem st_X1_callAllIn_2 {X : zX} {lv : Nat} {Post : Option Value → zM → Prop} (hX : zOk X cX1_callAllIn RX1 3 lv) (hr : zRt X none Post) {o0 : Nat} (ho0 : o0 < 49) {o1 : Nat} (ho1 : o1 < 6) {x2 : Int32} {μ : zM}
    (k : ((μ.1 2 o1 2) ≤ x2 → (Post none μ)) ∧ (¬ (μ.1 2 o1 2) ≤ x2 → ((vp_in x2 10) ∧ ((¬ (μ.1 16 o0 (ix x2)) = 0 → (∀ v4 : Int32, v4 = x2 + (1 : Int32) → (AW X 2 [some (.ref (X.G.ad 1 o0)), some (.ref (X.G.ad 2 o1)), some (.int v4)] [] μ))) ∧ ((μ.1 16 o0 (ix x2)) = 0 → (((μ.1 7 (10 * o1 + 0 + (ix x2)) 6) = (4 : Int32) → (∀ v7 : Int32, v7 = x2 + (1 : Int32) → (AW X 2 [some (.ref (X.G.ad 1 o0)), some (.ref (X.G.ad 2 o1)), some (.int v7)] [] μ))) ∧ (¬ (μ.1 7 (10 * o1 + 0 + (ix x2)) 6) = (4 : Int32) → (∀ μ8 : zM, μ8 = pI μ 16 o0 (ix x2) (1 : Int32) → (∀ v9 : Int32, v9 = x2 + (1 : Int32) → (AW X 2 [some (.ref (X.G.ad 1 o0)), some (.ref (X.G.ad 2 o1)), some (.int v9)] [] μ8)))))))))) :
    AW X 2 [some (.ref (X.G.ad 1 o0)), some (.ref (X.G.ad 2 o1)), some (.int x2)] [] μ := by
  refine aw_iload_n hX dX1_callAllIn_2 rfl ?_
  refine aw_aload_n hX dX1_callAllIn_3 rfl ?_
  refine aw_geti hX kf_X1_48 sh_2 ho1 rfl dX1_callAllIn_4 ?_
  refine aw_icmp_ge (tgt := 45) hX dX1_callAllIn_7 (by decide) (fun c1 => ?_) (fun c1 => ?_)
  · have k := k.1 c1
    exact aw_vret hX hr dX1_callAllIn_45 k
  · have k := k.2 c1
    refine aw_aload_n hX dX1_callAllIn_10 rfl ?_
    refine aw_getr (o' := o0) hX kf_X1_18 sh_1 ho0 rfl (Nat.one_mul o0) dX1_callAllIn_11 ?_
    refine aw_iload_n hX dX1_callAllIn_14 rfl ?_
    have s2 := k.1
    have k := k.2
    refine aw_iald' (k := (ix x2)) hX sh_16 ho0 s2 rfl dX1_callAllIn_15 ?_
    refine aw_if_ne (tgt := 39) hX dX1_callAllIn_16 (by decide) (fun c3 => ?_) (fun c3 => ?_)
    · have k := k.1 c3
      obtain ⟨v4, ev4⟩ : ∃ y : Int32, y = x2 + (1 : Int32) := ⟨_, rfl⟩
      have k := k v4 ev4
      refine aw_iinc (v := v4) (L' := [some (.ref (X.G.ad 1 o0)), some (.ref (X.G.ad 2 o1)), some (.int v4)]) hX dX1_callAllIn_39 rfl (by rw [ev4]; rfl) (Nat.le_of_ble_eq_true rfl) rfl ?_
      refine aw_goto (tgt := 2) hX dX1_callAllIn_42 (by decide) ?_
      exact k
    · have k := k.2 c3
      refine aw_aload_n hX dX1_callAllIn_19 rfl ?_
      refine aw_getr (o' := o1) hX kf_X1_51 sh_2 ho1 rfl (Nat.one_mul o1) dX1_callAllIn_20 ?_
      refine aw_iload_n hX dX1_callAllIn_23 rfl ?_
      refine aw_aald' (k := (ix x2)) (o' := (10 * o1 + 0 + (ix x2))) (C := "RainLoans$Terms") hX sh_22 ho1 rfl s2 rfl rfl dX1_callAllIn_24 ?_
      have w5 : (10 * o1 + 0 + (ix x2)) < 60 := by have := zix s2; omega
      refine aw_geti hX kf_X1_101 sh_7 w5 rfl dX1_callAllIn_25 ?_
      refine aw_iconst hX dX1_callAllIn_28 zk_4 ?_
      refine aw_icmp_eq (tgt := 39) hX dX1_callAllIn_29 (by decide) (fun c6 => ?_) (fun c6 => ?_)
      · have k := k.1 c6
        obtain ⟨v7, ev7⟩ : ∃ y : Int32, y = x2 + (1 : Int32) := ⟨_, rfl⟩
        have k := k v7 ev7
        refine aw_iinc (v := v7) (L' := [some (.ref (X.G.ad 1 o0)), some (.ref (X.G.ad 2 o1)), some (.int v7)]) hX dX1_callAllIn_39 rfl (by rw [ev7]; rfl) (Nat.le_of_ble_eq_true rfl) rfl ?_
        refine aw_goto (tgt := 2) hX dX1_callAllIn_42 (by decide) ?_
        exact k
      · have k := k.2 c6
        refine aw_aload_n hX dX1_callAllIn_32 rfl ?_
        refine aw_getr (o' := o0) hX kf_X1_18 sh_1 ho0 rfl (Nat.one_mul o0) dX1_callAllIn_33 ?_
        refine aw_iload_n hX dX1_callAllIn_36 rfl ?_
        refine aw_iconst hX dX1_callAllIn_37 zk_1 ?_
        refine aw_iast' (k := (ix x2)) hX sh_16 ho0 s2 rfl dX1_callAllIn_38 ?_
        refine aw_mem (fun μ8 eμ8 => ?_)
        have k := k μ8 eμ8
        obtain ⟨v9, ev9⟩ : ∃ y : Int32, y = x2 + (1 : Int32) := ⟨_, rfl⟩
        have k := k v9 ev9
        refine aw_iinc (v := v9) (L' := [some (.ref (X.G.ad 1 o0)), some (.ref (X.G.ad 2 o1)), some (.int v9)]) hX dX1_callAllIn_39 rfl (by rw [ev9]; rfl) (Nat.le_of_ble_eq_true rfl) rfl ?_
        refine aw_goto (tgt := 2) hX dX1_callAllIn_42 (by decide) ?_
        exact k

set_option maxRecDepth 100000 in
set_option maxHeartbeats 4000000 in
theorem st_X1_joinDue_0 {X : zX} {lv : Nat} {Post : Option Value → zM → Prop} (hX : zOk X cX1_joinDue RX1 3 lv) (hr : zRt X none Post) {o0 : Nat} (ho0 : o0 < 49) {o1 : Nat} (ho1 : o1 < 6)  {μ : zM}
    (k : AW X 2 [some (.ref (X.G.ad 1 o0)), some (.ref (X.G.ad 2 o1)), some (.int (0 : Int32))] [] μ) :
    AW X 0 [some (.ref (X.G.ad 1 o0)), some (.ref (X.G.ad 2 o1)), none] [] μ := by
  refine aw_iconst hX dX1_joinDue_0 zk_0 ?_
  refine aw_istore_n (L' := [some (.ref (X.G.ad 1 o0)), some (.ref (X.G.ad 2 o1)), some (.int (0 : Int32))]) hX dX1_joinDue_1 (Nat.le_of_ble_eq_true rfl) rfl ?_
  exact k

set_option maxRecDepth 100000 in
set_option maxHeartbeats 4000000 in
theorem st_X1_joinDue_2 {X : zX} {lv : Nat} {Post : Option Value → zM → Prop} (hX : zOk X cX1_joinDue RX1 3 lv) (hr : zRt X none Post) {o0 : Nat} (ho0 : o0 < 49) {o1 : Nat} (ho1 : o1 < 6) {x2 : Int32} {μ : zM}
    (k : ((μ.1 2 o1 2) ≤ x2 → (Post none μ)) ∧ (¬ (μ.1 2 o1 2) ≤ x2 → ((vp_in x2 10) ∧ ((¬ (μ.1 16 o0 (ix x2)) = 0 → (∀ v4 : Int32, v4 = x2 + (1 : Int32) → (AW X 2 [some (.ref (X.G.ad 1 o0)), some (.ref (X.G.ad 2 o1)), some (.int v4)] [] μ))) ∧ ((μ.1 16 o0 (ix x2)) = 0 → ((¬ (μ.1 7 (10 * o1 + 0 + (ix x2)) 6) = (5 : Int32) → (∀ v7 : Int32, v7 = x2 + (1 : Int32) → (AW X 2 [some (.ref (X.G.ad 1 o0)), some (.ref (X.G.ad 2 o1)), some (.int v7)] [] μ))) ∧ ((μ.1 7 (10 * o1 + 0 + (ix x2)) 6) = (5 : Int32) → (zCallI X lv yX1_hasDueLoan cX1_hasDueLoan 4 (some .boolean) [.ref (X.G.ad 1 o0), .ref (X.G.ad 2 o1), .int (μ.1 7 (10 * o1 + 0 + (ix x2)) 1)] μ (fun (r8 : Int32) μ9 => (r8 = 0 → (∀ v11 : Int32, v11 = x2 + (1 : Int32) → (AW X 2 [some (.ref (X.G.ad 1 o0)), some (.ref (X.G.ad 2 o1)), some (.int v11)] [] μ9))) ∧ (¬ r8 = 0 → (∀ μ12 : zM, μ12 = pI μ9 16 o0 (ix x2) (1 : Int32) → (∀ v13 : Int32, v13 = x2 + (1 : Int32) → (AW X 2 [some (.ref (X.G.ad 1 o0)), some (.ref (X.G.ad 2 o1)), some (.int v13)] [] μ12))))))))))))) :
    AW X 2 [some (.ref (X.G.ad 1 o0)), some (.ref (X.G.ad 2 o1)), some (.int x2)] [] μ := by
  refine aw_iload_n hX dX1_joinDue_2 rfl ?_
  refine aw_aload_n hX dX1_joinDue_3 rfl ?_
  refine aw_geti hX kf_X1_48 sh_2 ho1 rfl dX1_joinDue_4 ?_
  refine aw_icmp_ge (tgt := 62) hX dX1_joinDue_7 (by decide) (fun c1 => ?_) (fun c1 => ?_)
  · have k := k.1 c1
    exact aw_vret hX hr dX1_joinDue_62 k
  · have k := k.2 c1
    refine aw_aload_n hX dX1_joinDue_10 rfl ?_
    refine aw_getr (o' := o0) hX kf_X1_18 sh_1 ho0 rfl (Nat.one_mul o0) dX1_joinDue_11 ?_
    refine aw_iload_n hX dX1_joinDue_14 rfl ?_
    have s2 := k.1
    have k := k.2
    refine aw_iald' (k := (ix x2)) hX sh_16 ho0 s2 rfl dX1_joinDue_15 ?_
    refine aw_if_ne (tgt := 56) hX dX1_joinDue_16 (by decide) (fun c3 => ?_) (fun c3 => ?_)
    · have k := k.1 c3
      obtain ⟨v4, ev4⟩ : ∃ y : Int32, y = x2 + (1 : Int32) := ⟨_, rfl⟩
      have k := k v4 ev4
      refine aw_iinc (v := v4) (L' := [some (.ref (X.G.ad 1 o0)), some (.ref (X.G.ad 2 o1)), some (.int v4)]) hX dX1_joinDue_56 rfl (by rw [ev4]; rfl) (Nat.le_of_ble_eq_true rfl) rfl ?_
      refine aw_goto (tgt := 2) hX dX1_joinDue_59 (by decide) ?_
      exact k
    · have k := k.2 c3
      refine aw_aload_n hX dX1_joinDue_19 rfl ?_
      refine aw_getr (o' := o1) hX kf_X1_51 sh_2 ho1 rfl (Nat.one_mul o1) dX1_joinDue_20 ?_
      refine aw_iload_n hX dX1_joinDue_23 rfl ?_
      refine aw_aald' (k := (ix x2)) (o' := (10 * o1 + 0 + (ix x2))) (C := "RainLoans$Terms") hX sh_22 ho1 rfl s2 rfl rfl dX1_joinDue_24 ?_
      have w5 : (10 * o1 + 0 + (ix x2)) < 60 := by have := zix s2; omega
      refine aw_geti hX kf_X1_101 sh_7 w5 rfl dX1_joinDue_25 ?_
      refine aw_iconst hX dX1_joinDue_28 zk_5 ?_
      refine aw_icmp_ne (tgt := 56) hX dX1_joinDue_29 (by decide) (fun c6 => ?_) (fun c6 => ?_)
      · have k := k.1 c6
        obtain ⟨v7, ev7⟩ : ∃ y : Int32, y = x2 + (1 : Int32) := ⟨_, rfl⟩
        have k := k v7 ev7
        refine aw_iinc (v := v7) (L' := [some (.ref (X.G.ad 1 o0)), some (.ref (X.G.ad 2 o1)), some (.int v7)]) hX dX1_joinDue_56 rfl (by rw [ev7]; rfl) (Nat.le_of_ble_eq_true rfl) rfl ?_
        refine aw_goto (tgt := 2) hX dX1_joinDue_59 (by decide) ?_
        exact k
      · have k := k.2 c6
        refine aw_aload_n hX dX1_joinDue_32 rfl ?_
        refine aw_aload_n hX dX1_joinDue_33 rfl ?_
        refine aw_aload_n hX dX1_joinDue_34 rfl ?_
        refine aw_getr (o' := o1) hX kf_X1_51 sh_2 ho1 rfl (Nat.one_mul o1) dX1_joinDue_35 ?_
        refine aw_iload_n hX dX1_joinDue_38 rfl ?_
        refine aw_aald' (k := (ix x2)) (o' := (10 * o1 + 0 + (ix x2))) (C := "RainLoans$Terms") hX sh_22 ho1 rfl s2 rfl rfl dX1_joinDue_39 ?_
        refine aw_geti hX kf_X1_104 sh_7 w5 rfl dX1_joinDue_40 ?_
        refine aw_invI (As := [.ref (X.G.ad 2 o1), .int (μ.1 7 (10 * o1 + 0 + (ix x2)) 1)]) (rest := []) (κ := 1) (o := o0) (T := TX1) (N := 9) hX vc_X1_107 sh_1 ho0 rfl rfl rfl (Nat.le_of_ble_eq_true rfl) dX1_joinDue_43 k (fun r8 μ9 k => ?_)
        refine aw_if_eq (tgt := 56) hX dX1_joinDue_46 (by decide) (fun c10 => ?_) (fun c10 => ?_)
        · have k := k.1 c10
          obtain ⟨v11, ev11⟩ : ∃ y : Int32, y = x2 + (1 : Int32) := ⟨_, rfl⟩
          have k := k v11 ev11
          refine aw_iinc (v := v11) (L' := [some (.ref (X.G.ad 1 o0)), some (.ref (X.G.ad 2 o1)), some (.int v11)]) hX dX1_joinDue_56 rfl (by rw [ev11]; rfl) (Nat.le_of_ble_eq_true rfl) rfl ?_
          refine aw_goto (tgt := 2) hX dX1_joinDue_59 (by decide) ?_
          exact k
        · have k := k.2 c10
          refine aw_aload_n hX dX1_joinDue_49 rfl ?_
          refine aw_getr (o' := o0) hX kf_X1_18 sh_1 ho0 rfl (Nat.one_mul o0) dX1_joinDue_50 ?_
          refine aw_iload_n hX dX1_joinDue_53 rfl ?_
          refine aw_iconst hX dX1_joinDue_54 zk_1 ?_
          refine aw_iast' (k := (ix x2)) hX sh_16 ho0 s2 rfl dX1_joinDue_55 ?_
          refine aw_mem (fun μ12 eμ12 => ?_)
          have k := k μ12 eμ12
          obtain ⟨v13, ev13⟩ : ∃ y : Int32, y = x2 + (1 : Int32) := ⟨_, rfl⟩
          have k := k v13 ev13
          refine aw_iinc (v := v13) (L' := [some (.ref (X.G.ad 1 o0)), some (.ref (X.G.ad 2 o1)), some (.int v13)]) hX dX1_joinDue_56 rfl (by rw [ev13]; rfl) (Nat.le_of_ble_eq_true rfl) rfl ?_
          refine aw_goto (tgt := 2) hX dX1_joinDue_59 (by decide) ?_
          exact k

set_option maxRecDepth 100000 in
set_option maxHeartbeats 4000000 in
theorem st_X1_hasDueLoan_0 {X : zX} {lv : Nat} {Post : Option Value → zM → Prop} (hX : zOk X cX1_hasDueLoan RX1 4 lv) (hr : zRt X (some .boolean) Post) {o0 : Nat} (ho0 : o0 < 49) {o1 : Nat} (ho1 : o1 < 6) {x2 : Int32} {μ : zM}
    (k : AW X 2 [some (.ref (X.G.ad 1 o0)), some (.ref (X.G.ad 2 o1)), some (.int x2), some (.int (0 : Int32))] [] μ) :
    AW X 0 [some (.ref (X.G.ad 1 o0)), some (.ref (X.G.ad 2 o1)), some (.int x2), none] [] μ := by
  refine aw_iconst hX dX1_hasDueLoan_0 zk_0 ?_
  refine aw_istore_n (L' := [some (.ref (X.G.ad 1 o0)), some (.ref (X.G.ad 2 o1)), some (.int x2), some (.int (0 : Int32))]) hX dX1_hasDueLoan_1 (Nat.le_of_ble_eq_true rfl) rfl ?_
  exact k

set_option maxRecDepth 100000 in
set_option maxHeartbeats 4000000 in
theorem st_X1_hasDueLoan_2 {X : zX} {lv : Nat} {Post : Option Value → zM → Prop} (hX : zOk X cX1_hasDueLoan RX1 4 lv) (hr : zRt X (some .boolean) Post) {o0 : Nat} (ho0 : o0 < 49) {o1 : Nat} (ho1 : o1 < 6) {x2 : Int32} {x3 : Int32} {μ : zM}
    (k : ((μ.1 2 o1 2) ≤ x3 → (Post (some (.int (0 : Int32))) μ)) ∧ (¬ (μ.1 2 o1 2) ≤ x3 → ((vp_in x3 10) ∧ ((¬ (μ.1 16 o0 (ix x3)) = (1 : Int32) → (∀ v4 : Int32, v4 = x3 + (1 : Int32) → (AW X 2 [some (.ref (X.G.ad 1 o0)), some (.ref (X.G.ad 2 o1)), some (.int x2), some (.int v4)] [] μ))) ∧ ((μ.1 16 o0 (ix x3)) = (1 : Int32) → ((¬ (μ.1 7 (10 * o1 + 0 + (ix x3)) 1) = x2 → (∀ v7 : Int32, v7 = x3 + (1 : Int32) → (AW X 2 [some (.ref (X.G.ad 1 o0)), some (.ref (X.G.ad 2 o1)), some (.int x2), some (.int v7)] [] μ))) ∧ ((μ.1 7 (10 * o1 + 0 + (ix x3)) 1) = x2 → (Post (some (.int (1 : Int32))) μ)))))))) :
    AW X 2 [some (.ref (X.G.ad 1 o0)), some (.ref (X.G.ad 2 o1)), some (.int x2), some (.int x3)] [] μ := by
  refine aw_iload_n hX dX1_hasDueLoan_2 rfl ?_
  refine aw_aload_n hX dX1_hasDueLoan_3 rfl ?_
  refine aw_geti hX kf_X1_48 sh_2 ho1 rfl dX1_hasDueLoan_4 ?_
  refine aw_icmp_ge (tgt := 41) hX dX1_hasDueLoan_7 (by decide) (fun c1 => ?_) (fun c1 => ?_)
  · have k := k.1 c1
    refine aw_iconst hX dX1_hasDueLoan_41 zk_0 ?_
    exact aw_zret hX hr (by decide) dX1_hasDueLoan_42 k
  · have k := k.2 c1
    refine aw_aload_n hX dX1_hasDueLoan_10 rfl ?_
    refine aw_getr (o' := o0) hX kf_X1_18 sh_1 ho0 rfl (Nat.one_mul o0) dX1_hasDueLoan_11 ?_
    refine aw_iload_n hX dX1_hasDueLoan_14 rfl ?_
    have s2 := k.1
    have k := k.2
    refine aw_iald' (k := (ix x3)) hX sh_16 ho0 s2 rfl dX1_hasDueLoan_15 ?_
    refine aw_iconst hX dX1_hasDueLoan_16 zk_1 ?_
    refine aw_icmp_ne (tgt := 35) hX dX1_hasDueLoan_17 (by decide) (fun c3 => ?_) (fun c3 => ?_)
    · have k := k.1 c3
      obtain ⟨v4, ev4⟩ : ∃ y : Int32, y = x3 + (1 : Int32) := ⟨_, rfl⟩
      have k := k v4 ev4
      refine aw_iinc (v := v4) (L' := [some (.ref (X.G.ad 1 o0)), some (.ref (X.G.ad 2 o1)), some (.int x2), some (.int v4)]) hX dX1_hasDueLoan_35 rfl (by rw [ev4]; rfl) (Nat.le_of_ble_eq_true rfl) rfl ?_
      refine aw_goto (tgt := 2) hX dX1_hasDueLoan_38 (by decide) ?_
      exact k
    · have k := k.2 c3
      refine aw_aload_n hX dX1_hasDueLoan_20 rfl ?_
      refine aw_getr (o' := o1) hX kf_X1_51 sh_2 ho1 rfl (Nat.one_mul o1) dX1_hasDueLoan_21 ?_
      refine aw_iload_n hX dX1_hasDueLoan_24 rfl ?_
      refine aw_aald' (k := (ix x3)) (o' := (10 * o1 + 0 + (ix x3))) (C := "RainLoans$Terms") hX sh_22 ho1 rfl s2 rfl rfl dX1_hasDueLoan_25 ?_
      have w5 : (10 * o1 + 0 + (ix x3)) < 60 := by have := zix s2; omega
      refine aw_geti hX kf_X1_104 sh_7 w5 rfl dX1_hasDueLoan_26 ?_
      refine aw_iload_n hX dX1_hasDueLoan_29 rfl ?_
      refine aw_icmp_ne (tgt := 35) hX dX1_hasDueLoan_30 (by decide) (fun c6 => ?_) (fun c6 => ?_)
      · have k := k.1 c6
        obtain ⟨v7, ev7⟩ : ∃ y : Int32, y = x3 + (1 : Int32) := ⟨_, rfl⟩
        have k := k v7 ev7
        refine aw_iinc (v := v7) (L' := [some (.ref (X.G.ad 1 o0)), some (.ref (X.G.ad 2 o1)), some (.int x2), some (.int v7)]) hX dX1_hasDueLoan_35 rfl (by rw [ev7]; rfl) (Nat.le_of_ble_eq_true rfl) rfl ?_
        refine aw_goto (tgt := 2) hX dX1_hasDueLoan_38 (by decide) ?_
        exact k
      · have k := k.2 c6
        refine aw_iconst hX dX1_hasDueLoan_33 zk_1 ?_
        exact aw_zret hX hr (by decide) dX1_hasDueLoan_34 k

set_option maxRecDepth 100000 in
set_option maxHeartbeats 4000000 in
theorem st_X1_calledOn_0 {X : zX} {lv : Nat} {Post : Option Value → zM → Prop} (hX : zOk X cX1_calledOn RX1 7 lv) (hr : zRt X (some .int) Post) {o0 : Nat} (ho0 : o0 < 49) {o1 : Nat} (ho1 : o1 < 6) {x2 : Int32} {x3 : Int32} {μ : zM}
    (k : AW X 6 [some (.ref (X.G.ad 1 o0)), some (.ref (X.G.ad 2 o1)), some (.int x2), some (.int x3), some (.int (0 : Int32)), some (.int (0 : Int32)), none] [] μ) :
    AW X 0 [some (.ref (X.G.ad 1 o0)), some (.ref (X.G.ad 2 o1)), some (.int x2), some (.int x3), none, none, none] [] μ := by
  refine aw_iconst hX dX1_calledOn_0 zk_0 ?_
  refine aw_istore (L' := [some (.ref (X.G.ad 1 o0)), some (.ref (X.G.ad 2 o1)), some (.int x2), some (.int x3), some (.int (0 : Int32)), none, none]) hX dX1_calledOn_1 (Nat.le_of_ble_eq_true rfl) rfl ?_
  refine aw_iconst hX dX1_calledOn_3 zk_0 ?_
  refine aw_istore (L' := [some (.ref (X.G.ad 1 o0)), some (.ref (X.G.ad 2 o1)), some (.int x2), some (.int x3), some (.int (0 : Int32)), some (.int (0 : Int32)), none]) hX dX1_calledOn_4 (Nat.le_of_ble_eq_true rfl) rfl ?_
  exact k

set_option maxRecDepth 100000 in
set_option maxHeartbeats 4000000 in
theorem st_X1_calledOn_6 {X : zX} {lv : Nat} {Post : Option Value → zM → Prop} (hX : zOk X cX1_calledOn RX1 7 lv) (hr : zRt X (some .int) Post) {o0 : Nat} (ho0 : o0 < 49) {o1 : Nat} (ho1 : o1 < 6) {x2 : Int32} {x3 : Int32} {x4 : Int32} {x5 : Int32} {μ : zM}
    (k : ((μ.1 2 o1 2) ≤ x5 → (Post (some (.int x4)) μ)) ∧ (¬ (μ.1 2 o1 2) ≤ x5 → ((x3 = 0 → (AW X 37 [some (.ref (X.G.ad 1 o0)), some (.ref (X.G.ad 2 o1)), some (.int x2), some (.int x3), some (.int x4), some (.int x5), none] [] μ)) ∧ (¬ x3 = 0 → ((vp_in x5 10) ∧ (((μ.1 7 (10 * o1 + 0 + (ix x5)) 6) = (4 : Int32) → (AW X 37 [some (.ref (X.G.ad 1 o0)), some (.ref (X.G.ad 2 o1)), some (.int x2), some (.int x3), some (.int x4), some (.int x5), none] [] μ)) ∧ (¬ (μ.1 7 (10 * o1 + 0 + (ix x5)) 6) = (4 : Int32) → ((¬ (μ.1 16 o0 (ix x5)) = (1 : Int32) → (∀ v7 : Int32, v7 = x5 + (1 : Int32) → (AW X 6 [some (.ref (X.G.ad 1 o0)), some (.ref (X.G.ad 2 o1)), some (.int x2), some (.int x3), some (.int x4), some (.int v7), none] [] μ))) ∧ ((μ.1 16 o0 (ix x5)) = (1 : Int32) → (∀ v9 : Int32, v9 = (x4 ||| ((1 : Int32) <<< (x5 &&& 31))) → (∀ v10 : Int32, v10 = x5 + (1 : Int32) → (AW X 6 [some (.ref (X.G.ad 1 o0)), some (.ref (X.G.ad 2 o1)), some (.int x2), some (.int x3), some (.int v9), some (.int v10), none] [] μ)))))))))))) :
    AW X 6 [some (.ref (X.G.ad 1 o0)), some (.ref (X.G.ad 2 o1)), some (.int x2), some (.int x3), some (.int x4), some (.int x5), none] [] μ := by
  refine aw_iload hX dX1_calledOn_6 rfl ?_
  refine aw_aload_n hX dX1_calledOn_8 rfl ?_
  refine aw_geti hX kf_X1_48 sh_2 ho1 rfl dX1_calledOn_9 ?_
  refine aw_icmp_ge (tgt := 81) hX dX1_calledOn_12 (by decide) (fun c1 => ?_) (fun c1 => ?_)
  · have k := k.1 c1
    refine aw_iload hX dX1_calledOn_81 rfl ?_
    exact aw_iret hX hr dX1_calledOn_83 k
  · have k := k.2 c1
    refine aw_iload_n hX dX1_calledOn_15 rfl ?_
    refine aw_if_eq (tgt := 37) hX dX1_calledOn_16 (by decide) (fun c2 => ?_) (fun c2 => ?_)
    · have k := k.1 c2
      exact k
    · have k := k.2 c2
      refine aw_aload_n hX dX1_calledOn_19 rfl ?_
      refine aw_getr (o' := o1) hX kf_X1_51 sh_2 ho1 rfl (Nat.one_mul o1) dX1_calledOn_20 ?_
      refine aw_iload hX dX1_calledOn_23 rfl ?_
      have s3 := k.1
      have k := k.2
      refine aw_aald' (k := (ix x5)) (o' := (10 * o1 + 0 + (ix x5))) (C := "RainLoans$Terms") hX sh_22 ho1 rfl s3 rfl rfl dX1_calledOn_25 ?_
      have w4 : (10 * o1 + 0 + (ix x5)) < 60 := by have := zix s3; omega
      refine aw_geti hX kf_X1_101 sh_7 w4 rfl dX1_calledOn_26 ?_
      refine aw_iconst hX dX1_calledOn_29 zk_4 ?_
      refine aw_icmp_eq (tgt := 37) hX dX1_calledOn_30 (by decide) (fun c5 => ?_) (fun c5 => ?_)
      · have k := k.1 c5
        exact k
      · have k := k.2 c5
        refine aw_iconst hX dX1_calledOn_33 zk_1 ?_
        refine aw_goto (tgt := 38) hX dX1_calledOn_34 (by decide) ?_
        refine aw_istore (L' := [some (.ref (X.G.ad 1 o0)), some (.ref (X.G.ad 2 o1)), some (.int x2), some (.int x3), some (.int x4), some (.int x5), some (.int (1 : Int32))]) hX dX1_calledOn_38 (Nat.le_of_ble_eq_true rfl) rfl ?_
        refine aw_aload_n hX dX1_calledOn_40 rfl ?_
        refine aw_getr (o' := o0) hX kf_X1_18 sh_1 ho0 rfl (Nat.one_mul o0) dX1_calledOn_41 ?_
        refine aw_iload hX dX1_calledOn_44 rfl ?_
        refine aw_iald' (k := (ix x5)) hX sh_16 ho0 s3 rfl dX1_calledOn_46 ?_
        refine aw_iconst hX dX1_calledOn_47 zk_1 ?_
        refine aw_icmp_ne (tgt := 75) hX dX1_calledOn_48 (by decide) (fun c6 => ?_) (fun c6 => ?_)
        · have k := k.1 c6
          obtain ⟨v7, ev7⟩ : ∃ y : Int32, y = x5 + (1 : Int32) := ⟨_, rfl⟩
          have k := k v7 ev7
          refine aw_iinc (v := v7) (L' := [some (.ref (X.G.ad 1 o0)), some (.ref (X.G.ad 2 o1)), some (.int x2), some (.int x3), some (.int x4), some (.int v7), some (.int (1 : Int32))]) hX dX1_calledOn_75 rfl (by rw [ev7]; rfl) (Nat.le_of_ble_eq_true rfl) rfl ?_
          refine aw_goto (tgt := 6) hX dX1_calledOn_78 (by decide) ?_
          exact aw_less (zle_s (zle_s (zle_s (zle_s (zle_s (zle_s (zle_o zle_n))))))) k
        · have k := k.2 c6
          refine aw_iload hX dX1_calledOn_51 rfl ?_
          refine aw_if_ne (tgt := 66) hX dX1_calledOn_53 (by decide) (fun _ => ?_) (fun c8 => absurd c8 (by decide))
          refine aw_iload hX dX1_calledOn_66 rfl ?_
          refine aw_iconst hX dX1_calledOn_68 zk_1 ?_
          refine aw_iload hX dX1_calledOn_69 rfl ?_
          refine aw_ishl hX dX1_calledOn_71 ?_
          refine aw_ior hX dX1_calledOn_72 ?_
          refine aw_topi (fun v9 ev9 => ?_)
          have k := k v9 ev9
          refine aw_istore (L' := [some (.ref (X.G.ad 1 o0)), some (.ref (X.G.ad 2 o1)), some (.int x2), some (.int x3), some (.int v9), some (.int x5), some (.int (1 : Int32))]) hX dX1_calledOn_73 (Nat.le_of_ble_eq_true rfl) rfl ?_
          obtain ⟨v10, ev10⟩ : ∃ y : Int32, y = x5 + (1 : Int32) := ⟨_, rfl⟩
          have k := k v10 ev10
          refine aw_iinc (v := v10) (L' := [some (.ref (X.G.ad 1 o0)), some (.ref (X.G.ad 2 o1)), some (.int x2), some (.int x3), some (.int v9), some (.int v10), some (.int (1 : Int32))]) hX dX1_calledOn_75 rfl (by rw [ev10]; rfl) (Nat.le_of_ble_eq_true rfl) rfl ?_
          refine aw_goto (tgt := 6) hX dX1_calledOn_78 (by decide) ?_
          exact aw_less (zle_s (zle_s (zle_s (zle_s (zle_s (zle_s (zle_o zle_n))))))) k

set_option maxRecDepth 100000 in
set_option maxHeartbeats 4000000 in
theorem st_X1_calledOn_37 {X : zX} {lv : Nat} {Post : Option Value → zM → Prop} (hX : zOk X cX1_calledOn RX1 7 lv) (hr : zRt X (some .int) Post) {o0 : Nat} (ho0 : o0 < 49) {o1 : Nat} (ho1 : o1 < 6) {x2 : Int32} {x3 : Int32} {x4 : Int32} {x5 : Int32} {μ : zM}
    (k : (vp_in x5 10) ∧ ((¬ (μ.1 16 o0 (ix x5)) = (1 : Int32) → (∀ v3 : Int32, v3 = x5 + (1 : Int32) → (AW X 6 [some (.ref (X.G.ad 1 o0)), some (.ref (X.G.ad 2 o1)), some (.int x2), some (.int x3), some (.int x4), some (.int v3), none] [] μ))) ∧ ((μ.1 16 o0 (ix x5)) = (1 : Int32) → (zCallI X lv yX2_isRipe cX2_isRipe 7 (some .boolean) [.ref (X.G.ad 2 o1), .int x5, .int x2] μ (fun (r5 : Int32) μ6 => (r5 = 0 → (∀ v8 : Int32, v8 = x5 + (1 : Int32) → (AW X 6 [some (.ref (X.G.ad 1 o0)), some (.ref (X.G.ad 2 o1)), some (.int x2), some (.int x3), some (.int x4), some (.int v8), none] [] μ6))) ∧ (¬ r5 = 0 → (∀ v9 : Int32, v9 = (x4 ||| ((1 : Int32) <<< (x5 &&& 31))) → (∀ v10 : Int32, v10 = x5 + (1 : Int32) → (AW X 6 [some (.ref (X.G.ad 1 o0)), some (.ref (X.G.ad 2 o1)), some (.int x2), some (.int x3), some (.int v9), some (.int v10), none] [] μ6))))))))) :
    AW X 37 [some (.ref (X.G.ad 1 o0)), some (.ref (X.G.ad 2 o1)), some (.int x2), some (.int x3), some (.int x4), some (.int x5), none] [] μ := by
  refine aw_iconst hX dX1_calledOn_37 zk_0 ?_
  refine aw_istore (L' := [some (.ref (X.G.ad 1 o0)), some (.ref (X.G.ad 2 o1)), some (.int x2), some (.int x3), some (.int x4), some (.int x5), some (.int (0 : Int32))]) hX dX1_calledOn_38 (Nat.le_of_ble_eq_true rfl) rfl ?_
  refine aw_aload_n hX dX1_calledOn_40 rfl ?_
  refine aw_getr (o' := o0) hX kf_X1_18 sh_1 ho0 rfl (Nat.one_mul o0) dX1_calledOn_41 ?_
  refine aw_iload hX dX1_calledOn_44 rfl ?_
  have s1 := k.1
  have k := k.2
  refine aw_iald' (k := (ix x5)) hX sh_16 ho0 s1 rfl dX1_calledOn_46 ?_
  refine aw_iconst hX dX1_calledOn_47 zk_1 ?_
  refine aw_icmp_ne (tgt := 75) hX dX1_calledOn_48 (by decide) (fun c2 => ?_) (fun c2 => ?_)
  · have k := k.1 c2
    obtain ⟨v3, ev3⟩ : ∃ y : Int32, y = x5 + (1 : Int32) := ⟨_, rfl⟩
    have k := k v3 ev3
    refine aw_iinc (v := v3) (L' := [some (.ref (X.G.ad 1 o0)), some (.ref (X.G.ad 2 o1)), some (.int x2), some (.int x3), some (.int x4), some (.int v3), some (.int (0 : Int32))]) hX dX1_calledOn_75 rfl (by rw [ev3]; rfl) (Nat.le_of_ble_eq_true rfl) rfl ?_
    refine aw_goto (tgt := 6) hX dX1_calledOn_78 (by decide) ?_
    exact aw_less (zle_s (zle_s (zle_s (zle_s (zle_s (zle_s (zle_o zle_n))))))) k
  · have k := k.2 c2
    refine aw_iload hX dX1_calledOn_51 rfl ?_
    refine aw_if_ne (tgt := 66) hX dX1_calledOn_53 (by decide) (fun c4 => absurd c4 (by decide)) (fun _ => ?_)
    refine aw_aload_n hX dX1_calledOn_56 rfl ?_
    refine aw_iload hX dX1_calledOn_57 rfl ?_
    refine aw_iload_n hX dX1_calledOn_59 rfl ?_
    refine aw_invI (As := [.int x5, .int x2]) (rest := []) (κ := 2) (o := o1) (T := TX2) (N := 11) hX vc_X1_91 sh_2 ho1 rfl rfl rfl (Nat.le_of_ble_eq_true rfl) dX1_calledOn_60 k (fun r5 μ6 k => ?_)
    refine aw_if_eq (tgt := 75) hX dX1_calledOn_63 (by decide) (fun c7 => ?_) (fun c7 => ?_)
    · have k := k.1 c7
      obtain ⟨v8, ev8⟩ : ∃ y : Int32, y = x5 + (1 : Int32) := ⟨_, rfl⟩
      have k := k v8 ev8
      refine aw_iinc (v := v8) (L' := [some (.ref (X.G.ad 1 o0)), some (.ref (X.G.ad 2 o1)), some (.int x2), some (.int x3), some (.int x4), some (.int v8), some (.int (0 : Int32))]) hX dX1_calledOn_75 rfl (by rw [ev8]; rfl) (Nat.le_of_ble_eq_true rfl) rfl ?_
      refine aw_goto (tgt := 6) hX dX1_calledOn_78 (by decide) ?_
      exact aw_less (zle_s (zle_s (zle_s (zle_s (zle_s (zle_s (zle_o zle_n))))))) k
    · have k := k.2 c7
      refine aw_iload hX dX1_calledOn_66 rfl ?_
      refine aw_iconst hX dX1_calledOn_68 zk_1 ?_
      refine aw_iload hX dX1_calledOn_69 rfl ?_
      refine aw_ishl hX dX1_calledOn_71 ?_
      refine aw_ior hX dX1_calledOn_72 ?_
      refine aw_topi (fun v9 ev9 => ?_)
      have k := k v9 ev9
      refine aw_istore (L' := [some (.ref (X.G.ad 1 o0)), some (.ref (X.G.ad 2 o1)), some (.int x2), some (.int x3), some (.int v9), some (.int x5), some (.int (0 : Int32))]) hX dX1_calledOn_73 (Nat.le_of_ble_eq_true rfl) rfl ?_
      obtain ⟨v10, ev10⟩ : ∃ y : Int32, y = x5 + (1 : Int32) := ⟨_, rfl⟩
      have k := k v10 ev10
      refine aw_iinc (v := v10) (L' := [some (.ref (X.G.ad 1 o0)), some (.ref (X.G.ad 2 o1)), some (.int x2), some (.int x3), some (.int v9), some (.int v10), some (.int (0 : Int32))]) hX dX1_calledOn_75 rfl (by rw [ev10]; rfl) (Nat.le_of_ble_eq_true rfl) rfl ?_
      refine aw_goto (tgt := 6) hX dX1_calledOn_78 (by decide) ?_
      exact aw_less (zle_s (zle_s (zle_s (zle_s (zle_s (zle_s (zle_o zle_n))))))) k

set_option maxRecDepth 100000 in
set_option maxHeartbeats 4000000 in
theorem st_X1_isCalled_0 {X : zX} {lv : Nat} {Post : Option Value → zM → Prop} (hX : zOk X cX1_isCalled RX1 2 lv) (hr : zRt X (some .boolean) Post) {o0 : Nat} (ho0 : o0 < 49) {x1 : Int32} {μ : zM}
    (k : (¬ (((μ.1 1 o0 3) >>> (x1 &&& 31)) &&& (1 : Int32)) = (1 : Int32) → (Post (some (.int (0 : Int32))) μ)) ∧ ((((μ.1 1 o0 3) >>> (x1 &&& 31)) &&& (1 : Int32)) = (1 : Int32) → (Post (some (.int (1 : Int32))) μ))) :
    AW X 0 [some (.ref (X.G.ad 1 o0)), some (.int x1)] [] μ := by
  refine aw_aload_n hX dX1_isCalled_0 rfl ?_
  refine aw_geti hX kf_X1_37 sh_1 ho0 rfl dX1_isCalled_1 ?_
  refine aw_iload_n hX dX1_isCalled_4 rfl ?_
  refine aw_ishr hX dX1_isCalled_5 ?_
  refine aw_iconst hX dX1_isCalled_6 zk_1 ?_
  refine aw_iand hX dX1_isCalled_7 ?_
  refine aw_iconst hX dX1_isCalled_8 zk_1 ?_
  refine aw_icmp_ne (tgt := 16) hX dX1_isCalled_9 (by decide) (fun c1 => ?_) (fun c1 => ?_)
  · have k := k.1 c1
    refine aw_iconst hX dX1_isCalled_16 zk_0 ?_
    exact aw_zret hX hr (by decide) dX1_isCalled_17 k
  · have k := k.2 c1
    refine aw_iconst hX dX1_isCalled_12 zk_1 ?_
    refine aw_goto (tgt := 17) hX dX1_isCalled_13 (by decide) ?_
    exact aw_zret hX hr (by decide) dX1_isCalled_17 k

set_option maxRecDepth 100000 in
set_option maxHeartbeats 4000000 in
theorem st_X1_settle_0 {X : zX} {lv : Nat} {Post : Option Value → zM → Prop} (hX : zOk X cX1_settle RX1 7 lv) (hr : zRt X none Post) {o0 : Nat} (ho0 : o0 < 49) {o1 : Nat} (ho1 : o1 < 6) {x2 : Int32} {μ : zM}
    (k : ((μ.1 1 o0 3) = 0 → (AW X 16 [some (.ref (X.G.ad 1 o0)), some (.ref (X.G.ad 2 o1)), some (.int x2), some (.int (0 : Int32)), some (.int (0 : Int32)), none, none] [] μ)) ∧ (¬ (μ.1 1 o0 3) = 0 → (AW X 16 [some (.ref (X.G.ad 1 o0)), some (.ref (X.G.ad 2 o1)), some (.int x2), some (.int (1 : Int32)), some (.int (0 : Int32)), none, none] [] μ))) :
    AW X 0 [some (.ref (X.G.ad 1 o0)), some (.ref (X.G.ad 2 o1)), some (.int x2), none, none, none, none] [] μ := by
  refine aw_aload_n hX dX1_settle_0 rfl ?_
  refine aw_geti hX kf_X1_37 sh_1 ho0 rfl dX1_settle_1 ?_
  refine aw_if_eq (tgt := 11) hX dX1_settle_4 (by decide) (fun c1 => ?_) (fun c1 => ?_)
  · have k := k.1 c1
    refine aw_iconst hX dX1_settle_11 zk_0 ?_
    refine aw_istore_n (L' := [some (.ref (X.G.ad 1 o0)), some (.ref (X.G.ad 2 o1)), some (.int x2), some (.int (0 : Int32)), none, none, none]) hX dX1_settle_12 (Nat.le_of_ble_eq_true rfl) rfl ?_
    refine aw_iconst hX dX1_settle_13 zk_0 ?_
    refine aw_istore (L' := [some (.ref (X.G.ad 1 o0)), some (.ref (X.G.ad 2 o1)), some (.int x2), some (.int (0 : Int32)), some (.int (0 : Int32)), none, none]) hX dX1_settle_14 (Nat.le_of_ble_eq_true rfl) rfl ?_
    exact k
  · have k := k.2 c1
    refine aw_iconst hX dX1_settle_7 zk_1 ?_
    refine aw_goto (tgt := 12) hX dX1_settle_8 (by decide) ?_
    refine aw_istore_n (L' := [some (.ref (X.G.ad 1 o0)), some (.ref (X.G.ad 2 o1)), some (.int x2), some (.int (1 : Int32)), none, none, none]) hX dX1_settle_12 (Nat.le_of_ble_eq_true rfl) rfl ?_
    refine aw_iconst hX dX1_settle_13 zk_0 ?_
    refine aw_istore (L' := [some (.ref (X.G.ad 1 o0)), some (.ref (X.G.ad 2 o1)), some (.int x2), some (.int (1 : Int32)), some (.int (0 : Int32)), none, none]) hX dX1_settle_14 (Nat.le_of_ble_eq_true rfl) rfl ?_
    exact k

set_option maxRecDepth 100000 in
set_option maxHeartbeats 4000000 in
theorem st_X1_settle_16 {X : zX} {lv : Nat} {Post : Option Value → zM → Prop} (hX : zOk X cX1_settle RX1 7 lv) (hr : zRt X none Post) {o0 : Nat} (ho0 : o0 < 49) {o1 : Nat} (ho1 : o1 < 6) {x2 : Int32} {x3 : Int32} {x4 : Int32} {μ : zM}
    (k : (x3 = 0 → (Post none μ)) ∧ (¬ x3 = 0 → (((1000000 : Int32) ≤ x4 → (Post none μ)) ∧ (¬ (1000000 : Int32) ≤ x4 → (AW X 32 [some (.ref (X.G.ad 1 o0)), some (.ref (X.G.ad 2 o1)), some (.int x2), some (.int (0 : Int32)), some (.int x4), some (.int (0 : Int32)), none] [] μ))))) :
    AW X 16 [some (.ref (X.G.ad 1 o0)), some (.ref (X.G.ad 2 o1)), some (.int x2), some (.int x3), some (.int x4), none, none] [] μ := by
  refine aw_iload_n hX dX1_settle_16 rfl ?_
  refine aw_if_eq (tgt := 130) hX dX1_settle_17 (by decide) (fun c1 => ?_) (fun c1 => ?_)
  · have k := k.1 c1
    exact aw_vret hX hr dX1_settle_130 k
  · have k := k.2 c1
    refine aw_iload hX dX1_settle_20 rfl ?_
    refine aw_ldc hX kc_X1_111 dX1_settle_22 ?_
    refine aw_icmp_ge (tgt := 130) hX dX1_settle_24 (by decide) (fun c2 => ?_) (fun c2 => ?_)
    · have k := k.1 c2
      exact aw_vret hX hr dX1_settle_130 k
    · have k := k.2 c2
      refine aw_iconst hX dX1_settle_27 zk_0 ?_
      refine aw_istore_n (L' := [some (.ref (X.G.ad 1 o0)), some (.ref (X.G.ad 2 o1)), some (.int x2), some (.int (0 : Int32)), some (.int x4), none, none]) hX dX1_settle_28 (Nat.le_of_ble_eq_true rfl) rfl ?_
      refine aw_iconst hX dX1_settle_29 zk_0 ?_
      refine aw_istore (L' := [some (.ref (X.G.ad 1 o0)), some (.ref (X.G.ad 2 o1)), some (.int x2), some (.int (0 : Int32)), some (.int x4), some (.int (0 : Int32)), none]) hX dX1_settle_30 (Nat.le_of_ble_eq_true rfl) rfl ?_
      exact k

set_option maxRecDepth 100000 in
set_option maxHeartbeats 4000000 in
theorem st_X1_settle_32 {X : zX} {lv : Nat} {Post : Option Value → zM → Prop} (hX : zOk X cX1_settle RX1 7 lv) (hr : zRt X none Post) {o0 : Nat} (ho0 : o0 < 49) {o1 : Nat} (ho1 : o1 < 6) {x2 : Int32} {x3 : Int32} {x4 : Int32} {x5 : Int32} {μ : zM}
    (k : ((μ.1 2 o1 2) ≤ x5 → (∀ v2 : Int32, v2 = x4 + (1 : Int32) → (AW X 16 [some (.ref (X.G.ad 1 o0)), some (.ref (X.G.ad 2 o1)), some (.int x2), some (.int x3), some (.int v2), none, none] [] μ))) ∧ (¬ (μ.1 2 o1 2) ≤ x5 → ((vp_in x5 10) ∧ (zCallI X lv yX1_isCalled cX1_isCalled 2 (some .boolean) [.ref (X.G.ad 1 o0), .int x5] μ (fun (r5 : Int32) μ6 => (r5 = 0 → (∀ v8 : Int32, v8 = x5 + (1 : Int32) → (AW X 32 [some (.ref (X.G.ad 1 o0)), some (.ref (X.G.ad 2 o1)), some (.int x2), some (.int x3), some (.int x4), some (.int v8), none] [] μ6))) ∧ (¬ r5 = 0 → (zCallI X lv yX1_take cX1_take 5 (some .boolean) [.ref (X.G.ad 1 o0), .int x5, .int (μ6.1 7 (10 * o1 + 0 + (ix x5)) 1), .int (μ6.1 7 (10 * o1 + 0 + (ix x5)) 0)] μ6 (fun (r9 : Int32) μ10 => ∀ v11 : Int32, v11 = (x3 ||| r9) → ((x2 = 0 → (∀ v13 : Int32, v13 = (v11 ||| (0 : Int32)) → (∀ v14 : Int32, v14 = x5 + (1 : Int32) → (AW X 32 [some (.ref (X.G.ad 1 o0)), some (.ref (X.G.ad 2 o1)), some (.int x2), some (.int v13), some (.int x4), some (.int v14), none] [] μ10)))) ∧ (¬ x2 = 0 → (((μ10.1 7 (10 * o1 + 0 + (ix x5)) 7) = (-1 : Int32) → (∀ v16 : Int32, v16 = (v11 ||| (0 : Int32)) → (∀ v17 : Int32, v17 = x5 + (1 : Int32) → (AW X 32 [some (.ref (X.G.ad 1 o0)), some (.ref (X.G.ad 2 o1)), some (.int x2), some (.int v16), some (.int x4), some (.int v17), none] [] μ10)))) ∧ (¬ (μ10.1 7 (10 * o1 + 0 + (ix x5)) 7) = (-1 : Int32) → (zCallI X lv yX1_take cX1_take 5 (some .boolean) [.ref (X.G.ad 1 o0), .int x5, .int (μ10.1 7 (10 * o1 + 0 + (ix x5)) 7), .int (μ10.1 7 (10 * o1 + 0 + (ix x5)) 0)] μ10 (fun (r18 : Int32) μ19 => (r18 = 0 → (∀ v21 : Int32, v21 = (v11 ||| (0 : Int32)) → (∀ v22 : Int32, v22 = x5 + (1 : Int32) → (AW X 32 [some (.ref (X.G.ad 1 o0)), some (.ref (X.G.ad 2 o1)), some (.int x2), some (.int v21), some (.int x4), some (.int v22), none] [] μ19)))) ∧ (¬ r18 = 0 → (∀ v23 : Int32, v23 = (v11 ||| (1 : Int32)) → (∀ v24 : Int32, v24 = x5 + (1 : Int32) → (AW X 32 [some (.ref (X.G.ad 1 o0)), some (.ref (X.G.ad 2 o1)), some (.int x2), some (.int v23), some (.int x4), some (.int v24), none] [] μ19)))))))))))))))))) :
    AW X 32 [some (.ref (X.G.ad 1 o0)), some (.ref (X.G.ad 2 o1)), some (.int x2), some (.int x3), some (.int x4), some (.int x5), none] [] μ := by
  refine aw_iload hX dX1_settle_32 rfl ?_
  refine aw_aload_n hX dX1_settle_34 rfl ?_
  refine aw_geti hX kf_X1_48 sh_2 ho1 rfl dX1_settle_35 ?_
  refine aw_icmp_ge (tgt := 124) hX dX1_settle_38 (by decide) (fun c1 => ?_) (fun c1 => ?_)
  · have k := k.1 c1
    obtain ⟨v2, ev2⟩ : ∃ y : Int32, y = x4 + (1 : Int32) := ⟨_, rfl⟩
    have k := k v2 ev2
    refine aw_iinc (v := v2) (L' := [some (.ref (X.G.ad 1 o0)), some (.ref (X.G.ad 2 o1)), some (.int x2), some (.int x3), some (.int v2), some (.int x5), none]) hX dX1_settle_124 rfl (by rw [ev2]; rfl) (Nat.le_of_ble_eq_true rfl) rfl ?_
    refine aw_goto (tgt := 16) hX dX1_settle_127 (by decide) ?_
    exact aw_less (zle_s (zle_s (zle_s (zle_s (zle_s (zle_o (zle_o zle_n))))))) k
  · have k := k.2 c1
    refine aw_aload_n hX dX1_settle_41 rfl ?_
    refine aw_getr (o' := o1) hX kf_X1_51 sh_2 ho1 rfl (Nat.one_mul o1) dX1_settle_42 ?_
    refine aw_iload hX dX1_settle_45 rfl ?_
    have s3 := k.1
    have k := k.2
    refine aw_aald' (k := (ix x5)) (o' := (10 * o1 + 0 + (ix x5))) (C := "RainLoans$Terms") hX sh_22 ho1 rfl s3 rfl rfl dX1_settle_47 ?_
    have w4 : (10 * o1 + 0 + (ix x5)) < 60 := by have := zix s3; omega
    refine aw_astore (L' := [some (.ref (X.G.ad 1 o0)), some (.ref (X.G.ad 2 o1)), some (.int x2), some (.int x3), some (.int x4), some (.int x5), some (.ref (X.G.ad 7 (10 * o1 + 0 + (ix x5))))]) hX dX1_settle_48 (Nat.le_of_ble_eq_true rfl) rfl ?_
    refine aw_aload_n hX dX1_settle_50 rfl ?_
    refine aw_iload hX dX1_settle_51 rfl ?_
    refine aw_invI (As := [.int x5]) (rest := []) (κ := 1) (o := o0) (T := TX1) (N := 9) hX vc_X1_112 sh_1 ho0 rfl rfl rfl (Nat.le_of_ble_eq_true rfl) dX1_settle_53 k (fun r5 μ6 k => ?_)
    refine aw_if_eq (tgt := 118) hX dX1_settle_56 (by decide) (fun c7 => ?_) (fun c7 => ?_)
    · have k := k.1 c7
      obtain ⟨v8, ev8⟩ : ∃ y : Int32, y = x5 + (1 : Int32) := ⟨_, rfl⟩
      have k := k v8 ev8
      refine aw_iinc (v := v8) (L' := [some (.ref (X.G.ad 1 o0)), some (.ref (X.G.ad 2 o1)), some (.int x2), some (.int x3), some (.int x4), some (.int v8), some (.ref (X.G.ad 7 (10 * o1 + 0 + (ix x5))))]) hX dX1_settle_118 rfl (by rw [ev8]; rfl) (Nat.le_of_ble_eq_true rfl) rfl ?_
      refine aw_goto (tgt := 32) hX dX1_settle_121 (by decide) ?_
      exact aw_less (zle_s (zle_s (zle_s (zle_s (zle_s (zle_s (zle_o zle_n))))))) k
    · have k := k.2 c7
      refine aw_iload_n hX dX1_settle_59 rfl ?_
      refine aw_aload_n hX dX1_settle_60 rfl ?_
      refine aw_iload hX dX1_settle_61 rfl ?_
      refine aw_aload hX dX1_settle_63 rfl ?_
      refine aw_geti hX kf_X1_104 sh_7 w4 rfl dX1_settle_65 ?_
      refine aw_aload hX dX1_settle_68 rfl ?_
      refine aw_geti hX kf_X1_115 sh_7 w4 rfl dX1_settle_70 ?_
      refine aw_invI (As := [.int x5, .int (μ6.1 7 (10 * o1 + 0 + (ix x5)) 1), .int (μ6.1 7 (10 * o1 + 0 + (ix x5)) 0)]) (rest := [.int x3]) (κ := 1) (o := o0) (T := TX1) (N := 9) hX vc_X1_118 sh_1 ho0 rfl rfl rfl (Nat.le_of_ble_eq_true rfl) dX1_settle_73 k (fun r9 μ10 k => ?_)
      refine aw_ior hX dX1_settle_76 ?_
      refine aw_topi (fun v11 ev11 => ?_)
      have k := k v11 ev11
      refine aw_istore_n (L' := [some (.ref (X.G.ad 1 o0)), some (.ref (X.G.ad 2 o1)), some (.int x2), some (.int v11), some (.int x4), some (.int x5), some (.ref (X.G.ad 7 (10 * o1 + 0 + (ix x5))))]) hX dX1_settle_77 (Nat.le_of_ble_eq_true rfl) rfl ?_
      refine aw_iload_n hX dX1_settle_78 rfl ?_
      refine aw_iload_n hX dX1_settle_79 rfl ?_
      refine aw_if_eq (tgt := 115) hX dX1_settle_80 (by decide) (fun c12 => ?_) (fun c12 => ?_)
      · have k := k.1 c12
        refine aw_iconst hX dX1_settle_115 zk_0 ?_
        refine aw_ior hX dX1_settle_116 ?_
        refine aw_topi (fun v13 ev13 => ?_)
        have k := k v13 ev13
        refine aw_istore_n (L' := [some (.ref (X.G.ad 1 o0)), some (.ref (X.G.ad 2 o1)), some (.int x2), some (.int v13), some (.int x4), some (.int x5), some (.ref (X.G.ad 7 (10 * o1 + 0 + (ix x5))))]) hX dX1_settle_117 (Nat.le_of_ble_eq_true rfl) rfl ?_
        obtain ⟨v14, ev14⟩ : ∃ y : Int32, y = x5 + (1 : Int32) := ⟨_, rfl⟩
        have k := k v14 ev14
        refine aw_iinc (v := v14) (L' := [some (.ref (X.G.ad 1 o0)), some (.ref (X.G.ad 2 o1)), some (.int x2), some (.int v13), some (.int x4), some (.int v14), some (.ref (X.G.ad 7 (10 * o1 + 0 + (ix x5))))]) hX dX1_settle_118 rfl (by rw [ev14]; rfl) (Nat.le_of_ble_eq_true rfl) rfl ?_
        refine aw_goto (tgt := 32) hX dX1_settle_121 (by decide) ?_
        exact aw_less (zle_s (zle_s (zle_s (zle_s (zle_s (zle_s (zle_o zle_n))))))) k
      · have k := k.2 c12
        refine aw_aload hX dX1_settle_83 rfl ?_
        refine aw_geti hX kf_X1_122 sh_7 w4 rfl dX1_settle_85 ?_
        refine aw_iconst hX dX1_settle_88 zk_m1 ?_
        refine aw_icmp_eq (tgt := 115) hX dX1_settle_89 (by decide) (fun c15 => ?_) (fun c15 => ?_)
        · have k := k.1 c15
          refine aw_iconst hX dX1_settle_115 zk_0 ?_
          refine aw_ior hX dX1_settle_116 ?_
          refine aw_topi (fun v16 ev16 => ?_)
          have k := k v16 ev16
          refine aw_istore_n (L' := [some (.ref (X.G.ad 1 o0)), some (.ref (X.G.ad 2 o1)), some (.int x2), some (.int v16), some (.int x4), some (.int x5), some (.ref (X.G.ad 7 (10 * o1 + 0 + (ix x5))))]) hX dX1_settle_117 (Nat.le_of_ble_eq_true rfl) rfl ?_
          obtain ⟨v17, ev17⟩ : ∃ y : Int32, y = x5 + (1 : Int32) := ⟨_, rfl⟩
          have k := k v17 ev17
          refine aw_iinc (v := v17) (L' := [some (.ref (X.G.ad 1 o0)), some (.ref (X.G.ad 2 o1)), some (.int x2), some (.int v16), some (.int x4), some (.int v17), some (.ref (X.G.ad 7 (10 * o1 + 0 + (ix x5))))]) hX dX1_settle_118 rfl (by rw [ev17]; rfl) (Nat.le_of_ble_eq_true rfl) rfl ?_
          refine aw_goto (tgt := 32) hX dX1_settle_121 (by decide) ?_
          exact aw_less (zle_s (zle_s (zle_s (zle_s (zle_s (zle_s (zle_o zle_n))))))) k
        · have k := k.2 c15
          refine aw_aload_n hX dX1_settle_92 rfl ?_
          refine aw_iload hX dX1_settle_93 rfl ?_
          refine aw_aload hX dX1_settle_95 rfl ?_
          refine aw_geti hX kf_X1_122 sh_7 w4 rfl dX1_settle_97 ?_
          refine aw_aload hX dX1_settle_100 rfl ?_
          refine aw_geti hX kf_X1_115 sh_7 w4 rfl dX1_settle_102 ?_
          refine aw_invI (As := [.int x5, .int (μ10.1 7 (10 * o1 + 0 + (ix x5)) 7), .int (μ10.1 7 (10 * o1 + 0 + (ix x5)) 0)]) (rest := [.int v11]) (κ := 1) (o := o0) (T := TX1) (N := 9) hX vc_X1_118 sh_1 ho0 rfl rfl rfl (Nat.le_of_ble_eq_true rfl) dX1_settle_105 k (fun r18 μ19 k => ?_)
          refine aw_if_eq (tgt := 115) hX dX1_settle_108 (by decide) (fun c20 => ?_) (fun c20 => ?_)
          · have k := k.1 c20
            refine aw_iconst hX dX1_settle_115 zk_0 ?_
            refine aw_ior hX dX1_settle_116 ?_
            refine aw_topi (fun v21 ev21 => ?_)
            have k := k v21 ev21
            refine aw_istore_n (L' := [some (.ref (X.G.ad 1 o0)), some (.ref (X.G.ad 2 o1)), some (.int x2), some (.int v21), some (.int x4), some (.int x5), some (.ref (X.G.ad 7 (10 * o1 + 0 + (ix x5))))]) hX dX1_settle_117 (Nat.le_of_ble_eq_true rfl) rfl ?_
            obtain ⟨v22, ev22⟩ : ∃ y : Int32, y = x5 + (1 : Int32) := ⟨_, rfl⟩
            have k := k v22 ev22
            refine aw_iinc (v := v22) (L' := [some (.ref (X.G.ad 1 o0)), some (.ref (X.G.ad 2 o1)), some (.int x2), some (.int v21), some (.int x4), some (.int v22), some (.ref (X.G.ad 7 (10 * o1 + 0 + (ix x5))))]) hX dX1_settle_118 rfl (by rw [ev22]; rfl) (Nat.le_of_ble_eq_true rfl) rfl ?_
            refine aw_goto (tgt := 32) hX dX1_settle_121 (by decide) ?_
            exact aw_less (zle_s (zle_s (zle_s (zle_s (zle_s (zle_s (zle_o zle_n))))))) k
          · have k := k.2 c20
            refine aw_iconst hX dX1_settle_111 zk_1 ?_
            refine aw_goto (tgt := 116) hX dX1_settle_112 (by decide) ?_
            refine aw_ior hX dX1_settle_116 ?_
            refine aw_topi (fun v23 ev23 => ?_)
            have k := k v23 ev23
            refine aw_istore_n (L' := [some (.ref (X.G.ad 1 o0)), some (.ref (X.G.ad 2 o1)), some (.int x2), some (.int v23), some (.int x4), some (.int x5), some (.ref (X.G.ad 7 (10 * o1 + 0 + (ix x5))))]) hX dX1_settle_117 (Nat.le_of_ble_eq_true rfl) rfl ?_
            obtain ⟨v24, ev24⟩ : ∃ y : Int32, y = x5 + (1 : Int32) := ⟨_, rfl⟩
            have k := k v24 ev24
            refine aw_iinc (v := v24) (L' := [some (.ref (X.G.ad 1 o0)), some (.ref (X.G.ad 2 o1)), some (.int x2), some (.int v23), some (.int x4), some (.int v24), some (.ref (X.G.ad 7 (10 * o1 + 0 + (ix x5))))]) hX dX1_settle_118 rfl (by rw [ev24]; rfl) (Nat.le_of_ble_eq_true rfl) rfl ?_
            refine aw_goto (tgt := 32) hX dX1_settle_121 (by decide) ?_
            exact aw_less (zle_s (zle_s (zle_s (zle_s (zle_s (zle_s (zle_o zle_n))))))) k

set_option maxRecDepth 100000 in
set_option maxHeartbeats 4000000 in
theorem st_X1_take_0 {X : zX} {lv : Nat} {Post : Option Value → zM → Prop} (hX : zOk X cX1_take RX1 5 lv) (hr : zRt X (some .boolean) Post) {o0 : Nat} (ho0 : o0 < 49) {x1 : Int32} {x2 : Int32} {x3 : Int32} {μ : zM}
    (k : (vp_in x1 10) ∧ ((vp_in x2 6) ∧ (((μ.1 14 o0 (ix x2)) ≤ (μ.1 15 o0 (ix x1)) → (∀ v4 : Int32, v4 = (μ.1 14 o0 (ix x2)) → ((0 < v4 → (∀ μ6 : zM, μ6 = pI μ 14 o0 (ix x2) ((μ.1 14 o0 (ix x2)) - v4) → ((vp_in x3 6) ∧ (∀ μ8 : zM, μ8 = pI μ6 14 o0 (ix x3) ((μ6.1 14 o0 (ix x3)) + v4) → (∀ μ9 : zM, μ9 = pI μ8 15 o0 (ix x1) ((μ8.1 15 o0 (ix x1)) - v4) → (∀ μ10 : zM, μ10 = pI μ9 18 o0 (ix x1) ((μ9.1 18 o0 (ix x1)) + v4) → (Post (some (.int (1 : Int32))) μ10))))))) ∧ (¬ 0 < v4 → (Post (some (.int (0 : Int32))) μ))))) ∧ (¬ (μ.1 14 o0 (ix x2)) ≤ (μ.1 15 o0 (ix x1)) → (∀ v11 : Int32, v11 = (μ.1 15 o0 (ix x1)) → ((0 < v11 → (∀ μ13 : zM, μ13 = pI μ 14 o0 (ix x2) ((μ.1 14 o0 (ix x2)) - v11) → ((vp_in x3 6) ∧ (∀ μ15 : zM, μ15 = pI μ13 14 o0 (ix x3) ((μ13.1 14 o0 (ix x3)) + v11) → (∀ μ16 : zM, μ16 = pI μ15 15 o0 (ix x1) ((μ15.1 15 o0 (ix x1)) - v11) → (∀ μ17 : zM, μ17 = pI μ16 18 o0 (ix x1) ((μ16.1 18 o0 (ix x1)) + v11) → (Post (some (.int (1 : Int32))) μ17))))))) ∧ (¬ 0 < v11 → (Post (some (.int (0 : Int32))) μ)))))))) :
    AW X 0 [some (.ref (X.G.ad 1 o0)), some (.int x1), some (.int x2), some (.int x3), none] [] μ := by
  refine aw_aload_n hX dX1_take_0 rfl ?_
  refine aw_getr (o' := o0) hX kf_X1_15 sh_1 ho0 rfl (Nat.one_mul o0) dX1_take_1 ?_
  refine aw_iload_n hX dX1_take_4 rfl ?_
  have s1 := k.1
  have k := k.2
  refine aw_iald' (k := (ix x1)) hX sh_15 ho0 s1 rfl dX1_take_5 ?_
  refine aw_aload_n hX dX1_take_6 rfl ?_
  refine aw_getr (o' := o0) hX kf_X1_9 sh_1 ho0 rfl (Nat.one_mul o0) dX1_take_7 ?_
  refine aw_iload_n hX dX1_take_10 rfl ?_
  have s2 := k.1
  have k := k.2
  refine aw_iald' (k := (ix x2)) hX sh_14 ho0 s2 rfl dX1_take_11 ?_
  refine aw_icmp_ge (tgt := 24) hX dX1_take_12 (by decide) (fun c3 => ?_) (fun c3 => ?_)
  · have k := k.1 c3
    refine aw_aload_n hX dX1_take_24 rfl ?_
    refine aw_getr (o' := o0) hX kf_X1_9 sh_1 ho0 rfl (Nat.one_mul o0) dX1_take_25 ?_
    refine aw_iload_n hX dX1_take_28 rfl ?_
    refine aw_iald' (k := (ix x2)) hX sh_14 ho0 s2 rfl dX1_take_29 ?_
    refine aw_topi (fun v4 ev4 => ?_)
    have k := k v4 ev4
    refine aw_istore (L' := [some (.ref (X.G.ad 1 o0)), some (.int x1), some (.int x2), some (.int x3), some (.int v4)]) hX dX1_take_30 (Nat.le_of_ble_eq_true rfl) rfl ?_
    refine aw_iload hX dX1_take_32 rfl ?_
    refine aw_if_gt (tgt := 39) hX dX1_take_34 (by decide) (fun c5 => ?_) (fun c5 => ?_)
    · have k := k.1 c5
      refine aw_aload_n hX dX1_take_39 rfl ?_
      refine aw_getr (o' := o0) hX kf_X1_9 sh_1 ho0 rfl (Nat.one_mul o0) dX1_take_40 ?_
      refine aw_iload_n hX dX1_take_43 rfl ?_
      refine aw_dup2 hX dX1_take_44 rfl rfl ?_
      refine aw_iald' (k := (ix x2)) hX sh_14 ho0 s2 rfl dX1_take_45 ?_
      refine aw_iload hX dX1_take_46 rfl ?_
      refine aw_isub hX dX1_take_48 ?_
      refine aw_iast' (k := (ix x2)) hX sh_14 ho0 s2 rfl dX1_take_49 ?_
      refine aw_mem (fun μ6 eμ6 => ?_)
      have k := k μ6 eμ6
      refine aw_aload_n hX dX1_take_50 rfl ?_
      refine aw_getr (o' := o0) hX kf_X1_9 sh_1 ho0 rfl (Nat.one_mul o0) dX1_take_51 ?_
      refine aw_iload_n hX dX1_take_54 rfl ?_
      refine aw_dup2 hX dX1_take_55 rfl rfl ?_
      have s7 := k.1
      have k := k.2
      refine aw_iald' (k := (ix x3)) hX sh_14 ho0 s7 rfl dX1_take_56 ?_
      refine aw_iload hX dX1_take_57 rfl ?_
      refine aw_iadd hX dX1_take_59 ?_
      refine aw_iast' (k := (ix x3)) hX sh_14 ho0 s7 rfl dX1_take_60 ?_
      refine aw_mem (fun μ8 eμ8 => ?_)
      have k := k μ8 eμ8
      refine aw_aload_n hX dX1_take_61 rfl ?_
      refine aw_getr (o' := o0) hX kf_X1_15 sh_1 ho0 rfl (Nat.one_mul o0) dX1_take_62 ?_
      refine aw_iload_n hX dX1_take_65 rfl ?_
      refine aw_dup2 hX dX1_take_66 rfl rfl ?_
      refine aw_iald' (k := (ix x1)) hX sh_15 ho0 s1 rfl dX1_take_67 ?_
      refine aw_iload hX dX1_take_68 rfl ?_
      refine aw_isub hX dX1_take_70 ?_
      refine aw_iast' (k := (ix x1)) hX sh_15 ho0 s1 rfl dX1_take_71 ?_
      refine aw_mem (fun μ9 eμ9 => ?_)
      have k := k μ9 eμ9
      refine aw_aload_n hX dX1_take_72 rfl ?_
      refine aw_getr (o' := o0) hX kf_X1_24 sh_1 ho0 rfl (Nat.one_mul o0) dX1_take_73 ?_
      refine aw_iload_n hX dX1_take_76 rfl ?_
      refine aw_dup2 hX dX1_take_77 rfl rfl ?_
      refine aw_iald' (k := (ix x1)) hX sh_18 ho0 s1 rfl dX1_take_78 ?_
      refine aw_iload hX dX1_take_79 rfl ?_
      refine aw_iadd hX dX1_take_81 ?_
      refine aw_iast' (k := (ix x1)) hX sh_18 ho0 s1 rfl dX1_take_82 ?_
      refine aw_mem (fun μ10 eμ10 => ?_)
      have k := k μ10 eμ10
      refine aw_iconst hX dX1_take_83 zk_1 ?_
      exact aw_zret hX hr (by decide) dX1_take_84 k
    · have k := k.2 c5
      refine aw_iconst hX dX1_take_37 zk_0 ?_
      exact aw_zret hX hr (by decide) dX1_take_38 k
  · have k := k.2 c3
    refine aw_aload_n hX dX1_take_15 rfl ?_
    refine aw_getr (o' := o0) hX kf_X1_15 sh_1 ho0 rfl (Nat.one_mul o0) dX1_take_16 ?_
    refine aw_iload_n hX dX1_take_19 rfl ?_
    refine aw_iald' (k := (ix x1)) hX sh_15 ho0 s1 rfl dX1_take_20 ?_
    refine aw_goto (tgt := 30) hX dX1_take_21 (by decide) ?_
    refine aw_topi (fun v11 ev11 => ?_)
    have k := k v11 ev11
    refine aw_istore (L' := [some (.ref (X.G.ad 1 o0)), some (.int x1), some (.int x2), some (.int x3), some (.int v11)]) hX dX1_take_30 (Nat.le_of_ble_eq_true rfl) rfl ?_
    refine aw_iload hX dX1_take_32 rfl ?_
    refine aw_if_gt (tgt := 39) hX dX1_take_34 (by decide) (fun c12 => ?_) (fun c12 => ?_)
    · have k := k.1 c12
      refine aw_aload_n hX dX1_take_39 rfl ?_
      refine aw_getr (o' := o0) hX kf_X1_9 sh_1 ho0 rfl (Nat.one_mul o0) dX1_take_40 ?_
      refine aw_iload_n hX dX1_take_43 rfl ?_
      refine aw_dup2 hX dX1_take_44 rfl rfl ?_
      refine aw_iald' (k := (ix x2)) hX sh_14 ho0 s2 rfl dX1_take_45 ?_
      refine aw_iload hX dX1_take_46 rfl ?_
      refine aw_isub hX dX1_take_48 ?_
      refine aw_iast' (k := (ix x2)) hX sh_14 ho0 s2 rfl dX1_take_49 ?_
      refine aw_mem (fun μ13 eμ13 => ?_)
      have k := k μ13 eμ13
      refine aw_aload_n hX dX1_take_50 rfl ?_
      refine aw_getr (o' := o0) hX kf_X1_9 sh_1 ho0 rfl (Nat.one_mul o0) dX1_take_51 ?_
      refine aw_iload_n hX dX1_take_54 rfl ?_
      refine aw_dup2 hX dX1_take_55 rfl rfl ?_
      have s14 := k.1
      have k := k.2
      refine aw_iald' (k := (ix x3)) hX sh_14 ho0 s14 rfl dX1_take_56 ?_
      refine aw_iload hX dX1_take_57 rfl ?_
      refine aw_iadd hX dX1_take_59 ?_
      refine aw_iast' (k := (ix x3)) hX sh_14 ho0 s14 rfl dX1_take_60 ?_
      refine aw_mem (fun μ15 eμ15 => ?_)
      have k := k μ15 eμ15
      refine aw_aload_n hX dX1_take_61 rfl ?_
      refine aw_getr (o' := o0) hX kf_X1_15 sh_1 ho0 rfl (Nat.one_mul o0) dX1_take_62 ?_
      refine aw_iload_n hX dX1_take_65 rfl ?_
      refine aw_dup2 hX dX1_take_66 rfl rfl ?_
      refine aw_iald' (k := (ix x1)) hX sh_15 ho0 s1 rfl dX1_take_67 ?_
      refine aw_iload hX dX1_take_68 rfl ?_
      refine aw_isub hX dX1_take_70 ?_
      refine aw_iast' (k := (ix x1)) hX sh_15 ho0 s1 rfl dX1_take_71 ?_
      refine aw_mem (fun μ16 eμ16 => ?_)
      have k := k μ16 eμ16
      refine aw_aload_n hX dX1_take_72 rfl ?_
      refine aw_getr (o' := o0) hX kf_X1_24 sh_1 ho0 rfl (Nat.one_mul o0) dX1_take_73 ?_
      refine aw_iload_n hX dX1_take_76 rfl ?_
      refine aw_dup2 hX dX1_take_77 rfl rfl ?_
      refine aw_iald' (k := (ix x1)) hX sh_18 ho0 s1 rfl dX1_take_78 ?_
      refine aw_iload hX dX1_take_79 rfl ?_
      refine aw_iadd hX dX1_take_81 ?_
      refine aw_iast' (k := (ix x1)) hX sh_18 ho0 s1 rfl dX1_take_82 ?_
      refine aw_mem (fun μ17 eμ17 => ?_)
      have k := k μ17 eμ17
      refine aw_iconst hX dX1_take_83 zk_1 ?_
      exact aw_zret hX hr (by decide) dX1_take_84 k
    · have k := k.2 c12
      refine aw_iconst hX dX1_take_37 zk_0 ?_
      exact aw_zret hX hr (by decide) dX1_take_38 k

set_option maxRecDepth 100000 in
set_option maxHeartbeats 4000000 in
theorem st_X1_closePaid_0 {X : zX} {lv : Nat} {Post : Option Value → zM → Prop} (hX : zOk X cX1_closePaid RX1 3 lv) (hr : zRt X none Post) {o0 : Nat} (ho0 : o0 < 49) {o1 : Nat} (ho1 : o1 < 6)  {μ : zM}
    (k : AW X 2 [some (.ref (X.G.ad 1 o0)), some (.ref (X.G.ad 2 o1)), some (.int (0 : Int32))] [] μ) :
    AW X 0 [some (.ref (X.G.ad 1 o0)), some (.ref (X.G.ad 2 o1)), none] [] μ := by
  refine aw_iconst hX dX1_closePaid_0 zk_0 ?_
  refine aw_istore_n (L' := [some (.ref (X.G.ad 1 o0)), some (.ref (X.G.ad 2 o1)), some (.int (0 : Int32))]) hX dX1_closePaid_1 (Nat.le_of_ble_eq_true rfl) rfl ?_
  exact k

set_option maxRecDepth 100000 in
set_option maxHeartbeats 4000000 in
theorem st_X1_closePaid_2 {X : zX} {lv : Nat} {Post : Option Value → zM → Prop} (hX : zOk X cX1_closePaid RX1 3 lv) (hr : zRt X none Post) {o0 : Nat} (ho0 : o0 < 49) {o1 : Nat} (ho1 : o1 < 6) {x2 : Int32} {μ : zM}
    (k : ((μ.1 2 o1 2) ≤ x2 → (Post none μ)) ∧ (¬ (μ.1 2 o1 2) ≤ x2 → ((vp_in x2 10) ∧ ((¬ (μ.1 15 o0 (ix x2)) = 0 → (∀ v4 : Int32, v4 = x2 + (1 : Int32) → (AW X 2 [some (.ref (X.G.ad 1 o0)), some (.ref (X.G.ad 2 o1)), some (.int v4)] [] μ))) ∧ ((μ.1 15 o0 (ix x2)) = 0 → (∀ μ5 : zM, μ5 = pI μ 16 o0 (ix x2) (2 : Int32) → (∀ v6 : Int32, v6 = x2 + (1 : Int32) → (AW X 2 [some (.ref (X.G.ad 1 o0)), some (.ref (X.G.ad 2 o1)), some (.int v6)] [] μ5)))))))) :
    AW X 2 [some (.ref (X.G.ad 1 o0)), some (.ref (X.G.ad 2 o1)), some (.int x2)] [] μ := by
  refine aw_iload_n hX dX1_closePaid_2 rfl ?_
  refine aw_aload_n hX dX1_closePaid_3 rfl ?_
  refine aw_geti hX kf_X1_48 sh_2 ho1 rfl dX1_closePaid_4 ?_
  refine aw_icmp_ge (tgt := 32) hX dX1_closePaid_7 (by decide) (fun c1 => ?_) (fun c1 => ?_)
  · have k := k.1 c1
    exact aw_vret hX hr dX1_closePaid_32 k
  · have k := k.2 c1
    refine aw_aload_n hX dX1_closePaid_10 rfl ?_
    refine aw_getr (o' := o0) hX kf_X1_15 sh_1 ho0 rfl (Nat.one_mul o0) dX1_closePaid_11 ?_
    refine aw_iload_n hX dX1_closePaid_14 rfl ?_
    have s2 := k.1
    have k := k.2
    refine aw_iald' (k := (ix x2)) hX sh_15 ho0 s2 rfl dX1_closePaid_15 ?_
    refine aw_if_ne (tgt := 26) hX dX1_closePaid_16 (by decide) (fun c3 => ?_) (fun c3 => ?_)
    · have k := k.1 c3
      obtain ⟨v4, ev4⟩ : ∃ y : Int32, y = x2 + (1 : Int32) := ⟨_, rfl⟩
      have k := k v4 ev4
      refine aw_iinc (v := v4) (L' := [some (.ref (X.G.ad 1 o0)), some (.ref (X.G.ad 2 o1)), some (.int v4)]) hX dX1_closePaid_26 rfl (by rw [ev4]; rfl) (Nat.le_of_ble_eq_true rfl) rfl ?_
      refine aw_goto (tgt := 2) hX dX1_closePaid_29 (by decide) ?_
      exact k
    · have k := k.2 c3
      refine aw_aload_n hX dX1_closePaid_19 rfl ?_
      refine aw_getr (o' := o0) hX kf_X1_18 sh_1 ho0 rfl (Nat.one_mul o0) dX1_closePaid_20 ?_
      refine aw_iload_n hX dX1_closePaid_23 rfl ?_
      refine aw_iconst hX dX1_closePaid_24 zk_2 ?_
      refine aw_iast' (k := (ix x2)) hX sh_16 ho0 s2 rfl dX1_closePaid_25 ?_
      refine aw_mem (fun μ5 eμ5 => ?_)
      have k := k μ5 eμ5
      obtain ⟨v6, ev6⟩ : ∃ y : Int32, y = x2 + (1 : Int32) := ⟨_, rfl⟩
      have k := k v6 ev6
      refine aw_iinc (v := v6) (L' := [some (.ref (X.G.ad 1 o0)), some (.ref (X.G.ad 2 o1)), some (.int v6)]) hX dX1_closePaid_26 rfl (by rw [ev6]; rfl) (Nat.le_of_ble_eq_true rfl) rfl ?_
      refine aw_goto (tgt := 2) hX dX1_closePaid_29 (by decide) ?_
      exact k

set_option maxRecDepth 100000 in
set_option maxHeartbeats 4000000 in
theorem st_X1_brokenPersons_0 {X : zX} {lv : Nat} {Post : Option Value → zM → Prop} (hX : zOk X cX1_brokenPersons RX1 4 lv) (hr : zRt X (some .int) Post) {o0 : Nat} (ho0 : o0 < 49) {o1 : Nat} (ho1 : o1 < 6)  {μ : zM}
    (k : AW X 4 [some (.ref (X.G.ad 1 o0)), some (.ref (X.G.ad 2 o1)), some (.int (0 : Int32)), some (.int (0 : Int32))] [] μ) :
    AW X 0 [some (.ref (X.G.ad 1 o0)), some (.ref (X.G.ad 2 o1)), none, none] [] μ := by
  refine aw_iconst hX dX1_brokenPersons_0 zk_0 ?_
  refine aw_istore_n (L' := [some (.ref (X.G.ad 1 o0)), some (.ref (X.G.ad 2 o1)), some (.int (0 : Int32)), none]) hX dX1_brokenPersons_1 (Nat.le_of_ble_eq_true rfl) rfl ?_
  refine aw_iconst hX dX1_brokenPersons_2 zk_0 ?_
  refine aw_istore_n (L' := [some (.ref (X.G.ad 1 o0)), some (.ref (X.G.ad 2 o1)), some (.int (0 : Int32)), some (.int (0 : Int32))]) hX dX1_brokenPersons_3 (Nat.le_of_ble_eq_true rfl) rfl ?_
  exact k

set_option maxRecDepth 100000 in
set_option maxHeartbeats 4000000 in
theorem st_X1_brokenPersons_4 {X : zX} {lv : Nat} {Post : Option Value → zM → Prop} (hX : zOk X cX1_brokenPersons RX1 4 lv) (hr : zRt X (some .int) Post) {o0 : Nat} (ho0 : o0 < 49) {o1 : Nat} (ho1 : o1 < 6) {x2 : Int32} {x3 : Int32} {μ : zM}
    (k : ((μ.1 2 o1 2) ≤ x3 → (Post (some (.int x2)) μ)) ∧ (¬ (μ.1 2 o1 2) ≤ x3 → (zCallI X lv yX1_isCalled cX1_isCalled 2 (some .boolean) [.ref (X.G.ad 1 o0), .int x3] μ (fun (r2 : Int32) μ3 => (r2 = 0 → (∀ v5 : Int32, v5 = x3 + (1 : Int32) → (AW X 4 [some (.ref (X.G.ad 1 o0)), some (.ref (X.G.ad 2 o1)), some (.int x2), some (.int v5)] [] μ3))) ∧ (¬ r2 = 0 → ((vp_in x3 10) ∧ (((μ3.1 16 o0 (ix x3)) = (2 : Int32) → (∀ v8 : Int32, v8 = x3 + (1 : Int32) → (AW X 4 [some (.ref (X.G.ad 1 o0)), some (.ref (X.G.ad 2 o1)), some (.int x2), some (.int v8)] [] μ3))) ∧ (¬ (μ3.1 16 o0 (ix x3)) = (2 : Int32) → (∀ v10 : Int32, v10 = (x2 ||| ((1 : Int32) <<< ((μ3.1 7 (10 * o1 + 0 + (ix x3)) 1) &&& 31))) → (∀ v11 : Int32, v11 = x3 + (1 : Int32) → (AW X 4 [some (.ref (X.G.ad 1 o0)), some (.ref (X.G.ad 2 o1)), some (.int v10), some (.int v11)] [] μ3))))))))))) :
    AW X 4 [some (.ref (X.G.ad 1 o0)), some (.ref (X.G.ad 2 o1)), some (.int x2), some (.int x3)] [] μ := by
  refine aw_iload_n hX dX1_brokenPersons_4 rfl ?_
  refine aw_aload_n hX dX1_brokenPersons_5 rfl ?_
  refine aw_geti hX kf_X1_48 sh_2 ho1 rfl dX1_brokenPersons_6 ?_
  refine aw_icmp_ge (tgt := 50) hX dX1_brokenPersons_9 (by decide) (fun c1 => ?_) (fun c1 => ?_)
  · have k := k.1 c1
    refine aw_iload_n hX dX1_brokenPersons_50 rfl ?_
    exact aw_iret hX hr dX1_brokenPersons_51 k
  · have k := k.2 c1
    refine aw_aload_n hX dX1_brokenPersons_12 rfl ?_
    refine aw_iload_n hX dX1_brokenPersons_13 rfl ?_
    refine aw_invI (As := [.int x3]) (rest := []) (κ := 1) (o := o0) (T := TX1) (N := 9) hX vc_X1_112 sh_1 ho0 rfl rfl rfl (Nat.le_of_ble_eq_true rfl) dX1_brokenPersons_14 k (fun r2 μ3 k => ?_)
    refine aw_if_eq (tgt := 44) hX dX1_brokenPersons_17 (by decide) (fun c4 => ?_) (fun c4 => ?_)
    · have k := k.1 c4
      obtain ⟨v5, ev5⟩ : ∃ y : Int32, y = x3 + (1 : Int32) := ⟨_, rfl⟩
      have k := k v5 ev5
      refine aw_iinc (v := v5) (L' := [some (.ref (X.G.ad 1 o0)), some (.ref (X.G.ad 2 o1)), some (.int x2), some (.int v5)]) hX dX1_brokenPersons_44 rfl (by rw [ev5]; rfl) (Nat.le_of_ble_eq_true rfl) rfl ?_
      refine aw_goto (tgt := 4) hX dX1_brokenPersons_47 (by decide) ?_
      exact k
    · have k := k.2 c4
      refine aw_aload_n hX dX1_brokenPersons_20 rfl ?_
      refine aw_getr (o' := o0) hX kf_X1_18 sh_1 ho0 rfl (Nat.one_mul o0) dX1_brokenPersons_21 ?_
      refine aw_iload_n hX dX1_brokenPersons_24 rfl ?_
      have s6 := k.1
      have k := k.2
      refine aw_iald' (k := (ix x3)) hX sh_16 ho0 s6 rfl dX1_brokenPersons_25 ?_
      refine aw_iconst hX dX1_brokenPersons_26 zk_2 ?_
      refine aw_icmp_eq (tgt := 44) hX dX1_brokenPersons_27 (by decide) (fun c7 => ?_) (fun c7 => ?_)
      · have k := k.1 c7
        obtain ⟨v8, ev8⟩ : ∃ y : Int32, y = x3 + (1 : Int32) := ⟨_, rfl⟩
        have k := k v8 ev8
        refine aw_iinc (v := v8) (L' := [some (.ref (X.G.ad 1 o0)), some (.ref (X.G.ad 2 o1)), some (.int x2), some (.int v8)]) hX dX1_brokenPersons_44 rfl (by rw [ev8]; rfl) (Nat.le_of_ble_eq_true rfl) rfl ?_
        refine aw_goto (tgt := 4) hX dX1_brokenPersons_47 (by decide) ?_
        exact k
      · have k := k.2 c7
        refine aw_iload_n hX dX1_brokenPersons_30 rfl ?_
        refine aw_iconst hX dX1_brokenPersons_31 zk_1 ?_
        refine aw_aload_n hX dX1_brokenPersons_32 rfl ?_
        refine aw_getr (o' := o1) hX kf_X1_51 sh_2 ho1 rfl (Nat.one_mul o1) dX1_brokenPersons_33 ?_
        refine aw_iload_n hX dX1_brokenPersons_36 rfl ?_
        refine aw_aald' (k := (ix x3)) (o' := (10 * o1 + 0 + (ix x3))) (C := "RainLoans$Terms") hX sh_22 ho1 rfl s6 rfl rfl dX1_brokenPersons_37 ?_
        have w9 : (10 * o1 + 0 + (ix x3)) < 60 := by have := zix s6; omega
        refine aw_geti hX kf_X1_104 sh_7 w9 rfl dX1_brokenPersons_38 ?_
        refine aw_ishl hX dX1_brokenPersons_41 ?_
        refine aw_ior hX dX1_brokenPersons_42 ?_
        refine aw_topi (fun v10 ev10 => ?_)
        have k := k v10 ev10
        refine aw_istore_n (L' := [some (.ref (X.G.ad 1 o0)), some (.ref (X.G.ad 2 o1)), some (.int v10), some (.int x3)]) hX dX1_brokenPersons_43 (Nat.le_of_ble_eq_true rfl) rfl ?_
        obtain ⟨v11, ev11⟩ : ∃ y : Int32, y = x3 + (1 : Int32) := ⟨_, rfl⟩
        have k := k v11 ev11
        refine aw_iinc (v := v11) (L' := [some (.ref (X.G.ad 1 o0)), some (.ref (X.G.ad 2 o1)), some (.int v10), some (.int v11)]) hX dX1_brokenPersons_44 rfl (by rw [ev11]; rfl) (Nat.le_of_ble_eq_true rfl) rfl ?_
        refine aw_goto (tgt := 4) hX dX1_brokenPersons_47 (by decide) ?_
        exact k

set_option maxRecDepth 100000 in
set_option maxHeartbeats 4000000 in
theorem st_X1_canPayNow_0 {X : zX} {lv : Nat} {Post : Option Value → zM → Prop} (hX : zOk X cX1_canPayNow RX1 3 lv) (hr : zRt X (some .boolean) Post) {o0 : Nat} (ho0 : o0 < 49) {o1 : Nat} (ho1 : o1 < 6) {x2 : Int32} {μ : zM}
    (k : (vp_in x2 10) ∧ (((μ.1 16 o0 (ix x2)) = (2 : Int32) → (Post (some (.int (0 : Int32))) μ)) ∧ (¬ (μ.1 16 o0 (ix x2)) = (2 : Int32) → ((vp_in (μ.1 7 (10 * o1 + 0 + (ix x2)) 1) 6) ∧ (((μ.1 14 o0 (ix (μ.1 7 (10 * o1 + 0 + (ix x2)) 1))) < (μ.1 15 o0 (ix x2)) → (Post (some (.int (0 : Int32))) μ)) ∧ (¬ (μ.1 14 o0 (ix (μ.1 7 (10 * o1 + 0 + (ix x2)) 1))) < (μ.1 15 o0 (ix x2)) → (Post (some (.int (1 : Int32))) μ))))))) :
    AW X 0 [some (.ref (X.G.ad 1 o0)), some (.ref (X.G.ad 2 o1)), some (.int x2)] [] μ := by
  refine aw_aload_n hX dX1_canPayNow_0 rfl ?_
  refine aw_getr (o' := o0) hX kf_X1_18 sh_1 ho0 rfl (Nat.one_mul o0) dX1_canPayNow_1 ?_
  refine aw_iload_n hX dX1_canPayNow_4 rfl ?_
  have s1 := k.1
  have k := k.2
  refine aw_iald' (k := (ix x2)) hX sh_16 ho0 s1 rfl dX1_canPayNow_5 ?_
  refine aw_iconst hX dX1_canPayNow_6 zk_2 ?_
  refine aw_icmp_eq (tgt := 37) hX dX1_canPayNow_7 (by decide) (fun c2 => ?_) (fun c2 => ?_)
  · have k := k.1 c2
    refine aw_iconst hX dX1_canPayNow_37 zk_0 ?_
    exact aw_zret hX hr (by decide) dX1_canPayNow_38 k
  · have k := k.2 c2
    refine aw_aload_n hX dX1_canPayNow_10 rfl ?_
    refine aw_getr (o' := o0) hX kf_X1_9 sh_1 ho0 rfl (Nat.one_mul o0) dX1_canPayNow_11 ?_
    refine aw_aload_n hX dX1_canPayNow_14 rfl ?_
    refine aw_getr (o' := o1) hX kf_X1_51 sh_2 ho1 rfl (Nat.one_mul o1) dX1_canPayNow_15 ?_
    refine aw_iload_n hX dX1_canPayNow_18 rfl ?_
    refine aw_aald' (k := (ix x2)) (o' := (10 * o1 + 0 + (ix x2))) (C := "RainLoans$Terms") hX sh_22 ho1 rfl s1 rfl rfl dX1_canPayNow_19 ?_
    have w3 : (10 * o1 + 0 + (ix x2)) < 60 := by have := zix s1; omega
    refine aw_geti hX kf_X1_104 sh_7 w3 rfl dX1_canPayNow_20 ?_
    have s4 := k.1
    have k := k.2
    refine aw_iald' (k := (ix (μ.1 7 (10 * o1 + 0 + (ix x2)) 1))) hX sh_14 ho0 s4 rfl dX1_canPayNow_23 ?_
    refine aw_aload_n hX dX1_canPayNow_24 rfl ?_
    refine aw_getr (o' := o0) hX kf_X1_15 sh_1 ho0 rfl (Nat.one_mul o0) dX1_canPayNow_25 ?_
    refine aw_iload_n hX dX1_canPayNow_28 rfl ?_
    refine aw_iald' (k := (ix x2)) hX sh_15 ho0 s1 rfl dX1_canPayNow_29 ?_
    refine aw_icmp_lt (tgt := 37) hX dX1_canPayNow_30 (by decide) (fun c5 => ?_) (fun c5 => ?_)
    · have k := k.1 c5
      refine aw_iconst hX dX1_canPayNow_37 zk_0 ?_
      exact aw_zret hX hr (by decide) dX1_canPayNow_38 k
    · have k := k.2 c5
      refine aw_iconst hX dX1_canPayNow_33 zk_1 ?_
      refine aw_goto (tgt := 38) hX dX1_canPayNow_34 (by decide) ?_
      exact aw_zret hX hr (by decide) dX1_canPayNow_38 k

set_option maxRecDepth 100000 in
set_option maxHeartbeats 4000000 in
theorem st_X1_payNow_0 {X : zX} {lv : Nat} {Post : Option Value → zM → Prop} (hX : zOk X cX1_payNow RX1 3 lv) (hr : zRt X none Post) {o0 : Nat} (ho0 : o0 < 49) {o1 : Nat} (ho1 : o1 < 6) {x2 : Int32} {μ : zM}
    (k : (vp_in x2 10) ∧ (zCallI X lv yX1_take cX1_take 5 (some .boolean) [.ref (X.G.ad 1 o0), .int x2, .int (μ.1 7 (10 * o1 + 0 + (ix x2)) 1), .int (μ.1 7 (10 * o1 + 0 + (ix x2)) 0)] μ (fun (r3 : Int32) μ4 => ∀ μ5 : zM, μ5 = pI μ4 16 o0 (ix x2) (2 : Int32) → (Post none μ5)))) :
    AW X 0 [some (.ref (X.G.ad 1 o0)), some (.ref (X.G.ad 2 o1)), some (.int x2)] [] μ := by
  refine aw_aload_n hX dX1_payNow_0 rfl ?_
  refine aw_iload_n hX dX1_payNow_1 rfl ?_
  refine aw_aload_n hX dX1_payNow_2 rfl ?_
  refine aw_getr (o' := o1) hX kf_X1_51 sh_2 ho1 rfl (Nat.one_mul o1) dX1_payNow_3 ?_
  refine aw_iload_n hX dX1_payNow_6 rfl ?_
  have s1 := k.1
  have k := k.2
  refine aw_aald' (k := (ix x2)) (o' := (10 * o1 + 0 + (ix x2))) (C := "RainLoans$Terms") hX sh_22 ho1 rfl s1 rfl rfl dX1_payNow_7 ?_
  have w2 : (10 * o1 + 0 + (ix x2)) < 60 := by have := zix s1; omega
  refine aw_geti hX kf_X1_104 sh_7 w2 rfl dX1_payNow_8 ?_
  refine aw_aload_n hX dX1_payNow_11 rfl ?_
  refine aw_getr (o' := o1) hX kf_X1_51 sh_2 ho1 rfl (Nat.one_mul o1) dX1_payNow_12 ?_
  refine aw_iload_n hX dX1_payNow_15 rfl ?_
  refine aw_aald' (k := (ix x2)) (o' := (10 * o1 + 0 + (ix x2))) (C := "RainLoans$Terms") hX sh_22 ho1 rfl s1 rfl rfl dX1_payNow_16 ?_
  refine aw_geti hX kf_X1_115 sh_7 w2 rfl dX1_payNow_17 ?_
  refine aw_invI (As := [.int x2, .int (μ.1 7 (10 * o1 + 0 + (ix x2)) 1), .int (μ.1 7 (10 * o1 + 0 + (ix x2)) 0)]) (rest := []) (κ := 1) (o := o0) (T := TX1) (N := 9) hX vc_X1_118 sh_1 ho0 rfl rfl rfl (Nat.le_of_ble_eq_true rfl) dX1_payNow_20 k (fun r3 μ4 k => ?_)
  refine aw_pop hX dX1_payNow_23 rfl ?_
  refine aw_aload_n hX dX1_payNow_24 rfl ?_
  refine aw_getr (o' := o0) hX kf_X1_18 sh_1 ho0 rfl (Nat.one_mul o0) dX1_payNow_25 ?_
  refine aw_iload_n hX dX1_payNow_28 rfl ?_
  refine aw_iconst hX dX1_payNow_29 zk_2 ?_
  refine aw_iast' (k := (ix x2)) hX sh_16 ho0 s1 rfl dX1_payNow_30 ?_
  refine aw_mem (fun μ5 eμ5 => ?_)
  have k := k μ5 eμ5
  exact aw_vret hX hr dX1_payNow_31 k

set_option maxRecDepth 100000 in
set_option maxHeartbeats 4000000 in
theorem st_X1_loansAt_0 {X : zX} {lv : Nat} {Post : Option Value → zM → Prop} (hX : zOk X cX1_loansAt RX1 5 lv) (hr : zRt X (some .int) Post) {o0 : Nat} (ho0 : o0 < 49) {o1 : Nat} (ho1 : o1 < 6) {x2 : Int32} {μ : zM}
    (k : AW X 5 [some (.ref (X.G.ad 1 o0)), some (.ref (X.G.ad 2 o1)), some (.int x2), some (.int (0 : Int32)), some (.int (0 : Int32))] [] μ) :
    AW X 0 [some (.ref (X.G.ad 1 o0)), some (.ref (X.G.ad 2 o1)), some (.int x2), none, none] [] μ := by
  refine aw_iconst hX dX1_loansAt_0 zk_0 ?_
  refine aw_istore_n (L' := [some (.ref (X.G.ad 1 o0)), some (.ref (X.G.ad 2 o1)), some (.int x2), some (.int (0 : Int32)), none]) hX dX1_loansAt_1 (Nat.le_of_ble_eq_true rfl) rfl ?_
  refine aw_iconst hX dX1_loansAt_2 zk_0 ?_
  refine aw_istore (L' := [some (.ref (X.G.ad 1 o0)), some (.ref (X.G.ad 2 o1)), some (.int x2), some (.int (0 : Int32)), some (.int (0 : Int32))]) hX dX1_loansAt_3 (Nat.le_of_ble_eq_true rfl) rfl ?_
  exact k

set_option maxRecDepth 100000 in
set_option maxHeartbeats 4000000 in
theorem st_X1_loansAt_5 {X : zX} {lv : Nat} {Post : Option Value → zM → Prop} (hX : zOk X cX1_loansAt RX1 5 lv) (hr : zRt X (some .int) Post) {o0 : Nat} (ho0 : o0 < 49) {o1 : Nat} (ho1 : o1 < 6) {x2 : Int32} {x3 : Int32} {x4 : Int32} {μ : zM}
    (k : ((μ.1 2 o1 2) ≤ x4 → (Post (some (.int x3)) μ)) ∧ (¬ (μ.1 2 o1 2) ≤ x4 → ((vp_in x4 10) ∧ ((¬ (μ.1 16 o0 (ix x4)) = x2 → (∀ v4 : Int32, v4 = (x3 + (0 : Int32)) → (∀ v5 : Int32, v5 = x4 + (1 : Int32) → (AW X 5 [some (.ref (X.G.ad 1 o0)), some (.ref (X.G.ad 2 o1)), some (.int x2), some (.int v4), some (.int v5)] [] μ)))) ∧ ((μ.1 16 o0 (ix x4)) = x2 → (∀ v6 : Int32, v6 = (x3 + (1 : Int32)) → (∀ v7 : Int32, v7 = x4 + (1 : Int32) → (AW X 5 [some (.ref (X.G.ad 1 o0)), some (.ref (X.G.ad 2 o1)), some (.int x2), some (.int v6), some (.int v7)] [] μ)))))))) :
    AW X 5 [some (.ref (X.G.ad 1 o0)), some (.ref (X.G.ad 2 o1)), some (.int x2), some (.int x3), some (.int x4)] [] μ := by
  refine aw_iload hX dX1_loansAt_5 rfl ?_
  refine aw_aload_n hX dX1_loansAt_7 rfl ?_
  refine aw_geti hX kf_X1_48 sh_2 ho1 rfl dX1_loansAt_8 ?_
  refine aw_icmp_ge (tgt := 39) hX dX1_loansAt_11 (by decide) (fun c1 => ?_) (fun c1 => ?_)
  · have k := k.1 c1
    refine aw_iload_n hX dX1_loansAt_39 rfl ?_
    exact aw_iret hX hr dX1_loansAt_40 k
  · have k := k.2 c1
    refine aw_iload_n hX dX1_loansAt_14 rfl ?_
    refine aw_aload_n hX dX1_loansAt_15 rfl ?_
    refine aw_getr (o' := o0) hX kf_X1_18 sh_1 ho0 rfl (Nat.one_mul o0) dX1_loansAt_16 ?_
    refine aw_iload hX dX1_loansAt_19 rfl ?_
    have s2 := k.1
    have k := k.2
    refine aw_iald' (k := (ix x4)) hX sh_16 ho0 s2 rfl dX1_loansAt_21 ?_
    refine aw_iload_n hX dX1_loansAt_22 rfl ?_
    refine aw_icmp_ne (tgt := 30) hX dX1_loansAt_23 (by decide) (fun c3 => ?_) (fun c3 => ?_)
    · have k := k.1 c3
      refine aw_iconst hX dX1_loansAt_30 zk_0 ?_
      refine aw_iadd hX dX1_loansAt_31 ?_
      refine aw_topi (fun v4 ev4 => ?_)
      have k := k v4 ev4
      refine aw_istore_n (L' := [some (.ref (X.G.ad 1 o0)), some (.ref (X.G.ad 2 o1)), some (.int x2), some (.int v4), some (.int x4)]) hX dX1_loansAt_32 (Nat.le_of_ble_eq_true rfl) rfl ?_
      obtain ⟨v5, ev5⟩ : ∃ y : Int32, y = x4 + (1 : Int32) := ⟨_, rfl⟩
      have k := k v5 ev5
      refine aw_iinc (v := v5) (L' := [some (.ref (X.G.ad 1 o0)), some (.ref (X.G.ad 2 o1)), some (.int x2), some (.int v4), some (.int v5)]) hX dX1_loansAt_33 rfl (by rw [ev5]; rfl) (Nat.le_of_ble_eq_true rfl) rfl ?_
      refine aw_goto (tgt := 5) hX dX1_loansAt_36 (by decide) ?_
      exact k
    · have k := k.2 c3
      refine aw_iconst hX dX1_loansAt_26 zk_1 ?_
      refine aw_goto (tgt := 31) hX dX1_loansAt_27 (by decide) ?_
      refine aw_iadd hX dX1_loansAt_31 ?_
      refine aw_topi (fun v6 ev6 => ?_)
      have k := k v6 ev6
      refine aw_istore_n (L' := [some (.ref (X.G.ad 1 o0)), some (.ref (X.G.ad 2 o1)), some (.int x2), some (.int v6), some (.int x4)]) hX dX1_loansAt_32 (Nat.le_of_ble_eq_true rfl) rfl ?_
      obtain ⟨v7, ev7⟩ : ∃ y : Int32, y = x4 + (1 : Int32) := ⟨_, rfl⟩
      have k := k v7 ev7
      refine aw_iinc (v := v7) (L' := [some (.ref (X.G.ad 1 o0)), some (.ref (X.G.ad 2 o1)), some (.int x2), some (.int v6), some (.int v7)]) hX dX1_loansAt_33 rfl (by rw [ev7]; rfl) (Nat.le_of_ble_eq_true rfl) rfl ?_
      refine aw_goto (tgt := 5) hX dX1_loansAt_36 (by decide) ?_
      exact k

set_option maxRecDepth 100000 in
set_option maxHeartbeats 4000000 in
theorem st_X1_coinsDue_0 {X : zX} {lv : Nat} {Post : Option Value → zM → Prop} (hX : zOk X cX1_coinsDue RX1 4 lv) (hr : zRt X (some .int) Post) {o0 : Nat} (ho0 : o0 < 49) {o1 : Nat} (ho1 : o1 < 6)  {μ : zM}
    (k : AW X 4 [some (.ref (X.G.ad 1 o0)), some (.ref (X.G.ad 2 o1)), some (.int (0 : Int32)), some (.int (0 : Int32))] [] μ) :
    AW X 0 [some (.ref (X.G.ad 1 o0)), some (.ref (X.G.ad 2 o1)), none, none] [] μ := by
  refine aw_iconst hX dX1_coinsDue_0 zk_0 ?_
  refine aw_istore_n (L' := [some (.ref (X.G.ad 1 o0)), some (.ref (X.G.ad 2 o1)), some (.int (0 : Int32)), none]) hX dX1_coinsDue_1 (Nat.le_of_ble_eq_true rfl) rfl ?_
  refine aw_iconst hX dX1_coinsDue_2 zk_0 ?_
  refine aw_istore_n (L' := [some (.ref (X.G.ad 1 o0)), some (.ref (X.G.ad 2 o1)), some (.int (0 : Int32)), some (.int (0 : Int32))]) hX dX1_coinsDue_3 (Nat.le_of_ble_eq_true rfl) rfl ?_
  exact k

set_option maxRecDepth 100000 in
set_option maxHeartbeats 4000000 in
theorem st_X1_coinsDue_4 {X : zX} {lv : Nat} {Post : Option Value → zM → Prop} (hX : zOk X cX1_coinsDue RX1 4 lv) (hr : zRt X (some .int) Post) {o0 : Nat} (ho0 : o0 < 49) {o1 : Nat} (ho1 : o1 < 6) {x2 : Int32} {x3 : Int32} {μ : zM}
    (k : ((μ.1 2 o1 2) ≤ x3 → (Post (some (.int x2)) μ)) ∧ (¬ (μ.1 2 o1 2) ≤ x3 → ((vp_in x3 10) ∧ ((¬ (μ.1 16 o0 (ix x3)) = (1 : Int32) → (∀ v4 : Int32, v4 = (x2 + (0 : Int32)) → (∀ v5 : Int32, v5 = x3 + (1 : Int32) → (AW X 4 [some (.ref (X.G.ad 1 o0)), some (.ref (X.G.ad 2 o1)), some (.int v4), some (.int v5)] [] μ)))) ∧ ((μ.1 16 o0 (ix x3)) = (1 : Int32) → (∀ v6 : Int32, v6 = (x2 + (μ.1 15 o0 (ix x3))) → (∀ v7 : Int32, v7 = x3 + (1 : Int32) → (AW X 4 [some (.ref (X.G.ad 1 o0)), some (.ref (X.G.ad 2 o1)), some (.int v6), some (.int v7)] [] μ)))))))) :
    AW X 4 [some (.ref (X.G.ad 1 o0)), some (.ref (X.G.ad 2 o1)), some (.int x2), some (.int x3)] [] μ := by
  refine aw_iload_n hX dX1_coinsDue_4 rfl ?_
  refine aw_aload_n hX dX1_coinsDue_5 rfl ?_
  refine aw_geti hX kf_X1_48 sh_2 ho1 rfl dX1_coinsDue_6 ?_
  refine aw_icmp_ge (tgt := 41) hX dX1_coinsDue_9 (by decide) (fun c1 => ?_) (fun c1 => ?_)
  · have k := k.1 c1
    refine aw_iload_n hX dX1_coinsDue_41 rfl ?_
    exact aw_iret hX hr dX1_coinsDue_42 k
  · have k := k.2 c1
    refine aw_iload_n hX dX1_coinsDue_12 rfl ?_
    refine aw_aload_n hX dX1_coinsDue_13 rfl ?_
    refine aw_getr (o' := o0) hX kf_X1_18 sh_1 ho0 rfl (Nat.one_mul o0) dX1_coinsDue_14 ?_
    refine aw_iload_n hX dX1_coinsDue_17 rfl ?_
    have s2 := k.1
    have k := k.2
    refine aw_iald' (k := (ix x3)) hX sh_16 ho0 s2 rfl dX1_coinsDue_18 ?_
    refine aw_iconst hX dX1_coinsDue_19 zk_1 ?_
    refine aw_icmp_ne (tgt := 32) hX dX1_coinsDue_20 (by decide) (fun c3 => ?_) (fun c3 => ?_)
    · have k := k.1 c3
      refine aw_iconst hX dX1_coinsDue_32 zk_0 ?_
      refine aw_iadd hX dX1_coinsDue_33 ?_
      refine aw_topi (fun v4 ev4 => ?_)
      have k := k v4 ev4
      refine aw_istore_n (L' := [some (.ref (X.G.ad 1 o0)), some (.ref (X.G.ad 2 o1)), some (.int v4), some (.int x3)]) hX dX1_coinsDue_34 (Nat.le_of_ble_eq_true rfl) rfl ?_
      obtain ⟨v5, ev5⟩ : ∃ y : Int32, y = x3 + (1 : Int32) := ⟨_, rfl⟩
      have k := k v5 ev5
      refine aw_iinc (v := v5) (L' := [some (.ref (X.G.ad 1 o0)), some (.ref (X.G.ad 2 o1)), some (.int v4), some (.int v5)]) hX dX1_coinsDue_35 rfl (by rw [ev5]; rfl) (Nat.le_of_ble_eq_true rfl) rfl ?_
      refine aw_goto (tgt := 4) hX dX1_coinsDue_38 (by decide) ?_
      exact k
    · have k := k.2 c3
      refine aw_aload_n hX dX1_coinsDue_23 rfl ?_
      refine aw_getr (o' := o0) hX kf_X1_15 sh_1 ho0 rfl (Nat.one_mul o0) dX1_coinsDue_24 ?_
      refine aw_iload_n hX dX1_coinsDue_27 rfl ?_
      refine aw_iald' (k := (ix x3)) hX sh_15 ho0 s2 rfl dX1_coinsDue_28 ?_
      refine aw_goto (tgt := 33) hX dX1_coinsDue_29 (by decide) ?_
      refine aw_iadd hX dX1_coinsDue_33 ?_
      refine aw_topi (fun v6 ev6 => ?_)
      have k := k v6 ev6
      refine aw_istore_n (L' := [some (.ref (X.G.ad 1 o0)), some (.ref (X.G.ad 2 o1)), some (.int v6), some (.int x3)]) hX dX1_coinsDue_34 (Nat.le_of_ble_eq_true rfl) rfl ?_
      obtain ⟨v7, ev7⟩ : ∃ y : Int32, y = x3 + (1 : Int32) := ⟨_, rfl⟩
      have k := k v7 ev7
      refine aw_iinc (v := v7) (L' := [some (.ref (X.G.ad 1 o0)), some (.ref (X.G.ad 2 o1)), some (.int v6), some (.int v7)]) hX dX1_coinsDue_35 rfl (by rw [ev7]; rfl) (Nat.le_of_ble_eq_true rfl) rfl ?_
      refine aw_goto (tgt := 4) hX dX1_coinsDue_38 (by decide) ?_
      exact k

set_option maxRecDepth 100000 in
set_option maxHeartbeats 4000000 in
theorem st_X1_wealth_0 {X : zX} {lv : Nat} {Post : Option Value → zM → Prop} (hX : zOk X cX1_wealth RX1 5 lv) (hr : zRt X (some .int) Post) {o0 : Nat} (ho0 : o0 < 49) {o1 : Nat} (ho1 : o1 < 6) {x2 : Int32} {μ : zM}
    (k : (vp_in x2 6) ∧ (∀ v2 : Int32, v2 = (μ.1 14 o0 (ix x2)) → (AW X 10 [some (.ref (X.G.ad 1 o0)), some (.ref (X.G.ad 2 o1)), some (.int x2), some (.int v2), some (.int (0 : Int32))] [] μ))) :
    AW X 0 [some (.ref (X.G.ad 1 o0)), some (.ref (X.G.ad 2 o1)), some (.int x2), none, none] [] μ := by
  refine aw_aload_n hX dX1_wealth_0 rfl ?_
  refine aw_getr (o' := o0) hX kf_X1_9 sh_1 ho0 rfl (Nat.one_mul o0) dX1_wealth_1 ?_
  refine aw_iload_n hX dX1_wealth_4 rfl ?_
  have s1 := k.1
  have k := k.2
  refine aw_iald' (k := (ix x2)) hX sh_14 ho0 s1 rfl dX1_wealth_5 ?_
  refine aw_topi (fun v2 ev2 => ?_)
  have k := k v2 ev2
  refine aw_istore_n (L' := [some (.ref (X.G.ad 1 o0)), some (.ref (X.G.ad 2 o1)), some (.int x2), some (.int v2), none]) hX dX1_wealth_6 (Nat.le_of_ble_eq_true rfl) rfl ?_
  refine aw_iconst hX dX1_wealth_7 zk_0 ?_
  refine aw_istore (L' := [some (.ref (X.G.ad 1 o0)), some (.ref (X.G.ad 2 o1)), some (.int x2), some (.int v2), some (.int (0 : Int32))]) hX dX1_wealth_8 (Nat.le_of_ble_eq_true rfl) rfl ?_
  exact k

set_option maxRecDepth 100000 in
set_option maxHeartbeats 4000000 in
theorem st_X1_wealth_10 {X : zX} {lv : Nat} {Post : Option Value → zM → Prop} (hX : zOk X cX1_wealth RX1 5 lv) (hr : zRt X (some .int) Post) {o0 : Nat} (ho0 : o0 < 49) {o1 : Nat} (ho1 : o1 < 6) {x2 : Int32} {x3 : Int32} {x4 : Int32} {μ : zM}
    (k : ((μ.1 2 o1 2) ≤ x4 → (Post (some (.int x3)) μ)) ∧ (¬ (μ.1 2 o1 2) ≤ x4 → ((vp_in x4 10) ∧ ((¬ (μ.1 7 (10 * o1 + 0 + (ix x4)) 0) = x2 → (∀ v5 : Int32, v5 = (x3 + (0 : Int32)) → ((¬ (μ.1 7 (10 * o1 + 0 + (ix x4)) 1) = x2 → (∀ v7 : Int32, v7 = (v5 - (0 : Int32)) → (∀ v8 : Int32, v8 = x4 + (1 : Int32) → (AW X 10 [some (.ref (X.G.ad 1 o0)), some (.ref (X.G.ad 2 o1)), some (.int x2), some (.int v7), some (.int v8)] [] μ)))) ∧ ((μ.1 7 (10 * o1 + 0 + (ix x4)) 1) = x2 → (∀ v9 : Int32, v9 = (v5 - (μ.1 15 o0 (ix x4))) → (∀ v10 : Int32, v10 = x4 + (1 : Int32) → (AW X 10 [some (.ref (X.G.ad 1 o0)), some (.ref (X.G.ad 2 o1)), some (.int x2), some (.int v9), some (.int v10)] [] μ))))))) ∧ ((μ.1 7 (10 * o1 + 0 + (ix x4)) 0) = x2 → (∀ v11 : Int32, v11 = (x3 + (μ.1 15 o0 (ix x4))) → ((¬ (μ.1 7 (10 * o1 + 0 + (ix x4)) 1) = x2 → (∀ v13 : Int32, v13 = (v11 - (0 : Int32)) → (∀ v14 : Int32, v14 = x4 + (1 : Int32) → (AW X 10 [some (.ref (X.G.ad 1 o0)), some (.ref (X.G.ad 2 o1)), some (.int x2), some (.int v13), some (.int v14)] [] μ)))) ∧ ((μ.1 7 (10 * o1 + 0 + (ix x4)) 1) = x2 → (∀ v15 : Int32, v15 = (v11 - (μ.1 15 o0 (ix x4))) → (∀ v16 : Int32, v16 = x4 + (1 : Int32) → (AW X 10 [some (.ref (X.G.ad 1 o0)), some (.ref (X.G.ad 2 o1)), some (.int x2), some (.int v15), some (.int v16)] [] μ))))))))))) :
    AW X 10 [some (.ref (X.G.ad 1 o0)), some (.ref (X.G.ad 2 o1)), some (.int x2), some (.int x3), some (.int x4)] [] μ := by
  refine aw_iload hX dX1_wealth_10 rfl ?_
  refine aw_aload_n hX dX1_wealth_12 rfl ?_
  refine aw_geti hX kf_X1_48 sh_2 ho1 rfl dX1_wealth_13 ?_
  refine aw_icmp_ge (tgt := 81) hX dX1_wealth_16 (by decide) (fun c1 => ?_) (fun c1 => ?_)
  · have k := k.1 c1
    refine aw_iload_n hX dX1_wealth_81 rfl ?_
    exact aw_iret hX hr dX1_wealth_82 k
  · have k := k.2 c1
    refine aw_iload_n hX dX1_wealth_19 rfl ?_
    refine aw_aload_n hX dX1_wealth_20 rfl ?_
    refine aw_getr (o' := o1) hX kf_X1_51 sh_2 ho1 rfl (Nat.one_mul o1) dX1_wealth_21 ?_
    refine aw_iload hX dX1_wealth_24 rfl ?_
    have s2 := k.1
    have k := k.2
    refine aw_aald' (k := (ix x4)) (o' := (10 * o1 + 0 + (ix x4))) (C := "RainLoans$Terms") hX sh_22 ho1 rfl s2 rfl rfl dX1_wealth_26 ?_
    have w3 : (10 * o1 + 0 + (ix x4)) < 60 := by have := zix s2; omega
    refine aw_geti hX kf_X1_115 sh_7 w3 rfl dX1_wealth_27 ?_
    refine aw_iload_n hX dX1_wealth_30 rfl ?_
    refine aw_icmp_ne (tgt := 44) hX dX1_wealth_31 (by decide) (fun c4 => ?_) (fun c4 => ?_)
    · have k := k.1 c4
      refine aw_iconst hX dX1_wealth_44 zk_0 ?_
      refine aw_iadd hX dX1_wealth_45 ?_
      refine aw_topi (fun v5 ev5 => ?_)
      have k := k v5 ev5
      refine aw_istore_n (L' := [some (.ref (X.G.ad 1 o0)), some (.ref (X.G.ad 2 o1)), some (.int x2), some (.int v5), some (.int x4)]) hX dX1_wealth_46 (Nat.le_of_ble_eq_true rfl) rfl ?_
      refine aw_iload_n hX dX1_wealth_47 rfl ?_
      refine aw_aload_n hX dX1_wealth_48 rfl ?_
      refine aw_getr (o' := o1) hX kf_X1_51 sh_2 ho1 rfl (Nat.one_mul o1) dX1_wealth_49 ?_
      refine aw_iload hX dX1_wealth_52 rfl ?_
      refine aw_aald' (k := (ix x4)) (o' := (10 * o1 + 0 + (ix x4))) (C := "RainLoans$Terms") hX sh_22 ho1 rfl s2 rfl rfl dX1_wealth_54 ?_
      refine aw_geti hX kf_X1_104 sh_7 w3 rfl dX1_wealth_55 ?_
      refine aw_iload_n hX dX1_wealth_58 rfl ?_
      refine aw_icmp_ne (tgt := 72) hX dX1_wealth_59 (by decide) (fun c6 => ?_) (fun c6 => ?_)
      · have k := k.1 c6
        refine aw_iconst hX dX1_wealth_72 zk_0 ?_
        refine aw_isub hX dX1_wealth_73 ?_
        refine aw_topi (fun v7 ev7 => ?_)
        have k := k v7 ev7
        refine aw_istore_n (L' := [some (.ref (X.G.ad 1 o0)), some (.ref (X.G.ad 2 o1)), some (.int x2), some (.int v7), some (.int x4)]) hX dX1_wealth_74 (Nat.le_of_ble_eq_true rfl) rfl ?_
        obtain ⟨v8, ev8⟩ : ∃ y : Int32, y = x4 + (1 : Int32) := ⟨_, rfl⟩
        have k := k v8 ev8
        refine aw_iinc (v := v8) (L' := [some (.ref (X.G.ad 1 o0)), some (.ref (X.G.ad 2 o1)), some (.int x2), some (.int v7), some (.int v8)]) hX dX1_wealth_75 rfl (by rw [ev8]; rfl) (Nat.le_of_ble_eq_true rfl) rfl ?_
        refine aw_goto (tgt := 10) hX dX1_wealth_78 (by decide) ?_
        exact k
      · have k := k.2 c6
        refine aw_aload_n hX dX1_wealth_62 rfl ?_
        refine aw_getr (o' := o0) hX kf_X1_15 sh_1 ho0 rfl (Nat.one_mul o0) dX1_wealth_63 ?_
        refine aw_iload hX dX1_wealth_66 rfl ?_
        refine aw_iald' (k := (ix x4)) hX sh_15 ho0 s2 rfl dX1_wealth_68 ?_
        refine aw_goto (tgt := 73) hX dX1_wealth_69 (by decide) ?_
        refine aw_isub hX dX1_wealth_73 ?_
        refine aw_topi (fun v9 ev9 => ?_)
        have k := k v9 ev9
        refine aw_istore_n (L' := [some (.ref (X.G.ad 1 o0)), some (.ref (X.G.ad 2 o1)), some (.int x2), some (.int v9), some (.int x4)]) hX dX1_wealth_74 (Nat.le_of_ble_eq_true rfl) rfl ?_
        obtain ⟨v10, ev10⟩ : ∃ y : Int32, y = x4 + (1 : Int32) := ⟨_, rfl⟩
        have k := k v10 ev10
        refine aw_iinc (v := v10) (L' := [some (.ref (X.G.ad 1 o0)), some (.ref (X.G.ad 2 o1)), some (.int x2), some (.int v9), some (.int v10)]) hX dX1_wealth_75 rfl (by rw [ev10]; rfl) (Nat.le_of_ble_eq_true rfl) rfl ?_
        refine aw_goto (tgt := 10) hX dX1_wealth_78 (by decide) ?_
        exact k
    · have k := k.2 c4
      refine aw_aload_n hX dX1_wealth_34 rfl ?_
      refine aw_getr (o' := o0) hX kf_X1_15 sh_1 ho0 rfl (Nat.one_mul o0) dX1_wealth_35 ?_
      refine aw_iload hX dX1_wealth_38 rfl ?_
      refine aw_iald' (k := (ix x4)) hX sh_15 ho0 s2 rfl dX1_wealth_40 ?_
      refine aw_goto (tgt := 45) hX dX1_wealth_41 (by decide) ?_
      refine aw_iadd hX dX1_wealth_45 ?_
      refine aw_topi (fun v11 ev11 => ?_)
      have k := k v11 ev11
      refine aw_istore_n (L' := [some (.ref (X.G.ad 1 o0)), some (.ref (X.G.ad 2 o1)), some (.int x2), some (.int v11), some (.int x4)]) hX dX1_wealth_46 (Nat.le_of_ble_eq_true rfl) rfl ?_
      refine aw_iload_n hX dX1_wealth_47 rfl ?_
      refine aw_aload_n hX dX1_wealth_48 rfl ?_
      refine aw_getr (o' := o1) hX kf_X1_51 sh_2 ho1 rfl (Nat.one_mul o1) dX1_wealth_49 ?_
      refine aw_iload hX dX1_wealth_52 rfl ?_
      refine aw_aald' (k := (ix x4)) (o' := (10 * o1 + 0 + (ix x4))) (C := "RainLoans$Terms") hX sh_22 ho1 rfl s2 rfl rfl dX1_wealth_54 ?_
      refine aw_geti hX kf_X1_104 sh_7 w3 rfl dX1_wealth_55 ?_
      refine aw_iload_n hX dX1_wealth_58 rfl ?_
      refine aw_icmp_ne (tgt := 72) hX dX1_wealth_59 (by decide) (fun c12 => ?_) (fun c12 => ?_)
      · have k := k.1 c12
        refine aw_iconst hX dX1_wealth_72 zk_0 ?_
        refine aw_isub hX dX1_wealth_73 ?_
        refine aw_topi (fun v13 ev13 => ?_)
        have k := k v13 ev13
        refine aw_istore_n (L' := [some (.ref (X.G.ad 1 o0)), some (.ref (X.G.ad 2 o1)), some (.int x2), some (.int v13), some (.int x4)]) hX dX1_wealth_74 (Nat.le_of_ble_eq_true rfl) rfl ?_
        obtain ⟨v14, ev14⟩ : ∃ y : Int32, y = x4 + (1 : Int32) := ⟨_, rfl⟩
        have k := k v14 ev14
        refine aw_iinc (v := v14) (L' := [some (.ref (X.G.ad 1 o0)), some (.ref (X.G.ad 2 o1)), some (.int x2), some (.int v13), some (.int v14)]) hX dX1_wealth_75 rfl (by rw [ev14]; rfl) (Nat.le_of_ble_eq_true rfl) rfl ?_
        refine aw_goto (tgt := 10) hX dX1_wealth_78 (by decide) ?_
        exact k
      · have k := k.2 c12
        refine aw_aload_n hX dX1_wealth_62 rfl ?_
        refine aw_getr (o' := o0) hX kf_X1_15 sh_1 ho0 rfl (Nat.one_mul o0) dX1_wealth_63 ?_
        refine aw_iload hX dX1_wealth_66 rfl ?_
        refine aw_iald' (k := (ix x4)) hX sh_15 ho0 s2 rfl dX1_wealth_68 ?_
        refine aw_goto (tgt := 73) hX dX1_wealth_69 (by decide) ?_
        refine aw_isub hX dX1_wealth_73 ?_
        refine aw_topi (fun v15 ev15 => ?_)
        have k := k v15 ev15
        refine aw_istore_n (L' := [some (.ref (X.G.ad 1 o0)), some (.ref (X.G.ad 2 o1)), some (.int x2), some (.int v15), some (.int x4)]) hX dX1_wealth_74 (Nat.le_of_ble_eq_true rfl) rfl ?_
        obtain ⟨v16, ev16⟩ : ∃ y : Int32, y = x4 + (1 : Int32) := ⟨_, rfl⟩
        have k := k v16 ev16
        refine aw_iinc (v := v16) (L' := [some (.ref (X.G.ad 1 o0)), some (.ref (X.G.ad 2 o1)), some (.int x2), some (.int v15), some (.int v16)]) hX dX1_wealth_75 rfl (by rw [ev16]; rfl) (Nat.le_of_ble_eq_true rfl) rfl ?_
        refine aw_goto (tgt := 10) hX dX1_wealth_78 (by decide) ?_
        exact k

