set_option maxRecDepth 100000 in
set_option maxHeartbeats 4000000 in
theorem st_X7_copyFrom_0 {X : zX} {lv : Nat} {Post : Option Value → zM → Prop} (hX : zOk X cX7_copyFrom RX7 2 lv) (hr : zRt X none Post) {o0 : Nat} (ho0 : o0 < 60) {o1 : Nat} (ho1 : o1 < 60)  {μ : zM}
    (k : ∀ μ1 : zM, μ1 = pI μ 7 o0 0 (μ.1 7 o1 0) → (∀ μ2 : zM, μ2 = pI μ1 7 o0 1 (μ1.1 7 o1 1) → (∀ μ3 : zM, μ3 = pI μ2 7 o0 2 (μ2.1 7 o1 2) → (∀ μ4 : zM, μ4 = pI μ3 7 o0 3 (μ3.1 7 o1 3) → (∀ μ5 : zM, μ5 = pI μ4 7 o0 4 (μ4.1 7 o1 4) → (∀ μ6 : zM, μ6 = pI μ5 7 o0 5 (μ5.1 7 o1 5) → (∀ μ7 : zM, μ7 = pI μ6 7 o0 6 (μ6.1 7 o1 6) → (∀ μ8 : zM, μ8 = pI μ7 7 o0 7 (μ7.1 7 o1 7) → (Post none μ8))))))))) :
    AW X 0 [some (.ref (X.G.ad 7 o0)), some (.ref (X.G.ad 7 o1))] [] μ := by
  refine aw_aload_n hX dX7_copyFrom_0 rfl ?_
  refine aw_aload_n hX dX7_copyFrom_1 rfl ?_
  refine aw_geti hX kf_X7_7 sh_7 ho1 rfl dX7_copyFrom_2 ?_
  refine aw_puti hX kp_X7_7 sh_7 ho0 rfl rfl rfl dX7_copyFrom_5 ?_
  refine aw_mem (fun μ1 eμ1 => ?_)
  have k := k μ1 eμ1
  refine aw_aload_n hX dX7_copyFrom_8 rfl ?_
  refine aw_aload_n hX dX7_copyFrom_9 rfl ?_
  refine aw_geti hX kf_X7_13 sh_7 ho1 rfl dX7_copyFrom_10 ?_
  refine aw_puti hX kp_X7_13 sh_7 ho0 rfl rfl rfl dX7_copyFrom_13 ?_
  refine aw_mem (fun μ2 eμ2 => ?_)
  have k := k μ2 eμ2
  refine aw_aload_n hX dX7_copyFrom_16 rfl ?_
  refine aw_aload_n hX dX7_copyFrom_17 rfl ?_
  refine aw_geti hX kf_X7_16 sh_7 ho1 rfl dX7_copyFrom_18 ?_
  refine aw_puti hX kp_X7_16 sh_7 ho0 rfl rfl rfl dX7_copyFrom_21 ?_
  refine aw_mem (fun μ3 eμ3 => ?_)
  have k := k μ3 eμ3
  refine aw_aload_n hX dX7_copyFrom_24 rfl ?_
  refine aw_aload_n hX dX7_copyFrom_25 rfl ?_
  refine aw_geti hX kf_X7_19 sh_7 ho1 rfl dX7_copyFrom_26 ?_
  refine aw_puti hX kp_X7_19 sh_7 ho0 rfl rfl rfl dX7_copyFrom_29 ?_
  refine aw_mem (fun μ4 eμ4 => ?_)
  have k := k μ4 eμ4
  refine aw_aload_n hX dX7_copyFrom_32 rfl ?_
  refine aw_aload_n hX dX7_copyFrom_33 rfl ?_
  refine aw_geti hX kf_X7_22 sh_7 ho1 rfl dX7_copyFrom_34 ?_
  refine aw_puti hX kp_X7_22 sh_7 ho0 rfl rfl rfl dX7_copyFrom_37 ?_
  refine aw_mem (fun μ5 eμ5 => ?_)
  have k := k μ5 eμ5
  refine aw_aload_n hX dX7_copyFrom_40 rfl ?_
  refine aw_aload_n hX dX7_copyFrom_41 rfl ?_
  refine aw_geti hX kf_X7_25 sh_7 ho1 rfl dX7_copyFrom_42 ?_
  refine aw_puti hX kp_X7_25 sh_7 ho0 rfl rfl rfl dX7_copyFrom_45 ?_
  refine aw_mem (fun μ6 eμ6 => ?_)
  have k := k μ6 eμ6
  refine aw_aload_n hX dX7_copyFrom_48 rfl ?_
  refine aw_aload_n hX dX7_copyFrom_49 rfl ?_
  refine aw_geti hX kf_X7_28 sh_7 ho1 rfl dX7_copyFrom_50 ?_
  refine aw_puti hX kp_X7_28 sh_7 ho0 rfl rfl rfl dX7_copyFrom_53 ?_
  refine aw_mem (fun μ7 eμ7 => ?_)
  have k := k μ7 eμ7
  refine aw_aload_n hX dX7_copyFrom_56 rfl ?_
  refine aw_aload_n hX dX7_copyFrom_57 rfl ?_
  refine aw_geti hX kf_X7_31 sh_7 ho1 rfl dX7_copyFrom_58 ?_
  refine aw_puti hX kp_X7_31 sh_7 ho0 rfl rfl rfl dX7_copyFrom_61 ?_
  refine aw_mem (fun μ8 eμ8 => ?_)
  have k := k μ8 eμ8
  exact aw_vret hX hr dX7_copyFrom_64 k

