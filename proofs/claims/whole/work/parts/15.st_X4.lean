set_option maxRecDepth 100000 in
set_option maxHeartbeats 4000000 in
theorem st_X4_forget_0 {X : zX} {lv : Nat} {Post : Option Value → zM → Prop} (hX : zOk X cX4_forget RX4 1 lv) (hr : zRt X none Post)   {μ : zM}
    (k : ∀ μ1 : zM, μ1 = pI μ 4 0 0 (0 : Int32) → (Post none μ1)) :
    AW X 0 [some (.ref (X.G.ad 4 0))] [] μ := by
  refine aw_aload_n hX dX4_forget_0 rfl ?_
  refine aw_iconst hX dX4_forget_1 zk_0 ?_
  refine aw_puti hX kp_X4_18 sh_4 (by decide) rfl rfl rfl dX4_forget_2 ?_
  refine aw_mem (fun μ1 eμ1 => ?_)
  have k := k μ1 eμ1
  exact aw_vret hX hr dX4_forget_5 k

set_option maxRecDepth 100000 in
set_option maxHeartbeats 4000000 in
theorem st_X4_keep_0 {X : zX} {lv : Nat} {Post : Option Value → zM → Prop} (hX : zOk X cX4_keep RX4 2 lv) (hr : zRt X none Post) {o1 : Nat} (ho1 : o1 < 49)  {μ : zM}
    (k : (vp_in (μ.1 4 0 1) 30) ∧ (zCallV X lv yX1_copyFrom cX1_copyFrom 2 none [.ref (X.G.ad 1 (1 + (ix (μ.1 4 0 1)))), .ref (X.G.ad 1 o1)] μ (fun μ4 => ((30 : Int32) ≤ ((μ4.1 4 0 1) + (1 : Int32)) → (∀ μ6 : zM, μ6 = pI μ4 4 0 1 (0 : Int32) → ((0 < lv) ∧ (∀ μ8 : zM, μ8 = pI μ6 4 0 0 (if (30 : Int32) < ((μ6.1 4 0 0) + (1 : Int32)) then (30 : Int32) else ((μ6.1 4 0 0) + (1 : Int32))) → (Post none μ8))))) ∧ (¬ (30 : Int32) ≤ ((μ4.1 4 0 1) + (1 : Int32)) → (∀ μ9 : zM, μ9 = pI μ4 4 0 1 ((μ4.1 4 0 1) + (1 : Int32)) → ((0 < lv) ∧ (∀ μ11 : zM, μ11 = pI μ9 4 0 0 (if (30 : Int32) < ((μ9.1 4 0 0) + (1 : Int32)) then (30 : Int32) else ((μ9.1 4 0 0) + (1 : Int32))) → (Post none μ11)))))))) :
    AW X 0 [some (.ref (X.G.ad 4 0)), some (.ref (X.G.ad 1 o1))] [] μ := by
  refine aw_aload_n hX dX4_keep_0 rfl ?_
  refine aw_getr (o' := 0) hX kf_X4_11 sh_4 (by decide) rfl rfl dX4_keep_1 ?_
  refine aw_aload_n hX dX4_keep_4 rfl ?_
  refine aw_geti hX kf_X4_22 sh_4 (by decide) rfl dX4_keep_5 ?_
  have s1 := k.1
  have k := k.2
  refine aw_aald' (k := (ix (μ.1 4 0 1))) (o' := (1 + (ix (μ.1 4 0 1)))) (C := "RainLoans$Book") hX sh_26 (by decide) rfl s1 rfl rfl dX4_keep_8 ?_
  have w2 : (1 + (ix (μ.1 4 0 1))) < 49 := by have := zix s1; omega
  refine aw_aload_n hX dX4_keep_9 rfl ?_
  refine aw_invV (As := [.ref (X.G.ad 1 o1)]) (rest := []) (κ := 1) (o := (1 + (ix (μ.1 4 0 1)))) (T := TX1) (N := 9) hX vc_X4_25 sh_1 w2 rfl rfl rfl (Nat.le_of_ble_eq_true rfl) dX4_keep_10 k (fun μ4 k => ?_)
  refine aw_aload_n hX dX4_keep_13 rfl ?_
  refine aw_aload_n hX dX4_keep_14 rfl ?_
  refine aw_geti hX kf_X4_22 sh_4 (by decide) rfl dX4_keep_15 ?_
  refine aw_iconst hX dX4_keep_18 zk_1 ?_
  refine aw_iadd hX dX4_keep_19 ?_
  refine aw_bipush hX dX4_keep_20 zb_30 ?_
  refine aw_icmp_ge (tgt := 34) hX dX4_keep_22 (by decide) (fun c5 => ?_) (fun c5 => ?_)
  · have k := k.1 c5
    refine aw_iconst hX dX4_keep_34 zk_0 ?_
    refine aw_puti hX kp_X4_22 sh_4 (by decide) rfl rfl rfl dX4_keep_35 ?_
    refine aw_mem (fun μ6 eμ6 => ?_)
    have k := k μ6 eμ6
    refine aw_aload_n hX dX4_keep_38 rfl ?_
    refine aw_aload_n hX dX4_keep_39 rfl ?_
    refine aw_geti hX kf_X4_18 sh_4 (by decide) rfl dX4_keep_40 ?_
    refine aw_iconst hX dX4_keep_43 zk_1 ?_
    refine aw_iadd hX dX4_keep_44 ?_
    refine aw_bipush hX dX4_keep_45 zb_30 ?_
    have s7 := k.1
    have k := k.2
    refine aw_minG gx_mi hX km_X4_29 s7 (Nat.le_of_ble_eq_true rfl) dX4_keep_47 ?_
    refine aw_puti hX kp_X4_18 sh_4 (by decide) rfl rfl rfl dX4_keep_50 ?_
    refine aw_mem (fun μ8 eμ8 => ?_)
    have k := k μ8 eμ8
    exact aw_vret hX hr dX4_keep_53 k
  · have k := k.2 c5
    refine aw_aload_n hX dX4_keep_25 rfl ?_
    refine aw_geti hX kf_X4_22 sh_4 (by decide) rfl dX4_keep_26 ?_
    refine aw_iconst hX dX4_keep_29 zk_1 ?_
    refine aw_iadd hX dX4_keep_30 ?_
    refine aw_goto (tgt := 35) hX dX4_keep_31 (by decide) ?_
    refine aw_puti hX kp_X4_22 sh_4 (by decide) rfl rfl rfl dX4_keep_35 ?_
    refine aw_mem (fun μ9 eμ9 => ?_)
    have k := k μ9 eμ9
    refine aw_aload_n hX dX4_keep_38 rfl ?_
    refine aw_aload_n hX dX4_keep_39 rfl ?_
    refine aw_geti hX kf_X4_18 sh_4 (by decide) rfl dX4_keep_40 ?_
    refine aw_iconst hX dX4_keep_43 zk_1 ?_
    refine aw_iadd hX dX4_keep_44 ?_
    refine aw_bipush hX dX4_keep_45 zb_30 ?_
    have s10 := k.1
    have k := k.2
    refine aw_minG gx_mi hX km_X4_29 s10 (Nat.le_of_ble_eq_true rfl) dX4_keep_47 ?_
    refine aw_puti hX kp_X4_18 sh_4 (by decide) rfl rfl rfl dX4_keep_50 ?_
    refine aw_mem (fun μ11 eμ11 => ?_)
    have k := k μ11 eμ11
    exact aw_vret hX hr dX4_keep_53 k

set_option maxRecDepth 100000 in
set_option maxHeartbeats 4000000 in
theorem st_X4_giveBack_0 {X : zX} {lv : Nat} {Post : Option Value → zM → Prop} (hX : zOk X cX4_giveBack RX4 2 lv) (hr : zRt X (some .boolean) Post) {o1 : Nat} (ho1 : o1 < 49)  {μ : zM}
    (k : (¬ (μ.1 4 0 0) = 0 → (((μ.1 4 0 1) ≤ 0 → (∀ μ3 : zM, μ3 = pI μ 4 0 1 (29 : Int32) → (∀ μ4 : zM, μ4 = pI μ3 4 0 0 ((μ3.1 4 0 0) - (1 : Int32)) → ((vp_in (μ4.1 4 0 1) 30) ∧ (zCallV X lv yX1_copyFrom cX1_copyFrom 2 none [.ref (X.G.ad 1 o1), .ref (X.G.ad 1 (1 + (ix (μ4.1 4 0 1))))] μ4 (fun μ8 => Post (some (.int (1 : Int32))) μ8)))))) ∧ (¬ (μ.1 4 0 1) ≤ 0 → (∀ μ9 : zM, μ9 = pI μ 4 0 1 ((μ.1 4 0 1) - (1 : Int32)) → (∀ μ10 : zM, μ10 = pI μ9 4 0 0 ((μ9.1 4 0 0) - (1 : Int32)) → ((vp_in (μ10.1 4 0 1) 30) ∧ (zCallV X lv yX1_copyFrom cX1_copyFrom 2 none [.ref (X.G.ad 1 o1), .ref (X.G.ad 1 (1 + (ix (μ10.1 4 0 1))))] μ10 (fun μ14 => Post (some (.int (1 : Int32))) μ14)))))))) ∧ ((μ.1 4 0 0) = 0 → (Post (some (.int (0 : Int32))) μ))) :
    AW X 0 [some (.ref (X.G.ad 4 0)), some (.ref (X.G.ad 1 o1))] [] μ := by
  refine aw_aload_n hX dX4_giveBack_0 rfl ?_
  refine aw_geti hX kf_X4_18 sh_4 (by decide) rfl dX4_giveBack_1 ?_
  refine aw_if_ne (tgt := 9) hX dX4_giveBack_4 (by decide) (fun c1 => ?_) (fun c1 => ?_)
  · have k := k.1 c1
    refine aw_aload_n hX dX4_giveBack_9 rfl ?_
    refine aw_aload_n hX dX4_giveBack_10 rfl ?_
    refine aw_geti hX kf_X4_22 sh_4 (by decide) rfl dX4_giveBack_11 ?_
    refine aw_if_le (tgt := 26) hX dX4_giveBack_14 (by decide) (fun c2 => ?_) (fun c2 => ?_)
    · have k := k.1 c2
      refine aw_bipush hX dX4_giveBack_26 zb_29 ?_
      refine aw_puti hX kp_X4_22 sh_4 (by decide) rfl rfl rfl dX4_giveBack_28 ?_
      refine aw_mem (fun μ3 eμ3 => ?_)
      have k := k μ3 eμ3
      refine aw_aload_n hX dX4_giveBack_31 rfl ?_
      refine aw_dup hX dX4_giveBack_32 rfl ?_
      refine aw_geti hX kf_X4_18 sh_4 (by decide) rfl dX4_giveBack_33 ?_
      refine aw_iconst hX dX4_giveBack_36 zk_1 ?_
      refine aw_isub hX dX4_giveBack_37 ?_
      refine aw_puti hX kp_X4_18 sh_4 (by decide) rfl rfl rfl dX4_giveBack_38 ?_
      refine aw_mem (fun μ4 eμ4 => ?_)
      have k := k μ4 eμ4
      refine aw_aload_n hX dX4_giveBack_41 rfl ?_
      refine aw_aload_n hX dX4_giveBack_42 rfl ?_
      refine aw_getr (o' := 0) hX kf_X4_11 sh_4 (by decide) rfl rfl dX4_giveBack_43 ?_
      refine aw_aload_n hX dX4_giveBack_46 rfl ?_
      refine aw_geti hX kf_X4_22 sh_4 (by decide) rfl dX4_giveBack_47 ?_
      have s5 := k.1
      have k := k.2
      refine aw_aald' (k := (ix (μ4.1 4 0 1))) (o' := (1 + (ix (μ4.1 4 0 1)))) (C := "RainLoans$Book") hX sh_26 (by decide) rfl s5 rfl rfl dX4_giveBack_50 ?_
      have w6 : (1 + (ix (μ4.1 4 0 1))) < 49 := by have := zix s5; omega
      refine aw_invV (As := [.ref (X.G.ad 1 (1 + (ix (μ4.1 4 0 1))))]) (rest := []) (κ := 1) (o := o1) (T := TX1) (N := 9) hX vc_X4_25 sh_1 ho1 rfl rfl rfl (Nat.le_of_ble_eq_true rfl) dX4_giveBack_51 k (fun μ8 k => ?_)
      refine aw_iconst hX dX4_giveBack_54 zk_1 ?_
      exact aw_zret hX hr (by decide) dX4_giveBack_55 k
    · have k := k.2 c2
      refine aw_aload_n hX dX4_giveBack_17 rfl ?_
      refine aw_geti hX kf_X4_22 sh_4 (by decide) rfl dX4_giveBack_18 ?_
      refine aw_iconst hX dX4_giveBack_21 zk_1 ?_
      refine aw_isub hX dX4_giveBack_22 ?_
      refine aw_goto (tgt := 28) hX dX4_giveBack_23 (by decide) ?_
      refine aw_puti hX kp_X4_22 sh_4 (by decide) rfl rfl rfl dX4_giveBack_28 ?_
      refine aw_mem (fun μ9 eμ9 => ?_)
      have k := k μ9 eμ9
      refine aw_aload_n hX dX4_giveBack_31 rfl ?_
      refine aw_dup hX dX4_giveBack_32 rfl ?_
      refine aw_geti hX kf_X4_18 sh_4 (by decide) rfl dX4_giveBack_33 ?_
      refine aw_iconst hX dX4_giveBack_36 zk_1 ?_
      refine aw_isub hX dX4_giveBack_37 ?_
      refine aw_puti hX kp_X4_18 sh_4 (by decide) rfl rfl rfl dX4_giveBack_38 ?_
      refine aw_mem (fun μ10 eμ10 => ?_)
      have k := k μ10 eμ10
      refine aw_aload_n hX dX4_giveBack_41 rfl ?_
      refine aw_aload_n hX dX4_giveBack_42 rfl ?_
      refine aw_getr (o' := 0) hX kf_X4_11 sh_4 (by decide) rfl rfl dX4_giveBack_43 ?_
      refine aw_aload_n hX dX4_giveBack_46 rfl ?_
      refine aw_geti hX kf_X4_22 sh_4 (by decide) rfl dX4_giveBack_47 ?_
      have s11 := k.1
      have k := k.2
      refine aw_aald' (k := (ix (μ10.1 4 0 1))) (o' := (1 + (ix (μ10.1 4 0 1)))) (C := "RainLoans$Book") hX sh_26 (by decide) rfl s11 rfl rfl dX4_giveBack_50 ?_
      have w12 : (1 + (ix (μ10.1 4 0 1))) < 49 := by have := zix s11; omega
      refine aw_invV (As := [.ref (X.G.ad 1 (1 + (ix (μ10.1 4 0 1))))]) (rest := []) (κ := 1) (o := o1) (T := TX1) (N := 9) hX vc_X4_25 sh_1 ho1 rfl rfl rfl (Nat.le_of_ble_eq_true rfl) dX4_giveBack_51 k (fun μ14 k => ?_)
      refine aw_iconst hX dX4_giveBack_54 zk_1 ?_
      exact aw_zret hX hr (by decide) dX4_giveBack_55 k
  · have k := k.2 c1
    refine aw_iconst hX dX4_giveBack_7 zk_0 ?_
    exact aw_zret hX hr (by decide) dX4_giveBack_8 k

