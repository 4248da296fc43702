set_option maxRecDepth 100000 in
set_option maxHeartbeats 4000000 in
theorem st_X0_start_0 {X : zX} {lv : Nat} {Post : Option Value → zM → Prop} (hX : zOk X cX0_start RX0 2 lv) (hr : zRt X none Post) {o1 : Nat} (ho1 : o1 < 49)  {μ : zM}
    (k : zCallV X lv yX1_copyFrom cX1_copyFrom 2 none [.ref (X.G.ad 1 31), .ref (X.G.ad 1 o1)] μ (fun μ2 => Post none μ2)) :
    AW X 0 [some (.ref (X.G.ad 0 0)), some (.ref (X.G.ad 1 o1))] [] μ := by
  refine aw_aload_n hX dX0_start_0 rfl ?_
  refine aw_getr (o' := 0) hX kf_X0_11 sh_0 (by decide) rfl rfl dX0_start_1 ?_
  refine aw_iconst hX dX0_start_4 zk_0 ?_
  refine aw_aald' (k := 0) (o' := 31) (C := "RainLoans$Book") hX sh_12 (by decide) rfl (zdi (by decide)) (by decide) rfl dX0_start_5 ?_
  refine aw_aload_n hX dX0_start_6 rfl ?_
  refine aw_invV (As := [.ref (X.G.ad 1 o1)]) (rest := []) (κ := 1) (o := 31) (T := TX1) (N := 9) hX vc_X0_22 sh_1 (by decide) rfl rfl rfl (Nat.le_of_ble_eq_true rfl) dX0_start_7 k (fun μ2 k => ?_)
  exact aw_vret hX hr dX0_start_10 k

set_option maxRecDepth 100000 in
set_option maxHeartbeats 4000000 in
theorem st_X0_startPaid_0 {X : zX} {lv : Nat} {Post : Option Value → zM → Prop} (hX : zOk X cX0_startPaid RX0 3 lv) (hr : zRt X none Post) {o1 : Nat} (ho1 : o1 < 6) {x2 : Int32} {μ : zM}
    (k : zCallV X lv yX1_payNow cX1_payNow 3 none [.ref (X.G.ad 1 31), .ref (X.G.ad 2 o1), .int x2] μ (fun μ2 => Post none μ2)) :
    AW X 0 [some (.ref (X.G.ad 0 0)), some (.ref (X.G.ad 2 o1)), some (.int x2)] [] μ := by
  refine aw_aload_n hX dX0_startPaid_0 rfl ?_
  refine aw_getr (o' := 0) hX kf_X0_11 sh_0 (by decide) rfl rfl dX0_startPaid_1 ?_
  refine aw_iconst hX dX0_startPaid_4 zk_0 ?_
  refine aw_aald' (k := 0) (o' := 31) (C := "RainLoans$Book") hX sh_12 (by decide) rfl (zdi (by decide)) (by decide) rfl dX0_startPaid_5 ?_
  refine aw_aload_n hX dX0_startPaid_6 rfl ?_
  refine aw_iload_n hX dX0_startPaid_7 rfl ?_
  refine aw_invV (As := [.ref (X.G.ad 2 o1), .int x2]) (rest := []) (κ := 1) (o := 31) (T := TX1) (N := 9) hX vc_X0_26 sh_1 (by decide) rfl rfl rfl (Nat.le_of_ble_eq_true rfl) dX0_startPaid_8 k (fun μ2 k => ?_)
  exact aw_vret hX hr dX0_startPaid_11 k

set_option maxRecDepth 100000 in
set_option maxHeartbeats 4000000 in
theorem st_X0_total_0 {X : zX} {lv : Nat} {Post : Option Value → zM → Prop} (hX : zOk X cX0_total RX0 5 lv) (hr : zRt X (some .long) Post) {o1 : Nat} (ho1 : o1 < 6) {x2 : Int32} {x3 : Int32} {x4 : Int32} {μ : zM}
    (k : ∀ μ1 : zM, μ1 = pI μ 0 0 2 x2 → (∀ μ2 : zM, μ2 = pI μ1 0 0 3 x3 → (∀ μ3 : zM, μ3 = pI μ2 0 0 4 x4 → (∀ μ4 : zM, μ4 = pL μ3 0 0 6 (0 : Int64) → (zCallV X lv yX0_walk cX0_walk 9 none [.ref (X.G.ad 0 0), .ref (X.G.ad 2 o1), .int (0 : Int32), .long (1 : Int64), .int (0 : Int32)] μ4 (fun μ6 => Post (some (.long (μ6.2 0 0 6))) μ6)))))) :
    AW X 0 [some (.ref (X.G.ad 0 0)), some (.ref (X.G.ad 2 o1)), some (.int x2), some (.int x3), some (.int x4)] [] μ := by
  refine aw_aload_n hX dX0_total_0 rfl ?_
  refine aw_iload_n hX dX0_total_1 rfl ?_
  refine aw_puti hX kp_X0_30 sh_0 (by decide) rfl rfl rfl dX0_total_2 ?_
  refine aw_mem (fun μ1 eμ1 => ?_)
  have k := k μ1 eμ1
  refine aw_aload_n hX dX0_total_5 rfl ?_
  refine aw_iload_n hX dX0_total_6 rfl ?_
  refine aw_puti hX kp_X0_34 sh_0 (by decide) rfl rfl rfl dX0_total_7 ?_
  refine aw_mem (fun μ2 eμ2 => ?_)
  have k := k μ2 eμ2
  refine aw_aload_n hX dX0_total_10 rfl ?_
  refine aw_iload hX dX0_total_11 rfl ?_
  refine aw_puti hX kp_X0_37 sh_0 (by decide) rfl rfl rfl dX0_total_13 ?_
  refine aw_mem (fun μ3 eμ3 => ?_)
  have k := k μ3 eμ3
  refine aw_aload_n hX dX0_total_16 rfl ?_
  refine aw_lconst (v := (0 : Int64)) hX dX0_total_17 (by decide) ?_
  refine aw_putl hX kp_X0_40 sh_0 (by decide) rfl dX0_total_18 ?_
  refine aw_mem (fun μ4 eμ4 => ?_)
  have k := k μ4 eμ4
  refine aw_aload_n hX dX0_total_21 rfl ?_
  refine aw_aload_n hX dX0_total_22 rfl ?_
  refine aw_iconst hX dX0_total_23 zk_0 ?_
  refine aw_lconst (v := (1 : Int64)) hX dX0_total_24 (by decide) ?_
  refine aw_iconst hX dX0_total_25 zk_0 ?_
  refine aw_invV (As := [.ref (X.G.ad 2 o1), .int (0 : Int32), .long (1 : Int64), .int (0 : Int32)]) (rest := []) (κ := 0) (o := 0) (T := TX0) (N := 7) hX vc_X0_44 sh_0 (by decide) rfl rfl rfl (Nat.le_of_ble_eq_true rfl) dX0_total_26 k (fun μ6 k => ?_)
  refine aw_aload_n hX dX0_total_29 rfl ?_
  refine aw_getl hX kf_X0_40 sh_0 (by decide) rfl dX0_total_30 ?_
  exact aw_lret hX hr dX0_total_33 k

set_option maxRecDepth 100000 in
set_option maxHeartbeats 4000000 in
theorem st_X0_findFitting_0 {X : zX} {lv : Nat} {Post : Option Value → zM → Prop} (hX : zOk X cX0_findFitting RX0 6 lv) (hr : zRt X (some .int) Post) {o1 : Nat} (ho1 : o1 < 6) {x2 : Int32} {x3 : Int32} {x4 : Int32} {μ : zM}
    (k : ∀ μ1 : zM, μ1 = pI μ 0 0 5 x4 → (AW X 9 [some (.ref (X.G.ad 0 0)), some (.ref (X.G.ad 2 o1)), some (.int x2), some (.int x3), none, some (.int (0 : Int32))] [] μ1)) :
    AW X 0 [some (.ref (X.G.ad 0 0)), some (.ref (X.G.ad 2 o1)), some (.int x2), some (.int x3), some (.int x4), none] [] μ := by
  refine aw_aload_n hX dX0_findFitting_0 rfl ?_
  refine aw_iload hX dX0_findFitting_1 rfl ?_
  refine aw_puti hX kp_X0_48 sh_0 (by decide) rfl rfl rfl dX0_findFitting_3 ?_
  refine aw_mem (fun μ1 eμ1 => ?_)
  have k := k μ1 eμ1
  refine aw_iconst hX dX0_findFitting_6 zk_0 ?_
  refine aw_istore (L' := [some (.ref (X.G.ad 0 0)), some (.ref (X.G.ad 2 o1)), some (.int x2), some (.int x3), some (.int x4), some (.int (0 : Int32))]) hX dX0_findFitting_7 (Nat.le_of_ble_eq_true rfl) rfl ?_
  exact aw_less (zle_s (zle_s (zle_s (zle_s (zle_o (zle_s zle_n)))))) k

set_option maxRecDepth 100000 in
set_option maxHeartbeats 4000000 in
theorem st_X0_findFitting_9 {X : zX} {lv : Nat} {Post : Option Value → zM → Prop} (hX : zOk X cX0_findFitting RX0 6 lv) (hr : zRt X (some .int) Post) {o1 : Nat} (ho1 : o1 < 6) {x2 : Int32} {x3 : Int32} {x5 : Int32} {μ : zM}
    (k : ((64 : Int32) ≤ x5 → (zCallJ X lv yX0_total cX0_total 5 (some .long) [.ref (X.G.ad 0 0), .ref (X.G.ad 2 o1), .int x2, .int (3 : Int32), .int x3] μ (fun (r2 : Int64) μ3 => Post (some (.int (Int64.toInt32 r2))) μ3))) ∧ (¬ (64 : Int32) ≤ x5 → ((vp_in x5 64) ∧ (∀ μ5 : zM, μ5 = pL μ 13 0 (ix x5) (0 : Int64) → (∀ v6 : Int32, v6 = x5 + (1 : Int32) → (AW X 9 [some (.ref (X.G.ad 0 0)), some (.ref (X.G.ad 2 o1)), some (.int x2), some (.int x3), none, some (.int v6)] [] μ5)))))) :
    AW X 9 [some (.ref (X.G.ad 0 0)), some (.ref (X.G.ad 2 o1)), some (.int x2), some (.int x3), none, some (.int x5)] [] μ := by
  refine aw_iload hX dX0_findFitting_9 rfl ?_
  refine aw_bipush hX dX0_findFitting_11 zb_64 ?_
  refine aw_icmp_ge (tgt := 30) hX dX0_findFitting_13 (by decide) (fun c1 => ?_) (fun c1 => ?_)
  · have k := k.1 c1
    refine aw_aload_n hX dX0_findFitting_30 rfl ?_
    refine aw_aload_n hX dX0_findFitting_31 rfl ?_
    refine aw_iload_n hX dX0_findFitting_32 rfl ?_
    refine aw_iconst hX dX0_findFitting_33 zk_3 ?_
    refine aw_iload_n hX dX0_findFitting_34 rfl ?_
    refine aw_invJ (As := [.ref (X.G.ad 2 o1), .int x2, .int (3 : Int32), .int x3]) (rest := []) (κ := 0) (o := 0) (T := TX0) (N := 7) hX vc_X0_51 sh_0 (by decide) rfl rfl rfl (Nat.le_of_ble_eq_true rfl) dX0_findFitting_35 k (fun r2 μ3 k => ?_)
    refine aw_l2i hX dX0_findFitting_38 ?_
    exact aw_iret hX hr dX0_findFitting_39 k
  · have k := k.2 c1
    refine aw_aload_n hX dX0_findFitting_16 rfl ?_
    refine aw_getr (o' := 0) hX kf_X0_18 sh_0 (by decide) rfl rfl dX0_findFitting_17 ?_
    refine aw_iload hX dX0_findFitting_20 rfl ?_
    refine aw_lconst (v := (0 : Int64)) hX dX0_findFitting_22 (by decide) ?_
    have s4 := k.1
    have k := k.2
    refine aw_last' (k := (ix x5)) hX sh_13 (by decide) s4 rfl dX0_findFitting_23 ?_
    refine aw_mem (fun μ5 eμ5 => ?_)
    have k := k μ5 eμ5
    obtain ⟨v6, ev6⟩ : ∃ y : Int32, y = x5 + (1 : Int32) := ⟨_, rfl⟩
    have k := k v6 ev6
    refine aw_iinc (v := v6) (L' := [some (.ref (X.G.ad 0 0)), some (.ref (X.G.ad 2 o1)), some (.int x2), some (.int x3), none, some (.int v6)]) hX dX0_findFitting_24 rfl (by rw [ev6]; rfl) (Nat.le_of_ble_eq_true rfl) rfl ?_
    refine aw_goto (tgt := 9) hX dX0_findFitting_27 (by decide) ?_
    exact k

set_option maxRecDepth 100000 in
set_option maxHeartbeats 4000000 in
theorem st_X0_walk_0 {X : zX} {lv : Nat} {Post : Option Value → zM → Prop} (hX : zOk X cX0_walk RX0 9 lv) (hr : zRt X none Post) {o1 : Nat} (ho1 : o1 < 6) {x2 : Int32} {x3 : Int64} {x5 : Int32} {μ : zM}
    (k : ((μ.1 0 0 2) ≤ x2 → ((vp_in x2 13) ∧ (zCallV X lv yX0_arrive cX0_arrive 5 none [.ref (X.G.ad 0 0), .ref (X.G.ad 1 (31 + (ix x2))), .long x3, .int x5] μ (fun μ5 => Post none μ5)))) ∧ (¬ (μ.1 0 0 2) ≤ x2 → ((x2 < (12 : Int32) → (AW X 31 [some (.ref (X.G.ad 0 0)), some (.ref (X.G.ad 2 o1)), some (.int x2), some (.long x3), none, some (.int x5), some (.int (0 : Int32)), none, none] [] μ)) ∧ (¬ x2 < (12 : Int32) → ((vp_in x2 13) ∧ (zCallV X lv yX0_arrive cX0_arrive 5 none [.ref (X.G.ad 0 0), .ref (X.G.ad 1 (31 + (ix x2))), .long x3, .int x5] μ (fun μ10 => Post none μ10))))))) :
    AW X 0 [some (.ref (X.G.ad 0 0)), some (.ref (X.G.ad 2 o1)), some (.int x2), some (.long x3), none, some (.int x5), none, none, none] [] μ := by
  refine aw_iload_n hX dX0_walk_0 rfl ?_
  refine aw_aload_n hX dX0_walk_1 rfl ?_
  refine aw_geti hX kf_X0_30 sh_0 (by decide) rfl dX0_walk_2 ?_
  refine aw_icmp_ge (tgt := 14) hX dX0_walk_5 (by decide) (fun c1 => ?_) (fun c1 => ?_)
  · have k := k.1 c1
    refine aw_aload_n hX dX0_walk_14 rfl ?_
    refine aw_aload_n hX dX0_walk_15 rfl ?_
    refine aw_getr (o' := 0) hX kf_X0_11 sh_0 (by decide) rfl rfl dX0_walk_16 ?_
    refine aw_iload_n hX dX0_walk_19 rfl ?_
    have s2 := k.1
    have k := k.2
    refine aw_aald' (k := (ix x2)) (o' := (31 + (ix x2))) (C := "RainLoans$Book") hX sh_12 (by decide) rfl s2 rfl rfl dX0_walk_20 ?_
    have w3 : (31 + (ix x2)) < 49 := by have := zix s2; omega
    refine aw_lload_n hX dX0_walk_21 rfl ?_
    refine aw_iload hX dX0_walk_22 rfl ?_
    refine aw_invV (As := [.ref (X.G.ad 1 (31 + (ix x2))), .long x3, .int x5]) (rest := []) (κ := 0) (o := 0) (T := TX0) (N := 7) hX vc_X0_55 sh_0 (by decide) rfl rfl rfl (Nat.le_of_ble_eq_true rfl) dX0_walk_24 k (fun μ5 k => ?_)
    exact aw_vret hX hr dX0_walk_27 k
  · have k := k.2 c1
    refine aw_iload_n hX dX0_walk_8 rfl ?_
    refine aw_bipush hX dX0_walk_9 zb_12 ?_
    refine aw_icmp_lt (tgt := 28) hX dX0_walk_11 (by decide) (fun c6 => ?_) (fun c6 => ?_)
    · have k := k.1 c6
      refine aw_iconst hX dX0_walk_28 zk_0 ?_
      refine aw_istore (L' := [some (.ref (X.G.ad 0 0)), some (.ref (X.G.ad 2 o1)), some (.int x2), some (.long x3), none, some (.int x5), some (.int (0 : Int32)), none, none]) hX dX0_walk_29 (Nat.le_of_ble_eq_true rfl) rfl ?_
      exact k
    · have k := k.2 c6
      refine aw_aload_n hX dX0_walk_14 rfl ?_
      refine aw_aload_n hX dX0_walk_15 rfl ?_
      refine aw_getr (o' := 0) hX kf_X0_11 sh_0 (by decide) rfl rfl dX0_walk_16 ?_
      refine aw_iload_n hX dX0_walk_19 rfl ?_
      have s7 := k.1
      have k := k.2
      refine aw_aald' (k := (ix x2)) (o' := (31 + (ix x2))) (C := "RainLoans$Book") hX sh_12 (by decide) rfl s7 rfl rfl dX0_walk_20 ?_
      have w8 : (31 + (ix x2)) < 49 := by have := zix s7; omega
      refine aw_lload_n hX dX0_walk_21 rfl ?_
      refine aw_iload hX dX0_walk_22 rfl ?_
      refine aw_invV (As := [.ref (X.G.ad 1 (31 + (ix x2))), .long x3, .int x5]) (rest := []) (κ := 0) (o := 0) (T := TX0) (N := 7) hX vc_X0_55 sh_0 (by decide) rfl rfl rfl (Nat.le_of_ble_eq_true rfl) dX0_walk_24 k (fun μ10 k => ?_)
      exact aw_vret hX hr dX0_walk_27 k

set_option maxRecDepth 100000 in
set_option maxHeartbeats 4000000 in
theorem st_X0_walk_31 {X : zX} {lv : Nat} {Post : Option Value → zM → Prop} (hX : zOk X cX0_walk RX0 9 lv) (hr : zRt X none Post) {o1 : Nat} (ho1 : o1 < 6) {x2 : Int32} {x3 : Int64} {x5 : Int32} {x6 : Int32} {μ : zM}
    (k : (((1 : Int32) <<< ((μ.1 2 o1 0) &&& 31)) ≤ x6 → (Post none μ)) ∧ (¬ ((1 : Int32) <<< ((μ.1 2 o1 0) &&& 31)) ≤ x6 → ((vp_in x2 13) ∧ (zCallJ X lv yX2_oddsOf cX2_oddsOf 7 (some .long) [.ref (X.G.ad 2 o1), .int x6, .int (μ.1 1 (31 + (ix x2)) 2)] μ (fun (r4 : Int64) μ5 => ∀ v6 : Int64, v6 = (x3 * r4) → ((¬ (lg_cmp v6 (0 : Int64)) = 0 → (AW X 76 [some (.ref (X.G.ad 0 0)), some (.ref (X.G.ad 2 o1)), some (.int x2), some (.long x3), none, some (.int x5), some (.int x6), some (.long v6), none] [] μ5)) ∧ ((lg_cmp v6 (0 : Int64)) = 0 → ((¬ (μ5.1 0 0 3) = (3 : Int32) → (∀ v9 : Int32, v9 = x6 + (1 : Int32) → (AW X 31 [some (.ref (X.G.ad 0 0)), some (.ref (X.G.ad 2 o1)), some (.int x2), some (.long x3), none, some (.int x5), some (.int v9), none, none] [] μ5))) ∧ ((μ5.1 0 0 3) = (3 : Int32) → (AW X 76 [some (.ref (X.G.ad 0 0)), some (.ref (X.G.ad 2 o1)), some (.int x2), some (.long x3), none, some (.int x5), some (.int x6), some (.long v6), none] [] μ5)))))))))) :
    AW X 31 [some (.ref (X.G.ad 0 0)), some (.ref (X.G.ad 2 o1)), some (.int x2), some (.long x3), none, some (.int x5), some (.int x6), none, none] [] μ := by
  refine aw_iload hX dX0_walk_31 rfl ?_
  refine aw_iconst hX dX0_walk_33 zk_1 ?_
  refine aw_aload_n hX dX0_walk_34 rfl ?_
  refine aw_geti hX kf_X0_59 sh_2 ho1 rfl dX0_walk_35 ?_
  refine aw_ishl hX dX0_walk_38 ?_
  refine aw_icmp_ge (tgt := 135) hX dX0_walk_39 (by decide) (fun c1 => ?_) (fun c1 => ?_)
  · have k := k.1 c1
    exact aw_vret hX hr dX0_walk_135 k
  · have k := k.2 c1
    refine aw_lload_n hX dX0_walk_42 rfl ?_
    refine aw_aload_n hX dX0_walk_43 rfl ?_
    refine aw_iload hX dX0_walk_44 rfl ?_
    refine aw_aload_n hX dX0_walk_46 rfl ?_
    refine aw_getr (o' := 0) hX kf_X0_11 sh_0 (by decide) rfl rfl dX0_walk_47 ?_
    refine aw_iload_n hX dX0_walk_50 rfl ?_
    have s2 := k.1
    have k := k.2
    refine aw_aald' (k := (ix x2)) (o' := (31 + (ix x2))) (C := "RainLoans$Book") hX sh_12 (by decide) rfl s2 rfl rfl dX0_walk_51 ?_
    have w3 : (31 + (ix x2)) < 49 := by have := zix s2; omega
    refine aw_geti hX kf_X0_64 sh_1 w3 rfl dX0_walk_52 ?_
    refine aw_invJ (As := [.int x6, .int (μ.1 1 (31 + (ix x2)) 2)]) (rest := [.long x3]) (κ := 2) (o := o1) (T := TX2) (N := 11) hX vc_X0_67 sh_2 ho1 rfl rfl rfl (Nat.le_of_ble_eq_true rfl) dX0_walk_55 k (fun r4 μ5 k => ?_)
    refine aw_lmul hX dX0_walk_58 ?_
    refine aw_topl (fun v6 ev6 => ?_)
    have k := k v6 ev6
    refine aw_lstore (L' := [some (.ref (X.G.ad 0 0)), some (.ref (X.G.ad 2 o1)), some (.int x2), some (.long x3), none, some (.int x5), some (.int x6), some (.long v6), none]) hX dX0_walk_59 (Nat.le_of_ble_eq_true rfl) rfl ?_
    refine aw_lload hX dX0_walk_61 rfl ?_
    refine aw_lconst (v := (0 : Int64)) hX dX0_walk_63 (by decide) ?_
    refine aw_lcmp hX dX0_walk_64 ?_
    refine aw_if_ne (tgt := 76) hX dX0_walk_65 (by decide) (fun c7 => ?_) (fun c7 => ?_)
    · have k := k.1 c7
      exact k
    · have k := k.2 c7
      refine aw_aload_n hX dX0_walk_68 rfl ?_
      refine aw_geti hX kf_X0_34 sh_0 (by decide) rfl dX0_walk_69 ?_
      refine aw_iconst hX dX0_walk_72 zk_3 ?_
      refine aw_icmp_ne (tgt := 129) hX dX0_walk_73 (by decide) (fun c8 => ?_) (fun c8 => ?_)
      · have k := k.1 c8
        obtain ⟨v9, ev9⟩ : ∃ y : Int32, y = x6 + (1 : Int32) := ⟨_, rfl⟩
        have k := k v9 ev9
        refine aw_iinc (v := v9) (L' := [some (.ref (X.G.ad 0 0)), some (.ref (X.G.ad 2 o1)), some (.int x2), some (.long x3), none, some (.int x5), some (.int v9), some (.long v6), none]) hX dX0_walk_129 rfl (by rw [ev9]; rfl) (Nat.le_of_ble_eq_true rfl) rfl ?_
        refine aw_goto (tgt := 31) hX dX0_walk_132 (by decide) ?_
        exact aw_less (zle_s (zle_s (zle_s (zle_s (zle_o (zle_s (zle_s (zle_o (zle_o zle_n))))))))) k
      · have k := k.2 c8
        exact k

set_option maxRecDepth 100000 in
set_option maxHeartbeats 4000000 in
theorem st_X0_walk_76 {X : zX} {lv : Nat} {Post : Option Value → zM → Prop} (hX : zOk X cX0_walk RX0 9 lv) (hr : zRt X none Post) {o1 : Nat} (ho1 : o1 < 6) {x2 : Int32} {x3 : Int64} {x5 : Int32} {x6 : Int32} {x7 : Int64} {μ : zM}
    (k : (vp_in (x2 + (1 : Int32)) 13) ∧ ((vp_in x2 13) ∧ (zCallV X lv yX1_copyFrom cX1_copyFrom 2 none [.ref (X.G.ad 1 (31 + (ix (x2 + (1 : Int32))))), .ref (X.G.ad 1 (31 + (ix x2)))] μ (fun μ6 => zCallV X lv yX1_live cX1_live 4 none [.ref (X.G.ad 1 (31 + (ix (x2 + (1 : Int32))))), .ref (X.G.ad 2 o1), .int x6] μ6 (fun μ8 => zCallV X lv yX0_walk cX0_walk 9 none [.ref (X.G.ad 0 0), .ref (X.G.ad 2 o1), .int (x2 + (1 : Int32)), .long x7, .int (x5 ||| (x6 <<< (((μ8.1 2 o1 0) * x2) &&& 31)))] μ8 (fun μ10 => ∀ v11 : Int32, v11 = x6 + (1 : Int32) → (AW X 31 [some (.ref (X.G.ad 0 0)), some (.ref (X.G.ad 2 o1)), some (.int x2), some (.long x3), none, some (.int x5), some (.int v11), none, none] [] μ10))))))) :
    AW X 76 [some (.ref (X.G.ad 0 0)), some (.ref (X.G.ad 2 o1)), some (.int x2), some (.long x3), none, some (.int x5), some (.int x6), some (.long x7), none] [] μ := by
  refine aw_aload_n hX dX0_walk_76 rfl ?_
  refine aw_getr (o' := 0) hX kf_X0_11 sh_0 (by decide) rfl rfl dX0_walk_77 ?_
  refine aw_iload_n hX dX0_walk_80 rfl ?_
  refine aw_iconst hX dX0_walk_81 zk_1 ?_
  refine aw_iadd hX dX0_walk_82 ?_
  have s1 := k.1
  have k := k.2
  refine aw_aald' (k := (ix (x2 + (1 : Int32)))) (o' := (31 + (ix (x2 + (1 : Int32))))) (C := "RainLoans$Book") hX sh_12 (by decide) rfl s1 rfl rfl dX0_walk_83 ?_
  have w2 : (31 + (ix (x2 + (1 : Int32)))) < 49 := by have := zix s1; omega
  refine aw_aload_n hX dX0_walk_84 rfl ?_
  refine aw_getr (o' := 0) hX kf_X0_11 sh_0 (by decide) rfl rfl dX0_walk_85 ?_
  refine aw_iload_n hX dX0_walk_88 rfl ?_
  have s3 := k.1
  have k := k.2
  refine aw_aald' (k := (ix x2)) (o' := (31 + (ix x2))) (C := "RainLoans$Book") hX sh_12 (by decide) rfl s3 rfl rfl dX0_walk_89 ?_
  have w4 : (31 + (ix x2)) < 49 := by have := zix s3; omega
  refine aw_invV (As := [.ref (X.G.ad 1 (31 + (ix x2)))]) (rest := []) (κ := 1) (o := (31 + (ix (x2 + (1 : Int32))))) (T := TX1) (N := 9) hX vc_X0_22 sh_1 w2 rfl rfl rfl (Nat.le_of_ble_eq_true rfl) dX0_walk_90 k (fun μ6 k => ?_)
  refine aw_aload_n hX dX0_walk_93 rfl ?_
  refine aw_getr (o' := 0) hX kf_X0_11 sh_0 (by decide) rfl rfl dX0_walk_94 ?_
  refine aw_iload_n hX dX0_walk_97 rfl ?_
  refine aw_iconst hX dX0_walk_98 zk_1 ?_
  refine aw_iadd hX dX0_walk_99 ?_
  refine aw_aald' (k := (ix (x2 + (1 : Int32)))) (o' := (31 + (ix (x2 + (1 : Int32))))) (C := "RainLoans$Book") hX sh_12 (by decide) rfl s1 rfl rfl dX0_walk_100 ?_
  refine aw_aload_n hX dX0_walk_101 rfl ?_
  refine aw_iload hX dX0_walk_102 rfl ?_
  refine aw_invV (As := [.ref (X.G.ad 2 o1), .int x6]) (rest := []) (κ := 1) (o := (31 + (ix (x2 + (1 : Int32))))) (T := TX1) (N := 9) hX vc_X0_71 sh_1 w2 rfl rfl rfl (Nat.le_of_ble_eq_true rfl) dX0_walk_104 k (fun μ8 k => ?_)
  refine aw_aload_n hX dX0_walk_107 rfl ?_
  refine aw_aload_n hX dX0_walk_108 rfl ?_
  refine aw_iload_n hX dX0_walk_109 rfl ?_
  refine aw_iconst hX dX0_walk_110 zk_1 ?_
  refine aw_iadd hX dX0_walk_111 ?_
  refine aw_lload hX dX0_walk_112 rfl ?_
  refine aw_iload hX dX0_walk_114 rfl ?_
  refine aw_iload hX dX0_walk_116 rfl ?_
  refine aw_aload_n hX dX0_walk_118 rfl ?_
  refine aw_geti hX kf_X0_59 sh_2 ho1 rfl dX0_walk_119 ?_
  refine aw_iload_n hX dX0_walk_122 rfl ?_
  refine aw_imul hX dX0_walk_123 ?_
  refine aw_ishl hX dX0_walk_124 ?_
  refine aw_ior hX dX0_walk_125 ?_
  refine aw_invV (As := [.ref (X.G.ad 2 o1), .int (x2 + (1 : Int32)), .long x7, .int (x5 ||| (x6 <<< (((μ8.1 2 o1 0) * x2) &&& 31)))]) (rest := []) (κ := 0) (o := 0) (T := TX0) (N := 7) hX vc_X0_44 sh_0 (by decide) rfl rfl rfl (Nat.le_of_ble_eq_true rfl) dX0_walk_126 k (fun μ10 k => ?_)
  obtain ⟨v11, ev11⟩ : ∃ y : Int32, y = x6 + (1 : Int32) := ⟨_, rfl⟩
  have k := k v11 ev11
  refine aw_iinc (v := v11) (L' := [some (.ref (X.G.ad 0 0)), some (.ref (X.G.ad 2 o1)), some (.int x2), some (.long x3), none, some (.int x5), some (.int v11), some (.long x7), none]) hX dX0_walk_129 rfl (by rw [ev11]; rfl) (Nat.le_of_ble_eq_true rfl) rfl ?_
  refine aw_goto (tgt := 31) hX dX0_walk_132 (by decide) ?_
  exact aw_less (zle_s (zle_s (zle_s (zle_s (zle_o (zle_s (zle_s (zle_o (zle_o zle_n))))))))) k

set_option maxRecDepth 100000 in
set_option maxHeartbeats 4000000 in
theorem st_X0_arrive_0 {X : zX} {lv : Nat} {Post : Option Value → zM → Prop} (hX : zOk X cX0_arrive RX0 5 lv) (hr : zRt X none Post) {o1 : Nat} (ho1 : o1 < 49) {x2 : Int64} {x4 : Int32} {μ : zM}
    (k : ((μ.1 0 0 3) = (0 : Int32) → ((vp_in (μ.1 0 0 4) 10) ∧ (∀ μ3 : zM, μ3 = pL μ 0 0 6 ((μ.2 0 0 6) + (x2 * (Int32.toInt64 ((μ.1 18 o1 (ix (μ.1 0 0 4))) - (μ.1 18 31 (ix (μ.1 0 0 4))))))) → (Post none μ3)))) ∧ (¬ (μ.1 0 0 3) = (0 : Int32) → ((μ.1 0 0 3) = (1 : Int32) → ((vp_in (μ.1 0 0 4) 10) ∧ (((μ.1 16 o1 (ix (μ.1 0 0 4))) = 0 → (∀ μ7 : zM, μ7 = pL μ 0 0 6 ((μ.2 0 0 6) + (0 : Int64)) → (Post none μ7))) ∧ (¬ (μ.1 16 o1 (ix (μ.1 0 0 4))) = 0 → (∀ μ8 : zM, μ8 = pL μ 0 0 6 ((μ.2 0 0 6) + x2) → (Post none μ8)))))) ∧ (¬ (μ.1 0 0 3) = (1 : Int32) → ((μ.1 0 0 3) = (2 : Int32) → ((vp_in (μ.1 0 0 4) 6) ∧ (∀ μ11 : zM, μ11 = pL μ 0 0 6 ((μ.2 0 0 6) + (x2 * (Int32.toInt64 (μ.1 14 o1 (ix (μ.1 0 0 4)))))) → (Post none μ11)))) ∧ (¬ (μ.1 0 0 3) = (2 : Int32) → (zCallV X lv yX0_noteFit cX0_noteFit 4 none [.ref (X.G.ad 0 0), .ref (X.G.ad 1 o1), .int x4] μ (fun μ13 => Post none μ13)))))) :
    AW X 0 [some (.ref (X.G.ad 0 0)), some (.ref (X.G.ad 1 o1)), some (.long x2), none, some (.int x4)] [] μ := by
  refine aw_aload_n hX dX0_arrive_0 rfl ?_
  refine aw_geti hX kf_X0_34 sh_0 (by decide) rfl dX0_arrive_1 ?_
  by_cases c1 : (μ.1 0 0 3) = (0 : Int32)
  · have k := k.1 c1
    refine aw_tsIn (tgt := 32) (off := 28) hX dX0_arrive_4 (by rw [c1]; decide) (by rw [c1]; decide) (by rw [c1]; decide) (by decide) ?_
    refine aw_aload_n hX dX0_arrive_32 rfl ?_
    refine aw_dup hX dX0_arrive_33 rfl ?_
    refine aw_getl hX kf_X0_40 sh_0 (by decide) rfl dX0_arrive_34 ?_
    refine aw_lload_n hX dX0_arrive_37 rfl ?_
    refine aw_aload_n hX dX0_arrive_38 rfl ?_
    refine aw_getr (o' := o1) hX kf_X0_74 sh_1 ho1 rfl (Nat.one_mul o1) dX0_arrive_39 ?_
    refine aw_aload_n hX dX0_arrive_42 rfl ?_
    refine aw_geti hX kf_X0_37 sh_0 (by decide) rfl dX0_arrive_43 ?_
    have s2 := k.1
    have k := k.2
    refine aw_iald' (k := (ix (μ.1 0 0 4))) hX sh_18 ho1 s2 rfl dX0_arrive_46 ?_
    refine aw_aload_n hX dX0_arrive_47 rfl ?_
    refine aw_getr (o' := 0) hX kf_X0_11 sh_0 (by decide) rfl rfl dX0_arrive_48 ?_
    refine aw_iconst hX dX0_arrive_51 zk_0 ?_
    refine aw_aald' (k := 0) (o' := 31) (C := "RainLoans$Book") hX sh_12 (by decide) rfl (zdi (by decide)) (by decide) rfl dX0_arrive_52 ?_
    refine aw_getr (o' := 31) hX kf_X0_74 sh_1 (by decide) rfl rfl dX0_arrive_53 ?_
    refine aw_aload_n hX dX0_arrive_56 rfl ?_
    refine aw_geti hX kf_X0_37 sh_0 (by decide) rfl dX0_arrive_57 ?_
    refine aw_iald' (k := (ix (μ.1 0 0 4))) hX sh_18 (by decide) s2 rfl dX0_arrive_60 ?_
    refine aw_isub hX dX0_arrive_61 ?_
    refine aw_i2l hX dX0_arrive_62 ?_
    refine aw_lmul hX dX0_arrive_63 ?_
    refine aw_ladd hX dX0_arrive_64 ?_
    refine aw_putl hX kp_X0_40 sh_0 (by decide) rfl dX0_arrive_65 ?_
    refine aw_mem (fun μ3 eμ3 => ?_)
    have k := k μ3 eμ3
    refine aw_goto (tgt := 131) hX dX0_arrive_68 (by decide) ?_
    exact aw_vret hX hr dX0_arrive_131 k
  · have k := k.2 c1
    by_cases c4 : (μ.1 0 0 3) = (1 : Int32)
    · have k := k.1 c4
      refine aw_tsIn (tgt := 71) (off := 67) hX dX0_arrive_4 (by rw [c4]; decide) (by rw [c4]; decide) (by rw [c4]; decide) (by decide) ?_
      refine aw_aload_n hX dX0_arrive_71 rfl ?_
      refine aw_dup hX dX0_arrive_72 rfl ?_
      refine aw_getl hX kf_X0_40 sh_0 (by decide) rfl dX0_arrive_73 ?_
      refine aw_aload_n hX dX0_arrive_76 rfl ?_
      refine aw_getr (o' := o1) hX kf_X0_78 sh_1 ho1 rfl (Nat.one_mul o1) dX0_arrive_77 ?_
      refine aw_aload_n hX dX0_arrive_80 rfl ?_
      refine aw_geti hX kf_X0_37 sh_0 (by decide) rfl dX0_arrive_81 ?_
      have s5 := k.1
      have k := k.2
      refine aw_iald' (k := (ix (μ.1 0 0 4))) hX sh_16 ho1 s5 rfl dX0_arrive_84 ?_
      refine aw_if_eq (tgt := 92) hX dX0_arrive_85 (by decide) (fun c6 => ?_) (fun c6 => ?_)
      · have k := k.1 c6
        refine aw_lconst (v := (0 : Int64)) hX dX0_arrive_92 (by decide) ?_
        refine aw_ladd hX dX0_arrive_93 ?_
        refine aw_putl hX kp_X0_40 sh_0 (by decide) rfl dX0_arrive_94 ?_
        refine aw_mem (fun μ7 eμ7 => ?_)
        have k := k μ7 eμ7
        refine aw_goto (tgt := 131) hX dX0_arrive_97 (by decide) ?_
        exact aw_vret hX hr dX0_arrive_131 k
      · have k := k.2 c6
        refine aw_lload_n hX dX0_arrive_88 rfl ?_
        refine aw_goto (tgt := 93) hX dX0_arrive_89 (by decide) ?_
        refine aw_ladd hX dX0_arrive_93 ?_
        refine aw_putl hX kp_X0_40 sh_0 (by decide) rfl dX0_arrive_94 ?_
        refine aw_mem (fun μ8 eμ8 => ?_)
        have k := k μ8 eμ8
        refine aw_goto (tgt := 131) hX dX0_arrive_97 (by decide) ?_
        exact aw_vret hX hr dX0_arrive_131 k
    · have k := k.2 c4
      by_cases c9 : (μ.1 0 0 3) = (2 : Int32)
      · have k := k.1 c9
        refine aw_tsIn (tgt := 100) (off := 96) hX dX0_arrive_4 (by rw [c9]; decide) (by rw [c9]; decide) (by rw [c9]; decide) (by decide) ?_
        refine aw_aload_n hX dX0_arrive_100 rfl ?_
        refine aw_dup hX dX0_arrive_101 rfl ?_
        refine aw_getl hX kf_X0_40 sh_0 (by decide) rfl dX0_arrive_102 ?_
        refine aw_lload_n hX dX0_arrive_105 rfl ?_
        refine aw_aload_n hX dX0_arrive_106 rfl ?_
        refine aw_getr (o' := o1) hX kf_X0_81 sh_1 ho1 rfl (Nat.one_mul o1) dX0_arrive_107 ?_
        refine aw_aload_n hX dX0_arrive_110 rfl ?_
        refine aw_geti hX kf_X0_37 sh_0 (by decide) rfl dX0_arrive_111 ?_
        have s10 := k.1
        have k := k.2
        refine aw_iald' (k := (ix (μ.1 0 0 4))) hX sh_14 ho1 s10 rfl dX0_arrive_114 ?_
        refine aw_i2l hX dX0_arrive_115 ?_
        refine aw_lmul hX dX0_arrive_116 ?_
        refine aw_ladd hX dX0_arrive_117 ?_
        refine aw_putl hX kp_X0_40 sh_0 (by decide) rfl dX0_arrive_118 ?_
        refine aw_mem (fun μ11 eμ11 => ?_)
        have k := k μ11 eμ11
        refine aw_goto (tgt := 131) hX dX0_arrive_121 (by decide) ?_
        exact aw_vret hX hr dX0_arrive_131 k
      · have k := k.2 c9
        have qc1 : Int32.toInt (μ.1 0 0 3) ≠ 0 := zne c1
        have qc4 : Int32.toInt (μ.1 0 0 3) ≠ 1 := zne c4
        have qc9 : Int32.toInt (μ.1 0 0 3) ≠ 2 := zne c9
        refine aw_tsOut (tgt := 124) hX dX0_arrive_4 (by omega) (by decide) ?_
        refine aw_aload_n hX dX0_arrive_124 rfl ?_
        refine aw_aload_n hX dX0_arrive_125 rfl ?_
        refine aw_iload hX dX0_arrive_126 rfl ?_
        refine aw_invV (As := [.ref (X.G.ad 1 o1), .int x4]) (rest := []) (κ := 0) (o := 0) (T := TX0) (N := 7) hX vc_X0_84 sh_0 (by decide) rfl rfl rfl (Nat.le_of_ble_eq_true rfl) dX0_arrive_128 k (fun μ13 k => ?_)
        exact aw_vret hX hr dX0_arrive_131 k

set_option maxRecDepth 100000 in
set_option maxHeartbeats 4000000 in
theorem st_X0_noteFit_0 {X : zX} {lv : Nat} {Post : Option Value → zM → Prop} (hX : zOk X cX0_noteFit RX0 4 lv) (hr : zRt X none Post) {o1 : Nat} (ho1 : o1 < 49) {x2 : Int32} {μ : zM}
    (k : ∀ v1 : Int32, v1 = (x2 >>> ((6 : Int32) &&& 31)) → ((vp_in (μ.1 0 0 4) 6) ∧ ((¬ (μ.1 14 o1 (ix (μ.1 0 0 4))) = (μ.1 0 0 5) → (Post none μ)) ∧ ((μ.1 14 o1 (ix (μ.1 0 0 4))) = (μ.1 0 0 5) → ((v1 < 0 → (Post none μ)) ∧ (¬ v1 < 0 → (((64 : Int32) ≤ v1 → (Post none μ)) ∧ (¬ (64 : Int32) ≤ v1 → ((vp_in v1 64) ∧ (∀ μ7 : zM, μ7 = pL μ 13 0 (ix v1) ((μ.2 13 0 (ix v1)) ||| ((1 : Int64) <<< (Int32.toInt64 (x2 &&& (63 : Int32)) &&& 63))) → (∀ μ8 : zM, μ8 = pL μ7 0 0 6 ((μ7.2 0 0 6) + (1 : Int64)) → (Post none μ8)))))))))))) :
    AW X 0 [some (.ref (X.G.ad 0 0)), some (.ref (X.G.ad 1 o1)), some (.int x2), none] [] μ := by
  refine aw_iload_n hX dX0_noteFit_0 rfl ?_
  refine aw_bipush hX dX0_noteFit_1 zb_6 ?_
  refine aw_ishr hX dX0_noteFit_3 ?_
  refine aw_topi (fun v1 ev1 => ?_)
  have k := k v1 ev1
  refine aw_istore_n (L' := [some (.ref (X.G.ad 0 0)), some (.ref (X.G.ad 1 o1)), some (.int x2), some (.int v1)]) hX dX0_noteFit_4 (Nat.le_of_ble_eq_true rfl) rfl ?_
  refine aw_aload_n hX dX0_noteFit_5 rfl ?_
  refine aw_getr (o' := o1) hX kf_X0_81 sh_1 ho1 rfl (Nat.one_mul o1) dX0_noteFit_6 ?_
  refine aw_aload_n hX dX0_noteFit_9 rfl ?_
  refine aw_geti hX kf_X0_37 sh_0 (by decide) rfl dX0_noteFit_10 ?_
  have s2 := k.1
  have k := k.2
  refine aw_iald' (k := (ix (μ.1 0 0 4))) hX sh_14 ho1 s2 rfl dX0_noteFit_13 ?_
  refine aw_aload_n hX dX0_noteFit_14 rfl ?_
  refine aw_geti hX kf_X0_48 sh_0 (by decide) rfl dX0_noteFit_15 ?_
  refine aw_icmp_ne (tgt := 56) hX dX0_noteFit_18 (by decide) (fun c3 => ?_) (fun c3 => ?_)
  · have k := k.1 c3
    exact aw_vret hX hr dX0_noteFit_56 k
  · have k := k.2 c3
    refine aw_iload_n hX dX0_noteFit_21 rfl ?_
    refine aw_if_lt (tgt := 56) hX dX0_noteFit_22 (by decide) (fun c4 => ?_) (fun c4 => ?_)
    · have k := k.1 c4
      exact aw_vret hX hr dX0_noteFit_56 k
    · have k := k.2 c4
      refine aw_iload_n hX dX0_noteFit_25 rfl ?_
      refine aw_bipush hX dX0_noteFit_26 zb_64 ?_
      refine aw_icmp_ge (tgt := 56) hX dX0_noteFit_28 (by decide) (fun c5 => ?_) (fun c5 => ?_)
      · have k := k.1 c5
        exact aw_vret hX hr dX0_noteFit_56 k
      · have k := k.2 c5
        refine aw_aload_n hX dX0_noteFit_31 rfl ?_
        refine aw_getr (o' := 0) hX kf_X0_18 sh_0 (by decide) rfl rfl dX0_noteFit_32 ?_
        refine aw_iload_n hX dX0_noteFit_35 rfl ?_
        refine aw_dup2 hX dX0_noteFit_36 rfl rfl ?_
        have s6 := k.1
        have k := k.2
        refine aw_lald' (k := (ix v1)) hX sh_13 (by decide) s6 rfl dX0_noteFit_37 ?_
        refine aw_lconst (v := (1 : Int64)) hX dX0_noteFit_38 (by decide) ?_
        refine aw_iload_n hX dX0_noteFit_39 rfl ?_
        refine aw_bipush hX dX0_noteFit_40 zb_63 ?_
        refine aw_iand hX dX0_noteFit_42 ?_
        refine aw_lshl hX dX0_noteFit_43 ?_
        refine aw_lor hX dX0_noteFit_44 ?_
        refine aw_last' (k := (ix v1)) hX sh_13 (by decide) s6 rfl dX0_noteFit_45 ?_
        refine aw_mem (fun μ7 eμ7 => ?_)
        have k := k μ7 eμ7
        refine aw_aload_n hX dX0_noteFit_46 rfl ?_
        refine aw_dup hX dX0_noteFit_47 rfl ?_
        refine aw_getl hX kf_X0_40 sh_0 (by decide) rfl dX0_noteFit_48 ?_
        refine aw_lconst (v := (1 : Int64)) hX dX0_noteFit_51 (by decide) ?_
        refine aw_ladd hX dX0_noteFit_52 ?_
        refine aw_putl hX kp_X0_40 sh_0 (by decide) rfl dX0_noteFit_53 ?_
        refine aw_mem (fun μ8 eμ8 => ?_)
        have k := k μ8 eμ8
        exact aw_vret hX hr dX0_noteFit_56 k

set_option maxRecDepth 100000 in
set_option maxHeartbeats 4000000 in
theorem st_X0_fittingAt_0 {X : zX} {lv : Nat} {Post : Option Value → zM → Prop} (hX : zOk X cX0_fittingAt RX0 4 lv) (hr : zRt X (some .int) Post)  {x1 : Int32} {μ : zM}
    (k : AW X 4 [some (.ref (X.G.ad 0 0)), none, some (.int x1), some (.int (0 : Int32))] [] μ) :
    AW X 0 [some (.ref (X.G.ad 0 0)), some (.int x1), none, none] [] μ := by
  refine aw_iload_n hX dX0_fittingAt_0 rfl ?_
  refine aw_istore_n (L' := [some (.ref (X.G.ad 0 0)), some (.int x1), some (.int x1), none]) hX dX0_fittingAt_1 (Nat.le_of_ble_eq_true rfl) rfl ?_
  refine aw_iconst hX dX0_fittingAt_2 zk_0 ?_
  refine aw_istore_n (L' := [some (.ref (X.G.ad 0 0)), some (.int x1), some (.int x1), some (.int (0 : Int32))]) hX dX0_fittingAt_3 (Nat.le_of_ble_eq_true rfl) rfl ?_
  exact aw_less (zle_s (zle_o (zle_s (zle_s zle_n)))) k

set_option maxRecDepth 100000 in
set_option maxHeartbeats 4000000 in
theorem st_X0_fittingAt_4 {X : zX} {lv : Nat} {Post : Option Value → zM → Prop} (hX : zOk X cX0_fittingAt RX0 4 lv) (hr : zRt X (some .int) Post)  {x2 : Int32} {x3 : Int32} {μ : zM}
    (k : ((4096 : Int32) ≤ x3 → (Post (some (.int (-1 : Int32))) μ)) ∧ (¬ (4096 : Int32) ≤ x3 → ((vp_in (x3 >>> ((6 : Int32) &&& 31)) 64) ∧ ((¬ (lg_cmp (((μ.2 13 0 (ix (x3 >>> ((6 : Int32) &&& 31)))) >>> (Int32.toInt64 (x3 &&& (63 : Int32)) &&& 63)) &&& (1 : Int64)) (1 : Int64)) = 0 → (∀ v4 : Int32, v4 = x3 + (1 : Int32) → (AW X 4 [some (.ref (X.G.ad 0 0)), none, some (.int x2), some (.int v4)] [] μ))) ∧ ((lg_cmp (((μ.2 13 0 (ix (x3 >>> ((6 : Int32) &&& 31)))) >>> (Int32.toInt64 (x3 &&& (63 : Int32)) &&& 63)) &&& (1 : Int64)) (1 : Int64)) = 0 → ((¬ x2 = 0 → (∀ v6 : Int32, v6 = x2 + (-1 : Int32) → (∀ v7 : Int32, v7 = x3 + (1 : Int32) → (AW X 4 [some (.ref (X.G.ad 0 0)), none, some (.int v6), some (.int v7)] [] μ)))) ∧ (x2 = 0 → (Post (some (.int x3)) μ)))))))) :
    AW X 4 [some (.ref (X.G.ad 0 0)), none, some (.int x2), some (.int x3)] [] μ := by
  refine aw_iload_n hX dX0_fittingAt_4 rfl ?_
  refine aw_sipush hX dX0_fittingAt_5 zs_4096 ?_
  refine aw_icmp_ge (tgt := 47) hX dX0_fittingAt_8 (by decide) (fun c1 => ?_) (fun c1 => ?_)
  · have k := k.1 c1
    refine aw_iconst hX dX0_fittingAt_47 zk_m1 ?_
    exact aw_iret hX hr dX0_fittingAt_48 k
  · have k := k.2 c1
    refine aw_aload_n hX dX0_fittingAt_11 rfl ?_
    refine aw_getr (o' := 0) hX kf_X0_18 sh_0 (by decide) rfl rfl dX0_fittingAt_12 ?_
    refine aw_iload_n hX dX0_fittingAt_15 rfl ?_
    refine aw_bipush hX dX0_fittingAt_16 zb_6 ?_
    refine aw_ishr hX dX0_fittingAt_18 ?_
    have s2 := k.1
    have k := k.2
    refine aw_lald' (k := (ix (x3 >>> ((6 : Int32) &&& 31)))) hX sh_13 (by decide) s2 rfl dX0_fittingAt_19 ?_
    refine aw_iload_n hX dX0_fittingAt_20 rfl ?_
    refine aw_bipush hX dX0_fittingAt_21 zb_63 ?_
    refine aw_iand hX dX0_fittingAt_23 ?_
    refine aw_lshr hX dX0_fittingAt_24 ?_
    refine aw_lconst (v := (1 : Int64)) hX dX0_fittingAt_25 (by decide) ?_
    refine aw_land hX dX0_fittingAt_26 ?_
    refine aw_lconst (v := (1 : Int64)) hX dX0_fittingAt_27 (by decide) ?_
    refine aw_lcmp hX dX0_fittingAt_28 ?_
    refine aw_if_ne (tgt := 41) hX dX0_fittingAt_29 (by decide) (fun c3 => ?_) (fun c3 => ?_)
    · have k := k.1 c3
      obtain ⟨v4, ev4⟩ : ∃ y : Int32, y = x3 + (1 : Int32) := ⟨_, rfl⟩
      have k := k v4 ev4
      refine aw_iinc (v := v4) (L' := [some (.ref (X.G.ad 0 0)), none, some (.int x2), some (.int v4)]) hX dX0_fittingAt_41 rfl (by rw [ev4]; rfl) (Nat.le_of_ble_eq_true rfl) rfl ?_
      refine aw_goto (tgt := 4) hX dX0_fittingAt_44 (by decide) ?_
      exact k
    · have k := k.2 c3
      refine aw_iload_n hX dX0_fittingAt_32 rfl ?_
      refine aw_if_ne (tgt := 38) hX dX0_fittingAt_33 (by decide) (fun c5 => ?_) (fun c5 => ?_)
      · have k := k.1 c5
        obtain ⟨v6, ev6⟩ : ∃ y : Int32, y = x2 + (-1 : Int32) := ⟨_, rfl⟩
        have k := k v6 ev6
        refine aw_iinc (v := v6) (L' := [some (.ref (X.G.ad 0 0)), none, some (.int v6), some (.int x3)]) hX dX0_fittingAt_38 rfl (by rw [ev6]; rfl) (Nat.le_of_ble_eq_true rfl) rfl ?_
        obtain ⟨v7, ev7⟩ : ∃ y : Int32, y = x3 + (1 : Int32) := ⟨_, rfl⟩
        have k := k v7 ev7
        refine aw_iinc (v := v7) (L' := [some (.ref (X.G.ad 0 0)), none, some (.int v6), some (.int v7)]) hX dX0_fittingAt_41 rfl (by rw [ev7]; rfl) (Nat.le_of_ble_eq_true rfl) rfl ?_
        refine aw_goto (tgt := 4) hX dX0_fittingAt_44 (by decide) ?_
        exact k
      · have k := k.2 c5
        refine aw_iload_n hX dX0_fittingAt_36 rfl ?_
        exact aw_iret hX hr dX0_fittingAt_37 k

