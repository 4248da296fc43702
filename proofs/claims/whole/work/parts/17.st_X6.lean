set_option maxRecDepth 100000 in
set_option maxHeartbeats 4000000 in
theorem st_X6_readTape_0 {X : zX} {lv : Nat} {Post : Option Value → zM → Prop} (hX : zOk X cX6_readTape RX6 2 lv) (hr : zRt X (some .int) Post)   {μ : zM}
    (k : ∀ μ1 : zM, μ1 = pI μ 6 0 2 (0 : Int32) → (zCallV X lv yX2_clear cX2_clear 1 none [.ref (X.G.ad 2 1)] μ1 (fun μ3 => zCallV X lv yX5_split cX5_split 4 none [.ref (X.G.ad 5 0)] μ3 (fun μ5 => AW X 21 [some (.ref (X.G.ad 6 0)), some (.int (0 : Int32))] [] μ5)))) :
    AW X 0 [some (.ref (X.G.ad 6 0)), none] [] μ := by
  refine aw_aload_n hX dX6_readTape_0 rfl ?_
  refine aw_iconst hX dX6_readTape_1 zk_0 ?_
  refine aw_puti hX kp_X6_32 sh_6 (by decide) rfl rfl rfl dX6_readTape_2 ?_
  refine aw_mem (fun μ1 eμ1 => ?_)
  have k := k μ1 eμ1
  refine aw_aload_n hX dX6_readTape_5 rfl ?_
  refine aw_getr (o' := 1) hX kf_X6_21 sh_6 (by decide) rfl rfl dX6_readTape_6 ?_
  refine aw_invV (As := []) (rest := []) (κ := 2) (o := 1) (T := TX2) (N := 11) hX vc_X6_36 sh_2 (by decide) rfl rfl rfl (Nat.le_of_ble_eq_true rfl) dX6_readTape_9 k (fun μ3 k => ?_)
  refine aw_aload_n hX dX6_readTape_12 rfl ?_
  refine aw_getr (o' := 0) hX kf_X6_12 sh_6 (by decide) rfl rfl dX6_readTape_13 ?_
  refine aw_invV (As := []) (rest := []) (κ := 5) (o := 0) (T := TX5) (N := 7) hX vc_X6_39 sh_5 (by decide) rfl rfl rfl (Nat.le_of_ble_eq_true rfl) dX6_readTape_16 k (fun μ5 k => ?_)
  refine aw_iconst hX dX6_readTape_19 zk_0 ?_
  refine aw_istore_n (L' := [some (.ref (X.G.ad 6 0)), some (.int (0 : Int32))]) hX dX6_readTape_20 (Nat.le_of_ble_eq_true rfl) rfl ?_
  exact k

set_option maxRecDepth 100000 in
set_option maxHeartbeats 4000000 in
theorem st_X6_readTape_21 {X : zX} {lv : Nat} {Post : Option Value → zM → Prop} (hX : zOk X cX6_readTape RX6 2 lv) (hr : zRt X (some .int) Post)  {x1 : Int32} {μ : zM}
    (k : ((1000 : Int32) < x1 → (Post (some (.int (μ.1 6 0 2))) μ)) ∧ (¬ (1000 : Int32) < x1 → ((¬ (μ.1 6 0 2) = 0 → (Post (some (.int (μ.1 6 0 2))) μ)) ∧ ((μ.1 6 0 2) = 0 → (zCallI X lv yX5_isAtEnd cX5_isAtEnd 1 (some .boolean) [.ref (X.G.ad 5 0)] μ (fun (r3 : Int32) μ4 => (¬ r3 = 0 → (Post (some (.int (μ4.1 6 0 2))) μ4)) ∧ (r3 = 0 → (zCallV X lv yX6_readSentence cX6_readSentence 1 none [.ref (X.G.ad 6 0)] μ4 (fun μ7 => ∀ v8 : Int32, v8 = x1 + (1 : Int32) → (AW X 21 [some (.ref (X.G.ad 6 0)), some (.int v8)] [] μ7)))))))))) :
    AW X 21 [some (.ref (X.G.ad 6 0)), some (.int x1)] [] μ := by
  refine aw_iload_n hX dX6_readTape_21 rfl ?_
  refine aw_sipush hX dX6_readTape_22 zs_1000 ?_
  refine aw_icmp_gt (tgt := 55) hX dX6_readTape_25 (by decide) (fun c1 => ?_) (fun c1 => ?_)
  · have k := k.1 c1
    refine aw_aload_n hX dX6_readTape_55 rfl ?_
    refine aw_geti hX kf_X6_32 sh_6 (by decide) rfl dX6_readTape_56 ?_
    exact aw_iret hX hr dX6_readTape_59 k
  · have k := k.2 c1
    refine aw_aload_n hX dX6_readTape_28 rfl ?_
    refine aw_geti hX kf_X6_32 sh_6 (by decide) rfl dX6_readTape_29 ?_
    refine aw_if_ne (tgt := 55) hX dX6_readTape_32 (by decide) (fun c2 => ?_) (fun c2 => ?_)
    · have k := k.1 c2
      refine aw_aload_n hX dX6_readTape_55 rfl ?_
      refine aw_geti hX kf_X6_32 sh_6 (by decide) rfl dX6_readTape_56 ?_
      exact aw_iret hX hr dX6_readTape_59 k
    · have k := k.2 c2
      refine aw_aload_n hX dX6_readTape_35 rfl ?_
      refine aw_getr (o' := 0) hX kf_X6_12 sh_6 (by decide) rfl rfl dX6_readTape_36 ?_
      refine aw_invI (As := []) (rest := []) (κ := 5) (o := 0) (T := TX5) (N := 7) hX vc_X6_42 sh_5 (by decide) rfl rfl rfl (Nat.le_of_ble_eq_true rfl) dX6_readTape_39 k (fun r3 μ4 k => ?_)
      refine aw_if_ne (tgt := 55) hX dX6_readTape_42 (by decide) (fun c5 => ?_) (fun c5 => ?_)
      · have k := k.1 c5
        refine aw_aload_n hX dX6_readTape_55 rfl ?_
        refine aw_geti hX kf_X6_32 sh_6 (by decide) rfl dX6_readTape_56 ?_
        exact aw_iret hX hr dX6_readTape_59 k
      · have k := k.2 c5
        refine aw_aload_n hX dX6_readTape_45 rfl ?_
        refine aw_invV (As := []) (rest := []) (κ := 6) (o := 0) (T := TX6) (N := 6) hX vc_X6_46 sh_6 (by decide) rfl rfl rfl (Nat.le_of_ble_eq_true rfl) dX6_readTape_46 k (fun μ7 k => ?_)
        obtain ⟨v8, ev8⟩ : ∃ y : Int32, y = x1 + (1 : Int32) := ⟨_, rfl⟩
        have k := k v8 ev8
        refine aw_iinc (v := v8) (L' := [some (.ref (X.G.ad 6 0)), some (.int v8)]) hX dX6_readTape_49 rfl (by rw [ev8]; rfl) (Nat.le_of_ble_eq_true rfl) rfl ?_
        refine aw_goto (tgt := 21) hX dX6_readTape_52 (by decide) ?_
        exact k

set_option maxRecDepth 100000 in
set_option maxHeartbeats 4000000 in
theorem st_X6_fail_0 {X : zX} {lv : Nat} {Post : Option Value → zM → Prop} (hX : zOk X cX6_fail RX6 2 lv) (hr : zRt X none Post)  {x1 : Int32} {μ : zM}
    (k : (¬ (μ.1 6 0 2) = 0 → (Post none μ)) ∧ ((μ.1 6 0 2) = 0 → (zCallI X lv yX5_place cX5_place 1 (some .int) [.ref (X.G.ad 5 0)] μ (fun (r2 : Int32) μ3 => ∀ μ4 : zM, μ4 = pI μ3 6 0 2 (x1 + ((16 : Int32) * r2)) → (Post none μ4))))) :
    AW X 0 [some (.ref (X.G.ad 6 0)), some (.int x1)] [] μ := by
  refine aw_aload_n hX dX6_fail_0 rfl ?_
  refine aw_geti hX kf_X6_32 sh_6 (by decide) rfl dX6_fail_1 ?_
  refine aw_if_ne (tgt := 23) hX dX6_fail_4 (by decide) (fun c1 => ?_) (fun c1 => ?_)
  · have k := k.1 c1
    exact aw_vret hX hr dX6_fail_23 k
  · have k := k.2 c1
    refine aw_aload_n hX dX6_fail_7 rfl ?_
    refine aw_iload_n hX dX6_fail_8 rfl ?_
    refine aw_bipush hX dX6_fail_9 zb_16 ?_
    refine aw_aload_n hX dX6_fail_11 rfl ?_
    refine aw_getr (o' := 0) hX kf_X6_12 sh_6 (by decide) rfl rfl dX6_fail_12 ?_
    refine aw_invI (As := []) (rest := [.int (16 : Int32), .int x1, .ref (X.G.ad 6 0)]) (κ := 5) (o := 0) (T := TX5) (N := 7) hX vc_X6_49 sh_5 (by decide) rfl rfl rfl (Nat.le_of_ble_eq_true rfl) dX6_fail_15 k (fun r2 μ3 k => ?_)
    refine aw_imul hX dX6_fail_18 ?_
    refine aw_iadd hX dX6_fail_19 ?_
    refine aw_puti hX kp_X6_32 sh_6 (by decide) rfl rfl rfl dX6_fail_20 ?_
    refine aw_mem (fun μ4 eμ4 => ?_)
    have k := k μ4 eμ4
    exact aw_vret hX hr dX6_fail_23 k

set_option maxRecDepth 100000 in
set_option maxHeartbeats 4000000 in
theorem st_X6_readPurse_0 {X : zX} {lv : Nat} {Post : Option Value → zM → Prop} (hX : zOk X cX6_readPurse RX6 2 lv) (hr : zRt X none Post)   {μ : zM}
    (k : ∀ v1 : Int32, v1 = (μ.1 2 1 1) → ((v1 < (6 : Int32) → (zCallV X lv yX5_readOn cX5_readOn 1 none [.ref (X.G.ad 5 0)] μ (fun μ4 => zCallJ X lv yX6_readNewName cX6_readNewName 3 (some .long) [.ref (X.G.ad 6 0)] μ4 (fun (r5 : Int64) μ6 => (vp_in v1 6) ∧ (∀ μ8 : zM, μ8 = pL μ6 33 0 (ix v1) r5 → (zCallI X lv yX6_readNumber cX6_readNumber 4 (some .int) [.ref (X.G.ad 6 0), .int (0 : Int32), .int (9999 : Int32)] μ8 (fun (r9 : Int32) μ10 => ∀ μ11 : zM, μ11 = pI μ10 21 1 (ix v1) r9 → (zCallV X lv yX6_readSign cX6_readSign 2 none [.ref (X.G.ad 6 0), .int (59 : Int32)] μ11 (fun μ13 => ∀ μ14 : zM, μ14 = pI μ13 2 1 1 ((μ13.1 2 1 1) + (1 : Int32)) → (Post none μ14)))))))))) ∧ (¬ v1 < (6 : Int32) → (zCallV X lv yX6_fail cX6_fail 2 none [.ref (X.G.ad 6 0), .int (5 : Int32)] μ (fun μ16 => Post none μ16))))) :
    AW X 0 [some (.ref (X.G.ad 6 0)), none] [] μ := by
  refine aw_aload_n hX dX6_readPurse_0 rfl ?_
  refine aw_getr (o' := 1) hX kf_X6_21 sh_6 (by decide) rfl rfl dX6_readPurse_1 ?_
  refine aw_geti hX kf_X6_123 sh_2 (by decide) rfl dX6_readPurse_4 ?_
  refine aw_topi (fun v1 ev1 => ?_)
  have k := k v1 ev1
  refine aw_istore_n (L' := [some (.ref (X.G.ad 6 0)), some (.int v1)]) hX dX6_readPurse_7 (Nat.le_of_ble_eq_true rfl) rfl ?_
  refine aw_iload_n hX dX6_readPurse_8 rfl ?_
  refine aw_bipush hX dX6_readPurse_9 zb_6 ?_
  refine aw_icmp_lt (tgt := 20) hX dX6_readPurse_11 (by decide) (fun c2 => ?_) (fun c2 => ?_)
  · have k := k.1 c2
    refine aw_aload_n hX dX6_readPurse_20 rfl ?_
    refine aw_getr (o' := 0) hX kf_X6_12 sh_6 (by decide) rfl rfl dX6_readPurse_21 ?_
    refine aw_invV (As := []) (rest := []) (κ := 5) (o := 0) (T := TX5) (N := 7) hX vc_X6_91 sh_5 (by decide) rfl rfl rfl (Nat.le_of_ble_eq_true rfl) dX6_readPurse_24 k (fun μ4 k => ?_)
    refine aw_aload_n hX dX6_readPurse_27 rfl ?_
    refine aw_getr (o' := 0) hX kf_X6_29 sh_6 (by decide) rfl rfl dX6_readPurse_28 ?_
    refine aw_iload_n hX dX6_readPurse_31 rfl ?_
    refine aw_aload_n hX dX6_readPurse_32 rfl ?_
    refine aw_invJ (As := []) (rest := [.int v1, .ref (X.G.ad 33 0)]) (κ := 6) (o := 0) (T := TX6) (N := 6) hX vc_X6_94 sh_6 (by decide) rfl rfl rfl (Nat.le_of_ble_eq_true rfl) dX6_readPurse_33 k (fun r5 μ6 k => ?_)
    have s7 := k.1
    have k := k.2
    refine aw_last' (k := (ix v1)) hX sh_33 (by decide) s7 rfl dX6_readPurse_36 ?_
    refine aw_mem (fun μ8 eμ8 => ?_)
    have k := k μ8 eμ8
    refine aw_aload_n hX dX6_readPurse_37 rfl ?_
    refine aw_getr (o' := 1) hX kf_X6_21 sh_6 (by decide) rfl rfl dX6_readPurse_38 ?_
    refine aw_getr (o' := 1) hX kf_X6_126 sh_2 (by decide) rfl rfl dX6_readPurse_41 ?_
    refine aw_iload_n hX dX6_readPurse_44 rfl ?_
    refine aw_aload_n hX dX6_readPurse_45 rfl ?_
    refine aw_iconst hX dX6_readPurse_46 zk_0 ?_
    refine aw_sipush hX dX6_readPurse_47 zs_9999 ?_
    refine aw_invI (As := [.int (0 : Int32), .int (9999 : Int32)]) (rest := [.int v1, .ref (X.G.ad 21 1)]) (κ := 6) (o := 0) (T := TX6) (N := 6) hX vc_X6_109 sh_6 (by decide) rfl rfl rfl (Nat.le_of_ble_eq_true rfl) dX6_readPurse_50 k (fun r9 μ10 k => ?_)
    refine aw_iast' (k := (ix v1)) hX sh_21 (by decide) s7 rfl dX6_readPurse_53 ?_
    refine aw_mem (fun μ11 eμ11 => ?_)
    have k := k μ11 eμ11
    refine aw_aload_n hX dX6_readPurse_54 rfl ?_
    refine aw_bipush hX dX6_readPurse_55 zb_59 ?_
    refine aw_invV (As := [.int (59 : Int32)]) (rest := []) (κ := 6) (o := 0) (T := TX6) (N := 6) hX vc_X6_119 sh_6 (by decide) rfl rfl rfl (Nat.le_of_ble_eq_true rfl) dX6_readPurse_57 k (fun μ13 k => ?_)
    refine aw_aload_n hX dX6_readPurse_60 rfl ?_
    refine aw_getr (o' := 1) hX kf_X6_21 sh_6 (by decide) rfl rfl dX6_readPurse_61 ?_
    refine aw_dup hX dX6_readPurse_64 rfl ?_
    refine aw_geti hX kf_X6_123 sh_2 (by decide) rfl dX6_readPurse_65 ?_
    refine aw_iconst hX dX6_readPurse_68 zk_1 ?_
    refine aw_iadd hX dX6_readPurse_69 ?_
    refine aw_puti hX kp_X6_123 sh_2 (by decide) rfl rfl rfl dX6_readPurse_70 ?_
    refine aw_mem (fun μ14 eμ14 => ?_)
    have k := k μ14 eμ14
    exact aw_vret hX hr dX6_readPurse_73 k
  · have k := k.2 c2
    refine aw_aload_n hX dX6_readPurse_14 rfl ?_
    refine aw_iconst hX dX6_readPurse_15 zk_5 ?_
    refine aw_invV (As := [.int (5 : Int32)]) (rest := []) (κ := 6) (o := 0) (T := TX6) (N := 6) hX vc_X6_84 sh_6 (by decide) rfl rfl rfl (Nat.le_of_ble_eq_true rfl) dX6_readPurse_16 k (fun μ16 k => ?_)
    exact aw_vret hX hr dX6_readPurse_19 k

set_option maxRecDepth 100000 in
set_option maxHeartbeats 4000000 in
theorem st_X6_readWord_0 {X : zX} {lv : Nat} {Post : Option Value → zM → Prop} (hX : zOk X cX6_readWord RX6 2 lv) (hr : zRt X none Post)  {w1 : Nat} {μ : zM}
    (k : zCallI X lv yX5_isWord cX5_isWord 2 (some .boolean) [.ref (X.G.ad 5 0), .ref (X.G.aw w1)] μ (fun (r1 : Int32) μ2 => (r1 = 0 → (zCallV X lv yX6_fail cX6_fail 2 none [.ref (X.G.ad 6 0), .int (1 : Int32)] μ2 (fun μ5 => Post none μ5))) ∧ (¬ r1 = 0 → (zCallV X lv yX5_readOn cX5_readOn 1 none [.ref (X.G.ad 5 0)] μ2 (fun μ7 => Post none μ7))))) :
    AW X 0 [some (.ref (X.G.ad 6 0)), some (.ref (X.G.aw w1))] [] μ := by
  refine aw_aload_n hX dX6_readWord_0 rfl ?_
  refine aw_getr (o' := 0) hX kf_X6_12 sh_6 (by decide) rfl rfl dX6_readWord_1 ?_
  refine aw_aload_n hX dX6_readWord_4 rfl ?_
  refine aw_invI (As := [.ref (X.G.aw w1)]) (rest := []) (κ := 5) (o := 0) (T := TX5) (N := 7) hX vc_X6_59 sh_5 (by decide) rfl rfl rfl (Nat.le_of_ble_eq_true rfl) dX6_readWord_5 k (fun r1 μ2 k => ?_)
  refine aw_if_eq (tgt := 21) hX dX6_readWord_8 (by decide) (fun c3 => ?_) (fun c3 => ?_)
  · have k := k.1 c3
    refine aw_aload_n hX dX6_readWord_21 rfl ?_
    refine aw_iconst hX dX6_readWord_22 zk_1 ?_
    refine aw_invV (As := [.int (1 : Int32)]) (rest := []) (κ := 6) (o := 0) (T := TX6) (N := 6) hX vc_X6_84 sh_6 (by decide) rfl rfl rfl (Nat.le_of_ble_eq_true rfl) dX6_readWord_23 k (fun μ5 k => ?_)
    exact aw_vret hX hr dX6_readWord_26 k
  · have k := k.2 c3
    refine aw_aload_n hX dX6_readWord_11 rfl ?_
    refine aw_getr (o' := 0) hX kf_X6_12 sh_6 (by decide) rfl rfl dX6_readWord_12 ?_
    refine aw_invV (As := []) (rest := []) (κ := 5) (o := 0) (T := TX5) (N := 7) hX vc_X6_91 sh_5 (by decide) rfl rfl rfl (Nat.le_of_ble_eq_true rfl) dX6_readWord_15 k (fun μ7 k => ?_)
    refine aw_goto (tgt := 26) hX dX6_readWord_18 (by decide) ?_
    exact aw_vret hX hr dX6_readWord_26 k

set_option maxRecDepth 100000 in
set_option maxHeartbeats 4000000 in
theorem st_X6_readSign_0 {X : zX} {lv : Nat} {Post : Option Value → zM → Prop} (hX : zOk X cX6_readSign RX6 2 lv) (hr : zRt X none Post)  {x1 : Int32} {μ : zM}
    (k : zCallI X lv yX5_isSign cX5_isSign 2 (some .boolean) [.ref (X.G.ad 5 0), .int x1] μ (fun (r1 : Int32) μ2 => (r1 = 0 → (zCallV X lv yX6_fail cX6_fail 2 none [.ref (X.G.ad 6 0), .int (1 : Int32)] μ2 (fun μ5 => Post none μ5))) ∧ (¬ r1 = 0 → (zCallV X lv yX5_readOn cX5_readOn 1 none [.ref (X.G.ad 5 0)] μ2 (fun μ7 => Post none μ7))))) :
    AW X 0 [some (.ref (X.G.ad 6 0)), some (.int x1)] [] μ := by
  refine aw_aload_n hX dX6_readSign_0 rfl ?_
  refine aw_getr (o' := 0) hX kf_X6_12 sh_6 (by decide) rfl rfl dX6_readSign_1 ?_
  refine aw_iload_n hX dX6_readSign_4 rfl ?_
  refine aw_invI (As := [.int x1]) (rest := []) (κ := 5) (o := 0) (T := TX5) (N := 7) hX vc_X6_217 sh_5 (by decide) rfl rfl rfl (Nat.le_of_ble_eq_true rfl) dX6_readSign_5 k (fun r1 μ2 k => ?_)
  refine aw_if_eq (tgt := 21) hX dX6_readSign_8 (by decide) (fun c3 => ?_) (fun c3 => ?_)
  · have k := k.1 c3
    refine aw_aload_n hX dX6_readSign_21 rfl ?_
    refine aw_iconst hX dX6_readSign_22 zk_1 ?_
    refine aw_invV (As := [.int (1 : Int32)]) (rest := []) (κ := 6) (o := 0) (T := TX6) (N := 6) hX vc_X6_84 sh_6 (by decide) rfl rfl rfl (Nat.le_of_ble_eq_true rfl) dX6_readSign_23 k (fun μ5 k => ?_)
    exact aw_vret hX hr dX6_readSign_26 k
  · have k := k.2 c3
    refine aw_aload_n hX dX6_readSign_11 rfl ?_
    refine aw_getr (o' := 0) hX kf_X6_12 sh_6 (by decide) rfl rfl dX6_readSign_12 ?_
    refine aw_invV (As := []) (rest := []) (κ := 5) (o := 0) (T := TX5) (N := 7) hX vc_X6_91 sh_5 (by decide) rfl rfl rfl (Nat.le_of_ble_eq_true rfl) dX6_readSign_15 k (fun μ7 k => ?_)
    refine aw_goto (tgt := 26) hX dX6_readSign_18 (by decide) ?_
    exact aw_vret hX hr dX6_readSign_26 k

set_option maxRecDepth 100000 in
set_option maxHeartbeats 4000000 in
theorem st_X6_readNumber_0 {X : zX} {lv : Nat} {Post : Option Value → zM → Prop} (hX : zOk X cX6_readNumber RX6 4 lv) (hr : zRt X (some .int) Post)  {x1 : Int32} {x2 : Int32} {μ : zM}
    (k : zCallI X lv yX5_isNumber cX5_isNumber 1 (some .boolean) [.ref (X.G.ad 5 0)] μ (fun (r1 : Int32) μ2 => (¬ r1 = 0 → (zCallJ X lv yX5_value cX5_value 1 (some .long) [.ref (X.G.ad 5 0)] μ2 (fun (r4 : Int64) μ5 => ∀ v6 : Int32, v6 = (Int64.toInt32 r4) → ((v6 < x1 → (zCallV X lv yX6_fail cX6_fail 2 none [.ref (X.G.ad 6 0), .int (4 : Int32)] μ5 (fun μ9 => Post (some (.int x1)) μ9))) ∧ (¬ v6 < x1 → ((v6 ≤ x2 → (zCallV X lv yX5_readOn cX5_readOn 1 none [.ref (X.G.ad 5 0)] μ5 (fun μ12 => Post (some (.int v6)) μ12))) ∧ (¬ v6 ≤ x2 → (zCallV X lv yX6_fail cX6_fail 2 none [.ref (X.G.ad 6 0), .int (4 : Int32)] μ5 (fun μ14 => Post (some (.int x1)) μ14))))))))) ∧ (r1 = 0 → (zCallV X lv yX6_fail cX6_fail 2 none [.ref (X.G.ad 6 0), .int (1 : Int32)] μ2 (fun μ16 => Post (some (.int x1)) μ16))))) :
    AW X 0 [some (.ref (X.G.ad 6 0)), some (.int x1), some (.int x2), none] [] μ := by
  refine aw_aload_n hX dX6_readNumber_0 rfl ?_
  refine aw_getr (o' := 0) hX kf_X6_12 sh_6 (by decide) rfl rfl dX6_readNumber_1 ?_
  refine aw_invI (As := []) (rest := []) (κ := 5) (o := 0) (T := TX5) (N := 7) hX vc_X6_221 sh_5 (by decide) rfl rfl rfl (Nat.le_of_ble_eq_true rfl) dX6_readNumber_4 k (fun r1 μ2 k => ?_)
  refine aw_if_ne (tgt := 17) hX dX6_readNumber_7 (by decide) (fun c3 => ?_) (fun c3 => ?_)
  · have k := k.1 c3
    refine aw_aload_n hX dX6_readNumber_17 rfl ?_
    refine aw_getr (o' := 0) hX kf_X6_12 sh_6 (by decide) rfl rfl dX6_readNumber_18 ?_
    refine aw_invJ (As := []) (rest := []) (κ := 5) (o := 0) (T := TX5) (N := 7) hX vc_X6_224 sh_5 (by decide) rfl rfl rfl (Nat.le_of_ble_eq_true rfl) dX6_readNumber_21 k (fun r4 μ5 k => ?_)
    refine aw_l2i hX dX6_readNumber_24 ?_
    refine aw_topi (fun v6 ev6 => ?_)
    have k := k v6 ev6
    refine aw_istore_n (L' := [some (.ref (X.G.ad 6 0)), some (.int x1), some (.int x2), some (.int v6)]) hX dX6_readNumber_25 (Nat.le_of_ble_eq_true rfl) rfl ?_
    refine aw_iload_n hX dX6_readNumber_26 rfl ?_
    refine aw_iload_n hX dX6_readNumber_27 rfl ?_
    refine aw_icmp_lt (tgt := 36) hX dX6_readNumber_28 (by decide) (fun c7 => ?_) (fun c7 => ?_)
    · have k := k.1 c7
      refine aw_aload_n hX dX6_readNumber_36 rfl ?_
      refine aw_iconst hX dX6_readNumber_37 zk_4 ?_
      refine aw_invV (As := [.int (4 : Int32)]) (rest := []) (κ := 6) (o := 0) (T := TX6) (N := 6) hX vc_X6_84 sh_6 (by decide) rfl rfl rfl (Nat.le_of_ble_eq_true rfl) dX6_readNumber_38 k (fun μ9 k => ?_)
      refine aw_iload_n hX dX6_readNumber_41 rfl ?_
      exact aw_iret hX hr dX6_readNumber_42 k
    · have k := k.2 c7
      refine aw_iload_n hX dX6_readNumber_31 rfl ?_
      refine aw_iload_n hX dX6_readNumber_32 rfl ?_
      refine aw_icmp_le (tgt := 43) hX dX6_readNumber_33 (by decide) (fun c10 => ?_) (fun c10 => ?_)
      · have k := k.1 c10
        refine aw_aload_n hX dX6_readNumber_43 rfl ?_
        refine aw_getr (o' := 0) hX kf_X6_12 sh_6 (by decide) rfl rfl dX6_readNumber_44 ?_
        refine aw_invV (As := []) (rest := []) (κ := 5) (o := 0) (T := TX5) (N := 7) hX vc_X6_91 sh_5 (by decide) rfl rfl rfl (Nat.le_of_ble_eq_true rfl) dX6_readNumber_47 k (fun μ12 k => ?_)
        refine aw_iload_n hX dX6_readNumber_50 rfl ?_
        exact aw_iret hX hr dX6_readNumber_51 k
      · have k := k.2 c10
        refine aw_aload_n hX dX6_readNumber_36 rfl ?_
        refine aw_iconst hX dX6_readNumber_37 zk_4 ?_
        refine aw_invV (As := [.int (4 : Int32)]) (rest := []) (κ := 6) (o := 0) (T := TX6) (N := 6) hX vc_X6_84 sh_6 (by decide) rfl rfl rfl (Nat.le_of_ble_eq_true rfl) dX6_readNumber_38 k (fun μ14 k => ?_)
        refine aw_iload_n hX dX6_readNumber_41 rfl ?_
        exact aw_iret hX hr dX6_readNumber_42 k
  · have k := k.2 c3
    refine aw_aload_n hX dX6_readNumber_10 rfl ?_
    refine aw_iconst hX dX6_readNumber_11 zk_1 ?_
    refine aw_invV (As := [.int (1 : Int32)]) (rest := []) (κ := 6) (o := 0) (T := TX6) (N := 6) hX vc_X6_84 sh_6 (by decide) rfl rfl rfl (Nat.le_of_ble_eq_true rfl) dX6_readNumber_12 k (fun μ16 k => ?_)
    refine aw_iload_n hX dX6_readNumber_15 rfl ?_
    exact aw_iret hX hr dX6_readNumber_16 k

set_option maxRecDepth 100000 in
set_option maxHeartbeats 4000000 in
theorem st_X6_findName_0 {X : zX} {lv : Nat} {Post : Option Value → zM → Prop} (hX : zOk X cX6_findName RX6 6 lv) (hr : zRt X (some .int) Post) {κ3 o3 n3 l3 : Nat} {q3 : Nat × Nat × Nat} (hs3 : zzSh[κ3]? = some (n3, .inl (1, l3, 1, q3))) (ho3 : o3 < n3) {x1 : Int64} {x4 : Int32} {μ : zM}
    (k : AW X 3 [none, some (.long x1), none, some (.ref (X.G.ad κ3 o3)), some (.int x4), some (.int (0 : Int32))] [] μ) :
    AW X 0 [some (.ref (X.G.ad 6 0)), some (.long x1), none, some (.ref (X.G.ad κ3 o3)), some (.int x4), none] [] μ := by
  refine aw_iconst hX dX6_findName_0 zk_0 ?_
  refine aw_istore (L' := [some (.ref (X.G.ad 6 0)), some (.long x1), none, some (.ref (X.G.ad κ3 o3)), some (.int x4), some (.int (0 : Int32))]) hX dX6_findName_1 (Nat.le_of_ble_eq_true rfl) rfl ?_
  exact aw_less (zle_o (zle_s (zle_o (zle_s (zle_s (zle_s zle_n)))))) k

set_option maxRecDepth 100000 in
set_option maxHeartbeats 4000000 in
theorem st_X6_findName_3 {X : zX} {lv : Nat} {Post : Option Value → zM → Prop} (hX : zOk X cX6_findName RX6 6 lv) (hr : zRt X (some .int) Post) {κ3 o3 n3 l3 : Nat} {q3 : Nat × Nat × Nat} (hs3 : zzSh[κ3]? = some (n3, .inl (1, l3, 1, q3))) (ho3 : o3 < n3) {x1 : Int64} {x4 : Int32} {x5 : Int32} {μ : zM}
    (k : (x4 ≤ x5 → (Post (some (.int (-1 : Int32))) μ)) ∧ (¬ x4 ≤ x5 → ((vp_in x5 l3) ∧ ((¬ (lg_cmp (μ.2 κ3 o3 (ix x5)) x1) = 0 → (∀ v4 : Int32, v4 = x5 + (1 : Int32) → (AW X 3 [none, some (.long x1), none, some (.ref (X.G.ad κ3 o3)), some (.int x4), some (.int v4)] [] μ))) ∧ ((lg_cmp (μ.2 κ3 o3 (ix x5)) x1) = 0 → (Post (some (.int x5)) μ)))))) :
    AW X 3 [none, some (.long x1), none, some (.ref (X.G.ad κ3 o3)), some (.int x4), some (.int x5)] [] μ := by
  refine aw_iload hX dX6_findName_3 rfl ?_
  refine aw_iload hX dX6_findName_5 rfl ?_
  refine aw_icmp_ge (tgt := 28) hX dX6_findName_7 (by decide) (fun c1 => ?_) (fun c1 => ?_)
  · have k := k.1 c1
    refine aw_iconst hX dX6_findName_28 zk_m1 ?_
    exact aw_iret hX hr dX6_findName_29 k
  · have k := k.2 c1
    refine aw_aload_n hX dX6_findName_10 rfl ?_
    refine aw_iload hX dX6_findName_11 rfl ?_
    have s2 := k.1
    have k := k.2
    refine aw_lald' (k := (ix x5)) hX hs3 ho3 s2 rfl dX6_findName_13 ?_
    refine aw_lload_n hX dX6_findName_14 rfl ?_
    refine aw_lcmp hX dX6_findName_15 ?_
    refine aw_if_ne (tgt := 22) hX dX6_findName_16 (by decide) (fun c3 => ?_) (fun c3 => ?_)
    · have k := k.1 c3
      obtain ⟨v4, ev4⟩ : ∃ y : Int32, y = x5 + (1 : Int32) := ⟨_, rfl⟩
      have k := k v4 ev4
      refine aw_iinc (v := v4) (L' := [none, some (.long x1), none, some (.ref (X.G.ad κ3 o3)), some (.int x4), some (.int v4)]) hX dX6_findName_22 rfl (by rw [ev4]; rfl) (Nat.le_of_ble_eq_true rfl) rfl ?_
      refine aw_goto (tgt := 3) hX dX6_findName_25 (by decide) ?_
      exact k
    · have k := k.2 c3
      refine aw_iload hX dX6_findName_19 rfl ?_
      exact aw_iret hX hr dX6_findName_21 k

set_option maxRecDepth 100000 in
set_option maxHeartbeats 4000000 in
theorem st_X6_readPerson_0 {X : zX} {lv : Nat} {Post : Option Value → zM → Prop} (hX : zOk X cX6_readPerson RX6 3 lv) (hr : zRt X (some .int) Post)  {x1 : Int32} {x2 : Int32} {μ : zM}
    (k : zCallI X lv yX6_readToldName cX6_readToldName 6 (some .int) [.ref (X.G.ad 6 0), .ref (X.G.ad 33 0), .int (μ.1 2 1 1), .int x1, .int x2] μ (fun (r1 : Int32) μ2 => Post (some (.int r1)) μ2)) :
    AW X 0 [some (.ref (X.G.ad 6 0)), some (.int x1), some (.int x2)] [] μ := by
  refine aw_aload_n hX dX6_readPerson_0 rfl ?_
  refine aw_aload_n hX dX6_readPerson_1 rfl ?_
  refine aw_getr (o' := 0) hX kf_X6_29 sh_6 (by decide) rfl rfl dX6_readPerson_2 ?_
  refine aw_aload_n hX dX6_readPerson_5 rfl ?_
  refine aw_getr (o' := 1) hX kf_X6_21 sh_6 (by decide) rfl rfl dX6_readPerson_6 ?_
  refine aw_geti hX kf_X6_123 sh_2 (by decide) rfl dX6_readPerson_9 ?_
  refine aw_iload_n hX dX6_readPerson_12 rfl ?_
  refine aw_iload_n hX dX6_readPerson_13 rfl ?_
  refine aw_invI (As := [.ref (X.G.ad 33 0), .int (μ.1 2 1 1), .int x1, .int x2]) (rest := []) (κ := 6) (o := 0) (T := TX6) (N := 6) hX vc_X6_170 sh_6 (by decide) rfl rfl rfl (Nat.le_of_ble_eq_true rfl) dX6_readPerson_14 k (fun r1 μ2 k => ?_)
  exact aw_iret hX hr dX6_readPerson_17 k

set_option maxRecDepth 100000 in
set_option maxHeartbeats 4000000 in
theorem st_X6_readTest_0 {X : zX} {lv : Nat} {Post : Option Value → zM → Prop} (hX : zOk X cX6_readTest RX6 6 lv) (hr : zRt X (some .int) Post)  {x1 : Int32} {μ : zM}
    (k : zCallI X lv yX6_readSum cX6_readSum 6 (some .int) [.ref (X.G.ad 6 0), .int x1] μ (fun (r1 : Int32) μ2 => zCallI X lv yX5_isSign cX5_isSign 2 (some .boolean) [.ref (X.G.ad 5 0), .int (60 : Int32)] μ2 (fun (r3 : Int32) μ4 => (¬ (μ4.1 6 0 2) = 0 → (Post (some (.int r1)) μ4)) ∧ ((μ4.1 6 0 2) = 0 → ((¬ r3 = 0 → (AW X 41 [some (.ref (X.G.ad 6 0)), some (.int x1), some (.int r1), some (.int r3), none, none] [] μ4)) ∧ (r3 = 0 → (zCallI X lv yX5_isSign cX5_isSign 2 (some .boolean) [.ref (X.G.ad 5 0), .int (61 : Int32)] μ4 (fun (r7 : Int32) μ8 => (¬ r7 = 0 → (AW X 41 [some (.ref (X.G.ad 6 0)), some (.int x1), some (.int r1), some (.int r3), none, none] [] μ8)) ∧ (r7 = 0 → (Post (some (.int r1)) μ8)))))))))) :
    AW X 0 [some (.ref (X.G.ad 6 0)), some (.int x1), none, none, none, none] [] μ := by
  refine aw_aload_n hX dX6_readTest_0 rfl ?_
  refine aw_iload_n hX dX6_readTest_1 rfl ?_
  refine aw_invI (As := [.int x1]) (rest := []) (κ := 6) (o := 0) (T := TX6) (N := 6) hX vc_X6_248 sh_6 (by decide) rfl rfl rfl (Nat.le_of_ble_eq_true rfl) dX6_readTest_2 k (fun r1 μ2 k => ?_)
  refine aw_istore_n (L' := [some (.ref (X.G.ad 6 0)), some (.int x1), some (.int r1), none, none, none]) hX dX6_readTest_5 (Nat.le_of_ble_eq_true rfl) rfl ?_
  refine aw_aload_n hX dX6_readTest_6 rfl ?_
  refine aw_getr (o' := 0) hX kf_X6_12 sh_6 (by decide) rfl rfl dX6_readTest_7 ?_
  refine aw_bipush hX dX6_readTest_10 zb_60 ?_
  refine aw_invI (As := [.int (60 : Int32)]) (rest := []) (κ := 5) (o := 0) (T := TX5) (N := 7) hX vc_X6_217 sh_5 (by decide) rfl rfl rfl (Nat.le_of_ble_eq_true rfl) dX6_readTest_12 k (fun r3 μ4 k => ?_)
  refine aw_istore_n (L' := [some (.ref (X.G.ad 6 0)), some (.int x1), some (.int r1), some (.int r3), none, none]) hX dX6_readTest_15 (Nat.le_of_ble_eq_true rfl) rfl ?_
  refine aw_aload_n hX dX6_readTest_16 rfl ?_
  refine aw_geti hX kf_X6_32 sh_6 (by decide) rfl dX6_readTest_17 ?_
  refine aw_if_ne (tgt := 39) hX dX6_readTest_20 (by decide) (fun c5 => ?_) (fun c5 => ?_)
  · have k := k.1 c5
    refine aw_iload_n hX dX6_readTest_39 rfl ?_
    exact aw_iret hX hr dX6_readTest_40 k
  · have k := k.2 c5
    refine aw_iload_n hX dX6_readTest_23 rfl ?_
    refine aw_if_ne (tgt := 41) hX dX6_readTest_24 (by decide) (fun c6 => ?_) (fun c6 => ?_)
    · have k := k.1 c6
      exact k
    · have k := k.2 c6
      refine aw_aload_n hX dX6_readTest_27 rfl ?_
      refine aw_getr (o' := 0) hX kf_X6_12 sh_6 (by decide) rfl rfl dX6_readTest_28 ?_
      refine aw_bipush hX dX6_readTest_31 zb_61 ?_
      refine aw_invI (As := [.int (61 : Int32)]) (rest := []) (κ := 5) (o := 0) (T := TX5) (N := 7) hX vc_X6_217 sh_5 (by decide) rfl rfl rfl (Nat.le_of_ble_eq_true rfl) dX6_readTest_33 k (fun r7 μ8 k => ?_)
      refine aw_if_ne (tgt := 41) hX dX6_readTest_36 (by decide) (fun c9 => ?_) (fun c9 => ?_)
      · have k := k.1 c9
        exact k
      · have k := k.2 c9
        refine aw_iload_n hX dX6_readTest_39 rfl ?_
        exact aw_iret hX hr dX6_readTest_40 k

set_option maxRecDepth 100000 in
set_option maxHeartbeats 4000000 in
theorem st_X6_readTest_41 {X : zX} {lv : Nat} {Post : Option Value → zM → Prop} (hX : zOk X cX6_readTest RX6 6 lv) (hr : zRt X (some .int) Post)  {x1 : Int32} {x2 : Int32} {x3 : Int32} {μ : zM}
    (k : zCallV X lv yX5_readOn cX5_readOn 1 none [.ref (X.G.ad 5 0)] μ (fun μ2 => zCallI X lv yX6_readSum cX6_readSum 6 (some .int) [.ref (X.G.ad 6 0), .int x1] μ2 (fun (r3 : Int32) μ4 => (x3 = 0 → ((¬ x2 = r3 → (Post (some (.int (0 : Int32))) μ4)) ∧ (x2 = r3 → (Post (some (.int (1 : Int32))) μ4)))) ∧ (¬ x3 = 0 → ((r3 ≤ x2 → (Post (some (.int (0 : Int32))) μ4)) ∧ (¬ r3 ≤ x2 → (Post (some (.int (1 : Int32))) μ4))))))) :
    AW X 41 [some (.ref (X.G.ad 6 0)), some (.int x1), some (.int x2), some (.int x3), none, none] [] μ := by
  refine aw_aload_n hX dX6_readTest_41 rfl ?_
  refine aw_getr (o' := 0) hX kf_X6_12 sh_6 (by decide) rfl rfl dX6_readTest_42 ?_
  refine aw_invV (As := []) (rest := []) (κ := 5) (o := 0) (T := TX5) (N := 7) hX vc_X6_91 sh_5 (by decide) rfl rfl rfl (Nat.le_of_ble_eq_true rfl) dX6_readTest_45 k (fun μ2 k => ?_)
  refine aw_aload_n hX dX6_readTest_48 rfl ?_
  refine aw_iload_n hX dX6_readTest_49 rfl ?_
  refine aw_invI (As := [.int x1]) (rest := []) (κ := 6) (o := 0) (T := TX6) (N := 6) hX vc_X6_248 sh_6 (by decide) rfl rfl rfl (Nat.le_of_ble_eq_true rfl) dX6_readTest_50 k (fun r3 μ4 k => ?_)
  refine aw_istore (L' := [some (.ref (X.G.ad 6 0)), some (.int x1), some (.int x2), some (.int x3), some (.int r3), none]) hX dX6_readTest_53 (Nat.le_of_ble_eq_true rfl) rfl ?_
  refine aw_iload_n hX dX6_readTest_55 rfl ?_
  refine aw_if_eq (tgt := 73) hX dX6_readTest_56 (by decide) (fun c5 => ?_) (fun c5 => ?_)
  · have k := k.1 c5
    refine aw_iload_n hX dX6_readTest_73 rfl ?_
    refine aw_iload hX dX6_readTest_74 rfl ?_
    refine aw_icmp_ne (tgt := 83) hX dX6_readTest_76 (by decide) (fun c6 => ?_) (fun c6 => ?_)
    · have k := k.1 c6
      refine aw_iconst hX dX6_readTest_83 zk_0 ?_
      refine aw_istore (L' := [some (.ref (X.G.ad 6 0)), some (.int x1), some (.int x2), some (.int x3), some (.int r3), some (.int (0 : Int32))]) hX dX6_readTest_84 (Nat.le_of_ble_eq_true rfl) rfl ?_
      refine aw_iload hX dX6_readTest_86 rfl ?_
      refine aw_if_eq (tgt := 95) hX dX6_readTest_88 (by decide) (fun _ => ?_) (fun c7 => absurd c7 (by decide))
      refine aw_iconst hX dX6_readTest_95 zk_0 ?_
      exact aw_iret hX hr dX6_readTest_96 k
    · have k := k.2 c6
      refine aw_iconst hX dX6_readTest_79 zk_1 ?_
      refine aw_goto (tgt := 84) hX dX6_readTest_80 (by decide) ?_
      refine aw_istore (L' := [some (.ref (X.G.ad 6 0)), some (.int x1), some (.int x2), some (.int x3), some (.int r3), some (.int (1 : Int32))]) hX dX6_readTest_84 (Nat.le_of_ble_eq_true rfl) rfl ?_
      refine aw_iload hX dX6_readTest_86 rfl ?_
      refine aw_if_eq (tgt := 95) hX dX6_readTest_88 (by decide) (fun c8 => absurd c8 (by decide)) (fun _ => ?_)
      refine aw_iconst hX dX6_readTest_91 zk_1 ?_
      refine aw_goto (tgt := 96) hX dX6_readTest_92 (by decide) ?_
      exact aw_iret hX hr dX6_readTest_96 k
  · have k := k.2 c5
    refine aw_iload_n hX dX6_readTest_59 rfl ?_
    refine aw_iload hX dX6_readTest_60 rfl ?_
    refine aw_icmp_ge (tgt := 69) hX dX6_readTest_62 (by decide) (fun c9 => ?_) (fun c9 => ?_)
    · have k := k.1 c9
      refine aw_iconst hX dX6_readTest_69 zk_0 ?_
      refine aw_goto (tgt := 84) hX dX6_readTest_70 (by decide) ?_
      refine aw_istore (L' := [some (.ref (X.G.ad 6 0)), some (.int x1), some (.int x2), some (.int x3), some (.int r3), some (.int (0 : Int32))]) hX dX6_readTest_84 (Nat.le_of_ble_eq_true rfl) rfl ?_
      refine aw_iload hX dX6_readTest_86 rfl ?_
      refine aw_if_eq (tgt := 95) hX dX6_readTest_88 (by decide) (fun _ => ?_) (fun c10 => absurd c10 (by decide))
      refine aw_iconst hX dX6_readTest_95 zk_0 ?_
      exact aw_iret hX hr dX6_readTest_96 k
    · have k := k.2 c9
      refine aw_iconst hX dX6_readTest_65 zk_1 ?_
      refine aw_goto (tgt := 84) hX dX6_readTest_66 (by decide) ?_
      refine aw_istore (L' := [some (.ref (X.G.ad 6 0)), some (.int x1), some (.int x2), some (.int x3), some (.int r3), some (.int (1 : Int32))]) hX dX6_readTest_84 (Nat.le_of_ble_eq_true rfl) rfl ?_
      refine aw_iload hX dX6_readTest_86 rfl ?_
      refine aw_if_eq (tgt := 95) hX dX6_readTest_88 (by decide) (fun c11 => absurd c11 (by decide)) (fun _ => ?_)
      refine aw_iconst hX dX6_readTest_91 zk_1 ?_
      refine aw_goto (tgt := 96) hX dX6_readTest_92 (by decide) ?_
      exact aw_iret hX hr dX6_readTest_96 k

set_option maxRecDepth 100000 in
set_option maxHeartbeats 4000000 in
theorem st_X6_readSum_0 {X : zX} {lv : Nat} {Post : Option Value → zM → Prop} (hX : zOk X cX6_readSum RX6 6 lv) (hr : zRt X (some .int) Post)  {x1 : Int32} {μ : zM}
    (k : zCallI X lv yX6_readProduct cX6_readProduct 4 (some .int) [.ref (X.G.ad 6 0), .int x1] μ (fun (r1 : Int32) μ2 => AW X 8 [some (.ref (X.G.ad 6 0)), some (.int x1), some (.int r1), some (.int (0 : Int32)), none, none] [] μ2)) :
    AW X 0 [some (.ref (X.G.ad 6 0)), some (.int x1), none, none, none, none] [] μ := by
  refine aw_aload_n hX dX6_readSum_0 rfl ?_
  refine aw_iload_n hX dX6_readSum_1 rfl ?_
  refine aw_invI (As := [.int x1]) (rest := []) (κ := 6) (o := 0) (T := TX6) (N := 6) hX vc_X6_251 sh_6 (by decide) rfl rfl rfl (Nat.le_of_ble_eq_true rfl) dX6_readSum_2 k (fun r1 μ2 k => ?_)
  refine aw_istore_n (L' := [some (.ref (X.G.ad 6 0)), some (.int x1), some (.int r1), none, none, none]) hX dX6_readSum_5 (Nat.le_of_ble_eq_true rfl) rfl ?_
  refine aw_iconst hX dX6_readSum_6 zk_0 ?_
  refine aw_istore_n (L' := [some (.ref (X.G.ad 6 0)), some (.int x1), some (.int r1), some (.int (0 : Int32)), none, none]) hX dX6_readSum_7 (Nat.le_of_ble_eq_true rfl) rfl ?_
  exact k

set_option maxRecDepth 100000 in
set_option maxHeartbeats 4000000 in
theorem st_X6_readSum_8 {X : zX} {lv : Nat} {Post : Option Value → zM → Prop} (hX : zOk X cX6_readSum RX6 6 lv) (hr : zRt X (some .int) Post)  {x1 : Int32} {x2 : Int32} {x3 : Int32} {μ : zM}
    (k : ((1000 : Int32) ≤ x3 → (Post (some (.int x2)) μ)) ∧ (¬ (1000 : Int32) ≤ x3 → ((¬ (μ.1 6 0 2) = 0 → (Post (some (.int x2)) μ)) ∧ ((μ.1 6 0 2) = 0 → (zCallI X lv yX5_isSign cX5_isSign 2 (some .boolean) [.ref (X.G.ad 5 0), .int (43 : Int32)] μ (fun (r3 : Int32) μ4 => (¬ r3 = 0 → (AW X 52 [some (.ref (X.G.ad 6 0)), some (.int x1), some (.int x2), some (.int x3), some (.int r3), none] [] μ4)) ∧ (r3 = 0 → (zCallI X lv yX5_isSign cX5_isSign 2 (some .boolean) [.ref (X.G.ad 5 0), .int (45 : Int32)] μ4 (fun (r6 : Int32) μ7 => (¬ r6 = 0 → (AW X 52 [some (.ref (X.G.ad 6 0)), some (.int x1), some (.int x2), some (.int x3), some (.int r3), none] [] μ7)) ∧ (r6 = 0 → (Post (some (.int x2)) μ7))))))))))) :
    AW X 8 [some (.ref (X.G.ad 6 0)), some (.int x1), some (.int x2), some (.int x3), none, none] [] μ := by
  refine aw_iload_n hX dX6_readSum_8 rfl ?_
  refine aw_sipush hX dX6_readSum_9 zs_1000 ?_
  refine aw_icmp_ge (tgt := 89) hX dX6_readSum_12 (by decide) (fun c1 => ?_) (fun c1 => ?_)
  · have k := k.1 c1
    refine aw_iload_n hX dX6_readSum_89 rfl ?_
    exact aw_iret hX hr dX6_readSum_90 k
  · have k := k.2 c1
    refine aw_aload_n hX dX6_readSum_15 rfl ?_
    refine aw_geti hX kf_X6_32 sh_6 (by decide) rfl dX6_readSum_16 ?_
    refine aw_if_ne (tgt := 89) hX dX6_readSum_19 (by decide) (fun c2 => ?_) (fun c2 => ?_)
    · have k := k.1 c2
      refine aw_iload_n hX dX6_readSum_89 rfl ?_
      exact aw_iret hX hr dX6_readSum_90 k
    · have k := k.2 c2
      refine aw_aload_n hX dX6_readSum_22 rfl ?_
      refine aw_getr (o' := 0) hX kf_X6_12 sh_6 (by decide) rfl rfl dX6_readSum_23 ?_
      refine aw_bipush hX dX6_readSum_26 zb_43 ?_
      refine aw_invI (As := [.int (43 : Int32)]) (rest := []) (κ := 5) (o := 0) (T := TX5) (N := 7) hX vc_X6_217 sh_5 (by decide) rfl rfl rfl (Nat.le_of_ble_eq_true rfl) dX6_readSum_28 k (fun r3 μ4 k => ?_)
      refine aw_istore (L' := [some (.ref (X.G.ad 6 0)), some (.int x1), some (.int x2), some (.int x3), some (.int r3), none]) hX dX6_readSum_31 (Nat.le_of_ble_eq_true rfl) rfl ?_
      refine aw_iload hX dX6_readSum_33 rfl ?_
      refine aw_if_ne (tgt := 52) hX dX6_readSum_35 (by decide) (fun c5 => ?_) (fun c5 => ?_)
      · have k := k.1 c5
        exact k
      · have k := k.2 c5
        refine aw_aload_n hX dX6_readSum_38 rfl ?_
        refine aw_getr (o' := 0) hX kf_X6_12 sh_6 (by decide) rfl rfl dX6_readSum_39 ?_
        refine aw_bipush hX dX6_readSum_42 zb_45 ?_
        refine aw_invI (As := [.int (45 : Int32)]) (rest := []) (κ := 5) (o := 0) (T := TX5) (N := 7) hX vc_X6_217 sh_5 (by decide) rfl rfl rfl (Nat.le_of_ble_eq_true rfl) dX6_readSum_44 k (fun r6 μ7 k => ?_)
        refine aw_if_ne (tgt := 52) hX dX6_readSum_47 (by decide) (fun c8 => ?_) (fun c8 => ?_)
        · have k := k.1 c8
          exact k
        · have k := k.2 c8
          refine aw_iload_n hX dX6_readSum_50 rfl ?_
          exact aw_iret hX hr dX6_readSum_51 k

set_option maxRecDepth 100000 in
set_option maxHeartbeats 4000000 in
theorem st_X6_readSum_52 {X : zX} {lv : Nat} {Post : Option Value → zM → Prop} (hX : zOk X cX6_readSum RX6 6 lv) (hr : zRt X (some .int) Post)  {x1 : Int32} {x2 : Int32} {x3 : Int32} {x4 : Int32} {μ : zM}
    (k : zCallV X lv yX5_readOn cX5_readOn 1 none [.ref (X.G.ad 5 0)] μ (fun μ2 => zCallI X lv yX6_readProduct cX6_readProduct 4 (some .int) [.ref (X.G.ad 6 0), .int x1] μ2 (fun (r3 : Int32) μ4 => (x4 = 0 → (∀ v6 : Int32, v6 = (x2 - r3) → (∀ v7 : Int32, v7 = x3 + (1 : Int32) → (AW X 8 [some (.ref (X.G.ad 6 0)), some (.int x1), some (.int v6), some (.int v7), none, none] [] μ4)))) ∧ (¬ x4 = 0 → (∀ v8 : Int32, v8 = (x2 + r3) → (∀ v9 : Int32, v9 = x3 + (1 : Int32) → (AW X 8 [some (.ref (X.G.ad 6 0)), some (.int x1), some (.int v8), some (.int v9), none, none] [] μ4))))))) :
    AW X 52 [some (.ref (X.G.ad 6 0)), some (.int x1), some (.int x2), some (.int x3), some (.int x4), none] [] μ := by
  refine aw_aload_n hX dX6_readSum_52 rfl ?_
  refine aw_getr (o' := 0) hX kf_X6_12 sh_6 (by decide) rfl rfl dX6_readSum_53 ?_
  refine aw_invV (As := []) (rest := []) (κ := 5) (o := 0) (T := TX5) (N := 7) hX vc_X6_91 sh_5 (by decide) rfl rfl rfl (Nat.le_of_ble_eq_true rfl) dX6_readSum_56 k (fun μ2 k => ?_)
  refine aw_aload_n hX dX6_readSum_59 rfl ?_
  refine aw_iload_n hX dX6_readSum_60 rfl ?_
  refine aw_invI (As := [.int x1]) (rest := []) (κ := 6) (o := 0) (T := TX6) (N := 6) hX vc_X6_251 sh_6 (by decide) rfl rfl rfl (Nat.le_of_ble_eq_true rfl) dX6_readSum_61 k (fun r3 μ4 k => ?_)
  refine aw_istore (L' := [some (.ref (X.G.ad 6 0)), some (.int x1), some (.int x2), some (.int x3), some (.int x4), some (.int r3)]) hX dX6_readSum_64 (Nat.le_of_ble_eq_true rfl) rfl ?_
  refine aw_iload hX dX6_readSum_66 rfl ?_
  refine aw_if_eq (tgt := 78) hX dX6_readSum_68 (by decide) (fun c5 => ?_) (fun c5 => ?_)
  · have k := k.1 c5
    refine aw_iload_n hX dX6_readSum_78 rfl ?_
    refine aw_iload hX dX6_readSum_79 rfl ?_
    refine aw_isub hX dX6_readSum_81 ?_
    refine aw_topi (fun v6 ev6 => ?_)
    have k := k v6 ev6
    refine aw_istore_n (L' := [some (.ref (X.G.ad 6 0)), some (.int x1), some (.int v6), some (.int x3), some (.int x4), some (.int r3)]) hX dX6_readSum_82 (Nat.le_of_ble_eq_true rfl) rfl ?_
    obtain ⟨v7, ev7⟩ : ∃ y : Int32, y = x3 + (1 : Int32) := ⟨_, rfl⟩
    have k := k v7 ev7
    refine aw_iinc (v := v7) (L' := [some (.ref (X.G.ad 6 0)), some (.int x1), some (.int v6), some (.int v7), some (.int x4), some (.int r3)]) hX dX6_readSum_83 rfl (by rw [ev7]; rfl) (Nat.le_of_ble_eq_true rfl) rfl ?_
    refine aw_goto (tgt := 8) hX dX6_readSum_86 (by decide) ?_
    exact aw_less (zle_s (zle_s (zle_s (zle_s (zle_o (zle_o zle_n)))))) k
  · have k := k.2 c5
    refine aw_iload_n hX dX6_readSum_71 rfl ?_
    refine aw_iload hX dX6_readSum_72 rfl ?_
    refine aw_iadd hX dX6_readSum_74 ?_
    refine aw_goto (tgt := 82) hX dX6_readSum_75 (by decide) ?_
    refine aw_topi (fun v8 ev8 => ?_)
    have k := k v8 ev8
    refine aw_istore_n (L' := [some (.ref (X.G.ad 6 0)), some (.int x1), some (.int v8), some (.int x3), some (.int x4), some (.int r3)]) hX dX6_readSum_82 (Nat.le_of_ble_eq_true rfl) rfl ?_
    obtain ⟨v9, ev9⟩ : ∃ y : Int32, y = x3 + (1 : Int32) := ⟨_, rfl⟩
    have k := k v9 ev9
    refine aw_iinc (v := v9) (L' := [some (.ref (X.G.ad 6 0)), some (.int x1), some (.int v8), some (.int v9), some (.int x4), some (.int r3)]) hX dX6_readSum_83 rfl (by rw [ev9]; rfl) (Nat.le_of_ble_eq_true rfl) rfl ?_
    refine aw_goto (tgt := 8) hX dX6_readSum_86 (by decide) ?_
    exact aw_less (zle_s (zle_s (zle_s (zle_s (zle_o (zle_o zle_n)))))) k

set_option maxRecDepth 100000 in
set_option maxHeartbeats 4000000 in
theorem st_X6_readProduct_0 {X : zX} {lv : Nat} {Post : Option Value → zM → Prop} (hX : zOk X cX6_readProduct RX6 4 lv) (hr : zRt X (some .int) Post)  {x1 : Int32} {μ : zM}
    (k : zCallI X lv yX6_readPart cX6_readPart 8 (some .int) [.ref (X.G.ad 6 0), .int x1] μ (fun (r1 : Int32) μ2 => AW X 8 [some (.ref (X.G.ad 6 0)), some (.int x1), some (.int r1), some (.int (0 : Int32))] [] μ2)) :
    AW X 0 [some (.ref (X.G.ad 6 0)), some (.int x1), none, none] [] μ := by
  refine aw_aload_n hX dX6_readProduct_0 rfl ?_
  refine aw_iload_n hX dX6_readProduct_1 rfl ?_
  refine aw_invI (As := [.int x1]) (rest := []) (κ := 6) (o := 0) (T := TX6) (N := 6) hX vc_X6_254 sh_6 (by decide) rfl rfl rfl (Nat.le_of_ble_eq_true rfl) dX6_readProduct_2 k (fun r1 μ2 k => ?_)
  refine aw_istore_n (L' := [some (.ref (X.G.ad 6 0)), some (.int x1), some (.int r1), none]) hX dX6_readProduct_5 (Nat.le_of_ble_eq_true rfl) rfl ?_
  refine aw_iconst hX dX6_readProduct_6 zk_0 ?_
  refine aw_istore_n (L' := [some (.ref (X.G.ad 6 0)), some (.int x1), some (.int r1), some (.int (0 : Int32))]) hX dX6_readProduct_7 (Nat.le_of_ble_eq_true rfl) rfl ?_
  exact k

set_option maxRecDepth 100000 in
set_option maxHeartbeats 4000000 in
theorem st_X6_readProduct_8 {X : zX} {lv : Nat} {Post : Option Value → zM → Prop} (hX : zOk X cX6_readProduct RX6 4 lv) (hr : zRt X (some .int) Post)  {x1 : Int32} {x2 : Int32} {x3 : Int32} {μ : zM}
    (k : ((1000 : Int32) ≤ x3 → (Post (some (.int x2)) μ)) ∧ (¬ (1000 : Int32) ≤ x3 → ((¬ (μ.1 6 0 2) = 0 → (Post (some (.int x2)) μ)) ∧ ((μ.1 6 0 2) = 0 → (zCallI X lv yX5_isSign cX5_isSign 2 (some .boolean) [.ref (X.G.ad 5 0), .int (42 : Int32)] μ (fun (r3 : Int32) μ4 => (¬ r3 = 0 → (zCallV X lv yX5_readOn cX5_readOn 1 none [.ref (X.G.ad 5 0)] μ4 (fun μ7 => zCallI X lv yX6_readPart cX6_readPart 8 (some .int) [.ref (X.G.ad 6 0), .int x1] μ7 (fun (r8 : Int32) μ9 => ∀ v10 : Int32, v10 = (x2 * r8) → (∀ v11 : Int32, v11 = x3 + (1 : Int32) → (AW X 8 [some (.ref (X.G.ad 6 0)), some (.int x1), some (.int v10), some (.int v11)] [] μ9)))))) ∧ (r3 = 0 → (Post (some (.int x2)) μ4)))))))) :
    AW X 8 [some (.ref (X.G.ad 6 0)), some (.int x1), some (.int x2), some (.int x3)] [] μ := by
  refine aw_iload_n hX dX6_readProduct_8 rfl ?_
  refine aw_sipush hX dX6_readProduct_9 zs_1000 ?_
  refine aw_icmp_ge (tgt := 57) hX dX6_readProduct_12 (by decide) (fun c1 => ?_) (fun c1 => ?_)
  · have k := k.1 c1
    refine aw_iload_n hX dX6_readProduct_57 rfl ?_
    exact aw_iret hX hr dX6_readProduct_58 k
  · have k := k.2 c1
    refine aw_aload_n hX dX6_readProduct_15 rfl ?_
    refine aw_geti hX kf_X6_32 sh_6 (by decide) rfl dX6_readProduct_16 ?_
    refine aw_if_ne (tgt := 57) hX dX6_readProduct_19 (by decide) (fun c2 => ?_) (fun c2 => ?_)
    · have k := k.1 c2
      refine aw_iload_n hX dX6_readProduct_57 rfl ?_
      exact aw_iret hX hr dX6_readProduct_58 k
    · have k := k.2 c2
      refine aw_aload_n hX dX6_readProduct_22 rfl ?_
      refine aw_getr (o' := 0) hX kf_X6_12 sh_6 (by decide) rfl rfl dX6_readProduct_23 ?_
      refine aw_bipush hX dX6_readProduct_26 zb_42 ?_
      refine aw_invI (As := [.int (42 : Int32)]) (rest := []) (κ := 5) (o := 0) (T := TX5) (N := 7) hX vc_X6_217 sh_5 (by decide) rfl rfl rfl (Nat.le_of_ble_eq_true rfl) dX6_readProduct_28 k (fun r3 μ4 k => ?_)
      refine aw_if_ne (tgt := 36) hX dX6_readProduct_31 (by decide) (fun c5 => ?_) (fun c5 => ?_)
      · have k := k.1 c5
        refine aw_aload_n hX dX6_readProduct_36 rfl ?_
        refine aw_getr (o' := 0) hX kf_X6_12 sh_6 (by decide) rfl rfl dX6_readProduct_37 ?_
        refine aw_invV (As := []) (rest := []) (κ := 5) (o := 0) (T := TX5) (N := 7) hX vc_X6_91 sh_5 (by decide) rfl rfl rfl (Nat.le_of_ble_eq_true rfl) dX6_readProduct_40 k (fun μ7 k => ?_)
        refine aw_iload_n hX dX6_readProduct_43 rfl ?_
        refine aw_aload_n hX dX6_readProduct_44 rfl ?_
        refine aw_iload_n hX dX6_readProduct_45 rfl ?_
        refine aw_invI (As := [.int x1]) (rest := [.int x2]) (κ := 6) (o := 0) (T := TX6) (N := 6) hX vc_X6_254 sh_6 (by decide) rfl rfl rfl (Nat.le_of_ble_eq_true rfl) dX6_readProduct_46 k (fun r8 μ9 k => ?_)
        refine aw_imul hX dX6_readProduct_49 ?_
        refine aw_topi (fun v10 ev10 => ?_)
        have k := k v10 ev10
        refine aw_istore_n (L' := [some (.ref (X.G.ad 6 0)), some (.int x1), some (.int v10), some (.int x3)]) hX dX6_readProduct_50 (Nat.le_of_ble_eq_true rfl) rfl ?_
        obtain ⟨v11, ev11⟩ : ∃ y : Int32, y = x3 + (1 : Int32) := ⟨_, rfl⟩
        have k := k v11 ev11
        refine aw_iinc (v := v11) (L' := [some (.ref (X.G.ad 6 0)), some (.int x1), some (.int v10), some (.int v11)]) hX dX6_readProduct_51 rfl (by rw [ev11]; rfl) (Nat.le_of_ble_eq_true rfl) rfl ?_
        refine aw_goto (tgt := 8) hX dX6_readProduct_54 (by decide) ?_
        exact k
      · have k := k.2 c5
        refine aw_iload_n hX dX6_readProduct_34 rfl ?_
        exact aw_iret hX hr dX6_readProduct_35 k

set_option maxRecDepth 100000 in
set_option maxHeartbeats 4000000 in
theorem st_X6_factNow_0 {X : zX} {lv : Nat} {Post : Option Value → zM → Prop} (hX : zOk X cX6_factNow RX6 2 lv) (hr : zRt X (some .int) Post)  {x1 : Int32} {μ : zM}
    (k : (¬ x1 = (4 : Int32) → (Post (some (.int (((μ.1 6 0 3) >>> (x1 &&& 31)) &&& (1 : Int32)))) μ)) ∧ (x1 = (4 : Int32) → (zCallI X lv yJ6_bitCount_0f7a4 cJ6_bitCount_0f7a4 1 (some .int) [.int (μ.1 6 0 3)] μ (fun (r2 : Int32) μ3 => Post (some (.int r2)) μ3)))) :
    AW X 0 [some (.ref (X.G.ad 6 0)), some (.int x1)] [] μ := by
  refine aw_iload_n hX dX6_factNow_0 rfl ?_
  refine aw_iconst hX dX6_factNow_1 zk_4 ?_
  refine aw_icmp_ne (tgt := 15) hX dX6_factNow_2 (by decide) (fun c1 => ?_) (fun c1 => ?_)
  · have k := k.1 c1
    refine aw_aload_n hX dX6_factNow_15 rfl ?_
    refine aw_geti hX kf_X6_210 sh_6 (by decide) rfl dX6_factNow_16 ?_
    refine aw_iload_n hX dX6_factNow_19 rfl ?_
    refine aw_ishr hX dX6_factNow_20 ?_
    refine aw_iconst hX dX6_factNow_21 zk_1 ?_
    refine aw_iand hX dX6_factNow_22 ?_
    exact aw_iret hX hr dX6_factNow_23 k
  · have k := k.2 c1
    refine aw_aload_n hX dX6_factNow_5 rfl ?_
    refine aw_geti hX kf_X6_210 sh_6 (by decide) rfl dX6_factNow_6 ?_
    refine aw_ivsI (As := [.int (μ.1 6 0 3)]) (rest := []) hX sc_X6_266 rfl rfl (Nat.le_of_ble_eq_true rfl) dX6_factNow_9 k (fun r2 μ3 k => ?_)
    refine aw_goto (tgt := 23) hX dX6_factNow_12 (by decide) ?_
    exact aw_iret hX hr dX6_factNow_23 k

