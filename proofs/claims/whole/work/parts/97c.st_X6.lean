set_option maxRecDepth 100000 in
set_option maxHeartbeats 4000000 in
theorem st_X6_readSentence_0 {X : zX} {lv : Nat} {Post : Option Value → zM → Prop} (hX : zOk X cX6_readSentence RX6 1 lv) (hr : zRt X none Post) (hE : zHas X.G)   {μ : zM}
    (k : zCallI X lv yX5_isWord cX5_isWord 2 (some .boolean) [.ref (X.G.ad 5 0), .ref (X.G.aw 2)] μ (fun (r1 : Int32) μ2 => (r1 = 0 → (zCallI X lv yX5_isWord cX5_isWord 2 (some .boolean) [.ref (X.G.ad 5 0), .ref (X.G.aw 5)] μ2 (fun (r4 : Int32) μ5 => (r4 = 0 → (zCallI X lv yX5_isWord cX5_isWord 2 (some .boolean) [.ref (X.G.ad 5 0), .ref (X.G.aw 6)] μ5 (fun (r7 : Int32) μ8 => (r7 = 0 → (zCallI X lv yX5_isWord cX5_isWord 2 (some .boolean) [.ref (X.G.ad 5 0), .ref (X.G.aw 13)] μ8 (fun (r10 : Int32) μ11 => (r10 = 0 → (zCallV X lv yX6_fail cX6_fail 2 none [.ref (X.G.ad 6 0), .int (1 : Int32)] μ11 (fun μ14 => Post none μ14))) ∧ (¬ r10 = 0 → (zCallV X lv yX6_readBet cX6_readBet 4 none [.ref (X.G.ad 6 0)] μ11 (fun μ16 => Post none μ16)))))) ∧ (¬ r7 = 0 → (zCallV X lv yX6_readLoan cX6_readLoan 2 none [.ref (X.G.ad 6 0)] μ8 (fun μ18 => Post none μ18)))))) ∧ (¬ r4 = 0 → (zCallV X lv yX6_readPurse cX6_readPurse 2 none [.ref (X.G.ad 6 0)] μ5 (fun μ20 => Post none μ20)))))) ∧ (¬ r1 = 0 → (zCallV X lv yX6_readHill cX6_readHill 2 none [.ref (X.G.ad 6 0)] μ2 (fun μ22 => Post none μ22))))) :
    AW X 0 [some (.ref (X.G.ad 6 0))] [] μ := by
  refine aw_aload_n hX dX6_readSentence_0 rfl ?_
  refine aw_getr (o' := 0) hX kf_X6_12 sh_6 (by decide) rfl rfl dX6_readSentence_1 ?_
  refine aw_gsE (i := 2) (n := "HILL") hE hX (by decide) (by decide) ks_X6_53 dX6_readSentence_4 ?_
  refine aw_invI (As := [.ref (X.G.aw 2)]) (rest := []) (κ := 5) (o := 0) (T := TX5) (N := 7) hX vc_X6_59 sh_5 (by decide) rfl rfl rfl (Nat.le_of_ble_eq_true rfl) dX6_readSentence_7 k (fun r1 μ2 k => ?_)
  refine aw_if_eq (tgt := 20) hX dX6_readSentence_10 (by decide) (fun c3 => ?_) (fun c3 => ?_)
  · have k := k.1 c3
    refine aw_aload_n hX dX6_readSentence_20 rfl ?_
    refine aw_getr (o' := 0) hX kf_X6_12 sh_6 (by decide) rfl rfl dX6_readSentence_21 ?_
    refine aw_gsE (i := 5) (n := "PURSE") hE hX (by decide) (by decide) ks_X6_66 dX6_readSentence_24 ?_
    refine aw_invI (As := [.ref (X.G.aw 5)]) (rest := []) (κ := 5) (o := 0) (T := TX5) (N := 7) hX vc_X6_59 sh_5 (by decide) rfl rfl rfl (Nat.le_of_ble_eq_true rfl) dX6_readSentence_27 k (fun r4 μ5 k => ?_)
    refine aw_if_eq (tgt := 40) hX dX6_readSentence_30 (by decide) (fun c6 => ?_) (fun c6 => ?_)
    · have k := k.1 c6
      refine aw_aload_n hX dX6_readSentence_40 rfl ?_
      refine aw_getr (o' := 0) hX kf_X6_12 sh_6 (by decide) rfl rfl dX6_readSentence_41 ?_
      refine aw_gsE (i := 6) (n := "LOAN") hE hX (by decide) (by decide) ks_X6_72 dX6_readSentence_44 ?_
      refine aw_invI (As := [.ref (X.G.aw 6)]) (rest := []) (κ := 5) (o := 0) (T := TX5) (N := 7) hX vc_X6_59 sh_5 (by decide) rfl rfl rfl (Nat.le_of_ble_eq_true rfl) dX6_readSentence_47 k (fun r7 μ8 k => ?_)
      refine aw_if_eq (tgt := 60) hX dX6_readSentence_50 (by decide) (fun c9 => ?_) (fun c9 => ?_)
      · have k := k.1 c9
        refine aw_aload_n hX dX6_readSentence_60 rfl ?_
        refine aw_getr (o' := 0) hX kf_X6_12 sh_6 (by decide) rfl rfl dX6_readSentence_61 ?_
        refine aw_gsE (i := 13) (n := "BET") hE hX (by decide) (by decide) ks_X6_78 dX6_readSentence_64 ?_
        refine aw_invI (As := [.ref (X.G.aw 13)]) (rest := []) (κ := 5) (o := 0) (T := TX5) (N := 7) hX vc_X6_59 sh_5 (by decide) rfl rfl rfl (Nat.le_of_ble_eq_true rfl) dX6_readSentence_67 k (fun r10 μ11 k => ?_)
        refine aw_if_eq (tgt := 80) hX dX6_readSentence_70 (by decide) (fun c12 => ?_) (fun c12 => ?_)
        · have k := k.1 c12
          refine aw_aload_n hX dX6_readSentence_80 rfl ?_
          refine aw_iconst hX dX6_readSentence_81 zk_1 ?_
          refine aw_invV (As := [.int (1 : Int32)]) (rest := []) (κ := 6) (o := 0) (T := TX6) (N := 6) hX vc_X6_84 sh_6 (by decide) rfl rfl rfl (Nat.le_of_ble_eq_true rfl) dX6_readSentence_82 k (fun μ14 k => ?_)
          exact aw_vret hX hr dX6_readSentence_85 k
        · have k := k.2 c12
          refine aw_aload_n hX dX6_readSentence_73 rfl ?_
          refine aw_invV (As := []) (rest := []) (κ := 6) (o := 0) (T := TX6) (N := 6) hX vc_X6_81 sh_6 (by decide) rfl rfl rfl (Nat.le_of_ble_eq_true rfl) dX6_readSentence_74 k (fun μ16 k => ?_)
          refine aw_goto (tgt := 85) hX dX6_readSentence_77 (by decide) ?_
          exact aw_vret hX hr dX6_readSentence_85 k
      · have k := k.2 c9
        refine aw_aload_n hX dX6_readSentence_53 rfl ?_
        refine aw_invV (As := []) (rest := []) (κ := 6) (o := 0) (T := TX6) (N := 6) hX vc_X6_75 sh_6 (by decide) rfl rfl rfl (Nat.le_of_ble_eq_true rfl) dX6_readSentence_54 k (fun μ18 k => ?_)
        refine aw_goto (tgt := 85) hX dX6_readSentence_57 (by decide) ?_
        exact aw_vret hX hr dX6_readSentence_85 k
    · have k := k.2 c6
      refine aw_aload_n hX dX6_readSentence_33 rfl ?_
      refine aw_invV (As := []) (rest := []) (κ := 6) (o := 0) (T := TX6) (N := 6) hX vc_X6_69 sh_6 (by decide) rfl rfl rfl (Nat.le_of_ble_eq_true rfl) dX6_readSentence_34 k (fun μ20 k => ?_)
      refine aw_goto (tgt := 85) hX dX6_readSentence_37 (by decide) ?_
      exact aw_vret hX hr dX6_readSentence_85 k
  · have k := k.2 c3
    refine aw_aload_n hX dX6_readSentence_13 rfl ?_
    refine aw_invV (As := []) (rest := []) (κ := 6) (o := 0) (T := TX6) (N := 6) hX vc_X6_63 sh_6 (by decide) rfl rfl rfl (Nat.le_of_ble_eq_true rfl) dX6_readSentence_14 k (fun μ22 k => ?_)
    refine aw_goto (tgt := 85) hX dX6_readSentence_17 (by decide) ?_
    exact aw_vret hX hr dX6_readSentence_85 k

set_option maxRecDepth 100000 in
set_option maxHeartbeats 4000000 in
theorem st_X6_readHill_0 {X : zX} {lv : Nat} {Post : Option Value → zM → Prop} (hX : zOk X cX6_readHill RX6 2 lv) (hr : zRt X none Post) (hE : zHas X.G)   {μ : zM}
    (k : ∀ v1 : Int32, v1 = (μ.1 2 1 0) → ((v1 < (4 : Int32) → (zCallV X lv yX5_readOn cX5_readOn 1 none [.ref (X.G.ad 5 0)] μ (fun μ4 => zCallJ X lv yX6_readNewName cX6_readNewName 3 (some .long) [.ref (X.G.ad 6 0)] μ4 (fun (r5 : Int64) μ6 => (vp_in v1 4) ∧ (∀ μ8 : zM, μ8 = pL μ6 32 0 (ix v1) r5 → (zCallV X lv yX6_readWord cX6_readWord 2 none [.ref (X.G.ad 6 0), .ref (X.G.aw 3)] μ8 (fun μ10 => zCallI X lv yX6_readNumber cX6_readNumber 4 (some .int) [.ref (X.G.ad 6 0), .int (0 : Int32), .int (8 : Int32)] μ10 (fun (r11 : Int32) μ12 => ∀ μ13 : zM, μ13 = pI μ12 19 1 (ix v1) r11 → (zCallV X lv yX6_readWord cX6_readWord 2 none [.ref (X.G.ad 6 0), .ref (X.G.aw 4)] μ13 (fun μ15 => zCallI X lv yX6_readNumber cX6_readNumber 4 (some .int) [.ref (X.G.ad 6 0), .int (0 : Int32), .int (8 : Int32)] μ15 (fun (r16 : Int32) μ17 => ∀ μ18 : zM, μ18 = pI μ17 20 1 (ix v1) r16 → (zCallV X lv yX6_readSign cX6_readSign 2 none [.ref (X.G.ad 6 0), .int (59 : Int32)] μ18 (fun μ20 => ∀ μ21 : zM, μ21 = pI μ20 2 1 0 ((μ20.1 2 1 0) + (1 : Int32)) → (Post none μ21)))))))))))))) ∧ (¬ v1 < (4 : Int32) → (zCallV X lv yX6_fail cX6_fail 2 none [.ref (X.G.ad 6 0), .int (5 : Int32)] μ (fun μ23 => Post none μ23))))) :
    AW X 0 [some (.ref (X.G.ad 6 0)), none] [] μ := by
  refine aw_aload_n hX dX6_readHill_0 rfl ?_
  refine aw_getr (o' := 1) hX kf_X6_21 sh_6 (by decide) rfl rfl dX6_readHill_1 ?_
  refine aw_geti hX kf_X6_88 sh_2 (by decide) rfl dX6_readHill_4 ?_
  refine aw_topi (fun v1 ev1 => ?_)
  have k := k v1 ev1
  refine aw_istore_n (L' := [some (.ref (X.G.ad 6 0)), some (.int v1)]) hX dX6_readHill_7 (Nat.le_of_ble_eq_true rfl) rfl ?_
  refine aw_iload_n hX dX6_readHill_8 rfl ?_
  refine aw_iconst hX dX6_readHill_9 zk_4 ?_
  refine aw_icmp_lt (tgt := 19) hX dX6_readHill_10 (by decide) (fun c2 => ?_) (fun c2 => ?_)
  · have k := k.1 c2
    refine aw_aload_n hX dX6_readHill_19 rfl ?_
    refine aw_getr (o' := 0) hX kf_X6_12 sh_6 (by decide) rfl rfl dX6_readHill_20 ?_
    refine aw_invV (As := []) (rest := []) (κ := 5) (o := 0) (T := TX5) (N := 7) hX vc_X6_91 sh_5 (by decide) rfl rfl rfl (Nat.le_of_ble_eq_true rfl) dX6_readHill_23 k (fun μ4 k => ?_)
    refine aw_aload_n hX dX6_readHill_26 rfl ?_
    refine aw_getr (o' := 0) hX kf_X6_25 sh_6 (by decide) rfl rfl dX6_readHill_27 ?_
    refine aw_iload_n hX dX6_readHill_30 rfl ?_
    refine aw_aload_n hX dX6_readHill_31 rfl ?_
    refine aw_invJ (As := []) (rest := [.int v1, .ref (X.G.ad 32 0)]) (κ := 6) (o := 0) (T := TX6) (N := 6) hX vc_X6_94 sh_6 (by decide) rfl rfl rfl (Nat.le_of_ble_eq_true rfl) dX6_readHill_32 k (fun r5 μ6 k => ?_)
    have s7 := k.1
    have k := k.2
    refine aw_last' (k := (ix v1)) hX sh_32 (by decide) s7 rfl dX6_readHill_35 ?_
    refine aw_mem (fun μ8 eμ8 => ?_)
    have k := k μ8 eμ8
    refine aw_aload_n hX dX6_readHill_36 rfl ?_
    refine aw_gsE (i := 3) (n := "DRY") hE hX (by decide) (by decide) ks_X6_98 dX6_readHill_37 ?_
    refine aw_invV (As := [.ref (X.G.aw 3)]) (rest := []) (κ := 6) (o := 0) (T := TX6) (N := 6) hX vc_X6_101 sh_6 (by decide) rfl rfl rfl (Nat.le_of_ble_eq_true rfl) dX6_readHill_40 k (fun μ10 k => ?_)
    refine aw_aload_n hX dX6_readHill_43 rfl ?_
    refine aw_getr (o' := 1) hX kf_X6_21 sh_6 (by decide) rfl rfl dX6_readHill_44 ?_
    refine aw_getr (o' := 1) hX kf_X6_105 sh_2 (by decide) rfl rfl dX6_readHill_47 ?_
    refine aw_iload_n hX dX6_readHill_50 rfl ?_
    refine aw_aload_n hX dX6_readHill_51 rfl ?_
    refine aw_iconst hX dX6_readHill_52 zk_0 ?_
    refine aw_bipush hX dX6_readHill_53 zb_8 ?_
    refine aw_invI (As := [.int (0 : Int32), .int (8 : Int32)]) (rest := [.int v1, .ref (X.G.ad 19 1)]) (κ := 6) (o := 0) (T := TX6) (N := 6) hX vc_X6_109 sh_6 (by decide) rfl rfl rfl (Nat.le_of_ble_eq_true rfl) dX6_readHill_55 k (fun r11 μ12 k => ?_)
    refine aw_iast' (k := (ix v1)) hX sh_19 (by decide) s7 rfl dX6_readHill_58 ?_
    refine aw_mem (fun μ13 eμ13 => ?_)
    have k := k μ13 eμ13
    refine aw_aload_n hX dX6_readHill_59 rfl ?_
    refine aw_gsE (i := 4) (n := "WET") hE hX (by decide) (by decide) ks_X6_113 dX6_readHill_60 ?_
    refine aw_invV (As := [.ref (X.G.aw 4)]) (rest := []) (κ := 6) (o := 0) (T := TX6) (N := 6) hX vc_X6_101 sh_6 (by decide) rfl rfl rfl (Nat.le_of_ble_eq_true rfl) dX6_readHill_63 k (fun μ15 k => ?_)
    refine aw_aload_n hX dX6_readHill_66 rfl ?_
    refine aw_getr (o' := 1) hX kf_X6_21 sh_6 (by decide) rfl rfl dX6_readHill_67 ?_
    refine aw_getr (o' := 1) hX kf_X6_116 sh_2 (by decide) rfl rfl dX6_readHill_70 ?_
    refine aw_iload_n hX dX6_readHill_73 rfl ?_
    refine aw_aload_n hX dX6_readHill_74 rfl ?_
    refine aw_iconst hX dX6_readHill_75 zk_0 ?_
    refine aw_bipush hX dX6_readHill_76 zb_8 ?_
    refine aw_invI (As := [.int (0 : Int32), .int (8 : Int32)]) (rest := [.int v1, .ref (X.G.ad 20 1)]) (κ := 6) (o := 0) (T := TX6) (N := 6) hX vc_X6_109 sh_6 (by decide) rfl rfl rfl (Nat.le_of_ble_eq_true rfl) dX6_readHill_78 k (fun r16 μ17 k => ?_)
    refine aw_iast' (k := (ix v1)) hX sh_20 (by decide) s7 rfl dX6_readHill_81 ?_
    refine aw_mem (fun μ18 eμ18 => ?_)
    have k := k μ18 eμ18
    refine aw_aload_n hX dX6_readHill_82 rfl ?_
    refine aw_bipush hX dX6_readHill_83 zb_59 ?_
    refine aw_invV (As := [.int (59 : Int32)]) (rest := []) (κ := 6) (o := 0) (T := TX6) (N := 6) hX vc_X6_119 sh_6 (by decide) rfl rfl rfl (Nat.le_of_ble_eq_true rfl) dX6_readHill_85 k (fun μ20 k => ?_)
    refine aw_aload_n hX dX6_readHill_88 rfl ?_
    refine aw_getr (o' := 1) hX kf_X6_21 sh_6 (by decide) rfl rfl dX6_readHill_89 ?_
    refine aw_dup hX dX6_readHill_92 rfl ?_
    refine aw_geti hX kf_X6_88 sh_2 (by decide) rfl dX6_readHill_93 ?_
    refine aw_iconst hX dX6_readHill_96 zk_1 ?_
    refine aw_iadd hX dX6_readHill_97 ?_
    refine aw_puti hX kp_X6_88 sh_2 (by decide) rfl rfl rfl dX6_readHill_98 ?_
    refine aw_mem (fun μ21 eμ21 => ?_)
    have k := k μ21 eμ21
    exact aw_vret hX hr dX6_readHill_101 k
  · have k := k.2 c2
    refine aw_aload_n hX dX6_readHill_13 rfl ?_
    refine aw_iconst hX dX6_readHill_14 zk_5 ?_
    refine aw_invV (As := [.int (5 : Int32)]) (rest := []) (κ := 6) (o := 0) (T := TX6) (N := 6) hX vc_X6_84 sh_6 (by decide) rfl rfl rfl (Nat.le_of_ble_eq_true rfl) dX6_readHill_15 k (fun μ23 k => ?_)
    exact aw_vret hX hr dX6_readHill_18 k

set_option maxRecDepth 100000 in
set_option maxHeartbeats 4000000 in
theorem st_X6_readLoan_0 {X : zX} {lv : Nat} {Post : Option Value → zM → Prop} (hX : zOk X cX6_readLoan RX6 2 lv) (hr : zRt X none Post) (hE : zHas X.G)   {μ : zM}
    (k : ((μ.1 2 1 2) < (10 : Int32) → ((vp_in (μ.1 2 1 2) 10) ∧ (zCallV X lv yX5_readOn cX5_readOn 1 none [.ref (X.G.ad 5 0)] μ (fun μ5 => zCallI X lv yX6_readPerson cX6_readPerson 3 (some .int) [.ref (X.G.ad 6 0), .int (-1 : Int32), .int (-1 : Int32)] μ5 (fun (r6 : Int32) μ7 => ∀ μ8 : zM, μ8 = pI μ7 7 (10 + (ix (μ.1 2 1 2))) 0 r6 → (zCallV X lv yX6_readWord cX6_readWord 2 none [.ref (X.G.ad 6 0), .ref (X.G.aw 7)] μ8 (fun μ10 => zCallI X lv yX6_readPerson cX6_readPerson 3 (some .int) [.ref (X.G.ad 6 0), .int (μ10.1 7 (10 + (ix (μ.1 2 1 2))) 0), .int (-1 : Int32)] μ10 (fun (r11 : Int32) μ12 => ∀ μ13 : zM, μ13 = pI μ12 7 (10 + (ix (μ.1 2 1 2))) 1 r11 → (zCallV X lv yX6_readWord cX6_readWord 2 none [.ref (X.G.ad 6 0), .ref (X.G.aw 8)] μ13 (fun μ15 => zCallI X lv yX6_readNumber cX6_readNumber 4 (some .int) [.ref (X.G.ad 6 0), .int (1 : Int32), .int (999 : Int32)] μ15 (fun (r16 : Int32) μ17 => ∀ μ18 : zM, μ18 = pI μ17 7 (10 + (ix (μ.1 2 1 2))) 2 r16 → (zCallV X lv yX6_readWord cX6_readWord 2 none [.ref (X.G.ad 6 0), .ref (X.G.aw 9)] μ18 (fun μ20 => zCallI X lv yX6_readNumber cX6_readNumber 4 (some .int) [.ref (X.G.ad 6 0), .int (0 : Int32), .int (99 : Int32)] μ20 (fun (r21 : Int32) μ22 => ∀ μ23 : zM, μ23 = pI μ22 7 (10 + (ix (μ.1 2 1 2))) 3 r21 → (zCallV X lv yX6_readWord cX6_readWord 2 none [.ref (X.G.ad 6 0), .ref (X.G.aw 10)] μ23 (fun μ25 => zCallI X lv yX6_readNumber cX6_readNumber 4 (some .int) [.ref (X.G.ad 6 0), .int (1 : Int32), .int (9 : Int32)] μ25 (fun (r26 : Int32) μ27 => ∀ μ28 : zM, μ28 = pI μ27 7 (10 + (ix (μ.1 2 1 2))) 4 r26 → (zCallV X lv yX6_readWord cX6_readWord 2 none [.ref (X.G.ad 6 0), .ref (X.G.aw 11)] μ28 (fun μ30 => zCallI X lv yX6_readToldName cX6_readToldName 6 (some .int) [.ref (X.G.ad 6 0), .ref (X.G.ad 32 0), .int (μ30.1 2 1 0), .int (-1 : Int32), .int (-1 : Int32)] μ30 (fun (r31 : Int32) μ32 => ∀ μ33 : zM, μ33 = pI μ32 7 (10 + (ix (μ.1 2 1 2))) 5 r31 → (zCallI X lv yX6_readKind cX6_readKind 2 (some .int) [.ref (X.G.ad 6 0)] μ33 (fun (r34 : Int32) μ35 => ∀ μ36 : zM, μ36 = pI μ35 7 (10 + (ix (μ.1 2 1 2))) 6 r34 → (∀ μ37 : zM, μ37 = pI μ36 7 (10 + (ix (μ.1 2 1 2))) 7 (-1 : Int32) → (zCallI X lv yX5_isWord cX5_isWord 2 (some .boolean) [.ref (X.G.ad 5 0), .ref (X.G.aw 12)] μ37 (fun (r38 : Int32) μ39 => (r38 = 0 → (zCallV X lv yX6_readSign cX6_readSign 2 none [.ref (X.G.ad 6 0), .int (59 : Int32)] μ39 (fun μ42 => ∀ μ43 : zM, μ43 = pI μ42 2 1 2 ((μ42.1 2 1 2) + (1 : Int32)) → (Post none μ43)))) ∧ (¬ r38 = 0 → (zCallV X lv yX5_readOn cX5_readOn 1 none [.ref (X.G.ad 5 0)] μ39 (fun μ45 => zCallI X lv yX6_readPerson cX6_readPerson 3 (some .int) [.ref (X.G.ad 6 0), .int (μ45.1 7 (10 + (ix (μ.1 2 1 2))) 0), .int (μ45.1 7 (10 + (ix (μ.1 2 1 2))) 1)] μ45 (fun (r46 : Int32) μ47 => ∀ μ48 : zM, μ48 = pI μ47 7 (10 + (ix (μ.1 2 1 2))) 7 r46 → (zCallV X lv yX6_readSign cX6_readSign 2 none [.ref (X.G.ad 6 0), .int (59 : Int32)] μ48 (fun μ50 => ∀ μ51 : zM, μ51 = pI μ50 2 1 2 ((μ50.1 2 1 2) + (1 : Int32)) → (Post none μ51)))))))))))))))))))))))))))))))) ∧ (¬ (μ.1 2 1 2) < (10 : Int32) → (zCallV X lv yX6_fail cX6_fail 2 none [.ref (X.G.ad 6 0), .int (5 : Int32)] μ (fun μ53 => Post none μ53)))) :
    AW X 0 [some (.ref (X.G.ad 6 0)), none] [] μ := by
  refine aw_aload_n hX dX6_readLoan_0 rfl ?_
  refine aw_getr (o' := 1) hX kf_X6_21 sh_6 (by decide) rfl rfl dX6_readLoan_1 ?_
  refine aw_geti hX kf_X6_129 sh_2 (by decide) rfl dX6_readLoan_4 ?_
  refine aw_bipush hX dX6_readLoan_7 zb_10 ?_
  refine aw_icmp_lt (tgt := 18) hX dX6_readLoan_9 (by decide) (fun c1 => ?_) (fun c1 => ?_)
  · have k := k.1 c1
    refine aw_aload_n hX dX6_readLoan_18 rfl ?_
    refine aw_getr (o' := 1) hX kf_X6_21 sh_6 (by decide) rfl rfl dX6_readLoan_19 ?_
    refine aw_getr (o' := 1) hX kf_X6_132 sh_2 (by decide) rfl rfl dX6_readLoan_22 ?_
    refine aw_aload_n hX dX6_readLoan_25 rfl ?_
    refine aw_getr (o' := 1) hX kf_X6_21 sh_6 (by decide) rfl rfl dX6_readLoan_26 ?_
    refine aw_geti hX kf_X6_129 sh_2 (by decide) rfl dX6_readLoan_29 ?_
    have s2 := k.1
    have k := k.2
    refine aw_aald' (k := (ix (μ.1 2 1 2))) (o' := (10 + (ix (μ.1 2 1 2)))) (C := "RainLoans$Terms") hX sh_22 (by decide) rfl s2 rfl rfl dX6_readLoan_32 ?_
    have w3 : (10 + (ix (μ.1 2 1 2))) < 60 := by have := zix s2; omega
    refine aw_astore_n (L' := [some (.ref (X.G.ad 6 0)), some (.ref (X.G.ad 7 (10 + (ix (μ.1 2 1 2)))))]) hX dX6_readLoan_33 (Nat.le_of_ble_eq_true rfl) rfl ?_
    refine aw_aload_n hX dX6_readLoan_34 rfl ?_
    refine aw_getr (o' := 0) hX kf_X6_12 sh_6 (by decide) rfl rfl dX6_readLoan_35 ?_
    refine aw_invV (As := []) (rest := []) (κ := 5) (o := 0) (T := TX5) (N := 7) hX vc_X6_91 sh_5 (by decide) rfl rfl rfl (Nat.le_of_ble_eq_true rfl) dX6_readLoan_38 k (fun μ5 k => ?_)
    refine aw_aload_n hX dX6_readLoan_41 rfl ?_
    refine aw_aload_n hX dX6_readLoan_42 rfl ?_
    refine aw_iconst hX dX6_readLoan_43 zk_m1 ?_
    refine aw_iconst hX dX6_readLoan_44 zk_m1 ?_
    refine aw_invI (As := [.int (-1 : Int32), .int (-1 : Int32)]) (rest := [.ref (X.G.ad 7 (10 + (ix (μ.1 2 1 2))))]) (κ := 6) (o := 0) (T := TX6) (N := 6) hX vc_X6_136 sh_6 (by decide) rfl rfl rfl (Nat.le_of_ble_eq_true rfl) dX6_readLoan_45 k (fun r6 μ7 k => ?_)
    refine aw_puti hX kp_X6_139 sh_7 w3 rfl rfl rfl dX6_readLoan_48 ?_
    refine aw_mem (fun μ8 eμ8 => ?_)
    have k := k μ8 eμ8
    refine aw_aload_n hX dX6_readLoan_51 rfl ?_
    refine aw_gsE (i := 7) (n := "TO") hE hX (by decide) (by decide) ks_X6_144 dX6_readLoan_52 ?_
    refine aw_invV (As := [.ref (X.G.aw 7)]) (rest := []) (κ := 6) (o := 0) (T := TX6) (N := 6) hX vc_X6_101 sh_6 (by decide) rfl rfl rfl (Nat.le_of_ble_eq_true rfl) dX6_readLoan_55 k (fun μ10 k => ?_)
    refine aw_aload_n hX dX6_readLoan_58 rfl ?_
    refine aw_aload_n hX dX6_readLoan_59 rfl ?_
    refine aw_aload_n hX dX6_readLoan_60 rfl ?_
    refine aw_geti hX kf_X6_139 sh_7 w3 rfl dX6_readLoan_61 ?_
    refine aw_iconst hX dX6_readLoan_64 zk_m1 ?_
    refine aw_invI (As := [.int (μ10.1 7 (10 + (ix (μ.1 2 1 2))) 0), .int (-1 : Int32)]) (rest := [.ref (X.G.ad 7 (10 + (ix (μ.1 2 1 2))))]) (κ := 6) (o := 0) (T := TX6) (N := 6) hX vc_X6_136 sh_6 (by decide) rfl rfl rfl (Nat.le_of_ble_eq_true rfl) dX6_readLoan_65 k (fun r11 μ12 k => ?_)
    refine aw_puti hX kp_X6_147 sh_7 w3 rfl rfl rfl dX6_readLoan_68 ?_
    refine aw_mem (fun μ13 eμ13 => ?_)
    have k := k μ13 eμ13
    refine aw_aload_n hX dX6_readLoan_71 rfl ?_
    refine aw_gsE (i := 8) (n := "COINS") hE hX (by decide) (by decide) ks_X6_150 dX6_readLoan_72 ?_
    refine aw_invV (As := [.ref (X.G.aw 8)]) (rest := []) (κ := 6) (o := 0) (T := TX6) (N := 6) hX vc_X6_101 sh_6 (by decide) rfl rfl rfl (Nat.le_of_ble_eq_true rfl) dX6_readLoan_75 k (fun μ15 k => ?_)
    refine aw_aload_n hX dX6_readLoan_78 rfl ?_
    refine aw_aload_n hX dX6_readLoan_79 rfl ?_
    refine aw_iconst hX dX6_readLoan_80 zk_1 ?_
    refine aw_sipush hX dX6_readLoan_81 zs_999 ?_
    refine aw_invI (As := [.int (1 : Int32), .int (999 : Int32)]) (rest := [.ref (X.G.ad 7 (10 + (ix (μ.1 2 1 2))))]) (κ := 6) (o := 0) (T := TX6) (N := 6) hX vc_X6_109 sh_6 (by decide) rfl rfl rfl (Nat.le_of_ble_eq_true rfl) dX6_readLoan_84 k (fun r16 μ17 k => ?_)
    refine aw_puti hX kp_X6_153 sh_7 w3 rfl rfl rfl dX6_readLoan_87 ?_
    refine aw_mem (fun μ18 eμ18 => ?_)
    have k := k μ18 eμ18
    refine aw_aload_n hX dX6_readLoan_90 rfl ?_
    refine aw_gsE (i := 9) (n := "RATE") hE hX (by decide) (by decide) ks_X6_155 dX6_readLoan_91 ?_
    refine aw_invV (As := [.ref (X.G.aw 9)]) (rest := []) (κ := 6) (o := 0) (T := TX6) (N := 6) hX vc_X6_101 sh_6 (by decide) rfl rfl rfl (Nat.le_of_ble_eq_true rfl) dX6_readLoan_94 k (fun μ20 k => ?_)
    refine aw_aload_n hX dX6_readLoan_97 rfl ?_
    refine aw_aload_n hX dX6_readLoan_98 rfl ?_
    refine aw_iconst hX dX6_readLoan_99 zk_0 ?_
    refine aw_bipush hX dX6_readLoan_100 zb_99 ?_
    refine aw_invI (As := [.int (0 : Int32), .int (99 : Int32)]) (rest := [.ref (X.G.ad 7 (10 + (ix (μ.1 2 1 2))))]) (κ := 6) (o := 0) (T := TX6) (N := 6) hX vc_X6_109 sh_6 (by decide) rfl rfl rfl (Nat.le_of_ble_eq_true rfl) dX6_readLoan_102 k (fun r21 μ22 k => ?_)
    refine aw_puti hX kp_X6_158 sh_7 w3 rfl rfl rfl dX6_readLoan_105 ?_
    refine aw_mem (fun μ23 eμ23 => ?_)
    have k := k μ23 eμ23
    refine aw_aload_n hX dX6_readLoan_108 rfl ?_
    refine aw_gsE (i := 10) (n := "DUE") hE hX (by decide) (by decide) ks_X6_161 dX6_readLoan_109 ?_
    refine aw_invV (As := [.ref (X.G.aw 10)]) (rest := []) (κ := 6) (o := 0) (T := TX6) (N := 6) hX vc_X6_101 sh_6 (by decide) rfl rfl rfl (Nat.le_of_ble_eq_true rfl) dX6_readLoan_112 k (fun μ25 k => ?_)
    refine aw_aload_n hX dX6_readLoan_115 rfl ?_
    refine aw_aload_n hX dX6_readLoan_116 rfl ?_
    refine aw_iconst hX dX6_readLoan_117 zk_1 ?_
    refine aw_bipush hX dX6_readLoan_118 zb_9 ?_
    refine aw_invI (As := [.int (1 : Int32), .int (9 : Int32)]) (rest := [.ref (X.G.ad 7 (10 + (ix (μ.1 2 1 2))))]) (κ := 6) (o := 0) (T := TX6) (N := 6) hX vc_X6_109 sh_6 (by decide) rfl rfl rfl (Nat.le_of_ble_eq_true rfl) dX6_readLoan_120 k (fun r26 μ27 k => ?_)
    refine aw_puti hX kp_X6_164 sh_7 w3 rfl rfl rfl dX6_readLoan_123 ?_
    refine aw_mem (fun μ28 eμ28 => ?_)
    have k := k μ28 eμ28
    refine aw_aload_n hX dX6_readLoan_126 rfl ?_
    refine aw_gsE (i := 11) (n := "ON") hE hX (by decide) (by decide) ks_X6_167 dX6_readLoan_127 ?_
    refine aw_invV (As := [.ref (X.G.aw 11)]) (rest := []) (κ := 6) (o := 0) (T := TX6) (N := 6) hX vc_X6_101 sh_6 (by decide) rfl rfl rfl (Nat.le_of_ble_eq_true rfl) dX6_readLoan_130 k (fun μ30 k => ?_)
    refine aw_aload_n hX dX6_readLoan_133 rfl ?_
    refine aw_aload_n hX dX6_readLoan_134 rfl ?_
    refine aw_aload_n hX dX6_readLoan_135 rfl ?_
    refine aw_getr (o' := 0) hX kf_X6_25 sh_6 (by decide) rfl rfl dX6_readLoan_136 ?_
    refine aw_aload_n hX dX6_readLoan_139 rfl ?_
    refine aw_getr (o' := 1) hX kf_X6_21 sh_6 (by decide) rfl rfl dX6_readLoan_140 ?_
    refine aw_geti hX kf_X6_88 sh_2 (by decide) rfl dX6_readLoan_143 ?_
    refine aw_iconst hX dX6_readLoan_146 zk_m1 ?_
    refine aw_iconst hX dX6_readLoan_147 zk_m1 ?_
    refine aw_invI (As := [.ref (X.G.ad 32 0), .int (μ30.1 2 1 0), .int (-1 : Int32), .int (-1 : Int32)]) (rest := [.ref (X.G.ad 7 (10 + (ix (μ.1 2 1 2))))]) (κ := 6) (o := 0) (T := TX6) (N := 6) hX vc_X6_170 sh_6 (by decide) rfl rfl rfl (Nat.le_of_ble_eq_true rfl) dX6_readLoan_148 k (fun r31 μ32 k => ?_)
    refine aw_puti hX kp_X6_174 sh_7 w3 rfl rfl rfl dX6_readLoan_151 ?_
    refine aw_mem (fun μ33 eμ33 => ?_)
    have k := k μ33 eμ33
    refine aw_aload_n hX dX6_readLoan_154 rfl ?_
    refine aw_aload_n hX dX6_readLoan_155 rfl ?_
    refine aw_invI (As := []) (rest := [.ref (X.G.ad 7 (10 + (ix (μ.1 2 1 2))))]) (κ := 6) (o := 0) (T := TX6) (N := 6) hX vc_X6_177 sh_6 (by decide) rfl rfl rfl (Nat.le_of_ble_eq_true rfl) dX6_readLoan_156 k (fun r34 μ35 k => ?_)
    refine aw_puti hX kp_X6_180 sh_7 w3 rfl rfl rfl dX6_readLoan_159 ?_
    refine aw_mem (fun μ36 eμ36 => ?_)
    have k := k μ36 eμ36
    refine aw_aload_n hX dX6_readLoan_162 rfl ?_
    refine aw_iconst hX dX6_readLoan_163 zk_m1 ?_
    refine aw_puti hX kp_X6_183 sh_7 w3 rfl rfl rfl dX6_readLoan_164 ?_
    refine aw_mem (fun μ37 eμ37 => ?_)
    have k := k μ37 eμ37
    refine aw_aload_n hX dX6_readLoan_167 rfl ?_
    refine aw_getr (o' := 0) hX kf_X6_12 sh_6 (by decide) rfl rfl dX6_readLoan_168 ?_
    refine aw_gsE (i := 12) (n := "BAIL") hE hX (by decide) (by decide) ks_X6_186 dX6_readLoan_171 ?_
    refine aw_invI (As := [.ref (X.G.aw 12)]) (rest := []) (κ := 5) (o := 0) (T := TX5) (N := 7) hX vc_X6_59 sh_5 (by decide) rfl rfl rfl (Nat.le_of_ble_eq_true rfl) dX6_readLoan_174 k (fun r38 μ39 k => ?_)
    refine aw_if_eq (tgt := 203) hX dX6_readLoan_177 (by decide) (fun c40 => ?_) (fun c40 => ?_)
    · have k := k.1 c40
      refine aw_aload_n hX dX6_readLoan_203 rfl ?_
      refine aw_bipush hX dX6_readLoan_204 zb_59 ?_
      refine aw_invV (As := [.int (59 : Int32)]) (rest := []) (κ := 6) (o := 0) (T := TX6) (N := 6) hX vc_X6_119 sh_6 (by decide) rfl rfl rfl (Nat.le_of_ble_eq_true rfl) dX6_readLoan_206 k (fun μ42 k => ?_)
      refine aw_aload_n hX dX6_readLoan_209 rfl ?_
      refine aw_getr (o' := 1) hX kf_X6_21 sh_6 (by decide) rfl rfl dX6_readLoan_210 ?_
      refine aw_dup hX dX6_readLoan_213 rfl ?_
      refine aw_geti hX kf_X6_129 sh_2 (by decide) rfl dX6_readLoan_214 ?_
      refine aw_iconst hX dX6_readLoan_217 zk_1 ?_
      refine aw_iadd hX dX6_readLoan_218 ?_
      refine aw_puti hX kp_X6_129 sh_2 (by decide) rfl rfl rfl dX6_readLoan_219 ?_
      refine aw_mem (fun μ43 eμ43 => ?_)
      have k := k μ43 eμ43
      exact aw_vret hX hr dX6_readLoan_222 k
    · have k := k.2 c40
      refine aw_aload_n hX dX6_readLoan_180 rfl ?_
      refine aw_getr (o' := 0) hX kf_X6_12 sh_6 (by decide) rfl rfl dX6_readLoan_181 ?_
      refine aw_invV (As := []) (rest := []) (κ := 5) (o := 0) (T := TX5) (N := 7) hX vc_X6_91 sh_5 (by decide) rfl rfl rfl (Nat.le_of_ble_eq_true rfl) dX6_readLoan_184 k (fun μ45 k => ?_)
      refine aw_aload_n hX dX6_readLoan_187 rfl ?_
      refine aw_aload_n hX dX6_readLoan_188 rfl ?_
      refine aw_aload_n hX dX6_readLoan_189 rfl ?_
      refine aw_geti hX kf_X6_139 sh_7 w3 rfl dX6_readLoan_190 ?_
      refine aw_aload_n hX dX6_readLoan_193 rfl ?_
      refine aw_geti hX kf_X6_147 sh_7 w3 rfl dX6_readLoan_194 ?_
      refine aw_invI (As := [.int (μ45.1 7 (10 + (ix (μ.1 2 1 2))) 0), .int (μ45.1 7 (10 + (ix (μ.1 2 1 2))) 1)]) (rest := [.ref (X.G.ad 7 (10 + (ix (μ.1 2 1 2))))]) (κ := 6) (o := 0) (T := TX6) (N := 6) hX vc_X6_136 sh_6 (by decide) rfl rfl rfl (Nat.le_of_ble_eq_true rfl) dX6_readLoan_197 k (fun r46 μ47 k => ?_)
      refine aw_puti hX kp_X6_183 sh_7 w3 rfl rfl rfl dX6_readLoan_200 ?_
      refine aw_mem (fun μ48 eμ48 => ?_)
      have k := k μ48 eμ48
      refine aw_aload_n hX dX6_readLoan_203 rfl ?_
      refine aw_bipush hX dX6_readLoan_204 zb_59 ?_
      refine aw_invV (As := [.int (59 : Int32)]) (rest := []) (κ := 6) (o := 0) (T := TX6) (N := 6) hX vc_X6_119 sh_6 (by decide) rfl rfl rfl (Nat.le_of_ble_eq_true rfl) dX6_readLoan_206 k (fun μ50 k => ?_)
      refine aw_aload_n hX dX6_readLoan_209 rfl ?_
      refine aw_getr (o' := 1) hX kf_X6_21 sh_6 (by decide) rfl rfl dX6_readLoan_210 ?_
      refine aw_dup hX dX6_readLoan_213 rfl ?_
      refine aw_geti hX kf_X6_129 sh_2 (by decide) rfl dX6_readLoan_214 ?_
      refine aw_iconst hX dX6_readLoan_217 zk_1 ?_
      refine aw_iadd hX dX6_readLoan_218 ?_
      refine aw_puti hX kp_X6_129 sh_2 (by decide) rfl rfl rfl dX6_readLoan_219 ?_
      refine aw_mem (fun μ51 eμ51 => ?_)
      have k := k μ51 eμ51
      exact aw_vret hX hr dX6_readLoan_222 k
  · have k := k.2 c1
    refine aw_aload_n hX dX6_readLoan_12 rfl ?_
    refine aw_iconst hX dX6_readLoan_13 zk_5 ?_
    refine aw_invV (As := [.int (5 : Int32)]) (rest := []) (κ := 6) (o := 0) (T := TX6) (N := 6) hX vc_X6_84 sh_6 (by decide) rfl rfl rfl (Nat.le_of_ble_eq_true rfl) dX6_readLoan_14 k (fun μ53 k => ?_)
    exact aw_vret hX hr dX6_readLoan_17 k

set_option maxRecDepth 100000 in
set_option maxHeartbeats 4000000 in
theorem st_X6_readBet_0 {X : zX} {lv : Nat} {Post : Option Value → zM → Prop} (hX : zOk X cX6_readBet RX6 4 lv) (hr : zRt X none Post) (hE : zHas X.G)   {μ : zM}
    (k : ∀ v1 : Int32, v1 = (μ.1 2 1 3) → ((v1 < (8 : Int32) → (zCallV X lv yX5_readOn cX5_readOn 1 none [.ref (X.G.ad 5 0)] μ (fun μ4 => zCallI X lv yX6_readNumber cX6_readNumber 4 (some .int) [.ref (X.G.ad 6 0), .int (0 : Int32), .int (999 : Int32)] μ4 (fun (r5 : Int32) μ6 => (vp_in v1 8) ∧ (∀ μ8 : zM, μ8 = pI μ6 23 1 (ix v1) r5 → (zCallV X lv yX6_readWord cX6_readWord 2 none [.ref (X.G.ad 6 0), .ref (X.G.aw 14)] μ8 (fun μ10 => zCallI X lv yX6_readNumber cX6_readNumber 4 (some .int) [.ref (X.G.ad 6 0), .int (0 : Int32), .int (999 : Int32)] μ10 (fun (r11 : Int32) μ12 => ∀ μ13 : zM, μ13 = pI μ12 24 1 (ix v1) r11 → (zCallV X lv yX6_readWord cX6_readWord 2 none [.ref (X.G.ad 6 0), .ref (X.G.aw 15)] μ13 (fun μ15 => ∀ μ16 : zM, μ16 = pI μ15 25 1 (ix v1) (0 : Int32) → (∀ v17 : Int32, v17 = (μ16.1 5 0 1) → (AW X 95 [some (.ref (X.G.ad 6 0)), some (.int v1), some (.int v17), some (.int (0 : Int32))] [] μ16)))))))))))) ∧ (¬ v1 < (8 : Int32) → (zCallV X lv yX6_fail cX6_fail 2 none [.ref (X.G.ad 6 0), .int (5 : Int32)] μ (fun μ19 => Post none μ19))))) :
    AW X 0 [some (.ref (X.G.ad 6 0)), none, none, none] [] μ := by
  refine aw_aload_n hX dX6_readBet_0 rfl ?_
  refine aw_getr (o' := 1) hX kf_X6_21 sh_6 (by decide) rfl rfl dX6_readBet_1 ?_
  refine aw_geti hX kf_X6_189 sh_2 (by decide) rfl dX6_readBet_4 ?_
  refine aw_topi (fun v1 ev1 => ?_)
  have k := k v1 ev1
  refine aw_istore_n (L' := [some (.ref (X.G.ad 6 0)), some (.int v1), none, none]) hX dX6_readBet_7 (Nat.le_of_ble_eq_true rfl) rfl ?_
  refine aw_iload_n hX dX6_readBet_8 rfl ?_
  refine aw_bipush hX dX6_readBet_9 zb_8 ?_
  refine aw_icmp_lt (tgt := 20) hX dX6_readBet_11 (by decide) (fun c2 => ?_) (fun c2 => ?_)
  · have k := k.1 c2
    refine aw_aload_n hX dX6_readBet_20 rfl ?_
    refine aw_getr (o' := 0) hX kf_X6_12 sh_6 (by decide) rfl rfl dX6_readBet_21 ?_
    refine aw_invV (As := []) (rest := []) (κ := 5) (o := 0) (T := TX5) (N := 7) hX vc_X6_91 sh_5 (by decide) rfl rfl rfl (Nat.le_of_ble_eq_true rfl) dX6_readBet_24 k (fun μ4 k => ?_)
    refine aw_aload_n hX dX6_readBet_27 rfl ?_
    refine aw_getr (o' := 1) hX kf_X6_21 sh_6 (by decide) rfl rfl dX6_readBet_28 ?_
    refine aw_getr (o' := 1) hX kf_X6_192 sh_2 (by decide) rfl rfl dX6_readBet_31 ?_
    refine aw_iload_n hX dX6_readBet_34 rfl ?_
    refine aw_aload_n hX dX6_readBet_35 rfl ?_
    refine aw_iconst hX dX6_readBet_36 zk_0 ?_
    refine aw_sipush hX dX6_readBet_37 zs_999 ?_
    refine aw_invI (As := [.int (0 : Int32), .int (999 : Int32)]) (rest := [.int v1, .ref (X.G.ad 23 1)]) (κ := 6) (o := 0) (T := TX6) (N := 6) hX vc_X6_109 sh_6 (by decide) rfl rfl rfl (Nat.le_of_ble_eq_true rfl) dX6_readBet_40 k (fun r5 μ6 k => ?_)
    have s7 := k.1
    have k := k.2
    refine aw_iast' (k := (ix v1)) hX sh_23 (by decide) s7 rfl dX6_readBet_43 ?_
    refine aw_mem (fun μ8 eμ8 => ?_)
    have k := k μ8 eμ8
    refine aw_aload_n hX dX6_readBet_44 rfl ?_
    refine aw_gsE (i := 14) (n := "PAYS") hE hX (by decide) (by decide) ks_X6_195 dX6_readBet_45 ?_
    refine aw_invV (As := [.ref (X.G.aw 14)]) (rest := []) (κ := 6) (o := 0) (T := TX6) (N := 6) hX vc_X6_101 sh_6 (by decide) rfl rfl rfl (Nat.le_of_ble_eq_true rfl) dX6_readBet_48 k (fun μ10 k => ?_)
    refine aw_aload_n hX dX6_readBet_51 rfl ?_
    refine aw_getr (o' := 1) hX kf_X6_21 sh_6 (by decide) rfl rfl dX6_readBet_52 ?_
    refine aw_getr (o' := 1) hX kf_X6_198 sh_2 (by decide) rfl rfl dX6_readBet_55 ?_
    refine aw_iload_n hX dX6_readBet_58 rfl ?_
    refine aw_aload_n hX dX6_readBet_59 rfl ?_
    refine aw_iconst hX dX6_readBet_60 zk_0 ?_
    refine aw_sipush hX dX6_readBet_61 zs_999 ?_
    refine aw_invI (As := [.int (0 : Int32), .int (999 : Int32)]) (rest := [.int v1, .ref (X.G.ad 24 1)]) (κ := 6) (o := 0) (T := TX6) (N := 6) hX vc_X6_109 sh_6 (by decide) rfl rfl rfl (Nat.le_of_ble_eq_true rfl) dX6_readBet_64 k (fun r11 μ12 k => ?_)
    refine aw_iast' (k := (ix v1)) hX sh_24 (by decide) s7 rfl dX6_readBet_67 ?_
    refine aw_mem (fun μ13 eμ13 => ?_)
    have k := k μ13 eμ13
    refine aw_aload_n hX dX6_readBet_68 rfl ?_
    refine aw_gsE (i := 15) (n := "IF") hE hX (by decide) (by decide) ks_X6_201 dX6_readBet_69 ?_
    refine aw_invV (As := [.ref (X.G.aw 15)]) (rest := []) (κ := 6) (o := 0) (T := TX6) (N := 6) hX vc_X6_101 sh_6 (by decide) rfl rfl rfl (Nat.le_of_ble_eq_true rfl) dX6_readBet_72 k (fun μ15 k => ?_)
    refine aw_aload_n hX dX6_readBet_75 rfl ?_
    refine aw_getr (o' := 1) hX kf_X6_21 sh_6 (by decide) rfl rfl dX6_readBet_76 ?_
    refine aw_getr (o' := 1) hX kf_X6_204 sh_2 (by decide) rfl rfl dX6_readBet_79 ?_
    refine aw_iload_n hX dX6_readBet_82 rfl ?_
    refine aw_iconst hX dX6_readBet_83 zk_0 ?_
    refine aw_iast' (k := (ix v1)) hX sh_25 (by decide) s7 rfl dX6_readBet_84 ?_
    refine aw_mem (fun μ16 eμ16 => ?_)
    have k := k μ16 eμ16
    refine aw_aload_n hX dX6_readBet_85 rfl ?_
    refine aw_getr (o' := 0) hX kf_X6_12 sh_6 (by decide) rfl rfl dX6_readBet_86 ?_
    refine aw_geti hX kf_X6_207 sh_5 (by decide) rfl dX6_readBet_89 ?_
    refine aw_topi (fun v17 ev17 => ?_)
    have k := k v17 ev17
    refine aw_istore_n (L' := [some (.ref (X.G.ad 6 0)), some (.int v1), some (.int v17), none]) hX dX6_readBet_92 (Nat.le_of_ble_eq_true rfl) rfl ?_
    refine aw_iconst hX dX6_readBet_93 zk_0 ?_
    refine aw_istore_n (L' := [some (.ref (X.G.ad 6 0)), some (.int v1), some (.int v17), some (.int (0 : Int32))]) hX dX6_readBet_94 (Nat.le_of_ble_eq_true rfl) rfl ?_
    exact k
  · have k := k.2 c2
    refine aw_aload_n hX dX6_readBet_14 rfl ?_
    refine aw_iconst hX dX6_readBet_15 zk_5 ?_
    refine aw_invV (As := [.int (5 : Int32)]) (rest := []) (κ := 6) (o := 0) (T := TX6) (N := 6) hX vc_X6_84 sh_6 (by decide) rfl rfl rfl (Nat.le_of_ble_eq_true rfl) dX6_readBet_16 k (fun μ19 k => ?_)
    exact aw_vret hX hr dX6_readBet_19 k

set_option maxRecDepth 100000 in
set_option maxHeartbeats 4000000 in
theorem st_X6_readBet_95 {X : zX} {lv : Nat} {Post : Option Value → zM → Prop} (hX : zOk X cX6_readBet RX6 4 lv) (hr : zRt X none Post)  {x1 : Int32} {x2 : Int32} {x3 : Int32} {μ : zM}
    (k : ((16 : Int32) ≤ x3 → (zCallV X lv yX6_readSign cX6_readSign 2 none [.ref (X.G.ad 6 0), .int (59 : Int32)] μ (fun μ3 => ∀ μ4 : zM, μ4 = pI μ3 2 1 3 ((μ3.1 2 1 3) + (1 : Int32)) → (Post none μ4)))) ∧ (¬ (16 : Int32) ≤ x3 → ((¬ (μ.1 6 0 2) = 0 → (zCallV X lv yX6_readSign cX6_readSign 2 none [.ref (X.G.ad 6 0), .int (59 : Int32)] μ (fun μ7 => ∀ μ8 : zM, μ8 = pI μ7 2 1 3 ((μ7.1 2 1 3) + (1 : Int32)) → (Post none μ8)))) ∧ ((μ.1 6 0 2) = 0 → (∀ μ9 : zM, μ9 = pI μ 5 0 1 x2 → (∀ μ10 : zM, μ10 = pI μ9 6 0 3 x3 → (zCallI X lv yX6_readExpression cX6_readExpression 7 (some .int) [.ref (X.G.ad 6 0), .int (0 : Int32)] μ10 (fun (r11 : Int32) μ12 => (r11 = 0 → (∀ v14 : Int32, v14 = x3 + (1 : Int32) → (AW X 95 [some (.ref (X.G.ad 6 0)), some (.int x1), some (.int x2), some (.int v14)] [] μ12))) ∧ (¬ r11 = 0 → ((vp_in x1 8) ∧ (∀ μ16 : zM, μ16 = pI μ12 25 1 (ix x1) ((μ12.1 25 1 (ix x1)) ||| ((1 : Int32) <<< (x3 &&& 31))) → (∀ v17 : Int32, v17 = x3 + (1 : Int32) → (AW X 95 [some (.ref (X.G.ad 6 0)), some (.int x1), some (.int x2), some (.int v17)] [] μ16))))))))))))) :
    AW X 95 [some (.ref (X.G.ad 6 0)), some (.int x1), some (.int x2), some (.int x3)] [] μ := by
  refine aw_iload_n hX dX6_readBet_95 rfl ?_
  refine aw_bipush hX dX6_readBet_96 zb_16 ?_
  refine aw_icmp_ge (tgt := 150) hX dX6_readBet_98 (by decide) (fun c1 => ?_) (fun c1 => ?_)
  · have k := k.1 c1
    refine aw_aload_n hX dX6_readBet_150 rfl ?_
    refine aw_bipush hX dX6_readBet_151 zb_59 ?_
    refine aw_invV (As := [.int (59 : Int32)]) (rest := []) (κ := 6) (o := 0) (T := TX6) (N := 6) hX vc_X6_119 sh_6 (by decide) rfl rfl rfl (Nat.le_of_ble_eq_true rfl) dX6_readBet_153 k (fun μ3 k => ?_)
    refine aw_aload_n hX dX6_readBet_156 rfl ?_
    refine aw_getr (o' := 1) hX kf_X6_21 sh_6 (by decide) rfl rfl dX6_readBet_157 ?_
    refine aw_dup hX dX6_readBet_160 rfl ?_
    refine aw_geti hX kf_X6_189 sh_2 (by decide) rfl dX6_readBet_161 ?_
    refine aw_iconst hX dX6_readBet_164 zk_1 ?_
    refine aw_iadd hX dX6_readBet_165 ?_
    refine aw_puti hX kp_X6_189 sh_2 (by decide) rfl rfl rfl dX6_readBet_166 ?_
    refine aw_mem (fun μ4 eμ4 => ?_)
    have k := k μ4 eμ4
    exact aw_vret hX hr dX6_readBet_169 k
  · have k := k.2 c1
    refine aw_aload_n hX dX6_readBet_101 rfl ?_
    refine aw_geti hX kf_X6_32 sh_6 (by decide) rfl dX6_readBet_102 ?_
    refine aw_if_ne (tgt := 150) hX dX6_readBet_105 (by decide) (fun c5 => ?_) (fun c5 => ?_)
    · have k := k.1 c5
      refine aw_aload_n hX dX6_readBet_150 rfl ?_
      refine aw_bipush hX dX6_readBet_151 zb_59 ?_
      refine aw_invV (As := [.int (59 : Int32)]) (rest := []) (κ := 6) (o := 0) (T := TX6) (N := 6) hX vc_X6_119 sh_6 (by decide) rfl rfl rfl (Nat.le_of_ble_eq_true rfl) dX6_readBet_153 k (fun μ7 k => ?_)
      refine aw_aload_n hX dX6_readBet_156 rfl ?_
      refine aw_getr (o' := 1) hX kf_X6_21 sh_6 (by decide) rfl rfl dX6_readBet_157 ?_
      refine aw_dup hX dX6_readBet_160 rfl ?_
      refine aw_geti hX kf_X6_189 sh_2 (by decide) rfl dX6_readBet_161 ?_
      refine aw_iconst hX dX6_readBet_164 zk_1 ?_
      refine aw_iadd hX dX6_readBet_165 ?_
      refine aw_puti hX kp_X6_189 sh_2 (by decide) rfl rfl rfl dX6_readBet_166 ?_
      refine aw_mem (fun μ8 eμ8 => ?_)
      have k := k μ8 eμ8
      exact aw_vret hX hr dX6_readBet_169 k
    · have k := k.2 c5
      refine aw_aload_n hX dX6_readBet_108 rfl ?_
      refine aw_getr (o' := 0) hX kf_X6_12 sh_6 (by decide) rfl rfl dX6_readBet_109 ?_
      refine aw_iload_n hX dX6_readBet_112 rfl ?_
      refine aw_puti hX kp_X6_207 sh_5 (by decide) rfl rfl rfl dX6_readBet_113 ?_
      refine aw_mem (fun μ9 eμ9 => ?_)
      have k := k μ9 eμ9
      refine aw_aload_n hX dX6_readBet_116 rfl ?_
      refine aw_iload_n hX dX6_readBet_117 rfl ?_
      refine aw_puti hX kp_X6_210 sh_6 (by decide) rfl rfl rfl dX6_readBet_118 ?_
      refine aw_mem (fun μ10 eμ10 => ?_)
      have k := k μ10 eμ10
      refine aw_aload_n hX dX6_readBet_121 rfl ?_
      refine aw_iconst hX dX6_readBet_122 zk_0 ?_
      refine aw_invI (As := [.int (0 : Int32)]) (rest := []) (κ := 6) (o := 0) (T := TX6) (N := 6) hX vc_X6_213 sh_6 (by decide) rfl rfl rfl (Nat.le_of_ble_eq_true rfl) dX6_readBet_123 k (fun r11 μ12 k => ?_)
      refine aw_if_eq (tgt := 144) hX dX6_readBet_126 (by decide) (fun c13 => ?_) (fun c13 => ?_)
      · have k := k.1 c13
        obtain ⟨v14, ev14⟩ : ∃ y : Int32, y = x3 + (1 : Int32) := ⟨_, rfl⟩
        have k := k v14 ev14
        refine aw_iinc (v := v14) (L' := [some (.ref (X.G.ad 6 0)), some (.int x1), some (.int x2), some (.int v14)]) hX dX6_readBet_144 rfl (by rw [ev14]; rfl) (Nat.le_of_ble_eq_true rfl) rfl ?_
        refine aw_goto (tgt := 95) hX dX6_readBet_147 (by decide) ?_
        exact k
      · have k := k.2 c13
        refine aw_aload_n hX dX6_readBet_129 rfl ?_
        refine aw_getr (o' := 1) hX kf_X6_21 sh_6 (by decide) rfl rfl dX6_readBet_130 ?_
        refine aw_getr (o' := 1) hX kf_X6_204 sh_2 (by decide) rfl rfl dX6_readBet_133 ?_
        refine aw_iload_n hX dX6_readBet_136 rfl ?_
        refine aw_dup2 hX dX6_readBet_137 rfl rfl ?_
        have s15 := k.1
        have k := k.2
        refine aw_iald' (k := (ix x1)) hX sh_25 (by decide) s15 rfl dX6_readBet_138 ?_
        refine aw_iconst hX dX6_readBet_139 zk_1 ?_
        refine aw_iload_n hX dX6_readBet_140 rfl ?_
        refine aw_ishl hX dX6_readBet_141 ?_
        refine aw_ior hX dX6_readBet_142 ?_
        refine aw_iast' (k := (ix x1)) hX sh_25 (by decide) s15 rfl dX6_readBet_143 ?_
        refine aw_mem (fun μ16 eμ16 => ?_)
        have k := k μ16 eμ16
        obtain ⟨v17, ev17⟩ : ∃ y : Int32, y = x3 + (1 : Int32) := ⟨_, rfl⟩
        have k := k v17 ev17
        refine aw_iinc (v := v17) (L' := [some (.ref (X.G.ad 6 0)), some (.int x1), some (.int x2), some (.int v17)]) hX dX6_readBet_144 rfl (by rw [ev17]; rfl) (Nat.le_of_ble_eq_true rfl) rfl ?_
        refine aw_goto (tgt := 95) hX dX6_readBet_147 (by decide) ?_
        exact k

set_option maxRecDepth 100000 in
set_option maxHeartbeats 4000000 in
theorem st_X6_readNewName_0 {X : zX} {lv : Nat} {Post : Option Value → zM → Prop} (hX : zOk X cX6_readNewName RX6 3 lv) (hr : zRt X (some .long) Post) (hE : zHas X.G)   {μ : zM}
    (k : zCallJ X lv yX5_value cX5_value 1 (some .long) [.ref (X.G.ad 5 0)] μ (fun (r1 : Int64) μ2 => zCallI X lv yX5_isWord cX5_isWord 2 (some .boolean) [.ref (X.G.ad 5 0), .ref (X.G.aw 1)] μ2 (fun (r3 : Int32) μ4 => (¬ r3 = 0 → (zCallI X lv yX6_findName cX6_findName 6 (some .int) [.ref (X.G.ad 6 0), .long r1, .ref (X.G.ad 32 0), .int (μ4.1 2 1 0)] μ4 (fun (r6 : Int32) μ7 => (¬ r6 = (-1 : Int32) → (zCallV X lv yX6_fail cX6_fail 2 none [.ref (X.G.ad 6 0), .int (3 : Int32)] μ7 (fun μ10 => Post (some (.long r1)) μ10))) ∧ (r6 = (-1 : Int32) → (zCallI X lv yX6_findName cX6_findName 6 (some .int) [.ref (X.G.ad 6 0), .long r1, .ref (X.G.ad 33 0), .int (μ7.1 2 1 1)] μ7 (fun (r11 : Int32) μ12 => (r11 = (-1 : Int32) → (zCallV X lv yX5_readOn cX5_readOn 1 none [.ref (X.G.ad 5 0)] μ12 (fun μ15 => Post (some (.long r1)) μ15))) ∧ (¬ r11 = (-1 : Int32) → (zCallV X lv yX6_fail cX6_fail 2 none [.ref (X.G.ad 6 0), .int (3 : Int32)] μ12 (fun μ17 => Post (some (.long r1)) μ17))))))))) ∧ (r3 = 0 → (zCallV X lv yX6_fail cX6_fail 2 none [.ref (X.G.ad 6 0), .int (1 : Int32)] μ4 (fun μ19 => Post (some (.long r1)) μ19)))))) :
    AW X 0 [some (.ref (X.G.ad 6 0)), none, none] [] μ := by
  refine aw_aload_n hX dX6_readNewName_0 rfl ?_
  refine aw_getr (o' := 0) hX kf_X6_12 sh_6 (by decide) rfl rfl dX6_readNewName_1 ?_
  refine aw_invJ (As := []) (rest := []) (κ := 5) (o := 0) (T := TX5) (N := 7) hX vc_X6_224 sh_5 (by decide) rfl rfl rfl (Nat.le_of_ble_eq_true rfl) dX6_readNewName_4 k (fun r1 μ2 k => ?_)
  refine aw_lstore_n (L' := [some (.ref (X.G.ad 6 0)), some (.long r1), none]) hX dX6_readNewName_7 (Nat.le_of_ble_eq_true rfl) rfl ?_
  refine aw_aload_n hX dX6_readNewName_8 rfl ?_
  refine aw_getr (o' := 0) hX kf_X6_12 sh_6 (by decide) rfl rfl dX6_readNewName_9 ?_
  refine aw_gsE (i := 1) (n := "NAME") hE hX (by decide) (by decide) ks_X6_227 dX6_readNewName_12 ?_
  refine aw_invI (As := [.ref (X.G.aw 1)]) (rest := []) (κ := 5) (o := 0) (T := TX5) (N := 7) hX vc_X6_59 sh_5 (by decide) rfl rfl rfl (Nat.le_of_ble_eq_true rfl) dX6_readNewName_15 k (fun r3 μ4 k => ?_)
  refine aw_if_ne (tgt := 29) hX dX6_readNewName_18 (by decide) (fun c5 => ?_) (fun c5 => ?_)
  · have k := k.1 c5
    refine aw_aload_n hX dX6_readNewName_29 rfl ?_
    refine aw_lload_n hX dX6_readNewName_30 rfl ?_
    refine aw_aload_n hX dX6_readNewName_31 rfl ?_
    refine aw_getr (o' := 0) hX kf_X6_25 sh_6 (by decide) rfl rfl dX6_readNewName_32 ?_
    refine aw_aload_n hX dX6_readNewName_35 rfl ?_
    refine aw_getr (o' := 1) hX kf_X6_21 sh_6 (by decide) rfl rfl dX6_readNewName_36 ?_
    refine aw_geti hX kf_X6_88 sh_2 (by decide) rfl dX6_readNewName_39 ?_
    refine aw_invI (As := [.long r1, .ref (X.G.ad 32 0), .int (μ4.1 2 1 0)]) (rest := []) (κ := 6) (o := 0) (T := TX6) (N := 6) hX vc_X6_230 sh_6 (by decide) rfl rfl rfl (Nat.le_of_ble_eq_true rfl) dX6_readNewName_42 k (fun r6 μ7 k => ?_)
    refine aw_iconst hX dX6_readNewName_45 zk_m1 ?_
    refine aw_icmp_ne (tgt := 69) hX dX6_readNewName_46 (by decide) (fun c8 => ?_) (fun c8 => ?_)
    · have k := k.1 c8
      refine aw_aload_n hX dX6_readNewName_69 rfl ?_
      refine aw_iconst hX dX6_readNewName_70 zk_3 ?_
      refine aw_invV (As := [.int (3 : Int32)]) (rest := []) (κ := 6) (o := 0) (T := TX6) (N := 6) hX vc_X6_84 sh_6 (by decide) rfl rfl rfl (Nat.le_of_ble_eq_true rfl) dX6_readNewName_71 k (fun μ10 k => ?_)
      refine aw_goto (tgt := 84) hX dX6_readNewName_74 (by decide) ?_
      refine aw_lload_n hX dX6_readNewName_84 rfl ?_
      exact aw_lret hX hr dX6_readNewName_85 k
    · have k := k.2 c8
      refine aw_aload_n hX dX6_readNewName_49 rfl ?_
      refine aw_lload_n hX dX6_readNewName_50 rfl ?_
      refine aw_aload_n hX dX6_readNewName_51 rfl ?_
      refine aw_getr (o' := 0) hX kf_X6_29 sh_6 (by decide) rfl rfl dX6_readNewName_52 ?_
      refine aw_aload_n hX dX6_readNewName_55 rfl ?_
      refine aw_getr (o' := 1) hX kf_X6_21 sh_6 (by decide) rfl rfl dX6_readNewName_56 ?_
      refine aw_geti hX kf_X6_123 sh_2 (by decide) rfl dX6_readNewName_59 ?_
      refine aw_invI (As := [.long r1, .ref (X.G.ad 33 0), .int (μ7.1 2 1 1)]) (rest := []) (κ := 6) (o := 0) (T := TX6) (N := 6) hX vc_X6_230 sh_6 (by decide) rfl rfl rfl (Nat.le_of_ble_eq_true rfl) dX6_readNewName_62 k (fun r11 μ12 k => ?_)
      refine aw_iconst hX dX6_readNewName_65 zk_m1 ?_
      refine aw_icmp_eq (tgt := 77) hX dX6_readNewName_66 (by decide) (fun c13 => ?_) (fun c13 => ?_)
      · have k := k.1 c13
        refine aw_aload_n hX dX6_readNewName_77 rfl ?_
        refine aw_getr (o' := 0) hX kf_X6_12 sh_6 (by decide) rfl rfl dX6_readNewName_78 ?_
        refine aw_invV (As := []) (rest := []) (κ := 5) (o := 0) (T := TX5) (N := 7) hX vc_X6_91 sh_5 (by decide) rfl rfl rfl (Nat.le_of_ble_eq_true rfl) dX6_readNewName_81 k (fun μ15 k => ?_)
        refine aw_lload_n hX dX6_readNewName_84 rfl ?_
        exact aw_lret hX hr dX6_readNewName_85 k
      · have k := k.2 c13
        refine aw_aload_n hX dX6_readNewName_69 rfl ?_
        refine aw_iconst hX dX6_readNewName_70 zk_3 ?_
        refine aw_invV (As := [.int (3 : Int32)]) (rest := []) (κ := 6) (o := 0) (T := TX6) (N := 6) hX vc_X6_84 sh_6 (by decide) rfl rfl rfl (Nat.le_of_ble_eq_true rfl) dX6_readNewName_71 k (fun μ17 k => ?_)
        refine aw_goto (tgt := 84) hX dX6_readNewName_74 (by decide) ?_
        refine aw_lload_n hX dX6_readNewName_84 rfl ?_
        exact aw_lret hX hr dX6_readNewName_85 k
  · have k := k.2 c5
    refine aw_aload_n hX dX6_readNewName_21 rfl ?_
    refine aw_iconst hX dX6_readNewName_22 zk_1 ?_
    refine aw_invV (As := [.int (1 : Int32)]) (rest := []) (κ := 6) (o := 0) (T := TX6) (N := 6) hX vc_X6_84 sh_6 (by decide) rfl rfl rfl (Nat.le_of_ble_eq_true rfl) dX6_readNewName_23 k (fun μ19 k => ?_)
    refine aw_goto (tgt := 84) hX dX6_readNewName_26 (by decide) ?_
    refine aw_lload_n hX dX6_readNewName_84 rfl ?_
    exact aw_lret hX hr dX6_readNewName_85 k

set_option maxRecDepth 100000 in
set_option maxHeartbeats 4000000 in
theorem st_X6_readToldName_0 {X : zX} {lv : Nat} {Post : Option Value → zM → Prop} (hX : zOk X cX6_readToldName RX6 6 lv) (hr : zRt X (some .int) Post) (hE : zHas X.G) {κ1 o1 n1 l1 : Nat} {q1 : Nat × Nat × Nat} (hs1 : zzSh[κ1]? = some (n1, .inl (1, l1, 1, q1))) (ho1 : o1 < n1) {x2 : Int32} {x3 : Int32} {x4 : Int32} {μ : zM}
    (k : zCallJ X lv yX5_value cX5_value 1 (some .long) [.ref (X.G.ad 5 0)] μ (fun (r1 : Int64) μ2 => zCallI X lv yX6_findName cX6_findName 6 (some .int) [.ref (X.G.ad 6 0), .long r1, .ref (X.G.ad κ1 o1), .int x2] μ2 (fun (r3 : Int32) μ4 => zCallI X lv yX5_isWord cX5_isWord 2 (some .boolean) [.ref (X.G.ad 5 0), .ref (X.G.aw 1)] μ4 (fun (r5 : Int32) μ6 => (¬ r5 = 0 → ((¬ r3 = (-1 : Int32) → ((r3 = x3 → (zCallV X lv yX6_fail cX6_fail 2 none [.ref (X.G.ad 6 0), .int (3 : Int32)] μ6 (fun μ11 => Post (some (.int r3)) μ11))) ∧ (¬ r3 = x3 → ((¬ r3 = x4 → (zCallV X lv yX5_readOn cX5_readOn 1 none [.ref (X.G.ad 5 0)] μ6 (fun μ14 => Post (some (.int r3)) μ14))) ∧ (r3 = x4 → (zCallV X lv yX6_fail cX6_fail 2 none [.ref (X.G.ad 6 0), .int (3 : Int32)] μ6 (fun μ16 => Post (some (.int r3)) μ16))))))) ∧ (r3 = (-1 : Int32) → (zCallV X lv yX6_fail cX6_fail 2 none [.ref (X.G.ad 6 0), .int (2 : Int32)] μ6 (fun μ18 => Post (some (.int r3)) μ18))))) ∧ (r5 = 0 → (zCallV X lv yX6_fail cX6_fail 2 none [.ref (X.G.ad 6 0), .int (1 : Int32)] μ6 (fun μ20 => Post (some (.int r3)) μ20))))))) :
    AW X 0 [some (.ref (X.G.ad 6 0)), some (.ref (X.G.ad κ1 o1)), some (.int x2), some (.int x3), some (.int x4), none] [] μ := by
  refine aw_aload_n hX dX6_readToldName_0 rfl ?_
  refine aw_aload_n hX dX6_readToldName_1 rfl ?_
  refine aw_getr (o' := 0) hX kf_X6_12 sh_6 (by decide) rfl rfl dX6_readToldName_2 ?_
  refine aw_invJ (As := []) (rest := [.ref (X.G.ad 6 0)]) (κ := 5) (o := 0) (T := TX5) (N := 7) hX vc_X6_224 sh_5 (by decide) rfl rfl rfl (Nat.le_of_ble_eq_true rfl) dX6_readToldName_5 k (fun r1 μ2 k => ?_)
  refine aw_aload_n hX dX6_readToldName_8 rfl ?_
  refine aw_iload_n hX dX6_readToldName_9 rfl ?_
  refine aw_invI (As := [.long r1, .ref (X.G.ad κ1 o1), .int x2]) (rest := []) (κ := 6) (o := 0) (T := TX6) (N := 6) hX vc_X6_230 sh_6 (by decide) rfl rfl rfl (Nat.le_of_ble_eq_true rfl) dX6_readToldName_10 k (fun r3 μ4 k => ?_)
  refine aw_istore (L' := [some (.ref (X.G.ad 6 0)), some (.ref (X.G.ad κ1 o1)), some (.int x2), some (.int x3), some (.int x4), some (.int r3)]) hX dX6_readToldName_13 (Nat.le_of_ble_eq_true rfl) rfl ?_
  refine aw_aload_n hX dX6_readToldName_15 rfl ?_
  refine aw_getr (o' := 0) hX kf_X6_12 sh_6 (by decide) rfl rfl dX6_readToldName_16 ?_
  refine aw_gsE (i := 1) (n := "NAME") hE hX (by decide) (by decide) ks_X6_227 dX6_readToldName_19 ?_
  refine aw_invI (As := [.ref (X.G.aw 1)]) (rest := []) (κ := 5) (o := 0) (T := TX5) (N := 7) hX vc_X6_59 sh_5 (by decide) rfl rfl rfl (Nat.le_of_ble_eq_true rfl) dX6_readToldName_22 k (fun r5 μ6 k => ?_)
  refine aw_if_ne (tgt := 36) hX dX6_readToldName_25 (by decide) (fun c7 => ?_) (fun c7 => ?_)
  · have k := k.1 c7
    refine aw_iload hX dX6_readToldName_36 rfl ?_
    refine aw_iconst hX dX6_readToldName_38 zk_m1 ?_
    refine aw_icmp_ne (tgt := 50) hX dX6_readToldName_39 (by decide) (fun c8 => ?_) (fun c8 => ?_)
    · have k := k.1 c8
      refine aw_iload hX dX6_readToldName_50 rfl ?_
      refine aw_iload_n hX dX6_readToldName_52 rfl ?_
      refine aw_icmp_eq (tgt := 63) hX dX6_readToldName_53 (by decide) (fun c9 => ?_) (fun c9 => ?_)
      · have k := k.1 c9
        refine aw_aload_n hX dX6_readToldName_63 rfl ?_
        refine aw_iconst hX dX6_readToldName_64 zk_3 ?_
        refine aw_invV (As := [.int (3 : Int32)]) (rest := []) (κ := 6) (o := 0) (T := TX6) (N := 6) hX vc_X6_84 sh_6 (by decide) rfl rfl rfl (Nat.le_of_ble_eq_true rfl) dX6_readToldName_65 k (fun μ11 k => ?_)
        refine aw_goto (tgt := 78) hX dX6_readToldName_68 (by decide) ?_
        refine aw_iload hX dX6_readToldName_78 rfl ?_
        exact aw_iret hX hr dX6_readToldName_80 k
      · have k := k.2 c9
        refine aw_iload hX dX6_readToldName_56 rfl ?_
        refine aw_iload hX dX6_readToldName_58 rfl ?_
        refine aw_icmp_ne (tgt := 71) hX dX6_readToldName_60 (by decide) (fun c12 => ?_) (fun c12 => ?_)
        · have k := k.1 c12
          refine aw_aload_n hX dX6_readToldName_71 rfl ?_
          refine aw_getr (o' := 0) hX kf_X6_12 sh_6 (by decide) rfl rfl dX6_readToldName_72 ?_
          refine aw_invV (As := []) (rest := []) (κ := 5) (o := 0) (T := TX5) (N := 7) hX vc_X6_91 sh_5 (by decide) rfl rfl rfl (Nat.le_of_ble_eq_true rfl) dX6_readToldName_75 k (fun μ14 k => ?_)
          refine aw_iload hX dX6_readToldName_78 rfl ?_
          exact aw_iret hX hr dX6_readToldName_80 k
        · have k := k.2 c12
          refine aw_aload_n hX dX6_readToldName_63 rfl ?_
          refine aw_iconst hX dX6_readToldName_64 zk_3 ?_
          refine aw_invV (As := [.int (3 : Int32)]) (rest := []) (κ := 6) (o := 0) (T := TX6) (N := 6) hX vc_X6_84 sh_6 (by decide) rfl rfl rfl (Nat.le_of_ble_eq_true rfl) dX6_readToldName_65 k (fun μ16 k => ?_)
          refine aw_goto (tgt := 78) hX dX6_readToldName_68 (by decide) ?_
          refine aw_iload hX dX6_readToldName_78 rfl ?_
          exact aw_iret hX hr dX6_readToldName_80 k
    · have k := k.2 c8
      refine aw_aload_n hX dX6_readToldName_42 rfl ?_
      refine aw_iconst hX dX6_readToldName_43 zk_2 ?_
      refine aw_invV (As := [.int (2 : Int32)]) (rest := []) (κ := 6) (o := 0) (T := TX6) (N := 6) hX vc_X6_84 sh_6 (by decide) rfl rfl rfl (Nat.le_of_ble_eq_true rfl) dX6_readToldName_44 k (fun μ18 k => ?_)
      refine aw_goto (tgt := 78) hX dX6_readToldName_47 (by decide) ?_
      refine aw_iload hX dX6_readToldName_78 rfl ?_
      exact aw_iret hX hr dX6_readToldName_80 k
  · have k := k.2 c7
    refine aw_aload_n hX dX6_readToldName_28 rfl ?_
    refine aw_iconst hX dX6_readToldName_29 zk_1 ?_
    refine aw_invV (As := [.int (1 : Int32)]) (rest := []) (κ := 6) (o := 0) (T := TX6) (N := 6) hX vc_X6_84 sh_6 (by decide) rfl rfl rfl (Nat.le_of_ble_eq_true rfl) dX6_readToldName_30 k (fun μ20 k => ?_)
    refine aw_goto (tgt := 78) hX dX6_readToldName_33 (by decide) ?_
    refine aw_iload hX dX6_readToldName_78 rfl ?_
    exact aw_iret hX hr dX6_readToldName_80 k

set_option maxRecDepth 100000 in
set_option maxHeartbeats 4000000 in
theorem st_X6_readKind_0 {X : zX} {lv : Nat} {Post : Option Value → zM → Prop} (hX : zOk X cX6_readKind RX6 2 lv) (hr : zRt X (some .int) Post) (hE : zHas X.G)   {μ : zM}
    (k : zCallR X lv yX5_word cX5_word 1 (some ((.object "RainLoans$Word"))) [.ref (X.G.ad 5 0)] μ (fun (r1 : Nat) μ2 => (r1 < 28) ∧ (∀ v4 : Int32, v4 = (zWk.getD r1 0) → ((¬ v4 = (-1 : Int32) → (zCallV X lv yX5_readOn cX5_readOn 1 none [.ref (X.G.ad 5 0)] μ2 (fun μ7 => Post (some (.int v4)) μ7))) ∧ (v4 = (-1 : Int32) → (zCallV X lv yX6_fail cX6_fail 2 none [.ref (X.G.ad 6 0), .int (1 : Int32)] μ2 (fun μ9 => Post (some (.int v4)) μ9))))))) :
    AW X 0 [some (.ref (X.G.ad 6 0)), none] [] μ := by
  refine aw_aload_n hX dX6_readKind_0 rfl ?_
  refine aw_getr (o' := 0) hX kf_X6_12 sh_6 (by decide) rfl rfl dX6_readKind_1 ?_
  refine aw_invR (As := []) (rest := []) (κ := 5) (o := 0) (T := TX5) (N := 7) hX vc_X6_234 sh_5 (by decide) rfl rfl rfl (Nat.le_of_ble_eq_true rfl) dX6_readKind_4 k (fun r1 μ2 k => ?_)
  have s3 := k.1
  have k := k.2
  refine aw_gEk hE hX s3 ks_X6_238 dX6_readKind_7 ?_
  refine aw_topi (fun v4 ev4 => ?_)
  have k := k v4 ev4
  refine aw_istore_n (L' := [some (.ref (X.G.ad 6 0)), some (.int v4)]) hX dX6_readKind_10 (Nat.le_of_ble_eq_true rfl) rfl ?_
  refine aw_iload_n hX dX6_readKind_11 rfl ?_
  refine aw_iconst hX dX6_readKind_12 zk_m1 ?_
  refine aw_icmp_ne (tgt := 24) hX dX6_readKind_13 (by decide) (fun c5 => ?_) (fun c5 => ?_)
  · have k := k.1 c5
    refine aw_aload_n hX dX6_readKind_24 rfl ?_
    refine aw_getr (o' := 0) hX kf_X6_12 sh_6 (by decide) rfl rfl dX6_readKind_25 ?_
    refine aw_invV (As := []) (rest := []) (κ := 5) (o := 0) (T := TX5) (N := 7) hX vc_X6_91 sh_5 (by decide) rfl rfl rfl (Nat.le_of_ble_eq_true rfl) dX6_readKind_28 k (fun μ7 k => ?_)
    refine aw_iload_n hX dX6_readKind_31 rfl ?_
    exact aw_iret hX hr dX6_readKind_32 k
  · have k := k.2 c5
    refine aw_aload_n hX dX6_readKind_16 rfl ?_
    refine aw_iconst hX dX6_readKind_17 zk_1 ?_
    refine aw_invV (As := [.int (1 : Int32)]) (rest := []) (κ := 6) (o := 0) (T := TX6) (N := 6) hX vc_X6_84 sh_6 (by decide) rfl rfl rfl (Nat.le_of_ble_eq_true rfl) dX6_readKind_18 k (fun μ9 k => ?_)
    refine aw_goto (tgt := 31) hX dX6_readKind_21 (by decide) ?_
    refine aw_iload_n hX dX6_readKind_31 rfl ?_
    exact aw_iret hX hr dX6_readKind_32 k

set_option maxRecDepth 100000 in
set_option maxHeartbeats 4000000 in
theorem st_X6_readExpression_0 {X : zX} {lv : Nat} {Post : Option Value → zM → Prop} (hX : zOk X cX6_readExpression RX6 7 lv) (hr : zRt X (some .int) Post)  {x1 : Int32} {μ : zM}
    (k : zCallI X lv yX6_readTest cX6_readTest 6 (some .int) [.ref (X.G.ad 6 0), .int x1] μ (fun (r1 : Int32) μ2 => AW X 8 [some (.ref (X.G.ad 6 0)), some (.int x1), some (.int r1), some (.int (0 : Int32)), none, none, none] [] μ2)) :
    AW X 0 [some (.ref (X.G.ad 6 0)), some (.int x1), none, none, none, none, none] [] μ := by
  refine aw_aload_n hX dX6_readExpression_0 rfl ?_
  refine aw_iload_n hX dX6_readExpression_1 rfl ?_
  refine aw_invI (As := [.int x1]) (rest := []) (κ := 6) (o := 0) (T := TX6) (N := 6) hX vc_X6_239 sh_6 (by decide) rfl rfl rfl (Nat.le_of_ble_eq_true rfl) dX6_readExpression_2 k (fun r1 μ2 k => ?_)
  refine aw_istore_n (L' := [some (.ref (X.G.ad 6 0)), some (.int x1), some (.int r1), none, none, none, none]) hX dX6_readExpression_5 (Nat.le_of_ble_eq_true rfl) rfl ?_
  refine aw_iconst hX dX6_readExpression_6 zk_0 ?_
  refine aw_istore_n (L' := [some (.ref (X.G.ad 6 0)), some (.int x1), some (.int r1), some (.int (0 : Int32)), none, none, none]) hX dX6_readExpression_7 (Nat.le_of_ble_eq_true rfl) rfl ?_
  exact k

set_option maxRecDepth 100000 in
set_option maxHeartbeats 4000000 in
theorem st_X6_readExpression_8 {X : zX} {lv : Nat} {Post : Option Value → zM → Prop} (hX : zOk X cX6_readExpression RX6 7 lv) (hr : zRt X (some .int) Post) (hE : zHas X.G)  {x1 : Int32} {x2 : Int32} {x3 : Int32} {μ : zM}
    (k : ((1000 : Int32) ≤ x3 → (Post (some (.int x2)) μ)) ∧ (¬ (1000 : Int32) ≤ x3 → ((¬ (μ.1 6 0 2) = 0 → (Post (some (.int x2)) μ)) ∧ ((μ.1 6 0 2) = 0 → (zCallI X lv yX5_isWord cX5_isWord 2 (some .boolean) [.ref (X.G.ad 5 0), .ref (X.G.aw 26)] μ (fun (r3 : Int32) μ4 => (¬ r3 = 0 → (AW X 54 [some (.ref (X.G.ad 6 0)), some (.int x1), some (.int x2), some (.int x3), some (.int r3), none, none] [] μ4)) ∧ (r3 = 0 → (zCallI X lv yX5_isWord cX5_isWord 2 (some .boolean) [.ref (X.G.ad 5 0), .ref (X.G.aw 27)] μ4 (fun (r6 : Int32) μ7 => (¬ r6 = 0 → (AW X 54 [some (.ref (X.G.ad 6 0)), some (.int x1), some (.int x2), some (.int x3), some (.int r3), none, none] [] μ7)) ∧ (r6 = 0 → (Post (some (.int x2)) μ7))))))))))) :
    AW X 8 [some (.ref (X.G.ad 6 0)), some (.int x1), some (.int x2), some (.int x3), none, none, none] [] μ := by
  refine aw_iload_n hX dX6_readExpression_8 rfl ?_
  refine aw_sipush hX dX6_readExpression_9 zs_1000 ?_
  refine aw_icmp_ge (tgt := 123) hX dX6_readExpression_12 (by decide) (fun c1 => ?_) (fun c1 => ?_)
  · have k := k.1 c1
    refine aw_iload_n hX dX6_readExpression_123 rfl ?_
    exact aw_iret hX hr dX6_readExpression_124 k
  · have k := k.2 c1
    refine aw_aload_n hX dX6_readExpression_15 rfl ?_
    refine aw_geti hX kf_X6_32 sh_6 (by decide) rfl dX6_readExpression_16 ?_
    refine aw_if_ne (tgt := 123) hX dX6_readExpression_19 (by decide) (fun c2 => ?_) (fun c2 => ?_)
    · have k := k.1 c2
      refine aw_iload_n hX dX6_readExpression_123 rfl ?_
      exact aw_iret hX hr dX6_readExpression_124 k
    · have k := k.2 c2
      refine aw_aload_n hX dX6_readExpression_22 rfl ?_
      refine aw_getr (o' := 0) hX kf_X6_12 sh_6 (by decide) rfl rfl dX6_readExpression_23 ?_
      refine aw_gsE (i := 26) (n := "AND") hE hX (by decide) (by decide) ks_X6_242 dX6_readExpression_26 ?_
      refine aw_invI (As := [.ref (X.G.aw 26)]) (rest := []) (κ := 5) (o := 0) (T := TX5) (N := 7) hX vc_X6_59 sh_5 (by decide) rfl rfl rfl (Nat.le_of_ble_eq_true rfl) dX6_readExpression_29 k (fun r3 μ4 k => ?_)
      refine aw_istore (L' := [some (.ref (X.G.ad 6 0)), some (.int x1), some (.int x2), some (.int x3), some (.int r3), none, none]) hX dX6_readExpression_32 (Nat.le_of_ble_eq_true rfl) rfl ?_
      refine aw_iload hX dX6_readExpression_34 rfl ?_
      refine aw_if_ne (tgt := 54) hX dX6_readExpression_36 (by decide) (fun c5 => ?_) (fun c5 => ?_)
      · have k := k.1 c5
        exact k
      · have k := k.2 c5
        refine aw_aload_n hX dX6_readExpression_39 rfl ?_
        refine aw_getr (o' := 0) hX kf_X6_12 sh_6 (by decide) rfl rfl dX6_readExpression_40 ?_
        refine aw_gsE (i := 27) (n := "OR") hE hX (by decide) (by decide) ks_X6_245 dX6_readExpression_43 ?_
        refine aw_invI (As := [.ref (X.G.aw 27)]) (rest := []) (κ := 5) (o := 0) (T := TX5) (N := 7) hX vc_X6_59 sh_5 (by decide) rfl rfl rfl (Nat.le_of_ble_eq_true rfl) dX6_readExpression_46 k (fun r6 μ7 k => ?_)
        refine aw_if_ne (tgt := 54) hX dX6_readExpression_49 (by decide) (fun c8 => ?_) (fun c8 => ?_)
        · have k := k.1 c8
          exact k
        · have k := k.2 c8
          refine aw_iload_n hX dX6_readExpression_52 rfl ?_
          exact aw_iret hX hr dX6_readExpression_53 k

set_option maxRecDepth 100000 in
set_option maxHeartbeats 4000000 in
theorem st_X6_readExpression_54 {X : zX} {lv : Nat} {Post : Option Value → zM → Prop} (hX : zOk X cX6_readExpression RX6 7 lv) (hr : zRt X (some .int) Post)  {x1 : Int32} {x2 : Int32} {x3 : Int32} {x4 : Int32} {μ : zM}
    (k : zCallV X lv yX5_readOn cX5_readOn 1 none [.ref (X.G.ad 5 0)] μ (fun μ2 => zCallI X lv yX6_readTest cX6_readTest 6 (some .int) [.ref (X.G.ad 6 0), .int x1] μ2 (fun (r3 : Int32) μ4 => (x4 = 0 → ((¬ x2 = 0 → (∀ v8 : Int32, v8 = x3 + (1 : Int32) → (AW X 8 [some (.ref (X.G.ad 6 0)), some (.int x1), some (.int (1 : Int32)), some (.int v8), none, none, none] [] μ4))) ∧ (x2 = 0 → ((r3 = 0 → (∀ v11 : Int32, v11 = x3 + (1 : Int32) → (AW X 8 [some (.ref (X.G.ad 6 0)), some (.int x1), some (.int (0 : Int32)), some (.int v11), none, none, none] [] μ4))) ∧ (¬ r3 = 0 → (∀ v13 : Int32, v13 = x3 + (1 : Int32) → (AW X 8 [some (.ref (X.G.ad 6 0)), some (.int x1), some (.int (1 : Int32)), some (.int v13), none, none, none] [] μ4))))))) ∧ (¬ x4 = 0 → ((x2 = 0 → (∀ v16 : Int32, v16 = x3 + (1 : Int32) → (AW X 8 [some (.ref (X.G.ad 6 0)), some (.int x1), some (.int (0 : Int32)), some (.int v16), none, none, none] [] μ4))) ∧ (¬ x2 = 0 → ((r3 = 0 → (∀ v19 : Int32, v19 = x3 + (1 : Int32) → (AW X 8 [some (.ref (X.G.ad 6 0)), some (.int x1), some (.int (0 : Int32)), some (.int v19), none, none, none] [] μ4))) ∧ (¬ r3 = 0 → (∀ v21 : Int32, v21 = x3 + (1 : Int32) → (AW X 8 [some (.ref (X.G.ad 6 0)), some (.int x1), some (.int (1 : Int32)), some (.int v21), none, none, none] [] μ4)))))))))) :
    AW X 54 [some (.ref (X.G.ad 6 0)), some (.int x1), some (.int x2), some (.int x3), some (.int x4), none, none] [] μ := by
  refine aw_aload_n hX dX6_readExpression_54 rfl ?_
  refine aw_getr (o' := 0) hX kf_X6_12 sh_6 (by decide) rfl rfl dX6_readExpression_55 ?_
  refine aw_invV (As := []) (rest := []) (κ := 5) (o := 0) (T := TX5) (N := 7) hX vc_X6_91 sh_5 (by decide) rfl rfl rfl (Nat.le_of_ble_eq_true rfl) dX6_readExpression_58 k (fun μ2 k => ?_)
  refine aw_aload_n hX dX6_readExpression_61 rfl ?_
  refine aw_iload_n hX dX6_readExpression_62 rfl ?_
  refine aw_invI (As := [.int x1]) (rest := []) (κ := 6) (o := 0) (T := TX6) (N := 6) hX vc_X6_239 sh_6 (by decide) rfl rfl rfl (Nat.le_of_ble_eq_true rfl) dX6_readExpression_63 k (fun r3 μ4 k => ?_)
  refine aw_istore (L' := [some (.ref (X.G.ad 6 0)), some (.int x1), some (.int x2), some (.int x3), some (.int x4), some (.int r3), none]) hX dX6_readExpression_66 (Nat.le_of_ble_eq_true rfl) rfl ?_
  refine aw_iload hX dX6_readExpression_68 rfl ?_
  refine aw_if_eq (tgt := 90) hX dX6_readExpression_70 (by decide) (fun c5 => ?_) (fun c5 => ?_)
  · have k := k.1 c5
    refine aw_iload_n hX dX6_readExpression_90 rfl ?_
    refine aw_if_ne (tgt := 99) hX dX6_readExpression_91 (by decide) (fun c6 => ?_) (fun c6 => ?_)
    · have k := k.1 c6
      refine aw_iconst hX dX6_readExpression_99 zk_1 ?_
      refine aw_goto (tgt := 104) hX dX6_readExpression_100 (by decide) ?_
      refine aw_istore (L' := [some (.ref (X.G.ad 6 0)), some (.int x1), some (.int x2), some (.int x3), some (.int x4), some (.int r3), some (.int (1 : Int32))]) hX dX6_readExpression_104 (Nat.le_of_ble_eq_true rfl) rfl ?_
      refine aw_iload hX dX6_readExpression_106 rfl ?_
      refine aw_if_eq (tgt := 115) hX dX6_readExpression_108 (by decide) (fun c7 => absurd c7 (by decide)) (fun _ => ?_)
      refine aw_iconst hX dX6_readExpression_111 zk_1 ?_
      refine aw_goto (tgt := 116) hX dX6_readExpression_112 (by decide) ?_
      refine aw_istore_n (L' := [some (.ref (X.G.ad 6 0)), some (.int x1), some (.int (1 : Int32)), some (.int x3), some (.int x4), some (.int r3), some (.int (1 : Int32))]) hX dX6_readExpression_116 (Nat.le_of_ble_eq_true rfl) rfl ?_
      obtain ⟨v8, ev8⟩ : ∃ y : Int32, y = x3 + (1 : Int32) := ⟨_, rfl⟩
      have k := k v8 ev8
      refine aw_iinc (v := v8) (L' := [some (.ref (X.G.ad 6 0)), some (.int x1), some (.int (1 : Int32)), some (.int v8), some (.int x4), some (.int r3), some (.int (1 : Int32))]) hX dX6_readExpression_117 rfl (by rw [ev8]; rfl) (Nat.le_of_ble_eq_true rfl) rfl ?_
      refine aw_goto (tgt := 8) hX dX6_readExpression_120 (by decide) ?_
      exact aw_less (zle_s (zle_s (zle_s (zle_s (zle_o (zle_o (zle_o zle_n))))))) k
    · have k := k.2 c6
      refine aw_iload hX dX6_readExpression_94 rfl ?_
      refine aw_if_eq (tgt := 103) hX dX6_readExpression_96 (by decide) (fun c9 => ?_) (fun c9 => ?_)
      · have k := k.1 c9
        refine aw_iconst hX dX6_readExpression_103 zk_0 ?_
        refine aw_istore (L' := [some (.ref (X.G.ad 6 0)), some (.int x1), some (.int x2), some (.int x3), some (.int x4), some (.int r3), some (.int (0 : Int32))]) hX dX6_readExpression_104 (Nat.le_of_ble_eq_true rfl) rfl ?_
        refine aw_iload hX dX6_readExpression_106 rfl ?_
        refine aw_if_eq (tgt := 115) hX dX6_readExpression_108 (by decide) (fun _ => ?_) (fun c10 => absurd c10 (by decide))
        refine aw_iconst hX dX6_readExpression_115 zk_0 ?_
        refine aw_istore_n (L' := [some (.ref (X.G.ad 6 0)), some (.int x1), some (.int (0 : Int32)), some (.int x3), some (.int x4), some (.int r3), some (.int (0 : Int32))]) hX dX6_readExpression_116 (Nat.le_of_ble_eq_true rfl) rfl ?_
        obtain ⟨v11, ev11⟩ : ∃ y : Int32, y = x3 + (1 : Int32) := ⟨_, rfl⟩
        have k := k v11 ev11
        refine aw_iinc (v := v11) (L' := [some (.ref (X.G.ad 6 0)), some (.int x1), some (.int (0 : Int32)), some (.int v11), some (.int x4), some (.int r3), some (.int (0 : Int32))]) hX dX6_readExpression_117 rfl (by rw [ev11]; rfl) (Nat.le_of_ble_eq_true rfl) rfl ?_
        refine aw_goto (tgt := 8) hX dX6_readExpression_120 (by decide) ?_
        exact aw_less (zle_s (zle_s (zle_s (zle_s (zle_o (zle_o (zle_o zle_n))))))) k
      · have k := k.2 c9
        refine aw_iconst hX dX6_readExpression_99 zk_1 ?_
        refine aw_goto (tgt := 104) hX dX6_readExpression_100 (by decide) ?_
        refine aw_istore (L' := [some (.ref (X.G.ad 6 0)), some (.int x1), some (.int x2), some (.int x3), some (.int x4), some (.int r3), some (.int (1 : Int32))]) hX dX6_readExpression_104 (Nat.le_of_ble_eq_true rfl) rfl ?_
        refine aw_iload hX dX6_readExpression_106 rfl ?_
        refine aw_if_eq (tgt := 115) hX dX6_readExpression_108 (by decide) (fun c12 => absurd c12 (by decide)) (fun _ => ?_)
        refine aw_iconst hX dX6_readExpression_111 zk_1 ?_
        refine aw_goto (tgt := 116) hX dX6_readExpression_112 (by decide) ?_
        refine aw_istore_n (L' := [some (.ref (X.G.ad 6 0)), some (.int x1), some (.int (1 : Int32)), some (.int x3), some (.int x4), some (.int r3), some (.int (1 : Int32))]) hX dX6_readExpression_116 (Nat.le_of_ble_eq_true rfl) rfl ?_
        obtain ⟨v13, ev13⟩ : ∃ y : Int32, y = x3 + (1 : Int32) := ⟨_, rfl⟩
        have k := k v13 ev13
        refine aw_iinc (v := v13) (L' := [some (.ref (X.G.ad 6 0)), some (.int x1), some (.int (1 : Int32)), some (.int v13), some (.int x4), some (.int r3), some (.int (1 : Int32))]) hX dX6_readExpression_117 rfl (by rw [ev13]; rfl) (Nat.le_of_ble_eq_true rfl) rfl ?_
        refine aw_goto (tgt := 8) hX dX6_readExpression_120 (by decide) ?_
        exact aw_less (zle_s (zle_s (zle_s (zle_s (zle_o (zle_o (zle_o zle_n))))))) k
  · have k := k.2 c5
    refine aw_iload_n hX dX6_readExpression_73 rfl ?_
    refine aw_if_eq (tgt := 86) hX dX6_readExpression_74 (by decide) (fun c14 => ?_) (fun c14 => ?_)
    · have k := k.1 c14
      refine aw_iconst hX dX6_readExpression_86 zk_0 ?_
      refine aw_goto (tgt := 104) hX dX6_readExpression_87 (by decide) ?_
      refine aw_istore (L' := [some (.ref (X.G.ad 6 0)), some (.int x1), some (.int x2), some (.int x3), some (.int x4), some (.int r3), some (.int (0 : Int32))]) hX dX6_readExpression_104 (Nat.le_of_ble_eq_true rfl) rfl ?_
      refine aw_iload hX dX6_readExpression_106 rfl ?_
      refine aw_if_eq (tgt := 115) hX dX6_readExpression_108 (by decide) (fun _ => ?_) (fun c15 => absurd c15 (by decide))
      refine aw_iconst hX dX6_readExpression_115 zk_0 ?_
      refine aw_istore_n (L' := [some (.ref (X.G.ad 6 0)), some (.int x1), some (.int (0 : Int32)), some (.int x3), some (.int x4), some (.int r3), some (.int (0 : Int32))]) hX dX6_readExpression_116 (Nat.le_of_ble_eq_true rfl) rfl ?_
      obtain ⟨v16, ev16⟩ : ∃ y : Int32, y = x3 + (1 : Int32) := ⟨_, rfl⟩
      have k := k v16 ev16
      refine aw_iinc (v := v16) (L' := [some (.ref (X.G.ad 6 0)), some (.int x1), some (.int (0 : Int32)), some (.int v16), some (.int x4), some (.int r3), some (.int (0 : Int32))]) hX dX6_readExpression_117 rfl (by rw [ev16]; rfl) (Nat.le_of_ble_eq_true rfl) rfl ?_
      refine aw_goto (tgt := 8) hX dX6_readExpression_120 (by decide) ?_
      exact aw_less (zle_s (zle_s (zle_s (zle_s (zle_o (zle_o (zle_o zle_n))))))) k
    · have k := k.2 c14
      refine aw_iload hX dX6_readExpression_77 rfl ?_
      refine aw_if_eq (tgt := 86) hX dX6_readExpression_79 (by decide) (fun c17 => ?_) (fun c17 => ?_)
      · have k := k.1 c17
        refine aw_iconst hX dX6_readExpression_86 zk_0 ?_
        refine aw_goto (tgt := 104) hX dX6_readExpression_87 (by decide) ?_
        refine aw_istore (L' := [some (.ref (X.G.ad 6 0)), some (.int x1), some (.int x2), some (.int x3), some (.int x4), some (.int r3), some (.int (0 : Int32))]) hX dX6_readExpression_104 (Nat.le_of_ble_eq_true rfl) rfl ?_
        refine aw_iload hX dX6_readExpression_106 rfl ?_
        refine aw_if_eq (tgt := 115) hX dX6_readExpression_108 (by decide) (fun _ => ?_) (fun c18 => absurd c18 (by decide))
        refine aw_iconst hX dX6_readExpression_115 zk_0 ?_
        refine aw_istore_n (L' := [some (.ref (X.G.ad 6 0)), some (.int x1), some (.int (0 : Int32)), some (.int x3), some (.int x4), some (.int r3), some (.int (0 : Int32))]) hX dX6_readExpression_116 (Nat.le_of_ble_eq_true rfl) rfl ?_
        obtain ⟨v19, ev19⟩ : ∃ y : Int32, y = x3 + (1 : Int32) := ⟨_, rfl⟩
        have k := k v19 ev19
        refine aw_iinc (v := v19) (L' := [some (.ref (X.G.ad 6 0)), some (.int x1), some (.int (0 : Int32)), some (.int v19), some (.int x4), some (.int r3), some (.int (0 : Int32))]) hX dX6_readExpression_117 rfl (by rw [ev19]; rfl) (Nat.le_of_ble_eq_true rfl) rfl ?_
        refine aw_goto (tgt := 8) hX dX6_readExpression_120 (by decide) ?_
        exact aw_less (zle_s (zle_s (zle_s (zle_s (zle_o (zle_o (zle_o zle_n))))))) k
      · have k := k.2 c17
        refine aw_iconst hX dX6_readExpression_82 zk_1 ?_
        refine aw_goto (tgt := 104) hX dX6_readExpression_83 (by decide) ?_
        refine aw_istore (L' := [some (.ref (X.G.ad 6 0)), some (.int x1), some (.int x2), some (.int x3), some (.int x4), some (.int r3), some (.int (1 : Int32))]) hX dX6_readExpression_104 (Nat.le_of_ble_eq_true rfl) rfl ?_
        refine aw_iload hX dX6_readExpression_106 rfl ?_
        refine aw_if_eq (tgt := 115) hX dX6_readExpression_108 (by decide) (fun c20 => absurd c20 (by decide)) (fun _ => ?_)
        refine aw_iconst hX dX6_readExpression_111 zk_1 ?_
        refine aw_goto (tgt := 116) hX dX6_readExpression_112 (by decide) ?_
        refine aw_istore_n (L' := [some (.ref (X.G.ad 6 0)), some (.int x1), some (.int (1 : Int32)), some (.int x3), some (.int x4), some (.int r3), some (.int (1 : Int32))]) hX dX6_readExpression_116 (Nat.le_of_ble_eq_true rfl) rfl ?_
        obtain ⟨v21, ev21⟩ : ∃ y : Int32, y = x3 + (1 : Int32) := ⟨_, rfl⟩
        have k := k v21 ev21
        refine aw_iinc (v := v21) (L' := [some (.ref (X.G.ad 6 0)), some (.int x1), some (.int (1 : Int32)), some (.int v21), some (.int x4), some (.int r3), some (.int (1 : Int32))]) hX dX6_readExpression_117 rfl (by rw [ev21]; rfl) (Nat.le_of_ble_eq_true rfl) rfl ?_
        refine aw_goto (tgt := 8) hX dX6_readExpression_120 (by decide) ?_
        exact aw_less (zle_s (zle_s (zle_s (zle_s (zle_o (zle_o (zle_o zle_n))))))) k

set_option maxRecDepth 100000 in
set_option maxHeartbeats 4000000 in
theorem st_X6_readPart_0 {X : zX} {lv : Nat} {Post : Option Value → zM → Prop} (hX : zOk X cX6_readPart RX6 8 lv) (hr : zRt X (some .int) Post) (hE : zHas X.G)  {x1 : Int32} {μ : zM}
    (k : zCallI X lv yX5_isNumber cX5_isNumber 1 (some .boolean) [.ref (X.G.ad 5 0)] μ (fun (r1 : Int32) μ2 => zCallI X lv yX5_isWord cX5_isWord 2 (some .boolean) [.ref (X.G.ad 5 0), .ref (X.G.aw 25)] μ2 (fun (r3 : Int32) μ4 => zCallR X lv yX5_word cX5_word 1 (some ((.object "RainLoans$Word"))) [.ref (X.G.ad 5 0)] μ4 (fun (r5 : Nat) μ6 => (r5 < 28) ∧ (∀ v8 : Int32, v8 = (zWf.getD r5 0) → ((¬ r1 = 0 → ((x1 < (5 : Int32) → (AW X 75 [some (.ref (X.G.ad 6 0)), some (.int x1), some (.int r1), some (.int r3), some (.int v8), none, none, none] [] μ6)) ∧ (¬ x1 < (5 : Int32) → (zCallV X lv yX6_fail cX6_fail 2 none [.ref (X.G.ad 6 0), .int (5 : Int32)] μ6 (fun μ12 => AW X 75 [some (.ref (X.G.ad 6 0)), some (.int x1), some (.int r1), some (.int r3), some (.int v8), none, none, none] [] μ12))))) ∧ (r1 = 0 → ((¬ r3 = 0 → ((x1 < (5 : Int32) → (AW X 75 [some (.ref (X.G.ad 6 0)), some (.int x1), some (.int r1), some (.int r3), some (.int v8), none, none, none] [] μ6)) ∧ (¬ x1 < (5 : Int32) → (zCallV X lv yX6_fail cX6_fail 2 none [.ref (X.G.ad 6 0), .int (5 : Int32)] μ6 (fun μ16 => AW X 75 [some (.ref (X.G.ad 6 0)), some (.int x1), some (.int r1), some (.int r3), some (.int v8), none, none, none] [] μ16))))) ∧ (r3 = 0 → ((¬ v8 = (-1 : Int32) → ((x1 < (5 : Int32) → (AW X 75 [some (.ref (X.G.ad 6 0)), some (.int x1), some (.int r1), some (.int r3), some (.int v8), none, none, none] [] μ6)) ∧ (¬ x1 < (5 : Int32) → (zCallV X lv yX6_fail cX6_fail 2 none [.ref (X.G.ad 6 0), .int (5 : Int32)] μ6 (fun μ20 => AW X 75 [some (.ref (X.G.ad 6 0)), some (.int x1), some (.int r1), some (.int r3), some (.int v8), none, none, none] [] μ20))))) ∧ (v8 = (-1 : Int32) → (zCallI X lv yX5_isSign cX5_isSign 2 (some .boolean) [.ref (X.G.ad 5 0), .int (40 : Int32)] μ6 (fun (r21 : Int32) μ22 => (¬ r21 = 0 → ((x1 < (5 : Int32) → (AW X 75 [some (.ref (X.G.ad 6 0)), some (.int x1), some (.int r1), some (.int r3), some (.int v8), none, none, none] [] μ22)) ∧ (¬ x1 < (5 : Int32) → (zCallV X lv yX6_fail cX6_fail 2 none [.ref (X.G.ad 6 0), .int (5 : Int32)] μ22 (fun μ26 => AW X 75 [some (.ref (X.G.ad 6 0)), some (.int x1), some (.int r1), some (.int r3), some (.int v8), none, none, none] [] μ26))))) ∧ (r21 = 0 → (zCallV X lv yX6_fail cX6_fail 2 none [.ref (X.G.ad 6 0), .int (1 : Int32)] μ22 (fun μ28 => AW X 75 [some (.ref (X.G.ad 6 0)), some (.int x1), some (.int r1), some (.int r3), some (.int v8), none, none, none] [] μ28)))))))))))))))) :
    AW X 0 [some (.ref (X.G.ad 6 0)), some (.int x1), none, none, none, none, none, none] [] μ := by
  refine aw_aload_n hX dX6_readPart_0 rfl ?_
  refine aw_getr (o' := 0) hX kf_X6_12 sh_6 (by decide) rfl rfl dX6_readPart_1 ?_
  refine aw_invI (As := []) (rest := []) (κ := 5) (o := 0) (T := TX5) (N := 7) hX vc_X6_221 sh_5 (by decide) rfl rfl rfl (Nat.le_of_ble_eq_true rfl) dX6_readPart_4 k (fun r1 μ2 k => ?_)
  refine aw_istore_n (L' := [some (.ref (X.G.ad 6 0)), some (.int x1), some (.int r1), none, none, none, none, none]) hX dX6_readPart_7 (Nat.le_of_ble_eq_true rfl) rfl ?_
  refine aw_aload_n hX dX6_readPart_8 rfl ?_
  refine aw_getr (o' := 0) hX kf_X6_12 sh_6 (by decide) rfl rfl dX6_readPart_9 ?_
  refine aw_gsE (i := 25) (n := "NOT") hE hX (by decide) (by decide) ks_X6_257 dX6_readPart_12 ?_
  refine aw_invI (As := [.ref (X.G.aw 25)]) (rest := []) (κ := 5) (o := 0) (T := TX5) (N := 7) hX vc_X6_59 sh_5 (by decide) rfl rfl rfl (Nat.le_of_ble_eq_true rfl) dX6_readPart_15 k (fun r3 μ4 k => ?_)
  refine aw_istore_n (L' := [some (.ref (X.G.ad 6 0)), some (.int x1), some (.int r1), some (.int r3), none, none, none, none]) hX dX6_readPart_18 (Nat.le_of_ble_eq_true rfl) rfl ?_
  refine aw_aload_n hX dX6_readPart_19 rfl ?_
  refine aw_getr (o' := 0) hX kf_X6_12 sh_6 (by decide) rfl rfl dX6_readPart_20 ?_
  refine aw_invR (As := []) (rest := []) (κ := 5) (o := 0) (T := TX5) (N := 7) hX vc_X6_234 sh_5 (by decide) rfl rfl rfl (Nat.le_of_ble_eq_true rfl) dX6_readPart_23 k (fun r5 μ6 k => ?_)
  have s7 := k.1
  have k := k.2
  refine aw_gEf hE hX s7 ks_X6_260 dX6_readPart_26 ?_
  refine aw_topi (fun v8 ev8 => ?_)
  have k := k v8 ev8
  refine aw_istore (L' := [some (.ref (X.G.ad 6 0)), some (.int x1), some (.int r1), some (.int r3), some (.int v8), none, none, none]) hX dX6_readPart_29 (Nat.le_of_ble_eq_true rfl) rfl ?_
  refine aw_iload_n hX dX6_readPart_31 rfl ?_
  refine aw_if_ne (tgt := 65) hX dX6_readPart_32 (by decide) (fun c9 => ?_) (fun c9 => ?_)
  · have k := k.1 c9
    refine aw_iload_n hX dX6_readPart_65 rfl ?_
    refine aw_iconst hX dX6_readPart_66 zk_5 ?_
    refine aw_icmp_lt (tgt := 75) hX dX6_readPart_67 (by decide) (fun c10 => ?_) (fun c10 => ?_)
    · have k := k.1 c10
      exact k
    · have k := k.2 c10
      refine aw_aload_n hX dX6_readPart_70 rfl ?_
      refine aw_iconst hX dX6_readPart_71 zk_5 ?_
      refine aw_invV (As := [.int (5 : Int32)]) (rest := []) (κ := 6) (o := 0) (T := TX6) (N := 6) hX vc_X6_84 sh_6 (by decide) rfl rfl rfl (Nat.le_of_ble_eq_true rfl) dX6_readPart_72 k (fun μ12 k => ?_)
      exact k
  · have k := k.2 c9
    refine aw_iload_n hX dX6_readPart_35 rfl ?_
    refine aw_if_ne (tgt := 65) hX dX6_readPart_36 (by decide) (fun c13 => ?_) (fun c13 => ?_)
    · have k := k.1 c13
      refine aw_iload_n hX dX6_readPart_65 rfl ?_
      refine aw_iconst hX dX6_readPart_66 zk_5 ?_
      refine aw_icmp_lt (tgt := 75) hX dX6_readPart_67 (by decide) (fun c14 => ?_) (fun c14 => ?_)
      · have k := k.1 c14
        exact k
      · have k := k.2 c14
        refine aw_aload_n hX dX6_readPart_70 rfl ?_
        refine aw_iconst hX dX6_readPart_71 zk_5 ?_
        refine aw_invV (As := [.int (5 : Int32)]) (rest := []) (κ := 6) (o := 0) (T := TX6) (N := 6) hX vc_X6_84 sh_6 (by decide) rfl rfl rfl (Nat.le_of_ble_eq_true rfl) dX6_readPart_72 k (fun μ16 k => ?_)
        exact k
    · have k := k.2 c13
      refine aw_iload hX dX6_readPart_39 rfl ?_
      refine aw_iconst hX dX6_readPart_41 zk_m1 ?_
      refine aw_icmp_ne (tgt := 65) hX dX6_readPart_42 (by decide) (fun c17 => ?_) (fun c17 => ?_)
      · have k := k.1 c17
        refine aw_iload_n hX dX6_readPart_65 rfl ?_
        refine aw_iconst hX dX6_readPart_66 zk_5 ?_
        refine aw_icmp_lt (tgt := 75) hX dX6_readPart_67 (by decide) (fun c18 => ?_) (fun c18 => ?_)
        · have k := k.1 c18
          exact k
        · have k := k.2 c18
          refine aw_aload_n hX dX6_readPart_70 rfl ?_
          refine aw_iconst hX dX6_readPart_71 zk_5 ?_
          refine aw_invV (As := [.int (5 : Int32)]) (rest := []) (κ := 6) (o := 0) (T := TX6) (N := 6) hX vc_X6_84 sh_6 (by decide) rfl rfl rfl (Nat.le_of_ble_eq_true rfl) dX6_readPart_72 k (fun μ20 k => ?_)
          exact k
      · have k := k.2 c17
        refine aw_aload_n hX dX6_readPart_45 rfl ?_
        refine aw_getr (o' := 0) hX kf_X6_12 sh_6 (by decide) rfl rfl dX6_readPart_46 ?_
        refine aw_bipush hX dX6_readPart_49 zb_40 ?_
        refine aw_invI (As := [.int (40 : Int32)]) (rest := []) (κ := 5) (o := 0) (T := TX5) (N := 7) hX vc_X6_217 sh_5 (by decide) rfl rfl rfl (Nat.le_of_ble_eq_true rfl) dX6_readPart_51 k (fun r21 μ22 k => ?_)
        refine aw_if_ne (tgt := 65) hX dX6_readPart_54 (by decide) (fun c23 => ?_) (fun c23 => ?_)
        · have k := k.1 c23
          refine aw_iload_n hX dX6_readPart_65 rfl ?_
          refine aw_iconst hX dX6_readPart_66 zk_5 ?_
          refine aw_icmp_lt (tgt := 75) hX dX6_readPart_67 (by decide) (fun c24 => ?_) (fun c24 => ?_)
          · have k := k.1 c24
            exact k
          · have k := k.2 c24
            refine aw_aload_n hX dX6_readPart_70 rfl ?_
            refine aw_iconst hX dX6_readPart_71 zk_5 ?_
            refine aw_invV (As := [.int (5 : Int32)]) (rest := []) (κ := 6) (o := 0) (T := TX6) (N := 6) hX vc_X6_84 sh_6 (by decide) rfl rfl rfl (Nat.le_of_ble_eq_true rfl) dX6_readPart_72 k (fun μ26 k => ?_)
            exact k
        · have k := k.2 c23
          refine aw_aload_n hX dX6_readPart_57 rfl ?_
          refine aw_iconst hX dX6_readPart_58 zk_1 ?_
          refine aw_invV (As := [.int (1 : Int32)]) (rest := []) (κ := 6) (o := 0) (T := TX6) (N := 6) hX vc_X6_84 sh_6 (by decide) rfl rfl rfl (Nat.le_of_ble_eq_true rfl) dX6_readPart_59 k (fun μ28 k => ?_)
          refine aw_goto (tgt := 75) hX dX6_readPart_62 (by decide) ?_
          exact k

set_option maxRecDepth 100000 in
set_option maxHeartbeats 4000000 in
theorem st_X6_readPart_75 {X : zX} {lv : Nat} {Post : Option Value → zM → Prop} (hX : zOk X cX6_readPart RX6 8 lv) (hr : zRt X (some .int) Post)  {x1 : Int32} {x2 : Int32} {x3 : Int32} {x4 : Int32} {μ : zM}
    (k : ((μ.1 6 0 2) = 0 → (zCallJ X lv yX5_value cX5_value 1 (some .long) [.ref (X.G.ad 5 0)] μ (fun (r2 : Int64) μ3 => zCallV X lv yX5_readOn cX5_readOn 1 none [.ref (X.G.ad 5 0)] μ3 (fun μ5 => (x2 = 0 → ((x4 = (-1 : Int32) → ((x3 = 0 → (zCallI X lv yX6_readExpression cX6_readExpression 7 (some .int) [.ref (X.G.ad 6 0), .int (x1 + (1 : Int32))] μ5 (fun (r9 : Int32) μ10 => zCallV X lv yX6_readSign cX6_readSign 2 none [.ref (X.G.ad 6 0), .int (41 : Int32)] μ10 (fun μ12 => Post (some (.int r9)) μ12)))) ∧ (¬ x3 = 0 → (zCallI X lv yX6_readPart cX6_readPart 8 (some .int) [.ref (X.G.ad 6 0), .int (x1 + (1 : Int32))] μ5 (fun (r13 : Int32) μ14 => (¬ r13 = 0 → (Post (some (.int (0 : Int32))) μ14)) ∧ (r13 = 0 → (Post (some (.int (1 : Int32))) μ14))))))) ∧ (¬ x4 = (-1 : Int32) → (zCallI X lv yX6_factNow cX6_factNow 2 (some .int) [.ref (X.G.ad 6 0), .int x4] μ5 (fun (r16 : Int32) μ17 => Post (some (.int r16)) μ17))))) ∧ (¬ x2 = 0 → (Post (some (.int (Int64.toInt32 r2))) μ5)))))) ∧ (¬ (μ.1 6 0 2) = 0 → (Post (some (.int (0 : Int32))) μ))) :
    AW X 75 [some (.ref (X.G.ad 6 0)), some (.int x1), some (.int x2), some (.int x3), some (.int x4), none, none, none] [] μ := by
  refine aw_aload_n hX dX6_readPart_75 rfl ?_
  refine aw_geti hX kf_X6_32 sh_6 (by decide) rfl dX6_readPart_76 ?_
  refine aw_if_eq (tgt := 84) hX dX6_readPart_79 (by decide) (fun c1 => ?_) (fun c1 => ?_)
  · have k := k.1 c1
    refine aw_aload_n hX dX6_readPart_84 rfl ?_
    refine aw_getr (o' := 0) hX kf_X6_12 sh_6 (by decide) rfl rfl dX6_readPart_85 ?_
    refine aw_invJ (As := []) (rest := []) (κ := 5) (o := 0) (T := TX5) (N := 7) hX vc_X6_224 sh_5 (by decide) rfl rfl rfl (Nat.le_of_ble_eq_true rfl) dX6_readPart_88 k (fun r2 μ3 k => ?_)
    refine aw_lstore (L' := [some (.ref (X.G.ad 6 0)), some (.int x1), some (.int x2), some (.int x3), some (.int x4), some (.long r2), none, none]) hX dX6_readPart_91 (Nat.le_of_ble_eq_true rfl) rfl ?_
    refine aw_aload_n hX dX6_readPart_93 rfl ?_
    refine aw_getr (o' := 0) hX kf_X6_12 sh_6 (by decide) rfl rfl dX6_readPart_94 ?_
    refine aw_invV (As := []) (rest := []) (κ := 5) (o := 0) (T := TX5) (N := 7) hX vc_X6_91 sh_5 (by decide) rfl rfl rfl (Nat.le_of_ble_eq_true rfl) dX6_readPart_97 k (fun μ5 k => ?_)
    refine aw_iload_n hX dX6_readPart_100 rfl ?_
    refine aw_if_eq (tgt := 108) hX dX6_readPart_101 (by decide) (fun c6 => ?_) (fun c6 => ?_)
    · have k := k.1 c6
      refine aw_iload hX dX6_readPart_108 rfl ?_
      refine aw_iconst hX dX6_readPart_110 zk_m1 ?_
      refine aw_icmp_eq (tgt := 121) hX dX6_readPart_111 (by decide) (fun c7 => ?_) (fun c7 => ?_)
      · have k := k.1 c7
        refine aw_iload_n hX dX6_readPart_121 rfl ?_
        refine aw_if_eq (tgt := 141) hX dX6_readPart_122 (by decide) (fun c8 => ?_) (fun c8 => ?_)
        · have k := k.1 c8
          refine aw_aload_n hX dX6_readPart_141 rfl ?_
          refine aw_iload_n hX dX6_readPart_142 rfl ?_
          refine aw_iconst hX dX6_readPart_143 zk_1 ?_
          refine aw_iadd hX dX6_readPart_144 ?_
          refine aw_invI (As := [.int (x1 + (1 : Int32))]) (rest := []) (κ := 6) (o := 0) (T := TX6) (N := 6) hX vc_X6_213 sh_6 (by decide) rfl rfl rfl (Nat.le_of_ble_eq_true rfl) dX6_readPart_145 k (fun r9 μ10 k => ?_)
          refine aw_istore (L' := [some (.ref (X.G.ad 6 0)), some (.int x1), some (.int x2), some (.int x3), some (.int x4), some (.long r2), none, some (.int r9)]) hX dX6_readPart_148 (Nat.le_of_ble_eq_true rfl) rfl ?_
          refine aw_aload_n hX dX6_readPart_150 rfl ?_
          refine aw_bipush hX dX6_readPart_151 zb_41 ?_
          refine aw_invV (As := [.int (41 : Int32)]) (rest := []) (κ := 6) (o := 0) (T := TX6) (N := 6) hX vc_X6_119 sh_6 (by decide) rfl rfl rfl (Nat.le_of_ble_eq_true rfl) dX6_readPart_153 k (fun μ12 k => ?_)
          refine aw_iload hX dX6_readPart_156 rfl ?_
          exact aw_iret hX hr dX6_readPart_158 k
        · have k := k.2 c8
          refine aw_aload_n hX dX6_readPart_125 rfl ?_
          refine aw_iload_n hX dX6_readPart_126 rfl ?_
          refine aw_iconst hX dX6_readPart_127 zk_1 ?_
          refine aw_iadd hX dX6_readPart_128 ?_
          refine aw_invI (As := [.int (x1 + (1 : Int32))]) (rest := []) (κ := 6) (o := 0) (T := TX6) (N := 6) hX vc_X6_254 sh_6 (by decide) rfl rfl rfl (Nat.le_of_ble_eq_true rfl) dX6_readPart_129 k (fun r13 μ14 k => ?_)
          refine aw_if_ne (tgt := 139) hX dX6_readPart_132 (by decide) (fun c15 => ?_) (fun c15 => ?_)
          · have k := k.1 c15
            refine aw_iconst hX dX6_readPart_139 zk_0 ?_
            exact aw_iret hX hr dX6_readPart_140 k
          · have k := k.2 c15
            refine aw_iconst hX dX6_readPart_135 zk_1 ?_
            refine aw_goto (tgt := 140) hX dX6_readPart_136 (by decide) ?_
            exact aw_iret hX hr dX6_readPart_140 k
      · have k := k.2 c7
        refine aw_aload_n hX dX6_readPart_114 rfl ?_
        refine aw_iload hX dX6_readPart_115 rfl ?_
        refine aw_invI (As := [.int x4]) (rest := []) (κ := 6) (o := 0) (T := TX6) (N := 6) hX vc_X6_263 sh_6 (by decide) rfl rfl rfl (Nat.le_of_ble_eq_true rfl) dX6_readPart_117 k (fun r16 μ17 k => ?_)
        exact aw_iret hX hr dX6_readPart_120 k
    · have k := k.2 c6
      refine aw_lload hX dX6_readPart_104 rfl ?_
      refine aw_l2i hX dX6_readPart_106 ?_
      exact aw_iret hX hr dX6_readPart_107 k
  · have k := k.2 c1
    refine aw_iconst hX dX6_readPart_82 zk_0 ?_
    exact aw_iret hX hr dX6_readPart_83 k

