set_option maxRecDepth 100000 in
set_option maxHeartbeats 4000000 in
theorem st_X10_feed_0 {X : zX} {lv : Nat} {Post : Option Value → zM → Prop} (hX : zOk X cX10_feed RX10 7 lv) (hr : zRt X (some .int) Post)  {x1 : Int64} {x3 : Int64} {x5 : Int64} {μ : zM}
    (k : zCallV X lv yX5_addBytes cX5_addBytes 5 none [.ref (X.G.ad 5 0), .long x1] μ (fun μ2 => zCallV X lv yX5_addBytes cX5_addBytes 5 none [.ref (X.G.ad 5 0), .long x3] μ2 (fun μ4 => zCallV X lv yX5_addBytes cX5_addBytes 5 none [.ref (X.G.ad 5 0), .long x5] μ4 (fun μ6 => Post (some (.int (μ6.1 5 0 0))) μ6)))) :
    AW X 0 [some (.ref (X.G.ad 10 0)), some (.long x1), none, some (.long x3), none, some (.long x5), none] [] μ := by
  refine aw_aload_n hX dX10_feed_0 rfl ?_
  refine aw_getr (o' := 0) hX kf_X10_10 sh_10 (by decide) rfl rfl dX10_feed_1 ?_
  refine aw_getr (o' := 0) hX kf_X10_58 sh_6 (by decide) rfl rfl dX10_feed_4 ?_
  refine aw_lload_n hX dX10_feed_7 rfl ?_
  refine aw_invV (As := [.long x1]) (rest := []) (κ := 5) (o := 0) (T := TX5) (N := 7) hX vc_X10_62 sh_5 (by decide) rfl rfl rfl (Nat.le_of_ble_eq_true rfl) dX10_feed_8 k (fun μ2 k => ?_)
  refine aw_aload_n hX dX10_feed_11 rfl ?_
  refine aw_getr (o' := 0) hX kf_X10_10 sh_10 (by decide) rfl rfl dX10_feed_12 ?_
  refine aw_getr (o' := 0) hX kf_X10_58 sh_6 (by decide) rfl rfl dX10_feed_15 ?_
  refine aw_lload_n hX dX10_feed_18 rfl ?_
  refine aw_invV (As := [.long x3]) (rest := []) (κ := 5) (o := 0) (T := TX5) (N := 7) hX vc_X10_62 sh_5 (by decide) rfl rfl rfl (Nat.le_of_ble_eq_true rfl) dX10_feed_19 k (fun μ4 k => ?_)
  refine aw_aload_n hX dX10_feed_22 rfl ?_
  refine aw_getr (o' := 0) hX kf_X10_10 sh_10 (by decide) rfl rfl dX10_feed_23 ?_
  refine aw_getr (o' := 0) hX kf_X10_58 sh_6 (by decide) rfl rfl dX10_feed_26 ?_
  refine aw_lload hX dX10_feed_29 rfl ?_
  refine aw_invV (As := [.long x5]) (rest := []) (κ := 5) (o := 0) (T := TX5) (N := 7) hX vc_X10_62 sh_5 (by decide) rfl rfl rfl (Nat.le_of_ble_eq_true rfl) dX10_feed_31 k (fun μ6 k => ?_)
  refine aw_aload_n hX dX10_feed_34 rfl ?_
  refine aw_getr (o' := 0) hX kf_X10_10 sh_10 (by decide) rfl rfl dX10_feed_35 ?_
  refine aw_getr (o' := 0) hX kf_X10_58 sh_6 (by decide) rfl rfl dX10_feed_38 ?_
  refine aw_geti hX kf_X10_68 sh_5 (by decide) rfl dX10_feed_41 ?_
  exact aw_iret hX hr dX10_feed_44 k

set_option maxRecDepth 100000 in
set_option maxHeartbeats 4000000 in
theorem st_X10_custom_0 {X : zX} {lv : Nat} {Post : Option Value → zM → Prop} (hX : zOk X cX10_custom RX10 2 lv) (hr : zRt X (some .int) Post)   {μ : zM}
    (k : zCallI X lv yX6_readTape cX6_readTape 2 (some .int) [.ref (X.G.ad 6 0)] μ (fun (r1 : Int32) μ2 => zCallV X lv yX5_empty cX5_empty 1 none [.ref (X.G.ad 5 0)] μ2 (fun μ4 => (¬ r1 = 0 → (Post (some (.int r1)) μ4)) ∧ (r1 = 0 → (zCallV X lv yX2_copyFrom cX2_copyFrom 3 none [.ref (X.G.ad 2 0), .ref (X.G.ad 2 1)] μ4 (fun μ7 => zCallV X lv yX1_open cX1_open 3 none [.ref (X.G.ad 1 0), .ref (X.G.ad 2 0)] μ7 (fun μ9 => zCallV X lv yX4_forget cX4_forget 1 none [.ref (X.G.ad 4 0)] μ9 (fun μ11 => Post (some (.int r1)) μ11)))))))) :
    AW X 0 [some (.ref (X.G.ad 10 0)), none] [] μ := by
  refine aw_aload_n hX dX10_custom_0 rfl ?_
  refine aw_getr (o' := 0) hX kf_X10_10 sh_10 (by decide) rfl rfl dX10_custom_1 ?_
  refine aw_invI (As := []) (rest := []) (κ := 6) (o := 0) (T := TX6) (N := 6) hX vc_X10_72 sh_6 (by decide) rfl rfl rfl (Nat.le_of_ble_eq_true rfl) dX10_custom_4 k (fun r1 μ2 k => ?_)
  refine aw_istore_n (L' := [some (.ref (X.G.ad 10 0)), some (.int r1)]) hX dX10_custom_7 (Nat.le_of_ble_eq_true rfl) rfl ?_
  refine aw_aload_n hX dX10_custom_8 rfl ?_
  refine aw_getr (o' := 0) hX kf_X10_10 sh_10 (by decide) rfl rfl dX10_custom_9 ?_
  refine aw_getr (o' := 0) hX kf_X10_58 sh_6 (by decide) rfl rfl dX10_custom_12 ?_
  refine aw_invV (As := []) (rest := []) (κ := 5) (o := 0) (T := TX5) (N := 7) hX vc_X10_76 sh_5 (by decide) rfl rfl rfl (Nat.le_of_ble_eq_true rfl) dX10_custom_15 k (fun μ4 k => ?_)
  refine aw_iload_n hX dX10_custom_18 rfl ?_
  refine aw_if_ne (tgt := 54) hX dX10_custom_19 (by decide) (fun c5 => ?_) (fun c5 => ?_)
  · have k := k.1 c5
    refine aw_iload_n hX dX10_custom_54 rfl ?_
    exact aw_iret hX hr dX10_custom_55 k
  · have k := k.2 c5
    refine aw_aload_n hX dX10_custom_22 rfl ?_
    refine aw_getr (o' := 0) hX kf_X10_19 sh_10 (by decide) rfl rfl dX10_custom_23 ?_
    refine aw_aload_n hX dX10_custom_26 rfl ?_
    refine aw_getr (o' := 0) hX kf_X10_10 sh_10 (by decide) rfl rfl dX10_custom_27 ?_
    refine aw_getr (o' := 1) hX kf_X10_79 sh_6 (by decide) rfl rfl dX10_custom_30 ?_
    refine aw_invV (As := [.ref (X.G.ad 2 1)]) (rest := []) (κ := 2) (o := 0) (T := TX2) (N := 11) hX vc_X10_82 sh_2 (by decide) rfl rfl rfl (Nat.le_of_ble_eq_true rfl) dX10_custom_33 k (fun μ7 k => ?_)
    refine aw_aload_n hX dX10_custom_36 rfl ?_
    refine aw_getr (o' := 0) hX kf_X10_26 sh_10 (by decide) rfl rfl dX10_custom_37 ?_
    refine aw_aload_n hX dX10_custom_40 rfl ?_
    refine aw_getr (o' := 0) hX kf_X10_19 sh_10 (by decide) rfl rfl dX10_custom_41 ?_
    refine aw_invV (As := [.ref (X.G.ad 2 0)]) (rest := []) (κ := 1) (o := 0) (T := TX1) (N := 9) hX vc_X10_86 sh_1 (by decide) rfl rfl rfl (Nat.le_of_ble_eq_true rfl) dX10_custom_44 k (fun μ9 k => ?_)
    refine aw_aload_n hX dX10_custom_47 rfl ?_
    refine aw_getr (o' := 0) hX kf_X10_33 sh_10 (by decide) rfl rfl dX10_custom_48 ?_
    refine aw_invV (As := []) (rest := []) (κ := 4) (o := 0) (T := TX4) (N := 3) hX vc_X10_89 sh_4 (by decide) rfl rfl rfl (Nat.le_of_ble_eq_true rfl) dX10_custom_51 k (fun μ11 k => ?_)
    refine aw_iload_n hX dX10_custom_54 rfl ?_
    exact aw_iret hX hr dX10_custom_55 k

set_option maxRecDepth 100000 in
set_option maxHeartbeats 4000000 in
theorem st_X10_hill_0 {X : zX} {lv : Nat} {Post : Option Value → zM → Prop} (hX : zOk X cX10_hill RX10 3 lv) (hr : zRt X (some .int) Post)  {x1 : Int32} {x2 : Int32} {μ : zM}
    (k : zCallI X lv yX2_isHill cX2_isHill 2 (some .boolean) [.ref (X.G.ad 2 0), .int x1] μ (fun (r1 : Int32) μ2 => (¬ r1 = 0 → ((x2 = (0 : Int32) → ((vp_in x1 4) ∧ (Post (some (.int (μ2.1 19 0 (ix x1)))) μ2))) ∧ (¬ x2 = (0 : Int32) → (x2 = (1 : Int32) → ((vp_in x1 4) ∧ (Post (some (.int (μ2.1 20 0 (ix x1)))) μ2))) ∧ (¬ x2 = (1 : Int32) → (x2 = (2 : Int32) → (Post (some (.int (((μ2.1 1 0 2) >>> (x1 &&& 31)) &&& (1 : Int32)))) μ2)) ∧ (¬ x2 = (2 : Int32) → (Post (some (.int (-1 : Int32))) μ2)))))) ∧ (r1 = 0 → (Post (some (.int (-1 : Int32))) μ2)))) :
    AW X 0 [some (.ref (X.G.ad 10 0)), some (.int x1), some (.int x2)] [] μ := by
  refine aw_aload_n hX dX10_hill_0 rfl ?_
  refine aw_getr (o' := 0) hX kf_X10_19 sh_10 (by decide) rfl rfl dX10_hill_1 ?_
  refine aw_iload_n hX dX10_hill_4 rfl ?_
  refine aw_invI (As := [.int x1]) (rest := []) (κ := 2) (o := 0) (T := TX2) (N := 11) hX vc_X10_92 sh_2 (by decide) rfl rfl rfl (Nat.le_of_ble_eq_true rfl) dX10_hill_5 k (fun r1 μ2 k => ?_)
  refine aw_if_ne (tgt := 13) hX dX10_hill_8 (by decide) (fun c3 => ?_) (fun c3 => ?_)
  · have k := k.1 c3
    refine aw_iload_n hX dX10_hill_13 rfl ?_
    by_cases c4 : x2 = (0 : Int32)
    · have k := k.1 c4
      refine aw_tsIn (tgt := 40) (off := 26) hX dX10_hill_14 (by rw [c4]; decide) (by rw [c4]; decide) (by rw [c4]; decide) (by decide) ?_
      refine aw_aload_n hX dX10_hill_40 rfl ?_
      refine aw_getr (o' := 0) hX kf_X10_19 sh_10 (by decide) rfl rfl dX10_hill_41 ?_
      refine aw_getr (o' := 0) hX kf_X10_96 sh_2 (by decide) rfl rfl dX10_hill_44 ?_
      refine aw_iload_n hX dX10_hill_47 rfl ?_
      have s5 := k.1
      have k := k.2
      refine aw_iald' (k := (ix x1)) hX sh_19 (by decide) s5 rfl dX10_hill_48 ?_
      exact aw_iret hX hr dX10_hill_49 k
    · have k := k.2 c4
      by_cases c6 : x2 = (1 : Int32)
      · have k := k.1 c6
        refine aw_tsIn (tgt := 50) (off := 36) hX dX10_hill_14 (by rw [c6]; decide) (by rw [c6]; decide) (by rw [c6]; decide) (by decide) ?_
        refine aw_aload_n hX dX10_hill_50 rfl ?_
        refine aw_getr (o' := 0) hX kf_X10_19 sh_10 (by decide) rfl rfl dX10_hill_51 ?_
        refine aw_getr (o' := 0) hX kf_X10_100 sh_2 (by decide) rfl rfl dX10_hill_54 ?_
        refine aw_iload_n hX dX10_hill_57 rfl ?_
        have s7 := k.1
        have k := k.2
        refine aw_iald' (k := (ix x1)) hX sh_20 (by decide) s7 rfl dX10_hill_58 ?_
        exact aw_iret hX hr dX10_hill_59 k
      · have k := k.2 c6
        by_cases c8 : x2 = (2 : Int32)
        · have k := k.1 c8
          refine aw_tsIn (tgt := 60) (off := 46) hX dX10_hill_14 (by rw [c8]; decide) (by rw [c8]; decide) (by rw [c8]; decide) (by decide) ?_
          refine aw_aload_n hX dX10_hill_60 rfl ?_
          refine aw_getr (o' := 0) hX kf_X10_26 sh_10 (by decide) rfl rfl dX10_hill_61 ?_
          refine aw_geti hX kf_X10_103 sh_1 (by decide) rfl dX10_hill_64 ?_
          refine aw_iload_n hX dX10_hill_67 rfl ?_
          refine aw_ishr hX dX10_hill_68 ?_
          refine aw_iconst hX dX10_hill_69 zk_1 ?_
          refine aw_iand hX dX10_hill_70 ?_
          exact aw_iret hX hr dX10_hill_71 k
        · have k := k.2 c8
          have qc4 : Int32.toInt x2 ≠ 0 := zne c4
          have qc6 : Int32.toInt x2 ≠ 1 := zne c6
          have qc8 : Int32.toInt x2 ≠ 2 := zne c8
          refine aw_tsOut (tgt := 72) hX dX10_hill_14 (by omega) (by decide) ?_
          refine aw_iconst hX dX10_hill_72 zk_m1 ?_
          exact aw_iret hX hr dX10_hill_73 k
  · have k := k.2 c3
    refine aw_iconst hX dX10_hill_11 zk_m1 ?_
    exact aw_iret hX hr dX10_hill_12 k

set_option maxRecDepth 100000 in
set_option maxHeartbeats 4000000 in
theorem st_X10_loan_0 {X : zX} {lv : Nat} {Post : Option Value → zM → Prop} (hX : zOk X cX10_loan RX10 4 lv) (hr : zRt X (some .int) Post)  {x1 : Int32} {x2 : Int32} {μ : zM}
    (k : zCallI X lv yX2_isLoan cX2_isLoan 2 (some .boolean) [.ref (X.G.ad 2 0), .int x1] μ (fun (r1 : Int32) μ2 => (¬ r1 = 0 → ((vp_in x1 10) ∧ ((x2 = (0 : Int32) → (Post (some (.int (μ2.1 7 (0 + (ix x1)) 0))) μ2)) ∧ (¬ x2 = (0 : Int32) → (x2 = (1 : Int32) → (Post (some (.int (μ2.1 7 (0 + (ix x1)) 1))) μ2)) ∧ (¬ x2 = (1 : Int32) → (x2 = (2 : Int32) → (Post (some (.int (μ2.1 15 0 (ix x1)))) μ2)) ∧ (¬ x2 = (2 : Int32) → (x2 = (3 : Int32) → (Post (some (.int (μ2.1 16 0 (ix x1)))) μ2)) ∧ (¬ x2 = (3 : Int32) → (x2 = (4 : Int32) → (Post (some (.int (μ2.1 17 0 (ix x1)))) μ2)) ∧ (¬ x2 = (4 : Int32) → (x2 = (5 : Int32) → (Post (some (.int (μ2.1 7 (0 + (ix x1)) 6))) μ2)) ∧ (¬ x2 = (5 : Int32) → (x2 = (6 : Int32) → (Post (some (.int (μ2.1 7 (0 + (ix x1)) 7))) μ2)) ∧ (¬ x2 = (6 : Int32) → (x2 = (7 : Int32) → (Post (some (.int (μ2.1 18 0 (ix x1)))) μ2)) ∧ (¬ x2 = (7 : Int32) → (Post (some (.int (-1 : Int32))) μ2)))))))))))) ∧ (r1 = 0 → (Post (some (.int (-1 : Int32))) μ2)))) :
    AW X 0 [some (.ref (X.G.ad 10 0)), some (.int x1), some (.int x2), none] [] μ := by
  refine aw_aload_n hX dX10_loan_0 rfl ?_
  refine aw_getr (o' := 0) hX kf_X10_19 sh_10 (by decide) rfl rfl dX10_loan_1 ?_
  refine aw_iload_n hX dX10_loan_4 rfl ?_
  refine aw_invI (As := [.int x1]) (rest := []) (κ := 2) (o := 0) (T := TX2) (N := 11) hX vc_X10_119 sh_2 (by decide) rfl rfl rfl (Nat.le_of_ble_eq_true rfl) dX10_loan_5 k (fun r1 μ2 k => ?_)
  refine aw_if_ne (tgt := 13) hX dX10_loan_8 (by decide) (fun c3 => ?_) (fun c3 => ?_)
  · have k := k.1 c3
    refine aw_aload_n hX dX10_loan_13 rfl ?_
    refine aw_getr (o' := 0) hX kf_X10_19 sh_10 (by decide) rfl rfl dX10_loan_14 ?_
    refine aw_getr (o' := 0) hX kf_X10_122 sh_2 (by decide) rfl rfl dX10_loan_17 ?_
    refine aw_iload_n hX dX10_loan_20 rfl ?_
    have s4 := k.1
    have k := k.2
    refine aw_aald' (k := (ix x1)) (o' := (0 + (ix x1))) (C := "RainLoans$Terms") hX sh_22 (by decide) rfl s4 rfl rfl dX10_loan_21 ?_
    have w5 : (0 + (ix x1)) < 60 := by have := zix s4; omega
    refine aw_astore_n (L' := [some (.ref (X.G.ad 10 0)), some (.int x1), some (.int x2), some (.ref (X.G.ad 7 (0 + (ix x1))))]) hX dX10_loan_22 (Nat.le_of_ble_eq_true rfl) rfl ?_
    refine aw_iload_n hX dX10_loan_23 rfl ?_
    by_cases c6 : x2 = (0 : Int32)
    · have k := k.1 c6
      refine aw_tsIn (tgt := 72) (off := 48) hX dX10_loan_24 (by rw [c6]; decide) (by rw [c6]; decide) (by rw [c6]; decide) (by decide) ?_
      refine aw_aload_n hX dX10_loan_72 rfl ?_
      refine aw_geti hX kf_X10_126 sh_7 w5 rfl dX10_loan_73 ?_
      exact aw_iret hX hr dX10_loan_76 k
    · have k := k.2 c6
      by_cases c7 : x2 = (1 : Int32)
      · have k := k.1 c7
        refine aw_tsIn (tgt := 77) (off := 53) hX dX10_loan_24 (by rw [c7]; decide) (by rw [c7]; decide) (by rw [c7]; decide) (by decide) ?_
        refine aw_aload_n hX dX10_loan_77 rfl ?_
        refine aw_geti hX kf_X10_131 sh_7 w5 rfl dX10_loan_78 ?_
        exact aw_iret hX hr dX10_loan_81 k
      · have k := k.2 c7
        by_cases c8 : x2 = (2 : Int32)
        · have k := k.1 c8
          refine aw_tsIn (tgt := 82) (off := 58) hX dX10_loan_24 (by rw [c8]; decide) (by rw [c8]; decide) (by rw [c8]; decide) (by decide) ?_
          refine aw_aload_n hX dX10_loan_82 rfl ?_
          refine aw_getr (o' := 0) hX kf_X10_26 sh_10 (by decide) rfl rfl dX10_loan_83 ?_
          refine aw_getr (o' := 0) hX kf_X10_134 sh_1 (by decide) rfl rfl dX10_loan_86 ?_
          refine aw_iload_n hX dX10_loan_89 rfl ?_
          refine aw_iald' (k := (ix x1)) hX sh_15 (by decide) s4 rfl dX10_loan_90 ?_
          exact aw_iret hX hr dX10_loan_91 k
        · have k := k.2 c8
          by_cases c9 : x2 = (3 : Int32)
          · have k := k.1 c9
            refine aw_tsIn (tgt := 92) (off := 68) hX dX10_loan_24 (by rw [c9]; decide) (by rw [c9]; decide) (by rw [c9]; decide) (by decide) ?_
            refine aw_aload_n hX dX10_loan_92 rfl ?_
            refine aw_getr (o' := 0) hX kf_X10_26 sh_10 (by decide) rfl rfl dX10_loan_93 ?_
            refine aw_getr (o' := 0) hX kf_X10_137 sh_1 (by decide) rfl rfl dX10_loan_96 ?_
            refine aw_iload_n hX dX10_loan_99 rfl ?_
            refine aw_iald' (k := (ix x1)) hX sh_16 (by decide) s4 rfl dX10_loan_100 ?_
            exact aw_iret hX hr dX10_loan_101 k
          · have k := k.2 c9
            by_cases c10 : x2 = (4 : Int32)
            · have k := k.1 c10
              refine aw_tsIn (tgt := 102) (off := 78) hX dX10_loan_24 (by rw [c10]; decide) (by rw [c10]; decide) (by rw [c10]; decide) (by decide) ?_
              refine aw_aload_n hX dX10_loan_102 rfl ?_
              refine aw_getr (o' := 0) hX kf_X10_26 sh_10 (by decide) rfl rfl dX10_loan_103 ?_
              refine aw_getr (o' := 0) hX kf_X10_140 sh_1 (by decide) rfl rfl dX10_loan_106 ?_
              refine aw_iload_n hX dX10_loan_109 rfl ?_
              refine aw_iald' (k := (ix x1)) hX sh_17 (by decide) s4 rfl dX10_loan_110 ?_
              exact aw_iret hX hr dX10_loan_111 k
            · have k := k.2 c10
              by_cases c11 : x2 = (5 : Int32)
              · have k := k.1 c11
                refine aw_tsIn (tgt := 112) (off := 88) hX dX10_loan_24 (by rw [c11]; decide) (by rw [c11]; decide) (by rw [c11]; decide) (by decide) ?_
                refine aw_aload_n hX dX10_loan_112 rfl ?_
                refine aw_geti hX kf_X10_143 sh_7 w5 rfl dX10_loan_113 ?_
                exact aw_iret hX hr dX10_loan_116 k
              · have k := k.2 c11
                by_cases c12 : x2 = (6 : Int32)
                · have k := k.1 c12
                  refine aw_tsIn (tgt := 117) (off := 93) hX dX10_loan_24 (by rw [c12]; decide) (by rw [c12]; decide) (by rw [c12]; decide) (by decide) ?_
                  refine aw_aload_n hX dX10_loan_117 rfl ?_
                  refine aw_geti hX kf_X10_146 sh_7 w5 rfl dX10_loan_118 ?_
                  exact aw_iret hX hr dX10_loan_121 k
                · have k := k.2 c12
                  by_cases c13 : x2 = (7 : Int32)
                  · have k := k.1 c13
                    refine aw_tsIn (tgt := 122) (off := 98) hX dX10_loan_24 (by rw [c13]; decide) (by rw [c13]; decide) (by rw [c13]; decide) (by decide) ?_
                    refine aw_aload_n hX dX10_loan_122 rfl ?_
                    refine aw_getr (o' := 0) hX kf_X10_26 sh_10 (by decide) rfl rfl dX10_loan_123 ?_
                    refine aw_getr (o' := 0) hX kf_X10_149 sh_1 (by decide) rfl rfl dX10_loan_126 ?_
                    refine aw_iload_n hX dX10_loan_129 rfl ?_
                    refine aw_iald' (k := (ix x1)) hX sh_18 (by decide) s4 rfl dX10_loan_130 ?_
                    exact aw_iret hX hr dX10_loan_131 k
                  · have k := k.2 c13
                    have qc6 : Int32.toInt x2 ≠ 0 := zne c6
                    have qc7 : Int32.toInt x2 ≠ 1 := zne c7
                    have qc8 : Int32.toInt x2 ≠ 2 := zne c8
                    have qc9 : Int32.toInt x2 ≠ 3 := zne c9
                    have qc10 : Int32.toInt x2 ≠ 4 := zne c10
                    have qc11 : Int32.toInt x2 ≠ 5 := zne c11
                    have qc12 : Int32.toInt x2 ≠ 6 := zne c12
                    have qc13 : Int32.toInt x2 ≠ 7 := zne c13
                    refine aw_tsOut (tgt := 132) hX dX10_loan_24 (by omega) (by decide) ?_
                    refine aw_iconst hX dX10_loan_132 zk_m1 ?_
                    exact aw_iret hX hr dX10_loan_133 k
  · have k := k.2 c3
    refine aw_iconst hX dX10_loan_11 zk_m1 ?_
    exact aw_iret hX hr dX10_loan_12 k

set_option maxRecDepth 100000 in
set_option maxHeartbeats 4000000 in
theorem st_X10_day_0 {X : zX} {lv : Nat} {Post : Option Value → zM → Prop} (hX : zOk X cX10_day RX10 2 lv) (hr : zRt X (some .int) Post)  {x1 : Int32} {μ : zM}
    (k : zCallI X lv yX2_isWeather cX2_isWeather 2 (some .boolean) [.ref (X.G.ad 2 0), .int x1] μ (fun (r1 : Int32) μ2 => (¬ r1 = 0 → (zCallV X lv yX4_keep cX4_keep 2 none [.ref (X.G.ad 4 0), .ref (X.G.ad 1 0)] μ2 (fun μ5 => zCallV X lv yX1_live cX1_live 4 none [.ref (X.G.ad 1 0), .ref (X.G.ad 2 0), .int x1] μ5 (fun μ7 => zCallI X lv yX1_loansAt cX1_loansAt 5 (some .int) [.ref (X.G.ad 1 0), .ref (X.G.ad 2 0), .int (1 : Int32)] μ7 (fun (r8 : Int32) μ9 => Post (some (.int r8)) μ9))))) ∧ (r1 = 0 → (Post (some (.int (-1 : Int32))) μ2)))) :
    AW X 0 [some (.ref (X.G.ad 10 0)), some (.int x1)] [] μ := by
  refine aw_aload_n hX dX10_day_0 rfl ?_
  refine aw_getr (o' := 0) hX kf_X10_19 sh_10 (by decide) rfl rfl dX10_day_1 ?_
  refine aw_iload_n hX dX10_day_4 rfl ?_
  refine aw_invI (As := [.int x1]) (rest := []) (κ := 2) (o := 0) (T := TX2) (N := 11) hX vc_X10_152 sh_2 (by decide) rfl rfl rfl (Nat.le_of_ble_eq_true rfl) dX10_day_5 k (fun r1 μ2 k => ?_)
  refine aw_if_ne (tgt := 13) hX dX10_day_8 (by decide) (fun c3 => ?_) (fun c3 => ?_)
  · have k := k.1 c3
    refine aw_aload_n hX dX10_day_13 rfl ?_
    refine aw_getr (o' := 0) hX kf_X10_33 sh_10 (by decide) rfl rfl dX10_day_14 ?_
    refine aw_aload_n hX dX10_day_17 rfl ?_
    refine aw_getr (o' := 0) hX kf_X10_26 sh_10 (by decide) rfl rfl dX10_day_18 ?_
    refine aw_invV (As := [.ref (X.G.ad 1 0)]) (rest := []) (κ := 4) (o := 0) (T := TX4) (N := 3) hX vc_X10_155 sh_4 (by decide) rfl rfl rfl (Nat.le_of_ble_eq_true rfl) dX10_day_21 k (fun μ5 k => ?_)
    refine aw_aload_n hX dX10_day_24 rfl ?_
    refine aw_getr (o' := 0) hX kf_X10_26 sh_10 (by decide) rfl rfl dX10_day_25 ?_
    refine aw_aload_n hX dX10_day_28 rfl ?_
    refine aw_getr (o' := 0) hX kf_X10_19 sh_10 (by decide) rfl rfl dX10_day_29 ?_
    refine aw_iload_n hX dX10_day_32 rfl ?_
    refine aw_invV (As := [.ref (X.G.ad 2 0), .int x1]) (rest := []) (κ := 1) (o := 0) (T := TX1) (N := 9) hX vc_X10_159 sh_1 (by decide) rfl rfl rfl (Nat.le_of_ble_eq_true rfl) dX10_day_33 k (fun μ7 k => ?_)
    refine aw_aload_n hX dX10_day_36 rfl ?_
    refine aw_getr (o' := 0) hX kf_X10_26 sh_10 (by decide) rfl rfl dX10_day_37 ?_
    refine aw_aload_n hX dX10_day_40 rfl ?_
    refine aw_getr (o' := 0) hX kf_X10_19 sh_10 (by decide) rfl rfl dX10_day_41 ?_
    refine aw_iconst hX dX10_day_44 zk_1 ?_
    refine aw_invI (As := [.ref (X.G.ad 2 0), .int (1 : Int32)]) (rest := []) (κ := 1) (o := 0) (T := TX1) (N := 9) hX vc_X10_163 sh_1 (by decide) rfl rfl rfl (Nat.le_of_ble_eq_true rfl) dX10_day_45 k (fun r8 μ9 k => ?_)
    exact aw_iret hX hr dX10_day_48 k
  · have k := k.2 c3
    refine aw_iconst hX dX10_day_11 zk_m1 ?_
    exact aw_iret hX hr dX10_day_12 k

set_option maxRecDepth 100000 in
set_option maxHeartbeats 4000000 in
theorem st_X10_early_0 {X : zX} {lv : Nat} {Post : Option Value → zM → Prop} (hX : zOk X cX10_early RX10 2 lv) (hr : zRt X (some .boolean) Post)  {x1 : Int32} {μ : zM}
    (k : zCallI X lv yX2_isLoan cX2_isLoan 2 (some .boolean) [.ref (X.G.ad 2 0), .int x1] μ (fun (r1 : Int32) μ2 => (r1 = 0 → (Post (some (.int (0 : Int32))) μ2)) ∧ (¬ r1 = 0 → (zCallI X lv yX1_canPayNow cX1_canPayNow 3 (some .boolean) [.ref (X.G.ad 1 0), .ref (X.G.ad 2 0), .int x1] μ2 (fun (r4 : Int32) μ5 => (¬ r4 = 0 → (zCallV X lv yX4_keep cX4_keep 2 none [.ref (X.G.ad 4 0), .ref (X.G.ad 1 0)] μ5 (fun μ8 => zCallV X lv yX1_payNow cX1_payNow 3 none [.ref (X.G.ad 1 0), .ref (X.G.ad 2 0), .int x1] μ8 (fun μ10 => Post (some (.int (1 : Int32))) μ10)))) ∧ (r4 = 0 → (Post (some (.int (0 : Int32))) μ5))))))) :
    AW X 0 [some (.ref (X.G.ad 10 0)), some (.int x1)] [] μ := by
  refine aw_aload_n hX dX10_early_0 rfl ?_
  refine aw_getr (o' := 0) hX kf_X10_19 sh_10 (by decide) rfl rfl dX10_early_1 ?_
  refine aw_iload_n hX dX10_early_4 rfl ?_
  refine aw_invI (As := [.int x1]) (rest := []) (κ := 2) (o := 0) (T := TX2) (N := 11) hX vc_X10_119 sh_2 (by decide) rfl rfl rfl (Nat.le_of_ble_eq_true rfl) dX10_early_5 k (fun r1 μ2 k => ?_)
  refine aw_if_eq (tgt := 26) hX dX10_early_8 (by decide) (fun c3 => ?_) (fun c3 => ?_)
  · have k := k.1 c3
    refine aw_iconst hX dX10_early_26 zk_0 ?_
    exact aw_zret hX hr (by decide) dX10_early_27 k
  · have k := k.2 c3
    refine aw_aload_n hX dX10_early_11 rfl ?_
    refine aw_getr (o' := 0) hX kf_X10_26 sh_10 (by decide) rfl rfl dX10_early_12 ?_
    refine aw_aload_n hX dX10_early_15 rfl ?_
    refine aw_getr (o' := 0) hX kf_X10_19 sh_10 (by decide) rfl rfl dX10_early_16 ?_
    refine aw_iload_n hX dX10_early_19 rfl ?_
    refine aw_invI (As := [.ref (X.G.ad 2 0), .int x1]) (rest := []) (κ := 1) (o := 0) (T := TX1) (N := 9) hX vc_X10_167 sh_1 (by decide) rfl rfl rfl (Nat.le_of_ble_eq_true rfl) dX10_early_20 k (fun r4 μ5 k => ?_)
    refine aw_if_ne (tgt := 28) hX dX10_early_23 (by decide) (fun c6 => ?_) (fun c6 => ?_)
    · have k := k.1 c6
      refine aw_aload_n hX dX10_early_28 rfl ?_
      refine aw_getr (o' := 0) hX kf_X10_33 sh_10 (by decide) rfl rfl dX10_early_29 ?_
      refine aw_aload_n hX dX10_early_32 rfl ?_
      refine aw_getr (o' := 0) hX kf_X10_26 sh_10 (by decide) rfl rfl dX10_early_33 ?_
      refine aw_invV (As := [.ref (X.G.ad 1 0)]) (rest := []) (κ := 4) (o := 0) (T := TX4) (N := 3) hX vc_X10_155 sh_4 (by decide) rfl rfl rfl (Nat.le_of_ble_eq_true rfl) dX10_early_36 k (fun μ8 k => ?_)
      refine aw_aload_n hX dX10_early_39 rfl ?_
      refine aw_getr (o' := 0) hX kf_X10_26 sh_10 (by decide) rfl rfl dX10_early_40 ?_
      refine aw_aload_n hX dX10_early_43 rfl ?_
      refine aw_getr (o' := 0) hX kf_X10_19 sh_10 (by decide) rfl rfl dX10_early_44 ?_
      refine aw_iload_n hX dX10_early_47 rfl ?_
      refine aw_invV (As := [.ref (X.G.ad 2 0), .int x1]) (rest := []) (κ := 1) (o := 0) (T := TX1) (N := 9) hX vc_X10_171 sh_1 (by decide) rfl rfl rfl (Nat.le_of_ble_eq_true rfl) dX10_early_48 k (fun μ10 k => ?_)
      refine aw_iconst hX dX10_early_51 zk_1 ?_
      exact aw_zret hX hr (by decide) dX10_early_52 k
    · have k := k.2 c6
      refine aw_iconst hX dX10_early_26 zk_0 ?_
      exact aw_zret hX hr (by decide) dX10_early_27 k

set_option maxRecDepth 100000 in
set_option maxHeartbeats 4000000 in
theorem st_X10_undo_0 {X : zX} {lv : Nat} {Post : Option Value → zM → Prop} (hX : zOk X cX10_undo RX10 1 lv) (hr : zRt X (some .boolean) Post)   {μ : zM}
    (k : zCallI X lv yX4_giveBack cX4_giveBack 2 (some .boolean) [.ref (X.G.ad 4 0), .ref (X.G.ad 1 0)] μ (fun (r1 : Int32) μ2 => narrow .boolean (.int r1) = .int r1 ∧ Post (some (.int r1)) μ2)) :
    AW X 0 [some (.ref (X.G.ad 10 0))] [] μ := by
  refine aw_aload_n hX dX10_undo_0 rfl ?_
  refine aw_getr (o' := 0) hX kf_X10_33 sh_10 (by decide) rfl rfl dX10_undo_1 ?_
  refine aw_aload_n hX dX10_undo_4 rfl ?_
  refine aw_getr (o' := 0) hX kf_X10_26 sh_10 (by decide) rfl rfl dX10_undo_5 ?_
  refine aw_invI (As := [.ref (X.G.ad 1 0)]) (rest := []) (κ := 4) (o := 0) (T := TX4) (N := 3) hX vc_X10_174 sh_4 (by decide) rfl rfl rfl (Nat.le_of_ble_eq_true rfl) dX10_undo_8 k (fun r1 μ2 k => ?_)
  exact aw_zret hX hr k.1 dX10_undo_11 k.2

set_option maxRecDepth 100000 in
set_option maxHeartbeats 4000000 in
theorem st_X10_ruined_0 {X : zX} {lv : Nat} {Post : Option Value → zM → Prop} (hX : zOk X cX10_ruined RX10 1 lv) (hr : zRt X (some .int) Post)   {μ : zM}
    (k : zCallI X lv yX1_brokenPersons cX1_brokenPersons 4 (some .int) [.ref (X.G.ad 1 0), .ref (X.G.ad 2 0)] μ (fun (r1 : Int32) μ2 => Post (some (.int r1)) μ2)) :
    AW X 0 [some (.ref (X.G.ad 10 0))] [] μ := by
  refine aw_aload_n hX dX10_ruined_0 rfl ?_
  refine aw_getr (o' := 0) hX kf_X10_26 sh_10 (by decide) rfl rfl dX10_ruined_1 ?_
  refine aw_aload_n hX dX10_ruined_4 rfl ?_
  refine aw_getr (o' := 0) hX kf_X10_19 sh_10 (by decide) rfl rfl dX10_ruined_5 ?_
  refine aw_invI (As := [.ref (X.G.ad 2 0)]) (rest := []) (κ := 1) (o := 0) (T := TX1) (N := 9) hX vc_X10_178 sh_1 (by decide) rfl rfl rfl (Nat.le_of_ble_eq_true rfl) dX10_ruined_8 k (fun r1 μ2 k => ?_)
  exact aw_iret hX hr dX10_ruined_11 k

set_option maxRecDepth 100000 in
set_option maxHeartbeats 4000000 in
theorem st_X10_worth_0 {X : zX} {lv : Nat} {Post : Option Value → zM → Prop} (hX : zOk X cX10_worth RX10 4 lv) (hr : zRt X (some .long) Post)  {x1 : Int32} {x2 : Int32} {x3 : Int32} {μ : zM}
    (k : zCallJ X lv yX10_share cX10_share 10 (some .long) [.ref (X.G.ad 10 0), .int (0 : Int32), .int x1, .int x2, .int x3] μ (fun (r1 : Int64) μ2 => Post (some (.long r1)) μ2)) :
    AW X 0 [some (.ref (X.G.ad 10 0)), some (.int x1), some (.int x2), some (.int x3)] [] μ := by
  refine aw_aload_n hX dX10_worth_0 rfl ?_
  refine aw_iconst hX dX10_worth_1 zk_0 ?_
  refine aw_iload_n hX dX10_worth_2 rfl ?_
  refine aw_iload_n hX dX10_worth_3 rfl ?_
  refine aw_iload_n hX dX10_worth_4 rfl ?_
  refine aw_invJ (As := [.int (0 : Int32), .int x1, .int x2, .int x3]) (rest := []) (κ := 10) (o := 0) (T := TX10) (N := 7) hX vc_X10_185 sh_10 (by decide) rfl rfl rfl (Nat.le_of_ble_eq_true rfl) dX10_worth_5 k (fun r1 μ2 k => ?_)
  exact aw_lret hX hr dX10_worth_8 k

set_option maxRecDepth 100000 in
set_option maxHeartbeats 4000000 in
theorem st_X10_chance_0 {X : zX} {lv : Nat} {Post : Option Value → zM → Prop} (hX : zOk X cX10_chance RX10 4 lv) (hr : zRt X (some .long) Post)  {x1 : Int32} {x2 : Int32} {x3 : Int32} {μ : zM}
    (k : zCallJ X lv yX10_share cX10_share 10 (some .long) [.ref (X.G.ad 10 0), .int (1 : Int32), .int x1, .int x2, .int x3] μ (fun (r1 : Int64) μ2 => Post (some (.long r1)) μ2)) :
    AW X 0 [some (.ref (X.G.ad 10 0)), some (.int x1), some (.int x2), some (.int x3)] [] μ := by
  refine aw_aload_n hX dX10_chance_0 rfl ?_
  refine aw_iconst hX dX10_chance_1 zk_1 ?_
  refine aw_iload_n hX dX10_chance_2 rfl ?_
  refine aw_iload_n hX dX10_chance_3 rfl ?_
  refine aw_iload_n hX dX10_chance_4 rfl ?_
  refine aw_invJ (As := [.int (1 : Int32), .int x1, .int x2, .int x3]) (rest := []) (κ := 10) (o := 0) (T := TX10) (N := 7) hX vc_X10_185 sh_10 (by decide) rfl rfl rfl (Nat.le_of_ble_eq_true rfl) dX10_chance_5 k (fun r1 μ2 k => ?_)
  exact aw_lret hX hr dX10_chance_8 k

set_option maxRecDepth 100000 in
set_option maxHeartbeats 4000000 in
theorem st_X10_share_0 {X : zX} {lv : Nat} {Post : Option Value → zM → Prop} (hX : zOk X cX10_share RX10 10 lv) (hr : zRt X (some .long) Post)  {x1 : Int32} {x2 : Int32} {x3 : Int32} {x4 : Int32} {μ : zM}
    (k : (x4 < 0 → (Post (some (.long (-1 : Int64))) μ)) ∧ (¬ x4 < 0 → (((1 : Int32) < x4 → (Post (some (.long (-1 : Int64))) μ)) ∧ (¬ (1 : Int32) < x4 → (zCallI X lv yX2_isLoan cX2_isLoan 2 (some .boolean) [.ref (X.G.ad 2 0), .int x2] μ (fun (r3 : Int32) μ4 => (r3 = 0 → (Post (some (.long (-1 : Int64))) μ4)) ∧ (¬ r3 = 0 → (zCallI X lv yX10_canLookAhead cX10_canLookAhead 2 (some .boolean) [.ref (X.G.ad 10 0), .int x3] μ4 (fun (r6 : Int32) μ7 => (¬ r6 = 0 → (zCallV X lv yX0_start cX0_start 2 none [.ref (X.G.ad 0 0), .ref (X.G.ad 1 0)] μ7 (fun μ10 => zCallJ X lv yX0_total cX0_total 5 (some .long) [.ref (X.G.ad 0 0), .ref (X.G.ad 2 0), .int x3, .int x1, .int x2] μ10 (fun (r11 : Int64) μ12 => AW X 67 [some (.ref (X.G.ad 10 0)), none, none, some (.int x3), some (.int x4), some (.long r11), none, some (.long (1 : Int64)), none, some (.int (0 : Int32))] [] μ12)))) ∧ (r6 = 0 → (Post (some (.long (-1 : Int64))) μ7))))))))))) :
    AW X 0 [some (.ref (X.G.ad 10 0)), some (.int x1), some (.int x2), some (.int x3), some (.int x4), none, none, none, none, none] [] μ := by
  refine aw_iload hX dX10_share_0 rfl ?_
  refine aw_if_lt (tgt := 30) hX dX10_share_2 (by decide) (fun c1 => ?_) (fun c1 => ?_)
  · have k := k.1 c1
    refine aw_ldc2 hX kl_X10_192 dX10_share_30 ?_
    exact aw_lret hX hr dX10_share_33 k
  · have k := k.2 c1
    refine aw_iload hX dX10_share_5 rfl ?_
    refine aw_iconst hX dX10_share_7 zk_1 ?_
    refine aw_icmp_gt (tgt := 30) hX dX10_share_8 (by decide) (fun c2 => ?_) (fun c2 => ?_)
    · have k := k.1 c2
      refine aw_ldc2 hX kl_X10_192 dX10_share_30 ?_
      exact aw_lret hX hr dX10_share_33 k
    · have k := k.2 c2
      refine aw_aload_n hX dX10_share_11 rfl ?_
      refine aw_getr (o' := 0) hX kf_X10_19 sh_10 (by decide) rfl rfl dX10_share_12 ?_
      refine aw_iload_n hX dX10_share_15 rfl ?_
      refine aw_invI (As := [.int x2]) (rest := []) (κ := 2) (o := 0) (T := TX2) (N := 11) hX vc_X10_119 sh_2 (by decide) rfl rfl rfl (Nat.le_of_ble_eq_true rfl) dX10_share_16 k (fun r3 μ4 k => ?_)
      refine aw_if_eq (tgt := 30) hX dX10_share_19 (by decide) (fun c5 => ?_) (fun c5 => ?_)
      · have k := k.1 c5
        refine aw_ldc2 hX kl_X10_192 dX10_share_30 ?_
        exact aw_lret hX hr dX10_share_33 k
      · have k := k.2 c5
        refine aw_aload_n hX dX10_share_22 rfl ?_
        refine aw_iload_n hX dX10_share_23 rfl ?_
        refine aw_invI (As := [.int x3]) (rest := []) (κ := 10) (o := 0) (T := TX10) (N := 7) hX vc_X10_189 sh_10 (by decide) rfl rfl rfl (Nat.le_of_ble_eq_true rfl) dX10_share_24 k (fun r6 μ7 k => ?_)
        refine aw_if_ne (tgt := 34) hX dX10_share_27 (by decide) (fun c8 => ?_) (fun c8 => ?_)
        · have k := k.1 c8
          refine aw_aload_n hX dX10_share_34 rfl ?_
          refine aw_getr (o' := 0) hX kf_X10_47 sh_10 (by decide) rfl rfl dX10_share_35 ?_
          refine aw_aload_n hX dX10_share_38 rfl ?_
          refine aw_getr (o' := 0) hX kf_X10_26 sh_10 (by decide) rfl rfl dX10_share_39 ?_
          refine aw_invV (As := [.ref (X.G.ad 1 0)]) (rest := []) (κ := 0) (o := 0) (T := TX0) (N := 7) hX vc_X10_194 sh_0 (by decide) rfl rfl rfl (Nat.le_of_ble_eq_true rfl) dX10_share_42 k (fun μ10 k => ?_)
          refine aw_aload_n hX dX10_share_45 rfl ?_
          refine aw_getr (o' := 0) hX kf_X10_47 sh_10 (by decide) rfl rfl dX10_share_46 ?_
          refine aw_aload_n hX dX10_share_49 rfl ?_
          refine aw_getr (o' := 0) hX kf_X10_19 sh_10 (by decide) rfl rfl dX10_share_50 ?_
          refine aw_iload_n hX dX10_share_53 rfl ?_
          refine aw_iload_n hX dX10_share_54 rfl ?_
          refine aw_iload_n hX dX10_share_55 rfl ?_
          refine aw_invJ (As := [.ref (X.G.ad 2 0), .int x3, .int x1, .int x2]) (rest := []) (κ := 0) (o := 0) (T := TX0) (N := 7) hX vc_X10_197 sh_0 (by decide) rfl rfl rfl (Nat.le_of_ble_eq_true rfl) dX10_share_56 k (fun r11 μ12 k => ?_)
          refine aw_lstore (L' := [some (.ref (X.G.ad 10 0)), some (.int x1), some (.int x2), some (.int x3), some (.int x4), some (.long r11), none, none, none, none]) hX dX10_share_59 (Nat.le_of_ble_eq_true rfl) rfl ?_
          refine aw_lconst (v := (1 : Int64)) hX dX10_share_61 (by decide) ?_
          refine aw_lstore (L' := [some (.ref (X.G.ad 10 0)), some (.int x1), some (.int x2), some (.int x3), some (.int x4), some (.long r11), none, some (.long (1 : Int64)), none, none]) hX dX10_share_62 (Nat.le_of_ble_eq_true rfl) rfl ?_
          refine aw_iconst hX dX10_share_64 zk_0 ?_
          refine aw_istore (L' := [some (.ref (X.G.ad 10 0)), some (.int x1), some (.int x2), some (.int x3), some (.int x4), some (.long r11), none, some (.long (1 : Int64)), none, some (.int (0 : Int32))]) hX dX10_share_65 (Nat.le_of_ble_eq_true rfl) rfl ?_
          exact aw_less (zle_s (zle_o (zle_o (zle_s (zle_s (zle_s (zle_o (zle_s (zle_o (zle_s zle_n)))))))))) k
        · have k := k.2 c8
          refine aw_ldc2 hX kl_X10_192 dX10_share_30 ?_
          exact aw_lret hX hr dX10_share_33 k

set_option maxRecDepth 100000 in
set_option maxHeartbeats 4000000 in
theorem st_X10_share_67 {X : zX} {lv : Nat} {Post : Option Value → zM → Prop} (hX : zOk X cX10_share RX10 10 lv) (hr : zRt X (some .long) Post)  {x3 : Int32} {x4 : Int32} {x5 : Int64} {x7 : Int64} {x9 : Int32} {μ : zM}
    (k : (((μ.1 2 0 0) * x3) ≤ x9 → (AW X 95 [none, none, none, none, some (.int x4), some (.long x5), none, some (.long x7), none, none] [] μ)) ∧ (¬ ((μ.1 2 0 0) * x3) ≤ x9 → (∀ v2 : Int64, v2 = (x7 * (8 : Int64)) → (∀ v3 : Int32, v3 = x9 + (1 : Int32) → (AW X 67 [some (.ref (X.G.ad 10 0)), none, none, some (.int x3), some (.int x4), some (.long x5), none, some (.long v2), none, some (.int v3)] [] μ))))) :
    AW X 67 [some (.ref (X.G.ad 10 0)), none, none, some (.int x3), some (.int x4), some (.long x5), none, some (.long x7), none, some (.int x9)] [] μ := by
  refine aw_iload hX dX10_share_67 rfl ?_
  refine aw_aload_n hX dX10_share_69 rfl ?_
  refine aw_getr (o' := 0) hX kf_X10_19 sh_10 (by decide) rfl rfl dX10_share_70 ?_
  refine aw_geti hX kf_X10_201 sh_2 (by decide) rfl dX10_share_73 ?_
  refine aw_iload_n hX dX10_share_76 rfl ?_
  refine aw_imul hX dX10_share_77 ?_
  refine aw_icmp_ge (tgt := 95) hX dX10_share_78 (by decide) (fun c1 => ?_) (fun c1 => ?_)
  · have k := k.1 c1
    exact aw_less (zle_o (zle_o (zle_o (zle_o (zle_s (zle_s (zle_o (zle_s (zle_o (zle_o zle_n)))))))))) k
  · have k := k.2 c1
    refine aw_lload hX dX10_share_81 rfl ?_
    refine aw_ldc2 hX kl_X10_204 dX10_share_83 ?_
    refine aw_lmul hX dX10_share_86 ?_
    refine aw_topl (fun v2 ev2 => ?_)
    have k := k v2 ev2
    refine aw_lstore (L' := [some (.ref (X.G.ad 10 0)), none, none, some (.int x3), some (.int x4), some (.long x5), none, some (.long v2), none, some (.int x9)]) hX dX10_share_87 (Nat.le_of_ble_eq_true rfl) rfl ?_
    obtain ⟨v3, ev3⟩ : ∃ y : Int32, y = x9 + (1 : Int32) := ⟨_, rfl⟩
    have k := k v3 ev3
    refine aw_iinc (v := v3) (L' := [some (.ref (X.G.ad 10 0)), none, none, some (.int x3), some (.int x4), some (.long x5), none, some (.long v2), none, some (.int v3)]) hX dX10_share_89 rfl (by rw [ev3]; rfl) (Nat.le_of_ble_eq_true rfl) rfl ?_
    refine aw_goto (tgt := 67) hX dX10_share_92 (by decide) ?_
    exact k

set_option maxRecDepth 100000 in
set_option maxHeartbeats 4000000 in
theorem st_X10_share_95 {X : zX} {lv : Nat} {Post : Option Value → zM → Prop} (hX : zOk X cX10_share RX10 10 lv) (hr : zRt X (some .long) Post)  {x4 : Int32} {x5 : Int64} {x7 : Int64} {μ : zM}
    (k : ((lg_cmp x7 (1 : Int64)) ≤ 0 → ((¬ x4 = 0 → (Post (some (.long x7)) μ)) ∧ (x4 = 0 → (Post (some (.long x5)) μ)))) ∧ (¬ (lg_cmp x7 (1 : Int64)) ≤ 0 → ((¬ (2 : Int64) = 0) ∧ ((¬ (lg_cmp (x5 - x5 / (2 : Int64) * (2 : Int64)) (0 : Int64)) = 0 → ((¬ x4 = 0 → (Post (some (.long x7)) μ)) ∧ (x4 = 0 → (Post (some (.long x5)) μ)))) ∧ ((lg_cmp (x5 - x5 / (2 : Int64) * (2 : Int64)) (0 : Int64)) = 0 → (∀ v6 : Int64, v6 = (x7 / (2 : Int64)) → (∀ v7 : Int64, v7 = (x5 / (2 : Int64)) → (AW X 95 [none, none, none, none, some (.int x4), some (.long v7), none, some (.long v6), none, none] [] μ)))))))) :
    AW X 95 [none, none, none, none, some (.int x4), some (.long x5), none, some (.long x7), none, none] [] μ := by
  refine aw_lload hX dX10_share_95 rfl ?_
  refine aw_lconst (v := (1 : Int64)) hX dX10_share_97 (by decide) ?_
  refine aw_lcmp hX dX10_share_98 ?_
  refine aw_if_le (tgt := 132) hX dX10_share_99 (by decide) (fun c1 => ?_) (fun c1 => ?_)
  · have k := k.1 c1
    refine aw_iload hX dX10_share_132 rfl ?_
    refine aw_if_ne (tgt := 142) hX dX10_share_134 (by decide) (fun c2 => ?_) (fun c2 => ?_)
    · have k := k.1 c2
      refine aw_lload hX dX10_share_142 rfl ?_
      exact aw_lret hX hr dX10_share_144 k
    · have k := k.2 c2
      refine aw_lload hX dX10_share_137 rfl ?_
      refine aw_goto (tgt := 144) hX dX10_share_139 (by decide) ?_
      exact aw_lret hX hr dX10_share_144 k
  · have k := k.2 c1
    refine aw_lload hX dX10_share_102 rfl ?_
    refine aw_ldc2 hX kl_X10_206 dX10_share_104 ?_
    have s3 := k.1
    have k := k.2
    refine aw_lrem hX dX10_share_107 s3 ?_
    refine aw_lconst (v := (0 : Int64)) hX dX10_share_108 (by decide) ?_
    refine aw_lcmp hX dX10_share_109 ?_
    refine aw_if_ne (tgt := 132) hX dX10_share_110 (by decide) (fun c4 => ?_) (fun c4 => ?_)
    · have k := k.1 c4
      refine aw_iload hX dX10_share_132 rfl ?_
      refine aw_if_ne (tgt := 142) hX dX10_share_134 (by decide) (fun c5 => ?_) (fun c5 => ?_)
      · have k := k.1 c5
        refine aw_lload hX dX10_share_142 rfl ?_
        exact aw_lret hX hr dX10_share_144 k
      · have k := k.2 c5
        refine aw_lload hX dX10_share_137 rfl ?_
        refine aw_goto (tgt := 144) hX dX10_share_139 (by decide) ?_
        exact aw_lret hX hr dX10_share_144 k
    · have k := k.2 c4
      refine aw_lload hX dX10_share_113 rfl ?_
      refine aw_ldc2 hX kl_X10_206 dX10_share_115 ?_
      refine aw_ldiv hX dX10_share_118 s3 ?_
      refine aw_topl (fun v6 ev6 => ?_)
      have k := k v6 ev6
      refine aw_lstore (L' := [none, none, none, none, some (.int x4), some (.long x5), none, some (.long v6), none, none]) hX dX10_share_119 (Nat.le_of_ble_eq_true rfl) rfl ?_
      refine aw_lload hX dX10_share_121 rfl ?_
      refine aw_ldc2 hX kl_X10_206 dX10_share_123 ?_
      refine aw_ldiv hX dX10_share_126 s3 ?_
      refine aw_topl (fun v7 ev7 => ?_)
      have k := k v7 ev7
      refine aw_lstore (L' := [none, none, none, none, some (.int x4), some (.long v7), none, some (.long v6), none, none]) hX dX10_share_127 (Nat.le_of_ble_eq_true rfl) rfl ?_
      refine aw_goto (tgt := 95) hX dX10_share_129 (by decide) ?_
      exact k

set_option maxRecDepth 100000 in
set_option maxHeartbeats 4000000 in
theorem st_X10_canLookAhead_0 {X : zX} {lv : Nat} {Post : Option Value → zM → Prop} (hX : zOk X cX10_canLookAhead RX10 2 lv) (hr : zRt X (some .boolean) Post)  {x1 : Int32} {μ : zM}
    (k : (x1 < (1 : Int32) → (Post (some (.int (0 : Int32))) μ)) ∧ (¬ x1 < (1 : Int32) → (((12 : Int32) < x1 → (Post (some (.int (0 : Int32))) μ)) ∧ (¬ (12 : Int32) < x1 → (((12 : Int32) < ((μ.1 2 0 0) * x1) → (Post (some (.int (0 : Int32))) μ)) ∧ (¬ (12 : Int32) < ((μ.1 2 0 0) * x1) → (Post (some (.int (1 : Int32))) μ))))))) :
    AW X 0 [some (.ref (X.G.ad 10 0)), some (.int x1)] [] μ := by
  refine aw_iload_n hX dX10_canLookAhead_0 rfl ?_
  refine aw_iconst hX dX10_canLookAhead_1 zk_1 ?_
  refine aw_icmp_lt (tgt := 29) hX dX10_canLookAhead_2 (by decide) (fun c1 => ?_) (fun c1 => ?_)
  · have k := k.1 c1
    refine aw_iconst hX dX10_canLookAhead_29 zk_0 ?_
    exact aw_zret hX hr (by decide) dX10_canLookAhead_30 k
  · have k := k.2 c1
    refine aw_iload_n hX dX10_canLookAhead_5 rfl ?_
    refine aw_bipush hX dX10_canLookAhead_6 zb_12 ?_
    refine aw_icmp_gt (tgt := 29) hX dX10_canLookAhead_8 (by decide) (fun c2 => ?_) (fun c2 => ?_)
    · have k := k.1 c2
      refine aw_iconst hX dX10_canLookAhead_29 zk_0 ?_
      exact aw_zret hX hr (by decide) dX10_canLookAhead_30 k
    · have k := k.2 c2
      refine aw_aload_n hX dX10_canLookAhead_11 rfl ?_
      refine aw_getr (o' := 0) hX kf_X10_19 sh_10 (by decide) rfl rfl dX10_canLookAhead_12 ?_
      refine aw_geti hX kf_X10_201 sh_2 (by decide) rfl dX10_canLookAhead_15 ?_
      refine aw_iload_n hX dX10_canLookAhead_18 rfl ?_
      refine aw_imul hX dX10_canLookAhead_19 ?_
      refine aw_bipush hX dX10_canLookAhead_20 zb_12 ?_
      refine aw_icmp_gt (tgt := 29) hX dX10_canLookAhead_22 (by decide) (fun c3 => ?_) (fun c3 => ?_)
      · have k := k.1 c3
        refine aw_iconst hX dX10_canLookAhead_29 zk_0 ?_
        exact aw_zret hX hr (by decide) dX10_canLookAhead_30 k
      · have k := k.2 c3
        refine aw_iconst hX dX10_canLookAhead_25 zk_1 ?_
        refine aw_goto (tgt := 30) hX dX10_canLookAhead_26 (by decide) ?_
        exact aw_zret hX hr (by decide) dX10_canLookAhead_30 k

set_option maxRecDepth 100000 in
set_option maxHeartbeats 4000000 in
theorem st_X10_better_0 {X : zX} {lv : Nat} {Post : Option Value → zM → Prop} (hX : zOk X cX10_better RX10 8 lv) (hr : zRt X (some .int) Post)  {x1 : Int32} {x2 : Int32} {μ : zM}
    (k : zCallI X lv yX2_isLoan cX2_isLoan 2 (some .boolean) [.ref (X.G.ad 2 0), .int x1] μ (fun (r1 : Int32) μ2 => (r1 = 0 → (Post (some (.int (-2 : Int32))) μ2)) ∧ (¬ r1 = 0 → (zCallI X lv yX10_canLookAhead cX10_canLookAhead 2 (some .boolean) [.ref (X.G.ad 10 0), .int x2] μ2 (fun (r4 : Int32) μ5 => (r4 = 0 → (Post (some (.int (-2 : Int32))) μ5)) ∧ (¬ r4 = 0 → (zCallI X lv yX1_canPayNow cX1_canPayNow 3 (some .boolean) [.ref (X.G.ad 1 0), .ref (X.G.ad 2 0), .int x1] μ5 (fun (r7 : Int32) μ8 => (¬ r7 = 0 → ((vp_in x1 10) ∧ (∀ v12 : Int32, v12 = (μ8.1 7 (0 + (ix x1)) 1) → (zCallV X lv yX0_start cX0_start 2 none [.ref (X.G.ad 0 0), .ref (X.G.ad 1 0)] μ8 (fun μ14 => zCallJ X lv yX0_total cX0_total 5 (some .long) [.ref (X.G.ad 0 0), .ref (X.G.ad 2 0), .int x2, .int (2 : Int32), .int v12] μ14 (fun (r15 : Int64) μ16 => zCallV X lv yX0_startPaid cX0_startPaid 3 none [.ref (X.G.ad 0 0), .ref (X.G.ad 2 0), .int x1] μ16 (fun μ18 => zCallJ X lv yX0_total cX0_total 5 (some .long) [.ref (X.G.ad 0 0), .ref (X.G.ad 2 0), .int x2, .int (2 : Int32), .int v12] μ18 (fun (r19 : Int64) μ20 => (¬ (lg_cmp r19 r15) = 0 → (((lg_cmp r19 r15) ≤ 0 → (Post (some (.int (-1 : Int32))) μ20)) ∧ (¬ (lg_cmp r19 r15) ≤ 0 → (Post (some (.int (1 : Int32))) μ20)))) ∧ ((lg_cmp r19 r15) = 0 → (Post (some (.int (0 : Int32))) μ20)))))))))) ∧ (r7 = 0 → (Post (some (.int (-2 : Int32))) μ8)))))))))) :
    AW X 0 [some (.ref (X.G.ad 10 0)), some (.int x1), some (.int x2), none, none, none, none, none] [] μ := by
  refine aw_aload_n hX dX10_better_0 rfl ?_
  refine aw_getr (o' := 0) hX kf_X10_19 sh_10 (by decide) rfl rfl dX10_better_1 ?_
  refine aw_iload_n hX dX10_better_4 rfl ?_
  refine aw_invI (As := [.int x1]) (rest := []) (κ := 2) (o := 0) (T := TX2) (N := 11) hX vc_X10_119 sh_2 (by decide) rfl rfl rfl (Nat.le_of_ble_eq_true rfl) dX10_better_5 k (fun r1 μ2 k => ?_)
  refine aw_if_eq (tgt := 34) hX dX10_better_8 (by decide) (fun c3 => ?_) (fun c3 => ?_)
  · have k := k.1 c3
    refine aw_bipush hX dX10_better_34 zb_m2 ?_
    exact aw_iret hX hr dX10_better_36 k
  · have k := k.2 c3
    refine aw_aload_n hX dX10_better_11 rfl ?_
    refine aw_iload_n hX dX10_better_12 rfl ?_
    refine aw_invI (As := [.int x2]) (rest := []) (κ := 10) (o := 0) (T := TX10) (N := 7) hX vc_X10_189 sh_10 (by decide) rfl rfl rfl (Nat.le_of_ble_eq_true rfl) dX10_better_13 k (fun r4 μ5 k => ?_)
    refine aw_if_eq (tgt := 34) hX dX10_better_16 (by decide) (fun c6 => ?_) (fun c6 => ?_)
    · have k := k.1 c6
      refine aw_bipush hX dX10_better_34 zb_m2 ?_
      exact aw_iret hX hr dX10_better_36 k
    · have k := k.2 c6
      refine aw_aload_n hX dX10_better_19 rfl ?_
      refine aw_getr (o' := 0) hX kf_X10_26 sh_10 (by decide) rfl rfl dX10_better_20 ?_
      refine aw_aload_n hX dX10_better_23 rfl ?_
      refine aw_getr (o' := 0) hX kf_X10_19 sh_10 (by decide) rfl rfl dX10_better_24 ?_
      refine aw_iload_n hX dX10_better_27 rfl ?_
      refine aw_invI (As := [.ref (X.G.ad 2 0), .int x1]) (rest := []) (κ := 1) (o := 0) (T := TX1) (N := 9) hX vc_X10_167 sh_1 (by decide) rfl rfl rfl (Nat.le_of_ble_eq_true rfl) dX10_better_28 k (fun r7 μ8 k => ?_)
      refine aw_if_ne (tgt := 37) hX dX10_better_31 (by decide) (fun c9 => ?_) (fun c9 => ?_)
      · have k := k.1 c9
        refine aw_aload_n hX dX10_better_37 rfl ?_
        refine aw_getr (o' := 0) hX kf_X10_19 sh_10 (by decide) rfl rfl dX10_better_38 ?_
        refine aw_getr (o' := 0) hX kf_X10_122 sh_2 (by decide) rfl rfl dX10_better_41 ?_
        refine aw_iload_n hX dX10_better_44 rfl ?_
        have s10 := k.1
        have k := k.2
        refine aw_aald' (k := (ix x1)) (o' := (0 + (ix x1))) (C := "RainLoans$Terms") hX sh_22 (by decide) rfl s10 rfl rfl dX10_better_45 ?_
        have w11 : (0 + (ix x1)) < 60 := by have := zix s10; omega
        refine aw_geti hX kf_X10_131 sh_7 w11 rfl dX10_better_46 ?_
        refine aw_topi (fun v12 ev12 => ?_)
        have k := k v12 ev12
        refine aw_istore_n (L' := [some (.ref (X.G.ad 10 0)), some (.int x1), some (.int x2), some (.int v12), none, none, none, none]) hX dX10_better_49 (Nat.le_of_ble_eq_true rfl) rfl ?_
        refine aw_aload_n hX dX10_better_50 rfl ?_
        refine aw_getr (o' := 0) hX kf_X10_47 sh_10 (by decide) rfl rfl dX10_better_51 ?_
        refine aw_aload_n hX dX10_better_54 rfl ?_
        refine aw_getr (o' := 0) hX kf_X10_26 sh_10 (by decide) rfl rfl dX10_better_55 ?_
        refine aw_invV (As := [.ref (X.G.ad 1 0)]) (rest := []) (κ := 0) (o := 0) (T := TX0) (N := 7) hX vc_X10_194 sh_0 (by decide) rfl rfl rfl (Nat.le_of_ble_eq_true rfl) dX10_better_58 k (fun μ14 k => ?_)
        refine aw_aload_n hX dX10_better_61 rfl ?_
        refine aw_getr (o' := 0) hX kf_X10_47 sh_10 (by decide) rfl rfl dX10_better_62 ?_
        refine aw_aload_n hX dX10_better_65 rfl ?_
        refine aw_getr (o' := 0) hX kf_X10_19 sh_10 (by decide) rfl rfl dX10_better_66 ?_
        refine aw_iload_n hX dX10_better_69 rfl ?_
        refine aw_iconst hX dX10_better_70 zk_2 ?_
        refine aw_iload_n hX dX10_better_71 rfl ?_
        refine aw_invJ (As := [.ref (X.G.ad 2 0), .int x2, .int (2 : Int32), .int v12]) (rest := []) (κ := 0) (o := 0) (T := TX0) (N := 7) hX vc_X10_197 sh_0 (by decide) rfl rfl rfl (Nat.le_of_ble_eq_true rfl) dX10_better_72 k (fun r15 μ16 k => ?_)
        refine aw_lstore (L' := [some (.ref (X.G.ad 10 0)), some (.int x1), some (.int x2), some (.int v12), some (.long r15), none, none, none]) hX dX10_better_75 (Nat.le_of_ble_eq_true rfl) rfl ?_
        refine aw_aload_n hX dX10_better_77 rfl ?_
        refine aw_getr (o' := 0) hX kf_X10_47 sh_10 (by decide) rfl rfl dX10_better_78 ?_
        refine aw_aload_n hX dX10_better_81 rfl ?_
        refine aw_getr (o' := 0) hX kf_X10_19 sh_10 (by decide) rfl rfl dX10_better_82 ?_
        refine aw_iload_n hX dX10_better_85 rfl ?_
        refine aw_invV (As := [.ref (X.G.ad 2 0), .int x1]) (rest := []) (κ := 0) (o := 0) (T := TX0) (N := 7) hX vc_X10_208 sh_0 (by decide) rfl rfl rfl (Nat.le_of_ble_eq_true rfl) dX10_better_86 k (fun μ18 k => ?_)
        refine aw_aload_n hX dX10_better_89 rfl ?_
        refine aw_getr (o' := 0) hX kf_X10_47 sh_10 (by decide) rfl rfl dX10_better_90 ?_
        refine aw_aload_n hX dX10_better_93 rfl ?_
        refine aw_getr (o' := 0) hX kf_X10_19 sh_10 (by decide) rfl rfl dX10_better_94 ?_
        refine aw_iload_n hX dX10_better_97 rfl ?_
        refine aw_iconst hX dX10_better_98 zk_2 ?_
        refine aw_iload_n hX dX10_better_99 rfl ?_
        refine aw_invJ (As := [.ref (X.G.ad 2 0), .int x2, .int (2 : Int32), .int v12]) (rest := []) (κ := 0) (o := 0) (T := TX0) (N := 7) hX vc_X10_197 sh_0 (by decide) rfl rfl rfl (Nat.le_of_ble_eq_true rfl) dX10_better_100 k (fun r19 μ20 k => ?_)
        refine aw_lstore (L' := [some (.ref (X.G.ad 10 0)), some (.int x1), some (.int x2), some (.int v12), some (.long r15), none, some (.long r19), none]) hX dX10_better_103 (Nat.le_of_ble_eq_true rfl) rfl ?_
        refine aw_lload hX dX10_better_105 rfl ?_
        refine aw_lload hX dX10_better_107 rfl ?_
        refine aw_lcmp hX dX10_better_109 ?_
        refine aw_if_ne (tgt := 115) hX dX10_better_110 (by decide) (fun c21 => ?_) (fun c21 => ?_)
        · have k := k.1 c21
          refine aw_lload hX dX10_better_115 rfl ?_
          refine aw_lload hX dX10_better_117 rfl ?_
          refine aw_lcmp hX dX10_better_119 ?_
          refine aw_if_le (tgt := 127) hX dX10_better_120 (by decide) (fun c22 => ?_) (fun c22 => ?_)
          · have k := k.1 c22
            refine aw_iconst hX dX10_better_127 zk_m1 ?_
            exact aw_iret hX hr dX10_better_128 k
          · have k := k.2 c22
            refine aw_iconst hX dX10_better_123 zk_1 ?_
            refine aw_goto (tgt := 128) hX dX10_better_124 (by decide) ?_
            exact aw_iret hX hr dX10_better_128 k
        · have k := k.2 c21
          refine aw_iconst hX dX10_better_113 zk_0 ?_
          exact aw_iret hX hr dX10_better_114 k
      · have k := k.2 c9
        refine aw_bipush hX dX10_better_34 zb_m2 ?_
        exact aw_iret hX hr dX10_better_36 k

set_option maxRecDepth 100000 in
set_option maxHeartbeats 4000000 in
theorem st_X10_fits_0 {X : zX} {lv : Nat} {Post : Option Value → zM → Prop} (hX : zOk X cX10_fits RX10 4 lv) (hr : zRt X (some .int) Post)  {x1 : Int32} {x2 : Int32} {x3 : Int32} {μ : zM}
    (k : zCallI X lv yX10_canFit cX10_canFit 4 (some .boolean) [.ref (X.G.ad 10 0), .int x1, .int x2, .int x3] μ (fun (r1 : Int32) μ2 => (¬ r1 = 0 → (zCallV X lv yX0_start cX0_start 2 none [.ref (X.G.ad 0 0), .ref (X.G.ad 1 0)] μ2 (fun μ5 => zCallI X lv yX0_findFitting cX0_findFitting 6 (some .int) [.ref (X.G.ad 0 0), .ref (X.G.ad 2 0), .int x1, .int x2, .int x3] μ5 (fun (r6 : Int32) μ7 => Post (some (.int r6)) μ7)))) ∧ (r1 = 0 → (Post (some (.int (-1 : Int32))) μ2)))) :
    AW X 0 [some (.ref (X.G.ad 10 0)), some (.int x1), some (.int x2), some (.int x3)] [] μ := by
  refine aw_aload_n hX dX10_fits_0 rfl ?_
  refine aw_iload_n hX dX10_fits_1 rfl ?_
  refine aw_iload_n hX dX10_fits_2 rfl ?_
  refine aw_iload_n hX dX10_fits_3 rfl ?_
  refine aw_invI (As := [.int x1, .int x2, .int x3]) (rest := []) (κ := 10) (o := 0) (T := TX10) (N := 7) hX vc_X10_211 sh_10 (by decide) rfl rfl rfl (Nat.le_of_ble_eq_true rfl) dX10_fits_4 k (fun r1 μ2 k => ?_)
  refine aw_if_ne (tgt := 12) hX dX10_fits_7 (by decide) (fun c3 => ?_) (fun c3 => ?_)
  · have k := k.1 c3
    refine aw_aload_n hX dX10_fits_12 rfl ?_
    refine aw_getr (o' := 0) hX kf_X10_47 sh_10 (by decide) rfl rfl dX10_fits_13 ?_
    refine aw_aload_n hX dX10_fits_16 rfl ?_
    refine aw_getr (o' := 0) hX kf_X10_26 sh_10 (by decide) rfl rfl dX10_fits_17 ?_
    refine aw_invV (As := [.ref (X.G.ad 1 0)]) (rest := []) (κ := 0) (o := 0) (T := TX0) (N := 7) hX vc_X10_194 sh_0 (by decide) rfl rfl rfl (Nat.le_of_ble_eq_true rfl) dX10_fits_20 k (fun μ5 k => ?_)
    refine aw_aload_n hX dX10_fits_23 rfl ?_
    refine aw_getr (o' := 0) hX kf_X10_47 sh_10 (by decide) rfl rfl dX10_fits_24 ?_
    refine aw_aload_n hX dX10_fits_27 rfl ?_
    refine aw_getr (o' := 0) hX kf_X10_19 sh_10 (by decide) rfl rfl dX10_fits_28 ?_
    refine aw_iload_n hX dX10_fits_31 rfl ?_
    refine aw_iload_n hX dX10_fits_32 rfl ?_
    refine aw_iload_n hX dX10_fits_33 rfl ?_
    refine aw_invI (As := [.ref (X.G.ad 2 0), .int x1, .int x2, .int x3]) (rest := []) (κ := 0) (o := 0) (T := TX0) (N := 7) hX vc_X10_215 sh_0 (by decide) rfl rfl rfl (Nat.le_of_ble_eq_true rfl) dX10_fits_34 k (fun r6 μ7 k => ?_)
    exact aw_iret hX hr dX10_fits_37 k
  · have k := k.2 c3
    refine aw_iconst hX dX10_fits_10 zk_m1 ?_
    exact aw_iret hX hr dX10_fits_11 k

set_option maxRecDepth 100000 in
set_option maxHeartbeats 4000000 in
theorem st_X10_fit_0 {X : zX} {lv : Nat} {Post : Option Value → zM → Prop} (hX : zOk X cX10_fit RX10 6 lv) (hr : zRt X (some .int) Post)  {x1 : Int32} {x2 : Int32} {x3 : Int32} {x4 : Int32} {μ : zM}
    (k : (x4 < 0 → (Post (some (.int (-1 : Int32))) μ)) ∧ (¬ x4 < 0 → (zCallI X lv yX10_canFit cX10_canFit 4 (some .boolean) [.ref (X.G.ad 10 0), .int x1, .int x2, .int x3] μ (fun (r2 : Int32) μ3 => (¬ r2 = 0 → (zCallV X lv yX0_start cX0_start 2 none [.ref (X.G.ad 0 0), .ref (X.G.ad 1 0)] μ3 (fun μ6 => zCallI X lv yX0_findFitting cX0_findFitting 6 (some .int) [.ref (X.G.ad 0 0), .ref (X.G.ad 2 0), .int x1, .int x2, .int x3] μ6 (fun (r7 : Int32) μ8 => (r7 ≤ x4 → (Post (some (.int (-1 : Int32))) μ8)) ∧ (¬ r7 ≤ x4 → (zCallI X lv yX0_fittingAt cX0_fittingAt 4 (some .int) [.ref (X.G.ad 0 0), .int x4] μ8 (fun (r10 : Int32) μ11 => Post (some (.int r10)) μ11))))))) ∧ (r2 = 0 → (Post (some (.int (-1 : Int32))) μ3)))))) :
    AW X 0 [some (.ref (X.G.ad 10 0)), some (.int x1), some (.int x2), some (.int x3), some (.int x4), none] [] μ := by
  refine aw_iload hX dX10_fit_0 rfl ?_
  refine aw_if_lt (tgt := 15) hX dX10_fit_2 (by decide) (fun c1 => ?_) (fun c1 => ?_)
  · have k := k.1 c1
    refine aw_iconst hX dX10_fit_15 zk_m1 ?_
    exact aw_iret hX hr dX10_fit_16 k
  · have k := k.2 c1
    refine aw_aload_n hX dX10_fit_5 rfl ?_
    refine aw_iload_n hX dX10_fit_6 rfl ?_
    refine aw_iload_n hX dX10_fit_7 rfl ?_
    refine aw_iload_n hX dX10_fit_8 rfl ?_
    refine aw_invI (As := [.int x1, .int x2, .int x3]) (rest := []) (κ := 10) (o := 0) (T := TX10) (N := 7) hX vc_X10_211 sh_10 (by decide) rfl rfl rfl (Nat.le_of_ble_eq_true rfl) dX10_fit_9 k (fun r2 μ3 k => ?_)
    refine aw_if_ne (tgt := 17) hX dX10_fit_12 (by decide) (fun c4 => ?_) (fun c4 => ?_)
    · have k := k.1 c4
      refine aw_aload_n hX dX10_fit_17 rfl ?_
      refine aw_getr (o' := 0) hX kf_X10_47 sh_10 (by decide) rfl rfl dX10_fit_18 ?_
      refine aw_aload_n hX dX10_fit_21 rfl ?_
      refine aw_getr (o' := 0) hX kf_X10_26 sh_10 (by decide) rfl rfl dX10_fit_22 ?_
      refine aw_invV (As := [.ref (X.G.ad 1 0)]) (rest := []) (κ := 0) (o := 0) (T := TX0) (N := 7) hX vc_X10_194 sh_0 (by decide) rfl rfl rfl (Nat.le_of_ble_eq_true rfl) dX10_fit_25 k (fun μ6 k => ?_)
      refine aw_aload_n hX dX10_fit_28 rfl ?_
      refine aw_getr (o' := 0) hX kf_X10_47 sh_10 (by decide) rfl rfl dX10_fit_29 ?_
      refine aw_aload_n hX dX10_fit_32 rfl ?_
      refine aw_getr (o' := 0) hX kf_X10_19 sh_10 (by decide) rfl rfl dX10_fit_33 ?_
      refine aw_iload_n hX dX10_fit_36 rfl ?_
      refine aw_iload_n hX dX10_fit_37 rfl ?_
      refine aw_iload_n hX dX10_fit_38 rfl ?_
      refine aw_invI (As := [.ref (X.G.ad 2 0), .int x1, .int x2, .int x3]) (rest := []) (κ := 0) (o := 0) (T := TX0) (N := 7) hX vc_X10_215 sh_0 (by decide) rfl rfl rfl (Nat.le_of_ble_eq_true rfl) dX10_fit_39 k (fun r7 μ8 k => ?_)
      refine aw_istore (L' := [some (.ref (X.G.ad 10 0)), some (.int x1), some (.int x2), some (.int x3), some (.int x4), some (.int r7)]) hX dX10_fit_42 (Nat.le_of_ble_eq_true rfl) rfl ?_
      refine aw_iload hX dX10_fit_44 rfl ?_
      refine aw_iload hX dX10_fit_46 rfl ?_
      refine aw_icmp_ge (tgt := 63) hX dX10_fit_48 (by decide) (fun c9 => ?_) (fun c9 => ?_)
      · have k := k.1 c9
        refine aw_iconst hX dX10_fit_63 zk_m1 ?_
        exact aw_iret hX hr dX10_fit_64 k
      · have k := k.2 c9
        refine aw_aload_n hX dX10_fit_51 rfl ?_
        refine aw_getr (o' := 0) hX kf_X10_47 sh_10 (by decide) rfl rfl dX10_fit_52 ?_
        refine aw_iload hX dX10_fit_55 rfl ?_
        refine aw_invI (As := [.int x4]) (rest := []) (κ := 0) (o := 0) (T := TX0) (N := 7) hX vc_X10_219 sh_0 (by decide) rfl rfl rfl (Nat.le_of_ble_eq_true rfl) dX10_fit_57 k (fun r10 μ11 k => ?_)
        refine aw_goto (tgt := 64) hX dX10_fit_60 (by decide) ?_
        exact aw_iret hX hr dX10_fit_64 k
    · have k := k.2 c4
      refine aw_iconst hX dX10_fit_15 zk_m1 ?_
      exact aw_iret hX hr dX10_fit_16 k

set_option maxRecDepth 100000 in
set_option maxHeartbeats 4000000 in
theorem st_X10_canFit_0 {X : zX} {lv : Nat} {Post : Option Value → zM → Prop} (hX : zOk X cX10_canFit RX10 4 lv) (hr : zRt X (some .boolean) Post)  {x1 : Int32} {x2 : Int32} {x3 : Int32} {μ : zM}
    (k : zCallI X lv yX10_canLookAhead cX10_canLookAhead 2 (some .boolean) [.ref (X.G.ad 10 0), .int x1] μ (fun (r1 : Int32) μ2 => (r1 = 0 → (Post (some (.int (0 : Int32))) μ2)) ∧ (¬ r1 = 0 → (zCallI X lv yX2_isPerson cX2_isPerson 2 (some .boolean) [.ref (X.G.ad 2 0), .int x2] μ2 (fun (r4 : Int32) μ5 => (r4 = 0 → (Post (some (.int (0 : Int32))) μ5)) ∧ (¬ r4 = 0 → ((x3 < 0 → (Post (some (.int (0 : Int32))) μ5)) ∧ (¬ x3 < 0 → (((99999 : Int32) < x3 → (Post (some (.int (0 : Int32))) μ5)) ∧ (¬ (99999 : Int32) < x3 → (Post (some (.int (1 : Int32))) μ5))))))))))) :
    AW X 0 [some (.ref (X.G.ad 10 0)), some (.int x1), some (.int x2), some (.int x3)] [] μ := by
  refine aw_aload_n hX dX10_canFit_0 rfl ?_
  refine aw_iload_n hX dX10_canFit_1 rfl ?_
  refine aw_invI (As := [.int x1]) (rest := []) (κ := 10) (o := 0) (T := TX10) (N := 7) hX vc_X10_189 sh_10 (by decide) rfl rfl rfl (Nat.le_of_ble_eq_true rfl) dX10_canFit_2 k (fun r1 μ2 k => ?_)
  refine aw_if_eq (tgt := 33) hX dX10_canFit_5 (by decide) (fun c3 => ?_) (fun c3 => ?_)
  · have k := k.1 c3
    refine aw_iconst hX dX10_canFit_33 zk_0 ?_
    exact aw_zret hX hr (by decide) dX10_canFit_34 k
  · have k := k.2 c3
    refine aw_aload_n hX dX10_canFit_8 rfl ?_
    refine aw_getr (o' := 0) hX kf_X10_19 sh_10 (by decide) rfl rfl dX10_canFit_9 ?_
    refine aw_iload_n hX dX10_canFit_12 rfl ?_
    refine aw_invI (As := [.int x2]) (rest := []) (κ := 2) (o := 0) (T := TX2) (N := 11) hX vc_X10_106 sh_2 (by decide) rfl rfl rfl (Nat.le_of_ble_eq_true rfl) dX10_canFit_13 k (fun r4 μ5 k => ?_)
    refine aw_if_eq (tgt := 33) hX dX10_canFit_16 (by decide) (fun c6 => ?_) (fun c6 => ?_)
    · have k := k.1 c6
      refine aw_iconst hX dX10_canFit_33 zk_0 ?_
      exact aw_zret hX hr (by decide) dX10_canFit_34 k
    · have k := k.2 c6
      refine aw_iload_n hX dX10_canFit_19 rfl ?_
      refine aw_if_lt (tgt := 33) hX dX10_canFit_20 (by decide) (fun c7 => ?_) (fun c7 => ?_)
      · have k := k.1 c7
        refine aw_iconst hX dX10_canFit_33 zk_0 ?_
        exact aw_zret hX hr (by decide) dX10_canFit_34 k
      · have k := k.2 c7
        refine aw_iload_n hX dX10_canFit_23 rfl ?_
        refine aw_ldc hX kc_X10_223 dX10_canFit_24 ?_
        refine aw_icmp_gt (tgt := 33) hX dX10_canFit_26 (by decide) (fun c8 => ?_) (fun c8 => ?_)
        · have k := k.1 c8
          refine aw_iconst hX dX10_canFit_33 zk_0 ?_
          exact aw_zret hX hr (by decide) dX10_canFit_34 k
        · have k := k.2 c8
          refine aw_iconst hX dX10_canFit_29 zk_1 ?_
          refine aw_goto (tgt := 34) hX dX10_canFit_30 (by decide) ?_
          exact aw_zret hX hr (by decide) dX10_canFit_34 k

set_option maxRecDepth 100000 in
set_option maxHeartbeats 4000000 in
theorem st_X10_sure_0 {X : zX} {lv : Nat} {Post : Option Value → zM → Prop} (hX : zOk X cX10_sure RX10 6 lv) (hr : zRt X (some .int) Post)  {x1 : Int32} {μ : zM}
    (k : (x1 < 0 → (Post (some (.int (-1 : Int32))) μ)) ∧ (¬ x1 < 0 → ((x1 ≤ (1 : Int32) → (AW X 18 [some (.ref (X.G.ad 10 0)), some (.int x1), some (.int (0 : Int32)), some (.int (0 : Int32)), some (.int (1 : Int32)), none] [] μ)) ∧ (¬ x1 ≤ (1 : Int32) → (Post (some (.int (-1 : Int32))) μ))))) :
    AW X 0 [some (.ref (X.G.ad 10 0)), some (.int x1), none, none, none, none] [] μ := by
  refine aw_iload_n hX dX10_sure_0 rfl ?_
  refine aw_if_lt (tgt := 9) hX dX10_sure_1 (by decide) (fun c1 => ?_) (fun c1 => ?_)
  · have k := k.1 c1
    refine aw_iconst hX dX10_sure_9 zk_m1 ?_
    exact aw_iret hX hr dX10_sure_10 k
  · have k := k.2 c1
    refine aw_iload_n hX dX10_sure_4 rfl ?_
    refine aw_iconst hX dX10_sure_5 zk_1 ?_
    refine aw_icmp_le (tgt := 11) hX dX10_sure_6 (by decide) (fun c2 => ?_) (fun c2 => ?_)
    · have k := k.1 c2
      refine aw_iconst hX dX10_sure_11 zk_0 ?_
      refine aw_istore_n (L' := [some (.ref (X.G.ad 10 0)), some (.int x1), some (.int (0 : Int32)), none, none, none]) hX dX10_sure_12 (Nat.le_of_ble_eq_true rfl) rfl ?_
      refine aw_iconst hX dX10_sure_13 zk_0 ?_
      refine aw_istore_n (L' := [some (.ref (X.G.ad 10 0)), some (.int x1), some (.int (0 : Int32)), some (.int (0 : Int32)), none, none]) hX dX10_sure_14 (Nat.le_of_ble_eq_true rfl) rfl ?_
      refine aw_iconst hX dX10_sure_15 zk_1 ?_
      refine aw_istore (L' := [some (.ref (X.G.ad 10 0)), some (.int x1), some (.int (0 : Int32)), some (.int (0 : Int32)), some (.int (1 : Int32)), none]) hX dX10_sure_16 (Nat.le_of_ble_eq_true rfl) rfl ?_
      exact k
    · have k := k.2 c2
      refine aw_iconst hX dX10_sure_9 zk_m1 ?_
      exact aw_iret hX hr dX10_sure_10 k

set_option maxRecDepth 100000 in
set_option maxHeartbeats 4000000 in
theorem st_X10_sure_18 {X : zX} {lv : Nat} {Post : Option Value → zM → Prop} (hX : zOk X cX10_sure RX10 6 lv) (hr : zRt X (some .int) Post)  {x1 : Int32} {x2 : Int32} {x3 : Int32} {x4 : Int32} {μ : zM}
    (k : (((1 : Int32) <<< ((μ.1 2 0 3) &&& 31)) ≤ x4 → ((¬ x1 = 0 → (Post (some (.int x2)) μ)) ∧ (x1 = 0 → (Post (some (.int x3)) μ)))) ∧ (¬ ((1 : Int32) <<< ((μ.1 2 0 3) &&& 31)) ≤ x4 → (zCallI X lv yX2_leastGain cX2_leastGain 4 (some .int) [.ref (X.G.ad 2 0), .int x4] μ (fun (r3 : Int32) μ4 => (r3 ≤ x3 → (∀ v6 : Int32, v6 = x4 + (1 : Int32) → (AW X 18 [some (.ref (X.G.ad 10 0)), some (.int x1), some (.int x2), some (.int x3), some (.int v6), none] [] μ4))) ∧ (¬ r3 ≤ x3 → (∀ v7 : Int32, v7 = x4 + (1 : Int32) → (AW X 18 [some (.ref (X.G.ad 10 0)), some (.int x1), some (.int x4), some (.int r3), some (.int v7), none] [] μ4))))))) :
    AW X 18 [some (.ref (X.G.ad 10 0)), some (.int x1), some (.int x2), some (.int x3), some (.int x4), none] [] μ := by
  refine aw_iload hX dX10_sure_18 rfl ?_
  refine aw_iconst hX dX10_sure_20 zk_1 ?_
  refine aw_aload_n hX dX10_sure_21 rfl ?_
  refine aw_getr (o' := 0) hX kf_X10_19 sh_10 (by decide) rfl rfl dX10_sure_22 ?_
  refine aw_geti hX kf_X10_233 sh_2 (by decide) rfl dX10_sure_25 ?_
  refine aw_ishl hX dX10_sure_28 ?_
  refine aw_icmp_ge (tgt := 61) hX dX10_sure_29 (by decide) (fun c1 => ?_) (fun c1 => ?_)
  · have k := k.1 c1
    refine aw_iload_n hX dX10_sure_61 rfl ?_
    refine aw_if_ne (tgt := 69) hX dX10_sure_62 (by decide) (fun c2 => ?_) (fun c2 => ?_)
    · have k := k.1 c2
      refine aw_iload_n hX dX10_sure_69 rfl ?_
      exact aw_iret hX hr dX10_sure_70 k
    · have k := k.2 c2
      refine aw_iload_n hX dX10_sure_65 rfl ?_
      refine aw_goto (tgt := 70) hX dX10_sure_66 (by decide) ?_
      exact aw_iret hX hr dX10_sure_70 k
  · have k := k.2 c1
    refine aw_aload_n hX dX10_sure_32 rfl ?_
    refine aw_getr (o' := 0) hX kf_X10_19 sh_10 (by decide) rfl rfl dX10_sure_33 ?_
    refine aw_iload hX dX10_sure_36 rfl ?_
    refine aw_invI (As := [.int x4]) (rest := []) (κ := 2) (o := 0) (T := TX2) (N := 11) hX vc_X10_236 sh_2 (by decide) rfl rfl rfl (Nat.le_of_ble_eq_true rfl) dX10_sure_38 k (fun r3 μ4 k => ?_)
    refine aw_istore (L' := [some (.ref (X.G.ad 10 0)), some (.int x1), some (.int x2), some (.int x3), some (.int x4), some (.int r3)]) hX dX10_sure_41 (Nat.le_of_ble_eq_true rfl) rfl ?_
    refine aw_iload hX dX10_sure_43 rfl ?_
    refine aw_iload_n hX dX10_sure_45 rfl ?_
    refine aw_icmp_le (tgt := 55) hX dX10_sure_46 (by decide) (fun c5 => ?_) (fun c5 => ?_)
    · have k := k.1 c5
      obtain ⟨v6, ev6⟩ : ∃ y : Int32, y = x4 + (1 : Int32) := ⟨_, rfl⟩
      have k := k v6 ev6
      refine aw_iinc (v := v6) (L' := [some (.ref (X.G.ad 10 0)), some (.int x1), some (.int x2), some (.int x3), some (.int v6), some (.int r3)]) hX dX10_sure_55 rfl (by rw [ev6]; rfl) (Nat.le_of_ble_eq_true rfl) rfl ?_
      refine aw_goto (tgt := 18) hX dX10_sure_58 (by decide) ?_
      exact aw_less (zle_s (zle_s (zle_s (zle_s (zle_s (zle_o zle_n)))))) k
    · have k := k.2 c5
      refine aw_iload hX dX10_sure_49 rfl ?_
      refine aw_istore_n (L' := [some (.ref (X.G.ad 10 0)), some (.int x1), some (.int x2), some (.int r3), some (.int x4), some (.int r3)]) hX dX10_sure_51 (Nat.le_of_ble_eq_true rfl) rfl ?_
      refine aw_iload hX dX10_sure_52 rfl ?_
      refine aw_istore_n (L' := [some (.ref (X.G.ad 10 0)), some (.int x1), some (.int x4), some (.int r3), some (.int x4), some (.int r3)]) hX dX10_sure_54 (Nat.le_of_ble_eq_true rfl) rfl ?_
      obtain ⟨v7, ev7⟩ : ∃ y : Int32, y = x4 + (1 : Int32) := ⟨_, rfl⟩
      have k := k v7 ev7
      refine aw_iinc (v := v7) (L' := [some (.ref (X.G.ad 10 0)), some (.int x1), some (.int x4), some (.int r3), some (.int v7), some (.int r3)]) hX dX10_sure_55 rfl (by rw [ev7]; rfl) (Nat.le_of_ble_eq_true rfl) rfl ?_
      refine aw_goto (tgt := 18) hX dX10_sure_58 (by decide) ?_
      exact aw_less (zle_s (zle_s (zle_s (zle_s (zle_s (zle_o zle_n)))))) k

set_option maxRecDepth 100000 in
set_option maxHeartbeats 4000000 in
theorem st_X10_lots_0 {X : zX} {lv : Nat} {Post : Option Value → zM → Prop} (hX : zOk X cX10_lots RX10 4 lv) (hr : zRt X (some .int) Post)  {x1 : Int32} {x2 : Int32} {x3 : Int32} {μ : zM}
    (k : (x1 < 0 → (Post (some (.int (-1 : Int32))) μ)) ∧ (¬ x1 < 0 → (((9999 : Int32) < x1 → (Post (some (.int (-1 : Int32))) μ)) ∧ (¬ (9999 : Int32) < x1 → ((x2 < (1 : Int32) → (Post (some (.int (-1 : Int32))) μ)) ∧ (¬ x2 < (1 : Int32) → (((20 : Int32) < x2 → (Post (some (.int (-1 : Int32))) μ)) ∧ (¬ (20 : Int32) < x2 → ((x3 < 0 → (Post (some (.int (-1 : Int32))) μ)) ∧ (¬ x3 < 0 → ((x3 ≤ (3 : Int32) → (zCallV X lv yX9_drawAll cX9_drawAll 7 none [.ref (X.G.ad 9 0), .ref (X.G.ad 2 0), .ref (X.G.ad 1 0), .int x1, .int x2] μ (fun μ8 => (x3 = (0 : Int32) → (Post (some (.int (μ8.1 9 0 0))) μ8)) ∧ (¬ x3 = (0 : Int32) → (x3 = (1 : Int32) → (Post (some (.int (μ8.1 9 0 1))) μ8)) ∧ (¬ x3 = (1 : Int32) → (x3 = (2 : Int32) → (Post (some (.int (μ8.1 9 0 2))) μ8)) ∧ (¬ x3 = (2 : Int32) → (Post (some (.int (μ8.1 9 0 3))) μ8))))))) ∧ (¬ x3 ≤ (3 : Int32) → (Post (some (.int (-1 : Int32))) μ))))))))))))) :
    AW X 0 [some (.ref (X.G.ad 10 0)), some (.int x1), some (.int x2), some (.int x3)] [] μ := by
  refine aw_iload_n hX dX10_lots_0 rfl ?_
  refine aw_if_lt (tgt := 31) hX dX10_lots_1 (by decide) (fun c1 => ?_) (fun c1 => ?_)
  · have k := k.1 c1
    refine aw_iconst hX dX10_lots_31 zk_m1 ?_
    exact aw_iret hX hr dX10_lots_32 k
  · have k := k.2 c1
    refine aw_iload_n hX dX10_lots_4 rfl ?_
    refine aw_sipush hX dX10_lots_5 zs_9999 ?_
    refine aw_icmp_gt (tgt := 31) hX dX10_lots_8 (by decide) (fun c2 => ?_) (fun c2 => ?_)
    · have k := k.1 c2
      refine aw_iconst hX dX10_lots_31 zk_m1 ?_
      exact aw_iret hX hr dX10_lots_32 k
    · have k := k.2 c2
      refine aw_iload_n hX dX10_lots_11 rfl ?_
      refine aw_iconst hX dX10_lots_12 zk_1 ?_
      refine aw_icmp_lt (tgt := 31) hX dX10_lots_13 (by decide) (fun c3 => ?_) (fun c3 => ?_)
      · have k := k.1 c3
        refine aw_iconst hX dX10_lots_31 zk_m1 ?_
        exact aw_iret hX hr dX10_lots_32 k
      · have k := k.2 c3
        refine aw_iload_n hX dX10_lots_16 rfl ?_
        refine aw_bipush hX dX10_lots_17 zb_20 ?_
        refine aw_icmp_gt (tgt := 31) hX dX10_lots_19 (by decide) (fun c4 => ?_) (fun c4 => ?_)
        · have k := k.1 c4
          refine aw_iconst hX dX10_lots_31 zk_m1 ?_
          exact aw_iret hX hr dX10_lots_32 k
        · have k := k.2 c4
          refine aw_iload_n hX dX10_lots_22 rfl ?_
          refine aw_if_lt (tgt := 31) hX dX10_lots_23 (by decide) (fun c5 => ?_) (fun c5 => ?_)
          · have k := k.1 c5
            refine aw_iconst hX dX10_lots_31 zk_m1 ?_
            exact aw_iret hX hr dX10_lots_32 k
          · have k := k.2 c5
            refine aw_iload_n hX dX10_lots_26 rfl ?_
            refine aw_iconst hX dX10_lots_27 zk_3 ?_
            refine aw_icmp_le (tgt := 33) hX dX10_lots_28 (by decide) (fun c6 => ?_) (fun c6 => ?_)
            · have k := k.1 c6
              refine aw_aload_n hX dX10_lots_33 rfl ?_
              refine aw_getr (o' := 0) hX kf_X10_54 sh_10 (by decide) rfl rfl dX10_lots_34 ?_
              refine aw_aload_n hX dX10_lots_37 rfl ?_
              refine aw_getr (o' := 0) hX kf_X10_19 sh_10 (by decide) rfl rfl dX10_lots_38 ?_
              refine aw_aload_n hX dX10_lots_41 rfl ?_
              refine aw_getr (o' := 0) hX kf_X10_26 sh_10 (by decide) rfl rfl dX10_lots_42 ?_
              refine aw_iload_n hX dX10_lots_45 rfl ?_
              refine aw_iload_n hX dX10_lots_46 rfl ?_
              refine aw_invV (As := [.ref (X.G.ad 2 0), .ref (X.G.ad 1 0), .int x1, .int x2]) (rest := []) (κ := 9) (o := 0) (T := TX9) (N := 6) hX vc_X10_239 sh_9 (by decide) rfl rfl rfl (Nat.le_of_ble_eq_true rfl) dX10_lots_47 k (fun μ8 k => ?_)
              refine aw_iload_n hX dX10_lots_50 rfl ?_
              by_cases c9 : x3 = (0 : Int32)
              · have k := k.1 c9
                refine aw_tsIn (tgt := 76) (off := 25) hX dX10_lots_51 (by rw [c9]; decide) (by rw [c9]; decide) (by rw [c9]; decide) (by decide) ?_
                refine aw_aload_n hX dX10_lots_76 rfl ?_
                refine aw_getr (o' := 0) hX kf_X10_54 sh_10 (by decide) rfl rfl dX10_lots_77 ?_
                refine aw_geti hX kf_X10_243 sh_9 (by decide) rfl dX10_lots_80 ?_
                exact aw_iret hX hr dX10_lots_83 k
              · have k := k.2 c9
                by_cases c10 : x3 = (1 : Int32)
                · have k := k.1 c10
                  refine aw_tsIn (tgt := 84) (off := 33) hX dX10_lots_51 (by rw [c10]; decide) (by rw [c10]; decide) (by rw [c10]; decide) (by decide) ?_
                  refine aw_aload_n hX dX10_lots_84 rfl ?_
                  refine aw_getr (o' := 0) hX kf_X10_54 sh_10 (by decide) rfl rfl dX10_lots_85 ?_
                  refine aw_geti hX kf_X10_246 sh_9 (by decide) rfl dX10_lots_88 ?_
                  exact aw_iret hX hr dX10_lots_91 k
                · have k := k.2 c10
                  by_cases c11 : x3 = (2 : Int32)
                  · have k := k.1 c11
                    refine aw_tsIn (tgt := 92) (off := 41) hX dX10_lots_51 (by rw [c11]; decide) (by rw [c11]; decide) (by rw [c11]; decide) (by decide) ?_
                    refine aw_aload_n hX dX10_lots_92 rfl ?_
                    refine aw_getr (o' := 0) hX kf_X10_54 sh_10 (by decide) rfl rfl dX10_lots_93 ?_
                    refine aw_geti hX kf_X10_249 sh_9 (by decide) rfl dX10_lots_96 ?_
                    exact aw_iret hX hr dX10_lots_99 k
                  · have k := k.2 c11
                    have qc9 : Int32.toInt x3 ≠ 0 := zne c9
                    have qc10 : Int32.toInt x3 ≠ 1 := zne c10
                    have qc11 : Int32.toInt x3 ≠ 2 := zne c11
                    refine aw_tsOut (tgt := 100) hX dX10_lots_51 (by omega) (by decide) ?_
                    refine aw_aload_n hX dX10_lots_100 rfl ?_
                    refine aw_getr (o' := 0) hX kf_X10_54 sh_10 (by decide) rfl rfl dX10_lots_101 ?_
                    refine aw_geti hX kf_X10_252 sh_9 (by decide) rfl dX10_lots_104 ?_
                    exact aw_iret hX hr dX10_lots_107 k
            · have k := k.2 c6
              refine aw_iconst hX dX10_lots_31 zk_m1 ?_
              exact aw_iret hX hr dX10_lots_32 k

set_option maxRecDepth 100000 in
set_option maxHeartbeats 4000000 in
theorem st_X10_mark_0 {X : zX} {lv : Nat} {Post : Option Value → zM → Prop} (hX : zOk X cX10_mark RX10 3 lv) (hr : zRt X (some .boolean) Post)  {x1 : Int32} {x2 : Int32} {μ : zM}
    (k : (x1 < 0 → (Post (some (.int (0 : Int32))) μ)) ∧ (¬ x1 < 0 → ((x1 < (4 : Int32) → ((¬ x2 = 0 → ((vp_in x1 4) ∧ ((¬ (μ.1 3 (0 + (ix x1)) 0) = 0 → (zCallV X lv yX2_copyFrom cX2_copyFrom 3 none [.ref (X.G.ad 2 0), .ref (X.G.ad 2 ((0 + (ix x1)) + 2))] μ (fun μ9 => zCallV X lv yX1_copyFrom cX1_copyFrom 2 none [.ref (X.G.ad 1 0), .ref (X.G.ad 1 ((0 + (ix x1)) + 45))] μ9 (fun μ12 => zCallV X lv yX4_forget cX4_forget 1 none [.ref (X.G.ad 4 0)] μ12 (fun μ14 => Post (some (.int (1 : Int32))) μ14))))) ∧ ((μ.1 3 (0 + (ix x1)) 0) = 0 → (Post (some (.int (0 : Int32))) μ))))) ∧ (x2 = 0 → ((vp_in x1 4) ∧ (zCallV X lv yX3_lay cX3_lay 3 none [.ref (X.G.ad 3 (0 + (ix x1))), .ref (X.G.ad 2 0), .ref (X.G.ad 1 0)] μ (fun μ18 => Post (some (.int (1 : Int32))) μ18)))))) ∧ (¬ x1 < (4 : Int32) → (Post (some (.int (0 : Int32))) μ))))) :
    AW X 0 [some (.ref (X.G.ad 10 0)), some (.int x1), some (.int x2)] [] μ := by
  refine aw_iload_n hX dX10_mark_0 rfl ?_
  refine aw_if_lt (tgt := 9) hX dX10_mark_1 (by decide) (fun c1 => ?_) (fun c1 => ?_)
  · have k := k.1 c1
    refine aw_iconst hX dX10_mark_9 zk_0 ?_
    exact aw_zret hX hr (by decide) dX10_mark_10 k
  · have k := k.2 c1
    refine aw_iload_n hX dX10_mark_4 rfl ?_
    refine aw_iconst hX dX10_mark_5 zk_4 ?_
    refine aw_icmp_lt (tgt := 11) hX dX10_mark_6 (by decide) (fun c2 => ?_) (fun c2 => ?_)
    · have k := k.1 c2
      refine aw_iload_n hX dX10_mark_11 rfl ?_
      refine aw_if_ne (tgt := 34) hX dX10_mark_12 (by decide) (fun c3 => ?_) (fun c3 => ?_)
      · have k := k.1 c3
        refine aw_aload_n hX dX10_mark_34 rfl ?_
        refine aw_getr (o' := 0) hX kf_X10_39 sh_10 (by decide) rfl rfl dX10_mark_35 ?_
        refine aw_iload_n hX dX10_mark_38 rfl ?_
        have s4 := k.1
        have k := k.2
        refine aw_aald' (k := (ix x1)) (o' := (0 + (ix x1))) (C := "RainLoans$Mark") hX sh_34 (by decide) rfl s4 rfl rfl dX10_mark_39 ?_
        have w5 : (0 + (ix x1)) < 4 := by have := zix s4; omega
        refine aw_geti hX kf_X10_259 sh_3 w5 rfl dX10_mark_40 ?_
        refine aw_if_ne (tgt := 48) hX dX10_mark_43 (by decide) (fun c6 => ?_) (fun c6 => ?_)
        · have k := k.1 c6
          refine aw_aload_n hX dX10_mark_48 rfl ?_
          refine aw_getr (o' := 0) hX kf_X10_19 sh_10 (by decide) rfl rfl dX10_mark_49 ?_
          refine aw_aload_n hX dX10_mark_52 rfl ?_
          refine aw_getr (o' := 0) hX kf_X10_39 sh_10 (by decide) rfl rfl dX10_mark_53 ?_
          refine aw_iload_n hX dX10_mark_56 rfl ?_
          refine aw_aald' (k := (ix x1)) (o' := (0 + (ix x1))) (C := "RainLoans$Mark") hX sh_34 (by decide) rfl s4 rfl rfl dX10_mark_57 ?_
          refine aw_getr (o' := ((0 + (ix x1)) + 2)) hX kf_X10_263 sh_3 w5 rfl (zm1 (0 + (ix x1)) 2) dX10_mark_58 ?_
          have w7 : ((0 + (ix x1)) + 2) < 6 := by omega
          refine aw_invV (As := [.ref (X.G.ad 2 ((0 + (ix x1)) + 2))]) (rest := []) (κ := 2) (o := 0) (T := TX2) (N := 11) hX vc_X10_82 sh_2 (by decide) rfl rfl rfl (Nat.le_of_ble_eq_true rfl) dX10_mark_61 k (fun μ9 k => ?_)
          refine aw_aload_n hX dX10_mark_64 rfl ?_
          refine aw_getr (o' := 0) hX kf_X10_26 sh_10 (by decide) rfl rfl dX10_mark_65 ?_
          refine aw_aload_n hX dX10_mark_68 rfl ?_
          refine aw_getr (o' := 0) hX kf_X10_39 sh_10 (by decide) rfl rfl dX10_mark_69 ?_
          refine aw_iload_n hX dX10_mark_72 rfl ?_
          refine aw_aald' (k := (ix x1)) (o' := (0 + (ix x1))) (C := "RainLoans$Mark") hX sh_34 (by decide) rfl s4 rfl rfl dX10_mark_73 ?_
          refine aw_getr (o' := ((0 + (ix x1)) + 45)) hX kf_X10_264 sh_3 w5 rfl (zm1 (0 + (ix x1)) 45) dX10_mark_74 ?_
          have w10 : ((0 + (ix x1)) + 45) < 49 := by omega
          refine aw_invV (As := [.ref (X.G.ad 1 ((0 + (ix x1)) + 45))]) (rest := []) (κ := 1) (o := 0) (T := TX1) (N := 9) hX vc_X10_265 sh_1 (by decide) rfl rfl rfl (Nat.le_of_ble_eq_true rfl) dX10_mark_77 k (fun μ12 k => ?_)
          refine aw_aload_n hX dX10_mark_80 rfl ?_
          refine aw_getr (o' := 0) hX kf_X10_33 sh_10 (by decide) rfl rfl dX10_mark_81 ?_
          refine aw_invV (As := []) (rest := []) (κ := 4) (o := 0) (T := TX4) (N := 3) hX vc_X10_89 sh_4 (by decide) rfl rfl rfl (Nat.le_of_ble_eq_true rfl) dX10_mark_84 k (fun μ14 k => ?_)
          refine aw_iconst hX dX10_mark_87 zk_1 ?_
          exact aw_zret hX hr (by decide) dX10_mark_88 k
        · have k := k.2 c6
          refine aw_iconst hX dX10_mark_46 zk_0 ?_
          exact aw_zret hX hr (by decide) dX10_mark_47 k
      · have k := k.2 c3
        refine aw_aload_n hX dX10_mark_15 rfl ?_
        refine aw_getr (o' := 0) hX kf_X10_39 sh_10 (by decide) rfl rfl dX10_mark_16 ?_
        refine aw_iload_n hX dX10_mark_19 rfl ?_
        have s15 := k.1
        have k := k.2
        refine aw_aald' (k := (ix x1)) (o' := (0 + (ix x1))) (C := "RainLoans$Mark") hX sh_34 (by decide) rfl s15 rfl rfl dX10_mark_20 ?_
        have w16 : (0 + (ix x1)) < 4 := by have := zix s15; omega
        refine aw_aload_n hX dX10_mark_21 rfl ?_
        refine aw_getr (o' := 0) hX kf_X10_19 sh_10 (by decide) rfl rfl dX10_mark_22 ?_
        refine aw_aload_n hX dX10_mark_25 rfl ?_
        refine aw_getr (o' := 0) hX kf_X10_26 sh_10 (by decide) rfl rfl dX10_mark_26 ?_
        refine aw_invV (As := [.ref (X.G.ad 2 0), .ref (X.G.ad 1 0)]) (rest := []) (κ := 3) (o := (0 + (ix x1))) (T := TX3) (N := 3) hX vc_X10_255 sh_3 w16 rfl rfl rfl (Nat.le_of_ble_eq_true rfl) dX10_mark_29 k (fun μ18 k => ?_)
        refine aw_iconst hX dX10_mark_32 zk_1 ?_
        exact aw_zret hX hr (by decide) dX10_mark_33 k
    · have k := k.2 c2
      refine aw_iconst hX dX10_mark_9 zk_0 ?_
      exact aw_zret hX hr (by decide) dX10_mark_10 k

set_option maxRecDepth 100000 in
set_option maxHeartbeats 4000000 in
theorem st_X10_count_0 {X : zX} {lv : Nat} {Post : Option Value → zM → Prop} (hX : zOk X cX10_count RX10 2 lv) (hr : zRt X (some .int) Post)  {x1 : Int32} {μ : zM}
    (k : (x1 = (0 : Int32) → (Post (some (.int (μ.1 2 0 0))) μ)) ∧ (¬ x1 = (0 : Int32) → (x1 = (1 : Int32) → (Post (some (.int (μ.1 2 0 1))) μ)) ∧ (¬ x1 = (1 : Int32) → (x1 = (2 : Int32) → (Post (some (.int (μ.1 2 0 2))) μ)) ∧ (¬ x1 = (2 : Int32) → (x1 = (3 : Int32) → (Post (some (.int (μ.1 2 0 3))) μ)) ∧ (¬ x1 = (3 : Int32) → (x1 = (4 : Int32) → (Post (some (.int (μ.1 1 0 0))) μ)) ∧ (¬ x1 = (4 : Int32) → (x1 = (5 : Int32) → (Post (some (.int (μ.1 1 0 1))) μ)) ∧ (¬ x1 = (5 : Int32) → (x1 = (6 : Int32) → (Post (some (.int (μ.1 4 0 0))) μ)) ∧ (¬ x1 = (6 : Int32) → (x1 = (7 : Int32) → (Post (some (.int (μ.1 5 0 0))) μ)) ∧ (¬ x1 = (7 : Int32) → (Post (some (.int (-1 : Int32))) μ)))))))))) :
    AW X 0 [some (.ref (X.G.ad 10 0)), some (.int x1)] [] μ := by
  refine aw_iload_n hX dX10_count_0 rfl ?_
  by_cases c1 : x1 = (0 : Int32)
  · have k := k.1 c1
    refine aw_tsIn (tgt := 48) (off := 47) hX dX10_count_1 (by rw [c1]; decide) (by rw [c1]; decide) (by rw [c1]; decide) (by decide) ?_
    refine aw_aload_n hX dX10_count_48 rfl ?_
    refine aw_getr (o' := 0) hX kf_X10_19 sh_10 (by decide) rfl rfl dX10_count_49 ?_
    refine aw_geti hX kf_X10_201 sh_2 (by decide) rfl dX10_count_52 ?_
    exact aw_iret hX hr dX10_count_55 k
  · have k := k.2 c1
    by_cases c2 : x1 = (1 : Int32)
    · have k := k.1 c2
      refine aw_tsIn (tgt := 56) (off := 55) hX dX10_count_1 (by rw [c2]; decide) (by rw [c2]; decide) (by rw [c2]; decide) (by decide) ?_
      refine aw_aload_n hX dX10_count_56 rfl ?_
      refine aw_getr (o' := 0) hX kf_X10_19 sh_10 (by decide) rfl rfl dX10_count_57 ?_
      refine aw_geti hX kf_X10_267 sh_2 (by decide) rfl dX10_count_60 ?_
      exact aw_iret hX hr dX10_count_63 k
    · have k := k.2 c2
      by_cases c3 : x1 = (2 : Int32)
      · have k := k.1 c3
        refine aw_tsIn (tgt := 64) (off := 63) hX dX10_count_1 (by rw [c3]; decide) (by rw [c3]; decide) (by rw [c3]; decide) (by decide) ?_
        refine aw_aload_n hX dX10_count_64 rfl ?_
        refine aw_getr (o' := 0) hX kf_X10_19 sh_10 (by decide) rfl rfl dX10_count_65 ?_
        refine aw_geti hX kf_X10_270 sh_2 (by decide) rfl dX10_count_68 ?_
        exact aw_iret hX hr dX10_count_71 k
      · have k := k.2 c3
        by_cases c4 : x1 = (3 : Int32)
        · have k := k.1 c4
          refine aw_tsIn (tgt := 72) (off := 71) hX dX10_count_1 (by rw [c4]; decide) (by rw [c4]; decide) (by rw [c4]; decide) (by decide) ?_
          refine aw_aload_n hX dX10_count_72 rfl ?_
          refine aw_getr (o' := 0) hX kf_X10_19 sh_10 (by decide) rfl rfl dX10_count_73 ?_
          refine aw_geti hX kf_X10_233 sh_2 (by decide) rfl dX10_count_76 ?_
          exact aw_iret hX hr dX10_count_79 k
        · have k := k.2 c4
          by_cases c5 : x1 = (4 : Int32)
          · have k := k.1 c5
            refine aw_tsIn (tgt := 80) (off := 79) hX dX10_count_1 (by rw [c5]; decide) (by rw [c5]; decide) (by rw [c5]; decide) (by decide) ?_
            refine aw_aload_n hX dX10_count_80 rfl ?_
            refine aw_getr (o' := 0) hX kf_X10_26 sh_10 (by decide) rfl rfl dX10_count_81 ?_
            refine aw_geti hX kf_X10_273 sh_1 (by decide) rfl dX10_count_84 ?_
            exact aw_iret hX hr dX10_count_87 k
          · have k := k.2 c5
            by_cases c6 : x1 = (5 : Int32)
            · have k := k.1 c6
              refine aw_tsIn (tgt := 88) (off := 87) hX dX10_count_1 (by rw [c6]; decide) (by rw [c6]; decide) (by rw [c6]; decide) (by decide) ?_
              refine aw_aload_n hX dX10_count_88 rfl ?_
              refine aw_getr (o' := 0) hX kf_X10_26 sh_10 (by decide) rfl rfl dX10_count_89 ?_
              refine aw_geti hX kf_X10_276 sh_1 (by decide) rfl dX10_count_92 ?_
              exact aw_iret hX hr dX10_count_95 k
            · have k := k.2 c6
              by_cases c7 : x1 = (6 : Int32)
              · have k := k.1 c7
                refine aw_tsIn (tgt := 96) (off := 95) hX dX10_count_1 (by rw [c7]; decide) (by rw [c7]; decide) (by rw [c7]; decide) (by decide) ?_
                refine aw_aload_n hX dX10_count_96 rfl ?_
                refine aw_getr (o' := 0) hX kf_X10_33 sh_10 (by decide) rfl rfl dX10_count_97 ?_
                refine aw_geti hX kf_X10_277 sh_4 (by decide) rfl dX10_count_100 ?_
                exact aw_iret hX hr dX10_count_103 k
              · have k := k.2 c7
                by_cases c8 : x1 = (7 : Int32)
                · have k := k.1 c8
                  refine aw_tsIn (tgt := 104) (off := 103) hX dX10_count_1 (by rw [c8]; decide) (by rw [c8]; decide) (by rw [c8]; decide) (by decide) ?_
                  refine aw_aload_n hX dX10_count_104 rfl ?_
                  refine aw_getr (o' := 0) hX kf_X10_10 sh_10 (by decide) rfl rfl dX10_count_105 ?_
                  refine aw_getr (o' := 0) hX kf_X10_58 sh_6 (by decide) rfl rfl dX10_count_108 ?_
                  refine aw_geti hX kf_X10_68 sh_5 (by decide) rfl dX10_count_111 ?_
                  exact aw_iret hX hr dX10_count_114 k
                · have k := k.2 c8
                  have qc1 : Int32.toInt x1 ≠ 0 := zne c1
                  have qc2 : Int32.toInt x1 ≠ 1 := zne c2
                  have qc3 : Int32.toInt x1 ≠ 2 := zne c3
                  have qc4 : Int32.toInt x1 ≠ 3 := zne c4
                  have qc5 : Int32.toInt x1 ≠ 4 := zne c5
                  have qc6 : Int32.toInt x1 ≠ 5 := zne c6
                  have qc7 : Int32.toInt x1 ≠ 6 := zne c7
                  have qc8 : Int32.toInt x1 ≠ 7 := zne c8
                  refine aw_tsOut (tgt := 115) hX dX10_count_1 (by omega) (by decide) ?_
                  refine aw_iconst hX dX10_count_115 zk_m1 ?_
                  exact aw_iret hX hr dX10_count_116 k

