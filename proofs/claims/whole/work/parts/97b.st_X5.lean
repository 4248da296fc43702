set_option maxRecDepth 100000 in
set_option maxHeartbeats 4000000 in
theorem st_X5_split_0 {X : zX} {lv : Nat} {Post : Option Value → zM → Prop} (hX : zOk X cX5_split RX5 4 lv) (hr : zRt X none Post)   {μ : zM}
    (k : ∀ μ1 : zM, μ1 = pI μ 5 0 1 (0 : Int32) → (AW X 9 [some (.ref (X.G.ad 5 0)), some (.int (0 : Int32)), some (.int (0 : Int32)), none] [] μ1)) :
    AW X 0 [some (.ref (X.G.ad 5 0)), none, none, none] [] μ := by
  refine aw_iconst hX dX5_split_0 zk_0 ?_
  refine aw_istore_n (L' := [some (.ref (X.G.ad 5 0)), some (.int (0 : Int32)), none, none]) hX dX5_split_1 (Nat.le_of_ble_eq_true rfl) rfl ?_
  refine aw_aload_n hX dX5_split_2 rfl ?_
  refine aw_iconst hX dX5_split_3 zk_0 ?_
  refine aw_puti hX kp_X5_40 sh_5 (by decide) rfl rfl rfl dX5_split_4 ?_
  refine aw_mem (fun μ1 eμ1 => ?_)
  have k := k μ1 eμ1
  refine aw_iconst hX dX5_split_7 zk_0 ?_
  refine aw_istore_n (L' := [some (.ref (X.G.ad 5 0)), some (.int (0 : Int32)), some (.int (0 : Int32)), none]) hX dX5_split_8 (Nat.le_of_ble_eq_true rfl) rfl ?_
  exact k

set_option maxRecDepth 100000 in
set_option maxHeartbeats 4000000 in
theorem st_X5_split_9 {X : zX} {lv : Nat} {Post : Option Value → zM → Prop} (hX : zOk X cX5_split RX5 4 lv) (hr : zRt X none Post) (hE : zHas X.G)  {x1 : Int32} {x2 : Int32} {μ : zM}
    (k : ((1000 : Int32) ≤ x2 → (AW X 94 [some (.ref (X.G.ad 5 0)), none, none, none] [] μ)) ∧ (¬ (1000 : Int32) ≤ x2 → (((μ.1 5 0 0) ≤ x1 → (AW X 94 [some (.ref (X.G.ad 5 0)), none, none, none] [] μ)) ∧ (¬ (μ.1 5 0 0) ≤ x1 → ((vp_in x1 1000) ∧ (∀ v4 : Int32, v4 = (μ.1 27 0 (ix x1)) → ((v4 = (10 : Int32) → (∀ v6 : Int32, v6 = x1 + (1 : Int32) → (∀ v7 : Int32, v7 = x2 + (1 : Int32) → (AW X 9 [some (.ref (X.G.ad 5 0)), some (.int v6), some (.int v7), none] [] μ)))) ∧ (¬ v4 = (10 : Int32) → ((¬ v4 = (32 : Int32) → ((vp_in (μ.1 5 0 1) 1001) ∧ (∀ μ10 : zM, μ10 = pI μ 29 0 (ix (μ.1 5 0 1)) x1 → ((vp_in (μ10.1 5 0 1) 1001) ∧ (∀ μ12 : zM, μ12 = pI μ10 30 0 (ix (μ10.1 5 0 1)) (nI 0) → (zCallI X lv yX5_splitOff cX5_splitOff 3 (some .int) [.ref (X.G.ad 5 0), .int v4, .int x1] μ12 (fun (r13 : Int32) μ14 => ∀ μ15 : zM, μ15 = pI μ14 5 0 1 ((μ14.1 5 0 1) + (1 : Int32)) → (∀ v16 : Int32, v16 = x2 + (1 : Int32) → (AW X 9 [some (.ref (X.G.ad 5 0)), some (.int r13), some (.int v16), none] [] μ15))))))))) ∧ (v4 = (32 : Int32) → (∀ v17 : Int32, v17 = x1 + (1 : Int32) → (∀ v18 : Int32, v18 = x2 + (1 : Int32) → (AW X 9 [some (.ref (X.G.ad 5 0)), some (.int v17), some (.int v18), none] [] μ))))))))))))) :
    AW X 9 [some (.ref (X.G.ad 5 0)), some (.int x1), some (.int x2), none] [] μ := by
  refine aw_iload_n hX dX5_split_9 rfl ?_
  refine aw_sipush hX dX5_split_10 zs_1000 ?_
  refine aw_icmp_ge (tgt := 94) hX dX5_split_13 (by decide) (fun c1 => ?_) (fun c1 => ?_)
  · have k := k.1 c1
    exact aw_less (zle_s (zle_o (zle_o (zle_o zle_n)))) k
  · have k := k.2 c1
    refine aw_iload_n hX dX5_split_16 rfl ?_
    refine aw_aload_n hX dX5_split_17 rfl ?_
    refine aw_geti hX kf_X5_36 sh_5 (by decide) rfl dX5_split_18 ?_
    refine aw_icmp_ge (tgt := 94) hX dX5_split_21 (by decide) (fun c2 => ?_) (fun c2 => ?_)
    · have k := k.1 c2
      exact aw_less (zle_s (zle_o (zle_o (zle_o zle_n)))) k
    · have k := k.2 c2
      refine aw_aload_n hX dX5_split_24 rfl ?_
      refine aw_getr (o' := 0) hX kf_X5_9 sh_5 (by decide) rfl rfl dX5_split_25 ?_
      refine aw_iload_n hX dX5_split_28 rfl ?_
      have s3 := k.1
      have k := k.2
      refine aw_cald' (k := (ix x1)) hX sh_27 (by decide) s3 rfl dX5_split_29 ?_
      refine aw_topi (fun v4 ev4 => ?_)
      have k := k v4 ev4
      refine aw_istore_n (L' := [some (.ref (X.G.ad 5 0)), some (.int x1), some (.int x2), some (.int v4)]) hX dX5_split_30 (Nat.le_of_ble_eq_true rfl) rfl ?_
      refine aw_iload_n hX dX5_split_31 rfl ?_
      refine aw_bipush hX dX5_split_32 zb_10 ?_
      refine aw_icmp_eq (tgt := 43) hX dX5_split_34 (by decide) (fun c5 => ?_) (fun c5 => ?_)
      · have k := k.1 c5
        obtain ⟨v6, ev6⟩ : ∃ y : Int32, y = x1 + (1 : Int32) := ⟨_, rfl⟩
        have k := k v6 ev6
        refine aw_iinc (v := v6) (L' := [some (.ref (X.G.ad 5 0)), some (.int v6), some (.int x2), some (.int v4)]) hX dX5_split_43 rfl (by rw [ev6]; rfl) (Nat.le_of_ble_eq_true rfl) rfl ?_
        refine aw_goto (tgt := 88) hX dX5_split_46 (by decide) ?_
        obtain ⟨v7, ev7⟩ : ∃ y : Int32, y = x2 + (1 : Int32) := ⟨_, rfl⟩
        have k := k v7 ev7
        refine aw_iinc (v := v7) (L' := [some (.ref (X.G.ad 5 0)), some (.int v6), some (.int v7), some (.int v4)]) hX dX5_split_88 rfl (by rw [ev7]; rfl) (Nat.le_of_ble_eq_true rfl) rfl ?_
        refine aw_goto (tgt := 9) hX dX5_split_91 (by decide) ?_
        exact aw_less (zle_s (zle_s (zle_s (zle_o zle_n)))) k
      · have k := k.2 c5
        refine aw_iload_n hX dX5_split_37 rfl ?_
        refine aw_bipush hX dX5_split_38 zb_32 ?_
        refine aw_icmp_ne (tgt := 49) hX dX5_split_40 (by decide) (fun c8 => ?_) (fun c8 => ?_)
        · have k := k.1 c8
          refine aw_aload_n hX dX5_split_49 rfl ?_
          refine aw_getr (o' := 0) hX kf_X5_19 sh_5 (by decide) rfl rfl dX5_split_50 ?_
          refine aw_aload_n hX dX5_split_53 rfl ?_
          refine aw_geti hX kf_X5_40 sh_5 (by decide) rfl dX5_split_54 ?_
          refine aw_iload_n hX dX5_split_57 rfl ?_
          have s9 := k.1
          have k := k.2
          refine aw_iast' (k := (ix (μ.1 5 0 1))) hX sh_29 (by decide) s9 rfl dX5_split_58 ?_
          refine aw_mem (fun μ10 eμ10 => ?_)
          have k := k μ10 eμ10
          refine aw_aload_n hX dX5_split_59 rfl ?_
          refine aw_getr (o' := 0) hX kf_X5_24 sh_5 (by decide) rfl rfl dX5_split_60 ?_
          refine aw_aload_n hX dX5_split_63 rfl ?_
          refine aw_geti hX kf_X5_40 sh_5 (by decide) rfl dX5_split_64 ?_
          refine aw_gsE (i := 0) (n := "NO_WORD") hE hX (by decide) (by decide) ks_X5_28 dX5_split_67 ?_
          have s11 := k.1
          have k := k.2
          refine aw_waast (k := (ix (μ10.1 5 0 1))) hE hX (by decide) sh_30 (by decide) s11 rfl dX5_split_70 ?_
          refine aw_mem (fun μ12 eμ12 => ?_)
          have k := k μ12 eμ12
          refine aw_aload_n hX dX5_split_71 rfl ?_
          refine aw_iload_n hX dX5_split_72 rfl ?_
          refine aw_iload_n hX dX5_split_73 rfl ?_
          refine aw_invI (As := [.int v4, .int x1]) (rest := []) (κ := 5) (o := 0) (T := TX5) (N := 7) hX vc_X5_43 sh_5 (by decide) rfl rfl rfl (Nat.le_of_ble_eq_true rfl) dX5_split_74 k (fun r13 μ14 k => ?_)
          refine aw_istore_n (L' := [some (.ref (X.G.ad 5 0)), some (.int r13), some (.int x2), some (.int v4)]) hX dX5_split_77 (Nat.le_of_ble_eq_true rfl) rfl ?_
          refine aw_aload_n hX dX5_split_78 rfl ?_
          refine aw_dup hX dX5_split_79 rfl ?_
          refine aw_geti hX kf_X5_40 sh_5 (by decide) rfl dX5_split_80 ?_
          refine aw_iconst hX dX5_split_83 zk_1 ?_
          refine aw_iadd hX dX5_split_84 ?_
          refine aw_puti hX kp_X5_40 sh_5 (by decide) rfl rfl rfl dX5_split_85 ?_
          refine aw_mem (fun μ15 eμ15 => ?_)
          have k := k μ15 eμ15
          obtain ⟨v16, ev16⟩ : ∃ y : Int32, y = x2 + (1 : Int32) := ⟨_, rfl⟩
          have k := k v16 ev16
          refine aw_iinc (v := v16) (L' := [some (.ref (X.G.ad 5 0)), some (.int r13), some (.int v16), some (.int v4)]) hX dX5_split_88 rfl (by rw [ev16]; rfl) (Nat.le_of_ble_eq_true rfl) rfl ?_
          refine aw_goto (tgt := 9) hX dX5_split_91 (by decide) ?_
          exact aw_less (zle_s (zle_s (zle_s (zle_o zle_n)))) k
        · have k := k.2 c8
          obtain ⟨v17, ev17⟩ : ∃ y : Int32, y = x1 + (1 : Int32) := ⟨_, rfl⟩
          have k := k v17 ev17
          refine aw_iinc (v := v17) (L' := [some (.ref (X.G.ad 5 0)), some (.int v17), some (.int x2), some (.int v4)]) hX dX5_split_43 rfl (by rw [ev17]; rfl) (Nat.le_of_ble_eq_true rfl) rfl ?_
          refine aw_goto (tgt := 88) hX dX5_split_46 (by decide) ?_
          obtain ⟨v18, ev18⟩ : ∃ y : Int32, y = x2 + (1 : Int32) := ⟨_, rfl⟩
          have k := k v18 ev18
          refine aw_iinc (v := v18) (L' := [some (.ref (X.G.ad 5 0)), some (.int v17), some (.int v18), some (.int v4)]) hX dX5_split_88 rfl (by rw [ev18]; rfl) (Nat.le_of_ble_eq_true rfl) rfl ?_
          refine aw_goto (tgt := 9) hX dX5_split_91 (by decide) ?_
          exact aw_less (zle_s (zle_s (zle_s (zle_o zle_n)))) k

set_option maxRecDepth 100000 in
set_option maxHeartbeats 4000000 in
theorem st_X5_split_94 {X : zX} {lv : Nat} {Post : Option Value → zM → Prop} (hX : zOk X cX5_split RX5 4 lv) (hr : zRt X none Post) (hE : zHas X.G)   {μ : zM}
    (k : (vp_in (μ.1 5 0 1) 1001) ∧ (∀ μ2 : zM, μ2 = pI μ 28 0 (ix (μ.1 5 0 1)) (0 : Int32) → ((vp_in (μ2.1 5 0 1) 1001) ∧ (∀ μ4 : zM, μ4 = pI μ2 29 0 (ix (μ2.1 5 0 1)) (μ2.1 5 0 0) → ((vp_in (μ4.1 5 0 1) 1001) ∧ (∀ μ6 : zM, μ6 = pI μ4 30 0 (ix (μ4.1 5 0 1)) (nI 0) → (∀ μ7 : zM, μ7 = pI μ6 5 0 1 (0 : Int32) → (Post none μ7)))))))) :
    AW X 94 [some (.ref (X.G.ad 5 0)), none, none, none] [] μ := by
  refine aw_aload_n hX dX5_split_94 rfl ?_
  refine aw_getr (o' := 0) hX kf_X5_15 sh_5 (by decide) rfl rfl dX5_split_95 ?_
  refine aw_aload_n hX dX5_split_98 rfl ?_
  refine aw_geti hX kf_X5_40 sh_5 (by decide) rfl dX5_split_99 ?_
  refine aw_iconst hX dX5_split_102 zk_0 ?_
  have s1 := k.1
  have k := k.2
  refine aw_iast' (k := (ix (μ.1 5 0 1))) hX sh_28 (by decide) s1 rfl dX5_split_103 ?_
  refine aw_mem (fun μ2 eμ2 => ?_)
  have k := k μ2 eμ2
  refine aw_aload_n hX dX5_split_104 rfl ?_
  refine aw_getr (o' := 0) hX kf_X5_19 sh_5 (by decide) rfl rfl dX5_split_105 ?_
  refine aw_aload_n hX dX5_split_108 rfl ?_
  refine aw_geti hX kf_X5_40 sh_5 (by decide) rfl dX5_split_109 ?_
  refine aw_aload_n hX dX5_split_112 rfl ?_
  refine aw_geti hX kf_X5_36 sh_5 (by decide) rfl dX5_split_113 ?_
  have s3 := k.1
  have k := k.2
  refine aw_iast' (k := (ix (μ2.1 5 0 1))) hX sh_29 (by decide) s3 rfl dX5_split_116 ?_
  refine aw_mem (fun μ4 eμ4 => ?_)
  have k := k μ4 eμ4
  refine aw_aload_n hX dX5_split_117 rfl ?_
  refine aw_getr (o' := 0) hX kf_X5_24 sh_5 (by decide) rfl rfl dX5_split_118 ?_
  refine aw_aload_n hX dX5_split_121 rfl ?_
  refine aw_geti hX kf_X5_40 sh_5 (by decide) rfl dX5_split_122 ?_
  refine aw_gsE (i := 0) (n := "NO_WORD") hE hX (by decide) (by decide) ks_X5_28 dX5_split_125 ?_
  have s5 := k.1
  have k := k.2
  refine aw_waast (k := (ix (μ4.1 5 0 1))) hE hX (by decide) sh_30 (by decide) s5 rfl dX5_split_128 ?_
  refine aw_mem (fun μ6 eμ6 => ?_)
  have k := k μ6 eμ6
  refine aw_aload_n hX dX5_split_129 rfl ?_
  refine aw_iconst hX dX5_split_130 zk_0 ?_
  refine aw_puti hX kp_X5_40 sh_5 (by decide) rfl rfl rfl dX5_split_131 ?_
  refine aw_mem (fun μ7 eμ7 => ?_)
  have k := k μ7 eμ7
  exact aw_vret hX hr dX5_split_134 k

set_option maxRecDepth 100000 in
set_option maxHeartbeats 4000000 in
theorem st_X5_splitOff_0 {X : zX} {lv : Nat} {Post : Option Value → zM → Prop} (hX : zOk X cX5_splitOff RX5 3 lv) (hr : zRt X (some .int) Post) (hE : zHas X.G)  {x1 : Int32} {x2 : Int32} {μ : zM}
    (k : zCallI X lv yX5_isLetter cX5_isLetter 1 (some .boolean) [.int x1] μ (fun (r1 : Int32) μ2 => (r1 = 0 → (zCallI X lv yX5_isDigit cX5_isDigit 1 (some .boolean) [.int x1] μ2 (fun (r4 : Int32) μ5 => (r4 = 0 → (zCallI X lv yJ0_indexOf_0f7a4 cJ0_indexOf_0f7a4 2 (some .int) [.ref (X.G.aw (100 + 28)), .int x1] μ5 (fun (r7 : Int32) μ8 => (r7 < 0 → ((vp_in (μ5.1 5 0 1) 1001) ∧ (∀ μ11 : zM, μ11 = pI μ8 28 0 (ix (μ5.1 5 0 1)) (4 : Int32) → ((vp_in (μ11.1 5 0 1) 1001) ∧ (∀ μ13 : zM, μ13 = pL μ11 31 0 (ix (μ11.1 5 0 1)) (Int32.toInt64 x1) → (Post (some (.int (x2 + (1 : Int32)))) μ13)))))) ∧ (¬ r7 < 0 → ((vp_in (μ5.1 5 0 1) 1001) ∧ (∀ μ15 : zM, μ15 = pI μ8 28 0 (ix (μ5.1 5 0 1)) (3 : Int32) → ((vp_in (μ15.1 5 0 1) 1001) ∧ (∀ μ17 : zM, μ17 = pL μ15 31 0 (ix (μ15.1 5 0 1)) (Int32.toInt64 x1) → (Post (some (.int (x2 + (1 : Int32)))) μ17))))))))) ∧ (¬ r4 = 0 → (zCallI X lv yX5_splitNumber cX5_splitNumber 5 (some .int) [.ref (X.G.ad 5 0), .int x2] μ5 (fun (r18 : Int32) μ19 => Post (some (.int r18)) μ19)))))) ∧ (¬ r1 = 0 → (zCallI X lv yX5_splitWord cX5_splitWord 6 (some .int) [.ref (X.G.ad 5 0), .int x2] μ2 (fun (r20 : Int32) μ21 => Post (some (.int r20)) μ21))))) :
    AW X 0 [some (.ref (X.G.ad 5 0)), some (.int x1), some (.int x2)] [] μ := by
  refine aw_iload_n hX dX5_splitOff_0 rfl ?_
  refine aw_ivsI (As := [.int x1]) (rest := []) hX sc_X5_47 rfl rfl (Nat.le_of_ble_eq_true rfl) dX5_splitOff_1 k (fun r1 μ2 k => ?_)
  refine aw_if_eq (tgt := 13) hX dX5_splitOff_4 (by decide) (fun c3 => ?_) (fun c3 => ?_)
  · have k := k.1 c3
    refine aw_iload_n hX dX5_splitOff_13 rfl ?_
    refine aw_ivsI (As := [.int x1]) (rest := []) hX sc_X5_55 rfl rfl (Nat.le_of_ble_eq_true rfl) dX5_splitOff_14 k (fun r4 μ5 k => ?_)
    refine aw_if_eq (tgt := 26) hX dX5_splitOff_17 (by decide) (fun c6 => ?_) (fun c6 => ?_)
    · have k := k.1 c6
      refine aw_aload_n hX dX5_splitOff_26 rfl ?_
      refine aw_getr (o' := 0) hX kf_X5_15 sh_5 (by decide) rfl rfl dX5_splitOff_27 ?_
      refine aw_aload_n hX dX5_splitOff_30 rfl ?_
      refine aw_geti hX kf_X5_40 sh_5 (by decide) rfl dX5_splitOff_31 ?_
      refine aw_ldS hE hX dX5_splitOff_34 ?_
      refine aw_iload_n hX dX5_splitOff_36 rfl ?_
      refine aw_invTI (As := [.int x1]) (rest := [.int (μ5.1 5 0 1), .ref (X.G.ad 28 0)]) (i := 28) hE hX (by decide) vc_X5_63 rfl rfl rfl (Nat.le_of_ble_eq_true rfl) dX5_splitOff_37 k (fun r7 μ8 k => ?_)
      refine aw_if_lt (tgt := 47) hX dX5_splitOff_40 (by decide) (fun c9 => ?_) (fun c9 => ?_)
      · have k := k.1 c9
        refine aw_iconst hX dX5_splitOff_47 zk_4 ?_
        have s10 := k.1
        have k := k.2
        refine aw_iast' (k := (ix (μ5.1 5 0 1))) hX sh_28 (by decide) s10 rfl dX5_splitOff_48 ?_
        refine aw_mem (fun μ11 eμ11 => ?_)
        have k := k μ11 eμ11
        refine aw_aload_n hX dX5_splitOff_49 rfl ?_
        refine aw_getr (o' := 0) hX kf_X5_32 sh_5 (by decide) rfl rfl dX5_splitOff_50 ?_
        refine aw_aload_n hX dX5_splitOff_53 rfl ?_
        refine aw_geti hX kf_X5_40 sh_5 (by decide) rfl dX5_splitOff_54 ?_
        refine aw_iload_n hX dX5_splitOff_57 rfl ?_
        refine aw_i2l hX dX5_splitOff_58 ?_
        have s12 := k.1
        have k := k.2
        refine aw_last' (k := (ix (μ11.1 5 0 1))) hX sh_31 (by decide) s12 rfl dX5_splitOff_59 ?_
        refine aw_mem (fun μ13 eμ13 => ?_)
        have k := k μ13 eμ13
        refine aw_iload_n hX dX5_splitOff_60 rfl ?_
        refine aw_iconst hX dX5_splitOff_61 zk_1 ?_
        refine aw_iadd hX dX5_splitOff_62 ?_
        exact aw_iret hX hr dX5_splitOff_63 k
      · have k := k.2 c9
        refine aw_iconst hX dX5_splitOff_43 zk_3 ?_
        refine aw_goto (tgt := 48) hX dX5_splitOff_44 (by decide) ?_
        have s14 := k.1
        have k := k.2
        refine aw_iast' (k := (ix (μ5.1 5 0 1))) hX sh_28 (by decide) s14 rfl dX5_splitOff_48 ?_
        refine aw_mem (fun μ15 eμ15 => ?_)
        have k := k μ15 eμ15
        refine aw_aload_n hX dX5_splitOff_49 rfl ?_
        refine aw_getr (o' := 0) hX kf_X5_32 sh_5 (by decide) rfl rfl dX5_splitOff_50 ?_
        refine aw_aload_n hX dX5_splitOff_53 rfl ?_
        refine aw_geti hX kf_X5_40 sh_5 (by decide) rfl dX5_splitOff_54 ?_
        refine aw_iload_n hX dX5_splitOff_57 rfl ?_
        refine aw_i2l hX dX5_splitOff_58 ?_
        have s16 := k.1
        have k := k.2
        refine aw_last' (k := (ix (μ15.1 5 0 1))) hX sh_31 (by decide) s16 rfl dX5_splitOff_59 ?_
        refine aw_mem (fun μ17 eμ17 => ?_)
        have k := k μ17 eμ17
        refine aw_iload_n hX dX5_splitOff_60 rfl ?_
        refine aw_iconst hX dX5_splitOff_61 zk_1 ?_
        refine aw_iadd hX dX5_splitOff_62 ?_
        exact aw_iret hX hr dX5_splitOff_63 k
    · have k := k.2 c6
      refine aw_aload_n hX dX5_splitOff_20 rfl ?_
      refine aw_iload_n hX dX5_splitOff_21 rfl ?_
      refine aw_invI (As := [.int x2]) (rest := []) (κ := 5) (o := 0) (T := TX5) (N := 7) hX vc_X5_58 sh_5 (by decide) rfl rfl rfl (Nat.le_of_ble_eq_true rfl) dX5_splitOff_22 k (fun r18 μ19 k => ?_)
      exact aw_iret hX hr dX5_splitOff_25 k
  · have k := k.2 c3
    refine aw_aload_n hX dX5_splitOff_7 rfl ?_
    refine aw_iload_n hX dX5_splitOff_8 rfl ?_
    refine aw_invI (As := [.int x2]) (rest := []) (κ := 5) (o := 0) (T := TX5) (N := 7) hX vc_X5_51 sh_5 (by decide) rfl rfl rfl (Nat.le_of_ble_eq_true rfl) dX5_splitOff_9 k (fun r20 μ21 k => ?_)
    exact aw_iret hX hr dX5_splitOff_12 k

set_option maxRecDepth 100000 in
set_option maxHeartbeats 4000000 in
theorem st_X5_splitWord_0 {X : zX} {lv : Nat} {Post : Option Value → zM → Prop} (hX : zOk X cX5_splitWord RX5 6 lv) (hr : zRt X (some .int) Post)  {x1 : Int32} {μ : zM}
    (k : AW X 4 [some (.ref (X.G.ad 5 0)), some (.int x1), some (.int x1), some (.long (0 : Int64)), none, none] [] μ) :
    AW X 0 [some (.ref (X.G.ad 5 0)), some (.int x1), none, none, none, none] [] μ := by
  refine aw_iload_n hX dX5_splitWord_0 rfl ?_
  refine aw_istore_n (L' := [some (.ref (X.G.ad 5 0)), some (.int x1), some (.int x1), none, none, none]) hX dX5_splitWord_1 (Nat.le_of_ble_eq_true rfl) rfl ?_
  refine aw_lconst (v := (0 : Int64)) hX dX5_splitWord_2 (by decide) ?_
  refine aw_lstore_n (L' := [some (.ref (X.G.ad 5 0)), some (.int x1), some (.int x1), some (.long (0 : Int64)), none, none]) hX dX5_splitWord_3 (Nat.le_of_ble_eq_true rfl) rfl ?_
  exact k

set_option maxRecDepth 100000 in
set_option maxHeartbeats 4000000 in
theorem st_X5_splitWord_4 {X : zX} {lv : Nat} {Post : Option Value → zM → Prop} (hX : zOk X cX5_splitWord RX5 6 lv) (hr : zRt X (some .int) Post)  {x1 : Int32} {x2 : Int32} {x3 : Int64} {μ : zM}
    (k : ((μ.1 5 0 0) ≤ x2 → (AW X 49 [some (.ref (X.G.ad 5 0)), some (.int x1), some (.int x2), some (.long x3), none, none] [] μ)) ∧ (¬ (μ.1 5 0 0) ≤ x2 → ((vp_in x2 1000) ∧ (zCallI X lv yX5_isLetter cX5_isLetter 1 (some .boolean) [.int (μ.1 27 0 (ix x2))] μ (fun (r3 : Int32) μ4 => (r3 = 0 → (AW X 49 [some (.ref (X.G.ad 5 0)), some (.int x1), some (.int x2), some (.long x3), none, none] [] μ4)) ∧ (¬ r3 = 0 → (∀ v6 : Int64, v6 = ((x3 * (32 : Int64)) + (Int32.toInt64 (((μ4.1 27 0 (ix x2)) - (97 : Int32)) + (1 : Int32)))) → (∀ v7 : Int32, v7 = x2 + (1 : Int32) → (AW X 4 [some (.ref (X.G.ad 5 0)), some (.int x1), some (.int v7), some (.long v6), none, none] [] μ4))))))))) :
    AW X 4 [some (.ref (X.G.ad 5 0)), some (.int x1), some (.int x2), some (.long x3), none, none] [] μ := by
  refine aw_iload_n hX dX5_splitWord_4 rfl ?_
  refine aw_aload_n hX dX5_splitWord_5 rfl ?_
  refine aw_geti hX kf_X5_36 sh_5 (by decide) rfl dX5_splitWord_6 ?_
  refine aw_icmp_ge (tgt := 49) hX dX5_splitWord_9 (by decide) (fun c1 => ?_) (fun c1 => ?_)
  · have k := k.1 c1
    exact k
  · have k := k.2 c1
    refine aw_aload_n hX dX5_splitWord_12 rfl ?_
    refine aw_getr (o' := 0) hX kf_X5_9 sh_5 (by decide) rfl rfl dX5_splitWord_13 ?_
    refine aw_iload_n hX dX5_splitWord_16 rfl ?_
    have s2 := k.1
    have k := k.2
    refine aw_cald' (k := (ix x2)) hX sh_27 (by decide) s2 rfl dX5_splitWord_17 ?_
    refine aw_ivsI (As := [.int (μ.1 27 0 (ix x2))]) (rest := []) hX sc_X5_47 rfl rfl (Nat.le_of_ble_eq_true rfl) dX5_splitWord_18 k (fun r3 μ4 k => ?_)
    refine aw_if_eq (tgt := 49) hX dX5_splitWord_21 (by decide) (fun c5 => ?_) (fun c5 => ?_)
    · have k := k.1 c5
      exact k
    · have k := k.2 c5
      refine aw_lload_n hX dX5_splitWord_24 rfl ?_
      refine aw_ldc2 hX kl_X5_68 dX5_splitWord_25 ?_
      refine aw_lmul hX dX5_splitWord_28 ?_
      refine aw_aload_n hX dX5_splitWord_29 rfl ?_
      refine aw_getr (o' := 0) hX kf_X5_9 sh_5 (by decide) rfl rfl dX5_splitWord_30 ?_
      refine aw_iload_n hX dX5_splitWord_33 rfl ?_
      refine aw_cald' (k := (ix x2)) hX sh_27 (by decide) s2 rfl dX5_splitWord_34 ?_
      refine aw_bipush hX dX5_splitWord_35 zb_97 ?_
      refine aw_isub hX dX5_splitWord_37 ?_
      refine aw_iconst hX dX5_splitWord_38 zk_1 ?_
      refine aw_iadd hX dX5_splitWord_39 ?_
      refine aw_i2l hX dX5_splitWord_40 ?_
      refine aw_ladd hX dX5_splitWord_41 ?_
      refine aw_topl (fun v6 ev6 => ?_)
      have k := k v6 ev6
      refine aw_lstore_n (L' := [some (.ref (X.G.ad 5 0)), some (.int x1), some (.int x2), some (.long v6), none, none]) hX dX5_splitWord_42 (Nat.le_of_ble_eq_true rfl) rfl ?_
      obtain ⟨v7, ev7⟩ : ∃ y : Int32, y = x2 + (1 : Int32) := ⟨_, rfl⟩
      have k := k v7 ev7
      refine aw_iinc (v := v7) (L' := [some (.ref (X.G.ad 5 0)), some (.int x1), some (.int v7), some (.long v6), none, none]) hX dX5_splitWord_43 rfl (by rw [ev7]; rfl) (Nat.le_of_ble_eq_true rfl) rfl ?_
      refine aw_goto (tgt := 4) hX dX5_splitWord_46 (by decide) ?_
      exact k

set_option maxRecDepth 100000 in
set_option maxHeartbeats 4000000 in
theorem st_X5_splitWord_49 {X : zX} {lv : Nat} {Post : Option Value → zM → Prop} (hX : zOk X cX5_splitWord RX5 6 lv) (hr : zRt X (some .int) Post) (hE : zHas X.G)  {x1 : Int32} {x2 : Int32} {x3 : Int64} {μ : zM}
    (k : (vp_in (μ.1 5 0 1) 1001) ∧ (∀ μ2 : zM, μ2 = pL μ 31 0 (ix (μ.1 5 0 1)) x3 → (((x2 - x1) ≤ (8 : Int32) → ((vp_in (μ2.1 5 0 1) 1001) ∧ (∀ μ5 : zM, μ5 = pI μ2 28 0 (ix (μ2.1 5 0 1)) (1 : Int32) → ((vp_in (μ5.1 5 0 1) 1001) ∧ (∀ μ7 : zM, μ7 = pI μ5 30 0 (ix (μ5.1 5 0 1)) (nI 1) → (AW X 104 [some (.ref (X.G.ad 5 0)), some (.int x1), some (.int x2), none, none, some (.int (0 : Int32))] [] μ7)))))) ∧ (¬ (x2 - x1) ≤ (8 : Int32) → ((vp_in (μ2.1 5 0 1) 1001) ∧ (∀ μ9 : zM, μ9 = pI μ2 28 0 (ix (μ2.1 5 0 1)) (4 : Int32) → (Post (some (.int x2)) μ9))))))) :
    AW X 49 [some (.ref (X.G.ad 5 0)), some (.int x1), some (.int x2), some (.long x3), none, none] [] μ := by
  refine aw_aload_n hX dX5_splitWord_49 rfl ?_
  refine aw_getr (o' := 0) hX kf_X5_32 sh_5 (by decide) rfl rfl dX5_splitWord_50 ?_
  refine aw_aload_n hX dX5_splitWord_53 rfl ?_
  refine aw_geti hX kf_X5_40 sh_5 (by decide) rfl dX5_splitWord_54 ?_
  refine aw_lload_n hX dX5_splitWord_57 rfl ?_
  have s1 := k.1
  have k := k.2
  refine aw_last' (k := (ix (μ.1 5 0 1))) hX sh_31 (by decide) s1 rfl dX5_splitWord_58 ?_
  refine aw_mem (fun μ2 eμ2 => ?_)
  have k := k μ2 eμ2
  refine aw_iload_n hX dX5_splitWord_59 rfl ?_
  refine aw_iload_n hX dX5_splitWord_60 rfl ?_
  refine aw_isub hX dX5_splitWord_61 ?_
  refine aw_bipush hX dX5_splitWord_62 zb_8 ?_
  refine aw_icmp_le (tgt := 79) hX dX5_splitWord_64 (by decide) (fun c3 => ?_) (fun c3 => ?_)
  · have k := k.1 c3
    refine aw_aload_n hX dX5_splitWord_79 rfl ?_
    refine aw_getr (o' := 0) hX kf_X5_15 sh_5 (by decide) rfl rfl dX5_splitWord_80 ?_
    refine aw_aload_n hX dX5_splitWord_83 rfl ?_
    refine aw_geti hX kf_X5_40 sh_5 (by decide) rfl dX5_splitWord_84 ?_
    refine aw_iconst hX dX5_splitWord_87 zk_1 ?_
    have s4 := k.1
    have k := k.2
    refine aw_iast' (k := (ix (μ2.1 5 0 1))) hX sh_28 (by decide) s4 rfl dX5_splitWord_88 ?_
    refine aw_mem (fun μ5 eμ5 => ?_)
    have k := k μ5 eμ5
    refine aw_aload_n hX dX5_splitWord_89 rfl ?_
    refine aw_getr (o' := 0) hX kf_X5_24 sh_5 (by decide) rfl rfl dX5_splitWord_90 ?_
    refine aw_aload_n hX dX5_splitWord_93 rfl ?_
    refine aw_geti hX kf_X5_40 sh_5 (by decide) rfl dX5_splitWord_94 ?_
    refine aw_gsE (i := 1) (n := "NAME") hE hX (by decide) (by decide) ks_X5_70 dX5_splitWord_97 ?_
    have s6 := k.1
    have k := k.2
    refine aw_waast (k := (ix (μ5.1 5 0 1))) hE hX (by decide) sh_30 (by decide) s6 rfl dX5_splitWord_100 ?_
    refine aw_mem (fun μ7 eμ7 => ?_)
    have k := k μ7 eμ7
    refine aw_iconst hX dX5_splitWord_101 zk_0 ?_
    refine aw_istore (L' := [some (.ref (X.G.ad 5 0)), some (.int x1), some (.int x2), some (.long x3), none, some (.int (0 : Int32))]) hX dX5_splitWord_102 (Nat.le_of_ble_eq_true rfl) rfl ?_
    exact aw_less (zle_s (zle_s (zle_s (zle_o (zle_o (zle_s zle_n)))))) k
  · have k := k.2 c3
    refine aw_aload_n hX dX5_splitWord_67 rfl ?_
    refine aw_getr (o' := 0) hX kf_X5_15 sh_5 (by decide) rfl rfl dX5_splitWord_68 ?_
    refine aw_aload_n hX dX5_splitWord_71 rfl ?_
    refine aw_geti hX kf_X5_40 sh_5 (by decide) rfl dX5_splitWord_72 ?_
    refine aw_iconst hX dX5_splitWord_75 zk_4 ?_
    have s8 := k.1
    have k := k.2
    refine aw_iast' (k := (ix (μ2.1 5 0 1))) hX sh_28 (by decide) s8 rfl dX5_splitWord_76 ?_
    refine aw_mem (fun μ9 eμ9 => ?_)
    have k := k μ9 eμ9
    refine aw_iload_n hX dX5_splitWord_77 rfl ?_
    exact aw_iret hX hr dX5_splitWord_78 k

set_option maxRecDepth 100000 in
set_option maxHeartbeats 4000000 in
theorem st_X5_splitWord_104 {X : zX} {lv : Nat} {Post : Option Value → zM → Prop} (hX : zOk X cX5_splitWord RX5 6 lv) (hr : zRt X (some .int) Post) (hE : zHas X.G)  {x1 : Int32} {x2 : Int32} {x5 : Int32} {μ : zM}
    (k : ((28 : Int32) ≤ x5 → (Post (some (.int x2)) μ)) ∧ (¬ (28 : Int32) ≤ x5 → ((vp_in x5 28) ∧ (zCallI X lv yX5_standsAt cX5_standsAt 5 (some .boolean) [.ref (X.G.ad 5 0), .ref (X.G.aw (100 + (ix x5))), .int x1, .int x2] μ (fun (r3 : Int32) μ4 => (r3 = 0 → (∀ v6 : Int32, v6 = x5 + (1 : Int32) → (AW X 104 [some (.ref (X.G.ad 5 0)), some (.int x1), some (.int x2), none, none, some (.int v6)] [] μ4))) ∧ (¬ r3 = 0 → ((vp_in (μ4.1 5 0 1) 1001) ∧ (∀ μ8 : zM, μ8 = pI μ4 30 0 (ix (μ4.1 5 0 1)) (nI (ix x5)) → (∀ v9 : Int32, v9 = x5 + (1 : Int32) → (AW X 104 [some (.ref (X.G.ad 5 0)), some (.int x1), some (.int x2), none, none, some (.int v9)] [] μ8)))))))))) :
    AW X 104 [some (.ref (X.G.ad 5 0)), some (.int x1), some (.int x2), none, none, some (.int x5)] [] μ := by
  refine aw_iload hX dX5_splitWord_104 rfl ?_
  refine aw_gsW hE hX ks_X5_73 dX5_splitWord_106 ?_
  refine aw_alW hE hX dX5_splitWord_109 ?_
  refine aw_icmp_ge (tgt := 152) hX dX5_splitWord_110 (by decide) (fun c1 => ?_) (fun c1 => ?_)
  · have k := k.1 c1
    refine aw_iload_n hX dX5_splitWord_152 rfl ?_
    exact aw_iret hX hr dX5_splitWord_153 k
  · have k := k.2 c1
    refine aw_aload_n hX dX5_splitWord_113 rfl ?_
    refine aw_gsW hE hX ks_X5_73 dX5_splitWord_114 ?_
    refine aw_iload hX dX5_splitWord_117 rfl ?_
    have s2 := k.1
    have k := k.2
    refine aw_aaW (k := (ix x5)) hE hX s2 rfl dX5_splitWord_119 ?_
    refine aw_gEt hE hX (zix s2) ks_X5_76 dX5_splitWord_120 ?_
    refine aw_iload_n hX dX5_splitWord_123 rfl ?_
    refine aw_iload_n hX dX5_splitWord_124 rfl ?_
    refine aw_invI (As := [.ref (X.G.aw (100 + (ix x5))), .int x1, .int x2]) (rest := []) (κ := 5) (o := 0) (T := TX5) (N := 7) hX vc_X5_80 sh_5 (by decide) rfl rfl rfl (Nat.le_of_ble_eq_true rfl) dX5_splitWord_125 k (fun r3 μ4 k => ?_)
    refine aw_if_eq (tgt := 146) hX dX5_splitWord_128 (by decide) (fun c5 => ?_) (fun c5 => ?_)
    · have k := k.1 c5
      obtain ⟨v6, ev6⟩ : ∃ y : Int32, y = x5 + (1 : Int32) := ⟨_, rfl⟩
      have k := k v6 ev6
      refine aw_iinc (v := v6) (L' := [some (.ref (X.G.ad 5 0)), some (.int x1), some (.int x2), none, none, some (.int v6)]) hX dX5_splitWord_146 rfl (by rw [ev6]; rfl) (Nat.le_of_ble_eq_true rfl) rfl ?_
      refine aw_goto (tgt := 104) hX dX5_splitWord_149 (by decide) ?_
      exact k
    · have k := k.2 c5
      refine aw_aload_n hX dX5_splitWord_131 rfl ?_
      refine aw_getr (o' := 0) hX kf_X5_24 sh_5 (by decide) rfl rfl dX5_splitWord_132 ?_
      refine aw_aload_n hX dX5_splitWord_135 rfl ?_
      refine aw_geti hX kf_X5_40 sh_5 (by decide) rfl dX5_splitWord_136 ?_
      refine aw_gsW hE hX ks_X5_73 dX5_splitWord_139 ?_
      refine aw_iload hX dX5_splitWord_142 rfl ?_
      refine aw_aaW (k := (ix x5)) hE hX s2 rfl dX5_splitWord_144 ?_
      have s7 := k.1
      have k := k.2
      refine aw_waast (k := (ix (μ4.1 5 0 1))) hE hX (zix s2) sh_30 (by decide) s7 rfl dX5_splitWord_145 ?_
      refine aw_mem (fun μ8 eμ8 => ?_)
      have k := k μ8 eμ8
      obtain ⟨v9, ev9⟩ : ∃ y : Int32, y = x5 + (1 : Int32) := ⟨_, rfl⟩
      have k := k v9 ev9
      refine aw_iinc (v := v9) (L' := [some (.ref (X.G.ad 5 0)), some (.int x1), some (.int x2), none, none, some (.int v9)]) hX dX5_splitWord_146 rfl (by rw [ev9]; rfl) (Nat.le_of_ble_eq_true rfl) rfl ?_
      refine aw_goto (tgt := 104) hX dX5_splitWord_149 (by decide) ?_
      exact k

set_option maxRecDepth 100000 in
set_option maxHeartbeats 4000000 in
theorem st_X5_standsAt_0 {X : zX} {lv : Nat} {Post : Option Value → zM → Prop} (hX : zOk X cX5_standsAt RX5 5 lv) (hr : zRt X (some .boolean) Post) (hE : zHas X.G) {k1 : Nat} (hk1 : k1 < 31) {x2 : Int32} {x3 : Int32} {μ : zM}
    (k : zCallI X lv yJ0_length_8abf5 cJ0_length_8abf5 1 (some .int) [.ref (X.G.aw (100 + k1))] μ (fun (r1 : Int32) μ2 => (r1 = (x3 - x2) → (AW X 15 [some (.ref (X.G.ad 5 0)), some (.ref (X.G.aw (100 + k1))), some (.int x2), none, some (.int (0 : Int32))] [] μ2)) ∧ (¬ r1 = (x3 - x2) → (Post (some (.int (0 : Int32))) μ2)))) :
    AW X 0 [some (.ref (X.G.ad 5 0)), some (.ref (X.G.aw (100 + k1))), some (.int x2), some (.int x3), none] [] μ := by
  refine aw_aload_n hX dX5_standsAt_0 rfl ?_
  refine aw_invTI (As := []) (rest := []) (i := k1) hE hX hk1 vc_X5_84 rfl rfl rfl (Nat.le_of_ble_eq_true rfl) dX5_standsAt_1 k (fun r1 μ2 k => ?_)
  refine aw_iload_n hX dX5_standsAt_4 rfl ?_
  refine aw_iload_n hX dX5_standsAt_5 rfl ?_
  refine aw_isub hX dX5_standsAt_6 ?_
  refine aw_icmp_eq (tgt := 12) hX dX5_standsAt_7 (by decide) (fun c3 => ?_) (fun c3 => ?_)
  · have k := k.1 c3
    refine aw_iconst hX dX5_standsAt_12 zk_0 ?_
    refine aw_istore (L' := [some (.ref (X.G.ad 5 0)), some (.ref (X.G.aw (100 + k1))), some (.int x2), some (.int x3), some (.int (0 : Int32))]) hX dX5_standsAt_13 (Nat.le_of_ble_eq_true rfl) rfl ?_
    exact aw_less (zle_s (zle_s (zle_s (zle_o (zle_s zle_n))))) k
  · have k := k.2 c3
    refine aw_iconst hX dX5_standsAt_10 zk_0 ?_
    exact aw_zret hX hr (by decide) dX5_standsAt_11 k

set_option maxRecDepth 100000 in
set_option maxHeartbeats 4000000 in
theorem st_X5_standsAt_15 {X : zX} {lv : Nat} {Post : Option Value → zM → Prop} (hX : zOk X cX5_standsAt RX5 5 lv) (hr : zRt X (some .boolean) Post) (hE : zHas X.G) {k1 : Nat} (hk1 : k1 < 31) {x2 : Int32} {x4 : Int32} {μ : zM}
    (k : zCallI X lv yJ0_length_8abf5 cJ0_length_8abf5 1 (some .int) [.ref (X.G.aw (100 + k1))] μ (fun (r1 : Int32) μ2 => (r1 ≤ x4 → (Post (some (.int (1 : Int32))) μ2)) ∧ (¬ r1 ≤ x4 → (zCallI X lv yJ0_charAt_5068e cJ0_charAt_5068e 2 (some .char) [.ref (X.G.aw (100 + k1)), .int x4] μ2 (fun (r4 : Int32) μ5 => (vp_in (x2 + x4) 1000) ∧ ((r4 = (μ5.1 27 0 (ix (x2 + x4))) → (∀ v8 : Int32, v8 = x4 + (1 : Int32) → (AW X 15 [some (.ref (X.G.ad 5 0)), some (.ref (X.G.aw (100 + k1))), some (.int x2), none, some (.int v8)] [] μ5))) ∧ (¬ r4 = (μ5.1 27 0 (ix (x2 + x4))) → (Post (some (.int (0 : Int32))) μ5)))))))) :
    AW X 15 [some (.ref (X.G.ad 5 0)), some (.ref (X.G.aw (100 + k1))), some (.int x2), none, some (.int x4)] [] μ := by
  refine aw_iload hX dX5_standsAt_15 rfl ?_
  refine aw_aload_n hX dX5_standsAt_17 rfl ?_
  refine aw_invTI (As := []) (rest := [.int x4]) (i := k1) hE hX hk1 vc_X5_84 rfl rfl rfl (Nat.le_of_ble_eq_true rfl) dX5_standsAt_18 k (fun r1 μ2 k => ?_)
  refine aw_icmp_ge (tgt := 50) hX dX5_standsAt_21 (by decide) (fun c3 => ?_) (fun c3 => ?_)
  · have k := k.1 c3
    refine aw_iconst hX dX5_standsAt_50 zk_1 ?_
    exact aw_zret hX hr (by decide) dX5_standsAt_51 k
  · have k := k.2 c3
    refine aw_aload_n hX dX5_standsAt_24 rfl ?_
    refine aw_iload hX dX5_standsAt_25 rfl ?_
    refine aw_invTI (As := [.int x4]) (rest := []) (i := k1) hE hX hk1 vc_X5_87 rfl rfl rfl (Nat.le_of_ble_eq_true rfl) dX5_standsAt_27 k (fun r4 μ5 k => ?_)
    refine aw_aload_n hX dX5_standsAt_30 rfl ?_
    refine aw_getr (o' := 0) hX kf_X5_9 sh_5 (by decide) rfl rfl dX5_standsAt_31 ?_
    refine aw_iload_n hX dX5_standsAt_34 rfl ?_
    refine aw_iload hX dX5_standsAt_35 rfl ?_
    refine aw_iadd hX dX5_standsAt_37 ?_
    have s6 := k.1
    have k := k.2
    refine aw_cald' (k := (ix (x2 + x4))) hX sh_27 (by decide) s6 rfl dX5_standsAt_38 ?_
    refine aw_icmp_eq (tgt := 44) hX dX5_standsAt_39 (by decide) (fun c7 => ?_) (fun c7 => ?_)
    · have k := k.1 c7
      obtain ⟨v8, ev8⟩ : ∃ y : Int32, y = x4 + (1 : Int32) := ⟨_, rfl⟩
      have k := k v8 ev8
      refine aw_iinc (v := v8) (L' := [some (.ref (X.G.ad 5 0)), some (.ref (X.G.aw (100 + k1))), some (.int x2), none, some (.int v8)]) hX dX5_standsAt_44 rfl (by rw [ev8]; rfl) (Nat.le_of_ble_eq_true rfl) rfl ?_
      refine aw_goto (tgt := 15) hX dX5_standsAt_47 (by decide) ?_
      exact k
    · have k := k.2 c7
      refine aw_iconst hX dX5_standsAt_42 zk_0 ?_
      exact aw_zret hX hr (by decide) dX5_standsAt_43 k

set_option maxRecDepth 100000 in
set_option maxHeartbeats 4000000 in
theorem st_X5_isWord_0 {X : zX} {lv : Nat} {Post : Option Value → zM → Prop} (hX : zOk X cX5_isWord RX5 2 lv) (hr : zRt X (some .boolean) Post) (hE : zHas X.G) {w1 : Nat} (hw1 : w1 < 28)  {μ : zM}
    (k : (vp_in (μ.1 5 0 1) 1001) ∧ (((ix (μ.1 30 0 (ix (μ.1 5 0 1)))) < 28) ∧ ((¬ (ix (μ.1 30 0 (ix (μ.1 5 0 1)))) = w1 → (Post (some (.int (0 : Int32))) μ)) ∧ ((ix (μ.1 30 0 (ix (μ.1 5 0 1)))) = w1 → (Post (some (.int (1 : Int32))) μ))))) :
    AW X 0 [some (.ref (X.G.ad 5 0)), some (.ref (X.G.aw w1))] [] μ := by
  refine aw_aload_n hX dX5_isWord_0 rfl ?_
  refine aw_getr (o' := 0) hX kf_X5_24 sh_5 (by decide) rfl rfl dX5_isWord_1 ?_
  refine aw_aload_n hX dX5_isWord_4 rfl ?_
  refine aw_geti hX kf_X5_40 sh_5 (by decide) rfl dX5_isWord_5 ?_
  have s1 := k.1
  have k := k.2
  refine aw_waald' (k := (ix (μ.1 5 0 1))) hX sh_30 (by decide) s1 rfl dX5_isWord_8 ?_
  refine aw_aload_n hX dX5_isWord_9 rfl ?_
  have s2 := k.1
  have k := k.2
  refine aw_acmp_ne (tgt := 17) hE hX s2 hw1 dX5_isWord_10 (by decide) (fun c3 => ?_) (fun c3 => ?_)
  · have k := k.1 c3
    refine aw_iconst hX dX5_isWord_17 zk_0 ?_
    exact aw_zret hX hr (by decide) dX5_isWord_18 k
  · have k := k.2 c3
    refine aw_iconst hX dX5_isWord_13 zk_1 ?_
    refine aw_goto (tgt := 18) hX dX5_isWord_14 (by decide) ?_
    exact aw_zret hX hr (by decide) dX5_isWord_18 k

