set_option maxRecDepth 100000 in
set_option maxHeartbeats 4000000 in
theorem st_X11_thrown_0 {X : zX} {lv : Nat} {Post : Option Value → zM → Prop} (hX : zOk X cX11_thrown RX11 1 lv) (hr : zRt X (some .int) Post)   {μ : zM}
    (k : Post (some (.int (μ.1 11 0 0))) μ) :
    AW X 0 [some (.ref (X.G.ad 11 0))] [] μ := by
  refine aw_aload_n hX dX11_thrown_0 rfl ?_
  refine aw_geti hX kf_X11_132 sh_11 (by decide) rfl dX11_thrown_1 ?_
  exact aw_iret hX hr dX11_thrown_4 k

set_option maxRecDepth 100000 in
set_option maxHeartbeats 4000000 in
theorem st_X11_within_0 {X : zX} {lv : Nat} {Post : Option Value → zM → Prop} (hX : zOk X cX11_within RX11 3 lv) (hr : zRt X (some .boolean) Post)  {x0 : Int32} {x1 : Int32} {x2 : Int32} {μ : zM}
    (k : (x0 < x1 → (Post (some (.int (0 : Int32))) μ)) ∧ (¬ x0 < x1 → ((x2 < x0 → (Post (some (.int (0 : Int32))) μ)) ∧ (¬ x2 < x0 → (Post (some (.int (1 : Int32))) μ))))) :
    AW X 0 [some (.int x0), some (.int x1), some (.int x2)] [] μ := by
  refine aw_iload_n hX dX11_within_0 rfl ?_
  refine aw_iload_n hX dX11_within_1 rfl ?_
  refine aw_icmp_lt (tgt := 14) hX dX11_within_2 (by decide) (fun c1 => ?_) (fun c1 => ?_)
  · have k := k.1 c1
    refine aw_iconst hX dX11_within_14 zk_0 ?_
    exact aw_zret hX hr (by decide) dX11_within_15 k
  · have k := k.2 c1
    refine aw_iload_n hX dX11_within_5 rfl ?_
    refine aw_iload_n hX dX11_within_6 rfl ?_
    refine aw_icmp_gt (tgt := 14) hX dX11_within_7 (by decide) (fun c2 => ?_) (fun c2 => ?_)
    · have k := k.1 c2
      refine aw_iconst hX dX11_within_14 zk_0 ?_
      exact aw_zret hX hr (by decide) dX11_within_15 k
    · have k := k.2 c2
      refine aw_iconst hX dX11_within_10 zk_1 ?_
      refine aw_goto (tgt := 15) hX dX11_within_11 (by decide) ?_
      exact aw_zret hX hr (by decide) dX11_within_15 k

set_option maxRecDepth 100000 in
set_option maxHeartbeats 4000000 in
theorem st_X11_gcd_0 {X : zX} {lv : Nat} {Post : Option Value → zM → Prop} (hX : zOk X cX11_gcd RX11 10 lv) (hr : zRt X (some .long) Post)  {x0 : Int64} {x2 : Int64} {μ : zM}
    (k : AW X 6 [none, none, none, none, some (.long x0), none, some (.long x2), none, none, none] [] μ) :
    AW X 0 [some (.long x0), none, some (.long x2), none, none, none, none, none, none, none] [] μ := by
  refine aw_lload_n hX dX11_gcd_0 rfl ?_
  refine aw_lstore (L' := [some (.long x0), none, some (.long x2), none, some (.long x0), none, none, none, none, none]) hX dX11_gcd_1 (Nat.le_of_ble_eq_true rfl) rfl ?_
  refine aw_lload_n hX dX11_gcd_3 rfl ?_
  refine aw_lstore (L' := [some (.long x0), none, some (.long x2), none, some (.long x0), none, some (.long x2), none, none, none]) hX dX11_gcd_4 (Nat.le_of_ble_eq_true rfl) rfl ?_
  exact aw_less (zle_o (zle_o (zle_o (zle_o (zle_s (zle_o (zle_s (zle_o (zle_o (zle_o zle_n)))))))))) k

set_option maxRecDepth 100000 in
set_option maxHeartbeats 4000000 in
theorem st_X11_gcd_6 {X : zX} {lv : Nat} {Post : Option Value → zM → Prop} (hX : zOk X cX11_gcd RX11 10 lv) (hr : zRt X (some .long) Post)  {x4 : Int64} {x6 : Int64} {μ : zM}
    (k : ((lg_cmp x6 (0 : Int64)) = 0 → (Post (some (.long x4)) μ)) ∧ (¬ (lg_cmp x6 (0 : Int64)) = 0 → ((¬ x6 = 0) ∧ (∀ v3 : Int64, v3 = (x4 - x4 / x6 * x6) → (AW X 6 [none, none, none, none, some (.long x6), none, some (.long v3), none, none, none] [] μ))))) :
    AW X 6 [none, none, none, none, some (.long x4), none, some (.long x6), none, none, none] [] μ := by
  refine aw_lload hX dX11_gcd_6 rfl ?_
  refine aw_lconst (v := (0 : Int64)) hX dX11_gcd_8 (by decide) ?_
  refine aw_lcmp hX dX11_gcd_9 ?_
  refine aw_if_eq (tgt := 31) hX dX11_gcd_10 (by decide) (fun c1 => ?_) (fun c1 => ?_)
  · have k := k.1 c1
    refine aw_lload hX dX11_gcd_31 rfl ?_
    exact aw_lret hX hr dX11_gcd_33 k
  · have k := k.2 c1
    refine aw_lload hX dX11_gcd_13 rfl ?_
    refine aw_lload hX dX11_gcd_15 rfl ?_
    have s2 := k.1
    have k := k.2
    refine aw_lrem hX dX11_gcd_17 s2 ?_
    refine aw_topl (fun v3 ev3 => ?_)
    have k := k v3 ev3
    refine aw_lstore (L' := [none, none, none, none, some (.long x4), none, some (.long x6), none, some (.long v3), none]) hX dX11_gcd_18 (Nat.le_of_ble_eq_true rfl) rfl ?_
    refine aw_lload hX dX11_gcd_20 rfl ?_
    refine aw_lstore (L' := [none, none, none, none, some (.long x6), none, some (.long x6), none, some (.long v3), none]) hX dX11_gcd_22 (Nat.le_of_ble_eq_true rfl) rfl ?_
    refine aw_lload hX dX11_gcd_24 rfl ?_
    refine aw_lstore (L' := [none, none, none, none, some (.long x6), none, some (.long v3), none, some (.long v3), none]) hX dX11_gcd_26 (Nat.le_of_ble_eq_true rfl) rfl ?_
    refine aw_goto (tgt := 6) hX dX11_gcd_28 (by decide) ?_
    exact aw_less (zle_o (zle_o (zle_o (zle_o (zle_s (zle_o (zle_s (zle_o (zle_o (zle_o zle_n)))))))))) k

set_option maxRecDepth 100000 in
set_option maxHeartbeats 4000000 in
theorem st_X11_feed_0 {X : zX} {lv : Nat} {Post : Option Value → zM → Prop} (hX : zOk X cX11_feed RX11 11 lv) (hr : zRt X (some .int) Post)  {x1 : Int64} {x3 : Int64} {x5 : Int64} {μ : zM}
    (k : ∀ μ1 : zM, μ1 = pI μ 11 0 0 (0 : Int32) → (AW X 8 [some (.ref (X.G.ad 11 0)), some (.long x1), none, some (.long x3), none, some (.long x5), none, some (.int (0 : Int32)), none, none, none] [] μ1)) :
    AW X 0 [some (.ref (X.G.ad 11 0)), some (.long x1), none, some (.long x3), none, some (.long x5), none, none, none, none, none] [] μ := by
  refine aw_aload_n hX dX11_feed_0 rfl ?_
  refine aw_iconst hX dX11_feed_1 zk_0 ?_
  refine aw_puti hX kp_X11_132 sh_11 (by decide) rfl rfl rfl dX11_feed_2 ?_
  refine aw_mem (fun μ1 eμ1 => ?_)
  have k := k μ1 eμ1
  refine aw_iconst hX dX11_feed_5 zk_0 ?_
  refine aw_istore (L' := [some (.ref (X.G.ad 11 0)), some (.long x1), none, some (.long x3), none, some (.long x5), none, some (.int (0 : Int32)), none, none, none]) hX dX11_feed_6 (Nat.le_of_ble_eq_true rfl) rfl ?_
  exact k

set_option maxRecDepth 100000 in
set_option maxHeartbeats 4000000 in
theorem st_X11_feed_8 {X : zX} {lv : Nat} {Post : Option Value → zM → Prop} (hX : zOk X cX11_feed RX11 11 lv) (hr : zRt X (some .int) Post)  {x1 : Int64} {x3 : Int64} {x5 : Int64} {x7 : Int32} {μ : zM}
    (k : ((24 : Int32) ≤ x7 → (Post (some (.int (μ.1 11 0 1))) μ)) ∧ (¬ (24 : Int32) ≤ x7 → (((8 : Int32) ≤ x7 → (((16 : Int32) ≤ x7 → (∀ v4 : Int32, v4 = (Int64.toInt32 ((UInt64.toInt64 (Int64.toUInt64 x5 >>> (Int64.toUInt64 (Int32.toInt64 ((56 : Int32) - ((8 : Int32) * (x7 &&& (7 : Int32))))) &&& Int64.toUInt64 63))) &&& (255 : Int64))) → (((1000 : Int32) ≤ (μ.1 11 0 1) → (∀ v6 : Int32, v6 = x7 + (1 : Int32) → (AW X 8 [some (.ref (X.G.ad 11 0)), some (.long x1), none, some (.long x3), none, some (.long x5), none, some (.int v6), none, none, none] [] μ))) ∧ (¬ (1000 : Int32) ≤ (μ.1 11 0 1) → ((v4 = (10 : Int32) → ((vp_in (μ.1 11 0 1) 1000) ∧ (∀ μ9 : zM, μ9 = pI μ 35 0 (ix (μ.1 11 0 1)) v4 → (∀ μ10 : zM, μ10 = pI μ9 11 0 1 ((μ9.1 11 0 1) + (1 : Int32)) → (∀ v11 : Int32, v11 = x7 + (1 : Int32) → (AW X 8 [some (.ref (X.G.ad 11 0)), some (.long x1), none, some (.long x3), none, some (.long x5), none, some (.int v11), none, none, none] [] μ10)))))) ∧ (¬ v4 = (10 : Int32) → ((v4 < (32 : Int32) → (∀ v13 : Int32, v13 = x7 + (1 : Int32) → (AW X 8 [some (.ref (X.G.ad 11 0)), some (.long x1), none, some (.long x3), none, some (.long x5), none, some (.int v13), none, none, none] [] μ))) ∧ (¬ v4 < (32 : Int32) → (((126 : Int32) < v4 → (∀ v15 : Int32, v15 = x7 + (1 : Int32) → (AW X 8 [some (.ref (X.G.ad 11 0)), some (.long x1), none, some (.long x3), none, some (.long x5), none, some (.int v15), none, none, none] [] μ))) ∧ (¬ (126 : Int32) < v4 → ((vp_in (μ.1 11 0 1) 1000) ∧ (∀ μ17 : zM, μ17 = pI μ 35 0 (ix (μ.1 11 0 1)) v4 → (∀ μ18 : zM, μ18 = pI μ17 11 0 1 ((μ17.1 11 0 1) + (1 : Int32)) → (∀ v19 : Int32, v19 = x7 + (1 : Int32) → (AW X 8 [some (.ref (X.G.ad 11 0)), some (.long x1), none, some (.long x3), none, some (.long x5), none, some (.int v19), none, none, none] [] μ18))))))))))))))) ∧ (¬ (16 : Int32) ≤ x7 → (∀ v20 : Int32, v20 = (Int64.toInt32 ((UInt64.toInt64 (Int64.toUInt64 x3 >>> (Int64.toUInt64 (Int32.toInt64 ((56 : Int32) - ((8 : Int32) * (x7 &&& (7 : Int32))))) &&& Int64.toUInt64 63))) &&& (255 : Int64))) → (((1000 : Int32) ≤ (μ.1 11 0 1) → (∀ v22 : Int32, v22 = x7 + (1 : Int32) → (AW X 8 [some (.ref (X.G.ad 11 0)), some (.long x1), none, some (.long x3), none, some (.long x5), none, some (.int v22), none, none, none] [] μ))) ∧ (¬ (1000 : Int32) ≤ (μ.1 11 0 1) → ((v20 = (10 : Int32) → ((vp_in (μ.1 11 0 1) 1000) ∧ (∀ μ25 : zM, μ25 = pI μ 35 0 (ix (μ.1 11 0 1)) v20 → (∀ μ26 : zM, μ26 = pI μ25 11 0 1 ((μ25.1 11 0 1) + (1 : Int32)) → (∀ v27 : Int32, v27 = x7 + (1 : Int32) → (AW X 8 [some (.ref (X.G.ad 11 0)), some (.long x1), none, some (.long x3), none, some (.long x5), none, some (.int v27), none, none, none] [] μ26)))))) ∧ (¬ v20 = (10 : Int32) → ((v20 < (32 : Int32) → (∀ v29 : Int32, v29 = x7 + (1 : Int32) → (AW X 8 [some (.ref (X.G.ad 11 0)), some (.long x1), none, some (.long x3), none, some (.long x5), none, some (.int v29), none, none, none] [] μ))) ∧ (¬ v20 < (32 : Int32) → (((126 : Int32) < v20 → (∀ v31 : Int32, v31 = x7 + (1 : Int32) → (AW X 8 [some (.ref (X.G.ad 11 0)), some (.long x1), none, some (.long x3), none, some (.long x5), none, some (.int v31), none, none, none] [] μ))) ∧ (¬ (126 : Int32) < v20 → ((vp_in (μ.1 11 0 1) 1000) ∧ (∀ μ33 : zM, μ33 = pI μ 35 0 (ix (μ.1 11 0 1)) v20 → (∀ μ34 : zM, μ34 = pI μ33 11 0 1 ((μ33.1 11 0 1) + (1 : Int32)) → (∀ v35 : Int32, v35 = x7 + (1 : Int32) → (AW X 8 [some (.ref (X.G.ad 11 0)), some (.long x1), none, some (.long x3), none, some (.long x5), none, some (.int v35), none, none, none] [] μ34))))))))))))))))) ∧ (¬ (8 : Int32) ≤ x7 → (∀ v36 : Int32, v36 = (Int64.toInt32 ((UInt64.toInt64 (Int64.toUInt64 x1 >>> (Int64.toUInt64 (Int32.toInt64 ((56 : Int32) - ((8 : Int32) * (x7 &&& (7 : Int32))))) &&& Int64.toUInt64 63))) &&& (255 : Int64))) → (((1000 : Int32) ≤ (μ.1 11 0 1) → (∀ v38 : Int32, v38 = x7 + (1 : Int32) → (AW X 8 [some (.ref (X.G.ad 11 0)), some (.long x1), none, some (.long x3), none, some (.long x5), none, some (.int v38), none, none, none] [] μ))) ∧ (¬ (1000 : Int32) ≤ (μ.1 11 0 1) → ((v36 = (10 : Int32) → ((vp_in (μ.1 11 0 1) 1000) ∧ (∀ μ41 : zM, μ41 = pI μ 35 0 (ix (μ.1 11 0 1)) v36 → (∀ μ42 : zM, μ42 = pI μ41 11 0 1 ((μ41.1 11 0 1) + (1 : Int32)) → (∀ v43 : Int32, v43 = x7 + (1 : Int32) → (AW X 8 [some (.ref (X.G.ad 11 0)), some (.long x1), none, some (.long x3), none, some (.long x5), none, some (.int v43), none, none, none] [] μ42)))))) ∧ (¬ v36 = (10 : Int32) → ((v36 < (32 : Int32) → (∀ v45 : Int32, v45 = x7 + (1 : Int32) → (AW X 8 [some (.ref (X.G.ad 11 0)), some (.long x1), none, some (.long x3), none, some (.long x5), none, some (.int v45), none, none, none] [] μ))) ∧ (¬ v36 < (32 : Int32) → (((126 : Int32) < v36 → (∀ v47 : Int32, v47 = x7 + (1 : Int32) → (AW X 8 [some (.ref (X.G.ad 11 0)), some (.long x1), none, some (.long x3), none, some (.long x5), none, some (.int v47), none, none, none] [] μ))) ∧ (¬ (126 : Int32) < v36 → ((vp_in (μ.1 11 0 1) 1000) ∧ (∀ μ49 : zM, μ49 = pI μ 35 0 (ix (μ.1 11 0 1)) v36 → (∀ μ50 : zM, μ50 = pI μ49 11 0 1 ((μ49.1 11 0 1) + (1 : Int32)) → (∀ v51 : Int32, v51 = x7 + (1 : Int32) → (AW X 8 [some (.ref (X.G.ad 11 0)), some (.long x1), none, some (.long x3), none, some (.long x5), none, some (.int v51), none, none, none] [] μ50)))))))))))))))))) :
    AW X 8 [some (.ref (X.G.ad 11 0)), some (.long x1), none, some (.long x3), none, some (.long x5), none, some (.int x7), none, none, none] [] μ := by
  refine aw_iload hX dX11_feed_8 rfl ?_
  refine aw_bipush hX dX11_feed_10 zb_24 ?_
  refine aw_icmp_ge (tgt := 120) hX dX11_feed_12 (by decide) (fun c1 => ?_) (fun c1 => ?_)
  · have k := k.1 c1
    refine aw_aload_n hX dX11_feed_120 rfl ?_
    refine aw_geti hX kf_X11_138 sh_11 (by decide) rfl dX11_feed_121 ?_
    exact aw_iret hX hr dX11_feed_124 k
  · have k := k.2 c1
    refine aw_iload hX dX11_feed_15 rfl ?_
    refine aw_bipush hX dX11_feed_17 zb_8 ?_
    refine aw_icmp_ge (tgt := 26) hX dX11_feed_19 (by decide) (fun c2 => ?_) (fun c2 => ?_)
    · have k := k.1 c2
      refine aw_iload hX dX11_feed_26 rfl ?_
      refine aw_bipush hX dX11_feed_28 zb_16 ?_
      refine aw_icmp_ge (tgt := 37) hX dX11_feed_30 (by decide) (fun c3 => ?_) (fun c3 => ?_)
      · have k := k.1 c3
        refine aw_lload hX dX11_feed_37 rfl ?_
        refine aw_lstore (L' := [some (.ref (X.G.ad 11 0)), some (.long x1), none, some (.long x3), none, some (.long x5), none, some (.int x7), some (.long x5), none, none]) hX dX11_feed_39 (Nat.le_of_ble_eq_true rfl) rfl ?_
        refine aw_lload hX dX11_feed_41 rfl ?_
        refine aw_bipush hX dX11_feed_43 zb_56 ?_
        refine aw_bipush hX dX11_feed_45 zb_8 ?_
        refine aw_iload hX dX11_feed_47 rfl ?_
        refine aw_bipush hX dX11_feed_49 zb_7 ?_
        refine aw_iand hX dX11_feed_51 ?_
        refine aw_imul hX dX11_feed_52 ?_
        refine aw_isub hX dX11_feed_53 ?_
        refine aw_lushr hX dX11_feed_54 ?_
        refine aw_ldc2 hX kl_X11_136 dX11_feed_55 ?_
        refine aw_land hX dX11_feed_58 ?_
        refine aw_l2i hX dX11_feed_59 ?_
        refine aw_topi (fun v4 ev4 => ?_)
        have k := k v4 ev4
        refine aw_istore (L' := [some (.ref (X.G.ad 11 0)), some (.long x1), none, some (.long x3), none, some (.long x5), none, some (.int x7), some (.long x5), none, some (.int v4)]) hX dX11_feed_60 (Nat.le_of_ble_eq_true rfl) rfl ?_
        refine aw_aload_n hX dX11_feed_62 rfl ?_
        refine aw_geti hX kf_X11_138 sh_11 (by decide) rfl dX11_feed_63 ?_
        refine aw_sipush hX dX11_feed_66 zs_1000 ?_
        refine aw_icmp_ge (tgt := 114) hX dX11_feed_69 (by decide) (fun c5 => ?_) (fun c5 => ?_)
        · have k := k.1 c5
          obtain ⟨v6, ev6⟩ : ∃ y : Int32, y = x7 + (1 : Int32) := ⟨_, rfl⟩
          have k := k v6 ev6
          refine aw_iinc (v := v6) (L' := [some (.ref (X.G.ad 11 0)), some (.long x1), none, some (.long x3), none, some (.long x5), none, some (.int v6), some (.long x5), none, some (.int v4)]) hX dX11_feed_114 rfl (by rw [ev6]; rfl) (Nat.le_of_ble_eq_true rfl) rfl ?_
          refine aw_goto (tgt := 8) hX dX11_feed_117 (by decide) ?_
          exact aw_less (zle_s (zle_s (zle_o (zle_s (zle_o (zle_s (zle_o (zle_s (zle_o (zle_o (zle_o zle_n))))))))))) k
        · have k := k.2 c5
          refine aw_iload hX dX11_feed_72 rfl ?_
          refine aw_bipush hX dX11_feed_74 zb_10 ?_
          refine aw_icmp_eq (tgt := 93) hX dX11_feed_76 (by decide) (fun c7 => ?_) (fun c7 => ?_)
          · have k := k.1 c7
            refine aw_aload_n hX dX11_feed_93 rfl ?_
            refine aw_getr (o' := 0) hX kf_X11_7 sh_11 (by decide) rfl rfl dX11_feed_94 ?_
            refine aw_aload_n hX dX11_feed_97 rfl ?_
            refine aw_geti hX kf_X11_138 sh_11 (by decide) rfl dX11_feed_98 ?_
            refine aw_iload hX dX11_feed_101 rfl ?_
            have s8 := k.1
            have k := k.2
            refine aw_iast' (k := (ix (μ.1 11 0 1))) hX sh_35 (by decide) s8 rfl dX11_feed_103 ?_
            refine aw_mem (fun μ9 eμ9 => ?_)
            have k := k μ9 eμ9
            refine aw_aload_n hX dX11_feed_104 rfl ?_
            refine aw_dup hX dX11_feed_105 rfl ?_
            refine aw_geti hX kf_X11_138 sh_11 (by decide) rfl dX11_feed_106 ?_
            refine aw_iconst hX dX11_feed_109 zk_1 ?_
            refine aw_iadd hX dX11_feed_110 ?_
            refine aw_puti hX kp_X11_138 sh_11 (by decide) rfl rfl rfl dX11_feed_111 ?_
            refine aw_mem (fun μ10 eμ10 => ?_)
            have k := k μ10 eμ10
            obtain ⟨v11, ev11⟩ : ∃ y : Int32, y = x7 + (1 : Int32) := ⟨_, rfl⟩
            have k := k v11 ev11
            refine aw_iinc (v := v11) (L' := [some (.ref (X.G.ad 11 0)), some (.long x1), none, some (.long x3), none, some (.long x5), none, some (.int v11), some (.long x5), none, some (.int v4)]) hX dX11_feed_114 rfl (by rw [ev11]; rfl) (Nat.le_of_ble_eq_true rfl) rfl ?_
            refine aw_goto (tgt := 8) hX dX11_feed_117 (by decide) ?_
            exact aw_less (zle_s (zle_s (zle_o (zle_s (zle_o (zle_s (zle_o (zle_s (zle_o (zle_o (zle_o zle_n))))))))))) k
          · have k := k.2 c7
            refine aw_iload hX dX11_feed_79 rfl ?_
            refine aw_bipush hX dX11_feed_81 zb_32 ?_
            refine aw_icmp_lt (tgt := 114) hX dX11_feed_83 (by decide) (fun c12 => ?_) (fun c12 => ?_)
            · have k := k.1 c12
              obtain ⟨v13, ev13⟩ : ∃ y : Int32, y = x7 + (1 : Int32) := ⟨_, rfl⟩
              have k := k v13 ev13
              refine aw_iinc (v := v13) (L' := [some (.ref (X.G.ad 11 0)), some (.long x1), none, some (.long x3), none, some (.long x5), none, some (.int v13), some (.long x5), none, some (.int v4)]) hX dX11_feed_114 rfl (by rw [ev13]; rfl) (Nat.le_of_ble_eq_true rfl) rfl ?_
              refine aw_goto (tgt := 8) hX dX11_feed_117 (by decide) ?_
              exact aw_less (zle_s (zle_s (zle_o (zle_s (zle_o (zle_s (zle_o (zle_s (zle_o (zle_o (zle_o zle_n))))))))))) k
            · have k := k.2 c12
              refine aw_iload hX dX11_feed_86 rfl ?_
              refine aw_bipush hX dX11_feed_88 zb_126 ?_
              refine aw_icmp_gt (tgt := 114) hX dX11_feed_90 (by decide) (fun c14 => ?_) (fun c14 => ?_)
              · have k := k.1 c14
                obtain ⟨v15, ev15⟩ : ∃ y : Int32, y = x7 + (1 : Int32) := ⟨_, rfl⟩
                have k := k v15 ev15
                refine aw_iinc (v := v15) (L' := [some (.ref (X.G.ad 11 0)), some (.long x1), none, some (.long x3), none, some (.long x5), none, some (.int v15), some (.long x5), none, some (.int v4)]) hX dX11_feed_114 rfl (by rw [ev15]; rfl) (Nat.le_of_ble_eq_true rfl) rfl ?_
                refine aw_goto (tgt := 8) hX dX11_feed_117 (by decide) ?_
                exact aw_less (zle_s (zle_s (zle_o (zle_s (zle_o (zle_s (zle_o (zle_s (zle_o (zle_o (zle_o zle_n))))))))))) k
              · have k := k.2 c14
                refine aw_aload_n hX dX11_feed_93 rfl ?_
                refine aw_getr (o' := 0) hX kf_X11_7 sh_11 (by decide) rfl rfl dX11_feed_94 ?_
                refine aw_aload_n hX dX11_feed_97 rfl ?_
                refine aw_geti hX kf_X11_138 sh_11 (by decide) rfl dX11_feed_98 ?_
                refine aw_iload hX dX11_feed_101 rfl ?_
                have s16 := k.1
                have k := k.2
                refine aw_iast' (k := (ix (μ.1 11 0 1))) hX sh_35 (by decide) s16 rfl dX11_feed_103 ?_
                refine aw_mem (fun μ17 eμ17 => ?_)
                have k := k μ17 eμ17
                refine aw_aload_n hX dX11_feed_104 rfl ?_
                refine aw_dup hX dX11_feed_105 rfl ?_
                refine aw_geti hX kf_X11_138 sh_11 (by decide) rfl dX11_feed_106 ?_
                refine aw_iconst hX dX11_feed_109 zk_1 ?_
                refine aw_iadd hX dX11_feed_110 ?_
                refine aw_puti hX kp_X11_138 sh_11 (by decide) rfl rfl rfl dX11_feed_111 ?_
                refine aw_mem (fun μ18 eμ18 => ?_)
                have k := k μ18 eμ18
                obtain ⟨v19, ev19⟩ : ∃ y : Int32, y = x7 + (1 : Int32) := ⟨_, rfl⟩
                have k := k v19 ev19
                refine aw_iinc (v := v19) (L' := [some (.ref (X.G.ad 11 0)), some (.long x1), none, some (.long x3), none, some (.long x5), none, some (.int v19), some (.long x5), none, some (.int v4)]) hX dX11_feed_114 rfl (by rw [ev19]; rfl) (Nat.le_of_ble_eq_true rfl) rfl ?_
                refine aw_goto (tgt := 8) hX dX11_feed_117 (by decide) ?_
                exact aw_less (zle_s (zle_s (zle_o (zle_s (zle_o (zle_s (zle_o (zle_s (zle_o (zle_o (zle_o zle_n))))))))))) k
      · have k := k.2 c3
        refine aw_lload_n hX dX11_feed_33 rfl ?_
        refine aw_goto (tgt := 39) hX dX11_feed_34 (by decide) ?_
        refine aw_lstore (L' := [some (.ref (X.G.ad 11 0)), some (.long x1), none, some (.long x3), none, some (.long x5), none, some (.int x7), some (.long x3), none, none]) hX dX11_feed_39 (Nat.le_of_ble_eq_true rfl) rfl ?_
        refine aw_lload hX dX11_feed_41 rfl ?_
        refine aw_bipush hX dX11_feed_43 zb_56 ?_
        refine aw_bipush hX dX11_feed_45 zb_8 ?_
        refine aw_iload hX dX11_feed_47 rfl ?_
        refine aw_bipush hX dX11_feed_49 zb_7 ?_
        refine aw_iand hX dX11_feed_51 ?_
        refine aw_imul hX dX11_feed_52 ?_
        refine aw_isub hX dX11_feed_53 ?_
        refine aw_lushr hX dX11_feed_54 ?_
        refine aw_ldc2 hX kl_X11_136 dX11_feed_55 ?_
        refine aw_land hX dX11_feed_58 ?_
        refine aw_l2i hX dX11_feed_59 ?_
        refine aw_topi (fun v20 ev20 => ?_)
        have k := k v20 ev20
        refine aw_istore (L' := [some (.ref (X.G.ad 11 0)), some (.long x1), none, some (.long x3), none, some (.long x5), none, some (.int x7), some (.long x3), none, some (.int v20)]) hX dX11_feed_60 (Nat.le_of_ble_eq_true rfl) rfl ?_
        refine aw_aload_n hX dX11_feed_62 rfl ?_
        refine aw_geti hX kf_X11_138 sh_11 (by decide) rfl dX11_feed_63 ?_
        refine aw_sipush hX dX11_feed_66 zs_1000 ?_
        refine aw_icmp_ge (tgt := 114) hX dX11_feed_69 (by decide) (fun c21 => ?_) (fun c21 => ?_)
        · have k := k.1 c21
          obtain ⟨v22, ev22⟩ : ∃ y : Int32, y = x7 + (1 : Int32) := ⟨_, rfl⟩
          have k := k v22 ev22
          refine aw_iinc (v := v22) (L' := [some (.ref (X.G.ad 11 0)), some (.long x1), none, some (.long x3), none, some (.long x5), none, some (.int v22), some (.long x3), none, some (.int v20)]) hX dX11_feed_114 rfl (by rw [ev22]; rfl) (Nat.le_of_ble_eq_true rfl) rfl ?_
          refine aw_goto (tgt := 8) hX dX11_feed_117 (by decide) ?_
          exact aw_less (zle_s (zle_s (zle_o (zle_s (zle_o (zle_s (zle_o (zle_s (zle_o (zle_o (zle_o zle_n))))))))))) k
        · have k := k.2 c21
          refine aw_iload hX dX11_feed_72 rfl ?_
          refine aw_bipush hX dX11_feed_74 zb_10 ?_
          refine aw_icmp_eq (tgt := 93) hX dX11_feed_76 (by decide) (fun c23 => ?_) (fun c23 => ?_)
          · have k := k.1 c23
            refine aw_aload_n hX dX11_feed_93 rfl ?_
            refine aw_getr (o' := 0) hX kf_X11_7 sh_11 (by decide) rfl rfl dX11_feed_94 ?_
            refine aw_aload_n hX dX11_feed_97 rfl ?_
            refine aw_geti hX kf_X11_138 sh_11 (by decide) rfl dX11_feed_98 ?_
            refine aw_iload hX dX11_feed_101 rfl ?_
            have s24 := k.1
            have k := k.2
            refine aw_iast' (k := (ix (μ.1 11 0 1))) hX sh_35 (by decide) s24 rfl dX11_feed_103 ?_
            refine aw_mem (fun μ25 eμ25 => ?_)
            have k := k μ25 eμ25
            refine aw_aload_n hX dX11_feed_104 rfl ?_
            refine aw_dup hX dX11_feed_105 rfl ?_
            refine aw_geti hX kf_X11_138 sh_11 (by decide) rfl dX11_feed_106 ?_
            refine aw_iconst hX dX11_feed_109 zk_1 ?_
            refine aw_iadd hX dX11_feed_110 ?_
            refine aw_puti hX kp_X11_138 sh_11 (by decide) rfl rfl rfl dX11_feed_111 ?_
            refine aw_mem (fun μ26 eμ26 => ?_)
            have k := k μ26 eμ26
            obtain ⟨v27, ev27⟩ : ∃ y : Int32, y = x7 + (1 : Int32) := ⟨_, rfl⟩
            have k := k v27 ev27
            refine aw_iinc (v := v27) (L' := [some (.ref (X.G.ad 11 0)), some (.long x1), none, some (.long x3), none, some (.long x5), none, some (.int v27), some (.long x3), none, some (.int v20)]) hX dX11_feed_114 rfl (by rw [ev27]; rfl) (Nat.le_of_ble_eq_true rfl) rfl ?_
            refine aw_goto (tgt := 8) hX dX11_feed_117 (by decide) ?_
            exact aw_less (zle_s (zle_s (zle_o (zle_s (zle_o (zle_s (zle_o (zle_s (zle_o (zle_o (zle_o zle_n))))))))))) k
          · have k := k.2 c23
            refine aw_iload hX dX11_feed_79 rfl ?_
            refine aw_bipush hX dX11_feed_81 zb_32 ?_
            refine aw_icmp_lt (tgt := 114) hX dX11_feed_83 (by decide) (fun c28 => ?_) (fun c28 => ?_)
            · have k := k.1 c28
              obtain ⟨v29, ev29⟩ : ∃ y : Int32, y = x7 + (1 : Int32) := ⟨_, rfl⟩
              have k := k v29 ev29
              refine aw_iinc (v := v29) (L' := [some (.ref (X.G.ad 11 0)), some (.long x1), none, some (.long x3), none, some (.long x5), none, some (.int v29), some (.long x3), none, some (.int v20)]) hX dX11_feed_114 rfl (by rw [ev29]; rfl) (Nat.le_of_ble_eq_true rfl) rfl ?_
              refine aw_goto (tgt := 8) hX dX11_feed_117 (by decide) ?_
              exact aw_less (zle_s (zle_s (zle_o (zle_s (zle_o (zle_s (zle_o (zle_s (zle_o (zle_o (zle_o zle_n))))))))))) k
            · have k := k.2 c28
              refine aw_iload hX dX11_feed_86 rfl ?_
              refine aw_bipush hX dX11_feed_88 zb_126 ?_
              refine aw_icmp_gt (tgt := 114) hX dX11_feed_90 (by decide) (fun c30 => ?_) (fun c30 => ?_)
              · have k := k.1 c30
                obtain ⟨v31, ev31⟩ : ∃ y : Int32, y = x7 + (1 : Int32) := ⟨_, rfl⟩
                have k := k v31 ev31
                refine aw_iinc (v := v31) (L' := [some (.ref (X.G.ad 11 0)), some (.long x1), none, some (.long x3), none, some (.long x5), none, some (.int v31), some (.long x3), none, some (.int v20)]) hX dX11_feed_114 rfl (by rw [ev31]; rfl) (Nat.le_of_ble_eq_true rfl) rfl ?_
                refine aw_goto (tgt := 8) hX dX11_feed_117 (by decide) ?_
                exact aw_less (zle_s (zle_s (zle_o (zle_s (zle_o (zle_s (zle_o (zle_s (zle_o (zle_o (zle_o zle_n))))))))))) k
              · have k := k.2 c30
                refine aw_aload_n hX dX11_feed_93 rfl ?_
                refine aw_getr (o' := 0) hX kf_X11_7 sh_11 (by decide) rfl rfl dX11_feed_94 ?_
                refine aw_aload_n hX dX11_feed_97 rfl ?_
                refine aw_geti hX kf_X11_138 sh_11 (by decide) rfl dX11_feed_98 ?_
                refine aw_iload hX dX11_feed_101 rfl ?_
                have s32 := k.1
                have k := k.2
                refine aw_iast' (k := (ix (μ.1 11 0 1))) hX sh_35 (by decide) s32 rfl dX11_feed_103 ?_
                refine aw_mem (fun μ33 eμ33 => ?_)
                have k := k μ33 eμ33
                refine aw_aload_n hX dX11_feed_104 rfl ?_
                refine aw_dup hX dX11_feed_105 rfl ?_
                refine aw_geti hX kf_X11_138 sh_11 (by decide) rfl dX11_feed_106 ?_
                refine aw_iconst hX dX11_feed_109 zk_1 ?_
                refine aw_iadd hX dX11_feed_110 ?_
                refine aw_puti hX kp_X11_138 sh_11 (by decide) rfl rfl rfl dX11_feed_111 ?_
                refine aw_mem (fun μ34 eμ34 => ?_)
                have k := k μ34 eμ34
                obtain ⟨v35, ev35⟩ : ∃ y : Int32, y = x7 + (1 : Int32) := ⟨_, rfl⟩
                have k := k v35 ev35
                refine aw_iinc (v := v35) (L' := [some (.ref (X.G.ad 11 0)), some (.long x1), none, some (.long x3), none, some (.long x5), none, some (.int v35), some (.long x3), none, some (.int v20)]) hX dX11_feed_114 rfl (by rw [ev35]; rfl) (Nat.le_of_ble_eq_true rfl) rfl ?_
                refine aw_goto (tgt := 8) hX dX11_feed_117 (by decide) ?_
                exact aw_less (zle_s (zle_s (zle_o (zle_s (zle_o (zle_s (zle_o (zle_s (zle_o (zle_o (zle_o zle_n))))))))))) k
    · have k := k.2 c2
      refine aw_lload_n hX dX11_feed_22 rfl ?_
      refine aw_goto (tgt := 39) hX dX11_feed_23 (by decide) ?_
      refine aw_lstore (L' := [some (.ref (X.G.ad 11 0)), some (.long x1), none, some (.long x3), none, some (.long x5), none, some (.int x7), some (.long x1), none, none]) hX dX11_feed_39 (Nat.le_of_ble_eq_true rfl) rfl ?_
      refine aw_lload hX dX11_feed_41 rfl ?_
      refine aw_bipush hX dX11_feed_43 zb_56 ?_
      refine aw_bipush hX dX11_feed_45 zb_8 ?_
      refine aw_iload hX dX11_feed_47 rfl ?_
      refine aw_bipush hX dX11_feed_49 zb_7 ?_
      refine aw_iand hX dX11_feed_51 ?_
      refine aw_imul hX dX11_feed_52 ?_
      refine aw_isub hX dX11_feed_53 ?_
      refine aw_lushr hX dX11_feed_54 ?_
      refine aw_ldc2 hX kl_X11_136 dX11_feed_55 ?_
      refine aw_land hX dX11_feed_58 ?_
      refine aw_l2i hX dX11_feed_59 ?_
      refine aw_topi (fun v36 ev36 => ?_)
      have k := k v36 ev36
      refine aw_istore (L' := [some (.ref (X.G.ad 11 0)), some (.long x1), none, some (.long x3), none, some (.long x5), none, some (.int x7), some (.long x1), none, some (.int v36)]) hX dX11_feed_60 (Nat.le_of_ble_eq_true rfl) rfl ?_
      refine aw_aload_n hX dX11_feed_62 rfl ?_
      refine aw_geti hX kf_X11_138 sh_11 (by decide) rfl dX11_feed_63 ?_
      refine aw_sipush hX dX11_feed_66 zs_1000 ?_
      refine aw_icmp_ge (tgt := 114) hX dX11_feed_69 (by decide) (fun c37 => ?_) (fun c37 => ?_)
      · have k := k.1 c37
        obtain ⟨v38, ev38⟩ : ∃ y : Int32, y = x7 + (1 : Int32) := ⟨_, rfl⟩
        have k := k v38 ev38
        refine aw_iinc (v := v38) (L' := [some (.ref (X.G.ad 11 0)), some (.long x1), none, some (.long x3), none, some (.long x5), none, some (.int v38), some (.long x1), none, some (.int v36)]) hX dX11_feed_114 rfl (by rw [ev38]; rfl) (Nat.le_of_ble_eq_true rfl) rfl ?_
        refine aw_goto (tgt := 8) hX dX11_feed_117 (by decide) ?_
        exact aw_less (zle_s (zle_s (zle_o (zle_s (zle_o (zle_s (zle_o (zle_s (zle_o (zle_o (zle_o zle_n))))))))))) k
      · have k := k.2 c37
        refine aw_iload hX dX11_feed_72 rfl ?_
        refine aw_bipush hX dX11_feed_74 zb_10 ?_
        refine aw_icmp_eq (tgt := 93) hX dX11_feed_76 (by decide) (fun c39 => ?_) (fun c39 => ?_)
        · have k := k.1 c39
          refine aw_aload_n hX dX11_feed_93 rfl ?_
          refine aw_getr (o' := 0) hX kf_X11_7 sh_11 (by decide) rfl rfl dX11_feed_94 ?_
          refine aw_aload_n hX dX11_feed_97 rfl ?_
          refine aw_geti hX kf_X11_138 sh_11 (by decide) rfl dX11_feed_98 ?_
          refine aw_iload hX dX11_feed_101 rfl ?_
          have s40 := k.1
          have k := k.2
          refine aw_iast' (k := (ix (μ.1 11 0 1))) hX sh_35 (by decide) s40 rfl dX11_feed_103 ?_
          refine aw_mem (fun μ41 eμ41 => ?_)
          have k := k μ41 eμ41
          refine aw_aload_n hX dX11_feed_104 rfl ?_
          refine aw_dup hX dX11_feed_105 rfl ?_
          refine aw_geti hX kf_X11_138 sh_11 (by decide) rfl dX11_feed_106 ?_
          refine aw_iconst hX dX11_feed_109 zk_1 ?_
          refine aw_iadd hX dX11_feed_110 ?_
          refine aw_puti hX kp_X11_138 sh_11 (by decide) rfl rfl rfl dX11_feed_111 ?_
          refine aw_mem (fun μ42 eμ42 => ?_)
          have k := k μ42 eμ42
          obtain ⟨v43, ev43⟩ : ∃ y : Int32, y = x7 + (1 : Int32) := ⟨_, rfl⟩
          have k := k v43 ev43
          refine aw_iinc (v := v43) (L' := [some (.ref (X.G.ad 11 0)), some (.long x1), none, some (.long x3), none, some (.long x5), none, some (.int v43), some (.long x1), none, some (.int v36)]) hX dX11_feed_114 rfl (by rw [ev43]; rfl) (Nat.le_of_ble_eq_true rfl) rfl ?_
          refine aw_goto (tgt := 8) hX dX11_feed_117 (by decide) ?_
          exact aw_less (zle_s (zle_s (zle_o (zle_s (zle_o (zle_s (zle_o (zle_s (zle_o (zle_o (zle_o zle_n))))))))))) k
        · have k := k.2 c39
          refine aw_iload hX dX11_feed_79 rfl ?_
          refine aw_bipush hX dX11_feed_81 zb_32 ?_
          refine aw_icmp_lt (tgt := 114) hX dX11_feed_83 (by decide) (fun c44 => ?_) (fun c44 => ?_)
          · have k := k.1 c44
            obtain ⟨v45, ev45⟩ : ∃ y : Int32, y = x7 + (1 : Int32) := ⟨_, rfl⟩
            have k := k v45 ev45
            refine aw_iinc (v := v45) (L' := [some (.ref (X.G.ad 11 0)), some (.long x1), none, some (.long x3), none, some (.long x5), none, some (.int v45), some (.long x1), none, some (.int v36)]) hX dX11_feed_114 rfl (by rw [ev45]; rfl) (Nat.le_of_ble_eq_true rfl) rfl ?_
            refine aw_goto (tgt := 8) hX dX11_feed_117 (by decide) ?_
            exact aw_less (zle_s (zle_s (zle_o (zle_s (zle_o (zle_s (zle_o (zle_s (zle_o (zle_o (zle_o zle_n))))))))))) k
          · have k := k.2 c44
            refine aw_iload hX dX11_feed_86 rfl ?_
            refine aw_bipush hX dX11_feed_88 zb_126 ?_
            refine aw_icmp_gt (tgt := 114) hX dX11_feed_90 (by decide) (fun c46 => ?_) (fun c46 => ?_)
            · have k := k.1 c46
              obtain ⟨v47, ev47⟩ : ∃ y : Int32, y = x7 + (1 : Int32) := ⟨_, rfl⟩
              have k := k v47 ev47
              refine aw_iinc (v := v47) (L' := [some (.ref (X.G.ad 11 0)), some (.long x1), none, some (.long x3), none, some (.long x5), none, some (.int v47), some (.long x1), none, some (.int v36)]) hX dX11_feed_114 rfl (by rw [ev47]; rfl) (Nat.le_of_ble_eq_true rfl) rfl ?_
              refine aw_goto (tgt := 8) hX dX11_feed_117 (by decide) ?_
              exact aw_less (zle_s (zle_s (zle_o (zle_s (zle_o (zle_s (zle_o (zle_s (zle_o (zle_o (zle_o zle_n))))))))))) k
            · have k := k.2 c46
              refine aw_aload_n hX dX11_feed_93 rfl ?_
              refine aw_getr (o' := 0) hX kf_X11_7 sh_11 (by decide) rfl rfl dX11_feed_94 ?_
              refine aw_aload_n hX dX11_feed_97 rfl ?_
              refine aw_geti hX kf_X11_138 sh_11 (by decide) rfl dX11_feed_98 ?_
              refine aw_iload hX dX11_feed_101 rfl ?_
              have s48 := k.1
              have k := k.2
              refine aw_iast' (k := (ix (μ.1 11 0 1))) hX sh_35 (by decide) s48 rfl dX11_feed_103 ?_
              refine aw_mem (fun μ49 eμ49 => ?_)
              have k := k μ49 eμ49
              refine aw_aload_n hX dX11_feed_104 rfl ?_
              refine aw_dup hX dX11_feed_105 rfl ?_
              refine aw_geti hX kf_X11_138 sh_11 (by decide) rfl dX11_feed_106 ?_
              refine aw_iconst hX dX11_feed_109 zk_1 ?_
              refine aw_iadd hX dX11_feed_110 ?_
              refine aw_puti hX kp_X11_138 sh_11 (by decide) rfl rfl rfl dX11_feed_111 ?_
              refine aw_mem (fun μ50 eμ50 => ?_)
              have k := k μ50 eμ50
              obtain ⟨v51, ev51⟩ : ∃ y : Int32, y = x7 + (1 : Int32) := ⟨_, rfl⟩
              have k := k v51 ev51
              refine aw_iinc (v := v51) (L' := [some (.ref (X.G.ad 11 0)), some (.long x1), none, some (.long x3), none, some (.long x5), none, some (.int v51), some (.long x1), none, some (.int v36)]) hX dX11_feed_114 rfl (by rw [ev51]; rfl) (Nat.le_of_ble_eq_true rfl) rfl ?_
              refine aw_goto (tgt := 8) hX dX11_feed_117 (by decide) ?_
              exact aw_less (zle_s (zle_s (zle_o (zle_s (zle_o (zle_s (zle_o (zle_s (zle_o (zle_o (zle_o zle_n))))))))))) k

set_option maxRecDepth 100000 in
set_option maxHeartbeats 4000000 in
theorem st_X11_signAt_0 {X : zX} {lv : Nat} {Post : Option Value → zM → Prop} (hX : zOk X cX11_signAt RX11 2 lv) (hr : zRt X (some .int) Post)  {x1 : Int32} {μ : zM}
    (k : ((μ.1 11 0 3) ≤ x1 → (Post (some (.int (0 : Int32))) μ)) ∧ (¬ (μ.1 11 0 3) ≤ x1 → ((vp_in x1 1000) ∧ (Post (some (.int (μ.1 35 0 (ix x1)))) μ)))) :
    AW X 0 [some (.ref (X.G.ad 11 0)), some (.int x1)] [] μ := by
  refine aw_iload_n hX dX11_signAt_0 rfl ?_
  refine aw_aload_n hX dX11_signAt_1 rfl ?_
  refine aw_geti hX kf_X11_141 sh_11 (by decide) rfl dX11_signAt_2 ?_
  refine aw_icmp_ge (tgt := 17) hX dX11_signAt_5 (by decide) (fun c1 => ?_) (fun c1 => ?_)
  · have k := k.1 c1
    refine aw_iconst hX dX11_signAt_17 zk_0 ?_
    exact aw_iret hX hr dX11_signAt_18 k
  · have k := k.2 c1
    refine aw_aload_n hX dX11_signAt_8 rfl ?_
    refine aw_getr (o' := 0) hX kf_X11_7 sh_11 (by decide) rfl rfl dX11_signAt_9 ?_
    refine aw_iload_n hX dX11_signAt_12 rfl ?_
    have s2 := k.1
    have k := k.2
    refine aw_iald' (k := (ix x1)) hX sh_35 (by decide) s2 rfl dX11_signAt_13 ?_
    refine aw_goto (tgt := 18) hX dX11_signAt_14 (by decide) ?_
    exact aw_iret hX hr dX11_signAt_18 k

set_option maxRecDepth 100000 in
set_option maxHeartbeats 4000000 in
theorem st_X11_nextToken_0 {X : zX} {lv : Nat} {Post : Option Value → zM → Prop} (hX : zOk X cX11_nextToken RX11 2 lv) (hr : zRt X none Post)   {μ : zM}
    (k : ((μ.1 11 0 3) ≤ (μ.1 11 0 4) → (AW X 52 [some (.ref (X.G.ad 11 0)), none] [] μ)) ∧ (¬ (μ.1 11 0 3) ≤ (μ.1 11 0 4) → ((vp_in (μ.1 11 0 4) 1000) ∧ (((μ.1 35 0 (ix (μ.1 11 0 4))) = (32 : Int32) → (∀ μ4 : zM, μ4 = pI μ 11 0 4 ((μ.1 11 0 4) + (1 : Int32)) → (AW X 0 [some (.ref (X.G.ad 11 0)), none] [] μ4))) ∧ (¬ (μ.1 35 0 (ix (μ.1 11 0 4))) = (32 : Int32) → ((¬ (μ.1 35 0 (ix (μ.1 11 0 4))) = (10 : Int32) → (AW X 52 [some (.ref (X.G.ad 11 0)), none] [] μ)) ∧ ((μ.1 35 0 (ix (μ.1 11 0 4))) = (10 : Int32) → (∀ μ6 : zM, μ6 = pI μ 11 0 4 ((μ.1 11 0 4) + (1 : Int32)) → (AW X 0 [some (.ref (X.G.ad 11 0)), none] [] μ6))))))))) :
    AW X 0 [some (.ref (X.G.ad 11 0)), none] [] μ := by
  refine aw_aload_n hX dX11_nextToken_0 rfl ?_
  refine aw_geti hX kf_X11_144 sh_11 (by decide) rfl dX11_nextToken_1 ?_
  refine aw_aload_n hX dX11_nextToken_4 rfl ?_
  refine aw_geti hX kf_X11_141 sh_11 (by decide) rfl dX11_nextToken_5 ?_
  refine aw_icmp_ge (tgt := 52) hX dX11_nextToken_8 (by decide) (fun c1 => ?_) (fun c1 => ?_)
  · have k := k.1 c1
    exact k
  · have k := k.2 c1
    refine aw_aload_n hX dX11_nextToken_11 rfl ?_
    refine aw_getr (o' := 0) hX kf_X11_7 sh_11 (by decide) rfl rfl dX11_nextToken_12 ?_
    refine aw_aload_n hX dX11_nextToken_15 rfl ?_
    refine aw_geti hX kf_X11_144 sh_11 (by decide) rfl dX11_nextToken_16 ?_
    have s2 := k.1
    have k := k.2
    refine aw_iald' (k := (ix (μ.1 11 0 4))) hX sh_35 (by decide) s2 rfl dX11_nextToken_19 ?_
    refine aw_bipush hX dX11_nextToken_20 zb_32 ?_
    refine aw_icmp_eq (tgt := 39) hX dX11_nextToken_22 (by decide) (fun c3 => ?_) (fun c3 => ?_)
    · have k := k.1 c3
      refine aw_aload_n hX dX11_nextToken_39 rfl ?_
      refine aw_dup hX dX11_nextToken_40 rfl ?_
      refine aw_geti hX kf_X11_144 sh_11 (by decide) rfl dX11_nextToken_41 ?_
      refine aw_iconst hX dX11_nextToken_44 zk_1 ?_
      refine aw_iadd hX dX11_nextToken_45 ?_
      refine aw_puti hX kp_X11_144 sh_11 (by decide) rfl rfl rfl dX11_nextToken_46 ?_
      refine aw_mem (fun μ4 eμ4 => ?_)
      have k := k μ4 eμ4
      refine aw_goto (tgt := 0) hX dX11_nextToken_49 (by decide) ?_
      exact k
    · have k := k.2 c3
      refine aw_aload_n hX dX11_nextToken_25 rfl ?_
      refine aw_getr (o' := 0) hX kf_X11_7 sh_11 (by decide) rfl rfl dX11_nextToken_26 ?_
      refine aw_aload_n hX dX11_nextToken_29 rfl ?_
      refine aw_geti hX kf_X11_144 sh_11 (by decide) rfl dX11_nextToken_30 ?_
      refine aw_iald' (k := (ix (μ.1 11 0 4))) hX sh_35 (by decide) s2 rfl dX11_nextToken_33 ?_
      refine aw_bipush hX dX11_nextToken_34 zb_10 ?_
      refine aw_icmp_ne (tgt := 52) hX dX11_nextToken_36 (by decide) (fun c5 => ?_) (fun c5 => ?_)
      · have k := k.1 c5
        exact k
      · have k := k.2 c5
        refine aw_aload_n hX dX11_nextToken_39 rfl ?_
        refine aw_dup hX dX11_nextToken_40 rfl ?_
        refine aw_geti hX kf_X11_144 sh_11 (by decide) rfl dX11_nextToken_41 ?_
        refine aw_iconst hX dX11_nextToken_44 zk_1 ?_
        refine aw_iadd hX dX11_nextToken_45 ?_
        refine aw_puti hX kp_X11_144 sh_11 (by decide) rfl rfl rfl dX11_nextToken_46 ?_
        refine aw_mem (fun μ6 eμ6 => ?_)
        have k := k μ6 eμ6
        refine aw_goto (tgt := 0) hX dX11_nextToken_49 (by decide) ?_
        exact k

set_option maxRecDepth 100000 in
set_option maxHeartbeats 4000000 in
theorem st_X11_nextToken_52 {X : zX} {lv : Nat} {Post : Option Value → zM → Prop} (hX : zOk X cX11_nextToken RX11 2 lv) (hr : zRt X none Post)   {μ : zM}
    (k : ∀ μ1 : zM, μ1 = pI μ 11 0 5 (μ.1 11 0 4) → (∀ μ2 : zM, μ2 = pL μ1 11 0 7 (0 : Int64) → (∀ μ3 : zM, μ3 = pI μ2 11 0 8 (0 : Int32) → ((¬ (μ3.1 11 0 4) = (μ3.1 11 0 3) → ((vp_in (μ3.1 11 0 4) 1000) ∧ (∀ v6 : Int32, v6 = (μ3.1 35 0 (ix (μ3.1 11 0 4))) → ((v6 < (97 : Int32) → ((v6 < (48 : Int32) → (AW X 322 [some (.ref (X.G.ad 11 0)), some (.int v6)] [] μ3)) ∧ (¬ v6 < (48 : Int32) → (((57 : Int32) < v6 → (AW X 322 [some (.ref (X.G.ad 11 0)), some (.int v6)] [] μ3)) ∧ (¬ (57 : Int32) < v6 → (AW X 224 [some (.ref (X.G.ad 11 0)), none] [] μ3)))))) ∧ (¬ v6 < (97 : Int32) → (((122 : Int32) < v6 → ((v6 < (48 : Int32) → (AW X 322 [some (.ref (X.G.ad 11 0)), some (.int v6)] [] μ3)) ∧ (¬ v6 < (48 : Int32) → (((57 : Int32) < v6 → (AW X 322 [some (.ref (X.G.ad 11 0)), some (.int v6)] [] μ3)) ∧ (¬ (57 : Int32) < v6 → (AW X 224 [some (.ref (X.G.ad 11 0)), none] [] μ3)))))) ∧ (¬ (122 : Int32) < v6 → (AW X 109 [some (.ref (X.G.ad 11 0)), none] [] μ3)))))))) ∧ ((μ3.1 11 0 4) = (μ3.1 11 0 3) → (∀ μ13 : zM, μ13 = pI μ3 11 0 6 (0 : Int32) → (Post none μ13))))))) :
    AW X 52 [some (.ref (X.G.ad 11 0)), none] [] μ := by
  refine aw_aload_n hX dX11_nextToken_52 rfl ?_
  refine aw_aload_n hX dX11_nextToken_53 rfl ?_
  refine aw_geti hX kf_X11_144 sh_11 (by decide) rfl dX11_nextToken_54 ?_
  refine aw_puti hX kp_X11_147 sh_11 (by decide) rfl rfl rfl dX11_nextToken_57 ?_
  refine aw_mem (fun μ1 eμ1 => ?_)
  have k := k μ1 eμ1
  refine aw_aload_n hX dX11_nextToken_60 rfl ?_
  refine aw_lconst (v := (0 : Int64)) hX dX11_nextToken_61 (by decide) ?_
  refine aw_putl hX kp_X11_150 sh_11 (by decide) rfl dX11_nextToken_62 ?_
  refine aw_mem (fun μ2 eμ2 => ?_)
  have k := k μ2 eμ2
  refine aw_aload_n hX dX11_nextToken_65 rfl ?_
  refine aw_iconst hX dX11_nextToken_66 zk_0 ?_
  refine aw_puti hX kp_X11_154 sh_11 (by decide) rfl rfl rfl dX11_nextToken_67 ?_
  refine aw_mem (fun μ3 eμ3 => ?_)
  have k := k μ3 eμ3
  refine aw_aload_n hX dX11_nextToken_70 rfl ?_
  refine aw_geti hX kf_X11_144 sh_11 (by decide) rfl dX11_nextToken_71 ?_
  refine aw_aload_n hX dX11_nextToken_74 rfl ?_
  refine aw_geti hX kf_X11_141 sh_11 (by decide) rfl dX11_nextToken_75 ?_
  refine aw_icmp_ne (tgt := 87) hX dX11_nextToken_78 (by decide) (fun c4 => ?_) (fun c4 => ?_)
  · have k := k.1 c4
    refine aw_aload_n hX dX11_nextToken_87 rfl ?_
    refine aw_getr (o' := 0) hX kf_X11_7 sh_11 (by decide) rfl rfl dX11_nextToken_88 ?_
    refine aw_aload_n hX dX11_nextToken_91 rfl ?_
    refine aw_geti hX kf_X11_144 sh_11 (by decide) rfl dX11_nextToken_92 ?_
    have s5 := k.1
    have k := k.2
    refine aw_iald' (k := (ix (μ3.1 11 0 4))) hX sh_35 (by decide) s5 rfl dX11_nextToken_95 ?_
    refine aw_topi (fun v6 ev6 => ?_)
    have k := k v6 ev6
    refine aw_istore_n (L' := [some (.ref (X.G.ad 11 0)), some (.int v6)]) hX dX11_nextToken_96 (Nat.le_of_ble_eq_true rfl) rfl ?_
    refine aw_iload_n hX dX11_nextToken_97 rfl ?_
    refine aw_bipush hX dX11_nextToken_98 zb_97 ?_
    refine aw_icmp_lt (tgt := 212) hX dX11_nextToken_100 (by decide) (fun c7 => ?_) (fun c7 => ?_)
    · have k := k.1 c7
      refine aw_iload_n hX dX11_nextToken_212 rfl ?_
      refine aw_bipush hX dX11_nextToken_213 zb_48 ?_
      refine aw_icmp_lt (tgt := 322) hX dX11_nextToken_215 (by decide) (fun c8 => ?_) (fun c8 => ?_)
      · have k := k.1 c8
        exact k
      · have k := k.2 c8
        refine aw_iload_n hX dX11_nextToken_218 rfl ?_
        refine aw_bipush hX dX11_nextToken_219 zb_57 ?_
        refine aw_icmp_gt (tgt := 322) hX dX11_nextToken_221 (by decide) (fun c9 => ?_) (fun c9 => ?_)
        · have k := k.1 c9
          exact k
        · have k := k.2 c9
          exact aw_less (zle_s (zle_o zle_n)) k
    · have k := k.2 c7
      refine aw_iload_n hX dX11_nextToken_103 rfl ?_
      refine aw_bipush hX dX11_nextToken_104 zb_122 ?_
      refine aw_icmp_gt (tgt := 212) hX dX11_nextToken_106 (by decide) (fun c10 => ?_) (fun c10 => ?_)
      · have k := k.1 c10
        refine aw_iload_n hX dX11_nextToken_212 rfl ?_
        refine aw_bipush hX dX11_nextToken_213 zb_48 ?_
        refine aw_icmp_lt (tgt := 322) hX dX11_nextToken_215 (by decide) (fun c11 => ?_) (fun c11 => ?_)
        · have k := k.1 c11
          exact k
        · have k := k.2 c11
          refine aw_iload_n hX dX11_nextToken_218 rfl ?_
          refine aw_bipush hX dX11_nextToken_219 zb_57 ?_
          refine aw_icmp_gt (tgt := 322) hX dX11_nextToken_221 (by decide) (fun c12 => ?_) (fun c12 => ?_)
          · have k := k.1 c12
            exact k
          · have k := k.2 c12
            exact aw_less (zle_s (zle_o zle_n)) k
      · have k := k.2 c10
        exact aw_less (zle_s (zle_o zle_n)) k
  · have k := k.2 c4
    refine aw_aload_n hX dX11_nextToken_81 rfl ?_
    refine aw_iconst hX dX11_nextToken_82 zk_0 ?_
    refine aw_puti hX kp_X11_157 sh_11 (by decide) rfl rfl rfl dX11_nextToken_83 ?_
    refine aw_mem (fun μ13 eμ13 => ?_)
    have k := k μ13 eμ13
    exact aw_vret hX hr dX11_nextToken_86 k

set_option maxRecDepth 100000 in
set_option maxHeartbeats 4000000 in
theorem st_X11_nextToken_322 {X : zX} {lv : Nat} {Post : Option Value → zM → Prop} (hX : zOk X cX11_nextToken RX11 2 lv) (hr : zRt X none Post)  {x1 : Int32} {μ : zM}
    (k : ∀ μ1 : zM, μ1 = pI μ 11 0 4 ((μ.1 11 0 4) + (1 : Int32)) → ((x1 < (40 : Int32) → ((x1 = (45 : Int32) → (∀ μ4 : zM, μ4 = pI μ1 11 0 6 (3 : Int32) → (Post none μ4))) ∧ (¬ x1 = (45 : Int32) → ((x1 < (59 : Int32) → (∀ μ6 : zM, μ6 = pI μ1 11 0 6 (4 : Int32) → (Post none μ6))) ∧ (¬ x1 < (59 : Int32) → (((61 : Int32) < x1 → (∀ μ8 : zM, μ8 = pI μ1 11 0 6 (4 : Int32) → (Post none μ8))) ∧ (¬ (61 : Int32) < x1 → (∀ μ9 : zM, μ9 = pI μ1 11 0 6 (3 : Int32) → (Post none μ9))))))))) ∧ (¬ x1 < (40 : Int32) → ((x1 ≤ (43 : Int32) → (∀ μ11 : zM, μ11 = pI μ1 11 0 6 (3 : Int32) → (Post none μ11))) ∧ (¬ x1 ≤ (43 : Int32) → ((x1 = (45 : Int32) → (∀ μ13 : zM, μ13 = pI μ1 11 0 6 (3 : Int32) → (Post none μ13))) ∧ (¬ x1 = (45 : Int32) → ((x1 < (59 : Int32) → (∀ μ15 : zM, μ15 = pI μ1 11 0 6 (4 : Int32) → (Post none μ15))) ∧ (¬ x1 < (59 : Int32) → (((61 : Int32) < x1 → (∀ μ17 : zM, μ17 = pI μ1 11 0 6 (4 : Int32) → (Post none μ17))) ∧ (¬ (61 : Int32) < x1 → (∀ μ18 : zM, μ18 = pI μ1 11 0 6 (3 : Int32) → (Post none μ18))))))))))))) :
    AW X 322 [some (.ref (X.G.ad 11 0)), some (.int x1)] [] μ := by
  refine aw_aload_n hX dX11_nextToken_322 rfl ?_
  refine aw_dup hX dX11_nextToken_323 rfl ?_
  refine aw_geti hX kf_X11_144 sh_11 (by decide) rfl dX11_nextToken_324 ?_
  refine aw_iconst hX dX11_nextToken_327 zk_1 ?_
  refine aw_iadd hX dX11_nextToken_328 ?_
  refine aw_puti hX kp_X11_144 sh_11 (by decide) rfl rfl rfl dX11_nextToken_329 ?_
  refine aw_mem (fun μ1 eμ1 => ?_)
  have k := k μ1 eμ1
  refine aw_aload_n hX dX11_nextToken_332 rfl ?_
  refine aw_iload_n hX dX11_nextToken_333 rfl ?_
  refine aw_bipush hX dX11_nextToken_334 zb_40 ?_
  refine aw_icmp_lt (tgt := 345) hX dX11_nextToken_336 (by decide) (fun c2 => ?_) (fun c2 => ?_)
  · have k := k.1 c2
    refine aw_iload_n hX dX11_nextToken_345 rfl ?_
    refine aw_bipush hX dX11_nextToken_346 zb_45 ?_
    refine aw_icmp_eq (tgt := 363) hX dX11_nextToken_348 (by decide) (fun c3 => ?_) (fun c3 => ?_)
    · have k := k.1 c3
      refine aw_iconst hX dX11_nextToken_363 zk_3 ?_
      refine aw_goto (tgt := 368) hX dX11_nextToken_364 (by decide) ?_
      refine aw_puti hX kp_X11_157 sh_11 (by decide) rfl rfl rfl dX11_nextToken_368 ?_
      refine aw_mem (fun μ4 eμ4 => ?_)
      have k := k μ4 eμ4
      exact aw_vret hX hr dX11_nextToken_371 k
    · have k := k.2 c3
      refine aw_iload_n hX dX11_nextToken_351 rfl ?_
      refine aw_bipush hX dX11_nextToken_352 zb_59 ?_
      refine aw_icmp_lt (tgt := 367) hX dX11_nextToken_354 (by decide) (fun c5 => ?_) (fun c5 => ?_)
      · have k := k.1 c5
        refine aw_iconst hX dX11_nextToken_367 zk_4 ?_
        refine aw_puti hX kp_X11_157 sh_11 (by decide) rfl rfl rfl dX11_nextToken_368 ?_
        refine aw_mem (fun μ6 eμ6 => ?_)
        have k := k μ6 eμ6
        exact aw_vret hX hr dX11_nextToken_371 k
      · have k := k.2 c5
        refine aw_iload_n hX dX11_nextToken_357 rfl ?_
        refine aw_bipush hX dX11_nextToken_358 zb_61 ?_
        refine aw_icmp_gt (tgt := 367) hX dX11_nextToken_360 (by decide) (fun c7 => ?_) (fun c7 => ?_)
        · have k := k.1 c7
          refine aw_iconst hX dX11_nextToken_367 zk_4 ?_
          refine aw_puti hX kp_X11_157 sh_11 (by decide) rfl rfl rfl dX11_nextToken_368 ?_
          refine aw_mem (fun μ8 eμ8 => ?_)
          have k := k μ8 eμ8
          exact aw_vret hX hr dX11_nextToken_371 k
        · have k := k.2 c7
          refine aw_iconst hX dX11_nextToken_363 zk_3 ?_
          refine aw_goto (tgt := 368) hX dX11_nextToken_364 (by decide) ?_
          refine aw_puti hX kp_X11_157 sh_11 (by decide) rfl rfl rfl dX11_nextToken_368 ?_
          refine aw_mem (fun μ9 eμ9 => ?_)
          have k := k μ9 eμ9
          exact aw_vret hX hr dX11_nextToken_371 k
  · have k := k.2 c2
    refine aw_iload_n hX dX11_nextToken_339 rfl ?_
    refine aw_bipush hX dX11_nextToken_340 zb_43 ?_
    refine aw_icmp_le (tgt := 363) hX dX11_nextToken_342 (by decide) (fun c10 => ?_) (fun c10 => ?_)
    · have k := k.1 c10
      refine aw_iconst hX dX11_nextToken_363 zk_3 ?_
      refine aw_goto (tgt := 368) hX dX11_nextToken_364 (by decide) ?_
      refine aw_puti hX kp_X11_157 sh_11 (by decide) rfl rfl rfl dX11_nextToken_368 ?_
      refine aw_mem (fun μ11 eμ11 => ?_)
      have k := k μ11 eμ11
      exact aw_vret hX hr dX11_nextToken_371 k
    · have k := k.2 c10
      refine aw_iload_n hX dX11_nextToken_345 rfl ?_
      refine aw_bipush hX dX11_nextToken_346 zb_45 ?_
      refine aw_icmp_eq (tgt := 363) hX dX11_nextToken_348 (by decide) (fun c12 => ?_) (fun c12 => ?_)
      · have k := k.1 c12
        refine aw_iconst hX dX11_nextToken_363 zk_3 ?_
        refine aw_goto (tgt := 368) hX dX11_nextToken_364 (by decide) ?_
        refine aw_puti hX kp_X11_157 sh_11 (by decide) rfl rfl rfl dX11_nextToken_368 ?_
        refine aw_mem (fun μ13 eμ13 => ?_)
        have k := k μ13 eμ13
        exact aw_vret hX hr dX11_nextToken_371 k
      · have k := k.2 c12
        refine aw_iload_n hX dX11_nextToken_351 rfl ?_
        refine aw_bipush hX dX11_nextToken_352 zb_59 ?_
        refine aw_icmp_lt (tgt := 367) hX dX11_nextToken_354 (by decide) (fun c14 => ?_) (fun c14 => ?_)
        · have k := k.1 c14
          refine aw_iconst hX dX11_nextToken_367 zk_4 ?_
          refine aw_puti hX kp_X11_157 sh_11 (by decide) rfl rfl rfl dX11_nextToken_368 ?_
          refine aw_mem (fun μ15 eμ15 => ?_)
          have k := k μ15 eμ15
          exact aw_vret hX hr dX11_nextToken_371 k
        · have k := k.2 c14
          refine aw_iload_n hX dX11_nextToken_357 rfl ?_
          refine aw_bipush hX dX11_nextToken_358 zb_61 ?_
          refine aw_icmp_gt (tgt := 367) hX dX11_nextToken_360 (by decide) (fun c16 => ?_) (fun c16 => ?_)
          · have k := k.1 c16
            refine aw_iconst hX dX11_nextToken_367 zk_4 ?_
            refine aw_puti hX kp_X11_157 sh_11 (by decide) rfl rfl rfl dX11_nextToken_368 ?_
            refine aw_mem (fun μ17 eμ17 => ?_)
            have k := k μ17 eμ17
            exact aw_vret hX hr dX11_nextToken_371 k
          · have k := k.2 c16
            refine aw_iconst hX dX11_nextToken_363 zk_3 ?_
            refine aw_goto (tgt := 368) hX dX11_nextToken_364 (by decide) ?_
            refine aw_puti hX kp_X11_157 sh_11 (by decide) rfl rfl rfl dX11_nextToken_368 ?_
            refine aw_mem (fun μ18 eμ18 => ?_)
            have k := k μ18 eμ18
            exact aw_vret hX hr dX11_nextToken_371 k

set_option maxRecDepth 100000 in
set_option maxHeartbeats 4000000 in
theorem st_X11_nextToken_224 {X : zX} {lv : Nat} {Post : Option Value → zM → Prop} (hX : zOk X cX11_nextToken RX11 2 lv) (hr : zRt X none Post)   {μ : zM}
    (k : zCallI X lv yX11_signAt cX11_signAt 2 (some .int) [.ref (X.G.ad 11 0), .int (μ.1 11 0 4)] μ (fun (r1 : Int32) μ2 => (r1 < (48 : Int32) → ((((μ2.1 11 0 4) - (μ2.1 11 0 5)) ≤ (4 : Int32) → (∀ μ5 : zM, μ5 = pI μ2 11 0 6 (2 : Int32) → (Post none μ5))) ∧ (¬ ((μ2.1 11 0 4) - (μ2.1 11 0 5)) ≤ (4 : Int32) → (∀ μ6 : zM, μ6 = pI μ2 11 0 6 (4 : Int32) → (Post none μ6))))) ∧ (¬ r1 < (48 : Int32) → (zCallI X lv yX11_signAt cX11_signAt 2 (some .int) [.ref (X.G.ad 11 0), .int (μ2.1 11 0 4)] μ2 (fun (r7 : Int32) μ8 => ((57 : Int32) < r7 → ((((μ8.1 11 0 4) - (μ8.1 11 0 5)) ≤ (4 : Int32) → (∀ μ11 : zM, μ11 = pI μ8 11 0 6 (2 : Int32) → (Post none μ11))) ∧ (¬ ((μ8.1 11 0 4) - (μ8.1 11 0 5)) ≤ (4 : Int32) → (∀ μ12 : zM, μ12 = pI μ8 11 0 6 (4 : Int32) → (Post none μ12))))) ∧ (¬ (57 : Int32) < r7 → (((4 : Int32) ≤ ((μ8.1 11 0 4) - (μ8.1 11 0 5)) → (∀ μ14 : zM, μ14 = pI μ8 11 0 4 ((μ8.1 11 0 4) + (1 : Int32)) → (AW X 224 [some (.ref (X.G.ad 11 0)), none] [] μ14))) ∧ (¬ (4 : Int32) ≤ ((μ8.1 11 0 4) - (μ8.1 11 0 5)) → (zCallI X lv yX11_signAt cX11_signAt 2 (some .int) [.ref (X.G.ad 11 0), .int (μ8.1 11 0 4)] μ8 (fun (r15 : Int32) μ16 => ∀ μ17 : zM, μ17 = pI μ16 11 0 8 ((((μ8.1 11 0 8) * (10 : Int32)) + r15) - (48 : Int32)) → (∀ μ18 : zM, μ18 = pI μ17 11 0 4 ((μ17.1 11 0 4) + (1 : Int32)) → (AW X 224 [some (.ref (X.G.ad 11 0)), none] [] μ18)))))))))))) :
    AW X 224 [some (.ref (X.G.ad 11 0)), none] [] μ := by
  refine aw_aload_n hX dX11_nextToken_224 rfl ?_
  refine aw_aload_n hX dX11_nextToken_225 rfl ?_
  refine aw_geti hX kf_X11_144 sh_11 (by decide) rfl dX11_nextToken_226 ?_
  refine aw_invI (As := [.int (μ.1 11 0 4)]) (rest := []) (κ := 11) (o := 0) (T := TX11) (N := 55) hX vc_X11_160 sh_11 (by decide) rfl rfl rfl (Nat.le_of_ble_eq_true rfl) dX11_nextToken_229 k (fun r1 μ2 k => ?_)
  refine aw_bipush hX dX11_nextToken_232 zb_48 ?_
  refine aw_icmp_lt (tgt := 299) hX dX11_nextToken_234 (by decide) (fun c3 => ?_) (fun c3 => ?_)
  · have k := k.1 c3
    refine aw_aload_n hX dX11_nextToken_299 rfl ?_
    refine aw_aload_n hX dX11_nextToken_300 rfl ?_
    refine aw_geti hX kf_X11_144 sh_11 (by decide) rfl dX11_nextToken_301 ?_
    refine aw_aload_n hX dX11_nextToken_304 rfl ?_
    refine aw_geti hX kf_X11_147 sh_11 (by decide) rfl dX11_nextToken_305 ?_
    refine aw_isub hX dX11_nextToken_308 ?_
    refine aw_iconst hX dX11_nextToken_309 zk_4 ?_
    refine aw_icmp_le (tgt := 317) hX dX11_nextToken_310 (by decide) (fun c4 => ?_) (fun c4 => ?_)
    · have k := k.1 c4
      refine aw_iconst hX dX11_nextToken_317 zk_2 ?_
      refine aw_puti hX kp_X11_157 sh_11 (by decide) rfl rfl rfl dX11_nextToken_318 ?_
      refine aw_mem (fun μ5 eμ5 => ?_)
      have k := k μ5 eμ5
      exact aw_vret hX hr dX11_nextToken_321 k
    · have k := k.2 c4
      refine aw_iconst hX dX11_nextToken_313 zk_4 ?_
      refine aw_goto (tgt := 318) hX dX11_nextToken_314 (by decide) ?_
      refine aw_puti hX kp_X11_157 sh_11 (by decide) rfl rfl rfl dX11_nextToken_318 ?_
      refine aw_mem (fun μ6 eμ6 => ?_)
      have k := k μ6 eμ6
      exact aw_vret hX hr dX11_nextToken_321 k
  · have k := k.2 c3
    refine aw_aload_n hX dX11_nextToken_237 rfl ?_
    refine aw_aload_n hX dX11_nextToken_238 rfl ?_
    refine aw_geti hX kf_X11_144 sh_11 (by decide) rfl dX11_nextToken_239 ?_
    refine aw_invI (As := [.int (μ2.1 11 0 4)]) (rest := []) (κ := 11) (o := 0) (T := TX11) (N := 55) hX vc_X11_160 sh_11 (by decide) rfl rfl rfl (Nat.le_of_ble_eq_true rfl) dX11_nextToken_242 k (fun r7 μ8 k => ?_)
    refine aw_bipush hX dX11_nextToken_245 zb_57 ?_
    refine aw_icmp_gt (tgt := 299) hX dX11_nextToken_247 (by decide) (fun c9 => ?_) (fun c9 => ?_)
    · have k := k.1 c9
      refine aw_aload_n hX dX11_nextToken_299 rfl ?_
      refine aw_aload_n hX dX11_nextToken_300 rfl ?_
      refine aw_geti hX kf_X11_144 sh_11 (by decide) rfl dX11_nextToken_301 ?_
      refine aw_aload_n hX dX11_nextToken_304 rfl ?_
      refine aw_geti hX kf_X11_147 sh_11 (by decide) rfl dX11_nextToken_305 ?_
      refine aw_isub hX dX11_nextToken_308 ?_
      refine aw_iconst hX dX11_nextToken_309 zk_4 ?_
      refine aw_icmp_le (tgt := 317) hX dX11_nextToken_310 (by decide) (fun c10 => ?_) (fun c10 => ?_)
      · have k := k.1 c10
        refine aw_iconst hX dX11_nextToken_317 zk_2 ?_
        refine aw_puti hX kp_X11_157 sh_11 (by decide) rfl rfl rfl dX11_nextToken_318 ?_
        refine aw_mem (fun μ11 eμ11 => ?_)
        have k := k μ11 eμ11
        exact aw_vret hX hr dX11_nextToken_321 k
      · have k := k.2 c10
        refine aw_iconst hX dX11_nextToken_313 zk_4 ?_
        refine aw_goto (tgt := 318) hX dX11_nextToken_314 (by decide) ?_
        refine aw_puti hX kp_X11_157 sh_11 (by decide) rfl rfl rfl dX11_nextToken_318 ?_
        refine aw_mem (fun μ12 eμ12 => ?_)
        have k := k μ12 eμ12
        exact aw_vret hX hr dX11_nextToken_321 k
    · have k := k.2 c9
      refine aw_aload_n hX dX11_nextToken_250 rfl ?_
      refine aw_geti hX kf_X11_144 sh_11 (by decide) rfl dX11_nextToken_251 ?_
      refine aw_aload_n hX dX11_nextToken_254 rfl ?_
      refine aw_geti hX kf_X11_147 sh_11 (by decide) rfl dX11_nextToken_255 ?_
      refine aw_isub hX dX11_nextToken_258 ?_
      refine aw_iconst hX dX11_nextToken_259 zk_4 ?_
      refine aw_icmp_ge (tgt := 286) hX dX11_nextToken_260 (by decide) (fun c13 => ?_) (fun c13 => ?_)
      · have k := k.1 c13
        refine aw_aload_n hX dX11_nextToken_286 rfl ?_
        refine aw_dup hX dX11_nextToken_287 rfl ?_
        refine aw_geti hX kf_X11_144 sh_11 (by decide) rfl dX11_nextToken_288 ?_
        refine aw_iconst hX dX11_nextToken_291 zk_1 ?_
        refine aw_iadd hX dX11_nextToken_292 ?_
        refine aw_puti hX kp_X11_144 sh_11 (by decide) rfl rfl rfl dX11_nextToken_293 ?_
        refine aw_mem (fun μ14 eμ14 => ?_)
        have k := k μ14 eμ14
        refine aw_goto (tgt := 224) hX dX11_nextToken_296 (by decide) ?_
        exact k
      · have k := k.2 c13
        refine aw_aload_n hX dX11_nextToken_263 rfl ?_
        refine aw_aload_n hX dX11_nextToken_264 rfl ?_
        refine aw_geti hX kf_X11_154 sh_11 (by decide) rfl dX11_nextToken_265 ?_
        refine aw_bipush hX dX11_nextToken_268 zb_10 ?_
        refine aw_imul hX dX11_nextToken_270 ?_
        refine aw_aload_n hX dX11_nextToken_271 rfl ?_
        refine aw_aload_n hX dX11_nextToken_272 rfl ?_
        refine aw_geti hX kf_X11_144 sh_11 (by decide) rfl dX11_nextToken_273 ?_
        refine aw_invI (As := [.int (μ8.1 11 0 4)]) (rest := [.int ((μ8.1 11 0 8) * (10 : Int32)), .ref (X.G.ad 11 0)]) (κ := 11) (o := 0) (T := TX11) (N := 55) hX vc_X11_160 sh_11 (by decide) rfl rfl rfl (Nat.le_of_ble_eq_true rfl) dX11_nextToken_276 k (fun r15 μ16 k => ?_)
        refine aw_iadd hX dX11_nextToken_279 ?_
        refine aw_bipush hX dX11_nextToken_280 zb_48 ?_
        refine aw_isub hX dX11_nextToken_282 ?_
        refine aw_puti hX kp_X11_154 sh_11 (by decide) rfl rfl rfl dX11_nextToken_283 ?_
        refine aw_mem (fun μ17 eμ17 => ?_)
        have k := k μ17 eμ17
        refine aw_aload_n hX dX11_nextToken_286 rfl ?_
        refine aw_dup hX dX11_nextToken_287 rfl ?_
        refine aw_geti hX kf_X11_144 sh_11 (by decide) rfl dX11_nextToken_288 ?_
        refine aw_iconst hX dX11_nextToken_291 zk_1 ?_
        refine aw_iadd hX dX11_nextToken_292 ?_
        refine aw_puti hX kp_X11_144 sh_11 (by decide) rfl rfl rfl dX11_nextToken_293 ?_
        refine aw_mem (fun μ18 eμ18 => ?_)
        have k := k μ18 eμ18
        refine aw_goto (tgt := 224) hX dX11_nextToken_296 (by decide) ?_
        exact k

set_option maxRecDepth 100000 in
set_option maxHeartbeats 4000000 in
theorem st_X11_nextToken_109 {X : zX} {lv : Nat} {Post : Option Value → zM → Prop} (hX : zOk X cX11_nextToken RX11 2 lv) (hr : zRt X none Post)   {μ : zM}
    (k : zCallI X lv yX11_signAt cX11_signAt 2 (some .int) [.ref (X.G.ad 11 0), .int (μ.1 11 0 4)] μ (fun (r1 : Int32) μ2 => (r1 < (97 : Int32) → ((((μ2.1 11 0 4) - (μ2.1 11 0 5)) ≤ (8 : Int32) → (∀ μ5 : zM, μ5 = pI μ2 11 0 6 (1 : Int32) → (Post none μ5))) ∧ (¬ ((μ2.1 11 0 4) - (μ2.1 11 0 5)) ≤ (8 : Int32) → (∀ μ6 : zM, μ6 = pI μ2 11 0 6 (4 : Int32) → (Post none μ6))))) ∧ (¬ r1 < (97 : Int32) → (zCallI X lv yX11_signAt cX11_signAt 2 (some .int) [.ref (X.G.ad 11 0), .int (μ2.1 11 0 4)] μ2 (fun (r7 : Int32) μ8 => ((122 : Int32) < r7 → ((((μ8.1 11 0 4) - (μ8.1 11 0 5)) ≤ (8 : Int32) → (∀ μ11 : zM, μ11 = pI μ8 11 0 6 (1 : Int32) → (Post none μ11))) ∧ (¬ ((μ8.1 11 0 4) - (μ8.1 11 0 5)) ≤ (8 : Int32) → (∀ μ12 : zM, μ12 = pI μ8 11 0 6 (4 : Int32) → (Post none μ12))))) ∧ (¬ (122 : Int32) < r7 → (((8 : Int32) ≤ ((μ8.1 11 0 4) - (μ8.1 11 0 5)) → (∀ μ14 : zM, μ14 = pI μ8 11 0 4 ((μ8.1 11 0 4) + (1 : Int32)) → (AW X 109 [some (.ref (X.G.ad 11 0)), none] [] μ14))) ∧ (¬ (8 : Int32) ≤ ((μ8.1 11 0 4) - (μ8.1 11 0 5)) → (zCallI X lv yX11_signAt cX11_signAt 2 (some .int) [.ref (X.G.ad 11 0), .int (μ8.1 11 0 4)] μ8 (fun (r15 : Int32) μ16 => ∀ μ17 : zM, μ17 = pL μ16 11 0 7 ((((μ8.2 11 0 7) * (27 : Int64)) + (Int32.toInt64 r15)) - (96 : Int64)) → (∀ μ18 : zM, μ18 = pI μ17 11 0 4 ((μ17.1 11 0 4) + (1 : Int32)) → (AW X 109 [some (.ref (X.G.ad 11 0)), none] [] μ18)))))))))))) :
    AW X 109 [some (.ref (X.G.ad 11 0)), none] [] μ := by
  refine aw_aload_n hX dX11_nextToken_109 rfl ?_
  refine aw_aload_n hX dX11_nextToken_110 rfl ?_
  refine aw_geti hX kf_X11_144 sh_11 (by decide) rfl dX11_nextToken_111 ?_
  refine aw_invI (As := [.int (μ.1 11 0 4)]) (rest := []) (κ := 11) (o := 0) (T := TX11) (N := 55) hX vc_X11_160 sh_11 (by decide) rfl rfl rfl (Nat.le_of_ble_eq_true rfl) dX11_nextToken_114 k (fun r1 μ2 k => ?_)
  refine aw_bipush hX dX11_nextToken_117 zb_97 ?_
  refine aw_icmp_lt (tgt := 188) hX dX11_nextToken_119 (by decide) (fun c3 => ?_) (fun c3 => ?_)
  · have k := k.1 c3
    refine aw_aload_n hX dX11_nextToken_188 rfl ?_
    refine aw_aload_n hX dX11_nextToken_189 rfl ?_
    refine aw_geti hX kf_X11_144 sh_11 (by decide) rfl dX11_nextToken_190 ?_
    refine aw_aload_n hX dX11_nextToken_193 rfl ?_
    refine aw_geti hX kf_X11_147 sh_11 (by decide) rfl dX11_nextToken_194 ?_
    refine aw_isub hX dX11_nextToken_197 ?_
    refine aw_bipush hX dX11_nextToken_198 zb_8 ?_
    refine aw_icmp_le (tgt := 207) hX dX11_nextToken_200 (by decide) (fun c4 => ?_) (fun c4 => ?_)
    · have k := k.1 c4
      refine aw_iconst hX dX11_nextToken_207 zk_1 ?_
      refine aw_puti hX kp_X11_157 sh_11 (by decide) rfl rfl rfl dX11_nextToken_208 ?_
      refine aw_mem (fun μ5 eμ5 => ?_)
      have k := k μ5 eμ5
      exact aw_vret hX hr dX11_nextToken_211 k
    · have k := k.2 c4
      refine aw_iconst hX dX11_nextToken_203 zk_4 ?_
      refine aw_goto (tgt := 208) hX dX11_nextToken_204 (by decide) ?_
      refine aw_puti hX kp_X11_157 sh_11 (by decide) rfl rfl rfl dX11_nextToken_208 ?_
      refine aw_mem (fun μ6 eμ6 => ?_)
      have k := k μ6 eμ6
      exact aw_vret hX hr dX11_nextToken_211 k
  · have k := k.2 c3
    refine aw_aload_n hX dX11_nextToken_122 rfl ?_
    refine aw_aload_n hX dX11_nextToken_123 rfl ?_
    refine aw_geti hX kf_X11_144 sh_11 (by decide) rfl dX11_nextToken_124 ?_
    refine aw_invI (As := [.int (μ2.1 11 0 4)]) (rest := []) (κ := 11) (o := 0) (T := TX11) (N := 55) hX vc_X11_160 sh_11 (by decide) rfl rfl rfl (Nat.le_of_ble_eq_true rfl) dX11_nextToken_127 k (fun r7 μ8 k => ?_)
    refine aw_bipush hX dX11_nextToken_130 zb_122 ?_
    refine aw_icmp_gt (tgt := 188) hX dX11_nextToken_132 (by decide) (fun c9 => ?_) (fun c9 => ?_)
    · have k := k.1 c9
      refine aw_aload_n hX dX11_nextToken_188 rfl ?_
      refine aw_aload_n hX dX11_nextToken_189 rfl ?_
      refine aw_geti hX kf_X11_144 sh_11 (by decide) rfl dX11_nextToken_190 ?_
      refine aw_aload_n hX dX11_nextToken_193 rfl ?_
      refine aw_geti hX kf_X11_147 sh_11 (by decide) rfl dX11_nextToken_194 ?_
      refine aw_isub hX dX11_nextToken_197 ?_
      refine aw_bipush hX dX11_nextToken_198 zb_8 ?_
      refine aw_icmp_le (tgt := 207) hX dX11_nextToken_200 (by decide) (fun c10 => ?_) (fun c10 => ?_)
      · have k := k.1 c10
        refine aw_iconst hX dX11_nextToken_207 zk_1 ?_
        refine aw_puti hX kp_X11_157 sh_11 (by decide) rfl rfl rfl dX11_nextToken_208 ?_
        refine aw_mem (fun μ11 eμ11 => ?_)
        have k := k μ11 eμ11
        exact aw_vret hX hr dX11_nextToken_211 k
      · have k := k.2 c10
        refine aw_iconst hX dX11_nextToken_203 zk_4 ?_
        refine aw_goto (tgt := 208) hX dX11_nextToken_204 (by decide) ?_
        refine aw_puti hX kp_X11_157 sh_11 (by decide) rfl rfl rfl dX11_nextToken_208 ?_
        refine aw_mem (fun μ12 eμ12 => ?_)
        have k := k μ12 eμ12
        exact aw_vret hX hr dX11_nextToken_211 k
    · have k := k.2 c9
      refine aw_aload_n hX dX11_nextToken_135 rfl ?_
      refine aw_geti hX kf_X11_144 sh_11 (by decide) rfl dX11_nextToken_136 ?_
      refine aw_aload_n hX dX11_nextToken_139 rfl ?_
      refine aw_geti hX kf_X11_147 sh_11 (by decide) rfl dX11_nextToken_140 ?_
      refine aw_isub hX dX11_nextToken_143 ?_
      refine aw_bipush hX dX11_nextToken_144 zb_8 ?_
      refine aw_icmp_ge (tgt := 175) hX dX11_nextToken_146 (by decide) (fun c13 => ?_) (fun c13 => ?_)
      · have k := k.1 c13
        refine aw_aload_n hX dX11_nextToken_175 rfl ?_
        refine aw_dup hX dX11_nextToken_176 rfl ?_
        refine aw_geti hX kf_X11_144 sh_11 (by decide) rfl dX11_nextToken_177 ?_
        refine aw_iconst hX dX11_nextToken_180 zk_1 ?_
        refine aw_iadd hX dX11_nextToken_181 ?_
        refine aw_puti hX kp_X11_144 sh_11 (by decide) rfl rfl rfl dX11_nextToken_182 ?_
        refine aw_mem (fun μ14 eμ14 => ?_)
        have k := k μ14 eμ14
        refine aw_goto (tgt := 109) hX dX11_nextToken_185 (by decide) ?_
        exact k
      · have k := k.2 c13
        refine aw_aload_n hX dX11_nextToken_149 rfl ?_
        refine aw_aload_n hX dX11_nextToken_150 rfl ?_
        refine aw_getl hX kf_X11_150 sh_11 (by decide) rfl dX11_nextToken_151 ?_
        refine aw_ldc2 hX kl_X11_164 dX11_nextToken_154 ?_
        refine aw_lmul hX dX11_nextToken_157 ?_
        refine aw_aload_n hX dX11_nextToken_158 rfl ?_
        refine aw_aload_n hX dX11_nextToken_159 rfl ?_
        refine aw_geti hX kf_X11_144 sh_11 (by decide) rfl dX11_nextToken_160 ?_
        refine aw_invI (As := [.int (μ8.1 11 0 4)]) (rest := [.long ((μ8.2 11 0 7) * (27 : Int64)), .ref (X.G.ad 11 0)]) (κ := 11) (o := 0) (T := TX11) (N := 55) hX vc_X11_160 sh_11 (by decide) rfl rfl rfl (Nat.le_of_ble_eq_true rfl) dX11_nextToken_163 k (fun r15 μ16 k => ?_)
        refine aw_i2l hX dX11_nextToken_166 ?_
        refine aw_ladd hX dX11_nextToken_167 ?_
        refine aw_ldc2 hX kl_X11_166 dX11_nextToken_168 ?_
        refine aw_lsub hX dX11_nextToken_171 ?_
        refine aw_putl hX kp_X11_150 sh_11 (by decide) rfl dX11_nextToken_172 ?_
        refine aw_mem (fun μ17 eμ17 => ?_)
        have k := k μ17 eμ17
        refine aw_aload_n hX dX11_nextToken_175 rfl ?_
        refine aw_dup hX dX11_nextToken_176 rfl ?_
        refine aw_geti hX kf_X11_144 sh_11 (by decide) rfl dX11_nextToken_177 ?_
        refine aw_iconst hX dX11_nextToken_180 zk_1 ?_
        refine aw_iadd hX dX11_nextToken_181 ?_
        refine aw_puti hX kp_X11_144 sh_11 (by decide) rfl rfl rfl dX11_nextToken_182 ?_
        refine aw_mem (fun μ18 eμ18 => ?_)
        have k := k μ18 eμ18
        refine aw_goto (tgt := 109) hX dX11_nextToken_185 (by decide) ?_
        exact k

set_option maxRecDepth 100000 in
set_option maxHeartbeats 4000000 in
theorem st_X11_isWord_0 {X : zX} {lv : Nat} {Post : Option Value → zM → Prop} (hX : zOk X cX11_isWord RX11 3 lv) (hr : zRt X (some .boolean) Post)  {x1 : Int64} {μ : zM}
    (k : (¬ (μ.1 11 0 6) = (1 : Int32) → (Post (some (.int (0 : Int32))) μ)) ∧ ((μ.1 11 0 6) = (1 : Int32) → ((¬ (lg_cmp (μ.2 11 0 7) x1) = 0 → (Post (some (.int (0 : Int32))) μ)) ∧ ((lg_cmp (μ.2 11 0 7) x1) = 0 → (Post (some (.int (1 : Int32))) μ))))) :
    AW X 0 [some (.ref (X.G.ad 11 0)), some (.long x1), none] [] μ := by
  refine aw_aload_n hX dX11_isWord_0 rfl ?_
  refine aw_geti hX kf_X11_157 sh_11 (by decide) rfl dX11_isWord_1 ?_
  refine aw_iconst hX dX11_isWord_4 zk_1 ?_
  refine aw_icmp_ne (tgt := 21) hX dX11_isWord_5 (by decide) (fun c1 => ?_) (fun c1 => ?_)
  · have k := k.1 c1
    refine aw_iconst hX dX11_isWord_21 zk_0 ?_
    exact aw_zret hX hr (by decide) dX11_isWord_22 k
  · have k := k.2 c1
    refine aw_aload_n hX dX11_isWord_8 rfl ?_
    refine aw_getl hX kf_X11_150 sh_11 (by decide) rfl dX11_isWord_9 ?_
    refine aw_lload_n hX dX11_isWord_12 rfl ?_
    refine aw_lcmp hX dX11_isWord_13 ?_
    refine aw_if_ne (tgt := 21) hX dX11_isWord_14 (by decide) (fun c2 => ?_) (fun c2 => ?_)
    · have k := k.1 c2
      refine aw_iconst hX dX11_isWord_21 zk_0 ?_
      exact aw_zret hX hr (by decide) dX11_isWord_22 k
    · have k := k.2 c2
      refine aw_iconst hX dX11_isWord_17 zk_1 ?_
      refine aw_goto (tgt := 22) hX dX11_isWord_18 (by decide) ?_
      exact aw_zret hX hr (by decide) dX11_isWord_22 k

set_option maxRecDepth 100000 in
set_option maxHeartbeats 4000000 in
theorem st_X11_isSign_0 {X : zX} {lv : Nat} {Post : Option Value → zM → Prop} (hX : zOk X cX11_isSign RX11 2 lv) (hr : zRt X (some .boolean) Post)  {x1 : Int32} {μ : zM}
    (k : (¬ (μ.1 11 0 6) = (3 : Int32) → (Post (some (.int (0 : Int32))) μ)) ∧ ((μ.1 11 0 6) = (3 : Int32) → ((vp_in (μ.1 11 0 5) 1000) ∧ ((¬ (μ.1 35 0 (ix (μ.1 11 0 5))) = x1 → (Post (some (.int (0 : Int32))) μ)) ∧ ((μ.1 35 0 (ix (μ.1 11 0 5))) = x1 → (Post (some (.int (1 : Int32))) μ)))))) :
    AW X 0 [some (.ref (X.G.ad 11 0)), some (.int x1)] [] μ := by
  refine aw_aload_n hX dX11_isSign_0 rfl ?_
  refine aw_geti hX kf_X11_157 sh_11 (by decide) rfl dX11_isSign_1 ?_
  refine aw_iconst hX dX11_isSign_4 zk_3 ?_
  refine aw_icmp_ne (tgt := 25) hX dX11_isSign_5 (by decide) (fun c1 => ?_) (fun c1 => ?_)
  · have k := k.1 c1
    refine aw_iconst hX dX11_isSign_25 zk_0 ?_
    exact aw_zret hX hr (by decide) dX11_isSign_26 k
  · have k := k.2 c1
    refine aw_aload_n hX dX11_isSign_8 rfl ?_
    refine aw_getr (o' := 0) hX kf_X11_7 sh_11 (by decide) rfl rfl dX11_isSign_9 ?_
    refine aw_aload_n hX dX11_isSign_12 rfl ?_
    refine aw_geti hX kf_X11_147 sh_11 (by decide) rfl dX11_isSign_13 ?_
    have s2 := k.1
    have k := k.2
    refine aw_iald' (k := (ix (μ.1 11 0 5))) hX sh_35 (by decide) s2 rfl dX11_isSign_16 ?_
    refine aw_iload_n hX dX11_isSign_17 rfl ?_
    refine aw_icmp_ne (tgt := 25) hX dX11_isSign_18 (by decide) (fun c3 => ?_) (fun c3 => ?_)
    · have k := k.1 c3
      refine aw_iconst hX dX11_isSign_25 zk_0 ?_
      exact aw_zret hX hr (by decide) dX11_isSign_26 k
    · have k := k.2 c3
      refine aw_iconst hX dX11_isSign_21 zk_1 ?_
      refine aw_goto (tgt := 26) hX dX11_isSign_22 (by decide) ?_
      exact aw_zret hX hr (by decide) dX11_isSign_26 k

set_option maxRecDepth 100000 in
set_option maxHeartbeats 4000000 in
theorem st_X11_fails_0 {X : zX} {lv : Nat} {Post : Option Value → zM → Prop} (hX : zOk X cX11_fails RX11 2 lv) (hr : zRt X (some .boolean) Post)  {x1 : Int32} {μ : zM}
    (k : ∀ μ1 : zM, μ1 = pI μ 11 0 9 (x1 + ((16 : Int32) * (μ.1 11 0 5))) → (Post (some (.int (0 : Int32))) μ1)) :
    AW X 0 [some (.ref (X.G.ad 11 0)), some (.int x1)] [] μ := by
  refine aw_aload_n hX dX11_fails_0 rfl ?_
  refine aw_iload_n hX dX11_fails_1 rfl ?_
  refine aw_bipush hX dX11_fails_2 zb_16 ?_
  refine aw_aload_n hX dX11_fails_4 rfl ?_
  refine aw_geti hX kf_X11_147 sh_11 (by decide) rfl dX11_fails_5 ?_
  refine aw_imul hX dX11_fails_8 ?_
  refine aw_iadd hX dX11_fails_9 ?_
  refine aw_puti hX kp_X11_168 sh_11 (by decide) rfl rfl rfl dX11_fails_10 ?_
  refine aw_mem (fun μ1 eμ1 => ?_)
  have k := k μ1 eμ1
  refine aw_iconst hX dX11_fails_13 zk_0 ?_
  exact aw_zret hX hr (by decide) dX11_fails_14 k

set_option maxRecDepth 100000 in
set_option maxHeartbeats 4000000 in
theorem st_X11_puts_0 {X : zX} {lv : Nat} {Post : Option Value → zM → Prop} (hX : zOk X cX11_puts RX11 2 lv) (hr : zRt X none Post)  {x1 : Int32} {μ : zM}
    (k : (vp_in (μ.1 11 0 32) 6000) ∧ (∀ μ2 : zM, μ2 = pI μ 57 0 (ix (μ.1 11 0 32)) x1 → (∀ μ3 : zM, μ3 = pI μ2 11 0 32 ((μ2.1 11 0 32) + (1 : Int32)) → (Post none μ3)))) :
    AW X 0 [some (.ref (X.G.ad 11 0)), some (.int x1)] [] μ := by
  refine aw_aload_n hX dX11_puts_0 rfl ?_
  refine aw_getr (o' := 0) hX kf_X11_77 sh_11 (by decide) rfl rfl dX11_puts_1 ?_
  refine aw_aload_n hX dX11_puts_4 rfl ?_
  refine aw_geti hX kf_X11_171 sh_11 (by decide) rfl dX11_puts_5 ?_
  refine aw_iload_n hX dX11_puts_8 rfl ?_
  have s1 := k.1
  have k := k.2
  refine aw_iast' (k := (ix (μ.1 11 0 32))) hX sh_57 (by decide) s1 rfl dX11_puts_9 ?_
  refine aw_mem (fun μ2 eμ2 => ?_)
  have k := k μ2 eμ2
  refine aw_aload_n hX dX11_puts_10 rfl ?_
  refine aw_dup hX dX11_puts_11 rfl ?_
  refine aw_geti hX kf_X11_171 sh_11 (by decide) rfl dX11_puts_12 ?_
  refine aw_iconst hX dX11_puts_15 zk_1 ?_
  refine aw_iadd hX dX11_puts_16 ?_
  refine aw_puti hX kp_X11_171 sh_11 (by decide) rfl rfl rfl dX11_puts_17 ?_
  refine aw_mem (fun μ3 eμ3 => ?_)
  have k := k μ3 eμ3
  exact aw_vret hX hr dX11_puts_20 k

set_option maxRecDepth 100000 in
set_option maxHeartbeats 4000000 in
theorem st_X11_fact_0 {X : zX} {lv : Nat} {Post : Option Value → zM → Prop} (hX : zOk X cX11_fact RX11 1 lv) (hr : zRt X (some .int) Post)   {μ : zM}
    (k : ((μ.1 11 0 6) = (1 : Int32) → ((¬ (lg_cmp (μ.2 11 0 7) (3379448 : Int64)) = 0 → ((¬ (lg_cmp (μ.2 11 0 7) (275356804 : Int64)) = 0 → ((¬ (lg_cmp (μ.2 11 0 7) (10793335 : Int64)) = 0 → ((¬ (lg_cmp (μ.2 11 0 7) (94492070 : Int64)) = 0 → ((¬ (lg_cmp (μ.2 11 0 7) (16922 : Int64)) = 0 → (Post (some (.int (0 : Int32))) μ)) ∧ ((lg_cmp (μ.2 11 0 7) (16922 : Int64)) = 0 → (Post (some (.int (5 : Int32))) μ)))) ∧ ((lg_cmp (μ.2 11 0 7) (94492070 : Int64)) = 0 → (Post (some (.int (4 : Int32))) μ)))) ∧ ((lg_cmp (μ.2 11 0 7) (10793335 : Int64)) = 0 → (Post (some (.int (3 : Int32))) μ)))) ∧ ((lg_cmp (μ.2 11 0 7) (275356804 : Int64)) = 0 → (Post (some (.int (2 : Int32))) μ)))) ∧ ((lg_cmp (μ.2 11 0 7) (3379448 : Int64)) = 0 → (Post (some (.int (1 : Int32))) μ)))) ∧ (¬ (μ.1 11 0 6) = (1 : Int32) → (Post (some (.int (0 : Int32))) μ))) :
    AW X 0 [some (.ref (X.G.ad 11 0))] [] μ := by
  refine aw_aload_n hX dX11_fact_0 rfl ?_
  refine aw_geti hX kf_X11_157 sh_11 (by decide) rfl dX11_fact_1 ?_
  refine aw_iconst hX dX11_fact_4 zk_1 ?_
  refine aw_icmp_eq (tgt := 10) hX dX11_fact_5 (by decide) (fun c1 => ?_) (fun c1 => ?_)
  · have k := k.1 c1
    refine aw_aload_n hX dX11_fact_10 rfl ?_
    refine aw_getl hX kf_X11_150 sh_11 (by decide) rfl dX11_fact_11 ?_
    refine aw_ldc2 hX kl_X11_174 dX11_fact_14 ?_
    refine aw_lcmp hX dX11_fact_17 ?_
    refine aw_if_ne (tgt := 23) hX dX11_fact_18 (by decide) (fun c2 => ?_) (fun c2 => ?_)
    · have k := k.1 c2
      refine aw_aload_n hX dX11_fact_23 rfl ?_
      refine aw_getl hX kf_X11_150 sh_11 (by decide) rfl dX11_fact_24 ?_
      refine aw_ldc2 hX kl_X11_176 dX11_fact_27 ?_
      refine aw_lcmp hX dX11_fact_30 ?_
      refine aw_if_ne (tgt := 36) hX dX11_fact_31 (by decide) (fun c3 => ?_) (fun c3 => ?_)
      · have k := k.1 c3
        refine aw_aload_n hX dX11_fact_36 rfl ?_
        refine aw_getl hX kf_X11_150 sh_11 (by decide) rfl dX11_fact_37 ?_
        refine aw_ldc2 hX kl_X11_178 dX11_fact_40 ?_
        refine aw_lcmp hX dX11_fact_43 ?_
        refine aw_if_ne (tgt := 49) hX dX11_fact_44 (by decide) (fun c4 => ?_) (fun c4 => ?_)
        · have k := k.1 c4
          refine aw_aload_n hX dX11_fact_49 rfl ?_
          refine aw_getl hX kf_X11_150 sh_11 (by decide) rfl dX11_fact_50 ?_
          refine aw_ldc2 hX kl_X11_180 dX11_fact_53 ?_
          refine aw_lcmp hX dX11_fact_56 ?_
          refine aw_if_ne (tgt := 62) hX dX11_fact_57 (by decide) (fun c5 => ?_) (fun c5 => ?_)
          · have k := k.1 c5
            refine aw_aload_n hX dX11_fact_62 rfl ?_
            refine aw_getl hX kf_X11_150 sh_11 (by decide) rfl dX11_fact_63 ?_
            refine aw_ldc2 hX kl_X11_182 dX11_fact_66 ?_
            refine aw_lcmp hX dX11_fact_69 ?_
            refine aw_if_ne (tgt := 75) hX dX11_fact_70 (by decide) (fun c6 => ?_) (fun c6 => ?_)
            · have k := k.1 c6
              refine aw_iconst hX dX11_fact_75 zk_0 ?_
              exact aw_iret hX hr dX11_fact_76 k
            · have k := k.2 c6
              refine aw_iconst hX dX11_fact_73 zk_5 ?_
              exact aw_iret hX hr dX11_fact_74 k
          · have k := k.2 c5
            refine aw_iconst hX dX11_fact_60 zk_4 ?_
            exact aw_iret hX hr dX11_fact_61 k
        · have k := k.2 c4
          refine aw_iconst hX dX11_fact_47 zk_3 ?_
          exact aw_iret hX hr dX11_fact_48 k
      · have k := k.2 c3
        refine aw_iconst hX dX11_fact_34 zk_2 ?_
        exact aw_iret hX hr dX11_fact_35 k
    · have k := k.2 c2
      refine aw_iconst hX dX11_fact_21 zk_1 ?_
      exact aw_iret hX hr dX11_fact_22 k
  · have k := k.2 c1
    refine aw_iconst hX dX11_fact_8 zk_0 ?_
    exact aw_iret hX hr dX11_fact_9 k

set_option maxRecDepth 100000 in
set_option maxHeartbeats 4000000 in
theorem st_X11_reads_0 {X : zX} {lv : Nat} {Post : Option Value → zM → Prop} (hX : zOk X cX11_reads RX11 6 lv) (hr : zRt X (some .boolean) Post)   {μ : zM}
    (k : ∀ μ1 : zM, μ1 = pI μ 59 0 0 (vp_nar .boolean (0 : Int32)) → (AW X 11 [some (.ref (X.G.ad 11 0)), some (.int (0 : Int32)), some (.int (1 : Int32)), none, none, none] [] μ1)) :
    AW X 0 [some (.ref (X.G.ad 11 0)), none, none, none, none, none] [] μ := by
  refine aw_iconst hX dX11_reads_0 zk_0 ?_
  refine aw_istore_n (L' := [some (.ref (X.G.ad 11 0)), some (.int (0 : Int32)), none, none, none, none]) hX dX11_reads_1 (Nat.le_of_ble_eq_true rfl) rfl ?_
  refine aw_iconst hX dX11_reads_2 zk_1 ?_
  refine aw_istore_n (L' := [some (.ref (X.G.ad 11 0)), some (.int (0 : Int32)), some (.int (1 : Int32)), none, none, none]) hX dX11_reads_3 (Nat.le_of_ble_eq_true rfl) rfl ?_
  refine aw_aload_n hX dX11_reads_4 rfl ?_
  refine aw_getr (o' := 0) hX kf_X11_83 sh_11 (by decide) rfl rfl dX11_reads_5 ?_
  refine aw_iconst hX dX11_reads_8 zk_0 ?_
  refine aw_iconst hX dX11_reads_9 zk_0 ?_
  refine aw_zast' (k := 0) hX sh_59 (by decide) (zdi (by decide)) (by decide) dX11_reads_10 ?_
  refine aw_mem (fun μ1 eμ1 => ?_)
  have k := k μ1 eμ1
  exact k

set_option maxRecDepth 100000 in
set_option maxHeartbeats 4000000 in
theorem st_X11_reads_11 {X : zX} {lv : Nat} {Post : Option Value → zM → Prop} (hX : zOk X cX11_reads RX11 6 lv) (hr : zRt X (some .boolean) Post)  {x1 : Int32} {x2 : Int32} {μ : zM}
    (k : (x2 = 0 → (zCallI X lv yX11_isSign cX11_isSign 2 (some .boolean) [.ref (X.G.ad 11 0), .int (43 : Int32)] μ (fun (r2 : Int32) μ3 => (¬ r2 = 0 → (AW X 206 [some (.ref (X.G.ad 11 0)), some (.int x1), none, none, none, none] [] μ3)) ∧ (r2 = 0 → (zCallI X lv yX11_isSign cX11_isSign 2 (some .boolean) [.ref (X.G.ad 11 0), .int (45 : Int32)] μ3 (fun (r5 : Int32) μ6 => (¬ r5 = 0 → (AW X 206 [some (.ref (X.G.ad 11 0)), some (.int x1), none, none, none, none] [] μ6)) ∧ (r5 = 0 → (zCallI X lv yX11_isSign cX11_isSign 2 (some .boolean) [.ref (X.G.ad 11 0), .int (42 : Int32)] μ6 (fun (r8 : Int32) μ9 => (r8 = 0 → (zCallI X lv yX11_isSign cX11_isSign 2 (some .boolean) [.ref (X.G.ad 11 0), .int (60 : Int32)] μ9 (fun (r11 : Int32) μ12 => (¬ r11 = 0 → (AW X 263 [some (.ref (X.G.ad 11 0)), some (.int x1), some (.int x2), none, none, none] [] μ12)) ∧ (r11 = 0 → (zCallI X lv yX11_isSign cX11_isSign 2 (some .boolean) [.ref (X.G.ad 11 0), .int (61 : Int32)] μ12 (fun (r14 : Int32) μ15 => (r14 = 0 → (AW X 304 [some (.ref (X.G.ad 11 0)), some (.int x1), some (.int x2), none, none, none] [] μ15)) ∧ (¬ r14 = 0 → (AW X 263 [some (.ref (X.G.ad 11 0)), some (.int x1), some (.int x2), none, none, none] [] μ15)))))))) ∧ (¬ r8 = 0 → (AW X 206 [some (.ref (X.G.ad 11 0)), some (.int x1), none, none, none, none] [] μ9))))))))))) ∧ (¬ x2 = 0 → (zCallI X lv yX11_fact cX11_fact 1 (some .int) [.ref (X.G.ad 11 0)] μ (fun (r17 : Int32) μ18 => zCallI X lv yX11_isWord cX11_isWord 3 (some .boolean) [.ref (X.G.ad 11 0), .long (10631 : Int64)] μ18 (fun (r19 : Int32) μ20 => zCallI X lv yX11_isSign cX11_isSign 2 (some .boolean) [.ref (X.G.ad 11 0), .int (40 : Int32)] μ20 (fun (r21 : Int32) μ22 => (¬ r17 = 0 → (AW X 65 [some (.ref (X.G.ad 11 0)), some (.int x1), some (.int x2), some (.int r17), some (.int r19), some (.int r21)] [] μ22)) ∧ (r17 = 0 → ((¬ r19 = 0 → (AW X 65 [some (.ref (X.G.ad 11 0)), some (.int x1), some (.int x2), some (.int r17), some (.int r19), some (.int r21)] [] μ22)) ∧ (r19 = 0 → ((¬ r21 = 0 → (AW X 65 [some (.ref (X.G.ad 11 0)), some (.int x1), some (.int x2), some (.int r17), some (.int r19), some (.int r21)] [] μ22)) ∧ (r21 = 0 → (((μ22.1 11 0 6) = (2 : Int32) → (AW X 65 [some (.ref (X.G.ad 11 0)), some (.int x1), some (.int x2), some (.int r17), some (.int r19), some (.int r21)] [] μ22)) ∧ (¬ (μ22.1 11 0 6) = (2 : Int32) → (zCallI X lv yX11_fails cX11_fails 2 (some .boolean) [.ref (X.G.ad 11 0), .int (1 : Int32)] μ22 (fun (r27 : Int32) μ28 => narrow .boolean (.int r27) = .int r27 ∧ Post (some (.int r27)) μ28))))))))))))))) :
    AW X 11 [some (.ref (X.G.ad 11 0)), some (.int x1), some (.int x2), none, none, none] [] μ := by
  refine aw_iload_n hX dX11_reads_11 rfl ?_
  refine aw_if_eq (tgt := 179) hX dX11_reads_12 (by decide) (fun c1 => ?_) (fun c1 => ?_)
  · have k := k.1 c1
    refine aw_aload_n hX dX11_reads_179 rfl ?_
    refine aw_bipush hX dX11_reads_180 zb_43 ?_
    refine aw_invI (As := [.int (43 : Int32)]) (rest := []) (κ := 11) (o := 0) (T := TX11) (N := 55) hX vc_X11_194 sh_11 (by decide) rfl rfl rfl (Nat.le_of_ble_eq_true rfl) dX11_reads_182 k (fun r2 μ3 k => ?_)
    refine aw_if_ne (tgt := 206) hX dX11_reads_185 (by decide) (fun c4 => ?_) (fun c4 => ?_)
    · have k := k.1 c4
      exact aw_less (zle_s (zle_s (zle_o (zle_o (zle_o (zle_o zle_n)))))) k
    · have k := k.2 c4
      refine aw_aload_n hX dX11_reads_188 rfl ?_
      refine aw_bipush hX dX11_reads_189 zb_45 ?_
      refine aw_invI (As := [.int (45 : Int32)]) (rest := []) (κ := 11) (o := 0) (T := TX11) (N := 55) hX vc_X11_194 sh_11 (by decide) rfl rfl rfl (Nat.le_of_ble_eq_true rfl) dX11_reads_191 k (fun r5 μ6 k => ?_)
      refine aw_if_ne (tgt := 206) hX dX11_reads_194 (by decide) (fun c7 => ?_) (fun c7 => ?_)
      · have k := k.1 c7
        exact aw_less (zle_s (zle_s (zle_o (zle_o (zle_o (zle_o zle_n)))))) k
      · have k := k.2 c7
        refine aw_aload_n hX dX11_reads_197 rfl ?_
        refine aw_bipush hX dX11_reads_198 zb_42 ?_
        refine aw_invI (As := [.int (42 : Int32)]) (rest := []) (κ := 11) (o := 0) (T := TX11) (N := 55) hX vc_X11_194 sh_11 (by decide) rfl rfl rfl (Nat.le_of_ble_eq_true rfl) dX11_reads_200 k (fun r8 μ9 k => ?_)
        refine aw_if_eq (tgt := 245) hX dX11_reads_203 (by decide) (fun c10 => ?_) (fun c10 => ?_)
        · have k := k.1 c10
          refine aw_aload_n hX dX11_reads_245 rfl ?_
          refine aw_bipush hX dX11_reads_246 zb_60 ?_
          refine aw_invI (As := [.int (60 : Int32)]) (rest := []) (κ := 11) (o := 0) (T := TX11) (N := 55) hX vc_X11_194 sh_11 (by decide) rfl rfl rfl (Nat.le_of_ble_eq_true rfl) dX11_reads_248 k (fun r11 μ12 k => ?_)
          refine aw_if_ne (tgt := 263) hX dX11_reads_251 (by decide) (fun c13 => ?_) (fun c13 => ?_)
          · have k := k.1 c13
            exact k
          · have k := k.2 c13
            refine aw_aload_n hX dX11_reads_254 rfl ?_
            refine aw_bipush hX dX11_reads_255 zb_61 ?_
            refine aw_invI (As := [.int (61 : Int32)]) (rest := []) (κ := 11) (o := 0) (T := TX11) (N := 55) hX vc_X11_194 sh_11 (by decide) rfl rfl rfl (Nat.le_of_ble_eq_true rfl) dX11_reads_257 k (fun r14 μ15 k => ?_)
            refine aw_if_eq (tgt := 304) hX dX11_reads_260 (by decide) (fun c16 => ?_) (fun c16 => ?_)
            · have k := k.1 c16
              exact k
            · have k := k.2 c16
              exact k
        · have k := k.2 c10
          exact aw_less (zle_s (zle_s (zle_o (zle_o (zle_o (zle_o zle_n)))))) k
  · have k := k.2 c1
    refine aw_aload_n hX dX11_reads_15 rfl ?_
    refine aw_invI (As := []) (rest := []) (κ := 11) (o := 0) (T := TX11) (N := 55) hX vc_X11_184 sh_11 (by decide) rfl rfl rfl (Nat.le_of_ble_eq_true rfl) dX11_reads_16 k (fun r17 μ18 k => ?_)
    refine aw_istore_n (L' := [some (.ref (X.G.ad 11 0)), some (.int x1), some (.int x2), some (.int r17), none, none]) hX dX11_reads_19 (Nat.le_of_ble_eq_true rfl) rfl ?_
    refine aw_aload_n hX dX11_reads_20 rfl ?_
    refine aw_ldc2 hX kl_X11_188 dX11_reads_21 ?_
    refine aw_invI (As := [.long (10631 : Int64)]) (rest := []) (κ := 11) (o := 0) (T := TX11) (N := 55) hX vc_X11_190 sh_11 (by decide) rfl rfl rfl (Nat.le_of_ble_eq_true rfl) dX11_reads_24 k (fun r19 μ20 k => ?_)
    refine aw_istore (L' := [some (.ref (X.G.ad 11 0)), some (.int x1), some (.int x2), some (.int r17), some (.int r19), none]) hX dX11_reads_27 (Nat.le_of_ble_eq_true rfl) rfl ?_
    refine aw_aload_n hX dX11_reads_29 rfl ?_
    refine aw_bipush hX dX11_reads_30 zb_40 ?_
    refine aw_invI (As := [.int (40 : Int32)]) (rest := []) (κ := 11) (o := 0) (T := TX11) (N := 55) hX vc_X11_194 sh_11 (by decide) rfl rfl rfl (Nat.le_of_ble_eq_true rfl) dX11_reads_32 k (fun r21 μ22 k => ?_)
    refine aw_istore (L' := [some (.ref (X.G.ad 11 0)), some (.int x1), some (.int x2), some (.int r17), some (.int r19), some (.int r21)]) hX dX11_reads_35 (Nat.le_of_ble_eq_true rfl) rfl ?_
    refine aw_iload_n hX dX11_reads_37 rfl ?_
    refine aw_if_ne (tgt := 65) hX dX11_reads_38 (by decide) (fun c23 => ?_) (fun c23 => ?_)
    · have k := k.1 c23
      exact k
    · have k := k.2 c23
      refine aw_iload hX dX11_reads_41 rfl ?_
      refine aw_if_ne (tgt := 65) hX dX11_reads_43 (by decide) (fun c24 => ?_) (fun c24 => ?_)
      · have k := k.1 c24
        exact k
      · have k := k.2 c24
        refine aw_iload hX dX11_reads_46 rfl ?_
        refine aw_if_ne (tgt := 65) hX dX11_reads_48 (by decide) (fun c25 => ?_) (fun c25 => ?_)
        · have k := k.1 c25
          exact k
        · have k := k.2 c25
          refine aw_aload_n hX dX11_reads_51 rfl ?_
          refine aw_geti hX kf_X11_157 sh_11 (by decide) rfl dX11_reads_52 ?_
          refine aw_iconst hX dX11_reads_55 zk_2 ?_
          refine aw_icmp_eq (tgt := 65) hX dX11_reads_56 (by decide) (fun c26 => ?_) (fun c26 => ?_)
          · have k := k.1 c26
            exact k
          · have k := k.2 c26
            refine aw_aload_n hX dX11_reads_59 rfl ?_
            refine aw_iconst hX dX11_reads_60 zk_1 ?_
            refine aw_invI (As := [.int (1 : Int32)]) (rest := []) (κ := 11) (o := 0) (T := TX11) (N := 55) hX vc_X11_198 sh_11 (by decide) rfl rfl rfl (Nat.le_of_ble_eq_true rfl) dX11_reads_61 k (fun r27 μ28 k => ?_)
            exact aw_zret hX hr k.1 dX11_reads_64 k.2

set_option maxRecDepth 100000 in
set_option maxHeartbeats 4000000 in
theorem st_X11_reads_206 {X : zX} {lv : Nat} {Post : Option Value → zM → Prop} (hX : zOk X cX11_reads RX11 6 lv) (hr : zRt X (some .boolean) Post)  {x1 : Int32} {μ : zM}
    (k : zCallI X lv yX11_isSign cX11_isSign 2 (some .boolean) [.ref (X.G.ad 11 0), .int (43 : Int32)] μ (fun (r1 : Int32) μ2 => (r1 = 0 → (zCallI X lv yX11_isSign cX11_isSign 2 (some .boolean) [.ref (X.G.ad 11 0), .int (45 : Int32)] μ2 (fun (r4 : Int32) μ5 => (r4 = 0 → (zCallV X lv yX11_puts cX11_puts 2 none [.ref (X.G.ad 11 0), .int (22 : Int32)] μ5 (fun μ8 => zCallV X lv yX11_nextToken cX11_nextToken 2 none [.ref (X.G.ad 11 0)] μ8 (fun μ10 => AW X 11 [some (.ref (X.G.ad 11 0)), some (.int x1), some (.int (1 : Int32)), none, none, none] [] μ10)))) ∧ (¬ r4 = 0 → (zCallV X lv yX11_puts cX11_puts 2 none [.ref (X.G.ad 11 0), .int (21 : Int32)] μ5 (fun μ12 => zCallV X lv yX11_nextToken cX11_nextToken 2 none [.ref (X.G.ad 11 0)] μ12 (fun μ14 => AW X 11 [some (.ref (X.G.ad 11 0)), some (.int x1), some (.int (1 : Int32)), none, none, none] [] μ14))))))) ∧ (¬ r1 = 0 → (zCallV X lv yX11_puts cX11_puts 2 none [.ref (X.G.ad 11 0), .int (20 : Int32)] μ2 (fun μ16 => zCallV X lv yX11_nextToken cX11_nextToken 2 none [.ref (X.G.ad 11 0)] μ16 (fun μ18 => AW X 11 [some (.ref (X.G.ad 11 0)), some (.int x1), some (.int (1 : Int32)), none, none, none] [] μ18)))))) :
    AW X 206 [some (.ref (X.G.ad 11 0)), some (.int x1), none, none, none, none] [] μ := by
  refine aw_aload_n hX dX11_reads_206 rfl ?_
  refine aw_aload_n hX dX11_reads_207 rfl ?_
  refine aw_bipush hX dX11_reads_208 zb_43 ?_
  refine aw_invI (As := [.int (43 : Int32)]) (rest := [.ref (X.G.ad 11 0)]) (κ := 11) (o := 0) (T := TX11) (N := 55) hX vc_X11_194 sh_11 (by decide) rfl rfl rfl (Nat.le_of_ble_eq_true rfl) dX11_reads_210 k (fun r1 μ2 k => ?_)
  refine aw_if_eq (tgt := 221) hX dX11_reads_213 (by decide) (fun c3 => ?_) (fun c3 => ?_)
  · have k := k.1 c3
    refine aw_aload_n hX dX11_reads_221 rfl ?_
    refine aw_bipush hX dX11_reads_222 zb_45 ?_
    refine aw_invI (As := [.int (45 : Int32)]) (rest := [.ref (X.G.ad 11 0)]) (κ := 11) (o := 0) (T := TX11) (N := 55) hX vc_X11_194 sh_11 (by decide) rfl rfl rfl (Nat.le_of_ble_eq_true rfl) dX11_reads_224 k (fun r4 μ5 k => ?_)
    refine aw_if_eq (tgt := 235) hX dX11_reads_227 (by decide) (fun c6 => ?_) (fun c6 => ?_)
    · have k := k.1 c6
      refine aw_bipush hX dX11_reads_235 zb_22 ?_
      refine aw_invV (As := [.int (22 : Int32)]) (rest := []) (κ := 11) (o := 0) (T := TX11) (N := 55) hX vc_X11_201 sh_11 (by decide) rfl rfl rfl (Nat.le_of_ble_eq_true rfl) dX11_reads_237 k (fun μ8 k => ?_)
      refine aw_iconst hX dX11_reads_240 zk_1 ?_
      refine aw_istore_n (L' := [some (.ref (X.G.ad 11 0)), some (.int x1), some (.int (1 : Int32)), none, none, none]) hX dX11_reads_241 (Nat.le_of_ble_eq_true rfl) rfl ?_
      refine aw_goto (tgt := 424) hX dX11_reads_242 (by decide) ?_
      refine aw_aload_n hX dX11_reads_424 rfl ?_
      refine aw_invV (As := []) (rest := []) (κ := 11) (o := 0) (T := TX11) (N := 55) hX vc_X11_205 sh_11 (by decide) rfl rfl rfl (Nat.le_of_ble_eq_true rfl) dX11_reads_425 k (fun μ10 k => ?_)
      refine aw_goto (tgt := 11) hX dX11_reads_428 (by decide) ?_
      exact k
    · have k := k.2 c6
      refine aw_bipush hX dX11_reads_230 zb_21 ?_
      refine aw_goto (tgt := 237) hX dX11_reads_232 (by decide) ?_
      refine aw_invV (As := [.int (21 : Int32)]) (rest := []) (κ := 11) (o := 0) (T := TX11) (N := 55) hX vc_X11_201 sh_11 (by decide) rfl rfl rfl (Nat.le_of_ble_eq_true rfl) dX11_reads_237 k (fun μ12 k => ?_)
      refine aw_iconst hX dX11_reads_240 zk_1 ?_
      refine aw_istore_n (L' := [some (.ref (X.G.ad 11 0)), some (.int x1), some (.int (1 : Int32)), none, none, none]) hX dX11_reads_241 (Nat.le_of_ble_eq_true rfl) rfl ?_
      refine aw_goto (tgt := 424) hX dX11_reads_242 (by decide) ?_
      refine aw_aload_n hX dX11_reads_424 rfl ?_
      refine aw_invV (As := []) (rest := []) (κ := 11) (o := 0) (T := TX11) (N := 55) hX vc_X11_205 sh_11 (by decide) rfl rfl rfl (Nat.le_of_ble_eq_true rfl) dX11_reads_425 k (fun μ14 k => ?_)
      refine aw_goto (tgt := 11) hX dX11_reads_428 (by decide) ?_
      exact k
  · have k := k.2 c3
    refine aw_bipush hX dX11_reads_216 zb_20 ?_
    refine aw_goto (tgt := 237) hX dX11_reads_218 (by decide) ?_
    refine aw_invV (As := [.int (20 : Int32)]) (rest := []) (κ := 11) (o := 0) (T := TX11) (N := 55) hX vc_X11_201 sh_11 (by decide) rfl rfl rfl (Nat.le_of_ble_eq_true rfl) dX11_reads_237 k (fun μ16 k => ?_)
    refine aw_iconst hX dX11_reads_240 zk_1 ?_
    refine aw_istore_n (L' := [some (.ref (X.G.ad 11 0)), some (.int x1), some (.int (1 : Int32)), none, none, none]) hX dX11_reads_241 (Nat.le_of_ble_eq_true rfl) rfl ?_
    refine aw_goto (tgt := 424) hX dX11_reads_242 (by decide) ?_
    refine aw_aload_n hX dX11_reads_424 rfl ?_
    refine aw_invV (As := []) (rest := []) (κ := 11) (o := 0) (T := TX11) (N := 55) hX vc_X11_205 sh_11 (by decide) rfl rfl rfl (Nat.le_of_ble_eq_true rfl) dX11_reads_425 k (fun μ18 k => ?_)
    refine aw_goto (tgt := 11) hX dX11_reads_428 (by decide) ?_
    exact k

set_option maxRecDepth 100000 in
set_option maxHeartbeats 4000000 in
theorem st_X11_reads_263 {X : zX} {lv : Nat} {Post : Option Value → zM → Prop} (hX : zOk X cX11_reads RX11 6 lv) (hr : zRt X (some .boolean) Post)  {x1 : Int32} {x2 : Int32} {μ : zM}
    (k : (vp_in x1 7) ∧ ((¬ (μ.1 59 0 (ix x1)) = 0 → (AW X 304 [some (.ref (X.G.ad 11 0)), some (.int x1), some (.int x2), none, none, none] [] μ)) ∧ ((μ.1 59 0 (ix x1)) = 0 → (zCallI X lv yX11_isSign cX11_isSign 2 (some .boolean) [.ref (X.G.ad 11 0), .int (60 : Int32)] μ (fun (r3 : Int32) μ4 => (r3 = 0 → (zCallV X lv yX11_puts cX11_puts 2 none [.ref (X.G.ad 11 0), .int (25 : Int32)] μ4 (fun μ7 => ∀ μ8 : zM, μ8 = pI μ7 59 0 (ix x1) (vp_nar .boolean (1 : Int32)) → (zCallV X lv yX11_nextToken cX11_nextToken 2 none [.ref (X.G.ad 11 0)] μ8 (fun μ10 => AW X 11 [some (.ref (X.G.ad 11 0)), some (.int x1), some (.int (1 : Int32)), none, none, none] [] μ10))))) ∧ (¬ r3 = 0 → (zCallV X lv yX11_puts cX11_puts 2 none [.ref (X.G.ad 11 0), .int (24 : Int32)] μ4 (fun μ12 => ∀ μ13 : zM, μ13 = pI μ12 59 0 (ix x1) (vp_nar .boolean (1 : Int32)) → (zCallV X lv yX11_nextToken cX11_nextToken 2 none [.ref (X.G.ad 11 0)] μ13 (fun μ15 => AW X 11 [some (.ref (X.G.ad 11 0)), some (.int x1), some (.int (1 : Int32)), none, none, none] [] μ15)))))))))) :
    AW X 263 [some (.ref (X.G.ad 11 0)), some (.int x1), some (.int x2), none, none, none] [] μ := by
  refine aw_aload_n hX dX11_reads_263 rfl ?_
  refine aw_getr (o' := 0) hX kf_X11_83 sh_11 (by decide) rfl rfl dX11_reads_264 ?_
  refine aw_iload_n hX dX11_reads_267 rfl ?_
  have s1 := k.1
  have k := k.2
  refine aw_zald' (k := (ix x1)) hX sh_59 (by decide) s1 rfl dX11_reads_268 ?_
  refine aw_if_ne (tgt := 304) hX dX11_reads_269 (by decide) (fun c2 => ?_) (fun c2 => ?_)
  · have k := k.1 c2
    exact k
  · have k := k.2 c2
    refine aw_aload_n hX dX11_reads_272 rfl ?_
    refine aw_aload_n hX dX11_reads_273 rfl ?_
    refine aw_bipush hX dX11_reads_274 zb_60 ?_
    refine aw_invI (As := [.int (60 : Int32)]) (rest := [.ref (X.G.ad 11 0)]) (κ := 11) (o := 0) (T := TX11) (N := 55) hX vc_X11_194 sh_11 (by decide) rfl rfl rfl (Nat.le_of_ble_eq_true rfl) dX11_reads_276 k (fun r3 μ4 k => ?_)
    refine aw_if_eq (tgt := 287) hX dX11_reads_279 (by decide) (fun c5 => ?_) (fun c5 => ?_)
    · have k := k.1 c5
      refine aw_bipush hX dX11_reads_287 zb_25 ?_
      refine aw_invV (As := [.int (25 : Int32)]) (rest := []) (κ := 11) (o := 0) (T := TX11) (N := 55) hX vc_X11_201 sh_11 (by decide) rfl rfl rfl (Nat.le_of_ble_eq_true rfl) dX11_reads_289 k (fun μ7 k => ?_)
      refine aw_aload_n hX dX11_reads_292 rfl ?_
      refine aw_getr (o' := 0) hX kf_X11_83 sh_11 (by decide) rfl rfl dX11_reads_293 ?_
      refine aw_iload_n hX dX11_reads_296 rfl ?_
      refine aw_iconst hX dX11_reads_297 zk_1 ?_
      refine aw_zast' (k := (ix x1)) hX sh_59 (by decide) s1 rfl dX11_reads_298 ?_
      refine aw_mem (fun μ8 eμ8 => ?_)
      have k := k μ8 eμ8
      refine aw_iconst hX dX11_reads_299 zk_1 ?_
      refine aw_istore_n (L' := [some (.ref (X.G.ad 11 0)), some (.int x1), some (.int (1 : Int32)), none, none, none]) hX dX11_reads_300 (Nat.le_of_ble_eq_true rfl) rfl ?_
      refine aw_goto (tgt := 424) hX dX11_reads_301 (by decide) ?_
      refine aw_aload_n hX dX11_reads_424 rfl ?_
      refine aw_invV (As := []) (rest := []) (κ := 11) (o := 0) (T := TX11) (N := 55) hX vc_X11_205 sh_11 (by decide) rfl rfl rfl (Nat.le_of_ble_eq_true rfl) dX11_reads_425 k (fun μ10 k => ?_)
      refine aw_goto (tgt := 11) hX dX11_reads_428 (by decide) ?_
      exact k
    · have k := k.2 c5
      refine aw_bipush hX dX11_reads_282 zb_24 ?_
      refine aw_goto (tgt := 289) hX dX11_reads_284 (by decide) ?_
      refine aw_invV (As := [.int (24 : Int32)]) (rest := []) (κ := 11) (o := 0) (T := TX11) (N := 55) hX vc_X11_201 sh_11 (by decide) rfl rfl rfl (Nat.le_of_ble_eq_true rfl) dX11_reads_289 k (fun μ12 k => ?_)
      refine aw_aload_n hX dX11_reads_292 rfl ?_
      refine aw_getr (o' := 0) hX kf_X11_83 sh_11 (by decide) rfl rfl dX11_reads_293 ?_
      refine aw_iload_n hX dX11_reads_296 rfl ?_
      refine aw_iconst hX dX11_reads_297 zk_1 ?_
      refine aw_zast' (k := (ix x1)) hX sh_59 (by decide) s1 rfl dX11_reads_298 ?_
      refine aw_mem (fun μ13 eμ13 => ?_)
      have k := k μ13 eμ13
      refine aw_iconst hX dX11_reads_299 zk_1 ?_
      refine aw_istore_n (L' := [some (.ref (X.G.ad 11 0)), some (.int x1), some (.int (1 : Int32)), none, none, none]) hX dX11_reads_300 (Nat.le_of_ble_eq_true rfl) rfl ?_
      refine aw_goto (tgt := 424) hX dX11_reads_301 (by decide) ?_
      refine aw_aload_n hX dX11_reads_424 rfl ?_
      refine aw_invV (As := []) (rest := []) (κ := 11) (o := 0) (T := TX11) (N := 55) hX vc_X11_205 sh_11 (by decide) rfl rfl rfl (Nat.le_of_ble_eq_true rfl) dX11_reads_425 k (fun μ15 k => ?_)
      refine aw_goto (tgt := 11) hX dX11_reads_428 (by decide) ?_
      exact k

set_option maxRecDepth 100000 in
set_option maxHeartbeats 4000000 in
theorem st_X11_reads_304 {X : zX} {lv : Nat} {Post : Option Value → zM → Prop} (hX : zOk X cX11_reads RX11 6 lv) (hr : zRt X (some .boolean) Post)  {x1 : Int32} {x2 : Int32} {μ : zM}
    (k : zCallI X lv yX11_isWord cX11_isWord 3 (some .boolean) [.ref (X.G.ad 11 0), .long (1111 : Int64)] μ (fun (r1 : Int32) μ2 => (¬ r1 = 0 → (AW X 324 [some (.ref (X.G.ad 11 0)), some (.int x1), none, none, none, none] [] μ2)) ∧ (r1 = 0 → (zCallI X lv yX11_isWord cX11_isWord 3 (some .boolean) [.ref (X.G.ad 11 0), .long (423 : Int64)] μ2 (fun (r4 : Int32) μ5 => (r4 = 0 → (zCallI X lv yX11_isSign cX11_isSign 2 (some .boolean) [.ref (X.G.ad 11 0), .int (41 : Int32)] μ5 (fun (r7 : Int32) μ8 => (r7 = 0 → ((¬ x1 = 0 → (zCallI X lv yX11_fails cX11_fails 2 (some .boolean) [.ref (X.G.ad 11 0), .int (1 : Int32)] μ8 (fun (r11 : Int32) μ12 => narrow .boolean (.int r11) = .int r11 ∧ Post (some (.int r11)) μ12))) ∧ (x1 = 0 → (zCallI X lv yX11_isSign cX11_isSign 2 (some .boolean) [.ref (X.G.ad 11 0), .int (59 : Int32)] μ8 (fun (r13 : Int32) μ14 => (r13 = 0 → (zCallI X lv yX11_fails cX11_fails 2 (some .boolean) [.ref (X.G.ad 11 0), .int (1 : Int32)] μ14 (fun (r16 : Int32) μ17 => narrow .boolean (.int r16) = .int r16 ∧ Post (some (.int r16)) μ17))) ∧ (¬ r13 = 0 → (zCallV X lv yX11_nextToken cX11_nextToken 2 none [.ref (X.G.ad 11 0)] μ14 (fun μ19 => Post (some (.int (1 : Int32))) μ19)))))))) ∧ (¬ r7 = 0 → ((x1 ≤ 0 → ((¬ x1 = 0 → (zCallI X lv yX11_fails cX11_fails 2 (some .boolean) [.ref (X.G.ad 11 0), .int (1 : Int32)] μ8 (fun (r22 : Int32) μ23 => narrow .boolean (.int r22) = .int r22 ∧ Post (some (.int r22)) μ23))) ∧ (x1 = 0 → (zCallI X lv yX11_isSign cX11_isSign 2 (some .boolean) [.ref (X.G.ad 11 0), .int (59 : Int32)] μ8 (fun (r24 : Int32) μ25 => (r24 = 0 → (zCallI X lv yX11_fails cX11_fails 2 (some .boolean) [.ref (X.G.ad 11 0), .int (1 : Int32)] μ25 (fun (r27 : Int32) μ28 => narrow .boolean (.int r27) = .int r27 ∧ Post (some (.int r27)) μ28))) ∧ (¬ r24 = 0 → (zCallV X lv yX11_nextToken cX11_nextToken 2 none [.ref (X.G.ad 11 0)] μ25 (fun μ30 => Post (some (.int (1 : Int32))) μ30)))))))) ∧ (¬ x1 ≤ 0 → (zCallV X lv yX11_puts cX11_puts 2 none [.ref (X.G.ad 11 0), .int (29 : Int32)] μ8 (fun μ32 => ∀ v33 : Int32, v33 = x1 + (-1 : Int32) → (AW X 379 [some (.ref (X.G.ad 11 0)), some (.int v33), some (.int x2), none, none, none] [] μ32))))))))) ∧ (¬ r4 = 0 → (AW X 324 [some (.ref (X.G.ad 11 0)), some (.int x1), none, none, none, none] [] μ5))))))) :
    AW X 304 [some (.ref (X.G.ad 11 0)), some (.int x1), some (.int x2), none, none, none] [] μ := by
  refine aw_aload_n hX dX11_reads_304 rfl ?_
  refine aw_ldc2 hX kl_X11_208 dX11_reads_305 ?_
  refine aw_invI (As := [.long (1111 : Int64)]) (rest := []) (κ := 11) (o := 0) (T := TX11) (N := 55) hX vc_X11_190 sh_11 (by decide) rfl rfl rfl (Nat.le_of_ble_eq_true rfl) dX11_reads_308 k (fun r1 μ2 k => ?_)
  refine aw_if_ne (tgt := 324) hX dX11_reads_311 (by decide) (fun c3 => ?_) (fun c3 => ?_)
  · have k := k.1 c3
    exact aw_less (zle_s (zle_s (zle_o (zle_o (zle_o (zle_o zle_n)))))) k
  · have k := k.2 c3
    refine aw_aload_n hX dX11_reads_314 rfl ?_
    refine aw_ldc2 hX kl_X11_210 dX11_reads_315 ?_
    refine aw_invI (As := [.long (423 : Int64)]) (rest := []) (κ := 11) (o := 0) (T := TX11) (N := 55) hX vc_X11_190 sh_11 (by decide) rfl rfl rfl (Nat.le_of_ble_eq_true rfl) dX11_reads_318 k (fun r4 μ5 k => ?_)
    refine aw_if_eq (tgt := 357) hX dX11_reads_321 (by decide) (fun c6 => ?_) (fun c6 => ?_)
    · have k := k.1 c6
      refine aw_aload_n hX dX11_reads_357 rfl ?_
      refine aw_bipush hX dX11_reads_358 zb_41 ?_
      refine aw_invI (As := [.int (41 : Int32)]) (rest := []) (κ := 11) (o := 0) (T := TX11) (N := 55) hX vc_X11_194 sh_11 (by decide) rfl rfl rfl (Nat.le_of_ble_eq_true rfl) dX11_reads_360 k (fun r7 μ8 k => ?_)
      refine aw_if_eq (tgt := 399) hX dX11_reads_363 (by decide) (fun c9 => ?_) (fun c9 => ?_)
      · have k := k.1 c9
        refine aw_iload_n hX dX11_reads_399 rfl ?_
        refine aw_if_ne (tgt := 418) hX dX11_reads_400 (by decide) (fun c10 => ?_) (fun c10 => ?_)
        · have k := k.1 c10
          refine aw_aload_n hX dX11_reads_418 rfl ?_
          refine aw_iconst hX dX11_reads_419 zk_1 ?_
          refine aw_invI (As := [.int (1 : Int32)]) (rest := []) (κ := 11) (o := 0) (T := TX11) (N := 55) hX vc_X11_198 sh_11 (by decide) rfl rfl rfl (Nat.le_of_ble_eq_true rfl) dX11_reads_420 k (fun r11 μ12 k => ?_)
          exact aw_zret hX hr k.1 dX11_reads_423 k.2
        · have k := k.2 c10
          refine aw_aload_n hX dX11_reads_403 rfl ?_
          refine aw_bipush hX dX11_reads_404 zb_59 ?_
          refine aw_invI (As := [.int (59 : Int32)]) (rest := []) (κ := 11) (o := 0) (T := TX11) (N := 55) hX vc_X11_194 sh_11 (by decide) rfl rfl rfl (Nat.le_of_ble_eq_true rfl) dX11_reads_406 k (fun r13 μ14 k => ?_)
          refine aw_if_eq (tgt := 418) hX dX11_reads_409 (by decide) (fun c15 => ?_) (fun c15 => ?_)
          · have k := k.1 c15
            refine aw_aload_n hX dX11_reads_418 rfl ?_
            refine aw_iconst hX dX11_reads_419 zk_1 ?_
            refine aw_invI (As := [.int (1 : Int32)]) (rest := []) (κ := 11) (o := 0) (T := TX11) (N := 55) hX vc_X11_198 sh_11 (by decide) rfl rfl rfl (Nat.le_of_ble_eq_true rfl) dX11_reads_420 k (fun r16 μ17 k => ?_)
            exact aw_zret hX hr k.1 dX11_reads_423 k.2
          · have k := k.2 c15
            refine aw_aload_n hX dX11_reads_412 rfl ?_
            refine aw_invV (As := []) (rest := []) (κ := 11) (o := 0) (T := TX11) (N := 55) hX vc_X11_205 sh_11 (by decide) rfl rfl rfl (Nat.le_of_ble_eq_true rfl) dX11_reads_413 k (fun μ19 k => ?_)
            refine aw_iconst hX dX11_reads_416 zk_1 ?_
            exact aw_zret hX hr (by decide) dX11_reads_417 k
      · have k := k.2 c9
        refine aw_iload_n hX dX11_reads_366 rfl ?_
        refine aw_if_le (tgt := 399) hX dX11_reads_367 (by decide) (fun c20 => ?_) (fun c20 => ?_)
        · have k := k.1 c20
          refine aw_iload_n hX dX11_reads_399 rfl ?_
          refine aw_if_ne (tgt := 418) hX dX11_reads_400 (by decide) (fun c21 => ?_) (fun c21 => ?_)
          · have k := k.1 c21
            refine aw_aload_n hX dX11_reads_418 rfl ?_
            refine aw_iconst hX dX11_reads_419 zk_1 ?_
            refine aw_invI (As := [.int (1 : Int32)]) (rest := []) (κ := 11) (o := 0) (T := TX11) (N := 55) hX vc_X11_198 sh_11 (by decide) rfl rfl rfl (Nat.le_of_ble_eq_true rfl) dX11_reads_420 k (fun r22 μ23 k => ?_)
            exact aw_zret hX hr k.1 dX11_reads_423 k.2
          · have k := k.2 c21
            refine aw_aload_n hX dX11_reads_403 rfl ?_
            refine aw_bipush hX dX11_reads_404 zb_59 ?_
            refine aw_invI (As := [.int (59 : Int32)]) (rest := []) (κ := 11) (o := 0) (T := TX11) (N := 55) hX vc_X11_194 sh_11 (by decide) rfl rfl rfl (Nat.le_of_ble_eq_true rfl) dX11_reads_406 k (fun r24 μ25 k => ?_)
            refine aw_if_eq (tgt := 418) hX dX11_reads_409 (by decide) (fun c26 => ?_) (fun c26 => ?_)
            · have k := k.1 c26
              refine aw_aload_n hX dX11_reads_418 rfl ?_
              refine aw_iconst hX dX11_reads_419 zk_1 ?_
              refine aw_invI (As := [.int (1 : Int32)]) (rest := []) (κ := 11) (o := 0) (T := TX11) (N := 55) hX vc_X11_198 sh_11 (by decide) rfl rfl rfl (Nat.le_of_ble_eq_true rfl) dX11_reads_420 k (fun r27 μ28 k => ?_)
              exact aw_zret hX hr k.1 dX11_reads_423 k.2
            · have k := k.2 c26
              refine aw_aload_n hX dX11_reads_412 rfl ?_
              refine aw_invV (As := []) (rest := []) (κ := 11) (o := 0) (T := TX11) (N := 55) hX vc_X11_205 sh_11 (by decide) rfl rfl rfl (Nat.le_of_ble_eq_true rfl) dX11_reads_413 k (fun μ30 k => ?_)
              refine aw_iconst hX dX11_reads_416 zk_1 ?_
              exact aw_zret hX hr (by decide) dX11_reads_417 k
        · have k := k.2 c20
          refine aw_aload_n hX dX11_reads_370 rfl ?_
          refine aw_bipush hX dX11_reads_371 zb_29 ?_
          refine aw_invV (As := [.int (29 : Int32)]) (rest := []) (κ := 11) (o := 0) (T := TX11) (N := 55) hX vc_X11_201 sh_11 (by decide) rfl rfl rfl (Nat.le_of_ble_eq_true rfl) dX11_reads_373 k (fun μ32 k => ?_)
          obtain ⟨v33, ev33⟩ : ∃ y : Int32, y = x1 + (-1 : Int32) := ⟨_, rfl⟩
          have k := k v33 ev33
          refine aw_iinc (v := v33) (L' := [some (.ref (X.G.ad 11 0)), some (.int v33), some (.int x2), none, none, none]) hX dX11_reads_376 rfl (by rw [ev33]; rfl) (Nat.le_of_ble_eq_true rfl) rfl ?_
          exact k
    · have k := k.2 c6
      exact aw_less (zle_s (zle_s (zle_o (zle_o (zle_o (zle_o zle_n)))))) k

set_option maxRecDepth 100000 in
set_option maxHeartbeats 4000000 in
theorem st_X11_reads_65 {X : zX} {lv : Nat} {Post : Option Value → zM → Prop} (hX : zOk X cX11_reads RX11 6 lv) (hr : zRt X (some .boolean) Post)  {x1 : Int32} {x2 : Int32} {x3 : Int32} {x4 : Int32} {x5 : Int32} {μ : zM}
    (k : (¬ x1 = (5 : Int32) → ((¬ x4 = 0 → (AW X 86 [some (.ref (X.G.ad 11 0)), some (.int x1), some (.int x2), none, some (.int x4), none] [] μ)) ∧ (x4 = 0 → ((x5 = 0 → ((x3 ≤ 0 → (zCallV X lv yX11_puts cX11_puts 2 none [.ref (X.G.ad 11 0), .int ((100 : Int32) + (μ.1 11 0 8))] μ (fun μ6 => AW X 152 [some (.ref (X.G.ad 11 0)), some (.int x1), some (.int (0 : Int32)), none, none, none] [] μ6))) ∧ (¬ x3 ≤ 0 → (zCallV X lv yX11_puts cX11_puts 2 none [.ref (X.G.ad 11 0), .int x3] μ (fun μ8 => AW X 152 [some (.ref (X.G.ad 11 0)), some (.int x1), some (.int (0 : Int32)), none, none, none] [] μ8))))) ∧ (¬ x5 = 0 → (AW X 86 [some (.ref (X.G.ad 11 0)), some (.int x1), some (.int x2), none, some (.int x4), none] [] μ)))))) ∧ (x1 = (5 : Int32) → (zCallI X lv yX11_fails cX11_fails 2 (some .boolean) [.ref (X.G.ad 11 0), .int (5 : Int32)] μ (fun (r9 : Int32) μ10 => narrow .boolean (.int r9) = .int r9 ∧ Post (some (.int r9)) μ10)))) :
    AW X 65 [some (.ref (X.G.ad 11 0)), some (.int x1), some (.int x2), some (.int x3), some (.int x4), some (.int x5)] [] μ := by
  refine aw_iload_n hX dX11_reads_65 rfl ?_
  refine aw_iconst hX dX11_reads_66 zk_5 ?_
  refine aw_icmp_ne (tgt := 76) hX dX11_reads_67 (by decide) (fun c1 => ?_) (fun c1 => ?_)
  · have k := k.1 c1
    refine aw_iload hX dX11_reads_76 rfl ?_
    refine aw_if_ne (tgt := 86) hX dX11_reads_78 (by decide) (fun c2 => ?_) (fun c2 => ?_)
    · have k := k.1 c2
      exact aw_less (zle_s (zle_s (zle_s (zle_o (zle_s (zle_o zle_n)))))) k
    · have k := k.2 c2
      refine aw_iload hX dX11_reads_81 rfl ?_
      refine aw_if_eq (tgt := 131) hX dX11_reads_83 (by decide) (fun c3 => ?_) (fun c3 => ?_)
      · have k := k.1 c3
        refine aw_aload_n hX dX11_reads_131 rfl ?_
        refine aw_iload_n hX dX11_reads_132 rfl ?_
        refine aw_if_le (tgt := 140) hX dX11_reads_133 (by decide) (fun c4 => ?_) (fun c4 => ?_)
        · have k := k.1 c4
          refine aw_bipush hX dX11_reads_140 zb_100 ?_
          refine aw_aload_n hX dX11_reads_142 rfl ?_
          refine aw_geti hX kf_X11_154 sh_11 (by decide) rfl dX11_reads_143 ?_
          refine aw_iadd hX dX11_reads_146 ?_
          refine aw_invV (As := [.int ((100 : Int32) + (μ.1 11 0 8))]) (rest := []) (κ := 11) (o := 0) (T := TX11) (N := 55) hX vc_X11_201 sh_11 (by decide) rfl rfl rfl (Nat.le_of_ble_eq_true rfl) dX11_reads_147 k (fun μ6 k => ?_)
          refine aw_iconst hX dX11_reads_150 zk_0 ?_
          refine aw_istore_n (L' := [some (.ref (X.G.ad 11 0)), some (.int x1), some (.int (0 : Int32)), some (.int x3), some (.int x4), some (.int x5)]) hX dX11_reads_151 (Nat.le_of_ble_eq_true rfl) rfl ?_
          exact aw_less (zle_s (zle_s (zle_s (zle_o (zle_o (zle_o zle_n)))))) k
        · have k := k.2 c4
          refine aw_iload_n hX dX11_reads_136 rfl ?_
          refine aw_goto (tgt := 147) hX dX11_reads_137 (by decide) ?_
          refine aw_invV (As := [.int x3]) (rest := []) (κ := 11) (o := 0) (T := TX11) (N := 55) hX vc_X11_201 sh_11 (by decide) rfl rfl rfl (Nat.le_of_ble_eq_true rfl) dX11_reads_147 k (fun μ8 k => ?_)
          refine aw_iconst hX dX11_reads_150 zk_0 ?_
          refine aw_istore_n (L' := [some (.ref (X.G.ad 11 0)), some (.int x1), some (.int (0 : Int32)), some (.int x3), some (.int x4), some (.int x5)]) hX dX11_reads_151 (Nat.le_of_ble_eq_true rfl) rfl ?_
          exact aw_less (zle_s (zle_s (zle_s (zle_o (zle_o (zle_o zle_n)))))) k
      · have k := k.2 c3
        exact aw_less (zle_s (zle_s (zle_s (zle_o (zle_s (zle_o zle_n)))))) k
  · have k := k.2 c1
    refine aw_aload_n hX dX11_reads_70 rfl ?_
    refine aw_iconst hX dX11_reads_71 zk_5 ?_
    refine aw_invI (As := [.int (5 : Int32)]) (rest := []) (κ := 11) (o := 0) (T := TX11) (N := 55) hX vc_X11_198 sh_11 (by decide) rfl rfl rfl (Nat.le_of_ble_eq_true rfl) dX11_reads_72 k (fun r9 μ10 k => ?_)
    exact aw_zret hX hr k.1 dX11_reads_75 k.2

set_option maxRecDepth 100000 in
set_option maxHeartbeats 4000000 in
theorem st_X11_reads_324 {X : zX} {lv : Nat} {Post : Option Value → zM → Prop} (hX : zOk X cX11_reads RX11 6 lv) (hr : zRt X (some .boolean) Post)  {x1 : Int32} {μ : zM}
    (k : zCallI X lv yX11_isWord cX11_isWord 3 (some .boolean) [.ref (X.G.ad 11 0), .long (1111 : Int64)] μ (fun (r1 : Int32) μ2 => (r1 = 0 → (zCallV X lv yX11_puts cX11_puts 2 none [.ref (X.G.ad 11 0), .int (27 : Int32)] μ2 (fun μ5 => (vp_in x1 7) ∧ (∀ μ7 : zM, μ7 = pI μ5 59 0 (ix x1) (vp_nar .boolean (0 : Int32)) → (zCallV X lv yX11_nextToken cX11_nextToken 2 none [.ref (X.G.ad 11 0)] μ7 (fun μ9 => AW X 11 [some (.ref (X.G.ad 11 0)), some (.int x1), some (.int (1 : Int32)), none, none, none] [] μ9)))))) ∧ (¬ r1 = 0 → (zCallV X lv yX11_puts cX11_puts 2 none [.ref (X.G.ad 11 0), .int (26 : Int32)] μ2 (fun μ11 => (vp_in x1 7) ∧ (∀ μ13 : zM, μ13 = pI μ11 59 0 (ix x1) (vp_nar .boolean (0 : Int32)) → (zCallV X lv yX11_nextToken cX11_nextToken 2 none [.ref (X.G.ad 11 0)] μ13 (fun μ15 => AW X 11 [some (.ref (X.G.ad 11 0)), some (.int x1), some (.int (1 : Int32)), none, none, none] [] μ15)))))))) :
    AW X 324 [some (.ref (X.G.ad 11 0)), some (.int x1), none, none, none, none] [] μ := by
  refine aw_aload_n hX dX11_reads_324 rfl ?_
  refine aw_aload_n hX dX11_reads_325 rfl ?_
  refine aw_ldc2 hX kl_X11_208 dX11_reads_326 ?_
  refine aw_invI (As := [.long (1111 : Int64)]) (rest := [.ref (X.G.ad 11 0)]) (κ := 11) (o := 0) (T := TX11) (N := 55) hX vc_X11_190 sh_11 (by decide) rfl rfl rfl (Nat.le_of_ble_eq_true rfl) dX11_reads_329 k (fun r1 μ2 k => ?_)
  refine aw_if_eq (tgt := 340) hX dX11_reads_332 (by decide) (fun c3 => ?_) (fun c3 => ?_)
  · have k := k.1 c3
    refine aw_bipush hX dX11_reads_340 zb_27 ?_
    refine aw_invV (As := [.int (27 : Int32)]) (rest := []) (κ := 11) (o := 0) (T := TX11) (N := 55) hX vc_X11_201 sh_11 (by decide) rfl rfl rfl (Nat.le_of_ble_eq_true rfl) dX11_reads_342 k (fun μ5 k => ?_)
    refine aw_aload_n hX dX11_reads_345 rfl ?_
    refine aw_getr (o' := 0) hX kf_X11_83 sh_11 (by decide) rfl rfl dX11_reads_346 ?_
    refine aw_iload_n hX dX11_reads_349 rfl ?_
    refine aw_iconst hX dX11_reads_350 zk_0 ?_
    have s6 := k.1
    have k := k.2
    refine aw_zast' (k := (ix x1)) hX sh_59 (by decide) s6 rfl dX11_reads_351 ?_
    refine aw_mem (fun μ7 eμ7 => ?_)
    have k := k μ7 eμ7
    refine aw_iconst hX dX11_reads_352 zk_1 ?_
    refine aw_istore_n (L' := [some (.ref (X.G.ad 11 0)), some (.int x1), some (.int (1 : Int32)), none, none, none]) hX dX11_reads_353 (Nat.le_of_ble_eq_true rfl) rfl ?_
    refine aw_goto (tgt := 424) hX dX11_reads_354 (by decide) ?_
    refine aw_aload_n hX dX11_reads_424 rfl ?_
    refine aw_invV (As := []) (rest := []) (κ := 11) (o := 0) (T := TX11) (N := 55) hX vc_X11_205 sh_11 (by decide) rfl rfl rfl (Nat.le_of_ble_eq_true rfl) dX11_reads_425 k (fun μ9 k => ?_)
    refine aw_goto (tgt := 11) hX dX11_reads_428 (by decide) ?_
    exact k
  · have k := k.2 c3
    refine aw_bipush hX dX11_reads_335 zb_26 ?_
    refine aw_goto (tgt := 342) hX dX11_reads_337 (by decide) ?_
    refine aw_invV (As := [.int (26 : Int32)]) (rest := []) (κ := 11) (o := 0) (T := TX11) (N := 55) hX vc_X11_201 sh_11 (by decide) rfl rfl rfl (Nat.le_of_ble_eq_true rfl) dX11_reads_342 k (fun μ11 k => ?_)
    refine aw_aload_n hX dX11_reads_345 rfl ?_
    refine aw_getr (o' := 0) hX kf_X11_83 sh_11 (by decide) rfl rfl dX11_reads_346 ?_
    refine aw_iload_n hX dX11_reads_349 rfl ?_
    refine aw_iconst hX dX11_reads_350 zk_0 ?_
    have s12 := k.1
    have k := k.2
    refine aw_zast' (k := (ix x1)) hX sh_59 (by decide) s12 rfl dX11_reads_351 ?_
    refine aw_mem (fun μ13 eμ13 => ?_)
    have k := k μ13 eμ13
    refine aw_iconst hX dX11_reads_352 zk_1 ?_
    refine aw_istore_n (L' := [some (.ref (X.G.ad 11 0)), some (.int x1), some (.int (1 : Int32)), none, none, none]) hX dX11_reads_353 (Nat.le_of_ble_eq_true rfl) rfl ?_
    refine aw_goto (tgt := 424) hX dX11_reads_354 (by decide) ?_
    refine aw_aload_n hX dX11_reads_424 rfl ?_
    refine aw_invV (As := []) (rest := []) (κ := 11) (o := 0) (T := TX11) (N := 55) hX vc_X11_205 sh_11 (by decide) rfl rfl rfl (Nat.le_of_ble_eq_true rfl) dX11_reads_425 k (fun μ15 k => ?_)
    refine aw_goto (tgt := 11) hX dX11_reads_428 (by decide) ?_
    exact k

set_option maxRecDepth 100000 in
set_option maxHeartbeats 4000000 in
theorem st_X11_reads_379 {X : zX} {lv : Nat} {Post : Option Value → zM → Prop} (hX : zOk X cX11_reads RX11 6 lv) (hr : zRt X (some .boolean) Post)  {x1 : Int32} {x2 : Int32} {μ : zM}
    (k : (x1 ≤ 0 → (zCallV X lv yX11_nextToken cX11_nextToken 2 none [.ref (X.G.ad 11 0)] μ (fun μ3 => AW X 11 [some (.ref (X.G.ad 11 0)), some (.int x1), some (.int x2), none, none, none] [] μ3))) ∧ (¬ x1 ≤ 0 → ((vp_in x1 7) ∧ ((¬ (μ.1 58 0 (ix x1)) = (1 : Int32) → (zCallV X lv yX11_nextToken cX11_nextToken 2 none [.ref (X.G.ad 11 0)] μ (fun μ7 => AW X 11 [some (.ref (X.G.ad 11 0)), some (.int x1), some (.int x2), none, none, none] [] μ7))) ∧ ((μ.1 58 0 (ix x1)) = (1 : Int32) → (∀ v8 : Int32, v8 = x1 + (-1 : Int32) → (AW X 379 [some (.ref (X.G.ad 11 0)), some (.int v8), some (.int x2), none, none, none] [] μ))))))) :
    AW X 379 [some (.ref (X.G.ad 11 0)), some (.int x1), some (.int x2), none, none, none] [] μ := by
  refine aw_iload_n hX dX11_reads_379 rfl ?_
  refine aw_if_le (tgt := 424) hX dX11_reads_380 (by decide) (fun c1 => ?_) (fun c1 => ?_)
  · have k := k.1 c1
    refine aw_aload_n hX dX11_reads_424 rfl ?_
    refine aw_invV (As := []) (rest := []) (κ := 11) (o := 0) (T := TX11) (N := 55) hX vc_X11_205 sh_11 (by decide) rfl rfl rfl (Nat.le_of_ble_eq_true rfl) dX11_reads_425 k (fun μ3 k => ?_)
    refine aw_goto (tgt := 11) hX dX11_reads_428 (by decide) ?_
    exact k
  · have k := k.2 c1
    refine aw_aload_n hX dX11_reads_383 rfl ?_
    refine aw_getr (o' := 0) hX kf_X11_80 sh_11 (by decide) rfl rfl dX11_reads_384 ?_
    refine aw_iload_n hX dX11_reads_387 rfl ?_
    have s4 := k.1
    have k := k.2
    refine aw_iald' (k := (ix x1)) hX sh_58 (by decide) s4 rfl dX11_reads_388 ?_
    refine aw_iconst hX dX11_reads_389 zk_1 ?_
    refine aw_icmp_ne (tgt := 424) hX dX11_reads_390 (by decide) (fun c5 => ?_) (fun c5 => ?_)
    · have k := k.1 c5
      refine aw_aload_n hX dX11_reads_424 rfl ?_
      refine aw_invV (As := []) (rest := []) (κ := 11) (o := 0) (T := TX11) (N := 55) hX vc_X11_205 sh_11 (by decide) rfl rfl rfl (Nat.le_of_ble_eq_true rfl) dX11_reads_425 k (fun μ7 k => ?_)
      refine aw_goto (tgt := 11) hX dX11_reads_428 (by decide) ?_
      exact k
    · have k := k.2 c5
      obtain ⟨v8, ev8⟩ : ∃ y : Int32, y = x1 + (-1 : Int32) := ⟨_, rfl⟩
      have k := k v8 ev8
      refine aw_iinc (v := v8) (L' := [some (.ref (X.G.ad 11 0)), some (.int v8), some (.int x2), none, none, none]) hX dX11_reads_393 rfl (by rw [ev8]; rfl) (Nat.le_of_ble_eq_true rfl) rfl ?_
      refine aw_goto (tgt := 379) hX dX11_reads_396 (by decide) ?_
      exact k

set_option maxRecDepth 100000 in
set_option maxHeartbeats 4000000 in
theorem st_X11_reads_86 {X : zX} {lv : Nat} {Post : Option Value → zM → Prop} (hX : zOk X cX11_reads RX11 6 lv) (hr : zRt X (some .boolean) Post)  {x1 : Int32} {x2 : Int32} {x4 : Int32} {μ : zM}
    (k : (x4 = 0 → (zCallV X lv yX11_puts cX11_puts 2 none [.ref (X.G.ad 11 0), .int (28 : Int32)] μ (fun μ3 => ∀ v4 : Int32, v4 = x1 + (1 : Int32) → ((x4 = 0 → ((vp_in v4 7) ∧ (∀ μ7 : zM, μ7 = pI μ3 58 0 (ix v4) (2 : Int32) → (∀ μ8 : zM, μ8 = pI μ7 59 0 (ix v4) (vp_nar .boolean (0 : Int32)) → (zCallV X lv yX11_nextToken cX11_nextToken 2 none [.ref (X.G.ad 11 0)] μ8 (fun μ10 => AW X 11 [some (.ref (X.G.ad 11 0)), some (.int v4), some (.int x2), none, none, none] [] μ10)))))) ∧ (¬ x4 = 0 → ((vp_in v4 7) ∧ (∀ μ12 : zM, μ12 = pI μ3 58 0 (ix v4) (1 : Int32) → (∀ μ13 : zM, μ13 = pI μ12 59 0 (ix v4) (vp_nar .boolean (0 : Int32)) → (zCallV X lv yX11_nextToken cX11_nextToken 2 none [.ref (X.G.ad 11 0)] μ13 (fun μ15 => AW X 11 [some (.ref (X.G.ad 11 0)), some (.int v4), some (.int x2), none, none, none] [] μ15)))))))))) ∧ (¬ x4 = 0 → (zCallV X lv yX11_puts cX11_puts 2 none [.ref (X.G.ad 11 0), .int (30 : Int32)] μ (fun μ17 => ∀ v18 : Int32, v18 = x1 + (1 : Int32) → ((x4 = 0 → ((vp_in v18 7) ∧ (∀ μ21 : zM, μ21 = pI μ17 58 0 (ix v18) (2 : Int32) → (∀ μ22 : zM, μ22 = pI μ21 59 0 (ix v18) (vp_nar .boolean (0 : Int32)) → (zCallV X lv yX11_nextToken cX11_nextToken 2 none [.ref (X.G.ad 11 0)] μ22 (fun μ24 => AW X 11 [some (.ref (X.G.ad 11 0)), some (.int v18), some (.int x2), none, none, none] [] μ24)))))) ∧ (¬ x4 = 0 → ((vp_in v18 7) ∧ (∀ μ26 : zM, μ26 = pI μ17 58 0 (ix v18) (1 : Int32) → (∀ μ27 : zM, μ27 = pI μ26 59 0 (ix v18) (vp_nar .boolean (0 : Int32)) → (zCallV X lv yX11_nextToken cX11_nextToken 2 none [.ref (X.G.ad 11 0)] μ27 (fun μ29 => AW X 11 [some (.ref (X.G.ad 11 0)), some (.int v18), some (.int x2), none, none, none] [] μ29))))))))))) :
    AW X 86 [some (.ref (X.G.ad 11 0)), some (.int x1), some (.int x2), none, some (.int x4), none] [] μ := by
  refine aw_aload_n hX dX11_reads_86 rfl ?_
  refine aw_iload hX dX11_reads_87 rfl ?_
  refine aw_if_eq (tgt := 97) hX dX11_reads_89 (by decide) (fun c1 => ?_) (fun c1 => ?_)
  · have k := k.1 c1
    refine aw_bipush hX dX11_reads_97 zb_28 ?_
    refine aw_invV (As := [.int (28 : Int32)]) (rest := []) (κ := 11) (o := 0) (T := TX11) (N := 55) hX vc_X11_201 sh_11 (by decide) rfl rfl rfl (Nat.le_of_ble_eq_true rfl) dX11_reads_99 k (fun μ3 k => ?_)
    obtain ⟨v4, ev4⟩ : ∃ y : Int32, y = x1 + (1 : Int32) := ⟨_, rfl⟩
    have k := k v4 ev4
    refine aw_iinc (v := v4) (L' := [some (.ref (X.G.ad 11 0)), some (.int v4), some (.int x2), none, some (.int x4), none]) hX dX11_reads_102 rfl (by rw [ev4]; rfl) (Nat.le_of_ble_eq_true rfl) rfl ?_
    refine aw_aload_n hX dX11_reads_105 rfl ?_
    refine aw_getr (o' := 0) hX kf_X11_80 sh_11 (by decide) rfl rfl dX11_reads_106 ?_
    refine aw_iload_n hX dX11_reads_109 rfl ?_
    refine aw_iload hX dX11_reads_110 rfl ?_
    refine aw_if_eq (tgt := 119) hX dX11_reads_112 (by decide) (fun c5 => ?_) (fun c5 => ?_)
    · have k := k.1 c5
      refine aw_iconst hX dX11_reads_119 zk_2 ?_
      have s6 := k.1
      have k := k.2
      refine aw_iast' (k := (ix v4)) hX sh_58 (by decide) s6 rfl dX11_reads_120 ?_
      refine aw_mem (fun μ7 eμ7 => ?_)
      have k := k μ7 eμ7
      refine aw_aload_n hX dX11_reads_121 rfl ?_
      refine aw_getr (o' := 0) hX kf_X11_83 sh_11 (by decide) rfl rfl dX11_reads_122 ?_
      refine aw_iload_n hX dX11_reads_125 rfl ?_
      refine aw_iconst hX dX11_reads_126 zk_0 ?_
      refine aw_zast' (k := (ix v4)) hX sh_59 (by decide) s6 rfl dX11_reads_127 ?_
      refine aw_mem (fun μ8 eμ8 => ?_)
      have k := k μ8 eμ8
      refine aw_goto (tgt := 172) hX dX11_reads_128 (by decide) ?_
      refine aw_aload_n hX dX11_reads_172 rfl ?_
      refine aw_invV (As := []) (rest := []) (κ := 11) (o := 0) (T := TX11) (N := 55) hX vc_X11_205 sh_11 (by decide) rfl rfl rfl (Nat.le_of_ble_eq_true rfl) dX11_reads_173 k (fun μ10 k => ?_)
      refine aw_goto (tgt := 11) hX dX11_reads_176 (by decide) ?_
      exact aw_less (zle_s (zle_s (zle_s (zle_o (zle_o (zle_o zle_n)))))) k
    · have k := k.2 c5
      refine aw_iconst hX dX11_reads_115 zk_1 ?_
      refine aw_goto (tgt := 120) hX dX11_reads_116 (by decide) ?_
      have s11 := k.1
      have k := k.2
      refine aw_iast' (k := (ix v4)) hX sh_58 (by decide) s11 rfl dX11_reads_120 ?_
      refine aw_mem (fun μ12 eμ12 => ?_)
      have k := k μ12 eμ12
      refine aw_aload_n hX dX11_reads_121 rfl ?_
      refine aw_getr (o' := 0) hX kf_X11_83 sh_11 (by decide) rfl rfl dX11_reads_122 ?_
      refine aw_iload_n hX dX11_reads_125 rfl ?_
      refine aw_iconst hX dX11_reads_126 zk_0 ?_
      refine aw_zast' (k := (ix v4)) hX sh_59 (by decide) s11 rfl dX11_reads_127 ?_
      refine aw_mem (fun μ13 eμ13 => ?_)
      have k := k μ13 eμ13
      refine aw_goto (tgt := 172) hX dX11_reads_128 (by decide) ?_
      refine aw_aload_n hX dX11_reads_172 rfl ?_
      refine aw_invV (As := []) (rest := []) (κ := 11) (o := 0) (T := TX11) (N := 55) hX vc_X11_205 sh_11 (by decide) rfl rfl rfl (Nat.le_of_ble_eq_true rfl) dX11_reads_173 k (fun μ15 k => ?_)
      refine aw_goto (tgt := 11) hX dX11_reads_176 (by decide) ?_
      exact aw_less (zle_s (zle_s (zle_s (zle_o (zle_o (zle_o zle_n)))))) k
  · have k := k.2 c1
    refine aw_bipush hX dX11_reads_92 zb_30 ?_
    refine aw_goto (tgt := 99) hX dX11_reads_94 (by decide) ?_
    refine aw_invV (As := [.int (30 : Int32)]) (rest := []) (κ := 11) (o := 0) (T := TX11) (N := 55) hX vc_X11_201 sh_11 (by decide) rfl rfl rfl (Nat.le_of_ble_eq_true rfl) dX11_reads_99 k (fun μ17 k => ?_)
    obtain ⟨v18, ev18⟩ : ∃ y : Int32, y = x1 + (1 : Int32) := ⟨_, rfl⟩
    have k := k v18 ev18
    refine aw_iinc (v := v18) (L' := [some (.ref (X.G.ad 11 0)), some (.int v18), some (.int x2), none, some (.int x4), none]) hX dX11_reads_102 rfl (by rw [ev18]; rfl) (Nat.le_of_ble_eq_true rfl) rfl ?_
    refine aw_aload_n hX dX11_reads_105 rfl ?_
    refine aw_getr (o' := 0) hX kf_X11_80 sh_11 (by decide) rfl rfl dX11_reads_106 ?_
    refine aw_iload_n hX dX11_reads_109 rfl ?_
    refine aw_iload hX dX11_reads_110 rfl ?_
    refine aw_if_eq (tgt := 119) hX dX11_reads_112 (by decide) (fun c19 => ?_) (fun c19 => ?_)
    · have k := k.1 c19
      refine aw_iconst hX dX11_reads_119 zk_2 ?_
      have s20 := k.1
      have k := k.2
      refine aw_iast' (k := (ix v18)) hX sh_58 (by decide) s20 rfl dX11_reads_120 ?_
      refine aw_mem (fun μ21 eμ21 => ?_)
      have k := k μ21 eμ21
      refine aw_aload_n hX dX11_reads_121 rfl ?_
      refine aw_getr (o' := 0) hX kf_X11_83 sh_11 (by decide) rfl rfl dX11_reads_122 ?_
      refine aw_iload_n hX dX11_reads_125 rfl ?_
      refine aw_iconst hX dX11_reads_126 zk_0 ?_
      refine aw_zast' (k := (ix v18)) hX sh_59 (by decide) s20 rfl dX11_reads_127 ?_
      refine aw_mem (fun μ22 eμ22 => ?_)
      have k := k μ22 eμ22
      refine aw_goto (tgt := 172) hX dX11_reads_128 (by decide) ?_
      refine aw_aload_n hX dX11_reads_172 rfl ?_
      refine aw_invV (As := []) (rest := []) (κ := 11) (o := 0) (T := TX11) (N := 55) hX vc_X11_205 sh_11 (by decide) rfl rfl rfl (Nat.le_of_ble_eq_true rfl) dX11_reads_173 k (fun μ24 k => ?_)
      refine aw_goto (tgt := 11) hX dX11_reads_176 (by decide) ?_
      exact aw_less (zle_s (zle_s (zle_s (zle_o (zle_o (zle_o zle_n)))))) k
    · have k := k.2 c19
      refine aw_iconst hX dX11_reads_115 zk_1 ?_
      refine aw_goto (tgt := 120) hX dX11_reads_116 (by decide) ?_
      have s25 := k.1
      have k := k.2
      refine aw_iast' (k := (ix v18)) hX sh_58 (by decide) s25 rfl dX11_reads_120 ?_
      refine aw_mem (fun μ26 eμ26 => ?_)
      have k := k μ26 eμ26
      refine aw_aload_n hX dX11_reads_121 rfl ?_
      refine aw_getr (o' := 0) hX kf_X11_83 sh_11 (by decide) rfl rfl dX11_reads_122 ?_
      refine aw_iload_n hX dX11_reads_125 rfl ?_
      refine aw_iconst hX dX11_reads_126 zk_0 ?_
      refine aw_zast' (k := (ix v18)) hX sh_59 (by decide) s25 rfl dX11_reads_127 ?_
      refine aw_mem (fun μ27 eμ27 => ?_)
      have k := k μ27 eμ27
      refine aw_goto (tgt := 172) hX dX11_reads_128 (by decide) ?_
      refine aw_aload_n hX dX11_reads_172 rfl ?_
      refine aw_invV (As := []) (rest := []) (κ := 11) (o := 0) (T := TX11) (N := 55) hX vc_X11_205 sh_11 (by decide) rfl rfl rfl (Nat.le_of_ble_eq_true rfl) dX11_reads_173 k (fun μ29 k => ?_)
      refine aw_goto (tgt := 11) hX dX11_reads_176 (by decide) ?_
      exact aw_less (zle_s (zle_s (zle_s (zle_o (zle_o (zle_o zle_n)))))) k

set_option maxRecDepth 100000 in
set_option maxHeartbeats 4000000 in
theorem st_X11_reads_152 {X : zX} {lv : Nat} {Post : Option Value → zM → Prop} (hX : zOk X cX11_reads RX11 6 lv) (hr : zRt X (some .boolean) Post)  {x1 : Int32} {x2 : Int32} {μ : zM}
    (k : (x1 ≤ 0 → (zCallV X lv yX11_nextToken cX11_nextToken 2 none [.ref (X.G.ad 11 0)] μ (fun μ3 => AW X 11 [some (.ref (X.G.ad 11 0)), some (.int x1), some (.int x2), none, none, none] [] μ3))) ∧ (¬ x1 ≤ 0 → ((vp_in x1 7) ∧ ((¬ (μ.1 58 0 (ix x1)) = (1 : Int32) → (zCallV X lv yX11_nextToken cX11_nextToken 2 none [.ref (X.G.ad 11 0)] μ (fun μ7 => AW X 11 [some (.ref (X.G.ad 11 0)), some (.int x1), some (.int x2), none, none, none] [] μ7))) ∧ ((μ.1 58 0 (ix x1)) = (1 : Int32) → (∀ v8 : Int32, v8 = x1 + (-1 : Int32) → (AW X 152 [some (.ref (X.G.ad 11 0)), some (.int v8), some (.int x2), none, none, none] [] μ))))))) :
    AW X 152 [some (.ref (X.G.ad 11 0)), some (.int x1), some (.int x2), none, none, none] [] μ := by
  refine aw_iload_n hX dX11_reads_152 rfl ?_
  refine aw_if_le (tgt := 172) hX dX11_reads_153 (by decide) (fun c1 => ?_) (fun c1 => ?_)
  · have k := k.1 c1
    refine aw_aload_n hX dX11_reads_172 rfl ?_
    refine aw_invV (As := []) (rest := []) (κ := 11) (o := 0) (T := TX11) (N := 55) hX vc_X11_205 sh_11 (by decide) rfl rfl rfl (Nat.le_of_ble_eq_true rfl) dX11_reads_173 k (fun μ3 k => ?_)
    refine aw_goto (tgt := 11) hX dX11_reads_176 (by decide) ?_
    exact k
  · have k := k.2 c1
    refine aw_aload_n hX dX11_reads_156 rfl ?_
    refine aw_getr (o' := 0) hX kf_X11_80 sh_11 (by decide) rfl rfl dX11_reads_157 ?_
    refine aw_iload_n hX dX11_reads_160 rfl ?_
    have s4 := k.1
    have k := k.2
    refine aw_iald' (k := (ix x1)) hX sh_58 (by decide) s4 rfl dX11_reads_161 ?_
    refine aw_iconst hX dX11_reads_162 zk_1 ?_
    refine aw_icmp_ne (tgt := 172) hX dX11_reads_163 (by decide) (fun c5 => ?_) (fun c5 => ?_)
    · have k := k.1 c5
      refine aw_aload_n hX dX11_reads_172 rfl ?_
      refine aw_invV (As := []) (rest := []) (κ := 11) (o := 0) (T := TX11) (N := 55) hX vc_X11_205 sh_11 (by decide) rfl rfl rfl (Nat.le_of_ble_eq_true rfl) dX11_reads_173 k (fun μ7 k => ?_)
      refine aw_goto (tgt := 11) hX dX11_reads_176 (by decide) ?_
      exact k
    · have k := k.2 c5
      obtain ⟨v8, ev8⟩ : ∃ y : Int32, y = x1 + (-1 : Int32) := ⟨_, rfl⟩
      have k := k v8 ev8
      refine aw_iinc (v := v8) (L' := [some (.ref (X.G.ad 11 0)), some (.int v8), some (.int x2), none, none, none]) hX dX11_reads_166 rfl (by rw [ev8]; rfl) (Nat.le_of_ble_eq_true rfl) rfl ?_
      refine aw_goto (tgt := 152) hX dX11_reads_169 (by decide) ?_
      exact k

set_option maxRecDepth 100000 in
set_option maxHeartbeats 4000000 in
theorem st_X11_opens_0 {X : zX} {lv : Nat} {Post : Option Value → zM → Prop} (hX : zOk X cX11_opens RX11 2 lv) (hr : zRt X none Post)  {x1 : Int32} {μ : zM}
    (k : (vp_in x1 7) ∧ (∀ μ2 : zM, μ2 = pI μ 61 0 (ix x1) (0 : Int32) → (∀ μ3 : zM, μ3 = pI μ2 63 0 (ix x1) (0 : Int32) → (∀ μ4 : zM, μ4 = pI μ3 64 0 (ix x1) (0 : Int32) → (∀ μ5 : zM, μ5 = pI μ4 65 0 (ix x1) (20 : Int32) → (∀ μ6 : zM, μ6 = pI μ5 67 0 (ix x1) (0 : Int32) → (Post none μ6))))))) :
    AW X 0 [some (.ref (X.G.ad 11 0)), some (.int x1)] [] μ := by
  refine aw_aload_n hX dX11_opens_0 rfl ?_
  refine aw_getr (o' := 0) hX kf_X11_90 sh_11 (by decide) rfl rfl dX11_opens_1 ?_
  refine aw_iload_n hX dX11_opens_4 rfl ?_
  refine aw_iconst hX dX11_opens_5 zk_0 ?_
  have s1 := k.1
  have k := k.2
  refine aw_iast' (k := (ix x1)) hX sh_61 (by decide) s1 rfl dX11_opens_6 ?_
  refine aw_mem (fun μ2 eμ2 => ?_)
  have k := k μ2 eμ2
  refine aw_aload_n hX dX11_opens_7 rfl ?_
  refine aw_getr (o' := 0) hX kf_X11_96 sh_11 (by decide) rfl rfl dX11_opens_8 ?_
  refine aw_iload_n hX dX11_opens_11 rfl ?_
  refine aw_iconst hX dX11_opens_12 zk_0 ?_
  refine aw_iast' (k := (ix x1)) hX sh_63 (by decide) s1 rfl dX11_opens_13 ?_
  refine aw_mem (fun μ3 eμ3 => ?_)
  have k := k μ3 eμ3
  refine aw_aload_n hX dX11_opens_14 rfl ?_
  refine aw_getr (o' := 0) hX kf_X11_99 sh_11 (by decide) rfl rfl dX11_opens_15 ?_
  refine aw_iload_n hX dX11_opens_18 rfl ?_
  refine aw_iconst hX dX11_opens_19 zk_0 ?_
  refine aw_iast' (k := (ix x1)) hX sh_64 (by decide) s1 rfl dX11_opens_20 ?_
  refine aw_mem (fun μ4 eμ4 => ?_)
  have k := k μ4 eμ4
  refine aw_aload_n hX dX11_opens_21 rfl ?_
  refine aw_getr (o' := 0) hX kf_X11_102 sh_11 (by decide) rfl rfl dX11_opens_22 ?_
  refine aw_iload_n hX dX11_opens_25 rfl ?_
  refine aw_bipush hX dX11_opens_26 zb_20 ?_
  refine aw_iast' (k := (ix x1)) hX sh_65 (by decide) s1 rfl dX11_opens_28 ?_
  refine aw_mem (fun μ5 eμ5 => ?_)
  have k := k μ5 eμ5
  refine aw_aload_n hX dX11_opens_29 rfl ?_
  refine aw_getr (o' := 0) hX kf_X11_108 sh_11 (by decide) rfl rfl dX11_opens_30 ?_
  refine aw_iload_n hX dX11_opens_33 rfl ?_
  refine aw_iconst hX dX11_opens_34 zk_0 ?_
  refine aw_iast' (k := (ix x1)) hX sh_67 (by decide) s1 rfl dX11_opens_35 ?_
  refine aw_mem (fun μ6 eμ6 => ?_)
  have k := k μ6 eμ6
  exact aw_vret hX hr dX11_opens_36 k

set_option maxRecDepth 100000 in
set_option maxHeartbeats 4000000 in
theorem st_X11_sums_0 {X : zX} {lv : Nat} {Post : Option Value → zM → Prop} (hX : zOk X cX11_sums RX11 2 lv) (hr : zRt X none Post)  {x1 : Int32} {μ : zM}
    (k : (vp_in x1 7) ∧ ((¬ (μ.1 65 0 (ix x1)) = (21 : Int32) → (∀ μ3 : zM, μ3 = pI μ 64 0 (ix x1) ((μ.1 64 0 (ix x1)) + (μ.1 66 0 (ix x1))) → (∀ μ4 : zM, μ4 = pI μ3 67 0 (ix x1) (0 : Int32) → (Post none μ4)))) ∧ ((μ.1 65 0 (ix x1)) = (21 : Int32) → (∀ μ5 : zM, μ5 = pI μ 64 0 (ix x1) ((μ.1 64 0 (ix x1)) - (μ.1 66 0 (ix x1))) → (∀ μ6 : zM, μ6 = pI μ5 67 0 (ix x1) (0 : Int32) → (Post none μ6)))))) :
    AW X 0 [some (.ref (X.G.ad 11 0)), some (.int x1)] [] μ := by
  refine aw_aload_n hX dX11_sums_0 rfl ?_
  refine aw_getr (o' := 0) hX kf_X11_99 sh_11 (by decide) rfl rfl dX11_sums_1 ?_
  refine aw_iload_n hX dX11_sums_4 rfl ?_
  refine aw_aload_n hX dX11_sums_5 rfl ?_
  refine aw_getr (o' := 0) hX kf_X11_102 sh_11 (by decide) rfl rfl dX11_sums_6 ?_
  refine aw_iload_n hX dX11_sums_9 rfl ?_
  have s1 := k.1
  have k := k.2
  refine aw_iald' (k := (ix x1)) hX sh_65 (by decide) s1 rfl dX11_sums_10 ?_
  refine aw_bipush hX dX11_sums_11 zb_21 ?_
  refine aw_icmp_ne (tgt := 32) hX dX11_sums_13 (by decide) (fun c2 => ?_) (fun c2 => ?_)
  · have k := k.1 c2
    refine aw_aload_n hX dX11_sums_32 rfl ?_
    refine aw_getr (o' := 0) hX kf_X11_99 sh_11 (by decide) rfl rfl dX11_sums_33 ?_
    refine aw_iload_n hX dX11_sums_36 rfl ?_
    refine aw_iald' (k := (ix x1)) hX sh_64 (by decide) s1 rfl dX11_sums_37 ?_
    refine aw_aload_n hX dX11_sums_38 rfl ?_
    refine aw_getr (o' := 0) hX kf_X11_105 sh_11 (by decide) rfl rfl dX11_sums_39 ?_
    refine aw_iload_n hX dX11_sums_42 rfl ?_
    refine aw_iald' (k := (ix x1)) hX sh_66 (by decide) s1 rfl dX11_sums_43 ?_
    refine aw_iadd hX dX11_sums_44 ?_
    refine aw_iast' (k := (ix x1)) hX sh_64 (by decide) s1 rfl dX11_sums_45 ?_
    refine aw_mem (fun μ3 eμ3 => ?_)
    have k := k μ3 eμ3
    refine aw_aload_n hX dX11_sums_46 rfl ?_
    refine aw_getr (o' := 0) hX kf_X11_108 sh_11 (by decide) rfl rfl dX11_sums_47 ?_
    refine aw_iload_n hX dX11_sums_50 rfl ?_
    refine aw_iconst hX dX11_sums_51 zk_0 ?_
    refine aw_iast' (k := (ix x1)) hX sh_67 (by decide) s1 rfl dX11_sums_52 ?_
    refine aw_mem (fun μ4 eμ4 => ?_)
    have k := k μ4 eμ4
    exact aw_vret hX hr dX11_sums_53 k
  · have k := k.2 c2
    refine aw_aload_n hX dX11_sums_16 rfl ?_
    refine aw_getr (o' := 0) hX kf_X11_99 sh_11 (by decide) rfl rfl dX11_sums_17 ?_
    refine aw_iload_n hX dX11_sums_20 rfl ?_
    refine aw_iald' (k := (ix x1)) hX sh_64 (by decide) s1 rfl dX11_sums_21 ?_
    refine aw_aload_n hX dX11_sums_22 rfl ?_
    refine aw_getr (o' := 0) hX kf_X11_105 sh_11 (by decide) rfl rfl dX11_sums_23 ?_
    refine aw_iload_n hX dX11_sums_26 rfl ?_
    refine aw_iald' (k := (ix x1)) hX sh_66 (by decide) s1 rfl dX11_sums_27 ?_
    refine aw_isub hX dX11_sums_28 ?_
    refine aw_goto (tgt := 45) hX dX11_sums_29 (by decide) ?_
    refine aw_iast' (k := (ix x1)) hX sh_64 (by decide) s1 rfl dX11_sums_45 ?_
    refine aw_mem (fun μ5 eμ5 => ?_)
    have k := k μ5 eμ5
    refine aw_aload_n hX dX11_sums_46 rfl ?_
    refine aw_getr (o' := 0) hX kf_X11_108 sh_11 (by decide) rfl rfl dX11_sums_47 ?_
    refine aw_iload_n hX dX11_sums_50 rfl ?_
    refine aw_iconst hX dX11_sums_51 zk_0 ?_
    refine aw_iast' (k := (ix x1)) hX sh_67 (by decide) s1 rfl dX11_sums_52 ?_
    refine aw_mem (fun μ6 eμ6 => ?_)
    have k := k μ6 eμ6
    exact aw_vret hX hr dX11_sums_53 k

set_option maxRecDepth 100000 in
set_option maxHeartbeats 4000000 in
theorem st_X11_tests_0 {X : zX} {lv : Nat} {Post : Option Value → zM → Prop} (hX : zOk X cX11_tests RX11 3 lv) (hr : zRt X none Post)  {x1 : Int32} {μ : zM}
    (k : zCallV X lv yX11_sums cX11_sums 2 none [.ref (X.G.ad 11 0), .int x1] μ (fun μ2 => (vp_in x1 7) ∧ (∀ v4 : Int32, v4 = (μ2.1 64 0 (ix x1)) → ((¬ (μ2.1 63 0 (ix x1)) = (24 : Int32) → (AW X 44 [some (.ref (X.G.ad 11 0)), some (.int x1), some (.int v4)] [] μ2)) ∧ ((μ2.1 63 0 (ix x1)) = (24 : Int32) → (((μ2.1 64 0 (ix x1)) ≤ (μ2.1 62 0 (ix x1)) → (AW X 44 [some (.ref (X.G.ad 11 0)), some (.int x1), some (.int (0 : Int32))] [] μ2)) ∧ (¬ (μ2.1 64 0 (ix x1)) ≤ (μ2.1 62 0 (ix x1)) → (AW X 44 [some (.ref (X.G.ad 11 0)), some (.int x1), some (.int (1 : Int32))] [] μ2)))))))) :
    AW X 0 [some (.ref (X.G.ad 11 0)), some (.int x1), none] [] μ := by
  refine aw_aload_n hX dX11_tests_0 rfl ?_
  refine aw_iload_n hX dX11_tests_1 rfl ?_
  refine aw_invV (As := [.int x1]) (rest := []) (κ := 11) (o := 0) (T := TX11) (N := 55) hX vc_X11_212 sh_11 (by decide) rfl rfl rfl (Nat.le_of_ble_eq_true rfl) dX11_tests_2 k (fun μ2 k => ?_)
  refine aw_aload_n hX dX11_tests_5 rfl ?_
  refine aw_getr (o' := 0) hX kf_X11_99 sh_11 (by decide) rfl rfl dX11_tests_6 ?_
  refine aw_iload_n hX dX11_tests_9 rfl ?_
  have s3 := k.1
  have k := k.2
  refine aw_iald' (k := (ix x1)) hX sh_64 (by decide) s3 rfl dX11_tests_10 ?_
  refine aw_topi (fun v4 ev4 => ?_)
  have k := k v4 ev4
  refine aw_istore_n (L' := [some (.ref (X.G.ad 11 0)), some (.int x1), some (.int v4)]) hX dX11_tests_11 (Nat.le_of_ble_eq_true rfl) rfl ?_
  refine aw_aload_n hX dX11_tests_12 rfl ?_
  refine aw_getr (o' := 0) hX kf_X11_96 sh_11 (by decide) rfl rfl dX11_tests_13 ?_
  refine aw_iload_n hX dX11_tests_16 rfl ?_
  refine aw_iald' (k := (ix x1)) hX sh_63 (by decide) s3 rfl dX11_tests_17 ?_
  refine aw_bipush hX dX11_tests_18 zb_24 ?_
  refine aw_icmp_ne (tgt := 44) hX dX11_tests_20 (by decide) (fun c5 => ?_) (fun c5 => ?_)
  · have k := k.1 c5
    exact k
  · have k := k.2 c5
    refine aw_aload_n hX dX11_tests_23 rfl ?_
    refine aw_getr (o' := 0) hX kf_X11_93 sh_11 (by decide) rfl rfl dX11_tests_24 ?_
    refine aw_iload_n hX dX11_tests_27 rfl ?_
    refine aw_iald' (k := (ix x1)) hX sh_62 (by decide) s3 rfl dX11_tests_28 ?_
    refine aw_aload_n hX dX11_tests_29 rfl ?_
    refine aw_getr (o' := 0) hX kf_X11_99 sh_11 (by decide) rfl rfl dX11_tests_30 ?_
    refine aw_iload_n hX dX11_tests_33 rfl ?_
    refine aw_iald' (k := (ix x1)) hX sh_64 (by decide) s3 rfl dX11_tests_34 ?_
    refine aw_icmp_ge (tgt := 42) hX dX11_tests_35 (by decide) (fun c6 => ?_) (fun c6 => ?_)
    · have k := k.1 c6
      refine aw_iconst hX dX11_tests_42 zk_0 ?_
      refine aw_istore_n (L' := [some (.ref (X.G.ad 11 0)), some (.int x1), some (.int (0 : Int32))]) hX dX11_tests_43 (Nat.le_of_ble_eq_true rfl) rfl ?_
      exact k
    · have k := k.2 c6
      refine aw_iconst hX dX11_tests_38 zk_1 ?_
      refine aw_goto (tgt := 43) hX dX11_tests_39 (by decide) ?_
      refine aw_istore_n (L' := [some (.ref (X.G.ad 11 0)), some (.int x1), some (.int (1 : Int32))]) hX dX11_tests_43 (Nat.le_of_ble_eq_true rfl) rfl ?_
      exact k

set_option maxRecDepth 100000 in
set_option maxHeartbeats 4000000 in
theorem st_X11_tests_44 {X : zX} {lv : Nat} {Post : Option Value → zM → Prop} (hX : zOk X cX11_tests RX11 3 lv) (hr : zRt X none Post)  {x1 : Int32} {x2 : Int32} {μ : zM}
    (k : (vp_in x1 7) ∧ ((¬ (μ.1 63 0 (ix x1)) = (25 : Int32) → (AW X 76 [some (.ref (X.G.ad 11 0)), some (.int x1), some (.int x2)] [] μ)) ∧ ((μ.1 63 0 (ix x1)) = (25 : Int32) → ((¬ (μ.1 62 0 (ix x1)) = (μ.1 64 0 (ix x1)) → (AW X 76 [some (.ref (X.G.ad 11 0)), some (.int x1), some (.int (0 : Int32))] [] μ)) ∧ ((μ.1 62 0 (ix x1)) = (μ.1 64 0 (ix x1)) → (AW X 76 [some (.ref (X.G.ad 11 0)), some (.int x1), some (.int (1 : Int32))] [] μ)))))) :
    AW X 44 [some (.ref (X.G.ad 11 0)), some (.int x1), some (.int x2)] [] μ := by
  refine aw_aload_n hX dX11_tests_44 rfl ?_
  refine aw_getr (o' := 0) hX kf_X11_96 sh_11 (by decide) rfl rfl dX11_tests_45 ?_
  refine aw_iload_n hX dX11_tests_48 rfl ?_
  have s1 := k.1
  have k := k.2
  refine aw_iald' (k := (ix x1)) hX sh_63 (by decide) s1 rfl dX11_tests_49 ?_
  refine aw_bipush hX dX11_tests_50 zb_25 ?_
  refine aw_icmp_ne (tgt := 76) hX dX11_tests_52 (by decide) (fun c2 => ?_) (fun c2 => ?_)
  · have k := k.1 c2
    exact k
  · have k := k.2 c2
    refine aw_aload_n hX dX11_tests_55 rfl ?_
    refine aw_getr (o' := 0) hX kf_X11_93 sh_11 (by decide) rfl rfl dX11_tests_56 ?_
    refine aw_iload_n hX dX11_tests_59 rfl ?_
    refine aw_iald' (k := (ix x1)) hX sh_62 (by decide) s1 rfl dX11_tests_60 ?_
    refine aw_aload_n hX dX11_tests_61 rfl ?_
    refine aw_getr (o' := 0) hX kf_X11_99 sh_11 (by decide) rfl rfl dX11_tests_62 ?_
    refine aw_iload_n hX dX11_tests_65 rfl ?_
    refine aw_iald' (k := (ix x1)) hX sh_64 (by decide) s1 rfl dX11_tests_66 ?_
    refine aw_icmp_ne (tgt := 74) hX dX11_tests_67 (by decide) (fun c3 => ?_) (fun c3 => ?_)
    · have k := k.1 c3
      refine aw_iconst hX dX11_tests_74 zk_0 ?_
      refine aw_istore_n (L' := [some (.ref (X.G.ad 11 0)), some (.int x1), some (.int (0 : Int32))]) hX dX11_tests_75 (Nat.le_of_ble_eq_true rfl) rfl ?_
      exact k
    · have k := k.2 c3
      refine aw_iconst hX dX11_tests_70 zk_1 ?_
      refine aw_goto (tgt := 75) hX dX11_tests_71 (by decide) ?_
      refine aw_istore_n (L' := [some (.ref (X.G.ad 11 0)), some (.int x1), some (.int (1 : Int32))]) hX dX11_tests_75 (Nat.le_of_ble_eq_true rfl) rfl ?_
      exact k

set_option maxRecDepth 100000 in
set_option maxHeartbeats 4000000 in
theorem st_X11_tests_76 {X : zX} {lv : Nat} {Post : Option Value → zM → Prop} (hX : zOk X cX11_tests RX11 3 lv) (hr : zRt X none Post)  {x1 : Int32} {x2 : Int32} {μ : zM}
    (k : (vp_in x1 7) ∧ ((¬ (μ.1 61 0 (ix x1)) = (26 : Int32) → (AW X 106 [some (.ref (X.G.ad 11 0)), some (.int x1), some (.int x2)] [] μ)) ∧ ((μ.1 61 0 (ix x1)) = (26 : Int32) → (((μ.1 60 0 (ix x1)) = 0 → (AW X 106 [some (.ref (X.G.ad 11 0)), some (.int x1), some (.int (0 : Int32))] [] μ)) ∧ (¬ (μ.1 60 0 (ix x1)) = 0 → ((x2 = 0 → (AW X 106 [some (.ref (X.G.ad 11 0)), some (.int x1), some (.int (0 : Int32))] [] μ)) ∧ (¬ x2 = 0 → (AW X 106 [some (.ref (X.G.ad 11 0)), some (.int x1), some (.int (1 : Int32))] [] μ)))))))) :
    AW X 76 [some (.ref (X.G.ad 11 0)), some (.int x1), some (.int x2)] [] μ := by
  refine aw_aload_n hX dX11_tests_76 rfl ?_
  refine aw_getr (o' := 0) hX kf_X11_90 sh_11 (by decide) rfl rfl dX11_tests_77 ?_
  refine aw_iload_n hX dX11_tests_80 rfl ?_
  have s1 := k.1
  have k := k.2
  refine aw_iald' (k := (ix x1)) hX sh_61 (by decide) s1 rfl dX11_tests_81 ?_
  refine aw_bipush hX dX11_tests_82 zb_26 ?_
  refine aw_icmp_ne (tgt := 106) hX dX11_tests_84 (by decide) (fun c2 => ?_) (fun c2 => ?_)
  · have k := k.1 c2
    exact k
  · have k := k.2 c2
    refine aw_aload_n hX dX11_tests_87 rfl ?_
    refine aw_getr (o' := 0) hX kf_X11_87 sh_11 (by decide) rfl rfl dX11_tests_88 ?_
    refine aw_iload_n hX dX11_tests_91 rfl ?_
    refine aw_iald' (k := (ix x1)) hX sh_60 (by decide) s1 rfl dX11_tests_92 ?_
    refine aw_if_eq (tgt := 104) hX dX11_tests_93 (by decide) (fun c3 => ?_) (fun c3 => ?_)
    · have k := k.1 c3
      refine aw_iconst hX dX11_tests_104 zk_0 ?_
      refine aw_istore_n (L' := [some (.ref (X.G.ad 11 0)), some (.int x1), some (.int (0 : Int32))]) hX dX11_tests_105 (Nat.le_of_ble_eq_true rfl) rfl ?_
      exact k
    · have k := k.2 c3
      refine aw_iload_n hX dX11_tests_96 rfl ?_
      refine aw_if_eq (tgt := 104) hX dX11_tests_97 (by decide) (fun c4 => ?_) (fun c4 => ?_)
      · have k := k.1 c4
        refine aw_iconst hX dX11_tests_104 zk_0 ?_
        refine aw_istore_n (L' := [some (.ref (X.G.ad 11 0)), some (.int x1), some (.int (0 : Int32))]) hX dX11_tests_105 (Nat.le_of_ble_eq_true rfl) rfl ?_
        exact k
      · have k := k.2 c4
        refine aw_iconst hX dX11_tests_100 zk_1 ?_
        refine aw_goto (tgt := 105) hX dX11_tests_101 (by decide) ?_
        refine aw_istore_n (L' := [some (.ref (X.G.ad 11 0)), some (.int x1), some (.int (1 : Int32))]) hX dX11_tests_105 (Nat.le_of_ble_eq_true rfl) rfl ?_
        exact k

set_option maxRecDepth 100000 in
set_option maxHeartbeats 4000000 in
theorem st_X11_tests_106 {X : zX} {lv : Nat} {Post : Option Value → zM → Prop} (hX : zOk X cX11_tests RX11 3 lv) (hr : zRt X none Post)  {x1 : Int32} {x2 : Int32} {μ : zM}
    (k : (vp_in x1 7) ∧ ((¬ (μ.1 61 0 (ix x1)) = (27 : Int32) → (AW X 136 [some (.ref (X.G.ad 11 0)), some (.int x1), some (.int x2)] [] μ)) ∧ ((μ.1 61 0 (ix x1)) = (27 : Int32) → ((¬ (μ.1 60 0 (ix x1)) = 0 → (AW X 136 [some (.ref (X.G.ad 11 0)), some (.int x1), some (.int (1 : Int32))] [] μ)) ∧ ((μ.1 60 0 (ix x1)) = 0 → ((x2 = 0 → (AW X 136 [some (.ref (X.G.ad 11 0)), some (.int x1), some (.int (0 : Int32))] [] μ)) ∧ (¬ x2 = 0 → (AW X 136 [some (.ref (X.G.ad 11 0)), some (.int x1), some (.int (1 : Int32))] [] μ)))))))) :
    AW X 106 [some (.ref (X.G.ad 11 0)), some (.int x1), some (.int x2)] [] μ := by
  refine aw_aload_n hX dX11_tests_106 rfl ?_
  refine aw_getr (o' := 0) hX kf_X11_90 sh_11 (by decide) rfl rfl dX11_tests_107 ?_
  refine aw_iload_n hX dX11_tests_110 rfl ?_
  have s1 := k.1
  have k := k.2
  refine aw_iald' (k := (ix x1)) hX sh_61 (by decide) s1 rfl dX11_tests_111 ?_
  refine aw_bipush hX dX11_tests_112 zb_27 ?_
  refine aw_icmp_ne (tgt := 136) hX dX11_tests_114 (by decide) (fun c2 => ?_) (fun c2 => ?_)
  · have k := k.1 c2
    exact k
  · have k := k.2 c2
    refine aw_aload_n hX dX11_tests_117 rfl ?_
    refine aw_getr (o' := 0) hX kf_X11_87 sh_11 (by decide) rfl rfl dX11_tests_118 ?_
    refine aw_iload_n hX dX11_tests_121 rfl ?_
    refine aw_iald' (k := (ix x1)) hX sh_60 (by decide) s1 rfl dX11_tests_122 ?_
    refine aw_if_ne (tgt := 130) hX dX11_tests_123 (by decide) (fun c3 => ?_) (fun c3 => ?_)
    · have k := k.1 c3
      refine aw_iconst hX dX11_tests_130 zk_1 ?_
      refine aw_goto (tgt := 135) hX dX11_tests_131 (by decide) ?_
      refine aw_istore_n (L' := [some (.ref (X.G.ad 11 0)), some (.int x1), some (.int (1 : Int32))]) hX dX11_tests_135 (Nat.le_of_ble_eq_true rfl) rfl ?_
      exact k
    · have k := k.2 c3
      refine aw_iload_n hX dX11_tests_126 rfl ?_
      refine aw_if_eq (tgt := 134) hX dX11_tests_127 (by decide) (fun c4 => ?_) (fun c4 => ?_)
      · have k := k.1 c4
        refine aw_iconst hX dX11_tests_134 zk_0 ?_
        refine aw_istore_n (L' := [some (.ref (X.G.ad 11 0)), some (.int x1), some (.int (0 : Int32))]) hX dX11_tests_135 (Nat.le_of_ble_eq_true rfl) rfl ?_
        exact k
      · have k := k.2 c4
        refine aw_iconst hX dX11_tests_130 zk_1 ?_
        refine aw_goto (tgt := 135) hX dX11_tests_131 (by decide) ?_
        refine aw_istore_n (L' := [some (.ref (X.G.ad 11 0)), some (.int x1), some (.int (1 : Int32))]) hX dX11_tests_135 (Nat.le_of_ble_eq_true rfl) rfl ?_
        exact k

set_option maxRecDepth 100000 in
set_option maxHeartbeats 4000000 in
theorem st_X11_tests_136 {X : zX} {lv : Nat} {Post : Option Value → zM → Prop} (hX : zOk X cX11_tests RX11 3 lv) (hr : zRt X none Post)  {x1 : Int32} {x2 : Int32} {μ : zM}
    (k : (vp_in x1 7) ∧ (∀ μ2 : zM, μ2 = pI μ 60 0 (ix x1) x2 → (∀ μ3 : zM, μ3 = pI μ2 63 0 (ix x1) (0 : Int32) → (∀ μ4 : zM, μ4 = pI μ3 64 0 (ix x1) (0 : Int32) → (∀ μ5 : zM, μ5 = pI μ4 65 0 (ix x1) (20 : Int32) → (Post none μ5)))))) :
    AW X 136 [some (.ref (X.G.ad 11 0)), some (.int x1), some (.int x2)] [] μ := by
  refine aw_aload_n hX dX11_tests_136 rfl ?_
  refine aw_getr (o' := 0) hX kf_X11_87 sh_11 (by decide) rfl rfl dX11_tests_137 ?_
  refine aw_iload_n hX dX11_tests_140 rfl ?_
  refine aw_iload_n hX dX11_tests_141 rfl ?_
  have s1 := k.1
  have k := k.2
  refine aw_iast' (k := (ix x1)) hX sh_60 (by decide) s1 rfl dX11_tests_142 ?_
  refine aw_mem (fun μ2 eμ2 => ?_)
  have k := k μ2 eμ2
  refine aw_aload_n hX dX11_tests_143 rfl ?_
  refine aw_getr (o' := 0) hX kf_X11_96 sh_11 (by decide) rfl rfl dX11_tests_144 ?_
  refine aw_iload_n hX dX11_tests_147 rfl ?_
  refine aw_iconst hX dX11_tests_148 zk_0 ?_
  refine aw_iast' (k := (ix x1)) hX sh_63 (by decide) s1 rfl dX11_tests_149 ?_
  refine aw_mem (fun μ3 eμ3 => ?_)
  have k := k μ3 eμ3
  refine aw_aload_n hX dX11_tests_150 rfl ?_
  refine aw_getr (o' := 0) hX kf_X11_99 sh_11 (by decide) rfl rfl dX11_tests_151 ?_
  refine aw_iload_n hX dX11_tests_154 rfl ?_
  refine aw_iconst hX dX11_tests_155 zk_0 ?_
  refine aw_iast' (k := (ix x1)) hX sh_64 (by decide) s1 rfl dX11_tests_156 ?_
  refine aw_mem (fun μ4 eμ4 => ?_)
  have k := k μ4 eμ4
  refine aw_aload_n hX dX11_tests_157 rfl ?_
  refine aw_getr (o' := 0) hX kf_X11_102 sh_11 (by decide) rfl rfl dX11_tests_158 ?_
  refine aw_iload_n hX dX11_tests_161 rfl ?_
  refine aw_bipush hX dX11_tests_162 zb_20 ?_
  refine aw_iast' (k := (ix x1)) hX sh_65 (by decide) s1 rfl dX11_tests_164 ?_
  refine aw_mem (fun μ5 eμ5 => ?_)
  have k := k μ5 eμ5
  exact aw_vret hX hr dX11_tests_165 k

set_option maxRecDepth 100000 in
set_option maxHeartbeats 4000000 in
theorem st_X11_worked_0 {X : zX} {lv : Nat} {Post : Option Value → zM → Prop} (hX : zOk X cX11_worked RX11 6 lv) (hr : zRt X (some .int) Post)  {x1 : Int32} {μ : zM}
    (k : zCallV X lv yX11_opens cX11_opens 2 none [.ref (X.G.ad 11 0), .int (0 : Int32)] μ (fun μ2 => (vp_in x1 48) ∧ (∀ v4 : Int32, v4 = (μ2.1 55 0 (ix x1)) → (AW X 14 [some (.ref (X.G.ad 11 0)), some (.int x1), some (.int (0 : Int32)), some (.int v4), none, none] [] μ2)))) :
    AW X 0 [some (.ref (X.G.ad 11 0)), some (.int x1), none, none, none, none] [] μ := by
  refine aw_iconst hX dX11_worked_0 zk_0 ?_
  refine aw_istore_n (L' := [some (.ref (X.G.ad 11 0)), some (.int x1), some (.int (0 : Int32)), none, none, none]) hX dX11_worked_1 (Nat.le_of_ble_eq_true rfl) rfl ?_
  refine aw_aload_n hX dX11_worked_2 rfl ?_
  refine aw_iconst hX dX11_worked_3 zk_0 ?_
  refine aw_invV (As := [.int (0 : Int32)]) (rest := []) (κ := 11) (o := 0) (T := TX11) (N := 55) hX vc_X11_215 sh_11 (by decide) rfl rfl rfl (Nat.le_of_ble_eq_true rfl) dX11_worked_4 k (fun μ2 k => ?_)
  refine aw_aload_n hX dX11_worked_7 rfl ?_
  refine aw_getr (o' := 0) hX kf_X11_71 sh_11 (by decide) rfl rfl dX11_worked_8 ?_
  refine aw_iload_n hX dX11_worked_11 rfl ?_
  have s3 := k.1
  have k := k.2
  refine aw_iald' (k := (ix x1)) hX sh_55 (by decide) s3 rfl dX11_worked_12 ?_
  refine aw_topi (fun v4 ev4 => ?_)
  have k := k v4 ev4
  refine aw_istore_n (L' := [some (.ref (X.G.ad 11 0)), some (.int x1), some (.int (0 : Int32)), some (.int v4), none, none]) hX dX11_worked_13 (Nat.le_of_ble_eq_true rfl) rfl ?_
  exact k

set_option maxRecDepth 100000 in
set_option maxHeartbeats 4000000 in
theorem st_X11_worked_14 {X : zX} {lv : Nat} {Post : Option Value → zM → Prop} (hX : zOk X cX11_worked RX11 6 lv) (hr : zRt X (some .int) Post)  {x1 : Int32} {x2 : Int32} {x3 : Int32} {μ : zM}
    (k : (vp_in x1 48) ∧ (((μ.1 56 0 (ix x1)) ≤ x3 → (zCallV X lv yX11_tests cX11_tests 3 none [.ref (X.G.ad 11 0), .int (0 : Int32)] μ (fun μ4 => Post (some (.int (μ4.1 60 0 0))) μ4))) ∧ (¬ (μ.1 56 0 (ix x1)) ≤ x3 → ((vp_in x3 6000) ∧ (∀ v6 : Int32, v6 = (μ.1 57 0 (ix x3)) → ((v6 = (28 : Int32) → (AW X 46 [some (.ref (X.G.ad 11 0)), some (.int x1), some (.int x2), some (.int x3), some (.int v6), none] [] μ)) ∧ (¬ v6 = (28 : Int32) → ((¬ v6 = (30 : Int32) → ((v6 = (20 : Int32) → (zCallV X lv yX11_sums cX11_sums 2 none [.ref (X.G.ad 11 0), .int x2] μ (fun μ11 => (vp_in x2 7) ∧ (∀ μ13 : zM, μ13 = pI μ11 65 0 (ix x2) v6 → (∀ v14 : Int32, v14 = x3 + (1 : Int32) → (AW X 14 [some (.ref (X.G.ad 11 0)), some (.int x1), some (.int x2), some (.int v14), none, none] [] μ13)))))) ∧ (¬ v6 = (20 : Int32) → ((¬ v6 = (21 : Int32) → ((¬ v6 = (22 : Int32) → ((v6 = (24 : Int32) → (AW X 137 [some (.ref (X.G.ad 11 0)), some (.int x1), some (.int x2), some (.int x3), some (.int v6), none] [] μ)) ∧ (¬ v6 = (24 : Int32) → ((¬ v6 = (25 : Int32) → ((v6 = (26 : Int32) → (zCallV X lv yX11_tests cX11_tests 3 none [.ref (X.G.ad 11 0), .int x2] μ (fun μ21 => (vp_in x2 7) ∧ (∀ μ23 : zM, μ23 = pI μ21 61 0 (ix x2) v6 → (∀ v24 : Int32, v24 = x3 + (1 : Int32) → (AW X 14 [some (.ref (X.G.ad 11 0)), some (.int x1), some (.int x2), some (.int v24), none, none] [] μ23)))))) ∧ (¬ v6 = (26 : Int32) → ((¬ v6 = (27 : Int32) → ((v6 < (100 : Int32) → (((20 : Int32) ≤ v6 → ((¬ v6 = (29 : Int32) → (AW X 268 [some (.ref (X.G.ad 11 0)), some (.int x1), some (.int x2), some (.int x3), none, some (.int (0 : Int32))] [] μ)) ∧ (v6 = (29 : Int32) → (zCallV X lv yX11_tests cX11_tests 3 none [.ref (X.G.ad 11 0), .int x2] μ (fun μ30 => (vp_in x2 7) ∧ (∀ v32 : Int32, v32 = (μ30.1 60 0 (ix x2)) → (∀ v33 : Int32, v33 = x2 + (-1 : Int32) → (AW X 268 [some (.ref (X.G.ad 11 0)), some (.int x1), some (.int v33), some (.int x3), none, some (.int v32)] [] μ30)))))))) ∧ (¬ (20 : Int32) ≤ v6 → ((vp_in v6 20) ∧ (∀ v35 : Int32, v35 = (μ.1 69 0 (ix v6)) → ((¬ v6 = (29 : Int32) → (AW X 268 [some (.ref (X.G.ad 11 0)), some (.int x1), some (.int x2), some (.int x3), none, some (.int v35)] [] μ)) ∧ (v6 = (29 : Int32) → (zCallV X lv yX11_tests cX11_tests 3 none [.ref (X.G.ad 11 0), .int x2] μ (fun μ38 => (vp_in x2 7) ∧ (∀ v40 : Int32, v40 = (μ38.1 60 0 (ix x2)) → (∀ v41 : Int32, v41 = x2 + (-1 : Int32) → (AW X 268 [some (.ref (X.G.ad 11 0)), some (.int x1), some (.int v41), some (.int x3), none, some (.int v40)] [] μ38)))))))))))) ∧ (¬ v6 < (100 : Int32) → (∀ v42 : Int32, v42 = (v6 - (100 : Int32)) → ((¬ v6 = (29 : Int32) → (AW X 268 [some (.ref (X.G.ad 11 0)), some (.int x1), some (.int x2), some (.int x3), none, some (.int v42)] [] μ)) ∧ (v6 = (29 : Int32) → (zCallV X lv yX11_tests cX11_tests 3 none [.ref (X.G.ad 11 0), .int x2] μ (fun μ45 => (vp_in x2 7) ∧ (∀ v47 : Int32, v47 = (μ45.1 60 0 (ix x2)) → (∀ v48 : Int32, v48 = x2 + (-1 : Int32) → (AW X 268 [some (.ref (X.G.ad 11 0)), some (.int x1), some (.int v48), some (.int x3), none, some (.int v47)] [] μ45))))))))))) ∧ (v6 = (27 : Int32) → (zCallV X lv yX11_tests cX11_tests 3 none [.ref (X.G.ad 11 0), .int x2] μ (fun μ50 => (vp_in x2 7) ∧ (∀ μ52 : zM, μ52 = pI μ50 61 0 (ix x2) v6 → (∀ v53 : Int32, v53 = x3 + (1 : Int32) → (AW X 14 [some (.ref (X.G.ad 11 0)), some (.int x1), some (.int x2), some (.int v53), none, none] [] μ52)))))))))) ∧ (v6 = (25 : Int32) → (AW X 137 [some (.ref (X.G.ad 11 0)), some (.int x1), some (.int x2), some (.int x3), some (.int v6), none] [] μ)))))) ∧ (v6 = (22 : Int32) → ((vp_in x2 7) ∧ (∀ μ55 : zM, μ55 = pI μ 67 0 (ix x2) v6 → (∀ v56 : Int32, v56 = x3 + (1 : Int32) → (AW X 14 [some (.ref (X.G.ad 11 0)), some (.int x1), some (.int x2), some (.int v56), none, none] [] μ55))))))) ∧ (v6 = (21 : Int32) → (zCallV X lv yX11_sums cX11_sums 2 none [.ref (X.G.ad 11 0), .int x2] μ (fun μ58 => (vp_in x2 7) ∧ (∀ μ60 : zM, μ60 = pI μ58 65 0 (ix x2) v6 → (∀ v61 : Int32, v61 = x3 + (1 : Int32) → (AW X 14 [some (.ref (X.G.ad 11 0)), some (.int x1), some (.int x2), some (.int v61), none, none] [] μ60)))))))))) ∧ (v6 = (30 : Int32) → (AW X 46 [some (.ref (X.G.ad 11 0)), some (.int x1), some (.int x2), some (.int x3), some (.int v6), none] [] μ)))))))))) :
    AW X 14 [some (.ref (X.G.ad 11 0)), some (.int x1), some (.int x2), some (.int x3), none, none] [] μ := by
  refine aw_iload_n hX dX11_worked_14 rfl ?_
  refine aw_aload_n hX dX11_worked_15 rfl ?_
  refine aw_getr (o' := 0) hX kf_X11_74 sh_11 (by decide) rfl rfl dX11_worked_16 ?_
  refine aw_iload_n hX dX11_worked_19 rfl ?_
  have s1 := k.1
  have k := k.2
  refine aw_iald' (k := (ix x1)) hX sh_56 (by decide) s1 rfl dX11_worked_20 ?_
  refine aw_icmp_ge (tgt := 335) hX dX11_worked_21 (by decide) (fun c2 => ?_) (fun c2 => ?_)
  · have k := k.1 c2
    refine aw_aload_n hX dX11_worked_335 rfl ?_
    refine aw_iconst hX dX11_worked_336 zk_0 ?_
    refine aw_invV (As := [.int (0 : Int32)]) (rest := []) (κ := 11) (o := 0) (T := TX11) (N := 55) hX vc_X11_218 sh_11 (by decide) rfl rfl rfl (Nat.le_of_ble_eq_true rfl) dX11_worked_337 k (fun μ4 k => ?_)
    refine aw_aload_n hX dX11_worked_340 rfl ?_
    refine aw_getr (o' := 0) hX kf_X11_87 sh_11 (by decide) rfl rfl dX11_worked_341 ?_
    refine aw_iconst hX dX11_worked_344 zk_0 ?_
    refine aw_iald' (k := 0) hX sh_60 (by decide) (zdi (by decide)) (by decide) dX11_worked_345 ?_
    exact aw_iret hX hr dX11_worked_346 k
  · have k := k.2 c2
    refine aw_aload_n hX dX11_worked_24 rfl ?_
    refine aw_getr (o' := 0) hX kf_X11_77 sh_11 (by decide) rfl rfl dX11_worked_25 ?_
    refine aw_iload_n hX dX11_worked_28 rfl ?_
    have s5 := k.1
    have k := k.2
    refine aw_iald' (k := (ix x3)) hX sh_57 (by decide) s5 rfl dX11_worked_29 ?_
    refine aw_topi (fun v6 ev6 => ?_)
    have k := k v6 ev6
    refine aw_istore (L' := [some (.ref (X.G.ad 11 0)), some (.int x1), some (.int x2), some (.int x3), some (.int v6), none]) hX dX11_worked_30 (Nat.le_of_ble_eq_true rfl) rfl ?_
    refine aw_iload hX dX11_worked_32 rfl ?_
    refine aw_bipush hX dX11_worked_34 zb_28 ?_
    refine aw_icmp_eq (tgt := 46) hX dX11_worked_36 (by decide) (fun c7 => ?_) (fun c7 => ?_)
    · have k := k.1 c7
      exact k
    · have k := k.2 c7
      refine aw_iload hX dX11_worked_39 rfl ?_
      refine aw_bipush hX dX11_worked_41 zb_30 ?_
      refine aw_icmp_ne (tgt := 75) hX dX11_worked_43 (by decide) (fun c8 => ?_) (fun c8 => ?_)
      · have k := k.1 c8
        refine aw_iload hX dX11_worked_75 rfl ?_
        refine aw_bipush hX dX11_worked_77 zb_20 ?_
        refine aw_icmp_eq (tgt := 89) hX dX11_worked_79 (by decide) (fun c9 => ?_) (fun c9 => ?_)
        · have k := k.1 c9
          refine aw_aload_n hX dX11_worked_89 rfl ?_
          refine aw_iload_n hX dX11_worked_90 rfl ?_
          refine aw_invV (As := [.int x2]) (rest := []) (κ := 11) (o := 0) (T := TX11) (N := 55) hX vc_X11_212 sh_11 (by decide) rfl rfl rfl (Nat.le_of_ble_eq_true rfl) dX11_worked_91 k (fun μ11 k => ?_)
          refine aw_aload_n hX dX11_worked_94 rfl ?_
          refine aw_getr (o' := 0) hX kf_X11_102 sh_11 (by decide) rfl rfl dX11_worked_95 ?_
          refine aw_iload_n hX dX11_worked_98 rfl ?_
          refine aw_iload hX dX11_worked_99 rfl ?_
          have s12 := k.1
          have k := k.2
          refine aw_iast' (k := (ix x2)) hX sh_65 (by decide) s12 rfl dX11_worked_101 ?_
          refine aw_mem (fun μ13 eμ13 => ?_)
          have k := k μ13 eμ13
          refine aw_goto (tgt := 329) hX dX11_worked_102 (by decide) ?_
          obtain ⟨v14, ev14⟩ : ∃ y : Int32, y = x3 + (1 : Int32) := ⟨_, rfl⟩
          have k := k v14 ev14
          refine aw_iinc (v := v14) (L' := [some (.ref (X.G.ad 11 0)), some (.int x1), some (.int x2), some (.int v14), some (.int v6), none]) hX dX11_worked_329 rfl (by rw [ev14]; rfl) (Nat.le_of_ble_eq_true rfl) rfl ?_
          refine aw_goto (tgt := 14) hX dX11_worked_332 (by decide) ?_
          exact aw_less (zle_s (zle_s (zle_s (zle_s (zle_o (zle_o zle_n)))))) k
        · have k := k.2 c9
          refine aw_iload hX dX11_worked_82 rfl ?_
          refine aw_bipush hX dX11_worked_84 zb_21 ?_
          refine aw_icmp_ne (tgt := 105) hX dX11_worked_86 (by decide) (fun c15 => ?_) (fun c15 => ?_)
          · have k := k.1 c15
            refine aw_iload hX dX11_worked_105 rfl ?_
            refine aw_bipush hX dX11_worked_107 zb_22 ?_
            refine aw_icmp_ne (tgt := 123) hX dX11_worked_109 (by decide) (fun c16 => ?_) (fun c16 => ?_)
            · have k := k.1 c16
              refine aw_iload hX dX11_worked_123 rfl ?_
              refine aw_bipush hX dX11_worked_125 zb_24 ?_
              refine aw_icmp_eq (tgt := 137) hX dX11_worked_127 (by decide) (fun c17 => ?_) (fun c17 => ?_)
              · have k := k.1 c17
                exact k
              · have k := k.2 c17
                refine aw_iload hX dX11_worked_130 rfl ?_
                refine aw_bipush hX dX11_worked_132 zb_25 ?_
                refine aw_icmp_ne (tgt := 180) hX dX11_worked_134 (by decide) (fun c18 => ?_) (fun c18 => ?_)
                · have k := k.1 c18
                  refine aw_iload hX dX11_worked_180 rfl ?_
                  refine aw_bipush hX dX11_worked_182 zb_26 ?_
                  refine aw_icmp_eq (tgt := 194) hX dX11_worked_184 (by decide) (fun c19 => ?_) (fun c19 => ?_)
                  · have k := k.1 c19
                    refine aw_aload_n hX dX11_worked_194 rfl ?_
                    refine aw_iload_n hX dX11_worked_195 rfl ?_
                    refine aw_invV (As := [.int x2]) (rest := []) (κ := 11) (o := 0) (T := TX11) (N := 55) hX vc_X11_218 sh_11 (by decide) rfl rfl rfl (Nat.le_of_ble_eq_true rfl) dX11_worked_196 k (fun μ21 k => ?_)
                    refine aw_aload_n hX dX11_worked_199 rfl ?_
                    refine aw_getr (o' := 0) hX kf_X11_90 sh_11 (by decide) rfl rfl dX11_worked_200 ?_
                    refine aw_iload_n hX dX11_worked_203 rfl ?_
                    refine aw_iload hX dX11_worked_204 rfl ?_
                    have s22 := k.1
                    have k := k.2
                    refine aw_iast' (k := (ix x2)) hX sh_61 (by decide) s22 rfl dX11_worked_206 ?_
                    refine aw_mem (fun μ23 eμ23 => ?_)
                    have k := k μ23 eμ23
                    refine aw_goto (tgt := 329) hX dX11_worked_207 (by decide) ?_
                    obtain ⟨v24, ev24⟩ : ∃ y : Int32, y = x3 + (1 : Int32) := ⟨_, rfl⟩
                    have k := k v24 ev24
                    refine aw_iinc (v := v24) (L' := [some (.ref (X.G.ad 11 0)), some (.int x1), some (.int x2), some (.int v24), some (.int v6), none]) hX dX11_worked_329 rfl (by rw [ev24]; rfl) (Nat.le_of_ble_eq_true rfl) rfl ?_
                    refine aw_goto (tgt := 14) hX dX11_worked_332 (by decide) ?_
                    exact aw_less (zle_s (zle_s (zle_s (zle_s (zle_o (zle_o zle_n)))))) k
                  · have k := k.2 c19
                    refine aw_iload hX dX11_worked_187 rfl ?_
                    refine aw_bipush hX dX11_worked_189 zb_27 ?_
                    refine aw_icmp_ne (tgt := 210) hX dX11_worked_191 (by decide) (fun c25 => ?_) (fun c25 => ?_)
                    · have k := k.1 c25
                      refine aw_iload hX dX11_worked_210 rfl ?_
                      refine aw_bipush hX dX11_worked_212 zb_100 ?_
                      refine aw_icmp_lt (tgt := 225) hX dX11_worked_214 (by decide) (fun c26 => ?_) (fun c26 => ?_)
                      · have k := k.1 c26
                        refine aw_iload hX dX11_worked_225 rfl ?_
                        refine aw_bipush hX dX11_worked_227 zb_20 ?_
                        refine aw_icmp_ge (tgt := 242) hX dX11_worked_229 (by decide) (fun c27 => ?_) (fun c27 => ?_)
                        · have k := k.1 c27
                          refine aw_iconst hX dX11_worked_242 zk_0 ?_
                          refine aw_istore (L' := [some (.ref (X.G.ad 11 0)), some (.int x1), some (.int x2), some (.int x3), some (.int v6), some (.int (0 : Int32))]) hX dX11_worked_243 (Nat.le_of_ble_eq_true rfl) rfl ?_
                          refine aw_iload hX dX11_worked_245 rfl ?_
                          refine aw_bipush hX dX11_worked_247 zb_29 ?_
                          refine aw_icmp_ne (tgt := 268) hX dX11_worked_249 (by decide) (fun c28 => ?_) (fun c28 => ?_)
                          · have k := k.1 c28
                            exact aw_less (zle_s (zle_s (zle_s (zle_s (zle_o (zle_s zle_n)))))) k
                          · have k := k.2 c28
                            refine aw_aload_n hX dX11_worked_252 rfl ?_
                            refine aw_iload_n hX dX11_worked_253 rfl ?_
                            refine aw_invV (As := [.int x2]) (rest := []) (κ := 11) (o := 0) (T := TX11) (N := 55) hX vc_X11_218 sh_11 (by decide) rfl rfl rfl (Nat.le_of_ble_eq_true rfl) dX11_worked_254 k (fun μ30 k => ?_)
                            refine aw_aload_n hX dX11_worked_257 rfl ?_
                            refine aw_getr (o' := 0) hX kf_X11_87 sh_11 (by decide) rfl rfl dX11_worked_258 ?_
                            refine aw_iload_n hX dX11_worked_261 rfl ?_
                            have s31 := k.1
                            have k := k.2
                            refine aw_iald' (k := (ix x2)) hX sh_60 (by decide) s31 rfl dX11_worked_262 ?_
                            refine aw_topi (fun v32 ev32 => ?_)
                            have k := k v32 ev32
                            refine aw_istore (L' := [some (.ref (X.G.ad 11 0)), some (.int x1), some (.int x2), some (.int x3), some (.int v6), some (.int v32)]) hX dX11_worked_263 (Nat.le_of_ble_eq_true rfl) rfl ?_
                            obtain ⟨v33, ev33⟩ : ∃ y : Int32, y = x2 + (-1 : Int32) := ⟨_, rfl⟩
                            have k := k v33 ev33
                            refine aw_iinc (v := v33) (L' := [some (.ref (X.G.ad 11 0)), some (.int x1), some (.int v33), some (.int x3), some (.int v6), some (.int v32)]) hX dX11_worked_265 rfl (by rw [ev33]; rfl) (Nat.le_of_ble_eq_true rfl) rfl ?_
                            exact aw_less (zle_s (zle_s (zle_s (zle_s (zle_o (zle_s zle_n)))))) k
                        · have k := k.2 c27
                          refine aw_aload_n hX dX11_worked_232 rfl ?_
                          refine aw_getr (o' := 0) hX kf_X11_114 sh_11 (by decide) rfl rfl dX11_worked_233 ?_
                          refine aw_iload hX dX11_worked_236 rfl ?_
                          have s34 := k.1
                          have k := k.2
                          refine aw_iald' (k := (ix v6)) hX sh_69 (by decide) s34 rfl dX11_worked_238 ?_
                          refine aw_goto (tgt := 243) hX dX11_worked_239 (by decide) ?_
                          refine aw_topi (fun v35 ev35 => ?_)
                          have k := k v35 ev35
                          refine aw_istore (L' := [some (.ref (X.G.ad 11 0)), some (.int x1), some (.int x2), some (.int x3), some (.int v6), some (.int v35)]) hX dX11_worked_243 (Nat.le_of_ble_eq_true rfl) rfl ?_
                          refine aw_iload hX dX11_worked_245 rfl ?_
                          refine aw_bipush hX dX11_worked_247 zb_29 ?_
                          refine aw_icmp_ne (tgt := 268) hX dX11_worked_249 (by decide) (fun c36 => ?_) (fun c36 => ?_)
                          · have k := k.1 c36
                            exact aw_less (zle_s (zle_s (zle_s (zle_s (zle_o (zle_s zle_n)))))) k
                          · have k := k.2 c36
                            refine aw_aload_n hX dX11_worked_252 rfl ?_
                            refine aw_iload_n hX dX11_worked_253 rfl ?_
                            refine aw_invV (As := [.int x2]) (rest := []) (κ := 11) (o := 0) (T := TX11) (N := 55) hX vc_X11_218 sh_11 (by decide) rfl rfl rfl (Nat.le_of_ble_eq_true rfl) dX11_worked_254 k (fun μ38 k => ?_)
                            refine aw_aload_n hX dX11_worked_257 rfl ?_
                            refine aw_getr (o' := 0) hX kf_X11_87 sh_11 (by decide) rfl rfl dX11_worked_258 ?_
                            refine aw_iload_n hX dX11_worked_261 rfl ?_
                            have s39 := k.1
                            have k := k.2
                            refine aw_iald' (k := (ix x2)) hX sh_60 (by decide) s39 rfl dX11_worked_262 ?_
                            refine aw_topi (fun v40 ev40 => ?_)
                            have k := k v40 ev40
                            refine aw_istore (L' := [some (.ref (X.G.ad 11 0)), some (.int x1), some (.int x2), some (.int x3), some (.int v6), some (.int v40)]) hX dX11_worked_263 (Nat.le_of_ble_eq_true rfl) rfl ?_
                            obtain ⟨v41, ev41⟩ : ∃ y : Int32, y = x2 + (-1 : Int32) := ⟨_, rfl⟩
                            have k := k v41 ev41
                            refine aw_iinc (v := v41) (L' := [some (.ref (X.G.ad 11 0)), some (.int x1), some (.int v41), some (.int x3), some (.int v6), some (.int v40)]) hX dX11_worked_265 rfl (by rw [ev41]; rfl) (Nat.le_of_ble_eq_true rfl) rfl ?_
                            exact aw_less (zle_s (zle_s (zle_s (zle_s (zle_o (zle_s zle_n)))))) k
                      · have k := k.2 c26
                        refine aw_iload hX dX11_worked_217 rfl ?_
                        refine aw_bipush hX dX11_worked_219 zb_100 ?_
                        refine aw_isub hX dX11_worked_221 ?_
                        refine aw_goto (tgt := 243) hX dX11_worked_222 (by decide) ?_
                        refine aw_topi (fun v42 ev42 => ?_)
                        have k := k v42 ev42
                        refine aw_istore (L' := [some (.ref (X.G.ad 11 0)), some (.int x1), some (.int x2), some (.int x3), some (.int v6), some (.int v42)]) hX dX11_worked_243 (Nat.le_of_ble_eq_true rfl) rfl ?_
                        refine aw_iload hX dX11_worked_245 rfl ?_
                        refine aw_bipush hX dX11_worked_247 zb_29 ?_
                        refine aw_icmp_ne (tgt := 268) hX dX11_worked_249 (by decide) (fun c43 => ?_) (fun c43 => ?_)
                        · have k := k.1 c43
                          exact aw_less (zle_s (zle_s (zle_s (zle_s (zle_o (zle_s zle_n)))))) k
                        · have k := k.2 c43
                          refine aw_aload_n hX dX11_worked_252 rfl ?_
                          refine aw_iload_n hX dX11_worked_253 rfl ?_
                          refine aw_invV (As := [.int x2]) (rest := []) (κ := 11) (o := 0) (T := TX11) (N := 55) hX vc_X11_218 sh_11 (by decide) rfl rfl rfl (Nat.le_of_ble_eq_true rfl) dX11_worked_254 k (fun μ45 k => ?_)
                          refine aw_aload_n hX dX11_worked_257 rfl ?_
                          refine aw_getr (o' := 0) hX kf_X11_87 sh_11 (by decide) rfl rfl dX11_worked_258 ?_
                          refine aw_iload_n hX dX11_worked_261 rfl ?_
                          have s46 := k.1
                          have k := k.2
                          refine aw_iald' (k := (ix x2)) hX sh_60 (by decide) s46 rfl dX11_worked_262 ?_
                          refine aw_topi (fun v47 ev47 => ?_)
                          have k := k v47 ev47
                          refine aw_istore (L' := [some (.ref (X.G.ad 11 0)), some (.int x1), some (.int x2), some (.int x3), some (.int v6), some (.int v47)]) hX dX11_worked_263 (Nat.le_of_ble_eq_true rfl) rfl ?_
                          obtain ⟨v48, ev48⟩ : ∃ y : Int32, y = x2 + (-1 : Int32) := ⟨_, rfl⟩
                          have k := k v48 ev48
                          refine aw_iinc (v := v48) (L' := [some (.ref (X.G.ad 11 0)), some (.int x1), some (.int v48), some (.int x3), some (.int v6), some (.int v47)]) hX dX11_worked_265 rfl (by rw [ev48]; rfl) (Nat.le_of_ble_eq_true rfl) rfl ?_
                          exact aw_less (zle_s (zle_s (zle_s (zle_s (zle_o (zle_s zle_n)))))) k
                    · have k := k.2 c25
                      refine aw_aload_n hX dX11_worked_194 rfl ?_
                      refine aw_iload_n hX dX11_worked_195 rfl ?_
                      refine aw_invV (As := [.int x2]) (rest := []) (κ := 11) (o := 0) (T := TX11) (N := 55) hX vc_X11_218 sh_11 (by decide) rfl rfl rfl (Nat.le_of_ble_eq_true rfl) dX11_worked_196 k (fun μ50 k => ?_)
                      refine aw_aload_n hX dX11_worked_199 rfl ?_
                      refine aw_getr (o' := 0) hX kf_X11_90 sh_11 (by decide) rfl rfl dX11_worked_200 ?_
                      refine aw_iload_n hX dX11_worked_203 rfl ?_
                      refine aw_iload hX dX11_worked_204 rfl ?_
                      have s51 := k.1
                      have k := k.2
                      refine aw_iast' (k := (ix x2)) hX sh_61 (by decide) s51 rfl dX11_worked_206 ?_
                      refine aw_mem (fun μ52 eμ52 => ?_)
                      have k := k μ52 eμ52
                      refine aw_goto (tgt := 329) hX dX11_worked_207 (by decide) ?_
                      obtain ⟨v53, ev53⟩ : ∃ y : Int32, y = x3 + (1 : Int32) := ⟨_, rfl⟩
                      have k := k v53 ev53
                      refine aw_iinc (v := v53) (L' := [some (.ref (X.G.ad 11 0)), some (.int x1), some (.int x2), some (.int v53), some (.int v6), none]) hX dX11_worked_329 rfl (by rw [ev53]; rfl) (Nat.le_of_ble_eq_true rfl) rfl ?_
                      refine aw_goto (tgt := 14) hX dX11_worked_332 (by decide) ?_
                      exact aw_less (zle_s (zle_s (zle_s (zle_s (zle_o (zle_o zle_n)))))) k
                · have k := k.2 c18
                  exact k
            · have k := k.2 c16
              refine aw_aload_n hX dX11_worked_112 rfl ?_
              refine aw_getr (o' := 0) hX kf_X11_108 sh_11 (by decide) rfl rfl dX11_worked_113 ?_
              refine aw_iload_n hX dX11_worked_116 rfl ?_
              refine aw_iload hX dX11_worked_117 rfl ?_
              have s54 := k.1
              have k := k.2
              refine aw_iast' (k := (ix x2)) hX sh_67 (by decide) s54 rfl dX11_worked_119 ?_
              refine aw_mem (fun μ55 eμ55 => ?_)
              have k := k μ55 eμ55
              refine aw_goto (tgt := 329) hX dX11_worked_120 (by decide) ?_
              obtain ⟨v56, ev56⟩ : ∃ y : Int32, y = x3 + (1 : Int32) := ⟨_, rfl⟩
              have k := k v56 ev56
              refine aw_iinc (v := v56) (L' := [some (.ref (X.G.ad 11 0)), some (.int x1), some (.int x2), some (.int v56), some (.int v6), none]) hX dX11_worked_329 rfl (by rw [ev56]; rfl) (Nat.le_of_ble_eq_true rfl) rfl ?_
              refine aw_goto (tgt := 14) hX dX11_worked_332 (by decide) ?_
              exact aw_less (zle_s (zle_s (zle_s (zle_s (zle_o (zle_o zle_n)))))) k
          · have k := k.2 c15
            refine aw_aload_n hX dX11_worked_89 rfl ?_
            refine aw_iload_n hX dX11_worked_90 rfl ?_
            refine aw_invV (As := [.int x2]) (rest := []) (κ := 11) (o := 0) (T := TX11) (N := 55) hX vc_X11_212 sh_11 (by decide) rfl rfl rfl (Nat.le_of_ble_eq_true rfl) dX11_worked_91 k (fun μ58 k => ?_)
            refine aw_aload_n hX dX11_worked_94 rfl ?_
            refine aw_getr (o' := 0) hX kf_X11_102 sh_11 (by decide) rfl rfl dX11_worked_95 ?_
            refine aw_iload_n hX dX11_worked_98 rfl ?_
            refine aw_iload hX dX11_worked_99 rfl ?_
            have s59 := k.1
            have k := k.2
            refine aw_iast' (k := (ix x2)) hX sh_65 (by decide) s59 rfl dX11_worked_101 ?_
            refine aw_mem (fun μ60 eμ60 => ?_)
            have k := k μ60 eμ60
            refine aw_goto (tgt := 329) hX dX11_worked_102 (by decide) ?_
            obtain ⟨v61, ev61⟩ : ∃ y : Int32, y = x3 + (1 : Int32) := ⟨_, rfl⟩
            have k := k v61 ev61
            refine aw_iinc (v := v61) (L' := [some (.ref (X.G.ad 11 0)), some (.int x1), some (.int x2), some (.int v61), some (.int v6), none]) hX dX11_worked_329 rfl (by rw [ev61]; rfl) (Nat.le_of_ble_eq_true rfl) rfl ?_
            refine aw_goto (tgt := 14) hX dX11_worked_332 (by decide) ?_
            exact aw_less (zle_s (zle_s (zle_s (zle_s (zle_o (zle_o zle_n)))))) k
      · have k := k.2 c8
        exact k

set_option maxRecDepth 100000 in
set_option maxHeartbeats 4000000 in
theorem st_X11_worked_46 {X : zX} {lv : Nat} {Post : Option Value → zM → Prop} (hX : zOk X cX11_worked RX11 6 lv) (hr : zRt X (some .int) Post)  {x1 : Int32} {x2 : Int32} {x3 : Int32} {x4 : Int32} {μ : zM}
    (k : ∀ v1 : Int32, v1 = x2 + (1 : Int32) → ((¬ x4 = (30 : Int32) → ((vp_in v1 7) ∧ (∀ μ4 : zM, μ4 = pI μ 68 0 (ix v1) (0 : Int32) → (zCallV X lv yX11_opens cX11_opens 2 none [.ref (X.G.ad 11 0), .int v1] μ4 (fun μ6 => ∀ v7 : Int32, v7 = x3 + (1 : Int32) → (AW X 14 [some (.ref (X.G.ad 11 0)), some (.int x1), some (.int v1), some (.int v7), none, none] [] μ6)))))) ∧ (x4 = (30 : Int32) → ((vp_in v1 7) ∧ (∀ μ9 : zM, μ9 = pI μ 68 0 (ix v1) (1 : Int32) → (zCallV X lv yX11_opens cX11_opens 2 none [.ref (X.G.ad 11 0), .int v1] μ9 (fun μ11 => ∀ v12 : Int32, v12 = x3 + (1 : Int32) → (AW X 14 [some (.ref (X.G.ad 11 0)), some (.int x1), some (.int v1), some (.int v12), none, none] [] μ11)))))))) :
    AW X 46 [some (.ref (X.G.ad 11 0)), some (.int x1), some (.int x2), some (.int x3), some (.int x4), none] [] μ := by
  obtain ⟨v1, ev1⟩ : ∃ y : Int32, y = x2 + (1 : Int32) := ⟨_, rfl⟩
  have k := k v1 ev1
  refine aw_iinc (v := v1) (L' := [some (.ref (X.G.ad 11 0)), some (.int x1), some (.int v1), some (.int x3), some (.int x4), none]) hX dX11_worked_46 rfl (by rw [ev1]; rfl) (Nat.le_of_ble_eq_true rfl) rfl ?_
  refine aw_aload_n hX dX11_worked_49 rfl ?_
  refine aw_getr (o' := 0) hX kf_X11_111 sh_11 (by decide) rfl rfl dX11_worked_50 ?_
  refine aw_iload_n hX dX11_worked_53 rfl ?_
  refine aw_iload hX dX11_worked_54 rfl ?_
  refine aw_bipush hX dX11_worked_56 zb_30 ?_
  refine aw_icmp_ne (tgt := 65) hX dX11_worked_58 (by decide) (fun c2 => ?_) (fun c2 => ?_)
  · have k := k.1 c2
    refine aw_iconst hX dX11_worked_65 zk_0 ?_
    have s3 := k.1
    have k := k.2
    refine aw_iast' (k := (ix v1)) hX sh_68 (by decide) s3 rfl dX11_worked_66 ?_
    refine aw_mem (fun μ4 eμ4 => ?_)
    have k := k μ4 eμ4
    refine aw_aload_n hX dX11_worked_67 rfl ?_
    refine aw_iload_n hX dX11_worked_68 rfl ?_
    refine aw_invV (As := [.int v1]) (rest := []) (κ := 11) (o := 0) (T := TX11) (N := 55) hX vc_X11_215 sh_11 (by decide) rfl rfl rfl (Nat.le_of_ble_eq_true rfl) dX11_worked_69 k (fun μ6 k => ?_)
    refine aw_goto (tgt := 329) hX dX11_worked_72 (by decide) ?_
    obtain ⟨v7, ev7⟩ : ∃ y : Int32, y = x3 + (1 : Int32) := ⟨_, rfl⟩
    have k := k v7 ev7
    refine aw_iinc (v := v7) (L' := [some (.ref (X.G.ad 11 0)), some (.int x1), some (.int v1), some (.int v7), some (.int x4), none]) hX dX11_worked_329 rfl (by rw [ev7]; rfl) (Nat.le_of_ble_eq_true rfl) rfl ?_
    refine aw_goto (tgt := 14) hX dX11_worked_332 (by decide) ?_
    exact aw_less (zle_s (zle_s (zle_s (zle_s (zle_o (zle_o zle_n)))))) k
  · have k := k.2 c2
    refine aw_iconst hX dX11_worked_61 zk_1 ?_
    refine aw_goto (tgt := 66) hX dX11_worked_62 (by decide) ?_
    have s8 := k.1
    have k := k.2
    refine aw_iast' (k := (ix v1)) hX sh_68 (by decide) s8 rfl dX11_worked_66 ?_
    refine aw_mem (fun μ9 eμ9 => ?_)
    have k := k μ9 eμ9
    refine aw_aload_n hX dX11_worked_67 rfl ?_
    refine aw_iload_n hX dX11_worked_68 rfl ?_
    refine aw_invV (As := [.int v1]) (rest := []) (κ := 11) (o := 0) (T := TX11) (N := 55) hX vc_X11_215 sh_11 (by decide) rfl rfl rfl (Nat.le_of_ble_eq_true rfl) dX11_worked_69 k (fun μ11 k => ?_)
    refine aw_goto (tgt := 329) hX dX11_worked_72 (by decide) ?_
    obtain ⟨v12, ev12⟩ : ∃ y : Int32, y = x3 + (1 : Int32) := ⟨_, rfl⟩
    have k := k v12 ev12
    refine aw_iinc (v := v12) (L' := [some (.ref (X.G.ad 11 0)), some (.int x1), some (.int v1), some (.int v12), some (.int x4), none]) hX dX11_worked_329 rfl (by rw [ev12]; rfl) (Nat.le_of_ble_eq_true rfl) rfl ?_
    refine aw_goto (tgt := 14) hX dX11_worked_332 (by decide) ?_
    exact aw_less (zle_s (zle_s (zle_s (zle_s (zle_o (zle_o zle_n)))))) k

set_option maxRecDepth 100000 in
set_option maxHeartbeats 4000000 in
theorem st_X11_worked_137 {X : zX} {lv : Nat} {Post : Option Value → zM → Prop} (hX : zOk X cX11_worked RX11 6 lv) (hr : zRt X (some .int) Post)  {x1 : Int32} {x2 : Int32} {x3 : Int32} {x4 : Int32} {μ : zM}
    (k : zCallV X lv yX11_sums cX11_sums 2 none [.ref (X.G.ad 11 0), .int x2] μ (fun μ2 => (vp_in x2 7) ∧ (∀ μ4 : zM, μ4 = pI μ2 62 0 (ix x2) (μ2.1 64 0 (ix x2)) → (∀ μ5 : zM, μ5 = pI μ4 63 0 (ix x2) x4 → (∀ μ6 : zM, μ6 = pI μ5 64 0 (ix x2) (0 : Int32) → (∀ μ7 : zM, μ7 = pI μ6 65 0 (ix x2) (20 : Int32) → (∀ v8 : Int32, v8 = x3 + (1 : Int32) → (AW X 14 [some (.ref (X.G.ad 11 0)), some (.int x1), some (.int x2), some (.int v8), none, none] [] μ7)))))))) :
    AW X 137 [some (.ref (X.G.ad 11 0)), some (.int x1), some (.int x2), some (.int x3), some (.int x4), none] [] μ := by
  refine aw_aload_n hX dX11_worked_137 rfl ?_
  refine aw_iload_n hX dX11_worked_138 rfl ?_
  refine aw_invV (As := [.int x2]) (rest := []) (κ := 11) (o := 0) (T := TX11) (N := 55) hX vc_X11_212 sh_11 (by decide) rfl rfl rfl (Nat.le_of_ble_eq_true rfl) dX11_worked_139 k (fun μ2 k => ?_)
  refine aw_aload_n hX dX11_worked_142 rfl ?_
  refine aw_getr (o' := 0) hX kf_X11_93 sh_11 (by decide) rfl rfl dX11_worked_143 ?_
  refine aw_iload_n hX dX11_worked_146 rfl ?_
  refine aw_aload_n hX dX11_worked_147 rfl ?_
  refine aw_getr (o' := 0) hX kf_X11_99 sh_11 (by decide) rfl rfl dX11_worked_148 ?_
  refine aw_iload_n hX dX11_worked_151 rfl ?_
  have s3 := k.1
  have k := k.2
  refine aw_iald' (k := (ix x2)) hX sh_64 (by decide) s3 rfl dX11_worked_152 ?_
  refine aw_iast' (k := (ix x2)) hX sh_62 (by decide) s3 rfl dX11_worked_153 ?_
  refine aw_mem (fun μ4 eμ4 => ?_)
  have k := k μ4 eμ4
  refine aw_aload_n hX dX11_worked_154 rfl ?_
  refine aw_getr (o' := 0) hX kf_X11_96 sh_11 (by decide) rfl rfl dX11_worked_155 ?_
  refine aw_iload_n hX dX11_worked_158 rfl ?_
  refine aw_iload hX dX11_worked_159 rfl ?_
  refine aw_iast' (k := (ix x2)) hX sh_63 (by decide) s3 rfl dX11_worked_161 ?_
  refine aw_mem (fun μ5 eμ5 => ?_)
  have k := k μ5 eμ5
  refine aw_aload_n hX dX11_worked_162 rfl ?_
  refine aw_getr (o' := 0) hX kf_X11_99 sh_11 (by decide) rfl rfl dX11_worked_163 ?_
  refine aw_iload_n hX dX11_worked_166 rfl ?_
  refine aw_iconst hX dX11_worked_167 zk_0 ?_
  refine aw_iast' (k := (ix x2)) hX sh_64 (by decide) s3 rfl dX11_worked_168 ?_
  refine aw_mem (fun μ6 eμ6 => ?_)
  have k := k μ6 eμ6
  refine aw_aload_n hX dX11_worked_169 rfl ?_
  refine aw_getr (o' := 0) hX kf_X11_102 sh_11 (by decide) rfl rfl dX11_worked_170 ?_
  refine aw_iload_n hX dX11_worked_173 rfl ?_
  refine aw_bipush hX dX11_worked_174 zb_20 ?_
  refine aw_iast' (k := (ix x2)) hX sh_65 (by decide) s3 rfl dX11_worked_176 ?_
  refine aw_mem (fun μ7 eμ7 => ?_)
  have k := k μ7 eμ7
  refine aw_goto (tgt := 329) hX dX11_worked_177 (by decide) ?_
  obtain ⟨v8, ev8⟩ : ∃ y : Int32, y = x3 + (1 : Int32) := ⟨_, rfl⟩
  have k := k v8 ev8
  refine aw_iinc (v := v8) (L' := [some (.ref (X.G.ad 11 0)), some (.int x1), some (.int x2), some (.int v8), some (.int x4), none]) hX dX11_worked_329 rfl (by rw [ev8]; rfl) (Nat.le_of_ble_eq_true rfl) rfl ?_
  refine aw_goto (tgt := 14) hX dX11_worked_332 (by decide) ?_
  exact aw_less (zle_s (zle_s (zle_s (zle_s (zle_o (zle_o zle_n)))))) k

set_option maxRecDepth 100000 in
set_option maxHeartbeats 4000000 in
theorem st_X11_worked_268 {X : zX} {lv : Nat} {Post : Option Value → zM → Prop} (hX : zOk X cX11_worked RX11 6 lv) (hr : zRt X (some .int) Post)  {x1 : Int32} {x2 : Int32} {x3 : Int32} {x5 : Int32} {μ : zM}
    (k : (x2 ≤ 0 → (AW X 300 [some (.ref (X.G.ad 11 0)), some (.int x1), some (.int x2), some (.int x3), none, some (.int x5)] [] μ)) ∧ (¬ x2 ≤ 0 → ((vp_in x2 7) ∧ ((¬ (μ.1 68 0 (ix x2)) = (1 : Int32) → (AW X 300 [some (.ref (X.G.ad 11 0)), some (.int x1), some (.int x2), some (.int x3), none, some (.int x5)] [] μ)) ∧ ((μ.1 68 0 (ix x2)) = (1 : Int32) → ((¬ x5 = 0 → (∀ v5 : Int32, v5 = x2 + (-1 : Int32) → (AW X 268 [some (.ref (X.G.ad 11 0)), some (.int x1), some (.int v5), some (.int x3), none, some (.int (0 : Int32))] [] μ))) ∧ (x5 = 0 → (∀ v6 : Int32, v6 = x2 + (-1 : Int32) → (AW X 268 [some (.ref (X.G.ad 11 0)), some (.int x1), some (.int v6), some (.int x3), none, some (.int (1 : Int32))] [] μ))))))))) :
    AW X 268 [some (.ref (X.G.ad 11 0)), some (.int x1), some (.int x2), some (.int x3), none, some (.int x5)] [] μ := by
  refine aw_iload_n hX dX11_worked_268 rfl ?_
  refine aw_if_le (tgt := 300) hX dX11_worked_269 (by decide) (fun c1 => ?_) (fun c1 => ?_)
  · have k := k.1 c1
    exact k
  · have k := k.2 c1
    refine aw_aload_n hX dX11_worked_272 rfl ?_
    refine aw_getr (o' := 0) hX kf_X11_111 sh_11 (by decide) rfl rfl dX11_worked_273 ?_
    refine aw_iload_n hX dX11_worked_276 rfl ?_
    have s2 := k.1
    have k := k.2
    refine aw_iald' (k := (ix x2)) hX sh_68 (by decide) s2 rfl dX11_worked_277 ?_
    refine aw_iconst hX dX11_worked_278 zk_1 ?_
    refine aw_icmp_ne (tgt := 300) hX dX11_worked_279 (by decide) (fun c3 => ?_) (fun c3 => ?_)
    · have k := k.1 c3
      exact k
    · have k := k.2 c3
      refine aw_iload hX dX11_worked_282 rfl ?_
      refine aw_if_ne (tgt := 291) hX dX11_worked_284 (by decide) (fun c4 => ?_) (fun c4 => ?_)
      · have k := k.1 c4
        refine aw_iconst hX dX11_worked_291 zk_0 ?_
        refine aw_istore (L' := [some (.ref (X.G.ad 11 0)), some (.int x1), some (.int x2), some (.int x3), none, some (.int (0 : Int32))]) hX dX11_worked_292 (Nat.le_of_ble_eq_true rfl) rfl ?_
        obtain ⟨v5, ev5⟩ : ∃ y : Int32, y = x2 + (-1 : Int32) := ⟨_, rfl⟩
        have k := k v5 ev5
        refine aw_iinc (v := v5) (L' := [some (.ref (X.G.ad 11 0)), some (.int x1), some (.int v5), some (.int x3), none, some (.int (0 : Int32))]) hX dX11_worked_294 rfl (by rw [ev5]; rfl) (Nat.le_of_ble_eq_true rfl) rfl ?_
        refine aw_goto (tgt := 268) hX dX11_worked_297 (by decide) ?_
        exact k
      · have k := k.2 c4
        refine aw_iconst hX dX11_worked_287 zk_1 ?_
        refine aw_goto (tgt := 292) hX dX11_worked_288 (by decide) ?_
        refine aw_istore (L' := [some (.ref (X.G.ad 11 0)), some (.int x1), some (.int x2), some (.int x3), none, some (.int (1 : Int32))]) hX dX11_worked_292 (Nat.le_of_ble_eq_true rfl) rfl ?_
        obtain ⟨v6, ev6⟩ : ∃ y : Int32, y = x2 + (-1 : Int32) := ⟨_, rfl⟩
        have k := k v6 ev6
        refine aw_iinc (v := v6) (L' := [some (.ref (X.G.ad 11 0)), some (.int x1), some (.int v6), some (.int x3), none, some (.int (1 : Int32))]) hX dX11_worked_294 rfl (by rw [ev6]; rfl) (Nat.le_of_ble_eq_true rfl) rfl ?_
        refine aw_goto (tgt := 268) hX dX11_worked_297 (by decide) ?_
        exact k

set_option maxRecDepth 100000 in
set_option maxHeartbeats 4000000 in
theorem st_X11_worked_300 {X : zX} {lv : Nat} {Post : Option Value → zM → Prop} (hX : zOk X cX11_worked RX11 6 lv) (hr : zRt X (some .int) Post)  {x1 : Int32} {x2 : Int32} {x3 : Int32} {x5 : Int32} {μ : zM}
    (k : (vp_in x2 7) ∧ ((¬ (μ.1 67 0 (ix x2)) = 0 → (∀ μ3 : zM, μ3 = pI μ 66 0 (ix x2) ((μ.1 66 0 (ix x2)) * x5) → (∀ v4 : Int32, v4 = x3 + (1 : Int32) → (AW X 14 [some (.ref (X.G.ad 11 0)), some (.int x1), some (.int x2), some (.int v4), none, none] [] μ3)))) ∧ ((μ.1 67 0 (ix x2)) = 0 → (∀ μ5 : zM, μ5 = pI μ 66 0 (ix x2) x5 → (∀ v6 : Int32, v6 = x3 + (1 : Int32) → (AW X 14 [some (.ref (X.G.ad 11 0)), some (.int x1), some (.int x2), some (.int v6), none, none] [] μ5)))))) :
    AW X 300 [some (.ref (X.G.ad 11 0)), some (.int x1), some (.int x2), some (.int x3), none, some (.int x5)] [] μ := by
  refine aw_aload_n hX dX11_worked_300 rfl ?_
  refine aw_getr (o' := 0) hX kf_X11_105 sh_11 (by decide) rfl rfl dX11_worked_301 ?_
  refine aw_iload_n hX dX11_worked_304 rfl ?_
  refine aw_aload_n hX dX11_worked_305 rfl ?_
  refine aw_getr (o' := 0) hX kf_X11_108 sh_11 (by decide) rfl rfl dX11_worked_306 ?_
  refine aw_iload_n hX dX11_worked_309 rfl ?_
  have s1 := k.1
  have k := k.2
  refine aw_iald' (k := (ix x2)) hX sh_67 (by decide) s1 rfl dX11_worked_310 ?_
  refine aw_if_ne (tgt := 319) hX dX11_worked_311 (by decide) (fun c2 => ?_) (fun c2 => ?_)
  · have k := k.1 c2
    refine aw_aload_n hX dX11_worked_319 rfl ?_
    refine aw_getr (o' := 0) hX kf_X11_105 sh_11 (by decide) rfl rfl dX11_worked_320 ?_
    refine aw_iload_n hX dX11_worked_323 rfl ?_
    refine aw_iald' (k := (ix x2)) hX sh_66 (by decide) s1 rfl dX11_worked_324 ?_
    refine aw_iload hX dX11_worked_325 rfl ?_
    refine aw_imul hX dX11_worked_327 ?_
    refine aw_iast' (k := (ix x2)) hX sh_66 (by decide) s1 rfl dX11_worked_328 ?_
    refine aw_mem (fun μ3 eμ3 => ?_)
    have k := k μ3 eμ3
    obtain ⟨v4, ev4⟩ : ∃ y : Int32, y = x3 + (1 : Int32) := ⟨_, rfl⟩
    have k := k v4 ev4
    refine aw_iinc (v := v4) (L' := [some (.ref (X.G.ad 11 0)), some (.int x1), some (.int x2), some (.int v4), none, some (.int x5)]) hX dX11_worked_329 rfl (by rw [ev4]; rfl) (Nat.le_of_ble_eq_true rfl) rfl ?_
    refine aw_goto (tgt := 14) hX dX11_worked_332 (by decide) ?_
    exact aw_less (zle_s (zle_s (zle_s (zle_s (zle_o (zle_o zle_n)))))) k
  · have k := k.2 c2
    refine aw_iload hX dX11_worked_314 rfl ?_
    refine aw_goto (tgt := 328) hX dX11_worked_316 (by decide) ?_
    refine aw_iast' (k := (ix x2)) hX sh_66 (by decide) s1 rfl dX11_worked_328 ?_
    refine aw_mem (fun μ5 eμ5 => ?_)
    have k := k μ5 eμ5
    obtain ⟨v6, ev6⟩ : ∃ y : Int32, y = x3 + (1 : Int32) := ⟨_, rfl⟩
    have k := k v6 ev6
    refine aw_iinc (v := v6) (L' := [some (.ref (X.G.ad 11 0)), some (.int x1), some (.int x2), some (.int v6), none, some (.int x5)]) hX dX11_worked_329 rfl (by rw [ev6]; rfl) (Nat.le_of_ble_eq_true rfl) rfl ?_
    refine aw_goto (tgt := 14) hX dX11_worked_332 (by decide) ?_
    exact aw_less (zle_s (zle_s (zle_s (zle_s (zle_o (zle_o zle_n)))))) k

set_option maxRecDepth 100000 in
set_option maxHeartbeats 4000000 in
theorem st_X11_isKept_0 {X : zX} {lv : Nat} {Post : Option Value → zM → Prop} (hX : zOk X cX11_isKept RX11 1 lv) (hr : zRt X (some .boolean) Post)   {μ : zM}
    (k : ((μ.1 11 0 6) = (1 : Int32) → (((lg_cmp (μ.2 11 0 7) (164361 : Int64)) = 0 → (Post (some (.int (1 : Int32))) μ)) ∧ (¬ (lg_cmp (μ.2 11 0 7) (164361 : Int64)) = 0 → (((lg_cmp (μ.2 11 0 7) (3427 : Int64)) = 0 → (Post (some (.int (1 : Int32))) μ)) ∧ (¬ (lg_cmp (μ.2 11 0 7) (3427 : Int64)) = 0 → (((lg_cmp (μ.2 11 0 7) (16922 : Int64)) = 0 → (Post (some (.int (1 : Int32))) μ)) ∧ (¬ (lg_cmp (μ.2 11 0 7) (16922 : Int64)) = 0 → (((lg_cmp (μ.2 11 0 7) (8930039 : Int64)) = 0 → (Post (some (.int (1 : Int32))) μ)) ∧ (¬ (lg_cmp (μ.2 11 0 7) (8930039 : Int64)) = 0 → (((lg_cmp (μ.2 11 0 7) (247172 : Int64)) = 0 → (Post (some (.int (1 : Int32))) μ)) ∧ (¬ (lg_cmp (μ.2 11 0 7) (247172 : Int64)) = 0 → (((lg_cmp (μ.2 11 0 7) (555 : Int64)) = 0 → (Post (some (.int (1 : Int32))) μ)) ∧ (¬ (lg_cmp (μ.2 11 0 7) (555 : Int64)) = 0 → (((lg_cmp (μ.2 11 0 7) (1896526 : Int64)) = 0 → (Post (some (.int (1 : Int32))) μ)) ∧ (¬ (lg_cmp (μ.2 11 0 7) (1896526 : Int64)) = 0 → (((lg_cmp (μ.2 11 0 7) (355568 : Int64)) = 0 → (Post (some (.int (1 : Int32))) μ)) ∧ (¬ (lg_cmp (μ.2 11 0 7) (355568 : Int64)) = 0 → (((lg_cmp (μ.2 11 0 7) (3488 : Int64)) = 0 → (Post (some (.int (1 : Int32))) μ)) ∧ (¬ (lg_cmp (μ.2 11 0 7) (3488 : Int64)) = 0 → (((lg_cmp (μ.2 11 0 7) (419 : Int64)) = 0 → (Post (some (.int (1 : Int32))) μ)) ∧ (¬ (lg_cmp (μ.2 11 0 7) (419 : Int64)) = 0 → (((lg_cmp (μ.2 11 0 7) (40350 : Int64)) = 0 → (Post (some (.int (1 : Int32))) μ)) ∧ (¬ (lg_cmp (μ.2 11 0 7) (40350 : Int64)) = 0 → (((lg_cmp (μ.2 11 0 7) (1613 : Int64)) = 0 → (Post (some (.int (1 : Int32))) μ)) ∧ (¬ (lg_cmp (μ.2 11 0 7) (1613 : Int64)) = 0 → (((lg_cmp (μ.2 11 0 7) (316351 : Int64)) = 0 → (Post (some (.int (1 : Int32))) μ)) ∧ (¬ (lg_cmp (μ.2 11 0 7) (316351 : Int64)) = 0 → (((lg_cmp (μ.2 11 0 7) (249 : Int64)) = 0 → (Post (some (.int (1 : Int32))) μ)) ∧ (¬ (lg_cmp (μ.2 11 0 7) (249 : Int64)) = 0 → (((lg_cmp (μ.2 11 0 7) (8740238 : Int64)) = 0 → (Post (some (.int (1 : Int32))) μ)) ∧ (¬ (lg_cmp (μ.2 11 0 7) (8740238 : Int64)) = 0 → (((lg_cmp (μ.2 11 0 7) (50849 : Int64)) = 0 → (Post (some (.int (1 : Int32))) μ)) ∧ (¬ (lg_cmp (μ.2 11 0 7) (50849 : Int64)) = 0 → (((lg_cmp (μ.2 11 0 7) (76927149 : Int64)) = 0 → (Post (some (.int (1 : Int32))) μ)) ∧ (¬ (lg_cmp (μ.2 11 0 7) (76927149 : Int64)) = 0 → (((lg_cmp (μ.2 11 0 7) (119656022 : Int64)) = 0 → (Post (some (.int (1 : Int32))) μ)) ∧ (¬ (lg_cmp (μ.2 11 0 7) (119656022 : Int64)) = 0 → (((lg_cmp (μ.2 11 0 7) (151648177 : Int64)) = 0 → (Post (some (.int (1 : Int32))) μ)) ∧ (¬ (lg_cmp (μ.2 11 0 7) (151648177 : Int64)) = 0 → (((lg_cmp (μ.2 11 0 7) (3379448 : Int64)) = 0 → (Post (some (.int (1 : Int32))) μ)) ∧ (¬ (lg_cmp (μ.2 11 0 7) (3379448 : Int64)) = 0 → (((lg_cmp (μ.2 11 0 7) (275356804 : Int64)) = 0 → (Post (some (.int (1 : Int32))) μ)) ∧ (¬ (lg_cmp (μ.2 11 0 7) (275356804 : Int64)) = 0 → (((lg_cmp (μ.2 11 0 7) (10793335 : Int64)) = 0 → (Post (some (.int (1 : Int32))) μ)) ∧ (¬ (lg_cmp (μ.2 11 0 7) (10793335 : Int64)) = 0 → (((lg_cmp (μ.2 11 0 7) (94492070 : Int64)) = 0 → (Post (some (.int (1 : Int32))) μ)) ∧ (¬ (lg_cmp (μ.2 11 0 7) (94492070 : Int64)) = 0 → (((lg_cmp (μ.2 11 0 7) (10631 : Int64)) = 0 → (Post (some (.int (1 : Int32))) μ)) ∧ (¬ (lg_cmp (μ.2 11 0 7) (10631 : Int64)) = 0 → (((lg_cmp (μ.2 11 0 7) (1111 : Int64)) = 0 → (Post (some (.int (1 : Int32))) μ)) ∧ (¬ (lg_cmp (μ.2 11 0 7) (1111 : Int64)) = 0 → ((¬ (lg_cmp (μ.2 11 0 7) (423 : Int64)) = 0 → (Post (some (.int (0 : Int32))) μ)) ∧ ((lg_cmp (μ.2 11 0 7) (423 : Int64)) = 0 → (Post (some (.int (1 : Int32))) μ)))))))))))))))))))))))))))))))))))))))))))))))))))))) ∧ (¬ (μ.1 11 0 6) = (1 : Int32) → (Post (some (.int (1 : Int32))) μ))) :
    AW X 0 [some (.ref (X.G.ad 11 0))] [] μ := by
  refine aw_aload_n hX dX11_isKept_0 rfl ?_
  refine aw_geti hX kf_X11_157 sh_11 (by decide) rfl dX11_isKept_1 ?_
  refine aw_iconst hX dX11_isKept_4 zk_1 ?_
  refine aw_icmp_eq (tgt := 10) hX dX11_isKept_5 (by decide) (fun c1 => ?_) (fun c1 => ?_)
  · have k := k.1 c1
    refine aw_aload_n hX dX11_isKept_10 rfl ?_
    refine aw_getl hX kf_X11_150 sh_11 (by decide) rfl dX11_isKept_11 ?_
    refine aw_ldc2 hX kl_X11_221 dX11_isKept_14 ?_
    refine aw_lcmp hX dX11_isKept_17 ?_
    refine aw_if_eq (tgt := 296) hX dX11_isKept_18 (by decide) (fun c2 => ?_) (fun c2 => ?_)
    · have k := k.1 c2
      refine aw_iconst hX dX11_isKept_296 zk_1 ?_
      refine aw_goto (tgt := 301) hX dX11_isKept_297 (by decide) ?_
      exact aw_zret hX hr (by decide) dX11_isKept_301 k
    · have k := k.2 c2
      refine aw_aload_n hX dX11_isKept_21 rfl ?_
      refine aw_getl hX kf_X11_150 sh_11 (by decide) rfl dX11_isKept_22 ?_
      refine aw_ldc2 hX kl_X11_223 dX11_isKept_25 ?_
      refine aw_lcmp hX dX11_isKept_28 ?_
      refine aw_if_eq (tgt := 296) hX dX11_isKept_29 (by decide) (fun c3 => ?_) (fun c3 => ?_)
      · have k := k.1 c3
        refine aw_iconst hX dX11_isKept_296 zk_1 ?_
        refine aw_goto (tgt := 301) hX dX11_isKept_297 (by decide) ?_
        exact aw_zret hX hr (by decide) dX11_isKept_301 k
      · have k := k.2 c3
        refine aw_aload_n hX dX11_isKept_32 rfl ?_
        refine aw_getl hX kf_X11_150 sh_11 (by decide) rfl dX11_isKept_33 ?_
        refine aw_ldc2 hX kl_X11_182 dX11_isKept_36 ?_
        refine aw_lcmp hX dX11_isKept_39 ?_
        refine aw_if_eq (tgt := 296) hX dX11_isKept_40 (by decide) (fun c4 => ?_) (fun c4 => ?_)
        · have k := k.1 c4
          refine aw_iconst hX dX11_isKept_296 zk_1 ?_
          refine aw_goto (tgt := 301) hX dX11_isKept_297 (by decide) ?_
          exact aw_zret hX hr (by decide) dX11_isKept_301 k
        · have k := k.2 c4
          refine aw_aload_n hX dX11_isKept_43 rfl ?_
          refine aw_getl hX kf_X11_150 sh_11 (by decide) rfl dX11_isKept_44 ?_
          refine aw_ldc2 hX kl_X11_225 dX11_isKept_47 ?_
          refine aw_lcmp hX dX11_isKept_50 ?_
          refine aw_if_eq (tgt := 296) hX dX11_isKept_51 (by decide) (fun c5 => ?_) (fun c5 => ?_)
          · have k := k.1 c5
            refine aw_iconst hX dX11_isKept_296 zk_1 ?_
            refine aw_goto (tgt := 301) hX dX11_isKept_297 (by decide) ?_
            exact aw_zret hX hr (by decide) dX11_isKept_301 k
          · have k := k.2 c5
            refine aw_aload_n hX dX11_isKept_54 rfl ?_
            refine aw_getl hX kf_X11_150 sh_11 (by decide) rfl dX11_isKept_55 ?_
            refine aw_ldc2 hX kl_X11_227 dX11_isKept_58 ?_
            refine aw_lcmp hX dX11_isKept_61 ?_
            refine aw_if_eq (tgt := 296) hX dX11_isKept_62 (by decide) (fun c6 => ?_) (fun c6 => ?_)
            · have k := k.1 c6
              refine aw_iconst hX dX11_isKept_296 zk_1 ?_
              refine aw_goto (tgt := 301) hX dX11_isKept_297 (by decide) ?_
              exact aw_zret hX hr (by decide) dX11_isKept_301 k
            · have k := k.2 c6
              refine aw_aload_n hX dX11_isKept_65 rfl ?_
              refine aw_getl hX kf_X11_150 sh_11 (by decide) rfl dX11_isKept_66 ?_
              refine aw_ldc2 hX kl_X11_229 dX11_isKept_69 ?_
              refine aw_lcmp hX dX11_isKept_72 ?_
              refine aw_if_eq (tgt := 296) hX dX11_isKept_73 (by decide) (fun c7 => ?_) (fun c7 => ?_)
              · have k := k.1 c7
                refine aw_iconst hX dX11_isKept_296 zk_1 ?_
                refine aw_goto (tgt := 301) hX dX11_isKept_297 (by decide) ?_
                exact aw_zret hX hr (by decide) dX11_isKept_301 k
              · have k := k.2 c7
                refine aw_aload_n hX dX11_isKept_76 rfl ?_
                refine aw_getl hX kf_X11_150 sh_11 (by decide) rfl dX11_isKept_77 ?_
                refine aw_ldc2 hX kl_X11_231 dX11_isKept_80 ?_
                refine aw_lcmp hX dX11_isKept_83 ?_
                refine aw_if_eq (tgt := 296) hX dX11_isKept_84 (by decide) (fun c8 => ?_) (fun c8 => ?_)
                · have k := k.1 c8
                  refine aw_iconst hX dX11_isKept_296 zk_1 ?_
                  refine aw_goto (tgt := 301) hX dX11_isKept_297 (by decide) ?_
                  exact aw_zret hX hr (by decide) dX11_isKept_301 k
                · have k := k.2 c8
                  refine aw_aload_n hX dX11_isKept_87 rfl ?_
                  refine aw_getl hX kf_X11_150 sh_11 (by decide) rfl dX11_isKept_88 ?_
                  refine aw_ldc2 hX kl_X11_233 dX11_isKept_91 ?_
                  refine aw_lcmp hX dX11_isKept_94 ?_
                  refine aw_if_eq (tgt := 296) hX dX11_isKept_95 (by decide) (fun c9 => ?_) (fun c9 => ?_)
                  · have k := k.1 c9
                    refine aw_iconst hX dX11_isKept_296 zk_1 ?_
                    refine aw_goto (tgt := 301) hX dX11_isKept_297 (by decide) ?_
                    exact aw_zret hX hr (by decide) dX11_isKept_301 k
                  · have k := k.2 c9
                    refine aw_aload_n hX dX11_isKept_98 rfl ?_
                    refine aw_getl hX kf_X11_150 sh_11 (by decide) rfl dX11_isKept_99 ?_
                    refine aw_ldc2 hX kl_X11_235 dX11_isKept_102 ?_
                    refine aw_lcmp hX dX11_isKept_105 ?_
                    refine aw_if_eq (tgt := 296) hX dX11_isKept_106 (by decide) (fun c10 => ?_) (fun c10 => ?_)
                    · have k := k.1 c10
                      refine aw_iconst hX dX11_isKept_296 zk_1 ?_
                      refine aw_goto (tgt := 301) hX dX11_isKept_297 (by decide) ?_
                      exact aw_zret hX hr (by decide) dX11_isKept_301 k
                    · have k := k.2 c10
                      refine aw_aload_n hX dX11_isKept_109 rfl ?_
                      refine aw_getl hX kf_X11_150 sh_11 (by decide) rfl dX11_isKept_110 ?_
                      refine aw_ldc2 hX kl_X11_237 dX11_isKept_113 ?_
                      refine aw_lcmp hX dX11_isKept_116 ?_
                      refine aw_if_eq (tgt := 296) hX dX11_isKept_117 (by decide) (fun c11 => ?_) (fun c11 => ?_)
                      · have k := k.1 c11
                        refine aw_iconst hX dX11_isKept_296 zk_1 ?_
                        refine aw_goto (tgt := 301) hX dX11_isKept_297 (by decide) ?_
                        exact aw_zret hX hr (by decide) dX11_isKept_301 k
                      · have k := k.2 c11
                        refine aw_aload_n hX dX11_isKept_120 rfl ?_
                        refine aw_getl hX kf_X11_150 sh_11 (by decide) rfl dX11_isKept_121 ?_
                        refine aw_ldc2 hX kl_X11_239 dX11_isKept_124 ?_
                        refine aw_lcmp hX dX11_isKept_127 ?_
                        refine aw_if_eq (tgt := 296) hX dX11_isKept_128 (by decide) (fun c12 => ?_) (fun c12 => ?_)
                        · have k := k.1 c12
                          refine aw_iconst hX dX11_isKept_296 zk_1 ?_
                          refine aw_goto (tgt := 301) hX dX11_isKept_297 (by decide) ?_
                          exact aw_zret hX hr (by decide) dX11_isKept_301 k
                        · have k := k.2 c12
                          refine aw_aload_n hX dX11_isKept_131 rfl ?_
                          refine aw_getl hX kf_X11_150 sh_11 (by decide) rfl dX11_isKept_132 ?_
                          refine aw_ldc2 hX kl_X11_241 dX11_isKept_135 ?_
                          refine aw_lcmp hX dX11_isKept_138 ?_
                          refine aw_if_eq (tgt := 296) hX dX11_isKept_139 (by decide) (fun c13 => ?_) (fun c13 => ?_)
                          · have k := k.1 c13
                            refine aw_iconst hX dX11_isKept_296 zk_1 ?_
                            refine aw_goto (tgt := 301) hX dX11_isKept_297 (by decide) ?_
                            exact aw_zret hX hr (by decide) dX11_isKept_301 k
                          · have k := k.2 c13
                            refine aw_aload_n hX dX11_isKept_142 rfl ?_
                            refine aw_getl hX kf_X11_150 sh_11 (by decide) rfl dX11_isKept_143 ?_
                            refine aw_ldc2 hX kl_X11_243 dX11_isKept_146 ?_
                            refine aw_lcmp hX dX11_isKept_149 ?_
                            refine aw_if_eq (tgt := 296) hX dX11_isKept_150 (by decide) (fun c14 => ?_) (fun c14 => ?_)
                            · have k := k.1 c14
                              refine aw_iconst hX dX11_isKept_296 zk_1 ?_
                              refine aw_goto (tgt := 301) hX dX11_isKept_297 (by decide) ?_
                              exact aw_zret hX hr (by decide) dX11_isKept_301 k
                            · have k := k.2 c14
                              refine aw_aload_n hX dX11_isKept_153 rfl ?_
                              refine aw_getl hX kf_X11_150 sh_11 (by decide) rfl dX11_isKept_154 ?_
                              refine aw_ldc2 hX kl_X11_245 dX11_isKept_157 ?_
                              refine aw_lcmp hX dX11_isKept_160 ?_
                              refine aw_if_eq (tgt := 296) hX dX11_isKept_161 (by decide) (fun c15 => ?_) (fun c15 => ?_)
                              · have k := k.1 c15
                                refine aw_iconst hX dX11_isKept_296 zk_1 ?_
                                refine aw_goto (tgt := 301) hX dX11_isKept_297 (by decide) ?_
                                exact aw_zret hX hr (by decide) dX11_isKept_301 k
                              · have k := k.2 c15
                                refine aw_aload_n hX dX11_isKept_164 rfl ?_
                                refine aw_getl hX kf_X11_150 sh_11 (by decide) rfl dX11_isKept_165 ?_
                                refine aw_ldc2 hX kl_X11_247 dX11_isKept_168 ?_
                                refine aw_lcmp hX dX11_isKept_171 ?_
                                refine aw_if_eq (tgt := 296) hX dX11_isKept_172 (by decide) (fun c16 => ?_) (fun c16 => ?_)
                                · have k := k.1 c16
                                  refine aw_iconst hX dX11_isKept_296 zk_1 ?_
                                  refine aw_goto (tgt := 301) hX dX11_isKept_297 (by decide) ?_
                                  exact aw_zret hX hr (by decide) dX11_isKept_301 k
                                · have k := k.2 c16
                                  refine aw_aload_n hX dX11_isKept_175 rfl ?_
                                  refine aw_getl hX kf_X11_150 sh_11 (by decide) rfl dX11_isKept_176 ?_
                                  refine aw_ldc2 hX kl_X11_249 dX11_isKept_179 ?_
                                  refine aw_lcmp hX dX11_isKept_182 ?_
                                  refine aw_if_eq (tgt := 296) hX dX11_isKept_183 (by decide) (fun c17 => ?_) (fun c17 => ?_)
                                  · have k := k.1 c17
                                    refine aw_iconst hX dX11_isKept_296 zk_1 ?_
                                    refine aw_goto (tgt := 301) hX dX11_isKept_297 (by decide) ?_
                                    exact aw_zret hX hr (by decide) dX11_isKept_301 k
                                  · have k := k.2 c17
                                    refine aw_aload_n hX dX11_isKept_186 rfl ?_
                                    refine aw_getl hX kf_X11_150 sh_11 (by decide) rfl dX11_isKept_187 ?_
                                    refine aw_ldc2 hX kl_X11_251 dX11_isKept_190 ?_
                                    refine aw_lcmp hX dX11_isKept_193 ?_
                                    refine aw_if_eq (tgt := 296) hX dX11_isKept_194 (by decide) (fun c18 => ?_) (fun c18 => ?_)
                                    · have k := k.1 c18
                                      refine aw_iconst hX dX11_isKept_296 zk_1 ?_
                                      refine aw_goto (tgt := 301) hX dX11_isKept_297 (by decide) ?_
                                      exact aw_zret hX hr (by decide) dX11_isKept_301 k
                                    · have k := k.2 c18
                                      refine aw_aload_n hX dX11_isKept_197 rfl ?_
                                      refine aw_getl hX kf_X11_150 sh_11 (by decide) rfl dX11_isKept_198 ?_
                                      refine aw_ldc2 hX kl_X11_253 dX11_isKept_201 ?_
                                      refine aw_lcmp hX dX11_isKept_204 ?_
                                      refine aw_if_eq (tgt := 296) hX dX11_isKept_205 (by decide) (fun c19 => ?_) (fun c19 => ?_)
                                      · have k := k.1 c19
                                        refine aw_iconst hX dX11_isKept_296 zk_1 ?_
                                        refine aw_goto (tgt := 301) hX dX11_isKept_297 (by decide) ?_
                                        exact aw_zret hX hr (by decide) dX11_isKept_301 k
                                      · have k := k.2 c19
                                        refine aw_aload_n hX dX11_isKept_208 rfl ?_
                                        refine aw_getl hX kf_X11_150 sh_11 (by decide) rfl dX11_isKept_209 ?_
                                        refine aw_ldc2 hX kl_X11_255 dX11_isKept_212 ?_
                                        refine aw_lcmp hX dX11_isKept_215 ?_
                                        refine aw_if_eq (tgt := 296) hX dX11_isKept_216 (by decide) (fun c20 => ?_) (fun c20 => ?_)
                                        · have k := k.1 c20
                                          refine aw_iconst hX dX11_isKept_296 zk_1 ?_
                                          refine aw_goto (tgt := 301) hX dX11_isKept_297 (by decide) ?_
                                          exact aw_zret hX hr (by decide) dX11_isKept_301 k
                                        · have k := k.2 c20
                                          refine aw_aload_n hX dX11_isKept_219 rfl ?_
                                          refine aw_getl hX kf_X11_150 sh_11 (by decide) rfl dX11_isKept_220 ?_
                                          refine aw_ldc2 hX kl_X11_174 dX11_isKept_223 ?_
                                          refine aw_lcmp hX dX11_isKept_226 ?_
                                          refine aw_if_eq (tgt := 296) hX dX11_isKept_227 (by decide) (fun c21 => ?_) (fun c21 => ?_)
                                          · have k := k.1 c21
                                            refine aw_iconst hX dX11_isKept_296 zk_1 ?_
                                            refine aw_goto (tgt := 301) hX dX11_isKept_297 (by decide) ?_
                                            exact aw_zret hX hr (by decide) dX11_isKept_301 k
                                          · have k := k.2 c21
                                            refine aw_aload_n hX dX11_isKept_230 rfl ?_
                                            refine aw_getl hX kf_X11_150 sh_11 (by decide) rfl dX11_isKept_231 ?_
                                            refine aw_ldc2 hX kl_X11_176 dX11_isKept_234 ?_
                                            refine aw_lcmp hX dX11_isKept_237 ?_
                                            refine aw_if_eq (tgt := 296) hX dX11_isKept_238 (by decide) (fun c22 => ?_) (fun c22 => ?_)
                                            · have k := k.1 c22
                                              refine aw_iconst hX dX11_isKept_296 zk_1 ?_
                                              refine aw_goto (tgt := 301) hX dX11_isKept_297 (by decide) ?_
                                              exact aw_zret hX hr (by decide) dX11_isKept_301 k
                                            · have k := k.2 c22
                                              refine aw_aload_n hX dX11_isKept_241 rfl ?_
                                              refine aw_getl hX kf_X11_150 sh_11 (by decide) rfl dX11_isKept_242 ?_
                                              refine aw_ldc2 hX kl_X11_178 dX11_isKept_245 ?_
                                              refine aw_lcmp hX dX11_isKept_248 ?_
                                              refine aw_if_eq (tgt := 296) hX dX11_isKept_249 (by decide) (fun c23 => ?_) (fun c23 => ?_)
                                              · have k := k.1 c23
                                                refine aw_iconst hX dX11_isKept_296 zk_1 ?_
                                                refine aw_goto (tgt := 301) hX dX11_isKept_297 (by decide) ?_
                                                exact aw_zret hX hr (by decide) dX11_isKept_301 k
                                              · have k := k.2 c23
                                                refine aw_aload_n hX dX11_isKept_252 rfl ?_
                                                refine aw_getl hX kf_X11_150 sh_11 (by decide) rfl dX11_isKept_253 ?_
                                                refine aw_ldc2 hX kl_X11_180 dX11_isKept_256 ?_
                                                refine aw_lcmp hX dX11_isKept_259 ?_
                                                refine aw_if_eq (tgt := 296) hX dX11_isKept_260 (by decide) (fun c24 => ?_) (fun c24 => ?_)
                                                · have k := k.1 c24
                                                  refine aw_iconst hX dX11_isKept_296 zk_1 ?_
                                                  refine aw_goto (tgt := 301) hX dX11_isKept_297 (by decide) ?_
                                                  exact aw_zret hX hr (by decide) dX11_isKept_301 k
                                                · have k := k.2 c24
                                                  refine aw_aload_n hX dX11_isKept_263 rfl ?_
                                                  refine aw_getl hX kf_X11_150 sh_11 (by decide) rfl dX11_isKept_264 ?_
                                                  refine aw_ldc2 hX kl_X11_188 dX11_isKept_267 ?_
                                                  refine aw_lcmp hX dX11_isKept_270 ?_
                                                  refine aw_if_eq (tgt := 296) hX dX11_isKept_271 (by decide) (fun c25 => ?_) (fun c25 => ?_)
                                                  · have k := k.1 c25
                                                    refine aw_iconst hX dX11_isKept_296 zk_1 ?_
                                                    refine aw_goto (tgt := 301) hX dX11_isKept_297 (by decide) ?_
                                                    exact aw_zret hX hr (by decide) dX11_isKept_301 k
                                                  · have k := k.2 c25
                                                    refine aw_aload_n hX dX11_isKept_274 rfl ?_
                                                    refine aw_getl hX kf_X11_150 sh_11 (by decide) rfl dX11_isKept_275 ?_
                                                    refine aw_ldc2 hX kl_X11_208 dX11_isKept_278 ?_
                                                    refine aw_lcmp hX dX11_isKept_281 ?_
                                                    refine aw_if_eq (tgt := 296) hX dX11_isKept_282 (by decide) (fun c26 => ?_) (fun c26 => ?_)
                                                    · have k := k.1 c26
                                                      refine aw_iconst hX dX11_isKept_296 zk_1 ?_
                                                      refine aw_goto (tgt := 301) hX dX11_isKept_297 (by decide) ?_
                                                      exact aw_zret hX hr (by decide) dX11_isKept_301 k
                                                    · have k := k.2 c26
                                                      refine aw_aload_n hX dX11_isKept_285 rfl ?_
                                                      refine aw_getl hX kf_X11_150 sh_11 (by decide) rfl dX11_isKept_286 ?_
                                                      refine aw_ldc2 hX kl_X11_210 dX11_isKept_289 ?_
                                                      refine aw_lcmp hX dX11_isKept_292 ?_
                                                      refine aw_if_ne (tgt := 300) hX dX11_isKept_293 (by decide) (fun c27 => ?_) (fun c27 => ?_)
                                                      · have k := k.1 c27
                                                        refine aw_iconst hX dX11_isKept_300 zk_0 ?_
                                                        exact aw_zret hX hr (by decide) dX11_isKept_301 k
                                                      · have k := k.2 c27
                                                        refine aw_iconst hX dX11_isKept_296 zk_1 ?_
                                                        refine aw_goto (tgt := 301) hX dX11_isKept_297 (by decide) ?_
                                                        exact aw_zret hX hr (by decide) dX11_isKept_301 k
  · have k := k.2 c1
    refine aw_iconst hX dX11_isKept_8 zk_1 ?_
    exact aw_zret hX hr (by decide) dX11_isKept_9 k

set_option maxRecDepth 100000 in
set_option maxHeartbeats 4000000 in
theorem st_X11_personNamed_0 {X : zX} {lv : Nat} {Post : Option Value → zM → Prop} (hX : zOk X cX11_personNamed RX11 2 lv) (hr : zRt X (some .int) Post)   {μ : zM}
    (k : AW X 2 [some (.ref (X.G.ad 11 0)), some (.int (0 : Int32))] [] μ) :
    AW X 0 [some (.ref (X.G.ad 11 0)), none] [] μ := by
  refine aw_iconst hX dX11_personNamed_0 zk_0 ?_
  refine aw_istore_n (L' := [some (.ref (X.G.ad 11 0)), some (.int (0 : Int32))]) hX dX11_personNamed_1 (Nat.le_of_ble_eq_true rfl) rfl ?_
  exact k

set_option maxRecDepth 100000 in
set_option maxHeartbeats 4000000 in
theorem st_X11_personNamed_2 {X : zX} {lv : Nat} {Post : Option Value → zM → Prop} (hX : zOk X cX11_personNamed RX11 2 lv) (hr : zRt X (some .int) Post)  {x1 : Int32} {μ : zM}
    (k : ((μ.1 37 0 1) ≤ x1 → (Post (some (.int (-1 : Int32))) μ)) ∧ (¬ (μ.1 37 0 1) ≤ x1 → ((vp_in x1 6) ∧ ((¬ (lg_cmp (μ.2 41 0 (ix x1)) (μ.2 11 0 7)) = 0 → (∀ v4 : Int32, v4 = x1 + (1 : Int32) → (AW X 2 [some (.ref (X.G.ad 11 0)), some (.int v4)] [] μ))) ∧ ((lg_cmp (μ.2 41 0 (ix x1)) (μ.2 11 0 7)) = 0 → (Post (some (.int x1)) μ)))))) :
    AW X 2 [some (.ref (X.G.ad 11 0)), some (.int x1)] [] μ := by
  refine aw_iload_n hX dX11_personNamed_2 rfl ?_
  refine aw_aload_n hX dX11_personNamed_3 rfl ?_
  refine aw_getr (o' := 0) hX kf_X11_16 sh_11 (by decide) rfl rfl dX11_personNamed_4 ?_
  refine aw_iconst hX dX11_personNamed_7 zk_1 ?_
  refine aw_iald' (k := 1) hX sh_37 (by decide) (zdi (by decide)) (by decide) dX11_personNamed_8 ?_
  refine aw_icmp_ge (tgt := 34) hX dX11_personNamed_9 (by decide) (fun c1 => ?_) (fun c1 => ?_)
  · have k := k.1 c1
    refine aw_iconst hX dX11_personNamed_34 zk_m1 ?_
    exact aw_iret hX hr dX11_personNamed_35 k
  · have k := k.2 c1
    refine aw_aload_n hX dX11_personNamed_12 rfl ?_
    refine aw_getr (o' := 0) hX kf_X11_29 sh_11 (by decide) rfl rfl dX11_personNamed_13 ?_
    refine aw_iload_n hX dX11_personNamed_16 rfl ?_
    have s2 := k.1
    have k := k.2
    refine aw_lald' (k := (ix x1)) hX sh_41 (by decide) s2 rfl dX11_personNamed_17 ?_
    refine aw_aload_n hX dX11_personNamed_18 rfl ?_
    refine aw_getl hX kf_X11_150 sh_11 (by decide) rfl dX11_personNamed_19 ?_
    refine aw_lcmp hX dX11_personNamed_22 ?_
    refine aw_if_ne (tgt := 28) hX dX11_personNamed_23 (by decide) (fun c3 => ?_) (fun c3 => ?_)
    · have k := k.1 c3
      obtain ⟨v4, ev4⟩ : ∃ y : Int32, y = x1 + (1 : Int32) := ⟨_, rfl⟩
      have k := k v4 ev4
      refine aw_iinc (v := v4) (L' := [some (.ref (X.G.ad 11 0)), some (.int v4)]) hX dX11_personNamed_28 rfl (by rw [ev4]; rfl) (Nat.le_of_ble_eq_true rfl) rfl ?_
      refine aw_goto (tgt := 2) hX dX11_personNamed_31 (by decide) ?_
      exact k
    · have k := k.2 c3
      refine aw_iload_n hX dX11_personNamed_26 rfl ?_
      exact aw_iret hX hr dX11_personNamed_27 k

set_option maxRecDepth 100000 in
set_option maxHeartbeats 4000000 in
theorem st_X11_hillNamed_0 {X : zX} {lv : Nat} {Post : Option Value → zM → Prop} (hX : zOk X cX11_hillNamed RX11 2 lv) (hr : zRt X (some .int) Post)   {μ : zM}
    (k : AW X 2 [some (.ref (X.G.ad 11 0)), some (.int (0 : Int32))] [] μ) :
    AW X 0 [some (.ref (X.G.ad 11 0)), none] [] μ := by
  refine aw_iconst hX dX11_hillNamed_0 zk_0 ?_
  refine aw_istore_n (L' := [some (.ref (X.G.ad 11 0)), some (.int (0 : Int32))]) hX dX11_hillNamed_1 (Nat.le_of_ble_eq_true rfl) rfl ?_
  exact k

set_option maxRecDepth 100000 in
set_option maxHeartbeats 4000000 in
theorem st_X11_hillNamed_2 {X : zX} {lv : Nat} {Post : Option Value → zM → Prop} (hX : zOk X cX11_hillNamed RX11 2 lv) (hr : zRt X (some .int) Post)  {x1 : Int32} {μ : zM}
    (k : ((μ.1 36 0 1) ≤ x1 → (Post (some (.int (-1 : Int32))) μ)) ∧ (¬ (μ.1 36 0 1) ≤ x1 → ((vp_in x1 4) ∧ ((¬ (lg_cmp (μ.2 40 0 (ix x1)) (μ.2 11 0 7)) = 0 → (∀ v4 : Int32, v4 = x1 + (1 : Int32) → (AW X 2 [some (.ref (X.G.ad 11 0)), some (.int v4)] [] μ))) ∧ ((lg_cmp (μ.2 40 0 (ix x1)) (μ.2 11 0 7)) = 0 → (Post (some (.int x1)) μ)))))) :
    AW X 2 [some (.ref (X.G.ad 11 0)), some (.int x1)] [] μ := by
  refine aw_iload_n hX dX11_hillNamed_2 rfl ?_
  refine aw_aload_n hX dX11_hillNamed_3 rfl ?_
  refine aw_getr (o' := 0) hX kf_X11_13 sh_11 (by decide) rfl rfl dX11_hillNamed_4 ?_
  refine aw_iconst hX dX11_hillNamed_7 zk_1 ?_
  refine aw_iald' (k := 1) hX sh_36 (by decide) (zdi (by decide)) (by decide) dX11_hillNamed_8 ?_
  refine aw_icmp_ge (tgt := 34) hX dX11_hillNamed_9 (by decide) (fun c1 => ?_) (fun c1 => ?_)
  · have k := k.1 c1
    refine aw_iconst hX dX11_hillNamed_34 zk_m1 ?_
    exact aw_iret hX hr dX11_hillNamed_35 k
  · have k := k.2 c1
    refine aw_aload_n hX dX11_hillNamed_12 rfl ?_
    refine aw_getr (o' := 0) hX kf_X11_25 sh_11 (by decide) rfl rfl dX11_hillNamed_13 ?_
    refine aw_iload_n hX dX11_hillNamed_16 rfl ?_
    have s2 := k.1
    have k := k.2
    refine aw_lald' (k := (ix x1)) hX sh_40 (by decide) s2 rfl dX11_hillNamed_17 ?_
    refine aw_aload_n hX dX11_hillNamed_18 rfl ?_
    refine aw_getl hX kf_X11_150 sh_11 (by decide) rfl dX11_hillNamed_19 ?_
    refine aw_lcmp hX dX11_hillNamed_22 ?_
    refine aw_if_ne (tgt := 28) hX dX11_hillNamed_23 (by decide) (fun c3 => ?_) (fun c3 => ?_)
    · have k := k.1 c3
      obtain ⟨v4, ev4⟩ : ∃ y : Int32, y = x1 + (1 : Int32) := ⟨_, rfl⟩
      have k := k v4 ev4
      refine aw_iinc (v := v4) (L' := [some (.ref (X.G.ad 11 0)), some (.int v4)]) hX dX11_hillNamed_28 rfl (by rw [ev4]; rfl) (Nat.le_of_ble_eq_true rfl) rfl ?_
      refine aw_goto (tgt := 2) hX dX11_hillNamed_31 (by decide) ?_
      exact k
    · have k := k.2 c3
      refine aw_iload_n hX dX11_hillNamed_26 rfl ?_
      exact aw_iret hX hr dX11_hillNamed_27 k

set_option maxRecDepth 100000 in
set_option maxHeartbeats 4000000 in
theorem st_X11_needsNumber_0 {X : zX} {lv : Nat} {Post : Option Value → zM → Prop} (hX : zOk X cX11_needsNumber RX11 3 lv) (hr : zRt X (some .boolean) Post)  {x1 : Int32} {x2 : Int32} {μ : zM}
    (k : ((μ.1 11 0 6) = (2 : Int32) → (zCallI X lv yX11_within cX11_within 3 (some .boolean) [.int (μ.1 11 0 8), .int x1, .int x2] μ (fun (r2 : Int32) μ3 => (¬ r2 = 0 → (∀ μ5 : zM, μ5 = pI μ3 11 0 45 (μ3.1 11 0 8) → (zCallV X lv yX11_nextToken cX11_nextToken 2 none [.ref (X.G.ad 11 0)] μ5 (fun μ7 => Post (some (.int (1 : Int32))) μ7)))) ∧ (r2 = 0 → (zCallI X lv yX11_fails cX11_fails 2 (some .boolean) [.ref (X.G.ad 11 0), .int (4 : Int32)] μ3 (fun (r8 : Int32) μ9 => narrow .boolean (.int r8) = .int r8 ∧ Post (some (.int r8)) μ9)))))) ∧ (¬ (μ.1 11 0 6) = (2 : Int32) → (zCallI X lv yX11_fails cX11_fails 2 (some .boolean) [.ref (X.G.ad 11 0), .int (1 : Int32)] μ (fun (r10 : Int32) μ11 => narrow .boolean (.int r10) = .int r10 ∧ Post (some (.int r10)) μ11)))) :
    AW X 0 [some (.ref (X.G.ad 11 0)), some (.int x1), some (.int x2)] [] μ := by
  refine aw_aload_n hX dX11_needsNumber_0 rfl ?_
  refine aw_geti hX kf_X11_157 sh_11 (by decide) rfl dX11_needsNumber_1 ?_
  refine aw_iconst hX dX11_needsNumber_4 zk_2 ?_
  refine aw_icmp_eq (tgt := 14) hX dX11_needsNumber_5 (by decide) (fun c1 => ?_) (fun c1 => ?_)
  · have k := k.1 c1
    refine aw_aload_n hX dX11_needsNumber_14 rfl ?_
    refine aw_geti hX kf_X11_154 sh_11 (by decide) rfl dX11_needsNumber_15 ?_
    refine aw_iload_n hX dX11_needsNumber_18 rfl ?_
    refine aw_iload_n hX dX11_needsNumber_19 rfl ?_
    refine aw_ivsI (As := [.int (μ.1 11 0 8), .int x1, .int x2]) (rest := []) hX sc_X11_257 rfl rfl (Nat.le_of_ble_eq_true rfl) dX11_needsNumber_20 k (fun r2 μ3 k => ?_)
    refine aw_if_ne (tgt := 32) hX dX11_needsNumber_23 (by decide) (fun c4 => ?_) (fun c4 => ?_)
    · have k := k.1 c4
      refine aw_aload_n hX dX11_needsNumber_32 rfl ?_
      refine aw_aload_n hX dX11_needsNumber_33 rfl ?_
      refine aw_geti hX kf_X11_154 sh_11 (by decide) rfl dX11_needsNumber_34 ?_
      refine aw_puti hX kp_X11_261 sh_11 (by decide) rfl rfl rfl dX11_needsNumber_37 ?_
      refine aw_mem (fun μ5 eμ5 => ?_)
      have k := k μ5 eμ5
      refine aw_aload_n hX dX11_needsNumber_40 rfl ?_
      refine aw_invV (As := []) (rest := []) (κ := 11) (o := 0) (T := TX11) (N := 55) hX vc_X11_205 sh_11 (by decide) rfl rfl rfl (Nat.le_of_ble_eq_true rfl) dX11_needsNumber_41 k (fun μ7 k => ?_)
      refine aw_iconst hX dX11_needsNumber_44 zk_1 ?_
      exact aw_zret hX hr (by decide) dX11_needsNumber_45 k
    · have k := k.2 c4
      refine aw_aload_n hX dX11_needsNumber_26 rfl ?_
      refine aw_iconst hX dX11_needsNumber_27 zk_4 ?_
      refine aw_invI (As := [.int (4 : Int32)]) (rest := []) (κ := 11) (o := 0) (T := TX11) (N := 55) hX vc_X11_198 sh_11 (by decide) rfl rfl rfl (Nat.le_of_ble_eq_true rfl) dX11_needsNumber_28 k (fun r8 μ9 k => ?_)
      exact aw_zret hX hr k.1 dX11_needsNumber_31 k.2
  · have k := k.2 c1
    refine aw_aload_n hX dX11_needsNumber_8 rfl ?_
    refine aw_iconst hX dX11_needsNumber_9 zk_1 ?_
    refine aw_invI (As := [.int (1 : Int32)]) (rest := []) (κ := 11) (o := 0) (T := TX11) (N := 55) hX vc_X11_198 sh_11 (by decide) rfl rfl rfl (Nat.le_of_ble_eq_true rfl) dX11_needsNumber_10 k (fun r10 μ11 k => ?_)
    exact aw_zret hX hr k.1 dX11_needsNumber_13 k.2

set_option maxRecDepth 100000 in
set_option maxHeartbeats 4000000 in
theorem st_X11_needsWord_0 {X : zX} {lv : Nat} {Post : Option Value → zM → Prop} (hX : zOk X cX11_needsWord RX11 3 lv) (hr : zRt X (some .boolean) Post)  {x1 : Int64} {μ : zM}
    (k : zCallI X lv yX11_isWord cX11_isWord 3 (some .boolean) [.ref (X.G.ad 11 0), .long x1] μ (fun (r1 : Int32) μ2 => (¬ r1 = 0 → (zCallV X lv yX11_nextToken cX11_nextToken 2 none [.ref (X.G.ad 11 0)] μ2 (fun μ5 => Post (some (.int (1 : Int32))) μ5))) ∧ (r1 = 0 → (zCallI X lv yX11_fails cX11_fails 2 (some .boolean) [.ref (X.G.ad 11 0), .int (1 : Int32)] μ2 (fun (r6 : Int32) μ7 => narrow .boolean (.int r6) = .int r6 ∧ Post (some (.int r6)) μ7))))) :
    AW X 0 [some (.ref (X.G.ad 11 0)), some (.long x1), none] [] μ := by
  refine aw_aload_n hX dX11_needsWord_0 rfl ?_
  refine aw_lload_n hX dX11_needsWord_1 rfl ?_
  refine aw_invI (As := [.long x1]) (rest := []) (κ := 11) (o := 0) (T := TX11) (N := 55) hX vc_X11_190 sh_11 (by decide) rfl rfl rfl (Nat.le_of_ble_eq_true rfl) dX11_needsWord_2 k (fun r1 μ2 k => ?_)
  refine aw_if_ne (tgt := 14) hX dX11_needsWord_5 (by decide) (fun c3 => ?_) (fun c3 => ?_)
  · have k := k.1 c3
    refine aw_aload_n hX dX11_needsWord_14 rfl ?_
    refine aw_invV (As := []) (rest := []) (κ := 11) (o := 0) (T := TX11) (N := 55) hX vc_X11_205 sh_11 (by decide) rfl rfl rfl (Nat.le_of_ble_eq_true rfl) dX11_needsWord_15 k (fun μ5 k => ?_)
    refine aw_iconst hX dX11_needsWord_18 zk_1 ?_
    exact aw_zret hX hr (by decide) dX11_needsWord_19 k
  · have k := k.2 c3
    refine aw_aload_n hX dX11_needsWord_8 rfl ?_
    refine aw_iconst hX dX11_needsWord_9 zk_1 ?_
    refine aw_invI (As := [.int (1 : Int32)]) (rest := []) (κ := 11) (o := 0) (T := TX11) (N := 55) hX vc_X11_198 sh_11 (by decide) rfl rfl rfl (Nat.le_of_ble_eq_true rfl) dX11_needsWord_10 k (fun r6 μ7 k => ?_)
    exact aw_zret hX hr k.1 dX11_needsWord_13 k.2

set_option maxRecDepth 100000 in
set_option maxHeartbeats 4000000 in
theorem st_X11_ends_0 {X : zX} {lv : Nat} {Post : Option Value → zM → Prop} (hX : zOk X cX11_ends RX11 1 lv) (hr : zRt X (some .boolean) Post)   {μ : zM}
    (k : zCallI X lv yX11_isSign cX11_isSign 2 (some .boolean) [.ref (X.G.ad 11 0), .int (59 : Int32)] μ (fun (r1 : Int32) μ2 => (¬ r1 = 0 → (zCallV X lv yX11_nextToken cX11_nextToken 2 none [.ref (X.G.ad 11 0)] μ2 (fun μ5 => Post (some (.int (1 : Int32))) μ5))) ∧ (r1 = 0 → (zCallI X lv yX11_fails cX11_fails 2 (some .boolean) [.ref (X.G.ad 11 0), .int (1 : Int32)] μ2 (fun (r6 : Int32) μ7 => narrow .boolean (.int r6) = .int r6 ∧ Post (some (.int r6)) μ7))))) :
    AW X 0 [some (.ref (X.G.ad 11 0))] [] μ := by
  refine aw_aload_n hX dX11_ends_0 rfl ?_
  refine aw_bipush hX dX11_ends_1 zb_59 ?_
  refine aw_invI (As := [.int (59 : Int32)]) (rest := []) (κ := 11) (o := 0) (T := TX11) (N := 55) hX vc_X11_194 sh_11 (by decide) rfl rfl rfl (Nat.le_of_ble_eq_true rfl) dX11_ends_3 k (fun r1 μ2 k => ?_)
  refine aw_if_ne (tgt := 15) hX dX11_ends_6 (by decide) (fun c3 => ?_) (fun c3 => ?_)
  · have k := k.1 c3
    refine aw_aload_n hX dX11_ends_15 rfl ?_
    refine aw_invV (As := []) (rest := []) (κ := 11) (o := 0) (T := TX11) (N := 55) hX vc_X11_205 sh_11 (by decide) rfl rfl rfl (Nat.le_of_ble_eq_true rfl) dX11_ends_16 k (fun μ5 k => ?_)
    refine aw_iconst hX dX11_ends_19 zk_1 ?_
    exact aw_zret hX hr (by decide) dX11_ends_20 k
  · have k := k.2 c3
    refine aw_aload_n hX dX11_ends_9 rfl ?_
    refine aw_iconst hX dX11_ends_10 zk_1 ?_
    refine aw_invI (As := [.int (1 : Int32)]) (rest := []) (κ := 11) (o := 0) (T := TX11) (N := 55) hX vc_X11_198 sh_11 (by decide) rfl rfl rfl (Nat.le_of_ble_eq_true rfl) dX11_ends_11 k (fun r6 μ7 k => ?_)
    exact aw_zret hX hr k.1 dX11_ends_14 k.2

set_option maxRecDepth 100000 in
set_option maxHeartbeats 4000000 in
theorem st_X11_isNew_0 {X : zX} {lv : Nat} {Post : Option Value → zM → Prop} (hX : zOk X cX11_isNew RX11 1 lv) (hr : zRt X (some .boolean) Post)   {μ : zM}
    (k : zCallI X lv yX11_isKept cX11_isKept 1 (some .boolean) [.ref (X.G.ad 11 0)] μ (fun (r1 : Int32) μ2 => (r1 = 0 → (zCallI X lv yX11_personNamed cX11_personNamed 2 (some .int) [.ref (X.G.ad 11 0)] μ2 (fun (r4 : Int32) μ5 => (0 ≤ r4 → (zCallI X lv yX11_fails cX11_fails 2 (some .boolean) [.ref (X.G.ad 11 0), .int (3 : Int32)] μ5 (fun (r7 : Int32) μ8 => (r7 = 0 → (Post (some (.int (0 : Int32))) μ8)) ∧ (¬ r7 = 0 → (Post (some (.int (1 : Int32))) μ8))))) ∧ (¬ 0 ≤ r4 → (zCallI X lv yX11_hillNamed cX11_hillNamed 2 (some .int) [.ref (X.G.ad 11 0)] μ5 (fun (r10 : Int32) μ11 => (r10 < 0 → (Post (some (.int (1 : Int32))) μ11)) ∧ (¬ r10 < 0 → (zCallI X lv yX11_fails cX11_fails 2 (some .boolean) [.ref (X.G.ad 11 0), .int (3 : Int32)] μ11 (fun (r13 : Int32) μ14 => (r13 = 0 → (Post (some (.int (0 : Int32))) μ14)) ∧ (¬ r13 = 0 → (Post (some (.int (1 : Int32))) μ14))))))))))) ∧ (¬ r1 = 0 → (zCallI X lv yX11_fails cX11_fails 2 (some .boolean) [.ref (X.G.ad 11 0), .int (1 : Int32)] μ2 (fun (r16 : Int32) μ17 => narrow .boolean (.int r16) = .int r16 ∧ Post (some (.int r16)) μ17))))) :
    AW X 0 [some (.ref (X.G.ad 11 0))] [] μ := by
  refine aw_aload_n hX dX11_isNew_0 rfl ?_
  refine aw_invI (As := []) (rest := []) (κ := 11) (o := 0) (T := TX11) (N := 55) hX vc_X11_264 sh_11 (by decide) rfl rfl rfl (Nat.le_of_ble_eq_true rfl) dX11_isNew_1 k (fun r1 μ2 k => ?_)
  refine aw_if_eq (tgt := 13) hX dX11_isNew_4 (by decide) (fun c3 => ?_) (fun c3 => ?_)
  · have k := k.1 c3
    refine aw_aload_n hX dX11_isNew_13 rfl ?_
    refine aw_invI (As := []) (rest := []) (κ := 11) (o := 0) (T := TX11) (N := 55) hX vc_X11_268 sh_11 (by decide) rfl rfl rfl (Nat.le_of_ble_eq_true rfl) dX11_isNew_14 k (fun r4 μ5 k => ?_)
    refine aw_if_ge (tgt := 27) hX dX11_isNew_17 (by decide) (fun c6 => ?_) (fun c6 => ?_)
    · have k := k.1 c6
      refine aw_aload_n hX dX11_isNew_27 rfl ?_
      refine aw_iconst hX dX11_isNew_28 zk_3 ?_
      refine aw_invI (As := [.int (3 : Int32)]) (rest := []) (κ := 11) (o := 0) (T := TX11) (N := 55) hX vc_X11_198 sh_11 (by decide) rfl rfl rfl (Nat.le_of_ble_eq_true rfl) dX11_isNew_29 k (fun r7 μ8 k => ?_)
      refine aw_if_eq (tgt := 39) hX dX11_isNew_32 (by decide) (fun c9 => ?_) (fun c9 => ?_)
      · have k := k.1 c9
        refine aw_iconst hX dX11_isNew_39 zk_0 ?_
        exact aw_zret hX hr (by decide) dX11_isNew_40 k
      · have k := k.2 c9
        refine aw_iconst hX dX11_isNew_35 zk_1 ?_
        refine aw_goto (tgt := 40) hX dX11_isNew_36 (by decide) ?_
        exact aw_zret hX hr (by decide) dX11_isNew_40 k
    · have k := k.2 c6
      refine aw_aload_n hX dX11_isNew_20 rfl ?_
      refine aw_invI (As := []) (rest := []) (κ := 11) (o := 0) (T := TX11) (N := 55) hX vc_X11_271 sh_11 (by decide) rfl rfl rfl (Nat.le_of_ble_eq_true rfl) dX11_isNew_21 k (fun r10 μ11 k => ?_)
      refine aw_if_lt (tgt := 35) hX dX11_isNew_24 (by decide) (fun c12 => ?_) (fun c12 => ?_)
      · have k := k.1 c12
        refine aw_iconst hX dX11_isNew_35 zk_1 ?_
        refine aw_goto (tgt := 40) hX dX11_isNew_36 (by decide) ?_
        exact aw_zret hX hr (by decide) dX11_isNew_40 k
      · have k := k.2 c12
        refine aw_aload_n hX dX11_isNew_27 rfl ?_
        refine aw_iconst hX dX11_isNew_28 zk_3 ?_
        refine aw_invI (As := [.int (3 : Int32)]) (rest := []) (κ := 11) (o := 0) (T := TX11) (N := 55) hX vc_X11_198 sh_11 (by decide) rfl rfl rfl (Nat.le_of_ble_eq_true rfl) dX11_isNew_29 k (fun r13 μ14 k => ?_)
        refine aw_if_eq (tgt := 39) hX dX11_isNew_32 (by decide) (fun c15 => ?_) (fun c15 => ?_)
        · have k := k.1 c15
          refine aw_iconst hX dX11_isNew_39 zk_0 ?_
          exact aw_zret hX hr (by decide) dX11_isNew_40 k
        · have k := k.2 c15
          refine aw_iconst hX dX11_isNew_35 zk_1 ?_
          refine aw_goto (tgt := 40) hX dX11_isNew_36 (by decide) ?_
          exact aw_zret hX hr (by decide) dX11_isNew_40 k
  · have k := k.2 c3
    refine aw_aload_n hX dX11_isNew_7 rfl ?_
    refine aw_iconst hX dX11_isNew_8 zk_1 ?_
    refine aw_invI (As := [.int (1 : Int32)]) (rest := []) (κ := 11) (o := 0) (T := TX11) (N := 55) hX vc_X11_198 sh_11 (by decide) rfl rfl rfl (Nat.le_of_ble_eq_true rfl) dX11_isNew_9 k (fun r16 μ17 k => ?_)
    exact aw_zret hX hr k.1 dX11_isNew_12 k.2

set_option maxRecDepth 100000 in
set_option maxHeartbeats 4000000 in
theorem st_X11_readsHill_0 {X : zX} {lv : Nat} {Post : Option Value → zM → Prop} (hX : zOk X cX11_readsHill RX11 2 lv) (hr : zRt X (some .boolean) Post)   {μ : zM}
    (k : ∀ v1 : Int32, v1 = (μ.1 36 0 1) → ((¬ v1 = (4 : Int32) → (zCallV X lv yX11_nextToken cX11_nextToken 2 none [.ref (X.G.ad 11 0)] μ (fun μ4 => zCallI X lv yX11_isNew cX11_isNew 1 (some .boolean) [.ref (X.G.ad 11 0)] μ4 (fun (r5 : Int32) μ6 => (¬ r5 = 0 → ((vp_in v1 4) ∧ (∀ μ9 : zM, μ9 = pL μ6 40 0 (ix v1) (μ6.2 11 0 7) → (zCallV X lv yX11_nextToken cX11_nextToken 2 none [.ref (X.G.ad 11 0)] μ9 (fun μ11 => zCallI X lv yX11_needsWord cX11_needsWord 3 (some .boolean) [.ref (X.G.ad 11 0), .long (3427 : Int64)] μ11 (fun (r12 : Int32) μ13 => (r12 = 0 → (Post (some (.int (0 : Int32))) μ13)) ∧ (¬ r12 = 0 → (zCallI X lv yX11_needsNumber cX11_needsNumber 3 (some .boolean) [.ref (X.G.ad 11 0), .int (0 : Int32), .int (8 : Int32)] μ13 (fun (r15 : Int32) μ16 => (¬ r15 = 0 → ((vp_in ((4 : Int32) + v1) 24) ∧ (∀ μ19 : zM, μ19 = pI μ16 42 0 (ix ((4 : Int32) + v1)) (μ16.1 11 0 45) → (zCallI X lv yX11_needsWord cX11_needsWord 3 (some .boolean) [.ref (X.G.ad 11 0), .long (16922 : Int64)] μ19 (fun (r20 : Int32) μ21 => (r20 = 0 → (Post (some (.int (0 : Int32))) μ21)) ∧ (¬ r20 = 0 → (zCallI X lv yX11_needsNumber cX11_needsNumber 3 (some .boolean) [.ref (X.G.ad 11 0), .int (0 : Int32), .int (8 : Int32)] μ21 (fun (r23 : Int32) μ24 => (¬ r23 = 0 → (∀ μ26 : zM, μ26 = pI μ24 43 0 (ix ((4 : Int32) + v1)) (μ24.1 11 0 45) → (∀ μ27 : zM, μ27 = pI μ26 36 0 1 ((μ26.1 36 0 1) + (1 : Int32)) → (zCallI X lv yX11_ends cX11_ends 1 (some .boolean) [.ref (X.G.ad 11 0)] μ27 (fun (r28 : Int32) μ29 => narrow .boolean (.int r28) = .int r28 ∧ Post (some (.int r28)) μ29))))) ∧ (r23 = 0 → (Post (some (.int (0 : Int32))) μ24)))))))))) ∧ (r15 = 0 → (Post (some (.int (0 : Int32))) μ16))))))))))) ∧ (r5 = 0 → (Post (some (.int (0 : Int32))) μ6)))))) ∧ (v1 = (4 : Int32) → (zCallI X lv yX11_fails cX11_fails 2 (some .boolean) [.ref (X.G.ad 11 0), .int (5 : Int32)] μ (fun (r30 : Int32) μ31 => narrow .boolean (.int r30) = .int r30 ∧ Post (some (.int r30)) μ31))))) :
    AW X 0 [some (.ref (X.G.ad 11 0)), none] [] μ := by
  refine aw_aload_n hX dX11_readsHill_0 rfl ?_
  refine aw_getr (o' := 0) hX kf_X11_13 sh_11 (by decide) rfl rfl dX11_readsHill_1 ?_
  refine aw_iconst hX dX11_readsHill_4 zk_1 ?_
  refine aw_iald' (k := 1) hX sh_36 (by decide) (zdi (by decide)) (by decide) dX11_readsHill_5 ?_
  refine aw_topi (fun v1 ev1 => ?_)
  have k := k v1 ev1
  refine aw_istore_n (L' := [some (.ref (X.G.ad 11 0)), some (.int v1)]) hX dX11_readsHill_6 (Nat.le_of_ble_eq_true rfl) rfl ?_
  refine aw_iload_n hX dX11_readsHill_7 rfl ?_
  refine aw_iconst hX dX11_readsHill_8 zk_4 ?_
  refine aw_icmp_ne (tgt := 18) hX dX11_readsHill_9 (by decide) (fun c2 => ?_) (fun c2 => ?_)
  · have k := k.1 c2
    refine aw_aload_n hX dX11_readsHill_18 rfl ?_
    refine aw_invV (As := []) (rest := []) (κ := 11) (o := 0) (T := TX11) (N := 55) hX vc_X11_205 sh_11 (by decide) rfl rfl rfl (Nat.le_of_ble_eq_true rfl) dX11_readsHill_19 k (fun μ4 k => ?_)
    refine aw_aload_n hX dX11_readsHill_22 rfl ?_
    refine aw_invI (As := []) (rest := []) (κ := 11) (o := 0) (T := TX11) (N := 55) hX vc_X11_274 sh_11 (by decide) rfl rfl rfl (Nat.le_of_ble_eq_true rfl) dX11_readsHill_23 k (fun r5 μ6 k => ?_)
    refine aw_if_ne (tgt := 31) hX dX11_readsHill_26 (by decide) (fun c7 => ?_) (fun c7 => ?_)
    · have k := k.1 c7
      refine aw_aload_n hX dX11_readsHill_31 rfl ?_
      refine aw_getr (o' := 0) hX kf_X11_25 sh_11 (by decide) rfl rfl dX11_readsHill_32 ?_
      refine aw_iload_n hX dX11_readsHill_35 rfl ?_
      refine aw_aload_n hX dX11_readsHill_36 rfl ?_
      refine aw_getl hX kf_X11_150 sh_11 (by decide) rfl dX11_readsHill_37 ?_
      have s8 := k.1
      have k := k.2
      refine aw_last' (k := (ix v1)) hX sh_40 (by decide) s8 rfl dX11_readsHill_40 ?_
      refine aw_mem (fun μ9 eμ9 => ?_)
      have k := k μ9 eμ9
      refine aw_aload_n hX dX11_readsHill_41 rfl ?_
      refine aw_invV (As := []) (rest := []) (κ := 11) (o := 0) (T := TX11) (N := 55) hX vc_X11_205 sh_11 (by decide) rfl rfl rfl (Nat.le_of_ble_eq_true rfl) dX11_readsHill_42 k (fun μ11 k => ?_)
      refine aw_aload_n hX dX11_readsHill_45 rfl ?_
      refine aw_ldc2 hX kl_X11_223 dX11_readsHill_46 ?_
      refine aw_invI (As := [.long (3427 : Int64)]) (rest := []) (κ := 11) (o := 0) (T := TX11) (N := 55) hX vc_X11_277 sh_11 (by decide) rfl rfl rfl (Nat.le_of_ble_eq_true rfl) dX11_readsHill_49 k (fun r12 μ13 k => ?_)
      refine aw_if_eq (tgt := 65) hX dX11_readsHill_52 (by decide) (fun c14 => ?_) (fun c14 => ?_)
      · have k := k.1 c14
        refine aw_iconst hX dX11_readsHill_65 zk_0 ?_
        exact aw_zret hX hr (by decide) dX11_readsHill_66 k
      · have k := k.2 c14
        refine aw_aload_n hX dX11_readsHill_55 rfl ?_
        refine aw_iconst hX dX11_readsHill_56 zk_0 ?_
        refine aw_bipush hX dX11_readsHill_57 zb_8 ?_
        refine aw_invI (As := [.int (0 : Int32), .int (8 : Int32)]) (rest := []) (κ := 11) (o := 0) (T := TX11) (N := 55) hX vc_X11_280 sh_11 (by decide) rfl rfl rfl (Nat.le_of_ble_eq_true rfl) dX11_readsHill_59 k (fun r15 μ16 k => ?_)
        refine aw_if_ne (tgt := 67) hX dX11_readsHill_62 (by decide) (fun c17 => ?_) (fun c17 => ?_)
        · have k := k.1 c17
          refine aw_aload_n hX dX11_readsHill_67 rfl ?_
          refine aw_getr (o' := 0) hX kf_X11_32 sh_11 (by decide) rfl rfl dX11_readsHill_68 ?_
          refine aw_iconst hX dX11_readsHill_71 zk_4 ?_
          refine aw_iload_n hX dX11_readsHill_72 rfl ?_
          refine aw_iadd hX dX11_readsHill_73 ?_
          refine aw_aload_n hX dX11_readsHill_74 rfl ?_
          refine aw_geti hX kf_X11_261 sh_11 (by decide) rfl dX11_readsHill_75 ?_
          have s18 := k.1
          have k := k.2
          refine aw_iast' (k := (ix ((4 : Int32) + v1))) hX sh_42 (by decide) s18 rfl dX11_readsHill_78 ?_
          refine aw_mem (fun μ19 eμ19 => ?_)
          have k := k μ19 eμ19
          refine aw_aload_n hX dX11_readsHill_79 rfl ?_
          refine aw_ldc2 hX kl_X11_182 dX11_readsHill_80 ?_
          refine aw_invI (As := [.long (16922 : Int64)]) (rest := []) (κ := 11) (o := 0) (T := TX11) (N := 55) hX vc_X11_277 sh_11 (by decide) rfl rfl rfl (Nat.le_of_ble_eq_true rfl) dX11_readsHill_83 k (fun r20 μ21 k => ?_)
          refine aw_if_eq (tgt := 99) hX dX11_readsHill_86 (by decide) (fun c22 => ?_) (fun c22 => ?_)
          · have k := k.1 c22
            refine aw_iconst hX dX11_readsHill_99 zk_0 ?_
            exact aw_zret hX hr (by decide) dX11_readsHill_100 k
          · have k := k.2 c22
            refine aw_aload_n hX dX11_readsHill_89 rfl ?_
            refine aw_iconst hX dX11_readsHill_90 zk_0 ?_
            refine aw_bipush hX dX11_readsHill_91 zb_8 ?_
            refine aw_invI (As := [.int (0 : Int32), .int (8 : Int32)]) (rest := []) (κ := 11) (o := 0) (T := TX11) (N := 55) hX vc_X11_280 sh_11 (by decide) rfl rfl rfl (Nat.le_of_ble_eq_true rfl) dX11_readsHill_93 k (fun r23 μ24 k => ?_)
            refine aw_if_ne (tgt := 101) hX dX11_readsHill_96 (by decide) (fun c25 => ?_) (fun c25 => ?_)
            · have k := k.1 c25
              refine aw_aload_n hX dX11_readsHill_101 rfl ?_
              refine aw_getr (o' := 0) hX kf_X11_35 sh_11 (by decide) rfl rfl dX11_readsHill_102 ?_
              refine aw_iconst hX dX11_readsHill_105 zk_4 ?_
              refine aw_iload_n hX dX11_readsHill_106 rfl ?_
              refine aw_iadd hX dX11_readsHill_107 ?_
              refine aw_aload_n hX dX11_readsHill_108 rfl ?_
              refine aw_geti hX kf_X11_261 sh_11 (by decide) rfl dX11_readsHill_109 ?_
              refine aw_iast' (k := (ix ((4 : Int32) + v1))) hX sh_43 (by decide) s18 rfl dX11_readsHill_112 ?_
              refine aw_mem (fun μ26 eμ26 => ?_)
              have k := k μ26 eμ26
              refine aw_aload_n hX dX11_readsHill_113 rfl ?_
              refine aw_getr (o' := 0) hX kf_X11_13 sh_11 (by decide) rfl rfl dX11_readsHill_114 ?_
              refine aw_iconst hX dX11_readsHill_117 zk_1 ?_
              refine aw_dup2 hX dX11_readsHill_118 rfl rfl ?_
              refine aw_iald' (k := 1) hX sh_36 (by decide) (zdi (by decide)) (by decide) dX11_readsHill_119 ?_
              refine aw_iconst hX dX11_readsHill_120 zk_1 ?_
              refine aw_iadd hX dX11_readsHill_121 ?_
              refine aw_iast' (k := 1) hX sh_36 (by decide) (zdi (by decide)) (by decide) dX11_readsHill_122 ?_
              refine aw_mem (fun μ27 eμ27 => ?_)
              have k := k μ27 eμ27
              refine aw_aload_n hX dX11_readsHill_123 rfl ?_
              refine aw_invI (As := []) (rest := []) (κ := 11) (o := 0) (T := TX11) (N := 55) hX vc_X11_284 sh_11 (by decide) rfl rfl rfl (Nat.le_of_ble_eq_true rfl) dX11_readsHill_124 k (fun r28 μ29 k => ?_)
              exact aw_zret hX hr k.1 dX11_readsHill_127 k.2
            · have k := k.2 c25
              refine aw_iconst hX dX11_readsHill_99 zk_0 ?_
              exact aw_zret hX hr (by decide) dX11_readsHill_100 k
        · have k := k.2 c17
          refine aw_iconst hX dX11_readsHill_65 zk_0 ?_
          exact aw_zret hX hr (by decide) dX11_readsHill_66 k
    · have k := k.2 c7
      refine aw_iconst hX dX11_readsHill_29 zk_0 ?_
      exact aw_zret hX hr (by decide) dX11_readsHill_30 k
  · have k := k.2 c2
    refine aw_aload_n hX dX11_readsHill_12 rfl ?_
    refine aw_iconst hX dX11_readsHill_13 zk_5 ?_
    refine aw_invI (As := [.int (5 : Int32)]) (rest := []) (κ := 11) (o := 0) (T := TX11) (N := 55) hX vc_X11_198 sh_11 (by decide) rfl rfl rfl (Nat.le_of_ble_eq_true rfl) dX11_readsHill_14 k (fun r30 μ31 k => ?_)
    exact aw_zret hX hr k.1 dX11_readsHill_17 k.2

set_option maxRecDepth 100000 in
set_option maxHeartbeats 4000000 in
theorem st_X11_readsPurse_0 {X : zX} {lv : Nat} {Post : Option Value → zM → Prop} (hX : zOk X cX11_readsPurse RX11 2 lv) (hr : zRt X (some .boolean) Post)   {μ : zM}
    (k : ∀ v1 : Int32, v1 = (μ.1 37 0 1) → ((¬ v1 = (6 : Int32) → (zCallV X lv yX11_nextToken cX11_nextToken 2 none [.ref (X.G.ad 11 0)] μ (fun μ4 => zCallI X lv yX11_isNew cX11_isNew 1 (some .boolean) [.ref (X.G.ad 11 0)] μ4 (fun (r5 : Int32) μ6 => (¬ r5 = 0 → ((vp_in v1 6) ∧ (∀ μ9 : zM, μ9 = pL μ6 41 0 (ix v1) (μ6.2 11 0 7) → (zCallV X lv yX11_nextToken cX11_nextToken 2 none [.ref (X.G.ad 11 0)] μ9 (fun μ11 => zCallI X lv yX11_needsNumber cX11_needsNumber 3 (some .boolean) [.ref (X.G.ad 11 0), .int (0 : Int32), .int (9999 : Int32)] μ11 (fun (r12 : Int32) μ13 => (¬ r12 = 0 → ((vp_in ((6 : Int32) + v1) 36) ∧ (∀ μ16 : zM, μ16 = pI μ13 44 0 (ix ((6 : Int32) + v1)) (μ13.1 11 0 45) → (∀ μ17 : zM, μ17 = pI μ16 37 0 1 ((μ16.1 37 0 1) + (1 : Int32)) → (zCallI X lv yX11_ends cX11_ends 1 (some .boolean) [.ref (X.G.ad 11 0)] μ17 (fun (r18 : Int32) μ19 => narrow .boolean (.int r18) = .int r18 ∧ Post (some (.int r18)) μ19)))))) ∧ (r12 = 0 → (Post (some (.int (0 : Int32))) μ13)))))))) ∧ (r5 = 0 → (Post (some (.int (0 : Int32))) μ6)))))) ∧ (v1 = (6 : Int32) → (zCallI X lv yX11_fails cX11_fails 2 (some .boolean) [.ref (X.G.ad 11 0), .int (5 : Int32)] μ (fun (r20 : Int32) μ21 => narrow .boolean (.int r20) = .int r20 ∧ Post (some (.int r20)) μ21))))) :
    AW X 0 [some (.ref (X.G.ad 11 0)), none] [] μ := by
  refine aw_aload_n hX dX11_readsPurse_0 rfl ?_
  refine aw_getr (o' := 0) hX kf_X11_16 sh_11 (by decide) rfl rfl dX11_readsPurse_1 ?_
  refine aw_iconst hX dX11_readsPurse_4 zk_1 ?_
  refine aw_iald' (k := 1) hX sh_37 (by decide) (zdi (by decide)) (by decide) dX11_readsPurse_5 ?_
  refine aw_topi (fun v1 ev1 => ?_)
  have k := k v1 ev1
  refine aw_istore_n (L' := [some (.ref (X.G.ad 11 0)), some (.int v1)]) hX dX11_readsPurse_6 (Nat.le_of_ble_eq_true rfl) rfl ?_
  refine aw_iload_n hX dX11_readsPurse_7 rfl ?_
  refine aw_bipush hX dX11_readsPurse_8 zb_6 ?_
  refine aw_icmp_ne (tgt := 19) hX dX11_readsPurse_10 (by decide) (fun c2 => ?_) (fun c2 => ?_)
  · have k := k.1 c2
    refine aw_aload_n hX dX11_readsPurse_19 rfl ?_
    refine aw_invV (As := []) (rest := []) (κ := 11) (o := 0) (T := TX11) (N := 55) hX vc_X11_205 sh_11 (by decide) rfl rfl rfl (Nat.le_of_ble_eq_true rfl) dX11_readsPurse_20 k (fun μ4 k => ?_)
    refine aw_aload_n hX dX11_readsPurse_23 rfl ?_
    refine aw_invI (As := []) (rest := []) (κ := 11) (o := 0) (T := TX11) (N := 55) hX vc_X11_274 sh_11 (by decide) rfl rfl rfl (Nat.le_of_ble_eq_true rfl) dX11_readsPurse_24 k (fun r5 μ6 k => ?_)
    refine aw_if_ne (tgt := 32) hX dX11_readsPurse_27 (by decide) (fun c7 => ?_) (fun c7 => ?_)
    · have k := k.1 c7
      refine aw_aload_n hX dX11_readsPurse_32 rfl ?_
      refine aw_getr (o' := 0) hX kf_X11_29 sh_11 (by decide) rfl rfl dX11_readsPurse_33 ?_
      refine aw_iload_n hX dX11_readsPurse_36 rfl ?_
      refine aw_aload_n hX dX11_readsPurse_37 rfl ?_
      refine aw_getl hX kf_X11_150 sh_11 (by decide) rfl dX11_readsPurse_38 ?_
      have s8 := k.1
      have k := k.2
      refine aw_last' (k := (ix v1)) hX sh_41 (by decide) s8 rfl dX11_readsPurse_41 ?_
      refine aw_mem (fun μ9 eμ9 => ?_)
      have k := k μ9 eμ9
      refine aw_aload_n hX dX11_readsPurse_42 rfl ?_
      refine aw_invV (As := []) (rest := []) (κ := 11) (o := 0) (T := TX11) (N := 55) hX vc_X11_205 sh_11 (by decide) rfl rfl rfl (Nat.le_of_ble_eq_true rfl) dX11_readsPurse_43 k (fun μ11 k => ?_)
      refine aw_aload_n hX dX11_readsPurse_46 rfl ?_
      refine aw_iconst hX dX11_readsPurse_47 zk_0 ?_
      refine aw_sipush hX dX11_readsPurse_48 zs_9999 ?_
      refine aw_invI (As := [.int (0 : Int32), .int (9999 : Int32)]) (rest := []) (κ := 11) (o := 0) (T := TX11) (N := 55) hX vc_X11_280 sh_11 (by decide) rfl rfl rfl (Nat.le_of_ble_eq_true rfl) dX11_readsPurse_51 k (fun r12 μ13 k => ?_)
      refine aw_if_ne (tgt := 59) hX dX11_readsPurse_54 (by decide) (fun c14 => ?_) (fun c14 => ?_)
      · have k := k.1 c14
        refine aw_aload_n hX dX11_readsPurse_59 rfl ?_
        refine aw_getr (o' := 0) hX kf_X11_38 sh_11 (by decide) rfl rfl dX11_readsPurse_60 ?_
        refine aw_bipush hX dX11_readsPurse_63 zb_6 ?_
        refine aw_iload_n hX dX11_readsPurse_65 rfl ?_
        refine aw_iadd hX dX11_readsPurse_66 ?_
        refine aw_aload_n hX dX11_readsPurse_67 rfl ?_
        refine aw_geti hX kf_X11_261 sh_11 (by decide) rfl dX11_readsPurse_68 ?_
        have s15 := k.1
        have k := k.2
        refine aw_iast' (k := (ix ((6 : Int32) + v1))) hX sh_44 (by decide) s15 rfl dX11_readsPurse_71 ?_
        refine aw_mem (fun μ16 eμ16 => ?_)
        have k := k μ16 eμ16
        refine aw_aload_n hX dX11_readsPurse_72 rfl ?_
        refine aw_getr (o' := 0) hX kf_X11_16 sh_11 (by decide) rfl rfl dX11_readsPurse_73 ?_
        refine aw_iconst hX dX11_readsPurse_76 zk_1 ?_
        refine aw_dup2 hX dX11_readsPurse_77 rfl rfl ?_
        refine aw_iald' (k := 1) hX sh_37 (by decide) (zdi (by decide)) (by decide) dX11_readsPurse_78 ?_
        refine aw_iconst hX dX11_readsPurse_79 zk_1 ?_
        refine aw_iadd hX dX11_readsPurse_80 ?_
        refine aw_iast' (k := 1) hX sh_37 (by decide) (zdi (by decide)) (by decide) dX11_readsPurse_81 ?_
        refine aw_mem (fun μ17 eμ17 => ?_)
        have k := k μ17 eμ17
        refine aw_aload_n hX dX11_readsPurse_82 rfl ?_
        refine aw_invI (As := []) (rest := []) (κ := 11) (o := 0) (T := TX11) (N := 55) hX vc_X11_284 sh_11 (by decide) rfl rfl rfl (Nat.le_of_ble_eq_true rfl) dX11_readsPurse_83 k (fun r18 μ19 k => ?_)
        exact aw_zret hX hr k.1 dX11_readsPurse_86 k.2
      · have k := k.2 c14
        refine aw_iconst hX dX11_readsPurse_57 zk_0 ?_
        exact aw_zret hX hr (by decide) dX11_readsPurse_58 k
    · have k := k.2 c7
      refine aw_iconst hX dX11_readsPurse_30 zk_0 ?_
      exact aw_zret hX hr (by decide) dX11_readsPurse_31 k
  · have k := k.2 c2
    refine aw_aload_n hX dX11_readsPurse_13 rfl ?_
    refine aw_iconst hX dX11_readsPurse_14 zk_5 ?_
    refine aw_invI (As := [.int (5 : Int32)]) (rest := []) (κ := 11) (o := 0) (T := TX11) (N := 55) hX vc_X11_198 sh_11 (by decide) rfl rfl rfl (Nat.le_of_ble_eq_true rfl) dX11_readsPurse_15 k (fun r20 μ21 k => ?_)
    exact aw_zret hX hr k.1 dX11_readsPurse_18 k.2

set_option maxRecDepth 100000 in
set_option maxHeartbeats 4000000 in
theorem st_X11_needsPerson_0 {X : zX} {lv : Nat} {Post : Option Value → zM → Prop} (hX : zOk X cX11_needsPerson RX11 3 lv) (hr : zRt X (some .boolean) Post)  {x1 : Int32} {x2 : Int32} {μ : zM}
    (k : zCallI X lv yX11_isKept cX11_isKept 1 (some .boolean) [.ref (X.G.ad 11 0)] μ (fun (r1 : Int32) μ2 => (r1 = 0 → (zCallI X lv yX11_personNamed cX11_personNamed 2 (some .int) [.ref (X.G.ad 11 0)] μ2 (fun (r4 : Int32) μ5 => ∀ μ6 : zM, μ6 = pI μ5 11 0 45 r4 → ((0 ≤ (μ6.1 11 0 45) → (((μ6.1 11 0 45) = x1 → (zCallI X lv yX11_fails cX11_fails 2 (some .boolean) [.ref (X.G.ad 11 0), .int (3 : Int32)] μ6 (fun (r9 : Int32) μ10 => narrow .boolean (.int r9) = .int r9 ∧ Post (some (.int r9)) μ10))) ∧ (¬ (μ6.1 11 0 45) = x1 → ((¬ (μ6.1 11 0 45) = x2 → (zCallV X lv yX11_nextToken cX11_nextToken 2 none [.ref (X.G.ad 11 0)] μ6 (fun μ13 => Post (some (.int (1 : Int32))) μ13))) ∧ ((μ6.1 11 0 45) = x2 → (zCallI X lv yX11_fails cX11_fails 2 (some .boolean) [.ref (X.G.ad 11 0), .int (3 : Int32)] μ6 (fun (r14 : Int32) μ15 => narrow .boolean (.int r14) = .int r14 ∧ Post (some (.int r14)) μ15))))))) ∧ (¬ 0 ≤ (μ6.1 11 0 45) → (zCallI X lv yX11_fails cX11_fails 2 (some .boolean) [.ref (X.G.ad 11 0), .int (2 : Int32)] μ6 (fun (r16 : Int32) μ17 => narrow .boolean (.int r16) = .int r16 ∧ Post (some (.int r16)) μ17))))))) ∧ (¬ r1 = 0 → (zCallI X lv yX11_fails cX11_fails 2 (some .boolean) [.ref (X.G.ad 11 0), .int (1 : Int32)] μ2 (fun (r18 : Int32) μ19 => narrow .boolean (.int r18) = .int r18 ∧ Post (some (.int r18)) μ19))))) :
    AW X 0 [some (.ref (X.G.ad 11 0)), some (.int x1), some (.int x2)] [] μ := by
  refine aw_aload_n hX dX11_needsPerson_0 rfl ?_
  refine aw_invI (As := []) (rest := []) (κ := 11) (o := 0) (T := TX11) (N := 55) hX vc_X11_264 sh_11 (by decide) rfl rfl rfl (Nat.le_of_ble_eq_true rfl) dX11_needsPerson_1 k (fun r1 μ2 k => ?_)
  refine aw_if_eq (tgt := 13) hX dX11_needsPerson_4 (by decide) (fun c3 => ?_) (fun c3 => ?_)
  · have k := k.1 c3
    refine aw_aload_n hX dX11_needsPerson_13 rfl ?_
    refine aw_aload_n hX dX11_needsPerson_14 rfl ?_
    refine aw_invI (As := []) (rest := [.ref (X.G.ad 11 0)]) (κ := 11) (o := 0) (T := TX11) (N := 55) hX vc_X11_268 sh_11 (by decide) rfl rfl rfl (Nat.le_of_ble_eq_true rfl) dX11_needsPerson_15 k (fun r4 μ5 k => ?_)
    refine aw_puti hX kp_X11_261 sh_11 (by decide) rfl rfl rfl dX11_needsPerson_18 ?_
    refine aw_mem (fun μ6 eμ6 => ?_)
    have k := k μ6 eμ6
    refine aw_aload_n hX dX11_needsPerson_21 rfl ?_
    refine aw_geti hX kf_X11_261 sh_11 (by decide) rfl dX11_needsPerson_22 ?_
    refine aw_if_ge (tgt := 34) hX dX11_needsPerson_25 (by decide) (fun c7 => ?_) (fun c7 => ?_)
    · have k := k.1 c7
      refine aw_aload_n hX dX11_needsPerson_34 rfl ?_
      refine aw_geti hX kf_X11_261 sh_11 (by decide) rfl dX11_needsPerson_35 ?_
      refine aw_iload_n hX dX11_needsPerson_38 rfl ?_
      refine aw_icmp_eq (tgt := 50) hX dX11_needsPerson_39 (by decide) (fun c8 => ?_) (fun c8 => ?_)
      · have k := k.1 c8
        refine aw_aload_n hX dX11_needsPerson_50 rfl ?_
        refine aw_iconst hX dX11_needsPerson_51 zk_3 ?_
        refine aw_invI (As := [.int (3 : Int32)]) (rest := []) (κ := 11) (o := 0) (T := TX11) (N := 55) hX vc_X11_198 sh_11 (by decide) rfl rfl rfl (Nat.le_of_ble_eq_true rfl) dX11_needsPerson_52 k (fun r9 μ10 k => ?_)
        exact aw_zret hX hr k.1 dX11_needsPerson_55 k.2
      · have k := k.2 c8
        refine aw_aload_n hX dX11_needsPerson_42 rfl ?_
        refine aw_geti hX kf_X11_261 sh_11 (by decide) rfl dX11_needsPerson_43 ?_
        refine aw_iload_n hX dX11_needsPerson_46 rfl ?_
        refine aw_icmp_ne (tgt := 56) hX dX11_needsPerson_47 (by decide) (fun c11 => ?_) (fun c11 => ?_)
        · have k := k.1 c11
          refine aw_aload_n hX dX11_needsPerson_56 rfl ?_
          refine aw_invV (As := []) (rest := []) (κ := 11) (o := 0) (T := TX11) (N := 55) hX vc_X11_205 sh_11 (by decide) rfl rfl rfl (Nat.le_of_ble_eq_true rfl) dX11_needsPerson_57 k (fun μ13 k => ?_)
          refine aw_iconst hX dX11_needsPerson_60 zk_1 ?_
          exact aw_zret hX hr (by decide) dX11_needsPerson_61 k
        · have k := k.2 c11
          refine aw_aload_n hX dX11_needsPerson_50 rfl ?_
          refine aw_iconst hX dX11_needsPerson_51 zk_3 ?_
          refine aw_invI (As := [.int (3 : Int32)]) (rest := []) (κ := 11) (o := 0) (T := TX11) (N := 55) hX vc_X11_198 sh_11 (by decide) rfl rfl rfl (Nat.le_of_ble_eq_true rfl) dX11_needsPerson_52 k (fun r14 μ15 k => ?_)
          exact aw_zret hX hr k.1 dX11_needsPerson_55 k.2
    · have k := k.2 c7
      refine aw_aload_n hX dX11_needsPerson_28 rfl ?_
      refine aw_iconst hX dX11_needsPerson_29 zk_2 ?_
      refine aw_invI (As := [.int (2 : Int32)]) (rest := []) (κ := 11) (o := 0) (T := TX11) (N := 55) hX vc_X11_198 sh_11 (by decide) rfl rfl rfl (Nat.le_of_ble_eq_true rfl) dX11_needsPerson_30 k (fun r16 μ17 k => ?_)
      exact aw_zret hX hr k.1 dX11_needsPerson_33 k.2
  · have k := k.2 c3
    refine aw_aload_n hX dX11_needsPerson_7 rfl ?_
    refine aw_iconst hX dX11_needsPerson_8 zk_1 ?_
    refine aw_invI (As := [.int (1 : Int32)]) (rest := []) (κ := 11) (o := 0) (T := TX11) (N := 55) hX vc_X11_198 sh_11 (by decide) rfl rfl rfl (Nat.le_of_ble_eq_true rfl) dX11_needsPerson_9 k (fun r18 μ19 k => ?_)
    exact aw_zret hX hr k.1 dX11_needsPerson_12 k.2

set_option maxRecDepth 100000 in
set_option maxHeartbeats 4000000 in
theorem st_X11_kindAt_0 {X : zX} {lv : Nat} {Post : Option Value → zM → Prop} (hX : zOk X cX11_kindAt RX11 1 lv) (hr : zRt X (some .int) Post)   {μ : zM}
    (k : zCallI X lv yX11_isWord cX11_isWord 3 (some .boolean) [.ref (X.G.ad 11 0), .long (8740238 : Int64)] μ (fun (r1 : Int32) μ2 => (r1 = 0 → (zCallI X lv yX11_isWord cX11_isWord 3 (some .boolean) [.ref (X.G.ad 11 0), .long (3427 : Int64)] μ2 (fun (r4 : Int32) μ5 => (r4 = 0 → (zCallI X lv yX11_isWord cX11_isWord 3 (some .boolean) [.ref (X.G.ad 11 0), .long (50849 : Int64)] μ5 (fun (r7 : Int32) μ8 => (r7 = 0 → (zCallI X lv yX11_isWord cX11_isWord 3 (some .boolean) [.ref (X.G.ad 11 0), .long (76927149 : Int64)] μ8 (fun (r10 : Int32) μ11 => (r10 = 0 → (zCallI X lv yX11_isWord cX11_isWord 3 (some .boolean) [.ref (X.G.ad 11 0), .long (119656022 : Int64)] μ11 (fun (r13 : Int32) μ14 => (r13 = 0 → (zCallI X lv yX11_isWord cX11_isWord 3 (some .boolean) [.ref (X.G.ad 11 0), .long (151648177 : Int64)] μ14 (fun (r16 : Int32) μ17 => (r16 = 0 → (Post (some (.int (-1 : Int32))) μ17)) ∧ (¬ r16 = 0 → (Post (some (.int (5 : Int32))) μ17))))) ∧ (¬ r13 = 0 → (Post (some (.int (4 : Int32))) μ14))))) ∧ (¬ r10 = 0 → (Post (some (.int (3 : Int32))) μ11))))) ∧ (¬ r7 = 0 → (Post (some (.int (2 : Int32))) μ8))))) ∧ (¬ r4 = 0 → (Post (some (.int (1 : Int32))) μ5))))) ∧ (¬ r1 = 0 → (Post (some (.int (0 : Int32))) μ2)))) :
    AW X 0 [some (.ref (X.G.ad 11 0))] [] μ := by
  refine aw_aload_n hX dX11_kindAt_0 rfl ?_
  refine aw_ldc2 hX kl_X11_247 dX11_kindAt_1 ?_
  refine aw_invI (As := [.long (8740238 : Int64)]) (rest := []) (κ := 11) (o := 0) (T := TX11) (N := 55) hX vc_X11_190 sh_11 (by decide) rfl rfl rfl (Nat.le_of_ble_eq_true rfl) dX11_kindAt_4 k (fun r1 μ2 k => ?_)
  refine aw_if_eq (tgt := 14) hX dX11_kindAt_7 (by decide) (fun c3 => ?_) (fun c3 => ?_)
  · have k := k.1 c3
    refine aw_aload_n hX dX11_kindAt_14 rfl ?_
    refine aw_ldc2 hX kl_X11_223 dX11_kindAt_15 ?_
    refine aw_invI (As := [.long (3427 : Int64)]) (rest := []) (κ := 11) (o := 0) (T := TX11) (N := 55) hX vc_X11_190 sh_11 (by decide) rfl rfl rfl (Nat.le_of_ble_eq_true rfl) dX11_kindAt_18 k (fun r4 μ5 k => ?_)
    refine aw_if_eq (tgt := 28) hX dX11_kindAt_21 (by decide) (fun c6 => ?_) (fun c6 => ?_)
    · have k := k.1 c6
      refine aw_aload_n hX dX11_kindAt_28 rfl ?_
      refine aw_ldc2 hX kl_X11_249 dX11_kindAt_29 ?_
      refine aw_invI (As := [.long (50849 : Int64)]) (rest := []) (κ := 11) (o := 0) (T := TX11) (N := 55) hX vc_X11_190 sh_11 (by decide) rfl rfl rfl (Nat.le_of_ble_eq_true rfl) dX11_kindAt_32 k (fun r7 μ8 k => ?_)
      refine aw_if_eq (tgt := 42) hX dX11_kindAt_35 (by decide) (fun c9 => ?_) (fun c9 => ?_)
      · have k := k.1 c9
        refine aw_aload_n hX dX11_kindAt_42 rfl ?_
        refine aw_ldc2 hX kl_X11_251 dX11_kindAt_43 ?_
        refine aw_invI (As := [.long (76927149 : Int64)]) (rest := []) (κ := 11) (o := 0) (T := TX11) (N := 55) hX vc_X11_190 sh_11 (by decide) rfl rfl rfl (Nat.le_of_ble_eq_true rfl) dX11_kindAt_46 k (fun r10 μ11 k => ?_)
        refine aw_if_eq (tgt := 56) hX dX11_kindAt_49 (by decide) (fun c12 => ?_) (fun c12 => ?_)
        · have k := k.1 c12
          refine aw_aload_n hX dX11_kindAt_56 rfl ?_
          refine aw_ldc2 hX kl_X11_253 dX11_kindAt_57 ?_
          refine aw_invI (As := [.long (119656022 : Int64)]) (rest := []) (κ := 11) (o := 0) (T := TX11) (N := 55) hX vc_X11_190 sh_11 (by decide) rfl rfl rfl (Nat.le_of_ble_eq_true rfl) dX11_kindAt_60 k (fun r13 μ14 k => ?_)
          refine aw_if_eq (tgt := 70) hX dX11_kindAt_63 (by decide) (fun c15 => ?_) (fun c15 => ?_)
          · have k := k.1 c15
            refine aw_aload_n hX dX11_kindAt_70 rfl ?_
            refine aw_ldc2 hX kl_X11_255 dX11_kindAt_71 ?_
            refine aw_invI (As := [.long (151648177 : Int64)]) (rest := []) (κ := 11) (o := 0) (T := TX11) (N := 55) hX vc_X11_190 sh_11 (by decide) rfl rfl rfl (Nat.le_of_ble_eq_true rfl) dX11_kindAt_74 k (fun r16 μ17 k => ?_)
            refine aw_if_eq (tgt := 84) hX dX11_kindAt_77 (by decide) (fun c18 => ?_) (fun c18 => ?_)
            · have k := k.1 c18
              refine aw_iconst hX dX11_kindAt_84 zk_m1 ?_
              exact aw_iret hX hr dX11_kindAt_85 k
            · have k := k.2 c18
              refine aw_iconst hX dX11_kindAt_80 zk_5 ?_
              refine aw_goto (tgt := 85) hX dX11_kindAt_81 (by decide) ?_
              exact aw_iret hX hr dX11_kindAt_85 k
          · have k := k.2 c15
            refine aw_iconst hX dX11_kindAt_66 zk_4 ?_
            refine aw_goto (tgt := 85) hX dX11_kindAt_67 (by decide) ?_
            exact aw_iret hX hr dX11_kindAt_85 k
        · have k := k.2 c12
          refine aw_iconst hX dX11_kindAt_52 zk_3 ?_
          refine aw_goto (tgt := 85) hX dX11_kindAt_53 (by decide) ?_
          exact aw_iret hX hr dX11_kindAt_85 k
      · have k := k.2 c9
        refine aw_iconst hX dX11_kindAt_38 zk_2 ?_
        refine aw_goto (tgt := 85) hX dX11_kindAt_39 (by decide) ?_
        exact aw_iret hX hr dX11_kindAt_85 k
    · have k := k.2 c6
      refine aw_iconst hX dX11_kindAt_24 zk_1 ?_
      refine aw_goto (tgt := 85) hX dX11_kindAt_25 (by decide) ?_
      exact aw_iret hX hr dX11_kindAt_85 k
  · have k := k.2 c3
    refine aw_iconst hX dX11_kindAt_10 zk_0 ?_
    refine aw_goto (tgt := 85) hX dX11_kindAt_11 (by decide) ?_
    exact aw_iret hX hr dX11_kindAt_85 k

set_option maxRecDepth 100000 in
set_option maxHeartbeats 4000000 in
theorem st_X11_readsLoan_0 {X : zX} {lv : Nat} {Post : Option Value → zM → Prop} (hX : zOk X cX11_readsLoan RX11 2 lv) (hr : zRt X (some .boolean) Post)   {μ : zM}
    (k : (¬ (μ.1 38 0 1) = (10 : Int32) → (∀ v2 : Int32, v2 = ((10 : Int32) + (μ.1 38 0 1)) → (zCallV X lv yX11_nextToken cX11_nextToken 2 none [.ref (X.G.ad 11 0)] μ (fun μ4 => zCallI X lv yX11_needsPerson cX11_needsPerson 3 (some .boolean) [.ref (X.G.ad 11 0), .int (-1 : Int32), .int (-1 : Int32)] μ4 (fun (r5 : Int32) μ6 => (¬ r5 = 0 → ((vp_in v2 60) ∧ (∀ μ9 : zM, μ9 = pI μ6 45 0 (ix v2) (μ6.1 11 0 45) → (zCallI X lv yX11_needsWord cX11_needsWord 3 (some .boolean) [.ref (X.G.ad 11 0), .long (555 : Int64)] μ9 (fun (r10 : Int32) μ11 => (r10 = 0 → (Post (some (.int (0 : Int32))) μ11)) ∧ (¬ r10 = 0 → (zCallI X lv yX11_needsPerson cX11_needsPerson 3 (some .boolean) [.ref (X.G.ad 11 0), .int (μ11.1 45 0 (ix v2)), .int (-1 : Int32)] μ11 (fun (r13 : Int32) μ14 => (¬ r13 = 0 → (∀ μ16 : zM, μ16 = pI μ14 46 0 (ix v2) (μ14.1 11 0 45) → (zCallI X lv yX11_needsWord cX11_needsWord 3 (some .boolean) [.ref (X.G.ad 11 0), .long (1896526 : Int64)] μ16 (fun (r17 : Int32) μ18 => (r17 = 0 → (Post (some (.int (0 : Int32))) μ18)) ∧ (¬ r17 = 0 → (zCallI X lv yX11_needsNumber cX11_needsNumber 3 (some .boolean) [.ref (X.G.ad 11 0), .int (1 : Int32), .int (999 : Int32)] μ18 (fun (r20 : Int32) μ21 => (¬ r20 = 0 → (∀ μ23 : zM, μ23 = pI μ21 47 0 (ix v2) (μ21.1 11 0 45) → (zCallI X lv yX11_needsWord cX11_needsWord 3 (some .boolean) [.ref (X.G.ad 11 0), .long (355568 : Int64)] μ23 (fun (r24 : Int32) μ25 => (r24 = 0 → (Post (some (.int (0 : Int32))) μ25)) ∧ (¬ r24 = 0 → (zCallI X lv yX11_needsNumber cX11_needsNumber 3 (some .boolean) [.ref (X.G.ad 11 0), .int (0 : Int32), .int (99 : Int32)] μ25 (fun (r27 : Int32) μ28 => (¬ r27 = 0 → (∀ μ30 : zM, μ30 = pI μ28 48 0 (ix v2) (μ28.1 11 0 45) → (zCallI X lv yX11_needsWord cX11_needsWord 3 (some .boolean) [.ref (X.G.ad 11 0), .long (3488 : Int64)] μ30 (fun (r31 : Int32) μ32 => (r31 = 0 → (Post (some (.int (0 : Int32))) μ32)) ∧ (¬ r31 = 0 → (zCallI X lv yX11_needsNumber cX11_needsNumber 3 (some .boolean) [.ref (X.G.ad 11 0), .int (1 : Int32), .int (9 : Int32)] μ32 (fun (r34 : Int32) μ35 => (¬ r34 = 0 → (∀ μ37 : zM, μ37 = pI μ35 49 0 (ix v2) (μ35.1 11 0 45) → (zCallI X lv yX11_needsWord cX11_needsWord 3 (some .boolean) [.ref (X.G.ad 11 0), .long (419 : Int64)] μ37 (fun (r38 : Int32) μ39 => (¬ r38 = 0 → (zCallI X lv yX11_isKept cX11_isKept 1 (some .boolean) [.ref (X.G.ad 11 0)] μ39 (fun (r41 : Int32) μ42 => (r41 = 0 → (zCallI X lv yX11_hillNamed cX11_hillNamed 2 (some .int) [.ref (X.G.ad 11 0)] μ42 (fun (r44 : Int32) μ45 => ∀ μ46 : zM, μ46 = pI μ45 50 0 (ix v2) r44 → ((0 ≤ (μ46.1 50 0 (ix v2)) → (zCallV X lv yX11_nextToken cX11_nextToken 2 none [.ref (X.G.ad 11 0)] μ46 (fun μ49 => zCallI X lv yX11_kindAt cX11_kindAt 1 (some .int) [.ref (X.G.ad 11 0)] μ49 (fun (r50 : Int32) μ51 => ∀ μ52 : zM, μ52 = pI μ51 51 0 (ix v2) r50 → ((0 ≤ (μ52.1 51 0 (ix v2)) → (zCallV X lv yX11_nextToken cX11_nextToken 2 none [.ref (X.G.ad 11 0)] μ52 (fun μ55 => ∀ μ56 : zM, μ56 = pI μ55 52 0 (ix v2) (-1 : Int32) → (zCallI X lv yX11_isWord cX11_isWord 3 (some .boolean) [.ref (X.G.ad 11 0), .long (40350 : Int64)] μ56 (fun (r57 : Int32) μ58 => (r57 = 0 → (∀ μ60 : zM, μ60 = pI μ58 38 0 1 ((μ58.1 38 0 1) + (1 : Int32)) → (zCallI X lv yX11_ends cX11_ends 1 (some .boolean) [.ref (X.G.ad 11 0)] μ60 (fun (r61 : Int32) μ62 => narrow .boolean (.int r61) = .int r61 ∧ Post (some (.int r61)) μ62)))) ∧ (¬ r57 = 0 → (zCallV X lv yX11_nextToken cX11_nextToken 2 none [.ref (X.G.ad 11 0)] μ58 (fun μ64 => zCallI X lv yX11_needsPerson cX11_needsPerson 3 (some .boolean) [.ref (X.G.ad 11 0), .int (μ64.1 45 0 (ix v2)), .int (μ64.1 46 0 (ix v2))] μ64 (fun (r65 : Int32) μ66 => (¬ r65 = 0 → (∀ μ68 : zM, μ68 = pI μ66 52 0 (ix v2) (μ66.1 11 0 45) → (∀ μ69 : zM, μ69 = pI μ68 38 0 1 ((μ68.1 38 0 1) + (1 : Int32)) → (zCallI X lv yX11_ends cX11_ends 1 (some .boolean) [.ref (X.G.ad 11 0)] μ69 (fun (r70 : Int32) μ71 => narrow .boolean (.int r70) = .int r70 ∧ Post (some (.int r70)) μ71))))) ∧ (r65 = 0 → (Post (some (.int (0 : Int32))) μ66))))))))))) ∧ (¬ 0 ≤ (μ52.1 51 0 (ix v2)) → (zCallI X lv yX11_fails cX11_fails 2 (some .boolean) [.ref (X.G.ad 11 0), .int (1 : Int32)] μ52 (fun (r72 : Int32) μ73 => narrow .boolean (.int r72) = .int r72 ∧ Post (some (.int r72)) μ73)))))))) ∧ (¬ 0 ≤ (μ46.1 50 0 (ix v2)) → (zCallI X lv yX11_fails cX11_fails 2 (some .boolean) [.ref (X.G.ad 11 0), .int (2 : Int32)] μ46 (fun (r74 : Int32) μ75 => narrow .boolean (.int r74) = .int r74 ∧ Post (some (.int r74)) μ75))))))) ∧ (¬ r41 = 0 → (zCallI X lv yX11_fails cX11_fails 2 (some .boolean) [.ref (X.G.ad 11 0), .int (1 : Int32)] μ42 (fun (r76 : Int32) μ77 => narrow .boolean (.int r76) = .int r76 ∧ Post (some (.int r76)) μ77)))))) ∧ (r38 = 0 → (Post (some (.int (0 : Int32))) μ39)))))) ∧ (r34 = 0 → (Post (some (.int (0 : Int32))) μ35))))))))) ∧ (r27 = 0 → (Post (some (.int (0 : Int32))) μ28))))))))) ∧ (r20 = 0 → (Post (some (.int (0 : Int32))) μ21))))))))) ∧ (r13 = 0 → (Post (some (.int (0 : Int32))) μ14)))))))))) ∧ (r5 = 0 → (Post (some (.int (0 : Int32))) μ6))))))) ∧ ((μ.1 38 0 1) = (10 : Int32) → (zCallI X lv yX11_fails cX11_fails 2 (some .boolean) [.ref (X.G.ad 11 0), .int (5 : Int32)] μ (fun (r78 : Int32) μ79 => narrow .boolean (.int r78) = .int r78 ∧ Post (some (.int r78)) μ79)))) :
    AW X 0 [some (.ref (X.G.ad 11 0)), none] [] μ := by
  refine aw_aload_n hX dX11_readsLoan_0 rfl ?_
  refine aw_getr (o' := 0) hX kf_X11_19 sh_11 (by decide) rfl rfl dX11_readsLoan_1 ?_
  refine aw_iconst hX dX11_readsLoan_4 zk_1 ?_
  refine aw_iald' (k := 1) hX sh_38 (by decide) (zdi (by decide)) (by decide) dX11_readsLoan_5 ?_
  refine aw_bipush hX dX11_readsLoan_6 zb_10 ?_
  refine aw_icmp_ne (tgt := 17) hX dX11_readsLoan_8 (by decide) (fun c1 => ?_) (fun c1 => ?_)
  · have k := k.1 c1
    refine aw_bipush hX dX11_readsLoan_17 zb_10 ?_
    refine aw_aload_n hX dX11_readsLoan_19 rfl ?_
    refine aw_getr (o' := 0) hX kf_X11_19 sh_11 (by decide) rfl rfl dX11_readsLoan_20 ?_
    refine aw_iconst hX dX11_readsLoan_23 zk_1 ?_
    refine aw_iald' (k := 1) hX sh_38 (by decide) (zdi (by decide)) (by decide) dX11_readsLoan_24 ?_
    refine aw_iadd hX dX11_readsLoan_25 ?_
    refine aw_topi (fun v2 ev2 => ?_)
    have k := k v2 ev2
    refine aw_istore_n (L' := [some (.ref (X.G.ad 11 0)), some (.int v2)]) hX dX11_readsLoan_26 (Nat.le_of_ble_eq_true rfl) rfl ?_
    refine aw_aload_n hX dX11_readsLoan_27 rfl ?_
    refine aw_invV (As := []) (rest := []) (κ := 11) (o := 0) (T := TX11) (N := 55) hX vc_X11_205 sh_11 (by decide) rfl rfl rfl (Nat.le_of_ble_eq_true rfl) dX11_readsLoan_28 k (fun μ4 k => ?_)
    refine aw_aload_n hX dX11_readsLoan_31 rfl ?_
    refine aw_iconst hX dX11_readsLoan_32 zk_m1 ?_
    refine aw_iconst hX dX11_readsLoan_33 zk_m1 ?_
    refine aw_invI (As := [.int (-1 : Int32), .int (-1 : Int32)]) (rest := []) (κ := 11) (o := 0) (T := TX11) (N := 55) hX vc_X11_287 sh_11 (by decide) rfl rfl rfl (Nat.le_of_ble_eq_true rfl) dX11_readsLoan_34 k (fun r5 μ6 k => ?_)
    refine aw_if_ne (tgt := 42) hX dX11_readsLoan_37 (by decide) (fun c7 => ?_) (fun c7 => ?_)
    · have k := k.1 c7
      refine aw_aload_n hX dX11_readsLoan_42 rfl ?_
      refine aw_getr (o' := 0) hX kf_X11_41 sh_11 (by decide) rfl rfl dX11_readsLoan_43 ?_
      refine aw_iload_n hX dX11_readsLoan_46 rfl ?_
      refine aw_aload_n hX dX11_readsLoan_47 rfl ?_
      refine aw_geti hX kf_X11_261 sh_11 (by decide) rfl dX11_readsLoan_48 ?_
      have s8 := k.1
      have k := k.2
      refine aw_iast' (k := (ix v2)) hX sh_45 (by decide) s8 rfl dX11_readsLoan_51 ?_
      refine aw_mem (fun μ9 eμ9 => ?_)
      have k := k μ9 eμ9
      refine aw_aload_n hX dX11_readsLoan_52 rfl ?_
      refine aw_ldc2 hX kl_X11_229 dX11_readsLoan_53 ?_
      refine aw_invI (As := [.long (555 : Int64)]) (rest := []) (κ := 11) (o := 0) (T := TX11) (N := 55) hX vc_X11_277 sh_11 (by decide) rfl rfl rfl (Nat.le_of_ble_eq_true rfl) dX11_readsLoan_56 k (fun r10 μ11 k => ?_)
      refine aw_if_eq (tgt := 76) hX dX11_readsLoan_59 (by decide) (fun c12 => ?_) (fun c12 => ?_)
      · have k := k.1 c12
        refine aw_iconst hX dX11_readsLoan_76 zk_0 ?_
        exact aw_zret hX hr (by decide) dX11_readsLoan_77 k
      · have k := k.2 c12
        refine aw_aload_n hX dX11_readsLoan_62 rfl ?_
        refine aw_aload_n hX dX11_readsLoan_63 rfl ?_
        refine aw_getr (o' := 0) hX kf_X11_41 sh_11 (by decide) rfl rfl dX11_readsLoan_64 ?_
        refine aw_iload_n hX dX11_readsLoan_67 rfl ?_
        refine aw_iald' (k := (ix v2)) hX sh_45 (by decide) s8 rfl dX11_readsLoan_68 ?_
        refine aw_iconst hX dX11_readsLoan_69 zk_m1 ?_
        refine aw_invI (As := [.int (μ11.1 45 0 (ix v2)), .int (-1 : Int32)]) (rest := []) (κ := 11) (o := 0) (T := TX11) (N := 55) hX vc_X11_287 sh_11 (by decide) rfl rfl rfl (Nat.le_of_ble_eq_true rfl) dX11_readsLoan_70 k (fun r13 μ14 k => ?_)
        refine aw_if_ne (tgt := 78) hX dX11_readsLoan_73 (by decide) (fun c15 => ?_) (fun c15 => ?_)
        · have k := k.1 c15
          refine aw_aload_n hX dX11_readsLoan_78 rfl ?_
          refine aw_getr (o' := 0) hX kf_X11_44 sh_11 (by decide) rfl rfl dX11_readsLoan_79 ?_
          refine aw_iload_n hX dX11_readsLoan_82 rfl ?_
          refine aw_aload_n hX dX11_readsLoan_83 rfl ?_
          refine aw_geti hX kf_X11_261 sh_11 (by decide) rfl dX11_readsLoan_84 ?_
          refine aw_iast' (k := (ix v2)) hX sh_46 (by decide) s8 rfl dX11_readsLoan_87 ?_
          refine aw_mem (fun μ16 eμ16 => ?_)
          have k := k μ16 eμ16
          refine aw_aload_n hX dX11_readsLoan_88 rfl ?_
          refine aw_ldc2 hX kl_X11_231 dX11_readsLoan_89 ?_
          refine aw_invI (As := [.long (1896526 : Int64)]) (rest := []) (κ := 11) (o := 0) (T := TX11) (N := 55) hX vc_X11_277 sh_11 (by decide) rfl rfl rfl (Nat.le_of_ble_eq_true rfl) dX11_readsLoan_92 k (fun r17 μ18 k => ?_)
          refine aw_if_eq (tgt := 109) hX dX11_readsLoan_95 (by decide) (fun c19 => ?_) (fun c19 => ?_)
          · have k := k.1 c19
            refine aw_iconst hX dX11_readsLoan_109 zk_0 ?_
            exact aw_zret hX hr (by decide) dX11_readsLoan_110 k
          · have k := k.2 c19
            refine aw_aload_n hX dX11_readsLoan_98 rfl ?_
            refine aw_iconst hX dX11_readsLoan_99 zk_1 ?_
            refine aw_sipush hX dX11_readsLoan_100 zs_999 ?_
            refine aw_invI (As := [.int (1 : Int32), .int (999 : Int32)]) (rest := []) (κ := 11) (o := 0) (T := TX11) (N := 55) hX vc_X11_280 sh_11 (by decide) rfl rfl rfl (Nat.le_of_ble_eq_true rfl) dX11_readsLoan_103 k (fun r20 μ21 k => ?_)
            refine aw_if_ne (tgt := 111) hX dX11_readsLoan_106 (by decide) (fun c22 => ?_) (fun c22 => ?_)
            · have k := k.1 c22
              refine aw_aload_n hX dX11_readsLoan_111 rfl ?_
              refine aw_getr (o' := 0) hX kf_X11_47 sh_11 (by decide) rfl rfl dX11_readsLoan_112 ?_
              refine aw_iload_n hX dX11_readsLoan_115 rfl ?_
              refine aw_aload_n hX dX11_readsLoan_116 rfl ?_
              refine aw_geti hX kf_X11_261 sh_11 (by decide) rfl dX11_readsLoan_117 ?_
              refine aw_iast' (k := (ix v2)) hX sh_47 (by decide) s8 rfl dX11_readsLoan_120 ?_
              refine aw_mem (fun μ23 eμ23 => ?_)
              have k := k μ23 eμ23
              refine aw_aload_n hX dX11_readsLoan_121 rfl ?_
              refine aw_ldc2 hX kl_X11_233 dX11_readsLoan_122 ?_
              refine aw_invI (As := [.long (355568 : Int64)]) (rest := []) (κ := 11) (o := 0) (T := TX11) (N := 55) hX vc_X11_277 sh_11 (by decide) rfl rfl rfl (Nat.le_of_ble_eq_true rfl) dX11_readsLoan_125 k (fun r24 μ25 k => ?_)
              refine aw_if_eq (tgt := 141) hX dX11_readsLoan_128 (by decide) (fun c26 => ?_) (fun c26 => ?_)
              · have k := k.1 c26
                refine aw_iconst hX dX11_readsLoan_141 zk_0 ?_
                exact aw_zret hX hr (by decide) dX11_readsLoan_142 k
              · have k := k.2 c26
                refine aw_aload_n hX dX11_readsLoan_131 rfl ?_
                refine aw_iconst hX dX11_readsLoan_132 zk_0 ?_
                refine aw_bipush hX dX11_readsLoan_133 zb_99 ?_
                refine aw_invI (As := [.int (0 : Int32), .int (99 : Int32)]) (rest := []) (κ := 11) (o := 0) (T := TX11) (N := 55) hX vc_X11_280 sh_11 (by decide) rfl rfl rfl (Nat.le_of_ble_eq_true rfl) dX11_readsLoan_135 k (fun r27 μ28 k => ?_)
                refine aw_if_ne (tgt := 143) hX dX11_readsLoan_138 (by decide) (fun c29 => ?_) (fun c29 => ?_)
                · have k := k.1 c29
                  refine aw_aload_n hX dX11_readsLoan_143 rfl ?_
                  refine aw_getr (o' := 0) hX kf_X11_50 sh_11 (by decide) rfl rfl dX11_readsLoan_144 ?_
                  refine aw_iload_n hX dX11_readsLoan_147 rfl ?_
                  refine aw_aload_n hX dX11_readsLoan_148 rfl ?_
                  refine aw_geti hX kf_X11_261 sh_11 (by decide) rfl dX11_readsLoan_149 ?_
                  refine aw_iast' (k := (ix v2)) hX sh_48 (by decide) s8 rfl dX11_readsLoan_152 ?_
                  refine aw_mem (fun μ30 eμ30 => ?_)
                  have k := k μ30 eμ30
                  refine aw_aload_n hX dX11_readsLoan_153 rfl ?_
                  refine aw_ldc2 hX kl_X11_235 dX11_readsLoan_154 ?_
                  refine aw_invI (As := [.long (3488 : Int64)]) (rest := []) (κ := 11) (o := 0) (T := TX11) (N := 55) hX vc_X11_277 sh_11 (by decide) rfl rfl rfl (Nat.le_of_ble_eq_true rfl) dX11_readsLoan_157 k (fun r31 μ32 k => ?_)
                  refine aw_if_eq (tgt := 173) hX dX11_readsLoan_160 (by decide) (fun c33 => ?_) (fun c33 => ?_)
                  · have k := k.1 c33
                    refine aw_iconst hX dX11_readsLoan_173 zk_0 ?_
                    exact aw_zret hX hr (by decide) dX11_readsLoan_174 k
                  · have k := k.2 c33
                    refine aw_aload_n hX dX11_readsLoan_163 rfl ?_
                    refine aw_iconst hX dX11_readsLoan_164 zk_1 ?_
                    refine aw_bipush hX dX11_readsLoan_165 zb_9 ?_
                    refine aw_invI (As := [.int (1 : Int32), .int (9 : Int32)]) (rest := []) (κ := 11) (o := 0) (T := TX11) (N := 55) hX vc_X11_280 sh_11 (by decide) rfl rfl rfl (Nat.le_of_ble_eq_true rfl) dX11_readsLoan_167 k (fun r34 μ35 k => ?_)
                    refine aw_if_ne (tgt := 175) hX dX11_readsLoan_170 (by decide) (fun c36 => ?_) (fun c36 => ?_)
                    · have k := k.1 c36
                      refine aw_aload_n hX dX11_readsLoan_175 rfl ?_
                      refine aw_getr (o' := 0) hX kf_X11_53 sh_11 (by decide) rfl rfl dX11_readsLoan_176 ?_
                      refine aw_iload_n hX dX11_readsLoan_179 rfl ?_
                      refine aw_aload_n hX dX11_readsLoan_180 rfl ?_
                      refine aw_geti hX kf_X11_261 sh_11 (by decide) rfl dX11_readsLoan_181 ?_
                      refine aw_iast' (k := (ix v2)) hX sh_49 (by decide) s8 rfl dX11_readsLoan_184 ?_
                      refine aw_mem (fun μ37 eμ37 => ?_)
                      have k := k μ37 eμ37
                      refine aw_aload_n hX dX11_readsLoan_185 rfl ?_
                      refine aw_ldc2 hX kl_X11_237 dX11_readsLoan_186 ?_
                      refine aw_invI (As := [.long (419 : Int64)]) (rest := []) (κ := 11) (o := 0) (T := TX11) (N := 55) hX vc_X11_277 sh_11 (by decide) rfl rfl rfl (Nat.le_of_ble_eq_true rfl) dX11_readsLoan_189 k (fun r38 μ39 k => ?_)
                      refine aw_if_ne (tgt := 197) hX dX11_readsLoan_192 (by decide) (fun c40 => ?_) (fun c40 => ?_)
                      · have k := k.1 c40
                        refine aw_aload_n hX dX11_readsLoan_197 rfl ?_
                        refine aw_invI (As := []) (rest := []) (κ := 11) (o := 0) (T := TX11) (N := 55) hX vc_X11_264 sh_11 (by decide) rfl rfl rfl (Nat.le_of_ble_eq_true rfl) dX11_readsLoan_198 k (fun r41 μ42 k => ?_)
                        refine aw_if_eq (tgt := 210) hX dX11_readsLoan_201 (by decide) (fun c43 => ?_) (fun c43 => ?_)
                        · have k := k.1 c43
                          refine aw_aload_n hX dX11_readsLoan_210 rfl ?_
                          refine aw_getr (o' := 0) hX kf_X11_56 sh_11 (by decide) rfl rfl dX11_readsLoan_211 ?_
                          refine aw_iload_n hX dX11_readsLoan_214 rfl ?_
                          refine aw_aload_n hX dX11_readsLoan_215 rfl ?_
                          refine aw_invI (As := []) (rest := [.int v2, .ref (X.G.ad 50 0)]) (κ := 11) (o := 0) (T := TX11) (N := 55) hX vc_X11_271 sh_11 (by decide) rfl rfl rfl (Nat.le_of_ble_eq_true rfl) dX11_readsLoan_216 k (fun r44 μ45 k => ?_)
                          refine aw_iast' (k := (ix v2)) hX sh_50 (by decide) s8 rfl dX11_readsLoan_219 ?_
                          refine aw_mem (fun μ46 eμ46 => ?_)
                          have k := k μ46 eμ46
                          refine aw_aload_n hX dX11_readsLoan_220 rfl ?_
                          refine aw_getr (o' := 0) hX kf_X11_56 sh_11 (by decide) rfl rfl dX11_readsLoan_221 ?_
                          refine aw_iload_n hX dX11_readsLoan_224 rfl ?_
                          refine aw_iald' (k := (ix v2)) hX sh_50 (by decide) s8 rfl dX11_readsLoan_225 ?_
                          refine aw_if_ge (tgt := 235) hX dX11_readsLoan_226 (by decide) (fun c47 => ?_) (fun c47 => ?_)
                          · have k := k.1 c47
                            refine aw_aload_n hX dX11_readsLoan_235 rfl ?_
                            refine aw_invV (As := []) (rest := []) (κ := 11) (o := 0) (T := TX11) (N := 55) hX vc_X11_205 sh_11 (by decide) rfl rfl rfl (Nat.le_of_ble_eq_true rfl) dX11_readsLoan_236 k (fun μ49 k => ?_)
                            refine aw_aload_n hX dX11_readsLoan_239 rfl ?_
                            refine aw_getr (o' := 0) hX kf_X11_59 sh_11 (by decide) rfl rfl dX11_readsLoan_240 ?_
                            refine aw_iload_n hX dX11_readsLoan_243 rfl ?_
                            refine aw_aload_n hX dX11_readsLoan_244 rfl ?_
                            refine aw_invI (As := []) (rest := [.int v2, .ref (X.G.ad 51 0)]) (κ := 11) (o := 0) (T := TX11) (N := 55) hX vc_X11_290 sh_11 (by decide) rfl rfl rfl (Nat.le_of_ble_eq_true rfl) dX11_readsLoan_245 k (fun r50 μ51 k => ?_)
                            refine aw_iast' (k := (ix v2)) hX sh_51 (by decide) s8 rfl dX11_readsLoan_248 ?_
                            refine aw_mem (fun μ52 eμ52 => ?_)
                            have k := k μ52 eμ52
                            refine aw_aload_n hX dX11_readsLoan_249 rfl ?_
                            refine aw_getr (o' := 0) hX kf_X11_59 sh_11 (by decide) rfl rfl dX11_readsLoan_250 ?_
                            refine aw_iload_n hX dX11_readsLoan_253 rfl ?_
                            refine aw_iald' (k := (ix v2)) hX sh_51 (by decide) s8 rfl dX11_readsLoan_254 ?_
                            refine aw_if_ge (tgt := 264) hX dX11_readsLoan_255 (by decide) (fun c53 => ?_) (fun c53 => ?_)
                            · have k := k.1 c53
                              refine aw_aload_n hX dX11_readsLoan_264 rfl ?_
                              refine aw_invV (As := []) (rest := []) (κ := 11) (o := 0) (T := TX11) (N := 55) hX vc_X11_205 sh_11 (by decide) rfl rfl rfl (Nat.le_of_ble_eq_true rfl) dX11_readsLoan_265 k (fun μ55 k => ?_)
                              refine aw_aload_n hX dX11_readsLoan_268 rfl ?_
                              refine aw_getr (o' := 0) hX kf_X11_62 sh_11 (by decide) rfl rfl dX11_readsLoan_269 ?_
                              refine aw_iload_n hX dX11_readsLoan_272 rfl ?_
                              refine aw_iconst hX dX11_readsLoan_273 zk_m1 ?_
                              refine aw_iast' (k := (ix v2)) hX sh_52 (by decide) s8 rfl dX11_readsLoan_274 ?_
                              refine aw_mem (fun μ56 eμ56 => ?_)
                              have k := k μ56 eμ56
                              refine aw_aload_n hX dX11_readsLoan_275 rfl ?_
                              refine aw_ldc2 hX kl_X11_239 dX11_readsLoan_276 ?_
                              refine aw_invI (As := [.long (40350 : Int64)]) (rest := []) (κ := 11) (o := 0) (T := TX11) (N := 55) hX vc_X11_190 sh_11 (by decide) rfl rfl rfl (Nat.le_of_ble_eq_true rfl) dX11_readsLoan_279 k (fun r57 μ58 k => ?_)
                              refine aw_if_eq (tgt := 320) hX dX11_readsLoan_282 (by decide) (fun c59 => ?_) (fun c59 => ?_)
                              · have k := k.1 c59
                                refine aw_aload_n hX dX11_readsLoan_320 rfl ?_
                                refine aw_getr (o' := 0) hX kf_X11_19 sh_11 (by decide) rfl rfl dX11_readsLoan_321 ?_
                                refine aw_iconst hX dX11_readsLoan_324 zk_1 ?_
                                refine aw_dup2 hX dX11_readsLoan_325 rfl rfl ?_
                                refine aw_iald' (k := 1) hX sh_38 (by decide) (zdi (by decide)) (by decide) dX11_readsLoan_326 ?_
                                refine aw_iconst hX dX11_readsLoan_327 zk_1 ?_
                                refine aw_iadd hX dX11_readsLoan_328 ?_
                                refine aw_iast' (k := 1) hX sh_38 (by decide) (zdi (by decide)) (by decide) dX11_readsLoan_329 ?_
                                refine aw_mem (fun μ60 eμ60 => ?_)
                                have k := k μ60 eμ60
                                refine aw_aload_n hX dX11_readsLoan_330 rfl ?_
                                refine aw_invI (As := []) (rest := []) (κ := 11) (o := 0) (T := TX11) (N := 55) hX vc_X11_284 sh_11 (by decide) rfl rfl rfl (Nat.le_of_ble_eq_true rfl) dX11_readsLoan_331 k (fun r61 μ62 k => ?_)
                                exact aw_zret hX hr k.1 dX11_readsLoan_334 k.2
                              · have k := k.2 c59
                                refine aw_aload_n hX dX11_readsLoan_285 rfl ?_
                                refine aw_invV (As := []) (rest := []) (κ := 11) (o := 0) (T := TX11) (N := 55) hX vc_X11_205 sh_11 (by decide) rfl rfl rfl (Nat.le_of_ble_eq_true rfl) dX11_readsLoan_286 k (fun μ64 k => ?_)
                                refine aw_aload_n hX dX11_readsLoan_289 rfl ?_
                                refine aw_aload_n hX dX11_readsLoan_290 rfl ?_
                                refine aw_getr (o' := 0) hX kf_X11_41 sh_11 (by decide) rfl rfl dX11_readsLoan_291 ?_
                                refine aw_iload_n hX dX11_readsLoan_294 rfl ?_
                                refine aw_iald' (k := (ix v2)) hX sh_45 (by decide) s8 rfl dX11_readsLoan_295 ?_
                                refine aw_aload_n hX dX11_readsLoan_296 rfl ?_
                                refine aw_getr (o' := 0) hX kf_X11_44 sh_11 (by decide) rfl rfl dX11_readsLoan_297 ?_
                                refine aw_iload_n hX dX11_readsLoan_300 rfl ?_
                                refine aw_iald' (k := (ix v2)) hX sh_46 (by decide) s8 rfl dX11_readsLoan_301 ?_
                                refine aw_invI (As := [.int (μ64.1 45 0 (ix v2)), .int (μ64.1 46 0 (ix v2))]) (rest := []) (κ := 11) (o := 0) (T := TX11) (N := 55) hX vc_X11_287 sh_11 (by decide) rfl rfl rfl (Nat.le_of_ble_eq_true rfl) dX11_readsLoan_302 k (fun r65 μ66 k => ?_)
                                refine aw_if_ne (tgt := 310) hX dX11_readsLoan_305 (by decide) (fun c67 => ?_) (fun c67 => ?_)
                                · have k := k.1 c67
                                  refine aw_aload_n hX dX11_readsLoan_310 rfl ?_
                                  refine aw_getr (o' := 0) hX kf_X11_62 sh_11 (by decide) rfl rfl dX11_readsLoan_311 ?_
                                  refine aw_iload_n hX dX11_readsLoan_314 rfl ?_
                                  refine aw_aload_n hX dX11_readsLoan_315 rfl ?_
                                  refine aw_geti hX kf_X11_261 sh_11 (by decide) rfl dX11_readsLoan_316 ?_
                                  refine aw_iast' (k := (ix v2)) hX sh_52 (by decide) s8 rfl dX11_readsLoan_319 ?_
                                  refine aw_mem (fun μ68 eμ68 => ?_)
                                  have k := k μ68 eμ68
                                  refine aw_aload_n hX dX11_readsLoan_320 rfl ?_
                                  refine aw_getr (o' := 0) hX kf_X11_19 sh_11 (by decide) rfl rfl dX11_readsLoan_321 ?_
                                  refine aw_iconst hX dX11_readsLoan_324 zk_1 ?_
                                  refine aw_dup2 hX dX11_readsLoan_325 rfl rfl ?_
                                  refine aw_iald' (k := 1) hX sh_38 (by decide) (zdi (by decide)) (by decide) dX11_readsLoan_326 ?_
                                  refine aw_iconst hX dX11_readsLoan_327 zk_1 ?_
                                  refine aw_iadd hX dX11_readsLoan_328 ?_
                                  refine aw_iast' (k := 1) hX sh_38 (by decide) (zdi (by decide)) (by decide) dX11_readsLoan_329 ?_
                                  refine aw_mem (fun μ69 eμ69 => ?_)
                                  have k := k μ69 eμ69
                                  refine aw_aload_n hX dX11_readsLoan_330 rfl ?_
                                  refine aw_invI (As := []) (rest := []) (κ := 11) (o := 0) (T := TX11) (N := 55) hX vc_X11_284 sh_11 (by decide) rfl rfl rfl (Nat.le_of_ble_eq_true rfl) dX11_readsLoan_331 k (fun r70 μ71 k => ?_)
                                  exact aw_zret hX hr k.1 dX11_readsLoan_334 k.2
                                · have k := k.2 c67
                                  refine aw_iconst hX dX11_readsLoan_308 zk_0 ?_
                                  exact aw_zret hX hr (by decide) dX11_readsLoan_309 k
                            · have k := k.2 c53
                              refine aw_aload_n hX dX11_readsLoan_258 rfl ?_
                              refine aw_iconst hX dX11_readsLoan_259 zk_1 ?_
                              refine aw_invI (As := [.int (1 : Int32)]) (rest := []) (κ := 11) (o := 0) (T := TX11) (N := 55) hX vc_X11_198 sh_11 (by decide) rfl rfl rfl (Nat.le_of_ble_eq_true rfl) dX11_readsLoan_260 k (fun r72 μ73 k => ?_)
                              exact aw_zret hX hr k.1 dX11_readsLoan_263 k.2
                          · have k := k.2 c47
                            refine aw_aload_n hX dX11_readsLoan_229 rfl ?_
                            refine aw_iconst hX dX11_readsLoan_230 zk_2 ?_
                            refine aw_invI (As := [.int (2 : Int32)]) (rest := []) (κ := 11) (o := 0) (T := TX11) (N := 55) hX vc_X11_198 sh_11 (by decide) rfl rfl rfl (Nat.le_of_ble_eq_true rfl) dX11_readsLoan_231 k (fun r74 μ75 k => ?_)
                            exact aw_zret hX hr k.1 dX11_readsLoan_234 k.2
                        · have k := k.2 c43
                          refine aw_aload_n hX dX11_readsLoan_204 rfl ?_
                          refine aw_iconst hX dX11_readsLoan_205 zk_1 ?_
                          refine aw_invI (As := [.int (1 : Int32)]) (rest := []) (κ := 11) (o := 0) (T := TX11) (N := 55) hX vc_X11_198 sh_11 (by decide) rfl rfl rfl (Nat.le_of_ble_eq_true rfl) dX11_readsLoan_206 k (fun r76 μ77 k => ?_)
                          exact aw_zret hX hr k.1 dX11_readsLoan_209 k.2
                      · have k := k.2 c40
                        refine aw_iconst hX dX11_readsLoan_195 zk_0 ?_
                        exact aw_zret hX hr (by decide) dX11_readsLoan_196 k
                    · have k := k.2 c36
                      refine aw_iconst hX dX11_readsLoan_173 zk_0 ?_
                      exact aw_zret hX hr (by decide) dX11_readsLoan_174 k
                · have k := k.2 c29
                  refine aw_iconst hX dX11_readsLoan_141 zk_0 ?_
                  exact aw_zret hX hr (by decide) dX11_readsLoan_142 k
            · have k := k.2 c22
              refine aw_iconst hX dX11_readsLoan_109 zk_0 ?_
              exact aw_zret hX hr (by decide) dX11_readsLoan_110 k
        · have k := k.2 c15
          refine aw_iconst hX dX11_readsLoan_76 zk_0 ?_
          exact aw_zret hX hr (by decide) dX11_readsLoan_77 k
    · have k := k.2 c7
      refine aw_iconst hX dX11_readsLoan_40 zk_0 ?_
      exact aw_zret hX hr (by decide) dX11_readsLoan_41 k
  · have k := k.2 c1
    refine aw_aload_n hX dX11_readsLoan_11 rfl ?_
    refine aw_iconst hX dX11_readsLoan_12 zk_5 ?_
    refine aw_invI (As := [.int (5 : Int32)]) (rest := []) (κ := 11) (o := 0) (T := TX11) (N := 55) hX vc_X11_198 sh_11 (by decide) rfl rfl rfl (Nat.le_of_ble_eq_true rfl) dX11_readsLoan_13 k (fun r78 μ79 k => ?_)
    exact aw_zret hX hr k.1 dX11_readsLoan_16 k.2

set_option maxRecDepth 100000 in
set_option maxHeartbeats 4000000 in
theorem st_X11_readsBet_0 {X : zX} {lv : Nat} {Post : Option Value → zM → Prop} (hX : zOk X cX11_readsBet RX11 2 lv) (hr : zRt X (some .boolean) Post)   {μ : zM}
    (k : (¬ (μ.1 39 0 1) = (8 : Int32) → (∀ v2 : Int32, v2 = ((8 : Int32) + (μ.1 39 0 1)) → (zCallV X lv yX11_nextToken cX11_nextToken 2 none [.ref (X.G.ad 11 0)] μ (fun μ4 => zCallI X lv yX11_needsNumber cX11_needsNumber 3 (some .boolean) [.ref (X.G.ad 11 0), .int (0 : Int32), .int (999 : Int32)] μ4 (fun (r5 : Int32) μ6 => (¬ r5 = 0 → ((vp_in v2 48) ∧ (∀ μ9 : zM, μ9 = pI μ6 53 0 (ix v2) (μ6.1 11 0 45) → (zCallI X lv yX11_needsWord cX11_needsWord 3 (some .boolean) [.ref (X.G.ad 11 0), .long (316351 : Int64)] μ9 (fun (r10 : Int32) μ11 => (r10 = 0 → (Post (some (.int (0 : Int32))) μ11)) ∧ (¬ r10 = 0 → (zCallI X lv yX11_needsNumber cX11_needsNumber 3 (some .boolean) [.ref (X.G.ad 11 0), .int (0 : Int32), .int (999 : Int32)] μ11 (fun (r13 : Int32) μ14 => (¬ r13 = 0 → (∀ μ16 : zM, μ16 = pI μ14 54 0 (ix v2) (μ14.1 11 0 45) → (zCallI X lv yX11_isWord cX11_isWord 3 (some .boolean) [.ref (X.G.ad 11 0), .long (249 : Int64)] μ16 (fun (r17 : Int32) μ18 => (¬ r17 = 0 → (zCallV X lv yX11_nextToken cX11_nextToken 2 none [.ref (X.G.ad 11 0)] μ18 (fun μ21 => ∀ μ22 : zM, μ22 = pI μ21 55 0 (ix v2) (μ21.1 11 0 32) → (zCallI X lv yX11_reads cX11_reads 6 (some .boolean) [.ref (X.G.ad 11 0)] μ22 (fun (r23 : Int32) μ24 => (¬ r23 = 0 → (∀ μ26 : zM, μ26 = pI μ24 56 0 (ix v2) (μ24.1 11 0 32) → (∀ μ27 : zM, μ27 = pI μ26 39 0 1 ((μ26.1 39 0 1) + (1 : Int32)) → (Post (some (.int (1 : Int32))) μ27)))) ∧ (r23 = 0 → (Post (some (.int (0 : Int32))) μ24))))))) ∧ (r17 = 0 → (zCallI X lv yX11_fails cX11_fails 2 (some .boolean) [.ref (X.G.ad 11 0), .int (1 : Int32)] μ18 (fun (r28 : Int32) μ29 => narrow .boolean (.int r28) = .int r28 ∧ Post (some (.int r28)) μ29))))))) ∧ (r13 = 0 → (Post (some (.int (0 : Int32))) μ14)))))))))) ∧ (r5 = 0 → (Post (some (.int (0 : Int32))) μ6))))))) ∧ ((μ.1 39 0 1) = (8 : Int32) → (zCallI X lv yX11_fails cX11_fails 2 (some .boolean) [.ref (X.G.ad 11 0), .int (5 : Int32)] μ (fun (r30 : Int32) μ31 => narrow .boolean (.int r30) = .int r30 ∧ Post (some (.int r30)) μ31)))) :
    AW X 0 [some (.ref (X.G.ad 11 0)), none] [] μ := by
  refine aw_aload_n hX dX11_readsBet_0 rfl ?_
  refine aw_getr (o' := 0) hX kf_X11_22 sh_11 (by decide) rfl rfl dX11_readsBet_1 ?_
  refine aw_iconst hX dX11_readsBet_4 zk_1 ?_
  refine aw_iald' (k := 1) hX sh_39 (by decide) (zdi (by decide)) (by decide) dX11_readsBet_5 ?_
  refine aw_bipush hX dX11_readsBet_6 zb_8 ?_
  refine aw_icmp_ne (tgt := 17) hX dX11_readsBet_8 (by decide) (fun c1 => ?_) (fun c1 => ?_)
  · have k := k.1 c1
    refine aw_bipush hX dX11_readsBet_17 zb_8 ?_
    refine aw_aload_n hX dX11_readsBet_19 rfl ?_
    refine aw_getr (o' := 0) hX kf_X11_22 sh_11 (by decide) rfl rfl dX11_readsBet_20 ?_
    refine aw_iconst hX dX11_readsBet_23 zk_1 ?_
    refine aw_iald' (k := 1) hX sh_39 (by decide) (zdi (by decide)) (by decide) dX11_readsBet_24 ?_
    refine aw_iadd hX dX11_readsBet_25 ?_
    refine aw_topi (fun v2 ev2 => ?_)
    have k := k v2 ev2
    refine aw_istore_n (L' := [some (.ref (X.G.ad 11 0)), some (.int v2)]) hX dX11_readsBet_26 (Nat.le_of_ble_eq_true rfl) rfl ?_
    refine aw_aload_n hX dX11_readsBet_27 rfl ?_
    refine aw_invV (As := []) (rest := []) (κ := 11) (o := 0) (T := TX11) (N := 55) hX vc_X11_205 sh_11 (by decide) rfl rfl rfl (Nat.le_of_ble_eq_true rfl) dX11_readsBet_28 k (fun μ4 k => ?_)
    refine aw_aload_n hX dX11_readsBet_31 rfl ?_
    refine aw_iconst hX dX11_readsBet_32 zk_0 ?_
    refine aw_sipush hX dX11_readsBet_33 zs_999 ?_
    refine aw_invI (As := [.int (0 : Int32), .int (999 : Int32)]) (rest := []) (κ := 11) (o := 0) (T := TX11) (N := 55) hX vc_X11_280 sh_11 (by decide) rfl rfl rfl (Nat.le_of_ble_eq_true rfl) dX11_readsBet_36 k (fun r5 μ6 k => ?_)
    refine aw_if_ne (tgt := 44) hX dX11_readsBet_39 (by decide) (fun c7 => ?_) (fun c7 => ?_)
    · have k := k.1 c7
      refine aw_aload_n hX dX11_readsBet_44 rfl ?_
      refine aw_getr (o' := 0) hX kf_X11_65 sh_11 (by decide) rfl rfl dX11_readsBet_45 ?_
      refine aw_iload_n hX dX11_readsBet_48 rfl ?_
      refine aw_aload_n hX dX11_readsBet_49 rfl ?_
      refine aw_geti hX kf_X11_261 sh_11 (by decide) rfl dX11_readsBet_50 ?_
      have s8 := k.1
      have k := k.2
      refine aw_iast' (k := (ix v2)) hX sh_53 (by decide) s8 rfl dX11_readsBet_53 ?_
      refine aw_mem (fun μ9 eμ9 => ?_)
      have k := k μ9 eμ9
      refine aw_aload_n hX dX11_readsBet_54 rfl ?_
      refine aw_ldc2 hX kl_X11_243 dX11_readsBet_55 ?_
      refine aw_invI (As := [.long (316351 : Int64)]) (rest := []) (κ := 11) (o := 0) (T := TX11) (N := 55) hX vc_X11_277 sh_11 (by decide) rfl rfl rfl (Nat.le_of_ble_eq_true rfl) dX11_readsBet_58 k (fun r10 μ11 k => ?_)
      refine aw_if_eq (tgt := 75) hX dX11_readsBet_61 (by decide) (fun c12 => ?_) (fun c12 => ?_)
      · have k := k.1 c12
        refine aw_iconst hX dX11_readsBet_75 zk_0 ?_
        exact aw_zret hX hr (by decide) dX11_readsBet_76 k
      · have k := k.2 c12
        refine aw_aload_n hX dX11_readsBet_64 rfl ?_
        refine aw_iconst hX dX11_readsBet_65 zk_0 ?_
        refine aw_sipush hX dX11_readsBet_66 zs_999 ?_
        refine aw_invI (As := [.int (0 : Int32), .int (999 : Int32)]) (rest := []) (κ := 11) (o := 0) (T := TX11) (N := 55) hX vc_X11_280 sh_11 (by decide) rfl rfl rfl (Nat.le_of_ble_eq_true rfl) dX11_readsBet_69 k (fun r13 μ14 k => ?_)
        refine aw_if_ne (tgt := 77) hX dX11_readsBet_72 (by decide) (fun c15 => ?_) (fun c15 => ?_)
        · have k := k.1 c15
          refine aw_aload_n hX dX11_readsBet_77 rfl ?_
          refine aw_getr (o' := 0) hX kf_X11_68 sh_11 (by decide) rfl rfl dX11_readsBet_78 ?_
          refine aw_iload_n hX dX11_readsBet_81 rfl ?_
          refine aw_aload_n hX dX11_readsBet_82 rfl ?_
          refine aw_geti hX kf_X11_261 sh_11 (by decide) rfl dX11_readsBet_83 ?_
          refine aw_iast' (k := (ix v2)) hX sh_54 (by decide) s8 rfl dX11_readsBet_86 ?_
          refine aw_mem (fun μ16 eμ16 => ?_)
          have k := k μ16 eμ16
          refine aw_aload_n hX dX11_readsBet_87 rfl ?_
          refine aw_ldc2 hX kl_X11_245 dX11_readsBet_88 ?_
          refine aw_invI (As := [.long (249 : Int64)]) (rest := []) (κ := 11) (o := 0) (T := TX11) (N := 55) hX vc_X11_190 sh_11 (by decide) rfl rfl rfl (Nat.le_of_ble_eq_true rfl) dX11_readsBet_91 k (fun r17 μ18 k => ?_)
          refine aw_if_ne (tgt := 103) hX dX11_readsBet_94 (by decide) (fun c19 => ?_) (fun c19 => ?_)
          · have k := k.1 c19
            refine aw_aload_n hX dX11_readsBet_103 rfl ?_
            refine aw_invV (As := []) (rest := []) (κ := 11) (o := 0) (T := TX11) (N := 55) hX vc_X11_205 sh_11 (by decide) rfl rfl rfl (Nat.le_of_ble_eq_true rfl) dX11_readsBet_104 k (fun μ21 k => ?_)
            refine aw_aload_n hX dX11_readsBet_107 rfl ?_
            refine aw_getr (o' := 0) hX kf_X11_71 sh_11 (by decide) rfl rfl dX11_readsBet_108 ?_
            refine aw_iload_n hX dX11_readsBet_111 rfl ?_
            refine aw_aload_n hX dX11_readsBet_112 rfl ?_
            refine aw_geti hX kf_X11_171 sh_11 (by decide) rfl dX11_readsBet_113 ?_
            refine aw_iast' (k := (ix v2)) hX sh_55 (by decide) s8 rfl dX11_readsBet_116 ?_
            refine aw_mem (fun μ22 eμ22 => ?_)
            have k := k μ22 eμ22
            refine aw_aload_n hX dX11_readsBet_117 rfl ?_
            refine aw_invI (As := []) (rest := []) (κ := 11) (o := 0) (T := TX11) (N := 55) hX vc_X11_293 sh_11 (by decide) rfl rfl rfl (Nat.le_of_ble_eq_true rfl) dX11_readsBet_118 k (fun r23 μ24 k => ?_)
            refine aw_if_ne (tgt := 126) hX dX11_readsBet_121 (by decide) (fun c25 => ?_) (fun c25 => ?_)
            · have k := k.1 c25
              refine aw_aload_n hX dX11_readsBet_126 rfl ?_
              refine aw_getr (o' := 0) hX kf_X11_74 sh_11 (by decide) rfl rfl dX11_readsBet_127 ?_
              refine aw_iload_n hX dX11_readsBet_130 rfl ?_
              refine aw_aload_n hX dX11_readsBet_131 rfl ?_
              refine aw_geti hX kf_X11_171 sh_11 (by decide) rfl dX11_readsBet_132 ?_
              refine aw_iast' (k := (ix v2)) hX sh_56 (by decide) s8 rfl dX11_readsBet_135 ?_
              refine aw_mem (fun μ26 eμ26 => ?_)
              have k := k μ26 eμ26
              refine aw_aload_n hX dX11_readsBet_136 rfl ?_
              refine aw_getr (o' := 0) hX kf_X11_22 sh_11 (by decide) rfl rfl dX11_readsBet_137 ?_
              refine aw_iconst hX dX11_readsBet_140 zk_1 ?_
              refine aw_dup2 hX dX11_readsBet_141 rfl rfl ?_
              refine aw_iald' (k := 1) hX sh_39 (by decide) (zdi (by decide)) (by decide) dX11_readsBet_142 ?_
              refine aw_iconst hX dX11_readsBet_143 zk_1 ?_
              refine aw_iadd hX dX11_readsBet_144 ?_
              refine aw_iast' (k := 1) hX sh_39 (by decide) (zdi (by decide)) (by decide) dX11_readsBet_145 ?_
              refine aw_mem (fun μ27 eμ27 => ?_)
              have k := k μ27 eμ27
              refine aw_iconst hX dX11_readsBet_146 zk_1 ?_
              exact aw_zret hX hr (by decide) dX11_readsBet_147 k
            · have k := k.2 c25
              refine aw_iconst hX dX11_readsBet_124 zk_0 ?_
              exact aw_zret hX hr (by decide) dX11_readsBet_125 k
          · have k := k.2 c19
            refine aw_aload_n hX dX11_readsBet_97 rfl ?_
            refine aw_iconst hX dX11_readsBet_98 zk_1 ?_
            refine aw_invI (As := [.int (1 : Int32)]) (rest := []) (κ := 11) (o := 0) (T := TX11) (N := 55) hX vc_X11_198 sh_11 (by decide) rfl rfl rfl (Nat.le_of_ble_eq_true rfl) dX11_readsBet_99 k (fun r28 μ29 k => ?_)
            exact aw_zret hX hr k.1 dX11_readsBet_102 k.2
        · have k := k.2 c15
          refine aw_iconst hX dX11_readsBet_75 zk_0 ?_
          exact aw_zret hX hr (by decide) dX11_readsBet_76 k
    · have k := k.2 c7
      refine aw_iconst hX dX11_readsBet_42 zk_0 ?_
      exact aw_zret hX hr (by decide) dX11_readsBet_43 k
  · have k := k.2 c1
    refine aw_aload_n hX dX11_readsBet_11 rfl ?_
    refine aw_iconst hX dX11_readsBet_12 zk_5 ?_
    refine aw_invI (As := [.int (5 : Int32)]) (rest := []) (κ := 11) (o := 0) (T := TX11) (N := 55) hX vc_X11_198 sh_11 (by decide) rfl rfl rfl (Nat.le_of_ble_eq_true rfl) dX11_readsBet_13 k (fun r30 μ31 k => ?_)
    exact aw_zret hX hr k.1 dX11_readsBet_16 k.2

set_option maxRecDepth 100000 in
set_option maxHeartbeats 4000000 in
theorem st_X11_readsAll_0 {X : zX} {lv : Nat} {Post : Option Value → zM → Prop} (hX : zOk X cX11_readsAll RX11 2 lv) (hr : zRt X (some .boolean) Post)   {μ : zM}
    (k : ∀ μ1 : zM, μ1 = pI μ 36 0 1 (0 : Int32) → (∀ μ2 : zM, μ2 = pI μ1 37 0 1 (0 : Int32) → (∀ μ3 : zM, μ3 = pI μ2 38 0 1 (0 : Int32) → (∀ μ4 : zM, μ4 = pI μ3 39 0 1 (0 : Int32) → (∀ μ5 : zM, μ5 = pI μ4 11 0 32 (1000 : Int32) → (∀ μ6 : zM, μ6 = pI μ5 11 0 3 (μ5.1 11 0 1) → (∀ μ7 : zM, μ7 = pI μ6 11 0 1 (0 : Int32) → (∀ μ8 : zM, μ8 = pI μ7 11 0 4 (0 : Int32) → (zCallV X lv yX11_nextToken cX11_nextToken 2 none [.ref (X.G.ad 11 0)] μ8 (fun μ10 => AW X 57 [some (.ref (X.G.ad 11 0)), none] [] μ10)))))))))) :
    AW X 0 [some (.ref (X.G.ad 11 0)), none] [] μ := by
  refine aw_aload_n hX dX11_readsAll_0 rfl ?_
  refine aw_getr (o' := 0) hX kf_X11_13 sh_11 (by decide) rfl rfl dX11_readsAll_1 ?_
  refine aw_iconst hX dX11_readsAll_4 zk_1 ?_
  refine aw_iconst hX dX11_readsAll_5 zk_0 ?_
  refine aw_iast' (k := 1) hX sh_36 (by decide) (zdi (by decide)) (by decide) dX11_readsAll_6 ?_
  refine aw_mem (fun μ1 eμ1 => ?_)
  have k := k μ1 eμ1
  refine aw_aload_n hX dX11_readsAll_7 rfl ?_
  refine aw_getr (o' := 0) hX kf_X11_16 sh_11 (by decide) rfl rfl dX11_readsAll_8 ?_
  refine aw_iconst hX dX11_readsAll_11 zk_1 ?_
  refine aw_iconst hX dX11_readsAll_12 zk_0 ?_
  refine aw_iast' (k := 1) hX sh_37 (by decide) (zdi (by decide)) (by decide) dX11_readsAll_13 ?_
  refine aw_mem (fun μ2 eμ2 => ?_)
  have k := k μ2 eμ2
  refine aw_aload_n hX dX11_readsAll_14 rfl ?_
  refine aw_getr (o' := 0) hX kf_X11_19 sh_11 (by decide) rfl rfl dX11_readsAll_15 ?_
  refine aw_iconst hX dX11_readsAll_18 zk_1 ?_
  refine aw_iconst hX dX11_readsAll_19 zk_0 ?_
  refine aw_iast' (k := 1) hX sh_38 (by decide) (zdi (by decide)) (by decide) dX11_readsAll_20 ?_
  refine aw_mem (fun μ3 eμ3 => ?_)
  have k := k μ3 eμ3
  refine aw_aload_n hX dX11_readsAll_21 rfl ?_
  refine aw_getr (o' := 0) hX kf_X11_22 sh_11 (by decide) rfl rfl dX11_readsAll_22 ?_
  refine aw_iconst hX dX11_readsAll_25 zk_1 ?_
  refine aw_iconst hX dX11_readsAll_26 zk_0 ?_
  refine aw_iast' (k := 1) hX sh_39 (by decide) (zdi (by decide)) (by decide) dX11_readsAll_27 ?_
  refine aw_mem (fun μ4 eμ4 => ?_)
  have k := k μ4 eμ4
  refine aw_aload_n hX dX11_readsAll_28 rfl ?_
  refine aw_sipush hX dX11_readsAll_29 zs_1000 ?_
  refine aw_puti hX kp_X11_171 sh_11 (by decide) rfl rfl rfl dX11_readsAll_32 ?_
  refine aw_mem (fun μ5 eμ5 => ?_)
  have k := k μ5 eμ5
  refine aw_aload_n hX dX11_readsAll_35 rfl ?_
  refine aw_aload_n hX dX11_readsAll_36 rfl ?_
  refine aw_geti hX kf_X11_138 sh_11 (by decide) rfl dX11_readsAll_37 ?_
  refine aw_puti hX kp_X11_141 sh_11 (by decide) rfl rfl rfl dX11_readsAll_40 ?_
  refine aw_mem (fun μ6 eμ6 => ?_)
  have k := k μ6 eμ6
  refine aw_aload_n hX dX11_readsAll_43 rfl ?_
  refine aw_iconst hX dX11_readsAll_44 zk_0 ?_
  refine aw_puti hX kp_X11_138 sh_11 (by decide) rfl rfl rfl dX11_readsAll_45 ?_
  refine aw_mem (fun μ7 eμ7 => ?_)
  have k := k μ7 eμ7
  refine aw_aload_n hX dX11_readsAll_48 rfl ?_
  refine aw_iconst hX dX11_readsAll_49 zk_0 ?_
  refine aw_puti hX kp_X11_144 sh_11 (by decide) rfl rfl rfl dX11_readsAll_50 ?_
  refine aw_mem (fun μ8 eμ8 => ?_)
  have k := k μ8 eμ8
  refine aw_aload_n hX dX11_readsAll_53 rfl ?_
  refine aw_invV (As := []) (rest := []) (κ := 11) (o := 0) (T := TX11) (N := 55) hX vc_X11_205 sh_11 (by decide) rfl rfl rfl (Nat.le_of_ble_eq_true rfl) dX11_readsAll_54 k (fun μ10 k => ?_)
  exact k

set_option maxRecDepth 100000 in
set_option maxHeartbeats 4000000 in
theorem st_X11_readsAll_57 {X : zX} {lv : Nat} {Post : Option Value → zM → Prop} (hX : zOk X cX11_readsAll RX11 2 lv) (hr : zRt X (some .boolean) Post)   {μ : zM}
    (k : ((μ.1 11 0 6) = 0 → (Post (some (.int (1 : Int32))) μ)) ∧ (¬ (μ.1 11 0 6) = 0 → (zCallI X lv yX11_isWord cX11_isWord 3 (some .boolean) [.ref (X.G.ad 11 0), .long (164361 : Int64)] μ (fun (r2 : Int32) μ3 => (r2 = 0 → (zCallI X lv yX11_isWord cX11_isWord 3 (some .boolean) [.ref (X.G.ad 11 0), .long (8930039 : Int64)] μ3 (fun (r5 : Int32) μ6 => (r5 = 0 → (zCallI X lv yX11_isWord cX11_isWord 3 (some .boolean) [.ref (X.G.ad 11 0), .long (247172 : Int64)] μ6 (fun (r8 : Int32) μ9 => (r8 = 0 → (zCallI X lv yX11_isWord cX11_isWord 3 (some .boolean) [.ref (X.G.ad 11 0), .long (1613 : Int64)] μ9 (fun (r11 : Int32) μ12 => (r11 = 0 → (zCallI X lv yX11_fails cX11_fails 2 (some .boolean) [.ref (X.G.ad 11 0), .int (1 : Int32)] μ12 (fun (r14 : Int32) μ15 => (¬ r14 = 0 → (AW X 57 [some (.ref (X.G.ad 11 0)), none] [] μ15)) ∧ (r14 = 0 → (Post (some (.int (0 : Int32))) μ15))))) ∧ (¬ r11 = 0 → (zCallI X lv yX11_readsBet cX11_readsBet 2 (some .boolean) [.ref (X.G.ad 11 0)] μ12 (fun (r17 : Int32) μ18 => (¬ r17 = 0 → (AW X 57 [some (.ref (X.G.ad 11 0)), none] [] μ18)) ∧ (r17 = 0 → (Post (some (.int (0 : Int32))) μ18)))))))) ∧ (¬ r8 = 0 → (zCallI X lv yX11_readsLoan cX11_readsLoan 2 (some .boolean) [.ref (X.G.ad 11 0)] μ9 (fun (r20 : Int32) μ21 => (¬ r20 = 0 → (AW X 57 [some (.ref (X.G.ad 11 0)), none] [] μ21)) ∧ (r20 = 0 → (Post (some (.int (0 : Int32))) μ21)))))))) ∧ (¬ r5 = 0 → (zCallI X lv yX11_readsPurse cX11_readsPurse 2 (some .boolean) [.ref (X.G.ad 11 0)] μ6 (fun (r23 : Int32) μ24 => (¬ r23 = 0 → (AW X 57 [some (.ref (X.G.ad 11 0)), none] [] μ24)) ∧ (r23 = 0 → (Post (some (.int (0 : Int32))) μ24)))))))) ∧ (¬ r2 = 0 → (zCallI X lv yX11_readsHill cX11_readsHill 2 (some .boolean) [.ref (X.G.ad 11 0)] μ3 (fun (r26 : Int32) μ27 => (¬ r26 = 0 → (AW X 57 [some (.ref (X.G.ad 11 0)), none] [] μ27)) ∧ (r26 = 0 → (Post (some (.int (0 : Int32))) μ27))))))))) :
    AW X 57 [some (.ref (X.G.ad 11 0)), none] [] μ := by
  refine aw_aload_n hX dX11_readsAll_57 rfl ?_
  refine aw_geti hX kf_X11_157 sh_11 (by decide) rfl dX11_readsAll_58 ?_
  refine aw_if_eq (tgt := 147) hX dX11_readsAll_61 (by decide) (fun c1 => ?_) (fun c1 => ?_)
  · have k := k.1 c1
    refine aw_iconst hX dX11_readsAll_147 zk_1 ?_
    exact aw_zret hX hr (by decide) dX11_readsAll_148 k
  · have k := k.2 c1
    refine aw_aload_n hX dX11_readsAll_64 rfl ?_
    refine aw_ldc2 hX kl_X11_221 dX11_readsAll_65 ?_
    refine aw_invI (As := [.long (164361 : Int64)]) (rest := []) (κ := 11) (o := 0) (T := TX11) (N := 55) hX vc_X11_190 sh_11 (by decide) rfl rfl rfl (Nat.le_of_ble_eq_true rfl) dX11_readsAll_68 k (fun r2 μ3 k => ?_)
    refine aw_if_eq (tgt := 81) hX dX11_readsAll_71 (by decide) (fun c4 => ?_) (fun c4 => ?_)
    · have k := k.1 c4
      refine aw_aload_n hX dX11_readsAll_81 rfl ?_
      refine aw_ldc2 hX kl_X11_225 dX11_readsAll_82 ?_
      refine aw_invI (As := [.long (8930039 : Int64)]) (rest := []) (κ := 11) (o := 0) (T := TX11) (N := 55) hX vc_X11_190 sh_11 (by decide) rfl rfl rfl (Nat.le_of_ble_eq_true rfl) dX11_readsAll_85 k (fun r5 μ6 k => ?_)
      refine aw_if_eq (tgt := 98) hX dX11_readsAll_88 (by decide) (fun c7 => ?_) (fun c7 => ?_)
      · have k := k.1 c7
        refine aw_aload_n hX dX11_readsAll_98 rfl ?_
        refine aw_ldc2 hX kl_X11_227 dX11_readsAll_99 ?_
        refine aw_invI (As := [.long (247172 : Int64)]) (rest := []) (κ := 11) (o := 0) (T := TX11) (N := 55) hX vc_X11_190 sh_11 (by decide) rfl rfl rfl (Nat.le_of_ble_eq_true rfl) dX11_readsAll_102 k (fun r8 μ9 k => ?_)
        refine aw_if_eq (tgt := 115) hX dX11_readsAll_105 (by decide) (fun c10 => ?_) (fun c10 => ?_)
        · have k := k.1 c10
          refine aw_aload_n hX dX11_readsAll_115 rfl ?_
          refine aw_ldc2 hX kl_X11_241 dX11_readsAll_116 ?_
          refine aw_invI (As := [.long (1613 : Int64)]) (rest := []) (κ := 11) (o := 0) (T := TX11) (N := 55) hX vc_X11_190 sh_11 (by decide) rfl rfl rfl (Nat.le_of_ble_eq_true rfl) dX11_readsAll_119 k (fun r11 μ12 k => ?_)
          refine aw_if_eq (tgt := 132) hX dX11_readsAll_122 (by decide) (fun c13 => ?_) (fun c13 => ?_)
          · have k := k.1 c13
            refine aw_aload_n hX dX11_readsAll_132 rfl ?_
            refine aw_iconst hX dX11_readsAll_133 zk_1 ?_
            refine aw_invI (As := [.int (1 : Int32)]) (rest := []) (κ := 11) (o := 0) (T := TX11) (N := 55) hX vc_X11_198 sh_11 (by decide) rfl rfl rfl (Nat.le_of_ble_eq_true rfl) dX11_readsAll_134 k (fun r14 μ15 k => ?_)
            refine aw_istore_n (L' := [some (.ref (X.G.ad 11 0)), some (.int r14)]) hX dX11_readsAll_137 (Nat.le_of_ble_eq_true rfl) rfl ?_
            refine aw_iload_n hX dX11_readsAll_138 rfl ?_
            refine aw_if_ne (tgt := 144) hX dX11_readsAll_139 (by decide) (fun c16 => ?_) (fun c16 => ?_)
            · have k := k.1 c16
              refine aw_goto (tgt := 57) hX dX11_readsAll_144 (by decide) ?_
              exact aw_less (zle_s (zle_o zle_n)) k
            · have k := k.2 c16
              refine aw_iconst hX dX11_readsAll_142 zk_0 ?_
              exact aw_zret hX hr (by decide) dX11_readsAll_143 k
          · have k := k.2 c13
            refine aw_aload_n hX dX11_readsAll_125 rfl ?_
            refine aw_invI (As := []) (rest := []) (κ := 11) (o := 0) (T := TX11) (N := 55) hX vc_X11_305 sh_11 (by decide) rfl rfl rfl (Nat.le_of_ble_eq_true rfl) dX11_readsAll_126 k (fun r17 μ18 k => ?_)
            refine aw_goto (tgt := 137) hX dX11_readsAll_129 (by decide) ?_
            refine aw_istore_n (L' := [some (.ref (X.G.ad 11 0)), some (.int r17)]) hX dX11_readsAll_137 (Nat.le_of_ble_eq_true rfl) rfl ?_
            refine aw_iload_n hX dX11_readsAll_138 rfl ?_
            refine aw_if_ne (tgt := 144) hX dX11_readsAll_139 (by decide) (fun c19 => ?_) (fun c19 => ?_)
            · have k := k.1 c19
              refine aw_goto (tgt := 57) hX dX11_readsAll_144 (by decide) ?_
              exact aw_less (zle_s (zle_o zle_n)) k
            · have k := k.2 c19
              refine aw_iconst hX dX11_readsAll_142 zk_0 ?_
              exact aw_zret hX hr (by decide) dX11_readsAll_143 k
        · have k := k.2 c10
          refine aw_aload_n hX dX11_readsAll_108 rfl ?_
          refine aw_invI (As := []) (rest := []) (κ := 11) (o := 0) (T := TX11) (N := 55) hX vc_X11_302 sh_11 (by decide) rfl rfl rfl (Nat.le_of_ble_eq_true rfl) dX11_readsAll_109 k (fun r20 μ21 k => ?_)
          refine aw_goto (tgt := 137) hX dX11_readsAll_112 (by decide) ?_
          refine aw_istore_n (L' := [some (.ref (X.G.ad 11 0)), some (.int r20)]) hX dX11_readsAll_137 (Nat.le_of_ble_eq_true rfl) rfl ?_
          refine aw_iload_n hX dX11_readsAll_138 rfl ?_
          refine aw_if_ne (tgt := 144) hX dX11_readsAll_139 (by decide) (fun c22 => ?_) (fun c22 => ?_)
          · have k := k.1 c22
            refine aw_goto (tgt := 57) hX dX11_readsAll_144 (by decide) ?_
            exact aw_less (zle_s (zle_o zle_n)) k
          · have k := k.2 c22
            refine aw_iconst hX dX11_readsAll_142 zk_0 ?_
            exact aw_zret hX hr (by decide) dX11_readsAll_143 k
      · have k := k.2 c7
        refine aw_aload_n hX dX11_readsAll_91 rfl ?_
        refine aw_invI (As := []) (rest := []) (κ := 11) (o := 0) (T := TX11) (N := 55) hX vc_X11_299 sh_11 (by decide) rfl rfl rfl (Nat.le_of_ble_eq_true rfl) dX11_readsAll_92 k (fun r23 μ24 k => ?_)
        refine aw_goto (tgt := 137) hX dX11_readsAll_95 (by decide) ?_
        refine aw_istore_n (L' := [some (.ref (X.G.ad 11 0)), some (.int r23)]) hX dX11_readsAll_137 (Nat.le_of_ble_eq_true rfl) rfl ?_
        refine aw_iload_n hX dX11_readsAll_138 rfl ?_
        refine aw_if_ne (tgt := 144) hX dX11_readsAll_139 (by decide) (fun c25 => ?_) (fun c25 => ?_)
        · have k := k.1 c25
          refine aw_goto (tgt := 57) hX dX11_readsAll_144 (by decide) ?_
          exact aw_less (zle_s (zle_o zle_n)) k
        · have k := k.2 c25
          refine aw_iconst hX dX11_readsAll_142 zk_0 ?_
          exact aw_zret hX hr (by decide) dX11_readsAll_143 k
    · have k := k.2 c4
      refine aw_aload_n hX dX11_readsAll_74 rfl ?_
      refine aw_invI (As := []) (rest := []) (κ := 11) (o := 0) (T := TX11) (N := 55) hX vc_X11_296 sh_11 (by decide) rfl rfl rfl (Nat.le_of_ble_eq_true rfl) dX11_readsAll_75 k (fun r26 μ27 k => ?_)
      refine aw_goto (tgt := 137) hX dX11_readsAll_78 (by decide) ?_
      refine aw_istore_n (L' := [some (.ref (X.G.ad 11 0)), some (.int r26)]) hX dX11_readsAll_137 (Nat.le_of_ble_eq_true rfl) rfl ?_
      refine aw_iload_n hX dX11_readsAll_138 rfl ?_
      refine aw_if_ne (tgt := 144) hX dX11_readsAll_139 (by decide) (fun c28 => ?_) (fun c28 => ?_)
      · have k := k.1 c28
        refine aw_goto (tgt := 57) hX dX11_readsAll_144 (by decide) ?_
        exact aw_less (zle_s (zle_o zle_n)) k
      · have k := k.2 c28
        refine aw_iconst hX dX11_readsAll_142 zk_0 ?_
        exact aw_zret hX hr (by decide) dX11_readsAll_143 k

set_option maxRecDepth 100000 in
set_option maxHeartbeats 4000000 in
theorem st_X11_moves_0 {X : zX} {lv : Nat} {Post : Option Value → zM → Prop} (hX : zOk X cX11_moves RX11 5 lv) (hr : zRt X none Post) {κ0 o0 n0 l0 : Nat} {q0 : Nat × Nat × Nat} (hs0 : zzSh[κ0]? = some (n0, .inl (0, l0, 0, q0))) (ho0 : o0 < n0) {x1 : Int32} {x2 : Int32} {x3 : Int32} {μ : zM}
    (k : AW X 3 [some (.ref (X.G.ad κ0 o0)), some (.int x1), some (.int x2), some (.int x3), some (.int (0 : Int32))] [] μ) :
    AW X 0 [some (.ref (X.G.ad κ0 o0)), some (.int x1), some (.int x2), some (.int x3), none] [] μ := by
  refine aw_iconst hX dX11_moves_0 zk_0 ?_
  refine aw_istore (L' := [some (.ref (X.G.ad κ0 o0)), some (.int x1), some (.int x2), some (.int x3), some (.int (0 : Int32))]) hX dX11_moves_1 (Nat.le_of_ble_eq_true rfl) rfl ?_
  exact k

set_option maxRecDepth 100000 in
set_option maxHeartbeats 4000000 in
theorem st_X11_moves_3 {X : zX} {lv : Nat} {Post : Option Value → zM → Prop} (hX : zOk X cX11_moves RX11 5 lv) (hr : zRt X none Post) {κ0 o0 n0 l0 : Nat} {q0 : Nat × Nat × Nat} (hs0 : zzSh[κ0]? = some (n0, .inl (0, l0, 0, q0))) (ho0 : o0 < n0) {x1 : Int32} {x2 : Int32} {x3 : Int32} {x4 : Int32} {μ : zM}
    (k : (x1 ≤ x4 → (Post none μ)) ∧ (¬ x1 ≤ x4 → ((vp_in ((x1 * x2) + x4) l0) ∧ ((vp_in ((x1 * x3) + x4) l0) ∧ (∀ μ4 : zM, μ4 = pI μ κ0 o0 (ix ((x1 * x3) + x4)) (μ.1 κ0 o0 (ix ((x1 * x2) + x4))) → (∀ v5 : Int32, v5 = x4 + (1 : Int32) → (AW X 3 [some (.ref (X.G.ad κ0 o0)), some (.int x1), some (.int x2), some (.int x3), some (.int v5)] [] μ4))))))) :
    AW X 3 [some (.ref (X.G.ad κ0 o0)), some (.int x1), some (.int x2), some (.int x3), some (.int x4)] [] μ := by
  refine aw_iload hX dX11_moves_3 rfl ?_
  refine aw_iload_n hX dX11_moves_5 rfl ?_
  refine aw_icmp_ge (tgt := 31) hX dX11_moves_6 (by decide) (fun c1 => ?_) (fun c1 => ?_)
  · have k := k.1 c1
    exact aw_vret hX hr dX11_moves_31 k
  · have k := k.2 c1
    refine aw_aload_n hX dX11_moves_9 rfl ?_
    refine aw_iload_n hX dX11_moves_10 rfl ?_
    refine aw_iload_n hX dX11_moves_11 rfl ?_
    refine aw_imul hX dX11_moves_12 ?_
    refine aw_iload hX dX11_moves_13 rfl ?_
    refine aw_iadd hX dX11_moves_15 ?_
    refine aw_aload_n hX dX11_moves_16 rfl ?_
    refine aw_iload_n hX dX11_moves_17 rfl ?_
    refine aw_iload_n hX dX11_moves_18 rfl ?_
    refine aw_imul hX dX11_moves_19 ?_
    refine aw_iload hX dX11_moves_20 rfl ?_
    refine aw_iadd hX dX11_moves_22 ?_
    have s2 := k.1
    have k := k.2
    refine aw_iald' (k := (ix ((x1 * x2) + x4))) hX hs0 ho0 s2 rfl dX11_moves_23 ?_
    have s3 := k.1
    have k := k.2
    refine aw_iast' (k := (ix ((x1 * x3) + x4))) hX hs0 ho0 s3 rfl dX11_moves_24 ?_
    refine aw_mem (fun μ4 eμ4 => ?_)
    have k := k μ4 eμ4
    obtain ⟨v5, ev5⟩ : ∃ y : Int32, y = x4 + (1 : Int32) := ⟨_, rfl⟩
    have k := k v5 ev5
    refine aw_iinc (v := v5) (L' := [some (.ref (X.G.ad κ0 o0)), some (.int x1), some (.int x2), some (.int x3), some (.int v5)]) hX dX11_moves_25 rfl (by rw [ev5]; rfl) (Nat.le_of_ble_eq_true rfl) rfl ?_
    refine aw_goto (tgt := 3) hX dX11_moves_28 (by decide) ?_
    exact k

set_option maxRecDepth 100000 in
set_option maxHeartbeats 4000000 in
theorem st_X11_lays_0 {X : zX} {lv : Nat} {Post : Option Value → zM → Prop} (hX : zOk X cX11_lays RX11 4 lv) (hr : zRt X none Post)  {x1 : Int32} {x2 : Int32} {μ : zM}
    (k : zCallV X lv yX11_moves cX11_moves 5 none [.ref (X.G.ad 36 0), .int (1 : Int32), .int x1, .int x2] μ (fun μ2 => zCallV X lv yX11_moves cX11_moves 5 none [.ref (X.G.ad 37 0), .int (1 : Int32), .int x1, .int x2] μ2 (fun μ4 => zCallV X lv yX11_moves cX11_moves 5 none [.ref (X.G.ad 38 0), .int (1 : Int32), .int x1, .int x2] μ4 (fun μ6 => zCallV X lv yX11_moves cX11_moves 5 none [.ref (X.G.ad 39 0), .int (1 : Int32), .int x1, .int x2] μ6 (fun μ8 => zCallV X lv yX11_moves cX11_moves 5 none [.ref (X.G.ad 42 0), .int (4 : Int32), .int x1, .int x2] μ8 (fun μ10 => zCallV X lv yX11_moves cX11_moves 5 none [.ref (X.G.ad 43 0), .int (4 : Int32), .int x1, .int x2] μ10 (fun μ12 => zCallV X lv yX11_moves cX11_moves 5 none [.ref (X.G.ad 44 0), .int (6 : Int32), .int x1, .int x2] μ12 (fun μ14 => zCallV X lv yX11_moves cX11_moves 5 none [.ref (X.G.ad 45 0), .int (10 : Int32), .int x1, .int x2] μ14 (fun μ16 => zCallV X lv yX11_moves cX11_moves 5 none [.ref (X.G.ad 46 0), .int (10 : Int32), .int x1, .int x2] μ16 (fun μ18 => zCallV X lv yX11_moves cX11_moves 5 none [.ref (X.G.ad 47 0), .int (10 : Int32), .int x1, .int x2] μ18 (fun μ20 => zCallV X lv yX11_moves cX11_moves 5 none [.ref (X.G.ad 48 0), .int (10 : Int32), .int x1, .int x2] μ20 (fun μ22 => zCallV X lv yX11_moves cX11_moves 5 none [.ref (X.G.ad 49 0), .int (10 : Int32), .int x1, .int x2] μ22 (fun μ24 => zCallV X lv yX11_moves cX11_moves 5 none [.ref (X.G.ad 50 0), .int (10 : Int32), .int x1, .int x2] μ24 (fun μ26 => zCallV X lv yX11_moves cX11_moves 5 none [.ref (X.G.ad 51 0), .int (10 : Int32), .int x1, .int x2] μ26 (fun μ28 => zCallV X lv yX11_moves cX11_moves 5 none [.ref (X.G.ad 52 0), .int (10 : Int32), .int x1, .int x2] μ28 (fun μ30 => zCallV X lv yX11_moves cX11_moves 5 none [.ref (X.G.ad 53 0), .int (8 : Int32), .int x1, .int x2] μ30 (fun μ32 => zCallV X lv yX11_moves cX11_moves 5 none [.ref (X.G.ad 54 0), .int (8 : Int32), .int x1, .int x2] μ32 (fun μ34 => zCallV X lv yX11_moves cX11_moves 5 none [.ref (X.G.ad 57 0), .int (1000 : Int32), .int x1, .int x2] μ34 (fun μ36 => AW X 195 [some (.ref (X.G.ad 11 0)), some (.int x1), some (.int x2), some (.int (0 : Int32))] [] μ36))))))))))))))))))) :
    AW X 0 [some (.ref (X.G.ad 11 0)), some (.int x1), some (.int x2), none] [] μ := by
  refine aw_aload_n hX dX11_lays_0 rfl ?_
  refine aw_getr (o' := 0) hX kf_X11_13 sh_11 (by decide) rfl rfl dX11_lays_1 ?_
  refine aw_iconst hX dX11_lays_4 zk_1 ?_
  refine aw_iload_n hX dX11_lays_5 rfl ?_
  refine aw_iload_n hX dX11_lays_6 rfl ?_
  refine aw_ivsV (As := [.ref (X.G.ad 36 0), .int (1 : Int32), .int x1, .int x2]) (rest := []) hX sc_X11_308 rfl rfl (Nat.le_of_ble_eq_true rfl) dX11_lays_7 k (fun μ2 k => ?_)
  refine aw_aload_n hX dX11_lays_10 rfl ?_
  refine aw_getr (o' := 0) hX kf_X11_16 sh_11 (by decide) rfl rfl dX11_lays_11 ?_
  refine aw_iconst hX dX11_lays_14 zk_1 ?_
  refine aw_iload_n hX dX11_lays_15 rfl ?_
  refine aw_iload_n hX dX11_lays_16 rfl ?_
  refine aw_ivsV (As := [.ref (X.G.ad 37 0), .int (1 : Int32), .int x1, .int x2]) (rest := []) hX sc_X11_308 rfl rfl (Nat.le_of_ble_eq_true rfl) dX11_lays_17 k (fun μ4 k => ?_)
  refine aw_aload_n hX dX11_lays_20 rfl ?_
  refine aw_getr (o' := 0) hX kf_X11_19 sh_11 (by decide) rfl rfl dX11_lays_21 ?_
  refine aw_iconst hX dX11_lays_24 zk_1 ?_
  refine aw_iload_n hX dX11_lays_25 rfl ?_
  refine aw_iload_n hX dX11_lays_26 rfl ?_
  refine aw_ivsV (As := [.ref (X.G.ad 38 0), .int (1 : Int32), .int x1, .int x2]) (rest := []) hX sc_X11_308 rfl rfl (Nat.le_of_ble_eq_true rfl) dX11_lays_27 k (fun μ6 k => ?_)
  refine aw_aload_n hX dX11_lays_30 rfl ?_
  refine aw_getr (o' := 0) hX kf_X11_22 sh_11 (by decide) rfl rfl dX11_lays_31 ?_
  refine aw_iconst hX dX11_lays_34 zk_1 ?_
  refine aw_iload_n hX dX11_lays_35 rfl ?_
  refine aw_iload_n hX dX11_lays_36 rfl ?_
  refine aw_ivsV (As := [.ref (X.G.ad 39 0), .int (1 : Int32), .int x1, .int x2]) (rest := []) hX sc_X11_308 rfl rfl (Nat.le_of_ble_eq_true rfl) dX11_lays_37 k (fun μ8 k => ?_)
  refine aw_aload_n hX dX11_lays_40 rfl ?_
  refine aw_getr (o' := 0) hX kf_X11_32 sh_11 (by decide) rfl rfl dX11_lays_41 ?_
  refine aw_iconst hX dX11_lays_44 zk_4 ?_
  refine aw_iload_n hX dX11_lays_45 rfl ?_
  refine aw_iload_n hX dX11_lays_46 rfl ?_
  refine aw_ivsV (As := [.ref (X.G.ad 42 0), .int (4 : Int32), .int x1, .int x2]) (rest := []) hX sc_X11_308 rfl rfl (Nat.le_of_ble_eq_true rfl) dX11_lays_47 k (fun μ10 k => ?_)
  refine aw_aload_n hX dX11_lays_50 rfl ?_
  refine aw_getr (o' := 0) hX kf_X11_35 sh_11 (by decide) rfl rfl dX11_lays_51 ?_
  refine aw_iconst hX dX11_lays_54 zk_4 ?_
  refine aw_iload_n hX dX11_lays_55 rfl ?_
  refine aw_iload_n hX dX11_lays_56 rfl ?_
  refine aw_ivsV (As := [.ref (X.G.ad 43 0), .int (4 : Int32), .int x1, .int x2]) (rest := []) hX sc_X11_308 rfl rfl (Nat.le_of_ble_eq_true rfl) dX11_lays_57 k (fun μ12 k => ?_)
  refine aw_aload_n hX dX11_lays_60 rfl ?_
  refine aw_getr (o' := 0) hX kf_X11_38 sh_11 (by decide) rfl rfl dX11_lays_61 ?_
  refine aw_bipush hX dX11_lays_64 zb_6 ?_
  refine aw_iload_n hX dX11_lays_66 rfl ?_
  refine aw_iload_n hX dX11_lays_67 rfl ?_
  refine aw_ivsV (As := [.ref (X.G.ad 44 0), .int (6 : Int32), .int x1, .int x2]) (rest := []) hX sc_X11_308 rfl rfl (Nat.le_of_ble_eq_true rfl) dX11_lays_68 k (fun μ14 k => ?_)
  refine aw_aload_n hX dX11_lays_71 rfl ?_
  refine aw_getr (o' := 0) hX kf_X11_41 sh_11 (by decide) rfl rfl dX11_lays_72 ?_
  refine aw_bipush hX dX11_lays_75 zb_10 ?_
  refine aw_iload_n hX dX11_lays_77 rfl ?_
  refine aw_iload_n hX dX11_lays_78 rfl ?_
  refine aw_ivsV (As := [.ref (X.G.ad 45 0), .int (10 : Int32), .int x1, .int x2]) (rest := []) hX sc_X11_308 rfl rfl (Nat.le_of_ble_eq_true rfl) dX11_lays_79 k (fun μ16 k => ?_)
  refine aw_aload_n hX dX11_lays_82 rfl ?_
  refine aw_getr (o' := 0) hX kf_X11_44 sh_11 (by decide) rfl rfl dX11_lays_83 ?_
  refine aw_bipush hX dX11_lays_86 zb_10 ?_
  refine aw_iload_n hX dX11_lays_88 rfl ?_
  refine aw_iload_n hX dX11_lays_89 rfl ?_
  refine aw_ivsV (As := [.ref (X.G.ad 46 0), .int (10 : Int32), .int x1, .int x2]) (rest := []) hX sc_X11_308 rfl rfl (Nat.le_of_ble_eq_true rfl) dX11_lays_90 k (fun μ18 k => ?_)
  refine aw_aload_n hX dX11_lays_93 rfl ?_
  refine aw_getr (o' := 0) hX kf_X11_47 sh_11 (by decide) rfl rfl dX11_lays_94 ?_
  refine aw_bipush hX dX11_lays_97 zb_10 ?_
  refine aw_iload_n hX dX11_lays_99 rfl ?_
  refine aw_iload_n hX dX11_lays_100 rfl ?_
  refine aw_ivsV (As := [.ref (X.G.ad 47 0), .int (10 : Int32), .int x1, .int x2]) (rest := []) hX sc_X11_308 rfl rfl (Nat.le_of_ble_eq_true rfl) dX11_lays_101 k (fun μ20 k => ?_)
  refine aw_aload_n hX dX11_lays_104 rfl ?_
  refine aw_getr (o' := 0) hX kf_X11_50 sh_11 (by decide) rfl rfl dX11_lays_105 ?_
  refine aw_bipush hX dX11_lays_108 zb_10 ?_
  refine aw_iload_n hX dX11_lays_110 rfl ?_
  refine aw_iload_n hX dX11_lays_111 rfl ?_
  refine aw_ivsV (As := [.ref (X.G.ad 48 0), .int (10 : Int32), .int x1, .int x2]) (rest := []) hX sc_X11_308 rfl rfl (Nat.le_of_ble_eq_true rfl) dX11_lays_112 k (fun μ22 k => ?_)
  refine aw_aload_n hX dX11_lays_115 rfl ?_
  refine aw_getr (o' := 0) hX kf_X11_53 sh_11 (by decide) rfl rfl dX11_lays_116 ?_
  refine aw_bipush hX dX11_lays_119 zb_10 ?_
  refine aw_iload_n hX dX11_lays_121 rfl ?_
  refine aw_iload_n hX dX11_lays_122 rfl ?_
  refine aw_ivsV (As := [.ref (X.G.ad 49 0), .int (10 : Int32), .int x1, .int x2]) (rest := []) hX sc_X11_308 rfl rfl (Nat.le_of_ble_eq_true rfl) dX11_lays_123 k (fun μ24 k => ?_)
  refine aw_aload_n hX dX11_lays_126 rfl ?_
  refine aw_getr (o' := 0) hX kf_X11_56 sh_11 (by decide) rfl rfl dX11_lays_127 ?_
  refine aw_bipush hX dX11_lays_130 zb_10 ?_
  refine aw_iload_n hX dX11_lays_132 rfl ?_
  refine aw_iload_n hX dX11_lays_133 rfl ?_
  refine aw_ivsV (As := [.ref (X.G.ad 50 0), .int (10 : Int32), .int x1, .int x2]) (rest := []) hX sc_X11_308 rfl rfl (Nat.le_of_ble_eq_true rfl) dX11_lays_134 k (fun μ26 k => ?_)
  refine aw_aload_n hX dX11_lays_137 rfl ?_
  refine aw_getr (o' := 0) hX kf_X11_59 sh_11 (by decide) rfl rfl dX11_lays_138 ?_
  refine aw_bipush hX dX11_lays_141 zb_10 ?_
  refine aw_iload_n hX dX11_lays_143 rfl ?_
  refine aw_iload_n hX dX11_lays_144 rfl ?_
  refine aw_ivsV (As := [.ref (X.G.ad 51 0), .int (10 : Int32), .int x1, .int x2]) (rest := []) hX sc_X11_308 rfl rfl (Nat.le_of_ble_eq_true rfl) dX11_lays_145 k (fun μ28 k => ?_)
  refine aw_aload_n hX dX11_lays_148 rfl ?_
  refine aw_getr (o' := 0) hX kf_X11_62 sh_11 (by decide) rfl rfl dX11_lays_149 ?_
  refine aw_bipush hX dX11_lays_152 zb_10 ?_
  refine aw_iload_n hX dX11_lays_154 rfl ?_
  refine aw_iload_n hX dX11_lays_155 rfl ?_
  refine aw_ivsV (As := [.ref (X.G.ad 52 0), .int (10 : Int32), .int x1, .int x2]) (rest := []) hX sc_X11_308 rfl rfl (Nat.le_of_ble_eq_true rfl) dX11_lays_156 k (fun μ30 k => ?_)
  refine aw_aload_n hX dX11_lays_159 rfl ?_
  refine aw_getr (o' := 0) hX kf_X11_65 sh_11 (by decide) rfl rfl dX11_lays_160 ?_
  refine aw_bipush hX dX11_lays_163 zb_8 ?_
  refine aw_iload_n hX dX11_lays_165 rfl ?_
  refine aw_iload_n hX dX11_lays_166 rfl ?_
  refine aw_ivsV (As := [.ref (X.G.ad 53 0), .int (8 : Int32), .int x1, .int x2]) (rest := []) hX sc_X11_308 rfl rfl (Nat.le_of_ble_eq_true rfl) dX11_lays_167 k (fun μ32 k => ?_)
  refine aw_aload_n hX dX11_lays_170 rfl ?_
  refine aw_getr (o' := 0) hX kf_X11_68 sh_11 (by decide) rfl rfl dX11_lays_171 ?_
  refine aw_bipush hX dX11_lays_174 zb_8 ?_
  refine aw_iload_n hX dX11_lays_176 rfl ?_
  refine aw_iload_n hX dX11_lays_177 rfl ?_
  refine aw_ivsV (As := [.ref (X.G.ad 54 0), .int (8 : Int32), .int x1, .int x2]) (rest := []) hX sc_X11_308 rfl rfl (Nat.le_of_ble_eq_true rfl) dX11_lays_178 k (fun μ34 k => ?_)
  refine aw_aload_n hX dX11_lays_181 rfl ?_
  refine aw_getr (o' := 0) hX kf_X11_77 sh_11 (by decide) rfl rfl dX11_lays_182 ?_
  refine aw_sipush hX dX11_lays_185 zs_1000 ?_
  refine aw_iload_n hX dX11_lays_188 rfl ?_
  refine aw_iload_n hX dX11_lays_189 rfl ?_
  refine aw_ivsV (As := [.ref (X.G.ad 57 0), .int (1000 : Int32), .int x1, .int x2]) (rest := []) hX sc_X11_308 rfl rfl (Nat.le_of_ble_eq_true rfl) dX11_lays_190 k (fun μ36 k => ?_)
  refine aw_iconst hX dX11_lays_193 zk_0 ?_
  refine aw_istore_n (L' := [some (.ref (X.G.ad 11 0)), some (.int x1), some (.int x2), some (.int (0 : Int32))]) hX dX11_lays_194 (Nat.le_of_ble_eq_true rfl) rfl ?_
  exact k

set_option maxRecDepth 100000 in
set_option maxHeartbeats 4000000 in
theorem st_X11_lays_195 {X : zX} {lv : Nat} {Post : Option Value → zM → Prop} (hX : zOk X cX11_lays RX11 4 lv) (hr : zRt X none Post)  {x1 : Int32} {x2 : Int32} {x3 : Int32} {μ : zM}
    (k : ((8 : Int32) ≤ x3 → (Post none μ)) ∧ (¬ (8 : Int32) ≤ x3 → ((vp_in (((8 : Int32) * x1) + x3) 48) ∧ ((vp_in (((8 : Int32) * x2) + x3) 48) ∧ (∀ μ4 : zM, μ4 = pI μ 55 0 (ix (((8 : Int32) * x2) + x3)) ((μ.1 55 0 (ix (((8 : Int32) * x1) + x3))) + ((1000 : Int32) * (x2 - x1))) → (∀ μ5 : zM, μ5 = pI μ4 56 0 (ix (((8 : Int32) * x2) + x3)) ((μ4.1 56 0 (ix (((8 : Int32) * x1) + x3))) + ((1000 : Int32) * (x2 - x1))) → (∀ v6 : Int32, v6 = x3 + (1 : Int32) → (AW X 195 [some (.ref (X.G.ad 11 0)), some (.int x1), some (.int x2), some (.int v6)] [] μ5)))))))) :
    AW X 195 [some (.ref (X.G.ad 11 0)), some (.int x1), some (.int x2), some (.int x3)] [] μ := by
  refine aw_iload_n hX dX11_lays_195 rfl ?_
  refine aw_bipush hX dX11_lays_196 zb_8 ?_
  refine aw_icmp_ge (tgt := 267) hX dX11_lays_198 (by decide) (fun c1 => ?_) (fun c1 => ?_)
  · have k := k.1 c1
    exact aw_vret hX hr dX11_lays_267 k
  · have k := k.2 c1
    refine aw_aload_n hX dX11_lays_201 rfl ?_
    refine aw_getr (o' := 0) hX kf_X11_71 sh_11 (by decide) rfl rfl dX11_lays_202 ?_
    refine aw_bipush hX dX11_lays_205 zb_8 ?_
    refine aw_iload_n hX dX11_lays_207 rfl ?_
    refine aw_imul hX dX11_lays_208 ?_
    refine aw_iload_n hX dX11_lays_209 rfl ?_
    refine aw_iadd hX dX11_lays_210 ?_
    refine aw_aload_n hX dX11_lays_211 rfl ?_
    refine aw_getr (o' := 0) hX kf_X11_71 sh_11 (by decide) rfl rfl dX11_lays_212 ?_
    refine aw_bipush hX dX11_lays_215 zb_8 ?_
    refine aw_iload_n hX dX11_lays_217 rfl ?_
    refine aw_imul hX dX11_lays_218 ?_
    refine aw_iload_n hX dX11_lays_219 rfl ?_
    refine aw_iadd hX dX11_lays_220 ?_
    have s2 := k.1
    have k := k.2
    refine aw_iald' (k := (ix (((8 : Int32) * x1) + x3))) hX sh_55 (by decide) s2 rfl dX11_lays_221 ?_
    refine aw_sipush hX dX11_lays_222 zs_1000 ?_
    refine aw_iload_n hX dX11_lays_225 rfl ?_
    refine aw_iload_n hX dX11_lays_226 rfl ?_
    refine aw_isub hX dX11_lays_227 ?_
    refine aw_imul hX dX11_lays_228 ?_
    refine aw_iadd hX dX11_lays_229 ?_
    have s3 := k.1
    have k := k.2
    refine aw_iast' (k := (ix (((8 : Int32) * x2) + x3))) hX sh_55 (by decide) s3 rfl dX11_lays_230 ?_
    refine aw_mem (fun μ4 eμ4 => ?_)
    have k := k μ4 eμ4
    refine aw_aload_n hX dX11_lays_231 rfl ?_
    refine aw_getr (o' := 0) hX kf_X11_74 sh_11 (by decide) rfl rfl dX11_lays_232 ?_
    refine aw_bipush hX dX11_lays_235 zb_8 ?_
    refine aw_iload_n hX dX11_lays_237 rfl ?_
    refine aw_imul hX dX11_lays_238 ?_
    refine aw_iload_n hX dX11_lays_239 rfl ?_
    refine aw_iadd hX dX11_lays_240 ?_
    refine aw_aload_n hX dX11_lays_241 rfl ?_
    refine aw_getr (o' := 0) hX kf_X11_74 sh_11 (by decide) rfl rfl dX11_lays_242 ?_
    refine aw_bipush hX dX11_lays_245 zb_8 ?_
    refine aw_iload_n hX dX11_lays_247 rfl ?_
    refine aw_imul hX dX11_lays_248 ?_
    refine aw_iload_n hX dX11_lays_249 rfl ?_
    refine aw_iadd hX dX11_lays_250 ?_
    refine aw_iald' (k := (ix (((8 : Int32) * x1) + x3))) hX sh_56 (by decide) s2 rfl dX11_lays_251 ?_
    refine aw_sipush hX dX11_lays_252 zs_1000 ?_
    refine aw_iload_n hX dX11_lays_255 rfl ?_
    refine aw_iload_n hX dX11_lays_256 rfl ?_
    refine aw_isub hX dX11_lays_257 ?_
    refine aw_imul hX dX11_lays_258 ?_
    refine aw_iadd hX dX11_lays_259 ?_
    refine aw_iast' (k := (ix (((8 : Int32) * x2) + x3))) hX sh_56 (by decide) s3 rfl dX11_lays_260 ?_
    refine aw_mem (fun μ5 eμ5 => ?_)
    have k := k μ5 eμ5
    obtain ⟨v6, ev6⟩ : ∃ y : Int32, y = x3 + (1 : Int32) := ⟨_, rfl⟩
    have k := k v6 ev6
    refine aw_iinc (v := v6) (L' := [some (.ref (X.G.ad 11 0)), some (.int x1), some (.int x2), some (.int v6)]) hX dX11_lays_261 rfl (by rw [ev6]; rfl) (Nat.le_of_ble_eq_true rfl) rfl ?_
    refine aw_goto (tgt := 195) hX dX11_lays_264 (by decide) ?_
    exact k

set_option maxRecDepth 100000 in
set_option maxHeartbeats 4000000 in
theorem st_X11_copies_0 {X : zX} {lv : Nat} {Post : Option Value → zM → Prop} (hX : zOk X cX11_copies RX11 5 lv) (hr : zRt X none Post) {κ0 o0 n0 l0 : Nat} {q0 : Nat × Nat × Nat} (hs0 : zzSh[κ0]? = some (n0, .inl (0, l0, 0, q0))) (ho0 : o0 < n0) {κ2 o2 n2 l2 : Nat} {q2 : Nat × Nat × Nat} (hs2 : zzSh[κ2]? = some (n2, .inl (0, l2, 0, q2))) (ho2 : o2 < n2) {x1 : Int32} {x3 : Int32} {μ : zM}
    (k : AW X 3 [some (.ref (X.G.ad κ0 o0)), some (.int x1), some (.ref (X.G.ad κ2 o2)), some (.int x3), some (.int (0 : Int32))] [] μ) :
    AW X 0 [some (.ref (X.G.ad κ0 o0)), some (.int x1), some (.ref (X.G.ad κ2 o2)), some (.int x3), none] [] μ := by
  refine aw_iconst hX dX11_copies_0 zk_0 ?_
  refine aw_istore (L' := [some (.ref (X.G.ad κ0 o0)), some (.int x1), some (.ref (X.G.ad κ2 o2)), some (.int x3), some (.int (0 : Int32))]) hX dX11_copies_1 (Nat.le_of_ble_eq_true rfl) rfl ?_
  exact k

set_option maxRecDepth 100000 in
set_option maxHeartbeats 4000000 in
theorem st_X11_copies_3 {X : zX} {lv : Nat} {Post : Option Value → zM → Prop} (hX : zOk X cX11_copies RX11 5 lv) (hr : zRt X none Post) {κ0 o0 n0 l0 : Nat} {q0 : Nat × Nat × Nat} (hs0 : zzSh[κ0]? = some (n0, .inl (0, l0, 0, q0))) (ho0 : o0 < n0) {κ2 o2 n2 l2 : Nat} {q2 : Nat × Nat × Nat} (hs2 : zzSh[κ2]? = some (n2, .inl (0, l2, 0, q2))) (ho2 : o2 < n2) {x1 : Int32} {x3 : Int32} {x4 : Int32} {μ : zM}
    (k : ((64 : Int32) ≤ x4 → (Post none μ)) ∧ (¬ (64 : Int32) ≤ x4 → ((vp_in (x1 + x4) l0) ∧ ((vp_in (x3 + x4) l2) ∧ (∀ μ4 : zM, μ4 = pI μ κ2 o2 (ix (x3 + x4)) (μ.1 κ0 o0 (ix (x1 + x4))) → (∀ v5 : Int32, v5 = x4 + (1 : Int32) → (AW X 3 [some (.ref (X.G.ad κ0 o0)), some (.int x1), some (.ref (X.G.ad κ2 o2)), some (.int x3), some (.int v5)] [] μ4))))))) :
    AW X 3 [some (.ref (X.G.ad κ0 o0)), some (.int x1), some (.ref (X.G.ad κ2 o2)), some (.int x3), some (.int x4)] [] μ := by
  refine aw_iload hX dX11_copies_3 rfl ?_
  refine aw_bipush hX dX11_copies_5 zb_64 ?_
  refine aw_icmp_ge (tgt := 28) hX dX11_copies_7 (by decide) (fun c1 => ?_) (fun c1 => ?_)
  · have k := k.1 c1
    exact aw_vret hX hr dX11_copies_28 k
  · have k := k.2 c1
    refine aw_aload_n hX dX11_copies_10 rfl ?_
    refine aw_iload_n hX dX11_copies_11 rfl ?_
    refine aw_iload hX dX11_copies_12 rfl ?_
    refine aw_iadd hX dX11_copies_14 ?_
    refine aw_aload_n hX dX11_copies_15 rfl ?_
    refine aw_iload_n hX dX11_copies_16 rfl ?_
    refine aw_iload hX dX11_copies_17 rfl ?_
    refine aw_iadd hX dX11_copies_19 ?_
    have s2 := k.1
    have k := k.2
    refine aw_iald' (k := (ix (x1 + x4))) hX hs0 ho0 s2 rfl dX11_copies_20 ?_
    have s3 := k.1
    have k := k.2
    refine aw_iast' (k := (ix (x3 + x4))) hX hs2 ho2 s3 rfl dX11_copies_21 ?_
    refine aw_mem (fun μ4 eμ4 => ?_)
    have k := k μ4 eμ4
    obtain ⟨v5, ev5⟩ : ∃ y : Int32, y = x4 + (1 : Int32) := ⟨_, rfl⟩
    have k := k v5 ev5
    refine aw_iinc (v := v5) (L' := [some (.ref (X.G.ad κ0 o0)), some (.int x1), some (.ref (X.G.ad κ2 o2)), some (.int x3), some (.int v5)]) hX dX11_copies_22 rfl (by rw [ev5]; rfl) (Nat.le_of_ble_eq_true rfl) rfl ?_
    refine aw_goto (tgt := 3) hX dX11_copies_25 (by decide) ?_
    exact k

set_option maxRecDepth 100000 in
set_option maxHeartbeats 4000000 in
theorem st_X11_custom_0 {X : zX} {lv : Nat} {Post : Option Value → zM → Prop} (hX : zOk X cX11_custom RX11 2 lv) (hr : zRt X (some .int) Post)   {μ : zM}
    (k : ∀ μ1 : zM, μ1 = pI μ 11 0 0 (0 : Int32) → (zCallI X lv yX11_readsAll cX11_readsAll 2 (some .boolean) [.ref (X.G.ad 11 0)] μ1 (fun (r2 : Int32) μ3 => (¬ r2 = 0 → (zCallV X lv yX11_lays cX11_lays 4 none [.ref (X.G.ad 11 0), .int (1 : Int32), .int (0 : Int32)] μ3 (fun μ6 => ∀ μ7 : zM, μ7 = pI μ6 11 0 50 (0 : Int32) → (AW X 30 [some (.ref (X.G.ad 11 0)), some (.int (0 : Int32))] [] μ7)))) ∧ (r2 = 0 → (Post (some (.int (μ3.1 11 0 9))) μ3))))) :
    AW X 0 [some (.ref (X.G.ad 11 0)), none] [] μ := by
  refine aw_aload_n hX dX11_custom_0 rfl ?_
  refine aw_iconst hX dX11_custom_1 zk_0 ?_
  refine aw_puti hX kp_X11_132 sh_11 (by decide) rfl rfl rfl dX11_custom_2 ?_
  refine aw_mem (fun μ1 eμ1 => ?_)
  have k := k μ1 eμ1
  refine aw_aload_n hX dX11_custom_5 rfl ?_
  refine aw_invI (As := []) (rest := []) (κ := 11) (o := 0) (T := TX11) (N := 55) hX vc_X11_312 sh_11 (by decide) rfl rfl rfl (Nat.le_of_ble_eq_true rfl) dX11_custom_6 k (fun r2 μ3 k => ?_)
  refine aw_if_ne (tgt := 17) hX dX11_custom_9 (by decide) (fun c4 => ?_) (fun c4 => ?_)
  · have k := k.1 c4
    refine aw_aload_n hX dX11_custom_17 rfl ?_
    refine aw_iconst hX dX11_custom_18 zk_1 ?_
    refine aw_iconst hX dX11_custom_19 zk_0 ?_
    refine aw_invV (As := [.int (1 : Int32), .int (0 : Int32)]) (rest := []) (κ := 11) (o := 0) (T := TX11) (N := 55) hX vc_X11_315 sh_11 (by decide) rfl rfl rfl (Nat.le_of_ble_eq_true rfl) dX11_custom_20 k (fun μ6 k => ?_)
    refine aw_aload_n hX dX11_custom_23 rfl ?_
    refine aw_iconst hX dX11_custom_24 zk_0 ?_
    refine aw_puti hX kp_X11_319 sh_11 (by decide) rfl rfl rfl dX11_custom_25 ?_
    refine aw_mem (fun μ7 eμ7 => ?_)
    have k := k μ7 eμ7
    refine aw_iconst hX dX11_custom_28 zk_0 ?_
    refine aw_istore_n (L' := [some (.ref (X.G.ad 11 0)), some (.int (0 : Int32))]) hX dX11_custom_29 (Nat.le_of_ble_eq_true rfl) rfl ?_
    exact k
  · have k := k.2 c4
    refine aw_aload_n hX dX11_custom_12 rfl ?_
    refine aw_geti hX kf_X11_168 sh_11 (by decide) rfl dX11_custom_13 ?_
    exact aw_iret hX hr dX11_custom_16 k

set_option maxRecDepth 100000 in
set_option maxHeartbeats 4000000 in
theorem st_X11_custom_30 {X : zX} {lv : Nat} {Post : Option Value → zM → Prop} (hX : zOk X cX11_custom RX11 2 lv) (hr : zRt X (some .int) Post)  {x1 : Int32} {μ : zM}
    (k : ((64 : Int32) ≤ x1 → (AW X 51 [some (.ref (X.G.ad 11 0)), some (.int (0 : Int32))] [] μ)) ∧ (¬ (64 : Int32) ≤ x1 → ((vp_in x1 64) ∧ (∀ μ3 : zM, μ3 = pI μ 70 0 (ix x1) (0 : Int32) → (∀ v4 : Int32, v4 = x1 + (1 : Int32) → (AW X 30 [some (.ref (X.G.ad 11 0)), some (.int v4)] [] μ3)))))) :
    AW X 30 [some (.ref (X.G.ad 11 0)), some (.int x1)] [] μ := by
  refine aw_iload_n hX dX11_custom_30 rfl ?_
  refine aw_bipush hX dX11_custom_31 zb_64 ?_
  refine aw_icmp_ge (tgt := 49) hX dX11_custom_33 (by decide) (fun c1 => ?_) (fun c1 => ?_)
  · have k := k.1 c1
    refine aw_iconst hX dX11_custom_49 zk_0 ?_
    refine aw_istore_n (L' := [some (.ref (X.G.ad 11 0)), some (.int (0 : Int32))]) hX dX11_custom_50 (Nat.le_of_ble_eq_true rfl) rfl ?_
    exact k
  · have k := k.2 c1
    refine aw_aload_n hX dX11_custom_36 rfl ?_
    refine aw_getr (o' := 0) hX kf_X11_117 sh_11 (by decide) rfl rfl dX11_custom_37 ?_
    refine aw_iload_n hX dX11_custom_40 rfl ?_
    refine aw_iconst hX dX11_custom_41 zk_0 ?_
    have s2 := k.1
    have k := k.2
    refine aw_iast' (k := (ix x1)) hX sh_70 (by decide) s2 rfl dX11_custom_42 ?_
    refine aw_mem (fun μ3 eμ3 => ?_)
    have k := k μ3 eμ3
    obtain ⟨v4, ev4⟩ : ∃ y : Int32, y = x1 + (1 : Int32) := ⟨_, rfl⟩
    have k := k v4 ev4
    refine aw_iinc (v := v4) (L' := [some (.ref (X.G.ad 11 0)), some (.int v4)]) hX dX11_custom_43 rfl (by rw [ev4]; rfl) (Nat.le_of_ble_eq_true rfl) rfl ?_
    refine aw_goto (tgt := 30) hX dX11_custom_46 (by decide) ?_
    exact k

set_option maxRecDepth 100000 in
set_option maxHeartbeats 4000000 in
theorem st_X11_custom_51 {X : zX} {lv : Nat} {Post : Option Value → zM → Prop} (hX : zOk X cX11_custom RX11 2 lv) (hr : zRt X (some .int) Post)  {x1 : Int32} {μ : zM}
    (k : ((μ.1 37 0 0) ≤ x1 → (AW X 81 [some (.ref (X.G.ad 11 0)), some (.int (0 : Int32))] [] μ)) ∧ (¬ (μ.1 37 0 0) ≤ x1 → ((vp_in x1 36) ∧ ((vp_in x1 64) ∧ (∀ μ4 : zM, μ4 = pI μ 70 0 (ix x1) (μ.1 44 0 (ix x1)) → (∀ v5 : Int32, v5 = x1 + (1 : Int32) → (AW X 51 [some (.ref (X.G.ad 11 0)), some (.int v5)] [] μ4))))))) :
    AW X 51 [some (.ref (X.G.ad 11 0)), some (.int x1)] [] μ := by
  refine aw_iload_n hX dX11_custom_51 rfl ?_
  refine aw_aload_n hX dX11_custom_52 rfl ?_
  refine aw_getr (o' := 0) hX kf_X11_16 sh_11 (by decide) rfl rfl dX11_custom_53 ?_
  refine aw_iconst hX dX11_custom_56 zk_0 ?_
  refine aw_iald' (k := 0) hX sh_37 (by decide) (zdi (by decide)) (by decide) dX11_custom_57 ?_
  refine aw_icmp_ge (tgt := 79) hX dX11_custom_58 (by decide) (fun c1 => ?_) (fun c1 => ?_)
  · have k := k.1 c1
    refine aw_iconst hX dX11_custom_79 zk_0 ?_
    refine aw_istore_n (L' := [some (.ref (X.G.ad 11 0)), some (.int (0 : Int32))]) hX dX11_custom_80 (Nat.le_of_ble_eq_true rfl) rfl ?_
    exact k
  · have k := k.2 c1
    refine aw_aload_n hX dX11_custom_61 rfl ?_
    refine aw_getr (o' := 0) hX kf_X11_117 sh_11 (by decide) rfl rfl dX11_custom_62 ?_
    refine aw_iload_n hX dX11_custom_65 rfl ?_
    refine aw_aload_n hX dX11_custom_66 rfl ?_
    refine aw_getr (o' := 0) hX kf_X11_38 sh_11 (by decide) rfl rfl dX11_custom_67 ?_
    refine aw_iload_n hX dX11_custom_70 rfl ?_
    have s2 := k.1
    have k := k.2
    refine aw_iald' (k := (ix x1)) hX sh_44 (by decide) s2 rfl dX11_custom_71 ?_
    have s3 := k.1
    have k := k.2
    refine aw_iast' (k := (ix x1)) hX sh_70 (by decide) s3 rfl dX11_custom_72 ?_
    refine aw_mem (fun μ4 eμ4 => ?_)
    have k := k μ4 eμ4
    obtain ⟨v5, ev5⟩ : ∃ y : Int32, y = x1 + (1 : Int32) := ⟨_, rfl⟩
    have k := k v5 ev5
    refine aw_iinc (v := v5) (L' := [some (.ref (X.G.ad 11 0)), some (.int v5)]) hX dX11_custom_73 rfl (by rw [ev5]; rfl) (Nat.le_of_ble_eq_true rfl) rfl ?_
    refine aw_goto (tgt := 51) hX dX11_custom_76 (by decide) ?_
    exact k

set_option maxRecDepth 100000 in
set_option maxHeartbeats 4000000 in
theorem st_X11_custom_81 {X : zX} {lv : Nat} {Post : Option Value → zM → Prop} (hX : zOk X cX11_custom RX11 2 lv) (hr : zRt X (some .int) Post)  {x1 : Int32} {μ : zM}
    (k : ((μ.1 38 0 0) ≤ x1 → (Post (some (.int (0 : Int32))) μ)) ∧ (¬ (μ.1 38 0 0) ≤ x1 → ((vp_in x1 60) ∧ ((vp_in ((6 : Int32) + x1) 64) ∧ (∀ μ4 : zM, μ4 = pI μ 70 0 (ix ((6 : Int32) + x1)) (μ.1 47 0 (ix x1)) → (∀ v5 : Int32, v5 = x1 + (1 : Int32) → (AW X 81 [some (.ref (X.G.ad 11 0)), some (.int v5)] [] μ4))))))) :
    AW X 81 [some (.ref (X.G.ad 11 0)), some (.int x1)] [] μ := by
  refine aw_iload_n hX dX11_custom_81 rfl ?_
  refine aw_aload_n hX dX11_custom_82 rfl ?_
  refine aw_getr (o' := 0) hX kf_X11_19 sh_11 (by decide) rfl rfl dX11_custom_83 ?_
  refine aw_iconst hX dX11_custom_86 zk_0 ?_
  refine aw_iald' (k := 0) hX sh_38 (by decide) (zdi (by decide)) (by decide) dX11_custom_87 ?_
  refine aw_icmp_ge (tgt := 112) hX dX11_custom_88 (by decide) (fun c1 => ?_) (fun c1 => ?_)
  · have k := k.1 c1
    refine aw_iconst hX dX11_custom_112 zk_0 ?_
    exact aw_iret hX hr dX11_custom_113 k
  · have k := k.2 c1
    refine aw_aload_n hX dX11_custom_91 rfl ?_
    refine aw_getr (o' := 0) hX kf_X11_117 sh_11 (by decide) rfl rfl dX11_custom_92 ?_
    refine aw_bipush hX dX11_custom_95 zb_6 ?_
    refine aw_iload_n hX dX11_custom_97 rfl ?_
    refine aw_iadd hX dX11_custom_98 ?_
    refine aw_aload_n hX dX11_custom_99 rfl ?_
    refine aw_getr (o' := 0) hX kf_X11_47 sh_11 (by decide) rfl rfl dX11_custom_100 ?_
    refine aw_iload_n hX dX11_custom_103 rfl ?_
    have s2 := k.1
    have k := k.2
    refine aw_iald' (k := (ix x1)) hX sh_47 (by decide) s2 rfl dX11_custom_104 ?_
    have s3 := k.1
    have k := k.2
    refine aw_iast' (k := (ix ((6 : Int32) + x1))) hX sh_70 (by decide) s3 rfl dX11_custom_105 ?_
    refine aw_mem (fun μ4 eμ4 => ?_)
    have k := k μ4 eμ4
    obtain ⟨v5, ev5⟩ : ∃ y : Int32, y = x1 + (1 : Int32) := ⟨_, rfl⟩
    have k := k v5 ev5
    refine aw_iinc (v := v5) (L' := [some (.ref (X.G.ad 11 0)), some (.int v5)]) hX dX11_custom_106 rfl (by rw [ev5]; rfl) (Nat.le_of_ble_eq_true rfl) rfl ?_
    refine aw_goto (tgt := 81) hX dX11_custom_109 (by decide) ?_
    exact k

set_option maxRecDepth 100000 in
set_option maxHeartbeats 4000000 in
theorem st_X11_isHill_0 {X : zX} {lv : Nat} {Post : Option Value → zM → Prop} (hX : zOk X cX11_isHill RX11 2 lv) (hr : zRt X (some .boolean) Post)  {x1 : Int32} {μ : zM}
    (k : (x1 < 0 → (Post (some (.int (0 : Int32))) μ)) ∧ (¬ x1 < 0 → (((μ.1 36 0 0) ≤ x1 → (Post (some (.int (0 : Int32))) μ)) ∧ (¬ (μ.1 36 0 0) ≤ x1 → (Post (some (.int (1 : Int32))) μ))))) :
    AW X 0 [some (.ref (X.G.ad 11 0)), some (.int x1)] [] μ := by
  refine aw_iload_n hX dX11_isHill_0 rfl ?_
  refine aw_if_lt (tgt := 18) hX dX11_isHill_1 (by decide) (fun c1 => ?_) (fun c1 => ?_)
  · have k := k.1 c1
    refine aw_iconst hX dX11_isHill_18 zk_0 ?_
    exact aw_zret hX hr (by decide) dX11_isHill_19 k
  · have k := k.2 c1
    refine aw_iload_n hX dX11_isHill_4 rfl ?_
    refine aw_aload_n hX dX11_isHill_5 rfl ?_
    refine aw_getr (o' := 0) hX kf_X11_13 sh_11 (by decide) rfl rfl dX11_isHill_6 ?_
    refine aw_iconst hX dX11_isHill_9 zk_0 ?_
    refine aw_iald' (k := 0) hX sh_36 (by decide) (zdi (by decide)) (by decide) dX11_isHill_10 ?_
    refine aw_icmp_ge (tgt := 18) hX dX11_isHill_11 (by decide) (fun c2 => ?_) (fun c2 => ?_)
    · have k := k.1 c2
      refine aw_iconst hX dX11_isHill_18 zk_0 ?_
      exact aw_zret hX hr (by decide) dX11_isHill_19 k
    · have k := k.2 c2
      refine aw_iconst hX dX11_isHill_14 zk_1 ?_
      refine aw_goto (tgt := 19) hX dX11_isHill_15 (by decide) ?_
      exact aw_zret hX hr (by decide) dX11_isHill_19 k

set_option maxRecDepth 100000 in
set_option maxHeartbeats 4000000 in
theorem st_X11_isPerson_0 {X : zX} {lv : Nat} {Post : Option Value → zM → Prop} (hX : zOk X cX11_isPerson RX11 2 lv) (hr : zRt X (some .boolean) Post)  {x1 : Int32} {μ : zM}
    (k : (x1 < 0 → (Post (some (.int (0 : Int32))) μ)) ∧ (¬ x1 < 0 → (((μ.1 37 0 0) ≤ x1 → (Post (some (.int (0 : Int32))) μ)) ∧ (¬ (μ.1 37 0 0) ≤ x1 → (Post (some (.int (1 : Int32))) μ))))) :
    AW X 0 [some (.ref (X.G.ad 11 0)), some (.int x1)] [] μ := by
  refine aw_iload_n hX dX11_isPerson_0 rfl ?_
  refine aw_if_lt (tgt := 18) hX dX11_isPerson_1 (by decide) (fun c1 => ?_) (fun c1 => ?_)
  · have k := k.1 c1
    refine aw_iconst hX dX11_isPerson_18 zk_0 ?_
    exact aw_zret hX hr (by decide) dX11_isPerson_19 k
  · have k := k.2 c1
    refine aw_iload_n hX dX11_isPerson_4 rfl ?_
    refine aw_aload_n hX dX11_isPerson_5 rfl ?_
    refine aw_getr (o' := 0) hX kf_X11_16 sh_11 (by decide) rfl rfl dX11_isPerson_6 ?_
    refine aw_iconst hX dX11_isPerson_9 zk_0 ?_
    refine aw_iald' (k := 0) hX sh_37 (by decide) (zdi (by decide)) (by decide) dX11_isPerson_10 ?_
    refine aw_icmp_ge (tgt := 18) hX dX11_isPerson_11 (by decide) (fun c2 => ?_) (fun c2 => ?_)
    · have k := k.1 c2
      refine aw_iconst hX dX11_isPerson_18 zk_0 ?_
      exact aw_zret hX hr (by decide) dX11_isPerson_19 k
    · have k := k.2 c2
      refine aw_iconst hX dX11_isPerson_14 zk_1 ?_
      refine aw_goto (tgt := 19) hX dX11_isPerson_15 (by decide) ?_
      exact aw_zret hX hr (by decide) dX11_isPerson_19 k

set_option maxRecDepth 100000 in
set_option maxHeartbeats 4000000 in
theorem st_X11_isLoan_0 {X : zX} {lv : Nat} {Post : Option Value → zM → Prop} (hX : zOk X cX11_isLoan RX11 2 lv) (hr : zRt X (some .boolean) Post)  {x1 : Int32} {μ : zM}
    (k : (x1 < 0 → (Post (some (.int (0 : Int32))) μ)) ∧ (¬ x1 < 0 → (((μ.1 38 0 0) ≤ x1 → (Post (some (.int (0 : Int32))) μ)) ∧ (¬ (μ.1 38 0 0) ≤ x1 → (Post (some (.int (1 : Int32))) μ))))) :
    AW X 0 [some (.ref (X.G.ad 11 0)), some (.int x1)] [] μ := by
  refine aw_iload_n hX dX11_isLoan_0 rfl ?_
  refine aw_if_lt (tgt := 18) hX dX11_isLoan_1 (by decide) (fun c1 => ?_) (fun c1 => ?_)
  · have k := k.1 c1
    refine aw_iconst hX dX11_isLoan_18 zk_0 ?_
    exact aw_zret hX hr (by decide) dX11_isLoan_19 k
  · have k := k.2 c1
    refine aw_iload_n hX dX11_isLoan_4 rfl ?_
    refine aw_aload_n hX dX11_isLoan_5 rfl ?_
    refine aw_getr (o' := 0) hX kf_X11_19 sh_11 (by decide) rfl rfl dX11_isLoan_6 ?_
    refine aw_iconst hX dX11_isLoan_9 zk_0 ?_
    refine aw_iald' (k := 0) hX sh_38 (by decide) (zdi (by decide)) (by decide) dX11_isLoan_10 ?_
    refine aw_icmp_ge (tgt := 18) hX dX11_isLoan_11 (by decide) (fun c2 => ?_) (fun c2 => ?_)
    · have k := k.1 c2
      refine aw_iconst hX dX11_isLoan_18 zk_0 ?_
      exact aw_zret hX hr (by decide) dX11_isLoan_19 k
    · have k := k.2 c2
      refine aw_iconst hX dX11_isLoan_14 zk_1 ?_
      refine aw_goto (tgt := 19) hX dX11_isLoan_15 (by decide) ?_
      exact aw_zret hX hr (by decide) dX11_isLoan_19 k

set_option maxRecDepth 100000 in
set_option maxHeartbeats 4000000 in
theorem st_X11_isWeather_0 {X : zX} {lv : Nat} {Post : Option Value → zM → Prop} (hX : zOk X cX11_isWeather RX11 2 lv) (hr : zRt X (some .boolean) Post)  {x1 : Int32} {μ : zM}
    (k : (x1 < 0 → (Post (some (.int (0 : Int32))) μ)) ∧ (¬ x1 < 0 → ((((1 : Int32) <<< ((μ.1 36 0 0) &&& 31)) ≤ x1 → (Post (some (.int (0 : Int32))) μ)) ∧ (¬ ((1 : Int32) <<< ((μ.1 36 0 0) &&& 31)) ≤ x1 → (Post (some (.int (1 : Int32))) μ))))) :
    AW X 0 [some (.ref (X.G.ad 11 0)), some (.int x1)] [] μ := by
  refine aw_iload_n hX dX11_isWeather_0 rfl ?_
  refine aw_if_lt (tgt := 20) hX dX11_isWeather_1 (by decide) (fun c1 => ?_) (fun c1 => ?_)
  · have k := k.1 c1
    refine aw_iconst hX dX11_isWeather_20 zk_0 ?_
    exact aw_zret hX hr (by decide) dX11_isWeather_21 k
  · have k := k.2 c1
    refine aw_iload_n hX dX11_isWeather_4 rfl ?_
    refine aw_iconst hX dX11_isWeather_5 zk_1 ?_
    refine aw_aload_n hX dX11_isWeather_6 rfl ?_
    refine aw_getr (o' := 0) hX kf_X11_13 sh_11 (by decide) rfl rfl dX11_isWeather_7 ?_
    refine aw_iconst hX dX11_isWeather_10 zk_0 ?_
    refine aw_iald' (k := 0) hX sh_36 (by decide) (zdi (by decide)) (by decide) dX11_isWeather_11 ?_
    refine aw_ishl hX dX11_isWeather_12 ?_
    refine aw_icmp_ge (tgt := 20) hX dX11_isWeather_13 (by decide) (fun c2 => ?_) (fun c2 => ?_)
    · have k := k.1 c2
      refine aw_iconst hX dX11_isWeather_20 zk_0 ?_
      exact aw_zret hX hr (by decide) dX11_isWeather_21 k
    · have k := k.2 c2
      refine aw_iconst hX dX11_isWeather_16 zk_1 ?_
      refine aw_goto (tgt := 21) hX dX11_isWeather_17 (by decide) ?_
      exact aw_zret hX hr (by decide) dX11_isWeather_21 k

set_option maxRecDepth 100000 in
set_option maxHeartbeats 4000000 in
theorem st_X11_hill_0 {X : zX} {lv : Nat} {Post : Option Value → zM → Prop} (hX : zOk X cX11_hill RX11 3 lv) (hr : zRt X (some .int) Post)  {x1 : Int32} {x2 : Int32} {μ : zM}
    (k : ∀ μ1 : zM, μ1 = pI μ 11 0 0 (0 : Int32) → (zCallI X lv yX11_isHill cX11_isHill 2 (some .boolean) [.ref (X.G.ad 11 0), .int x1] μ1 (fun (r2 : Int32) μ3 => (r2 = 0 → (Post (some (.int (-1 : Int32))) μ3)) ∧ (¬ r2 = 0 → (zCallI X lv yX11_within cX11_within 3 (some .boolean) [.int x2, .int (0 : Int32), .int (2 : Int32)] μ3 (fun (r5 : Int32) μ6 => (¬ r5 = 0 → ((¬ x2 = 0 → ((¬ x2 = (1 : Int32) → (Post (some (.int (((μ6.1 70 0 56) >>> (x1 &&& 31)) &&& (1 : Int32)))) μ6)) ∧ (x2 = (1 : Int32) → ((vp_in x1 24) ∧ (Post (some (.int (μ6.1 43 0 (ix x1)))) μ6))))) ∧ (x2 = 0 → ((vp_in x1 24) ∧ (Post (some (.int (μ6.1 42 0 (ix x1)))) μ6))))) ∧ (r5 = 0 → (Post (some (.int (-1 : Int32))) μ6)))))))) :
    AW X 0 [some (.ref (X.G.ad 11 0)), some (.int x1), some (.int x2)] [] μ := by
  refine aw_aload_n hX dX11_hill_0 rfl ?_
  refine aw_iconst hX dX11_hill_1 zk_0 ?_
  refine aw_puti hX kp_X11_132 sh_11 (by decide) rfl rfl rfl dX11_hill_2 ?_
  refine aw_mem (fun μ1 eμ1 => ?_)
  have k := k μ1 eμ1
  refine aw_aload_n hX dX11_hill_5 rfl ?_
  refine aw_iload_n hX dX11_hill_6 rfl ?_
  refine aw_invI (As := [.int x1]) (rest := []) (κ := 11) (o := 0) (T := TX11) (N := 55) hX vc_X11_322 sh_11 (by decide) rfl rfl rfl (Nat.le_of_ble_eq_true rfl) dX11_hill_7 k (fun r2 μ3 k => ?_)
  refine aw_if_eq (tgt := 22) hX dX11_hill_10 (by decide) (fun c4 => ?_) (fun c4 => ?_)
  · have k := k.1 c4
    refine aw_iconst hX dX11_hill_22 zk_m1 ?_
    refine aw_goto (tgt := 64) hX dX11_hill_23 (by decide) ?_
    exact aw_iret hX hr dX11_hill_64 k
  · have k := k.2 c4
    refine aw_iload_n hX dX11_hill_13 rfl ?_
    refine aw_iconst hX dX11_hill_14 zk_0 ?_
    refine aw_iconst hX dX11_hill_15 zk_2 ?_
    refine aw_ivsI (As := [.int x2, .int (0 : Int32), .int (2 : Int32)]) (rest := []) hX sc_X11_257 rfl rfl (Nat.le_of_ble_eq_true rfl) dX11_hill_16 k (fun r5 μ6 k => ?_)
    refine aw_if_ne (tgt := 26) hX dX11_hill_19 (by decide) (fun c7 => ?_) (fun c7 => ?_)
    · have k := k.1 c7
      refine aw_iload_n hX dX11_hill_26 rfl ?_
      refine aw_if_ne (tgt := 39) hX dX11_hill_27 (by decide) (fun c8 => ?_) (fun c8 => ?_)
      · have k := k.1 c8
        refine aw_iload_n hX dX11_hill_39 rfl ?_
        refine aw_iconst hX dX11_hill_40 zk_1 ?_
        refine aw_icmp_ne (tgt := 53) hX dX11_hill_41 (by decide) (fun c9 => ?_) (fun c9 => ?_)
        · have k := k.1 c9
          refine aw_aload_n hX dX11_hill_53 rfl ?_
          refine aw_getr (o' := 0) hX kf_X11_117 sh_11 (by decide) rfl rfl dX11_hill_54 ?_
          refine aw_bipush hX dX11_hill_57 zb_56 ?_
          refine aw_iald' (k := 56) hX sh_70 (by decide) (zdi (by decide)) (by decide) dX11_hill_59 ?_
          refine aw_iload_n hX dX11_hill_60 rfl ?_
          refine aw_ishr hX dX11_hill_61 ?_
          refine aw_iconst hX dX11_hill_62 zk_1 ?_
          refine aw_iand hX dX11_hill_63 ?_
          exact aw_iret hX hr dX11_hill_64 k
        · have k := k.2 c9
          refine aw_aload_n hX dX11_hill_44 rfl ?_
          refine aw_getr (o' := 0) hX kf_X11_35 sh_11 (by decide) rfl rfl dX11_hill_45 ?_
          refine aw_iload_n hX dX11_hill_48 rfl ?_
          have s10 := k.1
          have k := k.2
          refine aw_iald' (k := (ix x1)) hX sh_43 (by decide) s10 rfl dX11_hill_49 ?_
          refine aw_goto (tgt := 64) hX dX11_hill_50 (by decide) ?_
          exact aw_iret hX hr dX11_hill_64 k
      · have k := k.2 c8
        refine aw_aload_n hX dX11_hill_30 rfl ?_
        refine aw_getr (o' := 0) hX kf_X11_32 sh_11 (by decide) rfl rfl dX11_hill_31 ?_
        refine aw_iload_n hX dX11_hill_34 rfl ?_
        have s11 := k.1
        have k := k.2
        refine aw_iald' (k := (ix x1)) hX sh_42 (by decide) s11 rfl dX11_hill_35 ?_
        refine aw_goto (tgt := 64) hX dX11_hill_36 (by decide) ?_
        exact aw_iret hX hr dX11_hill_64 k
    · have k := k.2 c7
      refine aw_iconst hX dX11_hill_22 zk_m1 ?_
      refine aw_goto (tgt := 64) hX dX11_hill_23 (by decide) ?_
      exact aw_iret hX hr dX11_hill_64 k

set_option maxRecDepth 100000 in
set_option maxHeartbeats 4000000 in
theorem st_X11_purse_0 {X : zX} {lv : Nat} {Post : Option Value → zM → Prop} (hX : zOk X cX11_purse RX11 2 lv) (hr : zRt X (some .int) Post)  {x1 : Int32} {μ : zM}
    (k : zCallI X lv yX11_isPerson cX11_isPerson 2 (some .boolean) [.ref (X.G.ad 11 0), .int x1] μ (fun (r1 : Int32) μ2 => (r1 = 0 → (∀ μ4 : zM, μ4 = pI μ2 11 0 0 (1 : Int32) → ((¬ (μ4.1 11 0 0) = (1 : Int32) → ((vp_in x1 64) ∧ (Post (some (.int (μ4.1 70 0 (ix x1)))) μ4))) ∧ ((μ4.1 11 0 0) = (1 : Int32) → (Post (some (.int (0 : Int32))) μ4))))) ∧ (¬ r1 = 0 → (∀ μ7 : zM, μ7 = pI μ2 11 0 0 (0 : Int32) → ((¬ (μ7.1 11 0 0) = (1 : Int32) → ((vp_in x1 64) ∧ (Post (some (.int (μ7.1 70 0 (ix x1)))) μ7))) ∧ ((μ7.1 11 0 0) = (1 : Int32) → (Post (some (.int (0 : Int32))) μ7))))))) :
    AW X 0 [some (.ref (X.G.ad 11 0)), some (.int x1)] [] μ := by
  refine aw_aload_n hX dX11_purse_0 rfl ?_
  refine aw_aload_n hX dX11_purse_1 rfl ?_
  refine aw_iload_n hX dX11_purse_2 rfl ?_
  refine aw_invI (As := [.int x1]) (rest := [.ref (X.G.ad 11 0)]) (κ := 11) (o := 0) (T := TX11) (N := 55) hX vc_X11_325 sh_11 (by decide) rfl rfl rfl (Nat.le_of_ble_eq_true rfl) dX11_purse_3 k (fun r1 μ2 k => ?_)
  refine aw_if_eq (tgt := 13) hX dX11_purse_6 (by decide) (fun c3 => ?_) (fun c3 => ?_)
  · have k := k.1 c3
    refine aw_iconst hX dX11_purse_13 zk_1 ?_
    refine aw_puti hX kp_X11_132 sh_11 (by decide) rfl rfl rfl dX11_purse_14 ?_
    refine aw_mem (fun μ4 eμ4 => ?_)
    have k := k μ4 eμ4
    refine aw_aload_n hX dX11_purse_17 rfl ?_
    refine aw_geti hX kf_X11_132 sh_11 (by decide) rfl dX11_purse_18 ?_
    refine aw_iconst hX dX11_purse_21 zk_1 ?_
    refine aw_icmp_ne (tgt := 29) hX dX11_purse_22 (by decide) (fun c5 => ?_) (fun c5 => ?_)
    · have k := k.1 c5
      refine aw_aload_n hX dX11_purse_29 rfl ?_
      refine aw_getr (o' := 0) hX kf_X11_117 sh_11 (by decide) rfl rfl dX11_purse_30 ?_
      refine aw_iload_n hX dX11_purse_33 rfl ?_
      have s6 := k.1
      have k := k.2
      refine aw_iald' (k := (ix x1)) hX sh_70 (by decide) s6 rfl dX11_purse_34 ?_
      exact aw_iret hX hr dX11_purse_35 k
    · have k := k.2 c5
      refine aw_iconst hX dX11_purse_25 zk_0 ?_
      refine aw_goto (tgt := 35) hX dX11_purse_26 (by decide) ?_
      exact aw_iret hX hr dX11_purse_35 k
  · have k := k.2 c3
    refine aw_iconst hX dX11_purse_9 zk_0 ?_
    refine aw_goto (tgt := 14) hX dX11_purse_10 (by decide) ?_
    refine aw_puti hX kp_X11_132 sh_11 (by decide) rfl rfl rfl dX11_purse_14 ?_
    refine aw_mem (fun μ7 eμ7 => ?_)
    have k := k μ7 eμ7
    refine aw_aload_n hX dX11_purse_17 rfl ?_
    refine aw_geti hX kf_X11_132 sh_11 (by decide) rfl dX11_purse_18 ?_
    refine aw_iconst hX dX11_purse_21 zk_1 ?_
    refine aw_icmp_ne (tgt := 29) hX dX11_purse_22 (by decide) (fun c8 => ?_) (fun c8 => ?_)
    · have k := k.1 c8
      refine aw_aload_n hX dX11_purse_29 rfl ?_
      refine aw_getr (o' := 0) hX kf_X11_117 sh_11 (by decide) rfl rfl dX11_purse_30 ?_
      refine aw_iload_n hX dX11_purse_33 rfl ?_
      have s9 := k.1
      have k := k.2
      refine aw_iald' (k := (ix x1)) hX sh_70 (by decide) s9 rfl dX11_purse_34 ?_
      exact aw_iret hX hr dX11_purse_35 k
    · have k := k.2 c8
      refine aw_iconst hX dX11_purse_25 zk_0 ?_
      refine aw_goto (tgt := 35) hX dX11_purse_26 (by decide) ?_
      exact aw_iret hX hr dX11_purse_35 k

set_option maxRecDepth 100000 in
set_option maxHeartbeats 4000000 in
theorem st_X11_loan_0 {X : zX} {lv : Nat} {Post : Option Value → zM → Prop} (hX : zOk X cX11_loan RX11 3 lv) (hr : zRt X (some .int) Post)  {x1 : Int32} {x2 : Int32} {μ : zM}
    (k : ∀ μ1 : zM, μ1 = pI μ 11 0 0 (0 : Int32) → (zCallI X lv yX11_isLoan cX11_isLoan 2 (some .boolean) [.ref (X.G.ad 11 0), .int x1] μ1 (fun (r2 : Int32) μ3 => (r2 = 0 → (Post (some (.int (-1 : Int32))) μ3)) ∧ (¬ r2 = 0 → (zCallI X lv yX11_within cX11_within 3 (some .boolean) [.int x2, .int (0 : Int32), .int (7 : Int32)] μ3 (fun (r5 : Int32) μ6 => (¬ r5 = 0 → (((4 : Int32) ≤ x2 → ((¬ x2 = (4 : Int32) → ((¬ x2 = (5 : Int32) → ((¬ x2 = (6 : Int32) → ((vp_in ((36 : Int32) + x1) 64) ∧ (Post (some (.int (μ6.1 70 0 (ix ((36 : Int32) + x1))))) μ6))) ∧ (x2 = (6 : Int32) → ((vp_in x1 60) ∧ (Post (some (.int (μ6.1 52 0 (ix x1)))) μ6))))) ∧ (x2 = (5 : Int32) → ((vp_in x1 60) ∧ (Post (some (.int (μ6.1 51 0 (ix x1)))) μ6))))) ∧ (x2 = (4 : Int32) → ((vp_in ((26 : Int32) + x1) 64) ∧ (Post (some (.int (μ6.1 70 0 (ix ((26 : Int32) + x1))))) μ6))))) ∧ (¬ (4 : Int32) ≤ x2 → ((¬ x2 = 0 → ((¬ x2 = (1 : Int32) → ((¬ x2 = (2 : Int32) → ((vp_in ((16 : Int32) + x1) 64) ∧ (Post (some (.int (μ6.1 70 0 (ix ((16 : Int32) + x1))))) μ6))) ∧ (x2 = (2 : Int32) → ((vp_in ((6 : Int32) + x1) 64) ∧ (Post (some (.int (μ6.1 70 0 (ix ((6 : Int32) + x1))))) μ6))))) ∧ (x2 = (1 : Int32) → ((vp_in x1 60) ∧ (Post (some (.int (μ6.1 46 0 (ix x1)))) μ6))))) ∧ (x2 = 0 → ((vp_in x1 60) ∧ (Post (some (.int (μ6.1 45 0 (ix x1)))) μ6))))))) ∧ (r5 = 0 → (Post (some (.int (-1 : Int32))) μ6)))))))) :
    AW X 0 [some (.ref (X.G.ad 11 0)), some (.int x1), some (.int x2)] [] μ := by
  refine aw_aload_n hX dX11_loan_0 rfl ?_
  refine aw_iconst hX dX11_loan_1 zk_0 ?_
  refine aw_puti hX kp_X11_132 sh_11 (by decide) rfl rfl rfl dX11_loan_2 ?_
  refine aw_mem (fun μ1 eμ1 => ?_)
  have k := k μ1 eμ1
  refine aw_aload_n hX dX11_loan_5 rfl ?_
  refine aw_iload_n hX dX11_loan_6 rfl ?_
  refine aw_invI (As := [.int x1]) (rest := []) (κ := 11) (o := 0) (T := TX11) (N := 55) hX vc_X11_328 sh_11 (by decide) rfl rfl rfl (Nat.le_of_ble_eq_true rfl) dX11_loan_7 k (fun r2 μ3 k => ?_)
  refine aw_if_eq (tgt := 23) hX dX11_loan_10 (by decide) (fun c4 => ?_) (fun c4 => ?_)
  · have k := k.1 c4
    refine aw_iconst hX dX11_loan_23 zk_m1 ?_
    exact aw_iret hX hr dX11_loan_24 k
  · have k := k.2 c4
    refine aw_iload_n hX dX11_loan_13 rfl ?_
    refine aw_iconst hX dX11_loan_14 zk_0 ?_
    refine aw_bipush hX dX11_loan_15 zb_7 ?_
    refine aw_ivsI (As := [.int x2, .int (0 : Int32), .int (7 : Int32)]) (rest := []) hX sc_X11_257 rfl rfl (Nat.le_of_ble_eq_true rfl) dX11_loan_17 k (fun r5 μ6 k => ?_)
    refine aw_if_ne (tgt := 25) hX dX11_loan_20 (by decide) (fun c7 => ?_) (fun c7 => ?_)
    · have k := k.1 c7
      refine aw_iload_n hX dX11_loan_25 rfl ?_
      refine aw_iconst hX dX11_loan_26 zk_4 ?_
      refine aw_icmp_ge (tgt := 84) hX dX11_loan_27 (by decide) (fun c8 => ?_) (fun c8 => ?_)
      · have k := k.1 c8
        refine aw_iload_n hX dX11_loan_84 rfl ?_
        refine aw_iconst hX dX11_loan_85 zk_4 ?_
        refine aw_icmp_ne (tgt := 101) hX dX11_loan_86 (by decide) (fun c9 => ?_) (fun c9 => ?_)
        · have k := k.1 c9
          refine aw_iload_n hX dX11_loan_101 rfl ?_
          refine aw_iconst hX dX11_loan_102 zk_5 ?_
          refine aw_icmp_ne (tgt := 115) hX dX11_loan_103 (by decide) (fun c10 => ?_) (fun c10 => ?_)
          · have k := k.1 c10
            refine aw_iload_n hX dX11_loan_115 rfl ?_
            refine aw_bipush hX dX11_loan_116 zb_6 ?_
            refine aw_icmp_ne (tgt := 130) hX dX11_loan_118 (by decide) (fun c11 => ?_) (fun c11 => ?_)
            · have k := k.1 c11
              refine aw_aload_n hX dX11_loan_130 rfl ?_
              refine aw_getr (o' := 0) hX kf_X11_117 sh_11 (by decide) rfl rfl dX11_loan_131 ?_
              refine aw_bipush hX dX11_loan_134 zb_36 ?_
              refine aw_iload_n hX dX11_loan_136 rfl ?_
              refine aw_iadd hX dX11_loan_137 ?_
              have s12 := k.1
              have k := k.2
              refine aw_iald' (k := (ix ((36 : Int32) + x1))) hX sh_70 (by decide) s12 rfl dX11_loan_138 ?_
              exact aw_iret hX hr dX11_loan_139 k
            · have k := k.2 c11
              refine aw_aload_n hX dX11_loan_121 rfl ?_
              refine aw_getr (o' := 0) hX kf_X11_62 sh_11 (by decide) rfl rfl dX11_loan_122 ?_
              refine aw_iload_n hX dX11_loan_125 rfl ?_
              have s13 := k.1
              have k := k.2
              refine aw_iald' (k := (ix x1)) hX sh_52 (by decide) s13 rfl dX11_loan_126 ?_
              refine aw_goto (tgt := 139) hX dX11_loan_127 (by decide) ?_
              exact aw_iret hX hr dX11_loan_139 k
          · have k := k.2 c10
            refine aw_aload_n hX dX11_loan_106 rfl ?_
            refine aw_getr (o' := 0) hX kf_X11_59 sh_11 (by decide) rfl rfl dX11_loan_107 ?_
            refine aw_iload_n hX dX11_loan_110 rfl ?_
            have s14 := k.1
            have k := k.2
            refine aw_iald' (k := (ix x1)) hX sh_51 (by decide) s14 rfl dX11_loan_111 ?_
            refine aw_goto (tgt := 139) hX dX11_loan_112 (by decide) ?_
            exact aw_iret hX hr dX11_loan_139 k
        · have k := k.2 c9
          refine aw_aload_n hX dX11_loan_89 rfl ?_
          refine aw_getr (o' := 0) hX kf_X11_117 sh_11 (by decide) rfl rfl dX11_loan_90 ?_
          refine aw_bipush hX dX11_loan_93 zb_26 ?_
          refine aw_iload_n hX dX11_loan_95 rfl ?_
          refine aw_iadd hX dX11_loan_96 ?_
          have s15 := k.1
          have k := k.2
          refine aw_iald' (k := (ix ((26 : Int32) + x1))) hX sh_70 (by decide) s15 rfl dX11_loan_97 ?_
          refine aw_goto (tgt := 139) hX dX11_loan_98 (by decide) ?_
          exact aw_iret hX hr dX11_loan_139 k
      · have k := k.2 c8
        refine aw_iload_n hX dX11_loan_30 rfl ?_
        refine aw_if_ne (tgt := 43) hX dX11_loan_31 (by decide) (fun c16 => ?_) (fun c16 => ?_)
        · have k := k.1 c16
          refine aw_iload_n hX dX11_loan_43 rfl ?_
          refine aw_iconst hX dX11_loan_44 zk_1 ?_
          refine aw_icmp_ne (tgt := 57) hX dX11_loan_45 (by decide) (fun c17 => ?_) (fun c17 => ?_)
          · have k := k.1 c17
            refine aw_iload_n hX dX11_loan_57 rfl ?_
            refine aw_iconst hX dX11_loan_58 zk_2 ?_
            refine aw_icmp_ne (tgt := 74) hX dX11_loan_59 (by decide) (fun c18 => ?_) (fun c18 => ?_)
            · have k := k.1 c18
              refine aw_aload_n hX dX11_loan_74 rfl ?_
              refine aw_getr (o' := 0) hX kf_X11_117 sh_11 (by decide) rfl rfl dX11_loan_75 ?_
              refine aw_bipush hX dX11_loan_78 zb_16 ?_
              refine aw_iload_n hX dX11_loan_80 rfl ?_
              refine aw_iadd hX dX11_loan_81 ?_
              have s19 := k.1
              have k := k.2
              refine aw_iald' (k := (ix ((16 : Int32) + x1))) hX sh_70 (by decide) s19 rfl dX11_loan_82 ?_
              exact aw_iret hX hr dX11_loan_83 k
            · have k := k.2 c18
              refine aw_aload_n hX dX11_loan_62 rfl ?_
              refine aw_getr (o' := 0) hX kf_X11_117 sh_11 (by decide) rfl rfl dX11_loan_63 ?_
              refine aw_bipush hX dX11_loan_66 zb_6 ?_
              refine aw_iload_n hX dX11_loan_68 rfl ?_
              refine aw_iadd hX dX11_loan_69 ?_
              have s20 := k.1
              have k := k.2
              refine aw_iald' (k := (ix ((6 : Int32) + x1))) hX sh_70 (by decide) s20 rfl dX11_loan_70 ?_
              refine aw_goto (tgt := 83) hX dX11_loan_71 (by decide) ?_
              exact aw_iret hX hr dX11_loan_83 k
          · have k := k.2 c17
            refine aw_aload_n hX dX11_loan_48 rfl ?_
            refine aw_getr (o' := 0) hX kf_X11_44 sh_11 (by decide) rfl rfl dX11_loan_49 ?_
            refine aw_iload_n hX dX11_loan_52 rfl ?_
            have s21 := k.1
            have k := k.2
            refine aw_iald' (k := (ix x1)) hX sh_46 (by decide) s21 rfl dX11_loan_53 ?_
            refine aw_goto (tgt := 83) hX dX11_loan_54 (by decide) ?_
            exact aw_iret hX hr dX11_loan_83 k
        · have k := k.2 c16
          refine aw_aload_n hX dX11_loan_34 rfl ?_
          refine aw_getr (o' := 0) hX kf_X11_41 sh_11 (by decide) rfl rfl dX11_loan_35 ?_
          refine aw_iload_n hX dX11_loan_38 rfl ?_
          have s22 := k.1
          have k := k.2
          refine aw_iald' (k := (ix x1)) hX sh_45 (by decide) s22 rfl dX11_loan_39 ?_
          refine aw_goto (tgt := 83) hX dX11_loan_40 (by decide) ?_
          exact aw_iret hX hr dX11_loan_83 k
    · have k := k.2 c7
      refine aw_iconst hX dX11_loan_23 zk_m1 ?_
      exact aw_iret hX hr dX11_loan_24 k

set_option maxRecDepth 100000 in
set_option maxHeartbeats 4000000 in
theorem st_X11_isRipe_0 {X : zX} {lv : Nat} {Post : Option Value → zM → Prop} (hX : zOk X cX11_isRipe RX11 6 lv) (hr : zRt X (some .boolean) Post)  {x1 : Int32} {x2 : Int32} {μ : zM}
    (k : (vp_in x1 60) ∧ ((¬ ((x2 >>> ((μ.1 50 0 (ix x1)) &&& 31)) &&& (1 : Int32)) = (1 : Int32) → ((¬ (μ.1 36 0 0) = 0) ∧ ((¬ ((x2 >>> ((((μ.1 50 0 (ix x1)) + (1 : Int32)) - ((μ.1 50 0 (ix x1)) + (1 : Int32)) / (μ.1 36 0 0) * (μ.1 36 0 0)) &&& 31)) &&& (1 : Int32)) = (1 : Int32) → (∀ v5 : Int32, v5 = (μ.1 51 0 (ix x1)) → ((¬ v5 = (1 : Int32) → ((¬ v5 = (2 : Int32) → ((¬ v5 = (3 : Int32) → (Post (some (.int (0 : Int32))) μ)) ∧ (v5 = (3 : Int32) → (Post (some (.int (0 : Int32))) μ)))) ∧ (v5 = (2 : Int32) → (Post (some (.int (0 : Int32))) μ)))) ∧ (v5 = (1 : Int32) → (Post (some (.int (1 : Int32))) μ))))) ∧ (((x2 >>> ((((μ.1 50 0 (ix x1)) + (1 : Int32)) - ((μ.1 50 0 (ix x1)) + (1 : Int32)) / (μ.1 36 0 0) * (μ.1 36 0 0)) &&& 31)) &&& (1 : Int32)) = (1 : Int32) → (∀ v13 : Int32, v13 = (μ.1 51 0 (ix x1)) → ((¬ v13 = (1 : Int32) → ((¬ v13 = (2 : Int32) → ((¬ v13 = (3 : Int32) → (Post (some (.int (0 : Int32))) μ)) ∧ (v13 = (3 : Int32) → (Post (some (.int (1 : Int32))) μ)))) ∧ (v13 = (2 : Int32) → (Post (some (.int (0 : Int32))) μ)))) ∧ (v13 = (1 : Int32) → (Post (some (.int (1 : Int32))) μ)))))))) ∧ (((x2 >>> ((μ.1 50 0 (ix x1)) &&& 31)) &&& (1 : Int32)) = (1 : Int32) → ((¬ (μ.1 36 0 0) = 0) ∧ ((¬ ((x2 >>> ((((μ.1 50 0 (ix x1)) + (1 : Int32)) - ((μ.1 50 0 (ix x1)) + (1 : Int32)) / (μ.1 36 0 0) * (μ.1 36 0 0)) &&& 31)) &&& (1 : Int32)) = (1 : Int32) → (∀ v23 : Int32, v23 = (μ.1 51 0 (ix x1)) → ((¬ v23 = (1 : Int32) → ((¬ v23 = (2 : Int32) → ((¬ v23 = (3 : Int32) → (Post (some (.int (1 : Int32))) μ)) ∧ (v23 = (3 : Int32) → (Post (some (.int (1 : Int32))) μ)))) ∧ (v23 = (2 : Int32) → (Post (some (.int (0 : Int32))) μ)))) ∧ (v23 = (1 : Int32) → (Post (some (.int (0 : Int32))) μ))))) ∧ (((x2 >>> ((((μ.1 50 0 (ix x1)) + (1 : Int32)) - ((μ.1 50 0 (ix x1)) + (1 : Int32)) / (μ.1 36 0 0) * (μ.1 36 0 0)) &&& 31)) &&& (1 : Int32)) = (1 : Int32) → (∀ v31 : Int32, v31 = (μ.1 51 0 (ix x1)) → ((¬ v31 = (1 : Int32) → ((¬ v31 = (2 : Int32) → ((¬ v31 = (3 : Int32) → (Post (some (.int (1 : Int32))) μ)) ∧ (v31 = (3 : Int32) → (Post (some (.int (1 : Int32))) μ)))) ∧ (v31 = (2 : Int32) → (Post (some (.int (1 : Int32))) μ)))) ∧ (v31 = (1 : Int32) → (Post (some (.int (0 : Int32))) μ)))))))))) :
    AW X 0 [some (.ref (X.G.ad 11 0)), some (.int x1), some (.int x2), none, none, none] [] μ := by
  refine aw_iload_n hX dX11_isRipe_0 rfl ?_
  refine aw_aload_n hX dX11_isRipe_1 rfl ?_
  refine aw_getr (o' := 0) hX kf_X11_56 sh_11 (by decide) rfl rfl dX11_isRipe_2 ?_
  refine aw_iload_n hX dX11_isRipe_5 rfl ?_
  have s1 := k.1
  have k := k.2
  refine aw_iald' (k := (ix x1)) hX sh_50 (by decide) s1 rfl dX11_isRipe_6 ?_
  refine aw_ishr hX dX11_isRipe_7 ?_
  refine aw_iconst hX dX11_isRipe_8 zk_1 ?_
  refine aw_iand hX dX11_isRipe_9 ?_
  refine aw_iconst hX dX11_isRipe_10 zk_1 ?_
  refine aw_icmp_ne (tgt := 18) hX dX11_isRipe_11 (by decide) (fun c2 => ?_) (fun c2 => ?_)
  · have k := k.1 c2
    refine aw_iconst hX dX11_isRipe_18 zk_0 ?_
    refine aw_istore_n (L' := [some (.ref (X.G.ad 11 0)), some (.int x1), some (.int x2), some (.int (0 : Int32)), none, none]) hX dX11_isRipe_19 (Nat.le_of_ble_eq_true rfl) rfl ?_
    refine aw_iload_n hX dX11_isRipe_20 rfl ?_
    refine aw_aload_n hX dX11_isRipe_21 rfl ?_
    refine aw_getr (o' := 0) hX kf_X11_56 sh_11 (by decide) rfl rfl dX11_isRipe_22 ?_
    refine aw_iload_n hX dX11_isRipe_25 rfl ?_
    refine aw_iald' (k := (ix x1)) hX sh_50 (by decide) s1 rfl dX11_isRipe_26 ?_
    refine aw_iconst hX dX11_isRipe_27 zk_1 ?_
    refine aw_iadd hX dX11_isRipe_28 ?_
    refine aw_aload_n hX dX11_isRipe_29 rfl ?_
    refine aw_getr (o' := 0) hX kf_X11_13 sh_11 (by decide) rfl rfl dX11_isRipe_30 ?_
    refine aw_iconst hX dX11_isRipe_33 zk_0 ?_
    refine aw_iald' (k := 0) hX sh_36 (by decide) (zdi (by decide)) (by decide) dX11_isRipe_34 ?_
    have s3 := k.1
    have k := k.2
    refine aw_irem hX dX11_isRipe_35 s3 ?_
    refine aw_ishr hX dX11_isRipe_36 ?_
    refine aw_iconst hX dX11_isRipe_37 zk_1 ?_
    refine aw_iand hX dX11_isRipe_38 ?_
    refine aw_iconst hX dX11_isRipe_39 zk_1 ?_
    refine aw_icmp_ne (tgt := 47) hX dX11_isRipe_40 (by decide) (fun c4 => ?_) (fun c4 => ?_)
    · have k := k.1 c4
      refine aw_iconst hX dX11_isRipe_47 zk_0 ?_
      refine aw_istore (L' := [some (.ref (X.G.ad 11 0)), some (.int x1), some (.int x2), some (.int (0 : Int32)), some (.int (0 : Int32)), none]) hX dX11_isRipe_48 (Nat.le_of_ble_eq_true rfl) rfl ?_
      refine aw_aload_n hX dX11_isRipe_50 rfl ?_
      refine aw_getr (o' := 0) hX kf_X11_59 sh_11 (by decide) rfl rfl dX11_isRipe_51 ?_
      refine aw_iload_n hX dX11_isRipe_54 rfl ?_
      refine aw_iald' (k := (ix x1)) hX sh_51 (by decide) s1 rfl dX11_isRipe_55 ?_
      refine aw_topi (fun v5 ev5 => ?_)
      have k := k v5 ev5
      refine aw_istore (L' := [some (.ref (X.G.ad 11 0)), some (.int x1), some (.int x2), some (.int (0 : Int32)), some (.int (0 : Int32)), some (.int v5)]) hX dX11_isRipe_56 (Nat.le_of_ble_eq_true rfl) rfl ?_
      refine aw_iload hX dX11_isRipe_58 rfl ?_
      refine aw_iconst hX dX11_isRipe_60 zk_1 ?_
      refine aw_icmp_ne (tgt := 76) hX dX11_isRipe_61 (by decide) (fun c6 => ?_) (fun c6 => ?_)
      · have k := k.1 c6
        refine aw_iload hX dX11_isRipe_76 rfl ?_
        refine aw_iconst hX dX11_isRipe_78 zk_2 ?_
        refine aw_icmp_ne (tgt := 99) hX dX11_isRipe_79 (by decide) (fun c7 => ?_) (fun c7 => ?_)
        · have k := k.1 c7
          refine aw_iload hX dX11_isRipe_99 rfl ?_
          refine aw_iconst hX dX11_isRipe_101 zk_3 ?_
          refine aw_icmp_ne (tgt := 122) hX dX11_isRipe_102 (by decide) (fun c8 => ?_) (fun c8 => ?_)
          · have k := k.1 c8
            refine aw_iload_n hX dX11_isRipe_122 rfl ?_
            exact aw_zret hX hr (by decide) dX11_isRipe_123 k
          · have k := k.2 c8
            refine aw_iload_n hX dX11_isRipe_105 rfl ?_
            refine aw_if_ne (tgt := 114) hX dX11_isRipe_106 (by decide) (fun c9 => absurd c9 (by decide)) (fun _ => ?_)
            refine aw_iload hX dX11_isRipe_109 rfl ?_
            refine aw_if_eq (tgt := 118) hX dX11_isRipe_111 (by decide) (fun _ => ?_) (fun c10 => absurd c10 (by decide))
            refine aw_iconst hX dX11_isRipe_118 zk_0 ?_
            refine aw_goto (tgt := 123) hX dX11_isRipe_119 (by decide) ?_
            exact aw_zret hX hr (by decide) dX11_isRipe_123 k
        · have k := k.2 c7
          refine aw_iload_n hX dX11_isRipe_82 rfl ?_
          refine aw_if_eq (tgt := 95) hX dX11_isRipe_83 (by decide) (fun _ => ?_) (fun c11 => absurd c11 (by decide))
          refine aw_iconst hX dX11_isRipe_95 zk_0 ?_
          refine aw_goto (tgt := 123) hX dX11_isRipe_96 (by decide) ?_
          exact aw_zret hX hr (by decide) dX11_isRipe_123 k
      · have k := k.2 c6
        refine aw_iload_n hX dX11_isRipe_64 rfl ?_
        refine aw_if_ne (tgt := 72) hX dX11_isRipe_65 (by decide) (fun c12 => absurd c12 (by decide)) (fun _ => ?_)
        refine aw_iconst hX dX11_isRipe_68 zk_1 ?_
        refine aw_goto (tgt := 123) hX dX11_isRipe_69 (by decide) ?_
        exact aw_zret hX hr (by decide) dX11_isRipe_123 k
    · have k := k.2 c4
      refine aw_iconst hX dX11_isRipe_43 zk_1 ?_
      refine aw_goto (tgt := 48) hX dX11_isRipe_44 (by decide) ?_
      refine aw_istore (L' := [some (.ref (X.G.ad 11 0)), some (.int x1), some (.int x2), some (.int (0 : Int32)), some (.int (1 : Int32)), none]) hX dX11_isRipe_48 (Nat.le_of_ble_eq_true rfl) rfl ?_
      refine aw_aload_n hX dX11_isRipe_50 rfl ?_
      refine aw_getr (o' := 0) hX kf_X11_59 sh_11 (by decide) rfl rfl dX11_isRipe_51 ?_
      refine aw_iload_n hX dX11_isRipe_54 rfl ?_
      refine aw_iald' (k := (ix x1)) hX sh_51 (by decide) s1 rfl dX11_isRipe_55 ?_
      refine aw_topi (fun v13 ev13 => ?_)
      have k := k v13 ev13
      refine aw_istore (L' := [some (.ref (X.G.ad 11 0)), some (.int x1), some (.int x2), some (.int (0 : Int32)), some (.int (1 : Int32)), some (.int v13)]) hX dX11_isRipe_56 (Nat.le_of_ble_eq_true rfl) rfl ?_
      refine aw_iload hX dX11_isRipe_58 rfl ?_
      refine aw_iconst hX dX11_isRipe_60 zk_1 ?_
      refine aw_icmp_ne (tgt := 76) hX dX11_isRipe_61 (by decide) (fun c14 => ?_) (fun c14 => ?_)
      · have k := k.1 c14
        refine aw_iload hX dX11_isRipe_76 rfl ?_
        refine aw_iconst hX dX11_isRipe_78 zk_2 ?_
        refine aw_icmp_ne (tgt := 99) hX dX11_isRipe_79 (by decide) (fun c15 => ?_) (fun c15 => ?_)
        · have k := k.1 c15
          refine aw_iload hX dX11_isRipe_99 rfl ?_
          refine aw_iconst hX dX11_isRipe_101 zk_3 ?_
          refine aw_icmp_ne (tgt := 122) hX dX11_isRipe_102 (by decide) (fun c16 => ?_) (fun c16 => ?_)
          · have k := k.1 c16
            refine aw_iload_n hX dX11_isRipe_122 rfl ?_
            exact aw_zret hX hr (by decide) dX11_isRipe_123 k
          · have k := k.2 c16
            refine aw_iload_n hX dX11_isRipe_105 rfl ?_
            refine aw_if_ne (tgt := 114) hX dX11_isRipe_106 (by decide) (fun c17 => absurd c17 (by decide)) (fun _ => ?_)
            refine aw_iload hX dX11_isRipe_109 rfl ?_
            refine aw_if_eq (tgt := 118) hX dX11_isRipe_111 (by decide) (fun c18 => absurd c18 (by decide)) (fun _ => ?_)
            refine aw_iconst hX dX11_isRipe_114 zk_1 ?_
            refine aw_goto (tgt := 123) hX dX11_isRipe_115 (by decide) ?_
            exact aw_zret hX hr (by decide) dX11_isRipe_123 k
        · have k := k.2 c15
          refine aw_iload_n hX dX11_isRipe_82 rfl ?_
          refine aw_if_eq (tgt := 95) hX dX11_isRipe_83 (by decide) (fun _ => ?_) (fun c19 => absurd c19 (by decide))
          refine aw_iconst hX dX11_isRipe_95 zk_0 ?_
          refine aw_goto (tgt := 123) hX dX11_isRipe_96 (by decide) ?_
          exact aw_zret hX hr (by decide) dX11_isRipe_123 k
      · have k := k.2 c14
        refine aw_iload_n hX dX11_isRipe_64 rfl ?_
        refine aw_if_ne (tgt := 72) hX dX11_isRipe_65 (by decide) (fun c20 => absurd c20 (by decide)) (fun _ => ?_)
        refine aw_iconst hX dX11_isRipe_68 zk_1 ?_
        refine aw_goto (tgt := 123) hX dX11_isRipe_69 (by decide) ?_
        exact aw_zret hX hr (by decide) dX11_isRipe_123 k
  · have k := k.2 c2
    refine aw_iconst hX dX11_isRipe_14 zk_1 ?_
    refine aw_goto (tgt := 19) hX dX11_isRipe_15 (by decide) ?_
    refine aw_istore_n (L' := [some (.ref (X.G.ad 11 0)), some (.int x1), some (.int x2), some (.int (1 : Int32)), none, none]) hX dX11_isRipe_19 (Nat.le_of_ble_eq_true rfl) rfl ?_
    refine aw_iload_n hX dX11_isRipe_20 rfl ?_
    refine aw_aload_n hX dX11_isRipe_21 rfl ?_
    refine aw_getr (o' := 0) hX kf_X11_56 sh_11 (by decide) rfl rfl dX11_isRipe_22 ?_
    refine aw_iload_n hX dX11_isRipe_25 rfl ?_
    refine aw_iald' (k := (ix x1)) hX sh_50 (by decide) s1 rfl dX11_isRipe_26 ?_
    refine aw_iconst hX dX11_isRipe_27 zk_1 ?_
    refine aw_iadd hX dX11_isRipe_28 ?_
    refine aw_aload_n hX dX11_isRipe_29 rfl ?_
    refine aw_getr (o' := 0) hX kf_X11_13 sh_11 (by decide) rfl rfl dX11_isRipe_30 ?_
    refine aw_iconst hX dX11_isRipe_33 zk_0 ?_
    refine aw_iald' (k := 0) hX sh_36 (by decide) (zdi (by decide)) (by decide) dX11_isRipe_34 ?_
    have s21 := k.1
    have k := k.2
    refine aw_irem hX dX11_isRipe_35 s21 ?_
    refine aw_ishr hX dX11_isRipe_36 ?_
    refine aw_iconst hX dX11_isRipe_37 zk_1 ?_
    refine aw_iand hX dX11_isRipe_38 ?_
    refine aw_iconst hX dX11_isRipe_39 zk_1 ?_
    refine aw_icmp_ne (tgt := 47) hX dX11_isRipe_40 (by decide) (fun c22 => ?_) (fun c22 => ?_)
    · have k := k.1 c22
      refine aw_iconst hX dX11_isRipe_47 zk_0 ?_
      refine aw_istore (L' := [some (.ref (X.G.ad 11 0)), some (.int x1), some (.int x2), some (.int (1 : Int32)), some (.int (0 : Int32)), none]) hX dX11_isRipe_48 (Nat.le_of_ble_eq_true rfl) rfl ?_
      refine aw_aload_n hX dX11_isRipe_50 rfl ?_
      refine aw_getr (o' := 0) hX kf_X11_59 sh_11 (by decide) rfl rfl dX11_isRipe_51 ?_
      refine aw_iload_n hX dX11_isRipe_54 rfl ?_
      refine aw_iald' (k := (ix x1)) hX sh_51 (by decide) s1 rfl dX11_isRipe_55 ?_
      refine aw_topi (fun v23 ev23 => ?_)
      have k := k v23 ev23
      refine aw_istore (L' := [some (.ref (X.G.ad 11 0)), some (.int x1), some (.int x2), some (.int (1 : Int32)), some (.int (0 : Int32)), some (.int v23)]) hX dX11_isRipe_56 (Nat.le_of_ble_eq_true rfl) rfl ?_
      refine aw_iload hX dX11_isRipe_58 rfl ?_
      refine aw_iconst hX dX11_isRipe_60 zk_1 ?_
      refine aw_icmp_ne (tgt := 76) hX dX11_isRipe_61 (by decide) (fun c24 => ?_) (fun c24 => ?_)
      · have k := k.1 c24
        refine aw_iload hX dX11_isRipe_76 rfl ?_
        refine aw_iconst hX dX11_isRipe_78 zk_2 ?_
        refine aw_icmp_ne (tgt := 99) hX dX11_isRipe_79 (by decide) (fun c25 => ?_) (fun c25 => ?_)
        · have k := k.1 c25
          refine aw_iload hX dX11_isRipe_99 rfl ?_
          refine aw_iconst hX dX11_isRipe_101 zk_3 ?_
          refine aw_icmp_ne (tgt := 122) hX dX11_isRipe_102 (by decide) (fun c26 => ?_) (fun c26 => ?_)
          · have k := k.1 c26
            refine aw_iload_n hX dX11_isRipe_122 rfl ?_
            exact aw_zret hX hr (by decide) dX11_isRipe_123 k
          · have k := k.2 c26
            refine aw_iload_n hX dX11_isRipe_105 rfl ?_
            refine aw_if_ne (tgt := 114) hX dX11_isRipe_106 (by decide) (fun _ => ?_) (fun c27 => absurd c27 (by decide))
            refine aw_iconst hX dX11_isRipe_114 zk_1 ?_
            refine aw_goto (tgt := 123) hX dX11_isRipe_115 (by decide) ?_
            exact aw_zret hX hr (by decide) dX11_isRipe_123 k
        · have k := k.2 c25
          refine aw_iload_n hX dX11_isRipe_82 rfl ?_
          refine aw_if_eq (tgt := 95) hX dX11_isRipe_83 (by decide) (fun c28 => absurd c28 (by decide)) (fun _ => ?_)
          refine aw_iload hX dX11_isRipe_86 rfl ?_
          refine aw_if_eq (tgt := 95) hX dX11_isRipe_88 (by decide) (fun _ => ?_) (fun c29 => absurd c29 (by decide))
          refine aw_iconst hX dX11_isRipe_95 zk_0 ?_
          refine aw_goto (tgt := 123) hX dX11_isRipe_96 (by decide) ?_
          exact aw_zret hX hr (by decide) dX11_isRipe_123 k
      · have k := k.2 c24
        refine aw_iload_n hX dX11_isRipe_64 rfl ?_
        refine aw_if_ne (tgt := 72) hX dX11_isRipe_65 (by decide) (fun _ => ?_) (fun c30 => absurd c30 (by decide))
        refine aw_iconst hX dX11_isRipe_72 zk_0 ?_
        refine aw_goto (tgt := 123) hX dX11_isRipe_73 (by decide) ?_
        exact aw_zret hX hr (by decide) dX11_isRipe_123 k
    · have k := k.2 c22
      refine aw_iconst hX dX11_isRipe_43 zk_1 ?_
      refine aw_goto (tgt := 48) hX dX11_isRipe_44 (by decide) ?_
      refine aw_istore (L' := [some (.ref (X.G.ad 11 0)), some (.int x1), some (.int x2), some (.int (1 : Int32)), some (.int (1 : Int32)), none]) hX dX11_isRipe_48 (Nat.le_of_ble_eq_true rfl) rfl ?_
      refine aw_aload_n hX dX11_isRipe_50 rfl ?_
      refine aw_getr (o' := 0) hX kf_X11_59 sh_11 (by decide) rfl rfl dX11_isRipe_51 ?_
      refine aw_iload_n hX dX11_isRipe_54 rfl ?_
      refine aw_iald' (k := (ix x1)) hX sh_51 (by decide) s1 rfl dX11_isRipe_55 ?_
      refine aw_topi (fun v31 ev31 => ?_)
      have k := k v31 ev31
      refine aw_istore (L' := [some (.ref (X.G.ad 11 0)), some (.int x1), some (.int x2), some (.int (1 : Int32)), some (.int (1 : Int32)), some (.int v31)]) hX dX11_isRipe_56 (Nat.le_of_ble_eq_true rfl) rfl ?_
      refine aw_iload hX dX11_isRipe_58 rfl ?_
      refine aw_iconst hX dX11_isRipe_60 zk_1 ?_
      refine aw_icmp_ne (tgt := 76) hX dX11_isRipe_61 (by decide) (fun c32 => ?_) (fun c32 => ?_)
      · have k := k.1 c32
        refine aw_iload hX dX11_isRipe_76 rfl ?_
        refine aw_iconst hX dX11_isRipe_78 zk_2 ?_
        refine aw_icmp_ne (tgt := 99) hX dX11_isRipe_79 (by decide) (fun c33 => ?_) (fun c33 => ?_)
        · have k := k.1 c33
          refine aw_iload hX dX11_isRipe_99 rfl ?_
          refine aw_iconst hX dX11_isRipe_101 zk_3 ?_
          refine aw_icmp_ne (tgt := 122) hX dX11_isRipe_102 (by decide) (fun c34 => ?_) (fun c34 => ?_)
          · have k := k.1 c34
            refine aw_iload_n hX dX11_isRipe_122 rfl ?_
            exact aw_zret hX hr (by decide) dX11_isRipe_123 k
          · have k := k.2 c34
            refine aw_iload_n hX dX11_isRipe_105 rfl ?_
            refine aw_if_ne (tgt := 114) hX dX11_isRipe_106 (by decide) (fun _ => ?_) (fun c35 => absurd c35 (by decide))
            refine aw_iconst hX dX11_isRipe_114 zk_1 ?_
            refine aw_goto (tgt := 123) hX dX11_isRipe_115 (by decide) ?_
            exact aw_zret hX hr (by decide) dX11_isRipe_123 k
        · have k := k.2 c33
          refine aw_iload_n hX dX11_isRipe_82 rfl ?_
          refine aw_if_eq (tgt := 95) hX dX11_isRipe_83 (by decide) (fun c36 => absurd c36 (by decide)) (fun _ => ?_)
          refine aw_iload hX dX11_isRipe_86 rfl ?_
          refine aw_if_eq (tgt := 95) hX dX11_isRipe_88 (by decide) (fun c37 => absurd c37 (by decide)) (fun _ => ?_)
          refine aw_iconst hX dX11_isRipe_91 zk_1 ?_
          refine aw_goto (tgt := 123) hX dX11_isRipe_92 (by decide) ?_
          exact aw_zret hX hr (by decide) dX11_isRipe_123 k
      · have k := k.2 c32
        refine aw_iload_n hX dX11_isRipe_64 rfl ?_
        refine aw_if_ne (tgt := 72) hX dX11_isRipe_65 (by decide) (fun _ => ?_) (fun c38 => absurd c38 (by decide))
        refine aw_iconst hX dX11_isRipe_72 zk_0 ?_
        refine aw_goto (tgt := 123) hX dX11_isRipe_73 (by decide) ?_
        exact aw_zret hX hr (by decide) dX11_isRipe_123 k

set_option maxRecDepth 100000 in
set_option maxHeartbeats 4000000 in
theorem st_X11_takes_0 {X : zX} {lv : Nat} {Post : Option Value → zM → Prop} (hX : zOk X cX11_takes RX11 4 lv) (hr : zRt X none Post)  {x1 : Int32} {x2 : Int32} {μ : zM}
    (k : (vp_in x2 64) ∧ ((vp_in ((6 : Int32) + x1) 64) ∧ ((0 < lv) ∧ (∀ v4 : Int32, v4 = (if (μ.1 70 0 (ix ((6 : Int32) + x1))) < (μ.1 70 0 (ix x2)) then (μ.1 70 0 (ix ((6 : Int32) + x1))) else (μ.1 70 0 (ix x2))) → (∀ μ5 : zM, μ5 = pI μ 70 0 (ix x2) ((μ.1 70 0 (ix x2)) - v4) → ((vp_in x1 60) ∧ ((vp_in (μ5.1 45 0 (ix x1)) 64) ∧ (∀ μ8 : zM, μ8 = pI μ5 70 0 (ix (μ5.1 45 0 (ix x1))) ((μ5.1 70 0 (ix (μ5.1 45 0 (ix x1)))) + v4) → (∀ μ9 : zM, μ9 = pI μ8 70 0 (ix ((6 : Int32) + x1)) ((μ8.1 70 0 (ix ((6 : Int32) + x1))) - v4) → ((vp_in ((36 : Int32) + x1) 64) ∧ (∀ μ11 : zM, μ11 = pI μ9 70 0 (ix ((36 : Int32) + x1)) ((μ9.1 70 0 (ix ((36 : Int32) + x1))) + v4) → (∀ μ12 : zM, μ12 = pI μ11 11 0 51 ((μ11.1 11 0 51) + v4) → (Post none μ12))))))))))))) :
    AW X 0 [some (.ref (X.G.ad 11 0)), some (.int x1), some (.int x2), none] [] μ := by
  refine aw_aload_n hX dX11_takes_0 rfl ?_
  refine aw_getr (o' := 0) hX kf_X11_117 sh_11 (by decide) rfl rfl dX11_takes_1 ?_
  refine aw_iload_n hX dX11_takes_4 rfl ?_
  have s1 := k.1
  have k := k.2
  refine aw_iald' (k := (ix x2)) hX sh_70 (by decide) s1 rfl dX11_takes_5 ?_
  refine aw_aload_n hX dX11_takes_6 rfl ?_
  refine aw_getr (o' := 0) hX kf_X11_117 sh_11 (by decide) rfl rfl dX11_takes_7 ?_
  refine aw_bipush hX dX11_takes_10 zb_6 ?_
  refine aw_iload_n hX dX11_takes_12 rfl ?_
  refine aw_iadd hX dX11_takes_13 ?_
  have s2 := k.1
  have k := k.2
  refine aw_iald' (k := (ix ((6 : Int32) + x1))) hX sh_70 (by decide) s2 rfl dX11_takes_14 ?_
  have s3 := k.1
  have k := k.2
  refine aw_minG gx_mi hX km_X11_331 s3 (Nat.le_of_ble_eq_true rfl) dX11_takes_15 ?_
  refine aw_topi (fun v4 ev4 => ?_)
  have k := k v4 ev4
  refine aw_istore_n (L' := [some (.ref (X.G.ad 11 0)), some (.int x1), some (.int x2), some (.int v4)]) hX dX11_takes_18 (Nat.le_of_ble_eq_true rfl) rfl ?_
  refine aw_aload_n hX dX11_takes_19 rfl ?_
  refine aw_getr (o' := 0) hX kf_X11_117 sh_11 (by decide) rfl rfl dX11_takes_20 ?_
  refine aw_iload_n hX dX11_takes_23 rfl ?_
  refine aw_dup2 hX dX11_takes_24 rfl rfl ?_
  refine aw_iald' (k := (ix x2)) hX sh_70 (by decide) s1 rfl dX11_takes_25 ?_
  refine aw_iload_n hX dX11_takes_26 rfl ?_
  refine aw_isub hX dX11_takes_27 ?_
  refine aw_iast' (k := (ix x2)) hX sh_70 (by decide) s1 rfl dX11_takes_28 ?_
  refine aw_mem (fun μ5 eμ5 => ?_)
  have k := k μ5 eμ5
  refine aw_aload_n hX dX11_takes_29 rfl ?_
  refine aw_getr (o' := 0) hX kf_X11_117 sh_11 (by decide) rfl rfl dX11_takes_30 ?_
  refine aw_aload_n hX dX11_takes_33 rfl ?_
  refine aw_getr (o' := 0) hX kf_X11_41 sh_11 (by decide) rfl rfl dX11_takes_34 ?_
  refine aw_iload_n hX dX11_takes_37 rfl ?_
  have s6 := k.1
  have k := k.2
  refine aw_iald' (k := (ix x1)) hX sh_45 (by decide) s6 rfl dX11_takes_38 ?_
  refine aw_dup2 hX dX11_takes_39 rfl rfl ?_
  have s7 := k.1
  have k := k.2
  refine aw_iald' (k := (ix (μ5.1 45 0 (ix x1)))) hX sh_70 (by decide) s7 rfl dX11_takes_40 ?_
  refine aw_iload_n hX dX11_takes_41 rfl ?_
  refine aw_iadd hX dX11_takes_42 ?_
  refine aw_iast' (k := (ix (μ5.1 45 0 (ix x1)))) hX sh_70 (by decide) s7 rfl dX11_takes_43 ?_
  refine aw_mem (fun μ8 eμ8 => ?_)
  have k := k μ8 eμ8
  refine aw_aload_n hX dX11_takes_44 rfl ?_
  refine aw_getr (o' := 0) hX kf_X11_117 sh_11 (by decide) rfl rfl dX11_takes_45 ?_
  refine aw_bipush hX dX11_takes_48 zb_6 ?_
  refine aw_iload_n hX dX11_takes_50 rfl ?_
  refine aw_iadd hX dX11_takes_51 ?_
  refine aw_dup2 hX dX11_takes_52 rfl rfl ?_
  refine aw_iald' (k := (ix ((6 : Int32) + x1))) hX sh_70 (by decide) s2 rfl dX11_takes_53 ?_
  refine aw_iload_n hX dX11_takes_54 rfl ?_
  refine aw_isub hX dX11_takes_55 ?_
  refine aw_iast' (k := (ix ((6 : Int32) + x1))) hX sh_70 (by decide) s2 rfl dX11_takes_56 ?_
  refine aw_mem (fun μ9 eμ9 => ?_)
  have k := k μ9 eμ9
  refine aw_aload_n hX dX11_takes_57 rfl ?_
  refine aw_getr (o' := 0) hX kf_X11_117 sh_11 (by decide) rfl rfl dX11_takes_58 ?_
  refine aw_bipush hX dX11_takes_61 zb_36 ?_
  refine aw_iload_n hX dX11_takes_63 rfl ?_
  refine aw_iadd hX dX11_takes_64 ?_
  refine aw_dup2 hX dX11_takes_65 rfl rfl ?_
  have s10 := k.1
  have k := k.2
  refine aw_iald' (k := (ix ((36 : Int32) + x1))) hX sh_70 (by decide) s10 rfl dX11_takes_66 ?_
  refine aw_iload_n hX dX11_takes_67 rfl ?_
  refine aw_iadd hX dX11_takes_68 ?_
  refine aw_iast' (k := (ix ((36 : Int32) + x1))) hX sh_70 (by decide) s10 rfl dX11_takes_69 ?_
  refine aw_mem (fun μ11 eμ11 => ?_)
  have k := k μ11 eμ11
  refine aw_aload_n hX dX11_takes_70 rfl ?_
  refine aw_dup hX dX11_takes_71 rfl ?_
  refine aw_geti hX kf_X11_337 sh_11 (by decide) rfl dX11_takes_72 ?_
  refine aw_iload_n hX dX11_takes_75 rfl ?_
  refine aw_iadd hX dX11_takes_76 ?_
  refine aw_puti hX kp_X11_337 sh_11 (by decide) rfl rfl rfl dX11_takes_77 ?_
  refine aw_mem (fun μ12 eμ12 => ?_)
  have k := k μ12 eμ12
  exact aw_vret hX hr dX11_takes_80 k

set_option maxRecDepth 100000 in
set_option maxHeartbeats 4000000 in
theorem st_X11_isFlood_0 {X : zX} {lv : Nat} {Post : Option Value → zM → Prop} (hX : zOk X cX11_isFlood RX11 2 lv) (hr : zRt X (some .boolean) Post)  {x1 : Int32} {μ : zM}
    (k : ((μ.1 36 0 0) ≤ (1 : Int32) → (Post (some (.int (0 : Int32))) μ)) ∧ (¬ (μ.1 36 0 0) ≤ (1 : Int32) → ((¬ x1 = (((1 : Int32) <<< ((μ.1 36 0 0) &&& 31)) - (1 : Int32)) → (Post (some (.int (0 : Int32))) μ)) ∧ (x1 = (((1 : Int32) <<< ((μ.1 36 0 0) &&& 31)) - (1 : Int32)) → (Post (some (.int (1 : Int32))) μ))))) :
    AW X 0 [some (.ref (X.G.ad 11 0)), some (.int x1)] [] μ := by
  refine aw_aload_n hX dX11_isFlood_0 rfl ?_
  refine aw_getr (o' := 0) hX kf_X11_13 sh_11 (by decide) rfl rfl dX11_isFlood_1 ?_
  refine aw_iconst hX dX11_isFlood_4 zk_0 ?_
  refine aw_iald' (k := 0) hX sh_36 (by decide) (zdi (by decide)) (by decide) dX11_isFlood_5 ?_
  refine aw_iconst hX dX11_isFlood_6 zk_1 ?_
  refine aw_icmp_le (tgt := 28) hX dX11_isFlood_7 (by decide) (fun c1 => ?_) (fun c1 => ?_)
  · have k := k.1 c1
    refine aw_iconst hX dX11_isFlood_28 zk_0 ?_
    exact aw_zret hX hr (by decide) dX11_isFlood_29 k
  · have k := k.2 c1
    refine aw_iload_n hX dX11_isFlood_10 rfl ?_
    refine aw_iconst hX dX11_isFlood_11 zk_1 ?_
    refine aw_aload_n hX dX11_isFlood_12 rfl ?_
    refine aw_getr (o' := 0) hX kf_X11_13 sh_11 (by decide) rfl rfl dX11_isFlood_13 ?_
    refine aw_iconst hX dX11_isFlood_16 zk_0 ?_
    refine aw_iald' (k := 0) hX sh_36 (by decide) (zdi (by decide)) (by decide) dX11_isFlood_17 ?_
    refine aw_ishl hX dX11_isFlood_18 ?_
    refine aw_iconst hX dX11_isFlood_19 zk_1 ?_
    refine aw_isub hX dX11_isFlood_20 ?_
    refine aw_icmp_ne (tgt := 28) hX dX11_isFlood_21 (by decide) (fun c2 => ?_) (fun c2 => ?_)
    · have k := k.1 c2
      refine aw_iconst hX dX11_isFlood_28 zk_0 ?_
      exact aw_zret hX hr (by decide) dX11_isFlood_29 k
    · have k := k.2 c2
      refine aw_iconst hX dX11_isFlood_24 zk_1 ?_
      refine aw_goto (tgt := 29) hX dX11_isFlood_25 (by decide) ?_
      exact aw_zret hX hr (by decide) dX11_isFlood_29 k

set_option maxRecDepth 100000 in
set_option maxHeartbeats 4000000 in
theorem st_X11_fallsDue_0 {X : zX} {lv : Nat} {Post : Option Value → zM → Prop} (hX : zOk X cX11_fallsDue RX11 5 lv) (hr : zRt X none Post)  {x1 : Int32} {μ : zM}
    (k : zCallI X lv yX11_isFlood cX11_isFlood 2 (some .boolean) [.ref (X.G.ad 11 0), .int x1] μ (fun (r1 : Int32) μ2 => AW X 8 [some (.ref (X.G.ad 11 0)), some (.int x1), some (.int r1), some (.int (0 : Int32)), none] [] μ2)) :
    AW X 0 [some (.ref (X.G.ad 11 0)), some (.int x1), none, none, none] [] μ := by
  refine aw_aload_n hX dX11_fallsDue_0 rfl ?_
  refine aw_iload_n hX dX11_fallsDue_1 rfl ?_
  refine aw_invI (As := [.int x1]) (rest := []) (κ := 11) (o := 0) (T := TX11) (N := 55) hX vc_X11_340 sh_11 (by decide) rfl rfl rfl (Nat.le_of_ble_eq_true rfl) dX11_fallsDue_2 k (fun r1 μ2 k => ?_)
  refine aw_istore_n (L' := [some (.ref (X.G.ad 11 0)), some (.int x1), some (.int r1), none, none]) hX dX11_fallsDue_5 (Nat.le_of_ble_eq_true rfl) rfl ?_
  refine aw_iconst hX dX11_fallsDue_6 zk_0 ?_
  refine aw_istore_n (L' := [some (.ref (X.G.ad 11 0)), some (.int x1), some (.int r1), some (.int (0 : Int32)), none]) hX dX11_fallsDue_7 (Nat.le_of_ble_eq_true rfl) rfl ?_
  exact k

set_option maxRecDepth 100000 in
set_option maxHeartbeats 4000000 in
theorem st_X11_fallsDue_8 {X : zX} {lv : Nat} {Post : Option Value → zM → Prop} (hX : zOk X cX11_fallsDue RX11 5 lv) (hr : zRt X none Post)  {x1 : Int32} {x2 : Int32} {x3 : Int32} {μ : zM}
    (k : ((μ.1 38 0 0) ≤ x3 → (AW X 124 [some (.ref (X.G.ad 11 0)), none, none, some (.int (0 : Int32)), none] [] μ)) ∧ (¬ (μ.1 38 0 0) ≤ x3 → ((vp_in ((16 : Int32) + x3) 64) ∧ ((¬ (μ.1 70 0 (ix ((16 : Int32) + x3))) = (2 : Int32) → (zCallI X lv yX11_isRipe cX11_isRipe 6 (some .boolean) [.ref (X.G.ad 11 0), .int x3, .int x1] μ (fun (r4 : Int32) μ5 => (r4 = 0 → (AW X 74 [some (.ref (X.G.ad 11 0)), some (.int x1), some (.int x2), some (.int x3), none] [] μ5)) ∧ (¬ r4 = 0 → ((vp_in ((26 : Int32) + x3) 64) ∧ (∀ μ8 : zM, μ8 = pI μ5 70 0 (ix ((26 : Int32) + x3)) ((μ5.1 70 0 (ix ((26 : Int32) + x3))) + (1 : Int32)) → ((vp_in ((6 : Int32) + x3) 64) ∧ ((vp_in x3 60) ∧ (∀ μ11 : zM, μ11 = pI μ8 70 0 (ix ((6 : Int32) + x3)) ((μ8.1 70 0 (ix ((6 : Int32) + x3))) + (μ8.1 48 0 (ix x3))) → (AW X 74 [some (.ref (X.G.ad 11 0)), some (.int x1), some (.int x2), some (.int x3), none] [] μ11)))))))))) ∧ ((μ.1 70 0 (ix ((16 : Int32) + x3))) = (2 : Int32) → (∀ v12 : Int32, v12 = x3 + (1 : Int32) → (AW X 8 [some (.ref (X.G.ad 11 0)), some (.int x1), some (.int x2), some (.int v12), none] [] μ))))))) :
    AW X 8 [some (.ref (X.G.ad 11 0)), some (.int x1), some (.int x2), some (.int x3), none] [] μ := by
  refine aw_iload_n hX dX11_fallsDue_8 rfl ?_
  refine aw_aload_n hX dX11_fallsDue_9 rfl ?_
  refine aw_getr (o' := 0) hX kf_X11_19 sh_11 (by decide) rfl rfl dX11_fallsDue_10 ?_
  refine aw_iconst hX dX11_fallsDue_13 zk_0 ?_
  refine aw_iald' (k := 0) hX sh_38 (by decide) (zdi (by decide)) (by decide) dX11_fallsDue_14 ?_
  refine aw_icmp_ge (tgt := 122) hX dX11_fallsDue_15 (by decide) (fun c1 => ?_) (fun c1 => ?_)
  · have k := k.1 c1
    refine aw_iconst hX dX11_fallsDue_122 zk_0 ?_
    refine aw_istore_n (L' := [some (.ref (X.G.ad 11 0)), some (.int x1), some (.int x2), some (.int (0 : Int32)), none]) hX dX11_fallsDue_123 (Nat.le_of_ble_eq_true rfl) rfl ?_
    exact aw_less (zle_s (zle_o (zle_o (zle_s (zle_o zle_n))))) k
  · have k := k.2 c1
    refine aw_aload_n hX dX11_fallsDue_18 rfl ?_
    refine aw_getr (o' := 0) hX kf_X11_117 sh_11 (by decide) rfl rfl dX11_fallsDue_19 ?_
    refine aw_bipush hX dX11_fallsDue_22 zb_16 ?_
    refine aw_iload_n hX dX11_fallsDue_24 rfl ?_
    refine aw_iadd hX dX11_fallsDue_25 ?_
    have s2 := k.1
    have k := k.2
    refine aw_iald' (k := (ix ((16 : Int32) + x3))) hX sh_70 (by decide) s2 rfl dX11_fallsDue_26 ?_
    refine aw_iconst hX dX11_fallsDue_27 zk_2 ?_
    refine aw_icmp_ne (tgt := 34) hX dX11_fallsDue_28 (by decide) (fun c3 => ?_) (fun c3 => ?_)
    · have k := k.1 c3
      refine aw_aload_n hX dX11_fallsDue_34 rfl ?_
      refine aw_iload_n hX dX11_fallsDue_35 rfl ?_
      refine aw_iload_n hX dX11_fallsDue_36 rfl ?_
      refine aw_invI (As := [.int x3, .int x1]) (rest := []) (κ := 11) (o := 0) (T := TX11) (N := 55) hX vc_X11_343 sh_11 (by decide) rfl rfl rfl (Nat.le_of_ble_eq_true rfl) dX11_fallsDue_37 k (fun r4 μ5 k => ?_)
      refine aw_if_eq (tgt := 74) hX dX11_fallsDue_40 (by decide) (fun c6 => ?_) (fun c6 => ?_)
      · have k := k.1 c6
        exact k
      · have k := k.2 c6
        refine aw_aload_n hX dX11_fallsDue_43 rfl ?_
        refine aw_getr (o' := 0) hX kf_X11_117 sh_11 (by decide) rfl rfl dX11_fallsDue_44 ?_
        refine aw_bipush hX dX11_fallsDue_47 zb_26 ?_
        refine aw_iload_n hX dX11_fallsDue_49 rfl ?_
        refine aw_iadd hX dX11_fallsDue_50 ?_
        refine aw_dup2 hX dX11_fallsDue_51 rfl rfl ?_
        have s7 := k.1
        have k := k.2
        refine aw_iald' (k := (ix ((26 : Int32) + x3))) hX sh_70 (by decide) s7 rfl dX11_fallsDue_52 ?_
        refine aw_iconst hX dX11_fallsDue_53 zk_1 ?_
        refine aw_iadd hX dX11_fallsDue_54 ?_
        refine aw_iast' (k := (ix ((26 : Int32) + x3))) hX sh_70 (by decide) s7 rfl dX11_fallsDue_55 ?_
        refine aw_mem (fun μ8 eμ8 => ?_)
        have k := k μ8 eμ8
        refine aw_aload_n hX dX11_fallsDue_56 rfl ?_
        refine aw_getr (o' := 0) hX kf_X11_117 sh_11 (by decide) rfl rfl dX11_fallsDue_57 ?_
        refine aw_bipush hX dX11_fallsDue_60 zb_6 ?_
        refine aw_iload_n hX dX11_fallsDue_62 rfl ?_
        refine aw_iadd hX dX11_fallsDue_63 ?_
        refine aw_dup2 hX dX11_fallsDue_64 rfl rfl ?_
        have s9 := k.1
        have k := k.2
        refine aw_iald' (k := (ix ((6 : Int32) + x3))) hX sh_70 (by decide) s9 rfl dX11_fallsDue_65 ?_
        refine aw_aload_n hX dX11_fallsDue_66 rfl ?_
        refine aw_getr (o' := 0) hX kf_X11_50 sh_11 (by decide) rfl rfl dX11_fallsDue_67 ?_
        refine aw_iload_n hX dX11_fallsDue_70 rfl ?_
        have s10 := k.1
        have k := k.2
        refine aw_iald' (k := (ix x3)) hX sh_48 (by decide) s10 rfl dX11_fallsDue_71 ?_
        refine aw_iadd hX dX11_fallsDue_72 ?_
        refine aw_iast' (k := (ix ((6 : Int32) + x3))) hX sh_70 (by decide) s9 rfl dX11_fallsDue_73 ?_
        refine aw_mem (fun μ11 eμ11 => ?_)
        have k := k μ11 eμ11
        exact k
    · have k := k.2 c3
      refine aw_goto (tgt := 116) hX dX11_fallsDue_31 (by decide) ?_
      obtain ⟨v12, ev12⟩ : ∃ y : Int32, y = x3 + (1 : Int32) := ⟨_, rfl⟩
      have k := k v12 ev12
      refine aw_iinc (v := v12) (L' := [some (.ref (X.G.ad 11 0)), some (.int x1), some (.int x2), some (.int v12), none]) hX dX11_fallsDue_116 rfl (by rw [ev12]; rfl) (Nat.le_of_ble_eq_true rfl) rfl ?_
      refine aw_goto (tgt := 8) hX dX11_fallsDue_119 (by decide) ?_
      exact k

set_option maxRecDepth 100000 in
set_option maxHeartbeats 4000000 in
theorem st_X11_fallsDue_124 {X : zX} {lv : Nat} {Post : Option Value → zM → Prop} (hX : zOk X cX11_fallsDue RX11 5 lv) (hr : zRt X none Post)  {x3 : Int32} {μ : zM}
    (k : ((μ.1 38 0 0) ≤ x3 → (Post none μ)) ∧ (¬ (μ.1 38 0 0) ≤ x3 → ((vp_in x3 60) ∧ ((¬ (μ.1 51 0 (ix x3)) = (5 : Int32) → (∀ v4 : Int32, v4 = x3 + (1 : Int32) → (AW X 124 [some (.ref (X.G.ad 11 0)), none, none, some (.int v4), none] [] μ))) ∧ ((μ.1 51 0 (ix x3)) = (5 : Int32) → ((vp_in ((16 : Int32) + x3) 64) ∧ (((μ.1 70 0 (ix ((16 : Int32) + x3))) = 0 → (AW X 162 [some (.ref (X.G.ad 11 0)), none, none, some (.int x3), some (.int (0 : Int32))] [] μ)) ∧ (¬ (μ.1 70 0 (ix ((16 : Int32) + x3))) = 0 → (∀ v7 : Int32, v7 = x3 + (1 : Int32) → (AW X 124 [some (.ref (X.G.ad 11 0)), none, none, some (.int v7), none] [] μ)))))))))) :
    AW X 124 [some (.ref (X.G.ad 11 0)), none, none, some (.int x3), none] [] μ := by
  refine aw_iload_n hX dX11_fallsDue_124 rfl ?_
  refine aw_aload_n hX dX11_fallsDue_125 rfl ?_
  refine aw_getr (o' := 0) hX kf_X11_19 sh_11 (by decide) rfl rfl dX11_fallsDue_126 ?_
  refine aw_iconst hX dX11_fallsDue_129 zk_0 ?_
  refine aw_iald' (k := 0) hX sh_38 (by decide) (zdi (by decide)) (by decide) dX11_fallsDue_130 ?_
  refine aw_icmp_ge (tgt := 225) hX dX11_fallsDue_131 (by decide) (fun c1 => ?_) (fun c1 => ?_)
  · have k := k.1 c1
    exact aw_vret hX hr dX11_fallsDue_225 k
  · have k := k.2 c1
    refine aw_aload_n hX dX11_fallsDue_134 rfl ?_
    refine aw_getr (o' := 0) hX kf_X11_59 sh_11 (by decide) rfl rfl dX11_fallsDue_135 ?_
    refine aw_iload_n hX dX11_fallsDue_138 rfl ?_
    have s2 := k.1
    have k := k.2
    refine aw_iald' (k := (ix x3)) hX sh_51 (by decide) s2 rfl dX11_fallsDue_139 ?_
    refine aw_iconst hX dX11_fallsDue_140 zk_5 ?_
    refine aw_icmp_ne (tgt := 219) hX dX11_fallsDue_141 (by decide) (fun c3 => ?_) (fun c3 => ?_)
    · have k := k.1 c3
      obtain ⟨v4, ev4⟩ : ∃ y : Int32, y = x3 + (1 : Int32) := ⟨_, rfl⟩
      have k := k v4 ev4
      refine aw_iinc (v := v4) (L' := [some (.ref (X.G.ad 11 0)), none, none, some (.int v4), none]) hX dX11_fallsDue_219 rfl (by rw [ev4]; rfl) (Nat.le_of_ble_eq_true rfl) rfl ?_
      refine aw_goto (tgt := 124) hX dX11_fallsDue_222 (by decide) ?_
      exact k
    · have k := k.2 c3
      refine aw_aload_n hX dX11_fallsDue_144 rfl ?_
      refine aw_getr (o' := 0) hX kf_X11_117 sh_11 (by decide) rfl rfl dX11_fallsDue_145 ?_
      refine aw_bipush hX dX11_fallsDue_148 zb_16 ?_
      refine aw_iload_n hX dX11_fallsDue_150 rfl ?_
      refine aw_iadd hX dX11_fallsDue_151 ?_
      have s5 := k.1
      have k := k.2
      refine aw_iald' (k := (ix ((16 : Int32) + x3))) hX sh_70 (by decide) s5 rfl dX11_fallsDue_152 ?_
      refine aw_if_eq (tgt := 159) hX dX11_fallsDue_153 (by decide) (fun c6 => ?_) (fun c6 => ?_)
      · have k := k.1 c6
        refine aw_iconst hX dX11_fallsDue_159 zk_0 ?_
        refine aw_istore (L' := [some (.ref (X.G.ad 11 0)), none, none, some (.int x3), some (.int (0 : Int32))]) hX dX11_fallsDue_160 (Nat.le_of_ble_eq_true rfl) rfl ?_
        exact k
      · have k := k.2 c6
        refine aw_goto (tgt := 219) hX dX11_fallsDue_156 (by decide) ?_
        obtain ⟨v7, ev7⟩ : ∃ y : Int32, y = x3 + (1 : Int32) := ⟨_, rfl⟩
        have k := k v7 ev7
        refine aw_iinc (v := v7) (L' := [some (.ref (X.G.ad 11 0)), none, none, some (.int v7), none]) hX dX11_fallsDue_219 rfl (by rw [ev7]; rfl) (Nat.le_of_ble_eq_true rfl) rfl ?_
        refine aw_goto (tgt := 124) hX dX11_fallsDue_222 (by decide) ?_
        exact k

set_option maxRecDepth 100000 in
set_option maxHeartbeats 4000000 in
theorem st_X11_fallsDue_74 {X : zX} {lv : Nat} {Post : Option Value → zM → Prop} (hX : zOk X cX11_fallsDue RX11 5 lv) (hr : zRt X none Post)  {x1 : Int32} {x2 : Int32} {x3 : Int32} {μ : zM}
    (k : (vp_in ((26 : Int32) + x3) 64) ∧ ((vp_in x3 60) ∧ (((μ.1 49 0 (ix x3)) ≤ (μ.1 70 0 (ix ((26 : Int32) + x3))) → ((vp_in ((16 : Int32) + x3) 64) ∧ (∀ μ5 : zM, μ5 = pI μ 70 0 (ix ((16 : Int32) + x3)) (1 : Int32) → (∀ v6 : Int32, v6 = x3 + (1 : Int32) → (AW X 8 [some (.ref (X.G.ad 11 0)), some (.int x1), some (.int x2), some (.int v6), none] [] μ5))))) ∧ (¬ (μ.1 49 0 (ix x3)) ≤ (μ.1 70 0 (ix ((26 : Int32) + x3))) → ((x2 = 0 → (∀ v8 : Int32, v8 = x3 + (1 : Int32) → (AW X 8 [some (.ref (X.G.ad 11 0)), some (.int x1), some (.int x2), some (.int v8), none] [] μ))) ∧ (¬ x2 = 0 → (((μ.1 51 0 (ix x3)) = (4 : Int32) → (∀ v10 : Int32, v10 = x3 + (1 : Int32) → (AW X 8 [some (.ref (X.G.ad 11 0)), some (.int x1), some (.int x2), some (.int v10), none] [] μ))) ∧ (¬ (μ.1 51 0 (ix x3)) = (4 : Int32) → ((vp_in ((16 : Int32) + x3) 64) ∧ (∀ μ12 : zM, μ12 = pI μ 70 0 (ix ((16 : Int32) + x3)) (1 : Int32) → (∀ v13 : Int32, v13 = x3 + (1 : Int32) → (AW X 8 [some (.ref (X.G.ad 11 0)), some (.int x1), some (.int x2), some (.int v13), none] [] μ12)))))))))))) :
    AW X 74 [some (.ref (X.G.ad 11 0)), some (.int x1), some (.int x2), some (.int x3), none] [] μ := by
  refine aw_aload_n hX dX11_fallsDue_74 rfl ?_
  refine aw_getr (o' := 0) hX kf_X11_117 sh_11 (by decide) rfl rfl dX11_fallsDue_75 ?_
  refine aw_bipush hX dX11_fallsDue_78 zb_26 ?_
  refine aw_iload_n hX dX11_fallsDue_80 rfl ?_
  refine aw_iadd hX dX11_fallsDue_81 ?_
  have s1 := k.1
  have k := k.2
  refine aw_iald' (k := (ix ((26 : Int32) + x3))) hX sh_70 (by decide) s1 rfl dX11_fallsDue_82 ?_
  refine aw_aload_n hX dX11_fallsDue_83 rfl ?_
  refine aw_getr (o' := 0) hX kf_X11_53 sh_11 (by decide) rfl rfl dX11_fallsDue_84 ?_
  refine aw_iload_n hX dX11_fallsDue_87 rfl ?_
  have s2 := k.1
  have k := k.2
  refine aw_iald' (k := (ix x3)) hX sh_49 (by decide) s2 rfl dX11_fallsDue_88 ?_
  refine aw_icmp_ge (tgt := 106) hX dX11_fallsDue_89 (by decide) (fun c3 => ?_) (fun c3 => ?_)
  · have k := k.1 c3
    refine aw_aload_n hX dX11_fallsDue_106 rfl ?_
    refine aw_getr (o' := 0) hX kf_X11_117 sh_11 (by decide) rfl rfl dX11_fallsDue_107 ?_
    refine aw_bipush hX dX11_fallsDue_110 zb_16 ?_
    refine aw_iload_n hX dX11_fallsDue_112 rfl ?_
    refine aw_iadd hX dX11_fallsDue_113 ?_
    refine aw_iconst hX dX11_fallsDue_114 zk_1 ?_
    have s4 := k.1
    have k := k.2
    refine aw_iast' (k := (ix ((16 : Int32) + x3))) hX sh_70 (by decide) s4 rfl dX11_fallsDue_115 ?_
    refine aw_mem (fun μ5 eμ5 => ?_)
    have k := k μ5 eμ5
    obtain ⟨v6, ev6⟩ : ∃ y : Int32, y = x3 + (1 : Int32) := ⟨_, rfl⟩
    have k := k v6 ev6
    refine aw_iinc (v := v6) (L' := [some (.ref (X.G.ad 11 0)), some (.int x1), some (.int x2), some (.int v6), none]) hX dX11_fallsDue_116 rfl (by rw [ev6]; rfl) (Nat.le_of_ble_eq_true rfl) rfl ?_
    refine aw_goto (tgt := 8) hX dX11_fallsDue_119 (by decide) ?_
    exact k
  · have k := k.2 c3
    refine aw_iload_n hX dX11_fallsDue_92 rfl ?_
    refine aw_if_eq (tgt := 116) hX dX11_fallsDue_93 (by decide) (fun c7 => ?_) (fun c7 => ?_)
    · have k := k.1 c7
      obtain ⟨v8, ev8⟩ : ∃ y : Int32, y = x3 + (1 : Int32) := ⟨_, rfl⟩
      have k := k v8 ev8
      refine aw_iinc (v := v8) (L' := [some (.ref (X.G.ad 11 0)), some (.int x1), some (.int x2), some (.int v8), none]) hX dX11_fallsDue_116 rfl (by rw [ev8]; rfl) (Nat.le_of_ble_eq_true rfl) rfl ?_
      refine aw_goto (tgt := 8) hX dX11_fallsDue_119 (by decide) ?_
      exact k
    · have k := k.2 c7
      refine aw_aload_n hX dX11_fallsDue_96 rfl ?_
      refine aw_getr (o' := 0) hX kf_X11_59 sh_11 (by decide) rfl rfl dX11_fallsDue_97 ?_
      refine aw_iload_n hX dX11_fallsDue_100 rfl ?_
      refine aw_iald' (k := (ix x3)) hX sh_51 (by decide) s2 rfl dX11_fallsDue_101 ?_
      refine aw_iconst hX dX11_fallsDue_102 zk_4 ?_
      refine aw_icmp_eq (tgt := 116) hX dX11_fallsDue_103 (by decide) (fun c9 => ?_) (fun c9 => ?_)
      · have k := k.1 c9
        obtain ⟨v10, ev10⟩ : ∃ y : Int32, y = x3 + (1 : Int32) := ⟨_, rfl⟩
        have k := k v10 ev10
        refine aw_iinc (v := v10) (L' := [some (.ref (X.G.ad 11 0)), some (.int x1), some (.int x2), some (.int v10), none]) hX dX11_fallsDue_116 rfl (by rw [ev10]; rfl) (Nat.le_of_ble_eq_true rfl) rfl ?_
        refine aw_goto (tgt := 8) hX dX11_fallsDue_119 (by decide) ?_
        exact k
      · have k := k.2 c9
        refine aw_aload_n hX dX11_fallsDue_106 rfl ?_
        refine aw_getr (o' := 0) hX kf_X11_117 sh_11 (by decide) rfl rfl dX11_fallsDue_107 ?_
        refine aw_bipush hX dX11_fallsDue_110 zb_16 ?_
        refine aw_iload_n hX dX11_fallsDue_112 rfl ?_
        refine aw_iadd hX dX11_fallsDue_113 ?_
        refine aw_iconst hX dX11_fallsDue_114 zk_1 ?_
        have s11 := k.1
        have k := k.2
        refine aw_iast' (k := (ix ((16 : Int32) + x3))) hX sh_70 (by decide) s11 rfl dX11_fallsDue_115 ?_
        refine aw_mem (fun μ12 eμ12 => ?_)
        have k := k μ12 eμ12
        obtain ⟨v13, ev13⟩ : ∃ y : Int32, y = x3 + (1 : Int32) := ⟨_, rfl⟩
        have k := k v13 ev13
        refine aw_iinc (v := v13) (L' := [some (.ref (X.G.ad 11 0)), some (.int x1), some (.int x2), some (.int v13), none]) hX dX11_fallsDue_116 rfl (by rw [ev13]; rfl) (Nat.le_of_ble_eq_true rfl) rfl ?_
        refine aw_goto (tgt := 8) hX dX11_fallsDue_119 (by decide) ?_
        exact k

set_option maxRecDepth 100000 in
set_option maxHeartbeats 4000000 in
theorem st_X11_fallsDue_162 {X : zX} {lv : Nat} {Post : Option Value → zM → Prop} (hX : zOk X cX11_fallsDue RX11 5 lv) (hr : zRt X none Post)  {x3 : Int32} {x4 : Int32} {μ : zM}
    (k : ((μ.1 38 0 0) ≤ x4 → (∀ v2 : Int32, v2 = x3 + (1 : Int32) → (AW X 124 [some (.ref (X.G.ad 11 0)), none, none, some (.int v2), none] [] μ))) ∧ (¬ (μ.1 38 0 0) ≤ x4 → ((vp_in ((16 : Int32) + x4) 64) ∧ ((¬ (μ.1 70 0 (ix ((16 : Int32) + x4))) = (1 : Int32) → (∀ v5 : Int32, v5 = x4 + (1 : Int32) → (AW X 162 [some (.ref (X.G.ad 11 0)), none, none, some (.int x3), some (.int v5)] [] μ))) ∧ ((μ.1 70 0 (ix ((16 : Int32) + x4))) = (1 : Int32) → ((vp_in x4 60) ∧ ((vp_in x3 60) ∧ ((¬ (μ.1 46 0 (ix x4)) = (μ.1 46 0 (ix x3)) → (∀ v9 : Int32, v9 = x4 + (1 : Int32) → (AW X 162 [some (.ref (X.G.ad 11 0)), none, none, some (.int x3), some (.int v9)] [] μ))) ∧ ((μ.1 46 0 (ix x4)) = (μ.1 46 0 (ix x3)) → ((vp_in ((16 : Int32) + x3) 64) ∧ (∀ μ11 : zM, μ11 = pI μ 70 0 (ix ((16 : Int32) + x3)) (1 : Int32) → (∀ v12 : Int32, v12 = x4 + (1 : Int32) → (AW X 162 [some (.ref (X.G.ad 11 0)), none, none, some (.int x3), some (.int v12)] [] μ11))))))))))))) :
    AW X 162 [some (.ref (X.G.ad 11 0)), none, none, some (.int x3), some (.int x4)] [] μ := by
  refine aw_iload hX dX11_fallsDue_162 rfl ?_
  refine aw_aload_n hX dX11_fallsDue_164 rfl ?_
  refine aw_getr (o' := 0) hX kf_X11_19 sh_11 (by decide) rfl rfl dX11_fallsDue_165 ?_
  refine aw_iconst hX dX11_fallsDue_168 zk_0 ?_
  refine aw_iald' (k := 0) hX sh_38 (by decide) (zdi (by decide)) (by decide) dX11_fallsDue_169 ?_
  refine aw_icmp_ge (tgt := 219) hX dX11_fallsDue_170 (by decide) (fun c1 => ?_) (fun c1 => ?_)
  · have k := k.1 c1
    obtain ⟨v2, ev2⟩ : ∃ y : Int32, y = x3 + (1 : Int32) := ⟨_, rfl⟩
    have k := k v2 ev2
    refine aw_iinc (v := v2) (L' := [some (.ref (X.G.ad 11 0)), none, none, some (.int v2), some (.int x4)]) hX dX11_fallsDue_219 rfl (by rw [ev2]; rfl) (Nat.le_of_ble_eq_true rfl) rfl ?_
    refine aw_goto (tgt := 124) hX dX11_fallsDue_222 (by decide) ?_
    exact aw_less (zle_s (zle_o (zle_o (zle_s (zle_o zle_n))))) k
  · have k := k.2 c1
    refine aw_aload_n hX dX11_fallsDue_173 rfl ?_
    refine aw_getr (o' := 0) hX kf_X11_117 sh_11 (by decide) rfl rfl dX11_fallsDue_174 ?_
    refine aw_bipush hX dX11_fallsDue_177 zb_16 ?_
    refine aw_iload hX dX11_fallsDue_179 rfl ?_
    refine aw_iadd hX dX11_fallsDue_181 ?_
    have s3 := k.1
    have k := k.2
    refine aw_iald' (k := (ix ((16 : Int32) + x4))) hX sh_70 (by decide) s3 rfl dX11_fallsDue_182 ?_
    refine aw_iconst hX dX11_fallsDue_183 zk_1 ?_
    refine aw_icmp_ne (tgt := 213) hX dX11_fallsDue_184 (by decide) (fun c4 => ?_) (fun c4 => ?_)
    · have k := k.1 c4
      obtain ⟨v5, ev5⟩ : ∃ y : Int32, y = x4 + (1 : Int32) := ⟨_, rfl⟩
      have k := k v5 ev5
      refine aw_iinc (v := v5) (L' := [some (.ref (X.G.ad 11 0)), none, none, some (.int x3), some (.int v5)]) hX dX11_fallsDue_213 rfl (by rw [ev5]; rfl) (Nat.le_of_ble_eq_true rfl) rfl ?_
      refine aw_goto (tgt := 162) hX dX11_fallsDue_216 (by decide) ?_
      exact k
    · have k := k.2 c4
      refine aw_aload_n hX dX11_fallsDue_187 rfl ?_
      refine aw_getr (o' := 0) hX kf_X11_44 sh_11 (by decide) rfl rfl dX11_fallsDue_188 ?_
      refine aw_iload hX dX11_fallsDue_191 rfl ?_
      have s6 := k.1
      have k := k.2
      refine aw_iald' (k := (ix x4)) hX sh_46 (by decide) s6 rfl dX11_fallsDue_193 ?_
      refine aw_aload_n hX dX11_fallsDue_194 rfl ?_
      refine aw_getr (o' := 0) hX kf_X11_44 sh_11 (by decide) rfl rfl dX11_fallsDue_195 ?_
      refine aw_iload_n hX dX11_fallsDue_198 rfl ?_
      have s7 := k.1
      have k := k.2
      refine aw_iald' (k := (ix x3)) hX sh_46 (by decide) s7 rfl dX11_fallsDue_199 ?_
      refine aw_icmp_ne (tgt := 213) hX dX11_fallsDue_200 (by decide) (fun c8 => ?_) (fun c8 => ?_)
      · have k := k.1 c8
        obtain ⟨v9, ev9⟩ : ∃ y : Int32, y = x4 + (1 : Int32) := ⟨_, rfl⟩
        have k := k v9 ev9
        refine aw_iinc (v := v9) (L' := [some (.ref (X.G.ad 11 0)), none, none, some (.int x3), some (.int v9)]) hX dX11_fallsDue_213 rfl (by rw [ev9]; rfl) (Nat.le_of_ble_eq_true rfl) rfl ?_
        refine aw_goto (tgt := 162) hX dX11_fallsDue_216 (by decide) ?_
        exact k
      · have k := k.2 c8
        refine aw_aload_n hX dX11_fallsDue_203 rfl ?_
        refine aw_getr (o' := 0) hX kf_X11_117 sh_11 (by decide) rfl rfl dX11_fallsDue_204 ?_
        refine aw_bipush hX dX11_fallsDue_207 zb_16 ?_
        refine aw_iload_n hX dX11_fallsDue_209 rfl ?_
        refine aw_iadd hX dX11_fallsDue_210 ?_
        refine aw_iconst hX dX11_fallsDue_211 zk_1 ?_
        have s10 := k.1
        have k := k.2
        refine aw_iast' (k := (ix ((16 : Int32) + x3))) hX sh_70 (by decide) s10 rfl dX11_fallsDue_212 ?_
        refine aw_mem (fun μ11 eμ11 => ?_)
        have k := k μ11 eμ11
        obtain ⟨v12, ev12⟩ : ∃ y : Int32, y = x4 + (1 : Int32) := ⟨_, rfl⟩
        have k := k v12 ev12
        refine aw_iinc (v := v12) (L' := [some (.ref (X.G.ad 11 0)), none, none, some (.int x3), some (.int v12)]) hX dX11_fallsDue_213 rfl (by rw [ev12]; rfl) (Nat.le_of_ble_eq_true rfl) rfl ?_
        refine aw_goto (tgt := 162) hX dX11_fallsDue_216 (by decide) ?_
        exact k

set_option maxRecDepth 100000 in
set_option maxHeartbeats 4000000 in
theorem st_X11_goes_0 {X : zX} {lv : Nat} {Post : Option Value → zM → Prop} (hX : zOk X cX11_goes RX11 4 lv) (hr : zRt X none Post)  {x1 : Int32} {μ : zM}
    (k : zCallV X lv yX11_fallsDue cX11_fallsDue 5 none [.ref (X.G.ad 11 0), .int x1] μ (fun μ2 => zCallI X lv yX11_isFlood cX11_isFlood 2 (some .boolean) [.ref (X.G.ad 11 0), .int x1] μ2 (fun (r3 : Int32) μ4 => AW X 13 [some (.ref (X.G.ad 11 0)), some (.int x1), some (.int r3), some (.int (0 : Int32))] [] μ4))) :
    AW X 0 [some (.ref (X.G.ad 11 0)), some (.int x1), none, none] [] μ := by
  refine aw_aload_n hX dX11_goes_0 rfl ?_
  refine aw_iload_n hX dX11_goes_1 rfl ?_
  refine aw_invV (As := [.int x1]) (rest := []) (κ := 11) (o := 0) (T := TX11) (N := 55) hX vc_X11_346 sh_11 (by decide) rfl rfl rfl (Nat.le_of_ble_eq_true rfl) dX11_goes_2 k (fun μ2 k => ?_)
  refine aw_aload_n hX dX11_goes_5 rfl ?_
  refine aw_iload_n hX dX11_goes_6 rfl ?_
  refine aw_invI (As := [.int x1]) (rest := []) (κ := 11) (o := 0) (T := TX11) (N := 55) hX vc_X11_340 sh_11 (by decide) rfl rfl rfl (Nat.le_of_ble_eq_true rfl) dX11_goes_7 k (fun r3 μ4 k => ?_)
  refine aw_istore_n (L' := [some (.ref (X.G.ad 11 0)), some (.int x1), some (.int r3), none]) hX dX11_goes_10 (Nat.le_of_ble_eq_true rfl) rfl ?_
  refine aw_iconst hX dX11_goes_11 zk_0 ?_
  refine aw_istore_n (L' := [some (.ref (X.G.ad 11 0)), some (.int x1), some (.int r3), some (.int (0 : Int32))]) hX dX11_goes_12 (Nat.le_of_ble_eq_true rfl) rfl ?_
  exact k

set_option maxRecDepth 100000 in
set_option maxHeartbeats 4000000 in
theorem st_X11_goes_13 {X : zX} {lv : Nat} {Post : Option Value → zM → Prop} (hX : zOk X cX11_goes RX11 4 lv) (hr : zRt X none Post)  {x1 : Int32} {x2 : Int32} {x3 : Int32} {μ : zM}
    (k : ((μ.1 38 0 0) ≤ x3 → (∀ μ2 : zM, μ2 = pI μ 11 0 51 (1 : Int32) → (AW X 84 [some (.ref (X.G.ad 11 0)), some (.int x1), some (.int x2), none] [] μ2))) ∧ (¬ (μ.1 38 0 0) ≤ x3 → ((vp_in ((16 : Int32) + x3) 64) ∧ ((¬ (μ.1 70 0 (ix ((16 : Int32) + x3))) = (1 : Int32) → ((vp_in ((46 : Int32) + x3) 64) ∧ (∀ μ6 : zM, μ6 = pI μ 70 0 (ix ((46 : Int32) + x3)) (0 : Int32) → (∀ v7 : Int32, v7 = x3 + (1 : Int32) → (AW X 13 [some (.ref (X.G.ad 11 0)), some (.int x1), some (.int x2), some (.int v7)] [] μ6))))) ∧ ((μ.1 70 0 (ix ((16 : Int32) + x3))) = (1 : Int32) → (zCallI X lv yX11_isRipe cX11_isRipe 6 (some .boolean) [.ref (X.G.ad 11 0), .int x3, .int x1] μ (fun (r8 : Int32) μ9 => (¬ r8 = 0 → ((vp_in ((46 : Int32) + x3) 64) ∧ (∀ μ12 : zM, μ12 = pI μ9 70 0 (ix ((46 : Int32) + x3)) (1 : Int32) → (∀ v13 : Int32, v13 = x3 + (1 : Int32) → (AW X 13 [some (.ref (X.G.ad 11 0)), some (.int x1), some (.int x2), some (.int v13)] [] μ12))))) ∧ (r8 = 0 → ((x2 = 0 → ((vp_in ((46 : Int32) + x3) 64) ∧ (∀ μ16 : zM, μ16 = pI μ9 70 0 (ix ((46 : Int32) + x3)) (0 : Int32) → (∀ v17 : Int32, v17 = x3 + (1 : Int32) → (AW X 13 [some (.ref (X.G.ad 11 0)), some (.int x1), some (.int x2), some (.int v17)] [] μ16))))) ∧ (¬ x2 = 0 → ((vp_in x3 60) ∧ (((μ9.1 51 0 (ix x3)) = (4 : Int32) → ((vp_in ((46 : Int32) + x3) 64) ∧ (∀ μ21 : zM, μ21 = pI μ9 70 0 (ix ((46 : Int32) + x3)) (0 : Int32) → (∀ v22 : Int32, v22 = x3 + (1 : Int32) → (AW X 13 [some (.ref (X.G.ad 11 0)), some (.int x1), some (.int x2), some (.int v22)] [] μ21))))) ∧ (¬ (μ9.1 51 0 (ix x3)) = (4 : Int32) → ((vp_in ((46 : Int32) + x3) 64) ∧ (∀ μ24 : zM, μ24 = pI μ9 70 0 (ix ((46 : Int32) + x3)) (1 : Int32) → (∀ v25 : Int32, v25 = x3 + (1 : Int32) → (AW X 13 [some (.ref (X.G.ad 11 0)), some (.int x1), some (.int x2), some (.int v25)] [] μ24))))))))))))))))) :
    AW X 13 [some (.ref (X.G.ad 11 0)), some (.int x1), some (.int x2), some (.int x3)] [] μ := by
  refine aw_iload_n hX dX11_goes_13 rfl ?_
  refine aw_aload_n hX dX11_goes_14 rfl ?_
  refine aw_getr (o' := 0) hX kf_X11_19 sh_11 (by decide) rfl rfl dX11_goes_15 ?_
  refine aw_iconst hX dX11_goes_18 zk_0 ?_
  refine aw_iald' (k := 0) hX sh_38 (by decide) (zdi (by decide)) (by decide) dX11_goes_19 ?_
  refine aw_icmp_ge (tgt := 79) hX dX11_goes_20 (by decide) (fun c1 => ?_) (fun c1 => ?_)
  · have k := k.1 c1
    refine aw_aload_n hX dX11_goes_79 rfl ?_
    refine aw_iconst hX dX11_goes_80 zk_1 ?_
    refine aw_puti hX kp_X11_337 sh_11 (by decide) rfl rfl rfl dX11_goes_81 ?_
    refine aw_mem (fun μ2 eμ2 => ?_)
    have k := k μ2 eμ2
    exact aw_less (zle_s (zle_s (zle_s (zle_o zle_n)))) k
  · have k := k.2 c1
    refine aw_aload_n hX dX11_goes_23 rfl ?_
    refine aw_getr (o' := 0) hX kf_X11_117 sh_11 (by decide) rfl rfl dX11_goes_24 ?_
    refine aw_bipush hX dX11_goes_27 zb_46 ?_
    refine aw_iload_n hX dX11_goes_29 rfl ?_
    refine aw_iadd hX dX11_goes_30 ?_
    refine aw_aload_n hX dX11_goes_31 rfl ?_
    refine aw_getr (o' := 0) hX kf_X11_117 sh_11 (by decide) rfl rfl dX11_goes_32 ?_
    refine aw_bipush hX dX11_goes_35 zb_16 ?_
    refine aw_iload_n hX dX11_goes_37 rfl ?_
    refine aw_iadd hX dX11_goes_38 ?_
    have s3 := k.1
    have k := k.2
    refine aw_iald' (k := (ix ((16 : Int32) + x3))) hX sh_70 (by decide) s3 rfl dX11_goes_39 ?_
    refine aw_iconst hX dX11_goes_40 zk_1 ?_
    refine aw_icmp_ne (tgt := 71) hX dX11_goes_41 (by decide) (fun c4 => ?_) (fun c4 => ?_)
    · have k := k.1 c4
      refine aw_iconst hX dX11_goes_71 zk_0 ?_
      have s5 := k.1
      have k := k.2
      refine aw_iast' (k := (ix ((46 : Int32) + x3))) hX sh_70 (by decide) s5 rfl dX11_goes_72 ?_
      refine aw_mem (fun μ6 eμ6 => ?_)
      have k := k μ6 eμ6
      obtain ⟨v7, ev7⟩ : ∃ y : Int32, y = x3 + (1 : Int32) := ⟨_, rfl⟩
      have k := k v7 ev7
      refine aw_iinc (v := v7) (L' := [some (.ref (X.G.ad 11 0)), some (.int x1), some (.int x2), some (.int v7)]) hX dX11_goes_73 rfl (by rw [ev7]; rfl) (Nat.le_of_ble_eq_true rfl) rfl ?_
      refine aw_goto (tgt := 13) hX dX11_goes_76 (by decide) ?_
      exact k
    · have k := k.2 c4
      refine aw_aload_n hX dX11_goes_44 rfl ?_
      refine aw_iload_n hX dX11_goes_45 rfl ?_
      refine aw_iload_n hX dX11_goes_46 rfl ?_
      refine aw_invI (As := [.int x3, .int x1]) (rest := [.int ((46 : Int32) + x3), .ref (X.G.ad 70 0)]) (κ := 11) (o := 0) (T := TX11) (N := 55) hX vc_X11_343 sh_11 (by decide) rfl rfl rfl (Nat.le_of_ble_eq_true rfl) dX11_goes_47 k (fun r8 μ9 k => ?_)
      refine aw_if_ne (tgt := 67) hX dX11_goes_50 (by decide) (fun c10 => ?_) (fun c10 => ?_)
      · have k := k.1 c10
        refine aw_iconst hX dX11_goes_67 zk_1 ?_
        refine aw_goto (tgt := 72) hX dX11_goes_68 (by decide) ?_
        have s11 := k.1
        have k := k.2
        refine aw_iast' (k := (ix ((46 : Int32) + x3))) hX sh_70 (by decide) s11 rfl dX11_goes_72 ?_
        refine aw_mem (fun μ12 eμ12 => ?_)
        have k := k μ12 eμ12
        obtain ⟨v13, ev13⟩ : ∃ y : Int32, y = x3 + (1 : Int32) := ⟨_, rfl⟩
        have k := k v13 ev13
        refine aw_iinc (v := v13) (L' := [some (.ref (X.G.ad 11 0)), some (.int x1), some (.int x2), some (.int v13)]) hX dX11_goes_73 rfl (by rw [ev13]; rfl) (Nat.le_of_ble_eq_true rfl) rfl ?_
        refine aw_goto (tgt := 13) hX dX11_goes_76 (by decide) ?_
        exact k
      · have k := k.2 c10
        refine aw_iload_n hX dX11_goes_53 rfl ?_
        refine aw_if_eq (tgt := 71) hX dX11_goes_54 (by decide) (fun c14 => ?_) (fun c14 => ?_)
        · have k := k.1 c14
          refine aw_iconst hX dX11_goes_71 zk_0 ?_
          have s15 := k.1
          have k := k.2
          refine aw_iast' (k := (ix ((46 : Int32) + x3))) hX sh_70 (by decide) s15 rfl dX11_goes_72 ?_
          refine aw_mem (fun μ16 eμ16 => ?_)
          have k := k μ16 eμ16
          obtain ⟨v17, ev17⟩ : ∃ y : Int32, y = x3 + (1 : Int32) := ⟨_, rfl⟩
          have k := k v17 ev17
          refine aw_iinc (v := v17) (L' := [some (.ref (X.G.ad 11 0)), some (.int x1), some (.int x2), some (.int v17)]) hX dX11_goes_73 rfl (by rw [ev17]; rfl) (Nat.le_of_ble_eq_true rfl) rfl ?_
          refine aw_goto (tgt := 13) hX dX11_goes_76 (by decide) ?_
          exact k
        · have k := k.2 c14
          refine aw_aload_n hX dX11_goes_57 rfl ?_
          refine aw_getr (o' := 0) hX kf_X11_59 sh_11 (by decide) rfl rfl dX11_goes_58 ?_
          refine aw_iload_n hX dX11_goes_61 rfl ?_
          have s18 := k.1
          have k := k.2
          refine aw_iald' (k := (ix x3)) hX sh_51 (by decide) s18 rfl dX11_goes_62 ?_
          refine aw_iconst hX dX11_goes_63 zk_4 ?_
          refine aw_icmp_eq (tgt := 71) hX dX11_goes_64 (by decide) (fun c19 => ?_) (fun c19 => ?_)
          · have k := k.1 c19
            refine aw_iconst hX dX11_goes_71 zk_0 ?_
            have s20 := k.1
            have k := k.2
            refine aw_iast' (k := (ix ((46 : Int32) + x3))) hX sh_70 (by decide) s20 rfl dX11_goes_72 ?_
            refine aw_mem (fun μ21 eμ21 => ?_)
            have k := k μ21 eμ21
            obtain ⟨v22, ev22⟩ : ∃ y : Int32, y = x3 + (1 : Int32) := ⟨_, rfl⟩
            have k := k v22 ev22
            refine aw_iinc (v := v22) (L' := [some (.ref (X.G.ad 11 0)), some (.int x1), some (.int x2), some (.int v22)]) hX dX11_goes_73 rfl (by rw [ev22]; rfl) (Nat.le_of_ble_eq_true rfl) rfl ?_
            refine aw_goto (tgt := 13) hX dX11_goes_76 (by decide) ?_
            exact k
          · have k := k.2 c19
            refine aw_iconst hX dX11_goes_67 zk_1 ?_
            refine aw_goto (tgt := 72) hX dX11_goes_68 (by decide) ?_
            have s23 := k.1
            have k := k.2
            refine aw_iast' (k := (ix ((46 : Int32) + x3))) hX sh_70 (by decide) s23 rfl dX11_goes_72 ?_
            refine aw_mem (fun μ24 eμ24 => ?_)
            have k := k μ24 eμ24
            obtain ⟨v25, ev25⟩ : ∃ y : Int32, y = x3 + (1 : Int32) := ⟨_, rfl⟩
            have k := k v25 ev25
            refine aw_iinc (v := v25) (L' := [some (.ref (X.G.ad 11 0)), some (.int x1), some (.int x2), some (.int v25)]) hX dX11_goes_73 rfl (by rw [ev25]; rfl) (Nat.le_of_ble_eq_true rfl) rfl ?_
            refine aw_goto (tgt := 13) hX dX11_goes_76 (by decide) ?_
            exact k

set_option maxRecDepth 100000 in
set_option maxHeartbeats 4000000 in
theorem st_X11_goes_84 {X : zX} {lv : Nat} {Post : Option Value → zM → Prop} (hX : zOk X cX11_goes RX11 4 lv) (hr : zRt X none Post)  {x1 : Int32} {x2 : Int32} {μ : zM}
    (k : ((μ.1 11 0 51) ≤ 0 → (AW X 169 [some (.ref (X.G.ad 11 0)), some (.int x1), some (.int x2), some (.int (0 : Int32))] [] μ)) ∧ (¬ (μ.1 11 0 51) ≤ 0 → (∀ μ2 : zM, μ2 = pI μ 11 0 51 (0 : Int32) → (AW X 98 [some (.ref (X.G.ad 11 0)), some (.int x1), some (.int x2), some (.int (0 : Int32))] [] μ2)))) :
    AW X 84 [some (.ref (X.G.ad 11 0)), some (.int x1), some (.int x2), none] [] μ := by
  refine aw_aload_n hX dX11_goes_84 rfl ?_
  refine aw_geti hX kf_X11_337 sh_11 (by decide) rfl dX11_goes_85 ?_
  refine aw_if_le (tgt := 167) hX dX11_goes_88 (by decide) (fun c1 => ?_) (fun c1 => ?_)
  · have k := k.1 c1
    refine aw_iconst hX dX11_goes_167 zk_0 ?_
    refine aw_istore_n (L' := [some (.ref (X.G.ad 11 0)), some (.int x1), some (.int x2), some (.int (0 : Int32))]) hX dX11_goes_168 (Nat.le_of_ble_eq_true rfl) rfl ?_
    exact k
  · have k := k.2 c1
    refine aw_aload_n hX dX11_goes_91 rfl ?_
    refine aw_iconst hX dX11_goes_92 zk_0 ?_
    refine aw_puti hX kp_X11_337 sh_11 (by decide) rfl rfl rfl dX11_goes_93 ?_
    refine aw_mem (fun μ2 eμ2 => ?_)
    have k := k μ2 eμ2
    refine aw_iconst hX dX11_goes_96 zk_0 ?_
    refine aw_istore_n (L' := [some (.ref (X.G.ad 11 0)), some (.int x1), some (.int x2), some (.int (0 : Int32))]) hX dX11_goes_97 (Nat.le_of_ble_eq_true rfl) rfl ?_
    exact k

set_option maxRecDepth 100000 in
set_option maxHeartbeats 4000000 in
theorem st_X11_goes_169 {X : zX} {lv : Nat} {Post : Option Value → zM → Prop} (hX : zOk X cX11_goes RX11 4 lv) (hr : zRt X none Post)  {x1 : Int32} {x2 : Int32} {x3 : Int32} {μ : zM}
    (k : ((μ.1 38 0 0) ≤ x3 → (∀ μ2 : zM, μ2 = pI μ 70 0 56 x1 → (∀ μ3 : zM, μ3 = pI μ2 70 0 57 ((μ2.1 70 0 57) + (1 : Int32)) → ((x2 = 0 → (∀ μ5 : zM, μ5 = pI μ3 70 0 58 ((μ3.1 70 0 58) + (0 : Int32)) → (Post none μ5))) ∧ (¬ x2 = 0 → (∀ μ6 : zM, μ6 = pI μ3 70 0 58 ((μ3.1 70 0 58) + (1 : Int32)) → (Post none μ6))))))) ∧ (¬ (μ.1 38 0 0) ≤ x3 → ((vp_in ((6 : Int32) + x3) 64) ∧ ((¬ (μ.1 70 0 (ix ((6 : Int32) + x3))) = 0 → (∀ v9 : Int32, v9 = x3 + (1 : Int32) → (AW X 169 [some (.ref (X.G.ad 11 0)), some (.int x1), some (.int x2), some (.int v9)] [] μ))) ∧ ((μ.1 70 0 (ix ((6 : Int32) + x3))) = 0 → ((vp_in ((16 : Int32) + x3) 64) ∧ (∀ μ11 : zM, μ11 = pI μ 70 0 (ix ((16 : Int32) + x3)) (2 : Int32) → (∀ v12 : Int32, v12 = x3 + (1 : Int32) → (AW X 169 [some (.ref (X.G.ad 11 0)), some (.int x1), some (.int x2), some (.int v12)] [] μ11))))))))) :
    AW X 169 [some (.ref (X.G.ad 11 0)), some (.int x1), some (.int x2), some (.int x3)] [] μ := by
  refine aw_iload_n hX dX11_goes_169 rfl ?_
  refine aw_aload_n hX dX11_goes_170 rfl ?_
  refine aw_getr (o' := 0) hX kf_X11_19 sh_11 (by decide) rfl rfl dX11_goes_171 ?_
  refine aw_iconst hX dX11_goes_174 zk_0 ?_
  refine aw_iald' (k := 0) hX sh_38 (by decide) (zdi (by decide)) (by decide) dX11_goes_175 ?_
  refine aw_icmp_ge (tgt := 207) hX dX11_goes_176 (by decide) (fun c1 => ?_) (fun c1 => ?_)
  · have k := k.1 c1
    refine aw_aload_n hX dX11_goes_207 rfl ?_
    refine aw_getr (o' := 0) hX kf_X11_117 sh_11 (by decide) rfl rfl dX11_goes_208 ?_
    refine aw_bipush hX dX11_goes_211 zb_56 ?_
    refine aw_iload_n hX dX11_goes_213 rfl ?_
    refine aw_iast' (k := 56) hX sh_70 (by decide) (zdi (by decide)) (by decide) dX11_goes_214 ?_
    refine aw_mem (fun μ2 eμ2 => ?_)
    have k := k μ2 eμ2
    refine aw_aload_n hX dX11_goes_215 rfl ?_
    refine aw_getr (o' := 0) hX kf_X11_117 sh_11 (by decide) rfl rfl dX11_goes_216 ?_
    refine aw_bipush hX dX11_goes_219 zb_57 ?_
    refine aw_dup2 hX dX11_goes_221 rfl rfl ?_
    refine aw_iald' (k := 57) hX sh_70 (by decide) (zdi (by decide)) (by decide) dX11_goes_222 ?_
    refine aw_iconst hX dX11_goes_223 zk_1 ?_
    refine aw_iadd hX dX11_goes_224 ?_
    refine aw_iast' (k := 57) hX sh_70 (by decide) (zdi (by decide)) (by decide) dX11_goes_225 ?_
    refine aw_mem (fun μ3 eμ3 => ?_)
    have k := k μ3 eμ3
    refine aw_aload_n hX dX11_goes_226 rfl ?_
    refine aw_getr (o' := 0) hX kf_X11_117 sh_11 (by decide) rfl rfl dX11_goes_227 ?_
    refine aw_bipush hX dX11_goes_230 zb_58 ?_
    refine aw_dup2 hX dX11_goes_232 rfl rfl ?_
    refine aw_iald' (k := 58) hX sh_70 (by decide) (zdi (by decide)) (by decide) dX11_goes_233 ?_
    refine aw_iload_n hX dX11_goes_234 rfl ?_
    refine aw_if_eq (tgt := 242) hX dX11_goes_235 (by decide) (fun c4 => ?_) (fun c4 => ?_)
    · have k := k.1 c4
      refine aw_iconst hX dX11_goes_242 zk_0 ?_
      refine aw_iadd hX dX11_goes_243 ?_
      refine aw_iast' (k := 58) hX sh_70 (by decide) (zdi (by decide)) (by decide) dX11_goes_244 ?_
      refine aw_mem (fun μ5 eμ5 => ?_)
      have k := k μ5 eμ5
      exact aw_vret hX hr dX11_goes_245 k
    · have k := k.2 c4
      refine aw_iconst hX dX11_goes_238 zk_1 ?_
      refine aw_goto (tgt := 243) hX dX11_goes_239 (by decide) ?_
      refine aw_iadd hX dX11_goes_243 ?_
      refine aw_iast' (k := 58) hX sh_70 (by decide) (zdi (by decide)) (by decide) dX11_goes_244 ?_
      refine aw_mem (fun μ6 eμ6 => ?_)
      have k := k μ6 eμ6
      exact aw_vret hX hr dX11_goes_245 k
  · have k := k.2 c1
    refine aw_aload_n hX dX11_goes_179 rfl ?_
    refine aw_getr (o' := 0) hX kf_X11_117 sh_11 (by decide) rfl rfl dX11_goes_180 ?_
    refine aw_bipush hX dX11_goes_183 zb_6 ?_
    refine aw_iload_n hX dX11_goes_185 rfl ?_
    refine aw_iadd hX dX11_goes_186 ?_
    have s7 := k.1
    have k := k.2
    refine aw_iald' (k := (ix ((6 : Int32) + x3))) hX sh_70 (by decide) s7 rfl dX11_goes_187 ?_
    refine aw_if_ne (tgt := 201) hX dX11_goes_188 (by decide) (fun c8 => ?_) (fun c8 => ?_)
    · have k := k.1 c8
      obtain ⟨v9, ev9⟩ : ∃ y : Int32, y = x3 + (1 : Int32) := ⟨_, rfl⟩
      have k := k v9 ev9
      refine aw_iinc (v := v9) (L' := [some (.ref (X.G.ad 11 0)), some (.int x1), some (.int x2), some (.int v9)]) hX dX11_goes_201 rfl (by rw [ev9]; rfl) (Nat.le_of_ble_eq_true rfl) rfl ?_
      refine aw_goto (tgt := 169) hX dX11_goes_204 (by decide) ?_
      exact k
    · have k := k.2 c8
      refine aw_aload_n hX dX11_goes_191 rfl ?_
      refine aw_getr (o' := 0) hX kf_X11_117 sh_11 (by decide) rfl rfl dX11_goes_192 ?_
      refine aw_bipush hX dX11_goes_195 zb_16 ?_
      refine aw_iload_n hX dX11_goes_197 rfl ?_
      refine aw_iadd hX dX11_goes_198 ?_
      refine aw_iconst hX dX11_goes_199 zk_2 ?_
      have s10 := k.1
      have k := k.2
      refine aw_iast' (k := (ix ((16 : Int32) + x3))) hX sh_70 (by decide) s10 rfl dX11_goes_200 ?_
      refine aw_mem (fun μ11 eμ11 => ?_)
      have k := k μ11 eμ11
      obtain ⟨v12, ev12⟩ : ∃ y : Int32, y = x3 + (1 : Int32) := ⟨_, rfl⟩
      have k := k v12 ev12
      refine aw_iinc (v := v12) (L' := [some (.ref (X.G.ad 11 0)), some (.int x1), some (.int x2), some (.int v12)]) hX dX11_goes_201 rfl (by rw [ev12]; rfl) (Nat.le_of_ble_eq_true rfl) rfl ?_
      refine aw_goto (tgt := 169) hX dX11_goes_204 (by decide) ?_
      exact k

set_option maxRecDepth 100000 in
set_option maxHeartbeats 4000000 in
theorem st_X11_goes_98 {X : zX} {lv : Nat} {Post : Option Value → zM → Prop} (hX : zOk X cX11_goes RX11 4 lv) (hr : zRt X none Post)  {x1 : Int32} {x2 : Int32} {x3 : Int32} {μ : zM}
    (k : ((μ.1 38 0 0) ≤ x3 → (AW X 84 [some (.ref (X.G.ad 11 0)), some (.int x1), some (.int x2), none] [] μ)) ∧ (¬ (μ.1 38 0 0) ≤ x3 → ((vp_in ((46 : Int32) + x3) 64) ∧ ((¬ (μ.1 70 0 (ix ((46 : Int32) + x3))) = 0 → ((vp_in x3 60) ∧ (zCallV X lv yX11_takes cX11_takes 4 none [.ref (X.G.ad 11 0), .int x3, .int (μ.1 46 0 (ix x3))] μ (fun μ6 => ((μ6.1 52 0 (ix x3)) < 0 → (∀ v8 : Int32, v8 = x3 + (1 : Int32) → (AW X 98 [some (.ref (X.G.ad 11 0)), some (.int x1), some (.int x2), some (.int v8)] [] μ6))) ∧ (¬ (μ6.1 52 0 (ix x3)) < 0 → ((x1 = 0 → (∀ v10 : Int32, v10 = x3 + (1 : Int32) → (AW X 98 [some (.ref (X.G.ad 11 0)), some (.int x1), some (.int x2), some (.int v10)] [] μ6))) ∧ (¬ x1 = 0 → (zCallV X lv yX11_takes cX11_takes 4 none [.ref (X.G.ad 11 0), .int x3, .int (μ6.1 52 0 (ix x3))] μ6 (fun μ12 => ∀ v13 : Int32, v13 = x3 + (1 : Int32) → (AW X 98 [some (.ref (X.G.ad 11 0)), some (.int x1), some (.int x2), some (.int v13)] [] μ12)))))))))) ∧ ((μ.1 70 0 (ix ((46 : Int32) + x3))) = 0 → (∀ v14 : Int32, v14 = x3 + (1 : Int32) → (AW X 98 [some (.ref (X.G.ad 11 0)), some (.int x1), some (.int x2), some (.int v14)] [] μ))))))) :
    AW X 98 [some (.ref (X.G.ad 11 0)), some (.int x1), some (.int x2), some (.int x3)] [] μ := by
  refine aw_iload_n hX dX11_goes_98 rfl ?_
  refine aw_aload_n hX dX11_goes_99 rfl ?_
  refine aw_getr (o' := 0) hX kf_X11_19 sh_11 (by decide) rfl rfl dX11_goes_100 ?_
  refine aw_iconst hX dX11_goes_103 zk_0 ?_
  refine aw_iald' (k := 0) hX sh_38 (by decide) (zdi (by decide)) (by decide) dX11_goes_104 ?_
  refine aw_icmp_ge (tgt := 164) hX dX11_goes_105 (by decide) (fun c1 => ?_) (fun c1 => ?_)
  · have k := k.1 c1
    refine aw_goto (tgt := 84) hX dX11_goes_164 (by decide) ?_
    exact aw_less (zle_s (zle_s (zle_s (zle_o zle_n)))) k
  · have k := k.2 c1
    refine aw_aload_n hX dX11_goes_108 rfl ?_
    refine aw_getr (o' := 0) hX kf_X11_117 sh_11 (by decide) rfl rfl dX11_goes_109 ?_
    refine aw_bipush hX dX11_goes_112 zb_46 ?_
    refine aw_iload_n hX dX11_goes_114 rfl ?_
    refine aw_iadd hX dX11_goes_115 ?_
    have s2 := k.1
    have k := k.2
    refine aw_iald' (k := (ix ((46 : Int32) + x3))) hX sh_70 (by decide) s2 rfl dX11_goes_116 ?_
    refine aw_if_ne (tgt := 123) hX dX11_goes_117 (by decide) (fun c3 => ?_) (fun c3 => ?_)
    · have k := k.1 c3
      refine aw_aload_n hX dX11_goes_123 rfl ?_
      refine aw_iload_n hX dX11_goes_124 rfl ?_
      refine aw_aload_n hX dX11_goes_125 rfl ?_
      refine aw_getr (o' := 0) hX kf_X11_44 sh_11 (by decide) rfl rfl dX11_goes_126 ?_
      refine aw_iload_n hX dX11_goes_129 rfl ?_
      have s4 := k.1
      have k := k.2
      refine aw_iald' (k := (ix x3)) hX sh_46 (by decide) s4 rfl dX11_goes_130 ?_
      refine aw_invV (As := [.int x3, .int (μ.1 46 0 (ix x3))]) (rest := []) (κ := 11) (o := 0) (T := TX11) (N := 55) hX vc_X11_349 sh_11 (by decide) rfl rfl rfl (Nat.le_of_ble_eq_true rfl) dX11_goes_131 k (fun μ6 k => ?_)
      refine aw_aload_n hX dX11_goes_134 rfl ?_
      refine aw_getr (o' := 0) hX kf_X11_62 sh_11 (by decide) rfl rfl dX11_goes_135 ?_
      refine aw_iload_n hX dX11_goes_138 rfl ?_
      refine aw_iald' (k := (ix x3)) hX sh_52 (by decide) s4 rfl dX11_goes_139 ?_
      refine aw_if_lt (tgt := 158) hX dX11_goes_140 (by decide) (fun c7 => ?_) (fun c7 => ?_)
      · have k := k.1 c7
        obtain ⟨v8, ev8⟩ : ∃ y : Int32, y = x3 + (1 : Int32) := ⟨_, rfl⟩
        have k := k v8 ev8
        refine aw_iinc (v := v8) (L' := [some (.ref (X.G.ad 11 0)), some (.int x1), some (.int x2), some (.int v8)]) hX dX11_goes_158 rfl (by rw [ev8]; rfl) (Nat.le_of_ble_eq_true rfl) rfl ?_
        refine aw_goto (tgt := 98) hX dX11_goes_161 (by decide) ?_
        exact k
      · have k := k.2 c7
        refine aw_iload_n hX dX11_goes_143 rfl ?_
        refine aw_if_eq (tgt := 158) hX dX11_goes_144 (by decide) (fun c9 => ?_) (fun c9 => ?_)
        · have k := k.1 c9
          obtain ⟨v10, ev10⟩ : ∃ y : Int32, y = x3 + (1 : Int32) := ⟨_, rfl⟩
          have k := k v10 ev10
          refine aw_iinc (v := v10) (L' := [some (.ref (X.G.ad 11 0)), some (.int x1), some (.int x2), some (.int v10)]) hX dX11_goes_158 rfl (by rw [ev10]; rfl) (Nat.le_of_ble_eq_true rfl) rfl ?_
          refine aw_goto (tgt := 98) hX dX11_goes_161 (by decide) ?_
          exact k
        · have k := k.2 c9
          refine aw_aload_n hX dX11_goes_147 rfl ?_
          refine aw_iload_n hX dX11_goes_148 rfl ?_
          refine aw_aload_n hX dX11_goes_149 rfl ?_
          refine aw_getr (o' := 0) hX kf_X11_62 sh_11 (by decide) rfl rfl dX11_goes_150 ?_
          refine aw_iload_n hX dX11_goes_153 rfl ?_
          refine aw_iald' (k := (ix x3)) hX sh_52 (by decide) s4 rfl dX11_goes_154 ?_
          refine aw_invV (As := [.int x3, .int (μ6.1 52 0 (ix x3))]) (rest := []) (κ := 11) (o := 0) (T := TX11) (N := 55) hX vc_X11_349 sh_11 (by decide) rfl rfl rfl (Nat.le_of_ble_eq_true rfl) dX11_goes_155 k (fun μ12 k => ?_)
          obtain ⟨v13, ev13⟩ : ∃ y : Int32, y = x3 + (1 : Int32) := ⟨_, rfl⟩
          have k := k v13 ev13
          refine aw_iinc (v := v13) (L' := [some (.ref (X.G.ad 11 0)), some (.int x1), some (.int x2), some (.int v13)]) hX dX11_goes_158 rfl (by rw [ev13]; rfl) (Nat.le_of_ble_eq_true rfl) rfl ?_
          refine aw_goto (tgt := 98) hX dX11_goes_161 (by decide) ?_
          exact k
    · have k := k.2 c3
      refine aw_goto (tgt := 158) hX dX11_goes_120 (by decide) ?_
      obtain ⟨v14, ev14⟩ : ∃ y : Int32, y = x3 + (1 : Int32) := ⟨_, rfl⟩
      have k := k v14 ev14
      refine aw_iinc (v := v14) (L' := [some (.ref (X.G.ad 11 0)), some (.int x1), some (.int x2), some (.int v14)]) hX dX11_goes_158 rfl (by rw [ev14]; rfl) (Nat.le_of_ble_eq_true rfl) rfl ?_
      refine aw_goto (tgt := 98) hX dX11_goes_161 (by decide) ?_
      exact k

set_option maxRecDepth 100000 in
set_option maxHeartbeats 4000000 in
theorem st_X11_dues_0 {X : zX} {lv : Nat} {Post : Option Value → zM → Prop} (hX : zOk X cX11_dues RX11 3 lv) (hr : zRt X (some .int) Post)   {μ : zM}
    (k : AW X 4 [some (.ref (X.G.ad 11 0)), some (.int (0 : Int32)), some (.int (0 : Int32))] [] μ) :
    AW X 0 [some (.ref (X.G.ad 11 0)), none, none] [] μ := by
  refine aw_iconst hX dX11_dues_0 zk_0 ?_
  refine aw_istore_n (L' := [some (.ref (X.G.ad 11 0)), some (.int (0 : Int32)), none]) hX dX11_dues_1 (Nat.le_of_ble_eq_true rfl) rfl ?_
  refine aw_iconst hX dX11_dues_2 zk_0 ?_
  refine aw_istore_n (L' := [some (.ref (X.G.ad 11 0)), some (.int (0 : Int32)), some (.int (0 : Int32))]) hX dX11_dues_3 (Nat.le_of_ble_eq_true rfl) rfl ?_
  exact k

set_option maxRecDepth 100000 in
set_option maxHeartbeats 4000000 in
theorem st_X11_dues_4 {X : zX} {lv : Nat} {Post : Option Value → zM → Prop} (hX : zOk X cX11_dues RX11 3 lv) (hr : zRt X (some .int) Post)  {x1 : Int32} {x2 : Int32} {μ : zM}
    (k : ((μ.1 38 0 0) ≤ x2 → (Post (some (.int x1)) μ)) ∧ (¬ (μ.1 38 0 0) ≤ x2 → ((vp_in ((16 : Int32) + x2) 64) ∧ ((¬ (μ.1 70 0 (ix ((16 : Int32) + x2))) = (1 : Int32) → (∀ v4 : Int32, v4 = (x1 + (0 : Int32)) → (∀ v5 : Int32, v5 = x2 + (1 : Int32) → (AW X 4 [some (.ref (X.G.ad 11 0)), some (.int v4), some (.int v5)] [] μ)))) ∧ ((μ.1 70 0 (ix ((16 : Int32) + x2))) = (1 : Int32) → (∀ v6 : Int32, v6 = (x1 + (1 : Int32)) → (∀ v7 : Int32, v7 = x2 + (1 : Int32) → (AW X 4 [some (.ref (X.G.ad 11 0)), some (.int v6), some (.int v7)] [] μ)))))))) :
    AW X 4 [some (.ref (X.G.ad 11 0)), some (.int x1), some (.int x2)] [] μ := by
  refine aw_iload_n hX dX11_dues_4 rfl ?_
  refine aw_aload_n hX dX11_dues_5 rfl ?_
  refine aw_getr (o' := 0) hX kf_X11_19 sh_11 (by decide) rfl rfl dX11_dues_6 ?_
  refine aw_iconst hX dX11_dues_9 zk_0 ?_
  refine aw_iald' (k := 0) hX sh_38 (by decide) (zdi (by decide)) (by decide) dX11_dues_10 ?_
  refine aw_icmp_ge (tgt := 41) hX dX11_dues_11 (by decide) (fun c1 => ?_) (fun c1 => ?_)
  · have k := k.1 c1
    refine aw_iload_n hX dX11_dues_41 rfl ?_
    exact aw_iret hX hr dX11_dues_42 k
  · have k := k.2 c1
    refine aw_iload_n hX dX11_dues_14 rfl ?_
    refine aw_aload_n hX dX11_dues_15 rfl ?_
    refine aw_getr (o' := 0) hX kf_X11_117 sh_11 (by decide) rfl rfl dX11_dues_16 ?_
    refine aw_bipush hX dX11_dues_19 zb_16 ?_
    refine aw_iload_n hX dX11_dues_21 rfl ?_
    refine aw_iadd hX dX11_dues_22 ?_
    have s2 := k.1
    have k := k.2
    refine aw_iald' (k := (ix ((16 : Int32) + x2))) hX sh_70 (by decide) s2 rfl dX11_dues_23 ?_
    refine aw_iconst hX dX11_dues_24 zk_1 ?_
    refine aw_icmp_ne (tgt := 32) hX dX11_dues_25 (by decide) (fun c3 => ?_) (fun c3 => ?_)
    · have k := k.1 c3
      refine aw_iconst hX dX11_dues_32 zk_0 ?_
      refine aw_iadd hX dX11_dues_33 ?_
      refine aw_topi (fun v4 ev4 => ?_)
      have k := k v4 ev4
      refine aw_istore_n (L' := [some (.ref (X.G.ad 11 0)), some (.int v4), some (.int x2)]) hX dX11_dues_34 (Nat.le_of_ble_eq_true rfl) rfl ?_
      obtain ⟨v5, ev5⟩ : ∃ y : Int32, y = x2 + (1 : Int32) := ⟨_, rfl⟩
      have k := k v5 ev5
      refine aw_iinc (v := v5) (L' := [some (.ref (X.G.ad 11 0)), some (.int v4), some (.int v5)]) hX dX11_dues_35 rfl (by rw [ev5]; rfl) (Nat.le_of_ble_eq_true rfl) rfl ?_
      refine aw_goto (tgt := 4) hX dX11_dues_38 (by decide) ?_
      exact k
    · have k := k.2 c3
      refine aw_iconst hX dX11_dues_28 zk_1 ?_
      refine aw_goto (tgt := 33) hX dX11_dues_29 (by decide) ?_
      refine aw_iadd hX dX11_dues_33 ?_
      refine aw_topi (fun v6 ev6 => ?_)
      have k := k v6 ev6
      refine aw_istore_n (L' := [some (.ref (X.G.ad 11 0)), some (.int v6), some (.int x2)]) hX dX11_dues_34 (Nat.le_of_ble_eq_true rfl) rfl ?_
      obtain ⟨v7, ev7⟩ : ∃ y : Int32, y = x2 + (1 : Int32) := ⟨_, rfl⟩
      have k := k v7 ev7
      refine aw_iinc (v := v7) (L' := [some (.ref (X.G.ad 11 0)), some (.int v6), some (.int v7)]) hX dX11_dues_35 rfl (by rw [ev7]; rfl) (Nat.le_of_ble_eq_true rfl) rfl ?_
      refine aw_goto (tgt := 4) hX dX11_dues_38 (by decide) ?_
      exact k

set_option maxRecDepth 100000 in
set_option maxHeartbeats 4000000 in
theorem st_X11_keeps_0 {X : zX} {lv : Nat} {Post : Option Value → zM → Prop} (hX : zOk X cX11_keeps RX11 2 lv) (hr : zRt X none Post)   {μ : zM}
    (k : (¬ (μ.1 11 0 50) = (30 : Int32) → (AW X 49 [some (.ref (X.G.ad 11 0)), none] [] μ)) ∧ ((μ.1 11 0 50) = (30 : Int32) → (AW X 11 [some (.ref (X.G.ad 11 0)), some (.int (0 : Int32))] [] μ))) :
    AW X 0 [some (.ref (X.G.ad 11 0)), none] [] μ := by
  refine aw_aload_n hX dX11_keeps_0 rfl ?_
  refine aw_geti hX kf_X11_319 sh_11 (by decide) rfl dX11_keeps_1 ?_
  refine aw_bipush hX dX11_keeps_4 zb_30 ?_
  refine aw_icmp_ne (tgt := 49) hX dX11_keeps_6 (by decide) (fun c1 => ?_) (fun c1 => ?_)
  · have k := k.1 c1
    exact k
  · have k := k.2 c1
    refine aw_iconst hX dX11_keeps_9 zk_0 ?_
    refine aw_istore_n (L' := [some (.ref (X.G.ad 11 0)), some (.int (0 : Int32))]) hX dX11_keeps_10 (Nat.le_of_ble_eq_true rfl) rfl ?_
    exact k

set_option maxRecDepth 100000 in
set_option maxHeartbeats 4000000 in
theorem st_X11_keeps_49 {X : zX} {lv : Nat} {Post : Option Value → zM → Prop} (hX : zOk X cX11_keeps RX11 2 lv) (hr : zRt X none Post)   {μ : zM}
    (k : zCallV X lv yX11_copies cX11_copies 5 none [.ref (X.G.ad 70 0), .int (0 : Int32), .ref (X.G.ad 72 0), .int ((64 : Int32) * (μ.1 11 0 50))] μ (fun μ2 => ∀ μ3 : zM, μ3 = pI μ2 11 0 50 ((μ2.1 11 0 50) + (1 : Int32)) → (Post none μ3))) :
    AW X 49 [some (.ref (X.G.ad 11 0)), none] [] μ := by
  refine aw_aload_n hX dX11_keeps_49 rfl ?_
  refine aw_getr (o' := 0) hX kf_X11_117 sh_11 (by decide) rfl rfl dX11_keeps_50 ?_
  refine aw_iconst hX dX11_keeps_53 zk_0 ?_
  refine aw_aload_n hX dX11_keeps_54 rfl ?_
  refine aw_getr (o' := 0) hX kf_X11_123 sh_11 (by decide) rfl rfl dX11_keeps_55 ?_
  refine aw_bipush hX dX11_keeps_58 zb_64 ?_
  refine aw_aload_n hX dX11_keeps_60 rfl ?_
  refine aw_geti hX kf_X11_319 sh_11 (by decide) rfl dX11_keeps_61 ?_
  refine aw_imul hX dX11_keeps_64 ?_
  refine aw_ivsV (As := [.ref (X.G.ad 70 0), .int (0 : Int32), .ref (X.G.ad 72 0), .int ((64 : Int32) * (μ.1 11 0 50))]) (rest := []) hX sc_X11_352 rfl rfl (Nat.le_of_ble_eq_true rfl) dX11_keeps_65 k (fun μ2 k => ?_)
  refine aw_aload_n hX dX11_keeps_68 rfl ?_
  refine aw_dup hX dX11_keeps_69 rfl ?_
  refine aw_geti hX kf_X11_319 sh_11 (by decide) rfl dX11_keeps_70 ?_
  refine aw_iconst hX dX11_keeps_73 zk_1 ?_
  refine aw_iadd hX dX11_keeps_74 ?_
  refine aw_puti hX kp_X11_319 sh_11 (by decide) rfl rfl rfl dX11_keeps_75 ?_
  refine aw_mem (fun μ3 eμ3 => ?_)
  have k := k μ3 eμ3
  exact aw_vret hX hr dX11_keeps_78 k

set_option maxRecDepth 100000 in
set_option maxHeartbeats 4000000 in
theorem st_X11_keeps_11 {X : zX} {lv : Nat} {Post : Option Value → zM → Prop} (hX : zOk X cX11_keeps RX11 2 lv) (hr : zRt X none Post)  {x1 : Int32} {μ : zM}
    (k : ((1856 : Int32) ≤ x1 → (∀ μ2 : zM, μ2 = pI μ 11 0 50 ((μ.1 11 0 50) - (1 : Int32)) → (AW X 49 [some (.ref (X.G.ad 11 0)), none] [] μ2))) ∧ (¬ (1856 : Int32) ≤ x1 → ((vp_in (x1 + (64 : Int32)) 1920) ∧ ((vp_in x1 1920) ∧ (∀ μ5 : zM, μ5 = pI μ 72 0 (ix x1) (μ.1 72 0 (ix (x1 + (64 : Int32)))) → (∀ v6 : Int32, v6 = x1 + (1 : Int32) → (AW X 11 [some (.ref (X.G.ad 11 0)), some (.int v6)] [] μ5))))))) :
    AW X 11 [some (.ref (X.G.ad 11 0)), some (.int x1)] [] μ := by
  refine aw_iload_n hX dX11_keeps_11 rfl ?_
  refine aw_sipush hX dX11_keeps_12 zs_1856 ?_
  refine aw_icmp_ge (tgt := 39) hX dX11_keeps_15 (by decide) (fun c1 => ?_) (fun c1 => ?_)
  · have k := k.1 c1
    refine aw_aload_n hX dX11_keeps_39 rfl ?_
    refine aw_dup hX dX11_keeps_40 rfl ?_
    refine aw_geti hX kf_X11_319 sh_11 (by decide) rfl dX11_keeps_41 ?_
    refine aw_iconst hX dX11_keeps_44 zk_1 ?_
    refine aw_isub hX dX11_keeps_45 ?_
    refine aw_puti hX kp_X11_319 sh_11 (by decide) rfl rfl rfl dX11_keeps_46 ?_
    refine aw_mem (fun μ2 eμ2 => ?_)
    have k := k μ2 eμ2
    exact aw_less (zle_s (zle_o zle_n)) k
  · have k := k.2 c1
    refine aw_aload_n hX dX11_keeps_18 rfl ?_
    refine aw_getr (o' := 0) hX kf_X11_123 sh_11 (by decide) rfl rfl dX11_keeps_19 ?_
    refine aw_iload_n hX dX11_keeps_22 rfl ?_
    refine aw_aload_n hX dX11_keeps_23 rfl ?_
    refine aw_getr (o' := 0) hX kf_X11_123 sh_11 (by decide) rfl rfl dX11_keeps_24 ?_
    refine aw_iload_n hX dX11_keeps_27 rfl ?_
    refine aw_bipush hX dX11_keeps_28 zb_64 ?_
    refine aw_iadd hX dX11_keeps_30 ?_
    have s3 := k.1
    have k := k.2
    refine aw_iald' (k := (ix (x1 + (64 : Int32)))) hX sh_72 (by decide) s3 rfl dX11_keeps_31 ?_
    have s4 := k.1
    have k := k.2
    refine aw_iast' (k := (ix x1)) hX sh_72 (by decide) s4 rfl dX11_keeps_32 ?_
    refine aw_mem (fun μ5 eμ5 => ?_)
    have k := k μ5 eμ5
    obtain ⟨v6, ev6⟩ : ∃ y : Int32, y = x1 + (1 : Int32) := ⟨_, rfl⟩
    have k := k v6 ev6
    refine aw_iinc (v := v6) (L' := [some (.ref (X.G.ad 11 0)), some (.int v6)]) hX dX11_keeps_33 rfl (by rw [ev6]; rfl) (Nat.le_of_ble_eq_true rfl) rfl ?_
    refine aw_goto (tgt := 11) hX dX11_keeps_36 (by decide) ?_
    exact k

set_option maxRecDepth 100000 in
set_option maxHeartbeats 4000000 in
theorem st_X11_day_0 {X : zX} {lv : Nat} {Post : Option Value → zM → Prop} (hX : zOk X cX11_day RX11 2 lv) (hr : zRt X (some .int) Post)  {x1 : Int32} {μ : zM}
    (k : ∀ μ1 : zM, μ1 = pI μ 11 0 0 (0 : Int32) → (zCallI X lv yX11_isWeather cX11_isWeather 2 (some .boolean) [.ref (X.G.ad 11 0), .int x1] μ1 (fun (r2 : Int32) μ3 => (¬ r2 = 0 → (zCallV X lv yX11_keeps cX11_keeps 2 none [.ref (X.G.ad 11 0)] μ3 (fun μ6 => zCallV X lv yX11_goes cX11_goes 4 none [.ref (X.G.ad 11 0), .int x1] μ6 (fun μ8 => zCallI X lv yX11_dues cX11_dues 3 (some .int) [.ref (X.G.ad 11 0)] μ8 (fun (r9 : Int32) μ10 => Post (some (.int r9)) μ10))))) ∧ (r2 = 0 → (Post (some (.int (-1 : Int32))) μ3))))) :
    AW X 0 [some (.ref (X.G.ad 11 0)), some (.int x1)] [] μ := by
  refine aw_aload_n hX dX11_day_0 rfl ?_
  refine aw_iconst hX dX11_day_1 zk_0 ?_
  refine aw_puti hX kp_X11_132 sh_11 (by decide) rfl rfl rfl dX11_day_2 ?_
  refine aw_mem (fun μ1 eμ1 => ?_)
  have k := k μ1 eμ1
  refine aw_aload_n hX dX11_day_5 rfl ?_
  refine aw_iload_n hX dX11_day_6 rfl ?_
  refine aw_invI (As := [.int x1]) (rest := []) (κ := 11) (o := 0) (T := TX11) (N := 55) hX vc_X11_356 sh_11 (by decide) rfl rfl rfl (Nat.le_of_ble_eq_true rfl) dX11_day_7 k (fun r2 μ3 k => ?_)
  refine aw_if_ne (tgt := 15) hX dX11_day_10 (by decide) (fun c4 => ?_) (fun c4 => ?_)
  · have k := k.1 c4
    refine aw_aload_n hX dX11_day_15 rfl ?_
    refine aw_invV (As := []) (rest := []) (κ := 11) (o := 0) (T := TX11) (N := 55) hX vc_X11_359 sh_11 (by decide) rfl rfl rfl (Nat.le_of_ble_eq_true rfl) dX11_day_16 k (fun μ6 k => ?_)
    refine aw_aload_n hX dX11_day_19 rfl ?_
    refine aw_iload_n hX dX11_day_20 rfl ?_
    refine aw_invV (As := [.int x1]) (rest := []) (κ := 11) (o := 0) (T := TX11) (N := 55) hX vc_X11_362 sh_11 (by decide) rfl rfl rfl (Nat.le_of_ble_eq_true rfl) dX11_day_21 k (fun μ8 k => ?_)
    refine aw_aload_n hX dX11_day_24 rfl ?_
    refine aw_invI (As := []) (rest := []) (κ := 11) (o := 0) (T := TX11) (N := 55) hX vc_X11_365 sh_11 (by decide) rfl rfl rfl (Nat.le_of_ble_eq_true rfl) dX11_day_25 k (fun r9 μ10 k => ?_)
    exact aw_iret hX hr dX11_day_28 k
  · have k := k.2 c4
    refine aw_iconst hX dX11_day_13 zk_m1 ?_
    exact aw_iret hX hr dX11_day_14 k

set_option maxRecDepth 100000 in
set_option maxHeartbeats 4000000 in
theorem st_X11_canEarly_0 {X : zX} {lv : Nat} {Post : Option Value → zM → Prop} (hX : zOk X cX11_canEarly RX11 2 lv) (hr : zRt X (some .boolean) Post)  {x1 : Int32} {μ : zM}
    (k : zCallI X lv yX11_isLoan cX11_isLoan 2 (some .boolean) [.ref (X.G.ad 11 0), .int x1] μ (fun (r1 : Int32) μ2 => (r1 = 0 → (Post (some (.int (0 : Int32))) μ2)) ∧ (¬ r1 = 0 → ((vp_in ((16 : Int32) + x1) 64) ∧ (((μ2.1 70 0 (ix ((16 : Int32) + x1))) = (2 : Int32) → (Post (some (.int (0 : Int32))) μ2)) ∧ (¬ (μ2.1 70 0 (ix ((16 : Int32) + x1))) = (2 : Int32) → ((vp_in x1 60) ∧ ((vp_in (μ2.1 46 0 (ix x1)) 64) ∧ ((vp_in ((6 : Int32) + x1) 64) ∧ (((μ2.1 70 0 (ix (μ2.1 46 0 (ix x1)))) < (μ2.1 70 0 (ix ((6 : Int32) + x1))) → (Post (some (.int (0 : Int32))) μ2)) ∧ (¬ (μ2.1 70 0 (ix (μ2.1 46 0 (ix x1)))) < (μ2.1 70 0 (ix ((6 : Int32) + x1))) → (Post (some (.int (1 : Int32))) μ2)))))))))))) :
    AW X 0 [some (.ref (X.G.ad 11 0)), some (.int x1)] [] μ := by
  refine aw_aload_n hX dX11_canEarly_0 rfl ?_
  refine aw_iload_n hX dX11_canEarly_1 rfl ?_
  refine aw_invI (As := [.int x1]) (rest := []) (κ := 11) (o := 0) (T := TX11) (N := 55) hX vc_X11_328 sh_11 (by decide) rfl rfl rfl (Nat.le_of_ble_eq_true rfl) dX11_canEarly_2 k (fun r1 μ2 k => ?_)
  refine aw_if_eq (tgt := 48) hX dX11_canEarly_5 (by decide) (fun c3 => ?_) (fun c3 => ?_)
  · have k := k.1 c3
    refine aw_iconst hX dX11_canEarly_48 zk_0 ?_
    exact aw_zret hX hr (by decide) dX11_canEarly_49 k
  · have k := k.2 c3
    refine aw_aload_n hX dX11_canEarly_8 rfl ?_
    refine aw_getr (o' := 0) hX kf_X11_117 sh_11 (by decide) rfl rfl dX11_canEarly_9 ?_
    refine aw_bipush hX dX11_canEarly_12 zb_16 ?_
    refine aw_iload_n hX dX11_canEarly_14 rfl ?_
    refine aw_iadd hX dX11_canEarly_15 ?_
    have s4 := k.1
    have k := k.2
    refine aw_iald' (k := (ix ((16 : Int32) + x1))) hX sh_70 (by decide) s4 rfl dX11_canEarly_16 ?_
    refine aw_iconst hX dX11_canEarly_17 zk_2 ?_
    refine aw_icmp_eq (tgt := 48) hX dX11_canEarly_18 (by decide) (fun c5 => ?_) (fun c5 => ?_)
    · have k := k.1 c5
      refine aw_iconst hX dX11_canEarly_48 zk_0 ?_
      exact aw_zret hX hr (by decide) dX11_canEarly_49 k
    · have k := k.2 c5
      refine aw_aload_n hX dX11_canEarly_21 rfl ?_
      refine aw_getr (o' := 0) hX kf_X11_117 sh_11 (by decide) rfl rfl dX11_canEarly_22 ?_
      refine aw_aload_n hX dX11_canEarly_25 rfl ?_
      refine aw_getr (o' := 0) hX kf_X11_44 sh_11 (by decide) rfl rfl dX11_canEarly_26 ?_
      refine aw_iload_n hX dX11_canEarly_29 rfl ?_
      have s6 := k.1
      have k := k.2
      refine aw_iald' (k := (ix x1)) hX sh_46 (by decide) s6 rfl dX11_canEarly_30 ?_
      have s7 := k.1
      have k := k.2
      refine aw_iald' (k := (ix (μ2.1 46 0 (ix x1)))) hX sh_70 (by decide) s7 rfl dX11_canEarly_31 ?_
      refine aw_aload_n hX dX11_canEarly_32 rfl ?_
      refine aw_getr (o' := 0) hX kf_X11_117 sh_11 (by decide) rfl rfl dX11_canEarly_33 ?_
      refine aw_bipush hX dX11_canEarly_36 zb_6 ?_
      refine aw_iload_n hX dX11_canEarly_38 rfl ?_
      refine aw_iadd hX dX11_canEarly_39 ?_
      have s8 := k.1
      have k := k.2
      refine aw_iald' (k := (ix ((6 : Int32) + x1))) hX sh_70 (by decide) s8 rfl dX11_canEarly_40 ?_
      refine aw_icmp_lt (tgt := 48) hX dX11_canEarly_41 (by decide) (fun c9 => ?_) (fun c9 => ?_)
      · have k := k.1 c9
        refine aw_iconst hX dX11_canEarly_48 zk_0 ?_
        exact aw_zret hX hr (by decide) dX11_canEarly_49 k
      · have k := k.2 c9
        refine aw_iconst hX dX11_canEarly_44 zk_1 ?_
        refine aw_goto (tgt := 49) hX dX11_canEarly_45 (by decide) ?_
        exact aw_zret hX hr (by decide) dX11_canEarly_49 k

set_option maxRecDepth 100000 in
set_option maxHeartbeats 4000000 in
theorem st_X11_paysEarly_0 {X : zX} {lv : Nat} {Post : Option Value → zM → Prop} (hX : zOk X cX11_paysEarly RX11 2 lv) (hr : zRt X none Post)  {x1 : Int32} {μ : zM}
    (k : (vp_in x1 60) ∧ (zCallV X lv yX11_takes cX11_takes 4 none [.ref (X.G.ad 11 0), .int x1, .int (μ.1 46 0 (ix x1))] μ (fun μ3 => (vp_in ((16 : Int32) + x1) 64) ∧ (∀ μ5 : zM, μ5 = pI μ3 70 0 (ix ((16 : Int32) + x1)) (2 : Int32) → (Post none μ5))))) :
    AW X 0 [some (.ref (X.G.ad 11 0)), some (.int x1)] [] μ := by
  refine aw_aload_n hX dX11_paysEarly_0 rfl ?_
  refine aw_iload_n hX dX11_paysEarly_1 rfl ?_
  refine aw_aload_n hX dX11_paysEarly_2 rfl ?_
  refine aw_getr (o' := 0) hX kf_X11_44 sh_11 (by decide) rfl rfl dX11_paysEarly_3 ?_
  refine aw_iload_n hX dX11_paysEarly_6 rfl ?_
  have s1 := k.1
  have k := k.2
  refine aw_iald' (k := (ix x1)) hX sh_46 (by decide) s1 rfl dX11_paysEarly_7 ?_
  refine aw_invV (As := [.int x1, .int (μ.1 46 0 (ix x1))]) (rest := []) (κ := 11) (o := 0) (T := TX11) (N := 55) hX vc_X11_349 sh_11 (by decide) rfl rfl rfl (Nat.le_of_ble_eq_true rfl) dX11_paysEarly_8 k (fun μ3 k => ?_)
  refine aw_aload_n hX dX11_paysEarly_11 rfl ?_
  refine aw_getr (o' := 0) hX kf_X11_117 sh_11 (by decide) rfl rfl dX11_paysEarly_12 ?_
  refine aw_bipush hX dX11_paysEarly_15 zb_16 ?_
  refine aw_iload_n hX dX11_paysEarly_17 rfl ?_
  refine aw_iadd hX dX11_paysEarly_18 ?_
  refine aw_iconst hX dX11_paysEarly_19 zk_2 ?_
  have s4 := k.1
  have k := k.2
  refine aw_iast' (k := (ix ((16 : Int32) + x1))) hX sh_70 (by decide) s4 rfl dX11_paysEarly_20 ?_
  refine aw_mem (fun μ5 eμ5 => ?_)
  have k := k μ5 eμ5
  exact aw_vret hX hr dX11_paysEarly_21 k

set_option maxRecDepth 100000 in
set_option maxHeartbeats 4000000 in
theorem st_X11_early_0 {X : zX} {lv : Nat} {Post : Option Value → zM → Prop} (hX : zOk X cX11_early RX11 2 lv) (hr : zRt X (some .boolean) Post)  {x1 : Int32} {μ : zM}
    (k : ∀ μ1 : zM, μ1 = pI μ 11 0 0 (0 : Int32) → (zCallI X lv yX11_canEarly cX11_canEarly 2 (some .boolean) [.ref (X.G.ad 11 0), .int x1] μ1 (fun (r2 : Int32) μ3 => (¬ r2 = 0 → (zCallV X lv yX11_keeps cX11_keeps 2 none [.ref (X.G.ad 11 0)] μ3 (fun μ6 => zCallV X lv yX11_paysEarly cX11_paysEarly 2 none [.ref (X.G.ad 11 0), .int x1] μ6 (fun μ8 => Post (some (.int (1 : Int32))) μ8)))) ∧ (r2 = 0 → (Post (some (.int (0 : Int32))) μ3))))) :
    AW X 0 [some (.ref (X.G.ad 11 0)), some (.int x1)] [] μ := by
  refine aw_aload_n hX dX11_early_0 rfl ?_
  refine aw_iconst hX dX11_early_1 zk_0 ?_
  refine aw_puti hX kp_X11_132 sh_11 (by decide) rfl rfl rfl dX11_early_2 ?_
  refine aw_mem (fun μ1 eμ1 => ?_)
  have k := k μ1 eμ1
  refine aw_aload_n hX dX11_early_5 rfl ?_
  refine aw_iload_n hX dX11_early_6 rfl ?_
  refine aw_invI (As := [.int x1]) (rest := []) (κ := 11) (o := 0) (T := TX11) (N := 55) hX vc_X11_368 sh_11 (by decide) rfl rfl rfl (Nat.le_of_ble_eq_true rfl) dX11_early_7 k (fun r2 μ3 k => ?_)
  refine aw_if_ne (tgt := 15) hX dX11_early_10 (by decide) (fun c4 => ?_) (fun c4 => ?_)
  · have k := k.1 c4
    refine aw_aload_n hX dX11_early_15 rfl ?_
    refine aw_invV (As := []) (rest := []) (κ := 11) (o := 0) (T := TX11) (N := 55) hX vc_X11_359 sh_11 (by decide) rfl rfl rfl (Nat.le_of_ble_eq_true rfl) dX11_early_16 k (fun μ6 k => ?_)
    refine aw_aload_n hX dX11_early_19 rfl ?_
    refine aw_iload_n hX dX11_early_20 rfl ?_
    refine aw_invV (As := [.int x1]) (rest := []) (κ := 11) (o := 0) (T := TX11) (N := 55) hX vc_X11_371 sh_11 (by decide) rfl rfl rfl (Nat.le_of_ble_eq_true rfl) dX11_early_21 k (fun μ8 k => ?_)
    refine aw_iconst hX dX11_early_24 zk_1 ?_
    exact aw_zret hX hr (by decide) dX11_early_25 k
  · have k := k.2 c4
    refine aw_iconst hX dX11_early_13 zk_0 ?_
    exact aw_zret hX hr (by decide) dX11_early_14 k

set_option maxRecDepth 100000 in
set_option maxHeartbeats 4000000 in
theorem st_X11_undo_0 {X : zX} {lv : Nat} {Post : Option Value → zM → Prop} (hX : zOk X cX11_undo RX11 1 lv) (hr : zRt X (some .boolean) Post)   {μ : zM}
    (k : ∀ μ1 : zM, μ1 = pI μ 11 0 0 (0 : Int32) → ((¬ (μ1.1 11 0 50) = 0 → (∀ μ3 : zM, μ3 = pI μ1 11 0 50 ((μ1.1 11 0 50) - (1 : Int32)) → (zCallV X lv yX11_copies cX11_copies 5 none [.ref (X.G.ad 72 0), .int ((64 : Int32) * (μ3.1 11 0 50)), .ref (X.G.ad 70 0), .int (0 : Int32)] μ3 (fun μ5 => Post (some (.int (1 : Int32))) μ5)))) ∧ ((μ1.1 11 0 50) = 0 → (Post (some (.int (0 : Int32))) μ1)))) :
    AW X 0 [some (.ref (X.G.ad 11 0))] [] μ := by
  refine aw_aload_n hX dX11_undo_0 rfl ?_
  refine aw_iconst hX dX11_undo_1 zk_0 ?_
  refine aw_puti hX kp_X11_132 sh_11 (by decide) rfl rfl rfl dX11_undo_2 ?_
  refine aw_mem (fun μ1 eμ1 => ?_)
  have k := k μ1 eμ1
  refine aw_aload_n hX dX11_undo_5 rfl ?_
  refine aw_geti hX kf_X11_319 sh_11 (by decide) rfl dX11_undo_6 ?_
  refine aw_if_ne (tgt := 14) hX dX11_undo_9 (by decide) (fun c2 => ?_) (fun c2 => ?_)
  · have k := k.1 c2
    refine aw_aload_n hX dX11_undo_14 rfl ?_
    refine aw_dup hX dX11_undo_15 rfl ?_
    refine aw_geti hX kf_X11_319 sh_11 (by decide) rfl dX11_undo_16 ?_
    refine aw_iconst hX dX11_undo_19 zk_1 ?_
    refine aw_isub hX dX11_undo_20 ?_
    refine aw_puti hX kp_X11_319 sh_11 (by decide) rfl rfl rfl dX11_undo_21 ?_
    refine aw_mem (fun μ3 eμ3 => ?_)
    have k := k μ3 eμ3
    refine aw_aload_n hX dX11_undo_24 rfl ?_
    refine aw_getr (o' := 0) hX kf_X11_123 sh_11 (by decide) rfl rfl dX11_undo_25 ?_
    refine aw_bipush hX dX11_undo_28 zb_64 ?_
    refine aw_aload_n hX dX11_undo_30 rfl ?_
    refine aw_geti hX kf_X11_319 sh_11 (by decide) rfl dX11_undo_31 ?_
    refine aw_imul hX dX11_undo_34 ?_
    refine aw_aload_n hX dX11_undo_35 rfl ?_
    refine aw_getr (o' := 0) hX kf_X11_117 sh_11 (by decide) rfl rfl dX11_undo_36 ?_
    refine aw_iconst hX dX11_undo_39 zk_0 ?_
    refine aw_ivsV (As := [.ref (X.G.ad 72 0), .int ((64 : Int32) * (μ3.1 11 0 50)), .ref (X.G.ad 70 0), .int (0 : Int32)]) (rest := []) hX sc_X11_352 rfl rfl (Nat.le_of_ble_eq_true rfl) dX11_undo_40 k (fun μ5 k => ?_)
    refine aw_iconst hX dX11_undo_43 zk_1 ?_
    exact aw_zret hX hr (by decide) dX11_undo_44 k
  · have k := k.2 c2
    refine aw_iconst hX dX11_undo_12 zk_0 ?_
    exact aw_zret hX hr (by decide) dX11_undo_13 k

set_option maxRecDepth 100000 in
set_option maxHeartbeats 4000000 in
theorem st_X11_ruinedNow_0 {X : zX} {lv : Nat} {Post : Option Value → zM → Prop} (hX : zOk X cX11_ruinedNow RX11 3 lv) (hr : zRt X (some .int) Post)   {μ : zM}
    (k : AW X 4 [some (.ref (X.G.ad 11 0)), some (.int (0 : Int32)), some (.int (0 : Int32))] [] μ) :
    AW X 0 [some (.ref (X.G.ad 11 0)), none, none] [] μ := by
  refine aw_iconst hX dX11_ruinedNow_0 zk_0 ?_
  refine aw_istore_n (L' := [some (.ref (X.G.ad 11 0)), some (.int (0 : Int32)), none]) hX dX11_ruinedNow_1 (Nat.le_of_ble_eq_true rfl) rfl ?_
  refine aw_iconst hX dX11_ruinedNow_2 zk_0 ?_
  refine aw_istore_n (L' := [some (.ref (X.G.ad 11 0)), some (.int (0 : Int32)), some (.int (0 : Int32))]) hX dX11_ruinedNow_3 (Nat.le_of_ble_eq_true rfl) rfl ?_
  exact k

set_option maxRecDepth 100000 in
set_option maxHeartbeats 4000000 in
theorem st_X11_ruinedNow_4 {X : zX} {lv : Nat} {Post : Option Value → zM → Prop} (hX : zOk X cX11_ruinedNow RX11 3 lv) (hr : zRt X (some .int) Post)  {x1 : Int32} {x2 : Int32} {μ : zM}
    (k : ((μ.1 38 0 0) ≤ x2 → (Post (some (.int x1)) μ)) ∧ (¬ (μ.1 38 0 0) ≤ x2 → ((vp_in ((46 : Int32) + x2) 64) ∧ ((¬ (μ.1 70 0 (ix ((46 : Int32) + x2))) = (1 : Int32) → (∀ v4 : Int32, v4 = (x1 ||| (0 : Int32)) → (∀ v5 : Int32, v5 = x2 + (1 : Int32) → (AW X 4 [some (.ref (X.G.ad 11 0)), some (.int v4), some (.int v5)] [] μ)))) ∧ ((μ.1 70 0 (ix ((46 : Int32) + x2))) = (1 : Int32) → ((vp_in ((16 : Int32) + x2) 64) ∧ (((μ.1 70 0 (ix ((16 : Int32) + x2))) = (2 : Int32) → (∀ v8 : Int32, v8 = (x1 ||| (0 : Int32)) → (∀ v9 : Int32, v9 = x2 + (1 : Int32) → (AW X 4 [some (.ref (X.G.ad 11 0)), some (.int v8), some (.int v9)] [] μ)))) ∧ (¬ (μ.1 70 0 (ix ((16 : Int32) + x2))) = (2 : Int32) → ((vp_in x2 60) ∧ (∀ v11 : Int32, v11 = (x1 ||| ((1 : Int32) <<< ((μ.1 46 0 (ix x2)) &&& 31))) → (∀ v12 : Int32, v12 = x2 + (1 : Int32) → (AW X 4 [some (.ref (X.G.ad 11 0)), some (.int v11), some (.int v12)] [] μ)))))))))))) :
    AW X 4 [some (.ref (X.G.ad 11 0)), some (.int x1), some (.int x2)] [] μ := by
  refine aw_iload_n hX dX11_ruinedNow_4 rfl ?_
  refine aw_aload_n hX dX11_ruinedNow_5 rfl ?_
  refine aw_getr (o' := 0) hX kf_X11_19 sh_11 (by decide) rfl rfl dX11_ruinedNow_6 ?_
  refine aw_iconst hX dX11_ruinedNow_9 zk_0 ?_
  refine aw_iald' (k := 0) hX sh_38 (by decide) (zdi (by decide)) (by decide) dX11_ruinedNow_10 ?_
  refine aw_icmp_ge (tgt := 61) hX dX11_ruinedNow_11 (by decide) (fun c1 => ?_) (fun c1 => ?_)
  · have k := k.1 c1
    refine aw_iload_n hX dX11_ruinedNow_61 rfl ?_
    exact aw_iret hX hr dX11_ruinedNow_62 k
  · have k := k.2 c1
    refine aw_iload_n hX dX11_ruinedNow_14 rfl ?_
    refine aw_aload_n hX dX11_ruinedNow_15 rfl ?_
    refine aw_getr (o' := 0) hX kf_X11_117 sh_11 (by decide) rfl rfl dX11_ruinedNow_16 ?_
    refine aw_bipush hX dX11_ruinedNow_19 zb_46 ?_
    refine aw_iload_n hX dX11_ruinedNow_21 rfl ?_
    refine aw_iadd hX dX11_ruinedNow_22 ?_
    have s2 := k.1
    have k := k.2
    refine aw_iald' (k := (ix ((46 : Int32) + x2))) hX sh_70 (by decide) s2 rfl dX11_ruinedNow_23 ?_
    refine aw_iconst hX dX11_ruinedNow_24 zk_1 ?_
    refine aw_icmp_ne (tgt := 52) hX dX11_ruinedNow_25 (by decide) (fun c3 => ?_) (fun c3 => ?_)
    · have k := k.1 c3
      refine aw_iconst hX dX11_ruinedNow_52 zk_0 ?_
      refine aw_ior hX dX11_ruinedNow_53 ?_
      refine aw_topi (fun v4 ev4 => ?_)
      have k := k v4 ev4
      refine aw_istore_n (L' := [some (.ref (X.G.ad 11 0)), some (.int v4), some (.int x2)]) hX dX11_ruinedNow_54 (Nat.le_of_ble_eq_true rfl) rfl ?_
      obtain ⟨v5, ev5⟩ : ∃ y : Int32, y = x2 + (1 : Int32) := ⟨_, rfl⟩
      have k := k v5 ev5
      refine aw_iinc (v := v5) (L' := [some (.ref (X.G.ad 11 0)), some (.int v4), some (.int v5)]) hX dX11_ruinedNow_55 rfl (by rw [ev5]; rfl) (Nat.le_of_ble_eq_true rfl) rfl ?_
      refine aw_goto (tgt := 4) hX dX11_ruinedNow_58 (by decide) ?_
      exact k
    · have k := k.2 c3
      refine aw_aload_n hX dX11_ruinedNow_28 rfl ?_
      refine aw_getr (o' := 0) hX kf_X11_117 sh_11 (by decide) rfl rfl dX11_ruinedNow_29 ?_
      refine aw_bipush hX dX11_ruinedNow_32 zb_16 ?_
      refine aw_iload_n hX dX11_ruinedNow_34 rfl ?_
      refine aw_iadd hX dX11_ruinedNow_35 ?_
      have s6 := k.1
      have k := k.2
      refine aw_iald' (k := (ix ((16 : Int32) + x2))) hX sh_70 (by decide) s6 rfl dX11_ruinedNow_36 ?_
      refine aw_iconst hX dX11_ruinedNow_37 zk_2 ?_
      refine aw_icmp_eq (tgt := 52) hX dX11_ruinedNow_38 (by decide) (fun c7 => ?_) (fun c7 => ?_)
      · have k := k.1 c7
        refine aw_iconst hX dX11_ruinedNow_52 zk_0 ?_
        refine aw_ior hX dX11_ruinedNow_53 ?_
        refine aw_topi (fun v8 ev8 => ?_)
        have k := k v8 ev8
        refine aw_istore_n (L' := [some (.ref (X.G.ad 11 0)), some (.int v8), some (.int x2)]) hX dX11_ruinedNow_54 (Nat.le_of_ble_eq_true rfl) rfl ?_
        obtain ⟨v9, ev9⟩ : ∃ y : Int32, y = x2 + (1 : Int32) := ⟨_, rfl⟩
        have k := k v9 ev9
        refine aw_iinc (v := v9) (L' := [some (.ref (X.G.ad 11 0)), some (.int v8), some (.int v9)]) hX dX11_ruinedNow_55 rfl (by rw [ev9]; rfl) (Nat.le_of_ble_eq_true rfl) rfl ?_
        refine aw_goto (tgt := 4) hX dX11_ruinedNow_58 (by decide) ?_
        exact k
      · have k := k.2 c7
        refine aw_iconst hX dX11_ruinedNow_41 zk_1 ?_
        refine aw_aload_n hX dX11_ruinedNow_42 rfl ?_
        refine aw_getr (o' := 0) hX kf_X11_44 sh_11 (by decide) rfl rfl dX11_ruinedNow_43 ?_
        refine aw_iload_n hX dX11_ruinedNow_46 rfl ?_
        have s10 := k.1
        have k := k.2
        refine aw_iald' (k := (ix x2)) hX sh_46 (by decide) s10 rfl dX11_ruinedNow_47 ?_
        refine aw_ishl hX dX11_ruinedNow_48 ?_
        refine aw_goto (tgt := 53) hX dX11_ruinedNow_49 (by decide) ?_
        refine aw_ior hX dX11_ruinedNow_53 ?_
        refine aw_topi (fun v11 ev11 => ?_)
        have k := k v11 ev11
        refine aw_istore_n (L' := [some (.ref (X.G.ad 11 0)), some (.int v11), some (.int x2)]) hX dX11_ruinedNow_54 (Nat.le_of_ble_eq_true rfl) rfl ?_
        obtain ⟨v12, ev12⟩ : ∃ y : Int32, y = x2 + (1 : Int32) := ⟨_, rfl⟩
        have k := k v12 ev12
        refine aw_iinc (v := v12) (L' := [some (.ref (X.G.ad 11 0)), some (.int v11), some (.int v12)]) hX dX11_ruinedNow_55 rfl (by rw [ev12]; rfl) (Nat.le_of_ble_eq_true rfl) rfl ?_
        refine aw_goto (tgt := 4) hX dX11_ruinedNow_58 (by decide) ?_
        exact k

set_option maxRecDepth 100000 in
set_option maxHeartbeats 4000000 in
theorem st_X11_ruined_0 {X : zX} {lv : Nat} {Post : Option Value → zM → Prop} (hX : zOk X cX11_ruined RX11 1 lv) (hr : zRt X (some .int) Post)   {μ : zM}
    (k : ∀ μ1 : zM, μ1 = pI μ 11 0 0 (0 : Int32) → (zCallI X lv yX11_ruinedNow cX11_ruinedNow 3 (some .int) [.ref (X.G.ad 11 0)] μ1 (fun (r2 : Int32) μ3 => Post (some (.int r2)) μ3))) :
    AW X 0 [some (.ref (X.G.ad 11 0))] [] μ := by
  refine aw_aload_n hX dX11_ruined_0 rfl ?_
  refine aw_iconst hX dX11_ruined_1 zk_0 ?_
  refine aw_puti hX kp_X11_132 sh_11 (by decide) rfl rfl rfl dX11_ruined_2 ?_
  refine aw_mem (fun μ1 eμ1 => ?_)
  have k := k μ1 eμ1
  refine aw_aload_n hX dX11_ruined_5 rfl ?_
  refine aw_invI (As := []) (rest := []) (κ := 11) (o := 0) (T := TX11) (N := 55) hX vc_X11_374 sh_11 (by decide) rfl rfl rfl (Nat.le_of_ble_eq_true rfl) dX11_ruined_6 k (fun r2 μ3 k => ?_)
  exact aw_iret hX hr dX11_ruined_9 k

set_option maxRecDepth 100000 in
set_option maxHeartbeats 4000000 in
theorem st_X11_has_0 {X : zX} {lv : Nat} {Post : Option Value → zM → Prop} (hX : zOk X cX11_has RX11 4 lv) (hr : zRt X (some .int) Post)  {x1 : Int32} {μ : zM}
    (k : zCallI X lv yX11_isPerson cX11_isPerson 2 (some .boolean) [.ref (X.G.ad 11 0), .int x1] μ (fun (r1 : Int32) μ2 => (r1 = 0 → (∀ μ4 : zM, μ4 = pI μ2 11 0 0 (1 : Int32) → ((¬ (μ4.1 11 0 0) = (1 : Int32) → ((vp_in x1 64) ∧ (∀ v7 : Int32, v7 = (μ4.1 70 0 (ix x1)) → (AW X 36 [some (.ref (X.G.ad 11 0)), some (.int x1), some (.int v7), some (.int (0 : Int32))] [] μ4)))) ∧ ((μ4.1 11 0 0) = (1 : Int32) → (Post (some (.int (0 : Int32))) μ4))))) ∧ (¬ r1 = 0 → (∀ μ8 : zM, μ8 = pI μ2 11 0 0 (0 : Int32) → ((¬ (μ8.1 11 0 0) = (1 : Int32) → ((vp_in x1 64) ∧ (∀ v11 : Int32, v11 = (μ8.1 70 0 (ix x1)) → (AW X 36 [some (.ref (X.G.ad 11 0)), some (.int x1), some (.int v11), some (.int (0 : Int32))] [] μ8)))) ∧ ((μ8.1 11 0 0) = (1 : Int32) → (Post (some (.int (0 : Int32))) μ8))))))) :
    AW X 0 [some (.ref (X.G.ad 11 0)), some (.int x1), none, none] [] μ := by
  refine aw_aload_n hX dX11_has_0 rfl ?_
  refine aw_aload_n hX dX11_has_1 rfl ?_
  refine aw_iload_n hX dX11_has_2 rfl ?_
  refine aw_invI (As := [.int x1]) (rest := [.ref (X.G.ad 11 0)]) (κ := 11) (o := 0) (T := TX11) (N := 55) hX vc_X11_325 sh_11 (by decide) rfl rfl rfl (Nat.le_of_ble_eq_true rfl) dX11_has_3 k (fun r1 μ2 k => ?_)
  refine aw_if_eq (tgt := 13) hX dX11_has_6 (by decide) (fun c3 => ?_) (fun c3 => ?_)
  · have k := k.1 c3
    refine aw_iconst hX dX11_has_13 zk_1 ?_
    refine aw_puti hX kp_X11_132 sh_11 (by decide) rfl rfl rfl dX11_has_14 ?_
    refine aw_mem (fun μ4 eμ4 => ?_)
    have k := k μ4 eμ4
    refine aw_aload_n hX dX11_has_17 rfl ?_
    refine aw_geti hX kf_X11_132 sh_11 (by decide) rfl dX11_has_18 ?_
    refine aw_iconst hX dX11_has_21 zk_1 ?_
    refine aw_icmp_ne (tgt := 27) hX dX11_has_22 (by decide) (fun c5 => ?_) (fun c5 => ?_)
    · have k := k.1 c5
      refine aw_aload_n hX dX11_has_27 rfl ?_
      refine aw_getr (o' := 0) hX kf_X11_117 sh_11 (by decide) rfl rfl dX11_has_28 ?_
      refine aw_iload_n hX dX11_has_31 rfl ?_
      have s6 := k.1
      have k := k.2
      refine aw_iald' (k := (ix x1)) hX sh_70 (by decide) s6 rfl dX11_has_32 ?_
      refine aw_topi (fun v7 ev7 => ?_)
      have k := k v7 ev7
      refine aw_istore_n (L' := [some (.ref (X.G.ad 11 0)), some (.int x1), some (.int v7), none]) hX dX11_has_33 (Nat.le_of_ble_eq_true rfl) rfl ?_
      refine aw_iconst hX dX11_has_34 zk_0 ?_
      refine aw_istore_n (L' := [some (.ref (X.G.ad 11 0)), some (.int x1), some (.int v7), some (.int (0 : Int32))]) hX dX11_has_35 (Nat.le_of_ble_eq_true rfl) rfl ?_
      exact k
    · have k := k.2 c5
      refine aw_iconst hX dX11_has_25 zk_0 ?_
      exact aw_iret hX hr dX11_has_26 k
  · have k := k.2 c3
    refine aw_iconst hX dX11_has_9 zk_0 ?_
    refine aw_goto (tgt := 14) hX dX11_has_10 (by decide) ?_
    refine aw_puti hX kp_X11_132 sh_11 (by decide) rfl rfl rfl dX11_has_14 ?_
    refine aw_mem (fun μ8 eμ8 => ?_)
    have k := k μ8 eμ8
    refine aw_aload_n hX dX11_has_17 rfl ?_
    refine aw_geti hX kf_X11_132 sh_11 (by decide) rfl dX11_has_18 ?_
    refine aw_iconst hX dX11_has_21 zk_1 ?_
    refine aw_icmp_ne (tgt := 27) hX dX11_has_22 (by decide) (fun c9 => ?_) (fun c9 => ?_)
    · have k := k.1 c9
      refine aw_aload_n hX dX11_has_27 rfl ?_
      refine aw_getr (o' := 0) hX kf_X11_117 sh_11 (by decide) rfl rfl dX11_has_28 ?_
      refine aw_iload_n hX dX11_has_31 rfl ?_
      have s10 := k.1
      have k := k.2
      refine aw_iald' (k := (ix x1)) hX sh_70 (by decide) s10 rfl dX11_has_32 ?_
      refine aw_topi (fun v11 ev11 => ?_)
      have k := k v11 ev11
      refine aw_istore_n (L' := [some (.ref (X.G.ad 11 0)), some (.int x1), some (.int v11), none]) hX dX11_has_33 (Nat.le_of_ble_eq_true rfl) rfl ?_
      refine aw_iconst hX dX11_has_34 zk_0 ?_
      refine aw_istore_n (L' := [some (.ref (X.G.ad 11 0)), some (.int x1), some (.int v11), some (.int (0 : Int32))]) hX dX11_has_35 (Nat.le_of_ble_eq_true rfl) rfl ?_
      exact k
    · have k := k.2 c9
      refine aw_iconst hX dX11_has_25 zk_0 ?_
      exact aw_iret hX hr dX11_has_26 k

set_option maxRecDepth 100000 in
set_option maxHeartbeats 4000000 in
theorem st_X11_has_36 {X : zX} {lv : Nat} {Post : Option Value → zM → Prop} (hX : zOk X cX11_has RX11 4 lv) (hr : zRt X (some .int) Post)  {x1 : Int32} {x2 : Int32} {x3 : Int32} {μ : zM}
    (k : ((μ.1 38 0 0) ≤ x3 → (Post (some (.int x2)) μ)) ∧ (¬ (μ.1 38 0 0) ≤ x3 → ((vp_in x3 60) ∧ ((¬ (μ.1 45 0 (ix x3)) = x1 → ((¬ (μ.1 46 0 (ix x3)) = x1 → (∀ v5 : Int32, v5 = (x2 + (0 : Int32)) → (∀ v6 : Int32, v6 = x3 + (1 : Int32) → (AW X 36 [some (.ref (X.G.ad 11 0)), some (.int x1), some (.int v5), some (.int v6)] [] μ)))) ∧ ((μ.1 46 0 (ix x3)) = x1 → ((vp_in ((6 : Int32) + x3) 64) ∧ (∀ v8 : Int32, v8 = (x2 + (-(μ.1 70 0 (ix ((6 : Int32) + x3))))) → (∀ v9 : Int32, v9 = x3 + (1 : Int32) → (AW X 36 [some (.ref (X.G.ad 11 0)), some (.int x1), some (.int v8), some (.int v9)] [] μ))))))) ∧ ((μ.1 45 0 (ix x3)) = x1 → ((vp_in ((6 : Int32) + x3) 64) ∧ (∀ v11 : Int32, v11 = (x2 + (μ.1 70 0 (ix ((6 : Int32) + x3)))) → (∀ v12 : Int32, v12 = x3 + (1 : Int32) → (AW X 36 [some (.ref (X.G.ad 11 0)), some (.int x1), some (.int v11), some (.int v12)] [] μ))))))))) :
    AW X 36 [some (.ref (X.G.ad 11 0)), some (.int x1), some (.int x2), some (.int x3)] [] μ := by
  refine aw_iload_n hX dX11_has_36 rfl ?_
  refine aw_aload_n hX dX11_has_37 rfl ?_
  refine aw_getr (o' := 0) hX kf_X11_19 sh_11 (by decide) rfl rfl dX11_has_38 ?_
  refine aw_iconst hX dX11_has_41 zk_0 ?_
  refine aw_iald' (k := 0) hX sh_38 (by decide) (zdi (by decide)) (by decide) dX11_has_42 ?_
  refine aw_icmp_ge (tgt := 101) hX dX11_has_43 (by decide) (fun c1 => ?_) (fun c1 => ?_)
  · have k := k.1 c1
    refine aw_iload_n hX dX11_has_101 rfl ?_
    exact aw_iret hX hr dX11_has_102 k
  · have k := k.2 c1
    refine aw_iload_n hX dX11_has_46 rfl ?_
    refine aw_aload_n hX dX11_has_47 rfl ?_
    refine aw_getr (o' := 0) hX kf_X11_41 sh_11 (by decide) rfl rfl dX11_has_48 ?_
    refine aw_iload_n hX dX11_has_51 rfl ?_
    have s2 := k.1
    have k := k.2
    refine aw_iald' (k := (ix x3)) hX sh_45 (by decide) s2 rfl dX11_has_52 ?_
    refine aw_iload_n hX dX11_has_53 rfl ?_
    refine aw_icmp_ne (tgt := 69) hX dX11_has_54 (by decide) (fun c3 => ?_) (fun c3 => ?_)
    · have k := k.1 c3
      refine aw_aload_n hX dX11_has_69 rfl ?_
      refine aw_getr (o' := 0) hX kf_X11_44 sh_11 (by decide) rfl rfl dX11_has_70 ?_
      refine aw_iload_n hX dX11_has_73 rfl ?_
      refine aw_iald' (k := (ix x3)) hX sh_46 (by decide) s2 rfl dX11_has_74 ?_
      refine aw_iload_n hX dX11_has_75 rfl ?_
      refine aw_icmp_ne (tgt := 92) hX dX11_has_76 (by decide) (fun c4 => ?_) (fun c4 => ?_)
      · have k := k.1 c4
        refine aw_iconst hX dX11_has_92 zk_0 ?_
        refine aw_iadd hX dX11_has_93 ?_
        refine aw_topi (fun v5 ev5 => ?_)
        have k := k v5 ev5
        refine aw_istore_n (L' := [some (.ref (X.G.ad 11 0)), some (.int x1), some (.int v5), some (.int x3)]) hX dX11_has_94 (Nat.le_of_ble_eq_true rfl) rfl ?_
        obtain ⟨v6, ev6⟩ : ∃ y : Int32, y = x3 + (1 : Int32) := ⟨_, rfl⟩
        have k := k v6 ev6
        refine aw_iinc (v := v6) (L' := [some (.ref (X.G.ad 11 0)), some (.int x1), some (.int v5), some (.int v6)]) hX dX11_has_95 rfl (by rw [ev6]; rfl) (Nat.le_of_ble_eq_true rfl) rfl ?_
        refine aw_goto (tgt := 36) hX dX11_has_98 (by decide) ?_
        exact k
      · have k := k.2 c4
        refine aw_aload_n hX dX11_has_79 rfl ?_
        refine aw_getr (o' := 0) hX kf_X11_117 sh_11 (by decide) rfl rfl dX11_has_80 ?_
        refine aw_bipush hX dX11_has_83 zb_6 ?_
        refine aw_iload_n hX dX11_has_85 rfl ?_
        refine aw_iadd hX dX11_has_86 ?_
        have s7 := k.1
        have k := k.2
        refine aw_iald' (k := (ix ((6 : Int32) + x3))) hX sh_70 (by decide) s7 rfl dX11_has_87 ?_
        refine aw_ineg hX dX11_has_88 ?_
        refine aw_goto (tgt := 93) hX dX11_has_89 (by decide) ?_
        refine aw_iadd hX dX11_has_93 ?_
        refine aw_topi (fun v8 ev8 => ?_)
        have k := k v8 ev8
        refine aw_istore_n (L' := [some (.ref (X.G.ad 11 0)), some (.int x1), some (.int v8), some (.int x3)]) hX dX11_has_94 (Nat.le_of_ble_eq_true rfl) rfl ?_
        obtain ⟨v9, ev9⟩ : ∃ y : Int32, y = x3 + (1 : Int32) := ⟨_, rfl⟩
        have k := k v9 ev9
        refine aw_iinc (v := v9) (L' := [some (.ref (X.G.ad 11 0)), some (.int x1), some (.int v8), some (.int v9)]) hX dX11_has_95 rfl (by rw [ev9]; rfl) (Nat.le_of_ble_eq_true rfl) rfl ?_
        refine aw_goto (tgt := 36) hX dX11_has_98 (by decide) ?_
        exact k
    · have k := k.2 c3
      refine aw_aload_n hX dX11_has_57 rfl ?_
      refine aw_getr (o' := 0) hX kf_X11_117 sh_11 (by decide) rfl rfl dX11_has_58 ?_
      refine aw_bipush hX dX11_has_61 zb_6 ?_
      refine aw_iload_n hX dX11_has_63 rfl ?_
      refine aw_iadd hX dX11_has_64 ?_
      have s10 := k.1
      have k := k.2
      refine aw_iald' (k := (ix ((6 : Int32) + x3))) hX sh_70 (by decide) s10 rfl dX11_has_65 ?_
      refine aw_goto (tgt := 93) hX dX11_has_66 (by decide) ?_
      refine aw_iadd hX dX11_has_93 ?_
      refine aw_topi (fun v11 ev11 => ?_)
      have k := k v11 ev11
      refine aw_istore_n (L' := [some (.ref (X.G.ad 11 0)), some (.int x1), some (.int v11), some (.int x3)]) hX dX11_has_94 (Nat.le_of_ble_eq_true rfl) rfl ?_
      obtain ⟨v12, ev12⟩ : ∃ y : Int32, y = x3 + (1 : Int32) := ⟨_, rfl⟩
      have k := k v12 ev12
      refine aw_iinc (v := v12) (L' := [some (.ref (X.G.ad 11 0)), some (.int x1), some (.int v11), some (.int v12)]) hX dX11_has_95 rfl (by rw [ev12]; rfl) (Nat.le_of_ble_eq_true rfl) rfl ?_
      refine aw_goto (tgt := 36) hX dX11_has_98 (by decide) ?_
      exact k

set_option maxRecDepth 100000 in
set_option maxHeartbeats 4000000 in
theorem st_X11_isAhead_0 {X : zX} {lv : Nat} {Post : Option Value → zM → Prop} (hX : zOk X cX11_isAhead RX11 2 lv) (hr : zRt X (some .boolean) Post)  {x1 : Int32} {μ : zM}
    (k : zCallI X lv yX11_within cX11_within 3 (some .boolean) [.int x1, .int (1 : Int32), .int (12 : Int32)] μ (fun (r1 : Int32) μ2 => (r1 = 0 → (Post (some (.int (0 : Int32))) μ2)) ∧ (¬ r1 = 0 → ((((μ2.1 36 0 0) * x1) ≤ (12 : Int32) → (∀ μ5 : zM, μ5 = pI μ2 11 0 52 ((1 : Int32) <<< (((μ2.1 36 0 0) * x1) &&& 31)) → (Post (some (.int (1 : Int32))) μ5))) ∧ (¬ ((μ2.1 36 0 0) * x1) ≤ (12 : Int32) → (Post (some (.int (0 : Int32))) μ2)))))) :
    AW X 0 [some (.ref (X.G.ad 11 0)), some (.int x1)] [] μ := by
  refine aw_iload_n hX dX11_isAhead_0 rfl ?_
  refine aw_iconst hX dX11_isAhead_1 zk_1 ?_
  refine aw_bipush hX dX11_isAhead_2 zb_12 ?_
  refine aw_ivsI (As := [.int x1, .int (1 : Int32), .int (12 : Int32)]) (rest := []) hX sc_X11_257 rfl rfl (Nat.le_of_ble_eq_true rfl) dX11_isAhead_4 k (fun r1 μ2 k => ?_)
  refine aw_if_eq (tgt := 23) hX dX11_isAhead_7 (by decide) (fun c3 => ?_) (fun c3 => ?_)
  · have k := k.1 c3
    refine aw_iconst hX dX11_isAhead_23 zk_0 ?_
    exact aw_zret hX hr (by decide) dX11_isAhead_24 k
  · have k := k.2 c3
    refine aw_aload_n hX dX11_isAhead_10 rfl ?_
    refine aw_getr (o' := 0) hX kf_X11_13 sh_11 (by decide) rfl rfl dX11_isAhead_11 ?_
    refine aw_iconst hX dX11_isAhead_14 zk_0 ?_
    refine aw_iald' (k := 0) hX sh_36 (by decide) (zdi (by decide)) (by decide) dX11_isAhead_15 ?_
    refine aw_iload_n hX dX11_isAhead_16 rfl ?_
    refine aw_imul hX dX11_isAhead_17 ?_
    refine aw_bipush hX dX11_isAhead_18 zb_12 ?_
    refine aw_icmp_le (tgt := 25) hX dX11_isAhead_20 (by decide) (fun c4 => ?_) (fun c4 => ?_)
    · have k := k.1 c4
      refine aw_aload_n hX dX11_isAhead_25 rfl ?_
      refine aw_iconst hX dX11_isAhead_26 zk_1 ?_
      refine aw_aload_n hX dX11_isAhead_27 rfl ?_
      refine aw_getr (o' := 0) hX kf_X11_13 sh_11 (by decide) rfl rfl dX11_isAhead_28 ?_
      refine aw_iconst hX dX11_isAhead_31 zk_0 ?_
      refine aw_iald' (k := 0) hX sh_36 (by decide) (zdi (by decide)) (by decide) dX11_isAhead_32 ?_
      refine aw_iload_n hX dX11_isAhead_33 rfl ?_
      refine aw_imul hX dX11_isAhead_34 ?_
      refine aw_ishl hX dX11_isAhead_35 ?_
      refine aw_puti hX kp_X11_377 sh_11 (by decide) rfl rfl rfl dX11_isAhead_36 ?_
      refine aw_mem (fun μ5 eμ5 => ?_)
      have k := k μ5 eμ5
      refine aw_iconst hX dX11_isAhead_39 zk_1 ?_
      exact aw_zret hX hr (by decide) dX11_isAhead_40 k
    · have k := k.2 c4
      refine aw_iconst hX dX11_isAhead_23 zk_0 ?_
      exact aw_zret hX hr (by decide) dX11_isAhead_24 k

set_option maxRecDepth 100000 in
set_option maxHeartbeats 4000000 in
theorem st_X11_passes_0 {X : zX} {lv : Nat} {Post : Option Value → zM → Prop} (hX : zOk X cX11_passes RX11 10 lv) (hr : zRt X (some .long) Post)  {x1 : Int32} {x2 : Int32} {μ : zM}
    (k : AW X 8 [some (.ref (X.G.ad 11 0)), none, some (.int x2), some (.long (1 : Int64)), none, some (.int x1), some (.int (0 : Int32)), none, none, none] [] μ) :
    AW X 0 [some (.ref (X.G.ad 11 0)), some (.int x1), some (.int x2), none, none, none, none, none, none, none] [] μ := by
  refine aw_lconst (v := (1 : Int64)) hX dX11_passes_0 (by decide) ?_
  refine aw_lstore_n (L' := [some (.ref (X.G.ad 11 0)), some (.int x1), some (.int x2), some (.long (1 : Int64)), none, none, none, none, none, none]) hX dX11_passes_1 (Nat.le_of_ble_eq_true rfl) rfl ?_
  refine aw_iload_n hX dX11_passes_2 rfl ?_
  refine aw_istore (L' := [some (.ref (X.G.ad 11 0)), some (.int x1), some (.int x2), some (.long (1 : Int64)), none, some (.int x1), none, none, none, none]) hX dX11_passes_3 (Nat.le_of_ble_eq_true rfl) rfl ?_
  refine aw_iconst hX dX11_passes_5 zk_0 ?_
  refine aw_istore (L' := [some (.ref (X.G.ad 11 0)), some (.int x1), some (.int x2), some (.long (1 : Int64)), none, some (.int x1), some (.int (0 : Int32)), none, none, none]) hX dX11_passes_6 (Nat.le_of_ble_eq_true rfl) rfl ?_
  exact aw_less (zle_s (zle_o (zle_s (zle_s (zle_o (zle_s (zle_s (zle_o (zle_o (zle_o zle_n)))))))))) k

set_option maxRecDepth 100000 in
set_option maxHeartbeats 4000000 in
theorem st_X11_passes_8 {X : zX} {lv : Nat} {Post : Option Value → zM → Prop} (hX : zOk X cX11_passes RX11 10 lv) (hr : zRt X (some .long) Post)  {x2 : Int32} {x3 : Int64} {x5 : Int32} {x6 : Int32} {μ : zM}
    (k : (x2 ≤ x6 → (Post (some (.long x3)) μ)) ∧ (¬ x2 ≤ x6 → ((¬ ((1 : Int32) <<< ((μ.1 36 0 0) &&& 31)) = 0) ∧ (∀ v3 : Int32, v3 = (x5 - x5 / ((1 : Int32) <<< ((μ.1 36 0 0) &&& 31)) * ((1 : Int32) <<< ((μ.1 36 0 0) &&& 31))) → (∀ v4 : Int32, v4 = (x5 / ((1 : Int32) <<< ((μ.1 36 0 0) &&& 31))) → (AW X 43 [some (.ref (X.G.ad 11 0)), none, some (.int x2), some (.long x3), none, some (.int v4), some (.int x6), some (.int v3), some (.int (0 : Int32)), none] [] μ)))))) :
    AW X 8 [some (.ref (X.G.ad 11 0)), none, some (.int x2), some (.long x3), none, some (.int x5), some (.int x6), none, none, none] [] μ := by
  refine aw_iload hX dX11_passes_8 rfl ?_
  refine aw_iload_n hX dX11_passes_10 rfl ?_
  refine aw_icmp_ge (tgt := 133) hX dX11_passes_11 (by decide) (fun c1 => ?_) (fun c1 => ?_)
  · have k := k.1 c1
    refine aw_lload_n hX dX11_passes_133 rfl ?_
    exact aw_lret hX hr dX11_passes_134 k
  · have k := k.2 c1
    refine aw_iload hX dX11_passes_14 rfl ?_
    refine aw_iconst hX dX11_passes_16 zk_1 ?_
    refine aw_aload_n hX dX11_passes_17 rfl ?_
    refine aw_getr (o' := 0) hX kf_X11_13 sh_11 (by decide) rfl rfl dX11_passes_18 ?_
    refine aw_iconst hX dX11_passes_21 zk_0 ?_
    refine aw_iald' (k := 0) hX sh_36 (by decide) (zdi (by decide)) (by decide) dX11_passes_22 ?_
    refine aw_ishl hX dX11_passes_23 ?_
    have s2 := k.1
    have k := k.2
    refine aw_irem hX dX11_passes_24 s2 ?_
    refine aw_topi (fun v3 ev3 => ?_)
    have k := k v3 ev3
    refine aw_istore (L' := [some (.ref (X.G.ad 11 0)), none, some (.int x2), some (.long x3), none, some (.int x5), some (.int x6), some (.int v3), none, none]) hX dX11_passes_25 (Nat.le_of_ble_eq_true rfl) rfl ?_
    refine aw_iload hX dX11_passes_27 rfl ?_
    refine aw_iconst hX dX11_passes_29 zk_1 ?_
    refine aw_aload_n hX dX11_passes_30 rfl ?_
    refine aw_getr (o' := 0) hX kf_X11_13 sh_11 (by decide) rfl rfl dX11_passes_31 ?_
    refine aw_iconst hX dX11_passes_34 zk_0 ?_
    refine aw_iald' (k := 0) hX sh_36 (by decide) (zdi (by decide)) (by decide) dX11_passes_35 ?_
    refine aw_ishl hX dX11_passes_36 ?_
    refine aw_idiv hX dX11_passes_37 s2 ?_
    refine aw_topi (fun v4 ev4 => ?_)
    have k := k v4 ev4
    refine aw_istore (L' := [some (.ref (X.G.ad 11 0)), none, some (.int x2), some (.long x3), none, some (.int v4), some (.int x6), some (.int v3), none, none]) hX dX11_passes_38 (Nat.le_of_ble_eq_true rfl) rfl ?_
    refine aw_iconst hX dX11_passes_40 zk_0 ?_
    refine aw_istore (L' := [some (.ref (X.G.ad 11 0)), none, some (.int x2), some (.long x3), none, some (.int v4), some (.int x6), some (.int v3), some (.int (0 : Int32)), none]) hX dX11_passes_41 (Nat.le_of_ble_eq_true rfl) rfl ?_
    exact k

set_option maxRecDepth 100000 in
set_option maxHeartbeats 4000000 in
theorem st_X11_passes_43 {X : zX} {lv : Nat} {Post : Option Value → zM → Prop} (hX : zOk X cX11_passes RX11 10 lv) (hr : zRt X (some .long) Post)  {x2 : Int32} {x3 : Int64} {x5 : Int32} {x6 : Int32} {x7 : Int32} {x8 : Int32} {μ : zM}
    (k : ((μ.1 36 0 0) ≤ x8 → (zCallV X lv yX11_goes cX11_goes 4 none [.ref (X.G.ad 11 0), .int x7] μ (fun μ3 => ∀ v4 : Int32, v4 = x6 + (1 : Int32) → (AW X 8 [some (.ref (X.G.ad 11 0)), none, some (.int x2), some (.long x3), none, some (.int x5), some (.int v4), none, none, none] [] μ3)))) ∧ (¬ (μ.1 36 0 0) ≤ x8 → ((¬ (((μ.1 70 0 56) >>> (x8 &&& 31)) &&& (1 : Int32)) = (1 : Int32) → ((vp_in x8 24) ∧ (∀ v7 : Int32, v7 = (μ.1 42 0 (ix x8)) → ((¬ ((x7 >>> (x8 &&& 31)) &&& (1 : Int32)) = (1 : Int32) → (∀ v9 : Int64, v9 = (x3 * (Int32.toInt64 ((8 : Int32) - v7))) → (∀ v10 : Int32, v10 = x8 + (1 : Int32) → (AW X 43 [some (.ref (X.G.ad 11 0)), none, some (.int x2), some (.long v9), none, some (.int x5), some (.int x6), some (.int x7), some (.int v10), none] [] μ)))) ∧ (((x7 >>> (x8 &&& 31)) &&& (1 : Int32)) = (1 : Int32) → (∀ v11 : Int64, v11 = (x3 * (Int32.toInt64 v7)) → (∀ v12 : Int32, v12 = x8 + (1 : Int32) → (AW X 43 [some (.ref (X.G.ad 11 0)), none, some (.int x2), some (.long v11), none, some (.int x5), some (.int x6), some (.int x7), some (.int v12), none] [] μ)))))))) ∧ ((((μ.1 70 0 56) >>> (x8 &&& 31)) &&& (1 : Int32)) = (1 : Int32) → ((vp_in x8 24) ∧ (∀ v14 : Int32, v14 = (μ.1 43 0 (ix x8)) → ((¬ ((x7 >>> (x8 &&& 31)) &&& (1 : Int32)) = (1 : Int32) → (∀ v16 : Int64, v16 = (x3 * (Int32.toInt64 ((8 : Int32) - v14))) → (∀ v17 : Int32, v17 = x8 + (1 : Int32) → (AW X 43 [some (.ref (X.G.ad 11 0)), none, some (.int x2), some (.long v16), none, some (.int x5), some (.int x6), some (.int x7), some (.int v17), none] [] μ)))) ∧ (((x7 >>> (x8 &&& 31)) &&& (1 : Int32)) = (1 : Int32) → (∀ v18 : Int64, v18 = (x3 * (Int32.toInt64 v14)) → (∀ v19 : Int32, v19 = x8 + (1 : Int32) → (AW X 43 [some (.ref (X.G.ad 11 0)), none, some (.int x2), some (.long v18), none, some (.int x5), some (.int x6), some (.int x7), some (.int v19), none] [] μ))))))))))) :
    AW X 43 [some (.ref (X.G.ad 11 0)), none, some (.int x2), some (.long x3), none, some (.int x5), some (.int x6), some (.int x7), some (.int x8), none] [] μ := by
  refine aw_iload hX dX11_passes_43 rfl ?_
  refine aw_aload_n hX dX11_passes_45 rfl ?_
  refine aw_getr (o' := 0) hX kf_X11_13 sh_11 (by decide) rfl rfl dX11_passes_46 ?_
  refine aw_iconst hX dX11_passes_49 zk_0 ?_
  refine aw_iald' (k := 0) hX sh_36 (by decide) (zdi (by decide)) (by decide) dX11_passes_50 ?_
  refine aw_icmp_ge (tgt := 121) hX dX11_passes_51 (by decide) (fun c1 => ?_) (fun c1 => ?_)
  · have k := k.1 c1
    refine aw_aload_n hX dX11_passes_121 rfl ?_
    refine aw_iload hX dX11_passes_122 rfl ?_
    refine aw_invV (As := [.int x7]) (rest := []) (κ := 11) (o := 0) (T := TX11) (N := 55) hX vc_X11_362 sh_11 (by decide) rfl rfl rfl (Nat.le_of_ble_eq_true rfl) dX11_passes_124 k (fun μ3 k => ?_)
    obtain ⟨v4, ev4⟩ : ∃ y : Int32, y = x6 + (1 : Int32) := ⟨_, rfl⟩
    have k := k v4 ev4
    refine aw_iinc (v := v4) (L' := [some (.ref (X.G.ad 11 0)), none, some (.int x2), some (.long x3), none, some (.int x5), some (.int v4), some (.int x7), some (.int x8), none]) hX dX11_passes_127 rfl (by rw [ev4]; rfl) (Nat.le_of_ble_eq_true rfl) rfl ?_
    refine aw_goto (tgt := 8) hX dX11_passes_130 (by decide) ?_
    exact aw_less (zle_s (zle_o (zle_s (zle_s (zle_o (zle_s (zle_s (zle_o (zle_o (zle_o zle_n)))))))))) k
  · have k := k.2 c1
    refine aw_aload_n hX dX11_passes_54 rfl ?_
    refine aw_getr (o' := 0) hX kf_X11_117 sh_11 (by decide) rfl rfl dX11_passes_55 ?_
    refine aw_bipush hX dX11_passes_58 zb_56 ?_
    refine aw_iald' (k := 56) hX sh_70 (by decide) (zdi (by decide)) (by decide) dX11_passes_60 ?_
    refine aw_iload hX dX11_passes_61 rfl ?_
    refine aw_ishr hX dX11_passes_63 ?_
    refine aw_iconst hX dX11_passes_64 zk_1 ?_
    refine aw_iand hX dX11_passes_65 ?_
    refine aw_iconst hX dX11_passes_66 zk_1 ?_
    refine aw_icmp_ne (tgt := 80) hX dX11_passes_67 (by decide) (fun c5 => ?_) (fun c5 => ?_)
    · have k := k.1 c5
      refine aw_aload_n hX dX11_passes_80 rfl ?_
      refine aw_getr (o' := 0) hX kf_X11_32 sh_11 (by decide) rfl rfl dX11_passes_81 ?_
      refine aw_iload hX dX11_passes_84 rfl ?_
      have s6 := k.1
      have k := k.2
      refine aw_iald' (k := (ix x8)) hX sh_42 (by decide) s6 rfl dX11_passes_86 ?_
      refine aw_topi (fun v7 ev7 => ?_)
      have k := k v7 ev7
      refine aw_istore (L' := [some (.ref (X.G.ad 11 0)), none, some (.int x2), some (.long x3), none, some (.int x5), some (.int x6), some (.int x7), some (.int x8), some (.int v7)]) hX dX11_passes_87 (Nat.le_of_ble_eq_true rfl) rfl ?_
      refine aw_lload_n hX dX11_passes_89 rfl ?_
      refine aw_iload hX dX11_passes_90 rfl ?_
      refine aw_iload hX dX11_passes_92 rfl ?_
      refine aw_ishr hX dX11_passes_94 ?_
      refine aw_iconst hX dX11_passes_95 zk_1 ?_
      refine aw_iand hX dX11_passes_96 ?_
      refine aw_iconst hX dX11_passes_97 zk_1 ?_
      refine aw_icmp_ne (tgt := 107) hX dX11_passes_98 (by decide) (fun c8 => ?_) (fun c8 => ?_)
      · have k := k.1 c8
        refine aw_bipush hX dX11_passes_107 zb_8 ?_
        refine aw_iload hX dX11_passes_109 rfl ?_
        refine aw_isub hX dX11_passes_111 ?_
        refine aw_i2l hX dX11_passes_112 ?_
        refine aw_lmul hX dX11_passes_113 ?_
        refine aw_topl (fun v9 ev9 => ?_)
        have k := k v9 ev9
        refine aw_lstore_n (L' := [some (.ref (X.G.ad 11 0)), none, some (.int x2), some (.long v9), none, some (.int x5), some (.int x6), some (.int x7), some (.int x8), some (.int v7)]) hX dX11_passes_114 (Nat.le_of_ble_eq_true rfl) rfl ?_
        obtain ⟨v10, ev10⟩ : ∃ y : Int32, y = x8 + (1 : Int32) := ⟨_, rfl⟩
        have k := k v10 ev10
        refine aw_iinc (v := v10) (L' := [some (.ref (X.G.ad 11 0)), none, some (.int x2), some (.long v9), none, some (.int x5), some (.int x6), some (.int x7), some (.int v10), some (.int v7)]) hX dX11_passes_115 rfl (by rw [ev10]; rfl) (Nat.le_of_ble_eq_true rfl) rfl ?_
        refine aw_goto (tgt := 43) hX dX11_passes_118 (by decide) ?_
        exact aw_less (zle_s (zle_o (zle_s (zle_s (zle_o (zle_s (zle_s (zle_s (zle_s (zle_o zle_n)))))))))) k
      · have k := k.2 c8
        refine aw_iload hX dX11_passes_101 rfl ?_
        refine aw_i2l hX dX11_passes_103 ?_
        refine aw_goto (tgt := 113) hX dX11_passes_104 (by decide) ?_
        refine aw_lmul hX dX11_passes_113 ?_
        refine aw_topl (fun v11 ev11 => ?_)
        have k := k v11 ev11
        refine aw_lstore_n (L' := [some (.ref (X.G.ad 11 0)), none, some (.int x2), some (.long v11), none, some (.int x5), some (.int x6), some (.int x7), some (.int x8), some (.int v7)]) hX dX11_passes_114 (Nat.le_of_ble_eq_true rfl) rfl ?_
        obtain ⟨v12, ev12⟩ : ∃ y : Int32, y = x8 + (1 : Int32) := ⟨_, rfl⟩
        have k := k v12 ev12
        refine aw_iinc (v := v12) (L' := [some (.ref (X.G.ad 11 0)), none, some (.int x2), some (.long v11), none, some (.int x5), some (.int x6), some (.int x7), some (.int v12), some (.int v7)]) hX dX11_passes_115 rfl (by rw [ev12]; rfl) (Nat.le_of_ble_eq_true rfl) rfl ?_
        refine aw_goto (tgt := 43) hX dX11_passes_118 (by decide) ?_
        exact aw_less (zle_s (zle_o (zle_s (zle_s (zle_o (zle_s (zle_s (zle_s (zle_s (zle_o zle_n)))))))))) k
    · have k := k.2 c5
      refine aw_aload_n hX dX11_passes_70 rfl ?_
      refine aw_getr (o' := 0) hX kf_X11_35 sh_11 (by decide) rfl rfl dX11_passes_71 ?_
      refine aw_iload hX dX11_passes_74 rfl ?_
      have s13 := k.1
      have k := k.2
      refine aw_iald' (k := (ix x8)) hX sh_43 (by decide) s13 rfl dX11_passes_76 ?_
      refine aw_goto (tgt := 87) hX dX11_passes_77 (by decide) ?_
      refine aw_topi (fun v14 ev14 => ?_)
      have k := k v14 ev14
      refine aw_istore (L' := [some (.ref (X.G.ad 11 0)), none, some (.int x2), some (.long x3), none, some (.int x5), some (.int x6), some (.int x7), some (.int x8), some (.int v14)]) hX dX11_passes_87 (Nat.le_of_ble_eq_true rfl) rfl ?_
      refine aw_lload_n hX dX11_passes_89 rfl ?_
      refine aw_iload hX dX11_passes_90 rfl ?_
      refine aw_iload hX dX11_passes_92 rfl ?_
      refine aw_ishr hX dX11_passes_94 ?_
      refine aw_iconst hX dX11_passes_95 zk_1 ?_
      refine aw_iand hX dX11_passes_96 ?_
      refine aw_iconst hX dX11_passes_97 zk_1 ?_
      refine aw_icmp_ne (tgt := 107) hX dX11_passes_98 (by decide) (fun c15 => ?_) (fun c15 => ?_)
      · have k := k.1 c15
        refine aw_bipush hX dX11_passes_107 zb_8 ?_
        refine aw_iload hX dX11_passes_109 rfl ?_
        refine aw_isub hX dX11_passes_111 ?_
        refine aw_i2l hX dX11_passes_112 ?_
        refine aw_lmul hX dX11_passes_113 ?_
        refine aw_topl (fun v16 ev16 => ?_)
        have k := k v16 ev16
        refine aw_lstore_n (L' := [some (.ref (X.G.ad 11 0)), none, some (.int x2), some (.long v16), none, some (.int x5), some (.int x6), some (.int x7), some (.int x8), some (.int v14)]) hX dX11_passes_114 (Nat.le_of_ble_eq_true rfl) rfl ?_
        obtain ⟨v17, ev17⟩ : ∃ y : Int32, y = x8 + (1 : Int32) := ⟨_, rfl⟩
        have k := k v17 ev17
        refine aw_iinc (v := v17) (L' := [some (.ref (X.G.ad 11 0)), none, some (.int x2), some (.long v16), none, some (.int x5), some (.int x6), some (.int x7), some (.int v17), some (.int v14)]) hX dX11_passes_115 rfl (by rw [ev17]; rfl) (Nat.le_of_ble_eq_true rfl) rfl ?_
        refine aw_goto (tgt := 43) hX dX11_passes_118 (by decide) ?_
        exact aw_less (zle_s (zle_o (zle_s (zle_s (zle_o (zle_s (zle_s (zle_s (zle_s (zle_o zle_n)))))))))) k
      · have k := k.2 c15
        refine aw_iload hX dX11_passes_101 rfl ?_
        refine aw_i2l hX dX11_passes_103 ?_
        refine aw_goto (tgt := 113) hX dX11_passes_104 (by decide) ?_
        refine aw_lmul hX dX11_passes_113 ?_
        refine aw_topl (fun v18 ev18 => ?_)
        have k := k v18 ev18
        refine aw_lstore_n (L' := [some (.ref (X.G.ad 11 0)), none, some (.int x2), some (.long v18), none, some (.int x5), some (.int x6), some (.int x7), some (.int x8), some (.int v14)]) hX dX11_passes_114 (Nat.le_of_ble_eq_true rfl) rfl ?_
        obtain ⟨v19, ev19⟩ : ∃ y : Int32, y = x8 + (1 : Int32) := ⟨_, rfl⟩
        have k := k v19 ev19
        refine aw_iinc (v := v19) (L' := [some (.ref (X.G.ad 11 0)), none, some (.int x2), some (.long v18), none, some (.int x5), some (.int x6), some (.int x7), some (.int v19), some (.int v14)]) hX dX11_passes_115 rfl (by rw [ev19]; rfl) (Nat.le_of_ble_eq_true rfl) rfl ?_
        refine aw_goto (tgt := 43) hX dX11_passes_118 (by decide) ?_
        exact aw_less (zle_s (zle_o (zle_s (zle_s (zle_o (zle_s (zle_s (zle_s (zle_s (zle_o zle_n)))))))))) k

set_option maxRecDepth 100000 in
set_option maxHeartbeats 4000000 in
theorem st_X11_allOdds_0 {X : zX} {lv : Nat} {Post : Option Value → zM → Prop} (hX : zOk X cX11_allOdds RX11 5 lv) (hr : zRt X (some .long) Post)  {x1 : Int32} {μ : zM}
    (k : AW X 5 [some (.ref (X.G.ad 11 0)), some (.int x1), some (.long (1 : Int64)), none, some (.int (0 : Int32))] [] μ) :
    AW X 0 [some (.ref (X.G.ad 11 0)), some (.int x1), none, none, none] [] μ := by
  refine aw_lconst (v := (1 : Int64)) hX dX11_allOdds_0 (by decide) ?_
  refine aw_lstore_n (L' := [some (.ref (X.G.ad 11 0)), some (.int x1), some (.long (1 : Int64)), none, none]) hX dX11_allOdds_1 (Nat.le_of_ble_eq_true rfl) rfl ?_
  refine aw_iconst hX dX11_allOdds_2 zk_0 ?_
  refine aw_istore (L' := [some (.ref (X.G.ad 11 0)), some (.int x1), some (.long (1 : Int64)), none, some (.int (0 : Int32))]) hX dX11_allOdds_3 (Nat.le_of_ble_eq_true rfl) rfl ?_
  exact k

set_option maxRecDepth 100000 in
set_option maxHeartbeats 4000000 in
theorem st_X11_allOdds_5 {X : zX} {lv : Nat} {Post : Option Value → zM → Prop} (hX : zOk X cX11_allOdds RX11 5 lv) (hr : zRt X (some .long) Post)  {x1 : Int32} {x2 : Int64} {x4 : Int32} {μ : zM}
    (k : (((μ.1 36 0 0) * x1) ≤ x4 → (Post (some (.long x2)) μ)) ∧ (¬ ((μ.1 36 0 0) * x1) ≤ x4 → (∀ v2 : Int64, v2 = (x2 * (8 : Int64)) → (∀ v3 : Int32, v3 = x4 + (1 : Int32) → (AW X 5 [some (.ref (X.G.ad 11 0)), some (.int x1), some (.long v2), none, some (.int v3)] [] μ))))) :
    AW X 5 [some (.ref (X.G.ad 11 0)), some (.int x1), some (.long x2), none, some (.int x4)] [] μ := by
  refine aw_iload hX dX11_allOdds_5 rfl ?_
  refine aw_aload_n hX dX11_allOdds_7 rfl ?_
  refine aw_getr (o' := 0) hX kf_X11_13 sh_11 (by decide) rfl rfl dX11_allOdds_8 ?_
  refine aw_iconst hX dX11_allOdds_11 zk_0 ?_
  refine aw_iald' (k := 0) hX sh_36 (by decide) (zdi (by decide)) (by decide) dX11_allOdds_12 ?_
  refine aw_iload_n hX dX11_allOdds_13 rfl ?_
  refine aw_imul hX dX11_allOdds_14 ?_
  refine aw_icmp_ge (tgt := 30) hX dX11_allOdds_15 (by decide) (fun c1 => ?_) (fun c1 => ?_)
  · have k := k.1 c1
    refine aw_lload_n hX dX11_allOdds_30 rfl ?_
    exact aw_lret hX hr dX11_allOdds_31 k
  · have k := k.2 c1
    refine aw_lload_n hX dX11_allOdds_18 rfl ?_
    refine aw_ldc2 hX kl_X11_380 dX11_allOdds_19 ?_
    refine aw_lmul hX dX11_allOdds_22 ?_
    refine aw_topl (fun v2 ev2 => ?_)
    have k := k v2 ev2
    refine aw_lstore_n (L' := [some (.ref (X.G.ad 11 0)), some (.int x1), some (.long v2), none, some (.int x4)]) hX dX11_allOdds_23 (Nat.le_of_ble_eq_true rfl) rfl ?_
    obtain ⟨v3, ev3⟩ : ∃ y : Int32, y = x4 + (1 : Int32) := ⟨_, rfl⟩
    have k := k v3 ev3
    refine aw_iinc (v := v3) (L' := [some (.ref (X.G.ad 11 0)), some (.int x1), some (.long v2), none, some (.int v3)]) hX dX11_allOdds_24 rfl (by rw [ev3]; rfl) (Nat.le_of_ble_eq_true rfl) rfl ?_
    refine aw_goto (tgt := 5) hX dX11_allOdds_27 (by decide) ?_
    exact k

set_option maxRecDepth 100000 in
set_option maxHeartbeats 4000000 in
theorem st_X11_lowest_0 {X : zX} {lv : Nat} {Post : Option Value → zM → Prop} (hX : zOk X cX11_lowest RX11 5 lv) (hr : zRt X (some .long) Post)  {x0 : Int64} {x2 : Int64} {x4 : Int32} {μ : zM}
    (k : (¬ x4 = 0 → (zCallJ X lv yX11_gcd cX11_gcd 10 (some .long) [.long x0, .long x2] μ (fun (r2 : Int64) μ3 => (¬ r2 = 0) ∧ (Post (some (.long (x2 / r2))) μ3)))) ∧ (x4 = 0 → (zCallJ X lv yX11_gcd cX11_gcd 10 (some .long) [.long x0, .long x2] μ (fun (r5 : Int64) μ6 => (¬ r5 = 0) ∧ (Post (some (.long (x0 / r5))) μ6))))) :
    AW X 0 [some (.long x0), none, some (.long x2), none, some (.int x4)] [] μ := by
  refine aw_iload hX dX11_lowest_0 rfl ?_
  refine aw_if_ne (tgt := 9) hX dX11_lowest_2 (by decide) (fun c1 => ?_) (fun c1 => ?_)
  · have k := k.1 c1
    refine aw_lload_n hX dX11_lowest_9 rfl ?_
    refine aw_lload_n hX dX11_lowest_10 rfl ?_
    refine aw_lload_n hX dX11_lowest_11 rfl ?_
    refine aw_ivsJ (As := [.long x0, .long x2]) (rest := [.long x2]) hX sc_X11_382 rfl rfl (Nat.le_of_ble_eq_true rfl) dX11_lowest_12 k (fun r2 μ3 k => ?_)
    have s4 := k.1
    have k := k.2
    refine aw_ldiv hX dX11_lowest_15 s4 ?_
    exact aw_lret hX hr dX11_lowest_16 k
  · have k := k.2 c1
    refine aw_lload_n hX dX11_lowest_5 rfl ?_
    refine aw_goto (tgt := 10) hX dX11_lowest_6 (by decide) ?_
    refine aw_lload_n hX dX11_lowest_10 rfl ?_
    refine aw_lload_n hX dX11_lowest_11 rfl ?_
    refine aw_ivsJ (As := [.long x0, .long x2]) (rest := [.long x0]) hX sc_X11_382 rfl rfl (Nat.le_of_ble_eq_true rfl) dX11_lowest_12 k (fun r5 μ6 k => ?_)
    have s7 := k.1
    have k := k.2
    refine aw_ldiv hX dX11_lowest_15 s7 ?_
    exact aw_lret hX hr dX11_lowest_16 k

set_option maxRecDepth 100000 in
set_option maxHeartbeats 4000000 in
theorem st_X11_worth_0 {X : zX} {lv : Nat} {Post : Option Value → zM → Prop} (hX : zOk X cX11_worth RX11 9 lv) (hr : zRt X (some .long) Post)  {x1 : Int32} {x2 : Int32} {x3 : Int32} {μ : zM}
    (k : ∀ μ1 : zM, μ1 = pI μ 11 0 0 (0 : Int32) → (zCallI X lv yX11_isLoan cX11_isLoan 2 (some .boolean) [.ref (X.G.ad 11 0), .int x1] μ1 (fun (r2 : Int32) μ3 => (r2 = 0 → (Post (some (.long (-1 : Int64))) μ3)) ∧ (¬ r2 = 0 → (zCallI X lv yX11_within cX11_within 3 (some .boolean) [.int x3, .int (0 : Int32), .int (1 : Int32)] μ3 (fun (r5 : Int32) μ6 => (r5 = 0 → (Post (some (.long (-1 : Int64))) μ6)) ∧ (¬ r5 = 0 → (zCallI X lv yX11_isAhead cX11_isAhead 2 (some .boolean) [.ref (X.G.ad 11 0), .int x2] μ6 (fun (r8 : Int32) μ9 => (¬ r8 = 0 → (zCallV X lv yX11_copies cX11_copies 5 none [.ref (X.G.ad 70 0), .int (0 : Int32), .ref (X.G.ad 71 0), .int (0 : Int32)] μ9 (fun μ12 => AW X 53 [some (.ref (X.G.ad 11 0)), some (.int x1), some (.int x2), some (.int x3), some (.long (0 : Int64)), none, some (.int (0 : Int32)), none, none] [] μ12))) ∧ (r8 = 0 → (Post (some (.long (-1 : Int64))) μ9))))))))))) :
    AW X 0 [some (.ref (X.G.ad 11 0)), some (.int x1), some (.int x2), some (.int x3), none, none, none, none, none] [] μ := by
  refine aw_aload_n hX dX11_worth_0 rfl ?_
  refine aw_iconst hX dX11_worth_1 zk_0 ?_
  refine aw_puti hX kp_X11_132 sh_11 (by decide) rfl rfl rfl dX11_worth_2 ?_
  refine aw_mem (fun μ1 eμ1 => ?_)
  have k := k μ1 eμ1
  refine aw_aload_n hX dX11_worth_5 rfl ?_
  refine aw_iload_n hX dX11_worth_6 rfl ?_
  refine aw_invI (As := [.int x1]) (rest := []) (κ := 11) (o := 0) (T := TX11) (N := 55) hX vc_X11_328 sh_11 (by decide) rfl rfl rfl (Nat.le_of_ble_eq_true rfl) dX11_worth_7 k (fun r2 μ3 k => ?_)
  refine aw_if_eq (tgt := 30) hX dX11_worth_10 (by decide) (fun c4 => ?_) (fun c4 => ?_)
  · have k := k.1 c4
    refine aw_ldc2 hX kl_X11_389 dX11_worth_30 ?_
    exact aw_lret hX hr dX11_worth_33 k
  · have k := k.2 c4
    refine aw_iload_n hX dX11_worth_13 rfl ?_
    refine aw_iconst hX dX11_worth_14 zk_0 ?_
    refine aw_iconst hX dX11_worth_15 zk_1 ?_
    refine aw_ivsI (As := [.int x3, .int (0 : Int32), .int (1 : Int32)]) (rest := []) hX sc_X11_257 rfl rfl (Nat.le_of_ble_eq_true rfl) dX11_worth_16 k (fun r5 μ6 k => ?_)
    refine aw_if_eq (tgt := 30) hX dX11_worth_19 (by decide) (fun c7 => ?_) (fun c7 => ?_)
    · have k := k.1 c7
      refine aw_ldc2 hX kl_X11_389 dX11_worth_30 ?_
      exact aw_lret hX hr dX11_worth_33 k
    · have k := k.2 c7
      refine aw_aload_n hX dX11_worth_22 rfl ?_
      refine aw_iload_n hX dX11_worth_23 rfl ?_
      refine aw_invI (As := [.int x2]) (rest := []) (κ := 11) (o := 0) (T := TX11) (N := 55) hX vc_X11_386 sh_11 (by decide) rfl rfl rfl (Nat.le_of_ble_eq_true rfl) dX11_worth_24 k (fun r8 μ9 k => ?_)
      refine aw_if_ne (tgt := 34) hX dX11_worth_27 (by decide) (fun c10 => ?_) (fun c10 => ?_)
      · have k := k.1 c10
        refine aw_aload_n hX dX11_worth_34 rfl ?_
        refine aw_getr (o' := 0) hX kf_X11_117 sh_11 (by decide) rfl rfl dX11_worth_35 ?_
        refine aw_iconst hX dX11_worth_38 zk_0 ?_
        refine aw_aload_n hX dX11_worth_39 rfl ?_
        refine aw_getr (o' := 0) hX kf_X11_120 sh_11 (by decide) rfl rfl dX11_worth_40 ?_
        refine aw_iconst hX dX11_worth_43 zk_0 ?_
        refine aw_ivsV (As := [.ref (X.G.ad 70 0), .int (0 : Int32), .ref (X.G.ad 71 0), .int (0 : Int32)]) (rest := []) hX sc_X11_352 rfl rfl (Nat.le_of_ble_eq_true rfl) dX11_worth_44 k (fun μ12 k => ?_)
        refine aw_lconst (v := (0 : Int64)) hX dX11_worth_47 (by decide) ?_
        refine aw_lstore (L' := [some (.ref (X.G.ad 11 0)), some (.int x1), some (.int x2), some (.int x3), some (.long (0 : Int64)), none, none, none, none]) hX dX11_worth_48 (Nat.le_of_ble_eq_true rfl) rfl ?_
        refine aw_iconst hX dX11_worth_50 zk_0 ?_
        refine aw_istore (L' := [some (.ref (X.G.ad 11 0)), some (.int x1), some (.int x2), some (.int x3), some (.long (0 : Int64)), none, some (.int (0 : Int32)), none, none]) hX dX11_worth_51 (Nat.le_of_ble_eq_true rfl) rfl ?_
        exact k
      · have k := k.2 c10
        refine aw_ldc2 hX kl_X11_389 dX11_worth_30 ?_
        exact aw_lret hX hr dX11_worth_33 k

set_option maxRecDepth 100000 in
set_option maxHeartbeats 4000000 in
theorem st_X11_worth_53 {X : zX} {lv : Nat} {Post : Option Value → zM → Prop} (hX : zOk X cX11_worth RX11 9 lv) (hr : zRt X (some .long) Post)  {x1 : Int32} {x2 : Int32} {x3 : Int32} {x4 : Int64} {x6 : Int32} {μ : zM}
    (k : ((μ.1 11 0 52) ≤ x6 → (zCallJ X lv yX11_allOdds cX11_allOdds 5 (some .long) [.ref (X.G.ad 11 0), .int x2] μ (fun (r2 : Int64) μ3 => zCallJ X lv yX11_lowest cX11_lowest 5 (some .long) [.long x4, .long r2, .int x3] μ3 (fun (r4 : Int64) μ5 => Post (some (.long r4)) μ5)))) ∧ (¬ (μ.1 11 0 52) ≤ x6 → (zCallJ X lv yX11_passes cX11_passes 10 (some .long) [.ref (X.G.ad 11 0), .int x6, .int x2] μ (fun (r6 : Int64) μ7 => (vp_in ((36 : Int32) + x1) 64) ∧ (∀ v9 : Int64, v9 = (x4 + (r6 * (Int32.toInt64 ((μ7.1 70 0 (ix ((36 : Int32) + x1))) - (μ7.1 71 0 (ix ((36 : Int32) + x1))))))) → (zCallV X lv yX11_copies cX11_copies 5 none [.ref (X.G.ad 71 0), .int (0 : Int32), .ref (X.G.ad 70 0), .int (0 : Int32)] μ7 (fun μ11 => ∀ v12 : Int32, v12 = x6 + (1 : Int32) → (AW X 53 [some (.ref (X.G.ad 11 0)), some (.int x1), some (.int x2), some (.int x3), some (.long v9), none, some (.int v12), none, none] [] μ11)))))))) :
    AW X 53 [some (.ref (X.G.ad 11 0)), some (.int x1), some (.int x2), some (.int x3), some (.long x4), none, some (.int x6), none, none] [] μ := by
  refine aw_iload hX dX11_worth_53 rfl ?_
  refine aw_aload_n hX dX11_worth_55 rfl ?_
  refine aw_geti hX kf_X11_377 sh_11 (by decide) rfl dX11_worth_56 ?_
  refine aw_icmp_ge (tgt := 118) hX dX11_worth_59 (by decide) (fun c1 => ?_) (fun c1 => ?_)
  · have k := k.1 c1
    refine aw_lload hX dX11_worth_118 rfl ?_
    refine aw_aload_n hX dX11_worth_120 rfl ?_
    refine aw_iload_n hX dX11_worth_121 rfl ?_
    refine aw_invJ (As := [.int x2]) (rest := [.long x4]) (κ := 11) (o := 0) (T := TX11) (N := 55) hX vc_X11_395 sh_11 (by decide) rfl rfl rfl (Nat.le_of_ble_eq_true rfl) dX11_worth_122 k (fun r2 μ3 k => ?_)
    refine aw_iload_n hX dX11_worth_125 rfl ?_
    refine aw_ivsJ (As := [.long x4, .long r2, .int x3]) (rest := []) hX sc_X11_399 rfl rfl (Nat.le_of_ble_eq_true rfl) dX11_worth_126 k (fun r4 μ5 k => ?_)
    exact aw_lret hX hr dX11_worth_129 k
  · have k := k.2 c1
    refine aw_aload_n hX dX11_worth_62 rfl ?_
    refine aw_iload hX dX11_worth_63 rfl ?_
    refine aw_iload_n hX dX11_worth_65 rfl ?_
    refine aw_invJ (As := [.int x6, .int x2]) (rest := []) (κ := 11) (o := 0) (T := TX11) (N := 55) hX vc_X11_391 sh_11 (by decide) rfl rfl rfl (Nat.le_of_ble_eq_true rfl) dX11_worth_66 k (fun r6 μ7 k => ?_)
    refine aw_lstore (L' := [some (.ref (X.G.ad 11 0)), some (.int x1), some (.int x2), some (.int x3), some (.long x4), none, some (.int x6), some (.long r6), none]) hX dX11_worth_69 (Nat.le_of_ble_eq_true rfl) rfl ?_
    refine aw_lload hX dX11_worth_71 rfl ?_
    refine aw_lload hX dX11_worth_73 rfl ?_
    refine aw_aload_n hX dX11_worth_75 rfl ?_
    refine aw_getr (o' := 0) hX kf_X11_117 sh_11 (by decide) rfl rfl dX11_worth_76 ?_
    refine aw_bipush hX dX11_worth_79 zb_36 ?_
    refine aw_iload_n hX dX11_worth_81 rfl ?_
    refine aw_iadd hX dX11_worth_82 ?_
    have s8 := k.1
    have k := k.2
    refine aw_iald' (k := (ix ((36 : Int32) + x1))) hX sh_70 (by decide) s8 rfl dX11_worth_83 ?_
    refine aw_aload_n hX dX11_worth_84 rfl ?_
    refine aw_getr (o' := 0) hX kf_X11_120 sh_11 (by decide) rfl rfl dX11_worth_85 ?_
    refine aw_bipush hX dX11_worth_88 zb_36 ?_
    refine aw_iload_n hX dX11_worth_90 rfl ?_
    refine aw_iadd hX dX11_worth_91 ?_
    refine aw_iald' (k := (ix ((36 : Int32) + x1))) hX sh_71 (by decide) s8 rfl dX11_worth_92 ?_
    refine aw_isub hX dX11_worth_93 ?_
    refine aw_i2l hX dX11_worth_94 ?_
    refine aw_lmul hX dX11_worth_95 ?_
    refine aw_ladd hX dX11_worth_96 ?_
    refine aw_topl (fun v9 ev9 => ?_)
    have k := k v9 ev9
    refine aw_lstore (L' := [some (.ref (X.G.ad 11 0)), some (.int x1), some (.int x2), some (.int x3), some (.long v9), none, some (.int x6), some (.long r6), none]) hX dX11_worth_97 (Nat.le_of_ble_eq_true rfl) rfl ?_
    refine aw_aload_n hX dX11_worth_99 rfl ?_
    refine aw_getr (o' := 0) hX kf_X11_120 sh_11 (by decide) rfl rfl dX11_worth_100 ?_
    refine aw_iconst hX dX11_worth_103 zk_0 ?_
    refine aw_aload_n hX dX11_worth_104 rfl ?_
    refine aw_getr (o' := 0) hX kf_X11_117 sh_11 (by decide) rfl rfl dX11_worth_105 ?_
    refine aw_iconst hX dX11_worth_108 zk_0 ?_
    refine aw_ivsV (As := [.ref (X.G.ad 71 0), .int (0 : Int32), .ref (X.G.ad 70 0), .int (0 : Int32)]) (rest := []) hX sc_X11_352 rfl rfl (Nat.le_of_ble_eq_true rfl) dX11_worth_109 k (fun μ11 k => ?_)
    obtain ⟨v12, ev12⟩ : ∃ y : Int32, y = x6 + (1 : Int32) := ⟨_, rfl⟩
    have k := k v12 ev12
    refine aw_iinc (v := v12) (L' := [some (.ref (X.G.ad 11 0)), some (.int x1), some (.int x2), some (.int x3), some (.long v9), none, some (.int v12), some (.long r6), none]) hX dX11_worth_112 rfl (by rw [ev12]; rfl) (Nat.le_of_ble_eq_true rfl) rfl ?_
    refine aw_goto (tgt := 53) hX dX11_worth_115 (by decide) ?_
    exact aw_less (zle_s (zle_s (zle_s (zle_s (zle_s (zle_o (zle_s (zle_o (zle_o zle_n))))))))) k

set_option maxRecDepth 100000 in
set_option maxHeartbeats 4000000 in
theorem st_X11_chance_0 {X : zX} {lv : Nat} {Post : Option Value → zM → Prop} (hX : zOk X cX11_chance RX11 9 lv) (hr : zRt X (some .long) Post)  {x1 : Int32} {x2 : Int32} {x3 : Int32} {μ : zM}
    (k : ∀ μ1 : zM, μ1 = pI μ 11 0 0 (0 : Int32) → (zCallI X lv yX11_isLoan cX11_isLoan 2 (some .boolean) [.ref (X.G.ad 11 0), .int x1] μ1 (fun (r2 : Int32) μ3 => (r2 = 0 → (Post (some (.long (-1 : Int64))) μ3)) ∧ (¬ r2 = 0 → (zCallI X lv yX11_within cX11_within 3 (some .boolean) [.int x3, .int (0 : Int32), .int (1 : Int32)] μ3 (fun (r5 : Int32) μ6 => (r5 = 0 → (Post (some (.long (-1 : Int64))) μ6)) ∧ (¬ r5 = 0 → (zCallI X lv yX11_isAhead cX11_isAhead 2 (some .boolean) [.ref (X.G.ad 11 0), .int x2] μ6 (fun (r8 : Int32) μ9 => (¬ r8 = 0 → (zCallV X lv yX11_copies cX11_copies 5 none [.ref (X.G.ad 70 0), .int (0 : Int32), .ref (X.G.ad 71 0), .int (0 : Int32)] μ9 (fun μ12 => AW X 53 [some (.ref (X.G.ad 11 0)), some (.int x1), some (.int x2), some (.int x3), some (.long (0 : Int64)), none, some (.int (0 : Int32)), none, none] [] μ12))) ∧ (r8 = 0 → (Post (some (.long (-1 : Int64))) μ9))))))))))) :
    AW X 0 [some (.ref (X.G.ad 11 0)), some (.int x1), some (.int x2), some (.int x3), none, none, none, none, none] [] μ := by
  refine aw_aload_n hX dX11_chance_0 rfl ?_
  refine aw_iconst hX dX11_chance_1 zk_0 ?_
  refine aw_puti hX kp_X11_132 sh_11 (by decide) rfl rfl rfl dX11_chance_2 ?_
  refine aw_mem (fun μ1 eμ1 => ?_)
  have k := k μ1 eμ1
  refine aw_aload_n hX dX11_chance_5 rfl ?_
  refine aw_iload_n hX dX11_chance_6 rfl ?_
  refine aw_invI (As := [.int x1]) (rest := []) (κ := 11) (o := 0) (T := TX11) (N := 55) hX vc_X11_328 sh_11 (by decide) rfl rfl rfl (Nat.le_of_ble_eq_true rfl) dX11_chance_7 k (fun r2 μ3 k => ?_)
  refine aw_if_eq (tgt := 30) hX dX11_chance_10 (by decide) (fun c4 => ?_) (fun c4 => ?_)
  · have k := k.1 c4
    refine aw_ldc2 hX kl_X11_389 dX11_chance_30 ?_
    exact aw_lret hX hr dX11_chance_33 k
  · have k := k.2 c4
    refine aw_iload_n hX dX11_chance_13 rfl ?_
    refine aw_iconst hX dX11_chance_14 zk_0 ?_
    refine aw_iconst hX dX11_chance_15 zk_1 ?_
    refine aw_ivsI (As := [.int x3, .int (0 : Int32), .int (1 : Int32)]) (rest := []) hX sc_X11_257 rfl rfl (Nat.le_of_ble_eq_true rfl) dX11_chance_16 k (fun r5 μ6 k => ?_)
    refine aw_if_eq (tgt := 30) hX dX11_chance_19 (by decide) (fun c7 => ?_) (fun c7 => ?_)
    · have k := k.1 c7
      refine aw_ldc2 hX kl_X11_389 dX11_chance_30 ?_
      exact aw_lret hX hr dX11_chance_33 k
    · have k := k.2 c7
      refine aw_aload_n hX dX11_chance_22 rfl ?_
      refine aw_iload_n hX dX11_chance_23 rfl ?_
      refine aw_invI (As := [.int x2]) (rest := []) (κ := 11) (o := 0) (T := TX11) (N := 55) hX vc_X11_386 sh_11 (by decide) rfl rfl rfl (Nat.le_of_ble_eq_true rfl) dX11_chance_24 k (fun r8 μ9 k => ?_)
      refine aw_if_ne (tgt := 34) hX dX11_chance_27 (by decide) (fun c10 => ?_) (fun c10 => ?_)
      · have k := k.1 c10
        refine aw_aload_n hX dX11_chance_34 rfl ?_
        refine aw_getr (o' := 0) hX kf_X11_117 sh_11 (by decide) rfl rfl dX11_chance_35 ?_
        refine aw_iconst hX dX11_chance_38 zk_0 ?_
        refine aw_aload_n hX dX11_chance_39 rfl ?_
        refine aw_getr (o' := 0) hX kf_X11_120 sh_11 (by decide) rfl rfl dX11_chance_40 ?_
        refine aw_iconst hX dX11_chance_43 zk_0 ?_
        refine aw_ivsV (As := [.ref (X.G.ad 70 0), .int (0 : Int32), .ref (X.G.ad 71 0), .int (0 : Int32)]) (rest := []) hX sc_X11_352 rfl rfl (Nat.le_of_ble_eq_true rfl) dX11_chance_44 k (fun μ12 k => ?_)
        refine aw_lconst (v := (0 : Int64)) hX dX11_chance_47 (by decide) ?_
        refine aw_lstore (L' := [some (.ref (X.G.ad 11 0)), some (.int x1), some (.int x2), some (.int x3), some (.long (0 : Int64)), none, none, none, none]) hX dX11_chance_48 (Nat.le_of_ble_eq_true rfl) rfl ?_
        refine aw_iconst hX dX11_chance_50 zk_0 ?_
        refine aw_istore (L' := [some (.ref (X.G.ad 11 0)), some (.int x1), some (.int x2), some (.int x3), some (.long (0 : Int64)), none, some (.int (0 : Int32)), none, none]) hX dX11_chance_51 (Nat.le_of_ble_eq_true rfl) rfl ?_
        exact k
      · have k := k.2 c10
        refine aw_ldc2 hX kl_X11_389 dX11_chance_30 ?_
        exact aw_lret hX hr dX11_chance_33 k

set_option maxRecDepth 100000 in
set_option maxHeartbeats 4000000 in
theorem st_X11_chance_53 {X : zX} {lv : Nat} {Post : Option Value → zM → Prop} (hX : zOk X cX11_chance RX11 9 lv) (hr : zRt X (some .long) Post)  {x1 : Int32} {x2 : Int32} {x3 : Int32} {x4 : Int64} {x6 : Int32} {μ : zM}
    (k : ((μ.1 11 0 52) ≤ x6 → (zCallJ X lv yX11_allOdds cX11_allOdds 5 (some .long) [.ref (X.G.ad 11 0), .int x2] μ (fun (r2 : Int64) μ3 => zCallJ X lv yX11_lowest cX11_lowest 5 (some .long) [.long x4, .long r2, .int x3] μ3 (fun (r4 : Int64) μ5 => Post (some (.long r4)) μ5)))) ∧ (¬ (μ.1 11 0 52) ≤ x6 → (zCallJ X lv yX11_passes cX11_passes 10 (some .long) [.ref (X.G.ad 11 0), .int x6, .int x2] μ (fun (r6 : Int64) μ7 => (vp_in ((16 : Int32) + x1) 64) ∧ (((μ7.1 70 0 (ix ((16 : Int32) + x1))) ≤ 0 → (∀ v10 : Int64, v10 = (x4 + (0 : Int64)) → (zCallV X lv yX11_copies cX11_copies 5 none [.ref (X.G.ad 71 0), .int (0 : Int32), .ref (X.G.ad 70 0), .int (0 : Int32)] μ7 (fun μ12 => ∀ v13 : Int32, v13 = x6 + (1 : Int32) → (AW X 53 [some (.ref (X.G.ad 11 0)), some (.int x1), some (.int x2), some (.int x3), some (.long v10), none, some (.int v13), none, none] [] μ12))))) ∧ (¬ (μ7.1 70 0 (ix ((16 : Int32) + x1))) ≤ 0 → (∀ v14 : Int64, v14 = (x4 + r6) → (zCallV X lv yX11_copies cX11_copies 5 none [.ref (X.G.ad 71 0), .int (0 : Int32), .ref (X.G.ad 70 0), .int (0 : Int32)] μ7 (fun μ16 => ∀ v17 : Int32, v17 = x6 + (1 : Int32) → (AW X 53 [some (.ref (X.G.ad 11 0)), some (.int x1), some (.int x2), some (.int x3), some (.long v14), none, some (.int v17), none, none] [] μ16)))))))))) :
    AW X 53 [some (.ref (X.G.ad 11 0)), some (.int x1), some (.int x2), some (.int x3), some (.long x4), none, some (.int x6), none, none] [] μ := by
  refine aw_iload hX dX11_chance_53 rfl ?_
  refine aw_aload_n hX dX11_chance_55 rfl ?_
  refine aw_geti hX kf_X11_377 sh_11 (by decide) rfl dX11_chance_56 ?_
  refine aw_icmp_ge (tgt := 113) hX dX11_chance_59 (by decide) (fun c1 => ?_) (fun c1 => ?_)
  · have k := k.1 c1
    refine aw_lload hX dX11_chance_113 rfl ?_
    refine aw_aload_n hX dX11_chance_115 rfl ?_
    refine aw_iload_n hX dX11_chance_116 rfl ?_
    refine aw_invJ (As := [.int x2]) (rest := [.long x4]) (κ := 11) (o := 0) (T := TX11) (N := 55) hX vc_X11_395 sh_11 (by decide) rfl rfl rfl (Nat.le_of_ble_eq_true rfl) dX11_chance_117 k (fun r2 μ3 k => ?_)
    refine aw_iload_n hX dX11_chance_120 rfl ?_
    refine aw_ivsJ (As := [.long x4, .long r2, .int x3]) (rest := []) hX sc_X11_399 rfl rfl (Nat.le_of_ble_eq_true rfl) dX11_chance_121 k (fun r4 μ5 k => ?_)
    exact aw_lret hX hr dX11_chance_124 k
  · have k := k.2 c1
    refine aw_aload_n hX dX11_chance_62 rfl ?_
    refine aw_iload hX dX11_chance_63 rfl ?_
    refine aw_iload_n hX dX11_chance_65 rfl ?_
    refine aw_invJ (As := [.int x6, .int x2]) (rest := []) (κ := 11) (o := 0) (T := TX11) (N := 55) hX vc_X11_391 sh_11 (by decide) rfl rfl rfl (Nat.le_of_ble_eq_true rfl) dX11_chance_66 k (fun r6 μ7 k => ?_)
    refine aw_lstore (L' := [some (.ref (X.G.ad 11 0)), some (.int x1), some (.int x2), some (.int x3), some (.long x4), none, some (.int x6), some (.long r6), none]) hX dX11_chance_69 (Nat.le_of_ble_eq_true rfl) rfl ?_
    refine aw_lload hX dX11_chance_71 rfl ?_
    refine aw_aload_n hX dX11_chance_73 rfl ?_
    refine aw_getr (o' := 0) hX kf_X11_117 sh_11 (by decide) rfl rfl dX11_chance_74 ?_
    refine aw_bipush hX dX11_chance_77 zb_16 ?_
    refine aw_iload_n hX dX11_chance_79 rfl ?_
    refine aw_iadd hX dX11_chance_80 ?_
    have s8 := k.1
    have k := k.2
    refine aw_iald' (k := (ix ((16 : Int32) + x1))) hX sh_70 (by decide) s8 rfl dX11_chance_81 ?_
    refine aw_if_le (tgt := 90) hX dX11_chance_82 (by decide) (fun c9 => ?_) (fun c9 => ?_)
    · have k := k.1 c9
      refine aw_lconst (v := (0 : Int64)) hX dX11_chance_90 (by decide) ?_
      refine aw_ladd hX dX11_chance_91 ?_
      refine aw_topl (fun v10 ev10 => ?_)
      have k := k v10 ev10
      refine aw_lstore (L' := [some (.ref (X.G.ad 11 0)), some (.int x1), some (.int x2), some (.int x3), some (.long v10), none, some (.int x6), some (.long r6), none]) hX dX11_chance_92 (Nat.le_of_ble_eq_true rfl) rfl ?_
      refine aw_aload_n hX dX11_chance_94 rfl ?_
      refine aw_getr (o' := 0) hX kf_X11_120 sh_11 (by decide) rfl rfl dX11_chance_95 ?_
      refine aw_iconst hX dX11_chance_98 zk_0 ?_
      refine aw_aload_n hX dX11_chance_99 rfl ?_
      refine aw_getr (o' := 0) hX kf_X11_117 sh_11 (by decide) rfl rfl dX11_chance_100 ?_
      refine aw_iconst hX dX11_chance_103 zk_0 ?_
      refine aw_ivsV (As := [.ref (X.G.ad 71 0), .int (0 : Int32), .ref (X.G.ad 70 0), .int (0 : Int32)]) (rest := []) hX sc_X11_352 rfl rfl (Nat.le_of_ble_eq_true rfl) dX11_chance_104 k (fun μ12 k => ?_)
      obtain ⟨v13, ev13⟩ : ∃ y : Int32, y = x6 + (1 : Int32) := ⟨_, rfl⟩
      have k := k v13 ev13
      refine aw_iinc (v := v13) (L' := [some (.ref (X.G.ad 11 0)), some (.int x1), some (.int x2), some (.int x3), some (.long v10), none, some (.int v13), some (.long r6), none]) hX dX11_chance_107 rfl (by rw [ev13]; rfl) (Nat.le_of_ble_eq_true rfl) rfl ?_
      refine aw_goto (tgt := 53) hX dX11_chance_110 (by decide) ?_
      exact aw_less (zle_s (zle_s (zle_s (zle_s (zle_s (zle_o (zle_s (zle_o (zle_o zle_n))))))))) k
    · have k := k.2 c9
      refine aw_lload hX dX11_chance_85 rfl ?_
      refine aw_goto (tgt := 91) hX dX11_chance_87 (by decide) ?_
      refine aw_ladd hX dX11_chance_91 ?_
      refine aw_topl (fun v14 ev14 => ?_)
      have k := k v14 ev14
      refine aw_lstore (L' := [some (.ref (X.G.ad 11 0)), some (.int x1), some (.int x2), some (.int x3), some (.long v14), none, some (.int x6), some (.long r6), none]) hX dX11_chance_92 (Nat.le_of_ble_eq_true rfl) rfl ?_
      refine aw_aload_n hX dX11_chance_94 rfl ?_
      refine aw_getr (o' := 0) hX kf_X11_120 sh_11 (by decide) rfl rfl dX11_chance_95 ?_
      refine aw_iconst hX dX11_chance_98 zk_0 ?_
      refine aw_aload_n hX dX11_chance_99 rfl ?_
      refine aw_getr (o' := 0) hX kf_X11_117 sh_11 (by decide) rfl rfl dX11_chance_100 ?_
      refine aw_iconst hX dX11_chance_103 zk_0 ?_
      refine aw_ivsV (As := [.ref (X.G.ad 71 0), .int (0 : Int32), .ref (X.G.ad 70 0), .int (0 : Int32)]) (rest := []) hX sc_X11_352 rfl rfl (Nat.le_of_ble_eq_true rfl) dX11_chance_104 k (fun μ16 k => ?_)
      obtain ⟨v17, ev17⟩ : ∃ y : Int32, y = x6 + (1 : Int32) := ⟨_, rfl⟩
      have k := k v17 ev17
      refine aw_iinc (v := v17) (L' := [some (.ref (X.G.ad 11 0)), some (.int x1), some (.int x2), some (.int x3), some (.long v14), none, some (.int v17), some (.long r6), none]) hX dX11_chance_107 rfl (by rw [ev17]; rfl) (Nat.le_of_ble_eq_true rfl) rfl ?_
      refine aw_goto (tgt := 53) hX dX11_chance_110 (by decide) ?_
      exact aw_less (zle_s (zle_s (zle_s (zle_s (zle_s (zle_o (zle_s (zle_o (zle_o zle_n))))))))) k

set_option maxRecDepth 100000 in
set_option maxHeartbeats 4000000 in
theorem st_X11_better_0 {X : zX} {lv : Nat} {Post : Option Value → zM → Prop} (hX : zOk X cX11_better RX11 9 lv) (hr : zRt X (some .int) Post)  {x1 : Int32} {x2 : Int32} {μ : zM}
    (k : ∀ μ1 : zM, μ1 = pI μ 11 0 0 (0 : Int32) → (zCallI X lv yX11_canEarly cX11_canEarly 2 (some .boolean) [.ref (X.G.ad 11 0), .int x1] μ1 (fun (r2 : Int32) μ3 => (r2 = 0 → (Post (some (.int (-2 : Int32))) μ3)) ∧ (¬ r2 = 0 → (zCallI X lv yX11_isAhead cX11_isAhead 2 (some .boolean) [.ref (X.G.ad 11 0), .int x2] μ3 (fun (r5 : Int32) μ6 => (¬ r5 = 0 → (zCallV X lv yX11_copies cX11_copies 5 none [.ref (X.G.ad 70 0), .int (0 : Int32), .ref (X.G.ad 71 0), .int (0 : Int32)] μ6 (fun μ9 => AW X 42 [some (.ref (X.G.ad 11 0)), some (.int x1), some (.int x2), some (.long (0 : Int64)), none, some (.int (0 : Int32)), none, none, none] [] μ9))) ∧ (r5 = 0 → (Post (some (.int (-2 : Int32))) μ6)))))))) :
    AW X 0 [some (.ref (X.G.ad 11 0)), some (.int x1), some (.int x2), none, none, none, none, none, none] [] μ := by
  refine aw_aload_n hX dX11_better_0 rfl ?_
  refine aw_iconst hX dX11_better_1 zk_0 ?_
  refine aw_puti hX kp_X11_132 sh_11 (by decide) rfl rfl rfl dX11_better_2 ?_
  refine aw_mem (fun μ1 eμ1 => ?_)
  have k := k μ1 eμ1
  refine aw_aload_n hX dX11_better_5 rfl ?_
  refine aw_iload_n hX dX11_better_6 rfl ?_
  refine aw_invI (As := [.int x1]) (rest := []) (κ := 11) (o := 0) (T := TX11) (N := 55) hX vc_X11_368 sh_11 (by decide) rfl rfl rfl (Nat.le_of_ble_eq_true rfl) dX11_better_7 k (fun r2 μ3 k => ?_)
  refine aw_if_eq (tgt := 21) hX dX11_better_10 (by decide) (fun c4 => ?_) (fun c4 => ?_)
  · have k := k.1 c4
    refine aw_bipush hX dX11_better_21 zb_m2 ?_
    exact aw_iret hX hr dX11_better_23 k
  · have k := k.2 c4
    refine aw_aload_n hX dX11_better_13 rfl ?_
    refine aw_iload_n hX dX11_better_14 rfl ?_
    refine aw_invI (As := [.int x2]) (rest := []) (κ := 11) (o := 0) (T := TX11) (N := 55) hX vc_X11_386 sh_11 (by decide) rfl rfl rfl (Nat.le_of_ble_eq_true rfl) dX11_better_15 k (fun r5 μ6 k => ?_)
    refine aw_if_ne (tgt := 24) hX dX11_better_18 (by decide) (fun c7 => ?_) (fun c7 => ?_)
    · have k := k.1 c7
      refine aw_aload_n hX dX11_better_24 rfl ?_
      refine aw_getr (o' := 0) hX kf_X11_117 sh_11 (by decide) rfl rfl dX11_better_25 ?_
      refine aw_iconst hX dX11_better_28 zk_0 ?_
      refine aw_aload_n hX dX11_better_29 rfl ?_
      refine aw_getr (o' := 0) hX kf_X11_120 sh_11 (by decide) rfl rfl dX11_better_30 ?_
      refine aw_iconst hX dX11_better_33 zk_0 ?_
      refine aw_ivsV (As := [.ref (X.G.ad 70 0), .int (0 : Int32), .ref (X.G.ad 71 0), .int (0 : Int32)]) (rest := []) hX sc_X11_352 rfl rfl (Nat.le_of_ble_eq_true rfl) dX11_better_34 k (fun μ9 k => ?_)
      refine aw_lconst (v := (0 : Int64)) hX dX11_better_37 (by decide) ?_
      refine aw_lstore_n (L' := [some (.ref (X.G.ad 11 0)), some (.int x1), some (.int x2), some (.long (0 : Int64)), none, none, none, none, none]) hX dX11_better_38 (Nat.le_of_ble_eq_true rfl) rfl ?_
      refine aw_iconst hX dX11_better_39 zk_0 ?_
      refine aw_istore (L' := [some (.ref (X.G.ad 11 0)), some (.int x1), some (.int x2), some (.long (0 : Int64)), none, some (.int (0 : Int32)), none, none, none]) hX dX11_better_40 (Nat.le_of_ble_eq_true rfl) rfl ?_
      exact k
    · have k := k.2 c7
      refine aw_bipush hX dX11_better_21 zb_m2 ?_
      exact aw_iret hX hr dX11_better_23 k

set_option maxRecDepth 100000 in
set_option maxHeartbeats 4000000 in
theorem st_X11_better_42 {X : zX} {lv : Nat} {Post : Option Value → zM → Prop} (hX : zOk X cX11_better RX11 9 lv) (hr : zRt X (some .int) Post)  {x1 : Int32} {x2 : Int32} {x3 : Int64} {x5 : Int32} {μ : zM}
    (k : (((2 : Int32) * (μ.1 11 0 52)) ≤ x5 → (((lg_cmp x3 (0 : Int64)) ≤ 0 → ((0 ≤ (lg_cmp x3 (0 : Int64)) → (Post (some (.int (0 : Int32))) μ)) ∧ (¬ 0 ≤ (lg_cmp x3 (0 : Int64)) → (Post (some (.int (-1 : Int32))) μ)))) ∧ (¬ (lg_cmp x3 (0 : Int64)) ≤ 0 → (Post (some (.int (1 : Int32))) μ)))) ∧ (¬ ((2 : Int32) * (μ.1 11 0 52)) ≤ x5 → ((x5 < (μ.1 11 0 52) → (AW X 79 [some (.ref (X.G.ad 11 0)), some (.int x1), some (.int x2), some (.long x3), none, some (.int x5), some (.int (0 : Int32)), none, none] [] μ)) ∧ (¬ x5 < (μ.1 11 0 52) → (zCallV X lv yX11_paysEarly cX11_paysEarly 2 none [.ref (X.G.ad 11 0), .int x1] μ (fun μ8 => AW X 79 [some (.ref (X.G.ad 11 0)), some (.int x1), some (.int x2), some (.long x3), none, some (.int x5), some (.int (1 : Int32)), none, none] [] μ8)))))) :
    AW X 42 [some (.ref (X.G.ad 11 0)), some (.int x1), some (.int x2), some (.long x3), none, some (.int x5), none, none, none] [] μ := by
  refine aw_iload hX dX11_better_42 rfl ?_
  refine aw_iconst hX dX11_better_44 zk_2 ?_
  refine aw_aload_n hX dX11_better_45 rfl ?_
  refine aw_geti hX kf_X11_377 sh_11 (by decide) rfl dX11_better_46 ?_
  refine aw_imul hX dX11_better_49 ?_
  refine aw_icmp_ge (tgt := 141) hX dX11_better_50 (by decide) (fun c1 => ?_) (fun c1 => ?_)
  · have k := k.1 c1
    refine aw_lload_n hX dX11_better_141 rfl ?_
    refine aw_lconst (v := (0 : Int64)) hX dX11_better_142 (by decide) ?_
    refine aw_lcmp hX dX11_better_143 ?_
    refine aw_if_le (tgt := 151) hX dX11_better_144 (by decide) (fun c2 => ?_) (fun c2 => ?_)
    · have k := k.1 c2
      refine aw_lload_n hX dX11_better_151 rfl ?_
      refine aw_lconst (v := (0 : Int64)) hX dX11_better_152 (by decide) ?_
      refine aw_lcmp hX dX11_better_153 ?_
      refine aw_if_ge (tgt := 161) hX dX11_better_154 (by decide) (fun c3 => ?_) (fun c3 => ?_)
      · have k := k.1 c3
        refine aw_iconst hX dX11_better_161 zk_0 ?_
        exact aw_iret hX hr dX11_better_162 k
      · have k := k.2 c3
        refine aw_iconst hX dX11_better_157 zk_m1 ?_
        refine aw_goto (tgt := 162) hX dX11_better_158 (by decide) ?_
        exact aw_iret hX hr dX11_better_162 k
    · have k := k.2 c2
      refine aw_iconst hX dX11_better_147 zk_1 ?_
      refine aw_goto (tgt := 162) hX dX11_better_148 (by decide) ?_
      exact aw_iret hX hr dX11_better_162 k
  · have k := k.2 c1
    refine aw_iload hX dX11_better_53 rfl ?_
    refine aw_aload_n hX dX11_better_55 rfl ?_
    refine aw_geti hX kf_X11_377 sh_11 (by decide) rfl dX11_better_56 ?_
    refine aw_icmp_lt (tgt := 66) hX dX11_better_59 (by decide) (fun c4 => ?_) (fun c4 => ?_)
    · have k := k.1 c4
      refine aw_iconst hX dX11_better_66 zk_0 ?_
      refine aw_istore (L' := [some (.ref (X.G.ad 11 0)), some (.int x1), some (.int x2), some (.long x3), none, some (.int x5), some (.int (0 : Int32)), none, none]) hX dX11_better_67 (Nat.le_of_ble_eq_true rfl) rfl ?_
      refine aw_iload hX dX11_better_69 rfl ?_
      refine aw_if_eq (tgt := 79) hX dX11_better_71 (by decide) (fun _ => ?_) (fun c5 => absurd c5 (by decide))
      exact k
    · have k := k.2 c4
      refine aw_iconst hX dX11_better_62 zk_1 ?_
      refine aw_goto (tgt := 67) hX dX11_better_63 (by decide) ?_
      refine aw_istore (L' := [some (.ref (X.G.ad 11 0)), some (.int x1), some (.int x2), some (.long x3), none, some (.int x5), some (.int (1 : Int32)), none, none]) hX dX11_better_67 (Nat.le_of_ble_eq_true rfl) rfl ?_
      refine aw_iload hX dX11_better_69 rfl ?_
      refine aw_if_eq (tgt := 79) hX dX11_better_71 (by decide) (fun c6 => absurd c6 (by decide)) (fun _ => ?_)
      refine aw_aload_n hX dX11_better_74 rfl ?_
      refine aw_iload_n hX dX11_better_75 rfl ?_
      refine aw_invV (As := [.int x1]) (rest := []) (κ := 11) (o := 0) (T := TX11) (N := 55) hX vc_X11_371 sh_11 (by decide) rfl rfl rfl (Nat.le_of_ble_eq_true rfl) dX11_better_76 k (fun μ8 k => ?_)
      exact k

set_option maxRecDepth 100000 in
set_option maxHeartbeats 4000000 in
theorem st_X11_better_79 {X : zX} {lv : Nat} {Post : Option Value → zM → Prop} (hX : zOk X cX11_better RX11 9 lv) (hr : zRt X (some .int) Post)  {x1 : Int32} {x2 : Int32} {x3 : Int64} {x5 : Int32} {x6 : Int32} {μ : zM}
    (k : (¬ (μ.1 11 0 52) = 0) ∧ (zCallJ X lv yX11_passes cX11_passes 10 (some .long) [.ref (X.G.ad 11 0), .int (x5 - x5 / (μ.1 11 0 52) * (μ.1 11 0 52)), .int x2] μ (fun (r2 : Int64) μ3 => (x6 = 0 → ((vp_in x1 60) ∧ ((vp_in (μ3.1 46 0 (ix x1)) 64) ∧ (∀ v7 : Int64, v7 = (x3 + ((-r2) * (Int32.toInt64 (μ3.1 70 0 (ix (μ3.1 46 0 (ix x1))))))) → (zCallV X lv yX11_copies cX11_copies 5 none [.ref (X.G.ad 71 0), .int (0 : Int32), .ref (X.G.ad 70 0), .int (0 : Int32)] μ3 (fun μ9 => ∀ v10 : Int32, v10 = x5 + (1 : Int32) → (AW X 42 [some (.ref (X.G.ad 11 0)), some (.int x1), some (.int x2), some (.long v7), none, some (.int v10), none, none, none] [] μ9))))))) ∧ (¬ x6 = 0 → ((vp_in x1 60) ∧ ((vp_in (μ3.1 46 0 (ix x1)) 64) ∧ (∀ v13 : Int64, v13 = (x3 + (r2 * (Int32.toInt64 (μ3.1 70 0 (ix (μ3.1 46 0 (ix x1))))))) → (zCallV X lv yX11_copies cX11_copies 5 none [.ref (X.G.ad 71 0), .int (0 : Int32), .ref (X.G.ad 70 0), .int (0 : Int32)] μ3 (fun μ15 => ∀ v16 : Int32, v16 = x5 + (1 : Int32) → (AW X 42 [some (.ref (X.G.ad 11 0)), some (.int x1), some (.int x2), some (.long v13), none, some (.int v16), none, none, none] [] μ15)))))))))) :
    AW X 79 [some (.ref (X.G.ad 11 0)), some (.int x1), some (.int x2), some (.long x3), none, some (.int x5), some (.int x6), none, none] [] μ := by
  refine aw_aload_n hX dX11_better_79 rfl ?_
  refine aw_iload hX dX11_better_80 rfl ?_
  refine aw_aload_n hX dX11_better_82 rfl ?_
  refine aw_geti hX kf_X11_377 sh_11 (by decide) rfl dX11_better_83 ?_
  have s1 := k.1
  have k := k.2
  refine aw_irem hX dX11_better_86 s1 ?_
  refine aw_iload_n hX dX11_better_87 rfl ?_
  refine aw_invJ (As := [.int (x5 - x5 / (μ.1 11 0 52) * (μ.1 11 0 52)), .int x2]) (rest := []) (κ := 11) (o := 0) (T := TX11) (N := 55) hX vc_X11_391 sh_11 (by decide) rfl rfl rfl (Nat.le_of_ble_eq_true rfl) dX11_better_88 k (fun r2 μ3 k => ?_)
  refine aw_lstore (L' := [some (.ref (X.G.ad 11 0)), some (.int x1), some (.int x2), some (.long x3), none, some (.int x5), some (.int x6), some (.long r2), none]) hX dX11_better_91 (Nat.le_of_ble_eq_true rfl) rfl ?_
  refine aw_lload_n hX dX11_better_93 rfl ?_
  refine aw_iload hX dX11_better_94 rfl ?_
  refine aw_if_eq (tgt := 104) hX dX11_better_96 (by decide) (fun c4 => ?_) (fun c4 => ?_)
  · have k := k.1 c4
    refine aw_lload hX dX11_better_104 rfl ?_
    refine aw_lneg hX dX11_better_106 ?_
    refine aw_aload_n hX dX11_better_107 rfl ?_
    refine aw_getr (o' := 0) hX kf_X11_117 sh_11 (by decide) rfl rfl dX11_better_108 ?_
    refine aw_aload_n hX dX11_better_111 rfl ?_
    refine aw_getr (o' := 0) hX kf_X11_44 sh_11 (by decide) rfl rfl dX11_better_112 ?_
    refine aw_iload_n hX dX11_better_115 rfl ?_
    have s5 := k.1
    have k := k.2
    refine aw_iald' (k := (ix x1)) hX sh_46 (by decide) s5 rfl dX11_better_116 ?_
    have s6 := k.1
    have k := k.2
    refine aw_iald' (k := (ix (μ3.1 46 0 (ix x1)))) hX sh_70 (by decide) s6 rfl dX11_better_117 ?_
    refine aw_i2l hX dX11_better_118 ?_
    refine aw_lmul hX dX11_better_119 ?_
    refine aw_ladd hX dX11_better_120 ?_
    refine aw_topl (fun v7 ev7 => ?_)
    have k := k v7 ev7
    refine aw_lstore_n (L' := [some (.ref (X.G.ad 11 0)), some (.int x1), some (.int x2), some (.long v7), none, some (.int x5), some (.int x6), some (.long r2), none]) hX dX11_better_121 (Nat.le_of_ble_eq_true rfl) rfl ?_
    refine aw_aload_n hX dX11_better_122 rfl ?_
    refine aw_getr (o' := 0) hX kf_X11_120 sh_11 (by decide) rfl rfl dX11_better_123 ?_
    refine aw_iconst hX dX11_better_126 zk_0 ?_
    refine aw_aload_n hX dX11_better_127 rfl ?_
    refine aw_getr (o' := 0) hX kf_X11_117 sh_11 (by decide) rfl rfl dX11_better_128 ?_
    refine aw_iconst hX dX11_better_131 zk_0 ?_
    refine aw_ivsV (As := [.ref (X.G.ad 71 0), .int (0 : Int32), .ref (X.G.ad 70 0), .int (0 : Int32)]) (rest := []) hX sc_X11_352 rfl rfl (Nat.le_of_ble_eq_true rfl) dX11_better_132 k (fun μ9 k => ?_)
    obtain ⟨v10, ev10⟩ : ∃ y : Int32, y = x5 + (1 : Int32) := ⟨_, rfl⟩
    have k := k v10 ev10
    refine aw_iinc (v := v10) (L' := [some (.ref (X.G.ad 11 0)), some (.int x1), some (.int x2), some (.long v7), none, some (.int v10), some (.int x6), some (.long r2), none]) hX dX11_better_135 rfl (by rw [ev10]; rfl) (Nat.le_of_ble_eq_true rfl) rfl ?_
    refine aw_goto (tgt := 42) hX dX11_better_138 (by decide) ?_
    exact aw_less (zle_s (zle_s (zle_s (zle_s (zle_o (zle_s (zle_o (zle_o (zle_o zle_n))))))))) k
  · have k := k.2 c4
    refine aw_lload hX dX11_better_99 rfl ?_
    refine aw_goto (tgt := 107) hX dX11_better_101 (by decide) ?_
    refine aw_aload_n hX dX11_better_107 rfl ?_
    refine aw_getr (o' := 0) hX kf_X11_117 sh_11 (by decide) rfl rfl dX11_better_108 ?_
    refine aw_aload_n hX dX11_better_111 rfl ?_
    refine aw_getr (o' := 0) hX kf_X11_44 sh_11 (by decide) rfl rfl dX11_better_112 ?_
    refine aw_iload_n hX dX11_better_115 rfl ?_
    have s11 := k.1
    have k := k.2
    refine aw_iald' (k := (ix x1)) hX sh_46 (by decide) s11 rfl dX11_better_116 ?_
    have s12 := k.1
    have k := k.2
    refine aw_iald' (k := (ix (μ3.1 46 0 (ix x1)))) hX sh_70 (by decide) s12 rfl dX11_better_117 ?_
    refine aw_i2l hX dX11_better_118 ?_
    refine aw_lmul hX dX11_better_119 ?_
    refine aw_ladd hX dX11_better_120 ?_
    refine aw_topl (fun v13 ev13 => ?_)
    have k := k v13 ev13
    refine aw_lstore_n (L' := [some (.ref (X.G.ad 11 0)), some (.int x1), some (.int x2), some (.long v13), none, some (.int x5), some (.int x6), some (.long r2), none]) hX dX11_better_121 (Nat.le_of_ble_eq_true rfl) rfl ?_
    refine aw_aload_n hX dX11_better_122 rfl ?_
    refine aw_getr (o' := 0) hX kf_X11_120 sh_11 (by decide) rfl rfl dX11_better_123 ?_
    refine aw_iconst hX dX11_better_126 zk_0 ?_
    refine aw_aload_n hX dX11_better_127 rfl ?_
    refine aw_getr (o' := 0) hX kf_X11_117 sh_11 (by decide) rfl rfl dX11_better_128 ?_
    refine aw_iconst hX dX11_better_131 zk_0 ?_
    refine aw_ivsV (As := [.ref (X.G.ad 71 0), .int (0 : Int32), .ref (X.G.ad 70 0), .int (0 : Int32)]) (rest := []) hX sc_X11_352 rfl rfl (Nat.le_of_ble_eq_true rfl) dX11_better_132 k (fun μ15 k => ?_)
    obtain ⟨v16, ev16⟩ : ∃ y : Int32, y = x5 + (1 : Int32) := ⟨_, rfl⟩
    have k := k v16 ev16
    refine aw_iinc (v := v16) (L' := [some (.ref (X.G.ad 11 0)), some (.int x1), some (.int x2), some (.long v13), none, some (.int v16), some (.int x6), some (.long r2), none]) hX dX11_better_135 rfl (by rw [ev16]; rfl) (Nat.le_of_ble_eq_true rfl) rfl ?_
    refine aw_goto (tgt := 42) hX dX11_better_138 (by decide) ?_
    exact aw_less (zle_s (zle_s (zle_s (zle_s (zle_o (zle_s (zle_o (zle_o (zle_o zle_n))))))))) k

set_option maxRecDepth 100000 in
set_option maxHeartbeats 4000000 in
theorem st_X11_fitting_0 {X : zX} {lv : Nat} {Post : Option Value → zM → Prop} (hX : zOk X cX11_fitting RX11 9 lv) (hr : zRt X (some .int) Post)  {x1 : Int32} {x2 : Int32} {x3 : Int32} {x4 : Int32} {μ : zM}
    (k : zCallV X lv yX11_copies cX11_copies 5 none [.ref (X.G.ad 70 0), .int (0 : Int32), .ref (X.G.ad 71 0), .int (0 : Int32)] μ (fun μ2 => AW X 22 [some (.ref (X.G.ad 11 0)), some (.int x1), some (.int x2), some (.int x3), some (.int x4), some (.int (0 : Int32)), some (.int (-1 : Int32)), some (.int (0 : Int32)), none] [] μ2)) :
    AW X 0 [some (.ref (X.G.ad 11 0)), some (.int x1), some (.int x2), some (.int x3), some (.int x4), none, none, none, none] [] μ := by
  refine aw_aload_n hX dX11_fitting_0 rfl ?_
  refine aw_getr (o' := 0) hX kf_X11_117 sh_11 (by decide) rfl rfl dX11_fitting_1 ?_
  refine aw_iconst hX dX11_fitting_4 zk_0 ?_
  refine aw_aload_n hX dX11_fitting_5 rfl ?_
  refine aw_getr (o' := 0) hX kf_X11_120 sh_11 (by decide) rfl rfl dX11_fitting_6 ?_
  refine aw_iconst hX dX11_fitting_9 zk_0 ?_
  refine aw_ivsV (As := [.ref (X.G.ad 70 0), .int (0 : Int32), .ref (X.G.ad 71 0), .int (0 : Int32)]) (rest := []) hX sc_X11_352 rfl rfl (Nat.le_of_ble_eq_true rfl) dX11_fitting_10 k (fun μ2 k => ?_)
  refine aw_iconst hX dX11_fitting_13 zk_0 ?_
  refine aw_istore (L' := [some (.ref (X.G.ad 11 0)), some (.int x1), some (.int x2), some (.int x3), some (.int x4), some (.int (0 : Int32)), none, none, none]) hX dX11_fitting_14 (Nat.le_of_ble_eq_true rfl) rfl ?_
  refine aw_iconst hX dX11_fitting_16 zk_m1 ?_
  refine aw_istore (L' := [some (.ref (X.G.ad 11 0)), some (.int x1), some (.int x2), some (.int x3), some (.int x4), some (.int (0 : Int32)), some (.int (-1 : Int32)), none, none]) hX dX11_fitting_17 (Nat.le_of_ble_eq_true rfl) rfl ?_
  refine aw_iconst hX dX11_fitting_19 zk_0 ?_
  refine aw_istore (L' := [some (.ref (X.G.ad 11 0)), some (.int x1), some (.int x2), some (.int x3), some (.int x4), some (.int (0 : Int32)), some (.int (-1 : Int32)), some (.int (0 : Int32)), none]) hX dX11_fitting_20 (Nat.le_of_ble_eq_true rfl) rfl ?_
  exact k

set_option maxRecDepth 100000 in
set_option maxHeartbeats 4000000 in
theorem st_X11_fitting_22 {X : zX} {lv : Nat} {Post : Option Value → zM → Prop} (hX : zOk X cX11_fitting RX11 9 lv) (hr : zRt X (some .int) Post)  {x1 : Int32} {x2 : Int32} {x3 : Int32} {x4 : Int32} {x5 : Int32} {x6 : Int32} {x7 : Int32} {μ : zM}
    (k : ((μ.1 11 0 52) ≤ x7 → ((0 ≤ x4 → (Post (some (.int x6)) μ)) ∧ (¬ 0 ≤ x4 → (Post (some (.int x5)) μ)))) ∧ (¬ (μ.1 11 0 52) ≤ x7 → ((0 ≤ x6 → ((0 ≤ x4 → (Post (some (.int x6)) μ)) ∧ (¬ 0 ≤ x4 → (Post (some (.int x5)) μ)))) ∧ (¬ 0 ≤ x6 → (zCallJ X lv yX11_passes cX11_passes 10 (some .long) [.ref (X.G.ad 11 0), .int x7, .int x1] μ (fun (r5 : Int64) μ6 => (vp_in x2 64) ∧ ((¬ (μ6.1 70 0 (ix x2)) = x3 → (zCallV X lv yX11_copies cX11_copies 5 none [.ref (X.G.ad 71 0), .int (0 : Int32), .ref (X.G.ad 70 0), .int (0 : Int32)] μ6 (fun μ10 => ∀ v13 : Int32, v13 = (x5 + (0 : Int32)) → (∀ v14 : Int32, v14 = x7 + (1 : Int32) → (AW X 22 [some (.ref (X.G.ad 11 0)), some (.int x1), some (.int x2), some (.int x3), some (.int x4), some (.int v13), some (.int x6), some (.int v14), none] [] μ10))))) ∧ ((μ6.1 70 0 (ix x2)) = x3 → (zCallV X lv yX11_copies cX11_copies 5 none [.ref (X.G.ad 71 0), .int (0 : Int32), .ref (X.G.ad 70 0), .int (0 : Int32)] μ6 (fun μ16 => (¬ x5 = x4 → (∀ v20 : Int32, v20 = (x5 + (1 : Int32)) → (∀ v21 : Int32, v21 = x7 + (1 : Int32) → (AW X 22 [some (.ref (X.G.ad 11 0)), some (.int x1), some (.int x2), some (.int x3), some (.int x4), some (.int v20), some (.int x6), some (.int v21), none] [] μ16)))) ∧ (x5 = x4 → (∀ v23 : Int32, v23 = (x5 + (1 : Int32)) → (∀ v24 : Int32, v24 = x7 + (1 : Int32) → (AW X 22 [some (.ref (X.G.ad 11 0)), some (.int x1), some (.int x2), some (.int x3), some (.int x4), some (.int v23), some (.int x7), some (.int v24), none] [] μ16)))))))))))))) :
    AW X 22 [some (.ref (X.G.ad 11 0)), some (.int x1), some (.int x2), some (.int x3), some (.int x4), some (.int x5), some (.int x6), some (.int x7), none] [] μ := by
  refine aw_iload hX dX11_fitting_22 rfl ?_
  refine aw_aload_n hX dX11_fitting_24 rfl ?_
  refine aw_geti hX kf_X11_377 sh_11 (by decide) rfl dX11_fitting_25 ?_
  refine aw_icmp_ge (tgt := 111) hX dX11_fitting_28 (by decide) (fun c1 => ?_) (fun c1 => ?_)
  · have k := k.1 c1
    refine aw_iload hX dX11_fitting_111 rfl ?_
    refine aw_if_ge (tgt := 121) hX dX11_fitting_113 (by decide) (fun c2 => ?_) (fun c2 => ?_)
    · have k := k.1 c2
      refine aw_iload hX dX11_fitting_121 rfl ?_
      exact aw_iret hX hr dX11_fitting_123 k
    · have k := k.2 c2
      refine aw_iload hX dX11_fitting_116 rfl ?_
      refine aw_goto (tgt := 123) hX dX11_fitting_118 (by decide) ?_
      exact aw_iret hX hr dX11_fitting_123 k
  · have k := k.2 c1
    refine aw_iload hX dX11_fitting_31 rfl ?_
    refine aw_if_ge (tgt := 111) hX dX11_fitting_33 (by decide) (fun c3 => ?_) (fun c3 => ?_)
    · have k := k.1 c3
      refine aw_iload hX dX11_fitting_111 rfl ?_
      refine aw_if_ge (tgt := 121) hX dX11_fitting_113 (by decide) (fun c4 => ?_) (fun c4 => ?_)
      · have k := k.1 c4
        refine aw_iload hX dX11_fitting_121 rfl ?_
        exact aw_iret hX hr dX11_fitting_123 k
      · have k := k.2 c4
        refine aw_iload hX dX11_fitting_116 rfl ?_
        refine aw_goto (tgt := 123) hX dX11_fitting_118 (by decide) ?_
        exact aw_iret hX hr dX11_fitting_123 k
    · have k := k.2 c3
      refine aw_aload_n hX dX11_fitting_36 rfl ?_
      refine aw_iload hX dX11_fitting_37 rfl ?_
      refine aw_iload_n hX dX11_fitting_39 rfl ?_
      refine aw_invJ (As := [.int x7, .int x1]) (rest := []) (κ := 11) (o := 0) (T := TX11) (N := 55) hX vc_X11_391 sh_11 (by decide) rfl rfl rfl (Nat.le_of_ble_eq_true rfl) dX11_fitting_40 k (fun r5 μ6 k => ?_)
      refine aw_pop2 hX dX11_fitting_43 rfl ?_
      refine aw_aload_n hX dX11_fitting_44 rfl ?_
      refine aw_getr (o' := 0) hX kf_X11_117 sh_11 (by decide) rfl rfl dX11_fitting_45 ?_
      refine aw_iload_n hX dX11_fitting_48 rfl ?_
      have s7 := k.1
      have k := k.2
      refine aw_iald' (k := (ix x2)) hX sh_70 (by decide) s7 rfl dX11_fitting_49 ?_
      refine aw_iload_n hX dX11_fitting_50 rfl ?_
      refine aw_icmp_ne (tgt := 58) hX dX11_fitting_51 (by decide) (fun c8 => ?_) (fun c8 => ?_)
      · have k := k.1 c8
        refine aw_iconst hX dX11_fitting_58 zk_0 ?_
        refine aw_istore (L' := [some (.ref (X.G.ad 11 0)), some (.int x1), some (.int x2), some (.int x3), some (.int x4), some (.int x5), some (.int x6), some (.int x7), some (.int (0 : Int32))]) hX dX11_fitting_59 (Nat.le_of_ble_eq_true rfl) rfl ?_
        refine aw_aload_n hX dX11_fitting_61 rfl ?_
        refine aw_getr (o' := 0) hX kf_X11_120 sh_11 (by decide) rfl rfl dX11_fitting_62 ?_
        refine aw_iconst hX dX11_fitting_65 zk_0 ?_
        refine aw_aload_n hX dX11_fitting_66 rfl ?_
        refine aw_getr (o' := 0) hX kf_X11_117 sh_11 (by decide) rfl rfl dX11_fitting_67 ?_
        refine aw_iconst hX dX11_fitting_70 zk_0 ?_
        refine aw_ivsV (As := [.ref (X.G.ad 71 0), .int (0 : Int32), .ref (X.G.ad 70 0), .int (0 : Int32)]) (rest := []) hX sc_X11_352 rfl rfl (Nat.le_of_ble_eq_true rfl) dX11_fitting_71 k (fun μ10 k => ?_)
        refine aw_iload hX dX11_fitting_74 rfl ?_
        refine aw_if_eq (tgt := 90) hX dX11_fitting_76 (by decide) (fun _ => ?_) (fun c11 => absurd c11 (by decide))
        refine aw_iload hX dX11_fitting_90 rfl ?_
        refine aw_iload hX dX11_fitting_92 rfl ?_
        refine aw_if_eq (tgt := 101) hX dX11_fitting_94 (by decide) (fun _ => ?_) (fun c12 => absurd c12 (by decide))
        refine aw_iconst hX dX11_fitting_101 zk_0 ?_
        refine aw_iadd hX dX11_fitting_102 ?_
        refine aw_topi (fun v13 ev13 => ?_)
        have k := k v13 ev13
        refine aw_istore (L' := [some (.ref (X.G.ad 11 0)), some (.int x1), some (.int x2), some (.int x3), some (.int x4), some (.int v13), some (.int x6), some (.int x7), some (.int (0 : Int32))]) hX dX11_fitting_103 (Nat.le_of_ble_eq_true rfl) rfl ?_
        obtain ⟨v14, ev14⟩ : ∃ y : Int32, y = x7 + (1 : Int32) := ⟨_, rfl⟩
        have k := k v14 ev14
        refine aw_iinc (v := v14) (L' := [some (.ref (X.G.ad 11 0)), some (.int x1), some (.int x2), some (.int x3), some (.int x4), some (.int v13), some (.int x6), some (.int v14), some (.int (0 : Int32))]) hX dX11_fitting_105 rfl (by rw [ev14]; rfl) (Nat.le_of_ble_eq_true rfl) rfl ?_
        refine aw_goto (tgt := 22) hX dX11_fitting_108 (by decide) ?_
        exact aw_less (zle_s (zle_s (zle_s (zle_s (zle_s (zle_s (zle_s (zle_s (zle_o zle_n))))))))) k
      · have k := k.2 c8
        refine aw_iconst hX dX11_fitting_54 zk_1 ?_
        refine aw_goto (tgt := 59) hX dX11_fitting_55 (by decide) ?_
        refine aw_istore (L' := [some (.ref (X.G.ad 11 0)), some (.int x1), some (.int x2), some (.int x3), some (.int x4), some (.int x5), some (.int x6), some (.int x7), some (.int (1 : Int32))]) hX dX11_fitting_59 (Nat.le_of_ble_eq_true rfl) rfl ?_
        refine aw_aload_n hX dX11_fitting_61 rfl ?_
        refine aw_getr (o' := 0) hX kf_X11_120 sh_11 (by decide) rfl rfl dX11_fitting_62 ?_
        refine aw_iconst hX dX11_fitting_65 zk_0 ?_
        refine aw_aload_n hX dX11_fitting_66 rfl ?_
        refine aw_getr (o' := 0) hX kf_X11_117 sh_11 (by decide) rfl rfl dX11_fitting_67 ?_
        refine aw_iconst hX dX11_fitting_70 zk_0 ?_
        refine aw_ivsV (As := [.ref (X.G.ad 71 0), .int (0 : Int32), .ref (X.G.ad 70 0), .int (0 : Int32)]) (rest := []) hX sc_X11_352 rfl rfl (Nat.le_of_ble_eq_true rfl) dX11_fitting_71 k (fun μ16 k => ?_)
        refine aw_iload hX dX11_fitting_74 rfl ?_
        refine aw_if_eq (tgt := 90) hX dX11_fitting_76 (by decide) (fun c17 => absurd c17 (by decide)) (fun _ => ?_)
        refine aw_iload hX dX11_fitting_79 rfl ?_
        refine aw_iload hX dX11_fitting_81 rfl ?_
        refine aw_icmp_ne (tgt := 90) hX dX11_fitting_83 (by decide) (fun c18 => ?_) (fun c18 => ?_)
        · have k := k.1 c18
          refine aw_iload hX dX11_fitting_90 rfl ?_
          refine aw_iload hX dX11_fitting_92 rfl ?_
          refine aw_if_eq (tgt := 101) hX dX11_fitting_94 (by decide) (fun c19 => absurd c19 (by decide)) (fun _ => ?_)
          refine aw_iconst hX dX11_fitting_97 zk_1 ?_
          refine aw_goto (tgt := 102) hX dX11_fitting_98 (by decide) ?_
          refine aw_iadd hX dX11_fitting_102 ?_
          refine aw_topi (fun v20 ev20 => ?_)
          have k := k v20 ev20
          refine aw_istore (L' := [some (.ref (X.G.ad 11 0)), some (.int x1), some (.int x2), some (.int x3), some (.int x4), some (.int v20), some (.int x6), some (.int x7), some (.int (1 : Int32))]) hX dX11_fitting_103 (Nat.le_of_ble_eq_true rfl) rfl ?_
          obtain ⟨v21, ev21⟩ : ∃ y : Int32, y = x7 + (1 : Int32) := ⟨_, rfl⟩
          have k := k v21 ev21
          refine aw_iinc (v := v21) (L' := [some (.ref (X.G.ad 11 0)), some (.int x1), some (.int x2), some (.int x3), some (.int x4), some (.int v20), some (.int x6), some (.int v21), some (.int (1 : Int32))]) hX dX11_fitting_105 rfl (by rw [ev21]; rfl) (Nat.le_of_ble_eq_true rfl) rfl ?_
          refine aw_goto (tgt := 22) hX dX11_fitting_108 (by decide) ?_
          exact aw_less (zle_s (zle_s (zle_s (zle_s (zle_s (zle_s (zle_s (zle_s (zle_o zle_n))))))))) k
        · have k := k.2 c18
          refine aw_iload hX dX11_fitting_86 rfl ?_
          refine aw_istore (L' := [some (.ref (X.G.ad 11 0)), some (.int x1), some (.int x2), some (.int x3), some (.int x4), some (.int x5), some (.int x7), some (.int x7), some (.int (1 : Int32))]) hX dX11_fitting_88 (Nat.le_of_ble_eq_true rfl) rfl ?_
          refine aw_iload hX dX11_fitting_90 rfl ?_
          refine aw_iload hX dX11_fitting_92 rfl ?_
          refine aw_if_eq (tgt := 101) hX dX11_fitting_94 (by decide) (fun c22 => absurd c22 (by decide)) (fun _ => ?_)
          refine aw_iconst hX dX11_fitting_97 zk_1 ?_
          refine aw_goto (tgt := 102) hX dX11_fitting_98 (by decide) ?_
          refine aw_iadd hX dX11_fitting_102 ?_
          refine aw_topi (fun v23 ev23 => ?_)
          have k := k v23 ev23
          refine aw_istore (L' := [some (.ref (X.G.ad 11 0)), some (.int x1), some (.int x2), some (.int x3), some (.int x4), some (.int v23), some (.int x7), some (.int x7), some (.int (1 : Int32))]) hX dX11_fitting_103 (Nat.le_of_ble_eq_true rfl) rfl ?_
          obtain ⟨v24, ev24⟩ : ∃ y : Int32, y = x7 + (1 : Int32) := ⟨_, rfl⟩
          have k := k v24 ev24
          refine aw_iinc (v := v24) (L' := [some (.ref (X.G.ad 11 0)), some (.int x1), some (.int x2), some (.int x3), some (.int x4), some (.int v23), some (.int x7), some (.int v24), some (.int (1 : Int32))]) hX dX11_fitting_105 rfl (by rw [ev24]; rfl) (Nat.le_of_ble_eq_true rfl) rfl ?_
          refine aw_goto (tgt := 22) hX dX11_fitting_108 (by decide) ?_
          exact aw_less (zle_s (zle_s (zle_s (zle_s (zle_s (zle_s (zle_s (zle_s (zle_o zle_n))))))))) k

set_option maxRecDepth 100000 in
set_option maxHeartbeats 4000000 in
theorem st_X11_fits_0 {X : zX} {lv : Nat} {Post : Option Value → zM → Prop} (hX : zOk X cX11_fits RX11 4 lv) (hr : zRt X (some .int) Post)  {x1 : Int32} {x2 : Int32} {x3 : Int32} {μ : zM}
    (k : ∀ μ1 : zM, μ1 = pI μ 11 0 0 (0 : Int32) → (zCallI X lv yX11_isPerson cX11_isPerson 2 (some .boolean) [.ref (X.G.ad 11 0), .int x2] μ1 (fun (r2 : Int32) μ3 => (r2 = 0 → (Post (some (.int (-1 : Int32))) μ3)) ∧ (¬ r2 = 0 → (zCallI X lv yX11_within cX11_within 3 (some .boolean) [.int x3, .int (0 : Int32), .int (99999 : Int32)] μ3 (fun (r5 : Int32) μ6 => (r5 = 0 → (Post (some (.int (-1 : Int32))) μ6)) ∧ (¬ r5 = 0 → (zCallI X lv yX11_isAhead cX11_isAhead 2 (some .boolean) [.ref (X.G.ad 11 0), .int x1] μ6 (fun (r8 : Int32) μ9 => (r8 = 0 → (Post (some (.int (-1 : Int32))) μ9)) ∧ (¬ r8 = 0 → (zCallI X lv yX11_fitting cX11_fitting 9 (some .int) [.ref (X.G.ad 11 0), .int x1, .int x2, .int x3, .int (-1 : Int32)] μ9 (fun (r11 : Int32) μ12 => Post (some (.int r11)) μ12)))))))))))) :
    AW X 0 [some (.ref (X.G.ad 11 0)), some (.int x1), some (.int x2), some (.int x3)] [] μ := by
  refine aw_aload_n hX dX11_fits_0 rfl ?_
  refine aw_iconst hX dX11_fits_1 zk_0 ?_
  refine aw_puti hX kp_X11_132 sh_11 (by decide) rfl rfl rfl dX11_fits_2 ?_
  refine aw_mem (fun μ1 eμ1 => ?_)
  have k := k μ1 eμ1
  refine aw_aload_n hX dX11_fits_5 rfl ?_
  refine aw_iload_n hX dX11_fits_6 rfl ?_
  refine aw_invI (As := [.int x2]) (rest := []) (κ := 11) (o := 0) (T := TX11) (N := 55) hX vc_X11_325 sh_11 (by decide) rfl rfl rfl (Nat.le_of_ble_eq_true rfl) dX11_fits_7 k (fun r2 μ3 k => ?_)
  refine aw_if_eq (tgt := 43) hX dX11_fits_10 (by decide) (fun c4 => ?_) (fun c4 => ?_)
  · have k := k.1 c4
    refine aw_iconst hX dX11_fits_43 zk_m1 ?_
    exact aw_iret hX hr dX11_fits_44 k
  · have k := k.2 c4
    refine aw_iload_n hX dX11_fits_13 rfl ?_
    refine aw_iconst hX dX11_fits_14 zk_0 ?_
    refine aw_ldcw hX kc_X11_403 dX11_fits_15 ?_
    refine aw_ivsI (As := [.int x3, .int (0 : Int32), .int (99999 : Int32)]) (rest := []) hX sc_X11_257 rfl rfl (Nat.le_of_ble_eq_true rfl) dX11_fits_18 k (fun r5 μ6 k => ?_)
    refine aw_if_eq (tgt := 43) hX dX11_fits_21 (by decide) (fun c7 => ?_) (fun c7 => ?_)
    · have k := k.1 c7
      refine aw_iconst hX dX11_fits_43 zk_m1 ?_
      exact aw_iret hX hr dX11_fits_44 k
    · have k := k.2 c7
      refine aw_aload_n hX dX11_fits_24 rfl ?_
      refine aw_iload_n hX dX11_fits_25 rfl ?_
      refine aw_invI (As := [.int x1]) (rest := []) (κ := 11) (o := 0) (T := TX11) (N := 55) hX vc_X11_386 sh_11 (by decide) rfl rfl rfl (Nat.le_of_ble_eq_true rfl) dX11_fits_26 k (fun r8 μ9 k => ?_)
      refine aw_if_eq (tgt := 43) hX dX11_fits_29 (by decide) (fun c10 => ?_) (fun c10 => ?_)
      · have k := k.1 c10
        refine aw_iconst hX dX11_fits_43 zk_m1 ?_
        exact aw_iret hX hr dX11_fits_44 k
      · have k := k.2 c10
        refine aw_aload_n hX dX11_fits_32 rfl ?_
        refine aw_iload_n hX dX11_fits_33 rfl ?_
        refine aw_iload_n hX dX11_fits_34 rfl ?_
        refine aw_iload_n hX dX11_fits_35 rfl ?_
        refine aw_iconst hX dX11_fits_36 zk_m1 ?_
        refine aw_invI (As := [.int x1, .int x2, .int x3, .int (-1 : Int32)]) (rest := []) (κ := 11) (o := 0) (T := TX11) (N := 55) hX vc_X11_404 sh_11 (by decide) rfl rfl rfl (Nat.le_of_ble_eq_true rfl) dX11_fits_37 k (fun r11 μ12 k => ?_)
        refine aw_goto (tgt := 44) hX dX11_fits_40 (by decide) ?_
        exact aw_iret hX hr dX11_fits_44 k

set_option maxRecDepth 100000 in
set_option maxHeartbeats 4000000 in
theorem st_X11_fit_0 {X : zX} {lv : Nat} {Post : Option Value → zM → Prop} (hX : zOk X cX11_fit RX11 5 lv) (hr : zRt X (some .int) Post)  {x1 : Int32} {x2 : Int32} {x3 : Int32} {x4 : Int32} {μ : zM}
    (k : ∀ μ1 : zM, μ1 = pI μ 11 0 0 (0 : Int32) → ((x4 < 0 → (Post (some (.int (-1 : Int32))) μ1)) ∧ (¬ x4 < 0 → (zCallI X lv yX11_isPerson cX11_isPerson 2 (some .boolean) [.ref (X.G.ad 11 0), .int x2] μ1 (fun (r3 : Int32) μ4 => (r3 = 0 → (Post (some (.int (-1 : Int32))) μ4)) ∧ (¬ r3 = 0 → (zCallI X lv yX11_within cX11_within 3 (some .boolean) [.int x3, .int (0 : Int32), .int (99999 : Int32)] μ4 (fun (r6 : Int32) μ7 => (r6 = 0 → (Post (some (.int (-1 : Int32))) μ7)) ∧ (¬ r6 = 0 → (zCallI X lv yX11_isAhead cX11_isAhead 2 (some .boolean) [.ref (X.G.ad 11 0), .int x1] μ7 (fun (r9 : Int32) μ10 => (r9 = 0 → (Post (some (.int (-1 : Int32))) μ10)) ∧ (¬ r9 = 0 → (zCallI X lv yX11_fitting cX11_fitting 9 (some .int) [.ref (X.G.ad 11 0), .int x1, .int x2, .int x3, .int x4] μ10 (fun (r12 : Int32) μ13 => Post (some (.int r12)) μ13)))))))))))))) :
    AW X 0 [some (.ref (X.G.ad 11 0)), some (.int x1), some (.int x2), some (.int x3), some (.int x4)] [] μ := by
  refine aw_aload_n hX dX11_fit_0 rfl ?_
  refine aw_iconst hX dX11_fit_1 zk_0 ?_
  refine aw_puti hX kp_X11_132 sh_11 (by decide) rfl rfl rfl dX11_fit_2 ?_
  refine aw_mem (fun μ1 eμ1 => ?_)
  have k := k μ1 eμ1
  refine aw_iload hX dX11_fit_5 rfl ?_
  refine aw_if_lt (tgt := 49) hX dX11_fit_7 (by decide) (fun c2 => ?_) (fun c2 => ?_)
  · have k := k.1 c2
    refine aw_iconst hX dX11_fit_49 zk_m1 ?_
    exact aw_iret hX hr dX11_fit_50 k
  · have k := k.2 c2
    refine aw_aload_n hX dX11_fit_10 rfl ?_
    refine aw_iload_n hX dX11_fit_11 rfl ?_
    refine aw_invI (As := [.int x2]) (rest := []) (κ := 11) (o := 0) (T := TX11) (N := 55) hX vc_X11_325 sh_11 (by decide) rfl rfl rfl (Nat.le_of_ble_eq_true rfl) dX11_fit_12 k (fun r3 μ4 k => ?_)
    refine aw_if_eq (tgt := 49) hX dX11_fit_15 (by decide) (fun c5 => ?_) (fun c5 => ?_)
    · have k := k.1 c5
      refine aw_iconst hX dX11_fit_49 zk_m1 ?_
      exact aw_iret hX hr dX11_fit_50 k
    · have k := k.2 c5
      refine aw_iload_n hX dX11_fit_18 rfl ?_
      refine aw_iconst hX dX11_fit_19 zk_0 ?_
      refine aw_ldcw hX kc_X11_403 dX11_fit_20 ?_
      refine aw_ivsI (As := [.int x3, .int (0 : Int32), .int (99999 : Int32)]) (rest := []) hX sc_X11_257 rfl rfl (Nat.le_of_ble_eq_true rfl) dX11_fit_23 k (fun r6 μ7 k => ?_)
      refine aw_if_eq (tgt := 49) hX dX11_fit_26 (by decide) (fun c8 => ?_) (fun c8 => ?_)
      · have k := k.1 c8
        refine aw_iconst hX dX11_fit_49 zk_m1 ?_
        exact aw_iret hX hr dX11_fit_50 k
      · have k := k.2 c8
        refine aw_aload_n hX dX11_fit_29 rfl ?_
        refine aw_iload_n hX dX11_fit_30 rfl ?_
        refine aw_invI (As := [.int x1]) (rest := []) (κ := 11) (o := 0) (T := TX11) (N := 55) hX vc_X11_386 sh_11 (by decide) rfl rfl rfl (Nat.le_of_ble_eq_true rfl) dX11_fit_31 k (fun r9 μ10 k => ?_)
        refine aw_if_eq (tgt := 49) hX dX11_fit_34 (by decide) (fun c11 => ?_) (fun c11 => ?_)
        · have k := k.1 c11
          refine aw_iconst hX dX11_fit_49 zk_m1 ?_
          exact aw_iret hX hr dX11_fit_50 k
        · have k := k.2 c11
          refine aw_aload_n hX dX11_fit_37 rfl ?_
          refine aw_iload_n hX dX11_fit_38 rfl ?_
          refine aw_iload_n hX dX11_fit_39 rfl ?_
          refine aw_iload_n hX dX11_fit_40 rfl ?_
          refine aw_iload hX dX11_fit_41 rfl ?_
          refine aw_invI (As := [.int x1, .int x2, .int x3, .int x4]) (rest := []) (κ := 11) (o := 0) (T := TX11) (N := 55) hX vc_X11_404 sh_11 (by decide) rfl rfl rfl (Nat.le_of_ble_eq_true rfl) dX11_fit_43 k (fun r12 μ13 k => ?_)
          refine aw_goto (tgt := 50) hX dX11_fit_46 (by decide) ?_
          exact aw_iret hX hr dX11_fit_50 k

set_option maxRecDepth 100000 in
set_option maxHeartbeats 4000000 in
theorem st_X11_gains_0 {X : zX} {lv : Nat} {Post : Option Value → zM → Prop} (hX : zOk X cX11_gains RX11 5 lv) (hr : zRt X (some .int) Post)  {x1 : Int32} {x2 : Int32} {μ : zM}
    (k : ∀ μ1 : zM, μ1 = pI μ 69 0 5 (0 : Int32) → (AW X 9 [some (.ref (X.G.ad 11 0)), some (.int x1), some (.int x2), some (.int (0 : Int32)), none] [] μ1)) :
    AW X 0 [some (.ref (X.G.ad 11 0)), some (.int x1), some (.int x2), none, none] [] μ := by
  refine aw_aload_n hX dX11_gains_0 rfl ?_
  refine aw_getr (o' := 0) hX kf_X11_114 sh_11 (by decide) rfl rfl dX11_gains_1 ?_
  refine aw_iconst hX dX11_gains_4 zk_5 ?_
  refine aw_iconst hX dX11_gains_5 zk_0 ?_
  refine aw_iast' (k := 5) hX sh_69 (by decide) (zdi (by decide)) (by decide) dX11_gains_6 ?_
  refine aw_mem (fun μ1 eμ1 => ?_)
  have k := k μ1 eμ1
  refine aw_iconst hX dX11_gains_7 zk_0 ?_
  refine aw_istore_n (L' := [some (.ref (X.G.ad 11 0)), some (.int x1), some (.int x2), some (.int (0 : Int32)), none]) hX dX11_gains_8 (Nat.le_of_ble_eq_true rfl) rfl ?_
  exact k

set_option maxRecDepth 100000 in
set_option maxHeartbeats 4000000 in
theorem st_X11_gains_9 {X : zX} {lv : Nat} {Post : Option Value → zM → Prop} (hX : zOk X cX11_gains RX11 5 lv) (hr : zRt X (some .int) Post)  {x1 : Int32} {x2 : Int32} {x3 : Int32} {μ : zM}
    (k : ((4 : Int32) ≤ x3 → (AW X 55 [some (.ref (X.G.ad 11 0)), some (.int x1), none, some (.int (0 : Int32)), some (.int (0 : Int32))] [] μ)) ∧ (¬ (4 : Int32) ≤ x3 → ((vp_in ((1 : Int32) + x3) 20) ∧ (∀ μ3 : zM, μ3 = pI μ 69 0 (ix ((1 : Int32) + x3)) ((x2 >>> (x3 &&& 31)) &&& (1 : Int32)) → (∀ μ4 : zM, μ4 = pI μ3 69 0 5 ((μ3.1 69 0 5) + (μ3.1 69 0 (ix ((1 : Int32) + x3)))) → (∀ v5 : Int32, v5 = x3 + (1 : Int32) → (AW X 9 [some (.ref (X.G.ad 11 0)), some (.int x1), some (.int x2), some (.int v5), none] [] μ4))))))) :
    AW X 9 [some (.ref (X.G.ad 11 0)), some (.int x1), some (.int x2), some (.int x3), none] [] μ := by
  refine aw_iload_n hX dX11_gains_9 rfl ?_
  refine aw_iconst hX dX11_gains_10 zk_4 ?_
  refine aw_icmp_ge (tgt := 50) hX dX11_gains_11 (by decide) (fun c1 => ?_) (fun c1 => ?_)
  · have k := k.1 c1
    refine aw_iconst hX dX11_gains_50 zk_0 ?_
    refine aw_istore_n (L' := [some (.ref (X.G.ad 11 0)), some (.int x1), some (.int x2), some (.int (0 : Int32)), none]) hX dX11_gains_51 (Nat.le_of_ble_eq_true rfl) rfl ?_
    refine aw_iconst hX dX11_gains_52 zk_0 ?_
    refine aw_istore (L' := [some (.ref (X.G.ad 11 0)), some (.int x1), some (.int x2), some (.int (0 : Int32)), some (.int (0 : Int32))]) hX dX11_gains_53 (Nat.le_of_ble_eq_true rfl) rfl ?_
    exact aw_less (zle_s (zle_s (zle_o (zle_s (zle_s zle_n))))) k
  · have k := k.2 c1
    refine aw_aload_n hX dX11_gains_14 rfl ?_
    refine aw_getr (o' := 0) hX kf_X11_114 sh_11 (by decide) rfl rfl dX11_gains_15 ?_
    refine aw_iconst hX dX11_gains_18 zk_1 ?_
    refine aw_iload_n hX dX11_gains_19 rfl ?_
    refine aw_iadd hX dX11_gains_20 ?_
    refine aw_iload_n hX dX11_gains_21 rfl ?_
    refine aw_iload_n hX dX11_gains_22 rfl ?_
    refine aw_ishr hX dX11_gains_23 ?_
    refine aw_iconst hX dX11_gains_24 zk_1 ?_
    refine aw_iand hX dX11_gains_25 ?_
    have s2 := k.1
    have k := k.2
    refine aw_iast' (k := (ix ((1 : Int32) + x3))) hX sh_69 (by decide) s2 rfl dX11_gains_26 ?_
    refine aw_mem (fun μ3 eμ3 => ?_)
    have k := k μ3 eμ3
    refine aw_aload_n hX dX11_gains_27 rfl ?_
    refine aw_getr (o' := 0) hX kf_X11_114 sh_11 (by decide) rfl rfl dX11_gains_28 ?_
    refine aw_iconst hX dX11_gains_31 zk_5 ?_
    refine aw_dup2 hX dX11_gains_32 rfl rfl ?_
    refine aw_iald' (k := 5) hX sh_69 (by decide) (zdi (by decide)) (by decide) dX11_gains_33 ?_
    refine aw_aload_n hX dX11_gains_34 rfl ?_
    refine aw_getr (o' := 0) hX kf_X11_114 sh_11 (by decide) rfl rfl dX11_gains_35 ?_
    refine aw_iconst hX dX11_gains_38 zk_1 ?_
    refine aw_iload_n hX dX11_gains_39 rfl ?_
    refine aw_iadd hX dX11_gains_40 ?_
    refine aw_iald' (k := (ix ((1 : Int32) + x3))) hX sh_69 (by decide) s2 rfl dX11_gains_41 ?_
    refine aw_iadd hX dX11_gains_42 ?_
    refine aw_iast' (k := 5) hX sh_69 (by decide) (zdi (by decide)) (by decide) dX11_gains_43 ?_
    refine aw_mem (fun μ4 eμ4 => ?_)
    have k := k μ4 eμ4
    obtain ⟨v5, ev5⟩ : ∃ y : Int32, y = x3 + (1 : Int32) := ⟨_, rfl⟩
    have k := k v5 ev5
    refine aw_iinc (v := v5) (L' := [some (.ref (X.G.ad 11 0)), some (.int x1), some (.int x2), some (.int v5), none]) hX dX11_gains_44 rfl (by rw [ev5]; rfl) (Nat.le_of_ble_eq_true rfl) rfl ?_
    refine aw_goto (tgt := 9) hX dX11_gains_47 (by decide) ?_
    exact k

set_option maxRecDepth 100000 in
set_option maxHeartbeats 4000000 in
theorem st_X11_gains_55 {X : zX} {lv : Nat} {Post : Option Value → zM → Prop} (hX : zOk X cX11_gains RX11 5 lv) (hr : zRt X (some .int) Post)  {x1 : Int32} {x3 : Int32} {x4 : Int32} {μ : zM}
    (k : ((μ.1 39 0 0) ≤ x4 → (Post (some (.int x3)) μ)) ∧ (¬ (μ.1 39 0 0) ≤ x4 → ((¬ ((x1 >>> (x4 &&& 31)) &&& (1 : Int32)) = (1 : Int32) → (∀ v3 : Int32, v3 = x4 + (1 : Int32) → (AW X 55 [some (.ref (X.G.ad 11 0)), some (.int x1), none, some (.int x3), some (.int v3)] [] μ))) ∧ (((x1 >>> (x4 &&& 31)) &&& (1 : Int32)) = (1 : Int32) → (zCallI X lv yX11_worked cX11_worked 6 (some .int) [.ref (X.G.ad 11 0), .int x4] μ (fun (r4 : Int32) μ5 => (r4 = 0 → ((vp_in x4 48) ∧ (∀ v8 : Int32, v8 = (x3 + ((0 : Int32) - (μ5.1 53 0 (ix x4)))) → (∀ v9 : Int32, v9 = x4 + (1 : Int32) → (AW X 55 [some (.ref (X.G.ad 11 0)), some (.int x1), none, some (.int v8), some (.int v9)] [] μ5))))) ∧ (¬ r4 = 0 → ((vp_in x4 48) ∧ (∀ v11 : Int32, v11 = (x3 + ((μ5.1 54 0 (ix x4)) - (μ5.1 53 0 (ix x4)))) → (∀ v12 : Int32, v12 = x4 + (1 : Int32) → (AW X 55 [some (.ref (X.G.ad 11 0)), some (.int x1), none, some (.int v11), some (.int v12)] [] μ5))))))))))) :
    AW X 55 [some (.ref (X.G.ad 11 0)), some (.int x1), none, some (.int x3), some (.int x4)] [] μ := by
  refine aw_iload hX dX11_gains_55 rfl ?_
  refine aw_aload_n hX dX11_gains_57 rfl ?_
  refine aw_getr (o' := 0) hX kf_X11_22 sh_11 (by decide) rfl rfl dX11_gains_58 ?_
  refine aw_iconst hX dX11_gains_61 zk_0 ?_
  refine aw_iald' (k := 0) hX sh_39 (by decide) (zdi (by decide)) (by decide) dX11_gains_62 ?_
  refine aw_icmp_ge (tgt := 113) hX dX11_gains_63 (by decide) (fun c1 => ?_) (fun c1 => ?_)
  · have k := k.1 c1
    refine aw_iload_n hX dX11_gains_113 rfl ?_
    exact aw_iret hX hr dX11_gains_114 k
  · have k := k.2 c1
    refine aw_iload_n hX dX11_gains_66 rfl ?_
    refine aw_iload hX dX11_gains_67 rfl ?_
    refine aw_ishr hX dX11_gains_69 ?_
    refine aw_iconst hX dX11_gains_70 zk_1 ?_
    refine aw_iand hX dX11_gains_71 ?_
    refine aw_iconst hX dX11_gains_72 zk_1 ?_
    refine aw_icmp_ne (tgt := 107) hX dX11_gains_73 (by decide) (fun c2 => ?_) (fun c2 => ?_)
    · have k := k.1 c2
      obtain ⟨v3, ev3⟩ : ∃ y : Int32, y = x4 + (1 : Int32) := ⟨_, rfl⟩
      have k := k v3 ev3
      refine aw_iinc (v := v3) (L' := [some (.ref (X.G.ad 11 0)), some (.int x1), none, some (.int x3), some (.int v3)]) hX dX11_gains_107 rfl (by rw [ev3]; rfl) (Nat.le_of_ble_eq_true rfl) rfl ?_
      refine aw_goto (tgt := 55) hX dX11_gains_110 (by decide) ?_
      exact k
    · have k := k.2 c2
      refine aw_iload_n hX dX11_gains_76 rfl ?_
      refine aw_aload_n hX dX11_gains_77 rfl ?_
      refine aw_iload hX dX11_gains_78 rfl ?_
      refine aw_invI (As := [.int x4]) (rest := [.int x3]) (κ := 11) (o := 0) (T := TX11) (N := 55) hX vc_X11_408 sh_11 (by decide) rfl rfl rfl (Nat.le_of_ble_eq_true rfl) dX11_gains_80 k (fun r4 μ5 k => ?_)
      refine aw_if_eq (tgt := 96) hX dX11_gains_83 (by decide) (fun c6 => ?_) (fun c6 => ?_)
      · have k := k.1 c6
        refine aw_iconst hX dX11_gains_96 zk_0 ?_
        refine aw_aload_n hX dX11_gains_97 rfl ?_
        refine aw_getr (o' := 0) hX kf_X11_65 sh_11 (by decide) rfl rfl dX11_gains_98 ?_
        refine aw_iload hX dX11_gains_101 rfl ?_
        have s7 := k.1
        have k := k.2
        refine aw_iald' (k := (ix x4)) hX sh_53 (by decide) s7 rfl dX11_gains_103 ?_
        refine aw_isub hX dX11_gains_104 ?_
        refine aw_iadd hX dX11_gains_105 ?_
        refine aw_topi (fun v8 ev8 => ?_)
        have k := k v8 ev8
        refine aw_istore_n (L' := [some (.ref (X.G.ad 11 0)), some (.int x1), none, some (.int v8), some (.int x4)]) hX dX11_gains_106 (Nat.le_of_ble_eq_true rfl) rfl ?_
        obtain ⟨v9, ev9⟩ : ∃ y : Int32, y = x4 + (1 : Int32) := ⟨_, rfl⟩
        have k := k v9 ev9
        refine aw_iinc (v := v9) (L' := [some (.ref (X.G.ad 11 0)), some (.int x1), none, some (.int v8), some (.int v9)]) hX dX11_gains_107 rfl (by rw [ev9]; rfl) (Nat.le_of_ble_eq_true rfl) rfl ?_
        refine aw_goto (tgt := 55) hX dX11_gains_110 (by decide) ?_
        exact k
      · have k := k.2 c6
        refine aw_aload_n hX dX11_gains_86 rfl ?_
        refine aw_getr (o' := 0) hX kf_X11_68 sh_11 (by decide) rfl rfl dX11_gains_87 ?_
        refine aw_iload hX dX11_gains_90 rfl ?_
        have s10 := k.1
        have k := k.2
        refine aw_iald' (k := (ix x4)) hX sh_54 (by decide) s10 rfl dX11_gains_92 ?_
        refine aw_goto (tgt := 97) hX dX11_gains_93 (by decide) ?_
        refine aw_aload_n hX dX11_gains_97 rfl ?_
        refine aw_getr (o' := 0) hX kf_X11_65 sh_11 (by decide) rfl rfl dX11_gains_98 ?_
        refine aw_iload hX dX11_gains_101 rfl ?_
        refine aw_iald' (k := (ix x4)) hX sh_53 (by decide) s10 rfl dX11_gains_103 ?_
        refine aw_isub hX dX11_gains_104 ?_
        refine aw_iadd hX dX11_gains_105 ?_
        refine aw_topi (fun v11 ev11 => ?_)
        have k := k v11 ev11
        refine aw_istore_n (L' := [some (.ref (X.G.ad 11 0)), some (.int x1), none, some (.int v11), some (.int x4)]) hX dX11_gains_106 (Nat.le_of_ble_eq_true rfl) rfl ?_
        obtain ⟨v12, ev12⟩ : ∃ y : Int32, y = x4 + (1 : Int32) := ⟨_, rfl⟩
        have k := k v12 ev12
        refine aw_iinc (v := v12) (L' := [some (.ref (X.G.ad 11 0)), some (.int x1), none, some (.int v11), some (.int v12)]) hX dX11_gains_107 rfl (by rw [ev12]; rfl) (Nat.le_of_ble_eq_true rfl) rfl ?_
        refine aw_goto (tgt := 55) hX dX11_gains_110 (by decide) ?_
        exact k

set_option maxRecDepth 100000 in
set_option maxHeartbeats 4000000 in
theorem st_X11_gain_0 {X : zX} {lv : Nat} {Post : Option Value → zM → Prop} (hX : zOk X cX11_gain RX11 3 lv) (hr : zRt X (some .int) Post)  {x1 : Int32} {x2 : Int32} {μ : zM}
    (k : (x1 < 0 → (∀ μ2 : zM, μ2 = pI μ 11 0 0 (1 : Int32) → ((¬ (μ2.1 11 0 0) = (1 : Int32) → (zCallI X lv yX11_gains cX11_gains 5 (some .int) [.ref (X.G.ad 11 0), .int x1, .int x2] μ2 (fun (r4 : Int32) μ5 => Post (some (.int r4)) μ5))) ∧ ((μ2.1 11 0 0) = (1 : Int32) → (Post (some (.int (0 : Int32))) μ2))))) ∧ (¬ x1 < 0 → ((((1 : Int32) <<< ((μ.1 39 0 0) &&& 31)) ≤ x1 → (∀ μ7 : zM, μ7 = pI μ 11 0 0 (1 : Int32) → ((¬ (μ7.1 11 0 0) = (1 : Int32) → (zCallI X lv yX11_gains cX11_gains 5 (some .int) [.ref (X.G.ad 11 0), .int x1, .int x2] μ7 (fun (r9 : Int32) μ10 => Post (some (.int r9)) μ10))) ∧ ((μ7.1 11 0 0) = (1 : Int32) → (Post (some (.int (0 : Int32))) μ7))))) ∧ (¬ ((1 : Int32) <<< ((μ.1 39 0 0) &&& 31)) ≤ x1 → (zCallI X lv yX11_isWeather cX11_isWeather 2 (some .boolean) [.ref (X.G.ad 11 0), .int x2] μ (fun (r11 : Int32) μ12 => (r11 = 0 → (∀ μ14 : zM, μ14 = pI μ12 11 0 0 (1 : Int32) → ((¬ (μ14.1 11 0 0) = (1 : Int32) → (zCallI X lv yX11_gains cX11_gains 5 (some .int) [.ref (X.G.ad 11 0), .int x1, .int x2] μ14 (fun (r16 : Int32) μ17 => Post (some (.int r16)) μ17))) ∧ ((μ14.1 11 0 0) = (1 : Int32) → (Post (some (.int (0 : Int32))) μ14))))) ∧ (¬ r11 = 0 → (∀ μ18 : zM, μ18 = pI μ12 11 0 0 (0 : Int32) → ((¬ (μ18.1 11 0 0) = (1 : Int32) → (zCallI X lv yX11_gains cX11_gains 5 (some .int) [.ref (X.G.ad 11 0), .int x1, .int x2] μ18 (fun (r20 : Int32) μ21 => Post (some (.int r20)) μ21))) ∧ ((μ18.1 11 0 0) = (1 : Int32) → (Post (some (.int (0 : Int32))) μ18))))))))))) :
    AW X 0 [some (.ref (X.G.ad 11 0)), some (.int x1), some (.int x2)] [] μ := by
  refine aw_aload_n hX dX11_gain_0 rfl ?_
  refine aw_iload_n hX dX11_gain_1 rfl ?_
  refine aw_if_lt (tgt := 29) hX dX11_gain_2 (by decide) (fun c1 => ?_) (fun c1 => ?_)
  · have k := k.1 c1
    refine aw_iconst hX dX11_gain_29 zk_1 ?_
    refine aw_puti hX kp_X11_132 sh_11 (by decide) rfl rfl rfl dX11_gain_30 ?_
    refine aw_mem (fun μ2 eμ2 => ?_)
    have k := k μ2 eμ2
    refine aw_aload_n hX dX11_gain_33 rfl ?_
    refine aw_geti hX kf_X11_132 sh_11 (by decide) rfl dX11_gain_34 ?_
    refine aw_iconst hX dX11_gain_37 zk_1 ?_
    refine aw_icmp_ne (tgt := 45) hX dX11_gain_38 (by decide) (fun c3 => ?_) (fun c3 => ?_)
    · have k := k.1 c3
      refine aw_aload_n hX dX11_gain_45 rfl ?_
      refine aw_iload_n hX dX11_gain_46 rfl ?_
      refine aw_iload_n hX dX11_gain_47 rfl ?_
      refine aw_invI (As := [.int x1, .int x2]) (rest := []) (κ := 11) (o := 0) (T := TX11) (N := 55) hX vc_X11_411 sh_11 (by decide) rfl rfl rfl (Nat.le_of_ble_eq_true rfl) dX11_gain_48 k (fun r4 μ5 k => ?_)
      exact aw_iret hX hr dX11_gain_51 k
    · have k := k.2 c3
      refine aw_iconst hX dX11_gain_41 zk_0 ?_
      refine aw_goto (tgt := 51) hX dX11_gain_42 (by decide) ?_
      exact aw_iret hX hr dX11_gain_51 k
  · have k := k.2 c1
    refine aw_iload_n hX dX11_gain_5 rfl ?_
    refine aw_iconst hX dX11_gain_6 zk_1 ?_
    refine aw_aload_n hX dX11_gain_7 rfl ?_
    refine aw_getr (o' := 0) hX kf_X11_22 sh_11 (by decide) rfl rfl dX11_gain_8 ?_
    refine aw_iconst hX dX11_gain_11 zk_0 ?_
    refine aw_iald' (k := 0) hX sh_39 (by decide) (zdi (by decide)) (by decide) dX11_gain_12 ?_
    refine aw_ishl hX dX11_gain_13 ?_
    refine aw_icmp_ge (tgt := 29) hX dX11_gain_14 (by decide) (fun c6 => ?_) (fun c6 => ?_)
    · have k := k.1 c6
      refine aw_iconst hX dX11_gain_29 zk_1 ?_
      refine aw_puti hX kp_X11_132 sh_11 (by decide) rfl rfl rfl dX11_gain_30 ?_
      refine aw_mem (fun μ7 eμ7 => ?_)
      have k := k μ7 eμ7
      refine aw_aload_n hX dX11_gain_33 rfl ?_
      refine aw_geti hX kf_X11_132 sh_11 (by decide) rfl dX11_gain_34 ?_
      refine aw_iconst hX dX11_gain_37 zk_1 ?_
      refine aw_icmp_ne (tgt := 45) hX dX11_gain_38 (by decide) (fun c8 => ?_) (fun c8 => ?_)
      · have k := k.1 c8
        refine aw_aload_n hX dX11_gain_45 rfl ?_
        refine aw_iload_n hX dX11_gain_46 rfl ?_
        refine aw_iload_n hX dX11_gain_47 rfl ?_
        refine aw_invI (As := [.int x1, .int x2]) (rest := []) (κ := 11) (o := 0) (T := TX11) (N := 55) hX vc_X11_411 sh_11 (by decide) rfl rfl rfl (Nat.le_of_ble_eq_true rfl) dX11_gain_48 k (fun r9 μ10 k => ?_)
        exact aw_iret hX hr dX11_gain_51 k
      · have k := k.2 c8
        refine aw_iconst hX dX11_gain_41 zk_0 ?_
        refine aw_goto (tgt := 51) hX dX11_gain_42 (by decide) ?_
        exact aw_iret hX hr dX11_gain_51 k
    · have k := k.2 c6
      refine aw_aload_n hX dX11_gain_17 rfl ?_
      refine aw_iload_n hX dX11_gain_18 rfl ?_
      refine aw_invI (As := [.int x2]) (rest := [.ref (X.G.ad 11 0)]) (κ := 11) (o := 0) (T := TX11) (N := 55) hX vc_X11_356 sh_11 (by decide) rfl rfl rfl (Nat.le_of_ble_eq_true rfl) dX11_gain_19 k (fun r11 μ12 k => ?_)
      refine aw_if_eq (tgt := 29) hX dX11_gain_22 (by decide) (fun c13 => ?_) (fun c13 => ?_)
      · have k := k.1 c13
        refine aw_iconst hX dX11_gain_29 zk_1 ?_
        refine aw_puti hX kp_X11_132 sh_11 (by decide) rfl rfl rfl dX11_gain_30 ?_
        refine aw_mem (fun μ14 eμ14 => ?_)
        have k := k μ14 eμ14
        refine aw_aload_n hX dX11_gain_33 rfl ?_
        refine aw_geti hX kf_X11_132 sh_11 (by decide) rfl dX11_gain_34 ?_
        refine aw_iconst hX dX11_gain_37 zk_1 ?_
        refine aw_icmp_ne (tgt := 45) hX dX11_gain_38 (by decide) (fun c15 => ?_) (fun c15 => ?_)
        · have k := k.1 c15
          refine aw_aload_n hX dX11_gain_45 rfl ?_
          refine aw_iload_n hX dX11_gain_46 rfl ?_
          refine aw_iload_n hX dX11_gain_47 rfl ?_
          refine aw_invI (As := [.int x1, .int x2]) (rest := []) (κ := 11) (o := 0) (T := TX11) (N := 55) hX vc_X11_411 sh_11 (by decide) rfl rfl rfl (Nat.le_of_ble_eq_true rfl) dX11_gain_48 k (fun r16 μ17 k => ?_)
          exact aw_iret hX hr dX11_gain_51 k
        · have k := k.2 c15
          refine aw_iconst hX dX11_gain_41 zk_0 ?_
          refine aw_goto (tgt := 51) hX dX11_gain_42 (by decide) ?_
          exact aw_iret hX hr dX11_gain_51 k
      · have k := k.2 c13
        refine aw_iconst hX dX11_gain_25 zk_0 ?_
        refine aw_goto (tgt := 30) hX dX11_gain_26 (by decide) ?_
        refine aw_puti hX kp_X11_132 sh_11 (by decide) rfl rfl rfl dX11_gain_30 ?_
        refine aw_mem (fun μ18 eμ18 => ?_)
        have k := k μ18 eμ18
        refine aw_aload_n hX dX11_gain_33 rfl ?_
        refine aw_geti hX kf_X11_132 sh_11 (by decide) rfl dX11_gain_34 ?_
        refine aw_iconst hX dX11_gain_37 zk_1 ?_
        refine aw_icmp_ne (tgt := 45) hX dX11_gain_38 (by decide) (fun c19 => ?_) (fun c19 => ?_)
        · have k := k.1 c19
          refine aw_aload_n hX dX11_gain_45 rfl ?_
          refine aw_iload_n hX dX11_gain_46 rfl ?_
          refine aw_iload_n hX dX11_gain_47 rfl ?_
          refine aw_invI (As := [.int x1, .int x2]) (rest := []) (κ := 11) (o := 0) (T := TX11) (N := 55) hX vc_X11_411 sh_11 (by decide) rfl rfl rfl (Nat.le_of_ble_eq_true rfl) dX11_gain_48 k (fun r20 μ21 k => ?_)
          exact aw_iret hX hr dX11_gain_51 k
        · have k := k.2 c19
          refine aw_iconst hX dX11_gain_41 zk_0 ?_
          refine aw_goto (tgt := 51) hX dX11_gain_42 (by decide) ?_
          exact aw_iret hX hr dX11_gain_51 k

set_option maxRecDepth 100000 in
set_option maxHeartbeats 4000000 in
theorem st_X11_sure_0 {X : zX} {lv : Nat} {Post : Option Value → zM → Prop} (hX : zOk X cX11_sure RX11 7 lv) (hr : zRt X (some .int) Post)  {x1 : Int32} {μ : zM}
    (k : ∀ μ1 : zM, μ1 = pI μ 11 0 0 (0 : Int32) → (zCallI X lv yX11_within cX11_within 3 (some .boolean) [.int x1, .int (0 : Int32), .int (1 : Int32)] μ1 (fun (r2 : Int32) μ3 => (¬ r2 = 0 → (AW X 23 [some (.ref (X.G.ad 11 0)), some (.int x1), some (.int (0 : Int32)), some (.int (0 : Int32)), some (.int (0 : Int32)), none, none] [] μ3)) ∧ (r2 = 0 → (Post (some (.int (-1 : Int32))) μ3))))) :
    AW X 0 [some (.ref (X.G.ad 11 0)), some (.int x1), none, none, none, none, none] [] μ := by
  refine aw_aload_n hX dX11_sure_0 rfl ?_
  refine aw_iconst hX dX11_sure_1 zk_0 ?_
  refine aw_puti hX kp_X11_132 sh_11 (by decide) rfl rfl rfl dX11_sure_2 ?_
  refine aw_mem (fun μ1 eμ1 => ?_)
  have k := k μ1 eμ1
  refine aw_iload_n hX dX11_sure_5 rfl ?_
  refine aw_iconst hX dX11_sure_6 zk_0 ?_
  refine aw_iconst hX dX11_sure_7 zk_1 ?_
  refine aw_ivsI (As := [.int x1, .int (0 : Int32), .int (1 : Int32)]) (rest := []) hX sc_X11_257 rfl rfl (Nat.le_of_ble_eq_true rfl) dX11_sure_8 k (fun r2 μ3 k => ?_)
  refine aw_if_ne (tgt := 16) hX dX11_sure_11 (by decide) (fun c4 => ?_) (fun c4 => ?_)
  · have k := k.1 c4
    refine aw_iconst hX dX11_sure_16 zk_0 ?_
    refine aw_istore_n (L' := [some (.ref (X.G.ad 11 0)), some (.int x1), some (.int (0 : Int32)), none, none, none, none]) hX dX11_sure_17 (Nat.le_of_ble_eq_true rfl) rfl ?_
    refine aw_iconst hX dX11_sure_18 zk_0 ?_
    refine aw_istore_n (L' := [some (.ref (X.G.ad 11 0)), some (.int x1), some (.int (0 : Int32)), some (.int (0 : Int32)), none, none, none]) hX dX11_sure_19 (Nat.le_of_ble_eq_true rfl) rfl ?_
    refine aw_iconst hX dX11_sure_20 zk_0 ?_
    refine aw_istore (L' := [some (.ref (X.G.ad 11 0)), some (.int x1), some (.int (0 : Int32)), some (.int (0 : Int32)), some (.int (0 : Int32)), none, none]) hX dX11_sure_21 (Nat.le_of_ble_eq_true rfl) rfl ?_
    exact k
  · have k := k.2 c4
    refine aw_iconst hX dX11_sure_14 zk_m1 ?_
    exact aw_iret hX hr dX11_sure_15 k

set_option maxRecDepth 100000 in
set_option maxHeartbeats 4000000 in
theorem st_X11_sure_23 {X : zX} {lv : Nat} {Post : Option Value → zM → Prop} (hX : zOk X cX11_sure RX11 7 lv) (hr : zRt X (some .int) Post)  {x1 : Int32} {x2 : Int32} {x3 : Int32} {x4 : Int32} {μ : zM}
    (k : (((1 : Int32) <<< ((μ.1 39 0 0) &&& 31)) ≤ x4 → ((¬ x1 = 0 → (Post (some (.int x2)) μ)) ∧ (x1 = 0 → (Post (some (.int x3)) μ)))) ∧ (¬ ((1 : Int32) <<< ((μ.1 39 0 0) &&& 31)) ≤ x4 → (zCallI X lv yX11_gains cX11_gains 5 (some .int) [.ref (X.G.ad 11 0), .int x4, .int (0 : Int32)] μ (fun (r3 : Int32) μ4 => AW X 48 [some (.ref (X.G.ad 11 0)), some (.int x1), some (.int x2), some (.int x3), some (.int x4), some (.int r3), some (.int (1 : Int32))] [] μ4)))) :
    AW X 23 [some (.ref (X.G.ad 11 0)), some (.int x1), some (.int x2), some (.int x3), some (.int x4), none, none] [] μ := by
  refine aw_iload hX dX11_sure_23 rfl ?_
  refine aw_iconst hX dX11_sure_25 zk_1 ?_
  refine aw_aload_n hX dX11_sure_26 rfl ?_
  refine aw_getr (o' := 0) hX kf_X11_22 sh_11 (by decide) rfl rfl dX11_sure_27 ?_
  refine aw_iconst hX dX11_sure_30 zk_0 ?_
  refine aw_iald' (k := 0) hX sh_39 (by decide) (zdi (by decide)) (by decide) dX11_sure_31 ?_
  refine aw_ishl hX dX11_sure_32 ?_
  refine aw_icmp_ge (tgt := 104) hX dX11_sure_33 (by decide) (fun c1 => ?_) (fun c1 => ?_)
  · have k := k.1 c1
    refine aw_iload_n hX dX11_sure_104 rfl ?_
    refine aw_if_ne (tgt := 112) hX dX11_sure_105 (by decide) (fun c2 => ?_) (fun c2 => ?_)
    · have k := k.1 c2
      refine aw_iload_n hX dX11_sure_112 rfl ?_
      exact aw_iret hX hr dX11_sure_113 k
    · have k := k.2 c2
      refine aw_iload_n hX dX11_sure_108 rfl ?_
      refine aw_goto (tgt := 113) hX dX11_sure_109 (by decide) ?_
      exact aw_iret hX hr dX11_sure_113 k
  · have k := k.2 c1
    refine aw_aload_n hX dX11_sure_36 rfl ?_
    refine aw_iload hX dX11_sure_37 rfl ?_
    refine aw_iconst hX dX11_sure_39 zk_0 ?_
    refine aw_invI (As := [.int x4, .int (0 : Int32)]) (rest := []) (κ := 11) (o := 0) (T := TX11) (N := 55) hX vc_X11_411 sh_11 (by decide) rfl rfl rfl (Nat.le_of_ble_eq_true rfl) dX11_sure_40 k (fun r3 μ4 k => ?_)
    refine aw_istore (L' := [some (.ref (X.G.ad 11 0)), some (.int x1), some (.int x2), some (.int x3), some (.int x4), some (.int r3), none]) hX dX11_sure_43 (Nat.le_of_ble_eq_true rfl) rfl ?_
    refine aw_iconst hX dX11_sure_45 zk_1 ?_
    refine aw_istore (L' := [some (.ref (X.G.ad 11 0)), some (.int x1), some (.int x2), some (.int x3), some (.int x4), some (.int r3), some (.int (1 : Int32))]) hX dX11_sure_46 (Nat.le_of_ble_eq_true rfl) rfl ?_
    exact k

set_option maxRecDepth 100000 in
set_option maxHeartbeats 4000000 in
theorem st_X11_sure_48 {X : zX} {lv : Nat} {Post : Option Value → zM → Prop} (hX : zOk X cX11_sure RX11 7 lv) (hr : zRt X (some .int) Post)  {x1 : Int32} {x2 : Int32} {x3 : Int32} {x4 : Int32} {x5 : Int32} {x6 : Int32} {μ : zM}
    (k : zCallI X lv yX11_isWeather cX11_isWeather 2 (some .boolean) [.ref (X.G.ad 11 0), .int x6] μ (fun (r1 : Int32) μ2 => (r1 = 0 → ((x4 ≤ 0 → (∀ v5 : Int32, v5 = x4 + (1 : Int32) → (AW X 23 [some (.ref (X.G.ad 11 0)), some (.int x1), some (.int x4), some (.int x5), some (.int v5), none, none] [] μ2))) ∧ (¬ x4 ≤ 0 → ((x3 < x5 → (∀ v7 : Int32, v7 = x4 + (1 : Int32) → (AW X 23 [some (.ref (X.G.ad 11 0)), some (.int x1), some (.int x4), some (.int x5), some (.int v7), none, none] [] μ2))) ∧ (¬ x3 < x5 → (∀ v8 : Int32, v8 = x4 + (1 : Int32) → (AW X 23 [some (.ref (X.G.ad 11 0)), some (.int x1), some (.int x2), some (.int x3), some (.int v8), none, none] [] μ2))))))) ∧ (¬ r1 = 0 → (zCallI X lv yX11_gains cX11_gains 5 (some .int) [.ref (X.G.ad 11 0), .int x4, .int x6] μ2 (fun (r9 : Int32) μ10 => (0 < lv) ∧ (∀ v12 : Int32, v12 = (if r9 < x5 then r9 else x5) → (∀ v13 : Int32, v13 = x6 + (1 : Int32) → (AW X 48 [some (.ref (X.G.ad 11 0)), some (.int x1), some (.int x2), some (.int x3), some (.int x4), some (.int v12), some (.int v13)] [] μ10)))))))) :
    AW X 48 [some (.ref (X.G.ad 11 0)), some (.int x1), some (.int x2), some (.int x3), some (.int x4), some (.int x5), some (.int x6)] [] μ := by
  refine aw_aload_n hX dX11_sure_48 rfl ?_
  refine aw_iload hX dX11_sure_49 rfl ?_
  refine aw_invI (As := [.int x6]) (rest := []) (κ := 11) (o := 0) (T := TX11) (N := 55) hX vc_X11_356 sh_11 (by decide) rfl rfl rfl (Nat.le_of_ble_eq_true rfl) dX11_sure_51 k (fun r1 μ2 k => ?_)
  refine aw_if_eq (tgt := 78) hX dX11_sure_54 (by decide) (fun c3 => ?_) (fun c3 => ?_)
  · have k := k.1 c3
    refine aw_iload hX dX11_sure_78 rfl ?_
    refine aw_if_le (tgt := 92) hX dX11_sure_80 (by decide) (fun c4 => ?_) (fun c4 => ?_)
    · have k := k.1 c4
      refine aw_iload hX dX11_sure_92 rfl ?_
      refine aw_istore_n (L' := [some (.ref (X.G.ad 11 0)), some (.int x1), some (.int x4), some (.int x3), some (.int x4), some (.int x5), some (.int x6)]) hX dX11_sure_94 (Nat.le_of_ble_eq_true rfl) rfl ?_
      refine aw_iload hX dX11_sure_95 rfl ?_
      refine aw_istore_n (L' := [some (.ref (X.G.ad 11 0)), some (.int x1), some (.int x4), some (.int x5), some (.int x4), some (.int x5), some (.int x6)]) hX dX11_sure_97 (Nat.le_of_ble_eq_true rfl) rfl ?_
      obtain ⟨v5, ev5⟩ : ∃ y : Int32, y = x4 + (1 : Int32) := ⟨_, rfl⟩
      have k := k v5 ev5
      refine aw_iinc (v := v5) (L' := [some (.ref (X.G.ad 11 0)), some (.int x1), some (.int x4), some (.int x5), some (.int v5), some (.int x5), some (.int x6)]) hX dX11_sure_98 rfl (by rw [ev5]; rfl) (Nat.le_of_ble_eq_true rfl) rfl ?_
      refine aw_goto (tgt := 23) hX dX11_sure_101 (by decide) ?_
      exact aw_less (zle_s (zle_s (zle_s (zle_s (zle_s (zle_o (zle_o zle_n))))))) k
    · have k := k.2 c4
      refine aw_iload hX dX11_sure_83 rfl ?_
      refine aw_iload_n hX dX11_sure_85 rfl ?_
      refine aw_icmp_gt (tgt := 92) hX dX11_sure_86 (by decide) (fun c6 => ?_) (fun c6 => ?_)
      · have k := k.1 c6
        refine aw_iload hX dX11_sure_92 rfl ?_
        refine aw_istore_n (L' := [some (.ref (X.G.ad 11 0)), some (.int x1), some (.int x4), some (.int x3), some (.int x4), some (.int x5), some (.int x6)]) hX dX11_sure_94 (Nat.le_of_ble_eq_true rfl) rfl ?_
        refine aw_iload hX dX11_sure_95 rfl ?_
        refine aw_istore_n (L' := [some (.ref (X.G.ad 11 0)), some (.int x1), some (.int x4), some (.int x5), some (.int x4), some (.int x5), some (.int x6)]) hX dX11_sure_97 (Nat.le_of_ble_eq_true rfl) rfl ?_
        obtain ⟨v7, ev7⟩ : ∃ y : Int32, y = x4 + (1 : Int32) := ⟨_, rfl⟩
        have k := k v7 ev7
        refine aw_iinc (v := v7) (L' := [some (.ref (X.G.ad 11 0)), some (.int x1), some (.int x4), some (.int x5), some (.int v7), some (.int x5), some (.int x6)]) hX dX11_sure_98 rfl (by rw [ev7]; rfl) (Nat.le_of_ble_eq_true rfl) rfl ?_
        refine aw_goto (tgt := 23) hX dX11_sure_101 (by decide) ?_
        exact aw_less (zle_s (zle_s (zle_s (zle_s (zle_s (zle_o (zle_o zle_n))))))) k
      · have k := k.2 c6
        refine aw_goto (tgt := 98) hX dX11_sure_89 (by decide) ?_
        obtain ⟨v8, ev8⟩ : ∃ y : Int32, y = x4 + (1 : Int32) := ⟨_, rfl⟩
        have k := k v8 ev8
        refine aw_iinc (v := v8) (L' := [some (.ref (X.G.ad 11 0)), some (.int x1), some (.int x2), some (.int x3), some (.int v8), some (.int x5), some (.int x6)]) hX dX11_sure_98 rfl (by rw [ev8]; rfl) (Nat.le_of_ble_eq_true rfl) rfl ?_
        refine aw_goto (tgt := 23) hX dX11_sure_101 (by decide) ?_
        exact aw_less (zle_s (zle_s (zle_s (zle_s (zle_s (zle_o (zle_o zle_n))))))) k
  · have k := k.2 c3
    refine aw_iload hX dX11_sure_57 rfl ?_
    refine aw_aload_n hX dX11_sure_59 rfl ?_
    refine aw_iload hX dX11_sure_60 rfl ?_
    refine aw_iload hX dX11_sure_62 rfl ?_
    refine aw_invI (As := [.int x4, .int x6]) (rest := [.int x5]) (κ := 11) (o := 0) (T := TX11) (N := 55) hX vc_X11_411 sh_11 (by decide) rfl rfl rfl (Nat.le_of_ble_eq_true rfl) dX11_sure_64 k (fun r9 μ10 k => ?_)
    have s11 := k.1
    have k := k.2
    refine aw_minG gx_mi hX km_X11_331 s11 (Nat.le_of_ble_eq_true rfl) dX11_sure_67 ?_
    refine aw_topi (fun v12 ev12 => ?_)
    have k := k v12 ev12
    refine aw_istore (L' := [some (.ref (X.G.ad 11 0)), some (.int x1), some (.int x2), some (.int x3), some (.int x4), some (.int v12), some (.int x6)]) hX dX11_sure_70 (Nat.le_of_ble_eq_true rfl) rfl ?_
    obtain ⟨v13, ev13⟩ : ∃ y : Int32, y = x6 + (1 : Int32) := ⟨_, rfl⟩
    have k := k v13 ev13
    refine aw_iinc (v := v13) (L' := [some (.ref (X.G.ad 11 0)), some (.int x1), some (.int x2), some (.int x3), some (.int x4), some (.int v12), some (.int v13)]) hX dX11_sure_72 rfl (by rw [ev13]; rfl) (Nat.le_of_ble_eq_true rfl) rfl ?_
    refine aw_goto (tgt := 48) hX dX11_sure_75 (by decide) ?_
    exact k

set_option maxRecDepth 100000 in
set_option maxHeartbeats 4000000 in
theorem st_X11_draws_0 {X : zX} {lv : Nat} {Post : Option Value → zM → Prop} (hX : zOk X cX11_draws RX11 2 lv) (hr : zRt X (some .int) Post)  {x1 : Int32} {μ : zM}
    (k : (¬ (2147483648 : Int64) = 0) ∧ (∀ μ2 : zM, μ2 = pL μ 11 0 53 ((((μ.2 11 0 53) * (1103515245 : Int64)) + (12345 : Int64)) - (((μ.2 11 0 53) * (1103515245 : Int64)) + (12345 : Int64)) / (2147483648 : Int64) * (2147483648 : Int64)) → ((¬ (65536 : Int64) = 0) ∧ ((¬ (Int32.toInt64 x1) = 0) ∧ (Post (some (.int (Int64.toInt32 (((μ2.2 11 0 53) / (65536 : Int64)) - ((μ2.2 11 0 53) / (65536 : Int64)) / (Int32.toInt64 x1) * (Int32.toInt64 x1))))) μ2))))) :
    AW X 0 [some (.ref (X.G.ad 11 0)), some (.int x1)] [] μ := by
  refine aw_aload_n hX dX11_draws_0 rfl ?_
  refine aw_aload_n hX dX11_draws_1 rfl ?_
  refine aw_getl hX kf_X11_414 sh_11 (by decide) rfl dX11_draws_2 ?_
  refine aw_ldc2 hX kl_X11_417 dX11_draws_5 ?_
  refine aw_lmul hX dX11_draws_8 ?_
  refine aw_ldc2 hX kl_X11_419 dX11_draws_9 ?_
  refine aw_ladd hX dX11_draws_12 ?_
  refine aw_ldc2 hX kl_X11_421 dX11_draws_13 ?_
  have s1 := k.1
  have k := k.2
  refine aw_lrem hX dX11_draws_16 s1 ?_
  refine aw_putl hX kp_X11_414 sh_11 (by decide) rfl dX11_draws_17 ?_
  refine aw_mem (fun μ2 eμ2 => ?_)
  have k := k μ2 eμ2
  refine aw_aload_n hX dX11_draws_20 rfl ?_
  refine aw_getl hX kf_X11_414 sh_11 (by decide) rfl dX11_draws_21 ?_
  refine aw_ldc2 hX kl_X11_423 dX11_draws_24 ?_
  have s3 := k.1
  have k := k.2
  refine aw_ldiv hX dX11_draws_27 s3 ?_
  refine aw_iload_n hX dX11_draws_28 rfl ?_
  refine aw_i2l hX dX11_draws_29 ?_
  have s4 := k.1
  have k := k.2
  refine aw_lrem hX dX11_draws_30 s4 ?_
  refine aw_l2i hX dX11_draws_31 ?_
  exact aw_iret hX hr dX11_draws_32 k

set_option maxRecDepth 100000 in
set_option maxHeartbeats 4000000 in
theorem st_X11_lots_0 {X : zX} {lv : Nat} {Post : Option Value → zM → Prop} (hX : zOk X cX11_lots RX11 9 lv) (hr : zRt X (some .int) Post)  {x1 : Int32} {x2 : Int32} {x3 : Int32} {μ : zM}
    (k : ∀ μ1 : zM, μ1 = pI μ 11 0 0 (0 : Int32) → (zCallI X lv yX11_within cX11_within 3 (some .boolean) [.int x1, .int (0 : Int32), .int (9999 : Int32)] μ1 (fun (r2 : Int32) μ3 => (r2 = 0 → (Post (some (.int (-1 : Int32))) μ3)) ∧ (¬ r2 = 0 → (zCallI X lv yX11_within cX11_within 3 (some .boolean) [.int x2, .int (1 : Int32), .int (20 : Int32)] μ3 (fun (r5 : Int32) μ6 => (r5 = 0 → (Post (some (.int (-1 : Int32))) μ6)) ∧ (¬ r5 = 0 → (zCallI X lv yX11_within cX11_within 3 (some .boolean) [.int x3, .int (0 : Int32), .int (3 : Int32)] μ6 (fun (r8 : Int32) μ9 => (¬ r8 = 0 → (∀ μ11 : zM, μ11 = pL μ9 11 0 53 (Int32.toInt64 x1) → (zCallV X lv yX11_copies cX11_copies 5 none [.ref (X.G.ad 70 0), .int (0 : Int32), .ref (X.G.ad 71 0), .int (0 : Int32)] μ11 (fun μ13 => AW X 62 [some (.ref (X.G.ad 11 0)), none, some (.int x2), some (.int x3), some (.int (0 : Int32)), some (.int (0 : Int32)), none, none, none] [] μ13)))) ∧ (r8 = 0 → (Post (some (.int (-1 : Int32))) μ9))))))))))) :
    AW X 0 [some (.ref (X.G.ad 11 0)), some (.int x1), some (.int x2), some (.int x3), none, none, none, none, none] [] μ := by
  refine aw_aload_n hX dX11_lots_0 rfl ?_
  refine aw_iconst hX dX11_lots_1 zk_0 ?_
  refine aw_puti hX kp_X11_132 sh_11 (by decide) rfl rfl rfl dX11_lots_2 ?_
  refine aw_mem (fun μ1 eμ1 => ?_)
  have k := k μ1 eμ1
  refine aw_iload_n hX dX11_lots_5 rfl ?_
  refine aw_iconst hX dX11_lots_6 zk_0 ?_
  refine aw_sipush hX dX11_lots_7 zs_9999 ?_
  refine aw_ivsI (As := [.int x1, .int (0 : Int32), .int (9999 : Int32)]) (rest := []) hX sc_X11_257 rfl rfl (Nat.le_of_ble_eq_true rfl) dX11_lots_10 k (fun r2 μ3 k => ?_)
  refine aw_if_eq (tgt := 35) hX dX11_lots_13 (by decide) (fun c4 => ?_) (fun c4 => ?_)
  · have k := k.1 c4
    refine aw_iconst hX dX11_lots_35 zk_m1 ?_
    exact aw_iret hX hr dX11_lots_36 k
  · have k := k.2 c4
    refine aw_iload_n hX dX11_lots_16 rfl ?_
    refine aw_iconst hX dX11_lots_17 zk_1 ?_
    refine aw_bipush hX dX11_lots_18 zb_20 ?_
    refine aw_ivsI (As := [.int x2, .int (1 : Int32), .int (20 : Int32)]) (rest := []) hX sc_X11_257 rfl rfl (Nat.le_of_ble_eq_true rfl) dX11_lots_20 k (fun r5 μ6 k => ?_)
    refine aw_if_eq (tgt := 35) hX dX11_lots_23 (by decide) (fun c7 => ?_) (fun c7 => ?_)
    · have k := k.1 c7
      refine aw_iconst hX dX11_lots_35 zk_m1 ?_
      exact aw_iret hX hr dX11_lots_36 k
    · have k := k.2 c7
      refine aw_iload_n hX dX11_lots_26 rfl ?_
      refine aw_iconst hX dX11_lots_27 zk_0 ?_
      refine aw_iconst hX dX11_lots_28 zk_3 ?_
      refine aw_ivsI (As := [.int x3, .int (0 : Int32), .int (3 : Int32)]) (rest := []) hX sc_X11_257 rfl rfl (Nat.le_of_ble_eq_true rfl) dX11_lots_29 k (fun r8 μ9 k => ?_)
      refine aw_if_ne (tgt := 37) hX dX11_lots_32 (by decide) (fun c10 => ?_) (fun c10 => ?_)
      · have k := k.1 c10
        refine aw_aload_n hX dX11_lots_37 rfl ?_
        refine aw_iload_n hX dX11_lots_38 rfl ?_
        refine aw_i2l hX dX11_lots_39 ?_
        refine aw_putl hX kp_X11_414 sh_11 (by decide) rfl dX11_lots_40 ?_
        refine aw_mem (fun μ11 eμ11 => ?_)
        have k := k μ11 eμ11
        refine aw_aload_n hX dX11_lots_43 rfl ?_
        refine aw_getr (o' := 0) hX kf_X11_117 sh_11 (by decide) rfl rfl dX11_lots_44 ?_
        refine aw_iconst hX dX11_lots_47 zk_0 ?_
        refine aw_aload_n hX dX11_lots_48 rfl ?_
        refine aw_getr (o' := 0) hX kf_X11_120 sh_11 (by decide) rfl rfl dX11_lots_49 ?_
        refine aw_iconst hX dX11_lots_52 zk_0 ?_
        refine aw_ivsV (As := [.ref (X.G.ad 70 0), .int (0 : Int32), .ref (X.G.ad 71 0), .int (0 : Int32)]) (rest := []) hX sc_X11_352 rfl rfl (Nat.le_of_ble_eq_true rfl) dX11_lots_53 k (fun μ13 k => ?_)
        refine aw_iconst hX dX11_lots_56 zk_0 ?_
        refine aw_istore (L' := [some (.ref (X.G.ad 11 0)), some (.int x1), some (.int x2), some (.int x3), some (.int (0 : Int32)), none, none, none, none]) hX dX11_lots_57 (Nat.le_of_ble_eq_true rfl) rfl ?_
        refine aw_iconst hX dX11_lots_59 zk_0 ?_
        refine aw_istore (L' := [some (.ref (X.G.ad 11 0)), some (.int x1), some (.int x2), some (.int x3), some (.int (0 : Int32)), some (.int (0 : Int32)), none, none, none]) hX dX11_lots_60 (Nat.le_of_ble_eq_true rfl) rfl ?_
        exact aw_less (zle_s (zle_o (zle_s (zle_s (zle_s (zle_s (zle_o (zle_o (zle_o zle_n))))))))) k
      · have k := k.2 c10
        refine aw_iconst hX dX11_lots_35 zk_m1 ?_
        exact aw_iret hX hr dX11_lots_36 k

set_option maxRecDepth 100000 in
set_option maxHeartbeats 4000000 in
theorem st_X11_lots_62 {X : zX} {lv : Nat} {Post : Option Value → zM → Prop} (hX : zOk X cX11_lots RX11 9 lv) (hr : zRt X (some .int) Post)  {x2 : Int32} {x3 : Int32} {x4 : Int32} {x5 : Int32} {μ : zM}
    (k : (x2 ≤ x5 → (Post (some (.int x4)) μ)) ∧ (¬ x2 ≤ x5 → (AW X 71 [some (.ref (X.G.ad 11 0)), none, some (.int x2), some (.int x3), some (.int x4), some (.int x5), some (.int (0 : Int32)), none, none] [] μ))) :
    AW X 62 [some (.ref (X.G.ad 11 0)), none, some (.int x2), some (.int x3), some (.int x4), some (.int x5), none, none, none] [] μ := by
  refine aw_iload hX dX11_lots_62 rfl ?_
  refine aw_iload_n hX dX11_lots_64 rfl ?_
  refine aw_icmp_ge (tgt := 343) hX dX11_lots_65 (by decide) (fun c1 => ?_) (fun c1 => ?_)
  · have k := k.1 c1
    refine aw_iload hX dX11_lots_343 rfl ?_
    exact aw_iret hX hr dX11_lots_345 k
  · have k := k.2 c1
    refine aw_iconst hX dX11_lots_68 zk_0 ?_
    refine aw_istore (L' := [some (.ref (X.G.ad 11 0)), none, some (.int x2), some (.int x3), some (.int x4), some (.int x5), some (.int (0 : Int32)), none, none]) hX dX11_lots_69 (Nat.le_of_ble_eq_true rfl) rfl ?_
    exact k

set_option maxRecDepth 100000 in
set_option maxHeartbeats 4000000 in
theorem st_X11_lots_71 {X : zX} {lv : Nat} {Post : Option Value → zM → Prop} (hX : zOk X cX11_lots RX11 9 lv) (hr : zRt X (some .int) Post)  {x2 : Int32} {x3 : Int32} {x4 : Int32} {x5 : Int32} {x6 : Int32} {μ : zM}
    (k : ((60 : Int32) ≤ x6 → (zCallI X lv yX11_ruinedNow cX11_ruinedNow 3 (some .int) [.ref (X.G.ad 11 0)] μ (fun (r2 : Int32) μ3 => (¬ x3 = (2 : Int32) → (∀ v5 : Int32, v5 = (x4 + (0 : Int32)) → (AW X 206 [some (.ref (X.G.ad 11 0)), none, some (.int x2), some (.int x3), some (.int v5), some (.int x5), some (.int r2), some (.int (0 : Int32)), none] [] μ3))) ∧ (x3 = (2 : Int32) → (∀ v6 : Int32, v6 = (x4 + ((μ3.1 70 0 58) - (μ3.1 71 0 58))) → (AW X 206 [some (.ref (X.G.ad 11 0)), none, some (.int x2), some (.int x3), some (.int v6), some (.int x5), some (.int r2), some (.int (0 : Int32)), none] [] μ3)))))) ∧ (¬ (60 : Int32) ≤ x6 → (AW X 84 [some (.ref (X.G.ad 11 0)), none, some (.int x2), some (.int x3), some (.int x4), some (.int x5), some (.int x6), some (.int (0 : Int32)), some (.int (0 : Int32))] [] μ))) :
    AW X 71 [some (.ref (X.G.ad 11 0)), none, some (.int x2), some (.int x3), some (.int x4), some (.int x5), some (.int x6), none, none] [] μ := by
  refine aw_iload hX dX11_lots_71 rfl ?_
  refine aw_bipush hX dX11_lots_73 zb_60 ?_
  refine aw_icmp_ge (tgt := 168) hX dX11_lots_75 (by decide) (fun c1 => ?_) (fun c1 => ?_)
  · have k := k.1 c1
    refine aw_aload_n hX dX11_lots_168 rfl ?_
    refine aw_invI (As := []) (rest := []) (κ := 11) (o := 0) (T := TX11) (N := 55) hX vc_X11_374 sh_11 (by decide) rfl rfl rfl (Nat.le_of_ble_eq_true rfl) dX11_lots_169 k (fun r2 μ3 k => ?_)
    refine aw_istore (L' := [some (.ref (X.G.ad 11 0)), none, some (.int x2), some (.int x3), some (.int x4), some (.int x5), some (.int r2), none, none]) hX dX11_lots_172 (Nat.le_of_ble_eq_true rfl) rfl ?_
    refine aw_iload hX dX11_lots_174 rfl ?_
    refine aw_iload_n hX dX11_lots_176 rfl ?_
    refine aw_iconst hX dX11_lots_177 zk_2 ?_
    refine aw_icmp_ne (tgt := 199) hX dX11_lots_178 (by decide) (fun c4 => ?_) (fun c4 => ?_)
    · have k := k.1 c4
      refine aw_iconst hX dX11_lots_199 zk_0 ?_
      refine aw_iadd hX dX11_lots_200 ?_
      refine aw_topi (fun v5 ev5 => ?_)
      have k := k v5 ev5
      refine aw_istore (L' := [some (.ref (X.G.ad 11 0)), none, some (.int x2), some (.int x3), some (.int v5), some (.int x5), some (.int r2), none, none]) hX dX11_lots_201 (Nat.le_of_ble_eq_true rfl) rfl ?_
      refine aw_iconst hX dX11_lots_203 zk_0 ?_
      refine aw_istore (L' := [some (.ref (X.G.ad 11 0)), none, some (.int x2), some (.int x3), some (.int v5), some (.int x5), some (.int r2), some (.int (0 : Int32)), none]) hX dX11_lots_204 (Nat.le_of_ble_eq_true rfl) rfl ?_
      exact k
    · have k := k.2 c4
      refine aw_aload_n hX dX11_lots_181 rfl ?_
      refine aw_getr (o' := 0) hX kf_X11_117 sh_11 (by decide) rfl rfl dX11_lots_182 ?_
      refine aw_bipush hX dX11_lots_185 zb_58 ?_
      refine aw_iald' (k := 58) hX sh_70 (by decide) (zdi (by decide)) (by decide) dX11_lots_187 ?_
      refine aw_aload_n hX dX11_lots_188 rfl ?_
      refine aw_getr (o' := 0) hX kf_X11_120 sh_11 (by decide) rfl rfl dX11_lots_189 ?_
      refine aw_bipush hX dX11_lots_192 zb_58 ?_
      refine aw_iald' (k := 58) hX sh_71 (by decide) (zdi (by decide)) (by decide) dX11_lots_194 ?_
      refine aw_isub hX dX11_lots_195 ?_
      refine aw_goto (tgt := 200) hX dX11_lots_196 (by decide) ?_
      refine aw_iadd hX dX11_lots_200 ?_
      refine aw_topi (fun v6 ev6 => ?_)
      have k := k v6 ev6
      refine aw_istore (L' := [some (.ref (X.G.ad 11 0)), none, some (.int x2), some (.int x3), some (.int v6), some (.int x5), some (.int r2), none, none]) hX dX11_lots_201 (Nat.le_of_ble_eq_true rfl) rfl ?_
      refine aw_iconst hX dX11_lots_203 zk_0 ?_
      refine aw_istore (L' := [some (.ref (X.G.ad 11 0)), none, some (.int x2), some (.int x3), some (.int v6), some (.int x5), some (.int r2), some (.int (0 : Int32)), none]) hX dX11_lots_204 (Nat.le_of_ble_eq_true rfl) rfl ?_
      exact k
  · have k := k.2 c1
    refine aw_iconst hX dX11_lots_78 zk_0 ?_
    refine aw_istore (L' := [some (.ref (X.G.ad 11 0)), none, some (.int x2), some (.int x3), some (.int x4), some (.int x5), some (.int x6), some (.int (0 : Int32)), none]) hX dX11_lots_79 (Nat.le_of_ble_eq_true rfl) rfl ?_
    refine aw_iconst hX dX11_lots_81 zk_0 ?_
    refine aw_istore (L' := [some (.ref (X.G.ad 11 0)), none, some (.int x2), some (.int x3), some (.int x4), some (.int x5), some (.int x6), some (.int (0 : Int32)), some (.int (0 : Int32))]) hX dX11_lots_82 (Nat.le_of_ble_eq_true rfl) rfl ?_
    exact k

set_option maxRecDepth 100000 in
set_option maxHeartbeats 4000000 in
theorem st_X11_lots_206 {X : zX} {lv : Nat} {Post : Option Value → zM → Prop} (hX : zOk X cX11_lots RX11 9 lv) (hr : zRt X (some .int) Post)  {x2 : Int32} {x3 : Int32} {x4 : Int32} {x5 : Int32} {x6 : Int32} {x7 : Int32} {μ : zM}
    (k : ((μ.1 38 0 0) ≤ x7 → (AW X 290 [some (.ref (X.G.ad 11 0)), none, some (.int x2), some (.int x3), some (.int x4), some (.int x5), some (.int x6), some (.int (0 : Int32)), none] [] μ)) ∧ (¬ (μ.1 38 0 0) ≤ x7 → ((¬ x3 = 0 → ((¬ x3 = (1 : Int32) → (∀ v4 : Int32, v4 = (x4 + (0 : Int32)) → (∀ v5 : Int32, v5 = x7 + (1 : Int32) → (AW X 206 [some (.ref (X.G.ad 11 0)), none, some (.int x2), some (.int x3), some (.int v4), some (.int x5), some (.int x6), some (.int v5), none] [] μ)))) ∧ (x3 = (1 : Int32) → ((vp_in ((16 : Int32) + x7) 64) ∧ ((¬ (μ.1 70 0 (ix ((16 : Int32) + x7))) = (1 : Int32) → (∀ v8 : Int32, v8 = (x4 + (0 : Int32)) → (∀ v9 : Int32, v9 = x7 + (1 : Int32) → (AW X 206 [some (.ref (X.G.ad 11 0)), none, some (.int x2), some (.int x3), some (.int v8), some (.int x5), some (.int x6), some (.int v9), none] [] μ)))) ∧ ((μ.1 70 0 (ix ((16 : Int32) + x7))) = (1 : Int32) → ((vp_in ((6 : Int32) + x7) 64) ∧ (∀ v11 : Int32, v11 = (x4 + (μ.1 70 0 (ix ((6 : Int32) + x7)))) → (∀ v12 : Int32, v12 = x7 + (1 : Int32) → (AW X 206 [some (.ref (X.G.ad 11 0)), none, some (.int x2), some (.int x3), some (.int v11), some (.int x5), some (.int x6), some (.int v12), none] [] μ)))))))))) ∧ (x3 = 0 → ((vp_in ((16 : Int32) + x7) 64) ∧ ((¬ (μ.1 70 0 (ix ((16 : Int32) + x7))) = (2 : Int32) → (∀ v15 : Int32, v15 = (x4 + (0 : Int32)) → (∀ v16 : Int32, v16 = x7 + (1 : Int32) → (AW X 206 [some (.ref (X.G.ad 11 0)), none, some (.int x2), some (.int x3), some (.int v15), some (.int x5), some (.int x6), some (.int v16), none] [] μ)))) ∧ ((μ.1 70 0 (ix ((16 : Int32) + x7))) = (2 : Int32) → (∀ v17 : Int32, v17 = (x4 + (1 : Int32)) → (∀ v18 : Int32, v18 = x7 + (1 : Int32) → (AW X 206 [some (.ref (X.G.ad 11 0)), none, some (.int x2), some (.int x3), some (.int v17), some (.int x5), some (.int x6), some (.int v18), none] [] μ)))))))))) :
    AW X 206 [some (.ref (X.G.ad 11 0)), none, some (.int x2), some (.int x3), some (.int x4), some (.int x5), some (.int x6), some (.int x7), none] [] μ := by
  refine aw_iload hX dX11_lots_206 rfl ?_
  refine aw_aload_n hX dX11_lots_208 rfl ?_
  refine aw_getr (o' := 0) hX kf_X11_19 sh_11 (by decide) rfl rfl dX11_lots_209 ?_
  refine aw_iconst hX dX11_lots_212 zk_0 ?_
  refine aw_iald' (k := 0) hX sh_38 (by decide) (zdi (by decide)) (by decide) dX11_lots_213 ?_
  refine aw_icmp_ge (tgt := 287) hX dX11_lots_214 (by decide) (fun c1 => ?_) (fun c1 => ?_)
  · have k := k.1 c1
    refine aw_iconst hX dX11_lots_287 zk_0 ?_
    refine aw_istore (L' := [some (.ref (X.G.ad 11 0)), none, some (.int x2), some (.int x3), some (.int x4), some (.int x5), some (.int x6), some (.int (0 : Int32)), none]) hX dX11_lots_288 (Nat.le_of_ble_eq_true rfl) rfl ?_
    exact k
  · have k := k.2 c1
    refine aw_iload hX dX11_lots_217 rfl ?_
    refine aw_iload_n hX dX11_lots_219 rfl ?_
    refine aw_if_ne (tgt := 245) hX dX11_lots_220 (by decide) (fun c2 => ?_) (fun c2 => ?_)
    · have k := k.1 c2
      refine aw_iload_n hX dX11_lots_245 rfl ?_
      refine aw_iconst hX dX11_lots_246 zk_1 ?_
      refine aw_icmp_ne (tgt := 277) hX dX11_lots_247 (by decide) (fun c3 => ?_) (fun c3 => ?_)
      · have k := k.1 c3
        refine aw_iconst hX dX11_lots_277 zk_0 ?_
        refine aw_iadd hX dX11_lots_278 ?_
        refine aw_topi (fun v4 ev4 => ?_)
        have k := k v4 ev4
        refine aw_istore (L' := [some (.ref (X.G.ad 11 0)), none, some (.int x2), some (.int x3), some (.int v4), some (.int x5), some (.int x6), some (.int x7), none]) hX dX11_lots_279 (Nat.le_of_ble_eq_true rfl) rfl ?_
        obtain ⟨v5, ev5⟩ : ∃ y : Int32, y = x7 + (1 : Int32) := ⟨_, rfl⟩
        have k := k v5 ev5
        refine aw_iinc (v := v5) (L' := [some (.ref (X.G.ad 11 0)), none, some (.int x2), some (.int x3), some (.int v4), some (.int x5), some (.int x6), some (.int v5), none]) hX dX11_lots_281 rfl (by rw [ev5]; rfl) (Nat.le_of_ble_eq_true rfl) rfl ?_
        refine aw_goto (tgt := 206) hX dX11_lots_284 (by decide) ?_
        exact k
      · have k := k.2 c3
        refine aw_aload_n hX dX11_lots_250 rfl ?_
        refine aw_getr (o' := 0) hX kf_X11_117 sh_11 (by decide) rfl rfl dX11_lots_251 ?_
        refine aw_bipush hX dX11_lots_254 zb_16 ?_
        refine aw_iload hX dX11_lots_256 rfl ?_
        refine aw_iadd hX dX11_lots_258 ?_
        have s6 := k.1
        have k := k.2
        refine aw_iald' (k := (ix ((16 : Int32) + x7))) hX sh_70 (by decide) s6 rfl dX11_lots_259 ?_
        refine aw_iconst hX dX11_lots_260 zk_1 ?_
        refine aw_icmp_ne (tgt := 277) hX dX11_lots_261 (by decide) (fun c7 => ?_) (fun c7 => ?_)
        · have k := k.1 c7
          refine aw_iconst hX dX11_lots_277 zk_0 ?_
          refine aw_iadd hX dX11_lots_278 ?_
          refine aw_topi (fun v8 ev8 => ?_)
          have k := k v8 ev8
          refine aw_istore (L' := [some (.ref (X.G.ad 11 0)), none, some (.int x2), some (.int x3), some (.int v8), some (.int x5), some (.int x6), some (.int x7), none]) hX dX11_lots_279 (Nat.le_of_ble_eq_true rfl) rfl ?_
          obtain ⟨v9, ev9⟩ : ∃ y : Int32, y = x7 + (1 : Int32) := ⟨_, rfl⟩
          have k := k v9 ev9
          refine aw_iinc (v := v9) (L' := [some (.ref (X.G.ad 11 0)), none, some (.int x2), some (.int x3), some (.int v8), some (.int x5), some (.int x6), some (.int v9), none]) hX dX11_lots_281 rfl (by rw [ev9]; rfl) (Nat.le_of_ble_eq_true rfl) rfl ?_
          refine aw_goto (tgt := 206) hX dX11_lots_284 (by decide) ?_
          exact k
        · have k := k.2 c7
          refine aw_aload_n hX dX11_lots_264 rfl ?_
          refine aw_getr (o' := 0) hX kf_X11_117 sh_11 (by decide) rfl rfl dX11_lots_265 ?_
          refine aw_bipush hX dX11_lots_268 zb_6 ?_
          refine aw_iload hX dX11_lots_270 rfl ?_
          refine aw_iadd hX dX11_lots_272 ?_
          have s10 := k.1
          have k := k.2
          refine aw_iald' (k := (ix ((6 : Int32) + x7))) hX sh_70 (by decide) s10 rfl dX11_lots_273 ?_
          refine aw_goto (tgt := 278) hX dX11_lots_274 (by decide) ?_
          refine aw_iadd hX dX11_lots_278 ?_
          refine aw_topi (fun v11 ev11 => ?_)
          have k := k v11 ev11
          refine aw_istore (L' := [some (.ref (X.G.ad 11 0)), none, some (.int x2), some (.int x3), some (.int v11), some (.int x5), some (.int x6), some (.int x7), none]) hX dX11_lots_279 (Nat.le_of_ble_eq_true rfl) rfl ?_
          obtain ⟨v12, ev12⟩ : ∃ y : Int32, y = x7 + (1 : Int32) := ⟨_, rfl⟩
          have k := k v12 ev12
          refine aw_iinc (v := v12) (L' := [some (.ref (X.G.ad 11 0)), none, some (.int x2), some (.int x3), some (.int v11), some (.int x5), some (.int x6), some (.int v12), none]) hX dX11_lots_281 rfl (by rw [ev12]; rfl) (Nat.le_of_ble_eq_true rfl) rfl ?_
          refine aw_goto (tgt := 206) hX dX11_lots_284 (by decide) ?_
          exact k
    · have k := k.2 c2
      refine aw_aload_n hX dX11_lots_223 rfl ?_
      refine aw_getr (o' := 0) hX kf_X11_117 sh_11 (by decide) rfl rfl dX11_lots_224 ?_
      refine aw_bipush hX dX11_lots_227 zb_16 ?_
      refine aw_iload hX dX11_lots_229 rfl ?_
      refine aw_iadd hX dX11_lots_231 ?_
      have s13 := k.1
      have k := k.2
      refine aw_iald' (k := (ix ((16 : Int32) + x7))) hX sh_70 (by decide) s13 rfl dX11_lots_232 ?_
      refine aw_iconst hX dX11_lots_233 zk_2 ?_
      refine aw_icmp_ne (tgt := 241) hX dX11_lots_234 (by decide) (fun c14 => ?_) (fun c14 => ?_)
      · have k := k.1 c14
        refine aw_iconst hX dX11_lots_241 zk_0 ?_
        refine aw_goto (tgt := 278) hX dX11_lots_242 (by decide) ?_
        refine aw_iadd hX dX11_lots_278 ?_
        refine aw_topi (fun v15 ev15 => ?_)
        have k := k v15 ev15
        refine aw_istore (L' := [some (.ref (X.G.ad 11 0)), none, some (.int x2), some (.int x3), some (.int v15), some (.int x5), some (.int x6), some (.int x7), none]) hX dX11_lots_279 (Nat.le_of_ble_eq_true rfl) rfl ?_
        obtain ⟨v16, ev16⟩ : ∃ y : Int32, y = x7 + (1 : Int32) := ⟨_, rfl⟩
        have k := k v16 ev16
        refine aw_iinc (v := v16) (L' := [some (.ref (X.G.ad 11 0)), none, some (.int x2), some (.int x3), some (.int v15), some (.int x5), some (.int x6), some (.int v16), none]) hX dX11_lots_281 rfl (by rw [ev16]; rfl) (Nat.le_of_ble_eq_true rfl) rfl ?_
        refine aw_goto (tgt := 206) hX dX11_lots_284 (by decide) ?_
        exact k
      · have k := k.2 c14
        refine aw_iconst hX dX11_lots_237 zk_1 ?_
        refine aw_goto (tgt := 278) hX dX11_lots_238 (by decide) ?_
        refine aw_iadd hX dX11_lots_278 ?_
        refine aw_topi (fun v17 ev17 => ?_)
        have k := k v17 ev17
        refine aw_istore (L' := [some (.ref (X.G.ad 11 0)), none, some (.int x2), some (.int x3), some (.int v17), some (.int x5), some (.int x6), some (.int x7), none]) hX dX11_lots_279 (Nat.le_of_ble_eq_true rfl) rfl ?_
        obtain ⟨v18, ev18⟩ : ∃ y : Int32, y = x7 + (1 : Int32) := ⟨_, rfl⟩
        have k := k v18 ev18
        refine aw_iinc (v := v18) (L' := [some (.ref (X.G.ad 11 0)), none, some (.int x2), some (.int x3), some (.int v17), some (.int x5), some (.int x6), some (.int v18), none]) hX dX11_lots_281 rfl (by rw [ev18]; rfl) (Nat.le_of_ble_eq_true rfl) rfl ?_
        refine aw_goto (tgt := 206) hX dX11_lots_284 (by decide) ?_
        exact k

set_option maxRecDepth 100000 in
set_option maxHeartbeats 4000000 in
theorem st_X11_lots_84 {X : zX} {lv : Nat} {Post : Option Value → zM → Prop} (hX : zOk X cX11_lots RX11 9 lv) (hr : zRt X (some .int) Post)  {x2 : Int32} {x3 : Int32} {x4 : Int32} {x5 : Int32} {x6 : Int32} {x7 : Int32} {x8 : Int32} {μ : zM}
    (k : ((μ.1 36 0 0) ≤ x8 → (zCallV X lv yX11_goes cX11_goes 4 none [.ref (X.G.ad 11 0), .int x7] μ (fun μ3 => ∀ v4 : Int32, v4 = x6 + (1 : Int32) → (AW X 71 [some (.ref (X.G.ad 11 0)), none, some (.int x2), some (.int x3), some (.int x4), some (.int x5), some (.int v4), none, none] [] μ3)))) ∧ (¬ (μ.1 36 0 0) ≤ x8 → (zCallI X lv yX11_draws cX11_draws 2 (some .int) [.ref (X.G.ad 11 0), .int (8 : Int32)] μ (fun (r5 : Int32) μ6 => (¬ (((μ6.1 70 0 56) >>> (x8 &&& 31)) &&& (1 : Int32)) = (1 : Int32) → ((vp_in x8 24) ∧ (((μ6.1 42 0 (ix x8)) ≤ r5 → (∀ v10 : Int32, v10 = (x7 ||| (0 : Int32)) → (∀ v11 : Int32, v11 = x8 + (1 : Int32) → (AW X 84 [some (.ref (X.G.ad 11 0)), none, some (.int x2), some (.int x3), some (.int x4), some (.int x5), some (.int x6), some (.int v10), some (.int v11)] [] μ6)))) ∧ (¬ (μ6.1 42 0 (ix x8)) ≤ r5 → (∀ v12 : Int32, v12 = (x7 ||| ((1 : Int32) <<< (x8 &&& 31))) → (∀ v13 : Int32, v13 = x8 + (1 : Int32) → (AW X 84 [some (.ref (X.G.ad 11 0)), none, some (.int x2), some (.int x3), some (.int x4), some (.int x5), some (.int x6), some (.int v12), some (.int v13)] [] μ6))))))) ∧ ((((μ6.1 70 0 56) >>> (x8 &&& 31)) &&& (1 : Int32)) = (1 : Int32) → ((vp_in x8 24) ∧ (((μ6.1 43 0 (ix x8)) ≤ r5 → (∀ v16 : Int32, v16 = (x7 ||| (0 : Int32)) → (∀ v17 : Int32, v17 = x8 + (1 : Int32) → (AW X 84 [some (.ref (X.G.ad 11 0)), none, some (.int x2), some (.int x3), some (.int x4), some (.int x5), some (.int x6), some (.int v16), some (.int v17)] [] μ6)))) ∧ (¬ (μ6.1 43 0 (ix x8)) ≤ r5 → (∀ v18 : Int32, v18 = (x7 ||| ((1 : Int32) <<< (x8 &&& 31))) → (∀ v19 : Int32, v19 = x8 + (1 : Int32) → (AW X 84 [some (.ref (X.G.ad 11 0)), none, some (.int x2), some (.int x3), some (.int x4), some (.int x5), some (.int x6), some (.int v18), some (.int v19)] [] μ6))))))))))) :
    AW X 84 [some (.ref (X.G.ad 11 0)), none, some (.int x2), some (.int x3), some (.int x4), some (.int x5), some (.int x6), some (.int x7), some (.int x8)] [] μ := by
  refine aw_iload hX dX11_lots_84 rfl ?_
  refine aw_aload_n hX dX11_lots_86 rfl ?_
  refine aw_getr (o' := 0) hX kf_X11_13 sh_11 (by decide) rfl rfl dX11_lots_87 ?_
  refine aw_iconst hX dX11_lots_90 zk_0 ?_
  refine aw_iald' (k := 0) hX sh_36 (by decide) (zdi (by decide)) (by decide) dX11_lots_91 ?_
  refine aw_icmp_ge (tgt := 156) hX dX11_lots_92 (by decide) (fun c1 => ?_) (fun c1 => ?_)
  · have k := k.1 c1
    refine aw_aload_n hX dX11_lots_156 rfl ?_
    refine aw_iload hX dX11_lots_157 rfl ?_
    refine aw_invV (As := [.int x7]) (rest := []) (κ := 11) (o := 0) (T := TX11) (N := 55) hX vc_X11_362 sh_11 (by decide) rfl rfl rfl (Nat.le_of_ble_eq_true rfl) dX11_lots_159 k (fun μ3 k => ?_)
    obtain ⟨v4, ev4⟩ : ∃ y : Int32, y = x6 + (1 : Int32) := ⟨_, rfl⟩
    have k := k v4 ev4
    refine aw_iinc (v := v4) (L' := [some (.ref (X.G.ad 11 0)), none, some (.int x2), some (.int x3), some (.int x4), some (.int x5), some (.int v4), some (.int x7), some (.int x8)]) hX dX11_lots_162 rfl (by rw [ev4]; rfl) (Nat.le_of_ble_eq_true rfl) rfl ?_
    refine aw_goto (tgt := 71) hX dX11_lots_165 (by decide) ?_
    exact aw_less (zle_s (zle_o (zle_s (zle_s (zle_s (zle_s (zle_s (zle_o (zle_o zle_n))))))))) k
  · have k := k.2 c1
    refine aw_iload hX dX11_lots_95 rfl ?_
    refine aw_aload_n hX dX11_lots_97 rfl ?_
    refine aw_bipush hX dX11_lots_98 zb_8 ?_
    refine aw_invI (As := [.int (8 : Int32)]) (rest := [.int x7]) (κ := 11) (o := 0) (T := TX11) (N := 55) hX vc_X11_425 sh_11 (by decide) rfl rfl rfl (Nat.le_of_ble_eq_true rfl) dX11_lots_100 k (fun r5 μ6 k => ?_)
    refine aw_aload_n hX dX11_lots_103 rfl ?_
    refine aw_getr (o' := 0) hX kf_X11_117 sh_11 (by decide) rfl rfl dX11_lots_104 ?_
    refine aw_bipush hX dX11_lots_107 zb_56 ?_
    refine aw_iald' (k := 56) hX sh_70 (by decide) (zdi (by decide)) (by decide) dX11_lots_109 ?_
    refine aw_iload hX dX11_lots_110 rfl ?_
    refine aw_ishr hX dX11_lots_112 ?_
    refine aw_iconst hX dX11_lots_113 zk_1 ?_
    refine aw_iand hX dX11_lots_114 ?_
    refine aw_iconst hX dX11_lots_115 zk_1 ?_
    refine aw_icmp_ne (tgt := 129) hX dX11_lots_116 (by decide) (fun c7 => ?_) (fun c7 => ?_)
    · have k := k.1 c7
      refine aw_aload_n hX dX11_lots_129 rfl ?_
      refine aw_getr (o' := 0) hX kf_X11_32 sh_11 (by decide) rfl rfl dX11_lots_130 ?_
      refine aw_iload hX dX11_lots_133 rfl ?_
      have s8 := k.1
      have k := k.2
      refine aw_iald' (k := (ix x8)) hX sh_42 (by decide) s8 rfl dX11_lots_135 ?_
      refine aw_icmp_ge (tgt := 146) hX dX11_lots_136 (by decide) (fun c9 => ?_) (fun c9 => ?_)
      · have k := k.1 c9
        refine aw_iconst hX dX11_lots_146 zk_0 ?_
        refine aw_ior hX dX11_lots_147 ?_
        refine aw_topi (fun v10 ev10 => ?_)
        have k := k v10 ev10
        refine aw_istore (L' := [some (.ref (X.G.ad 11 0)), none, some (.int x2), some (.int x3), some (.int x4), some (.int x5), some (.int x6), some (.int v10), some (.int x8)]) hX dX11_lots_148 (Nat.le_of_ble_eq_true rfl) rfl ?_
        obtain ⟨v11, ev11⟩ : ∃ y : Int32, y = x8 + (1 : Int32) := ⟨_, rfl⟩
        have k := k v11 ev11
        refine aw_iinc (v := v11) (L' := [some (.ref (X.G.ad 11 0)), none, some (.int x2), some (.int x3), some (.int x4), some (.int x5), some (.int x6), some (.int v10), some (.int v11)]) hX dX11_lots_150 rfl (by rw [ev11]; rfl) (Nat.le_of_ble_eq_true rfl) rfl ?_
        refine aw_goto (tgt := 84) hX dX11_lots_153 (by decide) ?_
        exact k
      · have k := k.2 c9
        refine aw_iconst hX dX11_lots_139 zk_1 ?_
        refine aw_iload hX dX11_lots_140 rfl ?_
        refine aw_ishl hX dX11_lots_142 ?_
        refine aw_goto (tgt := 147) hX dX11_lots_143 (by decide) ?_
        refine aw_ior hX dX11_lots_147 ?_
        refine aw_topi (fun v12 ev12 => ?_)
        have k := k v12 ev12
        refine aw_istore (L' := [some (.ref (X.G.ad 11 0)), none, some (.int x2), some (.int x3), some (.int x4), some (.int x5), some (.int x6), some (.int v12), some (.int x8)]) hX dX11_lots_148 (Nat.le_of_ble_eq_true rfl) rfl ?_
        obtain ⟨v13, ev13⟩ : ∃ y : Int32, y = x8 + (1 : Int32) := ⟨_, rfl⟩
        have k := k v13 ev13
        refine aw_iinc (v := v13) (L' := [some (.ref (X.G.ad 11 0)), none, some (.int x2), some (.int x3), some (.int x4), some (.int x5), some (.int x6), some (.int v12), some (.int v13)]) hX dX11_lots_150 rfl (by rw [ev13]; rfl) (Nat.le_of_ble_eq_true rfl) rfl ?_
        refine aw_goto (tgt := 84) hX dX11_lots_153 (by decide) ?_
        exact k
    · have k := k.2 c7
      refine aw_aload_n hX dX11_lots_119 rfl ?_
      refine aw_getr (o' := 0) hX kf_X11_35 sh_11 (by decide) rfl rfl dX11_lots_120 ?_
      refine aw_iload hX dX11_lots_123 rfl ?_
      have s14 := k.1
      have k := k.2
      refine aw_iald' (k := (ix x8)) hX sh_43 (by decide) s14 rfl dX11_lots_125 ?_
      refine aw_goto (tgt := 136) hX dX11_lots_126 (by decide) ?_
      refine aw_icmp_ge (tgt := 146) hX dX11_lots_136 (by decide) (fun c15 => ?_) (fun c15 => ?_)
      · have k := k.1 c15
        refine aw_iconst hX dX11_lots_146 zk_0 ?_
        refine aw_ior hX dX11_lots_147 ?_
        refine aw_topi (fun v16 ev16 => ?_)
        have k := k v16 ev16
        refine aw_istore (L' := [some (.ref (X.G.ad 11 0)), none, some (.int x2), some (.int x3), some (.int x4), some (.int x5), some (.int x6), some (.int v16), some (.int x8)]) hX dX11_lots_148 (Nat.le_of_ble_eq_true rfl) rfl ?_
        obtain ⟨v17, ev17⟩ : ∃ y : Int32, y = x8 + (1 : Int32) := ⟨_, rfl⟩
        have k := k v17 ev17
        refine aw_iinc (v := v17) (L' := [some (.ref (X.G.ad 11 0)), none, some (.int x2), some (.int x3), some (.int x4), some (.int x5), some (.int x6), some (.int v16), some (.int v17)]) hX dX11_lots_150 rfl (by rw [ev17]; rfl) (Nat.le_of_ble_eq_true rfl) rfl ?_
        refine aw_goto (tgt := 84) hX dX11_lots_153 (by decide) ?_
        exact k
      · have k := k.2 c15
        refine aw_iconst hX dX11_lots_139 zk_1 ?_
        refine aw_iload hX dX11_lots_140 rfl ?_
        refine aw_ishl hX dX11_lots_142 ?_
        refine aw_goto (tgt := 147) hX dX11_lots_143 (by decide) ?_
        refine aw_ior hX dX11_lots_147 ?_
        refine aw_topi (fun v18 ev18 => ?_)
        have k := k v18 ev18
        refine aw_istore (L' := [some (.ref (X.G.ad 11 0)), none, some (.int x2), some (.int x3), some (.int x4), some (.int x5), some (.int x6), some (.int v18), some (.int x8)]) hX dX11_lots_148 (Nat.le_of_ble_eq_true rfl) rfl ?_
        obtain ⟨v19, ev19⟩ : ∃ y : Int32, y = x8 + (1 : Int32) := ⟨_, rfl⟩
        have k := k v19 ev19
        refine aw_iinc (v := v19) (L' := [some (.ref (X.G.ad 11 0)), none, some (.int x2), some (.int x3), some (.int x4), some (.int x5), some (.int x6), some (.int v18), some (.int v19)]) hX dX11_lots_150 rfl (by rw [ev19]; rfl) (Nat.le_of_ble_eq_true rfl) rfl ?_
        refine aw_goto (tgt := 84) hX dX11_lots_153 (by decide) ?_
        exact k

set_option maxRecDepth 100000 in
set_option maxHeartbeats 4000000 in
theorem st_X11_lots_290 {X : zX} {lv : Nat} {Post : Option Value → zM → Prop} (hX : zOk X cX11_lots RX11 9 lv) (hr : zRt X (some .int) Post)  {x2 : Int32} {x3 : Int32} {x4 : Int32} {x5 : Int32} {x6 : Int32} {x7 : Int32} {μ : zM}
    (k : ((6 : Int32) ≤ x7 → (zCallV X lv yX11_copies cX11_copies 5 none [.ref (X.G.ad 71 0), .int (0 : Int32), .ref (X.G.ad 70 0), .int (0 : Int32)] μ (fun μ3 => ∀ v4 : Int32, v4 = x5 + (1 : Int32) → (AW X 62 [some (.ref (X.G.ad 11 0)), none, some (.int x2), some (.int x3), some (.int x4), some (.int v4), none, none, none] [] μ3)))) ∧ (¬ (6 : Int32) ≤ x7 → ((¬ x3 = (3 : Int32) → (∀ v6 : Int32, v6 = (x4 + (0 : Int32)) → (∀ v7 : Int32, v7 = x7 + (1 : Int32) → (AW X 290 [some (.ref (X.G.ad 11 0)), none, some (.int x2), some (.int x3), some (.int v6), some (.int x5), some (.int x6), some (.int v7), none] [] μ)))) ∧ (x3 = (3 : Int32) → (∀ v8 : Int32, v8 = (x4 + ((x6 >>> (x7 &&& 31)) &&& (1 : Int32))) → (∀ v9 : Int32, v9 = x7 + (1 : Int32) → (AW X 290 [some (.ref (X.G.ad 11 0)), none, some (.int x2), some (.int x3), some (.int v8), some (.int x5), some (.int x6), some (.int v9), none] [] μ))))))) :
    AW X 290 [some (.ref (X.G.ad 11 0)), none, some (.int x2), some (.int x3), some (.int x4), some (.int x5), some (.int x6), some (.int x7), none] [] μ := by
  refine aw_iload hX dX11_lots_290 rfl ?_
  refine aw_bipush hX dX11_lots_292 zb_6 ?_
  refine aw_icmp_ge (tgt := 324) hX dX11_lots_294 (by decide) (fun c1 => ?_) (fun c1 => ?_)
  · have k := k.1 c1
    refine aw_aload_n hX dX11_lots_324 rfl ?_
    refine aw_getr (o' := 0) hX kf_X11_120 sh_11 (by decide) rfl rfl dX11_lots_325 ?_
    refine aw_iconst hX dX11_lots_328 zk_0 ?_
    refine aw_aload_n hX dX11_lots_329 rfl ?_
    refine aw_getr (o' := 0) hX kf_X11_117 sh_11 (by decide) rfl rfl dX11_lots_330 ?_
    refine aw_iconst hX dX11_lots_333 zk_0 ?_
    refine aw_ivsV (As := [.ref (X.G.ad 71 0), .int (0 : Int32), .ref (X.G.ad 70 0), .int (0 : Int32)]) (rest := []) hX sc_X11_352 rfl rfl (Nat.le_of_ble_eq_true rfl) dX11_lots_334 k (fun μ3 k => ?_)
    obtain ⟨v4, ev4⟩ : ∃ y : Int32, y = x5 + (1 : Int32) := ⟨_, rfl⟩
    have k := k v4 ev4
    refine aw_iinc (v := v4) (L' := [some (.ref (X.G.ad 11 0)), none, some (.int x2), some (.int x3), some (.int x4), some (.int v4), some (.int x6), some (.int x7), none]) hX dX11_lots_337 rfl (by rw [ev4]; rfl) (Nat.le_of_ble_eq_true rfl) rfl ?_
    refine aw_goto (tgt := 62) hX dX11_lots_340 (by decide) ?_
    exact aw_less (zle_s (zle_o (zle_s (zle_s (zle_s (zle_s (zle_o (zle_o (zle_o zle_n))))))))) k
  · have k := k.2 c1
    refine aw_iload hX dX11_lots_297 rfl ?_
    refine aw_iload_n hX dX11_lots_299 rfl ?_
    refine aw_iconst hX dX11_lots_300 zk_3 ?_
    refine aw_icmp_ne (tgt := 314) hX dX11_lots_301 (by decide) (fun c5 => ?_) (fun c5 => ?_)
    · have k := k.1 c5
      refine aw_iconst hX dX11_lots_314 zk_0 ?_
      refine aw_iadd hX dX11_lots_315 ?_
      refine aw_topi (fun v6 ev6 => ?_)
      have k := k v6 ev6
      refine aw_istore (L' := [some (.ref (X.G.ad 11 0)), none, some (.int x2), some (.int x3), some (.int v6), some (.int x5), some (.int x6), some (.int x7), none]) hX dX11_lots_316 (Nat.le_of_ble_eq_true rfl) rfl ?_
      obtain ⟨v7, ev7⟩ : ∃ y : Int32, y = x7 + (1 : Int32) := ⟨_, rfl⟩
      have k := k v7 ev7
      refine aw_iinc (v := v7) (L' := [some (.ref (X.G.ad 11 0)), none, some (.int x2), some (.int x3), some (.int v6), some (.int x5), some (.int x6), some (.int v7), none]) hX dX11_lots_318 rfl (by rw [ev7]; rfl) (Nat.le_of_ble_eq_true rfl) rfl ?_
      refine aw_goto (tgt := 290) hX dX11_lots_321 (by decide) ?_
      exact k
    · have k := k.2 c5
      refine aw_iload hX dX11_lots_304 rfl ?_
      refine aw_iload hX dX11_lots_306 rfl ?_
      refine aw_ishr hX dX11_lots_308 ?_
      refine aw_iconst hX dX11_lots_309 zk_1 ?_
      refine aw_iand hX dX11_lots_310 ?_
      refine aw_goto (tgt := 315) hX dX11_lots_311 (by decide) ?_
      refine aw_iadd hX dX11_lots_315 ?_
      refine aw_topi (fun v8 ev8 => ?_)
      have k := k v8 ev8
      refine aw_istore (L' := [some (.ref (X.G.ad 11 0)), none, some (.int x2), some (.int x3), some (.int v8), some (.int x5), some (.int x6), some (.int x7), none]) hX dX11_lots_316 (Nat.le_of_ble_eq_true rfl) rfl ?_
      obtain ⟨v9, ev9⟩ : ∃ y : Int32, y = x7 + (1 : Int32) := ⟨_, rfl⟩
      have k := k v9 ev9
      refine aw_iinc (v := v9) (L' := [some (.ref (X.G.ad 11 0)), none, some (.int x2), some (.int x3), some (.int v8), some (.int x5), some (.int x6), some (.int v9), none]) hX dX11_lots_318 rfl (by rw [ev9]; rfl) (Nat.le_of_ble_eq_true rfl) rfl ?_
      refine aw_goto (tgt := 290) hX dX11_lots_321 (by decide) ?_
      exact k

set_option maxRecDepth 100000 in
set_option maxHeartbeats 4000000 in
theorem st_X11_mark_0 {X : zX} {lv : Nat} {Post : Option Value → zM → Prop} (hX : zOk X cX11_mark RX11 3 lv) (hr : zRt X (some .boolean) Post)  {x1 : Int32} {x2 : Int32} {μ : zM}
    (k : ∀ μ1 : zM, μ1 = pI μ 11 0 0 (0 : Int32) → (zCallI X lv yX11_within cX11_within 3 (some .boolean) [.int x1, .int (0 : Int32), .int (3 : Int32)] μ1 (fun (r2 : Int32) μ3 => (r2 = 0 → (Post (some (.int (0 : Int32))) μ3)) ∧ (¬ r2 = 0 → ((x2 = 0 → (AW X 29 [some (.ref (X.G.ad 11 0)), some (.int x1), some (.int x2)] [] μ3)) ∧ (¬ x2 = 0 → ((vp_in x1 4) ∧ ((¬ (μ3.1 74 0 (ix x1)) = 0 → (AW X 29 [some (.ref (X.G.ad 11 0)), some (.int x1), some (.int x2)] [] μ3)) ∧ ((μ3.1 74 0 (ix x1)) = 0 → (Post (some (.int (0 : Int32))) μ3)))))))))) :
    AW X 0 [some (.ref (X.G.ad 11 0)), some (.int x1), some (.int x2)] [] μ := by
  refine aw_aload_n hX dX11_mark_0 rfl ?_
  refine aw_iconst hX dX11_mark_1 zk_0 ?_
  refine aw_puti hX kp_X11_132 sh_11 (by decide) rfl rfl rfl dX11_mark_2 ?_
  refine aw_mem (fun μ1 eμ1 => ?_)
  have k := k μ1 eμ1
  refine aw_iload_n hX dX11_mark_5 rfl ?_
  refine aw_iconst hX dX11_mark_6 zk_0 ?_
  refine aw_iconst hX dX11_mark_7 zk_3 ?_
  refine aw_ivsI (As := [.int x1, .int (0 : Int32), .int (3 : Int32)]) (rest := []) hX sc_X11_257 rfl rfl (Nat.le_of_ble_eq_true rfl) dX11_mark_8 k (fun r2 μ3 k => ?_)
  refine aw_if_eq (tgt := 27) hX dX11_mark_11 (by decide) (fun c4 => ?_) (fun c4 => ?_)
  · have k := k.1 c4
    refine aw_iconst hX dX11_mark_27 zk_0 ?_
    exact aw_zret hX hr (by decide) dX11_mark_28 k
  · have k := k.2 c4
    refine aw_iload_n hX dX11_mark_14 rfl ?_
    refine aw_if_eq (tgt := 29) hX dX11_mark_15 (by decide) (fun c5 => ?_) (fun c5 => ?_)
    · have k := k.1 c5
      exact k
    · have k := k.2 c5
      refine aw_aload_n hX dX11_mark_18 rfl ?_
      refine aw_getr (o' := 0) hX kf_X11_129 sh_11 (by decide) rfl rfl dX11_mark_19 ?_
      refine aw_iload_n hX dX11_mark_22 rfl ?_
      have s6 := k.1
      have k := k.2
      refine aw_zald' (k := (ix x1)) hX sh_74 (by decide) s6 rfl dX11_mark_23 ?_
      refine aw_if_ne (tgt := 29) hX dX11_mark_24 (by decide) (fun c7 => ?_) (fun c7 => ?_)
      · have k := k.1 c7
        exact k
      · have k := k.2 c7
        refine aw_iconst hX dX11_mark_27 zk_0 ?_
        exact aw_zret hX hr (by decide) dX11_mark_28 k

set_option maxRecDepth 100000 in
set_option maxHeartbeats 4000000 in
theorem st_X11_mark_29 {X : zX} {lv : Nat} {Post : Option Value → zM → Prop} (hX : zOk X cX11_mark RX11 3 lv) (hr : zRt X (some .boolean) Post)  {x1 : Int32} {x2 : Int32} {μ : zM}
    (k : (vp_in x1 4) ∧ (∀ μ2 : zM, μ2 = pI μ 74 0 (ix x1) (vp_nar .boolean (1 : Int32)) → ((x2 = 0 → (zCallV X lv yX11_lays cX11_lays 4 none [.ref (X.G.ad 11 0), .int (0 : Int32), .int ((2 : Int32) + x1)] μ2 (fun μ5 => zCallV X lv yX11_copies cX11_copies 5 none [.ref (X.G.ad 70 0), .int (0 : Int32), .ref (X.G.ad 73 0), .int ((64 : Int32) * x1)] μ5 (fun μ7 => Post (some (.int (1 : Int32))) μ7)))) ∧ (¬ x2 = 0 → (zCallV X lv yX11_lays cX11_lays 4 none [.ref (X.G.ad 11 0), .int ((2 : Int32) + x1), .int (0 : Int32)] μ2 (fun μ9 => zCallV X lv yX11_copies cX11_copies 5 none [.ref (X.G.ad 73 0), .int ((64 : Int32) * x1), .ref (X.G.ad 70 0), .int (0 : Int32)] μ9 (fun μ11 => ∀ μ12 : zM, μ12 = pI μ11 11 0 50 (0 : Int32) → (Post (some (.int (1 : Int32))) μ12)))))))) :
    AW X 29 [some (.ref (X.G.ad 11 0)), some (.int x1), some (.int x2)] [] μ := by
  refine aw_aload_n hX dX11_mark_29 rfl ?_
  refine aw_getr (o' := 0) hX kf_X11_129 sh_11 (by decide) rfl rfl dX11_mark_30 ?_
  refine aw_iload_n hX dX11_mark_33 rfl ?_
  refine aw_iconst hX dX11_mark_34 zk_1 ?_
  have s1 := k.1
  have k := k.2
  refine aw_zast' (k := (ix x1)) hX sh_74 (by decide) s1 rfl dX11_mark_35 ?_
  refine aw_mem (fun μ2 eμ2 => ?_)
  have k := k μ2 eμ2
  refine aw_iload_n hX dX11_mark_36 rfl ?_
  refine aw_if_eq (tgt := 71) hX dX11_mark_37 (by decide) (fun c3 => ?_) (fun c3 => ?_)
  · have k := k.1 c3
    refine aw_aload_n hX dX11_mark_71 rfl ?_
    refine aw_iconst hX dX11_mark_72 zk_0 ?_
    refine aw_iconst hX dX11_mark_73 zk_2 ?_
    refine aw_iload_n hX dX11_mark_74 rfl ?_
    refine aw_iadd hX dX11_mark_75 ?_
    refine aw_invV (As := [.int (0 : Int32), .int ((2 : Int32) + x1)]) (rest := []) (κ := 11) (o := 0) (T := TX11) (N := 55) hX vc_X11_315 sh_11 (by decide) rfl rfl rfl (Nat.le_of_ble_eq_true rfl) dX11_mark_76 k (fun μ5 k => ?_)
    refine aw_aload_n hX dX11_mark_79 rfl ?_
    refine aw_getr (o' := 0) hX kf_X11_117 sh_11 (by decide) rfl rfl dX11_mark_80 ?_
    refine aw_iconst hX dX11_mark_83 zk_0 ?_
    refine aw_aload_n hX dX11_mark_84 rfl ?_
    refine aw_getr (o' := 0) hX kf_X11_126 sh_11 (by decide) rfl rfl dX11_mark_85 ?_
    refine aw_bipush hX dX11_mark_88 zb_64 ?_
    refine aw_iload_n hX dX11_mark_90 rfl ?_
    refine aw_imul hX dX11_mark_91 ?_
    refine aw_ivsV (As := [.ref (X.G.ad 70 0), .int (0 : Int32), .ref (X.G.ad 73 0), .int ((64 : Int32) * x1)]) (rest := []) hX sc_X11_352 rfl rfl (Nat.le_of_ble_eq_true rfl) dX11_mark_92 k (fun μ7 k => ?_)
    refine aw_iconst hX dX11_mark_95 zk_1 ?_
    exact aw_zret hX hr (by decide) dX11_mark_96 k
  · have k := k.2 c3
    refine aw_aload_n hX dX11_mark_40 rfl ?_
    refine aw_iconst hX dX11_mark_41 zk_2 ?_
    refine aw_iload_n hX dX11_mark_42 rfl ?_
    refine aw_iadd hX dX11_mark_43 ?_
    refine aw_iconst hX dX11_mark_44 zk_0 ?_
    refine aw_invV (As := [.int ((2 : Int32) + x1), .int (0 : Int32)]) (rest := []) (κ := 11) (o := 0) (T := TX11) (N := 55) hX vc_X11_315 sh_11 (by decide) rfl rfl rfl (Nat.le_of_ble_eq_true rfl) dX11_mark_45 k (fun μ9 k => ?_)
    refine aw_aload_n hX dX11_mark_48 rfl ?_
    refine aw_getr (o' := 0) hX kf_X11_126 sh_11 (by decide) rfl rfl dX11_mark_49 ?_
    refine aw_bipush hX dX11_mark_52 zb_64 ?_
    refine aw_iload_n hX dX11_mark_54 rfl ?_
    refine aw_imul hX dX11_mark_55 ?_
    refine aw_aload_n hX dX11_mark_56 rfl ?_
    refine aw_getr (o' := 0) hX kf_X11_117 sh_11 (by decide) rfl rfl dX11_mark_57 ?_
    refine aw_iconst hX dX11_mark_60 zk_0 ?_
    refine aw_ivsV (As := [.ref (X.G.ad 73 0), .int ((64 : Int32) * x1), .ref (X.G.ad 70 0), .int (0 : Int32)]) (rest := []) hX sc_X11_352 rfl rfl (Nat.le_of_ble_eq_true rfl) dX11_mark_61 k (fun μ11 k => ?_)
    refine aw_aload_n hX dX11_mark_64 rfl ?_
    refine aw_iconst hX dX11_mark_65 zk_0 ?_
    refine aw_puti hX kp_X11_319 sh_11 (by decide) rfl rfl rfl dX11_mark_66 ?_
    refine aw_mem (fun μ12 eμ12 => ?_)
    have k := k μ12 eμ12
    refine aw_iconst hX dX11_mark_69 zk_1 ?_
    exact aw_zret hX hr (by decide) dX11_mark_70 k

set_option maxRecDepth 100000 in
set_option maxHeartbeats 4000000 in
theorem st_X11_count_0 {X : zX} {lv : Nat} {Post : Option Value → zM → Prop} (hX : zOk X cX11_count RX11 2 lv) (hr : zRt X (some .int) Post)  {x1 : Int32} {μ : zM}
    (k : ∀ μ1 : zM, μ1 = pI μ 11 0 0 (0 : Int32) → (zCallI X lv yX11_within cX11_within 3 (some .boolean) [.int x1, .int (0 : Int32), .int (7 : Int32)] μ1 (fun (r2 : Int32) μ3 => (¬ r2 = 0 → (((4 : Int32) ≤ x1 → ((¬ x1 = (4 : Int32) → ((¬ x1 = (5 : Int32) → ((¬ x1 = (6 : Int32) → (Post (some (.int (μ3.1 11 0 1))) μ3)) ∧ (x1 = (6 : Int32) → (Post (some (.int (μ3.1 11 0 50))) μ3)))) ∧ (x1 = (5 : Int32) → (Post (some (.int (μ3.1 70 0 58))) μ3)))) ∧ (x1 = (4 : Int32) → (Post (some (.int (μ3.1 70 0 57))) μ3)))) ∧ (¬ (4 : Int32) ≤ x1 → ((¬ x1 = 0 → ((¬ x1 = (1 : Int32) → ((¬ x1 = (2 : Int32) → (Post (some (.int (μ3.1 39 0 0))) μ3)) ∧ (x1 = (2 : Int32) → (Post (some (.int (μ3.1 38 0 0))) μ3)))) ∧ (x1 = (1 : Int32) → (Post (some (.int (μ3.1 37 0 0))) μ3)))) ∧ (x1 = 0 → (Post (some (.int (μ3.1 36 0 0))) μ3)))))) ∧ (r2 = 0 → (Post (some (.int (-1 : Int32))) μ3))))) :
    AW X 0 [some (.ref (X.G.ad 11 0)), some (.int x1)] [] μ := by
  refine aw_aload_n hX dX11_count_0 rfl ?_
  refine aw_iconst hX dX11_count_1 zk_0 ?_
  refine aw_puti hX kp_X11_132 sh_11 (by decide) rfl rfl rfl dX11_count_2 ?_
  refine aw_mem (fun μ1 eμ1 => ?_)
  have k := k μ1 eμ1
  refine aw_iload_n hX dX11_count_5 rfl ?_
  refine aw_iconst hX dX11_count_6 zk_0 ?_
  refine aw_bipush hX dX11_count_7 zb_7 ?_
  refine aw_ivsI (As := [.int x1, .int (0 : Int32), .int (7 : Int32)]) (rest := []) hX sc_X11_257 rfl rfl (Nat.le_of_ble_eq_true rfl) dX11_count_9 k (fun r2 μ3 k => ?_)
  refine aw_if_ne (tgt := 17) hX dX11_count_12 (by decide) (fun c4 => ?_) (fun c4 => ?_)
  · have k := k.1 c4
    refine aw_iload_n hX dX11_count_17 rfl ?_
    refine aw_iconst hX dX11_count_18 zk_4 ?_
    refine aw_icmp_ge (tgt := 70) hX dX11_count_19 (by decide) (fun c5 => ?_) (fun c5 => ?_)
    · have k := k.1 c5
      refine aw_iload_n hX dX11_count_70 rfl ?_
      refine aw_iconst hX dX11_count_71 zk_4 ?_
      refine aw_icmp_ne (tgt := 85) hX dX11_count_72 (by decide) (fun c6 => ?_) (fun c6 => ?_)
      · have k := k.1 c6
        refine aw_iload_n hX dX11_count_85 rfl ?_
        refine aw_iconst hX dX11_count_86 zk_5 ?_
        refine aw_icmp_ne (tgt := 100) hX dX11_count_87 (by decide) (fun c7 => ?_) (fun c7 => ?_)
        · have k := k.1 c7
          refine aw_iload_n hX dX11_count_100 rfl ?_
          refine aw_bipush hX dX11_count_101 zb_6 ?_
          refine aw_icmp_ne (tgt := 113) hX dX11_count_103 (by decide) (fun c8 => ?_) (fun c8 => ?_)
          · have k := k.1 c8
            refine aw_aload_n hX dX11_count_113 rfl ?_
            refine aw_geti hX kf_X11_138 sh_11 (by decide) rfl dX11_count_114 ?_
            exact aw_iret hX hr dX11_count_117 k
          · have k := k.2 c8
            refine aw_aload_n hX dX11_count_106 rfl ?_
            refine aw_geti hX kf_X11_319 sh_11 (by decide) rfl dX11_count_107 ?_
            refine aw_goto (tgt := 117) hX dX11_count_110 (by decide) ?_
            exact aw_iret hX hr dX11_count_117 k
        · have k := k.2 c7
          refine aw_aload_n hX dX11_count_90 rfl ?_
          refine aw_getr (o' := 0) hX kf_X11_117 sh_11 (by decide) rfl rfl dX11_count_91 ?_
          refine aw_bipush hX dX11_count_94 zb_58 ?_
          refine aw_iald' (k := 58) hX sh_70 (by decide) (zdi (by decide)) (by decide) dX11_count_96 ?_
          refine aw_goto (tgt := 117) hX dX11_count_97 (by decide) ?_
          exact aw_iret hX hr dX11_count_117 k
      · have k := k.2 c6
        refine aw_aload_n hX dX11_count_75 rfl ?_
        refine aw_getr (o' := 0) hX kf_X11_117 sh_11 (by decide) rfl rfl dX11_count_76 ?_
        refine aw_bipush hX dX11_count_79 zb_57 ?_
        refine aw_iald' (k := 57) hX sh_70 (by decide) (zdi (by decide)) (by decide) dX11_count_81 ?_
        refine aw_goto (tgt := 117) hX dX11_count_82 (by decide) ?_
        exact aw_iret hX hr dX11_count_117 k
    · have k := k.2 c5
      refine aw_iload_n hX dX11_count_22 rfl ?_
      refine aw_if_ne (tgt := 35) hX dX11_count_23 (by decide) (fun c9 => ?_) (fun c9 => ?_)
      · have k := k.1 c9
        refine aw_iload_n hX dX11_count_35 rfl ?_
        refine aw_iconst hX dX11_count_36 zk_1 ?_
        refine aw_icmp_ne (tgt := 49) hX dX11_count_37 (by decide) (fun c10 => ?_) (fun c10 => ?_)
        · have k := k.1 c10
          refine aw_iload_n hX dX11_count_49 rfl ?_
          refine aw_iconst hX dX11_count_50 zk_2 ?_
          refine aw_icmp_ne (tgt := 63) hX dX11_count_51 (by decide) (fun c11 => ?_) (fun c11 => ?_)
          · have k := k.1 c11
            refine aw_aload_n hX dX11_count_63 rfl ?_
            refine aw_getr (o' := 0) hX kf_X11_22 sh_11 (by decide) rfl rfl dX11_count_64 ?_
            refine aw_iconst hX dX11_count_67 zk_0 ?_
            refine aw_iald' (k := 0) hX sh_39 (by decide) (zdi (by decide)) (by decide) dX11_count_68 ?_
            exact aw_iret hX hr dX11_count_69 k
          · have k := k.2 c11
            refine aw_aload_n hX dX11_count_54 rfl ?_
            refine aw_getr (o' := 0) hX kf_X11_19 sh_11 (by decide) rfl rfl dX11_count_55 ?_
            refine aw_iconst hX dX11_count_58 zk_0 ?_
            refine aw_iald' (k := 0) hX sh_38 (by decide) (zdi (by decide)) (by decide) dX11_count_59 ?_
            refine aw_goto (tgt := 69) hX dX11_count_60 (by decide) ?_
            exact aw_iret hX hr dX11_count_69 k
        · have k := k.2 c10
          refine aw_aload_n hX dX11_count_40 rfl ?_
          refine aw_getr (o' := 0) hX kf_X11_16 sh_11 (by decide) rfl rfl dX11_count_41 ?_
          refine aw_iconst hX dX11_count_44 zk_0 ?_
          refine aw_iald' (k := 0) hX sh_37 (by decide) (zdi (by decide)) (by decide) dX11_count_45 ?_
          refine aw_goto (tgt := 69) hX dX11_count_46 (by decide) ?_
          exact aw_iret hX hr dX11_count_69 k
      · have k := k.2 c9
        refine aw_aload_n hX dX11_count_26 rfl ?_
        refine aw_getr (o' := 0) hX kf_X11_13 sh_11 (by decide) rfl rfl dX11_count_27 ?_
        refine aw_iconst hX dX11_count_30 zk_0 ?_
        refine aw_iald' (k := 0) hX sh_36 (by decide) (zdi (by decide)) (by decide) dX11_count_31 ?_
        refine aw_goto (tgt := 69) hX dX11_count_32 (by decide) ?_
        exact aw_iret hX hr dX11_count_69 k
  · have k := k.2 c4
    refine aw_iconst hX dX11_count_15 zk_m1 ?_
    exact aw_iret hX hr dX11_count_16 k

