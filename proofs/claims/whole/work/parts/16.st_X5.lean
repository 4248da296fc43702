set_option maxRecDepth 100000 in
set_option maxHeartbeats 4000000 in
theorem st_X5_empty_0 {X : zX} {lv : Nat} {Post : Option Value → zM → Prop} (hX : zOk X cX5_empty RX5 1 lv) (hr : zRt X none Post)   {μ : zM}
    (k : ∀ μ1 : zM, μ1 = pI μ 5 0 0 (0 : Int32) → (Post none μ1)) :
    AW X 0 [some (.ref (X.G.ad 5 0))] [] μ := by
  refine aw_aload_n hX dX5_empty_0 rfl ?_
  refine aw_iconst hX dX5_empty_1 zk_0 ?_
  refine aw_puti hX kp_X5_36 sh_5 (by decide) rfl rfl rfl dX5_empty_2 ?_
  refine aw_mem (fun μ1 eμ1 => ?_)
  have k := k μ1 eμ1
  exact aw_vret hX hr dX5_empty_5 k

set_option maxRecDepth 100000 in
set_option maxHeartbeats 4000000 in
theorem st_X5_addBytes_0 {X : zX} {lv : Nat} {Post : Option Value → zM → Prop} (hX : zOk X cX5_addBytes RX5 5 lv) (hr : zRt X none Post)  {x1 : Int64} {μ : zM}
    (k : AW X 3 [some (.ref (X.G.ad 5 0)), some (.long x1), none, some (.int (56 : Int32)), none] [] μ) :
    AW X 0 [some (.ref (X.G.ad 5 0)), some (.long x1), none, none, none] [] μ := by
  refine aw_bipush hX dX5_addBytes_0 zb_56 ?_
  refine aw_istore_n (L' := [some (.ref (X.G.ad 5 0)), some (.long x1), none, some (.int (56 : Int32)), none]) hX dX5_addBytes_2 (Nat.le_of_ble_eq_true rfl) rfl ?_
  exact k

set_option maxRecDepth 100000 in
set_option maxHeartbeats 4000000 in
theorem st_X5_addBytes_3 {X : zX} {lv : Nat} {Post : Option Value → zM → Prop} (hX : zOk X cX5_addBytes RX5 5 lv) (hr : zRt X none Post)  {x1 : Int64} {x3 : Int32} {μ : zM}
    (k : (x3 < 0 → (Post none μ)) ∧ (¬ x3 < 0 → (∀ v2 : Int32, v2 = ((Int64.toInt32 (UInt64.toInt64 (Int64.toUInt64 x1 >>> (Int64.toUInt64 (Int32.toInt64 x3) &&& Int64.toUInt64 63)))) &&& (255 : Int32)) → (((1000 : Int32) ≤ (μ.1 5 0 0) → (∀ v4 : Int32, v4 = x3 + (-8 : Int32) → (AW X 3 [some (.ref (X.G.ad 5 0)), some (.long x1), none, some (.int v4), none] [] μ))) ∧ (¬ (1000 : Int32) ≤ (μ.1 5 0 0) → ((v2 = (10 : Int32) → (AW X 48 [some (.ref (X.G.ad 5 0)), some (.long x1), none, some (.int x3), some (.int v2)] [] μ)) ∧ (¬ v2 = (10 : Int32) → ((v2 < (32 : Int32) → (∀ v7 : Int32, v7 = x3 + (-8 : Int32) → (AW X 3 [some (.ref (X.G.ad 5 0)), some (.long x1), none, some (.int v7), none] [] μ))) ∧ (¬ v2 < (32 : Int32) → (((126 : Int32) < v2 → (∀ v9 : Int32, v9 = x3 + (-8 : Int32) → (AW X 3 [some (.ref (X.G.ad 5 0)), some (.long x1), none, some (.int v9), none] [] μ))) ∧ (¬ (126 : Int32) < v2 → (AW X 48 [some (.ref (X.G.ad 5 0)), some (.long x1), none, some (.int x3), some (.int v2)] [] μ)))))))))))) :
    AW X 3 [some (.ref (X.G.ad 5 0)), some (.long x1), none, some (.int x3), none] [] μ := by
  refine aw_iload_n hX dX5_addBytes_3 rfl ?_
  refine aw_if_lt (tgt := 76) hX dX5_addBytes_4 (by decide) (fun c1 => ?_) (fun c1 => ?_)
  · have k := k.1 c1
    exact aw_vret hX hr dX5_addBytes_76 k
  · have k := k.2 c1
    refine aw_lload_n hX dX5_addBytes_7 rfl ?_
    refine aw_iload_n hX dX5_addBytes_8 rfl ?_
    refine aw_lushr hX dX5_addBytes_9 ?_
    refine aw_l2i hX dX5_addBytes_10 ?_
    refine aw_sipush hX dX5_addBytes_11 zs_255 ?_
    refine aw_iand hX dX5_addBytes_14 ?_
    refine aw_topi (fun v2 ev2 => ?_)
    have k := k v2 ev2
    refine aw_istore (L' := [some (.ref (X.G.ad 5 0)), some (.long x1), none, some (.int x3), some (.int v2)]) hX dX5_addBytes_15 (Nat.le_of_ble_eq_true rfl) rfl ?_
    refine aw_aload_n hX dX5_addBytes_17 rfl ?_
    refine aw_geti hX kf_X5_36 sh_5 (by decide) rfl dX5_addBytes_18 ?_
    refine aw_sipush hX dX5_addBytes_21 zs_1000 ?_
    refine aw_icmp_ge (tgt := 70) hX dX5_addBytes_24 (by decide) (fun c3 => ?_) (fun c3 => ?_)
    · have k := k.1 c3
      obtain ⟨v4, ev4⟩ : ∃ y : Int32, y = x3 + (-8 : Int32) := ⟨_, rfl⟩
      have k := k v4 ev4
      refine aw_iinc (v := v4) (L' := [some (.ref (X.G.ad 5 0)), some (.long x1), none, some (.int v4), some (.int v2)]) hX dX5_addBytes_70 rfl (by rw [ev4]; rfl) (Nat.le_of_ble_eq_true rfl) rfl ?_
      refine aw_goto (tgt := 3) hX dX5_addBytes_73 (by decide) ?_
      exact aw_less (zle_s (zle_s (zle_o (zle_s (zle_o zle_n))))) k
    · have k := k.2 c3
      refine aw_iload hX dX5_addBytes_27 rfl ?_
      refine aw_bipush hX dX5_addBytes_29 zb_10 ?_
      refine aw_icmp_eq (tgt := 48) hX dX5_addBytes_31 (by decide) (fun c5 => ?_) (fun c5 => ?_)
      · have k := k.1 c5
        exact k
      · have k := k.2 c5
        refine aw_iload hX dX5_addBytes_34 rfl ?_
        refine aw_bipush hX dX5_addBytes_36 zb_32 ?_
        refine aw_icmp_lt (tgt := 70) hX dX5_addBytes_38 (by decide) (fun c6 => ?_) (fun c6 => ?_)
        · have k := k.1 c6
          obtain ⟨v7, ev7⟩ : ∃ y : Int32, y = x3 + (-8 : Int32) := ⟨_, rfl⟩
          have k := k v7 ev7
          refine aw_iinc (v := v7) (L' := [some (.ref (X.G.ad 5 0)), some (.long x1), none, some (.int v7), some (.int v2)]) hX dX5_addBytes_70 rfl (by rw [ev7]; rfl) (Nat.le_of_ble_eq_true rfl) rfl ?_
          refine aw_goto (tgt := 3) hX dX5_addBytes_73 (by decide) ?_
          exact aw_less (zle_s (zle_s (zle_o (zle_s (zle_o zle_n))))) k
        · have k := k.2 c6
          refine aw_iload hX dX5_addBytes_41 rfl ?_
          refine aw_bipush hX dX5_addBytes_43 zb_126 ?_
          refine aw_icmp_gt (tgt := 70) hX dX5_addBytes_45 (by decide) (fun c8 => ?_) (fun c8 => ?_)
          · have k := k.1 c8
            obtain ⟨v9, ev9⟩ : ∃ y : Int32, y = x3 + (-8 : Int32) := ⟨_, rfl⟩
            have k := k v9 ev9
            refine aw_iinc (v := v9) (L' := [some (.ref (X.G.ad 5 0)), some (.long x1), none, some (.int v9), some (.int v2)]) hX dX5_addBytes_70 rfl (by rw [ev9]; rfl) (Nat.le_of_ble_eq_true rfl) rfl ?_
            refine aw_goto (tgt := 3) hX dX5_addBytes_73 (by decide) ?_
            exact aw_less (zle_s (zle_s (zle_o (zle_s (zle_o zle_n))))) k
          · have k := k.2 c8
            exact k

set_option maxRecDepth 100000 in
set_option maxHeartbeats 4000000 in
theorem st_X5_addBytes_48 {X : zX} {lv : Nat} {Post : Option Value → zM → Prop} (hX : zOk X cX5_addBytes RX5 5 lv) (hr : zRt X none Post)  {x1 : Int64} {x3 : Int32} {x4 : Int32} {μ : zM}
    (k : (vp_in (μ.1 5 0 0) 1000) ∧ (∀ μ2 : zM, μ2 = pI μ 27 0 (ix (μ.1 5 0 0)) (vp_nar .char (UInt32.toInt32 (Int32.toUInt32 x4 % 65536))) → (∀ μ3 : zM, μ3 = pI μ2 5 0 0 ((μ2.1 5 0 0) + (1 : Int32)) → (∀ v4 : Int32, v4 = x3 + (-8 : Int32) → (AW X 3 [some (.ref (X.G.ad 5 0)), some (.long x1), none, some (.int v4), none] [] μ3))))) :
    AW X 48 [some (.ref (X.G.ad 5 0)), some (.long x1), none, some (.int x3), some (.int x4)] [] μ := by
  refine aw_aload_n hX dX5_addBytes_48 rfl ?_
  refine aw_getr (o' := 0) hX kf_X5_9 sh_5 (by decide) rfl rfl dX5_addBytes_49 ?_
  refine aw_aload_n hX dX5_addBytes_52 rfl ?_
  refine aw_geti hX kf_X5_36 sh_5 (by decide) rfl dX5_addBytes_53 ?_
  refine aw_iload hX dX5_addBytes_56 rfl ?_
  refine aw_i2c hX dX5_addBytes_58 ?_
  have s1 := k.1
  have k := k.2
  refine aw_cast' (k := (ix (μ.1 5 0 0))) hX sh_27 (by decide) s1 rfl dX5_addBytes_59 ?_
  refine aw_mem (fun μ2 eμ2 => ?_)
  have k := k μ2 eμ2
  refine aw_aload_n hX dX5_addBytes_60 rfl ?_
  refine aw_dup hX dX5_addBytes_61 rfl ?_
  refine aw_geti hX kf_X5_36 sh_5 (by decide) rfl dX5_addBytes_62 ?_
  refine aw_iconst hX dX5_addBytes_65 zk_1 ?_
  refine aw_iadd hX dX5_addBytes_66 ?_
  refine aw_puti hX kp_X5_36 sh_5 (by decide) rfl rfl rfl dX5_addBytes_67 ?_
  refine aw_mem (fun μ3 eμ3 => ?_)
  have k := k μ3 eμ3
  obtain ⟨v4, ev4⟩ : ∃ y : Int32, y = x3 + (-8 : Int32) := ⟨_, rfl⟩
  have k := k v4 ev4
  refine aw_iinc (v := v4) (L' := [some (.ref (X.G.ad 5 0)), some (.long x1), none, some (.int v4), some (.int x4)]) hX dX5_addBytes_70 rfl (by rw [ev4]; rfl) (Nat.le_of_ble_eq_true rfl) rfl ?_
  refine aw_goto (tgt := 3) hX dX5_addBytes_73 (by decide) ?_
  exact aw_less (zle_s (zle_s (zle_o (zle_s (zle_o zle_n))))) k

set_option maxRecDepth 100000 in
set_option maxHeartbeats 4000000 in
theorem st_X5_splitNumber_0 {X : zX} {lv : Nat} {Post : Option Value → zM → Prop} (hX : zOk X cX5_splitNumber RX5 5 lv) (hr : zRt X (some .int) Post)  {x1 : Int32} {μ : zM}
    (k : AW X 4 [some (.ref (X.G.ad 5 0)), some (.int x1), some (.int x1), some (.long (0 : Int64)), none] [] μ) :
    AW X 0 [some (.ref (X.G.ad 5 0)), some (.int x1), none, none, none] [] μ := by
  refine aw_iload_n hX dX5_splitNumber_0 rfl ?_
  refine aw_istore_n (L' := [some (.ref (X.G.ad 5 0)), some (.int x1), some (.int x1), none, none]) hX dX5_splitNumber_1 (Nat.le_of_ble_eq_true rfl) rfl ?_
  refine aw_lconst (v := (0 : Int64)) hX dX5_splitNumber_2 (by decide) ?_
  refine aw_lstore_n (L' := [some (.ref (X.G.ad 5 0)), some (.int x1), some (.int x1), some (.long (0 : Int64)), none]) hX dX5_splitNumber_3 (Nat.le_of_ble_eq_true rfl) rfl ?_
  exact k

set_option maxRecDepth 100000 in
set_option maxHeartbeats 4000000 in
theorem st_X5_splitNumber_4 {X : zX} {lv : Nat} {Post : Option Value → zM → Prop} (hX : zOk X cX5_splitNumber RX5 5 lv) (hr : zRt X (some .int) Post)  {x1 : Int32} {x2 : Int32} {x3 : Int64} {μ : zM}
    (k : ((μ.1 5 0 0) ≤ x2 → (AW X 47 [some (.ref (X.G.ad 5 0)), some (.int x1), some (.int x2), some (.long x3), none] [] μ)) ∧ (¬ (μ.1 5 0 0) ≤ x2 → ((vp_in x2 1000) ∧ (zCallI X lv yX5_isDigit cX5_isDigit 1 (some .boolean) [.int (μ.1 27 0 (ix x2))] μ (fun (r3 : Int32) μ4 => (r3 = 0 → (AW X 47 [some (.ref (X.G.ad 5 0)), some (.int x1), some (.int x2), some (.long x3), none] [] μ4)) ∧ (¬ r3 = 0 → (∀ v6 : Int64, v6 = ((x3 * (10 : Int64)) + (Int32.toInt64 ((μ4.1 27 0 (ix x2)) - (48 : Int32)))) → (∀ v7 : Int32, v7 = x2 + (1 : Int32) → (AW X 4 [some (.ref (X.G.ad 5 0)), some (.int x1), some (.int v7), some (.long v6), none] [] μ4))))))))) :
    AW X 4 [some (.ref (X.G.ad 5 0)), some (.int x1), some (.int x2), some (.long x3), none] [] μ := by
  refine aw_iload_n hX dX5_splitNumber_4 rfl ?_
  refine aw_aload_n hX dX5_splitNumber_5 rfl ?_
  refine aw_geti hX kf_X5_36 sh_5 (by decide) rfl dX5_splitNumber_6 ?_
  refine aw_icmp_ge (tgt := 47) hX dX5_splitNumber_9 (by decide) (fun c1 => ?_) (fun c1 => ?_)
  · have k := k.1 c1
    exact k
  · have k := k.2 c1
    refine aw_aload_n hX dX5_splitNumber_12 rfl ?_
    refine aw_getr (o' := 0) hX kf_X5_9 sh_5 (by decide) rfl rfl dX5_splitNumber_13 ?_
    refine aw_iload_n hX dX5_splitNumber_16 rfl ?_
    have s2 := k.1
    have k := k.2
    refine aw_cald' (k := (ix x2)) hX sh_27 (by decide) s2 rfl dX5_splitNumber_17 ?_
    refine aw_ivsI (As := [.int (μ.1 27 0 (ix x2))]) (rest := []) hX sc_X5_55 rfl rfl (Nat.le_of_ble_eq_true rfl) dX5_splitNumber_18 k (fun r3 μ4 k => ?_)
    refine aw_if_eq (tgt := 47) hX dX5_splitNumber_21 (by decide) (fun c5 => ?_) (fun c5 => ?_)
    · have k := k.1 c5
      exact k
    · have k := k.2 c5
      refine aw_lload_n hX dX5_splitNumber_24 rfl ?_
      refine aw_ldc2 hX kl_X5_91 dX5_splitNumber_25 ?_
      refine aw_lmul hX dX5_splitNumber_28 ?_
      refine aw_aload_n hX dX5_splitNumber_29 rfl ?_
      refine aw_getr (o' := 0) hX kf_X5_9 sh_5 (by decide) rfl rfl dX5_splitNumber_30 ?_
      refine aw_iload_n hX dX5_splitNumber_33 rfl ?_
      refine aw_cald' (k := (ix x2)) hX sh_27 (by decide) s2 rfl dX5_splitNumber_34 ?_
      refine aw_bipush hX dX5_splitNumber_35 zb_48 ?_
      refine aw_isub hX dX5_splitNumber_37 ?_
      refine aw_i2l hX dX5_splitNumber_38 ?_
      refine aw_ladd hX dX5_splitNumber_39 ?_
      refine aw_topl (fun v6 ev6 => ?_)
      have k := k v6 ev6
      refine aw_lstore_n (L' := [some (.ref (X.G.ad 5 0)), some (.int x1), some (.int x2), some (.long v6), none]) hX dX5_splitNumber_40 (Nat.le_of_ble_eq_true rfl) rfl ?_
      obtain ⟨v7, ev7⟩ : ∃ y : Int32, y = x2 + (1 : Int32) := ⟨_, rfl⟩
      have k := k v7 ev7
      refine aw_iinc (v := v7) (L' := [some (.ref (X.G.ad 5 0)), some (.int x1), some (.int v7), some (.long v6), none]) hX dX5_splitNumber_41 rfl (by rw [ev7]; rfl) (Nat.le_of_ble_eq_true rfl) rfl ?_
      refine aw_goto (tgt := 4) hX dX5_splitNumber_44 (by decide) ?_
      exact k

set_option maxRecDepth 100000 in
set_option maxHeartbeats 4000000 in
theorem st_X5_splitNumber_47 {X : zX} {lv : Nat} {Post : Option Value → zM → Prop} (hX : zOk X cX5_splitNumber RX5 5 lv) (hr : zRt X (some .int) Post)  {x1 : Int32} {x2 : Int32} {x3 : Int64} {μ : zM}
    (k : (vp_in (μ.1 5 0 1) 1001) ∧ (∀ μ2 : zM, μ2 = pL μ 31 0 (ix (μ.1 5 0 1)) x3 → (((4 : Int32) < (x2 - x1) → ((vp_in (μ2.1 5 0 1) 1001) ∧ (∀ μ5 : zM, μ5 = pI μ2 28 0 (ix (μ2.1 5 0 1)) (4 : Int32) → (Post (some (.int x2)) μ5)))) ∧ (¬ (4 : Int32) < (x2 - x1) → ((vp_in (μ2.1 5 0 1) 1001) ∧ (∀ μ7 : zM, μ7 = pI μ2 28 0 (ix (μ2.1 5 0 1)) (2 : Int32) → (Post (some (.int x2)) μ7))))))) :
    AW X 47 [some (.ref (X.G.ad 5 0)), some (.int x1), some (.int x2), some (.long x3), none] [] μ := by
  refine aw_aload_n hX dX5_splitNumber_47 rfl ?_
  refine aw_getr (o' := 0) hX kf_X5_32 sh_5 (by decide) rfl rfl dX5_splitNumber_48 ?_
  refine aw_aload_n hX dX5_splitNumber_51 rfl ?_
  refine aw_geti hX kf_X5_40 sh_5 (by decide) rfl dX5_splitNumber_52 ?_
  refine aw_lload_n hX dX5_splitNumber_55 rfl ?_
  have s1 := k.1
  have k := k.2
  refine aw_last' (k := (ix (μ.1 5 0 1))) hX sh_31 (by decide) s1 rfl dX5_splitNumber_56 ?_
  refine aw_mem (fun μ2 eμ2 => ?_)
  have k := k μ2 eμ2
  refine aw_aload_n hX dX5_splitNumber_57 rfl ?_
  refine aw_getr (o' := 0) hX kf_X5_15 sh_5 (by decide) rfl rfl dX5_splitNumber_58 ?_
  refine aw_aload_n hX dX5_splitNumber_61 rfl ?_
  refine aw_geti hX kf_X5_40 sh_5 (by decide) rfl dX5_splitNumber_62 ?_
  refine aw_iload_n hX dX5_splitNumber_65 rfl ?_
  refine aw_iload_n hX dX5_splitNumber_66 rfl ?_
  refine aw_isub hX dX5_splitNumber_67 ?_
  refine aw_iconst hX dX5_splitNumber_68 zk_4 ?_
  refine aw_icmp_gt (tgt := 76) hX dX5_splitNumber_69 (by decide) (fun c3 => ?_) (fun c3 => ?_)
  · have k := k.1 c3
    refine aw_iconst hX dX5_splitNumber_76 zk_4 ?_
    have s4 := k.1
    have k := k.2
    refine aw_iast' (k := (ix (μ2.1 5 0 1))) hX sh_28 (by decide) s4 rfl dX5_splitNumber_77 ?_
    refine aw_mem (fun μ5 eμ5 => ?_)
    have k := k μ5 eμ5
    refine aw_iload_n hX dX5_splitNumber_78 rfl ?_
    exact aw_iret hX hr dX5_splitNumber_79 k
  · have k := k.2 c3
    refine aw_iconst hX dX5_splitNumber_72 zk_2 ?_
    refine aw_goto (tgt := 77) hX dX5_splitNumber_73 (by decide) ?_
    have s6 := k.1
    have k := k.2
    refine aw_iast' (k := (ix (μ2.1 5 0 1))) hX sh_28 (by decide) s6 rfl dX5_splitNumber_77 ?_
    refine aw_mem (fun μ7 eμ7 => ?_)
    have k := k μ7 eμ7
    refine aw_iload_n hX dX5_splitNumber_78 rfl ?_
    exact aw_iret hX hr dX5_splitNumber_79 k

set_option maxRecDepth 100000 in
set_option maxHeartbeats 4000000 in
theorem st_X5_isLetter_0 {X : zX} {lv : Nat} {Post : Option Value → zM → Prop} (hX : zOk X cX5_isLetter RX5 1 lv) (hr : zRt X (some .boolean) Post)  {x0 : Int32} {μ : zM}
    (k : (x0 < (97 : Int32) → (Post (some (.int (0 : Int32))) μ)) ∧ (¬ x0 < (97 : Int32) → (((122 : Int32) < x0 → (Post (some (.int (0 : Int32))) μ)) ∧ (¬ (122 : Int32) < x0 → (Post (some (.int (1 : Int32))) μ))))) :
    AW X 0 [some (.int x0)] [] μ := by
  refine aw_iload_n hX dX5_isLetter_0 rfl ?_
  refine aw_bipush hX dX5_isLetter_1 zb_97 ?_
  refine aw_icmp_lt (tgt := 16) hX dX5_isLetter_3 (by decide) (fun c1 => ?_) (fun c1 => ?_)
  · have k := k.1 c1
    refine aw_iconst hX dX5_isLetter_16 zk_0 ?_
    exact aw_zret hX hr (by decide) dX5_isLetter_17 k
  · have k := k.2 c1
    refine aw_iload_n hX dX5_isLetter_6 rfl ?_
    refine aw_bipush hX dX5_isLetter_7 zb_122 ?_
    refine aw_icmp_gt (tgt := 16) hX dX5_isLetter_9 (by decide) (fun c2 => ?_) (fun c2 => ?_)
    · have k := k.1 c2
      refine aw_iconst hX dX5_isLetter_16 zk_0 ?_
      exact aw_zret hX hr (by decide) dX5_isLetter_17 k
    · have k := k.2 c2
      refine aw_iconst hX dX5_isLetter_12 zk_1 ?_
      refine aw_goto (tgt := 17) hX dX5_isLetter_13 (by decide) ?_
      exact aw_zret hX hr (by decide) dX5_isLetter_17 k

set_option maxRecDepth 100000 in
set_option maxHeartbeats 4000000 in
theorem st_X5_isDigit_0 {X : zX} {lv : Nat} {Post : Option Value → zM → Prop} (hX : zOk X cX5_isDigit RX5 1 lv) (hr : zRt X (some .boolean) Post)  {x0 : Int32} {μ : zM}
    (k : (x0 < (48 : Int32) → (Post (some (.int (0 : Int32))) μ)) ∧ (¬ x0 < (48 : Int32) → (((57 : Int32) < x0 → (Post (some (.int (0 : Int32))) μ)) ∧ (¬ (57 : Int32) < x0 → (Post (some (.int (1 : Int32))) μ))))) :
    AW X 0 [some (.int x0)] [] μ := by
  refine aw_iload_n hX dX5_isDigit_0 rfl ?_
  refine aw_bipush hX dX5_isDigit_1 zb_48 ?_
  refine aw_icmp_lt (tgt := 16) hX dX5_isDigit_3 (by decide) (fun c1 => ?_) (fun c1 => ?_)
  · have k := k.1 c1
    refine aw_iconst hX dX5_isDigit_16 zk_0 ?_
    exact aw_zret hX hr (by decide) dX5_isDigit_17 k
  · have k := k.2 c1
    refine aw_iload_n hX dX5_isDigit_6 rfl ?_
    refine aw_bipush hX dX5_isDigit_7 zb_57 ?_
    refine aw_icmp_gt (tgt := 16) hX dX5_isDigit_9 (by decide) (fun c2 => ?_) (fun c2 => ?_)
    · have k := k.1 c2
      refine aw_iconst hX dX5_isDigit_16 zk_0 ?_
      exact aw_zret hX hr (by decide) dX5_isDigit_17 k
    · have k := k.2 c2
      refine aw_iconst hX dX5_isDigit_12 zk_1 ?_
      refine aw_goto (tgt := 17) hX dX5_isDigit_13 (by decide) ?_
      exact aw_zret hX hr (by decide) dX5_isDigit_17 k

set_option maxRecDepth 100000 in
set_option maxHeartbeats 4000000 in
theorem st_X5_readOn_0 {X : zX} {lv : Nat} {Post : Option Value → zM → Prop} (hX : zOk X cX5_readOn RX5 1 lv) (hr : zRt X none Post)   {μ : zM}
    (k : (vp_in (μ.1 5 0 1) 1001) ∧ (((μ.1 28 0 (ix (μ.1 5 0 1))) = 0 → (Post none μ)) ∧ (¬ (μ.1 28 0 (ix (μ.1 5 0 1))) = 0 → (∀ μ3 : zM, μ3 = pI μ 5 0 1 ((μ.1 5 0 1) + (1 : Int32)) → (Post none μ3))))) :
    AW X 0 [some (.ref (X.G.ad 5 0))] [] μ := by
  refine aw_aload_n hX dX5_readOn_0 rfl ?_
  refine aw_getr (o' := 0) hX kf_X5_15 sh_5 (by decide) rfl rfl dX5_readOn_1 ?_
  refine aw_aload_n hX dX5_readOn_4 rfl ?_
  refine aw_geti hX kf_X5_40 sh_5 (by decide) rfl dX5_readOn_5 ?_
  have s1 := k.1
  have k := k.2
  refine aw_iald' (k := (ix (μ.1 5 0 1))) hX sh_28 (by decide) s1 rfl dX5_readOn_8 ?_
  refine aw_if_eq (tgt := 22) hX dX5_readOn_9 (by decide) (fun c2 => ?_) (fun c2 => ?_)
  · have k := k.1 c2
    exact aw_vret hX hr dX5_readOn_22 k
  · have k := k.2 c2
    refine aw_aload_n hX dX5_readOn_12 rfl ?_
    refine aw_dup hX dX5_readOn_13 rfl ?_
    refine aw_geti hX kf_X5_40 sh_5 (by decide) rfl dX5_readOn_14 ?_
    refine aw_iconst hX dX5_readOn_17 zk_1 ?_
    refine aw_iadd hX dX5_readOn_18 ?_
    refine aw_puti hX kp_X5_40 sh_5 (by decide) rfl rfl rfl dX5_readOn_19 ?_
    refine aw_mem (fun μ3 eμ3 => ?_)
    have k := k μ3 eμ3
    exact aw_vret hX hr dX5_readOn_22 k

set_option maxRecDepth 100000 in
set_option maxHeartbeats 4000000 in
theorem st_X5_isAtEnd_0 {X : zX} {lv : Nat} {Post : Option Value → zM → Prop} (hX : zOk X cX5_isAtEnd RX5 1 lv) (hr : zRt X (some .boolean) Post)   {μ : zM}
    (k : (vp_in (μ.1 5 0 1) 1001) ∧ ((¬ (μ.1 28 0 (ix (μ.1 5 0 1))) = 0 → (Post (some (.int (0 : Int32))) μ)) ∧ ((μ.1 28 0 (ix (μ.1 5 0 1))) = 0 → (Post (some (.int (1 : Int32))) μ)))) :
    AW X 0 [some (.ref (X.G.ad 5 0))] [] μ := by
  refine aw_aload_n hX dX5_isAtEnd_0 rfl ?_
  refine aw_getr (o' := 0) hX kf_X5_15 sh_5 (by decide) rfl rfl dX5_isAtEnd_1 ?_
  refine aw_aload_n hX dX5_isAtEnd_4 rfl ?_
  refine aw_geti hX kf_X5_40 sh_5 (by decide) rfl dX5_isAtEnd_5 ?_
  have s1 := k.1
  have k := k.2
  refine aw_iald' (k := (ix (μ.1 5 0 1))) hX sh_28 (by decide) s1 rfl dX5_isAtEnd_8 ?_
  refine aw_if_ne (tgt := 16) hX dX5_isAtEnd_9 (by decide) (fun c2 => ?_) (fun c2 => ?_)
  · have k := k.1 c2
    refine aw_iconst hX dX5_isAtEnd_16 zk_0 ?_
    exact aw_zret hX hr (by decide) dX5_isAtEnd_17 k
  · have k := k.2 c2
    refine aw_iconst hX dX5_isAtEnd_12 zk_1 ?_
    refine aw_goto (tgt := 17) hX dX5_isAtEnd_13 (by decide) ?_
    exact aw_zret hX hr (by decide) dX5_isAtEnd_17 k

set_option maxRecDepth 100000 in
set_option maxHeartbeats 4000000 in
theorem st_X5_isNumber_0 {X : zX} {lv : Nat} {Post : Option Value → zM → Prop} (hX : zOk X cX5_isNumber RX5 1 lv) (hr : zRt X (some .boolean) Post)   {μ : zM}
    (k : (vp_in (μ.1 5 0 1) 1001) ∧ ((¬ (μ.1 28 0 (ix (μ.1 5 0 1))) = (2 : Int32) → (Post (some (.int (0 : Int32))) μ)) ∧ ((μ.1 28 0 (ix (μ.1 5 0 1))) = (2 : Int32) → (Post (some (.int (1 : Int32))) μ)))) :
    AW X 0 [some (.ref (X.G.ad 5 0))] [] μ := by
  refine aw_aload_n hX dX5_isNumber_0 rfl ?_
  refine aw_getr (o' := 0) hX kf_X5_15 sh_5 (by decide) rfl rfl dX5_isNumber_1 ?_
  refine aw_aload_n hX dX5_isNumber_4 rfl ?_
  refine aw_geti hX kf_X5_40 sh_5 (by decide) rfl dX5_isNumber_5 ?_
  have s1 := k.1
  have k := k.2
  refine aw_iald' (k := (ix (μ.1 5 0 1))) hX sh_28 (by decide) s1 rfl dX5_isNumber_8 ?_
  refine aw_iconst hX dX5_isNumber_9 zk_2 ?_
  refine aw_icmp_ne (tgt := 17) hX dX5_isNumber_10 (by decide) (fun c2 => ?_) (fun c2 => ?_)
  · have k := k.1 c2
    refine aw_iconst hX dX5_isNumber_17 zk_0 ?_
    exact aw_zret hX hr (by decide) dX5_isNumber_18 k
  · have k := k.2 c2
    refine aw_iconst hX dX5_isNumber_13 zk_1 ?_
    refine aw_goto (tgt := 18) hX dX5_isNumber_14 (by decide) ?_
    exact aw_zret hX hr (by decide) dX5_isNumber_18 k

set_option maxRecDepth 100000 in
set_option maxHeartbeats 4000000 in
theorem st_X5_isSign_0 {X : zX} {lv : Nat} {Post : Option Value → zM → Prop} (hX : zOk X cX5_isSign RX5 2 lv) (hr : zRt X (some .boolean) Post)  {x1 : Int32} {μ : zM}
    (k : (vp_in (μ.1 5 0 1) 1001) ∧ ((¬ (μ.1 28 0 (ix (μ.1 5 0 1))) = (3 : Int32) → (Post (some (.int (0 : Int32))) μ)) ∧ ((μ.1 28 0 (ix (μ.1 5 0 1))) = (3 : Int32) → ((¬ (lg_cmp (μ.2 31 0 (ix (μ.1 5 0 1))) (Int32.toInt64 x1)) = 0 → (Post (some (.int (0 : Int32))) μ)) ∧ ((lg_cmp (μ.2 31 0 (ix (μ.1 5 0 1))) (Int32.toInt64 x1)) = 0 → (Post (some (.int (1 : Int32))) μ)))))) :
    AW X 0 [some (.ref (X.G.ad 5 0)), some (.int x1)] [] μ := by
  refine aw_aload_n hX dX5_isSign_0 rfl ?_
  refine aw_getr (o' := 0) hX kf_X5_15 sh_5 (by decide) rfl rfl dX5_isSign_1 ?_
  refine aw_aload_n hX dX5_isSign_4 rfl ?_
  refine aw_geti hX kf_X5_40 sh_5 (by decide) rfl dX5_isSign_5 ?_
  have s1 := k.1
  have k := k.2
  refine aw_iald' (k := (ix (μ.1 5 0 1))) hX sh_28 (by decide) s1 rfl dX5_isSign_8 ?_
  refine aw_iconst hX dX5_isSign_9 zk_3 ?_
  refine aw_icmp_ne (tgt := 32) hX dX5_isSign_10 (by decide) (fun c2 => ?_) (fun c2 => ?_)
  · have k := k.1 c2
    refine aw_iconst hX dX5_isSign_32 zk_0 ?_
    exact aw_zret hX hr (by decide) dX5_isSign_33 k
  · have k := k.2 c2
    refine aw_aload_n hX dX5_isSign_13 rfl ?_
    refine aw_getr (o' := 0) hX kf_X5_32 sh_5 (by decide) rfl rfl dX5_isSign_14 ?_
    refine aw_aload_n hX dX5_isSign_17 rfl ?_
    refine aw_geti hX kf_X5_40 sh_5 (by decide) rfl dX5_isSign_18 ?_
    refine aw_lald' (k := (ix (μ.1 5 0 1))) hX sh_31 (by decide) s1 rfl dX5_isSign_21 ?_
    refine aw_iload_n hX dX5_isSign_22 rfl ?_
    refine aw_i2l hX dX5_isSign_23 ?_
    refine aw_lcmp hX dX5_isSign_24 ?_
    refine aw_if_ne (tgt := 32) hX dX5_isSign_25 (by decide) (fun c3 => ?_) (fun c3 => ?_)
    · have k := k.1 c3
      refine aw_iconst hX dX5_isSign_32 zk_0 ?_
      exact aw_zret hX hr (by decide) dX5_isSign_33 k
    · have k := k.2 c3
      refine aw_iconst hX dX5_isSign_28 zk_1 ?_
      refine aw_goto (tgt := 33) hX dX5_isSign_29 (by decide) ?_
      exact aw_zret hX hr (by decide) dX5_isSign_33 k

set_option maxRecDepth 100000 in
set_option maxHeartbeats 4000000 in
theorem st_X5_place_0 {X : zX} {lv : Nat} {Post : Option Value → zM → Prop} (hX : zOk X cX5_place RX5 1 lv) (hr : zRt X (some .int) Post)   {μ : zM}
    (k : (vp_in (μ.1 5 0 1) 1001) ∧ (Post (some (.int (μ.1 29 0 (ix (μ.1 5 0 1))))) μ)) :
    AW X 0 [some (.ref (X.G.ad 5 0))] [] μ := by
  refine aw_aload_n hX dX5_place_0 rfl ?_
  refine aw_getr (o' := 0) hX kf_X5_19 sh_5 (by decide) rfl rfl dX5_place_1 ?_
  refine aw_aload_n hX dX5_place_4 rfl ?_
  refine aw_geti hX kf_X5_40 sh_5 (by decide) rfl dX5_place_5 ?_
  have s1 := k.1
  have k := k.2
  refine aw_iald' (k := (ix (μ.1 5 0 1))) hX sh_29 (by decide) s1 rfl dX5_place_8 ?_
  exact aw_iret hX hr dX5_place_9 k

set_option maxRecDepth 100000 in
set_option maxHeartbeats 4000000 in
theorem st_X5_word_0 {X : zX} {lv : Nat} {Post : Option Value → zM → Prop} (hX : zOk X cX5_word RX5 1 lv) (hr : zRt X (some ((.object "RainLoans$Word"))) Post)   {μ : zM}
    (k : (vp_in (μ.1 5 0 1) 1001) ∧ (Post (some (.ref (X.G.aw (ix (μ.1 30 0 (ix (μ.1 5 0 1))))))) μ)) :
    AW X 0 [some (.ref (X.G.ad 5 0))] [] μ := by
  refine aw_aload_n hX dX5_word_0 rfl ?_
  refine aw_getr (o' := 0) hX kf_X5_24 sh_5 (by decide) rfl rfl dX5_word_1 ?_
  refine aw_aload_n hX dX5_word_4 rfl ?_
  refine aw_geti hX kf_X5_40 sh_5 (by decide) rfl dX5_word_5 ?_
  have s1 := k.1
  have k := k.2
  refine aw_waald' (k := (ix (μ.1 5 0 1))) hX sh_30 (by decide) s1 rfl dX5_word_8 ?_
  exact aw_aret hX hr (Or.inl ⟨_, rfl⟩) dX5_word_9 k

set_option maxRecDepth 100000 in
set_option maxHeartbeats 4000000 in
theorem st_X5_value_0 {X : zX} {lv : Nat} {Post : Option Value → zM → Prop} (hX : zOk X cX5_value RX5 1 lv) (hr : zRt X (some .long) Post)   {μ : zM}
    (k : (vp_in (μ.1 5 0 1) 1001) ∧ (Post (some (.long (μ.2 31 0 (ix (μ.1 5 0 1))))) μ)) :
    AW X 0 [some (.ref (X.G.ad 5 0))] [] μ := by
  refine aw_aload_n hX dX5_value_0 rfl ?_
  refine aw_getr (o' := 0) hX kf_X5_32 sh_5 (by decide) rfl rfl dX5_value_1 ?_
  refine aw_aload_n hX dX5_value_4 rfl ?_
  refine aw_geti hX kf_X5_40 sh_5 (by decide) rfl dX5_value_5 ?_
  have s1 := k.1
  have k := k.2
  refine aw_lald' (k := (ix (μ.1 5 0 1))) hX sh_31 (by decide) s1 rfl dX5_value_8 ?_
  exact aw_lret hX hr dX5_value_9 k

