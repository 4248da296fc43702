set_option maxRecDepth 100000 in
set_option maxHeartbeats 4000000 in
theorem st_J0_length_8abf5_0 {X : zX} {lv : Nat} {Post : Option Value → zM → Prop} (hX : zOk X cJ0_length_8abf5 RJ0 1 lv) (hr : zRt X (some .int) Post) (hE : zHas X.G) {k0 : Nat} (hk0 : k0 < 31)  {μ : zM}
    (k : zCallI X lv yJ0_coder_7d493 cJ0_coder_7d493 1 (some .byte) [.ref (X.G.aw (100 + k0))] μ (fun (r1 : Int32) μ2 => Post (some (.int ((nI (zTl k0)) >>> (r1 &&& 31)))) μ2)) :
    AW X 0 [some (.ref (X.G.aw (100 + k0)))] [] μ := by
  refine aw_aload_n hX dJ0_length_8abf5_0 rfl ?_
  refine aw_gSv hE hX hk0 ks_J0_9 dJ0_length_8abf5_1 ?_
  refine aw_alB hE hX hk0 dJ0_length_8abf5_4 ?_
  refine aw_aload_n hX dJ0_length_8abf5_5 rfl ?_
  refine aw_invTI (As := []) (rest := [.int (nI (zTl k0))]) (i := k0) hE hX hk0 vc_J0_335 rfl rfl rfl (Nat.le_of_ble_eq_true rfl) dJ0_length_8abf5_6 k (fun r1 μ2 k => ?_)
  refine aw_ishr hX dJ0_length_8abf5_9 ?_
  exact aw_iret hX hr dJ0_length_8abf5_10 k

set_option maxRecDepth 100000 in
set_option maxHeartbeats 4000000 in
theorem st_J0_coder_7d493_0 {X : zX} {lv : Nat} {Post : Option Value → zM → Prop} (hX : zOk X cJ0_coder_7d493 RJ0 1 lv) (hr : zRt X (some .byte) Post) (hE : zHas X.G) {k0 : Nat} (hk0 : k0 < 31)  {μ : zM}
    (k : Post (some (.int (0 : Int32))) μ) :
    AW X 0 [some (.ref (X.G.aw (100 + k0)))] [] μ := by
  refine aw_gsC hE hX ks_J0_38 dJ0_coder_7d493_0 ?_
  refine aw_if_eq (tgt := 13) hX dJ0_coder_7d493_3 (by decide) (fun c1 => absurd c1 (by decide)) (fun _ => ?_)
  refine aw_aload_n hX dJ0_coder_7d493_6 rfl ?_
  refine aw_gSc hE hX hk0 ks_J0_15 dJ0_coder_7d493_7 ?_
  refine aw_goto (tgt := 14) hX dJ0_coder_7d493_10 (by decide) ?_
  exact aw_zret hX hr (by decide) dJ0_coder_7d493_14 k

set_option maxRecDepth 100000 in
set_option maxHeartbeats 4000000 in
theorem st_J0_charAt_5068e_0 {X : zX} {lv : Nat} {Post : Option Value → zM → Prop} (hX : zOk X cJ0_charAt_5068e RJ0 2 lv) (hr : zRt X (some .char) Post) (hE : zHas X.G) {k0 : Nat} (hk0 : k0 < 31) {x1 : Int32} {μ : zM}
    (k : zCallI X lv yJ0_isLatin1_aae02 cJ0_isLatin1_aae02 1 (some .boolean) [.ref (X.G.aw (100 + k0))] μ (fun (r1 : Int32) μ2 => (r1 = 0 → (False)) ∧ (¬ r1 = 0 → (zCallI X lv yJ1_charAt_3b067 cJ1_charAt_3b067 2 (some .char) [.ref (X.G.aw (200 + k0)), .int x1] μ2 (fun (r4 : Int32) μ5 => narrow .char (.int r4) = .int r4 ∧ Post (some (.int r4)) μ5))))) :
    AW X 0 [some (.ref (X.G.aw (100 + k0))), some (.int x1)] [] μ := by
  refine aw_aload_n hX dJ0_charAt_5068e_0 rfl ?_
  refine aw_invTI (As := []) (rest := []) (i := k0) hE hX hk0 vc_J0_492 rfl rfl rfl (Nat.le_of_ble_eq_true rfl) dJ0_charAt_5068e_1 k (fun r1 μ2 k => ?_)
  refine aw_if_eq (tgt := 16) hX dJ0_charAt_5068e_4 (by decide) (fun c3 => ?_) (fun c3 => ?_)
  · have k := k.1 c3
    exact k.elim
  · have k := k.2 c3
    refine aw_aload_n hX dJ0_charAt_5068e_7 rfl ?_
    refine aw_gSv hE hX hk0 ks_J0_9 dJ0_charAt_5068e_8 ?_
    refine aw_iload_n hX dJ0_charAt_5068e_11 rfl ?_
    refine aw_ivsI (As := [.ref (X.G.aw (200 + k0)), .int x1]) (rest := []) hX sc_J0_495 rfl rfl (Nat.le_of_ble_eq_true rfl) dJ0_charAt_5068e_12 k (fun r4 μ5 k => ?_)
    exact aw_zret hX hr k.1 dJ0_charAt_5068e_15 k.2

set_option maxRecDepth 100000 in
set_option maxHeartbeats 4000000 in
theorem st_J0_isLatin1_aae02_0 {X : zX} {lv : Nat} {Post : Option Value → zM → Prop} (hX : zOk X cJ0_isLatin1_aae02 RJ0 1 lv) (hr : zRt X (some .boolean) Post) (hE : zHas X.G) {k0 : Nat} (hk0 : k0 < 31)  {μ : zM}
    (k : Post (some (.int (1 : Int32))) μ) :
    AW X 0 [some (.ref (X.G.aw (100 + k0)))] [] μ := by
  refine aw_gsC hE hX ks_J0_38 dJ0_isLatin1_aae02_0 ?_
  refine aw_if_eq (tgt := 17) hX dJ0_isLatin1_aae02_3 (by decide) (fun c1 => absurd c1 (by decide)) (fun _ => ?_)
  refine aw_aload_n hX dJ0_isLatin1_aae02_6 rfl ?_
  refine aw_gSc hE hX hk0 ks_J0_15 dJ0_isLatin1_aae02_7 ?_
  refine aw_if_ne (tgt := 17) hX dJ0_isLatin1_aae02_10 (by decide) (fun c2 => absurd c2 (by decide)) (fun _ => ?_)
  refine aw_iconst hX dJ0_isLatin1_aae02_13 zk_1 ?_
  refine aw_goto (tgt := 18) hX dJ0_isLatin1_aae02_14 (by decide) ?_
  exact aw_zret hX hr (by decide) dJ0_isLatin1_aae02_18 k

set_option maxRecDepth 100000 in
set_option maxHeartbeats 4000000 in
theorem st_J1_charAt_3b067_0 {X : zX} {lv : Nat} {Post : Option Value → zM → Prop} (hX : zOk X cJ1_charAt_3b067 RJ1 2 lv) (hr : zRt X (some .char) Post) (hE : zHas X.G) {k0 : Nat} (hk0 : k0 < 31) {x1 : Int32} {μ : zM}
    (k : zCallV X lv yJ0_checkIndex_df160 cJ0_checkIndex_df160 2 none [.int x1, .int (nI (zTl k0))] μ (fun μ2 => (vp_in x1 (zTl k0)) ∧ (narrow .char (.int (UInt32.toInt32 (Int32.toUInt32 ((zTb k0 (ix x1)) &&& (255 : Int32)) % 65536))) = .int (UInt32.toInt32 (Int32.toUInt32 ((zTb k0 (ix x1)) &&& (255 : Int32)) % 65536)) ∧ Post (some (.int (UInt32.toInt32 (Int32.toUInt32 ((zTb k0 (ix x1)) &&& (255 : Int32)) % 65536)))) μ2))) :
    AW X 0 [some (.ref (X.G.aw (200 + k0))), some (.int x1)] [] μ := by
  refine aw_iload_n hX dJ1_charAt_3b067_0 rfl ?_
  refine aw_aload_n hX dJ1_charAt_3b067_1 rfl ?_
  refine aw_alB hE hX hk0 dJ1_charAt_3b067_2 ?_
  refine aw_ivsV (As := [.int x1, .int (nI (zTl k0))]) (rest := []) hX sc_J1_9 rfl rfl (Nat.le_of_ble_eq_true rfl) dJ1_charAt_3b067_3 k (fun μ2 k => ?_)
  refine aw_aload_n hX dJ1_charAt_3b067_6 rfl ?_
  refine aw_iload_n hX dJ1_charAt_3b067_7 rfl ?_
  have s3 := k.1
  have k := k.2
  refine aw_baB (k := (ix x1)) hE hX hk0 s3 rfl dJ1_charAt_3b067_8 ?_
  refine aw_sipush hX dJ1_charAt_3b067_9 zs_255 ?_
  refine aw_iand hX dJ1_charAt_3b067_12 ?_
  refine aw_i2c hX dJ1_charAt_3b067_13 ?_
  exact aw_zret hX hr k.1 dJ1_charAt_3b067_14 k.2

set_option maxRecDepth 100000 in
set_option maxHeartbeats 4000000 in
theorem st_J0_checkIndex_df160_0 {X : zX} {lv : Nat} {Post : Option Value → zM → Prop} (hX : zOk X cJ0_checkIndex_df160 RJ0 2 lv) (hr : zRt X none Post) (hE : zHas X.G)  {x0 : Int32} {x1 : Int32} {μ : zM}
    (k : ∀ z1 : Value, zNr z1 → (zCallI X lv yJ3_checkIndex_8e157 cJ3_checkIndex_8e157 3 (some .int) [.int x0, .int x1, z1] μ (fun (r2 : Int32) μ3 => Post none μ3))) :
    AW X 0 [some (.int x0), some (.int x1)] [] μ := by
  refine aw_iload_n hX dJ0_checkIndex_df160_0 rfl ?_
  refine aw_iload_n hX dJ0_checkIndex_df160_1 rfl ?_
  refine aw_gsF hE hX ks_J0_1053 dJ0_checkIndex_df160_2 (fun z1 hz1 => ?_)
  have k := k z1 hz1
  refine aw_ivsI (As := [.int x0, .int x1, z1]) (rest := []) hX sc_J0_1059 rfl rfl (Nat.le_of_ble_eq_true rfl) dJ0_checkIndex_df160_5 k (fun r2 μ3 k => ?_)
  refine aw_pop hX dJ0_checkIndex_df160_8 rfl ?_
  exact aw_vret hX hr dJ0_checkIndex_df160_9 k

set_option maxRecDepth 100000 in
set_option maxHeartbeats 4000000 in
theorem st_J3_checkIndex_8e157_0 {X : zX} {lv : Nat} {Post : Option Value → zM → Prop} (hX : zOk X cJ3_checkIndex_8e157 RJ3 3 lv) (hr : zRt X (some .int) Post) {z2 : Value} (hz2 : zNr z2) {x0 : Int32} {x1 : Int32} {μ : zM}
    (k : (x0 < 0 → (False)) ∧ (¬ x0 < 0 → ((x0 < x1 → (Post (some (.int x0)) μ)) ∧ (¬ x0 < x1 → (False))))) :
    AW X 0 [some (.int x0), some (.int x1), some (z2)] [] μ := by
  refine aw_iload_n hX dJ3_checkIndex_8e157_0 rfl ?_
  refine aw_if_lt (tgt := 9) hX dJ3_checkIndex_8e157_1 (by decide) (fun c1 => ?_) (fun c1 => ?_)
  · have k := k.1 c1
    exact k.elim
  · have k := k.2 c1
    refine aw_iload_n hX dJ3_checkIndex_8e157_4 rfl ?_
    refine aw_iload_n hX dJ3_checkIndex_8e157_5 rfl ?_
    refine aw_icmp_lt (tgt := 16) hX dJ3_checkIndex_8e157_6 (by decide) (fun c2 => ?_) (fun c2 => ?_)
    · have k := k.1 c2
      refine aw_iload_n hX dJ3_checkIndex_8e157_16 rfl ?_
      exact aw_iret hX hr dJ3_checkIndex_8e157_17 k
    · have k := k.2 c2
      exact k.elim

set_option maxRecDepth 100000 in
set_option maxHeartbeats 4000000 in
theorem st_J0_indexOf_0f7a4_0 {X : zX} {lv : Nat} {Post : Option Value → zM → Prop} (hX : zOk X cJ0_indexOf_0f7a4 RJ0 2 lv) (hr : zRt X (some .int) Post) (hE : zHas X.G) {k0 : Nat} (hk0 : k0 < 31) {x1 : Int32} {μ : zM}
    (k : zCallI X lv yJ0_indexOf_7cf53 cJ0_indexOf_7cf53 3 (some .int) [.ref (X.G.aw (100 + k0)), .int x1, .int (0 : Int32)] μ (fun (r1 : Int32) μ2 => Post (some (.int r1)) μ2)) :
    AW X 0 [some (.ref (X.G.aw (100 + k0))), some (.int x1)] [] μ := by
  refine aw_aload_n hX dJ0_indexOf_0f7a4_0 rfl ?_
  refine aw_iload_n hX dJ0_indexOf_0f7a4_1 rfl ?_
  refine aw_iconst hX dJ0_indexOf_0f7a4_2 zk_0 ?_
  refine aw_invTI (As := [.int x1, .int (0 : Int32)]) (rest := []) (i := k0) hE hX hk0 vc_J0_633 rfl rfl rfl (Nat.le_of_ble_eq_true rfl) dJ0_indexOf_0f7a4_3 k (fun r1 μ2 k => ?_)
  exact aw_iret hX hr dJ0_indexOf_0f7a4_6 k

set_option maxRecDepth 100000 in
set_option maxHeartbeats 4000000 in
theorem st_J0_indexOf_7cf53_0 {X : zX} {lv : Nat} {Post : Option Value → zM → Prop} (hX : zOk X cJ0_indexOf_7cf53 RJ0 3 lv) (hr : zRt X (some .int) Post) (hE : zHas X.G) {k0 : Nat} (hk0 : k0 < 31) {x1 : Int32} {x2 : Int32} {μ : zM}
    (k : zCallI X lv yJ0_isLatin1_aae02 cJ0_isLatin1_aae02 1 (some .boolean) [.ref (X.G.aw (100 + k0))] μ (fun (r1 : Int32) μ2 => (r1 = 0 → (False)) ∧ (¬ r1 = 0 → (zCallI X lv yJ0_length_8abf5 cJ0_length_8abf5 1 (some .int) [.ref (X.G.aw (100 + k0))] μ2 (fun (r6 : Int32) μ7 => zCallI X lv yJ1_indexOf_4cfef cJ1_indexOf_4cfef 4 (some .int) [.ref (X.G.aw (200 + k0)), .int x1, .int x2, .int r6] μ7 (fun (r8 : Int32) μ9 => Post (some (.int r8)) μ9)))))) :
    AW X 0 [some (.ref (X.G.aw (100 + k0))), some (.int x1), some (.int x2)] [] μ := by
  refine aw_aload_n hX dJ0_indexOf_7cf53_0 rfl ?_
  refine aw_invTI (As := []) (rest := []) (i := k0) hE hX hk0 vc_J0_492 rfl rfl rfl (Nat.le_of_ble_eq_true rfl) dJ0_indexOf_7cf53_1 k (fun r1 μ2 k => ?_)
  refine aw_if_eq (tgt := 23) hX dJ0_indexOf_7cf53_4 (by decide) (fun c3 => ?_) (fun c3 => ?_)
  · have k := k.1 c3
    exact k.elim
  · have k := k.2 c3
    refine aw_aload_n hX dJ0_indexOf_7cf53_7 rfl ?_
    refine aw_gSv hE hX hk0 ks_J0_9 dJ0_indexOf_7cf53_8 ?_
    refine aw_iload_n hX dJ0_indexOf_7cf53_11 rfl ?_
    refine aw_iload_n hX dJ0_indexOf_7cf53_12 rfl ?_
    refine aw_aload_n hX dJ0_indexOf_7cf53_13 rfl ?_
    refine aw_invTI (As := []) (rest := [.int x2, .int x1, .ref (X.G.aw (200 + k0))]) (i := k0) hE hX hk0 vc_J0_505 rfl rfl rfl (Nat.le_of_ble_eq_true rfl) dJ0_indexOf_7cf53_14 k (fun r6 μ7 k => ?_)
    refine aw_ivsI (As := [.ref (X.G.aw (200 + k0)), .int x1, .int x2, .int r6]) (rest := []) hX sc_J0_637 rfl rfl (Nat.le_of_ble_eq_true rfl) dJ0_indexOf_7cf53_17 k (fun r8 μ9 k => ?_)
    refine aw_goto (tgt := 36) hX dJ0_indexOf_7cf53_20 (by decide) ?_
    exact aw_iret hX hr dJ0_indexOf_7cf53_36 k

set_option maxRecDepth 100000 in
set_option maxHeartbeats 4000000 in
theorem st_J1_indexOf_4cfef_0 {X : zX} {lv : Nat} {Post : Option Value → zM → Prop} (hX : zOk X cJ1_indexOf_4cfef RJ1 4 lv) (hr : zRt X (some .int) Post) (hE : zHas X.G) {k0 : Nat} (hk0 : k0 < 31) {x1 : Int32} {x2 : Int32} {x3 : Int32} {μ : zM}
    (k : zCallI X lv yJ1_canEncode_9a6ad cJ1_canEncode_9a6ad 1 (some .boolean) [.int x1] μ (fun (r1 : Int32) μ2 => (¬ r1 = 0 → ((0 < lv) ∧ (∀ v5 : Int32, v5 = (if x2 < (0 : Int32) then (0 : Int32) else x2) → (∀ v6 : Int32, v6 = (if (nI (zTl k0)) < x3 then (nI (zTl k0)) else x3) → ((v5 < v6 → (zCallI X lv yJ1_indexOfChar_4cfef cJ1_indexOfChar_4cfef 6 (some .int) [.ref (X.G.aw (200 + k0)), .int x1, .int v5, .int v6] μ2 (fun (r8 : Int32) μ9 => Post (some (.int r8)) μ9))) ∧ (¬ v5 < v6 → (Post (some (.int (-1 : Int32))) μ2))))))) ∧ (r1 = 0 → (Post (some (.int (-1 : Int32))) μ2)))) :
    AW X 0 [some (.ref (X.G.aw (200 + k0))), some (.int x1), some (.int x2), some (.int x3)] [] μ := by
  refine aw_iload_n hX dJ1_indexOf_4cfef_0 rfl ?_
  refine aw_ivsI (As := [.int x1]) (rest := []) hX sc_J1_88 rfl rfl (Nat.le_of_ble_eq_true rfl) dJ1_indexOf_4cfef_1 k (fun r1 μ2 k => ?_)
  refine aw_if_ne (tgt := 9) hX dJ1_indexOf_4cfef_4 (by decide) (fun c3 => ?_) (fun c3 => ?_)
  · have k := k.1 c3
    refine aw_iload_n hX dJ1_indexOf_4cfef_9 rfl ?_
    refine aw_iconst hX dJ1_indexOf_4cfef_10 zk_0 ?_
    have s4 := k.1
    have k := k.2
    refine aw_maxG gx_ma hX kq_J1_92 s4 (Nat.le_of_ble_eq_true rfl) dJ1_indexOf_4cfef_11 ?_
    refine aw_topi (fun v5 ev5 => ?_)
    have k := k v5 ev5
    refine aw_istore_n (L' := [some (.ref (X.G.aw (200 + k0))), some (.int x1), some (.int v5), some (.int x3)]) hX dJ1_indexOf_4cfef_14 (Nat.le_of_ble_eq_true rfl) rfl ?_
    refine aw_iload_n hX dJ1_indexOf_4cfef_15 rfl ?_
    refine aw_aload_n hX dJ1_indexOf_4cfef_16 rfl ?_
    refine aw_alB hE hX hk0 dJ1_indexOf_4cfef_17 ?_
    refine aw_minG gx_mi hX km_J1_38 s4 (Nat.le_of_ble_eq_true rfl) dJ1_indexOf_4cfef_18 ?_
    refine aw_topi (fun v6 ev6 => ?_)
    have k := k v6 ev6
    refine aw_istore_n (L' := [some (.ref (X.G.aw (200 + k0))), some (.int x1), some (.int v5), some (.int v6)]) hX dJ1_indexOf_4cfef_21 (Nat.le_of_ble_eq_true rfl) rfl ?_
    refine aw_iload_n hX dJ1_indexOf_4cfef_22 rfl ?_
    refine aw_iload_n hX dJ1_indexOf_4cfef_23 rfl ?_
    refine aw_icmp_lt (tgt := 29) hX dJ1_indexOf_4cfef_24 (by decide) (fun c7 => ?_) (fun c7 => ?_)
    · have k := k.1 c7
      refine aw_aload_n hX dJ1_indexOf_4cfef_29 rfl ?_
      refine aw_iload_n hX dJ1_indexOf_4cfef_30 rfl ?_
      refine aw_iload_n hX dJ1_indexOf_4cfef_31 rfl ?_
      refine aw_iload_n hX dJ1_indexOf_4cfef_32 rfl ?_
      refine aw_ivsI (As := [.ref (X.G.aw (200 + k0)), .int x1, .int v5, .int v6]) (rest := []) hX sc_J1_95 rfl rfl (Nat.le_of_ble_eq_true rfl) dJ1_indexOf_4cfef_33 k (fun r8 μ9 k => ?_)
      exact aw_iret hX hr dJ1_indexOf_4cfef_36 k
    · have k := k.2 c7
      refine aw_iconst hX dJ1_indexOf_4cfef_27 zk_m1 ?_
      exact aw_iret hX hr dJ1_indexOf_4cfef_28 k
  · have k := k.2 c3
    refine aw_iconst hX dJ1_indexOf_4cfef_7 zk_m1 ?_
    exact aw_iret hX hr dJ1_indexOf_4cfef_8 k

set_option maxRecDepth 100000 in
set_option maxHeartbeats 4000000 in
theorem st_J1_canEncode_9a6ad_0 {X : zX} {lv : Nat} {Post : Option Value → zM → Prop} (hX : zOk X cJ1_canEncode_9a6ad RJ1 1 lv) (hr : zRt X (some .boolean) Post)  {x0 : Int32} {μ : zM}
    (k : (x0 < 0 → (Post (some (.int (0 : Int32))) μ)) ∧ (¬ x0 < 0 → (((255 : Int32) < x0 → (Post (some (.int (0 : Int32))) μ)) ∧ (¬ (255 : Int32) < x0 → (Post (some (.int (1 : Int32))) μ))))) :
    AW X 0 [some (.int x0)] [] μ := by
  refine aw_iload_n hX dJ1_canEncode_9a6ad_0 rfl ?_
  refine aw_if_lt (tgt := 15) hX dJ1_canEncode_9a6ad_1 (by decide) (fun c1 => ?_) (fun c1 => ?_)
  · have k := k.1 c1
    refine aw_iconst hX dJ1_canEncode_9a6ad_15 zk_0 ?_
    exact aw_zret hX hr (by decide) dJ1_canEncode_9a6ad_16 k
  · have k := k.2 c1
    refine aw_iload_n hX dJ1_canEncode_9a6ad_4 rfl ?_
    refine aw_sipush hX dJ1_canEncode_9a6ad_5 zs_255 ?_
    refine aw_icmp_gt (tgt := 15) hX dJ1_canEncode_9a6ad_8 (by decide) (fun c2 => ?_) (fun c2 => ?_)
    · have k := k.1 c2
      refine aw_iconst hX dJ1_canEncode_9a6ad_15 zk_0 ?_
      exact aw_zret hX hr (by decide) dJ1_canEncode_9a6ad_16 k
    · have k := k.2 c2
      refine aw_iconst hX dJ1_canEncode_9a6ad_11 zk_1 ?_
      refine aw_goto (tgt := 16) hX dJ1_canEncode_9a6ad_12 (by decide) ?_
      exact aw_zret hX hr (by decide) dJ1_canEncode_9a6ad_16 k

set_option maxRecDepth 100000 in
set_option maxHeartbeats 4000000 in
theorem st_J1_indexOfChar_4cfef_0 {X : zX} {lv : Nat} {Post : Option Value → zM → Prop} (hX : zOk X cJ1_indexOfChar_4cfef RJ1 6 lv) (hr : zRt X (some .int) Post) {k0 : Nat} (hk0 : k0 < 31) {x1 : Int32} {x2 : Int32} {x3 : Int32} {μ : zM}
    (k : ∀ v1 : Int32, v1 = (Int8.toInt32 (Int32.toInt8 x1)) → (AW X 7 [some (.ref (X.G.aw (200 + k0))), none, none, some (.int x3), some (.int v1), some (.int x2)] [] μ)) :
    AW X 0 [some (.ref (X.G.aw (200 + k0))), some (.int x1), some (.int x2), some (.int x3), none, none] [] μ := by
  refine aw_iload_n hX dJ1_indexOfChar_4cfef_0 rfl ?_
  refine aw_i2b hX dJ1_indexOfChar_4cfef_1 ?_
  refine aw_topi (fun v1 ev1 => ?_)
  have k := k v1 ev1
  refine aw_istore (L' := [some (.ref (X.G.aw (200 + k0))), some (.int x1), some (.int x2), some (.int x3), some (.int v1), none]) hX dJ1_indexOfChar_4cfef_2 (Nat.le_of_ble_eq_true rfl) rfl ?_
  refine aw_iload_n hX dJ1_indexOfChar_4cfef_4 rfl ?_
  refine aw_istore (L' := [some (.ref (X.G.aw (200 + k0))), some (.int x1), some (.int x2), some (.int x3), some (.int v1), some (.int x2)]) hX dJ1_indexOfChar_4cfef_5 (Nat.le_of_ble_eq_true rfl) rfl ?_
  exact aw_less (zle_s (zle_o (zle_o (zle_s (zle_s (zle_s zle_n)))))) k

set_option maxRecDepth 100000 in
set_option maxHeartbeats 4000000 in
theorem st_J1_indexOfChar_4cfef_7 {X : zX} {lv : Nat} {Post : Option Value → zM → Prop} (hX : zOk X cJ1_indexOfChar_4cfef RJ1 6 lv) (hr : zRt X (some .int) Post) (hE : zHas X.G) {k0 : Nat} (hk0 : k0 < 31) {x3 : Int32} {x4 : Int32} {x5 : Int32} {μ : zM}
    (k : (x3 ≤ x5 → (Post (some (.int (-1 : Int32))) μ)) ∧ (¬ x3 ≤ x5 → ((vp_in x5 (zTl k0)) ∧ ((¬ (zTb k0 (ix x5)) = x4 → (∀ v4 : Int32, v4 = x5 + (1 : Int32) → (AW X 7 [some (.ref (X.G.aw (200 + k0))), none, none, some (.int x3), some (.int x4), some (.int v4)] [] μ))) ∧ ((zTb k0 (ix x5)) = x4 → (Post (some (.int x5)) μ)))))) :
    AW X 7 [some (.ref (X.G.aw (200 + k0))), none, none, some (.int x3), some (.int x4), some (.int x5)] [] μ := by
  refine aw_iload hX dJ1_indexOfChar_4cfef_7 rfl ?_
  refine aw_iload_n hX dJ1_indexOfChar_4cfef_9 rfl ?_
  refine aw_icmp_ge (tgt := 31) hX dJ1_indexOfChar_4cfef_10 (by decide) (fun c1 => ?_) (fun c1 => ?_)
  · have k := k.1 c1
    refine aw_iconst hX dJ1_indexOfChar_4cfef_31 zk_m1 ?_
    exact aw_iret hX hr dJ1_indexOfChar_4cfef_32 k
  · have k := k.2 c1
    refine aw_aload_n hX dJ1_indexOfChar_4cfef_13 rfl ?_
    refine aw_iload hX dJ1_indexOfChar_4cfef_14 rfl ?_
    have s2 := k.1
    have k := k.2
    refine aw_baB (k := (ix x5)) hE hX hk0 s2 rfl dJ1_indexOfChar_4cfef_16 ?_
    refine aw_iload hX dJ1_indexOfChar_4cfef_17 rfl ?_
    refine aw_icmp_ne (tgt := 25) hX dJ1_indexOfChar_4cfef_19 (by decide) (fun c3 => ?_) (fun c3 => ?_)
    · have k := k.1 c3
      obtain ⟨v4, ev4⟩ : ∃ y : Int32, y = x5 + (1 : Int32) := ⟨_, rfl⟩
      have k := k v4 ev4
      refine aw_iinc (v := v4) (L' := [some (.ref (X.G.aw (200 + k0))), none, none, some (.int x3), some (.int x4), some (.int v4)]) hX dJ1_indexOfChar_4cfef_25 rfl (by rw [ev4]; rfl) (Nat.le_of_ble_eq_true rfl) rfl ?_
      refine aw_goto (tgt := 7) hX dJ1_indexOfChar_4cfef_28 (by decide) ?_
      exact k
    · have k := k.2 c3
      refine aw_iload hX dJ1_indexOfChar_4cfef_22 rfl ?_
      exact aw_iret hX hr dJ1_indexOfChar_4cfef_24 k

