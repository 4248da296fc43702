set_option maxRecDepth 100000 in
set_option maxHeartbeats 4000000 in
theorem st_X3_lay_0 {X : zX} {lv : Nat} {Post : Option Value → zM → Prop} (hX : zOk X cX3_lay RX3 3 lv) (hr : zRt X none Post) {o0 : Nat} (ho0 : o0 < 4) {o1 : Nat} (ho1 : o1 < 6) {o2 : Nat} (ho2 : o2 < 49)  {μ : zM}
    (k : ∀ μ1 : zM, μ1 = pI μ 3 o0 0 (1 : Int32) → (zCallV X lv yX2_copyFrom cX2_copyFrom 3 none [.ref (X.G.ad 2 (o0 + 2)), .ref (X.G.ad 2 o1)] μ1 (fun μ4 => zCallV X lv yX1_copyFrom cX1_copyFrom 2 none [.ref (X.G.ad 1 (o0 + 45)), .ref (X.G.ad 1 o2)] μ4 (fun μ7 => Post none μ7)))) :
    AW X 0 [some (.ref (X.G.ad 3 o0)), some (.ref (X.G.ad 2 o1)), some (.ref (X.G.ad 1 o2))] [] μ := by
  refine aw_aload_n hX dX3_lay_0 rfl ?_
  refine aw_iconst hX dX3_lay_1 zk_1 ?_
  refine aw_puti hX kp_X3_23 sh_3 ho0 rfl (by decide) (by decide) dX3_lay_2 ?_
  refine aw_mem (fun μ1 eμ1 => ?_)
  have k := k μ1 eμ1
  refine aw_aload_n hX dX3_lay_5 rfl ?_
  refine aw_getr (o' := (o0 + 2)) hX kf_X3_10 sh_3 ho0 rfl (zm1 o0 2) dX3_lay_6 ?_
  have w2 : (o0 + 2) < 6 := by omega
  refine aw_aload_n hX dX3_lay_9 rfl ?_
  refine aw_invV (As := [.ref (X.G.ad 2 o1)]) (rest := []) (κ := 2) (o := (o0 + 2)) (T := TX2) (N := 11) hX vc_X3_27 sh_2 w2 rfl rfl rfl (Nat.le_of_ble_eq_true rfl) dX3_lay_10 k (fun μ4 k => ?_)
  refine aw_aload_n hX dX3_lay_13 rfl ?_
  refine aw_getr (o' := (o0 + 45)) hX kf_X3_19 sh_3 ho0 rfl (zm1 o0 45) dX3_lay_14 ?_
  have w5 : (o0 + 45) < 49 := by omega
  refine aw_aload_n hX dX3_lay_17 rfl ?_
  refine aw_invV (As := [.ref (X.G.ad 1 o2)]) (rest := []) (κ := 1) (o := (o0 + 45)) (T := TX1) (N := 9) hX vc_X3_31 sh_1 w5 rfl rfl rfl (Nat.le_of_ble_eq_true rfl) dX3_lay_18 k (fun μ7 k => ?_)
  exact aw_vret hX hr dX3_lay_21 k

