/-! GAIN of the class -/
section GN
variable {l : Launch} {G : zG} {μ : zM} {x1 x2 : Int32} {cu : zB} {vw : zV3}
/-- may it be asked? -/
def gaOk (cu : zB) (x1 x2 : Int32) : Bool := inR x1 ((1 : Int32) <<< (cu 0 3 &&& 31)) && inR x2 ((1 : Int32) <<< (cu 0 0 &&& 31))
theorem gn_w (hk : cOk cu) (h : inR x2 ((1 : Int32) <<< (cu 0 0 &&& 31)) = true) : ∃ w, w < 16 ∧ x2 = nI w := by
  have n4 := (cOk_n hk).2.2
  have p4 : 2 ^ nHi cu ≤ 16 := Nat.le_trans (Nat.pow_le_pow_right (by omega) n4) (by decide)
  have e : (1 : Int32) <<< (cu 0 0 &&& 31) = nI (2 ^ nHi cu) := by
    have e0 := vof hk.1 (by omega)
    conv => lhs; rw [e0]
    exact sh1 (h := nHi cu) (by omega)
  rw [e] at h
  have v := inR_vp h
  rw [ixn (by omega)] at v
  exact ⟨ix x2, by have := zix v; omega, vof v (by omega)⟩
set_option maxHeartbeats 1000000 in
theorem cx_gain (hE : zHas G) (hT : zThr G) (hs : l.stackTraces = false) (hk : cOk cu) (hR : cR cu μ 0) (hw : wn (μ.1 25 0) (nBe cu) vw) : zCX l G 8 yX10_gain cX10_gain 3 (some .int) [.ref (G.ad 10 0), .int x1, .int x2] μ (zI fun r μ' => gaOk cu x1 x2 = true ∧ r = gaW vw (cu 13) (cu 12) x1 x2 (nBe cu) ∧ μ' = μ) (gaOk cu x1 x2 = false) := by
  refine zCX_of (by decide) (Nat.le_of_ble_eq_true rfl) rfl (fun X hl hG hX hr => ?_)
  subst hG
  subst hl
  have thr : gaOk cu x1 x2 = false → AW X 22 [some (.ref (X.G.ad 10 0)), some (.int x1), some (.int x2)] [] μ := fun c =>
    aw_throw hX hr hT hs c (by omega) (ns_tx hE hX).2 dX10_gain_22 dX10_gain_25 dX10_gain_26 dX10_gain_28 dX10_gain_31
  refine aw_aload_n hX dX10_gain_0 rfl ?_
  refine aw_getr (o' := 0) hX kf_X10_19 sh_10 (by decide) rfl rfl dX10_gain_1 ?_
  refine aw_iload_n hX dX10_gain_4 rfl ?_
  refine aw_invI (As := [.int x1]) (rest := []) (κ := 2) (o := 0) (T := TX2) (N := 11) (K := fun r μ' => r = b2i (inR x1 ((1 : Int32) <<< (cu 0 3 &&& 31))) ∧ μ' = μ) hX vc_X10_224 sh_2 (by decide) rfl rfl rfl (Nat.le_of_ble_eq_true rfl) dX10_gain_5 ⟨0, _, by omega, cc_isBetSet (by omega), fun r ν q => ⟨by rw [q.1, hR.1.2.2.2], q.2⟩⟩ (fun r ν k => ?_)
  rw [k.1, k.2]
  refine aw_if_eq (tgt := 22) hX dX10_gain_8 (by decide) (fun c => thr (by rw [gaOk, b2i0.mp c, Bool.false_and])) (fun c => ?_)
  have c1 := b2i1.mp c
  refine aw_aload_n hX dX10_gain_11 rfl ?_
  refine aw_getr (o' := 0) hX kf_X10_19 sh_10 (by decide) rfl rfl dX10_gain_12 ?_
  refine aw_iload_n hX dX10_gain_15 rfl ?_
  refine aw_invI (As := [.int x2]) (rest := []) (κ := 2) (o := 0) (T := TX2) (N := 11) (K := fun r μ' => r = b2i (inR x2 ((1 : Int32) <<< (cu 0 0 &&& 31))) ∧ μ' = μ) hX vc_X10_152 sh_2 (by decide) rfl rfl rfl (Nat.le_of_ble_eq_true rfl) dX10_gain_16 ⟨0, _, by omega, cc_isWeather (by omega), fun r ν q => ⟨by rw [q.1, hR.1.1], q.2⟩⟩ (fun r ν k => ?_)
  rw [k.1, k.2]
  refine aw_if_ne (tgt := 32) hX dX10_gain_19 (by decide) (fun c => ?_) (fun c => thr (by rw [gaOk, b2i0.mp c, Bool.and_false]))
  have c2 := b2i1.mp c
  obtain ⟨w, hw16, ew⟩ := gn_w hk c2
  have CT := cg_gain (l := X.l) (G := X.G) (μ := μ) (set := x1) (c := 0) (by omega) hk hR hw hw16
  rw [← ew] at CT
  refine aw_two hr ?_
  have hX2 := two_ok hX hr
  have hr2 := two_rt hr
  refine aw_aload_n hX2 dX10_gain_32 rfl ?_
  refine aw_getr (o' := 0) hX2 kf_X10_19 sh_10 (by decide) rfl rfl dX10_gain_33 ?_
  refine aw_iload_n hX2 dX10_gain_36 rfl ?_
  refine aw_iload_n hX2 dX10_gain_37 rfl ?_
  refine aw_invI (As := [.int x1, .int x2]) (rest := []) (κ := 2) (o := 0) (T := TX2) (N := 11) (K := fun r μ' => r = gaW vw (cu 13) (cu 12) x1 x2 (nBe cu) ∧ μ' = μ) hX2 vc_X10_229 sh_2 (by decide) rfl rfl rfl (Nat.le_of_ble_eq_true rfl) dX10_gain_38 ⟨0, _, by omega, CT, fun r ν q => q⟩ (fun r ν k => ?_)
  exact aw_iret hX2 hr2 dX10_gain_41 ⟨_, rfl, by rw [gaOk, c1, c2]; rfl, k.1, k.2⟩
end GN
