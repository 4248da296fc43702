/-! PURSE, HAS, GAIN of the class -/
section PU
variable {l : Launch} {G : zG} {μ : zM} {x x1 x2 : Int32} {cu : zB}
theorem ns_tx {X : zX} {cc : ByteArray} {nL lv : Nat} (hE : zHas X.G) (hX : zOk X cc RX10 nL lv) : vk_R RX10 111 "no such person" (X.G.aw 129) X.s ∧ vk_R RX10 227 "no such bets or no such weather" (X.G.aw 130) X.s := by
  have z := zE hE hX
  exact ⟨z.2.2.2.2.2.2.2.2.1, z.2.2.2.2.2.2.2.2.2⟩
theorem cx_purse (hE : zHas G) (hT : zThr G) (hs : l.stackTraces = false) (hk : cOk cu) (hR : cR cu μ 0) : zCX l G 8 yX10_purse cX10_purse 2 (some .int) [.ref (G.ad 10 0), .int x] μ (zI fun r μ' => inR x (cu 0 1) = true ∧ r = μ.1 14 0 (ix x) ∧ μ' = μ) (inR x (cu 0 1) = false) := by
  refine zCX_of (by decide) (Nat.le_of_ble_eq_true rfl) rfl (fun X hl hG hX hr => ?_)
  subst hG
  subst hl
  have n6 := (cOk_n hk).2.1
  refine aw_aload_n hX dX10_purse_0 rfl ?_
  refine aw_getr (o' := 0) hX kf_X10_19 sh_10 (by decide) rfl rfl dX10_purse_1 ?_
  refine aw_iload_n hX dX10_purse_4 rfl ?_
  refine aw_invI (As := [.int x]) (rest := []) (κ := 2) (o := 0) (T := TX2) (N := 11) (K := fun r μ' => r = b2i (inR x (cu 0 1)) ∧ μ' = μ) hX vc_X10_106 sh_2 (by decide) rfl rfl rfl (Nat.le_of_ble_eq_true rfl) dX10_purse_5 ⟨0, _, by omega, cc_isPerson (by omega), fun r ν q => ⟨by rw [q.1, hR.1.2.1], q.2⟩⟩ (fun r ν k => ?_)
  rw [k.1, k.2]
  refine aw_if_ne (tgt := 21) hX dX10_purse_8 (by decide) (fun c => ?_) (fun c => ?_)
  · have c := b2i1.mp c
    refine aw_two hr ?_
    have hX2 := two_ok hX hr
    have hr2 := two_rt hr
    refine aw_aload_n hX2 dX10_purse_21 rfl ?_
    refine aw_getr (o' := 0) hX2 kf_X10_26 sh_10 (by decide) rfl rfl dX10_purse_22 ?_
    refine aw_getr (o' := 0) hX2 kf_X10_116 sh_1 (by decide) rfl rfl dX10_purse_25 ?_
    refine aw_iload_n hX2 dX10_purse_28 rfl ?_
    refine aw_iald' (k := ix x) hX2 sh_14 (by decide) (vmono (inR_vp c) (by show nPe cu ≤ 6; omega)) rfl dX10_purse_29 ?_
    exact aw_iret hX2 hr2 dX10_purse_30 ⟨_, rfl, c, rfl, rfl⟩
  · have c := b2i0.mp c
    exact aw_throw hX hr hT hs c (by omega) (ns_tx hE hX).1 dX10_purse_11 dX10_purse_14 dX10_purse_15 dX10_purse_17 dX10_purse_20
theorem cx_has (hE : zHas G) (hT : zThr G) (hs : l.stackTraces = false) (hz : cZ cu) (hR : cR cu μ 0) {b : zB} (hb : bR cu (getB μ 0) b) : zCX l G 8 yX10_has cX10_has 2 (some .int) [.ref (G.ad 10 0), .int x] μ (zI fun r μ' => inR x (cu 0 1) = true ∧ r = hasS cu b x (nLo cu) ∧ μ' = μ) (inR x (cu 0 1) = false) := by
  refine zCX_of (by decide) (Nat.le_of_ble_eq_true rfl) rfl (fun X hl hG hX hr => ?_)
  subst hG
  subst hl
  have n6 := (cOk_n hz.1).2.1
  refine aw_aload_n hX dX10_has_0 rfl ?_
  refine aw_getr (o' := 0) hX kf_X10_19 sh_10 (by decide) rfl rfl dX10_has_1 ?_
  refine aw_iload_n hX dX10_has_4 rfl ?_
  refine aw_invI (As := [.int x]) (rest := []) (κ := 2) (o := 0) (T := TX2) (N := 11) (K := fun r μ' => r = b2i (inR x (cu 0 1)) ∧ μ' = μ) hX vc_X10_106 sh_2 (by decide) rfl rfl rfl (Nat.le_of_ble_eq_true rfl) dX10_has_5 ⟨0, _, by omega, cc_isPerson (by omega), fun r ν q => ⟨by rw [q.1, hR.1.2.1], q.2⟩⟩ (fun r ν k => ?_)
  rw [k.1, k.2]
  refine aw_if_ne (tgt := 21) hX dX10_has_8 (by decide) (fun c => ?_) (fun c => ?_)
  · have c := b2i1.mp c
    have hx : ix x < nPe cu := zix (inR_vp c)
    have ex : x = nI (ix x) := vof (inR_vp c) (by show nPe cu < _; omega)
    have CT := cb_wealth (l := X.l) (G := X.G) (μ := μ) (o := 0) (c := 0) (by omega) (by omega) hz.1 hz.2.1 hR hb hx
    rw [putB_getB, ← ex] at CT
    refine aw_two hr ?_
    have hX2 := two_ok hX hr
    have hr2 := two_rt hr
    refine aw_aload_n hX2 dX10_has_21 rfl ?_
    refine aw_getr (o' := 0) hX2 kf_X10_26 sh_10 (by decide) rfl rfl dX10_has_22 ?_
    refine aw_aload_n hX2 dX10_has_25 rfl ?_
    refine aw_getr (o' := 0) hX2 kf_X10_19 sh_10 (by decide) rfl rfl dX10_has_26 ?_
    refine aw_iload_n hX2 dX10_has_29 rfl ?_
    refine aw_invI (As := [.ref (X.G.ad 2 0), .int x]) (rest := []) (κ := 1) (o := 0) (T := TX1) (N := 9) (K := fun r μ' => r = hasS cu b x (nLo cu) ∧ μ' = μ) hX2 vc_X10_182 sh_1 (by decide) rfl rfl rfl (Nat.le_of_ble_eq_true rfl) dX10_has_30 ⟨0, _, by omega, CT, fun r ν q => q⟩ (fun r ν k => ?_)
    exact aw_iret hX2 hr2 dX10_has_33 ⟨_, rfl, c, k.1, k.2⟩
  · have c := b2i0.mp c
    exact aw_throw hX hr hT hs c (by omega) (ns_tx hE hX).1 dX10_has_11 dX10_has_14 dX10_has_15 dX10_has_17 dX10_has_20
end PU
