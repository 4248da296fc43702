/-! THE LAW'S WRAPPERS -/
theorem lk_13 : Cond.classLink RL 13 nsE ∈ gw := List.mem_filter.mpr ⟨by decide +kernel, by decide +kernel⟩
def rw9 : ExceptionTableEntry := { startPc := 0, endPc := 9, handlerPc := 12, catchType := 13 }
def rw10 : ExceptionTableEntry := { startPc := 0, endPc := 10, handlerPc := 13, catchType := 13 }
section WR
variable {l : Launch} {G : zG} {μ : zM} {x x1 x2 : Int32} {Post : Int32 → zM → Prop} {B : Prop} {lv : Nat}
theorem cw_purse (hT : zThr G) (h : zCX l G 8 yX10_purse cX10_purse 2 (some .int) [.ref (G.ad 10 0), .int x] μ (zI Post) B) : zCW l G 9 yL_purse cL_purse 4 (some .int) [(0, 9, 12, 13)] [.ref (G.ad 10 0), .int x, .ref (G.ad 75 0)] μ (zI fun k μ' => (k = 1 ∧ B ∧ μ' = μ) ∨ (k = 0 ∧ ∃ r ν, Post r ν ∧ μ' = pL ν 75 0 0 r.toInt64)) := by
  refine zCW_of (by decide) (Nat.le_of_ble_eq_true rfl) rfl (fun X hl hG hX hr => ?_)
  subst hG
  subst hl
  have hX2 := up_ok hX hr
  have hr2 := up_rt hr
  refine aw_aload_n hX dL_purse_0 rfl ?_
  refine aw_iconst hX dL_purse_1 zk_0 ?_
  refine aw_aload_n hX dL_purse_2 rfl ?_
  refine aw_iload_n hX dL_purse_3 rfl ?_
  refine aw_callX (As := [.int x]) (rest := [.int 0, .ref (X.G.ad 75 0)]) (κ := 10) (o := 0) (T := TX10) (N := 7) (x := rw9) hX hr hT vc_L_7 sh_10 (by decide) rfl (by omega) h rfl rfl (Nat.le_of_ble_eq_true rfl) dL_purse_4 rfl rfl (by decide) lk_13 (fun rv ν hp => ?_) (fun hB q => ?_)
  · obtain ⟨r, rfl, hp⟩ := hp
    refine aw_i2l hX2 dL_purse_7 ?_
    refine aw_last' (k := 0) hX2 sh_75 (by decide) (zdi (by decide)) rfl dL_purse_8 ?_
    refine aw_goto (tgt := 15) hX2 dL_purse_9 (by decide) ?_
    refine aw_iconst hX2 dL_purse_15 zk_0 ?_
    exact aw_iret hX2 hr2 dL_purse_16 ⟨_, rfl, Or.inr ⟨rfl, r, ν, hp, rfl⟩⟩
  · refine aw_astore_n (L' := [some (.ref (X.G.ad 10 0)), some (.int x), some (.ref (X.G.ad 75 0)), some (.ref q)]) hX2 dL_purse_12 (Nat.le_of_ble_eq_true rfl) rfl ?_
    refine aw_iconst hX2 dL_purse_13 zk_1 ?_
    exact aw_iret hX2 hr2 dL_purse_14 ⟨_, rfl, Or.inl ⟨rfl, hB, rfl⟩⟩
theorem cw_has (hT : zThr G) (h : zCX l G 8 yX10_has cX10_has 2 (some .int) [.ref (G.ad 10 0), .int x] μ (zI Post) B) : zCW l G 9 yL_has cL_has 4 (some .int) [(0, 9, 12, 13)] [.ref (G.ad 10 0), .int x, .ref (G.ad 75 0)] μ (zI fun k μ' => (k = 1 ∧ B ∧ μ' = μ) ∨ (k = 0 ∧ ∃ r ν, Post r ν ∧ μ' = pL ν 75 0 0 r.toInt64)) := by
  refine zCW_of (by decide) (Nat.le_of_ble_eq_true rfl) rfl (fun X hl hG hX hr => ?_)
  subst hG
  subst hl
  have hX2 := up_ok hX hr
  have hr2 := up_rt hr
  refine aw_aload_n hX dL_has_0 rfl ?_
  refine aw_iconst hX dL_has_1 zk_0 ?_
  refine aw_aload_n hX dL_has_2 rfl ?_
  refine aw_iload_n hX dL_has_3 rfl ?_
  refine aw_callX (As := [.int x]) (rest := [.int 0, .ref (X.G.ad 75 0)]) (κ := 10) (o := 0) (T := TX10) (N := 7) (x := rw9) hX hr hT vc_L_15 sh_10 (by decide) rfl (by omega) h rfl rfl (Nat.le_of_ble_eq_true rfl) dL_has_4 rfl rfl (by decide) lk_13 (fun rv ν hp => ?_) (fun hB q => ?_)
  · obtain ⟨r, rfl, hp⟩ := hp
    refine aw_i2l hX2 dL_has_7 ?_
    refine aw_last' (k := 0) hX2 sh_75 (by decide) (zdi (by decide)) rfl dL_has_8 ?_
    refine aw_goto (tgt := 15) hX2 dL_has_9 (by decide) ?_
    refine aw_iconst hX2 dL_has_15 zk_0 ?_
    exact aw_iret hX2 hr2 dL_has_16 ⟨_, rfl, Or.inr ⟨rfl, r, ν, hp, rfl⟩⟩
  · refine aw_astore_n (L' := [some (.ref (X.G.ad 10 0)), some (.int x), some (.ref (X.G.ad 75 0)), some (.ref q)]) hX2 dL_has_12 (Nat.le_of_ble_eq_true rfl) rfl ?_
    refine aw_iconst hX2 dL_has_13 zk_1 ?_
    exact aw_iret hX2 hr2 dL_has_14 ⟨_, rfl, Or.inl ⟨rfl, hB, rfl⟩⟩
theorem cw_gain (hT : zThr G) (h : zCX l G 8 yX10_gain cX10_gain 3 (some .int) [.ref (G.ad 10 0), .int x1, .int x2] μ (zI Post) B) : zCW l G 9 yL_gain cL_gain 5 (some .int) [(0, 10, 13, 13)] [.ref (G.ad 10 0), .int x1, .int x2, .ref (G.ad 75 0)] μ (zI fun k μ' => (k = 1 ∧ B ∧ μ' = μ) ∨ (k = 0 ∧ ∃ r ν, Post r ν ∧ μ' = pL ν 75 0 0 r.toInt64)) := by
  refine zCW_of (by decide) (Nat.le_of_ble_eq_true rfl) rfl (fun X hl hG hX hr => ?_)
  subst hG
  subst hl
  have hX2 := up_ok hX hr
  have hr2 := up_rt hr
  refine aw_aload_n hX dL_gain_0 rfl ?_
  refine aw_iconst hX dL_gain_1 zk_0 ?_
  refine aw_aload_n hX dL_gain_2 rfl ?_
  refine aw_iload_n hX dL_gain_3 rfl ?_
  refine aw_iload_n hX dL_gain_4 rfl ?_
  refine aw_callX (As := [.int x1, .int x2]) (rest := [.int 0, .ref (X.G.ad 75 0)]) (κ := 10) (o := 0) (T := TX10) (N := 7) (x := rw10) hX hr hT vc_L_18 sh_10 (by decide) rfl (by omega) h rfl rfl (Nat.le_of_ble_eq_true rfl) dL_gain_5 rfl rfl (by decide) lk_13 (fun rv ν hp => ?_) (fun hB q => ?_)
  · obtain ⟨r, rfl, hp⟩ := hp
    refine aw_i2l hX2 dL_gain_8 ?_
    refine aw_last' (k := 0) hX2 sh_75 (by decide) (zdi (by decide)) rfl dL_gain_9 ?_
    refine aw_goto (tgt := 17) hX2 dL_gain_10 (by decide) ?_
    refine aw_iconst hX2 dL_gain_17 zk_0 ?_
    exact aw_iret hX2 hr2 dL_gain_18 ⟨_, rfl, Or.inr ⟨rfl, r, ν, hp, rfl⟩⟩
  · refine aw_astore (L' := [some (.ref (X.G.ad 10 0)), some (.int x1), some (.int x2), some (.ref (X.G.ad 75 0)), some (.ref q)]) hX2 dL_gain_13 (Nat.le_of_ble_eq_true rfl) rfl ?_
    refine aw_iconst hX2 dL_gain_15 zk_1 ?_
    exact aw_iret hX2 hr2 dL_gain_16 ⟨_, rfl, Or.inl ⟨rfl, hB, rfl⟩⟩
end WR
