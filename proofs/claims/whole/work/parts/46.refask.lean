/-! THE REFERENCE: what is asked of hills, loans, all -/
def hillS (cu b : zB) (x w : Int32) : Int32 := if inR x (cu 0 0) = true ∧ wthn w 0 2 = true then (if w = 0 then cu 1 (ix x) else if w = 1 then cu 2 (ix x) else ((b 0 2) >>> (x &&& 31)) &&& (1 : Int32)) else -1
def loanS (cu b : zB) (x w : Int32) : Int32 := if inR x (cu 0 2) = true ∧ wthn w 0 7 = true then
  (if 4 ≤ w then (if w = 4 then b 4 (ix x) else if w = 5 then cu 10 (ix x) else if w = 6 then cu 11 (ix x) else b 5 (ix x)) else (if w = 0 then cu 4 (ix x) else if w = 1 then cu 5 (ix x) else if w = 2 then b 2 (ix x) else b 3 (ix x))) else -1
def countS (cu b : zB) (done taped w : Int32) : Int32 := if wthn w 0 7 = true then
  (if 4 ≤ w then (if w = 4 then b 0 0 else if w = 5 then b 0 1 else if w = 6 then done else taped) else (if w = 0 then cu 0 0 else if w = 1 then cu 0 1 else if w = 2 then cu 0 2 else cu 0 3)) else -1
set_option maxHeartbeats 1000000 in
theorem cr_hill {lc : Launch} {G : zG} {μ : zM} {x w : Int32} (hc : cOk (cuZ μ)) :
    zCT lc G 1 yX11_hill cX11_hill 3 (some .int) [.ref (G.ad 11 0), .int x, .int w] μ (zI fun r μ' => r = hillS (cuZ μ) (bOf (μ.1 70 0)) x w ∧ μ' = thr μ 0) := by
  refine zCT_of (by decide) (Nat.le_of_ble_eq_true rfl) rfl (fun X hl0 hG hX hr => ?_)
  subst hG
  refine st_X11_hill_0 hX hr ?_
  simp only [forall_eq]
  refine ⟨0, _, by omega, cr_isHill, ?_⟩
  rintro r μ' ⟨rfl, rfl⟩
  rw [pI_other _ _ _ _ _ _ (by decide)]
  refine ⟨fun c => ⟨_, rfl, ?_, rfl⟩, fun c => ⟨0, _, by omega, cr_within, ?_⟩⟩
  · rw [hillS, if_neg]
    rintro ⟨h, -⟩
    rw [cz00, b2i0.mp c] at h; cases h
  · rintro r μ' ⟨rfl, rfl⟩
    have hx := inR_vp (b2i1.mp c)
    have h4 : ix (μ.1 36 0 0) ≤ 4 := (cOk_n hc).2.2
    refine ⟨fun c2 => ⟨fun c3 => ⟨fun c4 => ⟨_, rfl, ?_, rfl⟩, fun c4 => ⟨vmono hx (by omega), _, rfl, ?_, rfl⟩⟩, fun c3 => ⟨vmono hx (by omega), _, rfl, ?_, rfl⟩⟩, fun c2 => ⟨_, rfl, ?_, rfl⟩⟩
    · rw [hillS, if_pos ⟨b2i1.mp c, b2i1.mp c2⟩, if_neg c3, if_neg c4, pI_other _ _ _ _ _ _ (by decide)]; rfl
    · rw [hillS, if_pos ⟨b2i1.mp c, b2i1.mp c2⟩, if_neg c3, if_pos c4, pI_other _ _ _ _ _ _ (by decide)]; rfl
    · rw [hillS, if_pos ⟨b2i1.mp c, b2i1.mp c2⟩, if_pos c3, pI_other _ _ _ _ _ _ (by decide)]; rfl
    · rw [hillS, if_neg]
      rintro ⟨-, h⟩
      rw [b2i0.mp c2] at h; cases h
set_option maxHeartbeats 1000000 in
theorem cr_loan {lc : Launch} {G : zG} {μ : zM} {x w : Int32} (hc : cOk (cuZ μ)) :
    zCT lc G 1 yX11_loan cX11_loan 3 (some .int) [.ref (G.ad 11 0), .int x, .int w] μ (zI fun r μ' => r = loanS (cuZ μ) (bOf (μ.1 70 0)) x w ∧ μ' = thr μ 0) := by
  refine zCT_of (by decide) (Nat.le_of_ble_eq_true rfl) rfl (fun X hl0 hG hX hr => ?_)
  subst hG
  refine st_X11_loan_0 hX hr ?_
  simp only [forall_eq]
  refine ⟨0, _, by omega, cr_isLoan, ?_⟩
  rintro r μ' ⟨rfl, rfl⟩
  rw [pI_other _ _ _ _ _ _ (by decide)]
  refine ⟨fun c => ⟨_, rfl, ?_, rfl⟩, fun c => ⟨0, _, by omega, cr_within, ?_⟩⟩
  · rw [loanS, if_neg]
    rintro ⟨h, -⟩
    rw [cz02, b2i0.mp c] at h; cases h
  · rintro r μ' ⟨rfl, rfl⟩
    have hx := inR_vp (b2i1.mp c)
    have h10 : ix (μ.1 38 0 0) ≤ 10 := (cOk_n hc).1
    have hlt := zix hx
    have hin : inR x (cuZ μ 0 2) = true := b2i1.mp c
    have hv : vp_in x 60 := vmono hx (by omega)
    have ex := vof hx (by omega)
    have hix : ix x < 10 := by omega
    have v6 : vp_in ((6 : Int32) + x) 64 ∧ ix ((6 : Int32) + x) = 6 + ix x := by rw [ex, ixn (by omega), a6, ixn (by omega)]; exact ⟨vin (by omega) (by omega), rfl⟩
    have v16 : vp_in ((16 : Int32) + x) 64 ∧ ix ((16 : Int32) + x) = 16 + ix x := by rw [ex, ixn (by omega), a16, ixn (by omega)]; exact ⟨vin (by omega) (by omega), rfl⟩
    have v26 : vp_in ((26 : Int32) + x) 64 ∧ ix ((26 : Int32) + x) = 26 + ix x := by rw [ex, ixn (by omega), a26, ixn (by omega)]; exact ⟨vin (by omega) (by omega), rfl⟩
    have v36 : vp_in ((36 : Int32) + x) 64 ∧ ix ((36 : Int32) + x) = 36 + ix x := by rw [ex, ixn (by omega), a36, ixn (by omega)]; exact ⟨vin (by omega) (by omega), rfl⟩
    simp only [v6.2, v16.2, v26.2, v36.2, pI_other μ 0 0 0 0 _ (show (45 : Nat) ≠ 11 by decide), pI_other μ 0 0 0 0 _ (show (46 : Nat) ≠ 11 by decide), pI_other μ 0 0 0 0 _ (show (51 : Nat) ≠ 11 by decide), pI_other μ 0 0 0 0 _ (show (52 : Nat) ≠ 11 by decide), pI_other μ 0 0 0 0 _ (show (70 : Nat) ≠ 11 by decide)]
    refine ⟨fun c2 => ?_, fun c2 => ⟨_, rfl, ?_, rfl⟩⟩
    · have hw := b2i1.mp c2
      refine ⟨fun c4 => ⟨fun d4 => ⟨fun d5 => ⟨fun d6 => ⟨v36.1, _, rfl, ?_, rfl⟩, fun d6 => ⟨hv, _, rfl, ?_, rfl⟩⟩, fun d5 => ⟨hv, _, rfl, ?_, rfl⟩⟩, fun d4 => ⟨v26.1, _, rfl, ?_, rfl⟩⟩, fun c4 => ⟨fun d0 => ⟨fun d1 => ⟨fun d2 => ⟨v16.1, _, rfl, ?_, rfl⟩, fun d2 => ⟨v6.1, _, rfl, ?_, rfl⟩⟩, fun d1 => ⟨hv, _, rfl, ?_, rfl⟩⟩, fun d0 => ⟨hv, _, rfl, ?_, rfl⟩⟩⟩
      · rw [loanS, if_pos ⟨hin, hw⟩, if_pos c4, if_neg d4, if_neg d5, if_neg d6, bOf5 hix]
      · rw [loanS, if_pos ⟨hin, hw⟩, if_pos c4, if_neg d4, if_neg d5, if_pos d6]; rfl
      · rw [loanS, if_pos ⟨hin, hw⟩, if_pos c4, if_neg d4, if_pos d5]; rfl
      · rw [loanS, if_pos ⟨hin, hw⟩, if_pos c4, if_pos d4, bOf4 hix]
      · rw [loanS, if_pos ⟨hin, hw⟩, if_neg c4, if_neg d0, if_neg d1, if_neg d2, bOf3 hix]
      · rw [loanS, if_pos ⟨hin, hw⟩, if_neg c4, if_neg d0, if_neg d1, if_pos d2, bOf2 hix]
      · rw [loanS, if_pos ⟨hin, hw⟩, if_neg c4, if_neg d0, if_pos d1]; rfl
      · rw [loanS, if_pos ⟨hin, hw⟩, if_neg c4, if_pos d0]; rfl
    · rw [loanS, if_neg]
      rintro ⟨-, h⟩
      rw [b2i0.mp c2] at h; cases h
set_option maxHeartbeats 1000000 in
theorem cr_count {lc : Launch} {G : zG} {μ : zM} {w : Int32} :
    zCT lc G 1 yX11_count cX11_count 2 (some .int) [.ref (G.ad 11 0), .int w] μ (zI fun r μ' => r = countS (cuZ μ) (bOf (μ.1 70 0)) (μ.1 11 0 50) (μ.1 11 0 1) w ∧ μ' = thr μ 0) := by
  refine zCT_of (by decide) (Nat.le_of_ble_eq_true rfl) rfl (fun X hl0 hG hX hr => ?_)
  subst hG
  refine st_X11_count_0 hX hr ?_
  simp only [forall_eq]
  refine ⟨0, _, by omega, cr_within, ?_⟩
  rintro r μ' ⟨rfl, rfl⟩
  simp only [pI_place μ 11 0 (k' := 50) (k := 0) 0 (by decide), pI_place μ 11 0 (k' := 1) (k := 0) 0 (by decide), pI_other μ 0 0 0 0 _ (show (36 : Nat) ≠ 11 by decide), pI_other μ 0 0 0 0 _ (show (37 : Nat) ≠ 11 by decide), pI_other μ 0 0 0 0 _ (show (38 : Nat) ≠ 11 by decide), pI_other μ 0 0 0 0 _ (show (39 : Nat) ≠ 11 by decide), pI_other μ 0 0 0 0 _ (show (70 : Nat) ≠ 11 by decide)]
  refine ⟨fun c2 => ?_, fun c2 => ⟨_, rfl, ?_, rfl⟩⟩
  · have hw := b2i1.mp c2
    refine ⟨fun c4 => ⟨fun d4 => ⟨fun d5 => ⟨fun d6 => ⟨_, rfl, ?_, rfl⟩, fun d6 => ⟨_, rfl, ?_, rfl⟩⟩, fun d5 => ⟨_, rfl, ?_, rfl⟩⟩, fun d4 => ⟨_, rfl, ?_, rfl⟩⟩, fun c4 => ⟨fun d0 => ⟨fun d1 => ⟨fun d2 => ⟨_, rfl, ?_, rfl⟩, fun d2 => ⟨_, rfl, ?_, rfl⟩⟩, fun d1 => ⟨_, rfl, ?_, rfl⟩⟩, fun d0 => ⟨_, rfl, ?_, rfl⟩⟩⟩
    · rw [countS, if_pos hw, if_pos c4, if_neg d4, if_neg d5, if_neg d6]
    · rw [countS, if_pos hw, if_pos c4, if_neg d4, if_neg d5, if_pos d6]
    · rw [countS, if_pos hw, if_pos c4, if_neg d4, if_pos d5]; rfl
    · rw [countS, if_pos hw, if_pos c4, if_pos d4]; rfl
    · rw [countS, if_pos hw, if_neg c4, if_neg d0, if_neg d1, if_neg d2]; rfl
    · rw [countS, if_pos hw, if_neg c4, if_neg d0, if_neg d1, if_pos d2]; rfl
    · rw [countS, if_pos hw, if_neg c4, if_neg d0, if_pos d1]; rfl
    · rw [countS, if_pos hw, if_neg c4, if_pos d0]; rfl
  · rw [countS, if_neg]
    intro h
    rw [b2i0.mp c2] at h; cases h
