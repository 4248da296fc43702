/-! THE REFERENCE: early, undo, and what is asked -/
def payS (cu : zB) (l : Nat) (b : zB) : zB := bU (tkD b l (ix (cu 5 l)) (ix (cu 4 l)) (tkC b l (ix (cu 5 l)))) 3 l 2
def canS (cu b : zB) (x : Int32) : Bool := inR x (cu 0 2) && (decide (¬ b 3 (ix x) = 2) && decide (¬ b 1 (ix (cu 5 (ix x))) < b 2 (ix x)))
set_option maxHeartbeats 1000000 in
theorem cr_canEarly {l : Launch} {G : zG} {μ : zM} {x : Int32} (hc : cOk (cuZ μ)) :
    zCT l G 1 yX11_canEarly cX11_canEarly 2 (some .boolean) [.ref (G.ad 11 0), .int x] μ (zI fun r μ' => r = b2i (canS (cuZ μ) (bOf (μ.1 70 0)) x) ∧ μ' = μ) := by
  refine zCT_of (by decide) (Nat.le_of_ble_eq_true rfl) rfl (fun X hl hG hX hr => ?_)
  subst hG
  refine st_X11_canEarly_0 hX hr ⟨0, _, by omega, cr_isLoan, ?_⟩
  rintro r μ' ⟨rfl, rfl⟩
  refine ⟨fun c => ⟨_, rfl, ?_, rfl⟩, fun c => ?_⟩
  · rw [canS, cz02, b2i0.mp c]; rfl
  · have hx := inR_vp (b2i1.mp c)
    have hlt : ix x < nLo (cuZ μ') := zix hx
    obtain ⟨h10, h4, h5, -, -, -⟩ := cOk_at hc hlt
    have ex := vof hx (by have := cOk_n hc; have : nLo (cuZ μ') = ix (μ'.1 38 0 0) := rfl; omega)
    have e5 := zix h5
    generalize hi : ix x = i at *
    subst ex
    have e6 : ix (nI (6 + i)) = 6 + i := ixn (by omega)
    have e16 : ix (nI (16 + i)) = 16 + i := ixn (by omega)
    simp only [a6, a16, e6, e16]
    have hin : inR (nI i) (cuZ μ' 0 2) = true := b2i1.mp c
    refine ⟨vin (by omega) (by omega), fun c2 => ⟨_, rfl, ?_, rfl⟩, fun c2 => ⟨vin (by omega) (by omega), vmono h5 (by omega), vin (by omega) (by omega), fun c3 => ⟨_, rfl, ?_, rfl⟩, fun c3 => ⟨_, rfl, ?_, rfl⟩⟩⟩
    · rw [canS, hi, bOf3 h10, decide_eq_false (p := ¬ μ'.1 70 0 (16 + i) = 2) (fun h => h c2), Bool.false_and, Bool.and_false]; rfl
    · rw [canS, hi, bOf1 e5, bOf2 h10, decide_eq_false (p := ¬ μ'.1 70 0 (ix (cuZ μ' 5 i)) < μ'.1 70 0 (6 + i)) (fun h => h c3), Bool.and_false, Bool.and_false]; rfl
    · rw [canS, hi, hin, bOf3 h10, bOf1 e5, bOf2 h10, decide_eq_true c2]
      rw [show decide (¬ μ'.1 70 0 (ix (cuZ μ' 5 i)) < μ'.1 70 0 (6 + i)) = true from decide_eq_true c3]; rfl
set_option maxHeartbeats 1000000 in
theorem cr_paysEarly {lc : Launch} {G : zG} {μ : zM} {l : Nat} (hc : cOk (cuZ μ)) (hl : l < nLo (cuZ μ)) :
    zCT lc G 2 yX11_paysEarly cX11_paysEarly 2 none [.ref (G.ad 11 0), .int (nI l)] μ (zV fun μ' => ∃ s' m', μ' = putS μ s' m' ∧ bOf s' = payS (cuZ μ) l (bOf (μ.1 70 0))) := by
  refine zCT_of (by decide) (Nat.le_of_ble_eq_true rfl) rfl (fun X hl0 hG hX hr => ?_)
  subst hG
  obtain ⟨h10, h4, h5, -, -, -⟩ := cOk_at hc hl
  have e0 : ix (nI l) = l := ixn (by omega)
  have e16 : ix (nI (16 + l)) = 16 + l := ixn (by omega)
  refine st_X11_paysEarly_0 hX hr ⟨vin (by omega) (by omega), ?_⟩
  rw [e0]
  have e5 : μ.1 46 0 l = nI (ix (cuZ μ 5 l)) := vof h5 (by omega)
  rw [e5]
  have ct := cr_takes (lc := X.l) (G := X.G) (μ := μ) (s := μ.1 70 0) (m := μ.1 11 0 51) h10 (zix h5) h4
  rw [putS_self] at ct
  refine ⟨1, _, by omega, ct, ?_⟩
  rintro μ' ⟨s', rfl, h'⟩
  simp only [forall_eq, a16, e16, pSI70]
  refine ⟨vin (by omega) (by omega), rfl, _, _, rfl, ?_⟩
  rw [bU_3 h10, h', payS]
theorem cr_early {lc : Launch} {G : zG} {μ : zM} {x : Int32} (hc : cOk (cuZ μ)) (hd : vp_in (μ.1 11 0 50) 31) :
    zCT lc G 3 yX11_early cX11_early 2 (some .boolean) [.ref (G.ad 11 0), .int x] μ (zI fun r μ' => (canS (cuZ μ) (bOf (μ.1 70 0)) x = true ∧ r = 1 ∧ ∃ s' m', μ' = putS (keepM (thr μ 0)) s' m' ∧ bOf s' = payS (cuZ μ) (ix x) (bOf (μ.1 70 0))) ∨ (canS (cuZ μ) (bOf (μ.1 70 0)) x = false ∧ r = 0 ∧ μ' = thr μ 0)) := by
  refine zCT_of (by decide) (Nat.le_of_ble_eq_true rfl) rfl (fun X hl0 hG hX hr => ?_)
  subst hG
  have e7 : (thr μ 0).1 70 0 = μ.1 70 0 := pI_row2 _ _ _ _ _ (by decide)
  refine st_X11_early_0 hX hr ?_
  simp only [forall_eq]
  refine ⟨1, _, by omega, cr_canEarly (by rw [cuZ_pI11]; exact hc), ?_⟩
  rintro r μ' ⟨rfl, rfl⟩
  rw [cuZ_pI11, e7]
  refine ⟨fun c => ?_, fun c => ⟨_, rfl, Or.inr ⟨b2i0.mp c, rfl, rfl⟩⟩⟩
  have hcan := b2i1.mp c
  have hin : inR x (cuZ μ 0 2) = true := by
    rw [canS, Bool.and_eq_true] at hcan; exact hcan.1
  have hx := inR_vp hin
  have ex := vof hx (by have := cOk_n hc; have : nLo (cuZ μ) = ix (cuZ μ 0 2) := rfl; omega)
  refine ⟨1, _, by omega, cr_keeps (by rw [pI_place _ _ _ _ (by decide)]; exact hd), ?_⟩
  rintro μ' rfl
  have ec : cuZ (keepM (thr μ 0)) = cuZ μ := by rw [cuZ_keepM, cuZ_pI11]
  have e8 : (keepM (thr μ 0)).1 70 0 = μ.1 70 0 := by rw [keepM_70, e7]
  rw [ex]
  refine ⟨2, _, by omega, cr_paysEarly (l := ix x) (by rw [ec]; exact hc) (by rw [ec]; exact zix hx), ?_⟩
  rintro μ' ⟨s', m', rfl, h'⟩
  rw [ec, e8] at h'
  rw [← ex]
  exact ⟨_, rfl, Or.inl ⟨hcan, rfl, s', m', rfl, h'⟩⟩
theorem cr_undo {lc : Launch} {G : zG} {μ : zM} (hd : vp_in (μ.1 11 0 50) 31) :
    zCT lc G 1 yX11_undo cX11_undo 1 (some .boolean) [.ref (G.ad 11 0)] μ (zI fun r μ' => (ix (μ.1 11 0 50) = 0 ∧ r = 0 ∧ μ' = thr μ 0) ∨ (¬ ix (μ.1 11 0 50) = 0 ∧ r = 1 ∧ μ' = pR (pI (thr μ 0) 11 0 50 (nI (ix (μ.1 11 0 50) - 1))) 70 0 (va_cpy (μ.1 72 0) (μ.1 70 0) (64 * (ix (μ.1 11 0 50) - 1)) 0 64))) := by
  refine zCT_of (by decide) (Nat.le_of_ble_eq_true rfl) rfl (fun X hl0 hG hX hr => ?_)
  subst hG
  have ed := vof hd (by omega)
  have hx := zix hd
  refine st_X11_undo_0 hX hr ?_
  simp only [forall_eq, pI_place _ _ _ _ (show (50 : Nat) ≠ 0 by decide), pI_at]
  refine ⟨fun c => ?_, fun c => ⟨_, rfl, Or.inl ⟨by rw [c]; decide, rfl, rfl⟩⟩⟩
  have hne : ix (μ.1 11 0 50) ≠ 0 := fun h => c (by rw [ed, h]; rfl)
  obtain ⟨d, hdd⟩ : ∃ d, ix (μ.1 11 0 50) = d + 1 := ⟨ix (μ.1 11 0 50) - 1, by omega⟩
  have e1 : μ.1 11 0 50 - 1 = nI d := by rw [ed, hdd, nI_pred]
  rw [e1, m64]
  refine ⟨0, _, by omega, cr_copies (a := 64 * d) (b := 0) sh_72 (by decide) sh_70 (by decide) (by decide) (by omega) (by omega) (by omega) (by omega), ?_⟩
  rintro μ' rfl
  refine ⟨_, rfl, Or.inr ⟨hne, rfl, ?_⟩⟩
  rw [hdd, Nat.add_sub_cancel, pI_row2 _ _ _ _ _ (by decide), pI_row2 _ _ _ _ _ (by decide), pI_row2 _ _ _ _ _ (by decide), pI_row2 _ _ _ _ _ (by decide)]
theorem cr_ruined {lc : Launch} {G : zG} {μ : zM} (hc : cOk (cuZ μ)) :
    zCT lc G 1 yX11_ruined cX11_ruined 1 (some .int) [.ref (G.ad 11 0)] μ (zI fun r μ' => r = ruinS (cuZ μ) (bOf (μ.1 70 0)) (nLo (cuZ μ)) ∧ μ' = thr μ 0) := by
  refine zCT_of (by decide) (Nat.le_of_ble_eq_true rfl) rfl (fun X hl0 hG hX hr => ?_)
  subst hG
  refine st_X11_ruined_0 hX hr ?_
  simp only [forall_eq]
  refine ⟨0, _, by omega, cr_ruinedNow (by rw [cuZ_pI11]; exact hc), ?_⟩
  rintro r μ' ⟨rfl, rfl⟩
  exact ⟨_, rfl, by rw [cuZ_pI11, pI_row2 _ _ _ _ _ (by decide)], rfl⟩
theorem cr_purse {lc : Launch} {G : zG} {μ : zM} {x : Int32} (hc : cOk (cuZ μ)) :
    zCT lc G 1 yX11_purse cX11_purse 2 (some .int) [.ref (G.ad 11 0), .int x] μ (zI fun r μ' => (inR x (cuZ μ 0 1) = true ∧ r = bOf (μ.1 70 0) 1 (ix x) ∧ μ' = thr μ 0) ∨ (inR x (cuZ μ 0 1) = false ∧ r = 0 ∧ μ' = thr μ 1)) := by
  refine zCT_of (by decide) (Nat.le_of_ble_eq_true rfl) rfl (fun X hl0 hG hX hr => ?_)
  subst hG
  refine st_X11_purse_0 hX hr ⟨0, _, by omega, cr_isPerson, ?_⟩
  rintro r μ' ⟨rfl, rfl⟩
  simp only [forall_eq, pI_at]
  refine ⟨fun c => ⟨fun c2 => absurd trivial c2, fun _ => ⟨_, rfl, Or.inr ⟨b2i0.mp c, rfl, rfl⟩⟩⟩, fun c => ⟨fun _ => ?_, fun c2 => absurd c2 (by decide)⟩⟩
  have hx := inR_vp (b2i1.mp c)
  have h6 : ix (μ'.1 37 0 0) ≤ 6 := (cOk_n hc).2.1
  refine ⟨vmono hx (by omega), _, rfl, Or.inl ⟨b2i1.mp c, ?_, rfl⟩⟩
  rw [bOf1 (by have := zix hx; omega), pI_other _ _ _ _ _ _ (by decide)]
set_option maxHeartbeats 1000000 in
theorem cr_has {lc : Launch} {G : zG} {μ : zM} {x : Int32} (hc : cOk (cuZ μ)) :
    zCT lc G 1 yX11_has cX11_has 4 (some .int) [.ref (G.ad 11 0), .int x] μ (zI fun r μ' => (inR x (cuZ μ 0 1) = true ∧ r = hasS (cuZ μ) (bOf (μ.1 70 0)) x (nLo (cuZ μ)) ∧ μ' = thr μ 0) ∨ (inR x (cuZ μ 0 1) = false ∧ r = 0 ∧ μ' = thr μ 1)) := by
  refine zCT_of (by decide) (Nat.le_of_ble_eq_true rfl) rfl (fun X hl0 hG hX hr => ?_)
  subst hG
  refine st_X11_has_0 hX hr ⟨0, _, by omega, cr_isPerson, ?_⟩
  rintro r μ' ⟨rfl, rfl⟩
  simp only [forall_eq, pI_at]
  refine ⟨fun c => ⟨fun c2 => absurd trivial c2, fun _ => ⟨_, rfl, Or.inr ⟨b2i0.mp c, rfl, rfl⟩⟩⟩, fun c => ⟨fun _ => ?_, fun c2 => absurd c2 (by decide)⟩⟩
  have hin := b2i1.mp c
  have hx := inR_vp hin
  have h6 : ix (μ'.1 37 0 0) ≤ 6 := (cOk_n hc).2.1
  obtain ⟨n10, -, -⟩ := cOk_n hc
  have hlo : vp_in (μ'.1 38 0 0) 11 := hc.2.2.1
  have elo : nLo (cuZ μ') = ix (μ'.1 38 0 0) := rfl
  refine ⟨vmono hx (by omega), ?_⟩
  rw [pI_other _ _ _ _ _ _ (by decide)]
  have go : ∀ k i, i + k = nLo (cuZ μ') → AW X 36 [some (.ref (X.G.ad 11 0)), some (.int x), some (.int (hasS (cuZ μ') (bOf (μ'.1 70 0)) x i)), some (.int (nI i))] [] (pI μ' 11 0 0 0) := by
    intro k
    induction k with
    | zero =>
      intro i hi
      refine st_X11_has_36 hX hr ⟨fun _ => ⟨_, rfl, Or.inl ⟨hin, by rw [show i = nLo (cuZ μ') by omega], rfl⟩⟩, fun q => absurd ?_ q⟩
      rw [pI_other _ _ _ _ _ _ (by decide)]
      exact (vle hlo (by omega) (by omega)).mpr (by omega)
    | succ k ih =>
      intro i hi
      have e0 : ix (nI i) = i := ixn (by omega)
      have e6 : ix (nI (6 + i)) = 6 + i := ixn (by omega)
      have hi10 : i < 10 := by omega
      have ih' := ih (i + 1) (by omega)
      refine st_X11_has_36 hX hr ⟨fun q => absurd q ?_, fun _ => ?_⟩
      · rw [pI_other _ _ _ _ _ _ (by decide)]
        exact fun q => absurd ((vle hlo (by omega) (by omega)).mp q) (by omega)
      · simp only [forall_eq, a6, nI_1, e0, e6, pI_other μ' 0 0 0 0 _ (show (45 : Nat) ≠ 11 by decide), pI_other μ' 0 0 0 0 _ (show (46 : Nat) ≠ 11 by decide), pI_other μ' 0 0 0 0 _ (show (70 : Nat) ≠ 11 by decide)]
        refine ⟨vin (by omega) (by omega), fun c2 => ⟨fun c3 => ?_, fun c3 => ⟨vin (by omega) (by omega), ?_⟩⟩, fun c2 => ⟨vin (by omega) (by omega), ?_⟩⟩
        · rw [hasS, if_neg (by rw [cz4]; exact c2), if_neg (by rw [cz5]; exact c3)] at ih'
          exact ih'
        · rw [hasS, if_neg (by rw [cz4]; exact c2), if_pos (by rw [cz5]; exact c3), bOf2 hi10] at ih'
          exact ih'
        · rw [hasS, if_pos (by rw [cz4]; exact c2), bOf2 hi10] at ih'
          exact ih'
  have g0 := go (nLo (cuZ μ')) 0 (by omega)
  rw [hasS, bOf1 (by have := zix hx; omega)] at g0
  exact g0
