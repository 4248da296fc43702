/-! THE REFERENCE: fits, fit -/
def ftOk (cu : zB) (x1 x2 x3 : Int32) : Bool := inR x2 (cu 0 1) && (wthn x3 0 99999 && ahS cu x1)
theorem ahM_of (μ : zM) (W : Nat) : pR (pI (pI μ 11 0 0 0) 11 0 52 (nI W)) 71 0 (va_cpy ((pI (pI μ 11 0 0 0) 11 0 52 (nI W)).1 70 0) ((pI (pI μ 11 0 0 0) 11 0 52 (nI W)).1 71 0) 0 0 64) = ahM μ W := by
  rw [ahM, pI_row2 _ _ _ _ _ (by decide), pI_row2 _ _ _ _ _ (by decide), pI_row2 _ _ _ _ _ (by decide), pI_row2 _ _ _ _ _ (by decide)]
set_option maxHeartbeats 1000000 in
theorem cr_fitting {lc : Launch} {G : zG} {μ : zM} {n p : Nat} {x3 x4 : Int32} {M : Int} (hc : cOk (cuZ μ)) (I : bI (bOf (μ.1 70 0)) M) (hM : M + 990 * 12 ≤ 999999) (hp : p < 6) (hn : n ≤ 12) (hh : nHi (cuZ μ) * n ≤ 12) :
    zCT lc G 4 yX11_fitting cX11_fitting 9 (some .int) [.ref (G.ad 11 0), .int (nI n), .int (nI p), .int x3, .int x4] (pI (thr μ 0) 11 0 52 (nI (2 ^ (nHi (cuZ μ) * n)))) (zI fun r μ' => r = (if 0 ≤ x4 then fnF (isF (cuZ μ) (bOf (μ.1 70 0)) n p x3) x4 (2 ^ (nHi (cuZ μ) * n)) else nI (cnF (isF (cuZ μ) (bOf (μ.1 70 0)) n p x3) (2 ^ (nHi (cuZ μ) * n)))) ∧ ∃ s' m', bOf s' = bOf (μ.1 70 0) ∧ μ' = putS (ahM μ (2 ^ (nHi (cuZ μ) * n))) s' m') := by
  refine zCT_of (by decide) (Nat.le_of_ble_eq_true rfl) rfl (fun X hl0 hG hX hr => ?_)
  subst hG
  refine st_X11_fitting_0 hX hr ⟨0, _, by omega, cr_copies (a := 0) (b := 0) sh_70 (by decide) sh_71 (by decide) (by decide) (by omega) (by omega) (by omega) (by omega), ?_⟩
  rintro μ' rfl
  rw [ahM_of]
  have es := putS_self (ahM μ (2 ^ (nHi (cuZ μ) * n)))
  have hw := pow2 hh
  rw [← es]
  refine rf_22 (s0 := μ.1 70 0) (M := M) (W := 2 ^ (nHi (cuZ μ) * n)) hX hr (by omega) (by rw [ahM_cu]; exact hc) hp hn hw.1 (ahM_52 _ _) (fun k hk => ahM_71 μ _ k hk) I (by omega) (fun s' m' h' => ?_) (2 ^ (nHi (cuZ μ) * n)) 0 _ _ (by omega) (by rw [ahM_70])
  rw [ahM_cu]
  exact ⟨_, rfl, rfl, s', m', h', rfl⟩
set_option maxHeartbeats 1000000 in
theorem cr_fits {lc : Launch} {G : zG} {μ : zM} {x1 x2 x3 : Int32} {M : Int} (hc : cOk (cuZ μ)) (I : bI (bOf (μ.1 70 0)) M) (hM : M + 990 * 12 ≤ 999999) :
    zCT lc G 5 yX11_fits cX11_fits 4 (some .int) [.ref (G.ad 11 0), .int x1, .int x2, .int x3] μ (zI fun r μ' => (ftOk (cuZ μ) x1 x2 x3 = false ∧ r = -1 ∧ μ' = thr μ 0) ∨ (ftOk (cuZ μ) x1 x2 x3 = true ∧ r = nI (cnF (isF (cuZ μ) (bOf (μ.1 70 0)) (ix x1) (ix x2) x3) (2 ^ (nHi (cuZ μ) * ix x1))) ∧ ∃ s' m', bOf s' = bOf (μ.1 70 0) ∧ μ' = putS (ahM μ (2 ^ (nHi (cuZ μ) * ix x1))) s' m')) := by
  refine zCT_of (by decide) (Nat.le_of_ble_eq_true rfl) rfl (fun X hl0 hG hX hr => ?_)
  subst hG
  refine st_X11_fits_0 hX hr ?_
  simp only [forall_eq]
  refine ⟨0, _, by omega, cr_isPerson, ?_⟩
  rintro r μ' ⟨rfl, rfl⟩
  rw [pI_other _ _ _ _ _ _ (by decide)]
  refine ⟨fun c => ⟨_, rfl, Or.inl ⟨?_, rfl, rfl⟩⟩, fun c => ⟨0, _, by omega, cr_within, ?_⟩⟩
  · rw [ftOk, cz01, b2i0.mp c]; rfl
  · rintro r μ' ⟨rfl, rfl⟩
    refine ⟨fun c2 => ⟨_, rfl, Or.inl ⟨?_, rfl, rfl⟩⟩, fun c2 => ⟨1, _, by omega, cr_isAhead (by rw [cuZ_pI11]; exact hc), ?_⟩⟩
    · rw [ftOk, b2i0.mp c2, Bool.false_and, Bool.and_false]
    · rw [cuZ_pI11]
      rintro r μ' (⟨h1, rfl, rfl⟩ | ⟨h1, rfl, n, rfl, n1, n12, hh, rfl⟩)
      · refine ⟨fun _ => ⟨_, rfl, Or.inl ⟨?_, rfl, rfl⟩⟩, fun q => absurd rfl q⟩
        rw [ftOk, h1, Bool.and_false, Bool.and_false]
      · refine ⟨fun q => absurd q (by decide), fun _ => ?_⟩
        have hok : ftOk (cuZ μ) (nI n) x2 x3 = true := by
          rw [ftOk, show inR x2 (cuZ μ 0 1) = true from b2i1.mp c, b2i1.mp c2, h1]; rfl
        have en : ix (nI n) = n := ixn (by omega)
        have hx := inR_vp (b2i1.mp c)
        have h6 : ix (μ.1 37 0 0) ≤ 6 := (cOk_n hc).2.1
        have hlt := zix hx
        have ex := vof hx (by omega)
        rw [ex]
        refine ⟨4, _, by omega, cr_fitting hc I hM (by omega) n12 hh, ?_⟩
        rintro r μ' ⟨rfl, s', m', h', rfl⟩
        rw [← ex]
        exact ⟨_, rfl, Or.inr ⟨hok, by rw [en, if_neg (by decide)], s', m', h', by rw [en]⟩⟩
set_option maxHeartbeats 1000000 in
theorem cr_fit {lc : Launch} {G : zG} {μ : zM} {x1 x2 x3 x4 : Int32} {M : Int} (hc : cOk (cuZ μ)) (I : bI (bOf (μ.1 70 0)) M) (hM : M + 990 * 12 ≤ 999999) :
    zCT lc G 5 yX11_fit cX11_fit 5 (some .int) [.ref (G.ad 11 0), .int x1, .int x2, .int x3, .int x4] μ (zI fun r μ' => ((x4 < 0 ∨ ftOk (cuZ μ) x1 x2 x3 = false) ∧ r = -1 ∧ μ' = thr μ 0) ∨ (¬ x4 < 0 ∧ ftOk (cuZ μ) x1 x2 x3 = true ∧ r = fnF (isF (cuZ μ) (bOf (μ.1 70 0)) (ix x1) (ix x2) x3) x4 (2 ^ (nHi (cuZ μ) * ix x1)) ∧ ∃ s' m', bOf s' = bOf (μ.1 70 0) ∧ μ' = putS (ahM μ (2 ^ (nHi (cuZ μ) * ix x1))) s' m')) := by
  refine zCT_of (by decide) (Nat.le_of_ble_eq_true rfl) rfl (fun X hl0 hG hX hr => ?_)
  subst hG
  refine st_X11_fit_0 hX hr ?_
  simp only [forall_eq]
  refine ⟨fun c0 => ⟨_, rfl, Or.inl ⟨Or.inl c0, rfl, rfl⟩⟩, fun c0 => ⟨0, _, by omega, cr_isPerson, ?_⟩⟩
  rintro r μ' ⟨rfl, rfl⟩
  rw [pI_other _ _ _ _ _ _ (by decide)]
  refine ⟨fun c => ⟨_, rfl, Or.inl ⟨Or.inr ?_, rfl, rfl⟩⟩, fun c => ⟨0, _, by omega, cr_within, ?_⟩⟩
  · rw [ftOk, cz01, b2i0.mp c]; rfl
  · rintro r μ' ⟨rfl, rfl⟩
    refine ⟨fun c2 => ⟨_, rfl, Or.inl ⟨Or.inr ?_, rfl, rfl⟩⟩, fun c2 => ⟨1, _, by omega, cr_isAhead (by rw [cuZ_pI11]; exact hc), ?_⟩⟩
    · rw [ftOk, b2i0.mp c2, Bool.false_and, Bool.and_false]
    · rw [cuZ_pI11]
      rintro r μ' (⟨h1, rfl, rfl⟩ | ⟨h1, rfl, n, rfl, n1, n12, hh, rfl⟩)
      · refine ⟨fun _ => ⟨_, rfl, Or.inl ⟨Or.inr ?_, rfl, rfl⟩⟩, fun q => absurd rfl q⟩
        rw [ftOk, h1, Bool.and_false, Bool.and_false]
      · refine ⟨fun q => absurd q (by decide), fun _ => ?_⟩
        have hok : ftOk (cuZ μ) (nI n) x2 x3 = true := by
          rw [ftOk, show inR x2 (cuZ μ 0 1) = true from b2i1.mp c, b2i1.mp c2, h1]; rfl
        have en : ix (nI n) = n := ixn (by omega)
        have hx := inR_vp (b2i1.mp c)
        have h6 : ix (μ.1 37 0 0) ≤ 6 := (cOk_n hc).2.1
        have hlt := zix hx
        have ex := vof hx (by omega)
        have h4 : 0 ≤ x4 := Int32.not_lt.mp c0
        rw [ex]
        refine ⟨4, _, by omega, cr_fitting hc I hM (by omega) n12 hh, ?_⟩
        rintro r μ' ⟨rfl, s', m', h', rfl⟩
        rw [← ex]
        exact ⟨_, rfl, Or.inr ⟨c0, hok, by rw [en, if_pos h4], s', m', h', by rw [en]⟩⟩
