/-! THE REFERENCE'S DAY: who is called, rounds, the end -/
section RG
variable {X : zX} {lv : Nat} {Post : Option Value → zM → Prop} {μ : zM} {w : Int32}
set_option maxHeartbeats 1000000 in
theorem rg_13 (hX : zOk X cX11_goes RX11 4 lv) (hr : zRt X none Post) (hlv : 0 < lv) (hc : cOk (cuZ μ)) {m : Int32} {b0 : zB}
    (K : ∀ s', bOf s' = fd (cld (cuZ μ) w) (nLo (cuZ μ)) b0 → AW X 84 [some (.ref (X.G.ad 11 0)), some (.int w), some (.int (b2i (fldS (cuZ μ) w))), none] [] (putS μ s' 1)) :
    ∀ (k i : Nat) (s : Nat → Int32), i + k = nLo (cuZ μ) → bOf s = fd (cld (cuZ μ) w) i b0 → AW X 13 [some (.ref (X.G.ad 11 0)), some (.int w), some (.int (b2i (fldS (cuZ μ) w))), some (.int (nI i))] [] (putS μ s m) := by
  obtain ⟨n10, -, -⟩ := cOk_n hc
  have hlo : vp_in (μ.1 38 0 0) 11 := hc.2.2.1
  have elo : nLo (cuZ μ) = ix (μ.1 38 0 0) := rfl
  intro k
  induction k with
  | zero =>
    intro i s hi hs
    refine st_X11_goes_13 hX hr ⟨fun c => ?_, fun c => absurd ?_ c⟩
    · simp only [forall_eq, pSIm]
      exact K s (by rw [hs, show i = nLo (cuZ μ) by omega])
    · rw [pS_38]; exact (vle hlo (by omega) (by omega)).mpr (by omega)
  | succ k ih =>
    intro i s hi hs
    have e0 : ix (nI i) = i := ixn (by omega)
    have e16 : ix (nI (16 + i)) = 16 + i := ixn (by omega)
    have e46 : ix (nI (46 + i)) = 46 + i := ixn (by omega)
    have hi10 : i < 10 := by omega
    have hn := cOk_at hc (l := i) (by omega)
    refine st_X11_goes_13 hX hr ⟨fun c => absurd c ?_, fun c => ⟨?_, fun c2 => ⟨?_, ?_⟩, fun c2 => ?_⟩⟩
    · rw [pS_38]; intro q
      have := (vle hlo (by omega) (by omega)).mp q
      omega
    · rw [a16]; exact vin (by omega) (by omega)
    · rw [a46]; exact vin (by omega) (by omega)
    · simp only [forall_eq, a46, nI_1, pSI70, e46]
      refine ih (i + 1) _ (by omega) ?_
      rw [a16, e16, pS70] at c2
      show _ = cld (cuZ μ) w i (fd (cld (cuZ μ) w) i b0)
      rw [← hs, bU_6 hi10, cld, if_neg (fun h => c2 (by rw [← bOf3 (s := s) hi10]; exact h.1))]
    · rw [a16, e16, pS70] at c2
      have hb1 : bOf s 3 i = 1 := by rw [bOf3 hi10]; exact c2
      refine ⟨0, _, hlv, cr_isRipe (vin (by omega) (by omega)) (by rw [cuZ_putS]; exact hc.1) (by rw [cuZ_putS, e0]; exact hn.2.2.2.1), ?_⟩
      rintro r μ' ⟨rfl, rfl⟩
      rw [cuZ_putS, e0]
      simp only [forall_eq, a46, nI_1, pSI70, e46, pS_51]
      refine ⟨fun c3 => ⟨vin (by omega) (by omega), ih (i + 1) _ (by omega) ?_⟩, fun c3 => ⟨fun c4 => ⟨vin (by omega) (by omega), ih (i + 1) _ (by omega) ?_⟩, fun c4 => ⟨vin (by omega) (by omega), fun c5 => ⟨vin (by omega) (by omega), ih (i + 1) _ (by omega) ?_⟩, fun c5 => ⟨vin (by omega) (by omega), ih (i + 1) _ (by omega) ?_⟩⟩⟩⟩
      · show _ = cld (cuZ μ) w i (fd (cld (cuZ μ) w) i b0)
        rw [← hs, bU_6 hi10, cld, if_pos ⟨hb1, Or.inl (b2i1.mp c3)⟩]
      · show _ = cld (cuZ μ) w i (fd (cld (cuZ μ) w) i b0)
        rw [← hs, bU_6 hi10, cld, if_neg]
        rintro ⟨-, h | ⟨h, -⟩⟩
        · rw [b2i0.mp c3] at h; cases h
        · rw [b2i0.mp c4] at h; cases h
      · show _ = cld (cuZ μ) w i (fd (cld (cuZ μ) w) i b0)
        rw [← hs, bU_6 hi10, cld, if_neg]
        rintro ⟨-, h | ⟨-, h⟩⟩
        · rw [b2i0.mp c3] at h; cases h
        · exact h c5
      · show _ = cld (cuZ μ) w i (fd (cld (cuZ μ) w) i b0)
        rw [← hs, bU_6 hi10, cld, if_pos ⟨hb1, Or.inr ⟨b2i1.mp c4, c5⟩⟩]
set_option maxHeartbeats 2000000 in
theorem rg_98 (hX : zOk X cX11_goes RX11 4 lv) (hr : zRt X none Post) (hlv : 1 < lv) (hc : cOk (cuZ μ)) {x2 : Int32} {b0 : zB} (I : bInv b0)
    (K : ∀ s' m', bOf s' = rnd (cuZ μ) w b0 → m'.toInt = sO b0 - sO (rnd (cuZ μ) w b0) → AW X 84 [some (.ref (X.G.ad 11 0)), some (.int w), some (.int x2), none] [] (putS μ s' m')) :
    ∀ (k i : Nat) (s : Nat → Int32) (m : Int32), i + k = nLo (cuZ μ) → bOf s = fd (trn (cuZ μ) w) i b0 → m.toInt = sO b0 - sO (bOf s) → AW X 98 [some (.ref (X.G.ad 11 0)), some (.int w), some (.int x2), some (.int (nI i))] [] (putS μ s m) := by
  obtain ⟨n10, -, -⟩ := cOk_n hc
  have hlo : vp_in (μ.1 38 0 0) 11 := hc.2.2.1
  have elo : nLo (cuZ μ) = ix (μ.1 38 0 0) := rfl
  intro k
  induction k with
  | zero =>
    intro i s m hi hs hm
    have ei : i = nLo (cuZ μ) := by omega
    refine st_X11_goes_98 hX hr ⟨fun c => ?_, fun c => absurd ?_ c⟩
    · exact K s m (by rw [hs, ei]; rfl) (by rw [hm, hs, ei]; rfl)
    · rw [pS_38]; exact (vle hlo (by omega) (by omega)).mpr (by omega)
  | succ k ih =>
    intro i s m hi hs hm
    have e0 : ix (nI i) = i := ixn (by omega)
    have e46 : ix (nI (46 + i)) = 46 + i := ixn (by omega)
    have hi10 : i < 10 := by omega
    have hil : i < nLo (cuZ μ) := by omega
    obtain ⟨-, h4, h5, -, h11, -⟩ := cOk_at hc hil
    obtain ⟨Ii, si, -, -⟩ := fdt_inv hc (w := w) I i (by omega)
    rw [← hs] at Ii si
    have nnO : 0 ≤ sO (bOf s) := sumI_nn Ii.2.2.1
    have hO : sO b0 ≤ 999999 := I.2.2.2
    have hgo : ∀ s' m', bOf s' = trn (cuZ μ) w i (bOf s) → m'.toInt = sO b0 - sO (bOf s') → AW X 98 [some (.ref (X.G.ad 11 0)), some (.int w), some (.int x2), some (.int (nI (i + 1)))] [] (putS μ s' m') := by
      intro s' m' h' hm'
      refine ih (i + 1) s' m' (by omega) ?_ hm'
      show _ = trn (cuZ μ) w i (fd (trn (cuZ μ) w) i b0)
      rw [← hs, h']
    refine st_X11_goes_98 hX hr ⟨fun c => absurd c ?_, fun c => ?_⟩
    · rw [pS_38]; intro q
      have := (vle hlo (by omega) (by omega)).mp q
      omega
    · simp only [forall_eq, a46, nI_1, pS70, pS_46, e0, e46]
      refine ⟨vin (by omega) (by omega), fun c2 => ⟨vin (by omega) (by omega), ?_⟩, fun c2 => hgo s m ?_ hm⟩
      · have h6 : ¬ bOf s 6 i = 0 := by rw [bOf6 hi10]; exact c2
        have g5 := zix h5
        have g4 := zix h4
        have e5 : μ.1 46 0 i = nI (ix (cuZ μ 5 i)) := vof h5 (by omega)
        rw [e5]
        refine ⟨1, _, hlv, cr_takes hi10 g5 h4, ?_⟩
        rintro μ' ⟨s1, rfl, h1⟩
        obtain ⟨I1, o1, v1, -⟩ := tk_inv hi10 g5 g4 Ii
        rw [← h1] at I1 o1
        have nn1 : 0 ≤ sO (bOf s1) := sumI_nn I1.2.2.1
        have hm1 : (m + tkC (bOf s) i (ix (cuZ μ 5 i))).toInt = sO b0 - sO (bOf s1) := by
          rw [addI (by omega) (by omega)]; omega
        simp only [pS_52]
        refine ⟨fun c3 => hgo s1 _ ?_ hm1, fun c3 => ⟨fun c4 => hgo s1 _ ?_ hm1, fun c4 => ?_⟩⟩
        · rw [h1, trn, if_neg h6]
          dsimp only
          rw [if_pos (Or.inl (by rw [cz11]; exact c3))]
        · rw [h1, trn, if_neg h6]
          dsimp only
          rw [if_pos (Or.inr c4)]
        · have h11 : vp_in (cuZ μ 11 i) 6 := by
            rcases h11 with h | h
            · exact absurd h c3
            · exact h
          have g11 := zix h11
          have e11 : μ.1 52 0 i = nI (ix (cuZ μ 11 i)) := vof h11 (by omega)
          rw [e11]
          refine ⟨1, _, hlv, cr_takes hi10 g11 h4, ?_⟩
          rintro μ' ⟨s2, rfl, h2⟩
          obtain ⟨I2, o2, v2, -⟩ := tk_inv hi10 g11 g4 I1
          rw [← h2] at I2 o2
          have nn2 : 0 ≤ sO (bOf s2) := sumI_nn I2.2.2.1
          refine hgo s2 _ ?_ ?_
          · rw [h2, trn, if_neg h6]
            dsimp only
            rw [if_neg, ← h1]
            rintro (h | h)
            · exact c3 h
            · exact c4 h
          · rw [addI (by omega) (by omega)]; omega
      · rw [trn, if_pos (by rw [bOf6 hi10]; exact c2)]
set_option maxHeartbeats 1000000 in
theorem rg_84 (hX : zOk X cX11_goes RX11 4 lv) (hr : zRt X none Post) (hlv : 1 < lv) (hc : cOk (cuZ μ)) {x2 : Int32} :
    ∀ (T N : Nat) (s : Nat → Int32) (m : Int32), bInv (bOf s) → sO (bOf s) ≤ T → T < N → ¬ m ≤ 0 →
    (∀ s' m', bOf s' = itr (rnd (cuZ μ) w) N (bOf s) → AW X 169 [some (.ref (X.G.ad 11 0)), some (.int w), some (.int x2), some (.int (0 : Int32))] [] (putS μ s' m')) →
    AW X 84 [some (.ref (X.G.ad 11 0)), some (.int w), some (.int x2), none] [] (putS μ s m) := by
  intro T
  induction T with
  | zero =>
    intro N s m I hT hN hm K
    refine st_X11_goes_84 hX hr ⟨fun c => absurd c (by rw [pSm]; exact hm), fun c => ?_⟩
    simp only [forall_eq, pSIm]
    refine rg_98 hX hr hlv hc I (fun s' m' h' hm' => ?_) (nLo (cuZ μ)) 0 s 0 (by omega) rfl (by simp)
    obtain ⟨I', o', -, z'⟩ := rnd_inv hc (w := w) I
    have nn := sumI_nn I'.2.2.1
    have nn' : 0 ≤ sO (rnd (cuZ μ) w (bOf s)) := nn
    have e : rnd (cuZ μ) w (bOf s) = bOf s := z' (by omega)
    refine st_X11_goes_84 hX hr ⟨fun c => K s' m' ?_, fun c => absurd ?_ c⟩
    · rw [itr_fix e, h', e]
    · rw [pSm, Int32.le_iff_toInt_le, hm', e, Int32.toInt_zero]; omega
  | succ T ih =>
    intro N s m I hT hN hm K
    refine st_X11_goes_84 hX hr ⟨fun c => absurd c (by rw [pSm]; exact hm), fun c => ?_⟩
    simp only [forall_eq, pSIm]
    refine rg_98 hX hr hlv hc I (fun s' m' h' hm' => ?_) (nLo (cuZ μ)) 0 s 0 (by omega) rfl (by simp)
    obtain ⟨I', o', -, z'⟩ := rnd_inv hc (w := w) I
    by_cases hc0 : m' ≤ 0
    · have q := Int32.le_iff_toInt_le.mp hc0
      rw [Int32.toInt_zero] at q
      have e : rnd (cuZ μ) w (bOf s) = bOf s := z' (by omega)
      refine st_X11_goes_84 hX hr ⟨fun c => K s' m' ?_, fun c => absurd ?_ c⟩
      · rw [itr_fix e, h', e]
      · rw [pSm]; exact hc0
    · have q : ¬ m'.toInt ≤ 0 := fun z => hc0 (Int32.le_iff_toInt_le.mpr (by rw [Int32.toInt_zero]; exact z))
      obtain ⟨N', rfl⟩ : ∃ N', N = N' + 1 := ⟨N - 1, by omega⟩
      refine ih N' s' m' (by rw [h']; exact I') (by rw [h']; omega) (by omega) hc0 (fun s2 m2 h2 => K s2 m2 ?_)
      rw [h2, h']; rfl
set_option maxHeartbeats 1000000 in
theorem rg_169 (hX : zOk X cX11_goes RX11 4 lv) (hr : zRt X none Post) (hc : cOk (cuZ μ)) {m : Int32} {b0 : zB}
    (K : ∀ s', bOf s' = fin (cuZ μ) w (fd cls (nLo (cuZ μ)) b0) → Post none (putS μ s' m)) :
    ∀ (k i : Nat) (s : Nat → Int32), i + k = nLo (cuZ μ) → bOf s = fd cls i b0 → AW X 169 [some (.ref (X.G.ad 11 0)), some (.int w), some (.int (b2i (fldS (cuZ μ) w))), some (.int (nI i))] [] (putS μ s m) := by
  obtain ⟨n10, -, -⟩ := cOk_n hc
  have hlo : vp_in (μ.1 38 0 0) 11 := hc.2.2.1
  have elo : nLo (cuZ μ) = ix (μ.1 38 0 0) := rfl
  intro k
  induction k with
  | zero =>
    intro i s hi hs
    have ei : i = nLo (cuZ μ) := by omega
    refine st_X11_goes_169 hX hr ⟨fun c => ?_, fun c => absurd ?_ c⟩
    · simp only [forall_eq, pS70, pSI70]
      refine ⟨fun c2 => K _ ?_, fun c2 => K _ ?_⟩
      · rw [bU_01, bU_00, bU_02, ← ei, ← hs, fin, b2i0.mp c2]; rfl
      · rw [bU_01, bU_00, bU_02, ← ei, ← hs, fin, b2i1.mp c2]; rfl
    · rw [pS_38]; exact (vle hlo (by omega) (by omega)).mpr (by omega)
  | succ k ih =>
    intro i s hi hs
    have e6 : ix (nI (6 + i)) = 6 + i := ixn (by omega)
    have e16 : ix (nI (16 + i)) = 16 + i := ixn (by omega)
    have hi10 : i < 10 := by omega
    refine st_X11_goes_169 hX hr ⟨fun c => absurd c ?_, fun c => ?_⟩
    · rw [pS_38]; intro q
      have := (vle hlo (by omega) (by omega)).mp q
      omega
    · simp only [forall_eq, a6, a16, nI_1, pS70, pSI70, e6, e16]
      refine ⟨vin (by omega) (by omega), fun c2 => ih (i + 1) s (by omega) ?_, fun c2 => ⟨vin (by omega) (by omega), ih (i + 1) _ (by omega) ?_⟩⟩
      · show _ = cls i (fd cls i b0)
        rw [← hs, cls, if_neg (by rw [bOf2 hi10]; exact c2)]
      · show _ = cls i (fd cls i b0)
        rw [← hs, cls, if_pos (by rw [bOf2 hi10]; exact c2), bU_3 hi10]
end RG
theorem cr_goes {l : Launch} {G : zG} {μ : zM} {s : Nat → Int32} {m w : Int32} (hc : cOk (cuZ μ)) (I : bInv (called (cuZ μ) w (fall (cuZ μ) w (bOf s)))) :
    zCT l G 2 yX11_goes cX11_goes 4 none [.ref (G.ad 11 0), .int w] (putS μ s m) (zV fun μ' => ∃ s' m', μ' = putS μ s' m' ∧ bOf s' = live (cuZ μ) w (bOf s)) := by
  refine zCT_of (by decide) (Nat.le_of_ble_eq_true rfl) rfl (fun X hl hG hX hr => ?_)
  subst hG
  refine st_X11_goes_0 hX hr ⟨1, _, by omega, cr_fallsDue hc, ?_⟩
  rintro μ' ⟨s1, rfl, h1⟩
  refine ⟨0, _, by omega, cr_isFlood, ?_⟩
  rintro r μ' ⟨rfl, rfl⟩
  rw [cuZ_putS]
  refine rg_13 hX hr (by omega) hc (b0 := bOf s1) (fun s2 h2 => ?_) (nLo (cuZ μ)) 0 s1 (by omega) rfl
  have h2' : bOf s2 = called (cuZ μ) w (fall (cuZ μ) w (bOf s)) := by rw [h2, h1]; rfl
  refine rg_84 hX hr (by omega) hc 999999 1000000 s2 1 (by rw [h2']; exact I) (by rw [h2']; exact I.2.2.2) (by omega) (by decide) (fun s3 m3 h3 => ?_)
  exact rg_169 hX hr hc (b0 := bOf s3) (fun s4 h4 => ⟨rfl, s4, m3, rfl, by rw [h4, h3, h2']; rfl⟩) (nLo (cuZ μ)) 0 s3 (by omega) rfl
