/-! THE REFERENCE'S DAY: what falls due -/
section RF
variable {X : zX} {lv : Nat} {Post : Option Value → zM → Prop} {μ : zM} {m w : Int32}
set_option maxHeartbeats 1000000 in
theorem rf_74 (hX : zOk X cX11_fallsDue RX11 5 lv) (hr : zRt X none Post) {fl : Bool} {i : Nat} {s : Nat → Int32} (hi : i < 10)
    (K : ∀ s', bOf s' = du2 (cuZ μ) fl i (bOf s) → AW X 8 [some (.ref (X.G.ad 11 0)), some (.int w), some (.int (b2i fl)), some (.int (nI (i + 1))), none] [] (putS μ s' m)) :
    AW X 74 [some (.ref (X.G.ad 11 0)), some (.int w), some (.int (b2i fl)), some (.int (nI i)), none] [] (putS μ s m) := by
  have e0 : ix (nI i) = i := ixn (by omega)
  have e16 : ix (nI (16 + i)) = 16 + i := ixn (by omega)
  have e26 : ix (nI (26 + i)) = 26 + i := ixn (by omega)
  refine st_X11_fallsDue_74 hX hr ?_
  simp only [forall_eq, a16, a26, nI_1, pS70, pSI70, pS_49, pS_51, e0, e16, e26]
  refine ⟨vin (by omega) (by omega), vin (by omega) (by omega), fun c => ⟨vin (by omega) (by omega), K _ ?_⟩, fun c => ⟨fun c2 => K _ ?_, fun c2 => ⟨fun c3 => K _ ?_, fun c3 => ⟨vin (by omega) (by omega), K _ ?_⟩⟩⟩⟩
  · rw [bU_3 hi, du2, if_pos (Or.inl (by rw [cz8, bOf4 hi]; exact c))]
  · rw [du2, if_neg]
    rintro (h | ⟨h, -⟩)
    · rw [cz8, bOf4 hi] at h; exact c h
    · rw [b2i0.mp c2] at h; cases h
  · rw [du2, if_neg]
    rintro (h | ⟨-, h⟩)
    · rw [cz8, bOf4 hi] at h; exact c h
    · rw [cz10] at h; exact h c3
  · rw [bU_3 hi, du2, if_pos (Or.inr ⟨b2i1.mp c2, by rw [cz10]; exact c3⟩)]
set_option maxHeartbeats 1000000 in
theorem rf_8 (hX : zOk X cX11_fallsDue RX11 5 lv) (hr : zRt X none Post) (hlv : 0 < lv) (hc : cOk (cuZ μ)) {b0 : zB}
    (K : ∀ s', bOf s' = fd (due (cuZ μ) w) (nLo (cuZ μ)) b0 → AW X 124 [some (.ref (X.G.ad 11 0)), none, none, some (.int (0 : Int32)), none] [] (putS μ s' m)) :
    ∀ (k i : Nat) (s : Nat → Int32), i + k = nLo (cuZ μ) → bOf s = fd (due (cuZ μ) w) i b0 → AW X 8 [some (.ref (X.G.ad 11 0)), some (.int w), some (.int (b2i (fldS (cuZ μ) w))), some (.int (nI i)), none] [] (putS μ s m) := by
  obtain ⟨n10, -, -⟩ := cOk_n hc
  have hlo : vp_in (μ.1 38 0 0) 11 := hc.2.2.1
  have elo : nLo (cuZ μ) = ix (μ.1 38 0 0) := rfl
  intro k
  induction k with
  | zero =>
    intro i s hi hs
    refine st_X11_fallsDue_8 hX hr ⟨fun c => ?_, fun c => absurd ?_ c⟩
    · exact K s (by rw [hs, show i = nLo (cuZ μ) by omega])
    · rw [pS_38]; exact (vle hlo (by omega) (by omega)).mpr (by omega)
  | succ k ih =>
    intro i s hi hs
    have e0 : ix (nI i) = i := ixn (by omega)
    have e6 : ix (nI (6 + i)) = 6 + i := ixn (by omega)
    have e16 : ix (nI (16 + i)) = 16 + i := ixn (by omega)
    have e26 : ix (nI (26 + i)) = 26 + i := ixn (by omega)
    have hi10 : i < 10 := by omega
    have hn := cOk_at hc (l := i) (by omega)
    refine st_X11_fallsDue_8 hX hr ⟨fun c => absurd c ?_, fun c => ⟨?_, fun c2 => ?_, fun c2 => ?_⟩⟩
    · rw [pS_38]; intro q
      have := (vle hlo (by omega) (by omega)).mp q
      omega
    · rw [a16]; exact vin (by omega) (by omega)
    · refine ⟨0, _, hlv, cr_isRipe (vin (by omega) (by omega)) (by rw [cuZ_putS]; exact hc.1) (by rw [cuZ_putS, e0]; exact hn.2.2.2.1), ?_⟩
      rintro r μ' ⟨rfl, rfl⟩
      rw [cuZ_putS, e0]
      rw [a16, e16, pS70] at c2
      have hb2 : ¬ bOf s 3 i = 2 := by rw [bOf3 hi10]; exact c2
      refine ⟨fun c3 => rf_74 hX hr hi10 (fun s' h' => ih (i + 1) s' (by omega) ?_), fun c3 => ?_⟩
      · rw [h']
        show _ = due (cuZ μ) w i (fd (due (cuZ μ) w) i b0)
        rw [← hs, due, if_neg hb2, du1, b2i0.mp c3]; rfl
      · simp only [forall_eq, a6, a26, e6, e26, e0, pS70, pSI70, pS_48]
        refine ⟨vin (by omega) (by omega), vin (by omega) (by omega), vin (by omega) (by omega), rf_74 hX hr hi10 (fun s' h' => ih (i + 1) s' (by omega) ?_)⟩
        rw [h']
        show _ = due (cuZ μ) w i (fd (due (cuZ μ) w) i b0)
        rw [← hs, due, if_neg hb2, du1, b2i1.mp c3]
        simp only [if_true, ← bU_4 hi10, ← bU_2 hi10, bOf4 hi10, bOf2 hi10, cz7]
    · rw [a16, e16, pS70] at c2
      simp only [forall_eq, nI_1]
      refine ih (i + 1) s (by omega) ?_
      show _ = due (cuZ μ) w i (fd (due (cuZ μ) w) i b0)
      rw [← hs, due, if_pos (by rw [bOf3 hi10]; exact c2)]
set_option maxHeartbeats 1000000 in
theorem rf_162 (hX : zOk X cX11_fallsDue RX11 5 lv) (hr : zRt X none Post) (hc : cOk (cuZ μ)) {b : zB} {l : Nat} (hl : l < 10) (hb : b 3 l = 0)
    (K : ∀ s', bOf s' = (if anyD (cuZ μ) b l (nLo (cuZ μ)) = true then bU b 3 l 1 else b) → AW X 124 [some (.ref (X.G.ad 11 0)), none, none, some (.int (nI (l + 1))), none] [] (putS μ s' m)) :
    ∀ (k i : Nat) (s : Nat → Int32), i + k = nLo (cuZ μ) → bOf s = (if anyD (cuZ μ) b l i = true then bU b 3 l 1 else b) → AW X 162 [some (.ref (X.G.ad 11 0)), none, none, some (.int (nI l)), some (.int (nI i))] [] (putS μ s m) := by
  obtain ⟨n10, -, -⟩ := cOk_n hc
  have hlo : vp_in (μ.1 38 0 0) 11 := hc.2.2.1
  have elo : nLo (cuZ μ) = ix (μ.1 38 0 0) := rfl
  intro k
  induction k with
  | zero =>
    intro i s hi hs
    refine st_X11_fallsDue_162 hX hr ⟨fun c => ?_, fun c => absurd ?_ c⟩
    · simp only [forall_eq, nI_1]
      exact K s (by rw [hs, show i = nLo (cuZ μ) by omega])
    · rw [pS_38]; exact (vle hlo (by omega) (by omega)).mpr (by omega)
  | succ k ih =>
    intro i s hi hs
    have e0 : ix (nI i) = i := ixn (by omega)
    have el : ix (nI l) = l := ixn (by omega)
    have e16 : ix (nI (16 + i)) = 16 + i := ixn (by omega)
    have el16 : ix (nI (16 + l)) = 16 + l := ixn (by omega)
    have hi10 : i < 10 := by omega
    refine st_X11_fallsDue_162 hX hr ⟨fun c => absurd c ?_, fun c => ?_⟩
    · rw [pS_38]; intro q
      have := (vle hlo (by omega) (by omega)).mp q
      omega
    · simp only [forall_eq, a16, nI_1, pS70, pSI70, pS_46, e0, el, e16, el16]
      have hs3 : bOf s 3 i = s (16 + i) := bOf3 hi10
      refine ⟨vin (by omega) (by omega), fun c2 => ih (i + 1) s (by omega) ?_, fun c2 => ⟨vin (by omega) (by omega), vin (by omega) (by omega), fun c3 => ih (i + 1) s (by omega) ?_, fun c3 => ⟨vin (by omega) (by omega), ih (i + 1) _ (by omega) ?_⟩⟩⟩
      · rw [hs]
        simp only [anyD]
        by_cases ha : anyD (cuZ μ) b l i = true
        · simp [ha]
        · have : ¬ b 3 i = 1 := by
            rw [← hs3, hs, if_neg ha] at c2; exact c2
          simp [ha, this]
      · rw [hs]
        simp only [anyD]
        by_cases ha : anyD (cuZ μ) b l i = true
        · simp [ha]
        · have : ¬ cuZ μ 5 i = cuZ μ 5 l := c3
          simp [ha, this]
      · rw [bU_3 hl, hs]
        simp only [anyD]
        by_cases ha : anyD (cuZ μ) b l i = true
        · simp [ha, bU_bU]
        · have h1 : b 3 i = 1 := by
            rw [← hs3, hs, if_neg ha] at c2; exact c2
          have h2 : cuZ μ 5 i = cuZ μ 5 l := c3
          simp [ha, h1, h2]
set_option maxHeartbeats 1000000 in
theorem rf_124 (hX : zOk X cX11_fallsDue RX11 5 lv) (hr : zRt X none Post) (hc : cOk (cuZ μ)) {b0 : zB}
    (K : ∀ s', bOf s' = fd (jnd (cuZ μ)) (nLo (cuZ μ)) b0 → Post none (putS μ s' m)) :
    ∀ (k i : Nat) (s : Nat → Int32), i + k = nLo (cuZ μ) → bOf s = fd (jnd (cuZ μ)) i b0 → AW X 124 [some (.ref (X.G.ad 11 0)), none, none, some (.int (nI i)), none] [] (putS μ s m) := by
  obtain ⟨n10, -, -⟩ := cOk_n hc
  have hlo : vp_in (μ.1 38 0 0) 11 := hc.2.2.1
  have elo : nLo (cuZ μ) = ix (μ.1 38 0 0) := rfl
  intro k
  induction k with
  | zero =>
    intro i s hi hs
    refine st_X11_fallsDue_124 hX hr ⟨fun c => ?_, fun c => absurd ?_ c⟩
    · exact K s (by rw [hs, show i = nLo (cuZ μ) by omega])
    · rw [pS_38]; exact (vle hlo (by omega) (by omega)).mpr (by omega)
  | succ k ih =>
    intro i s hi hs
    have e0 : ix (nI i) = i := ixn (by omega)
    have e16 : ix (nI (16 + i)) = 16 + i := ixn (by omega)
    have hi10 : i < 10 := by omega
    refine st_X11_fallsDue_124 hX hr ⟨fun c => absurd c ?_, fun c => ?_⟩
    · rw [pS_38]; intro q
      have := (vle hlo (by omega) (by omega)).mp q
      omega
    · simp only [forall_eq, a16, nI_1, pS70, pSI70, pS_51, e0, e16]
      refine ⟨vin (by omega) (by omega), fun c2 => ih (i + 1) s (by omega) ?_, fun c2 => ⟨vin (by omega) (by omega), fun c3 => ?_, fun c3 => ih (i + 1) s (by omega) ?_⟩⟩
      · show _ = jnd (cuZ μ) i (fd (jnd (cuZ μ)) i b0)
        rw [← hs, jnd, if_neg (fun h => c2 h.1)]
      · have hb : bOf s 3 i = 0 := by rw [bOf3 hi10]; exact c3
        refine rf_162 hX hr hc (b := bOf s) hi10 hb (fun s' h' => ih (i + 1) s' (by omega) ?_) (nLo (cuZ μ)) 0 s (by omega) (by simp [anyD])
        show _ = jnd (cuZ μ) i (fd (jnd (cuZ μ)) i b0)
        rw [← hs, h', jnd]
        by_cases ha : anyD (cuZ μ) (bOf s) i (nLo (cuZ μ)) = true
        · rw [if_pos ha, if_pos ⟨c2, hb, ha⟩]
        · rw [if_neg ha, if_neg (fun h => ha h.2.2)]
      · show _ = jnd (cuZ μ) i (fd (jnd (cuZ μ)) i b0)
        rw [← hs, jnd, if_neg (fun h => c3 (by rw [← bOf3 (s := s) hi10]; exact h.2.1))]
end RF
theorem cr_fallsDue {l : Launch} {G : zG} {μ : zM} {s : Nat → Int32} {m w : Int32} (hc : cOk (cuZ μ)) :
    zCT l G 1 yX11_fallsDue cX11_fallsDue 5 none [.ref (G.ad 11 0), .int w] (putS μ s m) (zV fun μ' => ∃ s', μ' = putS μ s' m ∧ bOf s' = fall (cuZ μ) w (bOf s)) := by
  refine zCT_of (by decide) (Nat.le_of_ble_eq_true rfl) rfl (fun X hl hG hX hr => ?_)
  subst hG
  refine st_X11_fallsDue_0 hX hr ⟨0, _, by omega, cr_isFlood, ?_⟩
  rintro r μ' ⟨rfl, rfl⟩
  rw [cuZ_putS]
  exact rf_8 hX hr (by omega) hc (fun s1 h1 => rf_124 hX hr hc (fun s2 h2 => ⟨rfl, s2, rfl, h2⟩) (nLo (cuZ μ)) 0 s1 (by omega) h1) (nLo (cuZ μ)) 0 s (by omega) rfl
