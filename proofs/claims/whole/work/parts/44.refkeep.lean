/-! memory, written twice -/
theorem pR_pI (μ : zM) {κ κ' : Nat} (o o' k : Nat) (v : Int32) (f : Nat → Int32) (h : κ ≠ κ') : pR (pI μ κ o k v) κ' o' f = pI (pR μ κ' o' f) κ o k v := by
  refine Prod.ext ?_ rfl
  funext a b c
  simp only [pI, pR]
  by_cases h1 : a = κ' ∧ b = o'
  · obtain ⟨rfl, rfl⟩ := h1
    simp [Ne.symm h]
  · simp only [if_neg h1]
theorem pR_pR (μ : zM) (κ o : Nat) (f g : Nat → Int32) : pR (pR μ κ o f) κ o g = pR μ κ o g := by
  refine Prod.ext ?_ rfl
  funext a b
  simp only [pR]
  by_cases h : a = κ ∧ b = o
  · simp [h]
  · simp only [if_neg h]
theorem pI_pI (μ : zM) (κ o k : Nat) (v w : Int32) : pI (pI μ κ o k v) κ o k w = pI μ κ o k w := by
  refine Prod.ext ?_ rfl
  funext a b c
  simp only [pI]
  split <;> rfl
theorem pI_at (μ : zM) (κ o k : Nat) (v : Int32) : (pI μ κ o k v).1 κ o k = v := by simp [pI]
theorem pI_other (μ : zM) {κ κ' : Nat} (o o' k : Nat) (v : Int32) (k' : Nat) (h : κ' ≠ κ) : (pI μ κ o k v).1 κ' o' k' = μ.1 κ' o' k' := by simp [pI, h]
theorem pI_place (μ : zM) (κ o : Nat) {k k' : Nat} (v : Int32) (h : k' ≠ k) : (pI μ κ o k v).1 κ o k' = μ.1 κ o k' := by simp [pI, h]
theorem pI_row2 (μ : zM) {κ κ' : Nat} (o o' k : Nat) (v : Int32) (h : κ' ≠ κ) : (pI μ κ o k v).1 κ' o' = μ.1 κ' o' := by funext c; simp [pI, h]
theorem pR_row2 (μ : zM) {κ κ' : Nat} (o o' : Nat) (f : Nat → Int32) (h : κ' ≠ κ) : (pR μ κ o f).1 κ' o' = μ.1 κ' o' := by funext c; simp [pR, h]
/-! THE REFERENCE keeps the days -/
def kpF (g s : Nat → Int32) (d : Nat) : Nat → Int32 := if d = 30 then va_cpy s (va_cpy g g 64 0 1856) 0 1856 64 else va_cpy s g 0 (64 * d) 64
def keepM (μ : zM) : zM := pI (pR μ 72 0 (kpF (μ.1 72 0) (μ.1 70 0) (ix (μ.1 11 0 50)))) 11 0 50 (nI (if ix (μ.1 11 0 50) = 30 then 30 else ix (μ.1 11 0 50) + 1))
theorem rk_49 {X : zX} {lv : Nat} {Post : Option Value → zM → Prop} (hX : zOk X cX11_keeps RX11 2 lv) (hr : zRt X none Post) (hlv : 0 < lv) {ν : zM} {d : Nat} (hd : d < 30) (e : ν.1 11 0 50 = nI d)
    (K : Post none (pI (pR ν 72 0 (va_cpy (ν.1 70 0) (ν.1 72 0) 0 (64 * d) 64)) 11 0 50 (nI (d + 1)))) : AW X 49 [some (.ref (X.G.ad 11 0)), none] [] ν := by
  refine st_X11_keeps_49 hX hr ?_
  rw [e, m64]
  refine ⟨0, _, hlv, cr_copies (a := 0) (b := 64 * d) sh_70 (by decide) sh_72 (by decide) (by decide) (by omega) (by omega) (by omega) (by omega), ?_⟩
  rintro μ' rfl
  simp only [forall_eq]
  rw [pR_other ν 0 0 _ _ (by decide), e, nI_1]
  exact K
set_option maxHeartbeats 1000000 in
theorem cr_keeps {l : Launch} {G : zG} {μ : zM} (hd : vp_in (μ.1 11 0 50) 31) :
    zCT l G 1 yX11_keeps cX11_keeps 2 none [.ref (G.ad 11 0)] μ (zV fun μ' => μ' = keepM μ) := by
  refine zCT_of (by decide) (Nat.le_of_ble_eq_true rfl) rfl (fun X hl hG hX hr => ?_)
  subst hG
  have ed := vof hd (by omega)
  have hx := zix hd
  refine st_X11_keeps_0 hX hr ⟨fun c => ?_, fun c => ?_⟩
  · have hne : ix (μ.1 11 0 50) ≠ 30 := fun h => c (by rw [ed, h]; rfl)
    refine rk_49 hX hr (by omega) (d := ix (μ.1 11 0 50)) (by omega) ed ⟨rfl, ?_⟩
    rw [keepM, kpF, if_neg hne, if_neg hne]
  · have he : ix (μ.1 11 0 50) = 30 := by rw [c]; decide
    have go : ∀ k i, i + k = 1856 → AW X 11 [some (.ref (X.G.ad 11 0)), some (.int (nI i))] [] (pR μ 72 0 (va_cpy (μ.1 72 0) (μ.1 72 0) 64 0 i)) := by
      intro k
      induction k with
      | zero =>
        intro i hi
        refine st_X11_keeps_11 hX hr ⟨fun _ => ?_, fun q => absurd (nI_le (a := 1856) (b := i) (by omega) (by omega)) q⟩
        simp only [forall_eq]
        rw [pR_other μ 0 0 _ _ (by decide), c, show (30 : Int32) - 1 = nI 29 by decide]
        refine rk_49 hX hr (by omega) (d := 29) (by omega) (pI_at _ _ _ _ _) ⟨rfl, ?_⟩
        rw [keepM, kpF, if_pos he, if_pos he, pR_pI _ _ _ _ _ _ (by decide), pR_pR, pI_pI, pI_row2 _ _ _ _ _ (by decide), pI_row2 _ _ _ _ _ (by decide), pR_row2 _ _ _ _ (by decide), show i = 1856 by omega]
        congr 2
      | succ k ih =>
        intro i hi
        refine st_X11_keeps_11 hX hr ⟨fun q => absurd q (nI_ge (a := i) (b := 1856) (by omega) (by omega)), fun _ => ?_⟩
        simp only [forall_eq, nI_1]
        rw [show nI i + (64 : Int32) = nI (64 + i) by rw [show (64 : Int32) = nI 64 from rfl, nI_add, Nat.add_comm], ixn (by omega), ixn (by omega), pI_pR, pR_at]
        have e : va_cpy (μ.1 72 0) (μ.1 72 0) 64 0 i (64 + i) = μ.1 72 0 (64 + i) := by
          simp only [va_cpy]; rw [if_neg (by omega)]
        have e2 := cpy_s (μ.1 72 0) (μ.1 72 0) 64 0 i
        rw [Nat.zero_add] at e2
        rw [e, e2]
        exact ⟨vin (by omega) (by omega), vin (by omega) (by omega), ih (i + 1) (by omega)⟩
    have := go 1856 0 rfl
    rw [cpy_0, pR_self] at this
    exact this
theorem keepM_70 (μ : zM) : (keepM μ).1 70 0 = μ.1 70 0 := by rw [keepM, pI_row2 _ _ _ _ _ (by decide), pR_row2 _ _ _ _ (by decide)]
theorem cuZ_pI11 (μ : zM) (k : Nat) (v : Int32) : cuZ (pI μ 11 0 k v) = cuZ μ := by
  funext j i
  unfold cuZ
  simp only [pI_other μ 0 0 k v _ (show (36 : Nat) ≠ 11 by decide), pI_other μ 0 0 k v _ (show (37 : Nat) ≠ 11 by decide), pI_other μ 0 0 k v _ (show (38 : Nat) ≠ 11 by decide), pI_other μ 0 0 k v _ (show (39 : Nat) ≠ 11 by decide), pI_other μ 0 0 k v _ (show (42 : Nat) ≠ 11 by decide), pI_other μ 0 0 k v _ (show (43 : Nat) ≠ 11 by decide), pI_other μ 0 0 k v _ (show (44 : Nat) ≠ 11 by decide), pI_other μ 0 0 k v _ (show (45 : Nat) ≠ 11 by decide), pI_other μ 0 0 k v _ (show (46 : Nat) ≠ 11 by decide), pI_other μ 0 0 k v _ (show (47 : Nat) ≠ 11 by decide), pI_other μ 0 0 k v _ (show (48 : Nat) ≠ 11 by decide), pI_other μ 0 0 k v _ (show (49 : Nat) ≠ 11 by decide), pI_other μ 0 0 k v _ (show (50 : Nat) ≠ 11 by decide), pI_other μ 0 0 k v _ (show (51 : Nat) ≠ 11 by decide), pI_other μ 0 0 k v _ (show (52 : Nat) ≠ 11 by decide), pI_other μ 0 0 k v _ (show (53 : Nat) ≠ 11 by decide), pI_other μ 0 0 k v _ (show (54 : Nat) ≠ 11 by decide)]
theorem cuZ_pR (μ : zM) {κ : Nat} (h : κ < 36 ∨ 54 < κ) (f : Nat → Int32) : cuZ (pR μ κ 0 f) = cuZ μ := by
  funext j i
  unfold cuZ
  simp only [pR_other μ 0 0 f _ (show (36 : Nat) ≠ κ by omega), pR_other μ 0 0 f _ (show (37 : Nat) ≠ κ by omega), pR_other μ 0 0 f _ (show (38 : Nat) ≠ κ by omega), pR_other μ 0 0 f _ (show (39 : Nat) ≠ κ by omega), pR_other μ 0 0 f _ (show (42 : Nat) ≠ κ by omega), pR_other μ 0 0 f _ (show (43 : Nat) ≠ κ by omega), pR_other μ 0 0 f _ (show (44 : Nat) ≠ κ by omega), pR_other μ 0 0 f _ (show (45 : Nat) ≠ κ by omega), pR_other μ 0 0 f _ (show (46 : Nat) ≠ κ by omega), pR_other μ 0 0 f _ (show (47 : Nat) ≠ κ by omega), pR_other μ 0 0 f _ (show (48 : Nat) ≠ κ by omega), pR_other μ 0 0 f _ (show (49 : Nat) ≠ κ by omega), pR_other μ 0 0 f _ (show (50 : Nat) ≠ κ by omega), pR_other μ 0 0 f _ (show (51 : Nat) ≠ κ by omega), pR_other μ 0 0 f _ (show (52 : Nat) ≠ κ by omega), pR_other μ 0 0 f _ (show (53 : Nat) ≠ κ by omega), pR_other μ 0 0 f _ (show (54 : Nat) ≠ κ by omega)]
theorem cuZ_keepM (μ : zM) : cuZ (keepM μ) = cuZ μ := by rw [keepM, cuZ_pI11, cuZ_pR _ (by omega)]
abbrev thr (μ : zM) (v : Int32) : zM := pI μ 11 0 0 v
theorem cr_goes' {l : Launch} {G : zG} {μ : zM} {w : Int32} (hc : cOk (cuZ μ)) (I : bInv (called (cuZ μ) w (fall (cuZ μ) w (bOf (μ.1 70 0))))) :
    zCT l G 2 yX11_goes cX11_goes 4 none [.ref (G.ad 11 0), .int w] μ (zV fun μ' => ∃ s' m', μ' = putS μ s' m' ∧ bOf s' = live (cuZ μ) w (bOf (μ.1 70 0))) := by
  have := cr_goes (l := l) (G := G) (μ := μ) (s := μ.1 70 0) (m := μ.1 11 0 51) (w := w) hc I
  rw [putS_self] at this
  exact this
theorem pS70r (μ : zM) (s : Nat → Int32) (m : Int32) : (putS μ s m).1 70 0 = s := by funext k; exact pS70 μ s m k
/-- a day of the reference -/
theorem cr_day {l : Launch} {G : zG} {μ : zM} {w : Int32} (hc : cOk (cuZ μ)) (hd : vp_in (μ.1 11 0 50) 31) (I : inR w ((1 : Int32) <<< ((μ.1 36 0 0) &&& 31)) = true → bInv (called (cuZ μ) w (fall (cuZ μ) w (bOf (μ.1 70 0))))) :
    zCT l G 3 yX11_day cX11_day 2 (some .int) [.ref (G.ad 11 0), .int w] μ (zI fun r μ' => (inR w ((1 : Int32) <<< ((μ.1 36 0 0) &&& 31)) = true ∧ ∃ s' m', μ' = putS (keepM (thr μ 0)) s' m' ∧ bOf s' = live (cuZ μ) w (bOf (μ.1 70 0)) ∧ r = duesS (cuZ μ) (live (cuZ μ) w (bOf (μ.1 70 0))) (nLo (cuZ μ))) ∨ (inR w ((1 : Int32) <<< ((μ.1 36 0 0) &&& 31)) = false ∧ r = -1 ∧ μ' = thr μ 0)) := by
  refine zCT_of (by decide) (Nat.le_of_ble_eq_true rfl) rfl (fun X hl hG hX hr => ?_)
  subst hG
  refine st_X11_day_0 hX hr ?_
  simp only [forall_eq]
  refine ⟨0, _, by omega, cr_isWeather, ?_⟩
  rintro r μ' ⟨rfl, rfl⟩
  rw [pI_other μ 0 0 _ _ _ (by decide)]
  refine ⟨fun c => ?_, fun c => ⟨_, rfl, Or.inr ⟨b2i0.mp c, rfl, rfl⟩⟩⟩
  have hw := b2i1.mp c
  refine ⟨1, _, by omega, cr_keeps (by rw [pI_place _ _ _ _ (by decide)]; exact hd), ?_⟩
  rintro μ' rfl
  have ec : cuZ (keepM (thr μ 0)) = cuZ μ := by rw [cuZ_keepM, cuZ_pI11]
  have e7 : (keepM (thr μ 0)).1 70 0 = μ.1 70 0 := by rw [keepM_70, pI_row2 _ _ _ _ _ (by decide)]
  refine ⟨2, _, by omega, cr_goes' (by rw [ec]; exact hc) (by rw [ec, e7]; exact I hw), ?_⟩
  rintro μ' ⟨s', m', rfl, h'⟩
  rw [ec, e7] at h'
  refine ⟨0, _, by omega, cr_dues (by rw [cuZ_putS, ec]; exact hc), ?_⟩
  rintro r μ' ⟨rfl, rfl⟩
  refine ⟨_, rfl, Or.inl ⟨hw, s', m', rfl, h', ?_⟩⟩
  rw [cuZ_putS, ec, pS70r, h']
