/-! THE REFERENCE: marks -/
def shF (c : Int32) (r : Nat → Int32) (a b n : Nat) : Nat → Int32 := fun j => if b ≤ j ∧ j < b + n then r (a + (j - b)) + c else r j
theorem shF_0 (c : Int32) (r : Nat → Int32) (a b : Nat) : shF c r a b 0 = r := by
  funext k
  simp only [shF]
  rw [if_neg (by omega)]
theorem shF_s (c : Int32) (r : Nat → Int32) (a b i : Nat) : upd (shF c r a b i) (b + i) (r (a + i) + c) = shF c r a b (i + 1) := by
  funext k
  show (if k = b + i then r (a + i) + c else shF c r a b i k) = _
  simp only [shF]
  by_cases h : k = b + i
  · subst h
    rw [if_pos rfl, if_pos (by omega), Nat.add_sub_cancel_left]
  · rw [if_neg h]
    by_cases h2 : b ≤ k ∧ k < b + i
    · rw [if_pos h2, if_pos (by omega)]
    · rw [if_neg h2, if_neg (by omega)]
theorem shF_far {c : Int32} {r : Nat → Int32} {a b n j : Nat} (h : ¬ (b ≤ j ∧ j < b + n)) : shF c r a b n j = r j := by
  simp only [shF]
  rw [if_neg h]
def ly36 (μ : zM) (f t : Nat) : zM := pR (μ) 36 0 (va_cpy (μ.1 36 0) (μ.1 36 0) (1 * f) (1 * t) 1)
def ly37 (μ : zM) (f t : Nat) : zM := pR (ly36 μ f t) 37 0 (va_cpy (μ.1 37 0) (μ.1 37 0) (1 * f) (1 * t) 1)
def ly38 (μ : zM) (f t : Nat) : zM := pR (ly37 μ f t) 38 0 (va_cpy (μ.1 38 0) (μ.1 38 0) (1 * f) (1 * t) 1)
def ly39 (μ : zM) (f t : Nat) : zM := pR (ly38 μ f t) 39 0 (va_cpy (μ.1 39 0) (μ.1 39 0) (1 * f) (1 * t) 1)
def ly42 (μ : zM) (f t : Nat) : zM := pR (ly39 μ f t) 42 0 (va_cpy (μ.1 42 0) (μ.1 42 0) (4 * f) (4 * t) 4)
def ly43 (μ : zM) (f t : Nat) : zM := pR (ly42 μ f t) 43 0 (va_cpy (μ.1 43 0) (μ.1 43 0) (4 * f) (4 * t) 4)
def ly44 (μ : zM) (f t : Nat) : zM := pR (ly43 μ f t) 44 0 (va_cpy (μ.1 44 0) (μ.1 44 0) (6 * f) (6 * t) 6)
def ly45 (μ : zM) (f t : Nat) : zM := pR (ly44 μ f t) 45 0 (va_cpy (μ.1 45 0) (μ.1 45 0) (10 * f) (10 * t) 10)
def ly46 (μ : zM) (f t : Nat) : zM := pR (ly45 μ f t) 46 0 (va_cpy (μ.1 46 0) (μ.1 46 0) (10 * f) (10 * t) 10)
def ly47 (μ : zM) (f t : Nat) : zM := pR (ly46 μ f t) 47 0 (va_cpy (μ.1 47 0) (μ.1 47 0) (10 * f) (10 * t) 10)
def ly48 (μ : zM) (f t : Nat) : zM := pR (ly47 μ f t) 48 0 (va_cpy (μ.1 48 0) (μ.1 48 0) (10 * f) (10 * t) 10)
def ly49 (μ : zM) (f t : Nat) : zM := pR (ly48 μ f t) 49 0 (va_cpy (μ.1 49 0) (μ.1 49 0) (10 * f) (10 * t) 10)
def ly50 (μ : zM) (f t : Nat) : zM := pR (ly49 μ f t) 50 0 (va_cpy (μ.1 50 0) (μ.1 50 0) (10 * f) (10 * t) 10)
def ly51 (μ : zM) (f t : Nat) : zM := pR (ly50 μ f t) 51 0 (va_cpy (μ.1 51 0) (μ.1 51 0) (10 * f) (10 * t) 10)
def ly52 (μ : zM) (f t : Nat) : zM := pR (ly51 μ f t) 52 0 (va_cpy (μ.1 52 0) (μ.1 52 0) (10 * f) (10 * t) 10)
def ly53 (μ : zM) (f t : Nat) : zM := pR (ly52 μ f t) 53 0 (va_cpy (μ.1 53 0) (μ.1 53 0) (8 * f) (8 * t) 8)
def ly54 (μ : zM) (f t : Nat) : zM := pR (ly53 μ f t) 54 0 (va_cpy (μ.1 54 0) (μ.1 54 0) (8 * f) (8 * t) 8)
def ly57 (μ : zM) (f t : Nat) : zM := pR (ly54 μ f t) 57 0 (va_cpy (μ.1 57 0) (μ.1 57 0) (1000 * f) (1000 * t) 1000)
def lyC (f t : Nat) : Int32 := (1000 : Int32) * (nI t - nI f)
def layM (μ : zM) (f t : Nat) : zM := pR (pR (ly57 μ f t) 55 0 (shF (lyC f t) (μ.1 55 0) (8 * f) (8 * t) 8)) 56 0 (shF (lyC f t) (μ.1 56 0) (8 * f) (8 * t) 8)
theorem lyr36 (μ : zM) (f t : Nat) {κ : Nat} (h : κ ≠ 36) : (ly36 μ f t).1 κ 0 = μ.1 κ 0 := by rw [ly36, pR_row2 _ _ _ _ h]
theorem lyr37 (μ : zM) (f t : Nat) {κ : Nat} (h : κ < 36 ∨ 37 < κ) : (ly37 μ f t).1 κ 0 = μ.1 κ 0 := by rw [ly37, pR_row2 _ _ _ _ (by omega), lyr36 μ f t (by omega)]
theorem lyr38 (μ : zM) (f t : Nat) {κ : Nat} (h : κ < 36 ∨ 38 < κ) : (ly38 μ f t).1 κ 0 = μ.1 κ 0 := by rw [ly38, pR_row2 _ _ _ _ (by omega), lyr37 μ f t (by omega)]
theorem lyr39 (μ : zM) (f t : Nat) {κ : Nat} (h : κ < 36 ∨ 39 < κ) : (ly39 μ f t).1 κ 0 = μ.1 κ 0 := by rw [ly39, pR_row2 _ _ _ _ (by omega), lyr38 μ f t (by omega)]
theorem lyr42 (μ : zM) (f t : Nat) {κ : Nat} (h : κ < 36 ∨ 42 < κ) : (ly42 μ f t).1 κ 0 = μ.1 κ 0 := by rw [ly42, pR_row2 _ _ _ _ (by omega), lyr39 μ f t (by omega)]
theorem lyr43 (μ : zM) (f t : Nat) {κ : Nat} (h : κ < 36 ∨ 43 < κ) : (ly43 μ f t).1 κ 0 = μ.1 κ 0 := by rw [ly43, pR_row2 _ _ _ _ (by omega), lyr42 μ f t (by omega)]
theorem lyr44 (μ : zM) (f t : Nat) {κ : Nat} (h : κ < 36 ∨ 44 < κ) : (ly44 μ f t).1 κ 0 = μ.1 κ 0 := by rw [ly44, pR_row2 _ _ _ _ (by omega), lyr43 μ f t (by omega)]
theorem lyr45 (μ : zM) (f t : Nat) {κ : Nat} (h : κ < 36 ∨ 45 < κ) : (ly45 μ f t).1 κ 0 = μ.1 κ 0 := by rw [ly45, pR_row2 _ _ _ _ (by omega), lyr44 μ f t (by omega)]
theorem lyr46 (μ : zM) (f t : Nat) {κ : Nat} (h : κ < 36 ∨ 46 < κ) : (ly46 μ f t).1 κ 0 = μ.1 κ 0 := by rw [ly46, pR_row2 _ _ _ _ (by omega), lyr45 μ f t (by omega)]
theorem lyr47 (μ : zM) (f t : Nat) {κ : Nat} (h : κ < 36 ∨ 47 < κ) : (ly47 μ f t).1 κ 0 = μ.1 κ 0 := by rw [ly47, pR_row2 _ _ _ _ (by omega), lyr46 μ f t (by omega)]
theorem lyr48 (μ : zM) (f t : Nat) {κ : Nat} (h : κ < 36 ∨ 48 < κ) : (ly48 μ f t).1 κ 0 = μ.1 κ 0 := by rw [ly48, pR_row2 _ _ _ _ (by omega), lyr47 μ f t (by omega)]
theorem lyr49 (μ : zM) (f t : Nat) {κ : Nat} (h : κ < 36 ∨ 49 < κ) : (ly49 μ f t).1 κ 0 = μ.1 κ 0 := by rw [ly49, pR_row2 _ _ _ _ (by omega), lyr48 μ f t (by omega)]
theorem lyr50 (μ : zM) (f t : Nat) {κ : Nat} (h : κ < 36 ∨ 50 < κ) : (ly50 μ f t).1 κ 0 = μ.1 κ 0 := by rw [ly50, pR_row2 _ _ _ _ (by omega), lyr49 μ f t (by omega)]
theorem lyr51 (μ : zM) (f t : Nat) {κ : Nat} (h : κ < 36 ∨ 51 < κ) : (ly51 μ f t).1 κ 0 = μ.1 κ 0 := by rw [ly51, pR_row2 _ _ _ _ (by omega), lyr50 μ f t (by omega)]
theorem lyr52 (μ : zM) (f t : Nat) {κ : Nat} (h : κ < 36 ∨ 52 < κ) : (ly52 μ f t).1 κ 0 = μ.1 κ 0 := by rw [ly52, pR_row2 _ _ _ _ (by omega), lyr51 μ f t (by omega)]
theorem lyr53 (μ : zM) (f t : Nat) {κ : Nat} (h : κ < 36 ∨ 53 < κ) : (ly53 μ f t).1 κ 0 = μ.1 κ 0 := by rw [ly53, pR_row2 _ _ _ _ (by omega), lyr52 μ f t (by omega)]
theorem lyr54 (μ : zM) (f t : Nat) {κ : Nat} (h : κ < 36 ∨ 54 < κ) : (ly54 μ f t).1 κ 0 = μ.1 κ 0 := by rw [ly54, pR_row2 _ _ _ _ (by omega), lyr53 μ f t (by omega)]
theorem lyr57 (μ : zM) (f t : Nat) {κ : Nat} (h : κ < 36 ∨ 57 < κ) : (ly57 μ f t).1 κ 0 = μ.1 κ 0 := by rw [ly57, pR_row2 _ _ _ _ (by omega), lyr54 μ f t (by omega)]
section RLY
variable {X : zX} {lv : Nat} {Post : Option Value → zM → Prop}
set_option maxHeartbeats 1000000 in
theorem ry_195 (hX : zOk X cX11_lays RX11 4 lv) (hr : zRt X none Post) {ν : zM} {f t : Nat} (hf : f < 6) (ht : t < 6) (hne : f ≠ t)
    (K : Post none (pR (pR ν 55 0 (shF (lyC f t) (ν.1 55 0) (8 * f) (8 * t) 8)) 56 0 (shF (lyC f t) (ν.1 56 0) (8 * f) (8 * t) 8))) :
    ∀ k i, i + k = 8 → AW X 195 [some (.ref (X.G.ad 11 0)), some (.int (nI f)), some (.int (nI t)), some (.int (nI i))] [] (pR (pR ν 55 0 (shF (lyC f t) (ν.1 55 0) (8 * f) (8 * t) i)) 56 0 (shF (lyC f t) (ν.1 56 0) (8 * f) (8 * t) i)) := by
  intro k
  induction k with
  | zero =>
    intro i hi
    have ei : i = 8 := by omega
    subst ei
    exact st_X11_lays_195 hX hr ⟨fun _ => K, fun q => absurd (nI_le (a := 8) (b := 8) (by omega) (by omega)) q⟩
  | succ k ih =>
    intro i hi
    have e1 : (8 : Int32) * nI f = nI (8 * f) := nI_mul 8 f
    have e2 : (8 : Int32) * nI t = nI (8 * t) := nI_mul 8 t
    have i1 : ix (nI (8 * f + i)) = 8 * f + i := ixn (by omega)
    have i2 : ix (nI (8 * t + i)) = 8 * t + i := ixn (by omega)
    have far : ¬ (8 * t ≤ 8 * f + i ∧ 8 * f + i < 8 * t + i) := by omega
    refine st_X11_lays_195 hX hr ⟨fun q => absurd q (nI_ge (a := i) (b := 8) (by omega) (by omega)), fun _ => ?_⟩
    simp only [forall_eq, e1, e2, nI_add, nI_1, i1, i2]
    rw [pR_other _ _ _ _ _ (show (55 : Nat) ≠ 56 by decide), pR_at, shF_far far]
    rw [show pI (pR (pR ν 55 0 (shF (lyC f t) (ν.1 55 0) (8 * f) (8 * t) i)) 56 0 (shF (lyC f t) (ν.1 56 0) (8 * f) (8 * t) i)) 55 0 (8 * t + i) (ν.1 55 0 (8 * f + i) + 1000 * (nI t - nI f)) = pR (pR ν 55 0 (shF (lyC f t) (ν.1 55 0) (8 * f) (8 * t) (i + 1))) 56 0 (shF (lyC f t) (ν.1 56 0) (8 * f) (8 * t) i) by
      rw [← pR_pI _ _ _ _ _ _ (by decide), pI_pR, ← shF_s]; rfl]
    rw [pR_at, shF_far far, pI_pR]
    rw [show upd (shF (lyC f t) (ν.1 56 0) (8 * f) (8 * t) i) (8 * t + i) (ν.1 56 0 (8 * f + i) + 1000 * (nI t - nI f)) = shF (lyC f t) (ν.1 56 0) (8 * f) (8 * t) (i + 1) from shF_s _ _ _ _ _]
    exact ⟨vin (by omega) (by omega), vin (by omega) (by omega), ih (i + 1) (by omega)⟩
end RLY
set_option maxHeartbeats 2000000 in
theorem cr_lays {lc : Launch} {G : zG} {μ : zM} {f t : Nat} (hf : f < 6) (ht : t < 6) (hne : f ≠ t) :
    zCT lc G 1 yX11_lays cX11_lays 4 none [.ref (G.ad 11 0), .int (nI f), .int (nI t)] μ (zV fun μ' => μ' = layM μ f t) := by
  refine zCT_of (by decide) (Nat.le_of_ble_eq_true rfl) rfl (fun X hl0 hG hX hr => ?_)
  subst hG
  refine st_X11_lays_0 hX hr ?_
  refine ⟨0, _, by omega, cr_moves (n := 1) (a := f) (b := t) sh_36 (by decide) hne (by omega) (by omega) (by omega) (by omega), ?_⟩
  rintro μ' rfl
  rw [show pR μ 36 0 (va_cpy (μ.1 36 0) (μ.1 36 0) (1 * f) (1 * t) 1) = ly36 μ f t from rfl]
  refine ⟨0, _, by omega, cr_moves (n := 1) (a := f) (b := t) sh_37 (by decide) hne (by omega) (by omega) (by omega) (by omega), ?_⟩
  rintro μ' rfl
  rw [lyr36 μ f t (by omega)]
  rw [show pR (ly36 μ f t) 37 0 (va_cpy (μ.1 37 0) (μ.1 37 0) (1 * f) (1 * t) 1) = ly37 μ f t from rfl]
  refine ⟨0, _, by omega, cr_moves (n := 1) (a := f) (b := t) sh_38 (by decide) hne (by omega) (by omega) (by omega) (by omega), ?_⟩
  rintro μ' rfl
  rw [lyr37 μ f t (by omega)]
  rw [show pR (ly37 μ f t) 38 0 (va_cpy (μ.1 38 0) (μ.1 38 0) (1 * f) (1 * t) 1) = ly38 μ f t from rfl]
  refine ⟨0, _, by omega, cr_moves (n := 1) (a := f) (b := t) sh_39 (by decide) hne (by omega) (by omega) (by omega) (by omega), ?_⟩
  rintro μ' rfl
  rw [lyr38 μ f t (by omega)]
  rw [show pR (ly38 μ f t) 39 0 (va_cpy (μ.1 39 0) (μ.1 39 0) (1 * f) (1 * t) 1) = ly39 μ f t from rfl]
  refine ⟨0, _, by omega, cr_moves (n := 4) (a := f) (b := t) sh_42 (by decide) hne (by omega) (by omega) (by omega) (by omega), ?_⟩
  rintro μ' rfl
  rw [lyr39 μ f t (by omega)]
  rw [show pR (ly39 μ f t) 42 0 (va_cpy (μ.1 42 0) (μ.1 42 0) (4 * f) (4 * t) 4) = ly42 μ f t from rfl]
  refine ⟨0, _, by omega, cr_moves (n := 4) (a := f) (b := t) sh_43 (by decide) hne (by omega) (by omega) (by omega) (by omega), ?_⟩
  rintro μ' rfl
  rw [lyr42 μ f t (by omega)]
  rw [show pR (ly42 μ f t) 43 0 (va_cpy (μ.1 43 0) (μ.1 43 0) (4 * f) (4 * t) 4) = ly43 μ f t from rfl]
  refine ⟨0, _, by omega, cr_moves (n := 6) (a := f) (b := t) sh_44 (by decide) hne (by omega) (by omega) (by omega) (by omega), ?_⟩
  rintro μ' rfl
  rw [lyr43 μ f t (by omega)]
  rw [show pR (ly43 μ f t) 44 0 (va_cpy (μ.1 44 0) (μ.1 44 0) (6 * f) (6 * t) 6) = ly44 μ f t from rfl]
  refine ⟨0, _, by omega, cr_moves (n := 10) (a := f) (b := t) sh_45 (by decide) hne (by omega) (by omega) (by omega) (by omega), ?_⟩
  rintro μ' rfl
  rw [lyr44 μ f t (by omega)]
  rw [show pR (ly44 μ f t) 45 0 (va_cpy (μ.1 45 0) (μ.1 45 0) (10 * f) (10 * t) 10) = ly45 μ f t from rfl]
  refine ⟨0, _, by omega, cr_moves (n := 10) (a := f) (b := t) sh_46 (by decide) hne (by omega) (by omega) (by omega) (by omega), ?_⟩
  rintro μ' rfl
  rw [lyr45 μ f t (by omega)]
  rw [show pR (ly45 μ f t) 46 0 (va_cpy (μ.1 46 0) (μ.1 46 0) (10 * f) (10 * t) 10) = ly46 μ f t from rfl]
  refine ⟨0, _, by omega, cr_moves (n := 10) (a := f) (b := t) sh_47 (by decide) hne (by omega) (by omega) (by omega) (by omega), ?_⟩
  rintro μ' rfl
  rw [lyr46 μ f t (by omega)]
  rw [show pR (ly46 μ f t) 47 0 (va_cpy (μ.1 47 0) (μ.1 47 0) (10 * f) (10 * t) 10) = ly47 μ f t from rfl]
  refine ⟨0, _, by omega, cr_moves (n := 10) (a := f) (b := t) sh_48 (by decide) hne (by omega) (by omega) (by omega) (by omega), ?_⟩
  rintro μ' rfl
  rw [lyr47 μ f t (by omega)]
  rw [show pR (ly47 μ f t) 48 0 (va_cpy (μ.1 48 0) (μ.1 48 0) (10 * f) (10 * t) 10) = ly48 μ f t from rfl]
  refine ⟨0, _, by omega, cr_moves (n := 10) (a := f) (b := t) sh_49 (by decide) hne (by omega) (by omega) (by omega) (by omega), ?_⟩
  rintro μ' rfl
  rw [lyr48 μ f t (by omega)]
  rw [show pR (ly48 μ f t) 49 0 (va_cpy (μ.1 49 0) (μ.1 49 0) (10 * f) (10 * t) 10) = ly49 μ f t from rfl]
  refine ⟨0, _, by omega, cr_moves (n := 10) (a := f) (b := t) sh_50 (by decide) hne (by omega) (by omega) (by omega) (by omega), ?_⟩
  rintro μ' rfl
  rw [lyr49 μ f t (by omega)]
  rw [show pR (ly49 μ f t) 50 0 (va_cpy (μ.1 50 0) (μ.1 50 0) (10 * f) (10 * t) 10) = ly50 μ f t from rfl]
  refine ⟨0, _, by omega, cr_moves (n := 10) (a := f) (b := t) sh_51 (by decide) hne (by omega) (by omega) (by omega) (by omega), ?_⟩
  rintro μ' rfl
  rw [lyr50 μ f t (by omega)]
  rw [show pR (ly50 μ f t) 51 0 (va_cpy (μ.1 51 0) (μ.1 51 0) (10 * f) (10 * t) 10) = ly51 μ f t from rfl]
  refine ⟨0, _, by omega, cr_moves (n := 10) (a := f) (b := t) sh_52 (by decide) hne (by omega) (by omega) (by omega) (by omega), ?_⟩
  rintro μ' rfl
  rw [lyr51 μ f t (by omega)]
  rw [show pR (ly51 μ f t) 52 0 (va_cpy (μ.1 52 0) (μ.1 52 0) (10 * f) (10 * t) 10) = ly52 μ f t from rfl]
  refine ⟨0, _, by omega, cr_moves (n := 8) (a := f) (b := t) sh_53 (by decide) hne (by omega) (by omega) (by omega) (by omega), ?_⟩
  rintro μ' rfl
  rw [lyr52 μ f t (by omega)]
  rw [show pR (ly52 μ f t) 53 0 (va_cpy (μ.1 53 0) (μ.1 53 0) (8 * f) (8 * t) 8) = ly53 μ f t from rfl]
  refine ⟨0, _, by omega, cr_moves (n := 8) (a := f) (b := t) sh_54 (by decide) hne (by omega) (by omega) (by omega) (by omega), ?_⟩
  rintro μ' rfl
  rw [lyr53 μ f t (by omega)]
  rw [show pR (ly53 μ f t) 54 0 (va_cpy (μ.1 54 0) (μ.1 54 0) (8 * f) (8 * t) 8) = ly54 μ f t from rfl]
  refine ⟨0, _, by omega, cr_moves (n := 1000) (a := f) (b := t) sh_57 (by decide) hne (by omega) (by omega) (by omega) (by omega), ?_⟩
  rintro μ' rfl
  rw [lyr54 μ f t (by omega)]
  rw [show pR (ly54 μ f t) 57 0 (va_cpy (μ.1 57 0) (μ.1 57 0) (1000 * f) (1000 * t) 1000) = ly57 μ f t from rfl]
  have e5 : ∀ κ, κ = 55 ∨ κ = 56 → (ly57 μ f t).1 κ 0 = μ.1 κ 0 := by
    rintro κ (rfl | rfl)
    · rw [ly57, pR_row2 _ _ _ _ (by decide), lyr54 μ f t (by omega)]
    · rw [ly57, pR_row2 _ _ _ _ (by decide), lyr54 μ f t (by omega)]
  have := ry_195 (ν := ly57 μ f t) hX hr hf ht hne ⟨rfl, by rw [layM, e5 55 (Or.inl rfl), e5 56 (Or.inr rfl)]⟩ 8 0 rfl
  rw [shF_0, shF_0, pR_self, pR_self] at this
  exact this
def mkM (μ : zM) (m : Nat) : zM := pR (layM (pI (thr μ 0) 74 0 m 1) 0 (2 + m)) 73 0 (va_cpy (μ.1 70 0) (μ.1 73 0) 0 (64 * m) 64)
def bkM (μ : zM) (m : Nat) : zM := pI (pR (layM (pI (thr μ 0) 74 0 m 1) (2 + m) 0) 70 0 (va_cpy (μ.1 73 0) (μ.1 70 0) (64 * m) 0 64)) 11 0 50 0
theorem layM_far (μ : zM) (f t : Nat) {κ : Nat} (h : κ < 36 ∨ 57 < κ) : (layM μ f t).1 κ 0 = μ.1 κ 0 := by
  rw [layM, pR_row2 _ _ _ _ (by omega), pR_row2 _ _ _ _ (by omega), lyr57 μ f t (by omega)]
theorem a2 (l : Nat) : (2 : Int32) + nI l = nI (2 + l) := nI_add 2 l
def mkOk (x1 x2 : Int32) (laid : Nat → Int32) : Bool := wthn x1 0 3 && (decide (x2 = 0) || decide (¬ laid (ix x1) = 0))
set_option maxHeartbeats 1000000 in
theorem rm_29 {X : zX} {lv : Nat} {Post : Option Value → zM → Prop} (hX : zOk X cX11_mark RX11 3 lv) (hr : zRt X (some .boolean) Post) (hlv : 1 < lv) {μ : zM} {m : Nat} {x2 : Int32} (hm : m < 4)
    (K1 : x2 = 0 → Post (some (.int 1)) (mkM μ m)) (K2 : ¬ x2 = 0 → Post (some (.int 1)) (bkM μ m)) : AW X 29 [some (.ref (X.G.ad 11 0)), some (.int (nI m)), some (.int x2)] [] (thr μ 0) := by
  have em : ix (nI m) = m := ixn (by omega)
  have e1 : vp_nar .boolean (1 : Int32) = 1 := by decide
  refine st_X11_mark_29 hX hr ?_
  simp only [forall_eq, em, e1, a2, m64]
  refine ⟨vin (by omega) (by omega), fun c => ?_, fun c => ?_⟩
  · refine ⟨1, _, hlv, cr_lays (f := 0) (t := 2 + m) (by omega) (by omega) (by omega), ?_⟩
    rintro μ' rfl
    refine ⟨0, _, by omega, cr_copies (a := 0) (b := 64 * m) sh_70 (by decide) sh_73 (by decide) (by decide) (by omega) (by omega) (by omega) (by omega), ?_⟩
    rintro μ' rfl
    rw [layM_far _ _ _ (by omega), layM_far _ _ _ (by omega), pI_row2 _ _ _ _ _ (by decide), pI_row2 _ _ _ _ _ (by decide), pI_row2 _ _ _ _ _ (by decide), pI_row2 _ _ _ _ _ (by decide)]
    exact K1 c
  · refine ⟨1, _, hlv, cr_lays (f := 2 + m) (t := 0) (by omega) (by omega) (by omega), ?_⟩
    rintro μ' rfl
    refine ⟨0, _, by omega, cr_copies (a := 64 * m) (b := 0) sh_73 (by decide) sh_70 (by decide) (by decide) (by omega) (by omega) (by omega) (by omega), ?_⟩
    rintro μ' rfl
    rw [layM_far _ _ _ (by omega), layM_far _ _ _ (by omega), pI_row2 _ _ _ _ _ (by decide), pI_row2 _ _ _ _ _ (by decide), pI_row2 _ _ _ _ _ (by decide), pI_row2 _ _ _ _ _ (by decide)]
    exact K2 c
set_option maxHeartbeats 1000000 in
theorem cr_mark {lc : Launch} {G : zG} {μ : zM} {x1 x2 : Int32} :
    zCT lc G 2 yX11_mark cX11_mark 3 (some .boolean) [.ref (G.ad 11 0), .int x1, .int x2] μ (zI fun r μ' => (mkOk x1 x2 (μ.1 74 0) = false ∧ r = 0 ∧ μ' = thr μ 0) ∨ (mkOk x1 x2 (μ.1 74 0) = true ∧ r = 1 ∧ ix x1 < 4 ∧ μ' = if x2 = 0 then mkM μ (ix x1) else bkM μ (ix x1))) := by
  refine zCT_of (by decide) (Nat.le_of_ble_eq_true rfl) rfl (fun X hl0 hG hX hr => ?_)
  subst hG
  refine st_X11_mark_0 hX hr ?_
  simp only [forall_eq]
  refine ⟨0, _, by omega, cr_within, ?_⟩
  rintro r μ' ⟨rfl, rfl⟩
  refine ⟨fun c => ⟨_, rfl, Or.inl ⟨?_, rfl, rfl⟩⟩, fun c => ?_⟩
  · rw [mkOk, b2i0.mp c]; rfl
  · have hw := b2i1.mp c
    obtain ⟨m, rfl, -, m3⟩ := wthn_nI (a := 0) (b := 3) hw (by omega) (by omega)
    have em : ix (nI m) = m := ixn (by omega)
    rw [em, pI_other _ _ _ _ _ _ (by decide)]
    have go : mkOk (nI m) x2 (μ.1 74 0) = true → AW X 29 [some (.ref (X.G.ad 11 0)), some (.int (nI m)), some (.int x2)] [] (thr μ 0) := fun hok => rm_29 hX hr (by omega) (by omega) (fun c2 => ⟨_, rfl, Or.inr ⟨hok, rfl, by omega, by rw [if_pos c2, em]⟩⟩) (fun c2 => ⟨_, rfl, Or.inr ⟨hok, rfl, by omega, by rw [if_neg c2, em]⟩⟩)
    refine ⟨fun c2 => go ?_, fun c2 => ⟨vin (by omega) (by omega), fun c3 => go ?_, fun c3 => ⟨_, rfl, Or.inl ⟨?_, rfl, rfl⟩⟩⟩⟩
    · rw [mkOk, hw, decide_eq_true c2]; rfl
    · rw [mkOk, hw, em, decide_eq_true c3, Bool.or_true]; rfl
    · rw [mkOk, hw, em, decide_eq_false c2, decide_eq_false (p := ¬ μ.1 74 0 m = 0) (fun h => h c3)]; rfl
