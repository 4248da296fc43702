/-- the book of a new custom: nothing, then the purses, then what is lent -/
def cuS1 (r : Nat → Int32) (i : Nat) : Nat → Int32 := fun k => if k < i then 0 else r k
def cuS2 (r P : Nat → Int32) (i : Nat) : Nat → Int32 := fun k => if k < i then P k else cuS1 r 64 k
def cuS3 (r P C : Nat → Int32) (np i : Nat) : Nat → Int32 := fun k => if 6 ≤ k ∧ k < 6 + i then C (k - 6) else cuS2 r P np k
theorem cuS1_s (r : Nat → Int32) (i : Nat) : upd (cuS1 r i) i 0 = cuS1 r (i + 1) := by
  funext k
  simp only [upd_eq, cuS1]
  by_cases h : k = i
  · rw [if_pos h, if_pos (by omega)]
  · rw [if_neg h]
    by_cases h2 : k < i
    · rw [if_pos h2, if_pos (by omega)]
    · rw [if_neg h2, if_neg (by omega)]
theorem cuS2_s (r P : Nat → Int32) (i : Nat) : upd (cuS2 r P i) i (P i) = cuS2 r P (i + 1) := by
  funext k
  simp only [upd_eq, cuS2]
  by_cases h : k = i
  · rw [if_pos h, if_pos (by omega), h]
  · rw [if_neg h]
    by_cases h2 : k < i
    · rw [if_pos h2, if_pos (by omega)]
    · rw [if_neg h2, if_neg (by omega)]
theorem cuS3_s (r P C : Nat → Int32) (np i : Nat) : upd (cuS3 r P C np i) (6 + i) (C i) = cuS3 r P C np (i + 1) := by
  funext k
  simp only [upd_eq, cuS3]
  by_cases h : k = 6 + i
  · rw [if_pos h, if_pos (by omega), h, show 6 + i - 6 = i by omega]
  · rw [if_neg h]
    by_cases h2 : 6 ≤ k ∧ k < 6 + i
    · rw [if_pos h2, if_pos (by omega)]
    · rw [if_neg h2, if_neg (by omega)]
theorem cuS2_0 (r P : Nat → Int32) : cuS2 r P 0 = cuS1 r 64 := by
  funext k; exact if_neg (by omega)
theorem cuS3_0 (r P C : Nat → Int32) (np : Nat) : cuS3 r P C np 0 = cuS2 r P np := by
  funext k; exact if_neg (by omega)
theorem cuS1_0 (r : Nat → Int32) : cuS1 r 0 = r := by
  funext k; exact if_neg (by omega)
def cusM (ν : zM) : zM := pR (pI (layM ν 1 0) 11 0 50 0) 70 0 (cuS3 (ν.1 70 0) ((layM ν 1 0).1 44 0) ((layM ν 1 0).1 47 0) (ix ((layM ν 1 0).1 37 0 0)) (ix ((layM ν 1 0).1 38 0 0)))
def cusQ (μ : zM) (n : Nat) (r : Int32) (μ' : zM) : Prop := match telA μ n with
  | .error f => r = f ∧ frm prA prQ μ μ' ∧ μ'.1 11 0 1 = 0
  | .ok s => r = 0 ∧ ∃ ν b', frm prA prQ μ ν ∧ ν.1 11 0 1 = 0 ∧ TI ν (μ.1 35 0) n b' s.1 s.2.1 s.2.2.1 s.2.2.2 ∧ μ' = cusM ν
theorem lay_37 (ν : zM) : (layM ν 1 0).1 37 0 0 = ν.1 37 0 1 := by
  simp only [layM, ly57, ly54, ly53, ly52, ly51, ly50, ly49, ly48, ly47, ly46, ly45, ly44, ly43, ly42, ly39, ly38, ly37]
  simp [pR, va_cpy]
theorem lay_38 (ν : zM) : (layM ν 1 0).1 38 0 0 = ν.1 38 0 1 := by
  simp only [layM, ly57, ly54, ly53, ly52, ly51, ly50, ly49, ly48, ly47, ly46, ly45, ly44, ly43, ly42, ly39, ly38]
  simp [pR, va_cpy]
set_option maxHeartbeats 2000000 in
theorem cr_custom {lc : Launch} {G : zG} {μ : zM} {n : Nat} (hn : n ≤ 1000) (en : μ.1 11 0 1 = nI n) :
    zCT lc G 5 yX11_custom cX11_custom 2 (some .int) [.ref (G.ad 11 0)] μ (zI fun r μ' => cusQ (thr μ 0) n r μ') := by
  refine zCT_of (by decide) (Nat.le_of_ble_eq_true rfl) rfl (fun X hl0 hG hX hr => ?_)
  subst hG
  refine st_X11_custom_0 hX hr ?_
  simp only [forall_eq]
  rw [show pI μ 11 0 0 0 = thr μ 0 from rfl]
  have en' : (thr μ 0).1 11 0 1 = nI n := by rw [thr, pI_place _ _ _ _ (by decide), en]
  generalize thr μ 0 = μ at en' hr ⊢
  refine ⟨4, _, by omega, cr_readsAll hn en', ?_⟩
  rintro r ν ⟨⟨fν, eν⟩, q⟩
  unfold cusQ at hr
  cases e : telA μ n with
  | error f =>
    rw [e] at q hr
    refine ⟨fun z => absurd q.1 z, fun _ => ⟨_, rfl, by show cusQ μ n _ _; unfold cusQ; rw [e]; exact ⟨q.2, fν, eν⟩⟩⟩
  | ok s =>
    rw [e] at q hr
    obtain ⟨rfl, b', hT⟩ := q
    refine ⟨fun _ => ?_, fun z => absurd z (by decide)⟩
    refine ⟨1, _, by omega, cr_lays (f := 1) (t := 0) (by omega) (by omega) (by omega), ?_⟩
    rintro _ rfl
    have hcn : vp_in (ν.1 37 0 1) 7 ∧ vp_in (ν.1 38 0 1) 11 := by
      obtain ⟨c, cd, ln, ⟨_, _, hP, -⟩, -, -, hc, -⟩ := hT
      have e := hP.1.2.1
      rw [← e] at hc
      exact ⟨hc.2.1, hc.2.2.1⟩
    have l37 := lay_37 ν
    have l38 := lay_38 ν
    have e70 : (layM ν 1 0).1 70 0 = ν.1 70 0 := layM_far ν 1 0 (by omega)
    have fin : ∀ k i, i + k = ix (ν.1 38 0 1) → AW X 81 [some (.ref (X.G.ad 11 0)), some (.int (nI i))] [] (pR (pI (layM ν 1 0) 11 0 50 0) 70 0 (cuS3 (ν.1 70 0) ((layM ν 1 0).1 44 0) ((layM ν 1 0).1 47 0) (ix (ν.1 37 0 1)) i)) := by
      have y := zix hcn.2
      intro k
      induction k with
      | zero =>
        intro i hi
        have e38 : ∀ g : Nat → Int32, (pR (pI (layM ν 1 0) 11 0 50 0) 70 0 g).1 38 0 0 = ν.1 38 0 1 := fun g => by rw [pR_row2 _ _ _ _ (by decide), pI_other _ _ _ _ _ _ (by decide), l38]
        refine st_X11_custom_81 hX hr ⟨fun _ => ⟨_, rfl, rfl, ν, b', fν, eν, hT, ?_⟩, fun z => absurd ?_ z⟩
        · rw [cusM, l37, l38, show ix (ν.1 38 0 1) = i by omega]
        · rw [e38]; exact (vle hcn.2 (by omega) (by omega)).mpr (by omega)
      | succ k ih =>
        intro i hi
        have e38 : ∀ g : Nat → Int32, (pR (pI (layM ν 1 0) 11 0 50 0) 70 0 g).1 38 0 0 = ν.1 38 0 1 := fun g => by rw [pR_row2 _ _ _ _ (by decide), pI_other _ _ _ _ _ _ (by decide), l38]
        have e47 : ∀ g : Nat → Int32, (pR (pI (layM ν 1 0) 11 0 50 0) 70 0 g).1 47 0 i = (layM ν 1 0).1 47 0 i := fun g => by rw [pR_row2 _ _ _ _ (by decide), pI_other _ _ _ _ _ _ (by decide)]
        refine st_X11_custom_81 hX hr ⟨fun z => ?_, fun _ => ?_⟩
        · rw [e38] at z
          exact absurd ((vle hcn.2 (by omega) (by omega)).mp z) (by omega)
        · simp only [forall_eq, a6, nI_1, ixn (show i < 2 ^ 31 by omega), ixn (show 6 + i < 2 ^ 31 by omega), e47, pI_pR, cuS3_s]
          exact ⟨vin (by omega) (by omega), vin (by omega) (by omega), ih (i + 1) (by omega)⟩
    have mid : ∀ k i, i + k = ix (ν.1 37 0 1) → AW X 51 [some (.ref (X.G.ad 11 0)), some (.int (nI i))] [] (pR (pI (layM ν 1 0) 11 0 50 0) 70 0 (cuS2 (ν.1 70 0) ((layM ν 1 0).1 44 0) i)) := by
      have y := zix hcn.1
      have e37 : ∀ g : Nat → Int32, (pR (pI (layM ν 1 0) 11 0 50 0) 70 0 g).1 37 0 0 = ν.1 37 0 1 := fun g => by rw [pR_row2 _ _ _ _ (by decide), pI_other _ _ _ _ _ _ (by decide), l37]
      intro k
      induction k with
      | zero =>
        intro i hi
        refine st_X11_custom_51 hX hr ⟨fun _ => ?_, fun z => absurd ?_ z⟩
        · have := fin (ix (ν.1 38 0 1)) 0 (by omega)
          rw [cuS3_0, show ix (ν.1 37 0 1) = i by omega] at this
          exact this
        · rw [e37]; exact (vle hcn.1 (by omega) (by omega)).mpr (by omega)
      | succ k ih =>
        intro i hi
        have e44 : ∀ g : Nat → Int32, (pR (pI (layM ν 1 0) 11 0 50 0) 70 0 g).1 44 0 i = (layM ν 1 0).1 44 0 i := fun g => by rw [pR_row2 _ _ _ _ (by decide), pI_other _ _ _ _ _ _ (by decide)]
        refine st_X11_custom_51 hX hr ⟨fun z => ?_, fun _ => ?_⟩
        · rw [e37] at z
          exact absurd ((vle hcn.1 (by omega) (by omega)).mp z) (by omega)
        · simp only [forall_eq, nI_1, ixn (show i < 2 ^ 31 by omega), e44, pI_pR, cuS2_s]
          exact ⟨vin (by omega) (by omega), vin (by omega) (by omega), ih (i + 1) (by omega)⟩
    have beg : ∀ k i, i + k = 64 → AW X 30 [some (.ref (X.G.ad 11 0)), some (.int (nI i))] [] (pR (pI (layM ν 1 0) 11 0 50 0) 70 0 (cuS1 (ν.1 70 0) i)) := by
      intro k
      induction k with
      | zero =>
        intro i hi
        have ei : i = 64 := by omega
        subst ei
        refine st_X11_custom_30 hX hr ⟨fun _ => ?_, fun z => absurd (nI_le (a := 64) (b := 64) (by omega) (by omega)) z⟩
        have := mid (ix (ν.1 37 0 1)) 0 (by omega)
        rw [cuS2_0] at this
        exact this
      | succ k ih =>
        intro i hi
        refine st_X11_custom_30 hX hr ⟨fun z => absurd ((nI_leI (a := 64) (b := i) (by omega) (by omega)).mp z) (by omega), fun _ => ?_⟩
        simp only [forall_eq, nI_1, ixn (show i < 2 ^ 31 by omega), pI_pR, cuS1_s]
        exact ⟨vin (by omega) (by omega), ih (i + 1) (by omega)⟩
    have := beg 64 0 (by omega)
    rw [cuS1_0, ← e70, show (layM ν 1 0).1 70 0 = (pI (layM ν 1 0) 11 0 50 0).1 70 0 from (pI_row2 _ _ _ _ _ (by decide)).symm, pR_self] at this
    exact this
