/-! THE REFERENCE: gcd, ahead -/
theorem lNt {n : Nat} (h : n < 2 ^ 63) : (lN n).toInt = n := lg_ofNat_toInt h
theorem lN_ne_m1 {b : Nat} (hb : b < 2 ^ 63) : lN b ≠ -1 := by
  intro h
  have := lNt hb
  rw [h] at this
  have e : (-1 : Int64).toInt = -1 := by decide
  omega
theorem lN_div {a b : Nat} (ha : a < 2 ^ 63) (hb : b < 2 ^ 63) : lN a / lN b = lN (a / b) := by
  apply Int64.toInt_inj.mp
  rw [Int64.toInt_div_of_ne_right _ _ (lN_ne_m1 hb), lNt ha, lNt hb, lNt (Nat.lt_of_le_of_lt (Nat.div_le_self a b) ha)]
  exact (Int.ofNat_tdiv a b).symm
theorem lN_rem {a b : Nat} (ha : a < 2 ^ 63) (hb : b < 2 ^ 63) : lN a - lN a / lN b * lN b = lN (a % b) := by
  rw [lN_div ha hb, lN_mul, lN_sub (Nat.div_mul_le_self a b)]
  congr 1
  have := Nat.div_add_mod a b
  rw [Nat.mul_comm] at this
  omega
theorem lN_0 {b : Nat} (hb : b < 2 ^ 63) : lN b = 0 ↔ b = 0 := by
  constructor
  · intro h
    have := lNt hb
    rw [h] at this
    have e : (0 : Int64).toInt = 0 := by decide
    omega
  · rintro rfl; rfl
theorem cr_gcd {lc : Launch} {G : zG} {μ : zM} {a b : Nat} (ha : a < 2 ^ 63) (hb : b < 2 ^ 63) :
    zCT lc G 0 yX11_gcd cX11_gcd 10 (some .long) [.long (lN a), .long (lN b)] μ (zJ fun r μ' => r = lN (Nat.gcd a b) ∧ μ' = μ) := by
  refine zCT_of (by decide) (Nat.le_of_ble_eq_true rfl) rfl (fun X hl0 hG hX hr => ?_)
  subst hG
  have loop : ∀ n x y, y ≤ n → x < 2 ^ 63 → y < 2 ^ 63 → Nat.gcd x y = Nat.gcd a b → AW X 6 [none, none, none, none, some (.long (lN x)), none, some (.long (lN y)), none, none, none] [] μ := by
    intro n
    induction n with
    | zero =>
      intro x y hy hx hy2 hg
      have : y = 0 := Nat.le_zero.mp hy
      subst this
      refine st_X11_gcd_6 hX hr ⟨fun _ => ⟨_, rfl, ?_, rfl⟩, fun q => absurd ((lg_cmp_eq _ _).mpr rfl) q⟩
      rw [← hg, Nat.gcd_zero_right]
    | succ n ih =>
      intro x y hy hx hy2 hg
      refine st_X11_gcd_6 hX hr ⟨fun c => ⟨_, rfl, ?_, rfl⟩, fun c => ⟨?_, ?_⟩⟩
      · have := (lN_0 hy2).mp ((lg_cmp_eq _ _).mp c)
        subst this
        rw [← hg, Nat.gcd_zero_right]
      · exact fun q => c ((lg_cmp_eq _ _).mpr q)
      · have hne : y ≠ 0 := fun q => c ((lg_cmp_eq _ _).mpr ((lN_0 hy2).mpr q))
        simp only [forall_eq]
        rw [lN_rem hx hy2]
        have hlt := Nat.mod_lt x (Nat.pos_of_ne_zero hne)
        refine ih y (x % y) (by omega) hy2 (by omega) ?_
        rw [← hg, Nat.gcd_comm x y, Nat.gcd_rec y x, Nat.gcd_comm]
  exact st_X11_gcd_0 hX hr (loop b a b (Nat.le_refl _) ha hb rfl)
theorem cr_lowest {lc : Launch} {G : zG} {μ : zM} {a b : Nat} {x : Int32} (ha : a < 2 ^ 63) (hb : b < 2 ^ 63) (hb0 : 0 < b) :
    zCT lc G 1 yX11_lowest cX11_lowest 5 (some .long) [.long (lN a), .long (lN b), .int x] μ (zJ fun r μ' => r = lN ((if x = 0 then a else b) / Nat.gcd a b) ∧ μ' = μ) := by
  refine zCT_of (by decide) (Nat.le_of_ble_eq_true rfl) rfl (fun X hl0 hG hX hr => ?_)
  subst hG
  have hg : Nat.gcd a b < 2 ^ 63 := Nat.lt_of_le_of_lt (Nat.gcd_le_right a hb0) hb
  have hg0 : ¬ lN (Nat.gcd a b) = 0 := fun q => by
    have := (lN_0 hg).mp q
    have := Nat.gcd_pos_of_pos_right a hb0
    omega
  refine st_X11_lowest_0 hX hr ⟨fun c => ⟨0, _, by omega, cr_gcd ha hb, ?_⟩, fun c => ⟨0, _, by omega, cr_gcd ha hb, ?_⟩⟩
  · rintro r μ' ⟨rfl, rfl⟩
    exact ⟨hg0, _, rfl, by rw [if_neg c, lN_div hb hg], rfl⟩
  · rintro r μ' ⟨rfl, rfl⟩
    exact ⟨hg0, _, rfl, by rw [if_pos c, lN_div ha hg], rfl⟩
theorem p8_lN : ∀ n, p8 n = lN (8 ^ n)
  | 0 => rfl
  | n + 1 => by rw [p8, p8_lN n, show (8 : Int64) = lN 8 from rfl, lN_mul, Nat.pow_succ]
/-- how far ahead one may look -/
def ahS (cu : zB) (x : Int32) : Bool := wthn x 1 12 && decide (cu 0 0 * x ≤ 12)
theorem wthn_nI {x : Int32} {a b : Nat} (h : wthn x (nI a) (nI b) = true) (ha : a < 2 ^ 31) (hb : b < 2 ^ 31) : ∃ n, x = nI n ∧ a ≤ n ∧ n ≤ b := by
  simp only [wthn, Bool.and_eq_true, decide_eq_true_eq] at h
  obtain ⟨h1, h2⟩ := h
  rw [Int32.lt_iff_toInt_lt, nI_toInt ha] at h1
  rw [Int32.lt_iff_toInt_lt, nI_toInt hb] at h2
  obtain ⟨n, hn, rfl⟩ := nI_of (x := x) (by rw [Int32.lt_iff_toInt_lt, Int32.toInt_zero]; omega)
  rw [nI_toInt hn] at h1 h2
  exact ⟨n, rfl, by omega, by omega⟩
theorem ahS_nI {cu : zB} (hc : cOk cu) {x : Int32} (h : ahS cu x = true) : ∃ n, x = nI n ∧ 1 ≤ n ∧ n ≤ 12 ∧ nHi cu * n ≤ 12 := by
  rw [ahS, Bool.and_eq_true, decide_eq_true_eq] at h
  obtain ⟨h1, h2⟩ := h
  obtain ⟨n, rfl, a, b⟩ := wthn_nI (a := 1) (b := 12) h1 (by omega) (by omega)
  have eh : cu 0 0 = nI (nHi cu) := vof hc.1 (by omega)
  have h4 := (cOk_n hc).2.2
  rw [eh, nI_mul] at h2
  have hb : nHi cu * n ≤ 4 * 12 := Nat.mul_le_mul h4 b
  exact ⟨n, rfl, a, b, (nI_leI (b := 12) (by omega) (by omega)).mp h2⟩
theorem cr_isAhead {lc : Launch} {G : zG} {μ : zM} {x : Int32} (hc : cOk (cuZ μ)) :
    zCT lc G 1 yX11_isAhead cX11_isAhead 2 (some .boolean) [.ref (G.ad 11 0), .int x] μ (zI fun r μ' => (ahS (cuZ μ) x = false ∧ r = 0 ∧ μ' = μ) ∨ (ahS (cuZ μ) x = true ∧ r = 1 ∧ ∃ n, x = nI n ∧ 1 ≤ n ∧ n ≤ 12 ∧ nHi (cuZ μ) * n ≤ 12 ∧ μ' = pI μ 11 0 52 (nI (2 ^ (nHi (cuZ μ) * n))))) := by
  refine zCT_of (by decide) (Nat.le_of_ble_eq_true rfl) rfl (fun X hl0 hG hX hr => ?_)
  subst hG
  refine st_X11_isAhead_0 hX hr ⟨0, _, by omega, cr_within, ?_⟩
  rintro r μ' ⟨rfl, rfl⟩
  refine ⟨fun c => ⟨_, rfl, Or.inl ⟨?_, rfl, rfl⟩⟩, fun c => ?_⟩
  · rw [ahS, b2i0.mp c]; rfl
  · simp only [forall_eq]
    refine ⟨fun c2 => ?_, fun c2 => ⟨_, rfl, Or.inl ⟨?_, rfl, rfl⟩⟩⟩
    · have ht : ahS (cuZ μ') x = true := by
        rw [ahS, b2i1.mp c, Bool.true_and]; exact decide_eq_true c2
      obtain ⟨n, rfl, a, b, d⟩ := ahS_nI hc ht
      have eh : μ'.1 36 0 0 = nI (nHi (cuZ μ')) := vof hc.1 (by omega)
      refine ⟨_, rfl, Or.inr ⟨ht, rfl, n, rfl, a, b, d, ?_⟩⟩
      rw [eh, nI_mul, sh1 d]
    · rw [ahS, Bool.and_eq_false_iff]; exact Or.inr (decide_eq_false c2)
theorem bOf_ext {s t : Nat → Int32} (h : ∀ k, k < 64 → s k = t k) : bOf s = bOf t := by
  funext j k
  unfold bOf
  split
  · rw [h 57 (by omega), h 58 (by omega), h 56 (by omega)]
  · split
    · exact h _ (by omega)
    · rfl
  · split
    · exact h _ (by omega)
    · rfl
  · split
    · exact h _ (by omega)
    · rfl
  · split
    · exact h _ (by omega)
    · rfl
  · split
    · exact h _ (by omega)
    · rfl
  · split
    · exact h _ (by omega)
    · rfl
  · rfl
theorem pR_putS (μ : zM) (s t : Nat → Int32) (m : Int32) : pR (putS μ s m) 70 0 t = putS μ t m := by
  rw [putS, pR_pI _ _ _ _ _ _ (by decide), pR_pR]; rfl
theorem cpy_in {α : Type} (f g : Nat → α) {k : Nat} (h : k < 64) : va_cpy f g 0 0 64 k = f k := by
  simp only [va_cpy]
  rw [if_pos (by omega), Nat.zero_add, Nat.sub_zero]
/-- back to what was laid aside -/
theorem rs_copy {μ1 : zM} {s s0 : Nat → Int32} {m : Int32} (ha : ∀ k, k < 64 → μ1.1 71 0 k = s0 k) :
    ∃ s2, pR (putS μ1 s m) 70 0 (va_cpy ((putS μ1 s m).1 71 0) ((putS μ1 s m).1 70 0) 0 0 64) = putS μ1 s2 m ∧ bOf s2 = bOf s0 := by
  refine ⟨va_cpy ((putS μ1 s m).1 71 0) ((putS μ1 s m).1 70 0) 0 0 64, pR_putS _ _ _ _, bOf_ext (fun k hk => ?_)⟩
  rw [cpy_in _ _ hk, pS_71, ha k hk]
/-- what stands while one looks ahead -/
def ahM (μ : zM) (W : Nat) : zM := pR (pI (thr μ 0) 11 0 52 (nI W)) 71 0 (va_cpy (μ.1 70 0) (μ.1 71 0) 0 0 64)
theorem ahM_cu (μ : zM) (W : Nat) : cuZ (ahM μ W) = cuZ μ := by rw [ahM, cuZ_pR _ (by omega), cuZ_pI11, cuZ_pI11]
theorem ahM_71 (μ : zM) (W : Nat) (k : Nat) (hk : k < 64) : (ahM μ W).1 71 0 k = μ.1 70 0 k := by rw [ahM, pR_at, cpy_in _ _ hk]
theorem ahM_70 (μ : zM) (W : Nat) : (ahM μ W).1 70 0 = μ.1 70 0 := by rw [ahM, pR_row2 _ _ _ _ (by decide), pI_row2 _ _ _ _ _ (by decide), pI_row2 _ _ _ _ _ (by decide)]
theorem ahM_52 (μ : zM) (W : Nat) : (ahM μ W).1 11 0 52 = nI W := by rw [ahM, pR_other _ _ _ _ _ (by decide), pI_at]
theorem pS_52f (μ : zM) (s : Nat → Int32) (m : Int32) : (putS μ s m).1 11 0 52 = μ.1 11 0 52 := by simp [putS, pI, pR]
