/-! WHAT IS TOLD, in its bounds -/
def tZl (cu : zB) (l : Nat) : Prop := vp_in (cu 4 l) (nPe cu) ∧ vp_in (cu 5 l) (nPe cu) ∧ cu 4 l ≠ cu 5 l ∧ vp_in (cu 6 l) 1000 ∧ vp_in (cu 7 l) 100 ∧ wthn (cu 8 l) 1 9 = true ∧ vp_in (cu 9 l) (nHi cu) ∧ (cu 11 l = -1 ∨ vp_in (cu 11 l) (nPe cu))
def tZ (cu : zB) : Prop := cnt cu ∧ (∀ h, h < nHi cu → vp_in (cu 1 h) 9 ∧ vp_in (cu 2 h) 9) ∧ (∀ p, p < nPe cu → vp_in (cu 3 p) 10000) ∧ ∀ l, l < nLo cu → tZl cu l
section TZ
variable {T : Nat → Int32} {n b : Nat} {cu : zB} {hn pn : Nat → Int64}
theorem numP_in {lo hi : Nat} {q : Int32 × Nat} (h : numP T n (nI lo) (nI hi) b = .ok q) (h1 : lo < 2 ^ 31) (h2 : hi < 2 ^ 30) : wthn q.1 (nI lo) (nI hi) = true ∧ vp_in q.1 (hi + 1) := by
  unfold numP at h
  split at h
  · split at h
    · rename_i c
      cases h
      refine ⟨c, ?_⟩
      obtain ⟨k, e, -, g⟩ := wthn_nI c h1 (by omega)
      show vp_in (nmS T n b) (hi + 1)
      rw [e]; exact vin (by omega) (by omega)
    · cases h
  · cases h
theorem fdN_in {f : Nat → Int64} {w : Int64} {k : Nat} (hk : k < 1000) (h : 0 ≤ fdN f w k 0) : vp_in (fdN f w k 0) k := by
  rcases fdN_rng (f := f) (w := w) k 0 (by omega) with q | ⟨j, -, h2, h3, -⟩
  · rw [q] at h; exact absurd h (by decide)
  · rw [h3]; exact vin (by omega) (by omega)
theorem perP_in {k : Nat} {x1 x2 : Int32} {q : Int32 × Nat} (hk : k < 1000) (h : perP T n pn k x1 x2 b = .ok q) : vp_in q.1 k ∧ q.1 ≠ x1 ∧ q.1 ≠ x2 := by
  unfold perP at h
  split at h
  · cases h
  · split at h
    · rename_i c
      split at h
      · cases h
      · rename_i c2
        cases h
        exact ⟨fdN_in hk c, fun z => c2 (Or.inl z), fun z => c2 (Or.inr z)⟩
    · cases h
theorem hilP_in {k : Nat} {q : Int32 × Nat} (hk : k < 1000) (h : hilP T n hn k b = .ok q) : vp_in q.1 k := by
  unfold hilP at h
  split at h
  · cases h
  · split at h
    · rename_i c
      cases h
      exact fdN_in hk c
    · cases h
theorem baiP_in {k : Nat} {x1 x2 : Int32} {q : Int32 × Nat} (hk : k < 1000) (h : baiP T n pn k x1 x2 b = .ok q) : q.1 = -1 ∨ vp_in q.1 k := by
  unfold baiP at h
  split at h
  · exact Or.inr (perP_in hk h).1
  · cases h; exact Or.inl rfl
theorem ix_s {x : Int32} {k : Nat} (h : vp_in x k) (hk : k < 1000) : ix (x + 1) = ix x + 1 := by
  have e := vof h (by omega)
  have := zix h
  conv => lhs; rw [e, nI_1]
  exact ixn (by omega)
theorem tZl_mono {cu' : zB} {l : Nat} (h : tZl cu l) (e : ∀ j, 4 ≤ j → cu' j l = cu j l) (h1 : nPe cu ≤ nPe cu') (h2 : nHi cu ≤ nHi cu') : tZl cu' l := by
  unfold tZl at *
  rw [e 4 (by omega), e 5 (by omega), e 6 (by omega), e 7 (by omega), e 8 (by omega), e 9 (by omega), e 11 (by omega)]
  obtain ⟨a, b, c, d, f, g, i, j⟩ := h
  exact ⟨vmono a h1, vmono b h1, c, d, f, g, vmono i h2, j.imp id (fun z => vmono z h1)⟩
theorem hill_tZ {q : zB × (Nat → Int64) × Nat} (h : hillP T n cu hn pn b = .ok q) (hb : b ≤ n) (ht : tyS T n b ≠ 0) (hz : tZ cu) : tZ q.1 := by
  have gr := (hill_gr h hb hz.1 ht).2.2
  unfold hillP at h
  split at h
  · cases h
  obtain ⟨w, e2, h⟩ := bnd_ok h
  obtain ⟨b3, e3, h⟩ := bnd_ok h
  obtain ⟨d, e4, h⟩ := bnd_ok h
  obtain ⟨b5, e5, h⟩ := bnd_ok h
  obtain ⟨e, e6, h⟩ := bnd_ok h
  obtain ⟨b7, e7, h⟩ := bnd_ok h
  cases h
  dsimp only at gr ⊢
  have d1 := (numP_in (lo := 0) (hi := 8) e4 (by omega) (by omega)).2
  have d2 := (numP_in (lo := 0) (hi := 8) e6 (by omega) (by omega)).2
  obtain ⟨hc, z1, z2, z3⟩ := hz
  obtain ⟨cv, ecv⟩ : ∃ x, x = bU (bU (bU cu 1 (ix (cu 0 0)) d.1) 2 (ix (cu 0 0)) e.1) 0 0 (cu 0 0 + 1) := ⟨_, rfl⟩
  rw [← ecv] at gr ⊢
  have eH : nHi cv = nHi cu + 1 := by rw [ecv]; show ix (bU _ 0 0 _ 0 0) = _; rw [bU_at]; exact ix_s hc.1 (by omega)
  have eP : nPe cv = nPe cu := by rw [ecv]; show ix (bU _ 0 0 _ 0 1) = ix (cu 0 1); simp [bU]
  have eL : nLo cv = nLo cu := by rw [ecv]; show ix (bU _ 0 0 _ 0 2) = ix (cu 0 2); simp [bU]
  have rd : ∀ j k, 3 ≤ j → cv j k = cu j k := fun j k hj => by rw [ecv, bU_ne _ _ (by omega), bU_ne _ _ (by omega), bU_ne _ _ (by omega)]
  refine ⟨gr, fun k hk => ?_, fun p hp => by rw [rd 3 p (by omega)]; exact z2 p (by omega), fun l hl => tZl_mono (z3 l (by omega)) (fun j hj => rd j l (by omega)) (by omega) (by omega)⟩
  by_cases c : k = nHi cu
  · have r1 : cv 1 k = d.1 := by rw [ecv, c, bU_ne _ _ (by omega), bU_ne _ _ (by omega)]; exact bU_at _ _ _ _
    have r2 : cv 2 k = e.1 := by rw [ecv, c, bU_ne _ _ (by omega)]; exact bU_at _ _ _ _
    rw [r1, r2]; exact ⟨d1, d2⟩
  · have r1 : cv 1 k = cu 1 k := by rw [ecv, bU_ne _ _ (by omega), bU_ne _ _ (by omega)]; exact bU_ne _ _ (fun z => c z.2)
    have r2 : cv 2 k = cu 2 k := by rw [ecv, bU_ne _ _ (by omega), bU_ne _ _ (fun z => c z.2), bU_ne _ _ (by omega)]
    rw [r1, r2]; exact z1 k (by omega)
theorem purse_tZ {q : zB × (Nat → Int64) × Nat} (h : purseP T n cu hn pn b = .ok q) (hb : b ≤ n) (ht : tyS T n b ≠ 0) (hz : tZ cu) : tZ q.1 := by
  have gr := (purse_gr h hb hz.1 ht).2.2
  unfold purseP at h
  split at h
  · cases h
  obtain ⟨w, e2, h⟩ := bnd_ok h
  obtain ⟨d, e4, h⟩ := bnd_ok h
  obtain ⟨b7, e7, h⟩ := bnd_ok h
  cases h
  dsimp only at gr ⊢
  have d1 := (numP_in (lo := 0) (hi := 9999) e4 (by omega) (by omega)).2
  obtain ⟨hc, z1, z2, z3⟩ := hz
  obtain ⟨cv, ecv⟩ : ∃ x, x = bU (bU cu 3 (ix (cu 0 1)) d.1) 0 1 (cu 0 1 + 1) := ⟨_, rfl⟩
  rw [← ecv] at gr ⊢
  have eP : nPe cv = nPe cu + 1 := by rw [ecv]; show ix (bU _ 0 1 _ 0 1) = _; rw [bU_at]; exact ix_s hc.2.1 (by omega)
  have eH : nHi cv = nHi cu := by rw [ecv]; show ix (bU _ 0 1 _ 0 0) = ix (cu 0 0); simp [bU]
  have eL : nLo cv = nLo cu := by rw [ecv]; show ix (bU _ 0 1 _ 0 2) = ix (cu 0 2); simp [bU]
  have rd : ∀ j k, 1 ≤ j → j ≠ 3 → cv j k = cu j k := fun j k hj h3 => by rw [ecv, bU_ne _ _ (by omega), bU_ne _ _ (by omega)]
  refine ⟨gr, fun k hk => by rw [rd 1 k (by omega) (by omega), rd 2 k (by omega) (by omega)]; exact z1 k (by omega), fun p hp => ?_, fun l hl => tZl_mono (z3 l (by omega)) (fun j hj => rd j l (by omega) (by omega)) (by omega) (by omega)⟩
  by_cases c : p = nPe cu
  · have r1 : cv 3 p = d.1 := by rw [ecv, c, bU_ne _ _ (by omega)]; exact bU_at _ _ _ _
    rw [r1]; exact d1
  · have r1 : cv 3 p = cu 3 p := by rw [ecv, bU_ne _ _ (by omega)]; exact bU_ne _ _ (fun z => c z.2)
    rw [r1]; exact z2 p (by omega)
set_option maxHeartbeats 1000000 in
theorem loan_tZ {q : zB × Nat} (h : loanP T n cu hn pn b = .ok q) (hb : b ≤ n) (ht : tyS T n b ≠ 0) (hz : tZ cu) : tZ q.1 := by
  have gr := (loan_gr h hb hz.1 ht).2.2
  unfold loanP at h
  split at h
  · cases h
  obtain ⟨le, e2, h⟩ := bnd_ok h
  obtain ⟨b3, e3, h⟩ := bnd_ok h
  obtain ⟨de, e4, h⟩ := bnd_ok h
  obtain ⟨b5, e5, h⟩ := bnd_ok h
  obtain ⟨co, e6, h⟩ := bnd_ok h
  obtain ⟨b7, e7, h⟩ := bnd_ok h
  obtain ⟨ra, e8, h⟩ := bnd_ok h
  obtain ⟨b9, e9, h⟩ := bnd_ok h
  obtain ⟨du, e10, h⟩ := bnd_ok h
  obtain ⟨b11, e11, h⟩ := bnd_ok h
  obtain ⟨hi, e12, h⟩ := bnd_ok h
  obtain ⟨ki, e13, h⟩ := bnd_ok h
  obtain ⟨ba, e14, h⟩ := bnd_ok h
  obtain ⟨b15, e15, h⟩ := bnd_ok h
  cases h
  dsimp only at gr ⊢
  obtain ⟨hc, z1, z2, z3⟩ := hz
  have y0 := zix hc.1
  have y1 := zix hc.2.1
  have y2 := zix hc.2.2.1
  have v4 := perP_in (by omega) e2
  have v5 := perP_in (by omega) e4
  have v6 := (numP_in (lo := 1) (hi := 999) e6 (by omega) (by omega)).2
  have v7 := (numP_in (lo := 0) (hi := 99) e8 (by omega) (by omega)).2
  have v8 := (numP_in (lo := 1) (hi := 9) e10 (by omega) (by omega)).1
  have v9 := hilP_in (by omega) e12
  have v11 := baiP_in (by omega) e14
  clear e2 e3 e4 e5 e6 e7 e8 e9 e10 e11 e12 e13 e14 e15
  obtain ⟨m, em⟩ : ∃ m, m = ix (cu 0 2) := ⟨_, rfl⟩
  rw [← em] at gr ⊢
  obtain ⟨cv, ecv⟩ : ∃ x, x = bU (bU (bU (bU (bU (bU (bU (bU (bU cu 4 m le.1) 5 m de.1) 6 m co.1) 7 m ra.1) 8 m du.1) 9 m hi.1) 10 m ki.1) 11 m ba.1) 0 2 (cu 0 2 + 1) := ⟨_, rfl⟩
  rw [← ecv] at gr ⊢
  have eL : nLo cv = nLo cu + 1 := by rw [ecv]; show ix (bU _ 0 2 _ 0 2) = _; rw [bU_at]; exact ix_s hc.2.2.1 (by omega)
  have eH : nHi cv = nHi cu := by rw [ecv]; show ix (bU _ 0 2 _ 0 0) = ix (cu 0 0); simp [bU]
  have eP : nPe cv = nPe cu := by rw [ecv]; show ix (bU _ 0 2 _ 0 1) = ix (cu 0 1); simp [bU]
  have rd : ∀ j k, 1 ≤ j → j ≤ 3 ∨ k ≠ m → cv j k = cu j k := fun j k hj h3 => by
    rw [ecv, bU_ne _ _ (by omega), bU_ne _ _ (by omega), bU_ne _ _ (by omega), bU_ne _ _ (by omega), bU_ne _ _ (by omega), bU_ne _ _ (by omega), bU_ne _ _ (by omega), bU_ne _ _ (by omega), bU_ne _ _ (by omega)]
  have eNL : nLo cu = m := em.symm
  refine ⟨gr, fun k hk => by rw [rd 1 k (by omega) (by omega), rd 2 k (by omega) (by omega)]; exact z1 k (by omega), fun p hp => by rw [rd 3 p (by omega) (by omega)]; exact z2 p (by omega), fun l hl => ?_⟩
  by_cases c : l = m
  · subst c
    have r4 : cv 4 l = le.1 := by rw [ecv]; simp [bU]
    have r5 : cv 5 l = de.1 := by rw [ecv]; simp [bU]
    have r6 : cv 6 l = co.1 := by rw [ecv]; simp [bU]
    have r7 : cv 7 l = ra.1 := by rw [ecv]; simp [bU]
    have r8 : cv 8 l = du.1 := by rw [ecv]; simp [bU]
    have r9 : cv 9 l = hi.1 := by rw [ecv]; simp [bU]
    have r11 : cv 11 l = ba.1 := by rw [ecv]; simp [bU]
    unfold tZl
    rw [r4, r5, r6, r7, r8, r9, r11, eP, eH]
    exact ⟨v4.1, v5.1, fun z => v5.2.1 z.symm, v6, v7, v8, v9, v11⟩
  · exact tZl_mono (z3 l (by omega)) (fun j hj => rd j l (by omega) (Or.inr c)) (by omega) (by omega)
theorem bet_tZ {q : zB × List Int32 × Nat} (h : betP T n cu b = .ok q) (hb : b ≤ n) (ht : tyS T n b ≠ 0) (hz : tZ cu) : tZ q.1 := by
  have gr := (bet_gr h hb hz.1 ht).2.2.1
  unfold betP at h
  split at h
  · cases h
  obtain ⟨p, e2, h⟩ := bnd_ok h
  obtain ⟨b3, e3, h⟩ := bnd_ok h
  obtain ⟨d, e4, h⟩ := bnd_ok h
  split at h
  · obtain ⟨b5, e5, h⟩ := bnd_ok h
    cases h
    dsimp only at gr ⊢
    obtain ⟨hc, z1, z2, z3⟩ := hz
    obtain ⟨cv, ecv⟩ : ∃ x, x = bU (bU (bU cu 12 (ix (cu 0 3)) p.1) 13 (ix (cu 0 3)) d.1) 0 3 (cu 0 3 + 1) := ⟨_, rfl⟩
    rw [← ecv] at gr ⊢
    have eL : nLo cv = nLo cu := by rw [ecv]; show ix (bU _ 0 3 _ 0 2) = ix (cu 0 2); simp [bU]
    have eH : nHi cv = nHi cu := by rw [ecv]; show ix (bU _ 0 3 _ 0 0) = ix (cu 0 0); simp [bU]
    have eP : nPe cv = nPe cu := by rw [ecv]; show ix (bU _ 0 3 _ 0 1) = ix (cu 0 1); simp [bU]
    have rd : ∀ j k, 1 ≤ j → j ≤ 11 → cv j k = cu j k := fun j k hj h3 => by rw [ecv, bU_ne _ _ (by omega), bU_ne _ _ (by omega), bU_ne _ _ (by omega)]
    refine ⟨gr, fun k hk => by rw [rd 1 k (by omega) (by omega), rd 2 k (by omega) (by omega)]; exact z1 k (by omega), fun p hp => by rw [rd 3 p (by omega) (by omega)]; exact z2 p (by omega), fun l hl => ?_⟩
    have := z3 l (by omega)
    unfold tZl at *
    rw [rd 4 l (by omega) (by omega), rd 5 l (by omega) (by omega), rd 6 l (by omega) (by omega), rd 7 l (by omega) (by omega), rd 8 l (by omega) (by omega), rd 9 l (by omega) (by omega), rd 11 l (by omega) (by omega), eP, eH]
    exact this
  · cases h
theorem tel_tZ : ∀ (F : Nat) (cu : zB) (hn pn : Nat → Int64) (bl : Nat → List Int32) (b : Nat) {s : zB × (Nat → Int64) × (Nat → Int64) × (Nat → List Int32)}, tZ cu → b ≤ n → telP T n F cu hn pn bl b = .ok s → tZ s.1 := by
  intro F
  induction F with
  | zero => intro cu hn pn bl b s _ _ h; cases h
  | succ F ih =>
    intro cu hn pn bl b s hz hb h
    rw [telP] at h
    split at h
    · cases h; exact hz
    · rename_i ht
      split at h
      · obtain ⟨q, e, h⟩ := bnd_ok h
        exact ih _ _ _ _ _ (hill_tZ e hb ht hz) (hill_gr e hb hz.1 ht).2.1 h
      · split at h
        · obtain ⟨q, e, h⟩ := bnd_ok h
          exact ih _ _ _ _ _ (purse_tZ e hb ht hz) (purse_gr e hb hz.1 ht).2.1 h
        · split at h
          · obtain ⟨q, e, h⟩ := bnd_ok h
            exact ih _ _ _ _ _ (loan_tZ e hb ht hz) (loan_gr e hb hz.1 ht).2.1 h
          · split at h
            · obtain ⟨q, e, h⟩ := bnd_ok h
              exact ih _ _ _ _ _ (bet_tZ e hb ht hz) (bet_gr e hb hz.1 ht).2.1 h
            · cases h
theorem tZ_cZ (h : tZ cu) : cZ cu := by
  obtain ⟨⟨c0, c1, c2, c3⟩, z1, z2, z3⟩ := h
  refine ⟨⟨c0, c1, c2, c3, fun l hl => ?_⟩, fun l hl => (z3 l hl).2.2.1, z1⟩
  obtain ⟨a, b, c, d, e, f, g, i⟩ := z3 l hl
  exact ⟨a, b, g, i, e⟩
theorem tZ_0 (c0 : cu 0 0 = 0 ∧ cu 0 1 = 0 ∧ cu 0 2 = 0 ∧ cu 0 3 = 0) : tZ cu := by
  have z0 : ix (0 : Int32) = 0 := by decide
  refine ⟨⟨by rw [c0.1]; exact zdi (by decide), by rw [c0.2.1]; exact zdi (by decide), by rw [c0.2.2.1]; exact zdi (by decide), by rw [c0.2.2.2]; exact zdi (by decide)⟩, fun k hk => ?_, fun k hk => ?_, fun k hk => ?_⟩
  · have : nHi cu = 0 := by show ix (cu 0 0) = 0; rw [c0.1, z0]
    omega
  · have : nPe cu = 0 := by show ix (cu 0 1) = 0; rw [c0.2.1, z0]
    omega
  · have : nLo cu = 0 := by show ix (cu 0 2) = 0; rw [c0.2.2.1, z0]
    omega
end TZ
