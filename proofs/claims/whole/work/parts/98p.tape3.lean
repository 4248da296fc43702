/-! THE TAPE is read -/
theorem sntP_gr {T : Nat → Int32} {n b : Nat} {cu : zB} {hn pn : Nat → Int64} {bl : Nat → List Int32} {q : zB × (Nat → Int64) × (Nat → Int64) × (Nat → List Int32) × Nat} (h : sntP T n cu hn pn bl b = .ok q) (hb : b ≤ n) (hc : cnt cu) (ht : tyS T n b ≠ 0) : b < q.2.2.2.2 := by
  unfold sntP at h
  split at h
  · obtain ⟨a, e, h⟩ := bnd_ok h
    cases h; exact (hill_gr e hb hc ht).1
  split at h
  · obtain ⟨a, e, h⟩ := bnd_ok h
    cases h; exact (purse_gr e hb hc ht).1
  split at h
  · obtain ⟨a, e, h⟩ := bnd_ok h
    cases h; exact (loan_gr e hb hc ht).1
  split at h
  · obtain ⟨a, e, h⟩ := bnd_ok h
    cases h; exact (bet_gr e hb hc ht).1
  · cases h
theorem tkN_mono (T : Nat → Int32) (n i : Nat) : ∀ k, tkN T n i ≤ tkN T n (i + k)
  | 0 => Nat.le_refl _
  | k + 1 => Nat.le_trans (tkN_mono T n i k) (nbS_ge (tkN_le T n _))
section TP3
variable {l : Launch} {G : zG} {cu : zB} {hn pn : Nat → Int64} {μ : zM} {n : Nat}
set_option maxHeartbeats 1000000 in
theorem cs_tape (hE : zHas G) (hn1 : n ≤ 1000) (en : μ.1 5 0 0 = nI n) (hc : ∀ j, j < n → ∃ c, c < 128 ∧ μ.1 27 0 j = nI c) (c0 : cu 0 0 = 0 ∧ cu 0 1 = 0 ∧ cu 0 2 = 0 ∧ cu 0 3 = 0) :
    zCT l G 34 yX6_readTape cX6_readTape 2 (some .int) [.ref (G.ad 6 0)] μ (zI fun r μ' => fm toK μ μ' ∧ match telP (μ.1 27 0) n (n - tBg (μ.1 27 0) n 0 + 1) cu hn pn (fun _ => []) (tBg (μ.1 27 0) n 0) with
      | .ok q => r = 0 ∧ tR q.1 q.2.1 q.2.2.1 q.2.2.2 μ'
      | .error e => r = e ∧ ¬ e = 0) := by
  refine zCT_of (by decide) (Nat.le_of_ble_eq_true rfl) rfl (fun X hl0 hG hX hr => ?_)
  subst hG
  obtain ⟨RES, eRES⟩ : ∃ x, x = telP (μ.1 27 0) n (n - tBg (μ.1 27 0) n 0 + 1) cu hn pn (fun _ => []) (tBg (μ.1 27 0) n 0) := ⟨_, rfl⟩
  rw [← eRES] at hr
  have go : ∀ (m F : Nat) (cu : zB) (hn pn : Nat → Int64) (bl : Nat → List Int32) (ν : zM) (b i j : Nat), TkI ν (μ.1 27 0) n m → fm toK μ ν → tR cu hn pn bl ν → At (μ.1 27 0) n m b (0, i) → j ≤ i → n - b + 1 ≤ F → telP (μ.1 27 0) n F cu hn pn bl b = RES →
      AW X 21 [some (.ref (X.G.ad 6 0)), some (.int (nI j))] [] (rM ν (0, i)) := by
    intro m F
    induction F with
    | zero => intro cu hn pn bl ν b i j _ _ _ _ _ hF _; omega
    | succ F ih =>
      intro cu hn pn bl ν b i j h f hR a hj hF e
      have hm := h.2.1
      have hi := a.2.1
      have hi : i ≤ m := hi
      rw [telP_s] at e
      refine st_X6_readTape_21 hX hr ⟨fun c => absurd c (nI_nlt (a := 1000) (b := j) (by omega) (by omega)), fun _ => ?_⟩
      rw [rM_f]
      refine ⟨fun c => absurd rfl c, fun _ => ⟨0, _, by omega, cn_end h a.2.1, ?_⟩⟩
      intro r ν1 hq; rw [hq.1, hq.2]; clear hq
      refine ⟨fun c => ?_, fun c => ⟨33, _, by omega, cs_sent hE h a hR, ?_⟩⟩
      · have c := of_decide_eq_true (b2i1.mp c)
        have eb : b = n := a.2.2.symm.trans c
        rw [if_pos (by rw [eb]; exact ty_n _ _)] at e
        rw [rM_f]
        rw [← e]
        refine ⟨_, rfl, fm_rM f _, rfl, ?_⟩
        obtain ⟨t1, t2, t3, t4, t5⟩ := hR
        refine ⟨t1, ?_, t3, t4, fun k hk => ?_⟩
        · unfold cR
          simp only [rM_o ν (0, i) (show (2 : Nat) ≠ 5 by decide) (by decide), rM_o ν (0, i) (show (19 : Nat) ≠ 5 by decide) (by decide), rM_o ν (0, i) (show (20 : Nat) ≠ 5 by decide) (by decide), rM_o ν (0, i) (show (21 : Nat) ≠ 5 by decide) (by decide), rM_o ν (0, i) (show (7 : Nat) ≠ 5 by decide) (by decide), rM_o ν (0, i) (show (23 : Nat) ≠ 5 by decide) (by decide), rM_o ν (0, i) (show (24 : Nat) ≠ 5 by decide) (by decide)]
          exact t2
        · show WinOk _ ((rM ν (0, i)).1 25 1 k)
          rw [rM_o ν (0, i) (by decide) (by decide)]
          exact t5 k hk
      · have c := of_decide_eq_false (b2i0.mp c)
        have ebn : ¬ b = n := fun z => c (a.2.2.trans z)
        have hb := at_le a
        have ht : tyS (μ.1 27 0) n b ≠ 0 := fun z => ebn ((ty0 hb).mp z)
        rw [if_neg ht] at e
        intro μ' hq
        obtain ⟨ν', s', hμ, h', f', hres⟩ := hq
        rw [hμ]
        simp only [forall_eq, nI_1]
        cases er : sntP (μ.1 27 0) n cu hn pn bl b with
        | error x =>
          rw [er] at hres e
          have hres : Dd x s' := hres
          have e : Except.error x = RES := e
          refine st_X6_readTape_21 hX hr ⟨fun c => absurd c (nI_nlt (a := 1000) (b := j + 1) (by
            have : i < m := by
              refine Nat.lt_of_le_of_ne hi (fun z => ebn ?_)
              have := a.2.2
              dsimp only at this
              rw [z, h.2.2.1] at this
              exact this.symm
            omega) (by omega)), fun _ => ?_⟩
          rw [rM_f, hres.1]
          refine ⟨fun _ => ⟨_, rfl, ?_⟩, fun z => absurd z hres.2⟩
          rw [← e]
          exact ⟨fm_rM (f.trans f') _, rfl, hres.2⟩
        | ok q =>
          have gr := sntP_gr er hb hR.1 ht
          rw [er] at hres e
          obtain ⟨a', hR'⟩ := hres
          have e : telP (μ.1 27 0) n F q.1 q.2.1 q.2.2.1 q.2.2.2.1 q.2.2.2.2 = RES := e
          have s0 : s' = (0, s'.2) := Prod.ext a'.1 rfl
          rw [s0] at a' ⊢
          have hlt : i < s'.2 := by
            refine Nat.lt_of_not_le (fun z => ?_)
            have := tkN_mono (μ.1 27 0) n s'.2 (i - s'.2)
            rw [show s'.2 + (i - s'.2) = i by omega] at this
            have e1 := a.2.2
            have e2 := a'.2.2
            dsimp only at e1 e2
            omega
          have hbq := at_le a'
          exact ih q.1 q.2.1 q.2.2.1 q.2.2.2.1 ν' q.2.2.2.2 s'.2 (j + 1) h' (f.trans f') hR' a' (by omega) (by omega) e
  refine st_X6_readTape_0 hX hr ?_
  simp only [forall_eq]
  refine ⟨0, _, by omega, cu_clear (by omega), ?_⟩
  intro ν hq; rw [hq]; clear hq
  obtain ⟨ρ, eρ⟩ : ∃ x, x = pI (pI (pI (pI (pI μ 6 0 2 0) 2 1 0 0) 2 1 1 0) 2 1 2 0) 2 1 3 0 := ⟨_, rfl⟩
  rw [← eρ]
  have ρ27 : ρ.1 27 0 = μ.1 27 0 := by rw [eρ, pI_row2 _ _ _ _ _ (by decide), pI_row2 _ _ _ _ _ (by decide), pI_row2 _ _ _ _ _ (by decide), pI_row2 _ _ _ _ _ (by decide), pI_row2 _ _ _ _ _ (by decide)]
  have ρ5 : ρ.1 5 0 = μ.1 5 0 := by rw [eρ, pI_row2 _ _ _ _ _ (by decide), pI_row2 _ _ _ _ _ (by decide), pI_row2 _ _ _ _ _ (by decide), pI_row2 _ _ _ _ _ (by decide), pI_row2 _ _ _ _ _ (by decide)]
  have fρ : fm toK μ ρ := by rw [eρ]; exact fm_I (fm_I (fm_I (fm_I (fm_I (fm.rf μ) rfl _ _) rfl _ _) rfl _ _) rfl _ _) rfl _ _
  refine ⟨7, _, by omega, ct_split hE hn1 (by rw [ρ5]; exact en) (by rw [ρ27]; exact hc), ?_⟩
  rintro ν ⟨m, hT, fν, e50, e51⟩
  rw [ρ27] at hT
  have f6 := (fν 6 0 rfl).1
  have f2 := (fν 2 1 rfl).1
  have fT : fm toK μ ν := fρ.trans (fν.mono (fun κ o q => by
    simp only [toK, tpK, Bool.or_eq_false_iff, decide_eq_false_iff_not] at q ⊢
    omega))
  have self : rM ν (0, 0) = ν := rM_self (by rw [f6, eρ]; simp [pI]) e51
  have cnt0 : cnt cu := ⟨by rw [c0.1]; exact zdi (by decide), by rw [c0.2.1]; exact zdi (by decide), by rw [c0.2.2.1]; exact zdi (by decide), by rw [c0.2.2.2]; exact zdi (by decide)⟩
  have z0 : ix (0 : Int32) = 0 := by decide
  have nz : nHi cu = 0 ∧ nPe cu = 0 ∧ nLo cu = 0 ∧ nBe cu = 0 := ⟨by show ix (cu 0 0) = 0; rw [c0.1, z0], by show ix (cu 0 1) = 0; rw [c0.2.1, z0], by show ix (cu 0 2) = 0; rw [c0.2.2.1, z0], by show ix (cu 0 3) = 0; rw [c0.2.2.2, z0]⟩
  have R0 : tR cu hn pn (fun _ => []) ν := by
    refine ⟨cnt0, ⟨⟨?_, ?_, ?_, ?_⟩, fun k hk => ?_, fun k hk => ?_, fun k hk => ?_, fun k hk => ?_⟩, fun k hk => ?_, fun k hk => ?_, fun k hk => ?_⟩
    · rw [f2, c0.1, eρ]; simp [pI]
    · rw [f2, c0.2.1, eρ]; simp [pI]
    · rw [f2, c0.2.2.1, eρ]; simp [pI]
    · rw [f2, c0.2.2.2, eρ]; simp [pI]
    all_goals omega
  have := go m (n - tBg (μ.1 27 0) n 0 + 1) cu hn pn (fun _ => []) ν (tBg (μ.1 27 0) n 0) 0 0 hT fT R0 ⟨rfl, Nat.zero_le _, rfl⟩ (Nat.le_refl _) (Nat.le_refl _) eRES.symm
  rw [self] at this
  exact this
end TP3
