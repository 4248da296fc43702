theorem nI_prd (d : Nat) : nI (d + 1) + (-1 : Int32) = nI d := by
  rw [← nI_1, Int32.add_assoc, show (1 : Int32) + -1 = 0 by decide, Int32.add_zero]
theorem cr_worked {lc : Launch} {G : zG} {μ : zM} {E : Nat → Nat → Int32} {line a n : Nat} (hl : line < 48) (ha : μ.1 55 0 line = nI a) (hn : μ.1 56 0 line = nI (a + n)) (hb : a + n ≤ 6000)
    (hok : ∀ i, i < n → okC (μ.1 57 0 (a + i)) (wkS (μ.1 69 0) (μ.1 57 0) a (0, opE E 0) i).1) :
    zCT lc G 2 yX11_worked cX11_worked 6 (some .int) [.ref (G.ad 11 0), .int (nI line)] (eW μ E) (zI fun r μ' => r = teE (wkS (μ.1 69 0) (μ.1 57 0) a (0, opE E 0) n).2 0 60 0 ∧ μ' = eW μ (teE (wkS (μ.1 69 0) (μ.1 57 0) a (0, opE E 0) n).2 0)) := by
  refine zCT_of (by decide) (Nat.le_of_ble_eq_true rfl) rfl (fun X hl0 hG hX hr => ?_)
  subst hG
  have il : ix (nI line) = line := ixn (by omega)
  have vl : vp_in (nI line) 48 := vin hl (by omega)
  have go : ∀ k i, i + k = n → AW X 14 [some (.ref (X.G.ad 11 0)), some (.int (nI line)), some (.int (nI (wkS (μ.1 69 0) (μ.1 57 0) a (0, opE E 0) i).1)), some (.int (nI (a + i))), none, none] [] (eW μ (wkS (μ.1 69 0) (μ.1 57 0) a (0, opE E 0) i).2) := by
    intro k
    induction k with
    | zero =>
      intro i hi
      have ei : i = n := by omega
      subst ei
      refine st_X11_worked_14 hX hr ⟨vl, fun _ => ⟨1, _, by omega, cr_tests (d := 0) (by omega), ?_⟩, fun q => absurd ?_ q⟩
      · rintro _ rfl
        exact ⟨_, rfl, eW_at (by omega), rfl⟩
      · rw [il, eW_ne (by omega), hn]
        exact nI_le (by omega) (by omega)
    | succ k ih =>
      intro i hi
      have ih' := ih (i + 1) (by omega)
      have ok := hok i (by omega)
      have hlt := wkS_lt (V := μ.1 69 0) (cd := μ.1 57 0) (a := a) (p := (0, opE E 0)) (by show 0 < 7; omega) i (fun j hj => hok j (by omega))
      rw [wkS_s] at ih'
      generalize wkS (μ.1 69 0) (μ.1 57 0) a (0, opE E 0) i = p at ih' ok hlt ⊢
      obtain ⟨d, F⟩ := p
      rw [show a + (i + 1) = a + i + 1 by omega] at ih'
      have hj : a + i < 6000 := by omega
      have hjn : a + i < a + n := by omega
      generalize a + i = j at *
      generalize ec : μ.1 57 0 j = c at ih' ok
      change d < 7 at hlt
      change okC c d at ok
      have ij : ix (nI j) = j := ixn (by omega)
      have id' : ∀ e, e < 7 → ix (nI e) = e := fun e he => ixn (by omega)
      have vd : ∀ e, e < 7 → vp_in (nI e) 7 := fun e he => vin he (by omega)
      have g300 : ∀ (H : Nat → Nat → Int32) (e : Nat) (v : Int32), e < 7 → AW X 14 [some (.ref (X.G.ad 11 0)), some (.int (nI line)), some (.int (nI (tmE H (e, v)).1)), some (.int (nI (j + 1))), none, none] [] (eW μ (tmE H (e, v)).2) →
          AW X 300 [some (.ref (X.G.ad 11 0)), some (.int (nI line)), some (.int (nI e)), some (.int (nI j)), none, some (.int v)] [] (eW μ H) := by
        intro H e v he g
        refine st_X11_worked_300 hX hr ?_
        simp only [forall_eq, id' e he, nI_1]
        rw [eW_at (by omega), eW_at (by omega)]
        unfold tmE at g
        refine ⟨vd e he, fun c => ?_, fun c => ?_⟩
        · rw [if_neg c] at g
          rw [eW_p (by omega)]
          exact g
        · rw [if_pos c] at g
          rw [eW_p (by omega)]
          exact g
      have g268 : ∀ (H : Nat → Nat → Int32) (e : Nat) (v : Int32), e < 7 → AW X 14 [some (.ref (X.G.ad 11 0)), some (.int (nI line)), some (.int (nI (tmE H (ngE H e v)).1)), some (.int (nI (j + 1))), none, none] [] (eW μ (tmE H (ngE H e v)).2) →
          AW X 268 [some (.ref (X.G.ad 11 0)), some (.int (nI line)), some (.int (nI e)), some (.int (nI j)), none, some (.int v)] [] (eW μ H) := by
        intro H e
        induction e with
        | zero =>
          intro v he g
          exact st_X11_worked_268 hX hr ⟨fun _ => g300 H 0 v he g, fun q => absurd (nI_le (a := 0) (b := 0) (by omega) (by omega)) q⟩
        | succ e ihe =>
          intro v he g
          refine st_X11_worked_268 hX hr ⟨fun q => absurd ((nI_leI (a := e + 1) (b := 0) (by omega) (by omega)).mp q) (by omega), fun _ => ?_⟩
          simp only [forall_eq, id' (e + 1) he, nI_prd]
          rw [eW_at (by omega)]
          rw [ngE] at g
          refine ⟨vd _ he, fun c => ?_, fun c => ⟨fun c2 => ?_, fun c2 => ?_⟩⟩
          · rw [if_neg c] at g
            exact g300 H (e + 1) v he g
          · rw [if_pos c, if_neg c2] at g
            exact ihe 0 (by omega) g
          · rw [if_pos c, if_pos c2] at g
            exact ihe 1 (by omega) g
      refine st_X11_worked_14 hX hr ⟨vl, fun q => ?_, fun _ => ⟨vin hj (by omega), ?_⟩⟩
      · rw [il, eW_ne (by omega), hn] at q
        exact absurd ((nI_leI (by omega) (by omega)).mp q) (by omega)
      have e57 : (eW μ F).1 57 0 j = c := by rw [eW_ne (by omega), ec]
      have e69 : (eW μ F).1 69 0 (ix c) = μ.1 69 0 (ix c) := eW_ne (by omega)
      simp only [forall_eq, ij, e57, e69, nI_1]
      have g46 : (c = 28 ∨ c = 30) → AW X 46 [some (.ref (X.G.ad 11 0)), some (.int (nI line)), some (.int (nI d)), some (.int (nI j)), some (.int c), none] [] (eW μ F) := by
        intro h
        have h7 := ok.1 h
        rw [wkE, if_pos h] at ih'
        refine st_X11_worked_46 hX hr ?_
        simp only [forall_eq, nI_1, id' (d + 1) h7]
        refine ⟨fun c30 => ⟨vd _ h7, ?_⟩, fun c30 => ⟨vd _ h7, ?_⟩⟩
        · rw [if_neg c30] at ih'
          rw [eW_p (by omega)]
          refine ⟨0, _, by omega, cr_opens h7, ?_⟩
          rintro _ rfl
          exact ih'
        · rw [if_pos c30] at ih'
          rw [eW_p (by omega)]
          refine ⟨0, _, by omega, cr_opens h7, ?_⟩
          rintro _ rfl
          exact ih'
      have gSu : ¬ (c = 28 ∨ c = 30) → (c = 20 ∨ c = 21) → zCallV X 2 yX11_sums cX11_sums 2 none [.ref (X.G.ad 11 0), .int (nI d)] (eW μ F) (fun μ11 => vp_in (nI d) 7 ∧ AW X 14 [some (.ref (X.G.ad 11 0)), some (.int (nI line)), some (.int (nI d)), some (.int (nI (j + 1))), none, none] [] (pI μ11 65 0 (ix (nI d)) c)) := by
        intro h1 h2
        rw [wkE, if_neg h1, if_pos h2] at ih'
        refine ⟨0, _, by omega, cr_sums hlt, ?_⟩
        rintro _ rfl
        rw [id' d hlt, eW_p (by omega)]
        exact ⟨vd _ hlt, ih'⟩
      have g137 : ¬ (c = 28 ∨ c = 30) → ¬ (c = 20 ∨ c = 21) → ¬ c = 22 → (c = 24 ∨ c = 25) → AW X 137 [some (.ref (X.G.ad 11 0)), some (.int (nI line)), some (.int (nI d)), some (.int (nI j)), some (.int c), none] [] (eW μ F) := by
        intro h1 h2 h3 h4
        rw [wkE, if_neg h1, if_neg h2, if_neg h3, if_pos h4] at ih'
        refine st_X11_worked_137 hX hr ⟨0, _, by omega, cr_sums hlt, ?_⟩
        rintro _ rfl
        simp only [forall_eq, nI_1, id' d hlt]
        rw [eW_at (by omega), eW_p (by omega), eW_p (by omega), eW_p (by omega), eW_p (by omega)]
        exact ⟨vd _ hlt, ih'⟩
      have gTe : ¬ (c = 28 ∨ c = 30) → ¬ (c = 20 ∨ c = 21) → ¬ c = 22 → ¬ (c = 24 ∨ c = 25) → (c = 26 ∨ c = 27) → zCallV X 2 yX11_tests cX11_tests 3 none [.ref (X.G.ad 11 0), .int (nI d)] (eW μ F) (fun μ21 => vp_in (nI d) 7 ∧ AW X 14 [some (.ref (X.G.ad 11 0)), some (.int (nI line)), some (.int (nI d)), some (.int (nI (j + 1))), none, none] [] (pI μ21 61 0 (ix (nI d)) c)) := by
        intro h1 h2 h3 h4 h5
        rw [wkE, if_neg h1, if_neg h2, if_neg h3, if_neg h4, if_pos h5] at ih'
        refine ⟨1, _, by omega, cr_tests hlt, ?_⟩
        rintro _ rfl
        rw [id' d hlt, eW_p (by omega)]
        exact ⟨vd _ hlt, ih'⟩
      have gPl : ¬ (c = 28 ∨ c = 30) → ¬ (c = 20 ∨ c = 21) → ¬ c = 22 → ¬ (c = 24 ∨ c = 25) → ¬ (c = 26 ∨ c = 27) → ¬ c = 29 → ∀ v, v = atV (μ.1 69 0) c → AW X 268 [some (.ref (X.G.ad 11 0)), some (.int (nI line)), some (.int (nI d)), some (.int (nI j)), none, some (.int v)] [] (eW μ F) := by
        intro h1 h2 h3 h4 h5 h6 v hv
        rw [wkE, if_neg h1, if_neg h2, if_neg h3, if_neg h4, if_neg h5, if_neg h6, ← hv] at ih'
        exact g268 F d v hlt ih'
      refine ⟨fun c1 => g46 (Or.inl c1), fun c1 => ⟨fun c2 => ?_, fun c2 => g46 (Or.inr c2)⟩⟩
      have h1 : ¬ (c = 28 ∨ c = 30) := fun h => h.elim c1 c2
      refine ⟨fun c3 => gSu h1 (Or.inl c3), fun c3 => ⟨fun c4 => ?_, fun c4 => gSu h1 (Or.inr c4)⟩⟩
      have h2 : ¬ (c = 20 ∨ c = 21) := fun h => h.elim c3 c4
      refine ⟨fun c5 => ?_, fun c5 => ?_⟩
      · refine ⟨fun c6 => g137 h1 h2 c5 (Or.inl c6), fun c6 => ⟨fun c7 => ?_, fun c7 => g137 h1 h2 c5 (Or.inr c7)⟩⟩
        have h4 : ¬ (c = 24 ∨ c = 25) := fun h => h.elim c6 c7
        refine ⟨fun c8 => gTe h1 h2 c5 h4 (Or.inl c8), fun c8 => ⟨fun c9 => ?_, fun c9 => gTe h1 h2 c5 h4 (Or.inr c9)⟩⟩
        have h5 : ¬ (c = 26 ∨ c = 27) := fun h => h.elim c8 c9
        refine ⟨fun c10 => ⟨fun c11 => ⟨fun c12 => ?_, fun c12 => ?_⟩, fun c11 => ⟨?_, fun c12 => ?_, fun c12 => ?_⟩⟩, fun c10 => ⟨fun c12 => ?_, fun c12 => ?_⟩⟩
        · exact gPl h1 h2 c5 h4 h5 c12 0 (by rw [atV, if_pos c10, if_pos c11])
        · have h0 := ok.2.1 c12
          rw [wkE, if_neg h1, if_neg h2, if_neg c5, if_neg h4, if_neg h5, if_pos c12] at ih'
          refine ⟨1, _, by omega, cr_tests hlt, ?_⟩
          rintro _ rfl
          obtain ⟨e, rfl⟩ : ∃ e, d = e + 1 := ⟨d - 1, by omega⟩
          simp only [forall_eq, nI_prd, id' (e + 1) hlt]
          rw [eW_at (by omega)]
          exact ⟨vd _ hlt, g268 _ e _ (by omega) ih'⟩
        · exact ok.2.2 (Int32.not_le.mp c11)
        · exact gPl h1 h2 c5 h4 h5 c12 _ (by rw [atV, if_pos c10, if_neg c11])
        · exact absurd (by rw [c12]; decide) c11
        · exact gPl h1 h2 c5 h4 h5 c12 _ (by rw [atV, if_neg c10])
        · exact absurd (by rw [c12]; decide) c10
      · rw [wkE, if_neg h1, if_neg h2, if_pos c5] at ih'
        rw [id' d hlt, eW_p (by omega)]
        exact ⟨vd _ hlt, ih'⟩
  refine st_X11_worked_0 hX hr ⟨0, _, by omega, cr_opens (d := 0) (by omega), ?_⟩
  rintro _ rfl
  simp only [forall_eq, il]
  rw [eW_ne (by omega), ha]
  exact ⟨vl, go n 0 (by omega)⟩
