/-! MARKS -/
section MK
variable {l : Launch} {G : zG} {S : zSt} {μ ν : zM} {M : Int} {x w x1 x2 : Int32}
theorem cR_rows {cu : zB} {c : Nat} (hk : cOk cu) (hr : ∀ κ, κ = 2 ∨ κ = 19 ∨ κ = 20 ∨ κ = 21 ∨ κ = 23 ∨ κ = 24 → ν.1 κ c = μ.1 κ c) (h7 : ∀ l, l < 10 → ν.1 7 (10 * c + l) = μ.1 7 (10 * c + l)) (h : cR cu μ c) : cR cu ν c :=
  cR_ext (hr 2 (by omega)) (hr 19 (by omega)) (hr 20 (by omega)) (hr 21 (by omega)) h7 (hr 23 (by omega)) (hr 24 (by omega)) hk h
theorem cMk_rows {i : Nat} {q : Option (zB × zV3 × zB)} (hw : wMk M q) (h3 : ν.1 3 i = μ.1 3 i) (hr : ∀ κ, κ = 2 ∨ κ = 19 ∨ κ = 20 ∨ κ = 21 ∨ κ = 23 ∨ κ = 24 ∨ κ = 25 → ν.1 κ (i + 2) = μ.1 κ (i + 2)) (h7 : ∀ l, l < 10 → ν.1 7 (10 * (i + 2) + l) = μ.1 7 (10 * (i + 2) + l)) (hb : ∀ κ, bKind κ = true → ν.1 κ (i + 45) = μ.1 κ (i + 45)) (h : cMk μ i q) : cMk ν i q := by
  cases q with
  | none => show ν.1 3 i 0 = 0; rw [h3]; exact h
  | some q =>
    obtain ⟨g1, g2, g3, g4⟩ := h
    exact ⟨by rw [h3]; exact g1, cR_rows hw.1.1 (fun κ q => hr κ (by omega)) h7 g2, by rw [hr 25 (by omega)]; exact g3, by rw [getB_ext hb]; exact g4⟩
theorem cuK_no {c κ o : Nat} (h : κ ≠ 7 → o ≠ c) (h7 : κ = 7 → ¬ (10 * c ≤ o ∧ o < 10 * c + 10)) : cuK c κ o = false := by
  unfold cuK
  by_cases e : κ = 7
  · subst e
    rw [decide_eq_false (h7 rfl)]
    simp
  · rw [decide_eq_false (h e), decide_eq_false e]
    simp
theorem cuK_nk {c κ o : Nat} (h : ¬ (κ = 2 ∨ κ = 19 ∨ κ = 20 ∨ κ = 21 ∨ κ = 23 ∨ κ = 24 ∨ κ = 25)) (h7 : κ ≠ 7) : cuK c κ o = false := by
  unfold cuK
  rw [decide_eq_false h, decide_eq_false h7]
  rfl
theorem cuK_cl {c κ o : Nat} (h : clK κ o = false) : cuK c κ o = false := by
  have h := of_decide_eq_false h
  exact cuK_nk (by omega) (by omega)
theorem bK_cu {κ : Nat} (h : bKind κ = true) (c o : Nat) : cuK c κ o = false := by
  simp only [bKind, Bool.or_eq_true, beq_iff_eq] at h
  exact cuK_nk (by omega) (by omega)
theorem bK_3 {κ : Nat} (h : bKind κ = true) : κ ≠ 3 ∧ κ ≠ 4 := by
  simp only [bKind, Bool.or_eq_true, beq_iff_eq] at h
  omega
theorem pBr {μ : zM} {o : Nat} {b : zB} {κ q : Nat} (h : bKind κ = false ∨ q ≠ o) : (putB μ o b).1 κ q = μ.1 κ q := by
  funext k
  rcases h with h | h
  · exact pBx _ _ _ h _ _
  · exact pBo _ _ _ h _ _
abbrev zSt.mr (S : zSt) (f : Nat → Option (zB × zV3 × zB)) : zSt := (S.1, S.2.1, S.2.2.1, S.2.2.2.1, f)
theorem laid_c {m : Nat} (hm : m < 4) (hw : wI M S) (hc : cI S μ) {ρ : zM} {τ : zB} (f : fm (cuK (m + 2)) (pI μ 3 m 0 1) ρ) (e : cuE (pI μ 3 m 0 1) ρ 0 (m + 2)) (hτ : eqB τ (getB ρ 0)) : fm clK μ (putB ρ (m + 45) τ) ∧ cI (S.mr (fun i => if i = m then some (ctr S.cu, S.vw, S.b) else S.mk i)) (putB ρ (m + 45) τ) := by
  have hk := hw.2.1.1
  have n8 := cOk_8 hk
  obtain ⟨h1, ⟨h3, h4⟩, h5, ⟨p, h6, h7, h8, h9⟩, h10⟩ := hc
  have ρr : ∀ κ o, cuK (m + 2) κ o = false → (κ = 3 → o ≠ m) → ρ.1 κ o = μ.1 κ o := fun κ o a b => by
    rw [(f κ o a).1]
    by_cases e3 : κ = 3
    · exact (pI_ne (μ := μ) (κ := 3) (o := m) κ o (by have := b e3; omega)).1
    · exact pI_row2 _ _ _ _ _ e3
  have gρ : ∀ o, getB ρ o = getB μ o := fun o => getB_ext (fun κ q => ρr κ o (bK_cu q _ _) (fun z => absurd z (bK_3 q).1))
  have r : ∀ κ o, cuK (m + 2) κ o = false → (κ = 3 → o ≠ m) → (bKind κ = false ∨ o ≠ m + 45) → (putB ρ (m + 45) τ).1 κ o = μ.1 κ o := fun κ o a b c => by rw [pBr c, ρr κ o a b]
  have gb : ∀ o, o ≠ m + 45 → getB (putB ρ (m + 45) τ) o = getB μ o := fun o ho => by rw [getB_putB_ne _ _ ho, gρ]
  refine ⟨fun κ o q => ?_, ⟨?_, ?_⟩, ⟨?_, ?_⟩, ?_, ⟨p, h6, ?_, ?_, fun j hj => ?_⟩, fun i hi => ?_⟩
  · have q' := of_decide_eq_false q
    have a : bKind κ = false := by
      cases hb : bKind κ with
      | false => rfl
      | true => rw [b_kind hb] at q; cases q
    refine ⟨r κ o (cuK_cl q) (fun z => by omega) (Or.inl a), ?_⟩
    show ρ.2 κ o = μ.2 κ o
    rw [(f κ o (cuK_cl q)).2]
    rfl
  · rw [r 27 0 (cuK_nk (by omega) (by omega)) (by omega) (Or.inl rfl)]; exact h1.1
  · rw [r 5 0 (cuK_nk (by omega) (by omega)) (by omega) (Or.inl rfl)]; exact h1.2
  · refine cR_rows (μ := μ) hk (fun κ q => r κ 0 (cuK_no (fun _ => by omega) (fun _ => by omega)) (by omega) (Or.inr (by omega))) (fun l hl => r 7 _ (cuK_no (fun _ => by omega) (fun _ => by omega)) (by omega) (Or.inl rfl)) h3
  · rw [r 25 0 (cuK_no (fun _ => by omega) (fun _ => by omega)) (by omega) (Or.inl rfl)]; exact h4
  · rw [gb 0 (by omega)]; exact h5
  · rw [r 4 0 (cuK_nk (by omega) (by omega)) (by omega) (Or.inl rfl)]; exact h7
  · rw [r 4 0 (cuK_nk (by omega) (by omega)) (by omega) (Or.inl rfl)]; exact h8
  · have : rg p S.d j < 30 := Nat.mod_lt _ (by omega)
    show bR S.cu (getB (putB ρ (m + 45) τ) (1 + rg p S.d j)) (S.P j)
    rw [gb _ (by omega)]; exact h9 j hj
  · show cMk _ i (if i = m then some (ctr S.cu, S.vw, S.b) else S.mk i)
    by_cases e2 : i = m
    · subst e2
      rw [if_pos rfl]
      refine ⟨?_, ?_, ?_, ?_⟩
      · rw [pBr (Or.inl rfl), (f 3 i (cuK_nk (by omega) (by omega))).1, pI_at]; decide
      · refine cR_Q (cuQ_tr _) hk (cR_pB (cR_cuE hk (cR_rows hk (fun κ q => pI_row2 _ _ _ _ _ (by omega)) (fun l hl => pI_row2 _ _ _ _ _ (by omega)) h3) e))
      · intro i2 hi2 w hw2
        rw [(cuQ_n (cuQ_tr S.cu)).2.2.2] at hi2
        show bt ((putB ρ (i + 45) τ).1 25 (i + 2) i2) w = decide (¬ S.vw i2 (nI w) = 0)
        rw [pBr (Or.inl rfl), e.2.2.2.2.2.2.2 i2 (by omega), pI_row2 _ _ _ _ _ (by decide)]
        exact h4 i2 hi2 w hw2
      · refine bR_Q (cuQ_tr _) (bR_eqB hk (bR_eqB hk ?_ hτ) (getB_putB _ _ _))
        rw [gρ]; exact h5
    · rw [if_neg e2]
      exact cMk_rows (hw.2.2.2.2 i hi) (r 3 i (cuK_nk (by omega) (by omega)) (fun _ => e2) (Or.inl rfl)) (fun κ q => r κ _ (cuK_no (fun _ => by omega) (fun _ => by omega)) (by omega) (Or.inr (by omega))) (fun l hl => r 7 _ (cuK_no (fun _ => by omega) (fun _ => by omega)) (by omega) (Or.inl rfl)) (fun κ q => r κ _ (bK_cu q _ _) (fun z => absurd z (bK_3 q).1) (Or.inr (by omega))) (h10 i hi)
theorem laid_r {m : Nat} (hm : m < 4) (hw : wI M S) (hr : rI S μ) : fm rfK μ (mkM μ m) ∧ ∃ b, cuQ S.cu b ∧ rI ((S.mr (fun i => if i = m then some (ctr S.cu, S.vw, S.b) else S.mk i)).cs b) (mkM μ m) := by
  obtain ⟨⟨r1, r2⟩, ⟨r3, r4⟩, r5, ⟨r6, r7⟩, r8⟩ := hr
  have hk := hw.2.1.1
  have n8 := cOk_8 hk
  have f0 : fm rfK μ (mkM μ m) := by
    unfold mkM layM ly57 ly54 ly53 ly52 ly51 ly50 ly49 ly48 ly47 ly46 ly45 ly44 ly43 ly42 ly39 ly38 ly37 ly36
    exact fm_R (fm_R (fm_R (fm_R (fm_R (fm_R (fm_R (fm_R (fm_R (fm_R (fm_R (fm_R (fm_R (fm_R (fm_R (fm_R (fm_R (fm_R (fm_R (fm_R (fm_R (fm_I fm_thr rfl _ _) rfl _) rfl _) rfl _) rfl _) rfl _) rfl _) rfl _) rfl _) rfl _) rfl _) rfl _) rfl _) rfl _) rfl _) rfl _) rfl _) rfl _) rfl _) rfl _) rfl _) rfl _
  have z0 : ∀ κ, κ ≠ 11 → κ ≠ 74 → (pI (thr μ 0) 74 0 m 1).1 κ 0 = μ.1 κ 0 := fun κ a b => by rw [pI_row2 _ _ _ _ _ b, thr, pI_row2 _ _ _ _ _ a]
  have far : ∀ κ, κ < 36 ∨ 57 < κ → κ ≠ 11 → κ ≠ 73 → κ ≠ 74 → (mkM μ m).1 κ 0 = μ.1 κ 0 := fun κ a b c d => by rw [mkM, pR_row2 _ _ _ _ c, layM_far _ _ _ a, z0 κ b d]
  have at11 : ∀ k, k ≠ 0 → (mkM μ m).1 11 0 k = μ.1 11 0 k := fun k hk => by rw [mkM, pR_row2 _ _ _ _ (by decide), layM_far _ _ _ (by omega), pI_row2 _ _ _ _ _ (by decide), thr, pI_place _ _ _ _ hk]
  have c2 : ∀ q, cuB (mkM μ m) q = cuB (layM (pI (thr μ 0) 74 0 m 1) 0 (2 + m)) q := fun q => cuB_ext (fun κ a b => by rw [mkM, pR_row2 _ _ _ _ (by omega)])
  have cz : ∀ q, cuB (pI (thr μ 0) 74 0 m 1) q = cuB μ q := fun q => cuB_ext (fun κ a b => z0 κ (by omega) (by omega))
  have cf : ∀ q, q ≠ 2 + m → cuB (mkM μ m) q = cuB μ q := fun q hq => by rw [c2, cuB_far _ _ hq, cz]
  have bw : ∀ q nb vw, BWq (layM (pI (thr μ 0) 74 0 m 1) 0 (2 + m)) q nb vw → BWq (mkM μ m) q nb vw := fun q nb vw => BWq_ext (by rw [mkM, pR_row2 _ _ _ _ (by decide)]) (by rw [mkM, pR_row2 _ _ _ _ (by decide)]) (by rw [mkM, pR_row2 _ _ _ _ (by decide)])
  have bz : ∀ q nb vw, BWq μ q nb vw → BWq (pI (thr μ 0) 74 0 m 1) q nb vw := fun q nb vw => BWq_ext (z0 55 (by decide) (by decide)) (z0 56 (by decide) (by decide)) (z0 57 (by decide) (by decide))
  have hQ : cuQ S.cu (cuZ (mkM μ m)) := by
    have e : ctr (cuZ (mkM μ m)) = ctr S.cu := by rw [← cuB_0, cf 0 (by omega), cuB_0, r3]
    have q := cuQ_tr (cuZ (mkM μ m))
    rw [e] at q
    exact cuQ_trans (cuQ_tr _) (cuQ_symm q)
  have e74 : ∀ i, i ≠ m → (mkM μ m).1 74 0 i = μ.1 74 0 i := fun i hi => by rw [mkM, pR_row2 _ _ _ _ (by decide), layM_far _ _ _ (by omega), pI_place _ _ _ _ hi, thr, pI_row2 _ _ _ _ _ (by decide)]
  refine ⟨f0, cuZ (mkM μ m), hQ, ⟨?_, ?_⟩, ⟨rfl, ?_⟩, ?_, ⟨?_, fun j hj => ?_⟩, fun i hi => ?_⟩
  · rw [far 35 (by omega) (by omega) (by omega) (by omega)]; exact r1
  · rw [at11 1 (by omega)]; exact r2
  · show BWq (mkM μ m) 0 (nBe (cuZ (mkM μ m))) S.vw
    rw [(cuQ_n hQ).2.2.2]
    exact bw _ _ _ (BWq_far n8 (by omega) (bz _ _ _ r4))
  · rw [far 70 (by omega) (by omega) (by omega) (by omega)]; exact r5
  · rw [at11 50 (by omega)]; exact r6
  · rw [far 72 (by omega) (by omega) (by omega) (by omega)]; exact r7 j hj
  · show rMk _ i (if i = m then some (ctr S.cu, S.vw, S.b) else S.mk i)
    by_cases e2 : i = m
    · subst e2
      rw [if_pos rfl]
      refine ⟨?_, ?_, ?_, ?_⟩
      · rw [mkM, pR_row2 _ _ _ _ (by decide), layM_far _ _ _ (by omega), pI_at]; decide
      · rw [c2, cuB_lay, cz, cuB_0, r3]
      · show BWq (mkM μ i) (2 + i) (nBe (ctr S.cu)) S.vw
        rw [(cuQ_n (cuQ_tr S.cu)).2.2.2]
        exact bw _ _ _ (BWq_lay n8 (bz _ _ _ r4))
      · show bOf (fun k => (mkM μ i).1 73 0 (64 * i + k)) = S.b
        rw [← r5]
        refine bOf_ext (fun k hk => ?_)
        rw [mkM, pR_row, pk_cpy_in (by omega) (by omega)]
        exact congrArg (μ.1 70 0) (by omega)
    · rw [if_neg e2]
      have := r8 i hi
      have hw2 := hw.2.2.2.2 i hi
      generalize S.mk i = q at this hw2
      cases q with
      | none => show (mkM μ m).1 74 0 i = 0; rw [e74 i e2]; exact this
      | some q =>
        obtain ⟨g1, g2, g3, g4⟩ := this
        refine ⟨by rw [e74 i e2]; exact g1, by rw [cf _ (by omega)]; exact g2, bw _ _ _ (BWq_far (cOk_8 hw2.1.1) (by omega) (bz _ _ _ g3)), ?_⟩
        rw [← g4]
        refine bOf_ext (fun k hk => ?_)
        rw [mkM, pR_row, pk_cpy_out (by omega)]
abbrev zSt.gb (S : zSt) (q : zB × zV3 × zB) : zSt := (S.1, (q.1, q.2.1), q.2.2, (0, S.P), S.mk)
theorem back_c {m : Nat} (hm : m < 4) (hw : wI M S) (hc : cI S μ) {q : zB × zV3 × zB} (hq : S.mk m = some q) {ρ : zM} {τ : zB} (f : fm (cuK 0) μ ρ) (e : cuE μ ρ (m + 2) 0) (hτ : eqB τ (getB ρ (m + 45))) : fm clK μ (pI (putB ρ 0 τ) 4 0 0 0) ∧ cI (S.gb q) (pI (putB ρ 0 τ) 4 0 0 0) := by
  obtain ⟨h1, ⟨h3, h4⟩, h5, ⟨p, h6, h7, h8, h9⟩, h10⟩ := hc
  have hm0 := h10 m hm
  have hwm := hw.2.2.2.2 m hm
  rw [hq] at hm0 hwm
  obtain ⟨m1, m2, m3, m4⟩ := hm0
  have hk := hwm.1.1
  have n8 := cOk_8 hk
  have gρ : ∀ o, getB ρ o = getB μ o := fun o => getB_ext (fun κ q => (f κ o (bK_cu q _ _)).1)
  have r : ∀ κ o, cuK 0 κ o = false → κ ≠ 4 → (bKind κ = false ∨ o ≠ 0) → (pI (putB ρ 0 τ) 4 0 0 0).1 κ o = μ.1 κ o := fun κ o a b c => by rw [pI_row2 _ _ _ _ _ b, pBr c, (f κ o a).1]
  have gpI : ∀ o, getB (pI (putB ρ 0 τ) 4 0 0 0) o = getB (putB ρ 0 τ) o := fun o => getB_ext (fun κ q => pI_row2 _ _ _ _ _ (bK_3 q).2)
  refine ⟨fun κ o q => ?_, ⟨?_, ?_⟩, ⟨?_, ?_⟩, ?_, ⟨p, h6, ?_, ?_, fun j hj => absurd hj (Nat.not_lt_zero j)⟩, fun i hi => ?_⟩
  · have q' := of_decide_eq_false q
    have a : bKind κ = false := by
      cases hb : bKind κ with
      | false => rfl
      | true => rw [b_kind hb] at q; cases q
    exact ⟨r κ o (cuK_cl q) (by omega) (Or.inl a), (f κ o (cuK_cl q)).2⟩
  · rw [r 27 0 (cuK_nk (by omega) (by omega)) (by omega) (Or.inl rfl)]; exact h1.1
  · rw [r 5 0 (cuK_nk (by omega) (by omega)) (by omega) (Or.inl rfl)]; exact h1.2
  · refine cR_rows hk (fun κ q => pI_row2 _ _ _ _ _ (by omega)) (fun l hl => pI_row2 _ _ _ _ _ (by omega)) (cR_pB (cR_cuE hk m2 e))
  · intro i2 hi2 w hw2
    show bt ((pI (putB ρ 0 τ) 4 0 0 0).1 25 0 i2) w = decide (¬ q.2.1 i2 (nI w) = 0)
    have hi3 : i2 < nBe q.1 := hi2
    rw [pI_row2 _ _ _ _ _ (by decide), pBr (Or.inl rfl), e.2.2.2.2.2.2.2 i2 (by omega)]
    exact m3 i2 hi3 w hw2
  · rw [gpI]
    refine bR_eqB hk (bR_eqB hk ?_ hτ) (getB_putB _ _ _)
    rw [gρ]; exact m4
  · exact pI_at _ _ _ _ _
  · rw [pI_place _ _ _ _ (by decide), pBr (Or.inl rfl), (f 4 0 (cuK_nk (by omega) (by omega))).1]; exact h8
  · exact cMk_rows (hw.2.2.2.2 i hi) (r 3 i (cuK_nk (by omega) (by omega)) (by omega) (Or.inl rfl)) (fun κ q => r κ _ (cuK_no (fun _ => by omega) (fun _ => by omega)) (by omega) (Or.inr (by omega))) (fun l hl => r 7 _ (cuK_no (fun _ => by omega) (fun _ => by omega)) (by omega) (Or.inl rfl)) (fun κ q => r κ _ (bK_cu q _ _) (bK_3 q).2 (Or.inr (by omega))) (h10 i hi)
theorem back_r {m : Nat} (hm : m < 4) (hw : wI M S) (hr : rI S μ) {q : zB × zV3 × zB} (hq : S.mk m = some q) : fm rfK μ (bkM μ m) ∧ ∃ b, cuQ q.1 b ∧ rI ((S.gb q).cs b) (bkM μ m) := by
  obtain ⟨⟨r1, r2⟩, -, r5, -, r8⟩ := hr
  have hm0 := r8 m hm
  have hwm := hw.2.2.2.2 m hm
  rw [hq] at hm0 hwm
  obtain ⟨m1, m2, m3, m4⟩ := hm0
  have hk := hwm.1.1
  have n8 := cOk_8 hk
  have f0 : fm rfK μ (bkM μ m) := by
    unfold bkM layM ly57 ly54 ly53 ly52 ly51 ly50 ly49 ly48 ly47 ly46 ly45 ly44 ly43 ly42 ly39 ly38 ly37 ly36
    exact fm_I (fm_R (fm_R (fm_R (fm_R (fm_R (fm_R (fm_R (fm_R (fm_R (fm_R (fm_R (fm_R (fm_R (fm_R (fm_R (fm_R (fm_R (fm_R (fm_R (fm_R (fm_R (fm_I fm_thr rfl _ _) rfl _) rfl _) rfl _) rfl _) rfl _) rfl _) rfl _) rfl _) rfl _) rfl _) rfl _) rfl _) rfl _) rfl _) rfl _) rfl _) rfl _) rfl _) rfl _) rfl _) rfl _) rfl _ _
  have z0 : ∀ κ, κ ≠ 11 → κ ≠ 74 → (pI (thr μ 0) 74 0 m 1).1 κ 0 = μ.1 κ 0 := fun κ a b => by rw [pI_row2 _ _ _ _ _ b, thr, pI_row2 _ _ _ _ _ a]
  have bk : ∀ κ, κ ≠ 11 → κ ≠ 70 → (bkM μ m).1 κ 0 = (layM (pI (thr μ 0) 74 0 m 1) (2 + m) 0).1 κ 0 := fun κ a b => by rw [bkM, pI_row2 _ _ _ _ _ a, pR_row2 _ _ _ _ b]
  have far : ∀ κ, κ < 36 ∨ 57 < κ → κ ≠ 11 → κ ≠ 70 → κ ≠ 74 → (bkM μ m).1 κ 0 = μ.1 κ 0 := fun κ a b c d => by rw [bk κ b c, layM_far _ _ _ a, z0 κ b d]
  have c2 : ∀ q, cuB (bkM μ m) q = cuB (layM (pI (thr μ 0) 74 0 m 1) (2 + m) 0) q := fun q => cuB_ext (fun κ a b => bk κ (by omega) (by omega))
  have cz : ∀ q, cuB (pI (thr μ 0) 74 0 m 1) q = cuB μ q := fun q => cuB_ext (fun κ a b => z0 κ (by omega) (by omega))
  have cf : ∀ q, q ≠ 0 → cuB (bkM μ m) q = cuB μ q := fun q hq => by rw [c2, cuB_far _ _ hq, cz]
  have bw : ∀ q nb vw, BWq (layM (pI (thr μ 0) 74 0 m 1) (2 + m) 0) q nb vw → BWq (bkM μ m) q nb vw := fun q nb vw => BWq_ext (bk 55 (by decide) (by decide)) (bk 56 (by decide) (by decide)) (bk 57 (by decide) (by decide))
  have bz : ∀ q nb vw, BWq μ q nb vw → BWq (pI (thr μ 0) 74 0 m 1) q nb vw := fun q nb vw => BWq_ext (z0 55 (by decide) (by decide)) (z0 56 (by decide) (by decide)) (z0 57 (by decide) (by decide))
  have hQ : cuQ q.1 (cuZ (bkM μ m)) := by
    have e : ctr (cuZ (bkM μ m)) = q.1 := by rw [← cuB_0, c2, cuB_lay, cz, m2]
    have z := cuQ_tr (cuZ (bkM μ m))
    rw [e] at z
    exact cuQ_symm z
  refine ⟨f0, cuZ (bkM μ m), hQ, ⟨?_, ?_⟩, ⟨rfl, ?_⟩, ?_, ⟨?_, fun j hj => absurd hj (Nat.not_lt_zero j)⟩, fun i hi => ?_⟩
  · rw [far 35 (by omega) (by omega) (by omega) (by omega)]; exact r1
  · rw [bkM, pI_place _ _ _ _ (by decide), pR_row2 _ _ _ _ (by decide), layM_far _ _ _ (by omega), pI_row2 _ _ _ _ _ (by decide), thr, pI_place _ _ _ _ (by decide)]; exact r2
  · show BWq (bkM μ m) 0 (nBe (cuZ (bkM μ m))) q.2.1
    rw [(cuQ_n hQ).2.2.2]
    exact bw _ _ _ (BWq_lay n8 (bz _ _ _ m3))
  · show bOf ((bkM μ m).1 70 0) = q.2.2
    rw [← m4]
    refine bOf_ext (fun k hk => ?_)
    rw [bkM, pI_row2 _ _ _ _ _ (by decide), pR_row, pk_cpy_in (by omega) (by omega)]
    exact congrArg (μ.1 73 0) (by omega)
  · exact pI_at _ _ _ _ _
  · show rMk _ i (S.mk i)
    have this := r8 i hi
    have hw2 := hw.2.2.2.2 i hi
    have e74 : ∀ v : Int32, (μ.1 74 0 i = 0 → i ≠ m) → ((bkM μ m).1 74 0 i = 0 ↔ μ.1 74 0 i = 0) := by
      intro _ h
      rw [bk 74 (by decide) (by decide), layM_far _ _ _ (by omega)]
      by_cases c : i = m
      · subst c
        rw [pI_at]
        exact ⟨fun z => absurd z (by decide), fun z => absurd z m1⟩
      · rw [pI_place _ _ _ _ c, thr, pI_row2 _ _ _ _ _ (by decide)]
    have h0 : μ.1 74 0 i = 0 → i ≠ m := by rintro z rfl; exact m1 z
    generalize S.mk i = q2 at this hw2
    cases q2 with
    | none => exact (e74 0 h0).mpr this
    | some q2 =>
      obtain ⟨g1, g2, g3, g4⟩ := this
      exact ⟨fun z => g1 ((e74 0 h0).mp z), by rw [cf _ (by omega)]; exact g2, bw _ _ _ (BWq_far (cOk_8 hw2.1.1) (by omega) (bz _ _ _ g3)), by rw [far 73 (by omega) (by omega) (by omega) (by omega)]; exact g4⟩
theorem mk_laid {m : Nat} (hc : cI S μ) (hr : rI S ν) (hm : m < 4) : (μ.1 3 m 0 = 0 ∧ ν.1 74 0 m = 0) ∨ (¬ μ.1 3 m 0 = 0 ∧ ¬ ν.1 74 0 m = 0 ∧ ∃ q, S.mk m = some q) := by
  have a := hc.2.2.2.2 m hm
  have b := hr.2.2.2.2 m hm
  generalize e : S.mk m = q at a b
  cases q with
  | none => exact Or.inl ⟨a, b⟩
  | some q => exact Or.inr ⟨a.1, b.1, q, rfl⟩
set_option maxHeartbeats 1000000 in
theorem pr_mark (h : Rel M μ) : zCT l G 3 yX10_mark cX10_mark 3 (some .boolean) [.ref (G.ad 10 0), .int x1, .int x2] μ (zI fun r μ1 => zCT l G 2 yX11_mark cX11_mark 3 (some .boolean) [.ref (G.ad 11 0), .int x1, .int x2] μ1 (zI fun r2 μ2 => r2 = r ∧ Rel M μ2)) := by
  refine pr_E h (fun S hc hr0 hw => ?_)
  have hk := hw.2.1.1
  have no : wthn x1 0 3 = false ∨ (∃ m, m < 4 ∧ x1 = nI m ∧ wthn x1 0 3 = true) := by
    cases q : wthn x1 0 3 with
    | false => exact Or.inl rfl
    | true =>
      obtain ⟨m, e, -, h3⟩ := wthn_nI (a := 0) (b := 3) q (by omega) (by omega)
      exact Or.inr ⟨m, by omega, e, rfl⟩
  have ref0 : ∀ μ1, rI S μ1 → mkOk x1 x2 (μ1.1 74 0) = false → zCT l G 2 yX11_mark cX11_mark 3 (some .boolean) [.ref (G.ad 11 0), .int x1, .int x2] μ1 (zI fun r μ2 => r = 0 ∧ fm rfK μ1 μ2 ∧ ∃ b, cuQ S.cu b ∧ rI (S.cs b) μ2) := by
    intro μ1 hr1 c
    refine zCT_post (cr_mark (lc := l) (G := G) (μ := μ1) (x1 := x1) (x2 := x2)) ?_
    rintro rv μ2 ⟨r, rfl, ⟨g1, rfl, rfl⟩ | ⟨g1, -⟩⟩
    · exact ⟨_, rfl, rfl, fm_thr, S.cu, fun j k _ => rfl, rI_thr hr1⟩
    · rw [c] at g1; cases g1
  rcases no with c | ⟨m, hm, rfl, c⟩
  · refine ⟨0, S, hw, ?_, fun μ1 hr1 => ref0 μ1 hr1 (by rw [mkOk, c]; rfl)⟩
    refine zCT_of (by decide) (Nat.le_of_ble_eq_true rfl) rfl (fun X hl hG hX hr => ?_)
    subst hG
    have fin : (zI fun r μ1 => r = 0 ∧ fm clK μ μ1 ∧ cI S μ1) (some (.int (0 : Int32))) μ := ⟨_, rfl, rfl, fm.rf _, hc⟩
    refine st_X10_mark_0 hX hr ⟨fun _ => fin, fun a => ⟨fun b => ?_, fun _ => fin⟩⟩
    exfalso
    have : wthn x1 0 3 = true := by
      unfold wthn
      rw [Bool.and_eq_true]
      refine ⟨decide_eq_true a, decide_eq_true (fun z => ?_)⟩
      rw [Int32.lt_iff_toInt_lt] at b z
      have e4 : (4 : Int32).toInt = 4 := rfl
      have e3 : (3 : Int32).toInt = 3 := rfl
      omega
    rw [this] at c; cases c
  · have em : ix (nI m) = m := ixn (by omega)
    have a1 : ¬ nI m < 0 := nI_pos (by omega)
    have a2 : nI m < (4 : Int32) := nI_lt (a := m) (b := 4) hm (by omega)
    have a3 : vp_in (nI m) 4 := vin hm (by omega)
    by_cases c2 : x2 = 0
    · subst c2
      refine ⟨1, S.mr (fun i => if i = m then some (ctr S.cu, S.vw, S.b) else S.mk i), ⟨hw.1, hw.2.1, hw.2.2.1, hw.2.2.2.1, fun i hi => ?_⟩, ?_, fun μ1 hr1 => ?_⟩
      · show wMk M (if i = m then some (ctr S.cu, S.vw, S.b) else S.mk i)
        by_cases e : i = m
        · rw [if_pos e]; exact ⟨cZ_Q (cuQ_tr _) hw.2.1, wB2_Q (cuQ_tr _) hk hw.2.2.1⟩
        · rw [if_neg e]; exact hw.2.2.2.2 i hi
      · refine zCT_of (by decide) (Nat.le_of_ble_eq_true rfl) rfl (fun X hl hG hX hr => ?_)
        subst hG
        refine st_X10_mark_0 hX hr ⟨fun z => absurd z a1, fun _ => ⟨fun _ => ⟨fun z => absurd rfl z, fun _ => ⟨a3, ?_⟩⟩, fun z => absurd a2 z⟩⟩
        rw [em, Nat.zero_add]
        refine ⟨2, _, by omega, cm_lay hm, ?_⟩
        rintro ν ⟨ρ, τ, f, e, hτ, rfl⟩
        obtain ⟨g1, g2⟩ := laid_c hm hw hc f e hτ
        exact ⟨_, rfl, rfl, g1, g2⟩
      · refine zCT_post (cr_mark (lc := l) (G := G) (μ := μ1) (x1 := nI m) (x2 := 0)) ?_
        rintro rv μ2 ⟨r, rfl, ⟨g1, -⟩ | ⟨-, rfl, -, rfl⟩⟩
        · rw [mkOk, c] at g1; cases g1
        · rw [if_pos rfl, em]
          obtain ⟨k1, k2⟩ := laid_r hm hw hr1
          exact ⟨_, rfl, rfl, k1, k2⟩
    · by_cases c3 : μ.1 3 m 0 = 0
      · refine ⟨0, S, hw, ?_, fun μ1 hr1 => ref0 μ1 hr1 ?_⟩
        · refine zCT_of (by decide) (Nat.le_of_ble_eq_true rfl) rfl (fun X hl hG hX hr => ?_)
          subst hG
          refine st_X10_mark_0 hX hr ⟨fun z => absurd z a1, fun _ => ⟨fun _ => ⟨fun _ => ⟨a3, ?_⟩, fun z => absurd z c2⟩, fun z => absurd a2 z⟩⟩
          rw [em, Nat.zero_add]
          exact ⟨fun z => absurd c3 z, fun _ => ⟨_, rfl, rfl, fm.rf _, hc⟩⟩
        · rcases mk_laid hc hr1 hm with ⟨-, q⟩ | ⟨q, -⟩
          · rw [mkOk, c, em, decide_eq_false c2, decide_eq_false (fun z => z q)]; rfl
          · exact absurd c3 q
      · obtain ⟨q, hq⟩ : ∃ q, S.mk m = some q := by
          rcases mk_laid hc hr0 hm with ⟨q, -⟩ | ⟨-, -, q⟩
          · exact absurd q c3
          · exact q
        have hwm := hw.2.2.2.2 m hm
        rw [hq] at hwm
        refine ⟨1, S.gb q, ⟨hw.1, hwm.1, hwm.2, ⟨Nat.zero_le _, fun j hj => absurd hj (Nat.not_lt_zero j)⟩, hw.2.2.2.2⟩, ?_, fun μ1 hr1 => ?_⟩
        · refine zCT_of (by decide) (Nat.le_of_ble_eq_true rfl) rfl (fun X hl hG hX hr => ?_)
          subst hG
          refine st_X10_mark_0 hX hr ⟨fun z => absurd z a1, fun _ => ⟨fun _ => ⟨fun _ => ⟨a3, ?_⟩, fun z => absurd z c2⟩, fun z => absurd a2 z⟩⟩
          rw [em, Nat.zero_add]
          refine ⟨fun _ => ⟨1, _, by omega, cu_copy (by omega) (by omega) (by omega), ?_⟩, fun z => absurd z c3⟩
          rintro ρ ⟨f, e⟩
          have CT := cb_copy (l := X.l) (G := X.G) (μ := ρ) (ν := getB ρ 0) (o := 0) (o1 := m + 45) (by omega) (by omega) (by omega)
          rw [putB_getB] at CT
          refine ⟨1, _, by omega, CT, ?_⟩
          rintro ν ⟨τ, rfl, hτ⟩
          refine ⟨0, _, by omega, cp_forget, ?_⟩
          rintro ν rfl
          obtain ⟨g1, g2⟩ := back_c hm hw hc hq f e hτ
          exact ⟨_, rfl, rfl, g1, g2⟩
        · refine zCT_post (cr_mark (lc := l) (G := G) (μ := μ1) (x1 := nI m) (x2 := x2)) ?_
          rintro rv μ2 ⟨r, rfl, ⟨g1, -⟩ | ⟨-, rfl, -, rfl⟩⟩
          · rcases mk_laid hc hr1 hm with ⟨z, -⟩ | ⟨-, z, -⟩
            · exact absurd z c3
            · rw [mkOk, c, em, decide_eq_true z, Bool.or_true] at g1; cases g1
          · rw [if_neg c2, em]
            obtain ⟨k1, k2⟩ := back_r hm hw hr1 hq
            exact ⟨_, rfl, rfl, k1, k2⟩
end MK
