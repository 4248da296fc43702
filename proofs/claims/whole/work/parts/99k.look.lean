/-! LOOKING AHEAD: frames, what can be asked; fits, fit -/
def lkK (κ o : Nat) : Bool := (bKind κ && decide (31 ≤ o ∧ o ≤ 44)) || decide (κ = 0 ∨ κ = 13 ∨ κ = 9)
theorem lkK_no {κ o : Nat} (h : bKind κ = false ∨ o < 31 ∨ 44 < o) (h2 : κ ≠ 0 ∧ κ ≠ 13 ∧ κ ≠ 9) : lkK κ o = false := by
  unfold lkK
  rw [decide_eq_false (p := κ = 0 ∨ κ = 13 ∨ κ = 9) (by omega), Bool.or_false]
  rcases h with h | h
  · rw [h]; rfl
  · rw [decide_eq_false (by omega), Bool.and_false]
theorem ah_lk {κ o : Nat} (h : lkK κ o = false) : ahK 0 κ o = false := by
  unfold lkK at h
  unfold ahK
  rw [Bool.or_eq_false_iff, Bool.and_eq_false_iff, decide_eq_false_iff_not, decide_eq_false_iff_not] at h
  obtain ⟨h1, h2⟩ := h
  rw [decide_eq_false (p := κ = 0 ∨ κ = 13) (by omega), Bool.false_and, Bool.or_false]
  rcases h1 with h | h
  · rw [h]; rfl
  · rw [decide_eq_false (by omega), Bool.and_false]
section LK
variable {l : Launch} {G : zG} {S : zSt} {μ ν : zM} {M : Int} {x1 x2 x3 x4 : Int32}
theorem cI_lk (hw : wI M S) (hc : cI S μ) (f : fm lkK μ ν) : fm clK μ ν ∧ cI S ν := by
  obtain ⟨h1, ⟨h3, h4⟩, h5, ⟨p, h6, h7, h8, h9⟩, h10⟩ := hc
  have r : ∀ κ o, (bKind κ = false ∨ o < 31 ∨ 44 < o) → κ ≠ 0 ∧ κ ≠ 13 ∧ κ ≠ 9 → ν.1 κ o = μ.1 κ o := fun κ o a b => (f κ o (lkK_no a b)).1
  have nb : ∀ {κ}, bKind κ = true → κ ≠ 0 ∧ κ ≠ 13 ∧ κ ≠ 9 := by
    intro κ q
    simp only [bKind, Bool.or_eq_true, beq_iff_eq] at q
    omega
  have gb : ∀ o, o < 31 ∨ 44 < o → getB ν o = getB μ o := fun o ho => getB_ext (fun κ q => r κ o (Or.inr ho) (nb q))
  refine ⟨fun κ o q => ?_, ⟨?_, ?_⟩, ⟨?_, ?_⟩, by rw [gb 0 (by omega)]; exact h5, ⟨p, h6, ?_, ?_, fun j hj => ?_⟩, fun i hi => ?_⟩
  · have q' := of_decide_eq_false q
    have a : bKind κ = false := by
      cases hb : bKind κ with
      | false => rfl
      | true => rw [b_kind hb] at q; cases q
    exact f κ o (lkK_no (Or.inl a) (by omega))
  · rw [r 27 0 (Or.inl rfl) (by omega)]; exact h1.1
  · rw [r 5 0 (Or.inl rfl) (by omega)]; exact h1.2
  · exact cR_rows hw.2.1.1 (fun κ q => r κ 0 (by omega) (by omega)) (fun l hl => r 7 _ (Or.inl rfl) (by omega)) h3
  · rw [r 25 0 (Or.inl rfl) (by omega)]; exact h4
  · rw [r 4 0 (Or.inl rfl) (by omega)]; exact h7
  · rw [r 4 0 (Or.inl rfl) (by omega)]; exact h8
  · have : rg p S.d j < 30 := Nat.mod_lt _ (by omega)
    rw [gb _ (by omega)]; exact h9 j hj
  · exact cMk_rows (hw.2.2.2.2 i hi) (r 3 i (Or.inl rfl) (by omega)) (fun κ q => r κ _ (by omega) (by omega)) (fun l hl => r 7 _ (Or.inl rfl) (by omega)) (fun κ q => r κ _ (by omega) (nb q)) (h10 i hi)
theorem rI_lk {W : Nat} {s' : Nat → Int32} {m' : Int32} (hr : rI S μ) (hb : bOf s' = S.b) : fm rfK μ (putS (ahM μ W) s' m') ∧ rI S (putS (ahM μ W) s' m') := by
  refine ⟨fm_I (fm_R (fm_R (fm_I fm_thr rfl _ _) rfl _) rfl _) rfl _ _, rI_book (b := S.b) (d := S.d) (P := S.P) hr (fun κ q => ?_) ?_ ?_ ⟨?_, fun j hj => ?_⟩⟩
  · rw [putS, pI_row2 _ _ _ _ _ (by omega), pR_row2 _ _ _ _ (by omega), ahM, pR_row2 _ _ _ _ (by omega), pI_row2 _ _ _ _ _ (by omega), thr, pI_row2 _ _ _ _ _ (by omega)]
  · rw [putS, pI_place _ _ _ _ (by decide), pR_other _ _ _ _ _ (by decide), ahM, pR_other _ _ _ _ _ (by decide), pI_place _ _ _ _ (by decide), thr, pI_place _ _ _ _ (by decide)]
  · rw [putS, pI_row2 _ _ _ _ _ (by decide), pR_row]; exact hb
  · rw [putS, pI_place _ _ _ _ (by decide), pR_other _ _ _ _ _ (by decide), ahM, pR_other _ _ _ _ _ (by decide), pI_place _ _ _ _ (by decide), thr, pI_place _ _ _ _ (by decide)]
    exact hr.2.2.2.1.1
  · rw [putS, pI_row2 _ _ _ _ _ (by omega), pR_row2 _ _ _ _ (by omega), ahM, pR_row2 _ _ _ _ (by omega), pI_row2 _ _ _ _ _ (by omega), thr, pI_row2 _ _ _ _ _ (by omega)]
    exact hr.2.2.2.1.2 j hj
theorem cc_look {cu : zB} (hR : cR cu μ 0) : zCT l G 0 yX10_canLookAhead cX10_canLookAhead 2 (some .boolean) [.ref (G.ad 10 0), .int x1] μ (zI fun r μ' => r = b2i (ahS cu x1) ∧ μ' = μ) := by
  refine zCT_of (by decide) (Nat.le_of_ble_eq_true rfl) rfl (fun X hl hG hX hr => ?_)
  subst hG
  have e := hR.1.1
  have no : ahS cu x1 = false → (zI fun r μ' => r = b2i (ahS cu x1) ∧ μ' = μ) (some (.int (0 : Int32))) μ := fun q => ⟨_, rfl, by rw [q]; rfl, rfl⟩
  refine st_X10_canLookAhead_0 hX hr ⟨fun a => no ?_, fun a => ⟨fun b => no ?_, fun b => ⟨fun c => no ?_, fun c => ⟨_, rfl, ?_, rfl⟩⟩⟩⟩
  · rw [ahS, wthn, decide_eq_false (fun z => z a), Bool.false_and, Bool.false_and]
  · rw [ahS, wthn, decide_eq_false (p := ¬ 12 < x1) (fun z => z b), Bool.and_false, Bool.false_and]
  · rw [e] at c
    rw [ahS, decide_eq_false (p := cu 0 0 * x1 ≤ 12) (fun z => by rw [Int32.lt_iff_toInt_lt] at c; rw [Int32.le_iff_toInt_le] at z; omega), Bool.and_false]
  · rw [e] at c
    have : cu 0 0 * x1 ≤ 12 := by rw [Int32.lt_iff_toInt_lt] at c; rw [Int32.le_iff_toInt_le]; omega
    rw [ahS, wthn, decide_eq_true a, decide_eq_true b, decide_eq_true this]; rfl
theorem cc_fit {cu : zB} (hR : cR cu μ 0) : zCT l G 1 yX10_canFit cX10_canFit 4 (some .boolean) [.ref (G.ad 10 0), .int x1, .int x2, .int x3] μ (zI fun r μ' => r = b2i (ftOk cu x1 x2 x3) ∧ μ' = μ) := by
  refine zCT_of (by decide) (Nat.le_of_ble_eq_true rfl) rfl (fun X hl hG hX hr => ?_)
  subst hG
  have e := hR.1.2.1
  have no : ftOk cu x1 x2 x3 = false → (zI fun r μ' => r = b2i (ftOk cu x1 x2 x3) ∧ μ' = μ) (some (.int (0 : Int32))) μ := fun q => ⟨_, rfl, by rw [q]; rfl, rfl⟩
  refine st_X10_canFit_0 hX hr ⟨0, _, by omega, cc_look hR, ?_⟩
  rintro r ν ⟨rfl, rfl⟩
  refine ⟨fun a => no (by rw [ftOk, b2i0.mp a, Bool.and_false, Bool.and_false]), fun a => ⟨0, _, by omega, cc_isPerson (by omega), ?_⟩⟩
  rintro r ν ⟨rfl, rfl⟩
  rw [e]
  refine ⟨fun b => no (by rw [ftOk, b2i0.mp b, Bool.false_and]), fun b => ⟨fun c => no ?_, fun c => ⟨fun d => no ?_, fun d => ⟨_, rfl, ?_, rfl⟩⟩⟩⟩
  · rw [ftOk, wthn, decide_eq_false (fun z => z c), Bool.false_and, Bool.false_and, Bool.and_false]
  · rw [ftOk, wthn, decide_eq_false (p := ¬ 99999 < x3) (fun z => z d), Bool.and_false, Bool.false_and, Bool.and_false]
  · rw [ftOk, wthn, decide_eq_true c, decide_eq_true d, b2i1.mp a, b2i1.mp b]; rfl
/-- what is known when weathers are to fit -/
theorem ft_nI {cu : zB} (hk : cOk cu) (h : ftOk cu x1 x2 x3 = true) : ∃ n p, x1 = nI n ∧ x2 = nI p ∧ p < nPe cu ∧ 1 ≤ n ∧ n ≤ 12 ∧ nHi cu * n ≤ 12 := by
  rw [ftOk, Bool.and_eq_true, Bool.and_eq_true] at h
  obtain ⟨n, e, a, b, c⟩ := ahS_nI hk h.2.2
  have v := inR_vp h.1
  have := (cOk_n hk).2.1
  exact ⟨n, ix x2, e, vof v (by show nPe cu < _; omega), zix v, a, b, c⟩
theorem lk_start (hw : wI M S) (hc : cI S μ) {τ : zB} (he : eqB τ (getB μ 0)) : fm lkK μ (putB μ 31 τ) ∧ cR S.cu (putB μ 31 τ) 0 ∧ bR S.cu (getB (putB μ 31 τ) 31) S.b :=
  ⟨fm_B (fm.rf _) (fun κ q => by unfold lkK; rw [q, decide_eq_true (by omega)]; rfl) _, cR_pB hc.2.1.1, bR_eqB hw.2.1.1 (bR_eqB hw.2.1.1 hc.2.2.1 he) (getB_putB _ _ _)⟩
set_option maxHeartbeats 1000000 in
theorem pr_fits (h : Rel M μ) (hM : M + 59400 ≤ 999999) : zCT l G 18 yX10_fits cX10_fits 4 (some .int) [.ref (G.ad 10 0), .int x1, .int x2, .int x3] μ (zI fun r μ1 => zCT l G 5 yX11_fits cX11_fits 4 (some .int) [.ref (G.ad 11 0), .int x1, .int x2, .int x3] μ1 (zI fun r2 μ2 => r2 = r ∧ Rel M μ2)) := by
  refine pr_I (R := fun _ => True) h (fun S hc hr0 hw => ?_)
  have hk := hw.2.1.1
  have ref : ∀ μ1, rI S μ1 → _ := fun μ1 hr1 => cr_fits (lc := l) (G := G) (μ := μ1) (x1 := x1) (x2 := x2) (x3 := x3) (M := M) (by rw [hr1.2.1.1]; exact hk) (by rw [hr1.2.2.1]; exact hw.2.2.1.2) (by omega)
  cases c : ftOk S.cu x1 x2 x3 with
  | false =>
    refine ⟨-1, S, hw, ?_, fun μ1 hr1 => ?_⟩
    · refine zCT_of (by decide) (Nat.le_of_ble_eq_true rfl) rfl (fun X hl hG hX hr => ?_)
      subst hG
      refine st_X10_fits_0 hX hr ⟨1, _, by omega, cc_fit hc.2.1.1, ?_⟩
      rintro r ν ⟨rfl, rfl⟩
      rw [c]
      exact ⟨fun z => absurd (by decide) z, fun _ => ⟨_, rfl, rfl, fm.rf _, hc⟩⟩
    · refine zCT_post (ref μ1 hr1) ?_
      rintro rv μ2 ⟨r, rfl, ⟨-, rfl, rfl⟩ | ⟨g1, -⟩⟩
      · exact ⟨_, rfl, rfl, fm_thr, rI_thr hr1⟩
      · rw [hr1.2.1.1, c] at g1; cases g1
  | true =>
    obtain ⟨n, p, rfl, rfl, hp, n1, n12, hh⟩ := ft_nI hk c
    have en : ix (nI n) = n := ixn (by omega)
    have n6 := (cOk_n hk).2.1
    have ep : ix (nI p) = p := ixn (by omega)
    refine ⟨nI (cnF (isF S.cu S.b n p x3) (2 ^ (nHi S.cu * n))), S, hw, ?_, fun μ1 hr1 => ?_⟩
    · refine zCT_of (by decide) (Nat.le_of_ble_eq_true rfl) rfl (fun X hl hG hX hr => ?_)
      subst hG
      refine st_X10_fits_0 hX hr ⟨1, _, by omega, cc_fit hc.2.1.1, ?_⟩
      rintro r ν ⟨rfl, rfl⟩
      rw [c]
      refine ⟨fun _ => ⟨2, _, by omega, ch_start, ?_⟩, fun z => absurd z (by decide)⟩
      rintro ν1 ⟨τ, he, rfl⟩
      obtain ⟨f1, cr1, b1⟩ := lk_start hw hc he
      refine ⟨n + 5, _, by omega, ch_find hk hw.2.2.1.2 hw.2.2.1.1 (by omega) n12 hh hp cr1 b1, ?_⟩
      rintro r ν2 ⟨f2, rfl, -⟩
      obtain ⟨k1, k2⟩ := cI_lk hw hc (f1.trans (f2.mono (fun κ o q => ah_lk q)))
      exact ⟨_, rfl, rfl, k1, k2⟩
    · refine zCT_post (ref μ1 hr1) ?_
      rintro rv μ2 ⟨r, rfl, ⟨g1, -⟩ | ⟨-, rfl, s', m', g3, rfl⟩⟩
      · rw [hr1.2.1.1, c] at g1; cases g1
      · rw [hr1.2.2.1] at g3
        obtain ⟨k1, k2⟩ := rI_lk (W := 2 ^ (nHi (cuZ μ1) * ix (nI n))) (m' := m') hr1 g3
        exact ⟨_, rfl, by rw [hr1.2.1.1, hr1.2.2.1, en, ep], k1, k2⟩
theorem cnF_cut0 {f : Nat → Bool} {W : Nat} : ∀ k, cnF (fun i => decide (i < W) && f i) (W + k) = cnF f W
  | 0 => cnF_congr (fun i hi => by rw [decide_eq_true (by omega), Bool.true_and])
  | k + 1 => by
    show cnF (fun i => decide (i < W) && f i) (W + k) + (if (decide (W + k < W) && f (W + k)) = true then 1 else 0) = _
    rw [decide_eq_false (by omega), Bool.false_and, cnF_cut0 k, if_neg (by decide), Nat.add_zero]
theorem cnF_cut {f : Nat → Bool} {W : Nat} (h : W ≤ 4096) : cnF (fun i => decide (i < W) && f i) 4096 = cnF f W := by
  have := cnF_cut0 (f := f) (W := W) (4096 - W)
  rw [show W + (4096 - W) = 4096 by omega] at this
  exact this
set_option maxHeartbeats 1000000 in
theorem pr_fit (h : Rel M μ) (hM : M + 59400 ≤ 999999) : zCT l G 18 yX10_fit cX10_fit 6 (some .int) [.ref (G.ad 10 0), .int x1, .int x2, .int x3, .int x4] μ (zI fun r μ1 => zCT l G 5 yX11_fit cX11_fit 5 (some .int) [.ref (G.ad 11 0), .int x1, .int x2, .int x3, .int x4] μ1 (zI fun r2 μ2 => r2 = r ∧ Rel M μ2)) := by
  refine pr_I (R := fun _ => True) h (fun S hc hr0 hw => ?_)
  have hk := hw.2.1.1
  have ref : ∀ μ1, rI S μ1 → _ := fun μ1 hr1 => cr_fit (lc := l) (G := G) (μ := μ1) (x1 := x1) (x2 := x2) (x3 := x3) (x4 := x4) (M := M) (by rw [hr1.2.1.1]; exact hk) (by rw [hr1.2.2.1]; exact hw.2.2.1.2) (by omega)
  by_cases c4 : x4 < 0
  · refine ⟨-1, S, hw, ?_, fun μ1 hr1 => ?_⟩
    · refine zCT_of (by decide) (Nat.le_of_ble_eq_true rfl) rfl (fun X hl hG hX hr => ?_)
      subst hG
      exact st_X10_fit_0 hX hr ⟨fun _ => ⟨_, rfl, rfl, fm.rf _, hc⟩, fun z => absurd c4 z⟩
    · refine zCT_post (ref μ1 hr1) ?_
      rintro rv μ2 ⟨r, rfl, ⟨-, rfl, rfl⟩ | ⟨g1, -⟩⟩
      · exact ⟨_, rfl, rfl, fm_thr, rI_thr hr1⟩
      · exact absurd c4 g1
  cases c : ftOk S.cu x1 x2 x3 with
  | false =>
    refine ⟨-1, S, hw, ?_, fun μ1 hr1 => ?_⟩
    · refine zCT_of (by decide) (Nat.le_of_ble_eq_true rfl) rfl (fun X hl hG hX hr => ?_)
      subst hG
      refine st_X10_fit_0 hX hr ⟨fun z => absurd z c4, fun _ => ⟨1, _, by omega, cc_fit hc.2.1.1, ?_⟩⟩
      rintro r ν ⟨rfl, rfl⟩
      rw [c]
      exact ⟨fun z => absurd (by decide) z, fun _ => ⟨_, rfl, rfl, fm.rf _, hc⟩⟩
    · refine zCT_post (ref μ1 hr1) ?_
      rintro rv μ2 ⟨r, rfl, ⟨-, rfl, rfl⟩ | ⟨-, g1, -⟩⟩
      · exact ⟨_, rfl, rfl, fm_thr, rI_thr hr1⟩
      · rw [hr1.2.1.1, c] at g1; cases g1
  | true =>
    obtain ⟨n, p, rfl, rfl, hp, n1, n12, hh⟩ := ft_nI hk c
    have en : ix (nI n) = n := ixn (by omega)
    have n6 := (cOk_n hk).2.1
    have ep : ix (nI p) = p := ixn (by omega)
    have w12 := (pow2 hh).1
    obtain ⟨k, rfl, hk31⟩ : ∃ k, x4 = nI k ∧ k < 2 ^ 31 := by
      have := x4.toInt_lt
      rw [Int32.lt_iff_toInt_lt, show (0 : Int32).toInt = 0 from rfl] at c4
      refine ⟨x4.toInt.toNat, ?_, by omega⟩
      refine Int32.toInt_inj.mp ?_
      rw [nI_toInt (by omega)]
      omega
    obtain ⟨W, eW⟩ : ∃ W, W = 2 ^ (nHi S.cu * n) := ⟨_, rfl⟩
    rw [← eW] at w12
    refine ⟨fnF (isF S.cu S.b n p x3) (nI k) W, S, hw, ?_, fun μ1 hr1 => ?_⟩
    · refine zCT_of (by decide) (Nat.le_of_ble_eq_true rfl) rfl (fun X hl hG hX hr => ?_)
      subst hG
      refine st_X10_fit_0 hX hr ⟨fun z => absurd z c4, fun _ => ⟨1, _, by omega, cc_fit hc.2.1.1, ?_⟩⟩
      rintro r ν ⟨rfl, rfl⟩
      rw [c]
      refine ⟨fun _ => ⟨2, _, by omega, ch_start, ?_⟩, fun z => absurd z (by decide)⟩
      rintro ν1 ⟨τ, he, rfl⟩
      obtain ⟨f1, cr1, b1⟩ := lk_start hw hc he
      refine ⟨n + 5, _, by omega, ch_find hk hw.2.2.1.2 hw.2.2.1.1 (by omega) n12 hh hp cr1 b1, ?_⟩
      rintro r ν2 ⟨f2, rfl, hF⟩
      rw [← eW] at hF ⊢
      obtain ⟨k1, k2⟩ := cI_lk hw hc (f1.trans (f2.mono (fun κ o q => ah_lk q)))
      have le := cnF_le (isF S.cu S.b n p x3) W
      refine ⟨fun z => ⟨_, rfl, ?_, k1, k2⟩, fun z => ?_⟩
      · have hle : cnF (isF S.cu S.b n p x3) W ≤ k := by
          rw [Int32.le_iff_toInt_le, nI_toInt (by omega), nI_toInt hk31] at z
          omega
        refine (fnF_none hk31 (by omega) (fun q hq hf e => ?_)).symm
        have := cnF_at hq hf
        omega
      · have hlt : k < cnF (isF S.cu S.b n p x3) W := by
          rw [Int32.le_iff_toInt_le, nI_toInt (by omega), nI_toInt hk31] at z
          omega
        have hcut : cnF (fun i => decide (i < W) && isF S.cu S.b n p x3 i) 4096 = cnF (isF S.cu S.b n p x3) W := cnF_cut w12
        refine ⟨0, _, by omega, ch_at hF (by rw [hcut]; exact hlt), ?_⟩
        rintro r ν3 ⟨rfl, q, hq, hφ, hcq, rfl⟩
        rw [Bool.and_eq_true, decide_eq_true_eq] at hφ
        refine ⟨_, rfl, (fnF_some hk31 (by omega) hφ.1 hφ.2 ?_).symm, k1, k2⟩
        rw [← hcq]
        exact (cnF_congr (fun i hi => by rw [decide_eq_true (by omega), Bool.true_and])).symm
    · refine zCT_post (ref μ1 hr1) ?_
      rintro rv μ2 ⟨r, rfl, ⟨g1, -⟩ | ⟨-, -, rfl, s', m', g3, rfl⟩⟩
      · rcases g1 with g | g
        · exact absurd g c4
        · rw [hr1.2.1.1, c] at g; cases g
      · rw [hr1.2.2.1] at g3
        obtain ⟨k1, k2⟩ := rI_lk (W := 2 ^ (nHi (cuZ μ1) * ix (nI n))) (m' := m') hr1 g3
        exact ⟨_, rfl, by rw [hr1.2.1.1, hr1.2.2.1, en, ep, eW], k1, k2⟩
end LK
