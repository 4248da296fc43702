/-! THE CUSTOM IS TOLD -/
theorem prA_no {κ k : Nat} (h : ¬ ((κ = 11 ∧ (k = 4 ∨ k = 5 ∨ k = 6 ∨ k = 8 ∨ k = 9 ∨ k = 45 ∨ k = 32 ∨ k = 1 ∨ k = 3)) ∨ (36 ≤ κ ∧ κ ≤ 39 ∧ k = 1) ∨ ((κ = 42 ∨ κ = 43) ∧ 4 ≤ k ∧ k < 8) ∨ (κ = 44 ∧ 6 ≤ k ∧ k < 12) ∨ (45 ≤ κ ∧ κ ≤ 52 ∧ 10 ≤ k ∧ k < 20) ∨ (53 ≤ κ ∧ κ ≤ 56 ∧ 8 ≤ k ∧ k < 16) ∨ (κ = 57 ∧ 1000 ≤ k ∧ k < 2000) ∨ κ = 58 ∨ κ = 59)) : prA κ k = false := by
  simp only [prA, prB, prP, Bool.or_eq_false_iff, Bool.and_eq_false_iff, decide_eq_false_iff_not]
  omega
theorem prQ_no {κ k : Nat} (h : κ ≠ 11 ∧ κ ≠ 40 ∧ κ ≠ 41) : prQ κ k = false := by
  simp only [prQ, Bool.or_eq_false_iff, Bool.and_eq_false_iff, decide_eq_false_iff_not]
  omega
section CS
variable {l : Launch} {G : zG} {S : zSt} {μ ν : zM} {M : Int}
theorem pa_row (h : frm prA prQ μ ν) {κ : Nat} (hk : κ = 35 ∨ 60 ≤ κ) : ν.1 κ 0 = μ.1 κ 0 := by
  funext k
  exact h.1 κ 0 k (prA_no (by omega))
theorem pa_fm (h : frm prA prQ μ ν) : fm rfK μ ν := by
  intro κ o q
  have q := of_decide_eq_false q
  exact ⟨by funext k; exact h.1 κ o k (prA_no (by omega)), by funext k; exact h.2 κ o k (prQ_no (by omega))⟩
theorem pa_cu (h : frm prA prQ μ ν) {q : Nat} (hq : q ≠ 1) : cuB ν q = cuB μ q := by
  funext j k
  unfold cuB
  split
  · rw [h.1 36 0 q (prA_no (by omega)), h.1 37 0 q (prA_no (by omega)), h.1 38 0 q (prA_no (by omega)), h.1 39 0 q (prA_no (by omega))]
  all_goals first
    | rfl
    | (split <;> first | rfl | exact h.1 _ 0 _ (prA_no (by omega)))
theorem pa_bw (h : frm prA prQ μ ν) {q nb : Nat} {vw : zV3} (hq : q ≠ 1) (hn : nb ≤ 8) (hb : BWq μ q nb vw) : BWq ν q nb vw := by
  obtain ⟨vals, h1, h2⟩ := hb
  refine ⟨vals, fun i hi => ?_, h2⟩
  obtain ⟨L, a, g1, g2, g3, g4, g5, g6⟩ := h1 i hi
  exact ⟨L, a, g1, g2, by rw [h.1 55 0 _ (prA_no (by omega))]; exact g3, by rw [h.1 56 0 _ (prA_no (by omega))]; exact g4, fun j hj => by rw [h.1 57 0 _ (prA_no (by omega))]; exact g5 j hj, g6⟩
theorem pa_mk (h : frm prA prQ μ ν) {i : Nat} {q : Option (zB × zV3 × zB)} (hw : wMk M q) (hm : rMk μ i q) : rMk ν i q := by
  cases q with
  | none => show ν.1 74 0 i = 0; rw [pa_row h (by omega)]; exact hm
  | some q =>
    obtain ⟨g1, g2, g3, g4⟩ := hm
    exact ⟨by rw [pa_row h (by omega)]; exact g1, by rw [pa_cu h (by omega)]; exact g2, pa_bw h (by omega) (cOk_8 hw.1.1) g3, by rw [pa_row h (by omega)]; exact g4⟩
theorem Q_of_tr {a b : zB} (h : ctr b = ctr a) : cuQ a b := by
  have q := cuQ_tr b
  rw [h] at q
  exact cuQ_trans (cuQ_tr a) (cuQ_symm q)
abbrev zSt.tp (S : zSt) (n : Nat) : zSt := ((S.T, n), S.2)
theorem rc_bad (hw : wI M S) (hr : rI S μ) (h : frm prA prQ μ ν) (h1 : ν.1 11 0 1 = 0) : ∃ b, cuQ S.cu b ∧ rI ((S.tp 0).cs b) ν := by
  obtain ⟨⟨r1, r2⟩, ⟨r3, r4⟩, r5, ⟨r6, r7⟩, r8⟩ := hr
  have hQ : cuQ S.cu (cuZ ν) := Q_of_tr (by rw [← cuB_0, pa_cu h (by omega), cuB_0, r3])
  have n8 := cOk_8 hw.2.1.1
  refine ⟨cuZ ν, hQ, ⟨by rw [pa_row h (by omega)]; exact r1, h1⟩, ⟨rfl, ?_⟩, by rw [pa_row h (by omega)]; exact r5, ⟨by rw [h.1 11 0 50 (prA_no (by omega))]; exact r6, fun j hj => by rw [pa_row h (by omega)]; exact r7 j hj⟩, fun i hi => pa_mk h (hw.2.2.2.2 i hi) (r8 i hi)⟩
  show BWq ν 0 (nBe (cuZ ν)) S.vw
  rw [(cuQ_n hQ).2.2.2]
  exact pa_bw h (by omega) n8 r4
/-- what was told -/
abbrev zSt.cn (S : zSt) (cu : zB) (vw : zV3) : zSt := ((S.T, 0), (cu, vw), opn cu, (0, S.P), S.mk)
theorem cus_fm (ν : zM) : fm rfK ν (cusM ν) := by
  unfold cusM layM ly57 ly54 ly53 ly52 ly51 ly50 ly49 ly48 ly47 ly46 ly45 ly44 ly43 ly42 ly39 ly38 ly37 ly36
  exact fm_R (fm_I (fm_R (fm_R (fm_R (fm_R (fm_R (fm_R (fm_R (fm_R (fm_R (fm_R (fm_R (fm_R (fm_R (fm_R (fm_R (fm_R (fm_R (fm_R (fm_R (fm_R (fm.rf _) rfl _) rfl _) rfl _) rfl _) rfl _) rfl _) rfl _) rfl _) rfl _) rfl _) rfl _) rfl _) rfl _) rfl _) rfl _) rfl _) rfl _) rfl _) rfl _) rfl _) rfl _ _) rfl _
theorem cus_far (ν : zM) {κ : Nat} (h : κ < 36 ∨ 57 < κ) (h1 : κ ≠ 11) (h2 : κ ≠ 70) : (cusM ν).1 κ 0 = ν.1 κ 0 := by rw [cus_row ν h2 h1, layM_far ν 1 0 h]
theorem cus_11 (ν : zM) : (cusM ν).1 11 0 50 = 0 ∧ (cusM ν).1 11 0 1 = ν.1 11 0 1 := by
  constructor
  · rw [cusM, pR_row2 _ _ _ _ (by decide), pI_at]
  · rw [cusM, pR_row2 _ _ _ _ (by decide), pI_place _ _ _ _ (by decide), layM_far _ _ _ (by omega)]
theorem cus_cu (ν : zM) (q : Nat) : cuB (cusM ν) q = cuB (layM ν 1 0) q := cuB_ext (fun κ a b => cus_row ν (by omega) (by omega))
theorem cus_bw {ν : zM} {q nb : Nat} {vw : zV3} (h : BWq (layM ν 1 0) q nb vw) : BWq (cusM ν) q nb vw := BWq_ext (cus_row ν (by decide) (by decide)) (cus_row ν (by decide) (by decide)) (cus_row ν (by decide) (by decide)) h
theorem cus_opn {ν : zM} {cu : zB} (hk : cnt cu) (e : cuB ν 1 = cu) : bOf ((cusM ν).1 70 0) = opn cu := by
  have er : (cusM ν).1 70 0 = cuS3 (ν.1 70 0) ((layM ν 1 0).1 44 0) ((layM ν 1 0).1 47 0) (nPe cu) (nLo cu) := by
    rw [cusM, pR_row, lay_37, lay_38, ← e]; rfl
  have p6 := zix hk.2.1
  have l10 := zix hk.2.2.1
  have hp6 : nPe cu < 7 := p6
  have hl10 : nLo cu < 11 := l10
  have e3 : ∀ k, k < 6 → (layM ν 1 0).1 44 0 k = cu 3 k := fun k hk => by
    rw [lyR_44, show k = 6 * 0 + k by omega, lay_in hk, ← e]
    show _ = if 6 * 0 + k < 6 then ν.1 44 0 (6 * 1 + (6 * 0 + k)) else 0
    rw [if_pos (by omega)]
    exact congrArg (ν.1 44 0) (by omega)
  have e6 : ∀ k, k < 10 → (layM ν 1 0).1 47 0 k = cu 6 k := fun k hk => by
    rw [lyR_47, show k = 10 * 0 + k by omega, lay_in hk, ← e]
    show _ = if 10 * 0 + k < 10 then ν.1 47 0 (10 * 1 + (10 * 0 + k)) else 0
    rw [if_pos (by omega)]
    exact congrArg (ν.1 47 0) (by omega)
  have z : ∀ k, k < 64 → 16 ≤ k → cuS3 (ν.1 70 0) ((layM ν 1 0).1 44 0) ((layM ν 1 0).1 47 0) (nPe cu) (nLo cu) k = 0 := fun k h1 h2 => by
    unfold cuS3 cuS2 cuS1
    rw [if_neg (by omega), if_neg (by omega), if_pos h1]
  rw [er]
  funext j k
  unfold bOf opn
  split
  · rw [z 57 (by omega) (by omega), z 58 (by omega) (by omega), z 56 (by omega) (by omega)]
    simp
  · show (if k < 6 then cuS3 _ _ _ _ _ k else 0) = if k < nPe cu then cu 3 k else 0
    by_cases h : k < 6
    · rw [if_pos h]
      unfold cuS3 cuS2 cuS1
      rw [if_neg (by omega)]
      by_cases h2 : k < nPe cu
      · rw [if_pos h2, if_pos h2, e3 k h]
      · rw [if_neg h2, if_neg h2, if_pos (by omega)]
    · rw [if_neg h, if_neg (by omega)]
  · show (if k < 10 then cuS3 _ _ _ _ _ (6 + k) else 0) = if k < nLo cu then cu 6 k else 0
    by_cases h : k < 10
    · rw [if_pos h]
      unfold cuS3 cuS2 cuS1
      by_cases h2 : k < nLo cu
      · rw [if_pos (by omega), if_pos h2, show 6 + k - 6 = k by omega, e6 k h]
      · rw [if_neg (by omega), if_neg h2, if_neg (by omega), if_pos (by omega)]
    · rw [if_neg h, if_neg (by omega)]
  · show (if k < 10 then cuS3 _ _ _ _ _ (16 + k) else 0) = 0
    split
    · exact z _ (by omega) (by omega)
    · rfl
  · show (if k < 10 then cuS3 _ _ _ _ _ (26 + k) else 0) = 0
    split
    · exact z _ (by omega) (by omega)
    · rfl
  · show (if k < 10 then cuS3 _ _ _ _ _ (36 + k) else 0) = 0
    split
    · exact z _ (by omega) (by omega)
    · rfl
  · show (if k < 10 then cuS3 _ _ _ _ _ (46 + k) else 0) = 0
    split
    · exact z _ (by omega) (by omega)
    · rfl
  · rename_i h0 h1 h2 h3 h4 h5 h6
    split
    · rename_i q; exact absurd rfl h1
    · rename_i q; exact absurd rfl h2
    · rfl
theorem TI_bw {T : Nat → Int32} {n b : Nat} {cu : zB} {hn pn : Nat → Int64} {bl : Nat → List Int32} {vals : Nat → (Nat → Int32) → Int32} {vw : zV3} (h : TI ν T n b cu hn pn bl) (hv : ∀ i, i < nBe cu → evOk (bl i) (vals i)) (hw : ∀ i, i < nBe cu → ∀ V wet, vals i (vaS V wet 4) = vw i wet) : BWq ν 1 (nBe cu) vw ∧ cuB ν 1 = cu ∧ cnt cu := by
  obtain ⟨c, cd, ln, ⟨op, cm, hP, e57, -, -, hl⟩, h1, h2, hc, hB⟩ := h
  have hb : b ≤ n := hP.1.1.2.1
  have hn1 : n ≤ 1000 := hP.1.1.1
  refine ⟨⟨vals, fun i hi => ?_, hw⟩, hP.1.2.1, hc⟩
  obtain ⟨a, g1, g2, g3, g4, g5⟩ := hB i hi
  exact ⟨bl i, a, by omega, by omega, by rw [(hl _).1]; exact g3, by rw [(hl _).2]; exact g4, fun j hj => by rw [e57]; exact g5 j hj, hv i hi⟩
theorem rc_ok (hw : wI M S) (hr : rI S μ) (h : frm prA prQ μ ν) (h1 : ν.1 11 0 1 = 0) {cu : zB} {vw : zV3} (hb : BWq ν 1 (nBe cu) vw) (e : cuB ν 1 = cu) (hk : cOk cu) : ∃ b, cuQ cu b ∧ rI ((S.cn cu vw).cs b) (cusM ν) := by
  obtain ⟨⟨r1, r2⟩, -, -, -, r8⟩ := hr
  have hQ : cuQ cu (cuZ (cusM ν)) := by
    have q := cuQ_tr (cuZ (cusM ν))
    rw [← cuB_0, cus_cu, cuB_lay, e] at q
    exact cuQ_symm q
  have n8 := cOk_8 hk
  refine ⟨cuZ (cusM ν), hQ, ⟨?_, ?_⟩, ⟨rfl, ?_⟩, ?_, ⟨?_, fun j hj => absurd hj (Nat.not_lt_zero j)⟩, fun i hi => ?_⟩
  · rw [cus_far ν (by omega) (by omega) (by omega), pa_row h (by omega)]; exact r1
  · rw [(cus_11 ν).2]; exact h1
  · show BWq (cusM ν) 0 (nBe (cuZ (cusM ν))) vw
    rw [(cuQ_n hQ).2.2.2]
    exact cus_bw (BWq_lay n8 hb)
  · exact cus_opn ⟨hk.1, hk.2.1, hk.2.2.1, hk.2.2.2.1⟩ e
  · exact (cus_11 ν).1
  · show rMk (cusM ν) i (S.mk i)
    have this := pa_mk h (hw.2.2.2.2 i hi) (r8 i hi)
    have hw2 := hw.2.2.2.2 i hi
    generalize S.mk i = q at this hw2
    cases q with
    | none => show (cusM ν).1 74 0 i = 0; rw [cus_far ν (by omega) (by omega) (by omega)]; exact this
    | some q =>
      obtain ⟨g1, g2, g3, g4⟩ := this
      exact ⟨by rw [cus_far ν (by omega) (by omega) (by omega)]; exact g1, by rw [cus_cu, cuB_far _ _ (by omega)]; exact g2, cus_bw (BWq_far (cOk_8 hw2.1.1) (by omega) g3), by rw [cus_far ν (by omega) (by omega) (by omega)]; exact g4⟩
/-! the class -/
theorem toK_no {κ o : Nat} (h : ¬ (κ = 5 ∨ κ = 6 ∨ κ = 28 ∨ κ = 29 ∨ κ = 30 ∨ κ = 31 ∨ κ = 32 ∨ κ = 33)) (h2 : cuK 1 κ o = false) : toK κ o = false := by
  unfold toK
  rw [decide_eq_false h, h2]
  rfl
theorem toK_cl {κ o : Nat} (h : clK κ o = false) : toK κ o = false := by
  have q := of_decide_eq_false h
  exact toK_no (by omega) (cuK_cl h)
theorem to_b {κ o : Nat} (h : bKind κ = true) : toK κ o = false := by
  have a := bK_cu h 1 o
  simp only [bKind, Bool.or_eq_true, beq_iff_eq] at h
  exact toK_no (by omega) a
/-- what reading leaves -/
theorem cc_read (hw : wI M S) (hc : cI S μ) (f : fm toK μ ν) : fm clK μ (pI ν 5 0 0 0) ∧ cI (S.tp 0) (pI ν 5 0 0 0) := by
  obtain ⟨h1, ⟨h3, h4⟩, h5, ⟨p, h6, h7, h8, h9⟩, h10⟩ := hc
  have r : ∀ κ o, toK κ o = false → κ ≠ 5 → (pI ν 5 0 0 0).1 κ o = μ.1 κ o := fun κ o a b => by rw [pI_row2 _ _ _ _ _ b, (f κ o a).1]
  have gb : ∀ o, getB (pI ν 5 0 0 0) o = getB μ o := fun o => getB_ext (fun κ q => r κ o (to_b q) (by rintro rfl; cases q))
  refine ⟨fun κ o q => ⟨r κ o (toK_cl q) (by have := of_decide_eq_false q; omega), (f κ o (toK_cl q)).2⟩, ⟨?_, pI_at _ _ _ _ _⟩, ⟨?_, ?_⟩, by rw [gb]; exact h5, ⟨p, h6, ?_, ?_, fun j hj => by rw [gb]; exact h9 j hj⟩, fun i hi => ?_⟩
  · rw [r 27 0 (toK_no (by omega) (cuK_nk (by omega) (by omega))) (by omega)]; exact h1.1
  · exact cR_rows hw.2.1.1 (fun κ q => r κ 0 (toK_no (by omega) (cuK_no (fun _ => by omega) (fun _ => by omega))) (by omega)) (fun l hl => r 7 _ (toK_no (by omega) (cuK_no (fun _ => by omega) (fun _ => by omega))) (by omega)) h3
  · rw [r 25 0 (toK_no (by omega) (cuK_no (fun _ => by omega) (fun _ => by omega))) (by omega)]; exact h4
  · rw [r 4 0 (toK_no (by omega) (cuK_nk (by omega) (by omega))) (by omega)]; exact h7
  · rw [r 4 0 (toK_no (by omega) (cuK_nk (by omega) (by omega))) (by omega)]; exact h8
  · exact cMk_rows (hw.2.2.2.2 i hi) (r 3 i (toK_no (by omega) (cuK_nk (by omega) (by omega))) (by omega)) (fun κ q => r κ _ (toK_no (by omega) (cuK_no (fun _ => by omega) (fun _ => by omega))) (by omega)) (fun l hl => r 7 _ (toK_no (by omega) (cuK_no (fun _ => by omega) (fun _ => by omega))) (by omega)) (fun κ q => r κ _ (to_b q) (by rintro rfl; cases q)) (h10 i hi)
/-- what was told, opened -/
theorem cc_open (hw : wI M S) (hc : cI (S.tp 0) ν) {ρ : zM} {τ : zB} {cu : zB} {vw : zV3} (hk : cOk cu) (f : fm (cuK 0) ν ρ) (e : cuE ν ρ 1 0) (h1 : cR cu ν 1) (h2 : wn (ν.1 25 1) (nBe cu) vw) (hτ : bR cu τ (opn cu)) : fm clK ν (pI (putB ρ 0 τ) 4 0 0 0) ∧ cI (S.cn cu vw) (pI (putB ρ 0 τ) 4 0 0 0) := by
  obtain ⟨h1', -, -, ⟨p, h6, h7, h8, h9⟩, h10⟩ := hc
  have n8 := cOk_8 hk
  have r : ∀ κ o, cuK 0 κ o = false → κ ≠ 4 → (bKind κ = false ∨ o ≠ 0) → (pI (putB ρ 0 τ) 4 0 0 0).1 κ o = ν.1 κ o := fun κ o a b c => by rw [pI_row2 _ _ _ _ _ b, pBr c, (f κ o a).1]
  have gpI : ∀ o, getB (pI (putB ρ 0 τ) 4 0 0 0) o = getB (putB ρ 0 τ) o := fun o => getB_ext (fun κ q => pI_row2 _ _ _ _ _ (bK_3 q).2)
  refine ⟨fun κ o q => ?_, ⟨?_, ?_⟩, ⟨?_, ?_⟩, ?_, ⟨p, h6, ?_, ?_, fun j hj => absurd hj (Nat.not_lt_zero j)⟩, fun i hi => ?_⟩
  · have q' := of_decide_eq_false q
    have a : bKind κ = false := by
      cases hb : bKind κ with
      | false => rfl
      | true => rw [b_kind hb] at q; cases q
    exact ⟨r κ o (cuK_cl q) (by omega) (Or.inl a), (f κ o (cuK_cl q)).2⟩
  · rw [r 27 0 (cuK_nk (by omega) (by omega)) (by omega) (Or.inl rfl)]; exact h1'.1
  · rw [r 5 0 (cuK_nk (by omega) (by omega)) (by omega) (Or.inl rfl)]; exact h1'.2
  · exact cR_rows hk (fun κ q => pI_row2 _ _ _ _ _ (by omega)) (fun l hl => pI_row2 _ _ _ _ _ (by omega)) (cR_pB (cR_cuE hk h1 e))
  · intro i2 hi2 w hw2
    have hi3 : i2 < nBe cu := hi2
    show bt ((pI (putB ρ 0 τ) 4 0 0 0).1 25 0 i2) w = decide (¬ vw i2 (nI w) = 0)
    rw [pI_row2 _ _ _ _ _ (by decide), pBr (Or.inl rfl), e.2.2.2.2.2.2.2 i2 (by omega)]
    exact h2 i2 hi3 w hw2
  · rw [gpI]; exact bR_eqB hk hτ (getB_putB _ _ _)
  · exact pI_at _ _ _ _ _
  · rw [pI_place _ _ _ _ (by decide), pBr (Or.inl rfl), (f 4 0 (cuK_nk (by omega) (by omega))).1]; exact h8
  · exact cMk_rows (hw.2.2.2.2 i hi) (r 3 i (cuK_nk (by omega) (by omega)) (by omega) (Or.inl rfl)) (fun κ q => r κ _ (cuK_no (fun _ => by omega) (fun _ => by omega)) (by omega) (Or.inr (by omega))) (fun l hl => r 7 _ (cuK_no (fun _ => by omega) (fun _ => by omega)) (by omega) (Or.inl rfl)) (fun κ q => r κ _ (bK_cu q _ _) (bK_3 q).2 (Or.inr (by omega))) (h10 i hi)
theorem vp_bd {x : Int32} {n : Nat} (h : vp_in x n) (hn : n < 2 ^ 31) : 0 ≤ x.toInt ∧ x.toInt < n := by
  obtain ⟨j, hj, rfl⟩ := vp_in_of h hn
  rw [nI_toInt (by omega)]
  omega
theorem opn_w {cu : zB} (h : tZ cu) : wB2 cu (opn cu) 10000 := by
  obtain ⟨hc, z1, z2, z3⟩ := h
  have b1 : ∀ p, 0 ≤ (opn cu 1 p).toInt ∧ (opn cu 1 p).toInt ≤ 9999 := fun p => by
    show 0 ≤ (if p < nPe cu then cu 3 p else 0).toInt ∧ (if p < nPe cu then cu 3 p else 0).toInt ≤ 9999
    split
    · rename_i q
      have := vp_bd (z2 p q) (by omega)
      omega
    · decide
  have b2 : ∀ p, 0 ≤ (opn cu 2 p).toInt ∧ (opn cu 2 p).toInt ≤ 999 := fun p => by
    show 0 ≤ (if p < nLo cu then cu 6 p else 0).toInt ∧ (if p < nLo cu then cu 6 p else 0).toInt ≤ 999
    split
    · rename_i q
      have := vp_bd (z3 p q).2.2.2.1 (by omega)
      omega
    · decide
  refine ⟨fun l hl => ⟨Or.inl rfl, fun _ => ?_⟩, fun p _ => (b1 p).1, ?_, fun p _ => (b2 p).1, ?_⟩
  · obtain ⟨k, e, k1, k2⟩ := wthn_nI (a := 1) (b := 9) (z3 l hl).2.2.2.2.2.1 (by omega) (by omega)
    rw [e]
    show ¬ nI k ≤ 0
    rw [Int32.le_iff_toInt_le, nI_toInt (by omega), show (0 : Int32).toInt = 0 from rfl]
    omega
  · have := b1 0; have := b1 1; have := b1 2; have := b1 3; have := b1 4; have := b1 5
    simp only [sP, sumI]
    omega
  · have := b2 0; have := b2 1; have := b2 2; have := b2 3; have := b2 4; have := b2 5; have := b2 6; have := b2 7; have := b2 8; have := b2 9
    simp only [sO, sumI]
    omega
end CS
