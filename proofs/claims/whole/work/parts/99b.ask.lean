/-! WHAT IS ASKED: hill, loan, count, ruined -/
theorem wth2 {w : Int32} (h : wthn w 0 2 = true) : w = 0 ∨ w = 1 ∨ w = 2 := by
  obtain ⟨n, rfl, -, h2⟩ := wthn_nI (a := 0) (b := 2) h (by omega) (by omega)
  have : n = 0 ∨ n = 1 ∨ n = 2 := by omega
  rcases this with rfl | rfl | rfl <;> decide
theorem wth7 {w : Int32} (h : wthn w 0 7 = true) : w = 0 ∨ w = 1 ∨ w = 2 ∨ w = 3 ∨ w = 4 ∨ w = 5 ∨ w = 6 ∨ w = 7 := by
  obtain ⟨n, rfl, -, h2⟩ := wthn_nI (a := 0) (b := 7) h (by omega) (by omega)
  have : n = 0 ∨ n = 1 ∨ n = 2 ∨ n = 3 ∨ n = 4 ∨ n = 5 ∨ n = 6 ∨ n = 7 := by omega
  rcases this with rfl | rfl | rfl | rfl | rfl | rfl | rfl | rfl <;> decide
section AS
variable {l : Launch} {G : zG} {μ : zM} {M : Int} {x w : Int32}
theorem pr_hill (h : Rel M μ) : zCT l G 1 yX10_hill cX10_hill 3 (some .int) [.ref (G.ad 10 0), .int x, .int w] μ (zI fun r μ1 => zCT l G 1 yX11_hill cX11_hill 3 (some .int) [.ref (G.ad 11 0), .int x, .int w] μ1 (zI fun r2 μ2 => r2 = r ∧ Rel M μ2)) := by
  refine pr_I (R := fun _ => True) h (fun S hc hr0 hw => ⟨hillS S.cu S.b x w, S, hw, ?_, fun μ1 hr1 => ?_⟩)
  · refine zCT_of (by decide) (Nat.le_of_ble_eq_true rfl) rfl (fun X hl hG hX hr => ?_)
    subst hG
    have hk := hw.2.1.1
    have n4 := (cOk_n hk).2.2
    obtain ⟨-, ⟨cr, -⟩, br, -⟩ := id hc
    have e0 := cr.1.1
    have e2 : μ.1 1 0 2 = S.b 0 2 := br.2.2.2
    have fin : ∀ A, A = hillS S.cu S.b x w → (zI fun r μ1 => r = hillS S.cu S.b x w ∧ fm clK μ μ1 ∧ cI S μ1) (some (.int A)) μ := fun A q => ⟨_, rfl, q, fm.rf μ, hc⟩
    refine st_X10_hill_0 hX hr ⟨0, _, by omega, cc_isHill (by omega), ?_⟩
    rintro r ν ⟨rfl, rfl⟩
    rw [e0]
    refine ⟨fun c => ?_, fun c => fin _ ?_⟩
    · have c := b2i1.mp c
      have hx := inR_vp c
      have hlt : ix x < nHi S.cu := zix hx
      refine ⟨fun q => ⟨vmono hx (by show nHi S.cu ≤ 4; omega), fin _ ?_⟩, fun q0 => ⟨fun q => ⟨vmono hx (by show nHi S.cu ≤ 4; omega), fin _ ?_⟩, fun q1 => ⟨fun q => fin _ ?_, fun q2 => fin _ ?_⟩⟩⟩
      · subst q
        rw [hillS, if_pos ⟨c, by decide⟩, if_pos rfl]
        exact (cr.2.1 _ hlt).1
      · subst q
        rw [hillS, if_pos ⟨c, by decide⟩, if_neg (by decide), if_pos rfl]
        exact (cr.2.1 _ hlt).2
      · subst q
        rw [hillS, if_pos ⟨c, by decide⟩, if_neg (by decide), if_neg (by decide), e2]
      · rw [hillS, if_neg (fun z => by rcases wth2 z.2 with q | q | q; exact q0 q; exact q1 q; exact q2 q)]
    · rw [hillS, if_neg (fun z => by rw [b2i0.mp c] at z; cases z.1)]
  · have := cr_hill (lc := l) (G := G) (μ := μ1) (x := x) (w := w) (by rw [hr1.2.1.1]; exact hw.2.1.1)
    refine zCT_post this ?_
    rintro rv μ2 ⟨r, rfl, rfl, rfl⟩
    exact ⟨_, rfl, by rw [hr1.2.1.1, hr1.2.2.1], fm_thr, rI_thr hr1⟩
set_option maxHeartbeats 1000000 in
theorem pr_loan (h : Rel M μ) : zCT l G 1 yX10_loan cX10_loan 4 (some .int) [.ref (G.ad 10 0), .int x, .int w] μ (zI fun r μ1 => zCT l G 1 yX11_loan cX11_loan 3 (some .int) [.ref (G.ad 11 0), .int x, .int w] μ1 (zI fun r2 μ2 => r2 = r ∧ Rel M μ2)) := by
  refine pr_I (R := fun _ => True) h (fun S hc hr0 hw => ⟨loanS S.cu S.b x w, S, hw, ?_, fun μ1 hr1 => ?_⟩)
  · refine zCT_of (by decide) (Nat.le_of_ble_eq_true rfl) rfl (fun X hl hG hX hr => ?_)
    subst hG
    have hk := hw.2.1.1
    have n10 := (cOk_n hk).1
    obtain ⟨-, ⟨cr, -⟩, br, -⟩ := id hc
    have e0 := cr.1.2.2.1
    have fin : ∀ A, A = loanS S.cu S.b x w → (zI fun r μ1 => r = loanS S.cu S.b x w ∧ fm clK μ μ1 ∧ cI S μ1) (some (.int A)) μ := fun A q => ⟨_, rfl, q, fm.rf μ, hc⟩
    refine st_X10_loan_0 hX hr ⟨0, _, by omega, cc_isLoan (by omega), ?_⟩
    rintro r ν ⟨rfl, rfl⟩
    rw [e0]
    refine ⟨fun c => ?_, fun c => fin _ ?_⟩
    · have c := b2i1.mp c
      have hx := inR_vp c
      have hlt : ix x < nLo S.cu := zix hx
      obtain ⟨t0, t1, t2, t3, t4, t5, t6, t7⟩ := cr.2.2.2.1 _ hlt
      obtain ⟨b2, b3, b4, b5⟩ := br.1.2.2.1 _ hlt
      rw [show 10 * 0 + ix x = ix x by omega] at t0 t1 t6 t7
      rw [show 0 + ix x = ix x by omega]
      refine ⟨vmono hx (by show nLo S.cu ≤ 10; omega), fun q => fin _ ?_, fun q0 => ⟨fun q => fin _ ?_, fun q1 => ⟨fun q => fin _ ?_, fun q2 => ⟨fun q => fin _ ?_, fun q3 => ⟨fun q => fin _ ?_, fun q4 => ⟨fun q => fin _ ?_, fun q5 => ⟨fun q => fin _ ?_, fun q6 => ⟨fun q => fin _ ?_, fun q7 => fin _ ?_⟩⟩⟩⟩⟩⟩⟩⟩
      · subst q; rw [loanS, if_pos ⟨c, by decide⟩, if_neg (by decide), if_pos rfl]; exact t0
      · subst q; rw [loanS, if_pos ⟨c, by decide⟩, if_neg (by decide), if_neg (by decide), if_pos rfl]; exact t1
      · subst q; rw [loanS, if_pos ⟨c, by decide⟩, if_neg (by decide), if_neg (by decide), if_neg (by decide), if_pos rfl]; exact b2
      · subst q; rw [loanS, if_pos ⟨c, by decide⟩, if_neg (by decide), if_neg (by decide), if_neg (by decide), if_neg (by decide)]; exact b3
      · subst q; rw [loanS, if_pos ⟨c, by decide⟩, if_pos (by decide), if_pos rfl]; exact b4
      · subst q; rw [loanS, if_pos ⟨c, by decide⟩, if_pos (by decide), if_neg (by decide), if_pos rfl]; exact t6
      · subst q; rw [loanS, if_pos ⟨c, by decide⟩, if_pos (by decide), if_neg (by decide), if_neg (by decide), if_pos rfl]; exact t7
      · subst q; rw [loanS, if_pos ⟨c, by decide⟩, if_pos (by decide), if_neg (by decide), if_neg (by decide), if_neg (by decide)]; exact b5
      · rw [loanS, if_neg (fun z => by rcases wth7 z.2 with q | q | q | q | q | q | q | q <;> contradiction)]
    · rw [loanS, if_neg (fun z => by rw [b2i0.mp c] at z; cases z.1)]
  · have := cr_loan (lc := l) (G := G) (μ := μ1) (x := x) (w := w) (by rw [hr1.2.1.1]; exact hw.2.1.1)
    refine zCT_post this ?_
    rintro rv μ2 ⟨r, rfl, rfl, rfl⟩
    exact ⟨_, rfl, by rw [hr1.2.1.1, hr1.2.2.1], fm_thr, rI_thr hr1⟩
theorem pr_count (h : Rel M μ) : zCT l G 1 yX10_count cX10_count 2 (some .int) [.ref (G.ad 10 0), .int w] μ (zI fun r μ1 => zCT l G 1 yX11_count cX11_count 2 (some .int) [.ref (G.ad 11 0), .int w] μ1 (zI fun r2 μ2 => r2 = r ∧ Rel M μ2)) := by
  refine pr_I (R := fun _ => True) h (fun S hc hr0 hw => ⟨countS S.cu S.b (nI S.d) (nI S.n) w, S, hw, ?_, fun μ1 hr1 => ?_⟩)
  · refine zCT_of (by decide) (Nat.le_of_ble_eq_true rfl) rfl (fun X hl hG hX hr => ?_)
    subst hG
    obtain ⟨⟨-, e5⟩, ⟨cr, -⟩, br, ⟨p, -, ed, -, -⟩, -⟩ := id hc
    obtain ⟨e0, e1, e2, e3⟩ := cr.1
    have b0 : μ.1 1 0 0 = S.b 0 0 := br.2.1
    have b1 : μ.1 1 0 1 = S.b 0 1 := br.2.2.1
    have fin : ∀ A, A = countS S.cu S.b (nI S.d) (nI S.n) w → (zI fun r μ1 => r = countS S.cu S.b (nI S.d) (nI S.n) w ∧ fm clK μ μ1 ∧ cI S μ1) (some (.int A)) μ := fun A q => ⟨_, rfl, q, fm.rf μ, hc⟩
    refine st_X10_count_0 hX hr ⟨fun q => fin _ ?_, fun q0 => ⟨fun q => fin _ ?_, fun q1 => ⟨fun q => fin _ ?_, fun q2 => ⟨fun q => fin _ ?_, fun q3 => ⟨fun q => fin _ ?_, fun q4 => ⟨fun q => fin _ ?_, fun q5 => ⟨fun q => fin _ ?_, fun q6 => ⟨fun q => fin _ ?_, fun q7 => fin _ ?_⟩⟩⟩⟩⟩⟩⟩⟩
    · subst q; rw [countS, if_pos (by decide), if_neg (by decide), if_pos rfl]; exact e0
    · subst q; rw [countS, if_pos (by decide), if_neg (by decide), if_neg (by decide), if_pos rfl]; exact e1
    · subst q; rw [countS, if_pos (by decide), if_neg (by decide), if_neg (by decide), if_neg (by decide), if_pos rfl]; exact e2
    · subst q; rw [countS, if_pos (by decide), if_neg (by decide), if_neg (by decide), if_neg (by decide), if_neg (by decide)]; exact e3
    · subst q; rw [countS, if_pos (by decide), if_pos (by decide), if_pos rfl]; exact b0
    · subst q; rw [countS, if_pos (by decide), if_pos (by decide), if_neg (by decide), if_pos rfl]; exact b1
    · subst q; rw [countS, if_pos (by decide), if_pos (by decide), if_neg (by decide), if_neg (by decide), if_pos rfl]; exact ed
    · subst q; rw [countS, if_pos (by decide), if_pos (by decide), if_neg (by decide), if_neg (by decide), if_neg (by decide)]; exact e5
    · rw [countS, if_neg (fun z => by rcases wth7 z with q | q | q | q | q | q | q | q <;> contradiction)]
  · have := cr_count (lc := l) (G := G) (μ := μ1) (w := w)
    refine zCT_post this ?_
    rintro rv μ2 ⟨r, rfl, rfl, rfl⟩
    exact ⟨_, rfl, by rw [hr1.2.1.1, hr1.2.2.1, hr1.2.2.2.1.1, hr1.1.2], fm_thr, rI_thr hr1⟩
theorem pr_ruined (h : Rel M μ) : zCT l G 2 yX10_ruined cX10_ruined 1 (some .int) [.ref (G.ad 10 0)] μ (zI fun r μ1 => zCT l G 1 yX11_ruined cX11_ruined 1 (some .int) [.ref (G.ad 11 0)] μ1 (zI fun r2 μ2 => r2 = r ∧ Rel M μ2)) := by
  refine pr_I (R := fun _ => True) h (fun S hc hr0 hw => ⟨ruinS S.cu S.b (nLo S.cu), S, hw, ?_, fun μ1 hr1 => ?_⟩)
  · refine zCT_of (by decide) (Nat.le_of_ble_eq_true rfl) rfl (fun X hl hG hX hr => ?_)
    subst hG
    have CT := cb_broken (l := X.l) (G := X.G) (o := 0) (c := 0) (by omega) (by omega) hw.2.1.1 hc.2.1.1 hc.2.2.1
    rw [putB_getB] at CT
    refine st_X10_ruined_0 hX hr ⟨1, _, by omega, CT, ?_⟩
    rintro r ν ⟨rfl, rfl⟩
    exact ⟨_, rfl, rfl, fm.rf _, hc⟩
  · have := cr_ruined (lc := l) (G := G) (μ := μ1) (by rw [hr1.2.1.1]; exact hw.2.1.1)
    refine zCT_post this ?_
    rintro rv μ2 ⟨r, rfl, rfl, rfl⟩
    exact ⟨_, rfl, by rw [hr1.2.1.1, hr1.2.2.1], fm_thr, rI_thr hr1⟩
end AS
