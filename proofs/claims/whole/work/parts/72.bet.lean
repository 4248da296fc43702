def lnW (ln : Nat → Nat → Int32) (i : Nat) (x y : Int32) : Nat → Nat → Int32 := fun κ k => if k = i then (if κ = 55 then x else if κ = 56 then y else ln κ k) else ln κ k
def betP (T : Nat → Int32) (n : Nat) (cu : zB) (b : Nat) : Except Int32 (zB × List Int32 × Nat) :=
  if cu 0 3 = 8 then .error (ftS 5 b) else do
    let p ← numP T n 0 999 (nbS T n b)
    let b2 ← wordP T n 316351 p.2
    let q ← numP T n 0 999 b2
    if isW T n q.2 249 = true then do
      let b' ← (exR T n (nbS T n q.2)).2
      pure (bU (bU (bU cu 12 (ix (cu 0 3)) p.1) 13 (ix (cu 0 3)) q.1) 0 3 (cu 0 3 + 1), (exR T n (nbS T n q.2)).1, b')
    else .error (ftS 1 q.2)
theorem a8 (l : Nat) : (8 : Int32) + nI l = nI (8 + l) := nI_add 8 l
theorem numP_ge {T : Nat → Int32} {n b : Nat} {lo hi : Int32} {q : Int32 × Nat} (h : numP T n lo hi b = .ok q) (hb : b ≤ n) : b ≤ q.2 := by
  unfold numP at h
  split at h
  · split at h
    · cases h; exact nbS_ge hb
    · cases h
  · cases h
theorem wordP_ge {T : Nat → Int32} {n b : Nat} {w : Int64} {q : Nat} (h : wordP T n w b = .ok q) (hb : b ≤ n) : b ≤ q := by
  unfold wordP at h
  split at h
  · cases h; exact nbS_ge hb
  · cases h
set_option maxHeartbeats 2000000 in
theorem cr_readsBet {lc : Launch} {G : zG} {μ : zM} {T : Nat → Int32} {n b c : Nat} {cu : zB} {hn pn : Nat → Int64} {cd : Nat → Int32} {ln : Nat → Nat → Int32} (h : RB μ T n b cu hn pn c cd ln) (hc : cnt cu) (h1 : 1000 ≤ c) (h2 : c ≤ 1000 + b) :
    zCT lc G 3 yX11_readsBet cX11_readsBet 2 (some .boolean) [.ref (G.ad 11 0)] μ (zI fun r μ' => frm prB prQ μ μ' ∧ rdQ (betP T n cu b) r μ' (fun q => RB μ' T n q.2.2 q.1 hn pn (c + q.2.1.length) (wrC cd c q.2.1) (lnW ln (8 + ix (cu 0 3)) (nI c) (nI (c + q.2.1.length))) ∧ c + q.2.1.length ≤ 1000 + q.2.2)) := by
  generalize hres : betP T n cu b = res
  refine zCT_of (by decide) (Nat.le_of_ble_eq_true rfl) rfl (fun X hl0 hG hX hr => ?_)
  subst hG
  have hP : PT μ T n b cu hn pn c := by obtain ⟨_, _, h, _⟩ := h; exact h
  have hbn : b ≤ n := hP.1.1.2.1
  have e0 : μ.1 39 0 1 = cu 0 3 := by rw [← hP.1.2.1]; rfl
  have y := zix hc.2.2.2
  have ey := vof hc.2.2.2 (by omega)
  refine st_X11_readsBet_0 hX hr ?_
  simp only [forall_eq, e0]
  refine ⟨fun c4 => ?_, fun c4 => ?_⟩
  · have hlt : ix (cu 0 3) < 8 := by
      rcases Nat.lt_or_ge (ix (cu 0 3)) 8 with q | q
      · exact q
      · exact absurd (by rw [ey, show ix (cu 0 3) = 8 by omega]; rfl) c4
    rw [betP, if_neg c4] at hres
    have ei : ix ((8 : Int32) + cu 0 3) = 8 * 1 + ix (cu 0 3) := by rw [ey, a8, ixn (by omega), ixn (by omega)]
    have vi : vp_in ((8 : Int32) + cu 0 3) 48 := by rw [ey, a8]; exact vin (by omega) (by omega)
    simp only [ei]
    refine ⟨1, _, by omega, pw_next hP, ?_⟩
    rintro m1 ⟨f1, p1⟩
    have r1 := RB_pr h f1 p1
    refine ⟨2, _, by omega, pw_num p1, ?_⟩
    rintro r m2 ⟨f2, q2⟩
    have F2 := f1.trans f2
    cases e2 : numP T n 0 999 (nbS T n b) with
    | error f =>
      rw [e2] at q2
      simp only [bind, Except.bind, e2] at hres
      subst hres
      exact ⟨fun q => absurd q2.1 q, fun _ => ⟨_, rfl, pr_prB F2, rfl, q2.2⟩⟩
    | ok p =>
      rw [e2] at q2
      simp only [bind, Except.bind, e2] at hres
      obtain ⟨rfl, hp, p2⟩ := q2
      have r2 := RB_pr r1 f2 p2
      refine ⟨fun _ => ⟨vi, ?_⟩, fun q => absurd q (by decide)⟩
      rw [hp]
      have p3 := PT_w p2 (by decide) (by decide) (cbw12 m2 1 p.1 hlt)
      have F3 : frm prB prQ m2 (pI m2 53 0 (8 * 1 + ix (cu 0 3)) p.1) := frm_I (frm.rf m2) (by simp [prB]; omega) p.1
      have r3 : RB (pI m2 53 0 (8 * 1 + ix (cu 0 3)) p.1) T n p.2 (bU cu 12 (ix (cu 0 3)) p.1) hn pn c cd ln := by
        obtain ⟨op, cm, z1, z2, z3, z4, z5⟩ := r2
        exact ⟨op, cm, p3, by rw [pI_row2 _ _ _ _ _ (by decide)]; exact z2, by rw [pI_row2 _ _ _ _ _ (by decide)]; exact z3, by rw [pI_row2 _ _ _ _ _ (by decide)]; exact z4, lnI_I z5 (by decide) (by decide)⟩
      generalize pI m2 53 0 (8 * 1 + ix (cu 0 3)) p.1 = m3 at p3 F3 r3 ⊢
      have G3 := (pr_prB F2).trans F3
      refine ⟨2, _, by omega, pw_word p3, ?_⟩
      rintro r m4 ⟨f4, q4⟩
      have G4 := G3.trans (pr_prB f4)
      cases e4 : wordP T n 316351 p.2 with
      | error f =>
        rw [e4] at q4
        simp only [bind, Except.bind, e4] at hres
        subst hres
        exact ⟨fun _ => ⟨_, rfl, G4, rfl, q4.2⟩, fun q => absurd q4.1 q⟩
      | ok b2 =>
        rw [e4] at q4
        simp only [bind, Except.bind, e4] at hres
        obtain ⟨rfl, p4⟩ := q4
        have r4 := RB_pr r3 f4 p4
        refine ⟨fun q => absurd q (by decide), fun _ => ?_⟩
        refine ⟨2, _, by omega, pw_num p4, ?_⟩
        rintro r m5 ⟨f5, q5⟩
        have G5 := G4.trans (pr_prB f5)
        cases e5 : numP T n 0 999 b2 with
        | error f =>
          rw [e5] at q5
          simp only [bind, Except.bind, e5] at hres
          subst hres
          exact ⟨fun q => absurd q5.1 q, fun _ => ⟨_, rfl, G5, rfl, q5.2⟩⟩
        | ok q =>
          rw [e5] at q5
          simp only [bind, Except.bind, e5] at hres
          obtain ⟨rfl, hq, p5⟩ := q5
          have r5 := RB_pr r4 f5 p5
          refine ⟨fun _ => ?_, fun q => absurd q (by decide)⟩
          rw [hq]
          have p6 := PT_w p5 (by decide) (by decide) (cbw13 m5 1 q.1 hlt)
          have F6 : frm prB prQ m5 (pI m5 54 0 (8 * 1 + ix (cu 0 3)) q.1) := frm_I (frm.rf m5) (by simp [prB]; omega) q.1
          have r6 : RB (pI m5 54 0 (8 * 1 + ix (cu 0 3)) q.1) T n q.2 (bU (bU cu 12 (ix (cu 0 3)) p.1) 13 (ix (cu 0 3)) q.1) hn pn c cd ln := by
            obtain ⟨op, cm, z1, z2, z3, z4, z5⟩ := r5
            exact ⟨op, cm, p6, by rw [pI_row2 _ _ _ _ _ (by decide)]; exact z2, by rw [pI_row2 _ _ _ _ _ (by decide)]; exact z3, by rw [pI_row2 _ _ _ _ _ (by decide)]; exact z4, lnI_I z5 (by decide) (by decide)⟩
          generalize pI m5 54 0 (8 * 1 + ix (cu 0 3)) q.1 = m6 at p6 F6 r6 ⊢
          have G6 := G5.trans F6
          refine ⟨0, _, by omega, pw_isWord p6, ?_⟩
          rintro r ν ⟨rfl, hν⟩
          rw [hν]
          refine ⟨fun z => ?_, fun z => ?_⟩
          · have z' := b2i1.mp z
            rw [if_pos z'] at hres
            refine ⟨1, _, by omega, pw_next p6, ?_⟩
            rintro m7 ⟨f7, p7⟩
            have r7 := RB_pr r6 f7 p7
            have G7 := G6.trans (pr_prB f7)
            have e32 : m7.1 11 0 32 = nI c := p7.1.2.2.2.2
            rw [e32]
            have g1 := nbS_ge (T := T) hbn
            have g2 := numP_ge e2 p1.1.1.2.1
            have g3 := wordP_ge e4 p2.1.1.2.1
            have g4 := numP_ge e5 p4.1.1.2.1
            have g5 := nbS_ge (T := T) p6.1.1.2.1
            have r8 : RB (pI m7 55 0 (8 * 1 + ix (cu 0 3)) (nI c)) T n (nbS T n q.2) (bU (bU cu 12 (ix (cu 0 3)) p.1) 13 (ix (cu 0 3)) q.1) hn pn c cd (lnW ln (8 + ix (cu 0 3)) (nI c) (ln 56 (8 + ix (cu 0 3)))) := by
              obtain ⟨op, cm, z1, z2, z3, z4, z5⟩ := r7
              refine ⟨op, cm, PT_free z1 (by omega), by rw [pI_row2 _ _ _ _ _ (by decide)]; exact z2, by rw [pI_row2 _ _ _ _ _ (by decide)]; exact z3, by rw [pI_row2 _ _ _ _ _ (by decide)]; exact z4, fun k => ?_⟩
              rw [pI_other _ _ _ _ _ _ (show 56 ≠ 55 by decide), (z5 k).2]
              by_cases hk : k = 8 + ix (cu 0 3)
              · subst hk
                exact ⟨by rw [show 8 * 1 + ix (cu 0 3) = 8 + ix (cu 0 3) by omega, pI_at]; simp [lnW], by simp [lnW]⟩
              · exact ⟨by rw [pI_place _ _ _ _ (by omega), (z5 k).1]; simp [lnW, hk], by simp [lnW, hk]⟩
            have F8 : frm prB prQ m7 (pI m7 55 0 (8 * 1 + ix (cu 0 3)) (nI c)) := frm_I (frm.rf m7) (by simp [prB]; omega) _
            generalize pI m7 55 0 (8 * 1 + ix (cu 0 3)) (nI c) = m8 at r8 F8 ⊢
            have G8 := G7.trans F8
            refine ⟨2, _, by omega, cr_readsX r8 h1 (by omega), ?_⟩
            rintro r m9 ⟨f9, q9⟩
            have G9 := G8.trans f9
            cases e9 : (exR T n (nbS T n q.2)).2 with
            | error f =>
              rw [e9] at q9
              simp only [bind, Except.bind, e9] at hres
              subst hres
              exact ⟨fun z => absurd q9.1 z, fun _ => ⟨_, rfl, G9, rfl, q9.2⟩⟩
            | ok b' =>
              rw [e9] at q9
              simp only [bind, Except.bind, e9] at hres
              obtain ⟨rfl, r9, hle⟩ := q9
              subst hres
              refine ⟨fun _ => ⟨_, rfl, ?_⟩, fun z => absurd z (by decide)⟩
              obtain ⟨op, cm, z1, z2, z3, z4, z5⟩ := r9
              have e33 : m9.1 11 0 32 = nI (c + (exR T n (nbS T n q.2)).1.length) := z1.1.2.2.2.2
              have e39 : m9.1 39 0 1 = cu 0 3 := by
                rw [show m9.1 39 0 1 = cuB m9 1 0 3 from rfl, z1.1.2.1, bU_ne _ _ (by omega), bU_ne _ _ (by omega)]
              rw [e33, pI_other _ _ _ _ _ _ (show 39 ≠ 56 by decide), e39]
              have pA := PT_free (k := 8 * 1 + ix (cu 0 3)) (v := nI (c + (exR T n (nbS T n q.2)).1.length)) z1 (show 56 = 55 ∨ 56 = 56 ∨ 56 = 57 ∨ 56 = 58 ∨ 56 = 59 by omega)
              have pB := PT_w pA (by decide) (by decide) (cbw03 (pI m9 56 0 (8 * 1 + ix (cu 0 3)) (nI (c + (exR T n (nbS T n q.2)).1.length))) 1 (cu 0 3 + 1))
              refine ⟨G9.trans (frm_I (frm_I (frm.rf m9) (by simp [prB]; omega) _) rfl _), rfl, ⟨op, cm, pB, ?_, ?_, ?_, ?_⟩, hle⟩
              · rw [pI_row2 _ _ _ _ _ (by decide), pI_row2 _ _ _ _ _ (by decide)]; exact z2
              · rw [pI_row2 _ _ _ _ _ (by decide), pI_row2 _ _ _ _ _ (by decide)]; exact z3
              · rw [pI_row2 _ _ _ _ _ (by decide), pI_row2 _ _ _ _ _ (by decide)]; exact z4
              · refine lnI_I (fun k => ?_) (by decide) (by decide)
                rw [pI_other _ _ _ _ _ _ (show 55 ≠ 56 by decide), (z5 k).1]
                by_cases hk : k = 8 + ix (cu 0 3)
                · subst hk
                  exact ⟨by simp [lnW], by rw [show 8 * 1 + ix (cu 0 3) = 8 + ix (cu 0 3) by omega, pI_at]; simp [lnW]⟩
                · exact ⟨by simp [lnW, hk], by rw [pI_place _ _ _ _ (by omega), (z5 k).2]; simp [lnW, hk]⟩
          · have z' := b2i0.mp z
            rw [if_neg (by rw [z']; decide)] at hres
            refine ⟨0, _, by omega, pw_fail p6, ?_⟩
            rintro r μ' ⟨rfl, rfl⟩
            subst hres
            exact ⟨by decide, _, rfl, fail_prB G6 _, rfl, pI_at _ _ _ _ _⟩
  · refine ⟨0, _, by omega, pw_fail hP, ?_⟩
    rintro r μ' ⟨rfl, rfl⟩
    refine ⟨by decide, _, rfl, fail_prB (frm.rf _) _, ?_⟩
    rw [betP, if_pos c4] at hres
    subst hres
    exact ⟨rfl, pI_at _ _ _ _ _⟩
