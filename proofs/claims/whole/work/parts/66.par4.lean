def purseP (T : Nat → Int32) (n : Nat) (cu : zB) (hn pn : Nat → Int64) (b : Nat) : Except Int32 (zB × (Nat → Int64) × Nat) :=
  if cu 0 1 = 6 then .error (ftS 5 b) else do
    let w ← newP T n hn pn (ix (cu 0 0)) (ix (cu 0 1)) (nbS T n b)
    let d ← numP T n 0 9999 (nbS T n (nbS T n b))
    let b7 ← endP T n d.2
    pure (bU (bU cu 3 (ix (cu 0 1)) d.1) 0 1 (cu 0 1 + 1), updN pn (ix (cu 0 1)) w, b7)
set_option maxHeartbeats 2000000 in
theorem cr_readsPurse {lc : Launch} {G : zG} {μ : zM} {T : Nat → Int32} {n b c : Nat} {cu : zB} {hn pn : Nat → Int64} (h : PT μ T n b cu hn pn c) (hc : cnt cu) :
    zCT lc G 3 yX11_readsPurse cX11_readsPurse 2 (some .boolean) [.ref (G.ad 11 0)] μ (zI fun r μ' => frm prP prQ μ μ' ∧ rdQ (purseP T n cu hn pn b) r μ' (fun q => PT μ' T n q.2.2 q.1 hn q.2.1 c)) := by
  generalize hres : purseP T n cu hn pn b = res
  refine zCT_of (by decide) (Nat.le_of_ble_eq_true rfl) rfl (fun X hl0 hG hX hr => ?_)
  subst hG
  have e0 : μ.1 37 0 1 = cu 0 1 := by rw [← h.1.2.1]; rfl
  have y := zix hc.2.1
  have ey := vof hc.2.1 (by omega)
  refine st_X11_readsPurse_0 hX hr ?_
  simp only [forall_eq, e0]
  refine ⟨fun c4 => ?_, fun c4 => ?_⟩
  · have hlt : ix (cu 0 1) < 6 := by
      rcases Nat.lt_or_ge (ix (cu 0 1)) 6 with q | q
      · exact q
      · exact absurd (by rw [ey, show ix (cu 0 1) = 6 by omega]; rfl) c4
    rw [purseP, if_neg c4] at hres
    have ei : ix ((6 : Int32) + cu 0 1) = 6 * 1 + ix (cu 0 1) := by rw [ey, a6, ixn (by omega), ixn (by omega)]
    refine ⟨1, _, by omega, pw_next h, ?_⟩
    rintro m1 ⟨f1, h1⟩
    have F1 := f1
    refine ⟨1, _, by omega, pw_new h1 hc, ?_⟩
    rintro r m2 ⟨f2, q2⟩
    have F2 := F1.trans f2
    cases e2 : newP T n hn pn (ix (cu 0 0)) (ix (cu 0 1)) (nbS T n b) with
    | error f =>
      rw [e2] at q2
      simp only [bind, Except.bind, e2] at hres
      subst hres
      exact ⟨fun q => absurd q2.1 q, fun _ => ⟨_, rfl, F2, rfl, q2.2⟩⟩
    | ok w =>
      rw [e2] at q2
      simp only [bind, Except.bind, e2] at hres
      obtain ⟨rfl, hw, h2⟩ := q2
      refine ⟨fun _ => ⟨vmono (by rw [ey]; exact vin hlt (by omega)) (by omega), ?_⟩, fun q => absurd q (by decide)⟩
      have hx := PT_pn (k := ix (cu 0 1)) (v := m2.2 11 0 7) h2
      rw [← hw] at hx ⊢
      have Fx := F2.trans (frm_L (P := prP) (Q := prQ) (frm.rf m2) (κ := 41) (o := 0) (k := ix (cu 0 1)) (by simp [prQ]) w)
      refine ⟨1, _, by omega, pw_next hx, ?_⟩
      rintro m3 ⟨f3, h3⟩
      have F3 := Fx.trans f3
      refine ⟨2, _, by omega, pw_num h3, ?_⟩
      rintro r m4 ⟨f4, q4⟩
      have F4 := F3.trans f4
      cases e4 : numP T n 0 9999 (nbS T n (nbS T n b)) with
      | error f =>
        rw [e4] at q4
        simp only [bind, Except.bind, e4] at hres
        subst hres
        exact ⟨fun q => absurd q4.1 q, fun _ => ⟨_, rfl, F4, rfl, q4.2⟩⟩
      | ok d =>
        rw [e4] at q4
        simp only [bind, Except.bind, e4] at hres
        obtain ⟨rfl, hd, h4⟩ := q4
        refine ⟨fun _ => ⟨by rw [ey, a6]; exact vin (by omega) (by omega), ?_⟩, fun q => absurd q (by decide)⟩
        rw [hd, ei]
        have h5 := PT_w h4 (by decide) (by decide) (cbw3 m4 1 d.1 hlt)
        have F5 := F4.trans (frm_I (P := prP) (Q := prQ) (frm.rf m4) (κ := 44) (o := 0) (k := (6 * 1 + ix (cu 0 1))) (by simp [prP]; omega) d.1)
        have e8 : (pI m4 44 0 (6 * 1 + ix (cu 0 1)) d.1).1 37 0 1 = cu 0 1 := by
          rw [show (pI m4 44 0 (6 * 1 + ix (cu 0 1)) d.1).1 37 0 1 = cuB (pI m4 44 0 (6 * 1 + ix (cu 0 1)) d.1) 1 0 1 from rfl, h5.1.2.1, bU_ne _ _ (by omega)]
        rw [e8]
        have h8 := PT_w h5 (by decide) (by decide) (cbw01 (pI m4 44 0 (6 * 1 + ix (cu 0 1)) d.1) 1 (cu 0 1 + 1))
        have F8 := F5.trans (frm_I (P := prP) (Q := prQ) (frm.rf (pI m4 44 0 (6 * 1 + ix (cu 0 1)) d.1)) (κ := 37) (o := 0) (k := 1) (by simp [prP]) (cu 0 1 + 1))
        refine ⟨2, _, by omega, pw_end h8, ?_⟩
        rintro r m9 ⟨f9, q9⟩
        refine ⟨rdQ_vp q9, _, rfl, F8.trans f9, ?_⟩
        cases e9 : endP T n d.2 with
        | error f => rw [e9] at q9; simp only [bind, Except.bind, e9] at hres; subst hres; exact q9
        | ok b7 => rw [e9] at q9; simp only [bind, Except.bind, e9] at hres; subst hres; exact q9
  · refine ⟨0, _, by omega, pw_fail h, ?_⟩
    rintro r μ' ⟨rfl, rfl⟩
    refine ⟨by decide, _, rfl, fail_pr (frm.rf _) _, ?_⟩
    rw [purseP, if_pos c4] at hres
    subst hres
    exact ⟨rfl, pI_at _ _ _ _ _⟩
def hilP (T : Nat → Int32) (n : Nat) (hn : Nat → Int64) (nh b : Nat) : Except Int32 (Int32 × Nat) := if kpS T n b = true then .error (ftS 1 b) else if 0 ≤ fdN hn (wdS T n b) nh 0 then .ok (fdN hn (wdS T n b) nh 0, nbS T n b) else .error (ftS 2 b)
def kinP (T : Nat → Int32) (n b : Nat) : Except Int32 (Int32 × Nat) := if 0 ≤ kinS T n b then .ok (kinS T n b, nbS T n b) else .error (ftS 1 b)
def baiP (T : Nat → Int32) (n : Nat) (pn : Nat → Int64) (np : Nat) (x1 x2 : Int32) (b : Nat) : Except Int32 (Int32 × Nat) := if isW T n b 40350 = true then perP T n pn np x1 x2 (nbS T n b) else .ok (-1, b)
/-- what a loan's sentence tells -/
def loanP (T : Nat → Int32) (n : Nat) (cu : zB) (hn pn : Nat → Int64) (b : Nat) : Except Int32 (zB × Nat) :=
  if cu 0 2 = 10 then .error (ftS 5 b) else do
    let le ← perP T n pn (ix (cu 0 1)) (-1) (-1) (nbS T n b)
    let b3 ← wordP T n 555 le.2
    let de ← perP T n pn (ix (cu 0 1)) le.1 (-1) b3
    let b5 ← wordP T n 1896526 de.2
    let co ← numP T n 1 999 b5
    let b7 ← wordP T n 355568 co.2
    let ra ← numP T n 0 99 b7
    let b9 ← wordP T n 3488 ra.2
    let du ← numP T n 1 9 b9
    let b11 ← wordP T n 419 du.2
    let hi ← hilP T n hn (ix (cu 0 0)) b11
    let ki ← kinP T n hi.2
    let ba ← baiP T n pn (ix (cu 0 1)) le.1 de.1 ki.2
    let b15 ← endP T n ba.2
    pure (bU (bU (bU (bU (bU (bU (bU (bU (bU cu 4 (ix (cu 0 2)) le.1) 5 (ix (cu 0 2)) de.1) 6 (ix (cu 0 2)) co.1) 7 (ix (cu 0 2)) ra.1) 8 (ix (cu 0 2)) du.1) 9 (ix (cu 0 2)) hi.1) 10 (ix (cu 0 2)) ki.1) 11 (ix (cu 0 2)) ba.1) 0 2 (cu 0 2 + 1), b15)
theorem a10 (l : Nat) : (10 : Int32) + nI l = nI (10 + l) := nI_add 10 l
set_option maxHeartbeats 8000000 in
theorem cr_readsLoan {lc : Launch} {G : zG} {μ : zM} {T : Nat → Int32} {n b c : Nat} {cu : zB} {hn pn : Nat → Int64} (h : PT μ T n b cu hn pn c) (hc : cnt cu) :
    zCT lc G 3 yX11_readsLoan cX11_readsLoan 2 (some .boolean) [.ref (G.ad 11 0)] μ (zI fun r μ' => frm prP prQ μ μ' ∧ rdQ (loanP T n cu hn pn b) r μ' (fun q => PT μ' T n q.2 q.1 hn pn c)) := by
  generalize hres : loanP T n cu hn pn b = res
  refine zCT_of (by decide) (Nat.le_of_ble_eq_true rfl) rfl (fun X hl0 hG hX hr => ?_)
  subst hG
  have e0 : μ.1 38 0 1 = cu 0 2 := by rw [← h.1.2.1]; rfl
  have y := zix hc.2.2.1
  have ey := vof hc.2.2.1 (by omega)
  refine st_X11_readsLoan_0 hX hr ?_
  simp only [forall_eq, e0]
  refine ⟨fun c4 => ?_, fun c4 => ?_⟩
  · have hlt : ix (cu 0 2) < 10 := by
      rcases Nat.lt_or_ge (ix (cu 0 2)) 10 with q | q
      · exact q
      · exact absurd (by rw [ey, show ix (cu 0 2) = 10 by omega]; rfl) c4
    rw [loanP, if_neg c4] at hres
    have ei : ix ((10 : Int32) + cu 0 2) = 10 * 1 + ix (cu 0 2) := by rw [ey, a10, ixn (by omega), ixn (by omega)]
    have ev : vp_in ((10 : Int32) + cu 0 2) 60 := by rw [ey, a10]; exact vin (by omega) (by omega)
    rw [ei]
    refine ⟨1, _, by omega, pw_next h, ?_⟩
    rintro m1 ⟨f1, h1⟩
    have F1 := f1
    refine ⟨2, _, by omega, pw_per h1 hc, ?_⟩
    rintro r m2 ⟨f2, q2⟩
    have F2 := F1.trans f2
    cases e2 : perP T n pn (ix (cu 0 1)) (-1) (-1) (nbS T n b) with
    | error f =>
      rw [e2] at q2
      simp only [bind, Except.bind, e2] at hres
      subst hres
      exact ⟨fun q => absurd q2.1 q, fun _ => ⟨_, rfl, F2, rfl, q2.2⟩⟩
    | ok le =>
      rw [e2] at q2
      simp only [bind, Except.bind, e2] at hres
      obtain ⟨rfl, hd2, h2⟩ := q2
      refine ⟨fun _ => ⟨ev, ?_⟩, fun q => absurd q (by decide)⟩
      rw [hd2]
      have h3 := PT_w h2 (by decide) (by decide) (cbw4 m2 1 le.1 hlt)
      have F3 := F2.trans (frm_I (P := prP) (Q := prQ) (frm.rf m2) (κ := 45) (o := 0) (k := (10 * 1 + ix (cu 0 2))) (by simp [prP]; omega) le.1)
      refine ⟨2, _, by omega, pw_word h3, ?_⟩
      rintro r m4 ⟨f4, q4⟩
      have F4 := F3.trans f4
      cases e4 : wordP T n 555 le.2 with
      | error f =>
        rw [e4] at q4
        simp only [bind, Except.bind, e4] at hres
        subst hres
        exact ⟨fun _ => ⟨_, rfl, F4, rfl, q4.2⟩, fun q => absurd q4.1 q⟩
      | ok b3 =>
        rw [e4] at q4
        simp only [bind, Except.bind, e4] at hres
        obtain ⟨rfl, h4⟩ := q4
        refine ⟨fun q => absurd q (by decide), fun _ => ?_⟩
        have el4 : m4.1 45 0 (10 * 1 + ix (cu 0 2)) = le.1 := by
          rw [← cb4 m4 1 hlt, h4.1.2.1, bU_at]
        rw [el4]
        have t4 := pw_per (lc := X.l) (G := X.G) h4 (cnt_same hc (by decide)) (x1 := le.1) (x2 := -1)
        rw [bU_ne _ _ (show ¬ (0 = 4 ∧ 1 = ix (cu 0 2)) by omega)] at t4
        refine ⟨2, _, by omega, t4, ?_⟩
        rintro r m5 ⟨f5, q5⟩
        have F5 := F4.trans f5
        cases e5 : perP T n pn (ix (cu 0 1)) le.1 (-1) b3 with
        | error f =>
          rw [e5] at q5
          simp only [bind, Except.bind, e5] at hres
          subst hres
          exact ⟨fun q => absurd q5.1 q, fun _ => ⟨_, rfl, F5, rfl, q5.2⟩⟩
        | ok de =>
          rw [e5] at q5
          simp only [bind, Except.bind, e5] at hres
          obtain ⟨rfl, hd5, h5⟩ := q5
          refine ⟨fun _ => ?_, fun q => absurd q (by decide)⟩
          rw [hd5]
          have h6 := PT_w h5 (by decide) (by decide) (cbw5 m5 1 de.1 hlt)
          have F6 := F5.trans (frm_I (P := prP) (Q := prQ) (frm.rf m5) (κ := 46) (o := 0) (k := (10 * 1 + ix (cu 0 2))) (by simp [prP]; omega) de.1)
          refine ⟨2, _, by omega, pw_word h6, ?_⟩
          rintro r m7 ⟨f7, q7⟩
          have F7 := F6.trans f7
          cases e7 : wordP T n 1896526 de.2 with
          | error f =>
            rw [e7] at q7
            simp only [bind, Except.bind, e7] at hres
            subst hres
            exact ⟨fun _ => ⟨_, rfl, F7, rfl, q7.2⟩, fun q => absurd q7.1 q⟩
          | ok b5 =>
            rw [e7] at q7
            simp only [bind, Except.bind, e7] at hres
            obtain ⟨rfl, h7⟩ := q7
            refine ⟨fun q => absurd q (by decide), fun _ => ?_⟩
            refine ⟨2, _, by omega, pw_num h7, ?_⟩
            rintro r m8 ⟨f8, q8⟩
            have F8 := F7.trans f8
            cases e8 : numP T n 1 999 b5 with
            | error f =>
              rw [e8] at q8
              simp only [bind, Except.bind, e8] at hres
              subst hres
              exact ⟨fun q => absurd q8.1 q, fun _ => ⟨_, rfl, F8, rfl, q8.2⟩⟩
            | ok co =>
              rw [e8] at q8
              simp only [bind, Except.bind, e8] at hres
              obtain ⟨rfl, hd8, h8⟩ := q8
              refine ⟨fun _ => ?_, fun q => absurd q (by decide)⟩
              rw [hd8]
              have h9 := PT_w h8 (by decide) (by decide) (cbw6 m8 1 co.1 hlt)
              have F9 := F8.trans (frm_I (P := prP) (Q := prQ) (frm.rf m8) (κ := 47) (o := 0) (k := (10 * 1 + ix (cu 0 2))) (by simp [prP]; omega) co.1)
              refine ⟨2, _, by omega, pw_word h9, ?_⟩
              rintro r m10 ⟨f10, q10⟩
              have F10 := F9.trans f10
              cases e10 : wordP T n 355568 co.2 with
              | error f =>
                rw [e10] at q10
                simp only [bind, Except.bind, e10] at hres
                subst hres
                exact ⟨fun _ => ⟨_, rfl, F10, rfl, q10.2⟩, fun q => absurd q10.1 q⟩
              | ok b7 =>
                rw [e10] at q10
                simp only [bind, Except.bind, e10] at hres
                obtain ⟨rfl, h10⟩ := q10
                refine ⟨fun q => absurd q (by decide), fun _ => ?_⟩
                refine ⟨2, _, by omega, pw_num h10, ?_⟩
                rintro r m11 ⟨f11, q11⟩
                have F11 := F10.trans f11
                cases e11 : numP T n 0 99 b7 with
                | error f =>
                  rw [e11] at q11
                  simp only [bind, Except.bind, e11] at hres
                  subst hres
                  exact ⟨fun q => absurd q11.1 q, fun _ => ⟨_, rfl, F11, rfl, q11.2⟩⟩
                | ok ra =>
                  rw [e11] at q11
                  simp only [bind, Except.bind, e11] at hres
                  obtain ⟨rfl, hd11, h11⟩ := q11
                  refine ⟨fun _ => ?_, fun q => absurd q (by decide)⟩
                  rw [hd11]
                  have h12 := PT_w h11 (by decide) (by decide) (cbw7 m11 1 ra.1 hlt)
                  have F12 := F11.trans (frm_I (P := prP) (Q := prQ) (frm.rf m11) (κ := 48) (o := 0) (k := (10 * 1 + ix (cu 0 2))) (by simp [prP]; omega) ra.1)
                  refine ⟨2, _, by omega, pw_word h12, ?_⟩
                  rintro r m13 ⟨f13, q13⟩
                  have F13 := F12.trans f13
                  cases e13 : wordP T n 3488 ra.2 with
                  | error f =>
                    rw [e13] at q13
                    simp only [bind, Except.bind, e13] at hres
                    subst hres
                    exact ⟨fun _ => ⟨_, rfl, F13, rfl, q13.2⟩, fun q => absurd q13.1 q⟩
                  | ok b9 =>
                    rw [e13] at q13
                    simp only [bind, Except.bind, e13] at hres
                    obtain ⟨rfl, h13⟩ := q13
                    refine ⟨fun q => absurd q (by decide), fun _ => ?_⟩
                    refine ⟨2, _, by omega, pw_num h13, ?_⟩
                    rintro r m14 ⟨f14, q14⟩
                    have F14 := F13.trans f14
                    cases e14 : numP T n 1 9 b9 with
                    | error f =>
                      rw [e14] at q14
                      simp only [bind, Except.bind, e14] at hres
                      subst hres
                      exact ⟨fun q => absurd q14.1 q, fun _ => ⟨_, rfl, F14, rfl, q14.2⟩⟩
                    | ok du =>
                      rw [e14] at q14
                      simp only [bind, Except.bind, e14] at hres
                      obtain ⟨rfl, hd14, h14⟩ := q14
                      refine ⟨fun _ => ?_, fun q => absurd q (by decide)⟩
                      rw [hd14]
                      have h15 := PT_w h14 (by decide) (by decide) (cbw8 m14 1 du.1 hlt)
                      have F15 := F14.trans (frm_I (P := prP) (Q := prQ) (frm.rf m14) (κ := 49) (o := 0) (k := (10 * 1 + ix (cu 0 2))) (by simp [prP]; omega) du.1)
                      refine ⟨2, _, by omega, pw_word h15, ?_⟩
                      rintro r m16 ⟨f16, q16⟩
                      have F16 := F15.trans f16
                      cases e16 : wordP T n 419 du.2 with
                      | error f =>
                        rw [e16] at q16
                        simp only [bind, Except.bind, e16] at hres
                        subst hres
                        exact ⟨fun q => absurd q16.1 q, fun _ => ⟨_, rfl, F16, rfl, q16.2⟩⟩
                      | ok b11 =>
                        rw [e16] at q16
                        simp only [bind, Except.bind, e16] at hres
                        obtain ⟨rfl, h16⟩ := q16
                        refine ⟨fun _ => ?_, fun q => absurd q (by decide)⟩
                        refine ⟨0, _, by omega, pw_kept h16, ?_⟩
                        rintro r ν ⟨rfl, hν⟩
                        replace hν := hν.symm; subst hν
                        refine ⟨fun ck => ?_, fun ck => ⟨0, _, by omega, pw_fail h16, ?_⟩⟩
                        · have hk : ¬ kpS T n b11 = true := by rw [b2i0.mp ck]; simp
                          have th := pw_hillNamed (lc := X.l) (G := X.G) h16 (cnt_same (cnt_same (cnt_same (cnt_same (cnt_same hc (by decide)) (by decide)) (by decide)) (by decide)) (by decide))
                          rw [bU_ne _ _ (show ¬ (0 = 8 ∧ 0 = ix (cu 0 2)) by omega), bU_ne _ _ (show ¬ (0 = 7 ∧ 0 = ix (cu 0 2)) by omega), bU_ne _ _ (show ¬ (0 = 6 ∧ 0 = ix (cu 0 2)) by omega), bU_ne _ _ (show ¬ (0 = 5 ∧ 0 = ix (cu 0 2)) by omega), bU_ne _ _ (show ¬ (0 = 4 ∧ 0 = ix (cu 0 2)) by omega)] at th
                          refine ⟨0, _, by omega, th, ?_⟩
                          rintro r ν ⟨rfl, hν⟩
                          replace hν := hν.symm; subst hν
                          simp only [forall_eq, pI_at]
                          have h17 := PT_w h16 (by decide) (by decide) (cbw9 m16 1 (fdN hn (wdS T n b11) (ix (cu 0 0)) 0) hlt)
                          have F17 := F16.trans (frm_I (P := prP) (Q := prQ) (frm.rf m16) (κ := 50) (o := 0) (k := (10 * 1 + ix (cu 0 2))) (by simp [prP]; omega) (fdN hn (wdS T n b11) (ix (cu 0 0)) 0))
                          refine ⟨fun ch => ?_, fun ch => ⟨0, _, by omega, pw_fail h17, ?_⟩⟩
                          · simp only [bind, Except.bind, hilP, if_neg hk, if_pos ch] at hres
                            refine ⟨1, _, by omega, pw_next h17, ?_⟩
                            rintro m18 ⟨f18, h18⟩
                            have F18 := F17.trans f18
                            refine ⟨1, _, by omega, pw_kind h18, ?_⟩
                            rintro r ν ⟨rfl, hν⟩
                            replace hν := hν.symm; subst hν
                            try simp only [forall_eq, pI_at]
                            have h19 := PT_w h18 (by decide) (by decide) (cbw10 m18 1 (kinS T n (nbS T n b11)) hlt)
                            have F19 := F18.trans (frm_I (P := prP) (Q := prQ) (frm.rf m18) (κ := 51) (o := 0) (k := (10 * 1 + ix (cu 0 2))) (by simp [prP]; omega) (kinS T n (nbS T n b11)))
                            refine ⟨fun cq => ?_, fun cq => ⟨0, _, by omega, pw_fail h19, ?_⟩⟩
                            · simp only [kinP, if_pos cq] at hres
                              refine ⟨1, _, by omega, pw_next h19, ?_⟩
                              rintro m20 ⟨f20, h20⟩
                              have F20 := F19.trans f20
                              have h21 := PT_w h20 (by decide) (by decide) (cbw11 m20 1 (-1) hlt)
                              have F21 := F20.trans (frm_I (P := prP) (Q := prQ) (frm.rf m20) (κ := 52) (o := 0) (k := (10 * 1 + ix (cu 0 2))) (by simp [prP]; omega) (-1))
                              refine ⟨0, _, by omega, pw_isWord h21, ?_⟩
                              rintro r ν ⟨rfl, hν⟩
                              replace hν := hν.symm; subst hν
                              refine ⟨fun cb => ?_, fun cb => ?_⟩
                              · have hb0 : ¬ isW T n (nbS T n (nbS T n b11)) 40350 = true := by rw [b2i0.mp cb]; simp
                                simp only [baiP, if_neg hb0] at hres
                                have e8 : (pI m20 52 0 (10 * 1 + ix (cu 0 2)) (-1)).1 38 0 1 = cu 0 2 := by
                                  rw [show (pI m20 52 0 (10 * 1 + ix (cu 0 2)) (-1)).1 38 0 1 = cuB (pI m20 52 0 (10 * 1 + ix (cu 0 2)) (-1)) 1 0 2 from rfl, h21.1.2.1]
                                  simp [bU]
                                rw [e8]
                                have h8 := PT_w h21 (by decide) (by decide) (cbw02 (pI m20 52 0 (10 * 1 + ix (cu 0 2)) (-1)) 1 (cu 0 2 + 1))
                                have F8 := F21.trans (frm_I (P := prP) (Q := prQ) (frm.rf (pI m20 52 0 (10 * 1 + ix (cu 0 2)) (-1))) (κ := 38) (o := 0) (k := 1) (by simp [prP]) (cu 0 2 + 1))
                                refine ⟨2, _, by omega, pw_end h8, ?_⟩
                                rintro r m99 ⟨f99, q99⟩
                                refine ⟨rdQ_vp q99, _, rfl, F8.trans f99, ?_⟩
                                cases e99 : endP T n (nbS T n (nbS T n b11)) with
                                | error f => rw [e99] at q99; simp only [e99] at hres; subst hres; exact q99
                                | ok b15 => rw [e99] at q99; simp only [e99] at hres; subst hres; exact q99
                              · simp only [baiP, if_pos (b2i1.mp cb)] at hres
                                refine ⟨1, _, by omega, pw_next h21, ?_⟩
                                rintro m22 ⟨f22, h22⟩
                                have F22 := F21.trans f22
                                have el1 : m22.1 45 0 (10 * 1 + ix (cu 0 2)) = le.1 := by
                                  rw [← cb4 m22 1 hlt, h22.1.2.1]
                                  simp [bU]
                                have el2 : m22.1 46 0 (10 * 1 + ix (cu 0 2)) = de.1 := by
                                  rw [← cb5 m22 1 hlt, h22.1.2.1]
                                  simp [bU]
                                rw [el1, el2]
                                have tp := pw_per (lc := X.l) (G := X.G) h22 (cnt_same (cnt_same (cnt_same (cnt_same (cnt_same (cnt_same (cnt_same (cnt_same hc (by decide)) (by decide)) (by decide)) (by decide)) (by decide)) (by decide)) (by decide)) (by decide)) (x1 := le.1) (x2 := de.1)
                                rw [bU_ne _ _ (show ¬ (0 = 11 ∧ 1 = ix (cu 0 2)) by omega)] at tp
                                rw [bU_ne _ _ (show ¬ (0 = 10 ∧ 1 = ix (cu 0 2)) by omega)] at tp
                                rw [bU_ne _ _ (show ¬ (0 = 9 ∧ 1 = ix (cu 0 2)) by omega)] at tp
                                rw [bU_ne _ _ (show ¬ (0 = 8 ∧ 1 = ix (cu 0 2)) by omega)] at tp
                                rw [bU_ne _ _ (show ¬ (0 = 7 ∧ 1 = ix (cu 0 2)) by omega)] at tp
                                rw [bU_ne _ _ (show ¬ (0 = 6 ∧ 1 = ix (cu 0 2)) by omega)] at tp
                                rw [bU_ne _ _ (show ¬ (0 = 5 ∧ 1 = ix (cu 0 2)) by omega)] at tp
                                rw [bU_ne _ _ (show ¬ (0 = 4 ∧ 1 = ix (cu 0 2)) by omega)] at tp
                                refine ⟨2, _, by omega, tp, ?_⟩
                                rintro r m23 ⟨f23, q23⟩
                                have F23 := F22.trans f23
                                cases e23 : perP T n pn (ix (cu 0 1)) le.1 de.1 (nbS T n (nbS T n (nbS T n b11))) with
                                | error f =>
                                  rw [e23] at q23
                                  simp only [bind, Except.bind, e23] at hres
                                  subst hres
                                  exact ⟨fun q => absurd q23.1 q, fun _ => ⟨_, rfl, F23, rfl, q23.2⟩⟩
                                | ok ba =>
                                  rw [e23] at q23
                                  simp only [bind, Except.bind, e23] at hres
                                  obtain ⟨rfl, hd23, h23⟩ := q23
                                  refine ⟨fun _ => ?_, fun q => absurd q (by decide)⟩
                                  rw [hd23]
                                  have h24 := PT_w h23 (by decide) (by decide) (cbw11 m23 1 ba.1 hlt)
                                  have F24 := F23.trans (frm_I (P := prP) (Q := prQ) (frm.rf m23) (κ := 52) (o := 0) (k := (10 * 1 + ix (cu 0 2))) (by simp [prP]; omega) ba.1)
                                  rw [bU_bU] at h24
                                  have e8 : (pI m23 52 0 (10 * 1 + ix (cu 0 2)) ba.1).1 38 0 1 = cu 0 2 := by
                                    rw [show (pI m23 52 0 (10 * 1 + ix (cu 0 2)) ba.1).1 38 0 1 = cuB (pI m23 52 0 (10 * 1 + ix (cu 0 2)) ba.1) 1 0 2 from rfl, h24.1.2.1]
                                    simp [bU]
                                  rw [e8]
                                  have h8 := PT_w h24 (by decide) (by decide) (cbw02 (pI m23 52 0 (10 * 1 + ix (cu 0 2)) ba.1) 1 (cu 0 2 + 1))
                                  have F8 := F24.trans (frm_I (P := prP) (Q := prQ) (frm.rf (pI m23 52 0 (10 * 1 + ix (cu 0 2)) ba.1)) (κ := 38) (o := 0) (k := 1) (by simp [prP]) (cu 0 2 + 1))
                                  refine ⟨2, _, by omega, pw_end h8, ?_⟩
                                  rintro r m99 ⟨f99, q99⟩
                                  refine ⟨rdQ_vp q99, _, rfl, F8.trans f99, ?_⟩
                                  cases e99 : endP T n ba.2 with
                                  | error f => rw [e99] at q99; simp only [e99] at hres; subst hres; exact q99
                                  | ok b15 => rw [e99] at q99; simp only [e99] at hres; subst hres; exact q99
                            · rintro r μ' ⟨rfl, rfl⟩
                              refine ⟨by decide, _, rfl, fail_pr F19 _, ?_⟩
                              simp only [kinP, if_neg cq] at hres
                              subst hres
                              exact ⟨rfl, pI_at _ _ _ _ _⟩
                          · rintro r μ' ⟨rfl, rfl⟩
                            refine ⟨by decide, _, rfl, fail_pr F17 _, ?_⟩
                            simp only [bind, Except.bind, hilP, if_neg hk, if_neg ch] at hres
                            subst hres
                            exact ⟨rfl, pI_at _ _ _ _ _⟩
                        · rintro r μ' ⟨rfl, rfl⟩
                          refine ⟨by decide, _, rfl, fail_pr F16 _, ?_⟩
                          simp only [bind, Except.bind, hilP, if_pos (b2i1.mp ck)] at hres
                          subst hres
                          exact ⟨rfl, pI_at _ _ _ _ _⟩
  · refine ⟨0, _, by omega, pw_fail h, ?_⟩
    rintro r μ' ⟨rfl, rfl⟩
    refine ⟨by decide, _, rfl, fail_pr (frm.rf _) _, ?_⟩
    rw [loanP, if_pos c4] at hres
    subst hres
    exact ⟨rfl, pI_at _ _ _ _ _⟩
