/-! the small readings over the parse state -/
def PT (μ : zM) (T : Nat → Int32) (n b : Nat) (cu : zB) (hn pn : Nat → Int64) (c : Nat) : Prop := PS μ n b cu hn pn c ∧ μ.1 35 0 = T
/-- the counts of what is being told -/
def cnt (cu : zB) : Prop := vp_in (cu 0 0) 5 ∧ vp_in (cu 0 1) 7 ∧ vp_in (cu 0 2) 11 ∧ vp_in (cu 0 3) 9
section PW
variable {lc : Launch} {G : zG} {μ : zM} {T : Nat → Int32} {n b c : Nat} {cu : zB} {hn pn : Nat → Int64}
theorem pw_next (h : PT μ T n b cu hn pn c) : zCT lc G 1 yX11_nextToken cX11_nextToken 2 none [.ref (G.ad 11 0)] μ (zV fun μ' => frm prP prQ μ μ' ∧ PT μ' T n (nbS T n b) cu hn pn c) := by
  obtain ⟨hs, rfl⟩ := h
  refine zCT_post (cr_next hs.1) ?_
  rintro rv μ' ⟨rfl, hf, hp⟩
  exact ⟨rfl, tk_pr hf, PS_tk hs hf hp, tape_pr (tk_pr hf)⟩
theorem pw_word (h : PT μ T n b cu hn pn c) {w : Int64} : zCT lc G 2 yX11_needsWord cX11_needsWord 3 (some .boolean) [.ref (G.ad 11 0), .long w] μ (zI fun r μ' => frm prP prQ μ μ' ∧ rdQ (wordP T n w b) r μ' (fun b' => PT μ' T n b' cu hn pn c)) := by
  obtain ⟨hs, rfl⟩ := h
  refine zCT_post (cr_needsWord hs.1) ?_
  rintro rv μ' ⟨r, rfl, hf, hq⟩
  refine ⟨r, rfl, hf, ?_⟩
  cases e : wordP (μ.1 35 0) n w b with
  | ok b' => rw [e] at hq; exact ⟨hq.1, PS_tk hs hq.2.1 hq.2.2, tape_pr hf⟩
  | error f => rw [e] at hq; exact hq
theorem pw_end (h : PT μ T n b cu hn pn c) : zCT lc G 2 yX11_ends cX11_ends 1 (some .boolean) [.ref (G.ad 11 0)] μ (zI fun r μ' => frm prP prQ μ μ' ∧ rdQ (endP T n b) r μ' (fun b' => PT μ' T n b' cu hn pn c)) := by
  obtain ⟨hs, rfl⟩ := h
  refine zCT_post (cr_ends hs.1) ?_
  rintro rv μ' ⟨r, rfl, hf, hq⟩
  refine ⟨r, rfl, hf, ?_⟩
  cases e : endP (μ.1 35 0) n b with
  | ok b' => rw [e] at hq; exact ⟨hq.1, PS_tk hs hq.2.1 hq.2.2, tape_pr hf⟩
  | error f => rw [e] at hq; exact hq
theorem pw_num (h : PT μ T n b cu hn pn c) {lo hi : Int32} : zCT lc G 2 yX11_needsNumber cX11_needsNumber 3 (some .boolean) [.ref (G.ad 11 0), .int lo, .int hi] μ (zI fun r μ' => frm prP prQ μ μ' ∧ rdQ (numP T n lo hi b) r μ' (fun q => μ'.1 11 0 45 = q.1 ∧ PT μ' T n q.2 cu hn pn c)) := by
  obtain ⟨hs, rfl⟩ := h
  refine zCT_post (cr_needsNumber hs.1) ?_
  rintro rv μ' ⟨r, rfl, hf, hq⟩
  refine ⟨r, rfl, hf, ?_⟩
  cases e : numP (μ.1 35 0) n lo hi b with
  | ok q => rw [e] at hq; exact ⟨hq.1, hq.2.1, PS_tk (PS_45 hs) hq.2.2.2 hq.2.2.1, tape_pr hf⟩
  | error f => rw [e] at hq; exact hq
theorem pw_per (h : PT μ T n b cu hn pn c) (hc : cnt cu) {x1 x2 : Int32} : zCT lc G 2 yX11_needsPerson cX11_needsPerson 3 (some .boolean) [.ref (G.ad 11 0), .int x1, .int x2] μ (zI fun r μ' => frm prP prQ μ μ' ∧ rdQ (perP T n pn (ix (cu 0 1)) x1 x2 b) r μ' (fun q => μ'.1 11 0 45 = q.1 ∧ PT μ' T n q.2 cu hn pn c)) := by
  obtain ⟨hs, rfl⟩ := h
  have e1 : μ.1 37 0 1 = cu 0 1 := by rw [← hs.2.1]; rfl
  have x := zix hc.2.1
  refine zCT_post (cr_needsPerson (np := ix (cu 0 1)) hs.1 (by omega) (by rw [e1]; exact vof hc.2.1 (by omega))) ?_
  rintro rv μ' ⟨r, rfl, hf, hq⟩
  refine ⟨r, rfl, hf, ?_⟩
  rw [hs.2.2.2.1] at hq
  cases e : perP (μ.1 35 0) n pn (ix (cu 0 1)) x1 x2 b with
  | ok q => rw [e] at hq; exact ⟨hq.1, hq.2.1, PS_tk (PS_45 hs) hq.2.2.2 hq.2.2.1, tape_pr hf⟩
  | error f => rw [e] at hq; exact hq
theorem pw_new (h : PT μ T n b cu hn pn c) (hc : cnt cu) : zCT lc G 1 yX11_isNew cX11_isNew 1 (some .boolean) [.ref (G.ad 11 0)] μ (zI fun r μ' => frm prP prQ μ μ' ∧ rdQ (newP T n hn pn (ix (cu 0 0)) (ix (cu 0 1)) b) r μ' (fun w => w = μ'.2 11 0 7 ∧ PT μ' T n b cu hn pn c)) := by
  obtain ⟨hs, rfl⟩ := h
  have e0 : μ.1 36 0 1 = cu 0 0 := by rw [← hs.2.1]; rfl
  have e1 : μ.1 37 0 1 = cu 0 1 := by rw [← hs.2.1]; rfl
  have x := zix hc.2.1
  have y := zix hc.1
  refine zCT_post (cr_isNew (nh := ix (cu 0 0)) (np := ix (cu 0 1)) hs.1 (by omega) (by rw [e0]; exact vof hc.1 (by omega)) (by omega) (by rw [e1]; exact vof hc.2.1 (by omega))) ?_
  rintro rv μ' ⟨r, rfl, hf, hq⟩
  refine ⟨r, rfl, hf, ?_⟩
  rw [hs.2.2.2.1, hs.2.2.1] at hq
  cases e : newP (μ.1 35 0) n hn pn (ix (cu 0 0)) (ix (cu 0 1)) b with
  | ok w =>
    rw [e] at hq
    obtain ⟨q1, q2, rfl⟩ := hq
    exact ⟨q1, by rw [q2]; exact hs.1.2.2.2.2.2.2.1.symm, hs, rfl⟩
  | error f => rw [e] at hq; exact hq
theorem pw_isWord (h : PT μ T n b cu hn pn c) {w : Int64} : zCT lc G 0 yX11_isWord cX11_isWord 3 (some .boolean) [.ref (G.ad 11 0), .long w] μ (zI fun r μ' => r = b2i (isW T n b w) ∧ μ' = μ) := by
  obtain ⟨hs, rfl⟩ := h
  exact cr_isWord hs.1
theorem pw_fail (h : PT μ T n b cu hn pn c) {x : Int32} : zCT lc G 0 yX11_fails cX11_fails 2 (some .boolean) [.ref (G.ad 11 0), .int x] μ (zI fun r μ' => r = 0 ∧ μ' = pI μ 11 0 9 (ftS x b)) := cr_fails h.1.1
theorem pw_kept (h : PT μ T n b cu hn pn c) : zCT lc G 0 yX11_isKept cX11_isKept 1 (some .boolean) [.ref (G.ad 11 0)] μ (zI fun r μ' => r = b2i (kpS T n b) ∧ μ' = μ) := by
  obtain ⟨hs, rfl⟩ := h
  exact cr_isKept hs.1
theorem pw_kind (h : PT μ T n b cu hn pn c) : zCT lc G 1 yX11_kindAt cX11_kindAt 1 (some .int) [.ref (G.ad 11 0)] μ (zI fun r μ' => r = kinS T n b ∧ μ' = μ) := by
  obtain ⟨hs, rfl⟩ := h
  exact cr_kindAt hs.1
theorem pw_hillNamed (h : PT μ T n b cu hn pn c) (hc : cnt cu) : zCT lc G 0 yX11_hillNamed cX11_hillNamed 2 (some .int) [.ref (G.ad 11 0)] μ (zI fun r μ' => r = fdN hn (wdS T n b) (ix (cu 0 0)) 0 ∧ μ' = μ) := by
  obtain ⟨hs, rfl⟩ := h
  have e0 : μ.1 36 0 1 = cu 0 0 := by rw [← hs.2.1]; rfl
  have y := zix hc.1
  have := cr_hillNamed (lc := lc) (G := G) (c := ix (cu 0 0)) hs.1 (by omega) (by rw [e0]; exact vof hc.1 (by omega))
  rw [hs.2.2.1] at this
  exact this
/-- a write into block 1 -/
theorem PT_w {κ k j l : Nat} {v : Int32} (h : PT μ T n b cu hn pn c) (h1 : κ ≠ 11) (h2 : κ ≠ 35) (hw : cuB (pI μ κ 0 k v) 1 = bU (cuB μ 1) j l v) : PT (pI μ κ 0 k v) T n b (bU cu j l v) hn pn c := by
  obtain ⟨⟨a1, a2, a3, a4, a5⟩, a6⟩ := h
  exact ⟨⟨PI_far a1 h1 h2, by rw [hw, a2], a3, a4, by rw [pI_other _ _ _ _ _ _ (Ne.symm h1)]; exact a5⟩, by rw [pI_row2 _ _ _ _ _ (Ne.symm h2)]; exact a6⟩
theorem PT_hn {k : Nat} {v : Int64} (h : PT μ T n b cu hn pn c) : PT (pL μ 40 0 k v) T n b cu (updN hn k v) pn c := by
  obtain ⟨⟨a1, a2, a3, a4, a5⟩, a6⟩ := h
  refine ⟨⟨PI_L a1 (by decide), a2, by rw [pL_rowN, a3], ?_, a5⟩, a6⟩
  rw [← a4]; funext j; simp [pL]
theorem PT_pn {k : Nat} {v : Int64} (h : PT μ T n b cu hn pn c) : PT (pL μ 41 0 k v) T n b cu hn (updN pn k v) c := by
  obtain ⟨⟨a1, a2, a3, a4, a5⟩, a6⟩ := h
  refine ⟨⟨PI_L a1 (by decide), a2, ?_, by rw [pL_rowN, a4], a5⟩, a6⟩
  rw [← a3]; funext j; simp [pL]
end PW
def hillP (T : Nat → Int32) (n : Nat) (cu : zB) (hn pn : Nat → Int64) (b : Nat) : Except Int32 (zB × (Nat → Int64) × Nat) :=
  if cu 0 0 = 4 then .error (ftS 5 b) else do
    let w ← newP T n hn pn (ix (cu 0 0)) (ix (cu 0 1)) (nbS T n b)
    let b3 ← wordP T n 3427 (nbS T n (nbS T n b))
    let d ← numP T n 0 8 b3
    let b5 ← wordP T n 16922 d.2
    let e ← numP T n 0 8 b5
    let b7 ← endP T n e.2
    pure (bU (bU (bU cu 1 (ix (cu 0 0)) d.1) 2 (ix (cu 0 0)) e.1) 0 0 (cu 0 0 + 1), updN hn (ix (cu 0 0)) w, b7)
theorem a4 (l : Nat) : (4 : Int32) + nI l = nI (4 + l) := nI_add 4 l
theorem cnt_same {cu : zB} {j k : Nat} {v : Int32} (h : cnt cu) (hj : j ≠ 0) : cnt (bU cu j k v) := by
  unfold cnt at *
  rw [bU_row (Ne.symm hj)]; exact h
set_option maxHeartbeats 2000000 in
theorem cr_readsHill {lc : Launch} {G : zG} {μ : zM} {T : Nat → Int32} {n b c : Nat} {cu : zB} {hn pn : Nat → Int64} (h : PT μ T n b cu hn pn c) (hc : cnt cu) :
    zCT lc G 3 yX11_readsHill cX11_readsHill 2 (some .boolean) [.ref (G.ad 11 0)] μ (zI fun r μ' => frm prP prQ μ μ' ∧ rdQ (hillP T n cu hn pn b) r μ' (fun q => PT μ' T n q.2.2 q.1 q.2.1 pn c)) := by
  generalize hres : hillP T n cu hn pn b = res
  refine zCT_of (by decide) (Nat.le_of_ble_eq_true rfl) rfl (fun X hl0 hG hX hr => ?_)
  subst hG
  have e0 : μ.1 36 0 1 = cu 0 0 := by rw [← h.1.2.1]; rfl
  have y := zix hc.1
  have ey := vof hc.1 (by omega)
  refine st_X11_readsHill_0 hX hr ?_
  simp only [forall_eq, e0]
  refine ⟨fun c4 => ?_, fun c4 => ?_⟩
  · have hlt : ix (cu 0 0) < 4 := by
      rcases Nat.lt_or_ge (ix (cu 0 0)) 4 with q | q
      · exact q
      · exact absurd (by rw [ey, show ix (cu 0 0) = 4 by omega]; rfl) c4
    rw [hillP, if_neg c4] at hres
    refine ⟨1, _, by omega, pw_next h, ?_⟩
    rintro μ1 ⟨f1, h1⟩
    refine ⟨1, _, by omega, pw_new h1 hc, ?_⟩
    rintro r μ2 ⟨f2, q2⟩
    have F2 := f1.trans f2
    cases e2 : newP T n hn pn (ix (cu 0 0)) (ix (cu 0 1)) (nbS T n b) with
    | error f =>
      rw [e2] at q2
      simp only [bind, Except.bind, e2] at hres
      subst hres
      exact ⟨fun q => absurd q2.1 q, fun _ => ⟨_, rfl, F2, rfl, q2.2⟩⟩
    | ok w =>
      rw [e2] at q2
      simp only [bind, Except.bind, e2] at hres
      obtain ⟨rfl, hw, h2⟩ := q2
      refine ⟨fun _ => ⟨vmono (by rw [ey]; exact vin hlt (by omega)) (by omega), ?_⟩, fun q => absurd q (by decide)⟩
      have h2' := PT_hn (k := ix (cu 0 0)) (v := μ2.2 11 0 7) h2
      rw [← hw] at h2' ⊢
      refine ⟨1, _, by omega, pw_next h2', ?_⟩
      rintro μ3 ⟨f3, h3⟩
      have F3 := (F2.trans (frm_L (frm.rf μ2) (by simp [prQ]) _)).trans f3
      refine ⟨2, _, by omega, pw_word h3, ?_⟩
      rintro r μ4 ⟨f4, q4⟩
      have F4 := F3.trans f4
      cases e4 : wordP T n 3427 (nbS T n (nbS T n b)) with
      | error f =>
        rw [e4] at q4
        simp only [e4] at hres
        subst hres
        exact ⟨fun _ => ⟨_, rfl, F4, rfl, q4.2⟩, fun q => absurd q4.1 q⟩
      | ok b3 =>
        rw [e4] at q4
        obtain ⟨rfl, h4⟩ := q4
        simp only [e4] at hres
        refine ⟨fun q => absurd q (by decide), fun _ => ⟨2, _, by omega, pw_num h4, ?_⟩⟩
        rintro r μ5 ⟨f5, q5⟩
        have F5 := F4.trans f5
        cases e5 : numP T n 0 8 b3 with
        | error f =>
          rw [e5] at q5
          simp only [e5] at hres
          subst hres
          exact ⟨fun q => absurd q5.1 q, fun _ => ⟨_, rfl, F5, rfl, q5.2⟩⟩
        | ok d =>
          rw [e5] at q5
          obtain ⟨rfl, hd, h5⟩ := q5
          simp only [e5] at hres
          have ei : ix ((4 : Int32) + cu 0 0) = 4 * 1 + ix (cu 0 0) := by rw [ey, a4, ixn (by omega), ixn (by omega)]
          refine ⟨fun _ => ⟨by rw [ey, a4]; exact vin (by omega) (by omega), ?_⟩, fun q => absurd q (by decide)⟩
          rw [hd, ei]
          have h5' := PT_w h5 (by decide) (by decide) (cbw1 μ5 1 d.1 hlt)
          have F5' := F5.trans (frm_I (P := prP) (Q := prQ) (frm.rf μ5) (κ := 42) (o := 0) (k := 4 * 1 + ix (cu 0 0)) (by simp [prP]; omega) d.1)
          refine ⟨2, _, by omega, pw_word h5', ?_⟩
          rintro r μ6 ⟨f6, q6⟩
          have F6 := F5'.trans f6
          cases e6 : wordP T n 16922 d.2 with
          | error f =>
            rw [e6] at q6
            simp only [e6] at hres
            subst hres
            exact ⟨fun _ => ⟨_, rfl, F6, rfl, q6.2⟩, fun q => absurd q6.1 q⟩
          | ok b5 =>
            rw [e6] at q6
            obtain ⟨rfl, h6⟩ := q6
            simp only [e6] at hres
            refine ⟨fun q => absurd q (by decide), fun _ => ⟨2, _, by omega, pw_num h6, ?_⟩⟩
            rintro r μ7 ⟨f7, q7⟩
            have F7 := F6.trans f7
            cases e7 : numP T n 0 8 b5 with
            | error f =>
              rw [e7] at q7
              simp only [e7] at hres
              subst hres
              exact ⟨fun q => absurd q7.1 q, fun _ => ⟨_, rfl, F7, rfl, q7.2⟩⟩
            | ok e =>
              rw [e7] at q7
              obtain ⟨rfl, he, h7⟩ := q7
              simp only [e7] at hres
              refine ⟨fun _ => ?_, fun q => absurd q (by decide)⟩
              rw [he]
              have h7' := PT_w h7 (by decide) (by decide) (cbw2 μ7 1 e.1 hlt)
              have F7' := F7.trans (frm_I (P := prP) (Q := prQ) (frm.rf μ7) (κ := 43) (o := 0) (k := 4 * 1 + ix (cu 0 0)) (by simp [prP]; omega) e.1)
              have e8 : (pI μ7 43 0 (4 * 1 + ix (cu 0 0)) e.1).1 36 0 1 = cu 0 0 := by
                rw [show (pI μ7 43 0 (4 * 1 + ix (cu 0 0)) e.1).1 36 0 1 = cuB (pI μ7 43 0 (4 * 1 + ix (cu 0 0)) e.1) 1 0 0 from rfl, h7'.1.2.1]
                rw [bU_ne _ _ (by omega), bU_ne _ _ (by omega)]
              rw [e8]
              have h8 := PT_w h7' (by decide) (by decide) (cbw00 (pI μ7 43 0 (4 * 1 + ix (cu 0 0)) e.1) 1 (cu 0 0 + 1))
              have F8 := F7'.trans (frm_I (P := prP) (Q := prQ) (frm.rf (pI μ7 43 0 (4 * 1 + ix (cu 0 0)) e.1)) (κ := 36) (o := 0) (k := 1) (by simp [prP]) (cu 0 0 + 1))
              refine ⟨2, _, by omega, pw_end h8, ?_⟩
              rintro r μ9 ⟨f9, q9⟩
              refine ⟨rdQ_vp q9, _, rfl, F8.trans f9, ?_⟩
              cases e9 : endP T n e.2 with
              | error f =>
                rw [e9] at q9
                simp only [e9] at hres
                subst hres
                exact q9
              | ok b7 =>
                rw [e9] at q9
                simp only [e9] at hres
                subst hres
                exact q9
  · refine ⟨0, _, by omega, pw_fail h, ?_⟩
    rintro r μ' ⟨rfl, rfl⟩
    refine ⟨by decide, _, rfl, fail_pr (frm.rf _) _, ?_⟩
    rw [hillP, if_pos c4] at hres
    subst hres
    exact ⟨rfl, pI_at _ _ _ _ _⟩
