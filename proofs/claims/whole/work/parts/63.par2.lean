/-- how a reading method of the reference ends: well, or with a fault -/
def rdQ {α : Type} (res : Except Int32 α) (r : Int32) (μ' : zM) (Q : α → Prop) : Prop := match res with
  | .ok a => r = 1 ∧ Q a
  | .error f => r = 0 ∧ μ'.1 11 0 9 = f
theorem rdQ_vp {α : Type} {res : Except Int32 α} {r : Int32} {μ' : zM} {Q : α → Prop} (h : rdQ res r μ' Q) : narrow .boolean (.int r) = .int r := by
  cases res with
  | ok a => rw [h.1]; decide
  | error f => rw [h.1]; decide
theorem fail_pr {μ ν : zM} (h : frm prP prQ μ ν) (x : Int32) : frm prP prQ μ (pI ν 11 0 9 x) := frm_I h rfl x
set_option maxHeartbeats 1000000 in
theorem cr_personNamed {lc : Launch} {G : zG} {μ : zM} {n b c : Nat} (hP : PI μ n b) (hc : c ≤ 6) (ec : μ.1 37 0 1 = nI c) :
    zCT lc G 0 yX11_personNamed cX11_personNamed 2 (some .int) [.ref (G.ad 11 0)] μ (zI fun r μ' => r = fdN (μ.2 41 0) (wdS (μ.1 35 0) n b) c 0 ∧ μ' = μ) := by
  refine zCT_of (by decide) (Nat.le_of_ble_eq_true rfl) rfl (fun X hl0 hG hX hr => ?_)
  subst hG
  have h7 : μ.2 11 0 7 = wdS (μ.1 35 0) n b := hP.2.2.2.2.2.2.1
  have go : ∀ k i, i + k = c → fdN (μ.2 41 0) (wdS (μ.1 35 0) n b) k i = fdN (μ.2 41 0) (wdS (μ.1 35 0) n b) c 0 → AW X 2 [some (.ref (X.G.ad 11 0)), some (.int (nI i))] [] μ := by
    intro k
    induction k with
    | zero =>
      intro i hi he
      refine st_X11_personNamed_2 hX hr ⟨fun _ => ⟨_, rfl, by rw [← he]; rfl, rfl⟩, fun q => absurd ?_ q⟩
      rw [ec]; exact nI_le (by omega) (by omega)
    | succ k ih =>
      intro i hi he
      refine st_X11_personNamed_2 hX hr ⟨fun q => absurd q ?_, fun _ => ?_⟩
      · rw [ec]; exact nI_ge (by omega) (by omega)
      · simp only [forall_eq, nI_1, lg_cmp_eq, h7]
        rw [ixn (by omega)]
        rw [fdN] at he
        refine ⟨vin (by omega) (by omega), fun q => ih (i + 1) (by omega) (by rw [if_neg q] at he; exact he), fun q => ⟨_, rfl, by rw [← he, if_pos q], rfl⟩⟩
  exact st_X11_personNamed_0 hX hr (go c 0 (by omega) rfl)
set_option maxHeartbeats 1000000 in
theorem cr_hillNamed {lc : Launch} {G : zG} {μ : zM} {n b c : Nat} (hP : PI μ n b) (hc : c ≤ 4) (ec : μ.1 36 0 1 = nI c) :
    zCT lc G 0 yX11_hillNamed cX11_hillNamed 2 (some .int) [.ref (G.ad 11 0)] μ (zI fun r μ' => r = fdN (μ.2 40 0) (wdS (μ.1 35 0) n b) c 0 ∧ μ' = μ) := by
  refine zCT_of (by decide) (Nat.le_of_ble_eq_true rfl) rfl (fun X hl0 hG hX hr => ?_)
  subst hG
  have h7 : μ.2 11 0 7 = wdS (μ.1 35 0) n b := hP.2.2.2.2.2.2.1
  have go : ∀ k i, i + k = c → fdN (μ.2 40 0) (wdS (μ.1 35 0) n b) k i = fdN (μ.2 40 0) (wdS (μ.1 35 0) n b) c 0 → AW X 2 [some (.ref (X.G.ad 11 0)), some (.int (nI i))] [] μ := by
    intro k
    induction k with
    | zero =>
      intro i hi he
      refine st_X11_hillNamed_2 hX hr ⟨fun _ => ⟨_, rfl, by rw [← he]; rfl, rfl⟩, fun q => absurd ?_ q⟩
      rw [ec]; exact nI_le (by omega) (by omega)
    | succ k ih =>
      intro i hi he
      refine st_X11_hillNamed_2 hX hr ⟨fun q => absurd q ?_, fun _ => ?_⟩
      · rw [ec]; exact nI_ge (by omega) (by omega)
      · simp only [forall_eq, nI_1, lg_cmp_eq, h7]
        rw [ixn (by omega)]
        rw [fdN] at he
        refine ⟨vin (by omega) (by omega), fun q => ih (i + 1) (by omega) (by rw [if_neg q] at he; exact he), fun q => ⟨_, rfl, by rw [← he, if_pos q], rfl⟩⟩
  exact st_X11_hillNamed_0 hX hr (go c 0 (by omega) rfl)
theorem cr_needsWord {lc : Launch} {G : zG} {μ : zM} {n b : Nat} {w : Int64} (hP : PI μ n b) :
    zCT lc G 2 yX11_needsWord cX11_needsWord 3 (some .boolean) [.ref (G.ad 11 0), .long w] μ (zI fun r μ' => frm prP prQ μ μ' ∧ rdQ (wordP (μ.1 35 0) n w b) r μ' (fun b' => frm tkP tkQ μ μ' ∧ PI μ' n b')) := by
  refine zCT_of (by decide) (Nat.le_of_ble_eq_true rfl) rfl (fun X hl0 hG hX hr => ?_)
  subst hG
  refine st_X11_needsWord_0 hX hr ⟨0, _, by omega, cr_isWord hP, ?_⟩
  rintro r ν ⟨rfl, rfl⟩
  refine ⟨fun c => ⟨1, _, by omega, cr_next hP, ?_⟩, fun c => ⟨0, _, by omega, cr_fails hP, ?_⟩⟩
  · rintro μ' ⟨hf, hp⟩
    refine ⟨_, rfl, tk_pr hf, ?_⟩
    rw [wordP, if_pos (b2i1.mp c)]
    exact ⟨rfl, hf, hp⟩
  · rintro r μ' ⟨rfl, rfl⟩
    refine ⟨by decide, _, rfl, fail_pr (frm.rf _) _, ?_⟩
    rw [wordP, if_neg (by rw [b2i0.mp c]; simp)]
    exact ⟨rfl, pI_at _ _ _ _ _⟩
theorem cr_ends {lc : Launch} {G : zG} {μ : zM} {n b : Nat} (hP : PI μ n b) :
    zCT lc G 2 yX11_ends cX11_ends 1 (some .boolean) [.ref (G.ad 11 0)] μ (zI fun r μ' => frm prP prQ μ μ' ∧ rdQ (endP (μ.1 35 0) n b) r μ' (fun b' => frm tkP tkQ μ μ' ∧ PI μ' n b')) := by
  refine zCT_of (by decide) (Nat.le_of_ble_eq_true rfl) rfl (fun X hl0 hG hX hr => ?_)
  subst hG
  refine st_X11_ends_0 hX hr ⟨0, _, by omega, cr_isSign hP, ?_⟩
  rintro r ν ⟨rfl, rfl⟩
  refine ⟨fun c => ⟨1, _, by omega, cr_next hP, ?_⟩, fun c => ⟨0, _, by omega, cr_fails hP, ?_⟩⟩
  · rintro μ' ⟨hf, hp⟩
    refine ⟨_, rfl, tk_pr hf, ?_⟩
    rw [endP, if_pos (b2i1.mp c)]
    exact ⟨rfl, hf, hp⟩
  · rintro r μ' ⟨rfl, rfl⟩
    refine ⟨by decide, _, rfl, fail_pr (frm.rf _) _, ?_⟩
    rw [endP, if_neg (by rw [b2i0.mp c]; simp)]
    exact ⟨rfl, pI_at _ _ _ _ _⟩
theorem PI_45 {μ : zM} {n b : Nat} {v : Int32} (h : PI μ n b) : PI (pI μ 11 0 45 v) n b := by
  obtain ⟨h1, h2, h3, h5, h6, h4, h7, h8⟩ := h
  refine ⟨h1, h2, ?_, ?_⟩
  · rw [pI_place _ _ _ _ (by decide)]; exact h3
  · rw [pI_row2 _ _ _ _ _ (by decide)]
    exact ⟨by rw [pI_place _ _ _ _ (by decide)]; exact h5, by rw [pI_place _ _ _ _ (by decide)]; exact h6, by rw [pI_place _ _ _ _ (by decide)]; exact h4, h7, by rw [pI_place _ _ _ _ (by decide)]; exact h8⟩
theorem cr_needsNumber {lc : Launch} {G : zG} {μ : zM} {n b : Nat} {lo hi : Int32} (hP : PI μ n b) :
    zCT lc G 2 yX11_needsNumber cX11_needsNumber 3 (some .boolean) [.ref (G.ad 11 0), .int lo, .int hi] μ (zI fun r μ' => frm prP prQ μ μ' ∧ rdQ (numP (μ.1 35 0) n lo hi b) r μ' (fun q => μ'.1 11 0 45 = q.1 ∧ PI μ' n q.2 ∧ frm tkP tkQ (pI μ 11 0 45 q.1) μ')) := by
  refine zCT_of (by decide) (Nat.le_of_ble_eq_true rfl) rfl (fun X hl0 hG hX hr => ?_)
  subst hG
  have h6 : μ.1 11 0 6 = tyS (μ.1 35 0) n b := hP.2.2.2.2.1
  have h8 : μ.1 11 0 8 = nmS (μ.1 35 0) n b := hP.2.2.2.2.2.2.2
  refine st_X11_needsNumber_0 hX hr ⟨fun c => ⟨0, _, by omega, cr_within, ?_⟩, fun c => ⟨0, _, by omega, cr_fails hP, ?_⟩⟩
  · rintro r ν ⟨rfl, rfl⟩
    have ct : tyS (ν.1 35 0) n b = 2 := by rw [← h6]; exact c
    simp only [forall_eq]
    refine ⟨fun c2 => ?_, fun c2 => ⟨0, _, by omega, cr_fails hP, ?_⟩⟩
    · refine ⟨1, _, by omega, cr_next (PI_45 hP), ?_⟩
      rintro μ' ⟨hf, hp⟩
      rw [pI_row2 _ _ _ _ _ (by decide)] at hp
      rw [h8] at c2 hf
      refine ⟨_, rfl, (frm_I (frm.rf _) rfl _).trans (tk_pr hf), ?_⟩
      rw [numP, if_pos ct, if_pos (b2i1.mp c2)]
      refine ⟨rfl, ?_, hp, hf⟩
      rw [hf.1 11 0 45 rfl, pI_at]
    · rintro r μ' ⟨rfl, rfl⟩
      refine ⟨by decide, _, rfl, fail_pr (frm.rf _) _, ?_⟩
      rw [h8] at c2
      rw [numP, if_pos ct, if_neg (by rw [b2i0.mp c2]; simp)]
      exact ⟨rfl, pI_at _ _ _ _ _⟩
  · rintro r μ' ⟨rfl, rfl⟩
    refine ⟨by decide, _, rfl, fail_pr (frm.rf _) _, ?_⟩
    rw [numP, if_neg (by rw [← h6]; exact c)]
    exact ⟨rfl, pI_at _ _ _ _ _⟩
theorem cr_isNew {lc : Launch} {G : zG} {μ : zM} {n b nh np : Nat} (hP : PI μ n b) (hh : nh ≤ 4) (eh : μ.1 36 0 1 = nI nh) (hp : np ≤ 6) (ep : μ.1 37 0 1 = nI np) :
    zCT lc G 1 yX11_isNew cX11_isNew 1 (some .boolean) [.ref (G.ad 11 0)] μ (zI fun r μ' => frm prP prQ μ μ' ∧ rdQ (newP (μ.1 35 0) n (μ.2 40 0) (μ.2 41 0) nh np b) r μ' (fun w => w = wdS (μ.1 35 0) n b ∧ μ' = μ)) := by
  refine zCT_of (by decide) (Nat.le_of_ble_eq_true rfl) rfl (fun X hl0 hG hX hr => ?_)
  subst hG
  refine st_X11_isNew_0 hX hr ⟨0, _, by omega, cr_isKept hP, ?_⟩
  rintro r ν ⟨rfl, rfl⟩
  refine ⟨fun c => ⟨0, _, by omega, cr_personNamed hP hp ep, ?_⟩, fun c => ⟨0, _, by omega, cr_fails hP, ?_⟩⟩
  · have hk : ¬ kpS (ν.1 35 0) n b = true := by rw [b2i0.mp c]; simp
    rintro r ν ⟨rfl, rfl⟩
    refine ⟨fun c2 => ⟨0, _, by omega, cr_fails hP, ?_⟩, fun c2 => ⟨0, _, by omega, cr_hillNamed hP hh eh, ?_⟩⟩
    · rintro r μ' ⟨rfl, rfl⟩
      refine ⟨fun _ => ⟨_, rfl, fail_pr (frm.rf _) _, ?_⟩, fun q => absurd rfl q⟩
      rw [newP, if_neg hk, if_pos c2]
      exact ⟨rfl, pI_at _ _ _ _ _⟩
    · rintro r ν ⟨rfl, rfl⟩
      refine ⟨fun c3 => ⟨_, rfl, frm.rf _, ?_⟩, fun c3 => ⟨0, _, by omega, cr_fails hP, ?_⟩⟩
      · rw [newP, if_neg hk, if_neg c2, if_pos c3]
        exact ⟨rfl, rfl, rfl⟩
      · rintro r μ' ⟨rfl, rfl⟩
        refine ⟨fun _ => ⟨_, rfl, fail_pr (frm.rf _) _, ?_⟩, fun q => absurd rfl q⟩
        rw [newP, if_neg hk, if_neg c2, if_neg c3]
        exact ⟨rfl, pI_at _ _ _ _ _⟩
  · rintro r μ' ⟨rfl, rfl⟩
    refine ⟨by decide, _, rfl, fail_pr (frm.rf _) _, ?_⟩
    rw [newP, if_pos (b2i1.mp c)]
    exact ⟨rfl, pI_at _ _ _ _ _⟩
theorem cr_needsPerson {lc : Launch} {G : zG} {μ : zM} {n b np : Nat} {x1 x2 : Int32} (hP : PI μ n b) (hp : np ≤ 6) (ep : μ.1 37 0 1 = nI np) :
    zCT lc G 2 yX11_needsPerson cX11_needsPerson 3 (some .boolean) [.ref (G.ad 11 0), .int x1, .int x2] μ (zI fun r μ' => frm prP prQ μ μ' ∧ rdQ (perP (μ.1 35 0) n (μ.2 41 0) np x1 x2 b) r μ' (fun q => μ'.1 11 0 45 = q.1 ∧ PI μ' n q.2 ∧ frm tkP tkQ (pI μ 11 0 45 q.1) μ')) := by
  refine zCT_of (by decide) (Nat.le_of_ble_eq_true rfl) rfl (fun X hl0 hG hX hr => ?_)
  subst hG
  refine st_X11_needsPerson_0 hX hr ⟨0, _, by omega, cr_isKept hP, ?_⟩
  rintro r ν ⟨rfl, rfl⟩
  refine ⟨fun c => ⟨0, _, by omega, cr_personNamed hP hp ep, ?_⟩, fun c => ⟨0, _, by omega, cr_fails hP, ?_⟩⟩
  · have hk : ¬ kpS (ν.1 35 0) n b = true := by rw [b2i0.mp c]; simp
    rintro r ν ⟨rfl, rfl⟩
    simp only [forall_eq, pI_at]
    refine ⟨fun c2 => ⟨fun c3 => ⟨0, _, by omega, cr_fails (PI_45 hP), ?_⟩, fun c3 => ⟨fun c4 => ⟨1, _, by omega, cr_next (PI_45 hP), ?_⟩, fun c4 => ⟨0, _, by omega, cr_fails (PI_45 hP), ?_⟩⟩⟩, fun c2 => ⟨0, _, by omega, cr_fails (PI_45 hP), ?_⟩⟩
    · rintro r μ' ⟨rfl, rfl⟩
      refine ⟨by decide, _, rfl, fail_pr (frm_I (frm.rf _) rfl _) _, ?_⟩
      rw [perP, if_neg hk, if_pos c2, if_pos (Or.inl c3)]
      exact ⟨rfl, pI_at _ _ _ _ _⟩
    · rintro μ' ⟨hf, hpi⟩
      rw [pI_row2 _ _ _ _ _ (by decide)] at hpi
      refine ⟨_, rfl, (frm_I (frm.rf _) rfl _).trans (tk_pr hf), ?_⟩
      rw [perP, if_neg hk, if_pos c2, if_neg (fun h => h.elim c3 c4)]
      refine ⟨rfl, ?_, hpi, hf⟩
      rw [hf.1 11 0 45 rfl, pI_at]
    · rintro r μ' ⟨rfl, rfl⟩
      refine ⟨by decide, _, rfl, fail_pr (frm_I (frm.rf _) rfl _) _, ?_⟩
      rw [perP, if_neg hk, if_pos c2, if_pos (Or.inr c4)]
      exact ⟨rfl, pI_at _ _ _ _ _⟩
    · rintro r μ' ⟨rfl, rfl⟩
      refine ⟨by decide, _, rfl, fail_pr (frm_I (frm.rf _) rfl _) _, ?_⟩
      rw [perP, if_neg hk, if_neg c2]
      exact ⟨rfl, pI_at _ _ _ _ _⟩
  · rintro r μ' ⟨rfl, rfl⟩
    refine ⟨by decide, _, rfl, fail_pr (frm.rf _) _, ?_⟩
    rw [perP, if_pos (b2i1.mp c)]
    exact ⟨rfl, pI_at _ _ _ _ _⟩
theorem cr_kindAt {lc : Launch} {G : zG} {μ : zM} {n b : Nat} (hP : PI μ n b) :
    zCT lc G 1 yX11_kindAt cX11_kindAt 1 (some .int) [.ref (G.ad 11 0)] μ (zI fun r μ' => r = kinS (μ.1 35 0) n b ∧ μ' = μ) := by
  refine zCT_of (by decide) (Nat.le_of_ble_eq_true rfl) rfl (fun X hl0 hG hX hr => ?_)
  subst hG
  refine st_X11_kindAt_0 hX hr ⟨0, _, by omega, cr_isWord hP, ?_⟩
  rintro r ν ⟨rfl, rfl⟩
  refine ⟨fun c => ⟨0, _, by omega, cr_isWord hP, ?_⟩, fun c => ⟨_, rfl, by rw [kinS, if_pos (b2i1.mp c)], rfl⟩⟩
  rintro r ν ⟨rfl, rfl⟩
  refine ⟨fun c2 => ⟨0, _, by omega, cr_isWord hP, ?_⟩, fun c2 => ⟨_, rfl, by rw [kinS, if_neg (by rw [b2i0.mp c]; simp), if_pos (b2i1.mp c2)], rfl⟩⟩
  rintro r ν ⟨rfl, rfl⟩
  refine ⟨fun c3 => ⟨0, _, by omega, cr_isWord hP, ?_⟩, fun c3 => ⟨_, rfl, by rw [kinS, if_neg (by rw [b2i0.mp c]; simp), if_neg (by rw [b2i0.mp c2]; simp), if_pos (b2i1.mp c3)], rfl⟩⟩
  rintro r ν ⟨rfl, rfl⟩
  refine ⟨fun c4 => ⟨0, _, by omega, cr_isWord hP, ?_⟩, fun c4 => ⟨_, rfl, by rw [kinS, if_neg (by rw [b2i0.mp c]; simp), if_neg (by rw [b2i0.mp c2]; simp), if_neg (by rw [b2i0.mp c3]; simp), if_pos (b2i1.mp c4)], rfl⟩⟩
  rintro r ν ⟨rfl, rfl⟩
  refine ⟨fun c5 => ⟨0, _, by omega, cr_isWord hP, ?_⟩, fun c5 => ⟨_, rfl, by rw [kinS, if_neg (by rw [b2i0.mp c]; simp), if_neg (by rw [b2i0.mp c2]; simp), if_neg (by rw [b2i0.mp c3]; simp), if_neg (by rw [b2i0.mp c4]; simp), if_pos (b2i1.mp c5)], rfl⟩⟩
  rintro r ν ⟨rfl, rfl⟩
  refine ⟨fun c6 => ⟨_, rfl, by rw [kinS, if_neg (by rw [b2i0.mp c]; simp), if_neg (by rw [b2i0.mp c2]; simp), if_neg (by rw [b2i0.mp c3]; simp), if_neg (by rw [b2i0.mp c4]; simp), if_neg (by rw [b2i0.mp c5]; simp), if_neg (by rw [b2i0.mp c6]; simp)], rfl⟩, fun c6 => ⟨_, rfl, by rw [kinS, if_neg (by rw [b2i0.mp c]; simp), if_neg (by rw [b2i0.mp c2]; simp), if_neg (by rw [b2i0.mp c3]; simp), if_neg (by rw [b2i0.mp c4]; simp), if_neg (by rw [b2i0.mp c5]; simp), if_pos (b2i1.mp c6)], rfl⟩⟩
