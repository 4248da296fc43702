/-! EARLY AND UNDONE -/
section EA
variable {l : Launch} {G : zG} {S : zSt} {μ ν : zM} {M : Int} {x w : Int32}
theorem b_kind {κ o : Nat} (q : bKind κ = true) : clK κ o = true := by
  simp only [bKind, Bool.or_eq_true, beq_iff_eq] at q
  exact decide_eq_true (by omega)
/-- the cells after one was kept -/
theorem kept_cells {p : Nat} {τ : zB} {ν1 : zM} {v v' : Int32} (hc : cI S ν) (e1 : ν1 = pI (pI (putB ν (1 + p) τ) 4 0 1 v) 4 0 0 v') : cR S.cu ν1 0 ∧ bR S.cu (getB ν1 0) S.b := by
  constructor
  · rw [e1]
    unfold cR
    simp only [pI_row2 _ _ _ _ _ (show (2 : Nat) ≠ 4 by decide), pI_row2 _ _ _ _ _ (show (19 : Nat) ≠ 4 by decide), pI_row2 _ _ _ _ _ (show (20 : Nat) ≠ 4 by decide), pI_row2 _ _ _ _ _ (show (21 : Nat) ≠ 4 by decide), pI_row2 _ _ _ _ _ (show (7 : Nat) ≠ 4 by decide), pI_row2 _ _ _ _ _ (show (23 : Nat) ≠ 4 by decide), pI_row2 _ _ _ _ _ (show (24 : Nat) ≠ 4 by decide)]
    exact cR_pB hc.2.1.1
  · have : getB ν1 0 = getB ν 0 := by
      rw [e1, getB_ext (μ := putB ν (1 + p) τ) (fun κ q => ?_), getB_putB_ne _ _ (by omega)]
      rw [pI_row2 _ _ _ _ _ (by rintro rfl; cases q), pI_row2 _ _ _ _ _ (by rintro rfl; cases q)]
    rw [this]; exact hc.2.2.1
theorem kept_fm {p : Nat} {τ τ2 : zB} {v v' : Int32} : fm clK ν (putB (pI (pI (putB ν (1 + p) τ) 4 0 1 v) 4 0 0 v') 0 τ2) :=
  fm_B (fm_I (fm_I (fm_B (fm.rf ν) (fun κ q => b_kind q) _) rfl _ _) rfl _ _) (fun κ q => b_kind q) _
theorem kept_I (hk : cOk S.cu) (hc : cI S ν) (hd : S.d ≤ 30) {p : Nat} (hp : p < 30) (ep : ν.1 4 0 1 = nI p) (hP : ∀ j, j < S.d → bR S.cu (getB ν (1 + rg p S.d j)) (S.P j)) {τ τ2 b : zB} (he : eqB τ (getB ν 0)) (b2 : bR S.cu τ2 b) : cI (S.bk b (kpD S.d) (kpP S.d S.P S.b)) (putB (pI (pI (putB ν (1 + p) τ) 4 0 1 (nI (nxtP p))) 4 0 0 (nI (if S.d = 30 then 30 else S.d + 1))) 0 τ2) := by
  refine cI_book hc (fun κ o q1 q2 q3 => ?_) (bR_eqB hk b2 (getB_putB _ _ _)) (cPs_keep hk hc hd hp ep hP he rfl)
  funext k
  by_cases hb : bKind κ = true
  · rw [pBo _ _ _ (by have := q3 hb; omega), pI_row2 _ _ _ _ _ q2, pI_row2 _ _ _ _ _ q2, pBo _ _ _ (by have := q3 hb; omega)]
  · have hb : bKind κ = false := by cases h : bKind κ with | true => exact absurd h hb | false => rfl
    rw [pBx _ _ _ hb, pI_row2 _ _ _ _ _ q2, pI_row2 _ _ _ _ _ q2, pBx _ _ _ hb]
theorem keptR {v : Int32} (hr1 : rI S ν) (hd : S.d ≤ 30) {s' : Nat → Int32} {m' : Int32} {b : zB} (g : bOf s' = b) : fm rfK ν (putS (keepM (thr ν v)) s' m') ∧ rI (S.bk b (kpD S.d) (kpP S.d S.P S.b)) (putS (keepM (thr ν v)) s' m') := by
  refine ⟨fm_I (fm_R (fm_I (fm_R fm_thr rfl _) rfl _ _) rfl _) rfl _ _, rI_book hr1 (fun κ q => ?_) ?_ ?_ (rPs_keep hr1 hd)⟩
  · rw [putS, pI_row2 _ _ _ _ _ (by omega), pR_row2 _ _ _ _ (by omega), keepM, pI_row2 _ _ _ _ _ (by omega), pR_row2 _ _ _ _ (by omega), thr, pI_row2 _ _ _ _ _ (by omega)]
  · rw [putS, pI_place _ _ _ _ (by decide), pR_other _ _ _ _ _ (by decide), keepM, pI_place _ _ _ _ (by decide), pR_other _ _ _ _ _ (by decide), thr, pI_place _ _ _ _ (by decide)]
  · rw [putS, pI_row2 _ _ _ _ _ (by decide), pR_row]; exact g
set_option maxHeartbeats 1000000 in
theorem pr_early (h : Rel M μ) (hM : M ≤ 990000) : zCT l G 3 yX10_early cX10_early 2 (some .boolean) [.ref (G.ad 10 0), .int x] μ (zI fun r μ1 => zCT l G 3 yX11_early cX11_early 2 (some .boolean) [.ref (G.ad 11 0), .int x] μ1 (zI fun r2 μ2 => r2 = r ∧ Rel M μ2)) := by
  refine pr_I (R := fun _ => True) h (fun S hc hr0 hw => ?_)
  have hk := hw.2.1.1
  obtain ⟨p, hp, ed, ep, hP⟩ := hc.2.2.2.1
  have hd := hw.2.2.2.1.1
  have ewz := hc.2.1.1.1.2.2.1
  have hin : inR x (S.cu 0 2) = true → ix x < nLo S.cu ∧ x = nI (ix x) := fun c => ⟨zix (inR_vp c), vof (inR_vp c) (by have := (cOk_n hk).1; show nLo S.cu < _; omega)⟩
  by_cases c : canS S.cu S.b x = true
  · have c' := c
    unfold canS at c'
    rw [Bool.and_eq_true] at c'
    obtain ⟨c1, c2⟩ := c'
    obtain ⟨hx, ex⟩ := hin c1
    have a6 := cOk_at hk hx
    have t0 := (tk_inv a6.1 (zix a6.2.2.1) (zix a6.2.1) (bI_inv hw.2.2.1.2 (by omega))).2.2.1
    refine ⟨1, S.bk (payS S.cu (ix x) S.b) (kpD S.d) (kpP S.d S.P S.b), wI_book hw (by omega) ⟨pay_LI hw.2.2.1.1, pay_inv hk hx hw.2.2.1.2 (by omega)⟩ (by unfold kpD; split <;> omega) (kp_w hd hw.2.2.1 hw.2.2.2.1.2), ?_, fun μ1 hr1 => ?_⟩
    · refine zCT_of (by decide) (Nat.le_of_ble_eq_true rfl) rfl (fun X hl hG hX hr => ?_)
      subst hG
      refine st_X10_early_0 hX hr ⟨0, _, by omega, cc_isLoan (by omega), ?_⟩
      rintro r ν ⟨rfl, rfl⟩
      rw [ewz, c1]
      refine ⟨fun z => absurd z (by decide), fun _ => ?_⟩
      have CT := cb_can (l := X.l) (G := X.G) (o := 0) (c := 0) (by omega) (by omega) hk hc.2.1.1 hc.2.2.1 hx
      rw [putB_getB, ← ex] at CT
      refine ⟨0, _, by omega, CT, ?_⟩
      rintro r ν ⟨rfl, rfl⟩
      rw [c2]
      refine ⟨fun _ => ⟨2, _, by omega, cp_keep ed hd ep hp, ?_⟩, fun z => absurd z (by decide)⟩
      rintro ν1 ⟨τ, he, e1⟩
      obtain ⟨cr1, b1⟩ := kept_cells hc e1
      have CT := cb_pay (l := X.l) (G := X.G) (o := 0) (c := 0) (μ := ν1) (by omega) (by omega) hk cr1 b1 hx t0
      rw [putB_getB, ← ex] at CT
      refine ⟨1, _, by omega, CT, ?_⟩
      rintro ν2 ⟨τ2, rfl, b2⟩
      refine ⟨_, rfl, rfl, ?_, ?_⟩
      · rw [e1]; exact kept_fm
      · rw [e1]; exact kept_I hk hc hd hp ep hP he b2
    · have := cr_early (lc := l) (G := G) (μ := μ1) (x := x) (by rw [hr1.2.1.1]; exact hk) (by rw [hr1.2.2.2.1.1]; exact vin (by omega) (by omega))
      refine zCT_post this ?_
      rintro rv μ2 ⟨r, rfl, ⟨g1, rfl, s', m', rfl, g3⟩ | ⟨g1, -⟩⟩
      · rw [hr1.2.1.1, hr1.2.2.1] at g3
        obtain ⟨k1, k2⟩ := keptR (v := 0) (m' := m') hr1 hd g3
        exact ⟨_, rfl, rfl, k1, k2⟩
      · rw [hr1.2.1.1, hr1.2.2.1, c] at g1; cases g1
  · have c : canS S.cu S.b x = false := by cases q : canS S.cu S.b x with | true => exact absurd q c | false => rfl
    refine ⟨0, S, hw, ?_, fun μ1 hr1 => ?_⟩
    · refine zCT_of (by decide) (Nat.le_of_ble_eq_true rfl) rfl (fun X hl hG hX hr => ?_)
      subst hG
      refine st_X10_early_0 hX hr ⟨0, _, by omega, cc_isLoan (by omega), ?_⟩
      rintro r ν ⟨rfl, rfl⟩
      rw [ewz]
      refine ⟨fun _ => ⟨_, rfl, rfl, fm.rf _, hc⟩, fun z => ?_⟩
      have c1 := b2i1.mp z
      obtain ⟨hx, ex⟩ := hin c1
      have CT := cb_can (l := X.l) (G := X.G) (o := 0) (c := 0) (by omega) (by omega) hk hc.2.1.1 hc.2.2.1 hx
      rw [putB_getB, ← ex] at CT
      refine ⟨0, _, by omega, CT, ?_⟩
      rintro r ν ⟨rfl, rfl⟩
      unfold canS at c
      rw [c1, Bool.true_and] at c
      rw [c]
      exact ⟨fun z => absurd (by decide) z, fun _ => ⟨_, rfl, rfl, fm.rf _, hc⟩⟩
    · have := cr_early (lc := l) (G := G) (μ := μ1) (x := x) (by rw [hr1.2.1.1]; exact hk) (by rw [hr1.2.2.2.1.1]; exact vin (by omega) (by omega))
      refine zCT_post this ?_
      rintro rv μ2 ⟨r, rfl, ⟨g1, -⟩ | ⟨g1, rfl, rfl⟩⟩
      · rw [hr1.2.1.1, hr1.2.2.1, c] at g1; cases g1
      · exact ⟨_, rfl, rfl, fm_thr, rI_thr hr1⟩
theorem rg_back {p d j : Nat} (hp : p < 30) (hd : d ≤ 30) (h0 : 0 < d) : rg (prvP p) (d - 1) j = rg p d j ∧ rg p d (d - 1) = prvP p := by
  unfold rg prvP
  split <;> constructor <;> omega
set_option maxHeartbeats 1000000 in
theorem pr_undo (h : Rel M μ) : zCT l G 3 yX10_undo cX10_undo 1 (some .boolean) [.ref (G.ad 10 0)] μ (zI fun r μ1 => zCT l G 1 yX11_undo cX11_undo 1 (some .boolean) [.ref (G.ad 11 0)] μ1 (zI fun r2 μ2 => r2 = r ∧ Rel M μ2)) := by
  refine pr_I (R := fun _ => True) h (fun S hc hr0 hw => ?_)
  have hk := hw.2.1.1
  obtain ⟨p, hp, ed, ep, hP⟩ := hc.2.2.2.1
  have hd := hw.2.2.2.1.1
  by_cases c : S.d = 0
  · refine ⟨0, S, hw, ?_, fun μ1 hr1 => ?_⟩
    · refine zCT_of (by decide) (Nat.le_of_ble_eq_true rfl) rfl (fun X hl hG hX hr => ?_)
      subst hG
      refine st_X10_undo_0 hX hr ⟨2, _, by omega, cp_back ed hd ep hp, ?_⟩
      rintro r ν (⟨-, rfl, rfl⟩ | ⟨z, -⟩)
      · exact ⟨rfl, _, rfl, rfl, fm.rf _, hc⟩
      · omega
    · have := cr_undo (lc := l) (G := G) (μ := μ1) (by rw [hr1.2.2.2.1.1]; exact vin (by omega) (by omega))
      refine zCT_post this ?_
      rintro rv μ2 ⟨r, rfl, ⟨g1, rfl, rfl⟩ | ⟨g1, -⟩⟩
      · exact ⟨_, rfl, rfl, fm_thr, rI_thr hr1⟩
      · rw [hr1.2.2.2.1.1, ixn (by omega)] at g1; exact absurd c g1
  · have e := fun j => (rg_back (j := j) hp hd (by omega)).1
    have e' := (rg_back (j := 0) hp hd (by omega)).2
    refine ⟨1, S.bk (S.P (S.d - 1)) (S.d - 1) S.P, wI_book hw (by omega) (hw.2.2.2.1.2 _ (by omega)) (by omega) (fun j hj => hw.2.2.2.1.2 _ (by omega)), ?_, fun μ1 hr1 => ?_⟩
    · refine zCT_of (by decide) (Nat.le_of_ble_eq_true rfl) rfl (fun X hl hG hX hr => ?_)
      subst hG
      refine st_X10_undo_0 hX hr ⟨2, _, by omega, cp_back ed hd ep hp, ?_⟩
      rintro r ν (⟨z, -⟩ | ⟨-, rfl, τ, he, rfl⟩)
      · omega
      have gpI : ∀ (o k : Nat) (v : Int32) (τ : zM), getB (pI τ 4 0 k v) o = getB τ o := fun o k v τ => getB_ext (fun κ q => pI_row2 _ _ _ _ _ (by rintro rfl; cases q))
      refine ⟨rfl, _, rfl, rfl, fm_B (fm_I (fm_I (fm.rf _) rfl _ _) rfl _ _) (fun κ q => b_kind q) _, cI_book hc (fun κ o q1 q2 q3 => ?_) ?_ ⟨prvP p, by unfold prvP; split <;> omega, ?_, ?_, fun j hj => ?_⟩⟩
      · funext k
        by_cases hb : bKind κ = true
        · rw [pBo _ _ _ (by have := q3 hb; omega), pI_row2 _ _ _ _ _ q2, pI_row2 _ _ _ _ _ q2]
        · have hb : bKind κ = false := by cases h : bKind κ with | true => exact absurd h hb | false => rfl
          rw [pBx _ _ _ hb, pI_row2 _ _ _ _ _ q2, pI_row2 _ _ _ _ _ q2]
      · have q := hP (S.d - 1) (by omega)
        rw [e'] at q
        exact bR_eqB hk (bR_eqB hk q he) (getB_putB _ _ _)
      · rw [pBx _ _ _ rfl, pI_at]
      · rw [pBx _ _ _ rfl, pI_place _ _ _ _ (by decide), pI_at]
      · rw [getB_putB_ne _ _ (by omega), gpI, gpI, e]
        exact hP j (by omega)
    · have := cr_undo (lc := l) (G := G) (μ := μ1) (by rw [hr1.2.2.2.1.1]; exact vin (by omega) (by omega))
      have x50 : ix (μ1.1 11 0 50) = S.d := by rw [hr1.2.2.2.1.1, ixn (by omega)]
      rw [x50] at this
      refine zCT_post this ?_
      rintro rv μ2 ⟨r, rfl, ⟨g1, -⟩ | ⟨g1, rfl, rfl⟩⟩
      · exact absurd g1 c
      · refine ⟨_, rfl, rfl, fm_R (fm_I fm_thr rfl _ _) rfl _, rI_book hr1 (fun κ q => ?_) ?_ ?_ ⟨?_, fun j hj => ?_⟩⟩
        · rw [pR_row2 _ _ _ _ (by omega), pI_row2 _ _ _ _ _ (by omega), thr, pI_row2 _ _ _ _ _ (by omega)]
        · rw [pR_other _ _ _ _ _ (by decide), pI_place _ _ _ _ (by decide), thr, pI_place _ _ _ _ (by decide)]
        · rw [pR_row, ← hr1.2.2.2.1.2 (S.d - 1) (by omega)]
          refine bOf_ext (fun k hk => ?_)
          rw [pk_cpy_in (by omega) (by omega)]
          exact congrArg (μ1.1 72 0) (by omega)
        · rw [pR_other _ _ _ _ _ (by decide), pI_at]
        · rw [pR_row2 _ _ _ _ (by decide), pI_row2 _ _ _ _ _ (by decide), thr, pI_row2 _ _ _ _ _ (by decide)]
          exact hr1.2.2.2.1.2 j (by omega)
end EA
