/-! DAYS, EARLY, UNDONE -/
/-- what is kept, with one more -/
def kpP (d : Nat) (P : Nat → zB) (b : zB) : Nat → zB := if d = 30 then (fun j => if j = 29 then b else P (j + 1)) else (fun j => if j = d then b else P j)
def kpD (d : Nat) : Nat := if d = 30 then 30 else d + 1
theorem rg_keep {p d j : Nat} (hp : p < 30) (hd : d ≤ 30) (hj : j < kpD d) :
    (rg (nxtP p) (kpD d) j = p ∧ ((d = 30 ∧ j = 29) ∨ (d < 30 ∧ j = d))) ∨ (d = 30 ∧ j < 29 ∧ rg (nxtP p) (kpD d) j = rg p d (j + 1) ∧ rg p d (j + 1) ≠ p) ∨ (d < 30 ∧ j < d ∧ rg (nxtP p) (kpD d) j = rg p d j ∧ rg p d j ≠ p) := by
  unfold kpD at *
  unfold rg nxtP
  by_cases h : d = 30
  · subst h
    rw [if_pos rfl] at *
    by_cases hj9 : j = 29
    · refine Or.inl ⟨?_, Or.inl ⟨rfl, hj9⟩⟩
      split <;> omega
    · refine Or.inr (Or.inl ⟨rfl, by omega, ?_, ?_⟩)
      · split <;> omega
      · omega
  · rw [if_neg h] at *
    by_cases hjd : j = d
    · refine Or.inl ⟨?_, Or.inr ⟨by omega, hjd⟩⟩
      split <;> omega
    · refine Or.inr (Or.inr ⟨by omega, by omega, ?_, ?_⟩)
      · split <;> omega
      · omega
section DY
variable {l : Launch} {G : zG} {S : zSt} {μ ν : zM} {M : Int} {x w : Int32}
abbrev zSt.bk (S : zSt) (b : zB) (d : Nat) (P : Nat → zB) : zSt := (S.1, S.2.1, b, (d, P), S.2.2.2.2)
theorem cI_book (hS : cI S μ) (hf : ∀ κ o, κ < 11 ∨ (12 ≤ κ ∧ κ ≤ 34) → κ ≠ 4 → (bKind κ = true → 31 ≤ o) → ν.1 κ o = μ.1 κ o) {b : zB} {d : Nat} {P : Nat → zB} (hb : bR S.cu (getB ν 0) b) (hp : cPs ν S.cu d P) : cI (S.bk b d P) ν := by
  obtain ⟨⟨h1, h2⟩, ⟨h3, h4⟩, h5, -, h10⟩ := hS
  have e : ∀ κ o, bKind κ = false → κ < 11 ∨ (12 ≤ κ ∧ κ ≤ 34) → κ ≠ 4 → ν.1 κ o = μ.1 κ o := fun κ o q a b => hf κ o a b (fun z => by rw [q] at z; cases z)
  have cr : ∀ (cu : zB) (c : Nat), cR cu μ c → cR cu ν c := by
    intro cu c q
    unfold cR at *
    simp only [e 2 _ rfl (by omega) (by omega), e 19 _ rfl (by omega) (by omega), e 20 _ rfl (by omega) (by omega), e 21 _ rfl (by omega) (by omega), e 7 _ rfl (by omega) (by omega), e 23 _ rfl (by omega) (by omega), e 24 _ rfl (by omega) (by omega)]
    exact q
  refine ⟨⟨by rw [e 27 0 rfl (by omega) (by omega)]; exact h1, by rw [e 5 0 rfl (by omega) (by omega)]; exact h2⟩, ⟨cr _ _ h3, by rw [e 25 0 rfl (by omega) (by omega)]; exact h4⟩, hb, hp, fun i hi => ?_⟩
  have := h10 i hi
  show cMk ν i (S.mk i)
  generalize S.mk i = q at this
  cases q with
  | none => show ν.1 3 i 0 = 0; rw [e 3 i rfl (by omega) (by omega)]; exact this
  | some q =>
    obtain ⟨g1, g2, g3, g4⟩ := this
    have gb : getB ν (i + 45) = getB μ (i + 45) := getB_ext (fun κ q => hf κ _ (by
      simp only [bKind, Bool.or_eq_true, beq_iff_eq] at q
      omega) (by rintro rfl; cases q) (fun _ => by omega))
    exact ⟨by rw [e 3 i rfl (by omega) (by omega)]; exact g1, cr _ _ g2, by rw [e 25 _ rfl (by omega) (by omega)]; exact g3, by rw [gb]; exact g4⟩
theorem rI_book (hS : rI S μ) (hf : ∀ κ, (35 ≤ κ ∧ κ ≤ 57) ∨ κ = 73 ∨ κ = 74 → ν.1 κ 0 = μ.1 κ 0) (h1 : ν.1 11 0 1 = μ.1 11 0 1) {b : zB} {d : Nat} {P : Nat → zB} (hb : bOf (ν.1 70 0) = b) (hp : ν.1 11 0 50 = nI d ∧ ∀ j, j < d → bOf (fun k => ν.1 72 0 (64 * j + k)) = P j) : rI (S.bk b d P) ν := by
  obtain ⟨⟨r1, r2⟩, ⟨r3, r4⟩, r5, -, r8⟩ := hS
  have bw : ∀ q nb vw, BWq μ q nb vw → BWq ν q nb vw := fun q nb vw => BWq_ext (hf 55 (by omega)) (hf 56 (by omega)) (hf 57 (by omega))
  have ex : ∀ κ, 36 ≤ κ → κ ≤ 54 → ν.1 κ 0 = μ.1 κ 0 := fun κ a b => hf κ (by omega)
  refine ⟨⟨by rw [hf 35 (by omega)]; exact r1, by rw [h1]; exact r2⟩, ⟨by rw [cuZ_ext ex]; exact r3, bw _ _ _ r4⟩, hb, hp, fun i hi => ?_⟩
  have := r8 i hi
  show rMk ν i (S.mk i)
  generalize S.mk i = q at this
  cases q with
  | none => show ν.1 74 0 i = 0; rw [hf 74 (by omega)]; exact this
  | some q =>
    obtain ⟨g1, g2, g3, g4⟩ := this
    exact ⟨by rw [hf 74 (by omega)]; exact g1, by rw [cuB_ext ex]; exact g2, bw _ _ _ g3, by rw [hf 73 (by omega)]; exact g4⟩
theorem wI_book (hw : wI M S) {b : zB} {d : Nat} {P : Nat → zB} {N : Int} (hN : M ≤ N) (hb : wB2 S.cu b N) (hd : d ≤ 30) (hp : ∀ j, j < d → wB2 S.cu (P j) N) : wI N (S.bk b d P) := by
  obtain ⟨h1, h2, h3, h4, h5⟩ := wI_mono hw hN
  exact ⟨h1, h2, hb, ⟨hd, hp⟩, h5⟩
/-- the class's past, with one more, and a new book -/
theorem cPs_keep (hk : cOk S.cu) (hS : cI S μ) (hd : S.d ≤ 30) {p : Nat} (hp : p < 30) (ep : μ.1 4 0 1 = nI p) (hP : ∀ j, j < S.d → bR S.cu (getB μ (1 + rg p S.d j)) (S.P j)) {ν1 ν2 : zB} (he : eqB ν1 (getB μ 0)) {ρ : zM} (eρ : ρ = putB (pI (pI (putB μ (1 + p) ν1) 4 0 1 (nI (nxtP p))) 4 0 0 (nI (if S.d = 30 then 30 else S.d + 1))) 0 ν2) : cPs ρ S.cu (kpD S.d) (kpP S.d S.P S.b) := by
  have hx : nxtP p < 30 := by unfold nxtP; split <;> omega
  have gpI : ∀ (o k : Nat) (v : Int32) (τ : zM), getB (pI τ 4 0 k v) o = getB τ o := fun o k v τ => getB_ext (fun κ q => pI_row2 _ _ _ _ _ (by rintro rfl; cases q))
  refine ⟨nxtP p, hx, ?_, ?_, fun j hj => ?_⟩
  · rw [eρ, pBx _ _ _ rfl, pI_at]; rfl
  · rw [eρ, pBx _ _ _ rfl, pI_place _ _ _ _ (by decide), pI_at]
  · have g : ∀ i, getB ρ (1 + i) = getB (putB μ (1 + p) ν1) (1 + i) := fun i => by rw [eρ, getB_putB_ne _ _ (by omega), gpI, gpI]
    rw [g]
    rcases rg_keep hp hd hj with ⟨a, b⟩ | ⟨a, b, c, e⟩ | ⟨a, b, c, e⟩
    · rw [a]
      have hnew : bR S.cu (getB (putB μ (1 + p) ν1) (1 + p)) S.b := bR_eqB hk (bR_eqB hk hS.2.2.1 he) (getB_putB _ _ _)
      rcases b with ⟨b1, b2⟩ | ⟨b1, b2⟩
      · rw [kpP, if_pos b1, if_pos b2]; exact hnew
      · rw [kpP, if_neg (by omega), if_pos b2]; exact hnew
    · rw [c, getB_putB_ne _ _ (by omega), kpP, if_pos a, if_neg (by omega)]
      exact hP (j + 1) (by omega)
    · rw [c, getB_putB_ne _ _ (by omega), kpP, if_neg (by omega), if_neg (by omega)]
      exact hP j b
theorem rPs_keep (hr : rI S μ) (hd : S.d ≤ 30) {s' : Nat → Int32} {m' v : Int32} : (putS (keepM (thr μ v)) s' m').1 11 0 50 = nI (kpD S.d) ∧ ∀ j, j < kpD S.d → bOf (fun k => (putS (keepM (thr μ v)) s' m').1 72 0 (64 * j + k)) = kpP S.d S.P S.b j := by
  have e50 : (thr μ v).1 11 0 50 = nI S.d := by rw [thr, pI_place _ _ _ _ (by decide)]; exact hr.2.2.2.1.1
  have x50 : ix ((thr μ v).1 11 0 50) = S.d := by rw [e50, ixn (by omega)]
  have e72 : (thr μ v).1 72 0 = μ.1 72 0 := pI_row2 _ _ _ _ _ (by decide)
  have e70 : (thr μ v).1 70 0 = μ.1 70 0 := pI_row2 _ _ _ _ _ (by decide)
  constructor
  · rw [putS, pI_place _ _ _ _ (by decide), pR_other _ _ _ _ _ (by decide), keepM, pI_at, x50]; rfl
  · intro j hj
    have er : (putS (keepM (thr μ v)) s' m').1 72 0 = kpF (μ.1 72 0) (μ.1 70 0) S.d := by
      rw [putS, pI_row2 _ _ _ _ _ (by decide), pR_row2 _ _ _ _ (by decide), keepM, pI_row2 _ _ _ _ _ (by decide), pR_row, x50, e72, e70]
    rw [er]
    unfold kpD at hj
    unfold kpP kpF
    by_cases h : S.d = 30
    · rw [if_pos h] at hj
      rw [if_pos h, if_pos h]
      by_cases h9 : j = 29
      · rw [if_pos h9, ← hr.2.2.1]
        refine bOf_ext (fun k hk => ?_)
        rw [pk_cpy_in (by omega) (by omega)]
        exact congrArg (μ.1 70 0) (by omega)
      · rw [if_neg h9, ← hr.2.2.2.1.2 (j + 1) (by omega)]
        refine bOf_ext (fun k hk => ?_)
        rw [pk_cpy_out (by omega), pk_cpy_in (by omega) (by omega)]
        exact congrArg (μ.1 72 0) (by omega)
    · rw [if_neg h] at hj
      rw [if_neg h, if_neg h]
      by_cases h9 : j = S.d
      · rw [if_pos h9, ← hr.2.2.1]
        refine bOf_ext (fun k hk => ?_)
        rw [pk_cpy_in (by omega) (by omega)]
        exact congrArg (μ.1 70 0) (by omega)
      · rw [if_neg h9, ← hr.2.2.2.1.2 j (by omega)]
        refine bOf_ext (fun k hk => ?_)
        rw [pk_cpy_out (by omega)]
theorem dues_cnt (cu b : zB) : ∀ n, duesS cu b n = cntS b 1 n
  | 0 => rfl
  | n + 1 => by rw [duesS, cntS, dues_cnt cu b n]
theorem kp_w {cu : zB} {d : Nat} {P : Nat → zB} {b : zB} (hd : d ≤ 30) (hb : wB2 cu b M) (hP : ∀ j, j < d → wB2 cu (P j) M) : ∀ j, j < kpD d → wB2 cu (kpP d P b j) M := by
  intro j hj
  unfold kpD at hj
  unfold kpP
  by_cases h : d = 30
  · rw [if_pos h] at hj ⊢
    split
    · exact hb
    · exact hP _ (by omega)
  · rw [if_neg h] at hj ⊢
    split
    · exact hb
    · exact hP _ (by omega)
set_option maxHeartbeats 1000000 in
theorem pr_day (h : Rel M μ) (hM : M ≤ 990000) : zCT l G 3 yX10_day cX10_day 2 (some .int) [.ref (G.ad 10 0), .int x] μ (zI fun r μ1 => zCT l G 3 yX11_day cX11_day 2 (some .int) [.ref (G.ad 11 0), .int x] μ1 (zI fun r2 μ2 => r2 = r ∧ Rel (M + 990) μ2)) := by
  refine pr_I (R := fun _ => True) h (fun S hc hr0 hw => ?_)
  have hk := hw.2.1.1
  obtain ⟨hI1, hI2⟩ := live_inv hk (w := x) hw.2.2.1.2 (by omega)
  have hLI := live_LI (w := x) hw.2.2.1.1
  obtain ⟨p, hp, ed, ep, hP⟩ := hc.2.2.2.1
  have hd := hw.2.2.2.1.1
  have ewz := hc.2.1.1.1.1
  by_cases c : inR x ((1 : Int32) <<< ((S.cu 0 0) &&& 31)) = true
  · refine ⟨duesS S.cu (live S.cu x S.b) (nLo S.cu), S.bk (live S.cu x S.b) (kpD S.d) (kpP S.d S.P S.b), wI_book hw (by omega) ⟨hLI, hI2⟩ (by unfold kpD; split <;> omega) (fun j hj => wB2_mono (kp_w hd hw.2.2.1 hw.2.2.2.1.2 j hj) (by omega)), ?_, fun μ1 hr1 => ?_⟩
    · refine zCT_of (by decide) (Nat.le_of_ble_eq_true rfl) rfl (fun X hl hG hX hr => ?_)
      subst hG
      refine st_X10_day_0 hX hr ⟨0, _, by omega, cc_isWeather (by omega), ?_⟩
      rintro r ν ⟨rfl, rfl⟩
      rw [ewz, c]
      refine ⟨fun _ => ⟨2, _, by omega, cp_keep ed hd ep hp, ?_⟩, fun z => absurd z (by decide)⟩
      rintro ν1 ⟨τ, he, e1⟩
      have cr1 : cR S.cu ν1 0 := by
        rw [e1]
        unfold cR
        simp only [pI_row2 _ _ _ _ _ (show (2 : Nat) ≠ 4 by decide), pI_row2 _ _ _ _ _ (show (19 : Nat) ≠ 4 by decide), pI_row2 _ _ _ _ _ (show (20 : Nat) ≠ 4 by decide), pI_row2 _ _ _ _ _ (show (21 : Nat) ≠ 4 by decide), pI_row2 _ _ _ _ _ (show (7 : Nat) ≠ 4 by decide), pI_row2 _ _ _ _ _ (show (23 : Nat) ≠ 4 by decide), pI_row2 _ _ _ _ _ (show (24 : Nat) ≠ 4 by decide)]
        exact cR_pB hc.2.1.1
      have b1 : bR S.cu (getB ν1 0) S.b := by
        have : getB ν1 0 = getB ν 0 := by
          rw [e1, getB_ext (μ := putB ν (1 + p) τ) (fun κ q => ?_), getB_putB_ne _ _ (by omega)]
          rw [pI_row2 _ _ _ _ _ (by rintro rfl; cases q), pI_row2 _ _ _ _ _ (by rintro rfl; cases q)]
        rw [this]; exact hc.2.2.1
      have CT := cb_live (l := X.l) (G := X.G) (o := 0) (c := 0) (μ := ν1) (by omega) (by omega) hk cr1 b1 hw.2.2.1.1 (w := x) hI1
      rw [putB_getB] at CT
      refine ⟨2, _, by omega, CT, ?_⟩
      rintro ν2 ⟨τ2, rfl, b2⟩
      refine ⟨0, _, by omega, cb_loansAt (o := 0) (c := 0) (by omega) (by omega) hk cr1 b2, ?_⟩
      rintro r ν3 ⟨rfl, rfl⟩
      refine ⟨_, rfl, (dues_cnt _ _ _).symm, ?_, ?_⟩
      · rw [e1]
        exact fm_B (fm_I (fm_I (fm_B (fm.rf ν) (fun κ q => by simp only [bKind, Bool.or_eq_true, beq_iff_eq] at q; exact decide_eq_true (by omega)) _) rfl _ _) rfl _ _) (fun κ q => by simp only [bKind, Bool.or_eq_true, beq_iff_eq] at q; exact decide_eq_true (by omega)) _
      · refine cI_book hc (fun κ o q1 q2 q3 => ?_) (bR_eqB hk b2 (getB_putB _ _ _)) (cPs_keep hk hc hd hp ep hP he (by rw [e1]))
        funext k
        rw [e1]
        by_cases hb : bKind κ = true
        · rw [pBo _ _ _ (by have := q3 hb; omega), pI_row2 _ _ _ _ _ q2, pI_row2 _ _ _ _ _ q2, pBo _ _ _ (by have := q3 hb; omega)]
        · have hb : bKind κ = false := by cases h : bKind κ with | true => exact absurd h hb | false => rfl
          rw [pBx _ _ _ hb, pI_row2 _ _ _ _ _ q2, pI_row2 _ _ _ _ _ q2, pBx _ _ _ hb]
    · have := cr_day (l := l) (G := G) (μ := μ1) (w := x) (by rw [hr1.2.1.1]; exact hk) (by rw [hr1.2.2.2.1.1]; exact vin (by omega) (by omega)) (fun _ => by rw [hr1.2.1.1, hr1.2.2.1]; exact hI1)
      refine zCT_post this ?_
      have e36 : μ1.1 36 0 0 = S.cu 0 0 := by rw [← hr1.2.1.1]; rfl
      rintro rv μ2 ⟨r, rfl, ⟨g1, s', m', rfl, g3, g4⟩ | ⟨g1, -⟩⟩
      · rw [hr1.2.1.1, hr1.2.2.1] at g3 g4
        refine ⟨_, rfl, g4, ?_, rI_book hr1 (fun κ q => ?_) ?_ ?_ (rPs_keep hr1 hd)⟩
        · exact fm_I (fm_R (fm_I (fm_R fm_thr rfl _) rfl _ _) rfl _) rfl _ _
        · rw [putS, pI_row2 _ _ _ _ _ (by omega), pR_row2 _ _ _ _ (by omega), keepM, pI_row2 _ _ _ _ _ (by omega), pR_row2 _ _ _ _ (by omega), thr, pI_row2 _ _ _ _ _ (by omega)]
        · rw [putS, pI_place _ _ _ _ (by decide), pR_other _ _ _ _ _ (by decide), keepM, pI_place _ _ _ _ (by decide), pR_other _ _ _ _ _ (by decide), thr, pI_place _ _ _ _ (by decide)]
        · rw [putS, pI_row2 _ _ _ _ _ (by decide), pR_row]; exact g3
      · rw [e36, c] at g1; cases g1
  · have c : inR x ((1 : Int32) <<< ((S.cu 0 0) &&& 31)) = false := by cases q : inR x ((1 : Int32) <<< ((S.cu 0 0) &&& 31)) with | true => exact absurd q c | false => rfl
    refine ⟨-1, S, wI_mono hw (by omega), ?_, fun μ1 hr1 => ?_⟩
    · refine zCT_of (by decide) (Nat.le_of_ble_eq_true rfl) rfl (fun X hl hG hX hr => ?_)
      subst hG
      refine st_X10_day_0 hX hr ⟨0, _, by omega, cc_isWeather (by omega), ?_⟩
      rintro r ν ⟨rfl, rfl⟩
      rw [ewz, c]
      exact ⟨fun z => absurd (by decide) z, fun _ => ⟨_, rfl, rfl, fm.rf _, hc⟩⟩
    · have := cr_day (l := l) (G := G) (μ := μ1) (w := x) (by rw [hr1.2.1.1]; exact hk) (by rw [hr1.2.2.2.1.1]; exact vin (by omega) (by omega)) (fun _ => by rw [hr1.2.1.1, hr1.2.2.1]; exact hI1)
      refine zCT_post this ?_
      have e36 : μ1.1 36 0 0 = S.cu 0 0 := by rw [← hr1.2.1.1]; rfl
      rintro rv μ2 ⟨r, rfl, ⟨g1, -⟩ | ⟨g1, rfl, rfl⟩⟩
      · rw [e36, c] at g1; cases g1
      · exact ⟨_, rfl, rfl, fm_thr, rI_thr hr1⟩
end DY
