/-! DRAWN YEARS -/
theorem lo2_0 (b : zB) (n : Int32) : ∀ L, loS2 b 0 n L = n + cntS b 2 L
  | 0 => (Int32.add_zero n).symm
  | L + 1 => by rw [loS2, cntS, lo2_0 b n L, if_pos rfl, Int32.add_assoc]
theorem lo2_1 (b : zB) (n : Int32) : ∀ L, loS2 b 1 n L = n + cdS b L
  | 0 => (Int32.add_zero n).symm
  | L + 1 => by rw [loS2, cdS, lo2_1 b n L, if_neg (by decide), if_pos rfl, Int32.add_assoc]
theorem lo2_n (b : zB) {x : Int32} (h0 : ¬ x = 0) (h1 : ¬ x = 1) (n : Int32) : ∀ L, loS2 b x n L = n
  | 0 => rfl
  | L + 1 => by rw [loS2, lo2_n b h0 h1 n L, if_neg h0, if_neg h1, Int32.add_zero]
theorem lo3_n (r : Int32) {x : Int32} (h : ¬ x = 3) (n : Int32) : ∀ p, loS3 r x n p = n
  | 0 => rfl
  | p + 1 => by rw [loS3, lo3_n r h n p, if_neg h, Int32.add_zero]
theorem lo3_3 (r n : Int32) : ∀ p, loS3 r 3 n p = n + loS3 r 3 0 p
  | 0 => (Int32.add_zero n).symm
  | p + 1 => by rw [loS3, loS3, lo3_3 r n p, if_pos rfl, Int32.add_assoc]
theorem lo3_bc : ∀ k, k < 64 → loS3 (nI k) 3 0 6 = nI (bcN k) := by decide +kernel
theorem lo_x {cu b e : zB} (hk : cOk cu) (n : Int32) : loS cu b e 0 n = n + cntS e 2 (nLo cu) ∧ loS cu b e 1 n = n + cdS e (nLo cu) ∧ loS cu b e 2 n = n + (e 0 1 - b 0 1) ∧ loS cu b e 3 n = n + BCX (ruinS cu e (nLo cu)) := by
  unfold loS loS1
  refine ⟨?_, ?_, ?_, ?_⟩
  · rw [lo3_n _ (by decide), lo2_0, if_neg (by decide), Int32.add_zero]
  · rw [lo3_n _ (by decide), lo2_1, if_neg (by decide), Int32.add_zero]
  · rw [lo3_n _ (by decide), lo2_n _ (by decide) (by decide), if_pos rfl]
  · obtain ⟨k, hk64, e1⟩ := ruin_small (b := e) hk (nLo cu) (Nat.le_refl _)
    rw [lo3_3, lo2_n _ (by decide) (by decide), if_neg (by decide), Int32.add_zero, e1, lo3_bc k hk64, BCX_ok k hk64]
theorem yr_lt {cu b : zB} (hk : cOk cu) {f0 : Nat → Int32} (h0 : ∀ k, k < 4 → f0 k = 0) {x : Int32} {j : Nat} (hx : (x = 0 ∧ j = 0) ∨ (x = 1 ∧ j = 1) ∨ (x = 2 ∧ j = 2) ∨ (x = 3 ∧ j = 3)) (sd : Int64) : ∀ y, (yrS cu b sd f0 y).1 = (ltS cu b x sd y).1 ∧ (yrS cu b sd f0 y).2 j = (ltS cu b x sd y).2
  | 0 => ⟨rfl, h0 j (by omega)⟩
  | y + 1 => by
    obtain ⟨i1, i2⟩ := yr_lt hk h0 hx sd y
    rw [yrS, ltS]
    dsimp only
    rw [i1]
    refine ⟨rfl, ?_⟩
    obtain ⟨a0, a1, a2, a3⟩ := lo_x (b := b) (e := (ydS cu 60 (ltS cu b x sd y).1 b).2) hk (ltS cu b x sd y).2
    rcases hx with ⟨rfl, rfl⟩ | ⟨rfl, rfl⟩ | ⟨rfl, rfl⟩ | ⟨rfl, rfl⟩
    · rw [a0, ← i2]; simp [upd]
    · rw [a1, ← i2]; simp [upd]
    · rw [a2, ← i2]; simp [upd]
    · rw [a3, ← i2]; simp [upd]
theorem wth3 {w : Int32} (h : wthn w 0 3 = true) : w = 0 ∨ w = 1 ∨ w = 2 ∨ w = 3 := by
  obtain ⟨n, rfl, -, h2⟩ := wthn_nI (a := 0) (b := 3) h (by omega) (by omega)
  have : n = 0 ∨ n = 1 ∨ n = 2 ∨ n = 3 := by omega
  rcases this with rfl | rfl | rfl | rfl <;> decide
theorem wthn_of {x a b : Int32} (h1 : ¬ x < a) (h2 : ¬ b < x) : wthn x a b = true := by
  unfold wthn
  rw [decide_eq_true h1, decide_eq_true h2]; rfl
theorem wthn_lo {x a b : Int32} (h : x < a) : wthn x a b = false := by
  unfold wthn
  rw [decide_eq_false (fun z => z h), Bool.false_and]
theorem wthn_hi {x a b : Int32} (h : b < x) : wthn x a b = false := by
  unfold wthn
  rw [decide_eq_false (p := ¬ b < x) (fun z => z h), Bool.and_false]
theorem le_nlt {a b : Int32} : a ≤ b ↔ ¬ b < a := by
  rw [Int32.le_iff_toInt_le, Int32.lt_iff_toInt_lt]; omega
section LO
variable {l : Launch} {G : zG} {S : zSt} {μ ν : zM} {M : Int} {x1 x2 x3 : Int32}
theorem rI_lt {g' : Int64} {s' : Nat → Int32} {m' : Int32} (hr : rI S μ) (hb : bOf s' = S.b) : fm rfK μ (putS (pL (pR (thr μ 0) 71 0 (va_cpy (μ.1 70 0) (μ.1 71 0) 0 0 64)) 11 0 53 g') s' m') ∧ rI S (putS (pL (pR (thr μ 0) 71 0 (va_cpy (μ.1 70 0) (μ.1 71 0) 0 0 64)) 11 0 53 g') s' m') := by
  have r : ∀ κ, (pL (pR (thr μ 0) 71 0 (va_cpy (μ.1 70 0) (μ.1 71 0) 0 0 64)) 11 0 53 g').1 κ 0 = (pR (thr μ 0) 71 0 (va_cpy (μ.1 70 0) (μ.1 71 0) 0 0 64)).1 κ 0 := fun κ => rfl
  refine ⟨fm_I (fm_R (fm_L (fm_R fm_thr rfl _) rfl _ _) rfl _) rfl _ _, rI_book (b := S.b) (d := S.d) (P := S.P) hr (fun κ q => ?_) ?_ ?_ ⟨?_, fun j hj => ?_⟩⟩
  · rw [putS, pI_row2 _ _ _ _ _ (by omega), pR_row2 _ _ _ _ (by omega), r, pR_row2 _ _ _ _ (by omega), thr, pI_row2 _ _ _ _ _ (by omega)]
  · rw [putS, pI_place _ _ _ _ (by decide), pR_other _ _ _ _ _ (by decide), r, pR_other _ _ _ _ _ (by decide), thr, pI_place _ _ _ _ (by decide)]
  · rw [putS, pI_row2 _ _ _ _ _ (by decide), pR_row]; exact hb
  · rw [putS, pI_place _ _ _ _ (by decide), pR_other _ _ _ _ _ (by decide), r, pR_other _ _ _ _ _ (by decide), thr, pI_place _ _ _ _ (by decide)]
    exact hr.2.2.2.1.1
  · rw [putS, pI_row2 _ _ _ _ _ (by omega), pR_row2 _ _ _ _ (by omega), r, pR_row2 _ _ _ _ (by omega), thr, pI_row2 _ _ _ _ _ (by omega)]
    exact hr.2.2.2.1.2 j hj
set_option maxHeartbeats 1000000 in
theorem pr_lots (h : Rel M μ) (hM : M + 59400 ≤ 999999) : zCT l G 4 yX10_lots cX10_lots 4 (some .int) [.ref (G.ad 10 0), .int x1, .int x2, .int x3] μ (zI fun r μ1 => zCT l G 3 yX11_lots cX11_lots 9 (some .int) [.ref (G.ad 11 0), .int x1, .int x2, .int x3] μ1 (zI fun r2 μ2 => r2 = r ∧ Rel M μ2)) := by
  refine pr_I (R := fun _ => True) h (fun S hc hr0 hw => ?_)
  have hk := hw.2.1.1
  have ref : ∀ μ1, rI S μ1 → _ := fun μ1 hr1 => cr_lots (lc := l) (G := G) (μ := μ1) (x1 := x1) (x2 := x2) (x3 := x3) (M := M) (by rw [hr1.2.1.1]; exact hk) (by rw [hr1.2.2.1]; exact hw.2.2.1.2) hM
  cases c : ltOk x1 x2 x3 with
  | false =>
    refine ⟨-1, S, hw, ?_, fun μ1 hr1 => ?_⟩
    · refine zCT_of (by decide) (Nat.le_of_ble_eq_true rfl) rfl (fun X hl hG hX hr => ?_)
      subst hG
      have fin : (zI fun r μ1 => r = -1 ∧ fm clK μ μ1 ∧ cI S μ1) (some (.int (-1 : Int32))) μ := ⟨_, rfl, rfl, fm.rf _, hc⟩
      refine st_X10_lots_0 hX hr ⟨fun _ => fin, fun a => ⟨fun _ => fin, fun b => ⟨fun _ => fin, fun d => ⟨fun _ => fin, fun e => ⟨fun _ => fin, fun f => ⟨fun g => ?_, fun _ => fin⟩⟩⟩⟩⟩⟩
      exfalso
      have : ltOk x1 x2 x3 = true := by
        unfold ltOk
        rw [wthn_of a b, wthn_of d e, wthn_of f (le_nlt.mp g)]; rfl
      rw [this] at c; cases c
    · refine zCT_post (ref μ1 hr1) ?_
      rintro rv μ2 ⟨r, rfl, ⟨-, rfl, rfl⟩ | ⟨g1, -⟩⟩
      · exact ⟨_, rfl, rfl, fm_thr, rI_thr hr1⟩
      · rw [c] at g1; cases g1
  | true =>
    have c' := c
    rw [ltOk, Bool.and_eq_true, Bool.and_eq_true] at c'
    obtain ⟨c1, c2, c3⟩ := c'
    obtain ⟨y, rfl, y1, y20⟩ := wthn_nI (a := 1) (b := 20) c2 (by omega) (by omega)
    have ey : ix (nI y) = y := ixn (by omega)
    refine ⟨(ltS S.cu S.b x3 x1.toInt64 y).2, S, hw, ?_, fun μ1 hr1 => ?_⟩
    · refine zCT_of (by decide) (Nat.le_of_ble_eq_true rfl) rfl (fun X hl hG hX hr => ?_)
      subst hG
      have no : ∀ {p : Prop} {a b d : Int32}, wthn a b d = true → (a < b ∨ d < a) → p := fun q z => by
        rcases z with z | z
        · rw [wthn_lo z] at q; cases q
        · rw [wthn_hi z] at q; cases q
      refine st_X10_lots_0 hX hr ⟨fun z => no c1 (Or.inl z), fun _ => ⟨fun z => no c1 (Or.inr z), fun _ => ⟨fun z => no c2 (Or.inl z), fun _ => ⟨fun z => no c2 (Or.inr z), fun _ => ⟨fun z => no c3 (Or.inl z), fun _ => ⟨fun _ => ?_, fun z => no c3 (Or.inr (Classical.byContradiction (fun q => z (le_nlt.mpr q))))⟩⟩⟩⟩⟩⟩
      refine ⟨3, _, by omega, cy_all (c := 0) (by omega) hk hc.2.1.1 hw.2.2.1.2 hw.2.2.1.1 hM hc.2.2.1 y20, ?_⟩
      rintro ν ⟨τ, f0, h0, rfl⟩
      obtain ⟨k1, k2⟩ := cI_lk (ν := yM (putB μ 44 τ) (yrS S.cu S.b x1.toInt64 f0 y).2 (yrS S.cu S.b x1.toInt64 f0 y).1) hw hc (fm_L (fm_R (fm_B (fm.rf μ) (fun κ q => by unfold lkK; rw [q]; rfl) _) rfl _) rfl _ _)
      have e9 : ∀ k, (yM (putB μ 44 τ) (yrS S.cu S.b x1.toInt64 f0 y).2 (yrS S.cu S.b x1.toInt64 f0 y).1).1 9 0 k = (yrS S.cu S.b x1.toInt64 f0 y).2 k := fun k => by
        show (pR (putB μ 44 τ) 9 0 _).1 9 0 k = _
        exact pR_at _ _ _ _ _
      refine ⟨fun z => ⟨_, rfl, ?_, k1, k2⟩, fun z0 => ⟨fun z => ⟨_, rfl, ?_, k1, k2⟩, fun z1 => ⟨fun z => ⟨_, rfl, ?_, k1, k2⟩, fun z2 => ⟨_, rfl, ?_, k1, k2⟩⟩⟩⟩
      · rw [e9]; exact (yr_lt hk h0 (Or.inl ⟨z, rfl⟩) _ y).2
      · rw [e9]; exact (yr_lt hk h0 (Or.inr (Or.inl ⟨z, rfl⟩)) _ y).2
      · rw [e9]; exact (yr_lt hk h0 (Or.inr (Or.inr (Or.inl ⟨z, rfl⟩))) _ y).2
      · have z3 : x3 = 3 := by rcases wth3 c3 with q | q | q | q <;> first | exact q | contradiction
        rw [e9]; exact (yr_lt hk h0 (Or.inr (Or.inr (Or.inr ⟨z3, rfl⟩))) _ y).2
    · refine zCT_post (ref μ1 hr1) ?_
      rintro rv μ2 ⟨r, rfl, ⟨g1, -⟩ | ⟨-, rfl, s', m', g', g3, rfl⟩⟩
      · rw [c] at g1; cases g1
      · rw [hr1.2.2.1] at g3
        obtain ⟨k1, k2⟩ := rI_lt (g' := g') (m' := m') hr1 g3
        exact ⟨_, rfl, by rw [hr1.2.1.1, hr1.2.2.1, ey], k1, k2⟩
end LO
