/-! WORTH, CHANCE, BETTER -/
section WO
variable {l : Launch} {G : zG} {S : zSt} {μ ν : zM} {M : Int} {x1 x2 x3 : Int32}
theorem ok_A (hw : wI M S) (hM : M + 59400 ≤ 999999) {a : Nat} (ha : a < 2) : ∃ A, okS S.cu x1 x2 x3 = true → ∀ co, smL (fun j => arvS a (ix x1) co S.b (psS S.cu (ix x2) j 1 S.b)) (2 ^ (nHi S.cu * ix x2)) = lN A ∧ A < 2 ^ 63 := by
  by_cases c : okS S.cu x1 x2 x3 = true
  · have c' := c
    rw [okS, Bool.and_eq_true, Bool.and_eq_true] at c'
    obtain ⟨n, e, n1, n12, hh⟩ := ahS_nI hw.2.1.1 c'.2.2
    have en : ix x2 = n := by rw [e]; exact ixn (by omega)
    obtain ⟨A, h1, h2⟩ := tot_N (l := ix x1) hw.2.1 hw.2.2.1.2 n a (by omega) (fun q => by omega) (by omega) hh
    rw [en]
    exact ⟨A, fun _ co => ⟨h2 co, Nat.lt_trans h1 (by decide)⟩⟩
  · exact ⟨0, fun z => absurd z c⟩
theorem pr_worth (h : Rel M μ) (hM : M + 59400 ≤ 999999) : zCT l G 18 yX10_worth cX10_worth 4 (some .long) [.ref (G.ad 10 0), .int x1, .int x2, .int x3] μ (zJ fun r μ1 => zCT l G 4 yX11_worth cX11_worth 9 (some .long) [.ref (G.ad 11 0), .int x1, .int x2, .int x3] μ1 (zJ fun r2 μ2 => r2 = r ∧ Rel M μ2)) := by
  refine pr_J h (fun S hc hr0 hw => ?_)
  have hk := hw.2.1.1
  obtain ⟨A, hA⟩ := ok_A (x1 := x1) (x2 := x2) (x3 := x3) hw hM (a := 0) (by omega)
  refine ⟨if okS S.cu x1 x2 x3 = true then lowS A (nHi S.cu * ix x2) x3 else -1, S, hw, ?_, fun μ1 hr1 => ?_⟩
  · refine zCT_of (by decide) (Nat.le_of_ble_eq_true rfl) rfl (fun X hl hG hX hr => ?_)
    subst hG
    refine st_X10_worth_0 hX hr ⟨17, _, by omega, cs_share (a := 0) (by omega) hw hc hM hA, ?_⟩
    rintro r ν ⟨rfl, f, i⟩
    exact ⟨_, rfl, rfl, f, i⟩
  · have ref := cr_worth (lc := l) (G := G) (μ := μ1) (x1 := x1) (x2 := x2) (x3 := x3) (M := M) (A := A) (by rw [hr1.2.1.1]; exact hk) (by rw [hr1.2.2.1]; exact hw.2.2.1.2) (by omega) (by
      rw [hr1.2.1.1, hr1.2.2.1, wr_sm _ _ _ _ 0]
      exact fun q => hA q 0)
    rw [hr1.2.1.1, hr1.2.2.1] at ref
    refine zCT_post ref ?_
    rintro rv μ2 ⟨r, rfl, ⟨g1, rfl, rfl⟩ | ⟨g1, rfl, s', m', g3, rfl⟩⟩
    · exact ⟨_, rfl, by rw [g1]; rfl, fm_thr, rI_thr hr1⟩
    · obtain ⟨k1, k2⟩ := rI_lk (W := 2 ^ (nHi S.cu * ix x2)) (m' := m') hr1 g3
      exact ⟨_, rfl, by rw [if_pos g1], k1, k2⟩
theorem pr_chance (h : Rel M μ) (hM : M + 59400 ≤ 999999) : zCT l G 18 yX10_chance cX10_chance 4 (some .long) [.ref (G.ad 10 0), .int x1, .int x2, .int x3] μ (zJ fun r μ1 => zCT l G 4 yX11_chance cX11_chance 9 (some .long) [.ref (G.ad 11 0), .int x1, .int x2, .int x3] μ1 (zJ fun r2 μ2 => r2 = r ∧ Rel M μ2)) := by
  refine pr_J h (fun S hc hr0 hw => ?_)
  have hk := hw.2.1.1
  obtain ⟨A, hA⟩ := ok_A (x1 := x1) (x2 := x2) (x3 := x3) hw hM (a := 1) (by omega)
  refine ⟨if okS S.cu x1 x2 x3 = true then lowS A (nHi S.cu * ix x2) x3 else -1, S, hw, ?_, fun μ1 hr1 => ?_⟩
  · refine zCT_of (by decide) (Nat.le_of_ble_eq_true rfl) rfl (fun X hl hG hX hr => ?_)
    subst hG
    refine st_X10_chance_0 hX hr ⟨17, _, by omega, cs_share (a := 1) (by omega) hw hc hM hA, ?_⟩
    rintro r ν ⟨rfl, f, i⟩
    exact ⟨_, rfl, rfl, f, i⟩
  · have ref := cr_chance (lc := l) (G := G) (μ := μ1) (x1 := x1) (x2 := x2) (x3 := x3) (M := M) (A := A) (by rw [hr1.2.1.1]; exact hk) (by rw [hr1.2.2.1]; exact hw.2.2.1.2) (by omega) (by
      rw [hr1.2.1.1, hr1.2.2.1, ch_sm _ _ _ _ 0]
      exact fun q => hA q 0)
    rw [hr1.2.1.1, hr1.2.2.1] at ref
    refine zCT_post ref ?_
    rintro rv μ2 ⟨r, rfl, ⟨g1, rfl, rfl⟩ | ⟨g1, rfl, s', m', g3, rfl⟩⟩
    · exact ⟨_, rfl, by rw [g1]; rfl, fm_thr, rI_thr hr1⟩
    · obtain ⟨k1, k2⟩ := rI_lk (W := 2 ^ (nHi S.cu * ix x2)) (m' := m') hr1 g3
      exact ⟨_, rfl, by rw [if_pos g1], k1, k2⟩
theorem bt_a (cu b : zB) (n i W : Nat) (co : Int32) : ∀ k, k ≤ W → btS cu b n i W k = -(smL (fun j => arvS 2 (ix (cu 5 i)) co b (psS cu n j 1 b)) k)
  | 0, _ => by rw [btS, smL]; decide
  | k + 1, h => by
    rw [btS, smL, bt_a cu b n i W co k (by omega), if_pos (by omega), Int64.neg_add, Int64.neg_mul]
    rw [Int64.sub_eq_add_neg]; rfl
theorem bt_b (cu b : zB) (n i W : Nat) (co : Int32) : ∀ k, btS cu b n i W (W + k) = -(smL (fun j => arvS 2 (ix (cu 5 i)) co b (psS cu n j 1 b)) W) + smL (fun j => arvS 2 (ix (cu 5 i)) co (payS cu i b) (psS cu n j 1 (payS cu i b))) k
  | 0 => by rw [Nat.add_zero, bt_a cu b n i W co W (Nat.le_refl _), smL, Int64.add_zero]
  | k + 1 => by
    rw [show W + (k + 1) = W + k + 1 by omega, btS, smL, bt_b cu b n i W co k, if_neg (by omega), show W + k - W = k by omega, Int64.add_assoc]; rfl
theorem sg_lN {A B : Nat} (hA : A < 2 ^ 60) (hB : B < 2 ^ 60) : sgS (-(lN A) + lN B) = if B = A then 0 else if A < B then 1 else -1 := by
  have tA := lNt (n := A) (by omega)
  have tB := lNt (n := B) (by omega)
  have e : (-(lN A) + lN B).toInt = (B : Int) - A := by
    rw [Int64.add_comm, ← Int64.sub_eq_add_neg, Int64.toInt_sub, tA, tB]
    exact Int.bmod_eq_of_le (by omega) (by omega)
  unfold sgS
  have z : (0 : Int64).toInt = 0 := rfl
  have l1 : -(lN A) + lN B ≤ 0 ↔ B ≤ A := by rw [Int64.le_iff_toInt_le, e, z]; omega
  have l2 : 0 ≤ -(lN A) + lN B ↔ A ≤ B := by rw [Int64.le_iff_toInt_le, e, z]; omega
  by_cases c : B = A
  · rw [if_pos (l1.mpr (by omega)), if_pos (l2.mpr (by omega)), if_pos c]
  · rw [if_neg c]
    by_cases d : A < B
    · rw [if_neg (fun q => by have := l1.mp q; omega), if_pos d]
    · rw [if_pos (l1.mpr (by omega)), if_neg (fun q => by have := l2.mp q; omega), if_neg d]
set_option maxHeartbeats 1000000 in
theorem pr_better (h : Rel M μ) (hM : M + 59400 ≤ 999999) : zCT l G 18 yX10_better cX10_better 8 (some .int) [.ref (G.ad 10 0), .int x1, .int x2] μ (zI fun r μ1 => zCT l G 4 yX11_better cX11_better 9 (some .int) [.ref (G.ad 11 0), .int x1, .int x2] μ1 (zI fun r2 μ2 => r2 = r ∧ Rel M μ2)) := by
  refine pr_I (R := fun _ => True) h (fun S hc hr0 hw => ?_)
  have hk := hw.2.1.1
  have ref : ∀ μ1, rI S μ1 → _ := fun μ1 hr1 => cr_better (lc := l) (G := G) (μ := μ1) (x1 := x1) (x2 := x2) (M := M) (by rw [hr1.2.1.1]; exact hk) (by rw [hr1.2.2.1]; exact hw.2.2.1.2) (by omega)
  have ewz := hc.2.1.1.1.2.2.1
  have hin : inR x1 (S.cu 0 2) = true → ix x1 < nLo S.cu ∧ x1 = nI (ix x1) := fun c => ⟨zix (inR_vp c), vof (inR_vp c) (by have := (cOk_n hk).1; show nLo S.cu < _; omega)⟩
  cases c : btOk S.cu S.b x1 x2 with
  | false =>
    refine ⟨-2, S, hw, ?_, fun μ1 hr1 => ?_⟩
    · refine zCT_of (by decide) (Nat.le_of_ble_eq_true rfl) rfl (fun X hl hG hX hr => ?_)
      subst hG
      have fin : (zI fun r μ1 => r = -2 ∧ fm clK μ μ1 ∧ cI S μ1) (some (.int (-2 : Int32))) μ := ⟨_, rfl, rfl, fm.rf _, hc⟩
      refine st_X10_better_0 hX hr ⟨0, _, by omega, cc_isLoan (by omega), ?_⟩
      rintro r ν ⟨rfl, rfl⟩
      rw [ewz]
      refine ⟨fun _ => fin, fun z1 => ⟨0, _, by omega, cc_look hc.2.1.1, ?_⟩⟩
      rintro r ν ⟨rfl, rfl⟩
      have z1 := b2i1.mp z1
      obtain ⟨hx, ex⟩ := hin z1
      have CT := cb_can (l := X.l) (G := X.G) (o := 0) (c := 0) (by omega) (by omega) hk hc.2.1.1 hc.2.2.1 hx
      rw [putB_getB, ← ex] at CT
      refine ⟨fun _ => fin, fun z2 => ⟨0, _, by omega, CT, ?_⟩⟩
      rintro r ν ⟨rfl, rfl⟩
      refine ⟨fun z3 => ?_, fun _ => fin⟩
      exfalso
      have : btOk S.cu S.b x1 x2 = true := by rw [btOk, canS, z1, b2i1.mp z2, b2i1.mp z3]; rfl
      rw [this] at c; cases c
    · refine zCT_post (ref μ1 hr1) ?_
      rintro rv μ2 ⟨r, rfl, ⟨-, rfl, rfl⟩ | ⟨g1, -⟩⟩
      · exact ⟨_, rfl, rfl, fm_thr, rI_thr hr1⟩
      · rw [hr1.2.1.1, hr1.2.2.1, c] at g1; cases g1
  | true =>
    have c' := c
    rw [btOk, canS, Bool.and_eq_true, Bool.and_eq_true] at c'
    obtain ⟨⟨c1, c2⟩, c3⟩ := c'
    obtain ⟨n, rfl, n1, n12, hh⟩ := ahS_nI hk c3
    have en : ix (nI n) = n := ixn (by omega)
    obtain ⟨hx, ex⟩ := hin c1
    have a6 := cOk_at hk hx
    have v5 := (hk.2.2.2.2 _ hx).2.1
    have hg : ix (S.cu 5 (ix x1)) < nPe S.cu := zix v5
    have n6 := (cOk_n hk).2.1
    have e5 : S.cu 5 (ix x1) = nI (ix (S.cu 5 (ix x1))) := vof v5 (by show nPe S.cu < _; omega)
    have t0 := (tk_inv a6.1 (zix a6.2.2.1) (zix a6.2.1) (bI_inv hw.2.2.1.2 (by omega))).2.2.1
    have pI2 := pay_inv hk hx hw.2.2.1.2 (by omega)
    have pL2 := pay_LI (i := ix x1) hw.2.2.1.1
    obtain ⟨A, hA1, hA2⟩ := tot_N (l := ix (S.cu 5 (ix x1))) hw.2.1 hw.2.2.1.2 n 2 (by omega) (fun _ => by omega) (by omega) hh
    obtain ⟨B, hB1, hB2⟩ := tot_N (l := ix (S.cu 5 (ix x1))) hw.2.1 pI2 n 2 (by omega) (fun _ => by omega) (by omega) hh
    refine ⟨if B = A then 0 else if A < B then 1 else -1, S, hw, ?_, fun μ1 hr1 => ?_⟩
    · refine zCT_of (by decide) (Nat.le_of_ble_eq_true rfl) rfl (fun X hl hG hX hr => ?_)
      subst hG
      refine st_X10_better_0 hX hr ⟨0, _, by omega, cc_isLoan (by omega), ?_⟩
      rintro r ν ⟨rfl, rfl⟩
      rw [ewz, c1]
      refine ⟨fun z => absurd z (by decide), fun _ => ⟨0, _, by omega, cc_look hc.2.1.1, ?_⟩⟩
      rintro r ν ⟨rfl, rfl⟩
      have CT := cb_can (l := X.l) (G := X.G) (o := 0) (c := 0) (by omega) (by omega) hk hc.2.1.1 hc.2.2.1 hx
      rw [putB_getB, ← ex] at CT
      rw [c3]
      refine ⟨fun z => absurd z (by decide), fun _ => ⟨0, _, by omega, CT, ?_⟩⟩
      rintro r ν ⟨rfl, rfl⟩
      rw [c2]
      refine ⟨fun _ => ⟨vmono (inR_vp c1) (by have := (cOk_n hk).1; show nLo S.cu ≤ 10; omega), fun v12 ev => ?_⟩, fun z => absurd z (by decide)⟩
      have ev : v12 = nI (ix (S.cu 5 (ix x1))) := by
        rw [ev, ← e5]
        have := (hc.2.1.1.2.2.2.1 _ hx).2.1
        rw [show 10 * 0 + ix x1 = 0 + ix x1 by omega] at this
        exact this
      rw [ev]
      refine ⟨2, _, by omega, ch_start, ?_⟩
      rintro ν1 ⟨τ, he, rfl⟩
      obtain ⟨f1, cr1, b1⟩ := lk_start hw hc he
      refine ⟨n + 4, _, by omega, ch_total (a := 2) (φ := fun _ => false) hk hw.2.2.1.2 hw.2.2.1.1 (by omega) n12 hh (by omega) (fun q => by omega) (fun _ => hg) cr1 b1 (fun q => by omega), ?_⟩
      rintro r ν2 ⟨f2, rfl, -⟩
      rw [hA2]
      have f12 := f1.trans (f2.mono (fun κ o q => ah_lk q))
      obtain ⟨k1, k2⟩ := cI_lk hw hc f12
      have g31 : getB ν2 31 = getB (putB ν 31 τ) 31 := getB_ext (fun κ q => (f2 κ 31 (by
        have q' := (bK_3 q)
        unfold ahK
        rw [decide_eq_false (p := 31 + 0 < 31 ∧ 31 ≤ 43) (by omega), Bool.and_false, Bool.false_or, decide_eq_false (p := (31 : Nat) = 0) (by omega), Bool.and_false])).1)
      have CT := ch_startPaid (l := X.l) (G := X.G) (μ := ν2) hk k2.2.1.1 (by rw [g31]; exact b1) hx t0
      rw [← ex] at CT
      refine ⟨2, _, by omega, CT, ?_⟩
      rintro ν3 ⟨τ3, b3, rfl⟩
      have f3 : fm lkK ν2 (putB ν2 31 τ3) := fm_B (fm.rf _) (fun κ q => by unfold lkK; rw [q, decide_eq_true (by omega)]; rfl) _
      refine ⟨n + 4, _, by omega, ch_total (a := 2) (φ := fun _ => false) hk pI2 pL2 (by omega) n12 hh (by omega) (fun q => by omega) (fun _ => hg) (cR_pB k2.2.1.1) (bR_eqB hk b3 (getB_putB _ _ _)) (fun q => by omega), ?_⟩
      rintro r ν4 ⟨f4, rfl, -⟩
      rw [hB2]
      obtain ⟨k3, k4⟩ := cI_lk hw hc ((f12.trans f3).trans (f4.mono (fun κ o q => ah_lk q)))
      have le : lN B ≤ lN A ↔ B ≤ A := lN_le2 (by omega) (by omega)
      have eq : lN B = lN A ↔ B = A := by
        constructor
        · intro q
          have tA := lNt (n := A) (by omega)
          have tB := lNt (n := B) (by omega)
          rw [q] at tB
          omega
        · intro q; rw [q]
      refine ⟨fun z => ⟨fun z2 => ⟨_, rfl, ?_, k3, k4⟩, fun z2 => ⟨_, rfl, ?_, k3, k4⟩⟩, fun z => ⟨_, rfl, ?_, k3, k4⟩⟩
      · rw [lg_cmp_eq, eq] at z
        rw [lg_cmp_le, le] at z2
        rw [if_neg z, if_neg (by omega)]
      · rw [lg_cmp_eq, eq] at z
        rw [lg_cmp_le, le] at z2
        rw [if_neg z, if_pos (by omega)]
      · rw [lg_cmp_eq, eq] at z
        rw [if_pos z]
    · refine zCT_post (ref μ1 hr1) ?_
      rintro rv μ2 ⟨r, rfl, ⟨g1, -⟩ | ⟨-, rfl, s', m', g3, rfl⟩⟩
      · rw [hr1.2.1.1, hr1.2.2.1, c] at g1; cases g1
      · rw [hr1.2.2.1] at g3
        obtain ⟨k1, k2⟩ := rI_lk (W := 2 ^ (nHi (cuZ μ1) * ix (nI n))) (m' := m') hr1 g3
        refine ⟨_, rfl, ?_, k1, k2⟩
        rw [hr1.2.1.1, hr1.2.2.1, en, Nat.two_mul, bt_b _ _ _ _ _ 0, hA2, hB2, sg_lN hA1 hB1]
end WO
