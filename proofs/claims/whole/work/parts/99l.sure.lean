/-! GAINS -/
theorem gstep (a p q : Int32) : a - p + q = a + (q - p) := by
  rw [Int32.sub_eq_add_neg, Int32.sub_eq_add_neg, Int32.add_assoc, Int32.add_comm (-p) q]
theorem shr_0 (b : Nat) : ¬ ((0 : Int32) >>> (nI b &&& 31)) &&& (1 : Int32) = 1 := by
  rw [Int32.zero_shiftRight]; decide
theorem gaW_0 (vw : Nat → Int32 → Int32) (py pr : Nat → Int32) (wet : Int32) : ∀ n, gaW vw py pr 0 wet n = 0
  | 0 => rfl
  | n + 1 => by rw [gaW, if_neg (shr_0 n)]; exact gaW_0 vw py pr wet n
theorem lsW_0 {g : Int32 → Int32 → Int32} (h : ∀ w, g 0 w = 0) : ∀ W, lsW g 0 W = 0
  | 0 => h 0
  | W + 1 => by rw [lsW, h, lsW_0 h W]; rfl
theorem gaW_ext {vw : Nat → Int32 → Int32} {py pr py' pr' : Nat → Int32} {s w : Int32} : ∀ n, (∀ k, k < n → py k = py' k ∧ pr k = pr' k) → gaW vw py pr s w n = gaW vw py' pr' s w n
  | 0, _ => rfl
  | n + 1, h => by rw [gaW, gaW, gaW_ext n (fun k hk => h k (by omega)), (h n (by omega)).1, (h n (by omega)).2]
section GA
variable {l : Launch} {G : zG} {S : zSt} {μ ν : zM} {M : Int} {x1 x2 x3 x4 set : Int32} {cu : zB} {vw : zV3} {c : Nat}
set_option maxHeartbeats 1000000 in
theorem cg_gain (hc : c < 6) (hk : cOk cu) (hR : cR cu μ c) (hw : wn (μ.1 25 c) (nBe cu) vw) {w : Nat} (h16 : w < 16) :
    zCT l G 0 yX2_gainOf cX2_gainOf 5 (some .int) [.ref (G.ad 2 c), .int set, .int (nI w)] μ (zI fun r μ' => r = gaW vw (cu 13) (cu 12) set (nI w) (nBe cu) ∧ μ' = μ) := by
  refine zCT_of (by decide) (Nat.le_of_ble_eq_true rfl) rfl (fun X hl hG hX hr => ?_)
  subst hG
  have n8 := cOk_8 hk
  have e3 : μ.1 2 c 3 = nI (nBe cu) := hR.1.2.2.2.trans (vof hk.2.2.2.1 (by omega))
  have go : ∀ k i, i + k = nBe cu → AW X 5 [some (.ref (X.G.ad 2 c)), some (.int set), some (.int (nI w)), some (.int (gaW vw (cu 13) (cu 12) set (nI w) i)), some (.int (nI i))] [] μ := by
    intro k
    induction k with
    | zero =>
      intro i hi
      refine st_X2_gainOf_5 hX hr hc ⟨fun _ => ⟨_, rfl, by rw [show i = nBe cu by omega], rfl⟩, fun q => absurd (by rw [e3]; exact nI_le (by omega) (by omega)) q⟩
    | succ k ih =>
      intro i hi
      have ih' := ih (i + 1) (by omega)
      rw [gaW] at ih'
      have ei : ix (nI i) = i := ixn (by omega)
      obtain ⟨p1, p2⟩ := hR.2.2.2.2 i (by omega)
      have wb := wet_bit (μ.1 25 c i) (i := w) (by omega)
      rw [hw i (by omega) w h16] at wb
      refine st_X2_gainOf_5 hX hr hc ⟨fun q => absurd ((nI_leI (a := nBe cu) (b := i) (by omega) (by omega)).mp (by rw [e3] at q; exact q)) (by omega), fun _ => ⟨fun q v hv => ?_, fun q => ⟨vin (by omega) (by omega), ?_⟩⟩⟩
      · rw [hv, nI_1]
        rw [if_neg q] at ih'
        exact ih'
      · rw [ei, wb, p1, p2]
        rw [if_pos q] at ih'
        simp only [forall_eq, nI_1]
        refine ⟨fun d => ?_, fun d => ?_⟩
        · have z : vw i (nI w) = 0 := by
            refine Classical.byContradiction (fun z => d ?_)
            rw [decide_eq_true z]; rfl
          rw [if_pos z, ← gstep] at ih'
          exact ih'
        · have z : ¬ vw i (nI w) = 0 := by
            intro z
            rw [decide_eq_false (fun q => q z)] at d
            cases d
          rw [if_neg z, ← gstep] at ih'
          exact ih'
  exact st_X2_gainOf_0 hX hr hc (go (nBe cu) 0 (by omega))
set_option maxHeartbeats 1000000 in
theorem cg_least (hc : c < 6) (hk : cOk cu) (hR : cR cu μ c) (hw : wn (μ.1 25 c) (nBe cu) vw) :
    zCT l G 1 yX2_leastGain cX2_leastGain 4 (some .int) [.ref (G.ad 2 c), .int set] μ (zI fun r μ' => r = lsW (fun s w => gaW vw (cu 13) (cu 12) s w (nBe cu)) set (2 ^ nHi cu - 1) ∧ μ' = μ) := by
  refine zCT_of (by decide) (Nat.le_of_ble_eq_true rfl) rfl (fun X hl hG hX hr => ?_)
  subst hG
  have n4 := (cOk_n hk).2.2
  have p4 : 2 ^ nHi cu ≤ 16 := Nat.le_trans (Nat.pow_le_pow_right (by omega) n4) (by decide)
  have p0 : 0 < 2 ^ nHi cu := Nat.pow_pos (by omega)
  have e0 : (1 : Int32) <<< ((μ.1 2 c 0) &&& 31) = nI (2 ^ nHi cu) := by rw [hR.1.1.trans (vof hk.1 (by omega)), sh1 (h := ix (cu 0 0)) (by show nHi cu ≤ 12; omega)]
  have go : ∀ k i, i + k = 2 ^ nHi cu → 1 ≤ i → AW X 9 [some (.ref (X.G.ad 2 c)), some (.int set), some (.int (lsW (fun s w => gaW vw (cu 13) (cu 12) s w (nBe cu)) set (i - 1))), some (.int (nI i))] [] μ := by
    intro k
    induction k with
    | zero =>
      intro i hi _
      refine st_X2_leastGain_9 hX hr hc ⟨fun _ => ⟨_, rfl, by rw [show i = 2 ^ nHi cu by omega], rfl⟩, fun q => absurd (by rw [e0]; exact nI_le (by omega) (by omega)) q⟩
    | succ k ih =>
      intro i hi h1
      have ih' := ih (i + 1) (by omega) (by omega)
      rw [show i + 1 - 1 = (i - 1) + 1 by omega, lsW, show i - 1 + 1 = i by omega] at ih'
      refine st_X2_leastGain_9 hX hr hc ⟨fun q => absurd ((nI_leI (a := 2 ^ nHi cu) (b := i) (by omega) (by omega)).mp (by rw [e0] at q; exact q)) (by omega), fun _ => ⟨0, _, by omega, cg_gain hc hk hR hw (by omega), ?_⟩⟩
      intro r ν hq; rw [hq.1, hq.2]; clear hq
      refine ⟨by omega, ?_⟩
      simp only [forall_eq, nI_1]
      exact ih'
  refine st_X2_leastGain_0 hX hr hc ⟨0, _, by omega, cg_gain (w := 0) hc hk hR hw (by omega), ?_⟩
  intro r ν hq; rw [hq.1, hq.2]; clear hq
  exact go (2 ^ nHi cu - 1) 1 (by omega) (by omega)
theorem ga_rI (hr : rI S μ) (f : frm gaP noQ (pI μ 11 0 0 0) ν) : fm rfK μ ν ∧ rI S ν := by
  have e : ∀ κ, κ ≠ 11 → (∀ k, gaP κ k = false) → ν.1 κ 0 = μ.1 κ 0 := fun κ a b => by
    funext k
    rw [f.1 κ 0 k (b k), pI_row2 _ _ _ _ _ a]
  constructor
  · intro κ o q
    have q := of_decide_eq_false q
    refine ⟨by funext k; rw [f.1 κ o k (by simp only [gaP, Bool.or_eq_false_iff, Bool.and_eq_false_iff, decide_eq_false_iff_not]; omega), pI_row2 _ _ _ _ _ (by omega)], by funext k; rw [f.2 κ o k rfl]; rfl⟩
  · refine rI_ext (fun κ a b c d => e κ (by omega) (fun k => by simp only [gaP, Bool.or_eq_false_iff, Bool.and_eq_false_iff, decide_eq_false_iff_not]; omega)) ?_ ?_ hr
    · rw [f.1 11 0 1 rfl, pI_place _ _ _ _ (by decide)]
    · rw [f.1 11 0 50 rfl, pI_place _ _ _ _ (by decide)]
set_option maxHeartbeats 1000000 in
theorem pr_sure (h : Rel M μ) : zCT l G 2 yX10_sure cX10_sure 6 (some .int) [.ref (G.ad 10 0), .int x1] μ (zI fun r μ1 => zCT l G 4 yX11_sure cX11_sure 7 (some .int) [.ref (G.ad 11 0), .int x1] μ1 (zI fun r2 μ2 => r2 = r ∧ Rel M μ2)) := by
  refine pr_I (R := fun _ => True) h (fun S hc hr0 hw => ?_)
  have hk := hw.2.1.1
  have n8 := cOk_8 hk
  have n4 := (cOk_n hk).2.2
  have p0 : 0 < 2 ^ nBe S.cu := Nat.pow_pos (by omega)
  have p8 : 2 ^ nBe S.cu ≤ 256 := Nat.le_trans (Nat.pow_le_pow_right (by omega) n8) (by decide)
  obtain ⟨g, eg⟩ : ∃ g, g = fun s w => gaW S.vw (S.cu 13) (S.cu 12) s w (nBe S.cu) := ⟨_, rfl⟩
  refine ⟨if wthn x1 0 1 = true then (if x1 = 0 then (suS g (2 ^ nHi S.cu - 1) (2 ^ nBe S.cu)).2 else (suS g (2 ^ nHi S.cu - 1) (2 ^ nBe S.cu)).1) else -1, S, hw, ?_, fun μ1 hr1 => ?_⟩
  · refine zCT_of (by decide) (Nat.le_of_ble_eq_true rfl) rfl (fun X hl hG hX hr => ?_)
    subst hG
    have fin : ∀ A, A = (if wthn x1 0 1 = true then (if x1 = 0 then (suS g (2 ^ nHi S.cu - 1) (2 ^ nBe S.cu)).2 else (suS g (2 ^ nHi S.cu - 1) (2 ^ nBe S.cu)).1) else -1) → (zI fun r μ1 => r = (if wthn x1 0 1 = true then (if x1 = 0 then (suS g (2 ^ nHi S.cu - 1) (2 ^ nBe S.cu)).2 else (suS g (2 ^ nHi S.cu - 1) (2 ^ nBe S.cu)).1) else -1) ∧ fm clK μ μ1 ∧ cI S μ1) (some (.int A)) μ := fun A q => ⟨_, rfl, q, fm.rf _, hc⟩
    have e0 : (1 : Int32) <<< ((μ.1 2 0 3) &&& 31) = nI (2 ^ nBe S.cu) := by rw [hc.2.1.1.1.2.2.2.trans (vof hk.2.2.2.1 (by omega)), sh1 (h := ix (S.cu 0 3)) (by show nBe S.cu ≤ 12; omega)]
    refine st_X10_sure_0 hX hr ⟨fun a => fin _ ?_, fun a => ⟨fun b => ?_, fun b => fin _ ?_⟩⟩
    · rw [if_neg (fun z => by unfold wthn at z; rw [decide_eq_false (fun q => q a), Bool.false_and] at z; cases z)]
    · have ok : wthn x1 0 1 = true := by
        unfold wthn
        rw [decide_eq_true a, decide_eq_true (p := ¬ (1 : Int32) < x1) (fun z => by rw [Int32.lt_iff_toInt_lt] at z; rw [Int32.le_iff_toInt_le] at b; omega)]; rfl
      have go : ∀ k i, i + k = 2 ^ nBe S.cu → 1 ≤ i → AW X 18 [some (.ref (X.G.ad 10 0)), some (.int x1), some (.int (suS g (2 ^ nHi S.cu - 1) i).1), some (.int (suS g (2 ^ nHi S.cu - 1) i).2), some (.int (nI i)), none] [] μ := by
        intro k
        induction k with
        | zero =>
          intro i hi _
          have ei : i = 2 ^ nBe S.cu := by omega
          refine st_X10_sure_18 hX hr ⟨fun _ => ⟨fun y => fin _ ?_, fun y => fin _ ?_⟩, fun q => absurd (by rw [e0]; exact nI_le (by omega) (by omega)) q⟩
          · rw [if_pos ok, if_neg y, ei]
          · rw [if_pos ok, if_pos y, ei]
        | succ k ih =>
          intro i hi h1
          have ih' := ih (i + 1) (by omega) (by omega)
          rw [suS] at ih'
          refine st_X10_sure_18 hX hr ⟨fun q => absurd ((nI_leI (a := 2 ^ nBe S.cu) (b := i) (by omega) (by omega)).mp (by rw [e0] at q; exact q)) (by omega), fun _ => ⟨1, _, by omega, cg_least (by omega) hk hc.2.1.1 hc.2.1.2, ?_⟩⟩
          intro r ν hq; rw [hq.1, hq.2]; clear hq
          rw [← eg]
          simp only [forall_eq, nI_1]
          refine ⟨fun y => ?_, fun y => ?_⟩
          · rw [if_neg (fun z => z.elim (fun z => by omega) (fun z => by rw [Int32.lt_iff_toInt_lt] at z; rw [Int32.le_iff_toInt_le] at y; omega))] at ih'
            exact ih'
          · rw [if_pos (Or.inr (by rw [Int32.lt_iff_toInt_lt]; rw [Int32.le_iff_toInt_le] at y; omega))] at ih'
            exact ih'
      have e1 : suS g (2 ^ nHi S.cu - 1) 1 = (0, 0) := by
        show (if 0 = 0 ∨ _ then (nI 0, lsW g (nI 0) (2 ^ nHi S.cu - 1)) else _) = _
        rw [if_pos (Or.inl rfl)]
        rw [show nI 0 = (0 : Int32) from rfl, lsW_0 (fun w => by rw [eg]; exact gaW_0 _ _ _ _ _)]
      have := go (2 ^ nBe S.cu - 1) 1 (by omega) (by omega)
      rw [e1] at this
      exact this
    · rw [if_neg (fun z => by
        unfold wthn at z
        rw [decide_eq_false (p := ¬ (1 : Int32) < x1) (fun q => q (by rw [Int32.lt_iff_toInt_lt]; rw [Int32.le_iff_toInt_le] at b; omega)), Bool.and_false] at z
        cases z)]
  · have e39 : μ1.1 39 0 0 = nI (nBe S.cu) := by rw [← vof hk.2.2.2.1 (by omega), ← hr1.2.1.1]; rfl
    have e36 : μ1.1 36 0 0 = nI (nHi S.cu) := by rw [← vof hk.1 (by omega), ← hr1.2.1.1]; rfl
    refine zCT_post (cr_sure (lc := l) (G := G) (μ := μ1) (x1 := x1) (BWq_0 hr1.2.1.2) n8 e39 n4 e36) ?_
    rintro rv μ2 ⟨r, rfl, rfl, f⟩
    obtain ⟨k1, k2⟩ := ga_rI hr1 f
    refine ⟨_, rfl, ?_, k1, k2⟩
    have : (fun s w => gaW S.vw (μ1.1 54 0) (μ1.1 53 0) s w (nBe S.cu)) = g := by
      rw [eg, ← hr1.2.1.1]; rfl
    rw [this]
end GA
