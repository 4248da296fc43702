/-! THE CLASS LOOKS AHEAD: start, total, what fits -/
def startK (κ o : Nat) : Bool := bKind κ && decide (o = 31)
section CH
variable {l : Launch} {G : zG} {μ : zM} {cu b : zB} {n a sj : Nat} {M : Int}
theorem ch_start : zCT l G 2 yX0_start cX0_start 2 none [.ref (G.ad 0 0), .ref (G.ad 1 0)] μ (zV fun μ' => ∃ ν, eqB ν (getB μ 0) ∧ μ' = putB μ 31 ν) := by
  refine zCT_of (by decide) (Nat.le_of_ble_eq_true rfl) rfl (fun X hl hG hX hr => ?_)
  subst hG
  refine st_X0_start_0 hX hr (by omega) ?_
  have CT := cb_copy (l := X.l) (G := X.G) (μ := μ) (ν := getB μ 31) (o := 31) (o1 := 0) (by omega) (by omega) (by omega)
  rw [putB_getB] at CT
  refine ⟨1, _, by omega, CT, ?_⟩
  rintro μ' ⟨ν, rfl, h⟩
  exact ⟨rfl, ν, h, rfl⟩
theorem getB_putB (μ : zM) (o : Nat) (ν : zB) : eqB (getB (putB μ o ν) o) ν := ⟨fun _ _ => pB0 _ _ _ _, fun _ _ => pB1 _ _ _ _, fun _ _ => ⟨pB2 _ _ _ _, pB3 _ _ _ _, pB4 _ _ _ _, pB5 _ _ _ _⟩⟩
theorem getB_putB_ne (μ : zM) {o o' : Nat} (ν : zB) (h : o' ≠ o) : getB (putB μ o ν) o' = getB μ o' := by
  funext j k
  unfold getB
  split <;> first | rfl | (rw [pBo _ _ _ h])
theorem ch_startPaid (hk : cOk cu) (hR : cR cu μ 0) (hb : bR cu (getB μ 31) b) {i : Nat} (hi : i < nLo cu) (h0 : 0 ≤ (tkC b i (ix (cu 5 i))).toInt) :
    zCT l G 2 yX0_startPaid cX0_startPaid 3 none [.ref (G.ad 0 0), .ref (G.ad 2 0), .int (nI i)] μ (zV fun μ' => ∃ ν, bR cu ν (payS cu i b) ∧ μ' = putB μ 31 ν) := by
  refine zCT_of (by decide) (Nat.le_of_ble_eq_true rfl) rfl (fun X hl hG hX hr => ?_)
  subst hG
  refine st_X0_startPaid_0 hX hr (by omega) ?_
  have CT := cb_pay (l := X.l) (G := X.G) (μ := μ) (ν := getB μ 31) (o := 31) (c := 0) (by omega) (by omega) hk hR hb hi h0
  rw [putB_getB] at CT
  refine ⟨1, _, by omega, CT, ?_⟩
  rintro μ' ⟨ν, rfl, h⟩
  exact ⟨rfl, ν, h, rfl⟩
set_option maxHeartbeats 1000000 in
theorem ch_total {φ : Nat → Bool} (hk : cOk cu) (I : bI b M) (L : LI cu b) (hM : M + 990 * (n : Int) ≤ 999999) (hn : n ≤ 12) (hh : nHi cu * n ≤ 12) (ha4 : a < 4) (hsl : a < 2 → sj < nLo cu) (hsp : 2 ≤ a → sj < nPe cu) (hR : cR cu μ 0) (hb : bR cu (getB μ 31) b) (hF : a = 3 → FB μ φ) :
    zCT l G (n + 4) yX0_total cX0_total 5 (some .long) [.ref (G.ad 0 0), .ref (G.ad 2 0), .int (nI n), .int (nI a), .int (nI sj)] μ (zJ fun r μ' => fm (ahK 0) μ μ' ∧ r = smL (fun j => arvS a sj (μ.1 0 0 5) b (psS cu n j 1 b)) (2 ^ (nHi cu * n)) ∧ (a = 3 → FB μ' (fun i => φ i || (decide (i < 2 ^ (nHi cu * n)) && isF cu b n sj (μ.1 0 0 5) i)))) := by
  refine zCT_of (by decide) (Nat.le_of_ble_eq_true rfl) rfl (fun X hl hG hX hr => ?_)
  subst hG
  subst hl
  refine st_X0_total_0 hX hr (by omega) ?_
  simp only [forall_eq]
  have f : fm (ahK 0) μ (pL (pI (pI (pI μ 0 0 2 (nI n)) 0 0 3 (nI a)) 0 0 4 (nI sj)) 0 0 6 0) := fm_L (fm_I (fm_I (fm_I (fm.rf μ) (ahK_0 0) _ _) (ahK_0 0) _ _) (ahK_0 0) _ _) (ahK_0 0) _ _
  have F1 : a = 3 → FB (pL (pI (pI (pI μ 0 0 2 (nI n)) 0 0 3 (nI a)) 0 0 4 (nI sj)) 0 0 6 0) φ := fun q i hi => by rw [pL_2 _ _ _ _ _ (by decide)]; exact hF q i hi
  have w : wkP cu b n a sj (μ.1 0 0 5) (pL (pI (pI (pI μ 0 0 2 (nI n)) 0 0 3 (nI a)) 0 0 4 (nI sj)) 0 0 6 0) := by
    refine ⟨cR_fm f (ahK_cu 0 0) hk hR, ?_, ?_, ?_, ?_, fun q => ?_⟩
    · simp [pL_row0, pI]
    · simp [pL_row0, pI]
    · simp [pL_row0, pI]
    · simp [pL_row0, pI]
    · rw [(f 18 31 (ahK_B rfl (by omega))).1]; exact (hb.1.2.2.1 sj (hsl (by omega))).2.2.2
  have hb1 : bR cu (getB (pL (pI (pI (pI μ 0 0 2 (nI n)) 0 0 3 (nI a)) 0 0 4 (nI sj)) 0 0 6 0) (31 + 0)) (psS cu 0 0 1 b).2 := by
    rw [getB_fm f (fun κ h => ahK_B h (by omega))]; exact hb
  have s0 : (pL (pI (pI (pI μ 0 0 2 (nI n)) 0 0 3 (nI a)) 0 0 4 (nI sj)) 0 0 6 0).2 0 0 6 = 0 := pL_at _ _ _ _ _
  generalize pL (pI (pI (pI μ 0 0 2 (nI n)) 0 0 3 (nI a)) 0 0 4 (nI sj)) 0 0 6 0 = ν at f F1 w hb1 s0 ⊢
  have CW := cw_walk (l := X.l) (G := X.G) (co := μ.1 0 0 5) hk I L hM hn hh ha4 hsl hsp n 0 0 φ ν (by omega) (Nat.pow_pos (by omega)) w hb1 F1
  refine ⟨n + 3, _, by omega, CW, ?_⟩
  rintro μ' ⟨f2, -, s2, F2⟩
  refine ⟨_, rfl, f.trans f2, ?_, fun q i hi => ?_⟩
  · rw [s2, s0, wkW_all, Int64.zero_add]
  · rw [F2 q i hi]
    dsimp only
    unfold inT
    rw [Nat.mul_zero, Nat.pow_zero, Nat.mod_one, decide_eq_true rfl, Bool.and_true]
/-! how many fit, which one is the i-th -/
theorem sm_cn (cu b : zB) (n sj : Nat) (co : Int32) : ∀ W, smL (fun j => arvS 3 sj co b (psS cu n j 1 b)) W = lN (cnF (isF cu b n sj co) W)
  | 0 => rfl
  | W + 1 => by
    simp only [smL, cnF]
    rw [sm_cn cu b n sj co W]
    show lN _ + (if (psS cu n W 1 b).2 1 sj = co then 1 else 0) = _
    by_cases h : (psS cu n W 1 b).2 1 sj = co
    · have h2 : isF cu b n sj co W = true := decide_eq_true h
      rw [if_pos h, if_pos h2]
      exact (Int64.ofNat_add _ 1).symm
    · have h2 : ¬ isF cu b n sj co W = true := by unfold isF; rw [decide_eq_false h]; decide
      rw [if_neg h, if_neg h2, Nat.add_zero, Int64.add_zero]
theorem cnF_mono (f : Nat → Bool) (i : Nat) : ∀ k, cnF f i ≤ cnF f (i + k)
  | 0 => Nat.le_refl _
  | k + 1 => by
    have := cnF_mono f i k
    rw [show i + (k + 1) = i + k + 1 by omega]
    simp only [cnF]
    omega
theorem cnF_at {f : Nat → Bool} {p W : Nat} (hp : p < W) (h : f p = true) : cnF f p + 1 ≤ cnF f W := by
  have := cnF_mono f (p + 1) (W - (p + 1))
  rw [show p + 1 + (W - (p + 1)) = W by omega] at this
  simp only [cnF, h, if_true] at this
  omega
theorem cnF_congr {f g : Nat → Bool} : ∀ {n : Nat}, (∀ k, k < n → f k = g k) → cnF f n = cnF g n
  | 0, _ => rfl
  | n + 1, h => by
    simp only [cnF]
    rw [cnF_congr (n := n) (fun k hk => h k (by omega)), h n (by omega)]
theorem fnF_none {f : Nat → Bool} {k : Nat} (hk : k < 2 ^ 31) : ∀ {W : Nat}, W < 2 ^ 31 → (∀ p, p < W → f p = true → cnF f p ≠ k) → fnF f (nI k) W = -1
  | 0, _, _ => rfl
  | W + 1, hW, h => by
    have ih := fnF_none hk (W := W) (by omega) (fun p hp => h p (by omega))
    simp only [fnF]
    rw [ih, if_neg (by decide), if_neg]
    rintro ⟨q1, q2⟩
    have := cnF_le f W
    exact h W (by omega) q1 ((nI_eq (by omega) hk).mp q2)
theorem fnF_some {f : Nat → Bool} {k p W : Nat} (hk : k < 2 ^ 31) (hW : W < 2 ^ 31) (hp : p < W) (h : f p = true) (hc : cnF f p = k) : fnF f (nI k) W = nI p := by
  have h0 : fnF f (nI k) p = -1 := fnF_none hk (by omega) (fun q hq hf e => by
    have := cnF_at hq hf
    omega)
  have h1 : fnF f (nI k) (p + 1) = nI p := by
    simp only [fnF]
    rw [h0, if_neg (by decide), if_pos ⟨h, by rw [hc]⟩]
  have := fnF_stay (f := f) (x := nI k) (i := p + 1) (by rw [h1]; exact nI_pos' (by omega)) (W - (p + 1))
  rw [show p + 1 + (W - (p + 1)) = W by omega, h1] at this
  exact this
set_option maxHeartbeats 1000000 in
theorem ch_find {x : Int32} (hk : cOk cu) (I : bI b M) (L : LI cu b) (hM : M + 990 * (n : Int) ≤ 999999) (hn : n ≤ 12) (hh : nHi cu * n ≤ 12) (hsp : sj < nPe cu) (hR : cR cu μ 0) (hb : bR cu (getB μ 31) b) :
    zCT l G (n + 5) yX0_findFitting cX0_findFitting 6 (some .int) [.ref (G.ad 0 0), .ref (G.ad 2 0), .int (nI n), .int (nI sj), .int x] μ (zI fun r μ' => fm (ahK 0) μ μ' ∧ r = nI (cnF (isF cu b n sj x) (2 ^ (nHi cu * n))) ∧ FB μ' (fun i => decide (i < 2 ^ (nHi cu * n)) && isF cu b n sj x i)) := by
  refine zCT_of (by decide) (Nat.le_of_ble_eq_true rfl) rfl (fun X hl hG hX hr => ?_)
  subst hG
  subst hl
  have go : ∀ k i (ν : zM), i + k = 64 → fm (ahK 0) μ ν → ν.1 0 0 5 = x → (∀ r, r < i → ν.2 13 0 r = 0) → AW X 9 [some (.ref (X.G.ad 0 0)), some (.ref (X.G.ad 2 0)), some (.int (nI n)), some (.int (nI sj)), none, some (.int (nI i))] [] ν := by
    intro k
    induction k with
    | zero =>
      intro i ν hi f e z
      have ei : i = 64 := by omega
      subst ei
      refine st_X0_findFitting_9 hX hr (by omega) ⟨fun _ => ?_, fun q => absurd (nI_le (a := 64) (b := 64) (by omega) (by omega)) q⟩
      have hF : FB ν (fun _ => false) := fun i hi => by rw [z _ (by omega), bL_0]
      have CT := ch_total (l := X.l) (G := X.G) (μ := ν) (φ := fun _ => false) (a := 3) hk I L hM hn hh (by omega) (fun q => absurd q (by decide)) (fun _ => hsp) (cR_fm f (ahK_cu 0 0) hk hR) (by rw [getB_fm f (fun κ h => ahK_B h (by omega))]; exact hb) (fun _ => hF)
      refine ⟨n + 4, _, by omega, CT, ?_⟩
      rintro r μ' ⟨f2, rfl, F2⟩
      rw [e] at F2 ⊢
      rw [sm_cn, lN_i]
      refine ⟨_, rfl, f.trans f2, rfl, ?_⟩
      have F2 := F2 rfl
      intro i hi
      rw [F2 i hi]
      dsimp only
      rw [Bool.false_or]
    | succ k ih =>
      intro i ν hi f e z
      have e0 : ix (nI i) = i := ixn (by omega)
      refine st_X0_findFitting_9 hX hr (by omega) ⟨fun q => absurd ((nI_leI (a := 64) (b := i) (by omega) (by omega)).mp q) (by omega), fun _ => ⟨vin (by omega) (by omega), ?_⟩⟩
      simp only [forall_eq, nI_1, e0]
      refine ih (i + 1) _ (by omega) (fm_L f (ahK_13 0) _ _) e (fun r hr => ?_)
      by_cases h : r = i
      · subst h; exact pL_at _ _ _ _ _
      · have : (pL ν 13 0 i 0).2 13 0 r = ν.2 13 0 r := by simp [pL, h]
        rw [this]; exact z r (by omega)
  refine st_X0_findFitting_0 hX hr (by omega) ?_
  simp only [forall_eq]
  exact go 64 0 _ (by omega) (fm_I (fm.rf μ) (ahK_0 0) _ _) (pI_at _ _ _ _ _) (fun r hr => by omega)
set_option maxHeartbeats 1000000 in
theorem ch_at {φ : Nat → Bool} {k : Nat} (hF : FB μ φ) (hk : k < cnF φ 4096) :
    zCT l G 0 yX0_fittingAt cX0_fittingAt 4 (some .int) [.ref (G.ad 0 0), .int (nI k)] μ (zI fun r μ' => μ' = μ ∧ ∃ p, p < 4096 ∧ φ p = true ∧ cnF φ p = k ∧ r = nI p) := by
  refine zCT_of (by decide) (Nat.le_of_ble_eq_true rfl) rfl (fun X hl hG hX hr => ?_)
  subst hG
  have hk4 : k < 4096 := Nat.lt_of_lt_of_le hk (cnF_le φ 4096)
  have go : ∀ m i, i + m = 4096 → cnF φ i ≤ k → AW X 4 [some (.ref (X.G.ad 0 0)), none, some (.int (nI (k - cnF φ i))), some (.int (nI i))] [] μ := by
    intro m
    induction m with
    | zero =>
      intro i hi hc
      have : i = 4096 := by omega
      subst this
      omega
    | succ m ih =>
      intro i hi hc
      have hi4 : i < 4096 := by omega
      have bt : lg_cmp (((μ.2 13 0 (i / 64)) >>> (Int32.toInt64 (nI (i % 64)) &&& 63)) &&& (1 : Int64)) (1 : Int64) = 0 ↔ φ i = true := by
        rw [cmpL, andL1, bL_sshr _ (by omega), hF i hi4]
        cases φ i <;> decide
      refine st_X0_fittingAt_4 hX hr ⟨fun q => absurd ((nI_leI (a := 4096) (b := i) (by omega) (by omega)).mp q) (by omega), fun _ => ?_⟩
      rw [sh6 hi4, an63 hi4, ixn (show i / 64 < 2 ^ 31 by omega)]
      simp only [forall_eq, nI_1]
      refine ⟨vin (by omega) (by omega), fun c1 => ?_, fun c1 => ⟨fun c2 => ?_, fun c2 => ?_⟩⟩
      · have hf : ¬ φ i = true := fun q => c1 (bt.mpr q)
        have e : cnF φ (i + 1) = cnF φ i := by simp only [cnF]; rw [if_neg hf, Nat.add_zero]
        have := ih (i + 1) (by omega) (by rw [e]; exact hc)
        rw [e] at this; exact this
      · have hf := bt.mp c1
        have e : cnF φ (i + 1) = cnF φ i + 1 := by simp only [cnF]; rw [if_pos hf]
        have hlt : cnF φ i < k := by
          rcases Nat.lt_or_ge (cnF φ i) k with h | h
          · exact h
          · exact absurd (by rw [show k - cnF φ i = 0 by omega]; rfl) c2
        have := ih (i + 1) (by omega) (by rw [e]; exact hlt)
        rw [e] at this
        rw [sb_m1 (by omega), show k - cnF φ i - 1 = k - (cnF φ i + 1) by omega]
        exact this
      · have hf := bt.mp c1
        refine ⟨_, rfl, rfl, i, hi4, hf, ?_, rfl⟩
        rcases Nat.eq_zero_or_pos (k - cnF φ i) with h | h
        · omega
        · exact absurd c2 (nI_ne0 h (by omega))
  exact st_X0_fittingAt_0 hX hr (go 4096 0 (by omega) (Nat.zero_le _))
end CH
