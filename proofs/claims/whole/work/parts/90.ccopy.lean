/-! frames by cells -/
def fm (P : Nat → Nat → Bool) (μ ν : zM) : Prop := ∀ κ o, P κ o = false → ν.1 κ o = μ.1 κ o ∧ ν.2 κ o = μ.2 κ o
theorem fm.rf {P : Nat → Nat → Bool} (μ : zM) : fm P μ μ := fun _ _ _ => ⟨rfl, rfl⟩
theorem fm.trans {P : Nat → Nat → Bool} {μ ν ρ : zM} (h : fm P μ ν) (g : fm P ν ρ) : fm P μ ρ := fun κ o q => ⟨(g κ o q).1.trans (h κ o q).1, (g κ o q).2.trans (h κ o q).2⟩
theorem fm.mono {P P' : Nat → Nat → Bool} {μ ν : zM} (h : fm P μ ν) (hP : ∀ κ o, P' κ o = false → P κ o = false) : fm P' μ ν := fun κ o q => h κ o (hP κ o q)
theorem fm_I {P : Nat → Nat → Bool} {μ ν : zM} (h : fm P μ ν) {κ o : Nat} (hP : P κ o = true) (k : Nat) (v : Int32) : fm P μ (pI ν κ o k v) := by
  intro a b q
  have hne : ¬ (a = κ ∧ b = o) := by rintro ⟨rfl, rfl⟩; rw [hP] at q; cases q
  obtain ⟨e1, e2⟩ := pI_ne (μ := ν) (k := k) (v := v) a b hne
  exact ⟨e1.trans (h a b q).1, e2.trans (h a b q).2⟩
theorem fm_L {P : Nat → Nat → Bool} {μ ν : zM} (h : fm P μ ν) {κ o : Nat} (hP : P κ o = true) (k : Nat) (v : Int64) : fm P μ (pL ν κ o k v) := by
  intro a b q
  have hne : ¬ (a = κ ∧ b = o) := by rintro ⟨rfl, rfl⟩; rw [hP] at q; cases q
  obtain ⟨e1, e2⟩ := pL_ne (μ := ν) (k := k) (v := v) a b hne
  exact ⟨e1.trans (h a b q).1, e2.trans (h a b q).2⟩
theorem fm_R {P : Nat → Nat → Bool} {μ ν : zM} (h : fm P μ ν) {κ o : Nat} (hP : P κ o = true) (f : Nat → Int32) : fm P μ (pR ν κ o f) := by
  intro a b q
  have hne : ¬ (a = κ ∧ b = o) := by rintro ⟨rfl, rfl⟩; rw [hP] at q; cases q
  obtain ⟨e1, e2⟩ := pR_ne (μ := ν) (f := f) a b hne
  exact ⟨e1.trans (h a b q).1, e2.trans (h a b q).2⟩
theorem fm_B {P : Nat → Nat → Bool} {μ ν : zM} (h : fm P μ ν) {o : Nat} (hP : ∀ κ, bKind κ = true → P κ o = true) (b : zB) : fm P μ (putB ν o b) := by
  intro a q hq
  refine ⟨?_, (h a q hq).2⟩
  funext k
  rw [← (h a q hq).1]
  by_cases e : q = o
  · subst e
    cases hb : bKind a
    · exact pBx ν q b hb q k
    · rw [hP a hb] at hq; cases hq
  · exact pBo ν o b e a k
/-! CUSTOM: copied -/
def cuK (c κ o : Nat) : Bool := (decide (κ = 2 ∨ κ = 19 ∨ κ = 20 ∨ κ = 21 ∨ κ = 23 ∨ κ = 24 ∨ κ = 25) && decide (o = c)) || (decide (κ = 7) && decide (10 * c ≤ o ∧ o < 10 * c + 10))
def cuE (μ μ' : zM) (c c' : Nat) : Prop := (∀ k, k < 4 → μ'.1 2 c' k = μ.1 2 c k) ∧ (∀ k, k < 4 → μ'.1 19 c' k = μ.1 19 c k) ∧ (∀ k, k < 4 → μ'.1 20 c' k = μ.1 20 c k) ∧ (∀ k, k < 6 → μ'.1 21 c' k = μ.1 21 c k) ∧ (∀ l j, l < 10 → j < 8 → μ'.1 7 (10 * c' + l) j = μ.1 7 (10 * c + l) j) ∧ (∀ k, k < 8 → μ'.1 23 c' k = μ.1 23 c k) ∧ (∀ k, k < 8 → μ'.1 24 c' k = μ.1 24 c k) ∧ ∀ k, k < 8 → μ'.1 25 c' k = μ.1 25 c k
theorem cR_cuE {cu : zB} {μ μ' : zM} {c c' : Nat} (hk : cOk cu) (h : cR cu μ c) (e : cuE μ μ' c c') : cR cu μ' c' := cR_of h e.1 e.2.1 e.2.2.1 e.2.2.2.1 e.2.2.2.2.1 e.2.2.2.2.2.1 e.2.2.2.2.2.2.1 hk
section CU
variable {l : Launch} {G : zG} {μ : zM}
theorem cu_terms {o o1 : Nat} (ho : o < 60) (ho1 : o1 < 60) (hne : o1 ≠ o) :
    zCT l G 0 yX7_copyFrom cX7_copyFrom 2 none [.ref (G.ad 7 o), .ref (G.ad 7 o1)] μ (zV fun μ' => ∃ f, μ' = pR μ 7 o f ∧ ∀ j, j < 8 → f j = μ.1 7 o1 j) := by
  refine zCT_of (by decide) (Nat.le_of_ble_eq_true rfl) rfl (fun X hl hG hX hr => ?_)
  subst hG
  have r1 : ∀ (ν : zM) (k k' : Nat) (v : Int32), (pI ν 7 o k v).1 7 o1 k' = ν.1 7 o1 k' := fun ν k k' v => by simp [pI, hne]
  refine st_X7_copyFrom_0 hX hr ho ho1 ?_
  simp only [forall_eq, r1]
  rw [show pI μ 7 o 0 (μ.1 7 o1 0) = pR μ 7 o (upd (μ.1 7 o) 0 (μ.1 7 o1 0)) by rw [← pI_pR, pR_self]]
  simp only [pI_pR]
  refine ⟨rfl, _, rfl, fun j hj => ?_⟩
  have : j = 0 ∨ j = 1 ∨ j = 2 ∨ j = 3 ∨ j = 4 ∨ j = 5 ∨ j = 6 ∨ j = 7 := by omega
  rcases this with rfl | rfl | rfl | rfl | rfl | rfl | rfl | rfl <;> simp [upd]
set_option maxHeartbeats 2000000 in
theorem cu_copy {c c1 : Nat} (hc : c < 6) (hc1 : c1 < 6) (hne : c1 ≠ c) :
    zCT l G 1 yX2_copyFrom cX2_copyFrom 3 none [.ref (G.ad 2 c), .ref (G.ad 2 c1)] μ (zV fun μ' => fm (cuK c) μ μ' ∧ cuE μ μ' c1 c) := by
  refine zCT_of (by decide) (Nat.le_of_ble_eq_true rfl) rfl (fun X hl hG hX hr => ?_)
  subst hG
  have hK : ∀ κ, κ = 2 ∨ κ = 19 ∨ κ = 20 ∨ κ = 21 ∨ κ = 23 ∨ κ = 24 ∨ κ = 25 → cuK c κ c = true := fun κ h => by simp [cuK, h]
  have hN : ∀ κ, κ = 2 ∨ κ = 19 ∨ κ = 20 ∨ κ = 21 ∨ κ = 23 ∨ κ = 24 ∨ κ = 25 → cuK c κ c1 = false := fun κ h => by
    rcases h with rfl | rfl | rfl | rfl | rfl | rfl | rfl <;> simp [cuK, hne]
  have h7 : ∀ i, i < 10 → cuK c 7 (10 * c + i) = true := fun i hi => by simp [cuK]; omega
  have n7 : ∀ i, i < 10 → cuK c 7 (10 * c1 + i) = false := fun i hi => by simp [cuK]; omega
  -- the loop over the terms, and the end
  have go : ∀ k i (ν : zM), i + k = 10 → fm (cuK c) μ ν → (∀ k, k < 4 → ν.1 2 c k = μ.1 2 c1 k) → (∀ k, k < 4 → ν.1 19 c k = μ.1 19 c1 k) → (∀ k, k < 4 → ν.1 20 c k = μ.1 20 c1 k) → (∀ k, k < 6 → ν.1 21 c k = μ.1 21 c1 k) → (∀ l j, l < i → j < 8 → ν.1 7 (10 * c + l) j = μ.1 7 (10 * c1 + l) j) →
      AW X 77 [some (.ref (X.G.ad 2 c)), some (.ref (X.G.ad 2 c1)), some (.int (nI i))] [] ν := by
    intro k
    induction k with
    | zero =>
      intro i ν hi f e2 e19 e20 e21 e7
      have ei : i = 10 := by omega
      subst ei
      have rd : ∀ κ, κ = 2 ∨ κ = 19 ∨ κ = 20 ∨ κ = 21 ∨ κ = 23 ∨ κ = 24 ∨ κ = 25 → ν.1 κ c1 = μ.1 κ c1 := fun κ h => (f κ c1 (hN κ h)).1
      refine st_X2_copyFrom_77 hX hr hc hc1 ⟨fun _ => ⟨by omega, ?_⟩, fun q => absurd (nI_le (a := 10) (b := 10) (by omega) (by omega)) q⟩
      simp only [forall_eq]
      refine ⟨rfl, fm_R (fm_R (fm_R f (hK 23 (by omega)) _) (hK 24 (by omega)) _) (hK 25 (by omega)) _, fun k hk => ?_, fun k hk => ?_, fun k hk => ?_, fun k hk => ?_, fun l j hl hj => ?_, fun k hk => ?_, fun k hk => ?_, fun k hk => ?_⟩
      · rw [pR_row2 _ _ _ _ (by decide), pR_row2 _ _ _ _ (by decide), pR_row2 _ _ _ _ (by decide)]; exact e2 k hk
      · rw [pR_row2 _ _ _ _ (by decide), pR_row2 _ _ _ _ (by decide), pR_row2 _ _ _ _ (by decide)]; exact e19 k hk
      · rw [pR_row2 _ _ _ _ (by decide), pR_row2 _ _ _ _ (by decide), pR_row2 _ _ _ _ (by decide)]; exact e20 k hk
      · rw [pR_row2 _ _ _ _ (by decide), pR_row2 _ _ _ _ (by decide), pR_row2 _ _ _ _ (by decide)]; exact e21 k hk
      · rw [pR_row2 _ _ _ _ (by decide), pR_row2 _ _ _ _ (by decide), pR_row2 _ _ _ _ (by decide)]; exact e7 l j hl hj
      · rw [pR_row2 _ _ _ _ (by decide), pR_row2 _ _ _ _ (by decide), pR_at, cpy00 hk, rd 23 (by omega)]
      · rw [pR_row2 _ _ _ _ (by decide), pR_at, cpy00 hk, pR_row2 _ _ _ _ (by decide), rd 24 (by omega)]
      · rw [pR_at, cpy00 hk, pR_row2 _ _ _ _ (by decide), pR_row2 _ _ _ _ (by decide), rd 25 (by omega)]
    | succ k ih =>
      intro i ν hi f e2 e19 e20 e21 e7
      have e0 : ix (nI i) = i := ixn (by omega)
      refine st_X2_copyFrom_77 hX hr hc hc1 ⟨fun q => absurd ((nI_leI (a := 10) (b := i) (by omega) (by omega)).mp q) (by omega), fun _ => ⟨vin (by omega) (by omega), ?_⟩⟩
      simp only [e0, Nat.add_zero]
      refine ⟨0, _, by omega, cu_terms (o := 10 * c + i) (o1 := 10 * c1 + i) (by omega) (by omega) (by omega), ?_⟩
      rintro μ' ⟨g, rfl, hg⟩
      simp only [forall_eq, nI_1]
      refine ih (i + 1) _ (by omega) (fm_R f (h7 i (by omega)) _) (fun k hk => ?_) (fun k hk => ?_) (fun k hk => ?_) (fun k hk => ?_) (fun l j hl hj => ?_)
      · rw [pR_row2 _ _ _ _ (by decide)]; exact e2 k hk
      · rw [pR_row2 _ _ _ _ (by decide)]; exact e19 k hk
      · rw [pR_row2 _ _ _ _ (by decide)]; exact e20 k hk
      · rw [pR_row2 _ _ _ _ (by decide)]; exact e21 k hk
      · by_cases h : l = i
        · subst h
          rw [pR_at, hg j hj, (f 7 (10 * c1 + l) (n7 l (by omega))).1]
        · have : (pR ν 7 (10 * c + i) g).1 7 (10 * c + l) j = ν.1 7 (10 * c + l) j := by
            simp [pR, h]
          rw [this]; exact e7 l j (by omega) hj
  have r1 : ∀ (ν : zM) (k k' : Nat) (v : Int32), (pI ν 2 c k v).1 2 c1 k' = ν.1 2 c1 k' := fun ν k k' v => by simp [pI, hne]
  refine st_X2_copyFrom_0 hX hr hc hc1 ?_
  simp only [forall_eq, r1]
  refine ⟨by omega, go 10 0 _ (by omega) ?_ (fun k hk => ?_) (fun k hk => ?_) (fun k hk => ?_) (fun k hk => ?_) (fun l j hl hj => by omega)⟩
  · exact fm_R (fm_R (fm_R (fm_I (fm_I (fm_I (fm_I (fm.rf μ) (hK 2 (by omega)) _ _) (hK 2 (by omega)) _ _) (hK 2 (by omega)) _ _) (hK 2 (by omega)) _ _) (hK 19 (by omega)) _) (hK 20 (by omega)) _) (hK 21 (by omega)) _
  · rw [pR_row2 _ _ _ _ (by decide), pR_row2 _ _ _ _ (by decide), pR_row2 _ _ _ _ (by decide)]
    have : k = 0 ∨ k = 1 ∨ k = 2 ∨ k = 3 := by omega
    rcases this with rfl | rfl | rfl | rfl <;> simp [pI]
  · rw [pR_row2 _ _ _ _ (by decide), pR_row2 _ _ _ _ (by decide), pR_at, cpy00 hk]
    simp only [pI_row2 _ _ _ _ _ (show 19 ≠ 2 by decide)]
  · rw [pR_row2 _ _ _ _ (by decide), pR_at, cpy00 hk, pR_row2 _ _ _ _ (by decide)]
    simp only [pI_row2 _ _ _ _ _ (show 20 ≠ 2 by decide)]
  · rw [pR_at, cpy00 hk, pR_row2 _ _ _ _ (by decide), pR_row2 _ _ _ _ (by decide)]
    simp only [pI_row2 _ _ _ _ _ (show 21 ≠ 2 by decide)]
theorem cu_clear {c : Nat} (hc : c < 6) :
    zCT l G 0 yX2_clear cX2_clear 1 none [.ref (G.ad 2 c)] μ (zV fun μ' => μ' = pI (pI (pI (pI μ 2 c 0 0) 2 c 1 0) 2 c 2 0) 2 c 3 0) := by
  refine zCT_of (by decide) (Nat.le_of_ble_eq_true rfl) rfl (fun X hl hG hX hr => ?_)
  subst hG
  refine st_X2_clear_0 hX hr hc ?_
  simp only [forall_eq]
  exact ⟨rfl, rfl⟩
/-! PAST -/
theorem cp_forget : zCT l G 0 yX4_forget cX4_forget 1 none [.ref (G.ad 4 0)] μ (zV fun μ' => μ' = pI μ 4 0 0 0) := by
  refine zCT_of (by decide) (Nat.le_of_ble_eq_true rfl) rfl (fun X hl hG hX hr => ?_)
  subst hG
  refine st_X4_forget_0 hX hr ?_
  simp only [forall_eq]
  exact ⟨rfl, rfl⟩
theorem pB_4 (μ : zM) (o : Nat) (b : zB) (q k : Nat) : (putB μ o b).1 4 q k = μ.1 4 q k := pBx μ o b rfl q k
def nxtP (p : Nat) : Nat := if p + 1 < 30 then p + 1 else 0
def prvP (p : Nat) : Nat := if 0 < p then p - 1 else 29
theorem cp_keep {n p : Nat} (en : μ.1 4 0 0 = nI n) (hn : n ≤ 30) (ep : μ.1 4 0 1 = nI p) (hp : p < 30) :
    zCT l G 2 yX4_keep cX4_keep 2 none [.ref (G.ad 4 0), .ref (G.ad 1 0)] μ (zV fun μ' => ∃ ν, eqB ν (getB μ 0) ∧ μ' = pI (pI (putB μ (1 + p) ν) 4 0 1 (nI (nxtP p))) 4 0 0 (nI (if n = 30 then 30 else n + 1))) := by
  refine zCT_of (by decide) (Nat.le_of_ble_eq_true rfl) rfl (fun X hl hG hX hr => ?_)
  subst hG
  have e0 : ix (nI p) = p := ixn (by omega)
  refine st_X4_keep_0 hX hr (by omega) ?_
  rw [ep, e0]
  refine ⟨vin hp (by omega), ?_⟩
  have CT := cb_copy (l := X.l) (G := X.G) (μ := μ) (ν := getB μ (1 + p)) (o := 1 + p) (o1 := 0) (by omega) (by omega) (by omega)
  rw [putB_getB] at CT
  refine ⟨1, _, by omega, CT, ?_⟩
  rintro μ' ⟨ν, rfl, hν⟩
  have r0 : ∀ v : Int32, (pI (putB μ (1 + p) ν) 4 0 1 v).1 4 0 0 = nI n := fun v => by rw [pI_place _ _ _ _ (by decide), pB_4, en]
  have mn : (if (30 : Int32) < nI (n + 1) then (30 : Int32) else nI (n + 1)) = nI (if n = 30 then 30 else n + 1) := by
    have e30 : (30 : Int32) = nI 30 := rfl
    rw [e30]
    by_cases h : n = 30
    · subst h; rw [if_pos (nI_lt (by omega) (by omega)), if_pos rfl]
    · rw [if_neg (nI_nlt (by omega) (by omega)), if_neg h]
  simp only [forall_eq, pB_4, ep, nI_1, r0, mn]
  have e30 : (30 : Int32) = nI 30 := rfl
  refine ⟨fun c1 => ⟨by omega, rfl, ν, hν, ?_⟩, fun c1 => ⟨by omega, rfl, ν, hν, ?_⟩⟩
  · rw [e30] at c1
    have := (nI_leI (by omega) (by omega)).mp c1
    have e : nxtP p = 0 := by unfold nxtP; rw [if_neg (by omega)]
    rw [e]; rfl
  · rw [e30] at c1
    have : p + 1 < 30 := by
      rcases Nat.lt_or_ge (p + 1) 30 with h | h
      · exact h
      · exact absurd (nI_le h (by omega)) c1
    have e : nxtP p = p + 1 := by unfold nxtP; rw [if_pos this]
    rw [e]
theorem cp_back {n p : Nat} (en : μ.1 4 0 0 = nI n) (hn : n ≤ 30) (ep : μ.1 4 0 1 = nI p) (hp : p < 30) :
    zCT l G 2 yX4_giveBack cX4_giveBack 2 (some .boolean) [.ref (G.ad 4 0), .ref (G.ad 1 0)] μ (zI fun r μ' => (n = 0 ∧ r = 0 ∧ μ' = μ) ∨ (0 < n ∧ r = 1 ∧ ∃ ν, eqB ν (getB μ (1 + prvP p)) ∧ μ' = putB (pI (pI μ 4 0 1 (nI (prvP p))) 4 0 0 (nI (n - 1))) 0 ν)) := by
  refine zCT_of (by decide) (Nat.le_of_ble_eq_true rfl) rfl (fun X hl hG hX hr => ?_)
  subst hG
  have key : ∀ q : Nat, q < 30 → 0 < n → q = prvP p → ∀ v : Int32, v = nI q → (vp_in ((pI (pI μ 4 0 1 v) 4 0 0 (nI n - 1)).1 4 0 1) 30) ∧ (zCallV X 2 yX1_copyFrom cX1_copyFrom 2 none [.ref (X.G.ad 1 0), .ref (X.G.ad 1 (1 + (ix ((pI (pI μ 4 0 1 v) 4 0 0 (nI n - 1)).1 4 0 1))))] (pI (pI μ 4 0 1 v) 4 0 0 (nI n - 1)) (fun μ8 => (zI fun r μ' => (n = 0 ∧ r = 0 ∧ μ' = μ) ∨ (0 < n ∧ r = 1 ∧ ∃ ν, eqB ν (getB μ (1 + prvP p)) ∧ μ' = putB (pI (pI μ 4 0 1 (nI (prvP p))) 4 0 0 (nI (n - 1))) 0 ν)) (some (.int (1 : Int32))) μ8)) := by
    rintro q hq h0 eq v rfl
    have e1 : nI n - 1 = nI (n - 1) := by
      have := nI_subN (a := n) (b := 1) (by omega)
      exact this
    rw [e1]
    have r1 : (pI (pI μ 4 0 1 (nI q)) 4 0 0 (nI (n - 1))).1 4 0 1 = nI q := by rw [pI_place _ _ _ _ (by decide), pI_at]
    rw [r1, ixn (by omega)]
    refine ⟨vin hq (by omega), ?_⟩
    have CT := cb_copy (l := X.l) (G := X.G) (μ := pI (pI μ 4 0 1 (nI q)) 4 0 0 (nI (n - 1))) (ν := getB (pI (pI μ 4 0 1 (nI q)) 4 0 0 (nI (n - 1))) 0) (o := 0) (o1 := 1 + q) (by omega) (by omega) (by omega)
    rw [putB_getB] at CT
    refine ⟨1, _, by omega, CT, ?_⟩
    rintro μ' ⟨ν, rfl, hν⟩
    refine ⟨1, rfl, Or.inr ⟨h0, rfl, ν, ?_, by rw [eq]⟩⟩
    have eg : getB (pI (pI μ 4 0 1 (nI q)) 4 0 0 (nI (n - 1))) (1 + q) = getB μ (1 + q) := by
      funext j k
      unfold getB
      split <;> first | rfl | (rw [pI_other _ _ _ _ _ _ (by decide), pI_other _ _ _ _ _ _ (by decide)])
    rw [eg] at hν
    rw [← eq]; exact hν
  refine st_X4_giveBack_0 hX hr (by omega) ?_
  rw [en, ep]
  refine ⟨fun c0 => ?_, fun c0 => ?_⟩
  · have h0 : 0 < n := by
      rcases Nat.eq_zero_or_pos n with h | h
      · subst h; exact absurd rfl c0
      · exact h
    have r0 : ∀ v : Int32, (pI μ 4 0 1 v).1 4 0 0 = nI n := fun v => by rw [pI_place _ _ _ _ (by decide), en]
    simp only [forall_eq, r0]
    refine ⟨fun c1 => ?_, fun c1 => ?_⟩
    · have : p = 0 := by
        rcases Nat.eq_zero_or_pos p with h | h
        · exact h
        · exact absurd c1 (nI_nle h (by omega))
      subst this
      exact key 29 (by omega) h0 rfl 29 rfl
    · have : 0 < p := by
        rcases Nat.eq_zero_or_pos p with h | h
        · subst h; exact absurd (by decide) c1
        · exact h
      exact key (p - 1) (by omega) h0 (by rw [prvP, if_pos this]) _ (nI_subN (a := p) (b := 1) (by omega))
  · refine ⟨_, rfl, Or.inl ⟨?_, rfl, rfl⟩⟩
    rcases Nat.eq_zero_or_pos n with h | h
    · exact h
    · exact absurd c0 (nI_ne0 h (by omega))
/-! MARK -/
theorem cm_lay {m : Nat} (hm : m < 4) :
    zCT l G 2 yX3_lay cX3_lay 3 none [.ref (G.ad 3 m), .ref (G.ad 2 0), .ref (G.ad 1 0)] μ (zV fun μ' => ∃ ρ ν, fm (cuK (m + 2)) (pI μ 3 m 0 1) ρ ∧ cuE (pI μ 3 m 0 1) ρ 0 (m + 2) ∧ eqB ν (getB ρ 0) ∧ μ' = putB ρ (m + 45) ν) := by
  refine zCT_of (by decide) (Nat.le_of_ble_eq_true rfl) rfl (fun X hl hG hX hr => ?_)
  subst hG
  refine st_X3_lay_0 hX hr hm (by omega) (by omega) ?_
  simp only [forall_eq]
  refine ⟨1, _, by omega, cu_copy (by omega) (by omega) (by omega), ?_⟩
  rintro ρ ⟨f, e⟩
  have CT := cb_copy (l := X.l) (G := X.G) (μ := ρ) (ν := getB ρ (m + 45)) (o := m + 45) (o1 := 0) (by omega) (by omega) (by omega)
  rw [putB_getB] at CT
  refine ⟨1, _, by omega, CT, ?_⟩
  rintro μ' ⟨ν, rfl, hν⟩
  exact ⟨rfl, ρ, ν, f, e, hν, rfl⟩
end CU
