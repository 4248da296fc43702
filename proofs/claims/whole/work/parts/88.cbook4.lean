/-! THE CLASS'S BOOK: open, copyFrom, what it answers -/
def opn (cu : zB) : zB := fun j k => match j with
  | 1 => if k < nPe cu then cu 3 k else 0
  | 2 => if k < nLo cu then cu 6 k else 0
  | _ => 0
def eqB (a b : zB) : Prop := (∀ k, k < 4 → a 0 k = b 0 k) ∧ (∀ k, k < 6 → a 1 k = b 1 k) ∧ ∀ k, k < 10 → a 2 k = b 2 k ∧ a 3 k = b 3 k ∧ a 4 k = b 4 k ∧ a 5 k = b 5 k
theorem bR_eqB {cu ν ν' b : zB} (hk : cOk cu) (h : bR cu ν b) (e : eqB ν' ν) : bR cu ν' b := by
  obtain ⟨n10, n6, -⟩ := cOk_n hk
  obtain ⟨⟨-, hp, hl, h6⟩, a0, a1, a2⟩ := h
  obtain ⟨e0, e1, e2⟩ := e
  refine ⟨⟨rfl, fun p q => (e1 p (by omega)).trans (hp p q), fun l q => ?_, fun l q => by rw [e0 3 (by omega)]; exact h6 l q⟩, (e0 0 (by omega)).trans a0, (e0 1 (by omega)).trans a1, (e0 2 (by omega)).trans a2⟩
  obtain ⟨q2, q3, q4, q5⟩ := hl l q
  obtain ⟨r2, r3, r4, r5⟩ := e2 l (by omega)
  exact ⟨r2.trans q2, r3.trans q3, r4.trans q4, r5.trans q5⟩
def bRow (b : zB) (j : Nat) (f : Nat → Int32) : zB := fun a c => if a = j then f c else b a c
theorem pBR1 (μ : zM) (o : Nat) (b : zB) (f : Nat → Int32) : pR (putB μ o b) 14 o f = putB μ o (bRow b 1 f) := by
  refine Prod.ext ?_ rfl
  funext κ q j
  simp only [pR, putB, bRow]
  by_cases h : q = o
  · subst h
    by_cases h1 : κ = 14
    · subst h1; simp
    · simp [h1]
  · simp [h]
theorem pBR2 (μ : zM) (o : Nat) (b : zB) (f : Nat → Int32) : pR (putB μ o b) 15 o f = putB μ o (bRow b 2 f) := by
  refine Prod.ext ?_ rfl
  funext κ q j
  simp only [pR, putB, bRow]
  by_cases h : q = o
  · subst h
    by_cases h1 : κ = 15
    · subst h1; simp
    · simp [h1]
  · simp [h]
theorem pBR3 (μ : zM) (o : Nat) (b : zB) (f : Nat → Int32) : pR (putB μ o b) 16 o f = putB μ o (bRow b 3 f) := by
  refine Prod.ext ?_ rfl
  funext κ q j
  simp only [pR, putB, bRow]
  by_cases h : q = o
  · subst h
    by_cases h1 : κ = 16
    · subst h1; simp
    · simp [h1]
  · simp [h]
theorem pBR4 (μ : zM) (o : Nat) (b : zB) (f : Nat → Int32) : pR (putB μ o b) 17 o f = putB μ o (bRow b 4 f) := by
  refine Prod.ext ?_ rfl
  funext κ q j
  simp only [pR, putB, bRow]
  by_cases h : q = o
  · subst h
    by_cases h1 : κ = 17
    · subst h1; simp
    · simp [h1]
  · simp [h]
theorem pBR5 (μ : zM) (o : Nat) (b : zB) (f : Nat → Int32) : pR (putB μ o b) 18 o f = putB μ o (bRow b 5 f) := by
  refine Prod.ext ?_ rfl
  funext κ q j
  simp only [pR, putB, bRow]
  by_cases h : q = o
  · subst h
    by_cases h1 : κ = 18
    · subst h1; simp
    · simp [h1]
  · simp [h]
theorem pBor (μ : zM) (o : Nat) (b : zB) {q : Nat} (h : q ≠ o) (κ : Nat) : (putB μ o b).1 κ q = μ.1 κ q := by funext k; exact pBo μ o b h κ k
theorem cpy00 {f g : Nat → Int32} {n k : Nat} (h : k < n) : va_cpy f g 0 0 n k = f k := by
  unfold va_cpy
  rw [if_pos (by omega), Nat.sub_zero, Nat.zero_add]
section CD5
variable {l : Launch} {G : zG} {μ : zM} {o c : Nat} {cu ν b : zB}
set_option maxHeartbeats 1000000 in
theorem cb_copy {o1 : Nat} (ho : o < 49) (ho1 : o1 < 49) (hne : o1 ≠ o) :
    zCT l G 1 yX1_copyFrom cX1_copyFrom 2 none [.ref (G.ad 1 o), .ref (G.ad 1 o1)] (putB μ o ν) (zV fun μ' => ∃ ν', μ' = putB μ o ν' ∧ eqB ν' (getB μ o1)) := by
  refine zCT_of (by decide) (Nat.le_of_ble_eq_true rfl) rfl (fun X hl hG hX hr => ?_)
  subst hG
  refine st_X1_copyFrom_0 hX hr ho ho1 ?_
  simp only [forall_eq, pBI0, pBor _ _ _ hne, pBR1, pBR2, pBR3, pBR4, pBR5]
  refine ⟨by omega, rfl, _, rfl, ?_⟩
  refine ⟨fun k hk => ?_, fun k hk => ?_, fun k hk => ⟨?_, ?_, ?_, ?_⟩⟩
  · have : k = 0 ∨ k = 1 ∨ k = 2 ∨ k = 3 := by omega
    rcases this with rfl | rfl | rfl | rfl <;> simp [bRow, bU, getB]
  · simp [bRow, getB, cpy00 hk]
  · simp [bRow, getB, cpy00 hk]
  · simp [bRow, getB, cpy00 hk]
  · simp [bRow, getB, cpy00 hk]
  · simp [bRow, getB, cpy00 hk]
set_option maxHeartbeats 1000000 in
theorem cb_open50 {X : zX} {lv : Nat} {Post : Option Value → zM → Prop} (hX : zOk X cX1_open RX1 3 lv) (hr : zRt X none Post) (ho : o < 49) (hc : c < 6) (hk : cOk cu) (hR : cR cu μ c)
    (K : ∀ ν, bR cu ν (opn cu) → Post none (putB μ o ν)) : ∀ (k i : Nat) (ν : zB), i + k = nLo cu → (∀ k, k < 4 → ν 0 k = 0) → (∀ p, p < nPe cu → ν 1 p = cu 3 p) → (∀ l, l < i → ν 2 l = cu 6 l ∧ ν 3 l = 0 ∧ ν 4 l = 0 ∧ ν 5 l = 0) →
    AW X 50 [some (.ref (X.G.ad 1 o)), some (.ref (X.G.ad 2 c)), some (.int (nI i))] [] (putB μ o ν) := by
  have hlo : vp_in (cu 0 2) 11 := hk.2.2.1
  have n10 := (cOk_n hk).1
  have en : nLo cu = ix (cu 0 2) := rfl
  intro k
  induction k with
  | zero =>
    intro i ν hi h0 h1 h2
    refine st_X1_open_50 hX hr ho hc ⟨fun c1 => K ν ?_, fun c1 => absurd ?_ c1⟩
    · refine ⟨⟨rfl, fun p hp => ?_, fun l hl => ?_, fun l hl => ?_⟩, h0 0 (by omega), h0 1 (by omega), h0 2 (by omega)⟩
      · rw [h1 p hp]; show _ = if p < nPe cu then cu 3 p else 0; rw [if_pos hp]
      · obtain ⟨a, b', c', d⟩ := h2 l (by omega)
        refine ⟨?_, b', c', d⟩
        rw [a]; show _ = if l < nLo cu then cu 6 l else 0; rw [if_pos hl]
      · rw [h0 3 (by omega), wet_bt _ (by omega), b_0]; rfl
    · rw [pB_c, hR.1.2.2.1]; exact (vle hlo (by omega) (by omega)).mpr (by omega)
  | succ k ih =>
    intro i ν hi h0 h1 h2
    have e0 : ix (nI i) = i := ixn (by omega)
    obtain ⟨-, -, e6, -, -, -, -, -⟩ := hR.2.2.2.1 i (by omega)
    refine st_X1_open_50 hX hr ho hc ⟨fun c1 => absurd c1 ?_, fun c1 => ?_⟩
    · rw [pB_c, hR.1.2.2.1]; intro q
      have := (vle hlo (by omega) (by omega)).mp q
      omega
    · simp only [forall_eq, nI_1, e0, pBI2, pBI3, pBI4, pBI5, pB_t, Nat.add_zero, e6]
      refine ⟨vin (by omega) (by omega), ih (i + 1) _ (by omega) (fun k hk => ?_) (fun p hp => ?_) (fun l hl => ?_)⟩
      · simp [bU]; exact h0 k hk
      · simp [bU]; exact h1 p hp
      · by_cases e : l = i
        · subst e; simp [bU]
        · simp [bU, e]; exact h2 l (by omega)
set_option maxHeartbeats 1000000 in
theorem cb_open22 {X : zX} {lv : Nat} {Post : Option Value → zM → Prop} (hX : zOk X cX1_open RX1 3 lv) (hr : zRt X none Post) (ho : o < 49) (hc : c < 6) (hk : cOk cu) (hR : cR cu μ c)
    (K : ∀ ν, bR cu ν (opn cu) → Post none (putB μ o ν)) : ∀ (k i : Nat) (ν : zB), i + k = nPe cu → (∀ k, k < 4 → ν 0 k = 0) → (∀ p, p < i → ν 1 p = cu 3 p) →
    AW X 22 [some (.ref (X.G.ad 1 o)), some (.ref (X.G.ad 2 c)), some (.int (nI i))] [] (putB μ o ν) := by
  have hpe : vp_in (cu 0 1) 7 := hk.2.1
  have n6 := (cOk_n hk).2.1
  have en : nPe cu = ix (cu 0 1) := rfl
  intro k
  induction k with
  | zero =>
    intro i ν hi h0 h1
    refine st_X1_open_22 hX hr ho hc ⟨fun c1 => ?_, fun c1 => absurd ?_ c1⟩
    · exact cb_open50 hX hr ho hc hk hR K (nLo cu) 0 ν (by omega) h0 (fun p hp => h1 p (by omega)) (fun l hl => by omega)
    · rw [pB_c, hR.1.2.1]; exact (vle hpe (by omega) (by omega)).mpr (by omega)
  | succ k ih =>
    intro i ν hi h0 h1
    have e0 : ix (nI i) = i := ixn (by omega)
    have e3 := hR.2.2.1 i (by omega)
    refine st_X1_open_22 hX hr ho hc ⟨fun c1 => absurd c1 ?_, fun c1 => ?_⟩
    · rw [pB_c, hR.1.2.1]; intro q
      have := (vle hpe (by omega) (by omega)).mp q
      omega
    · simp only [forall_eq, nI_1, e0, pBI1, pB_21, e3]
      refine ⟨vin (by omega) (by omega), ih (i + 1) _ (by omega) (fun k hk => ?_) (fun p hp => ?_)⟩
      · simp [bU]; exact h0 k hk
      · by_cases e : p = i
        · subst e; simp [bU]
        · simp [bU, e]; exact h1 p (by omega)
theorem cb_open (ho : o < 49) (hc : c < 6) (hk : cOk cu) (hR : cR cu μ c) :
    zCT l G 0 yX1_open cX1_open 3 none [.ref (G.ad 1 o), .ref (G.ad 2 c)] (putB μ o ν) (zV fun μ' => ∃ ν', μ' = putB μ o ν' ∧ bR cu ν' (opn cu)) := by
  refine zCT_of (by decide) (Nat.le_of_ble_eq_true rfl) rfl (fun X hl hG hX hr => ?_)
  subst hG
  refine st_X1_open_0 hX hr ho hc ?_
  simp only [forall_eq, pBI0]
  refine cb_open22 hX hr ho hc hk hR (fun ν h => ⟨rfl, ν, rfl, h⟩) (nPe cu) 0 _ (by omega) (fun k hk => ?_) (fun p hp => by omega)
  have : k = 0 ∨ k = 1 ∨ k = 2 ∨ k = 3 := by omega
  rcases this with rfl | rfl | rfl | rfl <;> simp [bU]
theorem cb_can (ho : o < 49) (hc : c < 6) (hk : cOk cu) (hR : cR cu μ c) (hb : bR cu ν b) {i : Nat} (hi : i < nLo cu) :
    zCT l G 0 yX1_canPayNow cX1_canPayNow 3 (some .boolean) [.ref (G.ad 1 o), .ref (G.ad 2 c), .int (nI i)] (putB μ o ν) (zI fun r μ' => r = b2i (decide (¬ b 3 i = 2) && decide (¬ b 1 (ix (cu 5 i)) < b 2 i)) ∧ μ' = putB μ o ν) := by
  refine zCT_of (by decide) (Nat.le_of_ble_eq_true rfl) rfl (fun X hl hG hX hr => ?_)
  subst hG
  obtain ⟨n10, n6, -⟩ := cOk_n hk
  have e0 : ix (nI i) = i := ixn (by omega)
  obtain ⟨-, e5, -, -, -, -, -, -⟩ := hR.2.2.2.1 i hi
  obtain ⟨q2, q3, q4, q5⟩ := hb.1.2.2.1 i hi
  obtain ⟨v4, v5, v9, v11, v7⟩ := hk.2.2.2.2 i hi
  have q1 := hb.1.2.1 _ (zix v5)
  refine st_X1_canPayNow_0 hX hr ho hc ?_
  simp only [e0, pB1, pB2, pB3, pB_t, Nat.add_zero, e5, q1, q2, q3]
  refine ⟨vin (by omega) (by omega), fun c1 => ⟨_, rfl, ?_, rfl⟩, fun c1 => ⟨vmono v5 n6, fun c2 => ⟨_, rfl, ?_, rfl⟩, fun c2 => ⟨_, rfl, ?_, rfl⟩⟩⟩
  · simp [c1, b2i]
  · simp [c2, b2i]
  · rw [decide_eq_true c1, decide_eq_true c2]; rfl
theorem cb_pay (ho : o < 49) (hc : c < 6) (hk : cOk cu) (hR : cR cu μ c) (hb : bR cu ν b) {i : Nat} (hi : i < nLo cu) (h0 : 0 ≤ (tkC b i (ix (cu 5 i))).toInt) :
    zCT l G 1 yX1_payNow cX1_payNow 3 none [.ref (G.ad 1 o), .ref (G.ad 2 c), .int (nI i)] (putB μ o ν) (zV fun μ' => ∃ ν', μ' = putB μ o ν' ∧ bR cu ν' (payS cu i b)) := by
  refine zCT_of (by decide) (Nat.le_of_ble_eq_true rfl) rfl (fun X hl hG hX hr => ?_)
  subst hG
  obtain ⟨n10, n6, -⟩ := cOk_n hk
  have e0 : ix (nI i) = i := ixn (by omega)
  obtain ⟨e4, e5, -, -, -, -, -, -⟩ := hR.2.2.2.1 i hi
  obtain ⟨v4, v5, v9, v11, v7⟩ := hk.2.2.2.2 i hi
  refine st_X1_payNow_0 hX hr ho hc ?_
  simp only [e0, pB_t, Nat.add_zero, e4, e5]
  refine ⟨vin (by omega) (by omega), 0, _, by omega, ct_take ho (vin (by omega) (by omega)) (vmono v5 n6) (vmono v4 n6), ?_⟩
  rintro r μ' ⟨-, rfl⟩
  simp only [forall_eq, pBI3, e0]
  obtain ⟨h1, -⟩ := bS_tk hb.1 hi (zix v5) (zix v4) h0
  have h2 := bS_u h1 (j := 3) i (v := 2) (w := 2) (by omega) rfl
  refine ⟨rfl, _, rfl, ?_⟩
  have r0 : payS cu i b 0 = b 0 := by
    show bU (bU (bU (bU (bU b 1 _ _) 1 _ _) 2 i _) 5 i _) 3 i _ 0 = b 0
    rw [bU_row (by decide), bU_row (by decide), bU_row (by decide), bU_row (by decide), bU_row (by decide)]
  refine ⟨by rw [h2.1]; exact h2, ?_, ?_, ?_⟩
  · rw [h2.1, r0]; exact hb.2.1
  · rw [h2.1, r0]; exact hb.2.2.1
  · rw [h2.1, r0]; exact hb.2.2.2
end CD5
