/-! THE CLASS: its custom c says what cu says (as far as told), its book (raw rows ν) what b says (row 6 of b: called) -/
abbrev nBe (cu : zB) : Nat := ix (cu 0 3)
def cR (cu : zB) (μ : zM) (c : Nat) : Prop :=
  (μ.1 2 c 0 = cu 0 0 ∧ μ.1 2 c 1 = cu 0 1 ∧ μ.1 2 c 2 = cu 0 2 ∧ μ.1 2 c 3 = cu 0 3) ∧
  (∀ h, h < nHi cu → μ.1 19 c h = cu 1 h ∧ μ.1 20 c h = cu 2 h) ∧ (∀ p, p < nPe cu → μ.1 21 c p = cu 3 p) ∧
  (∀ l, l < nLo cu → μ.1 7 (10 * c + l) 0 = cu 4 l ∧ μ.1 7 (10 * c + l) 1 = cu 5 l ∧ μ.1 7 (10 * c + l) 2 = cu 6 l ∧ μ.1 7 (10 * c + l) 3 = cu 7 l ∧ μ.1 7 (10 * c + l) 4 = cu 8 l ∧ μ.1 7 (10 * c + l) 5 = cu 9 l ∧ μ.1 7 (10 * c + l) 6 = cu 10 l ∧ μ.1 7 (10 * c + l) 7 = cu 11 l) ∧
  (∀ k, k < nBe cu → μ.1 23 c k = cu 12 k ∧ μ.1 24 c k = cu 13 k)
theorem pB_23 (μ : zM) (o : Nat) (b : zB) (q k : Nat) : (putB μ o b).1 23 q k = μ.1 23 q k := pBx μ o b rfl q k
theorem pB_24 (μ : zM) (o : Nat) (b : zB) (q k : Nat) : (putB μ o b).1 24 q k = μ.1 24 q k := pBx μ o b rfl q k
theorem pB_25 (μ : zM) (o : Nat) (b : zB) (q k : Nat) : (putB μ o b).1 25 q k = μ.1 25 q k := pBx μ o b rfl q k
theorem cR_putB {cu : zB} {μ : zM} {c o : Nat} {ν : zB} : cR cu (putB μ o ν) c ↔ cR cu μ c := by
  simp only [cR, pB_c, pB_t, pB_19, pB_20, pB_21, pB_23, pB_24]
theorem cR_pB {cu : zB} {μ : zM} {c o : Nat} {ν : zB} (h : cR cu μ c) : cR cu (putB μ o ν) c := cR_putB.mpr h
/-- all that cR looks at -/
theorem cR_of {cu : zB} {μ μ' : zM} {c c' : Nat} (h : cR cu μ c) (h2 : ∀ k, k < 4 → μ'.1 2 c' k = μ.1 2 c k) (h19 : ∀ k, k < 4 → μ'.1 19 c' k = μ.1 19 c k) (h20 : ∀ k, k < 4 → μ'.1 20 c' k = μ.1 20 c k) (h21 : ∀ k, k < 6 → μ'.1 21 c' k = μ.1 21 c k)
    (h7 : ∀ l j, l < 10 → j < 8 → μ'.1 7 (10 * c' + l) j = μ.1 7 (10 * c + l) j) (h23 : ∀ k, k < 8 → μ'.1 23 c' k = μ.1 23 c k) (h24 : ∀ k, k < 8 → μ'.1 24 c' k = μ.1 24 c k) (hc : cOk cu) : cR cu μ' c' := by
  obtain ⟨⟨a0, a1, a2, a3⟩, b1, b3, b4, b5⟩ := h
  obtain ⟨n10, n6, n4⟩ := cOk_n hc
  have n8 : nBe cu ≤ 8 := by have := zix hc.2.2.2.1; have : nBe cu = ix (cu 0 3) := rfl; omega
  refine ⟨⟨(h2 0 (by omega)).trans a0, (h2 1 (by omega)).trans a1, (h2 2 (by omega)).trans a2, (h2 3 (by omega)).trans a3⟩, fun h hh => ⟨(h19 h (by omega)).trans (b1 h hh).1, (h20 h (by omega)).trans (b1 h hh).2⟩, fun p hp => (h21 p (by omega)).trans (b3 p hp), fun l hl => ?_, fun k hk => ⟨(h23 k (by omega)).trans (b5 k hk).1, (h24 k (by omega)).trans (b5 k hk).2⟩⟩
  obtain ⟨q0, q1, q2, q3, q4, q5, q6, q7⟩ := b4 l hl
  have hl10 : l < 10 := by omega
  exact ⟨(h7 l 0 hl10 (by omega)).trans q0, (h7 l 1 hl10 (by omega)).trans q1, (h7 l 2 hl10 (by omega)).trans q2, (h7 l 3 hl10 (by omega)).trans q3, (h7 l 4 hl10 (by omega)).trans q4, (h7 l 5 hl10 (by omega)).trans q5, (h7 l 6 hl10 (by omega)).trans q6, (h7 l 7 hl10 (by omega)).trans q7⟩
/-- the book's raw rows ν: its numbers s (today, floods, weather, called as bits), all else as b says -/
def bS (cu : zB) (s : Nat → Int32) (ν b : zB) : Prop := ν 0 = s ∧ (∀ p, p < nPe cu → ν 1 p = b 1 p) ∧ (∀ l, l < nLo cu → ν 2 l = b 2 l ∧ ν 3 l = b 3 l ∧ ν 4 l = b 4 l ∧ ν 5 l = b 5 l) ∧ ∀ l, l < nLo cu → b 6 l = b2i (wetAt (s 3) (nI l))
def bR (cu ν b : zB) : Prop := bS cu (ν 0) ν b ∧ ν 0 0 = b 0 0 ∧ ν 0 1 = b 0 1 ∧ ν 0 2 = b 0 2
theorem bS_u {cu ν b : zB} {s : Nat → Int32} (h : bS cu s ν b) {j : Nat} (k : Nat) {v w : Int32} (hj : 1 ≤ j ∧ j ≤ 5) (hv : v = w) : bS cu s (bU ν j k v) (bU b j k w) := by
  subst hv
  obtain ⟨h0, hp, hl, h6⟩ := h
  have z6 : ∀ (x : zB) (k' : Nat), bU x j k v 6 k' = x 6 k' := fun x k' => bU_ne x v (by omega)
  have g : ∀ (a c : Nat), ν a c = b a c → bU ν j k v a c = bU b j k v a c := by
    intro a c e
    simp only [bU]
    split
    · rfl
    · exact e
  refine ⟨by rw [bU_row (by omega)]; exact h0, fun p q => g 1 p (hp p q), fun l q => ?_, fun l q => by rw [z6]; exact h6 l q⟩
  obtain ⟨q2, q3, q4, q5⟩ := hl l q
  exact ⟨g 2 l q2, g 3 l q3, g 4 l q4, g 5 l q5⟩
/-- a number of the book is written -/
theorem bS_n {cu ν b : zB} {s : Nat → Int32} (h : bS cu s ν b) {k : Nat} (v : Int32) (hk : k ≠ 3) : bS cu (upd s k v) (bU ν 0 k v) b := by
  obtain ⟨h0, hp, hl, h6⟩ := h
  refine ⟨?_, fun p q => by rw [bU_row (by decide)]; exact hp p q, fun l q => by rw [bU_row (by decide), bU_row (by decide), bU_row (by decide), bU_row (by decide)]; exact hl l q, fun l q => ?_⟩
  · funext c
    rw [← h0]
    simp [bU, upd]
  · rw [h6 l q]
    simp only [upd]
    rw [if_neg (Ne.symm hk)]
theorem bS_b {cu ν b d : zB} {s : Nat → Int32} (h : bS cu s ν b) (hd : ∀ j, j ≠ 0 → d j = b j) : bS cu s ν d := by
  obtain ⟨h0, hp, hl, h6⟩ := h
  exact ⟨h0, fun p q => by rw [hd 1 (by decide)]; exact hp p q, fun l q => by rw [hd 2 (by decide), hd 3 (by decide), hd 4 (by decide), hd 5 (by decide)]; exact hl l q, fun l q => by rw [hd 6 (by decide)]; exact h6 l q⟩
theorem lt2 {x : Int32} : x < 2 ↔ x ≤ 1 := by
  rw [Int32.lt_iff_toInt_lt, Int32.le_iff_toInt_le]
  have e2 : (2 : Int32).toInt = 2 := by decide
  have e1 : (1 : Int32).toInt = 1 := by decide
  omega
/-! CUSTOM: what it answers -/
section CC
variable {l : Launch} {G : zG} {μ : zM} {c : Nat}
theorem cc_isHill (hc : c < 6) {x1 : Int32} :
    zCT l G 0 yX2_isHill cX2_isHill 2 (some .boolean) [.ref (G.ad 2 c), .int x1] μ (zI fun r μ' => r = b2i (inR x1 (μ.1 2 c 0)) ∧ μ' = μ) := by
  refine zCT_of (by decide) (Nat.le_of_ble_eq_true rfl) rfl (fun X hl hG hX hr => ?_)
  subst hG
  refine st_X2_isHill_0 hX hr hc ⟨fun c1 => ⟨_, rfl, by simp [inR, b2i, c1], rfl⟩, fun c1 => ⟨fun c2 => ⟨_, rfl, by simp [inR, b2i, c1, c2], rfl⟩, fun c2 => ⟨_, rfl, ?_, rfl⟩⟩⟩
  rw [inR, decide_eq_true c1, decide_eq_true c2]; rfl
theorem cc_isPerson (hc : c < 6) {x1 : Int32} :
    zCT l G 0 yX2_isPerson cX2_isPerson 2 (some .boolean) [.ref (G.ad 2 c), .int x1] μ (zI fun r μ' => r = b2i (inR x1 (μ.1 2 c 1)) ∧ μ' = μ) := by
  refine zCT_of (by decide) (Nat.le_of_ble_eq_true rfl) rfl (fun X hl hG hX hr => ?_)
  subst hG
  refine st_X2_isPerson_0 hX hr hc ⟨fun c1 => ⟨_, rfl, by simp [inR, b2i, c1], rfl⟩, fun c1 => ⟨fun c2 => ⟨_, rfl, by simp [inR, b2i, c1, c2], rfl⟩, fun c2 => ⟨_, rfl, ?_, rfl⟩⟩⟩
  rw [inR, decide_eq_true c1, decide_eq_true c2]; rfl
theorem cc_isLoan (hc : c < 6) {x1 : Int32} :
    zCT l G 0 yX2_isLoan cX2_isLoan 2 (some .boolean) [.ref (G.ad 2 c), .int x1] μ (zI fun r μ' => r = b2i (inR x1 (μ.1 2 c 2)) ∧ μ' = μ) := by
  refine zCT_of (by decide) (Nat.le_of_ble_eq_true rfl) rfl (fun X hl hG hX hr => ?_)
  subst hG
  refine st_X2_isLoan_0 hX hr hc ⟨fun c1 => ⟨_, rfl, by simp [inR, b2i, c1], rfl⟩, fun c1 => ⟨fun c2 => ⟨_, rfl, by simp [inR, b2i, c1, c2], rfl⟩, fun c2 => ⟨_, rfl, ?_, rfl⟩⟩⟩
  rw [inR, decide_eq_true c1, decide_eq_true c2]; rfl
theorem cc_isWeather (hc : c < 6) {x1 : Int32} :
    zCT l G 0 yX2_isWeather cX2_isWeather 2 (some .boolean) [.ref (G.ad 2 c), .int x1] μ (zI fun r μ' => r = b2i (inR x1 ((1 : Int32) <<< ((μ.1 2 c 0) &&& 31))) ∧ μ' = μ) := by
  refine zCT_of (by decide) (Nat.le_of_ble_eq_true rfl) rfl (fun X hl hG hX hr => ?_)
  subst hG
  refine st_X2_isWeather_0 hX hr hc ⟨fun c1 => ⟨_, rfl, by simp [inR, b2i, c1], rfl⟩, fun c1 => ⟨fun c2 => ⟨_, rfl, by simp [inR, b2i, c1, c2], rfl⟩, fun c2 => ⟨_, rfl, ?_, rfl⟩⟩⟩
  rw [inR, decide_eq_true c1, decide_eq_true c2]; rfl
theorem cc_isBetSet (hc : c < 6) {x1 : Int32} :
    zCT l G 0 yX2_isBetSet cX2_isBetSet 2 (some .boolean) [.ref (G.ad 2 c), .int x1] μ (zI fun r μ' => r = b2i (inR x1 ((1 : Int32) <<< ((μ.1 2 c 3) &&& 31))) ∧ μ' = μ) := by
  refine zCT_of (by decide) (Nat.le_of_ble_eq_true rfl) rfl (fun X hl hG hX hr => ?_)
  subst hG
  refine st_X2_isBetSet_0 hX hr hc ⟨fun c1 => ⟨_, rfl, by simp [inR, b2i, c1], rfl⟩, fun c1 => ⟨fun c2 => ⟨_, rfl, by simp [inR, b2i, c1, c2], rfl⟩, fun c2 => ⟨_, rfl, ?_, rfl⟩⟩⟩
  rw [inR, decide_eq_true c1, decide_eq_true c2]; rfl
theorem cc_isFlood {cu : zB} (hR : cR cu μ c) (hc : c < 6) {x1 : Int32} :
    zCT l G 0 yX2_isFlood cX2_isFlood 2 (some .boolean) [.ref (G.ad 2 c), .int x1] μ (zI fun r μ' => r = b2i (fldS cu x1) ∧ μ' = μ) := by
  refine zCT_of (by decide) (Nat.le_of_ble_eq_true rfl) rfl (fun X hl hG hX hr => ?_)
  subst hG
  have e0 := hR.1.1
  refine st_X2_isFlood_0 hX hr hc ?_
  rw [e0]
  refine ⟨fun c1 => ⟨_, rfl, ?_, rfl⟩, fun c1 => ⟨fun c2 => ⟨_, rfl, ?_, rfl⟩, fun c2 => ⟨_, rfl, ?_, rfl⟩⟩⟩
  · rw [fldS, decide_eq_false (p := ¬ cu 0 0 ≤ 1) (fun q => q (lt2.mp c1)), Bool.false_and]; rfl
  · rw [fldS, decide_eq_false c2, Bool.and_false]; rfl
  · rw [fldS, decide_eq_true c2, decide_eq_true (p := ¬ cu 0 0 ≤ 1) (fun q => c1 (lt2.mpr q))]; rfl
set_option maxHeartbeats 1000000 in
theorem cc_isRipe {cu : zB} (hR : cR cu μ c) (hc : c < 6) {i : Nat} (hi : i < nLo cu) (hi10 : i < 10) {w : Int32} :
    zCT l G 0 yX2_isRipe cX2_isRipe 7 (some .boolean) [.ref (G.ad 2 c), .int (nI i), .int w] μ (zI fun r μ' => r = b2i (ripS cu i w) ∧ μ' = μ) := by
  refine zCT_of (by decide) (Nat.le_of_ble_eq_true rfl) rfl (fun X hl hG hX hr => ?_)
  subst hG
  have e0 : ix (nI i) = i := ixn (by omega)
  have eh := hR.1.1
  obtain ⟨-, -, -, -, -, e9, e10, -⟩ := hR.2.2.2.1 i hi
  refine st_X2_isRipe_0 hX hr hc ⟨vin hi10 (by omega), ?_⟩
  simp only [forall_eq, e0, Nat.add_zero, e9, e10, eh]
  refine ⟨fun cn => ?_, fun cn => ?_⟩
  · have en : nxt cu i = 0 := by rw [nxt, if_neg (Int32.not_lt.mpr cn)]
    refine ⟨fun c1 => ⟨fun c2 => ?_, fun c2 => ?_⟩, fun c1 => ⟨fun c2 => ?_, fun c2 => ?_⟩⟩
    · have w1 : wetAt w (cu 9 i) = false := decide_eq_false c1
      have w2 : wetAt w (nxt cu i) = false := by rw [en]; exact decide_eq_false c2
      clear en
      refine ⟨fun k1 => ?_, fun k1 => ⟨fun k2 => ?_, fun k2 => ⟨fun k3 => ?_, fun k3 => ?_⟩⟩⟩ <;> exact ⟨_, rfl, by simp [ripS, b2i, *], rfl⟩
    · have w1 : wetAt w (cu 9 i) = false := decide_eq_false c1
      have w2 : wetAt w (nxt cu i) = true := by rw [en]; exact decide_eq_true c2
      clear en
      refine ⟨fun k1 => ?_, fun k1 => ⟨fun k2 => ?_, fun k2 => ⟨fun k3 => ?_, fun k3 => ?_⟩⟩⟩ <;> exact ⟨_, rfl, by simp [ripS, b2i, *], rfl⟩
    · have w1 : wetAt w (cu 9 i) = true := decide_eq_true c1
      have w2 : wetAt w (nxt cu i) = false := by rw [en]; exact decide_eq_false c2
      clear en
      refine ⟨fun k1 => ?_, fun k1 => ⟨fun k2 => ?_, fun k2 => ⟨fun k3 => ?_, fun k3 => ?_⟩⟩⟩ <;> exact ⟨_, rfl, by simp [ripS, b2i, *], rfl⟩
    · have w1 : wetAt w (cu 9 i) = true := decide_eq_true c1
      have w2 : wetAt w (nxt cu i) = true := by rw [en]; exact decide_eq_true c2
      clear en
      refine ⟨fun k1 => ?_, fun k1 => ⟨fun k2 => ?_, fun k2 => ⟨fun k3 => ?_, fun k3 => ?_⟩⟩⟩ <;> exact ⟨_, rfl, by simp [ripS, b2i, *], rfl⟩
  · have en : nxt cu i = cu 9 i + 1 := by rw [nxt, if_pos (Int32.not_le.mp cn)]
    refine ⟨fun c1 => ⟨fun c2 => ?_, fun c2 => ?_⟩, fun c1 => ⟨fun c2 => ?_, fun c2 => ?_⟩⟩
    · have w1 : wetAt w (cu 9 i) = false := decide_eq_false c1
      have w2 : wetAt w (nxt cu i) = false := by rw [en]; exact decide_eq_false c2
      clear en
      refine ⟨fun k1 => ?_, fun k1 => ⟨fun k2 => ?_, fun k2 => ⟨fun k3 => ?_, fun k3 => ?_⟩⟩⟩ <;> exact ⟨_, rfl, by simp [ripS, b2i, w1, w2, *], rfl⟩
    · have w1 : wetAt w (cu 9 i) = false := decide_eq_false c1
      have w2 : wetAt w (nxt cu i) = true := by rw [en]; exact decide_eq_true c2
      clear en
      refine ⟨fun k1 => ?_, fun k1 => ⟨fun k2 => ?_, fun k2 => ⟨fun k3 => ?_, fun k3 => ?_⟩⟩⟩ <;> exact ⟨_, rfl, by simp [ripS, b2i, w1, w2, *], rfl⟩
    · have w1 : wetAt w (cu 9 i) = true := decide_eq_true c1
      have w2 : wetAt w (nxt cu i) = false := by rw [en]; exact decide_eq_false c2
      clear en
      refine ⟨fun k1 => ?_, fun k1 => ⟨fun k2 => ?_, fun k2 => ⟨fun k3 => ?_, fun k3 => ?_⟩⟩⟩ <;> exact ⟨_, rfl, by simp [ripS, b2i, w1, w2, *], rfl⟩
    · have w1 : wetAt w (cu 9 i) = true := decide_eq_true c1
      have w2 : wetAt w (nxt cu i) = true := by rw [en]; exact decide_eq_true c2
      clear en
      refine ⟨fun k1 => ?_, fun k1 => ⟨fun k2 => ?_, fun k2 => ⟨fun k3 => ?_, fun k3 => ?_⟩⟩⟩ <;> exact ⟨_, rfl, by simp [ripS, b2i, w1, w2, *], rfl⟩
theorem cc_oddsOfRain {cu : zB} (hR : cR cu μ c) (hc : c < 6) {i : Nat} (hi : i < nHi cu) (hi4 : i < 4) {w : Int32} :
    zCT l G 0 yX2_oddsOfRain cX2_oddsOfRain 3 (some .int) [.ref (G.ad 2 c), .int (nI i), .int w] μ (zI fun r μ' => r = rainS cu w i ∧ μ' = μ) := by
  refine zCT_of (by decide) (Nat.le_of_ble_eq_true rfl) rfl (fun X hl hG hX hr => ?_)
  subst hG
  have e0 : ix (nI i) = i := ixn (by omega)
  obtain ⟨ed, ew⟩ := hR.2.1 i hi
  refine st_X2_oddsOfRain_0 hX hr hc ⟨fun c1 => ⟨vin hi4 (by omega), _, rfl, ?_, rfl⟩, fun c1 => ⟨vin hi4 (by omega), _, rfl, ?_, rfl⟩⟩
  · have w1 : wetAt w (nI i) = false := decide_eq_false c1
    rw [e0, ed, rainS, w1]; rfl
  · have w1 : wetAt w (nI i) = true := decide_eq_true c1
    rw [e0, ew, rainS, w1]; rfl
theorem co_5 {X : zX} {lv : Nat} {Post : Option Value → zM → Prop} (hX : zOk X cX2_oddsOf RX2 7 lv) (hr : zRt X (some .long) Post) (hlv : 0 < lv) {cu : zB} (hk : cOk cu) (hR : cR cu μ c) (hc : c < 6) {w last : Int32}
    (K : Post (some (.long (odd cu last w (nHi cu) 1))) μ) : ∀ k i, i + k = nHi cu → AW X 5 [some (.ref (X.G.ad 2 c)), some (.int w), some (.int last), some (.long (odd cu last w i 1)), none, some (.int (nI i)), none] [] μ := by
  have hh : vp_in (cu 0 0) 5 := hk.1
  have n4 := (cOk_n hk).2.2
  have en : nHi cu = ix (cu 0 0) := rfl
  intro k
  induction k with
  | zero =>
    intro i hi
    refine st_X2_oddsOf_5 hX hr hc ⟨fun c1 => ?_, fun c1 => absurd ?_ c1⟩
    · rw [show i = nHi cu by omega]; exact K
    · rw [hR.1.1]; exact (vle hh (by omega) (by omega)).mpr (by omega)
  | succ k ih =>
    intro i hi
    refine st_X2_oddsOf_5 hX hr hc ⟨fun c1 => absurd c1 ?_, fun c1 => ?_⟩
    · rw [hR.1.1]; intro q
      have := (vle hh (by omega) (by omega)).mp q
      omega
    · refine ⟨0, _, hlv, cc_oddsOfRain hR hc (i := i) (by omega) (by omega), ?_⟩
      rintro r μ' ⟨rfl, rfl⟩
      have I := ih (i + 1) (by omega)
      simp only [odd] at I
      simp only [forall_eq, nI_1]
      refine ⟨fun c2 => ?_, fun c2 => ?_⟩
      · have w1 : wetAt w (nI i) = false := decide_eq_false c2
        rw [w1] at I; exact I
      · have w1 : wetAt w (nI i) = true := decide_eq_true c2
        rw [w1] at I; exact I
theorem cc_oddsOf {cu : zB} (hk : cOk cu) (hR : cR cu μ c) (hc : c < 6) {w last : Int32} :
    zCT l G 1 yX2_oddsOf cX2_oddsOf 7 (some .long) [.ref (G.ad 2 c), .int w, .int last] μ (zJ fun r μ' => r = odd cu last w (nHi cu) 1 ∧ μ' = μ) := by
  refine zCT_of (by decide) (Nat.le_of_ble_eq_true rfl) rfl (fun X hl hG hX hr => ?_)
  subst hG
  exact st_X2_oddsOf_0 hX hr hc (co_5 hX hr (by omega) hk hR hc ⟨_, rfl, rfl, rfl⟩ (nHi cu) 0 (by omega))
end CC
