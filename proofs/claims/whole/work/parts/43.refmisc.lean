/-! THE REFERENCE'S small methods -/
theorem pR_at (μ : zM) (κ o : Nat) (f : Nat → Int32) (k : Nat) : (pR μ κ o f).1 κ o k = f k := by simp [pR]
theorem pR_other (μ : zM) {κ κ' : Nat} (o o' : Nat) (f : Nat → Int32) (k : Nat) (h : κ' ≠ κ) : (pR μ κ o f).1 κ' o' k = μ.1 κ' o' k := by simp [pR, h]
theorem pI_pR (μ : zM) (κ o : Nat) (f : Nat → Int32) (k : Nat) (v : Int32) : pI (pR μ κ o f) κ o k v = pR μ κ o (upd f k v) := by
  refine Prod.ext ?_ rfl
  funext a b c
  simp only [pI, pR]
  by_cases h : a = κ ∧ b = o
  · obtain ⟨rfl, rfl⟩ := h
    simp; rfl
  · rw [if_neg h, if_neg h, if_neg (fun q => h ⟨q.1, q.2.1⟩)]
theorem pR_self (μ : zM) (κ o : Nat) : pR μ κ o (μ.1 κ o) = μ := by
  refine Prod.ext ?_ rfl
  funext a b
  simp only [pR]
  by_cases h : a = κ ∧ b = o
  · obtain ⟨rfl, rfl⟩ := h; simp
  · rw [if_neg h]
theorem cpy_0 {α : Type} (f g : Nat → α) (a b : Nat) : va_cpy f g a b 0 = g := by
  funext k
  simp only [va_cpy]
  rw [if_neg (by omega)]
theorem cpy_s (f g : Nat → Int32) (a b i : Nat) : upd (va_cpy f g a b i) (b + i) (f (a + i)) = va_cpy f g a b (i + 1) := by
  funext k
  show (if k = b + i then f (a + i) else va_cpy f g a b i k) = _
  simp only [va_cpy]
  by_cases h : k = b + i
  · subst h
    rw [if_pos rfl, if_pos (by omega)]
    congr 1; omega
  · rw [if_neg h]
    by_cases h2 : b ≤ k ∧ k < b + i
    · rw [if_pos h2, if_pos (by omega)]
    · rw [if_neg h2, if_neg (by omega)]
theorem m64 (d : Nat) : (64 : Int32) * nI d = nI (64 * d) := (Int32.ofNat_mul 64 d).symm
set_option maxHeartbeats 1000000 in
theorem cr_copies {l : Launch} {G : zG} {μ : zM} {κ0 n0 l0 κ2 n2 l2 a b : Nat} {q0 q2 : Nat × Nat × Nat} (hs0 : zzSh[κ0]? = some (n0, .inl (0, l0, 0, q0))) (ho0 : 0 < n0) (hs2 : zzSh[κ2]? = some (n2, .inl (0, l2, 0, q2))) (ho2 : 0 < n2) (hne : κ0 ≠ κ2) (ha : a + 64 ≤ l0) (hb : b + 64 ≤ l2) (h0 : l0 < 2 ^ 31) (h2 : l2 < 2 ^ 31) :
    zCT l G 0 yX11_copies cX11_copies 5 none [.ref (G.ad κ0 0), .int (nI a), .ref (G.ad κ2 0), .int (nI b)] μ (zV fun μ' => μ' = pR μ κ2 0 (va_cpy (μ.1 κ0 0) (μ.1 κ2 0) a b 64)) := by
  refine zCT_of (by decide) (Nat.le_of_ble_eq_true rfl) rfl (fun X hl hG hX hr => ?_)
  subst hG
  refine st_X11_copies_0 hX hr hs0 ho0 hs2 ho2 ?_
  have go : ∀ k i, i + k = 64 → AW X 3 [some (.ref (X.G.ad κ0 0)), some (.int (nI a)), some (.ref (X.G.ad κ2 0)), some (.int (nI b)), some (.int (nI i))] [] (pR μ κ2 0 (va_cpy (μ.1 κ0 0) (μ.1 κ2 0) a b i)) := by
    intro k
    induction k with
    | zero =>
      intro i hi
      refine st_X11_copies_3 hX hr hs0 ho0 hs2 ho2 ⟨fun c => ⟨rfl, by rw [show i = 64 by omega]⟩, fun c => absurd ?_ c⟩
      exact nI_le (a := 64) (b := i) (by omega) (by omega)
    | succ k ih =>
      intro i hi
      refine st_X11_copies_3 hX hr hs0 ho0 hs2 ho2 ⟨fun c => absurd c (nI_ge (a := i) (b := 64) (by omega) (by omega)), fun c => ?_⟩
      simp only [forall_eq, nI_add, nI_1]
      rw [ixn (by omega), ixn (by omega), pI_pR, pR_other μ 0 0 _ _ hne, cpy_s]
      exact ⟨vin (by omega) h0, vin (by omega) h2, ih (i + 1) (by omega)⟩
  have := go 64 0 rfl
  rw [cpy_0, pR_self] at this
  exact this
-- moves within one row, from one block to another
set_option maxHeartbeats 1000000 in
theorem cr_moves {l : Launch} {G : zG} {μ : zM} {κ0 n0 l0 n a b : Nat} {q0 : Nat × Nat × Nat} (hs0 : zzSh[κ0]? = some (n0, .inl (0, l0, 0, q0))) (ho0 : 0 < n0) (hne : a ≠ b) (ha : n * a + n ≤ l0) (hb : n * b + n ≤ l0) (h0 : l0 < 2 ^ 31) (hn : n < 2 ^ 31) :
    zCT l G 0 yX11_moves cX11_moves 5 none [.ref (G.ad κ0 0), .int (nI n), .int (nI a), .int (nI b)] μ (zV fun μ' => μ' = pR μ κ0 0 (va_cpy (μ.1 κ0 0) (μ.1 κ0 0) (n * a) (n * b) n)) := by
  refine zCT_of (by decide) (Nat.le_of_ble_eq_true rfl) rfl (fun X hl hG hX hr => ?_)
  subst hG
  refine st_X11_moves_0 hX hr hs0 ho0 ?_
  have hd : n * a + n ≤ n * b ∨ n * b + n ≤ n * a := by
    rcases Nat.lt_or_gt_of_ne hne with h | h
    · left; calc n * a + n = n * (a + 1) := by rw [Nat.mul_succ]
        _ ≤ n * b := Nat.mul_le_mul_left _ h
    · right; calc n * b + n = n * (b + 1) := by rw [Nat.mul_succ]
        _ ≤ n * a := Nat.mul_le_mul_left _ h
  have go : ∀ k i, i + k = n → AW X 3 [some (.ref (X.G.ad κ0 0)), some (.int (nI n)), some (.int (nI a)), some (.int (nI b)), some (.int (nI i))] [] (pR μ κ0 0 (va_cpy (μ.1 κ0 0) (μ.1 κ0 0) (n * a) (n * b) i)) := by
    intro k
    induction k with
    | zero =>
      intro i hi
      refine st_X11_moves_3 hX hr hs0 ho0 ⟨fun c => ⟨rfl, by rw [show i = n by omega]⟩, fun c => absurd ?_ c⟩
      exact nI_le (by omega) (by omega)
    | succ k ih =>
      intro i hi
      refine st_X11_moves_3 hX hr hs0 ho0 ⟨fun c => absurd c (nI_ge (by omega) (by omega)), fun c => ?_⟩
      have ea : nI n * nI a = nI (n * a) := (Int32.ofNat_mul n a).symm
      have eb : nI n * nI b = nI (n * b) := (Int32.ofNat_mul n b).symm
      simp only [forall_eq, ea, eb, nI_add, nI_1]
      rw [ixn (by omega), ixn (by omega), pI_pR, pR_at]
      have e : va_cpy (μ.1 κ0 0) (μ.1 κ0 0) (n * a) (n * b) i (n * a + i) = μ.1 κ0 0 (n * a + i) := by
        simp only [va_cpy]
        rw [if_neg (by omega)]
      rw [e, cpy_s]
      exact ⟨vin (by omega) h0, vin (by omega) h0, ih (i + 1) (by omega)⟩
  have := go n 0 (by omega)
  rw [cpy_0, pR_self] at this
  exact this
/-! tests of numbers -/
def inR (x n : Int32) : Bool := decide (¬ x < 0) && decide (¬ n ≤ x)
def wthn (x a b : Int32) : Bool := decide (¬ x < a) && decide (¬ b < x)
theorem inR_vp {x n : Int32} (h : inR x n = true) : vp_in x (ix n) := by
  simp only [inR, Bool.and_eq_true, decide_eq_true_eq] at h
  obtain ⟨h1, h2⟩ := h
  rw [vp_in_iff]
  rw [Int32.lt_iff_toInt_lt, Int32.toInt_zero] at h1
  rw [Int32.le_iff_toInt_le] at h2
  refine ⟨by omega, ?_⟩
  have : (ix n : Int) = n.toInt := by
    show ((n.toInt.toNat : Nat) : Int) = _
    omega
  omega
theorem vp_inR {x n : Int32} {N : Nat} (hn : vp_in n N) (hN : N < 2 ^ 31) (h : vp_in x (ix n)) : inR x n = true := by
  have e := vof hn hN
  have l := zix hn
  obtain ⟨j, hj, rfl⟩ := vp_in_of h (by omega)
  generalize ix n = c at *
  subst e
  simp only [inR, Bool.and_eq_true, decide_eq_true_eq]
  exact ⟨nI_pos (by omega), nI_ge hj (by omega)⟩
theorem cr_isHill {l : Launch} {G : zG} {μ : zM} {x1 : Int32} :
    zCT l G 0 yX11_isHill cX11_isHill 2 (some .boolean) [.ref (G.ad 11 0), .int x1] μ (zI fun r μ' => r = b2i (inR x1 (μ.1 36 0 0)) ∧ μ' = μ) := by
  refine zCT_of (by decide) (Nat.le_of_ble_eq_true rfl) rfl (fun X hl hG hX hr => ?_)
  subst hG
  refine st_X11_isHill_0 hX hr ⟨fun c => ⟨_, rfl, ?_, rfl⟩, fun c => ⟨fun c2 => ⟨_, rfl, ?_, rfl⟩, fun c2 => ⟨_, rfl, ?_, rfl⟩⟩⟩ <;> simp [inR, b2i, *]
theorem cr_isPerson {l : Launch} {G : zG} {μ : zM} {x1 : Int32} :
    zCT l G 0 yX11_isPerson cX11_isPerson 2 (some .boolean) [.ref (G.ad 11 0), .int x1] μ (zI fun r μ' => r = b2i (inR x1 (μ.1 37 0 0)) ∧ μ' = μ) := by
  refine zCT_of (by decide) (Nat.le_of_ble_eq_true rfl) rfl (fun X hl hG hX hr => ?_)
  subst hG
  refine st_X11_isPerson_0 hX hr ⟨fun c => ⟨_, rfl, ?_, rfl⟩, fun c => ⟨fun c2 => ⟨_, rfl, ?_, rfl⟩, fun c2 => ⟨_, rfl, ?_, rfl⟩⟩⟩ <;> simp [inR, b2i, *]
theorem cr_isLoan {l : Launch} {G : zG} {μ : zM} {x1 : Int32} :
    zCT l G 0 yX11_isLoan cX11_isLoan 2 (some .boolean) [.ref (G.ad 11 0), .int x1] μ (zI fun r μ' => r = b2i (inR x1 (μ.1 38 0 0)) ∧ μ' = μ) := by
  refine zCT_of (by decide) (Nat.le_of_ble_eq_true rfl) rfl (fun X hl hG hX hr => ?_)
  subst hG
  refine st_X11_isLoan_0 hX hr ⟨fun c => ⟨_, rfl, ?_, rfl⟩, fun c => ⟨fun c2 => ⟨_, rfl, ?_, rfl⟩, fun c2 => ⟨_, rfl, ?_, rfl⟩⟩⟩ <;> simp [inR, b2i, *]
theorem cr_isWeather {l : Launch} {G : zG} {μ : zM} {x1 : Int32} :
    zCT l G 0 yX11_isWeather cX11_isWeather 2 (some .boolean) [.ref (G.ad 11 0), .int x1] μ (zI fun r μ' => r = b2i (inR x1 ((1 : Int32) <<< ((μ.1 36 0 0) &&& 31))) ∧ μ' = μ) := by
  refine zCT_of (by decide) (Nat.le_of_ble_eq_true rfl) rfl (fun X hl hG hX hr => ?_)
  subst hG
  refine st_X11_isWeather_0 hX hr ⟨fun c => ⟨_, rfl, ?_, rfl⟩, fun c => ⟨fun c2 => ⟨_, rfl, ?_, rfl⟩, fun c2 => ⟨_, rfl, ?_, rfl⟩⟩⟩
  · simp [inR, b2i, c]
  · rw [inR, decide_eq_false (p := ¬ (1 : Int32) <<< ((μ.1 36 0 0) &&& 31) ≤ x1) (fun h => h c2), Bool.and_false]; rfl
  · rw [inR, decide_eq_true c2, decide_eq_true c]; rfl
theorem cr_within {l : Launch} {G : zG} {μ : zM} {x0 x1 x2 : Int32} :
    zCT l G 0 yX11_within cX11_within 3 (some .boolean) [.int x0, .int x1, .int x2] μ (zI fun r μ' => r = b2i (wthn x0 x1 x2) ∧ μ' = μ) := by
  refine zCT_of (by decide) (Nat.le_of_ble_eq_true rfl) rfl (fun X hl hG hX hr => ?_)
  subst hG
  refine st_X11_within_0 hX hr ⟨fun c => ⟨_, rfl, ?_, rfl⟩, fun c => ⟨fun c2 => ⟨_, rfl, ?_, rfl⟩, fun c2 => ⟨_, rfl, ?_, rfl⟩⟩⟩
  · rw [wthn, decide_eq_false (p := ¬ x0 < x1) (fun h => h c), Bool.false_and]; rfl
  · rw [wthn, decide_eq_false (p := ¬ x2 < x0) (fun h => h c2), Bool.and_false]; rfl
  · rw [wthn, decide_eq_true c2, decide_eq_true c]; rfl
/-! counts over the loans -/
def duesS (cu b : zB) : Nat → Int32
  | 0 => 0
  | n + 1 => duesS cu b n + (if b 3 n = 1 then 1 else 0)
def ruinS (cu b : zB) : Nat → Int32
  | 0 => 0
  | n + 1 => ruinS cu b n ||| (if b 6 n = 1 ∧ ¬ b 3 n = 2 then (1 : Int32) <<< (cu 5 n &&& 31) else 0)
def hasS (cu b : zB) (p : Int32) : Nat → Int32
  | 0 => b 1 (ix p)
  | n + 1 => hasS cu b p n + (if cu 4 n = p then b 2 n else if cu 5 n = p then -(b 2 n) else 0)
set_option maxHeartbeats 1000000 in
theorem cr_dues {l : Launch} {G : zG} {μ : zM} (hc : cOk (cuZ μ)) :
    zCT l G 0 yX11_dues cX11_dues 3 (some .int) [.ref (G.ad 11 0)] μ (zI fun r μ' => r = duesS (cuZ μ) (bOf (μ.1 70 0)) (nLo (cuZ μ)) ∧ μ' = μ) := by
  refine zCT_of (by decide) (Nat.le_of_ble_eq_true rfl) rfl (fun X hl hG hX hr => ?_)
  subst hG
  obtain ⟨n10, -, -⟩ := cOk_n hc
  have hlo : vp_in (μ.1 38 0 0) 11 := hc.2.2.1
  have elo : nLo (cuZ μ) = ix (μ.1 38 0 0) := rfl
  have go : ∀ k i, i + k = nLo (cuZ μ) → AW X 4 [some (.ref (X.G.ad 11 0)), some (.int (duesS (cuZ μ) (bOf (μ.1 70 0)) i)), some (.int (nI i))] [] μ := by
    intro k
    induction k with
    | zero =>
      intro i hi
      refine st_X11_dues_4 hX hr ⟨fun c => ⟨_, rfl, by rw [show i = nLo (cuZ μ) by omega], rfl⟩, fun c => absurd ((vle hlo (by omega) (by omega)).mpr (by omega)) c⟩
    | succ k ih =>
      intro i hi
      have e16 : ix (nI (16 + i)) = 16 + i := ixn (by omega)
      refine st_X11_dues_4 hX hr ⟨fun c => absurd ((vle hlo (by omega) (by omega)).mp c) (by omega), fun c => ?_⟩
      simp only [forall_eq, a16, nI_1, e16]
      have ih' := ih (i + 1) (by omega)
      refine ⟨vin (by omega) (by omega), fun c2 => ?_, fun c2 => ?_⟩
      · rw [show duesS (cuZ μ) (bOf (μ.1 70 0)) (i + 1) = duesS (cuZ μ) (bOf (μ.1 70 0)) i + 0 by rw [duesS, if_neg (by rw [bOf3 (by omega)]; exact c2)]] at ih'
        exact ih'
      · rw [show duesS (cuZ μ) (bOf (μ.1 70 0)) (i + 1) = duesS (cuZ μ) (bOf (μ.1 70 0)) i + 1 by rw [duesS, if_pos (by rw [bOf3 (by omega)]; exact c2)]] at ih'
        exact ih'
  exact st_X11_dues_0 hX hr (go (nLo (cuZ μ)) 0 (by omega))
set_option maxHeartbeats 1000000 in
theorem cr_ruinedNow {l : Launch} {G : zG} {μ : zM} (hc : cOk (cuZ μ)) :
    zCT l G 0 yX11_ruinedNow cX11_ruinedNow 3 (some .int) [.ref (G.ad 11 0)] μ (zI fun r μ' => r = ruinS (cuZ μ) (bOf (μ.1 70 0)) (nLo (cuZ μ)) ∧ μ' = μ) := by
  refine zCT_of (by decide) (Nat.le_of_ble_eq_true rfl) rfl (fun X hl hG hX hr => ?_)
  subst hG
  obtain ⟨n10, -, -⟩ := cOk_n hc
  have hlo : vp_in (μ.1 38 0 0) 11 := hc.2.2.1
  have elo : nLo (cuZ μ) = ix (μ.1 38 0 0) := rfl
  have go : ∀ k i, i + k = nLo (cuZ μ) → AW X 4 [some (.ref (X.G.ad 11 0)), some (.int (ruinS (cuZ μ) (bOf (μ.1 70 0)) i)), some (.int (nI i))] [] μ := by
    intro k
    induction k with
    | zero =>
      intro i hi
      refine st_X11_ruinedNow_4 hX hr ⟨fun c => ⟨_, rfl, by rw [show i = nLo (cuZ μ) by omega], rfl⟩, fun c => absurd ((vle hlo (by omega) (by omega)).mpr (by omega)) c⟩
    | succ k ih =>
      intro i hi
      have e0 : ix (nI i) = i := ixn (by omega)
      have e16 : ix (nI (16 + i)) = 16 + i := ixn (by omega)
      have e46 : ix (nI (46 + i)) = 46 + i := ixn (by omega)
      refine st_X11_ruinedNow_4 hX hr ⟨fun c => absurd ((vle hlo (by omega) (by omega)).mp c) (by omega), fun c => ?_⟩
      simp only [forall_eq, a16, a46, nI_1, e0, e16, e46]
      have ih' := ih (i + 1) (by omega)
      have hi10 : i < 10 := by omega
      refine ⟨vin (by omega) (by omega), fun c2 => ?_, fun c2 => ⟨vin (by omega) (by omega), fun c3 => ?_, fun c3 => ⟨vin (by omega) (by omega), ?_⟩⟩⟩
      · rw [show ruinS (cuZ μ) (bOf (μ.1 70 0)) (i + 1) = ruinS (cuZ μ) (bOf (μ.1 70 0)) i ||| 0 by rw [ruinS, if_neg (by rw [bOf6 hi10]; exact fun h => c2 h.1)]] at ih'
        exact ih'
      · rw [show ruinS (cuZ μ) (bOf (μ.1 70 0)) (i + 1) = ruinS (cuZ μ) (bOf (μ.1 70 0)) i ||| 0 by rw [ruinS, if_neg (by rw [bOf3 hi10]; exact fun h => h.2 c3)]] at ih'
        exact ih'
      · rw [show ruinS (cuZ μ) (bOf (μ.1 70 0)) (i + 1) = ruinS (cuZ μ) (bOf (μ.1 70 0)) i ||| ((1 : Int32) <<< (μ.1 46 0 i &&& 31)) by rw [ruinS, if_pos (by rw [bOf6 hi10, bOf3 hi10]; exact ⟨c2, c3⟩)]; rfl] at ih'
        exact ih'
  exact st_X11_ruinedNow_0 hX hr (go (nLo (cuZ μ)) 0 (by omega))
