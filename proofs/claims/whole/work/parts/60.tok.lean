/-! what may change -/
def frm (P Q : Nat → Nat → Bool) (μ ν : zM) : Prop := (∀ κ o k, P κ k = false → ν.1 κ o k = μ.1 κ o k) ∧ ∀ κ o k, Q κ k = false → ν.2 κ o k = μ.2 κ o k
theorem frm.rf {P Q : Nat → Nat → Bool} (μ : zM) : frm P Q μ μ := ⟨fun _ _ _ _ => rfl, fun _ _ _ _ => rfl⟩
theorem frm.trans {P Q : Nat → Nat → Bool} {μ ν ρ : zM} (h : frm P Q μ ν) (g : frm P Q ν ρ) : frm P Q μ ρ := ⟨fun κ o k q => (g.1 κ o k q).trans (h.1 κ o k q), fun κ o k q => (g.2 κ o k q).trans (h.2 κ o k q)⟩
theorem frm.mono {P Q P' Q' : Nat → Nat → Bool} {μ ν : zM} (h : frm P Q μ ν) (hP : ∀ κ k, P' κ k = false → P κ k = false) (hQ : ∀ κ k, Q' κ k = false → Q κ k = false) : frm P' Q' μ ν := ⟨fun κ o k q => h.1 κ o k (hP κ k q), fun κ o k q => h.2 κ o k (hQ κ k q)⟩
theorem frm_I {P Q : Nat → Nat → Bool} {μ ν : zM} (h : frm P Q μ ν) {κ o k : Nat} (hP : P κ k = true) (v : Int32) : frm P Q μ (pI ν κ o k v) := by
  refine ⟨fun a b c q => ?_, h.2⟩
  rw [← h.1 a b c q]
  simp only [pI]
  rw [if_neg]
  rintro ⟨rfl, -, rfl⟩
  rw [hP] at q; cases q
theorem frm_L {P Q : Nat → Nat → Bool} {μ ν : zM} (h : frm P Q μ ν) {κ o k : Nat} (hQ : Q κ k = true) (v : Int64) : frm P Q μ (pL ν κ o k v) := by
  refine ⟨h.1, fun a b c q => ?_⟩
  rw [← h.2 a b c q]
  simp only [pL]
  rw [if_neg]
  rintro ⟨rfl, -, rfl⟩
  rw [hQ] at q; cases q
/-! TOKENS, purely: of a tape T of n signs, from the place p on -/
def blk (x : Int32) : Bool := decide (x = 32) || decide (x = 10)
def ltr (x : Int32) : Bool := decide (¬ x < 97) && decide (¬ 122 < x)
def dgt (x : Int32) : Bool := decide (¬ x < 48) && decide (¬ 57 < x)
def sgn (x : Int32) : Bool := (decide (¬ x < 40) && decide (x ≤ 43)) || (decide (x = 45) || (decide (¬ x < 59) && decide (¬ 61 < x)))
def runS (T : Nat → Int32) (n : Nat) (f : Int32 → Bool) : Nat → Nat → Nat
  | 0, p => p
  | k + 1, p => if p < n ∧ f (T p) = true then runS T n f k (p + 1) else p
def endS (T : Nat → Int32) (n : Nat) (f : Int32 → Bool) (p : Nat) : Nat := runS T n f (n - p) p
theorem endS_go {T : Nat → Int32} {n : Nat} {f : Int32 → Bool} {p : Nat} (h : p < n) (hf : f (T p) = true) : endS T n f p = endS T n f (p + 1) := by
  unfold endS
  obtain ⟨k, hk⟩ : ∃ k, n - p = k + 1 := ⟨n - p - 1, by omega⟩
  rw [hk, runS, if_pos ⟨h, hf⟩, show n - (p + 1) = k by omega]
theorem endS_stop {T : Nat → Int32} {n : Nat} {f : Int32 → Bool} {p : Nat} (h : ¬ (p < n ∧ f (T p) = true)) : endS T n f p = p := by
  unfold endS
  cases hk : n - p with
  | zero => rfl
  | succ k => rw [runS, if_neg h]
theorem runS_le {T : Nat → Int32} {n : Nat} {f : Int32 → Bool} : ∀ {k p : Nat}, p ≤ n → p ≤ runS T n f k p ∧ runS T n f k p ≤ n
  | 0, p, h => ⟨Nat.le_refl _, h⟩
  | k + 1, p, h => by
    rw [runS]
    split
    · rename_i q
      have := runS_le (T := T) (f := f) (k := k) (p := p + 1) (n := n) (by omega)
      omega
    · exact ⟨Nat.le_refl _, h⟩
theorem endS_le {T : Nat → Int32} {n : Nat} {f : Int32 → Bool} {p : Nat} (h : p ≤ n) : p ≤ endS T n f p ∧ endS T n f p ≤ n := runS_le h
/-- the letters as a number; the digits as a number -/
def wfS (T : Nat → Int32) (b : Nat) : Nat → Int64
  | 0 => 0
  | i + 1 => ((wfS T b i * (27 : Int64)) + (T (b + i)).toInt64) - (96 : Int64)
def nfS (T : Nat → Int32) (b : Nat) : Nat → Int32
  | 0 => 0
  | i + 1 => ((nfS T b i * (10 : Int32)) + T (b + i)) - (48 : Int32)
def tBg (T : Nat → Int32) (n p : Nat) : Nat := endS T n blk p
/-- what stands at a place that is no blank: type, where it ends, word, number -/
def tAt (T : Nat → Int32) (n b : Nat) : Int32 × Nat × Int64 × Int32 :=
  if b = n then (0, n, 0, 0)
  else if ltr (T b) = true then (if endS T n ltr b - b ≤ 8 then 1 else 4, endS T n ltr b, wfS T b (min (endS T n ltr b - b) 8), 0)
  else if dgt (T b) = true then (if endS T n dgt b - b ≤ 4 then 2 else 4, endS T n dgt b, 0, nfS T b (min (endS T n dgt b - b) 4))
  else (if sgn (T b) = true then 3 else 4, b + 1, 0, 0)
def tkP (κ k : Nat) : Bool := decide (κ = 11) && (decide (k = 4) || (decide (k = 5) || (decide (k = 6) || decide (k = 8))))
def tkQ (κ k : Nat) : Bool := decide (κ = 11) && decide (k = 7)
/-- the reference stands at a token -/
def tkIs (ν : zM) (b : Nat) (q : Int32 × Nat × Int64 × Int32) : Prop := ν.1 11 0 5 = nI b ∧ ν.1 11 0 6 = q.1 ∧ ν.1 11 0 4 = nI q.2.1 ∧ ν.2 11 0 7 = q.2.2.1 ∧ ν.1 11 0 8 = q.2.2.2
theorem cr_signAt {lc : Launch} {G : zG} {μ : zM} {n k : Nat} (en : μ.1 11 0 3 = nI n) (hn : n ≤ 1000) (hk : k ≤ 1000) :
    zCT lc G 0 yX11_signAt cX11_signAt 2 (some .int) [.ref (G.ad 11 0), .int (nI k)] μ (zI fun r μ' => r = (if k < n then μ.1 35 0 k else 0) ∧ μ' = μ) := by
  refine zCT_of (by decide) (Nat.le_of_ble_eq_true rfl) rfl (fun X hl0 hG hX hr => ?_)
  subst hG
  refine st_X11_signAt_0 hX hr ⟨fun c => ⟨_, rfl, ?_, rfl⟩, fun c => ⟨?_, _, rfl, ?_, rfl⟩⟩
  · rw [en] at c
    rw [if_neg]
    have := (nI_leI (by omega) (by omega)).mp c
    omega
  · rw [en] at c
    have : k < n := by
      rcases Nat.lt_or_ge k n with h | h
      · exact h
      · exact absurd (nI_le h (by omega)) c
    exact vin (by omega) (by omega)
  · rw [en] at c
    have : k < n := by
      rcases Nat.lt_or_ge k n with h | h
      · exact h
      · exact absurd (nI_le h (by omega)) c
    rw [if_pos this, ixn (by omega)]
section TK
variable {X : zX} {lv : Nat} {Post : Option Value → zM → Prop} {μ : zM} {n : Nat}
theorem tk_322 (hX : zOk X cX11_nextToken RX11 2 lv) (hr : zRt X none Post) {ν : zM} {b : Nat} {x : Int32} (h4 : ν.1 11 0 4 = nI b) (h5 : ν.1 11 0 5 = nI b) (h7 : ν.2 11 0 7 = 0) (h8 : ν.1 11 0 8 = 0) (hf : frm tkP tkQ μ ν)
    (K : ∀ ρ, frm tkP tkQ μ ρ → tkIs ρ b (if sgn x = true then 3 else 4, b + 1, 0, 0) → Post none ρ) : AW X 322 [some (.ref (X.G.ad 11 0)), some (.int x)] [] ν := by
  have go : ∀ t : Int32, t = (if sgn x = true then 3 else 4) → Post none (pI (pI ν 11 0 4 (nI (b + 1))) 11 0 6 t) := by
    intro t ht
    refine K _ (frm_I (frm_I hf rfl _) rfl _) ⟨?_, ?_, ?_, h7, ?_⟩
    · rw [pI_place _ _ _ _ (by decide), pI_place _ _ _ _ (by decide), h5]
    · rw [pI_at]; exact ht
    · rw [pI_place _ _ _ _ (by decide), pI_at]
    · rw [pI_place _ _ _ _ (by decide), pI_place _ _ _ _ (by decide), h8]
  refine st_X11_nextToken_322 hX hr ?_
  simp only [forall_eq, h4, nI_1]
  refine ⟨fun c => ⟨fun c2 => go _ ?_, fun c2 => ⟨fun c3 => go _ ?_, fun c3 => ⟨fun c4 => go _ ?_, fun c4 => go _ ?_⟩⟩⟩, fun c => ⟨fun c1 => go _ ?_, fun c1 => ⟨fun c2 => go _ ?_, fun c2 => ⟨fun c3 => go _ ?_, fun c3 => ⟨fun c4 => go _ ?_, fun c4 => go _ ?_⟩⟩⟩⟩⟩
  · have h : sgn x = true := by simp [sgn, c2]
    rw [if_pos h]
  · have h : ¬ sgn x = true := by simp [sgn, c, c2, c3]
    rw [if_neg h]
  · have h : ¬ sgn x = true := by simp [sgn, c, c2, c3, c4]
    rw [if_neg h]
  · have h : sgn x = true := by simp only [sgn, decide_eq_true c3, decide_eq_true c4, Bool.and_self, Bool.or_true]
    rw [if_pos h]
  · have h : sgn x = true := by simp only [sgn, decide_eq_true c, decide_eq_true c1, Bool.and_self, Bool.true_or]
    rw [if_pos h]
  · have h : sgn x = true := by simp [sgn, c2]
    rw [if_pos h]
  · have h : ¬ sgn x = true := by simp [sgn, c1, c2, c3]
    rw [if_neg h]
  · have h : ¬ sgn x = true := by simp [sgn, c1, c2, c4]
    rw [if_neg h]
  · have h : sgn x = true := by simp only [sgn, decide_eq_true c3, decide_eq_true c4, Bool.and_self, Bool.or_true]
    rw [if_pos h]
set_option maxHeartbeats 2000000 in
theorem tk_109 (hX : zOk X cX11_nextToken RX11 2 lv) (hr : zRt X none Post) (hlv : 0 < lv) (hn : n ≤ 1000) (en : μ.1 11 0 3 = nI n) {b : Nat}
    (K : ∀ ρ, frm tkP tkQ μ ρ → tkIs ρ b (if endS (μ.1 35 0) n ltr b - b ≤ 8 then 1 else 4, endS (μ.1 35 0) n ltr b, wfS (μ.1 35 0) b (min (endS (μ.1 35 0) n ltr b - b) 8), 0) → Post none ρ) :
    ∀ k q (ν : zM), q + k = n → b ≤ q → frm tkP tkQ μ ν → ν.1 11 0 4 = nI q → ν.1 11 0 5 = nI b → ν.2 11 0 7 = wfS (μ.1 35 0) b (min (q - b) 8) → ν.1 11 0 8 = 0 → endS (μ.1 35 0) n ltr q = endS (μ.1 35 0) n ltr b → AW X 109 [some (.ref (X.G.ad 11 0)), none] [] ν := by
  intro k
  induction k with
  | zero =>
    intro q ν hq hb hf h4 h5 h7 h8 he
    have e3 : ν.1 11 0 3 = nI n := by rw [hf.1 11 0 3 rfl, en]
    have stop : endS (μ.1 35 0) n ltr b = q := by rw [← he, endS_stop (by omega)]
    have fin : ∀ t : Int32, t = (if q - b ≤ 8 then 1 else 4) → Post none (pI ν 11 0 6 t) := by
      intro t ht
      refine K _ (frm_I hf rfl _) ⟨?_, ?_, ?_, ?_, ?_⟩
      · rw [pI_place _ _ _ _ (by decide), h5]
      · rw [pI_at, stop]; exact ht
      · rw [pI_place _ _ _ _ (by decide), h4, stop]
      · rw [stop]; exact h7
      · rw [pI_place _ _ _ _ (by decide), h8]
    refine st_X11_nextToken_109 hX hr ?_
    rw [h4]
    refine ⟨0, _, hlv, cr_signAt e3 hn (by omega), ?_⟩
    rintro r μ' ⟨rfl, rfl⟩
    rw [if_neg (by omega)]
    refine ⟨fun _ => ?_, fun c => absurd (by decide) c⟩
    simp only [forall_eq, h4, h5, nI_subN hb]
    refine ⟨fun c2 => fin _ ?_, fun c2 => fin _ ?_⟩
    · rw [if_pos ((nI_leI (b := 8) (by omega) (by omega)).mp c2)]
    · rw [if_neg (fun h => c2 (nI_le (b := 8) h (by omega)))]
  | succ k ih =>
    intro q ν hq hb hf h4 h5 h7 h8 he
    have e3 : ν.1 11 0 3 = nI n := by rw [hf.1 11 0 3 rfl, en]
    have eT : ν.1 35 0 q = μ.1 35 0 q := hf.1 35 0 q rfl
    have fin : ltr (μ.1 35 0 q) = false → ∀ t : Int32, t = (if q - b ≤ 8 then 1 else 4) → Post none (pI ν 11 0 6 t) := by
      intro hl t ht
      have stop : endS (μ.1 35 0) n ltr b = q := by rw [← he, endS_stop (by rw [hl]; simp)]
      refine K _ (frm_I hf rfl _) ⟨?_, ?_, ?_, ?_, ?_⟩
      · rw [pI_place _ _ _ _ (by decide), h5]
      · rw [pI_at, stop]; exact ht
      · rw [pI_place _ _ _ _ (by decide), h4, stop]
      · rw [stop]; exact h7
      · rw [pI_place _ _ _ _ (by decide), h8]
    refine st_X11_nextToken_109 hX hr ?_
    rw [h4]
    refine ⟨0, _, hlv, cr_signAt e3 hn (by omega), ?_⟩
    rintro r μ' ⟨rfl, rfl⟩
    rw [if_pos (by omega), eT]
    refine ⟨fun c => ?_, fun c => ?_⟩
    · have hl : ltr (μ.1 35 0 q) = false := by rw [ltr, decide_eq_false (p := ¬ μ.1 35 0 q < 97) (fun h => h c)]; rfl
      simp only [forall_eq, h4, h5, nI_subN hb]
      refine ⟨fun c2 => fin hl _ ?_, fun c2 => fin hl _ ?_⟩
      · rw [if_pos ((nI_leI (b := 8) (by omega) (by omega)).mp c2)]
      · rw [if_neg (fun h => c2 (nI_le (b := 8) h (by omega)))]
    · rw [h4]
      refine ⟨0, _, hlv, cr_signAt e3 hn (by omega), ?_⟩
      rintro r μ' ⟨rfl, rfl⟩
      rw [if_pos (by omega), eT]
      refine ⟨fun c2 => ?_, fun c2 => ?_⟩
      · have hl : ltr (μ.1 35 0 q) = false := by rw [ltr, decide_eq_false (p := ¬ 122 < μ.1 35 0 q) (fun h => h c2), Bool.and_false]
        simp only [forall_eq, h4, h5, nI_subN hb]
        refine ⟨fun c3 => fin hl _ ?_, fun c3 => fin hl _ ?_⟩
        · rw [if_pos ((nI_leI (b := 8) (by omega) (by omega)).mp c3)]
        · rw [if_neg (fun h => c3 (nI_le (b := 8) h (by omega)))]
      · have hl : ltr (μ.1 35 0 q) = true := by rw [ltr, decide_eq_true c, decide_eq_true c2]; rfl
        have he' : endS (μ.1 35 0) n ltr (q + 1) = endS (μ.1 35 0) n ltr b := by rw [← endS_go (by omega) hl, he]
        simp only [forall_eq, h4, h5, nI_subN hb, nI_1]
        refine ⟨fun c3 => ?_, fun c3 => ?_⟩
        · have h8b : 8 ≤ q - b := (nI_leI (a := 8) (by omega) (by omega)).mp c3
          refine ih (q + 1) _ (by omega) (by omega) (frm_I hf rfl _) (pI_at _ _ _ _ _) ?_ ?_ ?_ he'
          · rw [pI_place _ _ _ _ (by decide), h5]
          · show μ'.2 11 0 7 = _
            rw [h7]; congr 1; omega
          · rw [pI_place _ _ _ _ (by decide), h8]
        · have h8b : q - b < 8 := by
            rcases Nat.lt_or_ge (q - b) 8 with h | h
            · exact h
            · exact absurd (nI_le (a := 8) h (by omega)) c3
          refine ⟨0, _, hlv, cr_signAt e3 hn (by omega), ?_⟩
          rintro r μ' ⟨rfl, rfl⟩
          rw [if_pos (by omega), eT]
          try simp only [forall_eq]
          rw [show (pL μ' 11 0 7 (μ'.2 11 0 7 * 27 + (μ.1 35 0 q).toInt64 - 96)).1 11 0 4 = nI q from h4, nI_1]
          refine ih (q + 1) _ (by omega) (by omega) (frm_I (frm_L hf rfl _) rfl _) (pI_at _ _ _ _ _) ?_ ?_ ?_ he'
          · rw [pI_place _ _ _ _ (by decide)]; exact h5
          · show (pL μ' 11 0 7 (μ'.2 11 0 7 * 27 + (μ.1 35 0 q).toInt64 - 96)).2 11 0 7 = _
            rw [show (pL μ' 11 0 7 (μ'.2 11 0 7 * 27 + (μ.1 35 0 q).toInt64 - 96)).2 11 0 7 = μ'.2 11 0 7 * 27 + (μ.1 35 0 q).toInt64 - 96 by simp [pL], h7]
            rw [show min (q + 1 - b) 8 = (q - b) + 1 by omega, show min (q - b) 8 = q - b by omega, wfS, show b + (q - b) = q by omega]
          · rw [pI_place _ _ _ _ (by decide)]; exact h8
end TK
