/-! sums, and what a payment keeps -/
def sumI (f : Nat → Int) : Nat → Int
  | 0 => 0
  | n + 1 => sumI f n + f n
theorem sumI_congr {f g : Nat → Int} : ∀ {n : Nat}, (∀ k, k < n → f k = g k) → sumI f n = sumI g n
  | 0, _ => rfl
  | n + 1, h => by
    simp only [sumI]
    rw [sumI_congr (n := n) (fun k hk => h k (by omega)), h n (by omega)]
theorem sumI_upd {f g : Nat → Int} {j : Nat} (hg : ∀ k, k ≠ j → g k = f k) : ∀ {n : Nat}, j < n → sumI g n = sumI f n - f j + g j
  | 0, h => by omega
  | n + 1, h => by
    simp only [sumI]
    by_cases hj : j = n
    · subst hj
      rw [sumI_congr (f := g) (g := f) (n := j) (fun k hk => hg k (by omega))]
      omega
    · rw [sumI_upd hg (n := n) (by omega), hg n (by omega)]
      omega
theorem sumI_nn {f : Nat → Int} : ∀ {n : Nat}, (∀ k, k < n → 0 ≤ f k) → 0 ≤ sumI f n
  | 0, _ => by simp [sumI]
  | n + 1, h => by
    have := sumI_nn (f := f) (n := n) (fun k hk => h k (by omega))
    have := h n (by omega)
    simp only [sumI]; omega
theorem sumI_le {f : Nat → Int} {j : Nat} : ∀ {n : Nat}, (∀ k, k < n → 0 ≤ f k) → j < n → f j ≤ sumI f n
  | 0, _, h => by omega
  | n + 1, h, hj => by
    simp only [sumI]
    by_cases e : j = n
    · subst e
      have := sumI_nn (f := f) (n := j) (fun k hk => h k (by omega))
      omega
    · have := sumI_le (f := f) (j := j) (n := n) (fun k hk => h k (by omega)) (by omega)
      have := h n (by omega)
      omega
theorem addI {a b : Int32} (h1 : -2147483648 ≤ a.toInt + b.toInt) (h2 : a.toInt + b.toInt < 2147483648) : (a + b).toInt = a.toInt + b.toInt := by
  rw [Int32.toInt_add]
  exact Int.bmod_eq_of_le (by omega) (by omega)
theorem subI {a b : Int32} (h1 : -2147483648 ≤ a.toInt - b.toInt) (h2 : a.toInt - b.toInt < 2147483648) : (a - b).toInt = a.toInt - b.toInt := by
  rw [Int32.toInt_sub]
  exact Int.bmod_eq_of_le (by omega) (by omega)
abbrev sP (b : zB) : Int := sumI (fun p => (b 1 p).toInt) 6
abbrev sO (b : zB) : Int := sumI (fun l => (b 2 l).toInt) 10
def bInv (b : zB) : Prop := (∀ p, p < 6 → 0 ≤ (b 1 p).toInt) ∧ sP b ≤ 60000 ∧ (∀ l, l < 10 → 0 ≤ (b 2 l).toInt) ∧ sO b ≤ 999999
theorem tkC_le (b : zB) (l g : Nat) : (tkC b l g).toInt ≤ (b 1 g).toInt ∧ (tkC b l g).toInt ≤ (b 2 l).toInt ∧ ((tkC b l g).toInt = (b 1 g).toInt ∨ (tkC b l g).toInt = (b 2 l).toInt) := by
  unfold tkC
  split
  · rename_i h
    have := Int32.le_iff_toInt_le.mp h
    omega
  · rename_i h
    have := Int32.lt_iff_toInt_lt.mp (Int32.not_le.mp h)
    omega
theorem tk_inv {b : zB} {l g d : Nat} (hl : l < 10) (hg : g < 6) (hd : d < 6) (I : bInv b) :
    bInv (tkD b l g d (tkC b l g)) ∧ sO (tkD b l g d (tkC b l g)) = sO b - (tkC b l g).toInt ∧ 0 ≤ (tkC b l g).toInt ∧ sP (tkD b l g d (tkC b l g)) = sP b := by
  obtain ⟨i1, i2, i3, i4⟩ := I
  obtain ⟨c1, c2, c3⟩ := tkC_le b l g
  have p1 := i1 g hg
  have p2 := i3 l hl
  have c0 : 0 ≤ (tkC b l g).toInt := by omega
  generalize hv : tkC b l g = v at *
  have pg := sumI_le (f := fun p => (b 1 p).toInt) i1 hg
  have ol := sumI_le (f := fun p => (b 2 p).toInt) i3 hl
  have i2 : sumI (fun p => (b 1 p).toInt) 6 ≤ 60000 := i2
  have i4 : sumI (fun p => (b 2 p).toInt) 10 ≤ 999999 := i4
  -- purses behind the giver
  have e1 : (b 1 g - v).toInt = (b 1 g).toInt - v.toInt := subI (by omega) (by omega)
  have s1 : sumI (fun p => (bU b 1 g (b 1 g - v) 1 p).toInt) 6 = sumI (fun p => (b 1 p).toInt) 6 - v.toInt := by
    rw [sumI_upd (f := fun p => (b 1 p).toInt) (g := fun p => (bU b 1 g (b 1 g - v) 1 p).toInt) (j := g) (fun k hk => by simp [bU, hk]) hg]
    simp only [bU, and_self, if_true, e1]
    omega
  have n1 : ∀ p, p < 6 → 0 ≤ (bU b 1 g (b 1 g - v) 1 p).toInt := by
    intro p hp
    by_cases h : p = g
    · subst h
      simp only [bU, and_self, if_true, e1]; omega
    · simp only [bU, h, and_false, if_false]
      exact i1 p hp
  generalize hb1 : bU b 1 g (b 1 g - v) = b1 at *
  have q2 : ∀ k, b1 2 k = b 2 k := by intro k; rw [← hb1]; simp [bU]
  have pd := sumI_le (f := fun p => (b1 1 p).toInt) n1 hd
  have pd0 := n1 d hd
  have e2 : (b1 1 d + v).toInt = (b1 1 d).toInt + v.toInt := addI (by omega) (by omega)
  have s2 : sumI (fun p => (bU b1 1 d (b1 1 d + v) 1 p).toInt) 6 = sumI (fun p => (b 1 p).toInt) 6 := by
    rw [sumI_upd (f := fun p => (b1 1 p).toInt) (g := fun p => (bU b1 1 d (b1 1 d + v) 1 p).toInt) (j := d) (fun k hk => by simp [bU, hk]) hd]
    simp only [bU, and_self, if_true, e2]
    omega
  have n2 : ∀ p, p < 6 → 0 ≤ (bU b1 1 d (b1 1 d + v) 1 p).toInt := by
    intro p hp
    by_cases h : p = d
    · subst h
      simp only [bU, and_self, if_true, e2]; omega
    · simp only [bU, h, and_false, if_false]
      exact n1 p hp
  have t2 : ∀ k, bU b1 1 d (b1 1 d + v) 2 k = b 2 k := by intro k; simp [bU, q2]
  generalize hb2 : bU b1 1 d (b1 1 d + v) = b2 at *
  have e3 : (b 2 l - v).toInt = (b 2 l).toInt - v.toInt := subI (by omega) (by omega)
  have hr : tkD b l g d v = bU (bU b2 2 l (b 2 l - v)) 5 l (bU b2 2 l (b 2 l - v) 5 l + v) := by
    unfold tkD
    simp only [hb1, hb2, t2]
  rw [hr]
  have r1 : ∀ p, bU (bU b2 2 l (b 2 l - v)) 5 l (bU b2 2 l (b 2 l - v) 5 l + v) 1 p = b2 1 p := by intro p; simp [bU]
  have r2 : ∀ k, bU (bU b2 2 l (b 2 l - v)) 5 l (bU b2 2 l (b 2 l - v) 5 l + v) 2 k = if k = l then b 2 l - v else b 2 k := by
    intro k
    by_cases h : k = l
    · subst h; simp [bU]
    · simp [bU, h, t2]
  generalize bU (bU b2 2 l (b 2 l - v)) 5 l (bU b2 2 l (b 2 l - v) 5 l + v) = b3 at *
  have s3 : sumI (fun p => (b3 2 p).toInt) 10 = sumI (fun p => (b 2 p).toInt) 10 - v.toInt := by
    rw [sumI_upd (f := fun p => (b 2 p).toInt) (g := fun p => (b3 2 p).toInt) (j := l) (fun k hk => by simp [r2, hk]) hl]
    simp only [r2, if_true, e3]
    omega
  have sp : sumI (fun p => (b3 1 p).toInt) 6 = sumI (fun p => (b 1 p).toInt) 6 := by
    rw [← s2]
    exact sumI_congr (fun k _ => by simp only [r1])
  refine ⟨⟨fun p hp => by rw [r1]; exact n2 p hp, (by show sumI _ 6 ≤ _; rw [sp]; exact i2), fun k hk => ?_, (by show sumI _ 10 ≤ _; rw [s3]; omega)⟩, s3, c0, sp⟩
  rw [r2]
  by_cases h : k = l
  · rw [if_pos h, e3]; omega
  · rw [if_neg h]; exact i3 k hk
theorem tkD_zero {b : zB} {l g d : Nat} {v : Int32} (h : v.toInt = 0) : tkD b l g d v = b := by
  have hv : v = 0 := Int32.toInt_inj.mp (by rw [h]; rfl)
  subst hv
  have e : ∀ (c : zB) (j k : Nat), bU c j k (c j k) = c := by
    intro c j k
    funext a q
    simp only [bU]
    by_cases h : a = j ∧ q = k
    · rw [if_pos h, h.1, h.2]
    · rw [if_neg h]
  unfold tkD
  simp only [Int32.sub_zero, Int32.add_zero, e]
