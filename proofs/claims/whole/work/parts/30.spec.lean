/-! PURE PICTURES: a book (0 scalars: today, floods, weather, broken; 1 purses, 2 owes, 3 stages, 4 ripe days, 5 paid), a custom (0 scalars: hills, persons, loans, bets; 1 dry odds, 2 wet odds, 3 coins; 4 lender, 5 debtor, 6 coins, 7 rate, 8 due, 9 hill, 10 kind, 11 bail; 12 prices, 13 pays, 14 wins) -/
abbrev zB : Type := Nat → Nat → Int32
def bU (b : zB) (j k : Nat) (v : Int32) : zB := fun a c => if a = j ∧ c = k then v else b a c
def getB (μ : zM) (o : Nat) : zB := fun j k => match j with
  | 0 => μ.1 1 o k
  | 1 => μ.1 14 o k
  | 2 => μ.1 15 o k
  | 3 => μ.1 16 o k
  | 4 => μ.1 17 o k
  | 5 => μ.1 18 o k
  | _ => 0
def putB (μ : zM) (o : Nat) (b : zB) : zM := (fun κ q k => if q = o then (if κ = 1 then b 0 k else if κ = 14 then b 1 k else if κ = 15 then b 2 k else if κ = 16 then b 3 k else if κ = 17 then b 4 k else if κ = 18 then b 5 k else μ.1 κ q k) else μ.1 κ q k, μ.2)
def getC (μ : zM) (c : Nat) : zB := fun j k => match j with
  | 0 => μ.1 2 c k
  | 1 => μ.1 19 c k
  | 2 => μ.1 20 c k
  | 3 => μ.1 21 c k
  | 12 => μ.1 23 c k
  | 13 => μ.1 24 c k
  | 14 => μ.1 25 c k
  | j => μ.1 7 (10 * c + k) (j - 4)
theorem putB_getB (μ : zM) (o : Nat) : putB μ o (getB μ o) = μ := by
  unfold putB
  refine Prod.ext ?_ rfl
  funext κ q k
  dsimp only
  by_cases h : q = o
  · subst h
    rw [if_pos rfl]
    repeat' split
    all_goals first | (subst_vars; rfl) | rfl
  · rw [if_neg h]
theorem pB0 (μ : zM) (o : Nat) (b : zB) (k : Nat) : (putB μ o b).1 1 o k = b 0 k := by simp [putB]
theorem pB1 (μ : zM) (o : Nat) (b : zB) (k : Nat) : (putB μ o b).1 14 o k = b 1 k := by simp [putB]
theorem pB2 (μ : zM) (o : Nat) (b : zB) (k : Nat) : (putB μ o b).1 15 o k = b 2 k := by simp [putB]
theorem pB3 (μ : zM) (o : Nat) (b : zB) (k : Nat) : (putB μ o b).1 16 o k = b 3 k := by simp [putB]
theorem pB4 (μ : zM) (o : Nat) (b : zB) (k : Nat) : (putB μ o b).1 17 o k = b 4 k := by simp [putB]
theorem pB5 (μ : zM) (o : Nat) (b : zB) (k : Nat) : (putB μ o b).1 18 o k = b 5 k := by simp [putB]
def bKind (κ : Nat) : Bool := κ == 1 || κ == 14 || κ == 15 || κ == 16 || κ == 17 || κ == 18
theorem pBx (μ : zM) (o : Nat) (b : zB) {κ : Nat} (h : bKind κ = false) (q k : Nat) : (putB μ o b).1 κ q k = μ.1 κ q k := by
  simp only [bKind, Bool.or_eq_false_iff, beq_eq_false_iff_ne, ne_eq] at h
  simp only [putB]
  simp [h]
theorem pBo (μ : zM) (o : Nat) (b : zB) {q : Nat} (h : q ≠ o) (κ k : Nat) : (putB μ o b).1 κ q k = μ.1 κ q k := by simp [putB, h]
theorem pB2nd (μ : zM) (o : Nat) (b : zB) : (putB μ o b).2 = μ.2 := rfl
theorem pB_c (μ : zM) (o : Nat) (b : zB) (q k : Nat) : (putB μ o b).1 2 q k = μ.1 2 q k := pBx μ o b rfl q k
theorem pB_t (μ : zM) (o : Nat) (b : zB) (q k : Nat) : (putB μ o b).1 7 q k = μ.1 7 q k := pBx μ o b rfl q k
theorem pB_19 (μ : zM) (o : Nat) (b : zB) (q k : Nat) : (putB μ o b).1 19 q k = μ.1 19 q k := pBx μ o b rfl q k
theorem pB_20 (μ : zM) (o : Nat) (b : zB) (q k : Nat) : (putB μ o b).1 20 q k = μ.1 20 q k := pBx μ o b rfl q k
theorem pB_21 (μ : zM) (o : Nat) (b : zB) (q k : Nat) : (putB μ o b).1 21 q k = μ.1 21 q k := pBx μ o b rfl q k
theorem getC_putB (μ : zM) (o c : Nat) (b : zB) : getC (putB μ o b) c = getC μ c := by
  funext j k
  unfold getC
  split <;> exact pBx μ o b rfl _ _
theorem putB_putB (μ : zM) (o : Nat) (b d : zB) : putB (putB μ o b) o d = putB μ o d := by
  unfold putB
  refine Prod.ext ?_ rfl
  funext κ q k
  dsimp only
  by_cases h : q = o
  · simp only [if_pos h]
    repeat' split
    all_goals rfl
  · simp only [if_neg h]
theorem pBI0 (μ : zM) (o : Nat) (b : zB) (k : Nat) (v : Int32) : pI (putB μ o b) 1 o k v = putB μ o (bU b 0 k v) := by
  refine Prod.ext ?_ rfl
  funext κ q j
  simp only [pI, putB, bU]
  by_cases h : q = o
  · subst h
    by_cases h1 : κ = 1
    · subst h1; simp
    · simp [h1]
  · simp [h]
theorem pBI1 (μ : zM) (o : Nat) (b : zB) (k : Nat) (v : Int32) : pI (putB μ o b) 14 o k v = putB μ o (bU b 1 k v) := by
  refine Prod.ext ?_ rfl
  funext κ q j
  simp only [pI, putB, bU]
  by_cases h : q = o
  · subst h
    by_cases h1 : κ = 14
    · subst h1; simp
    · simp [h1]
  · simp [h]
theorem pBI2 (μ : zM) (o : Nat) (b : zB) (k : Nat) (v : Int32) : pI (putB μ o b) 15 o k v = putB μ o (bU b 2 k v) := by
  refine Prod.ext ?_ rfl
  funext κ q j
  simp only [pI, putB, bU]
  by_cases h : q = o
  · subst h
    by_cases h1 : κ = 15
    · subst h1; simp
    · simp [h1]
  · simp [h]
theorem pBI3 (μ : zM) (o : Nat) (b : zB) (k : Nat) (v : Int32) : pI (putB μ o b) 16 o k v = putB μ o (bU b 3 k v) := by
  refine Prod.ext ?_ rfl
  funext κ q j
  simp only [pI, putB, bU]
  by_cases h : q = o
  · subst h
    by_cases h1 : κ = 16
    · subst h1; simp
    · simp [h1]
  · simp [h]
theorem pBI4 (μ : zM) (o : Nat) (b : zB) (k : Nat) (v : Int32) : pI (putB μ o b) 17 o k v = putB μ o (bU b 4 k v) := by
  refine Prod.ext ?_ rfl
  funext κ q j
  simp only [pI, putB, bU]
  by_cases h : q = o
  · subst h
    by_cases h1 : κ = 17
    · subst h1; simp
    · simp [h1]
  · simp [h]
theorem pBI5 (μ : zM) (o : Nat) (b : zB) (k : Nat) (v : Int32) : pI (putB μ o b) 18 o k v = putB μ o (bU b 5 k v) := by
  refine Prod.ext ?_ rfl
  funext κ q j
  simp only [pI, putB, bU]
  by_cases h : q = o
  · subst h
    by_cases h1 : κ = 18
    · subst h1; simp
    · simp [h1]
  · simp [h]
/-! what the book's methods do -/
def tkC (b : zB) (l g : Nat) : Int32 := if b 1 g ≤ b 2 l then b 1 g else b 2 l
def tkR (b : zB) (l g : Nat) : Int32 := if 0 < tkC b l g then 1 else 0
def tkD (b : zB) (l g d : Nat) (v : Int32) : zB :=
  let b1 := bU b 1 g (b 1 g - v)
  let b2 := bU b1 1 d (b1 1 d + v)
  let b3 := bU b2 2 l (b2 2 l - v)
  bU b3 5 l (b3 5 l + v)
def tkB (b : zB) (l g d : Nat) : zB := if 0 < tkC b l g then tkD b l g d (tkC b l g) else b
