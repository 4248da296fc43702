/-! A DAY, purely. A book's row 6: which loans are called (0, 1) -/
def nxt (cu : zB) (l : Nat) : Int32 := if cu 9 l + 1 < cu 0 0 then cu 9 l + 1 else 0
def wetAt (w h : Int32) : Bool := decide (((w >>> (h &&& 31)) &&& (1 : Int32)) = (1 : Int32))
def ripS (cu : zB) (l : Nat) (w : Int32) : Bool :=
  if cu 10 l = 1 then !wetAt w (cu 9 l) else if cu 10 l = 2 then wetAt w (cu 9 l) && wetAt w (nxt cu l) else if cu 10 l = 3 then wetAt w (cu 9 l) || wetAt w (nxt cu l) else wetAt w (cu 9 l)
def fldS (cu : zB) (w : Int32) : Bool := decide (¬ cu 0 0 ≤ (1 : Int32)) && decide (w = ((1 : Int32) <<< (cu 0 0 &&& 31)) - (1 : Int32))
abbrev nLo (cu : zB) : Nat := ix (cu 0 2)
abbrev nPe (cu : zB) : Nat := ix (cu 0 1)
abbrev nHi (cu : zB) : Nat := ix (cu 0 0)
/-- what a custom's numbers are -/
def cOk (cu : zB) : Prop := vp_in (cu 0 0) 5 ∧ vp_in (cu 0 1) 7 ∧ vp_in (cu 0 2) 11 ∧ vp_in (cu 0 3) 9 ∧ ∀ l, l < nLo cu → vp_in (cu 4 l) (nPe cu) ∧ vp_in (cu 5 l) (nPe cu) ∧ vp_in (cu 9 l) (nHi cu) ∧ (cu 11 l = -1 ∨ vp_in (cu 11 l) (nPe cu)) ∧ vp_in (cu 7 l) 100
/-- RIPE days, rate, DUE by days or flood -/
def du1 (cu : zB) (w : Int32) (l : Nat) (b : zB) : zB := if ripS cu l w then (let b1 := bU b 4 l (b 4 l + 1); bU b1 2 l (b1 2 l + cu 7 l)) else b
def du2 (cu : zB) (fl : Bool) (l : Nat) (b : zB) : zB := if cu 8 l ≤ b 4 l ∨ (fl = true ∧ ¬ cu 10 l = 4) then bU b 3 l 1 else b
def due (cu : zB) (w : Int32) (l : Nat) (b : zB) : zB := if b 3 l = 2 then b else du2 cu (fldS cu w) l (du1 cu w l b)
/-- is one of the first n loans of the same debtor DUE? -/
def anyD (cu : zB) (b : zB) (l : Nat) : Nat → Bool
  | 0 => false
  | n + 1 => anyD cu b l n || (decide (b 3 n = 1) && decide (cu 5 n = cu 5 l))
def jnd (cu : zB) (l : Nat) (b : zB) : zB := if cu 10 l = 5 ∧ b 3 l = 0 ∧ anyD cu b l (nLo cu) = true then bU b 3 l 1 else b
def cld (cu : zB) (w : Int32) (l : Nat) (b : zB) : zB := bU b 6 l (if b 3 l = 1 ∧ (ripS cu l w = true ∨ (fldS cu w = true ∧ ¬ cu 10 l = 4)) then 1 else 0)
/-- one loan's turn in a round -/
def trn (cu : zB) (w : Int32) (l : Nat) (b : zB) : zB :=
  if b 6 l = 0 then b else
    let b1 := tkD b l (ix (cu 5 l)) (ix (cu 4 l)) (tkC b l (ix (cu 5 l)))
    if cu 11 l < 0 ∨ w = 0 then b1 else tkD b1 l (ix (cu 11 l)) (ix (cu 4 l)) (tkC b1 l (ix (cu 11 l)))
def rnd (cu : zB) (w : Int32) (b : zB) : zB := fd (trn cu w) (nLo cu) b
def itr {α : Type} (f : α → α) : Nat → α → α
  | 0, a => a
  | n + 1, a => itr f n (f a)
def cls (l : Nat) (b : zB) : zB := if b 2 l = 0 then bU b 3 l 2 else b
def fin (cu : zB) (w : Int32) (b : zB) : zB := bU (bU (bU b 0 2 w) 0 0 (b 0 0 + 1)) 0 1 (b 0 1 + b2i (fldS cu w))
def fall (cu : zB) (w : Int32) (b : zB) : zB := fd (jnd cu) (nLo cu) (fd (due cu w) (nLo cu) b)
def called (cu : zB) (w : Int32) (b : zB) : zB := fd (cld cu w) (nLo cu) b
def live (cu : zB) (w : Int32) (b : zB) : zB := fin cu w (fd cls (nLo cu) (itr (rnd cu w) 1000000 (called cu w (fall cu w b))))
theorem nxt_eq {h n : Int32} (hh : vp_in h (ix n)) (hn : vp_in n 5) : (h + 1) - (h + 1) / n * n = if h + 1 < n then h + 1 else 0 := by
  have en := vof hn (by omega)
  have hx := zix hn
  have eh := vof hh (by omega)
  have hy := zix hh
  generalize ix n = c at *
  generalize ix h = a at *
  subst en eh
  have : c = 1 ∨ c = 2 ∨ c = 3 ∨ c = 4 := by omega
  rcases this with rfl | rfl | rfl | rfl
  · have : a = 0 := by omega
    subst this; decide
  · have : a = 0 ∨ a = 1 := by omega
    rcases this with rfl | rfl <;> decide
  · have : a = 0 ∨ a = 1 ∨ a = 2 := by omega
    rcases this with rfl | rfl | rfl <;> decide
  · have : a = 0 ∨ a = 1 ∨ a = 2 ∨ a = 3 := by omega
    rcases this with rfl | rfl | rfl | rfl <;> decide
/-! the reference's row as a book -/
def bOf (s : Nat → Int32) : zB := fun j k => match j with
  | 0 => if k = 0 then s 57 else if k = 1 then s 58 else if k = 2 then s 56 else 0
  | 1 => if k < 6 then s k else 0
  | 2 => if k < 10 then s (6 + k) else 0
  | 3 => if k < 10 then s (16 + k) else 0
  | 4 => if k < 10 then s (26 + k) else 0
  | 5 => if k < 10 then s (36 + k) else 0
  | 6 => if k < 10 then s (46 + k) else 0
  | _ => 0
theorem bOf1 {s : Nat → Int32} {k : Nat} (h : k < 6) : bOf s 1 k = s k := if_pos h
theorem bOf2 {s : Nat → Int32} {k : Nat} (h : k < 10) : bOf s 2 k = s (6 + k) := if_pos h
theorem bOf3 {s : Nat → Int32} {k : Nat} (h : k < 10) : bOf s 3 k = s (16 + k) := if_pos h
theorem bOf4 {s : Nat → Int32} {k : Nat} (h : k < 10) : bOf s 4 k = s (26 + k) := if_pos h
theorem bOf5 {s : Nat → Int32} {k : Nat} (h : k < 10) : bOf s 5 k = s (36 + k) := if_pos h
theorem bOf6 {s : Nat → Int32} {k : Nat} (h : k < 10) : bOf s 6 k = s (46 + k) := if_pos h
theorem bOf_gen {s : Nat → Int32} {t j k : Nat} {v : Int32} (ht : ∀ a c, bOf (upd s t v) a c = if a = j ∧ c = k then v else bOf s a c) : bOf (upd s t v) = bU (bOf s) j k v := by
  funext a c
  rw [ht a c]; rfl
theorem bU_1 {s : Nat → Int32} {k : Nat} {v : Int32} (h : k < 6) : bOf (upd s k v) = bU (bOf s) 1 k v := by
  funext a c
  simp only [bU, bOf, upd]
  match a with
  | 0 =>
    have e1 : ¬ 57 = k := by omega
    have e2 : ¬ 58 = k := by omega
    have e3 : ¬ 56 = k := by omega
    simp [e1, e2, e3]
  | 1 =>
    by_cases hc : c = k
    · subst hc; simp [h]
    · have e : ¬ c = k := by omega
      simp [hc, e]
  | 2 =>
    by_cases hc : c < 10
    · have e : ¬ 6 + c = k := by omega
      simp [hc, e]
    · simp [hc]
  | 3 =>
    by_cases hc : c < 10
    · have e : ¬ 16 + c = k := by omega
      simp [hc, e]
    · simp [hc]
  | 4 =>
    by_cases hc : c < 10
    · have e : ¬ 26 + c = k := by omega
      simp [hc, e]
    · simp [hc]
  | 5 =>
    by_cases hc : c < 10
    · have e : ¬ 36 + c = k := by omega
      simp [hc, e]
    · simp [hc]
  | 6 =>
    by_cases hc : c < 10
    · have e : ¬ 46 + c = k := by omega
      simp [hc, e]
    · simp [hc]
  | n + 7 => simp
theorem bU_2 {s : Nat → Int32} {k : Nat} {v : Int32} (h : k < 10) : bOf (upd s (6 + k) v) = bU (bOf s) 2 k v := by
  funext a c
  simp only [bU, bOf, upd]
  match a with
  | 0 =>
    have e1 : ¬ 57 = 6 + k := by omega
    have e2 : ¬ 58 = 6 + k := by omega
    have e3 : ¬ 56 = 6 + k := by omega
    simp [e1, e2, e3]
  | 1 =>
    by_cases hc : c < 6
    · have e : ¬ c = 6 + k := by omega
      simp [hc, e]
    · simp [hc]
  | 2 =>
    by_cases hc : c = k
    · subst hc; simp [h]
    · have e : ¬ 6 + c = 6 + k := by omega
      simp [hc, e]
  | 3 =>
    by_cases hc : c < 10
    · have e : ¬ 16 + c = 6 + k := by omega
      simp [hc, e]
    · simp [hc]
  | 4 =>
    by_cases hc : c < 10
    · have e : ¬ 26 + c = 6 + k := by omega
      simp [hc, e]
    · simp [hc]
  | 5 =>
    by_cases hc : c < 10
    · have e : ¬ 36 + c = 6 + k := by omega
      simp [hc, e]
    · simp [hc]
  | 6 =>
    by_cases hc : c < 10
    · have e : ¬ 46 + c = 6 + k := by omega
      simp [hc, e]
    · simp [hc]
  | n + 7 => simp
theorem bU_3 {s : Nat → Int32} {k : Nat} {v : Int32} (h : k < 10) : bOf (upd s (16 + k) v) = bU (bOf s) 3 k v := by
  funext a c
  simp only [bU, bOf, upd]
  match a with
  | 0 =>
    have e1 : ¬ 57 = 16 + k := by omega
    have e2 : ¬ 58 = 16 + k := by omega
    have e3 : ¬ 56 = 16 + k := by omega
    simp [e1, e2, e3]
  | 1 =>
    by_cases hc : c < 6
    · have e : ¬ c = 16 + k := by omega
      simp [hc, e]
    · simp [hc]
  | 2 =>
    by_cases hc : c < 10
    · have e : ¬ 6 + c = 16 + k := by omega
      simp [hc, e]
    · simp [hc]
  | 3 =>
    by_cases hc : c = k
    · subst hc; simp [h]
    · have e : ¬ 16 + c = 16 + k := by omega
      simp [hc, e]
  | 4 =>
    by_cases hc : c < 10
    · have e : ¬ 26 + c = 16 + k := by omega
      simp [hc, e]
    · simp [hc]
  | 5 =>
    by_cases hc : c < 10
    · have e : ¬ 36 + c = 16 + k := by omega
      simp [hc, e]
    · simp [hc]
  | 6 =>
    by_cases hc : c < 10
    · have e : ¬ 46 + c = 16 + k := by omega
      simp [hc, e]
    · simp [hc]
  | n + 7 => simp
theorem bU_4 {s : Nat → Int32} {k : Nat} {v : Int32} (h : k < 10) : bOf (upd s (26 + k) v) = bU (bOf s) 4 k v := by
  funext a c
  simp only [bU, bOf, upd]
  match a with
  | 0 =>
    have e1 : ¬ 57 = 26 + k := by omega
    have e2 : ¬ 58 = 26 + k := by omega
    have e3 : ¬ 56 = 26 + k := by omega
    simp [e1, e2, e3]
  | 1 =>
    by_cases hc : c < 6
    · have e : ¬ c = 26 + k := by omega
      simp [hc, e]
    · simp [hc]
  | 2 =>
    by_cases hc : c < 10
    · have e : ¬ 6 + c = 26 + k := by omega
      simp [hc, e]
    · simp [hc]
  | 3 =>
    by_cases hc : c < 10
    · have e : ¬ 16 + c = 26 + k := by omega
      simp [hc, e]
    · simp [hc]
  | 4 =>
    by_cases hc : c = k
    · subst hc; simp [h]
    · have e : ¬ 26 + c = 26 + k := by omega
      simp [hc, e]
  | 5 =>
    by_cases hc : c < 10
    · have e : ¬ 36 + c = 26 + k := by omega
      simp [hc, e]
    · simp [hc]
  | 6 =>
    by_cases hc : c < 10
    · have e : ¬ 46 + c = 26 + k := by omega
      simp [hc, e]
    · simp [hc]
  | n + 7 => simp
theorem bU_5 {s : Nat → Int32} {k : Nat} {v : Int32} (h : k < 10) : bOf (upd s (36 + k) v) = bU (bOf s) 5 k v := by
  funext a c
  simp only [bU, bOf, upd]
  match a with
  | 0 =>
    have e1 : ¬ 57 = 36 + k := by omega
    have e2 : ¬ 58 = 36 + k := by omega
    have e3 : ¬ 56 = 36 + k := by omega
    simp [e1, e2, e3]
  | 1 =>
    by_cases hc : c < 6
    · have e : ¬ c = 36 + k := by omega
      simp [hc, e]
    · simp [hc]
  | 2 =>
    by_cases hc : c < 10
    · have e : ¬ 6 + c = 36 + k := by omega
      simp [hc, e]
    · simp [hc]
  | 3 =>
    by_cases hc : c < 10
    · have e : ¬ 16 + c = 36 + k := by omega
      simp [hc, e]
    · simp [hc]
  | 4 =>
    by_cases hc : c < 10
    · have e : ¬ 26 + c = 36 + k := by omega
      simp [hc, e]
    · simp [hc]
  | 5 =>
    by_cases hc : c = k
    · subst hc; simp [h]
    · have e : ¬ 36 + c = 36 + k := by omega
      simp [hc, e]
  | 6 =>
    by_cases hc : c < 10
    · have e : ¬ 46 + c = 36 + k := by omega
      simp [hc, e]
    · simp [hc]
  | n + 7 => simp
theorem bU_6 {s : Nat → Int32} {k : Nat} {v : Int32} (h : k < 10) : bOf (upd s (46 + k) v) = bU (bOf s) 6 k v := by
  funext a c
  simp only [bU, bOf, upd]
  match a with
  | 0 =>
    have e1 : ¬ 57 = 46 + k := by omega
    have e2 : ¬ 58 = 46 + k := by omega
    have e3 : ¬ 56 = 46 + k := by omega
    simp [e1, e2, e3]
  | 1 =>
    by_cases hc : c < 6
    · have e : ¬ c = 46 + k := by omega
      simp [hc, e]
    · simp [hc]
  | 2 =>
    by_cases hc : c < 10
    · have e : ¬ 6 + c = 46 + k := by omega
      simp [hc, e]
    · simp [hc]
  | 3 =>
    by_cases hc : c < 10
    · have e : ¬ 16 + c = 46 + k := by omega
      simp [hc, e]
    · simp [hc]
  | 4 =>
    by_cases hc : c < 10
    · have e : ¬ 26 + c = 46 + k := by omega
      simp [hc, e]
    · simp [hc]
  | 5 =>
    by_cases hc : c < 10
    · have e : ¬ 36 + c = 46 + k := by omega
      simp [hc, e]
    · simp [hc]
  | 6 =>
    by_cases hc : c = k
    · subst hc; simp [h]
    · have e : ¬ 46 + c = 46 + k := by omega
      simp [hc, e]
  | n + 7 => simp
theorem bU_00 {s : Nat → Int32} {v : Int32} : bOf (upd s 57 v) = bU (bOf s) 0 0 v := by
  funext a c
  simp only [bU, bOf, upd]
  match a with
  | 0 =>
    by_cases h0 : c = 0
    · subst h0; simp
    · by_cases h1 : c = 1
      · subst h1; simp
      · by_cases h2 : c = 2
        · subst h2; simp
        · simp [h0, h1, h2]
  | 1 =>
    by_cases hc : c < 6
    · have e : ¬ c = 57 := by omega
      simp [hc, e]
    · simp [hc]
  | 2 =>
    by_cases hc : c < 10
    · have e : ¬ 6 + c = 57 := by omega
      simp [hc, e]
    · simp [hc]
  | 3 =>
    by_cases hc : c < 10
    · have e : ¬ 16 + c = 57 := by omega
      simp [hc, e]
    · simp [hc]
  | 4 =>
    by_cases hc : c < 10
    · have e : ¬ 26 + c = 57 := by omega
      simp [hc, e]
    · simp [hc]
  | 5 =>
    by_cases hc : c < 10
    · have e : ¬ 36 + c = 57 := by omega
      simp [hc, e]
    · simp [hc]
  | 6 =>
    by_cases hc : c < 10
    · have e : ¬ 46 + c = 57 := by omega
      simp [hc, e]
    · simp [hc]
  | n + 7 => simp
theorem bU_01 {s : Nat → Int32} {v : Int32} : bOf (upd s 58 v) = bU (bOf s) 0 1 v := by
  funext a c
  simp only [bU, bOf, upd]
  match a with
  | 0 =>
    by_cases h0 : c = 0
    · subst h0; simp
    · by_cases h1 : c = 1
      · subst h1; simp
      · by_cases h2 : c = 2
        · subst h2; simp
        · simp [h0, h1, h2]
  | 1 =>
    by_cases hc : c < 6
    · have e : ¬ c = 58 := by omega
      simp [hc, e]
    · simp [hc]
  | 2 =>
    by_cases hc : c < 10
    · have e : ¬ 6 + c = 58 := by omega
      simp [hc, e]
    · simp [hc]
  | 3 =>
    by_cases hc : c < 10
    · have e : ¬ 16 + c = 58 := by omega
      simp [hc, e]
    · simp [hc]
  | 4 =>
    by_cases hc : c < 10
    · have e : ¬ 26 + c = 58 := by omega
      simp [hc, e]
    · simp [hc]
  | 5 =>
    by_cases hc : c < 10
    · have e : ¬ 36 + c = 58 := by omega
      simp [hc, e]
    · simp [hc]
  | 6 =>
    by_cases hc : c < 10
    · have e : ¬ 46 + c = 58 := by omega
      simp [hc, e]
    · simp [hc]
  | n + 7 => simp
theorem bU_02 {s : Nat → Int32} {v : Int32} : bOf (upd s 56 v) = bU (bOf s) 0 2 v := by
  funext a c
  simp only [bU, bOf, upd]
  match a with
  | 0 =>
    by_cases h0 : c = 0
    · subst h0; simp
    · by_cases h1 : c = 1
      · subst h1; simp
      · by_cases h2 : c = 2
        · subst h2; simp
        · simp [h0, h1, h2]
  | 1 =>
    by_cases hc : c < 6
    · have e : ¬ c = 56 := by omega
      simp [hc, e]
    · simp [hc]
  | 2 =>
    by_cases hc : c < 10
    · have e : ¬ 6 + c = 56 := by omega
      simp [hc, e]
    · simp [hc]
  | 3 =>
    by_cases hc : c < 10
    · have e : ¬ 16 + c = 56 := by omega
      simp [hc, e]
    · simp [hc]
  | 4 =>
    by_cases hc : c < 10
    · have e : ¬ 26 + c = 56 := by omega
      simp [hc, e]
    · simp [hc]
  | 5 =>
    by_cases hc : c < 10
    · have e : ¬ 36 + c = 56 := by omega
      simp [hc, e]
    · simp [hc]
  | 6 =>
    by_cases hc : c < 10
    · have e : ¬ 46 + c = 56 := by omega
      simp [hc, e]
    · simp [hc]
  | n + 7 => simp
