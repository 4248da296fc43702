/-! a custom of the reference, by its block q -/
def cuB (μ : zM) (q : Nat) : zB := fun j k => match j with
  | 0 => if k = 0 then μ.1 36 0 q else if k = 1 then μ.1 37 0 q else if k = 2 then μ.1 38 0 q else if k = 3 then μ.1 39 0 q else 0
  | 1 => if k < 4 then μ.1 42 0 (4 * q + k) else 0
  | 2 => if k < 4 then μ.1 43 0 (4 * q + k) else 0
  | 3 => if k < 6 then μ.1 44 0 (6 * q + k) else 0
  | 4 => if k < 10 then μ.1 45 0 (10 * q + k) else 0
  | 5 => if k < 10 then μ.1 46 0 (10 * q + k) else 0
  | 6 => if k < 10 then μ.1 47 0 (10 * q + k) else 0
  | 7 => if k < 10 then μ.1 48 0 (10 * q + k) else 0
  | 8 => if k < 10 then μ.1 49 0 (10 * q + k) else 0
  | 9 => if k < 10 then μ.1 50 0 (10 * q + k) else 0
  | 10 => if k < 10 then μ.1 51 0 (10 * q + k) else 0
  | 11 => if k < 10 then μ.1 52 0 (10 * q + k) else 0
  | 12 => if k < 8 then μ.1 53 0 (8 * q + k) else 0
  | 13 => if k < 8 then μ.1 54 0 (8 * q + k) else 0
  | _ => 0
theorem cb00 (μ : zM) (q : Nat) : cuB μ q 0 0 = μ.1 36 0 q := rfl
theorem cbw00 (μ : zM) (q : Nat) (v : Int32) : cuB (pI μ 36 0 q v) q = bU (cuB μ q) 0 0 v := by
  funext a i
  match a with
  | 0 =>
    show (if i = 0 then (pI μ 36 0 q v).1 36 0 q else if i = 1 then (pI μ 36 0 q v).1 37 0 q else if i = 2 then (pI μ 36 0 q v).1 38 0 q else if i = 3 then (pI μ 36 0 q v).1 39 0 q else 0) = (if 0 = 0 ∧ i = 0 then v else (if i = 0 then μ.1 36 0 q else if i = 1 then μ.1 37 0 q else if i = 2 then μ.1 38 0 q else if i = 3 then μ.1 39 0 q else 0))
    simp only [pI]
    by_cases h0 : i = 0
    · subst h0; simp
    · by_cases h1 : i = 1
      · subst h1; simp
      · by_cases h2 : i = 2
        · subst h2; simp
        · by_cases h3 : i = 3
          · subst h3; simp
          · simp [h0, h1, h2, h3]
  | 1 =>
    rw [bU_ne _ _ (by omega)]
    show (if i < 4 then (pI μ 36 0 q v).1 42 0 (4 * q + i) else 0) = (if i < 4 then μ.1 42 0 (4 * q + i) else 0)
    rw [pI_other _ _ _ _ _ _ (by decide)]
  | 2 =>
    rw [bU_ne _ _ (by omega)]
    show (if i < 4 then (pI μ 36 0 q v).1 43 0 (4 * q + i) else 0) = (if i < 4 then μ.1 43 0 (4 * q + i) else 0)
    rw [pI_other _ _ _ _ _ _ (by decide)]
  | 3 =>
    rw [bU_ne _ _ (by omega)]
    show (if i < 6 then (pI μ 36 0 q v).1 44 0 (6 * q + i) else 0) = (if i < 6 then μ.1 44 0 (6 * q + i) else 0)
    rw [pI_other _ _ _ _ _ _ (by decide)]
  | 4 =>
    rw [bU_ne _ _ (by omega)]
    show (if i < 10 then (pI μ 36 0 q v).1 45 0 (10 * q + i) else 0) = (if i < 10 then μ.1 45 0 (10 * q + i) else 0)
    rw [pI_other _ _ _ _ _ _ (by decide)]
  | 5 =>
    rw [bU_ne _ _ (by omega)]
    show (if i < 10 then (pI μ 36 0 q v).1 46 0 (10 * q + i) else 0) = (if i < 10 then μ.1 46 0 (10 * q + i) else 0)
    rw [pI_other _ _ _ _ _ _ (by decide)]
  | 6 =>
    rw [bU_ne _ _ (by omega)]
    show (if i < 10 then (pI μ 36 0 q v).1 47 0 (10 * q + i) else 0) = (if i < 10 then μ.1 47 0 (10 * q + i) else 0)
    rw [pI_other _ _ _ _ _ _ (by decide)]
  | 7 =>
    rw [bU_ne _ _ (by omega)]
    show (if i < 10 then (pI μ 36 0 q v).1 48 0 (10 * q + i) else 0) = (if i < 10 then μ.1 48 0 (10 * q + i) else 0)
    rw [pI_other _ _ _ _ _ _ (by decide)]
  | 8 =>
    rw [bU_ne _ _ (by omega)]
    show (if i < 10 then (pI μ 36 0 q v).1 49 0 (10 * q + i) else 0) = (if i < 10 then μ.1 49 0 (10 * q + i) else 0)
    rw [pI_other _ _ _ _ _ _ (by decide)]
  | 9 =>
    rw [bU_ne _ _ (by omega)]
    show (if i < 10 then (pI μ 36 0 q v).1 50 0 (10 * q + i) else 0) = (if i < 10 then μ.1 50 0 (10 * q + i) else 0)
    rw [pI_other _ _ _ _ _ _ (by decide)]
  | 10 =>
    rw [bU_ne _ _ (by omega)]
    show (if i < 10 then (pI μ 36 0 q v).1 51 0 (10 * q + i) else 0) = (if i < 10 then μ.1 51 0 (10 * q + i) else 0)
    rw [pI_other _ _ _ _ _ _ (by decide)]
  | 11 =>
    rw [bU_ne _ _ (by omega)]
    show (if i < 10 then (pI μ 36 0 q v).1 52 0 (10 * q + i) else 0) = (if i < 10 then μ.1 52 0 (10 * q + i) else 0)
    rw [pI_other _ _ _ _ _ _ (by decide)]
  | 12 =>
    rw [bU_ne _ _ (by omega)]
    show (if i < 8 then (pI μ 36 0 q v).1 53 0 (8 * q + i) else 0) = (if i < 8 then μ.1 53 0 (8 * q + i) else 0)
    rw [pI_other _ _ _ _ _ _ (by decide)]
  | 13 =>
    rw [bU_ne _ _ (by omega)]
    show (if i < 8 then (pI μ 36 0 q v).1 54 0 (8 * q + i) else 0) = (if i < 8 then μ.1 54 0 (8 * q + i) else 0)
    rw [pI_other _ _ _ _ _ _ (by decide)]
  | m + 14 =>
    rw [bU_ne _ _ (by omega)]; rfl
theorem cb01 (μ : zM) (q : Nat) : cuB μ q 0 1 = μ.1 37 0 q := rfl
theorem cbw01 (μ : zM) (q : Nat) (v : Int32) : cuB (pI μ 37 0 q v) q = bU (cuB μ q) 0 1 v := by
  funext a i
  match a with
  | 0 =>
    show (if i = 0 then (pI μ 37 0 q v).1 36 0 q else if i = 1 then (pI μ 37 0 q v).1 37 0 q else if i = 2 then (pI μ 37 0 q v).1 38 0 q else if i = 3 then (pI μ 37 0 q v).1 39 0 q else 0) = (if 0 = 0 ∧ i = 1 then v else (if i = 0 then μ.1 36 0 q else if i = 1 then μ.1 37 0 q else if i = 2 then μ.1 38 0 q else if i = 3 then μ.1 39 0 q else 0))
    simp only [pI]
    by_cases h0 : i = 0
    · subst h0; simp
    · by_cases h1 : i = 1
      · subst h1; simp
      · by_cases h2 : i = 2
        · subst h2; simp
        · by_cases h3 : i = 3
          · subst h3; simp
          · simp [h0, h1, h2, h3]
  | 1 =>
    rw [bU_ne _ _ (by omega)]
    show (if i < 4 then (pI μ 37 0 q v).1 42 0 (4 * q + i) else 0) = (if i < 4 then μ.1 42 0 (4 * q + i) else 0)
    rw [pI_other _ _ _ _ _ _ (by decide)]
  | 2 =>
    rw [bU_ne _ _ (by omega)]
    show (if i < 4 then (pI μ 37 0 q v).1 43 0 (4 * q + i) else 0) = (if i < 4 then μ.1 43 0 (4 * q + i) else 0)
    rw [pI_other _ _ _ _ _ _ (by decide)]
  | 3 =>
    rw [bU_ne _ _ (by omega)]
    show (if i < 6 then (pI μ 37 0 q v).1 44 0 (6 * q + i) else 0) = (if i < 6 then μ.1 44 0 (6 * q + i) else 0)
    rw [pI_other _ _ _ _ _ _ (by decide)]
  | 4 =>
    rw [bU_ne _ _ (by omega)]
    show (if i < 10 then (pI μ 37 0 q v).1 45 0 (10 * q + i) else 0) = (if i < 10 then μ.1 45 0 (10 * q + i) else 0)
    rw [pI_other _ _ _ _ _ _ (by decide)]
  | 5 =>
    rw [bU_ne _ _ (by omega)]
    show (if i < 10 then (pI μ 37 0 q v).1 46 0 (10 * q + i) else 0) = (if i < 10 then μ.1 46 0 (10 * q + i) else 0)
    rw [pI_other _ _ _ _ _ _ (by decide)]
  | 6 =>
    rw [bU_ne _ _ (by omega)]
    show (if i < 10 then (pI μ 37 0 q v).1 47 0 (10 * q + i) else 0) = (if i < 10 then μ.1 47 0 (10 * q + i) else 0)
    rw [pI_other _ _ _ _ _ _ (by decide)]
  | 7 =>
    rw [bU_ne _ _ (by omega)]
    show (if i < 10 then (pI μ 37 0 q v).1 48 0 (10 * q + i) else 0) = (if i < 10 then μ.1 48 0 (10 * q + i) else 0)
    rw [pI_other _ _ _ _ _ _ (by decide)]
  | 8 =>
    rw [bU_ne _ _ (by omega)]
    show (if i < 10 then (pI μ 37 0 q v).1 49 0 (10 * q + i) else 0) = (if i < 10 then μ.1 49 0 (10 * q + i) else 0)
    rw [pI_other _ _ _ _ _ _ (by decide)]
  | 9 =>
    rw [bU_ne _ _ (by omega)]
    show (if i < 10 then (pI μ 37 0 q v).1 50 0 (10 * q + i) else 0) = (if i < 10 then μ.1 50 0 (10 * q + i) else 0)
    rw [pI_other _ _ _ _ _ _ (by decide)]
  | 10 =>
    rw [bU_ne _ _ (by omega)]
    show (if i < 10 then (pI μ 37 0 q v).1 51 0 (10 * q + i) else 0) = (if i < 10 then μ.1 51 0 (10 * q + i) else 0)
    rw [pI_other _ _ _ _ _ _ (by decide)]
  | 11 =>
    rw [bU_ne _ _ (by omega)]
    show (if i < 10 then (pI μ 37 0 q v).1 52 0 (10 * q + i) else 0) = (if i < 10 then μ.1 52 0 (10 * q + i) else 0)
    rw [pI_other _ _ _ _ _ _ (by decide)]
  | 12 =>
    rw [bU_ne _ _ (by omega)]
    show (if i < 8 then (pI μ 37 0 q v).1 53 0 (8 * q + i) else 0) = (if i < 8 then μ.1 53 0 (8 * q + i) else 0)
    rw [pI_other _ _ _ _ _ _ (by decide)]
  | 13 =>
    rw [bU_ne _ _ (by omega)]
    show (if i < 8 then (pI μ 37 0 q v).1 54 0 (8 * q + i) else 0) = (if i < 8 then μ.1 54 0 (8 * q + i) else 0)
    rw [pI_other _ _ _ _ _ _ (by decide)]
  | m + 14 =>
    rw [bU_ne _ _ (by omega)]; rfl
theorem cb02 (μ : zM) (q : Nat) : cuB μ q 0 2 = μ.1 38 0 q := rfl
theorem cbw02 (μ : zM) (q : Nat) (v : Int32) : cuB (pI μ 38 0 q v) q = bU (cuB μ q) 0 2 v := by
  funext a i
  match a with
  | 0 =>
    show (if i = 0 then (pI μ 38 0 q v).1 36 0 q else if i = 1 then (pI μ 38 0 q v).1 37 0 q else if i = 2 then (pI μ 38 0 q v).1 38 0 q else if i = 3 then (pI μ 38 0 q v).1 39 0 q else 0) = (if 0 = 0 ∧ i = 2 then v else (if i = 0 then μ.1 36 0 q else if i = 1 then μ.1 37 0 q else if i = 2 then μ.1 38 0 q else if i = 3 then μ.1 39 0 q else 0))
    simp only [pI]
    by_cases h0 : i = 0
    · subst h0; simp
    · by_cases h1 : i = 1
      · subst h1; simp
      · by_cases h2 : i = 2
        · subst h2; simp
        · by_cases h3 : i = 3
          · subst h3; simp
          · simp [h0, h1, h2, h3]
  | 1 =>
    rw [bU_ne _ _ (by omega)]
    show (if i < 4 then (pI μ 38 0 q v).1 42 0 (4 * q + i) else 0) = (if i < 4 then μ.1 42 0 (4 * q + i) else 0)
    rw [pI_other _ _ _ _ _ _ (by decide)]
  | 2 =>
    rw [bU_ne _ _ (by omega)]
    show (if i < 4 then (pI μ 38 0 q v).1 43 0 (4 * q + i) else 0) = (if i < 4 then μ.1 43 0 (4 * q + i) else 0)
    rw [pI_other _ _ _ _ _ _ (by decide)]
  | 3 =>
    rw [bU_ne _ _ (by omega)]
    show (if i < 6 then (pI μ 38 0 q v).1 44 0 (6 * q + i) else 0) = (if i < 6 then μ.1 44 0 (6 * q + i) else 0)
    rw [pI_other _ _ _ _ _ _ (by decide)]
  | 4 =>
    rw [bU_ne _ _ (by omega)]
    show (if i < 10 then (pI μ 38 0 q v).1 45 0 (10 * q + i) else 0) = (if i < 10 then μ.1 45 0 (10 * q + i) else 0)
    rw [pI_other _ _ _ _ _ _ (by decide)]
  | 5 =>
    rw [bU_ne _ _ (by omega)]
    show (if i < 10 then (pI μ 38 0 q v).1 46 0 (10 * q + i) else 0) = (if i < 10 then μ.1 46 0 (10 * q + i) else 0)
    rw [pI_other _ _ _ _ _ _ (by decide)]
  | 6 =>
    rw [bU_ne _ _ (by omega)]
    show (if i < 10 then (pI μ 38 0 q v).1 47 0 (10 * q + i) else 0) = (if i < 10 then μ.1 47 0 (10 * q + i) else 0)
    rw [pI_other _ _ _ _ _ _ (by decide)]
  | 7 =>
    rw [bU_ne _ _ (by omega)]
    show (if i < 10 then (pI μ 38 0 q v).1 48 0 (10 * q + i) else 0) = (if i < 10 then μ.1 48 0 (10 * q + i) else 0)
    rw [pI_other _ _ _ _ _ _ (by decide)]
  | 8 =>
    rw [bU_ne _ _ (by omega)]
    show (if i < 10 then (pI μ 38 0 q v).1 49 0 (10 * q + i) else 0) = (if i < 10 then μ.1 49 0 (10 * q + i) else 0)
    rw [pI_other _ _ _ _ _ _ (by decide)]
  | 9 =>
    rw [bU_ne _ _ (by omega)]
    show (if i < 10 then (pI μ 38 0 q v).1 50 0 (10 * q + i) else 0) = (if i < 10 then μ.1 50 0 (10 * q + i) else 0)
    rw [pI_other _ _ _ _ _ _ (by decide)]
  | 10 =>
    rw [bU_ne _ _ (by omega)]
    show (if i < 10 then (pI μ 38 0 q v).1 51 0 (10 * q + i) else 0) = (if i < 10 then μ.1 51 0 (10 * q + i) else 0)
    rw [pI_other _ _ _ _ _ _ (by decide)]
  | 11 =>
    rw [bU_ne _ _ (by omega)]
    show (if i < 10 then (pI μ 38 0 q v).1 52 0 (10 * q + i) else 0) = (if i < 10 then μ.1 52 0 (10 * q + i) else 0)
    rw [pI_other _ _ _ _ _ _ (by decide)]
  | 12 =>
    rw [bU_ne _ _ (by omega)]
    show (if i < 8 then (pI μ 38 0 q v).1 53 0 (8 * q + i) else 0) = (if i < 8 then μ.1 53 0 (8 * q + i) else 0)
    rw [pI_other _ _ _ _ _ _ (by decide)]
  | 13 =>
    rw [bU_ne _ _ (by omega)]
    show (if i < 8 then (pI μ 38 0 q v).1 54 0 (8 * q + i) else 0) = (if i < 8 then μ.1 54 0 (8 * q + i) else 0)
    rw [pI_other _ _ _ _ _ _ (by decide)]
  | m + 14 =>
    rw [bU_ne _ _ (by omega)]; rfl
theorem cb03 (μ : zM) (q : Nat) : cuB μ q 0 3 = μ.1 39 0 q := rfl
theorem cbw03 (μ : zM) (q : Nat) (v : Int32) : cuB (pI μ 39 0 q v) q = bU (cuB μ q) 0 3 v := by
  funext a i
  match a with
  | 0 =>
    show (if i = 0 then (pI μ 39 0 q v).1 36 0 q else if i = 1 then (pI μ 39 0 q v).1 37 0 q else if i = 2 then (pI μ 39 0 q v).1 38 0 q else if i = 3 then (pI μ 39 0 q v).1 39 0 q else 0) = (if 0 = 0 ∧ i = 3 then v else (if i = 0 then μ.1 36 0 q else if i = 1 then μ.1 37 0 q else if i = 2 then μ.1 38 0 q else if i = 3 then μ.1 39 0 q else 0))
    simp only [pI]
    by_cases h0 : i = 0
    · subst h0; simp
    · by_cases h1 : i = 1
      · subst h1; simp
      · by_cases h2 : i = 2
        · subst h2; simp
        · by_cases h3 : i = 3
          · subst h3; simp
          · simp [h0, h1, h2, h3]
  | 1 =>
    rw [bU_ne _ _ (by omega)]
    show (if i < 4 then (pI μ 39 0 q v).1 42 0 (4 * q + i) else 0) = (if i < 4 then μ.1 42 0 (4 * q + i) else 0)
    rw [pI_other _ _ _ _ _ _ (by decide)]
  | 2 =>
    rw [bU_ne _ _ (by omega)]
    show (if i < 4 then (pI μ 39 0 q v).1 43 0 (4 * q + i) else 0) = (if i < 4 then μ.1 43 0 (4 * q + i) else 0)
    rw [pI_other _ _ _ _ _ _ (by decide)]
  | 3 =>
    rw [bU_ne _ _ (by omega)]
    show (if i < 6 then (pI μ 39 0 q v).1 44 0 (6 * q + i) else 0) = (if i < 6 then μ.1 44 0 (6 * q + i) else 0)
    rw [pI_other _ _ _ _ _ _ (by decide)]
  | 4 =>
    rw [bU_ne _ _ (by omega)]
    show (if i < 10 then (pI μ 39 0 q v).1 45 0 (10 * q + i) else 0) = (if i < 10 then μ.1 45 0 (10 * q + i) else 0)
    rw [pI_other _ _ _ _ _ _ (by decide)]
  | 5 =>
    rw [bU_ne _ _ (by omega)]
    show (if i < 10 then (pI μ 39 0 q v).1 46 0 (10 * q + i) else 0) = (if i < 10 then μ.1 46 0 (10 * q + i) else 0)
    rw [pI_other _ _ _ _ _ _ (by decide)]
  | 6 =>
    rw [bU_ne _ _ (by omega)]
    show (if i < 10 then (pI μ 39 0 q v).1 47 0 (10 * q + i) else 0) = (if i < 10 then μ.1 47 0 (10 * q + i) else 0)
    rw [pI_other _ _ _ _ _ _ (by decide)]
  | 7 =>
    rw [bU_ne _ _ (by omega)]
    show (if i < 10 then (pI μ 39 0 q v).1 48 0 (10 * q + i) else 0) = (if i < 10 then μ.1 48 0 (10 * q + i) else 0)
    rw [pI_other _ _ _ _ _ _ (by decide)]
  | 8 =>
    rw [bU_ne _ _ (by omega)]
    show (if i < 10 then (pI μ 39 0 q v).1 49 0 (10 * q + i) else 0) = (if i < 10 then μ.1 49 0 (10 * q + i) else 0)
    rw [pI_other _ _ _ _ _ _ (by decide)]
  | 9 =>
    rw [bU_ne _ _ (by omega)]
    show (if i < 10 then (pI μ 39 0 q v).1 50 0 (10 * q + i) else 0) = (if i < 10 then μ.1 50 0 (10 * q + i) else 0)
    rw [pI_other _ _ _ _ _ _ (by decide)]
  | 10 =>
    rw [bU_ne _ _ (by omega)]
    show (if i < 10 then (pI μ 39 0 q v).1 51 0 (10 * q + i) else 0) = (if i < 10 then μ.1 51 0 (10 * q + i) else 0)
    rw [pI_other _ _ _ _ _ _ (by decide)]
  | 11 =>
    rw [bU_ne _ _ (by omega)]
    show (if i < 10 then (pI μ 39 0 q v).1 52 0 (10 * q + i) else 0) = (if i < 10 then μ.1 52 0 (10 * q + i) else 0)
    rw [pI_other _ _ _ _ _ _ (by decide)]
  | 12 =>
    rw [bU_ne _ _ (by omega)]
    show (if i < 8 then (pI μ 39 0 q v).1 53 0 (8 * q + i) else 0) = (if i < 8 then μ.1 53 0 (8 * q + i) else 0)
    rw [pI_other _ _ _ _ _ _ (by decide)]
  | 13 =>
    rw [bU_ne _ _ (by omega)]
    show (if i < 8 then (pI μ 39 0 q v).1 54 0 (8 * q + i) else 0) = (if i < 8 then μ.1 54 0 (8 * q + i) else 0)
    rw [pI_other _ _ _ _ _ _ (by decide)]
  | m + 14 =>
    rw [bU_ne _ _ (by omega)]; rfl
theorem cb1 (μ : zM) (q : Nat) {i : Nat} (h : i < 4) : cuB μ q 1 i = μ.1 42 0 (4 * q + i) := if_pos h
theorem cbw1 (μ : zM) (q : Nat) {l : Nat} (v : Int32) (h : l < 4) : cuB (pI μ 42 0 (4 * q + l) v) q = bU (cuB μ q) 1 l v := by
  funext a i
  match a with
  | 0 =>
    rw [bU_ne _ _ (by omega)]
    show (if i = 0 then (pI μ 42 0 (4 * q + l) v).1 36 0 q else if i = 1 then (pI μ 42 0 (4 * q + l) v).1 37 0 q else if i = 2 then (pI μ 42 0 (4 * q + l) v).1 38 0 q else if i = 3 then (pI μ 42 0 (4 * q + l) v).1 39 0 q else 0) = (if i = 0 then μ.1 36 0 q else if i = 1 then μ.1 37 0 q else if i = 2 then μ.1 38 0 q else if i = 3 then μ.1 39 0 q else 0)
    rw [pI_other _ _ _ _ _ _ (by decide), pI_other _ _ _ _ _ _ (by decide), pI_other _ _ _ _ _ _ (by decide), pI_other _ _ _ _ _ _ (by decide)]
  | 1 =>
    show (if i < 4 then (pI μ 42 0 (4 * q + l) v).1 42 0 (4 * q + i) else 0) = (if 1 = 1 ∧ i = l then v else (if i < 4 then μ.1 42 0 (4 * q + i) else 0))
    by_cases hi : i = l
    · subst hi; rw [if_pos h, pI_at]; simp
    · rw [pI_place _ _ _ _ (by omega)]; simp [hi]
  | 2 =>
    rw [bU_ne _ _ (by omega)]
    show (if i < 4 then (pI μ 42 0 (4 * q + l) v).1 43 0 (4 * q + i) else 0) = (if i < 4 then μ.1 43 0 (4 * q + i) else 0)
    rw [pI_other _ _ _ _ _ _ (by decide)]
  | 3 =>
    rw [bU_ne _ _ (by omega)]
    show (if i < 6 then (pI μ 42 0 (4 * q + l) v).1 44 0 (6 * q + i) else 0) = (if i < 6 then μ.1 44 0 (6 * q + i) else 0)
    rw [pI_other _ _ _ _ _ _ (by decide)]
  | 4 =>
    rw [bU_ne _ _ (by omega)]
    show (if i < 10 then (pI μ 42 0 (4 * q + l) v).1 45 0 (10 * q + i) else 0) = (if i < 10 then μ.1 45 0 (10 * q + i) else 0)
    rw [pI_other _ _ _ _ _ _ (by decide)]
  | 5 =>
    rw [bU_ne _ _ (by omega)]
    show (if i < 10 then (pI μ 42 0 (4 * q + l) v).1 46 0 (10 * q + i) else 0) = (if i < 10 then μ.1 46 0 (10 * q + i) else 0)
    rw [pI_other _ _ _ _ _ _ (by decide)]
  | 6 =>
    rw [bU_ne _ _ (by omega)]
    show (if i < 10 then (pI μ 42 0 (4 * q + l) v).1 47 0 (10 * q + i) else 0) = (if i < 10 then μ.1 47 0 (10 * q + i) else 0)
    rw [pI_other _ _ _ _ _ _ (by decide)]
  | 7 =>
    rw [bU_ne _ _ (by omega)]
    show (if i < 10 then (pI μ 42 0 (4 * q + l) v).1 48 0 (10 * q + i) else 0) = (if i < 10 then μ.1 48 0 (10 * q + i) else 0)
    rw [pI_other _ _ _ _ _ _ (by decide)]
  | 8 =>
    rw [bU_ne _ _ (by omega)]
    show (if i < 10 then (pI μ 42 0 (4 * q + l) v).1 49 0 (10 * q + i) else 0) = (if i < 10 then μ.1 49 0 (10 * q + i) else 0)
    rw [pI_other _ _ _ _ _ _ (by decide)]
  | 9 =>
    rw [bU_ne _ _ (by omega)]
    show (if i < 10 then (pI μ 42 0 (4 * q + l) v).1 50 0 (10 * q + i) else 0) = (if i < 10 then μ.1 50 0 (10 * q + i) else 0)
    rw [pI_other _ _ _ _ _ _ (by decide)]
  | 10 =>
    rw [bU_ne _ _ (by omega)]
    show (if i < 10 then (pI μ 42 0 (4 * q + l) v).1 51 0 (10 * q + i) else 0) = (if i < 10 then μ.1 51 0 (10 * q + i) else 0)
    rw [pI_other _ _ _ _ _ _ (by decide)]
  | 11 =>
    rw [bU_ne _ _ (by omega)]
    show (if i < 10 then (pI μ 42 0 (4 * q + l) v).1 52 0 (10 * q + i) else 0) = (if i < 10 then μ.1 52 0 (10 * q + i) else 0)
    rw [pI_other _ _ _ _ _ _ (by decide)]
  | 12 =>
    rw [bU_ne _ _ (by omega)]
    show (if i < 8 then (pI μ 42 0 (4 * q + l) v).1 53 0 (8 * q + i) else 0) = (if i < 8 then μ.1 53 0 (8 * q + i) else 0)
    rw [pI_other _ _ _ _ _ _ (by decide)]
  | 13 =>
    rw [bU_ne _ _ (by omega)]
    show (if i < 8 then (pI μ 42 0 (4 * q + l) v).1 54 0 (8 * q + i) else 0) = (if i < 8 then μ.1 54 0 (8 * q + i) else 0)
    rw [pI_other _ _ _ _ _ _ (by decide)]
  | m + 14 =>
    rw [bU_ne _ _ (by omega)]; rfl
theorem cb2 (μ : zM) (q : Nat) {i : Nat} (h : i < 4) : cuB μ q 2 i = μ.1 43 0 (4 * q + i) := if_pos h
theorem cbw2 (μ : zM) (q : Nat) {l : Nat} (v : Int32) (h : l < 4) : cuB (pI μ 43 0 (4 * q + l) v) q = bU (cuB μ q) 2 l v := by
  funext a i
  match a with
  | 0 =>
    rw [bU_ne _ _ (by omega)]
    show (if i = 0 then (pI μ 43 0 (4 * q + l) v).1 36 0 q else if i = 1 then (pI μ 43 0 (4 * q + l) v).1 37 0 q else if i = 2 then (pI μ 43 0 (4 * q + l) v).1 38 0 q else if i = 3 then (pI μ 43 0 (4 * q + l) v).1 39 0 q else 0) = (if i = 0 then μ.1 36 0 q else if i = 1 then μ.1 37 0 q else if i = 2 then μ.1 38 0 q else if i = 3 then μ.1 39 0 q else 0)
    rw [pI_other _ _ _ _ _ _ (by decide), pI_other _ _ _ _ _ _ (by decide), pI_other _ _ _ _ _ _ (by decide), pI_other _ _ _ _ _ _ (by decide)]
  | 1 =>
    rw [bU_ne _ _ (by omega)]
    show (if i < 4 then (pI μ 43 0 (4 * q + l) v).1 42 0 (4 * q + i) else 0) = (if i < 4 then μ.1 42 0 (4 * q + i) else 0)
    rw [pI_other _ _ _ _ _ _ (by decide)]
  | 2 =>
    show (if i < 4 then (pI μ 43 0 (4 * q + l) v).1 43 0 (4 * q + i) else 0) = (if 2 = 2 ∧ i = l then v else (if i < 4 then μ.1 43 0 (4 * q + i) else 0))
    by_cases hi : i = l
    · subst hi; rw [if_pos h, pI_at]; simp
    · rw [pI_place _ _ _ _ (by omega)]; simp [hi]
  | 3 =>
    rw [bU_ne _ _ (by omega)]
    show (if i < 6 then (pI μ 43 0 (4 * q + l) v).1 44 0 (6 * q + i) else 0) = (if i < 6 then μ.1 44 0 (6 * q + i) else 0)
    rw [pI_other _ _ _ _ _ _ (by decide)]
  | 4 =>
    rw [bU_ne _ _ (by omega)]
    show (if i < 10 then (pI μ 43 0 (4 * q + l) v).1 45 0 (10 * q + i) else 0) = (if i < 10 then μ.1 45 0 (10 * q + i) else 0)
    rw [pI_other _ _ _ _ _ _ (by decide)]
  | 5 =>
    rw [bU_ne _ _ (by omega)]
    show (if i < 10 then (pI μ 43 0 (4 * q + l) v).1 46 0 (10 * q + i) else 0) = (if i < 10 then μ.1 46 0 (10 * q + i) else 0)
    rw [pI_other _ _ _ _ _ _ (by decide)]
  | 6 =>
    rw [bU_ne _ _ (by omega)]
    show (if i < 10 then (pI μ 43 0 (4 * q + l) v).1 47 0 (10 * q + i) else 0) = (if i < 10 then μ.1 47 0 (10 * q + i) else 0)
    rw [pI_other _ _ _ _ _ _ (by decide)]
  | 7 =>
    rw [bU_ne _ _ (by omega)]
    show (if i < 10 then (pI μ 43 0 (4 * q + l) v).1 48 0 (10 * q + i) else 0) = (if i < 10 then μ.1 48 0 (10 * q + i) else 0)
    rw [pI_other _ _ _ _ _ _ (by decide)]
  | 8 =>
    rw [bU_ne _ _ (by omega)]
    show (if i < 10 then (pI μ 43 0 (4 * q + l) v).1 49 0 (10 * q + i) else 0) = (if i < 10 then μ.1 49 0 (10 * q + i) else 0)
    rw [pI_other _ _ _ _ _ _ (by decide)]
  | 9 =>
    rw [bU_ne _ _ (by omega)]
    show (if i < 10 then (pI μ 43 0 (4 * q + l) v).1 50 0 (10 * q + i) else 0) = (if i < 10 then μ.1 50 0 (10 * q + i) else 0)
    rw [pI_other _ _ _ _ _ _ (by decide)]
  | 10 =>
    rw [bU_ne _ _ (by omega)]
    show (if i < 10 then (pI μ 43 0 (4 * q + l) v).1 51 0 (10 * q + i) else 0) = (if i < 10 then μ.1 51 0 (10 * q + i) else 0)
    rw [pI_other _ _ _ _ _ _ (by decide)]
  | 11 =>
    rw [bU_ne _ _ (by omega)]
    show (if i < 10 then (pI μ 43 0 (4 * q + l) v).1 52 0 (10 * q + i) else 0) = (if i < 10 then μ.1 52 0 (10 * q + i) else 0)
    rw [pI_other _ _ _ _ _ _ (by decide)]
  | 12 =>
    rw [bU_ne _ _ (by omega)]
    show (if i < 8 then (pI μ 43 0 (4 * q + l) v).1 53 0 (8 * q + i) else 0) = (if i < 8 then μ.1 53 0 (8 * q + i) else 0)
    rw [pI_other _ _ _ _ _ _ (by decide)]
  | 13 =>
    rw [bU_ne _ _ (by omega)]
    show (if i < 8 then (pI μ 43 0 (4 * q + l) v).1 54 0 (8 * q + i) else 0) = (if i < 8 then μ.1 54 0 (8 * q + i) else 0)
    rw [pI_other _ _ _ _ _ _ (by decide)]
  | m + 14 =>
    rw [bU_ne _ _ (by omega)]; rfl
theorem cb3 (μ : zM) (q : Nat) {i : Nat} (h : i < 6) : cuB μ q 3 i = μ.1 44 0 (6 * q + i) := if_pos h
theorem cbw3 (μ : zM) (q : Nat) {l : Nat} (v : Int32) (h : l < 6) : cuB (pI μ 44 0 (6 * q + l) v) q = bU (cuB μ q) 3 l v := by
  funext a i
  match a with
  | 0 =>
    rw [bU_ne _ _ (by omega)]
    show (if i = 0 then (pI μ 44 0 (6 * q + l) v).1 36 0 q else if i = 1 then (pI μ 44 0 (6 * q + l) v).1 37 0 q else if i = 2 then (pI μ 44 0 (6 * q + l) v).1 38 0 q else if i = 3 then (pI μ 44 0 (6 * q + l) v).1 39 0 q else 0) = (if i = 0 then μ.1 36 0 q else if i = 1 then μ.1 37 0 q else if i = 2 then μ.1 38 0 q else if i = 3 then μ.1 39 0 q else 0)
    rw [pI_other _ _ _ _ _ _ (by decide), pI_other _ _ _ _ _ _ (by decide), pI_other _ _ _ _ _ _ (by decide), pI_other _ _ _ _ _ _ (by decide)]
  | 1 =>
    rw [bU_ne _ _ (by omega)]
    show (if i < 4 then (pI μ 44 0 (6 * q + l) v).1 42 0 (4 * q + i) else 0) = (if i < 4 then μ.1 42 0 (4 * q + i) else 0)
    rw [pI_other _ _ _ _ _ _ (by decide)]
  | 2 =>
    rw [bU_ne _ _ (by omega)]
    show (if i < 4 then (pI μ 44 0 (6 * q + l) v).1 43 0 (4 * q + i) else 0) = (if i < 4 then μ.1 43 0 (4 * q + i) else 0)
    rw [pI_other _ _ _ _ _ _ (by decide)]
  | 3 =>
    show (if i < 6 then (pI μ 44 0 (6 * q + l) v).1 44 0 (6 * q + i) else 0) = (if 3 = 3 ∧ i = l then v else (if i < 6 then μ.1 44 0 (6 * q + i) else 0))
    by_cases hi : i = l
    · subst hi; rw [if_pos h, pI_at]; simp
    · rw [pI_place _ _ _ _ (by omega)]; simp [hi]
  | 4 =>
    rw [bU_ne _ _ (by omega)]
    show (if i < 10 then (pI μ 44 0 (6 * q + l) v).1 45 0 (10 * q + i) else 0) = (if i < 10 then μ.1 45 0 (10 * q + i) else 0)
    rw [pI_other _ _ _ _ _ _ (by decide)]
  | 5 =>
    rw [bU_ne _ _ (by omega)]
    show (if i < 10 then (pI μ 44 0 (6 * q + l) v).1 46 0 (10 * q + i) else 0) = (if i < 10 then μ.1 46 0 (10 * q + i) else 0)
    rw [pI_other _ _ _ _ _ _ (by decide)]
  | 6 =>
    rw [bU_ne _ _ (by omega)]
    show (if i < 10 then (pI μ 44 0 (6 * q + l) v).1 47 0 (10 * q + i) else 0) = (if i < 10 then μ.1 47 0 (10 * q + i) else 0)
    rw [pI_other _ _ _ _ _ _ (by decide)]
  | 7 =>
    rw [bU_ne _ _ (by omega)]
    show (if i < 10 then (pI μ 44 0 (6 * q + l) v).1 48 0 (10 * q + i) else 0) = (if i < 10 then μ.1 48 0 (10 * q + i) else 0)
    rw [pI_other _ _ _ _ _ _ (by decide)]
  | 8 =>
    rw [bU_ne _ _ (by omega)]
    show (if i < 10 then (pI μ 44 0 (6 * q + l) v).1 49 0 (10 * q + i) else 0) = (if i < 10 then μ.1 49 0 (10 * q + i) else 0)
    rw [pI_other _ _ _ _ _ _ (by decide)]
  | 9 =>
    rw [bU_ne _ _ (by omega)]
    show (if i < 10 then (pI μ 44 0 (6 * q + l) v).1 50 0 (10 * q + i) else 0) = (if i < 10 then μ.1 50 0 (10 * q + i) else 0)
    rw [pI_other _ _ _ _ _ _ (by decide)]
  | 10 =>
    rw [bU_ne _ _ (by omega)]
    show (if i < 10 then (pI μ 44 0 (6 * q + l) v).1 51 0 (10 * q + i) else 0) = (if i < 10 then μ.1 51 0 (10 * q + i) else 0)
    rw [pI_other _ _ _ _ _ _ (by decide)]
  | 11 =>
    rw [bU_ne _ _ (by omega)]
    show (if i < 10 then (pI μ 44 0 (6 * q + l) v).1 52 0 (10 * q + i) else 0) = (if i < 10 then μ.1 52 0 (10 * q + i) else 0)
    rw [pI_other _ _ _ _ _ _ (by decide)]
  | 12 =>
    rw [bU_ne _ _ (by omega)]
    show (if i < 8 then (pI μ 44 0 (6 * q + l) v).1 53 0 (8 * q + i) else 0) = (if i < 8 then μ.1 53 0 (8 * q + i) else 0)
    rw [pI_other _ _ _ _ _ _ (by decide)]
  | 13 =>
    rw [bU_ne _ _ (by omega)]
    show (if i < 8 then (pI μ 44 0 (6 * q + l) v).1 54 0 (8 * q + i) else 0) = (if i < 8 then μ.1 54 0 (8 * q + i) else 0)
    rw [pI_other _ _ _ _ _ _ (by decide)]
  | m + 14 =>
    rw [bU_ne _ _ (by omega)]; rfl
theorem cb4 (μ : zM) (q : Nat) {i : Nat} (h : i < 10) : cuB μ q 4 i = μ.1 45 0 (10 * q + i) := if_pos h
theorem cbw4 (μ : zM) (q : Nat) {l : Nat} (v : Int32) (h : l < 10) : cuB (pI μ 45 0 (10 * q + l) v) q = bU (cuB μ q) 4 l v := by
  funext a i
  match a with
  | 0 =>
    rw [bU_ne _ _ (by omega)]
    show (if i = 0 then (pI μ 45 0 (10 * q + l) v).1 36 0 q else if i = 1 then (pI μ 45 0 (10 * q + l) v).1 37 0 q else if i = 2 then (pI μ 45 0 (10 * q + l) v).1 38 0 q else if i = 3 then (pI μ 45 0 (10 * q + l) v).1 39 0 q else 0) = (if i = 0 then μ.1 36 0 q else if i = 1 then μ.1 37 0 q else if i = 2 then μ.1 38 0 q else if i = 3 then μ.1 39 0 q else 0)
    rw [pI_other _ _ _ _ _ _ (by decide), pI_other _ _ _ _ _ _ (by decide), pI_other _ _ _ _ _ _ (by decide), pI_other _ _ _ _ _ _ (by decide)]
  | 1 =>
    rw [bU_ne _ _ (by omega)]
    show (if i < 4 then (pI μ 45 0 (10 * q + l) v).1 42 0 (4 * q + i) else 0) = (if i < 4 then μ.1 42 0 (4 * q + i) else 0)
    rw [pI_other _ _ _ _ _ _ (by decide)]
  | 2 =>
    rw [bU_ne _ _ (by omega)]
    show (if i < 4 then (pI μ 45 0 (10 * q + l) v).1 43 0 (4 * q + i) else 0) = (if i < 4 then μ.1 43 0 (4 * q + i) else 0)
    rw [pI_other _ _ _ _ _ _ (by decide)]
  | 3 =>
    rw [bU_ne _ _ (by omega)]
    show (if i < 6 then (pI μ 45 0 (10 * q + l) v).1 44 0 (6 * q + i) else 0) = (if i < 6 then μ.1 44 0 (6 * q + i) else 0)
    rw [pI_other _ _ _ _ _ _ (by decide)]
  | 4 =>
    show (if i < 10 then (pI μ 45 0 (10 * q + l) v).1 45 0 (10 * q + i) else 0) = (if 4 = 4 ∧ i = l then v else (if i < 10 then μ.1 45 0 (10 * q + i) else 0))
    by_cases hi : i = l
    · subst hi; rw [if_pos h, pI_at]; simp
    · rw [pI_place _ _ _ _ (by omega)]; simp [hi]
  | 5 =>
    rw [bU_ne _ _ (by omega)]
    show (if i < 10 then (pI μ 45 0 (10 * q + l) v).1 46 0 (10 * q + i) else 0) = (if i < 10 then μ.1 46 0 (10 * q + i) else 0)
    rw [pI_other _ _ _ _ _ _ (by decide)]
  | 6 =>
    rw [bU_ne _ _ (by omega)]
    show (if i < 10 then (pI μ 45 0 (10 * q + l) v).1 47 0 (10 * q + i) else 0) = (if i < 10 then μ.1 47 0 (10 * q + i) else 0)
    rw [pI_other _ _ _ _ _ _ (by decide)]
  | 7 =>
    rw [bU_ne _ _ (by omega)]
    show (if i < 10 then (pI μ 45 0 (10 * q + l) v).1 48 0 (10 * q + i) else 0) = (if i < 10 then μ.1 48 0 (10 * q + i) else 0)
    rw [pI_other _ _ _ _ _ _ (by decide)]
  | 8 =>
    rw [bU_ne _ _ (by omega)]
    show (if i < 10 then (pI μ 45 0 (10 * q + l) v).1 49 0 (10 * q + i) else 0) = (if i < 10 then μ.1 49 0 (10 * q + i) else 0)
    rw [pI_other _ _ _ _ _ _ (by decide)]
  | 9 =>
    rw [bU_ne _ _ (by omega)]
    show (if i < 10 then (pI μ 45 0 (10 * q + l) v).1 50 0 (10 * q + i) else 0) = (if i < 10 then μ.1 50 0 (10 * q + i) else 0)
    rw [pI_other _ _ _ _ _ _ (by decide)]
  | 10 =>
    rw [bU_ne _ _ (by omega)]
    show (if i < 10 then (pI μ 45 0 (10 * q + l) v).1 51 0 (10 * q + i) else 0) = (if i < 10 then μ.1 51 0 (10 * q + i) else 0)
    rw [pI_other _ _ _ _ _ _ (by decide)]
  | 11 =>
    rw [bU_ne _ _ (by omega)]
    show (if i < 10 then (pI μ 45 0 (10 * q + l) v).1 52 0 (10 * q + i) else 0) = (if i < 10 then μ.1 52 0 (10 * q + i) else 0)
    rw [pI_other _ _ _ _ _ _ (by decide)]
  | 12 =>
    rw [bU_ne _ _ (by omega)]
    show (if i < 8 then (pI μ 45 0 (10 * q + l) v).1 53 0 (8 * q + i) else 0) = (if i < 8 then μ.1 53 0 (8 * q + i) else 0)
    rw [pI_other _ _ _ _ _ _ (by decide)]
  | 13 =>
    rw [bU_ne _ _ (by omega)]
    show (if i < 8 then (pI μ 45 0 (10 * q + l) v).1 54 0 (8 * q + i) else 0) = (if i < 8 then μ.1 54 0 (8 * q + i) else 0)
    rw [pI_other _ _ _ _ _ _ (by decide)]
  | m + 14 =>
    rw [bU_ne _ _ (by omega)]; rfl
theorem cb5 (μ : zM) (q : Nat) {i : Nat} (h : i < 10) : cuB μ q 5 i = μ.1 46 0 (10 * q + i) := if_pos h
theorem cbw5 (μ : zM) (q : Nat) {l : Nat} (v : Int32) (h : l < 10) : cuB (pI μ 46 0 (10 * q + l) v) q = bU (cuB μ q) 5 l v := by
  funext a i
  match a with
  | 0 =>
    rw [bU_ne _ _ (by omega)]
    show (if i = 0 then (pI μ 46 0 (10 * q + l) v).1 36 0 q else if i = 1 then (pI μ 46 0 (10 * q + l) v).1 37 0 q else if i = 2 then (pI μ 46 0 (10 * q + l) v).1 38 0 q else if i = 3 then (pI μ 46 0 (10 * q + l) v).1 39 0 q else 0) = (if i = 0 then μ.1 36 0 q else if i = 1 then μ.1 37 0 q else if i = 2 then μ.1 38 0 q else if i = 3 then μ.1 39 0 q else 0)
    rw [pI_other _ _ _ _ _ _ (by decide), pI_other _ _ _ _ _ _ (by decide), pI_other _ _ _ _ _ _ (by decide), pI_other _ _ _ _ _ _ (by decide)]
  | 1 =>
    rw [bU_ne _ _ (by omega)]
    show (if i < 4 then (pI μ 46 0 (10 * q + l) v).1 42 0 (4 * q + i) else 0) = (if i < 4 then μ.1 42 0 (4 * q + i) else 0)
    rw [pI_other _ _ _ _ _ _ (by decide)]
  | 2 =>
    rw [bU_ne _ _ (by omega)]
    show (if i < 4 then (pI μ 46 0 (10 * q + l) v).1 43 0 (4 * q + i) else 0) = (if i < 4 then μ.1 43 0 (4 * q + i) else 0)
    rw [pI_other _ _ _ _ _ _ (by decide)]
  | 3 =>
    rw [bU_ne _ _ (by omega)]
    show (if i < 6 then (pI μ 46 0 (10 * q + l) v).1 44 0 (6 * q + i) else 0) = (if i < 6 then μ.1 44 0 (6 * q + i) else 0)
    rw [pI_other _ _ _ _ _ _ (by decide)]
  | 4 =>
    rw [bU_ne _ _ (by omega)]
    show (if i < 10 then (pI μ 46 0 (10 * q + l) v).1 45 0 (10 * q + i) else 0) = (if i < 10 then μ.1 45 0 (10 * q + i) else 0)
    rw [pI_other _ _ _ _ _ _ (by decide)]
  | 5 =>
    show (if i < 10 then (pI μ 46 0 (10 * q + l) v).1 46 0 (10 * q + i) else 0) = (if 5 = 5 ∧ i = l then v else (if i < 10 then μ.1 46 0 (10 * q + i) else 0))
    by_cases hi : i = l
    · subst hi; rw [if_pos h, pI_at]; simp
    · rw [pI_place _ _ _ _ (by omega)]; simp [hi]
  | 6 =>
    rw [bU_ne _ _ (by omega)]
    show (if i < 10 then (pI μ 46 0 (10 * q + l) v).1 47 0 (10 * q + i) else 0) = (if i < 10 then μ.1 47 0 (10 * q + i) else 0)
    rw [pI_other _ _ _ _ _ _ (by decide)]
  | 7 =>
    rw [bU_ne _ _ (by omega)]
    show (if i < 10 then (pI μ 46 0 (10 * q + l) v).1 48 0 (10 * q + i) else 0) = (if i < 10 then μ.1 48 0 (10 * q + i) else 0)
    rw [pI_other _ _ _ _ _ _ (by decide)]
  | 8 =>
    rw [bU_ne _ _ (by omega)]
    show (if i < 10 then (pI μ 46 0 (10 * q + l) v).1 49 0 (10 * q + i) else 0) = (if i < 10 then μ.1 49 0 (10 * q + i) else 0)
    rw [pI_other _ _ _ _ _ _ (by decide)]
  | 9 =>
    rw [bU_ne _ _ (by omega)]
    show (if i < 10 then (pI μ 46 0 (10 * q + l) v).1 50 0 (10 * q + i) else 0) = (if i < 10 then μ.1 50 0 (10 * q + i) else 0)
    rw [pI_other _ _ _ _ _ _ (by decide)]
  | 10 =>
    rw [bU_ne _ _ (by omega)]
    show (if i < 10 then (pI μ 46 0 (10 * q + l) v).1 51 0 (10 * q + i) else 0) = (if i < 10 then μ.1 51 0 (10 * q + i) else 0)
    rw [pI_other _ _ _ _ _ _ (by decide)]
  | 11 =>
    rw [bU_ne _ _ (by omega)]
    show (if i < 10 then (pI μ 46 0 (10 * q + l) v).1 52 0 (10 * q + i) else 0) = (if i < 10 then μ.1 52 0 (10 * q + i) else 0)
    rw [pI_other _ _ _ _ _ _ (by decide)]
  | 12 =>
    rw [bU_ne _ _ (by omega)]
    show (if i < 8 then (pI μ 46 0 (10 * q + l) v).1 53 0 (8 * q + i) else 0) = (if i < 8 then μ.1 53 0 (8 * q + i) else 0)
    rw [pI_other _ _ _ _ _ _ (by decide)]
  | 13 =>
    rw [bU_ne _ _ (by omega)]
    show (if i < 8 then (pI μ 46 0 (10 * q + l) v).1 54 0 (8 * q + i) else 0) = (if i < 8 then μ.1 54 0 (8 * q + i) else 0)
    rw [pI_other _ _ _ _ _ _ (by decide)]
  | m + 14 =>
    rw [bU_ne _ _ (by omega)]; rfl
theorem cb6 (μ : zM) (q : Nat) {i : Nat} (h : i < 10) : cuB μ q 6 i = μ.1 47 0 (10 * q + i) := if_pos h
theorem cbw6 (μ : zM) (q : Nat) {l : Nat} (v : Int32) (h : l < 10) : cuB (pI μ 47 0 (10 * q + l) v) q = bU (cuB μ q) 6 l v := by
  funext a i
  match a with
  | 0 =>
    rw [bU_ne _ _ (by omega)]
    show (if i = 0 then (pI μ 47 0 (10 * q + l) v).1 36 0 q else if i = 1 then (pI μ 47 0 (10 * q + l) v).1 37 0 q else if i = 2 then (pI μ 47 0 (10 * q + l) v).1 38 0 q else if i = 3 then (pI μ 47 0 (10 * q + l) v).1 39 0 q else 0) = (if i = 0 then μ.1 36 0 q else if i = 1 then μ.1 37 0 q else if i = 2 then μ.1 38 0 q else if i = 3 then μ.1 39 0 q else 0)
    rw [pI_other _ _ _ _ _ _ (by decide), pI_other _ _ _ _ _ _ (by decide), pI_other _ _ _ _ _ _ (by decide), pI_other _ _ _ _ _ _ (by decide)]
  | 1 =>
    rw [bU_ne _ _ (by omega)]
    show (if i < 4 then (pI μ 47 0 (10 * q + l) v).1 42 0 (4 * q + i) else 0) = (if i < 4 then μ.1 42 0 (4 * q + i) else 0)
    rw [pI_other _ _ _ _ _ _ (by decide)]
  | 2 =>
    rw [bU_ne _ _ (by omega)]
    show (if i < 4 then (pI μ 47 0 (10 * q + l) v).1 43 0 (4 * q + i) else 0) = (if i < 4 then μ.1 43 0 (4 * q + i) else 0)
    rw [pI_other _ _ _ _ _ _ (by decide)]
  | 3 =>
    rw [bU_ne _ _ (by omega)]
    show (if i < 6 then (pI μ 47 0 (10 * q + l) v).1 44 0 (6 * q + i) else 0) = (if i < 6 then μ.1 44 0 (6 * q + i) else 0)
    rw [pI_other _ _ _ _ _ _ (by decide)]
  | 4 =>
    rw [bU_ne _ _ (by omega)]
    show (if i < 10 then (pI μ 47 0 (10 * q + l) v).1 45 0 (10 * q + i) else 0) = (if i < 10 then μ.1 45 0 (10 * q + i) else 0)
    rw [pI_other _ _ _ _ _ _ (by decide)]
  | 5 =>
    rw [bU_ne _ _ (by omega)]
    show (if i < 10 then (pI μ 47 0 (10 * q + l) v).1 46 0 (10 * q + i) else 0) = (if i < 10 then μ.1 46 0 (10 * q + i) else 0)
    rw [pI_other _ _ _ _ _ _ (by decide)]
  | 6 =>
    show (if i < 10 then (pI μ 47 0 (10 * q + l) v).1 47 0 (10 * q + i) else 0) = (if 6 = 6 ∧ i = l then v else (if i < 10 then μ.1 47 0 (10 * q + i) else 0))
    by_cases hi : i = l
    · subst hi; rw [if_pos h, pI_at]; simp
    · rw [pI_place _ _ _ _ (by omega)]; simp [hi]
  | 7 =>
    rw [bU_ne _ _ (by omega)]
    show (if i < 10 then (pI μ 47 0 (10 * q + l) v).1 48 0 (10 * q + i) else 0) = (if i < 10 then μ.1 48 0 (10 * q + i) else 0)
    rw [pI_other _ _ _ _ _ _ (by decide)]
  | 8 =>
    rw [bU_ne _ _ (by omega)]
    show (if i < 10 then (pI μ 47 0 (10 * q + l) v).1 49 0 (10 * q + i) else 0) = (if i < 10 then μ.1 49 0 (10 * q + i) else 0)
    rw [pI_other _ _ _ _ _ _ (by decide)]
  | 9 =>
    rw [bU_ne _ _ (by omega)]
    show (if i < 10 then (pI μ 47 0 (10 * q + l) v).1 50 0 (10 * q + i) else 0) = (if i < 10 then μ.1 50 0 (10 * q + i) else 0)
    rw [pI_other _ _ _ _ _ _ (by decide)]
  | 10 =>
    rw [bU_ne _ _ (by omega)]
    show (if i < 10 then (pI μ 47 0 (10 * q + l) v).1 51 0 (10 * q + i) else 0) = (if i < 10 then μ.1 51 0 (10 * q + i) else 0)
    rw [pI_other _ _ _ _ _ _ (by decide)]
  | 11 =>
    rw [bU_ne _ _ (by omega)]
    show (if i < 10 then (pI μ 47 0 (10 * q + l) v).1 52 0 (10 * q + i) else 0) = (if i < 10 then μ.1 52 0 (10 * q + i) else 0)
    rw [pI_other _ _ _ _ _ _ (by decide)]
  | 12 =>
    rw [bU_ne _ _ (by omega)]
    show (if i < 8 then (pI μ 47 0 (10 * q + l) v).1 53 0 (8 * q + i) else 0) = (if i < 8 then μ.1 53 0 (8 * q + i) else 0)
    rw [pI_other _ _ _ _ _ _ (by decide)]
  | 13 =>
    rw [bU_ne _ _ (by omega)]
    show (if i < 8 then (pI μ 47 0 (10 * q + l) v).1 54 0 (8 * q + i) else 0) = (if i < 8 then μ.1 54 0 (8 * q + i) else 0)
    rw [pI_other _ _ _ _ _ _ (by decide)]
  | m + 14 =>
    rw [bU_ne _ _ (by omega)]; rfl
theorem cb7 (μ : zM) (q : Nat) {i : Nat} (h : i < 10) : cuB μ q 7 i = μ.1 48 0 (10 * q + i) := if_pos h
theorem cbw7 (μ : zM) (q : Nat) {l : Nat} (v : Int32) (h : l < 10) : cuB (pI μ 48 0 (10 * q + l) v) q = bU (cuB μ q) 7 l v := by
  funext a i
  match a with
  | 0 =>
    rw [bU_ne _ _ (by omega)]
    show (if i = 0 then (pI μ 48 0 (10 * q + l) v).1 36 0 q else if i = 1 then (pI μ 48 0 (10 * q + l) v).1 37 0 q else if i = 2 then (pI μ 48 0 (10 * q + l) v).1 38 0 q else if i = 3 then (pI μ 48 0 (10 * q + l) v).1 39 0 q else 0) = (if i = 0 then μ.1 36 0 q else if i = 1 then μ.1 37 0 q else if i = 2 then μ.1 38 0 q else if i = 3 then μ.1 39 0 q else 0)
    rw [pI_other _ _ _ _ _ _ (by decide), pI_other _ _ _ _ _ _ (by decide), pI_other _ _ _ _ _ _ (by decide), pI_other _ _ _ _ _ _ (by decide)]
  | 1 =>
    rw [bU_ne _ _ (by omega)]
    show (if i < 4 then (pI μ 48 0 (10 * q + l) v).1 42 0 (4 * q + i) else 0) = (if i < 4 then μ.1 42 0 (4 * q + i) else 0)
    rw [pI_other _ _ _ _ _ _ (by decide)]
  | 2 =>
    rw [bU_ne _ _ (by omega)]
    show (if i < 4 then (pI μ 48 0 (10 * q + l) v).1 43 0 (4 * q + i) else 0) = (if i < 4 then μ.1 43 0 (4 * q + i) else 0)
    rw [pI_other _ _ _ _ _ _ (by decide)]
  | 3 =>
    rw [bU_ne _ _ (by omega)]
    show (if i < 6 then (pI μ 48 0 (10 * q + l) v).1 44 0 (6 * q + i) else 0) = (if i < 6 then μ.1 44 0 (6 * q + i) else 0)
    rw [pI_other _ _ _ _ _ _ (by decide)]
  | 4 =>
    rw [bU_ne _ _ (by omega)]
    show (if i < 10 then (pI μ 48 0 (10 * q + l) v).1 45 0 (10 * q + i) else 0) = (if i < 10 then μ.1 45 0 (10 * q + i) else 0)
    rw [pI_other _ _ _ _ _ _ (by decide)]
  | 5 =>
    rw [bU_ne _ _ (by omega)]
    show (if i < 10 then (pI μ 48 0 (10 * q + l) v).1 46 0 (10 * q + i) else 0) = (if i < 10 then μ.1 46 0 (10 * q + i) else 0)
    rw [pI_other _ _ _ _ _ _ (by decide)]
  | 6 =>
    rw [bU_ne _ _ (by omega)]
    show (if i < 10 then (pI μ 48 0 (10 * q + l) v).1 47 0 (10 * q + i) else 0) = (if i < 10 then μ.1 47 0 (10 * q + i) else 0)
    rw [pI_other _ _ _ _ _ _ (by decide)]
  | 7 =>
    show (if i < 10 then (pI μ 48 0 (10 * q + l) v).1 48 0 (10 * q + i) else 0) = (if 7 = 7 ∧ i = l then v else (if i < 10 then μ.1 48 0 (10 * q + i) else 0))
    by_cases hi : i = l
    · subst hi; rw [if_pos h, pI_at]; simp
    · rw [pI_place _ _ _ _ (by omega)]; simp [hi]
  | 8 =>
    rw [bU_ne _ _ (by omega)]
    show (if i < 10 then (pI μ 48 0 (10 * q + l) v).1 49 0 (10 * q + i) else 0) = (if i < 10 then μ.1 49 0 (10 * q + i) else 0)
    rw [pI_other _ _ _ _ _ _ (by decide)]
  | 9 =>
    rw [bU_ne _ _ (by omega)]
    show (if i < 10 then (pI μ 48 0 (10 * q + l) v).1 50 0 (10 * q + i) else 0) = (if i < 10 then μ.1 50 0 (10 * q + i) else 0)
    rw [pI_other _ _ _ _ _ _ (by decide)]
  | 10 =>
    rw [bU_ne _ _ (by omega)]
    show (if i < 10 then (pI μ 48 0 (10 * q + l) v).1 51 0 (10 * q + i) else 0) = (if i < 10 then μ.1 51 0 (10 * q + i) else 0)
    rw [pI_other _ _ _ _ _ _ (by decide)]
  | 11 =>
    rw [bU_ne _ _ (by omega)]
    show (if i < 10 then (pI μ 48 0 (10 * q + l) v).1 52 0 (10 * q + i) else 0) = (if i < 10 then μ.1 52 0 (10 * q + i) else 0)
    rw [pI_other _ _ _ _ _ _ (by decide)]
  | 12 =>
    rw [bU_ne _ _ (by omega)]
    show (if i < 8 then (pI μ 48 0 (10 * q + l) v).1 53 0 (8 * q + i) else 0) = (if i < 8 then μ.1 53 0 (8 * q + i) else 0)
    rw [pI_other _ _ _ _ _ _ (by decide)]
  | 13 =>
    rw [bU_ne _ _ (by omega)]
    show (if i < 8 then (pI μ 48 0 (10 * q + l) v).1 54 0 (8 * q + i) else 0) = (if i < 8 then μ.1 54 0 (8 * q + i) else 0)
    rw [pI_other _ _ _ _ _ _ (by decide)]
  | m + 14 =>
    rw [bU_ne _ _ (by omega)]; rfl
theorem cb8 (μ : zM) (q : Nat) {i : Nat} (h : i < 10) : cuB μ q 8 i = μ.1 49 0 (10 * q + i) := if_pos h
theorem cbw8 (μ : zM) (q : Nat) {l : Nat} (v : Int32) (h : l < 10) : cuB (pI μ 49 0 (10 * q + l) v) q = bU (cuB μ q) 8 l v := by
  funext a i
  match a with
  | 0 =>
    rw [bU_ne _ _ (by omega)]
    show (if i = 0 then (pI μ 49 0 (10 * q + l) v).1 36 0 q else if i = 1 then (pI μ 49 0 (10 * q + l) v).1 37 0 q else if i = 2 then (pI μ 49 0 (10 * q + l) v).1 38 0 q else if i = 3 then (pI μ 49 0 (10 * q + l) v).1 39 0 q else 0) = (if i = 0 then μ.1 36 0 q else if i = 1 then μ.1 37 0 q else if i = 2 then μ.1 38 0 q else if i = 3 then μ.1 39 0 q else 0)
    rw [pI_other _ _ _ _ _ _ (by decide), pI_other _ _ _ _ _ _ (by decide), pI_other _ _ _ _ _ _ (by decide), pI_other _ _ _ _ _ _ (by decide)]
  | 1 =>
    rw [bU_ne _ _ (by omega)]
    show (if i < 4 then (pI μ 49 0 (10 * q + l) v).1 42 0 (4 * q + i) else 0) = (if i < 4 then μ.1 42 0 (4 * q + i) else 0)
    rw [pI_other _ _ _ _ _ _ (by decide)]
  | 2 =>
    rw [bU_ne _ _ (by omega)]
    show (if i < 4 then (pI μ 49 0 (10 * q + l) v).1 43 0 (4 * q + i) else 0) = (if i < 4 then μ.1 43 0 (4 * q + i) else 0)
    rw [pI_other _ _ _ _ _ _ (by decide)]
  | 3 =>
    rw [bU_ne _ _ (by omega)]
    show (if i < 6 then (pI μ 49 0 (10 * q + l) v).1 44 0 (6 * q + i) else 0) = (if i < 6 then μ.1 44 0 (6 * q + i) else 0)
    rw [pI_other _ _ _ _ _ _ (by decide)]
  | 4 =>
    rw [bU_ne _ _ (by omega)]
    show (if i < 10 then (pI μ 49 0 (10 * q + l) v).1 45 0 (10 * q + i) else 0) = (if i < 10 then μ.1 45 0 (10 * q + i) else 0)
    rw [pI_other _ _ _ _ _ _ (by decide)]
  | 5 =>
    rw [bU_ne _ _ (by omega)]
    show (if i < 10 then (pI μ 49 0 (10 * q + l) v).1 46 0 (10 * q + i) else 0) = (if i < 10 then μ.1 46 0 (10 * q + i) else 0)
    rw [pI_other _ _ _ _ _ _ (by decide)]
  | 6 =>
    rw [bU_ne _ _ (by omega)]
    show (if i < 10 then (pI μ 49 0 (10 * q + l) v).1 47 0 (10 * q + i) else 0) = (if i < 10 then μ.1 47 0 (10 * q + i) else 0)
    rw [pI_other _ _ _ _ _ _ (by decide)]
  | 7 =>
    rw [bU_ne _ _ (by omega)]
    show (if i < 10 then (pI μ 49 0 (10 * q + l) v).1 48 0 (10 * q + i) else 0) = (if i < 10 then μ.1 48 0 (10 * q + i) else 0)
    rw [pI_other _ _ _ _ _ _ (by decide)]
  | 8 =>
    show (if i < 10 then (pI μ 49 0 (10 * q + l) v).1 49 0 (10 * q + i) else 0) = (if 8 = 8 ∧ i = l then v else (if i < 10 then μ.1 49 0 (10 * q + i) else 0))
    by_cases hi : i = l
    · subst hi; rw [if_pos h, pI_at]; simp
    · rw [pI_place _ _ _ _ (by omega)]; simp [hi]
  | 9 =>
    rw [bU_ne _ _ (by omega)]
    show (if i < 10 then (pI μ 49 0 (10 * q + l) v).1 50 0 (10 * q + i) else 0) = (if i < 10 then μ.1 50 0 (10 * q + i) else 0)
    rw [pI_other _ _ _ _ _ _ (by decide)]
  | 10 =>
    rw [bU_ne _ _ (by omega)]
    show (if i < 10 then (pI μ 49 0 (10 * q + l) v).1 51 0 (10 * q + i) else 0) = (if i < 10 then μ.1 51 0 (10 * q + i) else 0)
    rw [pI_other _ _ _ _ _ _ (by decide)]
  | 11 =>
    rw [bU_ne _ _ (by omega)]
    show (if i < 10 then (pI μ 49 0 (10 * q + l) v).1 52 0 (10 * q + i) else 0) = (if i < 10 then μ.1 52 0 (10 * q + i) else 0)
    rw [pI_other _ _ _ _ _ _ (by decide)]
  | 12 =>
    rw [bU_ne _ _ (by omega)]
    show (if i < 8 then (pI μ 49 0 (10 * q + l) v).1 53 0 (8 * q + i) else 0) = (if i < 8 then μ.1 53 0 (8 * q + i) else 0)
    rw [pI_other _ _ _ _ _ _ (by decide)]
  | 13 =>
    rw [bU_ne _ _ (by omega)]
    show (if i < 8 then (pI μ 49 0 (10 * q + l) v).1 54 0 (8 * q + i) else 0) = (if i < 8 then μ.1 54 0 (8 * q + i) else 0)
    rw [pI_other _ _ _ _ _ _ (by decide)]
  | m + 14 =>
    rw [bU_ne _ _ (by omega)]; rfl
theorem cb9 (μ : zM) (q : Nat) {i : Nat} (h : i < 10) : cuB μ q 9 i = μ.1 50 0 (10 * q + i) := if_pos h
theorem cbw9 (μ : zM) (q : Nat) {l : Nat} (v : Int32) (h : l < 10) : cuB (pI μ 50 0 (10 * q + l) v) q = bU (cuB μ q) 9 l v := by
  funext a i
  match a with
  | 0 =>
    rw [bU_ne _ _ (by omega)]
    show (if i = 0 then (pI μ 50 0 (10 * q + l) v).1 36 0 q else if i = 1 then (pI μ 50 0 (10 * q + l) v).1 37 0 q else if i = 2 then (pI μ 50 0 (10 * q + l) v).1 38 0 q else if i = 3 then (pI μ 50 0 (10 * q + l) v).1 39 0 q else 0) = (if i = 0 then μ.1 36 0 q else if i = 1 then μ.1 37 0 q else if i = 2 then μ.1 38 0 q else if i = 3 then μ.1 39 0 q else 0)
    rw [pI_other _ _ _ _ _ _ (by decide), pI_other _ _ _ _ _ _ (by decide), pI_other _ _ _ _ _ _ (by decide), pI_other _ _ _ _ _ _ (by decide)]
  | 1 =>
    rw [bU_ne _ _ (by omega)]
    show (if i < 4 then (pI μ 50 0 (10 * q + l) v).1 42 0 (4 * q + i) else 0) = (if i < 4 then μ.1 42 0 (4 * q + i) else 0)
    rw [pI_other _ _ _ _ _ _ (by decide)]
  | 2 =>
    rw [bU_ne _ _ (by omega)]
    show (if i < 4 then (pI μ 50 0 (10 * q + l) v).1 43 0 (4 * q + i) else 0) = (if i < 4 then μ.1 43 0 (4 * q + i) else 0)
    rw [pI_other _ _ _ _ _ _ (by decide)]
  | 3 =>
    rw [bU_ne _ _ (by omega)]
    show (if i < 6 then (pI μ 50 0 (10 * q + l) v).1 44 0 (6 * q + i) else 0) = (if i < 6 then μ.1 44 0 (6 * q + i) else 0)
    rw [pI_other _ _ _ _ _ _ (by decide)]
  | 4 =>
    rw [bU_ne _ _ (by omega)]
    show (if i < 10 then (pI μ 50 0 (10 * q + l) v).1 45 0 (10 * q + i) else 0) = (if i < 10 then μ.1 45 0 (10 * q + i) else 0)
    rw [pI_other _ _ _ _ _ _ (by decide)]
  | 5 =>
    rw [bU_ne _ _ (by omega)]
    show (if i < 10 then (pI μ 50 0 (10 * q + l) v).1 46 0 (10 * q + i) else 0) = (if i < 10 then μ.1 46 0 (10 * q + i) else 0)
    rw [pI_other _ _ _ _ _ _ (by decide)]
  | 6 =>
    rw [bU_ne _ _ (by omega)]
    show (if i < 10 then (pI μ 50 0 (10 * q + l) v).1 47 0 (10 * q + i) else 0) = (if i < 10 then μ.1 47 0 (10 * q + i) else 0)
    rw [pI_other _ _ _ _ _ _ (by decide)]
  | 7 =>
    rw [bU_ne _ _ (by omega)]
    show (if i < 10 then (pI μ 50 0 (10 * q + l) v).1 48 0 (10 * q + i) else 0) = (if i < 10 then μ.1 48 0 (10 * q + i) else 0)
    rw [pI_other _ _ _ _ _ _ (by decide)]
  | 8 =>
    rw [bU_ne _ _ (by omega)]
    show (if i < 10 then (pI μ 50 0 (10 * q + l) v).1 49 0 (10 * q + i) else 0) = (if i < 10 then μ.1 49 0 (10 * q + i) else 0)
    rw [pI_other _ _ _ _ _ _ (by decide)]
  | 9 =>
    show (if i < 10 then (pI μ 50 0 (10 * q + l) v).1 50 0 (10 * q + i) else 0) = (if 9 = 9 ∧ i = l then v else (if i < 10 then μ.1 50 0 (10 * q + i) else 0))
    by_cases hi : i = l
    · subst hi; rw [if_pos h, pI_at]; simp
    · rw [pI_place _ _ _ _ (by omega)]; simp [hi]
  | 10 =>
    rw [bU_ne _ _ (by omega)]
    show (if i < 10 then (pI μ 50 0 (10 * q + l) v).1 51 0 (10 * q + i) else 0) = (if i < 10 then μ.1 51 0 (10 * q + i) else 0)
    rw [pI_other _ _ _ _ _ _ (by decide)]
  | 11 =>
    rw [bU_ne _ _ (by omega)]
    show (if i < 10 then (pI μ 50 0 (10 * q + l) v).1 52 0 (10 * q + i) else 0) = (if i < 10 then μ.1 52 0 (10 * q + i) else 0)
    rw [pI_other _ _ _ _ _ _ (by decide)]
  | 12 =>
    rw [bU_ne _ _ (by omega)]
    show (if i < 8 then (pI μ 50 0 (10 * q + l) v).1 53 0 (8 * q + i) else 0) = (if i < 8 then μ.1 53 0 (8 * q + i) else 0)
    rw [pI_other _ _ _ _ _ _ (by decide)]
  | 13 =>
    rw [bU_ne _ _ (by omega)]
    show (if i < 8 then (pI μ 50 0 (10 * q + l) v).1 54 0 (8 * q + i) else 0) = (if i < 8 then μ.1 54 0 (8 * q + i) else 0)
    rw [pI_other _ _ _ _ _ _ (by decide)]
  | m + 14 =>
    rw [bU_ne _ _ (by omega)]; rfl
theorem cb10 (μ : zM) (q : Nat) {i : Nat} (h : i < 10) : cuB μ q 10 i = μ.1 51 0 (10 * q + i) := if_pos h
theorem cbw10 (μ : zM) (q : Nat) {l : Nat} (v : Int32) (h : l < 10) : cuB (pI μ 51 0 (10 * q + l) v) q = bU (cuB μ q) 10 l v := by
  funext a i
  match a with
  | 0 =>
    rw [bU_ne _ _ (by omega)]
    show (if i = 0 then (pI μ 51 0 (10 * q + l) v).1 36 0 q else if i = 1 then (pI μ 51 0 (10 * q + l) v).1 37 0 q else if i = 2 then (pI μ 51 0 (10 * q + l) v).1 38 0 q else if i = 3 then (pI μ 51 0 (10 * q + l) v).1 39 0 q else 0) = (if i = 0 then μ.1 36 0 q else if i = 1 then μ.1 37 0 q else if i = 2 then μ.1 38 0 q else if i = 3 then μ.1 39 0 q else 0)
    rw [pI_other _ _ _ _ _ _ (by decide), pI_other _ _ _ _ _ _ (by decide), pI_other _ _ _ _ _ _ (by decide), pI_other _ _ _ _ _ _ (by decide)]
  | 1 =>
    rw [bU_ne _ _ (by omega)]
    show (if i < 4 then (pI μ 51 0 (10 * q + l) v).1 42 0 (4 * q + i) else 0) = (if i < 4 then μ.1 42 0 (4 * q + i) else 0)
    rw [pI_other _ _ _ _ _ _ (by decide)]
  | 2 =>
    rw [bU_ne _ _ (by omega)]
    show (if i < 4 then (pI μ 51 0 (10 * q + l) v).1 43 0 (4 * q + i) else 0) = (if i < 4 then μ.1 43 0 (4 * q + i) else 0)
    rw [pI_other _ _ _ _ _ _ (by decide)]
  | 3 =>
    rw [bU_ne _ _ (by omega)]
    show (if i < 6 then (pI μ 51 0 (10 * q + l) v).1 44 0 (6 * q + i) else 0) = (if i < 6 then μ.1 44 0 (6 * q + i) else 0)
    rw [pI_other _ _ _ _ _ _ (by decide)]
  | 4 =>
    rw [bU_ne _ _ (by omega)]
    show (if i < 10 then (pI μ 51 0 (10 * q + l) v).1 45 0 (10 * q + i) else 0) = (if i < 10 then μ.1 45 0 (10 * q + i) else 0)
    rw [pI_other _ _ _ _ _ _ (by decide)]
  | 5 =>
    rw [bU_ne _ _ (by omega)]
    show (if i < 10 then (pI μ 51 0 (10 * q + l) v).1 46 0 (10 * q + i) else 0) = (if i < 10 then μ.1 46 0 (10 * q + i) else 0)
    rw [pI_other _ _ _ _ _ _ (by decide)]
  | 6 =>
    rw [bU_ne _ _ (by omega)]
    show (if i < 10 then (pI μ 51 0 (10 * q + l) v).1 47 0 (10 * q + i) else 0) = (if i < 10 then μ.1 47 0 (10 * q + i) else 0)
    rw [pI_other _ _ _ _ _ _ (by decide)]
  | 7 =>
    rw [bU_ne _ _ (by omega)]
    show (if i < 10 then (pI μ 51 0 (10 * q + l) v).1 48 0 (10 * q + i) else 0) = (if i < 10 then μ.1 48 0 (10 * q + i) else 0)
    rw [pI_other _ _ _ _ _ _ (by decide)]
  | 8 =>
    rw [bU_ne _ _ (by omega)]
    show (if i < 10 then (pI μ 51 0 (10 * q + l) v).1 49 0 (10 * q + i) else 0) = (if i < 10 then μ.1 49 0 (10 * q + i) else 0)
    rw [pI_other _ _ _ _ _ _ (by decide)]
  | 9 =>
    rw [bU_ne _ _ (by omega)]
    show (if i < 10 then (pI μ 51 0 (10 * q + l) v).1 50 0 (10 * q + i) else 0) = (if i < 10 then μ.1 50 0 (10 * q + i) else 0)
    rw [pI_other _ _ _ _ _ _ (by decide)]
  | 10 =>
    show (if i < 10 then (pI μ 51 0 (10 * q + l) v).1 51 0 (10 * q + i) else 0) = (if 10 = 10 ∧ i = l then v else (if i < 10 then μ.1 51 0 (10 * q + i) else 0))
    by_cases hi : i = l
    · subst hi; rw [if_pos h, pI_at]; simp
    · rw [pI_place _ _ _ _ (by omega)]; simp [hi]
  | 11 =>
    rw [bU_ne _ _ (by omega)]
    show (if i < 10 then (pI μ 51 0 (10 * q + l) v).1 52 0 (10 * q + i) else 0) = (if i < 10 then μ.1 52 0 (10 * q + i) else 0)
    rw [pI_other _ _ _ _ _ _ (by decide)]
  | 12 =>
    rw [bU_ne _ _ (by omega)]
    show (if i < 8 then (pI μ 51 0 (10 * q + l) v).1 53 0 (8 * q + i) else 0) = (if i < 8 then μ.1 53 0 (8 * q + i) else 0)
    rw [pI_other _ _ _ _ _ _ (by decide)]
  | 13 =>
    rw [bU_ne _ _ (by omega)]
    show (if i < 8 then (pI μ 51 0 (10 * q + l) v).1 54 0 (8 * q + i) else 0) = (if i < 8 then μ.1 54 0 (8 * q + i) else 0)
    rw [pI_other _ _ _ _ _ _ (by decide)]
  | m + 14 =>
    rw [bU_ne _ _ (by omega)]; rfl
theorem cb11 (μ : zM) (q : Nat) {i : Nat} (h : i < 10) : cuB μ q 11 i = μ.1 52 0 (10 * q + i) := if_pos h
theorem cbw11 (μ : zM) (q : Nat) {l : Nat} (v : Int32) (h : l < 10) : cuB (pI μ 52 0 (10 * q + l) v) q = bU (cuB μ q) 11 l v := by
  funext a i
  match a with
  | 0 =>
    rw [bU_ne _ _ (by omega)]
    show (if i = 0 then (pI μ 52 0 (10 * q + l) v).1 36 0 q else if i = 1 then (pI μ 52 0 (10 * q + l) v).1 37 0 q else if i = 2 then (pI μ 52 0 (10 * q + l) v).1 38 0 q else if i = 3 then (pI μ 52 0 (10 * q + l) v).1 39 0 q else 0) = (if i = 0 then μ.1 36 0 q else if i = 1 then μ.1 37 0 q else if i = 2 then μ.1 38 0 q else if i = 3 then μ.1 39 0 q else 0)
    rw [pI_other _ _ _ _ _ _ (by decide), pI_other _ _ _ _ _ _ (by decide), pI_other _ _ _ _ _ _ (by decide), pI_other _ _ _ _ _ _ (by decide)]
  | 1 =>
    rw [bU_ne _ _ (by omega)]
    show (if i < 4 then (pI μ 52 0 (10 * q + l) v).1 42 0 (4 * q + i) else 0) = (if i < 4 then μ.1 42 0 (4 * q + i) else 0)
    rw [pI_other _ _ _ _ _ _ (by decide)]
  | 2 =>
    rw [bU_ne _ _ (by omega)]
    show (if i < 4 then (pI μ 52 0 (10 * q + l) v).1 43 0 (4 * q + i) else 0) = (if i < 4 then μ.1 43 0 (4 * q + i) else 0)
    rw [pI_other _ _ _ _ _ _ (by decide)]
  | 3 =>
    rw [bU_ne _ _ (by omega)]
    show (if i < 6 then (pI μ 52 0 (10 * q + l) v).1 44 0 (6 * q + i) else 0) = (if i < 6 then μ.1 44 0 (6 * q + i) else 0)
    rw [pI_other _ _ _ _ _ _ (by decide)]
  | 4 =>
    rw [bU_ne _ _ (by omega)]
    show (if i < 10 then (pI μ 52 0 (10 * q + l) v).1 45 0 (10 * q + i) else 0) = (if i < 10 then μ.1 45 0 (10 * q + i) else 0)
    rw [pI_other _ _ _ _ _ _ (by decide)]
  | 5 =>
    rw [bU_ne _ _ (by omega)]
    show (if i < 10 then (pI μ 52 0 (10 * q + l) v).1 46 0 (10 * q + i) else 0) = (if i < 10 then μ.1 46 0 (10 * q + i) else 0)
    rw [pI_other _ _ _ _ _ _ (by decide)]
  | 6 =>
    rw [bU_ne _ _ (by omega)]
    show (if i < 10 then (pI μ 52 0 (10 * q + l) v).1 47 0 (10 * q + i) else 0) = (if i < 10 then μ.1 47 0 (10 * q + i) else 0)
    rw [pI_other _ _ _ _ _ _ (by decide)]
  | 7 =>
    rw [bU_ne _ _ (by omega)]
    show (if i < 10 then (pI μ 52 0 (10 * q + l) v).1 48 0 (10 * q + i) else 0) = (if i < 10 then μ.1 48 0 (10 * q + i) else 0)
    rw [pI_other _ _ _ _ _ _ (by decide)]
  | 8 =>
    rw [bU_ne _ _ (by omega)]
    show (if i < 10 then (pI μ 52 0 (10 * q + l) v).1 49 0 (10 * q + i) else 0) = (if i < 10 then μ.1 49 0 (10 * q + i) else 0)
    rw [pI_other _ _ _ _ _ _ (by decide)]
  | 9 =>
    rw [bU_ne _ _ (by omega)]
    show (if i < 10 then (pI μ 52 0 (10 * q + l) v).1 50 0 (10 * q + i) else 0) = (if i < 10 then μ.1 50 0 (10 * q + i) else 0)
    rw [pI_other _ _ _ _ _ _ (by decide)]
  | 10 =>
    rw [bU_ne _ _ (by omega)]
    show (if i < 10 then (pI μ 52 0 (10 * q + l) v).1 51 0 (10 * q + i) else 0) = (if i < 10 then μ.1 51 0 (10 * q + i) else 0)
    rw [pI_other _ _ _ _ _ _ (by decide)]
  | 11 =>
    show (if i < 10 then (pI μ 52 0 (10 * q + l) v).1 52 0 (10 * q + i) else 0) = (if 11 = 11 ∧ i = l then v else (if i < 10 then μ.1 52 0 (10 * q + i) else 0))
    by_cases hi : i = l
    · subst hi; rw [if_pos h, pI_at]; simp
    · rw [pI_place _ _ _ _ (by omega)]; simp [hi]
  | 12 =>
    rw [bU_ne _ _ (by omega)]
    show (if i < 8 then (pI μ 52 0 (10 * q + l) v).1 53 0 (8 * q + i) else 0) = (if i < 8 then μ.1 53 0 (8 * q + i) else 0)
    rw [pI_other _ _ _ _ _ _ (by decide)]
  | 13 =>
    rw [bU_ne _ _ (by omega)]
    show (if i < 8 then (pI μ 52 0 (10 * q + l) v).1 54 0 (8 * q + i) else 0) = (if i < 8 then μ.1 54 0 (8 * q + i) else 0)
    rw [pI_other _ _ _ _ _ _ (by decide)]
  | m + 14 =>
    rw [bU_ne _ _ (by omega)]; rfl
theorem cb12 (μ : zM) (q : Nat) {i : Nat} (h : i < 8) : cuB μ q 12 i = μ.1 53 0 (8 * q + i) := if_pos h
theorem cbw12 (μ : zM) (q : Nat) {l : Nat} (v : Int32) (h : l < 8) : cuB (pI μ 53 0 (8 * q + l) v) q = bU (cuB μ q) 12 l v := by
  funext a i
  match a with
  | 0 =>
    rw [bU_ne _ _ (by omega)]
    show (if i = 0 then (pI μ 53 0 (8 * q + l) v).1 36 0 q else if i = 1 then (pI μ 53 0 (8 * q + l) v).1 37 0 q else if i = 2 then (pI μ 53 0 (8 * q + l) v).1 38 0 q else if i = 3 then (pI μ 53 0 (8 * q + l) v).1 39 0 q else 0) = (if i = 0 then μ.1 36 0 q else if i = 1 then μ.1 37 0 q else if i = 2 then μ.1 38 0 q else if i = 3 then μ.1 39 0 q else 0)
    rw [pI_other _ _ _ _ _ _ (by decide), pI_other _ _ _ _ _ _ (by decide), pI_other _ _ _ _ _ _ (by decide), pI_other _ _ _ _ _ _ (by decide)]
  | 1 =>
    rw [bU_ne _ _ (by omega)]
    show (if i < 4 then (pI μ 53 0 (8 * q + l) v).1 42 0 (4 * q + i) else 0) = (if i < 4 then μ.1 42 0 (4 * q + i) else 0)
    rw [pI_other _ _ _ _ _ _ (by decide)]
  | 2 =>
    rw [bU_ne _ _ (by omega)]
    show (if i < 4 then (pI μ 53 0 (8 * q + l) v).1 43 0 (4 * q + i) else 0) = (if i < 4 then μ.1 43 0 (4 * q + i) else 0)
    rw [pI_other _ _ _ _ _ _ (by decide)]
  | 3 =>
    rw [bU_ne _ _ (by omega)]
    show (if i < 6 then (pI μ 53 0 (8 * q + l) v).1 44 0 (6 * q + i) else 0) = (if i < 6 then μ.1 44 0 (6 * q + i) else 0)
    rw [pI_other _ _ _ _ _ _ (by decide)]
  | 4 =>
    rw [bU_ne _ _ (by omega)]
    show (if i < 10 then (pI μ 53 0 (8 * q + l) v).1 45 0 (10 * q + i) else 0) = (if i < 10 then μ.1 45 0 (10 * q + i) else 0)
    rw [pI_other _ _ _ _ _ _ (by decide)]
  | 5 =>
    rw [bU_ne _ _ (by omega)]
    show (if i < 10 then (pI μ 53 0 (8 * q + l) v).1 46 0 (10 * q + i) else 0) = (if i < 10 then μ.1 46 0 (10 * q + i) else 0)
    rw [pI_other _ _ _ _ _ _ (by decide)]
  | 6 =>
    rw [bU_ne _ _ (by omega)]
    show (if i < 10 then (pI μ 53 0 (8 * q + l) v).1 47 0 (10 * q + i) else 0) = (if i < 10 then μ.1 47 0 (10 * q + i) else 0)
    rw [pI_other _ _ _ _ _ _ (by decide)]
  | 7 =>
    rw [bU_ne _ _ (by omega)]
    show (if i < 10 then (pI μ 53 0 (8 * q + l) v).1 48 0 (10 * q + i) else 0) = (if i < 10 then μ.1 48 0 (10 * q + i) else 0)
    rw [pI_other _ _ _ _ _ _ (by decide)]
  | 8 =>
    rw [bU_ne _ _ (by omega)]
    show (if i < 10 then (pI μ 53 0 (8 * q + l) v).1 49 0 (10 * q + i) else 0) = (if i < 10 then μ.1 49 0 (10 * q + i) else 0)
    rw [pI_other _ _ _ _ _ _ (by decide)]
  | 9 =>
    rw [bU_ne _ _ (by omega)]
    show (if i < 10 then (pI μ 53 0 (8 * q + l) v).1 50 0 (10 * q + i) else 0) = (if i < 10 then μ.1 50 0 (10 * q + i) else 0)
    rw [pI_other _ _ _ _ _ _ (by decide)]
  | 10 =>
    rw [bU_ne _ _ (by omega)]
    show (if i < 10 then (pI μ 53 0 (8 * q + l) v).1 51 0 (10 * q + i) else 0) = (if i < 10 then μ.1 51 0 (10 * q + i) else 0)
    rw [pI_other _ _ _ _ _ _ (by decide)]
  | 11 =>
    rw [bU_ne _ _ (by omega)]
    show (if i < 10 then (pI μ 53 0 (8 * q + l) v).1 52 0 (10 * q + i) else 0) = (if i < 10 then μ.1 52 0 (10 * q + i) else 0)
    rw [pI_other _ _ _ _ _ _ (by decide)]
  | 12 =>
    show (if i < 8 then (pI μ 53 0 (8 * q + l) v).1 53 0 (8 * q + i) else 0) = (if 12 = 12 ∧ i = l then v else (if i < 8 then μ.1 53 0 (8 * q + i) else 0))
    by_cases hi : i = l
    · subst hi; rw [if_pos h, pI_at]; simp
    · rw [pI_place _ _ _ _ (by omega)]; simp [hi]
  | 13 =>
    rw [bU_ne _ _ (by omega)]
    show (if i < 8 then (pI μ 53 0 (8 * q + l) v).1 54 0 (8 * q + i) else 0) = (if i < 8 then μ.1 54 0 (8 * q + i) else 0)
    rw [pI_other _ _ _ _ _ _ (by decide)]
  | m + 14 =>
    rw [bU_ne _ _ (by omega)]; rfl
theorem cb13 (μ : zM) (q : Nat) {i : Nat} (h : i < 8) : cuB μ q 13 i = μ.1 54 0 (8 * q + i) := if_pos h
theorem cbw13 (μ : zM) (q : Nat) {l : Nat} (v : Int32) (h : l < 8) : cuB (pI μ 54 0 (8 * q + l) v) q = bU (cuB μ q) 13 l v := by
  funext a i
  match a with
  | 0 =>
    rw [bU_ne _ _ (by omega)]
    show (if i = 0 then (pI μ 54 0 (8 * q + l) v).1 36 0 q else if i = 1 then (pI μ 54 0 (8 * q + l) v).1 37 0 q else if i = 2 then (pI μ 54 0 (8 * q + l) v).1 38 0 q else if i = 3 then (pI μ 54 0 (8 * q + l) v).1 39 0 q else 0) = (if i = 0 then μ.1 36 0 q else if i = 1 then μ.1 37 0 q else if i = 2 then μ.1 38 0 q else if i = 3 then μ.1 39 0 q else 0)
    rw [pI_other _ _ _ _ _ _ (by decide), pI_other _ _ _ _ _ _ (by decide), pI_other _ _ _ _ _ _ (by decide), pI_other _ _ _ _ _ _ (by decide)]
  | 1 =>
    rw [bU_ne _ _ (by omega)]
    show (if i < 4 then (pI μ 54 0 (8 * q + l) v).1 42 0 (4 * q + i) else 0) = (if i < 4 then μ.1 42 0 (4 * q + i) else 0)
    rw [pI_other _ _ _ _ _ _ (by decide)]
  | 2 =>
    rw [bU_ne _ _ (by omega)]
    show (if i < 4 then (pI μ 54 0 (8 * q + l) v).1 43 0 (4 * q + i) else 0) = (if i < 4 then μ.1 43 0 (4 * q + i) else 0)
    rw [pI_other _ _ _ _ _ _ (by decide)]
  | 3 =>
    rw [bU_ne _ _ (by omega)]
    show (if i < 6 then (pI μ 54 0 (8 * q + l) v).1 44 0 (6 * q + i) else 0) = (if i < 6 then μ.1 44 0 (6 * q + i) else 0)
    rw [pI_other _ _ _ _ _ _ (by decide)]
  | 4 =>
    rw [bU_ne _ _ (by omega)]
    show (if i < 10 then (pI μ 54 0 (8 * q + l) v).1 45 0 (10 * q + i) else 0) = (if i < 10 then μ.1 45 0 (10 * q + i) else 0)
    rw [pI_other _ _ _ _ _ _ (by decide)]
  | 5 =>
    rw [bU_ne _ _ (by omega)]
    show (if i < 10 then (pI μ 54 0 (8 * q + l) v).1 46 0 (10 * q + i) else 0) = (if i < 10 then μ.1 46 0 (10 * q + i) else 0)
    rw [pI_other _ _ _ _ _ _ (by decide)]
  | 6 =>
    rw [bU_ne _ _ (by omega)]
    show (if i < 10 then (pI μ 54 0 (8 * q + l) v).1 47 0 (10 * q + i) else 0) = (if i < 10 then μ.1 47 0 (10 * q + i) else 0)
    rw [pI_other _ _ _ _ _ _ (by decide)]
  | 7 =>
    rw [bU_ne _ _ (by omega)]
    show (if i < 10 then (pI μ 54 0 (8 * q + l) v).1 48 0 (10 * q + i) else 0) = (if i < 10 then μ.1 48 0 (10 * q + i) else 0)
    rw [pI_other _ _ _ _ _ _ (by decide)]
  | 8 =>
    rw [bU_ne _ _ (by omega)]
    show (if i < 10 then (pI μ 54 0 (8 * q + l) v).1 49 0 (10 * q + i) else 0) = (if i < 10 then μ.1 49 0 (10 * q + i) else 0)
    rw [pI_other _ _ _ _ _ _ (by decide)]
  | 9 =>
    rw [bU_ne _ _ (by omega)]
    show (if i < 10 then (pI μ 54 0 (8 * q + l) v).1 50 0 (10 * q + i) else 0) = (if i < 10 then μ.1 50 0 (10 * q + i) else 0)
    rw [pI_other _ _ _ _ _ _ (by decide)]
  | 10 =>
    rw [bU_ne _ _ (by omega)]
    show (if i < 10 then (pI μ 54 0 (8 * q + l) v).1 51 0 (10 * q + i) else 0) = (if i < 10 then μ.1 51 0 (10 * q + i) else 0)
    rw [pI_other _ _ _ _ _ _ (by decide)]
  | 11 =>
    rw [bU_ne _ _ (by omega)]
    show (if i < 10 then (pI μ 54 0 (8 * q + l) v).1 52 0 (10 * q + i) else 0) = (if i < 10 then μ.1 52 0 (10 * q + i) else 0)
    rw [pI_other _ _ _ _ _ _ (by decide)]
  | 12 =>
    rw [bU_ne _ _ (by omega)]
    show (if i < 8 then (pI μ 54 0 (8 * q + l) v).1 53 0 (8 * q + i) else 0) = (if i < 8 then μ.1 53 0 (8 * q + i) else 0)
    rw [pI_other _ _ _ _ _ _ (by decide)]
  | 13 =>
    show (if i < 8 then (pI μ 54 0 (8 * q + l) v).1 54 0 (8 * q + i) else 0) = (if 13 = 13 ∧ i = l then v else (if i < 8 then μ.1 54 0 (8 * q + i) else 0))
    by_cases hi : i = l
    · subst hi; rw [if_pos h, pI_at]; simp
    · rw [pI_place _ _ _ _ (by omega)]; simp [hi]
  | m + 14 =>
    rw [bU_ne _ _ (by omega)]; rfl
theorem cuB_frm {P Q : Nat → Nat → Bool} {μ ν : zM} (h : frm P Q μ ν) (q : Nat) (h0 : P 36 q = false ∧ P 37 q = false ∧ P 38 q = false ∧ P 39 q = false)
    (h1 : ∀ κ k, 42 ≤ κ → κ ≤ 54 → P κ k = false) : cuB ν q = cuB μ q := by
  funext a i
  match a with
  | 0 =>
    show (if i = 0 then ν.1 36 0 q else if i = 1 then ν.1 37 0 q else if i = 2 then ν.1 38 0 q else if i = 3 then ν.1 39 0 q else 0) = (if i = 0 then μ.1 36 0 q else if i = 1 then μ.1 37 0 q else if i = 2 then μ.1 38 0 q else if i = 3 then μ.1 39 0 q else 0)
    rw [h.1 36 0 q h0.1, h.1 37 0 q h0.2.1, h.1 38 0 q h0.2.2.1, h.1 39 0 q h0.2.2.2]
  | 1 =>
    show (if i < 4 then ν.1 42 0 (4 * q + i) else 0) = (if i < 4 then μ.1 42 0 (4 * q + i) else 0)
    rw [h.1 42 0 _ (h1 42 _ (by omega) (by omega))]
  | 2 =>
    show (if i < 4 then ν.1 43 0 (4 * q + i) else 0) = (if i < 4 then μ.1 43 0 (4 * q + i) else 0)
    rw [h.1 43 0 _ (h1 43 _ (by omega) (by omega))]
  | 3 =>
    show (if i < 6 then ν.1 44 0 (6 * q + i) else 0) = (if i < 6 then μ.1 44 0 (6 * q + i) else 0)
    rw [h.1 44 0 _ (h1 44 _ (by omega) (by omega))]
  | 4 =>
    show (if i < 10 then ν.1 45 0 (10 * q + i) else 0) = (if i < 10 then μ.1 45 0 (10 * q + i) else 0)
    rw [h.1 45 0 _ (h1 45 _ (by omega) (by omega))]
  | 5 =>
    show (if i < 10 then ν.1 46 0 (10 * q + i) else 0) = (if i < 10 then μ.1 46 0 (10 * q + i) else 0)
    rw [h.1 46 0 _ (h1 46 _ (by omega) (by omega))]
  | 6 =>
    show (if i < 10 then ν.1 47 0 (10 * q + i) else 0) = (if i < 10 then μ.1 47 0 (10 * q + i) else 0)
    rw [h.1 47 0 _ (h1 47 _ (by omega) (by omega))]
  | 7 =>
    show (if i < 10 then ν.1 48 0 (10 * q + i) else 0) = (if i < 10 then μ.1 48 0 (10 * q + i) else 0)
    rw [h.1 48 0 _ (h1 48 _ (by omega) (by omega))]
  | 8 =>
    show (if i < 10 then ν.1 49 0 (10 * q + i) else 0) = (if i < 10 then μ.1 49 0 (10 * q + i) else 0)
    rw [h.1 49 0 _ (h1 49 _ (by omega) (by omega))]
  | 9 =>
    show (if i < 10 then ν.1 50 0 (10 * q + i) else 0) = (if i < 10 then μ.1 50 0 (10 * q + i) else 0)
    rw [h.1 50 0 _ (h1 50 _ (by omega) (by omega))]
  | 10 =>
    show (if i < 10 then ν.1 51 0 (10 * q + i) else 0) = (if i < 10 then μ.1 51 0 (10 * q + i) else 0)
    rw [h.1 51 0 _ (h1 51 _ (by omega) (by omega))]
  | 11 =>
    show (if i < 10 then ν.1 52 0 (10 * q + i) else 0) = (if i < 10 then μ.1 52 0 (10 * q + i) else 0)
    rw [h.1 52 0 _ (h1 52 _ (by omega) (by omega))]
  | 12 =>
    show (if i < 8 then ν.1 53 0 (8 * q + i) else 0) = (if i < 8 then μ.1 53 0 (8 * q + i) else 0)
    rw [h.1 53 0 _ (h1 53 _ (by omega) (by omega))]
  | 13 =>
    show (if i < 8 then ν.1 54 0 (8 * q + i) else 0) = (if i < 8 then μ.1 54 0 (8 * q + i) else 0)
    rw [h.1 54 0 _ (h1 54 _ (by omega) (by omega))]
  | m + 14 => rfl
theorem cuB_tk {μ ν : zM} (h : frm tkP tkQ μ ν) (q : Nat) : cuB ν q = cuB μ q := cuB_frm h q ⟨rfl, rfl, rfl, rfl⟩ (fun κ k h1 h2 => by
  unfold tkP
  rw [decide_eq_false (by omega)]; rfl)
theorem cuB_pI11 (μ : zM) (k : Nat) (v : Int32) (q : Nat) : cuB (pI μ 11 0 k v) q = cuB μ q := cuB_frm (P := fun κ _ => decide (κ = 11)) (Q := fun _ _ => false) (frm_I (frm.rf μ) (by simp) v) q ⟨rfl, rfl, rfl, rfl⟩ (fun κ k h1 h2 => decide_eq_false (by omega))
theorem cuB_pL (μ : zM) (κ o k : Nat) (v : Int64) (q : Nat) : cuB (pL μ κ o k v) q = cuB μ q := rfl
/-- the reference reads a custom into block 1: at the token b, with what is told, the names, where the codes end -/
def PS (μ : zM) (n b : Nat) (cu : zB) (hn pn : Nat → Int64) (c : Nat) : Prop := PI μ n b ∧ cuB μ 1 = cu ∧ μ.2 40 0 = hn ∧ μ.2 41 0 = pn ∧ μ.1 11 0 32 = nI c
theorem PS_tk {μ ν : zM} {n b b' c : Nat} {cu : zB} {hn pn : Nat → Int64} (h : PS μ n b cu hn pn c) (hf : frm tkP tkQ μ ν) (hp : PI ν n b') : PS ν n b' cu hn pn c := by
  obtain ⟨-, h2, h3, h4, h5⟩ := h
  refine ⟨hp, by rw [cuB_tk hf]; exact h2, ?_, ?_, by rw [hf.1 11 0 32 rfl]; exact h5⟩
  · rw [← h3]; funext k; exact hf.2 40 0 k rfl
  · rw [← h4]; funext k; exact hf.2 41 0 k rfl
theorem PS_45 {μ : zM} {n b c : Nat} {cu : zB} {hn pn : Nat → Int64} {v : Int32} (h : PS μ n b cu hn pn c) : PS (pI μ 11 0 45 v) n b cu hn pn c := by
  obtain ⟨h1, h2, h3, h4, h5⟩ := h
  exact ⟨PI_45 h1, by rw [cuB_pI11]; exact h2, h3, h4, by rw [pI_place _ _ _ _ (by decide)]; exact h5⟩
theorem PI_far {μ : zM} {n b κ k : Nat} {v : Int32} (h : PI μ n b) (h1 : κ ≠ 11) (h2 : κ ≠ 35) : PI (pI μ κ 0 k v) n b := by
  obtain ⟨a1, a2, a3, a5, a6, a4, a7, a8⟩ := h
  refine ⟨a1, a2, ?_, ?_⟩
  · rw [pI_other _ _ _ _ _ _ (Ne.symm h1)]; exact a3
  · rw [pI_row2 _ _ _ _ _ (Ne.symm h2)]
    exact ⟨by rw [pI_other _ _ _ _ _ _ (Ne.symm h1)]; exact a5, by rw [pI_other _ _ _ _ _ _ (Ne.symm h1)]; exact a6, by rw [pI_other _ _ _ _ _ _ (Ne.symm h1)]; exact a4, a7, by rw [pI_other _ _ _ _ _ _ (Ne.symm h1)]; exact a8⟩
theorem PI_L {μ : zM} {n b κ k : Nat} {v : Int64} (h : PI μ n b) (h1 : κ ≠ 11) : PI (pL μ κ 0 k v) n b := by
  obtain ⟨a1, a2, a3, a5, a6, a4, a7, a8⟩ := h
  refine ⟨a1, a2, a3, a5, a6, a4, ?_, a8⟩
  show (pL μ κ 0 k v).2 11 0 7 = _
  rw [show (pL μ κ 0 k v).2 11 0 7 = μ.2 11 0 7 by simp [pL, Ne.symm h1]]
  exact a7
def updN (f : Nat → Int64) (k : Nat) (v : Int64) : Nat → Int64 := fun j => if j = k then v else f j
theorem pL_rowN (μ : zM) (κ k : Nat) (v : Int64) : (pL μ κ 0 k v).2 κ 0 = updN (μ.2 κ 0) k v := by
  funext j
  simp [pL, updN]
