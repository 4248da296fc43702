theorem ixn {i : Nat} (h : i < 2 ^ 31) : ix (nI i) = i := nI_clamp h
theorem vin {i n : Nat} (h : i < n) (hn : n < 2 ^ 31) : vp_in (nI i) n := vp_in_nI h hn
theorem vof {x : Int32} {n : Nat} (h : vp_in x n) (hn : n < 2 ^ 31) : x = nI (ix x) := by
  obtain ⟨j, hj, rfl⟩ := vp_in_of h hn
  rw [ixn (by omega)]
theorem vmono {x : Int32} {n m : Nat} (h : vp_in x n) (hm : n ≤ m) : vp_in x m := by
  rw [vp_in_iff] at h ⊢
  omega
theorem vle {y : Int32} {n i : Nat} (h : vp_in y n) (hn : n < 2 ^ 31) (hi : i < 2 ^ 31) : y ≤ nI i ↔ ix y ≤ i := by
  have e := vof h hn
  have hx := zix h
  generalize ix y = j at e hx
  rw [e, nI_leI (by omega) hi]
theorem a6 (l : Nat) : (6 : Int32) + nI l = nI (6 + l) := nI_add 6 l
theorem a16 (l : Nat) : (16 : Int32) + nI l = nI (16 + l) := nI_add 16 l
theorem a26 (l : Nat) : (26 : Int32) + nI l = nI (26 + l) := nI_add 26 l
theorem a36 (l : Nat) : (36 : Int32) + nI l = nI (36 + l) := nI_add 36 l
theorem a46 (l : Nat) : (46 : Int32) + nI l = nI (46 + l) := nI_add 46 l
/-! loops over numbers -/
def fd {α : Type} (f : Nat → α → α) : Nat → α → α
  | 0, a => a
  | n + 1, a => f n (fd f n a)
def b2i (b : Bool) : Int32 := if b then 1 else 0
theorem b2i0 {b : Bool} : b2i b = 0 ↔ b = false := by cases b <;> decide
theorem b2i1 {b : Bool} : ¬ b2i b = 0 ↔ b = true := by cases b <;> decide
theorem b2i_vp {b : Bool} : narrow .boolean (.int (b2i b)) = .int (b2i b) := by cases b <;> decide
