/-! a number's token is below 10000 -/
theorem runS_all {T : Nat → Int32} {n : Nat} {f : Int32 → Bool} : ∀ (k p j : Nat), p ≤ j → j < runS T n f k p → f (T j) = true
  | 0, p, j, h1, h2 => by rw [runS] at h2; omega
  | k + 1, p, j, h1, h2 => by
    rw [runS] at h2
    by_cases c : p < n ∧ f (T p) = true
    · rw [if_pos c] at h2
      by_cases e : j = p
      · rw [e]; exact c.2
      · exact runS_all k (p + 1) j (by omega) h2
    · rw [if_neg c] at h2; omega
theorem dgt_of {x : Int32} (h : dgt x = true) : ∃ m, m < 10 ∧ x - 48 = nI m := by
  unfold dgt at h
  simp only [Bool.and_eq_true, decide_eq_true_eq] at h
  have a1 : 48 ≤ x.toInt := by have := Int32.not_lt.mp h.1; exact Int32.le_iff_toInt_le.mp this
  have a2 : x.toInt ≤ 57 := by have := Int32.not_lt.mp h.2; exact Int32.le_iff_toInt_le.mp this
  obtain ⟨m, hm⟩ : ∃ m : Nat, x.toInt = 48 + m := ⟨(x.toInt - 48).toNat, by omega⟩
  refine ⟨m, by omega, ?_⟩
  have hx : x = nI (48 + m) := by
    have v : vp_in x 1000 := by rw [vp_in_iff]; omega
    have e := vof v (by omega)
    have : ix x = 48 + m := by
      have l := zix v
      have e2 := congrArg Int32.toInt e
      rw [hm] at e2
      have : (nI (ix x)).toInt = (ix x : Int) := nI_toInt (by omega)
      omega
    rw [e, this]
  rw [hx, show (48 : Int32) = nI 48 from rfl, nI_subN (by omega), show 48 + m - 48 = m by omega]
theorem nfS_bd {T : Nat → Int32} {b : Nat} : ∀ k, (∀ j, j < k → dgt (T (b + j)) = true) → ∃ m, m < 10 ^ k ∧ nfS T b k = nI m
  | 0, _ => ⟨0, by decide, rfl⟩
  | k + 1, h => by
    obtain ⟨m, hm, e⟩ := nfS_bd k (fun j hj => h j (by omega))
    obtain ⟨q, hq, e2⟩ := dgt_of (h k (by omega))
    refine ⟨m * 10 + q, by rw [Nat.pow_succ]; omega, ?_⟩
    rw [nfS, e, show (10 : Int32) = nI 10 from rfl, nI_mul]
    rw [Int32.sub_eq_add_neg] at e2 ⊢
    rw [Int32.add_assoc, e2, nI_add]
theorem nmS_bd {T : Nat → Int32} {n b : Nat} (h : tyS T n b = 2) : ∃ m, m < 10000 ∧ nmS T n b = nI m := by
  unfold tyS nmS at *
  unfold tAt at *
  by_cases c1 : b = n
  · rw [if_pos c1] at h; change (0 : Int32) = 2 at h; exact absurd h (by decide)
  rw [if_neg c1] at h ⊢
  by_cases c2 : ltr (T b) = true
  · rw [if_pos c2] at h
    dsimp only at h
    split at h <;> exact absurd h (by decide)
  rw [if_neg c2] at h ⊢
  by_cases c3 : dgt (T b) = true
  · rw [if_pos c3] at h ⊢
    dsimp only at h ⊢
    have hm : ∀ j, j < min (endS T n dgt b - b) 4 → dgt (T (b + j)) = true := fun j hj => runS_all (n - b) b (b + j) (by omega) (by show b + j < endS T n dgt b; omega)
    obtain ⟨m, a1, a2⟩ := nfS_bd _ hm
    exact ⟨m, Nat.lt_of_lt_of_le a1 (Nat.le_trans (Nat.pow_le_pow_right (by omega) (Nat.min_le_right _ 4)) (by decide)), a2⟩
  · rw [if_neg c3] at h
    dsimp only at h
    split at h <;> exact absurd h (by decide)
theorem fac_bd (T : Nat → Int32) (n b : Nat) : facS T n b = 0 ∨ facS T n b = 1 ∨ facS T n b = 2 ∨ facS T n b = 3 ∨ facS T n b = 4 ∨ facS T n b = 5 := by
  unfold facS
  by_cases h0 : tyS T n b = 1
  · rw [if_pos h0]
    by_cases h1 : wdS T n b = 3379448
    · rw [if_pos h1]; simp
    rw [if_neg h1]
    by_cases h2 : wdS T n b = 275356804
    · rw [if_pos h2]; simp
    rw [if_neg h2]
    by_cases h3 : wdS T n b = 10793335
    · rw [if_pos h3]; simp
    rw [if_neg h3]
    by_cases h4 : wdS T n b = 94492070
    · rw [if_pos h4]; simp
    rw [if_neg h4]
    by_cases h5 : wdS T n b = 16922
    · rw [if_pos h5]; simp
    rw [if_neg h5]; simp
  · rw [if_neg h0]; simp
