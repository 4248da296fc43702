/-! WHAT IS LAID, row by row -/
theorem lyR_36 (ν : zM) (f t : Nat) : (layM ν f t).1 36 0 = va_cpy (ν.1 36 0) (ν.1 36 0) (1 * f) (1 * t) 1 := by rw [layM, pR_row2 _ _ _ _ (by decide), pR_row2 _ _ _ _ (by decide), ly57, pR_row2 _ _ _ _ (by decide), ly54, pR_row2 _ _ _ _ (by decide), ly53, pR_row2 _ _ _ _ (by decide), ly52, pR_row2 _ _ _ _ (by decide), ly51, pR_row2 _ _ _ _ (by decide), ly50, pR_row2 _ _ _ _ (by decide), ly49, pR_row2 _ _ _ _ (by decide), ly48, pR_row2 _ _ _ _ (by decide), ly47, pR_row2 _ _ _ _ (by decide), ly46, pR_row2 _ _ _ _ (by decide), ly45, pR_row2 _ _ _ _ (by decide), ly44, pR_row2 _ _ _ _ (by decide), ly43, pR_row2 _ _ _ _ (by decide), ly42, pR_row2 _ _ _ _ (by decide), ly39, pR_row2 _ _ _ _ (by decide), ly38, pR_row2 _ _ _ _ (by decide), ly37, pR_row2 _ _ _ _ (by decide), ly36, pR_row]
theorem lyR_37 (ν : zM) (f t : Nat) : (layM ν f t).1 37 0 = va_cpy (ν.1 37 0) (ν.1 37 0) (1 * f) (1 * t) 1 := by rw [layM, pR_row2 _ _ _ _ (by decide), pR_row2 _ _ _ _ (by decide), ly57, pR_row2 _ _ _ _ (by decide), ly54, pR_row2 _ _ _ _ (by decide), ly53, pR_row2 _ _ _ _ (by decide), ly52, pR_row2 _ _ _ _ (by decide), ly51, pR_row2 _ _ _ _ (by decide), ly50, pR_row2 _ _ _ _ (by decide), ly49, pR_row2 _ _ _ _ (by decide), ly48, pR_row2 _ _ _ _ (by decide), ly47, pR_row2 _ _ _ _ (by decide), ly46, pR_row2 _ _ _ _ (by decide), ly45, pR_row2 _ _ _ _ (by decide), ly44, pR_row2 _ _ _ _ (by decide), ly43, pR_row2 _ _ _ _ (by decide), ly42, pR_row2 _ _ _ _ (by decide), ly39, pR_row2 _ _ _ _ (by decide), ly38, pR_row2 _ _ _ _ (by decide), ly37, pR_row]
theorem lyR_38 (ν : zM) (f t : Nat) : (layM ν f t).1 38 0 = va_cpy (ν.1 38 0) (ν.1 38 0) (1 * f) (1 * t) 1 := by rw [layM, pR_row2 _ _ _ _ (by decide), pR_row2 _ _ _ _ (by decide), ly57, pR_row2 _ _ _ _ (by decide), ly54, pR_row2 _ _ _ _ (by decide), ly53, pR_row2 _ _ _ _ (by decide), ly52, pR_row2 _ _ _ _ (by decide), ly51, pR_row2 _ _ _ _ (by decide), ly50, pR_row2 _ _ _ _ (by decide), ly49, pR_row2 _ _ _ _ (by decide), ly48, pR_row2 _ _ _ _ (by decide), ly47, pR_row2 _ _ _ _ (by decide), ly46, pR_row2 _ _ _ _ (by decide), ly45, pR_row2 _ _ _ _ (by decide), ly44, pR_row2 _ _ _ _ (by decide), ly43, pR_row2 _ _ _ _ (by decide), ly42, pR_row2 _ _ _ _ (by decide), ly39, pR_row2 _ _ _ _ (by decide), ly38, pR_row]
theorem lyR_39 (ν : zM) (f t : Nat) : (layM ν f t).1 39 0 = va_cpy (ν.1 39 0) (ν.1 39 0) (1 * f) (1 * t) 1 := by rw [layM, pR_row2 _ _ _ _ (by decide), pR_row2 _ _ _ _ (by decide), ly57, pR_row2 _ _ _ _ (by decide), ly54, pR_row2 _ _ _ _ (by decide), ly53, pR_row2 _ _ _ _ (by decide), ly52, pR_row2 _ _ _ _ (by decide), ly51, pR_row2 _ _ _ _ (by decide), ly50, pR_row2 _ _ _ _ (by decide), ly49, pR_row2 _ _ _ _ (by decide), ly48, pR_row2 _ _ _ _ (by decide), ly47, pR_row2 _ _ _ _ (by decide), ly46, pR_row2 _ _ _ _ (by decide), ly45, pR_row2 _ _ _ _ (by decide), ly44, pR_row2 _ _ _ _ (by decide), ly43, pR_row2 _ _ _ _ (by decide), ly42, pR_row2 _ _ _ _ (by decide), ly39, pR_row]
theorem lyR_42 (ν : zM) (f t : Nat) : (layM ν f t).1 42 0 = va_cpy (ν.1 42 0) (ν.1 42 0) (4 * f) (4 * t) 4 := by rw [layM, pR_row2 _ _ _ _ (by decide), pR_row2 _ _ _ _ (by decide), ly57, pR_row2 _ _ _ _ (by decide), ly54, pR_row2 _ _ _ _ (by decide), ly53, pR_row2 _ _ _ _ (by decide), ly52, pR_row2 _ _ _ _ (by decide), ly51, pR_row2 _ _ _ _ (by decide), ly50, pR_row2 _ _ _ _ (by decide), ly49, pR_row2 _ _ _ _ (by decide), ly48, pR_row2 _ _ _ _ (by decide), ly47, pR_row2 _ _ _ _ (by decide), ly46, pR_row2 _ _ _ _ (by decide), ly45, pR_row2 _ _ _ _ (by decide), ly44, pR_row2 _ _ _ _ (by decide), ly43, pR_row2 _ _ _ _ (by decide), ly42, pR_row]
theorem lyR_43 (ν : zM) (f t : Nat) : (layM ν f t).1 43 0 = va_cpy (ν.1 43 0) (ν.1 43 0) (4 * f) (4 * t) 4 := by rw [layM, pR_row2 _ _ _ _ (by decide), pR_row2 _ _ _ _ (by decide), ly57, pR_row2 _ _ _ _ (by decide), ly54, pR_row2 _ _ _ _ (by decide), ly53, pR_row2 _ _ _ _ (by decide), ly52, pR_row2 _ _ _ _ (by decide), ly51, pR_row2 _ _ _ _ (by decide), ly50, pR_row2 _ _ _ _ (by decide), ly49, pR_row2 _ _ _ _ (by decide), ly48, pR_row2 _ _ _ _ (by decide), ly47, pR_row2 _ _ _ _ (by decide), ly46, pR_row2 _ _ _ _ (by decide), ly45, pR_row2 _ _ _ _ (by decide), ly44, pR_row2 _ _ _ _ (by decide), ly43, pR_row]
theorem lyR_44 (ν : zM) (f t : Nat) : (layM ν f t).1 44 0 = va_cpy (ν.1 44 0) (ν.1 44 0) (6 * f) (6 * t) 6 := by rw [layM, pR_row2 _ _ _ _ (by decide), pR_row2 _ _ _ _ (by decide), ly57, pR_row2 _ _ _ _ (by decide), ly54, pR_row2 _ _ _ _ (by decide), ly53, pR_row2 _ _ _ _ (by decide), ly52, pR_row2 _ _ _ _ (by decide), ly51, pR_row2 _ _ _ _ (by decide), ly50, pR_row2 _ _ _ _ (by decide), ly49, pR_row2 _ _ _ _ (by decide), ly48, pR_row2 _ _ _ _ (by decide), ly47, pR_row2 _ _ _ _ (by decide), ly46, pR_row2 _ _ _ _ (by decide), ly45, pR_row2 _ _ _ _ (by decide), ly44, pR_row]
theorem lyR_45 (ν : zM) (f t : Nat) : (layM ν f t).1 45 0 = va_cpy (ν.1 45 0) (ν.1 45 0) (10 * f) (10 * t) 10 := by rw [layM, pR_row2 _ _ _ _ (by decide), pR_row2 _ _ _ _ (by decide), ly57, pR_row2 _ _ _ _ (by decide), ly54, pR_row2 _ _ _ _ (by decide), ly53, pR_row2 _ _ _ _ (by decide), ly52, pR_row2 _ _ _ _ (by decide), ly51, pR_row2 _ _ _ _ (by decide), ly50, pR_row2 _ _ _ _ (by decide), ly49, pR_row2 _ _ _ _ (by decide), ly48, pR_row2 _ _ _ _ (by decide), ly47, pR_row2 _ _ _ _ (by decide), ly46, pR_row2 _ _ _ _ (by decide), ly45, pR_row]
theorem lyR_46 (ν : zM) (f t : Nat) : (layM ν f t).1 46 0 = va_cpy (ν.1 46 0) (ν.1 46 0) (10 * f) (10 * t) 10 := by rw [layM, pR_row2 _ _ _ _ (by decide), pR_row2 _ _ _ _ (by decide), ly57, pR_row2 _ _ _ _ (by decide), ly54, pR_row2 _ _ _ _ (by decide), ly53, pR_row2 _ _ _ _ (by decide), ly52, pR_row2 _ _ _ _ (by decide), ly51, pR_row2 _ _ _ _ (by decide), ly50, pR_row2 _ _ _ _ (by decide), ly49, pR_row2 _ _ _ _ (by decide), ly48, pR_row2 _ _ _ _ (by decide), ly47, pR_row2 _ _ _ _ (by decide), ly46, pR_row]
theorem lyR_47 (ν : zM) (f t : Nat) : (layM ν f t).1 47 0 = va_cpy (ν.1 47 0) (ν.1 47 0) (10 * f) (10 * t) 10 := by rw [layM, pR_row2 _ _ _ _ (by decide), pR_row2 _ _ _ _ (by decide), ly57, pR_row2 _ _ _ _ (by decide), ly54, pR_row2 _ _ _ _ (by decide), ly53, pR_row2 _ _ _ _ (by decide), ly52, pR_row2 _ _ _ _ (by decide), ly51, pR_row2 _ _ _ _ (by decide), ly50, pR_row2 _ _ _ _ (by decide), ly49, pR_row2 _ _ _ _ (by decide), ly48, pR_row2 _ _ _ _ (by decide), ly47, pR_row]
theorem lyR_48 (ν : zM) (f t : Nat) : (layM ν f t).1 48 0 = va_cpy (ν.1 48 0) (ν.1 48 0) (10 * f) (10 * t) 10 := by rw [layM, pR_row2 _ _ _ _ (by decide), pR_row2 _ _ _ _ (by decide), ly57, pR_row2 _ _ _ _ (by decide), ly54, pR_row2 _ _ _ _ (by decide), ly53, pR_row2 _ _ _ _ (by decide), ly52, pR_row2 _ _ _ _ (by decide), ly51, pR_row2 _ _ _ _ (by decide), ly50, pR_row2 _ _ _ _ (by decide), ly49, pR_row2 _ _ _ _ (by decide), ly48, pR_row]
theorem lyR_49 (ν : zM) (f t : Nat) : (layM ν f t).1 49 0 = va_cpy (ν.1 49 0) (ν.1 49 0) (10 * f) (10 * t) 10 := by rw [layM, pR_row2 _ _ _ _ (by decide), pR_row2 _ _ _ _ (by decide), ly57, pR_row2 _ _ _ _ (by decide), ly54, pR_row2 _ _ _ _ (by decide), ly53, pR_row2 _ _ _ _ (by decide), ly52, pR_row2 _ _ _ _ (by decide), ly51, pR_row2 _ _ _ _ (by decide), ly50, pR_row2 _ _ _ _ (by decide), ly49, pR_row]
theorem lyR_50 (ν : zM) (f t : Nat) : (layM ν f t).1 50 0 = va_cpy (ν.1 50 0) (ν.1 50 0) (10 * f) (10 * t) 10 := by rw [layM, pR_row2 _ _ _ _ (by decide), pR_row2 _ _ _ _ (by decide), ly57, pR_row2 _ _ _ _ (by decide), ly54, pR_row2 _ _ _ _ (by decide), ly53, pR_row2 _ _ _ _ (by decide), ly52, pR_row2 _ _ _ _ (by decide), ly51, pR_row2 _ _ _ _ (by decide), ly50, pR_row]
theorem lyR_51 (ν : zM) (f t : Nat) : (layM ν f t).1 51 0 = va_cpy (ν.1 51 0) (ν.1 51 0) (10 * f) (10 * t) 10 := by rw [layM, pR_row2 _ _ _ _ (by decide), pR_row2 _ _ _ _ (by decide), ly57, pR_row2 _ _ _ _ (by decide), ly54, pR_row2 _ _ _ _ (by decide), ly53, pR_row2 _ _ _ _ (by decide), ly52, pR_row2 _ _ _ _ (by decide), ly51, pR_row]
theorem lyR_52 (ν : zM) (f t : Nat) : (layM ν f t).1 52 0 = va_cpy (ν.1 52 0) (ν.1 52 0) (10 * f) (10 * t) 10 := by rw [layM, pR_row2 _ _ _ _ (by decide), pR_row2 _ _ _ _ (by decide), ly57, pR_row2 _ _ _ _ (by decide), ly54, pR_row2 _ _ _ _ (by decide), ly53, pR_row2 _ _ _ _ (by decide), ly52, pR_row]
theorem lyR_53 (ν : zM) (f t : Nat) : (layM ν f t).1 53 0 = va_cpy (ν.1 53 0) (ν.1 53 0) (8 * f) (8 * t) 8 := by rw [layM, pR_row2 _ _ _ _ (by decide), pR_row2 _ _ _ _ (by decide), ly57, pR_row2 _ _ _ _ (by decide), ly54, pR_row2 _ _ _ _ (by decide), ly53, pR_row]
theorem lyR_54 (ν : zM) (f t : Nat) : (layM ν f t).1 54 0 = va_cpy (ν.1 54 0) (ν.1 54 0) (8 * f) (8 * t) 8 := by rw [layM, pR_row2 _ _ _ _ (by decide), pR_row2 _ _ _ _ (by decide), ly57, pR_row2 _ _ _ _ (by decide), ly54, pR_row]
theorem lyR_57 (ν : zM) (f t : Nat) : (layM ν f t).1 57 0 = va_cpy (ν.1 57 0) (ν.1 57 0) (1000 * f) (1000 * t) 1000 := by rw [layM, pR_row2 _ _ _ _ (by decide), pR_row2 _ _ _ _ (by decide), ly57, pR_row]
theorem lyR_55 (ν : zM) (f t : Nat) : (layM ν f t).1 55 0 = shF (lyC f t) (ν.1 55 0) (8 * f) (8 * t) 8 := by rw [layM, pR_row2 _ _ _ _ (by decide), pR_row]
theorem lyR_56 (ν : zM) (f t : Nat) : (layM ν f t).1 56 0 = shF (lyC f t) (ν.1 56 0) (8 * f) (8 * t) 8 := by rw [layM, pR_row]
theorem lay_in {f g : Nat → Int32} {W a b k : Nat} (h : k < W) : va_cpy f g (W * a) (W * b) W (W * b + k) = f (W * a + k) := by
  rw [pk_cpy_in (by omega) (by omega)]
  exact congrArg f (by omega)
theorem lay_in1 {f g : Nat → Int32} {a b : Nat} : va_cpy f g (1 * a) (1 * b) 1 b = f a := by
  rw [pk_cpy_in (by omega) (by omega)]
  exact congrArg f (by omega)
theorem lay_out {f g : Nat → Int32} {W a b q k : Nat} (h : k < W) (hq : q ≠ b) : va_cpy f g (W * a) (W * b) W (W * q + k) = g (W * q + k) := by
  refine pk_cpy_out ?_
  rcases Nat.lt_or_gt_of_ne hq with z | z
  · have := Nat.mul_le_mul_left W (show q + 1 ≤ b from z)
    rw [Nat.mul_add] at this
    omega
  · have := Nat.mul_le_mul_left W (show b + 1 ≤ q from z)
    rw [Nat.mul_add] at this
    omega
theorem lay_out1 {f g : Nat → Int32} {a b q : Nat} (hq : q ≠ b) : va_cpy f g (1 * a) (1 * b) 1 q = g q := pk_cpy_out (by omega)
theorem cuB_lay (ν : zM) (f t : Nat) : cuB (layM ν f t) t = cuB ν f := by
  funext j k
  unfold cuB
  simp only [lyR_36, lyR_37, lyR_38, lyR_39, lyR_42, lyR_43, lyR_44, lyR_45, lyR_46, lyR_47, lyR_48, lyR_49, lyR_50, lyR_51, lyR_52, lyR_53, lyR_54, lay_in1]
  split <;> (try rfl) <;> (split <;> first | rfl | exact lay_in (by assumption))
theorem cuB_far (ν : zM) (f : Nat) {t q : Nat} (hq : q ≠ t) : cuB (layM ν f t) q = cuB ν q := by
  funext j k
  unfold cuB
  simp only [lyR_36, lyR_37, lyR_38, lyR_39, lyR_42, lyR_43, lyR_44, lyR_45, lyR_46, lyR_47, lyR_48, lyR_49, lyR_50, lyR_51, lyR_52, lyR_53, lyR_54, lay_out1 hq]
  split <;> (try rfl) <;> (split <;> first | rfl | exact lay_out (by assumption) hq)
/-! bets, from block to block -/
theorem lyC_to {a f t : Nat} (h : 1000 * f ≤ a) : nI a + lyC f t = nI (a - 1000 * f + 1000 * t) := by
  have e : lyC f t = nI (1000 * t) - nI (1000 * f) := by
    unfold lyC
    rw [Int32.mul_sub, show (1000 : Int32) = nI 1000 from rfl, nI_mul, nI_mul]
  rw [e]
  obtain ⟨c, rfl⟩ : ∃ c, a = c + 1000 * f := ⟨a - 1000 * f, by omega⟩
  rw [show c + 1000 * f - 1000 * f + 1000 * t = c + 1000 * t by omega, ← nI_add, ← nI_add, Int32.sub_eq_add_neg, Int32.add_assoc, Int32.add_comm (nI (1000 * t)), ← Int32.add_assoc (nI (1000 * f)), Int32.add_right_neg, Int32.zero_add]
theorem BWq_lay {ν : zM} {f t nb : Nat} {vw : zV3} (hn : nb ≤ 8) (h : BWq ν f nb vw) : BWq (layM ν f t) t nb vw := by
  obtain ⟨vals, h1, h2⟩ := h
  refine ⟨vals, fun i hi => ?_, h2⟩
  obtain ⟨L, a, g1, g2, g3, g4, g5, g6⟩ := h1 i hi
  refine ⟨L, a - 1000 * f + 1000 * t, by omega, by omega, ?_, ?_, fun j hj => ?_, g6⟩
  · rw [lyR_55, shF, if_pos (by omega), show 8 * f + (8 * t + i - 8 * t) = 8 * f + i by omega, g3, lyC_to g1]
  · rw [lyR_56, shF, if_pos (by omega), show 8 * f + (8 * t + i - 8 * t) = 8 * f + i by omega, g4, lyC_to (by omega)]
    exact congrArg nI (by omega)
  · rw [lyR_57, show a - 1000 * f + 1000 * t + j = 1000 * t + (a - 1000 * f + j) by omega, lay_in (by omega), show 1000 * f + (a - 1000 * f + j) = a + j by omega]
    exact g5 j hj
theorem BWq_far {ν : zM} {f t q nb : Nat} {vw : zV3} (hn : nb ≤ 8) (hq : q ≠ t) (h : BWq ν q nb vw) : BWq (layM ν f t) q nb vw := by
  obtain ⟨vals, h1, h2⟩ := h
  refine ⟨vals, fun i hi => ?_, h2⟩
  obtain ⟨L, a, g1, g2, g3, g4, g5, g6⟩ := h1 i hi
  refine ⟨L, a, g1, g2, ?_, ?_, fun j hj => ?_, g6⟩
  · rw [lyR_55, shF_far (by omega)]; exact g3
  · rw [lyR_56, shF_far (by omega)]; exact g4
  · rw [lyR_57, show a + j = 1000 * q + (a - 1000 * q + j) by omega, lay_out (by omega) hq, show 1000 * q + (a - 1000 * q + j) = a + j by omega]
    exact g5 j hj
/-! customs that are one where it counts -/
def cwd (j : Nat) : Nat := if j ≤ 2 then 4 else if j = 3 then 6 else if j ≤ 11 then 10 else if j ≤ 13 then 8 else 0
def cuQ (a b : zB) : Prop := ∀ j k, k < cwd j → a j k = b j k
def ctr (a : zB) : zB := fun j k => if k < cwd j then a j k else 0
theorem cuQ_symm {a b : zB} (h : cuQ a b) : cuQ b a := fun j k q => (h j k q).symm
theorem cuQ_trans {a b c : zB} (h : cuQ a b) (h2 : cuQ b c) : cuQ a c := fun j k q => (h j k q).trans (h2 j k q)
theorem cuQ_tr (a : zB) : cuQ a (ctr a) := fun j k q => by unfold ctr; rw [if_pos q]
theorem cuB_0 (μ : zM) : cuB μ 0 = ctr (cuZ μ) := by
  funext j k
  unfold cuB ctr cuZ
  match j with
  | 0 =>
    have g : ∀ e : Int32, (4 ≤ k → e = 0) → e = if k < 4 then e else 0 := fun e he => by
      by_cases h : k < 4
      · rw [if_pos h]
      · rw [if_neg h]; exact he (by omega)
    exact g (if k = 0 then μ.1 36 0 0 else if k = 1 then μ.1 37 0 0 else if k = 2 then μ.1 38 0 0 else if k = 3 then μ.1 39 0 0 else 0) (fun h => by rw [if_neg (by omega), if_neg (by omega), if_neg (by omega), if_neg (by omega)])
  | 1 => show (if k < 4 then μ.1 42 0 (4 * 0 + k) else 0) = if k < 4 then μ.1 42 0 k else 0; rw [Nat.mul_zero, Nat.zero_add]
  | 2 => show (if k < 4 then μ.1 43 0 (4 * 0 + k) else 0) = if k < 4 then μ.1 43 0 k else 0; rw [Nat.mul_zero, Nat.zero_add]
  | 3 => show (if k < 6 then μ.1 44 0 (6 * 0 + k) else 0) = if k < 6 then μ.1 44 0 k else 0; rw [Nat.mul_zero, Nat.zero_add]
  | 4 => show (if k < 10 then μ.1 45 0 (10 * 0 + k) else 0) = if k < 10 then μ.1 45 0 k else 0; rw [Nat.mul_zero, Nat.zero_add]
  | 5 => show (if k < 10 then μ.1 46 0 (10 * 0 + k) else 0) = if k < 10 then μ.1 46 0 k else 0; rw [Nat.mul_zero, Nat.zero_add]
  | 6 => show (if k < 10 then μ.1 47 0 (10 * 0 + k) else 0) = if k < 10 then μ.1 47 0 k else 0; rw [Nat.mul_zero, Nat.zero_add]
  | 7 => show (if k < 10 then μ.1 48 0 (10 * 0 + k) else 0) = if k < 10 then μ.1 48 0 k else 0; rw [Nat.mul_zero, Nat.zero_add]
  | 8 => show (if k < 10 then μ.1 49 0 (10 * 0 + k) else 0) = if k < 10 then μ.1 49 0 k else 0; rw [Nat.mul_zero, Nat.zero_add]
  | 9 => show (if k < 10 then μ.1 50 0 (10 * 0 + k) else 0) = if k < 10 then μ.1 50 0 k else 0; rw [Nat.mul_zero, Nat.zero_add]
  | 10 => show (if k < 10 then μ.1 51 0 (10 * 0 + k) else 0) = if k < 10 then μ.1 51 0 k else 0; rw [Nat.mul_zero, Nat.zero_add]
  | 11 => show (if k < 10 then μ.1 52 0 (10 * 0 + k) else 0) = if k < 10 then μ.1 52 0 k else 0; rw [Nat.mul_zero, Nat.zero_add]
  | 12 => show (if k < 8 then μ.1 53 0 (8 * 0 + k) else 0) = if k < 8 then μ.1 53 0 k else 0; rw [Nat.mul_zero, Nat.zero_add]
  | 13 => show (if k < 8 then μ.1 54 0 (8 * 0 + k) else 0) = if k < 8 then μ.1 54 0 k else 0; rw [Nat.mul_zero, Nat.zero_add]
  | n + 14 => exact (ite_self _).symm
theorem cuQ_n {a b : zB} (h : cuQ a b) : nHi b = nHi a ∧ nPe b = nPe a ∧ nLo b = nLo a ∧ nBe b = nBe a :=
  ⟨congrArg ix (h 0 0 (by decide)).symm, congrArg ix (h 0 1 (by decide)).symm, congrArg ix (h 0 2 (by decide)).symm, congrArg ix (h 0 3 (by decide)).symm⟩
theorem cOk_8 {a : zB} (h : cOk a) : nBe a ≤ 8 := by have := zix h.2.2.2.1; have : nBe a = ix (a 0 3) := rfl; omega
theorem cOk_Q {a b : zB} (h : cuQ a b) (hk : cOk a) : cOk b := by
  obtain ⟨e1, e2, e3, e4⟩ := cuQ_n h
  obtain ⟨n10, n6, n4⟩ := cOk_n hk
  obtain ⟨k1, k2, k3, k4, k5⟩ := hk
  refine ⟨by rw [← h 0 0 (by decide)]; exact k1, by rw [← h 0 1 (by decide)]; exact k2, by rw [← h 0 2 (by decide)]; exact k3, by rw [← h 0 3 (by decide)]; exact k4, fun l hl => ?_⟩
  rw [e3] at hl
  have w : ∀ j, 4 ≤ j ∧ j ≤ 11 → a j l = b j l := fun j hj => h j l (by unfold cwd; rw [if_neg (by omega), if_neg (by omega), if_pos (by omega)]; omega)
  rw [e1, e2, ← w 4 (by omega), ← w 5 (by omega), ← w 9 (by omega), ← w 11 (by omega), ← w 7 (by omega)]
  exact k5 l hl
theorem cZ_Q {a b : zB} (h : cuQ a b) (hk : cZ a) : cZ b := by
  obtain ⟨e1, e2, e3, e4⟩ := cuQ_n h
  obtain ⟨n10, n6, n4⟩ := cOk_n hk.1
  refine ⟨cOk_Q h hk.1, fun l hl => ?_, fun k hk2 => ?_⟩
  · rw [e3] at hl
    have w : ∀ j, 4 ≤ j ∧ j ≤ 11 → a j l = b j l := fun j hj => h j l (by unfold cwd; rw [if_neg (by omega), if_neg (by omega), if_pos (by omega)]; omega)
    rw [← w 4 (by omega), ← w 5 (by omega)]
    exact hk.2.1 l hl
  · rw [e1] at hk2
    rw [← h 1 k (show k < 4 by omega), ← h 2 k (show k < 4 by omega)]
    exact hk.2.2 k hk2
theorem cR_Q {a b : zB} {μ : zM} {c : Nat} (h : cuQ a b) (hk : cOk a) (hR : cR a μ c) : cR b μ c := by
  obtain ⟨e1, e2, e3, e4⟩ := cuQ_n h
  obtain ⟨n10, n6, n4⟩ := cOk_n hk
  have n8 := cOk_8 hk
  obtain ⟨⟨a0, a1, a2, a3⟩, b1, b3, b4, b5⟩ := hR
  refine ⟨⟨a0.trans (h 0 0 (by decide)), a1.trans (h 0 1 (by decide)), a2.trans (h 0 2 (by decide)), a3.trans (h 0 3 (by decide))⟩, fun k q => ?_, fun k q => ?_, fun l q => ?_, fun k q => ?_⟩
  · rw [e1] at q
    exact ⟨(b1 k q).1.trans (h 1 k (show k < 4 by omega)), (b1 k q).2.trans (h 2 k (show k < 4 by omega))⟩
  · rw [e2] at q
    exact (b3 k q).trans (h 3 k (show k < 6 by omega))
  · rw [e3] at q
    have w : ∀ j, 4 ≤ j ∧ j ≤ 11 → a j l = b j l := fun j hj => h j l (by unfold cwd; rw [if_neg (by omega), if_neg (by omega), if_pos (by omega)]; omega)
    rw [← w 4 (by omega), ← w 5 (by omega), ← w 6 (by omega), ← w 7 (by omega), ← w 8 (by omega), ← w 9 (by omega), ← w 10 (by omega), ← w 11 (by omega)]
    exact b4 l q
  · rw [e4] at q
    exact ⟨(b5 k q).1.trans (h 12 k (show k < 8 by omega)), (b5 k q).2.trans (h 13 k (show k < 8 by omega))⟩
theorem bR_Q {a b ν x : zB} (h : cuQ a b) (hR : bR a ν x) : bR b ν x := by
  obtain ⟨e1, e2, e3, e4⟩ := cuQ_n h
  unfold bR bS at *
  rw [e2, e3]
  exact hR
theorem LI_Q {a b x : zB} (h : cuQ a b) (hk : cOk a) (hR : LI a x) : LI b x := by
  obtain ⟨e1, e2, e3, e4⟩ := cuQ_n h
  obtain ⟨n10, n6, n4⟩ := cOk_n hk
  intro l q
  rw [e3] at q
  rw [← h 8 l (show l < 10 by omega)]
  exact hR l q
theorem wB2_Q {a b x : zB} {M : Int} (h : cuQ a b) (hk : cOk a) (hR : wB2 a x M) : wB2 b x M := ⟨LI_Q h hk hR.1, hR.2⟩
abbrev zSt.cs (S : zSt) (cu : zB) : zSt := (S.1, (cu, S.2.1.2), S.2.2)
theorem cI_Q {S : zSt} {μ : zM} {b : zB} (h : cuQ S.cu b) (hk : cOk S.cu) (hS : cI S μ) : cI (S.cs b) μ := by
  obtain ⟨h1, ⟨h3, h4⟩, h5, ⟨p, h6, h7, h8, h9⟩, h10⟩ := hS
  refine ⟨h1, ⟨cR_Q h hk h3, ?_⟩, bR_Q h h5, ⟨p, h6, h7, h8, fun j hj => bR_Q h (h9 j hj)⟩, h10⟩
  show wn (μ.1 25 0) (nBe b) S.vw
  rw [(cuQ_n h).2.2.2]; exact h4
theorem wI_Q {S : zSt} {M : Int} {b : zB} (h : cuQ S.cu b) (hS : wI M S) : wI M (S.cs b) := by
  obtain ⟨h1, h2, h3, h4, h5⟩ := hS
  exact ⟨h1, cZ_Q h h2, wB2_Q h h2.1 h3, ⟨h4.1, fun j hj => wB2_Q h h2.1 (h4.2 j hj)⟩, h5⟩
/-- class and reference, one behind the other; the reference's custom is the class's where it counts -/
theorem pr_E {l : Launch} {G : zG} {μ : zM} {lv lw : Nat} {y z : MethodName} {cc cd : ByteArray} {mL nL : Nat} {ret ret' : Option FieldType} {av aw : List Value} {M N : Int} (h : Rel M μ)
    (hc : ∀ S, cI S μ → rI S μ → wI M S → ∃ (A : Int32) (S' : zSt), wI N S' ∧ zCT l G lv y cc mL ret av μ (zI fun r μ1 => r = A ∧ fm clK μ μ1 ∧ cI S' μ1) ∧ ∀ μ1, rI S μ1 → zCT l G lw z cd nL ret' aw μ1 (zI fun r μ2 => r = A ∧ fm rfK μ1 μ2 ∧ ∃ b, cuQ S'.cu b ∧ rI (S'.cs b) μ2)) :
    zCT l G lv y cc mL ret av μ (zI fun r μ1 => zCT l G lw z cd nL ret' aw μ1 (zI fun r2 μ2 => r2 = r ∧ Rel N μ2)) := by
  obtain ⟨S, c1, c2, c3⟩ := h
  obtain ⟨A, S', w', k1, k2⟩ := hc S c1 c2 c3
  refine zCT_post k1 ?_
  rintro rv μ1 ⟨r, rfl, rfl, f1, i1⟩
  refine ⟨_, rfl, zCT_post (k2 μ1 (rI_fm f1 c2)) ?_⟩
  rintro rv μ2 ⟨r2, rfl, rfl, f2, b, hb, i2⟩
  exact ⟨_, rfl, rfl, S'.cs b, cI_Q hb w'.2.1.1 (cI_fm f2 i1), i2, wI_Q hb w'⟩
