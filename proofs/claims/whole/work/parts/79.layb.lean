/-! what was told of bets lies in block 0 afterwards -/
theorem lay_55 (ν : zM) {i : Nat} (hi : i < 8) : (layM ν 1 0).1 55 0 i = ν.1 55 0 (8 + i) + lyC 1 0 := by
  rw [layM, pR_row2 _ _ _ _ (by decide), pR_row, shF, if_pos (by omega)]
  rw [show 8 * 1 + (i - 8 * 0) = 8 + i by omega]
theorem lay_56 (ν : zM) {i : Nat} (hi : i < 8) : (layM ν 1 0).1 56 0 i = ν.1 56 0 (8 + i) + lyC 1 0 := by
  rw [layM, pR_row, shF, if_pos (by omega)]
  rw [show 8 * 1 + (i - 8 * 0) = 8 + i by omega]
theorem lay_57 (ν : zM) {k : Nat} (hk : k < 1000) : (layM ν 1 0).1 57 0 k = ν.1 57 0 (1000 + k) := by
  rw [layM, pR_row2 _ _ _ _ (by decide), pR_row2 _ _ _ _ (by decide), ly57, pR_row]
  simp [va_cpy, hk]
theorem lyC_10 {a : Nat} (h : 1000 ≤ a) : nI a + lyC 1 0 = nI (a - 1000) := by
  rw [show a = (a - 1000) + 1000 by omega, ← nI_add, Int32.add_assoc, show nI 1000 + lyC 1 0 = 0 by decide, Int32.add_zero, show a - 1000 + 1000 - 1000 = a - 1000 by omega]
theorem cus_row (ν : zM) {κ : Nat} (h1 : κ ≠ 70) (h2 : κ ≠ 11) : (cusM ν).1 κ 0 = (layM ν 1 0).1 κ 0 := by
  rw [cusM, pR_row2 _ _ _ _ h1, pI_row2 _ _ _ _ _ h2]
theorem BO_cus {ν : zM} {T : Nat → Int32} {n b : Nat} {cu : zB} {hn pn : Nat → Int64} {bl : Nat → List Int32} {vals : Nat → (Nat → Int32) → Int32} (h : TI ν T n b cu hn pn bl) (hv : ∀ i, i < ix (cu 0 3) → evOk (bl i) (vals i)) : BO (cusM ν) (ix (cu 0 3)) vals := by
  obtain ⟨c, cd, ln, ⟨op, cm, hP, e57, -, -, hl⟩, h1, h2, hc, hB⟩ := h
  have y := zix hc.2.2.2
  have hb : b ≤ n := hP.1.1.2.1
  have hn1 : n ≤ 1000 := hP.1.1.1
  intro i hi
  obtain ⟨a, g1, g2, g3, g4, g5⟩ := hB i hi
  refine ⟨bl i, a - 1000, by omega, ?_, ?_, fun j hj => ?_, hv i hi⟩
  · rw [cus_row ν (by decide) (by decide), lay_55 ν (by omega), (hl (8 + i)).1, g3, lyC_10 g1]
  · rw [cus_row ν (by decide) (by decide), lay_56 ν (by omega), (hl (8 + i)).2, g4, lyC_10 (by omega), show a + (bl i).length - 1000 = a - 1000 + (bl i).length by omega]
  · rw [cus_row ν (by decide) (by decide), lay_57 ν (by omega), e57, show 1000 + (a - 1000 + j) = a + j by omega, g5 j hj]
