/-! rounds -/
theorem cOk_at {cu : zB} (h : cOk cu) {l : Nat} (hl : l < nLo cu) : l < 10 ∧ vp_in (cu 4 l) 6 ∧ vp_in (cu 5 l) 6 ∧ vp_in (cu 9 l) (nHi cu) ∧ (cu 11 l < 0 ∨ vp_in (cu 11 l) 6) ∧ vp_in (cu 7 l) 100 := by
  obtain ⟨h0, h1, h2, h3, h4⟩ := h
  have e2 := zix h2
  have e1 := zix h1
  obtain ⟨a, b, c, d, e⟩ := h4 l hl
  refine ⟨by have : nLo cu = ix (cu 0 2) := rfl; omega, vmono a (by have : nPe cu = ix (cu 0 1) := rfl; omega), vmono b (by have : nPe cu = ix (cu 0 1) := rfl; omega), c, ?_, e⟩
  rcases d with d | d
  · exact Or.inl (by rw [d]; decide)
  · exact Or.inr (vmono d (by have : nPe cu = ix (cu 0 1) := rfl; omega))
theorem cOk_n {cu : zB} (h : cOk cu) : nLo cu ≤ 10 ∧ nPe cu ≤ 6 ∧ nHi cu ≤ 4 := by
  obtain ⟨h0, h1, h2, h3, h4⟩ := h
  have e2 := zix h2
  have e1 := zix h1
  have e0 := zix h0
  have a1 : nLo cu = ix (cu 0 2) := rfl
  have a2 : nPe cu = ix (cu 0 1) := rfl
  have a3 : nHi cu = ix (cu 0 0) := rfl
  omega
theorem trn_inv {cu : zB} (hc : cOk cu) {w : Int32} {l : Nat} (hl : l < nLo cu) {b : zB} (I : bInv b) :
    bInv (trn cu w l b) ∧ sO (trn cu w l b) ≤ sO b ∧ sP (trn cu w l b) = sP b ∧ (sO (trn cu w l b) = sO b → trn cu w l b = b) := by
  obtain ⟨h10, h4, h5, -, h11, -⟩ := cOk_at hc hl
  unfold trn
  by_cases h6 : b 6 l = 0
  · rw [if_pos h6]
    exact ⟨I, by omega, rfl, fun _ => rfl⟩
  · rw [if_neg h6]
    have g5 := zix h5
    have g4 := zix h4
    obtain ⟨I1, s1, v1, p1⟩ := tk_inv h10 g5 g4 I
    have z1 := tkD_zero (b := b) (l := l) (g := ix (cu 5 l)) (d := ix (cu 4 l)) (v := tkC b l (ix (cu 5 l)))
    dsimp only
    generalize tkD b l (ix (cu 5 l)) (ix (cu 4 l)) (tkC b l (ix (cu 5 l))) = b1 at *
    by_cases hb : cu 11 l < 0 ∨ w = 0
    · rw [if_pos hb]
      exact ⟨I1, by omega, p1, fun e => z1 (by omega)⟩
    · rw [if_neg hb]
      have h11 : vp_in (cu 11 l) 6 := by
        rcases h11 with h | h
        · exact absurd (Or.inl h) hb
        · exact h
      have g11 := zix h11
      obtain ⟨I2, s2, v2, p2⟩ := tk_inv h10 g11 g4 I1
      have z2 := tkD_zero (b := b1) (l := l) (g := ix (cu 11 l)) (d := ix (cu 4 l)) (v := tkC b1 l (ix (cu 11 l)))
      refine ⟨I2, by omega, by rw [p2, p1], fun e => ?_⟩
      rw [z2 (by omega), z1 (by omega)]
theorem fdt_inv {cu : zB} (hc : cOk cu) {w : Int32} {b : zB} (I : bInv b) : ∀ n, n ≤ nLo cu →
    bInv (fd (trn cu w) n b) ∧ sO (fd (trn cu w) n b) ≤ sO b ∧ sP (fd (trn cu w) n b) = sP b ∧ (sO (fd (trn cu w) n b) = sO b → fd (trn cu w) n b = b)
  | 0, _ => ⟨I, Int.le_refl _, rfl, fun _ => rfl⟩
  | n + 1, hn => by
    obtain ⟨I1, s1, p1, z1⟩ := fdt_inv hc (w := w) I n (by omega)
    obtain ⟨I2, s2, p2, z2⟩ := trn_inv hc (w := w) (l := n) (by omega) I1
    simp only [fd]
    refine ⟨I2, by omega, by rw [p2, p1], fun e => ?_⟩
    rw [z2 (by omega), z1 (by omega)]
theorem rnd_inv {cu : zB} (hc : cOk cu) {w : Int32} {b : zB} (I : bInv b) :
    bInv (rnd cu w b) ∧ sO (rnd cu w b) ≤ sO b ∧ sP (rnd cu w b) = sP b ∧ (sO (rnd cu w b) = sO b → rnd cu w b = b) := fdt_inv hc I (nLo cu) (Nat.le_refl _)
theorem itr_fix {α : Type} {f : α → α} {a : α} (h : f a = a) : ∀ n, itr f n a = a
  | 0 => rfl
  | n + 1 => by simp only [itr]; rw [h]; exact itr_fix h n
theorem itr_inv {α : Type} {f : α → α} {P : α → Prop} (hf : ∀ a, P a → P (f a)) : ∀ n a, P a → P (itr f n a)
  | 0, a, h => h
  | n + 1, a, h => itr_inv hf n (f a) (hf a h)
theorem bU_bU (b : zB) (j k : Nat) (v w : Int32) : bU (bU b j k v) j k w = bU b j k w := by
  funext a c
  simp only [bU]
  split <;> rfl
theorem bU_at (b : zB) (j k : Nat) (v : Int32) : bU b j k v j k = v := by simp [bU]
theorem bU_ne (b : zB) {j k a c : Nat} (v : Int32) (h : ¬ (a = j ∧ c = k)) : bU b j k v a c = b a c := by simp only [bU]; rw [if_neg h]
