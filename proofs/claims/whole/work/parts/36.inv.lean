/-! what a day keeps -/
def bI (b : zB) (M : Int) : Prop := (∀ p, p < 6 → 0 ≤ (b 1 p).toInt) ∧ sP b ≤ 60000 ∧ (∀ l, l < 10 → 0 ≤ (b 2 l).toInt) ∧ sO b ≤ M
theorem bI_inv {b : zB} {M : Int} (h : bI b M) (hM : M ≤ 999999) : bInv b := ⟨h.1, h.2.1, h.2.2.1, Int.le_trans h.2.2.2 hM⟩
theorem bI_mono {b : zB} {M N : Int} (h : bI b M) (hM : M ≤ N) : bI b N := ⟨h.1, h.2.1, h.2.2.1, Int.le_trans h.2.2.2 hM⟩
theorem bI_same {b d : zB} {M : Int} (h : bI b M) (h1 : d 1 = b 1) (h2 : d 2 = b 2) : bI d M := by
  unfold bI sP sO at *
  simp only [h1, h2]
  exact h
theorem bU_row {b : zB} {j k i : Nat} {v : Int32} (h : i ≠ j) : bU b j k v i = b i := by
  funext c
  simp [bU, h]
theorem due_inv {cu : zB} (hc : cOk cu) {w : Int32} {l : Nat} (hl : l < nLo cu) {b : zB} {M : Int} (h : bI b M) (hM : M ≤ 1000000) : bI (due cu w l b) (M + 99) := by
  obtain ⟨h10, -, -, -, -, h7⟩ := cOk_at hc hl
  have r7 := vp_in_iff.mp h7
  unfold due
  split
  · exact bI_mono h (by omega)
  · have key : bI (du1 cu w l b) (M + 99) := by
      unfold du1
      split
      · dsimp only
        obtain ⟨i1, i2, i3, i4⟩ := h
        have ol := sumI_le (f := fun p => (b 2 p).toInt) i3 h10
        have i4 : sumI (fun p => (b 2 p).toInt) 10 ≤ M := i4
        have nn := i3 l h10
        have e1 : (b 2 l + cu 7 l).toInt = (b 2 l).toInt + (cu 7 l).toInt := addI (by omega) (by omega)
        have q : bU b 4 l (b 4 l + 1) 2 l = b 2 l := by simp [bU]
        rw [q]
        have r2 : ∀ k, bU (bU b 4 l (b 4 l + 1)) 2 l (b 2 l + cu 7 l) 2 k = if k = l then b 2 l + cu 7 l else b 2 k := by
          intro k
          by_cases hk : k = l
          · subst hk; simp [bU]
          · simp [bU, hk]
        have r1 : bU (bU b 4 l (b 4 l + 1)) 2 l (b 2 l + cu 7 l) 1 = b 1 := by rw [bU_row (by decide), bU_row (by decide)]
        generalize bU (bU b 4 l (b 4 l + 1)) 2 l (b 2 l + cu 7 l) = d at *
        refine ⟨fun p hp => by rw [r1]; exact i1 p hp, ?_, fun k hk => ?_, ?_⟩
        · unfold sP; rw [r1]; exact i2
        · rw [r2]
          by_cases hkl : k = l
          · rw [if_pos hkl, e1]; omega
          · rw [if_neg hkl]; exact i3 k hk
        · show sumI (fun p => (d 2 p).toInt) 10 ≤ _
          rw [sumI_upd (f := fun p => (b 2 p).toInt) (g := fun p => (d 2 p).toInt) (j := l) (fun k hk => by simp [r2, hk]) h10]
          simp only [r2, if_true, e1]
          omega
      · exact bI_mono h (by omega)
    unfold du2
    split
    · exact bI_same key (bU_row (by decide)) (bU_row (by decide))
    · exact key
theorem fdue_inv {cu : zB} (hc : cOk cu) {w : Int32} {b : zB} {M : Int} (h : bI b M) (hM : M ≤ 999009) : ∀ n, n ≤ nLo cu → bI (fd (due cu w) n b) (M + 99 * n)
  | 0, _ => by rw [show M + 99 * ((0 : Nat) : Int) = M by omega]; exact h
  | n + 1, hn => by
    have n10 := (cOk_n hc).1
    have := due_inv hc (w := w) (l := n) (by omega) (fdue_inv hc (w := w) h hM n (by omega)) (by omega)
    exact bI_mono this (by omega)
theorem fd_keep {P : zB → Prop} {f : Nat → zB → zB} (hf : ∀ l b, P b → P (f l b)) {b : zB} (h : P b) : ∀ n, P (fd f n b)
  | 0 => h
  | n + 1 => hf n _ (fd_keep hf h n)
theorem fall_inv {cu : zB} (hc : cOk cu) {w : Int32} {b : zB} {M : Int} (h : bI b M) (hM : M ≤ 999009) : bI (fall cu w b) (M + 990) := by
  have n10 := (cOk_n hc).1
  have h1 := bI_mono (fdue_inv hc (w := w) h hM (nLo cu) (Nat.le_refl _)) (show _ ≤ M + 990 by omega)
  unfold fall
  refine fd_keep (P := fun b => bI b (M + 990)) (fun l b hb => ?_) h1 _
  unfold jnd
  split
  · exact bI_same hb (bU_row (by decide)) (bU_row (by decide))
  · exact hb
theorem called_inv {cu : zB} {w : Int32} {b : zB} {M : Int} (h : bI b M) : bI (called cu w b) M := by
  unfold called
  refine fd_keep (P := fun b => bI b M) (fun l b hb => ?_) h _
  unfold cld
  exact bI_same hb (bU_row (by decide)) (bU_row (by decide))
theorem live_inv {cu : zB} (hc : cOk cu) {w : Int32} {b : zB} {M : Int} (h : bI b M) (hM : M ≤ 999009) : bInv (called cu w (fall cu w b)) ∧ bI (live cu w b) (M + 990) := by
  have h1 : bI (called cu w (fall cu w b)) (M + 990) := called_inv (fall_inv hc h hM)
  refine ⟨bI_inv h1 (by omega), ?_⟩
  have h2 : bI (itr (rnd cu w) 1000000 (called cu w (fall cu w b))) (M + 990) := by
    refine itr_inv (P := fun b => bI b (M + 990)) (fun d hd => ?_) _ _ h1
    obtain ⟨i, s, -, -⟩ := rnd_inv hc (w := w) (bI_inv hd (by omega))
    exact ⟨i.1, i.2.1, i.2.2.1, Int.le_trans s hd.2.2.2⟩
  unfold live
  have h3 : bI (fd cls (nLo cu) (itr (rnd cu w) 1000000 (called cu w (fall cu w b)))) (M + 990) := by
    refine fd_keep (P := fun b => bI b (M + 990)) (fun l b hb => ?_) h2 _
    unfold cls
    split
    · exact bI_same hb (bU_row (by decide)) (bU_row (by decide))
    · exact hb
  unfold fin
  exact bI_same h3 (by rw [bU_row (by decide), bU_row (by decide), bU_row (by decide)]) (by rw [bU_row (by decide), bU_row (by decide), bU_row (by decide)])
