/-! the reader goes on, and the counts stay within their bounds -/
theorem bnd_ok {α β : Type} {x : Except Int32 α} {f : α → Except Int32 β} {q : β} (h : (x >>= f) = .ok q) : ∃ a, x = .ok a ∧ f a = .ok q := by
  cases x with
  | error e => cases h
  | ok a => exact ⟨a, rfl, h⟩
section GR
variable {T : Nat → Int32} {n b : Nat}
theorem nb_gr (h : b ≤ n) : b ≤ nbS T n b ∧ nbS T n b ≤ n := ⟨nbS_ge h, nbS_le h⟩
theorem num_gr {lo hi : Int32} {q : Int32 × Nat} (h : numP T n lo hi b = .ok q) (hb : b ≤ n) : b ≤ q.2 ∧ q.2 ≤ n := by
  unfold numP at h
  split at h
  · split at h
    · cases h; exact nb_gr hb
    · cases h
  · cases h
theorem word_gr {w : Int64} {q : Nat} (h : wordP T n w b = .ok q) (hb : b ≤ n) : b ≤ q ∧ q ≤ n := by
  unfold wordP at h
  split at h
  · cases h; exact nb_gr hb
  · cases h
theorem end_gr {q : Nat} (h : endP T n b = .ok q) (hb : b ≤ n) : b ≤ q ∧ q ≤ n := by
  unfold endP at h
  split at h
  · cases h; exact nb_gr hb
  · cases h
theorem per_gr {pn : Nat → Int64} {np : Nat} {x1 x2 : Int32} {q : Int32 × Nat} (h : perP T n pn np x1 x2 b = .ok q) (hb : b ≤ n) : b ≤ q.2 ∧ q.2 ≤ n := by
  unfold perP at h
  split at h
  · cases h
  · split at h
    · split at h
      · cases h
      · cases h; exact nb_gr hb
    · cases h
theorem hil_gr {hn : Nat → Int64} {nh : Nat} {q : Int32 × Nat} (h : hilP T n hn nh b = .ok q) (hb : b ≤ n) : b ≤ q.2 ∧ q.2 ≤ n := by
  unfold hilP at h
  split at h
  · cases h
  · split at h
    · cases h; exact nb_gr hb
    · cases h
theorem kin_gr {q : Int32 × Nat} (h : kinP T n b = .ok q) (hb : b ≤ n) : b ≤ q.2 ∧ q.2 ≤ n := by
  unfold kinP at h
  split at h
  · cases h; exact nb_gr hb
  · cases h
theorem bai_gr {pn : Nat → Int64} {np : Nat} {x1 x2 : Int32} {q : Int32 × Nat} (h : baiP T n pn np x1 x2 b = .ok q) (hb : b ≤ n) : b ≤ q.2 ∧ q.2 ≤ n := by
  unfold baiP at h
  split at h
  · have := per_gr h (nb_gr hb).2
    exact ⟨Nat.le_trans (nb_gr hb).1 this.1, this.2⟩
  · cases h; exact ⟨Nat.le_refl _, hb⟩
theorem inc_vp {x : Int32} {N : Nat} (h : vp_in x (N + 1)) (hN : N < 1000) (hx : x ≠ nI N) : vp_in (x + 1) (N + 1) := by
  have e := vof h (by omega)
  have l := zix h
  have hne : ix x ≠ N := fun q => hx (by rw [e, q])
  rw [e, nI_1]
  exact vin (by omega) (by omega)
theorem cnt_0 {cu : zB} {v : Int32} (h : cnt cu) (hv : vp_in v 5) : cnt (bU cu 0 0 v) := by
  refine ⟨?_, ?_, ?_, ?_⟩
  · rw [bU_at]; exact hv
  · rw [bU_ne _ _ (by omega)]; exact h.2.1
  · rw [bU_ne _ _ (by omega)]; exact h.2.2.1
  · rw [bU_ne _ _ (by omega)]; exact h.2.2.2
theorem cnt_1 {cu : zB} {v : Int32} (h : cnt cu) (hv : vp_in v 7) : cnt (bU cu 0 1 v) := by
  refine ⟨?_, ?_, ?_, ?_⟩
  · rw [bU_ne _ _ (by omega)]; exact h.1
  · rw [bU_at]; exact hv
  · rw [bU_ne _ _ (by omega)]; exact h.2.2.1
  · rw [bU_ne _ _ (by omega)]; exact h.2.2.2
theorem cnt_2 {cu : zB} {v : Int32} (h : cnt cu) (hv : vp_in v 11) : cnt (bU cu 0 2 v) := by
  refine ⟨?_, ?_, ?_, ?_⟩
  · rw [bU_ne _ _ (by omega)]; exact h.1
  · rw [bU_ne _ _ (by omega)]; exact h.2.1
  · rw [bU_at]; exact hv
  · rw [bU_ne _ _ (by omega)]; exact h.2.2.2
theorem cnt_3 {cu : zB} {v : Int32} (h : cnt cu) (hv : vp_in v 9) : cnt (bU cu 0 3 v) := by
  refine ⟨?_, ?_, ?_, ?_⟩
  · rw [bU_ne _ _ (by omega)]; exact h.1
  · rw [bU_ne _ _ (by omega)]; exact h.2.1
  · rw [bU_ne _ _ (by omega)]; exact h.2.2.1
  · rw [bU_at]; exact hv
theorem hill_gr {cu : zB} {hn pn : Nat → Int64} {q : zB × (Nat → Int64) × Nat} (h : hillP T n cu hn pn b = .ok q) (hb : b ≤ n) (hc : cnt cu) (ht : tyS T n b ≠ 0) : b < q.2.2 ∧ q.2.2 ≤ n ∧ cnt q.1 := by
  unfold hillP at h
  split at h
  · cases h
  rename_i c4
  obtain ⟨w, -, h⟩ := bnd_ok h
  obtain ⟨b3, e3, h⟩ := bnd_ok h
  obtain ⟨d, e4, h⟩ := bnd_ok h
  obtain ⟨b5, e5, h⟩ := bnd_ok h
  obtain ⟨e, e6, h⟩ := bnd_ok h
  obtain ⟨b7, e7, h⟩ := bnd_ok h
  cases h
  have g1 := tok_grow hb ht
  have g1' := nb_gr (T := T) hb
  have g2 := nb_gr (T := T) g1'.2
  have g3 := word_gr e3 g2.2
  have g4 := num_gr e4 g3.2
  have g5 := word_gr e5 g4.2
  have g6 := num_gr e6 g5.2
  have g7 := end_gr e7 g6.2
  exact ⟨by show b < b7; omega, g7.2, cnt_0 (cnt_same (cnt_same hc (by decide)) (by decide)) (inc_vp hc.1 (by omega) c4)⟩
theorem purse_gr {cu : zB} {hn pn : Nat → Int64} {q : zB × (Nat → Int64) × Nat} (h : purseP T n cu hn pn b = .ok q) (hb : b ≤ n) (hc : cnt cu) (ht : tyS T n b ≠ 0) : b < q.2.2 ∧ q.2.2 ≤ n ∧ cnt q.1 := by
  unfold purseP at h
  split at h
  · cases h
  rename_i c4
  obtain ⟨w, -, h⟩ := bnd_ok h
  obtain ⟨d, e4, h⟩ := bnd_ok h
  obtain ⟨b7, e7, h⟩ := bnd_ok h
  cases h
  have g1 := tok_grow hb ht
  have g1' := nb_gr (T := T) hb
  have g2 := nb_gr (T := T) g1'.2
  have g4 := num_gr e4 g2.2
  have g7 := end_gr e7 g4.2
  exact ⟨by show b < b7; omega, g7.2, cnt_1 (cnt_same hc (by decide)) (inc_vp hc.2.1 (by omega) c4)⟩
theorem loan_gr {cu : zB} {hn pn : Nat → Int64} {q : zB × Nat} (h : loanP T n cu hn pn b = .ok q) (hb : b ≤ n) (hc : cnt cu) (ht : tyS T n b ≠ 0) : b < q.2 ∧ q.2 ≤ n ∧ cnt q.1 := by
  unfold loanP at h
  split at h
  · cases h
  rename_i c4
  obtain ⟨le, e2, h⟩ := bnd_ok h
  obtain ⟨b3, e3, h⟩ := bnd_ok h
  obtain ⟨de, e4, h⟩ := bnd_ok h
  obtain ⟨b5, e5, h⟩ := bnd_ok h
  obtain ⟨co, e6, h⟩ := bnd_ok h
  obtain ⟨b7, e7, h⟩ := bnd_ok h
  obtain ⟨ra, e8, h⟩ := bnd_ok h
  obtain ⟨b9, e9, h⟩ := bnd_ok h
  obtain ⟨du, e10, h⟩ := bnd_ok h
  obtain ⟨b11, e11, h⟩ := bnd_ok h
  obtain ⟨hi, e12, h⟩ := bnd_ok h
  obtain ⟨ki, e13, h⟩ := bnd_ok h
  obtain ⟨ba, e14, h⟩ := bnd_ok h
  obtain ⟨b15, e15, h⟩ := bnd_ok h
  cases h
  have g1 := tok_grow hb ht
  have g1' := nb_gr (T := T) hb
  have g2 := per_gr e2 g1'.2
  have g3 := word_gr e3 g2.2
  have g4 := per_gr e4 g3.2
  have g5 := word_gr e5 g4.2
  have g6 := num_gr e6 g5.2
  have g7 := word_gr e7 g6.2
  have g8 := num_gr e8 g7.2
  have g9 := word_gr e9 g8.2
  have g10 := num_gr e10 g9.2
  have g11 := word_gr e11 g10.2
  have g12 := hil_gr e12 g11.2
  have g13 := kin_gr e13 g12.2
  have g14 := bai_gr e14 g13.2
  have g15 := end_gr e15 g14.2
  refine ⟨by show b < b15; omega, g15.2, cnt_2 ?_ (inc_vp hc.2.2.1 (by omega) c4)⟩
  exact cnt_same (cnt_same (cnt_same (cnt_same (cnt_same (cnt_same (cnt_same (cnt_same hc (by decide)) (by decide)) (by decide)) (by decide)) (by decide)) (by decide)) (by decide)) (by decide)
theorem rdR_gr : ∀ (f b d : Nat) (w : Bool) (op cm : Nat → Int32) (b' : Nat), b ≤ n → (rdR T n f b d w op cm).2 = .ok b' → b ≤ b' ∧ b' ≤ n
  | 0, _, _, _, _, _, _, _, h => by cases h
  | f + 1, b, d, w, op, cm, b', hb, h => by
    cases e : rdE T n b d w op cm with
    | inl r =>
      rw [rdR_l e] at h
      change r = .ok b' at h
      rw [h] at e
      have key : .ok b' = (Except.ok (nbS T n b) : Except Int32 Nat) := by
        unfold rdE rdW rdV at e
        repeat' split at e
        all_goals first | (cases e; done) | (cases e; rfl)
      cases key
      exact nb_gr hb
    | inr q =>
      obtain ⟨x, d', w', op', cm'⟩ := q
      rw [rdR_r e] at h
      have g := nb_gr (T := T) hb
      have r := rdR_gr f (nbS T n b) d' w' op' cm' b' g.2 h
      exact ⟨Nat.le_trans g.1 r.1, r.2⟩
theorem bet_gr {cu : zB} {q : zB × List Int32 × Nat} (h : betP T n cu b = .ok q) (hb : b ≤ n) (hc : cnt cu) (ht : tyS T n b ≠ 0) : b < q.2.2 ∧ q.2.2 ≤ n ∧ cnt q.1 ∧ q.1 0 3 = cu 0 3 + 1 := by
  unfold betP at h
  split at h
  · cases h
  rename_i c4
  obtain ⟨p, e2, h⟩ := bnd_ok h
  obtain ⟨b2, e3, h⟩ := bnd_ok h
  obtain ⟨r, e4, h⟩ := bnd_ok h
  split at h
  · obtain ⟨b', e5, h⟩ := bnd_ok h
    cases h
    have g1 := tok_grow hb ht
    have g1' := nb_gr (T := T) hb
    have g2 := num_gr e2 g1'.2
    have g3 := word_gr e3 g2.2
    have g4 := num_gr e4 g3.2
    have g5 := nb_gr (T := T) g4.2
    have g6 := rdR_gr _ _ _ _ _ _ _ g5.2 e5
    refine ⟨by show b < b'; omega, g6.2, cnt_3 (cnt_same (cnt_same hc (by decide)) (by decide)) (inc_vp hc.2.2.2 (by omega) c4), ?_⟩
    dsimp only
    rw [bU_at]
  · cases h
end GR
