/-! what the reading gives does not hang on what lay there before -/
theorem ngR_ind {op op' : Nat → Int32} : ∀ d, (∀ i, 1 ≤ i → i ≤ d → op i = op' i) → ngR op d = ngR op' d
  | 0, _ => rfl
  | d + 1, h => by rw [ngR, ngR, h (d + 1) (by omega) (by omega), ngR_ind d (fun i h1 h2 => h i h1 (by omega))]
theorem upd_ag {p q : Nat → Int32} {v : Int32} {d : Nat} (k : Nat) (h : ∀ i, i ≤ d → p i = q i) : ∀ i, i ≤ d → upd p k v i = upd q k v i := by
  intro i hi
  simp only [upd_eq]
  split
  · rfl
  · exact h i hi
theorem rdE_ind {T : Nat → Int32} {n b d : Nat} {w : Bool} {op cm op' cm' : Nat → Int32} (h1 : ∀ i, 1 ≤ i → i ≤ d → op i = op' i) (h2 : ∀ i, i ≤ d → cm i = cm' i) :
    (∃ e, rdE T n b d w op cm = .inl e ∧ rdE T n b d w op' cm' = .inl e) ∨ ∃ x d' w' p q p' q', rdE T n b d w op cm = .inr (x, d', w', p, q) ∧ rdE T n b d w op' cm' = .inr (x, d', w', p', q') ∧ (∀ i, 1 ≤ i → i ≤ d' → p i = p' i) ∧ (∀ i, i ≤ d' → q i = q' i) := by
  have push1 : ∀ v : Int32, ∀ i, 1 ≤ i → i ≤ d + 1 → upd op (d + 1) v i = upd op' (d + 1) v i := by
    intro v i a1 a2
    simp only [upd_eq]
    split
    · rfl
    · exact h1 i a1 (by omega)
  have push2 : ∀ v : Int32, ∀ i, i ≤ d + 1 → upd cm (d + 1) v i = upd cm' (d + 1) v i := by
    intro v i a2
    simp only [upd_eq]
    split
    · rfl
    · exact h2 i (by omega)
  cases w with
  | true =>
    simp only [rdE, if_true, rdW]
    split
    · exact Or.inl ⟨_, rfl, rfl⟩
    split
    · exact Or.inl ⟨_, rfl, rfl⟩
    split
    · exact Or.inr ⟨_, _, _, _, _, _, _, rfl, rfl, push1 _, push2 _⟩
    split
    · exact Or.inr ⟨_, _, _, _, _, _, _, rfl, rfl, push1 _, push2 _⟩
    · refine Or.inr ⟨_, _, _, _, _, _, _, rfl, by rw [ngR_ind d h1], ?_, ?_⟩
      · intro i a1 a2; exact h1 i a1 (Nat.le_trans a2 (ngR_le _ _))
      · intro i a2; exact h2 i (Nat.le_trans a2 (ngR_le _ _))
  | false =>
    have eE : ∀ o q, rdE T n b d false o q = rdV T n b d o q := fun _ _ => rfl
    rw [eE, eE]
    have e0 := h2 d (Nat.le_refl _)
    by_cases a0 : isG T n b 43 = true
    · have r1 : rdV T n b d op cm = .inr (20, d, true, op, cm) := by rw [rdV, if_pos a0]
      have r2 : rdV T n b d op' cm' = .inr (20, d, true, op', cm') := by rw [rdV, if_pos a0]
      exact Or.inr ⟨_, _, _, _, _, _, _, r1, r2, h1, h2⟩
    by_cases a1 : isG T n b 45 = true
    · have r1 : rdV T n b d op cm = .inr (21, d, true, op, cm) := by rw [rdV, if_neg a0, if_pos a1]
      have r2 : rdV T n b d op' cm' = .inr (21, d, true, op', cm') := by rw [rdV, if_neg a0, if_pos a1]
      exact Or.inr ⟨_, _, _, _, _, _, _, r1, r2, h1, h2⟩
    by_cases a2 : isG T n b 42 = true
    · have r1 : rdV T n b d op cm = .inr (22, d, true, op, cm) := by rw [rdV, if_neg a0, if_neg a1, if_pos a2]
      have r2 : rdV T n b d op' cm' = .inr (22, d, true, op', cm') := by rw [rdV, if_neg a0, if_neg a1, if_pos a2]
      exact Or.inr ⟨_, _, _, _, _, _, _, r1, r2, h1, h2⟩
    by_cases a3 : isG T n b 60 = true ∧ cm d = 0
    · have b3 : isG T n b 60 = true ∧ cm' d = 0 := ⟨a3.1, e0 ▸ a3.2⟩
      have r1 : rdV T n b d op cm = .inr (24, d, true, op, upd cm d 1) := by rw [rdV, if_neg a0, if_neg a1, if_neg a2, if_pos a3]
      have r2 : rdV T n b d op' cm' = .inr (24, d, true, op', upd cm' d 1) := by rw [rdV, if_neg a0, if_neg a1, if_neg a2, if_pos b3]
      exact Or.inr ⟨_, _, _, _, _, _, _, r1, r2, h1, upd_ag _ h2⟩
    have n3 : ¬ (isG T n b 60 = true ∧ cm' d = 0) := fun z => a3 ⟨z.1, e0.trans z.2⟩
    by_cases a4 : isG T n b 61 = true ∧ cm d = 0
    · have b4 : isG T n b 61 = true ∧ cm' d = 0 := ⟨a4.1, e0 ▸ a4.2⟩
      have r1 : rdV T n b d op cm = .inr (25, d, true, op, upd cm d 1) := by rw [rdV, if_neg a0, if_neg a1, if_neg a2, if_neg a3, if_pos a4]
      have r2 : rdV T n b d op' cm' = .inr (25, d, true, op', upd cm' d 1) := by rw [rdV, if_neg a0, if_neg a1, if_neg a2, if_neg n3, if_pos b4]
      exact Or.inr ⟨_, _, _, _, _, _, _, r1, r2, h1, upd_ag _ h2⟩
    have n4 : ¬ (isG T n b 61 = true ∧ cm' d = 0) := fun z => a4 ⟨z.1, e0.trans z.2⟩
    by_cases a5 : isW T n b 1111 = true
    · have r1 : rdV T n b d op cm = .inr (26, d, true, op, upd cm d 0) := by rw [rdV, if_neg a0, if_neg a1, if_neg a2, if_neg a3, if_neg a4, if_pos a5]
      have r2 : rdV T n b d op' cm' = .inr (26, d, true, op', upd cm' d 0) := by rw [rdV, if_neg a0, if_neg a1, if_neg a2, if_neg n3, if_neg n4, if_pos a5]
      exact Or.inr ⟨_, _, _, _, _, _, _, r1, r2, h1, upd_ag _ h2⟩
    by_cases a6 : isW T n b 423 = true
    · have r1 : rdV T n b d op cm = .inr (27, d, true, op, upd cm d 0) := by rw [rdV, if_neg a0, if_neg a1, if_neg a2, if_neg a3, if_neg a4, if_neg a5, if_pos a6]
      have r2 : rdV T n b d op' cm' = .inr (27, d, true, op', upd cm' d 0) := by rw [rdV, if_neg a0, if_neg a1, if_neg a2, if_neg n3, if_neg n4, if_neg a5, if_pos a6]
      exact Or.inr ⟨_, _, _, _, _, _, _, r1, r2, h1, upd_ag _ h2⟩
    by_cases a7 : isG T n b 41 = true ∧ 0 < d
    · have r1 : rdV T n b d op cm = .inr (29, ngR op (d - 1), false, op, cm) := by rw [rdV, if_neg a0, if_neg a1, if_neg a2, if_neg a3, if_neg a4, if_neg a5, if_neg a6, if_pos a7]
      have r2 : rdV T n b d op' cm' = .inr (29, ngR op' (d - 1), false, op', cm') := by rw [rdV, if_neg a0, if_neg a1, if_neg a2, if_neg n3, if_neg n4, if_neg a5, if_neg a6, if_pos a7]
      rw [← ngR_ind (d - 1) (fun i a1 a2 => h1 i a1 (by omega))] at r2
      exact Or.inr ⟨_, _, _, _, _, _, _, r1, r2, fun i a1 a2 => h1 i a1 (Nat.le_trans a2 (Nat.le_trans (ngR_le _ _) (Nat.sub_le _ _))), fun i a2 => h2 i (Nat.le_trans a2 (Nat.le_trans (ngR_le _ _) (Nat.sub_le _ _)))⟩
    by_cases a8 : d = 0 ∧ isG T n b 59 = true
    · exact Or.inl ⟨.ok (nbS T n b), by rw [rdV, if_neg a0, if_neg a1, if_neg a2, if_neg a3, if_neg a4, if_neg a5, if_neg a6, if_neg a7, if_pos a8], by rw [rdV, if_neg a0, if_neg a1, if_neg a2, if_neg n3, if_neg n4, if_neg a5, if_neg a6, if_neg a7, if_pos a8]⟩
    exact Or.inl ⟨.error (ftS 1 b), by rw [rdV, if_neg a0, if_neg a1, if_neg a2, if_neg a3, if_neg a4, if_neg a5, if_neg a6, if_neg a7, if_neg a8], by rw [rdV, if_neg a0, if_neg a1, if_neg a2, if_neg n3, if_neg n4, if_neg a5, if_neg a6, if_neg a7, if_neg a8]⟩
theorem rdR_ind {T : Nat → Int32} {n : Nat} : ∀ (f b d : Nat) (w : Bool) (op cm op' cm' : Nat → Int32), (∀ i, 1 ≤ i → i ≤ d → op i = op' i) → (∀ i, i ≤ d → cm i = cm' i) → rdR T n f b d w op cm = rdR T n f b d w op' cm'
  | 0, _, _, _, _, _, _, _, _, _ => rfl
  | f + 1, b, d, w, op, cm, op', cm', h1, h2 => by
    rcases rdE_ind (T := T) (n := n) (b := b) (w := w) h1 h2 with ⟨e, e1, e2⟩ | ⟨x, d', w', p, q, p', q', e1, e2, e3, e4⟩
    · rw [rdR_l e1, rdR_l e2]
    · rw [rdR_r e1, rdR_r e2, rdR_ind f (nbS T n b) d' w' p q p' q' e3 e4]
def exR (T : Nat → Int32) (n b : Nat) : List Int32 × Except Int32 Nat := rdR T n (n - b + 1) b 0 true (fun _ => 0) (fun _ => 0)
theorem exR_of (T : Nat → Int32) (n b : Nat) (op cm : Nat → Int32) : rdR T n (n - b + 1) b 0 true op (upd cm 0 0) = exR T n b := by
  refine rdR_ind _ _ _ _ _ _ _ _ (fun i a1 a2 => by omega) (fun i a2 => ?_)
  rw [show i = 0 by omega]; rfl
def RB (μ : zM) (T : Nat → Int32) (n b : Nat) (cu : zB) (hn pn : Nat → Int64) (c : Nat) (cd : Nat → Int32) (ln : Nat → Nat → Int32) : Prop := ∃ op cm, RI μ T n b cu hn pn c cd op cm ln
theorem RB_pr {μ μ' : zM} {T : Nat → Int32} {n b b' c : Nat} {cu cu' : zB} {hn pn hn' pn' : Nat → Int64} {cd : Nat → Int32} {ln : Nat → Nat → Int32} (h : RB μ T n b cu hn pn c cd ln) (hf : frm prP prQ μ μ') (hp : PT μ' T n b' cu' hn' pn' c) : RB μ' T n b' cu' hn' pn' c cd ln := by
  obtain ⟨op, cm, -, h57, h58, h59, hln⟩ := h
  refine ⟨op, cm, hp, ?_, ?_, ?_, ?_⟩
  · rw [← h57]; funext k; exact hf.1 57 0 k rfl
  · rw [← h58]; funext k; exact hf.1 58 0 k rfl
  · rw [← h59]; funext k; exact hf.1 59 0 k rfl
  · intro k; rw [hf.1 55 0 k rfl, hf.1 56 0 k rfl]; exact hln k
theorem cr_readsX {lc : Launch} {G : zG} {μ : zM} {T : Nat → Int32} {n b c : Nat} {cu : zB} {hn pn : Nat → Int64} {cd : Nat → Int32} {ln : Nat → Nat → Int32} (h : RB μ T n b cu hn pn c cd ln) (h1 : 1000 ≤ c) (h2 : c ≤ 1000 + b) :
    zCT lc G 2 yX11_reads cX11_reads 6 (some .boolean) [.ref (G.ad 11 0)] μ (zI fun r μ' => frm prB prQ μ μ' ∧ rdQ (exR T n b).2 r μ' (fun b' => RB μ' T n b' cu hn pn (c + (exR T n b).1.length) (wrC cd c (exR T n b).1) ln ∧ c + (exR T n b).1.length ≤ 1000 + b')) := by
  obtain ⟨op, cm, h⟩ := h
  have ct := cr_reads (lc := lc) (G := G) h h1 h2
  rw [exR_of] at ct
  refine zCT_post ct ?_
  rintro rv μ' ⟨r, rfl, hf, hq⟩
  refine ⟨r, rfl, hf, ?_⟩
  revert hq
  cases (exR T n b).2 with
  | error f => exact fun q => q
  | ok b' =>
    rintro ⟨q1, op', cm', q2, q3⟩
    exact ⟨q1, ⟨op', cm', q2⟩, q3⟩
