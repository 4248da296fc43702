/-! reading and working go in step: a line that was read can be worked -/
def lkS (d : Nat) (op : Nat → Int32) (p : Nat × (Nat → Nat → Int32)) : Prop := p.1 = d ∧ ∀ i, 1 ≤ i → i ≤ d → (p.2 68 i = 1 ↔ op i = 1)
theorem eP_68 {E : Nat → Nat → Int32} {κ d i : Nat} {v : Int32} (h : κ ≠ 68) : eP E κ d v 68 i = E 68 i := if_neg (fun q => h q.1.symm)
theorem opE_68 (E : Nat → Nat → Int32) (d i : Nat) : opE E d 68 i = E 68 i := by
  unfold opE
  rw [eP_68 (by decide), eP_68 (by decide), eP_68 (by decide), eP_68 (by decide), eP_68 (by decide)]
theorem suE_68 (E : Nat → Nat → Int32) (d i : Nat) : suE E d 68 i = E 68 i := by
  unfold suE
  rw [eP_68 (by decide), eP_68 (by decide)]
theorem teE_68 (E : Nat → Nat → Int32) (d i : Nat) : teE E d 68 i = E 68 i := by
  unfold teE
  rw [eP_68 (by decide), eP_68 (by decide), eP_68 (by decide), eP_68 (by decide), suE_68]
theorem ng_lk {E : Nat → Nat → Int32} {op : Nat → Int32} : ∀ (d : Nat) (v : Int32), (∀ i, 1 ≤ i → i ≤ d → (E 68 i = 1 ↔ op i = 1)) → (ngE E d v).1 = ngR op d
  | 0, _, _ => rfl
  | d + 1, v, h => by
    rw [ngE, ngR]
    by_cases c : E 68 (d + 1) = 1
    · rw [if_pos c, if_pos ((h (d + 1) (by omega) (by omega)).mp c), ng_lk d _ (fun i h1 h2 => h i h1 (by omega))]
    · rw [if_neg c, if_neg (fun q => c ((h (d + 1) (by omega) (by omega)).mpr q))]
theorem tm_lk {E : Nat → Nat → Int32} {op : Nat → Int32} {e : Nat} {v : Int32} (h : ∀ i, 1 ≤ i → i ≤ e → (E 68 i = 1 ↔ op i = 1)) : lkS (ngR op e) op (tmE E (ngE E e v)) := by
  have g := ng_lk e v h
  refine ⟨g, fun i h1 h2 => ?_⟩
  unfold tmE
  dsimp only
  rw [eP_68 (by decide)]
  exact h i h1 (Nat.le_trans h2 (ngR_le _ _))
/-- a code that is a value -/
def vaC (x : Int32) : Prop := (¬ (x = 28 ∨ x = 30) ∧ ¬ (x = 20 ∨ x = 21) ∧ ¬ x = 22 ∧ ¬ (x = 24 ∨ x = 25) ∧ ¬ (x = 26 ∨ x = 27) ∧ ¬ x = 29) ∧ (x < 20 → vp_in x 20)
theorem vaC_num {m : Nat} (h : m < 10000) : vaC (100 + nI m) := by
  rw [show (100 : Int32) = nI 100 from rfl, nI_add]
  have ne : ∀ k : Nat, k < 100 → ¬ nI (100 + m) = nI k := fun k hk q => by
    have := congrArg ix q
    rw [ixn (by omega), ixn (by omega)] at this
    omega
  refine ⟨⟨fun q => q.elim (ne 28 (by omega)) (ne 30 (by omega)), fun q => q.elim (ne 20 (by omega)) (ne 21 (by omega)), ne 22 (by omega), fun q => q.elim (ne 24 (by omega)) (ne 25 (by omega)), fun q => q.elim (ne 26 (by omega)) (ne 27 (by omega)), ne 29 (by omega)⟩, fun q => absurd (nI_le (a := 20) (b := 100 + m) (by omega) (by omega)) (Int32.not_le.mpr q)⟩
theorem vaC_fac {T : Nat → Int32} {n b : Nat} (h : ¬ facS T n b ≤ 0) : vaC (facS T n b) := by
  rcases fac_bd T n b with e | e | e | e | e | e <;> rw [e] at h ⊢
  · exact absurd (by decide) h
  all_goals exact ⟨by decide, fun _ => by unfold vp_in; decide⟩
theorem wk_va {V : Nat → Int32} {x : Int32} {p : Nat × (Nat → Nat → Int32)} (h : vaC x) : wkE V x p = tmE p.2 (ngE p.2 p.1 (atV V x)) := by
  obtain ⟨⟨h1, h2, h3, h4, h5, h6⟩, -⟩ := h
  rw [wkE, if_neg h1, if_neg h2, if_neg h3, if_neg h4, if_neg h5, if_neg h6]
theorem lk_keep {d : Nat} {op : Nat → Int32} {p : Nat × (Nat → Nat → Int32)} {F : Nat → Nat → Int32} (h : lkS d op p) (hF : ∀ i, F 68 i = p.2 68 i) : lkS d op (p.1, F) := ⟨h.1, fun i h1 h2 => by show F 68 i = 1 ↔ _; rw [hF]; exact h.2 i h1 h2⟩
theorem lk_push {d : Nat} {op : Nat → Int32} {p : Nat × (Nat → Nat → Int32)} {u v : Int32} (h : lkS d op p) (huv : u = 1 ↔ v = 1) : lkS (d + 1) (upd op (d + 1) v) (p.1 + 1, opE (eP p.2 68 (p.1 + 1) u) (p.1 + 1)) := by
  refine ⟨by show p.1 + 1 = d + 1; rw [h.1], fun i h1 h2 => ?_⟩
  dsimp only
  rw [opE_68, upd_eq, h.1]
  dsimp only
  by_cases e : i = d + 1
  · rw [if_pos e, eP, if_pos ⟨rfl, e⟩]; exact huv
  · rw [if_neg e, eP, if_neg (fun q => e q.2)]; exact h.2 i h1 (by omega)
/-- one step of both -/
theorem lk_step {T : Nat → Int32} {n b d : Nat} {w : Bool} {op cm : Nat → Int32} {x : Int32} {d' : Nat} {w' : Bool} {op' cm' : Nat → Int32} {V : Nat → Int32} {p : Nat × (Nat → Nat → Int32)} (h : lkS d op p) (hd : d ≤ 5) (e : rdE T n b d w op cm = .inr (x, d', w', op', cm')) : okC x p.1 ∧ lkS d' op' (wkE V x p) ∧ d' ≤ 5 := by
  have va : ∀ {y : Int32}, vaC y → okC y p.1 ∧ lkS (ngR op d) op (wkE V y p) := by
    intro y hy
    refine ⟨⟨fun q => absurd q hy.1.1, fun q => absurd q hy.1.2.2.2.2.2, hy.2⟩, ?_⟩
    rw [wk_va hy, h.1]
    exact tm_lk h.2
  have cl : ∀ {y : Int32}, (y = 20 ∨ y = 21 ∨ y = 22 ∨ y = 24 ∨ y = 25 ∨ y = 26 ∨ y = 27) → okC y p.1 ∧ lkS d op (wkE V y p) := by
    intro y hy
    have ok : okC y p.1 := by
      rcases hy with e | e | e | e | e | e | e <;> subst e <;> exact ⟨fun q => absurd q (by decide), fun q => absurd q (by decide), fun q => absurd q (by decide)⟩
    refine ⟨ok, ?_⟩
    rcases hy with e | e | e | e | e | e | e <;> subst e
    · exact lk_keep h (fun i => by rw [eP_68 (by decide), suE_68])
    · exact lk_keep h (fun i => by rw [eP_68 (by decide), suE_68])
    · exact lk_keep h (fun i => by rw [eP_68 (by decide)])
    · exact lk_keep h (fun i => by rw [eP_68 (by decide), eP_68 (by decide), eP_68 (by decide), eP_68 (by decide), suE_68])
    · exact lk_keep h (fun i => by rw [eP_68 (by decide), eP_68 (by decide), eP_68 (by decide), eP_68 (by decide), suE_68])
    · exact lk_keep h (fun i => by rw [eP_68 (by decide), teE_68])
    · exact lk_keep h (fun i => by rw [eP_68 (by decide), teE_68])
  cases w with
  | true =>
    rw [show rdE T n b d true op cm = rdW T n b d op cm from rfl, rdW] at e
    by_cases c1 : (facS T n b = 0 ∧ isW T n b 10631 = false) ∧ (isG T n b 40 = false ∧ ¬ tyS T n b = 2)
    · rw [if_pos c1] at e; cases e
    rw [if_neg c1] at e
    by_cases c2 : d = 5
    · rw [if_pos c2] at e; cases e
    rw [if_neg c2] at e
    by_cases c3 : isW T n b 10631 = true
    · rw [if_pos c3] at e
      cases e
      exact ⟨⟨fun _ => by rw [h.1]; omega, fun q => absurd q (by decide), fun q => absurd q (by decide)⟩, lk_push (u := 1) (v := 1) h Iff.rfl, by omega⟩
    rw [if_neg c3] at e
    by_cases c4 : isG T n b 40 = true
    · rw [if_pos c4] at e
      cases e
      exact ⟨⟨fun _ => by rw [h.1]; omega, fun q => absurd q (by decide), fun q => absurd q (by decide)⟩, lk_push (u := 0) (v := 2) h (by decide), by omega⟩
    rw [if_neg c4] at e
    cases e
    have hv : vaC (if facS T n b ≤ 0 then 100 + nmS T n b else facS T n b) := by
      by_cases c5 : facS T n b ≤ 0
      · rw [if_pos c5]
        have f0 : facS T n b = 0 := by
          rcases fac_bd T n b with e | e | e | e | e | e
          · exact e
          all_goals (rw [e] at c5; exact absurd c5 (by decide))
        have t2 : tyS T n b = 2 := by
          by_cases t : tyS T n b = 2
          · exact t
          · exact absurd ⟨⟨f0, Bool.eq_false_iff.mpr c3⟩, Bool.eq_false_iff.mpr c4, t⟩ c1
        obtain ⟨m, h1, h2⟩ := nmS_bd t2
        rw [h2]
        exact vaC_num h1
      · rw [if_neg c5]
        exact vaC_fac c5
    exact ⟨(va hv).1, (va hv).2, Nat.le_trans (ngR_le _ _) hd⟩
  | false =>
    rw [show rdE T n b d false op cm = rdV T n b d op cm from rfl, rdV] at e
    by_cases c1 : isG T n b 43 = true
    · rw [if_pos c1] at e; cases e; exact ⟨(cl (by decide)).1, (cl (by decide)).2, hd⟩
    rw [if_neg c1] at e
    by_cases c2 : isG T n b 45 = true
    · rw [if_pos c2] at e; cases e; exact ⟨(cl (by decide)).1, (cl (by decide)).2, hd⟩
    rw [if_neg c2] at e
    by_cases c3 : isG T n b 42 = true
    · rw [if_pos c3] at e; cases e; exact ⟨(cl (by decide)).1, (cl (by decide)).2, hd⟩
    rw [if_neg c3] at e
    by_cases c4 : isG T n b 60 = true ∧ cm d = 0
    · rw [if_pos c4] at e; cases e; exact ⟨(cl (by decide)).1, (cl (by decide)).2, hd⟩
    rw [if_neg c4] at e
    by_cases c5 : isG T n b 61 = true ∧ cm d = 0
    · rw [if_pos c5] at e; cases e; exact ⟨(cl (by decide)).1, (cl (by decide)).2, hd⟩
    rw [if_neg c5] at e
    by_cases c6 : isW T n b 1111 = true
    · rw [if_pos c6] at e; cases e; exact ⟨(cl (by decide)).1, (cl (by decide)).2, hd⟩
    rw [if_neg c6] at e
    by_cases c7 : isW T n b 423 = true
    · rw [if_pos c7] at e; cases e; exact ⟨(cl (by decide)).1, (cl (by decide)).2, hd⟩
    rw [if_neg c7] at e
    by_cases c8 : isG T n b 41 = true ∧ 0 < d
    · rw [if_pos c8] at e
      cases e
      refine ⟨⟨fun q => absurd q (by decide), fun _ => by rw [h.1]; exact c8.2, fun q => absurd q (by decide)⟩, ?_, Nat.le_trans (ngR_le _ _) (by omega)⟩
      have : wkE V 29 p = tmE (teE p.2 p.1) (ngE (teE p.2 p.1) (p.1 - 1) (teE p.2 p.1 60 p.1)) := rfl
      rw [this, h.1]
      exact tm_lk (fun i h1 h2 => by rw [teE_68]; exact h.2 i h1 (by omega))
    rw [if_neg c8] at e
    by_cases c9 : d = 0 ∧ isG T n b 59 = true
    · rw [if_pos c9] at e; cases e
    rw [if_neg c9] at e
    cases e
theorem rd_okL {T : Nat → Int32} {n : Nat} {V : Nat → Int32} : ∀ (f b d : Nat) (w : Bool) (op cm : Nat → Int32) (p : Nat × (Nat → Nat → Int32)), lkS d op p → d ≤ 5 → okL V (rdR T n f b d w op cm).1 p
  | 0, _, _, _, _, _, _, _, _ => trivial
  | f + 1, b, d, w, op, cm, p, h, hd => by
    cases e : rdE T n b d w op cm with
    | inl r => rw [rdR_l e]; exact trivial
    | inr q =>
      obtain ⟨x, d', w', op', cm'⟩ := q
      rw [rdR_r e]
      have s := lk_step (V := V) h hd e
      exact ⟨s.1, rd_okL f _ d' w' op' cm' _ s.2.1 s.2.2⟩
theorem ex_okL {T : Nat → Int32} {n b : Nat} (V : Nat → Int32) (E : Nat → Nat → Int32) : okL V (exR T n b).1 (0, opE E 0) := rd_okL _ _ _ _ _ _ _ ⟨rfl, fun i h1 h2 => by omega⟩ (by omega)
