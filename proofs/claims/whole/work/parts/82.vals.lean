/-! a line looks at the facts 1 .. 5 alone -/
def fcC (x : Int32) : Prop := x < 20 → 1 ≤ ix x ∧ ix x ≤ 5
theorem rd_code {T : Nat → Int32} {n b d : Nat} {w : Bool} {op cm : Nat → Int32} {x : Int32} {q : Nat × Bool × (Nat → Int32) × (Nat → Int32)} (e : rdE T n b d w op cm = .inr (x, q)) : fcC x := by
  have big : ∀ {y : Int32}, ¬ y < 20 → fcC y := fun h q => absurd q h
  cases w with
  | true =>
    rw [show rdE T n b d true op cm = rdW T n b d op cm from rfl, rdW] at e
    by_cases c1 : (facS T n b = 0 ∧ isW T n b 10631 = false) ∧ (isG T n b 40 = false ∧ ¬ tyS T n b = 2)
    · rw [if_pos c1] at e; cases e
    rw [if_neg c1] at e
    by_cases c2 : d = 5
    · rw [if_pos c2] at e; cases e
    rw [if_neg c2] at e
    by_cases c3 : isW T n b 10631 = true
    · rw [if_pos c3] at e; cases e; exact big (by decide)
    rw [if_neg c3] at e
    by_cases c4 : isG T n b 40 = true
    · rw [if_pos c4] at e; cases e; exact big (by decide)
    rw [if_neg c4] at e
    cases e
    by_cases c5 : facS T n b ≤ 0
    · rw [if_pos c5]
      have f0 : facS T n b = 0 := by
        rcases fac_bd T n b with e | e | e | e | e | e
        · exact e
        all_goals (rw [e] at c5; exact absurd c5 (by decide))
      have t2 : tyS T n b = 2 := by
        by_cases t : tyS T n b = 2
        · exact t
        · exact absurd ⟨⟨f0, Bool.eq_false_iff.mpr c3⟩, Bool.eq_false_iff.mpr c4, t⟩ c1
      obtain ⟨m, h1, h2⟩ := nmS_bd t2
      rw [h2, show (100 : Int32) = nI 100 from rfl, nI_add]
      exact big (Int32.not_lt.mpr (nI_le (a := 20) (b := 100 + m) (by omega) (by omega)))
    · rw [if_neg c5]
      rcases fac_bd T n b with e | e | e | e | e | e <;> rw [e] at c5 ⊢
      · exact absurd (by decide) c5
      all_goals exact fun _ => by decide
  | false =>
    rw [show rdE T n b d false op cm = rdV T n b d op cm from rfl, rdV] at e
    by_cases c1 : isG T n b 43 = true
    · rw [if_pos c1] at e; cases e; exact big (by decide)
    rw [if_neg c1] at e
    by_cases c2 : isG T n b 45 = true
    · rw [if_pos c2] at e; cases e; exact big (by decide)
    rw [if_neg c2] at e
    by_cases c3 : isG T n b 42 = true
    · rw [if_pos c3] at e; cases e; exact big (by decide)
    rw [if_neg c3] at e
    by_cases c4 : isG T n b 60 = true ∧ cm d = 0
    · rw [if_pos c4] at e; cases e; exact big (by decide)
    rw [if_neg c4] at e
    by_cases c5 : isG T n b 61 = true ∧ cm d = 0
    · rw [if_pos c5] at e; cases e; exact big (by decide)
    rw [if_neg c5] at e
    by_cases c6 : isW T n b 1111 = true
    · rw [if_pos c6] at e; cases e; exact big (by decide)
    rw [if_neg c6] at e
    by_cases c7 : isW T n b 423 = true
    · rw [if_pos c7] at e; cases e; exact big (by decide)
    rw [if_neg c7] at e
    by_cases c8 : isG T n b 41 = true ∧ 0 < d
    · rw [if_pos c8] at e; cases e; exact big (by decide)
    rw [if_neg c8] at e
    by_cases c9 : d = 0 ∧ isG T n b 59 = true
    · rw [if_pos c9] at e; cases e
    rw [if_neg c9] at e
    cases e
theorem wk_V {V V' : Nat → Int32} {x : Int32} {p : Nat × (Nat → Nat → Int32)} (h : fcC x) (hV : ∀ i, 1 ≤ i → i ≤ 5 → V i = V' i) : wkE V x p = wkE V' x p := by
  have e : atV V x = atV V' x := by
    unfold atV
    by_cases c : x < 100
    · rw [if_pos c, if_pos c]
      by_cases c2 : 20 ≤ x
      · rw [if_pos c2, if_pos c2]
      · have := h (Int32.not_le.mp c2)
        rw [if_neg c2, if_neg c2, hV _ this.1 this.2]
    · rw [if_neg c, if_neg c]
  unfold wkE
  rw [e]
theorem rd_V {T : Nat → Int32} {n : Nat} {V V' : Nat → Int32} (hV : ∀ i, 1 ≤ i → i ≤ 5 → V i = V' i) : ∀ (f b d : Nat) (w : Bool) (op cm : Nat → Int32) (p : Nat × (Nat → Nat → Int32)), wkL V (rdR T n f b d w op cm).1 p = wkL V' (rdR T n f b d w op cm).1 p
  | 0, _, _, _, _, _, _ => rfl
  | f + 1, b, d, w, op, cm, p => by
    cases e : rdE T n b d w op cm with
    | inl r => rw [rdR_l e]; rfl
    | inr q =>
      obtain ⟨x, d', w', op', cm'⟩ := q
      rw [rdR_r e]
      show wkL V _ (wkE V x p) = wkL V' _ (wkE V' x p)
      rw [wk_V (rd_code e) hV]
      exact rd_V hV f _ d' w' op' cm' _
theorem ex_V {T : Nat → Int32} {n b : Nat} {V V' : Nat → Int32} (hV : ∀ i, 1 ≤ i → i ≤ 5 → V i = V' i) (E : Nat → Nat → Int32) : evL V (exR T n b).1 E = evL V' (exR T n b).1 E := by
  unfold evL exR
  rw [rd_V hV]
theorem upd_1 (f : Nat → Int32) (k : Nat) (v : Int32) : upd f k v k = v := if_pos rfl
theorem upd_n (f : Nat → Int32) {k j : Nat} (v : Int32) (h : j ≠ k) : upd f k v j = f j := if_neg h
theorem vaS_ag (V V' : Nat → Int32) (wet : Int32) : ∀ h, h ≤ 4 → vaS V wet h 5 = vaS V' wet h 5 ∧ ∀ i, 1 ≤ i → i ≤ h → vaS V wet h i = vaS V' wet h i
  | 0, _ => ⟨by rw [vaS, vaS, upd_1, upd_1], fun i h1 h2 => by omega⟩
  | h + 1, hh => by
    obtain ⟨e5, ei⟩ := vaS_ag V V' wet h (by omega)
    rw [vaS, vaS]
    refine ⟨by rw [upd_1 _ 5, upd_1 _ 5, upd_1 _ (1 + h), upd_1 _ (1 + h), upd_n (vaS V wet h) _ (show 5 ≠ 1 + h by omega), upd_n (vaS V' wet h) _ (show 5 ≠ 1 + h by omega), e5], fun i h1 h2 => ?_⟩
    rw [upd_n _ _ (show i ≠ 5 by omega), upd_n _ _ (show i ≠ 5 by omega)]
    by_cases e : i = 1 + h
    · subst e; rw [upd_1, upd_1]
    · rw [upd_n _ _ e, upd_n _ _ e]; exact ei i h1 (by omega)
theorem vaS_5 (V V' : Nat → Int32) (wet : Int32) : ∀ i, 1 ≤ i → i ≤ 5 → vaS V wet 4 i = vaS V' wet 4 i := fun i h1 h2 => by
  obtain ⟨e5, ei⟩ := vaS_ag V V' wet 4 (by omega)
  by_cases e : i = 5
  · rw [e]; exact e5
  · exact ei i h1 (by omega)
