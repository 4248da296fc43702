/-! READING AND WORKING in one: from a place of the reference's automaton to another -/
abbrev zQ : Type := Nat × Nat × Bool × (Nat → Int32) × (Nat → Int32) × (Nat → Nat → Int32)
def rdX (T : Nat → Int32) (n : Nat) (c : zQ) : List Int32 × Except Int32 Nat := rdR T n (n - c.1 + 1) c.1 c.2.1 c.2.2.1 c.2.2.2.1 c.2.2.2.2.1
theorem nb_gt {T : Nat → Int32} {n b : Nat} (hb : b < n) : b < nbS T n b := by
  have h := (tAt_gt (T := T) hb).1
  have h2 := (endS_le (T := T) (n := n) (f := blk) (p := (tAt T n b).2.1) (tAt_gt hb).2).1
  show b < endS T n blk (tAt T n b).2.1
  omega
/-- at the end nothing goes on -/
theorem end_tok (T : Nat → Int32) (n : Nat) : (∀ c, isG T n n c = false) ∧ (∀ w, isW T n n w = false) ∧ facS T n n = 0 ∧ ¬ tyS T n n = 2 := by
  have h := ty_n T n
  refine ⟨fun c => ?_, fun w => ?_, ?_, by rw [h]; decide⟩
  · rw [isG, decide_eq_false (by rw [h]; decide), Bool.false_and]
  · rw [isW, decide_eq_false (by rw [h]; decide), Bool.false_and]
  · rw [facS, if_neg (by rw [h]; decide)]
theorem rdE_end {T : Nat → Int32} {n d : Nat} {w : Bool} {op cm : Nat → Int32} : ∃ e, rdE T n n d w op cm = .inl e := by
  obtain ⟨h1, h2, h3, h4⟩ := end_tok T n
  cases w with
  | true => exact ⟨_, by rw [show rdE T n n d true op cm = rdW T n n d op cm from rfl, rdW, if_pos ⟨⟨h3, h2 _⟩, h1 _, h4⟩]⟩
  | false => exact ⟨_, by rw [show rdE T n n d false op cm = rdV T n n d op cm from rfl, rdV, if_neg (by rw [h1]; decide), if_neg (by rw [h1]; decide), if_neg (by rw [h1]; decide), if_neg (fun z => by rw [h1] at z; cases z.1), if_neg (fun z => by rw [h1] at z; cases z.1), if_neg (by rw [h2]; decide), if_neg (by rw [h2]; decide), if_neg (fun z => by rw [h1] at z; cases z.1), if_neg (fun z => by rw [h1] at z; cases z.2)]⟩
/-- enough is enough -/
theorem rdR_fuel {T : Nat → Int32} {n : Nat} : ∀ (F G b d : Nat) (w : Bool) (op cm : Nat → Int32), b ≤ n → n - b + 1 ≤ F → n - b + 1 ≤ G → rdR T n F b d w op cm = rdR T n G b d w op cm
  | 0, _, b, _, _, _, _, _, h, _ => by omega
  | F + 1, 0, b, _, _, _, _, _, _, h => by omega
  | F + 1, G + 1, b, d, w, op, cm, hb, h1, h2 => by
    cases e : rdE T n b d w op cm with
    | inl r => rw [rdR_l e, rdR_l e]
    | inr q =>
      obtain ⟨x, d', w', op', cm'⟩ := q
      rw [rdR_r e, rdR_r e]
      by_cases q : b = n
      · subst q
        obtain ⟨r, hr⟩ := rdE_end (T := T) (n := b) (d := d) (w := w) (op := op) (cm := cm)
        rw [hr] at e; cases e
      · have g := nb_gt (T := T) (n := n) (b := b) (by omega)
        have g2 := nbS_le (T := T) hb
        rw [rdR_fuel F G (nbS T n b) d' w' op' cm' g2 (by omega) (by omega)]
theorem rdX_r {T : Nat → Int32} {n b d : Nat} {w : Bool} {op cm : Nat → Int32} {x : Int32} {d' : Nat} {w' : Bool} {op' cm' : Nat → Int32} {E E' : Nat → Nat → Int32} (hb : b < n) (e : rdE T n b d w op cm = .inr (x, d', w', op', cm')) :
    rdX T n (b, d, w, op, cm, E) = (x :: (rdX T n (nbS T n b, d', w', op', cm', E')).1, (rdX T n (nbS T n b, d', w', op', cm', E')).2) := by
  have g := nb_gt (T := T) hb
  have g2 := nbS_le (T := T) (Nat.le_of_lt hb)
  show rdR T n (n - b + 1) b d w op cm = _
  rw [rdR_r e, rdR_fuel (n - b) (n - nbS T n b + 1) (nbS T n b) d' w' op' cm' g2 (by omega) (Nat.le_refl _)]
  rfl
theorem rdX_l {T : Nat → Int32} {n b d : Nat} {w : Bool} {op cm : Nat → Int32} {r : Except Int32 Nat} {E : Nat → Nat → Int32} (e : rdE T n b d w op cm = .inl r) : rdX T n (b, d, w, op, cm, E) = ([], r) := by
  show rdR T n (n - b + 1) b d w op cm = _
  exact rdR_l e
/-- from c one comes to c': the codes between are read, and worked -/
def Go (T : Nat → Int32) (n : Nat) (V : Nat → Int32) (c c' : zQ) : Prop := ∃ L, rdX T n c = (L ++ (rdX T n c').1, (rdX T n c').2) ∧ wkL V L (c.2.1, c.2.2.2.2.2) = (c'.2.1, c'.2.2.2.2.2)
theorem wkL_app (V : Nat → Int32) : ∀ (L M : List Int32) (p : Nat × (Nat → Nat → Int32)), wkL V (L ++ M) p = wkL V M (wkL V L p)
  | [], _, _ => rfl
  | x :: L, M, p => by rw [List.cons_append, wkL, wkL, wkL_app V L M]
section GO
variable {T : Nat → Int32} {n : Nat} {V : Nat → Int32}
theorem Go.rf (c : zQ) : Go T n V c c := ⟨[], rfl, rfl⟩
theorem Go.tr {a b c : zQ} (h : Go T n V a b) (g : Go T n V b c) : Go T n V a c := by
  obtain ⟨L, h1, h2⟩ := h
  obtain ⟨M, g1, g2⟩ := g
  refine ⟨L ++ M, ?_, ?_⟩
  · rw [h1, g1, List.append_assoc]
  · rw [wkL_app, h2, g2]
theorem Go.er {a b : zQ} (h : Go T n V a b) {e : Int32} (he : (rdX T n b).2 = .error e) : (rdX T n a).2 = .error e := by
  obtain ⟨L, h1, -⟩ := h
  rw [h1]; exact he
theorem Go.st {b d : Nat} {w : Bool} {op cm : Nat → Int32} {x : Int32} {d' : Nat} {w' : Bool} {op' cm' : Nat → Int32} {E E' : Nat → Nat → Int32} (hb : b < n) (e : rdE T n b d w op cm = .inr (x, d', w', op', cm')) (hw : wkE V x (d, E) = (d', E')) : Go T n V (b, d, w, op, cm, E) (nbS T n b, d', w', op', cm', E') :=
  ⟨[x], rdX_r hb e, by rw [wkL, wkL]; exact hw⟩
/-- the automaton's memory above its level does not matter -/
theorem Go.ind {a : zQ} {b d : Nat} {w : Bool} {op cm op' cm' : Nat → Int32} {E : Nat → Nat → Int32} (h : Go T n V a (b, d, w, op, cm, E)) (h1 : ∀ i, 1 ≤ i → i ≤ d → op i = op' i) (h2 : ∀ i, i ≤ d → cm i = cm' i) : Go T n V a (b, d, w, op', cm', E) := by
  obtain ⟨L, g1, g2⟩ := h
  have e : rdX T n (b, d, w, op, cm, E) = rdX T n (b, d, w, op', cm', E) := rdR_ind _ _ _ _ _ _ _ _ h1 h2
  exact ⟨L, by rw [← e]; exact g1, g2⟩
end GO
/-! what is worked stays, but for some cells of one level -/
def agX (d : Nat) (K : Nat → Bool) (E F : Nat → Nat → Int32) : Prop := ∀ κ j, j < d ∨ (j = d ∧ K κ = false) → F κ j = E κ j
def K0 (_κ : Nat) : Bool := false
def K6 (a κ : Nat) : Bool := decide (a ≤ κ ∧ κ ≤ 67)
theorem agX.rf (d : Nat) (K : Nat → Bool) (E : Nat → Nat → Int32) : agX d K E E := fun _ _ _ => rfl
theorem agX.tr {d : Nat} {K : Nat → Bool} {E F G : Nat → Nat → Int32} (h : agX d K E F) (g : agX d K F G) : agX d K E G := fun κ j q => (g κ j q).trans (h κ j q)
theorem agX.mono {d : Nat} {K K' : Nat → Bool} {E F : Nat → Nat → Int32} (h : agX d K E F) (hK : ∀ κ, K' κ = false → K κ = false) : agX d K' E F := fun κ j q => h κ j (q.imp id (fun z => ⟨z.1, hK κ z.2⟩))
theorem agX_P {d a κ : Nat} {E F : Nat → Nat → Int32} (h : agX d (K6 a) E F) (hκ : K6 a κ = true) (v : Int32) : agX d (K6 a) E (eP F κ d v) := by
  intro κ' j q
  rw [← h κ' j q, eP, if_neg]
  rintro ⟨rfl, rfl⟩
  rcases q with q | q
  · omega
  · rw [hκ] at q; cases q.2
theorem K6_mono {a b : Nat} (h : a ≤ b) : ∀ κ, K6 a κ = false → K6 b κ = false := by
  intro κ q
  rw [K6, decide_eq_false_iff_not] at q ⊢
  omega
theorem agX_low {d : Nat} {K : Nat → Bool} {E F : Nat → Nat → Int32} (h : agX (d + 1) K E F) : agX d K0 E F := fun κ j q => h κ j (Or.inl (by omega))
theorem eP_s {E : Nat → Nat → Int32} {κ d : Nat} {v : Int32} : eP E κ d v κ d = v := if_pos ⟨rfl, rfl⟩
theorem eP_o {E : Nat → Nat → Int32} {κ κ' d j : Nat} {v : Int32} (h : κ' ≠ κ) : eP E κ d v κ' j = E κ' j := if_neg (fun q => h q.1)
theorem eP_l {E : Nat → Nat → Int32} {κ κ' d j : Nat} {v : Int32} (h : j ≠ d) : eP E κ d v κ' j = E κ' j := if_neg (fun q => h q.2)
/-- the sum with what waits -/
def pnE (E : Nat → Nat → Int32) (d : Nat) : Int32 := if E 65 d = 21 then E 64 d - E 66 d else E 64 d + E 66 d
theorem suE_64 (E : Nat → Nat → Int32) (d : Nat) : suE E d 64 d = pnE E d := by
  unfold suE
  rw [eP_o (by decide), eP_s]; rfl
theorem suE_67 (E : Nat → Nat → Int32) (d : Nat) : suE E d 67 d = 0 := by unfold suE; rw [eP_s]
theorem suE_o (E : Nat → Nat → Int32) (d : Nat) {κ : Nat} (h1 : κ ≠ 64) (h2 : κ ≠ 67) (j : Nat) : suE E d κ j = E κ j := by
  unfold suE
  rw [eP_o h2, eP_o h1]
theorem suE_l (E : Nat → Nat → Int32) (d κ : Nat) {j : Nat} (h : j ≠ d) : suE E d κ j = E κ j := by
  unfold suE
  rw [eP_l h, eP_l h]
def tvE (E : Nat → Nat → Int32) (d : Nat) : Int32 := teB (suE E d) d (teA (suE E d) d)
theorem tvE_eq (E : Nat → Nat → Int32) (d : Nat) : tvE E d = if E 63 d = 25 then (if E 62 d = pnE E d then 1 else 0) else if E 63 d = 24 then (if pnE E d ≤ E 62 d then 0 else 1) else pnE E d := by
  unfold tvE teB teA
  rw [suE_64, suE_o _ _ (by decide) (by decide), suE_o _ _ (by decide) (by decide)]
theorem teV_eq (E : Nat → Nat → Int32) (d : Nat) : teV (suE E d) d = if E 61 d = 27 then (if E 60 d = 0 ∧ tvE E d = 0 then 0 else 1) else if E 61 d = 26 then (if E 60 d = 0 ∨ tvE E d = 0 then 0 else 1) else tvE E d := by
  show teD (suE E d) d (teC (suE E d) d (tvE E d)) = _
  unfold teD teC
  rw [suE_o _ _ (by decide) (by decide), suE_o _ _ (by decide) (by decide)]
  by_cases h : E 61 d = 27
  · have h' : ¬ E 61 d = 26 := by rw [h]; decide
    rw [if_pos h, if_pos h, if_neg h']
  · rw [if_neg h, if_neg h]
theorem teE_60 (E : Nat → Nat → Int32) (d : Nat) : teE E d 60 d = teV (suE E d) d := by
  unfold teE
  rw [eP_o (by decide), eP_o (by decide), eP_o (by decide), eP_s]
theorem teE_63 (E : Nat → Nat → Int32) (d : Nat) : teE E d 63 d = 0 := by
  unfold teE
  rw [eP_o (by decide), eP_o (by decide), eP_s]
theorem teE_64 (E : Nat → Nat → Int32) (d : Nat) : teE E d 64 d = 0 := by
  unfold teE
  rw [eP_o (by decide), eP_s]
theorem teE_65 (E : Nat → Nat → Int32) (d : Nat) : teE E d 65 d = 20 := by
  unfold teE
  rw [eP_s]
theorem teE_67 (E : Nat → Nat → Int32) (d : Nat) : teE E d 67 d = 0 := by
  unfold teE
  rw [eP_o (by decide), eP_o (by decide), eP_o (by decide), eP_o (by decide), suE_67]
theorem teE_l (E : Nat → Nat → Int32) (d κ : Nat) {j : Nat} (h : j ≠ d) : teE E d κ j = E κ j := by
  unfold teE
  rw [eP_l h, eP_l h, eP_l h, eP_l h, suE_l _ _ _ h]
theorem ag_su {d a : Nat} {E F : Nat → Nat → Int32} (h : agX d (K6 a) E F) (ha : a ≤ 64) : agX d (K6 a) E (suE F d) := by
  unfold suE
  exact agX_P (agX_P h (decide_eq_true (by omega)) _) (decide_eq_true (by omega)) _
theorem ag_te {d a : Nat} {E F : Nat → Nat → Int32} (h : agX d (K6 a) E F) (ha : a ≤ 60) : agX d (K6 a) E (teE F d) := by
  unfold teE
  exact agX_P (agX_P (agX_P (agX_P (ag_su h (by omega)) (decide_eq_true (by omega)) _) (decide_eq_true (by omega)) _) (decide_eq_true (by omega)) _) (decide_eq_true (by omega)) _
