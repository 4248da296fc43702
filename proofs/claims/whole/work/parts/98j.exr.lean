/-! EXPRESSIONS: the class's descent gives what the reference reads and works -/
def TkH (T : Nat → Int32) (n m : Nat) (Q : Nat → Int64) : Prop := n ≤ 1000 ∧ m ≤ 1000 ∧ tkN T n m = n ∧ (∀ i, i < m → tkN T n i < n) ∧ ∀ i, i < m → Q i = vlS T n (tkN T n i)
theorem TkI_H {μ : zM} {T : Nat → Int32} {n m : Nat} (h : TkI μ T n m) : TkH T n m (μ.2 31 0) := ⟨h.1, h.2.1, h.2.2.1, h.2.2.2.1, fun i hi => (h.2.2.2.2 i (by omega)).2.2.2 (h.2.2.2.1 i hi)⟩
def lkE (d : Nat) (op : Nat → Int32) (E : Nat → Nat → Int32) : Prop := ∀ j, 1 ≤ j → j ≤ d → (E 68 j = 1 ↔ op j = 1)
theorem ng_base {op : Nat → Int32} {E : Nat → Nat → Int32} {d : Nat} {v : Int32} (hb : ngR op d = d) (lk : lkE d op E) : ngE E d v = (d, v) := by
  cases d with
  | zero => rfl
  | succ d =>
    rw [ngR] at hb
    have h1 : ¬ op (d + 1) = 1 := fun q => by rw [if_pos q] at hb; have := ngR_le op d; omega
    rw [ngE, if_neg (fun q => h1 ((lk (d + 1) (by omega) (by omega)).mp q))]
theorem isG_one {T : Nat → Int32} {n b : Nat} {c c' : Int32} (h : isG T n b c = true) (h' : isG T n b c' = true) (hne : ¬ c = c') : False := by
  rw [isG, Bool.and_eq_true, decide_eq_true_eq, decide_eq_true_eq] at h h'
  exact hne (h.2.symm.trans h'.2)
theorem isGW {T : Nat → Int32} {n b : Nat} {c : Int32} {w : Int64} (h : isG T n b c = true) (h' : isW T n b w = true) : False := by
  rw [isG, Bool.and_eq_true, decide_eq_true_eq, decide_eq_true_eq] at h
  rw [isW, Bool.and_eq_true, decide_eq_true_eq, decide_eq_true_eq] at h'
  have := h.1.symm.trans h'.1
  exact absurd this (by decide)
section XQ
variable {T : Nat → Int32} {n m : Nat} {V : Nat → Int32} {Q : Nat → Int64}
theorem tk_on (h : TkH T n m Q) {i : Nat} (hi : i < m) : adN T n i = i + 1 ∧ tkN T n (i + 1) = nbS T n (tkN T n i) := by
  refine ⟨?_, rfl⟩
  have := h.2.2.2.1 i hi
  rw [adN, if_neg (by omega)]
theorem tk_lt (h : TkH T n m Q) {i : Nat} (hi : i ≤ m) (hn : tkN T n i < n) : i < m := by
  refine Nat.lt_of_le_of_ne hi (fun e => ?_)
  rw [e, h.2.2.1] at hn
  omega
theorem isG_lt {b : Nat} {c : Int32} (hb : b ≤ n) (h : isG T n b c = true) : b < n := by
  refine Nat.lt_of_le_of_ne hb (fun e => ?_)
  rw [e, (end_tok T n).1] at h; cases h
theorem isW_lt {b : Nat} {w : Int64} (hb : b ≤ n) (h : isW T n b w = true) : b < n := by
  refine Nat.lt_of_le_of_ne hb (fun e => ?_)
  rw [e, (end_tok T n).2.1] at h; cases h
def PartOk (T : Nat → Int32) (n m : Nat) (V : Nat → Int32) (d : Nat) (P : zS → Int32 × zS) : Prop := ∀ i op cm E, i ≤ m → lkE d op E →
  (¬ (P (0, i)).2.1 = 0 → (rdX T n (tkN T n i, d, true, op, cm, E)).2 = .error (P (0, i)).2.1) ∧
  ((P (0, i)).2.1 = 0 → i < (P (0, i)).2.2 ∧ (P (0, i)).2.2 ≤ m ∧ ∃ E2, agX d K0 E E2 ∧ Go T n V (tkN T n i, d, true, op, cm, E) (tkN T n (P (0, i)).2.2, ngR op d, false, op, cm, eP E2 66 (ngR op d) (if E 67 (ngR op d) = 0 then (ngE E d (P (0, i)).1).2 else E 66 (ngR op d) * (ngE E d (P (0, i)).1).2)))
/-- a level on which sums stand -/
def BaseOk (T : Nat → Int32) (n m : Nat) (V : Nat → Int32) (d : Nat) (op cm : Nat → Int32) (R : (Nat → Nat → Int32) → Prop) (K : Nat → Bool) (val : (Nat → Nat → Int32) → Int32) (nc : Nat → (Nat → Int32) → Prop) (f : zS → Int32 × zS) : Prop := ∀ i E, i ≤ m → lkE d op E → R E →
  (¬ (f (0, i)).2.1 = 0 → (rdX T n (tkN T n i, d, true, op, cm, E)).2 = .error (f (0, i)).2.1) ∧
  ((f (0, i)).2.1 = 0 → i < (f (0, i)).2.2 ∧ (f (0, i)).2.2 ≤ m ∧ ∃ E' cm', agX d K E E' ∧ val E' = (f (0, i)).1 ∧ (∀ j, j < d → cm' j = cm j) ∧ nc (tkN T n (f (0, i)).2.2) cm' ∧ Go T n V (tkN T n i, d, true, op, cm, E) (tkN T n (f (0, i)).2.2, d, false, op, cm', E'))
theorem lk_ag {d a : Nat} {op : Nat → Int32} {E F : Nat → Nat → Int32} (lk : lkE d op E) (h : agX d (K6 a) E F) : lkE d op F := by
  intro j h1 h2
  rw [h 68 j (by
    rcases Nat.lt_or_ge j d with q | q
    · exact Or.inl q
    · exact Or.inr ⟨by omega, decide_eq_false (by omega)⟩)]
  exact lk j h1 h2
/-- the part, on a base level -/
theorem part_base {P : zS → Int32 × zS} {d : Nat} {op cm : Nat → Int32} (hP : PartOk T n m V d P) (hb : ngR op d = d) {i : Nat} {E : Nat → Nat → Int32} (hi : i ≤ m) (lk : lkE d op E) :
    (¬ (P (0, i)).2.1 = 0 → (rdX T n (tkN T n i, d, true, op, cm, E)).2 = .error (P (0, i)).2.1) ∧
    ((P (0, i)).2.1 = 0 → i < (P (0, i)).2.2 ∧ (P (0, i)).2.2 ≤ m ∧ ∃ E', agX d (K6 66) E E' ∧ E' 66 d = (if E 67 d = 0 then (P (0, i)).1 else E 66 d * (P (0, i)).1) ∧ E' 67 d = E 67 d ∧ Go T n V (tkN T n i, d, true, op, cm, E) (tkN T n (P (0, i)).2.2, d, false, op, cm, E')) := by
  obtain ⟨h1, h2⟩ := hP i op cm E hi lk
  refine ⟨h1, fun q => ?_⟩
  obtain ⟨g1, g2, E2, g3, g4⟩ := h2 q
  rw [hb, ng_base hb lk] at g4
  refine ⟨g1, g2, _, agX_P (g3.mono (fun _ _ => rfl)) rfl _, eP_s, ?_, g4⟩
  rw [eP_o (by decide)]
  exact g3 67 d (Or.inr ⟨rfl, rfl⟩)
def ncP (T : Nat → Int32) (n d : Nat) (c : Int32) (b : Nat) (cn : Nat → Int32) : Prop := isG T n b 42 = false ∧ cn d = c
def ncS (T : Nat → Int32) (n d : Nat) (c : Int32) (b : Nat) (cn : Nat → Int32) : Prop := (isG T n b 42 = false ∧ isG T n b 43 = false ∧ isG T n b 45 = false) ∧ cn d = c
def ncT (T : Nat → Int32) (n d b : Nat) (cm : Nat → Int32) : Prop := (isG T n b 42 = false ∧ isG T n b 43 = false ∧ isG T n b 45 = false) ∧ ((isG T n b 60 = true ∨ isG T n b 61 = true) → ¬ cm d = 0)
def ncE (T : Nat → Int32) (n d b : Nat) (cm : Nat → Int32) : Prop := ncT T n d b cm ∧ isW T n b 1111 = false ∧ isW T n b 423 = false
theorem prod_ok (h : TkH T n m Q) {P : zS → Int32 × zS} {d : Nat} {op cm : Nat → Int32} (hP : PartOk T n m V d P) (hb : ngR op d = d) :
    BaseOk T n m V d op cm (fun E => E 67 d = 0) (K6 66) (fun E => E 66 d) (ncP T n d (cm d)) (prC T n P) := by
  intro i E hi lk h67
  -- the loop
  have go : ∀ k (q : Int32 × zS) (F : Nat → Nat → Int32), q.2.1 = 0 → i < q.2.2 → q.2.2 ≤ m → m - q.2.2 ≤ k → agX d (K6 66) E F → F 66 d = q.1 → Go T n V (tkN T n i, d, true, op, cm, E) (tkN T n q.2.2, d, false, op, cm, F) →
      (¬ (prL T n P k q).2.1 = 0 → (rdX T n (tkN T n i, d, true, op, cm, E)).2 = .error (prL T n P k q).2.1) ∧
      ((prL T n P k q).2.1 = 0 → i < (prL T n P k q).2.2 ∧ (prL T n P k q).2.2 ≤ m ∧ ∃ E' cm', agX d (K6 66) E E' ∧ E' 66 d = (prL T n P k q).1 ∧ (∀ j, j < d → cm' j = cm j) ∧ ncP T n d (cm d) (tkN T n (prL T n P k q).2.2) cm' ∧ Go T n V (tkN T n i, d, true, op, cm, E) (tkN T n (prL T n P k q).2.2, d, false, op, cm', E')) := by
    intro k
    induction k with
    | zero =>
      intro q F q0 q1 q2 q3 ag hv G
      rw [prL]
      refine ⟨fun z => absurd q0 z, fun _ => ⟨q1, q2, F, cm, ag, hv, fun _ _ => rfl, ?_, G⟩⟩
      rw [show q.2.2 = m by omega, h.2.2.1]
      exact ⟨(end_tok T n).1 _, rfl⟩
    | succ k ih =>
      intro q F q0 q1 q2 q3 ag hv G
      rw [prL]
      by_cases c : isG T n (tkN T n q.2.2) 42 = true
      · rw [if_pos ⟨q0, c⟩]
        have hlt := isG_lt (tkN_le T n _) c
        have hm := tk_lt h q2 hlt
        obtain ⟨a1, a2⟩ := tk_on h hm
        have ec : onC T n q.2 = (0, q.2.2 + 1) := by unfold onC; rw [q0, a1]
        rw [ec]
        have S : Go T n V (tkN T n i, d, true, op, cm, E) (tkN T n (q.2.2 + 1), d, true, op, cm, eP F 67 d 22) := by
          refine G.tr (Go.st hlt (x := 22) ?_ ?_)
          · rw [show rdE T n (tkN T n q.2.2) d false op cm = rdV T n (tkN T n q.2.2) d op cm from rfl]
            have n43 : ¬ isG T n (tkN T n q.2.2) 43 = true := fun z => isG_one c z (by decide)
            have n45 : ¬ isG T n (tkN T n q.2.2) 45 = true := fun z => isG_one c z (by decide)
            rw [rdV, if_neg n43, if_neg n45, if_pos c]
          · rw [wkE, if_neg (by decide), if_neg (by decide), if_pos rfl]
        have ag1 : agX d (K6 66) E (eP F 67 d 22) := agX_P ag rfl _
        obtain ⟨p1, p2⟩ := part_base (cm := cm) hP hb (i := q.2.2 + 1) (E := eP F 67 d 22) (by omega) (lk_ag lk ag1)
        by_cases pf : (P (0, q.2.2 + 1)).2.1 = 0
        · obtain ⟨g1, g2, E', g3, g4, g5, g6⟩ := p2 pf
          refine ih (q.1 * (P (0, q.2.2 + 1)).1, (P (0, q.2.2 + 1)).2) E' pf (by show i < (P (0, q.2.2 + 1)).2.2; omega) g2 (by show m - (P (0, q.2.2 + 1)).2.2 ≤ k; omega) (ag1.tr g3) ?_ (S.tr g6)
          rw [g4, eP_s, if_neg (by decide), eP_o (by decide), hv]
        · have e : prL T n P k (q.1 * (P (0, q.2.2 + 1)).1, (P (0, q.2.2 + 1)).2) = (q.1 * (P (0, q.2.2 + 1)).1, (P (0, q.2.2 + 1)).2) := by
            cases k with
            | zero => rfl
            | succ k => rw [prL, if_neg (fun z => pf z.1)]
          rw [e]
          exact ⟨fun _ => S.er (p1 pf), fun z => absurd z pf⟩
      · rw [if_neg (fun z => c z.2)]
        refine ⟨fun z => absurd q0 z, fun _ => ⟨q1, q2, F, cm, ag, hv, fun _ _ => rfl, ?_, G⟩⟩
        exact ⟨Bool.eq_false_iff.mpr c, rfl⟩
  obtain ⟨p1, p2⟩ := part_base (cm := cm) hP hb hi lk
  unfold prC
  by_cases pf : (P (0, i)).2.1 = 0
  · obtain ⟨g1, g2, E', g3, g4, g5, g6⟩ := p2 pf
    rw [if_pos h67] at g4
    have hm := h.2.1
    exact go zK (P (0, i)) E' pf g1 g2 (by rw [zK_eq]; omega) g3 g4 g6
  · have e : prL T n P zK (P (0, i)) = P (0, i) := by
      obtain ⟨k, hk⟩ : ∃ k, zK = k + 1 := ⟨999, zK_eq⟩
      rw [hk, prL, if_neg (fun z => pf z.1)]
    rw [e]
    exact ⟨p1, fun z => absurd z pf⟩
end XQ
