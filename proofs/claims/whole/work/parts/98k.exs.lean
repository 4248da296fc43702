section XR
variable {T : Nat → Int32} {n m : Nat} {V : Nat → Int32} {Q : Nat → Int64}
theorem K66 {a : Nat} (h : a ≤ 66) : ∀ κ, K6 a κ = false → K6 66 κ = false := K6_mono h
theorem sum_ok (h : TkH T n m Q) {P : zS → Int32 × zS} {d : Nat} {op cm : Nat → Int32} (hP : ∀ cm, BaseOk T n m V d op cm (fun E => E 67 d = 0) (K6 66) (fun E => E 66 d) (ncP T n d (cm d)) (prC T n P)) :
    BaseOk T n m V d op cm (fun E => E 67 d = 0 ∧ E 64 d = 0 ∧ E 65 d = 20) (K6 64) (fun E => pnE E d) (ncS T n d (cm d)) (smC T n P) := by
  intro i E hi lk hE
  obtain ⟨h67, h64, h65⟩ := hE
  have go : ∀ k (q : Int32 × zS) (F : Nat → Nat → Int32) (cn : Nat → Int32), q.2.1 = 0 → i < q.2.2 → q.2.2 ≤ m → m - q.2.2 ≤ k → agX d (K6 64) E F → pnE F d = q.1 → isG T n (tkN T n q.2.2) 42 = false → (∀ j, j < d → cn j = cm j) → cn d = cm d → Go T n V (tkN T n i, d, true, op, cm, E) (tkN T n q.2.2, d, false, op, cn, F) →
      (¬ (suL T n P k q).2.1 = 0 → (rdX T n (tkN T n i, d, true, op, cm, E)).2 = .error (suL T n P k q).2.1) ∧
      ((suL T n P k q).2.1 = 0 → i < (suL T n P k q).2.2 ∧ (suL T n P k q).2.2 ≤ m ∧ ∃ E' cm', agX d (K6 64) E E' ∧ pnE E' d = (suL T n P k q).1 ∧ (∀ j, j < d → cm' j = cm j) ∧ ncS T n d (cm d) (tkN T n (suL T n P k q).2.2) cm' ∧ Go T n V (tkN T n i, d, true, op, cm, E) (tkN T n (suL T n P k q).2.2, d, false, op, cm', E')) := by
    intro k
    induction k with
    | zero =>
      intro q F cn q0 q1 q2 q3 ag hv h42 hcn hcd G
      rw [suL]
      refine ⟨fun z => absurd q0 z, fun _ => ⟨q1, q2, F, cn, ag, hv, hcn, ?_, G⟩⟩
      rw [show q.2.2 = m by omega, h.2.2.1]
      exact ⟨⟨(end_tok T n).1 _, (end_tok T n).1 _, (end_tok T n).1 _⟩, hcd⟩
    | succ k ih =>
      intro q F cn q0 q1 q2 q3 ag hv h42 hcn hcd G
      -- the next product
      have nxt : ∀ (x : Int32) (g : Int32 → Int32), tkN T n q.2.2 < n → rdE T n (tkN T n q.2.2) d false op cn = .inr (x, d, true, op, cn) → (x = 20 ∨ x = 21) → (∀ v, g v = if x = 21 then q.1 - v else q.1 + v) →
          (¬ (suL T n P k (g (prC T n P (onC T n q.2)).1, (prC T n P (onC T n q.2)).2)).2.1 = 0 → (rdX T n (tkN T n i, d, true, op, cm, E)).2 = .error (suL T n P k (g (prC T n P (onC T n q.2)).1, (prC T n P (onC T n q.2)).2)).2.1) ∧
          ((suL T n P k (g (prC T n P (onC T n q.2)).1, (prC T n P (onC T n q.2)).2)).2.1 = 0 → i < (suL T n P k (g (prC T n P (onC T n q.2)).1, (prC T n P (onC T n q.2)).2)).2.2 ∧ (suL T n P k (g (prC T n P (onC T n q.2)).1, (prC T n P (onC T n q.2)).2)).2.2 ≤ m ∧ ∃ E' cm', agX d (K6 64) E E' ∧ pnE E' d = (suL T n P k (g (prC T n P (onC T n q.2)).1, (prC T n P (onC T n q.2)).2)).1 ∧ (∀ j, j < d → cm' j = cm j) ∧ ncS T n d (cm d) (tkN T n (suL T n P k (g (prC T n P (onC T n q.2)).1, (prC T n P (onC T n q.2)).2)).2.2) cm' ∧ Go T n V (tkN T n i, d, true, op, cm, E) (tkN T n (suL T n P k (g (prC T n P (onC T n q.2)).1, (prC T n P (onC T n q.2)).2)).2.2, d, false, op, cm', E')) := by
        intro x g hlt hr hx hg
        have hm := tk_lt h q2 hlt
        obtain ⟨a1, a2⟩ := tk_on h hm
        have ec : onC T n q.2 = (0, q.2.2 + 1) := by unfold onC; rw [q0, a1]
        rw [ec]
        have S : Go T n V (tkN T n i, d, true, op, cm, E) (tkN T n (q.2.2 + 1), d, true, op, cn, eP (suE F d) 65 d x) := by
          refine G.tr (Go.st hlt hr ?_)
          rcases hx with rfl | rfl
          · rw [wkE, if_neg (by decide), if_pos (by decide)]
          · rw [wkE, if_neg (by decide), if_pos (by decide)]
        have ag1 : agX d (K6 64) E (eP (suE F d) 65 d x) := agX_P (ag_su ag (by omega)) rfl _
        obtain ⟨p1, p2⟩ := hP cn (q.2.2 + 1) (eP (suE F d) 65 d x) (by omega) (lk_ag lk ag1) (by show eP (suE F d) 65 d x 67 d = 0; rw [eP_o (by decide), suE_67])
        by_cases pf : (prC T n P (0, q.2.2 + 1)).2.1 = 0
        · obtain ⟨g1, g2, E', cn', g3, g4, g5, g6, g7⟩ := p2 pf
          refine ih (g (prC T n P (0, q.2.2 + 1)).1, (prC T n P (0, q.2.2 + 1)).2) E' cn' pf (by show i < (prC T n P (0, q.2.2 + 1)).2.2; omega) g2 (by show m - (prC T n P (0, q.2.2 + 1)).2.2 ≤ k; omega) (ag1.tr (g3.mono (K66 (by omega)))) ?_ g6.1 (fun j hj => (g5 j hj).trans (hcn j hj)) (g6.2.trans hcd) (S.tr g7)
          have e65 : E' 65 d = x := by rw [g3 65 d (Or.inr ⟨rfl, rfl⟩), eP_s]
          have e64 : E' 64 d = q.1 := by rw [g3 64 d (Or.inr ⟨rfl, rfl⟩), eP_o (by decide), suE_64, hv]
          have e66 : E' 66 d = (prC T n P (0, q.2.2 + 1)).1 := g4
          rw [pnE, e65, e64, e66, hg]
        · have e : suL T n P k (g (prC T n P (0, q.2.2 + 1)).1, (prC T n P (0, q.2.2 + 1)).2) = (g (prC T n P (0, q.2.2 + 1)).1, (prC T n P (0, q.2.2 + 1)).2) := by
            cases k with
            | zero => rfl
            | succ k => rw [suL, if_neg (fun z => pf z.1), if_neg (fun z => pf z.1)]
          rw [e]
          exact ⟨fun _ => S.er (p1 pf), fun z => absurd z pf⟩
      rw [suL]
      by_cases c : isG T n (tkN T n q.2.2) 43 = true
      · rw [if_pos ⟨q0, c⟩]
        refine nxt 20 (fun v => q.1 + v) (isG_lt (tkN_le T n _) c) ?_ (Or.inl rfl) (fun v => by rw [if_neg (by decide)])
        rw [show rdE T n (tkN T n q.2.2) d false op cn = rdV T n (tkN T n q.2.2) d op cn from rfl, rdV, if_pos c]
      · rw [if_neg (fun z => c z.2)]
        by_cases c2 : isG T n (tkN T n q.2.2) 45 = true
        · rw [if_pos ⟨q0, c2⟩]
          refine nxt 21 (fun v => q.1 - v) (isG_lt (tkN_le T n _) c2) ?_ (Or.inr rfl) (fun v => by rw [if_pos rfl])
          rw [show rdE T n (tkN T n q.2.2) d false op cn = rdV T n (tkN T n q.2.2) d op cn from rfl, rdV, if_neg c, if_pos c2]
        · rw [if_neg (fun z => c2 z.2)]
          exact ⟨fun z => absurd q0 z, fun _ => ⟨q1, q2, F, cn, ag, hv, hcn, ⟨⟨h42, Bool.eq_false_iff.mpr c, Bool.eq_false_iff.mpr c2⟩, hcd⟩, G⟩⟩
  obtain ⟨p1, p2⟩ := hP cm i E hi lk h67
  unfold smC
  by_cases pf : (prC T n P (0, i)).2.1 = 0
  · obtain ⟨g1, g2, E', cn', g3, g4, g5, g6, g7⟩ := p2 pf
    have hm := h.2.1
    refine go zK (prC T n P (0, i)) E' cn' pf g1 g2 (by rw [zK_eq]; omega) (g3.mono (K66 (by omega))) ?_ g6.1 g5 g6.2 g7
    have e65 : E' 65 d = 20 := by rw [g3 65 d (Or.inr ⟨rfl, rfl⟩), h65]
    have e64 : E' 64 d = 0 := by rw [g3 64 d (Or.inr ⟨rfl, rfl⟩), h64]
    have e66 : E' 66 d = (prC T n P (0, i)).1 := g4
    rw [pnE, e65, e64, e66, if_neg (by decide), Int32.zero_add]
  · have e : suL T n P zK (prC T n P (0, i)) = prC T n P (0, i) := by
      obtain ⟨k, hk⟩ : ∃ k, zK = k + 1 := ⟨999, zK_eq⟩
      rw [hk, suL, if_neg (fun z => pf z.1), if_neg (fun z => pf z.1)]
    rw [e]
    exact ⟨p1, fun z => absurd z pf⟩
theorem test_ok (h : TkH T n m Q) {P : zS → Int32 × zS} {d : Nat} {op cm : Nat → Int32} (hcm : cm d = 0) (hP : ∀ cm, BaseOk T n m V d op cm (fun E => E 67 d = 0 ∧ E 64 d = 0 ∧ E 65 d = 20) (K6 64) (fun E => pnE E d) (ncS T n d (cm d)) (smC T n P)) :
    BaseOk T n m V d op cm (fun E => E 67 d = 0 ∧ E 64 d = 0 ∧ E 65 d = 20 ∧ E 63 d = 0) (K6 62) (fun E => tvE E d) (ncT T n d) (tsC T n P) := by
  intro i E hi lk hE
  obtain ⟨h67, h64, h65, h63⟩ := hE
  obtain ⟨p1, p2⟩ := hP cm i E hi lk ⟨h67, h64, h65⟩
  unfold tsC
  generalize smC T n P (0, i) = q at p1 p2
  by_cases q0 : q.2.1 = 0
  · obtain ⟨q1, q2, F, cn, ag, hv, hcn, ⟨hnc, hcd⟩, G⟩ := p2 q0
    have hv : pnE F d = q.1 := hv
    rw [hcm] at hcd
    -- the other side
    have nxt : ∀ (x : Int32) (g : Int32 → Int32), tkN T n q.2.2 < n → rdE T n (tkN T n q.2.2) d false op cn = .inr (x, d, true, op, upd cn d 1) → (x = 24 ∨ x = 25) → (∀ v, g v = if x = 25 then (if q.1 = v then 1 else 0) else if x = 24 then (if v ≤ q.1 then 0 else 1) else v) →
        (¬ (smC T n P (onC T n q.2)).2.1 = 0 → (rdX T n (tkN T n i, d, true, op, cm, E)).2 = .error (smC T n P (onC T n q.2)).2.1) ∧
        ((smC T n P (onC T n q.2)).2.1 = 0 → i < (smC T n P (onC T n q.2)).2.2 ∧ (smC T n P (onC T n q.2)).2.2 ≤ m ∧ ∃ E' cm', agX d (K6 62) E E' ∧ tvE E' d = g (smC T n P (onC T n q.2)).1 ∧ (∀ j, j < d → cm' j = cm j) ∧ ncT T n d (tkN T n (smC T n P (onC T n q.2)).2.2) cm' ∧ Go T n V (tkN T n i, d, true, op, cm, E) (tkN T n (smC T n P (onC T n q.2)).2.2, d, false, op, cm', E')) := by
      intro x g hlt hr hx hg
      have hm := tk_lt h q2 hlt
      obtain ⟨a1, a2⟩ := tk_on h hm
      have ec : onC T n q.2 = (0, q.2.2 + 1) := by unfold onC; rw [q0, a1]
      rw [ec]
      obtain ⟨F1, eF⟩ : ∃ F1, F1 = eP (eP (eP (eP (suE F d) 62 d (suE F d 64 d)) 63 d x) 64 d 0) 65 d 20 := ⟨_, rfl⟩
      have S : Go T n V (tkN T n i, d, true, op, cm, E) (tkN T n (q.2.2 + 1), d, true, op, upd cn d 1, F1) := by
        refine G.tr (Go.st hlt hr ?_)
        rw [eF]
        rcases hx with rfl | rfl
        · rw [wkE, if_neg (by decide), if_neg (by decide), if_neg (by decide), if_pos (by decide)]
        · rw [wkE, if_neg (by decide), if_neg (by decide), if_neg (by decide), if_pos (by decide)]
      have ag1 : agX d (K6 62) E F1 := by
        rw [eF]
        exact agX_P (agX_P (agX_P (agX_P (ag_su (ag.mono (K6_mono (by omega))) (by omega)) rfl _) rfl _) rfl _) rfl _
      have f67 : F1 67 d = 0 := by rw [eF, eP_o (by decide), eP_o (by decide), eP_o (by decide), eP_o (by decide), suE_67]
      have f64 : F1 64 d = 0 := by rw [eF, eP_o (by decide), eP_s]
      have f65 : F1 65 d = 20 := by rw [eF, eP_s]
      have f63 : F1 63 d = x := by rw [eF, eP_o (by decide), eP_o (by decide), eP_s]
      have f62 : F1 62 d = q.1 := by rw [eF, eP_o (by decide), eP_o (by decide), eP_o (by decide), eP_s, suE_64, hv]
      obtain ⟨r1, r2⟩ := hP (upd cn d 1) (q.2.2 + 1) F1 (by omega) (lk_ag lk ag1) ⟨f67, f64, f65⟩
      refine ⟨fun z => S.er (r1 z), fun z => ?_⟩
      obtain ⟨g1, g2, E', cn', g3, g4, g5, ⟨g6, g8⟩, g7⟩ := r2 z
      refine ⟨by omega, g2, E', cn', ag1.tr (g3.mono (K6_mono (by omega))), ?_, fun j hj => ?_, ⟨g6, fun _ => ?_⟩, S.tr g7⟩
      · have g4 : pnE E' d = (smC T n P (0, q.2.2 + 1)).1 := g4
        rw [tvE_eq, g4, g3 63 d (Or.inr ⟨rfl, rfl⟩), g3 62 d (Or.inr ⟨rfl, rfl⟩), f63, f62, hg]
      · rw [g5 j hj, upd_eq]
        dsimp only
        rw [if_neg (by omega)]
        exact hcn j hj
      · rw [g8, upd_eq]
        dsimp only
        rw [if_pos rfl]
        decide
    unfold tsQ
    by_cases c : isG T n (tkN T n q.2.2) 60 = true
    · rw [if_pos ⟨q0, c⟩]
      refine nxt 24 (fun v => if v ≤ q.1 then 0 else 1) (isG_lt (tkN_le T n _) c) ?_ (Or.inl rfl) (fun v => by rw [if_neg (show ¬ (24 : Int32) = 25 by decide), if_pos rfl])
      rw [show rdE T n (tkN T n q.2.2) d false op cn = rdV T n (tkN T n q.2.2) d op cn from rfl, rdV, if_neg (by rw [hnc.2.1]; decide), if_neg (by rw [hnc.2.2]; decide), if_neg (by rw [hnc.1]; decide), if_pos ⟨c, hcd⟩]
    · rw [if_neg (fun z => c z.2)]
      by_cases c2 : isG T n (tkN T n q.2.2) 61 = true
      · rw [if_pos ⟨q0, c2⟩]
        refine nxt 25 (fun v => if q.1 = v then 1 else 0) (isG_lt (tkN_le T n _) c2) ?_ (Or.inr rfl) (fun v => by rw [if_pos rfl])
        rw [show rdE T n (tkN T n q.2.2) d false op cn = rdV T n (tkN T n q.2.2) d op cn from rfl, rdV, if_neg (by rw [hnc.2.1]; decide), if_neg (by rw [hnc.2.2]; decide), if_neg (by rw [hnc.1]; decide), if_neg (fun z => c z.1), if_pos ⟨c2, hcd⟩]
      · rw [if_neg (fun z => c2 z.2)]
        refine ⟨fun z => absurd q0 z, fun _ => ⟨q1, q2, F, cn, ag.mono (K6_mono (by omega)), ?_, hcn, ⟨hnc, fun z => absurd z (fun z => z.elim c c2)⟩, G⟩⟩
        show tvE F d = q.1
        have f63 : F 63 d = 0 := by rw [ag 63 d (Or.inr ⟨rfl, rfl⟩), h63]
        rw [tvE_eq, f63, if_neg (by decide), if_neg (by decide), hv]
  · rw [tsQ, if_neg (fun z => q0 z.1), if_neg (fun z => q0 z.1)]
    exact ⟨p1, fun z => absurd z q0⟩
theorem expr_ok (h : TkH T n m Q) {P : zS → Int32 × zS} {d : Nat} {op cm : Nat → Int32} (hcm : cm d = 0) (hP : ∀ cm, cm d = 0 → BaseOk T n m V d op cm (fun E => E 67 d = 0 ∧ E 64 d = 0 ∧ E 65 d = 20 ∧ E 63 d = 0) (K6 62) (fun E => tvE E d) (ncT T n d) (tsC T n P)) :
    BaseOk T n m V d op cm (fun E => (E 67 d = 0 ∧ E 64 d = 0 ∧ E 65 d = 20 ∧ E 63 d = 0) ∧ E 61 d = 0) (K6 60) (fun E => teV (suE E d) d) (ncE T n d) (exC T n P) := by
  intro i E hi lk hE
  obtain ⟨hE, h61⟩ := hE
  have go : ∀ k (q : Int32 × zS) (F : Nat → Nat → Int32) (cn : Nat → Int32), q.2.1 = 0 → i < q.2.2 → q.2.2 ≤ m → m - q.2.2 ≤ k → agX d (K6 60) E F → teV (suE F d) d = q.1 → (∀ j, j < d → cn j = cm j) → ncT T n d (tkN T n q.2.2) cn → Go T n V (tkN T n i, d, true, op, cm, E) (tkN T n q.2.2, d, false, op, cn, F) →
      (¬ (exL T n P k q).2.1 = 0 → (rdX T n (tkN T n i, d, true, op, cm, E)).2 = .error (exL T n P k q).2.1) ∧
      ((exL T n P k q).2.1 = 0 → i < (exL T n P k q).2.2 ∧ (exL T n P k q).2.2 ≤ m ∧ ∃ E' cm', agX d (K6 60) E E' ∧ teV (suE E' d) d = (exL T n P k q).1 ∧ (∀ j, j < d → cm' j = cm j) ∧ ncE T n d (tkN T n (exL T n P k q).2.2) cm' ∧ Go T n V (tkN T n i, d, true, op, cm, E) (tkN T n (exL T n P k q).2.2, d, false, op, cm', E')) := by
    intro k
    induction k with
    | zero =>
      intro q F cn q0 q1 q2 q3 ag hv hcn hnc G
      rw [exL]
      refine ⟨fun z => absurd q0 z, fun _ => ⟨q1, q2, F, cn, ag, hv, hcn, ⟨hnc, ?_⟩, G⟩⟩
      rw [show q.2.2 = m by omega, h.2.2.1]
      exact ⟨(end_tok T n).2.1 _, (end_tok T n).2.1 _⟩
    | succ k ih =>
      intro q F cn q0 q1 q2 q3 ag hv hcn hnc G
      have e26 := isW_wx (T := T) (n := n) (b := tkN T n q.2.2) (tkN_le T n _) (k := 26) (by decide) (by decide)
      have e27 := isW_wx (T := T) (n := n) (b := tkN T n q.2.2) (tkN_le T n _) (k := 27) (by decide) (by decide)
      rw [show kwS.getD (26 - 2) 0 = (1111 : Int64) by decide] at e26
      rw [show kwS.getD (27 - 2) 0 = (423 : Int64) by decide] at e27
      have n60 : ∀ {w : Int64}, isW T n (tkN T n q.2.2) w = true → ¬ (isG T n (tkN T n q.2.2) 60 = true ∧ cn d = 0) := fun hw z => isGW z.1 hw
      have n61 : ∀ {w : Int64}, isW T n (tkN T n q.2.2) w = true → ¬ (isG T n (tkN T n q.2.2) 61 = true ∧ cn d = 0) := fun hw z => isGW z.1 hw
      have nxt : ∀ (x : Int32) (g : Int32 → Int32), tkN T n q.2.2 < n → rdE T n (tkN T n q.2.2) d false op cn = .inr (x, d, true, op, upd cn d 0) → (x = 26 ∨ x = 27) → (∀ v, g v = if x = 27 then (if q.1 = 0 ∧ v = 0 then 0 else 1) else if x = 26 then (if q.1 = 0 ∨ v = 0 then 0 else 1) else v) →
          (¬ (exL T n P k (g (tsC T n P (onC T n q.2)).1, (tsC T n P (onC T n q.2)).2)).2.1 = 0 → (rdX T n (tkN T n i, d, true, op, cm, E)).2 = .error (exL T n P k (g (tsC T n P (onC T n q.2)).1, (tsC T n P (onC T n q.2)).2)).2.1) ∧
          ((exL T n P k (g (tsC T n P (onC T n q.2)).1, (tsC T n P (onC T n q.2)).2)).2.1 = 0 → i < (exL T n P k (g (tsC T n P (onC T n q.2)).1, (tsC T n P (onC T n q.2)).2)).2.2 ∧ (exL T n P k (g (tsC T n P (onC T n q.2)).1, (tsC T n P (onC T n q.2)).2)).2.2 ≤ m ∧ ∃ E' cm', agX d (K6 60) E E' ∧ teV (suE E' d) d = (exL T n P k (g (tsC T n P (onC T n q.2)).1, (tsC T n P (onC T n q.2)).2)).1 ∧ (∀ j, j < d → cm' j = cm j) ∧ ncE T n d (tkN T n (exL T n P k (g (tsC T n P (onC T n q.2)).1, (tsC T n P (onC T n q.2)).2)).2.2) cm' ∧ Go T n V (tkN T n i, d, true, op, cm, E) (tkN T n (exL T n P k (g (tsC T n P (onC T n q.2)).1, (tsC T n P (onC T n q.2)).2)).2.2, d, false, op, cm', E')) := by
        intro x g hlt hr hx hg
        have hm := tk_lt h q2 hlt
        obtain ⟨a1, a2⟩ := tk_on h hm
        have ec : onC T n q.2 = (0, q.2.2 + 1) := by unfold onC; rw [q0, a1]
        rw [ec]
        obtain ⟨F1, eF⟩ : ∃ F1, F1 = eP (teE F d) 61 d x := ⟨_, rfl⟩
        have S : Go T n V (tkN T n i, d, true, op, cm, E) (tkN T n (q.2.2 + 1), d, true, op, upd cn d 0, F1) := by
          refine G.tr (Go.st hlt hr ?_)
          rw [eF]
          rcases hx with rfl | rfl
          · rw [wkE, if_neg (by decide), if_neg (by decide), if_neg (by decide), if_neg (by decide), if_pos (by decide)]
          · rw [wkE, if_neg (by decide), if_neg (by decide), if_neg (by decide), if_neg (by decide), if_pos (by decide)]
        have ag1 : agX d (K6 60) E F1 := by
          rw [eF]
          exact agX_P (ag_te ag (by omega)) rfl _
        have f67 : F1 67 d = 0 := by rw [eF, eP_o (by decide), teE_67]
        have f64 : F1 64 d = 0 := by rw [eF, eP_o (by decide), teE_64]
        have f65 : F1 65 d = 20 := by rw [eF, eP_o (by decide), teE_65]
        have f63 : F1 63 d = 0 := by rw [eF, eP_o (by decide), teE_63]
        have f61 : F1 61 d = x := by rw [eF, eP_s]
        have f60 : F1 60 d = q.1 := by rw [eF, eP_o (by decide), teE_60, hv]
        obtain ⟨r1, r2⟩ := hP (upd cn d 0) (by rw [upd_eq]; exact if_pos rfl) (q.2.2 + 1) F1 (by omega) (lk_ag lk ag1) ⟨f67, f64, f65, f63⟩
        by_cases pf : (tsC T n P (0, q.2.2 + 1)).2.1 = 0
        · obtain ⟨g1, g2, E', cn', g3, g4, g5, g6, g7⟩ := r2 pf
          refine ih (g (tsC T n P (0, q.2.2 + 1)).1, (tsC T n P (0, q.2.2 + 1)).2) E' cn' pf (by show i < (tsC T n P (0, q.2.2 + 1)).2.2; omega) g2 (by show m - (tsC T n P (0, q.2.2 + 1)).2.2 ≤ k; omega) (ag1.tr (g3.mono (K6_mono (by omega)))) ?_ (fun j hj => ?_) g6 (S.tr g7)
          · have g4 : tvE E' d = (tsC T n P (0, q.2.2 + 1)).1 := g4
            rw [teV_eq, g4, g3 61 d (Or.inr ⟨rfl, rfl⟩), g3 60 d (Or.inr ⟨rfl, rfl⟩), f61, f60, hg]
          · rw [g5 j hj, upd_eq]
            dsimp only
            rw [if_neg (by omega)]
            exact hcn j hj
        · have e : exL T n P k (g (tsC T n P (0, q.2.2 + 1)).1, (tsC T n P (0, q.2.2 + 1)).2) = (g (tsC T n P (0, q.2.2 + 1)).1, (tsC T n P (0, q.2.2 + 1)).2) := by
            cases k with
            | zero => rfl
            | succ k => rw [exL, if_neg (fun z => pf z.1), if_neg (fun z => pf z.1)]
          rw [e]
          exact ⟨fun _ => S.er (r1 pf), fun z => absurd z pf⟩
      have n4 := hnc.1
      rw [exL]
      by_cases c : wxS T n (tkN T n q.2.2) = 26
      · have w26 : isW T n (tkN T n q.2.2) 1111 = true := by rw [e26]; exact decide_eq_true c
        rw [if_pos ⟨q0, c⟩]
        refine nxt 26 (fun v => if q.1 = 0 ∨ v = 0 then 0 else 1) (isW_lt (tkN_le T n _) w26) ?_ (Or.inl rfl) (fun v => by rw [if_neg (show ¬ (26 : Int32) = 27 by decide), if_pos rfl])
        rw [show rdE T n (tkN T n q.2.2) d false op cn = rdV T n (tkN T n q.2.2) d op cn from rfl, rdV, if_neg (by rw [n4.2.1]; decide), if_neg (by rw [n4.2.2]; decide), if_neg (by rw [n4.1]; decide), if_neg (n60 w26), if_neg (n61 w26), if_pos w26]
      · have w26 : isW T n (tkN T n q.2.2) 1111 = false := by rw [e26]; exact decide_eq_false c
        rw [if_neg (fun z => c z.2)]
        by_cases c2 : wxS T n (tkN T n q.2.2) = 27
        · have w27 : isW T n (tkN T n q.2.2) 423 = true := by rw [e27]; exact decide_eq_true c2
          rw [if_pos ⟨q0, c2⟩]
          refine nxt 27 (fun v => if q.1 = 0 ∧ v = 0 then 0 else 1) (isW_lt (tkN_le T n _) w27) ?_ (Or.inr rfl) (fun v => by rw [if_pos rfl])
          rw [show rdE T n (tkN T n q.2.2) d false op cn = rdV T n (tkN T n q.2.2) d op cn from rfl, rdV, if_neg (by rw [n4.2.1]; decide), if_neg (by rw [n4.2.2]; decide), if_neg (by rw [n4.1]; decide), if_neg (n60 w27), if_neg (n61 w27), if_neg (by rw [w26]; decide), if_pos w27]
        · rw [if_neg (fun z => c2 z.2)]
          exact ⟨fun z => absurd q0 z, fun _ => ⟨q1, q2, F, cn, ag, hv, hcn, ⟨hnc, w26, by rw [e27]; exact decide_eq_false c2⟩, G⟩⟩
  obtain ⟨p1, p2⟩ := hP cm hcm i E hi lk hE
  unfold exC
  by_cases pf : (tsC T n P (0, i)).2.1 = 0
  · obtain ⟨g1, g2, E', cn', g3, g4, g5, g6, g7⟩ := p2 pf
    have hm := h.2.1
    refine go zK (tsC T n P (0, i)) E' cn' pf g1 g2 (by rw [zK_eq]; omega) (g3.mono (K6_mono (by omega))) ?_ g5 g6 g7
    have g4 : tvE E' d = (tsC T n P (0, i)).1 := g4
    have f61 : E' 61 d = 0 := by rw [g3 61 d (Or.inr ⟨rfl, rfl⟩), h61]
    rw [teV_eq, f61, if_neg (by decide), if_neg (by decide), g4]
  · have e : exL T n P zK (tsC T n P (0, i)) = tsC T n P (0, i) := by
      obtain ⟨k, hk⟩ : ∃ k, zK = k + 1 := ⟨999, zK_eq⟩
      rw [hk, exL, if_neg (fun z => pf z.1), if_neg (fun z => pf z.1)]
    rw [e]
    exact ⟨p1, fun z => absurd z pf⟩
end XR
