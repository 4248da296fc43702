theorem ngE_ind {E F : Nat → Nat → Int32} : ∀ (d : Nat) (v : Int32), (∀ j, j ≤ d → F 68 j = E 68 j) → ngE F d v = ngE E d v
  | 0, _, _ => rfl
  | d + 1, v, h => by
    rw [ngE, ngE, h (d + 1) (Nat.le_refl _)]
    split
    · exact ngE_ind d _ (fun j hj => h j (by omega))
    · rfl
theorem opE_l (E : Nat → Nat → Int32) (d κ : Nat) {j : Nat} (h : j ≠ d) : opE E d κ j = E κ j := by
  unfold opE
  rw [eP_l h, eP_l h, eP_l h, eP_l h, eP_l h]
theorem opE_at (E : Nat → Nat → Int32) (d : Nat) : (opE E d 67 d = 0 ∧ opE E d 64 d = 0 ∧ opE E d 65 d = 20 ∧ opE E d 63 d = 0) ∧ opE E d 61 d = 0 := by
  unfold opE
  refine ⟨⟨eP_s, ?_, ?_, ?_⟩, ?_⟩
  · rw [eP_o (by decide), eP_o (by decide), eP_s]
  · rw [eP_o (by decide), eP_s]
  · rw [eP_o (by decide), eP_o (by decide), eP_o (by decide), eP_s]
  · rw [eP_o (by decide), eP_o (by decide), eP_o (by decide), eP_o (by decide), eP_s]
theorem wx_no : zWf.getD 25 0 = -1 ∧ zWf.getD 0 0 = -1 := by decide
section XS
variable {T : Nat → Int32} {n m : Nat} {V : Nat → Int32} {Q : Nat → Int64} {F : Int32 → Int32}
theorem wx25 {b : Nat} (hb : b ≤ n) : isW T n b 10631 = decide (wxS T n b = 25) := by
  have e := isW_wx (T := T) hb (k := 25) (by decide) (by decide)
  rwa [show kwS.getD (25 - 2) 0 = (10631 : Int64) by decide] at e
theorem fac0 {b : Nat} (hb : b ≤ n) : facS T n b = 0 ↔ zWf.getD (wxS T n b) 0 = -1 := by
  rw [fac_wx hb]
  constructor
  · intro e
    have := congrArg (fun x => x - 1) e
    simpa using this
  · intro e; rw [e]; decide
theorem stP_iff {b : Nat} (hb : b ≤ n) : stP T n b = false ↔ ((facS T n b = 0 ∧ isW T n b 10631 = false) ∧ (isG T n b 40 = false ∧ ¬ tyS T n b = 2)) := by
  rw [stP, wx25 hb, fac0 hb]
  simp only [Bool.or_eq_false_iff, Bool.not_eq_false', decide_eq_false_iff_not, decide_eq_true_eq]
  constructor
  · rintro ⟨h1, h2, h3, h4⟩; exact ⟨⟨h3, h2⟩, h4, h1⟩
  · rintro ⟨⟨h3, h2⟩, h4, h1⟩; exact ⟨h1, h2, h3, h4⟩
theorem stP_lt {b : Nat} (hb : b ≤ n) (h : stP T n b = true) : b < n := by
  refine Nat.lt_of_le_of_ne hb (fun e => ?_)
  subst e
  obtain ⟨h1, h2, h3, h4⟩ := end_tok T b
  rw [(stP_iff (Nat.le_refl _)).mpr ⟨⟨h3, h2 _⟩, h1 _, h4⟩] at h; cases h
/-- a value -/
theorem val_ok (h : TkH T n m Q) {d i : Nat} {op cm : Nat → Int32} {E : Nat → Nat → Int32} {x v : Int32} (hi : i < m) (hx : vaC x) (hv : atV V x = v) (lk : lkE d op E) (e : rdE T n (tkN T n i) d true op cm = .inr (x, ngR op d, false, op, cm)) :
    i < i + 1 ∧ i + 1 ≤ m ∧ ∃ E2, agX d K0 E E2 ∧ Go T n V (tkN T n i, d, true, op, cm, E) (tkN T n (i + 1), ngR op d, false, op, cm, eP E2 66 (ngR op d) (if E 67 (ngR op d) = 0 then (ngE E d v).2 else E 66 (ngR op d) * (ngE E d v).2)) := by
  refine ⟨by omega, by omega, E, agX.rf _ _ _, Go.st (h.2.2.2.1 i hi) e ?_⟩
  rw [wk_va hx, hv]
  show tmE E (ngE E d v) = _
  rw [tmE, ng_lk d v lk]
theorem part_ok (h : TkH T n m Q) (hV : ∀ f, f < 5 → V (f + 1) = F (nI f)) : ∀ r, r ≤ 5 → PartOk T n m V (5 - r) (ptC T n Q F r) := by
  intro r
  induction r with
  | zero =>
    intro _ i op cm E hi lk
    have hb := tkN_le T n i
    have hn := h.1
    rw [ptC]
    have hf : ∀ k : Int32, (k = 1 ∨ k = 5) → (flC T n k (0, i)).1 = ftS k (tkN T n i) := fun k _ => by unfold flC; rw [if_pos rfl]
    cases q : stP T n (tkN T n i) with
    | false =>
      rw [if_neg (by decide)]
      refine ⟨fun _ => ?_, fun z => absurd z ?_⟩
      · rw [rdX_l (r := .error (ftS 1 (tkN T n i)))]
        · show _ = Except.error (flC T n 1 (0, i)).1
          rw [hf 1 (Or.inl rfl)]
        · rw [show rdE T n (tkN T n i) (5 - 0) true op cm = rdW T n (tkN T n i) 5 op cm from rfl, rdW, if_pos ((stP_iff hb).mp q)]
      · show ¬ (flC T n 1 (0, i)).1 = 0
        rw [hf 1 (Or.inl rfl)]
        exact ft_ne (by omega) (Or.inl rfl)
    | true =>
      rw [if_pos rfl]
      refine ⟨fun _ => ?_, fun z => absurd z ?_⟩
      · rw [rdX_l (r := .error (ftS 5 (tkN T n i)))]
        · show _ = Except.error (flC T n 5 (0, i)).1
          rw [hf 5 (Or.inr rfl)]
        · rw [show rdE T n (tkN T n i) (5 - 0) true op cm = rdW T n (tkN T n i) 5 op cm from rfl, rdW, if_neg (fun z => by rw [(stP_iff hb).mpr z] at q; cases q), if_pos rfl]
      · show ¬ (flC T n 5 (0, i)).1 = 0
        rw [hf 5 (Or.inr rfl)]
        exact ft_ne (by omega) (Or.inr rfl)
  | succ r ih =>
    intro hr i op cm E hi lk
    have IH := ih (by omega)
    obtain ⟨d, hd⟩ : ∃ d, d = 5 - (r + 1) := ⟨_, rfl⟩
    rw [show 5 - r = d + 1 by omega] at IH
    rw [← hd] at lk ⊢
    have hd5 : ¬ d = 5 := by omega
    have hb := tkN_le T n i
    have hn := h.1
    rw [ptC]
    by_cases q : stP T n (tkN T n i) = false
    · rw [if_pos q]
      have hf : (flC T n 1 (0, i)).1 = ftS 1 (tkN T n i) := by unfold flC; rw [if_pos rfl]
      refine ⟨fun _ => ?_, fun z => absurd z ?_⟩
      · rw [rdX_l (r := .error (ftS 1 (tkN T n i)))]
        · show _ = Except.error (flC T n 1 (0, i)).1
          rw [hf]
        · rw [show rdE T n (tkN T n i) d true op cm = rdW T n (tkN T n i) d op cm from rfl, rdW, if_pos ((stP_iff hb).mp q)]
      · show ¬ (flC T n 1 (0, i)).1 = 0
        rw [hf]
        exact ft_ne (by omega) (Or.inl rfl)
    rw [if_neg q, if_neg (fun z => z rfl)]
    have c1 := fun z => q ((stP_iff hb).mpr z)
    have hlt := stP_lt hb (by cases w : stP T n (tkN T n i) with | true => rfl | false => exact absurd w q)
    have hm := tk_lt h hi hlt
    obtain ⟨a1, a2⟩ := tk_on h hm
    have ec : onC T n (0, i) = (0, i + 1) := by unfold onC; rw [a1]
    rw [ec]
    by_cases t2 : tyS T n (tkN T n i) = 2
    · -- a number
      rw [if_pos t2]
      refine ⟨fun z => absurd rfl z, fun _ => ?_⟩
      have wn : isW T n (tkN T n i) 10631 = false := by rw [isW, decide_eq_false (by rw [t2]; decide), Bool.false_and]
      have gn : isG T n (tkN T n i) 40 = false := by rw [isG, decide_eq_false (by rw [t2]; decide), Bool.false_and]
      have fn : facS T n (tkN T n i) = 0 := by rw [facS, if_neg (by rw [t2]; decide)]
      obtain ⟨k, hk, ek⟩ := nmS_bd t2
      refine val_ok h hm (vaC_num hk) ?_ lk ?_
      · rw [atV, if_neg, h.2.2.2.2 i hm, (nm_vl t2).1, ek]
        · rw [Int32.add_comm, Int32.add_sub_cancel]
        · rw [show (100 : Int32) = nI 100 from rfl, nI_add]
          exact nI_nlt (a := 100 + k) (b := 100) (by omega) (by omega)
      · rw [show rdE T n (tkN T n i) d true op cm = rdW T n (tkN T n i) d op cm from rfl, rdW, if_neg c1, if_neg hd5, if_neg (by rw [wn]; decide), if_neg (by rw [gn]; decide), if_pos (by rw [fn]; decide), ek]
    rw [if_neg t2]
    by_cases fc : zWf.getD (wxS T n (tkN T n i)) 0 = -1
    · rw [if_neg (fun z => z fc)]
      have f0 := (fac0 hb).mpr fc
      by_cases wn : wxS T n (tkN T n i) = 25
      · -- not
        rw [if_pos wn]
        have w1 : isW T n (tkN T n i) 10631 = true := by rw [wx25 hb]; exact decide_eq_true wn
        obtain ⟨E1, eE1⟩ : ∃ E1, E1 = opE (eP E 68 (d + 1) 1) (d + 1) := ⟨_, rfl⟩
        have ag1 : agX d K0 E E1 := fun κ j q => by rw [eE1, opE_l _ _ _ (by omega), eP_l (by omega)]
        have S : Go T n V (tkN T n i, d, true, op, cm, E) (tkN T n (i + 1), d + 1, true, upd op (d + 1) 1, upd cm (d + 1) 0, E1) := by
          refine Go.st hlt (x := 30) ?_ ?_
          · rw [show rdE T n (tkN T n i) d true op cm = rdW T n (tkN T n i) d op cm from rfl, rdW, if_neg c1, if_neg hd5, if_pos w1]
          · rw [wkE, if_pos (Or.inr rfl), if_pos rfl, eE1]
        have lk1 : lkE (d + 1) (upd op (d + 1) 1) E1 := by
          intro j h1 h2
          rw [eE1, opE_68, upd_eq]
          dsimp only
          by_cases e : j = d + 1
          · rw [if_pos e, e, eP_s]
          · rw [if_neg e, eP_l e]
            exact lk j h1 (by omega)
        obtain ⟨p1, p2⟩ := IH (i + 1) (upd op (d + 1) 1) (upd cm (d + 1) 0) E1 (by omega) lk1
        refine ⟨fun z => S.er (p1 z), fun z => ?_⟩
        obtain ⟨g1, g2, E2, g3, g4⟩ := p2 z
        have hng : ngR (upd op (d + 1) 1) (d + 1) = ngR op d := by
          rw [ngR, if_pos (by rw [upd_eq]; exact if_pos rfl)]
          exact ngR_ind d (fun j h1 h2 => by rw [upd_eq]; exact if_neg (by omega))
        have hd' := ngR_le op d
        have hnv : ∀ v : Int32, ngE E1 (d + 1) v = ngE E d (if v = 0 then 1 else 0) := by
          intro v
          rw [ngE, if_pos (by rw [eE1, opE_68, eP_s])]
          exact ngE_ind d _ (fun j hj => ag1 68 j (by
            rcases Nat.lt_or_ge j d with q | q
            · exact Or.inl q
            · exact Or.inr ⟨by omega, rfl⟩))
        rw [hng, hnv] at g4
        have lo : ∀ κ, E1 κ (ngR op d) = E κ (ngR op d) := fun κ => ag1 κ _ (by
            rcases Nat.lt_or_ge (ngR op d) d with q | q
            · exact Or.inl q
            · exact Or.inr ⟨by omega, rfl⟩)
        rw [lo, lo] at g4
        refine ⟨by show i < (ptC T n Q F r (0, i + 1)).2.2; omega, g2, E2, ag1.tr (agX_low g3), (S.tr g4).ind (fun j h1 h2 => ?_) (fun j h2 => ?_)⟩
        · rw [upd_eq]; exact if_neg (by omega)
        · rw [upd_eq]; exact if_neg (by omega)
      · -- ( .. )
        rw [if_neg wn]
        have w1 : isW T n (tkN T n i) 10631 = false := by rw [wx25 hb]; exact decide_eq_false wn
        have gp : isG T n (tkN T n i) 40 = true := by
          cases w : isG T n (tkN T n i) 40 with
          | true => rfl
          | false => exact absurd ⟨⟨f0, w1⟩, w, t2⟩ c1
        obtain ⟨E1, eE1⟩ : ∃ E1, E1 = opE (eP E 68 (d + 1) 0) (d + 1) := ⟨_, rfl⟩
        have ag1 : agX d K0 E E1 := fun κ j q => by rw [eE1, opE_l _ _ _ (by omega), eP_l (by omega)]
        have S : Go T n V (tkN T n i, d, true, op, cm, E) (tkN T n (i + 1), d + 1, true, upd op (d + 1) 2, upd cm (d + 1) 0, E1) := by
          refine Go.st hlt (x := 28) ?_ ?_
          · rw [show rdE T n (tkN T n i) d true op cm = rdW T n (tkN T n i) d op cm from rfl, rdW, if_neg c1, if_neg hd5, if_neg (by rw [w1]; decide), if_pos gp]
          · rw [wkE, if_pos (Or.inl rfl), if_neg (by decide), eE1]
        have lk1 : lkE (d + 1) (upd op (d + 1) 2) E1 := by
          intro j h1 h2
          rw [eE1, opE_68, upd_eq]
          dsimp only
          by_cases e : j = d + 1
          · rw [if_pos e, e, eP_s]; decide
          · rw [if_neg e, eP_l e]
            exact lk j h1 (by omega)
        have hng : ngR (upd op (d + 1) 2) (d + 1) = d + 1 := by
          rw [ngR, if_neg (by rw [upd_eq]; dsimp only; rw [if_pos rfl]; decide)]
        have hcm : upd cm (d + 1) 0 (d + 1) = 0 := by rw [upd_eq]; exact if_pos rfl
        obtain ⟨p1, p2⟩ := expr_ok h hcm (fun cn hcn => test_ok h hcn (fun cn => sum_ok h (fun cn => prod_ok h (cm := cn) IH hng))) (i + 1) E1 (by omega) lk1 (by rw [eE1]; exact opE_at _ _)
        generalize exC T n (ptC T n Q F r) (0, i + 1) = q at p1 p2
        have st : ¬ q.2.1 = 0 → (sgC T n 41 q.2).1 = q.2.1 := by
          intro z
          unfold sgC
          split
          · rfl
          · unfold flC; exact if_neg z
        by_cases q0 : q.2.1 = 0
        · obtain ⟨g1, g2, E', cn, g3, g4, g5, ⟨⟨g6, g8⟩, g9⟩, G⟩ := p2 q0
          have hb' := tkN_le T n q.2.2
          have n60 : ¬ (isG T n (tkN T n q.2.2) 60 = true ∧ cn (d + 1) = 0) := fun z => g8 (Or.inl z.1) z.2
          have n61 : ¬ (isG T n (tkN T n q.2.2) 61 = true ∧ cn (d + 1) = 0) := fun z => g8 (Or.inr z.1) z.2
          have rV : rdE T n (tkN T n q.2.2) (d + 1) false (upd op (d + 1) 2) cn = if isG T n (tkN T n q.2.2) 41 = true ∧ 0 < d + 1 then .inr (29, ngR (upd op (d + 1) 2) (d + 1 - 1), false, upd op (d + 1) 2, cn) else if d + 1 = 0 ∧ isG T n (tkN T n q.2.2) 59 = true then .inl (.ok (nbS T n (tkN T n q.2.2))) else .inl (.error (ftS 1 (tkN T n q.2.2))) := by
            rw [show rdE T n (tkN T n q.2.2) (d + 1) false (upd op (d + 1) 2) cn = rdV T n (tkN T n q.2.2) (d + 1) (upd op (d + 1) 2) cn from rfl, rdV, if_neg (by rw [g6.2.1]; decide), if_neg (by rw [g6.2.2]; decide), if_neg (by rw [g6.1]; decide), if_neg n60, if_neg n61, if_neg (by rw [g9.1]; decide), if_neg (by rw [g9.2]; decide)]
          by_cases gc : isG T n (tkN T n q.2.2) 41 = true
          · rw [if_pos ⟨gc, by omega⟩] at rV
            have hlt2 := isG_lt hb' gc
            have hm2 := tk_lt h g2 hlt2
            obtain ⟨b1, b2⟩ := tk_on h hm2
            have es : sgC T n 41 q.2 = (0, q.2.2 + 1) := by rw [sgC, if_pos gc]; unfold onC; rw [q0, b1]
            rw [es]
            refine ⟨fun z => absurd rfl z, fun _ => ⟨by show i < q.2.2 + 1; omega, by show q.2.2 + 1 ≤ m; omega, teE E' (d + 1), ?_, ?_⟩⟩
            · intro κ j hj
              rw [teE_l _ _ _ (by omega), g3 κ j (Or.inl (by omega))]
              exact ag1 κ j hj
            · have hd' := ngR_le op d
              have low : ∀ κ j, j ≤ d → teE E' (d + 1) κ j = E κ j := fun κ j hj => by
                rw [teE_l _ _ _ (by omega), g3 κ j (Or.inl (by omega))]
                exact ag1 κ j (by
                  rcases Nat.lt_or_ge j d with q | q
                  · exact Or.inl q
                  · exact Or.inr ⟨by omega, rfl⟩)
              have hng2 : ngR (upd op (d + 1) 2) (d + 1 - 1) = ngR op d := ngR_ind d (fun j h1 h2 => by rw [upd_eq]; exact if_neg (by omega))
              rw [hng2] at rV
              have F := Go.st (V := V) (E := E') (E' := eP (teE E' (d + 1)) 66 (ngR op d) (if E 67 (ngR op d) = 0 then (ngE E d q.1).2 else E 66 (ngR op d) * (ngE E d q.1).2)) hlt2 rV (by
                rw [wkE, if_neg (by decide), if_neg (by decide), if_neg (by decide), if_neg (by decide), if_neg (by decide), if_pos rfl]
                show tmE (teE E' (d + 1)) (ngE (teE E' (d + 1)) d (teE E' (d + 1) 60 (d + 1))) = _
                have g4 : teV (suE E' (d + 1)) (d + 1) = q.1 := g4
                rw [teE_60, g4, ngE_ind d q.1 (fun j hj => low 68 j hj), tmE, ng_lk d q.1 lk, low 67 _ hd', low 66 _ hd'])
              refine ((S.tr G).tr F).ind (fun j h1 h2 => ?_) (fun j h2 => ?_)
              · rw [upd_eq]; exact if_neg (by omega)
              · rw [g5 j (by omega), upd_eq]; exact if_neg (by omega)
          · rw [if_neg (fun z => gc z.1), if_neg (fun z => by omega)] at rV
            have es : (sgC T n 41 q.2).1 = ftS 1 (tkN T n q.2.2) := by rw [sgC, if_neg gc]; unfold flC; exact if_pos q0
            refine ⟨fun _ => ?_, fun z => absurd z ?_⟩
            · show _ = Except.error (sgC T n 41 q.2).1
              rw [es]
              refine (S.tr G).er ?_
              rw [rdX_l rV]
            · show ¬ (sgC T n 41 q.2).1 = 0
              rw [es]
              exact ft_ne (by omega) (Or.inl rfl)
        · refine ⟨fun _ => ?_, fun z => absurd z ?_⟩
          · show _ = Except.error (sgC T n 41 q.2).1
            rw [st q0]
            exact S.er (p1 q0)
          · show ¬ (sgC T n 41 q.2).1 = 0
            rw [st q0]; exact q0
    · -- a fact
      rw [if_pos fc]
      refine ⟨fun z => absurd rfl z, fun _ => ?_⟩
      have f0 : ¬ facS T n (tkN T n i) = 0 := fun z => fc ((fac0 hb).mp z)
      have t1 : tyS T n (tkN T n i) = 1 := by
        refine Decidable.byContradiction (fun z => f0 ?_)
        rw [facS, if_neg z]
      have wn : isW T n (tkN T n i) 10631 = false := by
        rw [wx25 hb]
        refine decide_eq_false (fun z => fc ?_)
        rw [z]; exact wx_no.1
      have gn : isG T n (tkN T n i) 40 = false := by rw [isG, decide_eq_false (by rw [t1]; decide), Bool.false_and]
      have fl : ¬ facS T n (tkN T n i) ≤ 0 := by
        rcases fac_bd T n (tkN T n i) with e | e | e | e | e | e
        · exact absurd e f0
        all_goals rw [e]; decide
      refine val_ok h hm (vaC_fac fl) ?_ lk ?_
      · have ew := fac_wx (T := T) (n := n) hb
        have ez : zWf.getD (wxS T n (tkN T n i)) 0 = facS T n (tkN T n i) - 1 := by rw [ew, Int32.add_sub_cancel]
        rw [ez]
        rcases fac_bd T n (tkN T n i) with e | e | e | e | e | e
        · exact absurd e f0
        · rw [e]; exact hV 0 (by decide)
        · rw [e]; exact hV 1 (by decide)
        · rw [e]; exact hV 2 (by decide)
        · rw [e]; exact hV 3 (by decide)
        · rw [e]; exact hV 4 (by decide)
      · rw [show rdE T n (tkN T n i) d true op cm = rdW T n (tkN T n i) d op cm from rfl, rdW, if_neg c1, if_neg hd5, if_neg (by rw [wn]; decide), if_neg (by rw [gn]; decide), if_neg fl]
/-- a bet's expression, with the ; behind it -/
theorem top_ok (h : TkH T n m Q) (hV : ∀ f, f < 5 → V (f + 1) = F (nI f)) {i : Nat} (hi : i ≤ m) :
    (¬ (exC T n (ptC T n Q F 5) (0, i)).2.1 = 0 → (exR T n (tkN T n i)).2 = .error (exC T n (ptC T n Q F 5) (0, i)).2.1) ∧
    ((exC T n (ptC T n Q F 5) (0, i)).2.1 = 0 → (exC T n (ptC T n Q F 5) (0, i)).2.2 ≤ m ∧
      (isG T n (tkN T n (exC T n (ptC T n Q F 5) (0, i)).2.2) 59 = true → (exR T n (tkN T n i)).2 = .ok (nbS T n (tkN T n (exC T n (ptC T n Q F 5) (0, i)).2.2)) ∧ ∀ E0, evL V (exR T n (tkN T n i)).1 E0 = (exC T n (ptC T n Q F 5) (0, i)).1) ∧
      (isG T n (tkN T n (exC T n (ptC T n Q F 5) (0, i)).2.2) 59 = false → (exR T n (tkN T n i)).2 = .error (ftS 1 (tkN T n (exC T n (ptC T n Q F 5) (0, i)).2.2)))) := by
  have IH : PartOk T n m V 0 (ptC T n Q F 5) := part_ok h hV 5 (Nat.le_refl _)
  have B : ∀ E0 : Nat → Nat → Int32, _ := fun E0 => expr_ok h (d := 0) (op := fun _ => 0) (cm := fun _ => 0) rfl (fun cn hcn => test_ok h hcn (fun cn => sum_ok h (fun cn => prod_ok h (cm := cn) IH rfl))) i (opE E0 0) hi (fun j h1 h2 => by omega) (opE_at _ _)
  have X : ∀ E0 : Nat → Nat → Int32, rdX T n (tkN T n i, 0, true, (fun _ => 0), (fun _ => 0), opE E0 0) = exR T n (tkN T n i) := fun _ => rfl
  generalize exC T n (ptC T n Q F 5) (0, i) = q at B
  have Z := B (fun _ _ => 0)
  rw [X] at Z
  refine ⟨Z.1, fun q0 => ?_⟩
  obtain ⟨g1, g2, E', cn, g3, g4, g5, ⟨⟨g6, g8⟩, g9⟩, G⟩ := Z.2 q0
  refine ⟨g2, fun gs => ?_, fun gs => ?_⟩
  · have end_ : ∀ (cn : Nat → Int32) (F : Nat → Nat → Int32), ncE T n 0 (tkN T n q.2.2) cn → rdX T n (tkN T n q.2.2, 0, false, (fun _ => 0), cn, F) = ([], .ok (nbS T n (tkN T n q.2.2))) := by
      rintro cn F ⟨⟨g6, g8⟩, g9⟩
      have n60 : ¬ (isG T n (tkN T n q.2.2) 60 = true ∧ cn 0 = 0) := fun z => g8 (Or.inl z.1) z.2
      have n61 : ¬ (isG T n (tkN T n q.2.2) 61 = true ∧ cn 0 = 0) := fun z => g8 (Or.inr z.1) z.2
      refine rdX_l ?_
      rw [show rdE T n (tkN T n q.2.2) 0 false (fun _ => 0) cn = rdV T n (tkN T n q.2.2) 0 (fun _ => 0) cn from rfl, rdV, if_neg (by rw [g6.2.1]; decide), if_neg (by rw [g6.2.2]; decide), if_neg (by rw [g6.1]; decide), if_neg n60, if_neg n61, if_neg (by rw [g9.1]; decide), if_neg (by rw [g9.2]; decide), if_neg (fun z => by omega), if_pos ⟨rfl, gs⟩]
    constructor
    · obtain ⟨L, l1, l2⟩ := G
      rw [X, end_ cn E' ⟨⟨g6, g8⟩, g9⟩] at l1
      rw [l1]
    · intro E0
      obtain ⟨-, -, F, cn0, k3, k4, k5, k6, L, l1, l2⟩ := (B E0).2 q0
      rw [X, end_ cn0 F k6, List.append_nil] at l1
      rw [l1]
      show teE (wkL V L (0, opE E0 0)).2 0 60 0 = q.1
      have l2 : wkL V L (0, opE E0 0) = (0, F) := l2
      have k4 : teV (suE F 0) 0 = q.1 := k4
      rw [l2, teE_60, k4]
  · have n60 : ¬ (isG T n (tkN T n q.2.2) 60 = true ∧ cn 0 = 0) := fun z => g8 (Or.inl z.1) z.2
    have n61 : ¬ (isG T n (tkN T n q.2.2) 61 = true ∧ cn 0 = 0) := fun z => g8 (Or.inr z.1) z.2
    have := G.er (e := ftS 1 (tkN T n q.2.2)) (by
      rw [rdX_l (r := .error (ftS 1 (tkN T n q.2.2)))]
      rw [show rdE T n (tkN T n q.2.2) 0 false (fun _ => 0) cn = rdV T n (tkN T n q.2.2) 0 (fun _ => 0) cn from rfl, rdV, if_neg (by rw [g6.2.1]; decide), if_neg (by rw [g6.2.2]; decide), if_neg (by rw [g6.1]; decide), if_neg n60, if_neg n61, if_neg (by rw [g9.1]; decide), if_neg (by rw [g9.2]; decide), if_neg (fun z => by omega), if_neg (fun z => by rw [gs] at z; cases z.2)])
    rwa [X] at this
end XS
