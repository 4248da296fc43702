section TE
variable {T : Nat → Int32} {n m : Nat} {Q : Nat → Int64} {b : Nat} {s : zS}
/-- the eight rows of a loan -/
def lnU (cu : zB) (i : Nat) (q : (Int32 × Int32 × Int32 × Int32) × (Int32 × Int32 × Int32 × Int32) × zS) : zB :=
  bU (bU (bU (bU (bU (bU (bU (bU cu 4 i q.1.1) 5 i q.1.2.1) 6 i q.1.2.2.1) 7 i q.1.2.2.2) 8 i q.2.1.1) 9 i q.2.1.2.1) 10 i q.2.1.2.2.1) 11 i q.2.1.2.2.2
set_option maxHeartbeats 2000000 in
theorem rd_loan (h : TkH T n m Q) (a : At T n m b s) {cu : zB} {hn pn hc pc : Nat → Int64} {nh np nl : Nat} (eh : cu 0 0 = nI nh) (ep : cu 0 1 = nI np) (el : cu 0 2 = nI nl) (hh : nh ≤ 4) (hp : np ≤ 6) (hl : nl < 10) (NH : NR hn hc nh) (NP : NR pn pc np) :
    match loanP T n cu hn pn b with
    | .ok r => At T n m r.2 (lnS T n Q hc pc nh np s).2.2 ∧ r.1 = bU (lnU cu nl (lnS T n Q hc pc nh np s)) 0 2 (nI (nl + 1))
    | .error e => Dd e (lnS T n Q hc pc nh np s).2.2 := by
  have x0 : ix (cu 0 0) = nh := by rw [eh, ixn (by omega)]
  have x1 : ix (cu 0 1) = np := by rw [ep, ixn (by omega)]
  have x2 : ix (cu 0 2) = nl := by rw [el, ixn (by omega)]
  have n4 : ¬ cu 0 2 = 10 := fun z => by
    have := congrArg ix z
    rw [x2] at this
    have e4 : ix (10 : Int32) = 10 := by decide
    omega
  unfold loanP
  rw [if_neg n4, x0, x1, x2]
  simp only [bind, Except.bind]
  -- the places of the class, by name
  obtain ⟨s1, e1⟩ : ∃ x, x = onC T n s := ⟨_, rfl⟩
  obtain ⟨f0, ef0⟩ : ∃ x, x = fdN pc (Q s1.2) np 0 := ⟨_, rfl⟩
  obtain ⟨s1', e1'⟩ : ∃ x, x = tdC T n f0 (-1) (-1) s1 := ⟨_, rfl⟩
  obtain ⟨s2, e2⟩ : ∃ x, x = wdC T n 7 s1' := ⟨_, rfl⟩
  obtain ⟨f1, ef1⟩ : ∃ x, x = fdN pc (Q s2.2) np 0 := ⟨_, rfl⟩
  obtain ⟨s2', e2'⟩ : ∃ x, x = tdC T n f1 f0 (-1) s2 := ⟨_, rfl⟩
  obtain ⟨s3, e3⟩ : ∃ x, x = wdC T n 8 s2' := ⟨_, rfl⟩
  obtain ⟨q2, eq2⟩ : ∃ x, x = nmC T n Q 1 999 s3 := ⟨_, rfl⟩
  obtain ⟨s4, e4⟩ : ∃ x, x = wdC T n 9 q2.2 := ⟨_, rfl⟩
  obtain ⟨q3, eq3⟩ : ∃ x, x = nmC T n Q 0 99 s4 := ⟨_, rfl⟩
  obtain ⟨s5, e5⟩ : ∃ x, x = wdC T n 10 q3.2 := ⟨_, rfl⟩
  obtain ⟨q4, eq4⟩ : ∃ x, x = nmC T n Q 1 9 s5 := ⟨_, rfl⟩
  obtain ⟨s6, e6⟩ : ∃ x, x = wdC T n 11 q4.2 := ⟨_, rfl⟩
  obtain ⟨f5, ef5⟩ : ∃ x, x = fdN hc (Q s6.2) nh 0 := ⟨_, rfl⟩
  obtain ⟨s7, e7⟩ : ∃ x, x = tdC T n f5 (-1) (-1) s6 := ⟨_, rfl⟩
  obtain ⟨f6, ef6⟩ : ∃ x, x = zWk.getD (wxS T n (tkN T n s7.2)) 0 := ⟨_, rfl⟩
  obtain ⟨s8, e8⟩ : ∃ x, x = kdC T n s7 := ⟨_, rfl⟩
  obtain ⟨s9, e9⟩ : ∃ x, x = onC T n s8 := ⟨_, rfl⟩
  obtain ⟨f7, ef7⟩ : ∃ x, x = fdN pc (Q s9.2) np 0 := ⟨_, rfl⟩
  have L : lnS T n Q hc pc nh np s = if wxS T n (tkN T n s8.2) = 12 then ((f0, f1, q2.1, q3.1), (q4.1, f5, f6, f7), sgC T n 59 (tdC T n f7 f0 f1 s9)) else ((f0, f1, q2.1, q3.1), (q4.1, f5, f6, -1), sgC T n 59 s8) := by
    rw [lnS]
    dsimp only
    rw [← e1, ← ef0, ← e1', ← e2, ← ef1, ← e2', ← e3, ← eq2, ← e4, ← eq3, ← e5, ← eq4, ← e6, ← ef5, ← e7, ← ef6, ← e8, ← e9, ← ef7]
  -- a fault anywhere stands at the end
  have fin : ∀ e, Dd e s8 → Dd e (lnS T n Q hc pc nh np s).2.2 := by
    intro e d
    rw [L]
    split
    · exact dd_sg (dd_td (by rw [e9]; exact dd_on d))
    · exact dd_sg d
  have f_7 : ∀ e, Dd e s7 → Dd e (lnS T n Q hc pc nh np s).2.2 := fun e d => fin e (by rw [e8]; exact dd_kd d)
  have f_6 : ∀ e, Dd e s6 → Dd e (lnS T n Q hc pc nh np s).2.2 := fun e d => f_7 e (by rw [e7]; exact dd_td d)
  have f_q4 : ∀ e, Dd e q4.2 → Dd e (lnS T n Q hc pc nh np s).2.2 := fun e d => f_6 e (by rw [e6]; exact dd_wd d)
  have f_5 : ∀ e, Dd e s5 → Dd e (lnS T n Q hc pc nh np s).2.2 := fun e d => f_q4 e (by rw [eq4]; exact dd_nm d)
  have f_q3 : ∀ e, Dd e q3.2 → Dd e (lnS T n Q hc pc nh np s).2.2 := fun e d => f_5 e (by rw [e5]; exact dd_wd d)
  have f_4 : ∀ e, Dd e s4 → Dd e (lnS T n Q hc pc nh np s).2.2 := fun e d => f_q3 e (by rw [eq3]; exact dd_nm d)
  have f_q2 : ∀ e, Dd e q2.2 → Dd e (lnS T n Q hc pc nh np s).2.2 := fun e d => f_4 e (by rw [e4]; exact dd_wd d)
  have f_3 : ∀ e, Dd e s3 → Dd e (lnS T n Q hc pc nh np s).2.2 := fun e d => f_q2 e (by rw [eq2]; exact dd_nm d)
  have f_2' : ∀ e, Dd e s2' → Dd e (lnS T n Q hc pc nh np s).2.2 := fun e d => f_3 e (by rw [e3]; exact dd_wd d)
  have f_2 : ∀ e, Dd e s2 → Dd e (lnS T n Q hc pc nh np s).2.2 := fun e d => f_2' e (by rw [e2']; exact dd_td d)
  have f_1' : ∀ e, Dd e s1' → Dd e (lnS T n Q hc pc nh np s).2.2 := fun e d => f_2 e (by rw [e2]; exact dd_wd d)
  have a1 := at_on h a
  rw [← e1] at a1
  have r1 := rd_per h a1 hp NP (x := -1) (y := -1)
  rw [← ef0, ← e1'] at r1
  generalize perP T n pn np (-1) (-1) (nbS T n b) = w1 at r1
  cases w1 with
  | error e => exact f_1' e r1
  | ok le =>
  obtain ⟨v0, b1⟩ := r1
  have v0 : f0 = le.1 := v0
  dsimp only
  have r2 := rd_wd h b1 (k := 7) (by decide) (by decide)
  rw [show kwS.getD (7 - 2) 0 = (555 : Int64) by decide, ← e2] at r2
  generalize wordP T n 555 le.2 = w2 at r2
  cases w2 with
  | error e => exact f_2 e r2
  | ok b3 =>
  dsimp only
  have r3 := rd_per h r2 hp NP (x := f0) (y := -1)
  rw [← ef1, ← e2', v0] at r3
  generalize perP T n pn np le.1 (-1) b3 = w3 at r3
  cases w3 with
  | error e => exact f_2' e r3
  | ok de =>
  obtain ⟨v1, b4⟩ := r3
  have v1 : f1 = de.1 := v1
  dsimp only
  have r4 := rd_wd h b4 (k := 8) (by decide) (by decide)
  rw [show kwS.getD (8 - 2) 0 = (1896526 : Int64) by decide, ← e3] at r4
  generalize wordP T n 1896526 de.2 = w4 at r4
  cases w4 with
  | error e => exact f_3 e r4
  | ok b5 =>
  dsimp only
  have r5 := rd_nm h r4 (lo := 1) (hi := 999)
  rw [← eq2] at r5
  generalize numP T n 1 999 b5 = w5 at r5
  cases w5 with
  | error e => exact f_q2 e r5
  | ok co =>
  obtain ⟨v2, b6⟩ := r5
  dsimp only
  have r6 := rd_wd h b6 (k := 9) (by decide) (by decide)
  rw [show kwS.getD (9 - 2) 0 = (355568 : Int64) by decide, ← e4] at r6
  generalize wordP T n 355568 co.2 = w6 at r6
  cases w6 with
  | error e => exact f_4 e r6
  | ok b7 =>
  dsimp only
  have r7 := rd_nm h r6 (lo := 0) (hi := 99)
  rw [← eq3] at r7
  generalize numP T n 0 99 b7 = w7 at r7
  cases w7 with
  | error e => exact f_q3 e r7
  | ok ra =>
  obtain ⟨v3, b8⟩ := r7
  dsimp only
  have r8 := rd_wd h b8 (k := 10) (by decide) (by decide)
  rw [show kwS.getD (10 - 2) 0 = (3488 : Int64) by decide, ← e5] at r8
  generalize wordP T n 3488 ra.2 = w8 at r8
  cases w8 with
  | error e => exact f_5 e r8
  | ok b9 =>
  dsimp only
  have r9 := rd_nm h r8 (lo := 1) (hi := 9)
  rw [← eq4] at r9
  generalize numP T n 1 9 b9 = w9 at r9
  cases w9 with
  | error e => exact f_q4 e r9
  | ok du =>
  obtain ⟨v4, b10⟩ := r9
  dsimp only
  have r10 := rd_wd h b10 (k := 11) (by decide) (by decide)
  rw [show kwS.getD (11 - 2) 0 = (419 : Int64) by decide, ← e6] at r10
  generalize wordP T n 419 du.2 = w10 at r10
  cases w10 with
  | error e => exact f_6 e r10
  | ok b11 =>
  dsimp only
  have r11 := rd_hil h r10 hh NH
  rw [← ef5, ← e7] at r11
  generalize hilP T n hn nh b11 = w11 at r11
  cases w11 with
  | error e => exact f_7 e r11
  | ok hi =>
  obtain ⟨v5, b12⟩ := r11
  have v5 : f5 = hi.1 := v5
  dsimp only
  have r12 := rd_kin h b12
  dsimp only at r12
  rw [← ef6, ← e8] at r12
  generalize kinP T n hi.2 = w12 at r12
  cases w12 with
  | error e => exact fin e r12
  | ok ki =>
  obtain ⟨v6, b13⟩ := r12
  have v6 : f6 = ki.1 := v6
  have b13 : At T n m ki.2 s8 := b13
  dsimp only
  have eb := isW_wx (T := T) (at_le b13) (k := 12) (by decide) (by decide)
  rw [show kwS.getD (12 - 2) 0 = (40350 : Int64) by decide] at eb
  unfold baiP
  rw [eb]
  by_cases c : wxS T n ki.2 = 12
  · rw [if_pos (by exact decide_eq_true c)]
    rw [b13.2.2, if_pos c] at L
    have a9 := at_on h b13
    rw [← e9] at a9
    have r13 := rd_per h a9 hp NP (x := f0) (y := f1)
    rw [← ef7, v0, v1] at r13
    rw [L]
    generalize perP T n pn np le.1 de.1 (nbS T n ki.2) = w13 at r13
    cases w13 with
    | error e => rw [v0, v1]; exact dd_sg r13
    | ok ba =>
    obtain ⟨v7, b14⟩ := r13
    have v7 : f7 = ba.1 := v7
    dsimp only
    have r14 := rd_end h b14
    dsimp only at r14
    rw [← v0, ← v1] at r14
    generalize endP T n ba.2 = w14 at r14
    cases w14 with
    | error e => exact r14
    | ok b15 =>
      refine ⟨r14, ?_⟩
      dsimp only [lnU]
      rw [← v0, ← v1, ← v2, ← v3, ← v4, ← v5, ← v6, ← v7, el, nI_1]
  · rw [if_neg (by rw [decide_eq_false c]; decide)]
    rw [b13.2.2, if_neg c] at L
    rw [L]
    dsimp only
    have r14 := rd_end h b13
    generalize endP T n ki.2 = w14 at r14
    cases w14 with
    | error e => exact r14
    | ok b15 =>
      refine ⟨r14, ?_⟩
      dsimp only [lnU]
      rw [← v0, ← v1, ← v2, ← v3, ← v4, ← v5, ← v6, el, nI_1]
/-- what a bet's line gives in each weather, and the class's bits of it -/
def WinOk (L : List Int32) (ws : Int32) : Prop := ∃ (vals : (Nat → Int32) → Int32) (vw : Int32 → Int32), evOk L vals ∧ (∀ V wet, vals (vaS V wet 4) = vw wet) ∧ ∀ w, w < 16 → bt ws w = decide (¬ vw (nI w) = 0)
theorem va_fc : ∀ w, w < 16 → ∀ f, f < 5 → vaS (fun _ => 0) (nI w) 4 (f + 1) = fcW (nI w) (nI f) := by decide +kernel
theorem bt_last {B q : Nat → Int32 × zS} (h0 : (B 0).2.1 = 0) (hs : ∀ k, B (k + 1) = if (B k).2.1 = 0 then (if (q k).1 = 0 then (B k).1 else (B k).1 ||| ((1 : Int32) <<< (nI k &&& 31)), (q k).2) else B k) : ∀ k, 1 ≤ k → k ≤ 16 → ∃ w, w < 16 ∧ (B k).2 = (q w).2 := by
  intro k
  induction k with
  | zero => intro h1; omega
  | succ k ih =>
    intro _ hk
    rw [hs]
    by_cases c : (B k).2.1 = 0
    · rw [if_pos c]
      exact ⟨k, by omega, rfl⟩
    · rw [if_neg c]
      cases k with
      | zero => exact absurd h0 c
      | succ k => exact ih (by omega) (by omega)
theorem bt_bits {B q : Nat → Int32 × zS} (h0 : (B 0).1 = 0 ∧ (B 0).2.1 = 0) (hs : ∀ k, B (k + 1) = if (B k).2.1 = 0 then (if (q k).1 = 0 then (B k).1 else (B k).1 ||| ((1 : Int32) <<< (nI k &&& 31)), (q k).2) else B k) (hq : ∀ k, k < 16 → (q k).2.1 = 0) : ∀ k, k ≤ 16 → (B k).2.1 = 0 ∧ ∀ v, v < 32 → bt (B k).1 v = (decide (v < k) && decide (¬ (q v).1 = 0)) := by
  intro k
  induction k with
  | zero => exact fun _ => ⟨h0.2, fun v hv => by rw [h0.1]; exact b_0 v⟩
  | succ k ih =>
    intro hk
    obtain ⟨i1, i2⟩ := ih (by omega)
    rw [hs, if_pos i1]
    refine ⟨hq k (by omega), fun v hv => ?_⟩
    dsimp only
    by_cases c : (q k).1 = 0
    · rw [if_pos c, i2 v hv]
      by_cases ev : v = k
      · rw [ev, decide_eq_false (p := ¬ (q k).1 = 0) (fun z => z c), Bool.and_false, Bool.and_false]
      · rw [show decide (v < k) = decide (v < k + 1) from decide_eq_decide.mpr (by omega)]
    · rw [if_neg c, bt_orsh _ (by omega) hv, i2 v hv]
      by_cases ev : v = k
      · rw [ev, decide_eq_true (p := k = k) rfl, Bool.or_true, decide_eq_true (p := k < k + 1) (by omega), decide_eq_true c]; rfl
      · rw [decide_eq_false ev, Bool.or_false, show decide (v < k) = decide (v < k + 1) from decide_eq_decide.mpr (by omega)]
/-- what one weather says of all -/
def thrQ (T : Nat → Int32) (n m : Nat) (R : List Int32 × Except Int32 Nat) (V : Nat → Int32) (q : Int32 × zS) : Prop :=
  (¬ q.2.1 = 0 → R.2 = .error q.2.1) ∧ (q.2.1 = 0 → q.2.2 ≤ m ∧ (isG T n (tkN T n q.2.2) 59 = true → R.2 = .ok (nbS T n (tkN T n q.2.2)) ∧ ∀ E0, evL V R.1 E0 = q.1) ∧ (isG T n (tkN T n q.2.2) 59 = false → R.2 = .error (ftS 1 (tkN T n q.2.2))))
theorem thr_ok {R : List Int32 × Except Int32 Nat} {V : Nat → Int32} {q : Int32 × zS} {b' : Nat} (h : thrQ T n m R V q) (er : R.2 = .ok b') : q.2.1 = 0 ∧ q.2.2 ≤ m ∧ isG T n (tkN T n q.2.2) 59 = true ∧ nbS T n (tkN T n q.2.2) = b' ∧ ∀ E0, evL V R.1 E0 = q.1 := by
  obtain ⟨o1, o2⟩ := h
  have f0 : q.2.1 = 0 := Decidable.byContradiction (fun z => by have := o1 z; rw [er] at this; cases this)
  obtain ⟨i1, g1, g2⟩ := o2 f0
  cases gs : isG T n (tkN T n q.2.2) 59 with
  | false => have := g2 gs; rw [er] at this; cases this
  | true =>
    obtain ⟨k1, k2⟩ := g1 gs
    rw [er] at k1
    exact ⟨f0, i1, rfl, (Except.ok.inj k1).symm, k2⟩
theorem bt_abs (h : TkH T n m Q) {R : List Int32 × Except Int32 Nat} {B q : Nat → Int32 × zS} {g : (Nat → Int32) → Int32 × zS} (h0 : (B 0).1 = 0 ∧ (B 0).2.1 = 0) (hs : ∀ k, B (k + 1) = if (B k).2.1 = 0 then (if (q k).1 = 0 then (B k).1 else (B k).1 ||| ((1 : Int32) <<< (nI k &&& 31)), (q k).2) else B k)
    (one : ∀ w, w < 16 → thrQ T n m R (vaS (fun _ => 0) (nI w) 4) (q w)) (gen : ∀ V, thrQ T n m R V (g V)) (okR : ∀ V E, okL V R.1 (0, opE E 0)) (exV : ∀ V V' : Nat → Int32, (∀ i, 1 ≤ i → i ≤ 5 → V i = V' i) → ∀ E, evL V R.1 E = evL V' R.1 E) :
    match R.2 with
    | .ok b' => At T n m b' (sgC T n 59 (B 16).2) ∧ WinOk R.1 (B 16).1
    | .error e => Dd e (sgC T n 59 (B 16).2) := by
  have hn := h.1
  obtain ⟨w, hw, ew⟩ := bt_last h0.2 hs 16 (by decide) (Nat.le_refl _)
  rw [ew]
  cases er : R.2 with
  | error e =>
    dsimp only
    obtain ⟨o1, o2⟩ := one w hw
    rw [er] at o1 o2
    generalize q w = q at o1 o2
    by_cases f0 : q.2.1 = 0
    · obtain ⟨i1, g1, g2⟩ := o2 f0
      cases gs : isG T n (tkN T n q.2.2) 59 with
      | true => have := (g1 gs).1; cases this
      | false =>
        have e2 := g2 gs
        rw [Except.error.inj e2]
        have A : At T n m (tkN T n q.2.2) q.2 := ⟨f0, i1, rfl⟩
        rw [sgC, if_neg (by rw [gs]; decide)]
        exact at_fl h A (k := 1) (by omega) (by omega)
    · have e2 := o1 f0
      rw [Except.error.inj e2]
      exact dd_sg ⟨rfl, f0⟩
  | ok b' =>
    dsimp only
    obtain ⟨t1, t2, t3, t4, -⟩ := thr_ok (one w hw) er
    refine ⟨?_, ?_⟩
    · have A : At T n m (tkN T n (q w).2.2) (q w).2 := ⟨t1, t2, rfl⟩
      rw [sgC, if_pos t3, ← t4]
      exact at_on h A
    · have bits := bt_bits h0 hs (fun k hk => (thr_ok (one k hk) er).1) 16 (Nat.le_refl _)
      have vals : ∀ V E0, evL V R.1 E0 = (g V).1 := fun V => (thr_ok (gen V) er).2.2.2.2
      refine ⟨fun V => (g V).1, fun wet => (g (vaS (fun _ => 0) wet 4)).1, fun V E => ⟨okR V E, vals V E⟩, fun V wet => ?_, fun w hw => ?_⟩
      · dsimp only
        rw [← vals (vaS V wet 4) (fun _ _ => 0), ← vals (vaS (fun _ => 0) wet 4) (fun _ _ => 0)]
        exact exV _ _ (vaS_5 V (fun _ => 0) wet) _
      · dsimp only
        have e : (g (vaS (fun _ => 0) (nI w) 4)).1 = (q w).1 := by rw [← vals (vaS (fun _ => 0) (nI w) 4) (fun _ _ => 0), (thr_ok (one w hw) er).2.2.2.2]
        rw [bits.2 w (by omega), decide_eq_true hw, Bool.true_and]
        exact decide_eq_decide.mpr (by rw [e])
theorem bt_ok (h : TkH T n m Q) (a : At T n m b s) :
    match (exR T n b).2 with
    | .ok b' => At T n m b' (sgC T n 59 (btF T n Q s 16).2) ∧ WinOk (exR T n b).1 (btF T n Q s 16).1
    | .error e => Dd e (sgC T n 59 (btF T n Q s 16).2) := by
  obtain ⟨a1, a2, a3⟩ := a
  refine bt_abs h (B := btF T n Q s) (q := fun w => exC T n (ptC T n Q (fcW (nI w)) 5) (0, s.2)) (g := fun V => exC T n (ptC T n Q (fun f => V (ix f + 1)) 5) (0, s.2)) ⟨rfl, a1⟩ (fun k => btF.eq_2 T n Q s k) (fun w hw => ?_) (fun V => ?_) (fun V E => ex_okL V E) (fun V V' hV E => ex_V hV E)
  · have := top_ok h (V := vaS (fun _ => 0) (nI w) 4) (F := fcW (nI w)) (fun f hf => va_fc w hw f hf) a2
    rw [a3] at this
    exact this
  · have := top_ok h (V := V) (F := fun f => V (ix f + 1)) (fun f hf => by rw [ixn (by omega)]) a2
    rw [a3] at this
    exact this
/-- a bet -/
theorem rd_bet (h : TkH T n m Q) (a : At T n m b s) {cu : zB} {nb : Nat} (eb : cu 0 3 = nI nb) (hb : nb < 8) :
    match betP T n cu b with
    | .ok r => At T n m r.2.2 (beS T n Q s).2.2.2 ∧ r.1 = bU (bU (bU cu 12 nb (beS T n Q s).1) 13 nb (beS T n Q s).2.1) 0 3 (nI (nb + 1)) ∧ WinOk r.2.1 (beS T n Q s).2.2.1
    | .error e => Dd e (beS T n Q s).2.2.2 := by
  have x3 : ix (cu 0 3) = nb := by rw [eb, ixn (by omega)]
  have n4 : ¬ cu 0 3 = 8 := fun z => by
    have := congrArg ix z
    rw [x3] at this
    have e4 : ix (8 : Int32) = 8 := by decide
    omega
  obtain ⟨q1, eq1⟩ : ∃ x, x = nmC T n Q 0 999 (onC T n s) := ⟨_, rfl⟩
  obtain ⟨s1, es1⟩ : ∃ x, x = wdC T n 14 q1.2 := ⟨_, rfl⟩
  obtain ⟨q2, eq2⟩ : ∃ x, x = nmC T n Q 0 999 s1 := ⟨_, rfl⟩
  obtain ⟨s2, es2⟩ : ∃ x, x = wdC T n 15 q2.2 := ⟨_, rfl⟩
  obtain ⟨B, eB⟩ : ∃ x, x = btF T n Q s2 16 := ⟨_, rfl⟩
  have L : beS T n Q s = (q1.1, q2.1, B.1, sgC T n 59 B.2) := by
    rw [beS, ← eq1, ← es1, ← eq2, ← es2, ← eB]
  have fin : ∀ e, Dd e s2 → Dd e (beS T n Q s).2.2.2 := by
    intro e d
    rw [L]
    dsimp only
    rw [eB, dd_bt d]
    exact dd_sg d
  have f_q2 : ∀ e, Dd e q2.2 → Dd e (beS T n Q s).2.2.2 := fun e d => fin e (by rw [es2]; exact dd_wd d)
  have f_s1 : ∀ e, Dd e s1 → Dd e (beS T n Q s).2.2.2 := fun e d => f_q2 e (by rw [eq2]; exact dd_nm d)
  have f_q1 : ∀ e, Dd e q1.2 → Dd e (beS T n Q s).2.2.2 := fun e d => f_s1 e (by rw [es1]; exact dd_wd d)
  unfold betP
  rw [if_neg n4, x3]
  simp only [bind, Except.bind]
  have r1 := rd_nm h (at_on h a) (lo := 0) (hi := 999)
  rw [← eq1] at r1
  generalize numP T n 0 999 (nbS T n b) = w1 at r1
  cases w1 with
  | error e => exact f_q1 e r1
  | ok p =>
  obtain ⟨v1, a1⟩ := r1
  dsimp only
  have r2 := rd_wd h a1 (k := 14) (by decide) (by decide)
  rw [show kwS.getD (14 - 2) 0 = (316351 : Int64) by decide, ← es1] at r2
  generalize wordP T n 316351 p.2 = w2 at r2
  cases w2 with
  | error e => exact f_s1 e r2
  | ok b2 =>
  dsimp only
  have r3 := rd_nm h r2 (lo := 0) (hi := 999)
  rw [← eq2] at r3
  generalize numP T n 0 999 b2 = w3 at r3
  cases w3 with
  | error e => exact f_q2 e r3
  | ok q =>
  obtain ⟨v3, a3⟩ := r3
  dsimp only
  have r4 := rd_wd h a3 (k := 15) (by decide) (by decide)
  rw [show kwS.getD (15 - 2) 0 = (249 : Int64) by decide, ← es2] at r4
  unfold wordP at r4
  by_cases c : isW T n q.2 249 = true
  · rw [if_pos c] at r4
    rw [if_pos c]
    have r5 := bt_ok h r4
    rw [← eB] at r5
    cases er : (exR T n (nbS T n q.2)).2 with
    | error e =>
      rw [er] at r5
      dsimp only at r5 ⊢
      rw [L]
      exact r5
    | ok b' =>
      rw [er] at r5
      dsimp only at r5 ⊢
      rw [L]
      exact ⟨r5.1, by rw [v1, v3, eb, nI_1], r5.2⟩
  · rw [if_neg c] at r4
    rw [if_neg c]
    exact fin _ r4
end TE
