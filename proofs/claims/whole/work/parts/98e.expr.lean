/-- 1000, kept shut -/
noncomputable def zK : Nat := Classical.choose (⟨1000, rfl⟩ : ∃ k : Nat, k = 1000)
theorem zK_eq : zK = 1000 := Classical.choose_spec (⟨1000, rfl⟩ : ∃ k : Nat, k = 1000)
/-! EXPRESSIONS of the class, purely: values for a weather W; P reads a part -/
def fcW (W f : Int32) : Int32 := if f = 4 then nI (bcN (ix W)) else (W >>> (f &&& 31)) &&& (1 : Int32)
noncomputable def prL (T : Nat → Int32) (n : Nat) (P : zS → Int32 × zS) : Nat → Int32 × zS → Int32 × zS
  | 0, q => q
  | k + 1, q => if q.2.1 = 0 ∧ isG T n (tkN T n q.2.2) 42 = true then prL T n P k (q.1 * (P (onC T n q.2)).1, (P (onC T n q.2)).2) else q
noncomputable def prC (T : Nat → Int32) (n : Nat) (P : zS → Int32 × zS) (s : zS) : Int32 × zS := prL T n P zK (P s)
noncomputable def suL (T : Nat → Int32) (n : Nat) (P : zS → Int32 × zS) : Nat → Int32 × zS → Int32 × zS
  | 0, q => q
  | k + 1, q => if q.2.1 = 0 ∧ isG T n (tkN T n q.2.2) 43 = true then suL T n P k (q.1 + (prC T n P (onC T n q.2)).1, (prC T n P (onC T n q.2)).2)
    else if q.2.1 = 0 ∧ isG T n (tkN T n q.2.2) 45 = true then suL T n P k (q.1 - (prC T n P (onC T n q.2)).1, (prC T n P (onC T n q.2)).2) else q
noncomputable def smC (T : Nat → Int32) (n : Nat) (P : zS → Int32 × zS) (s : zS) : Int32 × zS := suL T n P zK (prC T n P s)
noncomputable def tsQ (T : Nat → Int32) (n : Nat) (P : zS → Int32 × zS) (q : Int32 × zS) : Int32 × zS :=
  if q.2.1 = 0 ∧ isG T n (tkN T n q.2.2) 60 = true then (if (smC T n P (onC T n q.2)).1 ≤ q.1 then 0 else 1, (smC T n P (onC T n q.2)).2)
  else if q.2.1 = 0 ∧ isG T n (tkN T n q.2.2) 61 = true then (if q.1 = (smC T n P (onC T n q.2)).1 then 1 else 0, (smC T n P (onC T n q.2)).2) else q
noncomputable def tsC (T : Nat → Int32) (n : Nat) (P : zS → Int32 × zS) (s : zS) : Int32 × zS := tsQ T n P (smC T n P s)
noncomputable def exL (T : Nat → Int32) (n : Nat) (P : zS → Int32 × zS) : Nat → Int32 × zS → Int32 × zS
  | 0, q => q
  | k + 1, q => if q.2.1 = 0 ∧ wxS T n (tkN T n q.2.2) = 26 then exL T n P k (if q.1 = 0 ∨ (tsC T n P (onC T n q.2)).1 = 0 then 0 else 1, (tsC T n P (onC T n q.2)).2)
    else if q.2.1 = 0 ∧ wxS T n (tkN T n q.2.2) = 27 then exL T n P k (if q.1 = 0 ∧ (tsC T n P (onC T n q.2)).1 = 0 then 0 else 1, (tsC T n P (onC T n q.2)).2) else q
noncomputable def exC (T : Nat → Int32) (n : Nat) (P : zS → Int32 × zS) (s : zS) : Int32 × zS := exL T n P zK (tsC T n P s)
/-- a part may stand there -/
def stP (T : Nat → Int32) (n b : Nat) : Bool := decide (tyS T n b = 2) || (decide (wxS T n b = 25) || (!decide (zWf.getD (wxS T n b) 0 = -1) || isG T n b 40))
noncomputable def ptC (T : Nat → Int32) (n : Nat) (V : Nat → Int64) (F : Int32 → Int32) : Nat → zS → Int32 × zS
  | 0, s => (0, flC T n (if stP T n (tkN T n s.2) = true then 5 else 1) s)
  | r + 1, s =>
    if stP T n (tkN T n s.2) = false then (0, flC T n 1 s)
    else if ¬ s.1 = 0 then (0, s)
    else if tyS T n (tkN T n s.2) = 2 then ((V s.2).toInt32, onC T n s)
    else if ¬ zWf.getD (wxS T n (tkN T n s.2)) 0 = -1 then (F (zWf.getD (wxS T n (tkN T n s.2)) 0), onC T n s)
    else if wxS T n (tkN T n s.2) = 25 then (if (ptC T n V F r (onC T n s)).1 = 0 then 1 else 0, (ptC T n V F r (onC T n s)).2)
    else ((exC T n (ptC T n V F r) (onC T n s)).1, sgC T n 41 (exC T n (ptC T n V F r) (onC T n s)).2)
section EB
variable {μ : zM} {T : Nat → Int32} {n m : Nat}
theorem on_le (h : TkI μ T n m) {s : zS} (hs : s.2 ≤ m) : (onC T n s).2 ≤ m := adN_le h hs
theorem sg_le (h : TkI μ T n m) {s : zS} {c : Int32} (hs : s.2 ≤ m) : (sgC T n c s).2 ≤ m := by
  unfold sgC
  split
  · exact on_le h hs
  · exact hs
variable {P : zS → Int32 × zS}
theorem prL_le (h : TkI μ T n m) (hP : ∀ s : zS, s.2 ≤ m → (P s).2.2 ≤ m) : ∀ k (q : Int32 × zS), q.2.2 ≤ m → (prL T n P k q).2.2 ≤ m
  | 0, q, hq => hq
  | k + 1, q, hq => by
    rw [prL]
    split
    · exact prL_le h hP k _ (hP _ (on_le h hq))
    · exact hq
theorem prC_le (h : TkI μ T n m) (hP : ∀ s : zS, s.2 ≤ m → (P s).2.2 ≤ m) {s : zS} (hs : s.2 ≤ m) : (prC T n P s).2.2 ≤ m := prL_le h hP _ _ (hP s hs)
theorem suL_le (h : TkI μ T n m) (hP : ∀ s : zS, s.2 ≤ m → (P s).2.2 ≤ m) : ∀ k (q : Int32 × zS), q.2.2 ≤ m → (suL T n P k q).2.2 ≤ m
  | 0, q, hq => hq
  | k + 1, q, hq => by
    rw [suL]
    split
    · exact suL_le h hP k _ (prC_le h hP (on_le h hq))
    · split
      · exact suL_le h hP k _ (prC_le h hP (on_le h hq))
      · exact hq
theorem smC_le (h : TkI μ T n m) (hP : ∀ s : zS, s.2 ≤ m → (P s).2.2 ≤ m) {s : zS} (hs : s.2 ≤ m) : (smC T n P s).2.2 ≤ m := suL_le h hP _ _ (prC_le h hP hs)
theorem tsC_le (h : TkI μ T n m) (hP : ∀ s : zS, s.2 ≤ m → (P s).2.2 ≤ m) {s : zS} (hs : s.2 ≤ m) : (tsC T n P s).2.2 ≤ m := by
  have h1 := smC_le h hP hs
  unfold tsC tsQ
  split
  · exact smC_le h hP (on_le h h1)
  · split
    · exact smC_le h hP (on_le h h1)
    · exact h1
theorem exL_le (h : TkI μ T n m) (hP : ∀ s : zS, s.2 ≤ m → (P s).2.2 ≤ m) : ∀ k (q : Int32 × zS), q.2.2 ≤ m → (exL T n P k q).2.2 ≤ m
  | 0, q, hq => hq
  | k + 1, q, hq => by
    rw [exL]
    split
    · exact exL_le h hP k _ (tsC_le h hP (on_le h hq))
    · split
      · exact exL_le h hP k _ (tsC_le h hP (on_le h hq))
      · exact hq
theorem exC_le (h : TkI μ T n m) (hP : ∀ s : zS, s.2 ≤ m → (P s).2.2 ≤ m) {s : zS} (hs : s.2 ≤ m) : (exC T n P s).2.2 ≤ m := exL_le h hP _ _ (tsC_le h hP hs)
theorem ptC_le (h : TkI μ T n m) {V : Nat → Int64} {F : Int32 → Int32} : ∀ r (s : zS), s.2 ≤ m → (ptC T n V F r s).2.2 ≤ m
  | 0, s, hs => hs
  | r + 1, s, hs => by
    rw [ptC]
    split
    · exact hs
    split
    · exact hs
    split
    · exact on_le h hs
    split
    · exact on_le h hs
    split
    · exact ptC_le h r _ (on_le h hs)
    · exact sg_le h (exC_le h (fun s hs => ptC_le h r s hs) (on_le h hs))
end EB
/-- a fault is not 0 -/
theorem ft_ne {k : Int32} {b : Nat} (hb : b ≤ 1000) (hk : k = 1 ∨ k = 5) : ¬ ftS k b = 0 := by
  unfold ftS
  rw [show (16 : Int32) = nI 16 from rfl, pk_mul]
  intro q
  have h := congrArg Int32.toInt q
  rcases hk with rfl | rfl
  · rw [show (1 : Int32) = nI 1 from rfl, nI_add, nI_toInt (by omega), Int32.toInt_zero] at h
    omega
  · rw [show (5 : Int32) = nI 5 from rfl, nI_add, nI_toInt (by omega), Int32.toInt_zero] at h
    omega
section EX
variable {l : Launch} {G : zG} {μ : zM} {T : Nat → Int32} {n m : Nat}
/-- a reader of the class does what f says -/
def RdE (l : Launch) (G : zG) (lv : Nat) (y : MethodName) (cc : ByteArray) (mL : Nat) (d : Int32) (μ : zM) (m : Nat) (f : zS → Int32 × zS) : Prop :=
  ∀ s : zS, s.2 ≤ m → zCT l G lv y cc mL (some .int) [.ref (G.ad 6 0), .int d] (rM μ s) (zI fun r μ' => r = (f s).1 ∧ μ' = rM μ (f s).2)
theorem ce_prod {P : zS → Int32 × zS} {lv : Nat} {d : Int32} (h : TkI μ T n m) (hPl : ∀ s : zS, s.2 ≤ m → (P s).2.2 ≤ m) (hP : RdE l G lv yX6_readPart cX6_readPart 8 d μ m P) : RdE l G (lv + 1) yX6_readProduct cX6_readProduct 4 d μ m (prC T n P) := by
  intro s hs
  refine zCT_of (by decide) (Nat.le_of_ble_eq_true rfl) rfl (fun X hl0 hG hX hr => ?_)
  subst hG hl0
  have go : ∀ k (q : Int32 × zS) i, i + k = 1000 → q.2.2 ≤ m → prL T n P k q = prC T n P s → AW X 8 [some (.ref (X.G.ad 6 0)), some (.int d), some (.int q.1), some (.int (nI i))] [] (rM μ q.2) := by
    intro k
    induction k with
    | zero =>
      intro q i hi hq e
      refine st_X6_readProduct_8 hX hr ⟨fun _ => ⟨_, rfl, by rw [← e, prL], by rw [← e, prL]⟩, fun c => absurd (nI_le (a := 1000) (by omega) (by omega)) c⟩
    | succ k ih =>
      intro q i hi hq e
      refine st_X6_readProduct_8 hX hr ⟨fun c => absurd c (nI_ge (b := 1000) (by omega) (by omega)), fun _ => ?_⟩
      rw [rM_f]
      rw [prL] at e
      refine ⟨fun c => ?_, fun c => ⟨0, _, by omega, cn_isG h hq, ?_⟩⟩
      · rw [if_neg (fun z => c z.1)] at e
        exact ⟨_, rfl, by rw [← e], by rw [← e]⟩
      rintro r ν ⟨rfl, rfl⟩
      refine ⟨fun c2 => ⟨0, _, by omega, cn_on h hq, ?_⟩, fun c2 => ?_⟩
      · rintro ν rfl
        refine ⟨lv, _, by omega, hP _ (on_le h hq), ?_⟩
        rintro r ν ⟨rfl, rfl⟩
        rw [if_pos ⟨c, b2i1.mp c2⟩] at e
        simp only [forall_eq, nI_1]
        exact ih (q.1 * (P (onC T n q.2)).1, (P (onC T n q.2)).2) (i + 1) (by omega) (hPl _ (on_le h hq)) e
      · rw [if_neg (fun z => by rw [b2i0.mp c2] at z; cases z.2)] at e
        exact ⟨_, rfl, by rw [← e], by rw [← e]⟩
  refine st_X6_readProduct_0 hX hr ⟨lv, _, by omega, hP s hs, ?_⟩
  rintro r ν ⟨rfl, rfl⟩
  exact go zK (P s) 0 (by rw [zK_eq]) (hPl s hs) rfl
theorem ce_sum {P : zS → Int32 × zS} {lv : Nat} {d : Int32} (hlv : 0 < lv) (h : TkI μ T n m) (hPl : ∀ s : zS, s.2 ≤ m → (P s).2.2 ≤ m) (hP : RdE l G lv yX6_readProduct cX6_readProduct 4 d μ m (prC T n P)) : RdE l G (lv + 1) yX6_readSum cX6_readSum 6 d μ m (smC T n P) := by
  intro s hs
  refine zCT_of (by decide) (Nat.le_of_ble_eq_true rfl) rfl (fun X hl0 hG hX hr => ?_)
  subst hG hl0
  have go : ∀ k (q : Int32 × zS) i, i + k = 1000 → q.2.2 ≤ m → suL T n P k q = smC T n P s → AW X 8 [some (.ref (X.G.ad 6 0)), some (.int d), some (.int q.1), some (.int (nI i)), none, none] [] (rM μ q.2) := by
    intro k
    induction k with
    | zero =>
      intro q i hi hq e
      refine st_X6_readSum_8 hX hr ⟨fun _ => ⟨_, rfl, by rw [← e, suL], by rw [← e, suL]⟩, fun c => absurd (nI_le (a := 1000) (by omega) (by omega)) c⟩
    | succ k ih =>
      intro q i hi hq e
      refine st_X6_readSum_8 hX hr ⟨fun c => absurd c (nI_ge (b := 1000) (by omega) (by omega)), fun _ => ?_⟩
      rw [rM_f]
      rw [suL] at e
      refine ⟨fun c => ?_, fun c => ⟨0, _, by omega, cn_isG h hq, ?_⟩⟩
      · rw [if_neg (fun z => c z.1), if_neg (fun z => c z.1)] at e
        exact ⟨_, rfl, by rw [← e], by rw [← e]⟩
      rintro r ν ⟨rfl, rfl⟩
      refine ⟨fun c2 => ?_, fun c2 => ⟨0, _, by omega, cn_isG h hq, ?_⟩⟩
      · refine st_X6_readSum_52 hX hr ⟨0, _, by omega, cn_on h hq, ?_⟩
        rintro ν rfl
        refine ⟨lv, _, by omega, hP _ (on_le h hq), ?_⟩
        rintro r ν ⟨rfl, rfl⟩
        rw [if_pos ⟨c, b2i1.mp c2⟩] at e
        refine ⟨fun z => absurd z c2, fun _ => ?_⟩
        simp only [forall_eq, nI_1]
        exact ih (q.1 + (prC T n P (onC T n q.2)).1, (prC T n P (onC T n q.2)).2) (i + 1) (by omega) (prC_le h hPl (on_le h hq)) e
      · rw [if_neg (fun z => by rw [b2i0.mp c2] at z; cases z.2)] at e
        rintro r ν ⟨rfl, rfl⟩
        refine ⟨fun c3 => ?_, fun c3 => ?_⟩
        · refine st_X6_readSum_52 hX hr ⟨0, _, by omega, cn_on h hq, ?_⟩
          rintro ν rfl
          refine ⟨lv, _, by omega, hP _ (on_le h hq), ?_⟩
          rintro r ν ⟨rfl, rfl⟩
          rw [if_pos ⟨c, b2i1.mp c3⟩] at e
          refine ⟨fun _ => ?_, fun z => absurd c2 z⟩
          simp only [forall_eq, nI_1]
          exact ih (q.1 - (prC T n P (onC T n q.2)).1, (prC T n P (onC T n q.2)).2) (i + 1) (by omega) (prC_le h hPl (on_le h hq)) e
        · rw [if_neg (fun z => by rw [b2i0.mp c3] at z; cases z.2)] at e
          exact ⟨_, rfl, by rw [← e], by rw [← e]⟩
  refine st_X6_readSum_0 hX hr ⟨lv, _, by omega, hP s hs, ?_⟩
  rintro r ν ⟨rfl, rfl⟩
  exact go zK (prC T n P s) 0 (by rw [zK_eq]) (prC_le h hPl hs) rfl
theorem ce_test {P : zS → Int32 × zS} {lv : Nat} {d : Int32} (h : TkI μ T n m) (hPl : ∀ s : zS, s.2 ≤ m → (P s).2.2 ≤ m) (hP : RdE l G lv yX6_readSum cX6_readSum 6 d μ m (smC T n P)) : RdE l G (lv + 1) yX6_readTest cX6_readTest 6 d μ m (tsC T n P) := by
  intro s hs
  refine zCT_of (by decide) (Nat.le_of_ble_eq_true rfl) rfl (fun X hl0 hG hX hr => ?_)
  subst hG hl0
  have h1 := smC_le h hPl hs
  unfold tsC at hr
  refine st_X6_readTest_0 hX hr ⟨lv, _, by omega, hP s hs, ?_⟩
  rintro r ν ⟨rfl, rfl⟩
  refine ⟨0, _, by omega, cn_isG h h1, ?_⟩
  rintro r ν ⟨rfl, rfl⟩
  rw [rM_f]
  refine ⟨fun c => ⟨_, rfl, by rw [tsQ, if_neg (fun z => c z.1), if_neg (fun z => c z.1)], by rw [tsQ, if_neg (fun z => c z.1), if_neg (fun z => c z.1)]⟩, fun c => ⟨fun c2 => ?_, fun c2 => ⟨0, _, by omega, cn_isG h h1, ?_⟩⟩⟩
  · refine st_X6_readTest_41 hX hr ⟨0, _, by omega, cn_on h h1, ?_⟩
    rintro ν rfl
    refine ⟨lv, _, by omega, hP _ (on_le h h1), ?_⟩
    rintro r ν ⟨rfl, rfl⟩
    refine ⟨fun z => absurd z c2, fun _ => ⟨fun z => ?_, fun z => ?_⟩⟩
    · rw [tsQ, if_pos ⟨c, b2i1.mp c2⟩, if_pos z]
      exact ⟨_, rfl, rfl, rfl⟩
    · rw [tsQ, if_pos ⟨c, b2i1.mp c2⟩, if_neg z]
      exact ⟨_, rfl, rfl, rfl⟩
  · rintro r ν ⟨rfl, rfl⟩
    refine ⟨fun c3 => ?_, fun c3 => ?_⟩
    · refine st_X6_readTest_41 hX hr ⟨0, _, by omega, cn_on h h1, ?_⟩
      rintro ν rfl
      refine ⟨lv, _, by omega, hP _ (on_le h h1), ?_⟩
      rintro r ν ⟨rfl, rfl⟩
      refine ⟨fun _ => ⟨fun z => ?_, fun z => ?_⟩, fun z => absurd c2 z⟩
      · rw [tsQ, if_neg (fun z => by rw [b2i0.mp c2] at z; cases z.2), if_pos ⟨c, b2i1.mp c3⟩, if_neg z]
        exact ⟨_, rfl, rfl, rfl⟩
      · rw [tsQ, if_neg (fun z => by rw [b2i0.mp c2] at z; cases z.2), if_pos ⟨c, b2i1.mp c3⟩, if_pos z]
        exact ⟨_, rfl, rfl, rfl⟩
    · rw [tsQ, if_neg (fun z => by rw [b2i0.mp c2] at z; cases z.2), if_neg (fun z => by rw [b2i0.mp c3] at z; cases z.2)]
      exact ⟨_, rfl, rfl, rfl⟩
theorem ce_expr (hE : zHas G) {P : zS → Int32 × zS} {lv : Nat} {d : Int32} (hlv : 0 < lv) (h : TkI μ T n m) (hPl : ∀ s : zS, s.2 ≤ m → (P s).2.2 ≤ m) (hP : RdE l G lv yX6_readTest cX6_readTest 6 d μ m (tsC T n P)) : RdE l G (lv + 1) yX6_readExpression cX6_readExpression 7 d μ m (exC T n P) := by
  intro s hs
  refine zCT_of (by decide) (Nat.le_of_ble_eq_true rfl) rfl (fun X hl0 hG hX hr => ?_)
  subst hG hl0
  have go : ∀ k (q : Int32 × zS) i, i + k = 1000 → q.2.2 ≤ m → exL T n P k q = exC T n P s → AW X 8 [some (.ref (X.G.ad 6 0)), some (.int d), some (.int q.1), some (.int (nI i)), none, none, none] [] (rM μ q.2) := by
    intro k
    induction k with
    | zero =>
      intro q i hi hq e
      refine st_X6_readExpression_8 hX hr hE ⟨fun _ => ⟨_, rfl, by rw [← e, exL], by rw [← e, exL]⟩, fun c => absurd (nI_le (a := 1000) (by omega) (by omega)) c⟩
    | succ k ih =>
      intro q i hi hq e
      refine st_X6_readExpression_8 hX hr hE ⟨fun c => absurd c (nI_ge (b := 1000) (by omega) (by omega)), fun _ => ?_⟩
      rw [rM_f]
      rw [exL] at e
      refine ⟨fun c => ?_, fun c => ⟨0, _, by omega, cn_isW hE h hq (by decide), ?_⟩⟩
      · rw [if_neg (fun z => c z.1), if_neg (fun z => c z.1)] at e
        exact ⟨_, rfl, by rw [← e], by rw [← e]⟩
      rintro r ν ⟨rfl, rfl⟩
      refine ⟨fun c2 => ?_, fun c2 => ⟨0, _, by omega, cn_isW hE h hq (by decide), ?_⟩⟩
      · refine st_X6_readExpression_54 hX hr ⟨0, _, by omega, cn_on h hq, ?_⟩
        rintro ν rfl
        refine ⟨lv, _, by omega, hP _ (on_le h hq), ?_⟩
        rintro r ν ⟨rfl, rfl⟩
        rw [if_pos ⟨c, of_decide_eq_true (b2i1.mp c2)⟩] at e
        have I := ih (if q.1 = 0 ∨ (tsC T n P (onC T n q.2)).1 = 0 then 0 else 1, (tsC T n P (onC T n q.2)).2) (i + 1) (by omega) (tsC_le h hPl (on_le h hq)) e
        simp only [forall_eq, nI_1]
        refine ⟨fun z => absurd z c2, fun _ => ⟨fun z => ?_, fun z => ⟨fun w => ?_, fun w => ?_⟩⟩⟩
        · rw [if_pos (Or.inl z)] at I; exact I
        · rw [if_pos (Or.inr w)] at I; exact I
        · rw [if_neg (fun y => y.elim z w)] at I; exact I
      · rw [if_neg (fun z => of_decide_eq_false (b2i0.mp c2) z.2)] at e
        rintro r ν ⟨rfl, rfl⟩
        refine ⟨fun c3 => ?_, fun c3 => ?_⟩
        · refine st_X6_readExpression_54 hX hr ⟨0, _, by omega, cn_on h hq, ?_⟩
          rintro ν rfl
          refine ⟨lv, _, by omega, hP _ (on_le h hq), ?_⟩
          rintro r ν ⟨rfl, rfl⟩
          rw [if_pos ⟨c, of_decide_eq_true (b2i1.mp c3)⟩] at e
          have I := ih (if q.1 = 0 ∧ (tsC T n P (onC T n q.2)).1 = 0 then 0 else 1, (tsC T n P (onC T n q.2)).2) (i + 1) (by omega) (tsC_le h hPl (on_le h hq)) e
          simp only [forall_eq, nI_1]
          refine ⟨fun _ => ⟨fun z => ?_, fun z => ⟨fun w => ?_, fun w => ?_⟩⟩, fun z => absurd c2 z⟩
          · rw [if_neg (fun y => z y.1)] at I; exact I
          · rw [if_pos ⟨z, w⟩] at I; exact I
          · rw [if_neg (fun y => w y.2)] at I; exact I
        · rw [if_neg (fun z => of_decide_eq_false (b2i0.mp c3) z.2)] at e
          exact ⟨_, rfl, by rw [← e], by rw [← e]⟩
  refine st_X6_readExpression_0 hX hr ⟨lv, _, by omega, hP s hs, ?_⟩
  rintro r ν ⟨rfl, rfl⟩
  exact go zK (tsC T n P s) 0 (by rw [zK_eq]) (tsC_le h hPl hs) rfl
theorem ce_fact {w : Nat} (hw : w < 16) {f : Int32} {ν : zM} (e : ν.1 6 0 3 = nI w) : zCT l G 1 yX6_factNow cX6_factNow 2 (some .int) [.ref (G.ad 6 0), .int f] ν (zI fun r μ' => r = fcW (nI w) f ∧ μ' = ν) := by
  refine zCT_of (by decide) (Nat.le_of_ble_eq_true rfl) rfl (fun X hl0 hG hX hr => ?_)
  subst hG
  refine st_X6_factNow_0 hX hr ?_
  rw [e]
  refine ⟨fun c => ⟨_, rfl, by rw [fcW, if_neg c], rfl⟩, fun c => ⟨0, _, by omega, cj_bits (by omega), ?_⟩⟩
  rintro r ν ⟨rfl, rfl⟩
  exact ⟨_, rfl, by rw [fcW, if_pos c, ixn (by omega)], rfl⟩
set_option maxHeartbeats 1000000 in
theorem ce_part (hE : zHas G) (h : TkI μ T n m) {w : Nat} (hw : w < 16) (ew : μ.1 6 0 3 = nI w) : ∀ r, r ≤ 5 → RdE l G (2 + 5 * r) yX6_readPart cX6_readPart 8 (nI (5 - r)) μ m (ptC T n (μ.2 31 0) (fcW (nI w)) r) := by
  intro r
  induction r with
  | zero =>
    intro _ s hs
    refine zCT_of (by decide) (Nat.le_of_ble_eq_true rfl) rfl (fun X hl0 hG hX hr => ?_)
    subst hG
    -- behind the fault
    have fin : ∀ (x2 x3 x4 k : Int32), flC T n k s = flC T n (if stP T n (tkN T n s.2) = true then 5 else 1) s → (k = 1 ∨ k = 5) → AW X 75 [some (.ref (X.G.ad 6 0)), some (.int (nI (5 - 0))), some (.int x2), some (.int x3), some (.int x4), none, none, none] [] (rM μ (flC T n k s)) := by
      intro x2 x3 x4 k ek hk
      refine st_X6_readPart_75 hX hr ⟨fun c => ?_, fun _ => ⟨_, rfl, rfl, by rw [ek]; rfl⟩⟩
      rw [rM_f] at c
      unfold flC at c
      dsimp only at c
      split at c
      · have hb := tkN_le T n s.2
        have hn := h.1
        exact absurd c (ft_ne (by omega) hk)
      · contradiction
    refine st_X6_readPart_0 hX hr hE ⟨0, _, by omega, cn_isN h hs, ?_⟩
    rintro r ν ⟨rfl, rfl⟩
    refine ⟨0, _, by omega, cn_isW hE h hs (by decide), ?_⟩
    rintro r ν ⟨rfl, rfl⟩
    refine ⟨0, _, by omega, cn_wordR h hs, ?_⟩
    rintro r ν ⟨rfl, rfl⟩
    simp only [forall_eq]
    have s5 : stP T n (tkN T n s.2) = true → flC T n 5 s = flC T n (if stP T n (tkN T n s.2) = true then 5 else 1) s := fun q => by rw [if_pos q]
    refine ⟨wxS_lt T n _, fun c1 => ⟨fun z => absurd z (by decide), fun _ => ⟨1, _, by omega, cn_fail h hs, ?_⟩⟩, fun c1 => ⟨fun c2 => ⟨fun z => absurd z (by decide), fun _ => ⟨1, _, by omega, cn_fail h hs, ?_⟩⟩, fun c2 => ⟨fun c3 => ⟨fun z => absurd z (by decide), fun _ => ⟨1, _, by omega, cn_fail h hs, ?_⟩⟩, fun c3 => ⟨0, _, by omega, cn_isG h hs, ?_⟩⟩⟩⟩
    · rintro ν rfl
      exact fin _ _ _ 5 (s5 (by rw [stP, b2i1.mp c1]; rfl)) (Or.inr rfl)
    · rintro ν rfl
      exact fin _ _ _ 5 (s5 (by rw [stP, b2i1.mp c2, Bool.true_or, Bool.or_true])) (Or.inr rfl)
    · rintro ν rfl
      exact fin _ _ _ 5 (s5 (by rw [stP, decide_eq_false c3, Bool.not_false, Bool.true_or, Bool.or_true, Bool.or_true])) (Or.inr rfl)
    · rintro r ν ⟨rfl, rfl⟩
      refine ⟨fun c4 => ⟨fun z => absurd z (by decide), fun _ => ⟨1, _, by omega, cn_fail h hs, ?_⟩⟩, fun c4 => ⟨1, _, by omega, cn_fail h hs, ?_⟩⟩
      · rintro ν rfl
        exact fin _ _ _ 5 (s5 (by rw [stP, b2i1.mp c4, Bool.or_true, Bool.or_true, Bool.or_true])) (Or.inr rfl)
      · rintro ν rfl
        have q : stP T n (tkN T n s.2) = false := by rw [stP, b2i0.mp c1, b2i0.mp c2, decide_eq_true c3, b2i0.mp c4]; rfl
        exact fin _ _ _ 1 (by rw [if_neg (by rw [q]; decide)]) (Or.inl rfl)
  | succ r ih =>
    intro hr5 s hs
    have P0 := ih (by omega)
    have hPl : ∀ s : zS, s.2 ≤ m → (ptC T n (μ.2 31 0) (fcW (nI w)) r s).2.2 ≤ m := fun s hs => ptC_le h r s hs
    have E0 := ce_expr hE (by omega) h hPl (ce_test h hPl (ce_sum (by omega) h hPl (ce_prod h hPl P0)))
    refine zCT_of (by decide) (Nat.le_of_ble_eq_true rfl) rfl (fun X hl0 hG hX hr => ?_)
    subst hG hl0
    have d1 : nI (5 - (r + 1)) + 1 = nI (5 - r) := by rw [nI_1]; congr 1; omega
    have hlt : nI (5 - (r + 1)) < 5 := nI_lt (b := 5) (by omega) (by decide)
    -- a part may stand there
    have fin : stP T n (tkN T n s.2) = true → AW X 75 [some (.ref (X.G.ad 6 0)), some (.int (nI (5 - (r + 1)))), some (.int (b2i (decide (tyS T n (tkN T n s.2) = 2)))), some (.int (b2i (decide (wxS T n (tkN T n s.2) = 25)))), some (.int (zWf.getD (wxS T n (tkN T n s.2)) 0)), none, none, none] [] (rM μ s) := by
      intro hst
      rw [ptC, if_neg (by rw [hst]; decide)] at hr
      refine st_X6_readPart_75 hX hr ⟨fun c => ⟨0, _, by omega, cn_val h hs, ?_⟩, fun c => ?_⟩
      · rw [rM_f] at c
        rw [if_neg (fun z => z c)] at hr ⊢
        rintro r0 ν ⟨rfl, rfl⟩
        refine ⟨0, _, by omega, cn_on h hs, ?_⟩
        rintro ν rfl
        refine ⟨fun c1 => ⟨fun c2 => ⟨fun c3 => ?_, fun c3 => ?_⟩, fun c2 => ⟨1, _, by omega, ce_fact hw (by rw [rM_w]; exact ew), ?_⟩⟩, fun c1 => ?_⟩
        · rw [d1]
          refine ⟨_, _, ?_, E0 _ (on_le h hs), ?_⟩
          · omega
          rintro r0 ν ⟨rfl, rfl⟩
          refine ⟨2, _, by omega, cn_sg h (exC_le h hPl (on_le h hs)), ?_⟩
          rintro ν rfl
          rw [if_neg (of_decide_eq_false (b2i0.mp c1)), if_neg (fun z => z c2), if_neg (of_decide_eq_false (b2i0.mp c3))]
          exact ⟨_, rfl, rfl, rfl⟩
        · rw [d1]
          refine ⟨_, _, ?_, P0 _ (on_le h hs), ?_⟩
          · omega
          rintro r0 ν ⟨rfl, rfl⟩
          rw [if_neg (of_decide_eq_false (b2i0.mp c1)), if_neg (fun z => z c2), if_pos (of_decide_eq_true (b2i1.mp c3))]
          refine ⟨fun z => ⟨_, rfl, by rw [if_neg z], rfl⟩, fun z => ⟨_, rfl, by rw [if_pos z], rfl⟩⟩
        · rintro r0 ν ⟨rfl, rfl⟩
          rw [if_neg (of_decide_eq_false (b2i0.mp c1)), if_pos c2]
          exact ⟨_, rfl, rfl, rfl⟩
        · rw [if_pos (of_decide_eq_true (b2i1.mp c1))]
          exact ⟨_, rfl, rfl, rfl⟩
      · rw [rM_f] at c
        rw [if_pos c]
        exact ⟨_, rfl, rfl, rfl⟩
    refine st_X6_readPart_0 hX hr hE ⟨0, _, by omega, cn_isN h hs, ?_⟩
    rintro r0 ν ⟨rfl, rfl⟩
    refine ⟨0, _, by omega, cn_isW hE h hs (by decide), ?_⟩
    rintro r0 ν ⟨rfl, rfl⟩
    refine ⟨0, _, by omega, cn_wordR h hs, ?_⟩
    rintro r0 ν ⟨rfl, rfl⟩
    simp only [forall_eq]
    refine ⟨wxS_lt T n _, fun c1 => ⟨fun _ => fin (by rw [stP, b2i1.mp c1]; rfl), fun z => absurd hlt z⟩, fun c1 => ⟨fun c2 => ⟨fun _ => fin (by rw [stP, b2i1.mp c2, Bool.true_or, Bool.or_true]), fun z => absurd hlt z⟩, fun c2 => ⟨fun c3 => ⟨fun _ => fin (by rw [stP, decide_eq_false c3, Bool.not_false, Bool.true_or, Bool.or_true, Bool.or_true]), fun z => absurd hlt z⟩, fun c3 => ⟨0, _, by omega, cn_isG h hs, ?_⟩⟩⟩⟩
    rintro r0 ν ⟨rfl, rfl⟩
    refine ⟨fun c4 => ⟨fun _ => fin (by rw [stP, b2i1.mp c4, Bool.or_true, Bool.or_true, Bool.or_true]), fun z => absurd hlt z⟩, fun c4 => ⟨1, _, by omega, cn_fail h hs, ?_⟩⟩
    rintro ν rfl
    have q : stP T n (tkN T n s.2) = false := by rw [stP, b2i0.mp c1, b2i0.mp c2, decide_eq_true c3, b2i0.mp c4]; rfl
    rw [ptC, if_pos q] at hr
    refine st_X6_readPart_75 hX hr ⟨fun c => ?_, fun _ => ⟨_, rfl, rfl, rfl⟩⟩
    rw [rM_f] at c
    unfold flC at c
    dsimp only at c
    split at c
    · have hb := tkN_le T n s.2
      have hn := h.1
      exact absurd c (ft_ne (by omega) (Or.inl rfl))
    · contradiction
end EX
