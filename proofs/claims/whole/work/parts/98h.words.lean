/-! WORDS: the class's (base 32, places in the enum) against the reference's (base 27), purely -/
def wB (B : Nat) (a : Nat → Nat) : Nat → Nat
  | 0 => 0
  | i + 1 => wB B a i * B + a i
theorem wB_lt {B : Nat} {a : Nat → Nat} : ∀ i, (∀ j, j < i → a j < B) → wB B a i < B ^ i
  | 0, _ => by simp [wB]
  | i + 1, h => by
    have h1 := wB_lt i (fun j hj => h j (by omega))
    have h2 := h i (by omega)
    rw [wB, Nat.pow_succ]
    calc wB B a i * B + a i < wB B a i * B + B := by omega
      _ = (wB B a i + 1) * B := by rw [Nat.add_mul, Nat.one_mul]
      _ ≤ B ^ i * B := Nat.mul_le_mul_right B h1
theorem wB_inj {B : Nat} {a c : Nat → Nat} : ∀ i k, (∀ j, j < i → 1 ≤ a j ∧ a j < B) → (∀ j, j < k → 1 ≤ c j ∧ c j < B) → wB B a i = wB B c k → i = k ∧ ∀ j, j < i → a j = c j
  | 0, 0, _, _, _ => ⟨rfl, fun j hj => absurd hj (by omega)⟩
  | 0, k + 1, _, hc, e => by
    have := hc k (by omega)
    simp only [wB] at e
    omega
  | i + 1, 0, ha, _, e => by
    have := ha i (by omega)
    simp only [wB] at e
    omega
  | i + 1, k + 1, ha, hc, e => by
    have h1 := ha i (by omega)
    have h2 := hc k (by omega)
    simp only [wB] at e
    have m1 : (wB B a i * B + a i) % B = a i := by rw [Nat.mul_comm, Nat.mul_add_mod]; exact Nat.mod_eq_of_lt h1.2
    have m2 : (wB B c k * B + c k) % B = c k := by rw [Nat.mul_comm, Nat.mul_add_mod]; exact Nat.mod_eq_of_lt h2.2
    have e1 : a i = c k := by rw [← m1, ← m2, e]
    have e2 : wB B a i = wB B c k := by
      have : wB B a i * B = wB B c k * B := by omega
      exact Nat.eq_of_mul_eq_mul_right (by omega) this
    obtain ⟨rfl, e3⟩ := wB_inj i k (fun j hj => ha j (by omega)) (fun j hj => hc j (by omega)) e2
    refine ⟨rfl, fun j hj => ?_⟩
    by_cases q : j = i
    · rw [q]; exact e1
    · exact e3 j (by omega)
/-- one word in both tellings -/
def NM (x y : Int64) : Prop := ∃ (a : Nat → Nat) (i : Nat), 1 ≤ i ∧ i ≤ 8 ∧ (∀ j, j < i → 1 ≤ a j ∧ a j < 27) ∧ x = lN (wB 27 a i) ∧ y = lN (wB 32 a i)
theorem wB_ext {B : Nat} {a c : Nat → Nat} : ∀ i, (∀ j, j < i → a j = c j) → wB B a i = wB B c i
  | 0, _ => rfl
  | i + 1, h => by rw [wB, wB, wB_ext i (fun j hj => h j (by omega)), h i (by omega)]
theorem wB_63 {B : Nat} {a : Nat → Nat} {i : Nat} (hB : B ≤ 32) (hi : i ≤ 8) (h : ∀ j, j < i → a j < B) : wB B a i < 2 ^ 63 := by
  have h1 := wB_lt i h
  have h2 : B ^ i ≤ 32 ^ 8 := Nat.le_trans (Nat.pow_le_pow_left hB i) (Nat.pow_le_pow_right (by decide) hi)
  have h3 : (32 : Nat) ^ 8 < 2 ^ 63 := by decide
  omega
theorem NM_iff {x y x' y' : Int64} (h : NM x y) (h' : NM x' y') : x = x' ↔ y = y' := by
  obtain ⟨a, i, i1, i8, ha, rfl, rfl⟩ := h
  obtain ⟨c, k, k1, k8, hc, rfl, rfl⟩ := h'
  rw [pk_lEQ (wB_63 (by decide) i8 (fun j hj => (ha j hj).2)) (wB_63 (by decide) k8 (fun j hj => (hc j hj).2)), pk_lEQ (wB_63 (by decide) i8 (fun j hj => Nat.lt_trans (ha j hj).2 (by decide))) (wB_63 (by decide) k8 (fun j hj => Nat.lt_trans (hc j hj).2 (by decide)))]
  constructor
  · intro e
    obtain ⟨rfl, q⟩ := wB_inj i k ha hc e
    exact wB_ext i q
  · intro e
    obtain ⟨rfl, q⟩ := wB_inj i k (fun j hj => ⟨(ha j hj).1, Nat.lt_trans (ha j hj).2 (by decide)⟩) (fun j hj => ⟨(hc j hj).1, Nat.lt_trans (hc j hj).2 (by decide)⟩) e
    exact wB_ext i q
theorem ltr_spec {x : Int32} (h : ltr x = true) : x = nI (ix x) ∧ 97 ≤ ix x ∧ ix x ≤ 122 := by
  rw [ltr, Bool.and_eq_true, decide_eq_true_eq, decide_eq_true_eq] at h
  obtain ⟨h1, h2⟩ := h
  have p : vp_in x 123 := by
    rw [vp_in_iff]
    rw [Int32.lt_iff_toInt_lt] at h1 h2
    have e1 : (97 : Int32).toInt = 97 := by decide
    have e2 : (122 : Int32).toInt = 122 := by decide
    omega
  have e := vof p (by omega)
  have hx := zix p
  refine ⟨e, ?_, by omega⟩
  rcases Nat.lt_or_ge (ix x) 97 with q | q
  · rw [e] at h1
    exact absurd (nI_lt (b := 97) q (by omega)) h1
  · exact q
/-- the letters of a token -/
def lt96 (T : Nat → Int32) (b : Nat) : Nat → Nat := fun j => ix (T (b + j)) - 96
theorem wf_wB {T : Nat → Int32} {b : Nat} : ∀ i, i ≤ 8 → (∀ j, j < i → ltr (T (b + j)) = true) → wfS T b i = lN (wB 27 (lt96 T b) i) ∧ lfS T b i = lN (wB 32 (lt96 T b) i)
  | 0, _, _ => ⟨rfl, rfl⟩
  | i + 1, h8, h => by
    obtain ⟨e1, e2⟩ := wf_wB i (by omega) (fun j hj => h j (by omega))
    obtain ⟨q1, q2, q3⟩ := ltr_spec (h i (by omega))
    rw [wfS, lfS, e1, e2, wB, wB]
    have ec : lt96 T b i = ix (T (b + i)) - 96 := rfl
    generalize ix (T (b + i)) = c at q1 q2 q3 ec
    rw [q1, nI_l (by omega), show (27 : Int64) = lN 27 from rfl, show (96 : Int64) = lN 96 from rfl, show (32 : Int64) = lN 32 from rfl, show (97 : Int32) = nI 97 from rfl, pk_sub (by omega), nI_1, nI_l (by omega), lN_mul, lN_mul, lN_add, lN_add, lN_sub (by omega), ec]
    constructor
    · congr 1; omega
    · congr 1; omega
theorem runS_aL {T : Nat → Int32} {n : Nat} {f : Int32 → Bool} : ∀ k p j, p ≤ j → j < runS T n f k p → f (T j) = true
  | 0, p, j, h1, h2 => by rw [runS] at h2; omega
  | k + 1, p, j, h1, h2 => by
    rw [runS] at h2
    split at h2
    · rename_i q
      by_cases e : j = p
      · rw [e]; exact q.2
      · exact runS_aL k (p + 1) j (by omega) h2
    · omega
theorem endS_all {T : Nat → Int32} {n : Nat} {f : Int32 → Bool} {p j : Nat} (h1 : p ≤ j) (h2 : j < endS T n f p) : f (T j) = true := runS_aL _ _ _ h1 h2
/-- a token that is a word -/
theorem ty1 {T : Nat → Int32} {n b : Nat} (h : tyS T n b = 1) : ¬ b = n ∧ ltr (T b) = true ∧ endS T n ltr b - b ≤ 8 := by
  have h : (tAt T n b).1 = 1 := h
  by_cases q : b = n
  · rw [tAt, if_pos q] at h; dsimp only at h; exact absurd h (by decide)
  · rw [tAt, if_neg q] at h
    refine ⟨q, ?_⟩
    split at h
    · rename_i h1
      refine ⟨h1, ?_⟩
      dsimp only at h
      split at h
      · assumption
      · exact absurd h (by decide)
    · split at h
      · dsimp only at h; split at h <;> exact absurd h (by decide)
      · dsimp only at h; split at h <;> exact absurd h (by decide)
theorem ty1_of {T : Nat → Int32} {n b : Nat} (h0 : ¬ b = n) (h1 : ltr (T b) = true) (h2 : endS T n ltr b - b ≤ 8) : tyS T n b = 1 ∧ wdS T n b = wfS T b (endS T n ltr b - b) ∧ vlS T n b = lfS T b (endS T n ltr b - b) := by
  have e : tAt T n b = (if endS T n ltr b - b ≤ 8 then 1 else 4, endS T n ltr b, wfS T b (min (endS T n ltr b - b) 8), 0) := by rw [tAt, if_neg h0, if_pos h1]
  refine ⟨?_, ?_, ?_⟩
  · show (tAt T n b).1 = 1
    rw [e]; exact if_pos h2
  · show (tAt T n b).2.2.1 = _
    rw [e, Nat.min_eq_left h2]
  · rw [vlS, if_pos h1]
theorem wd_NM {T : Nat → Int32} {n b : Nat} (hb : b ≤ n) (h : tyS T n b = 1) : NM (wdS T n b) (vlS T n b) := by
  obtain ⟨h0, h1, h2⟩ := ty1 h
  obtain ⟨-, e1, e2⟩ := ty1_of h0 h1 h2
  have hg := runS_gt (T := T) (n := n) (f := ltr) (b := b) (by omega) h1
  have hl : ∀ j, j < endS T n ltr b - b → ltr (T (b + j)) = true := fun j hj => endS_all (T := T) (n := n) (p := b) (by omega) (by omega)
  obtain ⟨q1, q2⟩ := wf_wB (T := T) (b := b) _ h2 hl
  refine ⟨lt96 T b, endS T n ltr b - b, by omega, h2, fun j hj => ?_, by rw [e1, q1], by rw [e2, q2]⟩
  obtain ⟨-, g1, g2⟩ := ltr_spec (hl j hj)
  have : lt96 T b j = ix (T (b + j)) - 96 := rfl
  omega
/-- the kept words: their texts, their numbers -/
theorem zT_kw : ∀ k, k < 28 → 2 ≤ k → 1 ≤ zTl k ∧ zTl k ≤ 8 ∧ (∀ j, j < zTl k → 97 ≤ ix (zTb k j) ∧ ix (zTb k j) ≤ 122 ∧ zTb k j = nI (ix (zTb k j))) ∧ kwS.getD (k - 2) 0 = lN (wB 27 (fun j => ix (zTb k j) - 96) (zTl k)) := by decide +kernel
theorem zT_0 : zTl 0 = 0 ∧ zTl 1 = 0 := by decide
theorem zT_apart : ∀ k, k < 28 → 2 ≤ k → ∀ i, i < 28 → 2 ≤ i → kwS.getD (k - 2) 0 = kwS.getD (i - 2) 0 → k = i := by decide +kernel
theorem stA_iff {T : Nat → Int32} {n b k : Nat} (hb : b ≤ n) (h : tyS T n b = 1) (hk : k < 28) (hk2 : 2 ≤ k) : stA T b (endS T n ltr b) k = true ↔ wdS T n b = kwS.getD (k - 2) 0 := by
  obtain ⟨h0, h1, h2⟩ := ty1 h
  obtain ⟨-, e1, -⟩ := ty1_of h0 h1 h2
  have hl : ∀ j, j < endS T n ltr b - b → ltr (T (b + j)) = true := fun j hj => endS_all (T := T) (n := n) (p := b) (by omega) (by omega)
  obtain ⟨q1, -⟩ := wf_wB (T := T) (b := b) _ h2 hl
  obtain ⟨k1, k8, kl, ke⟩ := zT_kw k hk hk2
  have da : ∀ j, j < endS T n ltr b - b → 1 ≤ lt96 T b j ∧ lt96 T b j < 27 := fun j hj => by
    obtain ⟨-, g1, g2⟩ := ltr_spec (hl j hj)
    have : lt96 T b j = ix (T (b + j)) - 96 := rfl
    omega
  have dk : ∀ j, j < zTl k → 1 ≤ ix (zTb k j) - 96 ∧ ix (zTb k j) - 96 < 27 := fun j hj => by
    obtain ⟨g1, g2, -⟩ := kl j hj
    omega
  rw [e1, q1, ke, pk_lEQ (wB_63 (by decide) h2 (fun j hj => (da j hj).2)) (wB_63 (by decide) k8 (fun j hj => (dk j hj).2)), stA, Bool.and_eq_true, decide_eq_true_eq, List.all_eq_true]
  constructor
  · rintro ⟨g1, g2⟩
    rw [← g1]
    refine wB_ext _ (fun j hj => ?_)
    have g3 := of_decide_eq_true (g2 j (List.mem_range.mpr hj))
    show ix (T (b + j)) - 96 = _
    rw [← g3]
  · intro e
    obtain ⟨g1, g2⟩ := wB_inj _ _ da dk e
    refine ⟨g1.symm, fun j hj => decide_eq_true ?_⟩
    have hj := List.mem_range.mp hj
    have g3 : ix (T (b + j)) - 96 = ix (zTb k j) - 96 := g2 j (by omega)
    obtain ⟨p1, p2, -⟩ := ltr_spec (hl j (by omega))
    obtain ⟨r1, r2, r3⟩ := kl j hj
    rw [r3, p1]
    congr 1
    omega
theorem kwF_spec {T : Nat → Int32} {b e : Nat} : ∀ i, i ≤ 28 → (∃ k, k < i ∧ stA T b e k = true ∧ kwF T b e i = k) ∨ ((∀ k, k < i → stA T b e k = false) ∧ kwF T b e i = 1)
  | 0, _ => Or.inr ⟨fun k hk => absurd hk (by omega), rfl⟩
  | i + 1, h => by
    rw [kwF]
    cases q : stA T b e i with
    | true => exact Or.inl ⟨i, by omega, q, if_pos rfl⟩
    | false =>
      rw [if_neg (by decide)]
      rcases kwF_spec (T := T) (b := b) (e := e) i (by omega) with ⟨k, h1, h2, h3⟩ | ⟨h1, h2⟩
      · exact Or.inl ⟨k, by omega, h2, h3⟩
      · refine Or.inr ⟨fun k hk => ?_, h2⟩
        by_cases e : k = i
        · rw [e]; exact q
        · exact h1 k (by omega)
theorem kwS_26 : kwS.length = 26 := by decide
theorem kw_mem {w : Int64} : kwS.contains w = true ↔ ∃ k, k < 28 ∧ 2 ≤ k ∧ w = kwS.getD (k - 2) 0 := by
  rw [List.contains_iff_mem]
  constructor
  · intro h
    obtain ⟨j, hj, e⟩ := List.getElem_of_mem h
    rw [kwS_26] at hj
    refine ⟨j + 2, by omega, by omega, ?_⟩
    rw [Nat.add_sub_cancel, List.getD_eq_getElem?_getD, List.getElem?_eq_getElem (by rw [kwS_26]; exact hj), ← e]; rfl
  · rintro ⟨k, h1, h2, rfl⟩
    rw [List.getD_eq_getElem?_getD, List.getElem?_eq_getElem (by rw [kwS_26]; omega)]
    exact List.getElem_mem _
/-- which word it is -/
theorem wx_spec {T : Nat → Int32} {n b : Nat} (hb : b ≤ n) : (wxS T n b = 0 ∧ ¬ tyS T n b = 1) ∨ (wxS T n b = 1 ∧ tyS T n b = 1 ∧ kwS.contains (wdS T n b) = false) ∨ (2 ≤ wxS T n b ∧ wxS T n b < 28 ∧ tyS T n b = 1 ∧ wdS T n b = kwS.getD (wxS T n b - 2) 0) := by
  by_cases h : tyS T n b = 1
  · obtain ⟨h0, h1, h2⟩ := ty1 h
    have hg := runS_gt (T := T) (n := n) (f := ltr) (b := b) (by omega) h1
    have hw : wxS T n b = kwF T b (endS T n ltr b) 28 := by rw [wxS, if_neg h0, if_pos h1, if_pos h2]
    have st0 : ∀ k, k < 2 → stA T b (endS T n ltr b) k = false := by
      intro k hk
      have : k = 0 ∨ k = 1 := by omega
      rw [stA, decide_eq_false, Bool.false_and]
      rcases this with rfl | rfl
      · rw [zT_0.1]; omega
      · rw [zT_0.2]; omega
    rcases kwF_spec (T := T) (b := b) (e := endS T n ltr b) 28 (Nat.le_refl _) with ⟨k, k1, k2, k3⟩ | ⟨k1, k2⟩
    · have hk2 : 2 ≤ k := by
        rcases Nat.lt_or_ge k 2 with q | q
        · rw [st0 k q] at k2; cases k2
        · exact q
      rw [hw, k3]
      exact Or.inr (Or.inr ⟨hk2, k1, h, (stA_iff hb h k1 hk2).mp k2⟩)
    · rw [hw, k2]
      refine Or.inr (Or.inl ⟨rfl, h, ?_⟩)
      cases q : kwS.contains (wdS T n b) with
      | false => rfl
      | true =>
        obtain ⟨k, g1, g2, g3⟩ := kw_mem.mp q
        have := (stA_iff hb h g1 g2).mpr g3
        rw [k1 k g1] at this; cases this
  · refine Or.inl ⟨?_, h⟩
    rw [wxS]
    split
    · rfl
    · rename_i h0
      split
      · rename_i h1
        split
        · rename_i h2
          exact absurd (ty1_of h0 h1 h2).1 h
        · rfl
      · rfl
/-- a kept word -/
theorem isW_wx {T : Nat → Int32} {n b k : Nat} (hb : b ≤ n) (hk : k < 28) (hk2 : 2 ≤ k) : isW T n b (kwS.getD (k - 2) 0) = decide (wxS T n b = k) := by
  rw [isW]
  rcases wx_spec (T := T) hb with ⟨h1, h2⟩ | ⟨h1, h2, h3⟩ | ⟨h1, h2, h3, h4⟩
  · rw [decide_eq_false h2, h1, decide_eq_false (p := 0 = k) (by omega)]; rfl
  · rw [h1, decide_eq_false (p := 1 = k) (by omega), decide_eq_false (p := wdS T n b = _), Bool.and_false]
    intro e
    have := kw_mem.mpr ⟨k, hk, hk2, e⟩
    rw [h3] at this; cases this
  · rw [decide_eq_true h3, Bool.true_and, h4]
    refine decide_eq_decide.mpr ⟨fun e => zT_apart _ h2 h1 k hk hk2 e, fun e => by rw [e]⟩
theorem kp_wx {T : Nat → Int32} {n b : Nat} (hb : b ≤ n) : kpS T n b = !decide (wxS T n b = 1) := by
  rw [kpS]
  rcases wx_spec (T := T) hb with ⟨h1, h2⟩ | ⟨h1, h2, h3⟩ | ⟨h1, h2, h3, h4⟩
  · rw [decide_eq_false h2, h1]; rfl
  · rw [decide_eq_true h2, h3, h1]; rfl
  · rw [kw_mem.mpr ⟨_, h2, h1, h4⟩, Bool.or_true, decide_eq_false (by omega)]; rfl
theorem kn_tab : ∀ w, w < 28 → (if w = 16 then (0 : Int32) else if w = 3 then 1 else if w = 17 then 2 else if w = 18 then 3 else if w = 19 then 4 else if w = 20 then 5 else -1) = zWk.getD w 0 := by decide +kernel
theorem kin_wx {T : Nat → Int32} {n b : Nat} (hb : b ≤ n) : kinS T n b = zWk.getD (wxS T n b) 0 := by
  have e16 := isW_wx (T := T) hb (k := 16) (by decide) (by decide)
  have e3 := isW_wx (T := T) hb (k := 3) (by decide) (by decide)
  have e17 := isW_wx (T := T) hb (k := 17) (by decide) (by decide)
  have e18 := isW_wx (T := T) hb (k := 18) (by decide) (by decide)
  have e19 := isW_wx (T := T) hb (k := 19) (by decide) (by decide)
  have e20 := isW_wx (T := T) hb (k := 20) (by decide) (by decide)
  rw [← kn_tab _ (wxS_lt T n b), kinS]
  rw [show kwS.getD (16 - 2) 0 = (8740238 : Int64) by decide] at e16
  rw [show kwS.getD (3 - 2) 0 = (3427 : Int64) by decide] at e3
  rw [show kwS.getD (17 - 2) 0 = (50849 : Int64) by decide] at e17
  rw [show kwS.getD (18 - 2) 0 = (76927149 : Int64) by decide] at e18
  rw [show kwS.getD (19 - 2) 0 = (119656022 : Int64) by decide] at e19
  rw [show kwS.getD (20 - 2) 0 = (151648177 : Int64) by decide] at e20
  simp only [e16, e3, e17, e18, e19, e20, decide_eq_true_eq]
theorem fc_tab : ∀ w, w < 28 → (if w = 21 then (1 : Int32) else if w = 22 then 2 else if w = 23 then 3 else if w = 24 then 4 else if w = 4 then 5 else 0) = zWf.getD w 0 + 1 := by decide +kernel
theorem fac_wx {T : Nat → Int32} {n b : Nat} (hb : b ≤ n) : facS T n b = zWf.getD (wxS T n b) 0 + 1 := by
  have e21 := isW_wx (T := T) hb (k := 21) (by decide) (by decide)
  have e22 := isW_wx (T := T) hb (k := 22) (by decide) (by decide)
  have e23 := isW_wx (T := T) hb (k := 23) (by decide) (by decide)
  have e24 := isW_wx (T := T) hb (k := 24) (by decide) (by decide)
  have e4 := isW_wx (T := T) hb (k := 4) (by decide) (by decide)
  rw [← fc_tab _ (wxS_lt T n b), facS]
  rw [show kwS.getD (21 - 2) 0 = (3379448 : Int64) by decide, isW] at e21
  rw [show kwS.getD (22 - 2) 0 = (275356804 : Int64) by decide, isW] at e22
  rw [show kwS.getD (23 - 2) 0 = (10793335 : Int64) by decide, isW] at e23
  rw [show kwS.getD (24 - 2) 0 = (94492070 : Int64) by decide, isW] at e24
  rw [show kwS.getD (4 - 2) 0 = (16922 : Int64) by decide, isW] at e4
  by_cases h : tyS T n b = 1
  · rw [if_pos h]
    rw [decide_eq_true h, Bool.true_and] at e21 e22 e23 e24 e4
    simp only [decide_eq_decide] at e21 e22 e23 e24 e4
    simp only [e21, e22, e23, e24, e4]
  · rw [if_neg h]
    rw [decide_eq_false h, Bool.false_and] at e21 e22 e23 e24 e4
    rw [if_neg (of_decide_eq_false e21.symm), if_neg (of_decide_eq_false e22.symm), if_neg (of_decide_eq_false e23.symm), if_neg (of_decide_eq_false e24.symm), if_neg (of_decide_eq_false e4.symm)]
/-- a number -/
theorem nf_df {T : Nat → Int32} {b : Nat} : ∀ i, (dfS T b i).toInt32 = nfS T b i
  | 0 => rfl
  | i + 1 => by
    rw [dfS, nfS, Int64.toInt32_add, Int64.toInt32_mul, nf_df i, Int32.toInt32_toInt64, show (10 : Int64).toInt32 = 10 from rfl, Int32.sub_eq_add_neg, Int32.sub_eq_add_neg, Int32.add_assoc]
theorem nm_vl {T : Nat → Int32} {n b : Nat} (h : tyS T n b = 2) : (vlS T n b).toInt32 = nmS T n b ∧ ¬ b = n := by
  have h : (tAt T n b).1 = 2 := h
  by_cases q : b = n
  · rw [tAt, if_pos q] at h; dsimp only at h; exact absurd h (by decide)
  · refine ⟨?_, q⟩
    rw [tAt, if_neg q] at h
    split at h
    · dsimp only at h; split at h <;> exact absurd h (by decide)
    · rename_i h1
      split at h
      · rename_i h2
        dsimp only at h
        split at h
        · rename_i h4
          rw [vlS, if_neg h1, if_pos h2, nf_df]
          show _ = (tAt T n b).2.2.2
          rw [tAt, if_neg q, if_neg h1, if_pos h2, Nat.min_eq_left h4]
        · exact absurd h (by decide)
      · dsimp only at h; split at h <;> exact absurd h (by decide)
