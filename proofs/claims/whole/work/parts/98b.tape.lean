/-! THE CLASS'S TAPE: its tokens -/
/-- the letters as a number of base 32; the digits -/
def lfS (T : Nat → Int32) (b : Nat) : Nat → Int64
  | 0 => 0
  | i + 1 => lfS T b i * (32 : Int64) + Int32.toInt64 ((T (b + i) - (97 : Int32)) + (1 : Int32))
def dfS (T : Nat → Int32) (b : Nat) : Nat → Int64
  | 0 => 0
  | i + 1 => dfS T b i * (10 : Int64) + Int32.toInt64 (T (b + i) - (48 : Int32))
/-- text k stands from b to e -/
def stA (T : Nat → Int32) (b e k : Nat) : Bool := decide (zTl k = e - b) && (List.range (zTl k)).all (fun j => decide (zTb k j = T (b + j)))
def kwF (T : Nat → Int32) (b e : Nat) : Nat → Nat
  | 0 => 1
  | k + 1 => if stA T b e k = true then k else kwF T b e k
theorem kwF_lt (T : Nat → Int32) (b e : Nat) : ∀ k, k ≤ 28 → kwF T b e k < 28
  | 0, _ => by rw [kwF]; decide
  | k + 1, h => by
    rw [kwF]
    split
    · omega
    · exact kwF_lt T b e k (by omega)
/-- which word it is (0: none, 1: a name); its value -/
def wxS (T : Nat → Int32) (n b : Nat) : Nat := if b = n then 0 else if ltr (T b) = true then (if endS T n ltr b - b ≤ 8 then kwF T b (endS T n ltr b) 28 else 0) else 0
def vlS (T : Nat → Int32) (n b : Nat) : Int64 := if ltr (T b) = true then lfS T b (endS T n ltr b - b) else if dgt (T b) = true then dfS T b (endS T n dgt b - b) else Int32.toInt64 (T b)
theorem wxS_lt (T : Nat → Int32) (n b : Nat) : wxS T n b < 28 := by
  unfold wxS
  split
  · decide
  · split
    · split
      · exact kwF_lt T _ _ 28 (Nat.le_refl _)
      · decide
    · decide
theorem pI_self {μ : zM} {κ o k : Nat} {v : Int32} (h : μ.1 κ o k = v) : pI μ κ o k v = μ := by
  unfold pI
  refine Prod.ext ?_ rfl
  funext a b c
  dsimp only
  split
  · rename_i q; obtain ⟨rfl, rfl, rfl⟩ := q; exact h.symm
  · rfl
theorem pI_comm (μ : zM) {κ κ' : Nat} (o o' k k' : Nat) (v w : Int32) (h : κ' ≠ κ) : pI (pI μ κ o k v) κ' o' k' w = pI (pI μ κ' o' k' w) κ o k v := by
  unfold pI
  refine Prod.ext ?_ rfl
  funext a b c
  dsimp only
  by_cases h1 : a = κ ∧ b = o ∧ c = k
  · have h2 : ¬ (a = κ' ∧ b = o' ∧ c = k') := by rintro ⟨rfl, -⟩; exact h h1.1
    rw [if_neg h2, if_pos h1, if_pos h1]
  · rw [if_neg h1]
    by_cases h2 : a = κ' ∧ b = o' ∧ c = k'
    · rw [if_neg h1]
    · rw [if_neg h1]
section TP
variable {l : Launch} {G : zG} {μ : zM}
theorem ct_ltr {x : Int32} : zCT l G 0 yX5_isLetter cX5_isLetter 1 (some .boolean) [.int x] μ (zI fun r μ' => r = b2i (ltr x) ∧ μ' = μ) := by
  refine zCT_of (by decide) (Nat.le_of_ble_eq_true rfl) rfl (fun X hl hG hX hr => ?_)
  subst hG
  refine st_X5_isLetter_0 hX hr ⟨fun c => ⟨_, rfl, by simp [ltr, b2i, c], rfl⟩, fun c => ⟨fun d => ⟨_, rfl, by simp [ltr, b2i, c, d], rfl⟩, fun d => ⟨_, rfl, ?_, rfl⟩⟩⟩
  rw [ltr, decide_eq_true c, decide_eq_true d]; rfl
theorem ct_dgt {x : Int32} : zCT l G 0 yX5_isDigit cX5_isDigit 1 (some .boolean) [.int x] μ (zI fun r μ' => r = b2i (dgt x) ∧ μ' = μ) := by
  refine zCT_of (by decide) (Nat.le_of_ble_eq_true rfl) rfl (fun X hl hG hX hr => ?_)
  subst hG
  refine st_X5_isDigit_0 hX hr ⟨fun c => ⟨_, rfl, by simp [dgt, b2i, c], rfl⟩, fun c => ⟨fun d => ⟨_, rfl, by simp [dgt, b2i, c, d], rfl⟩, fun d => ⟨_, rfl, ?_, rfl⟩⟩⟩
  rw [dgt, decide_eq_true c, decide_eq_true d]; rfl
theorem ct_stands (hE : zHas G) {k b e : Nat} (hk : k < 31) (hb : b ≤ e) (he : e ≤ 1000) :
    zCT l G 4 yX5_standsAt cX5_standsAt 5 (some .boolean) [.ref (G.ad 5 0), .ref (G.aw (100 + k)), .int (nI b), .int (nI e)] μ (zI fun r μ' => r = b2i (stA (μ.1 27 0) b e k) ∧ μ' = μ) := by
  refine zCT_of (by decide) (Nat.le_of_ble_eq_true rfl) rfl (fun X hl hG hX hr => ?_)
  subst hG
  have h31 := zT_fin k hk
  have go : zTl k = e - b → ∀ q i, i + q = zTl k → (∀ j, j < i → zTb k j = μ.1 27 0 (b + j)) → AW X 15 [some (.ref (X.G.ad 5 0)), some (.ref (X.G.aw (100 + k))), some (.int (nI b)), none, some (.int (nI i))] [] μ := by
    intro hz q
    induction q with
    | zero =>
      intro i hi h
      refine st_X5_standsAt_15 hX hr hE hk ⟨1, _, by omega, cj_len hE hk, ?_⟩
      rintro r ν ⟨rfl, rfl⟩
      refine ⟨fun _ => ⟨_, rfl, ?_, rfl⟩, fun c => absurd (nI_le (by omega) (by omega)) c⟩
      have : stA (ν.1 27 0) b e k = true := by
        rw [stA, decide_eq_true hz, Bool.true_and, List.all_eq_true]
        intro j hj
        exact decide_eq_true (h j (by have := List.mem_range.mp hj; omega))
      rw [this]; rfl
    | succ q ih =>
      intro i hi h
      refine st_X5_standsAt_15 hX hr hE hk ⟨1, _, by omega, cj_len hE hk, ?_⟩
      rintro r ν ⟨rfl, rfl⟩
      refine ⟨fun c => ?_, fun _ => ⟨3, _, by omega, cj_char hE hk (j := i) (by omega), ?_⟩⟩
      · have := (nI_leI (by omega) (by omega)).mp c
        omega
      rintro r ν ⟨rfl, rfl⟩
      rw [nI_add, ixn (by omega)]
      refine ⟨vin (by omega) (by omega), fun c => ?_, fun c => ⟨_, rfl, ?_, rfl⟩⟩
      · simp only [forall_eq, nI_1]
        exact ih (i + 1) (by omega) (fun j hj => by
          by_cases e : j = i
          · rw [e]; exact c
          · exact h j (by omega))
      · have : stA (ν.1 27 0) b e k = false := by
          rw [stA, decide_eq_true hz, Bool.true_and, List.all_eq_false]
          exact ⟨i, List.mem_range.mpr (by omega), by rw [decide_eq_true_eq]; exact c⟩
        rw [this]; rfl
  refine st_X5_standsAt_0 hX hr hE hk ⟨1, _, by omega, cj_len hE hk, ?_⟩
  rintro r ν ⟨rfl, rfl⟩
  rw [pk_sub hb]
  refine ⟨fun c => ?_, fun c => ⟨_, rfl, ?_, rfl⟩⟩
  · have hz : zTl k = e - b := by
      have := congrArg ix c
      rwa [ixn (by omega), ixn (by omega)] at this
    exact go hz (zTl k) 0 (by omega) (fun j hj => absurd hj (by omega))
  · have : stA (ν.1 27 0) b e k = false := by
      rw [stA, decide_eq_false (fun q => c (by rw [q])), Bool.false_and]
    rw [this]; rfl
/-- a token is noted -/
def tkM (μ : zM) (a : Nat) (v : Int64) (t : Int32) (w : Nat) : zM := pI (pI (pL μ 31 0 a v) 28 0 a t) 30 0 a (nI w)
theorem tkM_0 {μ : zM} {a : Nat} (v : Int64) (t : Int32) (h : μ.1 30 0 a = nI 0) : tkM μ a v t 0 = pI (pL μ 31 0 a v) 28 0 a t := by
  refine pI_self ?_
  rw [pI_other _ _ _ _ _ _ (by decide)]
  exact h
theorem ct_word (hE : zHas G) {n a b : Nat} (hn : n ≤ 1000) (en : μ.1 5 0 0 = nI n) (ea : μ.1 5 0 1 = nI a) (ha : a ≤ 1000) (hb : b < n) (h0 : μ.1 30 0 a = nI 0) (hl : ltr (μ.1 27 0 b) = true) :
    zCT l G 5 yX5_splitWord cX5_splitWord 6 (some .int) [.ref (G.ad 5 0), .int (nI b)] μ (zI fun r μ' => r = nI (tAt (μ.1 27 0) n b).2.1 ∧ μ' = tkM μ a (vlS (μ.1 27 0) n b) (tyS (μ.1 27 0) n b) (wxS (μ.1 27 0) n b)) := by
  refine zCT_of (by decide) (Nat.le_of_ble_eq_true rfl) rfl (fun X hl0 hG hX hr => ?_)
  subst hG
  have tA : tAt (μ.1 27 0) n b = (if endS (μ.1 27 0) n ltr b - b ≤ 8 then 1 else 4, endS (μ.1 27 0) n ltr b, wfS (μ.1 27 0) b (min (endS (μ.1 27 0) n ltr b - b) 8), 0) := by rw [tAt, if_neg (by omega), if_pos hl]
  have hv : vlS (μ.1 27 0) n b = lfS (μ.1 27 0) b (endS (μ.1 27 0) n ltr b - b) := by rw [vlS, if_pos hl]
  have hw : wxS (μ.1 27 0) n b = if endS (μ.1 27 0) n ltr b - b ≤ 8 then kwF (μ.1 27 0) b (endS (μ.1 27 0) n ltr b) 28 else 0 := by rw [wxS, if_neg (by omega), if_pos hl]
  have hel := endS_le (T := μ.1 27 0) (n := n) (f := ltr) (p := b) (by omega)
  dsimp only [tyS] at hr
  rw [tA, hv, hw] at hr
  -- behind the letters
  have last : ∀ e, e = endS (μ.1 27 0) n ltr b → AW X 49 [some (.ref (X.G.ad 5 0)), some (.int (nI b)), some (.int (nI e)), some (.long (lfS (μ.1 27 0) b (e - b))), none, none] [] μ := by
    intro e he
    rw [← he] at hel
    refine st_X5_splitWord_49 hX hr hE ?_
    rw [ea, ixn (by omega), pk_sub hel.1]
    refine ⟨vin (by omega) (by omega), ?_⟩
    simp only [forall_eq]
    have e1 : (pL μ 31 0 a (lfS (μ.1 27 0) b (e - b))).1 5 0 1 = nI a := ea
    rw [e1, ixn (by omega)]
    refine ⟨fun c => ?_, fun c => ⟨vin (by omega) (by omega), _, rfl, by rw [← he], ?_⟩⟩
    · have c8 : e - b ≤ 8 := (nI_leI (by omega) (by omega)).mp c
      have e2 : (pI (pL μ 31 0 a (lfS (μ.1 27 0) b (e - b))) 28 0 a 1).1 5 0 1 = nI a := by rw [pI_other _ _ _ _ _ _ (by decide)]; exact ea
      rw [e2, ixn (by omega)]
      refine ⟨vin (by omega) (by omega), vin (by omega) (by omega), ?_⟩
      -- the words
      have go : ∀ q i, i + q = 28 → AW X 104 [some (.ref (X.G.ad 5 0)), some (.int (nI b)), some (.int (nI e)), none, none, some (.int (nI i))] [] (tkM μ a (lfS (μ.1 27 0) b (e - b)) 1 (kwF (μ.1 27 0) b e i)) := by
        intro q
        induction q with
        | zero =>
          intro i hi
          refine st_X5_splitWord_104 hX hr hE ⟨fun _ => ⟨_, rfl, by rw [← he], ?_⟩, fun c => absurd (nI_le (a := 28) (b := i) (by omega) (by omega)) c⟩
          rw [← he, if_pos c8, if_pos c8, show i = 28 by omega]
        | succ q ih =>
          intro i hi
          have hT : (tkM μ a (lfS (μ.1 27 0) b (e - b)) 1 (kwF (μ.1 27 0) b e i)).1 27 0 = μ.1 27 0 := by
            unfold tkM
            rw [pI_row2 _ _ _ _ _ (by decide), pI_row2 _ _ _ _ _ (by decide)]; rfl
          refine st_X5_splitWord_104 hX hr hE ⟨fun c => absurd c (nI_ge (b := 28) (by omega) (by omega)), fun _ => ⟨vin (by omega) (by omega), ?_⟩⟩
          rw [ixn (by omega)]
          refine ⟨4, _, by omega, ct_stands hE (by omega) hel.1 (by omega), ?_⟩
          rintro r ν ⟨rfl, rfl⟩
          rw [hT]
          have I := ih (i + 1) (by omega)
          simp only [forall_eq, nI_1]
          refine ⟨fun c => ?_, fun c => ⟨?_, ?_⟩⟩
          · rw [kwF, if_neg (by rw [b2i0.mp c]; decide)] at I
            exact I
          · rw [show (tkM μ a (lfS (μ.1 27 0) b (e - b)) 1 (kwF (μ.1 27 0) b e i)).1 5 0 1 = nI a by unfold tkM; rw [pI_other _ _ _ _ _ _ (by decide), pI_other _ _ _ _ _ _ (by decide)]; exact ea]
            exact vin (by omega) (by omega)
          · rw [show (tkM μ a (lfS (μ.1 27 0) b (e - b)) 1 (kwF (μ.1 27 0) b e i)).1 5 0 1 = nI a by unfold tkM; rw [pI_other _ _ _ _ _ _ (by decide), pI_other _ _ _ _ _ _ (by decide)]; exact ea, ixn (by omega)]
            rw [kwF, if_pos (b2i1.mp c)] at I
            unfold tkM at I ⊢
            rw [pI_pI]
            exact I
      exact go 28 0 rfl
    · have c8 : ¬ e - b ≤ 8 := fun q => c (nI_le (b := 8) q (by decide))
      rw [← he, if_neg c8, if_neg c8, tkM_0 _ _ h0]
  -- the letters
  have go : ∀ q i, q = n - i → b ≤ i → i ≤ n → endS (μ.1 27 0) n ltr i = endS (μ.1 27 0) n ltr b → AW X 4 [some (.ref (X.G.ad 5 0)), some (.int (nI b)), some (.int (nI i)), some (.long (lfS (μ.1 27 0) b (i - b))), none, none] [] μ := by
    intro q
    induction q with
    | zero =>
      intro i hq hi1 hi2 hz
      refine st_X5_splitWord_4 hX hr ⟨fun _ => last i ?_, fun c => absurd (by rw [en]; exact nI_le (by omega) (by omega)) c⟩
      rw [← hz, endS_stop (by omega)]
    | succ q ih =>
      intro i hq hi1 hi2 hz
      refine st_X5_splitWord_4 hX hr ⟨fun c => absurd c (by rw [en]; exact nI_ge (by omega) (by omega)), fun _ => ⟨vin (by omega) (by omega), 0, _, by omega, ct_ltr, ?_⟩⟩
      rintro r ν ⟨rfl, rfl⟩
      rw [ixn (by omega)]
      refine ⟨fun c => last i ?_, fun c => ?_⟩
      · rw [← hz, endS_stop (by rintro ⟨-, q⟩; rw [b2i0.mp c] at q; cases q)]
      · have I := ih (i + 1) (by omega) (by omega) (by omega) ((endS_go (by omega) (b2i1.mp c)).symm.trans hz)
        rw [show i + 1 - b = (i - b) + 1 by omega, lfS, show b + (i - b) = i by omega] at I
        simp only [forall_eq, nI_1]
        exact I
  refine st_X5_splitWord_0 hX hr ?_
  have I := go (n - b) b rfl (Nat.le_refl _) (by omega) rfl
  rw [Nat.sub_self, lfS] at I
  exact I
theorem ct_num {n a b : Nat} (hn : n ≤ 1000) (en : μ.1 5 0 0 = nI n) (ea : μ.1 5 0 1 = nI a) (ha : a ≤ 1000) (hb : b < n) (h0 : μ.1 30 0 a = nI 0) (hl : ltr (μ.1 27 0 b) = false) (hd : dgt (μ.1 27 0 b) = true) :
    zCT l G 1 yX5_splitNumber cX5_splitNumber 5 (some .int) [.ref (G.ad 5 0), .int (nI b)] μ (zI fun r μ' => r = nI (tAt (μ.1 27 0) n b).2.1 ∧ μ' = tkM μ a (vlS (μ.1 27 0) n b) (tyS (μ.1 27 0) n b) (wxS (μ.1 27 0) n b)) := by
  refine zCT_of (by decide) (Nat.le_of_ble_eq_true rfl) rfl (fun X hl0 hG hX hr => ?_)
  subst hG
  have hl : ¬ ltr (μ.1 27 0 b) = true := by rw [hl]; decide
  have tA : tAt (μ.1 27 0) n b = (if endS (μ.1 27 0) n dgt b - b ≤ 4 then 2 else 4, endS (μ.1 27 0) n dgt b, 0, nfS (μ.1 27 0) b (min (endS (μ.1 27 0) n dgt b - b) 4)) := by rw [tAt, if_neg (by omega), if_neg hl, if_pos hd]
  have hv : vlS (μ.1 27 0) n b = dfS (μ.1 27 0) b (endS (μ.1 27 0) n dgt b - b) := by rw [vlS, if_neg hl, if_pos hd]
  have hw : wxS (μ.1 27 0) n b = 0 := by rw [wxS, if_neg (by omega), if_neg hl]
  have hel := endS_le (T := μ.1 27 0) (n := n) (f := dgt) (p := b) (by omega)
  dsimp only [tyS] at hr
  rw [tA, hv, hw] at hr
  rw [tkM_0 _ _ h0] at hr
  have last : ∀ e, e = endS (μ.1 27 0) n dgt b → AW X 47 [some (.ref (X.G.ad 5 0)), some (.int (nI b)), some (.int (nI e)), some (.long (dfS (μ.1 27 0) b (e - b))), none] [] μ := by
    intro e he
    rw [← he] at hel
    refine st_X5_splitNumber_47 hX hr ?_
    rw [ea, ixn (by omega), pk_sub hel.1]
    refine ⟨vin (by omega) (by omega), ?_⟩
    simp only [forall_eq]
    have e1 : (pL μ 31 0 a (dfS (μ.1 27 0) b (e - b))).1 5 0 1 = nI a := ea
    rw [e1, ixn (by omega)]
    refine ⟨fun c => ⟨vin (by omega) (by omega), _, rfl, by rw [← he], ?_⟩, fun c => ⟨vin (by omega) (by omega), _, rfl, by rw [← he], ?_⟩⟩
    · have c4 : ¬ e - b ≤ 4 := fun q => nI_nlt (a := 4) (b := e - b) (by omega) (by omega) c
      rw [← he, if_neg c4]
    · have c4 : e - b ≤ 4 := by
        rcases Nat.lt_or_ge 4 (e - b) with q | q
        · exact absurd (nI_lt q (by omega)) c
        · exact q
      rw [← he, if_pos c4]
  have go : ∀ q i, q = n - i → b ≤ i → i ≤ n → endS (μ.1 27 0) n dgt i = endS (μ.1 27 0) n dgt b → AW X 4 [some (.ref (X.G.ad 5 0)), some (.int (nI b)), some (.int (nI i)), some (.long (dfS (μ.1 27 0) b (i - b))), none] [] μ := by
    intro q
    induction q with
    | zero =>
      intro i hq hi1 hi2 hz
      refine st_X5_splitNumber_4 hX hr ⟨fun _ => last i ?_, fun c => absurd (by rw [en]; exact nI_le (by omega) (by omega)) c⟩
      rw [← hz, endS_stop (by omega)]
    | succ q ih =>
      intro i hq hi1 hi2 hz
      refine st_X5_splitNumber_4 hX hr ⟨fun c => absurd c (by rw [en]; exact nI_ge (by omega) (by omega)), fun _ => ⟨vin (by omega) (by omega), 0, _, by omega, ct_dgt, ?_⟩⟩
      rintro r ν ⟨rfl, rfl⟩
      rw [ixn (by omega)]
      refine ⟨fun c => last i ?_, fun c => ?_⟩
      · rw [← hz, endS_stop (by rintro ⟨-, q⟩; rw [b2i0.mp c] at q; cases q)]
      · have I := ih (i + 1) (by omega) (by omega) (by omega) ((endS_go (by omega) (b2i1.mp c)).symm.trans hz)
        rw [show i + 1 - b = (i - b) + 1 by omega, dfS, show b + (i - b) = i by omega] at I
        simp only [forall_eq, nI_1]
        exact I
  refine st_X5_splitNumber_0 hX hr ?_
  have I := go (n - b) b rfl (Nat.le_refl _) (by omega) rfl
  rw [Nat.sub_self, dfS] at I
  exact I
theorem ct_off (hE : zHas G) {n a b : Nat} (hn : n ≤ 1000) (en : μ.1 5 0 0 = nI n) (ea : μ.1 5 0 1 = nI a) (ha : a ≤ 1000) (hb : b < n) (h0 : μ.1 30 0 a = nI 0) (hc : ∃ c, c < 128 ∧ μ.1 27 0 b = nI c) :
    zCT l G 6 yX5_splitOff cX5_splitOff 3 (some .int) [.ref (G.ad 5 0), .int (μ.1 27 0 b), .int (nI b)] μ (zI fun r μ' => r = nI (tAt (μ.1 27 0) n b).2.1 ∧ μ' = tkM μ a (vlS (μ.1 27 0) n b) (tyS (μ.1 27 0) n b) (wxS (μ.1 27 0) n b)) := by
  refine zCT_of (by decide) (Nat.le_of_ble_eq_true rfl) rfl (fun X hl0 hG hX hr => ?_)
  subst hG
  refine st_X5_splitOff_0 hX hr hE ⟨0, _, by omega, ct_ltr, ?_⟩
  rintro r ν ⟨rfl, rfl⟩
  refine ⟨fun c1 => ⟨0, _, by omega, ct_dgt, ?_⟩, fun c1 => ⟨5, _, by omega, ct_word hE hn en ea ha hb h0 (b2i1.mp c1), ?_⟩⟩
  · rintro r ν ⟨rfl, rfl⟩
    refine ⟨fun c2 => ?_, fun c2 => ⟨1, _, by omega, ct_num hn en ea ha hb h0 (b2i0.mp c1) (b2i1.mp c2), ?_⟩⟩
    · obtain ⟨c, hc, ec⟩ := hc
      have hl : ¬ ltr (ν.1 27 0 b) = true := by rw [b2i0.mp c1]; decide
      have hd : ¬ dgt (ν.1 27 0 b) = true := by rw [b2i0.mp c2]; decide
      have tA : tAt (ν.1 27 0) n b = (if sgn (ν.1 27 0 b) = true then 3 else 4, b + 1, 0, 0) := by rw [tAt, if_neg (by omega), if_neg hl, if_neg hd]
      have hv : vlS (ν.1 27 0) n b = Int32.toInt64 (ν.1 27 0 b) := by rw [vlS, if_neg hl, if_neg hd]
      have hw : wxS (ν.1 27 0) n b = 0 := by rw [wxS, if_neg (by omega), if_neg hl]
      dsimp only [tyS]
      rw [tA, hv, hw, tkM_0 _ _ h0, ec]
      refine ⟨3, _, by omega, cj_ix hE hc, ?_⟩
      rintro r ρ ⟨hs, rfl⟩
      rw [ea, ixn (by omega)]
      simp only [forall_eq]
      refine ⟨fun c3 => ⟨vin (by omega) (by omega), ?_⟩, fun c3 => ⟨vin (by omega) (by omega), ?_⟩⟩
      · rw [pI_other _ _ _ _ _ _ (by decide), ea, ixn (by omega), if_neg (by rw [hs.mp c3]; decide)]
        exact ⟨vin (by omega) (by omega), _, rfl, nI_1 _, rfl⟩
      · rw [pI_other _ _ _ _ _ _ (by decide), ea, ixn (by omega), if_pos (by cases h : sgn (nI c) with | true => rfl | false => exact absurd (hs.mpr h) c3)]
        exact ⟨vin (by omega) (by omega), _, rfl, nI_1 _, rfl⟩
    · rintro r ν ⟨rfl, rfl⟩
      exact ⟨_, rfl, rfl, rfl⟩
  · rintro r ν ⟨rfl, rfl⟩
    exact ⟨_, rfl, rfl, rfl⟩
end TP
