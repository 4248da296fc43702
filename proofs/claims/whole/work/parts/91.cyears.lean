/-! THE CLASS'S YEARS -/
theorem nI_lor {a b n : Nat} (ha : a < 2 ^ n) (hb : b < 2 ^ n) : a ||| b < 2 ^ n := Nat.or_lt_two_pow ha hb
theorem ruin_small {cu b : zB} (hk : cOk cu) : ∀ n, n ≤ nLo cu → ∃ k, k < 64 ∧ ruinS cu b n = nI k
  | 0, _ => ⟨0, by omega, rfl⟩
  | n + 1, hn => by
    obtain ⟨k, hk1, e⟩ := ruin_small (b := b) hk n (by omega)
    obtain ⟨-, v5, -, -, -⟩ := hk.2.2.2.2 n (by omega)
    have n6 := (cOk_n hk).2.1
    simp only [ruinS]
    rw [e]
    split
    · obtain ⟨j, hj, e5⟩ := vp_in_of v5 (by omega)
      rw [e5, sh1 (by omega), nI_or]
      exact ⟨k ||| 2 ^ j, nI_lor (n := 6) hk1 (Nat.pow_lt_pow_right (by omega) (by omega)), rfl⟩
    · exact ⟨k, hk1, by rw [Int32.or_zero]⟩
def yM (μ : zM) (f : Nat → Int32) (g : Int64) : zM := pL (pR μ 9 0 f) 9 0 4 g
theorem yM_I (μ : zM) (f : Nat → Int32) (g : Int64) (k : Nat) (v : Int32) : pI (yM μ f g) 9 0 k v = yM μ (upd f k v) g := by
  refine Prod.ext ?_ rfl
  funext a b c
  simp only [yM, pI, pR, pL, upd]
  by_cases h : a = 9 ∧ b = 0
  · obtain ⟨rfl, rfl⟩ := h
    by_cases hc : c = k
    · simp [hc, upd_eq]
    · simp [hc, upd_eq]
  · by_cases h2 : a = 9 ∧ b = 0 ∧ c = k
    · exact absurd ⟨h2.1, h2.2.1⟩ h
    · rw [if_neg h2, if_neg h, if_neg h]
theorem yM_L (μ : zM) (f : Nat → Int32) (g g' : Int64) : pL (yM μ f g) 9 0 4 g' = yM μ f g' := by
  refine Prod.ext rfl ?_
  funext a b c
  simp only [yM, pL, pR]
  split <;> rfl
theorem yM_self (μ : zM) : yM μ (μ.1 9 0) (μ.2 9 0 4) = μ := by
  unfold yM
  rw [pR_self]
  refine Prod.ext rfl ?_
  funext a b c
  simp only [pL]
  split
  · rename_i h; rw [h.1, h.2.1, h.2.2]
  · rfl
theorem yM_9 (μ : zM) (f : Nat → Int32) (g : Int64) (k : Nat) : (yM μ f g).1 9 0 k = f k := by simp [yM, pL, pR]
theorem yM_4 (μ : zM) (f : Nat → Int32) (g : Int64) : (yM μ f g).2 9 0 4 = g := by simp [yM, pL]
theorem yM_o (μ : zM) (f : Nat → Int32) (g : Int64) {κ : Nat} (h : κ ≠ 9) (o : Nat) : (yM μ f g).1 κ o = μ.1 κ o := by
  funext k
  simp [yM, pL, pR, h]
theorem yM_B (μ : zM) (f : Nat → Int32) (g : Int64) (o : Nat) (b : zB) : yM (putB μ o b) f g = putB (yM μ f g) o b := by
  refine Prod.ext ?_ rfl
  funext a q c
  by_cases h : a = 9
  · subst h
    rw [pBx _ _ _ rfl]
    by_cases hq : q = 0
    · subst hq; rw [yM_9, yM_9]
    · simp only [yM, pL, pR]
      rw [if_neg (fun z => hq z.2), if_neg (fun z => hq z.2), pBx _ _ _ rfl]
  · rw [yM_o _ _ _ h]
    by_cases hq : q = o
    · subst hq
      cases hb : bKind a
      · rw [pBx _ _ _ hb, pBx _ _ _ hb, yM_o _ _ _ h]
      · simp only [bKind, Bool.or_eq_true, beq_iff_eq] at hb
        rcases hb with ((((rfl | rfl) | rfl) | rfl) | rfl) | rfl <;> simp [putB]
    · rw [pBo _ _ _ hq, pBo _ _ _ hq, yM_o _ _ _ h]
theorem cR_yM {cu : zB} {μ : zM} {c : Nat} {f : Nat → Int32} {g : Int64} : cR cu (yM μ f g) c ↔ cR cu μ c := by
  simp only [cR, yM_o _ _ _ (show 2 ≠ 9 by decide), yM_o _ _ _ (show 7 ≠ 9 by decide), yM_o _ _ _ (show 19 ≠ 9 by decide), yM_o _ _ _ (show 20 ≠ 9 by decide), yM_o _ _ _ (show 21 ≠ 9 by decide), yM_o _ _ _ (show 23 ≠ 9 by decide), yM_o _ _ _ (show 24 ≠ 9 by decide)]
section CY
variable {l : Launch} {G : zG} {μ : zM} {c : Nat} {cu : zB}
theorem cy_draw {f : Nat → Int32} {g : Int64} : zCT l G 0 yX9_drawBelow8 cX9_drawBelow8 1 (some .int) [.ref (G.ad 9 0)] (yM μ f g) (zI fun r μ' => r = drV (drG g) ∧ μ' = yM μ f (drG g)) := by
  refine zCT_of (by decide) (Nat.le_of_ble_eq_true rfl) rfl (fun X hl hG hX hr => ?_)
  subst hG
  refine st_X9_drawBelow8_0 hX hr ⟨by decide, ?_⟩
  simp only [forall_eq, yM_4, yM_L]
  refine ⟨by decide, by decide, _, rfl, ?_, rfl⟩
  rfl
theorem cy_weather (hc : c < 6) (hk : cOk cu) (hR : cR cu μ c) {f : Nat → Int32} {g : Int64} {last : Int32} :
    zCT l G 1 yX9_drawWeather cX9_drawWeather 5 (some .int) [.ref (G.ad 9 0), .ref (G.ad 2 c), .int last] (yM μ f g) (zI fun r μ' => r = (dwS cu last (nHi cu) g).2 ∧ μ' = yM μ f (dwS cu last (nHi cu) g).1) := by
  refine zCT_of (by decide) (Nat.le_of_ble_eq_true rfl) rfl (fun X hl hG hX hr => ?_)
  subst hG
  have hh : vp_in (cu 0 0) 5 := hk.1
  have n4 := (cOk_n hk).2.2
  have en : nHi cu = ix (cu 0 0) := rfl
  have go : ∀ k i, i + k = nHi cu → AW X 5 [some (.ref (X.G.ad 9 0)), some (.ref (X.G.ad 2 c)), some (.int last), some (.int (dwS cu last i g).2), some (.int (nI i))] [] (yM μ f (dwS cu last i g).1) := by
    intro k
    induction k with
    | zero =>
      intro i hi
      refine st_X9_drawWeather_5 hX hr hc ⟨fun _ => ⟨_, rfl, by rw [show i = nHi cu by omega], by rw [show i = nHi cu by omega]⟩, fun q => absurd ?_ q⟩
      rw [yM_o _ _ _ (by decide), hR.1.1]; exact (vle hh (by omega) (by omega)).mpr (by omega)
    | succ k ih =>
      intro i hi
      have I := ih (i + 1) (by omega)
      simp only [dwS] at I
      refine st_X9_drawWeather_5 hX hr hc ⟨fun q => absurd q ?_, fun _ => ?_⟩
      · rw [yM_o _ _ _ (by decide), hR.1.1]; intro q
        have := (vle hh (by omega) (by omega)).mp q
        omega
      · refine ⟨0, _, by omega, cy_draw, ?_⟩
        rintro r μ' ⟨rfl, rfl⟩
        refine ⟨0, _, by omega, cc_oddsOfRain (cR_yM.mpr hR) hc (i := i) (by omega) (by omega), ?_⟩
        rintro r μ' ⟨rfl, rfl⟩
        simp only [forall_eq, nI_1]
        refine ⟨fun q => ?_, fun q => ?_⟩
        · rw [if_pos q, Int32.or_zero] at I; exact I
        · rw [if_neg q] at I; exact I
  exact st_X9_drawWeather_0 hX hr hc (go (nHi cu) 0 (by omega))
end CY
/-! what stays true of a book from day to day -/
def LI1 (cu b : zB) (l : Nat) : Prop := (b 3 l = 0 ∨ b 3 l = 1 ∨ b 3 l = 2) ∧ (b 3 l = 0 → ¬ cu 8 l ≤ b 4 l)
theorem LI1_same {cu b d : zB} {l : Nat} (h : LI1 cu b l) (h3 : d 3 l = b 3 l) (h4 : d 4 l = b 4 l) : LI1 cu d l := by unfold LI1; rw [h3, h4]; exact h
theorem due_LI {cu : zB} {w : Int32} {l : Nat} {b : zB} (h : LI1 cu b l) : LI1 cu (due cu w l b) l := by
  unfold due
  split
  · exact h
  · have e3 : du1 cu w l b 3 l = b 3 l := by
      unfold du1
      split
      · show bU (bU b 4 l _) 2 l _ 3 l = _
        rw [bU_ne _ _ (by omega), bU_ne _ _ (by omega)]
      · rfl
    generalize du1 cu w l b = x at e3
    unfold du2
    split
    · refine ⟨Or.inr (Or.inl (bU_at _ _ _ _)), fun q => ?_⟩
      rw [bU_at] at q; exact absurd q (by decide)
    · rename_i hn
      exact ⟨by rw [e3]; exact h.1, fun _ q => hn (Or.inl q)⟩
theorem fdue_LI {cu : zB} {w : Int32} {b : zB} (h : LI cu b) : ∀ n l, n ≤ nLo cu → l < nLo cu → LI1 cu (fd (due cu w) n b) l
  | 0, l, _, hl => h l hl
  | n + 1, l, hn, hl => by
    have ih := fdue_LI (w := w) h n l (by omega) hl
    show LI1 cu (due cu w n (fd (due cu w) n b)) l
    by_cases e : l = n
    · subst e; exact due_LI ih
    · exact LI1_same ih (due_at e) (due_at e)
theorem fd_LI {cu : zB} {f : Nat → zB → zB} (hf : ∀ i b l, LI1 cu b l → LI1 cu (f i b) l) {b : zB} {l : Nat} (h : LI1 cu b l) : ∀ n, LI1 cu (fd f n b) l
  | 0 => h
  | n + 1 => hf n _ l (fd_LI hf h n)
theorem jnd_LI {cu : zB} (i : Nat) (b : zB) (l : Nat) (h : LI1 cu b l) : LI1 cu (jnd cu i b) l := by
  unfold jnd
  split
  · by_cases e : l = i
    · subst e
      refine ⟨Or.inr (Or.inl (bU_at _ _ _ _)), fun q => ?_⟩
      rw [bU_at] at q; exact absurd q (by decide)
    · exact LI1_same h (bU_ne _ _ (by omega)) (bU_ne _ _ (by omega))
  · exact h
theorem cls_LI {cu : zB} (i : Nat) (b : zB) (l : Nat) (h : LI1 cu b l) : LI1 cu (cls i b) l := by
  unfold cls
  split
  · by_cases e : l = i
    · subst e
      refine ⟨Or.inr (Or.inr (bU_at _ _ _ _)), fun q => ?_⟩
      rw [bU_at] at q; exact absurd q (by decide)
    · exact LI1_same h (bU_ne _ _ (by omega)) (bU_ne _ _ (by omega))
  · exact h
theorem tkD_34 (b : zB) (l g d : Nat) (v : Int32) (k : Nat) : tkD b l g d v 3 k = b 3 k ∧ tkD b l g d v 4 k = b 4 k ∧ tkD b l g d v 6 k = b 6 k := by
  refine ⟨?_, ?_, ?_⟩
  · show bU (bU (bU (bU b 1 g _) 1 d _) 2 l _) 5 l _ 3 k = _
    rw [bU_ne _ _ (by omega), bU_ne _ _ (by omega), bU_ne _ _ (by omega), bU_ne _ _ (by omega)]
  · show bU (bU (bU (bU b 1 g _) 1 d _) 2 l _) 5 l _ 4 k = _
    rw [bU_ne _ _ (by omega), bU_ne _ _ (by omega), bU_ne _ _ (by omega), bU_ne _ _ (by omega)]
  · show bU (bU (bU (bU b 1 g _) 1 d _) 2 l _) 5 l _ 6 k = _
    rw [bU_ne _ _ (by omega), bU_ne _ _ (by omega), bU_ne _ _ (by omega), bU_ne _ _ (by omega)]
theorem trn_LI {cu : zB} {w : Int32} (i : Nat) (b : zB) (l : Nat) (h : LI1 cu b l) : LI1 cu (trn cu w i b) l := by
  unfold trn
  split
  · exact h
  · dsimp only
    obtain ⟨a3, a4, -⟩ := tkD_34 b i (ix (cu 5 i)) (ix (cu 4 i)) (tkC b i (ix (cu 5 i))) l
    have h1 := LI1_same h a3 a4
    split
    · exact h1
    · obtain ⟨b3, b4, -⟩ := tkD_34 (tkD b i (ix (cu 5 i)) (ix (cu 4 i)) (tkC b i (ix (cu 5 i)))) i (ix (cu 11 i)) (ix (cu 4 i)) (tkC (tkD b i (ix (cu 5 i)) (ix (cu 4 i)) (tkC b i (ix (cu 5 i)))) i (ix (cu 11 i))) l
      exact LI1_same h1 b3 b4
theorem live_LI {cu : zB} {w : Int32} {b : zB} (h : LI cu b) : LI cu (live cu w b) := by
  intro l hl
  obtain ⟨r1, -, -, -⟩ := live_rows cu w b
  refine LI1_same (b := liveI cu w b) ?_ (by rw [r1 3 (by decide)]) (by rw [r1 4 (by decide)])
  unfold liveI
  refine fd_LI cls_LI ?_ _
  refine itr_inv (P := fun x => LI1 cu x l) (fun x hx => fd_LI (f := trn cu w) trn_LI hx _) _ _ ?_
  unfold called
  have h1 : LI1 cu (fall cu w b) l := fd_LI jnd_LI (fdue_LI h (nLo cu) l (Nat.le_refl _) hl) _
  exact LI1_same h1 (by rw [called_at, if_neg (by omega)]) (by rw [called_at, if_neg (by omega)])
theorem pay_LI {cu : zB} {i : Nat} {b : zB} (h : LI cu b) : LI cu (payS cu i b) := by
  intro l hl
  unfold payS
  obtain ⟨a3, a4, -⟩ := tkD_34 b i (ix (cu 5 i)) (ix (cu 4 i)) (tkC b i (ix (cu 5 i))) l
  by_cases e : l = i
  · subst e
    refine ⟨Or.inr (Or.inr (bU_at _ _ _ _)), fun q => ?_⟩
    rw [bU_at] at q; exact absurd q (by decide)
  · exact LI1_same (h l hl) (by rw [bU_ne _ _ (by omega)]; exact a3) (by rw [bU_ne _ _ (by omega)]; exact a4)
theorem yd_ok {cu : zB} (hk : cOk cu) {b : zB} {M : Int} (I : bI b M) (L : LI cu b) (g : Int64) : ∀ d : Nat, M + 990 * (d : Int) ≤ 999999 → bI (ydS cu d g b).2 (M + 990 * (d : Int)) ∧ LI cu (ydS cu d g b).2
  | 0, _ => ⟨bI_mono I (by omega), L⟩
  | d + 1, h => by
    obtain ⟨i1, l1⟩ := yd_ok hk I L g d (by omega)
    simp only [ydS]
    exact ⟨bI_mono (live_inv hk i1 (by omega)).2 (by omega), live_LI l1⟩
section CY2
variable {l : Launch} {G : zG} {μ : zM} {c : Nat} {cu : zB}
/-- what the class sums up over years -/
def yrS (cu b : zB) (seed : Int64) (f0 : Nat → Int32) : Nat → Int64 × (Nat → Int32)
  | 0 => (seed, f0)
  | y + 1 =>
    let p := yrS cu b seed f0 y
    let e := ydS cu 60 p.1 b
    (e.1, upd (upd (upd (upd p.2 0 (p.2 0 + cntS e.2 2 (nLo cu))) 1 (p.2 1 + cdS e.2 (nLo cu))) 2 (p.2 2 + (e.2 0 1 - b 0 1))) 3 (p.2 3 + BCX (ruinS cu e.2 (nLo cu))))

theorem bR_44 (μ : zM) (f : Nat → Int32) (g : Int64) (o : Nat) : getB (yM μ f g) o = getB μ o := by
  funext j k
  unfold getB
  split <;> first | rfl | (rw [yM_o _ _ _ (by decide)])
set_option maxHeartbeats 2000000 in
theorem cy_47 {X : zX} {lv : Nat} {Post : Option Value → zM → Prop} (hX : zOk X cX9_drawAll RX9 7 lv) (hr : zRt X none Post) (hlv : 2 < lv) (hc : c < 6) (hk : cOk cu) (hR : cR cu μ c) {b : zB} {M : Int} (I : bI b M) (L : LI cu b) (hM : M + 59400 ≤ 999999) (hn : μ.1 1 0 1 = b 0 1) {f : Nat → Int32} {g : Int64} {x4 x5 : Int32}
    (K : ∀ ν, AW X 29 [some (.ref (X.G.ad 9 0)), some (.ref (X.G.ad 2 c)), some (.ref (X.G.ad 1 0)), none, some (.int x4), some (.int (x5 + 1)), none] [] (yM (putB μ 44 ν) (upd (upd (upd (upd f 0 (f 0 + cntS (ydS cu 60 g b).2 2 (nLo cu))) 1 (f 1 + cdS (ydS cu 60 g b).2 (nLo cu))) 2 (f 2 + ((ydS cu 60 g b).2 0 1 - b 0 1))) 3 (f 3 + BCX (ruinS cu (ydS cu 60 g b).2 (nLo cu)))) (ydS cu 60 g b).1)) :
    ∀ k i ν, i + k = 60 → bR cu ν (ydS cu i g b).2 → AW X 47 [some (.ref (X.G.ad 9 0)), some (.ref (X.G.ad 2 c)), some (.ref (X.G.ad 1 0)), none, some (.int x4), some (.int x5), some (.int (nI i))] [] (yM (putB μ 44 ν) f (ydS cu i g b).1) := by
  have hR2 : ∀ f g, cR cu (yM μ f g) c := fun f g => cR_yM.mpr hR
  intro k
  induction k with
  | zero =>
    intro i ν hi hb
    have ei : i = 60 := by omega
    subst ei
    generalize ydS cu 60 g b = e at *
    refine st_X9_drawAll_47 hX hr hc (by omega) ⟨fun _ => ?_, fun q => absurd (nI_le (a := 60) (b := 60) (by omega) (by omega)) q⟩
    simp only [yM_B]
    refine ⟨0, _, by omega, cb_loansAt (by omega) hc hk (hR2 _ _) hb, ?_⟩
    rintro r μ' ⟨rfl, rfl⟩
    simp only [forall_eq, ← yM_B, yM_9, yM_I]
    rw [yM_B]
    refine ⟨0, _, by omega, cb_coinsDue (by omega) hc hk (hR2 _ _) hb, ?_⟩
    rintro r μ' ⟨rfl, rfl⟩
    simp only [forall_eq, ← yM_B, yM_9, yM_I]
    have r44 : ∀ f : Nat → Int32, (yM (putB μ 44 ν) f e.1).1 1 44 1 = e.2 0 1 := fun f => by rw [yM_o _ _ _ (by decide), pB0]; exact hb.2.2.1
    have r0 : ∀ f : Nat → Int32, (yM (putB μ 44 ν) f e.1).1 1 0 1 = b 0 1 := fun f => by rw [yM_o _ _ _ (by decide), pBo _ _ _ (by decide)]; exact hn
    simp only [r44, r0]
    rw [yM_B]
    refine ⟨1, _, by omega, cb_broken (by omega) hc hk (hR2 _ _) hb, ?_⟩
    rintro r μ' ⟨rfl, rfl⟩
    obtain ⟨k, hk64, ek⟩ := ruin_small (b := e.2) hk (nLo cu) (Nat.le_refl _)
    rw [ek]
    refine ⟨0, _, by omega, cj_bits hk64, ?_⟩
    rintro r μ' ⟨rfl, rfl⟩
    simp only [forall_eq, ← yM_B, yM_9, yM_I]
    have := K ν
    rw [ek, BCX_ok k hk64] at this
    simp only [upd_eq] at this ⊢
    exact this
  | succ k ih =>
    intro i ν hi hb
    refine st_X9_drawAll_47 hX hr hc (by omega) ⟨fun q => absurd ((nI_leI (a := 60) (b := i) (by omega) (by omega)).mp q) (by omega), fun _ => ?_⟩
    have r44 : (yM (putB μ 44 ν) f (ydS cu i g b).1).1 1 44 2 = (ydS cu i g b).2 0 2 := by rw [yM_o _ _ _ (by decide), pB0]; exact hb.2.2.2
    rw [r44]
    refine ⟨1, _, by omega, cy_weather hc hk (cR_pB hR), ?_⟩
    rintro r μ' ⟨rfl, rfl⟩
    obtain ⟨i1, l1⟩ := yd_ok hk I L g i (by omega)
    rw [yM_B]
    refine ⟨2, _, by omega, cb_live (by omega) hc hk (hR2 _ _) hb l1 (live_inv hk i1 (by omega)).1, ?_⟩
    rintro μ' ⟨ν', rfl, hb'⟩
    simp only [forall_eq, nI_1, ← yM_B]
    exact ih (i + 1) ν' (by omega) hb'
set_option maxHeartbeats 2000000 in
theorem cy_29 {X : zX} {lv : Nat} {Post : Option Value → zM → Prop} (hX : zOk X cX9_drawAll RX9 7 lv) (hr : zRt X none Post) (hlv : 2 < lv) (hc : c < 6) (hk : cOk cu) (hR : cR cu μ c) {b : zB} {M : Int} (I : bI b M) (L : LI cu b) (hM : M + 59400 ≤ 999999) (hb : bR cu (getB μ 0) b) {y : Nat} (hy : y ≤ 20) {sd : Int64} {f0 : Nat → Int32}
    (K : ∀ ν, Post none (yM (putB μ 44 ν) (yrS cu b sd f0 y).2 (yrS cu b sd f0 y).1)) :
    ∀ k i ν, i + k = y → AW X 29 [some (.ref (X.G.ad 9 0)), some (.ref (X.G.ad 2 c)), some (.ref (X.G.ad 1 0)), none, some (.int (nI y)), some (.int (nI i)), none] [] (yM (putB μ 44 ν) (yrS cu b sd f0 i).2 (yrS cu b sd f0 i).1) := by
  intro k
  induction k with
  | zero =>
    intro i ν hi
    have ei : i = y := by omega
    subst ei
    exact st_X9_drawAll_29 hX hr hc (by omega) ⟨fun _ => K ν, fun q => absurd (nI_le (a := i) (b := i) (by omega) (by omega)) q⟩
  | succ k ih =>
    intro i ν hi
    refine st_X9_drawAll_29 hX hr hc (by omega) ⟨fun q => absurd ((nI_leI (a := y) (b := i) (by omega) (by omega)).mp q) (by omega), fun _ => ?_⟩
    rw [yM_B]
    refine ⟨1, _, by omega, cb_copy (by omega) (by omega) (by omega), ?_⟩
    rintro μ' ⟨ν', rfl, hν⟩
    rw [bR_44] at hν
    rw [← yM_B]
    refine cy_47 hX hr hlv hc hk hR I L hM hb.2.2.1 (fun ν'' => ?_) 60 0 ν' (by omega) (bR_eqB hk hb hν)
    have := ih (i + 1) ν'' (by omega)
    simp only [yrS] at this
    rw [nI_1]
    exact this
theorem cy_all (hc : c < 6) (hk : cOk cu) (hR : cR cu μ c) {b : zB} {M : Int} (I : bI b M) (L : LI cu b) (hM : M + 59400 ≤ 999999) (hb : bR cu (getB μ 0) b) {y : Nat} (hy : y ≤ 20) {x : Int32} :
    zCT l G 3 yX9_drawAll cX9_drawAll 7 none [.ref (G.ad 9 0), .ref (G.ad 2 c), .ref (G.ad 1 0), .int x, .int (nI y)] μ (zV fun μ' => ∃ ν f0, (∀ k, k < 4 → f0 k = 0) ∧ μ' = yM (putB μ 44 ν) (yrS cu b x.toInt64 f0 y).2 (yrS cu b x.toInt64 f0 y).1) := by
  refine zCT_of (by decide) (Nat.le_of_ble_eq_true rfl) rfl (fun X hl hG hX hr => ?_)
  subst hG
  refine st_X9_drawAll_0 hX hr hc (by omega) ?_
  simp only [forall_eq]
  have e1 : pL μ 9 0 4 x.toInt64 = yM (putB μ 44 (getB μ 44)) (μ.1 9 0) x.toInt64 := by rw [putB_getB, yM, pR_self]
  rw [e1]
  simp only [yM_I]
  exact cy_29 hX hr (by omega) hc hk hR I L hM hb hy (fun ν => ⟨rfl, ν, _, (fun k hk4 => by
    have : k = 0 ∨ k = 1 ∨ k = 2 ∨ k = 3 := by omega
    rcases this with rfl | rfl | rfl | rfl <;> rfl), rfl⟩) y 0 (getB μ 44) (by omega)
end CY2
