section TK2
variable {X : zX} {lv : Nat} {Post : Option Value → zM → Prop} {μ : zM} {n : Nat}
set_option maxHeartbeats 2000000 in
theorem tk_224 (hX : zOk X cX11_nextToken RX11 2 lv) (hr : zRt X none Post) (hlv : 0 < lv) (hn : n ≤ 1000) (en : μ.1 11 0 3 = nI n) {b : Nat}
    (K : ∀ ρ, frm tkP tkQ μ ρ → tkIs ρ b (if endS (μ.1 35 0) n dgt b - b ≤ 4 then 2 else 4, endS (μ.1 35 0) n dgt b, 0, nfS (μ.1 35 0) b (min (endS (μ.1 35 0) n dgt b - b) 4)) → Post none ρ) :
    ∀ k q (ν : zM), q + k = n → b ≤ q → frm tkP tkQ μ ν → ν.1 11 0 4 = nI q → ν.1 11 0 5 = nI b → ν.2 11 0 7 = 0 → ν.1 11 0 8 = nfS (μ.1 35 0) b (min (q - b) 4) → endS (μ.1 35 0) n dgt q = endS (μ.1 35 0) n dgt b → AW X 224 [some (.ref (X.G.ad 11 0)), none] [] ν := by
  intro k
  induction k with
  | zero =>
    intro q ν hq hb hf h4 h5 h7 h8 he
    have e3 : ν.1 11 0 3 = nI n := by rw [hf.1 11 0 3 rfl, en]
    have stop : endS (μ.1 35 0) n dgt b = q := by rw [← he, endS_stop (by omega)]
    have fin : ∀ t : Int32, t = (if q - b ≤ 4 then 2 else 4) → Post none (pI ν 11 0 6 t) := by
      intro t ht
      refine K _ (frm_I hf rfl _) ⟨?_, ?_, ?_, h7, ?_⟩
      · rw [pI_place _ _ _ _ (by decide), h5]
      · rw [pI_at, stop]; exact ht
      · rw [pI_place _ _ _ _ (by decide), h4, stop]
      · rw [pI_place _ _ _ _ (by decide), h8, stop]
    refine st_X11_nextToken_224 hX hr ?_
    rw [h4]
    refine ⟨0, _, hlv, cr_signAt e3 hn (by omega), ?_⟩
    rintro r μ' ⟨rfl, rfl⟩
    rw [if_neg (by omega)]
    refine ⟨fun _ => ?_, fun c => absurd (by decide) c⟩
    simp only [forall_eq, h4, h5, nI_subN hb]
    refine ⟨fun c2 => fin _ ?_, fun c2 => fin _ ?_⟩
    · rw [if_pos ((nI_leI (b := 4) (by omega) (by omega)).mp c2)]
    · rw [if_neg (fun h => c2 (nI_le (b := 4) h (by omega)))]
  | succ k ih =>
    intro q ν hq hb hf h4 h5 h7 h8 he
    have e3 : ν.1 11 0 3 = nI n := by rw [hf.1 11 0 3 rfl, en]
    have eT : ν.1 35 0 q = μ.1 35 0 q := hf.1 35 0 q rfl
    have fin : dgt (μ.1 35 0 q) = false → ∀ t : Int32, t = (if q - b ≤ 4 then 2 else 4) → Post none (pI ν 11 0 6 t) := by
      intro hl t ht
      have stop : endS (μ.1 35 0) n dgt b = q := by rw [← he, endS_stop (by rw [hl]; simp)]
      refine K _ (frm_I hf rfl _) ⟨?_, ?_, ?_, h7, ?_⟩
      · rw [pI_place _ _ _ _ (by decide), h5]
      · rw [pI_at, stop]; exact ht
      · rw [pI_place _ _ _ _ (by decide), h4, stop]
      · rw [pI_place _ _ _ _ (by decide), h8, stop]
    refine st_X11_nextToken_224 hX hr ?_
    rw [h4]
    refine ⟨0, _, hlv, cr_signAt e3 hn (by omega), ?_⟩
    rintro r μ' ⟨rfl, rfl⟩
    rw [if_pos (by omega), eT]
    refine ⟨fun c => ?_, fun c => ?_⟩
    · have hl : dgt (μ.1 35 0 q) = false := by rw [dgt, decide_eq_false (p := ¬ μ.1 35 0 q < 48) (fun h => h c)]; rfl
      simp only [forall_eq, h4, h5, nI_subN hb]
      refine ⟨fun c2 => fin hl _ ?_, fun c2 => fin hl _ ?_⟩
      · rw [if_pos ((nI_leI (b := 4) (by omega) (by omega)).mp c2)]
      · rw [if_neg (fun h => c2 (nI_le (b := 4) h (by omega)))]
    · rw [h4]
      refine ⟨0, _, hlv, cr_signAt e3 hn (by omega), ?_⟩
      rintro r μ' ⟨rfl, rfl⟩
      rw [if_pos (by omega), eT]
      refine ⟨fun c2 => ?_, fun c2 => ?_⟩
      · have hl : dgt (μ.1 35 0 q) = false := by rw [dgt, decide_eq_false (p := ¬ 57 < μ.1 35 0 q) (fun h => h c2), Bool.and_false]
        simp only [forall_eq, h4, h5, nI_subN hb]
        refine ⟨fun c3 => fin hl _ ?_, fun c3 => fin hl _ ?_⟩
        · rw [if_pos ((nI_leI (b := 4) (by omega) (by omega)).mp c3)]
        · rw [if_neg (fun h => c3 (nI_le (b := 4) h (by omega)))]
      · have hl : dgt (μ.1 35 0 q) = true := by rw [dgt, decide_eq_true c, decide_eq_true c2]; rfl
        have he' : endS (μ.1 35 0) n dgt (q + 1) = endS (μ.1 35 0) n dgt b := by rw [← endS_go (by omega) hl, he]
        simp only [forall_eq, h4, h5, nI_subN hb, nI_1]
        refine ⟨fun c3 => ?_, fun c3 => ?_⟩
        · have h8b : 4 ≤ q - b := (nI_leI (a := 4) (by omega) (by omega)).mp c3
          refine ih (q + 1) _ (by omega) (by omega) (frm_I hf rfl _) (pI_at _ _ _ _ _) ?_ h7 ?_ he'
          · rw [pI_place _ _ _ _ (by decide), h5]
          · rw [pI_place _ _ _ _ (by decide), h8]; congr 1; omega
        · have h8b : q - b < 4 := by
            rcases Nat.lt_or_ge (q - b) 4 with h | h
            · exact h
            · exact absurd (nI_le (a := 4) h (by omega)) c3
          refine ⟨0, _, hlv, cr_signAt e3 hn (by omega), ?_⟩
          rintro r μ' ⟨rfl, rfl⟩
          rw [if_pos (by omega), eT]
          try simp only [forall_eq]
          rw [pI_place _ _ _ _ (by decide), h4, nI_1]
          refine ih (q + 1) _ (by omega) (by omega) (frm_I (frm_I hf rfl _) rfl _) (pI_at _ _ _ _ _) ?_ h7 ?_ he'
          · rw [pI_place _ _ _ _ (by decide), pI_place _ _ _ _ (by decide), h5]
          · rw [pI_place _ _ _ _ (by decide), pI_at, h8]
            rw [show min (q + 1 - b) 4 = (q - b) + 1 by omega, show min (q - b) 4 = q - b by omega, nfS, show b + (q - b) = q by omega]
set_option maxHeartbeats 2000000 in
theorem tk_52 (hX : zOk X cX11_nextToken RX11 2 lv) (hr : zRt X none Post) (hlv : 0 < lv) (hn : n ≤ 1000) (en : μ.1 11 0 3 = nI n) {ν : zM} {b : Nat} (hb : b ≤ n) (hf : frm tkP tkQ μ ν) (h4 : ν.1 11 0 4 = nI b)
    (K : ∀ ρ, frm tkP tkQ μ ρ → tkIs ρ b (tAt (μ.1 35 0) n b) → Post none ρ) : AW X 52 [some (.ref (X.G.ad 11 0)), none] [] ν := by
  have e3 : ν.1 11 0 3 = nI n := by rw [hf.1 11 0 3 rfl, en]
  have eT : ∀ k, ν.1 35 0 k = μ.1 35 0 k := fun k => hf.1 35 0 k rfl
  refine st_X11_nextToken_52 hX hr ?_
  simp only [forall_eq]
  have g1 : frm tkP tkQ μ (pI (pL (pI ν 11 0 5 (ν.1 11 0 4)) 11 0 7 0) 11 0 8 0) := frm_I (frm_L (frm_I hf rfl _) rfl _) rfl _
  have g4 : (pI (pL (pI ν 11 0 5 (ν.1 11 0 4)) 11 0 7 0) 11 0 8 0).1 11 0 4 = nI b := by
    rw [pI_place _ _ _ _ (by decide), show (pL (pI ν 11 0 5 (ν.1 11 0 4)) 11 0 7 0).1 11 0 4 = (pI ν 11 0 5 (ν.1 11 0 4)).1 11 0 4 from rfl, pI_place _ _ _ _ (by decide), h4]
  have g5 : (pI (pL (pI ν 11 0 5 (ν.1 11 0 4)) 11 0 7 0) 11 0 8 0).1 11 0 5 = nI b := by
    rw [pI_place _ _ _ _ (by decide), show (pL (pI ν 11 0 5 (ν.1 11 0 4)) 11 0 7 0).1 11 0 5 = (pI ν 11 0 5 (ν.1 11 0 4)).1 11 0 5 from rfl, pI_at, h4]
  have g3 : (pI (pL (pI ν 11 0 5 (ν.1 11 0 4)) 11 0 7 0) 11 0 8 0).1 11 0 3 = nI n := by rw [g1.1 11 0 3 rfl, en]
  have g7 : (pI (pL (pI ν 11 0 5 (ν.1 11 0 4)) 11 0 7 0) 11 0 8 0).2 11 0 7 = 0 := by simp [pI, pL]
  have g8 : (pI (pL (pI ν 11 0 5 (ν.1 11 0 4)) 11 0 7 0) 11 0 8 0).1 11 0 8 = 0 := pI_at _ _ _ _ _
  have gT : ∀ k, (pI (pL (pI ν 11 0 5 (ν.1 11 0 4)) 11 0 7 0) 11 0 8 0).1 35 0 k = μ.1 35 0 k := fun k => g1.1 35 0 k rfl
  generalize pI (pL (pI ν 11 0 5 (ν.1 11 0 4)) 11 0 7 0) 11 0 8 0 = ρ at *
  rw [g4, g3]
  refine ⟨fun c => ?_, fun c => ?_⟩
  · have hlt : b < n := by
      rcases Nat.lt_or_ge b n with h | h
      · exact h
      · exact absurd (by rw [show b = n by omega]) c
    have hne : ¬ b = n := by omega
    rw [ixn (by omega), gT]
    have go322 : ltr (μ.1 35 0 b) = false → dgt (μ.1 35 0 b) = false → AW X 322 [some (.ref (X.G.ad 11 0)), some (.int (μ.1 35 0 b))] [] ρ := fun hl hd => tk_322 hX hr g4 g5 g7 g8 g1 (fun τ f i => K τ f (by rw [tAt, if_neg hne, hl, hd]; exact i))
    have go224 : ltr (μ.1 35 0 b) = false → dgt (μ.1 35 0 b) = true → AW X 224 [some (.ref (X.G.ad 11 0)), none] [] ρ := fun hl hd => tk_224 hX hr hlv hn en (fun τ f i => K τ f (by rw [tAt, if_neg hne, hl, hd]; exact i)) (n - b) b ρ (by omega) (Nat.le_refl _) g1 g4 g5 g7 (by rw [g8, Nat.sub_self]; rfl) rfl
    have go109 : ltr (μ.1 35 0 b) = true → AW X 109 [some (.ref (X.G.ad 11 0)), none] [] ρ := fun hl => tk_109 hX hr hlv hn en (fun τ f i => K τ f (by rw [tAt, if_neg hne, hl]; exact i)) (n - b) b ρ (by omega) (Nat.le_refl _) g1 g4 g5 (by rw [g7, Nat.sub_self]; rfl) g8 rfl
    refine ⟨vin (by omega) (by omega), fun c1 => ?_, fun c1 => ⟨fun c2 => ?_, fun c2 => ?_⟩⟩
    · have hl : ltr (μ.1 35 0 b) = false := by rw [ltr, decide_eq_false (p := ¬ μ.1 35 0 b < 97) (fun h => h c1)]; rfl
      refine ⟨fun c3 => go322 hl ?_, fun c3 => ⟨fun c4 => go322 hl ?_, fun c4 => go224 hl ?_⟩⟩
      · rw [dgt, decide_eq_false (p := ¬ μ.1 35 0 b < 48) (fun h => h c3)]; rfl
      · rw [dgt, decide_eq_false (p := ¬ 57 < μ.1 35 0 b) (fun h => h c4), Bool.and_false]
      · rw [dgt, decide_eq_true c3, decide_eq_true c4]; rfl
    · have hl : ltr (μ.1 35 0 b) = false := by rw [ltr, decide_eq_false (p := ¬ 122 < μ.1 35 0 b) (fun h => h c2), Bool.and_false]
      refine ⟨fun c3 => go322 hl ?_, fun c3 => ⟨fun c4 => go322 hl ?_, fun c4 => go224 hl ?_⟩⟩
      · rw [dgt, decide_eq_false (p := ¬ μ.1 35 0 b < 48) (fun h => h c3)]; rfl
      · rw [dgt, decide_eq_false (p := ¬ 57 < μ.1 35 0 b) (fun h => h c4), Bool.and_false]
      · rw [dgt, decide_eq_true c3, decide_eq_true c4]; rfl
    · exact go109 (by rw [ltr, decide_eq_true c1, decide_eq_true c2]; rfl)
  · have hbn : b = n := (nI_eq (by omega) (by omega)).mp c
    refine K _ (frm_I g1 rfl _) ?_
    rw [tAt, if_pos hbn]
    refine ⟨?_, ?_, ?_, ?_, ?_⟩
    · rw [pI_place _ _ _ _ (by decide), g5]
    · rw [pI_at]
    · rw [pI_place _ _ _ _ (by decide), g4, hbn]
    · exact g7
    · rw [pI_place _ _ _ _ (by decide), g8]
set_option maxHeartbeats 1000000 in
theorem tk_0 (hX : zOk X cX11_nextToken RX11 2 lv) (hr : zRt X none Post) (hlv : 0 < lv) (hn : n ≤ 1000) (en : μ.1 11 0 3 = nI n) {b : Nat}
    (K : ∀ ρ, frm tkP tkQ μ ρ → tkIs ρ b (tAt (μ.1 35 0) n b) → Post none ρ) :
    ∀ k q (ν : zM), q + k = n → frm tkP tkQ μ ν → ν.1 11 0 4 = nI q → tBg (μ.1 35 0) n q = b → AW X 0 [some (.ref (X.G.ad 11 0)), none] [] ν := by
  intro k
  induction k with
  | zero =>
    intro q ν hq hf h4 hb
    have e3 : ν.1 11 0 3 = nI n := by rw [hf.1 11 0 3 rfl, en]
    have : b = q := by rw [← hb, tBg, endS_stop (by omega)]
    subst this
    refine st_X11_nextToken_0 hX hr ⟨fun _ => tk_52 hX hr hlv hn en (by omega) hf h4 K, fun c => absurd ?_ c⟩
    rw [e3, h4]; exact nI_le (by omega) (by omega)
  | succ k ih =>
    intro q ν hq hf h4 hb
    have e3 : ν.1 11 0 3 = nI n := by rw [hf.1 11 0 3 rfl, en]
    refine st_X11_nextToken_0 hX hr ⟨fun c => absurd c ?_, fun _ => ?_⟩
    · rw [e3, h4]; exact nI_ge (by omega) (by omega)
    · simp only [forall_eq]
      rw [h4, ixn (by omega), hf.1 35 0 q rfl, nI_1]
      have more : blk (μ.1 35 0 q) = true → AW X 0 [some (.ref (X.G.ad 11 0)), none] [] (pI ν 11 0 4 (nI (q + 1))) := fun h => ih (q + 1) _ (by omega) (frm_I hf rfl _) (pI_at _ _ _ _ _) (by rw [← hb, tBg, tBg, endS_go (by omega) h])
      refine ⟨vin (by omega) (by omega), fun c => more (by rw [blk, decide_eq_true c]; rfl), fun c => ⟨fun c2 => ?_, fun c2 => more (by rw [blk, decide_eq_true c2, Bool.or_true])⟩⟩
      have : b = q := by
        rw [← hb, tBg, endS_stop]
        rintro ⟨-, h⟩
        rw [blk, decide_eq_false c, decide_eq_false c2] at h; cases h
      subst this
      exact tk_52 hX hr hlv hn en (by omega) hf h4 K
end TK2
/-- the reference reads the next token -/
theorem cr_nextToken {lc : Launch} {G : zG} {μ : zM} {n p : Nat} (hn : n ≤ 1000) (en : μ.1 11 0 3 = nI n) (hp : p ≤ n) (ep : μ.1 11 0 4 = nI p) :
    zCT lc G 1 yX11_nextToken cX11_nextToken 2 none [.ref (G.ad 11 0)] μ (zV fun μ' => frm tkP tkQ μ μ' ∧ tkIs μ' (tBg (μ.1 35 0) n p) (tAt (μ.1 35 0) n (tBg (μ.1 35 0) n p))) := by
  refine zCT_of (by decide) (Nat.le_of_ble_eq_true rfl) rfl (fun X hl0 hG hX hr => ?_)
  subst hG
  exact tk_0 hX hr (by omega) hn en (fun ρ f i => ⟨rfl, f, i⟩) (n - p) p μ (by omega) (frm.rf μ) ep rfl
