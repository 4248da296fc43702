/-! THE REFERENCE: worth, chance -/
def wrS (cu b : zB) (n l : Nat) : Nat → Int64
  | 0 => 0
  | i + 1 => wrS cu b n l i + (psS cu n i 1 b).1 * ((psS cu n i 1 b).2 5 l - b 5 l).toInt64
def chS (cu b : zB) (n l : Nat) : Nat → Int64
  | 0 => 0
  | i + 1 => chS cu b n l i + (if (psS cu n i 1 b).2 3 l ≤ 0 then 0 else (psS cu n i 1 b).1)
/-- the fraction's part that is asked, in lowest terms -/
def lowS (A k : Nat) (x : Int32) : Int64 := lN ((if x = 0 then A else 8 ^ k) / Nat.gcd A (8 ^ k))
theorem pow8 {k : Nat} (h : k ≤ 12) : 8 ^ k < 2 ^ 63 ∧ 0 < 8 ^ k := by
  refine ⟨Nat.lt_of_le_of_lt (Nat.pow_le_pow_right (by omega) h) (by decide), Nat.pow_pos (by omega)⟩
theorem pow2 {k : Nat} (h : k ≤ 12) : 2 ^ k ≤ 4096 ∧ 0 < 2 ^ k := ⟨Nat.le_trans (Nat.pow_le_pow_right (by omega) h) (by decide), Nat.pow_pos (by omega)⟩
section RW
variable {X : zX} {lv : Nat} {Post : Option Value → zM → Prop} {μ1 : zM} {s0 : Nat → Int32} {n l W A : Nat} {M : Int} {x3 : Int32}
set_option maxHeartbeats 2000000 in
theorem rw_53 (hX : zOk X cX11_worth RX11 9 lv) (hr : zRt X (some .long) Post) (hlv : 3 < lv) (hc : cOk (cuZ μ1)) (hl : l < 10) (hn : n ≤ 12) (hh : nHi (cuZ μ1) * n ≤ 12) (hW : W = 2 ^ (nHi (cuZ μ1) * n)) (e52 : μ1.1 11 0 52 = nI W) (ha : ∀ k, k < 64 → μ1.1 71 0 k = s0 k) (I : bI (bOf s0) M) (hM : M + 990 * n ≤ 999999) (hA : wrS (cuZ μ1) (bOf s0) n l W = lN A) (hA2 : A < 2 ^ 63)
    (K : ∀ s' m', bOf s' = bOf s0 → Post (some (.long (lowS A (nHi (cuZ μ1) * n) x3))) (putS μ1 s' m')) :
    ∀ k i s m, i + k = W → bOf s = bOf s0 → AW X 53 [some (.ref (X.G.ad 11 0)), some (.int (nI l)), some (.int (nI n)), some (.int x3), some (.long (wrS (cuZ μ1) (bOf s0) n l i)), none, some (.int (nI i)), none, none] [] (putS μ1 s m) := by
  have hw := pow2 hh
  have h8 := pow8 hh
  have eh : μ1.1 36 0 0 = nI (nHi (cuZ μ1)) := vof hc.1 (by omega)
  intro k
  induction k with
  | zero =>
    intro i s m hi hs
    have ei : i = W := by omega
    refine st_X11_worth_53 hX hr ⟨fun _ => ?_, fun q => absurd ?_ q⟩
    · refine ⟨0, _, by omega, cr_allOdds (h := nHi (cuZ μ1)) (by rw [pS_36]; exact eh) hh, ?_⟩
      rintro r μ' ⟨rfl, rfl⟩
      rw [ei, hA, p8_lN]
      refine ⟨1, _, by omega, cr_lowest hA2 h8.1 h8.2, ?_⟩
      rintro r μ' ⟨rfl, rfl⟩
      exact K s m hs
    · rw [pS_52f, e52]; exact nI_le (by omega) (by omega)
  | succ k ih =>
    intro i s m hi hs
    have e36 : ix (nI (36 + l)) = 36 + l := ixn (by omega)
    refine st_X11_worth_53 hX hr ⟨fun q => absurd q ?_, fun _ => ?_⟩
    · rw [pS_52f, e52]; exact nI_ge (by omega) (by omega)
    · refine ⟨3, _, hlv, cr_passes hc (by rw [hs]; exact I) hn hM (by omega), ?_⟩
      rintro r μ' ⟨rfl, s', m', rfl, h'⟩
      simp only [forall_eq, a36, e36, nI_1, pS70, pS_71]
      refine ⟨vin (by omega) (by omega), 0, _, by omega, cr_copies (a := 0) (b := 0) sh_71 (by decide) sh_70 (by decide) (by decide) (by omega) (by omega) (by omega) (by omega), ?_⟩
      rintro μ' rfl
      obtain ⟨s2, e2, h2⟩ := rs_copy (s := s') (m := m') ha
      rw [e2]
      have ih' := ih (i + 1) s2 m' (by omega) h2
      rw [wrS] at ih'
      rw [hs] at h' ⊢
      rw [show s' (36 + l) = (psS (cuZ μ1) n i 1 (bOf s0)).2 5 l by rw [← h', bOf5 hl], ha (36 + l) (by omega), ← bOf5 (s := s0) hl]
      exact ih'
set_option maxHeartbeats 2000000 in
theorem rc_53 (hX : zOk X cX11_chance RX11 9 lv) (hr : zRt X (some .long) Post) (hlv : 3 < lv) (hc : cOk (cuZ μ1)) (hl : l < 10) (hn : n ≤ 12) (hh : nHi (cuZ μ1) * n ≤ 12) (hW : W = 2 ^ (nHi (cuZ μ1) * n)) (e52 : μ1.1 11 0 52 = nI W) (ha : ∀ k, k < 64 → μ1.1 71 0 k = s0 k) (I : bI (bOf s0) M) (hM : M + 990 * n ≤ 999999) (hA : chS (cuZ μ1) (bOf s0) n l W = lN A) (hA2 : A < 2 ^ 63)
    (K : ∀ s' m', bOf s' = bOf s0 → Post (some (.long (lowS A (nHi (cuZ μ1) * n) x3))) (putS μ1 s' m')) :
    ∀ k i s m, i + k = W → bOf s = bOf s0 → AW X 53 [some (.ref (X.G.ad 11 0)), some (.int (nI l)), some (.int (nI n)), some (.int x3), some (.long (chS (cuZ μ1) (bOf s0) n l i)), none, some (.int (nI i)), none, none] [] (putS μ1 s m) := by
  have hw := pow2 hh
  have h8 := pow8 hh
  have eh : μ1.1 36 0 0 = nI (nHi (cuZ μ1)) := vof hc.1 (by omega)
  intro k
  induction k with
  | zero =>
    intro i s m hi hs
    have ei : i = W := by omega
    refine st_X11_chance_53 hX hr ⟨fun _ => ?_, fun q => absurd ?_ q⟩
    · refine ⟨0, _, by omega, cr_allOdds (h := nHi (cuZ μ1)) (by rw [pS_36]; exact eh) hh, ?_⟩
      rintro r μ' ⟨rfl, rfl⟩
      rw [ei, hA, p8_lN]
      refine ⟨1, _, by omega, cr_lowest hA2 h8.1 h8.2, ?_⟩
      rintro r μ' ⟨rfl, rfl⟩
      exact K s m hs
    · rw [pS_52f, e52]; exact nI_le (by omega) (by omega)
  | succ k ih =>
    intro i s m hi hs
    have e16 : ix (nI (16 + l)) = 16 + l := ixn (by omega)
    refine st_X11_chance_53 hX hr ⟨fun q => absurd q ?_, fun _ => ?_⟩
    · rw [pS_52f, e52]; exact nI_ge (by omega) (by omega)
    · refine ⟨3, _, hlv, cr_passes hc (by rw [hs]; exact I) hn hM (by omega), ?_⟩
      rintro r μ' ⟨rfl, s', m', rfl, h'⟩
      simp only [forall_eq, a16, e16, nI_1, pS70]
      rw [hs] at h' ⊢
      have e3 : s' (16 + l) = (psS (cuZ μ1) n i 1 (bOf s0)).2 3 l := by rw [← h', bOf3 hl]
      refine ⟨vin (by omega) (by omega), fun c => ⟨0, _, by omega, cr_copies (a := 0) (b := 0) sh_71 (by decide) sh_70 (by decide) (by decide) (by omega) (by omega) (by omega) (by omega), ?_⟩, fun c => ⟨0, _, by omega, cr_copies (a := 0) (b := 0) sh_71 (by decide) sh_70 (by decide) (by decide) (by omega) (by omega) (by omega) (by omega), ?_⟩⟩
      · rintro μ' rfl
        obtain ⟨s2, e2, h2⟩ := rs_copy (s := s') (m := m') ha
        rw [e2]
        have ih' := ih (i + 1) s2 m' (by omega) h2
        rw [chS, if_pos (by rw [← e3]; exact c)] at ih'
        exact ih'
      · rintro μ' rfl
        obtain ⟨s2, e2, h2⟩ := rs_copy (s := s') (m := m') ha
        rw [e2]
        have ih' := ih (i + 1) s2 m' (by omega) h2
        rw [chS, if_neg (by rw [← e3]; exact c)] at ih'
        exact ih'
end RW
/-- worth and chance of the reference: both refuse alike -/
def okS (cu : zB) (x1 x2 x3 : Int32) : Bool := inR x1 (cu 0 2) && (wthn x3 0 1 && ahS cu x2)
set_option maxHeartbeats 2000000 in
theorem cr_worth {lc : Launch} {G : zG} {μ : zM} {x1 x2 x3 : Int32} {M : Int} {A : Nat} (hc : cOk (cuZ μ)) (I : bI (bOf (μ.1 70 0)) M) (hM : M + 990 * 12 ≤ 999999) (hA : okS (cuZ μ) x1 x2 x3 = true → wrS (cuZ μ) (bOf (μ.1 70 0)) (ix x2) (ix x1) (2 ^ (nHi (cuZ μ) * ix x2)) = lN A ∧ A < 2 ^ 63) :
    zCT lc G 4 yX11_worth cX11_worth 9 (some .long) [.ref (G.ad 11 0), .int x1, .int x2, .int x3] μ (zJ fun r μ' => (okS (cuZ μ) x1 x2 x3 = false ∧ r = -1 ∧ μ' = thr μ 0) ∨ (okS (cuZ μ) x1 x2 x3 = true ∧ r = lowS A (nHi (cuZ μ) * ix x2) x3 ∧ ∃ s' m', bOf s' = bOf (μ.1 70 0) ∧ μ' = putS (ahM μ (2 ^ (nHi (cuZ μ) * ix x2))) s' m')) := by
  refine zCT_of (by decide) (Nat.le_of_ble_eq_true rfl) rfl (fun X hl0 hG hX hr => ?_)
  subst hG
  refine st_X11_worth_0 hX hr ?_
  simp only [forall_eq]
  refine ⟨0, _, by omega, cr_isLoan, ?_⟩
  rintro r μ' ⟨rfl, rfl⟩
  rw [pI_other _ _ _ _ _ _ (by decide)]
  refine ⟨fun c => ⟨_, rfl, Or.inl ⟨?_, rfl, rfl⟩⟩, fun c => ⟨0, _, by omega, cr_within, ?_⟩⟩
  · rw [okS, cz02, b2i0.mp c]; rfl
  · rintro r μ' ⟨rfl, rfl⟩
    refine ⟨fun c2 => ⟨_, rfl, Or.inl ⟨?_, rfl, rfl⟩⟩, fun c2 => ⟨1, _, by omega, cr_isAhead (by rw [cuZ_pI11]; exact hc), ?_⟩⟩
    · rw [okS, b2i0.mp c2, Bool.false_and, Bool.and_false]
    · rw [cuZ_pI11]
      rintro r μ' (⟨h1, rfl, rfl⟩ | ⟨h1, rfl, n, rfl, n1, n12, hh, rfl⟩)
      · refine ⟨fun q => absurd rfl q, fun _ => ⟨_, rfl, Or.inl ⟨?_, rfl, rfl⟩⟩⟩
        rw [okS, h1, Bool.and_false, Bool.and_false]
      · refine ⟨fun _ => ⟨0, _, by omega, cr_copies (a := 0) (b := 0) sh_70 (by decide) sh_71 (by decide) (by decide) (by omega) (by omega) (by omega) (by omega), ?_⟩, fun q => absurd q (by decide)⟩
        rintro μ' rfl
        have hok : okS (cuZ μ) x1 (nI n) x3 = true := by
          rw [okS, show inR x1 (cuZ μ 0 2) = true from b2i1.mp c, b2i1.mp c2, h1]; rfl
        have en : ix (nI n) = n := ixn (by omega)
        obtain ⟨hA1, hA2⟩ := hA hok
        have hx := inR_vp (b2i1.mp c)
        have h10 : ix (μ.1 38 0 0) ≤ 10 := (cOk_n hc).1
        have ex := vof hx (by omega)
        have hlt := zix hx
        have em : pR (pI (pI μ 11 0 0 0) 11 0 52 (nI (2 ^ (nHi (cuZ μ) * n)))) 71 0 (va_cpy ((pI (pI μ 11 0 0 0) 11 0 52 (nI (2 ^ (nHi (cuZ μ) * n)))).1 70 0) ((pI (pI μ 11 0 0 0) 11 0 52 (nI (2 ^ (nHi (cuZ μ) * n)))).1 71 0) 0 0 64) = ahM μ (2 ^ (nHi (cuZ μ) * n)) := by
          rw [ahM, pI_row2 _ _ _ _ _ (by decide), pI_row2 _ _ _ _ _ (by decide), pI_row2 _ _ _ _ _ (by decide), pI_row2 _ _ _ _ _ (by decide)]
        rw [em]
        rw [en] at hA1
        have es := putS_self (ahM μ (2 ^ (nHi (cuZ μ) * n)))
        rw [← es, ex]
        refine rw_53 (s0 := μ.1 70 0) (M := M) (A := A) (W := 2 ^ (nHi (cuZ μ) * n)) hX hr (by omega) (by rw [ahM_cu]; exact hc) (by omega) n12 (by rw [ahM_cu]; exact hh) (by rw [ahM_cu]) (ahM_52 _ _) (fun k hk => ahM_71 μ _ k hk) I (by omega) (by rw [ahM_cu]; exact hA1) hA2 (fun s' m' h' => ?_) (2 ^ (nHi (cuZ μ) * n)) 0 _ _ (by omega) (by rw [ahM_70])
        rw [ahM_cu]
        refine ⟨_, rfl, Or.inr ⟨hok, by rw [en], s', m', h', by rw [en]⟩⟩
set_option maxHeartbeats 2000000 in
theorem cr_chance {lc : Launch} {G : zG} {μ : zM} {x1 x2 x3 : Int32} {M : Int} {A : Nat} (hc : cOk (cuZ μ)) (I : bI (bOf (μ.1 70 0)) M) (hM : M + 990 * 12 ≤ 999999) (hA : okS (cuZ μ) x1 x2 x3 = true → chS (cuZ μ) (bOf (μ.1 70 0)) (ix x2) (ix x1) (2 ^ (nHi (cuZ μ) * ix x2)) = lN A ∧ A < 2 ^ 63) :
    zCT lc G 4 yX11_chance cX11_chance 9 (some .long) [.ref (G.ad 11 0), .int x1, .int x2, .int x3] μ (zJ fun r μ' => (okS (cuZ μ) x1 x2 x3 = false ∧ r = -1 ∧ μ' = thr μ 0) ∨ (okS (cuZ μ) x1 x2 x3 = true ∧ r = lowS A (nHi (cuZ μ) * ix x2) x3 ∧ ∃ s' m', bOf s' = bOf (μ.1 70 0) ∧ μ' = putS (ahM μ (2 ^ (nHi (cuZ μ) * ix x2))) s' m')) := by
  refine zCT_of (by decide) (Nat.le_of_ble_eq_true rfl) rfl (fun X hl0 hG hX hr => ?_)
  subst hG
  refine st_X11_chance_0 hX hr ?_
  simp only [forall_eq]
  refine ⟨0, _, by omega, cr_isLoan, ?_⟩
  rintro r μ' ⟨rfl, rfl⟩
  rw [pI_other _ _ _ _ _ _ (by decide)]
  refine ⟨fun c => ⟨_, rfl, Or.inl ⟨?_, rfl, rfl⟩⟩, fun c => ⟨0, _, by omega, cr_within, ?_⟩⟩
  · rw [okS, cz02, b2i0.mp c]; rfl
  · rintro r μ' ⟨rfl, rfl⟩
    refine ⟨fun c2 => ⟨_, rfl, Or.inl ⟨?_, rfl, rfl⟩⟩, fun c2 => ⟨1, _, by omega, cr_isAhead (by rw [cuZ_pI11]; exact hc), ?_⟩⟩
    · rw [okS, b2i0.mp c2, Bool.false_and, Bool.and_false]
    · rw [cuZ_pI11]
      rintro r μ' (⟨h1, rfl, rfl⟩ | ⟨h1, rfl, n, rfl, n1, n12, hh, rfl⟩)
      · refine ⟨fun q => absurd rfl q, fun _ => ⟨_, rfl, Or.inl ⟨?_, rfl, rfl⟩⟩⟩
        rw [okS, h1, Bool.and_false, Bool.and_false]
      · refine ⟨fun _ => ⟨0, _, by omega, cr_copies (a := 0) (b := 0) sh_70 (by decide) sh_71 (by decide) (by decide) (by omega) (by omega) (by omega) (by omega), ?_⟩, fun q => absurd q (by decide)⟩
        rintro μ' rfl
        have hok : okS (cuZ μ) x1 (nI n) x3 = true := by
          rw [okS, show inR x1 (cuZ μ 0 2) = true from b2i1.mp c, b2i1.mp c2, h1]; rfl
        have en : ix (nI n) = n := ixn (by omega)
        obtain ⟨hA1, hA2⟩ := hA hok
        have hx := inR_vp (b2i1.mp c)
        have h10 : ix (μ.1 38 0 0) ≤ 10 := (cOk_n hc).1
        have ex := vof hx (by omega)
        have hlt := zix hx
        have em : pR (pI (pI μ 11 0 0 0) 11 0 52 (nI (2 ^ (nHi (cuZ μ) * n)))) 71 0 (va_cpy ((pI (pI μ 11 0 0 0) 11 0 52 (nI (2 ^ (nHi (cuZ μ) * n)))).1 70 0) ((pI (pI μ 11 0 0 0) 11 0 52 (nI (2 ^ (nHi (cuZ μ) * n)))).1 71 0) 0 0 64) = ahM μ (2 ^ (nHi (cuZ μ) * n)) := by
          rw [ahM, pI_row2 _ _ _ _ _ (by decide), pI_row2 _ _ _ _ _ (by decide), pI_row2 _ _ _ _ _ (by decide), pI_row2 _ _ _ _ _ (by decide)]
        rw [em]
        rw [en] at hA1
        have es := putS_self (ahM μ (2 ^ (nHi (cuZ μ) * n)))
        rw [← es, ex]
        refine rc_53 (s0 := μ.1 70 0) (M := M) (A := A) (W := 2 ^ (nHi (cuZ μ) * n)) hX hr (by omega) (by rw [ahM_cu]; exact hc) (by omega) n12 (by rw [ahM_cu]; exact hh) (by rw [ahM_cu]) (ahM_52 _ _) (fun k hk => ahM_71 μ _ k hk) I (by omega) (by rw [ahM_cu]; exact hA1) hA2 (fun s' m' h' => ?_) (2 ^ (nHi (cuZ μ) * n)) 0 _ _ (by omega) (by rw [ahM_70])
        rw [ahM_cu]
        refine ⟨_, rfl, Or.inr ⟨hok, by rw [en], s', m', h', by rw [en]⟩⟩
