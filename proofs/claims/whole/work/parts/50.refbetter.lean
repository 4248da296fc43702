/-! THE REFERENCE: better, fits, fit -/
def btS (cu b : zB) (n l W : Nat) : Nat → Int64
  | 0 => 0
  | i + 1 => btS cu b n l W i + (if i < W then (-(psS cu n i 1 b).1) * ((psS cu n i 1 b).2 1 (ix (cu 5 l))).toInt64 else (psS cu n (i - W) 1 (payS cu l b)).1 * ((psS cu n (i - W) 1 (payS cu l b)).2 1 (ix (cu 5 l))).toInt64)
def sgS (x : Int64) : Int32 := if x ≤ 0 then (if 0 ≤ x then 0 else -1) else 1
theorem pay_inv {cu : zB} (hc : cOk cu) {l : Nat} (hl : l < nLo cu) {b : zB} {M : Int} (I : bI b M) (hM : M ≤ 999999) : bI (payS cu l b) M := by
  obtain ⟨h10, h4, h5, -, -, -⟩ := cOk_at hc hl
  obtain ⟨J, o, v, -⟩ := tk_inv h10 (zix h5) (zix h4) (bI_inv I hM)
  have h : bI (tkD b l (ix (cu 5 l)) (ix (cu 4 l)) (tkC b l (ix (cu 5 l)))) M := ⟨J.1, J.2.1, J.2.2.1, by have := I.2.2.2; omega⟩
  exact bI_same h (bU_row (by decide)) (bU_row (by decide))
section RB
variable {X : zX} {lv : Nat} {Post : Option Value → zM → Prop} {μ1 : zM} {s0 : Nat → Int32} {n l W : Nat} {M : Int}
set_option maxHeartbeats 2000000 in
theorem rb_42 (hX : zOk X cX11_better RX11 9 lv) (hr : zRt X (some .int) Post) (hlv : 3 < lv) (hc : cOk (cuZ μ1)) (hl : l < nLo (cuZ μ1)) (hn : n ≤ 12) (hW0 : 0 < W) (hW : W ≤ 4096) (e52 : μ1.1 11 0 52 = nI W) (ha : ∀ k, k < 64 → μ1.1 71 0 k = s0 k) (I : bI (bOf s0) M) (hM : M + 990 * n ≤ 999999)
    (K : ∀ s' m', bOf s' = bOf s0 → Post (some (.int (sgS (btS (cuZ μ1) (bOf s0) n l W (2 * W))))) (putS μ1 s' m')) :
    ∀ k i s m, i + k = 2 * W → bOf s = bOf s0 → AW X 42 [some (.ref (X.G.ad 11 0)), some (.int (nI l)), some (.int (nI n)), some (.long (btS (cuZ μ1) (bOf s0) n l W i)), none, some (.int (nI i)), none, none, none] [] (putS μ1 s m) := by
  obtain ⟨h10, h4, h5, -, -, -⟩ := cOk_at hc hl
  have g5 := zix h5
  have el : ix (nI l) = l := ixn (by omega)
  have e2 : (2 : Int32) * nI W = nI (2 * W) := nI_mul 2 W
  intro k
  induction k with
  | zero =>
    intro i s m hi hs
    have ei : i = 2 * W := by omega
    refine st_X11_better_42 hX hr ⟨fun _ => ⟨fun c => ⟨fun c2 => ?_, fun c2 => ?_⟩, fun c => ?_⟩, fun q => absurd ?_ q⟩
    · have := K s m hs
      rw [sgS, if_pos ((lg_cmp_le _ _).mp (by rw [← ei]; exact c)), if_pos ((lg_cmp_ge _ _).mp (by rw [← ei]; exact c2))] at this
      exact this
    · have := K s m hs
      rw [sgS, if_pos ((lg_cmp_le _ _).mp (by rw [← ei]; exact c)), if_neg (fun h => c2 ((lg_cmp_ge _ _).mpr (by rw [ei]; exact h)))] at this
      exact this
    · have := K s m hs
      rw [sgS, if_neg (fun h => c ((lg_cmp_le _ _).mpr (by rw [ei]; exact h)))] at this
      exact this
    · rw [pS_52f, e52, e2]; exact nI_le (by omega) (by omega)
  | succ k ih =>
    intro i s m hi hs
    -- behind passes
    have fin : ∀ (s' : Nat → Int32) (m' : Int32) (v : Int64), v = btS (cuZ μ1) (bOf s0) n l W (i + 1) → zCallV X lv yX11_copies cX11_copies 5 none [.ref (X.G.ad 71 0), .int (0 : Int32), .ref (X.G.ad 70 0), .int (0 : Int32)] (putS μ1 s' m') (fun μ9 => AW X 42 [some (.ref (X.G.ad 11 0)), some (.int (nI l)), some (.int (nI n)), some (.long v), none, some (.int (nI (i + 1))), none, none, none] [] μ9) := by
      intro s' m' v hv
      refine ⟨0, _, by omega, cr_copies (a := 0) (b := 0) sh_71 (by decide) sh_70 (by decide) (by decide) (by omega) (by omega) (by omega) (by omega), ?_⟩
      rintro μ' rfl
      obtain ⟨s2, e2, h2⟩ := rs_copy (s := s') (m := m') ha
      rw [e2, hv]
      exact ih (i + 1) s2 m' (by omega) h2
    refine st_X11_better_42 hX hr ⟨fun q => absurd q ?_, fun _ => ⟨fun c => ?_, fun c => ?_⟩⟩
    · rw [pS_52f, e52, e2]; exact nI_ge (by omega) (by omega)
    · rw [pS_52f, e52] at c
      have hlt := (nI_ltI (by omega) (by omega)).mp c
      refine st_X11_better_79 hX hr ?_
      rw [pS_52f, e52, nI_rem (by omega) (by omega), Nat.mod_eq_of_lt hlt]
      refine ⟨nI_ne0 hW0 (by omega), 3, _, hlv, cr_passes hc (by rw [hs]; exact I) hn hM (by omega), ?_⟩
      rintro r μ' ⟨rfl, s', m', rfl, h'⟩
      simp only [forall_eq, nI_1, pS70, pS_46, el]
      refine ⟨fun _ => ⟨vin (by omega) (by omega), vmono h5 (by omega), fin s' m' _ ?_⟩, fun q => absurd trivial q⟩
      rw [btS, if_pos hlt, ← hs, ← h', bOf1 g5]; rfl
    · rw [pS_52f, e52] at c
      have hge : W ≤ i := by
        rcases Nat.lt_or_ge i W with h | h
        · exact absurd (nI_lt h (by omega)) c
        · exact h
      have ct := cr_paysEarly (lc := X.l) (G := X.G) (μ := putS μ1 s m) (l := l) (by rw [cuZ_putS]; exact hc) (by rw [cuZ_putS]; exact hl)
      refine ⟨2, _, by omega, ct, ?_⟩
      rintro μ' ⟨sp, mp, rfl, hp⟩
      rw [putS_putS]
      rw [cuZ_putS, pS70r, hs] at hp
      refine st_X11_better_79 hX hr ?_
      rw [pS_52f, e52, nI_rem (by omega) (by omega)]
      have hmod : i % W = i - W := by
        rw [Nat.mod_eq_sub_mod hge, Nat.mod_eq_of_lt (by omega)]
      rw [hmod]
      refine ⟨nI_ne0 hW0 (by omega), 3, _, hlv, cr_passes (M := M) hc (by rw [hp]; exact pay_inv hc hl I (by omega)) hn hM (by omega), ?_⟩
      rintro r μ' ⟨rfl, s', m', rfl, h'⟩
      simp only [forall_eq, nI_1, pS70, pS_46, el]
      refine ⟨fun q => absurd q (by decide), fun _ => ⟨vin (by omega) (by omega), vmono h5 (by omega), fin s' m' _ ?_⟩⟩
      rw [btS, if_neg (by omega), ← hp, ← h', bOf1 g5]; rfl
end RB
def btOk (cu b : zB) (x1 x2 : Int32) : Bool := canS cu b x1 && ahS cu x2
set_option maxHeartbeats 2000000 in
theorem cr_better {lc : Launch} {G : zG} {μ : zM} {x1 x2 : Int32} {M : Int} (hc : cOk (cuZ μ)) (I : bI (bOf (μ.1 70 0)) M) (hM : M + 990 * 12 ≤ 999999) :
    zCT lc G 4 yX11_better cX11_better 9 (some .int) [.ref (G.ad 11 0), .int x1, .int x2] μ (zI fun r μ' => (btOk (cuZ μ) (bOf (μ.1 70 0)) x1 x2 = false ∧ r = -2 ∧ μ' = thr μ 0) ∨ (btOk (cuZ μ) (bOf (μ.1 70 0)) x1 x2 = true ∧ r = sgS (btS (cuZ μ) (bOf (μ.1 70 0)) (ix x2) (ix x1) (2 ^ (nHi (cuZ μ) * ix x2)) (2 * 2 ^ (nHi (cuZ μ) * ix x2))) ∧ ∃ s' m', bOf s' = bOf (μ.1 70 0) ∧ μ' = putS (ahM μ (2 ^ (nHi (cuZ μ) * ix x2))) s' m')) := by
  refine zCT_of (by decide) (Nat.le_of_ble_eq_true rfl) rfl (fun X hl0 hG hX hr => ?_)
  subst hG
  refine st_X11_better_0 hX hr ?_
  simp only [forall_eq]
  refine ⟨1, _, by omega, cr_canEarly (by rw [cuZ_pI11]; exact hc), ?_⟩
  rintro r μ' ⟨rfl, rfl⟩
  rw [cuZ_pI11, pI_row2 _ _ _ _ _ (show (70 : Nat) ≠ 11 by decide)]
  refine ⟨fun c => ⟨_, rfl, Or.inl ⟨?_, rfl, rfl⟩⟩, fun c => ⟨1, _, by omega, cr_isAhead (by rw [cuZ_pI11]; exact hc), ?_⟩⟩
  · rw [btOk, b2i0.mp c]; rfl
  · rw [cuZ_pI11]
    rintro r μ' (⟨h1, rfl, rfl⟩ | ⟨h1, rfl, n, rfl, n1, n12, hh, rfl⟩)
    · refine ⟨fun q => absurd rfl q, fun _ => ⟨_, rfl, Or.inl ⟨?_, rfl, rfl⟩⟩⟩
      rw [btOk, h1, Bool.and_false]
    · refine ⟨fun _ => ⟨0, _, by omega, cr_copies (a := 0) (b := 0) sh_70 (by decide) sh_71 (by decide) (by decide) (by omega) (by omega) (by omega) (by omega), ?_⟩, fun q => absurd q (by decide)⟩
      rintro μ' rfl
      have hcan := b2i1.mp c
      have hok : btOk (cuZ μ) (bOf (μ.1 70 0)) x1 (nI n) = true := by rw [btOk, hcan, h1]; rfl
      have en : ix (nI n) = n := ixn (by omega)
      have hin : inR x1 (cuZ μ 0 2) = true := by
        rw [canS, Bool.and_eq_true] at hcan; exact hcan.1
      have hx := inR_vp hin
      have h10 : nLo (cuZ μ) ≤ 10 := (cOk_n hc).1
      have hlt : ix x1 < nLo (cuZ μ) := zix hx
      have ex := vof hx (by have : nLo (cuZ μ) = ix (cuZ μ 0 2) := rfl; omega)
      have em : pR (pI (pI μ 11 0 0 0) 11 0 52 (nI (2 ^ (nHi (cuZ μ) * n)))) 71 0 (va_cpy ((pI (pI μ 11 0 0 0) 11 0 52 (nI (2 ^ (nHi (cuZ μ) * n)))).1 70 0) ((pI (pI μ 11 0 0 0) 11 0 52 (nI (2 ^ (nHi (cuZ μ) * n)))).1 71 0) 0 0 64) = ahM μ (2 ^ (nHi (cuZ μ) * n)) := by
        rw [ahM, pI_row2 _ _ _ _ _ (by decide), pI_row2 _ _ _ _ _ (by decide), pI_row2 _ _ _ _ _ (by decide), pI_row2 _ _ _ _ _ (by decide)]
      rw [em]
      have es := putS_self (ahM μ (2 ^ (nHi (cuZ μ) * n)))
      have hw := pow2 hh
      rw [← es, ex]
      refine rb_42 (s0 := μ.1 70 0) (M := M) (W := 2 ^ (nHi (cuZ μ) * n)) hX hr (by omega) (by rw [ahM_cu]; exact hc) (by rw [ahM_cu]; exact hlt) n12 hw.2 hw.1 (ahM_52 _ _) (fun k hk => ahM_71 μ _ k hk) I (by omega) (fun s' m' h' => ?_) (2 * 2 ^ (nHi (cuZ μ) * n)) 0 _ _ (by omega) (by rw [ahM_70])
      rw [ahM_cu]
      exact ⟨_, rfl, Or.inr ⟨hok, by rw [en], s', m', h', by rw [en]⟩⟩
/-! fits -/
def isF (cu b : zB) (n p : Nat) (co : Int32) (i : Nat) : Bool := decide ((psS cu n i 1 b).2 1 p = co)
def cnF (f : Nat → Bool) : Nat → Nat
  | 0 => 0
  | i + 1 => cnF f i + (if f i = true then 1 else 0)
def fnF (f : Nat → Bool) (x : Int32) : Nat → Int32
  | 0 => -1
  | i + 1 => if 0 ≤ fnF f x i then fnF f x i else if f i = true ∧ nI (cnF f i) = x then nI i else fnF f x i
theorem cnF_le (f : Nat → Bool) : ∀ i, cnF f i ≤ i
  | 0 => Nat.le_refl _
  | i + 1 => by
    have := cnF_le f i
    simp only [cnF]
    split <;> omega
theorem fnF_stay {f : Nat → Bool} {x : Int32} {i : Nat} (h : 0 ≤ fnF f x i) : ∀ k, fnF f x (i + k) = fnF f x i
  | 0 => rfl
  | k + 1 => by
    have := fnF_stay h k
    rw [← Nat.add_assoc, fnF, this, if_pos h]
section RFI
variable {X : zX} {lv : Nat} {Post : Option Value → zM → Prop} {μ1 : zM} {s0 : Nat → Int32} {n p W : Nat} {M : Int} {x3 x4 : Int32}
set_option maxHeartbeats 2000000 in
theorem rf_22 (hX : zOk X cX11_fitting RX11 9 lv) (hr : zRt X (some .int) Post) (hlv : 3 < lv) (hc : cOk (cuZ μ1)) (hp : p < 6) (hn : n ≤ 12) (hW : W ≤ 4096) (e52 : μ1.1 11 0 52 = nI W) (ha : ∀ k, k < 64 → μ1.1 71 0 k = s0 k) (I : bI (bOf s0) M) (hM : M + 990 * n ≤ 999999)
    (K : ∀ s' m', bOf s' = bOf s0 → Post (some (.int (if 0 ≤ x4 then fnF (isF (cuZ μ1) (bOf s0) n p x3) x4 W else nI (cnF (isF (cuZ μ1) (bOf s0) n p x3) W)))) (putS μ1 s' m')) :
    ∀ k i s m, i + k = W → bOf s = bOf s0 → AW X 22 [some (.ref (X.G.ad 11 0)), some (.int (nI n)), some (.int (nI p)), some (.int x3), some (.int x4), some (.int (nI (cnF (isF (cuZ μ1) (bOf s0) n p x3) i))), some (.int (fnF (isF (cuZ μ1) (bOf s0) n p x3) x4 i)), some (.int (nI i)), none] [] (putS μ1 s m) := by
  have ep : ix (nI p) = p := ixn (by omega)
  intro k
  induction k with
  | zero =>
    intro i s m hi hs
    have ei : i = W := by omega
    subst ei
    refine st_X11_fitting_22 hX hr ⟨fun _ => ⟨fun c => ?_, fun c => ?_⟩, fun q => absurd ?_ q⟩
    · have := K s m hs
      rw [if_pos c] at this; exact this
    · have := K s m hs
      rw [if_neg c] at this; exact this
    · rw [pS_52f, e52]; exact nI_le (by omega) (by omega)
  | succ k ih =>
    intro i s m hi hs
    have fin : ∀ (s' : Nat → Int32) (m' : Int32), zCallV X lv yX11_copies cX11_copies 5 none [.ref (X.G.ad 71 0), .int (0 : Int32), .ref (X.G.ad 70 0), .int (0 : Int32)] (putS μ1 s' m') (fun μ9 => AW X 22 [some (.ref (X.G.ad 11 0)), some (.int (nI n)), some (.int (nI p)), some (.int x3), some (.int x4), some (.int (nI (cnF (isF (cuZ μ1) (bOf s0) n p x3) (i + 1)))), some (.int (fnF (isF (cuZ μ1) (bOf s0) n p x3) x4 (i + 1))), some (.int (nI (i + 1))), none] [] μ9) := by
      intro s' m'
      refine ⟨0, _, by omega, cr_copies (a := 0) (b := 0) sh_71 (by decide) sh_70 (by decide) (by decide) (by omega) (by omega) (by omega) (by omega), ?_⟩
      rintro μ' rfl
      obtain ⟨s2, e2, h2⟩ := rs_copy (s := s') (m := m') ha
      rw [e2]
      exact ih (i + 1) s2 m' (by omega) h2
    refine st_X11_fitting_22 hX hr ⟨fun q => absurd q ?_, fun _ => ⟨fun c => ?_, fun c => ?_⟩⟩
    · rw [pS_52f, e52]; exact nI_ge (by omega) (by omega)
    · have st := fnF_stay c (k + 1)
      rw [hi] at st
      have KK := K s m hs
      refine ⟨fun c2 => ?_, fun c2 => ?_⟩
      · rw [if_pos c2, st] at KK; exact KK
      · -- found although none is asked for: cannot be
        exfalso
        have : ∀ j, fnF (isF (cuZ μ1) (bOf s0) n p x3) x4 j = -1 ∨ ¬ j ≤ 4096 := by
          intro j
          induction j with
          | zero => exact Or.inl rfl
          | succ j ihj =>
            rcases Nat.lt_or_ge 4096 (j + 1) with h | h
            · exact Or.inr (by omega)
            · left
              have hj : fnF (isF (cuZ μ1) (bOf s0) n p x3) x4 j = -1 := by
                rcases ihj with q | q
                · exact q
                · omega
              rw [fnF, hj, if_neg (by decide), if_neg]
              rintro ⟨-, e⟩
              have := cnF_le (isF (cuZ μ1) (bOf s0) n p x3) j
              exact c2 (by rw [← e]; exact nI_pos' (by omega))
        rcases this i with h | h
        · rw [h] at c; exact absurd c (by decide)
        · omega
    · refine ⟨3, _, hlv, cr_passes hc (by rw [hs]; exact I) hn hM (by omega), ?_⟩
      rintro r μ' ⟨rfl, s', m', rfl, h'⟩
      rw [hs] at h'
      have e1 : s' p = (psS (cuZ μ1) n i 1 (bOf s0)).2 1 p := by rw [← h', bOf1 hp]
      simp only [forall_eq, nI_1, pS70, ep, Int32.add_zero]
      refine ⟨vin (by omega) (by omega), fun c2 => ?_, fun c2 => ?_⟩
      · have hf : isF (cuZ μ1) (bOf s0) n p x3 i = false := decide_eq_false (by rw [← e1]; exact c2)
        have := fin s' m'
        rw [cnF, fnF, hf, if_neg c, if_neg (by simp), if_neg (by simp), Nat.add_zero] at this
        exact this
      · have hf : isF (cuZ μ1) (bOf s0) n p x3 i = true := decide_eq_true (by rw [← e1]; exact c2)
        have := fin s' m'
        rw [cnF, fnF, hf, if_neg c, if_pos rfl] at this
        obtain ⟨lv', P, q1, q2, q3⟩ := this
        refine ⟨lv', P, q1, q2, fun μ9 h9 => ⟨fun c3 => ?_, fun c3 => ?_⟩⟩
        · have q4 := q3 μ9 h9
          rw [if_neg (fun h => c3 h.2)] at q4
          exact q4
        · have q4 := q3 μ9 h9
          rw [if_pos ⟨rfl, c3⟩] at q4
          exact q4
end RFI
