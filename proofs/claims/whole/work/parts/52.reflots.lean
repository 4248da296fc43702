/-! THE REFERENCE: lots -/
def drG (g : Int64) : Int64 := ((g * (1103515245 : Int64)) + (12345 : Int64)) - ((g * (1103515245 : Int64)) + (12345 : Int64)) / (2147483648 : Int64) * (2147483648 : Int64)
def drV (g : Int64) : Int32 := Int64.toInt32 ((g / (65536 : Int64)) - (g / (65536 : Int64)) / (Int32.toInt64 (8 : Int32)) * (Int32.toInt64 (8 : Int32)))
def dwS (cu : zB) (last : Int32) : Nat → Int64 → Int64 × Int32
  | 0, g => (g, 0)
  | n + 1, g => (drG (dwS cu last n g).1, (dwS cu last n g).2 ||| (if rainS cu last n ≤ drV (drG (dwS cu last n g).1) then 0 else (1 : Int32) <<< (nI n &&& 31)))
def ydS (cu : zB) : Nat → Int64 → zB → Int64 × zB
  | 0, g, b => (g, b)
  | d + 1, g, b => ((dwS cu ((ydS cu d g b).2 0 2) (nHi cu) (ydS cu d g b).1).1, live cu (dwS cu ((ydS cu d g b).2 0 2) (nHi cu) (ydS cu d g b).1).2 (ydS cu d g b).2)
def loS1 (b0 b : zB) (x n : Int32) : Int32 := n + (if x = 2 then b 0 1 - b0 0 1 else 0)
def loS2 (b : zB) (x n : Int32) : Nat → Int32
  | 0 => n
  | l + 1 => loS2 b x n l + (if x = 0 then (if b 3 l = 2 then 1 else 0) else if x = 1 then (if b 3 l = 1 then b 2 l else 0) else 0)
def loS3 (r x n : Int32) : Nat → Int32
  | 0 => n
  | p + 1 => loS3 r x n p + (if x = 3 then ((r >>> (nI p &&& 31)) &&& (1 : Int32)) else 0)
def loS (cu b0 b : zB) (x n : Int32) : Int32 := loS3 (ruinS cu b (nLo cu)) x (loS2 b x (loS1 b0 b x n) (nLo cu)) 6
def ltS (cu b : zB) (x : Int32) (seed : Int64) : Nat → Int64 × Int32
  | 0 => (seed, 0)
  | y + 1 => ((ydS cu 60 (ltS cu b x seed y).1 b).1, loS cu b (ydS cu 60 (ltS cu b x seed y).1 b).2 x (ltS cu b x seed y).2)
theorem pL_putS (μ : zM) (s : Nat → Int32) (m : Int32) (g h : Int64) : pL (putS (pL μ 11 0 53 g) s m) 11 0 53 h = putS (pL μ 11 0 53 h) s m := by
  refine Prod.ext rfl ?_
  funext a b c
  simp only [putS, pI, pR, pL]
  split <;> rfl
theorem pL1st (μ : zM) (κ o k : Nat) (v : Int64) : (pL μ κ o k v).1 = μ.1 := rfl
theorem pLg (μ : zM) (s : Nat → Int32) (m : Int32) (g : Int64) : (putS (pL μ 11 0 53 g) s m).2 11 0 53 = g := by simp [putS, pI, pR, pL]
theorem cr_draws {lc : Launch} {G : zG} {μ : zM} :
    zCT lc G 0 yX11_draws cX11_draws 2 (some .int) [.ref (G.ad 11 0), .int (8 : Int32)] μ (zI fun r μ' => r = drV (drG (μ.2 11 0 53)) ∧ μ' = pL μ 11 0 53 (drG (μ.2 11 0 53))) := by
  refine zCT_of (by decide) (Nat.le_of_ble_eq_true rfl) rfl (fun X hl0 hG hX hr => ?_)
  subst hG
  refine st_X11_draws_0 hX hr ?_
  simp only [forall_eq]
  refine ⟨by decide, by decide, by decide, _, rfl, ?_, rfl⟩
  rw [show (pL μ 11 0 53 (((μ.2 11 0 53) * (1103515245 : Int64)) + (12345 : Int64) - (((μ.2 11 0 53) * (1103515245 : Int64)) + (12345 : Int64)) / (2147483648 : Int64) * (2147483648 : Int64))).2 11 0 53 = drG (μ.2 11 0 53) by simp [pL, drG]]
  rfl
theorem yd_inv {cu : zB} (hc : cOk cu) {b : zB} {M : Int} (I : bI b M) (hM : M + 59400 ≤ 999999) (g : Int64) : ∀ d, d ≤ 60 → bI (ydS cu d g b).2 (M + 990 * d)
  | 0, _ => by rw [show M + 990 * ((0 : Nat) : Int) = M by omega]; exact I
  | d + 1, h => by
    have := (live_inv hc (w := (dwS cu ((ydS cu d g b).2 0 2) (nHi cu) (ydS cu d g b).1).2) (yd_inv hc I hM g d (by omega)) (by omega)).2
    exact bI_mono this (by omega)
section RL
variable {X : zX} {lv : Nat} {Post : Option Value → zM → Prop} {μ1 : zM} {x2 x3 x4 x5 x6 : Int32}
set_option maxHeartbeats 2000000 in
theorem rl_84 (hX : zOk X cX11_lots RX11 9 lv) (hr : zRt X (some .int) Post) (hlv : 2 < lv) (hc : cOk (cuZ μ1)) {s : Nat → Int32} {m : Int32} {g0 : Int64} (I : ∀ w, bInv (called (cuZ μ1) w (fall (cuZ μ1) w (bOf s))))
    (K : ∀ s' m', bOf s' = live (cuZ μ1) (dwS (cuZ μ1) (bOf s 0 2) (nHi (cuZ μ1)) g0).2 (bOf s) → AW X 71 [some (.ref (X.G.ad 11 0)), none, some (.int x2), some (.int x3), some (.int x4), some (.int x5), some (.int (x6 + 1)), none, none] [] (putS (pL μ1 11 0 53 (dwS (cuZ μ1) (bOf s 0 2) (nHi (cuZ μ1)) g0).1) s' m')) :
    ∀ k i, i + k = nHi (cuZ μ1) → AW X 84 [some (.ref (X.G.ad 11 0)), none, some (.int x2), some (.int x3), some (.int x4), some (.int x5), some (.int x6), some (.int (dwS (cuZ μ1) (bOf s 0 2) i g0).2), some (.int (nI i))] [] (putS (pL μ1 11 0 53 (dwS (cuZ μ1) (bOf s 0 2) i g0).1) s m) := by
  obtain ⟨-, -, n4⟩ := cOk_n hc
  have hhi : vp_in (μ1.1 36 0 0) 5 := hc.1
  have ehi : nHi (cuZ μ1) = ix (μ1.1 36 0 0) := rfl
  intro k
  induction k with
  | zero =>
    intro i hi
    have ei : i = nHi (cuZ μ1) := by omega
    refine st_X11_lots_84 hX hr ⟨fun _ => ?_, fun q => absurd ?_ q⟩
    · refine ⟨2, _, hlv, cr_goes (μ := pL μ1 11 0 53 (dwS (cuZ μ1) (bOf s 0 2) i g0).1) hc (I _), ?_⟩
      rintro μ' ⟨s', m', rfl, h'⟩
      simp only [forall_eq]
      rw [ei] at h' ⊢
      exact K s' m' h'
    · rw [pS_36]; exact (vle hhi (by omega) (by omega)).mpr (by omega)
  | succ k ih =>
    intro i hi
    have e0 : ix (nI i) = i := ixn (by omega)
    have ih' := ih (i + 1) (by omega)
    refine st_X11_lots_84 hX hr ⟨fun q => absurd q ?_, fun _ => ⟨0, _, by omega, cr_draws, ?_⟩⟩
    · rw [pS_36]; exact fun q => absurd ((vle hhi (by omega) (by omega)).mp q) (by omega)
    · rintro r μ' ⟨rfl, rfl⟩
      rw [pLg, pL_putS]
      simp only [forall_eq, nI_1, pS70, pS_42, pS_43, e0, pL1st]
      have el : bOf s 0 2 = s 56 := rfl
      refine ⟨fun c => ⟨vin (by omega) (by omega), fun c2 => ?_, fun c2 => ?_⟩, fun c => ⟨vin (by omega) (by omega), fun c2 => ?_, fun c2 => ?_⟩⟩
      · have w1 : wetAt (bOf s 0 2) (nI i) = false := decide_eq_false c
        have er : rainS (cuZ μ1) (bOf s 0 2) i = μ1.1 42 0 i := by rw [rainS, w1]; rfl
        rw [dwS, er, if_pos c2] at ih'
        exact ih'
      · have w1 : wetAt (bOf s 0 2) (nI i) = false := decide_eq_false c
        have er : rainS (cuZ μ1) (bOf s 0 2) i = μ1.1 42 0 i := by rw [rainS, w1]; rfl
        rw [dwS, er, if_neg c2] at ih'
        exact ih'
      · have w1 : wetAt (bOf s 0 2) (nI i) = true := decide_eq_true c
        have er : rainS (cuZ μ1) (bOf s 0 2) i = μ1.1 43 0 i := by rw [rainS, w1]; rfl
        rw [dwS, er, if_pos c2] at ih'
        exact ih'
      · have w1 : wetAt (bOf s 0 2) (nI i) = true := decide_eq_true c
        have er : rainS (cuZ μ1) (bOf s 0 2) i = μ1.1 43 0 i := by rw [rainS, w1]; rfl
        rw [dwS, er, if_neg c2] at ih'
        exact ih'
set_option maxHeartbeats 1000000 in
theorem rl_290 (hX : zOk X cX11_lots RX11 9 lv) (hr : zRt X (some .int) Post) {μ : zM} {r n : Int32}
    (K : zCallV X lv yX11_copies cX11_copies 5 none [.ref (X.G.ad 71 0), .int (0 : Int32), .ref (X.G.ad 70 0), .int (0 : Int32)] μ (fun μ3 => AW X 62 [some (.ref (X.G.ad 11 0)), none, some (.int x2), some (.int x3), some (.int (loS3 r x3 n 6)), some (.int (x5 + 1)), none, none, none] [] μ3)) :
    ∀ k i, i + k = 6 → AW X 290 [some (.ref (X.G.ad 11 0)), none, some (.int x2), some (.int x3), some (.int (loS3 r x3 n i)), some (.int x5), some (.int r), some (.int (nI i)), none] [] μ := by
  intro k
  induction k with
  | zero =>
    intro i hi
    have ei : i = 6 := by omega
    subst ei
    refine st_X11_lots_290 hX hr ⟨fun _ => ?_, fun q => absurd (nI_le (a := 6) (b := 6) (by omega) (by omega)) q⟩
    simp only [forall_eq]
    exact K
  | succ k ih =>
    intro i hi
    have ih' := ih (i + 1) (by omega)
    refine st_X11_lots_290 hX hr ⟨fun q => absurd q (nI_ge (a := i) (b := 6) (by omega) (by omega)), fun _ => ?_⟩
    simp only [forall_eq, nI_1]
    refine ⟨fun c => ?_, fun c => ?_⟩
    · rw [loS3, if_neg c] at ih'; exact ih'
    · rw [loS3, if_pos c] at ih'; exact ih'
set_option maxHeartbeats 2000000 in
theorem rl_206 (hX : zOk X cX11_lots RX11 9 lv) (hr : zRt X (some .int) Post) (hc : cOk (cuZ μ1)) {s : Nat → Int32} {m r n : Int32}
    (K : AW X 290 [some (.ref (X.G.ad 11 0)), none, some (.int x2), some (.int x3), some (.int (loS2 (bOf s) x3 n (nLo (cuZ μ1)))), some (.int x5), some (.int r), some (.int (0 : Int32)), none] [] (putS μ1 s m)) :
    ∀ k i, i + k = nLo (cuZ μ1) → AW X 206 [some (.ref (X.G.ad 11 0)), none, some (.int x2), some (.int x3), some (.int (loS2 (bOf s) x3 n i)), some (.int x5), some (.int r), some (.int (nI i)), none] [] (putS μ1 s m) := by
  obtain ⟨n10, -, -⟩ := cOk_n hc
  have hlo : vp_in (μ1.1 38 0 0) 11 := hc.2.2.1
  have elo : nLo (cuZ μ1) = ix (μ1.1 38 0 0) := rfl
  intro k
  induction k with
  | zero =>
    intro i hi
    have ei : i = nLo (cuZ μ1) := by omega
    refine st_X11_lots_206 hX hr ⟨fun _ => by rw [ei]; exact K, fun q => absurd ?_ q⟩
    rw [pS_38]; exact (vle hlo (by omega) (by omega)).mpr (by omega)
  | succ k ih =>
    intro i hi
    have ih' := ih (i + 1) (by omega)
    have e6 : ix (nI (6 + i)) = 6 + i := ixn (by omega)
    have e16 : ix (nI (16 + i)) = 16 + i := ixn (by omega)
    have hi10 : i < 10 := by omega
    refine st_X11_lots_206 hX hr ⟨fun q => absurd q ?_, fun _ => ?_⟩
    · rw [pS_38]; exact fun q => absurd ((vle hlo (by omega) (by omega)).mp q) (by omega)
    · simp only [forall_eq, nI_1, a6, a16, e6, e16, pS70]
      refine ⟨fun c => ⟨fun c1 => ?_, fun c1 => ⟨vin (by omega) (by omega), fun c2 => ?_, fun c2 => ⟨vin (by omega) (by omega), ?_⟩⟩⟩, fun c => ⟨vin (by omega) (by omega), fun c2 => ?_, fun c2 => ?_⟩⟩
      · rw [loS2, if_neg c, if_neg c1] at ih'; exact ih'
      · rw [loS2, if_neg c, if_pos c1, if_neg (by rw [bOf3 hi10]; exact c2)] at ih'; exact ih'
      · rw [loS2, if_neg c, if_pos c1, if_pos (by rw [bOf3 hi10]; exact c2), bOf2 hi10] at ih'; exact ih'
      · rw [loS2, if_pos c, if_neg (by rw [bOf3 hi10]; exact c2)] at ih'; exact ih'
      · rw [loS2, if_pos c, if_pos (by rw [bOf3 hi10]; exact c2)] at ih'; exact ih'
set_option maxHeartbeats 2000000 in
theorem rl_71 (hX : zOk X cX11_lots RX11 9 lv) (hr : zRt X (some .int) Post) (hlv : 2 < lv) (hc : cOk (cuZ μ1)) {s0 : Nat → Int32} {n : Int32} {g0 : Int64} {M : Int} (I : bI (bOf s0) M) (hM : M + 59400 ≤ 999999) (ha : ∀ k, k < 64 → μ1.1 71 0 k = s0 k)
    (K : ∀ s' m', bOf s' = bOf s0 → AW X 62 [some (.ref (X.G.ad 11 0)), none, some (.int x2), some (.int x3), some (.int (loS (cuZ μ1) (bOf s0) (ydS (cuZ μ1) 60 g0 (bOf s0)).2 x3 n)), some (.int (x5 + 1)), none, none, none] [] (putS (pL μ1 11 0 53 (ydS (cuZ μ1) 60 g0 (bOf s0)).1) s' m')) :
    ∀ k i s m, i + k = 60 → bOf s = (ydS (cuZ μ1) i g0 (bOf s0)).2 → AW X 71 [some (.ref (X.G.ad 11 0)), none, some (.int x2), some (.int x3), some (.int n), some (.int x5), some (.int (nI i)), none, none] [] (putS (pL μ1 11 0 53 (ydS (cuZ μ1) i g0 (bOf s0)).1) s m) := by
  intro k
  induction k with
  | zero =>
    intro i s m hi hs
    have ei : i = 60 := by omega
    subst ei
    refine st_X11_lots_71 hX hr ⟨fun _ => ⟨0, _, by omega, cr_ruinedNow (by rw [cuZ_putS]; exact hc), ?_⟩, fun q => absurd (nI_le (a := 60) (b := 60) (by omega) (by omega)) q⟩
    rintro r μ' ⟨rfl, rfl⟩
    rw [cuZ_putS, pS70r]
    simp only [forall_eq, pS70, pS_71]
    have fin : AW X 206 [some (.ref (X.G.ad 11 0)), none, some (.int x2), some (.int x3), some (.int (loS1 (bOf s0) (bOf s) x3 n)), some (.int x5), some (.int (ruinS (cuZ μ1) (bOf s) (nLo (cuZ μ1)))), some (.int (0 : Int32)), none] [] (putS (pL μ1 11 0 53 (ydS (cuZ μ1) 60 g0 (bOf s0)).1) s m) := by
      refine rl_206 (μ1 := pL μ1 11 0 53 (ydS (cuZ μ1) 60 g0 (bOf s0)).1) hX hr hc ?_ (nLo (cuZ μ1)) 0 (Nat.zero_add _)
      refine rl_290 hX hr ?_ 6 0 rfl
      refine ⟨0, _, by omega, cr_copies (a := 0) (b := 0) sh_71 (by decide) sh_70 (by decide) (by decide) (by omega) (by omega) (by omega) (by omega), ?_⟩
      rintro μ' rfl
      obtain ⟨s2, e2, h2⟩ := rs_copy (μ1 := pL μ1 11 0 53 (ydS (cuZ μ1) 60 g0 (bOf s0)).1) (s := s) (m := m) (s0 := s0) ha
      rw [e2]
      have := K s2 m h2
      rw [loS, ← hs] at this
      exact this
    refine ⟨fun c => ?_, fun c => ?_⟩
    · rw [loS1, if_neg c] at fin; exact fin
    · rw [loS1, if_pos c] at fin
      rw [show (pL μ1 11 0 53 (ydS (cuZ μ1) 60 g0 (bOf s0)).1).1 71 0 58 = s0 58 from ha 58 (by omega)]
      exact fin
  | succ k ih =>
    intro i s m hi hs
    refine st_X11_lots_71 hX hr ⟨fun q => absurd q (nI_ge (a := i) (b := 60) (by omega) (by omega)), fun _ => ?_⟩
    have J := yd_inv hc I hM g0 i (by omega)
    rw [← hs] at J
    refine rl_84 hX hr hlv hc (fun w => (live_inv hc J (by omega)).1) (fun s' m' h' => ?_) (nHi (cuZ μ1)) 0 (by omega)
    rw [nI_1]
    have := ih (i + 1) s' m' (by omega) (by rw [h', ydS, hs])
    rw [ydS, ← hs] at this
    exact this
set_option maxHeartbeats 1000000 in
theorem rl_62 (hX : zOk X cX11_lots RX11 9 lv) (hr : zRt X (some .int) Post) (hlv : 2 < lv) (hc : cOk (cuZ μ1)) {s0 : Nat → Int32} {sd : Int64} {M : Int} {y : Nat} (hy : y ≤ 20) (I : bI (bOf s0) M) (hM : M + 59400 ≤ 999999) (ha : ∀ k, k < 64 → μ1.1 71 0 k = s0 k)
    (K : ∀ s' m', bOf s' = bOf s0 → Post (some (.int (ltS (cuZ μ1) (bOf s0) x3 sd y).2)) (putS (pL μ1 11 0 53 (ltS (cuZ μ1) (bOf s0) x3 sd y).1) s' m')) :
    ∀ k i s m, i + k = y → bOf s = bOf s0 → AW X 62 [some (.ref (X.G.ad 11 0)), none, some (.int (nI y)), some (.int x3), some (.int (ltS (cuZ μ1) (bOf s0) x3 sd i).2), some (.int (nI i)), none, none, none] [] (putS (pL μ1 11 0 53 (ltS (cuZ μ1) (bOf s0) x3 sd i).1) s m) := by
  intro k
  induction k with
  | zero =>
    intro i s m hi hs
    have ei : i = y := by omega
    subst ei
    exact st_X11_lots_62 hX hr ⟨fun _ => K s m hs, fun q => absurd (nI_le (by omega) (by omega)) q⟩
  | succ k ih =>
    intro i s m hi hs
    refine st_X11_lots_62 hX hr ⟨fun q => absurd q (nI_ge (by omega) (by omega)), fun _ => ?_⟩
    refine rl_71 hX hr hlv hc I hM ha (fun s' m' h' => ?_) 60 0 s m rfl (by rw [hs]; rfl)
    rw [nI_1]
    exact ih (i + 1) s' m' (by omega) h'
end RL
def ltOk (x1 x2 x3 : Int32) : Bool := wthn x1 0 9999 && (wthn x2 1 20 && wthn x3 0 3)
set_option maxHeartbeats 1000000 in
theorem cr_lots {lc : Launch} {G : zG} {μ : zM} {x1 x2 x3 : Int32} {M : Int} (hc : cOk (cuZ μ)) (I : bI (bOf (μ.1 70 0)) M) (hM : M + 59400 ≤ 999999) :
    zCT lc G 3 yX11_lots cX11_lots 9 (some .int) [.ref (G.ad 11 0), .int x1, .int x2, .int x3] μ (zI fun r μ' => (ltOk x1 x2 x3 = false ∧ r = -1 ∧ μ' = thr μ 0) ∨ (ltOk x1 x2 x3 = true ∧ r = (ltS (cuZ μ) (bOf (μ.1 70 0)) x3 x1.toInt64 (ix x2)).2 ∧ ∃ s' m' g', bOf s' = bOf (μ.1 70 0) ∧ μ' = putS (pL (pR (thr μ 0) 71 0 (va_cpy (μ.1 70 0) (μ.1 71 0) 0 0 64)) 11 0 53 g') s' m')) := by
  refine zCT_of (by decide) (Nat.le_of_ble_eq_true rfl) rfl (fun X hl0 hG hX hr => ?_)
  subst hG
  refine st_X11_lots_0 hX hr ?_
  simp only [forall_eq]
  refine ⟨0, _, by omega, cr_within, ?_⟩
  rintro r μ' ⟨rfl, rfl⟩
  refine ⟨fun c => ⟨_, rfl, Or.inl ⟨?_, rfl, rfl⟩⟩, fun c => ⟨0, _, by omega, cr_within, ?_⟩⟩
  · rw [ltOk, b2i0.mp c]; rfl
  rintro r μ' ⟨rfl, rfl⟩
  refine ⟨fun c2 => ⟨_, rfl, Or.inl ⟨?_, rfl, rfl⟩⟩, fun c2 => ⟨0, _, by omega, cr_within, ?_⟩⟩
  · rw [ltOk, b2i0.mp c2, Bool.false_and, Bool.and_false]
  rintro r μ' ⟨rfl, rfl⟩
  refine ⟨fun c3 => ?_, fun c3 => ⟨_, rfl, Or.inl ⟨?_, rfl, rfl⟩⟩⟩
  · have hok : ltOk x1 x2 x3 = true := by rw [ltOk, b2i1.mp c, b2i1.mp c2, b2i1.mp c3]; rfl
    obtain ⟨y, rfl, y1, y20⟩ := wthn_nI (a := 1) (b := 20) (b2i1.mp c2) (by omega) (by omega)
    have ey : ix (nI y) = y := ixn (by omega)
    refine ⟨0, _, by omega, cr_copies (a := 0) (b := 0) sh_70 (by decide) sh_71 (by decide) (by decide) (by omega) (by omega) (by omega) (by omega), ?_⟩
    rintro μ' rfl
    have em : pR (pL (pI μ 11 0 0 0) 11 0 53 x1.toInt64) 71 0 (va_cpy ((pL (pI μ 11 0 0 0) 11 0 53 x1.toInt64).1 70 0) ((pL (pI μ 11 0 0 0) 11 0 53 x1.toInt64).1 71 0) 0 0 64) = pL (pR (thr μ 0) 71 0 (va_cpy (μ.1 70 0) (μ.1 71 0) 0 0 64)) 11 0 53 x1.toInt64 := by
      show pL (pR (thr μ 0) 71 0 (va_cpy ((thr μ 0).1 70 0) ((thr μ 0).1 71 0) 0 0 64)) 11 0 53 x1.toInt64 = _
      rw [pI_row2 _ _ _ _ _ (by decide), pI_row2 _ _ _ _ _ (by decide)]
    rw [em]
    have ec : cuZ (pR (thr μ 0) 71 0 (va_cpy (μ.1 70 0) (μ.1 71 0) 0 0 64)) = cuZ μ := by rw [cuZ_pR _ (by omega), cuZ_pI11]
    have e7 : (pR (thr μ 0) 71 0 (va_cpy (μ.1 70 0) (μ.1 71 0) 0 0 64)).1 70 0 = μ.1 70 0 := by rw [pR_row2 _ _ _ _ (by decide), pI_row2 _ _ _ _ _ (by decide)]
    have es := putS_self (pL (pR (thr μ 0) 71 0 (va_cpy (μ.1 70 0) (μ.1 71 0) 0 0 64)) 11 0 53 x1.toInt64)
    rw [← es]
    refine rl_62 (μ1 := pR (thr μ 0) 71 0 (va_cpy (μ.1 70 0) (μ.1 71 0) 0 0 64)) (s0 := μ.1 70 0) (sd := x1.toInt64) (M := M) hX hr (by omega) (by rw [ec]; exact hc) y20 I hM (fun k hk => by rw [pR_at, cpy_in _ _ hk]) (fun s' m' h' => ?_) y 0 _ _ (by omega) (by show bOf ((pR (thr μ 0) 71 0 (va_cpy (μ.1 70 0) (μ.1 71 0) 0 0 64)).1 70 0) = _; rw [e7])
    rw [ec]
    exact ⟨_, rfl, Or.inr ⟨hok, by rw [ey], s', m', _, h', rfl⟩⟩
  · rw [ltOk, b2i0.mp c3, Bool.and_false, Bool.and_false]
