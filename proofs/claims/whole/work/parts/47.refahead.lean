/-! THE REFERENCE looks ahead -/
theorem nI_ne_m1 {b : Nat} (hb : b < 2 ^ 31) : nI b ≠ -1 := by
  intro h
  have := nI_toInt hb
  rw [h] at this
  have e : (-1 : Int32).toInt = -1 := by decide
  omega
theorem nI_div {a b : Nat} (ha : a < 2 ^ 31) (hb : b < 2 ^ 31) : nI a / nI b = nI (a / b) := by
  apply Int32.toInt_inj.mp
  rw [Int32.toInt_div_of_ne_right _ _ (nI_ne_m1 hb), nI_toInt ha, nI_toInt hb, nI_toInt (Nat.lt_of_le_of_lt (Nat.div_le_self a b) ha)]
  exact (Int.ofNat_tdiv a b).symm
theorem nI_mul (a b : Nat) : nI a * nI b = nI (a * b) := (Int32.ofNat_mul a b).symm
theorem nI_subN {a b : Nat} (h : b ≤ a) : nI a - nI b = nI (a - b) := by
  have : nI (a - b) + nI b = nI a := by rw [nI_add, Nat.sub_add_cancel h]
  rw [← this, Int32.add_sub_cancel]
theorem nI_rem {a b : Nat} (ha : a < 2 ^ 31) (hb : b < 2 ^ 31) : nI a - nI a / nI b * nI b = nI (a % b) := by
  rw [nI_div ha hb, nI_mul, nI_subN (Nat.div_mul_le_self a b)]
  congr 1
  have := Nat.div_add_mod a b
  rw [Nat.mul_comm] at this
  omega
theorem sh1 {h : Nat} (hh : h ≤ 12) : (1 : Int32) <<< (nI h &&& 31) = nI (2 ^ h) := by
  have : h = 0 ∨ h = 1 ∨ h = 2 ∨ h = 3 ∨ h = 4 ∨ h = 5 ∨ h = 6 ∨ h = 7 ∨ h = 8 ∨ h = 9 ∨ h = 10 ∨ h = 11 ∨ h = 12 := by omega
  rcases this with rfl | rfl | rfl | rfl | rfl | rfl | rfl | rfl | rfl | rfl | rfl | rfl | rfl <;> decide
def rainS (cu : zB) (last : Int32) (n : Nat) : Int32 := if wetAt last (nI n) = true then cu 2 n else cu 1 n
def odd (cu : zB) (last w : Int32) : Nat → Int64 → Int64
  | 0, o => o
  | n + 1, o => odd cu last w n o * (if wetAt w (nI n) = true then (rainS cu last n).toInt64 else ((8 : Int32) - rainS cu last n).toInt64)
def psS (cu : zB) : Nat → Nat → Int64 → zB → Int64 × zB
  | 0, _, o, b => (o, b)
  | n + 1, left, o, b => psS cu n (left / 2 ^ nHi cu) (odd cu (b 0 2) (nI (left % 2 ^ nHi cu)) (nHi cu) o) (live cu (nI (left % 2 ^ nHi cu)) b)
section RP
variable {X : zX} {lv : Nat} {Post : Option Value → zM → Prop} {μ : zM}
set_option maxHeartbeats 2000000 in
theorem rp_43 (hX : zOk X cX11_passes RX11 10 lv) (hr : zRt X (some .long) Post) (hlv : 2 < lv) (hc : cOk (cuZ μ)) {s : Nat → Int32} {m w x2 x5 x6 : Int32} {o0 : Int64} (I : bInv (called (cuZ μ) w (fall (cuZ μ) w (bOf s))))
    (K : ∀ s' m', bOf s' = live (cuZ μ) w (bOf s) → AW X 8 [some (.ref (X.G.ad 11 0)), none, some (.int x2), some (.long (odd (cuZ μ) (bOf s 0 2) w (nHi (cuZ μ)) o0)), none, some (.int x5), some (.int (x6 + 1)), none, none, none] [] (putS μ s' m')) :
    ∀ k i, i + k = nHi (cuZ μ) → AW X 43 [some (.ref (X.G.ad 11 0)), none, some (.int x2), some (.long (odd (cuZ μ) (bOf s 0 2) w i o0)), none, some (.int x5), some (.int x6), some (.int w), some (.int (nI i)), none] [] (putS μ s m) := by
  obtain ⟨-, -, n4⟩ := cOk_n hc
  have hhi : vp_in (μ.1 36 0 0) 5 := hc.1
  have ehi : nHi (cuZ μ) = ix (μ.1 36 0 0) := rfl
  intro k
  induction k with
  | zero =>
    intro i hi
    have ei : i = nHi (cuZ μ) := by omega
    refine st_X11_passes_43 hX hr ⟨fun _ => ?_, fun q => absurd ?_ q⟩
    · refine ⟨2, _, hlv, cr_goes hc I, ?_⟩
      rintro μ' ⟨s', m', rfl, h'⟩
      simp only [forall_eq]
      rw [ei]
      exact K s' m' h'
    · rw [pS_36]; exact (vle hhi (by omega) (by omega)).mpr (by omega)
  | succ k ih =>
    intro i hi
    have e0 : ix (nI i) = i := ixn (by omega)
    have ih' := ih (i + 1) (by omega)
    refine st_X11_passes_43 hX hr ⟨fun q => absurd q ?_, fun _ => ?_⟩
    · rw [pS_36]; exact fun q => absurd ((vle hhi (by omega) (by omega)).mp q) (by omega)
    · simp only [forall_eq, nI_1, pS70, pS_42, pS_43, e0]
      have el : bOf s 0 2 = s 56 := rfl
      refine ⟨fun c => ⟨vin (by omega) (by omega), fun c2 => ?_, fun c2 => ?_⟩, fun c => ⟨vin (by omega) (by omega), fun c2 => ?_, fun c2 => ?_⟩⟩
      · have w1 : wetAt (bOf s 0 2) (nI i) = false := decide_eq_false c
        have w2 : wetAt w (nI i) = false := decide_eq_false c2
        rw [odd, rainS, w1, w2] at ih'
        exact ih'
      · have w1 : wetAt (bOf s 0 2) (nI i) = false := decide_eq_false c
        have w2 : wetAt w (nI i) = true := decide_eq_true c2
        rw [odd, rainS, w1, w2] at ih'
        exact ih'
      · have w1 : wetAt (bOf s 0 2) (nI i) = true := decide_eq_true c
        have w2 : wetAt w (nI i) = false := decide_eq_false c2
        rw [odd, rainS, w1, w2] at ih'
        exact ih'
      · have w1 : wetAt (bOf s 0 2) (nI i) = true := decide_eq_true c
        have w2 : wetAt w (nI i) = true := decide_eq_true c2
        rw [odd, rainS, w1, w2] at ih'
        exact ih'
set_option maxHeartbeats 1000000 in
theorem rp_8 (hX : zOk X cX11_passes RX11 10 lv) (hr : zRt X (some .long) Post) (hlv : 2 < lv) (hc : cOk (cuZ μ)) {n : Nat} (hn : n ≤ 12) :
    ∀ k d (s : Nat → Int32) (m : Int32) (o : Int64) (left : Nat) (M : Int), d + k = n → bI (bOf s) M → M + 990 * k ≤ 999999 → left < 2 ^ 31 →
    (∀ s' m', bOf s' = (psS (cuZ μ) k left o (bOf s)).2 → Post (some (.long (psS (cuZ μ) k left o (bOf s)).1)) (putS μ s' m')) →
    AW X 8 [some (.ref (X.G.ad 11 0)), none, some (.int (nI n)), some (.long o), none, some (.int (nI left)), some (.int (nI d)), none, none, none] [] (putS μ s m) := by
  obtain ⟨-, -, n4⟩ := cOk_n hc
  have hhi : vp_in (μ.1 36 0 0) 5 := hc.1
  have ehi : nHi (cuZ μ) = ix (μ.1 36 0 0) := rfl
  have eh : μ.1 36 0 0 = nI (nHi (cuZ μ)) := vof hhi (by omega)
  intro k
  induction k with
  | zero =>
    intro d s m o left M hd I hM hl K
    refine st_X11_passes_8 hX hr ⟨fun _ => K s m rfl, fun q => absurd ?_ q⟩
    exact nI_le (by omega) (by omega)
  | succ k ih =>
    intro d s m o left M hd I hM hl K
    refine st_X11_passes_8 hX hr ⟨fun q => absurd q (nI_ge (by omega) (by omega)), fun _ => ?_⟩
    have p2 : 2 ^ nHi (cuZ μ) < 2 ^ 31 := Nat.pow_lt_pow_right (by omega) (by omega)
    have p0 : 0 < 2 ^ nHi (cuZ μ) := Nat.pow_pos (by omega)
    simp only [forall_eq, pS_36]
    rw [eh, sh1 (by omega), nI_rem hl p2, nI_div hl p2]
    refine ⟨nI_ne0 p0 p2, ?_⟩
    obtain ⟨J, J2⟩ := live_inv hc (w := nI (left % 2 ^ nHi (cuZ μ))) I (by omega)
    refine rp_43 hX hr hlv hc J (fun s' m' h' => ?_) (nHi (cuZ μ)) 0 (by omega)
    rw [nI_1]
    refine ih (d + 1) s' m' _ (left / 2 ^ nHi (cuZ μ)) (M + 990) (by omega) (by rw [h']; exact J2) (by omega) (Nat.lt_of_le_of_lt (Nat.div_le_self _ _) hl) (fun s2 m2 h2 => ?_)
    rw [h'] at h2 ⊢
    exact K s2 m2 h2
end RP
theorem cr_passes {lc : Launch} {G : zG} {μ : zM} {s : Nat → Int32} {m : Int32} {wn n : Nat} {M : Int} (hc : cOk (cuZ μ)) (I : bI (bOf s) M) (hn : n ≤ 12) (hM : M + 990 * n ≤ 999999) (hw : wn < 2 ^ 31) :
    zCT lc G 3 yX11_passes cX11_passes 10 (some .long) [.ref (G.ad 11 0), .int (nI wn), .int (nI n)] (putS μ s m) (zJ fun r μ' => r = (psS (cuZ μ) n wn 1 (bOf s)).1 ∧ ∃ s' m', μ' = putS μ s' m' ∧ bOf s' = (psS (cuZ μ) n wn 1 (bOf s)).2) := by
  refine zCT_of (by decide) (Nat.le_of_ble_eq_true rfl) rfl (fun X hl0 hG hX hr => ?_)
  subst hG
  exact st_X11_passes_0 hX hr (rp_8 hX hr (by omega) hc hn n 0 s m 1 wn M (by omega) I (by omega) hw (fun s' m' h' => ⟨_, rfl, rfl, s', m', rfl, h'⟩))
def p8 : Nat → Int64
  | 0 => 1
  | n + 1 => p8 n * 8
theorem cr_allOdds {lc : Launch} {G : zG} {μ : zM} {h n : Nat} (eh : μ.1 36 0 0 = nI h) (hn : h * n ≤ 12) :
    zCT lc G 0 yX11_allOdds cX11_allOdds 5 (some .long) [.ref (G.ad 11 0), .int (nI n)] μ (zJ fun r μ' => r = p8 (h * n) ∧ μ' = μ) := by
  refine zCT_of (by decide) (Nat.le_of_ble_eq_true rfl) rfl (fun X hl0 hG hX hr => ?_)
  subst hG
  have go : ∀ k i, i + k = h * n → AW X 5 [some (.ref (X.G.ad 11 0)), some (.int (nI n)), some (.long (p8 i)), none, some (.int (nI i))] [] μ := by
    intro k
    induction k with
    | zero =>
      intro i hi
      refine st_X11_allOdds_5 hX hr ⟨fun _ => ⟨_, rfl, by rw [show i = h * n by omega], rfl⟩, fun q => absurd ?_ q⟩
      rw [eh, nI_mul]; exact nI_le (by omega) (by omega)
    | succ k ih =>
      intro i hi
      refine st_X11_allOdds_5 hX hr ⟨fun q => absurd q ?_, fun _ => ?_⟩
      · rw [eh, nI_mul]; exact nI_ge (by omega) (by omega)
      · simp only [forall_eq, nI_1]
        exact ih (i + 1) (by omega)
  exact st_X11_allOdds_0 hX hr (go (h * n) 0 (by omega))
