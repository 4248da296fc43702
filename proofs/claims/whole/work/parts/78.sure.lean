def gaW (vw : Nat → Int32 → Int32) (py pr : Nat → Int32) (set wet : Int32) : Nat → Int32
  | 0 => 0
  | b + 1 => if (set >>> (nI b &&& 31)) &&& 1 = 1 then gaW vw py pr set wet b + ((if vw b wet = 0 then 0 else py b) - pr b) else gaW vw py pr set wet b
theorem gaS_W {vals : Nat → (Nat → Int32) → Int32} {vw : Nat → Int32 → Int32} {py pr V : Nat → Int32} {set wet : Int32} : ∀ nb, (∀ i, i < nb → vals i (vaS V wet 4) = vw i wet) → gaS vals py pr (vaS V wet 4) set nb = gaW vw py pr set wet nb
  | 0, _ => rfl
  | nb + 1, h => by
    rw [gaS, gaW, gaS_W nb (fun i hi => h i (by omega)), h nb (by omega)]
/-- the bets of block 0, and what each gives in each weather -/
def BW (μ : zM) (nb : Nat) (vw : Nat → Int32 → Int32) : Prop := ∃ vals, BO μ nb vals ∧ ∀ i, i < nb → ∀ V wet, vals i (vaS V wet 4) = vw i wet
theorem BW_frm {μ ν : zM} (h : frm gaP noQ μ ν) {nb : Nat} {vw : Nat → Int32 → Int32} (hB : BW μ nb vw) : BW ν nb vw := by
  obtain ⟨vals, h1, h2⟩ := hB
  exact ⟨vals, BO_frm h h1, h2⟩
theorem cr_gainsW {lc : Launch} {G : zG} {μ : zM} {nb : Nat} {vw : Nat → Int32 → Int32} {x1 x2 : Int32} (hB : BW μ nb vw) (hn : nb ≤ 8) (en : μ.1 39 0 0 = nI nb) :
    zCT lc G 3 yX11_gains cX11_gains 5 (some .int) [.ref (G.ad 11 0), .int x1, .int x2] μ (zI fun r μ' => r = gaW vw (μ.1 54 0) (μ.1 53 0) x1 x2 nb ∧ frm gaP noQ μ μ') := by
  obtain ⟨vals, h1, h2⟩ := hB
  have ct := cr_gains (lc := lc) (G := G) (x1 := x1) (x2 := x2) h1 hn en
  rw [gaS_W nb (fun i hi => h2 i hi _ _)] at ct
  exact ct
theorem BW_11 {μ : zM} {k : Nat} {v : Int32} {nb : Nat} {vw : Nat → Int32 → Int32} (hB : BW μ nb vw) : BW (pI μ 11 0 k v) nb vw := by
  obtain ⟨vals, h1, h2⟩ := hB
  refine ⟨vals, fun i hi => ?_, h2⟩
  obtain ⟨L, a, g1, g2, g3, g4, g5⟩ := h1 i hi
  exact ⟨L, a, g1, by rw [pI_other _ _ _ _ _ _ (by decide)]; exact g2, by rw [pI_other _ _ _ _ _ _ (by decide)]; exact g3, fun j hj => by rw [pI_other _ _ _ _ _ _ (by decide)]; exact g4 j hj, g5⟩
def gnOk (μ : zM) (x1 x2 : Int32) : Bool := inR x1 ((1 : Int32) <<< ((μ.1 39 0 0) &&& 31)) && inR x2 ((1 : Int32) <<< ((μ.1 36 0 0) &&& 31))
set_option maxHeartbeats 1000000 in
theorem cr_gain {lc : Launch} {G : zG} {μ : zM} {nb : Nat} {vw : Nat → Int32 → Int32} {x1 x2 : Int32} (hB : BW μ nb vw) (hn : nb ≤ 8) (en : μ.1 39 0 0 = nI nb) :
    zCT lc G 4 yX11_gain cX11_gain 3 (some .int) [.ref (G.ad 11 0), .int x1, .int x2] μ (zI fun r μ' => if gnOk μ x1 x2 = true then r = gaW vw (μ.1 54 0) (μ.1 53 0) x1 x2 nb ∧ frm gaP noQ (pI μ 11 0 0 0) μ' else r = 0 ∧ μ' = pI μ 11 0 0 1) := by
  refine zCT_of (by decide) (Nat.le_of_ble_eq_true rfl) rfl (fun X hl0 hG hX hr => ?_)
  subst hG
  refine st_X11_gain_0 hX hr ?_
  simp only [forall_eq, pI_at]
  refine ⟨fun c1 => ⟨fun z => absurd trivial z, fun _ => ⟨_, rfl, ?_⟩⟩, fun c1 => ⟨fun c2 => ⟨fun z => absurd trivial z, fun _ => ⟨_, rfl, ?_⟩⟩, fun c2 => ⟨0, _, by omega, cr_isWeather, ?_⟩⟩⟩
  · have hz : ¬ gnOk μ x1 x2 = true := by simp [gnOk, inR, c1]
    dsimp only
    rw [if_neg hz]
    exact ⟨rfl, rfl⟩
  · have hz : ¬ gnOk μ x1 x2 = true := by simp [gnOk, inR, c2]
    dsimp only
    rw [if_neg hz]
    exact ⟨rfl, rfl⟩
  · rintro r ν ⟨rfl, hν⟩
    rw [hν]
    refine ⟨fun z => ⟨fun y => absurd trivial y, fun _ => ⟨_, rfl, ?_⟩⟩, fun z => ⟨fun _ => ⟨3, _, by omega, cr_gainsW (BW_11 hB) hn (by rw [pI_other _ _ _ _ _ _ (by decide)]; exact en), ?_⟩, fun y => absurd y (by decide)⟩⟩
    · have z' := b2i0.mp z
      have hz : ¬ gnOk μ x1 x2 = true := by simp [gnOk, z']
      dsimp only
      rw [if_neg hz]
      exact ⟨rfl, rfl⟩
    · have z' := b2i1.mp z
      rintro r m ⟨rfl, fm⟩
      refine ⟨_, rfl, ?_⟩
      have h1 : inR x1 ((1 : Int32) <<< ((μ.1 39 0 0) &&& 31)) = true := by rw [inR, decide_eq_true c1, decide_eq_true c2]; rfl
      have hz : gnOk μ x1 x2 = true := by rw [gnOk, h1, z']; rfl
      dsimp only
      rw [if_pos hz]
      refine ⟨?_, fm⟩
      rw [pI_row2 _ _ _ _ _ (by decide), pI_row2 _ _ _ _ _ (by decide)]
/-- the least that a set gains in the weathers 0 .. w -/
def lsW (g : Int32 → Int32 → Int32) (set : Int32) : Nat → Int32
  | 0 => g set 0
  | w + 1 => if g set (nI (w + 1)) < lsW g set w then g set (nI (w + 1)) else lsW g set w
def suS (g : Int32 → Int32 → Int32) (W : Nat) : Nat → Int32 × Int32
  | 0 => (0, 0)
  | s + 1 => if s = 0 ∨ (suS g W s).2 < lsW g (nI s) W then (nI s, lsW g (nI s) W) else suS g W s
set_option maxHeartbeats 1000000 in
theorem cr_sure {lc : Launch} {G : zG} {μ : zM} {nb nh : Nat} {vw : Nat → Int32 → Int32} {x1 : Int32} (hB : BW μ nb vw) (hn : nb ≤ 8) (en : μ.1 39 0 0 = nI nb) (hh : nh ≤ 4) (eh : μ.1 36 0 0 = nI nh) :
    zCT lc G 4 yX11_sure cX11_sure 7 (some .int) [.ref (G.ad 11 0), .int x1] μ (zI fun r μ' => r = (if wthn x1 0 1 = true then (if x1 = 0 then (suS (fun s w => gaW vw (μ.1 54 0) (μ.1 53 0) s w nb) (2 ^ nh - 1) (2 ^ nb)).2 else (suS (fun s w => gaW vw (μ.1 54 0) (μ.1 53 0) s w nb) (2 ^ nh - 1) (2 ^ nb)).1) else -1) ∧ frm gaP noQ (pI μ 11 0 0 0) μ') := by
  refine zCT_of (by decide) (Nat.le_of_ble_eq_true rfl) rfl (fun X hl0 hG hX hr => ?_)
  subst hG
  refine st_X11_sure_0 hX hr ?_
  simp only [forall_eq]
  have hB0 : BW (pI μ 11 0 0 0) nb vw := BW_11 hB
  have en0 : (pI μ 11 0 0 0).1 39 0 0 = nI nb := by rw [pI_other _ _ _ _ _ _ (by decide)]; exact en
  have eh0 : (pI μ 11 0 0 0).1 36 0 0 = nI nh := by rw [pI_other _ _ _ _ _ _ (by decide)]; exact eh
  have e54 : (pI μ 11 0 0 0).1 54 0 = μ.1 54 0 := pI_row2 _ _ _ _ _ (by decide)
  have e53 : (pI μ 11 0 0 0).1 53 0 = μ.1 53 0 := pI_row2 _ _ _ _ _ (by decide)
  rw [← e54, ← e53] at hr
  generalize pI μ 11 0 0 0 = μ at *
  refine ⟨0, _, by omega, cr_within, ?_⟩
  rintro r ν ⟨rfl, hν⟩
  rw [hν]
  refine ⟨fun z => ?_, fun z => ⟨_, rfl, ?_, frm.rf _⟩⟩
  · have z' := b2i1.mp z
    rw [if_pos z'] at hr
    have pb : 2 ^ nb ≤ 2 ^ 8 := Nat.pow_le_pow_right (by omega) hn
    have ph : 2 ^ nh ≤ 2 ^ 4 := Nat.pow_le_pow_right (by omega) hh
    have pb1 : 1 ≤ 2 ^ nb := Nat.one_le_two_pow
    have ph1 : 1 ≤ 2 ^ nh := Nat.one_le_two_pow
    generalize eg : (fun s w => gaW vw (μ.1 54 0) (μ.1 53 0) s w nb) = g at hr
    have cg : ∀ (s w : Int32) (ν : zM), frm gaP noQ μ ν → zCT X.l X.G 3 yX11_gains cX11_gains 5 (some .int) [.ref (X.G.ad 11 0), .int s, .int w] ν (zI fun r μ' => r = g s w ∧ frm gaP noQ μ μ') := by
      intro s w ν hf
      refine zCT_post (cr_gainsW (BW_frm hf hB0) hn (by rw [hf.1 39 0 0 rfl]; exact en0)) ?_
      rintro rv μ' ⟨r, rfl, rfl, h2⟩
      refine ⟨_, rfl, ?_, hf.trans h2⟩
      rw [← eg, show ν.1 54 0 = μ.1 54 0 by funext k; exact hf.1 54 0 k rfl, show ν.1 53 0 = μ.1 53 0 by funext k; exact hf.1 53 0 k rfl]
    have l23 : ∀ k s (ν : zM), s + k = 2 ^ nb → frm gaP noQ μ ν → AW X 23 [some (.ref (X.G.ad 11 0)), some (.int x1), some (.int (suS g (2 ^ nh - 1) s).1), some (.int (suS g (2 ^ nh - 1) s).2), some (.int (nI s)), none, none] [] ν := by
      intro k
      induction k with
      | zero =>
        intro s ν hs hf
        refine st_X11_sure_23 hX hr ?_
        rw [hf.1 39 0 0 rfl, en0, sh1 (by omega)]
        have es : s = 2 ^ nb := by omega
        refine ⟨fun _ => ⟨fun y => ⟨_, rfl, ?_, hf⟩, fun y => ⟨_, rfl, ?_, hf⟩⟩, fun y => absurd (nI_le (by omega) (by omega)) y⟩
        · rw [if_neg y, es]
        · rw [if_pos y, es]
      | succ k ih =>
        intro s ν hs hf
        refine st_X11_sure_23 hX hr ?_
        rw [hf.1 39 0 0 rfl, en0, sh1 (by omega)]
        refine ⟨fun y => absurd ((nI_leI (by omega) (by omega)).mp y) (by omega), fun _ => ⟨3, _, by omega, cg _ _ ν hf, ?_⟩⟩
        rintro r ν2 ⟨rfl, f2⟩
        have l48 : ∀ k w (ν : zM), w + k = 2 ^ nh - 1 → frm gaP noQ μ ν → AW X 48 [some (.ref (X.G.ad 11 0)), some (.int x1), some (.int (suS g (2 ^ nh - 1) s).1), some (.int (suS g (2 ^ nh - 1) s).2), some (.int (nI s)), some (.int (lsW g (nI s) w)), some (.int (nI (w + 1)))] [] ν := by
          intro k
          induction k with
          | zero =>
            intro w ν hw hf
            refine st_X11_sure_48 hX hr ⟨0, _, by omega, cr_isWeather, ?_⟩
            rintro r ν1 ⟨rfl, hν1⟩
            rw [hν1, hf.1 36 0 0 rfl, eh0, sh1 (by omega)]
            have ew : w + 1 = 2 ^ nh := by omega
            have e0 : inR (nI (w + 1)) (nI (2 ^ nh)) = false := by
              rw [ew, inR, decide_eq_false (p := ¬ nI (2 ^ nh) ≤ nI (2 ^ nh)) (fun h => h (nI_le (by omega) (by omega)))]
              exact Bool.and_false _
            rw [e0]
            have nx := ih (s + 1) ν (by omega) hf
            rw [suS] at nx
            rw [show w = 2 ^ nh - 1 by omega]
            simp only [forall_eq, nI_1]
            refine ⟨fun _ => ⟨fun y => ?_, fun y => ⟨fun y2 => ?_, fun y2 => ?_⟩⟩, fun y => absurd rfl y⟩
            · have s0 : s = 0 := by
                have := (nI_leI (a := s) (b := 0) (by omega) (by omega)).mp y
                omega
              rw [if_pos (Or.inl s0)] at nx
              exact nx
            · rw [if_pos (Or.inr y2)] at nx
              exact nx
            · have s0 : s ≠ 0 := fun h => y (by rw [h]; exact nI_le (a := 0) (b := 0) (by omega) (by omega))
              rw [if_neg (fun h => h.elim s0 y2)] at nx
              exact nx
          | succ k ihw =>
            intro w ν hw hf
            refine st_X11_sure_48 hX hr ⟨0, _, by omega, cr_isWeather, ?_⟩
            rintro r ν1 ⟨rfl, hν1⟩
            rw [hν1, hf.1 36 0 0 rfl, eh0, sh1 (by omega)]
            have e1 : inR (nI (w + 1)) (nI (2 ^ nh)) = true := by
              rw [inR, decide_eq_true (p := ¬ nI (w + 1) < 0) (Int32.not_lt.mpr (nI_le (a := 0) (b := w + 1) (by omega) (by omega))), decide_eq_true (p := ¬ nI (2 ^ nh) ≤ nI (w + 1)) (fun h => absurd ((nI_leI (by omega) (by omega)).mp h) (by omega))]
              rfl
            rw [e1]
            refine ⟨fun y => absurd y (by decide), fun _ => ⟨3, _, by omega, cg _ _ ν hf, ?_⟩⟩
            rintro r ν3 ⟨rfl, f3⟩
            simp only [forall_eq, nI_1]
            have nx := ihw (w + 1) ν3 (by omega) f3
            rw [lsW] at nx
            exact ⟨by omega, nx⟩
        exact l48 (2 ^ nh - 1) 0 ν2 (by omega) f2
    exact l23 (2 ^ nb) 0 μ (by omega) (frm.rf _)
  · rw [if_neg (by rw [b2i0.mp z]; decide)]
