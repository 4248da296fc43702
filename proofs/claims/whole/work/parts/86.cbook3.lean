/-! THE CLASS'S BOOK: settle, closePaid, live -/
theorem bS_tk {cu ν b : zB} {s : Nat → Int32} (h : bS cu s ν b) {l g d : Nat} (hl : l < nLo cu) (hg : g < nPe cu) (hd : d < nPe cu) (h0 : 0 ≤ (tkC b l g).toInt) :
    bS cu s (tkB ν l g d) (tkD b l g d (tkC b l g)) ∧ tkR ν l g = b2i (decide (0 < (tkC b l g).toInt)) := by
  have eC : tkC ν l g = tkC b l g := by
    unfold tkC; rw [h.2.1 g hg, (h.2.2.1 l hl).1]
  have z0 : (0 : Int32).toInt = 0 := by decide
  by_cases hp : 0 < tkC b l g
  · have hp' : 0 < (tkC b l g).toInt := by have := Int32.lt_iff_toInt_lt.mp hp; omega
    refine ⟨?_, by rw [tkR, eC, if_pos hp, decide_eq_true hp']; rfl⟩
    rw [tkB, eC, if_pos hp]
    unfold tkD
    dsimp only
    have r1 := bS_u h (j := 1) g (v := ν 1 g - tkC b l g) (w := b 1 g - tkC b l g) (by omega) (by rw [h.2.1 g hg])
    have r2 := bS_u r1 (j := 1) d (v := bU ν 1 g (ν 1 g - tkC b l g) 1 d + tkC b l g) (w := bU b 1 g (b 1 g - tkC b l g) 1 d + tkC b l g) (by omega) (by rw [r1.2.1 d hd])
    generalize bU (bU ν 1 g (ν 1 g - tkC b l g)) 1 d (bU ν 1 g (ν 1 g - tkC b l g) 1 d + tkC b l g) = ν2 at r2 ⊢
    generalize bU (bU b 1 g (b 1 g - tkC b l g)) 1 d (bU b 1 g (b 1 g - tkC b l g) 1 d + tkC b l g) = b2 at r2 ⊢
    have r3 := bS_u r2 (j := 2) l (v := ν2 2 l - tkC b l g) (w := b2 2 l - tkC b l g) (by omega) (by rw [(r2.2.2.1 l hl).1])
    exact bS_u r3 (j := 5) l (by omega) (by rw [(r3.2.2.1 l hl).2.2.2])
  · have hp' : (tkC b l g).toInt = 0 := by
      have := Int32.le_iff_toInt_le.mp (Int32.not_lt.mp hp)
      omega
    refine ⟨?_, by rw [tkR, eC, if_neg hp, decide_eq_false (by omega)]; rfl⟩
    rw [tkB, eC, if_neg hp, tkD_zero hp']
    exact h
theorem trn_row0 (cu : zB) (w : Int32) (l : Nat) (b : zB) : trn cu w l b 0 = b 0 := by
  have t : ∀ (x : zB) (g d : Nat) (v : Int32), tkD x l g d v 0 = x 0 := fun x g d v => by
    show bU (bU (bU (bU x 1 g _) 1 d _) 2 l _) 5 l _ 0 = x 0
    rw [bU_row (by decide), bU_row (by decide), bU_row (by decide), bU_row (by decide)]
  unfold trn
  split
  · rfl
  · dsimp only
    split
    · rw [t]
    · rw [t, t]
theorem ori {a b : Bool} : b2i a ||| b2i b = b2i (a || b) := by cases a <;> cases b <;> decide
theorem ori0 {a : Bool} : b2i a ||| (0 : Int32) = b2i a := by cases a <;> decide
section CB3
variable {X : zX} {lv : Nat} {Post : Option Value → zM → Prop} {μ : zM} {w : Int32} {o c : Nat} {cu : zB} {s : Nat → Int32}
set_option maxHeartbeats 2000000 in
theorem cb_set32 (hX : zOk X cX1_settle RX1 7 lv) (hr : zRt X none Post) (hlv : 0 < lv) (ho : o < 49) (hc : c < 6) (hk : cOk cu) (hR : cR cu μ c) {b0 : zB} (I : bInv b0) {x4 : Int32}
    (K : ∀ ν, bS cu s ν (rnd cu w b0) → AW X 16 [some (.ref (X.G.ad 1 o)), some (.ref (X.G.ad 2 c)), some (.int (b2i (decide (¬ w = 0)))), some (.int (b2i (decide (sO (rnd cu w b0) < sO b0)))), some (.int (x4 + 1)), none, none] [] (putB μ o ν)) :
    ∀ (k i : Nat) (ν : zB), i + k = nLo cu → bS cu s ν (fd (trn cu w) i b0) → AW X 32 [some (.ref (X.G.ad 1 o)), some (.ref (X.G.ad 2 c)), some (.int (b2i (decide (¬ w = 0)))), some (.int (b2i (decide (sO (fd (trn cu w) i b0) < sO b0)))), some (.int x4), some (.int (nI i)), none] [] (putB μ o ν) := by
  have hlo : vp_in (cu 0 2) 11 := hk.2.2.1
  have n10 := (cOk_n hk).1
  have en : nLo cu = ix (cu 0 2) := rfl
  intro k
  induction k with
  | zero =>
    intro i ν hi hb
    have ei : i = nLo cu := by omega
    subst ei
    refine st_X1_settle_32 hX hr ho hc ⟨fun c1 => ?_, fun c1 => absurd ?_ c1⟩
    · simp only [forall_eq]
      exact K ν hb
    · rw [pB_c, hR.1.2.2.1]; exact (vle hlo (by omega) (by omega)).mpr (by omega)
  | succ k ih =>
    intro i ν hi hb
    have hin : i < nLo cu := by omega
    have e0 : ix (nI i) = i := ixn (by omega)
    obtain ⟨e4, e5, -, -, -, -, -, e11⟩ := hR.2.2.2.1 i hin
    obtain ⟨I1, s1, -, -⟩ := fdt_inv hk (w := w) I i (by omega)
    obtain ⟨h10, -, -, -, -, -⟩ := cOk_at hk hin
    obtain ⟨v4, v5, v9, v11, v7⟩ := hk.2.2.2.2 i hin
    have st : fd (trn cu w) (i + 1) b0 = trn cu w i (fd (trn cu w) i b0) := rfl
    have IH := ih (i + 1)
    rw [st] at IH
    generalize fd (trn cu w) i b0 = b at *
    have n6 := (cOk_n hk).2.1
    refine st_X1_settle_32 hX hr ho hc ⟨fun c1 => absurd c1 ?_, fun c1 => ⟨vin (by omega) (by omega), ?_⟩⟩
    · rw [pB_c, hR.1.2.2.1]; intro q
      have := (vle hlo (by omega) (by omega)).mp q
      omega
    · refine ⟨0, _, hlv, cb_isCalled ho hb hin, ?_⟩
      rintro r μ' ⟨hrr, hμ⟩
      rw [hμ, hrr]
      simp only [forall_eq, nI_1, e0, pB_t, Nat.add_zero, e4, e5]
      refine ⟨fun c2 => ?_, fun c2 => ?_⟩
      · have et : trn cu w i b = b := by rw [trn, if_pos c2]
        rw [et] at IH
        exact IH ν (by omega) hb
      · have g5 := zix v5
        have g4 := zix v4
        obtain ⟨I2, s2, t2, -⟩ := tk_inv (l := i) (g := ix (cu 5 i)) (d := ix (cu 4 i)) h10 (by omega) (by omega) I1
        obtain ⟨hb1, hR1⟩ := bS_tk hb hin g5 g4 t2
        refine ⟨0, _, hlv, ct_take ho (vin (by omega) (by omega)) (vmono v5 n6) (vmono v4 n6), ?_⟩
        rintro r μ' ⟨hrr, hμ⟩
        rw [hμ, hrr]
        rw [e0]
        rw [hR1, ori]
        have et : trn cu w i b = if cu 11 i < 0 ∨ w = 0 then tkD b i (ix (cu 5 i)) (ix (cu 4 i)) (tkC b i (ix (cu 5 i))) else tkD (tkD b i (ix (cu 5 i)) (ix (cu 4 i)) (tkC b i (ix (cu 5 i)))) i (ix (cu 11 i)) (ix (cu 4 i)) (tkC (tkD b i (ix (cu 5 i)) (ix (cu 4 i)) (tkC b i (ix (cu 5 i)))) i (ix (cu 11 i))) := by
          rw [trn, if_neg c2]
        rw [et] at IH
        generalize tkD b i (ix (cu 5 i)) (ix (cu 4 i)) (tkC b i (ix (cu 5 i))) = b1 at *
        generalize tkB ν i (ix (cu 5 i)) (ix (cu 4 i)) = ν1 at *
        have m1 : (decide (sO b < sO b0) || decide (0 < (tkC b i (ix (cu 5 i))).toInt)) = decide (sO b1 < sO b0) := by
          rw [← Bool.decide_or]
          exact decide_eq_decide.mpr (by omega)
        rw [m1]
        simp only [forall_eq, nI_1, pB_t, e11, e4, ori0]
        refine ⟨fun c3 => ?_, fun c3 => ⟨fun c4 => ?_, fun c4 => ?_⟩⟩
        · have hw : w = 0 := by have := b2i0.mp c3; simpa using this
          rw [if_pos (Or.inr hw)] at IH
          exact IH ν1 (by omega) hb1
        · rw [if_pos (Or.inl (by rw [c4]; decide))] at IH
          exact IH ν1 (by omega) hb1
        · have hw : ¬ w = 0 := by have := b2i1.mp c3; simpa using this
          have v11 : vp_in (cu 11 i) (nPe cu) := by
            rcases v11 with h | h
            · exact absurd h c4
            · exact h
          have g11 := zix v11
          have hng : ¬ cu 11 i < 0 := by
            have := vp_in_iff.mp v11
            intro q
            have := Int32.lt_iff_toInt_lt.mp q
            have z : (0 : Int32).toInt = 0 := by decide
            omega
          rw [if_neg (by rintro (q | q); exact hng q; exact hw q)] at IH
          obtain ⟨I3, s3, t3, -⟩ := tk_inv (l := i) (g := ix (cu 11 i)) (d := ix (cu 4 i)) h10 (by omega) (by omega) I2
          obtain ⟨hb2, hR2⟩ := bS_tk hb1 hin g11 g4 t3
          refine ⟨0, _, hlv, ct_take ho (vin (by omega) (by omega)) (vmono v11 n6) (vmono v4 n6), ?_⟩
          rintro r μ' ⟨hrr, hμ⟩
          rw [hμ, hrr]
          rw [e0, hR2]
          have m2 : (decide (sO b1 < sO b0) || decide (0 < (tkC b1 i (ix (cu 11 i))).toInt)) = decide (sO (tkD b1 i (ix (cu 11 i)) (ix (cu 4 i)) (tkC b1 i (ix (cu 11 i)))) < sO b0) := by
            rw [← Bool.decide_or]
            exact decide_eq_decide.mpr (by omega)
          refine ⟨fun c5 => ?_, fun c5 => ?_⟩
          · rw [b2i0.mp c5, Bool.or_false] at m2
            rw [← m2] at IH
            exact IH _ (by omega) hb2
          · have e1 : b2i (decide (sO b1 < sO b0)) ||| (1 : Int32) = b2i (decide (sO (tkD b1 i (ix (cu 11 i)) (ix (cu 4 i)) (tkC b1 i (ix (cu 11 i)))) < sO b0)) := by
              rw [← m2, b2i1.mp c5]
              exact ori (b := true)
            rw [e1]
            exact IH _ (by omega) hb2
theorem cb_set16 (hX : zOk X cX1_settle RX1 7 lv) (hr : zRt X none Post) (hlv : 0 < lv) (ho : o < 49) (hc : c < 6) (hk : cOk cu) (hR : cR cu μ c) :
    ∀ (m r : Nat) (ν b : zB) (x3 : Int32), r + m = 1000000 → bS cu s ν b → bInv b → (x3 = 0 → rnd cu w b = b) →
    (∀ ν', bS cu s ν' (itr (rnd cu w) m b) → Post none (putB μ o ν')) →
    AW X 16 [some (.ref (X.G.ad 1 o)), some (.ref (X.G.ad 2 c)), some (.int (b2i (decide (¬ w = 0)))), some (.int x3), some (.int (nI r)), none, none] [] (putB μ o ν) := by
  have eM : (1000000 : Int32) = nI 1000000 := rfl
  intro m
  induction m with
  | zero =>
    intro r ν b x3 hm hb I hx K
    refine st_X1_settle_16 hX hr ho hc ⟨fun c1 => K ν hb, fun c1 => ⟨fun c2 => K ν hb, fun c2 => absurd ?_ c2⟩⟩
    rw [eM]; exact nI_le (by omega) (by omega)
  | succ m ih =>
    intro r ν b x3 hm hb I hx K
    refine st_X1_settle_16 hX hr ho hc ⟨fun c1 => K ν (by rw [itr_fix (hx c1)]; exact hb), fun c1 => ⟨fun c2 => absurd c2 ?_, fun c2 => ?_⟩⟩
    · rw [eM]; exact nI_ge (by omega) (by omega)
    · obtain ⟨I1, s1, -, f1⟩ := rnd_inv hk (w := w) I
      have A := cb_set32 (s := s) hX hr hlv ho hc hk hR (w := w) I (x4 := nI r) (fun ν' h' => ?_) (nLo cu) 0 ν (by omega) hb
      · have e : b2i (decide (sO (fd (trn cu w) 0 b) < sO b)) = 0 := by
          rw [decide_eq_false (show ¬ sO (fd (trn cu w) 0 b) < sO b from Int.lt_irrefl _)]; rfl
        rw [e] at A
        exact A
      · rw [nI_1]
        refine ih (r + 1) ν' (rnd cu w b) _ (by omega) h' I1 (fun q => ?_) (fun ν'' h'' => K ν'' h'')
        have q := b2i0.mp q
        have q := of_decide_eq_false q
        have e := f1 (by omega)
        rw [e, e]
end CB3
section CD3
variable {l : Launch} {G : zG} {μ : zM} {o c : Nat} {cu ν b : zB} {s : Nat → Int32}
theorem cb_settle (ho : o < 49) (hc : c < 6) (hk : cOk cu) (hR : cR cu μ c) (hb : bS cu s ν b) (I : bInv b) {w : Int32} :
    zCT l G 1 yX1_settle cX1_settle 7 none [.ref (G.ad 1 o), .ref (G.ad 2 c), .int (b2i (decide (¬ w = 0)))] (putB μ o ν) (zV fun μ' => ∃ ν', μ' = putB μ o ν' ∧ bS cu s ν' (itr (rnd cu w) 1000000 b)) := by
  refine zCT_of (by decide) (Nat.le_of_ble_eq_true rfl) rfl (fun X hl hG hX hr => ?_)
  subst hG
  refine st_X1_settle_0 hX hr ho hc ⟨fun c1 => ?_, fun c1 => ?_⟩
  · refine cb_set16 hX hr (by omega) ho hc hk hR 1000000 0 ν b 0 (by omega) hb I (fun _ => ?_) (fun ν' h => ⟨rfl, ν', rfl, h⟩)
    rw [pB0, hb.1] at c1
    have n10 := (cOk_n hk).1
    have h6 : ∀ l, l < nLo cu → b 6 l = 0 := fun l hl => by
      rw [hb.2.2.2 l hl, c1, wet_bt _ (by omega), b_0]; rfl
    unfold rnd
    have : ∀ n, n ≤ nLo cu → fd (trn cu w) n b = b := by
      intro n
      induction n with
      | zero => intro _; rfl
      | succ n ih =>
        intro hn
        show trn cu w n (fd (trn cu w) n b) = b
        rw [ih (by omega), trn, if_pos (h6 n (by omega))]
    exact this _ (Nat.le_refl _)
  · exact cb_set16 hX hr (by omega) ho hc hk hR 1000000 0 ν b 1 (by omega) hb I (fun q => absurd q (by decide)) (fun ν' h => ⟨rfl, ν', rfl, h⟩)
end CD3
