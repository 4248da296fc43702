/-! THE CLASS'S BOOK: ripen, callAllIn, joinDue, calledOn -/
def ripF (cu : zB) (w : Int32) (l : Nat) (b : zB) : zB :=
  if b 3 l = 2 then b else if ripS cu l w = true then
    (let b1 := bU b 4 l (b 4 l + 1); let b2 := bU b1 2 l (b1 2 l + cu 7 l); if b2 3 l = 0 ∧ ¬ b2 4 l < cu 8 l then bU b2 3 l 1 else b2) else b
def allF (cu : zB) (l : Nat) (b : zB) : zB := if b 3 l = 0 ∧ ¬ cu 10 l = 4 then bU b 3 l 1 else b
section CB
variable {X : zX} {lv : Nat} {Post : Option Value → zM → Prop} {μ : zM} {w : Int32} {o c : Nat} {cu b0 : zB} {s : Nat → Int32}
set_option maxHeartbeats 1000000 in
theorem cb_ripen2 (hX : zOk X cX1_ripen RX1 4 lv) (hr : zRt X none Post) (hlv : 0 < lv) (ho : o < 49) (hc : c < 6) (hk : cOk cu) (hR : cR cu μ c)
    (K : ∀ ν, bS cu s ν (fd (ripF cu w) (nLo cu) b0) → Post none (putB μ o ν)) :
    ∀ (k i : Nat) (ν : zB), i + k = nLo cu → bS cu s ν (fd (ripF cu w) i b0) → AW X 2 [some (.ref (X.G.ad 1 o)), some (.ref (X.G.ad 2 c)), some (.int w), some (.int (nI i))] [] (putB μ o ν) := by
  have hlo : vp_in (cu 0 2) 11 := hk.2.2.1
  have n10 := (cOk_n hk).1
  have en : nLo cu = ix (cu 0 2) := rfl
  intro k
  induction k with
  | zero =>
    intro i ν hi hb
    refine st_X1_ripen_2 hX hr ho hc ⟨fun c1 => K ν (by rw [← show i = nLo cu by omega]; exact hb), fun c1 => absurd ?_ c1⟩
    rw [pB_c, hR.1.2.2.1]; exact (vle hlo (by omega) (by omega)).mpr (by omega)
  | succ k ih =>
    intro i ν hi hb
    have e0 : ix (nI i) = i := ixn (by omega)
    obtain ⟨-, -, -, e7, e8, -, -, -⟩ := hR.2.2.2.1 i (by omega)
    obtain ⟨q2, q3, q4, q5⟩ := hb.2.2.1 i (by omega)
    have st : fd (ripF cu w) (i + 1) b0 = ripF cu w i (fd (ripF cu w) i b0) := rfl
    generalize fd (ripF cu w) i b0 = b at *
    refine st_X1_ripen_2 hX hr ho hc ⟨fun c1 => absurd c1 ?_, fun c1 => ?_⟩
    · rw [pB_c, hR.1.2.2.1]; intro q
      have := (vle hlo (by omega) (by omega)).mp q
      omega
    · simp only [forall_eq, nI_1, e0, pB3]
      refine ⟨vin (by omega) (by omega), fun c2 => ih (i + 1) ν (by omega) ?_, fun c2 => ?_⟩
      · rw [st, ripF, if_pos (by rw [← q3]; exact c2)]; exact hb
      · refine ⟨0, _, hlv, cc_isRipe (cR_pB hR) hc (by omega) (by omega), ?_⟩
        rintro r μ' ⟨rfl, rfl⟩
        have c2' : ¬ b 3 i = 2 := by rw [← q3]; exact c2
        refine ⟨fun c3 => ih (i + 1) ν (by omega) ?_, fun c3 => ?_⟩
        · rw [st, ripF, if_neg c2', if_neg (by rw [b2i0.mp c3]; decide)]; exact hb
        · simp only [pB2, pB3, pB4, pBI2, pBI3, pBI4, pB_t, Nat.add_zero, e7, e8]
          have r1 := bS_u hb (j := 4) i (v := ν 4 i + 1) (w := b 4 i + 1) (by omega) (by rw [q4])
          obtain ⟨s2, -, -, -⟩ := r1.2.2.1 i (by omega)
          have r2 := bS_u r1 (j := 2) i (v := bU ν 4 i (ν 4 i + 1) 2 i + cu 7 i) (w := bU b 4 i (b 4 i + 1) 2 i + cu 7 i) (by omega) (by rw [s2])
          obtain ⟨-, t3, t4, -⟩ := r2.2.2.1 i (by omega)
          rw [t3, t4]
          have st2 : ripF cu w i b = if bU (bU b 4 i (b 4 i + 1)) 2 i (bU b 4 i (b 4 i + 1) 2 i + cu 7 i) 3 i = 0 ∧ ¬ bU (bU b 4 i (b 4 i + 1)) 2 i (bU b 4 i (b 4 i + 1) 2 i + cu 7 i) 4 i < cu 8 i then bU (bU (bU b 4 i (b 4 i + 1)) 2 i (bU b 4 i (b 4 i + 1) 2 i + cu 7 i)) 3 i 1 else bU (bU b 4 i (b 4 i + 1)) 2 i (bU b 4 i (b 4 i + 1) 2 i + cu 7 i) := by
            rw [ripF, if_neg c2', if_pos (b2i1.mp c3)]
          refine ⟨fun c4 => ih (i + 1) _ (by omega) ?_, fun c4 => ⟨fun c5 => ih (i + 1) _ (by omega) ?_, fun c5 => ih (i + 1) _ (by omega) ?_⟩⟩
          · rw [st, st2, if_neg (fun h => c4 h.1)]; exact r2
          · rw [st, st2, if_neg (fun h => h.2 c5)]; exact r2
          · rw [st, st2, if_pos ⟨c4, c5⟩]; exact bS_u r2 i (by omega) rfl
set_option maxHeartbeats 1000000 in
theorem cb_all2 (hX : zOk X cX1_callAllIn RX1 3 lv) (hr : zRt X none Post) (ho : o < 49) (hc : c < 6) (hk : cOk cu) (hR : cR cu μ c)
    (K : ∀ ν, bS cu s ν (fd (allF cu) (nLo cu) b0) → Post none (putB μ o ν)) :
    ∀ (k i : Nat) (ν : zB), i + k = nLo cu → bS cu s ν (fd (allF cu) i b0) → AW X 2 [some (.ref (X.G.ad 1 o)), some (.ref (X.G.ad 2 c)), some (.int (nI i))] [] (putB μ o ν) := by
  have hlo : vp_in (cu 0 2) 11 := hk.2.2.1
  have n10 := (cOk_n hk).1
  have en : nLo cu = ix (cu 0 2) := rfl
  intro k
  induction k with
  | zero =>
    intro i ν hi hb
    refine st_X1_callAllIn_2 hX hr ho hc ⟨fun c1 => K ν (by rw [← show i = nLo cu by omega]; exact hb), fun c1 => absurd ?_ c1⟩
    rw [pB_c, hR.1.2.2.1]; exact (vle hlo (by omega) (by omega)).mpr (by omega)
  | succ k ih =>
    intro i ν hi hb
    have e0 : ix (nI i) = i := ixn (by omega)
    obtain ⟨-, -, -, -, -, -, e10, -⟩ := hR.2.2.2.1 i (by omega)
    obtain ⟨q2, q3, q4, q5⟩ := hb.2.2.1 i (by omega)
    have st : fd (allF cu) (i + 1) b0 = allF cu i (fd (allF cu) i b0) := rfl
    generalize fd (allF cu) i b0 = b at *
    refine st_X1_callAllIn_2 hX hr ho hc ⟨fun c1 => absurd c1 ?_, fun c1 => ?_⟩
    · rw [pB_c, hR.1.2.2.1]; intro q
      have := (vle hlo (by omega) (by omega)).mp q
      omega
    · simp only [forall_eq, nI_1, e0, pB3, pBI3, pB_t, Nat.add_zero, e10, q3]
      refine ⟨vin (by omega) (by omega), fun c2 => ih (i + 1) ν (by omega) ?_, fun c2 => ⟨fun c3 => ih (i + 1) ν (by omega) ?_, fun c3 => ih (i + 1) _ (by omega) ?_⟩⟩
      · rw [st, allF, if_neg (fun h => c2 h.1)]; exact hb
      · rw [st, allF, if_neg (fun h => h.2 c3)]; exact hb
      · rw [st, allF, if_pos ⟨c2, c3⟩]; exact bS_u hb i (by omega) rfl
set_option maxHeartbeats 1000000 in
theorem cb_has2 (hX : zOk X cX1_hasDueLoan RX1 4 lv) (hr : zRt X (some .boolean) Post) (ho : o < 49) (hc : c < 6) (hk : cOk cu) (hR : cR cu μ c) {ν b : zB} (hb : bS cu s ν b) {j : Nat}
    (K : Post (some (.int (b2i (anyD cu b j (nLo cu))))) (putB μ o ν)) :
    ∀ (k i : Nat), i + k = nLo cu → anyD cu b j i = false → AW X 2 [some (.ref (X.G.ad 1 o)), some (.ref (X.G.ad 2 c)), some (.int (cu 5 j)), some (.int (nI i))] [] (putB μ o ν) := by
  have hlo : vp_in (cu 0 2) 11 := hk.2.2.1
  have n10 := (cOk_n hk).1
  have en : nLo cu = ix (cu 0 2) := rfl
  have mono : ∀ k i, anyD cu b j i = true → anyD cu b j (i + k) = true := by
    intro k
    induction k with
    | zero => intro i h; exact h
    | succ k ih => intro i h; rw [show i + (k + 1) = i + k + 1 by omega]; simp only [anyD]; rw [ih i h]; rfl
  intro k
  induction k with
  | zero =>
    intro i hi ha
    refine st_X1_hasDueLoan_2 hX hr ho hc ⟨fun c1 => ?_, fun c1 => absurd ?_ c1⟩
    · rw [← show i = nLo cu by omega, ha] at K; exact K
    · rw [pB_c, hR.1.2.2.1]; exact (vle hlo (by omega) (by omega)).mpr (by omega)
  | succ k ih =>
    intro i hi ha
    have e0 : ix (nI i) = i := ixn (by omega)
    obtain ⟨-, e5, -, -, -, -, -, -⟩ := hR.2.2.2.1 i (by omega)
    obtain ⟨q2, q3, q4, q5⟩ := hb.2.2.1 i (by omega)
    refine st_X1_hasDueLoan_2 hX hr ho hc ⟨fun c1 => absurd c1 ?_, fun c1 => ?_⟩
    · rw [pB_c, hR.1.2.2.1]; intro q
      have := (vle hlo (by omega) (by omega)).mp q
      omega
    · simp only [forall_eq, nI_1, e0, pB3, pB_t, Nat.add_zero, e5, q3]
      refine ⟨vin (by omega) (by omega), fun c2 => ih (i + 1) (by omega) ?_, fun c2 => ⟨fun c3 => ih (i + 1) (by omega) ?_, fun c3 => ?_⟩⟩
      · simp [anyD, ha, c2]
      · simp [anyD, ha, c3]
      · have : anyD cu b j (nLo cu) = true := by
          rw [show nLo cu = i + 1 + k by omega]
          exact mono k (i + 1) (by simp [anyD, c2, c3])
        rw [this] at K; exact K
theorem cb_has {l : Launch} {G : zG} (ho : o < 49) (hc : c < 6) (hk : cOk cu) (hR : cR cu μ c) {ν b : zB} (hb : bS cu s ν b) {j : Nat} :
    zCT l G 0 yX1_hasDueLoan cX1_hasDueLoan 4 (some .boolean) [.ref (G.ad 1 o), .ref (G.ad 2 c), .int (cu 5 j)] (putB μ o ν) (zI fun r μ' => r = b2i (anyD cu b j (nLo cu)) ∧ μ' = putB μ o ν) := by
  refine zCT_of (by decide) (Nat.le_of_ble_eq_true rfl) rfl (fun X hl hG hX hr => ?_)
  subst hG
  exact st_X1_hasDueLoan_0 hX hr ho hc (cb_has2 hX hr ho hc hk hR hb ⟨_, rfl, rfl, rfl⟩ (nLo cu) 0 (by omega) rfl)
set_option maxHeartbeats 1000000 in
theorem cb_join2 (hX : zOk X cX1_joinDue RX1 3 lv) (hr : zRt X none Post) (hlv : 0 < lv) (ho : o < 49) (hc : c < 6) (hk : cOk cu) (hR : cR cu μ c)
    (K : ∀ ν, bS cu s ν (fd (jnd cu) (nLo cu) b0) → Post none (putB μ o ν)) :
    ∀ (k i : Nat) (ν : zB), i + k = nLo cu → bS cu s ν (fd (jnd cu) i b0) → AW X 2 [some (.ref (X.G.ad 1 o)), some (.ref (X.G.ad 2 c)), some (.int (nI i))] [] (putB μ o ν) := by
  have hlo : vp_in (cu 0 2) 11 := hk.2.2.1
  have n10 := (cOk_n hk).1
  have en : nLo cu = ix (cu 0 2) := rfl
  intro k
  induction k with
  | zero =>
    intro i ν hi hb
    refine st_X1_joinDue_2 hX hr ho hc ⟨fun c1 => K ν (by rw [← show i = nLo cu by omega]; exact hb), fun c1 => absurd ?_ c1⟩
    rw [pB_c, hR.1.2.2.1]; exact (vle hlo (by omega) (by omega)).mpr (by omega)
  | succ k ih =>
    intro i ν hi hb
    have e0 : ix (nI i) = i := ixn (by omega)
    obtain ⟨-, e5, -, -, -, -, e10, -⟩ := hR.2.2.2.1 i (by omega)
    obtain ⟨q2, q3, q4, q5⟩ := hb.2.2.1 i (by omega)
    have st : fd (jnd cu) (i + 1) b0 = jnd cu i (fd (jnd cu) i b0) := rfl
    generalize fd (jnd cu) i b0 = b at *
    refine st_X1_joinDue_2 hX hr ho hc ⟨fun c1 => absurd c1 ?_, fun c1 => ?_⟩
    · rw [pB_c, hR.1.2.2.1]; intro q
      have := (vle hlo (by omega) (by omega)).mp q
      omega
    · simp only [forall_eq, nI_1, e0, pB3, pB_t, Nat.add_zero, e10, e5, q3]
      refine ⟨vin (by omega) (by omega), fun c2 => ih (i + 1) ν (by omega) ?_, fun c2 => ⟨fun c3 => ih (i + 1) ν (by omega) ?_, fun c3 => ?_⟩⟩
      · rw [st, jnd, if_neg (fun h => c2 h.2.1)]; exact hb
      · rw [st, jnd, if_neg (fun h => c3 h.1)]; exact hb
      · refine ⟨0, _, hlv, cb_has ho hc hk hR hb, ?_⟩
        rintro r μ' ⟨rfl, rfl⟩
        simp only [pBI3]
        refine ⟨fun c4 => ih (i + 1) ν (by omega) ?_, fun c4 => ih (i + 1) _ (by omega) ?_⟩
        · rw [st, jnd, if_neg (fun h => by rw [b2i0.mp c4] at h; exact absurd h.2.2 (by decide))]; exact hb
        · rw [st, jnd, if_pos ⟨c3, c2, b2i1.mp c4⟩]; exact bS_u hb i (by omega) rfl
end CB
section CD
variable {l : Launch} {G : zG} {μ : zM} {o c : Nat} {cu ν b : zB} {s : Nat → Int32}
theorem cb_ripen (ho : o < 49) (hc : c < 6) (hk : cOk cu) (hR : cR cu μ c) (hb : bS cu s ν b) {w : Int32} :
    zCT l G 1 yX1_ripen cX1_ripen 4 none [.ref (G.ad 1 o), .ref (G.ad 2 c), .int w] (putB μ o ν) (zV fun μ' => ∃ ν', μ' = putB μ o ν' ∧ bS cu s ν' (fd (ripF cu w) (nLo cu) b)) := by
  refine zCT_of (by decide) (Nat.le_of_ble_eq_true rfl) rfl (fun X hl hG hX hr => ?_)
  subst hG
  exact st_X1_ripen_0 hX hr ho hc (cb_ripen2 hX hr (by omega) ho hc hk hR (fun ν' h => ⟨rfl, ν', rfl, h⟩) (nLo cu) 0 ν (by omega) hb)
theorem cb_all (ho : o < 49) (hc : c < 6) (hk : cOk cu) (hR : cR cu μ c) (hb : bS cu s ν b) :
    zCT l G 0 yX1_callAllIn cX1_callAllIn 3 none [.ref (G.ad 1 o), .ref (G.ad 2 c)] (putB μ o ν) (zV fun μ' => ∃ ν', μ' = putB μ o ν' ∧ bS cu s ν' (fd (allF cu) (nLo cu) b)) := by
  refine zCT_of (by decide) (Nat.le_of_ble_eq_true rfl) rfl (fun X hl hG hX hr => ?_)
  subst hG
  exact st_X1_callAllIn_0 hX hr ho hc (cb_all2 hX hr ho hc hk hR (fun ν' h => ⟨rfl, ν', rfl, h⟩) (nLo cu) 0 ν (by omega) hb)
theorem cb_join (ho : o < 49) (hc : c < 6) (hk : cOk cu) (hR : cR cu μ c) (hb : bS cu s ν b) :
    zCT l G 1 yX1_joinDue cX1_joinDue 3 none [.ref (G.ad 1 o), .ref (G.ad 2 c)] (putB μ o ν) (zV fun μ' => ∃ ν', μ' = putB μ o ν' ∧ bS cu s ν' (fd (jnd cu) (nLo cu) b)) := by
  refine zCT_of (by decide) (Nat.le_of_ble_eq_true rfl) rfl (fun X hl hG hX hr => ?_)
  subst hG
  exact st_X1_joinDue_0 hX hr ho hc (cb_join2 hX hr (by omega) ho hc hk hR (fun ν' h => ⟨rfl, ν', rfl, h⟩) (nLo cu) 0 ν (by omega) hb)
end CD
