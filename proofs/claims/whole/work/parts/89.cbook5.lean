/-! THE CLASS'S BOOK: what it counts -/
def cntS (b : zB) (x : Int32) : Nat → Int32
  | 0 => 0
  | n + 1 => cntS b x n + (if b 3 n = x then 1 else 0)
def cdS (b : zB) : Nat → Int32
  | 0 => 0
  | n + 1 => cdS b n + (if b 3 n = 1 then b 2 n else 0)
theorem cnt_dues (cu b : zB) : ∀ n, cntS b 1 n = duesS cu b n
  | 0 => rfl
  | n + 1 => by simp only [cntS, duesS]; rw [cnt_dues cu b n]
section CD6
variable {l : Launch} {G : zG} {μ : zM} {o c : Nat} {cu ν b : zB}
theorem cb_loansAt (ho : o < 49) (hc : c < 6) (hk : cOk cu) (hR : cR cu μ c) (hb : bR cu ν b) {x : Int32} :
    zCT l G 0 yX1_loansAt cX1_loansAt 5 (some .int) [.ref (G.ad 1 o), .ref (G.ad 2 c), .int x] (putB μ o ν) (zI fun r μ' => r = cntS b x (nLo cu) ∧ μ' = putB μ o ν) := by
  refine zCT_of (by decide) (Nat.le_of_ble_eq_true rfl) rfl (fun X hl hG hX hr => ?_)
  subst hG
  have hlo : vp_in (cu 0 2) 11 := hk.2.2.1
  have n10 := (cOk_n hk).1
  have en : nLo cu = ix (cu 0 2) := rfl
  have go : ∀ k i, i + k = nLo cu → AW X 5 [some (.ref (X.G.ad 1 o)), some (.ref (X.G.ad 2 c)), some (.int x), some (.int (cntS b x i)), some (.int (nI i))] [] (putB μ o ν) := by
    intro k
    induction k with
    | zero =>
      intro i hi
      refine st_X1_loansAt_5 hX hr ho hc ⟨fun c1 => ⟨_, rfl, by rw [show i = nLo cu by omega], rfl⟩, fun c1 => absurd ?_ c1⟩
      rw [pB_c, hR.1.2.2.1]; exact (vle hlo (by omega) (by omega)).mpr (by omega)
    | succ k ih =>
      intro i hi
      have e0 : ix (nI i) = i := ixn (by omega)
      obtain ⟨q2, q3, q4, q5⟩ := hb.1.2.2.1 i (by omega)
      have I := ih (i + 1) (by omega)
      simp only [cntS] at I
      refine st_X1_loansAt_5 hX hr ho hc ⟨fun c1 => absurd c1 ?_, fun c1 => ?_⟩
      · rw [pB_c, hR.1.2.2.1]; intro q
        have := (vle hlo (by omega) (by omega)).mp q
        omega
      · simp only [forall_eq, nI_1, e0, pB3, q3]
        refine ⟨vin (by omega) (by omega), fun c2 => ?_, fun c2 => ?_⟩
        · rw [if_neg c2] at I; exact I
        · rw [if_pos c2] at I; exact I
  exact st_X1_loansAt_0 hX hr ho hc (go (nLo cu) 0 (by omega))
theorem cb_coinsDue (ho : o < 49) (hc : c < 6) (hk : cOk cu) (hR : cR cu μ c) (hb : bR cu ν b) :
    zCT l G 0 yX1_coinsDue cX1_coinsDue 4 (some .int) [.ref (G.ad 1 o), .ref (G.ad 2 c)] (putB μ o ν) (zI fun r μ' => r = cdS b (nLo cu) ∧ μ' = putB μ o ν) := by
  refine zCT_of (by decide) (Nat.le_of_ble_eq_true rfl) rfl (fun X hl hG hX hr => ?_)
  subst hG
  have hlo : vp_in (cu 0 2) 11 := hk.2.2.1
  have n10 := (cOk_n hk).1
  have en : nLo cu = ix (cu 0 2) := rfl
  have go : ∀ k i, i + k = nLo cu → AW X 4 [some (.ref (X.G.ad 1 o)), some (.ref (X.G.ad 2 c)), some (.int (cdS b i)), some (.int (nI i))] [] (putB μ o ν) := by
    intro k
    induction k with
    | zero =>
      intro i hi
      refine st_X1_coinsDue_4 hX hr ho hc ⟨fun c1 => ⟨_, rfl, by rw [show i = nLo cu by omega], rfl⟩, fun c1 => absurd ?_ c1⟩
      rw [pB_c, hR.1.2.2.1]; exact (vle hlo (by omega) (by omega)).mpr (by omega)
    | succ k ih =>
      intro i hi
      have e0 : ix (nI i) = i := ixn (by omega)
      obtain ⟨q2, q3, q4, q5⟩ := hb.1.2.2.1 i (by omega)
      have I := ih (i + 1) (by omega)
      simp only [cdS] at I
      refine st_X1_coinsDue_4 hX hr ho hc ⟨fun c1 => absurd c1 ?_, fun c1 => ?_⟩
      · rw [pB_c, hR.1.2.2.1]; intro q
        have := (vle hlo (by omega) (by omega)).mp q
        omega
      · simp only [forall_eq, nI_1, e0, pB2, pB3, q2, q3]
        refine ⟨vin (by omega) (by omega), fun c2 => ?_, fun c2 => ?_⟩
        · rw [if_neg c2] at I; exact I
        · rw [if_pos c2] at I; exact I
  exact st_X1_coinsDue_0 hX hr ho hc (go (nLo cu) 0 (by omega))
theorem cb_wealth (ho : o < 49) (hc : c < 6) (hk : cOk cu) (hne : ∀ l, l < nLo cu → cu 4 l ≠ cu 5 l) (hR : cR cu μ c) (hb : bR cu ν b) {p : Nat} (hp : p < nPe cu) :
    zCT l G 0 yX1_wealth cX1_wealth 5 (some .int) [.ref (G.ad 1 o), .ref (G.ad 2 c), .int (nI p)] (putB μ o ν) (zI fun r μ' => r = hasS cu b (nI p) (nLo cu) ∧ μ' = putB μ o ν) := by
  refine zCT_of (by decide) (Nat.le_of_ble_eq_true rfl) rfl (fun X hl hG hX hr => ?_)
  subst hG
  have hlo : vp_in (cu 0 2) 11 := hk.2.2.1
  obtain ⟨n10, n6, -⟩ := cOk_n hk
  have en : nLo cu = ix (cu 0 2) := rfl
  have ep : ix (nI p) = p := ixn (by omega)
  have go : ∀ k i, i + k = nLo cu → AW X 10 [some (.ref (X.G.ad 1 o)), some (.ref (X.G.ad 2 c)), some (.int (nI p)), some (.int (hasS cu b (nI p) i)), some (.int (nI i))] [] (putB μ o ν) := by
    intro k
    induction k with
    | zero =>
      intro i hi
      refine st_X1_wealth_10 hX hr ho hc ⟨fun c1 => ⟨_, rfl, by rw [show i = nLo cu by omega], rfl⟩, fun c1 => absurd ?_ c1⟩
      rw [pB_c, hR.1.2.2.1]; exact (vle hlo (by omega) (by omega)).mpr (by omega)
    | succ k ih =>
      intro i hi
      have e0 : ix (nI i) = i := ixn (by omega)
      obtain ⟨e4, e5, -, -, -, -, -, -⟩ := hR.2.2.2.1 i (by omega)
      obtain ⟨q2, q3, q4, q5⟩ := hb.1.2.2.1 i (by omega)
      have hn := hne i (by omega)
      have I := ih (i + 1) (by omega)
      simp only [hasS] at I
      refine st_X1_wealth_10 hX hr ho hc ⟨fun c1 => absurd c1 ?_, fun c1 => ?_⟩
      · rw [pB_c, hR.1.2.2.1]; intro q
        have := (vle hlo (by omega) (by omega)).mp q
        omega
      · simp only [forall_eq, nI_1, e0, pB2, pB_t, Nat.add_zero, e4, e5, q2, Int32.add_zero, Int32.sub_zero]
        refine ⟨vin (by omega) (by omega), fun c2 => ⟨fun c3 => ?_, fun c3 => ?_⟩, fun c2 => ⟨fun c3 => ?_, fun c3 => ?_⟩⟩
        · rw [if_neg c2, if_neg c3, Int32.add_zero] at I; exact I
        · rw [if_neg c2, if_pos c3, ← Int32.sub_eq_add_neg] at I; exact I
        · rw [if_pos c2] at I; exact I
        · exact absurd (c2.trans c3.symm) hn
  refine st_X1_wealth_0 hX hr ho hc ⟨vin (by omega) (by omega), ?_⟩
  simp only [forall_eq, ep, pB1, hb.1.2.1 p hp]
  have := go (nLo cu) 0 (by omega)
  simp only [hasS, ep] at this
  exact this
theorem cb_broken (ho : o < 49) (hc : c < 6) (hk : cOk cu) (hR : cR cu μ c) (hb : bR cu ν b) :
    zCT l G 1 yX1_brokenPersons cX1_brokenPersons 4 (some .int) [.ref (G.ad 1 o), .ref (G.ad 2 c)] (putB μ o ν) (zI fun r μ' => r = ruinS cu b (nLo cu) ∧ μ' = putB μ o ν) := by
  refine zCT_of (by decide) (Nat.le_of_ble_eq_true rfl) rfl (fun X hl hG hX hr => ?_)
  subst hG
  have hlo : vp_in (cu 0 2) 11 := hk.2.2.1
  obtain ⟨n10, n6, -⟩ := cOk_n hk
  have en : nLo cu = ix (cu 0 2) := rfl
  have go : ∀ k i, i + k = nLo cu → AW X 4 [some (.ref (X.G.ad 1 o)), some (.ref (X.G.ad 2 c)), some (.int (ruinS cu b i)), some (.int (nI i))] [] (putB μ o ν) := by
    intro k
    induction k with
    | zero =>
      intro i hi
      refine st_X1_brokenPersons_4 hX hr ho hc ⟨fun c1 => ⟨_, rfl, by rw [show i = nLo cu by omega], rfl⟩, fun c1 => absurd ?_ c1⟩
      rw [pB_c, hR.1.2.2.1]; exact (vle hlo (by omega) (by omega)).mpr (by omega)
    | succ k ih =>
      intro i hi
      have e0 : ix (nI i) = i := ixn (by omega)
      obtain ⟨e4, e5, -, -, -, -, -, -⟩ := hR.2.2.2.1 i (by omega)
      obtain ⟨q2, q3, q4, q5⟩ := hb.1.2.2.1 i (by omega)
      have I := ih (i + 1) (by omega)
      simp only [ruinS] at I
      refine st_X1_brokenPersons_4 hX hr ho hc ⟨fun c1 => absurd c1 ?_, fun c1 => ?_⟩
      · rw [pB_c, hR.1.2.2.1]; intro q
        have := (vle hlo (by omega) (by omega)).mp q
        omega
      · refine ⟨0, _, by omega, cb_isCalled ho hb.1 (i := i) (by omega), ?_⟩
        rintro r μ' ⟨rfl, rfl⟩
        simp only [forall_eq, nI_1, e0, pB3, pB_t, Nat.add_zero, e5, q3]
        refine ⟨fun c2 => ?_, fun c2 => ⟨vin (by omega) (by omega), fun c3 => ?_, fun c3 => ?_⟩⟩
        · rw [if_neg (fun h => by rw [c2] at h; exact absurd h.1 (by decide)), Int32.or_zero] at I; exact I
        · rw [if_neg (fun h => h.2 c3), Int32.or_zero] at I; exact I
        · have e6 : b 6 i = 1 := by
            have q := hb.1.2.2.2 i (by omega)
            rw [q] at c2 ⊢
            rw [b2i1.mp c2]; rfl
          rw [if_pos ⟨e6, c3⟩] at I; exact I
  exact st_X1_brokenPersons_0 hX hr ho hc (go (nLo cu) 0 (by omega))
end CD6
