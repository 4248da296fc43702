/-! A SHARE IN LOWEST TERMS -/
theorem gcd_half {A m : Nat} (h : A % 2 = 0) : Nat.gcd A (2 ^ (m + 1)) = 2 * Nat.gcd (A / 2) (2 ^ m) := by
  have e : A = 2 * (A / 2) := by omega
  rw [Nat.pow_succ, Nat.mul_comm (2 ^ m) 2]
  conv => lhs; rw [e]
  exact Nat.gcd_mul_left _ _ _
theorem low_half {A m : Nat} (h : A % 2 = 0) : A / Nat.gcd A (2 ^ (m + 1)) = (A / 2) / Nat.gcd (A / 2) (2 ^ m) ∧ 2 ^ (m + 1) / Nat.gcd A (2 ^ (m + 1)) = 2 ^ m / Nat.gcd (A / 2) (2 ^ m) := by
  rw [gcd_half h]
  constructor
  · have e : A = 2 * (A / 2) := by omega
    conv => lhs; arg 1; rw [e]
    exact Nat.mul_div_mul_left _ _ (by omega)
  · rw [Nat.pow_succ, Nat.mul_comm (2 ^ m) 2]
    exact Nat.mul_div_mul_left _ _ (by omega)
theorem gcd_odd {A : Nat} (h : A % 2 = 1) : ∀ m, Nat.gcd A (2 ^ m) = 1
  | 0 => by rw [Nat.pow_zero]; exact Nat.gcd_one_right A
  | m + 1 => by
    have c : Nat.Coprime A (2 ^ (m + 1)) := by
      refine Nat.Coprime.pow_right _ ?_
      show Nat.gcd A 2 = 1
      rw [Nat.gcd_comm, Nat.gcd_rec, h]
      decide
    exact c
section SH
variable {l : Launch} {G : zG} {S : zSt} {μ ν : zM} {M : Int} {x1 x2 x3 x4 : Int32} {A : Nat}
theorem lN_le2 {a b : Nat} (ha : a < 2 ^ 63) (hb : b < 2 ^ 63) : lN a ≤ lN b ↔ a ≤ b := by
  rw [Int64.le_iff_toInt_le, lNt ha, lNt hb]; omega
set_option maxHeartbeats 1000000 in
theorem sh_95 {X : zX} {lv : Nat} {Post : Option Value → zM → Prop} (hX : zOk X cX10_share RX10 10 lv) (hr : zRt X (some .long) Post) : ∀ (m A : Nat), m ≤ 36 → A < 2 ^ 63 → Post (some (.long (lN ((if x4 = 0 then A else 2 ^ m) / Nat.gcd A (2 ^ m))))) μ →
    AW X 95 [none, none, none, none, some (.int x4), some (.long (lN A)), none, some (.long (lN (2 ^ m))), none, none] [] μ := by
  intro m
  induction m with
  | zero =>
    intro A _ hA K
    rw [Nat.pow_zero, Nat.gcd_one_right, Nat.div_one] at K
    refine st_X10_share_95 hX hr ⟨fun _ => ⟨fun y => ?_, fun y => ?_⟩, fun z => absurd ((lg_cmp_le _ _).mpr (by decide)) z⟩
    · rw [if_neg y] at K; exact K
    · rw [if_pos y] at K; exact K
  | succ m ih =>
    intro A hm hA K
    have p36 : 2 ^ (m + 1) ≤ 2 ^ 36 := Nat.pow_le_pow_right (by omega) hm
    have p1 : 2 ≤ 2 ^ (m + 1) := by
      have := Nat.pow_le_pow_right (n := 2) (by omega) (show 1 ≤ m + 1 by omega)
      omega
    have rem : lN A - lN A / (2 : Int64) * (2 : Int64) = lN (A % 2) := lN_rem (b := 2) hA (by decide)
    refine st_X10_share_95 hX hr ⟨fun z => ?_, fun _ => ⟨by decide, fun z => ?_, fun z => ?_⟩⟩
    · exfalso
      have z := (lg_cmp_le _ _).mp z
      have := (lN_le2 (a := 2 ^ (m + 1)) (b := 1) (by omega) (by decide)).mp z
      omega
    · rw [rem] at z
      have od : A % 2 = 1 := by
        have : A % 2 = 0 ∨ A % 2 = 1 := by omega
        rcases this with q | q
        · rw [q] at z; exact absurd (by decide) z
        · exact q
      rw [gcd_odd od, Nat.div_one] at K
      refine ⟨fun y => ?_, fun y => ?_⟩
      · rw [if_neg y] at K; exact K
      · rw [if_pos y] at K; exact K
    · rw [rem, lg_cmp_eq] at z
      have ev : A % 2 = 0 := (lN_0 (by omega)).mp z
      obtain ⟨l1, l2⟩ := low_half (m := m) ev
      have d1 : lN (2 ^ (m + 1)) / (2 : Int64) = lN (2 ^ m) := by
        have := lN_div (a := 2 ^ (m + 1)) (b := 2) (by omega) (by decide)
        rw [show 2 ^ (m + 1) / 2 = 2 ^ m by rw [Nat.pow_succ]; omega] at this
        exact this
      have d2 : lN A / (2 : Int64) = lN (A / 2) := lN_div (b := 2) hA (by decide)
      simp only [forall_eq, d1, d2]
      refine ih (A / 2) (by omega) (by omega) ?_
      by_cases y : x4 = 0
      · rw [if_pos y, ← l1]; rw [if_pos y] at K; exact K
      · rw [if_neg y, ← l2]; rw [if_neg y] at K; exact K
set_option maxHeartbeats 1000000 in
theorem cs_share {a : Nat} (ha : a < 2) (hw : wI M S) (hc : cI S μ) (hM : M + 59400 ≤ 999999) (hA : okS S.cu x2 x3 x4 = true → ∀ co, smL (fun j => arvS a (ix x2) co S.b (psS S.cu (ix x3) j 1 S.b)) (2 ^ (nHi S.cu * ix x3)) = lN A ∧ A < 2 ^ 63) :
    zCT l G 17 yX10_share cX10_share 10 (some .long) [.ref (G.ad 10 0), .int (nI a), .int x2, .int x3, .int x4] μ (zJ fun r μ' => r = (if okS S.cu x2 x3 x4 = true then lowS A (nHi S.cu * ix x3) x4 else -1) ∧ fm clK μ μ' ∧ cI S μ') := by
  refine zCT_of (by decide) (Nat.le_of_ble_eq_true rfl) rfl (fun X hl hG hX hr => ?_)
  subst hG
  have hk := hw.2.1.1
  have fin : okS S.cu x2 x3 x4 = false → (zJ fun r μ' => r = (if okS S.cu x2 x3 x4 = true then lowS A (nHi S.cu * ix x3) x4 else -1) ∧ fm clK μ μ' ∧ cI S μ') (some (.long (-1 : Int64))) μ := fun q => ⟨_, rfl, by rw [q]; rfl, fm.rf _, hc⟩
  refine st_X10_share_0 hX hr ⟨fun z => fin ?_, fun z1 => ⟨fun z => fin ?_, fun z2 => ⟨0, _, by omega, cc_isLoan (by omega), ?_⟩⟩⟩
  · rw [okS, wthn_lo z, Bool.false_and, Bool.and_false]
  · rw [okS, wthn_hi z, Bool.false_and, Bool.and_false]
  rintro r ν ⟨rfl, rfl⟩
  rw [hc.2.1.1.1.2.2.1]
  refine ⟨fun z => fin (by rw [okS, b2i0.mp z, Bool.false_and]), fun z3 => ⟨0, _, by omega, cc_look hc.2.1.1, ?_⟩⟩
  rintro r ν ⟨rfl, rfl⟩
  refine ⟨fun z4 => ⟨2, _, by omega, ch_start, ?_⟩, fun z => fin (by rw [okS, b2i0.mp z, Bool.and_false, Bool.and_false])⟩
  rintro ν1 ⟨τ, he, rfl⟩
  have z3 := b2i1.mp z3
  have z4 := b2i1.mp z4
  have ok : okS S.cu x2 x3 x4 = true := by rw [okS, z3, z4, wthn_of z1 z2]; rfl
  obtain ⟨n, rfl, n1, n12, hh⟩ := ahS_nI hk z4
  have en : ix (nI n) = n := ixn (by omega)
  have v2 := inR_vp z3
  have n10 := (cOk_n hk).1
  have hx : ix x2 < nLo S.cu := zix v2
  have ex : x2 = nI (ix x2) := vof v2 (by show nLo S.cu < _; omega)
  obtain ⟨f1, cr1, b1⟩ := lk_start hw hc he
  have CT := ch_total (l := X.l) (G := X.G) (a := a) (sj := ix x2) (n := n) (φ := fun _ => false) hk hw.2.2.1.2 hw.2.2.1.1 (by omega) n12 hh (by omega) (fun _ => hx) (fun q => by omega) cr1 b1 (fun q => by omega)
  rw [← ex] at CT
  refine ⟨n + 4, _, by omega, CT, ?_⟩
  rintro r ν2 ⟨f2, rfl, -⟩
  have hA' := hA ok ((putB ν 31 τ).1 0 0 5)
  rw [en] at hA'
  rw [hA'.1]
  obtain ⟨k1, k2⟩ := cI_lk hw hc (f1.trans (f2.mono (fun κ o q => ah_lk q)))
  have e0 : ν2.1 2 0 0 * nI n = nI (nHi S.cu * n) := by
    rw [k2.2.1.1.1.1, vof hk.1 (by omega), nI_mul]
  have go : ∀ k i, i + k = nHi S.cu * n → AW X 67 [some (.ref (X.G.ad 10 0)), none, none, some (.int (nI n)), some (.int x4), some (.long (lN A)), none, some (.long (lN (8 ^ i))), none, some (.int (nI i))] [] ν2 := by
    intro k
    induction k with
    | zero =>
      intro i hi
      refine st_X10_share_67 hX hr ⟨fun _ => ?_, fun q => absurd (by rw [e0]; exact nI_le (by omega) (by omega)) q⟩
      have p8 : 8 ^ i = 2 ^ (3 * i) := by rw [Nat.pow_mul]
      rw [p8]
      refine sh_95 hX hr (3 * i) A (by omega) hA'.2 ⟨_, rfl, ?_, k1, k2⟩
      rw [if_pos ok, lowS, en, show nHi S.cu * n = i by omega, p8]
    | succ k ih =>
      intro i hi
      refine st_X10_share_67 hX hr ⟨fun q => absurd ((nI_leI (a := nHi S.cu * n) (b := i) (by omega) (by omega)).mp (by rw [e0] at q; exact q)) (by omega), fun _ => ?_⟩
      have e8 : lN (8 ^ i) * (8 : Int64) = lN (8 ^ (i + 1)) := by rw [Nat.pow_succ]; exact lN_mul (8 ^ i) 8
      simp only [forall_eq, nI_1, e8]
      exact ih (i + 1) (by omega)
  exact go (nHi S.cu * n) 0 (by omega)
end SH
