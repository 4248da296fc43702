/-! THE CLASS LOOKS AHEAD: the walk -/
theorem getB_fm {P : Nat → Nat → Bool} {μ ν : zM} {o : Nat} (h : fm P μ ν) (hP : ∀ κ, bKind κ = true → P κ o = false) : getB ν o = getB μ o := by
  funext j k
  unfold getB
  split <;> first | rfl | (rw [(h _ o (hP _ (by decide))).1])
theorem cR_fm {P : Nat → Nat → Bool} {cu : zB} {μ ν : zM} {c : Nat} (h : fm P μ ν) (hP : ∀ κ o, cuK c κ o = true → P κ o = false) (hk : cOk cu) (hR : cR cu μ c) : cR cu ν c := by
  have z : ∀ κ, κ = 2 ∨ κ = 19 ∨ κ = 20 ∨ κ = 21 ∨ κ = 23 ∨ κ = 24 ∨ κ = 25 → ν.1 κ c = μ.1 κ c := fun κ hκ => (h κ c (hP κ c (by simp [cuK, hκ]))).1
  refine cR_of hR (fun k _ => by rw [z 2 (by omega)]) (fun k _ => by rw [z 19 (by omega)]) (fun k _ => by rw [z 20 (by omega)]) (fun k _ => by rw [z 21 (by omega)]) (fun l j hl _ => ?_) (fun k _ => by rw [z 23 (by omega)]) (fun k _ => by rw [z 24 (by omega)]) hk
  rw [(h 7 (10 * c + l) (hP 7 (10 * c + l) (by simp [cuK]; omega))).1]
theorem ahK_cu (d c κ o : Nat) (h : cuK c κ o = true) : ahK d κ o = false := by
  simp only [cuK, Bool.or_eq_true, Bool.and_eq_true, decide_eq_true_eq] at h
  have hb : bKind κ = false := by
    rcases h with ⟨h, -⟩ | ⟨h, -⟩
    · rcases h with rfl | rfl | rfl | rfl | rfl | rfl | rfl <;> rfl
    · subst h; rfl
  have h0 : ¬ (κ = 0 ∨ κ = 13) := by rcases h with ⟨h, -⟩ | ⟨h, -⟩ <;> omega
  simp [ahK, hb, h0]
theorem bKind_0 {κ : Nat} (h : bKind κ = true) : ¬ (κ = 0 ∨ κ = 13) ∧ κ ≠ 4 ∧ κ ≠ 11 ∧ κ < 35 ∧ κ ≠ 9 ∧ κ ≠ 3 ∧ κ ≠ 5 ∧ κ ≠ 6 := by
  simp only [bKind, Bool.or_eq_true, beq_iff_eq] at h
  omega
theorem ahK_B {d κ o : Nat} (h : bKind κ = true) (ho : ¬ (31 + d < o ∧ o ≤ 43)) : ahK d κ o = false := by
  have := (bKind_0 h).1
  simp only [ahK, h, decide_eq_false ho, decide_eq_false this, Bool.and_false, Bool.false_and, Bool.or_false]
theorem ahK_mono {d e κ o : Nat} (h : d ≤ e) (q : ahK d κ o = false) : ahK e κ o = false := by
  cases hb : bKind κ
  · simp only [ahK, hb, Bool.false_and, Bool.false_or] at q ⊢; exact q
  · have h0 := (bKind_0 hb).1
    rw [ahK_B hb]
    intro z
    rw [ahK, hb, decide_eq_true (show 31 + d < o ∧ o ≤ 43 by omega)] at q
    simp at q
/-- bits of weathers, from one node on -/
def inT (h n d num : Nat) (i : Nat) : Bool := decide (i < 2 ^ (h * n)) && decide (i % 2 ^ (h * d) = num)
theorem inT_next {h n d num wet i : Nat} (hn : num < 2 ^ (h * d)) (hw : wet < 2 ^ h) : inT h n (d + 1) (num + 2 ^ (h * d) * wet) i = (inT h n d num i && decide (i / 2 ^ (h * d) % 2 ^ h = wet)) := by
  have p0 : 0 < 2 ^ (h * d) := Nat.pow_pos (by omega)
  have e : 2 ^ (h * (d + 1)) = 2 ^ (h * d) * 2 ^ h := by rw [← Nat.pow_add, Nat.mul_add, Nat.mul_one]
  unfold inT
  rw [Bool.and_assoc]
  congr 1
  rw [← Bool.decide_and]
  refine decide_eq_decide.mpr ?_
  rw [e, Nat.mod_mul]
  generalize 2 ^ (h * d) = A at *
  generalize hx : i / A % 2 ^ h = x at *
  have hm : i % A < A := Nat.mod_lt _ p0
  constructor
  · intro q
    have e1 : (i % A + A * x) / A = (num + A * wet) / A := by rw [q]
    rw [Nat.add_mul_div_left _ _ p0, Nat.add_mul_div_left _ _ p0, Nat.div_eq_of_lt hm, Nat.div_eq_of_lt hn, Nat.zero_add, Nat.zero_add] at e1
    subst e1
    exact ⟨by omega, rfl⟩
  · rintro ⟨q1, q2⟩
    rw [q1, q2]
theorem num_next {h d num wet : Nat} (hn : num < 2 ^ (h * d)) (hw : wet < 2 ^ h) : num + 2 ^ (h * d) * wet < 2 ^ (h * (d + 1)) := by
  have e : 2 ^ (h * (d + 1)) = 2 ^ (h * d) * 2 ^ h := by rw [← Nat.pow_add, Nat.mul_add, Nat.mul_one]
  rw [e]
  have : 2 ^ (h * d) * (wet + 1) ≤ 2 ^ (h * d) * 2 ^ h := Nat.mul_le_mul_left _ (by omega)
  rw [Nat.mul_add, Nat.mul_one] at this
  omega
theorem or_num {k num wet : Nat} (hn : num < 2 ^ k) : num ||| wet * 2 ^ k = num + 2 ^ k * wet := by
  rw [Nat.mul_comm wet, Nat.or_comm, ← Nat.two_pow_add_eq_or_of_lt hn, Nat.add_comm]
theorem shl_num {k wet h : Nat} (hk : k ≤ 12) (hh : h ≤ 4) (hw : wet < 2 ^ h) : nI wet <<< (nI k &&& 31) = nI (wet * 2 ^ k) := by
  have : wet < 16 := Nat.lt_of_lt_of_le hw (by have := Nat.pow_le_pow_right (n := 2) (by omega) hh; omega)
  refine pk_shlN _ k ?_ ?_
  · have : k = 0 ∨ k = 1 ∨ k = 2 ∨ k = 3 ∨ k = 4 ∨ k = 5 ∨ k = 6 ∨ k = 7 ∨ k = 8 ∨ k = 9 ∨ k = 10 ∨ k = 11 ∨ k = 12 := by omega
    rcases this with rfl | rfl | rfl | rfl | rfl | rfl | rfl | rfl | rfl | rfl | rfl | rfl | rfl <;> decide
  · have h2 : 2 ^ k ≤ 4096 := (pow2 hk).1
    calc wet * 2 ^ k ≤ 16 * 4096 := Nat.mul_le_mul (by omega) h2
      _ < 2 ^ 32 := by decide
section CW
variable {l : Launch} {G : zG} {cu b : zB} {n a sj : Nat} {co : Int32} {M : Int}
def wkP (cu b : zB) (n a sj : Nat) (co : Int32) (μ : zM) : Prop := cR cu μ 0 ∧ μ.1 0 0 2 = nI n ∧ μ.1 0 0 3 = nI a ∧ μ.1 0 0 4 = nI sj ∧ μ.1 0 0 5 = co ∧ (a = 0 → μ.1 18 31 sj = b 5 sj)
theorem wkP_fm {cu b : zB} {n a sj : Nat} {co : Int32} {μ ν : zM} {d : Nat} (hk : cOk cu) (h : wkP cu b n a sj co μ) (f : fm (ahK d) μ ν) (e : ν.1 0 0 = μ.1 0 0) : wkP cu b n a sj co ν := by
  obtain ⟨h1, h2, h3, h4, h5, h6⟩ := h
  refine ⟨cR_fm f (ahK_cu d 0) hk h1, by rw [e]; exact h2, by rw [e]; exact h3, by rw [e]; exact h4, by rw [e]; exact h5, fun q => ?_⟩
  rw [(f 18 31 (ahK_B rfl (by omega))).1]; exact h6 q
/-- what a walk does -/
def wkQ (cu b : zB) (n a sj : Nat) (co : Int32) (m d num : Nat) (φ : Nat → Bool) (μ μ' : zM) : Prop :=
  fm (ahK d) μ μ' ∧ μ'.1 0 0 = μ.1 0 0 ∧ μ'.2 0 0 6 = μ.2 0 0 6 + wkW cu n a sj co b m d num ∧ (a = 3 → FB μ' (fun i => φ i || (inT (nHi cu) n d num i && isF cu b n sj co i)))
set_option maxHeartbeats 4000000 in
theorem cw_walk (hk : cOk cu) (I : bI b M) (L : LI cu b) (hM : M + 990 * (n : Int) ≤ 999999) (hn : n ≤ 12) (hh : nHi cu * n ≤ 12) (ha4 : a < 4) (hsl : a < 2 → sj < nLo cu) (hsp : 2 ≤ a → sj < nPe cu) :
    ∀ (m d num : Nat) (φ : Nat → Bool) (μ : zM), d + m = n → num < 2 ^ (nHi cu * d) → wkP cu b n a sj co μ → bR cu (getB μ (31 + d)) (psS cu d num 1 b).2 → (a = 3 → FB μ φ) →
    zCT l G (m + 3) yX0_walk cX0_walk 9 none [.ref (G.ad 0 0), .ref (G.ad 2 0), .int (nI d), .long (psS cu d num 1 b).1, .int (nI num)] μ (zV fun μ' => wkQ cu b n a sj co m d num φ μ μ') := by
  obtain ⟨n10, n6, n4⟩ := cOk_n hk
  have hh5 : vp_in (cu 0 0) 5 := hk.1
  have eh : cu 0 0 = nI (nHi cu) := vof hh5 (by omega)
  have F0 : ∀ μ : zM, ∃ φ : Nat → Bool, FB μ φ := fun μ => ⟨fun i => btL (μ.2 13 0 (i / 64)) (i % 64), fun _ _ => rfl⟩
  intro m
  induction m with
  | zero =>
    intro d num φ μ hd hnum hP hb hF
    have ed : d = n := by omega
    subst ed
    refine zCT_of (by decide) (Nat.le_of_ble_eq_true rfl) rfl (fun X hl hG hX hr => ?_)
    subst hG
    have e0 : ix (nI d) = d := ixn (by omega)
    obtain ⟨h1, h2, h3, h4, h5, h6⟩ := hP
    obtain ⟨φ', hφ', hφe⟩ : ∃ φ', FB μ φ' ∧ (a = 3 → φ' = φ) := by
      by_cases q : a = 3
      · exact ⟨φ, hF q, fun _ => rfl⟩
      · obtain ⟨φ', h⟩ := F0 μ
        exact ⟨φ', h, fun z => absurd z q⟩
    have hnn : num < 4096 := Nat.lt_of_lt_of_le hnum (pow2 hh).1
    refine st_X0_walk_0 hX hr (by omega) ⟨fun _ => ⟨vin (by omega) (by omega), ?_⟩, fun q => absurd (by rw [h2]; exact nI_le (Nat.le_refl _) (by omega)) q⟩
    rw [e0]
    refine ⟨1, _, by omega, ca_arrive (by omega) hk h3 ha4 h4 hsl hsp h5 hnn hb (ps_ok hk d num 1 b M I L hM).2 h6 hφ', ?_⟩
    rintro μ' ⟨f, e, s, F⟩
    refine ⟨rfl, f.mono (fun κ o q => ahK_mono (by omega) q), by rw [e], by rw [s, wkW_leaf], fun q => ?_⟩
    have := F q
    rw [hφe q] at this
    intro i hi
    rw [this i hi]
    dsimp only
    congr 1
    unfold inT isF
    by_cases hi2 : i = num
    · subst hi2
      rw [decide_eq_true rfl, decide_eq_true hnum, decide_eq_true (Nat.mod_eq_of_lt hnum)]; rfl
    · rw [decide_eq_false hi2]
      by_cases hi3 : i < 2 ^ (nHi cu * d)
      · rw [decide_eq_false (show ¬ i % 2 ^ (nHi cu * d) = num by rw [Nat.mod_eq_of_lt hi3]; exact hi2)]; simp
      · rw [decide_eq_false hi3]; simp
  | succ m ihm =>
    intro d num φ μ hd hnum hP hb hF
    refine zCT_of (by decide) (Nat.le_of_ble_eq_true rfl) rfl (fun X hl hG hX hr => ?_)
    subst hG
    subst hl
    have e0 : ix (nI d) = d := ixn (by omega)
    have e1 : ix (nI (d + 1)) = d + 1 := ixn (by omega)
    have hhd : nHi cu * d ≤ 12 := Nat.le_trans (Nat.mul_le_mul_left _ (by omega)) hh
    obtain ⟨i1, l1⟩ := ps_ok hk d num 1 b M I L (by omega)
    generalize hx : psS cu d num 1 b = x at *
    -- the loop over the weathers of a day
    have go : ∀ k w (ν : zM), w + k = 2 ^ nHi cu → fm (ahK d) μ ν → ν.1 0 0 = μ.1 0 0 → ν.2 0 0 6 = μ.2 0 0 6 + smL (fun wet => wkW cu n a sj co b m (d + 1) (num + 2 ^ (nHi cu * d) * wet)) w → (a = 3 → FB ν (fun i => φ i || (inT (nHi cu) n d num i && (decide (i / 2 ^ (nHi cu * d) % 2 ^ nHi cu < w) && isF cu b n sj co i)))) →
        AW X 31 [some (.ref (X.G.ad 0 0)), some (.ref (X.G.ad 2 0)), some (.int (nI d)), some (.long x.1), none, some (.int (nI num)), some (.int (nI w)), none, none] [] ν := by
      have p16 : 2 ^ nHi cu ≤ 16 := Nat.pow_le_pow_right (n := 2) (by omega) n4
      intro k
      induction k with
      | zero =>
        intro w ν hw f e s F
        have ew : w = 2 ^ nHi cu := by omega
        subst ew
        have hP' := wkP_fm hk hP f e
        refine st_X0_walk_31 hX hr (by omega) ⟨fun _ => ⟨rfl, f, e, by rw [s, wkW_node], fun q i hi => ?_⟩, fun q => absurd ?_ q⟩
        · rw [F q i hi]
          dsimp only
          rw [decide_eq_true (Nat.mod_lt _ (Nat.pow_pos (by omega))), Bool.true_and]
        · rw [hP'.1.1.1, eh, sh1 (by omega)]; exact nI_le (Nat.le_refl _) (by omega)
      | succ k ih =>
        intro w ν hw f e s F
        have hw2 : w < 2 ^ nHi cu := by omega
        have hP' := wkP_fm hk hP f e
        have hb' : bR cu (getB ν (31 + d)) x.2 := by rw [getB_fm f (fun κ h => ahK_B h (by omega))]; exact hb
        have hl2 : ν.1 1 (31 + d) 2 = x.2 0 2 := hb'.2.2.2
        have hnx := ps_next cu hnum hw2 b
        rw [hx] at hnx
        have hstep : smL (fun wet => wkW cu n a sj co b m (d + 1) (num + 2 ^ (nHi cu * d) * wet)) (w + 1) = smL (fun wet => wkW cu n a sj co b m (d + 1) (num + 2 ^ (nHi cu * d) * wet)) w + wkW cu n a sj co b m (d + 1) (num + 2 ^ (nHi cu * d) * w) := rfl
        -- a weather that is walked
        have at76 : AW X 76 [some (.ref (X.G.ad 0 0)), some (.ref (X.G.ad 2 0)), some (.int (nI d)), some (.long x.1), none, some (.int (nI num)), some (.int (nI w)), some (.long (odd cu (x.2 0 2) (nI w) (nHi cu) x.1)), none] [] ν := by
          refine st_X0_walk_76 hX hr (by omega) ?_
          rw [nI_1, e0, e1]
          refine ⟨vin (by omega) (by omega), vin (by omega) (by omega), ?_⟩
          have CT := cb_copy (l := X.l) (G := X.G) (μ := ν) (ν := getB ν (31 + (d + 1))) (o := 31 + (d + 1)) (o1 := 31 + d) (by omega) (by omega) (by omega)
          rw [putB_getB] at CT
          refine ⟨1, _, by omega, CT, ?_⟩
          rintro μ1 ⟨ν1, rfl, hν1⟩
          have hb1 := bR_eqB hk hb' hν1
          refine ⟨2, _, by omega, cb_live (by omega) (by omega) hk hP'.1 hb1 l1 (live_inv hk i1 (by omega)).1, ?_⟩
          rintro μ2 ⟨ν2, rfl, hν2⟩
          have r0 : (putB ν (31 + (d + 1)) ν2).1 2 0 0 * nI d = nI (nHi cu * d) := by rw [pB_c, hP'.1.1.1, eh, nI_mul]
          rw [r0, shl_num hhd n4 hw2, nI_or, or_num hnum]
          have f2 : fm (ahK d) ν (putB ν (31 + (d + 1)) ν2) := fm_B (fm.rf ν) (fun κ h => by rw [ahK, h, decide_eq_true (show 31 + d < 31 + (d + 1) ∧ 31 + (d + 1) ≤ 43 by omega)]; rfl) ν2
          have e2 : (putB ν (31 + (d + 1)) ν2).1 0 0 = ν.1 0 0 := by funext k; exact pBx _ _ _ rfl _ _
          have F2 : a = 3 → FB (putB ν (31 + (d + 1)) ν2) (fun i => φ i || (inT (nHi cu) n d num i && (decide (i / 2 ^ (nHi cu * d) % 2 ^ nHi cu < w) && isF cu b n sj co i))) := fun q => F q
          have g2 : getB (putB ν (31 + (d + 1)) ν2) (31 + (d + 1)) = fun j k => getB (putB ν (31 + (d + 1)) ν2) (31 + (d + 1)) j k := rfl
          have hbn : bR cu (getB (putB ν (31 + (d + 1)) ν2) (31 + (d + 1))) (psS cu (d + 1) (num + 2 ^ (nHi cu * d) * w) 1 b).2 := by
            rw [hnx]
            refine bR_eqB hk hν2 ⟨fun k _ => pB0 _ _ _ _, fun k _ => pB1 _ _ _ _, fun k _ => ⟨pB2 _ _ _ _, pB3 _ _ _ _, pB4 _ _ _ _, pB5 _ _ _ _⟩⟩
          have CW := ihm (d + 1) (num + 2 ^ (nHi cu * d) * w) _ (putB ν (31 + (d + 1)) ν2) (by omega) (num_next hnum hw2) (wkP_fm hk hP' f2 e2) hbn F2
          rw [hnx] at CW
          refine ⟨m + 3, _, by omega, CW, ?_⟩
          rintro μ3 ⟨f3, e3, s3, F3⟩
          simp only [forall_eq, nI_1]
          refine ih (w + 1) μ3 (by omega) (f.trans (f2.trans (f3.mono (fun κ o q => ahK_mono (by omega) q)))) (e3.trans (e2.trans e)) ?_ (fun q i hi => ?_)
          · rw [s3, hstep, ← Int64.add_assoc, ← s]; rfl
          · rw [F3 q i hi]
            dsimp only
            rw [inT_next hnum hw2, Bool.or_assoc]
            congr 1
            generalize i / 2 ^ (nHi cu * d) % 2 ^ nHi cu = y
            cases inT (nHi cu) n d num i
            · rfl
            · cases isF cu b n sj co i
              · simp
              · simp only [Bool.true_and, Bool.and_true]
                rw [← Bool.decide_or]
                exact decide_eq_decide.mpr (by omega)
        refine st_X0_walk_31 hX hr (by omega) ⟨fun q => absurd q ?_, fun _ => ⟨vin (by omega) (by omega), ?_⟩⟩
        · rw [hP'.1.1.1, eh, sh1 (by omega)]; exact nI_ge (by omega) (by omega)
        · rw [e0, hl2]
          refine ⟨1, _, by omega, cc_oddsOf hk hP'.1 (by omega), ?_⟩
          rintro r μ' ⟨rfl, rfl⟩
          simp only [forall_eq, ← odd_lin, nI_1]
          refine ⟨fun _ => at76, fun c1 => ⟨fun c2 => ?_, fun _ => at76⟩⟩
          have c1 := cmpL.mp c1
          have ha3 : a < 3 := by
            rcases Nat.lt_or_ge a 3 with h | h
            · exact h
            · have : a = 3 := by omega
              subst this
              exact absurd hP'.2.2.1 c2
          refine ih (w + 1) μ' (by omega) f e ?_ (fun q => absurd q (by omega))
          rw [hstep, wkW_zero ha3 (num_next hnum hw2) (by omega) (by rw [hnx]; exact c1), Int64.add_zero]
          exact s
    refine st_X0_walk_0 hX hr (by omega) ⟨fun q => absurd q ?_, fun _ => ⟨fun _ => ?_, fun q => absurd ?_ q⟩⟩
    · rw [hP.2.1]; exact nI_ge (by omega) (by omega)
    · refine go (2 ^ nHi cu) 0 μ (by omega) (fm.rf μ) rfl (by simp only [smL]; exact (Int64.add_zero _).symm) (fun q i hi => ?_)
      rw [hF q i hi]
      dsimp only
      rw [decide_eq_false (by omega), Bool.false_and, Bool.and_false, Bool.or_false]
    · exact nI_lt (a := d) (b := 12) (by omega) (by omega)
end CW
