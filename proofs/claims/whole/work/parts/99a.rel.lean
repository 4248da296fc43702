/-! CLASS AND REFERENCE hold one state: tape and its length; custom and bets; book; what can be undone; marks -/
abbrev zV3 : Type := Nat → Int32 → Int32
abbrev zSt : Type := ((Nat → Int32) × Nat) × (zB × zV3) × zB × (Nat × (Nat → zB)) × (Nat → Option (zB × zV3 × zB))
abbrev zSt.T (S : zSt) : Nat → Int32 := S.1.1
abbrev zSt.n (S : zSt) : Nat := S.1.2
abbrev zSt.cu (S : zSt) : zB := S.2.1.1
abbrev zSt.vw (S : zSt) : zV3 := S.2.1.2
abbrev zSt.b (S : zSt) : zB := S.2.2.1
abbrev zSt.d (S : zSt) : Nat := S.2.2.2.1.1
abbrev zSt.P (S : zSt) : Nat → zB := S.2.2.2.1.2
abbrev zSt.mk (S : zSt) : Nat → Option (zB × zV3 × zB) := S.2.2.2.2
/-- the class's bits of a bet -/
def wn (ws : Nat → Int32) (nb : Nat) (vw : zV3) : Prop := ∀ i, i < nb → ∀ w, w < 16 → bt (ws i) w = decide (¬ vw i (nI w) = 0)
/-- the place in the class's ring of the j-th of d, the next one being p -/
def rg (p d j : Nat) : Nat := (p + 30 - d + j) % 30
def cMk (μ : zM) (i : Nat) : Option (zB × zV3 × zB) → Prop
  | none => μ.1 3 i 0 = 0
  | some q => ¬ μ.1 3 i 0 = 0 ∧ cR q.1 μ (i + 2) ∧ wn (μ.1 25 (i + 2)) (nBe q.1) q.2.1 ∧ bR q.1 (getB μ (i + 45)) q.2.2
def cPs (μ : zM) (cu : zB) (d : Nat) (P : Nat → zB) : Prop := ∃ p, p < 30 ∧ μ.1 4 0 0 = nI d ∧ μ.1 4 0 1 = nI p ∧ ∀ j, j < d → bR cu (getB μ (1 + rg p d j)) (P j)
def cI (S : zSt) (μ : zM) : Prop := (μ.1 27 0 = S.T ∧ μ.1 5 0 0 = nI S.n) ∧ (cR S.cu μ 0 ∧ wn (μ.1 25 0) (nBe S.cu) S.vw) ∧ bR S.cu (getB μ 0) S.b ∧ cPs μ S.cu S.d S.P ∧ ∀ i, i < 4 → cMk μ i (S.mk i)
/-- bets by their block -/
def BOq (μ : zM) (q nb : Nat) (vals : Nat → (Nat → Int32) → Int32) : Prop :=
  ∀ i, i < nb → ∃ (L : List Int32) (a : Nat), 1000 * q ≤ a ∧ a + L.length ≤ 1000 * q + 1000 ∧ μ.1 55 0 (8 * q + i) = nI a ∧ μ.1 56 0 (8 * q + i) = nI (a + L.length) ∧ (∀ j, j < L.length → μ.1 57 0 (a + j) = L.getD j 0) ∧ evOk L (vals i)
def BWq (μ : zM) (q nb : Nat) (vw : zV3) : Prop := ∃ vals, BOq μ q nb vals ∧ ∀ i, i < nb → ∀ V wet, vals i (vaS V wet 4) = vw i wet
theorem BWq_0 {μ : zM} {nb : Nat} {vw : zV3} (h : BWq μ 0 nb vw) : BW μ nb vw := by
  obtain ⟨vals, h1, h2⟩ := h
  refine ⟨vals, fun i hi => ?_, h2⟩
  obtain ⟨L, a, g1, g2, g3, g4, g5, g6⟩ := h1 i hi
  rw [Nat.mul_zero, Nat.zero_add] at g3 g4
  exact ⟨L, a, by omega, g3, g4, g5, g6⟩
def rMk (μ : zM) (i : Nat) : Option (zB × zV3 × zB) → Prop
  | none => μ.1 74 0 i = 0
  | some q => ¬ μ.1 74 0 i = 0 ∧ cuB μ (2 + i) = q.1 ∧ BWq μ (2 + i) (nBe q.1) q.2.1 ∧ bOf (fun k => μ.1 73 0 (64 * i + k)) = q.2.2
def rI (S : zSt) (μ : zM) : Prop := (μ.1 35 0 = S.T ∧ μ.1 11 0 1 = nI S.n) ∧ (cuZ μ = S.cu ∧ BWq μ 0 (nBe S.cu) S.vw) ∧ bOf (μ.1 70 0) = S.b ∧ (μ.1 11 0 50 = nI S.d ∧ ∀ j, j < S.d → bOf (fun k => μ.1 72 0 (64 * j + k)) = S.P j) ∧ ∀ i, i < 4 → rMk μ i (S.mk i)
/-- a custom that can be told -/
def cZ (cu : zB) : Prop := cOk cu ∧ (∀ l, l < nLo cu → cu 4 l ≠ cu 5 l) ∧ ∀ h, h < nHi cu → vp_in (cu 1 h) 9 ∧ vp_in (cu 2 h) 9
def wB2 (cu b : zB) (M : Int) : Prop := LI cu b ∧ bI b M
def wMk (M : Int) : Option (zB × zV3 × zB) → Prop
  | none => True
  | some q => cZ q.1 ∧ wB2 q.1 q.2.2 M
def wI (M : Int) (S : zSt) : Prop := (S.n ≤ 1000 ∧ ∀ j, j < S.n → ∃ c, c < 128 ∧ S.T j = nI c) ∧ cZ S.cu ∧ wB2 S.cu S.b M ∧ (S.d ≤ 30 ∧ ∀ j, j < S.d → wB2 S.cu (S.P j) M) ∧ ∀ i, i < 4 → wMk M (S.mk i)
def Rel (M : Int) (μ : zM) : Prop := ∃ S, cI S μ ∧ rI S μ ∧ wI M S
def clK (κ _o : Nat) : Bool := decide (κ < 11 ∨ (12 ≤ κ ∧ κ ≤ 34))
def rfK (κ _o : Nat) : Bool := decide (κ = 11 ∨ (35 ≤ κ ∧ κ ≤ 74))
theorem wB2_mono {cu b : zB} {M N : Int} (h : wB2 cu b M) (hM : M ≤ N) : wB2 cu b N := ⟨h.1, bI_mono h.2 hM⟩
theorem wI_mono {M N : Int} {S : zSt} (h : wI M S) (hM : M ≤ N) : wI N S := by
  obtain ⟨h1, h2, h3, h4, h5⟩ := h
  refine ⟨h1, h2, wB2_mono h3 hM, ⟨h4.1, fun j hj => wB2_mono (h4.2 j hj) hM⟩, fun i hi => ?_⟩
  have := h5 i hi
  generalize S.mk i = q at this
  cases q with
  | none => trivial
  | some q => exact ⟨this.1, wB2_mono this.2 hM⟩
section FR
variable {S : zSt} {μ ν : zM}
theorem getB_ext {o : Nat} (h : ∀ κ, bKind κ = true → ν.1 κ o = μ.1 κ o) : getB ν o = getB μ o := by
  funext j k
  unfold getB
  split <;> first | rfl | (rw [h _ rfl])
theorem cR_ext {cu : zB} {c : Nat} (h2 : ν.1 2 c = μ.1 2 c) (h19 : ν.1 19 c = μ.1 19 c) (h20 : ν.1 20 c = μ.1 20 c) (h21 : ν.1 21 c = μ.1 21 c) (h7 : ∀ l, l < 10 → ν.1 7 (10 * c + l) = μ.1 7 (10 * c + l)) (h23 : ν.1 23 c = μ.1 23 c) (h24 : ν.1 24 c = μ.1 24 c) (hk : cOk cu) (h : cR cu μ c) : cR cu ν c :=
  cR_of h (fun k _ => by rw [h2]) (fun k _ => by rw [h19]) (fun k _ => by rw [h20]) (fun k _ => by rw [h21]) (fun l j hl _ => by rw [h7 l hl]) (fun k _ => by rw [h23]) (fun k _ => by rw [h24]) hk
/-- the class's cells as they were -/
theorem cI_ext (h : ∀ κ o, clK κ o = true → ν.1 κ o = μ.1 κ o) (hS : cI S μ) : cI S ν := by
  have e : ∀ κ o, κ < 11 ∨ (12 ≤ κ ∧ κ ≤ 34) → ν.1 κ o = μ.1 κ o := fun κ o q => h κ o (decide_eq_true q)
  have gb : ∀ o, getB ν o = getB μ o := fun o => getB_ext (fun κ q => e κ o (by
    simp only [bKind, Bool.or_eq_true, beq_iff_eq] at q
    omega))
  obtain ⟨⟨h1, h2⟩, ⟨h3, h4⟩, h5, ⟨p, h6, h7, h8, h9⟩, h10⟩ := hS
  have cr : ∀ (cu : zB) (c : Nat), cR cu μ c → cR cu ν c := by
    intro cu c q
    unfold cR at *
    simp only [e 2 _ (by omega), e 19 _ (by omega), e 20 _ (by omega), e 21 _ (by omega), e 7 _ (by omega), e 23 _ (by omega), e 24 _ (by omega)]
    exact q
  refine ⟨⟨by rw [e 27 0 (by omega)]; exact h1, by rw [e 5 0 (by omega)]; exact h2⟩, ⟨cr _ _ h3, by rw [e 25 0 (by omega)]; exact h4⟩, by rw [gb]; exact h5, ⟨p, h6, by rw [e 4 0 (by omega)]; exact h7, by rw [e 4 0 (by omega)]; exact h8, fun j hj => by rw [gb]; exact h9 j hj⟩, fun i hi => ?_⟩
  have := h10 i hi
  generalize S.mk i = q at this
  cases q with
  | none => show ν.1 3 i 0 = 0; rw [e 3 i (by omega)]; exact this
  | some q =>
    obtain ⟨g1, g2, g3, g4⟩ := this
    exact ⟨by rw [e 3 i (by omega)]; exact g1, cr _ _ g2, by rw [e 25 _ (by omega)]; exact g3, by rw [gb]; exact g4⟩
theorem cI_fm (h : fm rfK μ ν) (hS : cI S μ) : cI S ν := cI_ext (fun κ o q => (h κ o (by
  have q := of_decide_eq_true q
  exact decide_eq_false (by omega))).1) hS
theorem BWq_ext {q nb : Nat} {vw : zV3} (h55 : ν.1 55 0 = μ.1 55 0) (h56 : ν.1 56 0 = μ.1 56 0) (h57 : ν.1 57 0 = μ.1 57 0) (h : BWq μ q nb vw) : BWq ν q nb vw := by
  obtain ⟨vals, h1, h2⟩ := h
  refine ⟨vals, fun i hi => ?_, h2⟩
  obtain ⟨L, a, g1, g2, g3, g4, g5, g6⟩ := h1 i hi
  exact ⟨L, a, g1, g2, by rw [h55]; exact g3, by rw [h56]; exact g4, fun j hj => by rw [h57]; exact g5 j hj, g6⟩
theorem cuZ_ext (h : ∀ κ, 36 ≤ κ → κ ≤ 54 → ν.1 κ 0 = μ.1 κ 0) : cuZ ν = cuZ μ := by
  funext j k
  unfold cuZ
  simp only [h 36 (by decide) (by decide), h 37 (by decide) (by decide), h 38 (by decide) (by decide), h 39 (by decide) (by decide), h 42 (by decide) (by decide), h 43 (by decide) (by decide), h 44 (by decide) (by decide), h 45 (by decide) (by decide), h 46 (by decide) (by decide), h 47 (by decide) (by decide), h 48 (by decide) (by decide), h 49 (by decide) (by decide), h 50 (by decide) (by decide), h 51 (by decide) (by decide), h 52 (by decide) (by decide), h 53 (by decide) (by decide), h 54 (by decide) (by decide)]
theorem cuB_ext {q : Nat} (h : ∀ κ, 36 ≤ κ → κ ≤ 54 → ν.1 κ 0 = μ.1 κ 0) : cuB ν q = cuB μ q := by
  funext j k
  unfold cuB
  simp only [h 36 (by decide) (by decide), h 37 (by decide) (by decide), h 38 (by decide) (by decide), h 39 (by decide) (by decide), h 42 (by decide) (by decide), h 43 (by decide) (by decide), h 44 (by decide) (by decide), h 45 (by decide) (by decide), h 46 (by decide) (by decide), h 47 (by decide) (by decide), h 48 (by decide) (by decide), h 49 (by decide) (by decide), h 50 (by decide) (by decide), h 51 (by decide) (by decide), h 52 (by decide) (by decide), h 53 (by decide) (by decide), h 54 (by decide) (by decide)]
/-- the reference's cells as they were, but for its scratch -/
theorem rI_ext (h : ∀ κ, 35 ≤ κ → κ ≤ 57 ∨ 70 ≤ κ → κ ≠ 71 → κ ≤ 74 → ν.1 κ 0 = μ.1 κ 0) (h1 : ν.1 11 0 1 = μ.1 11 0 1) (h50 : ν.1 11 0 50 = μ.1 11 0 50) (hS : rI S μ) : rI S ν := by
  obtain ⟨⟨r1, r2⟩, ⟨r3, r4⟩, r5, ⟨r6, r7⟩, r8⟩ := hS
  have e := fun κ (a : 35 ≤ κ) (b : κ ≤ 57 ∨ 70 ≤ κ) (c : κ ≠ 71) (d : κ ≤ 74) => h κ a b c d
  have bw : ∀ q nb vw, BWq μ q nb vw → BWq ν q nb vw := fun q nb vw => BWq_ext (e 55 (by omega) (by omega) (by omega) (by omega)) (e 56 (by omega) (by omega) (by omega) (by omega)) (e 57 (by omega) (by omega) (by omega) (by omega))
  have ex : ∀ κ, 36 ≤ κ → κ ≤ 54 → ν.1 κ 0 = μ.1 κ 0 := fun κ a b => e κ (by omega) (by omega) (by omega) (by omega)
  refine ⟨⟨by rw [e 35 (by omega) (by omega) (by omega) (by omega)]; exact r1, by rw [h1]; exact r2⟩, ⟨by rw [cuZ_ext ex]; exact r3, bw _ _ _ r4⟩, by rw [e 70 (by omega) (by omega) (by omega) (by omega)]; exact r5, ⟨by rw [h50]; exact r6, fun j hj => by rw [e 72 (by omega) (by omega) (by omega) (by omega)]; exact r7 j hj⟩, fun i hi => ?_⟩
  have := r8 i hi
  generalize S.mk i = q at this
  cases q with
  | none => show ν.1 74 0 i = 0; rw [e 74 (by omega) (by omega) (by omega) (by omega)]; exact this
  | some q =>
    obtain ⟨g1, g2, g3, g4⟩ := this
    exact ⟨by rw [e 74 (by omega) (by omega) (by omega) (by omega)]; exact g1, by rw [cuB_ext ex]; exact g2, bw _ _ _ g3, by rw [e 73 (by omega) (by omega) (by omega) (by omega)]; exact g4⟩
theorem rI_fm (h : fm clK μ ν) (hS : rI S μ) : rI S ν := by
  have e : ∀ κ, κ = 11 ∨ 35 ≤ κ → ν.1 κ 0 = μ.1 κ 0 := fun κ q => (h κ 0 (decide_eq_false (by omega))).1
  exact rI_ext (fun κ a _ _ _ => e κ (by omega)) (by rw [e 11 (by omega)]) (by rw [e 11 (by omega)]) hS
theorem rI_thr {v : Int32} (hS : rI S μ) : rI S (thr μ v) := rI_ext (fun κ a b c d => pI_row2 _ _ _ _ _ (by omega)) (pI_place _ _ _ _ (by decide)) (pI_place _ _ _ _ (by decide)) hS
theorem fm_thr {v : Int32} : fm rfK μ (thr μ v) := fm_I (fm.rf μ) rfl _ _
/-- class and reference, one behind the other -/
theorem pr_I {l : Launch} {G : zG} {lv lw : Nat} {y z : MethodName} {cc cd : ByteArray} {mL nL : Nat} {ret ret' : Option FieldType} {av aw : List Value} {M N : Int} {R : Int32 → Prop} (h : Rel M μ)
    (hc : ∀ S, cI S μ → rI S μ → wI M S → ∃ (A : Int32) (S' : zSt), wI N S' ∧ zCT l G lv y cc mL ret av μ (zI fun r μ1 => r = A ∧ fm clK μ μ1 ∧ cI S' μ1) ∧ ∀ μ1, rI S μ1 → zCT l G lw z cd nL ret' aw μ1 (zI fun r μ2 => r = A ∧ fm rfK μ1 μ2 ∧ rI S' μ2)) :
    zCT l G lv y cc mL ret av μ (zI fun r μ1 => zCT l G lw z cd nL ret' aw μ1 (zI fun r2 μ2 => r2 = r ∧ Rel N μ2)) := by
  obtain ⟨S, c1, c2, c3⟩ := h
  obtain ⟨A, S', w', k1, k2⟩ := hc S c1 c2 c3
  refine zCT_post k1 ?_
  rintro rv μ1 ⟨r, rfl, rfl, f1, i1⟩
  refine ⟨_, rfl, zCT_post (k2 μ1 (rI_fm f1 c2)) ?_⟩
  rintro rv μ2 ⟨r2, rfl, rfl, f2, i2⟩
  exact ⟨_, rfl, rfl, S', cI_fm f2 i1, i2, w'⟩
theorem pr_J {l : Launch} {G : zG} {lv lw : Nat} {y z : MethodName} {cc cd : ByteArray} {mL nL : Nat} {ret ret' : Option FieldType} {av aw : List Value} {M N : Int} (h : Rel M μ)
    (hc : ∀ S, cI S μ → rI S μ → wI M S → ∃ (A : Int64) (S' : zSt), wI N S' ∧ zCT l G lv y cc mL ret av μ (zJ fun r μ1 => r = A ∧ fm clK μ μ1 ∧ cI S' μ1) ∧ ∀ μ1, rI S μ1 → zCT l G lw z cd nL ret' aw μ1 (zJ fun r μ2 => r = A ∧ fm rfK μ1 μ2 ∧ rI S' μ2)) :
    zCT l G lv y cc mL ret av μ (zJ fun r μ1 => zCT l G lw z cd nL ret' aw μ1 (zJ fun r2 μ2 => r2 = r ∧ Rel N μ2)) := by
  obtain ⟨S, c1, c2, c3⟩ := h
  obtain ⟨A, S', w', k1, k2⟩ := hc S c1 c2 c3
  refine zCT_post k1 ?_
  rintro rv μ1 ⟨r, rfl, rfl, f1, i1⟩
  refine ⟨_, rfl, zCT_post (k2 μ1 (rI_fm f1 c2)) ?_⟩
  rintro rv μ2 ⟨r2, rfl, rfl, f2, i2⟩
  exact ⟨_, rfl, rfl, S', cI_fm f2 i1, i2, w'⟩
end FR
