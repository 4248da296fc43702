/-! THE REFERENCE: all that is told -/
def telP (T : Nat → Int32) (n : Nat) : Nat → zB → (Nat → Int64) → (Nat → Int64) → (Nat → List Int32) → Nat → Except Int32 (zB × (Nat → Int64) × (Nat → Int64) × (Nat → List Int32))
  | 0, _, _, _, _, _ => .error 0
  | f + 1, cu, hn, pn, bl, b =>
    if tyS T n b = 0 then .ok (cu, hn, pn, bl)
    else if isW T n b 164361 = true then hillP T n cu hn pn b >>= fun q => telP T n f q.1 q.2.1 pn bl q.2.2
    else if isW T n b 8930039 = true then purseP T n cu hn pn b >>= fun q => telP T n f q.1 hn q.2.1 bl q.2.2
    else if isW T n b 247172 = true then loanP T n cu hn pn b >>= fun q => telP T n f q.1 hn pn bl q.2
    else if isW T n b 1613 = true then betP T n cu b >>= fun q => telP T n f q.1 hn pn (fun i => if i = ix (cu 0 3) then q.2.1 else bl i) q.2.2
    else .error (ftS 1 b)
def BI (cd : Nat → Int32) (ln : Nat → Nat → Int32) (c : Nat) (bl : Nat → List Int32) (nb : Nat) : Prop :=
  ∀ i, i < nb → ∃ a, 1000 ≤ a ∧ a + (bl i).length ≤ c ∧ ln 55 (8 + i) = nI a ∧ ln 56 (8 + i) = nI (a + (bl i).length) ∧ ∀ j, j < (bl i).length → cd (a + j) = (bl i).getD j 0
theorem wrC_far : ∀ (L : List Int32) (cd : Nat → Int32) (c k : Nat), k < c → wrC cd c L k = cd k
  | [], _, _, _, _ => rfl
  | x :: xs, cd, c, k, h => by
    rw [wrC, wrC_far xs _ _ _ (by omega), upd_eq]
    exact if_neg (by omega)
theorem wrC_at : ∀ (L : List Int32) (cd : Nat → Int32) (c j : Nat), j < L.length → wrC cd c L (c + j) = L.getD j 0
  | [], _, _, _, h => by simp at h
  | x :: xs, cd, c, 0, h => by
    rw [wrC, wrC_far xs _ _ _ (by omega), upd_eq]
    exact if_pos (by omega)
  | x :: xs, cd, c, j + 1, h => by
    rw [wrC, show c + (j + 1) = c + 1 + j by omega, wrC_at xs _ _ j (by simpa using h)]
    rfl
theorem BI_add {cd : Nat → Int32} {ln : Nat → Nat → Int32} {c nb : Nat} {bl : Nat → List Int32} (h : BI cd ln c bl nb) (hc : 1000 ≤ c) (L : List Int32) :
    BI (wrC cd c L) (lnW ln (8 + nb) (nI c) (nI (c + L.length))) (c + L.length) (fun i => if i = nb then L else bl i) (nb + 1) := by
  intro i hi
  by_cases e : i = nb
  · subst e
    simp only [if_true]
    exact ⟨c, hc, Nat.le_refl _, by simp [lnW], by simp [lnW], fun j hj => wrC_at L cd c j hj⟩
  · simp only [if_neg e]
    obtain ⟨a, h1, h2, h3, h4, h5⟩ := h i (by omega)
    refine ⟨a, h1, by omega, ?_, ?_, fun j hj => ?_⟩
    · rw [← h3]; simp [lnW, e]
    · rw [← h4]; simp [lnW, e]
    · rw [wrC_far L cd c _ (by omega), h5 j hj]
def TI (μ : zM) (T : Nat → Int32) (n b : Nat) (cu : zB) (hn pn : Nat → Int64) (bl : Nat → List Int32) : Prop := ∃ c cd ln, RB μ T n b cu hn pn c cd ln ∧ 1000 ≤ c ∧ c ≤ 1000 + b ∧ cnt cu ∧ BI cd ln c bl (ix (cu 0 3))
theorem hill_3 {T : Nat → Int32} {n b : Nat} {cu : zB} {hn pn : Nat → Int64} {q : zB × (Nat → Int64) × Nat} (h : hillP T n cu hn pn b = .ok q) : q.1 0 3 = cu 0 3 := by
  unfold hillP at h
  split at h
  · cases h
  obtain ⟨w, -, h⟩ := bnd_ok h
  obtain ⟨b3, e3, h⟩ := bnd_ok h
  obtain ⟨d, e4, h⟩ := bnd_ok h
  obtain ⟨b5, e5, h⟩ := bnd_ok h
  obtain ⟨e, e6, h⟩ := bnd_ok h
  obtain ⟨b7, e7, h⟩ := bnd_ok h
  cases h
  dsimp only
  rw [bU_ne _ _ (by omega), bU_ne _ _ (by omega), bU_ne _ _ (by omega)]
theorem purse_3 {T : Nat → Int32} {n b : Nat} {cu : zB} {hn pn : Nat → Int64} {q : zB × (Nat → Int64) × Nat} (h : purseP T n cu hn pn b = .ok q) : q.1 0 3 = cu 0 3 := by
  unfold purseP at h
  split at h
  · cases h
  obtain ⟨w, -, h⟩ := bnd_ok h
  obtain ⟨d, e4, h⟩ := bnd_ok h
  obtain ⟨b7, e7, h⟩ := bnd_ok h
  cases h
  dsimp only
  rw [bU_ne _ _ (by omega), bU_ne _ _ (by omega)]
theorem loan_3 {T : Nat → Int32} {n b : Nat} {cu : zB} {hn pn : Nat → Int64} {q : zB × Nat} (h : loanP T n cu hn pn b = .ok q) : q.1 0 3 = cu 0 3 := by
  unfold loanP at h
  split at h
  · cases h
  obtain ⟨le, e2, h⟩ := bnd_ok h
  obtain ⟨b3, e3, h⟩ := bnd_ok h
  obtain ⟨de, e4, h⟩ := bnd_ok h
  obtain ⟨b5, e5, h⟩ := bnd_ok h
  obtain ⟨co, e6, h⟩ := bnd_ok h
  obtain ⟨b7, e7, h⟩ := bnd_ok h
  obtain ⟨ra, e8, h⟩ := bnd_ok h
  obtain ⟨b9, e9, h⟩ := bnd_ok h
  obtain ⟨du, e10, h⟩ := bnd_ok h
  obtain ⟨b11, e11, h⟩ := bnd_ok h
  obtain ⟨hi, e12, h⟩ := bnd_ok h
  obtain ⟨ki, e13, h⟩ := bnd_ok h
  obtain ⟨ba, e14, h⟩ := bnd_ok h
  obtain ⟨b15, e15, h⟩ := bnd_ok h
  cases h
  dsimp only
  rw [bU_ne _ _ (by omega), bU_ne _ _ (by omega), bU_ne _ _ (by omega), bU_ne _ _ (by omega), bU_ne _ _ (by omega), bU_ne _ _ (by omega), bU_ne _ _ (by omega), bU_ne _ _ (by omega), bU_ne _ _ (by omega)]
set_option maxHeartbeats 4000000 in
theorem al_loop {X : zX} {lv : Nat} {Post : Option Value → zM → Prop} (hX : zOk X cX11_readsAll RX11 2 lv) (hr : zRt X (some .boolean) Post) (hlv : 3 < lv) {μ0 : zM} {T : Nat → Int32} {n : Nat} :
    ∀ (f b : Nat) (cu : zB) (hn pn : Nat → Int64) (bl : Nat → List Int32) (μ : zM), TI μ T n b cu hn pn bl → n - b < f → frm prB prQ μ0 μ →
      (∀ r μ', frm prB prQ μ0 μ' → rdQ (telP T n f cu hn pn bl b) r μ' (fun s => ∃ b', TI μ' T n b' s.1 s.2.1 s.2.2.1 s.2.2.2) → Post (some (.int r)) μ') →
      AW X 57 [some (.ref (X.G.ad 11 0)), none] [] μ := by
  intro f
  induction f with
  | zero => intro b cu hn pn bl μ h hf; omega
  | succ f ih =>
    intro b cu hn pn bl μ h hf hF k
    have hTI := h
    obtain ⟨c, cd, ln, hR, h1, h2, hc, hB⟩ := h
    have hP : PT μ T n b cu hn pn c := by obtain ⟨_, _, h, _⟩ := hR; exact h
    have hbn : b ≤ n := hP.1.1.2.1
    have e6 : μ.1 11 0 6 = tyS T n b := by rw [← hP.2]; exact hP.1.1.2.2.2.2.1
    have nf : ∀ {p : Bool}, p = false → ¬ p = true := fun q => by rw [q]; decide
    rw [telP] at k
    refine st_X11_readsAll_57 hX hr ?_
    rw [e6]
    refine ⟨fun t0 => ?_, fun t0 => ?_⟩
    · rw [if_pos t0] at k
      exact k 1 μ hF ⟨rfl, b, hTI⟩
    rw [if_neg t0] at k
    refine ⟨0, _, by omega, pw_isWord hP, ?_⟩
    rintro r1 ν1 ⟨rfl, hν1⟩
    rw [hν1]
    refine ⟨fun q1 => ?_, fun q1 => ?_⟩
    · rw [if_neg (nf (b2i0.mp q1))] at k
      refine ⟨0, _, by omega, pw_isWord hP, ?_⟩
      rintro r2 ν2 ⟨rfl, hν2⟩
      rw [hν2]
      refine ⟨fun q2 => ?_, fun q2 => ?_⟩
      · rw [if_neg (nf (b2i0.mp q2))] at k
        refine ⟨0, _, by omega, pw_isWord hP, ?_⟩
        rintro r3 ν3 ⟨rfl, hν3⟩
        rw [hν3]
        refine ⟨fun q3 => ?_, fun q3 => ?_⟩
        · rw [if_neg (nf (b2i0.mp q3))] at k
          refine ⟨0, _, by omega, pw_isWord hP, ?_⟩
          rintro r4 ν4 ⟨rfl, hν4⟩
          rw [hν4]
          refine ⟨fun q4 => ?_, fun q4 => ?_⟩
          · rw [if_neg (nf (b2i0.mp q4))] at k
            refine ⟨0, _, by omega, pw_fail hP, ?_⟩
            rintro r μ' ⟨rfl, rfl⟩
            exact ⟨fun z => absurd rfl z, fun _ => k 0 _ (fail_prB hF _) ⟨rfl, pI_at _ _ _ _ _⟩⟩
          · rw [if_pos (b2i1.mp q4)] at k
            refine ⟨3, _, by omega, cr_readsBet hR hc h1 h2, ?_⟩
            rintro r m ⟨fm, qm⟩
            cases e : betP T n cu b with
            | error x =>
              rw [e] at qm k
              exact ⟨fun z => absurd qm.1 z, fun _ => k 0 m (hF.trans fm) ⟨rfl, qm.2⟩⟩
            | ok q =>
              rw [e] at qm k
              obtain ⟨rfl, qR, ql⟩ := qm
              have g := bet_gr e hbn hc t0
              have y8 : ix (q.1 0 3) = ix (cu 0 3) + 1 := by
                have y := zix hc.2.2.2
                rw [g.2.2.2, vof hc.2.2.2 (by omega), nI_1, ixn (by omega), ixn (by omega)]
              refine ⟨fun _ => ih q.2.2 q.1 hn pn _ m ⟨_, _, _, qR, by omega, ql, g.2.2.1, ?_⟩ (by omega) (hF.trans fm) (fun r μ' Fm z => k r μ' Fm z), fun z => absurd z (by decide)⟩
              rw [y8]
              exact BI_add hB h1 q.2.1
        · rw [if_pos (b2i1.mp q3)] at k
          refine ⟨3, _, by omega, cr_readsLoan hP hc, ?_⟩
          rintro r m ⟨fm, qm⟩
          cases e : loanP T n cu hn pn b with
          | error x =>
            rw [e] at qm k
            exact ⟨fun z => absurd qm.1 z, fun _ => k 0 m (hF.trans (pr_prB fm)) ⟨rfl, qm.2⟩⟩
          | ok q =>
            rw [e] at qm k
            obtain ⟨rfl, qP⟩ := qm
            have g := loan_gr e hbn hc t0
            refine ⟨fun _ => ih q.2 q.1 hn pn bl m ⟨_, _, _, RB_pr hR fm qP, h1, by omega, g.2.2, ?_⟩ (by omega) (hF.trans (pr_prB fm)) (fun r μ' Fm z => k r μ' Fm z), fun z => absurd z (by decide)⟩
            rw [loan_3 e]; exact hB
      · rw [if_pos (b2i1.mp q2)] at k
        refine ⟨3, _, by omega, cr_readsPurse hP hc, ?_⟩
        rintro r m ⟨fm, qm⟩
        cases e : purseP T n cu hn pn b with
        | error x =>
          rw [e] at qm k
          exact ⟨fun z => absurd qm.1 z, fun _ => k 0 m (hF.trans (pr_prB fm)) ⟨rfl, qm.2⟩⟩
        | ok q =>
          rw [e] at qm k
          obtain ⟨rfl, qP⟩ := qm
          have g := purse_gr e hbn hc t0
          refine ⟨fun _ => ih q.2.2 q.1 hn q.2.1 bl m ⟨_, _, _, RB_pr hR fm qP, h1, by omega, g.2.2, ?_⟩ (by omega) (hF.trans (pr_prB fm)) (fun r μ' Fm z => k r μ' Fm z), fun z => absurd z (by decide)⟩
          rw [purse_3 e]; exact hB
    · rw [if_pos (b2i1.mp q1)] at k
      refine ⟨3, _, by omega, cr_readsHill hP hc, ?_⟩
      rintro r m ⟨fm, qm⟩
      cases e : hillP T n cu hn pn b with
      | error x =>
        rw [e] at qm k
        exact ⟨fun z => absurd qm.1 z, fun _ => k 0 m (hF.trans (pr_prB fm)) ⟨rfl, qm.2⟩⟩
      | ok q =>
        rw [e] at qm k
        obtain ⟨rfl, qP⟩ := qm
        have g := hill_gr e hbn hc t0
        refine ⟨fun _ => ih q.2.2 q.1 q.2.1 pn bl m ⟨_, _, _, RB_pr hR fm qP, h1, by omega, g.2.2, ?_⟩ (by omega) (hF.trans (pr_prB fm)) (fun r μ' Fm z => k r μ' Fm z), fun z => absurd z (by decide)⟩
        rw [hill_3 e]; exact hB
