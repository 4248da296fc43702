/-- class and reference, one behind the other; what is held behind the class may hang on its run -/
theorem pr_G {l : Launch} {G : zG} {μ : zM} {lv lw : Nat} {y z : MethodName} {cc cd : ByteArray} {mL nL : Nat} {ret ret' : Option FieldType} {av aw : List Value} {M N : Int} (h : Rel M μ)
    (hc : ∀ S, cI S μ → rI S μ → wI M S → ∃ Q : Int32 → zSt → Prop, zCT l G lv y cc mL ret av μ (zI fun r μ1 => fm clK μ μ1 ∧ ∃ S', Q r S' ∧ wI N S' ∧ cI S' μ1) ∧ ∀ r S' μ1, Q r S' → fm clK μ μ1 → rI S μ1 → zCT l G lw z cd nL ret' aw μ1 (zI fun r2 μ2 => r2 = r ∧ fm rfK μ1 μ2 ∧ ∃ b, cuQ S'.cu b ∧ rI (S'.cs b) μ2)) :
    zCT l G lv y cc mL ret av μ (zI fun r μ1 => zCT l G lw z cd nL ret' aw μ1 (zI fun r2 μ2 => r2 = r ∧ Rel N μ2)) := by
  obtain ⟨S, c1, c2, c3⟩ := h
  obtain ⟨Q, k1, k2⟩ := hc S c1 c2 c3
  refine zCT_post k1 ?_
  rintro rv μ1 ⟨r, rfl, f1, S', hQ, w', i1⟩
  refine ⟨_, rfl, zCT_post (k2 r S' μ1 hQ f1 (rI_fm f1 c2)) ?_⟩
  rintro rv μ2 ⟨r2, rfl, rfl, f2, b, hb, i2⟩
  exact ⟨_, rfl, rfl, S'.cs b, cI_Q hb w'.2.1.1 (cI_fm f2 i1), i2, wI_Q hb w'⟩
section CS
variable {l : Launch} {G : zG} {S : zSt} {μ ν : zM} {M : Int}
theorem telA_fm {n : Nat} (h : fm clK μ ν) : telA (thr ν 0) n = telA (thr μ 0) n := by
  have e : ∀ κ, 35 ≤ κ → ν.1 κ 0 = μ.1 κ 0 ∧ ν.2 κ 0 = μ.2 κ 0 := fun κ q => h κ 0 (decide_eq_false (by omega))
  have e1 : ∀ κ, 35 ≤ κ → (thr ν 0).1 κ 0 = (thr μ 0).1 κ 0 := fun κ q => by rw [thr, thr, pI_row2 _ _ _ _ _ (by omega), pI_row2 _ _ _ _ _ (by omega), (e κ q).1]
  have e2 : ∀ κ, 35 ≤ κ → (thr ν 0).2 κ 0 = (thr μ 0).2 κ 0 := fun κ q => (e κ q).2
  unfold telA cu0
  rw [e1 35 (by omega), e2 40 (by omega), e2 41 (by omega), cuB_ext (fun κ a b => e1 κ (by omega))]
theorem wins_ch {bl : Nat → List Int32} {ws : Nat → Int32} {nb : Nat} (h : ∀ k, k < nb → WinOk (bl k) (ws k)) : ∃ (vals : Nat → (Nat → Int32) → Int32) (vw : zV3), (∀ i, i < nb → evOk (bl i) (vals i)) ∧ (∀ i, i < nb → ∀ V wet, vals i (vaS V wet 4) = vw i wet) ∧ wn ws nb vw := by
  induction nb with
  | zero => exact ⟨fun _ _ => 0, fun _ _ => 0, fun i hi => absurd hi (Nat.not_lt_zero i), fun i hi => absurd hi (Nat.not_lt_zero i), fun i hi => absurd hi (Nat.not_lt_zero i)⟩
  | succ nb ih =>
    obtain ⟨vals, vw, h1, h2, h3⟩ := ih (fun k hk => h k (by omega))
    obtain ⟨va, vb, g1, g2, g3⟩ := h nb (by omega)
    refine ⟨fun i => if i = nb then va else vals i, fun i => if i = nb then vb else vw i, fun i hi => ?_, fun i hi V wet => ?_, fun i hi w hw => ?_⟩
    · by_cases c : i = nb
      · subst c; simp only [if_pos]; exact g1
      · simp only [if_neg c]; exact h1 i (by omega)
    · by_cases c : i = nb
      · subst c; simp only [if_pos]; exact g2 V wet
      · simp only [if_neg c]; exact h2 i (by omega) V wet
    · by_cases c : i = nb
      · subst c; simp only [if_pos]; exact g3 w hw
      · simp only [if_neg c]; exact h3 i (by omega) w hw
/-- what is held behind the telling -/
def cuR (S : zSt) (res : Except Int32 (zB × (Nat → Int64) × (Nat → Int64) × (Nat → List Int32))) (r : Int32) (S' : zSt) : Prop := match res with
  | .error e => r = e ∧ S' = S.tp 0
  | .ok s => r = 0 ∧ ∃ (vals : Nat → (Nat → Int32) → Int32) (vw : zV3), (∀ i, i < nBe s.1 → evOk (s.2.2.2 i) (vals i)) ∧ (∀ i, i < nBe s.1 → ∀ V wet, vals i (vaS V wet 4) = vw i wet) ∧ S' = S.cn s.1 vw
theorem ct_empty : zCT l G 0 yX5_empty cX5_empty 1 none [.ref (G.ad 5 0)] μ (zV fun μ' => μ' = pI μ 5 0 0 0) := by
  refine zCT_of (by decide) (Nat.le_of_ble_eq_true rfl) rfl (fun X hl hG hX hr => ?_)
  subst hG
  refine st_X5_empty_0 hX hr ?_
  rintro μ3 rfl
  exact ⟨rfl, rfl⟩
set_option maxHeartbeats 1000000 in
theorem pr_custom (hE : zHas G) (h : Rel M μ) (hM : 10000 ≤ M) : zCT l G 35 yX10_custom cX10_custom 2 (some .int) [.ref (G.ad 10 0)] μ (zI fun r μ1 => zCT l G 5 yX11_custom cX11_custom 2 (some .int) [.ref (G.ad 11 0)] μ1 (zI fun r2 μ2 => r2 = r ∧ Rel M μ2)) := by
  refine pr_G h (fun S hc hr0 hw => ?_)
  have e35 : (thr μ 0).1 35 0 = μ.1 27 0 := by rw [thr, pI_row2 _ _ _ _ _ (by decide), hr0.1.1, hc.1.1]
  have c0 : cu0 (thr μ 0) 0 0 = 0 ∧ cu0 (thr μ 0) 0 1 = 0 ∧ cu0 (thr μ 0) 0 2 = 0 ∧ cu0 (thr μ 0) 0 3 = 0 := by unfold cu0; simp [bU]
  have CT := cs_tape (l := l) (cu := cu0 (thr μ 0)) (hn := (thr μ 0).2 40 0) (pn := (thr μ 0).2 41 0) hE hw.1.1 hc.1.2 (by rw [hc.1.1]; exact hw.1.2) c0
  have eA : telP (μ.1 27 0) S.n (S.n - tBg (μ.1 27 0) S.n 0 + 1) (cu0 (thr μ 0)) ((thr μ 0).2 40 0) ((thr μ 0).2 41 0) (fun _ => []) (tBg (μ.1 27 0) S.n 0) = telA (thr μ 0) S.n := by unfold telA; rw [e35]
  rw [eA] at CT
  have hZ : ∀ s, telA (thr μ 0) S.n = .ok s → tZ s.1 := fun s q => by
    rw [← eA] at q
    exact tel_tZ _ _ _ _ _ _ (tZ_0 c0) (tkN_le (μ.1 27 0) S.n 0) q
  generalize eR : telA (thr μ 0) S.n = RES at CT hZ
  refine ⟨cuR S RES, ?_, fun r S' μ1 hq hf hr1 => ?_⟩
  · refine zCT_of (by decide) (Nat.le_of_ble_eq_true rfl) rfl (fun X hl hG hX hr => ?_)
    subst hG
    subst hl
    refine st_X10_custom_0 hX hr ⟨34, _, by omega, CT, ?_⟩
    rintro r μ2 ⟨f2, hq⟩
    obtain ⟨k1, k2⟩ := cc_read hw hc f2
    refine ⟨0, _, by omega, ct_empty, ?_⟩
    rintro μ3 rfl
    cases RES with
    | error e =>
      obtain ⟨rfl, ne⟩ := hq
      exact ⟨fun _ => ⟨_, rfl, k1, S.tp 0, ⟨rfl, rfl⟩, ⟨⟨Nat.zero_le _, fun j hj => absurd hj (Nat.not_lt_zero j)⟩, hw.2⟩, k2⟩, fun z => absurd z ne⟩
    | ok s =>
      obtain ⟨rfl, hR⟩ := hq
      have hz := hZ s rfl
      have hk := (tZ_cZ hz).1
      obtain ⟨vals, vw, g1, g2, g3⟩ := wins_ch hR.2.2.2.2
      refine ⟨fun z => absurd rfl z, fun _ => ⟨1, _, by omega, cu_copy (by omega) (by omega) (by omega), ?_⟩⟩
      rintro ρ ⟨f, e⟩
      have cr0 : cR s.1 (pI μ2 5 0 0 0) 1 := cR_rows hk (fun κ q => pI_row2 _ _ _ _ _ (by omega)) (fun l hl => pI_row2 _ _ _ _ _ (by omega)) hR.2.1
      have CT := cb_open (l := X.l) (G := X.G) (μ := ρ) (ν := getB ρ 0) (o := 0) (c := 0) (by omega) (by omega) hk (cR_cuE hk cr0 e)
      rw [putB_getB] at CT
      refine ⟨0, _, by omega, CT, ?_⟩
      rintro ν ⟨τ, rfl, hτ⟩
      refine ⟨0, _, by omega, cp_forget, ?_⟩
      rintro ν rfl
      obtain ⟨m1, m2⟩ := cc_open hw k2 (vw := vw) hk f e cr0 (by rw [pI_row2 _ _ _ _ _ (by decide)]; exact g3) hτ
      exact ⟨_, rfl, k1.trans m1, S.cn s.1 vw, ⟨rfl, vals, vw, g1, g2, rfl⟩, ⟨⟨Nat.zero_le _, fun j hj => absurd hj (Nat.not_lt_zero j)⟩, tZ_cZ hz, wB2_mono (opn_w hz) hM, ⟨Nat.zero_le _, fun j hj => absurd hj (Nat.not_lt_zero j)⟩, hw.2.2.2.2⟩, m2⟩
  · refine zCT_post (cr_custom (lc := l) (G := G) (μ := μ1) (n := S.n) hw.1.1 hr1.1.2) ?_
    have eT := telA_fm (n := S.n) hf
    rw [eR] at eT
    rintro rv μ2 ⟨r2, rfl, hq2⟩
    unfold cusQ at hq2
    rw [eT] at hq2
    cases RES with
    | error e =>
      obtain ⟨rfl, rfl⟩ := hq
      obtain ⟨rfl, f, f1⟩ := hq2
      exact ⟨_, rfl, rfl, fm_thr.trans (pa_fm f), rc_bad (S := S) hw (rI_thr hr1) f f1⟩
    | ok s =>
      obtain ⟨rfl, vals, vw, g1, g2, rfl⟩ := hq
      obtain ⟨rfl, ν, b', f, f1, hT, rfl⟩ := hq2
      have hk := (tZ_cZ (hZ s rfl)).1
      obtain ⟨t1, t2, t3⟩ := TI_bw hT g1 g2
      exact ⟨_, rfl, rfl, (fm_thr.trans (pa_fm f)).trans (cus_fm ν), rc_ok hw (rI_thr hr1) f f1 t1 t2 hk⟩
end CS
