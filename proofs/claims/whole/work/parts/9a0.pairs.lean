/-! PURSE, HAS, GAIN: the law's wrapper, and behind it the reference -/
theorem zCW_post {l : Launch} {G : zG} {lv : Nat} {y : MethodName} {cc : ByteArray} {maxL : Nat} {ret : Option FieldType} {hh : List (Nat × Nat × Nat × Nat)} {av : List Value} {μ : zM} {P Q : Option Value → zM → Prop} (h : zCW l G lv y cc maxL ret hh av μ P) (hpq : ∀ rv μ', P rv μ' → Q rv μ') : zCW l G lv y cc maxL ret hh av μ Q := by
  unfold zCW Met at *
  intro p e ha hc hk s m args below hf happ hP hK
  obtain ⟨t, o, h1, h2, h3, ⟨⟨rv, μ', q1, q2, q3⟩, q4⟩, q5⟩ := h p e ha hc hk s m args below hf happ hP hK
  exact ⟨t, o, h1, h2, h3, ⟨⟨rv, μ', q1, hpq rv μ' q2, q3⟩, q4⟩, q5⟩
theorem Rel_out {M : Int} {μ : zM} {v : Int64} (h : Rel M μ) : Rel M (pL μ 75 0 0 v) := by
  obtain ⟨S, a, b, c⟩ := h
  exact ⟨S, cI_ext (fun κ o _ => rfl) a, rI_ext (fun κ _ _ _ _ => rfl) rfl rfl b, c⟩
section PW
variable {l : Launch} {G : zG} {μ : zM} {M : Int} {x x1 x2 : Int32}
theorem Rel_thr {v : Int32} (h : Rel M μ) : Rel M (thr μ v) := by
  obtain ⟨S, a, b, c⟩ := h
  exact ⟨S, cI_fm fm_thr a, rI_thr b, c⟩
theorem thr_at (μ : zM) (v : Int32) : (thr μ v).1 11 0 0 = v := pI_at _ _ _ _ _
theorem pr_purse (hE : zHas G) (hT : zThr G) (hs : l.stackTraces = false) (h : Rel M μ) : zCW l G 9 yL_purse cL_purse 4 (some .int) [(0, 9, 12, 13)] [.ref (G.ad 10 0), .int x, .ref (G.ad 75 0)] μ (zI fun k μ1 => zCT l G 1 yX11_purse cX11_purse 2 (some .int) [.ref (G.ad 11 0), .int x] μ1 (zI fun r2 μ2 => μ2.1 11 0 0 = k ∧ (k = 0 → μ2.2 75 0 0 = r2.toInt64) ∧ Rel M μ2)) := by
  obtain ⟨S, hc, hr, hw⟩ := id h
  have hk := hw.2.1.1
  refine zCW_post (cw_purse hT (cx_purse (x := x) hE hT hs hk hc.2.1.1)) ?_
  rintro rv μ1 ⟨k, rfl, ⟨rfl, hB, rfl⟩ | ⟨rfl, r, ν, ⟨hin, rfl, rfl⟩, rfl⟩⟩
  · refine ⟨_, rfl, zCT_post (cr_purse (lc := l) (G := G) (x := x) (by rw [hr.2.1.1]; exact hk)) ?_⟩
    rintro rv μ2 ⟨r2, rfl, ⟨g1, -⟩ | ⟨-, rfl, rfl⟩⟩
    · rw [hr.2.1.1, hB] at g1; cases g1
    · exact ⟨_, rfl, thr_at _ _, fun z => absurd z (by decide), Rel_thr h⟩
  · have h2 := Rel_out (v := (ν.1 14 0 (ix x)).toInt64) h
    have e : cuZ (pL ν 75 0 0 (ν.1 14 0 (ix x)).toInt64) = cuZ ν := rfl
    refine ⟨_, rfl, zCT_post (cr_purse (lc := l) (G := G) (x := x) (by rw [e, hr.2.1.1]; exact hk)) ?_⟩
    rintro rv μ2 ⟨r2, rfl, ⟨-, rfl, rfl⟩ | ⟨g1, -⟩⟩
    · refine ⟨_, rfl, thr_at _ _, fun _ => ?_, Rel_thr h2⟩
      have hx : ix x < nPe S.cu := zix (inR_vp hin)
      have e1 : ν.1 14 0 (ix x) = S.b 1 (ix x) := hc.2.2.1.1.2.1 _ hx
      show (pL ν 75 0 0 (ν.1 14 0 (ix x)).toInt64).2 75 0 0 = _
      rw [show (pL ν 75 0 0 (ν.1 14 0 (ix x)).toInt64).1 = ν.1 from rfl, hr.2.2.1, ← e1]
      simp [pL]
    · rw [e, hr.2.1.1, hin] at g1; cases g1
theorem pr_has (hE : zHas G) (hT : zThr G) (hs : l.stackTraces = false) (h : Rel M μ) : zCW l G 9 yL_has cL_has 4 (some .int) [(0, 9, 12, 13)] [.ref (G.ad 10 0), .int x, .ref (G.ad 75 0)] μ (zI fun k μ1 => zCT l G 1 yX11_has cX11_has 4 (some .int) [.ref (G.ad 11 0), .int x] μ1 (zI fun r2 μ2 => μ2.1 11 0 0 = k ∧ (k = 0 → μ2.2 75 0 0 = r2.toInt64) ∧ Rel M μ2)) := by
  obtain ⟨S, hc, hr, hw⟩ := id h
  have hk := hw.2.1.1
  refine zCW_post (cw_has hT (cx_has (x := x) hE hT hs hw.2.1 hc.2.1.1 hc.2.2.1)) ?_
  rintro rv μ1 ⟨k, rfl, ⟨rfl, hB, rfl⟩ | ⟨rfl, r, ν, ⟨hin, rfl, rfl⟩, rfl⟩⟩
  · refine ⟨_, rfl, zCT_post (cr_has (lc := l) (G := G) (x := x) (by rw [hr.2.1.1]; exact hk)) ?_⟩
    rintro rv μ2 ⟨r2, rfl, ⟨g1, -⟩ | ⟨-, rfl, rfl⟩⟩
    · rw [hr.2.1.1, hB] at g1; cases g1
    · exact ⟨_, rfl, thr_at _ _, fun z => absurd z (by decide), Rel_thr h⟩
  · have h2 := Rel_out (v := (hasS S.cu S.b x (nLo S.cu)).toInt64) h
    have e : cuZ (pL ν 75 0 0 (hasS S.cu S.b x (nLo S.cu)).toInt64) = cuZ ν := rfl
    refine ⟨_, rfl, zCT_post (cr_has (lc := l) (G := G) (x := x) (by rw [e, hr.2.1.1]; exact hk)) ?_⟩
    rintro rv μ2 ⟨r2, rfl, ⟨-, rfl, rfl⟩ | ⟨g1, -⟩⟩
    · refine ⟨_, rfl, thr_at _ _, fun _ => ?_, Rel_thr h2⟩
      rw [show (pL ν 75 0 0 (hasS S.cu S.b x (nLo S.cu)).toInt64).1 = ν.1 from rfl, hr.2.2.1, e, hr.2.1.1]
      show (pL ν 75 0 0 (hasS S.cu S.b x (nLo S.cu)).toInt64).2 75 0 0 = _
      simp [pL]
    · rw [e, hr.2.1.1, hin] at g1; cases g1
theorem pr_gain (hE : zHas G) (hT : zThr G) (hs : l.stackTraces = false) (h : Rel M μ) : zCW l G 9 yL_gain cL_gain 5 (some .int) [(0, 10, 13, 13)] [.ref (G.ad 10 0), .int x1, .int x2, .ref (G.ad 75 0)] μ (zI fun k μ1 => zCT l G 4 yX11_gain cX11_gain 3 (some .int) [.ref (G.ad 11 0), .int x1, .int x2] μ1 (zI fun r2 μ2 => μ2.1 11 0 0 = k ∧ (k = 0 → μ2.2 75 0 0 = r2.toInt64) ∧ Rel M μ2)) := by
  obtain ⟨S, hc, hr, hw⟩ := id h
  have hk := hw.2.1.1
  have n8 := cOk_8 hk
  have e39 : μ.1 39 0 0 = nI (nBe S.cu) := by rw [← vof hk.2.2.2.1 (by omega), ← hr.2.1.1]; rfl
  have eOk : gnOk μ x1 x2 = gaOk S.cu x1 x2 := by rw [← hr.2.1.1]; rfl
  refine zCW_post (cw_gain hT (cx_gain (x1 := x1) (x2 := x2) hE hT hs hk hc.2.1.1 hc.2.1.2)) ?_
  rintro rv μ1 ⟨k, rfl, ⟨rfl, hB, rfl⟩ | ⟨rfl, r, ν, ⟨hin, rfl, rfl⟩, rfl⟩⟩
  · refine ⟨_, rfl, zCT_post (cr_gain (lc := l) (G := G) (x1 := x1) (x2 := x2) (BWq_0 hr.2.1.2) n8 e39) ?_⟩
    rintro rv μ2 ⟨r2, rfl, hq⟩
    rw [eOk, hB, if_neg (by decide)] at hq
    obtain ⟨rfl, rfl⟩ := hq
    exact ⟨_, rfl, thr_at _ _, fun z => absurd z (by decide), Rel_thr h⟩
  · obtain ⟨S2, hc2, hr2, hw2⟩ : ∃ S2, cI S2 (pL ν 75 0 0 (gaW S.vw (S.cu 13) (S.cu 12) x1 x2 (nBe S.cu)).toInt64) ∧ rI S2 (pL ν 75 0 0 (gaW S.vw (S.cu 13) (S.cu 12) x1 x2 (nBe S.cu)).toInt64) ∧ wI M S2 := Rel_out h
    have hB2 : BW (pL ν 75 0 0 (gaW S.vw (S.cu 13) (S.cu 12) x1 x2 (nBe S.cu)).toInt64) (nBe S.cu) S.vw := BWq_0 (BWq_ext (μ := ν) rfl rfl rfl hr.2.1.2)
    refine ⟨_, rfl, zCT_post (cr_gain (lc := l) (G := G) (x1 := x1) (x2 := x2) hB2 n8 e39) ?_⟩
    rintro rv μ2 ⟨r2, rfl, hq⟩
    rw [show gnOk (pL ν 75 0 0 (gaW S.vw (S.cu 13) (S.cu 12) x1 x2 (nBe S.cu)).toInt64) x1 x2 = gnOk ν x1 x2 from rfl, eOk, hin, if_pos rfl] at hq
    obtain ⟨rfl, f⟩ := hq
    obtain ⟨k1, k2⟩ := ga_rI hr2 f
    refine ⟨_, rfl, ?_, fun _ => ?_, S2, cI_fm k1 hc2, k2, hw2⟩
    · rw [f.1 11 0 0 rfl, pI_at]
    · rw [f.2 75 0 0 rfl]
      show (pL ν 75 0 0 (gaW S.vw (S.cu 13) (S.cu 12) x1 x2 (nBe S.cu)).toInt64).2 75 0 0 = (gaW S.vw (ν.1 54 0) (ν.1 53 0) x1 x2 (nBe S.cu)).toInt64
      rw [show gaW S.vw (ν.1 54 0) (ν.1 53 0) x1 x2 (nBe S.cu) = gaW S.vw (S.cu 13) (S.cu 12) x1 x2 (nBe S.cu) by rw [← hr.2.1.1]; rfl]
      simp [pL]
end PW
