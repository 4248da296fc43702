/-! A BET of the class -/
/-- the weathers one after the other: in which it pays (as bits), where it stands -/
noncomputable def btF (T : Nat → Int32) (n : Nat) (V : Nat → Int64) (s0 : zS) : Nat → Int32 × zS
  | 0 => (0, s0)
  | w + 1 => if (btF T n V s0 w).2.1 = 0 then
      (if (exC T n (ptC T n V (fcW (nI w)) 5) (0, s0.2)).1 = 0 then (btF T n V s0 w).1 else (btF T n V s0 w).1 ||| ((1 : Int32) <<< (nI w &&& 31)), (exC T n (ptC T n V (fcW (nI w)) 5) (0, s0.2)).2)
    else btF T n V s0 w
noncomputable def beS (T : Nat → Int32) (n : Nat) (V : Nat → Int64) (s : zS) : Int32 × Int32 × Int32 × zS :=
  let q1 := nmC T n V 0 999 (onC T n s)
  let q2 := nmC T n V 0 999 (wdC T n 14 q1.2)
  let q3 := btF T n V (wdC T n 15 q2.2) 16
  (q1.1, q2.1, q3.1, sgC T n 59 q3.2)
section BT
variable {l : Launch} {G : zG} {μ : zM} {T : Nat → Int32} {n m : Nat} {s : zS}
theorem bt_le (h : TkI μ T n m) {V : Nat → Int64} {s0 : zS} (hs : s0.2 ≤ m) : ∀ w, (btF T n V s0 w).2.2 ≤ m
  | 0 => hs
  | w + 1 => by
    rw [btF]
    split
    · exact exC_le h (fun s hs => ptC_le h 5 s hs) hs
    · exact bt_le h hs w
theorem ce_top (hE : zHas G) (h : TkI μ T n m) {w : Nat} (hw : w < 16) (ew : μ.1 6 0 3 = nI w) : RdE l G 31 yX6_readExpression cX6_readExpression 7 0 μ m (exC T n (ptC T n (μ.2 31 0) (fcW (nI w)) 5)) := by
  have hPl : ∀ s : zS, s.2 ≤ m → (ptC T n (μ.2 31 0) (fcW (nI w)) 5 s).2.2 ≤ m := fun s hs => ptC_le h 5 s hs
  exact ce_expr hE (by omega) h hPl (ce_test h hPl (ce_sum (by omega) h hPl (ce_prod h hPl (ce_part hE h hw ew 5 (Nat.le_refl _)))))
set_option maxHeartbeats 2000000 in
theorem cs_bet (hE : zHas G) (h : TkI μ T n m) (hs : s.2 ≤ m) {nb : Nat} (eb : μ.1 2 1 3 = nI nb) (hb : nb ≤ 8) :
    zCT l G 32 yX6_readBet cX6_readBet 4 none [.ref (G.ad 6 0)] (rM μ s) (zV fun μ' => (nb = 8 ∧ μ' = rM μ (flC T n 5 s)) ∨ (nb < 8 ∧ ∃ q x, q = beS T n (μ.2 31 0) s ∧ μ' = rM (pI (pI (pI (pI (pI μ 23 1 nb q.1) 24 1 nb q.2.1) 25 1 nb q.2.2.1) 6 0 3 x) 2 1 3 (nI (nb + 1))) q.2.2.2)) := by
  refine zCT_of (by decide) (Nat.le_of_ble_eq_true rfl) rfl (fun X hl0 hG hX hr => ?_)
  subst hG
  refine st_X6_readBet_0 hX hr hE ?_
  simp only [forall_eq]
  rw [rM_o _ _ (by decide) (by decide), eb]
  refine ⟨fun c => ⟨0, _, by omega, cn_on h hs, ?_⟩, fun c => ⟨1, _, by omega, cn_fail h hs, ?_⟩⟩
  · have hb7 : nb < 8 := by
      rcases Nat.lt_or_ge nb 8 with q | q
      · exact q
      · exact absurd c (nI_nlt (b := 8) q (by omega))
    have h1 := on_le h hs
    intro ν hq; rw [hq]; clear hq
    refine ⟨2, _, by omega, cn_nm h h1, ?_⟩
    intro r ν hq; rw [hq.1, hq.2]; clear hq
    have h2 := nm_le h (V := μ.2 31 0) (lo := 0) (hi := 999) h1
    obtain ⟨q1, eq1⟩ : ∃ x, x = nmC T n (μ.2 31 0) 0 999 (onC T n s) := ⟨_, rfl⟩
    rw [← eq1] at h2 ⊢
    rw [ixn (by omega), rM_I _ _ _ _ _ (by decide) (by decide)]
    refine ⟨vin hb7 (by omega), ?_⟩
    have H2 := TkI_I h 1 nb q1.1 (κ := 23) (by decide)
    refine ⟨2, _, by omega, cn_wd hE H2 h2 (by decide), ?_⟩
    intro ν hq; rw [hq]; clear hq
    have h3 := wd_le h (w := 14) h2
    refine ⟨2, _, by omega, cn_nm H2 h3, ?_⟩
    intro r ν hq; rw [hq.1, hq.2]; clear hq
    rw [show (pI μ 23 1 nb q1.1).2 = μ.2 from rfl]
    have h4 := nm_le h (V := μ.2 31 0) (lo := 0) (hi := 999) h3
    obtain ⟨q2, eq2⟩ : ∃ x, x = nmC T n (μ.2 31 0) 0 999 (wdC T n 14 q1.2) := ⟨_, rfl⟩
    rw [← eq2] at h4 ⊢
    rw [rM_I _ _ _ _ _ (by decide) (by decide)]
    have H4 := TkI_I H2 1 nb q2.1 (κ := 24) (by decide)
    refine ⟨2, _, by omega, cn_wd hE H4 h4 (by decide), ?_⟩
    intro ν hq; rw [hq]; clear hq
    have h5 := wd_le h (w := 15) h4
    obtain ⟨s3, es3⟩ : ∃ x, x = wdC T n 15 q2.2 := ⟨_, rfl⟩
    rw [← es3] at h5 ⊢
    rw [rM_I _ _ _ _ _ (by decide) (by decide), rM_i]
    obtain ⟨ρ, eρ⟩ : ∃ x, x = pI (pI μ 23 1 nb q1.1) 24 1 nb q2.1 := ⟨_, rfl⟩
    rw [← eρ] at H4 ⊢
    have Vρ : ρ.2 = μ.2 := by rw [eρ]; rfl
    have Cρ : ρ.1 2 1 3 = nI nb := by rw [eρ, pI_other _ _ _ _ _ _ (by decide), pI_other _ _ _ _ _ _ (by decide)]; exact eb
    have L : beS T n (μ.2 31 0) s = (q1.1, q2.1, (btF T n (μ.2 31 0) s3 16).1, sgC T n 59 (btF T n (μ.2 31 0) s3 16).2) := by
      rw [beS, ← eq1, ← eq2, ← es3]
    -- the end
    have last : ∀ (B : Int32 × zS) (x : Int32), B = btF T n (μ.2 31 0) s3 16 → B.2.2 ≤ m → zCallV X 32 yX6_readSign cX6_readSign 2 none [.ref (X.G.ad 6 0), .int (59 : Int32)] (rM (pI (pI ρ 25 1 nb B.1) 6 0 3 x) B.2) (fun μ3 => ∀ μ4 : zM, μ4 = pI μ3 2 1 3 ((μ3.1 2 1 3) + (1 : Int32)) → zV (fun μ' => (nb = 8 ∧ μ' = rM μ (flC T n 5 s)) ∨ (nb < 8 ∧ ∃ q x, q = beS T n (μ.2 31 0) s ∧ μ' = rM (pI (pI (pI (pI (pI μ 23 1 nb q.1) 24 1 nb q.2.1) 25 1 nb q.2.2.1) 6 0 3 x) 2 1 3 (nI (nb + 1))) q.2.2.2)) none μ4) := by
      intro B x eB hB
      have H6 : TkI (pI (pI ρ 25 1 nb B.1) 6 0 3 x) T n m := TkI_I (TkI_I H4 1 nb B.1 (κ := 25) (by decide)) 0 3 x (κ := 6) (by decide)
      refine ⟨2, _, by omega, cn_sg H6 hB, ?_⟩
      intro ν hq; rw [hq]; clear hq
      simp only [forall_eq]
      rw [rM_o _ _ (by decide) (by decide), pI_other _ _ _ _ _ _ (by decide), pI_other _ _ _ _ _ _ (by decide), Cρ, nI_1, rM_I _ _ _ _ _ (by decide) (by decide)]
      rw [← eB] at L
      refine ⟨rfl, Or.inr ⟨hb7, _, x, L.symm, ?_⟩⟩
      rw [eρ]
    have go : ∀ k w x, w + k = 16 → AW X 95 [some (.ref (X.G.ad 6 0)), some (.int (nI nb)), some (.int (nI s3.2)), some (.int (nI w))] [] (rM (pI (pI ρ 25 1 nb (btF T n (μ.2 31 0) s3 w).1) 6 0 3 x) (btF T n (μ.2 31 0) s3 w).2) := by
      intro k
      induction k with
      | zero =>
        intro w x hw
        refine st_X6_readBet_95 hX hr ⟨fun _ => ?_, fun c => absurd (nI_le (a := 16) (b := w) (by omega) (by omega)) c⟩
        rw [show w = 16 by omega]
        exact last _ x rfl (bt_le h h5 16)
      | succ k ih =>
        intro w x hw
        refine st_X6_readBet_95 hX hr ⟨fun c => absurd c (nI_ge (b := 16) (by omega) (by omega)), fun _ => ?_⟩
        rw [rM_f]
        refine ⟨fun c => ?_, fun c => ?_⟩
        · -- a fault: all later weathers are passed over
          have stay : ∀ j, btF T n (μ.2 31 0) s3 (w + j) = btF T n (μ.2 31 0) s3 w := by
            intro j
            induction j with
            | zero => rfl
            | succ j ihj => rw [← Nat.add_assoc, btF, if_neg (by rw [ihj]; exact c), ihj]
          have e16 := stay (16 - w)
          rw [show w + (16 - w) = 16 by omega] at e16
          exact last _ x e16.symm (bt_le h h5 w)
        · obtain ⟨B, eB⟩ : ∃ x, x = btF T n (μ.2 31 0) s3 w := ⟨_, rfl⟩
          have I := fun x => ih (w + 1) x (by omega)
          rw [btF, if_pos c, ← eB] at I
          rw [← eB] at c ⊢
          obtain ⟨E, eE⟩ : ∃ x, x = exC T n (ptC T n (μ.2 31 0) (fcW (nI w)) 5) (0, s3.2) := ⟨_, rfl⟩
          rw [← eE] at I
          simp only [forall_eq, rM_on, rM_W, pI_pI, c, nI_1]
          have H7 : TkI (pI (pI ρ 25 1 nb B.1) 6 0 3 (nI w)) T n m := TkI_I (TkI_I H4 1 nb B.1 (κ := 25) (by decide)) 0 3 (nI w) (κ := 6) (by decide)
          have T7 := ce_top (l := X.l) hE H7 (by omega) (pI_at _ _ _ _ _)
          rw [show (pI (pI ρ 25 1 nb B.1) 6 0 3 (nI w)).2 = μ.2 from Vρ] at T7
          refine ⟨31, _, by omega, T7 (0, s3.2) h5, ?_⟩
          intro r ν hq; rw [hq.1, hq.2]; clear hq
          rw [← eE]
          have J := I (nI w)
          refine ⟨fun c2 => ?_, fun c2 => ⟨vin hb7 (by omega), ?_⟩⟩
          · rw [if_pos c2] at J
            exact J
          · rw [if_neg c2] at J
            rw [ixn (by omega), rM_I _ _ _ _ _ (by decide) (by decide), rM_o _ _ (by decide) (by decide), pI_other _ _ _ _ _ _ (by decide), pI_at, pI_comm (pI ρ 25 1 nb B.1) _ _ _ _ _ _ (by decide), pI_pI]
            exact J
    have G0 := go 16 0 (ρ.1 6 0 3) rfl
    rw [btF, pI_self (by rw [pI_other _ _ _ _ _ _ (by decide)])] at G0
    exact G0
  · intro ν hq; rw [hq]; clear hq
    refine ⟨rfl, Or.inl ⟨?_, rfl⟩⟩
    rcases Nat.lt_or_ge nb 8 with q | q
    · exact absurd (nI_lt q (by omega)) c
    · omega
end BT
