/-! WHAT IS TOLD: the class's custom 1 says what the reference has read -/
def tR (cu : zB) (hn pn : Nat → Int64) (bl : Nat → List Int32) (μ : zM) : Prop :=
  cnt cu ∧ cR cu μ 1 ∧ NR hn (μ.2 32 0) (nHi cu) ∧ NR pn (μ.2 33 0) (nPe cu) ∧ ∀ k, k < nBe cu → WinOk (bl k) (μ.1 25 1 k)
theorem tR_cnt {cu : zB} {hn pn : Nat → Int64} {bl : Nat → List Int32} {μ : zM} (h : tR cu hn pn bl μ) : ∃ nh np nl nb, (cu 0 0 = nI nh ∧ cu 0 1 = nI np ∧ cu 0 2 = nI nl ∧ cu 0 3 = nI nb) ∧ (nh ≤ 4 ∧ np ≤ 6 ∧ nl ≤ 10 ∧ nb ≤ 8) ∧ (nHi cu = nh ∧ nPe cu = np ∧ nLo cu = nl ∧ nBe cu = nb) ∧ μ.1 2 1 0 = nI nh ∧ μ.1 2 1 1 = nI np ∧ μ.1 2 1 2 = nI nl ∧ μ.1 2 1 3 = nI nb := by
  obtain ⟨⟨c0, c1, c2, c3⟩, ⟨⟨e0, e1, e2, e3⟩, -⟩, -⟩ := h
  have z0 := zix c0
  have z1 := zix c1
  have z2 := zix c2
  have z3 := zix c3
  exact ⟨nHi cu, nPe cu, nLo cu, nBe cu, ⟨vof c0 (by omega), vof c1 (by omega), vof c2 (by omega), vof c3 (by omega)⟩, ⟨by show ix (cu 0 0) ≤ 4; omega, by show ix (cu 0 1) ≤ 6; omega, by show ix (cu 0 2) ≤ 10; omega, by show ix (cu 0 3) ≤ 8; omega⟩, ⟨rfl, rfl, rfl, rfl⟩, e0.trans (vof c0 (by omega)), e1.trans (vof c1 (by omega)), e2.trans (vof c2 (by omega)), e3.trans (vof c3 (by omega))⟩
section TRS
variable {cu : zB} {hn pn : Nat → Int64} {bl : Nat → List Int32} {μ : zM} {T : Nat → Int32} {n m : Nat}
theorem tR_hill (h : tR cu hn pn bl μ) {nh : Nat} (eh : cu 0 0 = nI nh) (hh : nh < 4) {w x : Int64} (hw : NM w x) {d e : Int32} :
    tR (bU (bU (bU cu 1 nh d) 2 nh e) 0 0 (nI (nh + 1))) (updN hn nh w) pn bl (pI (pI (pI (pL μ 32 0 nh x) 19 1 nh d) 20 1 nh e) 2 1 0 (nI (nh + 1))) := by
  obtain ⟨c, ⟨⟨e0, e1, e2, e3⟩, q1, q3, q4, q5⟩, N1, N2, W⟩ := h
  have n0 : nHi cu = nh := by show ix (cu 0 0) = nh; rw [eh, ixn (by omega)]
  have n0' : nHi (bU (bU (bU cu 1 nh d) 2 nh e) 0 0 (nI (nh + 1))) = nh + 1 := by show ix (bU (bU (bU cu 1 nh d) 2 nh e) 0 0 (nI (nh + 1)) 0 0) = nh + 1; simp [bU]; rw [ixn (by omega)]
  have n1' : nPe (bU (bU (bU cu 1 nh d) 2 nh e) 0 0 (nI (nh + 1))) = nPe cu := by show ix _ = ix _; simp [bU]
  have n2' : nLo (bU (bU (bU cu 1 nh d) 2 nh e) 0 0 (nI (nh + 1))) = nLo cu := by show ix _ = ix _; simp [bU]
  have n3' : nBe (bU (bU (bU cu 1 nh d) 2 nh e) 0 0 (nI (nh + 1))) = nBe cu := by show ix _ = ix _; simp [bU]
  refine ⟨cnt_0 (cnt_same (cnt_same c (by decide)) (by decide)) (vin (by omega) (by omega)), ⟨⟨?_, ?_, ?_, ?_⟩, ?_, ?_, ?_, ?_⟩, ?_, ?_, ?_⟩
  · simp [bU, pI]
  · simp [bU, pI]; exact e1
  · simp [bU, pI]; exact e2
  · simp [bU, pI]; exact e3
  · rw [n0']
    intro k hk
    by_cases hkn : k = nh
    · subst hkn; simp [bU, pI]
    · have := q1 k (by omega)
      simp [bU, pI, hkn]; exact this
  · rw [n1']
    intro k hk
    have := q3 k hk
    simp [bU, pI]; exact this
  · rw [n2']
    intro k hk
    have := q4 k hk
    simp [bU, pI]; exact this
  · rw [n3']
    intro k hk
    have := q5 k hk
    simp [bU, pI]; exact this
  · rw [n0']
    intro k hk
    by_cases hkn : k = nh
    · subst hkn; simp [updN, pI, pL]; exact hw
    · have := N1 k (by omega)
      simp [updN, pI, pL, hkn]; exact this
  · rw [n1']
    intro k hk
    have := N2 k hk
    simp [pI, pL]; exact this
  · rw [n3']
    intro k hk
    have := W k hk
    simp [pI]; exact this
theorem tR_purse (h : tR cu hn pn bl μ) {np : Nat} (eh : cu 0 1 = nI np) (hh : np < 6) {w x : Int64} (hw : NM w x) {d : Int32} :
    tR (bU (bU cu 3 np d) 0 1 (nI (np + 1))) hn (updN pn np w) bl (pI (pI (pL μ 33 0 np x) 21 1 np d) 2 1 1 (nI (np + 1))) := by
  obtain ⟨c, ⟨⟨e0, e1, e2, e3⟩, q1, q3, q4, q5⟩, N1, N2, W⟩ := h
  have n0 : nPe cu = np := by show ix (cu 0 1) = np; rw [eh, ixn (by omega)]
  have n1' : nPe (bU (bU cu 3 np d) 0 1 (nI (np + 1))) = np + 1 := by show ix (bU (bU cu 3 np d) 0 1 (nI (np + 1)) 0 1) = np + 1; simp [bU]; rw [ixn (by omega)]
  have n0' : nHi (bU (bU cu 3 np d) 0 1 (nI (np + 1))) = nHi cu := by show ix _ = ix _; simp [bU]
  have n2' : nLo (bU (bU cu 3 np d) 0 1 (nI (np + 1))) = nLo cu := by show ix _ = ix _; simp [bU]
  have n3' : nBe (bU (bU cu 3 np d) 0 1 (nI (np + 1))) = nBe cu := by show ix _ = ix _; simp [bU]
  refine ⟨cnt_1 (cnt_same c (by decide)) (vin (by omega) (by omega)), ⟨⟨?_, ?_, ?_, ?_⟩, ?_, ?_, ?_, ?_⟩, ?_, ?_, ?_⟩
  · simp [bU, pI]; exact e0
  · simp [bU, pI]
  · simp [bU, pI]; exact e2
  · simp [bU, pI]; exact e3
  · rw [n0']
    intro k hk
    have := q1 k hk
    simp [bU, pI]; exact this
  · rw [n1']
    intro k hk
    by_cases hkn : k = np
    · subst hkn; simp [bU, pI]
    · have := q3 k (by omega)
      simp [bU, pI, hkn]; exact this
  · rw [n2']
    intro k hk
    have := q4 k hk
    simp [bU, pI]; exact this
  · rw [n3']
    intro k hk
    have := q5 k hk
    simp [bU, pI]; exact this
  · rw [n0']
    intro k hk
    have := N1 k hk
    simp [pI, pL]; exact this
  · rw [n1']
    intro k hk
    by_cases hkn : k = np
    · subst hkn; simp [updN, pI, pL]; exact hw
    · have := N2 k (by omega)
      simp [updN, pI, pL, hkn]; exact this
  · rw [n3']
    intro k hk
    have := W k hk
    simp [pI]; exact this
theorem tR_loan (h : tR cu hn pn bl μ) {nl : Nat} (eh : cu 0 2 = nI nl) (hh : nl < 10) (q : (Int32 × Int32 × Int32 × Int32) × (Int32 × Int32 × Int32 × Int32) × zS) :
    tR (bU (lnU cu nl q) 0 2 (nI (nl + 1))) hn pn bl (pI (lnM μ nl q) 2 1 2 (nI (nl + 1))) := by
  obtain ⟨c, ⟨⟨e0, e1, e2, e3⟩, q1, q3, q4, q5⟩, N1, N2, W⟩ := h
  have n0 : nLo cu = nl := by show ix (cu 0 2) = nl; rw [eh, ixn (by omega)]
  have n2' : nLo (bU (lnU cu nl q) 0 2 (nI (nl + 1))) = nl + 1 := by show ix (bU (lnU cu nl q) 0 2 (nI (nl + 1)) 0 2) = nl + 1; simp [bU]; rw [ixn (by omega)]
  have n0' : nHi (bU (lnU cu nl q) 0 2 (nI (nl + 1))) = nHi cu := by show ix _ = ix _; simp [bU, lnU]
  have n1' : nPe (bU (lnU cu nl q) 0 2 (nI (nl + 1))) = nPe cu := by show ix _ = ix _; simp [bU, lnU]
  have n3' : nBe (bU (lnU cu nl q) 0 2 (nI (nl + 1))) = nBe cu := by show ix _ = ix _; simp [bU, lnU]
  have cl : cnt (lnU cu nl q) := by
    unfold lnU
    exact cnt_same (cnt_same (cnt_same (cnt_same (cnt_same (cnt_same (cnt_same (cnt_same c (by decide)) (by decide)) (by decide)) (by decide)) (by decide)) (by decide)) (by decide)) (by decide)
  refine ⟨cnt_2 cl (vin (by omega) (by omega)), ⟨⟨?_, ?_, ?_, ?_⟩, ?_, ?_, ?_, ?_⟩, ?_, ?_, ?_⟩
  · simp [bU, pI, lnU, lnM]; exact e0
  · simp [bU, pI, lnU, lnM]; exact e1
  · simp [bU, pI]
  · simp [bU, pI, lnU, lnM]; exact e3
  · rw [n0']
    intro k hk
    have := q1 k hk
    simp [bU, pI, lnU, lnM]; exact this
  · rw [n1']
    intro k hk
    have := q3 k hk
    simp [bU, pI, lnU, lnM]; exact this
  · rw [n2']
    intro k hk
    by_cases hkn : k = nl
    · subst hkn; simp [bU, pI, lnU, lnM]
    · have := q4 k (by omega)
      simp [bU, pI, lnU, lnM, hkn]; exact this
  · rw [n3']
    intro k hk
    have := q5 k hk
    simp [bU, pI, lnU, lnM]; exact this
  · rw [n0']; exact N1
  · rw [n1']; exact N2
  · rw [n3']
    intro k hk
    have := W k hk
    simp [pI, lnM]; exact this
theorem tR_bet (h : tR cu hn pn bl μ) {nb : Nat} (eh : cu 0 3 = nI nb) (hh : nb < 8) {p y ws x : Int32} {L : List Int32} (hW : WinOk L ws) :
    tR (bU (bU (bU cu 12 nb p) 13 nb y) 0 3 (nI (nb + 1))) hn pn (fun i => if i = nb then L else bl i) (pI (pI (pI (pI (pI μ 23 1 nb p) 24 1 nb y) 25 1 nb ws) 6 0 3 x) 2 1 3 (nI (nb + 1))) := by
  obtain ⟨c, ⟨⟨e0, e1, e2, e3⟩, q1, q3, q4, q5⟩, N1, N2, W⟩ := h
  have n0 : nBe cu = nb := by show ix (cu 0 3) = nb; rw [eh, ixn (by omega)]
  have n3' : nBe (bU (bU (bU cu 12 nb p) 13 nb y) 0 3 (nI (nb + 1))) = nb + 1 := by show ix (bU (bU (bU cu 12 nb p) 13 nb y) 0 3 (nI (nb + 1)) 0 3) = nb + 1; simp [bU]; rw [ixn (by omega)]
  have n0' : nHi (bU (bU (bU cu 12 nb p) 13 nb y) 0 3 (nI (nb + 1))) = nHi cu := by show ix _ = ix _; simp [bU]
  have n1' : nPe (bU (bU (bU cu 12 nb p) 13 nb y) 0 3 (nI (nb + 1))) = nPe cu := by show ix _ = ix _; simp [bU]
  have n2' : nLo (bU (bU (bU cu 12 nb p) 13 nb y) 0 3 (nI (nb + 1))) = nLo cu := by show ix _ = ix _; simp [bU]
  refine ⟨cnt_3 (cnt_same (cnt_same c (by decide)) (by decide)) (vin (by omega) (by omega)), ⟨⟨?_, ?_, ?_, ?_⟩, ?_, ?_, ?_, ?_⟩, ?_, ?_, ?_⟩
  · simp [bU, pI]; exact e0
  · simp [bU, pI]; exact e1
  · simp [bU, pI]; exact e2
  · simp [bU, pI]
  · rw [n0']
    intro k hk
    have := q1 k hk
    simp [bU, pI]; exact this
  · rw [n1']
    intro k hk
    have := q3 k hk
    simp [bU, pI]; exact this
  · rw [n2']
    intro k hk
    have := q4 k hk
    simp [bU, pI]; exact this
  · rw [n3']
    intro k hk
    by_cases hkn : k = nb
    · subst hkn; simp [bU, pI]
    · have := q5 k (by omega)
      simp [bU, pI, hkn]; exact this
  · rw [n0']; exact N1
  · rw [n1']; exact N2
  · rw [n3']
    intro k hk
    by_cases hkn : k = nb
    · subst hkn; simp [pI]; exact hW
    · have := W k (by omega)
      simp [pI, hkn]; exact this
end TRS
/-- the cells that telling may write -/
def toK (κ o : Nat) : Bool := decide (κ = 5 ∨ κ = 6 ∨ κ = 28 ∨ κ = 29 ∨ κ = 30 ∨ κ = 31 ∨ κ = 32 ∨ κ = 33) || cuK 1 κ o
theorem fm_rM {μ ν : zM} (h : fm toK μ ν) (s : zS) : fm toK μ (rM ν s) := fm_I (fm_I h rfl _ _) rfl _ _
/-- one sentence of the reference -/
def sntP (T : Nat → Int32) (n : Nat) (cu : zB) (hn pn : Nat → Int64) (bl : Nat → List Int32) (b : Nat) : Except Int32 (zB × (Nat → Int64) × (Nat → Int64) × (Nat → List Int32) × Nat) :=
  if isW T n b 164361 = true then hillP T n cu hn pn b >>= fun q => pure (q.1, q.2.1, pn, bl, q.2.2)
  else if isW T n b 8930039 = true then purseP T n cu hn pn b >>= fun q => pure (q.1, hn, q.2.1, bl, q.2.2)
  else if isW T n b 247172 = true then loanP T n cu hn pn b >>= fun q => pure (q.1, hn, pn, bl, q.2)
  else if isW T n b 1613 = true then betP T n cu b >>= fun q => pure (q.1, hn, pn, (fun i => if i = ix (cu 0 3) then q.2.1 else bl i), q.2.2)
  else .error (ftS 1 b)
theorem telP_s (T : Nat → Int32) (n f : Nat) (cu : zB) (hn pn : Nat → Int64) (bl : Nat → List Int32) (b : Nat) : telP T n (f + 1) cu hn pn bl b = if tyS T n b = 0 then .ok (cu, hn, pn, bl) else sntP T n cu hn pn bl b >>= fun q => telP T n f q.1 q.2.1 q.2.2.1 q.2.2.2.1 q.2.2.2.2 := by
  rw [telP, sntP]
  split
  · rfl
  split
  · cases hillP T n cu hn pn b <;> rfl
  split
  · cases purseP T n cu hn pn b <;> rfl
  split
  · cases loanP T n cu hn pn b <;> rfl
  split
  · cases betP T n cu b <;> rfl
  · rfl
section TP2
variable {l : Launch} {G : zG} {cu : zB} {hn pn : Nat → Int64} {bl : Nat → List Int32} {μ : zM} {T : Nat → Int32} {n m b : Nat} {s : zS}
/-- behind a sentence -/
def snQ (T : Nat → Int32) (n m : Nat) (res : Except Int32 (zB × (Nat → Int64) × (Nat → Int64) × (Nat → List Int32) × Nat)) (μ μ' : zM) : Prop :=
  ∃ ν s', μ' = rM ν s' ∧ TkI ν T n m ∧ fm toK μ ν ∧ match res with
    | .ok q => At T n m q.2.2.2.2 s' ∧ tR q.1 q.2.1 q.2.2.1 q.2.2.2.1 ν
    | .error e => Dd e s'
set_option maxHeartbeats 2000000 in
theorem cs_sent (hE : zHas G) (h : TkI μ T n m) (a : At T n m b s) (hR : tR cu hn pn bl μ) :
    zCT l G 33 yX6_readSentence cX6_readSentence 1 none [.ref (G.ad 6 0)] (rM μ s) (zV fun μ' => snQ T n m (sntP T n cu hn pn bl b) μ μ') := by
  refine zCT_of (by decide) (Nat.le_of_ble_eq_true rfl) rfl (fun X hl0 hG hX hr => ?_)
  subst hG
  have H := TkI_H h
  have hs := a.2.1
  have hb := at_le a
  obtain ⟨nh, np, nl, nb, ⟨c0, c1, c2, c3⟩, ⟨k0, k1, k2, k3⟩, ⟨N0, N1, N2, N3⟩, m0, m1, m2, m3⟩ := tR_cnt hR
  have NH : NR hn (μ.2 32 0) nh := by rw [← N0]; exact hR.2.2.1
  have NP : NR pn (μ.2 33 0) np := by rw [← N1]; exact hR.2.2.2.1
  have e2 := isW_wx (T := T) hb (k := 2) (by decide) (by decide)
  have e5 := isW_wx (T := T) hb (k := 5) (by decide) (by decide)
  have e6 := isW_wx (T := T) hb (k := 6) (by decide) (by decide)
  have e13 := isW_wx (T := T) hb (k := 13) (by decide) (by decide)
  rw [show kwS.getD (2 - 2) 0 = (164361 : Int64) by decide] at e2
  rw [show kwS.getD (5 - 2) 0 = (8930039 : Int64) by decide] at e5
  rw [show kwS.getD (6 - 2) 0 = (247172 : Int64) by decide] at e6
  rw [show kwS.getD (13 - 2) 0 = (1613 : Int64) by decide] at e13
  have eb : ∀ w, wxS T n (tkN T n s.2) = w ↔ wxS T n b = w := fun w => by rw [a.2.2]
  have five : ∀ {k : Nat}, ∀ res, res = Except.error (ε := Int32) (α := zB × (Nat → Int64) × (Nat → Int64) × (Nat → List Int32) × Nat) (ftS 5 b) → snQ T n m res μ (rM μ (flC T n 5 s)) := by
    intro k res er
    rw [er]
    exact ⟨μ, _, rfl, h, fm.rf μ, at_fl H a (k := 5) (by omega) (by omega)⟩
  refine st_X6_readSentence_0 hX hr hE ⟨0, _, by omega, cn_isW hE h hs (by decide), ?_⟩
  intro r ν hq; rw [hq.1, hq.2]; clear hq
  refine ⟨fun q2 => ⟨0, _, by omega, cn_isW hE h hs (by decide), ?_⟩, fun q2 => ?_⟩
  · have q2 := (not_congr (eb 2)).mp (of_decide_eq_false (b2i0.mp q2))
    intro r ν hq; rw [hq.1, hq.2]; clear hq
    refine ⟨fun q5 => ⟨0, _, by omega, cn_isW hE h hs (by decide), ?_⟩, fun q5 => ?_⟩
    · have q5 := (not_congr (eb 5)).mp (of_decide_eq_false (b2i0.mp q5))
      intro r ν hq; rw [hq.1, hq.2]; clear hq
      refine ⟨fun q6 => ⟨0, _, by omega, cn_isW hE h hs (by decide), ?_⟩, fun q6 => ?_⟩
      · have q6 := (not_congr (eb 6)).mp (of_decide_eq_false (b2i0.mp q6))
        intro r ν hq; rw [hq.1, hq.2]; clear hq
        refine ⟨fun q13 => ⟨1, _, by omega, cn_fail h hs, ?_⟩, fun q13 => ⟨32, _, by omega, cs_bet hE h hs m3 k3, ?_⟩⟩
        · have q13 := (not_congr (eb 13)).mp (of_decide_eq_false (b2i0.mp q13))
          intro ν hq; rw [hq]; clear hq
          refine ⟨rfl, ?_⟩
          rw [sntP, if_neg (by rw [e2, decide_eq_false q2]; decide), if_neg (by rw [e5, decide_eq_false q5]; decide), if_neg (by rw [e6, decide_eq_false q6]; decide), if_neg (by rw [e13, decide_eq_false q13]; decide)]
          exact ⟨μ, _, rfl, h, fm.rf μ, at_fl H a (k := 1) (by omega) (by omega)⟩
        · have q13 := (eb 13).mp (of_decide_eq_true (b2i1.mp q13))
          intro ν hq
          refine ⟨rfl, ?_⟩
          rw [sntP, if_neg (by rw [e2, decide_eq_false q2]; decide), if_neg (by rw [e5, decide_eq_false q5]; decide), if_neg (by rw [e6, decide_eq_false q6]; decide), if_pos (by rw [e13]; exact decide_eq_true q13)]
          rcases hq with ⟨z, hq⟩ | ⟨z, q, x, eq, hq⟩
          · rw [hq]
            refine five (k := 0) _ ?_
            rw [betP, if_pos (by rw [c3, z]; rfl)]; rfl
          · have R := rd_bet H a c3 z
            rw [← eq] at R
            rw [hq]
            refine ⟨_, q.2.2.2, rfl, TkI_I (TkI_I (TkI_I (TkI_I (TkI_I h _ _ _ (by decide)) _ _ _ (by decide)) _ _ _ (by decide)) _ _ _ (by decide)) _ _ _ (by decide), fm_I (fm_I (fm_I (fm_I (fm_I (fm.rf μ) rfl _ _) rfl _ _) rfl _ _) rfl _ _) rfl _ _, ?_⟩
            generalize betP T n cu b = res at R
            cases res with
            | error e => exact R
            | ok p =>
              obtain ⟨g1, g2, g3⟩ := R
              refine ⟨g1, ?_⟩
              show tR p.1 hn pn (fun i => if i = ix (cu 0 3) then p.2.1 else bl i) _
              rw [g2, show ix (cu 0 3) = nb from N3]
              exact tR_bet hR c3 z g3
      · have q6 := (eb 6).mp (of_decide_eq_true (b2i1.mp q6))
        refine ⟨4, _, by omega, cs_loan hE h hs m0 m1 m2 k0 k1 k2, ?_⟩
        intro ν hq
        refine ⟨rfl, ?_⟩
        rw [sntP, if_neg (by rw [e2, decide_eq_false q2]; decide), if_neg (by rw [e5, decide_eq_false q5]; decide), if_pos (by rw [e6]; exact decide_eq_true q6)]
        rcases hq with ⟨z, hq⟩ | ⟨z, q, eq, hq⟩
        · rw [hq]
          refine five (k := 0) _ ?_
          rw [loanP, if_pos (by rw [c2, z]; rfl)]; rfl
        · have R := rd_loan H a c0 c1 c2 k0 k1 z NH NP
          rw [← eq] at R
          rw [hq]
          have F : fm toK μ (lnM μ nl q) ∧ TkI (lnM μ nl q) T n m := by
            have t7 : toK 7 (10 + nl) = true := by simp [toK, cuK]; omega
            unfold lnM
            exact ⟨fm_I (fm_I (fm_I (fm_I (fm_I (fm_I (fm_I (fm_I (fm.rf μ) t7 _ _) t7 _ _) t7 _ _) t7 _ _) t7 _ _) t7 _ _) t7 _ _) t7 _ _, TkI_I (TkI_I (TkI_I (TkI_I (TkI_I (TkI_I (TkI_I (TkI_I h _ _ _ (by decide)) _ _ _ (by decide)) _ _ _ (by decide)) _ _ _ (by decide)) _ _ _ (by decide)) _ _ _ (by decide)) _ _ _ (by decide)) _ _ _ (by decide)⟩
          refine ⟨_, q.2.2, rfl, TkI_I F.2 _ _ _ (by decide), fm_I F.1 rfl _ _, ?_⟩
          generalize loanP T n cu hn pn b = res at R
          cases res with
          | error e => exact R
          | ok p =>
            obtain ⟨g1, g2⟩ := R
            refine ⟨g1, ?_⟩
            show tR p.1 hn pn bl _
            rw [g2]
            exact tR_loan hR c2 z q
    · have q5 := (eb 5).mp (of_decide_eq_true (b2i1.mp q5))
      refine ⟨3, _, by omega, cs_purse hE h hs m0 m1 k0 k1, ?_⟩
      intro ν hq
      refine ⟨rfl, ?_⟩
      rw [sntP, if_neg (by rw [e2, decide_eq_false q2]; decide), if_pos (by rw [e5]; exact decide_eq_true q5)]
      rcases hq with ⟨z, hq⟩ | ⟨z, q, eq, hq⟩
      · rw [hq]
        refine five (k := 0) _ ?_
        rw [purseP, if_pos (by rw [c1, z]; rfl)]; rfl
      · have R := rd_purse H a c0 c1 k0 z NH NP
        rw [← eq] at R
        rw [hq]
        refine ⟨_, q.2, rfl, TkI_I (TkI_I (TkI_L h _ _ _ (by decide)) _ _ _ (by decide)) _ _ _ (by decide), fm_I (fm_I (fm_L (fm.rf μ) rfl _ _) rfl _ _) rfl _ _, ?_⟩
        generalize purseP T n cu hn pn b = res at R
        cases res with
        | error e => exact R
        | ok p =>
          obtain ⟨g1, ⟨w, g2, g3⟩, g4⟩ := R
          refine ⟨g1, ?_⟩
          show tR p.1 hn p.2.1 bl _
          rw [g3, g4]
          exact tR_purse hR c1 z g2
  · have q2 := (eb 2).mp (of_decide_eq_true (b2i1.mp q2))
    refine ⟨3, _, by omega, cs_hill hE h hs m0 m1 k0 k1, ?_⟩
    intro ν hq
    refine ⟨rfl, ?_⟩
    rw [sntP, if_pos (by rw [e2]; exact decide_eq_true q2)]
    rcases hq with ⟨z, hq⟩ | ⟨z, q, eq, hq⟩
    · rw [hq]
      refine five (k := 0) _ ?_
      rw [hillP, if_pos (by rw [c0, z]; rfl)]; rfl
    · have R := rd_hill H a c0 c1 z k1 NH NP
      rw [← eq] at R
      rw [hq]
      refine ⟨_, q.2.2, rfl, TkI_I (TkI_I (TkI_I (TkI_L h _ _ _ (by decide)) _ _ _ (by decide)) _ _ _ (by decide)) _ _ _ (by decide), fm_I (fm_I (fm_I (fm_L (fm.rf μ) rfl _ _) rfl _ _) rfl _ _) rfl _ _, ?_⟩
      generalize hillP T n cu hn pn b = res at R
      cases res with
      | error e => exact R
      | ok p =>
        obtain ⟨g1, ⟨w, g2, g3⟩, g4⟩ := R
        refine ⟨g1, ?_⟩
        show tR p.1 p.2.1 pn bl _
        rw [g3, g4]
        exact tR_hill hR c0 z g2
end TP2
