/-! THE CLASS'S BOOK: closePaid, live -/
theorem due_row0 (cu : zB) (w : Int32) (l : Nat) (b : zB) : due cu w l b 0 = b 0 := by
  have d1 : du1 cu w l b 0 = b 0 := by
    unfold du1
    split
    · show bU (bU b 4 l _) 2 l _ 0 = b 0
      rw [bU_row (by decide), bU_row (by decide)]
    · rfl
  unfold due
  split
  · rfl
  · unfold du2
    split
    · rw [bU_row (by decide), d1]
    · exact d1
theorem jnd_row0 (cu : zB) (l : Nat) (b : zB) : jnd cu l b 0 = b 0 := by
  unfold jnd
  split
  · rw [bU_row (by decide)]
  · rfl
theorem cls_row0 (l : Nat) (b : zB) : cls l b 0 = b 0 := by
  unfold cls
  split
  · rw [bU_row (by decide)]
  · rfl
theorem fall_row0 (cu : zB) (w : Int32) (b : zB) : fall cu w b 0 = b 0 := by
  unfold fall
  exact fd_keep (P := fun x => x 0 = b 0) (fun l x h => (jnd_row0 cu l x).trans h) (fd_keep (P := fun x => x 0 = b 0) (fun l x h => (due_row0 cu w l x).trans h) rfl _) _
theorem called_row0 (cu : zB) (w : Int32) (b : zB) : called cu w b 0 = b 0 := by
  funext c
  unfold called
  rw [called_at, if_neg (by omega)]
theorem rnd_row0 (cu : zB) (w : Int32) (b : zB) : rnd cu w b 0 = b 0 := by
  unfold rnd
  exact fd_keep (P := fun x => x 0 = b 0) (fun l x h => (trn_row0 cu w l x).trans h) rfl _
def liveI (cu : zB) (w : Int32) (b : zB) : zB := fd cls (nLo cu) (itr (rnd cu w) 1000000 (called cu w (fall cu w b)))
theorem live_eq (cu : zB) (w : Int32) (b : zB) : live cu w b = fin cu w (liveI cu w b) := rfl
theorem liveI_row0 (cu : zB) (w : Int32) (b : zB) : liveI cu w b 0 = b 0 := by
  unfold liveI
  refine fd_keep (P := fun x => x 0 = b 0) (fun l x h => (cls_row0 l x).trans h) ?_ _
  refine itr_inv (P := fun x => x 0 = b 0) (fun x h => (rnd_row0 cu w x).trans h) _ _ ?_
  exact (called_row0 cu w _).trans (fall_row0 cu w b)
theorem live_rows (cu : zB) (w : Int32) (b : zB) : (∀ j, j ≠ 0 → live cu w b j = liveI cu w b j) ∧ live cu w b 0 0 = b 0 0 + 1 ∧ live cu w b 0 1 = b 0 1 + b2i (fldS cu w) ∧ live cu w b 0 2 = w := by
  rw [live_eq]
  have e := liveI_row0 cu w b
  generalize liveI cu w b = x at *
  unfold fin
  refine ⟨fun j hj => by rw [bU_row hj, bU_row hj, bU_row hj], ?_, ?_, ?_⟩
  · rw [bU_ne _ _ (by decide), bU_at, e]
  · rw [bU_at, e]
  · rw [bU_ne _ _ (by decide), bU_ne _ _ (by decide), bU_at]
section CB4
variable {X : zX} {lv : Nat} {Post : Option Value → zM → Prop} {μ : zM} {w : Int32} {o c : Nat} {cu b0 : zB} {s : Nat → Int32}
set_option maxHeartbeats 1000000 in
theorem cb_close2 (hX : zOk X cX1_closePaid RX1 3 lv) (hr : zRt X none Post) (ho : o < 49) (hc : c < 6) (hk : cOk cu) (hR : cR cu μ c)
    (K : ∀ ν, bS cu s ν (fd cls (nLo cu) b0) → Post none (putB μ o ν)) :
    ∀ (k i : Nat) (ν : zB), i + k = nLo cu → bS cu s ν (fd cls i b0) → AW X 2 [some (.ref (X.G.ad 1 o)), some (.ref (X.G.ad 2 c)), some (.int (nI i))] [] (putB μ o ν) := by
  have hlo : vp_in (cu 0 2) 11 := hk.2.2.1
  have n10 := (cOk_n hk).1
  have en : nLo cu = ix (cu 0 2) := rfl
  intro k
  induction k with
  | zero =>
    intro i ν hi hb
    refine st_X1_closePaid_2 hX hr ho hc ⟨fun c1 => K ν (by rw [← show i = nLo cu by omega]; exact hb), fun c1 => absurd ?_ c1⟩
    rw [pB_c, hR.1.2.2.1]; exact (vle hlo (by omega) (by omega)).mpr (by omega)
  | succ k ih =>
    intro i ν hi hb
    have e0 : ix (nI i) = i := ixn (by omega)
    obtain ⟨q2, q3, q4, q5⟩ := hb.2.2.1 i (by omega)
    have st : fd cls (i + 1) b0 = cls i (fd cls i b0) := rfl
    generalize fd cls i b0 = b at *
    refine st_X1_closePaid_2 hX hr ho hc ⟨fun c1 => absurd c1 ?_, fun c1 => ?_⟩
    · rw [pB_c, hR.1.2.2.1]; intro q
      have := (vle hlo (by omega) (by omega)).mp q
      omega
    · simp only [forall_eq, nI_1, e0, pB2, pBI3, q2]
      refine ⟨vin (by omega) (by omega), fun c2 => ih (i + 1) ν (by omega) ?_, fun c2 => ih (i + 1) _ (by omega) ?_⟩
      · rw [st, cls, if_neg c2]; exact hb
      · rw [st, cls, if_pos c2]; exact bS_u hb i (by omega) rfl
end CB4
section CD4
variable {l : Launch} {G : zG} {μ : zM} {o c : Nat} {cu ν b : zB} {s : Nat → Int32}
theorem cb_close (ho : o < 49) (hc : c < 6) (hk : cOk cu) (hR : cR cu μ c) (hb : bS cu s ν b) :
    zCT l G 0 yX1_closePaid cX1_closePaid 3 none [.ref (G.ad 1 o), .ref (G.ad 2 c)] (putB μ o ν) (zV fun μ' => ∃ ν', μ' = putB μ o ν' ∧ bS cu s ν' (fd cls (nLo cu) b)) := by
  refine zCT_of (by decide) (Nat.le_of_ble_eq_true rfl) rfl (fun X hl hG hX hr => ?_)
  subst hG
  exact st_X1_closePaid_0 hX hr ho hc (cb_close2 hX hr ho hc hk hR (fun ν' h => ⟨rfl, ν', rfl, h⟩) (nLo cu) 0 ν (by omega) hb)
set_option maxHeartbeats 1000000 in
theorem cb_live31 {X : zX} {lv : Nat} {Post : Option Value → zM → Prop} (hX : zOk X cX1_live RX1 4 lv) (hr : zRt X none Post) (hlv : 1 < lv) (ho : o < 49) (hc : c < 6) (hk : cOk cu) (hR : cR cu μ c) {w : Int32} {b0 : zB}
    (hb : bS cu s ν (fd (due cu w) (nLo cu) b0)) (I : bInv (called cu w (fall cu w b0))) (s0 : s 0 = b0 0 0) (s1 : s 1 = b0 0 1 + b2i (fldS cu w))
    (K : ∀ ν', bR cu ν' (live cu w b0) → Post none (putB μ o ν')) :
    AW X 31 [some (.ref (X.G.ad 1 o)), some (.ref (X.G.ad 2 c)), some (.int w), some (.int (b2i (fldS cu w)))] [] (putB μ o ν) := by
  refine st_X1_live_31 hX hr ho hc ⟨1, _, hlv, cb_join ho hc hk hR hb, ?_⟩
  rintro μ1 ⟨ν1, rfl, h1⟩
  refine ⟨1, _, hlv, cb_called ho hc hk hR h1 (w := w), ?_⟩
  rintro r μ2 ⟨hf, rfl⟩
  simp only [forall_eq, pBI0]
  have h2 := bS_called hk h1 hf
  have fin2 : ∀ ν2, bS cu (upd s 3 r) ν2 (liveI cu w b0) → Post none (putB μ o (bU (bU ν2 0 0 (ν2 0 0 + 1)) 0 2 w)) := by
    intro ν2 h
    refine K _ ?_
    obtain ⟨l1, l2, l3, l4⟩ := live_rows cu w b0
    have h3 := bS_n (bS_n h (ν2 0 0 + 1) (show 0 ≠ 3 by decide)) w (show 2 ≠ 3 by decide)
    have h4 := bS_b (d := live cu w b0) h3 l1
    have z0 : ν2 0 = upd s 3 r := h.1
    refine ⟨by rw [h4.1]; exact h4, ?_, ?_, ?_⟩
    · rw [bU_ne _ _ (by decide), bU_at, z0, l2, ← s0]; rfl
    · rw [bU_ne _ _ (by decide), bU_ne _ _ (by decide), z0, l3, ← s1]; rfl
    · rw [bU_at, l4]
  refine ⟨fun cw => ?_, fun cw => ?_⟩
  · have CT := cb_settle (l := X.l) (G := X.G) ho hc hk hR h2 I (w := w)
    have e : b2i (decide (¬ w = 0)) = (0 : Int32) := by rw [cw]; rfl
    rw [e] at CT
    refine ⟨1, _, hlv, CT, ?_⟩
    · rintro μ3 ⟨ν3, rfl, h3⟩
      refine ⟨0, _, by omega, cb_close ho hc hk hR h3, ?_⟩
      rintro μ4 ⟨ν4, rfl, h4⟩
      simp only [forall_eq, pBI0, pB0]
      exact fin2 ν4 h4
  · have CT := cb_settle (l := X.l) (G := X.G) ho hc hk hR h2 I (w := w)
    have e : b2i (decide (¬ w = 0)) = (1 : Int32) := by rw [decide_eq_true cw]; rfl
    rw [e] at CT
    refine ⟨1, _, hlv, CT, ?_⟩
    · rintro μ3 ⟨ν3, rfl, h3⟩
      refine ⟨0, _, by omega, cb_close ho hc hk hR h3, ?_⟩
      rintro μ4 ⟨ν4, rfl, h4⟩
      simp only [forall_eq, pBI0, pB0]
      exact fin2 ν4 h4
set_option maxHeartbeats 1000000 in
/-- a day of the class's book is a day of the reference's -/
theorem cb_live (ho : o < 49) (hc : c < 6) (hk : cOk cu) (hR : cR cu μ c) (hb : bR cu ν b) (hL : LI cu b) {w : Int32} (I : bInv (called cu w (fall cu w b))) :
    zCT l G 2 yX1_live cX1_live 4 none [.ref (G.ad 1 o), .ref (G.ad 2 c), .int w] (putB μ o ν) (zV fun μ' => ∃ ν', μ' = putB μ o ν' ∧ bR cu ν' (live cu w b)) := by
  refine zCT_of (by decide) (Nat.le_of_ble_eq_true rfl) rfl (fun X hl hG hX hr => ?_)
  subst hG
  refine st_X1_live_0 hX hr ho hc ⟨0, _, by omega, cc_isFlood (cR_pB hR) hc, ?_⟩
  rintro r μ1 ⟨rfl, rfl⟩
  refine ⟨1, _, by omega, cb_ripen ho hc hk hR hb.1, ?_⟩
  rintro μ2 ⟨ν2, rfl, h2⟩
  have ad := all_due hL (w := w) (nLo cu) (Nat.le_refl _)
  refine ⟨fun cf => ?_, fun cf => ?_⟩
  · have hf := b2i0.mp cf
    rw [if_neg (by rw [hf]; decide)] at ad
    rw [ad] at h2
    exact cb_live31 hX hr (by omega) ho hc hk hR h2 I hb.2.1 (by rw [hb.2.2.1, hf]; exact (Int32.add_zero _).symm) (fun ν' h => ⟨rfl, ν', rfl, h⟩)
  · have hf := b2i1.mp cf
    rw [if_pos hf] at ad
    simp only [forall_eq, pBI0, pB0]
    have h3 := bS_n h2 (ν2 0 1 + 1) (show 1 ≠ 3 by decide)
    refine ⟨0, _, by omega, cb_all ho hc hk hR h3, ?_⟩
    rintro μ4 ⟨ν4, rfl, h4⟩
    rw [ad] at h4
    refine cb_live31 hX hr (by omega) ho hc hk hR h4 I ?_ ?_ (fun ν' h => ⟨rfl, ν', rfl, h⟩)
    · exact hb.2.1
    · show ν2 0 1 + 1 = _
      rw [h2.1, hb.2.2.1, hf]; rfl
end CD4
