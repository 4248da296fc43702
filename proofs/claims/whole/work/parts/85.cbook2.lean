/-! what falls due, loop by loop, is what falls due, loan by loan -/
def LI (cu b : zB) : Prop := ∀ l, l < nLo cu → (b 3 l = 0 ∨ b 3 l = 1 ∨ b 3 l = 2) ∧ (b 3 l = 0 → ¬ cu 8 l ≤ b 4 l)
theorem bU_comm (b : zB) {j k j' k' : Nat} (v v' : Int32) (h : ¬ (j = j' ∧ k = k')) : bU (bU b j k v) j' k' v' = bU (bU b j' k' v') j k v := by
  funext a c
  simp only [bU]
  by_cases h1 : a = j ∧ c = k
  · by_cases h2 : a = j' ∧ c = k'
    · exact absurd ⟨h1.1.symm.trans h2.1, h1.2.symm.trans h2.2⟩ h
    · rw [if_neg h2, if_pos h1, if_pos h1]
  · rw [if_neg h1, if_neg h1]
theorem ripF_at {cu : zB} {w : Int32} {l : Nat} {b : zB} {a c : Nat} (h : c ≠ l) : ripF cu w l b a c = b a c := by
  unfold ripF
  have z : ∀ (x : zB) (j : Nat) (v : Int32), bU x j l v a c = x a c := fun x j v => bU_ne x v (fun q => h q.2)
  split
  · rfl
  · split
    · dsimp only
      split
      · rw [z, z, z]
      · rw [z, z]
    · rfl
theorem allF_at {cu : zB} {l : Nat} {b : zB} {a c : Nat} (h : c ≠ l) : allF cu l b a c = b a c := by
  unfold allF
  split
  · exact bU_ne b _ (fun q => h q.2)
  · rfl
theorem due_at {cu : zB} {w : Int32} {l : Nat} {b : zB} {a c : Nat} (h : c ≠ l) : due cu w l b a c = b a c := by
  have z : ∀ (x : zB) (j : Nat) (v : Int32), bU x j l v a c = x a c := fun x j v => bU_ne x v (fun q => h q.2)
  unfold due
  split
  · rfl
  · have : du1 cu w l b a c = b a c := by
      unfold du1
      split
      · dsimp only; rw [z, z]
      · rfl
    unfold du2
    split
    · rw [z, this]
    · exact this
theorem fdue_at {cu : zB} {w : Int32} {b : zB} {a c : Nat} : ∀ {n : Nat}, n ≤ c → fd (due cu w) n b a c = b a c
  | 0, _ => rfl
  | n + 1, h => by
    show due cu w n (fd (due cu w) n b) a c = _
    rw [due_at (by omega), fdue_at (by omega)]
theorem rip_all {cu : zB} {w : Int32} {l n : Nat} (h : l ≠ n) (b : zB) : allF cu l (ripF cu w n b) = ripF cu w n (allF cu l b) := by
  have e3 : ripF cu w n b 3 l = b 3 l := ripF_at h
  have a2 : ∀ j, allF cu l b j n = b j n := fun j => allF_at (Ne.symm h)
  by_cases hc : b 3 l = 0 ∧ ¬ cu 10 l = 4
  · have ha : allF cu l b = bU b 3 l 1 := by rw [allF, if_pos hc]
    have ha2 : allF cu l (ripF cu w n b) = bU (ripF cu w n b) 3 l 1 := by rw [allF, e3, if_pos hc]
    rw [ha2, ha]
    have z : ∀ (x : zB) (j : Nat), bU x 3 l 1 j n = x j n := fun x j => bU_ne x _ (fun q => h q.2.symm)
    have cm : ∀ (x : zB) (j : Nat) (v : Int32), bU (bU x j n v) 3 l 1 = bU (bU x 3 l 1) j n v := fun x j v => bU_comm x v 1 (fun q => h q.2.symm)
    unfold ripF
    simp only [z]
    by_cases h2 : b 3 n = 2
    · simp only [if_pos h2]
    · simp only [if_neg h2]
      by_cases h3 : ripS cu n w = true
      · simp only [if_pos h3]
        have y1 : bU (bU b 3 l 1) 4 n (b 4 n + 1) = bU (bU b 4 n (b 4 n + 1)) 3 l 1 := (cm b 4 _).symm
        rw [y1]
        simp only [z]
        rw [← cm]
        simp only [z]
        split
        · exact cm _ 3 1
        · rfl
      · simp only [if_neg h3]
  · have ha : allF cu l b = b := by rw [allF, if_neg hc]
    have ha2 : allF cu l (ripF cu w n b) = ripF cu w n b := by rw [allF, e3, if_neg hc]
    rw [ha2, ha]
theorem rip_fall {cu : zB} {w : Int32} {n : Nat} (b : zB) : ∀ {k : Nat}, k ≤ n → fd (allF cu) k (ripF cu w n b) = ripF cu w n (fd (allF cu) k b)
  | 0, _ => rfl
  | k + 1, h => by
    show allF cu k (fd (allF cu) k (ripF cu w n b)) = ripF cu w n (allF cu k (fd (allF cu) k b))
    rw [rip_fall b (by omega), rip_all (by omega)]
theorem one_due {cu : zB} {w : Int32} {l : Nat} {b : zB} (h : (b 3 l = 0 ∨ b 3 l = 1 ∨ b 3 l = 2) ∧ (b 3 l = 0 → ¬ cu 8 l ≤ b 4 l)) :
    (if fldS cu w = true then allF cu l (ripF cu w l b) else ripF cu w l b) = due cu w l b := by
  have same : ∀ (x : zB), x 3 l = 1 → bU x 3 l 1 = x := by
    intro x hx
    funext a c
    simp only [bU]
    split
    · rename_i q; rw [q.1, q.2, hx]
    · rfl
  obtain ⟨x, hx1, hx2, x3, x4⟩ : ∃ x : zB, (ripS cu l w = true → du1 cu w l b = x) ∧ (ripS cu l w = true → ¬ b 3 l = 2 → ripF cu w l b = if x 3 l = 0 ∧ ¬ x 4 l < cu 8 l then bU x 3 l 1 else x) ∧ x 3 l = b 3 l ∧ x 4 l = b 4 l + 1 := by
    refine ⟨bU (bU b 4 l (b 4 l + 1)) 2 l (bU b 4 l (b 4 l + 1) 2 l + cu 7 l), fun hr => ?_, fun hr h2 => ?_, ?_, ?_⟩
    · rw [du1, if_pos hr]
    · rw [ripF, if_neg h2, if_pos hr]
    · rw [bU_ne _ _ (by omega), bU_ne _ _ (by omega)]
    · rw [bU_ne _ _ (by omega), bU_at]
  have z0 : ¬ ripS cu l w = true → du1 cu w l b = b := fun hr => by rw [du1, if_neg hr]
  have y0 : ¬ ripS cu l w = true → ripF cu w l b = b := fun hr => by
    rw [ripF]
    split
    · rfl
    · rfl
  unfold due
  rcases h.1 with h3 | h3 | h3
  · -- lent
    have n2 : ¬ b 3 l = 2 := by rw [h3]; decide
    have hd := h.2 h3
    rw [if_neg n2]
    by_cases hr : ripS cu l w = true
    · rw [hx1 hr, hx2 hr n2]
      by_cases hq : cu 8 l ≤ b 4 l + 1
      · have hq' : ¬ x 4 l < cu 8 l := by rw [x4]; exact Int32.not_lt.mpr hq
        rw [if_pos (show x 3 l = 0 ∧ ¬ x 4 l < cu 8 l from ⟨x3.trans h3, hq'⟩), du2, if_pos (Or.inl (by rw [x4]; exact hq))]
        have ea : allF cu l (bU x 3 l 1) = bU x 3 l 1 := by
          rw [allF, if_neg]
          rw [bU_at]; rintro ⟨q, -⟩; exact absurd q (by decide)
        rw [ea]; split <;> rfl
      · have hq' : x 4 l < cu 8 l := by rw [x4]; exact Int32.not_le.mp hq
        rw [if_neg (show ¬ (x 3 l = 0 ∧ ¬ x 4 l < cu 8 l) from fun q => q.2 hq')]
        by_cases hf : fldS cu w = true
        · rw [if_pos hf, allF, du2]
          by_cases hk : cu 10 l = 4
          · rw [if_neg (fun q => q.2 hk), if_neg]
            rintro (q | ⟨-, q⟩)
            · rw [x4] at q; exact hq q
            · exact q hk
          · rw [if_pos ⟨x3.trans h3, hk⟩, if_pos (Or.inr ⟨hf, hk⟩)]
        · rw [if_neg hf, du2, if_neg]
          rintro (q | ⟨q, -⟩)
          · rw [x4] at q; exact hq q
          · exact hf q
    · rw [z0 hr, y0 hr]
      by_cases hf : fldS cu w = true
      · rw [if_pos hf, allF, du2]
        by_cases hk : cu 10 l = 4
        · rw [if_neg (fun q => q.2 hk), if_neg]
          rintro (q | ⟨-, q⟩)
          · exact hd q
          · exact q hk
        · rw [if_pos ⟨h3, hk⟩, if_pos (Or.inr ⟨hf, hk⟩)]
      · rw [if_neg hf, du2, if_neg]
        rintro (q | ⟨q, -⟩)
        · exact hd q
        · exact hf q
  · -- due
    have n2 : ¬ b 3 l = 2 := by rw [h3]; decide
    rw [if_neg n2]
    have key : ∀ y : zB, y 3 l = 1 → (if fldS cu w = true then allF cu l y else y) = du2 cu (fldS cu w) l y := by
      intro y hy
      have ea : allF cu l y = y := by rw [allF, if_neg (fun q => by rw [hy] at q; exact absurd q.1 (by decide))]
      have ed : du2 cu (fldS cu w) l y = y := by
        unfold du2
        split
        · exact same y hy
        · rfl
      rw [ea, ed]; split <;> rfl
    by_cases hr : ripS cu l w = true
    · have x1 : x 3 l = 1 := x3.trans h3
      rw [hx1 hr, hx2 hr n2, if_neg (show ¬ (x 3 l = 0 ∧ ¬ x 4 l < cu 8 l) from fun q => by rw [x1] at q; exact absurd q.1 (by decide))]
      exact key x x1
    · rw [z0 hr, y0 hr]
      exact key b h3
  · -- paid
    have n0 : ¬ b 3 l = 0 := by rw [h3]; decide
    have er : ripF cu w l b = b := by rw [ripF, if_pos h3]
    have ea : allF cu l b = b := by rw [allF, if_neg (fun q => n0 q.1)]
    rw [if_pos h3, er, ea]; split <;> rfl
theorem all_due {cu : zB} {w : Int32} {b : zB} (h : LI cu b) : ∀ n, n ≤ nLo cu → (if fldS cu w = true then fd (allF cu) n (fd (ripF cu w) n b) else fd (ripF cu w) n b) = fd (due cu w) n b
  | 0, _ => by split <;> rfl
  | n + 1, hn => by
    have ih := all_due h (w := w) n (by omega)
    have hl : (fd (due cu w) n b 3 n = 0 ∨ fd (due cu w) n b 3 n = 1 ∨ fd (due cu w) n b 3 n = 2) ∧ (fd (due cu w) n b 3 n = 0 → ¬ cu 8 n ≤ fd (due cu w) n b 4 n) := by
      rw [fdue_at (Nat.le_refl _), fdue_at (Nat.le_refl _)]; exact h n (by omega)
    have o := one_due (w := w) hl
    show (if fldS cu w = true then allF cu n (fd (allF cu) n (ripF cu w n (fd (ripF cu w) n b))) else ripF cu w n (fd (ripF cu w) n b)) = due cu w n (fd (due cu w) n b)
    by_cases hf : fldS cu w = true
    · rw [if_pos hf] at ih o ⊢
      rw [rip_fall _ (Nat.le_refl _), ih, o]
    · rw [if_neg hf] at ih o ⊢
      rw [ih, o]
/-! who is called -/
def cldB (cu : zB) (w : Int32) (b : zB) (l : Nat) : Bool := decide (b 3 l = 1 ∧ (ripS cu l w = true ∨ (fldS cu w = true ∧ ¬ cu 10 l = 4)))
theorem called_at {cu : zB} {w : Int32} {b : zB} {a c : Nat} : ∀ {n : Nat}, fd (cld cu w) n b a c = if a = 6 ∧ c < n then b2i (cldB cu w b c) else b a c
  | 0 => by rw [if_neg (by omega)]; rfl
  | n + 1 => by
    show cld cu w n (fd (cld cu w) n b) a c = _
    have e3 : fd (cld cu w) n b 3 n = b 3 n := by rw [called_at (n := n), if_neg (by omega)]
    have ex : cld cu w n (fd (cld cu w) n b) = bU (fd (cld cu w) n b) 6 n (b2i (cldB cu w b n)) := by
      generalize fd (cld cu w) n b = y at e3
      unfold cld cldB b2i
      rw [e3]
      by_cases hc : b 3 n = 1 ∧ (ripS cu n w = true ∨ (fldS cu w = true ∧ ¬ cu 10 n = 4))
      · rw [if_pos hc, decide_eq_true hc]; rfl
      · rw [if_neg hc, decide_eq_false hc]; rfl
    rw [ex]
    by_cases h : a = 6 ∧ c = n
    · obtain ⟨rfl, rfl⟩ := h
      rw [bU_at, if_pos ⟨rfl, by omega⟩]
    · rw [bU_ne _ _ h, called_at (n := n)]
      by_cases h2 : a = 6 ∧ c < n
      · rw [if_pos h2, if_pos ⟨h2.1, by omega⟩]
      · rw [if_neg h2, if_neg (by omega)]
section CB2
variable {X : zX} {lv : Nat} {Post : Option Value → zM → Prop} {μ : zM} {w : Int32} {o c : Nat} {cu b0 : zB} {s : Nat → Int32}
def fndI (cu : zB) (w : Int32) (b : zB) (n : Nat) (x : Int32) : Prop := ∀ l, l < 32 → bt x l = (decide (l < n) && cldB cu w b l)
theorem fnd_s {cu : zB} {w : Int32} {b : zB} {n : Nat} {x : Int32} (hn : n < 32) (h : fndI cu w b n x) : (cldB cu w b n = true → fndI cu w b (n + 1) (x ||| ((1 : Int32) <<< (nI n &&& 31)))) ∧ (cldB cu w b n = false → fndI cu w b (n + 1) x) := by
  refine ⟨fun q l hl => ?_, fun q l hl => ?_⟩
  · rw [bt_orsh x hn hl, h l hl]
    by_cases e : l = n
    · subst e; simp [q]
    · rw [decide_eq_false e, Bool.or_false]
      by_cases g : l < n
      · rw [decide_eq_true g, decide_eq_true (show l < n + 1 by omega)]
      · rw [decide_eq_false g, decide_eq_false (show ¬ l < n + 1 by omega)]
  · rw [h l hl]
    by_cases e : l = n
    · subst e; simp [q]
    · by_cases g : l < n
      · rw [decide_eq_true g, decide_eq_true (show l < n + 1 by omega)]
      · rw [decide_eq_false g, decide_eq_false (show ¬ l < n + 1 by omega)]
set_option maxHeartbeats 1000000 in
theorem cb_called6 (hX : zOk X cX1_calledOn RX1 7 lv) (hr : zRt X (some .int) Post) (hlv : 0 < lv) (ho : o < 49) (hc : c < 6) (hk : cOk cu) (hR : cR cu μ c) {ν b : zB} (hb : bS cu s ν b)
    (K : ∀ x, fndI cu w b (nLo cu) x → Post (some (.int x)) (putB μ o ν)) :
    ∀ (k i : Nat) (x : Int32), i + k = nLo cu → fndI cu w b i x → AW X 6 [some (.ref (X.G.ad 1 o)), some (.ref (X.G.ad 2 c)), some (.int w), some (.int (b2i (fldS cu w))), some (.int x), some (.int (nI i)), none] [] (putB μ o ν) := by
  have hlo : vp_in (cu 0 2) 11 := hk.2.2.1
  have n10 := (cOk_n hk).1
  have en : nLo cu = ix (cu 0 2) := rfl
  intro k
  induction k with
  | zero =>
    intro i x hi hx
    refine st_X1_calledOn_6 hX hr ho hc ⟨fun c1 => K x (by rw [← show i = nLo cu by omega]; exact hx), fun c1 => absurd ?_ c1⟩
    rw [pB_c, hR.1.2.2.1]; exact (vle hlo (by omega) (by omega)).mpr (by omega)
  | succ k ih =>
    intro i x hi hx
    have e0 : ix (nI i) = i := ixn (by omega)
    obtain ⟨-, -, -, -, -, -, e10, -⟩ := hR.2.2.2.1 i (by omega)
    obtain ⟨q2, q3, q4, q5⟩ := hb.2.2.1 i (by omega)
    obtain ⟨f1, f0⟩ := fnd_s (n := i) (by omega) hx
    have at37 : ¬ (fldS cu w = true ∧ ¬ cu 10 i = 4) → AW X 37 [some (.ref (X.G.ad 1 o)), some (.ref (X.G.ad 2 c)), some (.int w), some (.int (b2i (fldS cu w))), some (.int x), some (.int (nI i)), none] [] (putB μ o ν) := by
      intro hno
      refine st_X1_calledOn_37 hX hr ho hc ⟨vin (by omega) (by omega), ?_⟩
      simp only [forall_eq, nI_1, e0, pB3, q3]
      refine ⟨fun c2 => ih (i + 1) x (by omega) (f0 (decide_eq_false (fun q => c2 q.1))), fun c2 => ?_⟩
      refine ⟨0, _, hlv, cc_isRipe (cR_pB hR) hc (by omega) (by omega), ?_⟩
      rintro r μ' ⟨rfl, rfl⟩
      refine ⟨fun c3 => ih (i + 1) x (by omega) (f0 (decide_eq_false ?_)), fun c3 => ih (i + 1) _ (by omega) (f1 (decide_eq_true ⟨c2, Or.inl (b2i1.mp c3)⟩))⟩
      rintro ⟨-, q | q⟩
      · rw [b2i0.mp c3] at q; cases q
      · exact hno q
    refine st_X1_calledOn_6 hX hr ho hc ⟨fun c1 => absurd c1 ?_, fun c1 => ?_⟩
    · rw [pB_c, hR.1.2.2.1]; intro q
      have := (vle hlo (by omega) (by omega)).mp q
      omega
    · simp only [forall_eq, nI_1, e0, pB3, pB_t, Nat.add_zero, e10, q3]
      refine ⟨fun c2 => at37 (fun q => by rw [b2i0.mp c2] at q; exact absurd q.1 (by decide)), fun c2 => ⟨vin (by omega) (by omega), fun c3 => at37 (fun q => q.2 c3), fun c3 => ⟨fun c4 => ih (i + 1) x (by omega) (f0 (decide_eq_false (fun q => c4 q.1))), fun c4 => ih (i + 1) _ (by omega) (f1 (decide_eq_true ⟨c4, Or.inr ⟨b2i1.mp c2, c3⟩⟩))⟩⟩⟩
end CB2
section CD2
variable {l : Launch} {G : zG} {μ : zM} {o c : Nat} {cu ν b : zB} {s : Nat → Int32}
theorem cb_called (ho : o < 49) (hc : c < 6) (hk : cOk cu) (hR : cR cu μ c) (hb : bS cu s ν b) {w : Int32} :
    zCT l G 1 yX1_calledOn cX1_calledOn 7 (some .int) [.ref (G.ad 1 o), .ref (G.ad 2 c), .int w, .int (b2i (fldS cu w))] (putB μ o ν) (zI fun r μ' => fndI cu w b (nLo cu) r ∧ μ' = putB μ o ν) := by
  refine zCT_of (by decide) (Nat.le_of_ble_eq_true rfl) rfl (fun X hl hG hX hr => ?_)
  subst hG
  refine st_X1_calledOn_0 hX hr ho hc (cb_called6 hX hr (by omega) ho hc hk hR hb (fun x h => ⟨_, rfl, h, rfl⟩) (nLo cu) 0 0 (by omega) (fun l hl => ?_))
  rw [b_0, decide_eq_false (by omega)]; rfl
/-- .. and is kept -/
theorem bS_called {w x : Int32} (hk : cOk cu) (hb : bS cu s ν b) (hx : fndI cu w b (nLo cu) x) : bS cu (upd s 3 x) (bU ν 0 3 x) (called cu w b) := by
  have n10 := (cOk_n hk).1
  obtain ⟨h0, hp, hl, h6⟩ := hb
  have ca : ∀ a c, a ≠ 6 → called cu w b a c = b a c := fun a c h => by unfold called; rw [called_at, if_neg (by omega)]
  refine ⟨?_, fun p q => by rw [bU_row (by decide), ca _ _ (by decide)]; exact hp p q, fun l q => by rw [bU_row (by decide), bU_row (by decide), bU_row (by decide), bU_row (by decide), ca _ _ (by decide), ca _ _ (by decide), ca _ _ (by decide), ca _ _ (by decide)]; exact hl l q, fun l q => ?_⟩
  · funext c
    rw [← h0]
    simp [bU, upd]
  · unfold called
    rw [called_at, if_pos ⟨rfl, q⟩]
    show _ = b2i (wetAt x (nI l))
    rw [wet_bt x (by omega), hx l (by omega), decide_eq_true q, Bool.true_and]
theorem cb_isCalled (ho : o < 49) (hb : bS cu s ν b) {i : Nat} (hi : i < nLo cu) :
    zCT l G 0 yX1_isCalled cX1_isCalled 2 (some .boolean) [.ref (G.ad 1 o), .int (nI i)] (putB μ o ν) (zI fun r μ' => r = b 6 i ∧ μ' = putB μ o ν) := by
  refine zCT_of (by decide) (Nat.le_of_ble_eq_true rfl) rfl (fun X hl hG hX hr => ?_)
  subst hG
  obtain ⟨h0, hp, hl, h6⟩ := hb
  refine st_X1_isCalled_0 hX hr ho ?_
  rw [pB0, h0]
  refine ⟨fun c1 => ⟨_, rfl, ?_, rfl⟩, fun c1 => ⟨_, rfl, ?_, rfl⟩⟩
  · rw [h6 i hi, wetAt, decide_eq_false c1]; rfl
  · rw [h6 i hi, wetAt, decide_eq_true c1]; rfl
end CD2
