/-! THE REFERENCE: an expression read -/
/-- what a bet may write beside -/
def prB (κ k : Nat) : Bool := prP κ k || ((decide (κ = 11) && decide (k = 32)) || ((decide (κ = 39) && decide (k = 1)) || ((decide (53 ≤ κ ∧ κ ≤ 56) && decide (8 ≤ k ∧ k < 16)) || ((decide (κ = 57) && decide (1000 ≤ k ∧ k < 2000)) || decide (κ = 58 ∨ κ = 59)))))
theorem pr_prB {μ ν : zM} (h : frm prP prQ μ ν) : frm prB prQ μ ν := h.mono (fun κ k q => by unfold prB at q; rw [Bool.or_eq_false_iff] at q; exact q.1) (fun _ _ q => q)
theorem fail_prB {μ ν : zM} (h : frm prB prQ μ ν) (x : Int32) : frm prB prQ μ (pI ν 11 0 9 x) := frm_I h rfl x
def lnI (μ : zM) (ln : Nat → Nat → Int32) : Prop := ∀ k, μ.1 55 0 k = ln 55 k ∧ μ.1 56 0 k = ln 56 k
theorem lnI_I {μ : zM} {ln : Nat → Nat → Int32} (h : lnI μ ln) {κ k : Nat} {v : Int32} (h1 : κ ≠ 55) (h2 : κ ≠ 56) : lnI (pI μ κ 0 k v) ln := fun j => by
  rw [pI_other _ _ _ _ _ _ (Ne.symm h1), pI_other _ _ _ _ _ _ (Ne.symm h2)]; exact h j
def RI (μ : zM) (T : Nat → Int32) (n b : Nat) (cu : zB) (hn pn : Nat → Int64) (c : Nat) (cd op cm : Nat → Int32) (ln : Nat → Nat → Int32) : Prop := PT μ T n b cu hn pn c ∧ μ.1 57 0 = cd ∧ μ.1 58 0 = op ∧ μ.1 59 0 = cm ∧ lnI μ ln
def facS (T : Nat → Int32) (n b : Nat) : Int32 := if tyS T n b = 1 then (if wdS T n b = 3379448 then 1 else if wdS T n b = 275356804 then 2 else if wdS T n b = 10793335 then 3 else if wdS T n b = 94492070 then 4 else if wdS T n b = 16922 then 5 else 0) else 0
section RW
variable {lc : Launch} {G : zG} {μ : zM} {T : Nat → Int32} {n b c : Nat} {cu : zB} {hn pn : Nat → Int64} {cd op cm : Nat → Int32} {ln : Nat → Nat → Int32}
theorem RI_next (h : RI μ T n b cu hn pn c cd op cm ln) : zCT lc G 1 yX11_nextToken cX11_nextToken 2 none [.ref (G.ad 11 0)] μ (zV fun μ' => frm prB prQ μ μ' ∧ RI μ' T n (nbS T n b) cu hn pn c cd op cm ln) := by
  obtain ⟨⟨hs, rfl⟩, h57, h58, h59, hln⟩ := h
  refine zCT_post (cr_next hs.1) ?_
  rintro rv μ' ⟨rfl, hf, hp⟩
  refine ⟨rfl, pr_prB (tk_pr hf), ⟨PS_tk hs hf hp, tape_pr (tk_pr hf)⟩, ?_, ?_, ?_, fun k => by rw [hf.1 55 0 k rfl, hf.1 56 0 k rfl]; exact hln k⟩
  · rw [← h57]; funext k; exact hf.1 57 0 k rfl
  · rw [← h58]; funext k; exact hf.1 58 0 k rfl
  · rw [← h59]; funext k; exact hf.1 59 0 k rfl
theorem PT_free {κ k : Nat} {v : Int32} (h : PT μ T n b cu hn pn c) (h1 : κ = 55 ∨ κ = 56 ∨ κ = 57 ∨ κ = 58 ∨ κ = 59) : PT (pI μ κ 0 k v) T n b cu hn pn c := by
  obtain ⟨⟨a1, a2, a3, a4, a5⟩, a6⟩ := h
  have h11 : κ ≠ 11 := by omega
  have h35 : κ ≠ 35 := by omega
  refine ⟨⟨PI_far a1 h11 h35, ?_, a3, a4, by rw [pI_other _ _ _ _ _ _ (Ne.symm h11)]; exact a5⟩, by rw [pI_row2 _ _ _ _ _ (Ne.symm h35)]; exact a6⟩
  rw [← a2]
  exact cuB_frm (P := fun κ _ => decide (55 ≤ κ ∧ κ ≤ 59)) (Q := fun _ _ => false) (frm_I (frm.rf μ) (by simp; omega) v) 1 ⟨rfl, rfl, rfl, rfl⟩ (fun κ k h1 h2 => decide_eq_false (by omega))
theorem PT_32 (h : PT μ T n b cu hn pn c) (c' : Nat) : PT (pI μ 11 0 32 (nI c')) T n b cu hn pn c' := by
  obtain ⟨⟨a1, a2, a3, a4, a5⟩, a6⟩ := h
  refine ⟨⟨?_, by rw [cuB_pI11]; exact a2, a3, a4, pI_at _ _ _ _ _⟩, by rw [pI_row2 _ _ _ _ _ (by decide)]; exact a6⟩
  obtain ⟨b1, b2, b3, b5, b6, b4, b7, b8⟩ := a1
  refine ⟨b1, b2, ?_, ?_⟩
  · rw [pI_place _ _ _ _ (by decide)]; exact b3
  · rw [pI_row2 _ _ _ _ _ (by decide)]
    exact ⟨by rw [pI_place _ _ _ _ (by decide)]; exact b5, by rw [pI_place _ _ _ _ (by decide)]; exact b6, by rw [pI_place _ _ _ _ (by decide)]; exact b4, b7, by rw [pI_place _ _ _ _ (by decide)]; exact b8⟩
theorem pI_rowU (μ : zM) (κ k : Nat) (v : Int32) : (pI μ κ 0 k v).1 κ 0 = upd (μ.1 κ 0) k v := pI_row
theorem RI_puts (h : RI μ T n b cu hn pn c cd op cm ln) (h1 : 1000 ≤ c) (h2 : c < 2000) {x : Int32} : zCT lc G 0 yX11_puts cX11_puts 2 none [.ref (G.ad 11 0), .int x] μ (zV fun μ' => frm prB prQ μ μ' ∧ RI μ' T n b cu hn pn (c + 1) (upd cd c x) op cm ln) := by
  refine zCT_of (by decide) (Nat.le_of_ble_eq_true rfl) rfl (fun X hl0 hG hX hr => ?_)
  subst hG
  have e32 : μ.1 11 0 32 = nI c := h.1.1.2.2.2.2
  have ic : ix (nI c) = c := ixn (by omega)
  refine st_X11_puts_0 hX hr ?_
  simp only [forall_eq]
  rw [e32, ic, pI_other _ _ _ _ _ _ (by decide), e32, nI_1]
  obtain ⟨hp, h57, h58, h59, hln⟩ := h
  refine ⟨vin (by omega) (by omega), rfl, frm_I (frm_I (frm.rf μ) (by simp [prB]; omega) x) rfl _, PT_32 (PT_free hp (by omega)) _, ?_, ?_, ?_, lnI_I (lnI_I hln (by decide) (by decide)) (by decide) (by decide)⟩
  · rw [pI_row2 _ _ _ _ _ (by decide), pI_rowU, h57]
  · rw [pI_row2 _ _ _ _ _ (by decide), pI_row2 _ _ _ _ _ (by decide), h58]
  · rw [pI_row2 _ _ _ _ _ (by decide), pI_row2 _ _ _ _ _ (by decide), h59]
theorem RI_58 (h : RI μ T n b cu hn pn c cd op cm ln) (k : Nat) (v : Int32) : frm prB prQ μ (pI μ 58 0 k v) ∧ RI (pI μ 58 0 k v) T n b cu hn pn c cd (upd op k v) cm ln := by
  obtain ⟨hp, h57, h58, h59, hln⟩ := h
  refine ⟨frm_I (frm.rf μ) rfl v, PT_free hp (by omega), ?_, ?_, ?_, lnI_I hln (by decide) (by decide)⟩
  · rw [pI_row2 _ _ _ _ _ (by decide), h57]
  · rw [pI_rowU, h58]
  · rw [pI_row2 _ _ _ _ _ (by decide), h59]
theorem RI_59 (h : RI μ T n b cu hn pn c cd op cm ln) (k : Nat) (v : Int32) : frm prB prQ μ (pI μ 59 0 k v) ∧ RI (pI μ 59 0 k v) T n b cu hn pn c cd op (upd cm k v) ln := by
  obtain ⟨hp, h57, h58, h59, hln⟩ := h
  refine ⟨frm_I (frm.rf μ) rfl v, PT_free hp (by omega), ?_, ?_, ?_, lnI_I hln (by decide) (by decide)⟩
  · rw [pI_row2 _ _ _ _ _ (by decide), h57]
  · rw [pI_row2 _ _ _ _ _ (by decide), h58]
  · rw [pI_rowU, h59]
theorem RI_fact (h : RI μ T n b cu hn pn c cd op cm ln) : zCT lc G 0 yX11_fact cX11_fact 1 (some .int) [.ref (G.ad 11 0)] μ (zI fun r μ' => r = facS T n b ∧ μ' = μ) := by
  refine zCT_of (by decide) (Nat.le_of_ble_eq_true rfl) rfl (fun X hl0 hG hX hr => ?_)
  subst hG
  obtain ⟨⟨hs, rfl⟩, -, -, -⟩ := h
  obtain ⟨⟨h1, h2, h3, h5, h6, h4, h7, h8⟩, -⟩ := hs
  refine st_X11_fact_0 hX hr ?_
  simp only [lg_cmp_eq]
  rw [h6, h7]
  unfold facS
  refine ⟨fun c1 => ⟨fun c2 => ⟨fun c3 => ⟨fun c4 => ⟨fun c5 => ⟨fun c6 => ⟨_, rfl, ?_, rfl⟩, fun c6 => ⟨_, rfl, ?_, rfl⟩⟩, fun c5 => ⟨_, rfl, ?_, rfl⟩⟩, fun c4 => ⟨_, rfl, ?_, rfl⟩⟩, fun c3 => ⟨_, rfl, ?_, rfl⟩⟩, fun c2 => ⟨_, rfl, ?_, rfl⟩⟩, fun c1 => ⟨_, rfl, ?_, rfl⟩⟩
  · rw [if_pos c1, if_neg c2, if_neg c3, if_neg c4, if_neg c5, if_neg c6]
  · rw [if_pos c1, if_neg c2, if_neg c3, if_neg c4, if_neg c5, if_pos c6]
  · rw [if_pos c1, if_neg c2, if_neg c3, if_neg c4, if_pos c5]
  · rw [if_pos c1, if_neg c2, if_neg c3, if_pos c4]
  · rw [if_pos c1, if_neg c2, if_pos c3]
  · rw [if_pos c1, if_pos c2]
  · rw [if_neg c1]
theorem RI_sign (h : RI μ T n b cu hn pn c cd op cm ln) {x : Int32} : zCT lc G 0 yX11_isSign cX11_isSign 2 (some .boolean) [.ref (G.ad 11 0), .int x] μ (zI fun r μ' => r = b2i (isG T n b x) ∧ μ' = μ) := by
  obtain ⟨⟨hs, rfl⟩, -, -, -⟩ := h
  exact cr_isSign hs.1
end RW
theorem tok_grow {T : Nat → Int32} {n b : Nat} (h : b ≤ n) (ht : tyS T n b ≠ 0) : b < nbS T n b ∧ b < n := by
  have hb : b < n := by
    rcases Nat.lt_or_ge b n with q | q
    · exact q
    · exact absurd (by show (tAt T n b).1 = 0; rw [tAt, if_pos (by omega)]) ht
  refine ⟨?_, hb⟩
  have h2 : b < (tAt T n b).2.1 := by
    rw [tAt, if_neg (by omega)]
    split
    · rename_i q
      show b < endS T n ltr b
      rw [endS_go hb q]
      exact Nat.lt_of_lt_of_le (Nat.lt_succ_self b) (endS_le (by omega)).1
    · split
      · rename_i q
        show b < endS T n dgt b
        rw [endS_go hb q]
        exact Nat.lt_of_lt_of_le (Nat.lt_succ_self b) (endS_le (by omega)).1
      · show b < b + 1
        omega
  exact Nat.lt_of_lt_of_le h2 (endS_le (tAt_le h)).1
theorem isW_ty {T : Nat → Int32} {n b : Nat} {w : Int64} (h : isW T n b w = true) : tyS T n b ≠ 0 := by
  unfold isW at h
  simp only [Bool.and_eq_true, decide_eq_true_eq] at h
  rw [h.1]; decide
theorem isG_ty {T : Nat → Int32} {n b : Nat} {x : Int32} (h : isG T n b x = true) : tyS T n b ≠ 0 := by
  unfold isG at h
  simp only [Bool.and_eq_true, decide_eq_true_eq] at h
  rw [h.1]; decide
theorem fac_ty {T : Nat → Int32} {n b : Nat} (h : facS T n b ≠ 0) : tyS T n b ≠ 0 := by
  unfold facS at h
  intro q
  rw [q] at h
  exact h rfl
