def prA (κ k : Nat) : Bool := prB κ k || (decide (κ = 11) && (decide (k = 1) || decide (k = 3)))
theorem prB_A {μ ν : zM} (h : frm prB prQ μ ν) : frm prA prQ μ ν := h.mono (fun κ k q => by unfold prA at q; rw [Bool.or_eq_false_iff] at q; exact q.1) (fun _ _ q => q)
/-- the custom that a reading begins with: block 1 without counts -/
def cu0 (μ : zM) : zB := bU (bU (bU (bU (cuB μ 1) 0 0 0) 0 1 0) 0 2 0) 0 3 0
def begM (μ : zM) (n : Nat) : zM := pI (pI (pI (pI (pI (pI (pI (pI μ 36 0 1 0) 37 0 1 0) 38 0 1 0) 39 0 1 0) 11 0 32 1000) 11 0 3 (nI n)) 11 0 1 0) 11 0 4 0
theorem begM_frm (μ : zM) (n : Nat) : frm prA prQ μ (begM μ n) := by
  unfold begM
  exact frm_I (frm_I (frm_I (frm_I (frm_I (frm_I (frm_I (frm_I (frm.rf μ) (by simp [prA, prB, prP]) _) (by simp [prA, prB, prP]) _) (by simp [prA, prB, prP]) _) (by simp [prA, prB, prP]) _) (by simp [prA, prB, prP]) _) (by simp [prA, prB, prP]) _) (by simp [prA, prB, prP]) _) (by simp [prA, prB, prP]) _
theorem begM_cu (μ : zM) (n : Nat) : cuB (begM μ n) 1 = cu0 μ := by
  unfold begM cu0
  rw [cuB_pI11, cuB_pI11, cuB_pI11, cuB_pI11, cbw03, cbw02, cbw01, cbw00]
def telA (μ : zM) (n : Nat) : Except Int32 (zB × (Nat → Int64) × (Nat → Int64) × (Nat → List Int32)) := telP (μ.1 35 0) n (n - tBg (μ.1 35 0) n 0 + 1) (cu0 μ) (μ.2 40 0) (μ.2 41 0) (fun _ => []) (tBg (μ.1 35 0) n 0)
theorem cr_readsAll {lc : Launch} {G : zG} {μ : zM} {n : Nat} (hn : n ≤ 1000) (en : μ.1 11 0 1 = nI n) :
    zCT lc G 4 yX11_readsAll cX11_readsAll 2 (some .boolean) [.ref (G.ad 11 0)] μ (zI fun r μ' => (frm prA prQ μ μ' ∧ μ'.1 11 0 1 = 0) ∧ rdQ (telA μ n) r μ' (fun s => ∃ b', TI μ' (μ.1 35 0) n b' s.1 s.2.1 s.2.2.1 s.2.2.2)) := by
  refine zCT_of (by decide) (Nat.le_of_ble_eq_true rfl) rfl (fun X hl0 hG hX hr => ?_)
  subst hG
  refine st_X11_readsAll_0 hX hr ?_
  simp only [forall_eq]
  have e1 : (pI (pI (pI (pI (pI μ 36 0 1 0) 37 0 1 0) 38 0 1 0) 39 0 1 0) 11 0 32 1000).1 11 0 1 = nI n := by
    rw [pI_place _ _ _ _ (by decide), pI_other _ _ _ _ _ _ (by decide), pI_other _ _ _ _ _ _ (by decide), pI_other _ _ _ _ _ _ (by decide), pI_other _ _ _ _ _ _ (by decide), en]
  rw [e1]
  have eB : pI (pI (pI (pI (pI (pI (pI (pI μ 36 0 1 0) 37 0 1 0) 38 0 1 0) 39 0 1 0) 11 0 32 1000) 11 0 3 (nI n)) 11 0 1 0) 11 0 4 0 = begM μ n := rfl
  rw [eB]
  have fB := begM_frm μ n
  have cB := begM_cu μ n
  have b3 : (begM μ n).1 11 0 3 = nI n := by
    unfold begM
    rw [pI_place _ _ _ _ (by decide), pI_place _ _ _ _ (by decide), pI_at]
  have b4 : (begM μ n).1 11 0 4 = nI 0 := by unfold begM; rw [pI_at]; rfl
  have b1 : (begM μ n).1 11 0 1 = 0 := by
    unfold begM
    rw [pI_place _ _ _ _ (by decide), pI_at]
  have b32 : (begM μ n).1 11 0 32 = nI 1000 := by
    unfold begM
    rw [pI_place _ _ _ _ (by decide), pI_place _ _ _ _ (by decide), pI_place _ _ _ _ (by decide), pI_at]; rfl
  have bT : (begM μ n).1 35 0 = μ.1 35 0 := by funext k; exact fB.1 35 0 k rfl
  have bh : (begM μ n).2 40 0 = μ.2 40 0 := rfl
  have bp : (begM μ n).2 41 0 = μ.2 41 0 := rfl
  generalize begM μ n = m at fB cB b3 b4 b1 b32 bT bh bp ⊢
  refine ⟨1, _, by omega, cr_nextToken hn b3 (Nat.zero_le n) b4, ?_⟩
  rintro m1 ⟨f1, t1⟩
  have eT : m1.1 35 0 = μ.1 35 0 := (tape_pr (tk_pr f1)).trans bT
  rw [bT] at t1
  have hb0 : tBg (μ.1 35 0) n 0 ≤ n := (endS_le (Nat.zero_le n)).2
  have hPT : PT m1 (μ.1 35 0) n (tBg (μ.1 35 0) n 0) (cu0 μ) (μ.2 40 0) (μ.2 41 0) 1000 := by
    refine ⟨⟨⟨hn, hb0, by rw [f1.1 11 0 3 rfl]; exact b3, by rw [eT]; exact t1⟩, by rw [cuB_tk f1]; exact cB, ?_, ?_, by rw [f1.1 11 0 32 rfl]; exact b32⟩, eT⟩
    · rw [← bh]; funext k; exact f1.2 40 0 k rfl
    · rw [← bp]; funext k; exact f1.2 41 0 k rfl
  have c03 : cu0 μ 0 3 = 0 := by unfold cu0; rw [bU_at]
  have hcnt : cnt (cu0 μ) := by
    have z : ∀ N : Nat, 0 < N → N < 2 ^ 31 → vp_in (0 : Int32) N := fun N h1 h2 => vin (i := 0) h1 h2
    refine ⟨?_, ?_, ?_, ?_⟩
    · unfold cu0; rw [bU_ne _ _ (by omega), bU_ne _ _ (by omega), bU_ne _ _ (by omega), bU_at]; exact z 5 (by omega) (by omega)
    · unfold cu0; rw [bU_ne _ _ (by omega), bU_ne _ _ (by omega), bU_at]; exact z 7 (by omega) (by omega)
    · unfold cu0; rw [bU_ne _ _ (by omega), bU_at]; exact z 11 (by omega) (by omega)
    · rw [c03]; exact z 9 (by omega) (by omega)
  refine al_loop hX hr (by omega) (μ0 := m1) (n - tBg (μ.1 35 0) n 0 + 1) (tBg (μ.1 35 0) n 0) (cu0 μ) (μ.2 40 0) (μ.2 41 0) (fun _ => []) m1 ⟨1000, m1.1 57 0, fun κ k => m1.1 κ 0 k, ⟨m1.1 58 0, m1.1 59 0, hPT, rfl, rfl, rfl, fun k => ⟨rfl, rfl⟩⟩, Nat.le_refl _, by omega, hcnt, ?_⟩ (by omega) (frm.rf _) (fun r μ' Fm q => ⟨r, rfl, ⟨?_, ?_⟩, q⟩)
  · rw [c03]
    intro i hi
    exact absurd hi (Nat.not_lt_zero i)
  · exact (fB.trans (prB_A (pr_prB (tk_pr f1)))).trans (prB_A Fm)
  · rw [Fm.1 11 0 1 rfl, f1.1 11 0 1 rfl]; exact b1
