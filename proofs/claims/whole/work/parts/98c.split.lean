/-! the tape, split: token after token -/
def tkN (T : Nat → Int32) (n : Nat) : Nat → Nat
  | 0 => tBg T n 0
  | i + 1 => nbS T n (tkN T n i)
/-- token number i of the tape: what begins at b -/
def tkA (μ : zM) (T : Nat → Int32) (n i b : Nat) : Prop := μ.1 28 0 i = tyS T n b ∧ μ.1 29 0 i = nI b ∧ μ.1 30 0 i = nI (wxS T n b) ∧ (b < n → μ.2 31 0 i = vlS T n b)
def TkI (μ : zM) (T : Nat → Int32) (n m : Nat) : Prop := n ≤ 1000 ∧ m ≤ 1000 ∧ tkN T n m = n ∧ (∀ i, i < m → tkN T n i < n) ∧ ∀ i, i ≤ m → tkA μ T n i (tkN T n i)
def tpK (κ _o : Nat) : Bool := decide (κ = 5 ∨ κ = 28 ∨ κ = 29 ∨ κ = 30 ∨ κ = 31)
theorem runS_gt {T : Nat → Int32} {n : Nat} {f : Int32 → Bool} {b : Nat} (hb : b < n) (hf : f (T b) = true) : b < endS T n f b := by
  rw [endS_go hb hf]
  have := (endS_le (T := T) (n := n) (f := f) (p := b + 1) (by omega)).1
  omega
theorem tAt_gt {T : Nat → Int32} {n b : Nat} (hb : b < n) : b < (tAt T n b).2.1 ∧ (tAt T n b).2.1 ≤ n := by
  refine ⟨?_, tAt_le (by omega)⟩
  rw [tAt, if_neg (by omega)]
  split
  · rename_i h; exact runS_gt hb h
  · split
    · rename_i h; exact runS_gt hb h
    · exact Nat.lt_succ_self b
theorem tkN_le (T : Nat → Int32) (n : Nat) : ∀ i, tkN T n i ≤ n
  | 0 => (endS_le (Nat.zero_le n)).2
  | i + 1 => nbS_le (tkN_le T n i)
theorem ty_n (T : Nat → Int32) (n : Nat) : tyS T n n = 0 := by
  show (tAt T n n).1 = 0
  rw [tAt, if_pos rfl]
theorem wx_n (T : Nat → Int32) (n : Nat) : wxS T n n = 0 := by rw [wxS, if_pos rfl]
section SP
variable {l : Launch} {G : zG} {μ : zM}
theorem tkA_ne {ν : zM} {T : Nat → Int32} {n i b a : Nat} {v : Int64} {t x : Int32} {w : Nat} {y : Int32} (h : tkA ν T n i b) (hi : i ≠ a) : tkA (pI (tkM (pI (pI ν 29 0 a x) 30 0 a (nI 0)) a v t w) 5 0 1 y) T n i b := by
  obtain ⟨h1, h2, h3, h4⟩ := h
  refine ⟨?_, ?_, ?_, fun q => ?_⟩
  · rw [← h1]; simp [tkM, pI, pL, hi]
  · rw [← h2]; simp [tkM, pI, pL, hi]
  · rw [← h3]; simp [tkM, pI, pL, hi]
  · rw [← h4 q]; simp [tkM, pI, pL, hi]
theorem tkA_at {ν : zM} {T : Nat → Int32} {n a b : Nat} {y : Int32} : tkA (pI (tkM (pI (pI ν 29 0 a (nI b)) 30 0 a (nI 0)) a (vlS T n b) (tyS T n b) (wxS T n b)) 5 0 1 y) T n a b := by
  refine ⟨?_, ?_, ?_, fun q => ?_⟩ <;> simp [tkM, pI, pL]
theorem fm_tk {ν : zM} {a : Nat} {x t y : Int32} {v : Int64} {w : Nat} (h : fm tpK μ ν) : fm tpK μ (pI (tkM (pI (pI ν 29 0 a x) 30 0 a (nI 0)) a v t w) 5 0 1 y) := by
  unfold tkM
  exact fm_I (fm_I (fm_I (fm_L (fm_I (fm_I h rfl _ _) rfl _ _) rfl _ _) rfl _ _) rfl _ _) rfl _ _
set_option maxHeartbeats 1000000 in
theorem ct_split (hE : zHas G) {n : Nat} (hn : n ≤ 1000) (en : μ.1 5 0 0 = nI n) (hc : ∀ j, j < n → ∃ c, c < 128 ∧ μ.1 27 0 j = nI c) :
    zCT l G 7 yX5_split cX5_split 4 none [.ref (G.ad 5 0)] μ (zV fun μ' => ∃ m, TkI μ' (μ.1 27 0) n m ∧ fm tpK μ μ' ∧ μ'.1 5 0 0 = nI n ∧ μ'.1 5 0 1 = nI 0) := by
  refine zCT_of (by decide) (Nat.le_of_ble_eq_true rfl) rfl (fun X hl0 hG hX hr => ?_)
  subst hG
  -- the end
  have last : ∀ (a : Nat) (ν : zM), a ≤ n → fm tpK μ ν → ν.1 5 0 0 = nI n → ν.1 5 0 1 = nI a → tkN (μ.1 27 0) n a = n → (∀ j, j < a → tkN (μ.1 27 0) n j < n ∧ tkA ν (μ.1 27 0) n j (tkN (μ.1 27 0) n j)) → AW X 94 [some (.ref (X.G.ad 5 0)), none, none, none] [] ν := by
    intro a ν ha hf e0 e1 hb hj
    refine st_X5_split_94 hX hr hE ?_
    rw [e1, ixn (by omega)]
    refine ⟨vin (by omega) (by omega), ?_⟩
    simp only [forall_eq]
    have r : ∀ (κ k : Nat) (v : Int32) (ρ : zM), κ ≠ 5 → (pI ρ κ 0 k v).1 5 0 = ρ.1 5 0 := fun κ k v ρ h => pI_row2 _ _ _ _ _ (Ne.symm h)
    rw [r _ _ _ _ (by decide), e0, e1, ixn (by omega), r _ _ _ _ (by decide), r _ _ _ _ (by decide), e1, ixn (by omega)]
    refine ⟨vin (by omega) (by omega), vin (by omega) (by omega), rfl, a, ⟨hn, by omega, hb, fun i hi => (hj i hi).1, fun i hi => ?_⟩, ?_, ?_, ?_⟩
    · by_cases hia : i = a
      · subst hia
        rw [hb]
        refine ⟨?_, ?_, ?_, fun q => absurd q (by omega)⟩
        · rw [ty_n]; simp [pI]
        · simp [pI]
        · rw [wx_n]; simp [pI]
      · obtain ⟨h1, h2, h3, h4⟩ := (hj i (by omega)).2
        refine ⟨?_, ?_, ?_, fun q => ?_⟩
        · rw [← h1]; simp [pI, hia]
        · rw [← h2]; simp [pI, hia]
        · rw [← h3]; simp [pI, hia]
        · rw [← h4 q]; rfl
    · exact fm_I (fm_I (fm_I (fm_I hf rfl _ _) rfl _ _) rfl _ _) rfl _ _
    · rw [pI_place _ _ _ _ (by decide), r _ _ _ _ (by decide), r _ _ _ _ (by decide), r _ _ _ _ (by decide), e0]
    · exact pI_at _ _ _ _ _
  have go : ∀ q p i a (ν : zM), q = n - p → p ≤ n → i ≤ p → a ≤ p → fm tpK μ ν → ν.1 5 0 0 = nI n → ν.1 5 0 1 = nI a → tBg (μ.1 27 0) n p = tkN (μ.1 27 0) n a → (∀ j, j < a → tkN (μ.1 27 0) n j < n ∧ tkA ν (μ.1 27 0) n j (tkN (μ.1 27 0) n j)) →
      AW X 9 [some (.ref (X.G.ad 5 0)), some (.int (nI p)), some (.int (nI i)), none] [] ν := by
    intro q
    induction q using Nat.strongRecOn with
    | _ q ih =>
    intro p i a ν hq hp hi ha hf e0 e1 hb hj
    have hT : ν.1 27 0 = μ.1 27 0 := (hf 27 0 rfl).1
    by_cases hpn : p = n
    · have hbn : tkN (μ.1 27 0) n a = n := by rw [← hb, hpn]; exact endS_stop (by omega)
      refine st_X5_split_9 hX hr hE ⟨fun _ => last a ν (by omega) hf e0 e1 hbn hj, fun _ => ⟨fun _ => last a ν (by omega) hf e0 e1 hbn hj, fun c => absurd ?_ c⟩⟩
      rw [e0]; exact nI_le (by omega) (by omega)
    · refine st_X5_split_9 hX hr hE ⟨fun c => absurd c (nI_ge (b := 1000) (by omega) (by omega)), fun _ => ⟨fun c => absurd c (by rw [e0]; exact nI_ge (by omega) (by omega)), fun _ => ⟨vin (by omega) (by omega), ?_⟩⟩⟩
      rw [ixn (by omega), hT]
      have blank : blk (μ.1 27 0 p) = true → AW X 9 [some (.ref (X.G.ad 5 0)), some (.int (nI (p + 1))), some (.int (nI (i + 1))), none] [] ν := fun hk => ih (n - (p + 1)) (by omega) (p + 1) (i + 1) a ν rfl (by omega) (by omega) (by omega) hf e0 e1 ((endS_go (by omega) hk).symm.trans hb) hj
      have e29 : (pI ν 29 0 a (nI p)).1 5 0 1 = nI a := by rw [pI_other _ _ _ _ _ _ (by decide)]; exact e1
      simp only [forall_eq, nI_1, e1, e29, ixn (show a < 2 ^ 31 by omega)]
      refine ⟨fun c => blank (by simp [blk, c]), fun c => ⟨fun c2 => ⟨vin (by omega) (by omega), vin (by omega) (by omega), ?_⟩, fun c2 => blank (by simp [blk, c2])⟩⟩
      have hk : ¬ blk (μ.1 27 0 p) = true := by simp [blk, c, c2]
      have hpb : tkN (μ.1 27 0) n a = p := by rw [← hb]; exact endS_stop (fun z => hk z.2)
      obtain ⟨ρ, eρ⟩ : ∃ ρ, ρ = pI (pI ν 29 0 a (nI p)) 30 0 a (nI 0) := ⟨_, rfl⟩
      have ρT : ρ.1 27 0 = μ.1 27 0 := by rw [eρ, pI_row2 _ _ _ _ _ (by decide), pI_row2 _ _ _ _ _ (by decide), hT]
      have ρ5 : ρ.1 5 0 = ν.1 5 0 := by rw [eρ, pI_row2 _ _ _ _ _ (by decide), pI_row2 _ _ _ _ _ (by decide)]
      have ρ30 : ρ.1 30 0 a = nI 0 := by rw [eρ]; exact pI_at _ _ _ _ _
      rw [← eρ, ← ρT]
      refine ⟨6, _, by omega, ct_off hE hn (by rw [ρ5]; exact e0) (by rw [ρ5]; exact e1) (by omega) (by omega) ρ30 (by rw [ρT]; exact hc p (by omega)), ?_⟩
      rintro r ρ' ⟨rfl, rfl⟩
      rw [ρT]
      obtain ⟨g1, g2⟩ := tAt_gt (T := μ.1 27 0) (n := n) (b := p) (by omega)
      have eM : (tkM ρ a (vlS (μ.1 27 0) n p) (tyS (μ.1 27 0) n p) (wxS (μ.1 27 0) n p)).1 5 0 = ν.1 5 0 := by
        unfold tkM
        rw [pI_row2 _ _ _ _ _ (by decide), pI_row2 _ _ _ _ _ (by decide)]
        exact ρ5
      rw [eM, e1, nI_1]
      refine ih (n - (tAt (μ.1 27 0) n p).2.1) (by omega) _ (i + 1) (a + 1) _ rfl g2 (by omega) (by omega) (by rw [eρ]; exact fm_tk hf) ?_ (pI_at _ _ _ _ _) ?_ (fun j hj1 => ?_)
      · rw [pI_place _ _ _ _ (by decide), eM]; exact e0
      · show tBg (μ.1 27 0) n (tAt (μ.1 27 0) n p).2.1 = nbS (μ.1 27 0) n (tkN (μ.1 27 0) n a)
        rw [hpb]; rfl
      · rw [eρ]
        by_cases hja : j = a
        · subst hja
          rw [hpb]
          exact ⟨by omega, tkA_at⟩
        · exact ⟨(hj j (by omega)).1, tkA_ne (hj j (by omega)).2 hja⟩
  refine st_X5_split_0 hX hr ?_
  simp only [forall_eq]
  exact go n 0 0 0 _ rfl (by omega) (by omega) (by omega) (fm_I (fm.rf μ) rfl _ _) (by rw [pI_place _ _ _ _ (by decide)]; exact en) (pI_at _ _ _ _ _) rfl (fun j hj => absurd hj (by omega))
end SP
