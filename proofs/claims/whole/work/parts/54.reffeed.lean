/-! THE REFERENCE: feed -/
def tpS (s : Int32) (p : (Nat → Int32) × Nat) : (Nat → Int32) × Nat := if p.2 < 1000 ∧ (s = 10 ∨ (¬ s < 32 ∧ ¬ 126 < s)) then (upd p.1 p.2 s, p.2 + 1) else p
def byW (x1 x3 x5 : Int64) (k : Nat) : Int64 := if 8 ≤ k then (if 16 ≤ k then x5 else x3) else x1
def byS (x1 x3 x5 : Int64) (k : Nat) : Int32 := Int64.toInt32 ((UInt64.toInt64 (Int64.toUInt64 (byW x1 x3 x5 k) >>> (Int64.toUInt64 (Int32.toInt64 ((56 : Int32) - ((8 : Int32) * (nI k &&& (7 : Int32))))) &&& Int64.toUInt64 63))) &&& (255 : Int64))
def feS (x1 x3 x5 : Int64) (p : (Nat → Int32) × Nat) : Nat → (Nat → Int32) × Nat := fun n => fd (fun k q => tpS (byS x1 x3 x5 k) q) n p
theorem feS_s (x1 x3 x5 : Int64) (p : (Nat → Int32) × Nat) (n : Nat) : feS x1 x3 x5 p (n + 1) = tpS (byS x1 x3 x5 n) (feS x1 x3 x5 p n) := rfl
theorem tpS_le {s : Int32} {p : (Nat → Int32) × Nat} (h : p.2 ≤ 1000) : (tpS s p).2 ≤ 1000 := by
  unfold tpS
  split
  · rename_i q
    show p.2 + 1 ≤ 1000
    omega
  · exact h
theorem feS_le {x1 x3 x5 : Int64} {p : (Nat → Int32) × Nat} (h : p.2 ≤ 1000) : ∀ n, (feS x1 x3 x5 p n).2 ≤ 1000
  | 0 => h
  | n + 1 => tpS_le (feS_le h n)
/-- the tape's row and its length -/
def putT (μ : zM) (p : (Nat → Int32) × Nat) : zM := pI (pR μ 35 0 p.1) 11 0 1 (nI p.2)
theorem pT1 (μ : zM) (p : (Nat → Int32) × Nat) : (putT μ p).1 11 0 1 = nI p.2 := pI_at _ _ _ _ _
theorem putT_w (μ : zM) (T : Nat → Int32) (n : Nat) (v : Int32) : pI (pI (putT μ (T, n)) 35 0 n v) 11 0 1 (nI (n + 1)) = putT μ (upd T n v, n + 1) := by
  unfold putT
  rw [show pI (pI (pR μ 35 0 T) 11 0 1 (nI n)) 35 0 n v = pI (pR μ 35 0 (upd T n v)) 11 0 1 (nI n) by
    rw [← pI_pR]
    refine Prod.ext ?_ rfl
    funext a b c
    simp only [pI, pR]
    by_cases h : a = 35 ∧ b = 0 ∧ c = n
    · obtain ⟨rfl, rfl, rfl⟩ := h; simp
    · rw [if_neg h, if_neg h]]
  rw [pI_pI]
set_option maxHeartbeats 2000000 in
theorem cr_feed {lc : Launch} {G : zG} {μ : zM} {x1 x3 x5 : Int64} {T : Nat → Int32} {n : Nat} (hn : n ≤ 1000) :
    zCT lc G 0 yX11_feed cX11_feed 11 (some .int) [.ref (G.ad 11 0), .long x1, .long x3, .long x5] (putT μ (T, n)) (zI fun r μ' => r = nI (feS x1 x3 x5 (T, n) 24).2 ∧ μ' = putT (thr μ 0) (feS x1 x3 x5 (T, n) 24)) := by
  refine zCT_of (by decide) (Nat.le_of_ble_eq_true rfl) rfl (fun X hl0 hG hX hr => ?_)
  subst hG
  refine st_X11_feed_0 hX hr ?_
  simp only [forall_eq]
  have e0 : pI (putT μ (T, n)) 11 0 0 0 = putT (thr μ 0) (T, n) := by
    unfold putT thr
    refine Prod.ext ?_ rfl
    funext a b c
    simp only [pI, pR]
    by_cases h : a = 35 ∧ b = 0
    · obtain ⟨rfl, rfl⟩ := h; simp
    · simp only [if_neg h]
      by_cases h1 : a = 11 ∧ b = 0 ∧ c = 0
      · obtain ⟨rfl, rfl, rfl⟩ := h1; simp
      · simp only [if_neg h1]
  rw [e0]
  have go : ∀ k i, i + k = 24 → AW X 8 [some (.ref (X.G.ad 11 0)), some (.long x1), none, some (.long x3), none, some (.long x5), none, some (.int (nI i)), none, none, none] [] (putT (thr μ 0) (feS x1 x3 x5 (T, n) i)) := by
    intro k
    induction k with
    | zero =>
      intro i hi
      have ei : i = 24 := by omega
      subst ei
      refine st_X11_feed_8 hX hr ⟨fun _ => ⟨_, rfl, ?_, rfl⟩, fun q => absurd (nI_le (a := 24) (b := 24) (by omega) (by omega)) q⟩
      rw [pT1]
    | succ k ih =>
      intro i hi
      have ih' := ih (i + 1) (by omega)
      rw [feS_s] at ih'
      have hle := feS_le (x1 := x1) (x3 := x3) (x5 := x5) (p := (T, n)) hn i
      generalize feS x1 x3 x5 (T, n) i = p at ih' hle ⊢
      obtain ⟨U, c⟩ := p
      have key : ∀ v : Int32, v = byS x1 x3 x5 i →
          ((1000 : Int32) ≤ nI c → AW X 8 [some (.ref (X.G.ad 11 0)), some (.long x1), none, some (.long x3), none, some (.long x5), none, some (.int (nI (i + 1))), none, none, none] [] (putT (thr μ 0) (U, c))) ∧
          (¬ (1000 : Int32) ≤ nI c → ((v = (10 : Int32) ∨ (¬ v < 32 ∧ ¬ 126 < v)) → vp_in (nI c) 1000 ∧ AW X 8 [some (.ref (X.G.ad 11 0)), some (.long x1), none, some (.long x3), none, some (.long x5), none, some (.int (nI (i + 1))), none, none, none] [] (putT (thr μ 0) (upd U c v, c + 1))) ∧ (¬ (v = (10 : Int32) ∨ (¬ v < 32 ∧ ¬ 126 < v)) → AW X 8 [some (.ref (X.G.ad 11 0)), some (.long x1), none, some (.long x3), none, some (.long x5), none, some (.int (nI (i + 1))), none, none, none] [] (putT (thr μ 0) (U, c)))) := by
        intro v hv
        have hcl : c ≤ 1000 := hle
        refine ⟨fun q => ?_, fun q => ⟨fun q2 => ?_, fun q2 => ?_⟩⟩
        · have : 1000 ≤ c := (nI_leI (a := 1000) (by omega) (by omega)).mp q
          rw [tpS, if_neg (fun h => by have := h.1; omega)] at ih'
          exact ih'
        · have hc : c < 1000 := by
            rcases Nat.lt_or_ge c 1000 with h | h
            · exact h
            · exact absurd (nI_le (a := 1000) h (by omega)) q
          rw [tpS, if_pos ⟨hc, by rw [← hv]; exact q2⟩, ← hv] at ih'
          exact ⟨vin hc (by omega), ih'⟩
        · rw [tpS, if_neg (fun h => q2 (by rw [hv]; exact h.2))] at ih'
          exact ih'
      have hix : c < 1000 → ix (nI c) = c := fun _ => ixn (by omega)
      refine st_X11_feed_8 hX hr ⟨fun q => absurd q (nI_ge (a := i) (b := 24) (by omega) (by omega)), fun _ => ⟨fun c8 => ⟨fun c16 => ?_, fun c16 => ?_⟩, fun c8 => ?_⟩⟩
      · have h16 : 16 ≤ i := (nI_leI (a := 16) (by omega) (by omega)).mp c16
        have eb : byS x1 x3 x5 i = Int64.toInt32 ((UInt64.toInt64 (Int64.toUInt64 x5 >>> (Int64.toUInt64 (Int32.toInt64 ((56 : Int32) - ((8 : Int32) * (nI i &&& (7 : Int32))))) &&& Int64.toUInt64 63))) &&& (255 : Int64)) := by
          rw [byS, byW, if_pos (by omega), if_pos h16]
        intro v hv
        rw [← eb] at hv
        obtain ⟨k1, k2⟩ := key v hv
        simp only [forall_eq, nI_1, pT1]
        refine ⟨k1, fun q => ?_⟩
        obtain ⟨k3, k4⟩ := k2 q
        have hixc : ix (nI c) = c := ixn (by have : c ≤ 1000 := hle; omega)
        rw [hixc]
        have e9 : (pI (putT (thr μ 0) (U, c)) 35 0 c v).1 11 0 1 = nI c := by rw [pI_other _ _ _ _ _ _ (by decide), pT1]
        simp only [e9, nI_1, putT_w]
        exact ⟨fun d1 => k3 (Or.inl d1), fun d1 => ⟨fun d2 => k4 (fun h => h.elim d1 (fun h => h.1 d2)), fun d2 => ⟨fun d3 => k4 (fun h => h.elim d1 (fun h => h.2 d3)), fun d3 => k3 (Or.inr ⟨d2, d3⟩)⟩⟩⟩
      · have h16 : ¬ 16 ≤ i := fun h => c16 (nI_le (a := 16) h (by omega))
        have h8 : 8 ≤ i := (nI_leI (a := 8) (by omega) (by omega)).mp c8
        have eb : byS x1 x3 x5 i = Int64.toInt32 ((UInt64.toInt64 (Int64.toUInt64 x3 >>> (Int64.toUInt64 (Int32.toInt64 ((56 : Int32) - ((8 : Int32) * (nI i &&& (7 : Int32))))) &&& Int64.toUInt64 63))) &&& (255 : Int64)) := by
          rw [byS, byW, if_pos h8, if_neg h16]
        intro v hv
        rw [← eb] at hv
        obtain ⟨k1, k2⟩ := key v hv
        simp only [forall_eq, nI_1, pT1]
        refine ⟨k1, fun q => ?_⟩
        obtain ⟨k3, k4⟩ := k2 q
        have hixc : ix (nI c) = c := ixn (by have : c ≤ 1000 := hle; omega)
        rw [hixc]
        have e9 : (pI (putT (thr μ 0) (U, c)) 35 0 c v).1 11 0 1 = nI c := by rw [pI_other _ _ _ _ _ _ (by decide), pT1]
        simp only [e9, nI_1, putT_w]
        exact ⟨fun d1 => k3 (Or.inl d1), fun d1 => ⟨fun d2 => k4 (fun h => h.elim d1 (fun h => h.1 d2)), fun d2 => ⟨fun d3 => k4 (fun h => h.elim d1 (fun h => h.2 d3)), fun d3 => k3 (Or.inr ⟨d2, d3⟩)⟩⟩⟩
      · have h8 : ¬ 8 ≤ i := fun h => c8 (nI_le (a := 8) h (by omega))
        have eb : byS x1 x3 x5 i = Int64.toInt32 ((UInt64.toInt64 (Int64.toUInt64 x1 >>> (Int64.toUInt64 (Int32.toInt64 ((56 : Int32) - ((8 : Int32) * (nI i &&& (7 : Int32))))) &&& Int64.toUInt64 63))) &&& (255 : Int64)) := by
          rw [byS, byW, if_neg h8]
        intro v hv
        rw [← eb] at hv
        obtain ⟨k1, k2⟩ := key v hv
        simp only [forall_eq, nI_1, pT1]
        refine ⟨k1, fun q => ?_⟩
        obtain ⟨k3, k4⟩ := k2 q
        have hixc : ix (nI c) = c := ixn (by have : c ≤ 1000 := hle; omega)
        rw [hixc]
        have e9 : (pI (putT (thr μ 0) (U, c)) 35 0 c v).1 11 0 1 = nI c := by rw [pI_other _ _ _ _ _ _ (by decide), pT1]
        simp only [e9, nI_1, putT_w]
        exact ⟨fun d1 => k3 (Or.inl d1), fun d1 => ⟨fun d2 => k4 (fun h => h.elim d1 (fun h => h.1 d2)), fun d2 => ⟨fun d3 => k4 (fun h => h.elim d1 (fun h => h.2 d3)), fun d3 => k3 (Or.inr ⟨d2, d3⟩)⟩⟩⟩
  exact go 24 0 rfl
