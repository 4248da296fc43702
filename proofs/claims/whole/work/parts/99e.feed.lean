/-! FED -/
section FE
variable {l : Launch} {G : zG} {S : zSt} {μ ν : zM} {M : Int} {x w : Int32}
def cby (x : Int64) (k : Nat) : Int32 := (Int64.toInt32 (UInt64.toInt64 (Int64.toUInt64 x >>> (Int64.toUInt64 (Int32.toInt64 (nI (56 - 8 * k))) &&& Int64.toUInt64 63)))) &&& (255 : Int32)
def cad (x : Int64) (n : Nat) (p : (Nat → Int32) × Nat) : (Nat → Int32) × Nat := fd (fun k q => tpS (cby x k) q) n p
theorem sh_k : ∀ k, k < 8 → ((56 : Int32) - ((8 : Int32) * (nI k &&& (7 : Int32)))) = nI (56 - 8 * k) ∧ ((56 : Int32) - ((8 : Int32) * (nI (8 + k) &&& (7 : Int32)))) = nI (56 - 8 * k) ∧ ((56 : Int32) - ((8 : Int32) * (nI (16 + k) &&& (7 : Int32)))) = nI (56 - 8 * k) := by decide
theorem by_k {x1 x3 x5 : Int64} {k : Nat} (h : k < 8) : byS x1 x3 x5 k = cby x1 k ∧ byS x1 x3 x5 (8 + k) = cby x3 k ∧ byS x1 x3 x5 (16 + k) = cby x5 k := by
  obtain ⟨s1, s2, s3⟩ := sh_k k h
  unfold byS cby byW
  rw [if_neg (by omega), if_pos (by omega), if_neg (by omega), if_pos (by omega), if_pos (by omega), s1, s2, s3]
  simp only [Int64.toInt32_and]
  exact ⟨rfl, rfl, rfl⟩
theorem fd_add {α : Type} (f : Nat → α → α) (a : Nat) (p : α) : ∀ b, fd f (a + b) p = fd (fun k => f (a + k)) b (fd f a p)
  | 0 => rfl
  | b + 1 => by
    show f (a + b) (fd f (a + b) p) = f (a + b) _
    rw [fd_add f a p b]
theorem fd_eq {α : Type} {f g : Nat → α → α} (p : α) : ∀ n, (∀ k, k < n → f k = g k) → fd f n p = fd g n p
  | 0, _ => rfl
  | n + 1, h => by
    show f n _ = g n _
    rw [h n (by omega), fd_eq p n (fun k hk => h k (by omega))]
theorem fe_cad (x1 x3 x5 : Int64) (p : (Nat → Int32) × Nat) : feS x1 x3 x5 p 24 = cad x5 8 (cad x3 8 (cad x1 8 p)) := by
  unfold feS cad
  rw [show (24 : Nat) = 16 + 8 from rfl, fd_add _ 16 _ 8]
  rw [fd_eq (f := fun k => (fun k q => tpS (byS x1 x3 x5 k) q) (16 + k)) (g := fun k q => tpS (cby x5 k) q) _ 8 (fun k hk => by funext q; show tpS (byS x1 x3 x5 (16 + k)) q = _; rw [(by_k hk).2.2])]
  rw [show (16 : Nat) = 8 + 8 from rfl, fd_add _ 8 _ 8]
  rw [fd_eq (f := fun k => (fun k q => tpS (byS x1 x3 x5 k) q) (8 + k)) (g := fun k q => tpS (cby x3 k) q) _ 8 (fun k hk => by funext q; show tpS (byS x1 x3 x5 (8 + k)) q = _; rw [(by_k hk).2.1])]
  rw [fd_eq (g := fun k q => tpS (cby x1 k) q) p 8 (fun k hk => by funext q; rw [(by_k hk).1])]
theorem cad_le {x : Int64} {p : (Nat → Int32) × Nat} (h : p.2 ≤ 1000) : ∀ n, (cad x n p).2 ≤ 1000
  | 0 => h
  | n + 1 => tpS_le (cad_le h n)
/-- what is a character -/
def chs (p : (Nat → Int32) × Nat) : Prop := ∀ j, j < p.2 → ∃ c, c < 128 ∧ p.1 j = nI c
theorem ok_nI {s : Int32} (h : s = 10 ∨ (¬ s < 32 ∧ ¬ 126 < s)) : ∃ c, c < 127 ∧ s = nI c := by
  rcases h with rfl | ⟨h1, h2⟩
  · exact ⟨10, by omega, rfl⟩
  · obtain ⟨n, rfl, -, h⟩ := wthn_nI (x := s) (a := 32) (b := 126) (by
      unfold wthn
      rw [Bool.and_eq_true]
      exact ⟨decide_eq_true h1, decide_eq_true h2⟩) (by omega) (by omega)
    exact ⟨n, by omega, rfl⟩
theorem tpS_chs {s : Int32} {p : (Nat → Int32) × Nat} (h : chs p) : chs (tpS s p) := by
  unfold tpS
  split
  · rename_i q
    obtain ⟨c, hc, e⟩ := ok_nI q.2
    intro j hj
    show ∃ c, c < 128 ∧ upd p.1 p.2 s j = nI c
    by_cases h2 : j = p.2
    · subst h2
      exact ⟨c, by omega, by rw [upd, if_pos rfl]; exact e⟩
    · rw [upd, if_neg h2]
      exact h j (by have : j < p.2 + 1 := hj; omega)
  · exact h
theorem cad_chs {x : Int64} {p : (Nat → Int32) × Nat} (h : chs p) : ∀ n, chs (cad x n p)
  | 0 => h
  | n + 1 => tpS_chs (cad_chs h n)
theorem nar_c : ∀ n, n < 127 → vp_nar .char (UInt32.toInt32 (Int32.toUInt32 (nI n) % 65536)) = nI n := by decide +kernel
def putC (μ : zM) (p : (Nat → Int32) × Nat) : zM := pI (pR μ 27 0 p.1) 5 0 0 (nI p.2)
theorem pC5 (μ : zM) (p : (Nat → Int32) × Nat) : (putC μ p).1 5 0 0 = nI p.2 := pI_at _ _ _ _ _
theorem putC_w (μ : zM) (T : Nat → Int32) (n : Nat) (v : Int32) : pI (pI (putC μ (T, n)) 27 0 n v) 5 0 0 (nI (n + 1)) = putC μ (upd T n v, n + 1) := by
  unfold putC
  rw [show pI (pI (pR μ 27 0 T) 5 0 0 (nI n)) 27 0 n v = pI (pR μ 27 0 (upd T n v)) 5 0 0 (nI n) by
    rw [← pI_pR]
    refine Prod.ext ?_ rfl
    funext a b c
    simp only [pI, pR]
    by_cases h : a = 27 ∧ b = 0 ∧ c = n
    · obtain ⟨rfl, rfl, rfl⟩ := h; simp
    · rw [if_neg h, if_neg h]]
  rw [pI_pI]
theorem dn8 : ∀ k, k < 8 → nI (56 - 8 * k) + (-8 : Int32) = (if k = 7 then (-8 : Int32) else nI (56 - 8 * (k + 1))) := by decide
theorem ct_add {x1 : Int64} {p : (Nat → Int32) × Nat} (hn : p.2 ≤ 1000) :
    zCT l G 0 yX5_addBytes cX5_addBytes 5 none [.ref (G.ad 5 0), .long x1] (putC μ p) (zV fun μ' => μ' = putC μ (cad x1 8 p)) := by
  refine zCT_of (by decide) (Nat.le_of_ble_eq_true rfl) rfl (fun X hl0 hG hX hr => ?_)
  subst hG
  refine st_X5_addBytes_0 hX hr ?_
  have go : ∀ k i, i + k = 8 → AW X 3 [some (.ref (X.G.ad 5 0)), some (.long x1), none, some (.int (if i = 8 then (-8 : Int32) else nI (56 - 8 * i))), none] [] (putC μ (cad x1 i p)) := by
    intro k
    induction k with
    | zero =>
      intro i hi
      have ei : i = 8 := by omega
      subst ei
      exact st_X5_addBytes_3 hX hr ⟨fun _ => ⟨rfl, rfl⟩, fun q => absurd (by decide) q⟩
    | succ k ih =>
      intro i hi
      have ih' := ih (i + 1) (by omega)
      have hi8 : i < 8 := by omega
      have ed := dn8 i hi8
      rw [show (if i + 1 = 8 then (-8 : Int32) else nI (56 - 8 * (i + 1))) = nI (56 - 8 * i) + (-8 : Int32) by
        rw [ed]
        by_cases h : i = 7
        · rw [if_pos h, if_pos (by omega)]
        · rw [if_neg h, if_neg (by omega)]] at ih'
      rw [if_neg (by omega)]
      have hle := cad_le (x := x1) (p := p) hn i
      rw [show cad x1 (i + 1) p = tpS (cby x1 i) (cad x1 i p) from rfl] at ih'
      generalize cad x1 i p = p at ih' hle ⊢
      obtain ⟨U, c⟩ := p
      have hcl : c ≤ 1000 := hle
      refine st_X5_addBytes_3 hX hr ⟨fun q => absurd q (by rw [Int32.lt_iff_toInt_lt, nI_toInt (by omega), show (0 : Int32).toInt = 0 from rfl]; omega), fun _ v hv => ?_⟩
      have hv : v = cby x1 i := hv
      rw [← hv] at ih'
      have skip : ¬ (c < 1000 ∧ (v = 10 ∨ (¬ v < 32 ∧ ¬ 126 < v))) → ∀ v4 : Int32, v4 = nI (56 - 8 * i) + (-8 : Int32) → AW X 3 [some (.ref (X.G.ad 5 0)), some (.long x1), none, some (.int v4), none] [] (putC μ (U, c)) := by
        rintro h v4 rfl
        rw [tpS, if_neg h] at ih'
        exact ih'
      have take : c < 1000 → (v = 10 ∨ (¬ v < 32 ∧ ¬ 126 < v)) → AW X 48 [some (.ref (X.G.ad 5 0)), some (.long x1), none, some (.int (nI (56 - 8 * i))), some (.int v)] [] (putC μ (U, c)) := by
        intro h1 h2
        rw [tpS, if_pos ⟨h1, h2⟩] at ih'
        obtain ⟨q, hq, e⟩ := ok_nI h2
        refine st_X5_addBytes_48 hX hr ?_
        have hixc : ix (nI c) = c := ixn (by omega)
        simp only [forall_eq, pC5, hixc]
        refine ⟨vin h1 (by omega), ?_⟩
        have en : vp_nar .char (UInt32.toInt32 (Int32.toUInt32 v % 65536)) = v := by rw [e]; exact nar_c q hq
        rw [en]
        have e9 : (pI (putC μ (U, c)) 27 0 c v).1 5 0 0 = nI c := by rw [pI_other _ _ _ _ _ _ (by decide), pC5]
        rw [e9, nI_1, putC_w]
        exact ih'
      rw [pC5]
      refine ⟨fun q => skip (fun h => absurd q (nI_ge (a := c) (b := 1000) h.1 (by omega))), fun q => ?_⟩
      have h1 : c < 1000 := by
        rcases Nat.lt_or_ge c 1000 with h | h
        · exact h
        · exact absurd (nI_le (a := 1000) h (by omega)) q
      exact ⟨fun d1 => take h1 (Or.inl d1), fun d1 => ⟨fun d2 => skip (fun h => h.2.elim d1 (fun h => h.1 d2)), fun d2 => ⟨fun d3 => skip (fun h => h.2.elim d1 (fun h => h.2 d3)), fun d3 => take h1 (Or.inr ⟨d2, d3⟩)⟩⟩⟩
  exact go 8 0 rfl
theorem putC_self {p : (Nat → Int32) × Nat} (h1 : μ.1 27 0 = p.1) (h2 : μ.1 5 0 0 = nI p.2) : putC μ p = μ := by
  unfold putC
  rw [← h1, pR_self]
  exact pI_self h2
theorem putT_self {p : (Nat → Int32) × Nat} (h1 : μ.1 35 0 = p.1) (h2 : μ.1 11 0 1 = nI p.2) : putT μ p = μ := by
  unfold putT
  rw [← h1, pR_self]
  exact pI_self h2
theorem pr_feed {x1 x3 x5 : Int64} (h : Rel M μ) : zCT l G 1 yX10_feed cX10_feed 7 (some .int) [.ref (G.ad 10 0), .long x1, .long x3, .long x5] μ (zI fun r μ1 => zCT l G 0 yX11_feed cX11_feed 11 (some .int) [.ref (G.ad 11 0), .long x1, .long x3, .long x5] μ1 (zI fun r2 μ2 => r2 = r ∧ Rel M μ2)) := by
  refine pr_I (R := fun _ => True) h (fun S hc hr0 hw => ?_)
  have n1 := cad_le (x := x1) (p := (S.T, S.n)) hw.1.1 8
  have n2 := cad_le (x := x3) n1 8
  have n3 := cad_le (x := x5) n2 8
  have k3 := cad_chs (x := x5) (cad_chs (x := x3) (cad_chs (x := x1) (p := (S.T, S.n)) hw.1.2 8) 8) 8
  have ee := fe_cad x1 x3 x5 (S.T, S.n)
  obtain ⟨p, ep⟩ : ∃ p, p = cad x5 8 (cad x3 8 (cad x1 8 (S.T, S.n))) := ⟨_, rfl⟩
  rw [← ep] at n3 k3 ee
  refine ⟨nI p.2, (p, S.2), ⟨⟨n3, k3⟩, hw.2⟩, ?_, fun μ1 hr1 => ?_⟩
  · refine zCT_of (by decide) (Nat.le_of_ble_eq_true rfl) rfl (fun X hl hG hX hr => ?_)
    subst hG
    rw [← putC_self (μ := μ) (p := (S.T, S.n)) hc.1.1 hc.1.2]
    refine st_X10_feed_0 hX hr ⟨0, _, by omega, ct_add hw.1.1, ?_⟩
    rintro ν rfl
    refine ⟨0, _, by omega, ct_add n1, ?_⟩
    rintro ν rfl
    refine ⟨0, _, by omega, ct_add n2, ?_⟩
    rintro ν rfl
    rw [← ep]
    clear n1 n2 ee
    obtain ⟨⟨-, -⟩, ⟨h3, h4⟩, h5, ⟨p0, h6, h7, h8, h9⟩, h10⟩ := hc
    have e : ∀ κ o, κ ≠ 27 → κ ≠ 5 → (putC μ p).1 κ o = μ.1 κ o := fun κ o a b => by rw [putC, pI_row2 _ _ _ _ _ b, pR_row2 _ _ _ _ a]
    have gb : ∀ o, getB (putC μ p) o = getB μ o := fun o => getB_ext (fun κ q => e κ o (by rintro rfl; cases q) (by rintro rfl; cases q))
    have cr : ∀ (cu : zB) (c : Nat), cR cu μ c → cR cu (putC μ p) c := by
      intro cu c q
      unfold cR at *
      simp only [e 2 _ (by omega) (by omega), e 19 _ (by omega) (by omega), e 20 _ (by omega) (by omega), e 21 _ (by omega) (by omega), e 7 _ (by omega) (by omega), e 23 _ (by omega) (by omega), e 24 _ (by omega) (by omega)]
      exact q
    refine ⟨_, rfl, pC5 _ _, fm_I (fm_R (fm.rf _) rfl _) rfl _ _, ⟨by rw [putC, pI_row2 _ _ _ _ _ (by decide), pR_row], pC5 _ _⟩, ⟨cr _ _ h3, by rw [e 25 0 (by omega) (by omega)]; exact h4⟩, by rw [gb]; exact h5, ⟨p0, h6, by rw [e 4 0 (by omega) (by omega)]; exact h7, by rw [e 4 0 (by omega) (by omega)]; exact h8, fun j hj => by rw [gb]; exact h9 j hj⟩, fun i hi => ?_⟩
    have := h10 i hi
    show cMk (putC μ p) i (S.mk i)
    generalize S.mk i = q at this
    cases q with
    | none => show (putC μ p).1 3 i 0 = 0; rw [e 3 i (by omega) (by omega)]; exact this
    | some q =>
      obtain ⟨g1, g2, g3, g4⟩ := this
      exact ⟨by rw [e 3 i (by omega) (by omega)]; exact g1, cr _ _ g2, by rw [e 25 _ (by omega) (by omega)]; exact g3, by rw [gb]; exact g4⟩
  · have := cr_feed (lc := l) (G := G) (μ := μ1) (x1 := x1) (x3 := x3) (x5 := x5) (T := S.T) (n := S.n) hw.1.1
    rw [putT_self (μ := μ1) (p := (S.T, S.n)) hr1.1.1 hr1.1.2, ee] at this
    refine zCT_post this ?_
    rintro rv μ2 ⟨r, rfl, rfl, rfl⟩
    refine ⟨_, rfl, rfl, fm_I (fm_R fm_thr rfl _) rfl _ _, ?_⟩
    have e : ∀ κ, κ ≠ 35 → κ ≠ 11 → (putT (thr μ1 0) p).1 κ 0 = μ1.1 κ 0 := fun κ a b => by rw [putT, pI_row2 _ _ _ _ _ b, pR_row2 _ _ _ _ a, thr, pI_row2 _ _ _ _ _ b]
    obtain ⟨⟨r1, r2⟩, ⟨r3, r4⟩, r5, ⟨r6, r7⟩, r8⟩ := hr1
    have bw : ∀ q nb vw, BWq μ1 q nb vw → BWq (putT (thr μ1 0) p) q nb vw := fun q nb vw => BWq_ext (e 55 (by omega) (by omega)) (e 56 (by omega) (by omega)) (e 57 (by omega) (by omega))
    have ex : ∀ κ, 36 ≤ κ → κ ≤ 54 → (putT (thr μ1 0) p).1 κ 0 = μ1.1 κ 0 := fun κ a b => e κ (by omega) (by omega)
    refine ⟨⟨by rw [putT, pI_row2 _ _ _ _ _ (by decide), pR_row], by rw [putT, pI_at]⟩, ⟨by rw [cuZ_ext ex]; exact r3, bw _ _ _ r4⟩, by rw [e 70 (by omega) (by omega)]; exact r5, ⟨by rw [putT, pI_place _ _ _ _ (by decide), pR_other _ _ _ _ _ (by decide), thr, pI_place _ _ _ _ (by decide)]; exact r6, fun j hj => by rw [e 72 (by omega) (by omega)]; exact r7 j hj⟩, fun i hi => ?_⟩
    have := r8 i hi
    show rMk (putT (thr μ1 0) p) i (S.mk i)
    generalize S.mk i = q at this
    cases q with
    | none => show (putT (thr μ1 0) p).1 74 0 i = 0; rw [e 74 (by omega) (by omega)]; exact this
    | some q =>
      obtain ⟨g1, g2, g3, g4⟩ := this
      exact ⟨by rw [e 74 (by omega) (by omega)]; exact g1, by rw [cuB_ext ex]; exact g2, bw _ _ _ g3, by rw [e 73 (by omega) (by omega)]; exact g4⟩
end FE
