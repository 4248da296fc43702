/-! ODDS IN ALL; what is paid while days go by -/
def suN (f : Nat → Nat) : Nat → Nat
  | 0 => 0
  | n + 1 => suN f n + f n
theorem suN_congr {f g : Nat → Nat} : ∀ {n : Nat}, (∀ k, k < n → f k = g k) → suN f n = suN g n
  | 0, _ => rfl
  | n + 1, h => by
    simp only [suN]
    rw [suN_congr (n := n) (fun k hk => h k (by omega)), h n (by omega)]
theorem suN_zero : ∀ n, suN (fun _ => 0) n = 0
  | 0 => rfl
  | n + 1 => by simp only [suN]; rw [suN_zero n]
theorem suN_add (f g : Nat → Nat) : ∀ n, suN (fun k => f k + g k) n = suN f n + suN g n
  | 0 => rfl
  | n + 1 => by simp only [suN]; rw [suN_add f g n]; omega
theorem suN_mul (f : Nat → Nat) (c : Nat) : ∀ n, suN (fun k => f k * c) n = suN f n * c
  | 0 => (Nat.zero_mul c).symm
  | n + 1 => by simp only [suN]; rw [suN_mul f c n, Nat.add_mul]
theorem suN_app (f : Nat → Nat) (a : Nat) : ∀ b, suN f (a + b) = suN f a + suN (fun k => f (a + k)) b
  | 0 => rfl
  | b + 1 => by
    rw [show a + (b + 1) = a + b + 1 by omega]
    simp only [suN]
    rw [suN_app f a b, Nat.add_assoc]
theorem suN_two (f : Nat → Nat) (a : Nat) : ∀ K, suN f (a * K) = suN (fun r => suN (fun q => f (r + a * q)) K) a
  | 0 => by
    rw [Nat.mul_zero]
    exact (suN_zero a).symm
  | K + 1 => by
    rw [Nat.mul_add, Nat.mul_one, suN_app, suN_two f a K]
    simp only [suN]
    rw [suN_add]
    congr 1
    exact suN_congr (fun k _ => by rw [Nat.add_comm])
theorem suN_le {f g : Nat → Nat} {D : Nat} : ∀ {n : Nat}, (∀ k, k < n → g k ≤ D) → suN (fun k => f k * g k) n ≤ D * suN f n
  | 0, _ => Nat.zero_le _
  | n + 1, h => by
    simp only [suN]
    have a := suN_le (f := f) (g := g) (D := D) (n := n) (fun k hk => h k (by omega))
    have b := Nat.mul_le_mul_left (f n) (h n (by omega))
    rw [Nat.mul_add, Nat.mul_comm D (f n)]
    omega
theorem suN_lN {f : Nat → Int64} {g : Nat → Nat} : ∀ {n : Nat}, (∀ k, k < n → f k = lN (g k)) → smL f n = lN (suN g n)
  | 0, _ => rfl
  | n + 1, h => by
    simp only [smL, suN]
    rw [suN_lN (n := n) (fun k hk => h k (by omega)), h n (by omega), lN_add]
/-- the odds of a day's weather -/
def odN (cu : zB) (last w : Int32) : Nat → Nat
  | 0 => 1
  | n + 1 => odN cu last w n * (if wetAt w (nI n) = true then ix (rainS cu last n) else 8 - ix (rainS cu last n))
def psN (cu : zB) : Nat → Nat → zB → Nat
  | 0, _, _ => 1
  | n + 1, left, b => odN cu (b 0 2) (nI (left % 2 ^ nHi cu)) (nHi cu) * psN cu n (left / 2 ^ nHi cu) (live cu (nI (left % 2 ^ nHi cu)) b)
theorem nI_L {v : Nat} (h : v < 2 ^ 31) : Int32.toInt64 (nI v) = lN v := by
  apply Int64.toInt_inj.mp
  rw [Int32.toInt_toInt64, nI_toInt h, lNt (by omega)]
section OD
variable {cu b b0 : zB} {last w : Int32} {M K : Int} {l : Nat}
theorem rain_in (hz : cZ cu) {n : Nat} (hn : n < nHi cu) : vp_in (rainS cu last n) 9 := by
  unfold rainS
  split
  · exact (hz.2.2 n hn).2
  · exact (hz.2.2 n hn).1
theorem odd_N (hz : cZ cu) (o : Nat) : ∀ n, n ≤ nHi cu → odd cu last w n (lN o) = lN (o * odN cu last w n)
  | 0, _ => by rw [odd, odN, Nat.mul_one]
  | n + 1, hn => by
    have v := rain_in (last := last) hz (n := n) (by omega)
    have e := vof v (by omega)
    have := zix v
    rw [odd, odN, odd_N hz o n (by omega), ← Nat.mul_assoc]
    by_cases c : wetAt w (nI n) = true
    · rw [if_pos c, if_pos c]
      conv => lhs; rw [e, nI_L (v := ix (rainS cu last n)) (by omega)]
      exact lN_mul _ _
    · rw [if_neg c, if_neg c]
      conv => lhs; rw [e, show (8 : Int32) = nI 8 from rfl, nI_subN (by omega), nI_L (v := 8 - ix (rainS cu last n)) (by omega)]
      exact lN_mul _ _
theorem wet_hi0 : ∀ n, n < 4 → ∀ w, w < 8 → (!decide (w < 2 ^ n) || (wetAt (nI (2 ^ n + w)) (nI n) && !wetAt (nI w) (nI n))) = true := by decide +kernel
theorem wet_lo0 : ∀ n, n < 4 → ∀ w, w < 8 → ∀ k, k < 4 → (!decide (w < 2 ^ n) || !decide (k < n) || (wetAt (nI (2 ^ n + w)) (nI k) == wetAt (nI w) (nI k))) = true := by decide +kernel
theorem wet_hi (n : Nat) (hn : n < 4) (w : Nat) (h8 : w < 8) (hw : w < 2 ^ n) : wetAt (nI (2 ^ n + w)) (nI n) = true ∧ wetAt (nI w) (nI n) = false ∧ ∀ k, k < 4 → k < n → wetAt (nI (2 ^ n + w)) (nI k) = wetAt (nI w) (nI k) := by
  have a := wet_hi0 n hn w h8
  rw [decide_eq_true hw, Bool.not_true, Bool.false_or, Bool.and_eq_true, Bool.not_eq_true'] at a
  refine ⟨a.1, a.2, fun k hk hkn => ?_⟩
  have c := wet_lo0 n hn w h8 k hk
  rw [decide_eq_true hw, decide_eq_true hkn, Bool.not_true, Bool.false_or, Bool.false_or, beq_iff_eq] at c
  exact c
theorem odN_low {n v : Nat} (hn : n < 4) (hv : v < 2 ^ n) : ∀ k, k ≤ n → odN cu last (nI (2 ^ n + v)) k = odN cu last (nI v) k
  | 0, _ => rfl
  | k + 1, hk => by
    have v8 : v < 8 := Nat.lt_of_lt_of_le hv (Nat.le_trans (Nat.pow_le_pow_right (by omega) (show n ≤ 3 by omega)) (by decide))
    rw [odN, odN, odN_low hn hv k (by omega), (wet_hi n hn v v8 hv).2.2 k (by omega) (by omega)]
theorem odN_sum (hz : cZ cu) (h4 : nHi cu ≤ 4) : ∀ n, n ≤ nHi cu → suN (fun v => odN cu last (nI v) n) (2 ^ n) = 8 ^ n
  | 0, _ => rfl
  | n + 1, hn => by
    have ih := odN_sum hz h4 n (by omega)
    have v := zix (rain_in (last := last) hz (n := n) (by omega))
    rw [Nat.pow_succ, Nat.mul_two, suN_app]
    have lt8 : ∀ k, k < 2 ^ n → k < 8 := fun k hk => Nat.lt_of_lt_of_le hk (Nat.le_trans (Nat.pow_le_pow_right (by omega) (show n ≤ 3 by omega)) (by decide))
    rw [suN_congr (g := fun k => odN cu last (nI k) n * (8 - ix (rainS cu last n))) (fun k hk => by rw [odN, (wet_hi n (by omega) k (lt8 k hk) hk).2.1]; rfl)]
    rw [suN_congr (f := fun k => odN cu last (nI (2 ^ n + k)) (n + 1)) (g := fun k => odN cu last (nI k) n * ix (rainS cu last n)) (fun k hk => by rw [odN, odN_low (by omega) hk n (Nat.le_refl _), (wet_hi n (by omega) k (lt8 k hk) hk).1]; rfl)]
    rw [suN_mul, suN_mul, ih, ← Nat.mul_add, show 8 - ix (rainS cu last n) + ix (rainS cu last n) = 8 by omega, Nat.pow_succ]
theorem psN_sum (hz : cZ cu) (h4 : nHi cu ≤ 4) : ∀ n (b : zB), suN (fun j => psN cu n j b) (2 ^ (nHi cu * n)) = 8 ^ (nHi cu * n)
  | 0, _ => rfl
  | n + 1, b => by
    rw [show nHi cu * (n + 1) = nHi cu + nHi cu * n by rw [Nat.mul_add, Nat.mul_one, Nat.add_comm], Nat.pow_add, Nat.pow_add, suN_two]
    rw [suN_congr (g := fun r => odN cu (b 0 2) (nI r) (nHi cu) * 8 ^ (nHi cu * n)) (fun r hr => ?_), suN_mul, odN_sum hz h4 _ (Nat.le_refl _)]
    show suN (fun q => psN cu (n + 1) (r + 2 ^ nHi cu * q) b) (2 ^ (nHi cu * n)) = _
    rw [suN_congr (g := fun q => psN cu n q (live cu (nI r) b) * odN cu (b 0 2) (nI r) (nHi cu)) (fun q hq => ?_), suN_mul, psN_sum hz h4 n, Nat.mul_comm]
    rw [psN, Nat.add_mul_mod_self_left, Nat.mod_eq_of_lt hr, Nat.add_mul_div_left _ _ (Nat.pow_pos (by omega)), Nat.div_eq_of_lt hr, Nat.zero_add, Nat.mul_comm]
theorem ps_N (hz : cZ cu) : ∀ n left (b : zB) (o : Nat), (psS cu n left (lN o) b).1 = lN (o * psN cu n left b)
  | 0, _, _, o => by rw [psS, psN, Nat.mul_one]
  | n + 1, left, b, o => by rw [psS, psN, odd_N hz o _ (Nat.le_refl _), ps_N hz n, Nat.mul_assoc]
/-! what is paid -/
def vP (b0 : zB) (l : Nat) (K : Int) (b : zB) : Prop := ∃ v : Nat, b 5 l = b0 5 l + nI v ∧ (v : Int) + sO b ≤ K
theorem vP_same {d : zB} (h : vP b0 l K b) (h2 : d 2 = b 2) (h5 : d 5 = b 5) : vP b0 l K d := by
  unfold vP sO at *
  simp only [h2, h5]
  exact h
theorem vP_mono {K' : Int} (h : vP b0 l K b) (hK : K ≤ K') : vP b0 l K' b := by
  obtain ⟨v, a, c⟩ := h
  exact ⟨v, a, by omega⟩
theorem tkD_5 (b : zB) (l g d : Nat) (v : Int32) (k : Nat) : tkD b l g d v 5 k = if k = l then b 5 k + v else b 5 k := by
  show bU (bU (bU (bU b 1 g _) 1 d _) 2 l _) 5 l (bU (bU (bU b 1 g _) 1 d _) 2 l _ 5 l + v) 5 k = _
  by_cases h : k = l
  · subst h
    rw [bU_at, if_pos rfl, bU_ne _ _ (by omega), bU_ne _ _ (by omega), bU_ne _ _ (by omega)]
  · rw [if_neg h, bU_ne _ _ (fun z => h z.2), bU_ne _ _ (by omega), bU_ne _ _ (by omega), bU_ne _ _ (by omega)]
theorem tk_vP {i g d : Nat} (hi : i < 10) (hg : g < 6) (hd : d < 6) (I : bInv b) (h : vP b0 l K b) : bInv (tkD b i g d (tkC b i g)) ∧ vP b0 l K (tkD b i g d (tkC b i g)) := by
  obtain ⟨J, e, c, -⟩ := tk_inv hi hg hd I
  refine ⟨J, ?_⟩
  obtain ⟨v, a, q⟩ := h
  unfold vP
  rw [tkD_5, e]
  by_cases z : l = i
  · rw [if_pos z, a]
    have ec : tkC b i g = nI (tkC b i g).toInt.toNat := by
      refine Int32.toInt_inj.mp ?_
      have := (tkC b i g).toInt_lt
      rw [nI_toInt (by omega)]
      omega
    refine ⟨v + (tkC b i g).toInt.toNat, ?_, by omega⟩
    rw [← nI_add, ← Int32.add_assoc, ← ec]
  · rw [if_neg z]
    exact ⟨v, a, by omega⟩
theorem trn_vP (hc : cOk cu) {i : Nat} (hi : i < nLo cu) (I : bInv b) (h : vP b0 l K b) : bInv (trn cu w i b) ∧ vP b0 l K (trn cu w i b) := by
  obtain ⟨h10, h4, h5, -, h11, -⟩ := cOk_at hc hi
  unfold trn
  split
  · exact ⟨I, h⟩
  · dsimp only
    obtain ⟨J, k⟩ := tk_vP h10 (zix h5) (zix h4) I h
    split
    · exact ⟨J, k⟩
    · rename_i z
      rcases h11 with q | q
      · exact absurd (Or.inl q) z
      · exact tk_vP h10 (zix q) (zix h4) J k
theorem rnd_vP (hc : cOk cu) : ∀ n, n ≤ nLo cu → bInv b → vP b0 l K b → bInv (fd (trn cu w) n b) ∧ vP b0 l K (fd (trn cu w) n b)
  | 0, _, I, h => ⟨I, h⟩
  | n + 1, hn, I, h => by
    obtain ⟨J, k⟩ := rnd_vP hc n (by omega) I h
    exact trn_vP hc (by omega) J k
theorem due_5 (cu : zB) (w : Int32) (i : Nat) (b : zB) : due cu w i b 5 = b 5 := by
  unfold due du2 du1
  split
  · rfl
  · split <;> split <;> first | rfl | (try dsimp only) <;> simp only [bU_row (show (5 : Nat) ≠ 3 by decide), bU_row (show (5 : Nat) ≠ 2 by decide), bU_row (show (5 : Nat) ≠ 4 by decide)]
theorem fdue_5 (cu : zB) (w : Int32) (b : zB) : ∀ n, fd (due cu w) n b 5 = b 5
  | 0 => rfl
  | n + 1 => (due_5 cu w n _).trans (fdue_5 cu w b n)
theorem due_O (hc : cOk cu) {i : Nat} (hi : i < nLo cu) (h : bI b M) (hM : M ≤ 1000000) : sO (due cu w i b) ≤ sO b + 99 :=
  (due_inv hc (w := w) hi (M := sO b) ⟨h.1, h.2.1, h.2.2.1, Int.le_refl _⟩ (by have := h.2.2.2; omega)).2.2.2
theorem fdue_vP (hc : cOk cu) (h : bI b M) (hM : M ≤ 999009) (hv : vP b0 l K b) : ∀ n, n ≤ nLo cu → vP b0 l (K + 99 * n) (fd (due cu w) n b)
  | 0, _ => vP_mono hv (by omega)
  | n + 1, hn => by
    have n10 := (cOk_n hc).1
    obtain ⟨v, a, q⟩ := fdue_vP hc h hM hv n (by omega)
    have := due_O hc (w := w) (i := n) (by omega) (fdue_inv hc (w := w) h hM n (by omega)) (by omega)
    refine ⟨v, ?_, ?_⟩
    · rw [← a]; show due cu w n _ 5 l = _; rw [due_5]
    · show (v : Int) + sO (due cu w n (fd (due cu w) n b)) ≤ _
      omega
theorem live_vP (hc : cOk cu) (h : bI b M) (hM : M ≤ 999009) (hv : vP b0 l K b) : vP b0 l (K + 990) (live cu w b) := by
  have n10 := (cOk_n hc).1
  have h1 : vP b0 l (K + 990) (called cu w (fall cu w b)) := by
    unfold called fall
    refine fd_keep (P := fun b => vP b0 l (K + 990) b) (fun i b hb => ?_) (fd_keep (P := fun b => vP b0 l (K + 990) b) (fun i b hb => ?_) (vP_mono (fdue_vP hc h hM hv (nLo cu) (Nat.le_refl _)) (by omega)) _) _
    · unfold cld; exact vP_same hb (bU_row (by decide)) (bU_row (by decide))
    · unfold jnd
      split
      · exact vP_same hb (bU_row (by decide)) (bU_row (by decide))
      · exact hb
  have i1 := (live_inv hc (w := w) h hM).1
  have h2 : bInv (itr (rnd cu w) 1000000 (called cu w (fall cu w b))) ∧ vP b0 l (K + 990) (itr (rnd cu w) 1000000 (called cu w (fall cu w b))) :=
    itr_inv (P := fun b => bInv b ∧ vP b0 l (K + 990) b) (fun d hd => rnd_vP hc (nLo cu) (Nat.le_refl _) hd.1 hd.2) _ _ ⟨i1, h1⟩
  unfold live
  have h3 : vP b0 l (K + 990) (fd cls (nLo cu) (itr (rnd cu w) 1000000 (called cu w (fall cu w b)))) := by
    refine fd_keep (P := fun b => vP b0 l (K + 990) b) (fun i b hb => ?_) h2.2 _
    unfold cls
    split
    · exact vP_same hb (bU_row (by decide)) (bU_row (by decide))
    · exact hb
  unfold fin
  exact vP_same h3 (by rw [bU_row (by decide), bU_row (by decide), bU_row (by decide)]) (by rw [bU_row (by decide), bU_row (by decide), bU_row (by decide)])
theorem ps_vP (hc : cOk cu) : ∀ (n left : Nat) (o : Int64) (b : zB) (M K : Int), bI b M → M + 990 * (n : Int) ≤ 999999 → vP b0 l K b → vP b0 l (K + 990 * n) (psS cu n left o b).2 ∧ bI (psS cu n left o b).2 (M + 990 * n)
  | 0, _, _, b, M, K, h, _, hv => ⟨vP_mono hv (by omega), bI_mono h (by omega)⟩
  | n + 1, left, o, b, M, K, h, hM, hv => by
    have h1 := (live_inv hc (w := nI (left % 2 ^ nHi cu)) h (by omega)).2
    have v1 := live_vP hc (w := nI (left % 2 ^ nHi cu)) h (by omega) hv
    obtain ⟨a, c⟩ := ps_vP hc n (left / 2 ^ nHi cu) (odd cu (b 0 2) (nI (left % 2 ^ nHi cu)) (nHi cu) o) (live cu (nI (left % 2 ^ nHi cu)) b) (M + 990) (K + 990) h1 (by omega) v1
    exact ⟨vP_mono a (by omega), bI_mono c (by omega)⟩
/-- a weather adds what its odds are, so many times -/
theorem arv_N (hz : cZ cu) (h : bI b M) (n j a : Nat) (co : Int32) (ha : a < 3) (hp : a = 2 → l < 6) (hM : M + 990 * (n : Int) ≤ 999999) : ∃ d, d ≤ 999999 ∧ arvS a l co b (psS cu n j 1 b) = lN (psN cu n j b * d) := by
  have e1 := ps_N hz n j b 1
  rw [show lN 1 = (1 : Int64) from rfl, Nat.one_mul] at e1
  obtain ⟨hv, hb⟩ := ps_vP (l := l) (b0 := b) hz.1 n j 1 b M M h hM ⟨0, by rw [show nI 0 = (0 : Int32) from rfl, Int32.add_zero], by have := h.2.2.2; omega⟩
  have : a = 0 ∨ a = 1 ∨ a = 2 := by omega
  rcases this with rfl | rfl | rfl
  · obtain ⟨v, ev, hle⟩ := hv
    have nn : 0 ≤ sO (psS cu n j 1 b).2 := sumI_nn (fun k hk => hb.2.2.1 k hk)
    refine ⟨v, by omega, ?_⟩
    simp only [arvS]
    rw [e1, ev, Int32.add_comm, Int32.add_sub_cancel, nI_L (by omega), lN_mul]
  · simp only [arvS]
    split
    · exact ⟨0, by omega, rfl⟩
    · exact ⟨1, by omega, by rw [e1, Nat.mul_one]⟩
  · have hl := hp rfl
    have p0 := hb.1 l hl
    have p1 := sumI_le (f := fun p => ((psS cu n j 1 b).2 1 p).toInt) (fun k hk => hb.1 k hk) hl
    have p2 : sumI (fun p => ((psS cu n j 1 b).2 1 p).toInt) 6 ≤ 60000 := hb.2.1
    refine ⟨((psS cu n j 1 b).2 1 l).toInt.toNat, by omega, ?_⟩
    simp only [arvS]
    have ec : (psS cu n j 1 b).2 1 l = nI ((psS cu n j 1 b).2 1 l).toInt.toNat := by
      refine Int32.toInt_inj.mp ?_
      rw [nI_toInt (by omega)]
      omega
    rw [e1]
    conv => lhs; rw [ec]
    rw [nI_L (by omega), lN_mul]
theorem tot_N (hz : cZ cu) (h : bI b M) (n a : Nat) (ha : a < 3) (hp : a = 2 → l < 6) (hM : M + 990 * (n : Int) ≤ 999999) (hh : nHi cu * n ≤ 12) : ∃ A, A < 2 ^ 60 ∧ ∀ co, smL (fun j => arvS a l co b (psS cu n j 1 b)) (2 ^ (nHi cu * n)) = lN A := by
  have n4 := (cOk_n hz.1).2.2
  have ch : ∀ j, ∃ d, d ≤ 999999 ∧ ∀ co, arvS a l co b (psS cu n j 1 b) = lN (psN cu n j b * d) := fun j => by
    obtain ⟨d, h1, h2⟩ := arv_N (l := l) hz h n j a 0 ha hp hM
    refine ⟨d, h1, fun co => ?_⟩
    rw [← h2]
    have : a = 0 ∨ a = 1 ∨ a = 2 := by omega
    rcases this with rfl | rfl | rfl <;> rfl
  refine ⟨suN (fun j => psN cu n j b * Classical.choose (ch j)) (2 ^ (nHi cu * n)), ?_, fun co => suN_lN (fun k _ => (Classical.choose_spec (ch k)).2 co)⟩
  have a1 := suN_le (f := fun j => psN cu n j b) (g := fun j => Classical.choose (ch j)) (D := 999999) (n := 2 ^ (nHi cu * n)) (fun k _ => (Classical.choose_spec (ch k)).1)
  rw [psN_sum hz n4] at a1
  have a2 : 8 ^ (nHi cu * n) ≤ 8 ^ 12 := Nat.pow_le_pow_right (by omega) hh
  have a3 : (8 : Nat) ^ 12 = 68719476736 := by decide
  have a4 : (2 : Nat) ^ 60 = 1152921504606846976 := by decide
  omega
end OD
