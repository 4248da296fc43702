/-! LOOKING AHEAD, purely: a weather's number, day by day; sums in another order -/
theorem odd_lin (cu : zB) (last w : Int32) : ∀ (n : Nat) (o : Int64), odd cu last w n o = o * odd cu last w n 1
  | 0, o => by simp only [odd]; exact (Int64.mul_one o).symm
  | n + 1, o => by
    simp only [odd]
    rw [odd_lin cu last w n o, Int64.mul_assoc]
theorem ps_lin (cu : zB) : ∀ (n left : Nat) (o : Int64) (b : zB), (psS cu n left o b).1 = o * (psS cu n left 1 b).1 ∧ (psS cu n left o b).2 = (psS cu n left 1 b).2
  | 0, left, o, b => ⟨(Int64.mul_one o).symm, rfl⟩
  | n + 1, left, o, b => by
    simp only [psS]
    obtain ⟨h1, h2⟩ := ps_lin cu n (left / 2 ^ nHi cu) (odd cu (b 0 2) (nI (left % 2 ^ nHi cu)) (nHi cu) o) (live cu (nI (left % 2 ^ nHi cu)) b)
    obtain ⟨g1, g2⟩ := ps_lin cu n (left / 2 ^ nHi cu) (odd cu (b 0 2) (nI (left % 2 ^ nHi cu)) (nHi cu) 1) (live cu (nI (left % 2 ^ nHi cu)) b)
    refine ⟨?_, h2.trans g2.symm⟩
    rw [h1, g1, odd_lin cu _ _ _ o, Int64.mul_assoc]
theorem ps_split (cu : zB) (m : Nat) : ∀ (d i : Nat) (o : Int64) (b : zB), psS cu (d + m) i o b = psS cu m (i / 2 ^ (nHi cu * d)) (psS cu d i o b).1 (psS cu d i o b).2
  | 0, i, o, b => by simp [psS]
  | d + 1, i, o, b => by
    rw [show d + 1 + m = (d + m) + 1 by omega]
    simp only [psS]
    rw [ps_split cu m d]
    congr 1
    rw [Nat.div_div_eq_div_mul, ← Nat.pow_add, Nat.mul_add, Nat.mul_one, Nat.add_comm]
theorem ps_mod (cu : zB) : ∀ (d i : Nat) (o : Int64) (b : zB), psS cu d (i % 2 ^ (nHi cu * d)) o b = psS cu d i o b
  | 0, i, o, b => rfl
  | d + 1, i, o, b => by
    simp only [psS]
    have e : 2 ^ (nHi cu * (d + 1)) = 2 ^ nHi cu * 2 ^ (nHi cu * d) := by rw [← Nat.pow_add, Nat.mul_add, Nat.mul_one, Nat.add_comm]
    have e1 : i % 2 ^ (nHi cu * (d + 1)) % 2 ^ nHi cu = i % 2 ^ nHi cu := by rw [e, Nat.mod_mul_right_mod]
    have e2 : i % 2 ^ (nHi cu * (d + 1)) / 2 ^ nHi cu = i / 2 ^ nHi cu % 2 ^ (nHi cu * d) := by rw [e, Nat.mod_mul_right_div_self]
    rw [e1, e2, ps_mod cu d]
/-- one day more -/
theorem ps_next (cu : zB) {d num wet : Nat} (hn : num < 2 ^ (nHi cu * d)) (hw : wet < 2 ^ nHi cu) (b : zB) :
    psS cu (d + 1) (num + 2 ^ (nHi cu * d) * wet) 1 b = (odd cu ((psS cu d num 1 b).2 0 2) (nI wet) (nHi cu) (psS cu d num 1 b).1, live cu (nI wet) (psS cu d num 1 b).2) := by
  have p0 : 0 < 2 ^ (nHi cu * d) := Nat.pow_pos (by omega)
  rw [ps_split cu 1 d]
  have e1 : psS cu d (num + 2 ^ (nHi cu * d) * wet) 1 b = psS cu d num 1 b := by
    rw [← ps_mod cu d (num + 2 ^ (nHi cu * d) * wet), Nat.add_mul_mod_self_left, ps_mod]
  have e2 : (num + 2 ^ (nHi cu * d) * wet) / 2 ^ (nHi cu * d) = wet := by
    rw [Nat.add_mul_div_left _ _ p0, Nat.div_eq_of_lt hn, Nat.zero_add]
  rw [e1, e2]
  simp only [psS]
  rw [Nat.mod_eq_of_lt hw]
theorem ps_ok {cu : zB} (hk : cOk cu) : ∀ (d i : Nat) (o : Int64) (b : zB) (M : Int), bI b M → LI cu b → M + 990 * (d : Int) ≤ 999999 → bI (psS cu d i o b).2 (M + 990 * (d : Int)) ∧ LI cu (psS cu d i o b).2
  | 0, i, o, b, M, I, L, h => ⟨bI_mono I (by omega), L⟩
  | d + 1, i, o, b, M, I, L, h => by
    simp only [psS]
    obtain ⟨i1, l1⟩ := ps_ok hk d (i / 2 ^ nHi cu) (odd cu (b 0 2) (nI (i % 2 ^ nHi cu)) (nHi cu) o) (live cu (nI (i % 2 ^ nHi cu)) b) (M + 990) (live_inv hk I (by omega)).2 (live_LI L) (by omega)
    exact ⟨bI_mono i1 (by omega), l1⟩
def smL (f : Nat → Int64) : Nat → Int64
  | 0 => 0
  | n + 1 => smL f n + f n
theorem smL_congr {f g : Nat → Int64} : ∀ {n : Nat}, (∀ k, k < n → f k = g k) → smL f n = smL g n
  | 0, _ => rfl
  | n + 1, h => by
    simp only [smL]
    rw [smL_congr (n := n) (fun k hk => h k (by omega)), h n (by omega)]
theorem smL_zero {f : Nat → Int64} : ∀ {n : Nat}, (∀ k, k < n → f k = 0) → smL f n = 0
  | 0, _ => rfl
  | n + 1, h => by
    simp only [smL]
    rw [smL_zero (n := n) (fun k hk => h k (by omega)), h n (by omega)]; rfl
theorem smL_add (f g : Nat → Int64) : ∀ n, smL (fun k => f k + g k) n = smL f n + smL g n
  | 0 => rfl
  | n + 1 => by
    simp only [smL]
    rw [smL_add f g n]
    rw [Int64.add_assoc, Int64.add_assoc, ← Int64.add_assoc (f n), Int64.add_comm (f n) (smL g n), Int64.add_assoc]
theorem smL_app (f : Nat → Int64) (a : Nat) : ∀ b, smL f (a + b) = smL f a + smL (fun k => f (a + k)) b
  | 0 => by simp only [smL, Nat.add_zero]; exact (Int64.add_zero _).symm
  | b + 1 => by
    rw [show a + (b + 1) = a + b + 1 by omega]
    simp only [smL]
    rw [smL_app f a b, Int64.add_assoc]
theorem smL_two (f : Nat → Int64) (a : Nat) : ∀ K, smL f (a * K) = smL (fun r => smL (fun q => f (r + a * q)) K) a
  | 0 => by
    rw [Nat.mul_zero]
    exact (smL_zero (fun _ _ => rfl)).symm
  | K + 1 => by
    rw [Nat.mul_add, Nat.mul_one, smL_app, smL_two f a K]
    simp only [smL]
    rw [smL_add]
    congr 1
    exact smL_congr (fun k _ => by rw [Nat.add_comm])
/-- what a weather adds -/
def arvS (a sj : Nat) (co : Int32) (b : zB) (q : Int64 × zB) : Int64 := match a with
  | 0 => q.1 * (q.2 5 sj - b 5 sj).toInt64
  | 1 => if q.2 3 sj ≤ 0 then 0 else q.1
  | 2 => q.1 * (q.2 1 sj).toInt64
  | _ => if q.2 1 sj = co then 1 else 0
/-- .. all weathers that go on like num for d days -/
def wkW (cu : zB) (n a sj : Nat) (co : Int32) (b : zB) (m d num : Nat) : Int64 := smL (fun j => arvS a sj co b (psS cu n (num + 2 ^ (nHi cu * d) * j) 1 b)) (2 ^ (nHi cu * m))
theorem wkW_leaf (cu : zB) (n a sj : Nat) (co : Int32) (b : zB) (d num : Nat) : wkW cu n a sj co b 0 d num = arvS a sj co b (psS cu n num 1 b) := by
  unfold wkW
  simp only [Nat.mul_zero, Nat.pow_zero, smL, Nat.mul_zero, Nat.add_zero]
  exact Int64.zero_add _
theorem wkW_node (cu : zB) (n a sj : Nat) (co : Int32) (b : zB) (m d num : Nat) : wkW cu n a sj co b (m + 1) d num = smL (fun wet => wkW cu n a sj co b m (d + 1) (num + 2 ^ (nHi cu * d) * wet)) (2 ^ nHi cu) := by
  unfold wkW
  rw [show nHi cu * (m + 1) = nHi cu + nHi cu * m by rw [Nat.mul_add, Nat.mul_one, Nat.add_comm], Nat.pow_add, smL_two]
  refine smL_congr (fun wet _ => smL_congr (fun q _ => ?_))
  congr 2
  have e : 2 ^ (nHi cu * (d + 1)) = 2 ^ (nHi cu * d) * 2 ^ nHi cu := by rw [← Nat.pow_add, Nat.mul_add, Nat.mul_one]
  rw [e, Nat.mul_add, Nat.mul_assoc, Nat.add_assoc]
/-- what has no odds adds nothing -/
theorem arv_zero {a sj : Nat} {co : Int32} {b : zB} {q : Int64 × zB} (ha : a < 3) (h : q.1 = 0) : arvS a sj co b q = 0 := by
  have : a = 0 ∨ a = 1 ∨ a = 2 := by omega
  rcases this with rfl | rfl | rfl
  · simp only [arvS]; rw [h, Int64.zero_mul]
  · simp only [arvS]; rw [h]; split <;> rfl
  · simp only [arvS]; rw [h, Int64.zero_mul]
theorem wkW_zero {cu : zB} {n a sj : Nat} {co : Int32} {b : zB} {m d num : Nat} (ha : a < 3) (hn : num < 2 ^ (nHi cu * d)) (hd : d + m = n) (h : (psS cu d num 1 b).1 = 0) : wkW cu n a sj co b m d num = 0 := by
  unfold wkW
  refine smL_zero (fun j _ => arv_zero ha ?_)
  subst hd
  rw [ps_split]
  have e1 : psS cu d (num + 2 ^ (nHi cu * d) * j) 1 b = psS cu d num 1 b := by
    rw [← ps_mod cu d (num + 2 ^ (nHi cu * d) * j), Nat.add_mul_mod_self_left, ps_mod]
  rw [e1, (ps_lin cu m _ _ _).1, h, Int64.zero_mul]
theorem wr_sm (cu b : zB) (n l : Nat) (co : Int32) : ∀ W, wrS cu b n l W = smL (fun j => arvS 0 l co b (psS cu n j 1 b)) W
  | 0 => rfl
  | W + 1 => by simp only [wrS, smL]; rw [wr_sm cu b n l co W]; rfl
theorem ch_sm (cu b : zB) (n l : Nat) (co : Int32) : ∀ W, chS cu b n l W = smL (fun j => arvS 1 l co b (psS cu n j 1 b)) W
  | 0 => rfl
  | W + 1 => by simp only [chS, smL]; rw [ch_sm cu b n l co W]; rfl
theorem wkW_all (cu : zB) (n a sj : Nat) (co : Int32) (b : zB) : wkW cu n a sj co b n 0 0 = smL (fun j => arvS a sj co b (psS cu n j 1 b)) (2 ^ (nHi cu * n)) := by
  unfold wkW
  refine smL_congr (fun j _ => ?_)
  simp only [Nat.mul_zero, Nat.pow_zero, Nat.one_mul, Nat.zero_add]
/-! bits of a long -/
def btL (x : Int64) (i : Nat) : Bool := x.toBitVec.getLsbD i
theorem bL_ext {x y : Int64} (h : ∀ i, i < 64 → btL x i = btL y i) : x = y := Int64.toBitVec_inj.mp (BitVec.eq_of_getLsbD_eq (fun i hi => h i hi))
theorem bL_big {x : Int64} {i : Nat} (h : 64 ≤ i) : btL x i = false := BitVec.getLsbD_of_ge _ _ h
theorem bL_0 (i : Nat) : btL 0 i = false := BitVec.getLsbD_zero
theorem bL_or (x y : Int64) (i : Nat) : btL (x ||| y) i = (btL x i || btL y i) := by unfold btL; rw [Int64.toBitVec_or, BitVec.getLsbD_or]
theorem bL_and (x y : Int64) (i : Nat) : btL (x &&& y) i = (btL x i && btL y i) := by unfold btL; rw [Int64.toBitVec_and, BitVec.getLsbD_and]
theorem bL_1 (i : Nat) : btL 1 i = decide (i = 0) := by
  rcases Nat.lt_or_ge i 64 with h | h
  · exact (by decide +kernel : ∀ i, i < 64 → btL 1 i = decide (i = 0)) i h
  · rw [bL_big h, decide_eq_false (by omega)]
theorem sL_l : ∀ n, n < 64 → (((nI n).toInt64 &&& 63).toBitVec.smod 64).toNat = n := by decide +kernel
theorem bL_sh : ∀ l, l < 64 → ∀ i, i < 64 → btL ((1 : Int64) <<< ((nI l).toInt64 &&& 63)) i = decide (i = l) := by
  intro l hl i hi
  unfold btL
  rw [Int64.toBitVec_shiftLeft]
  show (Int64.toBitVec 1 <<< (((nI l).toInt64 &&& 63).toBitVec.smod 64).toNat).getLsbD i = _
  rw [sL_l l hl, BitVec.getLsbD_shiftLeft]
  have e := bL_1 (i - l)
  unfold btL at e
  rw [e]
  rcases Nat.lt_trichotomy i l with h | h | h
  · simp [h, show ¬ i = l by omega]
  · subst h; simp [hi]
  · simp [hi, show ¬ i < l by omega, show ¬ i - l = 0 by omega, show ¬ i = l by omega]
theorem bL_sshr (n : Nat) (hn : n < 64) (x : Int64) : btL (x >>> ((nI n).toInt64 &&& 63)) 0 = btL x n := by
  unfold btL
  rw [Int64.toBitVec_shiftRight]
  show (x.toBitVec.sshiftRight (((nI n).toInt64 &&& 63).toBitVec.smod 64).toNat).getLsbD 0 = _
  rw [sL_l n hn, BitVec.getLsbD_sshiftRight]
  simp [hn]
theorem andL1 (x : Int64) : x &&& 1 = if btL x 0 = true then 1 else 0 := by
  apply bL_ext
  intro i hi
  rw [bL_and, bL_1]
  by_cases h : i = 0
  · subst h
    cases hx : btL x 0
    · rw [if_neg (by decide)]; simp [bL_0]
    · rw [if_pos rfl, bL_1]; simp
  · rw [decide_eq_false h, Bool.and_false]
    split
    · rw [bL_1, decide_eq_false h]
    · rw [bL_0]
theorem cmpL {x y : Int64} : lg_cmp x y = 0 ↔ x = y := by
  unfold lg_cmp
  by_cases h : x > y
  · rw [if_pos h]
    exact ⟨fun q => absurd q (by decide), fun q => absurd h (by rw [q]; exact Int64.lt_irrefl)⟩
  · rw [if_neg h]
    by_cases e : x = y
    · rw [if_pos e]; exact ⟨fun _ => e, fun _ => rfl⟩
    · rw [if_neg e]; exact ⟨fun q => absurd q (by decide), fun q => absurd q e⟩
