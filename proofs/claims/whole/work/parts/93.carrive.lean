/-! THE CLASS LOOKS AHEAD: at the end of a weather -/
/-- the weathers that fit, as bits of 64 longs -/
def FB (μ : zM) (φ : Nat → Bool) : Prop := ∀ i, i < 4096 → btL (μ.2 13 0 (i / 64)) (i % 64) = φ i
theorem sh6 {n : Nat} (h : n < 4096) : nI n >>> ((6 : Int32) &&& 31) = nI (n / 64) := pk_shrN (by omega) _ 6 (by decide)
theorem an63 {n : Nat} (h : n < 4096) : nI n &&& (63 : Int32) = nI (n % 64) := pk_andN (by omega) 6 (by decide)
def ahK (d κ o : Nat) : Bool := (bKind κ && decide (31 + d < o ∧ o ≤ 43)) || (decide (κ = 0 ∨ κ = 13) && decide (o = 0))
theorem ahK_0 (d : Nat) : ahK d 0 0 = true := by simp [ahK]
theorem ahK_13 (d : Nat) : ahK d 13 0 = true := by simp [ahK]
section CA
variable {l : Launch} {G : zG} {μ : zM} {cu : zB}
theorem pL_row0 (μ : zM) (κ o k : Nat) (v : Int64) : (pL μ κ o k v).1 = μ.1 := rfl
theorem pL_2 (μ : zM) {κ κ' : Nat} (o o' k : Nat) (v : Int64) (h : κ' ≠ κ) : (pL μ κ o k v).2 κ' o' = μ.2 κ' o' := by
  funext c; simp [pL, h]
theorem pL_at (μ : zM) (κ o k : Nat) (v : Int64) : (pL μ κ o k v).2 κ o k = v := by simp [pL]
theorem ca_note {o num sj : Nat} {co : Int32} {x : zB} {φ : Nat → Bool} (ho : o < 49) (hs : μ.1 0 0 4 = nI sj) (hsj : sj < nPe cu) (h6 : nPe cu ≤ 6) (hco : μ.1 0 0 5 = co) (hn : num < 4096) (hx : bR cu (getB μ o) x) (hF : FB μ φ) :
    zCT l G 0 yX0_noteFit cX0_noteFit 4 none [.ref (G.ad 0 0), .ref (G.ad 1 o), .int (nI num)] μ (zV fun μ' => fm (ahK 12) μ μ' ∧ μ'.1 = μ.1 ∧ μ'.2 0 0 6 = μ.2 0 0 6 + (if x 1 sj = co then 1 else 0) ∧ FB μ' (fun i => φ i || (decide (i = num) && decide (x 1 sj = co)))) := by
  refine zCT_of (by decide) (Nat.le_of_ble_eq_true rfl) rfl (fun X hl hG hX hr => ?_)
  subst hG
  have e0 : ix (nI sj) = sj := ixn (by omega)
  have ex : μ.1 14 o sj = x 1 sj := hx.1.2.1 sj hsj
  refine st_X0_noteFit_0 hX hr ho ?_
  simp only [forall_eq, hs, hco, e0, ex, sh6 hn, an63 hn]
  refine ⟨vin (by omega) (by omega), fun c1 => ⟨rfl, fm.rf μ, rfl, by rw [if_neg c1, Int64.add_zero], fun i hi => ?_⟩, fun c1 => ⟨fun c2 => absurd c2 (nI_pos (by omega)), fun _ => ⟨fun c2 => absurd c2 ?_, fun _ => ⟨vin (by omega) (by omega), rfl, ?_, rfl, ?_, fun i hi => ?_⟩⟩⟩⟩
  · dsimp only; rw [decide_eq_false c1, Bool.and_false, Bool.or_false]; exact hF i hi
  · exact nI_ge (b := 64) (by omega) (by omega)
  · exact fm_L (fm_L (fm.rf μ) (ahK_13 12) _ _) (ahK_0 12) _ _
  · rw [pL_at, pL_2 _ _ _ _ _ (by decide), if_pos c1]
  · dsimp only
    rw [pL_2 _ _ _ _ _ (by decide), ixn (show num / 64 < 2 ^ 31 by omega), decide_eq_true c1, Bool.and_true]
    by_cases hq : i / 64 = num / 64
    · rw [hq, pL_at, bL_or, bL_sh _ (by omega) _ (by omega), ← hq, hF i hi]
      congr 1
      exact decide_eq_decide.mpr (by omega)
    · have : (pL μ 13 0 (num / 64) (μ.2 13 0 (num / 64) ||| (1 : Int64) <<< (Int32.toInt64 (nI (num % 64)) &&& 63))).2 13 0 (i / 64) = μ.2 13 0 (i / 64) := by simp [pL, hq]
      rw [this, hF i hi, decide_eq_false (show ¬ i = num by omega), Bool.or_false]
theorem ca_arrive {o num a sj : Nat} {co : Int32} {x b : zB} {w : Int64} {φ : Nat → Bool} (ho : o < 49) (hk : cOk cu) (ha : μ.1 0 0 3 = nI a) (ha4 : a < 4) (hs : μ.1 0 0 4 = nI sj) (hsl : a < 2 → sj < nLo cu) (hsp : 2 ≤ a → sj < nPe cu) (hco : μ.1 0 0 5 = co) (hn : num < 4096) (hx : bR cu (getB μ o) x) (hL : LI cu x) (h0 : a = 0 → μ.1 18 31 sj = b 5 sj) (hF : FB μ φ) :
    zCT l G 1 yX0_arrive cX0_arrive 5 none [.ref (G.ad 0 0), .ref (G.ad 1 o), .long w, .int (nI num)] μ (zV fun μ' => fm (ahK 12) μ μ' ∧ μ'.1 = μ.1 ∧ μ'.2 0 0 6 = μ.2 0 0 6 + arvS a sj co b (w, x) ∧ (a = 3 → FB μ' (fun i => φ i || (decide (i = num) && decide (x 1 sj = co))))) := by
  refine zCT_of (by decide) (Nat.le_of_ble_eq_true rfl) rfl (fun X hl hG hX hr => ?_)
  subst hG
  obtain ⟨n10, n6, -⟩ := cOk_n hk
  refine st_X0_arrive_0 hX hr ho ?_
  rw [ha, hs]
  have ha : a = 0 ∨ a = 1 ∨ a = 2 ∨ a = 3 := by omega
  rcases ha with rfl | rfl | rfl | rfl
  · have hl := hsl (by omega)
    have e0 : ix (nI sj) = sj := ixn (by omega)
    obtain ⟨q2, q3, q4, q5⟩ := hx.1.2.2.1 sj hl
    refine ⟨fun _ => ⟨vin (by omega) (by omega), ?_⟩, fun q => absurd rfl q⟩
    simp only [forall_eq, e0]
    refine ⟨rfl, fm_L (fm.rf μ) (ahK_0 12) _ _, rfl, ?_, fun q => absurd q (by decide)⟩
    rw [pL_at]
    show _ + w * (μ.1 18 o sj - μ.1 18 31 sj).toInt64 = _ + w * (x 5 sj - b 5 sj).toInt64
    rw [h0 rfl, show μ.1 18 o sj = x 5 sj from q5]
  · have hl := hsl (by omega)
    have e0 : ix (nI sj) = sj := ixn (by omega)
    obtain ⟨q2, q3, q4, q5⟩ := hx.1.2.2.1 sj hl
    have q3 : μ.1 16 o sj = x 3 sj := q3
    have h3 : x 3 sj ≤ 0 ↔ x 3 sj = 0 := by
      rcases (hL sj hl).1 with h | h | h <;> rw [h] <;> decide
    refine ⟨fun q => absurd q (by decide), fun _ => ⟨fun _ => ⟨vin (by omega) (by omega), ?_⟩, fun q => absurd rfl q⟩⟩
    simp only [forall_eq, e0, q3]
    refine ⟨fun c1 => ⟨rfl, fm_L (fm.rf μ) (ahK_0 12) _ _, rfl, ?_, fun q => absurd q (by decide)⟩, fun c1 => ⟨rfl, fm_L (fm.rf μ) (ahK_0 12) _ _, rfl, ?_, fun q => absurd q (by decide)⟩⟩
    · rw [pL_at]
      show _ = _ + (if x 3 sj ≤ 0 then 0 else w)
      rw [if_pos (h3.mpr c1)]
    · rw [pL_at]
      show _ = _ + (if x 3 sj ≤ 0 then 0 else w)
      rw [if_neg (fun q => c1 (h3.mp q))]
  · have hl := hsp (by omega)
    have e0 : ix (nI sj) = sj := ixn (by omega)
    have q1 : μ.1 14 o sj = x 1 sj := hx.1.2.1 sj hl
    refine ⟨fun q => absurd q (by decide), fun _ => ⟨fun q => absurd q (by decide), fun _ => ⟨fun _ => ⟨vin (by omega) (by omega), ?_⟩, fun q => absurd rfl q⟩⟩⟩
    simp only [forall_eq, e0, q1]
    refine ⟨rfl, fm_L (fm.rf μ) (ahK_0 12) _ _, rfl, ?_, fun q => absurd q (by decide)⟩
    rw [pL_at]; rfl
  · have hl := hsp (by omega)
    refine ⟨fun q => absurd q (by decide), fun _ => ⟨fun q => absurd q (by decide), fun _ => ⟨fun q => absurd q (by decide), fun _ => ?_⟩⟩⟩
    refine ⟨0, _, by omega, ca_note ho hs hl n6 hco hn hx hF, ?_⟩
    rintro μ' ⟨f, e, s, F⟩
    exact ⟨rfl, f, e, s, fun _ => F⟩
end CA
