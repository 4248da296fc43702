/-! THE STRINGS' OWN METHODS -/
theorem zT_fin : ∀ k, k < 31 → zTl k ≤ 31 := by decide +kernel
theorem zT_ch : ∀ k, k < 31 → ∀ j, j < 31 → UInt32.toInt32 (Int32.toUInt32 ((zTb k j) &&& (255 : Int32)) % 65536) = zTb k j ∧ narrow .char (.int (zTb k j)) = .int (zTb k j) := by decide +kernel
theorem zS_sgn : ∀ c, c < 128 → sgn (nI c) = (List.range 8).any (fun j => decide (zTb 28 j = nI c)) := by decide +kernel
theorem zS_8 : ∀ c, c < 128 → Int8.toInt32 (Int32.toInt8 (nI c)) = nI c := by decide +kernel
section JD
variable {l : Launch} {G : zG} {μ : zM} {k : Nat}
theorem cj_coder (hE : zHas G) (hk : k < 31) : zCT l G 0 yJ0_coder_7d493 cJ0_coder_7d493 1 (some .byte) [.ref (G.aw (100 + k))] μ (zI fun r μ' => r = 0 ∧ μ' = μ) := by
  refine zCT_of (by decide) (Nat.le_of_ble_eq_true rfl) rfl (fun X hl hG hX hr => ?_)
  subst hG
  exact st_J0_coder_7d493_0 hX hr hE hk ⟨_, rfl, rfl, rfl⟩
theorem cj_latin (hE : zHas G) (hk : k < 31) : zCT l G 0 yJ0_isLatin1_aae02 cJ0_isLatin1_aae02 1 (some .boolean) [.ref (G.aw (100 + k))] μ (zI fun r μ' => r = 1 ∧ μ' = μ) := by
  refine zCT_of (by decide) (Nat.le_of_ble_eq_true rfl) rfl (fun X hl hG hX hr => ?_)
  subst hG
  exact st_J0_isLatin1_aae02_0 hX hr hE hk ⟨_, rfl, rfl, rfl⟩
theorem nI_sh0 (n : Nat) : nI n >>> ((0 : Int32) &&& 31) = nI n := by
  rw [show ((0 : Int32) &&& 31) = 0 by decide]
  exact Int32.shiftRight_zero
theorem cj_len (hE : zHas G) (hk : k < 31) : zCT l G 1 yJ0_length_8abf5 cJ0_length_8abf5 1 (some .int) [.ref (G.aw (100 + k))] μ (zI fun r μ' => r = nI (zTl k) ∧ μ' = μ) := by
  refine zCT_of (by decide) (Nat.le_of_ble_eq_true rfl) rfl (fun X hl hG hX hr => ?_)
  subst hG
  refine st_J0_length_8abf5_0 hX hr hE hk ⟨0, _, by omega, cj_coder hE hk, ?_⟩
  rintro r ν ⟨rfl, rfl⟩
  exact ⟨_, rfl, nI_sh0 _, rfl⟩
theorem cj_chk3 {i n : Nat} {z : Value} (hz : zNr z) (hi : i < n) (hn : n < 2 ^ 31) : zCT l G 0 yJ3_checkIndex_8e157 cJ3_checkIndex_8e157 3 (some .int) [.int (nI i), .int (nI n), z] μ (zI fun r μ' => r = nI i ∧ μ' = μ) := by
  have hc := zNr_cat hz
  refine zCT_of (L0 := [some (.int (nI i)), some (.int (nI n)), some z]) (by decide) ?_ ?_ (fun X hl hG hX hr => ?_)
  · rcases hz with rfl | ⟨a, rfl⟩ <;> exact Nat.le_of_ble_eq_true rfl
  · rcases hz with rfl | ⟨a, rfl⟩ <;> rfl
  subst hG
  refine st_J3_checkIndex_8e157_0 hX hr hz ⟨fun c => nI_pos (by omega) c, fun _ => ⟨fun _ => ⟨_, rfl, rfl, rfl⟩, fun c => c (nI_lt hi hn)⟩⟩
theorem cj_chk (hE : zHas G) {i n : Nat} (hi : i < n) (hn : n < 2 ^ 31) : zCT l G 1 yJ0_checkIndex_df160 cJ0_checkIndex_df160 2 none [.int (nI i), .int (nI n)] μ (zV fun μ' => μ' = μ) := by
  refine zCT_of (by decide) (Nat.le_of_ble_eq_true rfl) rfl (fun X hl hG hX hr => ?_)
  subst hG
  refine st_J0_checkIndex_df160_0 hX hr hE (fun z hz => ⟨0, _, by omega, cj_chk3 hz hi hn, ?_⟩)
  rintro r ν ⟨rfl, rfl⟩
  exact ⟨rfl, rfl⟩
theorem cj_char1 (hE : zHas G) (hk : k < 31) {j : Nat} (hj : j < zTl k) : zCT l G 2 yJ1_charAt_3b067 cJ1_charAt_3b067 2 (some .char) [.ref (G.aw (200 + k)), .int (nI j)] μ (zI fun r μ' => r = zTb k j ∧ μ' = μ) := by
  refine zCT_of (by decide) (Nat.le_of_ble_eq_true rfl) rfl (fun X hl hG hX hr => ?_)
  subst hG
  have h31 := zT_fin k hk
  obtain ⟨c1, c2⟩ := zT_ch k hk j (by omega)
  refine st_J1_charAt_3b067_0 hX hr hE hk ⟨1, _, by omega, cj_chk hE hj (by omega), ?_⟩
  rintro ν rfl
  rw [ixn (by omega), c1]
  exact ⟨vin hj (by omega), c2, _, rfl, rfl, rfl⟩
theorem cj_char (hE : zHas G) (hk : k < 31) {j : Nat} (hj : j < zTl k) : zCT l G 3 yJ0_charAt_5068e cJ0_charAt_5068e 2 (some .char) [.ref (G.aw (100 + k)), .int (nI j)] μ (zI fun r μ' => r = zTb k j ∧ μ' = μ) := by
  refine zCT_of (by decide) (Nat.le_of_ble_eq_true rfl) rfl (fun X hl hG hX hr => ?_)
  subst hG
  have h31 := zT_fin k hk
  refine st_J0_charAt_5068e_0 hX hr hE hk ⟨0, _, by omega, cj_latin hE hk, ?_⟩
  rintro r ν ⟨rfl, rfl⟩
  refine ⟨fun c => absurd c (by decide), fun _ => ⟨2, _, by omega, cj_char1 hE hk hj, ?_⟩⟩
  rintro r ν ⟨rfl, rfl⟩
  exact ⟨(zT_ch k hk j (by omega)).2, _, rfl, rfl, rfl⟩
theorem cj_enc {c : Nat} (hc : c < 128) : zCT l G 0 yJ1_canEncode_9a6ad cJ1_canEncode_9a6ad 1 (some .boolean) [.int (nI c)] μ (zI fun r μ' => r = 1 ∧ μ' = μ) := by
  refine zCT_of (by decide) (Nat.le_of_ble_eq_true rfl) rfl (fun X hl hG hX hr => ?_)
  subst hG
  exact st_J1_canEncode_9a6ad_0 hX hr ⟨fun q => absurd q (nI_pos (by omega)), fun _ => ⟨fun q => absurd q (nI_nlt (a := 255) (b := c) (by omega) (by omega)), fun _ => ⟨_, rfl, rfl, rfl⟩⟩⟩
/-- found, or not -/
def fdC (k c : Nat) (r : Int32) : Prop := (r < 0 → ∀ j, j < zTl k → ¬ zTb k j = nI c) ∧ (¬ r < 0 → ∃ j, j < zTl k ∧ zTb k j = nI c)
theorem cj_find (hE : zHas G) (hk : k < 31) {c : Nat} (hc : c < 128) : zCT l G 0 yJ1_indexOfChar_4cfef cJ1_indexOfChar_4cfef 6 (some .int) [.ref (G.aw (200 + k)), .int (nI c), .int (0 : Int32), .int (nI (zTl k))] μ (zI fun r μ' => fdC k c r ∧ μ' = μ) := by
  refine zCT_of (by decide) (Nat.le_of_ble_eq_true rfl) rfl (fun X hl hG hX hr => ?_)
  subst hG
  have h31 := zT_fin k hk
  have go : ∀ q i, i + q = zTl k → (∀ j, j < i → ¬ zTb k j = nI c) → AW X 7 [some (.ref (X.G.aw (200 + k))), none, none, some (.int (nI (zTl k))), some (.int (nI c)), some (.int (nI i))] [] μ := by
    intro q
    induction q with
    | zero =>
      intro i hi h
      refine st_J1_indexOfChar_4cfef_7 hX hr hE hk ⟨fun _ => ⟨_, rfl, ⟨fun _ j hj => h j (by omega), fun z => absurd (by decide) z⟩, rfl⟩, fun z => absurd ?_ z⟩
      exact nI_le (by omega) (by omega)
    | succ q ih =>
      intro i hi h
      refine st_J1_indexOfChar_4cfef_7 hX hr hE hk ⟨fun z => ?_, fun _ => ⟨vin (by omega) (by omega), ?_⟩⟩
      · have := (nI_leI (by omega) (by omega)).mp z
        omega
      · rw [ixn (by omega)]
        refine ⟨fun z => ?_, fun z => ⟨_, rfl, ⟨fun w => absurd w (nI_pos (by omega)), fun _ => ⟨i, by omega, z⟩⟩, rfl⟩⟩
        simp only [forall_eq, nI_1]
        exact ih (i + 1) (by omega) (fun j hj => by
          by_cases e : j = i
          · rw [e]; exact z
          · exact h j (by omega))
  refine st_J1_indexOfChar_4cfef_0 hX hr hk ?_
  simp only [forall_eq, zS_8 c hc]
  exact go (zTl k) 0 (by omega) (fun j hj => absurd hj (by omega))
theorem cj_ix1 (hE : zHas G) (hk : k < 31) {c : Nat} (hc : c < 128) : zCT l G 1 yJ1_indexOf_4cfef cJ1_indexOf_4cfef 4 (some .int) [.ref (G.aw (200 + k)), .int (nI c), .int (0 : Int32), .int (nI (zTl k))] μ (zI fun r μ' => fdC k c r ∧ μ' = μ) := by
  refine zCT_of (by decide) (Nat.le_of_ble_eq_true rfl) rfl (fun X hl hG hX hr => ?_)
  subst hG
  have h31 := zT_fin k hk
  refine st_J1_indexOf_4cfef_0 hX hr hE hk ⟨0, _, by omega, cj_enc hc, ?_⟩
  rintro r ν ⟨rfl, rfl⟩
  refine ⟨fun _ => ?_, fun q => absurd q (by decide)⟩
  simp only [ite_self, forall_eq]
  refine ⟨by omega, fun _ => ⟨0, _, by omega, cj_find hE hk hc, ?_⟩, fun z => ⟨_, rfl, ⟨fun _ j hj => ?_, fun w => absurd (by decide) w⟩, rfl⟩⟩
  · rintro r ν ⟨h, rfl⟩
    exact ⟨_, rfl, h, rfl⟩
  · exact absurd (nI_lt (a := 0) (b := zTl k) (by omega) (by omega)) z
theorem cj_ix2 (hE : zHas G) (hk : k < 31) {c : Nat} (hc : c < 128) : zCT l G 2 yJ0_indexOf_7cf53 cJ0_indexOf_7cf53 3 (some .int) [.ref (G.aw (100 + k)), .int (nI c), .int (0 : Int32)] μ (zI fun r μ' => fdC k c r ∧ μ' = μ) := by
  refine zCT_of (by decide) (Nat.le_of_ble_eq_true rfl) rfl (fun X hl hG hX hr => ?_)
  subst hG
  refine st_J0_indexOf_7cf53_0 hX hr hE hk ⟨0, _, by omega, cj_latin hE hk, ?_⟩
  rintro r ν ⟨rfl, rfl⟩
  refine ⟨fun c => absurd c (by decide), fun _ => ⟨1, _, by omega, cj_len hE hk, ?_⟩⟩
  rintro r ν ⟨rfl, rfl⟩
  refine ⟨1, _, by omega, cj_ix1 hE hk hc, ?_⟩
  rintro r ν ⟨h, rfl⟩
  exact ⟨_, rfl, h, rfl⟩
theorem cj_ix (hE : zHas G) {c : Nat} (hc : c < 128) : zCT l G 3 yJ0_indexOf_0f7a4 cJ0_indexOf_0f7a4 2 (some .int) [.ref (G.aw (100 + 28)), .int (nI c)] μ (zI fun r μ' => (r < 0 ↔ sgn (nI c) = false) ∧ μ' = μ) := by
  refine zCT_of (by decide) (Nat.le_of_ble_eq_true rfl) rfl (fun X hl hG hX hr => ?_)
  subst hG
  refine st_J0_indexOf_0f7a4_0 hX hr hE (by decide) ⟨2, _, by omega, cj_ix2 hE (by decide) hc, ?_⟩
  rintro r ν ⟨⟨h1, h2⟩, rfl⟩
  have e8 : zTl 28 = 8 := by decide
  rw [e8] at h1 h2
  refine ⟨_, rfl, ⟨fun q => ?_, fun q => ?_⟩, rfl⟩
  · rw [zS_sgn c hc]
    refine List.any_eq_false.mpr (fun j hj => ?_)
    simp only [decide_eq_true_eq]
    exact h1 q j (List.mem_range.mp hj)
  · refine Decidable.byContradiction (fun w => ?_)
    obtain ⟨j, hj, e⟩ := h2 w
    rw [zS_sgn c hc, List.any_eq_false] at q
    exact q j (List.mem_range.mpr hj) (decide_eq_true e)
end JD
