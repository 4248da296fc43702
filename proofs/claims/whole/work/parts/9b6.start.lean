/-! THE START -/
def zzOrd : List (Nat × Nat) := bkR ++ (bkX ++ [(75, 0)])
def zpos (κ o : Nat) : Nat := zzOrd.idxOf (κ, o)
theorem zo_len : bkR.length = 423 ∧ bkX.length = 41 ∧ zzOrd.length = 465 := by decide +kernel
theorem zo_ix : (List.range 465).all (fun i => match zzOrd[i]? with | some q => decide (zpos q.1 q.2 = i) | none => false) = true := by decide +kernel
theorem zo_in : zzCells.all (fun q => decide (zpos q.1 q.2 < 465)) = true := by decide +kernel
theorem zpos_at {i : Nat} {q : Nat × Nat} (h : zzOrd[i]? = some q) : zpos q.1 q.2 = i := by
  have hi : i < 465 := by
    have := (List.getElem?_eq_some_iff.mp h).1
    rw [zo_len.2.2] at this
    exact this
  have h1 := List.all_eq_true.mp zo_ix i (List.mem_range.mpr hi)
  rw [h] at h1
  exact of_decide_eq_true h1
theorem zpos_get {q : Nat × Nat} (h : q ∈ zzCells) : zzOrd[zpos q.1 q.2]? = some q := by
  have h1 := of_decide_eq_true (List.all_eq_true.mp zo_in q h)
  have hl : zpos q.1 q.2 < zzOrd.length := by rw [zo_len.2.2]; exact h1
  rw [List.getElem?_eq_getElem hl]
  exact congrArg some (List.getElem_idxOf hl)
section SK
variable {args : Array Value} {s : State}
theorem st_arr {ty : FieldType} (h : (Cond.arrayClass ty).before args s = true) (hp : ∀ C, ty ≠ .object C) : ∃ cA : ClassId, ArrOfT s cA ty ∧ va_RA s cA ty := by
  obtain ⟨c, k, comp, h1, h2, h3⟩ := Cond.arrayClass_spec h
  refine ⟨c, fun N z => ⟨(fun k h => by cases h), k, h2, comp, h3⟩, ?_⟩
  cases ty with
  | object C => exact absurd rfl (hp C)
  | _ => exact h1
theorem st_over {C : String} (h : (Cond.arrayOver (.object C)).before args s = true) : ∃ cA : ClassId, ArrOfT s cA (.object C) ∧ va_RA s cA (.object C) := by
  obtain ⟨comp, c, k, h1, h2, h3, h4, h5⟩ := Cond.arrayOver_spec h
  exact ⟨c, fun N z => ⟨(fun k h => by cases h), k, h3, comp, h4⟩, k, comp, h3, h4, h1, h5⟩
set_option maxRecDepth 100000 in
theorem nx_A : Cond.arrayClass .int ∈ tables_1 ∧ Cond.arrayClass .long ∈ tables_1 ∧ Cond.arrayClass .char ∈ tables_1 ∧ Cond.arrayClass .boolean ∈ tables_1 ∧ Cond.arrayOver (.object "RainLoans$Terms") ∈ tables_1 ∧ Cond.arrayOver (.object "RainLoans$Book") ∈ tables_1 ∧ Cond.arrayOver (.object "RainLoans$Mark") ∈ tables_1 ∧ Cond.arrayOver (.object "RainLoans$Word") ∈ tables_1 ∧ Cond.methodLinkNest RX2 27 yX7_init "RainLoans" ∈ tables_1 := by decide +kernel
theorem gw_lw {w : Cond} (h : w ∈ gw) : w ∈ lw_tbl := (List.mem_filter.mp h).1
theorem st_C (hts : ∀ w ∈ lw_tbl, w.before args s = true) {own C : String} {idx ci N : Nat} {T : u_T} {ty0 : Nat → FieldType} (lk : zLC own idx ci C T N ty0) : ∃ (cC : ClassId) (iS : Nat → Nat), u_Kn s C T N cC iS := u_known (n := N) (fun w hw => hts w (gw_lw hw)) lk.2.1 (hts _ (gw_lw lk.2.2.2.2.1))
theorem st_K (hts : ∀ w ∈ lw_tbl, w.before args s = true) : ∃ (D : va_G) (cA : Nat → ClassId), va_K D zzCl [(cA 0, .int), (cA 1, .long), (cA 2, .char), (cA 3, .boolean), (cA 4, .object "RainLoans$Terms"), (cA 5, .object "RainLoans$Book"), (cA 6, .object "RainLoans$Mark"), (cA 7, .object "RainLoans$Word")] s := by
  have tb : ∀ w ∈ tables_1, w.before args s = true := fun w h => hts w (List.mem_append_right _ h)
  obtain ⟨n1, n2, n3, n4, n5, n6, n7, n8, -⟩ := nx_A
  obtain ⟨a0, h0⟩ := st_arr (tb _ n1) (fun C h => by cases h)
  obtain ⟨a1, h1⟩ := st_arr (tb _ n2) (fun C h => by cases h)
  obtain ⟨a2, h2⟩ := st_arr (tb _ n3) (fun C h => by cases h)
  obtain ⟨a3, h3⟩ := st_arr (tb _ n4) (fun C h => by cases h)
  obtain ⟨a4, h4⟩ := st_over (tb _ n5)
  obtain ⟨a5, h5⟩ := st_over (tb _ n6)
  obtain ⟨a6, h6⟩ := st_over (tb _ n7)
  obtain ⟨a7, h7⟩ := st_over (tb _ n8)
  obtain ⟨c0, i0, k0⟩ := st_C hts nc_X10_44
  obtain ⟨c1, i1, k1⟩ := st_C hts nc_X10_23
  obtain ⟨c2, i2, k2⟩ := st_C hts nc_X10_16
  obtain ⟨c3, i3, k3⟩ := st_C hts nc_X10_37
  obtain ⟨c4, i4, k4⟩ := st_C hts nc_X10_30
  obtain ⟨c5, i5, k5⟩ := st_C hts nc_X6_9
  obtain ⟨c6, i6, k6⟩ := st_C hts nc_X10_7
  obtain ⟨c7, i7, k7⟩ := st_C hts nc_X2_21
  obtain ⟨c9, i9, k9⟩ := st_C hts nc_X10_51
  obtain ⟨c10, i10, k10⟩ := st_C hts nc_L_8
  obtain ⟨c11, i11, k11⟩ := st_C hts nc_L_23
  refine ⟨(fun k => [c0, c1, c2, c3, c4, c5, c6, c7, c7, c9, c10, c11].getD k 0, fun k => [i0, i1, i2, i3, i4, i5, i6, i7, i7, i9, i10, i11].getD k i0), fun k => [a0, a1, a2, a3, a4, a5, a6, a7].getD k 0, fun k q hq => ?_, fun k q hq => ?_⟩
  · have hk : k < 12 := (List.getElem?_eq_some_iff.mp hq).1
    have h : k = 0 ∨ k = 1 ∨ k = 2 ∨ k = 3 ∨ k = 4 ∨ k = 5 ∨ k = 6 ∨ k = 7 ∨ k = 8 ∨ k = 9 ∨ k = 10 ∨ k = 11 := by omega
    rcases h with rfl | rfl | rfl | rfl | rfl | rfl | rfl | rfl | rfl | rfl | rfl | rfl <;> cases hq <;> assumption
  · have hk : k < 8 := (List.getElem?_eq_some_iff.mp hq).1
    have h : k = 0 ∨ k = 1 ∨ k = 2 ∨ k = 3 ∨ k = 4 ∨ k = 5 ∨ k = 6 ∨ k = 7 := by omega
    rcases h with rfl | rfl | rfl | rfl | rfl | rfl | rfl | rfl <;> cases hq <;> assumption
theorem st_N (hts : ∀ w ∈ lw_tbl, w.before args s = true) : bN s := by
  have tb : ∀ w ∈ tables_1, w.before args s = true := fun w h => hts w (List.mem_append_right _ h)
  obtain ⟨-, -, -, -, n5, n6, n7, n8, n9⟩ := nx_A
  exact ⟨va_Nw.of rfl (tb _ n9), va_AO.of (tb _ n5), va_AO.of (tb _ n6), va_AO.of (tb _ n7), va_AO.of (tb _ n8)⟩
end SK
/-! the memory at the start -/
def μ0 : zM := (fun _ _ _ => 0, fun _ _ _ => 0)
theorem z0 : nHi (cuZ μ0) = 0 ∧ nPe (cuZ μ0) = 0 ∧ nLo (cuZ μ0) = 0 ∧ nBe (cuZ μ0) = 0 := by decide +kernel
theorem v0 {n m : Nat} (e : m = 0) (h : n < m) : False := by omega
theorem z1 : sP (bOf (fun _ => 0)) ≤ 60000 ∧ sO (bOf (fun _ => 0)) ≤ 10000 := by decide +kernel
theorem Rel_0 : Rel 10000 μ0 := by
  refine ⟨((fun _ => 0, 0), (cuZ μ0, fun _ _ => 0), bOf (fun _ => 0), (0, fun _ _ _ => 0), fun _ => none), ?_, ?_, ?_⟩
  · refine ⟨⟨rfl, rfl⟩, ⟨⟨⟨rfl, rfl, rfl, rfl⟩, fun h hh => (v0 z0.1 hh).elim, fun p hp => (v0 z0.2.1 hp).elim, fun l hl => (v0 z0.2.2.1 hl).elim, fun k hk => (v0 z0.2.2.2 hk).elim⟩, fun i hi => (v0 z0.2.2.2 hi).elim⟩, ⟨⟨rfl, fun p hp => (v0 z0.2.1 hp).elim, fun l hl => (v0 z0.2.2.1 hl).elim, fun l hl => (v0 z0.2.2.1 hl).elim⟩, rfl, rfl, rfl⟩, ⟨0, by decide, rfl, rfl, fun j hj => (v0 rfl hj).elim⟩, fun i _ => rfl⟩
  · refine ⟨⟨rfl, rfl⟩, ⟨rfl, fun _ _ => 0, fun i hi => (v0 z0.2.2.2 hi).elim, fun i hi => (v0 z0.2.2.2 hi).elim⟩, rfl, ⟨rfl, fun j hj => (v0 rfl hj).elim⟩, fun i _ => rfl⟩
  · refine ⟨⟨Nat.zero_le _, fun j hj => (v0 rfl hj).elim⟩, ⟨⟨zdi (by decide +kernel), zdi (by decide +kernel), zdi (by decide +kernel), zdi (by decide +kernel), fun l hl => (v0 z0.2.2.1 hl).elim⟩, fun l hl => (v0 z0.2.2.1 hl).elim, fun l hl => (v0 z0.1 hl).elim⟩, ⟨fun l hl => (v0 z0.2.2.1 hl).elim, fun p hp => ?_, z1.1, fun l hl => ?_, z1.2⟩, ⟨Nat.zero_le _, fun j hj => (v0 rfl hj).elim⟩, fun i _ => trivial⟩
    · show 0 ≤ (bOf (fun _ => 0) 1 p).toInt
      rw [bOf1 hp]
      decide
    · show 0 ≤ (bOf (fun _ => 0) 2 l).toInt
      rw [bOf2 hl]
      decide
section SB
variable {X : zX} {pc ce sl : Nat} {L : List (Option Value)} {st : List Value}
/-- all is built: the list of cells is the memory -/
theorem bw_aw (hA : ∀ κ o, X.G.ad κ o = X.G.sz + zpos κ o) (k : AW (X.at ce sl) pc L st μ0) : NW X pc L st (zzOrd.map (zc X.G)) ce sl := by
  intro hn H locs ls hW hS hl
  refine k hn H locs ls ⟨fun i q hq => ?_, fun i j p q hp hq e => ?_, fun i q hq => ?_⟩ hS hl
  · have hq : (zzCells.map (zat X.G μ0))[i]? = some q := hq
    rw [List.getElem?_map] at hq
    obtain ⟨r, h1, rfl⟩ := Option.map_eq_some_iff.mp hq
    have hg := zpos_get (List.mem_of_getElem? h1)
    have h2 := hW (zpos r.1 r.2) (X.G.sz + zpos r.1 r.2, zc X.G r) (bws_some (by rw [List.getElem?_map, hg]; rfl))
    rw [← hA] at h2
    exact h2
  · have hp : (zzCells.map (zat X.G μ0))[i]? = some p := hp
    have hq : (zzCells.map (zat X.G μ0))[j]? = some q := hq
    rw [List.getElem?_map] at hp hq
    obtain ⟨r, h1, rfl⟩ := Option.map_eq_some_iff.mp hp
    obtain ⟨t, h2, rfl⟩ := Option.map_eq_some_iff.mp hq
    have e : X.G.ad r.1 r.2 = X.G.ad t.1 t.2 := e
    rw [hA, hA] at e
    have e2 : zpos r.1 r.2 = zpos t.1 t.2 := by omega
    have e3 := zpos_get (List.mem_of_getElem? h1)
    rw [e2, zpos_get (List.mem_of_getElem? h2)] at e3
    cases Option.some.inj e3
    obtain ⟨g1, g2⟩ := List.getElem?_eq_some_iff.mp h1
    obtain ⟨g3, g4⟩ := List.getElem?_eq_some_iff.mp h2
    have hp := List.pairwise_iff_getElem.mp zzCells_nodup
    rcases Nat.lt_trichotomy i j with h | h | h
    · exact absurd (g2.trans g4.symm) (hp i j g1 g3 h)
    · exact h
    · exact absurd (g4.trans g2.symm) (hp j i g3 g1 h)
  · have hq : (zzCells.map (zat X.G μ0))[i]? = some q := hq
    rw [List.getElem?_map] at hq
    obtain ⟨r, h1, rfl⟩ := Option.map_eq_some_iff.mp hq
    show X.G.sz ≤ X.G.ad r.1 r.2
    rw [hA]
    omega
end SB
