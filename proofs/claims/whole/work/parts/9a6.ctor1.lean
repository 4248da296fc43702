/-! the constructors of small things -/
def bkB (o : Nat) : List (Nat × Nat) := [(1, o), (14, o), (15, o), (16, o), (17, o), (18, o)]
theorem zSl_tl {G : zG} {h : Nat} {q : Nat × Nat} {Q : List (Nat × Nat)} (hq : zSl G h (q :: Q)) : zSl G (h + 1) Q := fun i r hi => by
  have := hq (i + 1) r (by simpa using hi)
  rw [this]; omega
theorem zSl_app {G : zG} {h : Nat} {A B : List (Nat × Nat)} (hq : zSl G h (A ++ B)) : zSl G h A ∧ zSl G (h + A.length) B := by
  refine ⟨fun i r hi => hq i r ?_, fun i r hi => ?_⟩
  · rw [List.getElem?_append_left (List.getElem?_eq_some_iff.mp hi).1]; exact hi
  · have := hq (A.length + i) r (by rw [List.getElem?_append_right (by omega), Nat.add_sub_cancel_left]; exact hi)
    rw [this]; omega
theorem flat_at {α : Type} {F : Nat → List α} {m : Nat} (hl : ∀ i, (F i).length = m) : ∀ (n i j : Nat), i < n → j < m → ((List.range n).flatMap F)[i * m + j]? = (F i)[j]?
  | 0, i, j, hi, hj => by omega
  | n + 1, i, j, hi, hj => by
    have hlen : ((List.range n).flatMap F).length = n * m := by
      clear hi
      induction n with
      | zero => simp
      | succ n ih => rw [List.range_succ, List.flatMap_append, List.length_append, ih, List.flatMap_cons, List.flatMap_nil, List.append_nil, hl, Nat.add_one_mul]
    rw [List.range_succ, List.flatMap_append, List.flatMap_cons, List.flatMap_nil, List.append_nil]
    rcases Nat.lt_or_ge i n with h | h
    · have h2 : (i + 1) * m ≤ n * m := Nat.mul_le_mul_right _ h
      rw [Nat.add_one_mul] at h2
      rw [List.getElem?_append_left (by omega), flat_at hl n i j h hj]
    · have e : i = n := by omega
      subst e
      rw [List.getElem?_append_right (by omega), hlen, Nat.add_sub_cancel_left]
theorem zSl_flat {G : zG} {h n m i : Nat} {F : Nat → List (Nat × Nat)} (hl : ∀ i, (F i).length = m) (hi : i < n) (hq : zSl G h ((List.range n).flatMap F)) : zSl G (h + i * m) (F i) := by
  intro j r hj
  have hjl : j < m := by rw [← hl i]; exact (List.getElem?_eq_some_iff.mp hj).1
  have := hq (i * m + j) r (by rw [flat_at hl n i j hi hjl]; exact hj)
  rw [this]; omega
theorem zSl_at {G : zG} {h h' : Nat} {Q : List (Nat × Nat)} (hq : zSl G h Q) (e : h = h') : zSl G h' Q := by subst e; exact hq
section K1
variable {l : Launch} {G : zG} {E : List va_E} {o : Nat}
def fr7 : List Value := [.int 0, .int 0, .int 0, .int 0, .int 0, .int 0, .int 0, .int 0]
theorem zc_7 (o : Nat) : zc G (7, o) = .inr (7, fr7) := rfl
theorem bc_X7 {a : Nat} : bCT l G 1 0 0 yX7_init cX7_init 1 a (E ++ [.inr (7, fr7)]) (E ++ [zc G (7, o)]) := by
  refine bCT_of (by decide) rfl (by decide) (fun X hl hG hX hb hI hRc hRs hr => ?_)
  subst hG
  subst hl
  refine bw_aload_n hX dX7_init_0 rfl ?_
  refine bw_obj hX ob_X7 (by omega) (Nat.le_of_ble_eq_true rfl) dX7_init_1 ?_
  exact bw_ret hX hr rfl rfl rfl dX7_init_4
def fr1 : List Value := [.int 0, .int 0, .int 0, .int 0, .null, .null, .null, .null, .null]
theorem bc_X1 {a : Nat} (hq : zSl G E.length (bkB o)) (he : a = G.ad 1 o) : bCT l G 1 5 46 yX1_init cX1_init 1 a (E ++ [.inr (1, fr1)]) (E ++ (bkB o).map (zc G)) := by
  subst he
  refine bCT_of (by decide) rfl (by decide) (fun X hl hG hX hb hI hRc hRs hr => ?_)
  subst hG
  subst hl
  refine bw_aload_n hX dX1_init_0 rfl ?_
  refine bw_obj hX ob_X1 (by omega) (Nat.le_of_ble_eq_true rfl) dX1_init_1 ?_
  have ha : X.G.ad 1 o = X.G.sz + E.length := hq 0 _ rfl
  have hn0 : (E ++ [Sum.inr (1, fr1)]).length = E.length + 1 := by simp
  have hR : ([] : List va_E).length = 0 := rfl
  refine nv_arr (E0 := E) (n := 6) (N := 6) (b := X.G.ad 14 o) (t := 0) (a0 := a0i 6) hX hb hI hn0 hR rfl ha dX1_init_4 (fun k => bw_bipush hX dX1_init_5 zb_6 k) ac_int rfl rfl (a0_int 6) (by decide) (by decide) (by decide) dX1_init_7 (by have h : X.G.ad 14 o = _ := hq 1 _ rfl; omega) kF_X1_9 (Nat.le_of_ble_eq_true rfl) dX1_init_9 (by omega) (by omega) (fun hR => ?_)
  refine nv_arr (E0 := E) (n := 10) (N := 10) (b := X.G.ad 15 o) (t := 0) (a0 := a0i 10) hX hb hI hn0 hR rfl ha dX1_init_12 (fun k => bw_bipush hX dX1_init_13 zb_10 k) ac_int rfl rfl (a0_int 10) (by decide) (by decide) (by decide) dX1_init_15 (by have h : X.G.ad 15 o = _ := hq 2 _ rfl; omega) kF_X1_15 (Nat.le_of_ble_eq_true rfl) dX1_init_17 (by omega) (by omega) (fun hR => ?_)
  refine nv_arr (E0 := E) (n := 10) (N := 10) (b := X.G.ad 16 o) (t := 0) (a0 := a0i 10) hX hb hI hn0 hR rfl ha dX1_init_20 (fun k => bw_bipush hX dX1_init_21 zb_10 k) ac_int rfl rfl (a0_int 10) (by decide) (by decide) (by decide) dX1_init_23 (by have h : X.G.ad 16 o = _ := hq 3 _ rfl; omega) kF_X1_18 (Nat.le_of_ble_eq_true rfl) dX1_init_25 (by omega) (by omega) (fun hR => ?_)
  refine nv_arr (E0 := E) (n := 10) (N := 10) (b := X.G.ad 17 o) (t := 0) (a0 := a0i 10) hX hb hI hn0 hR rfl ha dX1_init_28 (fun k => bw_bipush hX dX1_init_29 zb_10 k) ac_int rfl rfl (a0_int 10) (by decide) (by decide) (by decide) dX1_init_31 (by have h : X.G.ad 17 o = _ := hq 4 _ rfl; omega) kF_X1_21 (Nat.le_of_ble_eq_true rfl) dX1_init_33 (by omega) (by omega) (fun hR => ?_)
  refine nv_arr (E0 := E) (n := 10) (N := 10) (b := X.G.ad 18 o) (t := 0) (a0 := a0i 10) hX hb hI hn0 hR rfl ha dX1_init_36 (fun k => bw_bipush hX dX1_init_37 zb_10 k) ac_int rfl rfl (a0_int 10) (by decide) (by decide) (by decide) dX1_init_39 (by have h : X.G.ad 18 o = _ := hq 5 _ rfl; omega) kF_X1_24 (Nat.le_of_ble_eq_true rfl) dX1_init_41 (by omega) (by omega) (fun hR => ?_)
  refine bw_ret hX hr rfl rfl ?_ dX1_init_44
  simp [bkB, zc, zcell, sh_1, sh_14, sh_15, sh_16, sh_17, sh_18, zflds, zfld, zarr, a0i, fr1]
end K1
