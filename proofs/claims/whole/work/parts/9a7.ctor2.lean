/-! the constructors of customs, pasts, looks ahead, years -/
section NR
variable {X : zX} {pc n ce sl ci t : Nat} {L : List (Option Value)} {st : List Value} {E0 R0 R : List va_E} {x : va_E} {g : Nat → Nat}
theorem nv_row (k : NW X pc L st (E0 ++ x :: (R0 ++ .inl (X.G.cA t, n, .inr (.inr (.inr (.inr (fun j => some (g j)))))) :: R)) ce sl) : NW X pc L st (E0 ++ x :: (R0 ++ .inl (X.G.cA t, n, .inr (.inr (.inr (.inr (rowF g n))))) :: R)) ce sl := by
  have e : ∀ y : va_E, E0 ++ x :: (R0 ++ y :: R) = (E0 ++ x :: R0) ++ y :: R := fun y => by simp
  rw [e] at k ⊢
  exact bw_row (n_at _ _ _) (fun j hj => by simp [rowF, hj]) (n_set _ _ _ _) k
end NR
section K2
variable {l : Launch} {G : zG} {E : List va_E} {o : Nat}
def bkC (o : Nat) : List (Nat × Nat) := (2, o) :: (([(19, o), (20, o), (21, o)] ++ (22, o) :: (List.range 10).flatMap (fun j => [(7, 10 * o + j)])) ++ [(23, o), (24, o), (25, o)])
def fr2 : List Value := [.int 0, .int 0, .int 0, .int 0, .null, .null, .null, .null, .null, .null, .null]
theorem bkC_7 {i : Nat} (hi : i < 10) : (bkC o)[5 + i]? = some (7, 10 * o + i) := by
  have h : i = 0 ∨ i = 1 ∨ i = 2 ∨ i = 3 ∨ i = 4 ∨ i = 5 ∨ i = 6 ∨ i = 7 ∨ i = 8 ∨ i = 9 := by omega
  rcases h with rfl | rfl | rfl | rfl | rfl | rfl | rfl | rfl | rfl | rfl <;> rfl
set_option maxHeartbeats 1000000 in
theorem bc_X2 {a : Nat} (hq : zSl G E.length (bkC o)) (he : a = G.ad 2 o) : bCT l G 2 17 128 yX2_init cX2_init 2 a (E ++ [.inr (2, fr2)]) (E ++ (bkC o).map (zc G)) := by
  subst he
  refine bCT_of (by decide) rfl (by decide) (fun X hl hG hX hb hI hRc hRs hr => ?_)
  subst hG
  subst hl
  refine bw_aload_n hX dX2_init_0 rfl ?_
  refine bw_obj hX ob_X2 (by omega) (Nat.le_of_ble_eq_true rfl) dX2_init_1 ?_
  have ha : X.G.ad 2 o = X.G.sz + E.length := hq 0 _ rfl
  have hn0 : (E ++ [Sum.inr (2, fr2)]).length = E.length + 1 := by simp
  have hR : ([] : List va_E).length = 0 := rfl
  refine nv_arr (E0 := E) (n := 4) (N := 4) (b := X.G.ad 19 o) (t := 0) (a0 := a0i 4) hX hb hI hn0 hR rfl ha dX2_init_4 (fun k => bw_iconst hX dX2_init_5 zk_4 k) ac_int rfl rfl (a0_int 4) (by decide) (by decide) (by decide) dX2_init_6 (by have h : X.G.ad 19 o = _ := hq 1 _ rfl; omega) kF_X2_9 (Nat.le_of_ble_eq_true rfl) dX2_init_8 (by omega) (by omega) (fun hR => ?_)
  refine nv_arr (E0 := E) (n := 4) (N := 4) (b := X.G.ad 20 o) (t := 0) (a0 := a0i 4) hX hb hI hn0 hR rfl ha dX2_init_11 (fun k => bw_iconst hX dX2_init_12 zk_4 k) ac_int rfl rfl (a0_int 4) (by decide) (by decide) (by decide) dX2_init_13 (by have h : X.G.ad 20 o = _ := hq 2 _ rfl; omega) kF_X2_15 (Nat.le_of_ble_eq_true rfl) dX2_init_15 (by omega) (by omega) (fun hR => ?_)
  refine nv_arr (E0 := E) (n := 6) (N := 6) (b := X.G.ad 21 o) (t := 0) (a0 := a0i 6) hX hb hI hn0 hR rfl ha dX2_init_18 (fun k => bw_bipush hX dX2_init_19 zb_6 k) ac_int rfl rfl (a0_int 6) (by decide) (by decide) (by decide) dX2_init_21 (by have h : X.G.ad 21 o = _ := hq 3 _ rfl; omega) kF_X2_18 (Nat.le_of_ble_eq_true rfl) dX2_init_23 (by omega) (by omega) (fun hR => ?_)
  refine nv_arq (E0 := E) (n := 10) (N := 10) (b := X.G.ad 22 o) (t := 4) hX hb hI hn0 hR rfl ha dX2_init_26 (fun k => bw_bipush hX dX2_init_27 zb_10 k) na_X2_21 hb.2.2.1 rfl (by decide) (by decide) (by decide) dX2_init_29 (by have h : X.G.ad 22 o = _ := hq 4 _ rfl; omega) kF_X2_23 (Nat.le_of_ble_eq_true rfl) dX2_init_32 (by omega) (by omega) ?_
  refine bw_iconst hX dX2_init_35 zk_0 ?_
  refine bw_istore_n (L' := [some (.ref _), some (.int (nI 0))]) hX dX2_init_36 (Nat.le_of_ble_eq_true rfl) rfl ?_
  refine nv_loop (E0 := E) (R0 := [.inl (X.G.cA 0, a0i 4), .inl (X.G.cA 0, a0i 4), .inl (X.G.cA 0, a0i 6)]) (c0 := 4) (s0 := 24) (pcA := 37) (pcB := 43) (pcE := 62) (n := 10) (mc := 0) (ms := 0) (N := 8) (t := 4) (b := X.G.ad 22 o) (g := fun k => X.G.ad 7 (10 * o + k)) (Bk := fun i => [zc X.G (7, 10 * o + i)]) (vs := fun _ => fr7) (gs := fr7) (fs := [.int 0, .int 0, .int 0, .int 0, .ref (X.G.ad 19 o), .ref (X.G.ad 20 o), .ref (X.G.ad 21 o), .ref (X.G.ad 22 o), .null, .null, .null]) hX hb hn0 rfl ha (by decide) (fun i E ce sl hi k1 k2 => by
      refine bw_iload_n hX dX2_init_37 rfl ?_
      refine bw_bipush hX dX2_init_38 zb_10 ?_
      refine bw_icmp_ge (tgt := 62) hX dX2_init_40 (by decide) (fun h => ?_) (fun h => ?_)
      · refine k2 ?_
        rcases Nat.lt_or_ge i 10 with q | q
        · exact absurd h (nI_ge q (by decide))
        · omega
      · refine k1 ?_
        rcases Nat.lt_or_ge i 10 with q | q
        · exact q
        · exact absurd (nI_le (a := 10) q (by omega)) h) dX2_init_43 kf_X2_23 rfl dX2_init_44 dX2_init_47 nc_X2_21 (fun j hj => by
      have h : j = 0 ∨ j = 1 ∨ j = 2 ∨ j = 3 ∨ j = 4 ∨ j = 5 ∨ j = 6 ∨ j = 7 := by omega
      rcases h with rfl | rfl | rfl | rfl | rfl | rfl | rfl | rfl <;> rfl) dX2_init_48 (fun i hi => by have h : X.G.ad 7 (10 * o + i) = _ := hq _ _ (bkC_7 hi); rw [h]; omega) dX2_init_51 (fun i E1 ce sl hi h1 h2 h3 h4 k => bw_callN hX hb (by simp; omega) (by simp) ic_T (by decide) bc_X7 h3 h4 (Nat.le_of_ble_eq_true rfl) dX2_init_52 k) (by have h : X.G.ad 22 o = _ := hq 4 _ rfl; simp; omega) rfl (fun i => rfl) (fun i => rfl) dX2_init_55 (by omega) (by omega) (fun i E ce sl hi k => by
      refine bw_iinc (v := nI (i + 1)) (L' := [some (.ref _), some (.int (nI (i + 1)))]) hX dX2_init_56 rfl (nI_succ i).symm (Nat.le_of_ble_eq_true rfl) rfl ?_
      exact bw_goto (tgt := 37) hX dX2_init_59 (by decide) k) ?_ 10 0 rfl
  refine nv_row ?_
  have hR : ([Sum.inl (X.G.cA 0, a0i 4), Sum.inl (X.G.cA 0, a0i 4), Sum.inl (X.G.cA 0, a0i 6)] ++ Sum.inl (X.G.cA 4, 10, .inr (.inr (.inr (.inr (fun k => some (X.G.ad 7 (10 * o + k))))))) :: (List.range 10).flatMap (fun i => [zc X.G (7, 10 * o + i)]) : List va_E).length = 4 + 10 * (0 + 1) := rfl
  refine nv_arr (E0 := E) (n := 8) (N := 8) (b := X.G.ad 23 o) (t := 0) (a0 := a0i 8) hX hb hI hn0 hR rfl ha dX2_init_62 (fun k => bw_bipush hX dX2_init_63 zb_8 k) ac_int rfl rfl (a0_int 8) (by decide) (by decide) (by decide) dX2_init_65 (by have h : X.G.ad 23 o = _ := hq 15 _ rfl; omega) kF_X2_28 (Nat.le_of_ble_eq_true rfl) dX2_init_67 (by omega) (by omega) (fun hR => ?_)
  refine nv_arr (E0 := E) (n := 8) (N := 8) (b := X.G.ad 24 o) (t := 0) (a0 := a0i 8) hX hb hI hn0 hR rfl ha dX2_init_70 (fun k => bw_bipush hX dX2_init_71 zb_8 k) ac_int rfl rfl (a0_int 8) (by decide) (by decide) (by decide) dX2_init_73 (by have h : X.G.ad 24 o = _ := hq 16 _ rfl; omega) kF_X2_31 (Nat.le_of_ble_eq_true rfl) dX2_init_75 (by omega) (by omega) (fun hR => ?_)
  refine nv_arr (E0 := E) (n := 8) (N := 8) (b := X.G.ad 25 o) (t := 0) (a0 := a0i 8) hX hb hI hn0 hR rfl ha dX2_init_78 (fun k => bw_bipush hX dX2_init_79 zb_8 k) ac_int rfl rfl (a0_int 8) (by decide) (by decide) (by decide) dX2_init_81 (by have h : X.G.ad 25 o = _ := hq 17 _ rfl; omega) kF_X2_34 (Nat.le_of_ble_eq_true rfl) dX2_init_83 (by omega) (by omega) (fun hR => ?_)
  refine bw_ret hX hr rfl rfl ?_ dX2_init_86
  simp [bkC, zc, zcell, sh_2, sh_19, sh_20, sh_21, sh_22, sh_23, sh_24, sh_25, zflds, zfld, zarr, a0i, List.map_flatMap]
end K2
