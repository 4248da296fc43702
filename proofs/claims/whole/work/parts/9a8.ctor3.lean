section K3
variable {l : Launch} {G : zG} {E : List va_E} {o : Nat}
def bkP : List (Nat × Nat) := (4, 0) :: (26, 0) :: (List.range 30).flatMap (fun j => bkB (1 + j))
def fr4 : List Value := [.int 0, .int 0, .null]
def vsB (G : zG) (o : Nat) : List Value := zflds G o (fun _ => 0) (fun _ => 0) 0 [(0, 0, 0, 0), (0, 0, 0, 0), (0, 0, 0, 0), (0, 0, 0, 0), (2, 14, 1, 0), (2, 15, 1, 0), (2, 16, 1, 0), (2, 17, 1, 0), (2, 18, 1, 0)]
set_option maxHeartbeats 1000000 in
theorem bc_X4 {a : Nat} (hq : zSl G E.length bkP) (he : a = G.ad 4 0) : bCT l G 2 181 1680 yX4_init cX4_init 2 a (E ++ [.inr (4, fr4)]) (E ++ bkP.map (zc G)) := by
  subst he
  refine bCT_of (by decide) rfl (by decide) (fun X hl hG hX hb hI hRc hRs hr => ?_)
  subst hG
  subst hl
  refine bw_aload_n hX dX4_init_0 rfl ?_
  refine bw_obj hX ob_X4 (by omega) (Nat.le_of_ble_eq_true rfl) dX4_init_1 ?_
  have ha : X.G.ad 4 0 = X.G.sz + E.length := hq 0 _ rfl
  have hn0 : (E ++ [Sum.inr (4, fr4)]).length = E.length + 1 := by simp
  have hR : ([] : List va_E).length = 0 := rfl
  refine nv_arq (E0 := E) (n := 30) (N := 30) (b := X.G.ad 26 0) (t := 5) hX hb hI hn0 hR rfl ha dX4_init_4 (fun k => bw_bipush hX dX4_init_5 zb_30 k) na_X4_9 hb.2.2.2.1 rfl (by decide) (by decide) (by decide) dX4_init_7 (by have h : X.G.ad 26 0 = _ := hq 1 _ rfl; omega) kF_X4_11 (Nat.le_of_ble_eq_true rfl) dX4_init_10 (by omega) (by omega) ?_
  have hqB : ∀ i, i < 30 → zSl X.G (E.length + 1 + 1 + i * 6) (bkB (1 + i)) := fun i hi => zSl_flat (F := fun j => bkB (1 + j)) (m := 6) (fun _ => rfl) hi (zSl_tl (zSl_tl hq))
  refine bw_iconst hX dX4_init_13 zk_0 ?_
  refine bw_istore_n (L' := [some (.ref _), some (.int (nI 0))]) hX dX4_init_14 (Nat.le_of_ble_eq_true rfl) rfl ?_
  refine nv_loop (E0 := E) (R0 := []) (c0 := 1) (s0 := 30) (pcA := 15) (pcB := 21) (pcE := 40) (n := 30) (mc := 5) (ms := 46) (N := 9) (t := 5) (b := X.G.ad 26 0) (g := fun k => X.G.ad 1 (1 + k)) (Bk := fun i => (bkB (1 + i)).map (zc X.G)) (vs := fun i => vsB X.G (1 + i)) (gs := fr1) (fs := [.int 0, .int 0, .ref (X.G.ad 26 0)]) hX hb hn0 rfl ha (by decide) (fun i E ce sl hi k1 k2 => by
      refine bw_iload_n hX dX4_init_15 rfl ?_
      refine bw_bipush hX dX4_init_16 zb_30 ?_
      refine bw_icmp_ge (tgt := 40) hX dX4_init_18 (by decide) (fun h => ?_) (fun h => ?_)
      · refine k2 ?_
        rcases Nat.lt_or_ge i 30 with q | q
        · exact absurd h (nI_ge q (by decide))
        · omega
      · refine k1 ?_
        rcases Nat.lt_or_ge i 30 with q | q
        · exact q
        · exact absurd (nI_le (a := 30) q (by omega)) h) dX4_init_21 kf_X4_11 rfl dX4_init_22 dX4_init_25 nc_X4_9 (fun j hj => by
      have h : j = 0 ∨ j = 1 ∨ j = 2 ∨ j = 3 ∨ j = 4 ∨ j = 5 ∨ j = 6 ∨ j = 7 ∨ j = 8 := by omega
      rcases h with rfl | rfl | rfl | rfl | rfl | rfl | rfl | rfl | rfl <;> rfl) dX4_init_26 (fun i hi => by have h : X.G.ad 1 (1 + i) = _ := hqB i hi 0 _ rfl; rw [h]; omega) dX4_init_29 (fun i E1 ce sl hi h1 h2 h3 h4 k => bw_call hX hb (by simp; omega) (by simp) ic_X4_17 (by decide) (bc_X1 (o := 1 + i) (zSl_at (hqB i hi) (by omega)) rfl) h3 h4 (Nat.le_of_ble_eq_true rfl) dX4_init_30 k) (by have h : X.G.ad 26 0 = _ := hq 1 _ rfl; simp; omega) rfl (fun i => rfl) (fun i => rfl) dX4_init_33 (by omega) (by omega) (fun i E ce sl hi k => by
      refine bw_iinc (v := nI (i + 1)) (L' := [some (.ref _), some (.int (nI (i + 1)))]) hX dX4_init_34 rfl (nI_succ i).symm (Nat.le_of_ble_eq_true rfl) rfl ?_
      exact bw_goto (tgt := 15) hX dX4_init_37 (by decide) k) ?_ 30 0 rfl
  refine nv_row ?_
  refine bw_ret hX hr rfl rfl ?_ dX4_init_40
  simp [bkP, zc, zcell, sh_4, sh_26, zflds, zfld, zarr, List.map_flatMap]
def bkA : List (Nat × Nat) := (0, 0) :: (((12, 0) :: (List.range 13).flatMap (fun j => bkB (31 + j))) ++ [(13, 0)])
def fr0 : List Value := [.null, .null, .int 0, .int 0, .int 0, .int 0, .long 0]
set_option maxHeartbeats 1000000 in
theorem bc_X0 {a : Nat} (hq : zSl G E.length bkA) (he : a = G.ad 0 0) : bCT l G 2 80 792 yX0_init cX0_init 2 a (E ++ [.inr (0, fr0)]) (E ++ bkA.map (zc G)) := by
  subst he
  refine bCT_of (by decide) rfl (by decide) (fun X hl hG hX hb hI hRc hRs hr => ?_)
  subst hG
  subst hl
  refine bw_aload_n hX dX0_init_0 rfl ?_
  refine bw_obj hX ob_X0 (by omega) (Nat.le_of_ble_eq_true rfl) dX0_init_1 ?_
  have ha : X.G.ad 0 0 = X.G.sz + E.length := hq 0 _ rfl
  have hn0 : (E ++ [Sum.inr (0, fr0)]).length = E.length + 1 := by simp
  have hR : ([] : List va_E).length = 0 := rfl
  refine nv_arq (E0 := E) (n := 13) (N := 13) (b := X.G.ad 12 0) (t := 5) hX hb hI hn0 hR rfl ha dX0_init_4 (fun k => bw_bipush hX dX0_init_5 zb_13 k) na_X0_9 hb.2.2.2.1 rfl (by decide) (by decide) (by decide) dX0_init_7 (by have h : X.G.ad 12 0 = _ := hq 1 _ rfl; omega) kF_X0_11 (Nat.le_of_ble_eq_true rfl) dX0_init_10 (by omega) (by omega) ?_
  have hqB : ∀ i, i < 13 → zSl X.G (E.length + 1 + 1 + i * 6) (bkB (31 + i)) := fun i hi => zSl_flat (F := fun j => bkB (31 + j)) (m := 6) (fun _ => rfl) hi (zSl_tl (zSl_app (zSl_tl hq)).1)
  refine bw_iconst hX dX0_init_13 zk_0 ?_
  refine bw_istore_n (L' := [some (.ref _), some (.int (nI 0))]) hX dX0_init_14 (Nat.le_of_ble_eq_true rfl) rfl ?_
  refine nv_loop (E0 := E) (R0 := []) (c0 := 1) (s0 := 13) (pcA := 15) (pcB := 21) (pcE := 40) (n := 13) (mc := 5) (ms := 46) (N := 9) (t := 5) (b := X.G.ad 12 0) (g := fun k => X.G.ad 1 (31 + k)) (Bk := fun i => (bkB (31 + i)).map (zc X.G)) (vs := fun i => vsB X.G (31 + i)) (gs := fr1) (fs := [.ref (X.G.ad 12 0), .null, .int 0, .int 0, .int 0, .int 0, .long 0]) hX hb hn0 rfl ha (by decide) (fun i E ce sl hi k1 k2 => by
      refine bw_iload_n hX dX0_init_15 rfl ?_
      refine bw_bipush hX dX0_init_16 zb_12 ?_
      refine bw_icmp_gt (tgt := 40) hX dX0_init_18 (by decide) (fun h => ?_) (fun h => ?_)
      · refine k2 ?_
        rcases Nat.lt_or_ge 12 i with q | q
        · omega
        · exact absurd h (nI_nlt (b := i) (a := 12) q (by decide))
      · refine k1 ?_
        rcases Nat.lt_or_ge 12 i with q | q
        · exact absurd (nI_lt (a := 12) q (by omega)) h
        · omega) dX0_init_21 kf_X0_11 rfl dX0_init_22 dX0_init_25 nc_X0_9 (fun j hj => by
      have h : j = 0 ∨ j = 1 ∨ j = 2 ∨ j = 3 ∨ j = 4 ∨ j = 5 ∨ j = 6 ∨ j = 7 ∨ j = 8 := by omega
      rcases h with rfl | rfl | rfl | rfl | rfl | rfl | rfl | rfl | rfl <;> rfl) dX0_init_26 (fun i hi => by have h : X.G.ad 1 (31 + i) = _ := hqB i hi 0 _ rfl; rw [h]; omega) dX0_init_29 (fun i E1 ce sl hi h1 h2 h3 h4 k => bw_call hX hb (by simp; omega) (by simp) ic_X0_17 (by decide) (bc_X1 (o := 31 + i) (zSl_at (hqB i hi) (by omega)) rfl) h3 h4 (Nat.le_of_ble_eq_true rfl) dX0_init_30 k) (by have h : X.G.ad 12 0 = _ := hq 1 _ rfl; simp; omega) rfl (fun i => rfl) (fun i => rfl) dX0_init_33 (by omega) (by omega) (fun i E ce sl hi k => by
      refine bw_iinc (v := nI (i + 1)) (L' := [some (.ref _), some (.int (nI (i + 1)))]) hX dX0_init_34 rfl (nI_succ i).symm (Nat.le_of_ble_eq_true rfl) rfl ?_
      exact bw_goto (tgt := 15) hX dX0_init_37 (by decide) k) ?_ 13 0 rfl
  refine nv_row ?_
  have hR : ([] ++ Sum.inl (X.G.cA 5, 13, .inr (.inr (.inr (.inr (fun k => some (X.G.ad 1 (31 + k))))))) :: (List.range 13).flatMap (fun i => (bkB (31 + i)).map (zc X.G)) : List va_E).length = 1 + 13 * (5 + 1) := rfl
  refine nv_arr (E0 := E) (n := 64) (N := 64) (b := X.G.ad 13 0) (t := 1) (a0 := a0l 64) hX hb hI hn0 hR rfl ha dX0_init_40 (fun k => bw_bipush hX dX0_init_41 zb_64 k) ac_long rfl rfl (a0_long 64) (by decide) (by decide) (by decide) dX0_init_43 (by have h : X.G.ad 13 0 = _ := hq 80 _ rfl; omega) kF_X0_18 (Nat.le_of_ble_eq_true rfl) dX0_init_45 (by omega) (by omega) (fun hR => ?_)
  refine bw_ret hX hr rfl rfl ?_ dX0_init_48
  simp [bkA, zc, zcell, sh_0, sh_12, sh_13, zflds, zfld, zarr, a0l, List.map_flatMap]
def bkY : List (Nat × Nat) := (9, 0) :: bkB 44
def fr9 : List Value := [.int 0, .int 0, .int 0, .int 0, .long 0, .null]
set_option maxHeartbeats 1000000 in
theorem bc_X9 {a : Nat} (hq : zSl G E.length bkY) (he : a = G.ad 9 0) : bCT l G 2 6 55 yX9_init cX9_init 1 a (E ++ [.inr (9, fr9)]) (E ++ bkY.map (zc G)) := by
  subst he
  refine bCT_of (by decide) rfl (by decide) (fun X hl hG hX hb hI hRc hRs hr => ?_)
  subst hG
  subst hl
  refine bw_aload_n hX dX9_init_0 rfl ?_
  refine bw_obj hX ob_X9 (by omega) (Nat.le_of_ble_eq_true rfl) dX9_init_1 ?_
  have ha : X.G.ad 9 0 = X.G.sz + E.length := hq 0 _ rfl
  have hn0 : (E ++ [Sum.inr (9, fr9)]).length = E.length + 1 := by simp
  have hR : ([] : List va_E).length = 0 := rfl
  have hB := zSl_tl hq
  refine nv_sub (E0 := E) (b := X.G.ad 1 44) (gs := fr1) (mc := 5) (ms := 46) (N := 9) (B := (bkB 44).map (zc X.G)) hX hb hI hn0 hR rfl ha dX9_init_4 nc_X9_7 (fun j hj => by
      have h : j = 0 ∨ j = 1 ∨ j = 2 ∨ j = 3 ∨ j = 4 ∨ j = 5 ∨ j = 6 ∨ j = 7 ∨ j = 8 := by omega
      rcases h with rfl | rfl | rfl | rfl | rfl | rfl | rfl | rfl | rfl <;> rfl) dX9_init_5 (by have h : X.G.ad 1 44 = _ := hB 0 _ rfl; omega) dX9_init_8 ic_X9_9 (by decide) (bc_X1 (zSl_at hB (by rw [List.length_append, List.length_cons, hR] <;> omega)) rfl) dX9_init_9 kF_X9_10 (Nat.le_of_ble_eq_true rfl) dX9_init_12 (by omega) (by omega) rfl (fun hR => ?_)
  refine bw_ret hX hr rfl rfl ?_ dX9_init_15
  simp [bkY, bkB, zc, zcell, sh_9, zflds, zfld, zarr, fr9]
def bkK (o : Nat) : List (Nat × Nat) := (3, o) :: (bkC (o + 2) ++ bkB (o + 45))
def fr3 : List Value := [.int 0, .null, .null]
set_option maxHeartbeats 1000000 in
theorem bc_X3 {a : Nat} (hq : zSl G E.length (bkK o)) (he : a = G.ad 3 o) : bCT l G 3 24 194 yX3_init cX3_init 1 a (E ++ [.inr (3, fr3)]) (E ++ (bkK o).map (zc G)) := by
  subst he
  refine bCT_of (by decide) rfl (by decide) (fun X hl hG hX hb hI hRc hRs hr => ?_)
  subst hG
  subst hl
  refine bw_aload_n hX dX3_init_0 rfl ?_
  refine bw_obj hX ob_X3 (by omega) (Nat.le_of_ble_eq_true rfl) dX3_init_1 ?_
  have ha : X.G.ad 3 o = X.G.sz + E.length := hq 0 _ rfl
  have hn0 : (E ++ [Sum.inr (3, fr3)]).length = E.length + 1 := by simp
  have hR : ([] : List va_E).length = 0 := rfl
  obtain ⟨hC, hB⟩ := zSl_app (zSl_tl hq)
  have hB : zSl X.G (E.length + 1 + 18) (bkB (o + 45)) := hB
  refine nv_sub (E0 := E) (b := X.G.ad 2 (o + 2)) (gs := fr2) (mc := 17) (ms := 128) (N := 11) (B := (bkC (o + 2)).map (zc X.G)) hX hb hI hn0 hR rfl ha dX3_init_4 nc_X3_7 (fun j hj => by
      have h : j = 0 ∨ j = 1 ∨ j = 2 ∨ j = 3 ∨ j = 4 ∨ j = 5 ∨ j = 6 ∨ j = 7 ∨ j = 8 ∨ j = 9 ∨ j = 10 := by omega
      rcases h with rfl | rfl | rfl | rfl | rfl | rfl | rfl | rfl | rfl | rfl | rfl <;> rfl) dX3_init_5 (by have h : X.G.ad 2 (o + 2) = _ := hC 0 _ rfl; omega) dX3_init_8 ic_X3_9 (by decide) (bc_X2 (zSl_at hC (by rw [List.length_append, List.length_cons, hR] <;> omega)) rfl) dX3_init_9 kF_X3_10 (Nat.le_of_ble_eq_true rfl) dX3_init_12 (by omega) (by omega) rfl (fun hR => ?_)
  refine nv_sub (E0 := E) (b := X.G.ad 1 (o + 45)) (gs := fr1) (mc := 5) (ms := 46) (N := 9) (B := (bkB (o + 45)).map (zc X.G)) hX hb hI hn0 hR rfl ha dX3_init_15 nc_X3_16 (fun j hj => by
      have h : j = 0 ∨ j = 1 ∨ j = 2 ∨ j = 3 ∨ j = 4 ∨ j = 5 ∨ j = 6 ∨ j = 7 ∨ j = 8 := by omega
      rcases h with rfl | rfl | rfl | rfl | rfl | rfl | rfl | rfl | rfl <;> rfl) dX3_init_16 (by have h : X.G.ad 1 (o + 45) = _ := hB 0 _ rfl; omega) dX3_init_19 ic_X3_18 (by decide) (bc_X1 (zSl_at hB (by rw [List.length_append, List.length_cons, hR] <;> omega)) rfl) dX3_init_20 kF_X3_19 (Nat.le_of_ble_eq_true rfl) dX3_init_23 (by omega) (by omega) rfl (fun hR => ?_)
  refine bw_ret hX hr rfl rfl ?_ dX3_init_26
  simp [bkK, zc, zcell, sh_3, zflds, zfld, zarr, fr3]
end K3
