section K5
variable {l : Launch} {G : zG} {E : List va_E} {o : Nat}
def bkR : List (Nat × Nat) := (10, 0) :: ((((((bkL ++ bkC 0) ++ bkB 0) ++ bkP) ++ (34, 0) :: (List.range 4).flatMap bkK) ++ bkA) ++ bkY)
def fr10 : List Value := [.null, .null, .null, .null, .null, .null, .null]
def vsK (G : zG) (o : Nat) : List Value := zflds G o (fun _ => 0) (fun _ => 0) 0 [(0, 0, 0, 0), (2, 2, 1, 2), (2, 1, 1, 45)]
theorem bk_len : bkL.length = 27 ∧ (bkC 0).length = 18 ∧ (bkB 0).length = 6 ∧ bkP.length = 182 ∧ ((List.range 4).flatMap bkK).length = 100 ∧ bkA.length = 81 ∧ bkY.length = 7 := by decide +kernel
set_option maxHeartbeats 4000000 in
set_option maxRecDepth 10000 in
theorem bc_X10 (hE : zHas G) {a : Nat} (hq : zSl G E.length bkR) (he : a = G.ad 10 0) : bCT l G 4 422 8695 yX10_init cX10_init 2 a (E ++ [.inr (10, fr10)]) (E ++ bkR.map (zc G)) := by
  subst he
  refine bCT_of (by decide) rfl (by decide) (fun X hl hG hX hb hI hRc hRs hr => ?_)
  subst hG
  subst hl
  refine bw_aload_n hX dX10_init_0 rfl ?_
  refine bw_obj hX ob_X10 (by omega) (Nat.le_of_ble_eq_true rfl) dX10_init_1 ?_
  have ha : X.G.ad 10 0 = X.G.sz + E.length := hq 0 _ rfl
  have hn0 : (E ++ [Sum.inr (10, fr10)]).length = E.length + 1 := by simp
  have hR : ([] : List va_E).length = 0 := rfl
  obtain ⟨b1, b2, b3, b4, b5, b6, b7⟩ := bk_len
  obtain ⟨h1, hY⟩ := zSl_app (zSl_tl hq)
  obtain ⟨h2, hA⟩ := zSl_app h1
  obtain ⟨h3, hM⟩ := zSl_app h2
  obtain ⟨h4, hP⟩ := zSl_app h3
  obtain ⟨h5, hB⟩ := zSl_app h4
  obtain ⟨hL, hC⟩ := zSl_app h5
  have hC : zSl X.G (E.length + 1 + 27) (bkC 0) := zSl_at hC (by rw [b1])
  have hB : zSl X.G (E.length + 1 + 45) (bkB 0) := zSl_at hB (by rw [List.length_append, b1, b2])
  have hP : zSl X.G (E.length + 1 + 51) bkP := zSl_at hP (by rw [List.length_append, List.length_append, b1, b2, b3])
  have hM : zSl X.G (E.length + 1 + 233) ((34, 0) :: (List.range 4).flatMap bkK) := zSl_at hM (by rw [List.length_append, List.length_append, List.length_append, b1, b2, b3, b4])
  have hA : zSl X.G (E.length + 1 + 334) bkA := zSl_at hA (by rw [List.length_append, List.length_append, List.length_append, List.length_append, List.length_cons, b1, b2, b3, b4, b5])
  have hY : zSl X.G (E.length + 1 + 415) bkY := zSl_at hY (by rw [List.length_append, List.length_append, List.length_append, List.length_append, List.length_append, List.length_cons, b1, b2, b3, b4, b5, b6])
  have hqK : ∀ i, i < 4 → zSl X.G (E.length + 1 + 234 + i * 25) (bkK i) := fun i hi => zSl_at (zSl_flat (F := bkK) (m := 25) (fun _ => rfl) hi (zSl_tl hM)) (by omega)
  refine nv_sub (E0 := E) (b := X.G.ad 6 0) (gs := fr6) (mc := 26) (ms := 5160) (N := 6) (B := bkL.map (zc X.G)) hX hb hI hn0 hR rfl ha dX10_init_4 nc_X10_7 (fun j hj => by
      have h : j = 0 ∨ j = 1 ∨ j = 2 ∨ j = 3 ∨ j = 4 ∨ j = 5 := by omega
      rcases h with rfl | rfl | rfl | rfl | rfl | rfl <;> rfl) dX10_init_5 (by have h : X.G.ad 6 0 = _ := hL 0 _ rfl; omega) dX10_init_8 ic_X10_9 (by decide) (bc_X6 hE (zSl_at hL (by rw [List.length_append, List.length_cons, hR] <;> omega)) rfl) dX10_init_9 kF_X10_10 (Nat.le_of_ble_eq_true rfl) dX10_init_12 (by omega) (by omega) rfl (fun hR => ?_)
  refine nv_sub (E0 := E) (b := X.G.ad 2 0) (gs := fr2) (mc := 17) (ms := 128) (N := 11) (B := (bkC 0).map (zc X.G)) hX hb hI hn0 hR rfl ha dX10_init_15 nc_X10_16 (fun j hj => by
      have h : j = 0 ∨ j = 1 ∨ j = 2 ∨ j = 3 ∨ j = 4 ∨ j = 5 ∨ j = 6 ∨ j = 7 ∨ j = 8 ∨ j = 9 ∨ j = 10 := by omega
      rcases h with rfl | rfl | rfl | rfl | rfl | rfl | rfl | rfl | rfl | rfl | rfl <;> rfl) dX10_init_16 (by have h : X.G.ad 2 0 = _ := hC 0 _ rfl; omega) dX10_init_19 ic_X10_18 (by decide) (bc_X2 (zSl_at hC (by rw [List.length_append, List.length_cons, hR] <;> omega)) rfl) dX10_init_20 kF_X10_19 (Nat.le_of_ble_eq_true rfl) dX10_init_23 (by omega) (by omega) rfl (fun hR => ?_)
  refine nv_sub (E0 := E) (b := X.G.ad 1 0) (gs := fr1) (mc := 5) (ms := 46) (N := 9) (B := (bkB 0).map (zc X.G)) hX hb hI hn0 hR rfl ha dX10_init_26 nc_X10_23 (fun j hj => by
      have h : j = 0 ∨ j = 1 ∨ j = 2 ∨ j = 3 ∨ j = 4 ∨ j = 5 ∨ j = 6 ∨ j = 7 ∨ j = 8 := by omega
      rcases h with rfl | rfl | rfl | rfl | rfl | rfl | rfl | rfl | rfl <;> rfl) dX10_init_27 (by have h : X.G.ad 1 0 = _ := hB 0 _ rfl; omega) dX10_init_30 ic_X10_25 (by decide) (bc_X1 (zSl_at hB (by rw [List.length_append, List.length_cons, hR] <;> omega)) rfl) dX10_init_31 kF_X10_26 (Nat.le_of_ble_eq_true rfl) dX10_init_34 (by omega) (by omega) rfl (fun hR => ?_)
  refine nv_sub (E0 := E) (b := X.G.ad 4 0) (gs := fr4) (mc := 181) (ms := 1680) (N := 3) (B := bkP.map (zc X.G)) hX hb hI hn0 hR rfl ha dX10_init_37 nc_X10_30 (fun j hj => by
      have h : j = 0 ∨ j = 1 ∨ j = 2 := by omega
      rcases h with rfl | rfl | rfl <;> rfl) dX10_init_38 (by have h : X.G.ad 4 0 = _ := hP 0 _ rfl; omega) dX10_init_41 ic_X10_32 (by decide) (bc_X4 (zSl_at hP (by rw [List.length_append, List.length_cons, hR] <;> omega)) rfl) dX10_init_42 kF_X10_33 (Nat.le_of_ble_eq_true rfl) dX10_init_45 (by omega) (by omega) rfl (fun hR => ?_)
  refine nv_arq (E0 := E) (n := 4) (N := 4) (b := X.G.ad 34 0) (t := 6) hX hb hI hn0 hR rfl ha dX10_init_48 (fun k => bw_iconst hX dX10_init_49 zk_4 k) na_X10_37 hb.2.2.2.2.1 rfl (by decide) (by decide) (by decide) dX10_init_50 (by have h : X.G.ad 34 0 = _ := hM 0 _ rfl; omega) kF_X10_39 (Nat.le_of_ble_eq_true rfl) dX10_init_53 (by omega) (by omega) ?_
  have hR1 := hR
  refine bw_iconst hX dX10_init_56 zk_0 ?_
  refine bw_istore_n (L' := [some (.ref _), some (.int (nI 0))]) hX dX10_init_57 (Nat.le_of_ble_eq_true rfl) rfl ?_
  refine nv_loop (E0 := E) (R0 := ([] ++ bkL.map (zc X.G) ++ (bkC 0).map (zc X.G) ++ (bkB 0).map (zc X.G) ++ bkP.map (zc X.G))) (c0 := 234) (s0 := 7047) (pcA := 58) (pcB := 63) (pcE := 82) (n := 4) (mc := 24) (ms := 194) (N := 3) (t := 6) (b := X.G.ad 34 0) (g := fun k => X.G.ad 3 k) (Bk := fun i => (bkK i).map (zc X.G)) (vs := fun i => vsK X.G i) (gs := fr3) (fs := [.ref (X.G.ad 6 0), .ref (X.G.ad 2 0), .ref (X.G.ad 1 0), .ref (X.G.ad 4 0), .ref (X.G.ad 34 0), .null, .null]) hX hb hn0 (by rw [hR1]) ha (by decide) (fun i E ce sl hi k1 k2 => by
      refine bw_iload_n hX dX10_init_58 rfl ?_
      refine bw_iconst hX dX10_init_59 zk_4 ?_
      refine bw_icmp_ge (tgt := 82) hX dX10_init_60 (by decide) (fun h => ?_) (fun h => ?_)
      · refine k2 ?_
        rcases Nat.lt_or_ge i 4 with q | q
        · exact absurd h (nI_ge q (by decide))
        · omega
      · refine k1 ?_
        rcases Nat.lt_or_ge i 4 with q | q
        · exact q
        · exact absurd (nI_le (a := 4) q (by omega)) h) dX10_init_63 kf_X10_39 rfl dX10_init_64 dX10_init_67 nc_X10_37 (fun j hj => by
      have h : j = 0 ∨ j = 1 ∨ j = 2 := by omega
      rcases h with rfl | rfl | rfl <;> rfl) dX10_init_68 (fun i hi => by have h : X.G.ad 3 i = _ := hqK i hi 0 _ rfl; rw [h]; omega) dX10_init_71 (fun i E1 ce sl hi h1 h2 h3 h4 k => bw_call hX hb (by simp; omega) (by simp) ic_X10_43 (by decide) (bc_X3 (o := i) (zSl_at (hqK i hi) (by omega)) rfl) h3 h4 (Nat.le_of_ble_eq_true rfl) dX10_init_72 k) (by have h : X.G.ad 34 0 = _ := hM 0 _ rfl; rw [hR1]; omega) rfl (fun i => rfl) (fun i => rfl) dX10_init_75 (by omega) (by omega) (fun i E ce sl hi k => by
      refine bw_iinc (v := nI (i + 1)) (L' := [some (.ref _), some (.int (nI (i + 1)))]) hX dX10_init_76 rfl (nI_succ i).symm (Nat.le_of_ble_eq_true rfl) rfl ?_
      exact bw_goto (tgt := 58) hX dX10_init_79 (by decide) k) ?_ 4 0 rfl
  refine nv_row ?_
  have hR : (([] ++ bkL.map (zc X.G) ++ (bkC 0).map (zc X.G) ++ (bkB 0).map (zc X.G) ++ bkP.map (zc X.G)) ++ Sum.inl (X.G.cA 6, 4, .inr (.inr (.inr (.inr (fun k => some (X.G.ad 3 k)))))) :: (List.range 4).flatMap (fun i => (bkK i).map (zc X.G)) : List va_E).length = 234 + 4 * (24 + 1) := by
    rw [List.length_append, List.length_cons, hR1, flat_len (m := 25) (fun _ => rfl)]
  refine nv_sub (E0 := E) (b := X.G.ad 0 0) (gs := fr0) (mc := 80) (ms := 792) (N := 7) (B := bkA.map (zc X.G)) hX hb hI hn0 hR rfl ha dX10_init_82 nc_X10_44 (fun j hj => by
      have h : j = 0 ∨ j = 1 ∨ j = 2 ∨ j = 3 ∨ j = 4 ∨ j = 5 ∨ j = 6 := by omega
      rcases h with rfl | rfl | rfl | rfl | rfl | rfl | rfl <;> rfl) dX10_init_83 (by have h : X.G.ad 0 0 = _ := hA 0 _ rfl; omega) dX10_init_86 ic_X10_46 (by decide) (bc_X0 (zSl_at hA (by rw [List.length_append, List.length_cons, hR] <;> omega)) rfl) dX10_init_87 kF_X10_47 (Nat.le_of_ble_eq_true rfl) dX10_init_90 (by omega) (by omega) rfl (fun hR => ?_)
  refine nv_sub (E0 := E) (b := X.G.ad 9 0) (gs := fr9) (mc := 6) (ms := 55) (N := 6) (B := bkY.map (zc X.G)) hX hb hI hn0 hR rfl ha dX10_init_93 nc_X10_51 (fun j hj => by
      have h : j = 0 ∨ j = 1 ∨ j = 2 ∨ j = 3 ∨ j = 4 ∨ j = 5 := by omega
      rcases h with rfl | rfl | rfl | rfl | rfl | rfl <;> rfl) dX10_init_94 (by have h : X.G.ad 9 0 = _ := hY 0 _ rfl; omega) dX10_init_97 ic_X10_53 (by decide) (bc_X9 (zSl_at hY (by rw [List.length_append, List.length_cons, hR] <;> omega)) rfl) dX10_init_98 kF_X10_54 (Nat.le_of_ble_eq_true rfl) dX10_init_101 (by omega) (by omega) rfl (fun hR => ?_)
  refine bw_ret hX hr rfl rfl ?_ dX10_init_104
  simp [bkR, zc, zcell, sh_10, sh_34, zflds, zfld, zarr, fr10, List.map_flatMap]
end K5
