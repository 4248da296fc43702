theorem rowF_up2 (g : Nat → Nat) {i : Nat} (hi : i < 2 ^ 31) : va_up (rowF g i) (nI i).toNatClampNeg (some (g i)) = rowF g (i + 1) := by
  rw [nI_clamp hi]
  funext k
  simp only [va_up, rowF]
  by_cases h : k = i
  · subst h; simp
  · rw [if_neg h]
    by_cases h2 : k < i
    · rw [if_pos h2, if_pos (by omega)]
    · rw [if_neg h2, if_neg (by omega)]
section K4
variable {l : Launch} {G : zG} {E : List va_E} {o : Nat}
def bkT : List (Nat × Nat) := [(5, 0), (27, 0), (28, 0), (29, 0), (30, 0), (31, 0)]
def fr5 : List Value := [.int 0, .int 0, .null, .null, .null, .null, .null]
set_option maxHeartbeats 1000000 in
theorem bc_X5 (hE : zHas G) {a : Nat} (hq : zSl G E.length bkT) (he : a = G.ad 5 0) : bCT l G 1 5 5004 yX5_init cX5_init 2 a (E ++ [.inr (5, fr5)]) (E ++ bkT.map (zc G)) := by
  subst he
  refine bCT_of (by decide) rfl (by decide) (fun X hl hG hX hb hI hRc hRs hr => ?_)
  subst hG
  subst hl
  refine bw_aload_n hX dX5_init_0 rfl ?_
  refine bw_obj hX ob_X5 (by omega) (Nat.le_of_ble_eq_true rfl) dX5_init_1 ?_
  have ha : X.G.ad 5 0 = X.G.sz + E.length := hq 0 _ rfl
  have hn0 : (E ++ [Sum.inr (5, fr5)]).length = E.length + 1 := by simp
  have hR : ([] : List va_E).length = 0 := rfl
  refine nv_arr (E0 := E) (n := 1000) (N := 1000) (b := X.G.ad 27 0) (t := 2) (a0 := a0i 1000) hX hb hI hn0 hR rfl ha dX5_init_4 (fun k => bw_sipush hX dX5_init_5 zs_1000 k) ac_char rfl rfl (a0_char 1000) (by decide) (by decide) (by decide) dX5_init_8 (by have h : X.G.ad 27 0 = _ := hq 1 _ rfl; omega) kF_X5_9 (Nat.le_of_ble_eq_true rfl) dX5_init_10 (by omega) (by omega) (fun hR => ?_)
  refine nv_arr (E0 := E) (n := 1001) (N := 1001) (b := X.G.ad 28 0) (t := 0) (a0 := a0i 1001) hX hb hI hn0 hR rfl ha dX5_init_13 (fun k => bw_sipush hX dX5_init_14 zs_1001 k) ac_int rfl rfl (a0_int 1001) (by decide) (by decide) (by decide) dX5_init_17 (by have h : X.G.ad 28 0 = _ := hq 2 _ rfl; omega) kF_X5_15 (Nat.le_of_ble_eq_true rfl) dX5_init_19 (by omega) (by omega) (fun hR => ?_)
  refine nv_arr (E0 := E) (n := 1001) (N := 1001) (b := X.G.ad 29 0) (t := 0) (a0 := a0i 1001) hX hb hI hn0 hR rfl ha dX5_init_22 (fun k => bw_sipush hX dX5_init_23 zs_1001 k) ac_int rfl rfl (a0_int 1001) (by decide) (by decide) (by decide) dX5_init_26 (by have h : X.G.ad 29 0 = _ := hq 3 _ rfl; omega) kF_X5_19 (Nat.le_of_ble_eq_true rfl) dX5_init_28 (by omega) (by omega) (fun hR => ?_)
  refine nv_arq (E0 := E) (n := 1001) (N := 1001) (b := X.G.ad 30 0) (t := 7) hX hb hI hn0 hR rfl ha dX5_init_31 (fun k => bw_sipush hX dX5_init_32 zs_1001 k) na_X5_22 hb.2.2.2.2.2 rfl (by decide) (by decide) (by decide) dX5_init_35 (by have h : X.G.ad 30 0 = _ := hq 4 _ rfl; omega) kF_X5_24 (Nat.le_of_ble_eq_true rfl) dX5_init_38 (by omega) (by omega) ?_
  refine bw_iconst hX dX5_init_41 zk_0 ?_
  refine bw_istore_n (L' := [some (.ref _), some (.int (nI 0))]) hX dX5_init_42 (Nat.le_of_ble_eq_true rfl) rfl ?_
  have a30 : X.G.ad 30 0 = X.G.sz + (E.length + 4) := hq 4 _ rfl
  have loop : ∀ m i, m + i = 1001 → NW X 43 [some (.ref (X.G.ad 5 0)), some (.int (nI i))] [] (E ++ .inr (5, [.int 0, .int 0, .ref (X.G.ad 27 0), .ref (X.G.ad 28 0), .ref (X.G.ad 29 0), .ref (X.G.ad 30 0), .null]) :: ([.inl (X.G.cA 2, a0i 1000), .inl (X.G.cA 0, a0i 1001), .inl (X.G.cA 0, a0i 1001)] ++ .inl (X.G.cA 7, 1001, .inr (.inr (.inr (.inr (rowF (fun _ => X.G.aw 0) i))))) :: [])) 4 4003 := by
    intro m
    induction m with
    | zero =>
      intro i hi
      have e : i = 1001 := by omega
      subst e
      refine bw_iload_n hX dX5_init_43 rfl ?_
      refine bw_sipush hX dX5_init_44 zs_1000 ?_
      refine bw_icmp_gt (tgt := 65) hX dX5_init_47 (by decide) (fun h => ?_) (fun h => absurd (nI_lt (a := 1000) (b := 1001) (by decide) (by decide)) h)
      refine nv_row ?_
      have hR : ([Sum.inl (X.G.cA 2, a0i 1000), Sum.inl (X.G.cA 0, a0i 1001), Sum.inl (X.G.cA 0, a0i 1001)] ++ Sum.inl (X.G.cA 7, 1001, .inr (.inr (.inr (.inr (fun _ => some (X.G.aw 0)))))) :: [] : List va_E).length = 4 := rfl
      refine nv_arr (E0 := E) (n := 1001) (N := 1001) (b := X.G.ad 31 0) (t := 1) (a0 := a0l 1001) hX hb hI hn0 hR rfl ha dX5_init_65 (fun k => bw_sipush hX dX5_init_66 zs_1001 k) ac_long rfl rfl (a0_long 1001) (by decide) (by decide) (by decide) dX5_init_69 (by have h : X.G.ad 31 0 = _ := hq 5 _ rfl; omega) kF_X5_32 (Nat.le_of_ble_eq_true rfl) dX5_init_71 (by omega) (by omega) (fun hR => ?_)
      refine bw_ret hX hr rfl rfl ?_ dX5_init_74
      simp [bkT, zc, zcell, sh_5, sh_27, sh_28, sh_29, sh_30, sh_31, zflds, zfld, zarr, a0i, a0l]
    | succ m ih =>
      intro i hi
      refine bw_iload_n hX dX5_init_43 rfl ?_
      refine bw_sipush hX dX5_init_44 zs_1000 ?_
      refine bw_icmp_gt (tgt := 65) hX dX5_init_47 (by decide) (fun h => absurd h (nI_nlt (b := i) (a := 1000) (by omega) (by decide))) (fun h => ?_)
      refine bw_aload_n hX dX5_init_50 rfl ?_
      refine bw_get hX kf_X5_24 (n_at _ _ _) ha rfl dX5_init_51 ?_
      refine bw_iload_n hX dX5_init_54 rfl ?_
      refine bw_gsE (i := 0) (n := "NO_WORD") hE hX (by decide) (by decide) ks_X5_28 dX5_init_55 ?_
      have e : ∀ (x y : va_E) (R0 : List va_E), E ++ x :: (R0 ++ y :: []) = (E ++ x :: R0) ++ y :: [] := fun x y R0 => by simp
      rw [e]
      refine bw_astW (w := 0) hE hX (by decide) (n_at _ _ _) (by rw [a30]; simp) (vp_in_nI (show i < 1001 by omega) (by decide)) dX5_init_58 (n_set _ _ _ _) ?_
      rw [rowF_up2 (fun _ => X.G.aw 0) (by omega), ← e]
      refine bw_iinc (v := nI (i + 1)) (L' := [some (.ref _), some (.int (nI (i + 1)))]) hX dX5_init_59 rfl (nI_succ i).symm (Nat.le_of_ble_eq_true rfl) rfl ?_
      exact bw_goto (tgt := 43) hX dX5_init_62 (by decide) (ih (i + 1) (by omega))
  exact loop 1001 0 rfl
def bkL : List (Nat × Nat) := (6, 0) :: ((bkT ++ bkC 1) ++ [(32, 0), (33, 0)])
def fr6 : List Value := [.null, .null, .int 0, .int 0, .null, .null]
set_option maxHeartbeats 1000000 in
theorem bc_X6 (hE : zHas G) {a : Nat} (hq : zSl G E.length bkL) (he : a = G.ad 6 0) : bCT l G 3 26 5160 yX6_init cX6_init 1 a (E ++ [.inr (6, fr6)]) (E ++ bkL.map (zc G)) := by
  subst he
  refine bCT_of (by decide) rfl (by decide) (fun X hl hG hX hb hI hRc hRs hr => ?_)
  subst hG
  subst hl
  refine bw_aload_n hX dX6_init_0 rfl ?_
  refine bw_obj hX ob_X6 (by omega) (Nat.le_of_ble_eq_true rfl) dX6_init_1 ?_
  have ha : X.G.ad 6 0 = X.G.sz + E.length := hq 0 _ rfl
  have hn0 : (E ++ [Sum.inr (6, fr6)]).length = E.length + 1 := by simp
  have hR : ([] : List va_E).length = 0 := rfl
  obtain ⟨hT, hC⟩ := zSl_app (zSl_app (zSl_tl hq)).1
  have hC : zSl X.G (E.length + 1 + 6) (bkC 1) := hC
  refine nv_sub (E0 := E) (b := X.G.ad 5 0) (gs := fr5) (mc := 5) (ms := 5004) (N := 7) (B := bkT.map (zc X.G)) hX hb hI hn0 hR rfl ha dX6_init_4 nc_X6_9 (fun j hj => by
      have h : j = 0 ∨ j = 1 ∨ j = 2 ∨ j = 3 ∨ j = 4 ∨ j = 5 ∨ j = 6 := by omega
      rcases h with rfl | rfl | rfl | rfl | rfl | rfl | rfl <;> rfl) dX6_init_5 (by have h : X.G.ad 5 0 = _ := hT 0 _ rfl; omega) dX6_init_8 ic_X6_11 (by decide) (bc_X5 hE (zSl_at hT (by rw [List.length_append, List.length_cons, hR] <;> omega)) rfl) dX6_init_9 kF_X6_12 (Nat.le_of_ble_eq_true rfl) dX6_init_12 (by omega) (by omega) rfl (fun hR => ?_)
  refine nv_sub (E0 := E) (b := X.G.ad 2 1) (gs := fr2) (mc := 17) (ms := 128) (N := 11) (B := (bkC 1).map (zc X.G)) hX hb hI hn0 hR rfl ha dX6_init_15 nc_X6_18 (fun j hj => by
      have h : j = 0 ∨ j = 1 ∨ j = 2 ∨ j = 3 ∨ j = 4 ∨ j = 5 ∨ j = 6 ∨ j = 7 ∨ j = 8 ∨ j = 9 ∨ j = 10 := by omega
      rcases h with rfl | rfl | rfl | rfl | rfl | rfl | rfl | rfl | rfl | rfl | rfl <;> rfl) dX6_init_16 (by have h : X.G.ad 2 1 = _ := hC 0 _ rfl; omega) dX6_init_19 ic_X6_20 (by decide) (bc_X2 (zSl_at hC (by rw [List.length_append, List.length_cons, hR] <;> omega)) rfl) dX6_init_20 kF_X6_21 (Nat.le_of_ble_eq_true rfl) dX6_init_23 (by omega) (by omega) rfl (fun hR => ?_)
  refine nv_arr (E0 := E) (n := 4) (N := 4) (b := X.G.ad 32 0) (t := 1) (a0 := a0l 4) hX hb hI hn0 hR rfl ha dX6_init_26 (fun k => bw_iconst hX dX6_init_27 zk_4 k) ac_long rfl rfl (a0_long 4) (by decide) (by decide) (by decide) dX6_init_28 (by have h : X.G.ad 32 0 = _ := hq 25 _ rfl; omega) kF_X6_25 (Nat.le_of_ble_eq_true rfl) dX6_init_30 (by omega) (by omega) (fun hR => ?_)
  refine nv_arr (E0 := E) (n := 6) (N := 6) (b := X.G.ad 33 0) (t := 1) (a0 := a0l 6) hX hb hI hn0 hR rfl ha dX6_init_33 (fun k => bw_bipush hX dX6_init_34 zb_6 k) ac_long rfl rfl (a0_long 6) (by decide) (by decide) (by decide) dX6_init_36 (by have h : X.G.ad 33 0 = _ := hq 26 _ rfl; omega) kF_X6_29 (Nat.le_of_ble_eq_true rfl) dX6_init_38 (by omega) (by omega) (fun hR => ?_)
  refine bw_ret hX hr rfl rfl ?_ dX6_init_41
  simp [bkL, zc, zcell, sh_6, sh_32, sh_33, zflds, zfld, zarr, fr6, a0l]
end K4
