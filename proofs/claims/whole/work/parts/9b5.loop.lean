/-! THE LAW'S LOOP, and its end (lw_ret: from the printed skeleton) -/
theorem lw_ret {p : Program} {l : Launch} {e : Env} {s : State} {m : MethodId} {below : List Frame} {meth : Method} {c : Code} {b : Nat} (hx : p.tables.exec = Jvm.exec) (hb : c.code = code) (hr : meth.sig.returnType = ret) (hlocks : meth.locks = false) {pc : Nat} {H : Heap} {ls : Array Slot} (hdg : decode code pc = .ok (.ireturn, 1)) : W p l e room_1 s m #[Value.ref b] below meth c H [] 601024 7293034 (lw_Z below #[Value.ref b] s) (F0 m pc ls [.int 1]) := by
  intro T hT X
  obtain ⟨fs, hret, hrun, hended, hW, hframe⟩ := X.leave (v := some (.int 1)) (hlocks := hlocks) (fun h => by rw [hr] at h; cases h)
  have hmeth' : T.vm.method? m = some meth := X.method'
  refine ⟨T.setFrames fs, ?_, .returned (some (.int 1)), hrun, hended, rfl, ⟨_, rfl⟩, hW, hframe⟩
  jvm_step X.here [X.here.top, hx, hb, hdg, hmeth', hr, ret, narrow_b1]
  (try refine ⟨rfl, ?_⟩); (try refine ⟨rfl, ?_⟩)
  first | (intro acts; rw [hret _ acts rfl rfl rfl]) | rw [hret _ _ rfl rfl rfl]
  exact Steps.refl _
theorem aw_end {X : zX} {b Ln : Nat} {xs : Nat → Int32} {L : List (Option Value)} {μ : zM} (hw : lwX X b Ln xs) (hce : X.ce ≤ 601024) (hsl : X.sl ≤ 7293034) : AW X 1031 L [] μ := by
  refine aw_iconst hw.1 dL_law_1031 zk_1 ?_
  intro hn H locs ls hW hS hl
  obtain ⟨hX, hR, hQ, hA, hret, -, -, -, -, hsz⟩ := hw
  rw [hQ, hR, hA]
  refine va_forget (fun q hq => ?_) (W.widen (k := 601024) (n := 7293034) hce hsl (lw_ret hX.1 hX.2.1 hret hX.2.2.2.2.2.2.2.1 dL_law_1032))
  have := hS.2.2 q hq
  have this : X.G.sz ≤ q.base := this
  omega
theorem len7 {n : Nat} (h : n ≤ 3584) : (nI n - 7).toInt = (n : Int) - 7 := by
  rw [Int32.toInt_sub, nI_toInt (by omega)]
  rw [show (7 : Int32).toInt = 7 from rfl]
  apply Int.bmod_eq_of_le <;> omega
set_option maxHeartbeats 1000000 in
theorem law_loop {b Ln : Nat} {xs : Nat → Int32} (hLn : Ln ≤ 3584) : ∀ (m k : Nat) (X : zX) (μ : zM), lwX X b Ln xs → 7 * k ≤ Ln → Ln < 7 * k + 7 * m → Rel (10000 + 990 * (k : Int)) μ → X.ce ≤ 1000 + k → X.sl ≤ 30000 + 6 * k → AW X 23 (LL X b (7 * k)) [] μ := by
  intro m
  induction m with
  | zero => intro k X μ hw h1 h2; omega
  | succ m ih =>
    intro k X μ hw h1 h2 hR hce hsl
    have hX := hw.1
    refine aw_iload hX dL_law_23 rfl ?_
    refine aw_aload_n hX dL_law_25 rfl ?_
    refine aw_slen hw hX dL_law_26 ?_
    refine aw_bipush hX dL_law_27 zb_7 ?_
    refine aw_isub hX dL_law_29 ?_
    refine aw_icmp_gt (tgt := 1031) hX dL_law_30 (by decide) (fun h => aw_end hw (by omega) (by omega)) (fun h => ?_)
    have hk : 7 * k + 7 ≤ Ln := by
      rw [Int32.lt_iff_toInt_lt, len7 hLn, nI_toInt (by omega)] at h
      omega
    have nx : ∀ (c s : Nat) (μ' : zM), c ≤ X.ce + 1 → s ≤ X.sl + 6 → Rel ((10000 + 990 * (k : Int)) + 990) μ' → AW (X.at c s) 1025 (LL X b (7 * k)) [] μ' := by
      intro c s μ' hc hs hR2
      have hw2 := lwX_at hw (ce := c) (sl := s) (by omega) (by omega)
      refine aw_iinc (v := nI (7 * (k + 1))) (L' := LL X b (7 * (k + 1))) hw2.1 dL_law_1025 rfl (by rw [show 7 * (k + 1) = 7 * k + 7 by omega, ← nI_add]; rfl) (Nat.le_of_ble_eq_true rfl) rfl ?_
      refine aw_goto (tgt := 23) hw2.1 dL_law_1028 (by decide) ?_
      refine ih (k + 1) (X.at c s) μ' hw2 (by omega) (by omega) ?_ (by show c ≤ _; omega) (by show s ≤ _; omega)
      rw [show (10000 + 990 * ((k + 1 : Nat) : Int)) = (10000 + 990 * (k : Int)) + 990 by omega]
      exact hR2
    refine aw_aload_n hX dL_law_33 rfl ?_
    refine aw_iload hX dL_law_34 rfl ?_
    refine aw_sld hw hX (vp_in_nI (by omega) (by omega)) dL_law_36 ?_
    refine aw_bipush hX dL_law_37 zb_31 ?_
    refine aw_iand hX dL_law_39 ?_
    generalize xs (nI (7 * k)).toNatClampNeg &&& 31 = x
    by_cases hout : x.toInt < 0 ∨ 19 < x.toInt
    · exact aw_tabOut (tgt := 1025) hX dL_law_40 hout (by decide) (nx X.ce X.sl μ (by omega) (by omega) (Rel_up hR))
    · obtain ⟨n, hn, hx⟩ : ∃ n : Nat, n < 20 ∧ x.toInt = n := ⟨x.toInt.toNat, by omega, by omega⟩
      have hM0 : (10000 : Int) ≤ 10000 + 990 * (k : Int) := by omega
      have hM : 10000 + 990 * (k : Int) ≤ 600000 := by omega
      have hc1 : X.ce + 1 ≤ 601024 := by omega
      have hs1 : X.sl + 6 ≤ 7293034 := by omega
      have h20 : n = 0 ∨ n = 1 ∨ n = 2 ∨ n = 3 ∨ n = 4 ∨ n = 5 ∨ n = 6 ∨ n = 7 ∨ n = 8 ∨ n = 9 ∨ n = 10 ∨ n = 11 ∨ n = 12 ∨ n = 13 ∨ n = 14 ∨ n = 15 ∨ n = 16 ∨ n = 17 ∨ n = 18 ∨ n = 19 := by omega
      rcases h20 with rfl | rfl | rfl | rfl | rfl | rfl | rfl | rfl | rfl | rfl | rfl | rfl | rfl | rfl | rfl | rfl | rfl | rfl | rfl | rfl
      · exact aw_tabIn (tgt := 136) (off := 96) hX dL_law_40 (by omega) (by omega) (by rw [hx]; rfl) (by decide) (lc_feed hw hk hLn hR hM0 hM hc1 hs1 nx)
      · exact aw_tabIn (tgt := 283) (off := 243) hX dL_law_40 (by omega) (by omega) (by rw [hx]; rfl) (by decide) (lc_custom hw hk hLn hR hM0 hM hc1 hs1 nx)
      · exact aw_tabIn (tgt := 296) (off := 256) hX dL_law_40 (by omega) (by omega) (by rw [hx]; rfl) (by decide) (lc_hill hw hk hLn hR hM0 hM hc1 hs1 nx)
      · exact aw_tabIn (tgt := 333) (off := 293) hX dL_law_40 (by omega) (by omega) (by rw [hx]; rfl) (by decide) (lc_purse hw hk hLn hR hM0 hM hc1 hs1 nx)
      · exact aw_tabIn (tgt := 389) (off := 349) hX dL_law_40 (by omega) (by omega) (by rw [hx]; rfl) (by decide) (lc_loan hw hk hLn hR hM0 hM hc1 hs1 nx)
      · exact aw_tabIn (tgt := 426) (off := 386) hX dL_law_40 (by omega) (by omega) (by rw [hx]; rfl) (by decide) (lc_day hw hk hLn hR hM0 hM hc1 hs1 nx)
      · exact aw_tabIn (tgt := 451) (off := 411) hX dL_law_40 (by omega) (by omega) (by rw [hx]; rfl) (by decide) (lc_early hw hk hLn hR hM0 hM hc1 hs1 nx)
      · exact aw_tabIn (tgt := 476) (off := 436) hX dL_law_40 (by omega) (by omega) (by rw [hx]; rfl) (by decide) (lc_undo hw hk hLn hR hM0 hM hc1 hs1 nx)
      · exact aw_tabIn (tgt := 489) (off := 449) hX dL_law_40 (by omega) (by omega) (by rw [hx]; rfl) (by decide) (lc_ruined hw hk hLn hR hM0 hM hc1 hs1 nx)
      · exact aw_tabIn (tgt := 502) (off := 462) hX dL_law_40 (by omega) (by omega) (by rw [hx]; rfl) (by decide) (lc_has hw hk hLn hR hM0 hM hc1 hs1 nx)
      · exact aw_tabIn (tgt := 558) (off := 518) hX dL_law_40 (by omega) (by omega) (by rw [hx]; rfl) (by decide) (lc_worth hw hk hLn hR hM0 hM hc1 hs1 nx)
      · exact aw_tabIn (tgt := 608) (off := 568) hX dL_law_40 (by omega) (by omega) (by rw [hx]; rfl) (by decide) (lc_chance hw hk hLn hR hM0 hM hc1 hs1 nx)
      · exact aw_tabIn (tgt := 658) (off := 618) hX dL_law_40 (by omega) (by omega) (by rw [hx]; rfl) (by decide) (lc_better hw hk hLn hR hM0 hM hc1 hs1 nx)
      · exact aw_tabIn (tgt := 695) (off := 655) hX dL_law_40 (by omega) (by omega) (by rw [hx]; rfl) (by decide) (lc_fits hw hk hLn hR hM0 hM hc1 hs1 nx)
      · exact aw_tabIn (tgt := 744) (off := 704) hX dL_law_40 (by omega) (by omega) (by rw [hx]; rfl) (by decide) (lc_fit hw hk hLn hR hM0 hM hc1 hs1 nx)
      · exact aw_tabIn (tgt := 805) (off := 765) hX dL_law_40 (by omega) (by omega) (by rw [hx]; rfl) (by decide) (lc_gain hw hk hLn hR hM0 hM hc1 hs1 nx)
      · exact aw_tabIn (tgt := 873) (off := 833) hX dL_law_40 (by omega) (by omega) (by rw [hx]; rfl) (by decide) (lc_sure hw hk hLn hR hM0 hM hc1 hs1 nx)
      · exact aw_tabIn (tgt := 898) (off := 858) hX dL_law_40 (by omega) (by omega) (by rw [hx]; rfl) (by decide) (lc_lots hw hk hLn hR hM0 hM hc1 hs1 nx)
      · exact aw_tabIn (tgt := 947) (off := 907) hX dL_law_40 (by omega) (by omega) (by rw [hx]; rfl) (by decide) (lc_mark hw hk hLn hR hM0 hM hc1 hs1 nx)
      · exact aw_tabIn (tgt := 1000) (off := 960) hX dL_law_40 (by omega) (by omega) (by rw [hx]; rfl) (by decide) (lc_count hw hk hLn hR hM0 hM hc1 hs1 nx)
