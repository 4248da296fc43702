/-! a call that may throw, caught by the one row -/
abbrev zX.up (X : zX) : zX := (X.p, X.l, X.e, X.R, X.s, X.m, X.args, X.below, X.meth, X.c, X.G, 1, 6, X.Q)
section CL
variable {X : zX} {cc : ByteArray} {own : String} {nL lv pc : Nat} {L : List (Option Value)} {st : List Value} {μ : zM} {ret' : Option FieldType} {Post' : Option Value → zM → Prop} {hh : List (Nat × Nat × Nat × Nat)}
theorem up_ok (hX : zOk X cc own nL lv) (hr : zRw X ret' Post' hh) : zOk X.up cc own nL lv := by
  obtain ⟨h1, h2, h3, h4, h5, h6, h7, h8, h9, h10, h11⟩ := hX
  exact ⟨h1, h2, h3, h4, h5, h6, h7, h8, ⟨h9.1, h9.2.1, by show 1 ≤ X.R.cells; rw [hr.2.2.2.1.1]; exact Nat.le_refl _, by show 6 ≤ X.R.slots; rw [hr.2.2.2.1.2]; exact Nat.le_refl _⟩, h10, h11⟩
theorem up_rt (hr : zRw X ret' Post' hh) : zRt X.up ret' Post' := ⟨hr.1, hr.2.1⟩
theorem aw_callX (hX : zOk X cc own nL lv) (hr : zRw X ret' Post' hh) (hT : zThr X.G) {idx n κ o n1 ci N lv' maxL : Nat} {y : MethodName} {cb : ByteArray} {ret : Option FieldType} {As rest : List Value} {fds : List (Nat × Nat × Nat × Nat)} {T : u_T} {Post : Option Value → zM → Prop} {B : Prop} (lk : zCV own idx y cb maxL ret n) (hs : zzSh[κ]? = some (n1, .inr (ci, fds))) (ho : o < n1) (hc : zzCl[ci]? = some (y.cls, T, N))
    (hlv : lv' < lv) (hct : zCX X.l X.G lv' y cb maxL ret (.ref (X.G.ad κ o) :: As) μ Post B) (hlen : As.length = n) (hst : As.reverse ++ .ref (X.G.ad κ o) :: rest = st) (hr8 : (rest.map fun v => v.category).sum ≤ 8) (hd : decode cc pc = .ok (.invokevirtual idx, 3))
    {x : ExceptionTableEntry} (htab : tableOf hh = [x]) (hx : covers x pc = true) (h0 : x.catchType ≠ 0) (hlink : Cond.classLink own x.catchType nsE ∈ gw)
    (kk : ∀ (rv : Option Value) (μ' : zM), Post rv μ' → AW X.up (pc + 3) L (rv.toList ++ rest) μ') (kx : B → ∀ q : Nat, AW X.up x.handlerPc L [.ref q] μ) : AW X pc L st μ := by
  intro hn H locs ls hW hS hl
  subst hst
  obtain ⟨i, hi⟩ := zplace hs ho
  have he := zws_at (G := X.G) (μ := μ) hi
  rw [zat_obj hs] at he
  have hts := hX.2.2.2.2.1
  obtain ⟨w1, w2, w3, w4, w5, w6, w7⟩ := lk
  have hf := hX.2.2.2.2.2.2.2.2.1
  have hrun := vx_runV (Ts := gw) (C := y.cls) (n := n) (bytes := cb) (maxL := maxL) (ret := ret) (p := X.p) (l := X.l) (e := X.e) (R := X.R) (s := X.s) (m := X.m) (args := X.args) (below := X.below) (meth := X.meth) (c := X.c) (H := H) (locs := locs) (cells := X.ce) (slots := X.sl) (As := As) (rest := rest) (g := F0 X.m pc ls (As.reverse ++ .ref (X.G.ad κ o) :: rest)) ⟨hX.1, hX.2.1, hX.2.2.1, hX.2.2.2.1, hts⟩ hct ⟨callB_of n hts (zgood w5) rfl rfl rfl (hts _ w4) (hts _ w1) w7 ⟨Nat.le_trans hlv hf.1, by
      have := hf.2.1
      show 8 + (maxL + 11) + 100 * lv' ≤ X.R.locals
      omega⟩, hts _ w2, hts _ w3⟩
    ⟨zblind, va_recv hX.2.2.2.2.2.1 hW.1 hc he, fun U hU hw => ⟨rfl, zU_here hX hW hS hU hw⟩⟩ rfl hlen (by rw [← hX.2.2.1]; exact (zl_size hl).trans hn) rfl (lv_room hr8) hd ⟨by rw [hr.2.2.1.1, hr.2.2.2.1.1]; exact Nat.le_refl _, by rw [hr.2.2.1.2, hr.2.2.2.1.2]; exact Nat.le_refl _⟩
  intro T hT2 S
  have stay : ∀ {t T' : State} {L1 : List Loc} {st₀ : State}, st₀.heap = H → (∀ q ∈ L1, zA X.G q.base) → T'.heap = t.heap → va_F (zA X.G) st₀ t → va_S (zA X.G) X.s.heap T'.heap (locs ++ L1) := by
    intro t T' L1 st₀ a0 hL e1 ⟨hz, hk⟩
    rw [a0] at hz hk
    exact ⟨Nat.le_trans hS.1 (by rw [e1]; exact hz), fun q h1 h2 => by rw [e1, hk q (Nat.lt_of_lt_of_le h1 hS.1) h2]; exact hS.2.1 q h1 h2, fun q hq => by
      rcases List.mem_append.mp hq with h | h
      · exact hS.2.2 q h
      · exact hL q h⟩
  rcases hrun T hT2 S with ⟨v, st₀, t, T', L1, a0, S', hL, e1, e2, ⟨⟨rv, μ', hv, hp, hU⟩, hF⟩, stp⟩ | ⟨q, st₀, t, T', L1, E, ce, a0, S', hL, e1, e2, ⟨hB, rfl, hU, hF⟩, hce, hcv, hcl, stp⟩
  · cases hv
    rw [hr.2.2.1.1, hr.2.2.1.2] at S'
    obtain ⟨t2, a1, b1⟩ := kk v μ' hp hn T'.heap (locs ++ L1) ls (by rw [e1]; exact hU.2.1) (stay a0 hL e1 hF) hl T' rfl S'
    exact ⟨t2, stp t2 a1, b1⟩
  · rw [hr.2.2.1.1, hr.2.2.1.2] at S'
    have k2 := kx hB q hn T'.heap (locs ++ L1) ls (by rw [e1]; exact hU.2.1) (stay a0 hL e1 hF) hl
    have cast := (hT _ _ hX.2.2.2.2.2.2.2.2.2.2).2.2 X.args (.castable nsE nsE) (by simp [nsB])
    obtain ⟨t2, a1, b1⟩ := zt_catch (pc := pc) (rest := rest) hX.2.2.2.1 (hr.2.2.2.2.trans htab) hx h0 (hts _ hlink) cast (by rw [e1]; exact hce) hcv hcl k2 T' rfl S'
    exact ⟨t2, stp.trans a1, b1⟩
end CL
