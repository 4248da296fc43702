/-! THE LAW: its own steps -/
abbrev zX.at (X : zX) (ce sl : Nat) : zX := (X.p, X.l, X.e, X.R, X.s, X.m, X.args, X.below, X.meth, X.c, X.G, ce, sl, X.Q)
def R_law : String := "RainLoansLaw"
def lw_P (b : Addr) (xs : List Int32) (args : Array Value) (s : State) : Prop := args = #[.ref b] ∧ s.IntsAt b xs ∧ xs.length ≤ 3584 ∧ (Jvm.Cond.and given_1 narrow_1).before args s = true
def lw_Q (_ : Array Value) (s : State) (o : Outcome) (t : State) : Prop := o = .returned (some (.int 1)) ∧ Framed s o t [] 601024 7293034
def lw_Z (below : List Frame) (a : Array Value) (s : State) : State → Prop := fun t => ∃ o, t.status = .running ∧ Ended t below o ∧ lw_Q a s o t
/-- what stays while the law runs -/
def lwX (X : zX) (b Ln : Nat) (xs : Nat → Int32) : Prop :=
  zOk X cL_law RL 7 40 ∧ X.R = room_1 ∧ X.Q = lw_Z X.below #[Value.ref b] X.s ∧ X.args = #[Value.ref b] ∧ X.meth.sig.returnType = ret ∧ (va_X b Ln xs X.s X.s.heap ∧ b < X.s.heap.size ∧ ¬ zA X.G b) ∧ zHas X.G ∧ zThr X.G ∧ X.l.stackTraces = false ∧ X.G.sz = X.s.heap.size
theorem lwX_at {X : zX} {b Ln : Nat} {xs : Nat → Int32} (h : lwX X b Ln xs) {ce sl : Nat} (hc : ce ≤ 601024) (hs : sl ≤ 7293034) : lwX (X.at ce sl) b Ln xs := by
  obtain ⟨⟨h1, h2, h3, h4, h5, h6, h7, h8, h9, h10, h11⟩, g2, g3, g4, g5, g6, g7, g8, g9, g10⟩ := h
  refine ⟨⟨h1, h2, h3, h4, h5, h6, h7, h8, ⟨h9.1, h9.2.1, ?_, ?_⟩, h10, h11⟩, g2, g3, g4, g5, g6, g7, g8, g9, g10⟩
  · show ce ≤ X.R.cells
    rw [g2]; exact hc
  · show sl ≤ X.R.slots
    rw [g2]; exact hs
abbrev LL (X : zX) (b i : Nat) : List (Option Value) := [some (.ref b), some (.ref (X.G.ad 10 0)), some (.ref (X.G.ad 11 0)), some (.ref (X.G.ad 75 0)), some (.int (nI i)), none, none]
section LW
variable {X : zX} {b Ln : Nat} {xs : Nat → Int32} {cc : ByteArray} {own : String} {nL lv pc : Nat} {L : List (Option Value)} {st : List Value} {μ : zM}
theorem aw_sld (hw : lwX X b Ln xs) (hX : zOk X cc own nL lv) {i : Int32} (hin : vp_in i Ln) (hd : decode cc pc = .ok (.iaload, 1)) (k : AW X (pc + 1) L (.int (xs i.toNatClampNeg) :: st) μ) : AW X pc L (.int i :: .ref b :: st) μ := fun hn H locs ls hW hS hl => va_sld hX.1 hX.2.1 hw.2.2.2.2.2.1.1 hw.2.2.2.2.2.1.2.1 hw.2.2.2.2.2.1.2.2 hS hin hd (k hn H locs ls hW hS hl)
theorem aw_slen (hw : lwX X b Ln xs) (hX : zOk X cc own nL lv) (hd : decode cc pc = .ok (.arraylength, 1)) (k : AW X (pc + 1) L (.int (nI Ln) :: st) μ) : AW X pc L (.ref b :: st) μ := fun hn H locs ls hW hS hl => va_slen hX.1 hX.2.1 hw.2.2.2.2.2.1.1 hw.2.2.2.2.2.1.2.1 hw.2.2.2.2.2.1.2.2 hS hd (k hn H locs ls hW hS hl)
theorem aw_tabIn (hX : zOk X cc own nL lv) {dflt lo hi : Int} {offs : Array Int} {len : Nat} {x : Int32} {off : Int} {tgt : Nat} (hd : decode cc pc = .ok (.tableswitch dflt lo hi offs, len)) (h1 : ¬ x.toInt < lo) (h2 : ¬ hi < x.toInt) (ho : offs[(x.toInt - lo).toNat]? = some off) (ht : (pc : Int) + off = (tgt : Int)) (k : AW X tgt L st μ) : AW X pc L (.int x :: st) μ := fun hn H locs ls hW hS hl => lv_tableIn hX.1 hX.2.1 hd h1 h2 ho ht (k hn H locs ls hW hS hl)
theorem aw_tabOut (hX : zOk X cc own nL lv) {dflt lo hi : Int} {offs : Array Int} {len : Nat} {x : Int32} {tgt : Nat} (hd : decode cc pc = .ok (.tableswitch dflt lo hi offs, len)) (h : x.toInt < lo ∨ hi < x.toInt) (ht : (pc : Int) + dflt = (tgt : Int)) (k : AW X tgt L st μ) : AW X pc L (.int x :: st) μ := fun hn H locs ls hW hS hl => lv_tableOut hX.1 hX.2.1 hd h ht (k hn H locs ls hW hS hl)
/-- script[i + j] -/
theorem lw_arg {k j pc3 : Nat} {v : Int32} (hw : lwX X b Ln xs) (hX : zOk X cc own nL lv) (hk : 7 * k + 7 ≤ Ln) (hLn : Ln ≤ 3584) (hj : j ≤ 6) (hv : v = nI j) (L0 : L[0]? = some (some (.ref b))) (L4 : L[4]? = some (some (.int (nI (7 * k))))) (d1 : decode cc pc = .ok (.aload_n 0, 1)) (d2 : decode cc (pc + 1) = .ok (.iload 4, 2))
    (hp : AW X pc3 L (.int v :: .int (nI (7 * k)) :: .ref b :: st) μ → AW X (pc + 1 + 2) L (.int (nI (7 * k)) :: .ref b :: st) μ) (d4 : decode cc pc3 = .ok (.iadd, 1)) (d5 : decode cc (pc3 + 1) = .ok (.iaload, 1)) (kk : AW X (pc3 + 1 + 1) L (.int (xs (7 * k + j)) :: st) μ) : AW X pc L st μ := by
  refine aw_aload_n hX d1 L0 ?_
  refine aw_iload hX d2 L4 (hp ?_)
  refine aw_iadd hX d4 ?_
  rw [hv, nI_add]
  refine aw_sld hw hX (vp_in_nI (by omega) (by omega)) d5 ?_
  rw [nI_clamp (by omega)]
  exact kk
theorem lw_hX (hw : lwX X b Ln xs) : zOk X cL_law RL 7 40 := hw.1
/-- a wrapper is called: one cell, six slots -/
theorem aw_callW (hX : zOk X cc own nL lv) {idx n lv' maxL : Nat} {y : MethodName} {cb : ByteArray} {ret' : Option FieldType} {hh : List (Nat × Nat × Nat × Nat)} {As rest : List Value} {Post : Option Value → zM → Prop} (hg : GoodIn gw (va_wsS own idx y (zmH y cb maxL ret' hh))) (hm : maxL ≤ 80)
    (hd7 : y.cls ≠ "java/lang/invoke/MethodHandle" ∧ y.cls ≠ "java/lang/invoke/VarHandle" ∧ (parseMethodDescriptor y.desc).map (fun d => d.parameters.length) = some n)
    (hlv : lv' < lv) (hct : zCW X.l X.G lv' y cb maxL ret' hh As μ Post) (hlen : As.length = n) (hst : As.reverse ++ rest = st) (hr8 : (rest.map fun v => v.category).sum ≤ 8) (hd : decode cc pc = .ok (.invokestatic idx, 3)) (hc : X.ce + 1 ≤ X.R.cells) (hs : X.sl + 6 ≤ X.R.slots)
    (kk : ∀ (rv : Option Value) (μ' : zM), Post rv μ' → AW (X.at (X.ce + 1) (X.sl + 6)) (pc + 3) L (rv.toList ++ rest) μ') : AW X pc L st μ := by
  intro hn H locs ls hW hS hl
  subst hst
  have hts := hX.2.2.2.2.1
  have hf := hX.2.2.2.2.2.2.2.2.1
  have hr := vx_runSW (Ts := gw) (n := n) (bytes := cb) (maxL := maxL) (ret := ret') (hh := hh) (p := X.p) (l := X.l) (e := X.e) (R := X.R) (s := X.s) (m := X.m) (args := X.args) (below := X.below) (meth := X.meth) (c := X.c) (H := H) (locs := locs) (cells := X.ce) (slots := X.sl) (As := As) (rest := rest) (g := F0 X.m pc ls (As.reverse ++ rest)) ⟨hX.1, hX.2.1, hX.2.2.1, hX.2.2.2.1, hts⟩ hct (vx_cwSW n hts hg rfl rfl rfl hd7 ⟨Nat.le_trans hlv hf.1, by
      have := hf.2.1
      show 8 + (maxL + 11) + 100 * lv' ≤ X.R.locals
      omega⟩)
    ⟨zblind, fun U hU hw => ⟨rfl, zU_here hX hW hS hU hw⟩⟩ rfl hlen (by rw [← hX.2.2.1]; exact (zl_size hl).trans hn) rfl (lv_room hr8) hd ⟨hc, hs⟩
  intro T hT S
  obtain ⟨v, st₀, t, T', L1, h0, S', hL, e1, e2, ⟨⟨rv, μ', hv, hp, hU⟩, hz, hk⟩, stp⟩ := hr T hT S
  cases hv
  rw [h0] at hz hk
  have hS' : va_S (zA X.G) X.s.heap T'.heap (locs ++ L1) := ⟨Nat.le_trans hS.1 (by rw [e1]; exact hz), fun q h1 h2 => by rw [e1, hk q (Nat.lt_of_lt_of_le h1 hS.1) h2]; exact hS.2.1 q h1 h2, fun q hq => by
      rcases List.mem_append.mp hq with h | h
      · exact hS.2.2 q h
      · exact hL q h⟩
  obtain ⟨t2, a1, b1⟩ := kk v μ' hp hn T'.heap (locs ++ L1) ls (by rw [e1]; exact hU.2.1) hS' hl T' rfl S'
  exact ⟨t2, stp t2 a1, b1⟩
theorem ct_thrown {l : Launch} {G : zG} {μ : zM} : zCT l G 0 yX11_thrown cX11_thrown 1 (some .int) [.ref (G.ad 11 0)] μ (zI fun r μ' => r = μ.1 11 0 0 ∧ μ' = μ) := by
  refine zCT_of (by decide) (Nat.le_of_ble_eq_true rfl) rfl (fun X hl hG hX hr => ?_)
  subst hG
  refine st_X11_thrown_0 hX hr ?_
  exact ⟨_, rfl, rfl, rfl⟩
end LW
set_option maxRecDepth 100000 in
theorem gW_purse : Cond.methodLink RL 42 yL_purse ∈ gw ∧ Cond.static yL_purse ∈ gw ∧ Cond.initialized yL_purse.cls ∈ gw ∧ Cond.codeWith yL_purse cL_purse 4 (some .int) [(0, 9, 12, 13)] ∈ gw := ⟨List.mem_filter.mpr ⟨by decide +kernel, by decide +kernel⟩, List.mem_filter.mpr ⟨by decide +kernel, by decide +kernel⟩, List.mem_filter.mpr ⟨by decide +kernel, by decide +kernel⟩, List.mem_filter.mpr ⟨by decide +kernel, by decide +kernel⟩⟩
set_option maxRecDepth 100000 in
theorem gW_has : Cond.methodLink RL 73 yL_has ∈ gw ∧ Cond.static yL_has ∈ gw ∧ Cond.initialized yL_has.cls ∈ gw ∧ Cond.codeWith yL_has cL_has 4 (some .int) [(0, 9, 12, 13)] ∈ gw := ⟨List.mem_filter.mpr ⟨by decide +kernel, by decide +kernel⟩, List.mem_filter.mpr ⟨by decide +kernel, by decide +kernel⟩, List.mem_filter.mpr ⟨by decide +kernel, by decide +kernel⟩, List.mem_filter.mpr ⟨by decide +kernel, by decide +kernel⟩⟩
set_option maxRecDepth 100000 in
theorem gW_gain : Cond.methodLink RL 99 yL_gain ∈ gw ∧ Cond.static yL_gain ∈ gw ∧ Cond.initialized yL_gain.cls ∈ gw ∧ Cond.codeWith yL_gain cL_gain 5 (some .int) [(0, 10, 13, 13)] ∈ gw := ⟨List.mem_filter.mpr ⟨by decide +kernel, by decide +kernel⟩, List.mem_filter.mpr ⟨by decide +kernel, by decide +kernel⟩, List.mem_filter.mpr ⟨by decide +kernel, by decide +kernel⟩, List.mem_filter.mpr ⟨by decide +kernel, by decide +kernel⟩⟩
theorem gW_in {own : String} {idx maxL : Nat} {y : MethodName} {cb : ByteArray} {r : Option FieldType} {hh : List (Nat × Nat × Nat × Nat)} (h : Cond.methodLink own idx y ∈ gw ∧ Cond.static y ∈ gw ∧ Cond.initialized y.cls ∈ gw ∧ Cond.codeWith y cb maxL r hh ∈ gw) : GoodIn gw (va_wsS own idx y (zmH y cb maxL r hh)) := by
  refine gw_goodIn (fun w hw => ?_)
  simp only [va_wsS, zmH, List.mem_append, List.mem_cons, List.not_mem_nil, or_false] at hw
  rcases hw with (rfl | rfl | rfl) | rfl | hw
  · exact h.1
  · exact h.2.1
  · exact h.2.2.1
  · exact h.2.2.2
  · exact hw
