/-! CONTRACTS of methods that may throw -/
def zXC (G : zG) (μ : zM) (B : Prop) : String → State → State → Prop := fun E st t => B ∧ E = nsE ∧ zU G μ t ∧ va_F (zA G) st t
def zCX (l : Launch) (G : zG) (lv : Nat) (y : MethodName) (cc : ByteArray) (maxL : Nat) (ret : Option FieldType) (av : List Value) (μ : zM) (Post : Option Value → zM → Prop) (B : Prop) : Prop :=
  vx_Met l y (zmw y cc maxL ret) ({ frames := lv, cells := 1, slots := 6, locals := 100 * lv }) (va_Pc av (zU G μ)) (zQc G Post) (zXC G μ B) 1 6 (zA G)
/-- the same walk, to an end without a throw -/
abbrev zX.two (X : zX) (Post : Option Value → zM → Prop) : zX := (X.p, X.l, X.e, X.R, X.s, X.m, X.args, X.below, X.meth, X.c, X.G, 1, 6, MQ X.below (zQc X.G Post) X.args X.s 1 6 (zA X.G))
def zRx (X : zX) (ret : Option FieldType) (Post : Option Value → zM → Prop) (μ : zM) (B : Prop) : Prop := X.meth.sig.returnType = ret ∧ X.Q = vx_MQ X.below (zQc X.G Post) (zXC X.G μ B) X.args X.s 1 6 (zA X.G) ∧ (X.ce = 0 ∧ X.sl = 0) ∧ (X.R.cells = 1 ∧ X.R.slots = 6) ∧ ∀ x ∈ X.c.exceptionTable.toList, False
theorem zCX_of {l : Launch} {G : zG} {lv : Nat} {y : MethodName} {cc : ByteArray} {maxL : Nat} {ret : Option FieldType} {av : List Value} {μ : zM} {Post : Option Value → zM → Prop} {B : Prop} {L0 : List (Option Value)} (hy : plainName y.cls = true) (hlen : (zsl av).length ≤ maxL) (hL0 : zent av maxL = L0)
    (h : ∀ X : zX, X.l = l → X.G = G → zOk X cc y.cls maxL lv → zRx X ret Post μ B → AW X 0 L0 [] μ) : zCX l G lv y cc maxL ret av μ Post B := by
  refine vx_ofW (cc := cc) (maxL := maxL) (ret := ret) hy rfl ?_
  intro p e s m args below meth c s₁ Bd hml hno hv
  obtain ⟨rfl, hsz, hW, hK, hst, hsx⟩ := hv
  have hts := atoms_spec (ws := zmw y cc maxL ret) Bd.pre
  have hown : s.vm.findClass y.cls = some m.cls := findClass_of_methodNamed Bd.named
  subst hL0
  have A := h (p, l, e, { frames := lv, cells := 1, slots := 6, locals := 100 * lv }, s, m, av.toArray, below, meth, c, G, 0, 0, vx_MQ below (zQc G Post) (zXC G μ B) av.toArray s 1 6 (zA G)) rfl rfl
    ⟨Bd.exec, Bd.bytes, hml, hown, fun w hw => hts w (List.mem_cons_of_mem _ hw), hK, hsz, Bd.notSynchronized, ⟨Nat.le_refl _, Nat.le_refl _, Nat.zero_le _, Nat.zero_le _⟩, hst, hsx⟩ ⟨Bd.returns, rfl, ⟨rfl, rfl⟩, ⟨rfl, rfl⟩, hno⟩
  rw [lg_entry_eq]
  exact A (by rw [zent_len hlen]; exact hml.symm) s.heap [] _ hW va_S.rf (zent_zl hlen)
section CX
variable {X : zX} {cc : ByteArray} {own : String} {nL lv pc : Nat} {L : List (Option Value)} {st : List Value} {μ ν : zM} {ret : Option FieldType} {Post : Option Value → zM → Prop} {B : Prop}
theorem aw_two (hr : zRx X ret Post μ B) (k : AW (X.two Post) pc L st ν) : AW X pc L st ν := by
  intro hn H locs ls hW hS hl
  have := vx_ret (XC := zXC X.G μ B) (k hn H locs ls hW hS hl)
  rw [hr.2.1]
  intro T hT Xs
  exact this T hT (stand_widen Xs (by rw [hr.2.2.1.1]; exact Nat.zero_le _) (by rw [hr.2.2.1.2]; exact Nat.zero_le _))
theorem two_ok (hX : zOk X cc own nL lv) (hr : zRx X ret Post μ B) : zOk (X.two Post) cc own nL lv := by
  obtain ⟨h1, h2, h3, h4, h5, h6, h7, h8, h9, h10, h11⟩ := hX
  exact ⟨h1, h2, h3, h4, h5, h6, h7, h8, ⟨h9.1, h9.2.1, by show 1 ≤ X.R.cells; rw [hr.2.2.2.1.1]; exact Nat.le_refl _, by show 6 ≤ X.R.slots; rw [hr.2.2.2.1.2]; exact Nat.le_refl _⟩, h10, h11⟩
theorem two_rt (hr : zRx X ret Post μ B) : zRt (X.two Post) ret Post := ⟨hr.1, rfl⟩
theorem aw_throw (hX : zOk X cc RX10 nL lv) (hr : zRx X ret Post μ B) (hT : zThr X.G) (hst : X.l.stackTraces = false) (hB : B) (hlv : 5 < lv) {is sa : Nat} {text : String} (hs : vk_R RX10 is text sa X.s)
    (d0 : decode cc pc = .ok (.new 109, 3)) (d3 : decode cc (pc + 3) = .ok (.dup, 1)) (d4 : decode cc (pc + 4) = .ok (.ldc is, 2)) (d6 : decode cc (pc + 6) = .ok (.invokespecial 113, 3)) (d9 : decode cc (pc + 9) = .ok (.athrow, 1)) : AW X pc L [] μ := by
  intro hn H locs ls hW hS hl
  obtain ⟨h1, h2, h3, h4, h5, h6, h7, h8, h9, h10, h11⟩ := id hX
  obtain ⟨z1, z2, z3⟩ := hT _ _ h11
  have tb : ∀ w, w ∈ lw_tbl → goodWord w = true → w.before X.args X.s = true := fun w a b => h5 w (List.mem_filter.mpr ⟨a, b⟩)
  rw [hr.2.1]
  refine zt_throw (own := RX10) (text := text) (ik := 109) (is := is) (ic := 113) (sa := sa) (A := zA X.G) h1 h2 hst h4 (tb _ nt_k.1 nt_kg.1) (tb _ nt_k.2 nt_kg.2) hs (nt_good h5 (z3 X.args)) nt_ot z1 z2 hS ((zl_size hl).trans hn) d0 d3 d4 d6 d9 (fun x hx => (hr.2.2.2.2 x hx).elim) (by have := h9.1; omega) (by have := h9.2.1; simp only [List.map_nil, List.sum_nil]; omega) (by rw [hr.2.2.1.1, hr.2.2.2.1.1]; exact Nat.le_refl _) (by rw [hr.2.2.1.2, hr.2.2.2.1.2]; exact Nat.le_refl _) h8 (fun t al hle hq => ?_) hS.2.2 (by rw [hr.2.2.1.1]; exact Nat.le_refl _) (by rw [hr.2.2.1.2]; exact Nat.le_refl _)
  have keep : ∀ q : Nat, q < X.s.heap.size → ¬ zA X.G q → t.heap[q]? = X.s.heap[q]? := fun q a b => (hq q (Nat.lt_of_lt_of_le a hS.1)).trans (hS.2.1 q a b)
  exact ⟨hB, rfl, ⟨Nat.le_trans h7 (Nat.le_trans hS.1 hle), ⟨hW.1.kept (fun k q hk => hq q.1 (vx_lt hW.1 hk)), hW.2⟩, va_K.moved al.alike h6, h10, h10 _ _ _ _ al (Nat.le_trans hS.1 hle) (fun q hz => keep q (Nat.lt_of_lt_of_le hz h7) (fun z => by unfold zA at z; omega)) h11⟩, Nat.le_trans hS.1 hle, keep⟩
end CX
