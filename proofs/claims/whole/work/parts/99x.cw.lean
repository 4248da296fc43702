/-! CONTRACTS of methods with a table, which catch -/
def zmH (y : MethodName) (cc : ByteArray) (maxL : Nat) (ret : Option FieldType) (hh : List (Nat × Nat × Nat × Nat)) : List Cond := Cond.codeWith y cc maxL ret hh :: gw
def zCW (l : Launch) (G : zG) (lv : Nat) (y : MethodName) (cc : ByteArray) (maxL : Nat) (ret : Option FieldType) (hh : List (Nat × Nat × Nat × Nat)) (av : List Value) (μ : zM) (Post : Option Value → zM → Prop) : Prop :=
  Met l y (zmH y cc maxL ret hh) ({ frames := lv, cells := 1, slots := 6, locals := 100 * lv }) (va_Pc av (zU G μ)) (zQc G Post) 1 6 (zA G)
def zRw (X : zX) (ret : Option FieldType) (Post : Option Value → zM → Prop) (hh : List (Nat × Nat × Nat × Nat)) : Prop := X.meth.sig.returnType = ret ∧ X.Q = MQ X.below (zQc X.G Post) X.args X.s 1 6 (zA X.G) ∧ (X.ce = 0 ∧ X.sl = 0) ∧ (X.R.cells = 1 ∧ X.R.slots = 6) ∧ X.c.exceptionTable.toList = tableOf hh
theorem zCW_of {l : Launch} {G : zG} {lv : Nat} {y : MethodName} {cc : ByteArray} {maxL : Nat} {ret : Option FieldType} {hh : List (Nat × Nat × Nat × Nat)} {av : List Value} {μ : zM} {Post : Option Value → zM → Prop} {L0 : List (Option Value)} (hy : plainName y.cls = true) (hlen : (zsl av).length ≤ maxL) (hL0 : zent av maxL = L0)
    (h : ∀ X : zX, X.l = l → X.G = G → zOk X cc y.cls maxL lv → zRw X ret Post hh → AW X 0 L0 [] μ) : zCW l G lv y cc maxL ret hh av μ Post := by
  refine va_MetW (cc := cc) (maxL := maxL) (ret := ret) (hh := hh) hy rfl ?_
  intro p e s m args below meth c s₁ Bd hml hv
  obtain ⟨rfl, hsz, hW, hK, hst, hsx⟩ := hv
  have hts := atoms_spec (ws := zmH y cc maxL ret hh) Bd.pre
  have hown : s.vm.findClass y.cls = some m.cls := findClass_of_methodNamed Bd.named
  have htab := vx_table (x := y) Bd (hts _ (List.mem_cons_self (a := Cond.codeWith y cc maxL ret hh)))
  subst hL0
  have A := h (p, l, e, { frames := lv, cells := 1, slots := 6, locals := 100 * lv }, s, m, av.toArray, below, meth, c, G, 0, 0, MQ below (zQc G Post) av.toArray s 1 6 (zA G)) rfl rfl
    ⟨Bd.exec, Bd.bytes, hml, hown, fun w hw => hts w (List.mem_cons_of_mem _ hw), hK, hsz, Bd.notSynchronized, ⟨Nat.le_refl _, Nat.le_refl _, Nat.zero_le _, Nat.zero_le _⟩, hst, hsx⟩ ⟨Bd.returns, rfl, ⟨rfl, rfl⟩, ⟨rfl, rfl⟩, htab⟩
  rw [lg_entry_eq]
  exact A (by rw [zent_len hlen]; exact hml.symm) s.heap [] _ hW va_S.rf (zent_zl hlen)
