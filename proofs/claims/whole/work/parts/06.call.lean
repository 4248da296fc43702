/-! CONTRACTS OVER MEMORY -/
def zU (G : zG) (μ : zM) (U : State) : Prop := G.sz ≤ U.heap.size ∧ zW G μ U.heap ∧ va_K G.1 zzCl (zty G) U ∧ zstay G ∧ G.sx U U.heap
def zQc (G : zG) (Post : Option Value → zM → Prop) : Array Value → State → Outcome → State → Prop := fun _ st oc t => (∃ rv μ', oc = .returned rv ∧ Post rv μ' ∧ zU G μ' t) ∧ va_F (zA G) st t
def zmw (y : MethodName) (cc : ByteArray) (maxL : Nat) (ret : Option FieldType) : List Cond := Cond.code y cc maxL ret :: gw
/-- the method y (its code, its places, what it returns), called with av over the memory μ with room for lv levels: it returns, with Post of its answer and of the memory behind it -/
def zCT (l : Launch) (G : zG) (lv : Nat) (y : MethodName) (cc : ByteArray) (maxL : Nat) (ret : Option FieldType) (av : List Value) (μ : zM) (Post : Option Value → zM → Prop) : Prop :=
  Met l y (zmw y cc maxL ret) ({ frames := lv, cells := 0, slots := 0, locals := 100 * lv }) (va_Pc av (zU G μ)) (zQc G Post) 0 0 (zA G)
def zRt (X : zX) (ret : Option FieldType) (Post : Option Value → zM → Prop) : Prop := X.meth.sig.returnType = ret ∧ X.Q = MQ X.below (zQc X.G Post) X.args X.s X.ce X.sl (zA X.G)
def zsl : List Value → List (Option Value)
  | [] => []
  | v :: vs => if v.category = 2 then some v :: none :: zsl vs else some v :: zsl vs
def zent (av : List Value) (n : Nat) : List (Option Value) := zsl av ++ List.replicate (n - (zsl av).length) none
theorem zsl_len : ∀ av : List Value, (zsl av).length = (lg_sl av).length
  | [] => rfl
  | v :: vs => by
    have ih := zsl_len vs
    simp only [zsl, lg_sl, List.flatMap_cons, List.length_append] at ih ⊢
    by_cases h : v.category = 2
    · simp [h, ih]; omega
    · simp [h, ih]; omega
theorem zsl_at : ∀ (av : List Value) (b i : Nat) (v : Value), (zsl av)[i]? = some (some v) → (b + i, v) ∈ lv_args b av
  | [], b, i, v, h => by simp [zsl] at h
  | w :: vs, b, i, v, h => by
    simp only [zsl, lv_args] at h ⊢
    by_cases hc : w.category = 2
    · rw [if_pos hc] at h ⊢
      match i, h with
      | 0, h =>
        simp only [List.getElem?_cons_zero, Option.some.injEq] at h
        rw [h]; exact List.mem_cons_self
      | 1, h => simp at h
      | i + 2, h =>
        simp only [List.getElem?_cons_succ] at h
        have := zsl_at vs (b + 2) i v h
        rw [show b + (i + 2) = b + 2 + i by omega]
        exact List.mem_cons_of_mem _ this
    · rw [if_neg hc] at h ⊢
      match i, h with
      | 0, h =>
        simp only [List.getElem?_cons_zero, Option.some.injEq] at h
        rw [h]; exact List.mem_cons_self
      | i + 1, h =>
        simp only [List.getElem?_cons_succ] at h
        have := zsl_at vs (b + 1) i v h
        rw [show b + (i + 1) = b + 1 + i by omega]
        exact List.mem_cons_of_mem _ this
theorem zent_len {av : List Value} {n : Nat} (h : (zsl av).length ≤ n) : (zent av n).length = n := by
  simp only [zent, List.length_append, List.length_replicate]; omega
theorem zent_zl {av : List Value} {n : Nat} (h : (zsl av).length ≤ n) : zl ((lg_sl av ++ List.replicate (n - (lg_sl av).length) Slot.unset).toArray) (zent av n) := by
  have h0 := lv_entry av (n := n) (by rw [← zsl_len]; exact h)
  refine ⟨by rw [zent_len h]; exact h0.1, h0.2.1, fun q hq => ?_⟩
  obtain ⟨i, v⟩ := q
  have hq := zlp_mem.mp hq
  apply h0.2.2
  unfold zent at hq
  rcases Nat.lt_or_ge i (zsl av).length with a | a
  · rw [List.getElem?_append_left a] at hq
    have := zsl_at av 0 i v hq
    rwa [Nat.zero_add] at this
  · rw [List.getElem?_append_right a] at hq
    rw [List.getElem?_replicate] at hq
    split at hq <;> simp at hq
theorem zCT_of {l : Launch} {G : zG} {lv : Nat} {y : MethodName} {cc : ByteArray} {maxL : Nat} {ret : Option FieldType} {av : List Value} {μ : zM} {Post : Option Value → zM → Prop} {L0 : List (Option Value)} (hy : plainName y.cls = true) (hlen : (zsl av).length ≤ maxL) (hL0 : zent av maxL = L0)
    (h : ∀ X : zX, X.l = l → X.G = G → zOk X cc y.cls maxL lv → zRt X ret Post → AW X 0 L0 [] μ) : zCT l G lv y cc maxL ret av μ Post := by
  refine Met.ofW (cc := cc) (maxL := maxL) (ret := ret) hy rfl ?_
  intro p e s m args below meth c s₁ B hml hv
  obtain ⟨rfl, hsz, hW, hK, hst, hsx⟩ := hv
  have hts := atoms_spec (ws := zmw y cc maxL ret) B.pre
  have hown : s.vm.findClass y.cls = some m.cls := findClass_of_methodNamed B.named
  subst hL0
  have A := h (p, l, e, { frames := lv, cells := 0, slots := 0, locals := 100 * lv }, s, m, av.toArray, below, meth, c, G, 0, 0, MQ below (zQc G Post) av.toArray s 0 0 (zA G)) rfl rfl
    ⟨B.exec, B.bytes, hml, hown, fun w hw => hts w (List.mem_cons_of_mem _ hw), hK, hsz, B.notSynchronized, ⟨Nat.le_refl _, Nat.le_refl _, Nat.le_refl _, Nat.le_refl _⟩, hst, hsx⟩ ⟨B.returns, rfl⟩
  rw [lg_entry_eq]
  exact A (by rw [zent_len hlen]; exact hml.symm) s.heap [] _ hW va_S.rf (zent_zl hlen)
section ZC
variable {X : zX} {cc : ByteArray} {own : String} {nL lv pc : Nat} {L : List (Option Value)} {st : List Value} {μ : zM}
theorem zU_here (hX : zOk X cc own nL lv) {H : Heap} {locs : List Loc} (hW : zW X.G μ H) (hS : va_S (zA X.G) X.s.heap H locs) {U : State} (hU : U.heap = H) (hw : X.s.WarmedH U.vm) : zU X.G μ U := by
  obtain ⟨h1, h2, h3, h4, h5, h6, h7, h8, h9, h10, h11⟩ := hX
  subst hU
  exact ⟨Nat.le_trans h7 hS.1, hW, va_K.moved hw.alike h6, h10, h10 _ _ _ _ hw hS.1 (fun q hq => hS.2.1 q (Nat.lt_of_lt_of_le hq h7) (fun z => by unfold zA at z; omega)) h11⟩
/-! the end of a method -/
theorem aw_iret {Post : Option Value → zM → Prop} (hX : zOk X cc own nL lv) (hr : zRt X (some .int) Post) {v : Int32} (hd : decode cc pc = .ok (.ireturn, 1)) (hp : Post (some (.int v)) μ) : AW X pc L [.int v] μ := by
  intro hn H locs ls hW hS hl
  rw [hr.2]
  exact W.iret hX.1 hX.2.1 hr.1 (fun t ht hw => ⟨⟨_, μ, rfl, hp, zU_here hX hW hS ht hw⟩, hS.F ht⟩) hS.2.2 hd hX.2.2.2.2.2.2.2.1
theorem aw_zret {Post : Option Value → zM → Prop} {ty : FieldType} (hX : zOk X cc own nL lv) (hr : zRt X (some ty) Post) {v : Int32} (hna : narrow ty (.int v) = .int v) (hd : decode cc pc = .ok (.ireturn, 1)) (hp : Post (some (.int v)) μ) : AW X pc L [.int v] μ := by
  intro hn H locs ls hW hS hl
  rw [hr.2]
  exact W.zret hX.1 hX.2.1 hr.1 hna (fun t ht hw => ⟨⟨_, μ, rfl, hp, zU_here hX hW hS ht hw⟩, hS.F ht⟩) hS.2.2 hd hX.2.2.2.2.2.2.2.1
theorem aw_lret {Post : Option Value → zM → Prop} (hX : zOk X cc own nL lv) (hr : zRt X (some .long) Post) {v : Int64} (hd : decode cc pc = .ok (.lreturn, 1)) (hp : Post (some (.long v)) μ) : AW X pc L [.long v] μ := by
  intro hn H locs ls hW hS hl
  rw [hr.2]
  exact W.lret hX.1 hX.2.1 hr.1 (fun t ht hw => ⟨⟨_, μ, rfl, hp, zU_here hX hW hS ht hw⟩, hS.F ht⟩) hS.2.2 hd hX.2.2.2.2.2.2.2.1
theorem aw_vret {Post : Option Value → zM → Prop} (hX : zOk X cc own nL lv) (hr : zRt X none Post) (hd : decode cc pc = .ok (.return_, 1)) (hp : Post none μ) : AW X pc L [] μ := by
  intro hn H locs ls hW hS hl
  rw [hr.2]
  exact W.vret hX.1 hX.2.1 hr.1 (fun t ht hw => ⟨⟨_, μ, rfl, hp, zU_here hX hW hS ht hw⟩, hS.F ht⟩) hS.2.2 hd hX.2.2.2.2.2.2.2.1
theorem aw_aret {Post : Option Value → zM → Prop} {rt : FieldType} (hX : zOk X cc own nL lv) (hr : zRt X (some rt) Post) (hrt : (∃ n, rt = .object n) ∨ ∃ t, rt = .array t) {a : Nat} (hd : decode cc pc = .ok (.areturn, 1)) (hp : Post (some (.ref a)) μ) : AW X pc L [.ref a] μ := by
  intro hn H locs ls hW hS hl
  rw [hr.2]
  exact W.aret hX.1 hX.2.1 hr.1 hrt (Or.inr ⟨a, rfl⟩) (fun t ht hw => ⟨⟨_, μ, rfl, hp, zU_here hX hW hS ht hw⟩, hS.F ht⟩) hS.2.2 hd hX.2.2.2.2.2.2.2.1
/-! calls -/
/-- a method that a call in class own names by its pool entry idx: an instance method of its own class, n arguments -/
def zCV (own : String) (idx : Nat) (y : MethodName) (cc : ByteArray) (maxL : Nat) (ret : Option FieldType) (n : Nat) : Prop :=
  Cond.methodLink own idx y ∈ gw ∧ Cond.instanceMethod y ∈ gw ∧ Cond.selects y.cls y y ∈ gw ∧ Cond.initialized y.cls ∈ gw ∧ Cond.code y cc maxL ret ∈ gw ∧ maxL ≤ 80 ∧
  (y.cls ≠ "java/lang/invoke/MethodHandle" ∧ y.cls ≠ "java/lang/invoke/VarHandle" ∧ (parseMethodDescriptor y.desc).map (fun d => d.parameters.length) = some n)
def zCS (own : String) (idx : Nat) (y : MethodName) (cc : ByteArray) (maxL : Nat) (ret : Option FieldType) (n : Nat) : Prop :=
  Cond.methodLink own idx y ∈ gw ∧ Cond.static y ∈ gw ∧ Cond.initialized y.cls ∈ gw ∧ Cond.code y cc maxL ret ∈ gw ∧ maxL ≤ 80 ∧
  (y.cls ≠ "java/lang/invoke/MethodHandle" ∧ y.cls ≠ "java/lang/invoke/VarHandle" ∧ (parseMethodDescriptor y.desc).map (fun d => d.parameters.length) = some n)
theorem zblind {G : zG} {μ : zM} {av : List Value} : FrameBlind (va_Pc av (zU G μ)) := by
  intro a U g mk q
  obtain ⟨q0, q1, q2, q3, q4, q5⟩ := q
  exact ⟨q0, q1, q2, va_K.moved (u := U) (U := U.calling g mk a) (Vm.Alike.refl U.vm) q3, q4, q4 _ _ _ _ (State.WarmedH.refl U) (Nat.le_refl _) (fun _ _ => rfl) q5⟩
theorem zgood {y : MethodName} {cb : ByteArray} {maxL : Nat} {ret : Option FieldType} (h : Cond.code y cb maxL ret ∈ gw) : GoodIn gw (zmw y cb maxL ret) := gw_goodIn (fun w hw => by
  rcases List.mem_cons.mp hw with rfl | hw
  · exact h
  · exact hw)
/-- what comes back from a call -/
theorem aw_back (hX : zOk X cc own nL lv) {G : zG} (hG : X.G = G) {Post : Option Value → zM → Prop} {H : Heap} {locs : List Loc} {ls : Array Slot} {st0 rest : List Value} {a : Array Value}
    (hr : va_Run X.p X.l X.e X.R X.s X.m X.args X.below X.meth X.c H locs X.ce X.sl 0 0 (F0 X.m pc ls st0) rest (zQc G Post a) (zA G)) (hS : va_S (zA X.G) X.s.heap H locs) (hn : L.length = X.c.maxLocals) (hl : zl ls L)
    (kk : ∀ (rv : Option Value) (μ' : zM), Post rv μ' → AW X (pc + 3) L (rv.toList ++ rest) μ') : W X.p X.l X.e X.R X.s X.m X.args X.below X.meth X.c H locs X.ce X.sl X.Q (F0 X.m pc ls st0) := by
  subst hG
  intro T hT S
  obtain ⟨v, st₀, t, T', L1, h0, S', hL, e1, e2, ⟨⟨rv, μ', hv, hp, hU⟩, hz, hk⟩, stp⟩ := hr T hT S
  cases hv
  rw [h0] at hz hk
  have hS' : va_S (zA X.G) X.s.heap T'.heap (locs ++ L1) := ⟨Nat.le_trans hS.1 (by rw [e1]; exact hz), fun q h1 h2 => by rw [e1, hk q (Nat.lt_of_lt_of_le h1 hS.1) h2]; exact hS.2.1 q h1 h2, fun q hq => by
      rcases List.mem_append.mp hq with h | h
      · exact hS.2.2 q h
      · exact hL q h⟩
  obtain ⟨t2, a1, b1⟩ := kk v μ' hp hn T'.heap (locs ++ L1) ls (by rw [e1]; exact hU.2.1) hS' hl T' rfl S'
  exact ⟨t2, stp t2 a1, b1⟩
theorem aw_callV (hX : zOk X cc own nL lv) {idx n κ o n1 ci N lv' maxL : Nat} {y : MethodName} {cb : ByteArray} {ret : Option FieldType} {As rest : List Value} {fds : List (Nat × Nat × Nat × Nat)} {T : u_T} {Post : Option Value → zM → Prop} (lk : zCV own idx y cb maxL ret n) (hs : zzSh[κ]? = some (n1, .inr (ci, fds))) (ho : o < n1) (hc : zzCl[ci]? = some (y.cls, T, N))
    (hlv : lv' < lv) (hct : zCT X.l X.G lv' y cb maxL ret (.ref (X.G.ad κ o) :: As) μ Post) (hlen : As.length = n) (hst : As.reverse ++ .ref (X.G.ad κ o) :: rest = st) (hr8 : (rest.map fun v => v.category).sum ≤ 8) (hd : decode cc pc = .ok (.invokevirtual idx, 3))
    (kk : ∀ (rv : Option Value) (μ' : zM), Post rv μ' → AW X (pc + 3) L (rv.toList ++ rest) μ') : AW X pc L st μ := by
  intro hn H locs ls hW hS hl
  subst hst
  obtain ⟨i, hi⟩ := zplace hs ho
  have he := zws_at (G := X.G) (μ := μ) hi
  rw [zat_obj hs] at he
  have hts := hX.2.2.2.2.1
  obtain ⟨w1, w2, w3, w4, w5, w6, w7⟩ := lk
  have hf := hX.2.2.2.2.2.2.2.2.1
  refine aw_back hX rfl (va_runV (Ts := gw) (C := y.cls) (n := n) (bytes := cb) (maxL := maxL) (ret := ret) ⟨hX.1, hX.2.1, hX.2.2.1, hX.2.2.2.1, hts⟩ hct ⟨callB_of n hts (zgood w5) rfl rfl rfl (hts _ w4) (hts _ w1) w7 ⟨Nat.le_trans hlv hf.1, ?_⟩, hts _ w2, hts _ w3⟩
    ⟨zblind, va_recv hX.2.2.2.2.2.1 hW.1 hc he, fun U hU hw => ⟨rfl, zU_here hX hW hS hU hw⟩⟩ rfl hlen ?_ rfl (lv_room hr8) hd ⟨hf.2.2.1, hf.2.2.2⟩) hS hn hl kk
  · have := hf.2.1
    show 8 + (maxL + 11) + 100 * lv' ≤ X.R.locals
    omega
  · rw [← hX.2.2.1]; exact (zl_size hl).trans hn
theorem aw_callS (hX : zOk X cc own nL lv) {idx n lv' maxL : Nat} {y : MethodName} {cb : ByteArray} {ret : Option FieldType} {As rest : List Value} {Post : Option Value → zM → Prop} (lk : zCS own idx y cb maxL ret n)
    (hlv : lv' < lv) (hct : zCT X.l X.G lv' y cb maxL ret As μ Post) (hlen : As.length = n) (hst : As.reverse ++ rest = st) (hr8 : (rest.map fun v => v.category).sum ≤ 8) (hd : decode cc pc = .ok (.invokestatic idx, 3))
    (kk : ∀ (rv : Option Value) (μ' : zM), Post rv μ' → AW X (pc + 3) L (rv.toList ++ rest) μ') : AW X pc L st μ := by
  intro hn H locs ls hW hS hl
  subst hst
  have hts := hX.2.2.2.2.1
  obtain ⟨w1, w2, w4, w5, w6, w7⟩ := lk
  have hf := hX.2.2.2.2.2.2.2.2.1
  refine aw_back hX rfl (va_runS (Ts := gw) (n := n) (bytes := cb) (maxL := maxL) (ret := ret) ⟨hX.1, hX.2.1, hX.2.2.1, hX.2.2.2.1, hts⟩ hct ⟨callB_of n hts (zgood w5) rfl rfl rfl (hts _ w4) (hts _ w1) w7 ⟨Nat.le_trans hlv hf.1, ?_⟩, hts _ w2⟩
    ⟨zblind, fun U hU hw => ⟨rfl, zU_here hX hW hS hU hw⟩⟩ rfl hlen ?_ rfl (lv_room hr8) hd ⟨hf.2.2.1, hf.2.2.2⟩) hS hn hl kk
  · have := hf.2.1
    show 8 + (maxL + 11) + 100 * lv' ≤ X.R.locals
    omega
  · rw [← hX.2.2.1]; exact (zl_size hl).trans hn
end ZC
/-! a call as a step's condition asks for it -/
def zI (Post : Int32 → zM → Prop) : Option Value → zM → Prop := fun rv μ' => ∃ r, rv = some (.int r) ∧ Post r μ'
def zJ (Post : Int64 → zM → Prop) : Option Value → zM → Prop := fun rv μ' => ∃ r, rv = some (.long r) ∧ Post r μ'
def zV (Post : zM → Prop) : Option Value → zM → Prop := fun rv μ' => rv = none ∧ Post μ'
def zR (G : zG) (Post : Nat → zM → Prop) : Option Value → zM → Prop := fun rv μ' => ∃ w, rv = some (.ref (G.aw w)) ∧ Post w μ'
def zCallI (X : zX) (lv : Nat) (y : MethodName) (cc : ByteArray) (maxL : Nat) (ret : Option FieldType) (av : List Value) (μ : zM) (K : Int32 → zM → Prop) : Prop := ∃ (lv' : Nat) (Post : Int32 → zM → Prop), lv' < lv ∧ zCT X.l X.G lv' y cc maxL ret av μ (zI Post) ∧ ∀ r μ', Post r μ' → K r μ'
def zCallJ (X : zX) (lv : Nat) (y : MethodName) (cc : ByteArray) (maxL : Nat) (ret : Option FieldType) (av : List Value) (μ : zM) (K : Int64 → zM → Prop) : Prop := ∃ (lv' : Nat) (Post : Int64 → zM → Prop), lv' < lv ∧ zCT X.l X.G lv' y cc maxL ret av μ (zJ Post) ∧ ∀ r μ', Post r μ' → K r μ'
def zCallV (X : zX) (lv : Nat) (y : MethodName) (cc : ByteArray) (maxL : Nat) (ret : Option FieldType) (av : List Value) (μ : zM) (K : zM → Prop) : Prop := ∃ (lv' : Nat) (Post : zM → Prop), lv' < lv ∧ zCT X.l X.G lv' y cc maxL ret av μ (zV Post) ∧ ∀ μ', Post μ' → K μ'
def zCallR (X : zX) (lv : Nat) (y : MethodName) (cc : ByteArray) (maxL : Nat) (ret : Option FieldType) (av : List Value) (μ : zM) (K : Nat → zM → Prop) : Prop := ∃ (lv' : Nat) (Post : Nat → zM → Prop), lv' < lv ∧ zCT X.l X.G lv' y cc maxL ret av μ (zR X.G Post) ∧ ∀ w μ', Post w μ' → K w μ'
section ZD
variable {X : zX} {cc : ByteArray} {own : String} {nL lv pc : Nat} {L : List (Option Value)} {st : List Value} {μ : zM}
theorem aw_invI (hX : zOk X cc own nL lv) {idx n κ o n1 ci N maxL : Nat} {y : MethodName} {cb : ByteArray} {ret : Option FieldType} {As rest : List Value} {fds : List (Nat × Nat × Nat × Nat)} {T : u_T} {K : Int32 → zM → Prop} (lk : zCV own idx y cb maxL ret n) (hs : zzSh[κ]? = some (n1, .inr (ci, fds))) (ho : o < n1) (hc : zzCl[ci]? = some (y.cls, T, N))
    (hlen : As.length = n) (hst : As.reverse ++ .ref (X.G.ad κ o) :: rest = st) (hr8 : (rest.map fun v => v.category).sum ≤ 8) (hd : decode cc pc = .ok (.invokevirtual idx, 3)) (hct : zCallI X lv y cb maxL ret (.ref (X.G.ad κ o) :: As) μ K) (kk : ∀ (r : Int32) (μ' : zM), K r μ' → AW X (pc + 3) L (.int r :: rest) μ') : AW X pc L st μ := by
  obtain ⟨lv', Post, hlv, hct, hk⟩ := hct
  refine aw_callV hX lk hs ho hc hlv hct hlen hst hr8 hd (fun rv μ' hp => ?_)
  obtain ⟨r, rfl, hp⟩ := hp
  exact kk r μ' (hk r μ' hp)
theorem aw_ivsI (hX : zOk X cc own nL lv) {idx n maxL : Nat} {y : MethodName} {cb : ByteArray} {ret : Option FieldType} {As rest : List Value} {K : Int32 → zM → Prop} (lk : zCS own idx y cb maxL ret n)
    (hlen : As.length = n) (hst : As.reverse ++ rest = st) (hr8 : (rest.map fun v => v.category).sum ≤ 8) (hd : decode cc pc = .ok (.invokestatic idx, 3)) (hct : zCallI X lv y cb maxL ret As μ K) (kk : ∀ (r : Int32) (μ' : zM), K r μ' → AW X (pc + 3) L (.int r :: rest) μ') : AW X pc L st μ := by
  obtain ⟨lv', Post, hlv, hct, hk⟩ := hct
  refine aw_callS hX lk hlv hct hlen hst hr8 hd (fun rv μ' hp => ?_)
  obtain ⟨r, rfl, hp⟩ := hp
  exact kk r μ' (hk r μ' hp)
theorem aw_invJ (hX : zOk X cc own nL lv) {idx n κ o n1 ci N maxL : Nat} {y : MethodName} {cb : ByteArray} {ret : Option FieldType} {As rest : List Value} {fds : List (Nat × Nat × Nat × Nat)} {T : u_T} {K : Int64 → zM → Prop} (lk : zCV own idx y cb maxL ret n) (hs : zzSh[κ]? = some (n1, .inr (ci, fds))) (ho : o < n1) (hc : zzCl[ci]? = some (y.cls, T, N))
    (hlen : As.length = n) (hst : As.reverse ++ .ref (X.G.ad κ o) :: rest = st) (hr8 : (rest.map fun v => v.category).sum ≤ 8) (hd : decode cc pc = .ok (.invokevirtual idx, 3)) (hct : zCallJ X lv y cb maxL ret (.ref (X.G.ad κ o) :: As) μ K) (kk : ∀ (r : Int64) (μ' : zM), K r μ' → AW X (pc + 3) L (.long r :: rest) μ') : AW X pc L st μ := by
  obtain ⟨lv', Post, hlv, hct, hk⟩ := hct
  refine aw_callV hX lk hs ho hc hlv hct hlen hst hr8 hd (fun rv μ' hp => ?_)
  obtain ⟨r, rfl, hp⟩ := hp
  exact kk r μ' (hk r μ' hp)
theorem aw_ivsJ (hX : zOk X cc own nL lv) {idx n maxL : Nat} {y : MethodName} {cb : ByteArray} {ret : Option FieldType} {As rest : List Value} {K : Int64 → zM → Prop} (lk : zCS own idx y cb maxL ret n)
    (hlen : As.length = n) (hst : As.reverse ++ rest = st) (hr8 : (rest.map fun v => v.category).sum ≤ 8) (hd : decode cc pc = .ok (.invokestatic idx, 3)) (hct : zCallJ X lv y cb maxL ret As μ K) (kk : ∀ (r : Int64) (μ' : zM), K r μ' → AW X (pc + 3) L (.long r :: rest) μ') : AW X pc L st μ := by
  obtain ⟨lv', Post, hlv, hct, hk⟩ := hct
  refine aw_callS hX lk hlv hct hlen hst hr8 hd (fun rv μ' hp => ?_)
  obtain ⟨r, rfl, hp⟩ := hp
  exact kk r μ' (hk r μ' hp)
theorem aw_invV (hX : zOk X cc own nL lv) {idx n κ o n1 ci N maxL : Nat} {y : MethodName} {cb : ByteArray} {ret : Option FieldType} {As rest : List Value} {fds : List (Nat × Nat × Nat × Nat)} {T : u_T} {K : zM → Prop} (lk : zCV own idx y cb maxL ret n) (hs : zzSh[κ]? = some (n1, .inr (ci, fds))) (ho : o < n1) (hc : zzCl[ci]? = some (y.cls, T, N))
    (hlen : As.length = n) (hst : As.reverse ++ .ref (X.G.ad κ o) :: rest = st) (hr8 : (rest.map fun v => v.category).sum ≤ 8) (hd : decode cc pc = .ok (.invokevirtual idx, 3)) (hct : zCallV X lv y cb maxL ret (.ref (X.G.ad κ o) :: As) μ K) (kk : ∀ (μ' : zM), K μ' → AW X (pc + 3) L (rest) μ') : AW X pc L st μ := by
  obtain ⟨lv', Post, hlv, hct, hk⟩ := hct
  refine aw_callV hX lk hs ho hc hlv hct hlen hst hr8 hd (fun rv μ' hp => ?_)
  obtain ⟨rfl, hp⟩ := hp
  exact kk μ' (hk μ' hp)
theorem aw_ivsV (hX : zOk X cc own nL lv) {idx n maxL : Nat} {y : MethodName} {cb : ByteArray} {ret : Option FieldType} {As rest : List Value} {K : zM → Prop} (lk : zCS own idx y cb maxL ret n)
    (hlen : As.length = n) (hst : As.reverse ++ rest = st) (hr8 : (rest.map fun v => v.category).sum ≤ 8) (hd : decode cc pc = .ok (.invokestatic idx, 3)) (hct : zCallV X lv y cb maxL ret As μ K) (kk : ∀ (μ' : zM), K μ' → AW X (pc + 3) L (rest) μ') : AW X pc L st μ := by
  obtain ⟨lv', Post, hlv, hct, hk⟩ := hct
  refine aw_callS hX lk hlv hct hlen hst hr8 hd (fun rv μ' hp => ?_)
  obtain ⟨rfl, hp⟩ := hp
  exact kk μ' (hk μ' hp)
theorem aw_invR (hX : zOk X cc own nL lv) {idx n κ o n1 ci N maxL : Nat} {y : MethodName} {cb : ByteArray} {ret : Option FieldType} {As rest : List Value} {fds : List (Nat × Nat × Nat × Nat)} {T : u_T} {K : Nat → zM → Prop} (lk : zCV own idx y cb maxL ret n) (hs : zzSh[κ]? = some (n1, .inr (ci, fds))) (ho : o < n1) (hc : zzCl[ci]? = some (y.cls, T, N))
    (hlen : As.length = n) (hst : As.reverse ++ .ref (X.G.ad κ o) :: rest = st) (hr8 : (rest.map fun v => v.category).sum ≤ 8) (hd : decode cc pc = .ok (.invokevirtual idx, 3)) (hct : zCallR X lv y cb maxL ret (.ref (X.G.ad κ o) :: As) μ K) (kk : ∀ (r : Nat) (μ' : zM), K r μ' → AW X (pc + 3) L (.ref (X.G.aw r) :: rest) μ') : AW X pc L st μ := by
  obtain ⟨lv', Post, hlv, hct, hk⟩ := hct
  refine aw_callV hX lk hs ho hc hlv hct hlen hst hr8 hd (fun rv μ' hp => ?_)
  obtain ⟨r, rfl, hp⟩ := hp
  exact kk r μ' (hk r μ' hp)
theorem aw_ivsR (hX : zOk X cc own nL lv) {idx n maxL : Nat} {y : MethodName} {cb : ByteArray} {ret : Option FieldType} {As rest : List Value} {K : Nat → zM → Prop} (lk : zCS own idx y cb maxL ret n)
    (hlen : As.length = n) (hst : As.reverse ++ rest = st) (hr8 : (rest.map fun v => v.category).sum ≤ 8) (hd : decode cc pc = .ok (.invokestatic idx, 3)) (hct : zCallR X lv y cb maxL ret As μ K) (kk : ∀ (r : Nat) (μ' : zM), K r μ' → AW X (pc + 3) L (.ref (X.G.aw r) :: rest) μ') : AW X pc L st μ := by
  obtain ⟨lv', Post, hlv, hct, hk⟩ := hct
  refine aw_callS hX lk hlv hct hlen hst hr8 hd (fun rv μ' hp => ?_)
  obtain ⟨r, rfl, hp⟩ := hp
  exact kk r μ' (hk r μ' hp)
end ZD
