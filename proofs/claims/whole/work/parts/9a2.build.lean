/-! BUILDING: the world while constructors run, a list of cells, one behind the other from sz on -/
def bws (b : Nat) (E : List va_E) : va_W := E.zipIdx.map (fun e => (b + e.2, e.1))
theorem bws_at {b : Nat} {E : List va_E} (i : Nat) : (bws b E)[i]? = (E[i]?).map (fun e => (b + i, e)) := by
  simp only [bws, List.getElem?_map, List.getElem?_zipIdx, Option.map_map]
  congr 1
  funext e
  simp
theorem bws_some {b : Nat} {E : List va_E} {i : Nat} {e : va_E} (h : E[i]? = some e) : (bws b E)[i]? = some (b + i, e) := by rw [bws_at, h]; rfl
theorem bws_inv {b : Nat} {E : List va_E} {i : Nat} {q : Nat × va_E} (h : (bws b E)[i]? = some q) : E[i]? = some q.2 ∧ q.1 = b + i := by
  rw [bws_at] at h
  obtain ⟨e, h1, rfl⟩ := Option.map_eq_some_iff.mp h
  exact ⟨h1, rfl⟩
theorem bws_len {b : Nat} {E : List va_E} : (bws b E).length = E.length := by simp [bws]
theorem bws_set {b : Nat} {E : List va_E} {i : Nat} {e : va_E} : (bws b E).set i (b + i, e) = bws b (E.set i e) := by
  apply List.ext_getElem?
  intro j
  rw [bws_at, List.getElem?_set, List.getElem?_set, bws_len, bws_at]
  by_cases h : i = j
  · subst h
    rw [if_pos rfl, if_pos rfl]
    split <;> rfl
  · rw [if_neg h, if_neg h]
theorem bws_push {b : Nat} {E : List va_E} {e : va_E} : bws b E ++ [(b + E.length, e)] = bws b (E ++ [e]) := by
  simp [bws, List.zipIdx_append]
def bW (G : zG) (E : List va_E) (H : Heap) : Prop := va_P G.1 zzCl (bws G.sz E) H
theorem bD {G : zG} {E : List va_E} : va_D (zA G) (bws G.sz E) := by
  refine ⟨fun i j p q h1 h2 h3 => ?_, fun k q h => ?_⟩
  · have a := (bws_inv h1).2
    have b := (bws_inv h2).2
    omega
  · have a := (bws_inv h).2
    show G.sz ≤ q.1
    omega
/-- words that stay and that calls don't carry along by themselves -/
def bN (U : State) : Prop := va_Nw (.methodLinkNest RX2 27 yX7_init "RainLoans") U ∧ va_AO "RainLoans$Terms" U ∧ va_AO "RainLoans$Book" U ∧ va_AO "RainLoans$Mark" U ∧ va_AO "RainLoans$Word" U
theorem bN_warm {U V : State} (hw : U.WarmedH V.vm) (h : bN U) : bN V := ⟨va_Nw.warmM hw h.1, va_AO.moved hw.alike h.2.1, va_AO.moved hw.alike h.2.2.1, va_AO.moved hw.alike h.2.2.2.1, va_AO.moved hw.alike h.2.2.2.2⟩
def NW (X : zX) (pc : Nat) (L : List (Option Value)) (S : List Value) (E : List va_E) (ce sl : Nat) : Prop :=
  L.length = X.c.maxLocals → ∀ (H : Heap) (locs : List Loc) (ls : Array Slot), bW X.G E H → va_S (zA X.G) X.s.heap H locs → zl ls L → W X.p X.l X.e X.R X.s X.m X.args X.below X.meth X.c H locs ce sl X.Q (F0 X.m pc ls S)
/-- what a building method knows: n0 cells lay there when it began -/
def bOk (X : zX) (n0 : Nat) : Prop := X.s.heap.size = X.G.sz + n0 ∧ bN X.s
section BR
variable {X : zX} {cc : ByteArray} {own : String} {nL lv pc n0 ce sl : Nat} {L : List (Option Value)} {st : List Value} {E : List va_E}
theorem bw_cong {E' : List va_E} {ce' sl' : Nat} (hE : E' = E) (hc : ce' = ce) (hs : sl' = sl) (k : NW X pc L st E' ce' sl') : NW X pc L st E ce sl := by subst hE; subst hc; subst hs; exact k
theorem bw_iconst (hX : zOk X cc own nL lv) {n : Int} {v : Int32} (hd : decode cc pc = .ok (.iconst n, 1)) (hv : Int32.ofInt n = v) (k : NW X (pc + 1) L (.int v :: st) E ce sl) : NW X pc L (st) E ce sl := fun hn H locs ls hW hS hl => lv_iconst hX.1 hX.2.1 hd hv (k hn H locs ls hW hS hl)
theorem bw_bipush (hX : zOk X cc own nL lv) {n : Int} {v : Int32} (hd : decode cc pc = .ok (.bipush n, 2)) (hv : (Int8.ofInt n).toInt32 = v) (k : NW X (pc + 2) L (.int v :: st) E ce sl) : NW X pc L (st) E ce sl := fun hn H locs ls hW hS hl => lv_bipush hX.1 hX.2.1 hd hv (k hn H locs ls hW hS hl)
theorem bw_sipush (hX : zOk X cc own nL lv) {n : Int} {v : Int32} (hd : decode cc pc = .ok (.sipush n, 3)) (hv : (Int16.ofInt n).toInt32 = v) (k : NW X (pc + 3) L (.int v :: st) E ce sl) : NW X pc L (st) E ce sl := fun hn H locs ls hW hS hl => lv_sipush hX.1 hX.2.1 hd hv (k hn H locs ls hW hS hl)
theorem bw_iload_n (hX : zOk X cc own nL lv) {k : Fin 4} {x : Int32} (hd : decode cc pc = .ok (.iload_n k, 1)) (hi : L[(k : Nat)]? = some (some (.int x))) (k : NW X (pc + 1) L (.int x :: st) E ce sl) : NW X pc L (st) E ce sl := fun hn H locs ls hW hS hl => lv_iload_n hX.1 hX.2.1 hd rfl (zl_at hl hi) (k hn H locs ls hW hS hl)
theorem bw_aload_n (hX : zOk X cc own nL lv) {k : Fin 4} {x : Nat} (hd : decode cc pc = .ok (.aload_n k, 1)) (hi : L[(k : Nat)]? = some (some (.ref x))) (k : NW X (pc + 1) L (.ref x :: st) E ce sl) : NW X pc L (st) E ce sl := fun hn H locs ls hW hS hl => lv_aload_n hX.1 hX.2.1 hd rfl (zl_at hl hi) (k hn H locs ls hW hS hl)
theorem bw_dup (hX : zOk X cc own nL lv) {v : Value} (hd : decode cc pc = .ok (.dup, 1)) (hv : v.category = 1) (k : NW X (pc + 1) L (v :: v :: st) E ce sl) : NW X pc L (v :: st) E ce sl := fun hn H locs ls hW hS hl => lv_dup hX.1 hX.2.1 hd hv (k hn H locs ls hW hS hl)
theorem bw_istore_n (hX : zOk X cc own nL lv) {i : Fin 4} {x : Int32} {L' : List (Option Value)} (hd : decode cc pc = .ok (.istore_n i, 1)) (hi : (i : Nat) < L.length) (hl' : zst1 L i (.int x) = L') (k : NW X (pc + 1) L' st E ce sl) : NW X pc L (.int x :: st) E ce sl := fun hn H locs ls hW hS hl => lv_istore_n hX.1 hX.2.1 hd rfl hl hi rfl (fun ls' h' => k (by subst hl'; exact (by rw [zst1, List.length_set, zkill_len]; exact hn)) H locs ls' hW hS (by subst hl'; exact zl_st1 hi h'))
theorem bw_istore (hX : zOk X cc own nL lv) {i : Nat} {x : Int32} {L' : List (Option Value)} (hd : decode cc pc = .ok (.istore i, 2)) (hi : i < L.length) (hl' : zst1 L i (.int x) = L') (k : NW X (pc + 2) L' st E ce sl) : NW X pc L (.int x :: st) E ce sl := fun hn H locs ls hW hS hl => lv_istore hX.1 hX.2.1 hd hl hi rfl (fun ls' h' => k (by subst hl'; exact (by rw [zst1, List.length_set, zkill_len]; exact hn)) H locs ls' hW hS (by subst hl'; exact zl_st1 hi h'))
theorem bw_iload (hX : zOk X cc own nL lv) {i : Nat} {x : Int32} (hd : decode cc pc = .ok (.iload i, 2)) (hi : L[i]? = some (some (.int x))) (k : NW X (pc + 2) L (.int x :: st) E ce sl) : NW X pc L (st) E ce sl := fun hn H locs ls hW hS hl => lv_iload hX.1 hX.2.1 hd (zl_at hl hi) (k hn H locs ls hW hS hl)
theorem bw_iinc (hX : zOk X cc own nL lv) {i : Nat} {n : Int} {x v : Int32} {L' : List (Option Value)} (hd : decode cc pc = .ok (.iinc i n, 3)) (hx : L[i]? = some (some (.int x))) (hv : x + Int32.ofInt n = v) (hi : i < L.length) (hl' : zst1 L i (.int v) = L') (k : NW X (pc + 3) L' st E ce sl) : NW X pc L st E ce sl := fun hn H locs ls hW hS hl => by
  obtain ⟨j, hj⟩ := List.getElem?_of_mem (zlp_mem.mpr hx)
  exact lv_iinc hX.1 hX.2.1 hd hl hj hv hi rfl (fun ls' h' => k (by subst hl'; exact (by rw [zst1, List.length_set, zkill_len]; exact hn)) H locs ls' hW hS (by subst hl'; exact zl_st1 hi h'))
theorem bw_icmp_ge (hX : zOk X cc own nL lv) {x y : Int32} {off : Int} {tgt : Nat} (hd : decode cc pc = .ok (.if_icmp .ge off, 3)) (ht : (pc : Int) + off = (tgt : Int)) (kt : y ≤ x → NW X tgt L st E ce sl) (kf : ¬ y ≤ x → NW X (pc + 3) L st E ce sl) : NW X pc L (.int y :: .int x :: st) E ce sl := fun hn H locs ls hW hS hl => lv_icmp_ge hX.1 hX.2.1 hd ht (fun q => kt q hn H locs ls hW hS hl) (fun q => kf q hn H locs ls hW hS hl)
theorem bw_icmp_gt (hX : zOk X cc own nL lv) {x y : Int32} {off : Int} {tgt : Nat} (hd : decode cc pc = .ok (.if_icmp .gt off, 3)) (ht : (pc : Int) + off = (tgt : Int)) (kt : y < x → NW X tgt L st E ce sl) (kf : ¬ y < x → NW X (pc + 3) L st E ce sl) : NW X pc L (.int y :: .int x :: st) E ce sl := fun hn H locs ls hW hS hl => lv_icmp_gt hX.1 hX.2.1 hd ht (fun q => kt q hn H locs ls hW hS hl) (fun q => kf q hn H locs ls hW hS hl)
theorem bw_goto (hX : zOk X cc own nL lv) {off : Int} {tgt : Nat} (hd : decode cc pc = .ok (.goto off, 3)) (ht : (pc : Int) + off = (tgt : Int)) (k : NW X tgt L st E ce sl) : NW X pc L st E ce sl := fun hn H locs ls hW hS hl => lv_goto hX.1 hX.2.1 hd ht (k hn H locs ls hW hS hl)
theorem bw_astore_n (hX : zOk X cc own nL lv) {i : Fin 4} {x : Nat} {L' : List (Option Value)} (hd : decode cc pc = .ok (.astore_n i, 1)) (hi : (i : Nat) < L.length) (hl' : zst1 L i (.ref x) = L') (k : NW X (pc + 1) L' st E ce sl) : NW X pc L (.ref x :: st) E ce sl := fun hn H locs ls hW hS hl => lv_astore_n hX.1 hX.2.1 hd rfl hl hi rfl (fun ls' h' => k (by subst hl'; exact (by rw [zst1, List.length_set, zkill_len]; exact hn)) H locs ls' hW hS (by subst hl'; exact zl_st1 hi h'))
theorem bw_obj (hX : zOk X cc own nL lv) {idx a : Nat} (lk : Cond.methodLink own idx Lib.objectInit ∈ gw ∧ Cond.instanceMethod Lib.objectInit ∈ gw ∧ Cond.code Lib.objectInit ⟨#[0xb1]⟩ 1 none ∈ gw) (h1 : 0 < lv) (hr8 : (st.map fun v => v.category).sum ≤ 8) (hd : decode cc pc = .ok (.invokespecial idx, 3)) (k : NW X (pc + 3) L st E ce sl) : NW X pc L (.ref a :: st) E ce sl := by
  intro hn H locs ls hW hS hl
  have hts := hX.2.2.2.2.1
  have hz := hX.2.2.2.2.2.2.2.2.1
  exact W.objInit hX.1 hX.2.1 hX.2.2.2.1 (hts _ lk.1) (hts _ lk.2.1) (hts _ lk.2.2) rfl ((zl_size hl).trans hn) rfl hd (by omega) (by have h12 := lv_room (m := X.m) (pc := pc) (ls := ls) (rest := .ref a :: st) hr8; omega) (k hn H locs ls hW hS hl)
theorem b_top {G : zG} {E : List va_E} {e : va_E} {q : Nat} {A : Nat → Prop} {H : Heap} {D : va_G} {cl : List vw_C} (hP : va_P D cl (bws G.sz E ++ [(q, e)]) H) (hD : va_D (zA G) (bws G.sz E ++ [(q, e)])) (hs : H.size ≤ G.sz + E.length + 1) : q = G.sz + E.length := by
  have hl : (bws G.sz E ++ [(q, e)])[E.length]? = some (q, e) := by
    rw [List.getElem?_append_right (by rw [bws_len]; exact Nat.le_refl _), bws_len, Nat.sub_self]; rfl
  have h1 : G.sz ≤ q := hD.2 _ _ hl
  have h2 : q < H.size := (hP _ _ hl).lt
  rcases Nat.lt_or_ge q (G.sz + E.length) with h | h
  · exfalso
    have hi : q - G.sz < E.length := by omega
    have := hD.1 (q - G.sz) E.length (G.sz + (q - G.sz), E[q - G.sz]) (q, e) (by
      rw [List.getElem?_append_left (by rw [bws_len]; exact hi), bws_at, List.getElem?_eq_getElem hi]; rfl) hl (by show G.sz + (q - G.sz) = q; omega)
    omega
  · omega
def zLC (own : String) (idx ci : Nat) (C : String) (T : u_T) (N : Nat) (ty0 : Nat → FieldType) : Prop := zzCl[ci]? = some (C, T, N) ∧ (∀ w ∈ u_ws C T N, w ∈ gw) ∧ (∀ k, k < N → parseFieldDescriptor (T k).2.2.1 = some (ty0 k)) ∧ Cond.classLink own idx C ∈ gw ∧ Cond.instantiable C N ∈ gw ∧ Cond.initialized C ∈ gw
theorem bw_new (hX : zOk X cc own nL lv) (hb : bOk X n0) (hE : E.length = n0 + ce) {idx ci N : Nat} {C : String} {T : u_T} {ty0 : Nat → FieldType} {fs : List Value} (lk : zLC own idx ci C T N ty0) (hfs : ∀ j, j < N → defaultValue (ty0 j) = vp_V fs j) (hc : ce + 1 ≤ X.R.cells) (hs : sl + N ≤ X.R.slots) (hd : decode cc pc = .ok (.new idx, 3))
    {a : Nat} (ha : a = X.G.sz + E.length) (k : NW X (pc + 3) L (.ref a :: st) (E ++ [.inr (ci, fs)]) (ce + 1) (sl + N)) : NW X pc L st E ce sl := by
  intro hn H locs ls hW hS hl
  have hts := hX.2.2.2.2.1
  obtain ⟨h1, h2, h3, h4, h5, h6⟩ := lk
  refine va_new hX.1 hX.2.1 hts h2 ty0 h3 hX.2.2.2.1 (hts _ h4) (hts _ h5) (hts _ h6) hX.2.2.2.2.2.1 hW bD hS (fun q h => by show X.G.sz ≤ q; have := hb.1; omega) h1 hfs hc hs hd (fun q H1 hP1 hD1 hS1 => ?_)
  intro T1 hT S
  have hz := S.same.2.2.1
  have hz : T1.heap.size ≤ X.s.heap.size + (ce + 1) := hz
  have e1 : q = X.G.sz + E.length := b_top (A := zA X.G) hP1 hD1 (by have := hb.1; rw [← hT]; omega)
  rw [e1, bws_push] at hP1
  rw [e1, ← ha] at *
  exact k hn H1 locs ls hP1 hS1 hl T1 hT S
theorem b_ra {s : State} {c d : ClassId} {ty : FieldType} (h1 : va_RA s c ty) (h2 : va_RA s d ty) : c = d := by
  cases ty with
  | object C =>
    obtain ⟨_, _, _, _, _, h⟩ := h1
    obtain ⟨_, _, _, _, _, g⟩ := h2
    exact Option.some.inj (h.symm.trans g)
  | _ => exact Option.some.inj (Eq.trans (Eq.symm h1) h2)
theorem b_last {α : Type} (l : List α) (x : α) : (l ++ [x])[l.length]? = some x := by simp
theorem bw_newa (hX : zOk X cc own nL lv) (hb : bOk X n0) (hE : E.length = n0 + ce) {atype : ArrayType} {t : Nat} {ty : FieldType} {n : Int32} {N : Nat} {a0 : vp_A} (harr : Cond.arrayClass (newarray.typeOf atype) ∈ gw) (hty : newarray.typeOf atype = ty) (ht : (zty X.G)[t]? = some (X.G.cA t, ty)) (ha0 : ∀ cA : ClassId, vp_cell cA a0 = arrV cA N (fun _ => defaultValue ty)) (hn0 : ¬ n < 0) (hN : n.toNatClampNeg = N) (hby : N * componentBytes ty ≤ 536870912) (hc : ce + 1 ≤ X.R.cells) (hs : sl + N ≤ X.R.slots) (hd : decode cc pc = .ok (.newarray atype, 2))
    {a : Nat} (ha : a = X.G.sz + E.length) (k : NW X (pc + 2) L (.ref a :: st) (E ++ [.inl (X.G.cA t, a0)]) (ce + 1) (sl + N)) : NW X pc L (.int n :: st) E ce sl := by
  intro hn H locs ls hW hS hl
  have hts := hX.2.2.2.2.1
  refine va_newa hX.1 hX.2.1 (hts _ harr) hty hX.2.2.2.2.2.1 hW bD hS (fun q h => by show X.G.sz ≤ q; have := hb.1; omega) ha0 hn0 hN hby hc hs hd (fun q cA H1 hK1 hP1 hD1 hS1 => ?_)
  have ec : cA = X.G.cA t := b_ra (hK1.2 _ _ (b_last _ _)).2 (hX.2.2.2.2.2.1.2 _ _ ht).2
  subst ec
  intro T1 hT S
  have hz : T1.heap.size ≤ X.s.heap.size + (ce + 1) := S.same.2.2.1
  have e1 : q = X.G.sz + E.length := b_top (A := zA X.G) hP1 hD1 (by have := hb.1; rw [← hT]; omega)
  rw [e1, bws_push] at hP1
  rw [e1, ← ha] at *
  exact k hn H1 locs ls hP1 hS1 hl T1 hT S
theorem bw_newq (hX : zOk X cc own nL lv) (hb : bOk X n0) (hE : E.length = n0 + ce) {idx t : Nat} {C : String} {n : Int32} {N : Nat} (hcl : Cond.classLink own idx C ∈ gw) (hover : va_AO C X.s) (ht : (zty X.G)[t]? = some (X.G.cA t, .object C)) (hn0 : ¬ n < 0) (hN : n.toNatClampNeg = N) (hby : N * 4 ≤ 536870912) (hc : ce + 1 ≤ X.R.cells) (hs : sl + N ≤ X.R.slots) (hd : decode cc pc = .ok (.anewarray idx, 3))
    {a : Nat} (ha : a = X.G.sz + E.length) (k : NW X (pc + 3) L (.ref a :: st) (E ++ [.inl (X.G.cA t, N, .inr (.inr (.inr (.inr (fun _ => none)))))]) (ce + 1) (sl + N)) : NW X pc L (.int n :: st) E ce sl := by
  intro hn H locs ls hW hS hl
  have hts := hX.2.2.2.2.1
  refine va_newq hX.1 hX.2.1 hX.2.2.2.1 (hts _ hcl) hover hX.2.2.2.2.2.1 hW bD hS (fun q h => by show X.G.sz ≤ q; have := hb.1; omega) hn0 hN hby hc hs hd (fun q cA H1 hK1 hP1 hD1 hS1 => ?_)
  have ec : cA = X.G.cA t := b_ra (hK1.2 _ _ (b_last _ _)).2 (hX.2.2.2.2.2.1.2 _ _ ht).2
  subst ec
  intro T1 hT S
  have hz : T1.heap.size ≤ X.s.heap.size + (ce + 1) := S.same.2.2.1
  have e1 : q = X.G.sz + E.length := b_top (A := zA X.G) hP1 hD1 (by have := hb.1; rw [← hT]; omega)
  rw [e1, bws_push] at hP1
  rw [e1, ← ha] at *
  exact k hn H1 locs ls hP1 hS1 hl T1 hT S
def zLF (own : String) (idx ci k : Nat) (ty : FieldType) : Prop := ∃ (T : u_T) (N : Nat) (ty0 : Nat → FieldType), zzCl[ci]? = some (own, T, N) ∧ k < N ∧ (∀ w ∈ u_ws own T N, w ∈ gw) ∧ Cond.fieldLink own idx (T k).1 (T k).2.1 (T k).2.2.1 ∈ gw ∧ (∀ k, k < N → parseFieldDescriptor (T k).2.2.1 = some (ty0 k)) ∧ (∀ a, a < N → ∀ b, b < N → a ≠ b → (T a).2.1 ≠ (T b).2.1) ∧ (T k).2.2.2 = true ∧ (T k).1 = own ∧ ty0 k = ty
theorem bw_put (hX : zOk X cc own nL lv) (hI : X.meth.name = "<init>") {idx ci k i a : Nat} {ty : FieldType} {v : Value} {fs : List Value} {E' : List va_E} (lk : zLF own idx ci k ty) (he : E[i]? = some (.inr (ci, fs))) (ha : a = X.G.sz + i) (hna : narrow ty v = v) (hfi : fits ty v = true) (hl2 : k < fs.length) (hd : decode cc pc = .ok (.putfield idx, 3))
    (hE' : E.set i (.inr (ci, fs.set k v)) = E') (kk : NW X (pc + 3) L st E' ce sl) : NW X pc L (v :: .ref a :: st) E ce sl := by
  intro hn H locs ls hW hS hl
  subst ha; subst hE'
  obtain ⟨T, N, ty0, hc, hk, hin, hlink, hty, hnm, hfin, hdecl, ht⟩ := lk
  refine va_putF hX.1 hX.2.1 (Ts := gw) hX.2.2.2.2.1 hin ty0 hty hnm hX.2.2.2.1 hX.2.2.2.2.2.1 hW bD hS i (bws_some he) hc k hk (hX.2.2.2.2.1 _ hlink) (fun _ h => h) hfin hI hdecl (by rw [hty k hk, ht]) hna hfi hl2 hd (fun H1 locs1 hP1 hD1 hS1 => ?_)
  rw [bws_set] at hP1
  exact kk hn H1 locs1 ls hP1 hS1 hl
theorem bw_get (hX : zOk X cc own nL lv) {idx ci k i a : Nat} {v : Value} {fs : List Value} (lk : zLk own idx ci k) (he : E[i]? = some (.inr (ci, fs))) (ha : a = X.G.sz + i) (hv : fs[k]? = some v) (hd : decode cc pc = .ok (.getfield idx, 3)) (kk : NW X (pc + 3) L (v :: st) E ce sl) : NW X pc L (.ref a :: st) E ce sl := by
  intro hn H locs ls hW hS hl
  subst ha
  obtain ⟨C, T, N, hc, hk, hin, hlink⟩ := lk
  exact va_get hX.1 hX.2.1 (Ts := gw) hX.2.2.2.2.1 hin hX.2.2.2.1 hX.2.2.2.2.2.1 hW i (bws_some he) hc k hk (hX.2.2.2.2.1 _ hlink) (fun _ h => h) hv hd (kk hn H locs ls hW hS hl)
theorem bw_ast (hX : zOk X cc own nL lv) {t ci i j a v n : Nat} {x : Int32} {r : vw_C} {vs : List Value} {f : Nat → Option Nat} {E' : List va_E} (he : E[i]? = some (.inl (X.G.cA t, n, .inr (.inr (.inr (.inr f)))))) (ha : a = X.G.sz + i) (ht : (zty X.G)[t]? = some (X.G.cA t, .object r.1)) (hj : E[j]? = some (.inr (ci, vs))) (hv : v = X.G.sz + j) (hc : zzCl[ci]? = some r) (hin : vp_in x n) (hd : decode cc pc = .ok (.aastore, 1))
    (hE' : E.set i (.inl (X.G.cA t, n, .inr (.inr (.inr (.inr (va_up f x.toNatClampNeg (some v))))))) = E') (kk : NW X (pc + 1) L st E' ce sl) : NW X pc L (.ref v :: .int x :: .ref a :: st) E ce sl := by
  intro hn H locs ls hW hS hl
  subst ha; subst hE'
  refine va_astq hX.1 hX.2.1 hX.2.2.2.2.2.1 hW bD hS i t j ci (bws_some he) ht (by rw [hv]; exact bws_some hj) hc hin hd (fun H1 locs1 hP1 hD1 hS1 => ?_)
  rw [bws_set] at hP1
  exact kk hn H1 locs1 ls hP1 hS1 hl
theorem bw_astW (hE0 : zHas X.G) (hX : zOk X cc own nL lv) {i a n w : Nat} {x : Int32} {f : Nat → Option Nat} {E' : List va_E} (hw : w < 28) (he : E[i]? = some (.inl (X.G.cA 7, n, .inr (.inr (.inr (.inr f)))))) (ha : a = X.G.sz + i) (hin : vp_in x n) (hd : decode cc pc = .ok (.aastore, 1))
    (hE' : E.set i (.inl (X.G.cA 7, n, .inr (.inr (.inr (.inr (va_up f x.toNatClampNeg (some (X.G.aw w)))))))) = E') (kk : NW X (pc + 1) L st E' ce sl) : NW X pc L (.ref (X.G.aw w) :: .int x :: .ref a :: st) E ce sl := by
  intro hn H locs ls hW hS hl
  subst ha; subst hE'
  refine va_astqM hX.1 hX.2.1 hX.2.2.2.2.2.1 hW bD hS i 7 (bws_some he) rfl (zAny hE0 hX hw hS) hin hd (fun H1 locs1 hP1 hD1 hS1 => ?_)
  rw [bws_set] at hP1
  exact kk hn H1 locs1 ls hP1 hS1 hl
theorem bw_gsE (hE0 : zHas X.G) (hX : zOk X cc own nL lv) {idx i : Nat} {n : String} (hi : i < 28) (hn : zWn.getD i "" = n) (lk : Cond.fieldLink own idx RX8 n "LRainLoans$Word;" ∈ gw) (hd : decode cc pc = .ok (.getstatic idx, 3)) (k : NW X (pc + 3) L (.ref (X.G.aw i) :: st) E ce sl) : NW X pc L st E ce sl := by
  intro hnn H locs ls hW hS hl
  subst hn
  exact va_gets hX.1 hX.2.1 ((zE hE0 hX).1.1 i hi).1 hS hX.2.2.2.1 (hX.2.2.2.2.1 _ lk) (fun _ h => h) hd (k hnn H locs ls hW hS hl)
/-- a row's elements beyond its length don't count -/
theorem bw_row {i n : Nat} {cA : ClassId} {f g : Nat → Option Nat} {E' : List va_E} (he : E[i]? = some (.inl (cA, n, .inr (.inr (.inr (.inr f)))))) (hfg : ∀ j, j < n → f j = g j) (hE' : E.set i (.inl (cA, n, .inr (.inr (.inr (.inr g))))) = E') (k : NW X pc L st E' ce sl) : NW X pc L st E ce sl := by
  intro hn H locs ls hW hS hl
  subst hE'
  refine k hn H locs ls (fun j q hq => ?_) hS hl
  obtain ⟨h1, h2⟩ := bws_inv hq
  rw [List.getElem?_set] at h1
  by_cases hij : i = j
  · subst hij
    rw [if_pos rfl] at h1
    split at h1
    · obtain ⟨q1, q2⟩ := q
      have h1 := Option.some.inj h1
      dsimp only at h1 h2
      subst h1; subst h2
      have h3 := hW i _ (bws_some he)
      show H[X.G.sz + i]? = some (vp_cell _ _)
      have h3 : H[X.G.sz + i]? = some (vp_cell _ _) := h3
      rw [h3, vp_cell_q, vp_cell_q]
      congr 1
      unfold arrV
      congr 2
      funext z
      show va_rf (f z) = va_rf (g z)
      rw [hfg _ z.2]
    · cases h1
  · rw [if_neg hij] at h1
    exact hW j q (by rw [bws_at, h1]; obtain ⟨q1, q2⟩ := q; dsimp only at h2 ⊢; rw [h2]; rfl)
end BR
/-! contracts of constructors -/
def nU (G : zG) (E : List va_E) (U : State) : Prop := U.heap.size = G.sz + E.length ∧ bW G E U.heap ∧ va_K G.1 zzCl (zty G) U ∧ zstay G ∧ G.sx U U.heap ∧ bN U
def bQc (G : zG) (E : List va_E) : Array Value → State → Outcome → State → Prop := fun _ st oc t => (oc = .returned none ∧ bW G E t.heap) ∧ va_F (zA G) st t
/-- the constructor y of the thing at a: from the cells E to the cells E' -/
def bCT (l : Launch) (G : zG) (lv mc ms : Nat) (y : MethodName) (cc : ByteArray) (maxL a : Nat) (E E' : List va_E) : Prop :=
  Met l y (zmw y cc maxL none) ({ frames := lv, cells := mc, slots := ms, locals := 100 * lv }) (va_Pc [.ref a] (nU G E)) (bQc G E') mc ms (zA G)
def bRt (X : zX) (E : List va_E) (mc ms : Nat) : Prop := X.meth.sig.returnType = none ∧ X.Q = MQ X.below (bQc X.G E) X.args X.s mc ms (zA X.G)
theorem bCT_of {l : Launch} {G : zG} {lv mc ms : Nat} {y : MethodName} {cc : ByteArray} {maxL a : Nat} {E E' : List va_E} (hy : plainName y.cls = true) (hnm : y.name = "<init>") (hlen : 1 ≤ maxL)
    (h : ∀ X : zX, X.l = l → X.G = G → zOk X cc y.cls maxL lv → bOk X E.length → X.meth.name = "<init>" → X.R.cells = mc → X.R.slots = ms → bRt X E' mc ms → NW X 0 (some (.ref a) :: List.replicate (maxL - 1) none) [] E 0 0) : bCT l G lv mc ms y cc maxL a E E' := by
  refine Met.ofW (cc := cc) (maxL := maxL) (ret := none) hy rfl ?_
  intro p e s m args below meth c s₁ B hml hv
  obtain ⟨rfl, hsz, hW, hK, hst, hsx, hN⟩ := hv
  have hts := atoms_spec (ws := zmw y cc maxL none) B.pre
  have hown : s.vm.findClass y.cls = some m.cls := findClass_of_methodNamed B.named
  have hin : meth.name = "<init>" := (name_of_methodNamed B.named B.method).1.trans hnm
  have A := h (p, l, e, { frames := lv, cells := mc, slots := ms, locals := 100 * lv }, s, m, [Value.ref a].toArray, below, meth, c, G, 0, 0, MQ below (bQc G E') [Value.ref a].toArray s mc ms (zA G)) rfl rfl
    ⟨B.exec, B.bytes, hml, hown, fun w hw => hts w (List.mem_cons_of_mem _ hw), hK, by show G.sz ≤ s.heap.size; omega, B.notSynchronized, ⟨Nat.le_refl _, Nat.le_refl _, Nat.zero_le _, Nat.zero_le _⟩, hst, hsx⟩ ⟨hsz, hN⟩ hin rfl rfl ⟨B.returns, rfl⟩
  rw [lg_entry_eq]
  have hz := zent_zl (av := [.ref a]) (n := maxL) hlen
  have hq := zent_len (av := [.ref a]) (n := maxL) hlen
  exact A (by rw [show some (Value.ref a) :: List.replicate (maxL - 1) none = zent [.ref a] maxL from rfl, hq]; exact hml.symm) s.heap [] _ hW va_S.rf hz
section BC
variable {X : zX} {cc : ByteArray} {own : String} {nL lv pc n0 ce sl : Nat} {L : List (Option Value)} {st : List Value} {E : List va_E}
theorem bw_ret {mc ms : Nat} {E' : List va_E} (hX : zOk X cc own nL lv) (hr : bRt X E' mc ms) (hc : ce = mc) (hs : sl = ms) (hE : E = E') (hd : decode cc pc = .ok (.return_, 1)) : NW X pc L [] E ce sl := by
  intro hn H locs ls hW hS hl
  subst hc; subst hs; subst hE
  rw [hr.2]
  exact W.vret hX.1 hX.2.1 hr.1 (fun t ht hw => ⟨⟨rfl, by rw [ht]; exact hW⟩, hS.F ht⟩) hS.2.2 hd hX.2.2.2.2.2.2.2.1
theorem b_size (hb : bOk X n0) (hE : E.length = n0 + ce) (h0 : 0 < E.length) {H : Heap} (hW : bW X.G E H) (hz : H.size ≤ X.s.heap.size + ce) : H.size = X.G.sz + E.length := by
  have := hb.1
  have hi : E.length - 1 < E.length := by omega
  have hg : E[E.length - 1]? = some E[E.length - 1] := List.getElem?_eq_getElem hi
  have hlt := (hW _ _ (bws_some hg)).lt
  have hlt : X.G.sz + (E.length - 1) < H.size := hlt
  omega
theorem bU_here (hX : zOk X cc own nL lv) (hb : bOk X n0) {H : Heap} {locs : List Loc} (hW : bW X.G E H) (hz : H.size = X.G.sz + E.length) (hS : va_S (zA X.G) X.s.heap H locs) {U : State} (hU : U.heap = H) (hw : X.s.WarmedH U.vm) : nU X.G E U := by
  obtain ⟨h1, h2, h3, h4, h5, h6, h7, h8, h9, h10, h11⟩ := hX
  subst hU
  exact ⟨hz, hW, va_K.moved hw.alike h6, h10, h10 _ _ _ _ hw hS.1 (fun q hq => hS.2.1 q (Nat.lt_of_lt_of_le hq h7) (fun z => by unfold zA at z; omega)) h11, bN_warm hw hb.2⟩
theorem bblind {G : zG} {E : List va_E} {av : List Value} : FrameBlind (va_Pc av (nU G E)) := by
  intro a U g mk q
  obtain ⟨q0, q1, q2, q3, q4, q5, q6⟩ := q
  exact ⟨q0, q1, q2, va_K.moved (u := U) (U := U.calling g mk a) (Vm.Alike.refl U.vm) q3, q4, q4 _ _ _ _ (State.WarmedH.refl U) (Nat.le_refl _) (fun _ _ => rfl) q5, bN_warm (State.WarmedH.refl U) q6⟩
theorem bw_back (hX : zOk X cc own nL lv) {mc ms : Nat} {E' : List va_E} {H : Heap} {locs : List Loc} {ls : Array Slot} {st0 rest : List Value} {a : Array Value}
    (hr : va_Run X.p X.l X.e X.R X.s X.m X.args X.below X.meth X.c H locs ce sl mc ms (F0 X.m pc ls st0) rest (bQc X.G E' a) (zA X.G)) (hS : va_S (zA X.G) X.s.heap H locs) (hn : L.length = X.c.maxLocals) (hl : zl ls L)
    (kk : NW X (pc + 3) L rest E' (ce + mc) (sl + ms)) : W X.p X.l X.e X.R X.s X.m X.args X.below X.meth X.c H locs ce sl X.Q (F0 X.m pc ls st0) := by
  intro T hT S
  obtain ⟨v, st₀, t, T', L1, h0, S', hL, e1, e2, ⟨⟨hv, hp⟩, hz, hk⟩, stp⟩ := hr T hT S
  cases hv
  rw [h0] at hz hk
  have hS' : va_S (zA X.G) X.s.heap T'.heap (locs ++ L1) := ⟨Nat.le_trans hS.1 (by rw [e1]; exact hz), fun q h1 h2 => by rw [e1, hk q (Nat.lt_of_lt_of_le h1 hS.1) h2]; exact hS.2.1 q h1 h2, fun q hq => by
      rcases List.mem_append.mp hq with h | h
      · exact hS.2.2 q h
      · exact hL q h⟩
  obtain ⟨t2, a1, b1⟩ := kk hn T'.heap (locs ++ L1) ls (by rw [e1]; exact hp) hS' hl T' rfl S'
  exact ⟨t2, stp t2 a1, b1⟩
/-- a constructor that a call in class own names by its pool entry idx -/
def zCI (own : String) (idx : Nat) (y : MethodName) (cc : ByteArray) (maxL : Nat) : Prop :=
  Cond.methodLink own idx y ∈ gw ∧ Cond.instanceMethod y ∈ gw ∧ Cond.initialized y.cls ∈ gw ∧ Cond.code y cc maxL none ∈ gw ∧ maxL ≤ 80 ∧ y.name = "<init>" ∧
  (y.cls ≠ "java/lang/invoke/MethodHandle" ∧ y.cls ≠ "java/lang/invoke/VarHandle" ∧ (parseMethodDescriptor y.desc).map (fun d => d.parameters.length) = some 0)
theorem bw_call (hX : zOk X cc own nL lv) (hb : bOk X n0) (hE : E.length = n0 + ce) (h0 : 0 < E.length) {idx lv' mc ms maxL a : Nat} {y : MethodName} {cb : ByteArray} {E' : List va_E} (lk : zCI own idx y cb maxL)
    (hlv : lv' < lv) (hct : bCT X.l X.G lv' mc ms y cb maxL a E E') (hc : ce + mc ≤ X.R.cells) (hs : sl + ms ≤ X.R.slots) (hr8 : (st.map fun v => v.category).sum ≤ 8) (hd : decode cc pc = .ok (.invokespecial idx, 3)) (kk : NW X (pc + 3) L st E' (ce + mc) (sl + ms)) : NW X pc L (.ref a :: st) E ce sl := by
  intro hn H locs ls hW hS hl T1 hT1 S1
  have hz : H.size = X.G.sz + E.length := b_size hb hE h0 hW (by rw [← hT1]; exact S1.same.2.2.1)
  have hts := hX.2.2.2.2.1
  obtain ⟨w1, w2, w4, w5, w6, w8, w7⟩ := lk
  have hf := hX.2.2.2.2.2.2.2.2.1
  refine bw_back hX (va_runI (As := []) (Ts := gw) (n := 0) (bytes := cb) (maxL := maxL) ⟨hX.1, hX.2.1, hX.2.2.1, hX.2.2.2.1, hts⟩ hct ⟨callB_of 0 hts (zgood w5) rfl rfl rfl (hts _ w4) (hts _ w1) w7 ⟨Nat.le_trans hlv hf.1, ?_⟩, w8, hts _ w2⟩
    ⟨bblind, fun U hU hw => ⟨rfl, bU_here hX hb hW hz hS hU hw⟩⟩ rfl rfl ?_ rfl (lv_room hr8) hd ⟨hc, hs⟩) hS hn hl kk T1 hT1 S1
  · have := hf.2.1
    show 8 + (maxL + 11) + 100 * lv' ≤ X.R.locals
    omega
  · rw [← hX.2.2.1]; exact (zl_size hl).trans hn
theorem bw_callN (hX : zOk X cc RX2 nL lv) (hb : bOk X n0) (hE : E.length = n0 + ce) (h0 : 0 < E.length) {lv' mc ms maxL a : Nat} {cb : ByteArray} {E' : List va_E} (lk : Cond.instanceMethod yX7_init ∈ gw ∧ Cond.initialized yX7_init.cls ∈ gw ∧ Cond.code yX7_init cb maxL none ∈ gw ∧ maxL ≤ 80)
    (hlv : lv' < lv) (hct : bCT X.l X.G lv' mc ms yX7_init cb maxL a E E') (hc : ce + mc ≤ X.R.cells) (hs : sl + ms ≤ X.R.slots) (hr8 : (st.map fun v => v.category).sum ≤ 8) (hd : decode cc pc = .ok (.invokespecial 27, 3)) (kk : NW X (pc + 3) L st E' (ce + mc) (sl + ms)) : NW X pc L (.ref a :: st) E ce sl := by
  intro hn H locs ls hW hS hl T1 hT1 S1
  have hz : H.size = X.G.sz + E.length := b_size hb hE h0 hW (by rw [← hT1]; exact S1.same.2.2.1)
  have hts := hX.2.2.2.2.1
  obtain ⟨w2, w4, w5, w6⟩ := lk
  have hf := hX.2.2.2.2.2.2.2.2.1
  refine bw_back hX (va_runIN (As := []) (Ts := gw) (n := 0) (bytes := cb) (maxL := maxL) (host := "RainLoans") ⟨hX.1, hX.2.1, hX.2.2.1, hX.2.2.2.1, hts⟩ hct ⟨va_cnB 0 hts (zgood w5) rfl rfl rfl hb.2.1 (hts _ w4) (by decide) ⟨Nat.le_trans hlv hf.1, ?_⟩, rfl, hts _ w2⟩
    ⟨bblind, fun U hU hw => ⟨rfl, bU_here hX hb hW hz hS hU hw⟩⟩ rfl rfl ?_ rfl (lv_room hr8) hd ⟨hc, hs⟩) hS hn hl kk T1 hT1 S1
  · have := hf.2.1
    show 8 + (maxL + 11) + 100 * lv' ≤ X.R.locals
    omega
  · rw [← hX.2.2.1]; exact (zl_size hl).trans hn
end BC
