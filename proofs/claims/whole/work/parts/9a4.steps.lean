/-! steps of constructors -/
def zc (G : zG) (q : Nat × Nat) : va_E := zcell G q.1 q.2 (fun _ => 0) (fun _ => 0)
/-- these cells lie one behind the other from sz + h on -/
def zSl (G : zG) (h : Nat) (Q : List (Nat × Nat)) : Prop := ∀ (i : Nat) (q : Nat × Nat), Q[i]? = some q → G.ad q.1 q.2 = G.sz + (h + i)
theorem zSl_sub {G : zG} {h h' k : Nat} {Q Q' : List (Nat × Nat)} (hq : zSl G h Q) (hk : ∀ j, j < Q'.length → Q[k + j]? = Q'[j]?) (hh : h' = h + k) : zSl G h' Q' := by
  intro i q hi
  have hl : i < Q'.length := (List.getElem?_eq_some_iff.mp hi).1
  have := hq (k + i) q (by rw [hk i hl]; exact hi)
  rw [this, hh]
  omega
theorem n_at (E0 : List va_E) (x : va_E) (R : List va_E) : (E0 ++ x :: R)[E0.length]? = some x := by simp
theorem n_set (E0 : List va_E) (x y : va_E) (R : List va_E) : (E0 ++ x :: R).set E0.length y = E0 ++ y :: R := by simp
theorem n_push (E0 : List va_E) (x : va_E) (R B : List va_E) : E0 ++ x :: R ++ B = E0 ++ x :: (R ++ B) := by simp
def a0i (N : Nat) : vp_A := (N, .inl fun _ => 0)
def a0l (N : Nat) : vp_A := (N, .inr (.inl fun _ => 0))
theorem a0_int (N : Nat) (cA : ClassId) : vp_cell cA (a0i N) = arrV cA N (fun _ => defaultValue .int) := rfl
theorem a0_char (N : Nat) (cA : ClassId) : vp_cell cA (a0i N) = arrV cA N (fun _ => defaultValue .char) := rfl
theorem a0_boolean (N : Nat) (cA : ClassId) : vp_cell cA (a0i N) = arrV cA N (fun _ => defaultValue .boolean) := rfl
theorem a0_long (N : Nat) (cA : ClassId) : vp_cell cA (a0l N) = arrV cA N (fun _ => defaultValue .long) := rfl
section NV
variable {X : zX} {cc : ByteArray} {own : String} {nL lv pc n0 ce sl : Nat} {L : List (Option Value)} {st : List Value} {E0 R : List va_E} {fs : List Value} {ci a : Nat}
/-- this.f = new T[n] of a plain type -/
theorem nv_arr (hX : zOk X cc own nL lv) (hb : bOk X n0) (hI : X.meth.name = "<init>") (hn0 : n0 = E0.length + 1) (hR : R.length = ce) (h0 : L[0]? = some (some (.ref a))) (ha : a = X.G.sz + E0.length) {pc2 idx k t b : Nat} {atype : ArrayType} {ty : FieldType} {n : Int32} {N : Nat} {a0 : vp_A}
    (d1 : decode cc pc = .ok (.aload_n 0, 1)) (hp : NW X pc2 L (.int n :: .ref a :: []) (E0 ++ .inr (ci, fs) :: R) ce sl → NW X (pc + 1) L (.ref a :: []) (E0 ++ .inr (ci, fs) :: R) ce sl)
    (harr : Cond.arrayClass (newarray.typeOf atype) ∈ gw) (hty : newarray.typeOf atype = ty) (ht : (zty X.G)[t]? = some (X.G.cA t, ty)) (ha0 : ∀ cA : ClassId, vp_cell cA a0 = arrV cA N (fun _ => defaultValue ty)) (hN0 : ¬ n < 0) (hN : n.toNatClampNeg = N) (hby : N * componentBytes ty ≤ 536870912) (d2 : decode cc pc2 = .ok (.newarray atype, 2))
    (hbb : b = X.G.sz + (E0.length + 1 + ce)) (lk : zLF own idx ci k (.array ty)) (hk : k < fs.length) (d3 : decode cc (pc2 + 2) = .ok (.putfield idx, 3)) (hc : ce + 1 ≤ X.R.cells) (hs : sl + N ≤ X.R.slots)
    (kk : (R ++ [Sum.inl (X.G.cA t, a0)]).length = ce + 1 → NW X (pc2 + 2 + 3) L [] (E0 ++ .inr (ci, fs.set k (.ref b)) :: (R ++ [.inl (X.G.cA t, a0)])) (ce + 1) (sl + N)) : NW X pc L [] (E0 ++ .inr (ci, fs) :: R) ce sl := by
  refine bw_aload_n hX d1 h0 (hp ?_)
  refine bw_newa hX hb (by simp [hR, hn0]; omega) harr hty ht ha0 hN0 hN hby hc hs d2 (a := b) (by simp [hR, hbb]; omega) ?_
  rw [n_push]
  refine bw_put hX hI lk (n_at _ _ _) ha rfl rfl hk d3 (n_set _ _ _ _) (kk (by simp [hR]))
/-- this.f = new T[n] of references -/
theorem nv_arq (hX : zOk X cc own nL lv) (hb : bOk X n0) (hI : X.meth.name = "<init>") (hn0 : n0 = E0.length + 1) (hR : R.length = ce) (h0 : L[0]? = some (some (.ref a))) (ha : a = X.G.sz + E0.length) {pc2 idx idx2 k t b : Nat} {C : String} {n : Int32} {N : Nat}
    (d1 : decode cc pc = .ok (.aload_n 0, 1)) (hp : NW X pc2 L (.int n :: .ref a :: []) (E0 ++ .inr (ci, fs) :: R) ce sl → NW X (pc + 1) L (.ref a :: []) (E0 ++ .inr (ci, fs) :: R) ce sl)
    (hcl : Cond.classLink own idx2 C ∈ gw) (hover : va_AO C X.s) (ht : (zty X.G)[t]? = some (X.G.cA t, .object C)) (hN0 : ¬ n < 0) (hN : n.toNatClampNeg = N) (hby : N * 4 ≤ 536870912) (d2 : decode cc pc2 = .ok (.anewarray idx2, 3))
    (hbb : b = X.G.sz + (E0.length + 1 + ce)) (lk : zLF own idx ci k (.array (.object C))) (hk : k < fs.length) (d3 : decode cc (pc2 + 3) = .ok (.putfield idx, 3)) (hc : ce + 1 ≤ X.R.cells) (hs : sl + N ≤ X.R.slots)
    (kk : NW X (pc2 + 3 + 3) L [] (E0 ++ .inr (ci, fs.set k (.ref b)) :: (R ++ [.inl (X.G.cA t, N, .inr (.inr (.inr (.inr (fun _ => none)))))])) (ce + 1) (sl + N)) : NW X pc L [] (E0 ++ .inr (ci, fs) :: R) ce sl := by
  refine bw_aload_n hX d1 h0 (hp ?_)
  refine bw_newq hX hb (by simp [hR, hn0]; omega) hcl hover ht hN0 hN hby hc hs d2 (a := b) (by simp [hR, hbb]; omega) ?_
  rw [n_push]
  exact bw_put hX hI lk (n_at _ _ _) ha rfl rfl hk d3 (n_set _ _ _ _) kk
/-- this.f = new C() -/
theorem nv_sub (hX : zOk X cc own nL lv) (hb : bOk X n0) (hI : X.meth.name = "<init>") (hn0 : n0 = E0.length + 1) (hR : R.length = ce) (h0 : L[0]? = some (some (.ref a))) (ha : a = X.G.sz + E0.length) {idx idx2 idx3 k b cj N lv' mc ms maxL : Nat} {C : String} {T : u_T} {ty0 : Nat → FieldType} {gs : List Value} {y : MethodName} {cb : ByteArray} {B : List va_E}
    (d1 : decode cc pc = .ok (.aload_n 0, 1)) (lc : zLC own idx cj C T N ty0) (hgs : ∀ j, j < N → defaultValue (ty0 j) = vp_V gs j) (d2 : decode cc (pc + 1) = .ok (.new idx, 3)) (hbb : b = X.G.sz + (E0.length + 1 + ce)) (d3 : decode cc (pc + 1 + 3) = .ok (.dup, 1))
    (li : zCI own idx2 y cb maxL) (hlv : lv' < lv) (hct : bCT X.l X.G lv' mc ms y cb maxL b (E0 ++ .inr (ci, fs) :: R ++ [.inr (cj, gs)]) (E0 ++ .inr (ci, fs) :: R ++ B)) (d4 : decode cc (pc + 1 + 3 + 1) = .ok (.invokespecial idx2, 3))
    (lk : zLF own idx3 ci k (.object C)) (hk : k < fs.length) (d5 : decode cc (pc + 1 + 3 + 1 + 3) = .ok (.putfield idx3, 3)) (hc : ce + 1 + mc ≤ X.R.cells) (hs : sl + N + ms ≤ X.R.slots)
    (hB : B.length = mc + 1) (kk : (R ++ B).length = ce + 1 + mc → NW X (pc + 1 + 3 + 1 + 3 + 3) L [] (E0 ++ .inr (ci, fs.set k (.ref b)) :: (R ++ B)) (ce + 1 + mc) (sl + N + ms)) : NW X pc L [] (E0 ++ .inr (ci, fs) :: R) ce sl := by
  refine bw_aload_n hX d1 h0 ?_
  refine bw_new hX hb (by simp [hR, hn0]; omega) lc hgs (by omega) (by omega) d2 (a := b) (by simp [hR, hbb]; omega) ?_
  refine bw_dup hX d3 rfl ?_
  refine bw_call hX hb (by simp [hR, hn0]; omega) (by simp; omega) li hlv hct hc hs (Nat.le_of_ble_eq_true rfl) d4 ?_
  rw [n_push]
  exact bw_put hX hI lk (n_at _ _ _) ha rfl rfl hk d5 (n_set _ _ _ _) (kk (by simp [hR, hB]; omega))
/-- this.f[i] = new C(): E0, own, R0, the row, R -/
theorem nv_it (hX : zOk X cc own nL lv) (hb : bOk X n0) {R0 : List va_E} (hn0 : n0 = E0.length + 1) (hR : R0.length + 1 + R.length = ce) (h0 : L[0]? = some (some (.ref a))) (ha : a = X.G.sz + E0.length) {idx idx3 k b v cj t N n mc ms : Nat} {x : Int32} {C : String} {T : u_T} {ty0 : Nat → FieldType} {gs vs : List Value} {B : List va_E} {f : Nat → Option Nat}
    (h1 : L[1]? = some (some (.int x))) (d1 : decode cc pc = .ok (.aload_n 0, 1)) (lk : zLk own idx3 ci k) (hk : fs[k]? = some (.ref b)) (d2 : decode cc (pc + 1) = .ok (.getfield idx3, 3)) (d3 : decode cc (pc + 1 + 3) = .ok (.iload_n 1, 1))
    (lc : zLC own idx cj C T N ty0) (hgs : ∀ j, j < N → defaultValue (ty0 j) = vp_V gs j) (d4 : decode cc (pc + 1 + 3 + 1) = .ok (.new idx, 3)) (hv : v = X.G.sz + (E0.length + 1 + ce)) (d5 : decode cc (pc + 1 + 3 + 1 + 3) = .ok (.dup, 1))
    (hcall : (NW X (pc + 1 + 3 + 1 + 3 + 1 + 3) L (.ref v :: .int x :: .ref b :: []) (E0 ++ .inr (ci, fs) :: (R0 ++ .inl (X.G.cA t, n, .inr (.inr (.inr (.inr f)))) :: R) ++ B) (ce + 1 + mc) (sl + N + ms)) → NW X (pc + 1 + 3 + 1 + 3 + 1) L (.ref v :: .ref v :: .int x :: .ref b :: []) (E0 ++ .inr (ci, fs) :: (R0 ++ .inl (X.G.cA t, n, .inr (.inr (.inr (.inr f)))) :: R) ++ [.inr (cj, gs)]) (ce + 1) (sl + N))
    (hbb : b = X.G.sz + (E0.length + 1 + R0.length)) (ht : (zty X.G)[t]? = some (X.G.cA t, .object C)) (hB : B[0]? = some (.inr (cj, vs))) (hin : vp_in x n) (d6 : decode cc (pc + 1 + 3 + 1 + 3 + 1 + 3) = .ok (.aastore, 1)) (hc : ce + 1 + mc ≤ X.R.cells) (hs : sl + N + ms ≤ X.R.slots)
    (kk : NW X (pc + 1 + 3 + 1 + 3 + 1 + 3 + 1) L [] (E0 ++ .inr (ci, fs) :: (R0 ++ .inl (X.G.cA t, n, .inr (.inr (.inr (.inr (va_up f x.toNatClampNeg (some v)))))) :: (R ++ B))) (ce + 1 + mc) (sl + N + ms)) : NW X pc L [] (E0 ++ .inr (ci, fs) :: (R0 ++ .inl (X.G.cA t, n, .inr (.inr (.inr (.inr f)))) :: R)) ce sl := by
  refine bw_aload_n hX d1 h0 ?_
  refine bw_get hX lk (n_at _ _ _) ha hk d2 ?_
  refine bw_iload_n hX d3 h1 ?_
  refine bw_new hX hb (by simp [hn0]; omega) lc hgs (by omega) (by omega) d4 (a := v) (by simp [hv]; omega) ?_
  refine bw_dup hX d5 rfl (hcall ?_)
  have e : E0 ++ Sum.inr (ci, fs) :: (R0 ++ Sum.inl (X.G.cA t, n, .inr (.inr (.inr (.inr f)))) :: R) ++ B = (E0 ++ Sum.inr (ci, fs) :: R0) ++ Sum.inl (X.G.cA t, n, .inr (.inr (.inr (.inr f)))) :: (R ++ B) := by simp
  have e2 : (E0 ++ Sum.inr (ci, fs) :: (R0 ++ Sum.inl (X.G.cA t, n, .inr (.inr (.inr (.inr f)))) :: R) ++ B)[E0.length + 1 + ce]? = some (.inr (cj, vs)) := by
    rw [List.getElem?_append_right (by simp; omega)]
    rw [show E0.length + 1 + ce - (E0 ++ Sum.inr (ci, fs) :: (R0 ++ Sum.inl (X.G.cA t, n, .inr (.inr (.inr (.inr f)))) :: R)).length = 0 by simp; omega]
    exact hB
  rw [e] at e2 ⊢
  refine bw_ast hX (i := (E0 ++ Sum.inr (ci, fs) :: R0).length) (j := E0.length + 1 + ce) (r := (C, T, N)) (n_at _ _ _) (by simp [hbb]; omega) ht e2 hv lc.1 hin d6 (n_set _ _ _ _) ?_
  rw [show (E0 ++ Sum.inr (ci, fs) :: R0) ++ Sum.inl (X.G.cA t, n, .inr (.inr (.inr (.inr (va_up f x.toNatClampNeg (some v)))))) :: (R ++ B) = E0 ++ Sum.inr (ci, fs) :: (R0 ++ Sum.inl (X.G.cA t, n, .inr (.inr (.inr (.inr (va_up f x.toNatClampNeg (some v)))))) :: (R ++ B)) by simp]
  exact kk
end NV
