theorem zle_n : zle [] [] := trivial
theorem zle_s {v : Value} {L M : List (Option Value)} (h : zle L M) : zle (some v :: L) (some v :: M) := ⟨rfl, h⟩
theorem zle_o {a : Option Value} {L M : List (Option Value)} (h : zle L M) : zle (a :: L) (none :: M) := h
/-- a whole row of ints is written -/
def pR (μ : zM) (κ o : Nat) (f : Nat → Int32) : zM := (fun a b => if a = κ ∧ b = o then f else μ.1 a b, μ.2)
theorem pR_ne {μ : zM} {κ o : Nat} {f : Nat → Int32} (κ' o' : Nat) (h : ¬ (κ' = κ ∧ o' = o)) : (pR μ κ o f).1 κ' o' = μ.1 κ' o' ∧ (pR μ κ o f).2 κ' o' = μ.2 κ' o' := by
  refine ⟨?_, rfl⟩
  simp only [pR]
  rw [if_neg h]
theorem pR_row {μ : zM} {κ o : Nat} {f : Nat → Int32} : (pR μ κ o f).1 κ o = f := by simp [pR]
theorem zacw : 8 + (nativeFrameWords "java/lang/System" "arraycopy" 5 + 11) ≤ 100 := by decide
section ZM
variable {X : zX} {cc : ByteArray} {own : String} {nL lv pc : Nat} {L : List (Option Value)} {st : List Value} {μ : zM}
theorem aw_cpyG (nat : Cond.native arraycopyName ∈ gw ∧ Cond.static arraycopyName ∈ gw ∧ Cond.initialized "java/lang/System" ∈ gw) (hX : zOk X cc own nL lv) {idx : Nat} (lk : Cond.methodLink own idx arraycopyName ∈ gw) (h0 : 0 < lv) {κ0 o0 n0 len0 κ1 o1 n1 len1 : Nat} {q0 q1 : Nat × Nat × Nat} (hs0 : zzSh[κ0]? = some (n0, .inl (0, len0, 0, q0))) (ho0 : o0 < n0) (hs1 : zzSh[κ1]? = some (n1, .inl (0, len1, 0, q1))) (ho1 : o1 < n1)
    {sp dp n : Int32} (h1 : ¬ sp < 0) (h2 : ¬ dp < 0) (h3 : ¬ n < 0) (h4 : sp.toNatClampNeg + n.toNatClampNeg ≤ len0) (h5 : dp.toNatClampNeg + n.toNatClampNeg ≤ len1) (hr8 : (st.map fun v => v.category).sum ≤ 8) (hd : decode cc pc = .ok (.invokestatic idx, 3))
    (kk : AW X (pc + 3) L st (pR μ κ1 o1 (va_cpy (μ.1 κ0 o0) (μ.1 κ1 o1) sp.toNatClampNeg dp.toNatClampNeg n.toNatClampNeg))) : AW X pc L (.int n :: .int dp :: .ref (X.G.ad κ1 o1) :: .int sp :: .ref (X.G.ad κ0 o0) :: st) μ := by
  intro hn H locs ls hW hS hl
  obtain ⟨i, hi⟩ := zplace hs0 ho0
  obtain ⟨j, hj⟩ := zplace hs1 ho1
  have he := zws_at (G := X.G) (μ := μ) hi
  rw [zat_arr hs0] at he
  have hf := zws_at (G := X.G) (μ := μ) hj
  rw [zat_arr hs1] at hf
  have hts := hX.2.2.2.2.1
  have hz := hX.2.2.2.2.2.2.2.2.1
  refine va_copyi hX.1 hX.2.1 (hn.symm.trans (zl_size hl).symm) hX.2.2.2.1 (hts _ lk) (hts _ nat.1) (hts _ nat.2.1) (hts _ nat.2.2) hX.2.2.2.2.2.1 hW.1 hW.2 hS i j 0 0 he hf rfl rfl rfl h1 h2 h3 h4 h5 (fun _ _ => rfl) (by omega) (by have := zacw; omega) hd (fun H1 locs1 hP1 hD1 hS1 => ?_)
  have e : (X.G.ad κ1 o1, (Sum.inl (X.G.cA 0, len1, .inl (va_cpy (μ.1 κ0 o0) (μ.1 κ1 o1) sp.toNatClampNeg dp.toNatClampNeg n.toNatClampNeg)) : va_E)) = zat X.G (pR μ κ1 o1 (va_cpy (μ.1 κ0 o0) (μ.1 κ1 o1) sp.toNatClampNeg dp.toNatClampNeg n.toNatClampNeg)) (κ1, o1) := by
    rw [zat_arr hs1, pR_row]; rfl
  rw [e, zws_set hj (fun κ' o' h => pR_ne κ' o' h)] at hP1 hD1
  exact kk hn H1 locs1 ls ⟨hP1, hD1⟩ hS1 hl
theorem aw_minG (nat : Cond.static Lib.Math.min.name ∈ gw ∧ Cond.initialized "java/lang/Math" ∈ gw ∧ Cond.code Lib.Math.min.name Lib.Math.min.code 2 (some .int) ∈ gw) (hX : zOk X cc own nL lv) {idx : Nat} (lk : Cond.methodLink own idx Lib.Math.min.name ∈ gw) (h0 : 0 < lv) {x y : Int32} (hr8 : (st.map fun v => v.category).sum ≤ 8) (hd : decode cc pc = .ok (.invokestatic idx, 3))
    (kk : AW X (pc + 3) L (.int (if y < x then y else x) :: st) μ) : AW X pc L (.int y :: .int x :: st) μ := by
  intro hn H locs ls hW hS hl
  have hts := hX.2.2.2.2.1
  have hz := hX.2.2.2.2.2.2.2.2.1
  exact va_mmin hX.1 hX.2.1 (hn.symm.trans (zl_size hl).symm) hX.2.2.2.1 (hts _ lk) (hts _ nat.1) (hts _ nat.2.1) (hts _ nat.2.2) (by omega) (by omega) hz.2.2.1 hz.2.2.2 hd (kk hn H locs ls hW hS hl)
theorem aw_iald' (hX : zOk X cc own nL lv) {κ o n len k : Nat} {q : Nat × Nat × Nat} {i : Int32} (hs : zzSh[κ]? = some (n, .inl (0, len, 0, q))) (ho : o < n) (hi : vp_in i len) (hk : i.toNatClampNeg = k) (hd : decode cc pc = .ok (.iaload, 1)) (kk : AW X (pc + 1) L (.int (μ.1 κ o k) :: st) μ) : AW X pc L (.int i :: .ref (X.G.ad κ o) :: st) μ := by subst hk; exact aw_iald hX hs ho hi hd kk
theorem aw_cald' (hX : zOk X cc own nL lv) {κ o n len k : Nat} {q : Nat × Nat × Nat} {i : Int32} (hs : zzSh[κ]? = some (n, .inl (2, len, 0, q))) (ho : o < n) (hi : vp_in i len) (hk : i.toNatClampNeg = k) (hd : decode cc pc = .ok (.caload, 1)) (kk : AW X (pc + 1) L (.int (μ.1 κ o k) :: st) μ) : AW X pc L (.int i :: .ref (X.G.ad κ o) :: st) μ := by subst hk; exact aw_cald hX hs ho hi hd kk
theorem aw_zald' (hX : zOk X cc own nL lv) {κ o n len k : Nat} {q : Nat × Nat × Nat} {i : Int32} (hs : zzSh[κ]? = some (n, .inl (3, len, 0, q))) (ho : o < n) (hi : vp_in i len) (hk : i.toNatClampNeg = k) (hd : decode cc pc = .ok (.baload, 1)) (kk : AW X (pc + 1) L (.int (μ.1 κ o k) :: st) μ) : AW X pc L (.int i :: .ref (X.G.ad κ o) :: st) μ := by subst hk; exact aw_zald hX hs ho hi hd kk
theorem aw_lald' (hX : zOk X cc own nL lv) {κ o n len k : Nat} {q : Nat × Nat × Nat} {i : Int32} (hs : zzSh[κ]? = some (n, .inl (1, len, 1, q))) (ho : o < n) (hi : vp_in i len) (hk : i.toNatClampNeg = k) (hd : decode cc pc = .ok (.laload, 1)) (kk : AW X (pc + 1) L (.long (μ.2 κ o k) :: st) μ) : AW X pc L (.int i :: .ref (X.G.ad κ o) :: st) μ := by subst hk; exact aw_lald hX hs ho hi hd kk
theorem aw_iast' (hX : zOk X cc own nL lv) {κ o n len k : Nat} {q : Nat × Nat × Nat} {i x : Int32} (hs : zzSh[κ]? = some (n, .inl (0, len, 0, q))) (ho : o < n) (hi : vp_in i len) (hk : i.toNatClampNeg = k) (hd : decode cc pc = .ok (.iastore, 1)) (kk : AW X (pc + 1) L st (pI μ κ o k x)) : AW X pc L (.int x :: .int i :: .ref (X.G.ad κ o) :: st) μ := by subst hk; exact aw_iast hX hs ho hi hd kk
theorem aw_cast' (hX : zOk X cc own nL lv) {κ o n len k : Nat} {q : Nat × Nat × Nat} {i x : Int32} (hs : zzSh[κ]? = some (n, .inl (2, len, 0, q))) (ho : o < n) (hi : vp_in i len) (hk : i.toNatClampNeg = k) (hd : decode cc pc = .ok (.castore, 1)) (kk : AW X (pc + 1) L st (pI μ κ o k (vp_nar .char x))) : AW X pc L (.int x :: .int i :: .ref (X.G.ad κ o) :: st) μ := by subst hk; exact aw_cast hX hs ho hi hd kk
theorem aw_zast' (hX : zOk X cc own nL lv) {κ o n len k : Nat} {q : Nat × Nat × Nat} {i x : Int32} (hs : zzSh[κ]? = some (n, .inl (3, len, 0, q))) (ho : o < n) (hi : vp_in i len) (hk : i.toNatClampNeg = k) (hd : decode cc pc = .ok (.bastore, 1)) (kk : AW X (pc + 1) L st (pI μ κ o k (vp_nar .boolean x))) : AW X pc L (.int x :: .int i :: .ref (X.G.ad κ o) :: st) μ := by subst hk; exact aw_zast hX hs ho hi hd kk
theorem aw_last' (hX : zOk X cc own nL lv) {κ o n len k : Nat} {q : Nat × Nat × Nat} {i : Int32} {x : Int64} (hs : zzSh[κ]? = some (n, .inl (1, len, 1, q))) (ho : o < n) (hi : vp_in i len) (hk : i.toNatClampNeg = k) (hd : decode cc pc = .ok (.lastore, 1)) (kk : AW X (pc + 1) L st (pL μ κ o k x)) : AW X pc L (.long x :: .int i :: .ref (X.G.ad κ o) :: st) μ := by subst hk; exact aw_last hX hs ho hi hd kk
theorem aw_aald' (hX : zOk X cc own nL lv) {κ o n len t κ' mul off o' k : Nat} {i : Int32} (hs : zzSh[κ]? = some (n, .inl (t, len, 2, κ', mul, off))) (ho : o < n) {C : String} (ht : (zty X.G)[t]? = some (X.G.cA t, .object C)) (hi : vp_in i len) (hk : i.toNatClampNeg = k) (e : mul * o + off + k = o') (hd : decode cc pc = .ok (.aaload, 1)) (kk : AW X (pc + 1) L (.ref (X.G.ad κ' o') :: st) μ) : AW X pc L (.int i :: .ref (X.G.ad κ o) :: st) μ := by subst hk; exact aw_aald hX hs ho ht hi e hd kk
theorem aw_waald' (hX : zOk X cc own nL lv) {κ o n len k : Nat} {q : Nat × Nat × Nat} {i : Int32} (hs : zzSh[κ]? = some (n, .inl (7, len, 3, q))) (ho : o < n) (hi : vp_in i len) (hk : i.toNatClampNeg = k) (hd : decode cc pc = .ok (.aaload, 1)) (kk : AW X (pc + 1) L (.ref (X.G.aw (μ.1 κ o k).toNatClampNeg) :: st) μ) : AW X pc L (.int i :: .ref (X.G.ad κ o) :: st) μ := by subst hk; exact aw_waald hX hs ho hi hd kk
end ZM
abbrev ix (x : Int32) : Nat := x.toNatClampNeg
theorem zdi {i : Int32} {n : Nat} (h : decide (i < 0 ∨ n ≤ i.toNatClampNeg) = false) : vp_in i n := of_decide_eq_false h
theorem zix {i : Int32} {n : Nat} (h : vp_in i n) : ix i < n := zin h

theorem gx_ac : Cond.native arraycopyName ∈ gw ∧ Cond.static arraycopyName ∈ gw ∧ Cond.initialized "java/lang/System" ∈ gw := ⟨gw_tbl 715 (by decide +kernel) rfl, gw_tbl 714 (by decide +kernel) rfl, gw_tbl 21 (by decide +kernel) rfl⟩
set_option maxRecDepth 100000 in
theorem gx_mi : Cond.static Lib.Math.min.name ∈ gw ∧ Cond.initialized "java/lang/Math" ∈ gw ∧ Cond.code Lib.Math.min.name Lib.Math.min.code 2 (some .int) ∈ gw := ⟨gw_tbl 512 (by decide +kernel) rfl, gw_tbl 18 (by decide +kernel) rfl, gw_tbl 513 (by decide +kernel) rfl⟩
theorem ka_X1_59 : Cond.methodLink RX1 59 arraycopyName ∈ gw := gw_tbl 761 (by decide +kernel) rfl
theorem ka_X2_50 : Cond.methodLink RX2 50 arraycopyName ∈ gw := gw_tbl 713 (by decide +kernel) rfl
theorem km_X2_73 : Cond.methodLink RX2 73 Lib.Math.min.name ∈ gw := gw_tbl 940 (by decide +kernel) rfl
theorem km_X4_29 : Cond.methodLink RX4 29 Lib.Math.min.name ∈ gw := gw_tbl 762 (by decide +kernel) rfl
theorem km_X11_331 : Cond.methodLink RX11 331 Lib.Math.min.name ∈ gw := gw_tbl 1455 (by decide +kernel) rfl
