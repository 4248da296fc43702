/-! THE ENUM AND THE STRINGS -/
def zWn : List String := ["NO_WORD", "NAME", "HILL", "DRY", "WET", "PURSE", "LOAN", "TO", "COINS", "RATE", "DUE", "ON", "BAIL", "BET", "PAYS", "IF", "PLAIN", "BOTH", "EITHER", "HIDDEN", "JOINED", "FIRST", "SECOND", "THIRD", "FOURTH", "NOT", "AND", "OR"]
def zWo : List Int32 := [0, 1, 2, 3, 4, 5, 6, 7, 8, 9, 10, 11, 12, 13, 14, 15, 16, 17, 18, 19, 20, 21, 22, 23, 24, 25, 26, 27]
def zWk : List Int32 := [-1, -1, -1, 1, -1, -1, -1, -1, -1, -1, -1, -1, -1, -1, -1, -1, 0, 2, 3, 4, 5, -1, -1, -1, -1, -1, -1, -1]
def zWf : List Int32 := [-1, -1, -1, -1, 4, -1, -1, -1, -1, -1, -1, -1, -1, -1, -1, -1, -1, -1, -1, -1, -1, 0, 1, 2, 3, -1, -1, -1]
def zWF : List (String × String × String × List Int32) := [("java/lang/Enum", "ordinal", "I", zWo), (RX8, "kind", "I", zWk), (RX8, "fact", "I", zWf)]
def zTx : List (List Int32) := [[], [], [104, 105, 108, 108], [100, 114, 121], [119, 101, 116], [112, 117, 114, 115, 101], [108, 111, 97, 110], [116, 111], [99, 111, 105, 110, 115], [114, 97, 116, 101], [100, 117, 101], [111, 110], [98, 97, 105, 108], [98, 101, 116], [112, 97, 121, 115], [105, 102], [112, 108, 97, 105, 110], [98, 111, 116, 104], [101, 105, 116, 104, 101, 114], [104, 105, 100, 100, 101, 110], [106, 111, 105, 110, 101, 100], [102, 105, 114, 115, 116], [115, 101, 99, 111, 110, 100], [116, 104, 105, 114, 100], [102, 111, 117, 114, 116, 104], [110, 111, 116], [97, 110, 100], [111, 114], [40, 41, 60, 61, 43, 45, 42, 59], [110, 111, 32, 115, 117, 99, 104, 32, 112, 101, 114, 115, 111, 110], [110, 111, 32, 115, 117, 99, 104, 32, 98, 101, 116, 115, 32, 111, 114, 32, 110, 111, 32, 115, 117, 99, 104, 32, 119, 101, 97, 116, 104, 101, 114]]
def zTl (k : Nat) : Nat := (zTx.getD k []).length
def zTb (k j : Nat) : Int32 := (zTx.getD k []).getD j 0
/-- a String stands at a, its bytes at v, and neither is ever written -/
def zStr (a v : Nat) (b : List Int32) (A : Nat → Prop) (U : State) (H : Heap) : Prop :=
  va_O RJ0 a A U H ∧ va_OF RJ0 "coder" "B" (.int 0) a A U H ∧ va_OF RJ0 "value" "[B" (.ref v) a A U H ∧ va_T .byte v b.length (fun j => .int (b.getD j 0)) A U H
/-- what lies ahead of ours: the constants of the enum (aw i), their texts (aw (100 + i)), all strings (aw (100 + k), bytes aw (200 + k)), the row of all words (aw 300) -/
def zEW (aw : Nat → Nat) (sz : Nat) (U : State) (H : Heap) : Prop :=
  va_En RX8 "LRainLoans$Word;" zWn zWF aw (fun q => sz ≤ q) U H ∧ va_Ef 28 RX8 "text" "Ljava/lang/String;" (fun i => .ref (aw (100 + i))) aw (fun q => sz ≤ q) U H ∧
  (∀ k, k < 31 → zStr (aw (100 + k)) (aw (200 + k)) (zTx.getD k []) (fun q => sz ≤ q) U H) ∧
  va_Z RX5 "WORDS" "[LRainLoans$Word;" (.ref (aw 300)) (fun q => sz ≤ q) U H ∧ va_T (.object "RainLoans$Word") (aw 300) 28 (fun j => .ref (aw j)) (fun q => sz ≤ q) U H ∧
  va_Z RJ0 "COMPACT_STRINGS" "Z" (.int 1) (fun q => sz ≤ q) U H ∧ va_Zq RJ3 "SIOOBE_FORMATTER" "Ljava/util/function/BiFunction;" (fun q => sz ≤ q) U H ∧
  vk_R RX5 61 "()<=+-*;" (aw 128) U ∧ vk_R RX10 111 "no such person" (aw 129) U ∧ vk_R RX10 227 "no such bets or no such weather" (aw 130) U
theorem zStr_kept {a v : Nat} {b : List Int32} {A : Nat → Prop} {U V : State} {H K : Heap} (hw : U.vm.Alike V.vm) (hq : ∀ q : Nat, q < H.size → ¬ A q → K[q]? = H[q]?) (h : zStr a v b A U H) : zStr a v b A V K :=
  ⟨va_O.moved hw (h.1.kept hq), va_OF.moved hw (h.2.1.kept hq), va_OF.moved hw (h.2.2.1.kept hq), va_T.moved hw (h.2.2.2.kept hq)⟩
theorem zEW_kept {aw : Nat → Nat} {sz : Nat} {U V : State} {H K : Heap} (hw : U.WarmedH V.vm) (hq : ∀ q : Nat, q < sz → K[q]? = H[q]?) (h : zEW aw sz U H) : zEW aw sz V K := by
  obtain ⟨h1, h2, h3, h4, h5, h6, h7, h8, h9, h10⟩ := h
  have hq : ∀ q : Nat, q < H.size → ¬ (fun q => sz ≤ q) q → K[q]? = H[q]? := fun q _ z => hq q (Nat.lt_of_not_le z)
  exact ⟨va_En.moved hw.alike (h1.kept hq), va_Ef.moved hw.alike (h2.kept hq), fun k hk => zStr_kept hw.alike hq (h3 k hk), va_Z.moved hw.alike (h4.kept hq), va_T.moved hw.alike (h5.kept hq), va_Z.moved hw.alike (h6.kept hq), va_Zq.moved hw.alike (h7.kept hq), h8.warm hw, h9.warm hw, h10.warm hw⟩
def zHas (G : zG) : Prop := ∀ (U : State) (H : Heap), G.sx U H → zEW G.aw G.sz U H
def zNr (z : Value) : Prop := z = .null ∨ ∃ a, z = .ref a
theorem zNr_cat {z : Value} (h : zNr z) : z.category = 1 := by rcases h with rfl | ⟨a, rfl⟩ <;> rfl
section ZE
variable {X : zX} {cc : ByteArray} {own : String} {nL lv pc : Nat} {L : List (Option Value)} {st : List Value} {μ : zM}
theorem zE (hE : zHas X.G) (hX : zOk X cc own nL lv) : zEW X.G.aw X.G.sz X.s X.s.heap := hE _ _ hX.2.2.2.2.2.2.2.2.2.2
theorem aw_gsE (hE : zHas X.G) (hX : zOk X cc own nL lv) {idx i : Nat} {n : String} (hi : i < 28) (hn : zWn.getD i "" = n) (lk : Cond.fieldLink own idx RX8 n "LRainLoans$Word;" ∈ gw) (hd : decode cc pc = .ok (.getstatic idx, 3)) (k : AW X (pc + 3) L (.ref (X.G.aw i) :: st) μ) : AW X pc L st μ := by
  intro hnn H locs ls hW hS hl
  subst hn
  exact va_gets hX.1 hX.2.1 ((zE hE hX).1.1 i hi).1 hS hX.2.2.2.1 (hX.2.2.2.2.1 _ lk) (fun _ h => h) hd (k hnn H locs ls hW hS hl)
theorem aw_gsW (hE : zHas X.G) (hX : zOk X cc own nL lv) {idx : Nat} (lk : Cond.fieldLink own idx RX5 "WORDS" "[LRainLoans$Word;" ∈ gw) (hd : decode cc pc = .ok (.getstatic idx, 3)) (k : AW X (pc + 3) L (.ref (X.G.aw 300) :: st) μ) : AW X pc L st μ := by
  intro hnn H locs ls hW hS hl
  exact va_gets hX.1 hX.2.1 (zE hE hX).2.2.2.1 hS hX.2.2.2.1 (hX.2.2.2.2.1 _ lk) (fun _ h => h) hd (k hnn H locs ls hW hS hl)
theorem aw_gsC (hE : zHas X.G) (hX : zOk X cc own nL lv) {idx : Nat} (lk : Cond.fieldLink own idx RJ0 "COMPACT_STRINGS" "Z" ∈ gw) (hd : decode cc pc = .ok (.getstatic idx, 3)) (k : AW X (pc + 3) L (.int 1 :: st) μ) : AW X pc L st μ := by
  intro hnn H locs ls hW hS hl
  exact va_gets hX.1 hX.2.1 (zE hE hX).2.2.2.2.2.1 hS hX.2.2.2.1 (hX.2.2.2.2.1 _ lk) (fun _ h => h) hd (k hnn H locs ls hW hS hl)
theorem aw_gsF (hE : zHas X.G) (hX : zOk X cc own nL lv) {idx : Nat} (lk : Cond.fieldLink own idx RJ3 "SIOOBE_FORMATTER" "Ljava/util/function/BiFunction;" ∈ gw) (hd : decode cc pc = .ok (.getstatic idx, 3)) (k : ∀ z : Value, zNr z → AW X (pc + 3) L (z :: st) μ) : AW X pc L st μ := by
  intro hnn H locs ls hW hS hl
  rcases (zE hE hX).2.2.2.2.2.2.1 with h | ⟨t, h⟩
  · exact va_gets hX.1 hX.2.1 h hS hX.2.2.2.1 (hX.2.2.2.2.1 _ lk) (fun _ h => h) hd (k _ (Or.inl rfl) hnn H locs ls hW hS hl)
  · exact va_gets hX.1 hX.2.1 h hS hX.2.2.2.1 (hX.2.2.2.2.1 _ lk) (fun _ h => h) hd (k _ (Or.inr ⟨t, rfl⟩) hnn H locs ls hW hS hl)
theorem aw_gEk (hE : zHas X.G) (hX : zOk X cc own nL lv) {idx i : Nat} (hi : i < 28) (lk : Cond.fieldLink own idx RX8 "kind" "I" ∈ gw) (hd : decode cc pc = .ok (.getfield idx, 3)) (k : AW X (pc + 3) L (.int (zWk.getD i 0) :: st) μ) : AW X pc L (.ref (X.G.aw i) :: st) μ := by
  intro hnn H locs ls hW hS hl
  exact va_getE (q := (RX8, "kind", "I", zWk)) hX.1 hX.2.1 (zE hE hX).1 hi hS hX.2.2.2.1 (by simp [zWF]) (hX.2.2.2.2.1 _ lk) (fun _ h => h) hd (k hnn H locs ls hW hS hl)
theorem aw_gEf (hE : zHas X.G) (hX : zOk X cc own nL lv) {idx i : Nat} (hi : i < 28) (lk : Cond.fieldLink own idx RX8 "fact" "I" ∈ gw) (hd : decode cc pc = .ok (.getfield idx, 3)) (k : AW X (pc + 3) L (.int (zWf.getD i 0) :: st) μ) : AW X pc L (.ref (X.G.aw i) :: st) μ := by
  intro hnn H locs ls hW hS hl
  exact va_getE (q := (RX8, "fact", "I", zWf)) hX.1 hX.2.1 (zE hE hX).1 hi hS hX.2.2.2.1 (by simp [zWF]) (hX.2.2.2.2.1 _ lk) (fun _ h => h) hd (k hnn H locs ls hW hS hl)
theorem aw_gEt (hE : zHas X.G) (hX : zOk X cc own nL lv) {idx i : Nat} (hi : i < 28) (lk : Cond.fieldLink own idx RX8 "text" "Ljava/lang/String;" ∈ gw) (hd : decode cc pc = .ok (.getfield idx, 3)) (k : AW X (pc + 3) L (.ref (X.G.aw (100 + i)) :: st) μ) : AW X pc L (.ref (X.G.aw i) :: st) μ := by
  intro hnn H locs ls hW hS hl
  exact va_getX hX.1 hX.2.1 (zE hE hX).2.1 hi hS hX.2.2.2.1 (hX.2.2.2.2.1 _ lk) (fun _ h => h) hd (k hnn H locs ls hW hS hl)
theorem aw_gSv (hE : zHas X.G) (hX : zOk X cc own nL lv) {idx i : Nat} (hi : i < 31) (lk : Cond.fieldLink own idx RJ0 "value" "[B" ∈ gw) (hd : decode cc pc = .ok (.getfield idx, 3)) (k : AW X (pc + 3) L (.ref (X.G.aw (200 + i)) :: st) μ) : AW X pc L (.ref (X.G.aw (100 + i)) :: st) μ := by
  intro hnn H locs ls hW hS hl
  exact vk_getf hX.1 hX.2.1 ((zE hE hX).2.2.1 i hi).2.2.1 hS hX.2.2.2.1 (hX.2.2.2.2.1 _ lk) (fun _ h => h) hd (k hnn H locs ls hW hS hl)
theorem aw_gSc (hE : zHas X.G) (hX : zOk X cc own nL lv) {idx i : Nat} (hi : i < 31) (lk : Cond.fieldLink own idx RJ0 "coder" "B" ∈ gw) (hd : decode cc pc = .ok (.getfield idx, 3)) (k : AW X (pc + 3) L (.int 0 :: st) μ) : AW X pc L (.ref (X.G.aw (100 + i)) :: st) μ := by
  intro hnn H locs ls hW hS hl
  exact vk_getf hX.1 hX.2.1 ((zE hE hX).2.2.1 i hi).2.1 hS hX.2.2.2.1 (hX.2.2.2.2.1 _ lk) (fun _ h => h) hd (k hnn H locs ls hW hS hl)
theorem aw_alW (hE : zHas X.G) (hX : zOk X cc own nL lv) (hd : decode cc pc = .ok (.arraylength, 1)) (k : AW X (pc + 1) L (.int 28 :: st) μ) : AW X pc L (.ref (X.G.aw 300) :: st) μ := by
  intro hnn H locs ls hW hS hl
  exact va_tlen (v := 28) hX.1 hX.2.1 (zE hE hX).2.2.2.2.1 hS (by decide) hd (k hnn H locs ls hW hS hl)
theorem aw_alB (hE : zHas X.G) (hX : zOk X cc own nL lv) {i : Nat} (hi : i < 31) (hd : decode cc pc = .ok (.arraylength, 1)) (k : AW X (pc + 1) L (.int (nI (zTl i)) :: st) μ) : AW X pc L (.ref (X.G.aw (200 + i)) :: st) μ := by
  intro hnn H locs ls hW hS hl
  exact va_tlen (v := nI (zTl i)) hX.1 hX.2.1 ((zE hE hX).2.2.1 i hi).2.2.2 hS rfl hd (k hnn H locs ls hW hS hl)
theorem aw_aaW (hE : zHas X.G) (hX : zOk X cc own nL lv) {i : Int32} {k : Nat} (hi : vp_in i 28) (hk : i.toNatClampNeg = k) (hd : decode cc pc = .ok (.aaload, 1)) (kk : AW X (pc + 1) L (.ref (X.G.aw k) :: st) μ) : AW X pc L (.int i :: .ref (X.G.aw 300) :: st) μ := by
  intro hnn H locs ls hW hS hl
  subst hk
  exact vb_tq hX.1 hX.2.1 (zE hE hX).2.2.2.2.1 hS hi rfl hd (kk hnn H locs ls hW hS hl)
theorem aw_baB (hE : zHas X.G) (hX : zOk X cc own nL lv) {i : Int32} {s k : Nat} (hs : s < 31) (hi : vp_in i (zTl s)) (hk : i.toNatClampNeg = k) (hd : decode cc pc = .ok (.baload, 1)) (kk : AW X (pc + 1) L (.int (zTb s k) :: st) μ) : AW X pc L (.int i :: .ref (X.G.aw (200 + s)) :: st) μ := by
  intro hnn H locs ls hW hS hl
  subst hk
  exact va_tb hX.1 hX.2.1 ((zE hE hX).2.2.1 s hs).2.2.2 hS hi rfl hd (kk hnn H locs ls hW hS hl)
theorem aw_ldS (hE : zHas X.G) (hX : zOk X cc RX5 nL lv) (hd : decode cc pc = .ok (.ldc 61, 2)) (k : AW X (pc + 2) L (.ref (X.G.aw (100 + 28)) :: st) μ) : AW X pc L st μ := by
  intro hnn H locs ls hW hS hl
  exact va_ldcS hX.1 hX.2.1 hX.2.2.2.1 (zE hE hX).2.2.2.2.2.2.2.1 hd (k hnn H locs ls hW hS hl)
theorem aw_acmp_ne (hE : zHas X.G) (hX : zOk X cc own nL lv) {i j : Nat} {off : Int} {tgt : Nat} (hi : i < 28) (hj : j < 28) (hd : decode cc pc = .ok (.if_acmp .ne off, 3)) (ht : (pc : Int) + off = (tgt : Int)) (kt : ¬ i = j → AW X tgt L st μ) (kf : i = j → AW X (pc + 3) L st μ) : AW X pc L (.ref (X.G.aw j) :: .ref (X.G.aw i) :: st) μ := by
  intro hnn H locs ls hW hS hl
  exact lv_acmp_ne (rx := some (X.G.aw i)) (ry := some (X.G.aw j)) hX.1 hX.2.1 hd ht (fun q => kt (fun e => q (by rw [e])) hnn H locs ls hW hS hl) (fun q => kf ((zE hE hX).1.2 i j hi hj (Option.some.inj q)) hnn H locs ls hW hS hl)
theorem zAny (hE : zHas X.G) (hX : zOk X cc own nL lv) {i : Nat} (hi : i < 28) {H : Heap} {locs : List Loc} (hS : va_S (zA X.G) X.s.heap H locs) : va_Any "RainLoans$Word" X.s H (X.G.aw i) := by
  obtain ⟨cell, h1, h2, h3, -⟩ := ((zE hE hX).1.1 i hi).2.1.kept (H1 := H) (fun a ha hna => hS.2.1 a ha hna)
  obtain ⟨kC, hkC, -⟩ := Vm.findClass_spec h3
  refine ⟨cell, h1, h2, ⟨kC, hkC⟩, fun comp h => ?_⟩
  have h3 : X.s.vm.findClass "RainLoans$Word" = some cell.cls := h3
  cases h3.symm.trans h
  exact va_asg _ _
theorem aw_waast (hE : zHas X.G) (hX : zOk X cc own nL lv) {κ o n len k w : Nat} {q : Nat × Nat × Nat} {i : Int32} (hw : w < 28) (hs : zzSh[κ]? = some (n, .inl (7, len, 3, q))) (ho : o < n) (hi : vp_in i len) (hk : i.toNatClampNeg = k) (hd : decode cc pc = .ok (.aastore, 1)) (kk : AW X (pc + 1) L st (pI μ κ o k (nI w))) : AW X pc L (.ref (X.G.aw w) :: .int i :: .ref (X.G.ad κ o) :: st) μ := by
  intro hn H locs ls hW hS hl
  subst hk
  obtain ⟨j, hj⟩ := zplace hs ho
  have he := zws_at (G := X.G) (μ := μ) hj
  rw [zat_arr hs] at he
  refine va_astqM hX.1 hX.2.1 hX.2.2.2.2.2.1 hW.1 hW.2 hS j 7 he rfl (zAny hE hX hw hS) hi hd (fun H1 locs1 hP1 hD1 hS1 => ?_)
  have e : (X.G.ad κ o, (Sum.inl (X.G.cA 7, len, .inr (.inr (.inr (.inr (va_up (fun k => some (X.G.aw (μ.1 κ o k).toNatClampNeg)) i.toNatClampNeg (some (X.G.aw w))))))) : va_E)) = zat X.G (pI μ κ o i.toNatClampNeg (nI w)) (κ, o) := by
    rw [zat_arr hs, pI_row]
    simp only [zarr]
    congr 8
    funext k
    simp only [va_up]
    split
    · rw [nI_clamp (by omega)]
    · rfl
  rw [e, zws_set hj (fun κ' o' h => pI_ne κ' o' h)] at hP1 hD1
  exact kk hn H1 locs1 ls ⟨hP1, hD1⟩ hS1 hl
theorem aw_i2b (hX : zOk X cc own nL lv) {x : Int32} (hd : decode cc pc = .ok (.i2b, 1)) (k : AW X (pc + 1) L (.int (Int8.toInt32 (Int32.toInt8 x)) :: st) μ) : AW X pc L (.int x :: st) μ := fun hn H locs ls hW hS hl => lv_i2b hX.1 hX.2.1 hd rfl (k hn H locs ls hW hS hl)
/-- a String's own method -/
theorem aw_callT (hE : zHas X.G) (hX : zOk X cc own nL lv) {idx n i lv' maxL : Nat} {y : MethodName} {cb : ByteArray} {ret : Option FieldType} {As rest : List Value} {Post : Option Value → zM → Prop} (hi : i < 31) (lk : zCV own idx y cb maxL ret n) (hy : y.cls = RJ0)
    (hlv : lv' < lv) (hct : zCT X.l X.G lv' y cb maxL ret (.ref (X.G.aw (100 + i)) :: As) μ Post) (hlen : As.length = n) (hst : As.reverse ++ .ref (X.G.aw (100 + i)) :: rest = st) (hr8 : (rest.map fun v => v.category).sum ≤ 8) (hd : decode cc pc = .ok (.invokevirtual idx, 3))
    (kk : ∀ (rv : Option Value) (μ' : zM), Post rv μ' → AW X (pc + 3) L (rv.toList ++ rest) μ') : AW X pc L st μ := by
  intro hn H locs ls hW hS hl
  subst hst
  have hts := hX.2.2.2.2.1
  obtain ⟨w1, w2, w3, w4, w5, w6, w7⟩ := lk
  have hf := hX.2.2.2.2.2.2.2.2.1
  obtain ⟨cell, r1, r2, r3, -⟩ := ((zE hE hX).2.2.1 i hi).1.kept (H1 := H) (fun a ha hna => hS.2.1 a ha hna)
  refine aw_back hX rfl (va_runV (Ts := gw) (C := y.cls) (n := n) (bytes := cb) (maxL := maxL) (ret := ret) ⟨hX.1, hX.2.1, hX.2.2.1, hX.2.2.2.1, hts⟩ hct ⟨callB_of n hts (zgood w5) rfl rfl rfl (hts _ w4) (hts _ w1) w7 ⟨Nat.le_trans hlv hf.1, ?_⟩, hts _ w2, hts _ w3⟩
    ⟨zblind, ⟨cell, r1, r2, by rw [hy]; exact r3⟩, fun U hU hw => ⟨rfl, zU_here hX hW hS hU hw⟩⟩ rfl hlen ?_ rfl (lv_room hr8) hd ⟨hf.2.2.1, hf.2.2.2⟩) hS hn hl kk
  · have := hf.2.1
    show 8 + (maxL + 11) + 100 * lv' ≤ X.R.locals
    omega
  · rw [← hX.2.2.1]; exact (zl_size hl).trans hn
theorem aw_invTI (hE : zHas X.G) (hX : zOk X cc own nL lv) {idx n i maxL : Nat} {y : MethodName} {cb : ByteArray} {ret : Option FieldType} {As rest : List Value} {K : Int32 → zM → Prop} (hi : i < 31) (lk : zCV own idx y cb maxL ret n) (hy : y.cls = RJ0)
    (hlen : As.length = n) (hst : As.reverse ++ .ref (X.G.aw (100 + i)) :: rest = st) (hr8 : (rest.map fun v => v.category).sum ≤ 8) (hd : decode cc pc = .ok (.invokevirtual idx, 3)) (hct : zCallI X lv y cb maxL ret (.ref (X.G.aw (100 + i)) :: As) μ K) (kk : ∀ (r : Int32) (μ' : zM), K r μ' → AW X (pc + 3) L (.int r :: rest) μ') : AW X pc L st μ := by
  obtain ⟨lv', Post, hlv, hct, hk⟩ := hct
  refine aw_callT hE hX hi lk hy hlv hct hlen hst hr8 hd (fun rv μ' hp => ?_)
  obtain ⟨r, rfl, hp⟩ := hp
  exact kk r μ' (hk r μ' hp)
theorem aw_maxG (nat : Cond.static Lib.Math.max.name ∈ gw ∧ Cond.initialized "java/lang/Math" ∈ gw ∧ Cond.code Lib.Math.max.name Lib.Math.max.code 2 (some .int) ∈ gw) (hX : zOk X cc own nL lv) {idx : Nat} (lk : Cond.methodLink own idx Lib.Math.max.name ∈ gw) (h0 : 0 < lv) {x y : Int32} (hr8 : (st.map fun v => v.category).sum ≤ 8) (hd : decode cc pc = .ok (.invokestatic idx, 3))
    (kk : AW X (pc + 3) L (.int (if x < y then y else x) :: st) μ) : AW X pc L (.int y :: .int x :: st) μ := by
  intro hn H locs ls hW hS hl
  have hts := hX.2.2.2.2.1
  have hz := hX.2.2.2.2.2.2.2.2.1
  exact va_mmax hX.1 hX.2.1 (hn.symm.trans (zl_size hl).symm) hX.2.2.2.1 (hts _ lk) (hts _ nat.1) (hts _ nat.2.1) (hts _ nat.2.2) (by omega) (by omega) hz.2.2.1 hz.2.2.2 hd (kk hn H locs ls hW hS hl)
end ZE

theorem ks_X5_28 : Cond.fieldLink RX5 28 RX8 "NO_WORD" "LRainLoans$Word;" ∈ gw := gw_tbl 48 (by decide +kernel) rfl
theorem ks_X5_70 : Cond.fieldLink RX5 70 RX8 "NAME" "LRainLoans$Word;" ∈ gw := gw_tbl 428 (by decide +kernel) rfl
theorem ks_X5_73 : Cond.fieldLink RX5 73 RX5 "WORDS" "[LRainLoans$Word;" ∈ gw := gw_tbl 430 (by decide +kernel) rfl
theorem ks_X5_76 : Cond.fieldLink RX5 76 RX8 "text" "Ljava/lang/String;" ∈ gw := gw_tbl 1598 (by decide +kernel) rfl
theorem ks_X6_53 : Cond.fieldLink RX6 53 RX8 "HILL" "LRainLoans$Word;" ∈ gw := gw_tbl 560 (by decide +kernel) rfl
theorem ks_X6_66 : Cond.fieldLink RX6 66 RX8 "PURSE" "LRainLoans$Word;" ∈ gw := gw_tbl 619 (by decide +kernel) rfl
theorem ks_X6_72 : Cond.fieldLink RX6 72 RX8 "LOAN" "LRainLoans$Word;" ∈ gw := gw_tbl 625 (by decide +kernel) rfl
theorem ks_X6_78 : Cond.fieldLink RX6 78 RX8 "BET" "LRainLoans$Word;" ∈ gw := gw_tbl 659 (by decide +kernel) rfl
theorem ks_X6_98 : Cond.fieldLink RX6 98 RX8 "DRY" "LRainLoans$Word;" ∈ gw := gw_tbl 595 (by decide +kernel) rfl
theorem ks_X6_113 : Cond.fieldLink RX6 113 RX8 "WET" "LRainLoans$Word;" ∈ gw := gw_tbl 609 (by decide +kernel) rfl
theorem ks_X6_144 : Cond.fieldLink RX6 144 RX8 "TO" "LRainLoans$Word;" ∈ gw := gw_tbl 639 (by decide +kernel) rfl
theorem ks_X6_150 : Cond.fieldLink RX6 150 RX8 "COINS" "LRainLoans$Word;" ∈ gw := gw_tbl 641 (by decide +kernel) rfl
theorem ks_X6_155 : Cond.fieldLink RX6 155 RX8 "RATE" "LRainLoans$Word;" ∈ gw := gw_tbl 643 (by decide +kernel) rfl
theorem ks_X6_161 : Cond.fieldLink RX6 161 RX8 "DUE" "LRainLoans$Word;" ∈ gw := gw_tbl 645 (by decide +kernel) rfl
theorem ks_X6_167 : Cond.fieldLink RX6 167 RX8 "ON" "LRainLoans$Word;" ∈ gw := gw_tbl 647 (by decide +kernel) rfl
theorem ks_X6_186 : Cond.fieldLink RX6 186 RX8 "BAIL" "LRainLoans$Word;" ∈ gw := gw_tbl 657 (by decide +kernel) rfl
theorem ks_X6_195 : Cond.fieldLink RX6 195 RX8 "PAYS" "LRainLoans$Word;" ∈ gw := gw_tbl 665 (by decide +kernel) rfl
theorem ks_X6_201 : Cond.fieldLink RX6 201 RX8 "IF" "LRainLoans$Word;" ∈ gw := gw_tbl 667 (by decide +kernel) rfl
theorem ks_X6_227 : Cond.fieldLink RX6 227 RX8 "NAME" "LRainLoans$Word;" ∈ gw := gw_tbl 590 (by decide +kernel) rfl
theorem ks_X6_238 : Cond.fieldLink RX6 238 RX8 "kind" "I" ∈ gw := gw_tbl 1601 (by decide +kernel) rfl
theorem ks_X6_242 : Cond.fieldLink RX6 242 RX8 "AND" "LRainLoans$Word;" ∈ gw := gw_tbl 701 (by decide +kernel) rfl
theorem ks_X6_245 : Cond.fieldLink RX6 245 RX8 "OR" "LRainLoans$Word;" ∈ gw := gw_tbl 703 (by decide +kernel) rfl
theorem ks_X6_257 : Cond.fieldLink RX6 257 RX8 "NOT" "LRainLoans$Word;" ∈ gw := gw_tbl 689 (by decide +kernel) rfl
theorem ks_X6_260 : Cond.fieldLink RX6 260 RX8 "fact" "I" ∈ gw := gw_tbl 1602 (by decide +kernel) rfl
theorem ks_J0_9 : Cond.fieldLink RJ0 9 RJ0 "value" "[B" ∈ gw := gw_tbl 1599 (by decide +kernel) rfl
theorem ks_J0_15 : Cond.fieldLink RJ0 15 RJ0 "coder" "B" ∈ gw := gw_tbl 1600 (by decide +kernel) rfl
theorem ks_J0_38 : Cond.fieldLink RJ0 38 RJ0 "COMPACT_STRINGS" "Z" ∈ gw := gw_tbl 444 (by decide +kernel) rfl
theorem ks_J0_1053 : Cond.fieldLink RJ0 1053 RJ3 "SIOOBE_FORMATTER" "Ljava/util/function/BiFunction;" ∈ gw := gw_tbl 460 (by decide +kernel) rfl
set_option maxRecDepth 100000 in
theorem gc_J0_coder_7d493 : Cond.code yJ0_coder_7d493 cJ0_coder_7d493 1 (some .byte) ∈ gw := gw_tbl 443 rfl rfl
theorem gn_J0_coder_7d493 : (yJ0_coder_7d493.cls ≠ "java/lang/invoke/MethodHandle" ∧ yJ0_coder_7d493.cls ≠ "java/lang/invoke/VarHandle" ∧ (parseMethodDescriptor yJ0_coder_7d493.desc).map (fun d => d.parameters.length) = some 0) := by decide +kernel
theorem gm_J0_coder_7d493 : Cond.instanceMethod yJ0_coder_7d493 ∈ gw := gw_tbl 441 (by decide +kernel) rfl
theorem gs_J0_coder_7d493 : Cond.selects yJ0_coder_7d493.cls yJ0_coder_7d493 yJ0_coder_7d493 ∈ gw := gw_tbl 442 (by decide +kernel) rfl
theorem vc_J0_335 : zCV RJ0 335 yJ0_coder_7d493 cJ0_coder_7d493 1 (some .byte) 0 := ⟨gw_tbl 440 (by decide +kernel) rfl, gm_J0_coder_7d493, gs_J0_coder_7d493, gi_RJ0, gc_J0_coder_7d493, by decide, gn_J0_coder_7d493⟩
set_option maxRecDepth 100000 in
theorem gc_J0_isLatin1_aae02 : Cond.code yJ0_isLatin1_aae02 cJ0_isLatin1_aae02 1 (some .boolean) ∈ gw := gw_tbl 453 rfl rfl
theorem gn_J0_isLatin1_aae02 : (yJ0_isLatin1_aae02.cls ≠ "java/lang/invoke/MethodHandle" ∧ yJ0_isLatin1_aae02.cls ≠ "java/lang/invoke/VarHandle" ∧ (parseMethodDescriptor yJ0_isLatin1_aae02.desc).map (fun d => d.parameters.length) = some 0) := by decide +kernel
theorem gm_J0_isLatin1_aae02 : Cond.instanceMethod yJ0_isLatin1_aae02 ∈ gw := gw_tbl 451 (by decide +kernel) rfl
theorem gs_J0_isLatin1_aae02 : Cond.selects yJ0_isLatin1_aae02.cls yJ0_isLatin1_aae02 yJ0_isLatin1_aae02 ∈ gw := gw_tbl 452 (by decide +kernel) rfl
theorem vc_J0_492 : zCV RJ0 492 yJ0_isLatin1_aae02 cJ0_isLatin1_aae02 1 (some .boolean) 0 := ⟨gw_tbl 450 (by decide +kernel) rfl, gm_J0_isLatin1_aae02, gs_J0_isLatin1_aae02, gi_RJ0, gc_J0_isLatin1_aae02, by decide, gn_J0_isLatin1_aae02⟩
theorem gi_RJ1 : Cond.initialized RJ1 ∈ gw := gw_tbl 15 (by decide +kernel) rfl
set_option maxRecDepth 100000 in
theorem gc_J1_charAt_3b067 : Cond.code yJ1_charAt_3b067 cJ1_charAt_3b067 2 (some .char) ∈ gw := gw_tbl 456 rfl rfl
theorem gn_J1_charAt_3b067 : (yJ1_charAt_3b067.cls ≠ "java/lang/invoke/MethodHandle" ∧ yJ1_charAt_3b067.cls ≠ "java/lang/invoke/VarHandle" ∧ (parseMethodDescriptor yJ1_charAt_3b067.desc).map (fun d => d.parameters.length) = some 2) := by decide +kernel
theorem gt_J1_charAt_3b067 : Cond.static yJ1_charAt_3b067 ∈ gw := gw_tbl 455 (by decide +kernel) rfl
theorem sc_J0_495 : zCS RJ0 495 yJ1_charAt_3b067 cJ1_charAt_3b067 2 (some .char) 2 := ⟨gw_tbl 454 (by decide +kernel) rfl, gt_J1_charAt_3b067, gi_RJ1, gc_J1_charAt_3b067, by decide, gn_J1_charAt_3b067⟩
set_option maxRecDepth 100000 in
theorem gc_J0_checkIndex_df160 : Cond.code yJ0_checkIndex_df160 cJ0_checkIndex_df160 2 none ∈ gw := gw_tbl 459 rfl rfl
theorem gn_J0_checkIndex_df160 : (yJ0_checkIndex_df160.cls ≠ "java/lang/invoke/MethodHandle" ∧ yJ0_checkIndex_df160.cls ≠ "java/lang/invoke/VarHandle" ∧ (parseMethodDescriptor yJ0_checkIndex_df160.desc).map (fun d => d.parameters.length) = some 2) := by decide +kernel
theorem gt_J0_checkIndex_df160 : Cond.static yJ0_checkIndex_df160 ∈ gw := gw_tbl 458 (by decide +kernel) rfl
theorem sc_J1_9 : zCS RJ1 9 yJ0_checkIndex_df160 cJ0_checkIndex_df160 2 none 2 := ⟨gw_tbl 457 (by decide +kernel) rfl, gt_J0_checkIndex_df160, gi_RJ0, gc_J0_checkIndex_df160, by decide, gn_J0_checkIndex_df160⟩
theorem gi_RJ3 : Cond.initialized RJ3 ∈ gw := gw_tbl 16 (by decide +kernel) rfl
set_option maxRecDepth 100000 in
theorem gc_J3_checkIndex_8e157 : Cond.code yJ3_checkIndex_8e157 cJ3_checkIndex_8e157 3 (some .int) ∈ gw := gw_tbl 464 rfl rfl
theorem gn_J3_checkIndex_8e157 : (yJ3_checkIndex_8e157.cls ≠ "java/lang/invoke/MethodHandle" ∧ yJ3_checkIndex_8e157.cls ≠ "java/lang/invoke/VarHandle" ∧ (parseMethodDescriptor yJ3_checkIndex_8e157.desc).map (fun d => d.parameters.length) = some 3) := by decide +kernel
theorem gt_J3_checkIndex_8e157 : Cond.static yJ3_checkIndex_8e157 ∈ gw := gw_tbl 463 (by decide +kernel) rfl
theorem sc_J0_1059 : zCS RJ0 1059 yJ3_checkIndex_8e157 cJ3_checkIndex_8e157 3 (some .int) 3 := ⟨gw_tbl 462 (by decide +kernel) rfl, gt_J3_checkIndex_8e157, gi_RJ3, gc_J3_checkIndex_8e157, by decide, gn_J3_checkIndex_8e157⟩
set_option maxRecDepth 100000 in
theorem gc_J0_indexOf_7cf53 : Cond.code yJ0_indexOf_7cf53 cJ0_indexOf_7cf53 3 (some .int) ∈ gw := gw_tbl 500 rfl rfl
theorem gn_J0_indexOf_7cf53 : (yJ0_indexOf_7cf53.cls ≠ "java/lang/invoke/MethodHandle" ∧ yJ0_indexOf_7cf53.cls ≠ "java/lang/invoke/VarHandle" ∧ (parseMethodDescriptor yJ0_indexOf_7cf53.desc).map (fun d => d.parameters.length) = some 2) := by decide +kernel
theorem gm_J0_indexOf_7cf53 : Cond.instanceMethod yJ0_indexOf_7cf53 ∈ gw := gw_tbl 498 (by decide +kernel) rfl
theorem gs_J0_indexOf_7cf53 : Cond.selects yJ0_indexOf_7cf53.cls yJ0_indexOf_7cf53 yJ0_indexOf_7cf53 ∈ gw := gw_tbl 499 (by decide +kernel) rfl
theorem vc_J0_633 : zCV RJ0 633 yJ0_indexOf_7cf53 cJ0_indexOf_7cf53 3 (some .int) 2 := ⟨gw_tbl 497 (by decide +kernel) rfl, gm_J0_indexOf_7cf53, gs_J0_indexOf_7cf53, gi_RJ0, gc_J0_indexOf_7cf53, by decide, gn_J0_indexOf_7cf53⟩
theorem vc_J0_505 : zCV RJ0 505 yJ0_length_8abf5 cJ0_length_8abf5 1 (some .int) 0 := ⟨gw_tbl 501 (by decide +kernel) rfl, gm_J0_length_8abf5, gs_J0_length_8abf5, gi_RJ0, gc_J0_length_8abf5, by decide, gn_J0_length_8abf5⟩
set_option maxRecDepth 100000 in
theorem gc_J1_indexOf_4cfef : Cond.code yJ1_indexOf_4cfef cJ1_indexOf_4cfef 4 (some .int) ∈ gw := gw_tbl 504 rfl rfl
theorem gn_J1_indexOf_4cfef : (yJ1_indexOf_4cfef.cls ≠ "java/lang/invoke/MethodHandle" ∧ yJ1_indexOf_4cfef.cls ≠ "java/lang/invoke/VarHandle" ∧ (parseMethodDescriptor yJ1_indexOf_4cfef.desc).map (fun d => d.parameters.length) = some 4) := by decide +kernel
theorem gt_J1_indexOf_4cfef : Cond.static yJ1_indexOf_4cfef ∈ gw := gw_tbl 503 (by decide +kernel) rfl
theorem sc_J0_637 : zCS RJ0 637 yJ1_indexOf_4cfef cJ1_indexOf_4cfef 4 (some .int) 4 := ⟨gw_tbl 502 (by decide +kernel) rfl, gt_J1_indexOf_4cfef, gi_RJ1, gc_J1_indexOf_4cfef, by decide, gn_J1_indexOf_4cfef⟩
set_option maxRecDepth 100000 in
theorem gc_J1_canEncode_9a6ad : Cond.code yJ1_canEncode_9a6ad cJ1_canEncode_9a6ad 1 (some .boolean) ∈ gw := gw_tbl 507 rfl rfl
theorem gn_J1_canEncode_9a6ad : (yJ1_canEncode_9a6ad.cls ≠ "java/lang/invoke/MethodHandle" ∧ yJ1_canEncode_9a6ad.cls ≠ "java/lang/invoke/VarHandle" ∧ (parseMethodDescriptor yJ1_canEncode_9a6ad.desc).map (fun d => d.parameters.length) = some 1) := by decide +kernel
theorem gt_J1_canEncode_9a6ad : Cond.static yJ1_canEncode_9a6ad ∈ gw := gw_tbl 506 (by decide +kernel) rfl
theorem sc_J1_88 : zCS RJ1 88 yJ1_canEncode_9a6ad cJ1_canEncode_9a6ad 1 (some .boolean) 1 := ⟨gw_tbl 505 (by decide +kernel) rfl, gt_J1_canEncode_9a6ad, gi_RJ1, gc_J1_canEncode_9a6ad, by decide, gn_J1_canEncode_9a6ad⟩
set_option maxRecDepth 100000 in
theorem gc_J1_indexOfChar_4cfef : Cond.code yJ1_indexOfChar_4cfef cJ1_indexOfChar_4cfef 6 (some .int) ∈ gw := gw_tbl 516 rfl rfl
theorem gn_J1_indexOfChar_4cfef : (yJ1_indexOfChar_4cfef.cls ≠ "java/lang/invoke/MethodHandle" ∧ yJ1_indexOfChar_4cfef.cls ≠ "java/lang/invoke/VarHandle" ∧ (parseMethodDescriptor yJ1_indexOfChar_4cfef.desc).map (fun d => d.parameters.length) = some 4) := by decide +kernel
theorem gt_J1_indexOfChar_4cfef : Cond.static yJ1_indexOfChar_4cfef ∈ gw := gw_tbl 515 (by decide +kernel) rfl
theorem sc_J1_95 : zCS RJ1 95 yJ1_indexOfChar_4cfef cJ1_indexOfChar_4cfef 6 (some .int) 4 := ⟨gw_tbl 514 (by decide +kernel) rfl, gt_J1_indexOfChar_4cfef, gi_RJ1, gc_J1_indexOfChar_4cfef, by decide, gn_J1_indexOfChar_4cfef⟩
theorem km_J1_38 : Cond.methodLink RJ1 38 Lib.Math.min.name ∈ gw := gw_tbl 511 (by decide +kernel) rfl
theorem km_J2_183 : Cond.methodLink RJ2 183 Lib.Math.min.name ∈ gw := gw_tbl 521 (by decide +kernel) rfl
set_option maxRecDepth 100000 in
theorem gx_ma : Cond.static Lib.Math.max.name ∈ gw ∧ Cond.initialized "java/lang/Math" ∈ gw ∧ Cond.code Lib.Math.max.name Lib.Math.max.code 2 (some .int) ∈ gw := ⟨gw_tbl 509 (by decide +kernel) rfl, gw_tbl 18 (by decide +kernel) rfl, gw_tbl 510 (by decide +kernel) rfl⟩
theorem kq_J1_92 : Cond.methodLink RJ1 92 Lib.Math.max.name ∈ gw := gw_tbl 508 (by decide +kernel) rfl
theorem kq_J2_224 : Cond.methodLink RJ2 224 Lib.Math.max.name ∈ gw := gw_tbl 520 (by decide +kernel) rfl
