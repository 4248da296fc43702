/-! A WALK OVER MEMORY: X holds all that stays while a method runs -/
abbrev zX : Type := Program × Launch × Env × Room × State × MethodId × Array Value × List Frame × Method × Code × zG × Nat × Nat × (State → Prop)
abbrev zX.p (X : zX) : Program := X.1
abbrev zX.l (X : zX) : Launch := X.2.1
abbrev zX.e (X : zX) : Env := X.2.2.1
abbrev zX.R (X : zX) : Room := X.2.2.2.1
abbrev zX.s (X : zX) : State := X.2.2.2.2.1
abbrev zX.m (X : zX) : MethodId := X.2.2.2.2.2.1
abbrev zX.args (X : zX) : Array Value := X.2.2.2.2.2.2.1
abbrev zX.below (X : zX) : List Frame := X.2.2.2.2.2.2.2.1
abbrev zX.meth (X : zX) : Method := X.2.2.2.2.2.2.2.2.1
abbrev zX.c (X : zX) : Code := X.2.2.2.2.2.2.2.2.2.1
abbrev zX.G (X : zX) : zG := X.2.2.2.2.2.2.2.2.2.2.1
abbrev zX.ce (X : zX) : Nat := X.2.2.2.2.2.2.2.2.2.2.2.1
abbrev zX.sl (X : zX) : Nat := X.2.2.2.2.2.2.2.2.2.2.2.2.1
abbrev zX.Q (X : zX) : State → Prop := X.2.2.2.2.2.2.2.2.2.2.2.2.2
def zA (G : zG) : Nat → Prop := fun q => G.sz ≤ q
/-- what is known of the rest of the heap lasts -/
def zstay (G : zG) : Prop := ∀ (U V : State) (H K : Heap), U.WarmedH V.vm → H.size ≤ K.size → (∀ q : Nat, q < G.sz → K[q]? = H[q]?) → G.sx U H → G.sx V K
def zOk (X : zX) (cc : ByteArray) (own : String) (nL lv : Nat) : Prop :=
  X.p.tables.exec = Jvm.exec ∧ X.c.code = cc ∧ X.c.maxLocals = nL ∧ X.s.vm.findClass own = some X.m.cls ∧ (∀ w ∈ gw, w.before X.args X.s = true) ∧
  va_K X.G.1 zzCl (zty X.G) X.s ∧ X.G.sz ≤ X.s.heap.size ∧ X.meth.locks = false ∧ (lv ≤ X.R.frames ∧ 100 * lv ≤ X.R.locals ∧ X.ce ≤ X.R.cells ∧ X.sl ≤ X.R.slots) ∧ zstay X.G ∧ X.G.sx X.s X.s.heap
/-- from pc on, with these locals, this stack, this memory, it ends well -/
def AW (X : zX) (pc : Nat) (L : List (Option Value)) (S : List Value) (μ : zM) : Prop :=
  L.length = X.c.maxLocals → ∀ (H : Heap) (locs : List Loc) (ls : Array Slot), zW X.G μ H → va_S (zA X.G) X.s.heap H locs → zl ls L → W X.p X.l X.e X.R X.s X.m X.args X.below X.meth X.c H locs X.ce X.sl X.Q (F0 X.m pc ls S)
section ZR
variable {X : zX} {cc : ByteArray} {own : String} {nL lv pc : Nat} {L : List (Option Value)} {st : List Value} {μ : zM}
theorem aw_less {M : List (Option Value)} (hm : zle L M) (k : AW X pc M st μ) : AW X pc L st μ := fun hn H locs ls hW hS hl => k ((zle_spec hm).1 ▸ hn) H locs ls hW hS (zl_less hl hm)
theorem aw_iadd (hX : zOk X cc own nL lv) {x y : Int32} (hd : decode cc pc = .ok (.iadd, 1)) (k : AW X (pc + 1) L (.int (x + y) :: st) μ) : AW X pc L (.int y :: .int x :: st) μ := fun hn H locs ls hW hS hl => lv_iadd hX.1 hX.2.1 hd (k hn H locs ls hW hS hl)
theorem aw_isub (hX : zOk X cc own nL lv) {x y : Int32} (hd : decode cc pc = .ok (.isub, 1)) (k : AW X (pc + 1) L (.int (x - y) :: st) μ) : AW X pc L (.int y :: .int x :: st) μ := fun hn H locs ls hW hS hl => lv_isub hX.1 hX.2.1 hd (k hn H locs ls hW hS hl)
theorem aw_imul (hX : zOk X cc own nL lv) {x y : Int32} (hd : decode cc pc = .ok (.imul, 1)) (k : AW X (pc + 1) L (.int (x * y) :: st) μ) : AW X pc L (.int y :: .int x :: st) μ := fun hn H locs ls hW hS hl => lv_imul hX.1 hX.2.1 hd (k hn H locs ls hW hS hl)
theorem aw_iand (hX : zOk X cc own nL lv) {x y : Int32} (hd : decode cc pc = .ok (.iand, 1)) (k : AW X (pc + 1) L (.int (x &&& y) :: st) μ) : AW X pc L (.int y :: .int x :: st) μ := fun hn H locs ls hW hS hl => lv_iand hX.1 hX.2.1 hd (k hn H locs ls hW hS hl)
theorem aw_ior (hX : zOk X cc own nL lv) {x y : Int32} (hd : decode cc pc = .ok (.ior, 1)) (k : AW X (pc + 1) L (.int (x ||| y) :: st) μ) : AW X pc L (.int y :: .int x :: st) μ := fun hn H locs ls hW hS hl => lv_ior hX.1 hX.2.1 hd (k hn H locs ls hW hS hl)
theorem aw_ixor (hX : zOk X cc own nL lv) {x y : Int32} (hd : decode cc pc = .ok (.ixor, 1)) (k : AW X (pc + 1) L (.int (x ^^^ y) :: st) μ) : AW X pc L (.int y :: .int x :: st) μ := fun hn H locs ls hW hS hl => lv_ixor hX.1 hX.2.1 hd (k hn H locs ls hW hS hl)
theorem aw_ladd (hX : zOk X cc own nL lv) {x y : Int64} (hd : decode cc pc = .ok (.ladd, 1)) (k : AW X (pc + 1) L (.long (x + y) :: st) μ) : AW X pc L (.long y :: .long x :: st) μ := fun hn H locs ls hW hS hl => lv_ladd hX.1 hX.2.1 hd (k hn H locs ls hW hS hl)
theorem aw_lsub (hX : zOk X cc own nL lv) {x y : Int64} (hd : decode cc pc = .ok (.lsub, 1)) (k : AW X (pc + 1) L (.long (x - y) :: st) μ) : AW X pc L (.long y :: .long x :: st) μ := fun hn H locs ls hW hS hl => lv_lsub hX.1 hX.2.1 hd (k hn H locs ls hW hS hl)
theorem aw_lmul (hX : zOk X cc own nL lv) {x y : Int64} (hd : decode cc pc = .ok (.lmul, 1)) (k : AW X (pc + 1) L (.long (x * y) :: st) μ) : AW X pc L (.long y :: .long x :: st) μ := fun hn H locs ls hW hS hl => lv_lmul hX.1 hX.2.1 hd (k hn H locs ls hW hS hl)
theorem aw_land (hX : zOk X cc own nL lv) {x y : Int64} (hd : decode cc pc = .ok (.land, 1)) (k : AW X (pc + 1) L (.long (x &&& y) :: st) μ) : AW X pc L (.long y :: .long x :: st) μ := fun hn H locs ls hW hS hl => lv_land hX.1 hX.2.1 hd (k hn H locs ls hW hS hl)
theorem aw_lor (hX : zOk X cc own nL lv) {x y : Int64} (hd : decode cc pc = .ok (.lor, 1)) (k : AW X (pc + 1) L (.long (x ||| y) :: st) μ) : AW X pc L (.long y :: .long x :: st) μ := fun hn H locs ls hW hS hl => lv_lor hX.1 hX.2.1 hd (k hn H locs ls hW hS hl)
theorem aw_lxor (hX : zOk X cc own nL lv) {x y : Int64} (hd : decode cc pc = .ok (.lxor, 1)) (k : AW X (pc + 1) L (.long (x ^^^ y) :: st) μ) : AW X pc L (.long y :: .long x :: st) μ := fun hn H locs ls hW hS hl => lv_lxor hX.1 hX.2.1 hd (k hn H locs ls hW hS hl)
theorem aw_ineg (hX : zOk X cc own nL lv) {x : Int32} (hd : decode cc pc = .ok (.ineg, 1)) (k : AW X (pc + 1) L (.int (-x) :: st) μ) : AW X pc L (.int x :: st) μ := fun hn H locs ls hW hS hl => lv_ineg hX.1 hX.2.1 hd (k hn H locs ls hW hS hl)
theorem aw_lneg (hX : zOk X cc own nL lv) {x : Int64} (hd : decode cc pc = .ok (.lneg, 1)) (k : AW X (pc + 1) L (.long (-x) :: st) μ) : AW X pc L (.long x :: st) μ := fun hn H locs ls hW hS hl => lv_lneg hX.1 hX.2.1 hd (k hn H locs ls hW hS hl)
theorem aw_ishl (hX : zOk X cc own nL lv) {x y : Int32} (hd : decode cc pc = .ok (.ishl, 1)) (k : AW X (pc + 1) L (.int (x <<< (y &&& 31)) :: st) μ) : AW X pc L (.int y :: .int x :: st) μ := fun hn H locs ls hW hS hl => lv_ishl hX.1 hX.2.1 hd (k hn H locs ls hW hS hl)
theorem aw_ishr (hX : zOk X cc own nL lv) {x y : Int32} (hd : decode cc pc = .ok (.ishr, 1)) (k : AW X (pc + 1) L (.int (x >>> (y &&& 31)) :: st) μ) : AW X pc L (.int y :: .int x :: st) μ := fun hn H locs ls hW hS hl => lv_ishr hX.1 hX.2.1 hd (k hn H locs ls hW hS hl)
theorem aw_idiv (hX : zOk X cc own nL lv) {x y : Int32} (hd : decode cc pc = .ok (.idiv, 1)) (hne : ¬ y = 0) (k : AW X (pc + 1) L (.int (x / y) :: st) μ) : AW X pc L (.int y :: .int x :: st) μ := fun hn H locs ls hW hS hl => lv_idiv hX.1 hX.2.1 hd hne (k hn H locs ls hW hS hl)
theorem aw_ldiv (hX : zOk X cc own nL lv) {x y : Int64} (hd : decode cc pc = .ok (.ldiv, 1)) (hne : ¬ y = 0) (k : AW X (pc + 1) L (.long (x / y) :: st) μ) : AW X pc L (.long y :: .long x :: st) μ := fun hn H locs ls hW hS hl => lv_ldiv hX.1 hX.2.1 hd hne (k hn H locs ls hW hS hl)
theorem aw_irem (hX : zOk X cc own nL lv) {x y : Int32} (hd : decode cc pc = .ok (.irem, 1)) (hne : ¬ y = 0) (k : AW X (pc + 1) L (.int (x - x / y * y) :: st) μ) : AW X pc L (.int y :: .int x :: st) μ := fun hn H locs ls hW hS hl => lv_irem hX.1 hX.2.1 hd hne (k hn H locs ls hW hS hl)
theorem aw_lrem (hX : zOk X cc own nL lv) {x y : Int64} (hd : decode cc pc = .ok (.lrem, 1)) (hne : ¬ y = 0) (k : AW X (pc + 1) L (.long (x - x / y * y) :: st) μ) : AW X pc L (.long y :: .long x :: st) μ := fun hn H locs ls hW hS hl => lv_lrem hX.1 hX.2.1 hd hne (k hn H locs ls hW hS hl)
theorem aw_lshl (hX : zOk X cc own nL lv) {x : Int64} {y : Int32} (hd : decode cc pc = .ok (.lshl, 1)) (k : AW X (pc + 1) L (.long (x <<< (y.toInt64 &&& 63)) :: st) μ) : AW X pc L (.int y :: .long x :: st) μ := fun hn H locs ls hW hS hl => lv_lshl hX.1 hX.2.1 hd rfl (k hn H locs ls hW hS hl)
theorem aw_lshr (hX : zOk X cc own nL lv) {x : Int64} {y : Int32} (hd : decode cc pc = .ok (.lshr, 1)) (k : AW X (pc + 1) L (.long (x >>> (y.toInt64 &&& 63)) :: st) μ) : AW X pc L (.int y :: .long x :: st) μ := fun hn H locs ls hW hS hl => lv_lshr hX.1 hX.2.1 hd rfl (k hn H locs ls hW hS hl)
theorem aw_lushr (hX : zOk X cc own nL lv) {x : Int64} {y : Int32} (hd : decode cc pc = .ok (.lushr, 1)) (k : AW X (pc + 1) L (.long ((x.toUInt64 >>> (y.toInt64.toUInt64 &&& Int64.toUInt64 63)).toInt64) :: st) μ) : AW X pc L (.int y :: .long x :: st) μ := fun hn H locs ls hW hS hl => lv_lushr hX.1 hX.2.1 hd rfl (k hn H locs ls hW hS hl)
theorem aw_i2l (hX : zOk X cc own nL lv) {x : Int32} (hd : decode cc pc = .ok (.i2l, 1)) (k : AW X (pc + 1) L (.long x.toInt64 :: st) μ) : AW X pc L (.int x :: st) μ := fun hn H locs ls hW hS hl => lv_i2l hX.1 hX.2.1 hd rfl (k hn H locs ls hW hS hl)
theorem aw_l2i (hX : zOk X cc own nL lv) {x : Int64} (hd : decode cc pc = .ok (.l2i, 1)) (k : AW X (pc + 1) L (.int x.toInt32 :: st) μ) : AW X pc L (.long x :: st) μ := fun hn H locs ls hW hS hl => lv_l2i hX.1 hX.2.1 hd rfl (k hn H locs ls hW hS hl)
theorem aw_i2c (hX : zOk X cc own nL lv) {x : Int32} (hd : decode cc pc = .ok (.i2c, 1)) (k : AW X (pc + 1) L (.int ((x.toUInt32 % 65536).toInt32) :: st) μ) : AW X pc L (.int x :: st) μ := fun hn H locs ls hW hS hl => lv_i2c hX.1 hX.2.1 hd rfl (k hn H locs ls hW hS hl)
theorem aw_lcmp (hX : zOk X cc own nL lv) {x y : Int64} (hd : decode cc pc = .ok (.lcmp, 1)) (k : AW X (pc + 1) L (.int (lg_cmp x y) :: st) μ) : AW X pc L (.long y :: .long x :: st) μ := fun hn H locs ls hW hS hl => W.lcmp hX.1 hX.2.1 hd (k hn H locs ls hW hS hl)
theorem aw_iconst (hX : zOk X cc own nL lv) {n : Int} {v : Int32} (hd : decode cc pc = .ok (.iconst n, 1)) (hv : Int32.ofInt n = v) (k : AW X (pc + 1) L (.int v :: st) μ) : AW X pc L (st) μ := fun hn H locs ls hW hS hl => lv_iconst hX.1 hX.2.1 hd hv (k hn H locs ls hW hS hl)
theorem aw_bipush (hX : zOk X cc own nL lv) {n : Int} {v : Int32} (hd : decode cc pc = .ok (.bipush n, 2)) (hv : (Int8.ofInt n).toInt32 = v) (k : AW X (pc + 2) L (.int v :: st) μ) : AW X pc L (st) μ := fun hn H locs ls hW hS hl => lv_bipush hX.1 hX.2.1 hd hv (k hn H locs ls hW hS hl)
theorem aw_sipush (hX : zOk X cc own nL lv) {n : Int} {v : Int32} (hd : decode cc pc = .ok (.sipush n, 3)) (hv : (Int16.ofInt n).toInt32 = v) (k : AW X (pc + 3) L (.int v :: st) μ) : AW X pc L (st) μ := fun hn H locs ls hW hS hl => lv_sipush hX.1 hX.2.1 hd hv (k hn H locs ls hW hS hl)
theorem aw_lconst (hX : zOk X cc own nL lv) {n : Fin 2} {v : Int64} (hd : decode cc pc = .ok (.lconst n, 1)) (hv : Int64.ofNat (n : Nat) = v) (k : AW X (pc + 1) L (.long v :: st) μ) : AW X pc L (st) μ := fun hn H locs ls hW hS hl => lv_lconst hX.1 hX.2.1 hd hv (k hn H locs ls hW hS hl)
theorem aw_iload_n (hX : zOk X cc own nL lv) {k : Fin 4} {x : Int32} (hd : decode cc pc = .ok (.iload_n k, 1)) (hi : L[(k : Nat)]? = some (some (.int x))) (k : AW X (pc + 1) L (.int x :: st) μ) : AW X pc L (st) μ := fun hn H locs ls hW hS hl => lv_iload_n hX.1 hX.2.1 hd rfl (zl_at hl hi) (k hn H locs ls hW hS hl)
theorem aw_iload (hX : zOk X cc own nL lv) {i : Nat} {x : Int32} (hd : decode cc pc = .ok (.iload i, 2)) (hi : L[i]? = some (some (.int x))) (k : AW X (pc + 2) L (.int x :: st) μ) : AW X pc L (st) μ := fun hn H locs ls hW hS hl => lv_iload hX.1 hX.2.1 hd (zl_at hl hi) (k hn H locs ls hW hS hl)
theorem aw_lload_n (hX : zOk X cc own nL lv) {k : Fin 4} {x : Int64} (hd : decode cc pc = .ok (.lload_n k, 1)) (hi : L[(k : Nat)]? = some (some (.long x))) (k : AW X (pc + 1) L (.long x :: st) μ) : AW X pc L (st) μ := fun hn H locs ls hW hS hl => lv_lload_n hX.1 hX.2.1 hd rfl (zl_at hl hi) (k hn H locs ls hW hS hl)
theorem aw_lload (hX : zOk X cc own nL lv) {i : Nat} {x : Int64} (hd : decode cc pc = .ok (.lload i, 2)) (hi : L[i]? = some (some (.long x))) (k : AW X (pc + 2) L (.long x :: st) μ) : AW X pc L (st) μ := fun hn H locs ls hW hS hl => lv_lload hX.1 hX.2.1 hd (zl_at hl hi) (k hn H locs ls hW hS hl)
theorem aw_aload_n (hX : zOk X cc own nL lv) {k : Fin 4} {x : Nat} (hd : decode cc pc = .ok (.aload_n k, 1)) (hi : L[(k : Nat)]? = some (some (.ref x))) (k : AW X (pc + 1) L (.ref x :: st) μ) : AW X pc L (st) μ := fun hn H locs ls hW hS hl => lv_aload_n hX.1 hX.2.1 hd rfl (zl_at hl hi) (k hn H locs ls hW hS hl)
theorem aw_aload (hX : zOk X cc own nL lv) {i : Nat} {x : Nat} (hd : decode cc pc = .ok (.aload i, 2)) (hi : L[i]? = some (some (.ref x))) (k : AW X (pc + 2) L (.ref x :: st) μ) : AW X pc L (st) μ := fun hn H locs ls hW hS hl => lv_aload hX.1 hX.2.1 hd (zl_at hl hi) (k hn H locs ls hW hS hl)
theorem aw_dup (hX : zOk X cc own nL lv) {v : Value} (hd : decode cc pc = .ok (.dup, 1)) (hv : v.category = 1) (k : AW X (pc + 1) L (v :: v :: st) μ) : AW X pc L (v :: st) μ := fun hn H locs ls hW hS hl => lv_dup hX.1 hX.2.1 hd hv (k hn H locs ls hW hS hl)
theorem aw_pop (hX : zOk X cc own nL lv) {v : Value} (hd : decode cc pc = .ok (.pop, 1)) (hv : v.category = 1) (k : AW X (pc + 1) L (st) μ) : AW X pc L (v :: st) μ := fun hn H locs ls hW hS hl => lv_pop hX.1 hX.2.1 hd hv (k hn H locs ls hW hS hl)
theorem aw_pop2 (hX : zOk X cc own nL lv) {v : Value} (hd : decode cc pc = .ok (.pop2, 1)) (hv : v.category = 2) (k : AW X (pc + 1) L (st) μ) : AW X pc L (v :: st) μ := fun hn H locs ls hW hS hl => lv_pop2_2 hX.1 hX.2.1 hd hv (k hn H locs ls hW hS hl)
theorem aw_dup2 (hX : zOk X cc own nL lv) {v w : Value} (hd : decode cc pc = .ok (.dup2, 1)) (hv : v.category = 1) (hw : w.category = 1) (k : AW X (pc + 1) L (v :: w :: v :: w :: st) μ) : AW X pc L (v :: w :: st) μ := fun hn H locs ls hW hS hl => lv_dup2_11 hX.1 hX.2.1 hd hv hw (k hn H locs ls hW hS hl)
theorem aw_dup_x1 (hX : zOk X cc own nL lv) {v w : Value} (hd : decode cc pc = .ok (.dup_x1, 1)) (hv : v.category = 1) (hw : w.category = 1) (k : AW X (pc + 1) L (v :: w :: v :: st) μ) : AW X pc L (v :: w :: st) μ := fun hn H locs ls hW hS hl => lv_dup_x1 hX.1 hX.2.1 hd hv hw (k hn H locs ls hW hS hl)
theorem aw_dup_x2 (hX : zOk X cc own nL lv) {v w u : Value} (hd : decode cc pc = .ok (.dup_x2, 1)) (hv : v.category = 1) (hw : w.category = 1) (hu : u.category = 1) (k : AW X (pc + 1) L (v :: w :: u :: v :: st) μ) : AW X pc L (v :: w :: u :: st) μ := fun hn H locs ls hW hS hl => lv_dup_x2 hX.1 hX.2.1 hd hv hw hu (k hn H locs ls hW hS hl)
theorem aw_istore_n (hX : zOk X cc own nL lv) {i : Fin 4} {x : Int32} {L' : List (Option Value)} (hd : decode cc pc = .ok (.istore_n i, 1)) (hi : (i : Nat) < L.length) (hl' : zst1 L i (.int x) = L') (k : AW X (pc + 1) L' st μ) : AW X pc L (.int x :: st) μ := fun hn H locs ls hW hS hl => lv_istore_n hX.1 hX.2.1 hd rfl hl hi rfl (fun ls' h' => k (by subst hl'; exact (by rw [zst1, List.length_set, zkill_len]; exact hn)) H locs ls' hW hS (by subst hl'; exact zl_st1 hi h'))
theorem aw_istore (hX : zOk X cc own nL lv) {i : Nat} {x : Int32} {L' : List (Option Value)} (hd : decode cc pc = .ok (.istore i, 2)) (hi : i < L.length) (hl' : zst1 L i (.int x) = L') (k : AW X (pc + 2) L' st μ) : AW X pc L (.int x :: st) μ := fun hn H locs ls hW hS hl => lv_istore hX.1 hX.2.1 hd hl hi rfl (fun ls' h' => k (by subst hl'; exact (by rw [zst1, List.length_set, zkill_len]; exact hn)) H locs ls' hW hS (by subst hl'; exact zl_st1 hi h'))
theorem aw_lstore_n (hX : zOk X cc own nL lv) {i : Fin 4} {x : Int64} {L' : List (Option Value)} (hd : decode cc pc = .ok (.lstore_n i, 1)) (hi : (i : Nat) + 1 < L.length) (hl' : zst2 L i (.long x) = L') (k : AW X (pc + 1) L' st μ) : AW X pc L (.long x :: st) μ := fun hn H locs ls hW hS hl => lv_lstore_n hX.1 hX.2.1 hd rfl hl hi rfl (fun ls' h' => k (by subst hl'; exact (by rw [zst2, List.length_set, List.length_set, zkill_len]; exact hn)) H locs ls' hW hS (by subst hl'; exact zl_st2 hi h'))
theorem aw_lstore (hX : zOk X cc own nL lv) {i : Nat} {x : Int64} {L' : List (Option Value)} (hd : decode cc pc = .ok (.lstore i, 2)) (hi : i + 1 < L.length) (hl' : zst2 L i (.long x) = L') (k : AW X (pc + 2) L' st μ) : AW X pc L (.long x :: st) μ := fun hn H locs ls hW hS hl => lv_lstore hX.1 hX.2.1 hd hl hi rfl (fun ls' h' => k (by subst hl'; exact (by rw [zst2, List.length_set, List.length_set, zkill_len]; exact hn)) H locs ls' hW hS (by subst hl'; exact zl_st2 hi h'))
theorem aw_astore_n (hX : zOk X cc own nL lv) {i : Fin 4} {x : Nat} {L' : List (Option Value)} (hd : decode cc pc = .ok (.astore_n i, 1)) (hi : (i : Nat) < L.length) (hl' : zst1 L i (.ref x) = L') (k : AW X (pc + 1) L' st μ) : AW X pc L (.ref x :: st) μ := fun hn H locs ls hW hS hl => lv_astore_n hX.1 hX.2.1 hd rfl hl hi rfl (fun ls' h' => k (by subst hl'; exact (by rw [zst1, List.length_set, zkill_len]; exact hn)) H locs ls' hW hS (by subst hl'; exact zl_st1 hi h'))
theorem aw_astore (hX : zOk X cc own nL lv) {i : Nat} {x : Nat} {L' : List (Option Value)} (hd : decode cc pc = .ok (.astore i, 2)) (hi : i < L.length) (hl' : zst1 L i (.ref x) = L') (k : AW X (pc + 2) L' st μ) : AW X pc L (.ref x :: st) μ := fun hn H locs ls hW hS hl => lv_astore hX.1 hX.2.1 hd hl hi rfl (fun ls' h' => k (by subst hl'; exact (by rw [zst1, List.length_set, zkill_len]; exact hn)) H locs ls' hW hS (by subst hl'; exact zl_st1 hi h'))
theorem aw_iinc (hX : zOk X cc own nL lv) {i : Nat} {n : Int} {x v : Int32} {L' : List (Option Value)} (hd : decode cc pc = .ok (.iinc i n, 3)) (hx : L[i]? = some (some (.int x))) (hv : x + Int32.ofInt n = v) (hi : i < L.length) (hl' : zst1 L i (.int v) = L') (k : AW X (pc + 3) L' st μ) : AW X pc L st μ := fun hn H locs ls hW hS hl => by
  obtain ⟨j, hj⟩ := List.getElem?_of_mem (zlp_mem.mpr hx)
  exact lv_iinc hX.1 hX.2.1 hd hl hj hv hi rfl (fun ls' h' => k (by subst hl'; exact (by rw [zst1, List.length_set, zkill_len]; exact hn)) H locs ls' hW hS (by subst hl'; exact zl_st1 hi h'))
theorem aw_icmp_eq (hX : zOk X cc own nL lv) {x y : Int32} {off : Int} {tgt : Nat} (hd : decode cc pc = .ok (.if_icmp .eq off, 3)) (ht : (pc : Int) + off = (tgt : Int)) (kt : x = y → AW X tgt L st μ) (kf : ¬ x = y → AW X (pc + 3) L st μ) : AW X pc L (.int y :: .int x :: st) μ := fun hn H locs ls hW hS hl => lv_icmp_eq hX.1 hX.2.1 hd ht (fun q => kt q hn H locs ls hW hS hl) (fun q => kf q hn H locs ls hW hS hl)
theorem aw_icmp_ne (hX : zOk X cc own nL lv) {x y : Int32} {off : Int} {tgt : Nat} (hd : decode cc pc = .ok (.if_icmp .ne off, 3)) (ht : (pc : Int) + off = (tgt : Int)) (kt : ¬ x = y → AW X tgt L st μ) (kf : x = y → AW X (pc + 3) L st μ) : AW X pc L (.int y :: .int x :: st) μ := fun hn H locs ls hW hS hl => lv_icmp_ne hX.1 hX.2.1 hd ht (fun q => kt q hn H locs ls hW hS hl) (fun q => kf q hn H locs ls hW hS hl)
theorem aw_icmp_lt (hX : zOk X cc own nL lv) {x y : Int32} {off : Int} {tgt : Nat} (hd : decode cc pc = .ok (.if_icmp .lt off, 3)) (ht : (pc : Int) + off = (tgt : Int)) (kt : x < y → AW X tgt L st μ) (kf : ¬ x < y → AW X (pc + 3) L st μ) : AW X pc L (.int y :: .int x :: st) μ := fun hn H locs ls hW hS hl => lv_icmp_lt hX.1 hX.2.1 hd ht (fun q => kt q hn H locs ls hW hS hl) (fun q => kf q hn H locs ls hW hS hl)
theorem aw_icmp_ge (hX : zOk X cc own nL lv) {x y : Int32} {off : Int} {tgt : Nat} (hd : decode cc pc = .ok (.if_icmp .ge off, 3)) (ht : (pc : Int) + off = (tgt : Int)) (kt : y ≤ x → AW X tgt L st μ) (kf : ¬ y ≤ x → AW X (pc + 3) L st μ) : AW X pc L (.int y :: .int x :: st) μ := fun hn H locs ls hW hS hl => lv_icmp_ge hX.1 hX.2.1 hd ht (fun q => kt q hn H locs ls hW hS hl) (fun q => kf q hn H locs ls hW hS hl)
theorem aw_icmp_gt (hX : zOk X cc own nL lv) {x y : Int32} {off : Int} {tgt : Nat} (hd : decode cc pc = .ok (.if_icmp .gt off, 3)) (ht : (pc : Int) + off = (tgt : Int)) (kt : y < x → AW X tgt L st μ) (kf : ¬ y < x → AW X (pc + 3) L st μ) : AW X pc L (.int y :: .int x :: st) μ := fun hn H locs ls hW hS hl => lv_icmp_gt hX.1 hX.2.1 hd ht (fun q => kt q hn H locs ls hW hS hl) (fun q => kf q hn H locs ls hW hS hl)
theorem aw_icmp_le (hX : zOk X cc own nL lv) {x y : Int32} {off : Int} {tgt : Nat} (hd : decode cc pc = .ok (.if_icmp .le off, 3)) (ht : (pc : Int) + off = (tgt : Int)) (kt : x ≤ y → AW X tgt L st μ) (kf : ¬ x ≤ y → AW X (pc + 3) L st μ) : AW X pc L (.int y :: .int x :: st) μ := fun hn H locs ls hW hS hl => lv_icmp_le hX.1 hX.2.1 hd ht (fun q => kt q hn H locs ls hW hS hl) (fun q => kf q hn H locs ls hW hS hl)
theorem aw_if_eq (hX : zOk X cc own nL lv) {x : Int32} {off : Int} {tgt : Nat} (hd : decode cc pc = .ok (.ifCond .eq off, 3)) (ht : (pc : Int) + off = (tgt : Int)) (kt : x = 0 → AW X tgt L st μ) (kf : ¬ x = 0 → AW X (pc + 3) L st μ) : AW X pc L (.int x :: st) μ := fun hn H locs ls hW hS hl => lv_if_eq hX.1 hX.2.1 hd ht (fun q => kt q hn H locs ls hW hS hl) (fun q => kf q hn H locs ls hW hS hl)
theorem aw_if_ne (hX : zOk X cc own nL lv) {x : Int32} {off : Int} {tgt : Nat} (hd : decode cc pc = .ok (.ifCond .ne off, 3)) (ht : (pc : Int) + off = (tgt : Int)) (kt : ¬ x = 0 → AW X tgt L st μ) (kf : x = 0 → AW X (pc + 3) L st μ) : AW X pc L (.int x :: st) μ := fun hn H locs ls hW hS hl => lv_if_ne hX.1 hX.2.1 hd ht (fun q => kt q hn H locs ls hW hS hl) (fun q => kf q hn H locs ls hW hS hl)
theorem aw_if_lt (hX : zOk X cc own nL lv) {x : Int32} {off : Int} {tgt : Nat} (hd : decode cc pc = .ok (.ifCond .lt off, 3)) (ht : (pc : Int) + off = (tgt : Int)) (kt : x < 0 → AW X tgt L st μ) (kf : ¬ x < 0 → AW X (pc + 3) L st μ) : AW X pc L (.int x :: st) μ := fun hn H locs ls hW hS hl => lv_if_lt hX.1 hX.2.1 hd ht (fun q => kt q hn H locs ls hW hS hl) (fun q => kf q hn H locs ls hW hS hl)
theorem aw_if_ge (hX : zOk X cc own nL lv) {x : Int32} {off : Int} {tgt : Nat} (hd : decode cc pc = .ok (.ifCond .ge off, 3)) (ht : (pc : Int) + off = (tgt : Int)) (kt : 0 ≤ x → AW X tgt L st μ) (kf : ¬ 0 ≤ x → AW X (pc + 3) L st μ) : AW X pc L (.int x :: st) μ := fun hn H locs ls hW hS hl => lv_if_ge hX.1 hX.2.1 hd ht (fun q => kt q hn H locs ls hW hS hl) (fun q => kf q hn H locs ls hW hS hl)
theorem aw_if_gt (hX : zOk X cc own nL lv) {x : Int32} {off : Int} {tgt : Nat} (hd : decode cc pc = .ok (.ifCond .gt off, 3)) (ht : (pc : Int) + off = (tgt : Int)) (kt : 0 < x → AW X tgt L st μ) (kf : ¬ 0 < x → AW X (pc + 3) L st μ) : AW X pc L (.int x :: st) μ := fun hn H locs ls hW hS hl => lv_if_gt hX.1 hX.2.1 hd ht (fun q => kt q hn H locs ls hW hS hl) (fun q => kf q hn H locs ls hW hS hl)
theorem aw_if_le (hX : zOk X cc own nL lv) {x : Int32} {off : Int} {tgt : Nat} (hd : decode cc pc = .ok (.ifCond .le off, 3)) (ht : (pc : Int) + off = (tgt : Int)) (kt : x ≤ 0 → AW X tgt L st μ) (kf : ¬ x ≤ 0 → AW X (pc + 3) L st μ) : AW X pc L (.int x :: st) μ := fun hn H locs ls hW hS hl => lv_if_le hX.1 hX.2.1 hd ht (fun q => kt q hn H locs ls hW hS hl) (fun q => kf q hn H locs ls hW hS hl)
theorem aw_goto (hX : zOk X cc own nL lv) {off : Int} {tgt : Nat} (hd : decode cc pc = .ok (.goto off, 3)) (ht : (pc : Int) + off = (tgt : Int)) (k : AW X tgt L st μ) : AW X pc L st μ := fun hn H locs ls hW hS hl => lv_goto hX.1 hX.2.1 hd ht (k hn H locs ls hW hS hl)
theorem aw_tsIn (hX : zOk X cc own nL lv) {dflt lo hi : Int} {offs : Array Int} {len : Nat} {x : Int32} {off : Int} {tgt : Nat} (hd : decode cc pc = .ok (.tableswitch dflt lo hi offs, len)) (h1 : ¬ x.toInt < lo) (h2 : ¬ hi < x.toInt) (ho : offs[(x.toInt - lo).toNat]? = some off) (ht : (pc : Int) + off = (tgt : Int)) (k : AW X tgt L st μ) : AW X pc L (.int x :: st) μ := fun hn H locs ls hW hS hl => lv_tableIn hX.1 hX.2.1 hd h1 h2 ho ht (k hn H locs ls hW hS hl)
theorem aw_tsOut (hX : zOk X cc own nL lv) {dflt lo hi : Int} {offs : Array Int} {len : Nat} {x : Int32} {tgt : Nat} (hd : decode cc pc = .ok (.tableswitch dflt lo hi offs, len)) (h : x.toInt < lo ∨ hi < x.toInt) (ht : (pc : Int) + dflt = (tgt : Int)) (k : AW X tgt L st μ) : AW X pc L (.int x :: st) μ := fun hn H locs ls hW hS hl => lv_tableOut hX.1 hX.2.1 hd h ht (k hn H locs ls hW hS hl)
theorem aw_ldc (hX : zOk X cc own nL lv) {index : Nat} {v : Int32} (hc : Cond.constant own index v ∈ gw) (hd : decode cc pc = .ok (.ldc index, 2)) (k : AW X (pc + 2) L (.int v :: st) μ) : AW X pc L st μ := fun hn H locs ls hW hS hl => lv_ldc hX.1 hX.2.1 hX.2.2.2.1 (hX.2.2.2.2.1 _ hc) hd (k hn H locs ls hW hS hl)
theorem aw_ldcw (hX : zOk X cc own nL lv) {index : Nat} {v : Int32} (hc : Cond.constant own index v ∈ gw) (hd : decode cc pc = .ok (.ldc_w index, 3)) (k : AW X (pc + 3) L (.int v :: st) μ) : AW X pc L st μ := fun hn H locs ls hW hS hl => lv_ldcw hX.1 hX.2.1 hX.2.2.2.1 (hX.2.2.2.2.1 _ hc) hd (k hn H locs ls hW hS hl)
theorem aw_ldc2 (hX : zOk X cc own nL lv) {index : Nat} {v : Int64} (hc : Cond.constantLong own index v ∈ gw) (hd : decode cc pc = .ok (.ldc2_w index, 3)) (k : AW X (pc + 3) L (.long v :: st) μ) : AW X pc L st μ := fun hn H locs ls hW hS hl => lv_ldc2 hX.1 hX.2.1 hX.2.2.2.1 (hX.2.2.2.2.1 _ hc) hd (k hn H locs ls hW hS hl)
/-! fields -/
/-- the field number k of class number ci, as class own's pool entry idx spells it -/
def zLk (own : String) (idx ci k : Nat) : Prop := ∃ (C : String) (T : u_T) (N : Nat), zzCl[ci]? = some (C, T, N) ∧ k < N ∧ (∀ w ∈ u_ws C T N, w ∈ gw) ∧ Cond.fieldLink own idx (T k).1 (T k).2.1 (T k).2.2.1 ∈ gw
/-- .. that may be written: its type -/
def zLp (own : String) (idx ci k : Nat) (ty : FieldType) : Prop := ∃ (C : String) (T : u_T) (N : Nat) (ty0 : Nat → FieldType), zzCl[ci]? = some (C, T, N) ∧ k < N ∧ (∀ w ∈ u_ws C T N, w ∈ gw) ∧ Cond.fieldLink own idx (T k).1 (T k).2.1 (T k).2.2.1 ∈ gw ∧ (∀ k, k < N → parseFieldDescriptor (T k).2.2.1 = some (ty0 k)) ∧ (∀ a, a < N → ∀ b, b < N → a ≠ b → (T a).2.1 ≠ (T b).2.1) ∧ (T k).2.2.2 = false ∧ ty0 k = ty
theorem aw_get (hX : zOk X cc own nL lv) {κ o n ci k idx : Nat} {fds : List (Nat × Nat × Nat × Nat)} {fd : Nat × Nat × Nat × Nat} (lk : zLk own idx ci k) (hs : zzSh[κ]? = some (n, .inr (ci, fds))) (ho : o < n) (hf : fds[k]? = some fd) (hd : decode cc pc = .ok (.getfield idx, 3)) (kk : AW X (pc + 3) L (zfld X.G o fd k (μ.1 κ o) (μ.2 κ o) :: st) μ) : AW X pc L (.ref (X.G.ad κ o) :: st) μ := by
  intro hn H locs ls hW hS hl
  obtain ⟨C, T, N, hc, hk, hin, hlink⟩ := lk
  obtain ⟨i, hi⟩ := zplace hs ho
  have he := zws_at (G := X.G) (μ := μ) hi
  rw [zat_obj hs] at he
  refine va_get hX.1 hX.2.1 (Ts := gw) hX.2.2.2.2.1 hin hX.2.2.2.1 hX.2.2.2.2.2.1 hW.1 i he hc k hk (hX.2.2.2.2.1 _ hlink) (fun _ h => h) ?_ hd (kk hn H locs ls hW hS hl)
  rw [zflds_at, hf, Nat.zero_add]; rfl
theorem aw_geti (hX : zOk X cc own nL lv) {κ o n ci k idx : Nat} {fds : List (Nat × Nat × Nat × Nat)} {q : Nat × Nat × Nat} (lk : zLk own idx ci k) (hs : zzSh[κ]? = some (n, .inr (ci, fds))) (ho : o < n) (hf : fds[k]? = some (0, q)) (hd : decode cc pc = .ok (.getfield idx, 3)) (kk : AW X (pc + 3) L (.int (μ.1 κ o k) :: st) μ) : AW X pc L (.ref (X.G.ad κ o) :: st) μ := aw_get hX lk hs ho hf hd kk
theorem aw_getl (hX : zOk X cc own nL lv) {κ o n ci k idx : Nat} {fds : List (Nat × Nat × Nat × Nat)} {q : Nat × Nat × Nat} (lk : zLk own idx ci k) (hs : zzSh[κ]? = some (n, .inr (ci, fds))) (ho : o < n) (hf : fds[k]? = some (1, q)) (hd : decode cc pc = .ok (.getfield idx, 3)) (kk : AW X (pc + 3) L (.long (μ.2 κ o k) :: st) μ) : AW X pc L (.ref (X.G.ad κ o) :: st) μ := aw_get hX lk hs ho hf hd kk
theorem aw_getr (hX : zOk X cc own nL lv) {κ o n ci k idx κ' mul off o' : Nat} {fds : List (Nat × Nat × Nat × Nat)} (lk : zLk own idx ci k) (hs : zzSh[κ]? = some (n, .inr (ci, fds))) (ho : o < n) (hf : fds[k]? = some (2, κ', mul, off)) (e : mul * o + off = o') (hd : decode cc pc = .ok (.getfield idx, 3)) (kk : AW X (pc + 3) L (.ref (X.G.ad κ' o') :: st) μ) : AW X pc L (.ref (X.G.ad κ o) :: st) μ := by
  subst e
  exact aw_get hX lk hs ho hf hd kk
theorem aw_puti (hX : zOk X cc own nL lv) {κ o n ci k idx : Nat} {v : Int32} {fds : List (Nat × Nat × Nat × Nat)} {q : Nat × Nat × Nat} {ty : FieldType} (lk : zLp own idx ci k ty) (hs : zzSh[κ]? = some (n, .inr (ci, fds))) (ho : o < n) (hf : fds[k]? = some (0, q)) (hna : narrow ty (.int v) = .int v) (hfi : fits ty (.int v) = true) (hd : decode cc pc = .ok (.putfield idx, 3)) (kk : AW X (pc + 3) L st (pI μ κ o k v)) : AW X pc L (.int v :: .ref (X.G.ad κ o) :: st) μ := by
  intro hn H locs ls hW hS hl
  obtain ⟨C, T, N, ty0, hc, hk, hin, hlink, hty, hnm, hfin, ht⟩ := lk
  obtain ⟨i, hi⟩ := zplace hs ho
  have he := zws_at (G := X.G) (μ := μ) hi
  rw [zat_obj hs] at he
  refine va_put hX.1 hX.2.1 (Ts := gw) hX.2.2.2.2.1 hin ty0 hty hnm hX.2.2.2.1 hX.2.2.2.2.2.1 hW.1 hW.2 hS i he hc k hk (hX.2.2.2.2.1 _ hlink) (fun _ h => h) hfin (by rw [hty k hk, ht]) hna hfi (by rw [zflds_len]; exact (List.getElem?_eq_some_iff.mp hf).1) hd (fun H1 locs1 hP1 hD1 hS1 => ?_)
  rw [zflds_setI hf] at hP1 hD1
  have e : (X.G.ad κ o, Sum.inr (ci, zflds X.G o (fun j => if j = k then v else μ.1 κ o j) (μ.2 κ o) 0 fds)) = zat X.G (pI μ κ o k v) (κ, o) := by
    rw [zat_obj hs, pI_row]; rfl
  rw [e, zws_set hi (fun κ' o' h => pI_ne κ' o' h)] at hP1 hD1
  exact kk hn H1 locs1 ls ⟨hP1, hD1⟩ hS1 hl
theorem aw_putl (hX : zOk X cc own nL lv) {κ o n ci k idx : Nat} {v : Int64} {fds : List (Nat × Nat × Nat × Nat)} {q : Nat × Nat × Nat} (lk : zLp own idx ci k .long) (hs : zzSh[κ]? = some (n, .inr (ci, fds))) (ho : o < n) (hf : fds[k]? = some (1, q)) (hd : decode cc pc = .ok (.putfield idx, 3)) (kk : AW X (pc + 3) L st (pL μ κ o k v)) : AW X pc L (.long v :: .ref (X.G.ad κ o) :: st) μ := by
  intro hn H locs ls hW hS hl
  obtain ⟨C, T, N, ty0, hc, hk, hin, hlink, hty, hnm, hfin, ht⟩ := lk
  obtain ⟨i, hi⟩ := zplace hs ho
  have he := zws_at (G := X.G) (μ := μ) hi
  rw [zat_obj hs] at he
  refine va_put hX.1 hX.2.1 (Ts := gw) hX.2.2.2.2.1 hin ty0 hty hnm hX.2.2.2.1 hX.2.2.2.2.2.1 hW.1 hW.2 hS i he hc k hk (hX.2.2.2.2.1 _ hlink) (fun _ h => h) hfin (by rw [hty k hk, ht]) rfl rfl (by rw [zflds_len]; exact (List.getElem?_eq_some_iff.mp hf).1) hd (fun H1 locs1 hP1 hD1 hS1 => ?_)
  rw [zflds_setL hf] at hP1 hD1
  have e : (X.G.ad κ o, Sum.inr (ci, zflds X.G o (μ.1 κ o) (fun j => if j = k then v else μ.2 κ o j) 0 fds)) = zat X.G (pL μ κ o k v) (κ, o) := by
    rw [zat_obj hs, pL_row]; rfl
  rw [e, zws_set hi (fun κ' o' h => pL_ne κ' o' h)] at hP1 hD1
  exact kk hn H1 locs1 ls ⟨hP1, hD1⟩ hS1 hl
/-! arrays -/
theorem aw_iald (hX : zOk X cc own nL lv) {κ o n len : Nat} {q : Nat × Nat × Nat} {i : Int32} (hs : zzSh[κ]? = some (n, .inl (0, len, 0, q))) (ho : o < n) (hi : vp_in i len) (hd : decode cc pc = .ok (.iaload, 1)) (kk : AW X (pc + 1) L (.int (μ.1 κ o i.toNatClampNeg) :: st) μ) : AW X pc L (.int i :: .ref (X.G.ad κ o) :: st) μ := by
  intro hn H locs ls hW hS hl
  obtain ⟨j, hj⟩ := zplace hs ho
  have he := zws_at (G := X.G) (μ := μ) hj
  rw [zat_arr hs] at he
  exact va_iald hX.1 hX.2.1 hX.2.2.2.2.2.1 hW.1 j 0 he rfl hi hd (kk hn H locs ls hW hS hl)
theorem aw_cald (hX : zOk X cc own nL lv) {κ o n len : Nat} {q : Nat × Nat × Nat} {i : Int32} (hs : zzSh[κ]? = some (n, .inl (2, len, 0, q))) (ho : o < n) (hi : vp_in i len) (hd : decode cc pc = .ok (.caload, 1)) (kk : AW X (pc + 1) L (.int (μ.1 κ o i.toNatClampNeg) :: st) μ) : AW X pc L (.int i :: .ref (X.G.ad κ o) :: st) μ := by
  intro hn H locs ls hW hS hl
  obtain ⟨j, hj⟩ := zplace hs ho
  have he := zws_at (G := X.G) (μ := μ) hj
  rw [zat_arr hs] at he
  exact va_cald hX.1 hX.2.1 hX.2.2.2.2.2.1 hW.1 j 2 he rfl hi hd (kk hn H locs ls hW hS hl)
theorem aw_zald (hX : zOk X cc own nL lv) {κ o n len : Nat} {q : Nat × Nat × Nat} {i : Int32} (hs : zzSh[κ]? = some (n, .inl (3, len, 0, q))) (ho : o < n) (hi : vp_in i len) (hd : decode cc pc = .ok (.baload, 1)) (kk : AW X (pc + 1) L (.int (μ.1 κ o i.toNatClampNeg) :: st) μ) : AW X pc L (.int i :: .ref (X.G.ad κ o) :: st) μ := by
  intro hn H locs ls hW hS hl
  obtain ⟨j, hj⟩ := zplace hs ho
  have he := zws_at (G := X.G) (μ := μ) hj
  rw [zat_arr hs] at he
  exact va_zald hX.1 hX.2.1 hX.2.2.2.2.2.1 hW.1 j 3 he rfl hi hd (kk hn H locs ls hW hS hl)
theorem aw_iast (hX : zOk X cc own nL lv) {κ o n len : Nat} {q : Nat × Nat × Nat} {i x : Int32} (hs : zzSh[κ]? = some (n, .inl (0, len, 0, q))) (ho : o < n) (hi : vp_in i len) (hd : decode cc pc = .ok (.iastore, 1)) (kk : AW X (pc + 1) L st (pI μ κ o i.toNatClampNeg x)) : AW X pc L (.int x :: .int i :: .ref (X.G.ad κ o) :: st) μ := by
  intro hn H locs ls hW hS hl
  obtain ⟨j, hj⟩ := zplace hs ho
  have he := zws_at (G := X.G) (μ := μ) hj
  rw [zat_arr hs] at he
  refine va_iast hX.1 hX.2.1 hX.2.2.2.2.2.1 hW.1 hW.2 hS j 0 he rfl hi hd (fun H1 locs1 hP1 hD1 hS1 => ?_)
  have e : (X.G.ad κ o, (Sum.inl (X.G.cA 0, len, .inl (upd (μ.1 κ o) i.toNatClampNeg x)) : va_E)) = zat X.G (pI μ κ o i.toNatClampNeg x) (κ, o) := by
    rw [zat_arr hs, pI_row]; rfl
  rw [e, zws_set hj (fun κ' o' h => pI_ne κ' o' h)] at hP1 hD1
  exact kk hn H1 locs1 ls ⟨hP1, hD1⟩ hS1 hl
theorem aw_cast (hX : zOk X cc own nL lv) {κ o n len : Nat} {q : Nat × Nat × Nat} {i x : Int32} (hs : zzSh[κ]? = some (n, .inl (2, len, 0, q))) (ho : o < n) (hi : vp_in i len) (hd : decode cc pc = .ok (.castore, 1)) (kk : AW X (pc + 1) L st (pI μ κ o i.toNatClampNeg (vp_nar .char x))) : AW X pc L (.int x :: .int i :: .ref (X.G.ad κ o) :: st) μ := by
  intro hn H locs ls hW hS hl
  obtain ⟨j, hj⟩ := zplace hs ho
  have he := zws_at (G := X.G) (μ := μ) hj
  rw [zat_arr hs] at he
  refine va_cast hX.1 hX.2.1 hX.2.2.2.2.2.1 hW.1 hW.2 hS j 2 he rfl hi hd (fun H1 locs1 hP1 hD1 hS1 => ?_)
  have e : (X.G.ad κ o, (Sum.inl (X.G.cA 2, len, .inl (upd (μ.1 κ o) i.toNatClampNeg (vp_nar .char x))) : va_E)) = zat X.G (pI μ κ o i.toNatClampNeg (vp_nar .char x)) (κ, o) := by
    rw [zat_arr hs, pI_row]; rfl
  rw [e, zws_set hj (fun κ' o' h => pI_ne κ' o' h)] at hP1 hD1
  exact kk hn H1 locs1 ls ⟨hP1, hD1⟩ hS1 hl
theorem aw_zast (hX : zOk X cc own nL lv) {κ o n len : Nat} {q : Nat × Nat × Nat} {i x : Int32} (hs : zzSh[κ]? = some (n, .inl (3, len, 0, q))) (ho : o < n) (hi : vp_in i len) (hd : decode cc pc = .ok (.bastore, 1)) (kk : AW X (pc + 1) L st (pI μ κ o i.toNatClampNeg (vp_nar .boolean x))) : AW X pc L (.int x :: .int i :: .ref (X.G.ad κ o) :: st) μ := by
  intro hn H locs ls hW hS hl
  obtain ⟨j, hj⟩ := zplace hs ho
  have he := zws_at (G := X.G) (μ := μ) hj
  rw [zat_arr hs] at he
  refine va_zast hX.1 hX.2.1 hX.2.2.2.2.2.1 hW.1 hW.2 hS j 3 he rfl hi hd (fun H1 locs1 hP1 hD1 hS1 => ?_)
  have e : (X.G.ad κ o, (Sum.inl (X.G.cA 3, len, .inl (upd (μ.1 κ o) i.toNatClampNeg (vp_nar .boolean x))) : va_E)) = zat X.G (pI μ κ o i.toNatClampNeg (vp_nar .boolean x)) (κ, o) := by
    rw [zat_arr hs, pI_row]; rfl
  rw [e, zws_set hj (fun κ' o' h => pI_ne κ' o' h)] at hP1 hD1
  exact kk hn H1 locs1 ls ⟨hP1, hD1⟩ hS1 hl
theorem aw_lald (hX : zOk X cc own nL lv) {κ o n len : Nat} {q : Nat × Nat × Nat} {i : Int32} (hs : zzSh[κ]? = some (n, .inl (1, len, 1, q))) (ho : o < n) (hi : vp_in i len) (hd : decode cc pc = .ok (.laload, 1)) (kk : AW X (pc + 1) L (.long (μ.2 κ o i.toNatClampNeg) :: st) μ) : AW X pc L (.int i :: .ref (X.G.ad κ o) :: st) μ := by
  intro hn H locs ls hW hS hl
  obtain ⟨j, hj⟩ := zplace hs ho
  have he := zws_at (G := X.G) (μ := μ) hj
  rw [zat_arr hs] at he
  exact va_lald hX.1 hX.2.1 hX.2.2.2.2.2.1 hW.1 j 1 he rfl hi hd (kk hn H locs ls hW hS hl)
theorem aw_last (hX : zOk X cc own nL lv) {κ o n len : Nat} {q : Nat × Nat × Nat} {i : Int32} {x : Int64} (hs : zzSh[κ]? = some (n, .inl (1, len, 1, q))) (ho : o < n) (hi : vp_in i len) (hd : decode cc pc = .ok (.lastore, 1)) (kk : AW X (pc + 1) L st (pL μ κ o i.toNatClampNeg x)) : AW X pc L (.long x :: .int i :: .ref (X.G.ad κ o) :: st) μ := by
  intro hn H locs ls hW hS hl
  obtain ⟨j, hj⟩ := zplace hs ho
  have he := zws_at (G := X.G) (μ := μ) hj
  rw [zat_arr hs] at he
  refine va_last hX.1 hX.2.1 hX.2.2.2.2.2.1 hW.1 hW.2 hS j 1 he rfl hi hd (fun H1 locs1 hP1 hD1 hS1 => ?_)
  have e : (X.G.ad κ o, (Sum.inl (X.G.cA 1, len, .inr (.inl (vp_updL (μ.2 κ o) i.toNatClampNeg x))) : va_E)) = zat X.G (pL μ κ o i.toNatClampNeg x) (κ, o) := by
    rw [zat_arr hs, pL_row]; rfl
  rw [e, zws_set hj (fun κ' o' h => pL_ne κ' o' h)] at hP1 hD1
  exact kk hn H1 locs1 ls ⟨hP1, hD1⟩ hS1 hl
theorem aw_aald (hX : zOk X cc own nL lv) {κ o n len t κ' mul off o' : Nat} {i : Int32} (hs : zzSh[κ]? = some (n, .inl (t, len, 2, κ', mul, off))) (ho : o < n) {C : String} (ht : (zty X.G)[t]? = some (X.G.cA t, .object C)) (hi : vp_in i len) (e : mul * o + off + i.toNatClampNeg = o') (hd : decode cc pc = .ok (.aaload, 1)) (kk : AW X (pc + 1) L (.ref (X.G.ad κ' o') :: st) μ) : AW X pc L (.int i :: .ref (X.G.ad κ o) :: st) μ := by
  intro hn H locs ls hW hS hl
  subst e
  obtain ⟨j, hj⟩ := zplace hs ho
  have he := zws_at (G := X.G) (μ := μ) hj
  rw [zat_arr hs] at he
  exact va_aldq hX.1 hX.2.1 hX.2.2.2.2.2.1 hW.1 j t he ht hi hd (kk hn H locs ls hW hS hl)
theorem aw_waald (hX : zOk X cc own nL lv) {κ o n len : Nat} {q : Nat × Nat × Nat} {i : Int32} (hs : zzSh[κ]? = some (n, .inl (7, len, 3, q))) (ho : o < n) (hi : vp_in i len) (hd : decode cc pc = .ok (.aaload, 1)) (kk : AW X (pc + 1) L (.ref (X.G.aw (μ.1 κ o i.toNatClampNeg).toNatClampNeg) :: st) μ) : AW X pc L (.int i :: .ref (X.G.ad κ o) :: st) μ := by
  intro hn H locs ls hW hS hl
  obtain ⟨j, hj⟩ := zplace hs ho
  have he := zws_at (G := X.G) (μ := μ) hj
  rw [zat_arr hs] at he
  exact va_aldq hX.1 hX.2.1 hX.2.2.2.2.2.1 hW.1 j 7 he rfl hi hd (kk hn H locs ls hW hS hl)
theorem aw_alen (hX : zOk X cc own nL lv) {κ o n t len : Nat} {q : Nat × Nat × Nat × Nat} {ty : FieldType} {v : Int32} (hs : zzSh[κ]? = some (n, .inl (t, len, q))) (ho : o < n) (ht : (zty X.G)[t]? = some (X.G.cA t, ty)) (hv : Int32.ofNat len = v) (hd : decode cc pc = .ok (.arraylength, 1)) (kk : AW X (pc + 1) L (.int v :: st) μ) : AW X pc L (.ref (X.G.ad κ o) :: st) μ := by
  intro hn H locs ls hW hS hl
  obtain ⟨j, hj⟩ := zplace hs ho
  have he := zws_at (G := X.G) (μ := μ) hj
  rw [zat_arr hs] at he
  exact va_alen hX.1 hX.2.1 hX.2.2.2.2.2.1 hW.1 j t he ht hv hd (kk hn H locs ls hW hS hl)
end ZR
