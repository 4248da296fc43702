theorem aw_iushr {X : zX} {cc : ByteArray} {own : String} {nL lv pc : Nat} {L : List (Option Value)} {st : List Value} {μ : zM} (hX : zOk X cc own nL lv) {x y : Int32} (hd : decode cc pc = .ok (.iushr, 1)) (k : AW X (pc + 1) L (.int (UInt32.toInt32 (Int32.toUInt32 x >>> (Int32.toUInt32 y &&& Int32.toUInt32 31))) :: st) μ) : AW X pc L (.int y :: .int x :: st) μ := fun hn H locs ls hW hS hl => lv_iushr hX.1 hX.2.1 hd rfl (k hn H locs ls hW hS hl)
set_option maxRecDepth 100000 in
set_option maxHeartbeats 4000000 in
theorem st_J6_bitCount_0f7a4_0 {X : zX} {lv : Nat} {Post : Option Value → zM → Prop} (hX : zOk X cJ6_bitCount_0f7a4 RJ6 1 lv) (hr : zRt X (some .int) Post)  {x0 : Int32} {μ : zM}
    (k : ∀ v1 : Int32, v1 = (x0 - ((UInt32.toInt32 (Int32.toUInt32 x0 >>> (Int32.toUInt32 (1 : Int32) &&& Int32.toUInt32 31))) &&& (1431655765 : Int32))) → (∀ v2 : Int32, v2 = ((v1 &&& (858993459 : Int32)) + ((UInt32.toInt32 (Int32.toUInt32 v1 >>> (Int32.toUInt32 (2 : Int32) &&& Int32.toUInt32 31))) &&& (858993459 : Int32))) → (∀ v3 : Int32, v3 = ((v2 + (UInt32.toInt32 (Int32.toUInt32 v2 >>> (Int32.toUInt32 (4 : Int32) &&& Int32.toUInt32 31)))) &&& (252645135 : Int32)) → (∀ v4 : Int32, v4 = (v3 + (UInt32.toInt32 (Int32.toUInt32 v3 >>> (Int32.toUInt32 (8 : Int32) &&& Int32.toUInt32 31)))) → (∀ v5 : Int32, v5 = (v4 + (UInt32.toInt32 (Int32.toUInt32 v4 >>> (Int32.toUInt32 (16 : Int32) &&& Int32.toUInt32 31)))) → (Post (some (.int (v5 &&& (63 : Int32)))) μ)))))) :
    AW X 0 [some (.int x0)] [] μ := by
  refine aw_iload_n hX dJ6_bitCount_0f7a4_0 rfl ?_
  refine aw_iload_n hX dJ6_bitCount_0f7a4_1 rfl ?_
  refine aw_iconst hX dJ6_bitCount_0f7a4_2 zk_1 ?_
  refine aw_iushr hX dJ6_bitCount_0f7a4_3 ?_
  refine aw_ldcw hX kc_RJ6_265 dJ6_bitCount_0f7a4_4 ?_
  refine aw_iand hX dJ6_bitCount_0f7a4_7 ?_
  refine aw_isub hX dJ6_bitCount_0f7a4_8 ?_
  refine aw_topi (fun v1 ev1 => ?_)
  have k := k v1 ev1
  refine aw_istore_n (L' := [some (.int v1)]) hX dJ6_bitCount_0f7a4_9 (Nat.le_of_ble_eq_true rfl) rfl ?_
  refine aw_iload_n hX dJ6_bitCount_0f7a4_10 rfl ?_
  refine aw_ldcw hX kc_RJ6_266 dJ6_bitCount_0f7a4_11 ?_
  refine aw_iand hX dJ6_bitCount_0f7a4_14 ?_
  refine aw_iload_n hX dJ6_bitCount_0f7a4_15 rfl ?_
  refine aw_iconst hX dJ6_bitCount_0f7a4_16 zk_2 ?_
  refine aw_iushr hX dJ6_bitCount_0f7a4_17 ?_
  refine aw_ldcw hX kc_RJ6_266 dJ6_bitCount_0f7a4_18 ?_
  refine aw_iand hX dJ6_bitCount_0f7a4_21 ?_
  refine aw_iadd hX dJ6_bitCount_0f7a4_22 ?_
  refine aw_topi (fun v2 ev2 => ?_)
  have k := k v2 ev2
  refine aw_istore_n (L' := [some (.int v2)]) hX dJ6_bitCount_0f7a4_23 (Nat.le_of_ble_eq_true rfl) rfl ?_
  refine aw_iload_n hX dJ6_bitCount_0f7a4_24 rfl ?_
  refine aw_iload_n hX dJ6_bitCount_0f7a4_25 rfl ?_
  refine aw_iconst hX dJ6_bitCount_0f7a4_26 zk_4 ?_
  refine aw_iushr hX dJ6_bitCount_0f7a4_27 ?_
  refine aw_iadd hX dJ6_bitCount_0f7a4_28 ?_
  refine aw_ldcw hX kc_RJ6_267 dJ6_bitCount_0f7a4_29 ?_
  refine aw_iand hX dJ6_bitCount_0f7a4_32 ?_
  refine aw_topi (fun v3 ev3 => ?_)
  have k := k v3 ev3
  refine aw_istore_n (L' := [some (.int v3)]) hX dJ6_bitCount_0f7a4_33 (Nat.le_of_ble_eq_true rfl) rfl ?_
  refine aw_iload_n hX dJ6_bitCount_0f7a4_34 rfl ?_
  refine aw_iload_n hX dJ6_bitCount_0f7a4_35 rfl ?_
  refine aw_bipush hX dJ6_bitCount_0f7a4_36 zb_8 ?_
  refine aw_iushr hX dJ6_bitCount_0f7a4_38 ?_
  refine aw_iadd hX dJ6_bitCount_0f7a4_39 ?_
  refine aw_topi (fun v4 ev4 => ?_)
  have k := k v4 ev4
  refine aw_istore_n (L' := [some (.int v4)]) hX dJ6_bitCount_0f7a4_40 (Nat.le_of_ble_eq_true rfl) rfl ?_
  refine aw_iload_n hX dJ6_bitCount_0f7a4_41 rfl ?_
  refine aw_iload_n hX dJ6_bitCount_0f7a4_42 rfl ?_
  refine aw_bipush hX dJ6_bitCount_0f7a4_43 zb_16 ?_
  refine aw_iushr hX dJ6_bitCount_0f7a4_45 ?_
  refine aw_iadd hX dJ6_bitCount_0f7a4_46 ?_
  refine aw_topi (fun v5 ev5 => ?_)
  have k := k v5 ev5
  refine aw_istore_n (L' := [some (.int v5)]) hX dJ6_bitCount_0f7a4_47 (Nat.le_of_ble_eq_true rfl) rfl ?_
  refine aw_iload_n hX dJ6_bitCount_0f7a4_48 rfl ?_
  refine aw_bipush hX dJ6_bitCount_0f7a4_49 zb_63 ?_
  refine aw_iand hX dJ6_bitCount_0f7a4_51 ?_
  exact aw_iret hX hr dJ6_bitCount_0f7a4_52 k

/-! how many bits, of a small number -/
def bcN (k : Nat) : Nat := (if k.testBit 0 then 1 else 0) + (if k.testBit 1 then 1 else 0) + (if k.testBit 2 then 1 else 0) + (if k.testBit 3 then 1 else 0) + (if k.testBit 4 then 1 else 0) + (if k.testBit 5 then 1 else 0)
def BCX (x0 : Int32) : Int32 :=
  let v1 : Int32 := (x0 - ((UInt32.toInt32 (Int32.toUInt32 x0 >>> (Int32.toUInt32 (1 : Int32) &&& Int32.toUInt32 31))) &&& (1431655765 : Int32)))
  let v2 : Int32 := ((v1 &&& (858993459 : Int32)) + ((UInt32.toInt32 (Int32.toUInt32 v1 >>> (Int32.toUInt32 (2 : Int32) &&& Int32.toUInt32 31))) &&& (858993459 : Int32)))
  let v3 : Int32 := ((v2 + (UInt32.toInt32 (Int32.toUInt32 v2 >>> (Int32.toUInt32 (4 : Int32) &&& Int32.toUInt32 31)))) &&& (252645135 : Int32))
  let v4 : Int32 := (v3 + (UInt32.toInt32 (Int32.toUInt32 v3 >>> (Int32.toUInt32 (8 : Int32) &&& Int32.toUInt32 31))))
  let v5 : Int32 := (v4 + (UInt32.toInt32 (Int32.toUInt32 v4 >>> (Int32.toUInt32 (16 : Int32) &&& Int32.toUInt32 31))))
  v5 &&& (63 : Int32)
theorem BCX_ok : ∀ k, k < 64 → BCX (nI k) = nI (bcN k) := by decide +kernel
theorem cj_bits {l : Launch} {G : zG} {μ : zM} {k : Nat} (hk : k < 64) :
    zCT l G 0 yJ6_bitCount_0f7a4 cJ6_bitCount_0f7a4 1 (some .int) [.int (nI k)] μ (zI fun r μ' => r = nI (bcN k) ∧ μ' = μ) := by
  refine zCT_of (by decide) (Nat.le_of_ble_eq_true rfl) rfl (fun X hl hG hX hr => ?_)
  subst hG
  refine st_J6_bitCount_0f7a4_0 hX hr (fun v1 e1 v2 e2 v3 e3 v4 e4 v5 e5 => ⟨_, rfl, ?_, rfl⟩)
  subst e5 e4 e3 e2 e1
  exact BCX_ok k hk
