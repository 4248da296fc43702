/-! THE START: what the Statement gives of the world around ours -/
def flN : List Cond := flatC (Jvm.Cond.and given_1 narrow_1)
def zTi : List (String × Nat) := [(RX8, 121), (RX8, 121), (RX8, 128), (RX8, 131), (RX8, 136), (RX8, 139), (RX8, 142), (RX8, 145), (RX8, 148), (RX8, 151), (RX8, 154), (RX8, 157), (RX8, 160), (RX8, 163), (RX8, 166), (RX8, 169), (RX8, 172), (RX8, 175), (RX8, 178), (RX8, 181), (RX8, 184), (RX8, 187), (RX8, 190), (RX8, 193), (RX8, 196), (RX8, 199), (RX8, 202), (RX8, 205), (RX5, 61), (RX10, 111), (RX10, 227)]
def zTt (k : Nat) : Term := .string (zTi.getD k ("", 0)).1 (zTi.getD k ("", 0)).2
def zWt (i : Nat) : Term := .static RX8 (zWn.getD i "") "LRainLoans$Word;"
def zWd (i : Nat) : List Cond := [Cond.exactly (zWt i) RX8, .eq (.field (zWt i) "java/lang/Enum" "ordinal" "I") (.int (zWo.getD i 0)), .eq (.field (zWt i) RX8 "text" "Ljava/lang/String;") (zTt i), .eq (.field (zWt i) RX8 "kind" "I") (.int (zWk.getD i 0)), .eq (.field (zWt i) RX8 "fact" "I") (.int (zWf.getD i 0))]
def zWe (i : Nat) : Cond := .eq (.elem (.static RX5 "WORDS" "[LRainLoans$Word;") (.int (Int32.ofNat i))) (zWt i)
def zTd (k : Nat) : List Cond := [Cond.exactly (zTt k) "java/lang/String", .eq (.field (zTt k) "java/lang/String" "coder" "B") (.int 0), .arrayOf (.field (zTt k) "java/lang/String" "value" "[B") .byte, .eq (.length (.field (zTt k) "java/lang/String" "value" "[B")) (.int (Int32.ofNat (zTx.getD k []).length))] ++ (List.range (zTx.getD k []).length).map (fun j => .eq (.elem (.field (zTt k) "java/lang/String" "value" "[B") (.int (Int32.ofNat j))) (.int ((zTx.getD k []).getD j 0)))
/-! where they stand -/
def pWd : List Nat := [4, 9, 52, 57, 62, 67, 72, 77, 82, 87, 92, 97, 102, 107, 112, 117, 139, 144, 149, 154, 159, 164, 169, 174, 179, 122, 127, 132]
def pTd : List Nat := [317, 317, 321, 329, 336, 343, 352, 360, 366, 375, 383, 390, 396, 404, 411, 419, 445, 454, 462, 472, 482, 492, 501, 511, 520, 425, 432, 439, 252, 264, 282]
set_option maxRecDepth 100000 in
theorem nx_W : (List.range 28).all (fun i => decide ((flN.drop (pWd.getD i 0)).take 5 = zWd i)) = true := by decide +kernel
set_option maxRecDepth 100000 in
theorem nx_E : (flN.drop 19).take 28 = (List.range 28).map zWe := by decide +kernel
set_option maxRecDepth 100000 in
theorem nx_T : (List.range 31).all (fun k => decide ((flN.drop (pTd.getD k 0)).take (zTd k).length = zTd k)) = true := by decide +kernel
set_option maxRecDepth 100000 in
theorem nx_S : (List.range 28).all (fun i => decide (Cond.laysStatic RX8 (zWn.getD i "") "LRainLoans$Word;" ∈ tables_1)) = true := by decide +kernel
set_option maxRecDepth 100000 in
theorem nx_O : Cond.arrayOf (.static RX5 "WORDS" "[LRainLoans$Word;") (.object "RainLoans$Word") ∈ flN ∧ Cond.eq (.length (.static RX5 "WORDS" "[LRainLoans$Word;")) (.int (Int32.ofNat 28)) ∈ flN ∧ Cond.eq (.static RJ0 "COMPACT_STRINGS" "Z") (.int 1) ∈ flN ∧ Cond.isRef (.static RJ3 "SIOOBE_FORMATTER" "Ljava/util/function/BiFunction;") ∈ flN ∧ Cond.isRef (.static Bundle.tN "UNASSIGNED_STACK" Bundle.steD) ∈ flN ∧ Cond.isRef (.static Bundle.tN "SUPPRESSED_SENTINEL" Bundle.listD) ∈ flN := by decide +kernel
set_option maxRecDepth 100000 in
theorem nx_L : Cond.initialized RX8 ∈ lw_tbl ∧ Cond.initialized RX5 ∈ lw_tbl ∧ Cond.initialized RJ0 ∈ lw_tbl ∧ Cond.initialized RJ3 ∈ lw_tbl ∧ Cond.initialized Bundle.tN ∈ lw_tbl ∧ Cond.laysStatic RX5 "WORDS" "[LRainLoans$Word;" ∈ lw_tbl ∧ Cond.laysStatic RJ0 "COMPACT_STRINGS" "Z" ∈ lw_tbl ∧ Cond.laysStatic RJ3 "SIOOBE_FORMATTER" "Ljava/util/function/BiFunction;" ∈ lw_tbl ∧ Cond.laysStatic Bundle.tN "UNASSIGNED_STACK" Bundle.steD ∈ lw_tbl ∧ Cond.laysStatic Bundle.tN "SUPPRESSED_SENTINEL" Bundle.listD ∈ lw_tbl ∧ Cond.stringRef RX5 61 "()<=+-*;" ∈ lw_tbl ∧ Cond.stringRef RX10 111 "no such person" ∈ lw_tbl ∧ Cond.stringRef RX10 227 "no such bets or no such weather" ∈ lw_tbl := by decide +kernel
set_option maxRecDepth 100000 in
theorem nx_B : ∀ w ∈ nsB, w ∈ lw_tbl := by decide +kernel
theorem in_cut {α : Type} {l : List α} {p n : Nat} {x : α} (h : x ∈ (l.drop p).take n) : x ∈ l := List.mem_of_mem_drop (List.mem_of_mem_take h)
theorem nx_Wm {i : Nat} (hi : i < 28) {w : Cond} (hw : w ∈ zWd i) : w ∈ flN := by
  have h1 := of_decide_eq_true (List.all_eq_true.mp nx_W i (List.mem_range.mpr hi))
  exact in_cut (by rw [h1]; exact hw)
theorem nx_Tm {k : Nat} (hk : k < 31) {w : Cond} (hw : w ∈ zTd k) : w ∈ flN := by
  have h1 := of_decide_eq_true (List.all_eq_true.mp nx_T k (List.mem_range.mpr hk))
  exact in_cut (by rw [h1]; exact hw)
theorem nx_Em {i : Nat} (hi : i < 28) : zWe i ∈ flN := in_cut (p := 19) (n := 28) (by rw [nx_E]; exact List.mem_map.mpr ⟨i, List.mem_range.mpr hi, rfl⟩)
section ST
variable {args : Array Value} {s : State}
/-- one constant of the enum -/
theorem st_word (hs : ∀ w ∈ flN, w.before args s = true) (hts : ∀ w ∈ lw_tbl, w.before args s = true) {A : Nat → Prop} (hA : ∀ a : Nat, a < s.heap.size → ¬ A a) {i : Nat} (hi : i < 28) : ∃ t : Nat, (zWt i).eval args s none [] s = some (.ref t) ∧ va_Z RX8 (zWn.getD i "") "LRainLoans$Word;" (.ref t) A s s.heap ∧ va_O RX8 t A s s.heap ∧ (∀ q ∈ zWF, va_OF q.1 q.2.1 q.2.2.1 (.int (q.2.2.2.getD i 0)) t A s s.heap) := by
  have hw : ∀ w ∈ zWd i, w.before args s = true := fun w h => hs w (nx_Wm hi h)
  obtain ⟨a, c, cell, k, q1, q2, q3, q4, q5, q6, -⟩ := Cond.exactly_spec (args := args) (first := s) (o := none) (s := s) (idx := []) (t := zWt i) (cls := RX8) (hw _ (by simp [zWd]))
  have hl : Cond.laysStatic RX8 (zWn.getD i "") "LRainLoans$Word;" ∈ lw_tbl := List.mem_append_right _ (of_decide_eq_true (List.all_eq_true.mp nx_S i (List.mem_range.mpr hi)))
  refine ⟨a, q1, va_Zref (hts _ hl) (hts _ nx_L.1) q1 hA, ⟨cell, q3, q5, by rw [q6]; exact q2, hA a (Array.getElem?_eq_some_iff.mp q3).1⟩, fun q hq => ?_⟩
  simp only [zWF, List.mem_cons, List.not_mem_nil, or_false] at hq
  rcases hq with rfl | rfl | rfl
  · exact vk_OFof q1 (va_eqt (hw _ (by simp [zWd]))) hA
  · exact vk_OFof q1 (va_eqt (hw _ (by simp [zWd]))) hA
  · exact vk_OFof q1 (va_eqt (hw _ (by simp [zWd]))) hA
/-- one string -/
theorem st_text (hs : ∀ w ∈ flN, w.before args s = true) {A : Nat → Prop} (hA : ∀ a : Nat, a < s.heap.size → ¬ A a) {k : Nat} (hk : k < 31) : ∃ q : Nat × Nat, (zTt k).eval args s none [] s = some (.ref q.1) ∧ zStr q.1 q.2 (zTx.getD k []) A s s.heap := by
  have hw : ∀ w ∈ zTd k, w.before args s = true := fun w h => hs w (nx_Tm hk h)
  have hlen : (zTx.getD k []).length < 2 ^ 31 := by
    have h : ∀ k, k < 31 → (zTx.getD k []).length < 100 := by decide +kernel
    have := h k hk
    omega
  obtain ⟨adK, adV, h1, h2⟩ := vk_Sof (args := args) (s := s) (N := 1) (tm := fun _ => zTt k) (len := [(zTx.getD k []).length]) (byt := [zTx.getD k []]) (A := A) (fun i hi => by rw [show i = 0 by omega]; exact hlen)
    (fun i hi => hw _ (by simp [zTd])) (fun i hi => hw _ (by simp [zTd])) (fun i hi => hw _ (by simp [zTd])) (fun i hi => by rw [show i = 0 by omega]; exact hw _ (by simp [zTd]))
    (fun i hi j hj => by
      rw [show i = 0 by omega] at hj ⊢
      exact hw _ (List.mem_append_right _ (List.mem_map.mpr ⟨j, List.mem_range.mpr hj, rfl⟩))) (fun i j hi hj h => absurd (show i = j by omega) h) hA
  exact ⟨(adK 0, adV 0), h2 0 (by omega), h1.1 0 (by omega)⟩
theorem st_sx (hs : ∀ w ∈ flN, w.before args s = true) (hts : ∀ w ∈ lw_tbl, w.before args s = true) : ∃ aw : Nat → Nat, zSX aw s.heap.size s s.heap := by
  have hA : ∀ a : Nat, a < s.heap.size → ¬ (fun q => s.heap.size ≤ q) a := fun a h z => by have : s.heap.size ≤ a := z; omega
  have w0 : ∀ i : Nat, ∃ t : Nat, i < 28 → (zWt i).eval args s none [] s = some (.ref t) ∧ va_Z RX8 (zWn.getD i "") "LRainLoans$Word;" (.ref t) (fun q => s.heap.size ≤ q) s s.heap ∧ va_O RX8 t (fun q => s.heap.size ≤ q) s s.heap ∧ (∀ q ∈ zWF, va_OF q.1 q.2.1 q.2.2.1 (.int (q.2.2.2.getD i 0)) t (fun q => s.heap.size ≤ q) s s.heap) := fun i => by
    by_cases hi : i < 28
    · obtain ⟨t, h⟩ := st_word hs hts hA hi
      exact ⟨t, fun _ => h⟩
    · exact ⟨0, fun h => absurd h hi⟩
  have t0 : ∀ k : Nat, ∃ q : Nat × Nat, k < 31 → (zTt k).eval args s none [] s = some (.ref q.1) ∧ zStr q.1 q.2 (zTx.getD k []) (fun q => s.heap.size ≤ q) s s.heap := fun k => by
    by_cases hk : k < 31
    · obtain ⟨q, h⟩ := st_text hs hA hk
      exact ⟨q, fun _ => h⟩
    · exact ⟨(0, 0), fun h => absurd h hk⟩
  obtain ⟨ad, had⟩ := Classical.axiomOfChoice w0
  obtain ⟨at', hat⟩ := Classical.axiomOfChoice t0
  obtain ⟨t3, e3, hT3⟩ := va_Tof (args := args) (s := s) (tm := .static RX5 "WORDS" "[LRainLoans$Word;") (ty := .object "RainLoans$Word") (N := 28) (f := fun j => .ref (ad j)) (A := fun q => s.heap.size ≤ q) (by decide) (hs _ nx_O.1) (va_eqt (hs _ nx_O.2.1)) (fun j hj => va_eqv (hs _ (nx_Em hj)) (had j hj).1) hA
  obtain ⟨aw, haw⟩ : ∃ aw : Nat → Nat, aw = fun n => if n < 100 then ad n else if n < 200 then (at' (n - 100)).1 else if n < 300 then (at' (n - 200)).2 else t3 := ⟨_, rfl⟩
  have a1 : ∀ i, i < 28 → aw i = ad i := fun i hi => by rw [haw]; simp only []; rw [if_pos (by omega)]
  have a2 : ∀ k, k < 31 → aw (100 + k) = (at' k).1 := fun k hk => by rw [haw]; simp only []; rw [if_neg (by omega), if_pos (by omega), Nat.add_sub_cancel_left]
  have a3 : ∀ k, k < 31 → aw (200 + k) = (at' k).2 := fun k hk => by rw [haw]; simp only []; rw [if_neg (by omega), if_neg (by omega), if_pos (by omega), Nat.add_sub_cancel_left]
  have a4 : aw 300 = t3 := by rw [haw]; rfl
  refine ⟨aw, ⟨⟨fun i hi => ?_, fun i j hi hj e => ?_⟩, fun i hi => ?_, fun k hk => ?_, ?_, ?_, va_Zof (hts _ nx_L.2.2.2.2.2.2.1) (hts _ nx_L.2.2.1) (va_eqt (hs _ nx_O.2.2.1)) hA, va_Zqof (hts _ nx_L.2.2.2.2.2.2.2.1) (hts _ nx_L.2.2.2.1) (hs _ nx_O.2.2.2.1) hA, ?_, ?_, ?_⟩, vx_Zqof (hts _ nx_L.2.2.2.2.2.2.2.2.1) (hts _ nx_L.2.2.2.2.1) (hs _ nx_O.2.2.2.2.1) hA, vx_Zqof (hts _ nx_L.2.2.2.2.2.2.2.2.2.1) (hts _ nx_L.2.2.2.2.1) (hs _ nx_O.2.2.2.2.2) hA, fun A w hw => ?_⟩
  · have hi : i < 28 := hi
    rw [a1 i hi]
    exact (had i hi).2
  · have hi : i < 28 := hi
    have hj : j < 28 := hj
    rw [a1 i hi, a1 j hj] at e
    obtain ⟨cf, k, fi, f, cell, h1, h2, h3, h4, h5, h6⟩ := (had i hi).2.2.2 ("java/lang/Enum", "ordinal", "I", zWo) (by simp [zWF])
    obtain ⟨cg, k', gi, g, cell', g1, g2, g3, g4, g5, g6⟩ := (had j hj).2.2.2 ("java/lang/Enum", "ordinal", "I", zWo) (by simp [zWF])
    cases Option.some.inj (h1.symm.trans g1)
    rw [← e] at g3
    cases Option.some.inj (h3.symm.trans g3)
    have e2 := Value.int.inj (Option.some.inj (h5.symm.trans g5))
    have hd : (List.range 28).all (fun i => (List.range 28).all (fun j => !(decide (zWo.getD i 0 = zWo.getD j 0)) || decide (i = j))) = true := by decide +kernel
    have h7 := List.all_eq_true.mp (List.all_eq_true.mp hd i (List.mem_range.mpr hi)) j (List.mem_range.mpr hj)
    have e2 : zWo.getD i 0 = zWo.getD j 0 := e2
    rw [decide_eq_true e2] at h7
    simpa using h7
  · have hi2 : i < 31 := by omega
    show va_OF RX8 "text" "Ljava/lang/String;" (.ref (aw (100 + i))) (aw i) (fun q => s.heap.size ≤ q) s s.heap
    rw [a1 i hi, a2 i hi2]
    exact vk_OFof (had i hi).1 (va_eqv (hs _ (nx_Wm hi (w := .eq (.field (zWt i) RX8 "text" "Ljava/lang/String;") (zTt i)) (by simp [zWd]))) (hat i hi2).1) hA
  · rw [a2 k hk, a3 k hk]
    exact (hat k hk).2
  · rw [a4]
    exact va_Zref (hts _ nx_L.2.2.2.2.2.1) (hts _ nx_L.2.1) e3 hA
  · rw [a4]
    obtain ⟨cell, h1, h2, h3, h4, h5, h6, h7⟩ := hT3
    exact ⟨cell, h1, h2, h3, h4, h5, fun j hj => by
      show cell.slots[j]? = some (.ref (aw j))
      rw [a1 j hj]
      exact h6 j hj, h7⟩
  · rw [a2 28 (by decide)]
    exact vk_R.of (hts _ nx_L.2.2.2.2.2.2.2.2.2.2.1) (hat 28 (by decide)).1
  · rw [a2 29 (by decide)]
    exact vk_R.of (hts _ nx_L.2.2.2.2.2.2.2.2.2.2.2.1) (hat 29 (by decide)).1
  · rw [a2 30 (by decide)]
    exact vk_R.of (hts _ nx_L.2.2.2.2.2.2.2.2.2.2.2.2) (hat 30 (by decide)).1
  · exact va_tabs (nb_ok w hw).2 rfl (hts w (nx_B w hw))
end ST
