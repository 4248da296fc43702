/-! words: all that the tables say and that stays -/
def gw : List Cond := lw_tbl.filter goodWord
theorem gw_tbl {w : Cond} (i : Nat) (h : tables_1[i]? = some w) (hg : goodWord w = true) : w ∈ gw := List.mem_filter.mpr ⟨List.mem_append_right _ (List.mem_of_getElem? h), hg⟩
theorem gw_sel {w : Cond} (i : Nat) (h : (k2_sels lw_privs)[i]? = some w) (hg : goodWord w = true) : w ∈ gw := List.mem_filter.mpr ⟨List.mem_append_left _ (List.mem_of_getElem? h), hg⟩
theorem gw_good {w : Cond} (h : w ∈ gw) : (w.onTables && w.keeps) = true ∨ ∃ ty, w = .arrayClass ty := good_of_word (List.mem_filter.mp h).2
theorem gw_goodIn {ws : List Cond} (h : ∀ w ∈ ws, w ∈ gw) : GoodIn gw ws := fun w hw => ⟨h w hw, gw_good (h w hw)⟩
/-! memory: ints and longs by kind of cell, number of the cell, place in it -/
abbrev zM : Type := (Nat → Nat → Nat → Int32) × (Nat → Nat → Nat → Int64)
def pI (μ : zM) (κ o k : Nat) (v : Int32) : zM := (fun a b c => if a = κ ∧ b = o ∧ c = k then v else μ.1 a b c, μ.2)
def pL (μ : zM) (κ o k : Nat) (v : Int64) : zM := (μ.1, fun a b c => if a = κ ∧ b = o ∧ c = k then v else μ.2 a b c)
/-- what the world's cells hang on: the classes, the array classes, the addresses, the enum's addresses, the first address that is ours, what is known of the rest -/
abbrev zG : Type := va_G × (Nat → ClassId) × (Nat → Nat → Nat) × (Nat → Nat) × Nat × (State → Heap → Prop)
abbrev zG.cA (G : zG) : Nat → ClassId := G.2.1
abbrev zG.ad (G : zG) : Nat → Nat → Nat := G.2.2.1
abbrev zG.aw (G : zG) : Nat → Nat := G.2.2.2.1
abbrev zG.sz (G : zG) : Nat := G.2.2.2.2.1
abbrev zG.sx (G : zG) : State → Heap → Prop := G.2.2.2.2.2
abbrev zty (G : zG) : List (ClassId × FieldType) := [(G.cA 0, .int), (G.cA 1, .long), (G.cA 2, .char), (G.cA 3, .boolean), (G.cA 4, .object "RainLoans$Terms"), (G.cA 5, .object "RainLoans$Book"), (G.cA 6, .object "RainLoans$Mark"), (G.cA 7, .object "RainLoans$Word")]
def zfld (G : zG) (o : Nat) (fd : Nat × Nat × Nat × Nat) (k : Nat) (f : Nat → Int32) (g : Nat → Int64) : Value := match fd.1 with
  | 0 => .int (f k)
  | 1 => .long (g k)
  | _ => .ref (G.ad fd.2.1 (fd.2.2.1 * o + fd.2.2.2))
def zflds (G : zG) (o : Nat) (f : Nat → Int32) (g : Nat → Int64) : Nat → List (Nat × Nat × Nat × Nat) → List Value
  | _, [] => []
  | k, fd :: r => zfld G o fd k f g :: zflds G o f g (k + 1) r
def zarr (G : zG) (o : Nat) (t : Nat × Nat × Nat × Nat × Nat × Nat) (f : Nat → Int32) (g : Nat → Int64) : va_E :=
  .inl (G.cA t.1, t.2.1, match t.2.2.1 with
    | 0 => .inl f
    | 1 => .inr (.inl g)
    | 2 => .inr (.inr (.inr (.inr (fun k => some (G.ad t.2.2.2.1 (t.2.2.2.2.1 * o + t.2.2.2.2.2 + k))))))
    | _ => .inr (.inr (.inr (.inr (fun k => some (G.aw (f k).toNatClampNeg))))))
def zcell (G : zG) (κ o : Nat) (f : Nat → Int32) (g : Nat → Int64) : va_E := match zzSh[κ]? with
  | some (_, .inl t) => zarr G o t f g
  | some (_, .inr t) => .inr (t.1, zflds G o f g 0 t.2)
  | none => .inr (0, [])
def zzCells : List (Nat × Nat) := zzSh.zipIdx.flatMap (fun e => (List.range e.1.1).map (fun o => (e.2, o)))
def zat (G : zG) (μ : zM) (q : Nat × Nat) : Nat × va_E := (G.ad q.1 q.2, zcell G q.1 q.2 (μ.1 q.1 q.2) (μ.2 q.1 q.2))
def zws (G : zG) (μ : zM) : va_W := zzCells.map (zat G μ)
/-- the heap holds the memory -/
def zW (G : zG) (μ : zM) (H : Heap) : Prop := va_P G.1 zzCl (zws G μ) H ∧ va_D (fun q => G.sz ≤ q) (zws G μ)
theorem zzCells_nodup : zzCells.Nodup := by decide +kernel
theorem zmem {κ o n : Nat} {sh : zSh} (hs : zzSh[κ]? = some (n, sh)) (ho : o < n) : (κ, o) ∈ zzCells := by
  refine List.mem_flatMap.mpr ⟨((n, sh), κ), ?_, List.mem_map.mpr ⟨o, List.mem_range.mpr ho, rfl⟩⟩
  rw [List.mem_zipIdx_iff_getElem?]
  exact hs
theorem zplace {κ o n : Nat} {sh : zSh} (hs : zzSh[κ]? = some (n, sh)) (ho : o < n) : ∃ i : Nat, zzCells[i]? = some (κ, o) := List.getElem?_of_mem (zmem hs ho)
theorem zws_at {G : zG} {μ : zM} {i κ o : Nat} (h : zzCells[i]? = some (κ, o)) : (zws G μ)[i]? = some (zat G μ (κ, o)) := by
  rw [zws, List.getElem?_map, h]; rfl
/-- a cell is written: the list of cells is that of the new memory -/
theorem zset_map {α β : Type} {C : List α} (hC : C.Nodup) {F F' : α → β} {i : Nat} {q : α} (h : C[i]? = some q) (hn : ∀ q', q' ≠ q → F' q' = F q') : (C.map F).set i (F' q) = C.map F' := by
  apply List.ext_getElem?
  intro j
  have hi : i < (C.map F).length := by rw [List.length_map]; exact (List.getElem?_eq_some_iff.mp h).1
  by_cases hj : j = i
  · subst hj
    rw [List.getElem?_set_self hi, List.getElem?_map, h]; rfl
  · rw [List.getElem?_set_ne (Ne.symm hj)]
    simp only [List.getElem?_map]
    cases hc : C[j]? with
    | none => rfl
    | some r =>
      have hne : r ≠ q := by
        rintro rfl
        obtain ⟨h1, h2⟩ := List.getElem?_eq_some_iff.mp hc
        obtain ⟨h3, h4⟩ := List.getElem?_eq_some_iff.mp h
        have hp := List.pairwise_iff_getElem.mp hC
        rcases Nat.lt_or_ge j i with q | q
        · exact hp j i h1 h3 q (h2.trans h4.symm)
        · exact hp i j h3 h1 (by omega) (h4.trans h2.symm)
      rw [Option.map_some, Option.map_some, hn r hne]
theorem zat_ne {G : zG} {μ ν : zM} {κ o : Nat} (hn : ∀ κ' o', ¬ (κ' = κ ∧ o' = o) → ν.1 κ' o' = μ.1 κ' o' ∧ ν.2 κ' o' = μ.2 κ' o') (q : Nat × Nat) (h : q ≠ (κ, o)) : zat G ν q = zat G μ q := by
  obtain ⟨κ', o'⟩ := q
  obtain ⟨e1, e2⟩ := hn κ' o' (fun z => h (by rw [z.1, z.2]))
  unfold zat
  dsimp only
  rw [e1, e2]
theorem zws_set {G : zG} {μ ν : zM} {i κ o : Nat} (h : zzCells[i]? = some (κ, o)) (hn : ∀ κ' o', ¬ (κ' = κ ∧ o' = o) → ν.1 κ' o' = μ.1 κ' o' ∧ ν.2 κ' o' = μ.2 κ' o') : (zws G μ).set i (zat G ν (κ, o)) = zws G ν := zset_map zzCells_nodup h (zat_ne hn)
theorem pI_ne {μ : zM} {κ o k : Nat} {v : Int32} (κ' o' : Nat) (h : ¬ (κ' = κ ∧ o' = o)) : (pI μ κ o k v).1 κ' o' = μ.1 κ' o' ∧ (pI μ κ o k v).2 κ' o' = μ.2 κ' o' := by
  refine ⟨?_, rfl⟩
  funext c
  simp only [pI]
  rw [if_neg]
  rintro ⟨rfl, rfl, -⟩
  exact h ⟨rfl, rfl⟩
theorem pL_ne {μ : zM} {κ o k : Nat} {v : Int64} (κ' o' : Nat) (h : ¬ (κ' = κ ∧ o' = o)) : (pL μ κ o k v).1 κ' o' = μ.1 κ' o' ∧ (pL μ κ o k v).2 κ' o' = μ.2 κ' o' := by
  refine ⟨rfl, ?_⟩
  funext c
  simp only [pL]
  rw [if_neg]
  rintro ⟨rfl, rfl, -⟩
  exact h ⟨rfl, rfl⟩
theorem zflds_at {G : zG} {o : Nat} {f : Nat → Int32} {g : Nat → Int64} : ∀ (fds : List (Nat × Nat × Nat × Nat)) (b k : Nat), (zflds G o f g b fds)[k]? = (fds[k]?).map (fun fd => zfld G o fd (b + k) f g)
  | [], b, k => by simp [zflds]
  | fd :: r, b, 0 => by simp [zflds]
  | fd :: r, b, k + 1 => by
    simp only [zflds, List.getElem?_cons_succ]
    rw [zflds_at r (b + 1) k, Nat.add_right_comm b 1 k]
    rfl
theorem zflds_len {G : zG} {o : Nat} {f : Nat → Int32} {g : Nat → Int64} : ∀ (fds : List (Nat × Nat × Nat × Nat)) (b : Nat), (zflds G o f g b fds).length = fds.length
  | [], b => rfl
  | fd :: r, b => by simp [zflds, zflds_len r (b + 1)]
theorem zflds_setI {G : zG} {o : Nat} {f : Nat → Int32} {g : Nat → Int64} {fds : List (Nat × Nat × Nat × Nat)} {k : Nat} {q : Nat × Nat × Nat} {v : Int32} (h : fds[k]? = some (0, q)) : (zflds G o f g 0 fds).set k (.int v) = zflds G o (fun j => if j = k then v else f j) g 0 fds := by
  apply List.ext_getElem?
  intro j
  have hk : k < (zflds G o f g 0 fds).length := by rw [zflds_len]; exact (List.getElem?_eq_some_iff.mp h).1
  by_cases hj : j = k
  · subst hj
    rw [List.getElem?_set_self hk, zflds_at, h]
    simp [zfld]
  · rw [List.getElem?_set_ne (Ne.symm hj), zflds_at, zflds_at]
    congr 1
    funext fd
    simp only [zfld, Nat.zero_add]
    split <;> simp [hj]
theorem zflds_setL {G : zG} {o : Nat} {f : Nat → Int32} {g : Nat → Int64} {fds : List (Nat × Nat × Nat × Nat)} {k : Nat} {q : Nat × Nat × Nat} {v : Int64} (h : fds[k]? = some (1, q)) : (zflds G o f g 0 fds).set k (.long v) = zflds G o f (fun j => if j = k then v else g j) 0 fds := by
  apply List.ext_getElem?
  intro j
  have hk : k < (zflds G o f g 0 fds).length := by rw [zflds_len]; exact (List.getElem?_eq_some_iff.mp h).1
  by_cases hj : j = k
  · subst hj
    rw [List.getElem?_set_self hk, zflds_at, h]
    simp [zfld]
  · rw [List.getElem?_set_ne (Ne.symm hj), zflds_at, zflds_at]
    congr 1
    funext fd
    simp only [zfld, Nat.zero_add]
    split <;> simp [hj]
theorem pI_row {μ : zM} {κ o k : Nat} {v : Int32} : (pI μ κ o k v).1 κ o = fun j => if j = k then v else μ.1 κ o j := by
  funext c; simp [pI]
theorem pL_row {μ : zM} {κ o k : Nat} {v : Int64} : (pL μ κ o k v).2 κ o = fun j => if j = k then v else μ.2 κ o j := by
  funext c; simp [pL]
theorem zat_obj {G : zG} {μ : zM} {κ o n ci : Nat} {fds : List (Nat × Nat × Nat × Nat)} (hs : zzSh[κ]? = some (n, .inr (ci, fds))) : zat G μ (κ, o) = (G.ad κ o, .inr (ci, zflds G o (μ.1 κ o) (μ.2 κ o) 0 fds)) := by
  simp only [zat, zcell, hs]
theorem zat_arr {G : zG} {μ : zM} {κ o n : Nat} {t : Nat × Nat × Nat × Nat × Nat × Nat} (hs : zzSh[κ]? = some (n, .inl t)) : zat G μ (κ, o) = (G.ad κ o, zarr G o t (μ.1 κ o) (μ.2 κ o)) := by
  simp only [zat, zcell, hs]
theorem upd_eq (f : Nat → Int32) (k : Nat) (v : Int32) : upd f k v = fun j => if j = k then v else f j := rfl
theorem updL_eq (f : Nat → Int64) (k : Nat) (v : Int64) : vp_updL f k v = fun j => if j = k then v else f j := rfl
/-! local variables: a list, place by place -/
def zlp (L : List (Option Value)) : List (Nat × Value) := L.zipIdx.filterMap (fun e => e.1.map (fun v => (e.2, v)))
theorem zlp_mem {L : List (Option Value)} {i : Nat} {v : Value} : (i, v) ∈ zlp L ↔ L[i]? = some (some v) := by
  unfold zlp
  rw [List.mem_filterMap]
  constructor
  · rintro ⟨⟨o, j⟩, h1, h2⟩
    cases o with
    | none => simp at h2
    | some w =>
      simp only [Option.map_some, Option.some.injEq, Prod.mk.injEq] at h2
      obtain ⟨rfl, rfl⟩ := h2
      exact (List.mem_zipIdx_iff_getElem?).mp h1
  · intro h
    exact ⟨(some v, i), (List.mem_zipIdx_iff_getElem?).mpr h, rfl⟩
def zl (ls : Array Slot) (L : List (Option Value)) : Prop := lv_has ls L.length (zlp L)
theorem zl_at {ls : Array Slot} {L : List (Option Value)} (h : zl ls L) {i : Nat} {v : Value} (hi : L[i]? = some (some v)) : ls[i]? = some (.val v) := h.2.2 (i, v) (zlp_mem.mpr hi)
theorem zl_size {ls : Array Slot} {L : List (Option Value)} (h : zl ls L) : ls.size = L.length := h.1
/-- fewer are known -/
def zle : List (Option Value) → List (Option Value) → Prop
  | [], [] => True
  | _ :: L, none :: M => zle L M
  | a :: L, some v :: M => a = some v ∧ zle L M
  | _, _ => False
theorem zle_spec : ∀ {L M : List (Option Value)}, zle L M → L.length = M.length ∧ ∀ (i : Nat) (v : Value), M[i]? = some (some v) → L[i]? = some (some v)
  | [], [], _ => ⟨rfl, fun i v h => by simp at h⟩
  | [], none :: M, h => by simp [zle] at h
  | [], some v :: M, h => by simp [zle] at h
  | _ :: L, [], h => by simp [zle] at h
  | a :: L, none :: M, h => by
    obtain ⟨h1, h2⟩ := zle_spec (L := L) (M := M) h
    refine ⟨by simp [h1], fun i v hi => ?_⟩
    cases i with
    | zero => simp at hi
    | succ i => simp only [List.getElem?_cons_succ] at hi ⊢; exact h2 i v hi
  | a :: L, some w :: M, h => by
    obtain ⟨h0, h⟩ := h
    obtain ⟨h1, h2⟩ := zle_spec (L := L) (M := M) h
    refine ⟨by simp [h1], fun i v hi => ?_⟩
    cases i with
    | zero => simp only [List.getElem?_cons_zero, Option.some.injEq] at hi ⊢; rw [h0, hi]
    | succ i => simp only [List.getElem?_cons_succ] at hi ⊢; exact h2 i v hi
theorem zl_less {ls : Array Slot} {L M : List (Option Value)} (h : zl ls L) (hm : zle L M) : zl ls M := by
  obtain ⟨h1, h2⟩ := zle_spec hm
  refine ⟨h.1.trans h1, h.2.1, fun q hq => ?_⟩
  obtain ⟨i, v⟩ := q
  exact zl_at h (h2 i v (zlp_mem.mp hq))
/-- a store of one place, of two -/
def zkill (L : List (Option Value)) (i : Nat) : List (Option Value) := match i with
  | 0 => L
  | j + 1 => match L[j]? with
    | some (some v) => if v.category = 2 then L.set j none else L
    | _ => L
def zst1 (L : List (Option Value)) (i : Nat) (v : Value) : List (Option Value) := (zkill L i).set i (some v)
def zst2 (L : List (Option Value)) (i : Nat) (v : Value) : List (Option Value) := ((zkill L i).set i (some v)).set (i + 1) none
theorem zkill_len (L : List (Option Value)) (i : Nat) : (zkill L i).length = L.length := by
  unfold zkill
  split
  · rfl
  · split
    · split <;> simp
    · rfl
theorem zkill_at {L : List (Option Value)} {i j : Nat} {v : Value} (h : (zkill L i)[j]? = some (some v)) : L[j]? = some (some v) ∧ ¬ (j + 1 = i ∧ v.category = 2) := by
  cases i with
  | zero => exact ⟨h, fun q => by omega⟩
  | succ n =>
    simp only [zkill] at h
    cases hn : L[n]? with
    | none =>
      rw [hn] at h
      refine ⟨h, ?_⟩
      rintro ⟨q, -⟩
      have : j = n := by omega
      subst this
      rw [hn] at h; cases h
    | some w =>
      rw [hn] at h
      cases w with
      | none =>
        refine ⟨h, ?_⟩
        rintro ⟨q, -⟩
        have : j = n := by omega
        subst this
        simp only at h
        rw [hn] at h; cases h
      | some w =>
        simp only at h
        by_cases hc : w.category = 2
        · rw [if_pos hc] at h
          have hne : n ≠ j := by
            rintro rfl
            rw [List.getElem?_set_self (List.getElem?_eq_some_iff.mp hn).1] at h
            cases h
          rw [List.getElem?_set_ne hne] at h
          exact ⟨h, fun q => hne (by omega)⟩
        · rw [if_neg hc] at h
          refine ⟨h, ?_⟩
          rintro ⟨q, q2⟩
          have : j = n := by omega
          subst this
          rw [hn] at h
          cases h
          exact hc q2
theorem zl_st1 {ls : Array Slot} {L : List (Option Value)} {i : Nat} {x : Value} (hi : i < L.length) (h : lv_has ls L.length ((i, x) :: (zlp L).filter (fun q => !(q.1 == i) && !(q.1 + 1 == i && q.2.category == 2)))) : zl ls (zst1 L i x) := by
  refine ⟨by rw [zst1, List.length_set, zkill_len]; exact h.1, h.2.1, fun q hq => ?_⟩
  obtain ⟨j, v⟩ := q
  have hq := zlp_mem.mp hq
  apply h.2.2
  unfold zst1 at hq
  by_cases hj : j = i
  · subst hj
    rw [List.getElem?_set_self (by rw [zkill_len]; exact hi)] at hq
    cases hq
    exact List.mem_cons_self
  · rw [List.getElem?_set_ne (Ne.symm hj)] at hq
    obtain ⟨h1, h2⟩ := zkill_at hq
    refine List.mem_cons_of_mem _ (List.mem_filter.mpr ⟨zlp_mem.mpr h1, ?_⟩)
    simp only [Bool.and_eq_true, Bool.not_eq_true', beq_eq_false_iff_ne, ne_eq, Bool.and_eq_false_iff]
    refine ⟨hj, ?_⟩
    by_cases a : j + 1 = i
    · exact Or.inr (fun b => h2 ⟨a, b⟩)
    · exact Or.inl a
theorem zl_st2 {ls : Array Slot} {L : List (Option Value)} {i : Nat} {x : Value} (hi : i + 1 < L.length) (h : lv_has ls L.length ((i, x) :: (zlp L).filter (fun q => !(q.1 == i) && (!(q.1 == i + 1) && !(q.1 + 1 == i && q.2.category == 2))))) : zl ls (zst2 L i x) := by
  refine ⟨by rw [zst2, List.length_set, List.length_set, zkill_len]; exact h.1, h.2.1, fun q hq => ?_⟩
  obtain ⟨j, v⟩ := q
  have hq := zlp_mem.mp hq
  apply h.2.2
  unfold zst2 at hq
  have hj2 : j ≠ i + 1 := by
    rintro rfl
    rw [List.getElem?_set_self (by rw [List.length_set, zkill_len]; exact hi)] at hq
    cases hq
  rw [List.getElem?_set_ne (Ne.symm hj2)] at hq
  by_cases hj : j = i
  · subst hj
    rw [List.getElem?_set_self (by rw [zkill_len]; omega)] at hq
    cases hq
    exact List.mem_cons_self
  · rw [List.getElem?_set_ne (Ne.symm hj)] at hq
    obtain ⟨h1, h2⟩ := zkill_at hq
    refine List.mem_cons_of_mem _ (List.mem_filter.mpr ⟨zlp_mem.mpr h1, ?_⟩)
    simp only [Bool.and_eq_true, Bool.not_eq_true', beq_eq_false_iff_ne, ne_eq, Bool.and_eq_false_iff]
    refine ⟨hj, hj2, ?_⟩
    by_cases a : j + 1 = i
    · exact Or.inr (fun b => h2 ⟨a, b⟩)
    · exact Or.inl a
