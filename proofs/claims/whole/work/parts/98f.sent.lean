/-! SENTENCES of the class: where it stands behind each, what is told -/
theorem pI_commP (μ : zM) (κ o : Nat) {k k' : Nat} (v w : Int32) (h : k' ≠ k) : pI (pI μ κ o k v) κ o k' w = pI (pI μ κ o k' w) κ o k v := by
  unfold pI
  refine Prod.ext ?_ rfl
  funext a b c
  dsimp only
  by_cases h1 : a = κ ∧ b = o ∧ c = k
  · have h2 : ¬ (a = κ ∧ b = o ∧ c = k') := by rintro ⟨-, -, rfl⟩; exact h h1.2.2
    rw [if_neg h2, if_pos h1, if_pos h1]
  · rw [if_neg h1, if_neg h1]
theorem rM_W (μ : zM) (s : zS) (x : Int32) : pI (rM μ s) 6 0 3 x = rM (pI μ 6 0 3 x) s := by
  unfold rM
  rw [pI_comm _ _ _ _ _ _ _ (by decide), pI_commP _ _ _ _ _ (by decide)]
def hlS (T : Nat → Int32) (n : Nat) (V hn pn : Nat → Int64) (nh np : Nat) (s : zS) : Int32 × Int32 × zS :=
  let s2 := wdC T n 3 (nwC T n V hn pn nh np (onC T n s))
  let q3 := nmC T n V 0 8 s2
  let q4 := nmC T n V 0 8 (wdC T n 4 q3.2)
  (q3.1, q4.1, sgC T n 59 q4.2)
def puS (T : Nat → Int32) (n : Nat) (V hn pn : Nat → Int64) (nh np : Nat) (s : zS) : Int32 × zS :=
  let q := nmC T n V 0 9999 (nwC T n V hn pn nh np (onC T n s))
  (q.1, sgC T n 59 q.2)
section SL
variable {μ : zM} {T : Nat → Int32} {n m : Nat} {s : zS}
theorem wd_le (h : TkI μ T n m) {w : Nat} (hs : s.2 ≤ m) : (wdC T n w s).2 ≤ m := by
  unfold wdC
  split
  · exact on_le h hs
  · exact hs
theorem nm_le (h : TkI μ T n m) {V : Nat → Int64} {lo hi : Int32} (hs : s.2 ≤ m) : (nmC T n V lo hi s).2.2 ≤ m := by
  unfold nmC
  split
  · split
    · exact hs
    · exact on_le h hs
  · exact hs
theorem nw_le (h : TkI μ T n m) {V hn pn : Nat → Int64} {nh np : Nat} (hs : s.2 ≤ m) : (nwC T n V hn pn nh np s).2 ≤ m := by
  unfold nwC
  split
  · split
    · split
      · exact on_le h hs
      · exact hs
    · exact hs
  · exact hs
theorem td_le (h : TkI μ T n m) {r x y : Int32} (hs : s.2 ≤ m) : (tdC T n r x y s).2 ≤ m := by
  unfold tdC
  split
  · split
    · exact hs
    · split
      · exact hs
      · exact on_le h hs
  · exact hs
theorem kd_le (h : TkI μ T n m) (hs : s.2 ≤ m) : (kdC T n s).2 ≤ m := by
  unfold kdC
  split
  · exact hs
  · exact on_le h hs
end SL
section SN
variable {l : Launch} {G : zG} {μ : zM} {T : Nat → Int32} {n m : Nat} {s : zS}
set_option maxHeartbeats 1000000 in
theorem cs_hill (hE : zHas G) (h : TkI μ T n m) (hs : s.2 ≤ m) {nh np : Nat} (eh : μ.1 2 1 0 = nI nh) (ep : μ.1 2 1 1 = nI np) (hh : nh ≤ 4) (hp : np ≤ 6) :
    zCT l G 3 yX6_readHill cX6_readHill 2 none [.ref (G.ad 6 0)] (rM μ s) (zV fun μ' => (nh = 4 ∧ μ' = rM μ (flC T n 5 s)) ∨ (nh < 4 ∧ ∃ q, q = hlS T n (μ.2 31 0) (μ.2 32 0) (μ.2 33 0) nh np s ∧ μ' = rM (pI (pI (pI (pL μ 32 0 nh (μ.2 31 0 (onC T n s).2)) 19 1 nh q.1) 20 1 nh q.2.1) 2 1 0 (nI (nh + 1))) q.2.2)) := by
  refine zCT_of (by decide) (Nat.le_of_ble_eq_true rfl) rfl (fun X hl0 hG hX hr => ?_)
  subst hG
  refine st_X6_readHill_0 hX hr hE ?_
  simp only [forall_eq]
  rw [rM_o _ _ (by decide) (by decide), eh]
  refine ⟨fun c => ⟨0, _, by omega, cn_on h hs, ?_⟩, fun c => ⟨1, _, by omega, cn_fail h hs, ?_⟩⟩
  · have hh4 : nh < 4 := by
      rcases Nat.lt_or_ge nh 4 with q | q
      · exact q
      · exact absurd c (nI_nlt (b := 4) q (by omega))
    have h1 := on_le h hs
    intro ν hq; rw [hq]; clear hq
    refine ⟨2, _, by omega, cn_new hE h h1 eh ep hh hp, ?_⟩
    intro r ν hq; rw [hq.1, hq.2]; clear hq
    obtain ⟨s1, es1⟩ : ∃ x, x = onC T n s := ⟨_, rfl⟩
    rw [← es1] at h1 ⊢
    obtain ⟨s2, es2⟩ : ∃ x, x = nwC T n (μ.2 31 0) (μ.2 32 0) (μ.2 33 0) nh np s1 := ⟨_, rfl⟩
    have h2 := nw_le h (V := μ.2 31 0) (hn := μ.2 32 0) (pn := μ.2 33 0) (nh := nh) (np := np) h1
    rw [← es2] at h2 ⊢
    rw [ixn (by omega), rM_L]
    refine ⟨vin hh4 (by omega), ?_⟩
    have H2 := TkI_L h 0 nh (μ.2 31 0 s1.2) (κ := 32) (by decide)
    have V2 : (pL μ 32 0 nh (μ.2 31 0 s1.2)).2 31 0 = μ.2 31 0 := pL_2 _ _ _ _ _ (by decide)
    refine ⟨2, _, by omega, cn_wd hE H2 h2 (by decide), ?_⟩
    intro ν hq; rw [hq]; clear hq
    have h3 := wd_le h (w := 3) h2
    refine ⟨2, _, by omega, cn_nm H2 h3, ?_⟩
    intro r ν hq; rw [hq.1, hq.2]; clear hq
    rw [V2]
    have h4 := nm_le h (V := μ.2 31 0) (lo := 0) (hi := 8) h3
    obtain ⟨q3, eq3⟩ : ∃ x, x = nmC T n (μ.2 31 0) 0 8 (wdC T n 3 s2) := ⟨_, rfl⟩
    rw [← eq3] at h4 ⊢
    rw [rM_I _ _ _ _ _ (by decide) (by decide)]
    have H4 := TkI_I H2 1 nh q3.1 (κ := 19) (by decide)
    refine ⟨2, _, by omega, cn_wd hE H4 h4 (by decide), ?_⟩
    intro ν hq; rw [hq]; clear hq
    have h5 := wd_le h (w := 4) h4
    refine ⟨2, _, by omega, cn_nm H4 h5, ?_⟩
    intro r ν hq; rw [hq.1, hq.2]; clear hq
    have e31 : (pI (pL μ 32 0 nh (μ.2 31 0 s1.2)) 19 1 nh q3.1).2 31 0 = μ.2 31 0 := V2
    rw [e31]
    have h6 := nm_le h (V := μ.2 31 0) (lo := 0) (hi := 8) h5
    obtain ⟨q4, eq4⟩ : ∃ x, x = nmC T n (μ.2 31 0) 0 8 (wdC T n 4 q3.2) := ⟨_, rfl⟩
    rw [← eq4] at h6 ⊢
    rw [rM_I _ _ _ _ _ (by decide) (by decide)]
    have H6 := TkI_I H4 1 nh q4.1 (κ := 20) (by decide)
    have L : hlS T n (μ.2 31 0) (μ.2 32 0) (μ.2 33 0) nh np s = (q3.1, q4.1, sgC T n 59 q4.2) := by
      rw [hlS]
      rw [← es1, ← es2, ← eq3, ← eq4]
    refine ⟨2, _, by omega, cn_sg H6 h6, ?_⟩
    intro ν hq; rw [hq]; clear hq
    rw [rM_o _ _ (by decide) (by decide), pI_other _ _ _ _ _ _ (by decide), pI_other _ _ _ _ _ _ (by decide), show (pL μ 32 0 nh (μ.2 31 0 s1.2)).1 2 1 0 = nI nh from eh, nI_1, rM_I _ _ _ _ _ (by decide) (by decide)]
    exact ⟨rfl, Or.inr ⟨hh4, _, L.symm, rfl⟩⟩
  · intro ν hq; rw [hq]; clear hq
    refine ⟨rfl, Or.inl ⟨?_, rfl⟩⟩
    rcases Nat.lt_or_ge nh 4 with q | q
    · exact absurd (nI_lt q (by omega)) c
    · omega
set_option maxHeartbeats 1000000 in
theorem cs_purse (hE : zHas G) (h : TkI μ T n m) (hs : s.2 ≤ m) {nh np : Nat} (eh : μ.1 2 1 0 = nI nh) (ep : μ.1 2 1 1 = nI np) (hh : nh ≤ 4) (hp : np ≤ 6) :
    zCT l G 3 yX6_readPurse cX6_readPurse 2 none [.ref (G.ad 6 0)] (rM μ s) (zV fun μ' => (np = 6 ∧ μ' = rM μ (flC T n 5 s)) ∨ (np < 6 ∧ ∃ q, q = puS T n (μ.2 31 0) (μ.2 32 0) (μ.2 33 0) nh np s ∧ μ' = rM (pI (pI (pL μ 33 0 np (μ.2 31 0 (onC T n s).2)) 21 1 np q.1) 2 1 1 (nI (np + 1))) q.2)) := by
  refine zCT_of (by decide) (Nat.le_of_ble_eq_true rfl) rfl (fun X hl0 hG hX hr => ?_)
  subst hG
  refine st_X6_readPurse_0 hX hr ?_
  simp only [forall_eq]
  rw [rM_o _ _ (by decide) (by decide), ep]
  refine ⟨fun c => ⟨0, _, by omega, cn_on h hs, ?_⟩, fun c => ⟨1, _, by omega, cn_fail h hs, ?_⟩⟩
  · have hh4 : np < 6 := by
      rcases Nat.lt_or_ge np 6 with q | q
      · exact q
      · exact absurd c (nI_nlt (b := 6) q (by omega))
    have h1 := on_le h hs
    intro ν hq; rw [hq]; clear hq
    refine ⟨2, _, by omega, cn_new hE h h1 eh ep hh hp, ?_⟩
    intro r ν hq; rw [hq.1, hq.2]; clear hq
    obtain ⟨s1, es1⟩ : ∃ x, x = onC T n s := ⟨_, rfl⟩
    rw [← es1] at h1 ⊢
    obtain ⟨s2, es2⟩ : ∃ x, x = nwC T n (μ.2 31 0) (μ.2 32 0) (μ.2 33 0) nh np s1 := ⟨_, rfl⟩
    have h2 := nw_le h (V := μ.2 31 0) (hn := μ.2 32 0) (pn := μ.2 33 0) (nh := nh) (np := np) h1
    rw [← es2] at h2 ⊢
    rw [ixn (by omega), rM_L]
    refine ⟨vin hh4 (by omega), ?_⟩
    have H2 := TkI_L h 0 np (μ.2 31 0 s1.2) (κ := 33) (by decide)
    have V2 : (pL μ 33 0 np (μ.2 31 0 s1.2)).2 31 0 = μ.2 31 0 := pL_2 _ _ _ _ _ (by decide)
    refine ⟨2, _, by omega, cn_nm H2 h2, ?_⟩
    intro r ν hq; rw [hq.1, hq.2]; clear hq
    rw [V2]
    have h4 := nm_le h (V := μ.2 31 0) (lo := 0) (hi := 9999) h2
    obtain ⟨q3, eq3⟩ : ∃ x, x = nmC T n (μ.2 31 0) 0 9999 s2 := ⟨_, rfl⟩
    rw [← eq3] at h4 ⊢
    rw [rM_I _ _ _ _ _ (by decide) (by decide)]
    have H4 := TkI_I H2 1 np q3.1 (κ := 21) (by decide)
    have L : puS T n (μ.2 31 0) (μ.2 32 0) (μ.2 33 0) nh np s = (q3.1, sgC T n 59 q3.2) := by
      rw [puS]
      rw [← es1, ← es2, ← eq3]
    refine ⟨2, _, by omega, cn_sg H4 h4, ?_⟩
    intro ν hq; rw [hq]; clear hq
    rw [rM_o _ _ (by decide) (by decide), pI_other _ _ _ _ _ _ (by decide), show (pL μ 33 0 np (μ.2 31 0 s1.2)).1 2 1 1 = nI np from ep, nI_1, rM_I _ _ _ _ _ (by decide) (by decide)]
    exact ⟨rfl, Or.inr ⟨hh4, _, L.symm, rfl⟩⟩
  · intro ν hq; rw [hq]; clear hq
    refine ⟨rfl, Or.inl ⟨?_, rfl⟩⟩
    rcases Nat.lt_or_ge np 6 with q | q
    · exact absurd (nI_lt q (by omega)) c
    · omega
/-- what a loan tells: eight numbers, where it stands -/
def lnS (T : Nat → Int32) (n : Nat) (V hn pn : Nat → Int64) (nh np : Nat) (s : zS) : (Int32 × Int32 × Int32 × Int32) × (Int32 × Int32 × Int32 × Int32) × zS :=
  let s1 := onC T n s
  let f0 := fdN pn (V s1.2) np 0
  let s2 := wdC T n 7 (tdC T n f0 (-1) (-1) s1)
  let f1 := fdN pn (V s2.2) np 0
  let q2 := nmC T n V 1 999 (wdC T n 8 (tdC T n f1 f0 (-1) s2))
  let q3 := nmC T n V 0 99 (wdC T n 9 q2.2)
  let q4 := nmC T n V 1 9 (wdC T n 10 q3.2)
  let s5 := wdC T n 11 q4.2
  let f5 := fdN hn (V s5.2) nh 0
  let s6 := tdC T n f5 (-1) (-1) s5
  let f6 := zWk.getD (wxS T n (tkN T n s6.2)) 0
  let s7 := kdC T n s6
  if wxS T n (tkN T n s7.2) = 12 then
    (let s8 := onC T n s7
     let f7 := fdN pn (V s8.2) np 0
     ((f0, f1, q2.1, q3.1), (q4.1, f5, f6, f7), sgC T n 59 (tdC T n f7 f0 f1 s8)))
  else ((f0, f1, q2.1, q3.1), (q4.1, f5, f6, -1), sgC T n 59 s7)
/-- the eight numbers of told loan number i are written -/
def lnM (μ : zM) (i : Nat) (q : (Int32 × Int32 × Int32 × Int32) × (Int32 × Int32 × Int32 × Int32) × zS) : zM :=
  pI (pI (pI (pI (pI (pI (pI (pI μ 7 (10 + i) 0 q.1.1) 7 (10 + i) 1 q.1.2.1) 7 (10 + i) 2 q.1.2.2.1) 7 (10 + i) 3 q.1.2.2.2) 7 (10 + i) 4 q.2.1.1) 7 (10 + i) 5 q.2.1.2.1) 7 (10 + i) 6 q.2.1.2.2.1) 7 (10 + i) 7 q.2.1.2.2.2
set_option maxHeartbeats 4000000 in
theorem cs_loan (hE : zHas G) (h : TkI μ T n m) (hs : s.2 ≤ m) {nh np nl : Nat} (eh : μ.1 2 1 0 = nI nh) (ep : μ.1 2 1 1 = nI np) (el : μ.1 2 1 2 = nI nl) (hh : nh ≤ 4) (hp : np ≤ 6) (hl : nl ≤ 10) :
    zCT l G 4 yX6_readLoan cX6_readLoan 2 none [.ref (G.ad 6 0)] (rM μ s) (zV fun μ' => (nl = 10 ∧ μ' = rM μ (flC T n 5 s)) ∨ (nl < 10 ∧ ∃ q, q = lnS T n (μ.2 31 0) (μ.2 32 0) (μ.2 33 0) nh np s ∧ μ' = rM (pI (lnM μ nl q) 2 1 2 (nI (nl + 1))) q.2.2)) := by
  refine zCT_of (by decide) (Nat.le_of_ble_eq_true rfl) rfl (fun X hl0 hG hX hr => ?_)
  subst hG
  refine st_X6_readLoan_0 hX hr hE ?_
  have e2 : (rM μ s).1 2 1 2 = nI nl := by rw [rM_o _ _ (by decide) (by decide)]; exact el
  rw [e2, ixn (by omega)]
  refine ⟨fun c => ?_, fun c => ⟨1, _, by omega, cn_fail h hs, ?_⟩⟩
  · have hl9 : nl < 10 := by
      rcases Nat.lt_or_ge nl 10 with q | q
      · exact q
      · exact absurd c (nI_nlt (b := 10) q (by omega))
    refine ⟨vin hl9 (by omega), 0, _, by omega, cn_on h hs, ?_⟩
    have h1 := on_le h hs
    intro ν hq; rw [hq]; clear hq
    simp only [forall_eq]
    -- facts that last over the writes of kind 7
    have K : ∀ (ν : zM) (k : Nat) (v : Int32), TkI ν T n m → ν.2 = μ.2 → ν.1 2 1 = μ.1 2 1 → TkI (pI ν 7 (10 + nl) k v) T n m ∧ (pI ν 7 (10 + nl) k v).2 = μ.2 ∧ (pI ν 7 (10 + nl) k v).1 2 1 = μ.1 2 1 := fun ν k v a b c => ⟨TkI_I a _ _ _ (by decide), b, by rw [pI_row2 _ _ _ _ _ (by decide)]; exact c⟩
    have A : ∀ (ν : zM) (k : Nat) (v : Int32) (s : zS), (rM (pI ν 7 (10 + nl) k v) s).1 7 (10 + nl) k = v := fun ν k v s => by rw [rM_o _ _ (by decide) (by decide), pI_at]
    have P : ∀ (ν : zM) (k k' : Nat) (v : Int32), k' ≠ k → (pI ν 7 (10 + nl) k v).1 7 (10 + nl) k' = ν.1 7 (10 + nl) k' := fun ν k k' v q => pI_place _ _ _ _ q
    refine ⟨3, _, by omega, cn_per hE h h1 ep hp, ?_⟩
    intro r ν hq; rw [hq.1, hq.2]; clear hq
    rw [rM_I _ _ _ _ _ (by decide) (by decide)]
    obtain ⟨H2, V2, C2⟩ := K μ 0 (fdN (μ.2 33 0) (μ.2 31 0 (onC T n s).2) np 0) h rfl rfl
    have h2 := td_le h (r := fdN (μ.2 33 0) (μ.2 31 0 (onC T n s).2) np 0) (x := -1) (y := -1) h1
    refine ⟨2, _, by omega, cn_wd hE H2 h2 (by decide), ?_⟩
    intro ν hq; rw [hq]; clear hq
    have h3 := wd_le h (w := 7) h2
    rw [A]
    refine ⟨3, _, by omega, cn_per hE H2 h3 (by rw [C2]; exact ep) hp, ?_⟩
    intro r ν hq; rw [hq.1, hq.2]; clear hq
    rw [V2, rM_I _ _ _ _ _ (by decide) (by decide)]
    obtain ⟨s3, es3⟩ : ∃ x, x = wdC T n 7 (tdC T n (fdN (μ.2 33 0) (μ.2 31 0 (onC T n s).2) np 0) (-1) (-1) (onC T n s)) := ⟨_, rfl⟩
    obtain ⟨f0, ef0⟩ : ∃ x, x = fdN (μ.2 33 0) (μ.2 31 0 (onC T n s).2) np 0 := ⟨_, rfl⟩
    rw [← ef0] at es3 H2 V2 C2 h3 ⊢
    rw [← es3] at h3 ⊢
    obtain ⟨f1, ef1⟩ : ∃ x, x = fdN (μ.2 33 0) (μ.2 31 0 s3.2) np 0 := ⟨_, rfl⟩
    rw [← ef1]
    obtain ⟨H3, V3, C3⟩ := K _ 1 f1 H2 V2 C2
    have h4 := td_le h (r := f1) (x := f0) (y := -1) h3
    refine ⟨2, _, by omega, cn_wd hE H3 h4 (by decide), ?_⟩
    intro ν hq; rw [hq]; clear hq
    have h5 := wd_le h (w := 8) h4
    refine ⟨2, _, by omega, cn_nm H3 h5, ?_⟩
    intro r ν hq; rw [hq.1, hq.2]; clear hq
    rw [V3, rM_I _ _ _ _ _ (by decide) (by decide)]
    obtain ⟨q2, eq2⟩ : ∃ x, x = nmC T n (μ.2 31 0) 1 999 (wdC T n 8 (tdC T n f1 f0 (-1) s3)) := ⟨_, rfl⟩
    have h6 := nm_le h (V := μ.2 31 0) (lo := 1) (hi := 999) h5
    rw [← eq2] at h6 ⊢
    obtain ⟨H4, V4, C4⟩ := K _ 2 q2.1 H3 V3 C3
    refine ⟨2, _, by omega, cn_wd hE H4 h6 (by decide), ?_⟩
    intro ν hq; rw [hq]; clear hq
    have h7 := wd_le h (w := 9) h6
    refine ⟨2, _, by omega, cn_nm H4 h7, ?_⟩
    intro r ν hq; rw [hq.1, hq.2]; clear hq
    rw [V4, rM_I _ _ _ _ _ (by decide) (by decide)]
    obtain ⟨q3, eq3⟩ : ∃ x, x = nmC T n (μ.2 31 0) 0 99 (wdC T n 9 q2.2) := ⟨_, rfl⟩
    have h8 := nm_le h (V := μ.2 31 0) (lo := 0) (hi := 99) h7
    rw [← eq3] at h8 ⊢
    obtain ⟨H5, V5, C5⟩ := K _ 3 q3.1 H4 V4 C4
    refine ⟨2, _, by omega, cn_wd hE H5 h8 (by decide), ?_⟩
    intro ν hq; rw [hq]; clear hq
    have h9 := wd_le h (w := 10) h8
    refine ⟨2, _, by omega, cn_nm H5 h9, ?_⟩
    intro r ν hq; rw [hq.1, hq.2]; clear hq
    rw [V5, rM_I _ _ _ _ _ (by decide) (by decide)]
    obtain ⟨q4, eq4⟩ : ∃ x, x = nmC T n (μ.2 31 0) 1 9 (wdC T n 10 q3.2) := ⟨_, rfl⟩
    have h10 := nm_le h (V := μ.2 31 0) (lo := 1) (hi := 9) h9
    rw [← eq4] at h10 ⊢
    obtain ⟨H6, V6, C6⟩ := K _ 4 q4.1 H5 V5 C5
    refine ⟨2, _, by omega, cn_wd hE H6 h10 (by decide), ?_⟩
    intro ν hq; rw [hq]; clear hq
    have h11 := wd_le h (w := 11) h10
    rw [show ∀ (ρ : zM) (t : zS), (rM ρ t).1 2 1 0 = ρ.1 2 1 0 from fun ρ t => by rw [rM_o _ _ (by decide) (by decide)], C6, eh]
    refine ⟨2, _, by omega, cn_told hE H6 h11 sh_32 (by decide) hh (by decide), ?_⟩
    intro r ν hq; rw [hq.1, hq.2]; clear hq
    rw [V6, rM_I _ _ _ _ _ (by decide) (by decide)]
    obtain ⟨s5, es5⟩ : ∃ x, x = wdC T n 11 q4.2 := ⟨_, rfl⟩
    rw [← es5] at h11 ⊢
    obtain ⟨f5, ef5⟩ : ∃ x, x = fdN (μ.2 32 0) (μ.2 31 0 s5.2) nh 0 := ⟨_, rfl⟩
    rw [← ef5]
    obtain ⟨H7, V7, C7⟩ := K _ 5 f5 H6 V6 C6
    have h12 := td_le h (r := f5) (x := -1) (y := -1) h11
    refine ⟨2, _, by omega, cn_kind hE H7 h12, ?_⟩
    intro r ν hq; rw [hq.1, hq.2]; clear hq
    rw [rM_I _ _ _ _ _ (by decide) (by decide), rM_I _ _ _ _ _ (by decide) (by decide)]
    obtain ⟨f6, ef6⟩ : ∃ x, x = zWk.getD (wxS T n (tkN T n (tdC T n f5 (-1) (-1) s5).2)) 0 := ⟨_, rfl⟩
    rw [← ef6]
    obtain ⟨H8, V8, C8⟩ := K _ 6 f6 H7 V7 C7
    obtain ⟨H9, V9, C9⟩ := K _ 7 (-1) H8 V8 C8
    have h13 := kd_le h h12
    have L : lnS T n (μ.2 31 0) (μ.2 32 0) (μ.2 33 0) nh np s = if wxS T n (tkN T n (kdC T n (tdC T n f5 (-1) (-1) s5)).2) = 12 then ((f0, f1, q2.1, q3.1), (q4.1, f5, f6, fdN (μ.2 33 0) (μ.2 31 0 (onC T n (kdC T n (tdC T n f5 (-1) (-1) s5))).2) np 0), sgC T n 59 (tdC T n (fdN (μ.2 33 0) (μ.2 31 0 (onC T n (kdC T n (tdC T n f5 (-1) (-1) s5))).2) np 0) f0 f1 (onC T n (kdC T n (tdC T n f5 (-1) (-1) s5))))) else ((f0, f1, q2.1, q3.1), (q4.1, f5, f6, -1), sgC T n 59 (kdC T n (tdC T n f5 (-1) (-1) s5))) := by
      rw [lnS]
      dsimp only
      rw [← ef0, ← es3, ← ef1, ← eq2, ← eq3, ← eq4, ← es5, ← ef5, ← ef6]
    refine ⟨0, _, by omega, cn_isW hE H9 h13 (by decide), ?_⟩
    intro r ν hq; rw [hq.1, hq.2]; clear hq
    refine ⟨fun c1 => ⟨2, _, by omega, cn_sg H9 h13, ?_⟩, fun c1 => ⟨0, _, by omega, cn_on H9 h13, ?_⟩⟩
    · intro ν hq; rw [hq]; clear hq
      rw [if_neg (of_decide_eq_false (b2i0.mp c1))] at L
      rw [show ∀ (ρ : zM) (t : zS), (rM ρ t).1 2 1 2 = ρ.1 2 1 2 from fun ρ t => by rw [rM_o _ _ (by decide) (by decide)], C9, el, nI_1, rM_I _ _ _ _ _ (by decide) (by decide)]
      refine ⟨rfl, Or.inr ⟨hl9, _, L.symm, ?_⟩⟩
      dsimp only [lnM]
    · have c1 := of_decide_eq_true (b2i1.mp c1)
      rw [if_pos c1] at L
      intro ν hq; rw [hq]; clear hq
      have h14 := on_le h h13
      have r0 : ∀ t : zS, (rM (pI (pI (pI (pI (pI (pI (pI (pI μ 7 (10 + nl) 0 f0) 7 (10 + nl) 1 f1) 7 (10 + nl) 2 q2.1) 7 (10 + nl) 3 q3.1) 7 (10 + nl) 4 q4.1) 7 (10 + nl) 5 f5) 7 (10 + nl) 6 f6) 7 (10 + nl) 7 (-1)) t).1 7 (10 + nl) 0 = f0 := fun t => by
        rw [rM_o _ _ (by decide) (by decide), P _ _ _ _ (by decide), P _ _ _ _ (by decide), P _ _ _ _ (by decide), P _ _ _ _ (by decide), P _ _ _ _ (by decide), P _ _ _ _ (by decide), P _ _ _ _ (by decide), pI_at]
      have r1 : ∀ t : zS, (rM (pI (pI (pI (pI (pI (pI (pI (pI μ 7 (10 + nl) 0 f0) 7 (10 + nl) 1 f1) 7 (10 + nl) 2 q2.1) 7 (10 + nl) 3 q3.1) 7 (10 + nl) 4 q4.1) 7 (10 + nl) 5 f5) 7 (10 + nl) 6 f6) 7 (10 + nl) 7 (-1)) t).1 7 (10 + nl) 1 = f1 := fun t => by
        rw [rM_o _ _ (by decide) (by decide), P _ _ _ _ (by decide), P _ _ _ _ (by decide), P _ _ _ _ (by decide), P _ _ _ _ (by decide), P _ _ _ _ (by decide), P _ _ _ _ (by decide), pI_at]
      rw [r0, r1]
      refine ⟨3, _, by omega, cn_per hE H9 h14 (by rw [C9]; exact ep) hp, ?_⟩
      intro r ν hq; rw [hq.1, hq.2]; clear hq
      rw [V9, rM_I _ _ _ _ _ (by decide) (by decide), pI_pI]
      obtain ⟨f7, ef7⟩ : ∃ x, x = fdN (μ.2 33 0) (μ.2 31 0 (onC T n (kdC T n (tdC T n f5 (-1) (-1) s5))).2) np 0 := ⟨_, rfl⟩
      rw [← ef7] at L ⊢
      obtain ⟨H10, V10, C10⟩ := K _ 7 f7 H8 V8 C8
      have h15 := td_le h (r := f7) (x := f0) (y := f1) h14
      refine ⟨2, _, by omega, cn_sg H10 h15, ?_⟩
      intro ν hq; rw [hq]; clear hq
      rw [show ∀ (ρ : zM) (t : zS), (rM ρ t).1 2 1 2 = ρ.1 2 1 2 from fun ρ t => by rw [rM_o _ _ (by decide) (by decide)], C10, el, nI_1, rM_I _ _ _ _ _ (by decide) (by decide)]
      refine ⟨rfl, Or.inr ⟨hl9, _, L.symm, ?_⟩⟩
      dsimp only [lnM]
  · intro ν hq; rw [hq]; clear hq
    refine ⟨rfl, Or.inl ⟨?_, rfl⟩⟩
    rcases Nat.lt_or_ge nl 10 with q | q
    · exact absurd (nI_lt q (by omega)) c
    · omega
end SN
