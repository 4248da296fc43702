/-! THE TELLER: where it stands: (the fault, the number of the token) -/
abbrev zS : Type := Int32 × Nat
def rM (μ : zM) (s : zS) : zM := pI (pI μ 6 0 2 s.1) 5 0 1 (nI s.2)
theorem rM_f (μ : zM) (s : zS) : (rM μ s).1 6 0 2 = s.1 := by simp [rM, pI]
theorem rM_i (μ : zM) (s : zS) : (rM μ s).1 5 0 1 = nI s.2 := by simp [rM, pI]
theorem rM_2 (μ : zM) (s : zS) : (rM μ s).2 = μ.2 := rfl
theorem rM_o (μ : zM) (s : zS) {κ : Nat} (h5 : κ ≠ 5) (h6 : κ ≠ 6) (o : Nat) : (rM μ s).1 κ o = μ.1 κ o := by
  unfold rM
  rw [pI_row2 _ _ _ _ _ h5, pI_row2 _ _ _ _ _ h6]
theorem rM_w (μ : zM) (s : zS) : (rM μ s).1 6 0 3 = μ.1 6 0 3 := by simp [rM, pI]
theorem rM_on (μ : zM) (s : zS) (j : Nat) : pI (rM μ s) 5 0 1 (nI j) = rM μ (s.1, j) := by unfold rM; rw [pI_pI]
theorem rM_fl (μ : zM) (s : zS) (f : Int32) : pI (rM μ s) 6 0 2 f = rM μ (f, s.2) := by
  unfold rM
  rw [pI_comm _ _ _ _ _ _ _ (by decide), pI_pI]
theorem rM_rM (μ : zM) (s t : zS) : rM (rM μ s) t = rM μ t := by
  show pI (pI (rM μ s) 6 0 2 t.1) 5 0 1 (nI t.2) = _
  rw [rM_fl, rM_on]
theorem rM_I (μ : zM) (s : zS) {κ : Nat} (o k : Nat) (v : Int32) (h5 : κ ≠ 5) (h6 : κ ≠ 6) : pI (rM μ s) κ o k v = rM (pI μ κ o k v) s := by
  unfold rM
  rw [pI_comm _ _ _ _ _ _ _ h5, pI_comm μ _ _ _ _ _ _ h6]
theorem rM_L (μ : zM) (s : zS) (κ o k : Nat) (v : Int64) : pL (rM μ s) κ o k v = rM (pL μ κ o k v) s := rfl
theorem rM_self {μ : zM} {f : Int32} {i : Nat} (hf : μ.1 6 0 2 = f) (hi : μ.1 5 0 1 = nI i) : rM μ (f, i) = μ := by
  unfold rM
  rw [pI_self hf, pI_self hi]
theorem TkI_of {μ ν : zM} {T : Nat → Int32} {n m : Nat} (h : TkI μ T n m) (h1 : ν.1 28 0 = μ.1 28 0) (h2 : ν.1 29 0 = μ.1 29 0) (h3 : ν.1 30 0 = μ.1 30 0) (h4 : ν.2 31 0 = μ.2 31 0) : TkI ν T n m := by
  obtain ⟨a, b, c, d, e⟩ := h
  refine ⟨a, b, c, d, fun i hi => ?_⟩
  unfold tkA
  rw [h1, h2, h3, h4]
  exact e i hi
theorem TkI_rM {μ : zM} {T : Nat → Int32} {n m : Nat} (h : TkI μ T n m) (s : zS) : TkI (rM μ s) T n m := TkI_of h (rM_o μ s (by decide) (by decide) 0) (rM_o μ s (by decide) (by decide) 0) (rM_o μ s (by decide) (by decide) 0) rfl
theorem TkI_I {μ : zM} {T : Nat → Int32} {n m : Nat} (h : TkI μ T n m) {κ : Nat} (o k : Nat) (v : Int32) (hk : κ ≠ 28 ∧ κ ≠ 29 ∧ κ ≠ 30) : TkI (pI μ κ o k v) T n m := TkI_of h (pI_row2 _ _ _ _ _ (Ne.symm hk.1)) (pI_row2 _ _ _ _ _ (Ne.symm hk.2.1)) (pI_row2 _ _ _ _ _ (Ne.symm hk.2.2)) rfl
theorem TkI_L {μ : zM} {T : Nat → Int32} {n m : Nat} (h : TkI μ T n m) {κ : Nat} (o k : Nat) (v : Int64) (hk : κ ≠ 31) : TkI (pL μ κ o k v) T n m := TkI_of h rfl rfl rfl (pL_2 _ _ _ _ _ (Ne.symm hk))
/-! what it does, purely -/
def adN (T : Nat → Int32) (n i : Nat) : Nat := if tkN T n i = n then i else i + 1
def onC (T : Nat → Int32) (n : Nat) (s : zS) : zS := (s.1, adN T n s.2)
def flC (T : Nat → Int32) (n : Nat) (k : Int32) (s : zS) : zS := (if s.1 = 0 then ftS k (tkN T n s.2) else s.1, s.2)
def wdC (T : Nat → Int32) (n : Nat) (w : Nat) (s : zS) : zS := if wxS T n (tkN T n s.2) = w then onC T n s else flC T n 1 s
def sgC (T : Nat → Int32) (n : Nat) (c : Int32) (s : zS) : zS := if isG T n (tkN T n s.2) c = true then onC T n s else flC T n 1 s
def nmC (T : Nat → Int32) (n : Nat) (V : Nat → Int64) (lo hi : Int32) (s : zS) : Int32 × zS :=
  if tyS T n (tkN T n s.2) = 2 then (if (V s.2).toInt32 < lo ∨ ¬ (V s.2).toInt32 ≤ hi then (lo, flC T n 4 s) else ((V s.2).toInt32, onC T n s)) else (lo, flC T n 1 s)
def nwC (T : Nat → Int32) (n : Nat) (V hn pn : Nat → Int64) (nh np : Nat) (s : zS) : zS :=
  if wxS T n (tkN T n s.2) = 1 then (if fdN hn (V s.2) nh 0 = -1 then (if fdN pn (V s.2) np 0 = -1 then onC T n s else flC T n 3 s) else flC T n 3 s) else flC T n 1 s
def tdC (T : Nat → Int32) (n : Nat) (r x y : Int32) (s : zS) : zS :=
  if wxS T n (tkN T n s.2) = 1 then (if r = -1 then flC T n 2 s else if r = x ∨ r = y then flC T n 3 s else onC T n s) else flC T n 1 s
def kdC (T : Nat → Int32) (n : Nat) (s : zS) : zS := if zWk.getD (wxS T n (tkN T n s.2)) 0 = -1 then flC T n 1 s else onC T n s
theorem ty0 {T : Nat → Int32} {n b : Nat} (hb : b ≤ n) : tyS T n b = 0 ↔ b = n := by
  constructor
  · intro h
    refine Decidable.byContradiction (fun q => ?_)
    have h : (tAt T n b).1 = 0 := h
    rw [tAt, if_neg q] at h
    split at h
    · dsimp only at h; split at h <;> exact absurd h (by decide)
    · split at h
      · dsimp only at h; split at h <;> exact absurd h (by decide)
      · dsimp only at h; split at h <;> exact absurd h (by decide)
  · rintro rfl; exact ty_n T b
theorem ty3 {T : Nat → Int32} {n b : Nat} (hb : b ≤ n) (h : tyS T n b = 3) : b < n ∧ vlS T n b = Int32.toInt64 (T b) := by
  have h : (tAt T n b).1 = 3 := h
  by_cases q : b = n
  · rw [tAt, if_pos q] at h; dsimp only at h; exact absurd h (by decide)
  · rw [tAt, if_neg q] at h
    refine ⟨by omega, ?_⟩
    split at h
    · dsimp only at h; split at h <;> exact absurd h (by decide)
    · rename_i h1
      split at h
      · dsimp only at h; split at h <;> exact absurd h (by decide)
      · rename_i h2
        rw [vlS, if_neg h1, if_neg h2]
theorem toL_inj {x y : Int32} : Int32.toInt64 x = Int32.toInt64 y ↔ x = y := by
  constructor
  · intro h
    have := congrArg Int64.toInt h
    rw [Int32.toInt_toInt64, Int32.toInt_toInt64] at this
    exact Int32.toInt_inj.mp this
  · rintro rfl; rfl
section TL
variable {l : Launch} {G : zG} {μ : zM} {T : Nat → Int32} {n m : Nat} {s : zS}
theorem adN_le (h : TkI μ T n m) {i : Nat} (hi : i ≤ m) : adN T n i ≤ m := by
  unfold adN
  split
  · exact hi
  · rename_i q
    refine Nat.lt_of_le_of_ne hi (fun e => q ?_)
    rw [e]; exact h.2.2.1
theorem cn_on (h : TkI μ T n m) (hs : s.2 ≤ m) : zCT l G 0 yX5_readOn cX5_readOn 1 none [.ref (G.ad 5 0)] (rM μ s) (zV fun μ' => μ' = rM μ (onC T n s)) := by
  refine zCT_of (by decide) (Nat.le_of_ble_eq_true rfl) rfl (fun X hl0 hG hX hr => ?_)
  subst hG
  have hm := h.2.1
  obtain ⟨t1, -⟩ := (TkI_rM h s).2.2.2.2 s.2 hs
  refine st_X5_readOn_0 hX hr ?_
  rw [rM_i, ixn (by omega), t1, ty0 (tkN_le T n _)]
  refine ⟨vin (by omega) (by omega), fun c => ⟨rfl, ?_⟩, fun c => ?_⟩
  · unfold onC adN; rw [if_pos c]
  · simp only [forall_eq, nI_1, rM_on]
    refine ⟨rfl, ?_⟩
    unfold onC adN; rw [if_neg c]
theorem cn_end (h : TkI μ T n m) (hs : s.2 ≤ m) : zCT l G 0 yX5_isAtEnd cX5_isAtEnd 1 (some .boolean) [.ref (G.ad 5 0)] (rM μ s) (zI fun r μ' => r = b2i (decide (tkN T n s.2 = n)) ∧ μ' = rM μ s) := by
  refine zCT_of (by decide) (Nat.le_of_ble_eq_true rfl) rfl (fun X hl0 hG hX hr => ?_)
  subst hG
  have hm := h.2.1
  obtain ⟨t1, -⟩ := (TkI_rM h s).2.2.2.2 s.2 hs
  refine st_X5_isAtEnd_0 hX hr ?_
  rw [rM_i, ixn (by omega), t1, ty0 (tkN_le T n _)]
  exact ⟨vin (by omega) (by omega), fun c => ⟨_, rfl, by rw [decide_eq_false c]; rfl, rfl⟩, fun c => ⟨_, rfl, by rw [decide_eq_true c]; rfl, rfl⟩⟩
theorem cn_isN (h : TkI μ T n m) (hs : s.2 ≤ m) : zCT l G 0 yX5_isNumber cX5_isNumber 1 (some .boolean) [.ref (G.ad 5 0)] (rM μ s) (zI fun r μ' => r = b2i (decide (tyS T n (tkN T n s.2) = 2)) ∧ μ' = rM μ s) := by
  refine zCT_of (by decide) (Nat.le_of_ble_eq_true rfl) rfl (fun X hl0 hG hX hr => ?_)
  subst hG
  have hm := h.2.1
  obtain ⟨t1, -⟩ := (TkI_rM h s).2.2.2.2 s.2 hs
  refine st_X5_isNumber_0 hX hr ?_
  rw [rM_i, ixn (by omega), t1]
  exact ⟨vin (by omega) (by omega), fun c => ⟨_, rfl, by rw [decide_eq_false c]; rfl, rfl⟩, fun c => ⟨_, rfl, by rw [decide_eq_true c]; rfl, rfl⟩⟩
theorem cn_isW (hE : zHas G) (h : TkI μ T n m) (hs : s.2 ≤ m) {w : Nat} (hw : w < 28) : zCT l G 0 yX5_isWord cX5_isWord 2 (some .boolean) [.ref (G.ad 5 0), .ref (G.aw w)] (rM μ s) (zI fun r μ' => r = b2i (decide (wxS T n (tkN T n s.2) = w)) ∧ μ' = rM μ s) := by
  refine zCT_of (by decide) (Nat.le_of_ble_eq_true rfl) rfl (fun X hl0 hG hX hr => ?_)
  subst hG
  have hm := h.2.1
  obtain ⟨-, -, t3, -⟩ := (TkI_rM h s).2.2.2.2 s.2 hs
  have hx := wxS_lt T n (tkN T n s.2)
  refine st_X5_isWord_0 hX hr hE hw ?_
  rw [rM_i, ixn (by omega), t3, ixn (by omega)]
  exact ⟨vin (by omega) (by omega), hx, fun c => ⟨_, rfl, by rw [decide_eq_false c]; rfl, rfl⟩, fun c => ⟨_, rfl, by rw [decide_eq_true c]; rfl, rfl⟩⟩
theorem cn_isG (h : TkI μ T n m) (hs : s.2 ≤ m) {c : Int32} : zCT l G 0 yX5_isSign cX5_isSign 2 (some .boolean) [.ref (G.ad 5 0), .int c] (rM μ s) (zI fun r μ' => r = b2i (isG T n (tkN T n s.2) c) ∧ μ' = rM μ s) := by
  refine zCT_of (by decide) (Nat.le_of_ble_eq_true rfl) rfl (fun X hl0 hG hX hr => ?_)
  subst hG
  have hm := h.2.1
  obtain ⟨t1, -, -, t4⟩ := (TkI_rM h s).2.2.2.2 s.2 hs
  refine st_X5_isSign_0 hX hr ?_
  rw [rM_i, ixn (by omega), t1]
  refine ⟨vin (by omega) (by omega), fun q => ⟨_, rfl, by rw [isG, decide_eq_false q]; rfl, rfl⟩, fun q => ?_⟩
  obtain ⟨g1, g2⟩ := ty3 (tkN_le T n _) q
  rw [t4 g1, g2, cmpL, toL_inj]
  exact ⟨fun z => ⟨_, rfl, by rw [isG, decide_eq_false z, Bool.and_false]; rfl, rfl⟩, fun z => ⟨_, rfl, by rw [isG, decide_eq_true z, decide_eq_true q]; rfl, rfl⟩⟩
theorem cn_place (h : TkI μ T n m) (hs : s.2 ≤ m) : zCT l G 0 yX5_place cX5_place 1 (some .int) [.ref (G.ad 5 0)] (rM μ s) (zI fun r μ' => r = nI (tkN T n s.2) ∧ μ' = rM μ s) := by
  refine zCT_of (by decide) (Nat.le_of_ble_eq_true rfl) rfl (fun X hl0 hG hX hr => ?_)
  subst hG
  have hm := h.2.1
  obtain ⟨-, t2, -⟩ := (TkI_rM h s).2.2.2.2 s.2 hs
  refine st_X5_place_0 hX hr ?_
  rw [rM_i, ixn (by omega), t2]
  exact ⟨vin (by omega) (by omega), _, rfl, rfl, rfl⟩
theorem cn_wordR (h : TkI μ T n m) (hs : s.2 ≤ m) : zCT l G 0 yX5_word cX5_word 1 (some ((.object "RainLoans$Word"))) [.ref (G.ad 5 0)] (rM μ s) (zR G fun r μ' => r = wxS T n (tkN T n s.2) ∧ μ' = rM μ s) := by
  refine zCT_of (by decide) (Nat.le_of_ble_eq_true rfl) rfl (fun X hl0 hG hX hr => ?_)
  subst hG
  have hm := h.2.1
  obtain ⟨-, -, t3, -⟩ := (TkI_rM h s).2.2.2.2 s.2 hs
  have hx := wxS_lt T n (tkN T n s.2)
  refine st_X5_word_0 hX hr ?_
  rw [rM_i, ixn (by omega), t3, ixn (by omega)]
  exact ⟨vin (by omega) (by omega), _, rfl, rfl, rfl⟩
theorem cn_val (h : TkI μ T n m) (hs : s.2 ≤ m) : zCT l G 0 yX5_value cX5_value 1 (some .long) [.ref (G.ad 5 0)] (rM μ s) (zJ fun r μ' => r = μ.2 31 0 s.2 ∧ μ' = rM μ s) := by
  refine zCT_of (by decide) (Nat.le_of_ble_eq_true rfl) rfl (fun X hl0 hG hX hr => ?_)
  subst hG
  have hm := h.2.1
  refine st_X5_value_0 hX hr ?_
  rw [rM_i, ixn (by omega)]
  exact ⟨vin (by omega) (by omega), _, rfl, rfl, rfl⟩
theorem cn_fail (h : TkI μ T n m) (hs : s.2 ≤ m) {k : Int32} : zCT l G 1 yX6_fail cX6_fail 2 none [.ref (G.ad 6 0), .int k] (rM μ s) (zV fun μ' => μ' = rM μ (flC T n k s)) := by
  refine zCT_of (by decide) (Nat.le_of_ble_eq_true rfl) rfl (fun X hl0 hG hX hr => ?_)
  subst hG
  refine st_X6_fail_0 hX hr ?_
  rw [rM_f]
  refine ⟨fun c => ⟨rfl, by unfold flC; rw [if_neg c]⟩, fun c => ⟨0, _, by omega, cn_place h hs, ?_⟩⟩
  rintro r ν ⟨rfl, rfl⟩
  simp only [forall_eq, rM_fl]
  exact ⟨rfl, by unfold flC; rw [if_pos c]; rfl⟩
theorem cn_wd (hE : zHas G) (h : TkI μ T n m) (hs : s.2 ≤ m) {w : Nat} (hw : w < 28) : zCT l G 2 yX6_readWord cX6_readWord 2 none [.ref (G.ad 6 0), .ref (G.aw w)] (rM μ s) (zV fun μ' => μ' = rM μ (wdC T n w s)) := by
  refine zCT_of (by decide) (Nat.le_of_ble_eq_true rfl) rfl (fun X hl0 hG hX hr => ?_)
  subst hG
  refine st_X6_readWord_0 hX hr ⟨0, _, by omega, cn_isW hE h hs hw, ?_⟩
  rintro r ν ⟨rfl, rfl⟩
  refine ⟨fun c => ⟨1, _, by omega, cn_fail h hs, ?_⟩, fun c => ⟨0, _, by omega, cn_on h hs, ?_⟩⟩
  · rintro ν rfl
    exact ⟨rfl, by rw [wdC, if_neg (of_decide_eq_false (b2i0.mp c))]⟩
  · rintro ν rfl
    exact ⟨rfl, by rw [wdC, if_pos (of_decide_eq_true (b2i1.mp c))]⟩
theorem cn_sg (h : TkI μ T n m) (hs : s.2 ≤ m) {c : Int32} : zCT l G 2 yX6_readSign cX6_readSign 2 none [.ref (G.ad 6 0), .int c] (rM μ s) (zV fun μ' => μ' = rM μ (sgC T n c s)) := by
  refine zCT_of (by decide) (Nat.le_of_ble_eq_true rfl) rfl (fun X hl0 hG hX hr => ?_)
  subst hG
  refine st_X6_readSign_0 hX hr ⟨0, _, by omega, cn_isG h hs, ?_⟩
  rintro r ν ⟨rfl, rfl⟩
  refine ⟨fun c => ⟨1, _, by omega, cn_fail h hs, ?_⟩, fun c => ⟨0, _, by omega, cn_on h hs, ?_⟩⟩
  · rintro ν rfl
    exact ⟨rfl, by rw [sgC, if_neg (by rw [b2i0.mp c]; decide)]⟩
  · rintro ν rfl
    exact ⟨rfl, by rw [sgC, if_pos (b2i1.mp c)]⟩
theorem cn_nm (h : TkI μ T n m) (hs : s.2 ≤ m) {lo hi : Int32} : zCT l G 2 yX6_readNumber cX6_readNumber 4 (some .int) [.ref (G.ad 6 0), .int lo, .int hi] (rM μ s) (zI fun r μ' => r = (nmC T n (μ.2 31 0) lo hi s).1 ∧ μ' = rM μ (nmC T n (μ.2 31 0) lo hi s).2) := by
  refine zCT_of (by decide) (Nat.le_of_ble_eq_true rfl) rfl (fun X hl0 hG hX hr => ?_)
  subst hG
  refine st_X6_readNumber_0 hX hr ⟨0, _, by omega, cn_isN h hs, ?_⟩
  rintro r ν ⟨rfl, rfl⟩
  refine ⟨fun c => ⟨0, _, by omega, cn_val h hs, ?_⟩, fun c => ⟨1, _, by omega, cn_fail h hs, ?_⟩⟩
  · have c := of_decide_eq_true (b2i1.mp c)
    rintro r ν ⟨rfl, rfl⟩
    simp only [forall_eq]
    refine ⟨fun c1 => ⟨1, _, by omega, cn_fail h hs, ?_⟩, fun c1 => ⟨fun c2 => ⟨0, _, by omega, cn_on h hs, ?_⟩, fun c2 => ⟨1, _, by omega, cn_fail h hs, ?_⟩⟩⟩
    · rintro ν rfl
      rw [nmC, if_pos c, if_pos (Or.inl c1)]
      exact ⟨_, rfl, rfl, rfl⟩
    · rintro ν rfl
      rw [nmC, if_pos c, if_neg (fun z => z.elim c1 (fun w => w c2))]
      exact ⟨_, rfl, rfl, rfl⟩
    · rintro ν rfl
      rw [nmC, if_pos c, if_pos (Or.inr c2)]
      exact ⟨_, rfl, rfl, rfl⟩
  · rintro ν rfl
    rw [nmC, if_neg (of_decide_eq_false (b2i0.mp c))]
    exact ⟨_, rfl, rfl, rfl⟩
theorem cn_find {ν : zM} {κ o n3 l3 k : Nat} {q3 : Nat × Nat × Nat} (hs3 : zzSh[κ]? = some (n3, .inl (1, l3, 1, q3))) (ho : o < n3) (hk : k ≤ l3) (h31 : l3 < 1000) {x : Int64} :
    zCT l G 0 yX6_findName cX6_findName 6 (some .int) [.ref (G.ad 6 0), .long x, .ref (G.ad κ o), .int (nI k)] ν (zI fun r μ' => r = fdN (ν.2 κ o) x k 0 ∧ μ' = ν) := by
  refine zCT_of (by decide) (Nat.le_of_ble_eq_true rfl) rfl (fun X hl0 hG hX hr => ?_)
  subst hG
  have go : ∀ q i, i + q = k → fdN (ν.2 κ o) x q i = fdN (ν.2 κ o) x k 0 → AW X 3 [none, some (.long x), none, some (.ref (X.G.ad κ o)), some (.int (nI k)), some (.int (nI i))] [] ν := by
    intro q
    induction q with
    | zero =>
      intro i hi h
      refine st_X6_findName_3 hX hr hs3 ho ⟨fun _ => ⟨_, rfl, ?_, rfl⟩, fun c => absurd (nI_le (by omega) (by omega)) c⟩
      rw [← h, fdN]
    | succ q ih =>
      intro i hi h
      refine st_X6_findName_3 hX hr hs3 ho ⟨fun c => absurd c (nI_ge (by omega) (by omega)), fun _ => ⟨vin (by omega) (by omega), ?_⟩⟩
      rw [ixn (by omega), cmpL]
      rw [fdN] at h
      refine ⟨fun c => ?_, fun c => ⟨_, rfl, ?_, rfl⟩⟩
      · rw [if_neg c] at h
        simp only [forall_eq, nI_1]
        exact ih (i + 1) (by omega) h
      · rw [if_pos c] at h
        exact h
  exact st_X6_findName_0 hX hr hs3 ho (go k 0 (by omega) rfl)
theorem cn_new (hE : zHas G) (h : TkI μ T n m) (hs : s.2 ≤ m) {nh np : Nat} (eh : μ.1 2 1 0 = nI nh) (ep : μ.1 2 1 1 = nI np) (hh : nh ≤ 4) (hp : np ≤ 6) :
    zCT l G 2 yX6_readNewName cX6_readNewName 3 (some .long) [.ref (G.ad 6 0)] (rM μ s) (zJ fun r μ' => r = μ.2 31 0 s.2 ∧ μ' = rM μ (nwC T n (μ.2 31 0) (μ.2 32 0) (μ.2 33 0) nh np s)) := by
  refine zCT_of (by decide) (Nat.le_of_ble_eq_true rfl) rfl (fun X hl0 hG hX hr => ?_)
  subst hG
  refine st_X6_readNewName_0 hX hr hE ⟨0, _, by omega, cn_val h hs, ?_⟩
  rintro r ν ⟨rfl, rfl⟩
  refine ⟨0, _, by omega, cn_isW hE h hs (by decide), ?_⟩
  rintro r ν ⟨rfl, rfl⟩
  have e0 : (rM μ s).1 2 1 0 = nI nh := by rw [rM_o _ _ (by decide) (by decide)]; exact eh
  have e1 : (rM μ s).1 2 1 1 = nI np := by rw [rM_o _ _ (by decide) (by decide)]; exact ep
  refine ⟨fun c => ?_, fun c => ⟨1, _, by omega, cn_fail h hs, ?_⟩⟩
  · have c := of_decide_eq_true (b2i1.mp c)
    rw [e0]
    refine ⟨0, _, by omega, cn_find sh_32 (by decide) hh (by decide), ?_⟩
    rintro r ν ⟨rfl, rfl⟩
    rw [rM_2]
    refine ⟨fun c1 => ⟨1, _, by omega, cn_fail h hs, ?_⟩, fun c1 => ?_⟩
    · rintro ν rfl
      exact ⟨_, rfl, rfl, by rw [nwC, if_pos c, if_neg c1]⟩
    · rw [e1]
      refine ⟨0, _, by omega, cn_find sh_33 (by decide) hp (by decide), ?_⟩
      rintro r ν ⟨rfl, rfl⟩
      rw [rM_2]
      refine ⟨fun c2 => ⟨0, _, by omega, cn_on h hs, ?_⟩, fun c2 => ⟨1, _, by omega, cn_fail h hs, ?_⟩⟩
      · rintro ν rfl
        exact ⟨_, rfl, rfl, by rw [nwC, if_pos c, if_pos c1, if_pos c2]⟩
      · rintro ν rfl
        exact ⟨_, rfl, rfl, by rw [nwC, if_pos c, if_pos c1, if_neg c2]⟩
  · rintro ν rfl
    exact ⟨_, rfl, rfl, by rw [nwC, if_neg (of_decide_eq_false (b2i0.mp c))]⟩
theorem cn_told (hE : zHas G) (h : TkI μ T n m) (hs : s.2 ≤ m) {κ o n3 l3 k : Nat} {q3 : Nat × Nat × Nat} (hs3 : zzSh[κ]? = some (n3, .inl (1, l3, 1, q3))) (ho : o < n3) (hk : k ≤ l3) (h31 : l3 < 1000) {x y : Int32} :
    zCT l G 2 yX6_readToldName cX6_readToldName 6 (some .int) [.ref (G.ad 6 0), .ref (G.ad κ o), .int (nI k), .int x, .int y] (rM μ s) (zI fun r μ' => r = fdN (μ.2 κ o) (μ.2 31 0 s.2) k 0 ∧ μ' = rM μ (tdC T n (fdN (μ.2 κ o) (μ.2 31 0 s.2) k 0) x y s)) := by
  refine zCT_of (by decide) (Nat.le_of_ble_eq_true rfl) rfl (fun X hl0 hG hX hr => ?_)
  subst hG
  refine st_X6_readToldName_0 hX hr hE hs3 ho ⟨0, _, by omega, cn_val h hs, ?_⟩
  rintro r ν ⟨rfl, rfl⟩
  refine ⟨0, _, by omega, cn_find hs3 ho hk h31, ?_⟩
  rintro r ν ⟨rfl, rfl⟩
  refine ⟨0, _, by omega, cn_isW hE h hs (by decide), ?_⟩
  rintro r ν ⟨rfl, rfl⟩
  rw [rM_2]
  refine ⟨fun c => ?_, fun c => ⟨1, _, by omega, cn_fail h hs, ?_⟩⟩
  · have c := of_decide_eq_true (b2i1.mp c)
    refine ⟨fun c1 => ⟨fun c2 => ⟨1, _, by omega, cn_fail h hs, ?_⟩, fun c2 => ⟨fun c3 => ⟨0, _, by omega, cn_on h hs, ?_⟩, fun c3 => ⟨1, _, by omega, cn_fail h hs, ?_⟩⟩⟩, fun c1 => ⟨1, _, by omega, cn_fail h hs, ?_⟩⟩
    · rintro ν rfl
      exact ⟨_, rfl, rfl, by rw [tdC, if_pos c, if_neg c1, if_pos (Or.inl c2)]⟩
    · rintro ν rfl
      exact ⟨_, rfl, rfl, by rw [tdC, if_pos c, if_neg c1, if_neg (fun z => z.elim c2 c3)]⟩
    · rintro ν rfl
      exact ⟨_, rfl, rfl, by rw [tdC, if_pos c, if_neg c1, if_pos (Or.inr c3)]⟩
    · rintro ν rfl
      exact ⟨_, rfl, rfl, by rw [tdC, if_pos c, if_pos c1]⟩
  · rintro ν rfl
    exact ⟨_, rfl, rfl, by rw [tdC, if_neg (of_decide_eq_false (b2i0.mp c))]⟩
theorem cn_per (hE : zHas G) (h : TkI μ T n m) (hs : s.2 ≤ m) {np : Nat} (ep : μ.1 2 1 1 = nI np) (hp : np ≤ 6) {x y : Int32} :
    zCT l G 3 yX6_readPerson cX6_readPerson 3 (some .int) [.ref (G.ad 6 0), .int x, .int y] (rM μ s) (zI fun r μ' => r = fdN (μ.2 33 0) (μ.2 31 0 s.2) np 0 ∧ μ' = rM μ (tdC T n (fdN (μ.2 33 0) (μ.2 31 0 s.2) np 0) x y s)) := by
  refine zCT_of (by decide) (Nat.le_of_ble_eq_true rfl) rfl (fun X hl0 hG hX hr => ?_)
  subst hG
  refine st_X6_readPerson_0 hX hr ?_
  rw [rM_o _ _ (by decide) (by decide), ep]
  refine ⟨2, _, by omega, cn_told hE h hs sh_33 (by decide) hp (by decide), ?_⟩
  rintro r ν ⟨rfl, rfl⟩
  exact ⟨_, rfl, rfl, rfl⟩
theorem cn_kind (hE : zHas G) (h : TkI μ T n m) (hs : s.2 ≤ m) :
    zCT l G 2 yX6_readKind cX6_readKind 2 (some .int) [.ref (G.ad 6 0)] (rM μ s) (zI fun r μ' => r = zWk.getD (wxS T n (tkN T n s.2)) 0 ∧ μ' = rM μ (kdC T n s)) := by
  refine zCT_of (by decide) (Nat.le_of_ble_eq_true rfl) rfl (fun X hl0 hG hX hr => ?_)
  subst hG
  refine st_X6_readKind_0 hX hr hE ⟨0, _, by omega, cn_wordR h hs, ?_⟩
  rintro r ν ⟨rfl, rfl⟩
  simp only [forall_eq]
  refine ⟨wxS_lt T n _, fun c => ⟨0, _, by omega, cn_on h hs, ?_⟩, fun c => ⟨1, _, by omega, cn_fail h hs, ?_⟩⟩
  · rintro ν rfl
    exact ⟨_, rfl, rfl, by rw [kdC, if_neg c]⟩
  · rintro ν rfl
    exact ⟨_, rfl, rfl, by rw [kdC, if_pos c]⟩
end TL
