/-! THE PARSER, purely: tokens by the place b at which they begin -/
abbrev tyS (T : Nat → Int32) (n b : Nat) : Int32 := (tAt T n b).1
abbrev wdS (T : Nat → Int32) (n b : Nat) : Int64 := (tAt T n b).2.2.1
abbrev nmS (T : Nat → Int32) (n b : Nat) : Int32 := (tAt T n b).2.2.2
def nbS (T : Nat → Int32) (n b : Nat) : Nat := tBg T n (tAt T n b).2.1
def ftS (k : Int32) (b : Nat) : Int32 := k + (16 : Int32) * nI b
def isW (T : Nat → Int32) (n b : Nat) (w : Int64) : Bool := decide (tyS T n b = 1) && decide (wdS T n b = w)
def isG (T : Nat → Int32) (n b : Nat) (x : Int32) : Bool := decide (tyS T n b = 3) && decide (T b = x)
def kwS : List Int64 := [164361, 3427, 16922, 8930039, 247172, 555, 1896526, 355568, 3488, 419, 40350, 1613, 316351, 249, 8740238, 50849, 76927149, 119656022, 151648177, 3379448, 275356804, 10793335, 94492070, 10631, 1111, 423]
def kpS (T : Nat → Int32) (n b : Nat) : Bool := !decide (tyS T n b = 1) || kwS.contains (wdS T n b)
def fdN (f : Nat → Int64) (w : Int64) : Nat → Nat → Int32
  | 0, _ => -1
  | k + 1, i => if f i = w then nI i else fdN f w k (i + 1)
def wordP (T : Nat → Int32) (n : Nat) (w : Int64) (b : Nat) : Except Int32 Nat := if isW T n b w = true then .ok (nbS T n b) else .error (ftS 1 b)
def endP (T : Nat → Int32) (n : Nat) (b : Nat) : Except Int32 Nat := if isG T n b 59 = true then .ok (nbS T n b) else .error (ftS 1 b)
def numP (T : Nat → Int32) (n : Nat) (lo hi : Int32) (b : Nat) : Except Int32 (Int32 × Nat) := if tyS T n b = 2 then (if wthn (nmS T n b) lo hi = true then .ok (nmS T n b, nbS T n b) else .error (ftS 4 b)) else .error (ftS 1 b)
/-- a name that is new, among hn (nh of them) and pn (np) -/
def newP (T : Nat → Int32) (n : Nat) (hn pn : Nat → Int64) (nh np : Nat) (b : Nat) : Except Int32 Int64 := if kpS T n b = true then .error (ftS 1 b) else if 0 ≤ fdN pn (wdS T n b) np 0 then .error (ftS 3 b) else if fdN hn (wdS T n b) nh 0 < 0 then .ok (wdS T n b) else .error (ftS 3 b)
def perP (T : Nat → Int32) (n : Nat) (pn : Nat → Int64) (np : Nat) (x1 x2 : Int32) (b : Nat) : Except Int32 (Int32 × Nat) := if kpS T n b = true then .error (ftS 1 b) else if 0 ≤ fdN pn (wdS T n b) np 0 then (if fdN pn (wdS T n b) np 0 = x1 ∨ fdN pn (wdS T n b) np 0 = x2 then .error (ftS 3 b) else .ok (fdN pn (wdS T n b) np 0, nbS T n b)) else .error (ftS 2 b)
def kinS (T : Nat → Int32) (n b : Nat) : Int32 := if isW T n b 8740238 = true then 0 else if isW T n b 3427 = true then 1 else if isW T n b 50849 = true then 2 else if isW T n b 76927149 = true then 3 else if isW T n b 119656022 = true then 4 else if isW T n b 151648177 = true then 5 else -1
/-! the reference at a token -/
def PI (μ : zM) (n b : Nat) : Prop := n ≤ 1000 ∧ b ≤ n ∧ μ.1 11 0 3 = nI n ∧ tkIs μ b (tAt (μ.1 35 0) n b)
def prP (κ k : Nat) : Bool := (decide (κ = 11) && (decide (k = 4) || (decide (k = 5) || (decide (k = 6) || (decide (k = 8) || (decide (k = 9) || decide (k = 45))))))) || ((decide (36 ≤ κ ∧ κ ≤ 38) && decide (k = 1)) || ((decide (κ = 42 ∨ κ = 43) && decide (4 ≤ k ∧ k < 8)) || ((decide (κ = 44) && decide (6 ≤ k ∧ k < 12)) || (decide (45 ≤ κ ∧ κ ≤ 52) && decide (10 ≤ k ∧ k < 20)))))
def prQ (κ k : Nat) : Bool := (decide (κ = 11) && decide (k = 7)) || decide (κ = 40 ∨ κ = 41)
theorem tk_pr {μ ν : zM} (h : frm tkP tkQ μ ν) : frm prP prQ μ ν := by
  refine h.mono (fun κ k q => ?_) (fun κ k q => ?_)
  · simp only [prP, Bool.or_eq_false_iff, Bool.and_eq_false_iff] at q
    simp only [tkP, Bool.and_eq_false_iff, Bool.or_eq_false_iff]
    rcases q.1 with h | h
    · exact Or.inl h
    · exact Or.inr ⟨h.1, h.2.1, h.2.2.1, h.2.2.2.1⟩
  · simp only [prQ, Bool.or_eq_false_iff] at q
    exact q.1
theorem tape_pr {μ ν : zM} (h : frm prP prQ μ ν) : ν.1 35 0 = μ.1 35 0 := by
  funext k
  exact h.1 35 0 k (by simp [prP])
theorem size_pr {μ ν : zM} (h : frm prP prQ μ ν) : ν.1 11 0 3 = μ.1 11 0 3 := h.1 11 0 3 rfl
theorem tAt_le {T : Nat → Int32} {n b : Nat} (h : b ≤ n) : (tAt T n b).2.1 ≤ n := by
  unfold tAt
  split
  · exact Nat.le_refl _
  · split
    · exact (endS_le h).2
    · split
      · exact (endS_le h).2
      · show b + 1 ≤ n
        omega
theorem nbS_le {T : Nat → Int32} {n b : Nat} (h : b ≤ n) : nbS T n b ≤ n := (endS_le (tAt_le h)).2
theorem cr_next {lc : Launch} {G : zG} {μ : zM} {n b : Nat} (hP : PI μ n b) :
    zCT lc G 1 yX11_nextToken cX11_nextToken 2 none [.ref (G.ad 11 0)] μ (zV fun μ' => frm tkP tkQ μ μ' ∧ PI μ' n (nbS (μ.1 35 0) n b)) := by
  obtain ⟨h1, h2, h3, h4⟩ := hP
  have ct := cr_nextToken (lc := lc) (G := G) h1 h3 (tAt_le h2) h4.2.2.1
  refine zCT_post ct ?_
  rintro rv μ' ⟨rfl, hf, ht⟩
  have e := tape_pr (tk_pr hf)
  refine ⟨rfl, hf, h1, nbS_le h2, by rw [size_pr (tk_pr hf), h3], ?_⟩
  rw [e]; exact ht
theorem cr_isWord {lc : Launch} {G : zG} {μ : zM} {n b : Nat} {w : Int64} (hP : PI μ n b) :
    zCT lc G 0 yX11_isWord cX11_isWord 3 (some .boolean) [.ref (G.ad 11 0), .long w] μ (zI fun r μ' => r = b2i (isW (μ.1 35 0) n b w) ∧ μ' = μ) := by
  refine zCT_of (by decide) (Nat.le_of_ble_eq_true rfl) rfl (fun X hl0 hG hX hr => ?_)
  subst hG
  obtain ⟨h1, h2, h3, h5, h6, h4, h7, h8⟩ := hP
  refine st_X11_isWord_0 hX hr ⟨fun c => ⟨_, rfl, ?_, rfl⟩, fun c => ⟨fun c2 => ⟨_, rfl, ?_, rfl⟩, fun c2 => ⟨_, rfl, ?_, rfl⟩⟩⟩
  · rw [isW, decide_eq_false (p := tyS (μ.1 35 0) n b = 1) (fun h => c (h6.trans h))]; rfl
  · rw [isW, decide_eq_false (p := wdS (μ.1 35 0) n b = w) (fun h => c2 ((lg_cmp_eq _ _).mpr (by rw [h7]; exact h))), Bool.and_false]; rfl
  · rw [isW, decide_eq_true (show tyS (μ.1 35 0) n b = 1 by rw [← c]; exact h6.symm), decide_eq_true (show wdS (μ.1 35 0) n b = w by rw [← (lg_cmp_eq _ _).mp c2]; exact h7.symm)]; rfl
theorem cr_isSign {lc : Launch} {G : zG} {μ : zM} {n b : Nat} {x : Int32} (hP : PI μ n b) :
    zCT lc G 0 yX11_isSign cX11_isSign 2 (some .boolean) [.ref (G.ad 11 0), .int x] μ (zI fun r μ' => r = b2i (isG (μ.1 35 0) n b x) ∧ μ' = μ) := by
  refine zCT_of (by decide) (Nat.le_of_ble_eq_true rfl) rfl (fun X hl0 hG hX hr => ?_)
  subst hG
  obtain ⟨h1, h2, h3, h5, h6, h4, h7, h8⟩ := hP
  refine st_X11_isSign_0 hX hr ⟨fun c => ⟨_, rfl, ?_, rfl⟩, fun c => ?_⟩
  · rw [isG, decide_eq_false (p := tyS (μ.1 35 0) n b = 3) (fun h => c (h6.trans h))]; rfl
  · have h3' : tyS (μ.1 35 0) n b = 3 := by rw [← c]; exact h6.symm
    have hb : b < n := by
      rcases Nat.lt_or_ge b n with h | h
      · exact h
      · exfalso
        have : b = n := by omega
        rw [show tyS (μ.1 35 0) n b = 0 by rw [tyS, tAt, if_pos this]] at h3'
        exact absurd h3' (by decide)
    rw [h5, ixn (by omega)]
    refine ⟨vin (by omega) (by omega), fun c2 => ⟨_, rfl, ?_, rfl⟩, fun c2 => ⟨_, rfl, ?_, rfl⟩⟩
    · rw [isG, decide_eq_false c2, Bool.and_false]; rfl
    · rw [isG, decide_eq_true c2, decide_eq_true h3']; rfl
theorem cr_fails {lc : Launch} {G : zG} {μ : zM} {n b : Nat} {x : Int32} (hP : PI μ n b) :
    zCT lc G 0 yX11_fails cX11_fails 2 (some .boolean) [.ref (G.ad 11 0), .int x] μ (zI fun r μ' => r = 0 ∧ μ' = pI μ 11 0 9 (ftS x b)) := by
  refine zCT_of (by decide) (Nat.le_of_ble_eq_true rfl) rfl (fun X hl0 hG hX hr => ?_)
  subst hG
  refine st_X11_fails_0 hX hr ?_
  simp only [forall_eq]
  exact ⟨_, rfl, rfl, by rw [hP.2.2.2.1]; rfl⟩
set_option maxHeartbeats 4000000 in
theorem cr_isKept {lc : Launch} {G : zG} {μ : zM} {n b : Nat} (hP : PI μ n b) :
    zCT lc G 0 yX11_isKept cX11_isKept 1 (some .boolean) [.ref (G.ad 11 0)] μ (zI fun r μ' => r = b2i (kpS (μ.1 35 0) n b) ∧ μ' = μ) := by
  refine zCT_of (by decide) (Nat.le_of_ble_eq_true rfl) rfl (fun X hl0 hG hX hr => ?_)
  subst hG
  obtain ⟨h1, h2, h3, h5, h6, h4, h7, h8⟩ := hP
  refine st_X11_isKept_0 hX hr ?_
  have e6 : tyS (μ.1 35 0) n b = μ.1 11 0 6 := h6.symm
  have e7 : wdS (μ.1 35 0) n b = μ.2 11 0 7 := h7.symm
  unfold kpS
  rw [e6, e7]
  generalize μ.1 11 0 6 = t
  generalize μ.2 11 0 7 = w
  simp only [lg_cmp_eq]
  repeat' (first | apply And.intro | intro _)
  all_goals exact ⟨_, rfl, by simp [b2i, kwS, *], rfl⟩
