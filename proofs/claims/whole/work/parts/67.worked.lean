/-! THE REFERENCE: a line of codes worked -/
def eP (E : Nat → Nat → Int32) (κ d : Nat) (v : Int32) : Nat → Nat → Int32 := fun a b => if a = κ ∧ b = d then v else E a b
def eW (μ : zM) (E : Nat → Nat → Int32) : zM := (fun a b c => if 60 ≤ a ∧ a ≤ 68 ∧ b = 0 then E a c else μ.1 a b c, μ.2)
theorem eW_self (μ : zM) : eW μ (fun a c => μ.1 a 0 c) = μ := by
  refine Prod.ext ?_ rfl
  funext a b c
  simp only [eW]
  split
  · rename_i h; rw [h.2.2]
  · rfl
theorem eW_at {μ : zM} {E : Nat → Nat → Int32} {κ k : Nat} (h : 60 ≤ κ ∧ κ ≤ 68) : (eW μ E).1 κ 0 k = E κ k := if_pos ⟨h.1, h.2, rfl⟩
theorem eW_ne {μ : zM} {E : Nat → Nat → Int32} {κ o k : Nat} (h : ¬ (60 ≤ κ ∧ κ ≤ 68)) : (eW μ E).1 κ o k = μ.1 κ o k := by simp only [eW]; rw [if_neg (fun q => h ⟨q.1, q.2.1⟩)]
theorem eW_p {μ : zM} {E : Nat → Nat → Int32} {κ k : Nat} {v : Int32} (h : 60 ≤ κ ∧ κ ≤ 68) : pI (eW μ E) κ 0 k v = eW μ (eP E κ k v) := by
  refine Prod.ext ?_ rfl
  funext a b c
  simp only [eW, pI, eP]
  by_cases h1 : a = κ ∧ b = 0 ∧ c = k
  · obtain ⟨rfl, rfl, rfl⟩ := h1
    simp [h.1, h.2]
  · rw [if_neg h1]
    by_cases h2 : 60 ≤ a ∧ a ≤ 68 ∧ b = 0
    · rw [if_pos h2, if_pos h2, if_neg (fun q => h1 ⟨q.1, h2.2.2, q.2⟩)]
    · rw [if_neg h2, if_neg h2]
def opE (E : Nat → Nat → Int32) (d : Nat) : Nat → Nat → Int32 := eP (eP (eP (eP (eP E 61 d 0) 63 d 0) 64 d 0) 65 d 20) 67 d 0
def suE (E : Nat → Nat → Int32) (d : Nat) : Nat → Nat → Int32 := eP (eP E 64 d (if E 65 d = 21 then E 64 d - E 66 d else E 64 d + E 66 d)) 67 d 0
def teA (E : Nat → Nat → Int32) (d : Nat) : Int32 := if E 63 d = 24 then (if E 64 d ≤ E 62 d then 0 else 1) else E 64 d
def teB (E : Nat → Nat → Int32) (d : Nat) (v : Int32) : Int32 := if E 63 d = 25 then (if E 62 d = E 64 d then 1 else 0) else v
def teC (E : Nat → Nat → Int32) (d : Nat) (v : Int32) : Int32 := if E 61 d = 26 then (if E 60 d = 0 ∨ v = 0 then 0 else 1) else v
def teD (E : Nat → Nat → Int32) (d : Nat) (v : Int32) : Int32 := if E 61 d = 27 then (if E 60 d = 0 ∧ v = 0 then 0 else 1) else v
def teV (E : Nat → Nat → Int32) (d : Nat) : Int32 := teD E d (teC E d (teB E d (teA E d)))
def teE (E : Nat → Nat → Int32) (d : Nat) : Nat → Nat → Int32 := eP (eP (eP (eP (suE E d) 60 d (teV (suE E d) d)) 63 d 0) 64 d 0) 65 d 20
theorem cr_opens {lc : Launch} {G : zG} {μ : zM} {E : Nat → Nat → Int32} {d : Nat} (hd : d < 7) :
    zCT lc G 0 yX11_opens cX11_opens 2 none [.ref (G.ad 11 0), .int (nI d)] (eW μ E) (zV fun μ' => μ' = eW μ (opE E d)) := by
  refine zCT_of (by decide) (Nat.le_of_ble_eq_true rfl) rfl (fun X hl hG hX hr => ?_)
  subst hG
  refine st_X11_opens_0 hX hr ?_
  simp only [forall_eq, ixn (show d < 2 ^ 31 by omega)]
  refine ⟨vin hd (by omega), rfl, ?_⟩
  rw [eW_p (by omega), eW_p (by omega), eW_p (by omega), eW_p (by omega), eW_p (by omega)]
  rfl
theorem cr_sums {lc : Launch} {G : zG} {μ : zM} {E : Nat → Nat → Int32} {d : Nat} (hd : d < 7) :
    zCT lc G 0 yX11_sums cX11_sums 2 none [.ref (G.ad 11 0), .int (nI d)] (eW μ E) (zV fun μ' => μ' = eW μ (suE E d)) := by
  refine zCT_of (by decide) (Nat.le_of_ble_eq_true rfl) rfl (fun X hl hG hX hr => ?_)
  subst hG
  refine st_X11_sums_0 hX hr ?_
  simp only [forall_eq, ixn (show d < 2 ^ 31 by omega)]
  rw [eW_at (by omega), eW_at (by omega), eW_at (by omega)]
  refine ⟨vin hd (by omega), fun c => ⟨rfl, ?_⟩, fun c => ⟨rfl, ?_⟩⟩
  · rw [eW_p (by omega), eW_p (by omega), suE, if_neg c]
  · rw [eW_p (by omega), eW_p (by omega), suE, if_pos c]
theorem cr_tests {lc : Launch} {G : zG} {μ : zM} {E : Nat → Nat → Int32} {d : Nat} (hd : d < 7) :
    zCT lc G 1 yX11_tests cX11_tests 3 none [.ref (G.ad 11 0), .int (nI d)] (eW μ E) (zV fun μ' => μ' = eW μ (teE E d)) := by
  refine zCT_of (by decide) (Nat.le_of_ble_eq_true rfl) rfl (fun X hl hG hX hr => ?_)
  subst hG
  have hv : vp_in (nI d) 7 := vin hd (by omega)
  have hi : ix (nI d) = d := ixn (by omega)
  refine st_X11_tests_0 hX hr ⟨0, _, by omega, cr_sums hd, ?_⟩
  rintro _ rfl
  have eE : teE E d = eP (eP (eP (eP (suE E d) 60 d (teV (suE E d) d)) 63 d 0) 64 d 0) 65 d 20 := rfl
  rw [eE] at hr
  clear eE
  generalize suE E d = F at hr ⊢
  have g4 : AW X 136 [some (.ref (X.G.ad 11 0)), some (.int (nI d)), some (.int (teV F d))] [] (eW μ F) := by
    refine st_X11_tests_136 hX hr ?_
    simp only [forall_eq, hi]
    refine ⟨hv, rfl, ?_⟩
    rw [eW_p (by omega), eW_p (by omega), eW_p (by omega), eW_p (by omega)]
  have g3 : AW X 106 [some (.ref (X.G.ad 11 0)), some (.int (nI d)), some (.int (teC F d (teB F d (teA F d))))] [] (eW μ F) := by
    refine st_X11_tests_106 hX hr ?_
    unfold teV at g4
    revert g4
    generalize teC F d (teB F d (teA F d)) = v
    intro g4
    rw [hi, eW_at (by omega), eW_at (by omega)]
    unfold teD at g4
    refine ⟨hv, fun c => ?_, fun c => ⟨fun c2 => ?_, fun c2 => ⟨fun c3 => ?_, fun c3 => ?_⟩⟩⟩
    · rwa [if_neg c] at g4
    · rwa [if_pos c, if_neg (fun q => c2 q.1)] at g4
    · rwa [if_pos c, if_pos ⟨c2, c3⟩] at g4
    · rwa [if_pos c, if_neg (fun q => c3 q.2)] at g4
  have g2 : AW X 76 [some (.ref (X.G.ad 11 0)), some (.int (nI d)), some (.int (teB F d (teA F d)))] [] (eW μ F) := by
    refine st_X11_tests_76 hX hr ?_
    revert g3
    generalize teB F d (teA F d) = v
    intro g3
    rw [hi, eW_at (by omega), eW_at (by omega)]
    unfold teC at g3
    refine ⟨hv, fun c => ?_, fun c => ⟨fun c2 => ?_, fun c2 => ⟨fun c3 => ?_, fun c3 => ?_⟩⟩⟩
    · rwa [if_neg c] at g3
    · rwa [if_pos c, if_pos (Or.inl c2)] at g3
    · rwa [if_pos c, if_pos (Or.inr c3)] at g3
    · rwa [if_pos c, if_neg (fun q => q.elim c2 c3)] at g3
  have g1 : AW X 44 [some (.ref (X.G.ad 11 0)), some (.int (nI d)), some (.int (teA F d))] [] (eW μ F) := by
    refine st_X11_tests_44 hX hr ?_
    revert g2
    generalize teA F d = v
    intro g2
    rw [hi, eW_at (by omega), eW_at (by omega), eW_at (by omega)]
    unfold teB at g2
    refine ⟨hv, fun c => ?_, fun c => ⟨fun c2 => ?_, fun c2 => ?_⟩⟩
    · rwa [if_neg c] at g2
    · rwa [if_pos c, if_neg c2] at g2
    · rwa [if_pos c, if_pos c2] at g2
  simp only [forall_eq, hi]
  rw [eW_at (by omega), eW_at (by omega), eW_at (by omega)]
  unfold teA at g1
  refine ⟨hv, fun c => ?_, fun c => ⟨fun c2 => ?_, fun c2 => ?_⟩⟩
  · rwa [if_neg c] at g1
  · rwa [if_pos c, if_pos c2] at g1
  · rwa [if_pos c, if_neg c2] at g1
/-! a step of a line -/
def ngE (E : Nat → Nat → Int32) : Nat → Int32 → Nat × Int32
  | 0, v => (0, v)
  | d + 1, v => if E 68 (d + 1) = 1 then ngE E d (if v = 0 then 1 else 0) else (d + 1, v)
def tmE (E : Nat → Nat → Int32) (q : Nat × Int32) : Nat × (Nat → Nat → Int32) := (q.1, eP E 66 q.1 (if E 67 q.1 = 0 then q.2 else E 66 q.1 * q.2))
def atV (V : Nat → Int32) (c : Int32) : Int32 := if c < 100 then (if 20 ≤ c then 0 else V (ix c)) else c - 100
def wkE (V : Nat → Int32) (c : Int32) (p : Nat × (Nat → Nat → Int32)) : Nat × (Nat → Nat → Int32) :=
  if c = 28 ∨ c = 30 then (p.1 + 1, opE (eP p.2 68 (p.1 + 1) (if c = 30 then 1 else 0)) (p.1 + 1))
  else if c = 20 ∨ c = 21 then (p.1, eP (suE p.2 p.1) 65 p.1 c)
  else if c = 22 then (p.1, eP p.2 67 p.1 c)
  else if c = 24 ∨ c = 25 then (p.1, eP (eP (eP (eP (suE p.2 p.1) 62 p.1 (suE p.2 p.1 64 p.1)) 63 p.1 c) 64 p.1 0) 65 p.1 20)
  else if c = 26 ∨ c = 27 then (p.1, eP (teE p.2 p.1) 61 p.1 c)
  else if c = 29 then tmE (teE p.2 p.1) (ngE (teE p.2 p.1) (p.1 - 1) (teE p.2 p.1 60 p.1))
  else tmE p.2 (ngE p.2 p.1 (atV V c))
def okC (c : Int32) (d : Nat) : Prop := ((c = 28 ∨ c = 30) → d + 1 < 7) ∧ (c = 29 → 0 < d) ∧ (c < 20 → vp_in c 20)
def wkS (V cd : Nat → Int32) (a : Nat) (p : Nat × (Nat → Nat → Int32)) : Nat → Nat × (Nat → Nat → Int32) := fun n => fd (fun i q => wkE V (cd (a + i)) q) n p
theorem wkS_s (V cd : Nat → Int32) (a : Nat) (p : Nat × (Nat → Nat → Int32)) (n : Nat) : wkS V cd a p (n + 1) = wkE V (cd (a + n)) (wkS V cd a p n) := rfl
theorem ngE_le (E : Nat → Nat → Int32) : ∀ (d : Nat) (v : Int32), (ngE E d v).1 ≤ d
  | 0, v => Nat.le_refl _
  | d + 1, v => by
    rw [ngE]
    split
    · exact Nat.le_succ_of_le (ngE_le E d _)
    · exact Nat.le_refl _
theorem wkE_lt {V : Nat → Int32} {c : Int32} {p : Nat × (Nat → Nat → Int32)} (h : okC c p.1) (hp : p.1 < 7) : (wkE V c p).1 < 7 := by
  unfold wkE
  split
  · rename_i q; exact h.1 q
  split
  · exact hp
  split
  · exact hp
  split
  · exact hp
  split
  · exact hp
  split
  · exact Nat.lt_of_le_of_lt (ngE_le _ _ _) (by omega)
  · exact Nat.lt_of_le_of_lt (ngE_le _ _ _) hp
theorem wkS_lt {V cd : Nat → Int32} {a : Nat} {p : Nat × (Nat → Nat → Int32)} (hp : p.1 < 7) : ∀ n, (∀ i, i < n → okC (cd (a + i)) (wkS V cd a p i).1) → (wkS V cd a p n).1 < 7
  | 0, _ => hp
  | n + 1, h => wkE_lt (h n (by omega)) (wkS_lt hp n (fun i hi => h i (by omega)))
