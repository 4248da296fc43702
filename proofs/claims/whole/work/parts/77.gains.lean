/-! THE REFERENCE: what bets gain -/
def wkL (V : Nat → Int32) : List Int32 → Nat × (Nat → Nat → Int32) → Nat × (Nat → Nat → Int32)
  | [], p => p
  | c :: cs, p => wkL V cs (wkE V c p)
def okL (V : Nat → Int32) : List Int32 → Nat × (Nat → Nat → Int32) → Prop
  | [], _ => True
  | c :: cs, p => okC c p.1 ∧ okL V cs (wkE V c p)
theorem wkS_front (V cd : Nat → Int32) (a : Nat) (p : Nat × (Nat → Nat → Int32)) : ∀ n, wkS V cd a p (n + 1) = wkS V cd (a + 1) (wkE V (cd a) p) n
  | 0 => rfl
  | n + 1 => by
    rw [wkS_s, wkS_front V cd a p n, wkS_s, show a + (n + 1) = a + 1 + n by omega]
theorem wkS_L (V : Nat → Int32) : ∀ (L : List Int32) (cd : Nat → Int32) (a : Nat) (p : Nat × (Nat → Nat → Int32)), (∀ j, j < L.length → cd (a + j) = L.getD j 0) →
    wkS V cd a p L.length = wkL V L p ∧ (okL V L p → ∀ i, i < L.length → okC (cd (a + i)) (wkS V cd a p i).1)
  | [], _, _, _, _ => ⟨rfl, fun _ i hi => by simp at hi⟩
  | c :: cs, cd, a, p, h => by
    have h0 : cd a = c := by
      have := h 0 (by simp)
      rw [Nat.add_zero] at this
      exact this
    have hs : ∀ j, j < cs.length → cd (a + 1 + j) = cs.getD j 0 := fun j hj => by
      have := h (j + 1) (by simpa using hj)
      rw [show a + (j + 1) = a + 1 + j by omega] at this
      exact this
    obtain ⟨i1, i2⟩ := wkS_L V cs cd (a + 1) (wkE V c p) hs
    refine ⟨?_, fun ho i hi => ?_⟩
    · show wkS V cd a p (cs.length + 1) = _
      rw [wkS_front, h0, i1]; rfl
    · cases i with
      | zero => rw [Nat.add_zero, h0]; exact ho.1
      | succ i =>
        rw [wkS_front, h0, show a + (i + 1) = a + 1 + i by omega]
        exact i2 ho.2 i (by simpa using hi)
def evL (V : Nat → Int32) (L : List Int32) (E : Nat → Nat → Int32) : Int32 := teE (wkL V L (0, opE E 0)).2 0 60 0
/-- a line that can be worked, and what it gives -/
def evOk (L : List Int32) (v : (Nat → Int32) → Int32) : Prop := ∀ V E, okL V L (0, opE E 0) ∧ evL V L E = v V
def gaP (κ _k : Nat) : Bool := decide (60 ≤ κ ∧ κ ≤ 69)
def noQ (_κ _k : Nat) : Bool := false
def BO (μ : zM) (nb : Nat) (vals : Nat → (Nat → Int32) → Int32) : Prop :=
  ∀ i, i < nb → ∃ (L : List Int32) (a : Nat), a + L.length ≤ 6000 ∧ μ.1 55 0 i = nI a ∧ μ.1 56 0 i = nI (a + L.length) ∧ (∀ j, j < L.length → μ.1 57 0 (a + j) = L.getD j 0) ∧ evOk L (vals i)
theorem BO_frm {μ ν : zM} (h : frm gaP noQ μ ν) {nb : Nat} {vals : Nat → (Nat → Int32) → Int32} (hB : BO μ nb vals) : BO ν nb vals := by
  intro i hi
  obtain ⟨L, a, h1, h2, h3, h4, h5⟩ := hB i hi
  exact ⟨L, a, h1, by rw [h.1 55 0 i rfl]; exact h2, by rw [h.1 56 0 i rfl]; exact h3, fun j hj => by rw [h.1 57 0 (a + j) rfl]; exact h4 j hj, h5⟩
theorem cr_workedB {lc : Launch} {G : zG} {μ : zM} {nb i : Nat} {vals : Nat → (Nat → Int32) → Int32} (hB : BO μ nb vals) (hi : i < nb) (hn : nb ≤ 8) :
    zCT lc G 2 yX11_worked cX11_worked 6 (some .int) [.ref (G.ad 11 0), .int (nI i)] μ (zI fun r μ' => r = vals i (μ.1 69 0) ∧ frm gaP noQ μ μ' ∧ μ'.1 69 0 = μ.1 69 0) := by
  obtain ⟨L, a, h1, h2, h3, h4, h5⟩ := hB i hi
  have w := wkS_L (μ.1 69 0) L (μ.1 57 0) a (0, opE (fun a c => μ.1 a 0 c) 0) h4
  have o := h5 (μ.1 69 0) (fun a c => μ.1 a 0 c)
  have ct := cr_worked (lc := lc) (G := G) (μ := μ) (E := fun a c => μ.1 a 0 c) (line := i) (by omega) h2 h3 h1 (w.2 o.1)
  rw [eW_self] at ct
  refine zCT_post ct ?_
  rintro rv μ' ⟨r, rfl, rfl, rfl⟩
  refine ⟨_, rfl, ?_, ⟨fun κ o k hk => ?_, fun _ _ _ _ => rfl⟩, ?_⟩
  · rw [w.1]; exact o.2
  · have hk : ¬ (60 ≤ κ ∧ κ ≤ 69) := of_decide_eq_false hk
    exact eW_ne (by omega)
  · funext k; exact eW_ne (by omega)
def vaS (V : Nat → Int32) (wet : Int32) : Nat → Nat → Int32
  | 0 => upd V 5 0
  | h + 1 => upd (upd (vaS V wet h) (1 + h) ((wet >>> (nI h &&& 31)) &&& 1)) 5 (upd (vaS V wet h) (1 + h) ((wet >>> (nI h &&& 31)) &&& 1) 5 + upd (vaS V wet h) (1 + h) ((wet >>> (nI h &&& 31)) &&& 1) (1 + h))
def gaS (vals : Nat → (Nat → Int32) → Int32) (py pr V : Nat → Int32) (set : Int32) : Nat → Int32
  | 0 => 0
  | b + 1 => if (set >>> (nI b &&& 31)) &&& 1 = 1 then gaS vals py pr V set b + ((if vals b V = 0 then 0 else py b) - pr b) else gaS vals py pr V set b
theorem a1 (l : Nat) : (1 : Int32) + nI l = nI (1 + l) := nI_add 1 l
set_option maxHeartbeats 2000000 in
theorem cr_gains {lc : Launch} {G : zG} {μ : zM} {nb : Nat} {vals : Nat → (Nat → Int32) → Int32} {x1 x2 : Int32} (hB : BO μ nb vals) (hn : nb ≤ 8) (en : μ.1 39 0 0 = nI nb) :
    zCT lc G 3 yX11_gains cX11_gains 5 (some .int) [.ref (G.ad 11 0), .int x1, .int x2] μ (zI fun r μ' => r = gaS vals (μ.1 54 0) (μ.1 53 0) (vaS (μ.1 69 0) x2 4) x1 nb ∧ frm gaP noQ μ μ') := by
  refine zCT_of (by decide) (Nat.le_of_ble_eq_true rfl) rfl (fun X hl0 hG hX hr => ?_)
  subst hG
  have l55 : ∀ k i (ν : zM), i + k = nb → frm gaP noQ μ ν → ν.1 69 0 = vaS (μ.1 69 0) x2 4 → AW X 55 [some (.ref (X.G.ad 11 0)), some (.int x1), none, some (.int (gaS vals (μ.1 54 0) (μ.1 53 0) (vaS (μ.1 69 0) x2 4) x1 i)), some (.int (nI i))] [] ν := by
    intro k
    induction k with
    | zero =>
      intro i ν hi hf hv
      refine st_X11_gains_55 hX hr ⟨fun _ => ⟨_, rfl, by rw [show i = nb by omega], hf⟩, fun z => absurd ?_ z⟩
      rw [hf.1 39 0 0 rfl, en]
      exact nI_le (by omega) (by omega)
    | succ k ih =>
      intro i ν hi hf hv
      refine st_X11_gains_55 hX hr ⟨fun z => ?_, fun _ => ?_⟩
      · rw [hf.1 39 0 0 rfl, en] at z
        exact absurd ((nI_leI (by omega) (by omega)).mp z) (by omega)
      simp only [forall_eq, nI_1]
      refine ⟨fun z => ?_, fun z => ⟨2, _, by omega, cr_workedB (BO_frm hf hB) (show i < nb by omega) hn, ?_⟩⟩
      · have := ih (i + 1) ν (by omega) hf hv
        rw [gaS, if_neg z] at this
        exact this
      · rintro r ν2 ⟨rfl, f2, v2⟩
        rw [hv] at v2 ⊢
        have this := ih (i + 1) ν2 (by omega) (hf.trans f2) v2
        rw [gaS, if_pos z] at this
        rw [ixn (show i < 2 ^ 31 by omega), (hf.trans f2).1 53 0 i rfl, (hf.trans f2).1 54 0 i rfl]
        refine ⟨fun y => ⟨vin (by omega) (by omega), ?_⟩, fun y => ⟨vin (by omega) (by omega), ?_⟩⟩
        · rw [if_pos y] at this
          exact this
        · rw [if_neg y] at this
          exact this
  have l9 : ∀ k h (ν : zM), h + k = 4 → frm gaP noQ μ ν → ν.1 69 0 = vaS (μ.1 69 0) x2 h → AW X 9 [some (.ref (X.G.ad 11 0)), some (.int x1), some (.int x2), some (.int (nI h)), none] [] ν := by
    intro k
    induction k with
    | zero =>
      intro h ν hh hf hv
      have e4 : h = 4 := by omega
      subst e4
      exact st_X11_gains_9 hX hr ⟨fun _ => l55 nb 0 ν (by omega) hf hv, fun z => absurd (nI_le (a := 4) (b := 4) (by omega) (by omega)) z⟩
    | succ k ih =>
      intro h ν hh hf hv
      refine st_X11_gains_9 hX hr ⟨fun z => absurd ((nI_leI (a := 4) (b := h) (by omega) (by omega)).mp z) (by omega), fun _ => ?_⟩
      simp only [forall_eq, nI_1, a1, ixn (show 1 + h < 2 ^ 31 by omega)]
      refine ⟨vin (by omega) (by omega), ih (h + 1) _ (by omega) (frm_I (frm_I hf rfl _) rfl _) ?_⟩
      rw [pI_rowU, pI_rowU, hv]
      rfl
  refine st_X11_gains_0 hX hr ?_
  simp only [forall_eq]
  refine l9 4 0 _ (by omega) (frm_I (frm.rf μ) rfl _) ?_
  rw [pI_rowU]
  rfl
