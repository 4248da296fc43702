/-! THE REFERENCE'S DAY -/
def putS (μ : zM) (s : Nat → Int32) (m : Int32) : zM := pI (pR μ 70 0 s) 11 0 51 m
def cuZ (μ : zM) : zB := fun j k => match j with
  | 0 => if k = 0 then μ.1 36 0 0 else if k = 1 then μ.1 37 0 0 else if k = 2 then μ.1 38 0 0 else if k = 3 then μ.1 39 0 0 else 0
  | 1 => μ.1 42 0 k
  | 2 => μ.1 43 0 k
  | 3 => μ.1 44 0 k
  | 4 => μ.1 45 0 k
  | 5 => μ.1 46 0 k
  | 6 => μ.1 47 0 k
  | 7 => μ.1 48 0 k
  | 8 => μ.1 49 0 k
  | 9 => μ.1 50 0 k
  | 10 => μ.1 51 0 k
  | 11 => μ.1 52 0 k
  | 12 => μ.1 53 0 k
  | 13 => μ.1 54 0 k
  | _ => 0
theorem cz00 (μ : zM) : cuZ μ 0 0 = μ.1 36 0 0 := rfl
theorem cz01 (μ : zM) : cuZ μ 0 1 = μ.1 37 0 0 := rfl
theorem cz02 (μ : zM) : cuZ μ 0 2 = μ.1 38 0 0 := rfl
theorem cz03 (μ : zM) : cuZ μ 0 3 = μ.1 39 0 0 := rfl
theorem cz1 (μ : zM) (k : Nat) : cuZ μ 1 k = μ.1 42 0 k := rfl
theorem cz2 (μ : zM) (k : Nat) : cuZ μ 2 k = μ.1 43 0 k := rfl
theorem cz3 (μ : zM) (k : Nat) : cuZ μ 3 k = μ.1 44 0 k := rfl
theorem cz4 (μ : zM) (k : Nat) : cuZ μ 4 k = μ.1 45 0 k := rfl
theorem cz5 (μ : zM) (k : Nat) : cuZ μ 5 k = μ.1 46 0 k := rfl
theorem cz6 (μ : zM) (k : Nat) : cuZ μ 6 k = μ.1 47 0 k := rfl
theorem cz7 (μ : zM) (k : Nat) : cuZ μ 7 k = μ.1 48 0 k := rfl
theorem cz8 (μ : zM) (k : Nat) : cuZ μ 8 k = μ.1 49 0 k := rfl
theorem cz9 (μ : zM) (k : Nat) : cuZ μ 9 k = μ.1 50 0 k := rfl
theorem cz10 (μ : zM) (k : Nat) : cuZ μ 10 k = μ.1 51 0 k := rfl
theorem cz11 (μ : zM) (k : Nat) : cuZ μ 11 k = μ.1 52 0 k := rfl
theorem cz12 (μ : zM) (k : Nat) : cuZ μ 12 k = μ.1 53 0 k := rfl
theorem cz13 (μ : zM) (k : Nat) : cuZ μ 13 k = μ.1 54 0 k := rfl
theorem pS_35 (μ : zM) (s : Nat → Int32) (m : Int32) (o k : Nat) : (putS μ s m).1 35 o k = μ.1 35 o k := by simp [putS, pI, pR]
theorem pS_36 (μ : zM) (s : Nat → Int32) (m : Int32) (o k : Nat) : (putS μ s m).1 36 o k = μ.1 36 o k := by simp [putS, pI, pR]
theorem pS_37 (μ : zM) (s : Nat → Int32) (m : Int32) (o k : Nat) : (putS μ s m).1 37 o k = μ.1 37 o k := by simp [putS, pI, pR]
theorem pS_38 (μ : zM) (s : Nat → Int32) (m : Int32) (o k : Nat) : (putS μ s m).1 38 o k = μ.1 38 o k := by simp [putS, pI, pR]
theorem pS_39 (μ : zM) (s : Nat → Int32) (m : Int32) (o k : Nat) : (putS μ s m).1 39 o k = μ.1 39 o k := by simp [putS, pI, pR]
theorem pS_40 (μ : zM) (s : Nat → Int32) (m : Int32) (o k : Nat) : (putS μ s m).1 40 o k = μ.1 40 o k := by simp [putS, pI, pR]
theorem pS_41 (μ : zM) (s : Nat → Int32) (m : Int32) (o k : Nat) : (putS μ s m).1 41 o k = μ.1 41 o k := by simp [putS, pI, pR]
theorem pS_42 (μ : zM) (s : Nat → Int32) (m : Int32) (o k : Nat) : (putS μ s m).1 42 o k = μ.1 42 o k := by simp [putS, pI, pR]
theorem pS_43 (μ : zM) (s : Nat → Int32) (m : Int32) (o k : Nat) : (putS μ s m).1 43 o k = μ.1 43 o k := by simp [putS, pI, pR]
theorem pS_44 (μ : zM) (s : Nat → Int32) (m : Int32) (o k : Nat) : (putS μ s m).1 44 o k = μ.1 44 o k := by simp [putS, pI, pR]
theorem pS_45 (μ : zM) (s : Nat → Int32) (m : Int32) (o k : Nat) : (putS μ s m).1 45 o k = μ.1 45 o k := by simp [putS, pI, pR]
theorem pS_46 (μ : zM) (s : Nat → Int32) (m : Int32) (o k : Nat) : (putS μ s m).1 46 o k = μ.1 46 o k := by simp [putS, pI, pR]
theorem pS_47 (μ : zM) (s : Nat → Int32) (m : Int32) (o k : Nat) : (putS μ s m).1 47 o k = μ.1 47 o k := by simp [putS, pI, pR]
theorem pS_48 (μ : zM) (s : Nat → Int32) (m : Int32) (o k : Nat) : (putS μ s m).1 48 o k = μ.1 48 o k := by simp [putS, pI, pR]
theorem pS_49 (μ : zM) (s : Nat → Int32) (m : Int32) (o k : Nat) : (putS μ s m).1 49 o k = μ.1 49 o k := by simp [putS, pI, pR]
theorem pS_50 (μ : zM) (s : Nat → Int32) (m : Int32) (o k : Nat) : (putS μ s m).1 50 o k = μ.1 50 o k := by simp [putS, pI, pR]
theorem pS_51 (μ : zM) (s : Nat → Int32) (m : Int32) (o k : Nat) : (putS μ s m).1 51 o k = μ.1 51 o k := by simp [putS, pI, pR]
theorem pS_52 (μ : zM) (s : Nat → Int32) (m : Int32) (o k : Nat) : (putS μ s m).1 52 o k = μ.1 52 o k := by simp [putS, pI, pR]
theorem pS_53 (μ : zM) (s : Nat → Int32) (m : Int32) (o k : Nat) : (putS μ s m).1 53 o k = μ.1 53 o k := by simp [putS, pI, pR]
theorem pS_54 (μ : zM) (s : Nat → Int32) (m : Int32) (o k : Nat) : (putS μ s m).1 54 o k = μ.1 54 o k := by simp [putS, pI, pR]
theorem pS_55 (μ : zM) (s : Nat → Int32) (m : Int32) (o k : Nat) : (putS μ s m).1 55 o k = μ.1 55 o k := by simp [putS, pI, pR]
theorem pS_56 (μ : zM) (s : Nat → Int32) (m : Int32) (o k : Nat) : (putS μ s m).1 56 o k = μ.1 56 o k := by simp [putS, pI, pR]
theorem pS_57 (μ : zM) (s : Nat → Int32) (m : Int32) (o k : Nat) : (putS μ s m).1 57 o k = μ.1 57 o k := by simp [putS, pI, pR]
theorem pS_58 (μ : zM) (s : Nat → Int32) (m : Int32) (o k : Nat) : (putS μ s m).1 58 o k = μ.1 58 o k := by simp [putS, pI, pR]
theorem pS_59 (μ : zM) (s : Nat → Int32) (m : Int32) (o k : Nat) : (putS μ s m).1 59 o k = μ.1 59 o k := by simp [putS, pI, pR]
theorem pS_60 (μ : zM) (s : Nat → Int32) (m : Int32) (o k : Nat) : (putS μ s m).1 60 o k = μ.1 60 o k := by simp [putS, pI, pR]
theorem pS_61 (μ : zM) (s : Nat → Int32) (m : Int32) (o k : Nat) : (putS μ s m).1 61 o k = μ.1 61 o k := by simp [putS, pI, pR]
theorem pS_62 (μ : zM) (s : Nat → Int32) (m : Int32) (o k : Nat) : (putS μ s m).1 62 o k = μ.1 62 o k := by simp [putS, pI, pR]
theorem pS_63 (μ : zM) (s : Nat → Int32) (m : Int32) (o k : Nat) : (putS μ s m).1 63 o k = μ.1 63 o k := by simp [putS, pI, pR]
theorem pS_64 (μ : zM) (s : Nat → Int32) (m : Int32) (o k : Nat) : (putS μ s m).1 64 o k = μ.1 64 o k := by simp [putS, pI, pR]
theorem pS_65 (μ : zM) (s : Nat → Int32) (m : Int32) (o k : Nat) : (putS μ s m).1 65 o k = μ.1 65 o k := by simp [putS, pI, pR]
theorem pS_66 (μ : zM) (s : Nat → Int32) (m : Int32) (o k : Nat) : (putS μ s m).1 66 o k = μ.1 66 o k := by simp [putS, pI, pR]
theorem pS_67 (μ : zM) (s : Nat → Int32) (m : Int32) (o k : Nat) : (putS μ s m).1 67 o k = μ.1 67 o k := by simp [putS, pI, pR]
theorem pS_68 (μ : zM) (s : Nat → Int32) (m : Int32) (o k : Nat) : (putS μ s m).1 68 o k = μ.1 68 o k := by simp [putS, pI, pR]
theorem pS_69 (μ : zM) (s : Nat → Int32) (m : Int32) (o k : Nat) : (putS μ s m).1 69 o k = μ.1 69 o k := by simp [putS, pI, pR]
theorem pS_71 (μ : zM) (s : Nat → Int32) (m : Int32) (o k : Nat) : (putS μ s m).1 71 o k = μ.1 71 o k := by simp [putS, pI, pR]
theorem pS_72 (μ : zM) (s : Nat → Int32) (m : Int32) (o k : Nat) : (putS μ s m).1 72 o k = μ.1 72 o k := by simp [putS, pI, pR]
theorem pS_73 (μ : zM) (s : Nat → Int32) (m : Int32) (o k : Nat) : (putS μ s m).1 73 o k = μ.1 73 o k := by simp [putS, pI, pR]
theorem pS_74 (μ : zM) (s : Nat → Int32) (m : Int32) (o k : Nat) : (putS μ s m).1 74 o k = μ.1 74 o k := by simp [putS, pI, pR]
theorem pS70 (μ : zM) (s : Nat → Int32) (m : Int32) (k : Nat) : (putS μ s m).1 70 0 k = s k := by simp [putS, pI, pR]
theorem pSm (μ : zM) (s : Nat → Int32) (m : Int32) : (putS μ s m).1 11 0 51 = m := by simp [putS, pI]
theorem pS2 (μ : zM) (s : Nat → Int32) (m : Int32) : (putS μ s m).2 = μ.2 := rfl
theorem pSI70 (μ : zM) (s : Nat → Int32) (m : Int32) (k : Nat) (v : Int32) : pI (putS μ s m) 70 0 k v = putS μ (upd s k v) m := by
  refine Prod.ext ?_ rfl
  funext κ o j
  simp only [putS, pI, pR, upd]
  by_cases h : κ = 70
  · subst h
    by_cases ho : o = 0
    · subst ho; simp; rfl
    · simp [ho]
  · simp [h]
theorem pSIm (μ : zM) (s : Nat → Int32) (m v : Int32) : pI (putS μ s m) 11 0 51 v = putS μ s v := by
  refine Prod.ext ?_ rfl
  funext κ o j
  simp only [putS, pI, pR]
  by_cases h : κ = 11 ∧ o = 0 ∧ j = 51
  · simp [h]
  · simp [h]
theorem putS_self (μ : zM) : putS μ (μ.1 70 0) (μ.1 11 0 51) = μ := by
  refine Prod.ext ?_ rfl
  funext κ o j
  simp only [putS, pI, pR]
  by_cases h : κ = 11 ∧ o = 0 ∧ j = 51
  · obtain ⟨rfl, rfl, rfl⟩ := h; simp
  · rw [if_neg h]
    by_cases h2 : κ = 70 ∧ o = 0
    · obtain ⟨rfl, rfl⟩ := h2; simp
    · rw [if_neg h2]
theorem cuZ_putS (μ : zM) (s : Nat → Int32) (m : Int32) : cuZ (putS μ s m) = cuZ μ := by
  funext j k
  unfold cuZ
  simp only [pS_36, pS_37, pS_38, pS_39, pS_42, pS_43, pS_44, pS_45, pS_46, pS_47, pS_48, pS_49, pS_50, pS_51, pS_52, pS_53, pS_54]
theorem putS_putS (μ : zM) (s t : Nat → Int32) (m n : Int32) : putS (putS μ s m) t n = putS μ t n := by
  refine Prod.ext ?_ rfl
  funext κ o j
  simp only [putS, pI, pR]
  by_cases h : κ = 11 ∧ o = 0 ∧ j = 51
  · simp [h]
  · simp only [if_neg h]
    split
    · rfl
    · exact if_neg h
set_option maxHeartbeats 1000000 in
theorem cr_isRipe {l : Launch} {G : zG} {μ : zM} {x1 x2 : Int32} (h1 : vp_in x1 60) (hn : vp_in (cuZ μ 0 0) 5) (hh : vp_in (cuZ μ 9 (ix x1)) (nHi (cuZ μ))) :
    zCT l G 0 yX11_isRipe cX11_isRipe 6 (some .boolean) [.ref (G.ad 11 0), .int x1, .int x2] μ (zI fun r μ' => r = b2i (ripS (cuZ μ) (ix x1) x2) ∧ μ' = μ) := by
  refine zCT_of (by decide) (Nat.le_of_ble_eq_true rfl) rfl (fun X hl hG hX hr => ?_)
  subst hG
  have e : (μ.1 50 0 (ix x1) + (1 : Int32)) - (μ.1 50 0 (ix x1) + (1 : Int32)) / μ.1 36 0 0 * μ.1 36 0 0 = nxt (cuZ μ) (ix x1) := nxt_eq hh hn
  have h0 : ¬ μ.1 36 0 0 = 0 := by
    intro q
    have := zix hh
    rw [show nHi (cuZ μ) = ix (μ.1 36 0 0) from rfl, q] at this
    rw [show ix 0 = 0 by decide] at this
    omega
  refine st_X11_isRipe_0 hX hr ?_
  simp only [forall_eq, e]
  refine ⟨h1, fun c1 => ⟨h0, fun c2 => ?_, fun c2 => ?_⟩, fun c1 => ⟨h0, fun c2 => ?_, fun c2 => ?_⟩⟩
  · have w1 : wetAt x2 (μ.1 50 0 (ix x1)) = false := decide_eq_false c1
    have w2 : wetAt x2 (nxt (cuZ μ) (ix x1)) = false := decide_eq_false c2
    refine ⟨fun k1 => ⟨fun k2 => ⟨fun k3 => ?_, fun k3 => ?_⟩, fun k2 => ?_⟩, fun k1 => ?_⟩ <;> exact ⟨_, rfl, by simp [ripS, b2i, cz9, cz10, *], rfl⟩
  · have w1 : wetAt x2 (μ.1 50 0 (ix x1)) = false := decide_eq_false c1
    have w2 : wetAt x2 (nxt (cuZ μ) (ix x1)) = true := decide_eq_true c2
    refine ⟨fun k1 => ⟨fun k2 => ⟨fun k3 => ?_, fun k3 => ?_⟩, fun k2 => ?_⟩, fun k1 => ?_⟩ <;> exact ⟨_, rfl, by simp [ripS, b2i, cz9, cz10, *], rfl⟩
  · have w1 : wetAt x2 (μ.1 50 0 (ix x1)) = true := decide_eq_true c1
    have w2 : wetAt x2 (nxt (cuZ μ) (ix x1)) = false := decide_eq_false c2
    refine ⟨fun k1 => ⟨fun k2 => ⟨fun k3 => ?_, fun k3 => ?_⟩, fun k2 => ?_⟩, fun k1 => ?_⟩ <;> exact ⟨_, rfl, by simp [ripS, b2i, cz9, cz10, *], rfl⟩
  · have w1 : wetAt x2 (μ.1 50 0 (ix x1)) = true := decide_eq_true c1
    have w2 : wetAt x2 (nxt (cuZ μ) (ix x1)) = true := decide_eq_true c2
    refine ⟨fun k1 => ⟨fun k2 => ⟨fun k3 => ?_, fun k3 => ?_⟩, fun k2 => ?_⟩, fun k1 => ?_⟩ <;> exact ⟨_, rfl, by simp [ripS, b2i, cz9, cz10, *], rfl⟩
theorem cr_isFlood {l : Launch} {G : zG} {μ : zM} {x1 : Int32} :
    zCT l G 0 yX11_isFlood cX11_isFlood 2 (some .boolean) [.ref (G.ad 11 0), .int x1] μ (zI fun r μ' => r = b2i (fldS (cuZ μ) x1) ∧ μ' = μ) := by
  refine zCT_of (by decide) (Nat.le_of_ble_eq_true rfl) rfl (fun X hl hG hX hr => ?_)
  subst hG
  refine st_X11_isFlood_0 hX hr ⟨fun c => ⟨_, rfl, ?_, rfl⟩, fun c => ⟨fun c2 => ⟨_, rfl, ?_, rfl⟩, fun c2 => ⟨_, rfl, ?_, rfl⟩⟩⟩
  · simp [fldS, b2i, cz00, c]
  · rw [fldS, cz00, decide_eq_false c2, Bool.and_false]; rfl
  · rw [fldS, cz00, decide_eq_true c2, decide_eq_true c]; rfl
theorem tkC_min (b : zB) (l g : Nat) : (if b 2 l < b 1 g then b 2 l else b 1 g) = tkC b l g := by
  unfold tkC
  by_cases h : b 1 g ≤ b 2 l
  · rw [if_pos h, if_neg (Int32.not_lt.mpr h)]
  · rw [if_neg h, if_pos (Int32.not_le.mp h)]
set_option maxHeartbeats 1000000 in
theorem cr_takes {lc : Launch} {G : zG} {μ : zM} {s : Nat → Int32} {m : Int32} {l g : Nat} (hl : l < 10) (hg : g < 6) (hd : vp_in (cuZ μ 4 l) 6) :
    zCT lc G 1 yX11_takes cX11_takes 4 none [.ref (G.ad 11 0), .int (nI l), .int (nI g)] (putS μ s m) (zV fun μ' => ∃ s', μ' = putS μ s' (m + tkC (bOf s) l g) ∧ bOf s' = tkD (bOf s) l g (ix (cuZ μ 4 l)) (tkC (bOf s) l g)) := by
  refine zCT_of (by decide) (Nat.le_of_ble_eq_true rfl) rfl (fun X hl0 hG hX hr => ?_)
  subst hG
  refine st_X11_takes_0 hX hr ?_
  have hd6 := zix hd
  have el : ix (nI l) = l := ixn (by omega)
  have eg : ix (nI g) = g := ixn (by omega)
  have e6 : ix (nI (6 + l)) = 6 + l := ixn (by omega)
  have e36 : ix (nI (36 + l)) = 36 + l := ixn (by omega)
  have eC : (if s (6 + l) < s g then s (6 + l) else s g) = tkC (bOf s) l g := by rw [← tkC_min, bOf2 hl, bOf1 hg]
  rw [cz4] at hd hd6 ⊢
  simp only [forall_eq, a6, a36, pS70, pSI70, pSm, pSIm, pS_45, el, eg, e6, e36, eC]
  refine ⟨vin (by omega) (by omega), vin (by omega) (by omega), by decide, vin (by omega) (by omega), vmono hd (by omega), vin (by omega) (by omega), rfl, _, rfl, ?_⟩
  simp only [tkD, ← bU_1 hg, ← bU_1 hd6, ← bU_2 hl, ← bU_5 hl, bOf1 hg, bOf1 hd6, bOf2 hl, bOf5 hl]
