theorem nbS_ge {T : Nat → Int32} {n b : Nat} (h : b ≤ n) : b ≤ nbS T n b := by
  rcases Nat.lt_or_ge b n with q | q
  · by_cases z : tyS T n b = 0
    · refine Nat.le_trans ?_ (endS_le (tAt_le h)).1
      rw [tAt, if_neg (by omega)]
      split
      · exact (endS_le h).1
      · split
        · exact (endS_le h).1
        · exact Nat.le_succ b
    · exact Nat.le_of_lt (tok_grow h z).1
  · have e : b = n := by omega
    subst e
    refine Nat.le_trans ?_ (endS_le (tAt_le h)).1
    rw [tAt, if_pos rfl]
    exact Nat.le_refl _
def ngR (op : Nat → Int32) : Nat → Nat
  | 0 => 0
  | d + 1 => if op (d + 1) = 1 then ngR op d else d + 1
theorem ngR_le (op : Nat → Int32) : ∀ d, ngR op d ≤ d
  | 0 => Nat.le_refl _
  | d + 1 => by
    rw [ngR]
    split
    · exact Nat.le_succ_of_le (ngR_le op d)
    · exact Nat.le_refl _
def rdW (T : Nat → Int32) (n b d : Nat) (op cm : Nat → Int32) : Sum (Except Int32 Nat) (Int32 × Nat × Bool × (Nat → Int32) × (Nat → Int32)) :=
  if (facS T n b = 0 ∧ isW T n b 10631 = false) ∧ (isG T n b 40 = false ∧ ¬ tyS T n b = 2) then .inl (.error (ftS 1 b))
  else if d = 5 then .inl (.error (ftS 5 b))
  else if isW T n b 10631 = true then .inr (30, d + 1, true, upd op (d + 1) 1, upd cm (d + 1) 0)
  else if isG T n b 40 = true then .inr (28, d + 1, true, upd op (d + 1) 2, upd cm (d + 1) 0)
  else .inr (if facS T n b ≤ 0 then 100 + nmS T n b else facS T n b, ngR op d, false, op, cm)
def rdV (T : Nat → Int32) (n b d : Nat) (op cm : Nat → Int32) : Sum (Except Int32 Nat) (Int32 × Nat × Bool × (Nat → Int32) × (Nat → Int32)) :=
  if isG T n b 43 = true then .inr (20, d, true, op, cm)
  else if isG T n b 45 = true then .inr (21, d, true, op, cm)
  else if isG T n b 42 = true then .inr (22, d, true, op, cm)
  else if isG T n b 60 = true ∧ cm d = 0 then .inr (24, d, true, op, upd cm d 1)
  else if isG T n b 61 = true ∧ cm d = 0 then .inr (25, d, true, op, upd cm d 1)
  else if isW T n b 1111 = true then .inr (26, d, true, op, upd cm d 0)
  else if isW T n b 423 = true then .inr (27, d, true, op, upd cm d 0)
  else if isG T n b 41 = true ∧ 0 < d then .inr (29, ngR op (d - 1), false, op, cm)
  else if d = 0 ∧ isG T n b 59 = true then .inl (.ok (nbS T n b))
  else .inl (.error (ftS 1 b))
def rdE (T : Nat → Int32) (n b d : Nat) (w : Bool) (op cm : Nat → Int32) : Sum (Except Int32 Nat) (Int32 × Nat × Bool × (Nat → Int32) × (Nat → Int32)) := if w = true then rdW T n b d op cm else rdV T n b d op cm
def rdR (T : Nat → Int32) (n : Nat) : Nat → Nat → Nat → Bool → (Nat → Int32) → (Nat → Int32) → List Int32 × Except Int32 Nat
  | 0, _, _, _, _, _ => ([], .error 0)
  | f + 1, b, d, w, op, cm => match rdE T n b d w op cm with
    | .inl e => ([], e)
    | .inr q => (q.1 :: (rdR T n f (nbS T n b) q.2.1 q.2.2.1 q.2.2.2.1 q.2.2.2.2).1, (rdR T n f (nbS T n b) q.2.1 q.2.2.1 q.2.2.2.1 q.2.2.2.2).2)
theorem rdR_l {T : Nat → Int32} {n f b d : Nat} {w : Bool} {op cm : Nat → Int32} {e : Except Int32 Nat} (h : rdE T n b d w op cm = .inl e) : rdR T n (f + 1) b d w op cm = ([], e) := by rw [rdR, h]
theorem rdR_r {T : Nat → Int32} {n f b d : Nat} {w : Bool} {op cm : Nat → Int32} {x : Int32} {d' : Nat} {w' : Bool} {op' cm' : Nat → Int32} (h : rdE T n b d w op cm = .inr (x, d', w', op', cm')) : rdR T n (f + 1) b d w op cm = (x :: (rdR T n f (nbS T n b) d' w' op' cm').1, (rdR T n f (nbS T n b) d' w' op' cm').2) := by rw [rdR, h]
def wrC (cd : Nat → Int32) (c : Nat) : List Int32 → Nat → Int32
  | [] => cd
  | x :: xs => wrC (upd cd c x) (c + 1) xs
theorem nI_5 {d : Nat} (hd : d ≤ 5) : nI d = 5 ↔ d = 5 := by
  refine ⟨fun q => ?_, fun q => by rw [q]; rfl⟩
  have := congrArg ix q
  rw [ixn (by omega)] at this
  exact this
theorem nI_00 {d : Nat} (hd : d ≤ 5) : nI d = 0 ↔ d = 0 := by
  refine ⟨fun q => ?_, fun q => by rw [q]; rfl⟩
  have := congrArg ix q
  rw [ixn (by omega)] at this
  exact this
theorem nI_le0 {d : Nat} (hd : d ≤ 5) : nI d ≤ 0 ↔ d = 0 := by
  rw [show (0 : Int32) = nI 0 from rfl, nI_leI (by omega) (by omega)]
  omega
set_option maxHeartbeats 4000000 in
theorem rd_loop {X : zX} {lv : Nat} {Post : Option Value → zM → Prop} (hX : zOk X cX11_reads RX11 6 lv) (hr : zRt X (some .boolean) Post) (hlv : 1 < lv) {μ0 : zM} {T : Nat → Int32} {n : Nat} {cu : zB} {hn pn : Nat → Int64} {ln : Nat → Nat → Int32} :
    ∀ (f b d : Nat) (w : Bool) (op cm cd : Nat → Int32) (c : Nat) (μ : zM), RI μ T n b cu hn pn c cd op cm ln → n - b < f → d ≤ 5 → 1000 ≤ c → c ≤ 1000 + b → frm prB prQ μ0 μ →
      (∀ r μ', frm prB prQ μ0 μ' → rdQ (rdR T n f b d w op cm).2 r μ' (fun b' => ∃ op' cm', RI μ' T n b' cu hn pn (c + (rdR T n f b d w op cm).1.length) (wrC cd c (rdR T n f b d w op cm).1) op' cm' ln ∧ c + (rdR T n f b d w op cm).1.length ≤ 1000 + b') → Post (some (.int r)) μ') →
      AW X 11 [some (.ref (X.G.ad 11 0)), some (.int (nI d)), some (.int (b2i w)), none, none, none] [] μ := by
  intro f
  induction f with
  | zero => intro b d w op cm cd c μ h hf; omega
  | succ f ih =>
    intro b d w op cm cd c μ h hf hd h1 h2 hF k
    have hn1 : n ≤ 1000 := h.1.1.1.1
    have hbn : b ≤ n := h.1.1.1.2.1
    have e6 : μ.1 11 0 6 = tyS T n b := by rw [← h.1.2]; exact h.1.1.1.2.2.2.2.1
    have e8 : μ.1 11 0 8 = nmS T n b := by rw [← h.1.2]; exact h.1.1.1.2.2.2.2.2.2.2
    have adv : ∀ {x : Int32} {d' : Nat} {w' : Bool} {op' cm' : Nat → Int32} {μ1 : zM}, RI μ1 T n b cu hn pn (c + 1) (upd cd c x) op' cm' ln → frm prB prQ μ0 μ1 → tyS T n b ≠ 0 → d' ≤ 5 → rdE T n b d w op cm = .inr (x, d', w', op', cm') →
        zCallV X lv yX11_nextToken cX11_nextToken 2 none [.ref (X.G.ad 11 0)] μ1 (fun μ3 => AW X 11 [some (.ref (X.G.ad 11 0)), some (.int (nI d')), some (.int (b2i w')), none, none, none] [] μ3) := by
      intro x d' w' op' cm' μ1 r1 F1 ty d5 e
      refine ⟨1, _, hlv, RI_next r1, ?_⟩
      rintro μ3 ⟨f3, r3⟩
      have g := tok_grow hbn ty
      rw [rdR_r e] at k
      refine ih (nbS T n b) d' w' op' cm' (upd cd c x) (c + 1) μ3 r3 (by omega) d5 (by omega) (by omega) (F1.trans f3) (fun r μ' Fm q => k r μ' Fm ?_)
      rw [List.length_cons, show c + ((rdR T n f (nbS T n b) d' w' op' cm').1.length + 1) = c + 1 + (rdR T n f (nbS T n b) d' w' op' cm').1.length by omega]
      exact q
    have bad : ∀ {x : Int32}, rdE T n b d w op cm = .inl (.error (ftS x b)) → zCallI X lv yX11_fails cX11_fails 2 (some .boolean) [.ref (X.G.ad 11 0), .int x] μ (fun r μ' => narrow .boolean (.int r) = .int r ∧ Post (some (.int r)) μ') := by
      intro x e
      refine ⟨0, _, by omega, pw_fail h.1, ?_⟩
      rintro r μ' ⟨rfl, rfl⟩
      rw [rdR_l e] at k
      exact ⟨by decide, k 0 _ (fail_prB hF _) ⟨rfl, pI_at _ _ _ _ _⟩⟩
    have fin : rdE T n b d w op cm = .inl (.ok (nbS T n b)) → zCallV X lv yX11_nextToken cX11_nextToken 2 none [.ref (X.G.ad 11 0)] μ (fun μ' => Post (some (.int (1 : Int32))) μ') := by
      intro e
      refine ⟨1, _, hlv, RI_next h, ?_⟩
      rintro μ3 ⟨f3, r3⟩
      rw [rdR_l e] at k
      exact k 1 μ3 (hF.trans f3) ⟨rfl, _, _, r3, by have := nbS_ge (T := T) hbn; show c + 0 ≤ _; omega⟩
    have id' : ∀ e, e ≤ 5 → ix (nI e) = e := fun e he => ixn (by omega)
    have vd : ∀ e, e ≤ 5 → vp_in (nI e) 7 := fun e he => vin (by omega) (by omega)
    cases w with
    | true =>
      have eE : rdE T n b d true op cm = rdW T n b d op cm := rfl
      have g152 : ∀ {x : Int32} {μ1 : zM}, RI μ1 T n b cu hn pn (c + 1) (upd cd c x) op cm ln → frm prB prQ μ0 μ1 → tyS T n b ≠ 0 → ∀ e, e ≤ 5 → rdE T n b d true op cm = .inr (x, ngR op e, false, op, cm) →
          AW X 152 [some (.ref (X.G.ad 11 0)), some (.int (nI e)), some (.int (0 : Int32)), none, none, none] [] μ1 := by
        intro x μ1 r1 F1 ty e
        induction e with
        | zero =>
          intro he ee
          exact st_X11_reads_152 hX hr ⟨fun _ => adv r1 F1 ty (Nat.le_trans (ngR_le op 0) he) ee, fun q => absurd ((nI_le0 he).mpr rfl) q⟩
        | succ e ihe =>
          intro he ee
          refine st_X11_reads_152 hX hr ⟨fun q => absurd ((nI_le0 he).mp q) (by omega), fun _ => ?_⟩
          simp only [forall_eq, id' (e + 1) he, nI_prd]
          rw [r1.2.2.1]
          rw [ngR] at ee
          refine ⟨vd _ he, fun q => ?_, fun q => ?_⟩
          · rw [if_neg q] at ee
            exact adv r1 F1 ty he ee
          · rw [if_pos q] at ee
            exact ihe (by omega) ee
      have c2000 : tyS T n b ≠ 0 → c < 2000 := fun ty => by have := (tok_grow hbn ty).2; omega
      have g86 : tyS T n b ≠ 0 → d ≠ 5 → ¬ ((facS T n b = 0 ∧ isW T n b 10631 = false) ∧ (isG T n b 40 = false ∧ ¬ tyS T n b = 2)) → (isW T n b 10631 = true ∨ isG T n b 40 = true) →
          AW X 86 [some (.ref (X.G.ad 11 0)), some (.int (nI d)), some (.int (b2i true)), none, some (.int (b2i (isW T n b 10631))), none] [] μ := by
        intro ty d5 hg hor
        have hd1 : d + 1 ≤ 5 := by omega
        refine st_X11_reads_86 hX hr ⟨fun q => ?_, fun q => ?_⟩
        · have qf := b2i0.mp q
          have q40 : isG T n b 40 = true := by rcases hor with o | o; rw [o] at qf; exact absurd qf (by decide); exact o
          refine ⟨0, _, by omega, RI_puts h h1 (c2000 ty), ?_⟩
          rintro μ1 ⟨f1, r1⟩
          simp only [forall_eq, nI_1, id' (d + 1) hd1, show vp_nar .boolean (0 : Int32) = 0 by decide]
          refine ⟨fun _ => ⟨vd _ hd1, ?_⟩, fun q2 => absurd q q2⟩
          obtain ⟨f2, r2⟩ := RI_58 r1 (d + 1) 2
          obtain ⟨f3, r3⟩ := RI_59 r2 (d + 1) 0
          refine adv (w' := true) r3 (((hF.trans f1).trans f2).trans f3) ty hd1 ?_
          rw [eE, rdW, if_neg hg, if_neg d5, if_neg (by rw [qf]; decide), if_pos q40]
        · have qt := b2i1.mp q
          refine ⟨0, _, by omega, RI_puts h h1 (c2000 ty), ?_⟩
          rintro μ1 ⟨f1, r1⟩
          simp only [forall_eq, nI_1, id' (d + 1) hd1, show vp_nar .boolean (0 : Int32) = 0 by decide]
          refine ⟨fun q2 => absurd q2 q, fun _ => ⟨vd _ hd1, ?_⟩⟩
          obtain ⟨f2, r2⟩ := RI_58 r1 (d + 1) 1
          obtain ⟨f3, r3⟩ := RI_59 r2 (d + 1) 0
          refine adv (w' := true) r3 (((hF.trans f1).trans f2).trans f3) ty hd1 ?_
          rw [eE, rdW, if_neg hg, if_neg d5, if_pos qt]
      have g65 : tyS T n b ≠ 0 → ¬ ((facS T n b = 0 ∧ isW T n b 10631 = false) ∧ (isG T n b 40 = false ∧ ¬ tyS T n b = 2)) →
          AW X 65 [some (.ref (X.G.ad 11 0)), some (.int (nI d)), some (.int (b2i true)), some (.int (facS T n b)), some (.int (b2i (isW T n b 10631))), some (.int (b2i (isG T n b 40)))] [] μ := by
        intro ty hg
        refine st_X11_reads_65 hX hr ⟨fun q5 => ?_, fun q5 => ?_⟩
        · have d5 : d ≠ 5 := fun z => q5 ((nI_5 hd).mpr z)
          refine ⟨fun q => g86 ty d5 hg (Or.inl (b2i1.mp q)), fun q => ⟨fun q2 => ⟨fun q3 => ?_, fun q3 => ?_⟩, fun q2 => g86 ty d5 hg (Or.inr (b2i1.mp q2))⟩⟩
          · rw [e8]
            refine ⟨0, _, by omega, RI_puts h h1 (c2000 ty), ?_⟩
            rintro μ1 ⟨f1, r1⟩
            refine g152 r1 (hF.trans f1) ty d hd ?_
            rw [eE, rdW, if_neg hg, if_neg d5, if_neg (by rw [b2i0.mp q]; decide), if_neg (by rw [b2i0.mp q2]; decide), if_pos q3]
          · refine ⟨0, _, by omega, RI_puts h h1 (c2000 ty), ?_⟩
            rintro μ1 ⟨f1, r1⟩
            refine g152 r1 (hF.trans f1) ty d hd ?_
            rw [eE, rdW, if_neg hg, if_neg d5, if_neg (by rw [b2i0.mp q]; decide), if_neg (by rw [b2i0.mp q2]; decide), if_neg q3]
        · have d5 : d = 5 := (nI_5 hd).mp q5
          exact bad (by rw [eE, rdW, if_neg hg, if_pos d5])
      refine st_X11_reads_11 hX hr ⟨fun q => absurd q (by decide), fun _ => ?_⟩
      refine ⟨0, _, by omega, RI_fact h, ?_⟩
      rintro r1 ν1 ⟨rfl, hν1⟩
      rw [hν1]
      refine ⟨0, _, by omega, pw_isWord h.1, ?_⟩
      rintro r2 ν2 ⟨rfl, hν2⟩
      rw [hν2]
      refine ⟨0, _, by omega, RI_sign h, ?_⟩
      rintro r3 ν3 ⟨rfl, hν3⟩
      rw [hν3]
      rw [e6]
      refine ⟨fun q => g65 (fac_ty q) (fun z => q z.1.1), fun q => ⟨fun q2 => g65 (isW_ty (b2i1.mp q2)) (fun z => q2 (b2i0.mpr z.1.2)), fun q2 => ⟨fun q3 => g65 (isG_ty (b2i1.mp q3)) (fun z => q3 (b2i0.mpr z.2.1)), fun q3 => ⟨fun q4 => g65 (by rw [q4]; decide) (fun z => z.2.2 q4), fun q4 => ?_⟩⟩⟩⟩
      exact bad (by rw [eE, rdW, if_pos ⟨⟨q, b2i0.mp q2⟩, b2i0.mp q3, q4⟩])
    | false =>
      have eE : rdE T n b d false op cm = rdV T n b d op cm := rfl
      have nf : ∀ {p : Bool}, p = false → ¬ p = true := fun q => by rw [q]; decide
      have c2000 : tyS T n b ≠ 0 → c < 2000 := fun ty => by have := (tok_grow hbn ty).2; omega
      have g379 : ∀ {x : Int32} {μ1 : zM}, RI μ1 T n b cu hn pn (c + 1) (upd cd c x) op cm ln → frm prB prQ μ0 μ1 → tyS T n b ≠ 0 → ∀ e, e ≤ 5 → rdE T n b d false op cm = .inr (x, ngR op e, false, op, cm) →
          AW X 379 [some (.ref (X.G.ad 11 0)), some (.int (nI e)), some (.int (b2i false)), none, none, none] [] μ1 := by
        intro x μ1 r1 F1 ty e
        induction e with
        | zero =>
          intro he ee
          exact st_X11_reads_379 hX hr ⟨fun _ => adv r1 F1 ty (Nat.le_trans (ngR_le op 0) he) ee, fun q => absurd ((nI_le0 he).mpr rfl) q⟩
        | succ e ihe =>
          intro he ee
          refine st_X11_reads_379 hX hr ⟨fun q => absurd ((nI_le0 he).mp q) (by omega), fun _ => ?_⟩
          simp only [forall_eq, id' (e + 1) he, nI_prd]
          rw [r1.2.2.1]
          rw [ngR] at ee
          refine ⟨vd _ he, fun q => ?_, fun q => ?_⟩
          · rw [if_neg q] at ee
            exact adv r1 F1 ty he ee
          · rw [if_pos q] at ee
            exact ihe (by omega) ee
      have g206 : (isG T n b 43 = true ∨ isG T n b 45 = true ∨ isG T n b 42 = true) → AW X 206 [some (.ref (X.G.ad 11 0)), some (.int (nI d)), none, none, none, none] [] μ := by
        intro hor
        refine st_X11_reads_206 hX hr ⟨0, _, by omega, RI_sign h, ?_⟩
        rintro r1 ν1 ⟨rfl, hν1⟩
        rw [hν1]
        refine ⟨fun q => ⟨0, _, by omega, RI_sign h, ?_⟩, fun q => ?_⟩
        · have q' := b2i0.mp q
          rintro r2 ν2 ⟨rfl, hν2⟩
          rw [hν2]
          refine ⟨fun q2 => ?_, fun q2 => ?_⟩
          · have q2' := b2i0.mp q2
            have q3 : isG T n b 42 = true := by
              rcases hor with o | o | o
              · exact absurd o (nf q')
              · exact absurd o (nf q2')
              · exact o
            refine ⟨0, _, by omega, RI_puts h h1 (c2000 (isG_ty q3)), ?_⟩
            rintro μ1 ⟨f1, r1⟩
            exact adv (w' := true) r1 (hF.trans f1) (isG_ty q3) hd (by rw [eE, rdV, if_neg (nf q'), if_neg (nf q2'), if_pos q3])
          · have q2' := b2i1.mp q2
            refine ⟨0, _, by omega, RI_puts h h1 (c2000 (isG_ty q2')), ?_⟩
            rintro μ1 ⟨f1, r1⟩
            exact adv (w' := true) r1 (hF.trans f1) (isG_ty q2') hd (by rw [eE, rdV, if_neg (nf q'), if_pos q2'])
        · have q' := b2i1.mp q
          refine ⟨0, _, by omega, RI_puts h h1 (c2000 (isG_ty q')), ?_⟩
          rintro μ1 ⟨f1, r1⟩
          exact adv (w' := true) r1 (hF.trans f1) (isG_ty q') hd (by rw [eE, rdV, if_pos q'])
      have g304 : isG T n b 43 = false → isG T n b 45 = false → isG T n b 42 = false → ¬ (isG T n b 60 = true ∧ cm d = 0) → ¬ (isG T n b 61 = true ∧ cm d = 0) → AW X 304 [some (.ref (X.G.ad 11 0)), some (.int (nI d)), some (.int (b2i false)), none, none, none] [] μ := by
        intro n1 n2 n3 n4 n5
        have eV : rdE T n b d false op cm = _ := eE
        rw [rdV, if_neg (nf n1), if_neg (nf n2), if_neg (nf n3), if_neg n4, if_neg n5] at eV
        have g324 : (isW T n b 1111 = true ∨ isW T n b 423 = true) → AW X 324 [some (.ref (X.G.ad 11 0)), some (.int (nI d)), none, none, none, none] [] μ := by
          intro hor
          refine st_X11_reads_324 hX hr ⟨0, _, by omega, pw_isWord h.1, ?_⟩
          rintro r1 ν1 ⟨rfl, hν1⟩
          rw [hν1]
          refine ⟨fun q => ?_, fun q => ?_⟩
          · have q' := b2i0.mp q
            have q2 : isW T n b 423 = true := by
              rcases hor with o | o
              · exact absurd o (nf q')
              · exact o
            refine ⟨0, _, by omega, RI_puts h h1 (c2000 (isW_ty q2)), ?_⟩
            rintro μ1 ⟨f1, r1⟩
            simp only [forall_eq, id' d hd, show vp_nar .boolean (0 : Int32) = 0 by decide]
            obtain ⟨f3, r3⟩ := RI_59 r1 d 0
            exact ⟨vd _ hd, adv (w' := true) r3 ((hF.trans f1).trans f3) (isW_ty q2) hd (by rw [eV, if_neg (nf q'), if_pos q2])⟩
          · have q' := b2i1.mp q
            refine ⟨0, _, by omega, RI_puts h h1 (c2000 (isW_ty q')), ?_⟩
            rintro μ1 ⟨f1, r1⟩
            simp only [forall_eq, id' d hd, show vp_nar .boolean (0 : Int32) = 0 by decide]
            obtain ⟨f3, r3⟩ := RI_59 r1 d 0
            exact ⟨vd _ hd, adv (w' := true) r3 ((hF.trans f1).trans f3) (isW_ty q') hd (by rw [eV, if_pos q'])⟩
        refine st_X11_reads_304 hX hr ⟨0, _, by omega, pw_isWord h.1, ?_⟩
        rintro r1 ν1 ⟨rfl, hν1⟩
        rw [hν1]
        refine ⟨fun q => g324 (Or.inl (b2i1.mp q)), fun q => ⟨0, _, by omega, pw_isWord h.1, ?_⟩⟩
        have q' := b2i0.mp q
        rintro r2 ν2 ⟨rfl, hν2⟩
        rw [hν2]
        refine ⟨fun q2 => ⟨0, _, by omega, RI_sign h, ?_⟩, fun q2 => g324 (Or.inr (b2i1.mp q2))⟩
        have q2' := b2i0.mp q2
        rw [if_neg (nf q'), if_neg (nf q2')] at eV
        rintro r3 ν3 ⟨rfl, hν3⟩
        rw [hν3]
        have tail : ¬ (isG T n b 41 = true ∧ 0 < d) → d = 0 → zCallI X lv yX11_isSign cX11_isSign 2 (some .boolean) [.ref (X.G.ad 11 0), .int (59 : Int32)] μ (fun (r13 : Int32) μ14 => (r13 = 0 → (zCallI X lv yX11_fails cX11_fails 2 (some .boolean) [.ref (X.G.ad 11 0), .int (1 : Int32)] μ14 (fun (r16 : Int32) μ17 => narrow .boolean (.int r16) = .int r16 ∧ Post (some (.int r16)) μ17))) ∧ (¬ r13 = 0 → (zCallV X lv yX11_nextToken cX11_nextToken 2 none [.ref (X.G.ad 11 0)] μ14 (fun μ19 => Post (some (.int (1 : Int32))) μ19)))) := by
          intro n6 d0
          refine ⟨0, _, by omega, RI_sign h, ?_⟩
          rintro r4 ν4 ⟨rfl, hν4⟩
          rw [hν4]
          refine ⟨fun z => bad ?_, fun z => fin ?_⟩
          · rw [eV, if_neg n6, if_neg (fun y => nf (b2i0.mp z) y.2)]
          · rw [eV, if_neg n6, if_pos ⟨d0, b2i1.mp z⟩]
        refine ⟨fun q3 => ?_, fun q3 => ⟨fun q4 => ?_, fun q4 => ?_⟩⟩
        · have n6 : ¬ (isG T n b 41 = true ∧ 0 < d) := fun y => nf (b2i0.mp q3) y.1
          exact ⟨fun z => bad (by rw [eV, if_neg n6, if_neg (fun y => z ((nI_00 hd).mpr y.1))]), fun z => tail n6 ((nI_00 hd).mp z)⟩
        · have d0 := (nI_le0 hd).mp q4
          have n6 : ¬ (isG T n b 41 = true ∧ 0 < d) := fun y => by have := y.2; omega
          exact ⟨fun z => absurd ((nI_00 hd).mpr d0) z, fun z => tail n6 d0⟩
        · have d0 : d ≠ 0 := fun z => q4 ((nI_le0 hd).mpr z)
          have q3' := b2i1.mp q3
          refine ⟨0, _, by omega, RI_puts h h1 (c2000 (isG_ty q3')), ?_⟩
          rintro μ1 ⟨f1, r1⟩
          obtain ⟨e, rfl⟩ : ∃ e, d = e + 1 := ⟨d - 1, by omega⟩
          simp only [forall_eq, nI_prd]
          exact g379 r1 (hF.trans f1) (isG_ty q3') e (by omega) (by rw [eV, if_pos ⟨q3', by omega⟩]; rfl)
      have g263 : isG T n b 43 = false → isG T n b 45 = false → isG T n b 42 = false → (isG T n b 60 = true ∨ isG T n b 61 = true) → AW X 263 [some (.ref (X.G.ad 11 0)), some (.int (nI d)), some (.int (b2i false)), none, none, none] [] μ := by
        intro n1 n2 n3 hor
        refine st_X11_reads_263 hX hr ?_
        rw [id' d hd, h.2.2.2.1]
        refine ⟨vd _ hd, fun q => g304 n1 n2 n3 (fun z => q z.2) (fun z => q z.2), fun q => ⟨0, _, by omega, RI_sign h, ?_⟩⟩
        rintro r1 ν1 ⟨rfl, hν1⟩
        rw [hν1]
        refine ⟨fun q2 => ?_, fun q2 => ?_⟩
        · have q2' := b2i0.mp q2
          have q3 : isG T n b 61 = true := by
            rcases hor with o | o
            · exact absurd o (nf q2')
            · exact o
          refine ⟨0, _, by omega, RI_puts h h1 (c2000 (isG_ty q3)), ?_⟩
          rintro μ1 ⟨f1, r1⟩
          simp only [forall_eq, show vp_nar .boolean (1 : Int32) = 1 by decide]
          obtain ⟨f3, r3⟩ := RI_59 r1 d 1
          exact adv (w' := true) r3 ((hF.trans f1).trans f3) (isG_ty q3) hd (by rw [eE, rdV, if_neg (nf n1), if_neg (nf n2), if_neg (nf n3), if_neg (fun z => nf q2' z.1), if_pos ⟨q3, q⟩])
        · have q2' := b2i1.mp q2
          refine ⟨0, _, by omega, RI_puts h h1 (c2000 (isG_ty q2')), ?_⟩
          rintro μ1 ⟨f1, r1⟩
          simp only [forall_eq, show vp_nar .boolean (1 : Int32) = 1 by decide]
          obtain ⟨f3, r3⟩ := RI_59 r1 d 1
          exact adv (w' := true) r3 ((hF.trans f1).trans f3) (isG_ty q2') hd (by rw [eE, rdV, if_neg (nf n1), if_neg (nf n2), if_neg (nf n3), if_pos ⟨q2', q⟩])
      refine st_X11_reads_11 hX hr ⟨fun _ => ?_, fun q => absurd rfl q⟩
      refine ⟨0, _, by omega, RI_sign h, ?_⟩
      rintro r1 ν1 ⟨rfl, hν1⟩
      rw [hν1]
      refine ⟨fun q => g206 (Or.inl (b2i1.mp q)), fun q => ⟨0, _, by omega, RI_sign h, ?_⟩⟩
      rintro r2 ν2 ⟨rfl, hν2⟩
      rw [hν2]
      refine ⟨fun q2 => g206 (Or.inr (Or.inl (b2i1.mp q2))), fun q2 => ⟨0, _, by omega, RI_sign h, ?_⟩⟩
      rintro r3 ν3 ⟨rfl, hν3⟩
      rw [hν3]
      refine ⟨fun q3 => ⟨0, _, by omega, RI_sign h, ?_⟩, fun q3 => g206 (Or.inr (Or.inr (b2i1.mp q3)))⟩
      rintro r4 ν4 ⟨rfl, hν4⟩
      rw [hν4]
      refine ⟨fun q4 => g263 (b2i0.mp q) (b2i0.mp q2) (b2i0.mp q3) (Or.inl (b2i1.mp q4)), fun q4 => ⟨0, _, by omega, RI_sign h, ?_⟩⟩
      rintro r5 ν5 ⟨rfl, hν5⟩
      rw [hν5]
      exact ⟨fun q5 => g304 (b2i0.mp q) (b2i0.mp q2) (b2i0.mp q3) (fun z => nf (b2i0.mp q4) z.1) (fun z => nf (b2i0.mp q5) z.1), fun q5 => g263 (b2i0.mp q) (b2i0.mp q2) (b2i0.mp q3) (Or.inr (b2i1.mp q5))⟩
theorem cr_reads {lc : Launch} {G : zG} {μ : zM} {T : Nat → Int32} {n b c : Nat} {cu : zB} {hn pn : Nat → Int64} {cd op cm : Nat → Int32} {ln : Nat → Nat → Int32} (h : RI μ T n b cu hn pn c cd op cm ln) (h1 : 1000 ≤ c) (h2 : c ≤ 1000 + b) :
    zCT lc G 2 yX11_reads cX11_reads 6 (some .boolean) [.ref (G.ad 11 0)] μ (zI fun r μ' => frm prB prQ μ μ' ∧ rdQ (rdR T n (n - b + 1) b 0 true op (upd cm 0 0)).2 r μ' (fun b' => ∃ op' cm', RI μ' T n b' cu hn pn (c + (rdR T n (n - b + 1) b 0 true op (upd cm 0 0)).1.length) (wrC cd c (rdR T n (n - b + 1) b 0 true op (upd cm 0 0)).1) op' cm' ln ∧ c + (rdR T n (n - b + 1) b 0 true op (upd cm 0 0)).1.length ≤ 1000 + b')) := by
  refine zCT_of (by decide) (Nat.le_of_ble_eq_true rfl) rfl (fun X hl0 hG hX hr => ?_)
  subst hG
  refine st_X11_reads_0 hX hr ?_
  simp only [forall_eq, show vp_nar .boolean (0 : Int32) = 0 by decide]
  obtain ⟨f1, r1⟩ := RI_59 h 0 0
  exact rd_loop hX hr (by omega) (n - b + 1) b 0 true op (upd cm 0 0) cd c _ r1 (by omega) (by omega) h1 h2 f1 (fun r μ' Fm q => ⟨r, rfl, Fm, q⟩)
