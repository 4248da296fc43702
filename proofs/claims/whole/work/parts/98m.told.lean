/-! SENTENCES: the class's against the reference's, purely -/
/-- a fault stands, and stays -/
def Dd (e : Int32) (s : zS) : Prop := s.1 = e ∧ ¬ e = 0
def At (T : Nat → Int32) (n m b : Nat) (s : zS) : Prop := s.1 = 0 ∧ s.2 ≤ m ∧ tkN T n s.2 = b
def RdO (T : Nat → Int32) (n m : Nat) (res : Except Int32 Nat) (s : zS) : Prop := match res with
  | .ok b => At T n m b s
  | .error e => Dd e s
section DD
variable {T : Nat → Int32} {n : Nat} {e : Int32} {s : zS}
theorem dd_on (h : Dd e s) : Dd e (onC T n s) := h
theorem dd_fl (h : Dd e s) {k : Int32} : Dd e (flC T n k s) := ⟨by unfold flC; rw [if_neg (by rw [h.1]; exact h.2)]; exact h.1, h.2⟩
theorem dd_wd (h : Dd e s) {w : Nat} : Dd e (wdC T n w s) := by
  unfold wdC
  split
  · exact dd_on h
  · exact dd_fl h
theorem dd_sg (h : Dd e s) {c : Int32} : Dd e (sgC T n c s) := by
  unfold sgC
  split
  · exact dd_on h
  · exact dd_fl h
theorem dd_nm (h : Dd e s) {V : Nat → Int64} {lo hi : Int32} : Dd e (nmC T n V lo hi s).2 := by
  unfold nmC
  split
  · split
    · exact dd_fl h
    · exact dd_on h
  · exact dd_fl h
theorem dd_td (h : Dd e s) {r x y : Int32} : Dd e (tdC T n r x y s) := by
  unfold tdC
  split
  · split
    · exact dd_fl h
    · split
      · exact dd_fl h
      · exact dd_on h
  · exact dd_fl h
theorem dd_kd (h : Dd e s) : Dd e (kdC T n s) := by
  unfold kdC
  split
  · exact dd_fl h
  · exact dd_on h
theorem dd_bt (h : Dd e s) {V : Nat → Int64} : ∀ w, btF T n V s w = (0, s)
  | 0 => rfl
  | w + 1 => by rw [btF, dd_bt h w, if_neg (by rw [h.1]; exact h.2)]
end DD
theorem ft_5 {k b : Nat} (hb : b ≤ 1000) (h1 : 1 ≤ k) (h5 : k ≤ 5) : ¬ ftS (nI k) b = 0 := by
  unfold ftS
  rw [show (16 : Int32) = nI 16 from rfl, pk_mul, nI_add]
  intro q
  have h := congrArg Int32.toInt q
  rw [nI_toInt (by omega), Int32.toInt_zero] at h
  omega
theorem fdN_rng {f : Nat → Int64} {w : Int64} : ∀ k i, i + k < 1000 → fdN f w k i = -1 ∨ ∃ j, i ≤ j ∧ j < i + k ∧ fdN f w k i = nI j ∧ f j = w
  | 0, i, _ => Or.inl rfl
  | k + 1, i, h => by
    rw [fdN]
    split
    · rename_i q; exact Or.inr ⟨i, by omega, by omega, rfl, q⟩
    · rcases fdN_rng (f := f) (w := w) k (i + 1) (by omega) with q | ⟨j, h1, h2, h3⟩
      · exact Or.inl q
      · exact Or.inr ⟨j, by omega, by omega, h3⟩
theorem fdN_rel {f g : Nat → Int64} {x y : Int64} : ∀ k i, (∀ j, i ≤ j → j < i + k → (f j = x ↔ g j = y)) → fdN f x k i = fdN g y k i
  | 0, _, _ => rfl
  | k + 1, i, h => by
    have h0 := h i (Nat.le_refl _) (by omega)
    rw [fdN, fdN, fdN_rel k (i + 1) (fun j a b => h j (by omega) (by omega))]
    by_cases q : f i = x
    · rw [if_pos q, if_pos (h0.mp q)]
    · rw [if_neg q, if_neg (fun z => q (h0.mpr z))]
theorem fdN_neg {f : Nat → Int64} {w : Int64} {k : Nat} (hk : k < 1000) : (0 ≤ fdN f w k 0 ↔ ¬ fdN f w k 0 = -1) ∧ (fdN f w k 0 < 0 ↔ fdN f w k 0 = -1) := by
  rcases fdN_rng (f := f) (w := w) k 0 (by omega) with q | ⟨j, h1, h2, h3, -⟩
  · rw [q]; decide
  · rw [h3]
    have a : 0 ≤ nI j := nI_pos' (by omega)
    have b : ¬ nI j < 0 := nI_pos (by omega)
    have c : ¬ nI j = -1 := fun z => b (by rw [z]; decide)
    exact ⟨⟨fun _ => c, fun _ => a⟩, ⟨fun z => absurd z b, fun z => absurd z c⟩⟩
section TD
variable {T : Nat → Int32} {n m : Nat} {Q : Nat → Int64} {b : Nat} {s : zS}
theorem nbS_n (T : Nat → Int32) (n : Nat) : nbS T n n = n := by
  show endS T n blk (tAt T n n).2.1 = n
  rw [tAt, if_pos rfl]
  show endS T n blk n = n
  exact endS_stop (by omega)
theorem at_on (h : TkH T n m Q) (a : At T n m b s) : At T n m (nbS T n b) (onC T n s) := by
  obtain ⟨a1, a2, a3⟩ := a
  refine ⟨a1, ?_, ?_⟩
  · show adN T n s.2 ≤ m
    rcases Nat.lt_or_ge s.2 m with q | q
    · rw [(tk_on h q).1]; omega
    · rw [adN, if_pos (by rw [show s.2 = m by omega]; exact h.2.2.1)]; exact a2
  · show tkN T n (adN T n s.2) = _
    rcases Nat.lt_or_ge s.2 m with q | q
    · rw [(tk_on h q).1, (tk_on h q).2, a3]
    · have e : s.2 = m := by omega
      rw [adN, if_pos (by rw [e]; exact h.2.2.1), ← a3, e, h.2.2.1, nbS_n]
theorem at_fl (h : TkH T n m Q) (a : At T n m b s) {k : Nat} (h1 : 1 ≤ k) (h5 : k ≤ 5) : Dd (ftS (nI k) b) (flC T n (nI k) s) := by
  obtain ⟨a1, a2, a3⟩ := a
  have hb := tkN_le T n s.2
  have hn := h.1
  refine ⟨?_, ft_5 (by omega) h1 h5⟩
  unfold flC
  rw [if_pos a1, a3]
theorem at_le (a : At T n m b s) : b ≤ n := by rw [← a.2.2]; exact tkN_le T n _
theorem rd_wd (h : TkH T n m Q) (a : At T n m b s) {k : Nat} (hk : k < 28) (hk2 : 2 ≤ k) : RdO T n m (wordP T n (kwS.getD (k - 2) 0) b) (wdC T n k s) := by
  have e := isW_wx (T := T) (at_le a) hk hk2
  unfold wordP wdC
  rw [a.2.2]
  by_cases q : wxS T n b = k
  · rw [if_pos q, if_pos (by rw [e]; exact decide_eq_true q)]
    exact at_on h a
  · rw [if_neg q, if_neg (by rw [e, decide_eq_false q]; decide)]
    exact at_fl h a (k := 1) (by omega) (by omega)
theorem rd_end (h : TkH T n m Q) (a : At T n m b s) : RdO T n m (endP T n b) (sgC T n 59 s) := by
  unfold endP sgC
  rw [a.2.2]
  by_cases q : isG T n b 59 = true
  · rw [if_pos q, if_pos q]
    exact at_on h a
  · rw [if_neg q, if_neg q]
    exact at_fl h a (k := 1) (by omega) (by omega)
def RdN (T : Nat → Int32) (n m : Nat) (res : Except Int32 (Int32 × Nat)) (q : Int32 × zS) : Prop := match res with
  | .ok r => q.1 = r.1 ∧ At T n m r.2 q.2
  | .error e => Dd e q.2
theorem rd_nm (h : TkH T n m Q) (a : At T n m b s) {lo hi : Int32} : RdN T n m (numP T n lo hi b) (nmC T n Q lo hi s) := by
  unfold numP nmC
  rw [a.2.2]
  by_cases q : tyS T n b = 2
  · rw [if_pos q, if_pos q]
    obtain ⟨e1, e2⟩ := nm_vl q
    have hlt : s.2 < m := tk_lt h a.2.1 (by rw [a.2.2]; have := at_le a; omega)
    have ev : (Q s.2).toInt32 = nmS T n b := by rw [h.2.2.2.2 _ hlt, a.2.2, e1]
    rw [ev]
    have ew : wthn (nmS T n b) lo hi = true ↔ ¬ (nmS T n b < lo ∨ ¬ nmS T n b ≤ hi) := by
      rw [wthn, Bool.and_eq_true, decide_eq_true_eq, decide_eq_true_eq, not_or, Decidable.not_not, Int32.not_lt (a := hi)]
    by_cases c : nmS T n b < lo ∨ ¬ nmS T n b ≤ hi
    · rw [if_pos c, if_neg (fun z => ew.mp z c)]
      exact at_fl h a (k := 4) (by omega) (by omega)
    · rw [if_neg c, if_pos (ew.mpr c)]
      exact ⟨rfl, at_on h a⟩
  · rw [if_neg q, if_neg q]
    exact at_fl h a (k := 1) (by omega) (by omega)
/-- the names told so far, in both tellings -/
def NR (f g : Nat → Int64) (k : Nat) : Prop := ∀ j, j < k → NM (f j) (g j)
theorem name_q (h : TkH T n m Q) (a : At T n m b s) (hw : wxS T n b = 1) : NM (wdS T n b) (Q s.2) ∧ s.2 < m := by
  have hb := at_le a
  rcases wx_spec (T := T) hb with ⟨h1, -⟩ | ⟨-, h2, -⟩ | ⟨h1, -⟩
  · omega
  · have hlt : s.2 < m := tk_lt h a.2.1 (by rw [a.2.2]; have := (ty1 h2).1; omega)
    refine ⟨?_, hlt⟩
    rw [h.2.2.2.2 _ hlt, a.2.2]
    exact wd_NM hb h2
  · omega
theorem fd_same {f g : Nat → Int64} {k : Nat} {x y : Int64} (hN : NR f g k) (hx : NM x y) : fdN f x k 0 = fdN g y k 0 := fdN_rel k 0 (fun j _ h2 => NM_iff (hN j (by omega)) hx)
theorem rd_new (h : TkH T n m Q) (a : At T n m b s) {hn pn hc pc : Nat → Int64} {nh np : Nat} (hh : nh ≤ 4) (hp : np ≤ 6) (NH : NR hn hc nh) (NP : NR pn pc np) :
    match newP T n hn pn nh np b with
    | .ok w => NM w (Q s.2) ∧ At T n m (nbS T n b) (nwC T n Q hc pc nh np s)
    | .error e => Dd e (nwC T n Q hc pc nh np s) := by
  have hb := at_le a
  unfold newP nwC
  rw [a.2.2, kp_wx hb]
  by_cases q : wxS T n b = 1
  · rw [if_pos q, if_neg (by rw [decide_eq_true q]; decide)]
    obtain ⟨hq, -⟩ := name_q h a q
    rw [← fd_same NH hq, ← fd_same NP hq]
    obtain ⟨p1, p2⟩ := fdN_neg (f := pn) (w := wdS T n b) (k := np) (by omega)
    obtain ⟨h1, h2⟩ := fdN_neg (f := hn) (w := wdS T n b) (k := nh) (by omega)
    by_cases c : fdN pn (wdS T n b) np 0 = -1
    · rw [if_neg (fun z => p1.mp z c), if_pos c]
      by_cases c2 : fdN hn (wdS T n b) nh 0 = -1
      · rw [if_pos (h2.mpr c2), if_pos c2]
        exact ⟨hq, at_on h a⟩
      · rw [if_neg (fun z => c2 (h2.mp z)), if_neg c2]
        exact at_fl h a (k := 3) (by omega) (by omega)
    · rw [if_pos (p1.mpr c), if_neg c]
      have : (if fdN hn (wdS T n b) nh 0 = -1 then flC T n 3 s else flC T n 3 s) = flC T n 3 s := by split <;> rfl
      rw [this]
      exact at_fl h a (k := 3) (by omega) (by omega)
  · rw [if_neg q, if_pos (by rw [decide_eq_false q]; decide)]
    exact at_fl h a (k := 1) (by omega) (by omega)
theorem rd_per (h : TkH T n m Q) (a : At T n m b s) {pn pc : Nat → Int64} {np : Nat} (hp : np ≤ 6) (NP : NR pn pc np) {x y : Int32} :
    RdN T n m (perP T n pn np x y b) (fdN pc (Q s.2) np 0, tdC T n (fdN pc (Q s.2) np 0) x y s) := by
  have hb := at_le a
  unfold perP tdC
  rw [a.2.2, kp_wx hb]
  by_cases q : wxS T n b = 1
  · rw [if_pos q, if_neg (by rw [decide_eq_true q]; decide)]
    obtain ⟨hq, -⟩ := name_q h a q
    rw [← fd_same NP hq]
    obtain ⟨p1, p2⟩ := fdN_neg (f := pn) (w := wdS T n b) (k := np) (by omega)
    by_cases c : fdN pn (wdS T n b) np 0 = -1
    · rw [if_neg (fun z => p1.mp z c), if_pos c]
      exact at_fl h a (k := 2) (by omega) (by omega)
    · rw [if_pos (p1.mpr c), if_neg c]
      by_cases c2 : fdN pn (wdS T n b) np 0 = x ∨ fdN pn (wdS T n b) np 0 = y
      · rw [if_pos c2, if_pos c2]
        exact at_fl h a (k := 3) (by omega) (by omega)
      · rw [if_neg c2, if_neg c2]
        exact ⟨rfl, at_on h a⟩
  · rw [if_neg q, if_pos (by rw [decide_eq_false q]; decide)]
    exact at_fl h a (k := 1) (by omega) (by omega)
theorem rd_hil (h : TkH T n m Q) (a : At T n m b s) {hn hc : Nat → Int64} {nh : Nat} (hp : nh ≤ 4) (NH : NR hn hc nh) :
    RdN T n m (hilP T n hn nh b) (fdN hc (Q s.2) nh 0, tdC T n (fdN hc (Q s.2) nh 0) (-1) (-1) s) := by
  have hb := at_le a
  unfold hilP tdC
  rw [a.2.2, kp_wx hb]
  by_cases q : wxS T n b = 1
  · rw [if_pos q, if_neg (by rw [decide_eq_true q]; decide)]
    obtain ⟨hq, -⟩ := name_q h a q
    rw [← fd_same NH hq]
    obtain ⟨p1, p2⟩ := fdN_neg (f := hn) (w := wdS T n b) (k := nh) (by omega)
    by_cases c : fdN hn (wdS T n b) nh 0 = -1
    · rw [if_neg (fun z => p1.mp z c), if_pos c]
      exact at_fl h a (k := 2) (by omega) (by omega)
    · rw [if_pos (p1.mpr c), if_neg c, if_neg (fun z => z.elim c c)]
      exact ⟨rfl, at_on h a⟩
  · rw [if_neg q, if_pos (by rw [decide_eq_false q]; decide)]
    exact at_fl h a (k := 1) (by omega) (by omega)
theorem kd_tab : ∀ w, w < 28 → (0 ≤ zWk.getD w 0 ↔ ¬ zWk.getD w 0 = -1) := by decide +kernel
theorem rd_kin (h : TkH T n m Q) (a : At T n m b s) : RdN T n m (kinP T n b) (zWk.getD (wxS T n (tkN T n s.2)) 0, kdC T n s) := by
  have hb := at_le a
  unfold kinP kdC
  rw [a.2.2, kin_wx hb]
  have t := kd_tab _ (wxS_lt T n b)
  by_cases q : zWk.getD (wxS T n b) 0 = -1
  · rw [if_pos q, if_neg (fun z => t.mp z q)]
    exact at_fl h a (k := 1) (by omega) (by omega)
  · rw [if_neg q, if_pos (t.mpr q)]
    exact ⟨rfl, at_on h a⟩
/-- a hill -/
theorem rd_hill (h : TkH T n m Q) (a : At T n m b s) {cu : zB} {hn pn hc pc : Nat → Int64} {nh np : Nat} (eh : cu 0 0 = nI nh) (ep : cu 0 1 = nI np) (hh : nh < 4) (hp : np ≤ 6) (NH : NR hn hc nh) (NP : NR pn pc np) :
    match hillP T n cu hn pn b with
    | .ok r => At T n m r.2.2 (hlS T n Q hc pc nh np s).2.2 ∧ (∃ w, NM w (Q (onC T n s).2) ∧ r.2.1 = updN hn nh w) ∧ r.1 = bU (bU (bU cu 1 nh (hlS T n Q hc pc nh np s).1) 2 nh (hlS T n Q hc pc nh np s).2.1) 0 0 (nI (nh + 1))
    | .error e => Dd e (hlS T n Q hc pc nh np s).2.2 := by
  have x0 : ix (cu 0 0) = nh := by rw [eh, ixn (by omega)]
  have x1 : ix (cu 0 1) = np := by rw [ep, ixn (by omega)]
  have n4 : ¬ cu 0 0 = 4 := fun z => by
    have := congrArg ix z
    rw [x0] at this
    have e4 : ix (4 : Int32) = 4 := by decide
    omega
  unfold hillP hlS
  rw [if_neg n4, x0, x1]
  simp only [bind, Except.bind]
  have a1 := at_on h a
  have r2 := rd_new h a1 (by omega) hp NH NP
  generalize newP T n hn pn nh np (nbS T n b) = w at r2
  cases w with
  | error e => exact dd_sg (dd_nm (dd_wd (dd_nm (dd_wd r2))))
  | ok w =>
    obtain ⟨hw, a2⟩ := r2
    dsimp only
    have r3 := rd_wd h a2 (k := 3) (by decide) (by decide)
    rw [show kwS.getD (3 - 2) 0 = (3427 : Int64) by decide] at r3
    generalize wordP T n 3427 (nbS T n (nbS T n b)) = w3 at r3
    cases w3 with
    | error e => exact dd_sg (dd_nm (dd_wd (dd_nm r3)))
    | ok b3 =>
      dsimp only
      have r4 := rd_nm h r3 (lo := 0) (hi := 8)
      generalize numP T n 0 8 b3 = w4 at r4
      cases w4 with
      | error e => exact dd_sg (dd_nm (dd_wd r4))
      | ok d =>
        obtain ⟨v4, a4⟩ := r4
        dsimp only
        have r5 := rd_wd h a4 (k := 4) (by decide) (by decide)
        rw [show kwS.getD (4 - 2) 0 = (16922 : Int64) by decide] at r5
        generalize wordP T n 16922 d.2 = w5 at r5
        cases w5 with
        | error e => exact dd_sg (dd_nm r5)
        | ok b5 =>
          dsimp only
          have r6 := rd_nm h r5 (lo := 0) (hi := 8)
          generalize numP T n 0 8 b5 = w6 at r6
          cases w6 with
          | error e => exact dd_sg r6
          | ok e =>
            obtain ⟨v6, a6⟩ := r6
            dsimp only
            have r7 := rd_end h a6
            generalize endP T n e.2 = w7 at r7
            cases w7 with
            | error e => exact r7
            | ok b7 => exact ⟨r7, ⟨w, hw, rfl⟩, by rw [v4, v6, eh, nI_1]⟩
theorem rd_purse (h : TkH T n m Q) (a : At T n m b s) {cu : zB} {hn pn hc pc : Nat → Int64} {nh np : Nat} (eh : cu 0 0 = nI nh) (ep : cu 0 1 = nI np) (hh : nh ≤ 4) (hp : np < 6) (NH : NR hn hc nh) (NP : NR pn pc np) :
    match purseP T n cu hn pn b with
    | .ok r => At T n m r.2.2 (puS T n Q hc pc nh np s).2 ∧ (∃ w, NM w (Q (onC T n s).2) ∧ r.2.1 = updN pn np w) ∧ r.1 = bU (bU cu 3 np (puS T n Q hc pc nh np s).1) 0 1 (nI (np + 1))
    | .error e => Dd e (puS T n Q hc pc nh np s).2 := by
  have x0 : ix (cu 0 0) = nh := by rw [eh, ixn (by omega)]
  have x1 : ix (cu 0 1) = np := by rw [ep, ixn (by omega)]
  have n4 : ¬ cu 0 1 = 6 := fun z => by
    have := congrArg ix z
    rw [x1] at this
    have e4 : ix (6 : Int32) = 6 := by decide
    omega
  unfold purseP puS
  rw [if_neg n4, x0, x1]
  simp only [bind, Except.bind]
  have a1 := at_on h a
  have r2 := rd_new h a1 hh (by omega) NH NP
  generalize newP T n hn pn nh np (nbS T n b) = w at r2
  cases w with
  | error e => exact dd_sg (dd_nm r2)
  | ok w =>
    obtain ⟨hw, a2⟩ := r2
    dsimp only
    have r4 := rd_nm h a2 (lo := 0) (hi := 9999)
    generalize numP T n 0 9999 (nbS T n (nbS T n b)) = w4 at r4
    cases w4 with
    | error e => exact dd_sg r4
    | ok d =>
      obtain ⟨v4, a4⟩ := r4
      dsimp only
      have r7 := rd_end h a4
      generalize endP T n d.2 = w7 at r7
      cases w7 with
      | error e => exact r7
      | ok b7 => exact ⟨r7, ⟨w, hw, rfl⟩, by rw [v4, ep, nI_1]⟩
end TD
