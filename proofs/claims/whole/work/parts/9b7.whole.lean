/-! THE LAW FROM ITS ENTRY: all is built, then the loop -/
set_option maxHeartbeats 1000000 in
theorem lw_build {X : zX} {b Ln : Nat} {xs : Nat → Int32} (hw : lwX X b Ln xs) (hb : bOk X 0) (hA : ∀ κ o, X.G.ad κ o = X.G.sz + zpos κ o) (k : AW (X.at 465 18953) 23 (LL X b 0) [] μ0) : NW X 0 [some (.ref b), none, none, none, none, none, none] [] [] 0 0 := by
  have hX := hw.1
  have hE := hw.2.2.2.2.2.2.1
  have hRc : X.R.cells = 601024 := by rw [hw.2.1]; rfl
  have hRs : X.R.slots = 7293034 := by rw [hw.2.1]; rfl
  have hq : zSl X.G 0 zzOrd := fun i q hi => by rw [hA, zpos_at hi]; omega
  obtain ⟨hR, hq2⟩ := zSl_app hq
  obtain ⟨hM, hO⟩ := zSl_app hq2
  obtain ⟨l1, l2, l3⟩ := zo_len
  have lR : (bkR.map (zc X.G)).length = 423 := by rw [List.length_map, l1]
  have lM : (bkX.map (zc X.G)).length = 41 := by rw [List.length_map, l2]
  have a10 : X.G.ad 10 0 = X.G.sz + (0 + 0) := hR 0 (10, 0) rfl
  have a11 : X.G.ad 11 0 = X.G.sz + (0 + bkR.length + 0) := hM 0 (11, 0) rfl
  have a75 : X.G.ad 75 0 = X.G.sz + (0 + bkR.length + bkX.length + 0) := hO 0 (75, 0) rfl
  refine bw_new (E := []) (a := X.G.ad 10 0) (fs := fr10) hX hb rfl nc_L_8 (fun j hj => by
    have h : j = 0 ∨ j = 1 ∨ j = 2 ∨ j = 3 ∨ j = 4 ∨ j = 5 ∨ j = 6 := by omega
    rcases h with rfl | rfl | rfl | rfl | rfl | rfl | rfl <;> rfl) (by omega) (by omega) dL_law_0 a10 ?_
  refine bw_dup hX dL_law_3 rfl ?_
  refine bw_call (E' := [] ++ bkR.map (zc X.G)) hX hb rfl (by decide) ic_L_22 (by decide) (bc_X10 (E := []) hE hR rfl) (by omega) (by omega) (Nat.le_of_ble_eq_true rfl) dL_law_4 ?_
  refine bw_astore_n (L' := [some (.ref b), some (.ref (X.G.ad 10 0)), none, none, none, none, none]) hX dL_law_7 (Nat.le_of_ble_eq_true rfl) rfl ?_
  rw [List.nil_append]
  refine bw_new (a := X.G.ad 11 0) (fs := fr11) hX hb (by rw [lR]) nc_L_23 (fun j hj => by
    have h : j = 0 ∨ j = 1 ∨ j = 2 ∨ j = 3 ∨ j = 4 ∨ j = 5 ∨ j = 6 ∨ j = 7 ∨ j = 8 ∨ j = 9 ∨ j = 10 ∨ j = 11 ∨ j = 12 ∨ j = 13 ∨ j = 14 ∨ j = 15 ∨ j = 16 ∨ j = 17 ∨ j = 18 ∨ j = 19 ∨ j = 20 ∨ j = 21 ∨ j = 22 ∨ j = 23 ∨ j = 24 ∨ j = 25 ∨ j = 26 ∨ j = 27 ∨ j = 28 ∨ j = 29 ∨ j = 30 ∨ j = 31 ∨ j = 32 ∨ j = 33 ∨ j = 34 ∨ j = 35 ∨ j = 36 ∨ j = 37 ∨ j = 38 ∨ j = 39 ∨ j = 40 ∨ j = 41 ∨ j = 42 ∨ j = 43 ∨ j = 44 ∨ j = 45 ∨ j = 46 ∨ j = 47 ∨ j = 48 ∨ j = 49 ∨ j = 50 ∨ j = 51 ∨ j = 52 ∨ j = 53 ∨ j = 54 := by omega
    rcases h with rfl | rfl | rfl | rfl | rfl | rfl | rfl | rfl | rfl | rfl | rfl | rfl | rfl | rfl | rfl | rfl | rfl | rfl | rfl | rfl | rfl | rfl | rfl | rfl | rfl | rfl | rfl | rfl | rfl | rfl | rfl | rfl | rfl | rfl | rfl | rfl | rfl | rfl | rfl | rfl | rfl | rfl | rfl | rfl | rfl | rfl | rfl | rfl | rfl | rfl | rfl | rfl | rfl | rfl | rfl <;> rfl) (by omega) (by omega) dL_law_8 (by rw [a11, lR, l1]) ?_
  refine bw_dup hX dL_law_11 rfl ?_
  refine bw_call (E' := bkR.map (zc X.G) ++ bkX.map (zc X.G)) hX hb (by rw [List.length_append, lR]; rfl) (by rw [List.length_append, lR]; decide) ic_L_25 (by decide) (bc_X11 (zSl_at hM (by rw [lR, l1])) rfl) (by omega) (by omega) (Nat.le_of_ble_eq_true rfl) dL_law_12 ?_
  refine bw_astore_n (L' := [some (.ref b), some (.ref (X.G.ad 10 0)), some (.ref (X.G.ad 11 0)), none, none, none, none]) hX dL_law_15 (Nat.le_of_ble_eq_true rfl) rfl ?_
  refine bw_iconst hX dL_law_16 zk_1 ?_
  refine bw_newa (t := 1) (N := 1) (a0 := a0l 1) (a := X.G.ad 75 0) hX hb (by rw [List.length_append, lR, lM]) ac_long rfl rfl (a0_long 1) (by decide) (by decide) (by decide) (by omega) (by omega) dL_law_17 (by rw [a75, List.length_append, lR, lM, l1, l2]) ?_
  refine bw_astore_n (L' := [some (.ref b), some (.ref (X.G.ad 10 0)), some (.ref (X.G.ad 11 0)), some (.ref (X.G.ad 75 0)), none, none, none]) hX dL_law_19 (Nat.le_of_ble_eq_true rfl) rfl ?_
  refine bw_iconst hX dL_law_20 zk_0 ?_
  refine bw_istore (L' := LL X b 0) hX dL_law_21 (Nat.le_of_ble_eq_true rfl) rfl ?_
  refine bw_cong ?_ rfl rfl (bw_aw hA k)
  rw [zzOrd, List.map_append, List.map_append, List.append_assoc]
  rfl
def lw_At (p : Program) (s : State) (m : MethodId) (meth : Method) (c : Code) (b L : Nat) (xs : Nat → Int32) : Prop :=
  p.tables.exec = Jvm.exec ∧ c.code = code ∧ meth.sig.returnType = ret ∧ c.maxLocals = 7 ∧ s.vm.findClass R_law = some m.cls ∧ (∀ w ∈ lw_tbl, w.before #[Value.ref b] s = true) ∧ va_X b L xs s s.heap ∧ b < s.heap.size ∧ meth.locks = false ∧ (Jvm.Cond.and given_1 narrow_1).before #[Value.ref b] s = true
set_option maxHeartbeats 1000000 in
theorem whole_start {p : Program} {e : Env} {s : State} {m : MethodId} {below : List Frame} {meth : Method} {c : Code} (l : Launch) (hst : l.stackTraces = false) {b L : Nat} {xs : Nat → Int32} (hL : L ≤ 3584) (C0 : lw_At p s m meth c b L xs) : W p l e room_1 s m #[Value.ref b] below meth c s.heap [] 0 0 (lw_Z below #[Value.ref b] s) (entryFrame m ([Value.ref b] : List Value).toArray 7) := by
  obtain ⟨hx, hb, hr, hml, hown, hts, hX, hbl, hlocks, hgv⟩ := C0
  have hs : ∀ w ∈ flN, w.before #[Value.ref b] s = true := flat_of_before _ hgv
  obtain ⟨aw, hsx⟩ := st_sx hs hts
  obtain ⟨D, cA, hK⟩ := st_K hts
  obtain ⟨X, eX⟩ : ∃ X : zX, X = (p, l, e, room_1, s, m, #[Value.ref b], below, meth, c, (D, cA, fun κ o => s.heap.size + zpos κ o, aw, s.heap.size, zSX aw s.heap.size), 0, 0, lw_Z below #[Value.ref b] s) := ⟨_, rfl⟩
  have hw : lwX X b L xs := by
    subst eX
    exact ⟨⟨hx, hb, hml, hown, fun w hw => hts w (gw_lw hw), hK, Nat.le_refl _, hlocks, ⟨show 40 ≤ room_1.frames by decide, show 100 * 40 ≤ room_1.locals by decide, Nat.zero_le _, Nat.zero_le _⟩, fun U V H K hw _ hq h => zSX_kept hw hq h, hsx⟩, rfl, rfl, rfl, hr, ⟨hX, hbl, fun z => by have z : s.heap.size ≤ b := z; omega⟩, fun U H h => h.1, fun U H h => ⟨h.2.1, h.2.2.1, h.2.2.2⟩, hst, rfl⟩
  have hbk : bOk X 0 := by
    subst eX
    exact ⟨rfl, st_N hts⟩
  have hA : ∀ κ o, X.G.ad κ o = X.G.sz + zpos κ o := by
    subst eX
    exact fun κ o => rfl
  have go := lw_build hw hbk hA (law_loop hL (L + 1) 0 (X.at 465 18953) μ0 (lwX_at hw (by decide) (by decide)) (by omega) (by omega) (by rw [show (10000 + 990 * ((0 : Nat) : Int)) = 10000 from rfl]; exact Rel_0) (by show 465 ≤ 1000 + 0; decide) (by show 18953 ≤ 30000 + 6 * 0; decide))
  rw [lg_entry_eq]
  subst eX
  exact go hml.symm s.heap [] _ (fun k q h => by simp [bws] at h) va_S.rf (zent_zl (av := [.ref b]) (n := 7) (Nat.le_of_ble_eq_true rfl))
set_option maxHeartbeats 4000000 in
theorem lw_walk (l : Launch) (hst : l.stackTraces = false) (b : Addr) (xs : List Int32) : MetFree l x (headSpec (Jvm.Cond.code x code maxLocals ret :: tables_1) room_1) (lw_P b xs) (fun _ _ _ _ _ => True) lw_Q := by
  refine MetFree.of_bodyS (code := code) (maxLocals := maxLocals) (ret := ret) (by decide) ?_ ?_
  · intro args s m h hn
    obtain ⟨meth, c, h1, h2, h3, h4, h5, h6, -, -⟩ := Cond.code_spec hn (atoms_spec (ws := Jvm.Cond.code x code maxLocals ret :: tables_1) h _ List.mem_cons_self)
    exact ⟨meth, c, h1, h2, h3, h4, h5, h6⟩
  · intro p e s m args below meth c s₁ B hml0 hP _
    obtain ⟨rfl, hx, hbd, hgv⟩ := hP
    obtain ⟨scr, harrAt, hlist, hof, hsmall⟩ := hx
    obtain ⟨hcb, hkn, -, -⟩ := State.arrayAt?_spec harrAt
    have hown : s.vm.findClass R_law = some m.cls := findClass_of_methodNamed B.named
    have hts0 : ∀ c ∈ (Jvm.Cond.code x code maxLocals ret :: tables_1), c.before #[Value.ref b] s = true := atoms_spec (ws := Jvm.Cond.code x code maxLocals ret :: tables_1) B.pre
    have hts : ∀ w ∈ lw_tbl, w.before #[Value.ref b] s = true := k2_hts_sels lw_privs (fun w hw => hts0 w (List.mem_cons_of_mem _ hw)) lw_privs_ok
    have hml : c.maxLocals = 7 := B.maxLocals_eq (hts0 _ List.mem_cons_self)
    have X₀ : Stand p l e room_1 s m #[Value.ref b] below meth c s₁ [] 0 0 := Stand.of_body B
    have hh0 : s₁.heap = s.heap := by rw [B.state]; rfl
    have hsz : scr.slots.size = xs.length := by rw [← Array.length_toList, hlist, List.length_map]
    have hval : ∀ j : Nat, j < xs.length → scr.slots[j]? = some (.int (xs.getD j 0)) := fun j hj => by
      rw [← Array.getElem?_toList, hlist]
      simp [hj]
    have hbl : b < s.heap.size := (Array.getElem?_eq_some_iff.mp hcb).1
    have hX : va_X b xs.length (fun j => xs.getD j 0) s s.heap := ⟨scr, hcb, hof, hkn, hsz, hval⟩
    have K : W p l e room_1 s m #[Value.ref b] below meth c s₁.heap [] 0 0 (lw_Z below #[Value.ref b] s) (entryFrame m ([Value.ref b] : List Value).toArray 7) := by
      rw [hh0]
      exact whole_start l hst hbd ⟨B.exec, B.bytes, B.returns, hml, hown, hts, hX, hbl, B.notSynchronized, hgv⟩
    obtain ⟨t, a1, o, b1, b2, b3⟩ := K s₁ rfl X₀
    exact ⟨t, o, a1, b1, b2, b3⟩
theorem lw_pre_spec {args : Array Value} {s : State} (h : (Jvm.Cond.and given_1 narrow_1).before args s = true) (hr : rest_1_c.before args s = true) : ∃ (b : Addr) (xs : List Int32), lw_P b xs args s := by
  have hs := flat_of_before _ h
  have hq := flat_of_before _ hr
  have hc : (Cond.count 1).before args s = true := hs _ (by decide +kernel)
  have harr : (Cond.arrayOf (.arg 0) .int).before args s = true := hs _ (by decide +kernel)
  have hle : (Cond.le (.length (.arg 0)) (.int 3584)).before args s = true := hs _ (by decide +kernel)
  have hlen : (Cond.isInt (.length (.arg 0))).before args s = true := hq _ (by decide +kernel)
  have hall : (Cond.all (.arg 0) (.isInt (.elem (.arg 0) (.index 0)))).before args s = true := hq _ (by decide +kernel)
  obtain ⟨b, xs, hb, hx⟩ := State.ints_of_pre rfl harr hlen hall
  have hsm : xs.length < 2 ^ 31 := hx.choose_spec.2.2.2
  have hev : (Term.length (.arg 0)).eval args s none [] s = some (.int xs.length.toInt32) := hx.length_eval hb
  have hv := Cond.le_ints hev (show (Term.int 3584).eval args s none [] s = some (.int 3584) from rfl)
  have hd : xs.length.toInt32 ≤ 3584 := by
    simpa [Cond.before, Cond.holds, hv] using hle
  have hN : xs.length ≤ 3584 := (Int32.ofNat_le_ofNat hsm (by decide)).mp (show Int32.ofNat xs.length ≤ Int32.ofNat 3584 from hd)
  exact ⟨b, xs, Cond.one_arg hc (show args[0]? = some (.ref b) from hb), hx, hN, h⟩
theorem lw_comes (l : Launch) (hst : l.stackTraces = false) : Comes l x (Jvm.Cond.code x code maxLocals ret :: tables_1) room_1 (fun tb e args s => Calls_1 tb e args s ∧ rest_1 tb e args s ∧ Pre_1 tb e args s)
    (fun _ _ args s o t => lw_Q args s o t) := by
  intro p e ha hc hk s m args below hf hfit hheap happ hpre
  obtain ⟨b, xs, hP⟩ := lw_pre_spec hpre.2.2 hpre.2.1
  obtain ⟨k, o, h1, h2, h3, hQ⟩ := lw_walk l hst b xs p e ha hc hk s m args below hf ((Spec.applies_iff_loose hf).mp happ).1 hP trivial
  exact ⟨k, o, h1, h2, h3, hQ⟩
theorem lw_frame {s t : State} {o : Outcome} {args : Array Value} (h : Framed s o t [] 601024 7293034) :
    Framed s o t (fieldLocs frame_1_writes args s ++ arrayLocs frame_1_arrays args s ++ staticLocs frame_1_statics s) 601024 7293034 := h
theorem lw_limb (L : Cond) (hL : ∀ (args : Array Value) (s t : State), L.after args s (.returned (some (.int 1))) t = true) :
    ArmFor flags0 classFile x code maxLocals ret World_1 tables_1 room_1 Calls_1 rest_1 Pre_1
      (fun tb e a s o t => postC L tb e a s o t ∧ Framed s o t (fieldLocs frame_1_writes a s ++ arrayLocs frame_1_arrays a s ++ staticLocs frame_1_statics s) 601024 7293034) := by
  intro l hfl _ _ p e ha hc hk s m args below hf hfit hheap happ hpre
  obtain ⟨k, o, h1, h2, h3, rfl, hF⟩ := lw_comes l (by rw [Launch.stackTraces, hfl]; decide +kernel) p e ha hc hk s m args below hf hfit hheap happ hpre
  exact ⟨k, _, h1, h2, h3, hL args s _, lw_frame hF⟩
theorem i_vc : Claimed_1_1 ∧ Claimed_1_2 := ⟨lw_limb limb_1_1 (fun args s t => by simp [limb_1_1, Cond.after, Cond.holds, Cond.value]), lw_limb limb_1_2 (fun args s t => Cond.after_iff.mpr (by
  first | (rw [show limb_1_2 = Cond.eq .result (.int 1) from rfl, Cond.eq_ints (x := 1) (y := 1) rfl rfl]; simp; done) | (simp [limb_1_2, Cond.value, Term.eval]; done)))⟩
