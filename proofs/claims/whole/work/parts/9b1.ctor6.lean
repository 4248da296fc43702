section K6
variable {l : Launch} {G : zG} {E : List va_E} {o : Nat}
def bkX : List (Nat × Nat) := (11, 0) :: (List.range 40).map (fun j => (35 + j, 0))
def fMk : List Nat := [0, 0, 2, 0, 0, 0, 0, 1, 0, 0, 3, 4, 5, 6, 7, 8, 9, 10, 11, 12, 13, 14, 15, 16, 17, 18, 19, 20, 21, 22, 23, 24, 0, 25, 26, 27, 28, 29, 30, 31, 32, 33, 34, 35, 36, 0, 37, 38, 39, 40, 0, 0, 0, 1, 41]
def fsM (G : zG) (j : Nat) : List Value := fMk.map (fun c => if c = 0 then .int 0 else if c = 1 then .long 0 else if c < j + 2 then .ref (G.ad (33 + c) 0) else .null)
def RM (G : zG) (j : Nat) : List va_E := (List.range j).map (fun i => zc G (35 + i, 0))
theorem RM_len (j : Nat) : (RM G j).length = j := by simp [RM]
theorem RM_up (j : Nat) : RM G j ++ [zc G (35 + j, 0)] = RM G (j + 1) := by simp [RM, List.range_succ]
theorem fsM_len (j : Nat) : (fsM G j).length = 55 := by simp [fsM, fMk]
theorem bkX_at {i : Nat} (hi : i < 40) : bkX[i + 1]? = some (35 + i, 0) := by simp [bkX, hi]
/-- what the steps of the reference's constructor know -/
def mOk (X : zX) (E : List va_E) : Prop := zOk X cX11_init RX11 1 1 ∧ bOk X (E.length + 1) ∧ X.meth.name = "<init>" ∧ X.R.cells = 40 ∧ X.R.slots = 10195 ∧ zSl X.G E.length bkX
end K6
theorem mx_0 {X : zX} {E : List va_E} (h : mOk X E) (kk : NW X 13 [some (.ref (X.G.ad 11 0))] [] (E ++ .inr (11, fsM X.G 1) :: RM X.G 1) 1 1000) : NW X 4 [some (.ref (X.G.ad 11 0))] [] (E ++ .inr (11, fsM X.G 0) :: RM X.G 0) 0 0 := by
  obtain ⟨hX, hb, hI, hRc, hRs, hq⟩ := h
  have ha : X.G.ad 11 0 = X.G.sz + E.length := hq 0 _ rfl
  have hn0 : E.length + 1 = E.length + 1 := rfl
  have hR := RM_len (G := X.G) 0
  refine nv_arr (E0 := E) (n := 1000) (N := 1000) (b := X.G.ad 35 0) (t := 0) (a0 := a0i 1000) hX hb hI hn0 hR rfl ha dX11_init_4 (fun k => bw_sipush hX dX11_init_5 zs_1000 k) ac_int rfl rfl (a0_int 1000) (by decide) (by decide) (by decide) dX11_init_8 (by have h : X.G.ad 35 0 = _ := hq _ _ (bkX_at (i := 0) (by decide)); omega) kF_X11_7 (by rw [fsM_len]; decide) dX11_init_10 (by omega) (by omega) (fun hR => ?_)
  refine bw_cong ?_ rfl rfl kk
  rw [← RM_up]
  rfl
theorem mx_1 {X : zX} {E : List va_E} (h : mOk X E) (kk : NW X 21 [some (.ref (X.G.ad 11 0))] [] (E ++ .inr (11, fsM X.G 2) :: RM X.G 2) 2 1006) : NW X 13 [some (.ref (X.G.ad 11 0))] [] (E ++ .inr (11, fsM X.G 1) :: RM X.G 1) 1 1000 := by
  obtain ⟨hX, hb, hI, hRc, hRs, hq⟩ := h
  have ha : X.G.ad 11 0 = X.G.sz + E.length := hq 0 _ rfl
  have hn0 : E.length + 1 = E.length + 1 := rfl
  have hR := RM_len (G := X.G) 1
  refine nv_arr (E0 := E) (n := 6) (N := 6) (b := X.G.ad 36 0) (t := 0) (a0 := a0i 6) hX hb hI hn0 hR rfl ha dX11_init_13 (fun k => bw_bipush hX dX11_init_14 zb_6 k) ac_int rfl rfl (a0_int 6) (by decide) (by decide) (by decide) dX11_init_16 (by have h : X.G.ad 36 0 = _ := hq _ _ (bkX_at (i := 1) (by decide)); omega) kF_X11_13 (by rw [fsM_len]; decide) dX11_init_18 (by omega) (by omega) (fun hR => ?_)
  refine bw_cong ?_ rfl rfl kk
  rw [← RM_up]
  rfl
theorem mx_2 {X : zX} {E : List va_E} (h : mOk X E) (kk : NW X 29 [some (.ref (X.G.ad 11 0))] [] (E ++ .inr (11, fsM X.G 3) :: RM X.G 3) 3 1012) : NW X 21 [some (.ref (X.G.ad 11 0))] [] (E ++ .inr (11, fsM X.G 2) :: RM X.G 2) 2 1006 := by
  obtain ⟨hX, hb, hI, hRc, hRs, hq⟩ := h
  have ha : X.G.ad 11 0 = X.G.sz + E.length := hq 0 _ rfl
  have hn0 : E.length + 1 = E.length + 1 := rfl
  have hR := RM_len (G := X.G) 2
  refine nv_arr (E0 := E) (n := 6) (N := 6) (b := X.G.ad 37 0) (t := 0) (a0 := a0i 6) hX hb hI hn0 hR rfl ha dX11_init_21 (fun k => bw_bipush hX dX11_init_22 zb_6 k) ac_int rfl rfl (a0_int 6) (by decide) (by decide) (by decide) dX11_init_24 (by have h : X.G.ad 37 0 = _ := hq _ _ (bkX_at (i := 2) (by decide)); omega) kF_X11_16 (by rw [fsM_len]; decide) dX11_init_26 (by omega) (by omega) (fun hR => ?_)
  refine bw_cong ?_ rfl rfl kk
  rw [← RM_up]
  rfl
theorem mx_3 {X : zX} {E : List va_E} (h : mOk X E) (kk : NW X 37 [some (.ref (X.G.ad 11 0))] [] (E ++ .inr (11, fsM X.G 4) :: RM X.G 4) 4 1018) : NW X 29 [some (.ref (X.G.ad 11 0))] [] (E ++ .inr (11, fsM X.G 3) :: RM X.G 3) 3 1012 := by
  obtain ⟨hX, hb, hI, hRc, hRs, hq⟩ := h
  have ha : X.G.ad 11 0 = X.G.sz + E.length := hq 0 _ rfl
  have hn0 : E.length + 1 = E.length + 1 := rfl
  have hR := RM_len (G := X.G) 3
  refine nv_arr (E0 := E) (n := 6) (N := 6) (b := X.G.ad 38 0) (t := 0) (a0 := a0i 6) hX hb hI hn0 hR rfl ha dX11_init_29 (fun k => bw_bipush hX dX11_init_30 zb_6 k) ac_int rfl rfl (a0_int 6) (by decide) (by decide) (by decide) dX11_init_32 (by have h : X.G.ad 38 0 = _ := hq _ _ (bkX_at (i := 3) (by decide)); omega) kF_X11_19 (by rw [fsM_len]; decide) dX11_init_34 (by omega) (by omega) (fun hR => ?_)
  refine bw_cong ?_ rfl rfl kk
  rw [← RM_up]
  rfl
theorem mx_4 {X : zX} {E : List va_E} (h : mOk X E) (kk : NW X 45 [some (.ref (X.G.ad 11 0))] [] (E ++ .inr (11, fsM X.G 5) :: RM X.G 5) 5 1024) : NW X 37 [some (.ref (X.G.ad 11 0))] [] (E ++ .inr (11, fsM X.G 4) :: RM X.G 4) 4 1018 := by
  obtain ⟨hX, hb, hI, hRc, hRs, hq⟩ := h
  have ha : X.G.ad 11 0 = X.G.sz + E.length := hq 0 _ rfl
  have hn0 : E.length + 1 = E.length + 1 := rfl
  have hR := RM_len (G := X.G) 4
  refine nv_arr (E0 := E) (n := 6) (N := 6) (b := X.G.ad 39 0) (t := 0) (a0 := a0i 6) hX hb hI hn0 hR rfl ha dX11_init_37 (fun k => bw_bipush hX dX11_init_38 zb_6 k) ac_int rfl rfl (a0_int 6) (by decide) (by decide) (by decide) dX11_init_40 (by have h : X.G.ad 39 0 = _ := hq _ _ (bkX_at (i := 4) (by decide)); omega) kF_X11_22 (by rw [fsM_len]; decide) dX11_init_42 (by omega) (by omega) (fun hR => ?_)
  refine bw_cong ?_ rfl rfl kk
  rw [← RM_up]
  rfl
theorem mx_5 {X : zX} {E : List va_E} (h : mOk X E) (kk : NW X 52 [some (.ref (X.G.ad 11 0))] [] (E ++ .inr (11, fsM X.G 6) :: RM X.G 6) 6 1028) : NW X 45 [some (.ref (X.G.ad 11 0))] [] (E ++ .inr (11, fsM X.G 5) :: RM X.G 5) 5 1024 := by
  obtain ⟨hX, hb, hI, hRc, hRs, hq⟩ := h
  have ha : X.G.ad 11 0 = X.G.sz + E.length := hq 0 _ rfl
  have hn0 : E.length + 1 = E.length + 1 := rfl
  have hR := RM_len (G := X.G) 5
  refine nv_arr (E0 := E) (n := 4) (N := 4) (b := X.G.ad 40 0) (t := 1) (a0 := a0l 4) hX hb hI hn0 hR rfl ha dX11_init_45 (fun k => bw_iconst hX dX11_init_46 zk_4 k) ac_long rfl rfl (a0_long 4) (by decide) (by decide) (by decide) dX11_init_47 (by have h : X.G.ad 40 0 = _ := hq _ _ (bkX_at (i := 5) (by decide)); omega) kF_X11_25 (by rw [fsM_len]; decide) dX11_init_49 (by omega) (by omega) (fun hR => ?_)
  refine bw_cong ?_ rfl rfl kk
  rw [← RM_up]
  rfl
theorem mx_6 {X : zX} {E : List va_E} (h : mOk X E) (kk : NW X 60 [some (.ref (X.G.ad 11 0))] [] (E ++ .inr (11, fsM X.G 7) :: RM X.G 7) 7 1034) : NW X 52 [some (.ref (X.G.ad 11 0))] [] (E ++ .inr (11, fsM X.G 6) :: RM X.G 6) 6 1028 := by
  obtain ⟨hX, hb, hI, hRc, hRs, hq⟩ := h
  have ha : X.G.ad 11 0 = X.G.sz + E.length := hq 0 _ rfl
  have hn0 : E.length + 1 = E.length + 1 := rfl
  have hR := RM_len (G := X.G) 6
  refine nv_arr (E0 := E) (n := 6) (N := 6) (b := X.G.ad 41 0) (t := 1) (a0 := a0l 6) hX hb hI hn0 hR rfl ha dX11_init_52 (fun k => bw_bipush hX dX11_init_53 zb_6 k) ac_long rfl rfl (a0_long 6) (by decide) (by decide) (by decide) dX11_init_55 (by have h : X.G.ad 41 0 = _ := hq _ _ (bkX_at (i := 6) (by decide)); omega) kF_X11_29 (by rw [fsM_len]; decide) dX11_init_57 (by omega) (by omega) (fun hR => ?_)
  refine bw_cong ?_ rfl rfl kk
  rw [← RM_up]
  rfl
theorem mx_7 {X : zX} {E : List va_E} (h : mOk X E) (kk : NW X 68 [some (.ref (X.G.ad 11 0))] [] (E ++ .inr (11, fsM X.G 8) :: RM X.G 8) 8 1058) : NW X 60 [some (.ref (X.G.ad 11 0))] [] (E ++ .inr (11, fsM X.G 7) :: RM X.G 7) 7 1034 := by
  obtain ⟨hX, hb, hI, hRc, hRs, hq⟩ := h
  have ha : X.G.ad 11 0 = X.G.sz + E.length := hq 0 _ rfl
  have hn0 : E.length + 1 = E.length + 1 := rfl
  have hR := RM_len (G := X.G) 7
  refine nv_arr (E0 := E) (n := 24) (N := 24) (b := X.G.ad 42 0) (t := 0) (a0 := a0i 24) hX hb hI hn0 hR rfl ha dX11_init_60 (fun k => bw_bipush hX dX11_init_61 zb_24 k) ac_int rfl rfl (a0_int 24) (by decide) (by decide) (by decide) dX11_init_63 (by have h : X.G.ad 42 0 = _ := hq _ _ (bkX_at (i := 7) (by decide)); omega) kF_X11_32 (by rw [fsM_len]; decide) dX11_init_65 (by omega) (by omega) (fun hR => ?_)
  refine bw_cong ?_ rfl rfl kk
  rw [← RM_up]
  rfl
theorem mx_8 {X : zX} {E : List va_E} (h : mOk X E) (kk : NW X 76 [some (.ref (X.G.ad 11 0))] [] (E ++ .inr (11, fsM X.G 9) :: RM X.G 9) 9 1082) : NW X 68 [some (.ref (X.G.ad 11 0))] [] (E ++ .inr (11, fsM X.G 8) :: RM X.G 8) 8 1058 := by
  obtain ⟨hX, hb, hI, hRc, hRs, hq⟩ := h
  have ha : X.G.ad 11 0 = X.G.sz + E.length := hq 0 _ rfl
  have hn0 : E.length + 1 = E.length + 1 := rfl
  have hR := RM_len (G := X.G) 8
  refine nv_arr (E0 := E) (n := 24) (N := 24) (b := X.G.ad 43 0) (t := 0) (a0 := a0i 24) hX hb hI hn0 hR rfl ha dX11_init_68 (fun k => bw_bipush hX dX11_init_69 zb_24 k) ac_int rfl rfl (a0_int 24) (by decide) (by decide) (by decide) dX11_init_71 (by have h : X.G.ad 43 0 = _ := hq _ _ (bkX_at (i := 8) (by decide)); omega) kF_X11_35 (by rw [fsM_len]; decide) dX11_init_73 (by omega) (by omega) (fun hR => ?_)
  refine bw_cong ?_ rfl rfl kk
  rw [← RM_up]
  rfl
theorem mx_9 {X : zX} {E : List va_E} (h : mOk X E) (kk : NW X 84 [some (.ref (X.G.ad 11 0))] [] (E ++ .inr (11, fsM X.G 10) :: RM X.G 10) 10 1118) : NW X 76 [some (.ref (X.G.ad 11 0))] [] (E ++ .inr (11, fsM X.G 9) :: RM X.G 9) 9 1082 := by
  obtain ⟨hX, hb, hI, hRc, hRs, hq⟩ := h
  have ha : X.G.ad 11 0 = X.G.sz + E.length := hq 0 _ rfl
  have hn0 : E.length + 1 = E.length + 1 := rfl
  have hR := RM_len (G := X.G) 9
  refine nv_arr (E0 := E) (n := 36) (N := 36) (b := X.G.ad 44 0) (t := 0) (a0 := a0i 36) hX hb hI hn0 hR rfl ha dX11_init_76 (fun k => bw_bipush hX dX11_init_77 zb_36 k) ac_int rfl rfl (a0_int 36) (by decide) (by decide) (by decide) dX11_init_79 (by have h : X.G.ad 44 0 = _ := hq _ _ (bkX_at (i := 9) (by decide)); omega) kF_X11_38 (by rw [fsM_len]; decide) dX11_init_81 (by omega) (by omega) (fun hR => ?_)
  refine bw_cong ?_ rfl rfl kk
  rw [← RM_up]
  rfl
theorem mx_10 {X : zX} {E : List va_E} (h : mOk X E) (kk : NW X 92 [some (.ref (X.G.ad 11 0))] [] (E ++ .inr (11, fsM X.G 11) :: RM X.G 11) 11 1178) : NW X 84 [some (.ref (X.G.ad 11 0))] [] (E ++ .inr (11, fsM X.G 10) :: RM X.G 10) 10 1118 := by
  obtain ⟨hX, hb, hI, hRc, hRs, hq⟩ := h
  have ha : X.G.ad 11 0 = X.G.sz + E.length := hq 0 _ rfl
  have hn0 : E.length + 1 = E.length + 1 := rfl
  have hR := RM_len (G := X.G) 10
  refine nv_arr (E0 := E) (n := 60) (N := 60) (b := X.G.ad 45 0) (t := 0) (a0 := a0i 60) hX hb hI hn0 hR rfl ha dX11_init_84 (fun k => bw_bipush hX dX11_init_85 zb_60 k) ac_int rfl rfl (a0_int 60) (by decide) (by decide) (by decide) dX11_init_87 (by have h : X.G.ad 45 0 = _ := hq _ _ (bkX_at (i := 10) (by decide)); omega) kF_X11_41 (by rw [fsM_len]; decide) dX11_init_89 (by omega) (by omega) (fun hR => ?_)
  refine bw_cong ?_ rfl rfl kk
  rw [← RM_up]
  rfl
theorem mx_11 {X : zX} {E : List va_E} (h : mOk X E) (kk : NW X 100 [some (.ref (X.G.ad 11 0))] [] (E ++ .inr (11, fsM X.G 12) :: RM X.G 12) 12 1238) : NW X 92 [some (.ref (X.G.ad 11 0))] [] (E ++ .inr (11, fsM X.G 11) :: RM X.G 11) 11 1178 := by
  obtain ⟨hX, hb, hI, hRc, hRs, hq⟩ := h
  have ha : X.G.ad 11 0 = X.G.sz + E.length := hq 0 _ rfl
  have hn0 : E.length + 1 = E.length + 1 := rfl
  have hR := RM_len (G := X.G) 11
  refine nv_arr (E0 := E) (n := 60) (N := 60) (b := X.G.ad 46 0) (t := 0) (a0 := a0i 60) hX hb hI hn0 hR rfl ha dX11_init_92 (fun k => bw_bipush hX dX11_init_93 zb_60 k) ac_int rfl rfl (a0_int 60) (by decide) (by decide) (by decide) dX11_init_95 (by have h : X.G.ad 46 0 = _ := hq _ _ (bkX_at (i := 11) (by decide)); omega) kF_X11_44 (by rw [fsM_len]; decide) dX11_init_97 (by omega) (by omega) (fun hR => ?_)
  refine bw_cong ?_ rfl rfl kk
  rw [← RM_up]
  rfl
theorem mx_12 {X : zX} {E : List va_E} (h : mOk X E) (kk : NW X 108 [some (.ref (X.G.ad 11 0))] [] (E ++ .inr (11, fsM X.G 13) :: RM X.G 13) 13 1298) : NW X 100 [some (.ref (X.G.ad 11 0))] [] (E ++ .inr (11, fsM X.G 12) :: RM X.G 12) 12 1238 := by
  obtain ⟨hX, hb, hI, hRc, hRs, hq⟩ := h
  have ha : X.G.ad 11 0 = X.G.sz + E.length := hq 0 _ rfl
  have hn0 : E.length + 1 = E.length + 1 := rfl
  have hR := RM_len (G := X.G) 12
  refine nv_arr (E0 := E) (n := 60) (N := 60) (b := X.G.ad 47 0) (t := 0) (a0 := a0i 60) hX hb hI hn0 hR rfl ha dX11_init_100 (fun k => bw_bipush hX dX11_init_101 zb_60 k) ac_int rfl rfl (a0_int 60) (by decide) (by decide) (by decide) dX11_init_103 (by have h : X.G.ad 47 0 = _ := hq _ _ (bkX_at (i := 12) (by decide)); omega) kF_X11_47 (by rw [fsM_len]; decide) dX11_init_105 (by omega) (by omega) (fun hR => ?_)
  refine bw_cong ?_ rfl rfl kk
  rw [← RM_up]
  rfl
theorem mx_13 {X : zX} {E : List va_E} (h : mOk X E) (kk : NW X 116 [some (.ref (X.G.ad 11 0))] [] (E ++ .inr (11, fsM X.G 14) :: RM X.G 14) 14 1358) : NW X 108 [some (.ref (X.G.ad 11 0))] [] (E ++ .inr (11, fsM X.G 13) :: RM X.G 13) 13 1298 := by
  obtain ⟨hX, hb, hI, hRc, hRs, hq⟩ := h
  have ha : X.G.ad 11 0 = X.G.sz + E.length := hq 0 _ rfl
  have hn0 : E.length + 1 = E.length + 1 := rfl
  have hR := RM_len (G := X.G) 13
  refine nv_arr (E0 := E) (n := 60) (N := 60) (b := X.G.ad 48 0) (t := 0) (a0 := a0i 60) hX hb hI hn0 hR rfl ha dX11_init_108 (fun k => bw_bipush hX dX11_init_109 zb_60 k) ac_int rfl rfl (a0_int 60) (by decide) (by decide) (by decide) dX11_init_111 (by have h : X.G.ad 48 0 = _ := hq _ _ (bkX_at (i := 13) (by decide)); omega) kF_X11_50 (by rw [fsM_len]; decide) dX11_init_113 (by omega) (by omega) (fun hR => ?_)
  refine bw_cong ?_ rfl rfl kk
  rw [← RM_up]
  rfl
theorem mx_14 {X : zX} {E : List va_E} (h : mOk X E) (kk : NW X 124 [some (.ref (X.G.ad 11 0))] [] (E ++ .inr (11, fsM X.G 15) :: RM X.G 15) 15 1418) : NW X 116 [some (.ref (X.G.ad 11 0))] [] (E ++ .inr (11, fsM X.G 14) :: RM X.G 14) 14 1358 := by
  obtain ⟨hX, hb, hI, hRc, hRs, hq⟩ := h
  have ha : X.G.ad 11 0 = X.G.sz + E.length := hq 0 _ rfl
  have hn0 : E.length + 1 = E.length + 1 := rfl
  have hR := RM_len (G := X.G) 14
  refine nv_arr (E0 := E) (n := 60) (N := 60) (b := X.G.ad 49 0) (t := 0) (a0 := a0i 60) hX hb hI hn0 hR rfl ha dX11_init_116 (fun k => bw_bipush hX dX11_init_117 zb_60 k) ac_int rfl rfl (a0_int 60) (by decide) (by decide) (by decide) dX11_init_119 (by have h : X.G.ad 49 0 = _ := hq _ _ (bkX_at (i := 14) (by decide)); omega) kF_X11_53 (by rw [fsM_len]; decide) dX11_init_121 (by omega) (by omega) (fun hR => ?_)
  refine bw_cong ?_ rfl rfl kk
  rw [← RM_up]
  rfl
theorem mx_15 {X : zX} {E : List va_E} (h : mOk X E) (kk : NW X 132 [some (.ref (X.G.ad 11 0))] [] (E ++ .inr (11, fsM X.G 16) :: RM X.G 16) 16 1478) : NW X 124 [some (.ref (X.G.ad 11 0))] [] (E ++ .inr (11, fsM X.G 15) :: RM X.G 15) 15 1418 := by
  obtain ⟨hX, hb, hI, hRc, hRs, hq⟩ := h
  have ha : X.G.ad 11 0 = X.G.sz + E.length := hq 0 _ rfl
  have hn0 : E.length + 1 = E.length + 1 := rfl
  have hR := RM_len (G := X.G) 15
  refine nv_arr (E0 := E) (n := 60) (N := 60) (b := X.G.ad 50 0) (t := 0) (a0 := a0i 60) hX hb hI hn0 hR rfl ha dX11_init_124 (fun k => bw_bipush hX dX11_init_125 zb_60 k) ac_int rfl rfl (a0_int 60) (by decide) (by decide) (by decide) dX11_init_127 (by have h : X.G.ad 50 0 = _ := hq _ _ (bkX_at (i := 15) (by decide)); omega) kF_X11_56 (by rw [fsM_len]; decide) dX11_init_129 (by omega) (by omega) (fun hR => ?_)
  refine bw_cong ?_ rfl rfl kk
  rw [← RM_up]
  rfl
theorem mx_16 {X : zX} {E : List va_E} (h : mOk X E) (kk : NW X 140 [some (.ref (X.G.ad 11 0))] [] (E ++ .inr (11, fsM X.G 17) :: RM X.G 17) 17 1538) : NW X 132 [some (.ref (X.G.ad 11 0))] [] (E ++ .inr (11, fsM X.G 16) :: RM X.G 16) 16 1478 := by
  obtain ⟨hX, hb, hI, hRc, hRs, hq⟩ := h
  have ha : X.G.ad 11 0 = X.G.sz + E.length := hq 0 _ rfl
  have hn0 : E.length + 1 = E.length + 1 := rfl
  have hR := RM_len (G := X.G) 16
  refine nv_arr (E0 := E) (n := 60) (N := 60) (b := X.G.ad 51 0) (t := 0) (a0 := a0i 60) hX hb hI hn0 hR rfl ha dX11_init_132 (fun k => bw_bipush hX dX11_init_133 zb_60 k) ac_int rfl rfl (a0_int 60) (by decide) (by decide) (by decide) dX11_init_135 (by have h : X.G.ad 51 0 = _ := hq _ _ (bkX_at (i := 16) (by decide)); omega) kF_X11_59 (by rw [fsM_len]; decide) dX11_init_137 (by omega) (by omega) (fun hR => ?_)
  refine bw_cong ?_ rfl rfl kk
  rw [← RM_up]
  rfl
theorem mx_17 {X : zX} {E : List va_E} (h : mOk X E) (kk : NW X 148 [some (.ref (X.G.ad 11 0))] [] (E ++ .inr (11, fsM X.G 18) :: RM X.G 18) 18 1598) : NW X 140 [some (.ref (X.G.ad 11 0))] [] (E ++ .inr (11, fsM X.G 17) :: RM X.G 17) 17 1538 := by
  obtain ⟨hX, hb, hI, hRc, hRs, hq⟩ := h
  have ha : X.G.ad 11 0 = X.G.sz + E.length := hq 0 _ rfl
  have hn0 : E.length + 1 = E.length + 1 := rfl
  have hR := RM_len (G := X.G) 17
  refine nv_arr (E0 := E) (n := 60) (N := 60) (b := X.G.ad 52 0) (t := 0) (a0 := a0i 60) hX hb hI hn0 hR rfl ha dX11_init_140 (fun k => bw_bipush hX dX11_init_141 zb_60 k) ac_int rfl rfl (a0_int 60) (by decide) (by decide) (by decide) dX11_init_143 (by have h : X.G.ad 52 0 = _ := hq _ _ (bkX_at (i := 17) (by decide)); omega) kF_X11_62 (by rw [fsM_len]; decide) dX11_init_145 (by omega) (by omega) (fun hR => ?_)
  refine bw_cong ?_ rfl rfl kk
  rw [← RM_up]
  rfl
theorem mx_18 {X : zX} {E : List va_E} (h : mOk X E) (kk : NW X 156 [some (.ref (X.G.ad 11 0))] [] (E ++ .inr (11, fsM X.G 19) :: RM X.G 19) 19 1646) : NW X 148 [some (.ref (X.G.ad 11 0))] [] (E ++ .inr (11, fsM X.G 18) :: RM X.G 18) 18 1598 := by
  obtain ⟨hX, hb, hI, hRc, hRs, hq⟩ := h
  have ha : X.G.ad 11 0 = X.G.sz + E.length := hq 0 _ rfl
  have hn0 : E.length + 1 = E.length + 1 := rfl
  have hR := RM_len (G := X.G) 18
  refine nv_arr (E0 := E) (n := 48) (N := 48) (b := X.G.ad 53 0) (t := 0) (a0 := a0i 48) hX hb hI hn0 hR rfl ha dX11_init_148 (fun k => bw_bipush hX dX11_init_149 zb_48 k) ac_int rfl rfl (a0_int 48) (by decide) (by decide) (by decide) dX11_init_151 (by have h : X.G.ad 53 0 = _ := hq _ _ (bkX_at (i := 18) (by decide)); omega) kF_X11_65 (by rw [fsM_len]; decide) dX11_init_153 (by omega) (by omega) (fun hR => ?_)
  refine bw_cong ?_ rfl rfl kk
  rw [← RM_up]
  rfl
theorem mx_19 {X : zX} {E : List va_E} (h : mOk X E) (kk : NW X 164 [some (.ref (X.G.ad 11 0))] [] (E ++ .inr (11, fsM X.G 20) :: RM X.G 20) 20 1694) : NW X 156 [some (.ref (X.G.ad 11 0))] [] (E ++ .inr (11, fsM X.G 19) :: RM X.G 19) 19 1646 := by
  obtain ⟨hX, hb, hI, hRc, hRs, hq⟩ := h
  have ha : X.G.ad 11 0 = X.G.sz + E.length := hq 0 _ rfl
  have hn0 : E.length + 1 = E.length + 1 := rfl
  have hR := RM_len (G := X.G) 19
  refine nv_arr (E0 := E) (n := 48) (N := 48) (b := X.G.ad 54 0) (t := 0) (a0 := a0i 48) hX hb hI hn0 hR rfl ha dX11_init_156 (fun k => bw_bipush hX dX11_init_157 zb_48 k) ac_int rfl rfl (a0_int 48) (by decide) (by decide) (by decide) dX11_init_159 (by have h : X.G.ad 54 0 = _ := hq _ _ (bkX_at (i := 19) (by decide)); omega) kF_X11_68 (by rw [fsM_len]; decide) dX11_init_161 (by omega) (by omega) (fun hR => ?_)
  refine bw_cong ?_ rfl rfl kk
  rw [← RM_up]
  rfl
theorem mx_20 {X : zX} {E : List va_E} (h : mOk X E) (kk : NW X 172 [some (.ref (X.G.ad 11 0))] [] (E ++ .inr (11, fsM X.G 21) :: RM X.G 21) 21 1742) : NW X 164 [some (.ref (X.G.ad 11 0))] [] (E ++ .inr (11, fsM X.G 20) :: RM X.G 20) 20 1694 := by
  obtain ⟨hX, hb, hI, hRc, hRs, hq⟩ := h
  have ha : X.G.ad 11 0 = X.G.sz + E.length := hq 0 _ rfl
  have hn0 : E.length + 1 = E.length + 1 := rfl
  have hR := RM_len (G := X.G) 20
  refine nv_arr (E0 := E) (n := 48) (N := 48) (b := X.G.ad 55 0) (t := 0) (a0 := a0i 48) hX hb hI hn0 hR rfl ha dX11_init_164 (fun k => bw_bipush hX dX11_init_165 zb_48 k) ac_int rfl rfl (a0_int 48) (by decide) (by decide) (by decide) dX11_init_167 (by have h : X.G.ad 55 0 = _ := hq _ _ (bkX_at (i := 20) (by decide)); omega) kF_X11_71 (by rw [fsM_len]; decide) dX11_init_169 (by omega) (by omega) (fun hR => ?_)
  refine bw_cong ?_ rfl rfl kk
  rw [← RM_up]
  rfl
theorem mx_21 {X : zX} {E : List va_E} (h : mOk X E) (kk : NW X 180 [some (.ref (X.G.ad 11 0))] [] (E ++ .inr (11, fsM X.G 22) :: RM X.G 22) 22 1790) : NW X 172 [some (.ref (X.G.ad 11 0))] [] (E ++ .inr (11, fsM X.G 21) :: RM X.G 21) 21 1742 := by
  obtain ⟨hX, hb, hI, hRc, hRs, hq⟩ := h
  have ha : X.G.ad 11 0 = X.G.sz + E.length := hq 0 _ rfl
  have hn0 : E.length + 1 = E.length + 1 := rfl
  have hR := RM_len (G := X.G) 21
  refine nv_arr (E0 := E) (n := 48) (N := 48) (b := X.G.ad 56 0) (t := 0) (a0 := a0i 48) hX hb hI hn0 hR rfl ha dX11_init_172 (fun k => bw_bipush hX dX11_init_173 zb_48 k) ac_int rfl rfl (a0_int 48) (by decide) (by decide) (by decide) dX11_init_175 (by have h : X.G.ad 56 0 = _ := hq _ _ (bkX_at (i := 21) (by decide)); omega) kF_X11_74 (by rw [fsM_len]; decide) dX11_init_177 (by omega) (by omega) (fun hR => ?_)
  refine bw_cong ?_ rfl rfl kk
  rw [← RM_up]
  rfl
theorem mx_22 {X : zX} {E : List va_E} (h : mOk X E) (kk : NW X 189 [some (.ref (X.G.ad 11 0))] [] (E ++ .inr (11, fsM X.G 23) :: RM X.G 23) 23 7790) : NW X 180 [some (.ref (X.G.ad 11 0))] [] (E ++ .inr (11, fsM X.G 22) :: RM X.G 22) 22 1790 := by
  obtain ⟨hX, hb, hI, hRc, hRs, hq⟩ := h
  have ha : X.G.ad 11 0 = X.G.sz + E.length := hq 0 _ rfl
  have hn0 : E.length + 1 = E.length + 1 := rfl
  have hR := RM_len (G := X.G) 22
  refine nv_arr (E0 := E) (n := 6000) (N := 6000) (b := X.G.ad 57 0) (t := 0) (a0 := a0i 6000) hX hb hI hn0 hR rfl ha dX11_init_180 (fun k => bw_sipush hX dX11_init_181 zs_6000 k) ac_int rfl rfl (a0_int 6000) (by decide) (by decide) (by decide) dX11_init_184 (by have h : X.G.ad 57 0 = _ := hq _ _ (bkX_at (i := 22) (by decide)); omega) kF_X11_77 (by rw [fsM_len]; decide) dX11_init_186 (by omega) (by omega) (fun hR => ?_)
  refine bw_cong ?_ rfl rfl kk
  rw [← RM_up]
  rfl
theorem mx_23 {X : zX} {E : List va_E} (h : mOk X E) (kk : NW X 197 [some (.ref (X.G.ad 11 0))] [] (E ++ .inr (11, fsM X.G 24) :: RM X.G 24) 24 7797) : NW X 189 [some (.ref (X.G.ad 11 0))] [] (E ++ .inr (11, fsM X.G 23) :: RM X.G 23) 23 7790 := by
  obtain ⟨hX, hb, hI, hRc, hRs, hq⟩ := h
  have ha : X.G.ad 11 0 = X.G.sz + E.length := hq 0 _ rfl
  have hn0 : E.length + 1 = E.length + 1 := rfl
  have hR := RM_len (G := X.G) 23
  refine nv_arr (E0 := E) (n := 7) (N := 7) (b := X.G.ad 58 0) (t := 0) (a0 := a0i 7) hX hb hI hn0 hR rfl ha dX11_init_189 (fun k => bw_bipush hX dX11_init_190 zb_7 k) ac_int rfl rfl (a0_int 7) (by decide) (by decide) (by decide) dX11_init_192 (by have h : X.G.ad 58 0 = _ := hq _ _ (bkX_at (i := 23) (by decide)); omega) kF_X11_80 (by rw [fsM_len]; decide) dX11_init_194 (by omega) (by omega) (fun hR => ?_)
  refine bw_cong ?_ rfl rfl kk
  rw [← RM_up]
  rfl
theorem mx_24 {X : zX} {E : List va_E} (h : mOk X E) (kk : NW X 205 [some (.ref (X.G.ad 11 0))] [] (E ++ .inr (11, fsM X.G 25) :: RM X.G 25) 25 7804) : NW X 197 [some (.ref (X.G.ad 11 0))] [] (E ++ .inr (11, fsM X.G 24) :: RM X.G 24) 24 7797 := by
  obtain ⟨hX, hb, hI, hRc, hRs, hq⟩ := h
  have ha : X.G.ad 11 0 = X.G.sz + E.length := hq 0 _ rfl
  have hn0 : E.length + 1 = E.length + 1 := rfl
  have hR := RM_len (G := X.G) 24
  refine nv_arr (E0 := E) (n := 7) (N := 7) (b := X.G.ad 59 0) (t := 3) (a0 := a0i 7) hX hb hI hn0 hR rfl ha dX11_init_197 (fun k => bw_bipush hX dX11_init_198 zb_7 k) ac_boolean rfl rfl (a0_boolean 7) (by decide) (by decide) (by decide) dX11_init_200 (by have h : X.G.ad 59 0 = _ := hq _ _ (bkX_at (i := 24) (by decide)); omega) kF_X11_83 (by rw [fsM_len]; decide) dX11_init_202 (by omega) (by omega) (fun hR => ?_)
  refine bw_cong ?_ rfl rfl kk
  rw [← RM_up]
  rfl
theorem mx_25 {X : zX} {E : List va_E} (h : mOk X E) (kk : NW X 213 [some (.ref (X.G.ad 11 0))] [] (E ++ .inr (11, fsM X.G 26) :: RM X.G 26) 26 7811) : NW X 205 [some (.ref (X.G.ad 11 0))] [] (E ++ .inr (11, fsM X.G 25) :: RM X.G 25) 25 7804 := by
  obtain ⟨hX, hb, hI, hRc, hRs, hq⟩ := h
  have ha : X.G.ad 11 0 = X.G.sz + E.length := hq 0 _ rfl
  have hn0 : E.length + 1 = E.length + 1 := rfl
  have hR := RM_len (G := X.G) 25
  refine nv_arr (E0 := E) (n := 7) (N := 7) (b := X.G.ad 60 0) (t := 0) (a0 := a0i 7) hX hb hI hn0 hR rfl ha dX11_init_205 (fun k => bw_bipush hX dX11_init_206 zb_7 k) ac_int rfl rfl (a0_int 7) (by decide) (by decide) (by decide) dX11_init_208 (by have h : X.G.ad 60 0 = _ := hq _ _ (bkX_at (i := 25) (by decide)); omega) kF_X11_87 (by rw [fsM_len]; decide) dX11_init_210 (by omega) (by omega) (fun hR => ?_)
  refine bw_cong ?_ rfl rfl kk
  rw [← RM_up]
  rfl
theorem mx_26 {X : zX} {E : List va_E} (h : mOk X E) (kk : NW X 221 [some (.ref (X.G.ad 11 0))] [] (E ++ .inr (11, fsM X.G 27) :: RM X.G 27) 27 7818) : NW X 213 [some (.ref (X.G.ad 11 0))] [] (E ++ .inr (11, fsM X.G 26) :: RM X.G 26) 26 7811 := by
  obtain ⟨hX, hb, hI, hRc, hRs, hq⟩ := h
  have ha : X.G.ad 11 0 = X.G.sz + E.length := hq 0 _ rfl
  have hn0 : E.length + 1 = E.length + 1 := rfl
  have hR := RM_len (G := X.G) 26
  refine nv_arr (E0 := E) (n := 7) (N := 7) (b := X.G.ad 61 0) (t := 0) (a0 := a0i 7) hX hb hI hn0 hR rfl ha dX11_init_213 (fun k => bw_bipush hX dX11_init_214 zb_7 k) ac_int rfl rfl (a0_int 7) (by decide) (by decide) (by decide) dX11_init_216 (by have h : X.G.ad 61 0 = _ := hq _ _ (bkX_at (i := 26) (by decide)); omega) kF_X11_90 (by rw [fsM_len]; decide) dX11_init_218 (by omega) (by omega) (fun hR => ?_)
  refine bw_cong ?_ rfl rfl kk
  rw [← RM_up]
  rfl
theorem mx_27 {X : zX} {E : List va_E} (h : mOk X E) (kk : NW X 229 [some (.ref (X.G.ad 11 0))] [] (E ++ .inr (11, fsM X.G 28) :: RM X.G 28) 28 7825) : NW X 221 [some (.ref (X.G.ad 11 0))] [] (E ++ .inr (11, fsM X.G 27) :: RM X.G 27) 27 7818 := by
  obtain ⟨hX, hb, hI, hRc, hRs, hq⟩ := h
  have ha : X.G.ad 11 0 = X.G.sz + E.length := hq 0 _ rfl
  have hn0 : E.length + 1 = E.length + 1 := rfl
  have hR := RM_len (G := X.G) 27
  refine nv_arr (E0 := E) (n := 7) (N := 7) (b := X.G.ad 62 0) (t := 0) (a0 := a0i 7) hX hb hI hn0 hR rfl ha dX11_init_221 (fun k => bw_bipush hX dX11_init_222 zb_7 k) ac_int rfl rfl (a0_int 7) (by decide) (by decide) (by decide) dX11_init_224 (by have h : X.G.ad 62 0 = _ := hq _ _ (bkX_at (i := 27) (by decide)); omega) kF_X11_93 (by rw [fsM_len]; decide) dX11_init_226 (by omega) (by omega) (fun hR => ?_)
  refine bw_cong ?_ rfl rfl kk
  rw [← RM_up]
  rfl
theorem mx_28 {X : zX} {E : List va_E} (h : mOk X E) (kk : NW X 237 [some (.ref (X.G.ad 11 0))] [] (E ++ .inr (11, fsM X.G 29) :: RM X.G 29) 29 7832) : NW X 229 [some (.ref (X.G.ad 11 0))] [] (E ++ .inr (11, fsM X.G 28) :: RM X.G 28) 28 7825 := by
  obtain ⟨hX, hb, hI, hRc, hRs, hq⟩ := h
  have ha : X.G.ad 11 0 = X.G.sz + E.length := hq 0 _ rfl
  have hn0 : E.length + 1 = E.length + 1 := rfl
  have hR := RM_len (G := X.G) 28
  refine nv_arr (E0 := E) (n := 7) (N := 7) (b := X.G.ad 63 0) (t := 0) (a0 := a0i 7) hX hb hI hn0 hR rfl ha dX11_init_229 (fun k => bw_bipush hX dX11_init_230 zb_7 k) ac_int rfl rfl (a0_int 7) (by decide) (by decide) (by decide) dX11_init_232 (by have h : X.G.ad 63 0 = _ := hq _ _ (bkX_at (i := 28) (by decide)); omega) kF_X11_96 (by rw [fsM_len]; decide) dX11_init_234 (by omega) (by omega) (fun hR => ?_)
  refine bw_cong ?_ rfl rfl kk
  rw [← RM_up]
  rfl
theorem mx_29 {X : zX} {E : List va_E} (h : mOk X E) (kk : NW X 245 [some (.ref (X.G.ad 11 0))] [] (E ++ .inr (11, fsM X.G 30) :: RM X.G 30) 30 7839) : NW X 237 [some (.ref (X.G.ad 11 0))] [] (E ++ .inr (11, fsM X.G 29) :: RM X.G 29) 29 7832 := by
  obtain ⟨hX, hb, hI, hRc, hRs, hq⟩ := h
  have ha : X.G.ad 11 0 = X.G.sz + E.length := hq 0 _ rfl
  have hn0 : E.length + 1 = E.length + 1 := rfl
  have hR := RM_len (G := X.G) 29
  refine nv_arr (E0 := E) (n := 7) (N := 7) (b := X.G.ad 64 0) (t := 0) (a0 := a0i 7) hX hb hI hn0 hR rfl ha dX11_init_237 (fun k => bw_bipush hX dX11_init_238 zb_7 k) ac_int rfl rfl (a0_int 7) (by decide) (by decide) (by decide) dX11_init_240 (by have h : X.G.ad 64 0 = _ := hq _ _ (bkX_at (i := 29) (by decide)); omega) kF_X11_99 (by rw [fsM_len]; decide) dX11_init_242 (by omega) (by omega) (fun hR => ?_)
  refine bw_cong ?_ rfl rfl kk
  rw [← RM_up]
  rfl
theorem mx_30 {X : zX} {E : List va_E} (h : mOk X E) (kk : NW X 253 [some (.ref (X.G.ad 11 0))] [] (E ++ .inr (11, fsM X.G 31) :: RM X.G 31) 31 7846) : NW X 245 [some (.ref (X.G.ad 11 0))] [] (E ++ .inr (11, fsM X.G 30) :: RM X.G 30) 30 7839 := by
  obtain ⟨hX, hb, hI, hRc, hRs, hq⟩ := h
  have ha : X.G.ad 11 0 = X.G.sz + E.length := hq 0 _ rfl
  have hn0 : E.length + 1 = E.length + 1 := rfl
  have hR := RM_len (G := X.G) 30
  refine nv_arr (E0 := E) (n := 7) (N := 7) (b := X.G.ad 65 0) (t := 0) (a0 := a0i 7) hX hb hI hn0 hR rfl ha dX11_init_245 (fun k => bw_bipush hX dX11_init_246 zb_7 k) ac_int rfl rfl (a0_int 7) (by decide) (by decide) (by decide) dX11_init_248 (by have h : X.G.ad 65 0 = _ := hq _ _ (bkX_at (i := 30) (by decide)); omega) kF_X11_102 (by rw [fsM_len]; decide) dX11_init_250 (by omega) (by omega) (fun hR => ?_)
  refine bw_cong ?_ rfl rfl kk
  rw [← RM_up]
  rfl
theorem mx_31 {X : zX} {E : List va_E} (h : mOk X E) (kk : NW X 261 [some (.ref (X.G.ad 11 0))] [] (E ++ .inr (11, fsM X.G 32) :: RM X.G 32) 32 7853) : NW X 253 [some (.ref (X.G.ad 11 0))] [] (E ++ .inr (11, fsM X.G 31) :: RM X.G 31) 31 7846 := by
  obtain ⟨hX, hb, hI, hRc, hRs, hq⟩ := h
  have ha : X.G.ad 11 0 = X.G.sz + E.length := hq 0 _ rfl
  have hn0 : E.length + 1 = E.length + 1 := rfl
  have hR := RM_len (G := X.G) 31
  refine nv_arr (E0 := E) (n := 7) (N := 7) (b := X.G.ad 66 0) (t := 0) (a0 := a0i 7) hX hb hI hn0 hR rfl ha dX11_init_253 (fun k => bw_bipush hX dX11_init_254 zb_7 k) ac_int rfl rfl (a0_int 7) (by decide) (by decide) (by decide) dX11_init_256 (by have h : X.G.ad 66 0 = _ := hq _ _ (bkX_at (i := 31) (by decide)); omega) kF_X11_105 (by rw [fsM_len]; decide) dX11_init_258 (by omega) (by omega) (fun hR => ?_)
  refine bw_cong ?_ rfl rfl kk
  rw [← RM_up]
  rfl
theorem mx_32 {X : zX} {E : List va_E} (h : mOk X E) (kk : NW X 269 [some (.ref (X.G.ad 11 0))] [] (E ++ .inr (11, fsM X.G 33) :: RM X.G 33) 33 7860) : NW X 261 [some (.ref (X.G.ad 11 0))] [] (E ++ .inr (11, fsM X.G 32) :: RM X.G 32) 32 7853 := by
  obtain ⟨hX, hb, hI, hRc, hRs, hq⟩ := h
  have ha : X.G.ad 11 0 = X.G.sz + E.length := hq 0 _ rfl
  have hn0 : E.length + 1 = E.length + 1 := rfl
  have hR := RM_len (G := X.G) 32
  refine nv_arr (E0 := E) (n := 7) (N := 7) (b := X.G.ad 67 0) (t := 0) (a0 := a0i 7) hX hb hI hn0 hR rfl ha dX11_init_261 (fun k => bw_bipush hX dX11_init_262 zb_7 k) ac_int rfl rfl (a0_int 7) (by decide) (by decide) (by decide) dX11_init_264 (by have h : X.G.ad 67 0 = _ := hq _ _ (bkX_at (i := 32) (by decide)); omega) kF_X11_108 (by rw [fsM_len]; decide) dX11_init_266 (by omega) (by omega) (fun hR => ?_)
  refine bw_cong ?_ rfl rfl kk
  rw [← RM_up]
  rfl
theorem mx_33 {X : zX} {E : List va_E} (h : mOk X E) (kk : NW X 277 [some (.ref (X.G.ad 11 0))] [] (E ++ .inr (11, fsM X.G 34) :: RM X.G 34) 34 7867) : NW X 269 [some (.ref (X.G.ad 11 0))] [] (E ++ .inr (11, fsM X.G 33) :: RM X.G 33) 33 7860 := by
  obtain ⟨hX, hb, hI, hRc, hRs, hq⟩ := h
  have ha : X.G.ad 11 0 = X.G.sz + E.length := hq 0 _ rfl
  have hn0 : E.length + 1 = E.length + 1 := rfl
  have hR := RM_len (G := X.G) 33
  refine nv_arr (E0 := E) (n := 7) (N := 7) (b := X.G.ad 68 0) (t := 0) (a0 := a0i 7) hX hb hI hn0 hR rfl ha dX11_init_269 (fun k => bw_bipush hX dX11_init_270 zb_7 k) ac_int rfl rfl (a0_int 7) (by decide) (by decide) (by decide) dX11_init_272 (by have h : X.G.ad 68 0 = _ := hq _ _ (bkX_at (i := 33) (by decide)); omega) kF_X11_111 (by rw [fsM_len]; decide) dX11_init_274 (by omega) (by omega) (fun hR => ?_)
  refine bw_cong ?_ rfl rfl kk
  rw [← RM_up]
  rfl
theorem mx_34 {X : zX} {E : List va_E} (h : mOk X E) (kk : NW X 285 [some (.ref (X.G.ad 11 0))] [] (E ++ .inr (11, fsM X.G 35) :: RM X.G 35) 35 7887) : NW X 277 [some (.ref (X.G.ad 11 0))] [] (E ++ .inr (11, fsM X.G 34) :: RM X.G 34) 34 7867 := by
  obtain ⟨hX, hb, hI, hRc, hRs, hq⟩ := h
  have ha : X.G.ad 11 0 = X.G.sz + E.length := hq 0 _ rfl
  have hn0 : E.length + 1 = E.length + 1 := rfl
  have hR := RM_len (G := X.G) 34
  refine nv_arr (E0 := E) (n := 20) (N := 20) (b := X.G.ad 69 0) (t := 0) (a0 := a0i 20) hX hb hI hn0 hR rfl ha dX11_init_277 (fun k => bw_bipush hX dX11_init_278 zb_20 k) ac_int rfl rfl (a0_int 20) (by decide) (by decide) (by decide) dX11_init_280 (by have h : X.G.ad 69 0 = _ := hq _ _ (bkX_at (i := 34) (by decide)); omega) kF_X11_114 (by rw [fsM_len]; decide) dX11_init_282 (by omega) (by omega) (fun hR => ?_)
  refine bw_cong ?_ rfl rfl kk
  rw [← RM_up]
  rfl
theorem mx_35 {X : zX} {E : List va_E} (h : mOk X E) (kk : NW X 293 [some (.ref (X.G.ad 11 0))] [] (E ++ .inr (11, fsM X.G 36) :: RM X.G 36) 36 7951) : NW X 285 [some (.ref (X.G.ad 11 0))] [] (E ++ .inr (11, fsM X.G 35) :: RM X.G 35) 35 7887 := by
  obtain ⟨hX, hb, hI, hRc, hRs, hq⟩ := h
  have ha : X.G.ad 11 0 = X.G.sz + E.length := hq 0 _ rfl
  have hn0 : E.length + 1 = E.length + 1 := rfl
  have hR := RM_len (G := X.G) 35
  refine nv_arr (E0 := E) (n := 64) (N := 64) (b := X.G.ad 70 0) (t := 0) (a0 := a0i 64) hX hb hI hn0 hR rfl ha dX11_init_285 (fun k => bw_bipush hX dX11_init_286 zb_64 k) ac_int rfl rfl (a0_int 64) (by decide) (by decide) (by decide) dX11_init_288 (by have h : X.G.ad 70 0 = _ := hq _ _ (bkX_at (i := 35) (by decide)); omega) kF_X11_117 (by rw [fsM_len]; decide) dX11_init_290 (by omega) (by omega) (fun hR => ?_)
  refine bw_cong ?_ rfl rfl kk
  rw [← RM_up]
  rfl
theorem mx_36 {X : zX} {E : List va_E} (h : mOk X E) (kk : NW X 301 [some (.ref (X.G.ad 11 0))] [] (E ++ .inr (11, fsM X.G 37) :: RM X.G 37) 37 8015) : NW X 293 [some (.ref (X.G.ad 11 0))] [] (E ++ .inr (11, fsM X.G 36) :: RM X.G 36) 36 7951 := by
  obtain ⟨hX, hb, hI, hRc, hRs, hq⟩ := h
  have ha : X.G.ad 11 0 = X.G.sz + E.length := hq 0 _ rfl
  have hn0 : E.length + 1 = E.length + 1 := rfl
  have hR := RM_len (G := X.G) 36
  refine nv_arr (E0 := E) (n := 64) (N := 64) (b := X.G.ad 71 0) (t := 0) (a0 := a0i 64) hX hb hI hn0 hR rfl ha dX11_init_293 (fun k => bw_bipush hX dX11_init_294 zb_64 k) ac_int rfl rfl (a0_int 64) (by decide) (by decide) (by decide) dX11_init_296 (by have h : X.G.ad 71 0 = _ := hq _ _ (bkX_at (i := 36) (by decide)); omega) kF_X11_120 (by rw [fsM_len]; decide) dX11_init_298 (by omega) (by omega) (fun hR => ?_)
  refine bw_cong ?_ rfl rfl kk
  rw [← RM_up]
  rfl
theorem mx_37 {X : zX} {E : List va_E} (h : mOk X E) (kk : NW X 310 [some (.ref (X.G.ad 11 0))] [] (E ++ .inr (11, fsM X.G 38) :: RM X.G 38) 38 9935) : NW X 301 [some (.ref (X.G.ad 11 0))] [] (E ++ .inr (11, fsM X.G 37) :: RM X.G 37) 37 8015 := by
  obtain ⟨hX, hb, hI, hRc, hRs, hq⟩ := h
  have ha : X.G.ad 11 0 = X.G.sz + E.length := hq 0 _ rfl
  have hn0 : E.length + 1 = E.length + 1 := rfl
  have hR := RM_len (G := X.G) 37
  refine nv_arr (E0 := E) (n := 1920) (N := 1920) (b := X.G.ad 72 0) (t := 0) (a0 := a0i 1920) hX hb hI hn0 hR rfl ha dX11_init_301 (fun k => bw_sipush hX dX11_init_302 zs_1920 k) ac_int rfl rfl (a0_int 1920) (by decide) (by decide) (by decide) dX11_init_305 (by have h : X.G.ad 72 0 = _ := hq _ _ (bkX_at (i := 37) (by decide)); omega) kF_X11_123 (by rw [fsM_len]; decide) dX11_init_307 (by omega) (by omega) (fun hR => ?_)
  refine bw_cong ?_ rfl rfl kk
  rw [← RM_up]
  rfl
theorem mx_38 {X : zX} {E : List va_E} (h : mOk X E) (kk : NW X 319 [some (.ref (X.G.ad 11 0))] [] (E ++ .inr (11, fsM X.G 39) :: RM X.G 39) 39 10191) : NW X 310 [some (.ref (X.G.ad 11 0))] [] (E ++ .inr (11, fsM X.G 38) :: RM X.G 38) 38 9935 := by
  obtain ⟨hX, hb, hI, hRc, hRs, hq⟩ := h
  have ha : X.G.ad 11 0 = X.G.sz + E.length := hq 0 _ rfl
  have hn0 : E.length + 1 = E.length + 1 := rfl
  have hR := RM_len (G := X.G) 38
  refine nv_arr (E0 := E) (n := 256) (N := 256) (b := X.G.ad 73 0) (t := 0) (a0 := a0i 256) hX hb hI hn0 hR rfl ha dX11_init_310 (fun k => bw_sipush hX dX11_init_311 zs_256 k) ac_int rfl rfl (a0_int 256) (by decide) (by decide) (by decide) dX11_init_314 (by have h : X.G.ad 73 0 = _ := hq _ _ (bkX_at (i := 38) (by decide)); omega) kF_X11_126 (by rw [fsM_len]; decide) dX11_init_316 (by omega) (by omega) (fun hR => ?_)
  refine bw_cong ?_ rfl rfl kk
  rw [← RM_up]
  rfl
theorem mx_39 {X : zX} {E : List va_E} (h : mOk X E) (kk : NW X 326 [some (.ref (X.G.ad 11 0))] [] (E ++ .inr (11, fsM X.G 40) :: RM X.G 40) 40 10195) : NW X 319 [some (.ref (X.G.ad 11 0))] [] (E ++ .inr (11, fsM X.G 39) :: RM X.G 39) 39 10191 := by
  obtain ⟨hX, hb, hI, hRc, hRs, hq⟩ := h
  have ha : X.G.ad 11 0 = X.G.sz + E.length := hq 0 _ rfl
  have hn0 : E.length + 1 = E.length + 1 := rfl
  have hR := RM_len (G := X.G) 39
  refine nv_arr (E0 := E) (n := 4) (N := 4) (b := X.G.ad 74 0) (t := 3) (a0 := a0i 4) hX hb hI hn0 hR rfl ha dX11_init_319 (fun k => bw_iconst hX dX11_init_320 zk_4 k) ac_boolean rfl rfl (a0_boolean 4) (by decide) (by decide) (by decide) dX11_init_321 (by have h : X.G.ad 74 0 = _ := hq _ _ (bkX_at (i := 39) (by decide)); omega) kF_X11_129 (by rw [fsM_len]; decide) dX11_init_323 (by omega) (by omega) (fun hR => ?_)
  refine bw_cong ?_ rfl rfl kk
  rw [← RM_up]
  rfl
section K7
variable {l : Launch} {G : zG} {E : List va_E}
def fr11 : List Value := [.int 0, .int 0, .null, .int 0, .int 0, .int 0, .int 0, .long 0, .int 0, .int 0, .null, .null, .null, .null, .null, .null, .null, .null, .null, .null, .null, .null, .null, .null, .null, .null, .null, .null, .null, .null, .null, .null, .int 0, .null, .null, .null, .null, .null, .null, .null, .null, .null, .null, .null, .null, .int 0, .null, .null, .null, .null, .int 0, .int 0, .int 0, .long 0, .null]
theorem bc_X11 {a : Nat} (hq : zSl G E.length bkX) (he : a = G.ad 11 0) : bCT l G 1 40 10195 yX11_init cX11_init 1 a (E ++ [.inr (11, fr11)]) (E ++ bkX.map (zc G)) := by
  subst he
  refine bCT_of (by decide) rfl (by decide) (fun X hl hG hX hb hI hRc hRs hr => ?_)
  subst hG
  subst hl
  refine bw_aload_n hX dX11_init_0 rfl ?_
  refine bw_obj hX ob_X11 (by omega) (Nat.le_of_ble_eq_true rfl) dX11_init_1 ?_
  have hm : mOk X E := ⟨hX, by rw [List.length_append] at hb; exact hb, hI, hRc, hRs, hq⟩
  have go : NW X 4 [some (.ref (X.G.ad 11 0))] [] (E ++ .inr (11, fsM X.G 0) :: RM X.G 0) 0 0 := by
    refine mx_0 hm ?_
    refine mx_1 hm ?_
    refine mx_2 hm ?_
    refine mx_3 hm ?_
    refine mx_4 hm ?_
    refine mx_5 hm ?_
    refine mx_6 hm ?_
    refine mx_7 hm ?_
    refine mx_8 hm ?_
    refine mx_9 hm ?_
    refine mx_10 hm ?_
    refine mx_11 hm ?_
    refine mx_12 hm ?_
    refine mx_13 hm ?_
    refine mx_14 hm ?_
    refine mx_15 hm ?_
    refine mx_16 hm ?_
    refine mx_17 hm ?_
    refine mx_18 hm ?_
    refine mx_19 hm ?_
    refine mx_20 hm ?_
    refine mx_21 hm ?_
    refine mx_22 hm ?_
    refine mx_23 hm ?_
    refine mx_24 hm ?_
    refine mx_25 hm ?_
    refine mx_26 hm ?_
    refine mx_27 hm ?_
    refine mx_28 hm ?_
    refine mx_29 hm ?_
    refine mx_30 hm ?_
    refine mx_31 hm ?_
    refine mx_32 hm ?_
    refine mx_33 hm ?_
    refine mx_34 hm ?_
    refine mx_35 hm ?_
    refine mx_36 hm ?_
    refine mx_37 hm ?_
    refine mx_38 hm ?_
    refine mx_39 hm ?_
    refine bw_ret hX hr rfl rfl ?_ dX11_init_326
    have e : zc X.G (11, 0) = .inr (11, fsM X.G 40) := rfl
    simp only [bkX, List.map_cons, List.map_map, e, RM]
    rfl
  exact go
end K7
