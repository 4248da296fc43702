/-! the words of a throw -/
theorem nt_all : ∀ w ∈ (nsL RX10 113).filter vx_no, w ∈ lw_tbl := by decide +kernel
theorem nt_ot : ∀ w ∈ Cond.classLink RX10 109 nsE :: Cond.initialized nsE :: (nsL RX10 113).filter vx_no, vx_ot w = true := by decide +kernel
theorem nt_k : Cond.classLink RX10 109 nsE ∈ lw_tbl ∧ Cond.initialized nsE ∈ lw_tbl := by decide +kernel
theorem nt_kg : goodWord (Cond.classLink RX10 109 nsE) = true ∧ goodWord (Cond.initialized nsE) = true := by decide +kernel
/-- those that a call does not carry along by itself -/
def nsB : List Cond := [.castable nsE nsE, .codeSync Bundle.tFill LibCode.Throwable.Fill.code 1 (some (.object Bundle.tN)), .declares (Bundle.initS nsR), .declares (Bundle.initS nsX), .declares (Bundle.initS Bundle.tN)]
theorem nt_bad : ∀ w ∈ ((nsL RX10 113).filter vx_no).filter (fun w => !goodWord w), w ∈ nsB := by decide +kernel
theorem nt_good {args : Array Value} {s : State} (hg : ∀ w ∈ gw, w.before args s = true) (hB : ∀ w ∈ nsB, w.before args s = true) : ∀ w ∈ (nsL RX10 113).filter vx_no, w.before args s = true :=
  vx_hat (fun w h => hg w (List.mem_filter.mpr ⟨nt_all w (List.mem_filter.mp h).1, (List.mem_filter.mp h).2⟩)) nt_bad hB
theorem nt_castC : Cond.castable nsE nsE ∈ lw_tbl := by decide +kernel
/-- what must last in a world in which it may be thrown -/
def zThr (G : zG) : Prop := ∀ (U : State) (H : Heap), G.sx U H → vx_Zq Bundle.tN "UNASSIGNED_STACK" Bundle.steD (zA G) U H ∧ vx_Zq Bundle.tN "SUPPRESSED_SENTINEL" Bundle.listD (zA G) U H ∧ ∀ (args : Array Value), ∀ w ∈ nsB, w.before args U = true
