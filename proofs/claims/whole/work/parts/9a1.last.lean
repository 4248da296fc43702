/-! what a throw asks lasts -/
theorem nb_ok : ∀ w ∈ nsB, w.keepsCast = true ∧ w.onTables = true := by decide +kernel
theorem nsB_warm {U V : State} (hw : U.WarmedH V.vm) (h : ∀ (args : Array Value), ∀ w ∈ nsB, w.before args U = true) : ∀ (args : Array Value), ∀ w ∈ nsB, w.before args V = true := by
  intro args w hm
  obtain ⟨k1, k2⟩ := nb_ok w hm
  have h1 : w.before args (U.setVm V.vm) = true := Cond.before_shiftedCast (State.Shifted.of_warmed hw) w k1 (h args w hm)
  exact va_tabs (u := U.setVm V.vm) k2 rfl h1
/-- the world around ours: enum, strings, what a throw asks -/
def zSX (aw : Nat → Nat) (sz : Nat) (U : State) (H : Heap) : Prop := zEW aw sz U H ∧ vx_Zq Bundle.tN "UNASSIGNED_STACK" Bundle.steD (fun q => sz ≤ q) U H ∧ vx_Zq Bundle.tN "SUPPRESSED_SENTINEL" Bundle.listD (fun q => sz ≤ q) U H ∧ ∀ (args : Array Value), ∀ w ∈ nsB, w.before args U = true
theorem zSX_kept {aw : Nat → Nat} {sz : Nat} {U V : State} {H K : Heap} (hw : U.WarmedH V.vm) (hq : ∀ q : Nat, q < sz → K[q]? = H[q]?) (h : zSX aw sz U H) : zSX aw sz V K := by
  obtain ⟨h1, h2, h3, h4⟩ := h
  have keep : ∀ a : Nat, a < H.size → ¬ (sz ≤ a) → K[a]? = H[a]? := fun a _ b => hq a (by omega)
  exact ⟨zEW_kept hw hq h1, vx_Zq.moved hw.alike (h2.kept keep), vx_Zq.moved hw.alike (h3.kept keep), nsB_warm hw h4⟩
