/-! CAUGHT by the one row of a table -/
section CA
variable {p : Program} {l : Launch} {e : Env} {R : Room} {s : State} {m : MethodId} {args : Array Value} {below : List Frame} {meth : Method} {c : Code} {H : Heap} {locs : List Loc} {cells slots : Nat} {Q : State → Prop}
/-- the search at a row whose class links and takes what was thrown -/
theorem zt_row {Qh : Handler → Pre} {Eh : CtlPost} {d : Bool} {acts : List Action} {T : State} {f : JFrame} {a : Addr} {x : ExceptionTableEntry} {k : ClassId} {cell : Cell} (hx : covers x f.pc = true) (h0 : x.catchType ≠ 0)
    (hl : T.vm.ClassLinks e.platform f.method.cls x.catchType k) (hcell : T.heap[a]? = some cell) (hobj : ∀ q, cell.vm ≠ .statics q) (h1 : ∃ q, T.vm.classes[cell.cls]? = some q) (h2 : ∃ q, T.vm.classes[k]? = some q) (hfit : T.vm.assignable cell.cls k = true) :
    wp (findHandler.go f a [x]) Qh Eh e d acts T ↔ Qh (.found x.handlerPc) d acts (T.setVm (T.vm.noted f.method.cls x.catchType (.cls k))) := by
  obtain ⟨r1, r2⟩ := (resolveClass_links e.toSetting hl).op (op := VmOp.resolveClass f.method.cls x.catchType) rfl
  have al : T.vm.Alike (T.vm.noted f.method.cls x.catchType (.cls k)) := (Vm.Alike.refl T.vm).noted _ _ _
  obtain ⟨q1, g1⟩ := h1
  obtain ⟨q2, g2⟩ := h2
  obtain ⟨q3, g3, -⟩ := al.2.2 _ _ g1
  obtain ⟨q4, g4, -⟩ := al.2.2 _ _ g2
  have g5 : (T.vm.noted f.method.cls x.catchType (.cls k)).assignable cell.cls k = true := by rw [al.assignable]; exact hfit
  simp only [covers] at hx
  simp [findHandler.go, hx, h0, r1, r2, hcell, hobj, g3, g4, g5, VmOp.dirties, VmOp.acts]
theorem zt_step {T : State} {a : Addr} {f : JFrame} {r : List Frame} {pc : Nat} {vm' : Vm} (hf : ∀ (Qh : Handler → Pre) (Eh : CtlPost) (d : Bool) (acts : List Action), wp (findHandler f a) Qh Eh e d acts T ↔ Qh (.found pc) d acts (T.setVm vm')) :
    (stepThrowing e T a (.java f :: r)).Is ((T.setVm vm').setFrames (.java { f with pc := pc, stack := [.ref a] } :: r)) [] := by
  simp only [stepThrowing, searchFrame, vmDo]
  generalize hr : Sem.go _ e false [] T = res
  obtain ⟨as, rfl, ha⟩ := Sem.eq_ok_of hr (a := Handler.found pc) (s' := T.setVm vm') (acts' := []) (by simp [hf _ _ _ _])
  exact ⟨rfl, ha⟩
theorem zt_fr (u : State) (vm' : Vm) (F K : List Frame) : ((u.setFrames F).setVm vm').setFrames K = (u.setVm vm').setFrames K := by
  rw [show (u.setFrames F).setVm vm' = (u.setVm vm').setFrames F from rfl, State.setFrames_setFrames]
theorem zt_catch {own name E : String} {ce : Cell} {q : Addr} {x : ExceptionTableEntry} {pc : Nat} {ls : Array Slot} {rest : List Value} (hown : s.vm.findClass own = some m.cls) (htab : c.exceptionTable.toList = [x]) (hx : covers x pc = true) (h0 : x.catchType ≠ 0)
    (hlink : (Cond.classLink own x.catchType name).before args s = true) (hcast : (Cond.castable E name).before args s = true) (hcell : H[q]? = some ce) (hv : ce.vm = .none) (hcl : s.vm.findClass E = some ce.cls)
    (kk : W p l e R s m args below meth c H locs cells slots Q (F0 m x.handlerPc ls [.ref q])) : vx_W p l e R s m args below meth c H locs cells slots Q (F0 m pc ls rest) q := by
  intro T hT X
  have hpl : e.platform.magicAccessors = ({} : Platform).magicAccessors := by rw [X.admits.platform]
  obtain ⟨c3, c4, hc3, hc4, hasg⟩ := Cond.castable_spec hcast
  cases Option.some.inj (hc3.symm.trans hcl)
  obtain ⟨c5, hc5, hl5⟩ := Cond.classLink_spec hown hlink e.platform hpl
  cases Option.some.inj (hc4.symm.trans hc5)
  have hW : s.WarmedH ((T.setTop (F0 m pc ls rest)).pushFrame (.throwing q)).vm := X.warmed
  obtain ⟨dk, _, _, kt, hd, _, _, _, _, hkt, _, hopen⟩ := hl5.here
  obtain ⟨kt', hkt', -⟩ := hW.alike.2.2 _ _ hkt
  obtain ⟨k9, h9, -⟩ := Vm.findClass_spec hcl
  obtain ⟨k8, h8, -⟩ := hW.alike.2.2 _ _ h9
  have hW' := hW.noted hd hopen (State.rightAt_cls hl5)
  obtain ⟨vm', ev⟩ : ∃ v : Vm, v = ((T.setTop (F0 m pc ls rest)).pushFrame (.throwing q)).vm.noted m.cls x.catchType (.cls c4) := ⟨_, rfl⟩
  have X' := X.noted (vm' := vm') (by rw [ev]; exact hW')
  obtain ⟨t, a1, b1⟩ := kk (T.setVm vm') hT X'
  refine ⟨t, ?_, b1⟩
  have hA : _root_.Jvm.At T (F0 m pc ls rest).method c below := X.here
  obtain ⟨hgo, hw⟩ := hA.throwing q
  refine Steps.head hgo hw ?_
  rw [stepThread_throwing (frames_entered hA.top _), (zt_step (T := (T.setTop (F0 m pc ls rest)).pushFrame (.throwing q)) (pc := x.handlerPc) (vm' := vm') (fun Qh Eh d acts => by
    rw [ev, W.findHandler_eq X.method' X.code, htab]
    exact zt_row (f := F0 m pc ls rest) hx h0 (hW.classLinks hl5) (by show T.heap[q]? = some ce; rw [hT]; exact hcell) (fun k z => by rw [hv] at z; cases z) ⟨k8, h8⟩ ⟨kt', hkt'⟩ (by rw [hW.alike.assignable]; exact hasg))).1]
  obtain ⟨g₀, hg⟩ := Option.isSome_iff_exists.mp hA.top
  obtain ⟨r, hr⟩ := State.topJava?_eq_some.mp hg
  rw [hr, List.tail_cons, State.pushFrame, zt_fr, State.setTop_of_frames _ hr, zt_fr]
  rw [State.setTop_of_frames _ (show (T.setVm vm').frames = .java g₀ :: r from hr)] at a1
  exact a1
end CA
