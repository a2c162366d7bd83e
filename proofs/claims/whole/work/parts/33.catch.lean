/-! methods with one handler: their contract, the catch, calls of them -/
/-- the search through one row whose class takes the object -/
theorem c_go {P : Handler → Pre} {E : CtlPost} {e : Env} {d : Bool} {acts : List Action} {S : State} {f : JFrame} {x : Addr} {row : ClassFile.ExceptionTableEntry} {cell : Cell} (hcov : covers row f.pc = true) (h0 : row.catchType ≠ 0) (hl : S.vm.ClassLinks e.platform f.method.cls row.catchType cell.cls) (hcell : S.heap[x]? = some cell) (hns : ∀ k, cell.vm ≠ .statics k) (hk : ∃ k, S.vm.classes[cell.cls]? = some k) :
    wp (findHandler.go f x [row]) P E e d acts S ↔ P (.found row.handlerPc) d acts (S.setVm (S.vm.noted f.method.cls row.catchType (.cls cell.cls))) := by
  simp only [covers] at hcov
  obtain ⟨ha, hb⟩ := (resolveClass_links e.toSetting hl).op (op := VmOp.resolveClass f.method.cls row.catchType) rfl
  have hal : S.vm.Alike (S.vm.noted f.method.cls row.catchType (.cls cell.cls)) := (Vm.Alike.refl S.vm).noted _ _ _
  obtain ⟨k1, hk1⟩ := hk
  obtain ⟨k2, hk2, -⟩ := hal.2.2 _ _ hk1
  have hfit : (S.vm.noted f.method.cls row.catchType (.cls cell.cls)).assignable cell.cls cell.cls = true := by
    unfold Vm.assignable
    rw [show (256 : Nat) = 255 + 1 from rfl, Vm.assignableAux]
    simp only [beq_self_eq_true, Bool.true_or]
  simp [findHandler.go, hcov, h0, ha, hb, hcell, hns, hk2, hfit, VmOp.dirties, VmOp.acts]
section LC
variable {p : Program} {l : Launch} {e : Env} {R : Room} {s : State} {m : MethodId} {args : Array Value} {below : List Frame} {meth : Method} {c : Code} {H : Heap} {locs : List Loc} {cells slots : Nat} {Q : State → Prop} {T : State}
/-- an exception of the class that the one handler names, laid over a frame whose pc the handler covers: the frame goes on at the handler -/
theorem t_catch (X : Stand p l e R s m args below meth c T locs cells slots) (x : Addr) {g : JFrame} (hg : g.method = m) {own name : String} (hown : s.vm.findClass own = some m.cls) {row : ClassFile.ExceptionTableEntry} (ht : c.exceptionTable.toList = [row]) (hcov : covers row g.pc = true) (h0 : row.catchType ≠ 0)
    (hlink : (Cond.classLink own row.catchType name).before args s = true) {cell : Cell} (hcell : T.heap[x]? = some cell) (hobj : cell.vm.isStatics = false) (hcls : s.vm.findClass name = some cell.cls) :
    ∃ vm', Stand p l e R s m args below meth c (T.setVm vm') locs cells slots ∧ ∀ target, Steps p.tables e below ((T.setVm vm').setTop { g with pc := row.handlerPc, stack := [.ref x] }) target → Steps p.tables e below ((T.setTop g).pushFrame (.throwing x)) target := by
  subst hg
  have hpl : e.platform.magicAccessors = ({} : Platform).magicAccessors := by rw [X.admits.platform]
  obtain ⟨cT, hcT, hcl⟩ := Cond.classLink_spec hown hlink e.platform hpl
  cases hcls.symm.trans hcT
  obtain ⟨dk, _, _, kt, hd, _, _, _, _, hkt, _, hopen⟩ := hcl.here
  have hcl' := X.warmed.classLinks hcl
  have hal : s.vm.Alike T.vm := X.warmed.alike
  obtain ⟨kt', hkt', -⟩ := hal.2.2 _ _ hkt
  refine ⟨_, X.noted (X.warmed.noted hd hopen (State.rightAt_cls hcl)), fun target hrest => ?_⟩
  have find : ∀ (P : Handler → Pre) (E : CtlPost) (d : Bool) (acts : List Action), wp (findHandler g x) P E e d acts ((T.setTop g).pushFrame (.throwing x)) ↔ P (.found row.handlerPc) d acts (((T.setTop g).pushFrame (.throwing x)).setVm (T.vm.noted g.method.cls row.catchType (.cls cell.cls))) := by
    intro P E d acts
    rw [W.findHandler_eq (s := (T.setTop g).pushFrame (.throwing x)) (meth := meth) (code := c) X.method' X.code, ht]
    exact c_go (S := (T.setTop g).pushFrame (.throwing x)) hcov h0 hcl' hcell (VmData.ne_statics_of hobj) ⟨kt', hkt'⟩
  have step : ∀ r : List Frame, (stepThrowing e ((T.setTop g).pushFrame (.throwing x)) x (.java g :: r)).Is ((((T.setTop g).pushFrame (.throwing x)).setVm (T.vm.noted g.method.cls row.catchType (.cls cell.cls))).setFrames (.java { g with pc := row.handlerPc, stack := [.ref x] } :: r)) [] := by
    intro r
    simp only [stepThrowing, searchFrame, vmDo]
    generalize hr : Sem.go _ e false [] ((T.setTop g).pushFrame (.throwing x)) = res
    obtain ⟨as, rfl, ha⟩ := Sem.eq_ok_of hr (a := Handler.found row.handlerPc) (s' := ((T.setTop g).pushFrame (.throwing x)).setVm (T.vm.noted g.method.cls row.catchType (.cls cell.cls))) (acts' := []) (by simp [find _ _ _ _])
    exact ⟨rfl, ha⟩
  obtain ⟨hgo, hw⟩ := X.here.throwing x
  refine Steps.head hgo hw ?_
  rw [stepThread_throwing (frames_entered X.here.top _), (step _).1]
  obtain ⟨g₀, hg0⟩ := Option.isSome_iff_exists.mp X.here.top
  obtain ⟨r, hr⟩ := State.topJava?_eq_some.mp hg0
  have hr' : (T.setVm (T.vm.noted g.method.cls row.catchType (.cls cell.cls))).frames = .java g₀ :: r := hr
  rw [State.setTop_of_frames _ hr'] at hrest
  have e1 : ∀ (u : State) (v : Vm) (F G : List Frame), ((u.setFrames F).setVm v).setFrames G = (u.setVm v).setFrames G := by
    intro u v F G
    have h1 : (u.setFrames F).setVm v = (u.setVm v).setFrames F := rfl
    rw [h1, State.setFrames_setFrames]
  rw [hr, List.tail_cons, State.pushFrame, e1, State.setTop_of_frames _ hr, e1]
  exact hrest
end LC
