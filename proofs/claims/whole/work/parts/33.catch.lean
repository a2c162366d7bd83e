/-! methods with one handler: their contract, the catch, calls of them -/
/-- the search through one row whose class takes the object -/
theorem c_go {P : Handler → Pre} {E : CtlPost} {e : Env} {d : Bool} {acts : List Action} {S : State} {f : JFrame} {x : Addr} {row : ClassFile.ExceptionTableEntry} {cell : Cell} (hcov : covers row f.pc = true) (h0 : row.catchType ≠ 0) (hl : S.vm.ClassLinks e.platform f.method.cls row.catchType cell.cls) (hcell : S.heap[x]? = some cell) (hns : ∀ k, cell.vm ≠ .statics k) (hk : ∃ k, S.vm.classes[cell.cls]? = some k) :
    wp (findHandler.go f x [row]) P E e d acts S ↔ P (.found row.handlerPc) d acts (S.setVm (S.vm.noted f.method.cls row.catchType (.cls cell.cls))) := by
  simp only [covers] at hcov
  obtain ⟨ha, hb⟩ := (resolveClass_links e.toSetting hl).op (op := VmOp.resolveClass f.method.cls row.catchType) rfl
  have hal : S.vm.Alike (S.vm.noted f.method.cls row.catchType (.cls cell.cls)) := (Vm.Alike.refl S.vm).noted _ _ _
  obtain ⟨k1, hk1⟩ := hk
  obtain ⟨k2, hk2, -⟩ := hal.2.2 _ _ hk1
  have hfit : (S.vm.noted f.method.cls row.catchType (.cls cell.cls)).assignable cell.cls cell.cls = true := by
    unfold Vm.assignable
    rw [show (256 : Nat) = 255 + 1 from rfl, Vm.assignableAux]
    simp only [beq_self_eq_true, Bool.true_or]
  simp [findHandler.go, hcov, h0, ha, hb, hcell, hns, hk2, hfit, VmOp.dirties, VmOp.acts]
section LC
variable {p : Program} {l : Launch} {e : Env} {R : Room} {s : State} {m : MethodId} {args : Array Value} {below : List Frame} {meth : Method} {c : Code} {H : Heap} {locs : List Loc} {cells slots : Nat} {Q : State → Prop} {T : State}
/-- an exception of the class that the one handler names, laid over a frame whose pc the handler covers: the frame goes on at the handler -/
theorem t_catch (X : Stand p l e R s m args below meth c T locs cells slots) (x : Addr) {g : JFrame} (hg : g.method = m) {own name : String} (hown : s.vm.findClass own = some m.cls) {row : ClassFile.ExceptionTableEntry} (ht : c.exceptionTable.toList = [row]) (hcov : covers row g.pc = true) (h0 : row.catchType ≠ 0)
    (hlink : (Cond.classLink own row.catchType name).before args s = true) {cell : Cell} (hcell : T.heap[x]? = some cell) (hobj : cell.vm.isStatics = false) (hcls : s.vm.findClass name = some cell.cls) :
    ∃ vm', Stand p l e R s m args below meth c (T.setVm vm') locs cells slots ∧ ∀ target, Steps p.tables e below ((T.setVm vm').setTop { g with pc := row.handlerPc, stack := [.ref x] }) target → Steps p.tables e below ((T.setTop g).pushFrame (.throwing x)) target := by
  subst hg
  have hpl : e.platform.magicAccessors = ({} : Platform).magicAccessors := by rw [X.admits.platform]
  obtain ⟨cT, hcT, hcl⟩ := Cond.classLink_spec hown hlink e.platform hpl
  cases hcls.symm.trans hcT
  obtain ⟨dk, _, _, kt, hd, _, _, _, _, hkt, _, hopen⟩ := hcl.here
  have hcl' := X.warmed.classLinks hcl
  have hal : s.vm.Alike T.vm := X.warmed.alike
  obtain ⟨kt', hkt', -⟩ := hal.2.2 _ _ hkt
  refine ⟨_, X.noted (X.warmed.noted hd hopen (State.rightAt_cls hcl)), fun target hrest => ?_⟩
  have find : ∀ (P : Handler → Pre) (E : CtlPost) (d : Bool) (acts : List Action), wp (findHandler g x) P E e d acts ((T.setTop g).pushFrame (.throwing x)) ↔ P (.found row.handlerPc) d acts (((T.setTop g).pushFrame (.throwing x)).setVm (T.vm.noted g.method.cls row.catchType (.cls cell.cls))) := by
    intro P E d acts
    rw [W.findHandler_eq (s := (T.setTop g).pushFrame (.throwing x)) (meth := meth) (code := c) X.method' X.code, ht]
    exact c_go (S := (T.setTop g).pushFrame (.throwing x)) hcov h0 hcl' hcell (VmData.ne_statics_of hobj) ⟨kt', hkt'⟩
  have step : ∀ r : List Frame, (stepThrowing e ((T.setTop g).pushFrame (.throwing x)) x (.java g :: r)).Is ((((T.setTop g).pushFrame (.throwing x)).setVm (T.vm.noted g.method.cls row.catchType (.cls cell.cls))).setFrames (.java { g with pc := row.handlerPc, stack := [.ref x] } :: r)) [] := by
    intro r
    simp only [stepThrowing, searchFrame, vmDo]
    generalize hr : Sem.go _ e false [] ((T.setTop g).pushFrame (.throwing x)) = res
    obtain ⟨as, rfl, ha⟩ := Sem.eq_ok_of hr (a := Handler.found row.handlerPc) (s' := ((T.setTop g).pushFrame (.throwing x)).setVm (T.vm.noted g.method.cls row.catchType (.cls cell.cls))) (acts' := []) (by simp [find _ _ _ _])
    exact ⟨rfl, ha⟩
  obtain ⟨hgo, hw⟩ := X.here.throwing x
  refine Steps.head hgo hw ?_
  rw [stepThread_throwing (frames_entered X.here.top _), (step _).1]
  obtain ⟨g₀, hg0⟩ := Option.isSome_iff_exists.mp X.here.top
  obtain ⟨r, hr⟩ := State.topJava?_eq_some.mp hg0
  have hr' : (T.setVm (T.vm.noted g.method.cls row.catchType (.cls cell.cls))).frames = .java g₀ :: r := hr
  rw [State.setTop_of_frames _ hr'] at hrest
  have e1 : ∀ (u : State) (v : Vm) (F G : List Frame), ((u.setFrames F).setVm v).setFrames G = (u.setVm v).setFrames G := by
    intro u v F G
    have h1 : (u.setFrames F).setVm v = (u.setVm v).setFrames F := rfl
    rw [h1, State.setFrames_setFrames]
  rw [hr, List.tail_cons, State.pushFrame, e1, State.setTop_of_frames _ hr, e1]
  exact hrest
end LC
/-- the one row of a handler table -/
def hRow (c : Code) (ra rb rh rt : Nat) : Prop := ∃ row : ClassFile.ExceptionTableEntry, c.exceptionTable.toList = [row] ∧ row.startPc = ra ∧ row.endPc = rb ∧ row.handlerPc = rh ∧ row.catchType = rt
theorem hRow_of {c : Code} {ra rb rh rt : Nat} (h : c.exceptionTable.toList.map (fun h => (h.startPc, h.endPc, h.handlerPc, h.catchType)) = [(ra, rb, rh, rt)]) : hRow c ra rb rh rt := by
  unfold hRow
  generalize c.exceptionTable.toList = L at h
  cases L with
  | nil => cases h
  | cons r L' =>
    cases L' with
    | nil =>
      simp only [List.map_cons, List.map_nil, List.cons.injEq, Prod.mk.injEq, and_true] at h
      exact ⟨r, rfl, h.1, h.2.1, h.2.2.1, h.2.2.2⟩
    | cons r2 L2 => simp at h
theorem m_ofW {l : Launch} {y : MethodName} {ws ws' : List Cond} {rm : Room} {D : va_G} {cl : List vw_C} {tys : TY} {X : XE} {w0 : va_W} {av : List Value} {Qc : (Nat → Prop) → Array Value → State → Outcome → State → Prop} {mc ms : Nat} {cc : ByteArray} {nL : Nat} {ret : Option FieldType} {ra rb rh rt : Nat}
    (hy : plainName y.cls = true) (hw : ws = Cond.codeWith y cc nL ret [(ra, rb, rh, rt)] :: ws') (hn : (lg_sl av).length ≤ nL)
    (body : ∀ (p : Program) (e : Env) (s : State) (m : MethodId) (below : List Frame) (meth : Method) (c : Code) (ls : Array Slot) (A : Nat → Prop) (ar : Array Value), Fx p s m ar meth c cc nL ret y.cls ws y.name → hRow c ra rb rh rt → (∀ q : Nat, s.heap.size ≤ q → A q) → va_P D cl w0 s.heap → va_K D cl tys s → va_D A w0 → va_S A s.heap s.heap [] → X A s → lv_has ls nL (lv_args 0 av) →
      W p l e rm s m ar below meth c s.heap [] 0 0 (MQ below (Qc A) ar s mc ms A) (F0 m 0 ls [])) : Ct l y ws rm D cl tys X w0 av Qc mc ms := by
  intro sz
  refine va_MetW (cc := cc) (maxL := nL) (ret := ret) hy hw ?_
  intro p e s m args below meth c s₁ B hml hv
  obtain ⟨rfl, hsz, hP, hK, hD0, hX⟩ := hv
  subst hsz
  have hl := lv_entry av (n := nL) hn
  have hrow : hRow c ra rb rh rt := by
    obtain ⟨m9, meth9, c9, hn9, h1, h2, -, -, h3, -⟩ := Cond.codeWith_spec (atoms_spec (ws := ws) B.pre _ (by rw [hw]; exact List.mem_cons_self))
    cases B.named.symm.trans hn9
    cases B.method.symm.trans h1
    cases (Stand.of_body B).code.symm.trans h2
    exact hRow_of h3
  rw [lg_entry_eq]
  exact body p e s m below meth c _ _ _ ⟨B.exec, B.bytes, hml, B.returns, B.notSynchronized, findClass_of_methodNamed B.named, atoms_spec (ws := ws) B.pre, (name_of_methodNamed B.named B.method).1⟩ hrow (fun q h => Or.inr h) hP hK hD0.self va_S.rf hX hl
section LC2
variable {p : Program} {l : Launch} {e : Env} {R : Room} {s : State} {m : MethodId} {args : Array Value} {below : List Frame} {meth : Method} {c : Code} {H : Heap} {locs : List Loc} {cells slots : Nat} {Q : State → Prop}
variable {pc : Nat} {ls : Array Slot} {rest st : List Value} {cc : ByteArray} {D : va_G} {cl : List vw_C} {tys : TY} {A : Nat → Prop} {S S' : Type} {wf : S → va_W} {mc ms : Nat}
variable {y : MethodName} {bytes : ByteArray} {maxL nL n index : Nat} {ret : Option FieldType} {wsy Ts ws' : List Cond} {rmy : Room} {own C : String} {wc wr w0 : va_W} {b : Nat} {As : List Value} {q : vw_C} {fs : List Value} {mcy msy : Nat} {Xc : XE} {ra rb rh rt : Nat}
/-- a method with two ends, called where the one handler covers: two ways on -/
theorem kc_any {KR : Option Value → S → Prop} {E : S → Prop} {XC : String} (F : CallFix p m c cc nL s args Ts own) (hM : CtX l y wsy rmy D cl tys Xc wc (.ref b :: As) (qX D cl tys wf KR E XC) mcy msy) (cw : CallWX R s args own C index y bytes maxL ret wsy rmy mcy msy n)
    (hXb : xBl Xc) (hXg : xGo Xc s A) (hP : va_P D cl w0 H) (hK : va_K D cl tys s) (hD : va_D A w0) (hS : va_S A s.heap H locs) (hA : ∀ q : Nat, s.heap.size ≤ q → A q) (isC isR : List Nat) (hC : isC.map (fun i => w0[i]?) = wc.map some) (hR : isR.map (fun i => w0[i]?) = wr.map some) (hnC : va_nd isC = true) (hnR : va_nd isR = true) (hdis : ∀ i ∈ isR, i ∉ isC)
    {ci : Nat} (hcl : cl[ci]? = some q) (hq : q.1 = C) {q0 : Nat} (hre : w0[q0]? = some (b, .inr (ci, fs))) (hrow : hRow c ra rb rh rt) (hcv : (decide (ra ≤ pc) && decide (pc < rb)) = true) (h0 : rt ≠ 0) (hlink : (Cond.classLink own rt XC).before args s = true) (hnA : As.length = n) (hsize : ls.size = nL) (hst : st = As.reverse ++ .ref b :: rest) (hW : (rest.map fun v => v.category).sum ≤ 8) (hdg : decode cc pc = .ok (.invokevirtual index, 3)) (hf : cells + (mcy + 1) ≤ R.cells ∧ slots + (msy + 6) ≤ R.slots)
    (kk : ∀ (v : Option Value) (u : S) (H1 : Heap) (locs1 : List Loc), KR v u → va_P D cl (wr ++ wf u) H1 → va_D A (wr ++ wf u) → va_S A s.heap H1 locs1 → W p l e R s m args below meth c H1 locs1 (cells + mcy) (slots + msy) Q (F0 m (pc + 3) ls (v.toList ++ rest)))
    (ke : ∀ (x : Nat) (u : S) (H1 : Heap) (locs1 : List Loc), E u → va_P D cl (wr ++ wf u) H1 → va_D A (wr ++ wf u) → va_S A s.heap H1 locs1 → W p l e R s m args below meth c H1 locs1 (cells + (mcy + 1)) (slots + (msy + 6)) Q (F0 m rh ls [.ref x])) :
    W p l e R s m args below meth c H locs cells slots Q (F0 m pc ls st) := by
  subst hq
  have hFc := va_free hD hS hA isC hC
  have hown : s.vm.findClass own = some m.cls := F.2.2.2.1
  refine kx_run F (hM H.size) cw (z_blind hXb) (va_recv hK hP hcl hre) (z_pre hXg hS hFc hP hK hD hC hnC) hnA hsize hst hW hdg hf ?_ ?_
  · rintro v st₀ t T' L h0 X' hL e1 e2 ⟨hc | ⟨a, u, hv, -⟩, hz, hk⟩
    · obtain ⟨v', u, hv, hkr, hP1, hK1, hD1⟩ := hc
      cases hv
      rw [h0] at hz hk
      have hk1 : ∀ q : Nat, q < H.size → ¬ va_A wc H.size q → t.heap[q]? = H[q]? := hk
      obtain ⟨hP2, hD2⟩ := va_join hP hD isC isR hC hR hnR hdis hk1 hFc hP1 hD1
      exact kk v u t.heap (locs ++ L) hkr hP2 hD2 (vaS_call hS hz hk1 hFc hL) T' e1 X'
    · cases hv
  · rintro x st₀ t T' L h00 X' hL e1 e2 ⟨hc | ⟨a, u, hv, hE, ⟨hP1, hK1, hD1⟩, hex⟩, hz, hk⟩
    · obtain ⟨v', u, hv, -⟩ := hc
      cases hv
    · cases hv
      rw [h00] at hz hk
      have hk1 : ∀ q : Nat, q < H.size → ¬ va_A wc H.size q → t.heap[q]? = H[q]? := hk
      obtain ⟨hP2, hD2⟩ := va_join hP hD isC isR hC hR hnR hdis hk1 hFc hP1 hD1
      have hS1 := vaS_call hS hz hk1 hFc hL
      obtain ⟨cell, g1, g2, g3⟩ := hex
      obtain ⟨row, ht, r1, r2, r3, r4⟩ := hrow
      subst r1; subst r2; subst r3; subst r4
      have g3' : s.vm.findClass XC = some cell.cls := by
        rw [← X'.warmed.alike.findClass, e2]; exact g3
      obtain ⟨vm', X2, go⟩ := t_catch X' x (g := F0 m pc ls rest) rfl hown ht hcv h0 hlink (by rw [e1]; exact g1) g2 g3'
      obtain ⟨t2, a1, b1⟩ := ke x u t.heap (locs ++ L) hE hP2 hD2 hS1 (T'.setVm vm') e1 X2
      exact ⟨t2, go _ a1, b1⟩
theorem kc_i {K : Int32 → S → Prop} {E : S → Prop} {XC : String} (F : CallFix p m c cc nL s args Ts own) (hM : CtX l y wsy rmy D cl tys Xc wc (.ref b :: As) (qX D cl tys wf (kRi K) E XC) mcy msy) (cw : CallWX R s args own C index y bytes maxL ret wsy rmy mcy msy n)
    (hXb : xBl Xc) (hXg : xGo Xc s A) (hP : va_P D cl w0 H) (hK : va_K D cl tys s) (hD : va_D A w0) (hS : va_S A s.heap H locs) (hA : ∀ q : Nat, s.heap.size ≤ q → A q) (isC isR : List Nat) (hC : isC.map (fun i => w0[i]?) = wc.map some) (hR : isR.map (fun i => w0[i]?) = wr.map some) (hnC : va_nd isC = true) (hnR : va_nd isR = true) (hdis : ∀ i ∈ isR, i ∉ isC)
    {ci : Nat} (hcl : cl[ci]? = some q) (hq : q.1 = C) {q0 : Nat} (hre : w0[q0]? = some (b, .inr (ci, fs))) (hrow : hRow c ra rb rh rt) (hcv : (decide (ra ≤ pc) && decide (pc < rb)) = true) (h0 : rt ≠ 0) (hlink : (Cond.classLink own rt XC).before args s = true) (hnA : As.length = n) (hsize : ls.size = nL) (hst : st = As.reverse ++ .ref b :: rest) (hW : (rest.map fun v => v.category).sum ≤ 8) (hdg : decode cc pc = .ok (.invokevirtual index, 3)) (hf : cells + (mcy + 1) ≤ R.cells ∧ slots + (msy + 6) ≤ R.slots)
    (kk : ∀ (r : Int32) (u : S) (H1 : Heap) (locs1 : List Loc), K r u → va_P D cl (wr ++ wf u) H1 → va_D A (wr ++ wf u) → va_S A s.heap H1 locs1 → W p l e R s m args below meth c H1 locs1 (cells + mcy) (slots + msy) Q (F0 m (pc + 3) ls (.int r :: rest)))
    (ke : ∀ (x : Nat) (u : S) (H1 : Heap) (locs1 : List Loc), E u → va_P D cl (wr ++ wf u) H1 → va_D A (wr ++ wf u) → va_S A s.heap H1 locs1 → W p l e R s m args below meth c H1 locs1 (cells + (mcy + 1)) (slots + (msy + 6)) Q (F0 m rh ls [.ref x])) :
    W p l e R s m args below meth c H locs cells slots Q (F0 m pc ls st) :=
  kc_any F hM cw hXb hXg hP hK hD hS hA isC isR hC hR hnC hnR hdis hcl hq hre hrow hcv h0 hlink hnA hsize hst hW hdg hf (fun v u H1 locs1 hkr hP hD hS => by obtain ⟨r, rfl, hk⟩ := hkr; exact kk r u H1 locs1 hk hP hD hS) ke
theorem kc_l {K : Int64 → S → Prop} {E : S → Prop} {XC : String} (F : CallFix p m c cc nL s args Ts own) (hM : CtX l y wsy rmy D cl tys Xc wc (.ref b :: As) (qX D cl tys wf (kRl K) E XC) mcy msy) (cw : CallWX R s args own C index y bytes maxL ret wsy rmy mcy msy n)
    (hXb : xBl Xc) (hXg : xGo Xc s A) (hP : va_P D cl w0 H) (hK : va_K D cl tys s) (hD : va_D A w0) (hS : va_S A s.heap H locs) (hA : ∀ q : Nat, s.heap.size ≤ q → A q) (isC isR : List Nat) (hC : isC.map (fun i => w0[i]?) = wc.map some) (hR : isR.map (fun i => w0[i]?) = wr.map some) (hnC : va_nd isC = true) (hnR : va_nd isR = true) (hdis : ∀ i ∈ isR, i ∉ isC)
    {ci : Nat} (hcl : cl[ci]? = some q) (hq : q.1 = C) {q0 : Nat} (hre : w0[q0]? = some (b, .inr (ci, fs))) (hrow : hRow c ra rb rh rt) (hcv : (decide (ra ≤ pc) && decide (pc < rb)) = true) (h0 : rt ≠ 0) (hlink : (Cond.classLink own rt XC).before args s = true) (hnA : As.length = n) (hsize : ls.size = nL) (hst : st = As.reverse ++ .ref b :: rest) (hW : (rest.map fun v => v.category).sum ≤ 8) (hdg : decode cc pc = .ok (.invokevirtual index, 3)) (hf : cells + (mcy + 1) ≤ R.cells ∧ slots + (msy + 6) ≤ R.slots)
    (kk : ∀ (r : Int64) (u : S) (H1 : Heap) (locs1 : List Loc), K r u → va_P D cl (wr ++ wf u) H1 → va_D A (wr ++ wf u) → va_S A s.heap H1 locs1 → W p l e R s m args below meth c H1 locs1 (cells + mcy) (slots + msy) Q (F0 m (pc + 3) ls (.long r :: rest)))
    (ke : ∀ (x : Nat) (u : S) (H1 : Heap) (locs1 : List Loc), E u → va_P D cl (wr ++ wf u) H1 → va_D A (wr ++ wf u) → va_S A s.heap H1 locs1 → W p l e R s m args below meth c H1 locs1 (cells + (mcy + 1)) (slots + (msy + 6)) Q (F0 m rh ls [.ref x])) :
    W p l e R s m args below meth c H locs cells slots Q (F0 m pc ls st) :=
  kc_any F hM cw hXb hXg hP hK hD hS hA isC isR hC hR hnC hnR hdis hcl hq hre hrow hcv h0 hlink hnA hsize hst hW hdg hf (fun v u H1 locs1 hkr hP hD hS => by obtain ⟨r, rfl, hk⟩ := hkr; exact kk r u H1 locs1 hk hP hD hS) ke
theorem kc_v {K : S → Prop} {E : S → Prop} {XC : String} (F : CallFix p m c cc nL s args Ts own) (hM : CtX l y wsy rmy D cl tys Xc wc (.ref b :: As) (qX D cl tys wf (kRv K) E XC) mcy msy) (cw : CallWX R s args own C index y bytes maxL ret wsy rmy mcy msy n)
    (hXb : xBl Xc) (hXg : xGo Xc s A) (hP : va_P D cl w0 H) (hK : va_K D cl tys s) (hD : va_D A w0) (hS : va_S A s.heap H locs) (hA : ∀ q : Nat, s.heap.size ≤ q → A q) (isC isR : List Nat) (hC : isC.map (fun i => w0[i]?) = wc.map some) (hR : isR.map (fun i => w0[i]?) = wr.map some) (hnC : va_nd isC = true) (hnR : va_nd isR = true) (hdis : ∀ i ∈ isR, i ∉ isC)
    {ci : Nat} (hcl : cl[ci]? = some q) (hq : q.1 = C) {q0 : Nat} (hre : w0[q0]? = some (b, .inr (ci, fs))) (hrow : hRow c ra rb rh rt) (hcv : (decide (ra ≤ pc) && decide (pc < rb)) = true) (h0 : rt ≠ 0) (hlink : (Cond.classLink own rt XC).before args s = true) (hnA : As.length = n) (hsize : ls.size = nL) (hst : st = As.reverse ++ .ref b :: rest) (hW : (rest.map fun v => v.category).sum ≤ 8) (hdg : decode cc pc = .ok (.invokevirtual index, 3)) (hf : cells + (mcy + 1) ≤ R.cells ∧ slots + (msy + 6) ≤ R.slots)
    (kk : ∀ (u : S) (H1 : Heap) (locs1 : List Loc), K u → va_P D cl (wr ++ wf u) H1 → va_D A (wr ++ wf u) → va_S A s.heap H1 locs1 → W p l e R s m args below meth c H1 locs1 (cells + mcy) (slots + msy) Q (F0 m (pc + 3) ls rest))
    (ke : ∀ (x : Nat) (u : S) (H1 : Heap) (locs1 : List Loc), E u → va_P D cl (wr ++ wf u) H1 → va_D A (wr ++ wf u) → va_S A s.heap H1 locs1 → W p l e R s m args below meth c H1 locs1 (cells + (mcy + 1)) (slots + (msy + 6)) Q (F0 m rh ls [.ref x])) :
    W p l e R s m args below meth c H locs cells slots Q (F0 m pc ls st) :=
  kc_any F hM cw hXb hXg hP hK hD hS hA isC isR hC hR hnC hnR hdis hcl hq hre hrow hcv h0 hlink hnA hsize hst hW hdg hf (fun v u H1 locs1 hkr hP hD hS => by obtain ⟨rfl, hk⟩ := hkr; exact kk u H1 locs1 hk hP hD hS) ke
variable {hh : List (Nat × Nat × Nat × Nat)} {rm : Room} {Pc : Array Value → State → Prop} {Qc : Array Value → State → Outcome → State → Prop} {free : Addr → Prop} {g : JFrame} {ws : List Cond}
/-- words and room of the call of a method with handlers -/
def CallBW (R : Room) (s : State) (args : Array Value) (own : String) (index : Nat) (y : MethodName) (bytes : ByteArray) (maxL : Nat) (ret : Option FieldType) (hh : List (Nat × Nat × Nat × Nat)) (ws : List Cond) (rm : Room) (mc ms n : Nat) : Prop :=
  rm.cells = mc ∧ rm.slots = ms ∧ rm.frames + 1 ≤ R.frames ∧ 8 + (maxL + 11) + rm.locals ≤ R.locals ∧ (∀ w ∈ ws, ∀ (a' : Array Value) (U : State), s.WarmedH U.vm → w.before a' U = true) ∧ Cond.codeWith y bytes maxL ret hh ∈ ws ∧ (Cond.codeWith y bytes maxL ret hh).before args s = true ∧ (Cond.initialized y.cls).before args s = true ∧ (y.cls ≠ "java/lang/invoke/MethodHandle" ∧ y.cls ≠ "java/lang/invoke/VarHandle") ∧ (∀ sig, parseMethodDescriptor y.desc = some sig → n = sig.parameters.length) ∧ (Cond.methodLink own index y).before args s = true
theorem cbW (n : Nat) (ht : ∀ w ∈ Ts, w.before args s = true) (hG : GoodIn Ts ws) (hw : ws = Cond.codeWith y bytes maxL ret hh :: ws') (hrc : rm.cells = mc) (hrs : rm.slots = ms) (hini : (Cond.initialized y.cls).before args s = true) (hl : (Cond.methodLink own index y).before args s = true)
    (hd : y.cls ≠ "java/lang/invoke/MethodHandle" ∧ y.cls ≠ "java/lang/invoke/VarHandle" ∧ (parseMethodDescriptor y.desc).map (fun d => d.parameters.length) = some n) (hR : rm.frames + 1 ≤ R.frames ∧ 8 + (maxL + 11) + rm.locals ≤ R.locals) :
    CallBW R s args own index y bytes maxL ret hh ws rm mc ms n := by
  have hc : Cond.codeWith y bytes maxL ret hh ∈ ws := by rw [hw]; exact List.mem_cons_self
  refine ⟨hrc, hrs, hR.1, hR.2, pay_in ht hG, hc, ht _ (hG _ hc).1, hini, ⟨hd.1, hd.2.1⟩, fun sig h => ?_, hl⟩
  have h2 := hd.2.2
  rw [h] at h2
  exact (Option.some.inj h2).symm
theorem runVW (F : CallFix p m c cc nL s args Ts own) (hM : Met l y ws rm Pc Qc mc ms free) (cw : CallBW R s args own index y bytes maxL ret hh ws rm mc ms n) (hin : (Cond.instanceMethod y).before args s = true) (hse : (Cond.selects C y y).before args s = true) (hp : PreV s H C b Pc As)
    (hg : g.method = m) (hn : As.length = n) (hsize : g.locals.size = nL) (hstack : g.stack = As.reverse ++ .ref b :: rest) (hW : 2 * g.monitorRoom + (rest.map fun v => v.category).sum ≤ 8) (hdg : decode cc g.pc = .ok (.invokevirtual index, 3)) (hf : cells + mc ≤ R.cells ∧ slots + ms ≤ R.slots) :
    va_Run p l e R s m args below meth c H locs cells slots mc ms g rest (Qc (Value.ref b :: As).toArray) (free) := by
  obtain ⟨hrc, hrs, hfr, hlo, hws, hcw, hcode, hini, hy, hlen, hl⟩ := cw
  have hK : Back l R p e below s args y 3 8 (PreOf R mc ms Pc) (PostOf Qc mc ms free) := va_backW hM hp.1 hrc hrs hfr hlo hws hcw (fun a' U hW => word_at hW (Or.inl (by first | rfl | simp [Cond.onTables, Cond.keeps, Cond.steady])) hini)
  obtain ⟨hx, hb, hml, ho, -⟩ := F
  obtain ⟨-, ⟨cellB, hcB, hoB, hclB⟩, hPc⟩ := hp
  intro T hT X
  obtain ⟨mk, methM, hnamed, hmethM, hstM, habM⟩ := Cond.instanceMethod_spec hin
  obtain ⟨m9, methM', cM, hn9, hmethM', -, -, -, -, -, -, hsigM⟩ := Cond.codeWith_spec hcode
  cases hnamed.symm.trans hn9
  cases hmethM.symm.trans hmethM'
  obtain ⟨c2, r2, m2, q1, q2, q3, q4, kP, hkP, hkPi⟩ := Cond.selects_spec hse
  cases hclB.symm.trans q1
  cases (State.methodFound?_of_named hnamed hy).symm.trans q2
  cases hnamed.symm.trans q3
  have hselP : selectMethod e.platform s.vm cellB.cls mk = .method mk := by rw [Launch.admits_selectMethod X.admits]; exact q4
  obtain ⟨vm₁, X₁, hstep₁⟩ := X.invokevirtual hx ho hl hnamed hmethM hstM hkP hkPi hy (a := b) (cell := cellB) (by rw [hT]; exact hcB)
    (fun z h => by rw [h] at hoB; cases hoB) hselP hmethM habM hkP hkPi (g := g) hg (argsL := As) (rest := rest) (hn.trans (hlen _ hsigM)) hstack (by rw [hb]; exact hdg)
  obtain ⟨v, ⟨U', l2, c2', s2⟩, X', ⟨g', mk', t, L, e1, e2, hq, h1, hL, h2, h3⟩, hsteps⟩ := hK m meth c ⟨T.setVm vm₁, locs, cells, slots⟩ { g with stack := rest } (.invokevirtual index) mk (Value.ref b :: As).toArray X₁ hg (hsize.trans hml.symm) (by rw [hb]; exact hdg) hW (X₁.named hnamed) ⟨hf.1, hf.2, hPc (T.setVm vm₁) hT X₁.warmed⟩
  dsimp only [Pt.U, Pt.locs, Pt.cells, Pt.slots] at X' e1 e2 h1 h2 h3 hsteps hq
  subst h1; subst h2; subst h3
  exact ⟨v, (T.setVm vm₁).calling g' mk' (Value.ref b :: As).toArray, t, U', L, hT, X', hL, e1, e2, hq, fun target h => hstep₁ _ fun acts => by rw [doInvoke_state]; exact hsteps.trans h⟩
theorem runSW (F : CallFix p m c cc nL s args Ts own) (hM : Met l y ws rm Pc Qc mc ms free) (cw : CallBW R s args own index y bytes maxL ret hh ws rm mc ms n) (hstt : (Cond.static y).before args s = true) (hp : PreS s H Pc As)
    (hg : g.method = m) (hn : As.length = n) (hsize : g.locals.size = nL) (hstack : g.stack = As.reverse ++ rest) (hW : 2 * g.monitorRoom + (rest.map fun v => v.category).sum ≤ 8) (hdg : decode cc g.pc = .ok (.invokestatic index, 3)) (hf : cells + mc ≤ R.cells ∧ slots + ms ≤ R.slots) :
    va_Run p l e R s m args below meth c H locs cells slots mc ms g rest (Qc As.toArray) (free) := by
  obtain ⟨hrc, hrs, hfr, hlo, hws, hcw, hcode, hini, hy, hlen, hl⟩ := cw
  have hK : Back l R p e below s args y 3 8 (PreOf R mc ms Pc) (PostOf Qc mc ms free) := va_backW hM hp.1 hrc hrs hfr hlo hws hcw (fun a' U hW => word_at hW (Or.inl (by first | rfl | simp [Cond.onTables, Cond.keeps, Cond.steady])) hini)
  obtain ⟨hx, hb, hml, ho, -⟩ := F
  intro T hT X
  obtain ⟨mk, methM, cM, hnamed, hmethM, -, -, -, -, -, -, hsigM⟩ := Cond.codeWith_spec hcode
  have hstatic : methM.isStatic = true := Cond.static_spec hnamed hmethM hstt
  obtain ⟨kP, hkP, -⟩ := className_of_methodNamed hnamed
  have hinitP : kP.init = .initialized := Cond.initialized_spec (findClass_of_methodNamed hnamed) hkP hini
  obtain ⟨vm₁, X₁, hstep₁⟩ := X.invokestatic hx ho hl hnamed hmethM hstatic hkP hinitP hy (g := g) hg (argsL := As) (rest := rest) (hn.trans (hlen _ hsigM)) hstack (by rw [hb]; exact hdg)
  obtain ⟨v, ⟨U', l2, c2', s2⟩, X', ⟨g', mk', t, L, e1, e2, hq, h1, hL, h2, h3⟩, hsteps⟩ := hK m meth c ⟨T.setVm vm₁, locs, cells, slots⟩ { g with stack := rest } (.invokestatic index) mk As.toArray X₁ hg (hsize.trans hml.symm) (by rw [hb]; exact hdg) hW (X₁.named hnamed) ⟨hf.1, hf.2, hp.2 (T.setVm vm₁) hT X₁.warmed⟩
  dsimp only [Pt.U, Pt.locs, Pt.cells, Pt.slots] at X' e1 e2 h1 h2 h3 hsteps hq
  subst h1; subst h2; subst h3
  exact ⟨v, (T.setVm vm₁).calling g' mk' As.toArray, t, U', L, hT, X', hL, e1, e2, hq, fun target h => hstep₁ _ fun acts => by rw [doInvoke_state]; exact hsteps.trans h⟩
theorem kvW_i {K : Int32 → S → Prop} (F : CallFix p m c cc nL s args Ts own) (hM : Ct l y wsy rmy D cl tys Xc wc (.ref b :: As) (qi D cl tys wf K) mcy msy) (cw : CallBW R s args own index y bytes maxL ret hh wsy rmy mcy msy n) (hin : (Cond.instanceMethod y).before args s = true) (hse : (Cond.selects C y y).before args s = true)
    (hXb : xBl Xc) (hXg : xGo Xc s A) (hP : va_P D cl w0 H) (hK : va_K D cl tys s) (hD : va_D A w0) (hS : va_S A s.heap H locs) (hA : ∀ q : Nat, s.heap.size ≤ q → A q) (isC isR : List Nat) (hC : isC.map (fun i => w0[i]?) = wc.map some) (hR : isR.map (fun i => w0[i]?) = wr.map some) (hnC : va_nd isC = true) (hnR : va_nd isR = true) (hdis : ∀ i ∈ isR, i ∉ isC)
    {ci : Nat} (hcl : cl[ci]? = some q) (hq : q.1 = C) {q0 : Nat} (hre : w0[q0]? = some (b, .inr (ci, fs))) (hnA : As.length = n) (hsize : ls.size = nL) (hst : st = As.reverse ++ .ref b :: rest) (hW : (rest.map fun v => v.category).sum ≤ 8) (hdg : decode cc pc = .ok (.invokevirtual index, 3)) (hf : cells + mcy ≤ R.cells ∧ slots + msy ≤ R.slots)
    (kk : ∀ (r : Int32) (u : S) (H1 : Heap) (locs1 : List Loc), K r u → va_P D cl (wr ++ wf u) H1 → va_D A (wr ++ wf u) → va_S A s.heap H1 locs1 → W p l e R s m args below meth c H1 locs1 (cells + mcy) (slots + msy) Q (F0 m (pc + 3) ls (.int r :: rest))) :
    W p l e R s m args below meth c H locs cells slots Q (F0 m pc ls st) := by
  subst hq
  have hFc := va_free hD hS hA isC hC
  refine va_calli (runVW (As := As) (rest := rest) F (hM H.size) cw hin hse ⟨z_blind hXb, va_recv hK hP hcl hre, z_pre hXg hS hFc hP hK hD hC hnC⟩ rfl hnA hsize hst (lv_room hW) hdg hf) hS (fun q _ h => hFc q h) hFc (fun r u t H1 locs1 ht hvm hw hB hz1 hk1 hS1 => ?_)
  obtain ⟨hP1, hK1, hD1⟩ := hB
  rw [ht] at hP1
  obtain ⟨hP2, hD2⟩ := va_join hP hD isC isR hC hR hnR hdis hk1 hFc hP1 hD1
  exact kk r u H1 locs1 hw hP2 hD2 hS1
theorem ksW_i {K : Int32 → S → Prop} (F : CallFix p m c cc nL s args Ts own) (hM : Ct l y wsy rmy D cl tys Xc wc As (qi D cl tys wf K) mcy msy) (cw : CallBW R s args own index y bytes maxL ret hh wsy rmy mcy msy n) (hstt : (Cond.static y).before args s = true)
    (hXb : xBl Xc) (hXg : xGo Xc s A) (hP : va_P D cl w0 H) (hK : va_K D cl tys s) (hD : va_D A w0) (hS : va_S A s.heap H locs) (hA : ∀ q : Nat, s.heap.size ≤ q → A q) (isC isR : List Nat) (hC : isC.map (fun i => w0[i]?) = wc.map some) (hR : isR.map (fun i => w0[i]?) = wr.map some) (hnC : va_nd isC = true) (hnR : va_nd isR = true) (hdis : ∀ i ∈ isR, i ∉ isC)
    (hnA : As.length = n) (hsize : ls.size = nL) (hst : st = As.reverse ++ rest) (hW : (rest.map fun v => v.category).sum ≤ 8) (hdg : decode cc pc = .ok (.invokestatic index, 3)) (hf : cells + mcy ≤ R.cells ∧ slots + msy ≤ R.slots)
    (kk : ∀ (r : Int32) (u : S) (H1 : Heap) (locs1 : List Loc), K r u → va_P D cl (wr ++ wf u) H1 → va_D A (wr ++ wf u) → va_S A s.heap H1 locs1 → W p l e R s m args below meth c H1 locs1 (cells + mcy) (slots + msy) Q (F0 m (pc + 3) ls (.int r :: rest))) :
    W p l e R s m args below meth c H locs cells slots Q (F0 m pc ls st) := by
  have hFc := va_free hD hS hA isC hC
  refine va_calli (runSW (As := As) (rest := rest) F (hM H.size) cw hstt ⟨z_blind hXb, z_pre hXg hS hFc hP hK hD hC hnC⟩ rfl hnA hsize hst (lv_room hW) hdg hf) hS (fun q _ h => hFc q h) hFc (fun r u t H1 locs1 ht hvm hw hB hz1 hk1 hS1 => ?_)
  obtain ⟨hP1, hK1, hD1⟩ := hB
  rw [ht] at hP1
  obtain ⟨hP2, hD2⟩ := va_join hP hD isC isR hC hR hnR hdis hk1 hFc hP1 hD1
  exact kk r u H1 locs1 hw hP2 hD2 hS1
end LC2
/-- what an array of references holds beyond its length doesn't matter -/
theorem rf_cell {cA : ClassId} {n : Nat} {f g : Nat → Option Nat} (h : ∀ j, j < n → f j = g j) : vp_cell cA (n, .inr (.inr (.inr (.inr f)))) = vp_cell cA (n, .inr (.inr (.inr (.inr g)))) := by
  show arrV cA n (fun j => va_rf (f j)) = arrV cA n (fun j => va_rf (g j))
  unfold arrV
  have e : (fun j : Fin n => va_rf (f j.val)) = (fun j : Fin n => va_rf (g j.val)) := funext fun j => by rw [h j.val j.isLt]
  rw [e]
theorem kyP {D : va_G} {cl : List vw_C} {ws1 ws2 : va_W} {q n : Nat} {cA : ClassId} {f g : Nat → Option Nat} {H : Heap} (h : ∀ j, j < n → f j = g j) (hP : va_P D cl (ws1 ++ (q, .inl (cA, n, .inr (.inr (.inr (.inr f))))) :: ws2) H) : va_P D cl (ws1 ++ (q, .inl (cA, n, .inr (.inr (.inr (.inr g))))) :: ws2) H := by
  intro k x hx
  by_cases hk : k = ws1.length
  · subst hk
    rw [List.getElem?_append_right (Nat.le_refl _), Nat.sub_self] at hx
    cases hx
    have h1 := hP ws1.length (q, .inl (cA, n, .inr (.inr (.inr (.inr f))))) (by rw [List.getElem?_append_right (Nat.le_refl _), Nat.sub_self]; rfl)
    show H[q]? = some (vp_cell cA (n, .inr (.inr (.inr (.inr g)))))
    rw [← rf_cell h]
    exact h1
  · refine hP k x ?_
    rcases Nat.lt_or_ge k ws1.length with h2 | h2
    · rw [List.getElem?_append_left h2] at hx ⊢; exact hx
    · rw [List.getElem?_append_right h2] at hx ⊢
      obtain ⟨j, hj⟩ : ∃ j, k - ws1.length = j + 1 := ⟨k - ws1.length - 1, by omega⟩
      rw [hj] at hx ⊢
      exact hx
theorem kyD {A : Nat → Prop} {ws1 ws2 : va_W} {q : Nat} {a b : va_E} (hD : va_D A (ws1 ++ (q, a) :: ws2)) : va_D A (ws1 ++ (q, b) :: ws2) := by
  have ad : ∀ (i : Nat) (p : Nat × va_E), (ws1 ++ (q, b) :: ws2)[i]? = some p → ∃ p', (ws1 ++ (q, a) :: ws2)[i]? = some p' ∧ p'.1 = p.1 := by
    intro i p hp
    rcases Nat.lt_trichotomy i ws1.length with h2 | h2 | h2
    · rw [List.getElem?_append_left h2] at hp ⊢; exact ⟨p, hp, rfl⟩
    · subst h2
      rw [List.getElem?_append_right (Nat.le_refl _), Nat.sub_self] at hp ⊢
      cases hp
      exact ⟨_, rfl, rfl⟩
    · rw [List.getElem?_append_right (by omega)] at hp ⊢
      obtain ⟨j, hj⟩ : ∃ j, i - ws1.length = j + 1 := ⟨i - ws1.length - 1, by omega⟩
      rw [hj] at hp ⊢
      exact ⟨p, hp, rfl⟩
  refine ⟨fun i j p r hp hr hpr => ?_, fun k p hp => ?_⟩
  · obtain ⟨p', h1, e1⟩ := ad i p hp
    obtain ⟨r', h2, e2⟩ := ad j r hr
    exact hD.1 i j p' r' h1 h2 (by rw [e1, e2]; exact hpr)
  · obtain ⟨p', h1, e1⟩ := ad k p hp
    rw [← e1]
    exact hD.2 k p' h1
