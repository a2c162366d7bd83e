/-! my own layer over the kit's rows: a contract 'Ct' over a world, its proof out of a walk, a walk's ends, calls -/
abbrev FN : Type := Nat → Int32
abbrev KT : Type := Int32 → FN → FN → FN → FN → FN → Prop
abbrev KTi : Type := Int32 → Int32 → FN → FN → FN → FN → FN → Prop
abbrev KP : Type := Int32 → FN → FN → FN → FN → FN → Int32 → Int32 → Int32 → Prop
abbrev KPi : Type := Int32 → Int32 → FN → FN → FN → FN → FN → Int32 → Int32 → Int32 → Prop
abbrev TP3 : Type := Int32 → FN → FN → FN → FN → FN → Int32 → Int32 → Int32 → Int32 → Int32 → Int32 → KP → Prop
abbrev TP1 : Type := Int32 → FN → FN → FN → FN → FN → Int32 → Int32 → Int32 → Int32 → KP → Prop
abbrev TY : Type := List (ClassId × FieldType)
abbrev XE : Type := (Nat → Prop) → State → Prop
def X0 : XE := fun _ _ => True
def xBl (X : XE) : Prop := ∀ (B : Nat → Prop) (U : State) (g : JFrame) (mk : MethodId) (a : Array Value), X B U → X B (U.calling g mk a)
def xGo (X : XE) (s : State) (A : Nat → Prop) : Prop := ∀ (B : Nat → Prop) (U : State) (locs : List Loc), (∀ q, B q → A q) → va_S A s.heap U.heap locs → s.WarmedH U.vm → X B U
theorem x0b : xBl X0 := fun _ _ _ _ _ _ => trivial
theorem x0g {s : State} {A : Nat → Prop} : xGo X0 s A := fun _ _ _ _ _ _ => trivial
def rmk (f c s : Nat) : Room := { frames := f, cells := c, slots := s, locals := 30 * f }
theorem rk {a b c1 s1 c2 s2 L : Nat} (h : a + 1 ≤ b) (hL : L ≤ 11) : (rmk a c1 s1).frames + 1 ≤ (rmk b c2 s2).frames ∧ 8 + (L + 11) + (rmk a c1 s1).locals ≤ (rmk b c2 s2).locals := ⟨h, by show 8 + (L + 11) + 30 * a ≤ 30 * b; omega⟩
def zB {S : Type} (D : va_G) (cl : List vw_C) (tys : TY) (wf : S → va_W) (A : Nat → Prop) (u : S) (t : State) : Prop := va_P D cl (wf u) t.heap ∧ va_K D cl tys t ∧ va_D A (wf u)
def Pz (D : va_G) (cl : List vw_C) (tys : TY) (X : XE) (w0 : va_W) (sz : Nat) : State → Prop := fun U => U.heap.size = sz ∧ va_P D cl w0 U.heap ∧ va_K D cl tys U ∧ va_D (fun _ => True) w0 ∧ X (va_A w0 sz) U
def Ct (l : Launch) (y : MethodName) (ws : List Cond) (rm : Room) (D : va_G) (cl : List vw_C) (tys : TY) (X : XE) (w0 : va_W) (av : List Value) (Qc : (Nat → Prop) → Array Value → State → Outcome → State → Prop) (mc ms : Nat) : Prop :=
  ∀ sz : Nat, Met l y ws rm (va_Pc av (Pz D cl tys X w0 sz)) (Qc (va_A w0 sz)) mc ms (va_A w0 sz)
def qv {S : Type} (D : va_G) (cl : List vw_C) (tys : TY) (wf : S → va_W) (K : S → Prop) (A : Nat → Prop) : Array Value → State → Outcome → State → Prop := va_Qv K (zB D cl tys wf A) A
def qi {S : Type} (D : va_G) (cl : List vw_C) (tys : TY) (wf : S → va_W) (K : Int32 → S → Prop) (A : Nat → Prop) : Array Value → State → Outcome → State → Prop := va_Qi K (zB D cl tys wf A) A
def ql {S : Type} (D : va_G) (cl : List vw_C) (tys : TY) (wf : S → va_W) (K : Int64 → S → Prop) (A : Nat → Prop) : Array Value → State → Outcome → State → Prop := va_Ql K (zB D cl tys wf A) A
def Fx (p : Program) (s : State) (m : MethodId) (ar : Array Value) (meth : Method) (c : Code) (cc : ByteArray) (nL : Nat) (ret : Option FieldType) (own : String) (Ts : List Cond) (nm : String) : Prop :=
  p.tables.exec = Jvm.exec ∧ c.code = cc ∧ c.maxLocals = nL ∧ meth.sig.returnType = ret ∧ meth.locks = false ∧ s.vm.findClass own = some m.cls ∧ (∀ w ∈ Ts, w.before ar s = true) ∧ meth.name = nm
theorem m_of {l : Launch} {y : MethodName} {ws ws' : List Cond} {rm : Room} {D : va_G} {cl : List vw_C} {tys : TY} {X : XE} {w0 : va_W} {av : List Value} {Qc : (Nat → Prop) → Array Value → State → Outcome → State → Prop} {mc ms : Nat} {cc : ByteArray} {nL : Nat} {ret : Option FieldType}
    (hy : plainName y.cls = true) (hw : ws = Cond.code y cc nL ret :: ws') (hn : (lg_sl av).length ≤ nL)
    (body : ∀ (p : Program) (e : Env) (s : State) (m : MethodId) (below : List Frame) (meth : Method) (c : Code) (ls : Array Slot) (A : Nat → Prop) (ar : Array Value), Fx p s m ar meth c cc nL ret y.cls ws y.name → (∀ q : Nat, s.heap.size ≤ q → A q) → va_P D cl w0 s.heap → va_K D cl tys s → va_D A w0 → va_S A s.heap s.heap [] → X A s → lv_has ls nL (lv_args 0 av) →
      W p l e rm s m ar below meth c s.heap [] 0 0 (MQ below (Qc A) ar s mc ms A) (F0 m 0 ls [])) : Ct l y ws rm D cl tys X w0 av Qc mc ms := by
  intro sz
  refine Met.ofW (cc := cc) (maxL := nL) (ret := ret) hy hw ?_
  intro p e s m args below meth c s₁ B hml hv
  obtain ⟨rfl, hsz, hP, hK, hD0, hX⟩ := hv
  subst hsz
  have hl := lv_entry av (n := nL) hn
  rw [lg_entry_eq]
  exact body p e s m below meth c _ _ _ ⟨B.exec, B.bytes, hml, B.returns, B.notSynchronized, findClass_of_methodNamed B.named, atoms_spec (ws := ws) B.pre, (name_of_methodNamed B.named B.method).1⟩ (fun q h => Or.inr h) hP hK hD0.self va_S.rf hX hl
section LY
variable {p : Program} {l : Launch} {e : Env} {R : Room} {s : State} {m : MethodId} {args : Array Value} {below : List Frame} {meth : Method} {c : Code} {H H0 : Heap} {locs : List Loc} {cells slots : Nat} {Q : State → Prop}
variable {pc : Nat} {ls : Array Slot} {rest st : List Value} {cc : ByteArray} {D : va_G} {cl : List vw_C} {tys : TY} {A : Nat → Prop} {S : Type} {wf : S → va_W} {mc ms : Nat}
theorem r_v {K : S → Prop} (hx : p.tables.exec = Jvm.exec) (hb : c.code = cc) (hr : meth.sig.returnType = none) (hlocks : meth.locks = false) (u : S) (hk : K u) (hP : va_P D cl (wf u) H) (hK : va_K D cl tys s) (hD : va_D A (wf u)) (hS : va_S A s.heap H locs) (h1 : cells ≤ mc) (h2 : slots ≤ ms) (hdg : decode cc pc = .ok (.return_, 1)) :
    W p l e R s m args below meth c H locs cells slots (MQ below (qv D cl tys wf K A) args s mc ms A) (F0 m pc ls []) :=
  W.widen h1 h2 (W.vret hx hb hr (fun t ht hW => ⟨⟨u, rfl, hk, by rw [ht]; exact hP, va_K.moved hW.alike hK, hD⟩, hS.F ht⟩) hS.2.2 hdg hlocks)
theorem r_i {K : Int32 → S → Prop} (hx : p.tables.exec = Jvm.exec) (hb : c.code = cc) (hr : meth.sig.returnType = some .int) (hlocks : meth.locks = false) (v : Int32) (u : S) (hk : K v u) (hP : va_P D cl (wf u) H) (hK : va_K D cl tys s) (hD : va_D A (wf u)) (hS : va_S A s.heap H locs) (h1 : cells ≤ mc) (h2 : slots ≤ ms) (hdg : decode cc pc = .ok (.ireturn, 1)) :
    W p l e R s m args below meth c H locs cells slots (MQ below (qi D cl tys wf K A) args s mc ms A) (F0 m pc ls [.int v]) :=
  W.widen h1 h2 (W.iret hx hb hr (fun t ht hW => ⟨⟨v, u, rfl, hk, by rw [ht]; exact hP, va_K.moved hW.alike hK, hD⟩, hS.F ht⟩) hS.2.2 hdg hlocks)
theorem r_z {K : Int32 → S → Prop} (hx : p.tables.exec = Jvm.exec) (hb : c.code = cc) (hr : meth.sig.returnType = some .boolean) {v0 : Int32} (hn : narrow .boolean (.int v0) = .int v0) (hlocks : meth.locks = false) (v : Int32) (u : S) (hk : K v u) (hP : va_P D cl (wf u) H) (hK : va_K D cl tys s) (hD : va_D A (wf u)) (hS : va_S A s.heap H locs) (h1 : cells ≤ mc) (h2 : slots ≤ ms) (hdg : decode cc pc = .ok (.ireturn, 1)) (hv : v0 = v := by rfl) :
    W p l e R s m args below meth c H locs cells slots (MQ below (qi D cl tys wf K A) args s mc ms A) (F0 m pc ls [.int v]) := by
  subst hv
  exact W.widen h1 h2 (W.zret hx hb hr hn (fun t ht hW => ⟨⟨v0, u, rfl, hk, by rw [ht]; exact hP, va_K.moved hW.alike hK, hD⟩, hS.F ht⟩) hS.2.2 hdg hlocks)
theorem r_l {K : Int64 → S → Prop} (hx : p.tables.exec = Jvm.exec) (hb : c.code = cc) (hr : meth.sig.returnType = some .long) (hlocks : meth.locks = false) (v : Int64) (u : S) (hk : K v u) (hP : va_P D cl (wf u) H) (hK : va_K D cl tys s) (hD : va_D A (wf u)) (hS : va_S A s.heap H locs) (h1 : cells ≤ mc) (h2 : slots ≤ ms) (hdg : decode cc pc = .ok (.lreturn, 1)) :
    W p l e R s m args below meth c H locs cells slots (MQ below (ql D cl tys wf K A) args s mc ms A) (F0 m pc ls [.long v]) :=
  W.widen h1 h2 (W.lret hx hb hr (fun t ht hW => ⟨⟨v, u, rfl, hk, by rw [ht]; exact hP, va_K.moved hW.alike hK, hD⟩, hS.F ht⟩) hS.2.2 hdg hlocks)
theorem z_blind {X : XE} {w0 : va_W} {sz : Nat} {av : List Value} (hXb : xBl X) : FrameBlind (va_Pc av (Pz D cl tys X w0 sz)) := fun a U g mk q => by
  obtain ⟨q0, q1, qP, qK, qD, qX⟩ := q
  exact ⟨q0, q1, qP, va_K.moved (u := U) (U := U.calling g mk a) (Vm.Alike.refl U.vm) qK, qD, hXb _ _ _ _ _ qX⟩
theorem z_subP {w0 wc : va_W} {isC : List Nat} (hP : va_P D cl w0 H) (hC : isC.map (fun i => w0[i]?) = wc.map some) : va_P D cl wc H := by
  refine hP.sub isC ?_
  have h : isC.filterMap (fun i => w0[i]?) = (isC.map (fun i => w0[i]?)).filterMap id := by
    rw [List.filterMap_map]; rfl
  rw [h, hC, List.filterMap_map]
  exact List.filterMap_some
theorem z_pre {X : XE} {w0 wc : va_W} {isC : List Nat} {av : List Value} (hXg : xGo X s A) (hS : va_S A s.heap H locs) (hF : ∀ q, va_A wc H.size q → A q) (hP : va_P D cl w0 H) (hK : va_K D cl tys s) (hD : va_D A w0) (hC : isC.map (fun i => w0[i]?) = wc.map some) (hnC : va_nd isC = true) : ∀ U : State, U.heap = H → s.WarmedH U.vm → va_Pc av (Pz D cl tys X wc H.size) av.toArray U :=
  fun U hU hW => ⟨rfl, by rw [hU], by rw [hU]; exact z_subP hP hC, va_K.moved hW.alike hK, (hD.sub isC hnC hC).weaken (fun _ _ _ _ => trivial), hXg _ U locs hF (by rw [hU]; exact hS) hW⟩
variable {y : MethodName} {bytes : ByteArray} {maxL nL n index : Nat} {ret : Option FieldType} {wsy Ts : List Cond} {rmy : Room} {own C : String} {wc wr w0 : va_W} {b : Nat} {As : List Value} {q : vw_C} {fs : List Value} {mcy msy : Nat} {Xc : XE}
theorem kv_i {K : Int32 → S → Prop} (F : CallFix p m c cc nL s args Ts own) (hM : Ct l y wsy rmy D cl tys Xc wc (.ref b :: As) (qi D cl tys wf K) mcy msy) (cw : CallW R s args own C index y bytes maxL ret wsy rmy mcy msy n)
    (hXb : xBl Xc) (hXg : xGo Xc s A) (hP : va_P D cl w0 H) (hK : va_K D cl tys s) (hD : va_D A w0) (hS : va_S A s.heap H locs) (hA : ∀ q : Nat, s.heap.size ≤ q → A q) (isC isR : List Nat) (hC : isC.map (fun i => w0[i]?) = wc.map some) (hR : isR.map (fun i => w0[i]?) = wr.map some) (hnC : va_nd isC = true) (hnR : va_nd isR = true) (hdis : ∀ i ∈ isR, i ∉ isC)
    {ci : Nat} (hcl : cl[ci]? = some q) (hq : q.1 = C) {q0 : Nat} (hre : w0[q0]? = some (b, .inr (ci, fs))) (hnA : As.length = n) (hsize : ls.size = nL) (hst : st = As.reverse ++ .ref b :: rest) (hW : (rest.map fun v => v.category).sum ≤ 8) (hdg : decode cc pc = .ok (.invokevirtual index, 3)) (hf : cells + mcy ≤ R.cells ∧ slots + msy ≤ R.slots)
    (kk : ∀ (r : Int32) (u : S) (H1 : Heap) (locs1 : List Loc), K r u → va_P D cl (wr ++ wf u) H1 → va_D A (wr ++ wf u) → va_S A s.heap H1 locs1 → W p l e R s m args below meth c H1 locs1 (cells + mcy) (slots + msy) Q (F0 m (pc + 3) ls (.int r :: rest))) :
    W p l e R s m args below meth c H locs cells slots Q (F0 m pc ls st) := by
  subst hq
  have hFc := va_free hD hS hA isC hC
  refine va_calli (va_runV (As := As) (rest := rest) F (hM H.size) cw ⟨z_blind hXb, va_recv hK hP hcl hre, z_pre hXg hS hFc hP hK hD hC hnC⟩ rfl hnA hsize hst (lv_room hW) hdg hf) hS (fun q _ h => hFc q h) hFc (fun r u t H1 locs1 ht hvm hw hB hz1 hk1 hS1 => ?_)
  obtain ⟨hP1, hK1, hD1⟩ := hB
  rw [ht] at hP1
  obtain ⟨hP2, hD2⟩ := va_join hP hD isC isR hC hR hnR hdis hk1 hFc hP1 hD1
  exact kk r u H1 locs1 hw hP2 hD2 hS1
theorem kv_l {K : Int64 → S → Prop} (F : CallFix p m c cc nL s args Ts own) (hM : Ct l y wsy rmy D cl tys Xc wc (.ref b :: As) (ql D cl tys wf K) mcy msy) (cw : CallW R s args own C index y bytes maxL ret wsy rmy mcy msy n)
    (hXb : xBl Xc) (hXg : xGo Xc s A) (hP : va_P D cl w0 H) (hK : va_K D cl tys s) (hD : va_D A w0) (hS : va_S A s.heap H locs) (hA : ∀ q : Nat, s.heap.size ≤ q → A q) (isC isR : List Nat) (hC : isC.map (fun i => w0[i]?) = wc.map some) (hR : isR.map (fun i => w0[i]?) = wr.map some) (hnC : va_nd isC = true) (hnR : va_nd isR = true) (hdis : ∀ i ∈ isR, i ∉ isC)
    {ci : Nat} (hcl : cl[ci]? = some q) (hq : q.1 = C) {q0 : Nat} (hre : w0[q0]? = some (b, .inr (ci, fs))) (hnA : As.length = n) (hsize : ls.size = nL) (hst : st = As.reverse ++ .ref b :: rest) (hW : (rest.map fun v => v.category).sum ≤ 8) (hdg : decode cc pc = .ok (.invokevirtual index, 3)) (hf : cells + mcy ≤ R.cells ∧ slots + msy ≤ R.slots)
    (kk : ∀ (r : Int64) (u : S) (H1 : Heap) (locs1 : List Loc), K r u → va_P D cl (wr ++ wf u) H1 → va_D A (wr ++ wf u) → va_S A s.heap H1 locs1 → W p l e R s m args below meth c H1 locs1 (cells + mcy) (slots + msy) Q (F0 m (pc + 3) ls (.long r :: rest))) :
    W p l e R s m args below meth c H locs cells slots Q (F0 m pc ls st) := by
  subst hq
  have hFc := va_free hD hS hA isC hC
  refine va_calll (va_runV (As := As) (rest := rest) F (hM H.size) cw ⟨z_blind hXb, va_recv hK hP hcl hre, z_pre hXg hS hFc hP hK hD hC hnC⟩ rfl hnA hsize hst (lv_room hW) hdg hf) hS (fun q _ h => hFc q h) hFc (fun r u t H1 locs1 ht hvm hw hB hz1 hk1 hS1 => ?_)
  obtain ⟨hP1, hK1, hD1⟩ := hB
  rw [ht] at hP1
  obtain ⟨hP2, hD2⟩ := va_join hP hD isC isR hC hR hnR hdis hk1 hFc hP1 hD1
  exact kk r u H1 locs1 hw hP2 hD2 hS1
theorem kv_v {K : S → Prop} (F : CallFix p m c cc nL s args Ts own) (hM : Ct l y wsy rmy D cl tys Xc wc (.ref b :: As) (qv D cl tys wf K) mcy msy) (cw : CallW R s args own C index y bytes maxL ret wsy rmy mcy msy n)
    (hXb : xBl Xc) (hXg : xGo Xc s A) (hP : va_P D cl w0 H) (hK : va_K D cl tys s) (hD : va_D A w0) (hS : va_S A s.heap H locs) (hA : ∀ q : Nat, s.heap.size ≤ q → A q) (isC isR : List Nat) (hC : isC.map (fun i => w0[i]?) = wc.map some) (hR : isR.map (fun i => w0[i]?) = wr.map some) (hnC : va_nd isC = true) (hnR : va_nd isR = true) (hdis : ∀ i ∈ isR, i ∉ isC)
    {ci : Nat} (hcl : cl[ci]? = some q) (hq : q.1 = C) {q0 : Nat} (hre : w0[q0]? = some (b, .inr (ci, fs))) (hnA : As.length = n) (hsize : ls.size = nL) (hst : st = As.reverse ++ .ref b :: rest) (hW : (rest.map fun v => v.category).sum ≤ 8) (hdg : decode cc pc = .ok (.invokevirtual index, 3)) (hf : cells + mcy ≤ R.cells ∧ slots + msy ≤ R.slots)
    (kk : ∀ (u : S) (H1 : Heap) (locs1 : List Loc), K u → va_P D cl (wr ++ wf u) H1 → va_D A (wr ++ wf u) → va_S A s.heap H1 locs1 → W p l e R s m args below meth c H1 locs1 (cells + mcy) (slots + msy) Q (F0 m (pc + 3) ls rest)) :
    W p l e R s m args below meth c H locs cells slots Q (F0 m pc ls st) := by
  subst hq
  have hFc := va_free hD hS hA isC hC
  refine va_callv (va_runV (As := As) (rest := rest) F (hM H.size) cw ⟨z_blind hXb, va_recv hK hP hcl hre, z_pre hXg hS hFc hP hK hD hC hnC⟩ rfl hnA hsize hst (lv_room hW) hdg hf) hS (fun q _ h => hFc q h) hFc (fun u t H1 locs1 ht hvm hw hB hz1 hk1 hS1 => ?_)
  obtain ⟨hP1, hK1, hD1⟩ := hB
  rw [ht] at hP1
  obtain ⟨hP2, hD2⟩ := va_join hP hD isC isR hC hR hnR hdis hk1 hFc hP1 hD1
  exact kk u H1 locs1 hw hP2 hD2 hS1
theorem ks_i {K : Int32 → S → Prop} (F : CallFix p m c cc nL s args Ts own) (hM : Ct l y wsy rmy D cl tys Xc wc As (qi D cl tys wf K) mcy msy) (cw : CallB R s args own index y bytes maxL ret wsy rmy mcy msy n ∧ (Cond.static y).before args s = true)
    (hXb : xBl Xc) (hXg : xGo Xc s A) (hP : va_P D cl w0 H) (hK : va_K D cl tys s) (hD : va_D A w0) (hS : va_S A s.heap H locs) (hA : ∀ q : Nat, s.heap.size ≤ q → A q) (isC isR : List Nat) (hC : isC.map (fun i => w0[i]?) = wc.map some) (hR : isR.map (fun i => w0[i]?) = wr.map some) (hnC : va_nd isC = true) (hnR : va_nd isR = true) (hdis : ∀ i ∈ isR, i ∉ isC)
    (hnA : As.length = n) (hsize : ls.size = nL) (hst : st = As.reverse ++ rest) (hW : (rest.map fun v => v.category).sum ≤ 8) (hdg : decode cc pc = .ok (.invokestatic index, 3)) (hf : cells + mcy ≤ R.cells ∧ slots + msy ≤ R.slots)
    (kk : ∀ (r : Int32) (u : S) (H1 : Heap) (locs1 : List Loc), K r u → va_P D cl (wr ++ wf u) H1 → va_D A (wr ++ wf u) → va_S A s.heap H1 locs1 → W p l e R s m args below meth c H1 locs1 (cells + mcy) (slots + msy) Q (F0 m (pc + 3) ls (.int r :: rest))) :
    W p l e R s m args below meth c H locs cells slots Q (F0 m pc ls st) := by
  have hFc := va_free hD hS hA isC hC
  refine va_calli (va_runS (As := As) (rest := rest) F (hM H.size) cw ⟨z_blind hXb, z_pre hXg hS hFc hP hK hD hC hnC⟩ rfl hnA hsize hst (lv_room hW) hdg hf) hS (fun q _ h => hFc q h) hFc (fun r u t H1 locs1 ht hvm hw hB hz1 hk1 hS1 => ?_)
  obtain ⟨hP1, hK1, hD1⟩ := hB
  rw [ht] at hP1
  obtain ⟨hP2, hD2⟩ := va_join hP hD isC isR hC hR hnR hdis hk1 hFc hP1 hD1
  exact kk r u H1 locs1 hw hP2 hD2 hS1
end LY
/-! methods that only read: the heap stays as it is -/
def qR (K : Int32 → Prop) : Array Value → State → Outcome → State → Prop := fun _ st o t => (∃ r : Int32, o = .returned (some (.int r)) ∧ K r) ∧ t.heap = st.heap
def qL (K : Int64 → Prop) : Array Value → State → Outcome → State → Prop := fun _ st o t => (∃ r : Int64, o = .returned (some (.long r)) ∧ K r) ∧ t.heap = st.heap
def PzR (D : va_G) (cl : List vw_C) (tys : TY) (X : XE) (w0 : va_W) : State → Prop := fun U => va_P D cl w0 U.heap ∧ va_K D cl tys U ∧ X (fun _ => False) U
def CtR (l : Launch) (y : MethodName) (ws : List Cond) (rm : Room) (D : va_G) (cl : List vw_C) (tys : TY) (X : XE) (w0 : va_W) (av : List Value) (Qc : Array Value → State → Outcome → State → Prop) : Prop :=
  Met l y ws rm (va_Pc av (PzR D cl tys X w0)) Qc 0 0 (fun _ => False)
theorem m_ofR {l : Launch} {y : MethodName} {ws ws' : List Cond} {rm : Room} {D : va_G} {cl : List vw_C} {tys : TY} {X : XE} {w0 : va_W} {av : List Value} {Qc : Array Value → State → Outcome → State → Prop} {cc : ByteArray} {nL : Nat} {ret : Option FieldType}
    (hy : plainName y.cls = true) (hw : ws = Cond.code y cc nL ret :: ws') (hn : (lg_sl av).length ≤ nL)
    (body : ∀ (p : Program) (e : Env) (s : State) (m : MethodId) (below : List Frame) (meth : Method) (c : Code) (ls : Array Slot) (ar : Array Value), Fx p s m ar meth c cc nL ret y.cls ws y.name → va_P D cl w0 s.heap → va_K D cl tys s → X (fun _ => False) s → lv_has ls nL (lv_args 0 av) →
      W p l e rm s m ar below meth c s.heap [] 0 0 (MQ below Qc ar s 0 0 (fun _ => False)) (F0 m 0 ls [])) : CtR l y ws rm D cl tys X w0 av Qc := by
  refine Met.ofW (cc := cc) (maxL := nL) (ret := ret) hy hw ?_
  intro p e s m args below meth c s₁ B hml hv
  obtain ⟨rfl, hP, hK, hX⟩ := hv
  have hl := lv_entry av (n := nL) hn
  rw [lg_entry_eq]
  exact body p e s m below meth c _ _ ⟨B.exec, B.bytes, hml, B.returns, B.notSynchronized, findClass_of_methodNamed B.named, atoms_spec (ws := ws) B.pre, (name_of_methodNamed B.named B.method).1⟩ hP hK hX hl
section LR
variable {p : Program} {l : Launch} {e : Env} {R : Room} {s : State} {m : MethodId} {args : Array Value} {below : List Frame} {meth : Method} {c : Code} {H : Heap} {locs : List Loc} {cells slots : Nat} {Q : State → Prop}
variable {pc : Nat} {ls : Array Slot} {rest st : List Value} {cc : ByteArray} {D : va_G} {cl : List vw_C} {tys : TY}
theorem rr_i {K : Int32 → Prop} (hx : p.tables.exec = Jvm.exec) (hb : c.code = cc) (hr : meth.sig.returnType = some .int) (hlocks : meth.locks = false) (v : Int32) (hk : K v) (hdg : decode cc pc = .ok (.ireturn, 1)) :
    W p l e R s m args below meth c s.heap [] 0 0 (MQ below (qR K) args s 0 0 (fun _ => False)) (F0 m pc ls [.int v]) :=
  W.iret hx hb hr (fun t ht hW => ⟨⟨v, rfl, hk⟩, ht⟩) (fun q h => by cases h) hdg hlocks
theorem rr_z {K : Int32 → Prop} (hx : p.tables.exec = Jvm.exec) (hb : c.code = cc) (hr : meth.sig.returnType = some .boolean) {v0 : Int32} (hn : narrow .boolean (.int v0) = .int v0) (hlocks : meth.locks = false) (v : Int32) (hk : K v) (hdg : decode cc pc = .ok (.ireturn, 1)) (hv : v0 = v := by rfl) :
    W p l e R s m args below meth c s.heap [] 0 0 (MQ below (qR K) args s 0 0 (fun _ => False)) (F0 m pc ls [.int v]) := by
  subst hv
  exact W.zret hx hb hr hn (fun t ht hW => ⟨⟨v0, rfl, hk⟩, ht⟩) (fun q h => by cases h) hdg hlocks
theorem rr_l {K : Int64 → Prop} (hx : p.tables.exec = Jvm.exec) (hb : c.code = cc) (hr : meth.sig.returnType = some .long) (hlocks : meth.locks = false) (v : Int64) (hk : K v) (hdg : decode cc pc = .ok (.lreturn, 1)) :
    W p l e R s m args below meth c s.heap [] 0 0 (MQ below (qL K) args s 0 0 (fun _ => False)) (F0 m pc ls [.long v]) :=
  W.lret hx hb hr (fun t ht hW => ⟨⟨v, rfl, hk⟩, ht⟩) (fun q h => by cases h) hdg hlocks
theorem zr_blind {X : XE} {w0 : va_W} {av : List Value} (hXb : xBl X) : FrameBlind (va_Pc av (PzR D cl tys X w0)) := fun a U g mk q => by
  obtain ⟨q0, qP, qK, qX⟩ := q
  exact ⟨q0, qP, va_K.moved (u := U) (U := U.calling g mk a) (Vm.Alike.refl U.vm) qK, hXb _ _ _ _ _ qX⟩
variable {y : MethodName} {bytes : ByteArray} {maxL nL n index : Nat} {ret : Option FieldType} {wsy Ts : List Cond} {rmy : Room} {own C : String} {wc w0 : va_W} {b : Nat} {As : List Value} {q : vw_C} {fs : List Value} {Xc : XE}
theorem krv_i {K : Int32 → Prop} (F : CallFix p m c cc nL s args Ts own) (hM : CtR l y wsy rmy D cl tys Xc wc (.ref b :: As) (qR K)) (cw : CallW R s args own C index y bytes maxL ret wsy rmy 0 0 n)
    (hXb : xBl Xc) (hXc : ∀ U : State, U.heap = H → s.WarmedH U.vm → Xc (fun _ => False) U) (hP : va_P D cl w0 H) (hK : va_K D cl tys s) (isC : List Nat) (hC : isC.map (fun i => w0[i]?) = wc.map some)
    {ci : Nat} (hcl : cl[ci]? = some q) (hq : q.1 = C) {q0 : Nat} (hre : w0[q0]? = some (b, .inr (ci, fs))) (hnA : As.length = n) (hsize : ls.size = nL) (hst : st = As.reverse ++ .ref b :: rest) (hW : (rest.map fun v => v.category).sum ≤ 8) (hdg : decode cc pc = .ok (.invokevirtual index, 3)) (hf : cells + 0 ≤ R.cells ∧ slots + 0 ≤ R.slots)
    (kk : ∀ r : Int32, K r → W p l e R s m args below meth c H locs cells slots Q (F0 m (pc + 3) ls (.int r :: rest))) :
    W p l e R s m args below meth c H locs cells slots Q (F0 m pc ls st) := by
  subst hq
  have hr := va_runV (e := e) (As := As) (rest := rest) (locs := locs) (cells := cells) (slots := slots) (below := below) (meth := meth) (g := F0 m pc ls st) F hM cw ⟨zr_blind hXb, va_recv hK hP hcl hre, fun U hU hW => ⟨rfl, by rw [hU]; exact z_subP hP hC, va_K.moved hW.alike hK, hXc U hU hW⟩⟩ rfl hnA hsize hst (lv_room hW) hdg hf
  intro T hT X
  obtain ⟨v, st₀, t, T', L, h0, X', hL, e1, e2, ⟨⟨r, hv, hk⟩, hh⟩, go⟩ := hr T hT X
  cases hv
  have hL0 : L = [] := by
    cases L with
    | nil => rfl
    | cons a L' => exact (hL a List.mem_cons_self).elim
  subst hL0
  rw [List.append_nil] at X'
  obtain ⟨t2, a1, b1⟩ := kk r hk T' (by rw [e1, hh, h0]) X'
  exact ⟨t2, go _ a1, b1⟩
theorem krv_l {K : Int64 → Prop} (F : CallFix p m c cc nL s args Ts own) (hM : CtR l y wsy rmy D cl tys Xc wc (.ref b :: As) (qL K)) (cw : CallW R s args own C index y bytes maxL ret wsy rmy 0 0 n)
    (hXb : xBl Xc) (hXc : ∀ U : State, U.heap = H → s.WarmedH U.vm → Xc (fun _ => False) U) (hP : va_P D cl w0 H) (hK : va_K D cl tys s) (isC : List Nat) (hC : isC.map (fun i => w0[i]?) = wc.map some)
    {ci : Nat} (hcl : cl[ci]? = some q) (hq : q.1 = C) {q0 : Nat} (hre : w0[q0]? = some (b, .inr (ci, fs))) (hnA : As.length = n) (hsize : ls.size = nL) (hst : st = As.reverse ++ .ref b :: rest) (hW : (rest.map fun v => v.category).sum ≤ 8) (hdg : decode cc pc = .ok (.invokevirtual index, 3)) (hf : cells + 0 ≤ R.cells ∧ slots + 0 ≤ R.slots)
    (kk : ∀ r : Int64, K r → W p l e R s m args below meth c H locs cells slots Q (F0 m (pc + 3) ls (.long r :: rest))) :
    W p l e R s m args below meth c H locs cells slots Q (F0 m pc ls st) := by
  subst hq
  have hr := va_runV (e := e) (As := As) (rest := rest) (locs := locs) (cells := cells) (slots := slots) (below := below) (meth := meth) (g := F0 m pc ls st) F hM cw ⟨zr_blind hXb, va_recv hK hP hcl hre, fun U hU hW => ⟨rfl, by rw [hU]; exact z_subP hP hC, va_K.moved hW.alike hK, hXc U hU hW⟩⟩ rfl hnA hsize hst (lv_room hW) hdg hf
  intro T hT X
  obtain ⟨v, st₀, t, T', L, h0, X', hL, e1, e2, ⟨⟨r, hv, hk⟩, hh⟩, go⟩ := hr T hT X
  cases hv
  have hL0 : L = [] := by
    cases L with
    | nil => rfl
    | cons a L' => exact (hL a List.mem_cons_self).elim
  subst hL0
  rw [List.append_nil] at X'
  obtain ⟨t2, a1, b1⟩ := kk r hk T' (by rw [e1, hh, h0]) X'
  exact ⟨t2, go _ a1, b1⟩
theorem krs_i {K : Int32 → Prop} (F : CallFix p m c cc nL s args Ts own) (hM : CtR l y wsy rmy D cl tys Xc wc As (qR K)) (cw : CallB R s args own index y bytes maxL ret wsy rmy 0 0 n ∧ (Cond.static y).before args s = true)
    (hXb : xBl Xc) (hXc : ∀ U : State, U.heap = H → s.WarmedH U.vm → Xc (fun _ => False) U) (hP : va_P D cl w0 H) (hK : va_K D cl tys s) (isC : List Nat) (hC : isC.map (fun i => w0[i]?) = wc.map some)
    (hnA : As.length = n) (hsize : ls.size = nL) (hst : st = As.reverse ++ rest) (hW : (rest.map fun v => v.category).sum ≤ 8) (hdg : decode cc pc = .ok (.invokestatic index, 3)) (hf : cells + 0 ≤ R.cells ∧ slots + 0 ≤ R.slots)
    (kk : ∀ r : Int32, K r → W p l e R s m args below meth c H locs cells slots Q (F0 m (pc + 3) ls (.int r :: rest))) :
    W p l e R s m args below meth c H locs cells slots Q (F0 m pc ls st) := by
  have hr := va_runS (e := e) (As := As) (rest := rest) (locs := locs) (cells := cells) (slots := slots) (below := below) (meth := meth) (g := F0 m pc ls st) F hM cw ⟨zr_blind hXb, fun U hU hW => ⟨rfl, by rw [hU]; exact z_subP hP hC, va_K.moved hW.alike hK, hXc U hU hW⟩⟩ rfl hnA hsize hst (lv_room hW) hdg hf
  intro T hT X
  obtain ⟨v, st₀, t, T', L, h0, X', hL, e1, e2, ⟨⟨r, hv, hk⟩, hh⟩, go⟩ := hr T hT X
  cases hv
  have hL0 : L = [] := by
    cases L with
    | nil => rfl
    | cons a L' => exact (hL a List.mem_cons_self).elim
  subst hL0
  rw [List.append_nil] at X'
  obtain ⟨t2, a1, b1⟩ := kk r hk T' (by rw [e1, hh, h0]) X'
  exact ⟨t2, go _ a1, b1⟩
end LR
