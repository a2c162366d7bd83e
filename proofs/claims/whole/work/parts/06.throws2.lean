def NoTr (l : Launch) : Prop := ∀ e : Env, l.admits e → e.platform.stackTraces = false
def excA (XC : String) (a : Nat) (t : State) : Prop := ∃ cell : Cell, t.heap[a]? = some cell ∧ cell.vm.isStatics = false ∧ t.vm.findClass XC = some cell.cls
def kRv {S : Type} (K : S → Prop) : Option Value → S → Prop := fun v u => v = none ∧ K u
def kRi {S : Type} (K : Int32 → S → Prop) : Option Value → S → Prop := fun v u => ∃ r : Int32, v = some (.int r) ∧ K r u
def kRl {S : Type} (K : Int64 → S → Prop) : Option Value → S → Prop := fun v u => ∃ r : Int64, v = some (.long r) ∧ K r u
def qX {S : Type} (D : va_G) (cl : List vw_C) (tys : TY) (wf : S → va_W) (KR : Option Value → S → Prop) (E : S → Prop) (XC : String) (A : Nat → Prop) : Array Value → State → Outcome → State → Prop := fun _ st oc t =>
  ((∃ v u, oc = .returned v ∧ KR v u ∧ zB D cl tys wf A u t) ∨ (∃ a u, oc = .threw a ∧ E u ∧ zB D cl tys wf A u t ∧ excA XC a t)) ∧ va_F A st t
def CtX (l : Launch) (y : MethodName) (ws : List Cond) (rm : Room) (D : va_G) (cl : List vw_C) (tys : TY) (X : XE) (w0 : va_W) (av : List Value) (Qc : (Nat → Prop) → Array Value → State → Outcome → State → Prop) (mc ms : Nat) : Prop :=
  ∀ sz : Nat, MetX l y ws rm (va_Pc av (Pz D cl tys X w0 sz)) (Qc (va_A w0 sz)) mc ms (va_A w0 sz)
theorem m_ofX {l : Launch} {y : MethodName} {ws ws' : List Cond} {rm : Room} {D : va_G} {cl : List vw_C} {tys : TY} {X : XE} {w0 : va_W} {av : List Value} {Qc : (Nat → Prop) → Array Value → State → Outcome → State → Prop} {mc ms : Nat} {cc : ByteArray} {nL : Nat} {ret : Option FieldType}
    (hy : plainName y.cls = true) (hw : ws = Cond.code y cc nL ret :: ws') (hn : (lg_sl av).length ≤ nL)
    (body : ∀ (p : Program) (e : Env) (s : State) (m : MethodId) (below : List Frame) (meth : Method) (c : Code) (ls : Array Slot) (A : Nat → Prop) (ar : Array Value), Fx p s m ar meth c cc nL ret y.cls ws y.name → (∀ q : Nat, s.heap.size ≤ q → A q) → va_P D cl w0 s.heap → va_K D cl tys s → va_D A w0 → va_S A s.heap s.heap [] → X A s → c.exceptionTable.toList = [] → lv_has ls nL (lv_args 0 av) →
      W p l e rm s m ar below meth c s.heap [] 0 0 (MQX below (Qc A) ar s mc ms A) (F0 m 0 ls [])) : CtX l y ws rm D cl tys X w0 av Qc mc ms := by
  intro sz
  refine MetX.ofW (cc := cc) (maxL := nL) (ret := ret) hy hw ?_
  intro p e s m args below meth c s₁ B hml hne hv
  obtain ⟨rfl, hsz, hP, hK, hD0, hX⟩ := hv
  subst hsz
  have hl := lv_entry av (n := nL) hn
  rw [lg_entry_eq]
  exact body p e s m below meth c _ _ _ ⟨B.exec, B.bytes, hml, B.returns, B.notSynchronized, findClass_of_methodNamed B.named, atoms_spec (ws := ws) B.pre, (name_of_methodNamed B.named B.method).1⟩ (fun q h => Or.inr h) hP hK hD0.self va_S.rf hX hne hl
section LX
variable {p : Program} {l : Launch} {e : Env} {R : Room} {s : State} {m : MethodId} {args : Array Value} {below : List Frame} {meth : Method} {c : Code} {H : Heap} {locs : List Loc} {cells slots : Nat} {Q Q' : State → Prop}
variable {pc : Nat} {ls : Array Slot} {rest st : List Value} {cc : ByteArray} {D : va_G} {cl : List vw_C} {tys : TY} {A : Nat → Prop} {S S' : Type} {wf : S → va_W} {wf' : S' → va_W} {mc ms : Nat}
theorem w_mono {g : JFrame} (h : ∀ t, Q t → Q' t) (k : W p l e R s m args below meth c H locs cells slots Q g) : W p l e R s m args below meth c H locs cells slots Q' g := fun T hT X => by
  obtain ⟨t, a, b⟩ := k T hT X
  exact ⟨t, a, h t b⟩
theorem mq_x {Qc : Array Value → State → Outcome → State → Prop} {a : Array Value} {free : Addr → Prop} : ∀ t, MQ below Qc a s mc ms free t → MQX below Qc a s mc ms free t := by
  rintro t ⟨o, h1, h2, h3, L, ⟨⟨v, rfl⟩, h4, h5⟩, h6⟩
  exact ⟨_, h1, h2, h3, L, ⟨h4, h5⟩, h6⟩
theorem rx_v {K : S → Prop} {E : S → Prop} {XC : String} (hQ : MQX below (qX D cl tys wf (kRv K) E XC A) args s mc ms A = Q) (hx : p.tables.exec = Jvm.exec) (hb : c.code = cc) (hr : meth.sig.returnType = none) (hlocks : meth.locks = false) (u : S) (hk : K u) (hP : va_P D cl (wf u) H) (hK : va_K D cl tys s) (hD : va_D A (wf u)) (hS : va_S A s.heap H locs) (h1 : cells ≤ mc) (h2 : slots ≤ ms) (hdg : decode cc pc = .ok (.return_, 1)) :
    W p l e R s m args below meth c H locs cells slots Q (F0 m pc ls []) := by
  subst hQ
  exact w_mono mq_x (W.widen h1 h2 (W.vret hx hb hr (fun t ht hW => ⟨Or.inl ⟨_, u, rfl, ⟨rfl, hk⟩, by rw [ht]; exact hP, va_K.moved hW.alike hK, hD⟩, hS.F ht⟩) hS.2.2 hdg hlocks))
theorem rx_i {K : Int32 → S → Prop} {E : S → Prop} {XC : String} (hQ : MQX below (qX D cl tys wf (kRi K) E XC A) args s mc ms A = Q) (hx : p.tables.exec = Jvm.exec) (hb : c.code = cc) (hr : meth.sig.returnType = some .int) (hlocks : meth.locks = false) (v : Int32) (u : S) (hk : K v u) (hP : va_P D cl (wf u) H) (hK : va_K D cl tys s) (hD : va_D A (wf u)) (hS : va_S A s.heap H locs) (h1 : cells ≤ mc) (h2 : slots ≤ ms) (hdg : decode cc pc = .ok (.ireturn, 1)) :
    W p l e R s m args below meth c H locs cells slots Q (F0 m pc ls [.int v]) := by
  subst hQ
  exact w_mono mq_x (W.widen h1 h2 (W.iret hx hb hr (fun t ht hW => ⟨Or.inl ⟨_, u, rfl, ⟨v, rfl, hk⟩, by rw [ht]; exact hP, va_K.moved hW.alike hK, hD⟩, hS.F ht⟩) hS.2.2 hdg hlocks))
theorem rx_l {K : Int64 → S → Prop} {E : S → Prop} {XC : String} (hQ : MQX below (qX D cl tys wf (kRl K) E XC A) args s mc ms A = Q) (hx : p.tables.exec = Jvm.exec) (hb : c.code = cc) (hr : meth.sig.returnType = some .long) (hlocks : meth.locks = false) (v : Int64) (u : S) (hk : K v u) (hP : va_P D cl (wf u) H) (hK : va_K D cl tys s) (hD : va_D A (wf u)) (hS : va_S A s.heap H locs) (h1 : cells ≤ mc) (h2 : slots ≤ ms) (hdg : decode cc pc = .ok (.lreturn, 1)) :
    W p l e R s m args below meth c H locs cells slots Q (F0 m pc ls [.long v]) := by
  subst hQ
  exact w_mono mq_x (W.widen h1 h2 (W.lret hx hb hr (fun t ht hW => ⟨Or.inl ⟨_, u, rfl, ⟨v, rfl, hk⟩, by rw [ht]; exact hP, va_K.moved hW.alike hK, hD⟩, hS.F ht⟩) hS.2.2 hdg hlocks))
variable {y : MethodName} {bytes : ByteArray} {maxL nL n index : Nat} {ret : Option FieldType} {wsy Ts : List Cond} {rmy : Room} {own C : String} {wc wr w0 : va_W} {b : Nat} {As : List Value} {q : vw_C} {fs : List Value} {mcy msy : Nat} {Xc : XE}
/-- words and room of the call of a method with two ends -/
abbrev CallWX (R : Room) (s : State) (args : Array Value) (own C : String) (index : Nat) (y : MethodName) (bytes : ByteArray) (maxL : Nat) (ret : Option FieldType) (ws : List Cond) (rm : Room) (mc ms n : Nat) : Prop := CallW R s args own C index y bytes maxL ret ws rm (mc + 1) (ms + 6) n
/-- the call itself: two goals -/
theorem kx_run {Qc : Array Value → State → Outcome → State → Prop} {free : Addr → Prop} {Pc : Array Value → State → Prop} (F : CallFix p m c cc nL s args Ts own) (hM : MetX l y wsy rmy Pc Qc mcy msy free) (cw : CallWX R s args own C index y bytes maxL ret wsy rmy mcy msy n)
    (hblind : FrameBlind Pc) (hre : ∃ cellB : Cell, H[b]? = some cellB ∧ cellB.vm.isStatics = false ∧ s.vm.findClass C = some cellB.cls) (hp : ∀ U : State, U.heap = H → s.WarmedH U.vm → Pc (Value.ref b :: As).toArray U)
    (hnA : As.length = n) (hsize : ls.size = nL) (hst : st = As.reverse ++ .ref b :: rest) (hW : (rest.map fun v => v.category).sum ≤ 8) (hdg : decode cc pc = .ok (.invokevirtual index, 3)) (hf : cells + (mcy + 1) ≤ R.cells ∧ slots + (msy + 6) ≤ R.slots)
    (kk : ∀ (v : Option Value) (st₀ t T' : State) (L : List Loc), st₀.heap = H → Stand p l e R s m args below meth c T' (locs ++ L) (cells + mcy) (slots + msy) → (∀ q ∈ L, free q.base) → T'.heap = t.heap → T'.vm = t.vm → Qc (Value.ref b :: As).toArray st₀ (.returned v) t → ∃ t2, Steps p.tables e below (T'.setTop (F0 m (pc + 3) ls (v.toList ++ rest))) t2 ∧ Q t2)
    (ke : ∀ (x : Addr) (st₀ t T' : State) (L : List Loc), st₀.heap = H → Stand p l e R s m args below meth c T' (locs ++ L) (cells + (mcy + 1)) (slots + (msy + 6)) → (∀ q ∈ L, free q.base) → T'.heap = t.heap → T'.vm = t.vm → Qc (Value.ref b :: As).toArray st₀ (.threw x) t → ∃ t2, Steps p.tables e below ((T'.setTop (F0 m pc ls rest)).pushFrame (.throwing x)) t2 ∧ Q t2) :
    W p l e R s m args below meth c H locs cells slots Q (F0 m pc ls st) := by
  obtain ⟨⟨hrc, hrs, hfr, hlo, hws, hcw, hcode, hini, hy, hlen, hl⟩, hin, hse⟩ := cw
  obtain ⟨hx, hb, hml, ho, -⟩ := F
  obtain ⟨cellB, hcB, hoB, hclB⟩ := hre
  have hK : BackX l R p e below s args y 3 8 Pc Qc mcy msy free := backX_of (bytes := bytes) (maxL := maxL) (ret := ret) hM hrc hrs hfr hlo hws hcw (fun a' U hW => word_at hW (Or.inl (by first | rfl | simp [Cond.onTables, Cond.keeps, Cond.steady])) hini)
  intro T hT X
  obtain ⟨mk, methM, hnamed, hmethM, hstM, habM⟩ := Cond.instanceMethod_spec hin
  obtain ⟨methM', cM, hmethM', -, -, -, -, -, -, hsigM⟩ := Cond.code_spec hnamed hcode
  cases hmethM.symm.trans hmethM'
  obtain ⟨c2, r2, m2, q1, q2, q3, q4, kP, hkP, hkPi⟩ := Cond.selects_spec hse
  cases hclB.symm.trans q1
  cases (State.methodFound?_of_named hnamed hy).symm.trans q2
  cases hnamed.symm.trans q3
  have hselP : selectMethod e.platform s.vm cellB.cls mk = .method mk := by rw [Launch.admits_selectMethod X.admits]; exact q4
  obtain ⟨vm₁, X₁, hstep₁⟩ := X.invokevirtual hx ho hl hnamed hmethM hstM hkP hkPi hy (a := b) (cell := cellB) (by rw [hT]; exact hcB)
    (fun z h => by rw [h] at hoB; cases hoB) hselP hmethM habM hkP hkPi (g := F0 m pc ls st) rfl (argsL := As) (rest := rest) (hnA.trans (hlen _ hsigM)) hst (by rw [hb]; exact hdg)
  obtain ⟨t, T', L, hL, e1, e2, hcase⟩ := hK m meth c (T.setVm vm₁) locs cells slots { F0 m pc ls st with stack := rest } (.invokevirtual index) mk (Value.ref b :: As).toArray X₁ rfl (hsize.trans hml.symm) (by rw [hb]; exact hdg) (lv_room hW) (X₁.named hnamed) hf.1 hf.2
    (hblind _ _ _ _ (hp (T.setVm vm₁) hT X₁.warmed))
  have hh : ((T.setVm vm₁).calling { F0 m pc ls st with stack := rest } mk (Value.ref b :: As).toArray).heap = H := hT
  rcases hcase with ⟨v, X', hq, hsteps⟩ | ⟨x, X', hq, hsteps⟩
  · obtain ⟨t2, a1, b1⟩ := kk v _ t T' L hh X' hL e1 e2 hq
    exact ⟨t2, hstep₁ _ fun acts => by rw [doInvoke_state]; exact hsteps.trans a1, b1⟩
  · obtain ⟨t2, a1, b1⟩ := ke x _ t T' L hh X' hL e1 e2 hq
    exact ⟨t2, hstep₁ _ fun acts => by rw [doInvoke_state]; exact hsteps.trans a1, b1⟩
theorem vaS_call {H1 : Heap} {L : List Loc} {A1 : Nat → Prop} (hS : va_S A s.heap H locs) (hz : H.size ≤ H1.size) (hk : ∀ q : Nat, q < H.size → ¬ A1 q → H1[q]? = H[q]?) (hA1 : ∀ q, A1 q → A q) (hL : ∀ q ∈ L, A1 q.base) : va_S A s.heap H1 (locs ++ L) :=
  ⟨Nat.le_trans hS.1 hz, fun q h1 h2 => (hk q (Nat.lt_of_lt_of_le h1 hS.1) (fun h => h2 (hA1 q h))).trans (hS.2.1 q h1 h2), fun q hq => by
    rcases List.mem_append.mp hq with h | h
    · exact hS.2.2 q h
    · exact hA1 _ (hL q h)⟩
/-- a method with two ends, called from a method with two ends that catches nothing -/
theorem kx_pass {KR : Option Value → S → Prop} {E : S → Prop} {XC : String} {KR' : Option Value → S' → Prop} {E' : S' → Prop} (hQ : MQX below (qX D cl tys wf' KR' E' XC A) args s mc ms A = Q) (F : CallFix p m c cc nL s args Ts own) (hM : CtX l y wsy rmy D cl tys Xc wc (.ref b :: As) (qX D cl tys wf KR E XC) mcy msy) (cw : CallWX R s args own C index y bytes maxL ret wsy rmy mcy msy n)
    (hXb : xBl Xc) (hXg : xGo Xc s A) (hP : va_P D cl w0 H) (hK : va_K D cl tys s) (hD : va_D A w0) (hS : va_S A s.heap H locs) (hA : ∀ q : Nat, s.heap.size ≤ q → A q) (isC isR : List Nat) (hC : isC.map (fun i => w0[i]?) = wc.map some) (hR : isR.map (fun i => w0[i]?) = wr.map some) (hnC : va_nd isC = true) (hnR : va_nd isR = true) (hdis : ∀ i ∈ isR, i ∉ isC)
    {ci : Nat} (hcl : cl[ci]? = some q) (hq : q.1 = C) {q0 : Nat} (hre : w0[q0]? = some (b, .inr (ci, fs))) (hlocks : meth.locks = false) (hne : c.exceptionTable.toList = []) (hnA : As.length = n) (hsize : ls.size = nL) (hst : st = As.reverse ++ .ref b :: rest) (hW : (rest.map fun v => v.category).sum ≤ 8) (hdg : decode cc pc = .ok (.invokevirtual index, 3)) (hf : cells + (mcy + 1) ≤ R.cells ∧ slots + (msy + 6) ≤ R.slots) (hm1 : cells + mcy ≤ mc) (hm2 : slots + msy ≤ ms)
    (kk : ∀ (v : Option Value) (u : S) (H1 : Heap) (locs1 : List Loc), KR v u → va_P D cl (wr ++ wf u) H1 → va_D A (wr ++ wf u) → va_S A s.heap H1 locs1 → W p l e R s m args below meth c H1 locs1 (cells + mcy) (slots + msy) Q (F0 m (pc + 3) ls (v.toList ++ rest)))
    (ke : ∀ (u : S) (H1 : Heap), E u → va_P D cl (wr ++ wf u) H1 → va_D A (wr ++ wf u) → ∃ u', E' u' ∧ va_P D cl (wf' u') H1 ∧ va_D A (wf' u')) :
    W p l e R s m args below meth c H locs cells slots Q (F0 m pc ls st) := by
  subst hq
  have hFc := va_free hD hS hA isC hC
  refine kx_run F (hM H.size) cw (z_blind hXb) (va_recv hK hP hcl hre) (z_pre hXg hS hFc hP hK hD hC hnC) hnA hsize hst hW hdg hf ?_ ?_
  · rintro v st₀ t T' L h0 X' hL e1 e2 ⟨hc | ⟨a, u, hv, -⟩, hz, hk⟩
    · obtain ⟨v', u, hv, hkr, hP1, hK1, hD1⟩ := hc
      cases hv
      rw [h0] at hz hk
      have hk1 : ∀ q : Nat, q < H.size → ¬ va_A wc H.size q → t.heap[q]? = H[q]? := hk
      obtain ⟨hP2, hD2⟩ := va_join hP hD isC isR hC hR hnR hdis hk1 hFc hP1 hD1
      exact kk v u t.heap (locs ++ L) hkr hP2 hD2 (vaS_call hS hz hk1 hFc hL) T' e1 X'
    · cases hv
  · rintro x st₀ t T' L h0 X' hL e1 e2 ⟨hc | ⟨a, u, hv, hE, ⟨hP1, hK1, hD1⟩, hex⟩, hz, hk⟩
    · obtain ⟨v', u, hv, -⟩ := hc
      cases hv
    · cases hv
      rw [h0] at hz hk
      have hk1 : ∀ q : Nat, q < H.size → ¬ va_A wc H.size q → t.heap[q]? = H[q]? := hk
      obtain ⟨hP2, hD2⟩ := va_join hP hD isC isR hC hR hnR hdis hk1 hFc hP1 hD1
      obtain ⟨u', hE', hP3, hD3⟩ := ke u t.heap hE hP2 hD2
      have hS1 := vaS_call hS hz hk1 hFc hL
      obtain ⟨hst1, hrun, hend, hWm, hsame⟩ := X'.leaveThrown x (g := F0 m pc ls rest) rfl rfl rfl (by rw [hne]; intro y hy; cases hy) hlocks
      have hh : (T'.setFrames (.throwing x :: below)).heap = t.heap := e1
      have hvm : (T'.setFrames (.throwing x :: below)).vm = t.vm := e2
      refine ⟨_, hst1, ?_⟩
      rw [← hQ]
      refine ⟨.threw x, hrun, hend, ⟨Or.inr ⟨x, u', rfl, hE', ⟨by rw [hh]; exact hP3, va_K.moved hWm.alike hK, hD3⟩, ?_⟩, hS1.F hh⟩, locs ++ L, ⟨hWm, hsame.mono (by omega) (by omega)⟩, hS1.2.2⟩
      obtain ⟨cell, g1, g2, g3⟩ := hex
      exact ⟨cell, by rw [hh]; exact g1, g2, by rw [hvm]; exact g3⟩
end LX
