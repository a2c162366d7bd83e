/-! throws: a contract with two ends, calls of such methods, the throw itself -/
section RB
variable {p : Program} {l : Launch} {e : Env} {R : Room} {s : State} {m : MethodId} {args : Array Value} {below : List Frame} {meth : Method} {c : Code} {T : State} {locs : List Loc} {cells slots : Nat}
/-- the point of a walk, looked at as a beginning: nothing is written yet -/
theorem rebase (X : Stand p l e R s m args below meth c T locs cells slots) (h1 : cells ≤ R.cells) (h2 : slots ≤ R.slots) :
    Stand p l e { R with cells := R.cells - cells, slots := R.slots - slots } (T.setFrames (.invoking m args :: below)) m args below meth c T [] 0 0 := by
  obtain ⟨g₀, hfr⟩ := X.frames_eq
  have hcur : T.cur < T.threads.size := State.cur_lt_of_frames hfr
  obtain ⟨t, ht, -⟩ := State.frames_cons hfr
  have hf' : (T.setFrames (.invoking m args :: below)).frames = .invoking m args :: below := State.frames_setFrames _ hcur
  have hcur' : (T.setFrames (.invoking m args :: below)).cur < (T.setFrames (.invoking m args :: below)).threads.size := State.cur_lt_of_frames hf'
  obtain ⟨t', ht', -⟩ := State.frames_cons hf'
  have hback : (T.setFrames (.invoking m args :: below)).setFrames T.frames = T := by rw [State.setFrames_setFrames, State.setFrames_self ht]
  refine ⟨X.admits, X.cas, X.clock, hf', ?_, ?_, X.method', X.code, X.here, X.tail, State.WarmedH.refl _, (State.stackLimits_setFrames _ _ _).symm, (State.stackBytes_setFrames _ _).symm, ?_⟩
  · have r := X.room
    have hb := X.book
    have hz := X.heapSize
    have hu := X.used
    have hl := X.limits
    have hby := X.bytes
    simp only [State.hasRoom, Bool.and_eq_true, decide_eq_true_eq] at r ⊢
    rw [State.localsInUse_invoking X.frames X.method X.code, X.frames, ← hl, ← hby] at r
    rw [State.localsInUse_invoking hf' X.method' X.code, hf', State.stackLimits_setFrames, State.stackBytes_setFrames]
    obtain ⟨⟨⟨⟨r1, r2⟩, r3⟩, r4⟩, r5⟩ := r
    refine ⟨⟨⟨⟨r1, r2⟩, ?_⟩, ?_⟩, hb⟩
    · show T.heap.size + (R.cells - cells) ≤ _
      omega
    · show T.slotsUsed + (R.slots - slots) ≤ _
      omega
  · have h := X.hears
    have hm : ∀ k, T.vm.method? k = s.vm.method? k := fun k => X.warmed.alike.method? k
    unfold State.hears at h ⊢
    have hcd : ∀ k, (T.setFrames (.invoking m args :: below)).code? k = s.code? k := fun k => by rw [State.code?_eq, State.code?_eq]; show (T.vm.method? k).bind _ = _; rw [hm]
    have hmm : (T.setFrames (.invoking m args :: below)).vm.method? m = s.vm.method? m := hm m
    simp only [hcd, hmm]
    exact h
  · have h := (State.sameButNew.refl (T.setFrames (.invoking m args :: below)) ht').setFrames T.frames hcur'
    rw [hback] at h
    exact h
end RB
def FE (first t : State) (L : List Loc) (k n : Nat) : Prop := first.WarmedH t.vm ∧ first.sameButNew ({ t with vm := first.vm } : State) L k n
def FEX (first : State) (o : Outcome) (t : State) (L : List Loc) (k n : Nat) : Prop := match o with
  | .returned _ => FE first t L k n
  | .threw _ => FE first t L (k + 1) (n + 6)
def MQX (below : List Frame) (Qc : Array Value → State → Outcome → State → Prop) (a : Array Value) (s : State) (mc ms : Nat) (free : Addr → Prop) : State → Prop := fun t =>
  ∃ o, t.status = .running ∧ Ended t below o ∧ Qc a s o t ∧ ∃ L, FEX s o t L mc ms ∧ ∀ q ∈ L, free q.base
def MetX (l : Launch) (y : MethodName) (ws : List Cond) (rm : Room) (Pc : Array Value → State → Prop) (Qc : Array Value → State → Outcome → State → Prop) (mc ms : Nat) (free : Addr → Prop) : Prop :=
  MetFree l y (headSpec ws rm) Pc (fun _ _ _ _ _ => True) (fun a st o t => Qc a st o t ∧ ∃ L, FEX st o t L mc ms ∧ ∀ q ∈ L, free q.base)
theorem MetX.ofW {l : Launch} {y : MethodName} {ws ws' : List Cond} {rm : Room} {Pc : Array Value → State → Prop} {Qc : Array Value → State → Outcome → State → Prop} {mc ms : Nat} {free : Addr → Prop} {cc : ByteArray} {maxL : Nat} {ret : Option FieldType}
    (hy : plainName y.cls = true) (hw : ws = Cond.code y cc maxL ret :: ws')
    (body : ∀ p e s m args below meth c s₁, BodyLoose p l y (headSpec ws rm) cc maxL ret e s m args below meth c s₁ → c.maxLocals = maxL → c.exceptionTable.toList = [] → Pc args s →
      W p l e (headSpec ws rm).room s m args below meth c s.heap [] 0 0 (MQX below Qc args s mc ms free) (entryFrame m args maxL)) : MetX l y ws rm Pc Qc mc ms free := by
  have hin : Cond.code y cc maxL ret ∈ ws := by rw [hw]; exact List.mem_cons_self
  refine MetFree.of_bodyS (code := cc) (maxLocals := maxL) (ret := ret) hy ?_ ?_
  · intro args s m h hn
    obtain ⟨meth, c, h1, h2, h3, h4, h5, h6, -, -⟩ := Cond.code_spec hn (atoms_spec (ws := ws) h _ hin)
    exact ⟨meth, c, h1, h2, h3, h4, h5, h6⟩
  · intro p e s m args below meth c s₁ B hml hP _
    have hh0 : s₁.heap = s.heap := by rw [B.state]; rfl
    have hne := B.noHandlers (atoms_spec (ws := ws) B.pre _ hin)
    have hne : c.exceptionTable.toList = [] := by
      have h0 : c.exceptionTable.size = 0 := by simpa [Array.isEmpty] using hne
      exact List.eq_nil_of_length_eq_zero (by simpa using h0)
    obtain ⟨t, a1, o, b1, b2, b3⟩ := body p e s m args below meth c s₁ B hml hne hP s₁ hh0 (Stand.of_body B)
    exact ⟨t, o, a1, b1, b2, ⟨b3.1, b3.2⟩⟩
section BX
variable {l : Launch} {R : Room} {p : Program} {e : Env} {below : List Frame} {s : State} {sargs : Array Value} {y : MethodName} {len Wd : Nat}
/-- the call of a method with two ends, from a point of a walk -/
def BackX (l : Launch) (R : Room) (p : Program) (e : Env) (below : List Frame) (s : State) (sargs : Array Value) (y : MethodName) (len Wd : Nat) (Pc : Array Value → State → Prop) (Qc : Array Value → State → Outcome → State → Prop) (mc ms : Nat) (free : Addr → Prop) : Prop :=
  ∀ (m : MethodId) (meth : Method) (c : Code) (T : State) (locs : List Loc) (cells slots : Nat) (g : JFrame) (ig : Instr) (mk : MethodId) (a : Array Value),
    Stand p l e R s m sargs below meth c T locs cells slots → g.method = m → g.locals.size = c.maxLocals → decode c.code g.pc = .ok (ig, len) →
    2 * g.monitorRoom + (g.stack.map fun v => v.category).sum ≤ Wd → T.methodNamed? y = some mk → cells + (mc + 1) ≤ R.cells → slots + (ms + 6) ≤ R.slots → Pc a (T.calling g mk a) →
    ∃ (t T' : State) (L : List Loc), (∀ q ∈ L, free q.base) ∧ T'.heap = t.heap ∧ T'.vm = t.vm ∧
      ((∃ v, Stand p l e R s m sargs below meth c T' (locs ++ L) (cells + mc) (slots + ms) ∧ Qc a (T.calling g mk a) (.returned v) t ∧ Steps p.tables e below (doInvoke e (T.setTop g) [] mk a).1 (T'.setTop { g with pc := g.pc + len, stack := v.toList ++ g.stack })) ∨
       (∃ x, Stand p l e R s m sargs below meth c T' (locs ++ L) (cells + (mc + 1)) (slots + (ms + 6)) ∧ Qc a (T.calling g mk a) (.threw x) t ∧ Steps p.tables e below (doInvoke e (T.setTop g) [] mk a).1 ((T'.setTop g).pushFrame (.throwing x))))
theorem pf_heap (T : State) (g : JFrame) (x : Addr) : ((T.setTop g).pushFrame (.throwing x)).heap = T.heap := by
  simp [State.pushFrame, State.setFrames, State.setTop, State.modifyTopJava]
theorem pf_vm (T : State) (g : JFrame) (x : Addr) : ((T.setTop g).pushFrame (.throwing x)).vm = T.vm := by
  simp [State.pushFrame, State.setFrames, State.setTop, State.modifyTopJava]
theorem st_heap (T : State) (g : JFrame) : (T.setTop g).heap = T.heap := by
  simp [State.setFrames, State.setTop, State.modifyTopJava]
theorem st_vm (T : State) (g : JFrame) : (T.setTop g).vm = T.vm := by
  simp [State.setFrames, State.setTop, State.modifyTopJava]
theorem backX_of {ws : List Cond} {rm : Room} {Pc : Array Value → State → Prop} {Qc : Array Value → State → Outcome → State → Prop} {mc ms : Nat} {free : Addr → Prop} {bytes : ByteArray} {maxL : Nat} {ret : Option FieldType}
    (hM : MetX l y ws rm Pc Qc mc ms free) (hrc : rm.cells = mc + 1) (hrs : rm.slots = ms + 6)
    (hframes : rm.frames + 1 ≤ R.frames) (hlocals : Wd + (maxL + 11) + rm.locals ≤ R.locals)
    (hws : ∀ w ∈ ws, ∀ a' U, s.WarmedH U.vm → w.before a' U = true) (hcode : Cond.code y bytes maxL ret ∈ ws) (hinit : ∀ a' U, s.WarmedH U.vm → (Cond.initialized y.cls).before a' U = true) :
    BackX l R p e below s sargs y len Wd Pc Qc mc ms free := by
  intro m meth c U Ls c0 s0 g ig mk a X hg hsize hdg hW hn hc1 hc2 hp
  have h1 : (headSpec ws rm).pre.before a U = true := atoms_intro fun w hw => hws w hw _ _ X.warmed
  have h2 : (Cond.code y bytes maxL ret).before a U = true := hws _ hcode _ _ X.warmed
  have h3 := hinit a U X.warmed
  obtain ⟨methY, cY, hmY, hcY, -, hlY, -, -, -, -⟩ := Cond.code_spec hn h2
  obtain ⟨kY, hkY, -⟩ := className_of_methodNamed hn
  have hinitY : kY.init = .initialized := Cond.initialized_spec (findClass_of_methodNamed hn) hkY h3
  have h : At U g.method c below := by rw [hg]; exact X.here
  have happ : (headSpec ws rm).appliesLoose y e.platform (U.calling g mk a) = true :=
    Spec.appliesLoose_calling (g := g) h hdg hn hkY hinitY
      (X.room_calling (g := g) (R' := (headSpec ws rm).room) hsize hmY hcY hframes (by rw [hlY]; show _ + rm.locals ≤ _; omega) (by rw [show (headSpec ws rm).room.cells = mc + 1 from hrc]; exact hc1) (by rw [show (headSpec ws rm).room.slots = ms + 6 from hrs]; exact hc2)) h1
  obtain ⟨mid, hmid⟩ := h.above
  have hfr : (U.setTop g).frames = (.java g :: mid) ++ below := by rw [State.frames_setTop' g h.top, hmid]; rfl
  obtain ⟨o, s₂, hsteps, -, hend, hq⟩ := Steps.callFree hM p X.admits X.cas X.clock (acts := []) hfr happ hp trivial
  obtain ⟨hq1, L, hfe, hL⟩ := hq
  rw [State.frames_setTop' g h.top, X.tail] at hend
  cases o with
  | returned v =>
    obtain ⟨hW₂, hsame⟩ := hfe
    obtain ⟨T', X', hW', hS', e1⟩ := X.outOf hg hdg hend hW₂ hsame
    exact ⟨s₂, T', L, hL, by rw [e1, st_heap], by rw [e1, st_vm], Or.inl ⟨v, X', hq1, by rw [← e1]; exact hsteps⟩⟩
  | threw x =>
    obtain ⟨hW₂, hsame⟩ := hfe
    obtain ⟨T', X', hW', hS', e1⟩ := X.outOfThrown hg hend hW₂ hsame
    exact ⟨s₂, T', L, hL, by rw [e1, pf_heap], by rw [e1, pf_vm], Or.inr ⟨x, X', hq1, by rw [← e1]; exact hsteps⟩⟩
end BX
