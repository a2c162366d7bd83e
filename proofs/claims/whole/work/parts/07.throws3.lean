section LT
variable {p : Program} {l : Launch} {e : Env} {R : Room} {s : State} {m : MethodId} {args : Array Value} {below : List Frame} {meth : Method} {c : Code} {H : Heap} {locs : List Loc} {cells slots : Nat} {Q : State → Prop}
variable {pc : Nat} {ls : Array Slot} {rest : List Value} {cc : ByteArray} {D : va_G} {cl : List vw_C} {tys : TY} {A : Nat → Prop} {S : Type} {wf : S → va_W} {mc ms : Nat}
set_option maxHeartbeats 1000000 in
/-- throw new XC("tx"): the method ends there -/
theorem t_throw {KR : Option Value → S → Prop} {E : S → Prop} {XC own tx : String} {names : List String} {ia is ic q : Nat} (hQ : MQX below (qX D cl tys wf KR E XC A) args s mc ms A = Q) (hnt : NoTr l) (hx : p.tables.exec = Jvm.exec) (hb : c.code = cc) (hlocks : meth.locks = false) (hown : s.vm.findClass own = some m.cls) (hne : c.exceptionTable.toList = []) (hcls : Bundle.fit XC = true) (hnames : ∀ n ∈ names, Bundle.fit n = true)
    (hat : ∀ U : State, U.heap = H → s.WarmedH U.vm → (∀ a ∈ Bundle.ownAtoms own ic XC names, a.before args U = true) ∧ (Cond.classLink own ia XC).before args U = true ∧ (Cond.initialized XC).before args U = true ∧ vk_R own is tx q U)
    (hsize : ls.size = c.maxLocals) (d0 : decode cc pc = .ok (.new ia, 3)) (d3 : decode cc (pc + 3) = .ok (.dup, 1)) (d4 : decode cc (pc + 3 + 1) = .ok (.ldc is, 2)) (d6 : decode cc (pc + 3 + 1 + 2) = .ok (.invokespecial ic, 3)) (d9 : decode cc (pc + 3 + 1 + 2 + 3) = .ok (.athrow, 1))
    (hf : names.length + 3 < R.frames) (hlo : (rest.map fun v => v.category).sum + (13 * (names.length + 1) + 43) ≤ R.locals) (hcR : cells + 1 ≤ R.cells) (hsR : slots + 6 ≤ R.slots) (hc1 : cells ≤ mc) (hs1 : slots ≤ ms)
    (u : S) (hE : E u) (hP : va_P D cl (wf u) H) (hK : va_K D cl tys s) (hD : va_D A (wf u)) (hS : va_S A s.heap H locs) :
    W p l e R s m args below meth c H locs cells slots Q (F0 m pc ls rest) := by
  intro T hT X
  have Y := rebase X (by omega) (by omega)
  have hW' : s.WarmedH (T.setFrames (.invoking m args :: below)).vm := X.warmed
  obtain ⟨ha, hcl, hin, hz⟩ := hat (T.setFrames (.invoking m args :: below)) hT hW'
  have hown' : (T.setFrames (.invoking m args :: below)).vm.findClass own = some m.cls := by rw [hW'.alike.findClass]; exact hown
  have key : W p l e { R with cells := R.cells - cells, slots := R.slots - slots } (T.setFrames (.invoking m args :: below)) m args below meth c T.heap [] 0 0 (fun U => U.status = .running ∧ Ended U below (.threw T.heap.size) ∧ (T.setFrames (.invoking m args :: below)).WarmedH U.vm ∧ (T.setFrames (.invoking m args :: below)).sameButNew ({ U with vm := (T.setFrames (.invoking m args :: below)).vm } : State) [] 1 6 ∧ ∃ ce, U.heap[T.heap.size]? = some ce ∧ (T.setFrames (.invoking m args :: below)).vm.findClass XC = some ce.cls ∧ ce.vm = .none) (F0 m pc ls rest) := by
    refine W.newc hx hb hown' hcl (ha (.instantiable XC 6) (by simp [Bundle.ownAtoms])) hin rfl d0 (by show 0 + 1 ≤ R.cells - cells; omega) (by show 0 + 6 ≤ R.slots - slots; omega) (fun cC kC h1 h2 h3 h4 => ?_)
    refine lv_dup hx hb d3 rfl ?_
    refine va_ldcS hx hb hown' hz d4 ?_
    intro T1 hT1 X1
    obtain ⟨U, st, hrun, hend, hWU, hsame, ce, hce, hO⟩ := X1.ctorThrowS hx (hnt e X1.admits) hown' hcls hnames ha (fun x hx => by cases hx) (a := T.heap.size) (cX := cC) (kX := kC) h1 h2 (by rw [hT1]; simp [freshCell]) (Nat.le_refl _) (msg := .ref q) rfl (g := F0 m (pc + 3 + 1 + 2) ls (.ref q :: .ref T.heap.size :: .ref T.heap.size :: rest)) rfl hsize rfl rfl (rest := rest) rfl (by rw [hb]; exact d6) (by rw [hb]; exact d9) (by rw [hne]; intro y hy; cases hy) hf (by
      show 2 * 0 + ((Value.ref T.heap.size :: rest).map fun v => v.category).sum + (13 * (names.length + 1) + 42) ≤ R.locals
      rw [List.map_cons, List.sum_cons]
      show 2 * 0 + (1 + _) + _ ≤ _
      omega) hlocks
    exact ⟨U, st, hrun, hend, hWU, hsame, ce, hce, hO.cls, hO.vm⟩
  obtain ⟨U, st, hrun, hend, hWU, hsame, ce, hce, hcc, hcv⟩ := key T rfl Y
  have hWs : s.WarmedH U.vm := State.WarmedH.trans X.warmed (show T.WarmedH U.vm from hWU)
  have hkeep : ∀ q : Nat, q < H.size → U.heap[q]? = H[q]? := by
    intro q hq
    rw [← hT] at hq ⊢
    have h1 : T.heap[q]? = some T.heap[q] := Array.getElem?_eq_getElem hq
    rw [h1]
    exact State.sameButNew.old_cell hsame h1
  have hUz : H.size ≤ U.heap.size := by rw [← hT]; exact hsame.2.1
  refine ⟨U, st, ?_⟩
  rw [← hQ]
  refine ⟨.threw T.heap.size, hrun, hend, ⟨Or.inr ⟨_, u, rfl, hE, ⟨hP.kept (fun k x hk => hkeep _ ((hP k x hk).lt)), va_K.moved hWs.alike hK, hD⟩, ⟨ce, hce, by rw [hcv]; rfl, by rw [hWU.alike.findClass]; exact hcc⟩⟩, Nat.le_trans hS.1 hUz, fun q h1 h2 => (hkeep q (Nat.lt_of_lt_of_le h1 hS.1)).trans (hS.2.1 q h1 h2)⟩, locs, ⟨hWs, ?_⟩, hS.2.2⟩
  have h2 : T.sameButNew ({ U with vm := T.vm } : State) [] 1 6 := by
    obtain ⟨e0, r⟩ := hsame
    refine ⟨?_, r⟩
    rw [State.setFrames_setFrames] at e0
    exact e0
  have h3 := X.same.trans (h2.setVm s.vm)
  rw [List.append_nil] at h3
  exact h3.mono (by omega) (by omega)
end LT
section LY2
variable {p : Program} {l : Launch} {e : Env} {R : Room} {s : State} {m : MethodId} {args : Array Value} {below : List Frame} {meth : Method} {c : Code} {H : Heap} {locs : List Loc} {cells slots : Nat} {Q : State → Prop}
variable {pc : Nat} {ls : Array Slot} {rest st : List Value} {cc : ByteArray} {D : va_G} {cl : List vw_C} {tys : TY} {A : Nat → Prop} {S S' : Type} {wf : S → va_W} {wf' : S' → va_W} {mc ms : Nat}
variable {y : MethodName} {bytes : ByteArray} {maxL nL n index : Nat} {ret : Option FieldType} {wsy Ts : List Cond} {rmy : Room} {own C : String} {wc wr w0 : va_W} {b : Nat} {As : List Value} {q : vw_C} {fs : List Value} {mcy msy : Nat} {Xc : XE}
theorem kx_i {K : Int32 → S → Prop} {E : S → Prop} {XC : String} {KR' : Option Value → S' → Prop} {E' : S' → Prop} (hQ : MQX below (qX D cl tys wf' KR' E' XC A) args s mc ms A = Q) (F : CallFix p m c cc nL s args Ts own) (hM : CtX l y wsy rmy D cl tys Xc wc (.ref b :: As) (qX D cl tys wf (kRi K) E XC) mcy msy) (cw : CallWX R s args own C index y bytes maxL ret wsy rmy mcy msy n)
    (hXb : xBl Xc) (hXg : xGo Xc s A) (hP : va_P D cl w0 H) (hK : va_K D cl tys s) (hD : va_D A w0) (hS : va_S A s.heap H locs) (hA : ∀ q : Nat, s.heap.size ≤ q → A q) (isC isR : List Nat) (hC : isC.map (fun i => w0[i]?) = wc.map some) (hR : isR.map (fun i => w0[i]?) = wr.map some) (hnC : va_nd isC = true) (hnR : va_nd isR = true) (hdis : ∀ i ∈ isR, i ∉ isC)
    {ci : Nat} (hcl : cl[ci]? = some q) (hq : q.1 = C) {q0 : Nat} (hre : w0[q0]? = some (b, .inr (ci, fs))) (hlocks : meth.locks = false) (hne : c.exceptionTable.toList = []) (hnA : As.length = n) (hsize : ls.size = nL) (hst : st = As.reverse ++ .ref b :: rest) (hW : (rest.map fun v => v.category).sum ≤ 8) (hdg : decode cc pc = .ok (.invokevirtual index, 3)) (hf : cells + (mcy + 1) ≤ R.cells ∧ slots + (msy + 6) ≤ R.slots) (hm1 : cells + mcy ≤ mc) (hm2 : slots + msy ≤ ms)
    (kk : ∀ (r : Int32) (u : S) (H1 : Heap) (locs1 : List Loc), K r u → va_P D cl (wr ++ wf u) H1 → va_D A (wr ++ wf u) → va_S A s.heap H1 locs1 → W p l e R s m args below meth c H1 locs1 (cells + mcy) (slots + msy) Q (F0 m (pc + 3) ls (.int r :: rest)))
    (ke : ∀ (u : S) (H1 : Heap), E u → va_P D cl (wr ++ wf u) H1 → va_D A (wr ++ wf u) → ∃ u', E' u' ∧ va_P D cl (wf' u') H1 ∧ va_D A (wf' u')) :
    W p l e R s m args below meth c H locs cells slots Q (F0 m pc ls st) :=
  kx_pass hQ F hM cw hXb hXg hP hK hD hS hA isC isR hC hR hnC hnR hdis hcl hq hre hlocks hne hnA hsize hst hW hdg hf hm1 hm2 (fun v u H1 locs1 hkr hP hD hS => by obtain ⟨r, rfl, hk⟩ := hkr; exact kk r u H1 locs1 hk hP hD hS) ke
theorem kx_v {K : S → Prop} {E : S → Prop} {XC : String} {KR' : Option Value → S' → Prop} {E' : S' → Prop} (hQ : MQX below (qX D cl tys wf' KR' E' XC A) args s mc ms A = Q) (F : CallFix p m c cc nL s args Ts own) (hM : CtX l y wsy rmy D cl tys Xc wc (.ref b :: As) (qX D cl tys wf (kRv K) E XC) mcy msy) (cw : CallWX R s args own C index y bytes maxL ret wsy rmy mcy msy n)
    (hXb : xBl Xc) (hXg : xGo Xc s A) (hP : va_P D cl w0 H) (hK : va_K D cl tys s) (hD : va_D A w0) (hS : va_S A s.heap H locs) (hA : ∀ q : Nat, s.heap.size ≤ q → A q) (isC isR : List Nat) (hC : isC.map (fun i => w0[i]?) = wc.map some) (hR : isR.map (fun i => w0[i]?) = wr.map some) (hnC : va_nd isC = true) (hnR : va_nd isR = true) (hdis : ∀ i ∈ isR, i ∉ isC)
    {ci : Nat} (hcl : cl[ci]? = some q) (hq : q.1 = C) {q0 : Nat} (hre : w0[q0]? = some (b, .inr (ci, fs))) (hlocks : meth.locks = false) (hne : c.exceptionTable.toList = []) (hnA : As.length = n) (hsize : ls.size = nL) (hst : st = As.reverse ++ .ref b :: rest) (hW : (rest.map fun v => v.category).sum ≤ 8) (hdg : decode cc pc = .ok (.invokevirtual index, 3)) (hf : cells + (mcy + 1) ≤ R.cells ∧ slots + (msy + 6) ≤ R.slots) (hm1 : cells + mcy ≤ mc) (hm2 : slots + msy ≤ ms)
    (kk : ∀ (u : S) (H1 : Heap) (locs1 : List Loc), K u → va_P D cl (wr ++ wf u) H1 → va_D A (wr ++ wf u) → va_S A s.heap H1 locs1 → W p l e R s m args below meth c H1 locs1 (cells + mcy) (slots + msy) Q (F0 m (pc + 3) ls rest))
    (ke : ∀ (u : S) (H1 : Heap), E u → va_P D cl (wr ++ wf u) H1 → va_D A (wr ++ wf u) → ∃ u', E' u' ∧ va_P D cl (wf' u') H1 ∧ va_D A (wf' u')) :
    W p l e R s m args below meth c H locs cells slots Q (F0 m pc ls st) :=
  kx_pass hQ F hM cw hXb hXg hP hK hD hS hA isC isR hC hR hnC hnR hdis hcl hq hre hlocks hne hnA hsize hst hW hdg hf hm1 hm2 (fun v u H1 locs1 hkr hP hD hS => by obtain ⟨rfl, hk⟩ := hkr; exact kk u H1 locs1 hk hP hD hS) ke
end LY2
