theorem at_16 : lw_tbl[100]? = some (.initialized "jdk/internal/util/Preconditions") := by decide +kernel
theorem at_222 : lw_tbl[306]? = some (.fieldLink "java/lang/String" 1053 "jdk/internal/util/Preconditions" "SIOOBE_FORMATTER" "Ljava/util/function/BiFunction;") := by decide +kernel
theorem at_224 : lw_tbl[308]? = some (.methodLink "java/lang/String" 1059 ⟨"jdk/internal/util/Preconditions", "checkIndex", "(IILjava/util/function/BiFunction;)I"⟩) := by decide +kernel
theorem at_225 : lw_tbl[309]? = some (.static ⟨"jdk/internal/util/Preconditions", "checkIndex", "(IILjava/util/function/BiFunction;)I"⟩) := by decide +kernel
theorem at_226 : lw_tbl[310]? = some (.code ⟨"jdk/internal/util/Preconditions", "checkIndex", "(IILjava/util/function/BiFunction;)I"⟩ prog_23_method_11_code 3 (some .int)) := by decide +kernel
/-! strings: rows by hand -/
abbrev FL : Type := Nat → Int64
def chS (t : Nat) (i : Int32) : Int32 := (bytS.getD t []).getD i.toNatClampNeg 0
def kyF (adK : Nat → Nat) : Nat → Option Nat := fun j => some (adK (22 + j))
theorem kyl {k : Int32} (h : vp_in k 17) : 22 + k.toNatClampNeg < 41 := by
  have : ¬ 17 ≤ k.toNatClampNeg := fun z => h (Or.inr z)
  omega
theorem asgS {s : State} : ∀ comp c0 : ClassId, s.vm.findClass "java/lang/String" = some comp → s.vm.findClass "java/lang/String" = some c0 → s.vm.assignable c0 comp = true := by
  intro a b h1 h2
  cases h1.symm.trans h2
  unfold Vm.assignable
  rw [show (256 : Nat) = 255 + 1 from rfl, Vm.assignableAux]
  simp only [beq_self_eq_true, Bool.true_or]
theorem nar_c (x : Int32) : narrow .char (.int ((x &&& 255).toUInt32 % 65536).toInt32) = .int ((x &&& 255).toUInt32 % 65536).toInt32 := by
  rw [sc_c2]; exact sc_nar _
theorem a128 : ∀ n, n < 128 → nI n &&& 255 = nI n := by decide +kernel
theorem a128' {x : Int32} (h0 : 0 ≤ x) (h1 : x < 128) : x &&& 255 = x := by
  obtain ⟨j, hj, rfl⟩ := nI_of (Int32.not_lt.mpr h0)
  have : nI j < nI 128 := h1
  exact a128 j ((nI_ltI hj (by decide)).mp this)
theorem bytS_lt : ∀ l ∈ bytS, ∀ x ∈ l, (0 ≤ x ∧ x < 128) := by decide
theorem getD_mem {α : Type} {l : List α} {k : Nat} {d : α} : l.getD k d = d ∨ l.getD k d ∈ l := by
  by_cases h : k < l.length
  · right; rw [List.getD_eq_getElem?_getD, List.getElem?_eq_getElem h]; exact List.getElem_mem h
  · left; rw [List.getD_eq_getElem?_getD, List.getElem?_eq_none (by omega)]; rfl
theorem chS_lt (t : Nat) (i : Int32) : 0 ≤ chS t i ∧ chS t i < 128 := by
  unfold chS
  rcases getD_mem (l := bytS.getD t []) (k := i.toNatClampNeg) (d := 0) with h | h
  · rw [h]; decide
  · rcases getD_mem (l := bytS) (k := t) (d := []) with h2 | h2
    · rw [h2] at h; cases h
    · exact bytS_lt _ h2 _ h
theorem nar_s (t : Nat) (i : Int32) : narrow .char (.int (chS t i)) = .int (chS t i) := by
  have hh := chS_lt t i
  rw [← a128' hh.1 hh.2]; exact sc_nar _
def qV (K : Prop) : Array Value → State → Outcome → State → Prop := fun _ st o t => (o = .returned none ∧ K) ∧ t.heap = st.heap
section LS
variable {p : Program} {l : Launch} {e : Env} {R : Room} {s : State} {m : MethodId} {args : Array Value} {below : List Frame} {meth : Method} {c : Code} {H H0 : Heap} {locs : List Loc} {cells slots : Nat} {Q : State → Prop}
variable {pc : Nat} {ls : Array Slot} {rest st : List Value} {cc : ByteArray} {D : va_G} {cl : List vw_C} {tys : TY} {A : Nat → Prop} {ws : va_W}
theorem rr_n {K : Int32 → Prop} {ty : FieldType} {v : Int32} (hx : p.tables.exec = Jvm.exec) (hb : c.code = cc) (hr : meth.sig.returnType = some ty) (hn : narrow ty (.int v) = .int v) (hlocks : meth.locks = false) (hk : K v) (hdg : decode cc pc = .ok (.ireturn, 1)) :
    W p l e R s m args below meth c s.heap [] 0 0 (MQ below (qR K) args s 0 0 (fun _ => False)) (F0 m pc ls [.int v]) :=
  W.zret hx hb hr hn (fun t ht hW => ⟨⟨v, rfl, hk⟩, ht⟩) (fun q h => by cases h) hdg hlocks
theorem rr_v {K : Prop} (hx : p.tables.exec = Jvm.exec) (hb : c.code = cc) (hr : meth.sig.returnType = none) (hlocks : meth.locks = false) (hk : K) (hdg : decode cc pc = .ok (.return_, 1)) :
    W p l e R s m args below meth c s.heap [] 0 0 (MQ below (qV K) args s 0 0 (fun _ => False)) (F0 m pc ls []) :=
  W.vret hx hb hr (fun t ht hW => ⟨⟨rfl, hk⟩, ht⟩) (fun q h => by cases h) hdg hlocks
variable {y : MethodName} {bytes : ByteArray} {maxL nL n index : Nat} {ret : Option FieldType} {wsy Ts : List Cond} {rmy : Room} {own C : String} {wc w0 : va_W} {b : Nat} {As : List Value} {q : vw_C} {fs : List Value} {Xc : XE}
theorem krO_i {K : Int32 → Prop} (F : CallFix p m c cc nL s args Ts own) (hM : CtR l y wsy rmy D cl tys Xc wc (.ref b :: As) (qR K)) (cw : CallW R s args own C index y bytes maxL ret wsy rmy 0 0 n)
    (hXb : xBl Xc) (hXc : ∀ U : State, U.heap = H → s.WarmedH U.vm → Xc (fun _ => False) U) (hP : va_P D cl w0 H) (hK : va_K D cl tys s) (isC : List Nat) (hC : isC.map (fun i => w0[i]?) = wc.map some)
    (hre : ∃ cell : Cell, H[b]? = some cell ∧ cell.vm.isStatics = false ∧ s.vm.findClass C = some cell.cls) (hnA : As.length = n) (hsize : ls.size = nL) (hst : st = As.reverse ++ .ref b :: rest) (hW : (rest.map fun v => v.category).sum ≤ 8) (hdg : decode cc pc = .ok (.invokevirtual index, 3)) (hf : cells + 0 ≤ R.cells ∧ slots + 0 ≤ R.slots)
    (kk : ∀ r : Int32, K r → W p l e R s m args below meth c H locs cells slots Q (F0 m (pc + 3) ls (.int r :: rest))) :
    W p l e R s m args below meth c H locs cells slots Q (F0 m pc ls st) := by
  have hr := va_runV (e := e) (As := As) (rest := rest) (locs := locs) (cells := cells) (slots := slots) (below := below) (meth := meth) (g := F0 m pc ls st) F hM cw ⟨zr_blind hXb, hre, fun U hU hW => ⟨rfl, by rw [hU]; exact z_subP hP hC, va_K.moved hW.alike hK, hXc U hU hW⟩⟩ rfl hnA hsize hst (lv_room hW) hdg hf
  intro T hT X
  obtain ⟨v, st₀, t, T', L, h0, X', hL, e1, e2, ⟨⟨r, hv, hk⟩, hh⟩, go⟩ := hr T hT X
  cases hv
  have hL0 : L = [] := by
    cases L with
    | nil => rfl
    | cons a L' => exact (hL a List.mem_cons_self).elim
  subst hL0
  rw [List.append_nil] at X'
  obtain ⟨t2, a1, b1⟩ := kk r hk T' (by rw [e1, hh, h0]) X'
  exact ⟨t2, go _ a1, b1⟩
theorem krs_v {K : Prop} (F : CallFix p m c cc nL s args Ts own) (hM : CtR l y wsy rmy D cl tys Xc wc As (qV K)) (cw : CallB R s args own index y bytes maxL ret wsy rmy 0 0 n ∧ (Cond.static y).before args s = true)
    (hXb : xBl Xc) (hXc : ∀ U : State, U.heap = H → s.WarmedH U.vm → Xc (fun _ => False) U) (hP : va_P D cl w0 H) (hK : va_K D cl tys s) (isC : List Nat) (hC : isC.map (fun i => w0[i]?) = wc.map some)
    (hnA : As.length = n) (hsize : ls.size = nL) (hst : st = As.reverse ++ rest) (hW : (rest.map fun v => v.category).sum ≤ 8) (hdg : decode cc pc = .ok (.invokestatic index, 3)) (hf : cells + 0 ≤ R.cells ∧ slots + 0 ≤ R.slots)
    (kk : K → W p l e R s m args below meth c H locs cells slots Q (F0 m (pc + 3) ls rest)) :
    W p l e R s m args below meth c H locs cells slots Q (F0 m pc ls st) := by
  have hr := va_runS (e := e) (As := As) (rest := rest) (locs := locs) (cells := cells) (slots := slots) (below := below) (meth := meth) (g := F0 m pc ls st) F hM cw ⟨zr_blind hXb, fun U hU hW => ⟨rfl, by rw [hU]; exact z_subP hP hC, va_K.moved hW.alike hK, hXc U hU hW⟩⟩ rfl hnA hsize hst (lv_room hW) hdg hf
  intro T hT X
  obtain ⟨v, st₀, t, T', L, h0, X', hL, e1, e2, ⟨⟨hv, hk⟩, hh⟩, go⟩ := hr T hT X
  cases hv
  have hL0 : L = [] := by
    cases L with
    | nil => rfl
    | cons a L' => exact (hL a List.mem_cons_self).elim
  subst hL0
  rw [List.append_nil] at X'
  obtain ⟨t2, a1, b1⟩ := kk hk T' (by rw [e1, hh, h0]) X'
  exact ⟨t2, go _ a1, b1⟩
theorem n_aq (hx : p.tables.exec = Jvm.exec) (hb : c.code = cc) (hown : s.vm.findClass own = some m.cls) (hclink : (Cond.classLink own index C).before args s = true) (hover : va_AO C s) (hK : va_K D cl tys s) (k : Nat) {cA : ClassId} (ht : tys[k]? = some (cA, .object C)) (hP : va_P D cl ws H) (hD : va_D A ws) (hS : va_S A H0 H locs) (hA : ∀ q : Nat, H0.size ≤ q → A q)
    {n : Int32} (hn : ¬ n < 0) (hbytes : n.toNatClampNeg * 4 ≤ 536870912) (hcells : cells + 1 ≤ R.cells) (hslots : slots + n.toNatClampNeg ≤ R.slots) (hdg : decode cc pc = .ok (.anewarray index, 3))
    (kk : ∀ (q : Nat) (H1 : Heap), va_P D cl (ws ++ [(q, .inl (cA, n.toNatClampNeg, .inr (.inr (.inr (.inr (fun _ => none))))))]) H1 → va_D A (ws ++ [(q, .inl (cA, n.toNatClampNeg, .inr (.inr (.inr (.inr (fun _ => none))))))]) → va_S A H0 H1 locs → W p l e R s m args below meth c H1 locs (cells + 1) (slots + n.toNatClampNeg) Q (F0 m (pc + 3) ls (.ref q :: rest))) :
    W p l e R s m args below meth c H locs cells slots Q (F0 m pc ls (.int n :: rest)) := by
  refine va_newq hx hb hown hclink hover hK hP hD hS hA hn rfl hbytes hcells hslots hdg (fun q cA' H1 hK2 hP hD hS => ?_)
  have e := n_ty hK ht hK2
  subst e
  exact kk q H1 hP hD hS
end LS
abbrev b_JP_checkIndex : ByteArray := prog_23_method_11_code
def y_JP_checkIndex : MethodName := ⟨"jdk/internal/util/Preconditions", "checkIndex", "(IILjava/util/function/BiFunction;)I"⟩
abbrev w_JP_checkIndex : List Cond := .code y_JP_checkIndex b_JP_checkIndex 3 (some .int) :: lw_gt
theorem d_JP_checkIndex_0 : decode b_JP_checkIndex 0 = .ok (.iload_n 0, 1) := by decide +kernel
theorem d_JP_checkIndex_1 : decode b_JP_checkIndex 1 = .ok (.ifCond .lt 8, 3) := by decide +kernel
theorem d_JP_checkIndex_4 : decode b_JP_checkIndex 4 = .ok (.iload_n 0, 1) := by decide +kernel
theorem d_JP_checkIndex_5 : decode b_JP_checkIndex 5 = .ok (.iload_n 1, 1) := by decide +kernel
theorem d_JP_checkIndex_6 : decode b_JP_checkIndex 6 = .ok (.if_icmp .lt 10, 3) := by decide +kernel
theorem d_JP_checkIndex_9 : decode b_JP_checkIndex 9 = .ok (.aload_n 2, 1) := by decide +kernel
theorem d_JP_checkIndex_10 : decode b_JP_checkIndex 10 = .ok (.iload_n 0, 1) := by decide +kernel
theorem d_JP_checkIndex_11 : decode b_JP_checkIndex 11 = .ok (.iload_n 1, 1) := by decide +kernel
theorem d_JP_checkIndex_12 : decode b_JP_checkIndex 12 = .ok (.invokestatic 95, 3) := by decide +kernel
theorem d_JP_checkIndex_15 : decode b_JP_checkIndex 15 = .ok (.athrow, 1) := by decide +kernel
theorem d_JP_checkIndex_16 : decode b_JP_checkIndex 16 = .ok (.iload_n 0, 1) := by decide +kernel
theorem d_JP_checkIndex_17 : decode b_JP_checkIndex 17 = .ok (.ireturn, 1) := by decide +kernel
abbrev b_JS_checkIndex : ByteArray := prog_17_method_155_code
def y_JS_checkIndex : MethodName := ⟨"java/lang/String", "checkIndex", "(II)V"⟩
abbrev w_JS_checkIndex : List Cond := .code y_JS_checkIndex b_JS_checkIndex 2 none :: lw_gt
theorem d_JS_checkIndex_0 : decode b_JS_checkIndex 0 = .ok (.iload_n 0, 1) := by decide +kernel
theorem d_JS_checkIndex_1 : decode b_JS_checkIndex 1 = .ok (.iload_n 1, 1) := by decide +kernel
theorem d_JS_checkIndex_2 : decode b_JS_checkIndex 2 = .ok (.getstatic 1053, 3) := by decide +kernel
theorem d_JS_checkIndex_5 : decode b_JS_checkIndex 5 = .ok (.invokestatic 1059, 3) := by decide +kernel
theorem d_JS_checkIndex_8 : decode b_JS_checkIndex 8 = .ok (.pop, 1) := by decide +kernel
theorem d_JS_checkIndex_9 : decode b_JS_checkIndex 9 = .ok (.return_, 1) := by decide +kernel
abbrev tys4 (cB cI cL cS : ClassId) : TY := [(cB, .byte), (cI, .int), (cL, .long), (cS, .object "java/lang/String")]
theorem met_JP_chk {l : Launch} {dd : va_G} {cB cI cL cS : ClassId} {fv : Value} {x n : Int32} (hf : fv = .null ∨ ∃ q, fv = .ref q) (h0 : ¬ x < 0) (h1 : x < n) : CtR l y_JP_checkIndex w_JP_checkIndex (rmk 0 0 0) dd cls5 (tys4 cB cI cL cS) X0 [] [.int x, .int n, fv] (qR (fun _ => True)) := by
  rcases hf with rfl | ⟨q, rfl⟩
  · refine m_ofR (cc := b_JP_checkIndex) (nL := 3) (ret := (some .int)) (by decide) rfl (Nat.le_of_ble_eq_true rfl) ?_
    intro p e s m below meth c ls ar Fx_ hP hK hX hl
    obtain ⟨hx, hb, hml, hr, hlocks, hown, hts, hinn⟩ := Fx_
    have hl : lv_has ls 3 [(0, .int x), (1, .int n), (2, .null)] := hl
    refine lv_iload_n hx hb d_JP_checkIndex_0 rfl (lv_at hl 0 rfl) ?_
    refine lv_if_lt (tgt := 9) hx hb d_JP_checkIndex_1 (by decide) (fun b => absurd b h0) (fun b => ?_)
    refine lv_iload_n hx hb d_JP_checkIndex_4 rfl (lv_at hl 0 rfl) ?_
    refine lv_iload_n hx hb d_JP_checkIndex_5 rfl (lv_at hl 1 rfl) ?_
    refine lv_icmp_lt (tgt := 16) hx hb d_JP_checkIndex_6 (by decide) (fun _ => ?_) (fun b => absurd h1 b)
    refine lv_iload_n hx hb d_JP_checkIndex_16 rfl (lv_at hl 0 rfl) ?_
    exact rr_i hx hb hr hlocks x trivial d_JP_checkIndex_17
  · refine m_ofR (cc := b_JP_checkIndex) (nL := 3) (ret := (some .int)) (by decide) rfl (Nat.le_of_ble_eq_true rfl) ?_
    intro p e s m below meth c ls ar Fx_ hP hK hX hl
    obtain ⟨hx, hb, hml, hr, hlocks, hown, hts, hinn⟩ := Fx_
    have hl : lv_has ls 3 [(0, .int x), (1, .int n), (2, .ref q)] := hl
    refine lv_iload_n hx hb d_JP_checkIndex_0 rfl (lv_at hl 0 rfl) ?_
    refine lv_if_lt (tgt := 9) hx hb d_JP_checkIndex_1 (by decide) (fun b => absurd b h0) (fun b => ?_)
    refine lv_iload_n hx hb d_JP_checkIndex_4 rfl (lv_at hl 0 rfl) ?_
    refine lv_iload_n hx hb d_JP_checkIndex_5 rfl (lv_at hl 1 rfl) ?_
    refine lv_icmp_lt (tgt := 16) hx hb d_JP_checkIndex_6 (by decide) (fun _ => ?_) (fun b => absurd h1 b)
    refine lv_iload_n hx hb d_JP_checkIndex_16 rfl (lv_at hl 0 rfl) ?_
    exact rr_i hx hb hr hlocks x trivial d_JP_checkIndex_17
theorem sl_chk {l : Launch} {dd : va_G} {cB cI cL cS : ClassId} {adK adV : Nat → Nat} {x n : Int32} (h : ¬ x < 0 ∧ x < n) : CtR l y_JS_checkIndex w_JS_checkIndex (rmk 1 0 0) dd cls5 (tys4 cB cI cL cS) (XF adK adV) [] [.int x, .int n] (qV True) := by
  refine m_ofR (cc := b_JS_checkIndex) (nL := 2) (ret := none) (by decide) rfl (Nat.le_of_ble_eq_true rfl) ?_
  intro p e s m below meth c ls ar Fx_ hP hK hX hl
  obtain ⟨hx, hb, hml, hr, hlocks, hown, hts, hinn⟩ := Fx_
  have hl : lv_has ls 2 [(0, .int x), (1, .int n)] := hl
  refine lv_iload_n hx hb d_JS_checkIndex_0 rfl (lv_at hl 0 rfl) ?_
  refine lv_iload_n hx hb d_JS_checkIndex_1 rfl (lv_at hl 1 rfl) ?_
  rcases xf_fm hX with hz | ⟨t, hz⟩
  · refine va_gets hx hb hz va_S.rf hown (hts (.fieldLink "java/lang/String" 1053 "jdk/internal/util/Preconditions" "SIOOBE_FORMATTER" "Ljava/util/function/BiFunction;") (tg at_222)) (fun _ h9 => h9) d_JS_checkIndex_2 ?_
    refine krs_i (st := [.null, .int n, .int x]) (rest := []) ⟨hx, hb, hml, hown, hts⟩ (met_JP_chk (l := l) (dd := dd) (cB := cB) (cI := cI) (cL := cL) (cS := cS) (Or.inl rfl) h.1 h.2) (cwSo 3 hts (gcd (tg0 at_226)) rfl rfl rfl (hts (.initialized "jdk/internal/util/Preconditions") (tg at_16)) (hts (.methodLink "java/lang/String" 1059 ⟨"jdk/internal/util/Preconditions", "checkIndex", "(IILjava/util/function/BiFunction;)I"⟩) (tg at_224)) (hts (.static ⟨"jdk/internal/util/Preconditions", "checkIndex", "(IILjava/util/function/BiFunction;)I"⟩) (tg at_225)) (by decide +kernel) (rk (by omega) (by decide))) x0b (fun _ _ _ => trivial) hP hK [] rfl rfl hl.1 rfl (Nat.le_of_ble_eq_true rfl) d_JS_checkIndex_5 ⟨Nat.zero_le _, Nat.zero_le _⟩ (fun r _ => ?_)
    refine lv_pop hx hb d_JS_checkIndex_8 rfl ?_
    exact rr_v hx hb hr hlocks trivial d_JS_checkIndex_9
  · refine va_gets hx hb hz va_S.rf hown (hts (.fieldLink "java/lang/String" 1053 "jdk/internal/util/Preconditions" "SIOOBE_FORMATTER" "Ljava/util/function/BiFunction;") (tg at_222)) (fun _ h9 => h9) d_JS_checkIndex_2 ?_
    refine krs_i (st := [.ref t, .int n, .int x]) (rest := []) ⟨hx, hb, hml, hown, hts⟩ (met_JP_chk (l := l) (dd := dd) (cB := cB) (cI := cI) (cL := cL) (cS := cS) (Or.inr ⟨t, rfl⟩) h.1 h.2) (cwSo 3 hts (gcd (tg0 at_226)) rfl rfl rfl (hts (.initialized "jdk/internal/util/Preconditions") (tg at_16)) (hts (.methodLink "java/lang/String" 1059 ⟨"jdk/internal/util/Preconditions", "checkIndex", "(IILjava/util/function/BiFunction;)I"⟩) (tg at_224)) (hts (.static ⟨"jdk/internal/util/Preconditions", "checkIndex", "(IILjava/util/function/BiFunction;)I"⟩) (tg at_225)) (by decide +kernel) (rk (by omega) (by decide))) x0b (fun _ _ _ => trivial) hP hK [] rfl rfl hl.1 rfl (Nat.le_of_ble_eq_true rfl) d_JS_checkIndex_5 ⟨Nat.zero_le _, Nat.zero_le _⟩ (fun r _ => ?_)
    refine lv_pop hx hb d_JS_checkIndex_8 rfl ?_
    exact rr_v hx hb hr hlocks trivial d_JS_checkIndex_9
