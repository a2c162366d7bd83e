theorem zq_ref {C n d : String} {A : Nat → Prop} {U : State} {args : Array Value} (h : va_Zq C n d A U U.heap) : (Cond.isRef (.static C n d)).before args U = true := by
  rcases h with ⟨cf, kf, fi, f, a, cell, h1, h2, h3, h4, h5, h6, h7, h8⟩ | ⟨t, cf, kf, fi, f, a, cell, h1, h2, h3, h4, h5, h6, h7, h8⟩ <;>
    simp [Cond.before, Cond.holds, Cond.value, Term.eval, State.fieldNamed?, h1, h2, h4, h5, h6, h7]
def exN : List String := ["java/lang/RuntimeException", "java/lang/Exception"]
def oAt (own : String) (ic : Nat) (X : String) : List Cond := Bundle.ownAtoms own ic X exN
def isR1 : Cond := .isRef (.static Bundle.tN "UNASSIGNED_STACK" Bundle.steD)
def isR2 : Cond := .isRef (.static Bundle.tN "SUPPRESSED_SENTINEL" Bundle.listD)
def lS1 : Cond := .laysStatic Bundle.tN "UNASSIGNED_STACK" Bundle.steD
def lS2 : Cond := .laysStatic Bundle.tN "SUPPRESSED_SENTINEL" Bundle.listD
def zLS (C n d : String) (A : Nat → Prop) (U : State) (H : Heap) : Prop := ∃ (c : ClassId) (k : Class) (i : Nat) (f : Field) (a : Nat) (cell : Cell), U.vm.findClass C = some c ∧ U.fieldFound? C n d = some (c, k, i, f) ∧ f.isStatic = true ∧ k.statics = some a ∧ H[a]? = some cell ∧ cell.vm.isStatics = true ∧ cell.cls = c ∧ f.slot < cell.slots.size ∧ k.staticTypes[f.slot]? = some f.type ∧ ¬ A a
theorem zLS.moved {C n d : String} {A : Nat → Prop} {u U : State} {H : Heap} (hvm : u.vm.Alike U.vm) (h : zLS C n d A u H) : zLS C n d A U H := by
  obtain ⟨c, k, i, f, a, cell, h0, h1, h2, h3, h4, h5, h6, h7, h8, h9⟩ := h
  obtain ⟨k', hi', he⟩ := State.fieldFound?_setVm hvm h1
  exact ⟨c, k', i, f, a, cell, by rw [hvm.findClass]; exact h0, hi', h2, by rw [he]; exact h3, h4, h5, h6, h7, by rw [he]; exact h8, h9⟩
theorem zLS.kept {C n d : String} {A : Nat → Prop} {U : State} {H H1 : Heap} (h : zLS C n d A U H) (hq : ∀ a : Nat, a < H.size → ¬ A a → H1[a]? = H[a]?) : zLS C n d A U H1 := by
  obtain ⟨c, k, i, f, a, cell, h0, h1, h2, h3, h4, h5, h6, h7, h8, h9⟩ := h
  exact ⟨c, k, i, f, a, cell, h0, h1, h2, h3, by rw [hq a (Array.getElem?_eq_some_iff.mp h4).1 h9]; exact h4, h5, h6, h7, h8, h9⟩
theorem zLS.narrow {C n d : String} {A B : Nat → Prop} {U : State} {H : Heap} (h : zLS C n d A U H) (hAB : ∀ q, B q → A q) : zLS C n d B U H := by
  obtain ⟨c, k, i, f, a, cell, h0, h1, h2, h3, h4, h5, h6, h7, h8, h9⟩ := h
  exact ⟨c, k, i, f, a, cell, h0, h1, h2, h3, h4, h5, h6, h7, h8, fun z => h9 (hAB a z)⟩
theorem zLS.lays {C n d : String} {A : Nat → Prop} {U : State} {args : Array Value} (h : zLS C n d A U U.heap) : (Cond.laysStatic C n d).before args U = true := by
  obtain ⟨c, k, i, f, a, cell, h0, h1, h2, h3, h4, h5, h6, h7, h8, h9⟩ := h
  exact Cond.laysStatic_of h0 h1 h2 h3 h4 h5 h6 h7 h8
def exW : List Cond := [.castable "java/lang/IllegalStateException" "java/lang/IllegalStateException", .declares ⟨"java/lang/RuntimeException", "<init>", "()V"⟩, .declares ⟨"java/lang/RuntimeException", "<init>", "(Ljava/lang/String;)V"⟩, .declares ⟨"java/lang/Exception", "<init>", "()V"⟩, .declares ⟨"java/lang/Exception", "<init>", "(Ljava/lang/String;)V"⟩, .declares ⟨"java/lang/Throwable", "<init>", "()V"⟩, .declares ⟨"java/lang/Throwable", "<init>", "(Ljava/lang/String;)V"⟩, .castable "[B" "java/lang/Cloneable", .castable "java/lang/IllegalArgumentException" "java/lang/IllegalArgumentException", .castable "java/lang/IndexOutOfBoundsException" "java/lang/IndexOutOfBoundsException", .castable "[I" "java/lang/Cloneable", .castable "[J" "java/lang/Cloneable"]
def strO : List String := ["NetText$Words", "NetText$Words", "NetText$Words", "NetText$Words", "NetText$Words", "NetText$Words", "NetText$Words", "NetText$Words", "NetText$Words", "NetText$Words", "NetText$Words", "NetText$Words", "NetText$Words", "NetText$Words", "NetText$Words", "NetText$Words", "NetText$Words", "NetText$Words", "NetText", "NetText", "NetText", "NetText", "NetTextModel", "NetTextModel", "NetTextModel", "NetTextModel", "NetTextModel", "NetTextModel", "NetTextModel", "NetTextModel", "NetTextModel", "NetTextModel", "NetTextModel", "NetTextModel", "NetTextModel", "NetTextModel", "NetTextModel", "NetTextModel", "NetTextModel", "NetTextModel", "NetTextModel"]
def strI : List Nat := [117, 119, 121, 123, 125, 127, 129, 131, 133, 135, 137, 139, 141, 143, 145, 109, 115, 90, 48, 64, 137, 109, 9, 11, 13, 15, 17, 19, 21, 23, 25, 27, 29, 31, 33, 35, 37, 39, 41, 152, 162]
def strX : List String := ["let", "out", "loss", "give", "bits", "rate", "clip", "param", "input", "index", "block", "train", "below", "until", "decay", "repeat", "momentum", "+-*@/()[]{},;=.~", "the tape would have more than 65536 bytes", "the tape has not so many bytes", "no such node", "no such byte of a name", "param", "input", "index", "let", "loss", "out", "block", "give", "repeat", "train", "below", "bits", "rate", "until", "momentum", "decay", "clip", "+-*@/()[]{},;=.~", "fault"]
def lenS : List Nat := [3, 3, 4, 4, 4, 4, 4, 5, 5, 5, 5, 5, 5, 5, 5, 6, 8, 16, 41, 30, 12, 22, 5, 5, 5, 3, 4, 3, 5, 4, 6, 5, 5, 4, 4, 5, 8, 5, 4, 16, 5]
def bytS : List (List Int32) := [[108, 101, 116], [111, 117, 116], [108, 111, 115, 115], [103, 105, 118, 101], [98, 105, 116, 115], [114, 97, 116, 101], [99, 108, 105, 112], [112, 97, 114, 97, 109], [105, 110, 112, 117, 116], [105, 110, 100, 101, 120], [98, 108, 111, 99, 107], [116, 114, 97, 105, 110], [98, 101, 108, 111, 119], [117, 110, 116, 105, 108], [100, 101, 99, 97, 121], [114, 101, 112, 101, 97, 116], [109, 111, 109, 101, 110, 116, 117, 109], [43, 45, 42, 64, 47, 40, 41, 91, 93, 123, 125, 44, 59, 61, 46, 126], [116, 104, 101, 32, 116, 97, 112, 101, 32, 119, 111, 117, 108, 100, 32, 104, 97, 118, 101, 32, 109, 111, 114, 101, 32, 116, 104, 97, 110, 32, 54, 53, 53, 51, 54, 32, 98, 121, 116, 101, 115], [116, 104, 101, 32, 116, 97, 112, 101, 32, 104, 97, 115, 32, 110, 111, 116, 32, 115, 111, 32, 109, 97, 110, 121, 32, 98, 121, 116, 101, 115], [110, 111, 32, 115, 117, 99, 104, 32, 110, 111, 100, 101], [110, 111, 32, 115, 117, 99, 104, 32, 98, 121, 116, 101, 32, 111, 102, 32, 97, 32, 110, 97, 109, 101], [112, 97, 114, 97, 109], [105, 110, 112, 117, 116], [105, 110, 100, 101, 120], [108, 101, 116], [108, 111, 115, 115], [111, 117, 116], [98, 108, 111, 99, 107], [103, 105, 118, 101], [114, 101, 112, 101, 97, 116], [116, 114, 97, 105, 110], [98, 101, 108, 111, 119], [98, 105, 116, 115], [114, 97, 116, 101], [117, 110, 116, 105, 108], [109, 111, 109, 101, 110, 116, 117, 109], [100, 101, 99, 97, 121], [99, 108, 105, 112], [43, 45, 42, 64, 47, 40, 41, 91, 93, 123, 125, 44, 59, 61, 46, 126], [102, 97, 117, 108, 116]]
theorem ex_all {P : Cond → Prop} (h : ∀ (a b : String), P (.castable a b)) (h' : ∀ x : MethodName, P (.declares x)) : ∀ w ∈ exW, P w := by
  intro w hw
  simp only [exW, List.mem_cons, List.not_mem_nil, or_false] at hw
  rcases hw with rfl | rfl | rfl | rfl | rfl | rfl | rfl | rfl | rfl | rfl | rfl | rfl <;> first | exact h _ _ | exact h' _
def sf1 (len : Nat) (byt : List Int32) (a v : Nat) (A : Nat → Prop) (U : State) (H : Heap) : Prop :=
  va_O "java/lang/String" a A U H ∧ va_OF "java/lang/String" "coder" "B" (.int 0) a A U H ∧ va_OF "java/lang/String" "value" "[B" (.ref v) a A U H ∧ va_T .byte v len (fun j => .int (byt.getD j 0)) A U H
def XF (adK adV : Nat → Nat) : XE := fun A U => XN A U ∧ (∀ w ∈ exW, va_Nw w U) ∧ va_AO "java/lang/String" U ∧ va_Zq Bundle.tN "UNASSIGNED_STACK" Bundle.steD A U U.heap ∧ va_Zq Bundle.tN "SUPPRESSED_SENTINEL" Bundle.listD A U U.heap ∧ va_Z "java/lang/String" "COMPACT_STRINGS" "Z" (.int 1) A U U.heap ∧ va_Zq "jdk/internal/util/Preconditions" "SIOOBE_FORMATTER" "Ljava/util/function/BiFunction;" A U U.heap ∧ zLS Bundle.tN "UNASSIGNED_STACK" Bundle.steD A U U.heap ∧ zLS Bundle.tN "SUPPRESSED_SENTINEL" Bundle.listD A U U.heap ∧
  (∀ i, i < 41 → sf1 (lenS.getD i 0) (bytS.getD i []) (adK i) (adV i) A U U.heap) ∧ ∀ i, i < 41 → vk_R (strO.getD i "") (strI.getD i 0) (strX.getD i "") (adK i) U
theorem sf1.moved {len : Nat} {byt : List Int32} {a v : Nat} {A : Nat → Prop} {u U : State} {H : Heap} (hvm : u.vm.Alike U.vm) (h : sf1 len byt a v A u H) : sf1 len byt a v A U H := ⟨va_O.moved hvm h.1, va_OF.moved hvm h.2.1, va_OF.moved hvm h.2.2.1, va_T.moved hvm h.2.2.2⟩
theorem sf1.kept {len : Nat} {byt : List Int32} {a v : Nat} {A : Nat → Prop} {U : State} {H H1 : Heap} (h : sf1 len byt a v A U H) (hq : ∀ a : Nat, a < H.size → ¬ A a → H1[a]? = H[a]?) : sf1 len byt a v A U H1 := ⟨h.1.kept hq, h.2.1.kept hq, h.2.2.1.kept hq, h.2.2.2.kept hq⟩
theorem sf1.narrow {len : Nat} {byt : List Int32} {a v : Nat} {A B : Nat → Prop} {U : State} {H : Heap} (h : sf1 len byt a v A U H) (hAB : ∀ q, B q → A q) : sf1 len byt a v B U H := ⟨h.1.narrow hAB, h.2.1.narrow hAB, h.2.2.1.narrow hAB, h.2.2.2.narrow hAB⟩
theorem ex_warm {s U : State} (hW : s.WarmedH U.vm) (h : ∀ w ∈ exW, va_Nw w s) : ∀ w ∈ exW, va_Nw w U := fun w hw => by
  have h1 := h w hw
  revert h1
  revert w hw
  exact ex_all (P := fun w => va_Nw w s → va_Nw w U) (fun a b h1 => va_Nw.warmC hW h1) (fun x h1 => va_Nw.warmD hW h1)
theorem ex_same {s U : State} (hW : s.vm = U.vm) (h : ∀ w ∈ exW, va_Nw w s) : ∀ w ∈ exW, va_Nw w U := fun w hw => by
  have h1 := h w hw
  revert h1
  revert w hw
  exact ex_all (P := fun w => va_Nw w s → va_Nw w U) (fun a b h1 => va_Nw.same rfl hW h1) (fun x h1 => va_Nw.same rfl hW h1)
theorem xfb {adK adV : Nat → Nat} : xBl (XF adK adV) := fun B U g mk a h => by
  obtain ⟨h1, h2, ao, h3, h4, h5, h6, g1, g2, h7, h8⟩ := h
  have hv : U.vm.Alike (U.calling g mk a).vm := Vm.Alike.refl U.vm
  exact ⟨xnb B U g mk a h1, ex_same (show U.vm = (U.calling g mk a).vm from rfl) h2, va_AO.moved hv ao, va_Zq.moved hv h3, va_Zq.moved hv h4, va_Z.moved hv h5, va_Zq.moved hv h6, g1.moved hv, g2.moved hv, fun i hi => (h7 i hi).moved hv, fun i hi => vk_R.same rfl (h8 i hi)⟩
theorem xf_at {adK adV : Nat → Nat} {s U : State} {A B : Nat → Prop} {locs : List Loc} (h : XF adK adV A s) (hAB : ∀ q, B q → A q) (hS : va_S A s.heap U.heap locs) (hW : s.WarmedH U.vm) : XF adK adV B U := by
  obtain ⟨h1, h2, ao, h3, h4, h5, h6, g1, g2, h7, h8⟩ := h
  have hv := hW.alike
  exact ⟨xn_warm hW h1, ex_warm hW h2, va_AO.moved hv ao, ((va_Zq.moved hv h3).kept hS.2.1).narrow hAB, ((va_Zq.moved hv h4).kept hS.2.1).narrow hAB, ((va_Z.moved hv h5).kept hS.2.1).narrow hAB, ((va_Zq.moved hv h6).kept hS.2.1).narrow hAB, ((g1.moved hv).kept hS.2.1).narrow hAB, ((g2.moved hv).kept hS.2.1).narrow hAB, fun i hi => (((h7 i hi).moved hv).kept hS.2.1).narrow hAB, fun i hi => vk_R.warm hW (h8 i hi)⟩
theorem xfg {adK adV : Nat → Nat} {s : State} {A : Nat → Prop} (h : XF adK adV A s) : xGo (XF adK adV) s A := fun B U locs hAB hS hW => xf_at h hAB hS hW
theorem xfr {adK adV : Nat → Nat} {s : State} {A : Nat → Prop} {H : Heap} {locs : List Loc} (h : XF adK adV A s) (hS : va_S A s.heap H locs) : ∀ U : State, U.heap = H → s.WarmedH U.vm → XF adK adV (fun _ => False) U := fun U hU hW => xf_at h (fun q hq => hq.elim) (by rw [hU]; exact hS) hW
theorem own_ok {adK adV : Nat → Nat} {s : State} {A : Nat → Prop} {H : Heap} {locs : List Loc} {x : Cond} {args : Array Value} {own XC : String} {ia is ic i : Nat} {tx : String} (hts : ∀ w ∈ x :: lw_gt, w.before args s = true) (hX : XF adK adV A s) (hS : va_S A s.heap H locs)
    (hm : ∀ a ∈ oAt own ic XC, a ∈ exW ∨ a = isR1 ∨ a = isR2 ∨ a = lS1 ∨ a = lS2 ∨ a ∈ lw_gt) (hc : Cond.classLink own ia XC ∈ lw_gt) (hi : Cond.initialized XC ∈ lw_gt) (hn : i < 41) (e1 : strO.getD i "" = own) (e2 : strI.getD i 0 = is) (e3 : strX.getD i "" = tx) :
    ∀ U : State, U.heap = H → s.WarmedH U.vm → (∀ a ∈ Bundle.ownAtoms own ic XC exN, a.before args U = true) ∧ (Cond.classLink own ia XC).before args U = true ∧ (Cond.initialized XC).before args U = true ∧ vk_R own is tx (adK i) U := by
  intro U hU hW
  have hXU := xf_at (B := A) hX (fun _ h => h) (by rw [hU]; exact hS) hW
  have good : ∀ w ∈ lw_gt, w.before args U = true := fun w hw => word_at hW (good_of_word (List.mem_filter.mp hw).2) (hts w (List.mem_cons_of_mem _ hw))
  refine ⟨fun a ha => ?_, good _ hc, good _ hi, ?_⟩
  · rcases hm a ha with h | rfl | rfl | rfl | rfl | h
    · have h1 := hXU.2.1 a h
      revert h1
      revert a
      intro a _ h1
      exact ex_all (P := fun w => va_Nw w U → w.before args U = true) (fun a b h => va_Nw.use rfl h) (fun x h => va_Nw.use rfl h) a h1
    · exact zq_ref (hXU.2.2.2.1)
    · exact zq_ref (hXU.2.2.2.2.1)
    · exact hXU.2.2.2.2.2.2.2.1.lays
    · exact hXU.2.2.2.2.2.2.2.2.1.lays
    · exact good a h
  · have h1 := hXU.2.2.2.2.2.2.2.2.2.2 i hn
    rw [e1, e2, e3] at h1
    exact h1
theorem xf_ao {adK adV : Nat → Nat} {s : State} {A : Nat → Prop} (h : XF adK adV A s) : va_AO "java/lang/String" s := h.2.2.1
theorem xf_cs {adK adV : Nat → Nat} {s : State} {A : Nat → Prop} (h : XF adK adV A s) : va_Z "java/lang/String" "COMPACT_STRINGS" "Z" (.int 1) A s s.heap := h.2.2.2.2.2.1
theorem xf_fm {adK adV : Nat → Nat} {s : State} {A : Nat → Prop} (h : XF adK adV A s) : va_Zq "jdk/internal/util/Preconditions" "SIOOBE_FORMATTER" "Ljava/util/function/BiFunction;" A s s.heap := h.2.2.2.2.2.2.1
theorem xf_s {adK adV : Nat → Nat} {s : State} {A : Nat → Prop} (h : XF adK adV A s) {i : Nat} (hi : i < 41) : sf1 (lenS.getD i 0) (bytS.getD i []) (adK i) (adV i) A s s.heap := h.2.2.2.2.2.2.2.2.2.1 i hi
theorem xf_r {adK adV : Nat → Nat} {s : State} {A : Nat → Prop} (h : XF adK adV A s) {i : Nat} (hi : i < 41) : vk_R (strO.getD i "") (strI.getD i 0) (strX.getD i "") (adK i) s := h.2.2.2.2.2.2.2.2.2.2 i hi
theorem xf_o {adK adV : Nat → Nat} {s : State} {A : Nat → Prop} {H : Heap} {locs : List Loc} (h : XF adK adV A s) (hS : va_S A s.heap H locs) {i : Nat} (hi : i < 41) : ∃ cell : Cell, H[adK i]? = some cell ∧ cell.vm.isStatics = false ∧ s.vm.findClass "java/lang/String" = some cell.cls := by
  obtain ⟨cell, h1, h2, h3, -⟩ := (xf_s h hi).1.kept hS.2.1
  exact ⟨cell, h1, h2, h3⟩
theorem oat_0 : ∀ a ∈ oAt "NetText" 50 "java/lang/IllegalStateException", a ∈ exW ∨ a = isR1 ∨ a = isR2 ∨ a = lS1 ∨ a = lS2 ∨ a ∈ lw_gt := by decide +kernel
theorem oat_1 : ∀ a ∈ oAt "NetTextModel" 163 "java/lang/IllegalStateException", a ∈ exW ∨ a = isR1 ∨ a = isR2 ∨ a = lS1 ∨ a = lS2 ∨ a ∈ lw_gt := by decide +kernel
theorem oat_2 : ∀ a ∈ oAt "NetText" 66 "java/lang/IllegalArgumentException", a ∈ exW ∨ a = isR1 ∨ a = isR2 ∨ a = lS1 ∨ a = lS2 ∨ a ∈ lw_gt := by decide +kernel
theorem oat_3 : ∀ a ∈ oAt "NetText" 111 "java/lang/IndexOutOfBoundsException", a ∈ exW ∨ a = isR1 ∨ a = isR2 ∨ a = lS1 ∨ a = lS2 ∨ a ∈ lw_gt := by decide +kernel
