def nestW : List Cond := [.fieldLinkNest "NetText$Parser" 55 "NetText$Words" "sorts" "[I" "NetText", .fieldLinkNest "NetText$Parser" 31 "NetText$Words" "count" "I" "NetText", .fieldLinkNest "NetText" 84 "NetText$Tree" "kinds" "[I" "NetText", .fieldLinkNest "NetText" 88 "NetText$Tree" "firstWords" "[I" "NetText", .fieldLinkNest "NetText" 95 "NetText$Tree" "parents" "[I" "NetText", .fieldLinkNest "NetText" 98 "NetText$Tree" "signs" "[I" "NetText", .fieldLinkNest "NetText" 130 "NetText$Tree" "depths" "[I" "NetText", .fieldLinkNest "NetText" 78 "NetText$Tree" "count" "I" "NetText", .fieldLinkNest "NetText$Parser" 139 "NetText$Tree" "count" "I" "NetText"]
theorem nw_0 : (Cond.fieldLinkNest "NetText$Parser" 55 "NetText$Words" "sorts" "[I" "NetText") ∈ nestW := List.mem_of_getElem? (i := 0) rfl
theorem nw_1 : (Cond.fieldLinkNest "NetText$Parser" 31 "NetText$Words" "count" "I" "NetText") ∈ nestW := List.mem_of_getElem? (i := 1) rfl
theorem nw_2 : (Cond.fieldLinkNest "NetText" 84 "NetText$Tree" "kinds" "[I" "NetText") ∈ nestW := List.mem_of_getElem? (i := 2) rfl
theorem nw_3 : (Cond.fieldLinkNest "NetText" 88 "NetText$Tree" "firstWords" "[I" "NetText") ∈ nestW := List.mem_of_getElem? (i := 3) rfl
theorem nw_4 : (Cond.fieldLinkNest "NetText" 95 "NetText$Tree" "parents" "[I" "NetText") ∈ nestW := List.mem_of_getElem? (i := 4) rfl
theorem nw_5 : (Cond.fieldLinkNest "NetText" 98 "NetText$Tree" "signs" "[I" "NetText") ∈ nestW := List.mem_of_getElem? (i := 5) rfl
theorem nw_6 : (Cond.fieldLinkNest "NetText" 130 "NetText$Tree" "depths" "[I" "NetText") ∈ nestW := List.mem_of_getElem? (i := 6) rfl
theorem nw_7 : (Cond.fieldLinkNest "NetText" 78 "NetText$Tree" "count" "I" "NetText") ∈ nestW := List.mem_of_getElem? (i := 7) rfl
theorem nw_8 : (Cond.fieldLinkNest "NetText$Parser" 139 "NetText$Tree" "count" "I" "NetText") ∈ nestW := List.mem_of_getElem? (i := 8) rfl
def XN : XE := fun _ U => ∀ w ∈ nestW, va_Nw w U
theorem nest_all {P : Cond → Prop} (h : ∀ (a : String) (i : Nat) (b n d k : String), P (.fieldLinkNest a i b n d k)) : ∀ w ∈ nestW, P w := by
  intro w hw
  simp only [nestW, List.mem_cons, List.not_mem_nil, or_false] at hw
  rcases hw with rfl | rfl | rfl | rfl | rfl | rfl | rfl | rfl | rfl <;> exact h _ _ _ _ _ _
theorem xnb : xBl XN := fun B U g mk a h => fun w hw => by
  have h1 := h w hw
  revert h1
  revert w hw
  refine nest_all (P := fun w => va_Nw w U → va_Nw w (U.calling g mk a)) (fun a i b n d k h1 => va_Nw.same rfl (show U.vm = (U.calling g mk _).vm from rfl) h1)
theorem xn_warm {s U : State} (hW : s.WarmedH U.vm) (h : ∀ w ∈ nestW, va_Nw w s) : ∀ w ∈ nestW, va_Nw w U := fun w hw => by
  have h1 := h w hw
  revert h1
  revert w hw
  exact nest_all (P := fun w => va_Nw w s → va_Nw w U) (fun a i b n d k h1 => va_Nw.warmF hW h1)
theorem xng {s : State} {A B : Nat → Prop} (h : XN B s) : xGo XN s A := fun C U locs _ _ hW => xn_warm hW h
theorem xnr {s : State} {H : Heap} {B C : Nat → Prop} (h : XN B s) : ∀ U : State, U.heap = H → s.WarmedH U.vm → XN C U := fun U _ hW => xn_warm hW h
