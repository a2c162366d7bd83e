theorem at_0 : lw_tbl[84]? = some (.initialized "NetTextLaw") := by decide +kernel
theorem at_20 : lw_tbl[104]? = some (.classLink "NetTextLaw" 8 "NetText") := by decide +kernel
theorem at_21 : lw_tbl[105]? = some (.instantiable "NetText" 6) := by decide +kernel
theorem at_22 : lw_tbl[106]? = some (.methodLink "NetTextLaw" 53 ⟨"NetText", "<init>", "()V"⟩) := by decide +kernel
theorem at_23 : lw_tbl[107]? = some (.instanceMethod ⟨"NetText", "<init>", "()V"⟩) := by decide +kernel
theorem at_24 : lw_tbl[108]? = some (.code ⟨"NetText", "<init>", "()V"⟩ prog_1_method_1_code 1 none) := by decide +kernel
theorem at_130 : lw_tbl[214]? = some (.methodLink "NetTextLaw" 71 ⟨"NetText", "read", "()I"⟩) := by decide +kernel
theorem at_131 : lw_tbl[215]? = some (.instanceMethod ⟨"NetText", "read", "()I"⟩) := by decide +kernel
theorem at_132 : lw_tbl[216]? = some (.selects "NetText" ⟨"NetText", "read", "()I"⟩ ⟨"NetText", "read", "()I"⟩) := by decide +kernel
theorem at_133 : lw_tbl[217]? = some (.code ⟨"NetText", "read", "()I"⟩ prog_1_method_5_code 2 (some .int)) := by decide +kernel
theorem at_509 : lw_tbl[593]? = some (.methodLink "NetTextLaw" 75 ⟨"NetText", "place", "()I"⟩) := by decide +kernel
theorem at_510 : lw_tbl[594]? = some (.instanceMethod ⟨"NetText", "place", "()I"⟩) := by decide +kernel
theorem at_511 : lw_tbl[595]? = some (.selects "NetText" ⟨"NetText", "place", "()I"⟩ ⟨"NetText", "place", "()I"⟩) := by decide +kernel
theorem at_512 : lw_tbl[596]? = some (.code ⟨"NetText", "place", "()I"⟩ prog_1_method_6_code 1 (some .int)) := by decide +kernel
theorem at_513 : lw_tbl[597]? = some (.methodLink "NetTextLaw" 57 ⟨"NetTextLaw", "feed", "(LNetText;IIIII[J)I"⟩) := by decide +kernel
theorem at_514 : lw_tbl[598]? = some (.static ⟨"NetTextLaw", "feed", "(LNetText;IIIII[J)I"⟩) := by decide +kernel
theorem at_515 : lw_tbl[599]? = some (.codeWith ⟨"NetTextLaw", "feed", "(LNetText;IIIII[J)I"⟩ method_3_code 8 (some .int) [(0, 16, 19, 13)]) := by decide +kernel
theorem at_605 : lw_tbl[689]? = some (.methodLink "NetTextLaw" 67 ⟨"NetTextLaw", "end", "(LNetText;I)I"⟩) := by decide +kernel
theorem at_606 : lw_tbl[690]? = some (.static ⟨"NetTextLaw", "end", "(LNetText;I)I"⟩) := by decide +kernel
theorem at_607 : lw_tbl[691]? = some (.codeWith ⟨"NetTextLaw", "end", "(LNetText;I)I"⟩ method_4_code 3 (some .int) [(0, 5, 8, 19)]) := by decide +kernel
theorem at_629 : lw_tbl[713]? = some (.methodLink "NetTextLaw" 79 ⟨"NetTextLaw", "kind", "(LNetText;I[J)I"⟩) := by decide +kernel
theorem at_630 : lw_tbl[714]? = some (.static ⟨"NetTextLaw", "kind", "(LNetText;I[J)I"⟩) := by decide +kernel
theorem at_631 : lw_tbl[715]? = some (.codeWith ⟨"NetTextLaw", "kind", "(LNetText;I[J)I"⟩ method_5_code 4 (some .int) [(0, 9, 12, 25)]) := by decide +kernel
theorem at_658 : lw_tbl[742]? = some (.methodLink "NetTextLaw" 83 ⟨"NetTextLaw", "begin", "(LNetText;I[J)I"⟩) := by decide +kernel
theorem at_659 : lw_tbl[743]? = some (.static ⟨"NetTextLaw", "begin", "(LNetText;I[J)I"⟩) := by decide +kernel
theorem at_660 : lw_tbl[744]? = some (.codeWith ⟨"NetTextLaw", "begin", "(LNetText;I[J)I"⟩ method_6_code 4 (some .int) [(0, 9, 12, 25)]) := by decide +kernel
theorem at_666 : lw_tbl[750]? = some (.methodLink "NetTextLaw" 86 ⟨"NetTextLaw", "parent", "(LNetText;I[J)I"⟩) := by decide +kernel
theorem at_667 : lw_tbl[751]? = some (.static ⟨"NetTextLaw", "parent", "(LNetText;I[J)I"⟩) := by decide +kernel
theorem at_668 : lw_tbl[752]? = some (.codeWith ⟨"NetTextLaw", "parent", "(LNetText;I[J)I"⟩ method_7_code 4 (some .int) [(0, 9, 12, 25)]) := by decide +kernel
theorem at_673 : lw_tbl[757]? = some (.methodLink "NetTextLaw" 89 ⟨"NetTextLaw", "sign", "(LNetText;I[J)I"⟩) := by decide +kernel
theorem at_674 : lw_tbl[758]? = some (.static ⟨"NetTextLaw", "sign", "(LNetText;I[J)I"⟩) := by decide +kernel
theorem at_675 : lw_tbl[759]? = some (.codeWith ⟨"NetTextLaw", "sign", "(LNetText;I[J)I"⟩ method_8_code 4 (some .int) [(0, 9, 12, 25)]) := by decide +kernel
theorem at_680 : lw_tbl[764]? = some (.methodLink "NetTextLaw" 92 ⟨"NetTextLaw", "nameLength", "(LNetText;I[J)I"⟩) := by decide +kernel
theorem at_681 : lw_tbl[765]? = some (.static ⟨"NetTextLaw", "nameLength", "(LNetText;I[J)I"⟩) := by decide +kernel
theorem at_682 : lw_tbl[766]? = some (.codeWith ⟨"NetTextLaw", "nameLength", "(LNetText;I[J)I"⟩ method_9_code 4 (some .int) [(0, 9, 12, 25)]) := by decide +kernel
theorem at_695 : lw_tbl[779]? = some (.methodLink "NetTextLaw" 95 ⟨"NetTextLaw", "nameAt", "(LNetText;II[J)I"⟩) := by decide +kernel
theorem at_696 : lw_tbl[780]? = some (.static ⟨"NetTextLaw", "nameAt", "(LNetText;II[J)I"⟩) := by decide +kernel
theorem at_697 : lw_tbl[781]? = some (.codeWith ⟨"NetTextLaw", "nameAt", "(LNetText;II[J)I"⟩ method_10_code 5 (some .int) [(0, 10, 13, 25)]) := by decide +kernel
theorem at_704 : lw_tbl[788]? = some (.methodLink "NetTextLaw" 99 ⟨"NetTextLaw", "digits", "(LNetText;I[J)I"⟩) := by decide +kernel
theorem at_705 : lw_tbl[789]? = some (.static ⟨"NetTextLaw", "digits", "(LNetText;I[J)I"⟩) := by decide +kernel
theorem at_706 : lw_tbl[790]? = some (.codeWith ⟨"NetTextLaw", "digits", "(LNetText;I[J)I"⟩ method_11_code 4 (some .int) [(0, 8, 11, 25)]) := by decide +kernel
theorem at_721 : lw_tbl[805]? = some (.methodLink "NetTextLaw" 102 ⟨"NetTextLaw", "behind", "(LNetText;I[J)I"⟩) := by decide +kernel
theorem at_722 : lw_tbl[806]? = some (.static ⟨"NetTextLaw", "behind", "(LNetText;I[J)I"⟩) := by decide +kernel
theorem at_723 : lw_tbl[807]? = some (.codeWith ⟨"NetTextLaw", "behind", "(LNetText;I[J)I"⟩ method_12_code 4 (some .int) [(0, 9, 12, 25)]) := by decide +kernel
theorem at_734 : lw_tbl[818]? = some (.methodLink "NetTextLaw" 105 ⟨"NetTextLaw", "depth", "(LNetText;I[J)I"⟩) := by decide +kernel
theorem at_735 : lw_tbl[819]? = some (.static ⟨"NetTextLaw", "depth", "(LNetText;I[J)I"⟩) := by decide +kernel
theorem at_736 : lw_tbl[820]? = some (.codeWith ⟨"NetTextLaw", "depth", "(LNetText;I[J)I"⟩ method_13_code 4 (some .int) [(0, 9, 12, 25)]) := by decide +kernel
theorem at_741 : lw_tbl[825]? = some (.classLink "NetTextLaw" 54 "NetTextModel") := by decide +kernel
theorem at_742 : lw_tbl[826]? = some (.instantiable "NetTextModel" 26) := by decide +kernel
theorem at_743 : lw_tbl[827]? = some (.methodLink "NetTextLaw" 56 ⟨"NetTextModel", "<init>", "()V"⟩) := by decide +kernel
theorem at_744 : lw_tbl[828]? = some (.instanceMethod ⟨"NetTextModel", "<init>", "()V"⟩) := by decide +kernel
theorem at_745 : lw_tbl[829]? = some (.code ⟨"NetTextModel", "<init>", "()V"⟩ prog_8_method_1_code 1 none) := by decide +kernel
theorem at_846 : lw_tbl[930]? = some (.methodLink "NetTextLaw" 63 ⟨"NetTextModel", "thrown", "()I"⟩) := by decide +kernel
theorem at_847 : lw_tbl[931]? = some (.instanceMethod ⟨"NetTextModel", "thrown", "()I"⟩) := by decide +kernel
theorem at_848 : lw_tbl[932]? = some (.selects "NetTextModel" ⟨"NetTextModel", "thrown", "()I"⟩ ⟨"NetTextModel", "thrown", "()I"⟩) := by decide +kernel
theorem at_849 : lw_tbl[933]? = some (.code ⟨"NetTextModel", "thrown", "()I"⟩ prog_8_method_2_code 1 (some .int)) := by decide +kernel
theorem at_850 : lw_tbl[934]? = some (.methodLink "NetTextLaw" 62 ⟨"NetTextModel", "feed", "(IIIII)I"⟩) := by decide +kernel
theorem at_851 : lw_tbl[935]? = some (.instanceMethod ⟨"NetTextModel", "feed", "(IIIII)I"⟩) := by decide +kernel
theorem at_852 : lw_tbl[936]? = some (.selects "NetTextModel" ⟨"NetTextModel", "feed", "(IIIII)I"⟩ ⟨"NetTextModel", "feed", "(IIIII)I"⟩) := by decide +kernel
theorem at_853 : lw_tbl[937]? = some (.code ⟨"NetTextModel", "feed", "(IIIII)I"⟩ prog_8_method_3_code 8 (some .int)) := by decide +kernel
theorem at_856 : lw_tbl[940]? = some (.methodLink "NetTextLaw" 70 ⟨"NetTextModel", "end", "(I)V"⟩) := by decide +kernel
theorem at_857 : lw_tbl[941]? = some (.instanceMethod ⟨"NetTextModel", "end", "(I)V"⟩) := by decide +kernel
theorem at_858 : lw_tbl[942]? = some (.selects "NetTextModel" ⟨"NetTextModel", "end", "(I)V"⟩ ⟨"NetTextModel", "end", "(I)V"⟩) := by decide +kernel
theorem at_859 : lw_tbl[943]? = some (.code ⟨"NetTextModel", "end", "(I)V"⟩ prog_8_method_4_code 2 none) := by decide +kernel
theorem at_860 : lw_tbl[944]? = some (.methodLink "NetTextLaw" 74 ⟨"NetTextModel", "read", "()I"⟩) := by decide +kernel
theorem at_861 : lw_tbl[945]? = some (.instanceMethod ⟨"NetTextModel", "read", "()I"⟩) := by decide +kernel
theorem at_862 : lw_tbl[946]? = some (.selects "NetTextModel" ⟨"NetTextModel", "read", "()I"⟩ ⟨"NetTextModel", "read", "()I"⟩) := by decide +kernel
theorem at_863 : lw_tbl[947]? = some (.codeWith ⟨"NetTextModel", "read", "()I"⟩ prog_8_method_40_code 2 (some .int) [(35, 39, 42, 160)]) := by decide +kernel
theorem at_1028 : lw_tbl[1112]? = some (.methodLink "NetTextLaw" 78 ⟨"NetTextModel", "place", "()I"⟩) := by decide +kernel
theorem at_1029 : lw_tbl[1113]? = some (.instanceMethod ⟨"NetTextModel", "place", "()I"⟩) := by decide +kernel
theorem at_1030 : lw_tbl[1114]? = some (.selects "NetTextModel" ⟨"NetTextModel", "place", "()I"⟩ ⟨"NetTextModel", "place", "()I"⟩) := by decide +kernel
theorem at_1031 : lw_tbl[1115]? = some (.code ⟨"NetTextModel", "place", "()I"⟩ prog_8_method_42_code 1 (some .int)) := by decide +kernel
theorem at_1032 : lw_tbl[1116]? = some (.methodLink "NetTextLaw" 82 ⟨"NetTextModel", "kind", "(I)I"⟩) := by decide +kernel
theorem at_1033 : lw_tbl[1117]? = some (.instanceMethod ⟨"NetTextModel", "kind", "(I)I"⟩) := by decide +kernel
theorem at_1034 : lw_tbl[1118]? = some (.selects "NetTextModel" ⟨"NetTextModel", "kind", "(I)I"⟩ ⟨"NetTextModel", "kind", "(I)I"⟩) := by decide +kernel
theorem at_1035 : lw_tbl[1119]? = some (.code ⟨"NetTextModel", "kind", "(I)I"⟩ prog_8_method_43_code 2 (some .int)) := by decide +kernel
theorem at_1040 : lw_tbl[1124]? = some (.methodLink "NetTextLaw" 85 ⟨"NetTextModel", "begin", "(I)I"⟩) := by decide +kernel
theorem at_1041 : lw_tbl[1125]? = some (.instanceMethod ⟨"NetTextModel", "begin", "(I)I"⟩) := by decide +kernel
theorem at_1042 : lw_tbl[1126]? = some (.selects "NetTextModel" ⟨"NetTextModel", "begin", "(I)I"⟩ ⟨"NetTextModel", "begin", "(I)I"⟩) := by decide +kernel
theorem at_1043 : lw_tbl[1127]? = some (.code ⟨"NetTextModel", "begin", "(I)I"⟩ prog_8_method_44_code 2 (some .int)) := by decide +kernel
theorem at_1044 : lw_tbl[1128]? = some (.methodLink "NetTextLaw" 88 ⟨"NetTextModel", "parent", "(I)I"⟩) := by decide +kernel
theorem at_1045 : lw_tbl[1129]? = some (.instanceMethod ⟨"NetTextModel", "parent", "(I)I"⟩) := by decide +kernel
theorem at_1046 : lw_tbl[1130]? = some (.selects "NetTextModel" ⟨"NetTextModel", "parent", "(I)I"⟩ ⟨"NetTextModel", "parent", "(I)I"⟩) := by decide +kernel
theorem at_1047 : lw_tbl[1131]? = some (.code ⟨"NetTextModel", "parent", "(I)I"⟩ prog_8_method_45_code 2 (some .int)) := by decide +kernel
theorem at_1048 : lw_tbl[1132]? = some (.methodLink "NetTextLaw" 91 ⟨"NetTextModel", "sign", "(I)I"⟩) := by decide +kernel
theorem at_1049 : lw_tbl[1133]? = some (.instanceMethod ⟨"NetTextModel", "sign", "(I)I"⟩) := by decide +kernel
theorem at_1050 : lw_tbl[1134]? = some (.selects "NetTextModel" ⟨"NetTextModel", "sign", "(I)I"⟩ ⟨"NetTextModel", "sign", "(I)I"⟩) := by decide +kernel
theorem at_1051 : lw_tbl[1135]? = some (.code ⟨"NetTextModel", "sign", "(I)I"⟩ prog_8_method_46_code 2 (some .int)) := by decide +kernel
theorem at_1052 : lw_tbl[1136]? = some (.methodLink "NetTextLaw" 94 ⟨"NetTextModel", "nameLength", "(I)I"⟩) := by decide +kernel
theorem at_1053 : lw_tbl[1137]? = some (.instanceMethod ⟨"NetTextModel", "nameLength", "(I)I"⟩) := by decide +kernel
theorem at_1054 : lw_tbl[1138]? = some (.selects "NetTextModel" ⟨"NetTextModel", "nameLength", "(I)I"⟩ ⟨"NetTextModel", "nameLength", "(I)I"⟩) := by decide +kernel
theorem at_1055 : lw_tbl[1139]? = some (.code ⟨"NetTextModel", "nameLength", "(I)I"⟩ prog_8_method_47_code 2 (some .int)) := by decide +kernel
theorem at_1056 : lw_tbl[1140]? = some (.methodLink "NetTextLaw" 98 ⟨"NetTextModel", "nameAt", "(II)I"⟩) := by decide +kernel
theorem at_1057 : lw_tbl[1141]? = some (.instanceMethod ⟨"NetTextModel", "nameAt", "(II)I"⟩) := by decide +kernel
theorem at_1058 : lw_tbl[1142]? = some (.selects "NetTextModel" ⟨"NetTextModel", "nameAt", "(II)I"⟩ ⟨"NetTextModel", "nameAt", "(II)I"⟩) := by decide +kernel
theorem at_1059 : lw_tbl[1143]? = some (.code ⟨"NetTextModel", "nameAt", "(II)I"⟩ prog_8_method_48_code 3 (some .int)) := by decide +kernel
theorem at_1060 : lw_tbl[1144]? = some (.methodLink "NetTextLaw" 101 ⟨"NetTextModel", "digits", "(I)J"⟩) := by decide +kernel
theorem at_1061 : lw_tbl[1145]? = some (.instanceMethod ⟨"NetTextModel", "digits", "(I)J"⟩) := by decide +kernel
theorem at_1062 : lw_tbl[1146]? = some (.selects "NetTextModel" ⟨"NetTextModel", "digits", "(I)J"⟩ ⟨"NetTextModel", "digits", "(I)J"⟩) := by decide +kernel
theorem at_1063 : lw_tbl[1147]? = some (.code ⟨"NetTextModel", "digits", "(I)J"⟩ prog_8_method_49_code 2 (some .long)) := by decide +kernel
theorem at_1064 : lw_tbl[1148]? = some (.methodLink "NetTextLaw" 104 ⟨"NetTextModel", "behind", "(I)I"⟩) := by decide +kernel
theorem at_1065 : lw_tbl[1149]? = some (.instanceMethod ⟨"NetTextModel", "behind", "(I)I"⟩) := by decide +kernel
theorem at_1066 : lw_tbl[1150]? = some (.selects "NetTextModel" ⟨"NetTextModel", "behind", "(I)I"⟩ ⟨"NetTextModel", "behind", "(I)I"⟩) := by decide +kernel
theorem at_1067 : lw_tbl[1151]? = some (.code ⟨"NetTextModel", "behind", "(I)I"⟩ prog_8_method_50_code 2 (some .int)) := by decide +kernel
theorem at_1068 : lw_tbl[1152]? = some (.methodLink "NetTextLaw" 107 ⟨"NetTextModel", "depth", "(I)I"⟩) := by decide +kernel
theorem at_1069 : lw_tbl[1153]? = some (.instanceMethod ⟨"NetTextModel", "depth", "(I)I"⟩) := by decide +kernel
theorem at_1070 : lw_tbl[1154]? = some (.selects "NetTextModel" ⟨"NetTextModel", "depth", "(I)I"⟩ ⟨"NetTextModel", "depth", "(I)I"⟩) := by decide +kernel
theorem at_1071 : lw_tbl[1155]? = some (.code ⟨"NetTextModel", "depth", "(I)I"⟩ prog_8_method_51_code 2 (some .int)) := by decide +kernel
def R_law : String := "NetTextLaw"
def lw_P (b : Addr) (xs : List Int32) (args : Array Value) (s : State) : Prop := args = #[.ref b] ∧ s.IntsAt b xs ∧ xs.length ≤ 3072 ∧ (Jvm.Cond.and given_1 narrow_1).before args s = true
def lw_Q (_ : Array Value) (s : State) (o : Outcome) (t : State) : Prop := o = .returned (some (.int 1)) ∧ Framed s o t [] room_1.cells room_1.slots
def lw_Z (below : List Frame) (a : Array Value) (s : State) : State → Prop := fun t => ∃ o, t.status = .running ∧ Ended t below o ∧ lw_Q a s o t
/-- the law's own end, with 1 on the stack, nothing written that was there before, its room as the claim has it -/
theorem lw_ret {p : Program} {l : Launch} {e : Env} {s : State} {m : MethodId} {below : List Frame} {meth : Method} {c : Code} {b : Nat} (hx : p.tables.exec = Jvm.exec) (hb : c.code = code) (hr : meth.sig.returnType = ret) (hlocks : meth.locks = false) {pc : Nat} {H : Heap} {ls : Array Slot} (hdg : decode code pc = .ok (.ireturn, 1)) : W p l e room_1 s m #[Value.ref b] below meth c H [] room_1.cells room_1.slots (lw_Z below #[Value.ref b] s) (F0 m pc ls [.int 1]) := by
  intro T hT X
  obtain ⟨fs, hret, hrun, hended, hW, hframe⟩ := X.leave (v := some (.int 1)) (hlocks := hlocks) (fun h => by rw [hr] at h; cases h)
  have hmeth' : T.vm.method? m = some meth := X.method'
  refine ⟨T.setFrames fs, ?_, .returned (some (.int 1)), hrun, hended, rfl, ⟨_, rfl⟩, hW, hframe⟩
  jvm_step X.here [X.here.top, hx, hb, hdg, hmeth', hr, ret, narrow_b1]
  (try refine ⟨rfl, ?_⟩); (try refine ⟨rfl, ?_⟩)
  first | (intro acts; rw [hret _ acts rfl rfl rfl]) | rw [hret _ _ rfl rfl rfl]
  exact Steps.refl _
/-- what holds at the law's entry: the machine, the code, the tables' words (any of lw_tbl by 'hts w (by decide +kernel)'), the script of L ints xs at the cell b, what the Statement gives of the start (any of its parts by flat_of_before) -/
def lw_At (p : Program) (s : State) (m : MethodId) (meth : Method) (c : Code) (b L : Nat) (xs : Nat → Int32) : Prop :=
  p.tables.exec = Jvm.exec ∧ c.code = code ∧ meth.sig.returnType = ret ∧ c.maxLocals = 8 ∧ s.vm.findClass R_law = some m.cls ∧ (∀ w ∈ lw_tbl, w.before #[Value.ref b] s = true) ∧ va_X b L xs s s.heap ∧ b < s.heap.size ∧ meth.locks = false ∧ (Jvm.Cond.and given_1 narrow_1).before #[Value.ref b] s = true
abbrev b_L_law : ByteArray := code
theorem d_L_law_0 : decode b_L_law 0 = .ok (.new 8, 3) := by decide +kernel
theorem d_L_law_3 : decode b_L_law 3 = .ok (.dup, 1) := by decide +kernel
theorem d_L_law_4 : decode b_L_law 4 = .ok (.invokespecial 53, 3) := by decide +kernel
theorem d_L_law_7 : decode b_L_law 7 = .ok (.astore_n 1, 1) := by decide +kernel
theorem d_L_law_8 : decode b_L_law 8 = .ok (.new 54, 3) := by decide +kernel
theorem d_L_law_11 : decode b_L_law 11 = .ok (.dup, 1) := by decide +kernel
theorem d_L_law_12 : decode b_L_law 12 = .ok (.invokespecial 56, 3) := by decide +kernel
theorem d_L_law_15 : decode b_L_law 15 = .ok (.astore_n 2, 1) := by decide +kernel
theorem d_L_law_16 : decode b_L_law 16 = .ok (.iconst 1, 1) := by decide +kernel
theorem d_L_law_17 : decode b_L_law 17 = .ok (.newarray .long, 2) := by decide +kernel
theorem d_L_law_19 : decode b_L_law 19 = .ok (.astore_n 3, 1) := by decide +kernel
theorem d_L_law_20 : decode b_L_law 20 = .ok (.iconst 0, 1) := by decide +kernel
theorem d_L_law_21 : decode b_L_law 21 = .ok (.istore 4, 2) := by decide +kernel
theorem d_L_law_23 : decode b_L_law 23 = .ok (.iload 4, 2) := by decide +kernel
theorem d_L_law_25 : decode b_L_law 25 = .ok (.aload_n 0, 1) := by decide +kernel
theorem d_L_law_26 : decode b_L_law 26 = .ok (.arraylength, 1) := by decide +kernel
theorem d_L_law_27 : decode b_L_law 27 = .ok (.bipush 6, 2) := by decide +kernel
theorem d_L_law_29 : decode b_L_law 29 = .ok (.isub, 1) := by decide +kernel
theorem d_L_law_30 : decode b_L_law 30 = .ok (.if_icmp .gt 765, 3) := by decide +kernel
theorem d_L_law_33 : decode b_L_law 33 = .ok (.aload_n 0, 1) := by decide +kernel
theorem d_L_law_34 : decode b_L_law 34 = .ok (.iload 4, 2) := by decide +kernel
theorem d_L_law_36 : decode b_L_law 36 = .ok (.iaload, 1) := by decide +kernel
theorem d_L_law_37 : decode b_L_law 37 = .ok (.bipush 15, 2) := by decide +kernel
theorem d_L_law_39 : decode b_L_law 39 = .ok (.iand, 1) := by decide +kernel
theorem d_L_law_40 : decode b_L_law 40 = .ok (.tableswitch 749 0 12 #[68, 172, 208, 221, 234, 290, 346, 402, 458, 514, 582, 637, 693], 68) := by decide +kernel
theorem d_L_law_108 : decode b_L_law 108 = .ok (.aload_n 1, 1) := by decide +kernel
theorem d_L_law_109 : decode b_L_law 109 = .ok (.aload_n 0, 1) := by decide +kernel
theorem d_L_law_110 : decode b_L_law 110 = .ok (.iload 4, 2) := by decide +kernel
theorem d_L_law_112 : decode b_L_law 112 = .ok (.iconst 1, 1) := by decide +kernel
theorem d_L_law_113 : decode b_L_law 113 = .ok (.iadd, 1) := by decide +kernel
theorem d_L_law_114 : decode b_L_law 114 = .ok (.iaload, 1) := by decide +kernel
theorem d_L_law_115 : decode b_L_law 115 = .ok (.aload_n 0, 1) := by decide +kernel
theorem d_L_law_116 : decode b_L_law 116 = .ok (.iload 4, 2) := by decide +kernel
theorem d_L_law_118 : decode b_L_law 118 = .ok (.iconst 2, 1) := by decide +kernel
theorem d_L_law_119 : decode b_L_law 119 = .ok (.iadd, 1) := by decide +kernel
theorem d_L_law_120 : decode b_L_law 120 = .ok (.iaload, 1) := by decide +kernel
theorem d_L_law_121 : decode b_L_law 121 = .ok (.aload_n 0, 1) := by decide +kernel
theorem d_L_law_122 : decode b_L_law 122 = .ok (.iload 4, 2) := by decide +kernel
theorem d_L_law_124 : decode b_L_law 124 = .ok (.iconst 3, 1) := by decide +kernel
theorem d_L_law_125 : decode b_L_law 125 = .ok (.iadd, 1) := by decide +kernel
theorem d_L_law_126 : decode b_L_law 126 = .ok (.iaload, 1) := by decide +kernel
theorem d_L_law_127 : decode b_L_law 127 = .ok (.aload_n 0, 1) := by decide +kernel
theorem d_L_law_128 : decode b_L_law 128 = .ok (.iload 4, 2) := by decide +kernel
theorem d_L_law_130 : decode b_L_law 130 = .ok (.iconst 4, 1) := by decide +kernel
theorem d_L_law_131 : decode b_L_law 131 = .ok (.iadd, 1) := by decide +kernel
theorem d_L_law_132 : decode b_L_law 132 = .ok (.iaload, 1) := by decide +kernel
theorem d_L_law_133 : decode b_L_law 133 = .ok (.aload_n 0, 1) := by decide +kernel
theorem d_L_law_134 : decode b_L_law 134 = .ok (.iload 4, 2) := by decide +kernel
theorem d_L_law_136 : decode b_L_law 136 = .ok (.iconst 5, 1) := by decide +kernel
theorem d_L_law_137 : decode b_L_law 137 = .ok (.iadd, 1) := by decide +kernel
theorem d_L_law_138 : decode b_L_law 138 = .ok (.iaload, 1) := by decide +kernel
theorem d_L_law_139 : decode b_L_law 139 = .ok (.aload_n 3, 1) := by decide +kernel
theorem d_L_law_140 : decode b_L_law 140 = .ok (.invokestatic 57, 3) := by decide +kernel
theorem d_L_law_143 : decode b_L_law 143 = .ok (.istore 5, 2) := by decide +kernel
theorem d_L_law_145 : decode b_L_law 145 = .ok (.aload_n 2, 1) := by decide +kernel
theorem d_L_law_146 : decode b_L_law 146 = .ok (.aload_n 0, 1) := by decide +kernel
theorem d_L_law_147 : decode b_L_law 147 = .ok (.iload 4, 2) := by decide +kernel
theorem d_L_law_149 : decode b_L_law 149 = .ok (.iconst 1, 1) := by decide +kernel
theorem d_L_law_150 : decode b_L_law 150 = .ok (.iadd, 1) := by decide +kernel
theorem d_L_law_151 : decode b_L_law 151 = .ok (.iaload, 1) := by decide +kernel
theorem d_L_law_152 : decode b_L_law 152 = .ok (.aload_n 0, 1) := by decide +kernel
theorem d_L_law_153 : decode b_L_law 153 = .ok (.iload 4, 2) := by decide +kernel
theorem d_L_law_155 : decode b_L_law 155 = .ok (.iconst 2, 1) := by decide +kernel
theorem d_L_law_156 : decode b_L_law 156 = .ok (.iadd, 1) := by decide +kernel
theorem d_L_law_157 : decode b_L_law 157 = .ok (.iaload, 1) := by decide +kernel
theorem d_L_law_158 : decode b_L_law 158 = .ok (.aload_n 0, 1) := by decide +kernel
theorem d_L_law_159 : decode b_L_law 159 = .ok (.iload 4, 2) := by decide +kernel
theorem d_L_law_161 : decode b_L_law 161 = .ok (.iconst 3, 1) := by decide +kernel
theorem d_L_law_162 : decode b_L_law 162 = .ok (.iadd, 1) := by decide +kernel
theorem d_L_law_163 : decode b_L_law 163 = .ok (.iaload, 1) := by decide +kernel
theorem d_L_law_164 : decode b_L_law 164 = .ok (.aload_n 0, 1) := by decide +kernel
theorem d_L_law_165 : decode b_L_law 165 = .ok (.iload 4, 2) := by decide +kernel
theorem d_L_law_167 : decode b_L_law 167 = .ok (.iconst 4, 1) := by decide +kernel
theorem d_L_law_168 : decode b_L_law 168 = .ok (.iadd, 1) := by decide +kernel
theorem d_L_law_169 : decode b_L_law 169 = .ok (.iaload, 1) := by decide +kernel
theorem d_L_law_170 : decode b_L_law 170 = .ok (.aload_n 0, 1) := by decide +kernel
theorem d_L_law_171 : decode b_L_law 171 = .ok (.iload 4, 2) := by decide +kernel
theorem d_L_law_173 : decode b_L_law 173 = .ok (.iconst 5, 1) := by decide +kernel
theorem d_L_law_174 : decode b_L_law 174 = .ok (.iadd, 1) := by decide +kernel
theorem d_L_law_175 : decode b_L_law 175 = .ok (.iaload, 1) := by decide +kernel
theorem d_L_law_176 : decode b_L_law 176 = .ok (.invokevirtual 62, 3) := by decide +kernel
theorem d_L_law_179 : decode b_L_law 179 = .ok (.istore 6, 2) := by decide +kernel
theorem d_L_law_181 : decode b_L_law 181 = .ok (.aload_n 2, 1) := by decide +kernel
theorem d_L_law_182 : decode b_L_law 182 = .ok (.invokevirtual 63, 3) := by decide +kernel
theorem d_L_law_185 : decode b_L_law 185 = .ok (.iload 5, 2) := by decide +kernel
theorem d_L_law_187 : decode b_L_law 187 = .ok (.if_icmp .eq 5, 3) := by decide +kernel
theorem d_L_law_190 : decode b_L_law 190 = .ok (.iconst 0, 1) := by decide +kernel
theorem d_L_law_191 : decode b_L_law 191 = .ok (.ireturn, 1) := by decide +kernel
theorem d_L_law_192 : decode b_L_law 192 = .ok (.iload 5, 2) := by decide +kernel
theorem d_L_law_194 : decode b_L_law 194 = .ok (.ifCond .ne 15, 3) := by decide +kernel
theorem d_L_law_197 : decode b_L_law 197 = .ok (.aload_n 3, 1) := by decide +kernel
theorem d_L_law_198 : decode b_L_law 198 = .ok (.iconst 0, 1) := by decide +kernel
theorem d_L_law_199 : decode b_L_law 199 = .ok (.laload, 1) := by decide +kernel
theorem d_L_law_200 : decode b_L_law 200 = .ok (.iload 6, 2) := by decide +kernel
theorem d_L_law_202 : decode b_L_law 202 = .ok (.i2l, 1) := by decide +kernel
theorem d_L_law_203 : decode b_L_law 203 = .ok (.lcmp, 1) := by decide +kernel
theorem d_L_law_204 : decode b_L_law 204 = .ok (.ifCond .eq 5, 3) := by decide +kernel
theorem d_L_law_207 : decode b_L_law 207 = .ok (.iconst 0, 1) := by decide +kernel
theorem d_L_law_208 : decode b_L_law 208 = .ok (.ireturn, 1) := by decide +kernel
theorem d_L_law_209 : decode b_L_law 209 = .ok (.goto 580, 3) := by decide +kernel
theorem d_L_law_212 : decode b_L_law 212 = .ok (.aload_n 1, 1) := by decide +kernel
theorem d_L_law_213 : decode b_L_law 213 = .ok (.aload_n 0, 1) := by decide +kernel
theorem d_L_law_214 : decode b_L_law 214 = .ok (.iload 4, 2) := by decide +kernel
theorem d_L_law_216 : decode b_L_law 216 = .ok (.iconst 1, 1) := by decide +kernel
theorem d_L_law_217 : decode b_L_law 217 = .ok (.iadd, 1) := by decide +kernel
theorem d_L_law_218 : decode b_L_law 218 = .ok (.iaload, 1) := by decide +kernel
theorem d_L_law_219 : decode b_L_law 219 = .ok (.invokestatic 67, 3) := by decide +kernel
theorem d_L_law_222 : decode b_L_law 222 = .ok (.istore 5, 2) := by decide +kernel
theorem d_L_law_224 : decode b_L_law 224 = .ok (.aload_n 2, 1) := by decide +kernel
theorem d_L_law_225 : decode b_L_law 225 = .ok (.aload_n 0, 1) := by decide +kernel
theorem d_L_law_226 : decode b_L_law 226 = .ok (.iload 4, 2) := by decide +kernel
theorem d_L_law_228 : decode b_L_law 228 = .ok (.iconst 1, 1) := by decide +kernel
theorem d_L_law_229 : decode b_L_law 229 = .ok (.iadd, 1) := by decide +kernel
theorem d_L_law_230 : decode b_L_law 230 = .ok (.iaload, 1) := by decide +kernel
theorem d_L_law_231 : decode b_L_law 231 = .ok (.invokevirtual 70, 3) := by decide +kernel
theorem d_L_law_234 : decode b_L_law 234 = .ok (.aload_n 2, 1) := by decide +kernel
theorem d_L_law_235 : decode b_L_law 235 = .ok (.invokevirtual 63, 3) := by decide +kernel
theorem d_L_law_238 : decode b_L_law 238 = .ok (.iload 5, 2) := by decide +kernel
theorem d_L_law_240 : decode b_L_law 240 = .ok (.if_icmp .eq 5, 3) := by decide +kernel
theorem d_L_law_243 : decode b_L_law 243 = .ok (.iconst 0, 1) := by decide +kernel
theorem d_L_law_244 : decode b_L_law 244 = .ok (.ireturn, 1) := by decide +kernel
theorem d_L_law_245 : decode b_L_law 245 = .ok (.goto 544, 3) := by decide +kernel
theorem d_L_law_248 : decode b_L_law 248 = .ok (.aload_n 1, 1) := by decide +kernel
theorem d_L_law_249 : decode b_L_law 249 = .ok (.invokevirtual 71, 3) := by decide +kernel
theorem d_L_law_252 : decode b_L_law 252 = .ok (.aload_n 2, 1) := by decide +kernel
theorem d_L_law_253 : decode b_L_law 253 = .ok (.invokevirtual 74, 3) := by decide +kernel
theorem d_L_law_256 : decode b_L_law 256 = .ok (.if_icmp .eq 533, 3) := by decide +kernel
theorem d_L_law_259 : decode b_L_law 259 = .ok (.iconst 0, 1) := by decide +kernel
theorem d_L_law_260 : decode b_L_law 260 = .ok (.ireturn, 1) := by decide +kernel
theorem d_L_law_261 : decode b_L_law 261 = .ok (.aload_n 1, 1) := by decide +kernel
theorem d_L_law_262 : decode b_L_law 262 = .ok (.invokevirtual 75, 3) := by decide +kernel
theorem d_L_law_265 : decode b_L_law 265 = .ok (.aload_n 2, 1) := by decide +kernel
theorem d_L_law_266 : decode b_L_law 266 = .ok (.invokevirtual 78, 3) := by decide +kernel
theorem d_L_law_269 : decode b_L_law 269 = .ok (.if_icmp .eq 520, 3) := by decide +kernel
theorem d_L_law_272 : decode b_L_law 272 = .ok (.iconst 0, 1) := by decide +kernel
theorem d_L_law_273 : decode b_L_law 273 = .ok (.ireturn, 1) := by decide +kernel
theorem d_L_law_274 : decode b_L_law 274 = .ok (.aload_n 1, 1) := by decide +kernel
theorem d_L_law_275 : decode b_L_law 275 = .ok (.aload_n 0, 1) := by decide +kernel
theorem d_L_law_276 : decode b_L_law 276 = .ok (.iload 4, 2) := by decide +kernel
theorem d_L_law_278 : decode b_L_law 278 = .ok (.iconst 1, 1) := by decide +kernel
theorem d_L_law_279 : decode b_L_law 279 = .ok (.iadd, 1) := by decide +kernel
theorem d_L_law_280 : decode b_L_law 280 = .ok (.iaload, 1) := by decide +kernel
theorem d_L_law_281 : decode b_L_law 281 = .ok (.aload_n 3, 1) := by decide +kernel
theorem d_L_law_282 : decode b_L_law 282 = .ok (.invokestatic 79, 3) := by decide +kernel
theorem d_L_law_285 : decode b_L_law 285 = .ok (.istore 5, 2) := by decide +kernel
theorem d_L_law_287 : decode b_L_law 287 = .ok (.aload_n 2, 1) := by decide +kernel
theorem d_L_law_288 : decode b_L_law 288 = .ok (.aload_n 0, 1) := by decide +kernel
theorem d_L_law_289 : decode b_L_law 289 = .ok (.iload 4, 2) := by decide +kernel
theorem d_L_law_291 : decode b_L_law 291 = .ok (.iconst 1, 1) := by decide +kernel
theorem d_L_law_292 : decode b_L_law 292 = .ok (.iadd, 1) := by decide +kernel
theorem d_L_law_293 : decode b_L_law 293 = .ok (.iaload, 1) := by decide +kernel
theorem d_L_law_294 : decode b_L_law 294 = .ok (.invokevirtual 82, 3) := by decide +kernel
theorem d_L_law_297 : decode b_L_law 297 = .ok (.istore 6, 2) := by decide +kernel
theorem d_L_law_299 : decode b_L_law 299 = .ok (.aload_n 2, 1) := by decide +kernel
theorem d_L_law_300 : decode b_L_law 300 = .ok (.invokevirtual 63, 3) := by decide +kernel
theorem d_L_law_303 : decode b_L_law 303 = .ok (.iload 5, 2) := by decide +kernel
theorem d_L_law_305 : decode b_L_law 305 = .ok (.if_icmp .eq 5, 3) := by decide +kernel
theorem d_L_law_308 : decode b_L_law 308 = .ok (.iconst 0, 1) := by decide +kernel
theorem d_L_law_309 : decode b_L_law 309 = .ok (.ireturn, 1) := by decide +kernel
theorem d_L_law_310 : decode b_L_law 310 = .ok (.iload 5, 2) := by decide +kernel
theorem d_L_law_312 : decode b_L_law 312 = .ok (.ifCond .ne 15, 3) := by decide +kernel
theorem d_L_law_315 : decode b_L_law 315 = .ok (.aload_n 3, 1) := by decide +kernel
theorem d_L_law_316 : decode b_L_law 316 = .ok (.iconst 0, 1) := by decide +kernel
theorem d_L_law_317 : decode b_L_law 317 = .ok (.laload, 1) := by decide +kernel
theorem d_L_law_318 : decode b_L_law 318 = .ok (.iload 6, 2) := by decide +kernel
theorem d_L_law_320 : decode b_L_law 320 = .ok (.i2l, 1) := by decide +kernel
theorem d_L_law_321 : decode b_L_law 321 = .ok (.lcmp, 1) := by decide +kernel
theorem d_L_law_322 : decode b_L_law 322 = .ok (.ifCond .eq 5, 3) := by decide +kernel
theorem d_L_law_325 : decode b_L_law 325 = .ok (.iconst 0, 1) := by decide +kernel
theorem d_L_law_326 : decode b_L_law 326 = .ok (.ireturn, 1) := by decide +kernel
theorem d_L_law_327 : decode b_L_law 327 = .ok (.goto 462, 3) := by decide +kernel
theorem d_L_law_330 : decode b_L_law 330 = .ok (.aload_n 1, 1) := by decide +kernel
theorem d_L_law_331 : decode b_L_law 331 = .ok (.aload_n 0, 1) := by decide +kernel
theorem d_L_law_332 : decode b_L_law 332 = .ok (.iload 4, 2) := by decide +kernel
theorem d_L_law_334 : decode b_L_law 334 = .ok (.iconst 1, 1) := by decide +kernel
theorem d_L_law_335 : decode b_L_law 335 = .ok (.iadd, 1) := by decide +kernel
theorem d_L_law_336 : decode b_L_law 336 = .ok (.iaload, 1) := by decide +kernel
theorem d_L_law_337 : decode b_L_law 337 = .ok (.aload_n 3, 1) := by decide +kernel
theorem d_L_law_338 : decode b_L_law 338 = .ok (.invokestatic 83, 3) := by decide +kernel
theorem d_L_law_341 : decode b_L_law 341 = .ok (.istore 5, 2) := by decide +kernel
theorem d_L_law_343 : decode b_L_law 343 = .ok (.aload_n 2, 1) := by decide +kernel
theorem d_L_law_344 : decode b_L_law 344 = .ok (.aload_n 0, 1) := by decide +kernel
theorem d_L_law_345 : decode b_L_law 345 = .ok (.iload 4, 2) := by decide +kernel
theorem d_L_law_347 : decode b_L_law 347 = .ok (.iconst 1, 1) := by decide +kernel
theorem d_L_law_348 : decode b_L_law 348 = .ok (.iadd, 1) := by decide +kernel
theorem d_L_law_349 : decode b_L_law 349 = .ok (.iaload, 1) := by decide +kernel
theorem d_L_law_350 : decode b_L_law 350 = .ok (.invokevirtual 85, 3) := by decide +kernel
theorem d_L_law_353 : decode b_L_law 353 = .ok (.istore 6, 2) := by decide +kernel
theorem d_L_law_355 : decode b_L_law 355 = .ok (.aload_n 2, 1) := by decide +kernel
theorem d_L_law_356 : decode b_L_law 356 = .ok (.invokevirtual 63, 3) := by decide +kernel
theorem d_L_law_359 : decode b_L_law 359 = .ok (.iload 5, 2) := by decide +kernel
theorem d_L_law_361 : decode b_L_law 361 = .ok (.if_icmp .eq 5, 3) := by decide +kernel
theorem d_L_law_364 : decode b_L_law 364 = .ok (.iconst 0, 1) := by decide +kernel
theorem d_L_law_365 : decode b_L_law 365 = .ok (.ireturn, 1) := by decide +kernel
theorem d_L_law_366 : decode b_L_law 366 = .ok (.iload 5, 2) := by decide +kernel
theorem d_L_law_368 : decode b_L_law 368 = .ok (.ifCond .ne 15, 3) := by decide +kernel
theorem d_L_law_371 : decode b_L_law 371 = .ok (.aload_n 3, 1) := by decide +kernel
theorem d_L_law_372 : decode b_L_law 372 = .ok (.iconst 0, 1) := by decide +kernel
theorem d_L_law_373 : decode b_L_law 373 = .ok (.laload, 1) := by decide +kernel
theorem d_L_law_374 : decode b_L_law 374 = .ok (.iload 6, 2) := by decide +kernel
theorem d_L_law_376 : decode b_L_law 376 = .ok (.i2l, 1) := by decide +kernel
theorem d_L_law_377 : decode b_L_law 377 = .ok (.lcmp, 1) := by decide +kernel
theorem d_L_law_378 : decode b_L_law 378 = .ok (.ifCond .eq 5, 3) := by decide +kernel
theorem d_L_law_381 : decode b_L_law 381 = .ok (.iconst 0, 1) := by decide +kernel
theorem d_L_law_382 : decode b_L_law 382 = .ok (.ireturn, 1) := by decide +kernel
theorem d_L_law_383 : decode b_L_law 383 = .ok (.goto 406, 3) := by decide +kernel
theorem d_L_law_386 : decode b_L_law 386 = .ok (.aload_n 1, 1) := by decide +kernel
theorem d_L_law_387 : decode b_L_law 387 = .ok (.aload_n 0, 1) := by decide +kernel
theorem d_L_law_388 : decode b_L_law 388 = .ok (.iload 4, 2) := by decide +kernel
theorem d_L_law_390 : decode b_L_law 390 = .ok (.iconst 1, 1) := by decide +kernel
theorem d_L_law_391 : decode b_L_law 391 = .ok (.iadd, 1) := by decide +kernel
theorem d_L_law_392 : decode b_L_law 392 = .ok (.iaload, 1) := by decide +kernel
theorem d_L_law_393 : decode b_L_law 393 = .ok (.aload_n 3, 1) := by decide +kernel
theorem d_L_law_394 : decode b_L_law 394 = .ok (.invokestatic 86, 3) := by decide +kernel
theorem d_L_law_397 : decode b_L_law 397 = .ok (.istore 5, 2) := by decide +kernel
theorem d_L_law_399 : decode b_L_law 399 = .ok (.aload_n 2, 1) := by decide +kernel
theorem d_L_law_400 : decode b_L_law 400 = .ok (.aload_n 0, 1) := by decide +kernel
theorem d_L_law_401 : decode b_L_law 401 = .ok (.iload 4, 2) := by decide +kernel
theorem d_L_law_403 : decode b_L_law 403 = .ok (.iconst 1, 1) := by decide +kernel
theorem d_L_law_404 : decode b_L_law 404 = .ok (.iadd, 1) := by decide +kernel
theorem d_L_law_405 : decode b_L_law 405 = .ok (.iaload, 1) := by decide +kernel
theorem d_L_law_406 : decode b_L_law 406 = .ok (.invokevirtual 88, 3) := by decide +kernel
theorem d_L_law_409 : decode b_L_law 409 = .ok (.istore 6, 2) := by decide +kernel
theorem d_L_law_411 : decode b_L_law 411 = .ok (.aload_n 2, 1) := by decide +kernel
theorem d_L_law_412 : decode b_L_law 412 = .ok (.invokevirtual 63, 3) := by decide +kernel
theorem d_L_law_415 : decode b_L_law 415 = .ok (.iload 5, 2) := by decide +kernel
theorem d_L_law_417 : decode b_L_law 417 = .ok (.if_icmp .eq 5, 3) := by decide +kernel
theorem d_L_law_420 : decode b_L_law 420 = .ok (.iconst 0, 1) := by decide +kernel
theorem d_L_law_421 : decode b_L_law 421 = .ok (.ireturn, 1) := by decide +kernel
theorem d_L_law_422 : decode b_L_law 422 = .ok (.iload 5, 2) := by decide +kernel
theorem d_L_law_424 : decode b_L_law 424 = .ok (.ifCond .ne 15, 3) := by decide +kernel
theorem d_L_law_427 : decode b_L_law 427 = .ok (.aload_n 3, 1) := by decide +kernel
theorem d_L_law_428 : decode b_L_law 428 = .ok (.iconst 0, 1) := by decide +kernel
theorem d_L_law_429 : decode b_L_law 429 = .ok (.laload, 1) := by decide +kernel
theorem d_L_law_430 : decode b_L_law 430 = .ok (.iload 6, 2) := by decide +kernel
theorem d_L_law_432 : decode b_L_law 432 = .ok (.i2l, 1) := by decide +kernel
theorem d_L_law_433 : decode b_L_law 433 = .ok (.lcmp, 1) := by decide +kernel
theorem d_L_law_434 : decode b_L_law 434 = .ok (.ifCond .eq 5, 3) := by decide +kernel
theorem d_L_law_437 : decode b_L_law 437 = .ok (.iconst 0, 1) := by decide +kernel
theorem d_L_law_438 : decode b_L_law 438 = .ok (.ireturn, 1) := by decide +kernel
theorem d_L_law_439 : decode b_L_law 439 = .ok (.goto 350, 3) := by decide +kernel
theorem d_L_law_442 : decode b_L_law 442 = .ok (.aload_n 1, 1) := by decide +kernel
theorem d_L_law_443 : decode b_L_law 443 = .ok (.aload_n 0, 1) := by decide +kernel
theorem d_L_law_444 : decode b_L_law 444 = .ok (.iload 4, 2) := by decide +kernel
theorem d_L_law_446 : decode b_L_law 446 = .ok (.iconst 1, 1) := by decide +kernel
theorem d_L_law_447 : decode b_L_law 447 = .ok (.iadd, 1) := by decide +kernel
theorem d_L_law_448 : decode b_L_law 448 = .ok (.iaload, 1) := by decide +kernel
theorem d_L_law_449 : decode b_L_law 449 = .ok (.aload_n 3, 1) := by decide +kernel
theorem d_L_law_450 : decode b_L_law 450 = .ok (.invokestatic 89, 3) := by decide +kernel
theorem d_L_law_453 : decode b_L_law 453 = .ok (.istore 5, 2) := by decide +kernel
theorem d_L_law_455 : decode b_L_law 455 = .ok (.aload_n 2, 1) := by decide +kernel
theorem d_L_law_456 : decode b_L_law 456 = .ok (.aload_n 0, 1) := by decide +kernel
theorem d_L_law_457 : decode b_L_law 457 = .ok (.iload 4, 2) := by decide +kernel
theorem d_L_law_459 : decode b_L_law 459 = .ok (.iconst 1, 1) := by decide +kernel
theorem d_L_law_460 : decode b_L_law 460 = .ok (.iadd, 1) := by decide +kernel
theorem d_L_law_461 : decode b_L_law 461 = .ok (.iaload, 1) := by decide +kernel
theorem d_L_law_462 : decode b_L_law 462 = .ok (.invokevirtual 91, 3) := by decide +kernel
theorem d_L_law_465 : decode b_L_law 465 = .ok (.istore 6, 2) := by decide +kernel
theorem d_L_law_467 : decode b_L_law 467 = .ok (.aload_n 2, 1) := by decide +kernel
theorem d_L_law_468 : decode b_L_law 468 = .ok (.invokevirtual 63, 3) := by decide +kernel
theorem d_L_law_471 : decode b_L_law 471 = .ok (.iload 5, 2) := by decide +kernel
theorem d_L_law_473 : decode b_L_law 473 = .ok (.if_icmp .eq 5, 3) := by decide +kernel
theorem d_L_law_476 : decode b_L_law 476 = .ok (.iconst 0, 1) := by decide +kernel
theorem d_L_law_477 : decode b_L_law 477 = .ok (.ireturn, 1) := by decide +kernel
theorem d_L_law_478 : decode b_L_law 478 = .ok (.iload 5, 2) := by decide +kernel
theorem d_L_law_480 : decode b_L_law 480 = .ok (.ifCond .ne 15, 3) := by decide +kernel
theorem d_L_law_483 : decode b_L_law 483 = .ok (.aload_n 3, 1) := by decide +kernel
theorem d_L_law_484 : decode b_L_law 484 = .ok (.iconst 0, 1) := by decide +kernel
theorem d_L_law_485 : decode b_L_law 485 = .ok (.laload, 1) := by decide +kernel
theorem d_L_law_486 : decode b_L_law 486 = .ok (.iload 6, 2) := by decide +kernel
theorem d_L_law_488 : decode b_L_law 488 = .ok (.i2l, 1) := by decide +kernel
theorem d_L_law_489 : decode b_L_law 489 = .ok (.lcmp, 1) := by decide +kernel
theorem d_L_law_490 : decode b_L_law 490 = .ok (.ifCond .eq 5, 3) := by decide +kernel
theorem d_L_law_493 : decode b_L_law 493 = .ok (.iconst 0, 1) := by decide +kernel
theorem d_L_law_494 : decode b_L_law 494 = .ok (.ireturn, 1) := by decide +kernel
theorem d_L_law_495 : decode b_L_law 495 = .ok (.goto 294, 3) := by decide +kernel
theorem d_L_law_498 : decode b_L_law 498 = .ok (.aload_n 1, 1) := by decide +kernel
theorem d_L_law_499 : decode b_L_law 499 = .ok (.aload_n 0, 1) := by decide +kernel
theorem d_L_law_500 : decode b_L_law 500 = .ok (.iload 4, 2) := by decide +kernel
theorem d_L_law_502 : decode b_L_law 502 = .ok (.iconst 1, 1) := by decide +kernel
theorem d_L_law_503 : decode b_L_law 503 = .ok (.iadd, 1) := by decide +kernel
theorem d_L_law_504 : decode b_L_law 504 = .ok (.iaload, 1) := by decide +kernel
theorem d_L_law_505 : decode b_L_law 505 = .ok (.aload_n 3, 1) := by decide +kernel
theorem d_L_law_506 : decode b_L_law 506 = .ok (.invokestatic 92, 3) := by decide +kernel
theorem d_L_law_509 : decode b_L_law 509 = .ok (.istore 5, 2) := by decide +kernel
theorem d_L_law_511 : decode b_L_law 511 = .ok (.aload_n 2, 1) := by decide +kernel
theorem d_L_law_512 : decode b_L_law 512 = .ok (.aload_n 0, 1) := by decide +kernel
theorem d_L_law_513 : decode b_L_law 513 = .ok (.iload 4, 2) := by decide +kernel
theorem d_L_law_515 : decode b_L_law 515 = .ok (.iconst 1, 1) := by decide +kernel
theorem d_L_law_516 : decode b_L_law 516 = .ok (.iadd, 1) := by decide +kernel
theorem d_L_law_517 : decode b_L_law 517 = .ok (.iaload, 1) := by decide +kernel
theorem d_L_law_518 : decode b_L_law 518 = .ok (.invokevirtual 94, 3) := by decide +kernel
theorem d_L_law_521 : decode b_L_law 521 = .ok (.istore 6, 2) := by decide +kernel
theorem d_L_law_523 : decode b_L_law 523 = .ok (.aload_n 2, 1) := by decide +kernel
theorem d_L_law_524 : decode b_L_law 524 = .ok (.invokevirtual 63, 3) := by decide +kernel
theorem d_L_law_527 : decode b_L_law 527 = .ok (.iload 5, 2) := by decide +kernel
theorem d_L_law_529 : decode b_L_law 529 = .ok (.if_icmp .eq 5, 3) := by decide +kernel
theorem d_L_law_532 : decode b_L_law 532 = .ok (.iconst 0, 1) := by decide +kernel
theorem d_L_law_533 : decode b_L_law 533 = .ok (.ireturn, 1) := by decide +kernel
theorem d_L_law_534 : decode b_L_law 534 = .ok (.iload 5, 2) := by decide +kernel
theorem d_L_law_536 : decode b_L_law 536 = .ok (.ifCond .ne 15, 3) := by decide +kernel
theorem d_L_law_539 : decode b_L_law 539 = .ok (.aload_n 3, 1) := by decide +kernel
theorem d_L_law_540 : decode b_L_law 540 = .ok (.iconst 0, 1) := by decide +kernel
theorem d_L_law_541 : decode b_L_law 541 = .ok (.laload, 1) := by decide +kernel
theorem d_L_law_542 : decode b_L_law 542 = .ok (.iload 6, 2) := by decide +kernel
theorem d_L_law_544 : decode b_L_law 544 = .ok (.i2l, 1) := by decide +kernel
theorem d_L_law_545 : decode b_L_law 545 = .ok (.lcmp, 1) := by decide +kernel
theorem d_L_law_546 : decode b_L_law 546 = .ok (.ifCond .eq 5, 3) := by decide +kernel
theorem d_L_law_549 : decode b_L_law 549 = .ok (.iconst 0, 1) := by decide +kernel
theorem d_L_law_550 : decode b_L_law 550 = .ok (.ireturn, 1) := by decide +kernel
theorem d_L_law_551 : decode b_L_law 551 = .ok (.goto 238, 3) := by decide +kernel
theorem d_L_law_554 : decode b_L_law 554 = .ok (.aload_n 1, 1) := by decide +kernel
theorem d_L_law_555 : decode b_L_law 555 = .ok (.aload_n 0, 1) := by decide +kernel
theorem d_L_law_556 : decode b_L_law 556 = .ok (.iload 4, 2) := by decide +kernel
theorem d_L_law_558 : decode b_L_law 558 = .ok (.iconst 1, 1) := by decide +kernel
theorem d_L_law_559 : decode b_L_law 559 = .ok (.iadd, 1) := by decide +kernel
theorem d_L_law_560 : decode b_L_law 560 = .ok (.iaload, 1) := by decide +kernel
theorem d_L_law_561 : decode b_L_law 561 = .ok (.aload_n 0, 1) := by decide +kernel
theorem d_L_law_562 : decode b_L_law 562 = .ok (.iload 4, 2) := by decide +kernel
theorem d_L_law_564 : decode b_L_law 564 = .ok (.iconst 2, 1) := by decide +kernel
theorem d_L_law_565 : decode b_L_law 565 = .ok (.iadd, 1) := by decide +kernel
theorem d_L_law_566 : decode b_L_law 566 = .ok (.iaload, 1) := by decide +kernel
theorem d_L_law_567 : decode b_L_law 567 = .ok (.aload_n 3, 1) := by decide +kernel
theorem d_L_law_568 : decode b_L_law 568 = .ok (.invokestatic 95, 3) := by decide +kernel
theorem d_L_law_571 : decode b_L_law 571 = .ok (.istore 5, 2) := by decide +kernel
theorem d_L_law_573 : decode b_L_law 573 = .ok (.aload_n 2, 1) := by decide +kernel
theorem d_L_law_574 : decode b_L_law 574 = .ok (.aload_n 0, 1) := by decide +kernel
theorem d_L_law_575 : decode b_L_law 575 = .ok (.iload 4, 2) := by decide +kernel
theorem d_L_law_577 : decode b_L_law 577 = .ok (.iconst 1, 1) := by decide +kernel
theorem d_L_law_578 : decode b_L_law 578 = .ok (.iadd, 1) := by decide +kernel
theorem d_L_law_579 : decode b_L_law 579 = .ok (.iaload, 1) := by decide +kernel
theorem d_L_law_580 : decode b_L_law 580 = .ok (.aload_n 0, 1) := by decide +kernel
theorem d_L_law_581 : decode b_L_law 581 = .ok (.iload 4, 2) := by decide +kernel
theorem d_L_law_583 : decode b_L_law 583 = .ok (.iconst 2, 1) := by decide +kernel
theorem d_L_law_584 : decode b_L_law 584 = .ok (.iadd, 1) := by decide +kernel
theorem d_L_law_585 : decode b_L_law 585 = .ok (.iaload, 1) := by decide +kernel
theorem d_L_law_586 : decode b_L_law 586 = .ok (.invokevirtual 98, 3) := by decide +kernel
theorem d_L_law_589 : decode b_L_law 589 = .ok (.istore 6, 2) := by decide +kernel
theorem d_L_law_591 : decode b_L_law 591 = .ok (.aload_n 2, 1) := by decide +kernel
theorem d_L_law_592 : decode b_L_law 592 = .ok (.invokevirtual 63, 3) := by decide +kernel
theorem d_L_law_595 : decode b_L_law 595 = .ok (.iload 5, 2) := by decide +kernel
theorem d_L_law_597 : decode b_L_law 597 = .ok (.if_icmp .eq 5, 3) := by decide +kernel
theorem d_L_law_600 : decode b_L_law 600 = .ok (.iconst 0, 1) := by decide +kernel
theorem d_L_law_601 : decode b_L_law 601 = .ok (.ireturn, 1) := by decide +kernel
theorem d_L_law_602 : decode b_L_law 602 = .ok (.iload 5, 2) := by decide +kernel
theorem d_L_law_604 : decode b_L_law 604 = .ok (.ifCond .ne 15, 3) := by decide +kernel
theorem d_L_law_607 : decode b_L_law 607 = .ok (.aload_n 3, 1) := by decide +kernel
theorem d_L_law_608 : decode b_L_law 608 = .ok (.iconst 0, 1) := by decide +kernel
theorem d_L_law_609 : decode b_L_law 609 = .ok (.laload, 1) := by decide +kernel
theorem d_L_law_610 : decode b_L_law 610 = .ok (.iload 6, 2) := by decide +kernel
theorem d_L_law_612 : decode b_L_law 612 = .ok (.i2l, 1) := by decide +kernel
theorem d_L_law_613 : decode b_L_law 613 = .ok (.lcmp, 1) := by decide +kernel
theorem d_L_law_614 : decode b_L_law 614 = .ok (.ifCond .eq 5, 3) := by decide +kernel
theorem d_L_law_617 : decode b_L_law 617 = .ok (.iconst 0, 1) := by decide +kernel
theorem d_L_law_618 : decode b_L_law 618 = .ok (.ireturn, 1) := by decide +kernel
theorem d_L_law_619 : decode b_L_law 619 = .ok (.goto 170, 3) := by decide +kernel
theorem d_L_law_622 : decode b_L_law 622 = .ok (.aload_n 1, 1) := by decide +kernel
theorem d_L_law_623 : decode b_L_law 623 = .ok (.aload_n 0, 1) := by decide +kernel
theorem d_L_law_624 : decode b_L_law 624 = .ok (.iload 4, 2) := by decide +kernel
theorem d_L_law_626 : decode b_L_law 626 = .ok (.iconst 1, 1) := by decide +kernel
theorem d_L_law_627 : decode b_L_law 627 = .ok (.iadd, 1) := by decide +kernel
theorem d_L_law_628 : decode b_L_law 628 = .ok (.iaload, 1) := by decide +kernel
theorem d_L_law_629 : decode b_L_law 629 = .ok (.aload_n 3, 1) := by decide +kernel
theorem d_L_law_630 : decode b_L_law 630 = .ok (.invokestatic 99, 3) := by decide +kernel
theorem d_L_law_633 : decode b_L_law 633 = .ok (.istore 5, 2) := by decide +kernel
theorem d_L_law_635 : decode b_L_law 635 = .ok (.aload_n 2, 1) := by decide +kernel
theorem d_L_law_636 : decode b_L_law 636 = .ok (.aload_n 0, 1) := by decide +kernel
theorem d_L_law_637 : decode b_L_law 637 = .ok (.iload 4, 2) := by decide +kernel
theorem d_L_law_639 : decode b_L_law 639 = .ok (.iconst 1, 1) := by decide +kernel
theorem d_L_law_640 : decode b_L_law 640 = .ok (.iadd, 1) := by decide +kernel
theorem d_L_law_641 : decode b_L_law 641 = .ok (.iaload, 1) := by decide +kernel
theorem d_L_law_642 : decode b_L_law 642 = .ok (.invokevirtual 101, 3) := by decide +kernel
theorem d_L_law_645 : decode b_L_law 645 = .ok (.lstore 6, 2) := by decide +kernel
theorem d_L_law_647 : decode b_L_law 647 = .ok (.aload_n 2, 1) := by decide +kernel
theorem d_L_law_648 : decode b_L_law 648 = .ok (.invokevirtual 63, 3) := by decide +kernel
theorem d_L_law_651 : decode b_L_law 651 = .ok (.iload 5, 2) := by decide +kernel
theorem d_L_law_653 : decode b_L_law 653 = .ok (.if_icmp .eq 5, 3) := by decide +kernel
theorem d_L_law_656 : decode b_L_law 656 = .ok (.iconst 0, 1) := by decide +kernel
theorem d_L_law_657 : decode b_L_law 657 = .ok (.ireturn, 1) := by decide +kernel
theorem d_L_law_658 : decode b_L_law 658 = .ok (.iload 5, 2) := by decide +kernel
theorem d_L_law_660 : decode b_L_law 660 = .ok (.ifCond .ne 14, 3) := by decide +kernel
theorem d_L_law_663 : decode b_L_law 663 = .ok (.aload_n 3, 1) := by decide +kernel
theorem d_L_law_664 : decode b_L_law 664 = .ok (.iconst 0, 1) := by decide +kernel
theorem d_L_law_665 : decode b_L_law 665 = .ok (.laload, 1) := by decide +kernel
theorem d_L_law_666 : decode b_L_law 666 = .ok (.lload 6, 2) := by decide +kernel
theorem d_L_law_668 : decode b_L_law 668 = .ok (.lcmp, 1) := by decide +kernel
theorem d_L_law_669 : decode b_L_law 669 = .ok (.ifCond .eq 5, 3) := by decide +kernel
theorem d_L_law_672 : decode b_L_law 672 = .ok (.iconst 0, 1) := by decide +kernel
theorem d_L_law_673 : decode b_L_law 673 = .ok (.ireturn, 1) := by decide +kernel
theorem d_L_law_674 : decode b_L_law 674 = .ok (.goto 115, 3) := by decide +kernel
theorem d_L_law_677 : decode b_L_law 677 = .ok (.aload_n 1, 1) := by decide +kernel
theorem d_L_law_678 : decode b_L_law 678 = .ok (.aload_n 0, 1) := by decide +kernel
theorem d_L_law_679 : decode b_L_law 679 = .ok (.iload 4, 2) := by decide +kernel
theorem d_L_law_681 : decode b_L_law 681 = .ok (.iconst 1, 1) := by decide +kernel
theorem d_L_law_682 : decode b_L_law 682 = .ok (.iadd, 1) := by decide +kernel
theorem d_L_law_683 : decode b_L_law 683 = .ok (.iaload, 1) := by decide +kernel
theorem d_L_law_684 : decode b_L_law 684 = .ok (.aload_n 3, 1) := by decide +kernel
theorem d_L_law_685 : decode b_L_law 685 = .ok (.invokestatic 102, 3) := by decide +kernel
theorem d_L_law_688 : decode b_L_law 688 = .ok (.istore 5, 2) := by decide +kernel
theorem d_L_law_690 : decode b_L_law 690 = .ok (.aload_n 2, 1) := by decide +kernel
theorem d_L_law_691 : decode b_L_law 691 = .ok (.aload_n 0, 1) := by decide +kernel
theorem d_L_law_692 : decode b_L_law 692 = .ok (.iload 4, 2) := by decide +kernel
theorem d_L_law_694 : decode b_L_law 694 = .ok (.iconst 1, 1) := by decide +kernel
theorem d_L_law_695 : decode b_L_law 695 = .ok (.iadd, 1) := by decide +kernel
theorem d_L_law_696 : decode b_L_law 696 = .ok (.iaload, 1) := by decide +kernel
theorem d_L_law_697 : decode b_L_law 697 = .ok (.invokevirtual 104, 3) := by decide +kernel
theorem d_L_law_700 : decode b_L_law 700 = .ok (.istore 6, 2) := by decide +kernel
theorem d_L_law_702 : decode b_L_law 702 = .ok (.aload_n 2, 1) := by decide +kernel
theorem d_L_law_703 : decode b_L_law 703 = .ok (.invokevirtual 63, 3) := by decide +kernel
theorem d_L_law_706 : decode b_L_law 706 = .ok (.iload 5, 2) := by decide +kernel
theorem d_L_law_708 : decode b_L_law 708 = .ok (.if_icmp .eq 5, 3) := by decide +kernel
theorem d_L_law_711 : decode b_L_law 711 = .ok (.iconst 0, 1) := by decide +kernel
theorem d_L_law_712 : decode b_L_law 712 = .ok (.ireturn, 1) := by decide +kernel
theorem d_L_law_713 : decode b_L_law 713 = .ok (.iload 5, 2) := by decide +kernel
theorem d_L_law_715 : decode b_L_law 715 = .ok (.ifCond .ne 15, 3) := by decide +kernel
theorem d_L_law_718 : decode b_L_law 718 = .ok (.aload_n 3, 1) := by decide +kernel
theorem d_L_law_719 : decode b_L_law 719 = .ok (.iconst 0, 1) := by decide +kernel
theorem d_L_law_720 : decode b_L_law 720 = .ok (.laload, 1) := by decide +kernel
theorem d_L_law_721 : decode b_L_law 721 = .ok (.iload 6, 2) := by decide +kernel
theorem d_L_law_723 : decode b_L_law 723 = .ok (.i2l, 1) := by decide +kernel
theorem d_L_law_724 : decode b_L_law 724 = .ok (.lcmp, 1) := by decide +kernel
theorem d_L_law_725 : decode b_L_law 725 = .ok (.ifCond .eq 5, 3) := by decide +kernel
theorem d_L_law_728 : decode b_L_law 728 = .ok (.iconst 0, 1) := by decide +kernel
theorem d_L_law_729 : decode b_L_law 729 = .ok (.ireturn, 1) := by decide +kernel
theorem d_L_law_730 : decode b_L_law 730 = .ok (.goto 59, 3) := by decide +kernel
theorem d_L_law_733 : decode b_L_law 733 = .ok (.aload_n 1, 1) := by decide +kernel
theorem d_L_law_734 : decode b_L_law 734 = .ok (.aload_n 0, 1) := by decide +kernel
theorem d_L_law_735 : decode b_L_law 735 = .ok (.iload 4, 2) := by decide +kernel
theorem d_L_law_737 : decode b_L_law 737 = .ok (.iconst 1, 1) := by decide +kernel
theorem d_L_law_738 : decode b_L_law 738 = .ok (.iadd, 1) := by decide +kernel
theorem d_L_law_739 : decode b_L_law 739 = .ok (.iaload, 1) := by decide +kernel
theorem d_L_law_740 : decode b_L_law 740 = .ok (.aload_n 3, 1) := by decide +kernel
theorem d_L_law_741 : decode b_L_law 741 = .ok (.invokestatic 105, 3) := by decide +kernel
theorem d_L_law_744 : decode b_L_law 744 = .ok (.istore 5, 2) := by decide +kernel
theorem d_L_law_746 : decode b_L_law 746 = .ok (.aload_n 2, 1) := by decide +kernel
theorem d_L_law_747 : decode b_L_law 747 = .ok (.aload_n 0, 1) := by decide +kernel
theorem d_L_law_748 : decode b_L_law 748 = .ok (.iload 4, 2) := by decide +kernel
theorem d_L_law_750 : decode b_L_law 750 = .ok (.iconst 1, 1) := by decide +kernel
theorem d_L_law_751 : decode b_L_law 751 = .ok (.iadd, 1) := by decide +kernel
theorem d_L_law_752 : decode b_L_law 752 = .ok (.iaload, 1) := by decide +kernel
theorem d_L_law_753 : decode b_L_law 753 = .ok (.invokevirtual 107, 3) := by decide +kernel
theorem d_L_law_756 : decode b_L_law 756 = .ok (.istore 6, 2) := by decide +kernel
theorem d_L_law_758 : decode b_L_law 758 = .ok (.aload_n 2, 1) := by decide +kernel
theorem d_L_law_759 : decode b_L_law 759 = .ok (.invokevirtual 63, 3) := by decide +kernel
theorem d_L_law_762 : decode b_L_law 762 = .ok (.iload 5, 2) := by decide +kernel
theorem d_L_law_764 : decode b_L_law 764 = .ok (.if_icmp .eq 5, 3) := by decide +kernel
theorem d_L_law_767 : decode b_L_law 767 = .ok (.iconst 0, 1) := by decide +kernel
theorem d_L_law_768 : decode b_L_law 768 = .ok (.ireturn, 1) := by decide +kernel
theorem d_L_law_769 : decode b_L_law 769 = .ok (.iload 5, 2) := by decide +kernel
theorem d_L_law_771 : decode b_L_law 771 = .ok (.ifCond .ne 15, 3) := by decide +kernel
theorem d_L_law_774 : decode b_L_law 774 = .ok (.aload_n 3, 1) := by decide +kernel
theorem d_L_law_775 : decode b_L_law 775 = .ok (.iconst 0, 1) := by decide +kernel
theorem d_L_law_776 : decode b_L_law 776 = .ok (.laload, 1) := by decide +kernel
theorem d_L_law_777 : decode b_L_law 777 = .ok (.iload 6, 2) := by decide +kernel
theorem d_L_law_779 : decode b_L_law 779 = .ok (.i2l, 1) := by decide +kernel
theorem d_L_law_780 : decode b_L_law 780 = .ok (.lcmp, 1) := by decide +kernel
theorem d_L_law_781 : decode b_L_law 781 = .ok (.ifCond .eq 5, 3) := by decide +kernel
theorem d_L_law_784 : decode b_L_law 784 = .ok (.iconst 0, 1) := by decide +kernel
theorem d_L_law_785 : decode b_L_law 785 = .ok (.ireturn, 1) := by decide +kernel
theorem d_L_law_786 : decode b_L_law 786 = .ok (.goto 3, 3) := by decide +kernel
theorem d_L_law_789 : decode b_L_law 789 = .ok (.iinc 4 6, 3) := by decide +kernel
theorem d_L_law_792 : decode b_L_law 792 = .ok (.goto (-769), 3) := by decide +kernel
theorem d_L_law_795 : decode b_L_law 795 = .ok (.iconst 1, 1) := by decide +kernel
theorem d_L_law_796 : decode b_L_law 796 = .ok (.ireturn, 1) := by decide +kernel
abbrev KL : Type := Nat → Nat → Nat → FN → Int32 → Int32 → Int32 → Int32 → Int32 → Nat → FN → Int32 → Nat → FN → FN → FN → Int32 → Nat → Int32 → FN → FN → FN → FN → FN → RS → Prop
def mcL : Nat := 60000
def msL : Nat := 7000000
theorem hMC : mcL ≤ room_1.cells := Nat.le_of_ble_eq_true rfl
theorem hMS : msL ≤ room_1.slots := Nat.le_of_ble_eq_true rfl
theorem rkL {a c1 s1 L : Nat} (h : a ≤ 2000) (hL : L ≤ 11) : (rmk a c1 s1).frames + 1 ≤ room_1.frames ∧ 8 + (L + 11) + (rmk a c1 s1).locals ≤ room_1.locals := ⟨by show a + 1 ≤ 2048; omega, by show 8 + (L + 11) + 30 * a ≤ 84000; omega⟩
section LC
variable {p : Program} {l : Launch} {e : Env} {R : Room} {s : State} {m : MethodId} {args : Array Value} {below : List Frame} {meth : Method} {c : Code} {H : Heap} {locs : List Loc} {cells slots : Nat} {Q : State → Prop} {pc : Nat} {ls : Array Slot} {rest : List Value} {cc : ByteArray}
theorem lw_lcmp (hexec : p.tables.exec = Jvm.exec) (hb : c.code = cc) {x y : Int64} (hdg : decode cc pc = .ok (.lcmp, 1))
    (k : ∀ v : Int32, (v = 0 ↔ x = y) → W p l e R s m args below meth c H locs cells slots Q (F0 m (pc + 1) ls (.int v :: rest))) : W p l e R s m args below meth c H locs cells slots Q (F0 m pc ls (.long y :: .long x :: rest)) := by
  intro T hT X
  by_cases h1 : x > y
  · obtain ⟨t, a, b⟩ := k 1 ⟨fun h => absurd h (by decide), fun h => by rw [h] at h1; exact absurd h1 (Int64.lt_irrefl)⟩ T hT X
    refine ⟨t, ?_, b⟩
    jvm_step X.here [X.here.top, hexec, hb, hdg, h1]
    exact a
  · by_cases h2 : x = y
    · obtain ⟨t, a, b⟩ := k 0 ⟨fun _ => h2, fun _ => rfl⟩ T hT X
      refine ⟨t, ?_, b⟩
      jvm_step X.here [X.here.top, hexec, hb, hdg, h1, h2]
      exact a
    · obtain ⟨t, a, b⟩ := k (-1) ⟨fun h => absurd h (by decide), fun h => absurd h h2⟩ T hT X
      refine ⟨t, ?_, b⟩
      jvm_step X.here [X.here.top, hexec, hb, hdg, h1, h2]
      exact a
end LC
def LX (p : Program) (s : State) (m : MethodId) (c : Code) (b L : Nat) (xs : Nat → Int32) (dd : va_G) (cB cI cL cS : ClassId) (adK adV : Nat → Nat) (A : Nat → Prop) : Prop := ∃ wx : Cond, p.tables.exec = Jvm.exec ∧ c.code = b_L_law ∧ c.maxLocals = 8 ∧ s.vm.findClass "NetTextLaw" = some m.cls ∧ (∀ w ∈ wx :: lw_gt, w.before #[Value.ref b] s = true) ∧ va_X b L xs s s.heap ∧ b < s.heap.size ∧ ¬ A b ∧ (∀ q : Nat, s.heap.size ≤ q → A q) ∧ va_K dd cls5 [(cB, .byte), (cI, .int), (cL, .long), (cS, .object "java/lang/String")] s ∧ XF adK adV A s
def LK (p : Program) (l : Launch) (e : Env) (s : State) (m : MethodId) (below : List Frame) (meth : Method) (c : Code) (b : Nat) (dd : va_G) (cB cI cL cS : ClassId) (adK : Nat → Nat) (A : Nat → Prop) (oN oM aU aKy oW oT oP : Nat) (iv : Int32) (K_ : KL) : Prop := ∀ (cu su : Nat) (aT aX aO aB aE aK aF aP aS aD : Nat) (nA : Nat) (tp : FN) (tl : Int32) (pl : Int32) (at_ : Int32) (sr : Int32) (dp : Int32) (nX : Nat) (tx : FN) (ln : Int32) (nO : Nat) (so : FN) (sb : FN) (se : FN) (wc : Int32) (nT : Nat) (cn : Int32) (K : FN) (F : FN) (Pa : FN) (Sg : FN) (Dp : FN) (zs : RS) (ou : FL) (H : Heap) (locs : List Loc) (ls : Array Slot), K_ cu su nA tp tl pl at_ sr dp nX tx ln nO so sb se wc nT cn K F Pa Sg Dp zs → cu ≤ mcL → su ≤ msL → va_P dd cls5 [(oN, .inr (0, [.ref aT, .int tl, .int pl, .ref oW, .ref oT, .ref oP])), (aT, .inl (cB, nA, .inl tp)), (oP, .inr (3, [.ref oW, .ref oT, .int at_, .int sr, .int dp])), (oW, .inr (1, [.ref aX, .int ln, .ref aO, .ref aB, .ref aE, .int wc])), (aX, .inl (cB, nX, .inl tx)), (aO, .inl (cI, nO, .inl so)), (aB, .inl (cI, nO, .inl sb)), (aE, .inl (cI, nO, .inl se)), (oT, .inr (2, [.ref aK, .ref aF, .ref aP, .ref aS, .ref aD, .int cn])), (aK, .inl (cI, nT, .inl K)), (aF, .inl (cI, nT, .inl F)), (aP, .inl (cI, nT, .inl Pa)), (aS, .inl (cI, nT, .inl Sg)), (aD, .inl (cI, nT, .inl Dp)), (aU, .inl (cL, ((1 : Int32).toNatClampNeg), .inr (.inl ou))), (oM, .inr (4, [.ref aKy, .int zs.th, .ref zs.aT, .int zs.fd, .int zs.fa, .int zs.pl, .int zs.at_, .int zs.kd, .int zs.fr, .int zs.ky, .int zs.op, .int zs.ct, .ref zs.aKd, .ref zs.aBg, .ref zs.aPr, .ref zs.aSg, .ref zs.aNf, .ref zs.aNl, .ref zs.aDg, .ref zs.aBh, .ref zs.aDe, .ref zs.aPc, .ref zs.aFi, .ref zs.aNu, .ref zs.aN, .int zs.nd])), (aKy, .inl (cS, 17, .inr (.inr (.inr (.inr (kyF adK)))))), (zs.aT, .inl (cB, zs.nT, .inl zs.tp)), (zs.aKd, .inl (cI, zs.nR, .inl zs.Kd)), (zs.aBg, .inl (cI, zs.nR, .inl zs.Bg)), (zs.aPr, .inl (cI, zs.nR, .inl zs.Pr)), (zs.aSg, .inl (cI, zs.nR, .inl zs.Sg)), (zs.aNf, .inl (cI, zs.nR, .inl zs.Nf)), (zs.aNl, .inl (cI, zs.nR, .inl zs.Nl)), (zs.aDg, .inl (cL, zs.nR, .inr (.inl zs.Dg))), (zs.aBh, .inl (cI, zs.nR, .inl zs.Bh)), (zs.aDe, .inl (cI, zs.nR, .inl zs.De)), (zs.aPc, .inl (cI, zs.nR, .inl zs.Pc)), (zs.aFi, .inl (cI, zs.nR, .inl zs.Fi)), (zs.aNu, .inl (cI, zs.nR, .inl zs.Nu)), (zs.aN, .inl (cB, zs.nN, .inl zs.nm))] H → va_D A [(oN, .inr (0, [.ref aT, .int tl, .int pl, .ref oW, .ref oT, .ref oP])), (aT, .inl (cB, nA, .inl tp)), (oP, .inr (3, [.ref oW, .ref oT, .int at_, .int sr, .int dp])), (oW, .inr (1, [.ref aX, .int ln, .ref aO, .ref aB, .ref aE, .int wc])), (aX, .inl (cB, nX, .inl tx)), (aO, .inl (cI, nO, .inl so)), (aB, .inl (cI, nO, .inl sb)), (aE, .inl (cI, nO, .inl se)), (oT, .inr (2, [.ref aK, .ref aF, .ref aP, .ref aS, .ref aD, .int cn])), (aK, .inl (cI, nT, .inl K)), (aF, .inl (cI, nT, .inl F)), (aP, .inl (cI, nT, .inl Pa)), (aS, .inl (cI, nT, .inl Sg)), (aD, .inl (cI, nT, .inl Dp)), (aU, .inl (cL, ((1 : Int32).toNatClampNeg), .inr (.inl ou))), (oM, .inr (4, [.ref aKy, .int zs.th, .ref zs.aT, .int zs.fd, .int zs.fa, .int zs.pl, .int zs.at_, .int zs.kd, .int zs.fr, .int zs.ky, .int zs.op, .int zs.ct, .ref zs.aKd, .ref zs.aBg, .ref zs.aPr, .ref zs.aSg, .ref zs.aNf, .ref zs.aNl, .ref zs.aDg, .ref zs.aBh, .ref zs.aDe, .ref zs.aPc, .ref zs.aFi, .ref zs.aNu, .ref zs.aN, .int zs.nd])), (aKy, .inl (cS, 17, .inr (.inr (.inr (.inr (kyF adK)))))), (zs.aT, .inl (cB, zs.nT, .inl zs.tp)), (zs.aKd, .inl (cI, zs.nR, .inl zs.Kd)), (zs.aBg, .inl (cI, zs.nR, .inl zs.Bg)), (zs.aPr, .inl (cI, zs.nR, .inl zs.Pr)), (zs.aSg, .inl (cI, zs.nR, .inl zs.Sg)), (zs.aNf, .inl (cI, zs.nR, .inl zs.Nf)), (zs.aNl, .inl (cI, zs.nR, .inl zs.Nl)), (zs.aDg, .inl (cL, zs.nR, .inr (.inl zs.Dg))), (zs.aBh, .inl (cI, zs.nR, .inl zs.Bh)), (zs.aDe, .inl (cI, zs.nR, .inl zs.De)), (zs.aPc, .inl (cI, zs.nR, .inl zs.Pc)), (zs.aFi, .inl (cI, zs.nR, .inl zs.Fi)), (zs.aNu, .inl (cI, zs.nR, .inl zs.Nu)), (zs.aN, .inl (cB, zs.nN, .inl zs.nm))] → va_S A s.heap H locs → lv_has ls 8 [(0, .ref b), (1, .ref oN), (2, .ref oM), (3, .ref aU), (4, .int iv)] → W p l e room_1 s m #[Value.ref b] below meth c H locs cu su (lw_Z below #[Value.ref b] s) (F0 m 789 ls [])
def LK0 (p : Program) (l : Launch) (e : Env) (s : State) (m : MethodId) (below : List Frame) (meth : Method) (c : Code) (b : Nat) (dd : va_G) (cB cI cL cS : ClassId) (adK : Nat → Nat) (A : Nat → Prop) (K_ : KL) : Prop := ∀ (oN oM aU aKy oW oT oP : Nat), ∀ (cu su : Nat) (aT aX aO aB aE aK aF aP aS aD : Nat) (nA : Nat) (tp : FN) (tl : Int32) (pl : Int32) (at_ : Int32) (sr : Int32) (dp : Int32) (nX : Nat) (tx : FN) (ln : Int32) (nO : Nat) (so : FN) (sb : FN) (se : FN) (wc : Int32) (nT : Nat) (cn : Int32) (K : FN) (F : FN) (Pa : FN) (Sg : FN) (Dp : FN) (zs : RS) (ou : FL) (H : Heap) (locs : List Loc) (ls : Array Slot), K_ cu su nA tp tl pl at_ sr dp nX tx ln nO so sb se wc nT cn K F Pa Sg Dp zs → cu ≤ mcL → su ≤ msL → va_P dd cls5 [(oN, .inr (0, [.ref aT, .int tl, .int pl, .ref oW, .ref oT, .ref oP])), (aT, .inl (cB, nA, .inl tp)), (oP, .inr (3, [.ref oW, .ref oT, .int at_, .int sr, .int dp])), (oW, .inr (1, [.ref aX, .int ln, .ref aO, .ref aB, .ref aE, .int wc])), (aX, .inl (cB, nX, .inl tx)), (aO, .inl (cI, nO, .inl so)), (aB, .inl (cI, nO, .inl sb)), (aE, .inl (cI, nO, .inl se)), (oT, .inr (2, [.ref aK, .ref aF, .ref aP, .ref aS, .ref aD, .int cn])), (aK, .inl (cI, nT, .inl K)), (aF, .inl (cI, nT, .inl F)), (aP, .inl (cI, nT, .inl Pa)), (aS, .inl (cI, nT, .inl Sg)), (aD, .inl (cI, nT, .inl Dp)), (aU, .inl (cL, ((1 : Int32).toNatClampNeg), .inr (.inl ou))), (oM, .inr (4, [.ref aKy, .int zs.th, .ref zs.aT, .int zs.fd, .int zs.fa, .int zs.pl, .int zs.at_, .int zs.kd, .int zs.fr, .int zs.ky, .int zs.op, .int zs.ct, .ref zs.aKd, .ref zs.aBg, .ref zs.aPr, .ref zs.aSg, .ref zs.aNf, .ref zs.aNl, .ref zs.aDg, .ref zs.aBh, .ref zs.aDe, .ref zs.aPc, .ref zs.aFi, .ref zs.aNu, .ref zs.aN, .int zs.nd])), (aKy, .inl (cS, 17, .inr (.inr (.inr (.inr (kyF adK)))))), (zs.aT, .inl (cB, zs.nT, .inl zs.tp)), (zs.aKd, .inl (cI, zs.nR, .inl zs.Kd)), (zs.aBg, .inl (cI, zs.nR, .inl zs.Bg)), (zs.aPr, .inl (cI, zs.nR, .inl zs.Pr)), (zs.aSg, .inl (cI, zs.nR, .inl zs.Sg)), (zs.aNf, .inl (cI, zs.nR, .inl zs.Nf)), (zs.aNl, .inl (cI, zs.nR, .inl zs.Nl)), (zs.aDg, .inl (cL, zs.nR, .inr (.inl zs.Dg))), (zs.aBh, .inl (cI, zs.nR, .inl zs.Bh)), (zs.aDe, .inl (cI, zs.nR, .inl zs.De)), (zs.aPc, .inl (cI, zs.nR, .inl zs.Pc)), (zs.aFi, .inl (cI, zs.nR, .inl zs.Fi)), (zs.aNu, .inl (cI, zs.nR, .inl zs.Nu)), (zs.aN, .inl (cB, zs.nN, .inl zs.nm))] H → va_D A [(oN, .inr (0, [.ref aT, .int tl, .int pl, .ref oW, .ref oT, .ref oP])), (aT, .inl (cB, nA, .inl tp)), (oP, .inr (3, [.ref oW, .ref oT, .int at_, .int sr, .int dp])), (oW, .inr (1, [.ref aX, .int ln, .ref aO, .ref aB, .ref aE, .int wc])), (aX, .inl (cB, nX, .inl tx)), (aO, .inl (cI, nO, .inl so)), (aB, .inl (cI, nO, .inl sb)), (aE, .inl (cI, nO, .inl se)), (oT, .inr (2, [.ref aK, .ref aF, .ref aP, .ref aS, .ref aD, .int cn])), (aK, .inl (cI, nT, .inl K)), (aF, .inl (cI, nT, .inl F)), (aP, .inl (cI, nT, .inl Pa)), (aS, .inl (cI, nT, .inl Sg)), (aD, .inl (cI, nT, .inl Dp)), (aU, .inl (cL, ((1 : Int32).toNatClampNeg), .inr (.inl ou))), (oM, .inr (4, [.ref aKy, .int zs.th, .ref zs.aT, .int zs.fd, .int zs.fa, .int zs.pl, .int zs.at_, .int zs.kd, .int zs.fr, .int zs.ky, .int zs.op, .int zs.ct, .ref zs.aKd, .ref zs.aBg, .ref zs.aPr, .ref zs.aSg, .ref zs.aNf, .ref zs.aNl, .ref zs.aDg, .ref zs.aBh, .ref zs.aDe, .ref zs.aPc, .ref zs.aFi, .ref zs.aNu, .ref zs.aN, .int zs.nd])), (aKy, .inl (cS, 17, .inr (.inr (.inr (.inr (kyF adK)))))), (zs.aT, .inl (cB, zs.nT, .inl zs.tp)), (zs.aKd, .inl (cI, zs.nR, .inl zs.Kd)), (zs.aBg, .inl (cI, zs.nR, .inl zs.Bg)), (zs.aPr, .inl (cI, zs.nR, .inl zs.Pr)), (zs.aSg, .inl (cI, zs.nR, .inl zs.Sg)), (zs.aNf, .inl (cI, zs.nR, .inl zs.Nf)), (zs.aNl, .inl (cI, zs.nR, .inl zs.Nl)), (zs.aDg, .inl (cL, zs.nR, .inr (.inl zs.Dg))), (zs.aBh, .inl (cI, zs.nR, .inl zs.Bh)), (zs.aDe, .inl (cI, zs.nR, .inl zs.De)), (zs.aPc, .inl (cI, zs.nR, .inl zs.Pc)), (zs.aFi, .inl (cI, zs.nR, .inl zs.Fi)), (zs.aNu, .inl (cI, zs.nR, .inl zs.Nu)), (zs.aN, .inl (cB, zs.nN, .inl zs.nm))] → va_S A s.heap H locs → lv_has ls 8 [(0, .ref b), (1, .ref oN), (2, .ref oM), (3, .ref aU), (4, .int 0)] → W p l e room_1 s m #[Value.ref b] below meth c H locs cu su (lw_Z below #[Value.ref b] s) (F0 m 23 ls [])
