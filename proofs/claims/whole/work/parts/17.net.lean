theorem ap_49 : lw_tbl[49]? = some (.selects "NetText" ⟨"NetText", "demandNode", "(I)V"⟩ ⟨"NetText", "demandNode", "(I)V"⟩) := by decide +kernel
theorem at_1 : lw_tbl[85]? = some (.initialized "NetText") := by decide +kernel
theorem at_13 : lw_tbl[97]? = some (.initialized "java/lang/IllegalArgumentException") := by decide +kernel
theorem at_19 : lw_tbl[103]? = some (.initialized "java/lang/IndexOutOfBoundsException") := by decide +kernel
theorem at_111 : lw_tbl[195]? = some (.fieldLink "NetText" 9 "NetText" "tape" "[B") := by decide +kernel
theorem at_112 : lw_tbl[196]? = some (.fieldLink "NetText" 13 "NetText" "length" "I") := by decide +kernel
theorem at_113 : lw_tbl[197]? = some (.fieldLink "NetText" 17 "NetText" "place" "I") := by decide +kernel
theorem at_114 : lw_tbl[198]? = some (.fieldLink "NetText" 25 "NetText" "words" "LNetText$Words;") := by decide +kernel
theorem at_115 : lw_tbl[199]? = some (.fieldLink "NetText" 32 "NetText" "tree" "LNetText$Tree;") := by decide +kernel
theorem at_346 : lw_tbl[430]? = some (.instanceMethod ⟨"NetText$Words", "sortOf", "(I)I"⟩) := by decide +kernel
theorem at_347 : lw_tbl[431]? = some (.selects "NetText$Words" ⟨"NetText$Words", "sortOf", "(I)I"⟩ ⟨"NetText$Words", "sortOf", "(I)I"⟩) := by decide +kernel
theorem at_348 : lw_tbl[432]? = some (.code ⟨"NetText$Words", "sortOf", "(I)I"⟩ prog_6_method_22_code 2 (some .int)) := by decide +kernel
theorem at_506 : lw_tbl[590]? = some (.instanceMethod ⟨"NetText$Words", "startOf", "(I)I"⟩) := by decide +kernel
theorem at_507 : lw_tbl[591]? = some (.selects "NetText$Words" ⟨"NetText$Words", "startOf", "(I)I"⟩ ⟨"NetText$Words", "startOf", "(I)I"⟩) := by decide +kernel
theorem at_508 : lw_tbl[592]? = some (.code ⟨"NetText$Words", "startOf", "(I)I"⟩ prog_6_method_23_code 2 (some .int)) := by decide +kernel
theorem at_613 : lw_tbl[697]? = some (.classLink "NetText" 62 "java/lang/IllegalArgumentException") := by decide +kernel
theorem at_637 : lw_tbl[721]? = some (.methodLink "NetText" 81 ⟨"NetText", "demandNode", "(I)V"⟩) := by decide +kernel
theorem at_639 : lw_tbl[723]? = some (.instanceMethod ⟨"NetText", "demandNode", "(I)V"⟩) := by decide +kernel
theorem at_640 : lw_tbl[724]? = some (.code ⟨"NetText", "demandNode", "(I)V"⟩ prog_1_method_16_code 2 none) := by decide +kernel
theorem at_641 : lw_tbl[725]? = some (.methodLink "NetText" 133 ⟨"NetText$Tree", "holds", "(I)Z"⟩) := by decide +kernel
theorem at_642 : lw_tbl[726]? = some (.classLink "NetText" 107 "java/lang/IndexOutOfBoundsException") := by decide +kernel
theorem at_665 : lw_tbl[749]? = some (.methodLink "NetText" 91 ⟨"NetText$Words", "startOf", "(I)I"⟩) := by decide +kernel
theorem at_687 : lw_tbl[771]? = some (.methodLink "NetText" 101 ⟨"NetText$Tree", "nameWord", "(I)I"⟩) := by decide +kernel
theorem at_688 : lw_tbl[772]? = some (.instanceMethod ⟨"NetText$Tree", "nameWord", "(I)I"⟩) := by decide +kernel
theorem at_689 : lw_tbl[773]? = some (.selects "NetText$Tree" ⟨"NetText$Tree", "nameWord", "(I)I"⟩ ⟨"NetText$Tree", "nameWord", "(I)I"⟩) := by decide +kernel
theorem at_690 : lw_tbl[774]? = some (.code ⟨"NetText$Tree", "nameWord", "(I)I"⟩ prog_5_method_8_code 2 (some .int)) := by decide +kernel
theorem at_691 : lw_tbl[775]? = some (.methodLink "NetText" 104 ⟨"NetText$Words", "lengthOf", "(I)I"⟩) := by decide +kernel
theorem at_692 : lw_tbl[776]? = some (.instanceMethod ⟨"NetText$Words", "lengthOf", "(I)I"⟩) := by decide +kernel
theorem at_693 : lw_tbl[777]? = some (.selects "NetText$Words" ⟨"NetText$Words", "lengthOf", "(I)I"⟩ ⟨"NetText$Words", "lengthOf", "(I)I"⟩) := by decide +kernel
theorem at_694 : lw_tbl[778]? = some (.code ⟨"NetText$Words", "lengthOf", "(I)I"⟩ prog_6_method_24_code 2 (some .int)) := by decide +kernel
theorem at_703 : lw_tbl[787]? = some (.methodLink "NetText" 112 ⟨"NetText$Words", "byteAt", "(I)I"⟩) := by decide +kernel
theorem at_711 : lw_tbl[795]? = some (.methodLink "NetText" 115 ⟨"NetText$Tree", "numberWord", "(I)I"⟩) := by decide +kernel
theorem at_712 : lw_tbl[796]? = some (.instanceMethod ⟨"NetText$Tree", "numberWord", "(I)I"⟩) := by decide +kernel
theorem at_713 : lw_tbl[797]? = some (.selects "NetText$Tree" ⟨"NetText$Tree", "numberWord", "(I)I"⟩ ⟨"NetText$Tree", "numberWord", "(I)I"⟩) := by decide +kernel
theorem at_714 : lw_tbl[798]? = some (.code ⟨"NetText$Tree", "numberWord", "(I)I"⟩ prog_5_method_9_code 2 (some .int)) := by decide +kernel
theorem at_715 : lw_tbl[799]? = some (.methodLink "NetText" 118 ⟨"NetText$Words", "valueOf", "(I)J"⟩) := by decide +kernel
theorem at_716 : lw_tbl[800]? = some (.instanceMethod ⟨"NetText$Words", "valueOf", "(I)J"⟩) := by decide +kernel
theorem at_717 : lw_tbl[801]? = some (.selects "NetText$Words" ⟨"NetText$Words", "valueOf", "(I)J"⟩ ⟨"NetText$Words", "valueOf", "(I)J"⟩) := by decide +kernel
theorem at_718 : lw_tbl[802]? = some (.code ⟨"NetText$Words", "valueOf", "(I)J"⟩ prog_6_method_25_code 5 (some .long)) := by decide +kernel
theorem at_728 : lw_tbl[812]? = some (.methodLink "NetText" 124 ⟨"NetText$Words", "sortOf", "(I)I"⟩) := by decide +kernel
theorem at_729 : lw_tbl[813]? = some (.methodLink "NetText" 127 ⟨"NetText$Words", "digitsBehindPoint", "(I)I"⟩) := by decide +kernel
theorem at_730 : lw_tbl[814]? = some (.instanceMethod ⟨"NetText$Words", "digitsBehindPoint", "(I)I"⟩) := by decide +kernel
theorem at_731 : lw_tbl[815]? = some (.selects "NetText$Words" ⟨"NetText$Words", "digitsBehindPoint", "(I)I"⟩ ⟨"NetText$Words", "digitsBehindPoint", "(I)I"⟩) := by decide +kernel
theorem at_732 : lw_tbl[816]? = some (.code ⟨"NetText$Words", "digitsBehindPoint", "(I)I"⟩ prog_6_method_26_code 2 (some .int)) := by decide +kernel
abbrev b_N_place : ByteArray := prog_1_method_6_code
def y_N_place : MethodName := ⟨"NetText", "place", "()I"⟩
abbrev w_N_place : List Cond := .code y_N_place b_N_place 1 (some .int) :: lw_gt
theorem d_N_place_0 : decode b_N_place 0 = .ok (.aload_n 0, 1) := by decide +kernel
theorem d_N_place_1 : decode b_N_place 1 = .ok (.getfield 17, 3) := by decide +kernel
theorem d_N_place_4 : decode b_N_place 4 = .ok (.ireturn, 1) := by decide +kernel
abbrev b_N_demandNode : ByteArray := prog_1_method_16_code
def y_N_demandNode : MethodName := ⟨"NetText", "demandNode", "(I)V"⟩
abbrev w_N_demandNode : List Cond := .code y_N_demandNode b_N_demandNode 2 none :: lw_gt
theorem d_N_demandNode_0 : decode b_N_demandNode 0 = .ok (.aload_n 0, 1) := by decide +kernel
theorem d_N_demandNode_1 : decode b_N_demandNode 1 = .ok (.getfield 32, 3) := by decide +kernel
theorem d_N_demandNode_4 : decode b_N_demandNode 4 = .ok (.iload_n 1, 1) := by decide +kernel
theorem d_N_demandNode_5 : decode b_N_demandNode 5 = .ok (.invokevirtual 133, 3) := by decide +kernel
theorem d_N_demandNode_8 : decode b_N_demandNode 8 = .ok (.ifCond .ne 13, 3) := by decide +kernel
theorem d_N_demandNode_11 : decode b_N_demandNode 11 = .ok (.new 107, 3) := by decide +kernel
theorem d_N_demandNode_14 : decode b_N_demandNode 14 = .ok (.dup, 1) := by decide +kernel
theorem d_N_demandNode_15 : decode b_N_demandNode 15 = .ok (.ldc 137, 2) := by decide +kernel
theorem d_N_demandNode_17 : decode b_N_demandNode 17 = .ok (.invokespecial 111, 3) := by decide +kernel
theorem d_N_demandNode_20 : decode b_N_demandNode 20 = .ok (.athrow, 1) := by decide +kernel
theorem d_N_demandNode_21 : decode b_N_demandNode 21 = .ok (.return_, 1) := by decide +kernel
abbrev b_N_kind : ByteArray := prog_1_method_7_code
def y_N_kind : MethodName := ⟨"NetText", "kind", "(I)I"⟩
abbrev w_N_kind : List Cond := .code y_N_kind b_N_kind 2 (some .int) :: lw_gt
theorem d_N_kind_0 : decode b_N_kind 0 = .ok (.aload_n 0, 1) := by decide +kernel
theorem d_N_kind_1 : decode b_N_kind 1 = .ok (.iload_n 1, 1) := by decide +kernel
theorem d_N_kind_2 : decode b_N_kind 2 = .ok (.invokevirtual 81, 3) := by decide +kernel
theorem d_N_kind_5 : decode b_N_kind 5 = .ok (.aload_n 0, 1) := by decide +kernel
theorem d_N_kind_6 : decode b_N_kind 6 = .ok (.getfield 32, 3) := by decide +kernel
theorem d_N_kind_9 : decode b_N_kind 9 = .ok (.getfield 84, 3) := by decide +kernel
theorem d_N_kind_12 : decode b_N_kind 12 = .ok (.iload_n 1, 1) := by decide +kernel
theorem d_N_kind_13 : decode b_N_kind 13 = .ok (.iaload, 1) := by decide +kernel
theorem d_N_kind_14 : decode b_N_kind 14 = .ok (.ireturn, 1) := by decide +kernel
abbrev b_N_begin : ByteArray := prog_1_method_8_code
def y_N_begin : MethodName := ⟨"NetText", "begin", "(I)I"⟩
abbrev w_N_begin : List Cond := .code y_N_begin b_N_begin 2 (some .int) :: lw_gt
theorem d_N_begin_0 : decode b_N_begin 0 = .ok (.aload_n 0, 1) := by decide +kernel
theorem d_N_begin_1 : decode b_N_begin 1 = .ok (.iload_n 1, 1) := by decide +kernel
theorem d_N_begin_2 : decode b_N_begin 2 = .ok (.invokevirtual 81, 3) := by decide +kernel
theorem d_N_begin_5 : decode b_N_begin 5 = .ok (.aload_n 0, 1) := by decide +kernel
theorem d_N_begin_6 : decode b_N_begin 6 = .ok (.getfield 25, 3) := by decide +kernel
theorem d_N_begin_9 : decode b_N_begin 9 = .ok (.aload_n 0, 1) := by decide +kernel
theorem d_N_begin_10 : decode b_N_begin 10 = .ok (.getfield 32, 3) := by decide +kernel
theorem d_N_begin_13 : decode b_N_begin 13 = .ok (.getfield 88, 3) := by decide +kernel
theorem d_N_begin_16 : decode b_N_begin 16 = .ok (.iload_n 1, 1) := by decide +kernel
theorem d_N_begin_17 : decode b_N_begin 17 = .ok (.iaload, 1) := by decide +kernel
theorem d_N_begin_18 : decode b_N_begin 18 = .ok (.invokevirtual 91, 3) := by decide +kernel
theorem d_N_begin_21 : decode b_N_begin 21 = .ok (.ireturn, 1) := by decide +kernel
abbrev b_N_parent : ByteArray := prog_1_method_9_code
def y_N_parent : MethodName := ⟨"NetText", "parent", "(I)I"⟩
abbrev w_N_parent : List Cond := .code y_N_parent b_N_parent 2 (some .int) :: lw_gt
theorem d_N_parent_0 : decode b_N_parent 0 = .ok (.aload_n 0, 1) := by decide +kernel
theorem d_N_parent_1 : decode b_N_parent 1 = .ok (.iload_n 1, 1) := by decide +kernel
theorem d_N_parent_2 : decode b_N_parent 2 = .ok (.invokevirtual 81, 3) := by decide +kernel
theorem d_N_parent_5 : decode b_N_parent 5 = .ok (.aload_n 0, 1) := by decide +kernel
theorem d_N_parent_6 : decode b_N_parent 6 = .ok (.getfield 32, 3) := by decide +kernel
theorem d_N_parent_9 : decode b_N_parent 9 = .ok (.getfield 95, 3) := by decide +kernel
theorem d_N_parent_12 : decode b_N_parent 12 = .ok (.iload_n 1, 1) := by decide +kernel
theorem d_N_parent_13 : decode b_N_parent 13 = .ok (.iaload, 1) := by decide +kernel
theorem d_N_parent_14 : decode b_N_parent 14 = .ok (.ireturn, 1) := by decide +kernel
abbrev b_N_sign : ByteArray := prog_1_method_10_code
def y_N_sign : MethodName := ⟨"NetText", "sign", "(I)I"⟩
abbrev w_N_sign : List Cond := .code y_N_sign b_N_sign 2 (some .int) :: lw_gt
theorem d_N_sign_0 : decode b_N_sign 0 = .ok (.aload_n 0, 1) := by decide +kernel
theorem d_N_sign_1 : decode b_N_sign 1 = .ok (.iload_n 1, 1) := by decide +kernel
theorem d_N_sign_2 : decode b_N_sign 2 = .ok (.invokevirtual 81, 3) := by decide +kernel
theorem d_N_sign_5 : decode b_N_sign 5 = .ok (.aload_n 0, 1) := by decide +kernel
theorem d_N_sign_6 : decode b_N_sign 6 = .ok (.getfield 32, 3) := by decide +kernel
theorem d_N_sign_9 : decode b_N_sign 9 = .ok (.getfield 98, 3) := by decide +kernel
theorem d_N_sign_12 : decode b_N_sign 12 = .ok (.iload_n 1, 1) := by decide +kernel
theorem d_N_sign_13 : decode b_N_sign 13 = .ok (.iaload, 1) := by decide +kernel
theorem d_N_sign_14 : decode b_N_sign 14 = .ok (.ireturn, 1) := by decide +kernel
abbrev b_N_nameLength : ByteArray := prog_1_method_11_code
def y_N_nameLength : MethodName := ⟨"NetText", "nameLength", "(I)I"⟩
abbrev w_N_nameLength : List Cond := .code y_N_nameLength b_N_nameLength 2 (some .int) :: lw_gt
theorem d_N_nameLength_0 : decode b_N_nameLength 0 = .ok (.aload_n 0, 1) := by decide +kernel
theorem d_N_nameLength_1 : decode b_N_nameLength 1 = .ok (.iload_n 1, 1) := by decide +kernel
theorem d_N_nameLength_2 : decode b_N_nameLength 2 = .ok (.invokevirtual 81, 3) := by decide +kernel
theorem d_N_nameLength_5 : decode b_N_nameLength 5 = .ok (.aload_n 0, 1) := by decide +kernel
theorem d_N_nameLength_6 : decode b_N_nameLength 6 = .ok (.getfield 25, 3) := by decide +kernel
theorem d_N_nameLength_9 : decode b_N_nameLength 9 = .ok (.aload_n 0, 1) := by decide +kernel
theorem d_N_nameLength_10 : decode b_N_nameLength 10 = .ok (.getfield 32, 3) := by decide +kernel
theorem d_N_nameLength_13 : decode b_N_nameLength 13 = .ok (.iload_n 1, 1) := by decide +kernel
theorem d_N_nameLength_14 : decode b_N_nameLength 14 = .ok (.invokevirtual 101, 3) := by decide +kernel
theorem d_N_nameLength_17 : decode b_N_nameLength 17 = .ok (.invokevirtual 104, 3) := by decide +kernel
theorem d_N_nameLength_20 : decode b_N_nameLength 20 = .ok (.ireturn, 1) := by decide +kernel
abbrev b_N_nameAt : ByteArray := prog_1_method_12_code
def y_N_nameAt : MethodName := ⟨"NetText", "nameAt", "(II)I"⟩
abbrev w_N_nameAt : List Cond := .code y_N_nameAt b_N_nameAt 4 (some .int) :: lw_gt
theorem d_N_nameAt_0 : decode b_N_nameAt 0 = .ok (.aload_n 0, 1) := by decide +kernel
theorem d_N_nameAt_1 : decode b_N_nameAt 1 = .ok (.iload_n 1, 1) := by decide +kernel
theorem d_N_nameAt_2 : decode b_N_nameAt 2 = .ok (.invokevirtual 81, 3) := by decide +kernel
theorem d_N_nameAt_5 : decode b_N_nameAt 5 = .ok (.aload_n 0, 1) := by decide +kernel
theorem d_N_nameAt_6 : decode b_N_nameAt 6 = .ok (.getfield 32, 3) := by decide +kernel
theorem d_N_nameAt_9 : decode b_N_nameAt 9 = .ok (.iload_n 1, 1) := by decide +kernel
theorem d_N_nameAt_10 : decode b_N_nameAt 10 = .ok (.invokevirtual 101, 3) := by decide +kernel
theorem d_N_nameAt_13 : decode b_N_nameAt 13 = .ok (.istore_n 3, 1) := by decide +kernel
theorem d_N_nameAt_14 : decode b_N_nameAt 14 = .ok (.iload_n 2, 1) := by decide +kernel
theorem d_N_nameAt_15 : decode b_N_nameAt 15 = .ok (.ifCond .lt 15, 3) := by decide +kernel
theorem d_N_nameAt_18 : decode b_N_nameAt 18 = .ok (.iload_n 2, 1) := by decide +kernel
theorem d_N_nameAt_19 : decode b_N_nameAt 19 = .ok (.aload_n 0, 1) := by decide +kernel
theorem d_N_nameAt_20 : decode b_N_nameAt 20 = .ok (.getfield 25, 3) := by decide +kernel
theorem d_N_nameAt_23 : decode b_N_nameAt 23 = .ok (.iload_n 3, 1) := by decide +kernel
theorem d_N_nameAt_24 : decode b_N_nameAt 24 = .ok (.invokevirtual 104, 3) := by decide +kernel
theorem d_N_nameAt_27 : decode b_N_nameAt 27 = .ok (.if_icmp .lt 13, 3) := by decide +kernel
theorem d_N_nameAt_30 : decode b_N_nameAt 30 = .ok (.new 107, 3) := by decide +kernel
theorem d_N_nameAt_33 : decode b_N_nameAt 33 = .ok (.dup, 1) := by decide +kernel
theorem d_N_nameAt_34 : decode b_N_nameAt 34 = .ok (.ldc 109, 2) := by decide +kernel
theorem d_N_nameAt_36 : decode b_N_nameAt 36 = .ok (.invokespecial 111, 3) := by decide +kernel
theorem d_N_nameAt_39 : decode b_N_nameAt 39 = .ok (.athrow, 1) := by decide +kernel
theorem d_N_nameAt_40 : decode b_N_nameAt 40 = .ok (.aload_n 0, 1) := by decide +kernel
theorem d_N_nameAt_41 : decode b_N_nameAt 41 = .ok (.getfield 25, 3) := by decide +kernel
theorem d_N_nameAt_44 : decode b_N_nameAt 44 = .ok (.aload_n 0, 1) := by decide +kernel
theorem d_N_nameAt_45 : decode b_N_nameAt 45 = .ok (.getfield 25, 3) := by decide +kernel
theorem d_N_nameAt_48 : decode b_N_nameAt 48 = .ok (.iload_n 3, 1) := by decide +kernel
theorem d_N_nameAt_49 : decode b_N_nameAt 49 = .ok (.invokevirtual 91, 3) := by decide +kernel
theorem d_N_nameAt_52 : decode b_N_nameAt 52 = .ok (.iload_n 2, 1) := by decide +kernel
theorem d_N_nameAt_53 : decode b_N_nameAt 53 = .ok (.iadd, 1) := by decide +kernel
theorem d_N_nameAt_54 : decode b_N_nameAt 54 = .ok (.invokevirtual 112, 3) := by decide +kernel
theorem d_N_nameAt_57 : decode b_N_nameAt 57 = .ok (.ireturn, 1) := by decide +kernel
abbrev b_N_digits : ByteArray := prog_1_method_13_code
def y_N_digits : MethodName := ⟨"NetText", "digits", "(I)J"⟩
abbrev w_N_digits : List Cond := .code y_N_digits b_N_digits 2 (some .long) :: lw_gt
theorem d_N_digits_0 : decode b_N_digits 0 = .ok (.aload_n 0, 1) := by decide +kernel
theorem d_N_digits_1 : decode b_N_digits 1 = .ok (.iload_n 1, 1) := by decide +kernel
theorem d_N_digits_2 : decode b_N_digits 2 = .ok (.invokevirtual 81, 3) := by decide +kernel
theorem d_N_digits_5 : decode b_N_digits 5 = .ok (.aload_n 0, 1) := by decide +kernel
theorem d_N_digits_6 : decode b_N_digits 6 = .ok (.getfield 25, 3) := by decide +kernel
theorem d_N_digits_9 : decode b_N_digits 9 = .ok (.aload_n 0, 1) := by decide +kernel
theorem d_N_digits_10 : decode b_N_digits 10 = .ok (.getfield 32, 3) := by decide +kernel
theorem d_N_digits_13 : decode b_N_digits 13 = .ok (.iload_n 1, 1) := by decide +kernel
theorem d_N_digits_14 : decode b_N_digits 14 = .ok (.invokevirtual 115, 3) := by decide +kernel
theorem d_N_digits_17 : decode b_N_digits 17 = .ok (.invokevirtual 118, 3) := by decide +kernel
theorem d_N_digits_20 : decode b_N_digits 20 = .ok (.lreturn, 1) := by decide +kernel
abbrev b_N_behind : ByteArray := prog_1_method_14_code
def y_N_behind : MethodName := ⟨"NetText", "behind", "(I)I"⟩
abbrev w_N_behind : List Cond := .code y_N_behind b_N_behind 2 (some .int) :: lw_gt
theorem d_N_behind_0 : decode b_N_behind 0 = .ok (.aload_n 0, 1) := by decide +kernel
theorem d_N_behind_1 : decode b_N_behind 1 = .ok (.iload_n 1, 1) := by decide +kernel
theorem d_N_behind_2 : decode b_N_behind 2 = .ok (.invokevirtual 81, 3) := by decide +kernel
theorem d_N_behind_5 : decode b_N_behind 5 = .ok (.aload_n 0, 1) := by decide +kernel
theorem d_N_behind_6 : decode b_N_behind 6 = .ok (.getfield 32, 3) := by decide +kernel
theorem d_N_behind_9 : decode b_N_behind 9 = .ok (.getfield 84, 3) := by decide +kernel
theorem d_N_behind_12 : decode b_N_behind 12 = .ok (.iload_n 1, 1) := by decide +kernel
theorem d_N_behind_13 : decode b_N_behind 13 = .ok (.iaload, 1) := by decide +kernel
theorem d_N_behind_14 : decode b_N_behind 14 = .ok (.bipush 9, 2) := by decide +kernel
theorem d_N_behind_16 : decode b_N_behind 16 = .ok (.if_icmp .ne 30, 3) := by decide +kernel
theorem d_N_behind_19 : decode b_N_behind 19 = .ok (.aload_n 0, 1) := by decide +kernel
theorem d_N_behind_20 : decode b_N_behind 20 = .ok (.getfield 25, 3) := by decide +kernel
theorem d_N_behind_23 : decode b_N_behind 23 = .ok (.aload_n 0, 1) := by decide +kernel
theorem d_N_behind_24 : decode b_N_behind 24 = .ok (.getfield 32, 3) := by decide +kernel
theorem d_N_behind_27 : decode b_N_behind 27 = .ok (.getfield 88, 3) := by decide +kernel
theorem d_N_behind_30 : decode b_N_behind 30 = .ok (.iload_n 1, 1) := by decide +kernel
theorem d_N_behind_31 : decode b_N_behind 31 = .ok (.iaload, 1) := by decide +kernel
theorem d_N_behind_32 : decode b_N_behind 32 = .ok (.invokevirtual 124, 3) := by decide +kernel
theorem d_N_behind_35 : decode b_N_behind 35 = .ok (.bipush 45, 2) := by decide +kernel
theorem d_N_behind_37 : decode b_N_behind 37 = .ok (.if_icmp .ne 7, 3) := by decide +kernel
theorem d_N_behind_40 : decode b_N_behind 40 = .ok (.iconst 1, 1) := by decide +kernel
theorem d_N_behind_41 : decode b_N_behind 41 = .ok (.goto 4, 3) := by decide +kernel
theorem d_N_behind_44 : decode b_N_behind 44 = .ok (.iconst 0, 1) := by decide +kernel
theorem d_N_behind_45 : decode b_N_behind 45 = .ok (.ireturn, 1) := by decide +kernel
theorem d_N_behind_46 : decode b_N_behind 46 = .ok (.aload_n 0, 1) := by decide +kernel
theorem d_N_behind_47 : decode b_N_behind 47 = .ok (.getfield 25, 3) := by decide +kernel
theorem d_N_behind_50 : decode b_N_behind 50 = .ok (.aload_n 0, 1) := by decide +kernel
theorem d_N_behind_51 : decode b_N_behind 51 = .ok (.getfield 32, 3) := by decide +kernel
theorem d_N_behind_54 : decode b_N_behind 54 = .ok (.iload_n 1, 1) := by decide +kernel
theorem d_N_behind_55 : decode b_N_behind 55 = .ok (.invokevirtual 115, 3) := by decide +kernel
theorem d_N_behind_58 : decode b_N_behind 58 = .ok (.invokevirtual 127, 3) := by decide +kernel
theorem d_N_behind_61 : decode b_N_behind 61 = .ok (.ireturn, 1) := by decide +kernel
abbrev b_N_depth : ByteArray := prog_1_method_15_code
def y_N_depth : MethodName := ⟨"NetText", "depth", "(I)I"⟩
abbrev w_N_depth : List Cond := .code y_N_depth b_N_depth 2 (some .int) :: lw_gt
theorem d_N_depth_0 : decode b_N_depth 0 = .ok (.aload_n 0, 1) := by decide +kernel
theorem d_N_depth_1 : decode b_N_depth 1 = .ok (.iload_n 1, 1) := by decide +kernel
theorem d_N_depth_2 : decode b_N_depth 2 = .ok (.invokevirtual 81, 3) := by decide +kernel
theorem d_N_depth_5 : decode b_N_depth 5 = .ok (.aload_n 0, 1) := by decide +kernel
theorem d_N_depth_6 : decode b_N_depth 6 = .ok (.getfield 32, 3) := by decide +kernel
theorem d_N_depth_9 : decode b_N_depth 9 = .ok (.getfield 130, 3) := by decide +kernel
theorem d_N_depth_12 : decode b_N_depth 12 = .ok (.iload_n 1, 1) := by decide +kernel
theorem d_N_depth_13 : decode b_N_depth 13 = .ok (.iaload, 1) := by decide +kernel
theorem d_N_depth_14 : decode b_N_depth 14 = .ok (.ireturn, 1) := by decide +kernel
abbrev b_N_end : ByteArray := prog_1_method_4_code
def y_N_end : MethodName := ⟨"NetText", "end", "(I)V"⟩
abbrev w_N_end : List Cond := .code y_N_end b_N_end 2 none :: lw_gt
theorem d_N_end_0 : decode b_N_end 0 = .ok (.iload_n 1, 1) := by decide +kernel
theorem d_N_end_1 : decode b_N_end 1 = .ok (.ifCond .lt 11, 3) := by decide +kernel
theorem d_N_end_4 : decode b_N_end 4 = .ok (.iload_n 1, 1) := by decide +kernel
theorem d_N_end_5 : decode b_N_end 5 = .ok (.aload_n 0, 1) := by decide +kernel
theorem d_N_end_6 : decode b_N_end 6 = .ok (.getfield 13, 3) := by decide +kernel
theorem d_N_end_9 : decode b_N_end 9 = .ok (.if_icmp .le 13, 3) := by decide +kernel
theorem d_N_end_12 : decode b_N_end 12 = .ok (.new 62, 3) := by decide +kernel
theorem d_N_end_15 : decode b_N_end 15 = .ok (.dup, 1) := by decide +kernel
theorem d_N_end_16 : decode b_N_end 16 = .ok (.ldc 64, 2) := by decide +kernel
theorem d_N_end_18 : decode b_N_end 18 = .ok (.invokespecial 66, 3) := by decide +kernel
theorem d_N_end_21 : decode b_N_end 21 = .ok (.athrow, 1) := by decide +kernel
theorem d_N_end_22 : decode b_N_end 22 = .ok (.aload_n 0, 1) := by decide +kernel
theorem d_N_end_23 : decode b_N_end 23 = .ok (.iload_n 1, 1) := by decide +kernel
theorem d_N_end_24 : decode b_N_end 24 = .ok (.putfield 13, 3) := by decide +kernel
theorem d_N_end_27 : decode b_N_end 27 = .ok (.return_, 1) := by decide +kernel
abbrev b_N_append : ByteArray := prog_1_method_3_code
def y_N_append : MethodName := ⟨"NetText", "append", "(I)V"⟩
abbrev w_N_append : List Cond := .code y_N_append b_N_append 3 none :: lw_gt
theorem d_N_append_0 : decode b_N_append 0 = .ok (.bipush 24, 2) := by decide +kernel
theorem d_N_append_2 : decode b_N_append 2 = .ok (.istore_n 2, 1) := by decide +kernel
theorem d_N_append_3 : decode b_N_append 3 = .ok (.iload_n 2, 1) := by decide +kernel
theorem d_N_append_4 : decode b_N_append 4 = .ok (.ifCond .lt 44, 3) := by decide +kernel
theorem d_N_append_7 : decode b_N_append 7 = .ok (.aload_n 0, 1) := by decide +kernel
theorem d_N_append_8 : decode b_N_append 8 = .ok (.getfield 13, 3) := by decide +kernel
theorem d_N_append_11 : decode b_N_append 11 = .ok (.aload_n 0, 1) := by decide +kernel
theorem d_N_append_12 : decode b_N_append 12 = .ok (.getfield 9, 3) := by decide +kernel
theorem d_N_append_15 : decode b_N_append 15 = .ok (.arraylength, 1) := by decide +kernel
theorem d_N_append_16 : decode b_N_append 16 = .ok (.if_icmp .ge 32, 3) := by decide +kernel
theorem d_N_append_19 : decode b_N_append 19 = .ok (.aload_n 0, 1) := by decide +kernel
theorem d_N_append_20 : decode b_N_append 20 = .ok (.getfield 9, 3) := by decide +kernel
theorem d_N_append_23 : decode b_N_append 23 = .ok (.aload_n 0, 1) := by decide +kernel
theorem d_N_append_24 : decode b_N_append 24 = .ok (.getfield 13, 3) := by decide +kernel
theorem d_N_append_27 : decode b_N_append 27 = .ok (.iload_n 1, 1) := by decide +kernel
theorem d_N_append_28 : decode b_N_append 28 = .ok (.iload_n 2, 1) := by decide +kernel
theorem d_N_append_29 : decode b_N_append 29 = .ok (.ishr, 1) := by decide +kernel
theorem d_N_append_30 : decode b_N_append 30 = .ok (.i2b, 1) := by decide +kernel
theorem d_N_append_31 : decode b_N_append 31 = .ok (.bastore, 1) := by decide +kernel
theorem d_N_append_32 : decode b_N_append 32 = .ok (.aload_n 0, 1) := by decide +kernel
theorem d_N_append_33 : decode b_N_append 33 = .ok (.dup, 1) := by decide +kernel
theorem d_N_append_34 : decode b_N_append 34 = .ok (.getfield 13, 3) := by decide +kernel
theorem d_N_append_37 : decode b_N_append 37 = .ok (.iconst 1, 1) := by decide +kernel
theorem d_N_append_38 : decode b_N_append 38 = .ok (.iadd, 1) := by decide +kernel
theorem d_N_append_39 : decode b_N_append 39 = .ok (.putfield 13, 3) := by decide +kernel
theorem d_N_append_42 : decode b_N_append 42 = .ok (.iinc 2 (-8), 3) := by decide +kernel
theorem d_N_append_45 : decode b_N_append 45 = .ok (.goto (-42), 3) := by decide +kernel
theorem d_N_append_48 : decode b_N_append 48 = .ok (.return_, 1) := by decide +kernel
def vc_N_place  (pl : Int32)  (K_ : Int32 → Prop) : Prop :=
  (K_ pl)
set_option maxHeartbeats 4000000 in
set_option maxRecDepth 100000 in
theorem met_N_place {l : Launch} {dd : va_G} {cB cI cL cS : ClassId}  {oN : Nat} {aT : Nat} {oP : Nat} {oW : Nat} {oT : Nat}  {pl : Int32} {tl : Int32}  {K_ : Int32 → Prop}  (hv : vc_N_place  pl  K_) : CtR l y_N_place w_N_place (rmk 0 0 0) dd cls5 [(cB, .byte), (cI, .int), (cL, .long), (cS, .object "java/lang/String")] X0 [(oN, .inr (0, [.ref aT, .int tl, .int pl, .ref oW, .ref oT, .ref oP]))] [.ref oN] (qR K_) := by
  refine m_ofR (cc := b_N_place) (nL := 1) (ret := (some .int)) (by decide) rfl (Nat.le_of_ble_eq_true rfl) ?_
  intro p e s m below meth c ls ar Fx_ hP hK hX hl
  obtain ⟨hx, hb, hml, hr, hlocks, hown, hts, hinn⟩ := Fx_
  have hl : lv_has ls 1 [(0, .ref oN)] := hl
  unfold vc_N_place at hv
  refine lv_aload_n hx hb d_N_place_0 rfl (lv_at hl 0 rfl) ?_
  refine va_get (D := dd) (ci := 0) (C := Rc_N) (T := Fc_N) (N := 6) (v := .int pl) hx hb hts (inn in_N) hown hK hP 0 rfl rfl 2 (by decide) (hts (.fieldLink "NetText" 17 "NetText" "place" "I") (tg at_113)) (fun _ h9 => h9) rfl d_N_place_1 ?_
  exact rr_i hx hb hr hlocks pl hv d_N_place_4
def vc_N_demand  (cn : Int32) (x1 : Int32) (K_ : Prop) (E_ : Prop) : Prop :=
  (vc_T_holds cn x1 (fun r_1 => ((¬ r_1 = 0 → (K_)) ∧ (r_1 = 0 → (E_)))))
set_option maxHeartbeats 4000000 in
set_option maxRecDepth 100000 in
theorem met_N_demand {l : Launch} {dd : va_G} {cB cI cL cS : ClassId} {adK adV : Nat → Nat} {oN : Nat} {aT : Nat} {oP : Nat} {oW : Nat} {oT : Nat} {aK : Nat} {aF : Nat} {aP : Nat} {aS : Nat} {aD : Nat}  {cn : Int32} {tl : Int32} {pl : Int32} {x1 : Int32} {K_ : Prop} {E_ : Prop}  (hnt : NoTr l) (hv : vc_N_demand  cn x1 K_ E_) : CtX l y_N_demandNode w_N_demandNode (rmk 7 (0 + 1) (0 + 6)) dd cls5 [(cB, .byte), (cI, .int), (cL, .long), (cS, .object "java/lang/String")] (XF adK adV) [(oN, .inr (0, [.ref aT, .int tl, .int pl, .ref oW, .ref oT, .ref oP])), (oT, .inr (2, [.ref aK, .ref aF, .ref aP, .ref aS, .ref aD, .int cn]))] [.ref oN, .int x1] (qX dd cls5 [(cB, .byte), (cI, .int), (cL, .long), (cS, .object "java/lang/String")] (fun u_ : Unit => [(oN, .inr (0, [.ref aT, .int tl, .int pl, .ref oW, .ref oT, .ref oP])), (oT, .inr (2, [.ref aK, .ref aF, .ref aP, .ref aS, .ref aD, .int cn]))]) (kRv (fun u_ => K_)) (fun u_ => E_) "java/lang/IndexOutOfBoundsException") 0 0 := by
  refine m_ofX (cc := b_N_demandNode) (nL := 2) (ret := none) (by decide) rfl (Nat.le_of_ble_eq_true rfl) ?_
  intro p e s m below meth c ls A ar Fx_ hA hP hK hD hS hX hne hl
  obtain ⟨hx, hb, hml, hr, hlocks, hown, hts, hinn⟩ := Fx_
  generalize hQ : MQX below ((qX dd cls5 [(cB, .byte), (cI, .int), (cL, .long), (cS, .object "java/lang/String")] (fun u_ : Unit => [(oN, .inr (0, [.ref aT, .int tl, .int pl, .ref oW, .ref oT, .ref oP])), (oT, .inr (2, [.ref aK, .ref aF, .ref aP, .ref aS, .ref aD, .int cn]))]) (kRv (fun u_ => K_)) (fun u_ => E_) "java/lang/IndexOutOfBoundsException") A) ar s 0 0 A = QQ
  have hl : lv_has ls 2 [(0, .ref oN), (1, .int x1)] := hl
  unfold vc_N_demand at hv
  refine lv_aload_n hx hb d_N_demandNode_0 rfl (lv_at hl 0 rfl) ?_
  refine va_get (D := dd) (ci := 0) (C := Rc_N) (T := Fc_N) (N := 6) (v := .ref oT) hx hb hts (inn in_N) hown hK hP 0 rfl rfl 4 (by decide) (hts (.fieldLink "NetText" 32 "NetText" "tree" "LNetText$Tree;") (tg at_115)) (fun _ h9 => h9) rfl d_N_demandNode_1 ?_
  refine lv_iload_n hx hb d_N_demandNode_4 rfl (lv_at hl 1 rfl) ?_
  have hM := met_T_holds (l := l) (dd := dd) (cB := cB) (cI := cI) (cL := cL) (cS := cS) (oT := oT) (aK := aK) (aF := aF) (aP := aP) (aS := aS) (aD := aD)  hv
  refine krv_i (st := [.int x1, .ref oT]) (rest := []) ⟨hx, hb, hml, hown, hts⟩ hM (cwV 1 hts (gv (tg0 at_641) (tg0 at_406) (tg0 at_407) (tg0 at_3) (tg0 at_408)) rfl rfl rfl (by decide +kernel) (rk (by omega) (by decide))) x0b (fun _ _ _ => trivial) hP hK [1] rfl (ci := 2) rfl rfl (q0 := 1) rfl rfl hl.1 rfl (Nat.le_of_ble_eq_true rfl) d_N_demandNode_5 ⟨Nat.zero_le _, Nat.zero_le _⟩ (fun r_1 hv => ?_)
  refine lv_if_ne (tgt := 21) hx hb d_N_demandNode_8 (by decide) (fun b_2 => ?_) (fun b_2 => ?_)
  · have hv := hv.1 b_2
    exact rx_v hQ hx hb hr hlocks  () hv (hP.sub [0, 1] rfl) hK (hD.sub [0, 1] (by decide) rfl) hS (Nat.le_refl _) (Nat.le_refl _) d_N_demandNode_21
  · have hv := hv.2 b_2
    exact t_throw hQ hnt hx hb hlocks hown hne (by decide) (by decide) (own_ok hts hX hS oat_3 (i := 20) (tg0 at_642) (tg0 at_19) (by decide) rfl rfl rfl) (hl.1.trans hml.symm) d_N_demandNode_11 d_N_demandNode_14 d_N_demandNode_15 d_N_demandNode_17 d_N_demandNode_20 (Nat.le_of_ble_eq_true rfl) (Nat.le_of_ble_eq_true rfl) (Nat.le_refl _) (Nat.le_refl _) (Nat.le_refl _) (Nat.le_refl _) () hv (hP.sub [0, 1] rfl) hK (hD.sub [0, 1] (by decide) rfl) hS
def vc_N_kind  (nT : Nat) (cn : Int32) (K : FN) (x1 : Int32) (K_ : Int32 → Prop) (E_ : Prop) : Prop :=
  (vc_N_demand cn x1 (vp_in x1 nT ∧ (K_ (K x1.toNatClampNeg))) (E_))
set_option maxHeartbeats 4000000 in
set_option maxRecDepth 100000 in
theorem met_N_kind {l : Launch} {dd : va_G} {cB cI cL cS : ClassId} {adK adV : Nat → Nat} {oN : Nat} {aT : Nat} {oP : Nat} {oW : Nat} {oT : Nat} {aK : Nat} {aF : Nat} {aP : Nat} {aS : Nat} {aD : Nat}  {nT : Nat} {cn : Int32} {K : FN} {tl : Int32} {pl : Int32} {x1 : Int32} {K_ : Int32 → Prop} {E_ : Prop}  (hnt : NoTr l) (hv : vc_N_kind  nT cn K x1 K_ E_) : CtX l y_N_kind w_N_kind (rmk 8 (0 + 1) (0 + 6)) dd cls5 [(cB, .byte), (cI, .int), (cL, .long), (cS, .object "java/lang/String")] (XF adK adV) [(oN, .inr (0, [.ref aT, .int tl, .int pl, .ref oW, .ref oT, .ref oP])), (oT, .inr (2, [.ref aK, .ref aF, .ref aP, .ref aS, .ref aD, .int cn])), (aK, .inl (cI, nT, .inl K))] [.ref oN, .int x1] (qX dd cls5 [(cB, .byte), (cI, .int), (cL, .long), (cS, .object "java/lang/String")] (fun u_ : Unit => [(oN, .inr (0, [.ref aT, .int tl, .int pl, .ref oW, .ref oT, .ref oP])), (oT, .inr (2, [.ref aK, .ref aF, .ref aP, .ref aS, .ref aD, .int cn])), (aK, .inl (cI, nT, .inl K))]) (kRi (fun r_ u_ => K_ r_)) (fun u_ => E_) "java/lang/IndexOutOfBoundsException") 0 0 := by
  refine m_ofX (cc := b_N_kind) (nL := 2) (ret := (some .int)) (by decide) rfl (Nat.le_of_ble_eq_true rfl) ?_
  intro p e s m below meth c ls A ar Fx_ hA hP hK hD hS hX hne hl
  obtain ⟨hx, hb, hml, hr, hlocks, hown, hts, hinn⟩ := Fx_
  generalize hQ : MQX below ((qX dd cls5 [(cB, .byte), (cI, .int), (cL, .long), (cS, .object "java/lang/String")] (fun u_ : Unit => [(oN, .inr (0, [.ref aT, .int tl, .int pl, .ref oW, .ref oT, .ref oP])), (oT, .inr (2, [.ref aK, .ref aF, .ref aP, .ref aS, .ref aD, .int cn])), (aK, .inl (cI, nT, .inl K))]) (kRi (fun r_ u_ => K_ r_)) (fun u_ => E_) "java/lang/IndexOutOfBoundsException") A) ar s 0 0 A = QQ
  have hl : lv_has ls 2 [(0, .ref oN), (1, .int x1)] := hl
  unfold vc_N_kind at hv
  refine lv_aload_n hx hb d_N_kind_0 rfl (lv_at hl 0 rfl) ?_
  refine lv_iload_n hx hb d_N_kind_1 rfl (lv_at hl 1 rfl) ?_
  have hM := met_N_demand (l := l) (dd := dd) (cB := cB) (cI := cI) (cL := cL) (cS := cS) (adK := adK) (adV := adV) (oN := oN) (aT := aT) (oP := oP) (oW := oW) (oT := oT) (aK := aK) (aF := aF) (aP := aP) (aS := aS) (aD := aD) (tl := tl) (pl := pl)  hnt hv
  refine kx_v (st := [.int x1, .ref oN]) (rest := []) (wr := [(aK, .inl (cI, nT, .inl K))]) hQ ⟨hx, hb, hml, hown, hts⟩ hM (cwV 1 hts (gv (tg0 at_637) (tg0 at_639) (tg0 ap_49) (tg0 at_1) (tg0 at_640)) rfl rfl rfl (by decide +kernel) (rk (by omega) (by decide))) xfb (xfg hX) hP hK hD hS hA [0, 1] [2] rfl rfl (by decide) (by decide) (by decide) (ci := 0) rfl rfl (q0 := 0) rfl hlocks hne rfl hl.1 rfl (Nat.le_of_ble_eq_true rfl) d_N_kind_2 ⟨Nat.le_refl _, Nat.le_refl _⟩ (Nat.le_refl _) (Nat.le_refl _) (fun u_3 H locs hv hP hD hS => ?_) (fun u H hv hP hD => by exact ⟨(), hv, hP.sub [1, 2, 0] rfl, hD.sub [1, 2, 0] (by decide) rfl⟩)
  have hP : va_P dd cls5 [(aK, .inl (cI, nT, .inl K)), (oN, .inr (0, [.ref aT, .int tl, .int pl, .ref oW, .ref oT, .ref oP])), (oT, .inr (2, [.ref aK, .ref aF, .ref aP, .ref aS, .ref aD, .int cn]))] H := hP
  have hD : va_D A [(aK, .inl (cI, nT, .inl K)), (oN, .inr (0, [.ref aT, .int tl, .int pl, .ref oW, .ref oT, .ref oP])), (oT, .inr (2, [.ref aK, .ref aF, .ref aP, .ref aS, .ref aD, .int cn]))] := hD
  refine lv_aload_n hx hb d_N_kind_5 rfl (lv_at hl 0 rfl) ?_
  refine va_get (D := dd) (ci := 0) (C := Rc_N) (T := Fc_N) (N := 6) (v := .ref oT) hx hb hts (inn in_N) hown hK hP 1 rfl rfl 4 (by decide) (hts (.fieldLink "NetText" 32 "NetText" "tree" "LNetText$Tree;") (tg at_115)) (fun _ h9 => h9) rfl d_N_kind_6 ?_
  refine va_getN (D := dd) (ci := 2) (C := Rc_T) (T := Fc_T) (N := 6) (v := .ref aK) hx hb hts (inn in_T) hown hK hP 2 rfl rfl 0 (by decide) (va_Nw.use rfl (hX.1 _ nw_2)) (fun _ h9 => h9) rfl d_N_kind_9 ?_
  refine lv_iload_n hx hb d_N_kind_12 rfl (lv_at hl 1 rfl) ?_
  obtain ⟨h_2, hv⟩ := hv
  refine va_iald hx hb hK hP 0 1 rfl rfl h_2 d_N_kind_13 ?_
  exact rx_i hQ hx hb hr hlocks (K x1.toNatClampNeg) () hv (hP.sub [1, 2, 0] rfl) hK (hD.sub [1, 2, 0] (by decide) rfl) hS (Nat.le_refl _) (Nat.le_refl _) d_N_kind_14
def vc_N_begin  (nO : Nat) (sb : FN) (wc : Int32) (nT : Nat) (cn : Int32) (F : FN) (x1 : Int32) (K_ : Int32 → Prop) (E_ : Prop) : Prop :=
  (vc_N_demand cn x1 (vp_in x1 nT ∧ (vc_W_startOf nO sb wc (F x1.toNatClampNeg) (fun r_3 => (K_ r_3)))) (E_))
set_option maxHeartbeats 4000000 in
set_option maxRecDepth 100000 in
theorem met_N_begin {l : Launch} {dd : va_G} {cB cI cL cS : ClassId} {adK adV : Nat → Nat} {oN : Nat} {aT : Nat} {oP : Nat} {oW : Nat} {aX : Nat} {aO : Nat} {aB : Nat} {aE : Nat} {oT : Nat} {aK : Nat} {aF : Nat} {aP : Nat} {aS : Nat} {aD : Nat}  {nO : Nat} {sb : FN} {wc : Int32} {nT : Nat} {cn : Int32} {F : FN} {tl : Int32} {pl : Int32} {ln : Int32} {x1 : Int32} {K_ : Int32 → Prop} {E_ : Prop}  (hnt : NoTr l) (hv : vc_N_begin  nO sb wc nT cn F x1 K_ E_) : CtX l y_N_begin w_N_begin (rmk 8 (0 + 1) (0 + 6)) dd cls5 [(cB, .byte), (cI, .int), (cL, .long), (cS, .object "java/lang/String")] (XF adK adV) [(oN, .inr (0, [.ref aT, .int tl, .int pl, .ref oW, .ref oT, .ref oP])), (oW, .inr (1, [.ref aX, .int ln, .ref aO, .ref aB, .ref aE, .int wc])), (aB, .inl (cI, nO, .inl sb)), (oT, .inr (2, [.ref aK, .ref aF, .ref aP, .ref aS, .ref aD, .int cn])), (aF, .inl (cI, nT, .inl F))] [.ref oN, .int x1] (qX dd cls5 [(cB, .byte), (cI, .int), (cL, .long), (cS, .object "java/lang/String")] (fun u_ : Unit => [(oN, .inr (0, [.ref aT, .int tl, .int pl, .ref oW, .ref oT, .ref oP])), (oW, .inr (1, [.ref aX, .int ln, .ref aO, .ref aB, .ref aE, .int wc])), (aB, .inl (cI, nO, .inl sb)), (oT, .inr (2, [.ref aK, .ref aF, .ref aP, .ref aS, .ref aD, .int cn])), (aF, .inl (cI, nT, .inl F))]) (kRi (fun r_ u_ => K_ r_)) (fun u_ => E_) "java/lang/IndexOutOfBoundsException") 0 0 := by
  refine m_ofX (cc := b_N_begin) (nL := 2) (ret := (some .int)) (by decide) rfl (Nat.le_of_ble_eq_true rfl) ?_
  intro p e s m below meth c ls A ar Fx_ hA hP hK hD hS hX hne hl
  obtain ⟨hx, hb, hml, hr, hlocks, hown, hts, hinn⟩ := Fx_
  generalize hQ : MQX below ((qX dd cls5 [(cB, .byte), (cI, .int), (cL, .long), (cS, .object "java/lang/String")] (fun u_ : Unit => [(oN, .inr (0, [.ref aT, .int tl, .int pl, .ref oW, .ref oT, .ref oP])), (oW, .inr (1, [.ref aX, .int ln, .ref aO, .ref aB, .ref aE, .int wc])), (aB, .inl (cI, nO, .inl sb)), (oT, .inr (2, [.ref aK, .ref aF, .ref aP, .ref aS, .ref aD, .int cn])), (aF, .inl (cI, nT, .inl F))]) (kRi (fun r_ u_ => K_ r_)) (fun u_ => E_) "java/lang/IndexOutOfBoundsException") A) ar s 0 0 A = QQ
  have hl : lv_has ls 2 [(0, .ref oN), (1, .int x1)] := hl
  unfold vc_N_begin at hv
  refine lv_aload_n hx hb d_N_begin_0 rfl (lv_at hl 0 rfl) ?_
  refine lv_iload_n hx hb d_N_begin_1 rfl (lv_at hl 1 rfl) ?_
  have hM := met_N_demand (l := l) (dd := dd) (cB := cB) (cI := cI) (cL := cL) (cS := cS) (adK := adK) (adV := adV) (oN := oN) (aT := aT) (oP := oP) (oW := oW) (oT := oT) (aK := aK) (aF := aF) (aP := aP) (aS := aS) (aD := aD) (tl := tl) (pl := pl)  hnt hv
  refine kx_v (st := [.int x1, .ref oN]) (rest := []) (wr := [(oW, .inr (1, [.ref aX, .int ln, .ref aO, .ref aB, .ref aE, .int wc])), (aB, .inl (cI, nO, .inl sb)), (aF, .inl (cI, nT, .inl F))]) hQ ⟨hx, hb, hml, hown, hts⟩ hM (cwV 1 hts (gv (tg0 at_637) (tg0 at_639) (tg0 ap_49) (tg0 at_1) (tg0 at_640)) rfl rfl rfl (by decide +kernel) (rk (by omega) (by decide))) xfb (xfg hX) hP hK hD hS hA [0, 3] [1, 2, 4] rfl rfl (by decide) (by decide) (by decide) (ci := 0) rfl rfl (q0 := 0) rfl hlocks hne rfl hl.1 rfl (Nat.le_of_ble_eq_true rfl) d_N_begin_2 ⟨Nat.le_refl _, Nat.le_refl _⟩ (Nat.le_refl _) (Nat.le_refl _) (fun u_5 H locs hv hP hD hS => ?_) (fun u H hv hP hD => by exact ⟨(), hv, hP.sub [3, 0, 1, 4, 2] rfl, hD.sub [3, 0, 1, 4, 2] (by decide) rfl⟩)
  have hP : va_P dd cls5 [(oW, .inr (1, [.ref aX, .int ln, .ref aO, .ref aB, .ref aE, .int wc])), (aB, .inl (cI, nO, .inl sb)), (aF, .inl (cI, nT, .inl F)), (oN, .inr (0, [.ref aT, .int tl, .int pl, .ref oW, .ref oT, .ref oP])), (oT, .inr (2, [.ref aK, .ref aF, .ref aP, .ref aS, .ref aD, .int cn]))] H := hP
  have hD : va_D A [(oW, .inr (1, [.ref aX, .int ln, .ref aO, .ref aB, .ref aE, .int wc])), (aB, .inl (cI, nO, .inl sb)), (aF, .inl (cI, nT, .inl F)), (oN, .inr (0, [.ref aT, .int tl, .int pl, .ref oW, .ref oT, .ref oP])), (oT, .inr (2, [.ref aK, .ref aF, .ref aP, .ref aS, .ref aD, .int cn]))] := hD
  refine lv_aload_n hx hb d_N_begin_5 rfl (lv_at hl 0 rfl) ?_
  refine va_get (D := dd) (ci := 0) (C := Rc_N) (T := Fc_N) (N := 6) (v := .ref oW) hx hb hts (inn in_N) hown hK hP 3 rfl rfl 3 (by decide) (hts (.fieldLink "NetText" 25 "NetText" "words" "LNetText$Words;") (tg at_114)) (fun _ h9 => h9) rfl d_N_begin_6 ?_
  refine lv_aload_n hx hb d_N_begin_9 rfl (lv_at hl 0 rfl) ?_
  refine va_get (D := dd) (ci := 0) (C := Rc_N) (T := Fc_N) (N := 6) (v := .ref oT) hx hb hts (inn in_N) hown hK hP 3 rfl rfl 4 (by decide) (hts (.fieldLink "NetText" 32 "NetText" "tree" "LNetText$Tree;") (tg at_115)) (fun _ h9 => h9) rfl d_N_begin_10 ?_
  refine va_getN (D := dd) (ci := 2) (C := Rc_T) (T := Fc_T) (N := 6) (v := .ref aF) hx hb hts (inn in_T) hown hK hP 4 rfl rfl 1 (by decide) (va_Nw.use rfl (hX.1 _ nw_3)) (fun _ h9 => h9) rfl d_N_begin_13 ?_
  refine lv_iload_n hx hb d_N_begin_16 rfl (lv_at hl 1 rfl) ?_
  obtain ⟨h_2, hv⟩ := hv
  refine va_iald hx hb hK hP 2 1 rfl rfl h_2 d_N_begin_17 ?_
  have hM := met_W_startOf (l := l) (dd := dd) (cB := cB) (cI := cI) (cL := cL) (cS := cS) (oW := oW) (aX := aX) (aO := aO) (aB := aB) (aE := aE) (ln := ln)  hv
  refine krv_i (st := [.int (F x1.toNatClampNeg), .ref oW]) (rest := []) ⟨hx, hb, hml, hown, hts⟩ hM (cwV 1 hts (gv (tg0 at_665) (tg0 at_506) (tg0 at_507) (tg0 at_2) (tg0 at_508)) rfl rfl rfl (by decide +kernel) (rk (by omega) (by decide))) x0b (fun _ _ _ => trivial) hP hK [0, 1] rfl (ci := 1) rfl rfl (q0 := 0) rfl rfl hl.1 rfl (Nat.le_of_ble_eq_true rfl) d_N_begin_18 ⟨Nat.zero_le _, Nat.zero_le _⟩ (fun r_3 hv => ?_)
  exact rx_i hQ hx hb hr hlocks r_3 () hv (hP.sub [3, 0, 1, 4, 2] rfl) hK (hD.sub [3, 0, 1, 4, 2] (by decide) rfl) hS (Nat.le_refl _) (Nat.le_refl _) d_N_begin_21
def vc_N_parent  (nT : Nat) (cn : Int32) (Pa : FN) (x1 : Int32) (K_ : Int32 → Prop) (E_ : Prop) : Prop :=
  (vc_N_demand cn x1 (vp_in x1 nT ∧ (K_ (Pa x1.toNatClampNeg))) (E_))
set_option maxHeartbeats 4000000 in
set_option maxRecDepth 100000 in
theorem met_N_parent {l : Launch} {dd : va_G} {cB cI cL cS : ClassId} {adK adV : Nat → Nat} {oN : Nat} {aT : Nat} {oP : Nat} {oW : Nat} {oT : Nat} {aK : Nat} {aF : Nat} {aP : Nat} {aS : Nat} {aD : Nat}  {nT : Nat} {cn : Int32} {Pa : FN} {tl : Int32} {pl : Int32} {x1 : Int32} {K_ : Int32 → Prop} {E_ : Prop}  (hnt : NoTr l) (hv : vc_N_parent  nT cn Pa x1 K_ E_) : CtX l y_N_parent w_N_parent (rmk 8 (0 + 1) (0 + 6)) dd cls5 [(cB, .byte), (cI, .int), (cL, .long), (cS, .object "java/lang/String")] (XF adK adV) [(oN, .inr (0, [.ref aT, .int tl, .int pl, .ref oW, .ref oT, .ref oP])), (oT, .inr (2, [.ref aK, .ref aF, .ref aP, .ref aS, .ref aD, .int cn])), (aP, .inl (cI, nT, .inl Pa))] [.ref oN, .int x1] (qX dd cls5 [(cB, .byte), (cI, .int), (cL, .long), (cS, .object "java/lang/String")] (fun u_ : Unit => [(oN, .inr (0, [.ref aT, .int tl, .int pl, .ref oW, .ref oT, .ref oP])), (oT, .inr (2, [.ref aK, .ref aF, .ref aP, .ref aS, .ref aD, .int cn])), (aP, .inl (cI, nT, .inl Pa))]) (kRi (fun r_ u_ => K_ r_)) (fun u_ => E_) "java/lang/IndexOutOfBoundsException") 0 0 := by
  refine m_ofX (cc := b_N_parent) (nL := 2) (ret := (some .int)) (by decide) rfl (Nat.le_of_ble_eq_true rfl) ?_
  intro p e s m below meth c ls A ar Fx_ hA hP hK hD hS hX hne hl
  obtain ⟨hx, hb, hml, hr, hlocks, hown, hts, hinn⟩ := Fx_
  generalize hQ : MQX below ((qX dd cls5 [(cB, .byte), (cI, .int), (cL, .long), (cS, .object "java/lang/String")] (fun u_ : Unit => [(oN, .inr (0, [.ref aT, .int tl, .int pl, .ref oW, .ref oT, .ref oP])), (oT, .inr (2, [.ref aK, .ref aF, .ref aP, .ref aS, .ref aD, .int cn])), (aP, .inl (cI, nT, .inl Pa))]) (kRi (fun r_ u_ => K_ r_)) (fun u_ => E_) "java/lang/IndexOutOfBoundsException") A) ar s 0 0 A = QQ
  have hl : lv_has ls 2 [(0, .ref oN), (1, .int x1)] := hl
  unfold vc_N_parent at hv
  refine lv_aload_n hx hb d_N_parent_0 rfl (lv_at hl 0 rfl) ?_
  refine lv_iload_n hx hb d_N_parent_1 rfl (lv_at hl 1 rfl) ?_
  have hM := met_N_demand (l := l) (dd := dd) (cB := cB) (cI := cI) (cL := cL) (cS := cS) (adK := adK) (adV := adV) (oN := oN) (aT := aT) (oP := oP) (oW := oW) (oT := oT) (aK := aK) (aF := aF) (aP := aP) (aS := aS) (aD := aD) (tl := tl) (pl := pl)  hnt hv
  refine kx_v (st := [.int x1, .ref oN]) (rest := []) (wr := [(aP, .inl (cI, nT, .inl Pa))]) hQ ⟨hx, hb, hml, hown, hts⟩ hM (cwV 1 hts (gv (tg0 at_637) (tg0 at_639) (tg0 ap_49) (tg0 at_1) (tg0 at_640)) rfl rfl rfl (by decide +kernel) (rk (by omega) (by decide))) xfb (xfg hX) hP hK hD hS hA [0, 1] [2] rfl rfl (by decide) (by decide) (by decide) (ci := 0) rfl rfl (q0 := 0) rfl hlocks hne rfl hl.1 rfl (Nat.le_of_ble_eq_true rfl) d_N_parent_2 ⟨Nat.le_refl _, Nat.le_refl _⟩ (Nat.le_refl _) (Nat.le_refl _) (fun u_3 H locs hv hP hD hS => ?_) (fun u H hv hP hD => by exact ⟨(), hv, hP.sub [1, 2, 0] rfl, hD.sub [1, 2, 0] (by decide) rfl⟩)
  have hP : va_P dd cls5 [(aP, .inl (cI, nT, .inl Pa)), (oN, .inr (0, [.ref aT, .int tl, .int pl, .ref oW, .ref oT, .ref oP])), (oT, .inr (2, [.ref aK, .ref aF, .ref aP, .ref aS, .ref aD, .int cn]))] H := hP
  have hD : va_D A [(aP, .inl (cI, nT, .inl Pa)), (oN, .inr (0, [.ref aT, .int tl, .int pl, .ref oW, .ref oT, .ref oP])), (oT, .inr (2, [.ref aK, .ref aF, .ref aP, .ref aS, .ref aD, .int cn]))] := hD
  refine lv_aload_n hx hb d_N_parent_5 rfl (lv_at hl 0 rfl) ?_
  refine va_get (D := dd) (ci := 0) (C := Rc_N) (T := Fc_N) (N := 6) (v := .ref oT) hx hb hts (inn in_N) hown hK hP 1 rfl rfl 4 (by decide) (hts (.fieldLink "NetText" 32 "NetText" "tree" "LNetText$Tree;") (tg at_115)) (fun _ h9 => h9) rfl d_N_parent_6 ?_
  refine va_getN (D := dd) (ci := 2) (C := Rc_T) (T := Fc_T) (N := 6) (v := .ref aP) hx hb hts (inn in_T) hown hK hP 2 rfl rfl 2 (by decide) (va_Nw.use rfl (hX.1 _ nw_4)) (fun _ h9 => h9) rfl d_N_parent_9 ?_
  refine lv_iload_n hx hb d_N_parent_12 rfl (lv_at hl 1 rfl) ?_
  obtain ⟨h_2, hv⟩ := hv
  refine va_iald hx hb hK hP 0 1 rfl rfl h_2 d_N_parent_13 ?_
  exact rx_i hQ hx hb hr hlocks (Pa x1.toNatClampNeg) () hv (hP.sub [1, 2, 0] rfl) hK (hD.sub [1, 2, 0] (by decide) rfl) hS (Nat.le_refl _) (Nat.le_refl _) d_N_parent_14
def vc_N_sign  (nT : Nat) (cn : Int32) (Sg : FN) (x1 : Int32) (K_ : Int32 → Prop) (E_ : Prop) : Prop :=
  (vc_N_demand cn x1 (vp_in x1 nT ∧ (K_ (Sg x1.toNatClampNeg))) (E_))
set_option maxHeartbeats 4000000 in
set_option maxRecDepth 100000 in
theorem met_N_sign {l : Launch} {dd : va_G} {cB cI cL cS : ClassId} {adK adV : Nat → Nat} {oN : Nat} {aT : Nat} {oP : Nat} {oW : Nat} {oT : Nat} {aK : Nat} {aF : Nat} {aP : Nat} {aS : Nat} {aD : Nat}  {nT : Nat} {cn : Int32} {Sg : FN} {tl : Int32} {pl : Int32} {x1 : Int32} {K_ : Int32 → Prop} {E_ : Prop}  (hnt : NoTr l) (hv : vc_N_sign  nT cn Sg x1 K_ E_) : CtX l y_N_sign w_N_sign (rmk 8 (0 + 1) (0 + 6)) dd cls5 [(cB, .byte), (cI, .int), (cL, .long), (cS, .object "java/lang/String")] (XF adK adV) [(oN, .inr (0, [.ref aT, .int tl, .int pl, .ref oW, .ref oT, .ref oP])), (oT, .inr (2, [.ref aK, .ref aF, .ref aP, .ref aS, .ref aD, .int cn])), (aS, .inl (cI, nT, .inl Sg))] [.ref oN, .int x1] (qX dd cls5 [(cB, .byte), (cI, .int), (cL, .long), (cS, .object "java/lang/String")] (fun u_ : Unit => [(oN, .inr (0, [.ref aT, .int tl, .int pl, .ref oW, .ref oT, .ref oP])), (oT, .inr (2, [.ref aK, .ref aF, .ref aP, .ref aS, .ref aD, .int cn])), (aS, .inl (cI, nT, .inl Sg))]) (kRi (fun r_ u_ => K_ r_)) (fun u_ => E_) "java/lang/IndexOutOfBoundsException") 0 0 := by
  refine m_ofX (cc := b_N_sign) (nL := 2) (ret := (some .int)) (by decide) rfl (Nat.le_of_ble_eq_true rfl) ?_
  intro p e s m below meth c ls A ar Fx_ hA hP hK hD hS hX hne hl
  obtain ⟨hx, hb, hml, hr, hlocks, hown, hts, hinn⟩ := Fx_
  generalize hQ : MQX below ((qX dd cls5 [(cB, .byte), (cI, .int), (cL, .long), (cS, .object "java/lang/String")] (fun u_ : Unit => [(oN, .inr (0, [.ref aT, .int tl, .int pl, .ref oW, .ref oT, .ref oP])), (oT, .inr (2, [.ref aK, .ref aF, .ref aP, .ref aS, .ref aD, .int cn])), (aS, .inl (cI, nT, .inl Sg))]) (kRi (fun r_ u_ => K_ r_)) (fun u_ => E_) "java/lang/IndexOutOfBoundsException") A) ar s 0 0 A = QQ
  have hl : lv_has ls 2 [(0, .ref oN), (1, .int x1)] := hl
  unfold vc_N_sign at hv
  refine lv_aload_n hx hb d_N_sign_0 rfl (lv_at hl 0 rfl) ?_
  refine lv_iload_n hx hb d_N_sign_1 rfl (lv_at hl 1 rfl) ?_
  have hM := met_N_demand (l := l) (dd := dd) (cB := cB) (cI := cI) (cL := cL) (cS := cS) (adK := adK) (adV := adV) (oN := oN) (aT := aT) (oP := oP) (oW := oW) (oT := oT) (aK := aK) (aF := aF) (aP := aP) (aS := aS) (aD := aD) (tl := tl) (pl := pl)  hnt hv
  refine kx_v (st := [.int x1, .ref oN]) (rest := []) (wr := [(aS, .inl (cI, nT, .inl Sg))]) hQ ⟨hx, hb, hml, hown, hts⟩ hM (cwV 1 hts (gv (tg0 at_637) (tg0 at_639) (tg0 ap_49) (tg0 at_1) (tg0 at_640)) rfl rfl rfl (by decide +kernel) (rk (by omega) (by decide))) xfb (xfg hX) hP hK hD hS hA [0, 1] [2] rfl rfl (by decide) (by decide) (by decide) (ci := 0) rfl rfl (q0 := 0) rfl hlocks hne rfl hl.1 rfl (Nat.le_of_ble_eq_true rfl) d_N_sign_2 ⟨Nat.le_refl _, Nat.le_refl _⟩ (Nat.le_refl _) (Nat.le_refl _) (fun u_3 H locs hv hP hD hS => ?_) (fun u H hv hP hD => by exact ⟨(), hv, hP.sub [1, 2, 0] rfl, hD.sub [1, 2, 0] (by decide) rfl⟩)
  have hP : va_P dd cls5 [(aS, .inl (cI, nT, .inl Sg)), (oN, .inr (0, [.ref aT, .int tl, .int pl, .ref oW, .ref oT, .ref oP])), (oT, .inr (2, [.ref aK, .ref aF, .ref aP, .ref aS, .ref aD, .int cn]))] H := hP
  have hD : va_D A [(aS, .inl (cI, nT, .inl Sg)), (oN, .inr (0, [.ref aT, .int tl, .int pl, .ref oW, .ref oT, .ref oP])), (oT, .inr (2, [.ref aK, .ref aF, .ref aP, .ref aS, .ref aD, .int cn]))] := hD
  refine lv_aload_n hx hb d_N_sign_5 rfl (lv_at hl 0 rfl) ?_
  refine va_get (D := dd) (ci := 0) (C := Rc_N) (T := Fc_N) (N := 6) (v := .ref oT) hx hb hts (inn in_N) hown hK hP 1 rfl rfl 4 (by decide) (hts (.fieldLink "NetText" 32 "NetText" "tree" "LNetText$Tree;") (tg at_115)) (fun _ h9 => h9) rfl d_N_sign_6 ?_
  refine va_getN (D := dd) (ci := 2) (C := Rc_T) (T := Fc_T) (N := 6) (v := .ref aS) hx hb hts (inn in_T) hown hK hP 2 rfl rfl 3 (by decide) (va_Nw.use rfl (hX.1 _ nw_5)) (fun _ h9 => h9) rfl d_N_sign_9 ?_
  refine lv_iload_n hx hb d_N_sign_12 rfl (lv_at hl 1 rfl) ?_
  obtain ⟨h_2, hv⟩ := hv
  refine va_iald hx hb hK hP 0 1 rfl rfl h_2 d_N_sign_13 ?_
  exact rx_i hQ hx hb hr hlocks (Sg x1.toNatClampNeg) () hv (hP.sub [1, 2, 0] rfl) hK (hD.sub [1, 2, 0] (by decide) rfl) hS (Nat.le_refl _) (Nat.le_refl _) d_N_sign_14
def vc_N_nameLength  (nO : Nat) (sb : FN) (se : FN) (wc : Int32) (nT : Nat) (cn : Int32) (K : FN) (F : FN) (x1 : Int32) (K_ : Int32 → Prop) (E_ : Prop) : Prop :=
  (vc_N_demand cn x1 (vc_T_nameWord nT cn K F x1 (fun r_2 => (vc_W_lengthOf nO sb se wc r_2 (fun r_3 => (K_ r_3))))) (E_))
set_option maxHeartbeats 4000000 in
set_option maxRecDepth 100000 in
theorem met_N_nameLength {l : Launch} {dd : va_G} {cB cI cL cS : ClassId} {adK adV : Nat → Nat} {oN : Nat} {aT : Nat} {oP : Nat} {oW : Nat} {aX : Nat} {aO : Nat} {aB : Nat} {aE : Nat} {oT : Nat} {aK : Nat} {aF : Nat} {aP : Nat} {aS : Nat} {aD : Nat}  {nO : Nat} {sb : FN} {se : FN} {wc : Int32} {nT : Nat} {cn : Int32} {K : FN} {F : FN} {tl : Int32} {pl : Int32} {ln : Int32} {x1 : Int32} {K_ : Int32 → Prop} {E_ : Prop}  (hnt : NoTr l) (hv : vc_N_nameLength  nO sb se wc nT cn K F x1 K_ E_) : CtX l y_N_nameLength w_N_nameLength (rmk 8 (0 + 1) (0 + 6)) dd cls5 [(cB, .byte), (cI, .int), (cL, .long), (cS, .object "java/lang/String")] (XF adK adV) [(oN, .inr (0, [.ref aT, .int tl, .int pl, .ref oW, .ref oT, .ref oP])), (oW, .inr (1, [.ref aX, .int ln, .ref aO, .ref aB, .ref aE, .int wc])), (aB, .inl (cI, nO, .inl sb)), (aE, .inl (cI, nO, .inl se)), (oT, .inr (2, [.ref aK, .ref aF, .ref aP, .ref aS, .ref aD, .int cn])), (aK, .inl (cI, nT, .inl K)), (aF, .inl (cI, nT, .inl F))] [.ref oN, .int x1] (qX dd cls5 [(cB, .byte), (cI, .int), (cL, .long), (cS, .object "java/lang/String")] (fun u_ : Unit => [(oN, .inr (0, [.ref aT, .int tl, .int pl, .ref oW, .ref oT, .ref oP])), (oW, .inr (1, [.ref aX, .int ln, .ref aO, .ref aB, .ref aE, .int wc])), (aB, .inl (cI, nO, .inl sb)), (aE, .inl (cI, nO, .inl se)), (oT, .inr (2, [.ref aK, .ref aF, .ref aP, .ref aS, .ref aD, .int cn])), (aK, .inl (cI, nT, .inl K)), (aF, .inl (cI, nT, .inl F))]) (kRi (fun r_ u_ => K_ r_)) (fun u_ => E_) "java/lang/IndexOutOfBoundsException") 0 0 := by
  refine m_ofX (cc := b_N_nameLength) (nL := 2) (ret := (some .int)) (by decide) rfl (Nat.le_of_ble_eq_true rfl) ?_
  intro p e s m below meth c ls A ar Fx_ hA hP hK hD hS hX hne hl
  obtain ⟨hx, hb, hml, hr, hlocks, hown, hts, hinn⟩ := Fx_
  generalize hQ : MQX below ((qX dd cls5 [(cB, .byte), (cI, .int), (cL, .long), (cS, .object "java/lang/String")] (fun u_ : Unit => [(oN, .inr (0, [.ref aT, .int tl, .int pl, .ref oW, .ref oT, .ref oP])), (oW, .inr (1, [.ref aX, .int ln, .ref aO, .ref aB, .ref aE, .int wc])), (aB, .inl (cI, nO, .inl sb)), (aE, .inl (cI, nO, .inl se)), (oT, .inr (2, [.ref aK, .ref aF, .ref aP, .ref aS, .ref aD, .int cn])), (aK, .inl (cI, nT, .inl K)), (aF, .inl (cI, nT, .inl F))]) (kRi (fun r_ u_ => K_ r_)) (fun u_ => E_) "java/lang/IndexOutOfBoundsException") A) ar s 0 0 A = QQ
  have hl : lv_has ls 2 [(0, .ref oN), (1, .int x1)] := hl
  unfold vc_N_nameLength at hv
  refine lv_aload_n hx hb d_N_nameLength_0 rfl (lv_at hl 0 rfl) ?_
  refine lv_iload_n hx hb d_N_nameLength_1 rfl (lv_at hl 1 rfl) ?_
  have hM := met_N_demand (l := l) (dd := dd) (cB := cB) (cI := cI) (cL := cL) (cS := cS) (adK := adK) (adV := adV) (oN := oN) (aT := aT) (oP := oP) (oW := oW) (oT := oT) (aK := aK) (aF := aF) (aP := aP) (aS := aS) (aD := aD) (tl := tl) (pl := pl)  hnt hv
  refine kx_v (st := [.int x1, .ref oN]) (rest := []) (wr := [(oW, .inr (1, [.ref aX, .int ln, .ref aO, .ref aB, .ref aE, .int wc])), (aB, .inl (cI, nO, .inl sb)), (aE, .inl (cI, nO, .inl se)), (aK, .inl (cI, nT, .inl K)), (aF, .inl (cI, nT, .inl F))]) hQ ⟨hx, hb, hml, hown, hts⟩ hM (cwV 1 hts (gv (tg0 at_637) (tg0 at_639) (tg0 ap_49) (tg0 at_1) (tg0 at_640)) rfl rfl rfl (by decide +kernel) (rk (by omega) (by decide))) xfb (xfg hX) hP hK hD hS hA [0, 4] [1, 2, 3, 5, 6] rfl rfl (by decide) (by decide) (by decide) (ci := 0) rfl rfl (q0 := 0) rfl hlocks hne rfl hl.1 rfl (Nat.le_of_ble_eq_true rfl) d_N_nameLength_2 ⟨Nat.le_refl _, Nat.le_refl _⟩ (Nat.le_refl _) (Nat.le_refl _) (fun u_6 H locs hv hP hD hS => ?_) (fun u H hv hP hD => by exact ⟨(), hv, hP.sub [5, 0, 1, 2, 6, 3, 4] rfl, hD.sub [5, 0, 1, 2, 6, 3, 4] (by decide) rfl⟩)
  have hP : va_P dd cls5 [(oW, .inr (1, [.ref aX, .int ln, .ref aO, .ref aB, .ref aE, .int wc])), (aB, .inl (cI, nO, .inl sb)), (aE, .inl (cI, nO, .inl se)), (aK, .inl (cI, nT, .inl K)), (aF, .inl (cI, nT, .inl F)), (oN, .inr (0, [.ref aT, .int tl, .int pl, .ref oW, .ref oT, .ref oP])), (oT, .inr (2, [.ref aK, .ref aF, .ref aP, .ref aS, .ref aD, .int cn]))] H := hP
  have hD : va_D A [(oW, .inr (1, [.ref aX, .int ln, .ref aO, .ref aB, .ref aE, .int wc])), (aB, .inl (cI, nO, .inl sb)), (aE, .inl (cI, nO, .inl se)), (aK, .inl (cI, nT, .inl K)), (aF, .inl (cI, nT, .inl F)), (oN, .inr (0, [.ref aT, .int tl, .int pl, .ref oW, .ref oT, .ref oP])), (oT, .inr (2, [.ref aK, .ref aF, .ref aP, .ref aS, .ref aD, .int cn]))] := hD
  refine lv_aload_n hx hb d_N_nameLength_5 rfl (lv_at hl 0 rfl) ?_
  refine va_get (D := dd) (ci := 0) (C := Rc_N) (T := Fc_N) (N := 6) (v := .ref oW) hx hb hts (inn in_N) hown hK hP 5 rfl rfl 3 (by decide) (hts (.fieldLink "NetText" 25 "NetText" "words" "LNetText$Words;") (tg at_114)) (fun _ h9 => h9) rfl d_N_nameLength_6 ?_
  refine lv_aload_n hx hb d_N_nameLength_9 rfl (lv_at hl 0 rfl) ?_
  refine va_get (D := dd) (ci := 0) (C := Rc_N) (T := Fc_N) (N := 6) (v := .ref oT) hx hb hts (inn in_N) hown hK hP 5 rfl rfl 4 (by decide) (hts (.fieldLink "NetText" 32 "NetText" "tree" "LNetText$Tree;") (tg at_115)) (fun _ h9 => h9) rfl d_N_nameLength_10 ?_
  refine lv_iload_n hx hb d_N_nameLength_13 rfl (lv_at hl 1 rfl) ?_
  have hM := met_T_nameWord (l := l) (dd := dd) (cB := cB) (cI := cI) (cL := cL) (cS := cS) (oT := oT) (aK := aK) (aF := aF) (aP := aP) (aS := aS) (aD := aD)  hv
  refine krv_i (st := [.int x1, .ref oT, .ref oW]) (rest := [.ref oW]) ⟨hx, hb, hml, hown, hts⟩ hM (cwV 1 hts (gv (tg0 at_687) (tg0 at_688) (tg0 at_689) (tg0 at_3) (tg0 at_690)) rfl rfl rfl (by decide +kernel) (rk (by omega) (by decide))) x0b (fun _ _ _ => trivial) hP hK [6, 3, 4] rfl (ci := 2) rfl rfl (q0 := 6) rfl rfl hl.1 rfl (Nat.le_of_ble_eq_true rfl) d_N_nameLength_14 ⟨Nat.zero_le _, Nat.zero_le _⟩ (fun r_2 hv => ?_)
  have hM := met_W_lengthOf (l := l) (dd := dd) (cB := cB) (cI := cI) (cL := cL) (cS := cS) (oW := oW) (aX := aX) (aO := aO) (aB := aB) (aE := aE) (ln := ln)  hv
  refine krv_i (st := [.int r_2, .ref oW]) (rest := []) ⟨hx, hb, hml, hown, hts⟩ hM (cwV 1 hts (gv (tg0 at_691) (tg0 at_692) (tg0 at_693) (tg0 at_2) (tg0 at_694)) rfl rfl rfl (by decide +kernel) (rk (by omega) (by decide))) x0b (fun _ _ _ => trivial) hP hK [0, 1, 2] rfl (ci := 1) rfl rfl (q0 := 0) rfl rfl hl.1 rfl (Nat.le_of_ble_eq_true rfl) d_N_nameLength_17 ⟨Nat.zero_le _, Nat.zero_le _⟩ (fun r_3 hv => ?_)
  exact rx_i hQ hx hb hr hlocks r_3 () hv (hP.sub [5, 0, 1, 2, 6, 3, 4] rfl) hK (hD.sub [5, 0, 1, 2, 6, 3, 4] (by decide) rfl) hS (Nat.le_refl _) (Nat.le_refl _) d_N_nameLength_20
def vc_N_nameAt  (nX : Nat) (tx : FN) (ln : Int32) (nO : Nat) (sb : FN) (se : FN) (wc : Int32) (nT : Nat) (cn : Int32) (K : FN) (F : FN) (x1 : Int32) (x2 : Int32) (K_ : Int32 → Prop) (E_ : Prop) : Prop :=
  (vc_N_demand cn x1 (vc_T_nameWord nT cn K F x1 (fun r_2 => ((x2 < 0 → (E_)) ∧ (¬ x2 < 0 → (vc_W_lengthOf nO sb se wc r_2 (fun r_4 => ((x2 < r_4 → (vc_W_startOf nO sb wc r_2 (fun r_6 => (vc_W_byteAt nX tx ln (r_6 + x2) (fun r_7 => (K_ r_7)))))) ∧ (¬ x2 < r_4 → (E_))))))))) (E_))
set_option maxHeartbeats 4000000 in
set_option maxRecDepth 100000 in
theorem met_N_nameAt {l : Launch} {dd : va_G} {cB cI cL cS : ClassId} {adK adV : Nat → Nat} {oN : Nat} {aT : Nat} {oP : Nat} {oW : Nat} {aX : Nat} {aO : Nat} {aB : Nat} {aE : Nat} {oT : Nat} {aK : Nat} {aF : Nat} {aP : Nat} {aS : Nat} {aD : Nat}  {nX : Nat} {tx : FN} {ln : Int32} {nO : Nat} {sb : FN} {se : FN} {wc : Int32} {nT : Nat} {cn : Int32} {K : FN} {F : FN} {tl : Int32} {pl : Int32} {x1 : Int32} {x2 : Int32} {K_ : Int32 → Prop} {E_ : Prop}  (hnt : NoTr l) (hv : vc_N_nameAt  nX tx ln nO sb se wc nT cn K F x1 x2 K_ E_) : CtX l y_N_nameAt w_N_nameAt (rmk 8 (0 + 1) (0 + 6)) dd cls5 [(cB, .byte), (cI, .int), (cL, .long), (cS, .object "java/lang/String")] (XF adK adV) [(oN, .inr (0, [.ref aT, .int tl, .int pl, .ref oW, .ref oT, .ref oP])), (oW, .inr (1, [.ref aX, .int ln, .ref aO, .ref aB, .ref aE, .int wc])), (aX, .inl (cB, nX, .inl tx)), (aB, .inl (cI, nO, .inl sb)), (aE, .inl (cI, nO, .inl se)), (oT, .inr (2, [.ref aK, .ref aF, .ref aP, .ref aS, .ref aD, .int cn])), (aK, .inl (cI, nT, .inl K)), (aF, .inl (cI, nT, .inl F))] [.ref oN, .int x1, .int x2] (qX dd cls5 [(cB, .byte), (cI, .int), (cL, .long), (cS, .object "java/lang/String")] (fun u_ : Unit => [(oN, .inr (0, [.ref aT, .int tl, .int pl, .ref oW, .ref oT, .ref oP])), (oW, .inr (1, [.ref aX, .int ln, .ref aO, .ref aB, .ref aE, .int wc])), (aX, .inl (cB, nX, .inl tx)), (aB, .inl (cI, nO, .inl sb)), (aE, .inl (cI, nO, .inl se)), (oT, .inr (2, [.ref aK, .ref aF, .ref aP, .ref aS, .ref aD, .int cn])), (aK, .inl (cI, nT, .inl K)), (aF, .inl (cI, nT, .inl F))]) (kRi (fun r_ u_ => K_ r_)) (fun u_ => E_) "java/lang/IndexOutOfBoundsException") 0 0 := by
  refine m_ofX (cc := b_N_nameAt) (nL := 4) (ret := (some .int)) (by decide) rfl (Nat.le_of_ble_eq_true rfl) ?_
  intro p e s m below meth c ls A ar Fx_ hA hP hK hD hS hX hne hl
  obtain ⟨hx, hb, hml, hr, hlocks, hown, hts, hinn⟩ := Fx_
  generalize hQ : MQX below ((qX dd cls5 [(cB, .byte), (cI, .int), (cL, .long), (cS, .object "java/lang/String")] (fun u_ : Unit => [(oN, .inr (0, [.ref aT, .int tl, .int pl, .ref oW, .ref oT, .ref oP])), (oW, .inr (1, [.ref aX, .int ln, .ref aO, .ref aB, .ref aE, .int wc])), (aX, .inl (cB, nX, .inl tx)), (aB, .inl (cI, nO, .inl sb)), (aE, .inl (cI, nO, .inl se)), (oT, .inr (2, [.ref aK, .ref aF, .ref aP, .ref aS, .ref aD, .int cn])), (aK, .inl (cI, nT, .inl K)), (aF, .inl (cI, nT, .inl F))]) (kRi (fun r_ u_ => K_ r_)) (fun u_ => E_) "java/lang/IndexOutOfBoundsException") A) ar s 0 0 A = QQ
  have hl : lv_has ls 4 [(0, .ref oN), (1, .int x1), (2, .int x2)] := hl
  unfold vc_N_nameAt at hv
  refine lv_aload_n hx hb d_N_nameAt_0 rfl (lv_at hl 0 rfl) ?_
  refine lv_iload_n hx hb d_N_nameAt_1 rfl (lv_at hl 1 rfl) ?_
  have hM := met_N_demand (l := l) (dd := dd) (cB := cB) (cI := cI) (cL := cL) (cS := cS) (adK := adK) (adV := adV) (oN := oN) (aT := aT) (oP := oP) (oW := oW) (oT := oT) (aK := aK) (aF := aF) (aP := aP) (aS := aS) (aD := aD) (tl := tl) (pl := pl)  hnt hv
  refine kx_v (st := [.int x1, .ref oN]) (rest := []) (wr := [(oW, .inr (1, [.ref aX, .int ln, .ref aO, .ref aB, .ref aE, .int wc])), (aX, .inl (cB, nX, .inl tx)), (aB, .inl (cI, nO, .inl sb)), (aE, .inl (cI, nO, .inl se)), (aK, .inl (cI, nT, .inl K)), (aF, .inl (cI, nT, .inl F))]) hQ ⟨hx, hb, hml, hown, hts⟩ hM (cwV 1 hts (gv (tg0 at_637) (tg0 at_639) (tg0 ap_49) (tg0 at_1) (tg0 at_640)) rfl rfl rfl (by decide +kernel) (rk (by omega) (by decide))) xfb (xfg hX) hP hK hD hS hA [0, 5] [1, 2, 3, 4, 6, 7] rfl rfl (by decide) (by decide) (by decide) (ci := 0) rfl rfl (q0 := 0) rfl hlocks hne rfl hl.1 rfl (Nat.le_of_ble_eq_true rfl) d_N_nameAt_2 ⟨Nat.le_refl _, Nat.le_refl _⟩ (Nat.le_refl _) (Nat.le_refl _) (fun u_12 H locs hv hP hD hS => ?_) (fun u H hv hP hD => by exact ⟨(), hv, hP.sub [6, 0, 1, 2, 3, 7, 4, 5] rfl, hD.sub [6, 0, 1, 2, 3, 7, 4, 5] (by decide) rfl⟩)
  have hP : va_P dd cls5 [(oW, .inr (1, [.ref aX, .int ln, .ref aO, .ref aB, .ref aE, .int wc])), (aX, .inl (cB, nX, .inl tx)), (aB, .inl (cI, nO, .inl sb)), (aE, .inl (cI, nO, .inl se)), (aK, .inl (cI, nT, .inl K)), (aF, .inl (cI, nT, .inl F)), (oN, .inr (0, [.ref aT, .int tl, .int pl, .ref oW, .ref oT, .ref oP])), (oT, .inr (2, [.ref aK, .ref aF, .ref aP, .ref aS, .ref aD, .int cn]))] H := hP
  have hD : va_D A [(oW, .inr (1, [.ref aX, .int ln, .ref aO, .ref aB, .ref aE, .int wc])), (aX, .inl (cB, nX, .inl tx)), (aB, .inl (cI, nO, .inl sb)), (aE, .inl (cI, nO, .inl se)), (aK, .inl (cI, nT, .inl K)), (aF, .inl (cI, nT, .inl F)), (oN, .inr (0, [.ref aT, .int tl, .int pl, .ref oW, .ref oT, .ref oP])), (oT, .inr (2, [.ref aK, .ref aF, .ref aP, .ref aS, .ref aD, .int cn]))] := hD
  refine lv_aload_n hx hb d_N_nameAt_5 rfl (lv_at hl 0 rfl) ?_
  refine va_get (D := dd) (ci := 0) (C := Rc_N) (T := Fc_N) (N := 6) (v := .ref oT) hx hb hts (inn in_N) hown hK hP 6 rfl rfl 4 (by decide) (hts (.fieldLink "NetText" 32 "NetText" "tree" "LNetText$Tree;") (tg at_115)) (fun _ h9 => h9) rfl d_N_nameAt_6 ?_
  refine lv_iload_n hx hb d_N_nameAt_9 rfl (lv_at hl 1 rfl) ?_
  have hM := met_T_nameWord (l := l) (dd := dd) (cB := cB) (cI := cI) (cL := cL) (cS := cS) (oT := oT) (aK := aK) (aF := aF) (aP := aP) (aS := aS) (aD := aD)  hv
  refine krv_i (st := [.int x1, .ref oT]) (rest := []) ⟨hx, hb, hml, hown, hts⟩ hM (cwV 1 hts (gv (tg0 at_687) (tg0 at_688) (tg0 at_689) (tg0 at_3) (tg0 at_690)) rfl rfl rfl (by decide +kernel) (rk (by omega) (by decide))) x0b (fun _ _ _ => trivial) hP hK [7, 4, 5] rfl (ci := 2) rfl rfl (q0 := 7) rfl rfl hl.1 rfl (Nat.le_of_ble_eq_true rfl) d_N_nameAt_10 ⟨Nat.zero_le _, Nat.zero_le _⟩ (fun r_2 hv => ?_)
  refine lv_istore_n (lv' := [(3, .int r_2), (0, .ref oN), (1, .int x1), (2, .int x2)]) hx hb d_N_nameAt_13 rfl hl (by decide) rfl (fun ls hl => ?_)
  refine lv_iload_n hx hb d_N_nameAt_14 rfl (lv_at hl 3 rfl) ?_
  refine lv_if_lt (tgt := 30) hx hb d_N_nameAt_15 (by decide) (fun b_3 => ?_) (fun b_3 => ?_)
  · have hv := hv.1 b_3
    exact t_throw hQ hnt hx hb hlocks hown hne (by decide) (by decide) (own_ok hts hX hS oat_3 (i := 21) (tg0 at_642) (tg0 at_19) (by decide) rfl rfl rfl) (hl.1.trans hml.symm) d_N_nameAt_30 d_N_nameAt_33 d_N_nameAt_34 d_N_nameAt_36 d_N_nameAt_39 (Nat.le_of_ble_eq_true rfl) (Nat.le_of_ble_eq_true rfl) (Nat.le_refl _) (Nat.le_refl _) (Nat.le_refl _) (Nat.le_refl _) () hv (hP.sub [6, 0, 1, 2, 3, 7, 4, 5] rfl) hK (hD.sub [6, 0, 1, 2, 3, 7, 4, 5] (by decide) rfl) hS
  · have hv := hv.2 b_3
    refine lv_iload_n hx hb d_N_nameAt_18 rfl (lv_at hl 3 rfl) ?_
    refine lv_aload_n hx hb d_N_nameAt_19 rfl (lv_at hl 1 rfl) ?_
    refine va_get (D := dd) (ci := 0) (C := Rc_N) (T := Fc_N) (N := 6) (v := .ref oW) hx hb hts (inn in_N) hown hK hP 6 rfl rfl 3 (by decide) (hts (.fieldLink "NetText" 25 "NetText" "words" "LNetText$Words;") (tg at_114)) (fun _ h9 => h9) rfl d_N_nameAt_20 ?_
    refine lv_iload_n hx hb d_N_nameAt_23 rfl (lv_at hl 0 rfl) ?_
    have hM := met_W_lengthOf (l := l) (dd := dd) (cB := cB) (cI := cI) (cL := cL) (cS := cS) (oW := oW) (aX := aX) (aO := aO) (aB := aB) (aE := aE) (ln := ln)  hv
    refine krv_i (st := [.int r_2, .ref oW, .int x2]) (rest := [.int x2]) ⟨hx, hb, hml, hown, hts⟩ hM (cwV 1 hts (gv (tg0 at_691) (tg0 at_692) (tg0 at_693) (tg0 at_2) (tg0 at_694)) rfl rfl rfl (by decide +kernel) (rk (by omega) (by decide))) x0b (fun _ _ _ => trivial) hP hK [0, 2, 3] rfl (ci := 1) rfl rfl (q0 := 0) rfl rfl hl.1 rfl (Nat.le_of_ble_eq_true rfl) d_N_nameAt_24 ⟨Nat.zero_le _, Nat.zero_le _⟩ (fun r_4 hv => ?_)
    refine lv_icmp_lt (tgt := 40) hx hb d_N_nameAt_27 (by decide) (fun b_5 => ?_) (fun b_5 => ?_)
    · have hv := hv.1 b_5
      refine lv_aload_n hx hb d_N_nameAt_40 rfl (lv_at hl 1 rfl) ?_
      refine va_get (D := dd) (ci := 0) (C := Rc_N) (T := Fc_N) (N := 6) (v := .ref oW) hx hb hts (inn in_N) hown hK hP 6 rfl rfl 3 (by decide) (hts (.fieldLink "NetText" 25 "NetText" "words" "LNetText$Words;") (tg at_114)) (fun _ h9 => h9) rfl d_N_nameAt_41 ?_
      refine lv_aload_n hx hb d_N_nameAt_44 rfl (lv_at hl 1 rfl) ?_
      refine va_get (D := dd) (ci := 0) (C := Rc_N) (T := Fc_N) (N := 6) (v := .ref oW) hx hb hts (inn in_N) hown hK hP 6 rfl rfl 3 (by decide) (hts (.fieldLink "NetText" 25 "NetText" "words" "LNetText$Words;") (tg at_114)) (fun _ h9 => h9) rfl d_N_nameAt_45 ?_
      refine lv_iload_n hx hb d_N_nameAt_48 rfl (lv_at hl 0 rfl) ?_
      have hM := met_W_startOf (l := l) (dd := dd) (cB := cB) (cI := cI) (cL := cL) (cS := cS) (oW := oW) (aX := aX) (aO := aO) (aB := aB) (aE := aE) (ln := ln)  hv
      refine krv_i (st := [.int r_2, .ref oW, .ref oW]) (rest := [.ref oW]) ⟨hx, hb, hml, hown, hts⟩ hM (cwV 1 hts (gv (tg0 at_665) (tg0 at_506) (tg0 at_507) (tg0 at_2) (tg0 at_508)) rfl rfl rfl (by decide +kernel) (rk (by omega) (by decide))) x0b (fun _ _ _ => trivial) hP hK [0, 2] rfl (ci := 1) rfl rfl (q0 := 0) rfl rfl hl.1 rfl (Nat.le_of_ble_eq_true rfl) d_N_nameAt_49 ⟨Nat.zero_le _, Nat.zero_le _⟩ (fun r_6 hv => ?_)
      refine lv_iload_n hx hb d_N_nameAt_52 rfl (lv_at hl 3 rfl) ?_
      refine lv_iadd hx hb d_N_nameAt_53 ?_
      have hM := met_W_byteAt (l := l) (dd := dd) (cB := cB) (cI := cI) (cL := cL) (cS := cS) (oW := oW) (aX := aX) (aO := aO) (aB := aB) (aE := aE) (wc := wc)  hv
      refine krv_i (st := [.int (r_6 + x2), .ref oW]) (rest := []) ⟨hx, hb, hml, hown, hts⟩ hM (cwV 1 hts (gv (tg0 at_703) (tg0 at_150) (tg0 at_151) (tg0 at_2) (tg0 at_152)) rfl rfl rfl (by decide +kernel) (rk (by omega) (by decide))) x0b (fun _ _ _ => trivial) hP hK [0, 1] rfl (ci := 1) rfl rfl (q0 := 0) rfl rfl hl.1 rfl (Nat.le_of_ble_eq_true rfl) d_N_nameAt_54 ⟨Nat.zero_le _, Nat.zero_le _⟩ (fun r_7 hv => ?_)
      exact rx_i hQ hx hb hr hlocks r_7 () hv (hP.sub [6, 0, 1, 2, 3, 7, 4, 5] rfl) hK (hD.sub [6, 0, 1, 2, 3, 7, 4, 5] (by decide) rfl) hS (Nat.le_refl _) (Nat.le_refl _) d_N_nameAt_57
    · have hv := hv.2 b_5
      exact t_throw hQ hnt hx hb hlocks hown hne (by decide) (by decide) (own_ok hts hX hS oat_3 (i := 21) (tg0 at_642) (tg0 at_19) (by decide) rfl rfl rfl) (hl.1.trans hml.symm) d_N_nameAt_30 d_N_nameAt_33 d_N_nameAt_34 d_N_nameAt_36 d_N_nameAt_39 (Nat.le_of_ble_eq_true rfl) (Nat.le_of_ble_eq_true rfl) (Nat.le_refl _) (Nat.le_refl _) (Nat.le_refl _) (Nat.le_refl _) () hv (hP.sub [6, 0, 1, 2, 3, 7, 4, 5] rfl) hK (hD.sub [6, 0, 1, 2, 3, 7, 4, 5] (by decide) rfl) hS
def vc_N_digits  (nX : Nat) (tx : FN) (ln : Int32) (nO : Nat) (sb : FN) (se : FN) (wc : Int32) (nT : Nat) (cn : Int32) (K : FN) (F : FN) (x1 : Int32) (K_ : Int64 → Prop) (E_ : Prop) : Prop :=
  (vc_N_demand cn x1 (vc_T_numberWord nT cn K F x1 (fun r_2 => (vc_W_valueOf nX tx ln nO sb se wc r_2 (fun r_3 => (K_ r_3))))) (E_))
set_option maxHeartbeats 4000000 in
set_option maxRecDepth 100000 in
theorem met_N_digits {l : Launch} {dd : va_G} {cB cI cL cS : ClassId} {adK adV : Nat → Nat} {oN : Nat} {aT : Nat} {oP : Nat} {oW : Nat} {aX : Nat} {aO : Nat} {aB : Nat} {aE : Nat} {oT : Nat} {aK : Nat} {aF : Nat} {aP : Nat} {aS : Nat} {aD : Nat}  {nX : Nat} {tx : FN} {ln : Int32} {nO : Nat} {sb : FN} {se : FN} {wc : Int32} {nT : Nat} {cn : Int32} {K : FN} {F : FN} {tl : Int32} {pl : Int32} {x1 : Int32} {K_ : Int64 → Prop} {E_ : Prop}  (hnt : NoTr l) (hv : vc_N_digits  nX tx ln nO sb se wc nT cn K F x1 K_ E_) : CtX l y_N_digits w_N_digits (rmk 8 (0 + 1) (0 + 6)) dd cls5 [(cB, .byte), (cI, .int), (cL, .long), (cS, .object "java/lang/String")] (XF adK adV) [(oN, .inr (0, [.ref aT, .int tl, .int pl, .ref oW, .ref oT, .ref oP])), (oW, .inr (1, [.ref aX, .int ln, .ref aO, .ref aB, .ref aE, .int wc])), (aX, .inl (cB, nX, .inl tx)), (aB, .inl (cI, nO, .inl sb)), (aE, .inl (cI, nO, .inl se)), (oT, .inr (2, [.ref aK, .ref aF, .ref aP, .ref aS, .ref aD, .int cn])), (aK, .inl (cI, nT, .inl K)), (aF, .inl (cI, nT, .inl F))] [.ref oN, .int x1] (qX dd cls5 [(cB, .byte), (cI, .int), (cL, .long), (cS, .object "java/lang/String")] (fun u_ : Unit => [(oN, .inr (0, [.ref aT, .int tl, .int pl, .ref oW, .ref oT, .ref oP])), (oW, .inr (1, [.ref aX, .int ln, .ref aO, .ref aB, .ref aE, .int wc])), (aX, .inl (cB, nX, .inl tx)), (aB, .inl (cI, nO, .inl sb)), (aE, .inl (cI, nO, .inl se)), (oT, .inr (2, [.ref aK, .ref aF, .ref aP, .ref aS, .ref aD, .int cn])), (aK, .inl (cI, nT, .inl K)), (aF, .inl (cI, nT, .inl F))]) (kRl (fun r_ u_ => K_ r_)) (fun u_ => E_) "java/lang/IndexOutOfBoundsException") 0 0 := by
  refine m_ofX (cc := b_N_digits) (nL := 2) (ret := (some .long)) (by decide) rfl (Nat.le_of_ble_eq_true rfl) ?_
  intro p e s m below meth c ls A ar Fx_ hA hP hK hD hS hX hne hl
  obtain ⟨hx, hb, hml, hr, hlocks, hown, hts, hinn⟩ := Fx_
  generalize hQ : MQX below ((qX dd cls5 [(cB, .byte), (cI, .int), (cL, .long), (cS, .object "java/lang/String")] (fun u_ : Unit => [(oN, .inr (0, [.ref aT, .int tl, .int pl, .ref oW, .ref oT, .ref oP])), (oW, .inr (1, [.ref aX, .int ln, .ref aO, .ref aB, .ref aE, .int wc])), (aX, .inl (cB, nX, .inl tx)), (aB, .inl (cI, nO, .inl sb)), (aE, .inl (cI, nO, .inl se)), (oT, .inr (2, [.ref aK, .ref aF, .ref aP, .ref aS, .ref aD, .int cn])), (aK, .inl (cI, nT, .inl K)), (aF, .inl (cI, nT, .inl F))]) (kRl (fun r_ u_ => K_ r_)) (fun u_ => E_) "java/lang/IndexOutOfBoundsException") A) ar s 0 0 A = QQ
  have hl : lv_has ls 2 [(0, .ref oN), (1, .int x1)] := hl
  unfold vc_N_digits at hv
  refine lv_aload_n hx hb d_N_digits_0 rfl (lv_at hl 0 rfl) ?_
  refine lv_iload_n hx hb d_N_digits_1 rfl (lv_at hl 1 rfl) ?_
  have hM := met_N_demand (l := l) (dd := dd) (cB := cB) (cI := cI) (cL := cL) (cS := cS) (adK := adK) (adV := adV) (oN := oN) (aT := aT) (oP := oP) (oW := oW) (oT := oT) (aK := aK) (aF := aF) (aP := aP) (aS := aS) (aD := aD) (tl := tl) (pl := pl)  hnt hv
  refine kx_v (st := [.int x1, .ref oN]) (rest := []) (wr := [(oW, .inr (1, [.ref aX, .int ln, .ref aO, .ref aB, .ref aE, .int wc])), (aX, .inl (cB, nX, .inl tx)), (aB, .inl (cI, nO, .inl sb)), (aE, .inl (cI, nO, .inl se)), (aK, .inl (cI, nT, .inl K)), (aF, .inl (cI, nT, .inl F))]) hQ ⟨hx, hb, hml, hown, hts⟩ hM (cwV 1 hts (gv (tg0 at_637) (tg0 at_639) (tg0 ap_49) (tg0 at_1) (tg0 at_640)) rfl rfl rfl (by decide +kernel) (rk (by omega) (by decide))) xfb (xfg hX) hP hK hD hS hA [0, 5] [1, 2, 3, 4, 6, 7] rfl rfl (by decide) (by decide) (by decide) (ci := 0) rfl rfl (q0 := 0) rfl hlocks hne rfl hl.1 rfl (Nat.le_of_ble_eq_true rfl) d_N_digits_2 ⟨Nat.le_refl _, Nat.le_refl _⟩ (Nat.le_refl _) (Nat.le_refl _) (fun u_6 H locs hv hP hD hS => ?_) (fun u H hv hP hD => by exact ⟨(), hv, hP.sub [6, 0, 1, 2, 3, 7, 4, 5] rfl, hD.sub [6, 0, 1, 2, 3, 7, 4, 5] (by decide) rfl⟩)
  have hP : va_P dd cls5 [(oW, .inr (1, [.ref aX, .int ln, .ref aO, .ref aB, .ref aE, .int wc])), (aX, .inl (cB, nX, .inl tx)), (aB, .inl (cI, nO, .inl sb)), (aE, .inl (cI, nO, .inl se)), (aK, .inl (cI, nT, .inl K)), (aF, .inl (cI, nT, .inl F)), (oN, .inr (0, [.ref aT, .int tl, .int pl, .ref oW, .ref oT, .ref oP])), (oT, .inr (2, [.ref aK, .ref aF, .ref aP, .ref aS, .ref aD, .int cn]))] H := hP
  have hD : va_D A [(oW, .inr (1, [.ref aX, .int ln, .ref aO, .ref aB, .ref aE, .int wc])), (aX, .inl (cB, nX, .inl tx)), (aB, .inl (cI, nO, .inl sb)), (aE, .inl (cI, nO, .inl se)), (aK, .inl (cI, nT, .inl K)), (aF, .inl (cI, nT, .inl F)), (oN, .inr (0, [.ref aT, .int tl, .int pl, .ref oW, .ref oT, .ref oP])), (oT, .inr (2, [.ref aK, .ref aF, .ref aP, .ref aS, .ref aD, .int cn]))] := hD
  refine lv_aload_n hx hb d_N_digits_5 rfl (lv_at hl 0 rfl) ?_
  refine va_get (D := dd) (ci := 0) (C := Rc_N) (T := Fc_N) (N := 6) (v := .ref oW) hx hb hts (inn in_N) hown hK hP 6 rfl rfl 3 (by decide) (hts (.fieldLink "NetText" 25 "NetText" "words" "LNetText$Words;") (tg at_114)) (fun _ h9 => h9) rfl d_N_digits_6 ?_
  refine lv_aload_n hx hb d_N_digits_9 rfl (lv_at hl 0 rfl) ?_
  refine va_get (D := dd) (ci := 0) (C := Rc_N) (T := Fc_N) (N := 6) (v := .ref oT) hx hb hts (inn in_N) hown hK hP 6 rfl rfl 4 (by decide) (hts (.fieldLink "NetText" 32 "NetText" "tree" "LNetText$Tree;") (tg at_115)) (fun _ h9 => h9) rfl d_N_digits_10 ?_
  refine lv_iload_n hx hb d_N_digits_13 rfl (lv_at hl 1 rfl) ?_
  have hM := met_T_numberWord (l := l) (dd := dd) (cB := cB) (cI := cI) (cL := cL) (cS := cS) (oT := oT) (aK := aK) (aF := aF) (aP := aP) (aS := aS) (aD := aD)  hv
  refine krv_i (st := [.int x1, .ref oT, .ref oW]) (rest := [.ref oW]) ⟨hx, hb, hml, hown, hts⟩ hM (cwV 1 hts (gv (tg0 at_711) (tg0 at_712) (tg0 at_713) (tg0 at_3) (tg0 at_714)) rfl rfl rfl (by decide +kernel) (rk (by omega) (by decide))) x0b (fun _ _ _ => trivial) hP hK [7, 4, 5] rfl (ci := 2) rfl rfl (q0 := 7) rfl rfl hl.1 rfl (Nat.le_of_ble_eq_true rfl) d_N_digits_14 ⟨Nat.zero_le _, Nat.zero_le _⟩ (fun r_2 hv => ?_)
  have hM := met_W_valueOf (l := l) (dd := dd) (cB := cB) (cI := cI) (cL := cL) (cS := cS) (oW := oW) (aX := aX) (aO := aO) (aB := aB) (aE := aE)  hv
  refine krv_l (st := [.int r_2, .ref oW]) (rest := []) ⟨hx, hb, hml, hown, hts⟩ hM (cwV 1 hts (gv (tg0 at_715) (tg0 at_716) (tg0 at_717) (tg0 at_2) (tg0 at_718)) rfl rfl rfl (by decide +kernel) (rk (by omega) (by decide))) x0b (fun _ _ _ => trivial) hP hK [0, 1, 2, 3] rfl (ci := 1) rfl rfl (q0 := 0) rfl rfl hl.1 rfl (Nat.le_of_ble_eq_true rfl) d_N_digits_17 ⟨Nat.zero_le _, Nat.zero_le _⟩ (fun r_3 hv => ?_)
  exact rx_l hQ hx hb hr hlocks r_3 () hv (hP.sub [6, 0, 1, 2, 3, 7, 4, 5] rfl) hK (hD.sub [6, 0, 1, 2, 3, 7, 4, 5] (by decide) rfl) hS (Nat.le_refl _) (Nat.le_refl _) d_N_digits_20
def vc_N_behind  (nX : Nat) (tx : FN) (ln : Int32) (nO : Nat) (so : FN) (sb : FN) (se : FN) (wc : Int32) (nT : Nat) (cn : Int32) (K : FN) (F : FN) (x1 : Int32) (K_ : Int32 → Prop) (E_ : Prop) : Prop :=
  (vc_N_demand cn x1 (vp_in x1 nT ∧ ((¬ (K x1.toNatClampNeg) = 9 → (vc_T_numberWord nT cn K F x1 (fun r_4 => (vc_W_digitsBehindPoint nX tx ln nO sb se wc r_4 (fun r_5 => (K_ r_5)))))) ∧ ((K x1.toNatClampNeg) = 9 → (vp_in x1 nT ∧ (vc_W_sortOf nO so wc (F x1.toNatClampNeg) (fun r_9 => ((¬ r_9 = 45 → (K_ 0)) ∧ (r_9 = 45 → (K_ 1))))))))) (E_))
set_option maxHeartbeats 4000000 in
set_option maxRecDepth 100000 in
theorem met_N_behind {l : Launch} {dd : va_G} {cB cI cL cS : ClassId} {adK adV : Nat → Nat} {oN : Nat} {aT : Nat} {oP : Nat} {oW : Nat} {aX : Nat} {aO : Nat} {aB : Nat} {aE : Nat} {oT : Nat} {aK : Nat} {aF : Nat} {aP : Nat} {aS : Nat} {aD : Nat}  {nX : Nat} {tx : FN} {ln : Int32} {nO : Nat} {so : FN} {sb : FN} {se : FN} {wc : Int32} {nT : Nat} {cn : Int32} {K : FN} {F : FN} {tl : Int32} {pl : Int32} {x1 : Int32} {K_ : Int32 → Prop} {E_ : Prop}  (hnt : NoTr l) (hv : vc_N_behind  nX tx ln nO so sb se wc nT cn K F x1 K_ E_) : CtX l y_N_behind w_N_behind (rmk 8 (0 + 1) (0 + 6)) dd cls5 [(cB, .byte), (cI, .int), (cL, .long), (cS, .object "java/lang/String")] (XF adK adV) [(oN, .inr (0, [.ref aT, .int tl, .int pl, .ref oW, .ref oT, .ref oP])), (oW, .inr (1, [.ref aX, .int ln, .ref aO, .ref aB, .ref aE, .int wc])), (aX, .inl (cB, nX, .inl tx)), (aO, .inl (cI, nO, .inl so)), (aB, .inl (cI, nO, .inl sb)), (aE, .inl (cI, nO, .inl se)), (oT, .inr (2, [.ref aK, .ref aF, .ref aP, .ref aS, .ref aD, .int cn])), (aK, .inl (cI, nT, .inl K)), (aF, .inl (cI, nT, .inl F))] [.ref oN, .int x1] (qX dd cls5 [(cB, .byte), (cI, .int), (cL, .long), (cS, .object "java/lang/String")] (fun u_ : Unit => [(oN, .inr (0, [.ref aT, .int tl, .int pl, .ref oW, .ref oT, .ref oP])), (oW, .inr (1, [.ref aX, .int ln, .ref aO, .ref aB, .ref aE, .int wc])), (aX, .inl (cB, nX, .inl tx)), (aO, .inl (cI, nO, .inl so)), (aB, .inl (cI, nO, .inl sb)), (aE, .inl (cI, nO, .inl se)), (oT, .inr (2, [.ref aK, .ref aF, .ref aP, .ref aS, .ref aD, .int cn])), (aK, .inl (cI, nT, .inl K)), (aF, .inl (cI, nT, .inl F))]) (kRi (fun r_ u_ => K_ r_)) (fun u_ => E_) "java/lang/IndexOutOfBoundsException") 0 0 := by
  refine m_ofX (cc := b_N_behind) (nL := 2) (ret := (some .int)) (by decide) rfl (Nat.le_of_ble_eq_true rfl) ?_
  intro p e s m below meth c ls A ar Fx_ hA hP hK hD hS hX hne hl
  obtain ⟨hx, hb, hml, hr, hlocks, hown, hts, hinn⟩ := Fx_
  generalize hQ : MQX below ((qX dd cls5 [(cB, .byte), (cI, .int), (cL, .long), (cS, .object "java/lang/String")] (fun u_ : Unit => [(oN, .inr (0, [.ref aT, .int tl, .int pl, .ref oW, .ref oT, .ref oP])), (oW, .inr (1, [.ref aX, .int ln, .ref aO, .ref aB, .ref aE, .int wc])), (aX, .inl (cB, nX, .inl tx)), (aO, .inl (cI, nO, .inl so)), (aB, .inl (cI, nO, .inl sb)), (aE, .inl (cI, nO, .inl se)), (oT, .inr (2, [.ref aK, .ref aF, .ref aP, .ref aS, .ref aD, .int cn])), (aK, .inl (cI, nT, .inl K)), (aF, .inl (cI, nT, .inl F))]) (kRi (fun r_ u_ => K_ r_)) (fun u_ => E_) "java/lang/IndexOutOfBoundsException") A) ar s 0 0 A = QQ
  have hl : lv_has ls 2 [(0, .ref oN), (1, .int x1)] := hl
  unfold vc_N_behind at hv
  refine lv_aload_n hx hb d_N_behind_0 rfl (lv_at hl 0 rfl) ?_
  refine lv_iload_n hx hb d_N_behind_1 rfl (lv_at hl 1 rfl) ?_
  have hM := met_N_demand (l := l) (dd := dd) (cB := cB) (cI := cI) (cL := cL) (cS := cS) (adK := adK) (adV := adV) (oN := oN) (aT := aT) (oP := oP) (oW := oW) (oT := oT) (aK := aK) (aF := aF) (aP := aP) (aS := aS) (aD := aD) (tl := tl) (pl := pl)  hnt hv
  refine kx_v (st := [.int x1, .ref oN]) (rest := []) (wr := [(oW, .inr (1, [.ref aX, .int ln, .ref aO, .ref aB, .ref aE, .int wc])), (aX, .inl (cB, nX, .inl tx)), (aO, .inl (cI, nO, .inl so)), (aB, .inl (cI, nO, .inl sb)), (aE, .inl (cI, nO, .inl se)), (aK, .inl (cI, nT, .inl K)), (aF, .inl (cI, nT, .inl F))]) hQ ⟨hx, hb, hml, hown, hts⟩ hM (cwV 1 hts (gv (tg0 at_637) (tg0 at_639) (tg0 ap_49) (tg0 at_1) (tg0 at_640)) rfl rfl rfl (by decide +kernel) (rk (by omega) (by decide))) xfb (xfg hX) hP hK hD hS hA [0, 6] [1, 2, 3, 4, 5, 7, 8] rfl rfl (by decide) (by decide) (by decide) (ci := 0) rfl rfl (q0 := 0) rfl hlocks hne rfl hl.1 rfl (Nat.le_of_ble_eq_true rfl) d_N_behind_2 ⟨Nat.le_refl _, Nat.le_refl _⟩ (Nat.le_refl _) (Nat.le_refl _) (fun u_12 H locs hv hP hD hS => ?_) (fun u H hv hP hD => by exact ⟨(), hv, hP.sub [7, 0, 1, 2, 3, 4, 8, 5, 6] rfl, hD.sub [7, 0, 1, 2, 3, 4, 8, 5, 6] (by decide) rfl⟩)
  have hP : va_P dd cls5 [(oW, .inr (1, [.ref aX, .int ln, .ref aO, .ref aB, .ref aE, .int wc])), (aX, .inl (cB, nX, .inl tx)), (aO, .inl (cI, nO, .inl so)), (aB, .inl (cI, nO, .inl sb)), (aE, .inl (cI, nO, .inl se)), (aK, .inl (cI, nT, .inl K)), (aF, .inl (cI, nT, .inl F)), (oN, .inr (0, [.ref aT, .int tl, .int pl, .ref oW, .ref oT, .ref oP])), (oT, .inr (2, [.ref aK, .ref aF, .ref aP, .ref aS, .ref aD, .int cn]))] H := hP
  have hD : va_D A [(oW, .inr (1, [.ref aX, .int ln, .ref aO, .ref aB, .ref aE, .int wc])), (aX, .inl (cB, nX, .inl tx)), (aO, .inl (cI, nO, .inl so)), (aB, .inl (cI, nO, .inl sb)), (aE, .inl (cI, nO, .inl se)), (aK, .inl (cI, nT, .inl K)), (aF, .inl (cI, nT, .inl F)), (oN, .inr (0, [.ref aT, .int tl, .int pl, .ref oW, .ref oT, .ref oP])), (oT, .inr (2, [.ref aK, .ref aF, .ref aP, .ref aS, .ref aD, .int cn]))] := hD
  refine lv_aload_n hx hb d_N_behind_5 rfl (lv_at hl 0 rfl) ?_
  refine va_get (D := dd) (ci := 0) (C := Rc_N) (T := Fc_N) (N := 6) (v := .ref oT) hx hb hts (inn in_N) hown hK hP 7 rfl rfl 4 (by decide) (hts (.fieldLink "NetText" 32 "NetText" "tree" "LNetText$Tree;") (tg at_115)) (fun _ h9 => h9) rfl d_N_behind_6 ?_
  refine va_getN (D := dd) (ci := 2) (C := Rc_T) (T := Fc_T) (N := 6) (v := .ref aK) hx hb hts (inn in_T) hown hK hP 8 rfl rfl 0 (by decide) (va_Nw.use rfl (hX.1 _ nw_2)) (fun _ h9 => h9) rfl d_N_behind_9 ?_
  refine lv_iload_n hx hb d_N_behind_12 rfl (lv_at hl 1 rfl) ?_
  obtain ⟨h_2, hv⟩ := hv
  refine va_iald hx hb hK hP 5 1 rfl rfl h_2 d_N_behind_13 ?_
  refine lv_bipush (v := 9) hx hb d_N_behind_14 (by decide) ?_
  refine lv_icmp_ne (tgt := 46) hx hb d_N_behind_16 (by decide) (fun b_3 => ?_) (fun b_3 => ?_)
  · have hv := hv.1 b_3
    refine lv_aload_n hx hb d_N_behind_46 rfl (lv_at hl 0 rfl) ?_
    refine va_get (D := dd) (ci := 0) (C := Rc_N) (T := Fc_N) (N := 6) (v := .ref oW) hx hb hts (inn in_N) hown hK hP 7 rfl rfl 3 (by decide) (hts (.fieldLink "NetText" 25 "NetText" "words" "LNetText$Words;") (tg at_114)) (fun _ h9 => h9) rfl d_N_behind_47 ?_
    refine lv_aload_n hx hb d_N_behind_50 rfl (lv_at hl 0 rfl) ?_
    refine va_get (D := dd) (ci := 0) (C := Rc_N) (T := Fc_N) (N := 6) (v := .ref oT) hx hb hts (inn in_N) hown hK hP 7 rfl rfl 4 (by decide) (hts (.fieldLink "NetText" 32 "NetText" "tree" "LNetText$Tree;") (tg at_115)) (fun _ h9 => h9) rfl d_N_behind_51 ?_
    refine lv_iload_n hx hb d_N_behind_54 rfl (lv_at hl 1 rfl) ?_
    have hM := met_T_numberWord (l := l) (dd := dd) (cB := cB) (cI := cI) (cL := cL) (cS := cS) (oT := oT) (aK := aK) (aF := aF) (aP := aP) (aS := aS) (aD := aD)  hv
    refine krv_i (st := [.int x1, .ref oT, .ref oW]) (rest := [.ref oW]) ⟨hx, hb, hml, hown, hts⟩ hM (cwV 1 hts (gv (tg0 at_711) (tg0 at_712) (tg0 at_713) (tg0 at_3) (tg0 at_714)) rfl rfl rfl (by decide +kernel) (rk (by omega) (by decide))) x0b (fun _ _ _ => trivial) hP hK [8, 5, 6] rfl (ci := 2) rfl rfl (q0 := 8) rfl rfl hl.1 rfl (Nat.le_of_ble_eq_true rfl) d_N_behind_55 ⟨Nat.zero_le _, Nat.zero_le _⟩ (fun r_4 hv => ?_)
    have hM := met_W_digitsBehindPoint (l := l) (dd := dd) (cB := cB) (cI := cI) (cL := cL) (cS := cS) (oW := oW) (aX := aX) (aO := aO) (aB := aB) (aE := aE)  hv
    refine krv_i (st := [.int r_4, .ref oW]) (rest := []) ⟨hx, hb, hml, hown, hts⟩ hM (cwV 1 hts (gv (tg0 at_729) (tg0 at_730) (tg0 at_731) (tg0 at_2) (tg0 at_732)) rfl rfl rfl (by decide +kernel) (rk (by omega) (by decide))) x0b (fun _ _ _ => trivial) hP hK [0, 1, 3, 4] rfl (ci := 1) rfl rfl (q0 := 0) rfl rfl hl.1 rfl (Nat.le_of_ble_eq_true rfl) d_N_behind_58 ⟨Nat.zero_le _, Nat.zero_le _⟩ (fun r_5 hv => ?_)
    exact rx_i hQ hx hb hr hlocks r_5 () hv (hP.sub [7, 0, 1, 2, 3, 4, 8, 5, 6] rfl) hK (hD.sub [7, 0, 1, 2, 3, 4, 8, 5, 6] (by decide) rfl) hS (Nat.le_refl _) (Nat.le_refl _) d_N_behind_61
  · have hv := hv.2 b_3
    refine lv_aload_n hx hb d_N_behind_19 rfl (lv_at hl 0 rfl) ?_
    refine va_get (D := dd) (ci := 0) (C := Rc_N) (T := Fc_N) (N := 6) (v := .ref oW) hx hb hts (inn in_N) hown hK hP 7 rfl rfl 3 (by decide) (hts (.fieldLink "NetText" 25 "NetText" "words" "LNetText$Words;") (tg at_114)) (fun _ h9 => h9) rfl d_N_behind_20 ?_
    refine lv_aload_n hx hb d_N_behind_23 rfl (lv_at hl 0 rfl) ?_
    refine va_get (D := dd) (ci := 0) (C := Rc_N) (T := Fc_N) (N := 6) (v := .ref oT) hx hb hts (inn in_N) hown hK hP 7 rfl rfl 4 (by decide) (hts (.fieldLink "NetText" 32 "NetText" "tree" "LNetText$Tree;") (tg at_115)) (fun _ h9 => h9) rfl d_N_behind_24 ?_
    refine va_getN (D := dd) (ci := 2) (C := Rc_T) (T := Fc_T) (N := 6) (v := .ref aF) hx hb hts (inn in_T) hown hK hP 8 rfl rfl 1 (by decide) (va_Nw.use rfl (hX.1 _ nw_3)) (fun _ h9 => h9) rfl d_N_behind_27 ?_
    refine lv_iload_n hx hb d_N_behind_30 rfl (lv_at hl 1 rfl) ?_
    obtain ⟨h_8, hv⟩ := hv
    refine va_iald hx hb hK hP 6 1 rfl rfl h_8 d_N_behind_31 ?_
    have hM := met_W_sortOf (l := l) (dd := dd) (cB := cB) (cI := cI) (cL := cL) (cS := cS) (oW := oW) (aX := aX) (aO := aO) (aB := aB) (aE := aE) (ln := ln)  hv
    refine krv_i (st := [.int (F x1.toNatClampNeg), .ref oW]) (rest := []) ⟨hx, hb, hml, hown, hts⟩ hM (cwV 1 hts (gv (tg0 at_728) (tg0 at_346) (tg0 at_347) (tg0 at_2) (tg0 at_348)) rfl rfl rfl (by decide +kernel) (rk (by omega) (by decide))) x0b (fun _ _ _ => trivial) hP hK [0, 2] rfl (ci := 1) rfl rfl (q0 := 0) rfl rfl hl.1 rfl (Nat.le_of_ble_eq_true rfl) d_N_behind_32 ⟨Nat.zero_le _, Nat.zero_le _⟩ (fun r_9 hv => ?_)
    refine lv_bipush (v := 45) hx hb d_N_behind_35 (by decide) ?_
    refine lv_icmp_ne (tgt := 44) hx hb d_N_behind_37 (by decide) (fun b_10 => ?_) (fun b_10 => ?_)
    · have hv := hv.1 b_10
      refine lv_iconst (v := 0) hx hb d_N_behind_44 (by decide) ?_
      exact rx_i hQ hx hb hr hlocks 0 () hv (hP.sub [7, 0, 1, 2, 3, 4, 8, 5, 6] rfl) hK (hD.sub [7, 0, 1, 2, 3, 4, 8, 5, 6] (by decide) rfl) hS (Nat.le_refl _) (Nat.le_refl _) d_N_behind_45
    · have hv := hv.2 b_10
      refine lv_iconst (v := 1) hx hb d_N_behind_40 (by decide) ?_
      refine lv_goto (tgt := 45) hx hb d_N_behind_41 (by decide) ?_
      exact rx_i hQ hx hb hr hlocks 1 () hv (hP.sub [7, 0, 1, 2, 3, 4, 8, 5, 6] rfl) hK (hD.sub [7, 0, 1, 2, 3, 4, 8, 5, 6] (by decide) rfl) hS (Nat.le_refl _) (Nat.le_refl _) d_N_behind_45
def vc_N_depth  (nT : Nat) (cn : Int32) (Dp : FN) (x1 : Int32) (K_ : Int32 → Prop) (E_ : Prop) : Prop :=
  (vc_N_demand cn x1 (vp_in x1 nT ∧ (K_ (Dp x1.toNatClampNeg))) (E_))
set_option maxHeartbeats 4000000 in
set_option maxRecDepth 100000 in
theorem met_N_depth {l : Launch} {dd : va_G} {cB cI cL cS : ClassId} {adK adV : Nat → Nat} {oN : Nat} {aT : Nat} {oP : Nat} {oW : Nat} {oT : Nat} {aK : Nat} {aF : Nat} {aP : Nat} {aS : Nat} {aD : Nat}  {nT : Nat} {cn : Int32} {Dp : FN} {tl : Int32} {pl : Int32} {x1 : Int32} {K_ : Int32 → Prop} {E_ : Prop}  (hnt : NoTr l) (hv : vc_N_depth  nT cn Dp x1 K_ E_) : CtX l y_N_depth w_N_depth (rmk 8 (0 + 1) (0 + 6)) dd cls5 [(cB, .byte), (cI, .int), (cL, .long), (cS, .object "java/lang/String")] (XF adK adV) [(oN, .inr (0, [.ref aT, .int tl, .int pl, .ref oW, .ref oT, .ref oP])), (oT, .inr (2, [.ref aK, .ref aF, .ref aP, .ref aS, .ref aD, .int cn])), (aD, .inl (cI, nT, .inl Dp))] [.ref oN, .int x1] (qX dd cls5 [(cB, .byte), (cI, .int), (cL, .long), (cS, .object "java/lang/String")] (fun u_ : Unit => [(oN, .inr (0, [.ref aT, .int tl, .int pl, .ref oW, .ref oT, .ref oP])), (oT, .inr (2, [.ref aK, .ref aF, .ref aP, .ref aS, .ref aD, .int cn])), (aD, .inl (cI, nT, .inl Dp))]) (kRi (fun r_ u_ => K_ r_)) (fun u_ => E_) "java/lang/IndexOutOfBoundsException") 0 0 := by
  refine m_ofX (cc := b_N_depth) (nL := 2) (ret := (some .int)) (by decide) rfl (Nat.le_of_ble_eq_true rfl) ?_
  intro p e s m below meth c ls A ar Fx_ hA hP hK hD hS hX hne hl
  obtain ⟨hx, hb, hml, hr, hlocks, hown, hts, hinn⟩ := Fx_
  generalize hQ : MQX below ((qX dd cls5 [(cB, .byte), (cI, .int), (cL, .long), (cS, .object "java/lang/String")] (fun u_ : Unit => [(oN, .inr (0, [.ref aT, .int tl, .int pl, .ref oW, .ref oT, .ref oP])), (oT, .inr (2, [.ref aK, .ref aF, .ref aP, .ref aS, .ref aD, .int cn])), (aD, .inl (cI, nT, .inl Dp))]) (kRi (fun r_ u_ => K_ r_)) (fun u_ => E_) "java/lang/IndexOutOfBoundsException") A) ar s 0 0 A = QQ
  have hl : lv_has ls 2 [(0, .ref oN), (1, .int x1)] := hl
  unfold vc_N_depth at hv
  refine lv_aload_n hx hb d_N_depth_0 rfl (lv_at hl 0 rfl) ?_
  refine lv_iload_n hx hb d_N_depth_1 rfl (lv_at hl 1 rfl) ?_
  have hM := met_N_demand (l := l) (dd := dd) (cB := cB) (cI := cI) (cL := cL) (cS := cS) (adK := adK) (adV := adV) (oN := oN) (aT := aT) (oP := oP) (oW := oW) (oT := oT) (aK := aK) (aF := aF) (aP := aP) (aS := aS) (aD := aD) (tl := tl) (pl := pl)  hnt hv
  refine kx_v (st := [.int x1, .ref oN]) (rest := []) (wr := [(aD, .inl (cI, nT, .inl Dp))]) hQ ⟨hx, hb, hml, hown, hts⟩ hM (cwV 1 hts (gv (tg0 at_637) (tg0 at_639) (tg0 ap_49) (tg0 at_1) (tg0 at_640)) rfl rfl rfl (by decide +kernel) (rk (by omega) (by decide))) xfb (xfg hX) hP hK hD hS hA [0, 1] [2] rfl rfl (by decide) (by decide) (by decide) (ci := 0) rfl rfl (q0 := 0) rfl hlocks hne rfl hl.1 rfl (Nat.le_of_ble_eq_true rfl) d_N_depth_2 ⟨Nat.le_refl _, Nat.le_refl _⟩ (Nat.le_refl _) (Nat.le_refl _) (fun u_3 H locs hv hP hD hS => ?_) (fun u H hv hP hD => by exact ⟨(), hv, hP.sub [1, 2, 0] rfl, hD.sub [1, 2, 0] (by decide) rfl⟩)
  have hP : va_P dd cls5 [(aD, .inl (cI, nT, .inl Dp)), (oN, .inr (0, [.ref aT, .int tl, .int pl, .ref oW, .ref oT, .ref oP])), (oT, .inr (2, [.ref aK, .ref aF, .ref aP, .ref aS, .ref aD, .int cn]))] H := hP
  have hD : va_D A [(aD, .inl (cI, nT, .inl Dp)), (oN, .inr (0, [.ref aT, .int tl, .int pl, .ref oW, .ref oT, .ref oP])), (oT, .inr (2, [.ref aK, .ref aF, .ref aP, .ref aS, .ref aD, .int cn]))] := hD
  refine lv_aload_n hx hb d_N_depth_5 rfl (lv_at hl 0 rfl) ?_
  refine va_get (D := dd) (ci := 0) (C := Rc_N) (T := Fc_N) (N := 6) (v := .ref oT) hx hb hts (inn in_N) hown hK hP 1 rfl rfl 4 (by decide) (hts (.fieldLink "NetText" 32 "NetText" "tree" "LNetText$Tree;") (tg at_115)) (fun _ h9 => h9) rfl d_N_depth_6 ?_
  refine va_getN (D := dd) (ci := 2) (C := Rc_T) (T := Fc_T) (N := 6) (v := .ref aD) hx hb hts (inn in_T) hown hK hP 2 rfl rfl 4 (by decide) (va_Nw.use rfl (hX.1 _ nw_6)) (fun _ h9 => h9) rfl d_N_depth_9 ?_
  refine lv_iload_n hx hb d_N_depth_12 rfl (lv_at hl 1 rfl) ?_
  obtain ⟨h_2, hv⟩ := hv
  refine va_iald hx hb hK hP 0 1 rfl rfl h_2 d_N_depth_13 ?_
  exact rx_i hQ hx hb hr hlocks (Dp x1.toNatClampNeg) () hv (hP.sub [1, 2, 0] rfl) hK (hD.sub [1, 2, 0] (by decide) rfl) hS (Nat.le_refl _) (Nat.le_refl _) d_N_depth_14
def vc_N_end  (tl : Int32) (x1 : Int32) (K_ : Int32 → Prop) (E_ : Int32 → Prop) : Prop :=
  ((x1 < 0 → (E_ tl)) ∧ (¬ x1 < 0 → ((x1 ≤ tl → (K_ x1)) ∧ (¬ x1 ≤ tl → (E_ tl)))))
set_option maxHeartbeats 4000000 in
set_option maxRecDepth 100000 in
theorem met_N_end {l : Launch} {dd : va_G} {cB cI cL cS : ClassId} {adK adV : Nat → Nat} {oN : Nat} {aT : Nat} {oP : Nat} {oW : Nat} {oT : Nat}  {tl : Int32} {pl : Int32} {x1 : Int32} {K_ : Int32 → Prop} {E_ : Int32 → Prop}  (hnt : NoTr l) (hv : vc_N_end  tl x1 K_ E_) : CtX l y_N_end w_N_end (rmk 7 (0 + 1) (0 + 6)) dd cls5 [(cB, .byte), (cI, .int), (cL, .long), (cS, .object "java/lang/String")] (XF adK adV) [(oN, .inr (0, [.ref aT, .int tl, .int pl, .ref oW, .ref oT, .ref oP]))] [.ref oN, .int x1] (qX dd cls5 [(cB, .byte), (cI, .int), (cL, .long), (cS, .object "java/lang/String")] (fun u_ : Int32 => [(oN, .inr (0, [.ref aT, .int u_, .int pl, .ref oW, .ref oT, .ref oP]))]) (kRv (fun u_ => K_ u_)) (fun u_ => E_ u_) "java/lang/IllegalArgumentException") 0 0 := by
  refine m_ofX (cc := b_N_end) (nL := 2) (ret := none) (by decide) rfl (Nat.le_of_ble_eq_true rfl) ?_
  intro p e s m below meth c ls A ar Fx_ hA hP hK hD hS hX hne hl
  obtain ⟨hx, hb, hml, hr, hlocks, hown, hts, hinn⟩ := Fx_
  generalize hQ : MQX below ((qX dd cls5 [(cB, .byte), (cI, .int), (cL, .long), (cS, .object "java/lang/String")] (fun u_ : Int32 => [(oN, .inr (0, [.ref aT, .int u_, .int pl, .ref oW, .ref oT, .ref oP]))]) (kRv (fun u_ => K_ u_)) (fun u_ => E_ u_) "java/lang/IllegalArgumentException") A) ar s 0 0 A = QQ
  have hl : lv_has ls 2 [(0, .ref oN), (1, .int x1)] := hl
  unfold vc_N_end at hv
  refine lv_iload_n hx hb d_N_end_0 rfl (lv_at hl 1 rfl) ?_
  refine lv_if_lt (tgt := 12) hx hb d_N_end_1 (by decide) (fun b_1 => ?_) (fun b_1 => ?_)
  · have hv := hv.1 b_1
    exact t_throw hQ hnt hx hb hlocks hown hne (by decide) (by decide) (own_ok hts hX hS oat_2 (i := 19) (tg0 at_613) (tg0 at_13) (by decide) rfl rfl rfl) (hl.1.trans hml.symm) d_N_end_12 d_N_end_15 d_N_end_16 d_N_end_18 d_N_end_21 (Nat.le_of_ble_eq_true rfl) (Nat.le_of_ble_eq_true rfl) (Nat.le_refl _) (Nat.le_refl _) (Nat.le_refl _) (Nat.le_refl _) tl hv (hP.sub [0] rfl) hK (hD.sub [0] (by decide) rfl) hS
  · have hv := hv.2 b_1
    refine lv_iload_n hx hb d_N_end_4 rfl (lv_at hl 1 rfl) ?_
    refine lv_aload_n hx hb d_N_end_5 rfl (lv_at hl 0 rfl) ?_
    refine va_get (D := dd) (ci := 0) (C := Rc_N) (T := Fc_N) (N := 6) (v := .int tl) hx hb hts (inn in_N) hown hK hP 0 rfl rfl 1 (by decide) (hts (.fieldLink "NetText" 13 "NetText" "length" "I") (tg at_112)) (fun _ h9 => h9) rfl d_N_end_6 ?_
    refine lv_icmp_le (tgt := 22) hx hb d_N_end_9 (by decide) (fun b_2 => ?_) (fun b_2 => ?_)
    · have hv := hv.1 b_2
      refine lv_aload_n hx hb d_N_end_22 rfl (lv_at hl 0 rfl) ?_
      refine lv_iload_n hx hb d_N_end_23 rfl (lv_at hl 1 rfl) ?_
      refine va_put (D := dd) (ci := 0) (C := Rc_N) (T := Fc_N) (N := 6) (v := .int x1) (ty := .int) hx hb hts (inn in_N) tyf_N tyf_N_ok nmf_N hown hK hP hD hS 0 rfl rfl 1 (by decide) (hts (.fieldLink "NetText" 13 "NetText" "length" "I") (tg at_112)) (fun _ h9 => h9) rfl (by decide +kernel) rfl rfl (Nat.le_of_ble_eq_true rfl) d_N_end_24 (fun H locs hP hD hS => ?_)
      have hP : va_P dd cls5 [(oN, .inr (0, [.ref aT, .int x1, .int pl, .ref oW, .ref oT, .ref oP]))] H := hP
      have hD : va_D A [(oN, .inr (0, [.ref aT, .int x1, .int pl, .ref oW, .ref oT, .ref oP]))] := hD
      exact rx_v hQ hx hb hr hlocks  x1 hv (hP.sub [0] rfl) hK (hD.sub [0] (by decide) rfl) hS (Nat.le_refl _) (Nat.le_refl _) d_N_end_27
    · have hv := hv.2 b_2
      exact t_throw hQ hnt hx hb hlocks hown hne (by decide) (by decide) (own_ok hts hX hS oat_2 (i := 19) (tg0 at_613) (tg0 at_13) (by decide) rfl rfl rfl) (hl.1.trans hml.symm) d_N_end_12 d_N_end_15 d_N_end_16 d_N_end_18 d_N_end_21 (Nat.le_of_ble_eq_true rfl) (Nat.le_of_ble_eq_true rfl) (Nat.le_refl _) (Nat.le_refl _) (Nat.le_refl _) (Nat.le_refl _) tl hv (hP.sub [0] rfl) hK (hD.sub [0] (by decide) rfl) hS
def vl_N_append_3  (nA : Nat) (tp : FN) (tl : Int32) (x1 : Int32)  (K_ : Int32 → FN → Prop) : Nat → Int32 → Int32 → FN → Prop
  | 0 => fun _ _ _ => False
  | n_ + 1 => fun x2_h3 tl_h3 tp_h3 =>
  ((x2_h3 < 0 → (K_ tl_h3 tp_h3)) ∧ (¬ x2_h3 < 0 → (((nI nA) ≤ tl_h3 → (K_ tl_h3 tp_h3)) ∧ (¬ (nI nA) ≤ tl_h3 → (vp_in tl_h3 nA ∧ (vl_N_append_3 nA tp tl x1  K_ n_ (x2_h3 + (-8)) (tl_h3 + 1) (upd tp_h3 tl_h3.toNatClampNeg (vp_nar .byte ((x1 >>> (x2_h3 &&& 31)).toInt8.toInt32)))))))))
def vc_N_append  (nA : Nat) (tp : FN) (tl : Int32) (x1 : Int32) (K_ : Int32 → FN → Prop) : Prop :=
  (∃ n_, vl_N_append_3 nA tp tl x1 K_ n_ 24 tl tp)
set_option maxHeartbeats 4000000 in
set_option maxRecDepth 100000 in
theorem met_N_append {l : Launch} {dd : va_G} {cB cI cL cS : ClassId}  {oN : Nat} {aT : Nat} {oP : Nat} {oW : Nat} {oT : Nat}  {nA : Nat} {tp : FN} {tl : Int32} {pl : Int32} {x1 : Int32} {K_ : Int32 → FN → Prop}  (hv : vc_N_append  nA tp tl x1 K_) : Ct l y_N_append w_N_append (rmk 0 0 0) dd cls5 [(cB, .byte), (cI, .int), (cL, .long), (cS, .object "java/lang/String")] X0 [(oN, .inr (0, [.ref aT, .int tl, .int pl, .ref oW, .ref oT, .ref oP])), (aT, .inl (cB, nA, .inl tp))] [.ref oN, .int x1] (qv dd cls5 [(cB, .byte), (cI, .int), (cL, .long), (cS, .object "java/lang/String")] (fun u_ : Int32 × FN => [(oN, .inr (0, [.ref aT, .int u_.1, .int pl, .ref oW, .ref oT, .ref oP])), (aT, .inl (cB, nA, .inl u_.2))]) (fun u_ => K_ u_.1 u_.2)) 0 0 := by
  refine m_of (cc := b_N_append) (nL := 3) (ret := none) (by decide) rfl (Nat.le_of_ble_eq_true rfl) ?_
  intro p e s m below meth c ls A ar Fx_ hA hP hK hD hS hX hl
  obtain ⟨hx, hb, hml, hr, hlocks, hown, hts, hinn⟩ := Fx_
  generalize hQ : MQ below ((qv dd cls5 [(cB, .byte), (cI, .int), (cL, .long), (cS, .object "java/lang/String")] (fun u_ : Int32 × FN => [(oN, .inr (0, [.ref aT, .int u_.1, .int pl, .ref oW, .ref oT, .ref oP])), (aT, .inl (cB, nA, .inl u_.2))]) (fun u_ => K_ u_.1 u_.2)) A) ar s 0 0 A = QQ
  have hl : lv_has ls 3 [(0, .ref oN), (1, .int x1)] := hl
  unfold vc_N_append at hv
  refine lv_bipush (v := 24) hx hb d_N_append_0 (by decide) ?_
  refine lv_istore_n (lv' := [(2, .int 24), (0, .ref oN), (1, .int x1)]) hx hb d_N_append_2 rfl hl (by decide) rfl (fun ls hl => ?_)
  obtain ⟨n_3, hv⟩ := hv
  have LP_3 : ∀ (n_ : Nat) (x2_h3 : Int32) (tl_h3 : Int32) (tp_h3 : FN) (H : Heap) (locs : List Loc) (ls : Array Slot), vl_N_append_3 nA tp tl x1 K_ n_ x2_h3 tl_h3 tp_h3 → va_P dd cls5 [(oN, .inr (0, [.ref aT, .int tl_h3, .int pl, .ref oW, .ref oT, .ref oP])), (aT, .inl (cB, nA, .inl tp_h3))] H → va_D A [(oN, .inr (0, [.ref aT, .int tl_h3, .int pl, .ref oW, .ref oT, .ref oP])), (aT, .inl (cB, nA, .inl tp_h3))] → va_S A s.heap H locs → lv_has ls 3 [(2, .int x2_h3), (0, .ref oN), (1, .int x1)] → W p l e (rmk 0 0 0) s m ar below meth c H locs (0) (0) QQ (F0 m 3 ls []) := by
    intro n_
    induction n_ with
    | zero => intro x2_h3 tl_h3 tp_h3 H locs ls hv; exact False.elim hv
    | succ n_ ih =>
      intro x2_h3 tl_h3 tp_h3 H locs ls hv hP hD hS hl
      unfold vl_N_append_3 at hv
      refine lv_iload_n hx hb d_N_append_3 rfl (lv_at hl 0 rfl) ?_
      refine lv_if_lt (tgt := 48) hx hb d_N_append_4 (by decide) (fun b_1 => ?_) (fun b_1 => ?_)
      · have hv := hv.1 b_1
        subst hQ
        exact r_v hx hb hr hlocks  (tl_h3, tp_h3) hv (hP.sub [0, 1] rfl) hK (hD.sub [0, 1] (by decide) rfl) hS (Nat.le_refl _) (Nat.le_refl _) d_N_append_48
      · have hv := hv.2 b_1
        refine lv_aload_n hx hb d_N_append_7 rfl (lv_at hl 1 rfl) ?_
        refine va_get (D := dd) (ci := 0) (C := Rc_N) (T := Fc_N) (N := 6) (v := .int tl_h3) hx hb hts (inn in_N) hown hK hP 0 rfl rfl 1 (by decide) (hts (.fieldLink "NetText" 13 "NetText" "length" "I") (tg at_112)) (fun _ h9 => h9) rfl d_N_append_8 ?_
        refine lv_aload_n hx hb d_N_append_11 rfl (lv_at hl 1 rfl) ?_
        refine va_get (D := dd) (ci := 0) (C := Rc_N) (T := Fc_N) (N := 6) (v := .ref aT) hx hb hts (inn in_N) hown hK hP 0 rfl rfl 0 (by decide) (hts (.fieldLink "NetText" 9 "NetText" "tape" "[B") (tg at_111)) (fun _ h9 => h9) rfl d_N_append_12 ?_
        refine va_alen (v := nI nA) hx hb hK hP 1 0 rfl rfl rfl d_N_append_15 ?_
        refine lv_icmp_ge (tgt := 48) hx hb d_N_append_16 (by decide) (fun b_2 => ?_) (fun b_2 => ?_)
        · have hv := hv.1 b_2
          subst hQ
          exact r_v hx hb hr hlocks  (tl_h3, tp_h3) hv (hP.sub [0, 1] rfl) hK (hD.sub [0, 1] (by decide) rfl) hS (Nat.le_refl _) (Nat.le_refl _) d_N_append_48
        · have hv := hv.2 b_2
          refine lv_aload_n hx hb d_N_append_19 rfl (lv_at hl 1 rfl) ?_
          refine va_get (D := dd) (ci := 0) (C := Rc_N) (T := Fc_N) (N := 6) (v := .ref aT) hx hb hts (inn in_N) hown hK hP 0 rfl rfl 0 (by decide) (hts (.fieldLink "NetText" 9 "NetText" "tape" "[B") (tg at_111)) (fun _ h9 => h9) rfl d_N_append_20 ?_
          refine lv_aload_n hx hb d_N_append_23 rfl (lv_at hl 1 rfl) ?_
          refine va_get (D := dd) (ci := 0) (C := Rc_N) (T := Fc_N) (N := 6) (v := .int tl_h3) hx hb hts (inn in_N) hown hK hP 0 rfl rfl 1 (by decide) (hts (.fieldLink "NetText" 13 "NetText" "length" "I") (tg at_112)) (fun _ h9 => h9) rfl d_N_append_24 ?_
          refine lv_iload_n hx hb d_N_append_27 rfl (lv_at hl 2 rfl) ?_
          refine lv_iload_n hx hb d_N_append_28 rfl (lv_at hl 0 rfl) ?_
          refine lv_ishr hx hb d_N_append_29 ?_
          refine lv_i2b (v := ((x1 >>> (x2_h3 &&& 31)).toInt8.toInt32)) hx hb d_N_append_30 rfl ?_
          obtain ⟨h_3, hv⟩ := hv
          refine va_bast hx hb hK hP hD hS 1 0 rfl rfl h_3 d_N_append_31 (fun H locs hP hD hS => ?_)
          have hP : va_P dd cls5 [(oN, .inr (0, [.ref aT, .int tl_h3, .int pl, .ref oW, .ref oT, .ref oP])), (aT, .inl (cB, nA, .inl (upd tp_h3 tl_h3.toNatClampNeg (vp_nar .byte ((x1 >>> (x2_h3 &&& 31)).toInt8.toInt32)))))] H := hP
          have hD : va_D A [(oN, .inr (0, [.ref aT, .int tl_h3, .int pl, .ref oW, .ref oT, .ref oP])), (aT, .inl (cB, nA, .inl (upd tp_h3 tl_h3.toNatClampNeg (vp_nar .byte ((x1 >>> (x2_h3 &&& 31)).toInt8.toInt32)))))] := hD
          refine lv_aload_n hx hb d_N_append_32 rfl (lv_at hl 1 rfl) ?_
          refine lv_dup hx hb d_N_append_33 rfl ?_
          refine va_get (D := dd) (ci := 0) (C := Rc_N) (T := Fc_N) (N := 6) (v := .int tl_h3) hx hb hts (inn in_N) hown hK hP 0 rfl rfl 1 (by decide) (hts (.fieldLink "NetText" 13 "NetText" "length" "I") (tg at_112)) (fun _ h9 => h9) rfl d_N_append_34 ?_
          refine lv_iconst (v := 1) hx hb d_N_append_37 (by decide) ?_
          refine lv_iadd hx hb d_N_append_38 ?_
          refine va_put (D := dd) (ci := 0) (C := Rc_N) (T := Fc_N) (N := 6) (v := .int (tl_h3 + 1)) (ty := .int) hx hb hts (inn in_N) tyf_N tyf_N_ok nmf_N hown hK hP hD hS 0 rfl rfl 1 (by decide) (hts (.fieldLink "NetText" 13 "NetText" "length" "I") (tg at_112)) (fun _ h9 => h9) rfl (by decide +kernel) rfl rfl (Nat.le_of_ble_eq_true rfl) d_N_append_39 (fun H locs hP hD hS => ?_)
          have hP : va_P dd cls5 [(oN, .inr (0, [.ref aT, .int (tl_h3 + 1), .int pl, .ref oW, .ref oT, .ref oP])), (aT, .inl (cB, nA, .inl (upd tp_h3 tl_h3.toNatClampNeg (vp_nar .byte ((x1 >>> (x2_h3 &&& 31)).toInt8.toInt32)))))] H := hP
          have hD : va_D A [(oN, .inr (0, [.ref aT, .int (tl_h3 + 1), .int pl, .ref oW, .ref oT, .ref oP])), (aT, .inl (cB, nA, .inl (upd tp_h3 tl_h3.toNatClampNeg (vp_nar .byte ((x1 >>> (x2_h3 &&& 31)).toInt8.toInt32)))))] := hD
          refine lv_iinc (v := (x2_h3 + (-8))) (lv' := [(2, .int (x2_h3 + (-8))), (0, .ref oN), (1, .int x1)]) hx hb d_N_append_42 hl (k := 0) rfl rfl (by decide) rfl (fun ls hl => ?_)
          refine lv_goto (tgt := 3) hx hb d_N_append_45 (by decide) ?_
          exact ih (x2_h3 + (-8)) (tl_h3 + 1) (upd tp_h3 tl_h3.toNatClampNeg (vp_nar .byte ((x1 >>> (x2_h3 &&& 31)).toInt8.toInt32))) _ _ _ hv (hP.sub [0, 1] rfl) (hD.sub [0, 1] (by decide) rfl) hS (lv_sub hl [0, 1, 2] rfl)
  exact LP_3 n_3 24 tl tp _ _ _ hv hP hD hS hl
