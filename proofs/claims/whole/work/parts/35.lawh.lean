theorem at_516 : lw_tbl[600]? = some (.classLink "NetTextLaw" 13 "java/lang/IllegalStateException") := by decide +kernel
theorem at_517 : lw_tbl[601]? = some (.methodLink "NetTextLaw" 7 ⟨"NetText", "feed", "(IIIII)I"⟩) := by decide +kernel
theorem at_518 : lw_tbl[602]? = some (.instanceMethod ⟨"NetText", "feed", "(IIIII)I"⟩) := by decide +kernel
theorem at_519 : lw_tbl[603]? = some (.selects "NetText" ⟨"NetText", "feed", "(IIIII)I"⟩ ⟨"NetText", "feed", "(IIIII)I"⟩) := by decide +kernel
theorem at_520 : lw_tbl[604]? = some (.code ⟨"NetText", "feed", "(IIIII)I"⟩ prog_1_method_2_code 6 (some .int)) := by decide +kernel
theorem at_608 : lw_tbl[692]? = some (.classLink "NetTextLaw" 19 "java/lang/IllegalArgumentException") := by decide +kernel
theorem at_609 : lw_tbl[693]? = some (.methodLink "NetTextLaw" 15 ⟨"NetText", "end", "(I)V"⟩) := by decide +kernel
theorem at_610 : lw_tbl[694]? = some (.instanceMethod ⟨"NetText", "end", "(I)V"⟩) := by decide +kernel
theorem at_611 : lw_tbl[695]? = some (.selects "NetText" ⟨"NetText", "end", "(I)V"⟩ ⟨"NetText", "end", "(I)V"⟩) := by decide +kernel
theorem at_612 : lw_tbl[696]? = some (.code ⟨"NetText", "end", "(I)V"⟩ prog_1_method_4_code 2 none) := by decide +kernel
theorem at_632 : lw_tbl[716]? = some (.classLink "NetTextLaw" 25 "java/lang/IndexOutOfBoundsException") := by decide +kernel
theorem at_633 : lw_tbl[717]? = some (.methodLink "NetTextLaw" 21 ⟨"NetText", "kind", "(I)I"⟩) := by decide +kernel
theorem at_634 : lw_tbl[718]? = some (.instanceMethod ⟨"NetText", "kind", "(I)I"⟩) := by decide +kernel
theorem at_635 : lw_tbl[719]? = some (.selects "NetText" ⟨"NetText", "kind", "(I)I"⟩ ⟨"NetText", "kind", "(I)I"⟩) := by decide +kernel
theorem at_636 : lw_tbl[720]? = some (.code ⟨"NetText", "kind", "(I)I"⟩ prog_1_method_7_code 2 (some .int)) := by decide +kernel
theorem at_661 : lw_tbl[745]? = some (.methodLink "NetTextLaw" 27 ⟨"NetText", "begin", "(I)I"⟩) := by decide +kernel
theorem at_662 : lw_tbl[746]? = some (.instanceMethod ⟨"NetText", "begin", "(I)I"⟩) := by decide +kernel
theorem at_663 : lw_tbl[747]? = some (.selects "NetText" ⟨"NetText", "begin", "(I)I"⟩ ⟨"NetText", "begin", "(I)I"⟩) := by decide +kernel
theorem at_664 : lw_tbl[748]? = some (.code ⟨"NetText", "begin", "(I)I"⟩ prog_1_method_8_code 2 (some .int)) := by decide +kernel
theorem at_669 : lw_tbl[753]? = some (.methodLink "NetTextLaw" 30 ⟨"NetText", "parent", "(I)I"⟩) := by decide +kernel
theorem at_670 : lw_tbl[754]? = some (.instanceMethod ⟨"NetText", "parent", "(I)I"⟩) := by decide +kernel
theorem at_671 : lw_tbl[755]? = some (.selects "NetText" ⟨"NetText", "parent", "(I)I"⟩ ⟨"NetText", "parent", "(I)I"⟩) := by decide +kernel
theorem at_672 : lw_tbl[756]? = some (.code ⟨"NetText", "parent", "(I)I"⟩ prog_1_method_9_code 2 (some .int)) := by decide +kernel
theorem at_676 : lw_tbl[760]? = some (.methodLink "NetTextLaw" 33 ⟨"NetText", "sign", "(I)I"⟩) := by decide +kernel
theorem at_677 : lw_tbl[761]? = some (.instanceMethod ⟨"NetText", "sign", "(I)I"⟩) := by decide +kernel
theorem at_678 : lw_tbl[762]? = some (.selects "NetText" ⟨"NetText", "sign", "(I)I"⟩ ⟨"NetText", "sign", "(I)I"⟩) := by decide +kernel
theorem at_679 : lw_tbl[763]? = some (.code ⟨"NetText", "sign", "(I)I"⟩ prog_1_method_10_code 2 (some .int)) := by decide +kernel
theorem at_683 : lw_tbl[767]? = some (.methodLink "NetTextLaw" 36 ⟨"NetText", "nameLength", "(I)I"⟩) := by decide +kernel
theorem at_684 : lw_tbl[768]? = some (.instanceMethod ⟨"NetText", "nameLength", "(I)I"⟩) := by decide +kernel
theorem at_685 : lw_tbl[769]? = some (.selects "NetText" ⟨"NetText", "nameLength", "(I)I"⟩ ⟨"NetText", "nameLength", "(I)I"⟩) := by decide +kernel
theorem at_686 : lw_tbl[770]? = some (.code ⟨"NetText", "nameLength", "(I)I"⟩ prog_1_method_11_code 2 (some .int)) := by decide +kernel
theorem at_698 : lw_tbl[782]? = some (.methodLink "NetTextLaw" 39 ⟨"NetText", "nameAt", "(II)I"⟩) := by decide +kernel
theorem at_699 : lw_tbl[783]? = some (.instanceMethod ⟨"NetText", "nameAt", "(II)I"⟩) := by decide +kernel
theorem at_700 : lw_tbl[784]? = some (.selects "NetText" ⟨"NetText", "nameAt", "(II)I"⟩ ⟨"NetText", "nameAt", "(II)I"⟩) := by decide +kernel
theorem at_701 : lw_tbl[785]? = some (.code ⟨"NetText", "nameAt", "(II)I"⟩ prog_1_method_12_code 4 (some .int)) := by decide +kernel
theorem at_707 : lw_tbl[791]? = some (.methodLink "NetTextLaw" 43 ⟨"NetText", "digits", "(I)J"⟩) := by decide +kernel
theorem at_708 : lw_tbl[792]? = some (.instanceMethod ⟨"NetText", "digits", "(I)J"⟩) := by decide +kernel
theorem at_709 : lw_tbl[793]? = some (.selects "NetText" ⟨"NetText", "digits", "(I)J"⟩ ⟨"NetText", "digits", "(I)J"⟩) := by decide +kernel
theorem at_710 : lw_tbl[794]? = some (.code ⟨"NetText", "digits", "(I)J"⟩ prog_1_method_13_code 2 (some .long)) := by decide +kernel
theorem at_724 : lw_tbl[808]? = some (.methodLink "NetTextLaw" 47 ⟨"NetText", "behind", "(I)I"⟩) := by decide +kernel
theorem at_725 : lw_tbl[809]? = some (.instanceMethod ⟨"NetText", "behind", "(I)I"⟩) := by decide +kernel
theorem at_726 : lw_tbl[810]? = some (.selects "NetText" ⟨"NetText", "behind", "(I)I"⟩ ⟨"NetText", "behind", "(I)I"⟩) := by decide +kernel
theorem at_727 : lw_tbl[811]? = some (.code ⟨"NetText", "behind", "(I)I"⟩ prog_1_method_14_code 2 (some .int)) := by decide +kernel
theorem at_737 : lw_tbl[821]? = some (.methodLink "NetTextLaw" 50 ⟨"NetText", "depth", "(I)I"⟩) := by decide +kernel
theorem at_738 : lw_tbl[822]? = some (.instanceMethod ⟨"NetText", "depth", "(I)I"⟩) := by decide +kernel
theorem at_739 : lw_tbl[823]? = some (.selects "NetText" ⟨"NetText", "depth", "(I)I"⟩ ⟨"NetText", "depth", "(I)I"⟩) := by decide +kernel
theorem at_740 : lw_tbl[824]? = some (.code ⟨"NetText", "depth", "(I)I"⟩ prog_1_method_15_code 2 (some .int)) := by decide +kernel
abbrev b_L_kind : ByteArray := method_5_code
def y_L_kind : MethodName := ⟨"NetTextLaw", "kind", "(LNetText;I[J)I"⟩
abbrev w_L_kind : List Cond := .codeWith y_L_kind b_L_kind 4 (some .int) [(0, 9, 12, 25)] :: lw_gt
theorem d_L_kind_0 : decode b_L_kind 0 = .ok (.aload_n 2, 1) := by decide +kernel
theorem d_L_kind_1 : decode b_L_kind 1 = .ok (.iconst 0, 1) := by decide +kernel
theorem d_L_kind_2 : decode b_L_kind 2 = .ok (.aload_n 0, 1) := by decide +kernel
theorem d_L_kind_3 : decode b_L_kind 3 = .ok (.iload_n 1, 1) := by decide +kernel
theorem d_L_kind_4 : decode b_L_kind 4 = .ok (.invokevirtual 21, 3) := by decide +kernel
theorem d_L_kind_7 : decode b_L_kind 7 = .ok (.i2l, 1) := by decide +kernel
theorem d_L_kind_8 : decode b_L_kind 8 = .ok (.lastore, 1) := by decide +kernel
theorem d_L_kind_9 : decode b_L_kind 9 = .ok (.goto 6, 3) := by decide +kernel
theorem d_L_kind_12 : decode b_L_kind 12 = .ok (.astore_n 3, 1) := by decide +kernel
theorem d_L_kind_13 : decode b_L_kind 13 = .ok (.iconst 1, 1) := by decide +kernel
theorem d_L_kind_14 : decode b_L_kind 14 = .ok (.ireturn, 1) := by decide +kernel
theorem d_L_kind_15 : decode b_L_kind 15 = .ok (.iconst 0, 1) := by decide +kernel
theorem d_L_kind_16 : decode b_L_kind 16 = .ok (.ireturn, 1) := by decide +kernel
abbrev b_L_begin : ByteArray := method_6_code
def y_L_begin : MethodName := ⟨"NetTextLaw", "begin", "(LNetText;I[J)I"⟩
abbrev w_L_begin : List Cond := .codeWith y_L_begin b_L_begin 4 (some .int) [(0, 9, 12, 25)] :: lw_gt
theorem d_L_begin_0 : decode b_L_begin 0 = .ok (.aload_n 2, 1) := by decide +kernel
theorem d_L_begin_1 : decode b_L_begin 1 = .ok (.iconst 0, 1) := by decide +kernel
theorem d_L_begin_2 : decode b_L_begin 2 = .ok (.aload_n 0, 1) := by decide +kernel
theorem d_L_begin_3 : decode b_L_begin 3 = .ok (.iload_n 1, 1) := by decide +kernel
theorem d_L_begin_4 : decode b_L_begin 4 = .ok (.invokevirtual 27, 3) := by decide +kernel
theorem d_L_begin_7 : decode b_L_begin 7 = .ok (.i2l, 1) := by decide +kernel
theorem d_L_begin_8 : decode b_L_begin 8 = .ok (.lastore, 1) := by decide +kernel
theorem d_L_begin_9 : decode b_L_begin 9 = .ok (.goto 6, 3) := by decide +kernel
theorem d_L_begin_12 : decode b_L_begin 12 = .ok (.astore_n 3, 1) := by decide +kernel
theorem d_L_begin_13 : decode b_L_begin 13 = .ok (.iconst 1, 1) := by decide +kernel
theorem d_L_begin_14 : decode b_L_begin 14 = .ok (.ireturn, 1) := by decide +kernel
theorem d_L_begin_15 : decode b_L_begin 15 = .ok (.iconst 0, 1) := by decide +kernel
theorem d_L_begin_16 : decode b_L_begin 16 = .ok (.ireturn, 1) := by decide +kernel
abbrev b_L_parent : ByteArray := method_7_code
def y_L_parent : MethodName := ⟨"NetTextLaw", "parent", "(LNetText;I[J)I"⟩
abbrev w_L_parent : List Cond := .codeWith y_L_parent b_L_parent 4 (some .int) [(0, 9, 12, 25)] :: lw_gt
theorem d_L_parent_0 : decode b_L_parent 0 = .ok (.aload_n 2, 1) := by decide +kernel
theorem d_L_parent_1 : decode b_L_parent 1 = .ok (.iconst 0, 1) := by decide +kernel
theorem d_L_parent_2 : decode b_L_parent 2 = .ok (.aload_n 0, 1) := by decide +kernel
theorem d_L_parent_3 : decode b_L_parent 3 = .ok (.iload_n 1, 1) := by decide +kernel
theorem d_L_parent_4 : decode b_L_parent 4 = .ok (.invokevirtual 30, 3) := by decide +kernel
theorem d_L_parent_7 : decode b_L_parent 7 = .ok (.i2l, 1) := by decide +kernel
theorem d_L_parent_8 : decode b_L_parent 8 = .ok (.lastore, 1) := by decide +kernel
theorem d_L_parent_9 : decode b_L_parent 9 = .ok (.goto 6, 3) := by decide +kernel
theorem d_L_parent_12 : decode b_L_parent 12 = .ok (.astore_n 3, 1) := by decide +kernel
theorem d_L_parent_13 : decode b_L_parent 13 = .ok (.iconst 1, 1) := by decide +kernel
theorem d_L_parent_14 : decode b_L_parent 14 = .ok (.ireturn, 1) := by decide +kernel
theorem d_L_parent_15 : decode b_L_parent 15 = .ok (.iconst 0, 1) := by decide +kernel
theorem d_L_parent_16 : decode b_L_parent 16 = .ok (.ireturn, 1) := by decide +kernel
abbrev b_L_sign : ByteArray := method_8_code
def y_L_sign : MethodName := ⟨"NetTextLaw", "sign", "(LNetText;I[J)I"⟩
abbrev w_L_sign : List Cond := .codeWith y_L_sign b_L_sign 4 (some .int) [(0, 9, 12, 25)] :: lw_gt
theorem d_L_sign_0 : decode b_L_sign 0 = .ok (.aload_n 2, 1) := by decide +kernel
theorem d_L_sign_1 : decode b_L_sign 1 = .ok (.iconst 0, 1) := by decide +kernel
theorem d_L_sign_2 : decode b_L_sign 2 = .ok (.aload_n 0, 1) := by decide +kernel
theorem d_L_sign_3 : decode b_L_sign 3 = .ok (.iload_n 1, 1) := by decide +kernel
theorem d_L_sign_4 : decode b_L_sign 4 = .ok (.invokevirtual 33, 3) := by decide +kernel
theorem d_L_sign_7 : decode b_L_sign 7 = .ok (.i2l, 1) := by decide +kernel
theorem d_L_sign_8 : decode b_L_sign 8 = .ok (.lastore, 1) := by decide +kernel
theorem d_L_sign_9 : decode b_L_sign 9 = .ok (.goto 6, 3) := by decide +kernel
theorem d_L_sign_12 : decode b_L_sign 12 = .ok (.astore_n 3, 1) := by decide +kernel
theorem d_L_sign_13 : decode b_L_sign 13 = .ok (.iconst 1, 1) := by decide +kernel
theorem d_L_sign_14 : decode b_L_sign 14 = .ok (.ireturn, 1) := by decide +kernel
theorem d_L_sign_15 : decode b_L_sign 15 = .ok (.iconst 0, 1) := by decide +kernel
theorem d_L_sign_16 : decode b_L_sign 16 = .ok (.ireturn, 1) := by decide +kernel
abbrev b_L_nameLength : ByteArray := method_9_code
def y_L_nameLength : MethodName := ⟨"NetTextLaw", "nameLength", "(LNetText;I[J)I"⟩
abbrev w_L_nameLength : List Cond := .codeWith y_L_nameLength b_L_nameLength 4 (some .int) [(0, 9, 12, 25)] :: lw_gt
theorem d_L_nameLength_0 : decode b_L_nameLength 0 = .ok (.aload_n 2, 1) := by decide +kernel
theorem d_L_nameLength_1 : decode b_L_nameLength 1 = .ok (.iconst 0, 1) := by decide +kernel
theorem d_L_nameLength_2 : decode b_L_nameLength 2 = .ok (.aload_n 0, 1) := by decide +kernel
theorem d_L_nameLength_3 : decode b_L_nameLength 3 = .ok (.iload_n 1, 1) := by decide +kernel
theorem d_L_nameLength_4 : decode b_L_nameLength 4 = .ok (.invokevirtual 36, 3) := by decide +kernel
theorem d_L_nameLength_7 : decode b_L_nameLength 7 = .ok (.i2l, 1) := by decide +kernel
theorem d_L_nameLength_8 : decode b_L_nameLength 8 = .ok (.lastore, 1) := by decide +kernel
theorem d_L_nameLength_9 : decode b_L_nameLength 9 = .ok (.goto 6, 3) := by decide +kernel
theorem d_L_nameLength_12 : decode b_L_nameLength 12 = .ok (.astore_n 3, 1) := by decide +kernel
theorem d_L_nameLength_13 : decode b_L_nameLength 13 = .ok (.iconst 1, 1) := by decide +kernel
theorem d_L_nameLength_14 : decode b_L_nameLength 14 = .ok (.ireturn, 1) := by decide +kernel
theorem d_L_nameLength_15 : decode b_L_nameLength 15 = .ok (.iconst 0, 1) := by decide +kernel
theorem d_L_nameLength_16 : decode b_L_nameLength 16 = .ok (.ireturn, 1) := by decide +kernel
abbrev b_L_digits : ByteArray := method_11_code
def y_L_digits : MethodName := ⟨"NetTextLaw", "digits", "(LNetText;I[J)I"⟩
abbrev w_L_digits : List Cond := .codeWith y_L_digits b_L_digits 4 (some .int) [(0, 8, 11, 25)] :: lw_gt
theorem d_L_digits_0 : decode b_L_digits 0 = .ok (.aload_n 2, 1) := by decide +kernel
theorem d_L_digits_1 : decode b_L_digits 1 = .ok (.iconst 0, 1) := by decide +kernel
theorem d_L_digits_2 : decode b_L_digits 2 = .ok (.aload_n 0, 1) := by decide +kernel
theorem d_L_digits_3 : decode b_L_digits 3 = .ok (.iload_n 1, 1) := by decide +kernel
theorem d_L_digits_4 : decode b_L_digits 4 = .ok (.invokevirtual 43, 3) := by decide +kernel
theorem d_L_digits_7 : decode b_L_digits 7 = .ok (.lastore, 1) := by decide +kernel
theorem d_L_digits_8 : decode b_L_digits 8 = .ok (.goto 6, 3) := by decide +kernel
theorem d_L_digits_11 : decode b_L_digits 11 = .ok (.astore_n 3, 1) := by decide +kernel
theorem d_L_digits_12 : decode b_L_digits 12 = .ok (.iconst 1, 1) := by decide +kernel
theorem d_L_digits_13 : decode b_L_digits 13 = .ok (.ireturn, 1) := by decide +kernel
theorem d_L_digits_14 : decode b_L_digits 14 = .ok (.iconst 0, 1) := by decide +kernel
theorem d_L_digits_15 : decode b_L_digits 15 = .ok (.ireturn, 1) := by decide +kernel
abbrev b_L_behind : ByteArray := method_12_code
def y_L_behind : MethodName := ⟨"NetTextLaw", "behind", "(LNetText;I[J)I"⟩
abbrev w_L_behind : List Cond := .codeWith y_L_behind b_L_behind 4 (some .int) [(0, 9, 12, 25)] :: lw_gt
theorem d_L_behind_0 : decode b_L_behind 0 = .ok (.aload_n 2, 1) := by decide +kernel
theorem d_L_behind_1 : decode b_L_behind 1 = .ok (.iconst 0, 1) := by decide +kernel
theorem d_L_behind_2 : decode b_L_behind 2 = .ok (.aload_n 0, 1) := by decide +kernel
theorem d_L_behind_3 : decode b_L_behind 3 = .ok (.iload_n 1, 1) := by decide +kernel
theorem d_L_behind_4 : decode b_L_behind 4 = .ok (.invokevirtual 47, 3) := by decide +kernel
theorem d_L_behind_7 : decode b_L_behind 7 = .ok (.i2l, 1) := by decide +kernel
theorem d_L_behind_8 : decode b_L_behind 8 = .ok (.lastore, 1) := by decide +kernel
theorem d_L_behind_9 : decode b_L_behind 9 = .ok (.goto 6, 3) := by decide +kernel
theorem d_L_behind_12 : decode b_L_behind 12 = .ok (.astore_n 3, 1) := by decide +kernel
theorem d_L_behind_13 : decode b_L_behind 13 = .ok (.iconst 1, 1) := by decide +kernel
theorem d_L_behind_14 : decode b_L_behind 14 = .ok (.ireturn, 1) := by decide +kernel
theorem d_L_behind_15 : decode b_L_behind 15 = .ok (.iconst 0, 1) := by decide +kernel
theorem d_L_behind_16 : decode b_L_behind 16 = .ok (.ireturn, 1) := by decide +kernel
abbrev b_L_depth : ByteArray := method_13_code
def y_L_depth : MethodName := ⟨"NetTextLaw", "depth", "(LNetText;I[J)I"⟩
abbrev w_L_depth : List Cond := .codeWith y_L_depth b_L_depth 4 (some .int) [(0, 9, 12, 25)] :: lw_gt
theorem d_L_depth_0 : decode b_L_depth 0 = .ok (.aload_n 2, 1) := by decide +kernel
theorem d_L_depth_1 : decode b_L_depth 1 = .ok (.iconst 0, 1) := by decide +kernel
theorem d_L_depth_2 : decode b_L_depth 2 = .ok (.aload_n 0, 1) := by decide +kernel
theorem d_L_depth_3 : decode b_L_depth 3 = .ok (.iload_n 1, 1) := by decide +kernel
theorem d_L_depth_4 : decode b_L_depth 4 = .ok (.invokevirtual 50, 3) := by decide +kernel
theorem d_L_depth_7 : decode b_L_depth 7 = .ok (.i2l, 1) := by decide +kernel
theorem d_L_depth_8 : decode b_L_depth 8 = .ok (.lastore, 1) := by decide +kernel
theorem d_L_depth_9 : decode b_L_depth 9 = .ok (.goto 6, 3) := by decide +kernel
theorem d_L_depth_12 : decode b_L_depth 12 = .ok (.astore_n 3, 1) := by decide +kernel
theorem d_L_depth_13 : decode b_L_depth 13 = .ok (.iconst 1, 1) := by decide +kernel
theorem d_L_depth_14 : decode b_L_depth 14 = .ok (.ireturn, 1) := by decide +kernel
theorem d_L_depth_15 : decode b_L_depth 15 = .ok (.iconst 0, 1) := by decide +kernel
theorem d_L_depth_16 : decode b_L_depth 16 = .ok (.ireturn, 1) := by decide +kernel
abbrev b_L_nameAt : ByteArray := method_10_code
def y_L_nameAt : MethodName := ⟨"NetTextLaw", "nameAt", "(LNetText;II[J)I"⟩
abbrev w_L_nameAt : List Cond := .codeWith y_L_nameAt b_L_nameAt 5 (some .int) [(0, 10, 13, 25)] :: lw_gt
theorem d_L_nameAt_0 : decode b_L_nameAt 0 = .ok (.aload_n 3, 1) := by decide +kernel
theorem d_L_nameAt_1 : decode b_L_nameAt 1 = .ok (.iconst 0, 1) := by decide +kernel
theorem d_L_nameAt_2 : decode b_L_nameAt 2 = .ok (.aload_n 0, 1) := by decide +kernel
theorem d_L_nameAt_3 : decode b_L_nameAt 3 = .ok (.iload_n 1, 1) := by decide +kernel
theorem d_L_nameAt_4 : decode b_L_nameAt 4 = .ok (.iload_n 2, 1) := by decide +kernel
theorem d_L_nameAt_5 : decode b_L_nameAt 5 = .ok (.invokevirtual 39, 3) := by decide +kernel
theorem d_L_nameAt_8 : decode b_L_nameAt 8 = .ok (.i2l, 1) := by decide +kernel
theorem d_L_nameAt_9 : decode b_L_nameAt 9 = .ok (.lastore, 1) := by decide +kernel
theorem d_L_nameAt_10 : decode b_L_nameAt 10 = .ok (.goto 7, 3) := by decide +kernel
theorem d_L_nameAt_13 : decode b_L_nameAt 13 = .ok (.astore 4, 2) := by decide +kernel
theorem d_L_nameAt_15 : decode b_L_nameAt 15 = .ok (.iconst 1, 1) := by decide +kernel
theorem d_L_nameAt_16 : decode b_L_nameAt 16 = .ok (.ireturn, 1) := by decide +kernel
theorem d_L_nameAt_17 : decode b_L_nameAt 17 = .ok (.iconst 0, 1) := by decide +kernel
theorem d_L_nameAt_18 : decode b_L_nameAt 18 = .ok (.ireturn, 1) := by decide +kernel
abbrev b_L_end : ByteArray := method_4_code
def y_L_end : MethodName := ⟨"NetTextLaw", "end", "(LNetText;I)I"⟩
abbrev w_L_end : List Cond := .codeWith y_L_end b_L_end 3 (some .int) [(0, 5, 8, 19)] :: lw_gt
theorem d_L_end_0 : decode b_L_end 0 = .ok (.aload_n 0, 1) := by decide +kernel
theorem d_L_end_1 : decode b_L_end 1 = .ok (.iload_n 1, 1) := by decide +kernel
theorem d_L_end_2 : decode b_L_end 2 = .ok (.invokevirtual 15, 3) := by decide +kernel
theorem d_L_end_5 : decode b_L_end 5 = .ok (.goto 6, 3) := by decide +kernel
theorem d_L_end_8 : decode b_L_end 8 = .ok (.astore_n 2, 1) := by decide +kernel
theorem d_L_end_9 : decode b_L_end 9 = .ok (.iconst 1, 1) := by decide +kernel
theorem d_L_end_10 : decode b_L_end 10 = .ok (.ireturn, 1) := by decide +kernel
theorem d_L_end_11 : decode b_L_end 11 = .ok (.iconst 0, 1) := by decide +kernel
theorem d_L_end_12 : decode b_L_end 12 = .ok (.ireturn, 1) := by decide +kernel
abbrev b_L_feed : ByteArray := method_3_code
def y_L_feed : MethodName := ⟨"NetTextLaw", "feed", "(LNetText;IIIII[J)I"⟩
abbrev w_L_feed : List Cond := .codeWith y_L_feed b_L_feed 8 (some .int) [(0, 16, 19, 13)] :: lw_gt
theorem d_L_feed_0 : decode b_L_feed 0 = .ok (.aload 6, 2) := by decide +kernel
theorem d_L_feed_2 : decode b_L_feed 2 = .ok (.iconst 0, 1) := by decide +kernel
theorem d_L_feed_3 : decode b_L_feed 3 = .ok (.aload_n 0, 1) := by decide +kernel
theorem d_L_feed_4 : decode b_L_feed 4 = .ok (.iload_n 1, 1) := by decide +kernel
theorem d_L_feed_5 : decode b_L_feed 5 = .ok (.iload_n 2, 1) := by decide +kernel
theorem d_L_feed_6 : decode b_L_feed 6 = .ok (.iload_n 3, 1) := by decide +kernel
theorem d_L_feed_7 : decode b_L_feed 7 = .ok (.iload 4, 2) := by decide +kernel
theorem d_L_feed_9 : decode b_L_feed 9 = .ok (.iload 5, 2) := by decide +kernel
theorem d_L_feed_11 : decode b_L_feed 11 = .ok (.invokevirtual 7, 3) := by decide +kernel
theorem d_L_feed_14 : decode b_L_feed 14 = .ok (.i2l, 1) := by decide +kernel
theorem d_L_feed_15 : decode b_L_feed 15 = .ok (.lastore, 1) := by decide +kernel
theorem d_L_feed_16 : decode b_L_feed 16 = .ok (.goto 7, 3) := by decide +kernel
theorem d_L_feed_19 : decode b_L_feed 19 = .ok (.astore 7, 2) := by decide +kernel
theorem d_L_feed_21 : decode b_L_feed 21 = .ok (.iconst 1, 1) := by decide +kernel
theorem d_L_feed_22 : decode b_L_feed 22 = .ok (.ireturn, 1) := by decide +kernel
theorem d_L_feed_23 : decode b_L_feed 23 = .ok (.iconst 0, 1) := by decide +kernel
theorem d_L_feed_24 : decode b_L_feed 24 = .ok (.ireturn, 1) := by decide +kernel
def vc_L_kind  (mc_ : Nat) (ms_ : Nat) (nT : Nat) (cn : Int32) (K : FN) (ou : FL) (x1 : Int32) (K_ : Int32 → FL → Prop) : Prop :=
  (0 + (0 + 1) ≤ mc_ ∧ 0 + (0 + 6) ≤ ms_ ∧ (vc_N_kind nT cn K x1 (fun r_1 => (vp_in 0 ((1 : Int32).toNatClampNeg) ∧ (K_ 0 (vp_updL ou (0 : Int32).toNatClampNeg (r_1.toInt64))))) (K_ 1 ou)))
set_option maxHeartbeats 4000000 in
set_option maxRecDepth 100000 in
theorem met_L_kind {l : Launch} {dd : va_G} {cB cI cL cS : ClassId} {adK adV : Nat → Nat} {oN : Nat} {aT : Nat} {oP : Nat} {oW : Nat} {oT : Nat} {aK : Nat} {aF : Nat} {aP : Nat} {aS : Nat} {aD : Nat} {aU : Nat}  {mc_ : Nat} {ms_ : Nat} {nT : Nat} {cn : Int32} {K : FN} {ou : FL} {tl : Int32} {pl : Int32} {x1 : Int32} {K_ : Int32 → FL → Prop}  (hnt : NoTr l) (hv : vc_L_kind  mc_ ms_ nT cn K ou x1 K_) : Ct l y_L_kind w_L_kind (rmk 9 mc_ ms_) dd cls5 [(cB, .byte), (cI, .int), (cL, .long), (cS, .object "java/lang/String")] (XF adK adV) [(oN, .inr (0, [.ref aT, .int tl, .int pl, .ref oW, .ref oT, .ref oP])), (oT, .inr (2, [.ref aK, .ref aF, .ref aP, .ref aS, .ref aD, .int cn])), (aK, .inl (cI, nT, .inl K)), (aU, .inl (cL, ((1 : Int32).toNatClampNeg), .inr (.inl ou)))] [.ref oN, .int x1, .ref aU] (qi dd cls5 [(cB, .byte), (cI, .int), (cL, .long), (cS, .object "java/lang/String")] (fun u_ : FL => [(oN, .inr (0, [.ref aT, .int tl, .int pl, .ref oW, .ref oT, .ref oP])), (oT, .inr (2, [.ref aK, .ref aF, .ref aP, .ref aS, .ref aD, .int cn])), (aK, .inl (cI, nT, .inl K)), (aU, .inl (cL, ((1 : Int32).toNatClampNeg), .inr (.inl u_)))]) (fun r_ u_ => K_ r_ u_)) mc_ ms_ := by
  refine m_ofW (cc := b_L_kind) (nL := 4) (ret := (some .int)) (by decide) rfl (Nat.le_of_ble_eq_true rfl) ?_
  intro p e s m below meth c ls A ar Fx_ hrow hA hP hK hD hS hX hl
  obtain ⟨hx, hb, hml, hr, hlocks, hown, hts, hinn⟩ := Fx_
  generalize hQ : MQ below ((qi dd cls5 [(cB, .byte), (cI, .int), (cL, .long), (cS, .object "java/lang/String")] (fun u_ : FL => [(oN, .inr (0, [.ref aT, .int tl, .int pl, .ref oW, .ref oT, .ref oP])), (oT, .inr (2, [.ref aK, .ref aF, .ref aP, .ref aS, .ref aD, .int cn])), (aK, .inl (cI, nT, .inl K)), (aU, .inl (cL, ((1 : Int32).toNatClampNeg), .inr (.inl u_)))]) (fun r_ u_ => K_ r_ u_)) A) ar s mc_ ms_ A = QQ
  have hl : lv_has ls 4 [(0, .ref oN), (1, .int x1), (2, .ref aU)] := hl
  unfold vc_L_kind at hv
  refine lv_aload_n hx hb d_L_kind_0 rfl (lv_at hl 2 rfl) ?_
  refine lv_iconst (v := 0) hx hb d_L_kind_1 (by decide) ?_
  refine lv_aload_n hx hb d_L_kind_2 rfl (lv_at hl 0 rfl) ?_
  refine lv_iload_n hx hb d_L_kind_3 rfl (lv_at hl 1 rfl) ?_
  obtain ⟨h_4, h_5, hv⟩ := hv
  have hM := met_N_kind (l := l) (dd := dd) (cB := cB) (cI := cI) (cL := cL) (cS := cS) (adK := adK) (adV := adV) (oN := oN) (aT := aT) (oP := oP) (oW := oW) (oT := oT) (aK := aK) (aF := aF) (aP := aP) (aS := aS) (aD := aD) (tl := tl) (pl := pl)  hnt hv
  refine kc_i (st := [.int x1, .ref oN, .int 0, .ref aU]) (rest := [.int 0, .ref aU]) (wr := [(aU, .inl (cL, ((1 : Int32).toNatClampNeg), .inr (.inl ou)))]) ⟨hx, hb, hml, hown, hts⟩ hM (cwV 1 hts (gv (tg0 at_633) (tg0 at_634) (tg0 at_635) (tg0 at_1) (tg0 at_636)) rfl rfl rfl (by decide +kernel) (rk (by omega) (by decide))) xfb (xfg hX) hP hK hD hS hA [0, 1, 2] [3] rfl rfl (by decide) (by decide) (by decide) (ci := 0) rfl rfl (q0 := 0) rfl hrow (by decide) (by decide) (hts (.classLink "NetTextLaw" 25 "java/lang/IndexOutOfBoundsException") (tg at_632)) rfl hl.1 rfl (Nat.le_of_ble_eq_true rfl) d_L_kind_4 ⟨h_4, h_5⟩ (fun r_1 u_6 H locs hv hP hD hS => ?_) (fun x_3 u_6e H locs hv hP hD hS => ?_)
  · have hP : va_P dd cls5 [(aU, .inl (cL, ((1 : Int32).toNatClampNeg), .inr (.inl ou))), (oN, .inr (0, [.ref aT, .int tl, .int pl, .ref oW, .ref oT, .ref oP])), (oT, .inr (2, [.ref aK, .ref aF, .ref aP, .ref aS, .ref aD, .int cn])), (aK, .inl (cI, nT, .inl K))] H := hP
    have hD : va_D A [(aU, .inl (cL, ((1 : Int32).toNatClampNeg), .inr (.inl ou))), (oN, .inr (0, [.ref aT, .int tl, .int pl, .ref oW, .ref oT, .ref oP])), (oT, .inr (2, [.ref aK, .ref aF, .ref aP, .ref aS, .ref aD, .int cn])), (aK, .inl (cI, nT, .inl K))] := hD
    refine lv_i2l (v := (r_1.toInt64)) hx hb d_L_kind_7 rfl ?_
    obtain ⟨h_2, hv⟩ := hv
    refine va_last hx hb hK hP hD hS 0 2 rfl rfl h_2 d_L_kind_8 (fun H locs hP hD hS => ?_)
    have hP : va_P dd cls5 [(aU, .inl (cL, ((1 : Int32).toNatClampNeg), .inr (.inl (vp_updL ou (0 : Int32).toNatClampNeg (r_1.toInt64))))), (oN, .inr (0, [.ref aT, .int tl, .int pl, .ref oW, .ref oT, .ref oP])), (oT, .inr (2, [.ref aK, .ref aF, .ref aP, .ref aS, .ref aD, .int cn])), (aK, .inl (cI, nT, .inl K))] H := hP
    have hD : va_D A [(aU, .inl (cL, ((1 : Int32).toNatClampNeg), .inr (.inl (vp_updL ou (0 : Int32).toNatClampNeg (r_1.toInt64))))), (oN, .inr (0, [.ref aT, .int tl, .int pl, .ref oW, .ref oT, .ref oP])), (oT, .inr (2, [.ref aK, .ref aF, .ref aP, .ref aS, .ref aD, .int cn])), (aK, .inl (cI, nT, .inl K))] := hD
    refine lv_goto (tgt := 15) hx hb d_L_kind_9 (by decide) ?_
    refine lv_iconst (v := 0) hx hb d_L_kind_15 (by decide) ?_
    subst hQ
    exact r_i hx hb hr hlocks 0 (vp_updL ou (0 : Int32).toNatClampNeg (r_1.toInt64)) hv (hP.sub [1, 2, 3, 0] rfl) hK (hD.sub [1, 2, 3, 0] (by decide) rfl) hS (by omega) (by omega) d_L_kind_16
  · have hP : va_P dd cls5 [(aU, .inl (cL, ((1 : Int32).toNatClampNeg), .inr (.inl ou))), (oN, .inr (0, [.ref aT, .int tl, .int pl, .ref oW, .ref oT, .ref oP])), (oT, .inr (2, [.ref aK, .ref aF, .ref aP, .ref aS, .ref aD, .int cn])), (aK, .inl (cI, nT, .inl K))] H := hP
    have hD : va_D A [(aU, .inl (cL, ((1 : Int32).toNatClampNeg), .inr (.inl ou))), (oN, .inr (0, [.ref aT, .int tl, .int pl, .ref oW, .ref oT, .ref oP])), (oT, .inr (2, [.ref aK, .ref aF, .ref aP, .ref aS, .ref aD, .int cn])), (aK, .inl (cI, nT, .inl K))] := hD
    refine lv_astore_n (lv' := [(3, .ref x_3), (0, .ref oN), (1, .int x1), (2, .ref aU)]) hx hb d_L_kind_12 rfl hl (by decide) rfl (fun ls hl => ?_)
    refine lv_iconst (v := 1) hx hb d_L_kind_13 (by decide) ?_
    subst hQ
    exact r_i hx hb hr hlocks 1 ou hv (hP.sub [1, 2, 3, 0] rfl) hK (hD.sub [1, 2, 3, 0] (by decide) rfl) hS (by omega) (by omega) d_L_kind_14
def vc_L_begin  (mc_ : Nat) (ms_ : Nat) (nO : Nat) (sb : FN) (wc : Int32) (nT : Nat) (cn : Int32) (F : FN) (ou : FL) (x1 : Int32) (K_ : Int32 → FL → Prop) : Prop :=
  (0 + (0 + 1) ≤ mc_ ∧ 0 + (0 + 6) ≤ ms_ ∧ (vc_N_begin nO sb wc nT cn F x1 (fun r_1 => (vp_in 0 ((1 : Int32).toNatClampNeg) ∧ (K_ 0 (vp_updL ou (0 : Int32).toNatClampNeg (r_1.toInt64))))) (K_ 1 ou)))
set_option maxHeartbeats 4000000 in
set_option maxRecDepth 100000 in
theorem met_L_begin {l : Launch} {dd : va_G} {cB cI cL cS : ClassId} {adK adV : Nat → Nat} {oN : Nat} {aT : Nat} {oP : Nat} {oW : Nat} {aX : Nat} {aO : Nat} {aB : Nat} {aE : Nat} {oT : Nat} {aK : Nat} {aF : Nat} {aP : Nat} {aS : Nat} {aD : Nat} {aU : Nat}  {mc_ : Nat} {ms_ : Nat} {nO : Nat} {sb : FN} {wc : Int32} {nT : Nat} {cn : Int32} {F : FN} {ou : FL} {tl : Int32} {pl : Int32} {ln : Int32} {x1 : Int32} {K_ : Int32 → FL → Prop}  (hnt : NoTr l) (hv : vc_L_begin  mc_ ms_ nO sb wc nT cn F ou x1 K_) : Ct l y_L_begin w_L_begin (rmk 9 mc_ ms_) dd cls5 [(cB, .byte), (cI, .int), (cL, .long), (cS, .object "java/lang/String")] (XF adK adV) [(oN, .inr (0, [.ref aT, .int tl, .int pl, .ref oW, .ref oT, .ref oP])), (oW, .inr (1, [.ref aX, .int ln, .ref aO, .ref aB, .ref aE, .int wc])), (aB, .inl (cI, nO, .inl sb)), (oT, .inr (2, [.ref aK, .ref aF, .ref aP, .ref aS, .ref aD, .int cn])), (aF, .inl (cI, nT, .inl F)), (aU, .inl (cL, ((1 : Int32).toNatClampNeg), .inr (.inl ou)))] [.ref oN, .int x1, .ref aU] (qi dd cls5 [(cB, .byte), (cI, .int), (cL, .long), (cS, .object "java/lang/String")] (fun u_ : FL => [(oN, .inr (0, [.ref aT, .int tl, .int pl, .ref oW, .ref oT, .ref oP])), (oW, .inr (1, [.ref aX, .int ln, .ref aO, .ref aB, .ref aE, .int wc])), (aB, .inl (cI, nO, .inl sb)), (oT, .inr (2, [.ref aK, .ref aF, .ref aP, .ref aS, .ref aD, .int cn])), (aF, .inl (cI, nT, .inl F)), (aU, .inl (cL, ((1 : Int32).toNatClampNeg), .inr (.inl u_)))]) (fun r_ u_ => K_ r_ u_)) mc_ ms_ := by
  refine m_ofW (cc := b_L_begin) (nL := 4) (ret := (some .int)) (by decide) rfl (Nat.le_of_ble_eq_true rfl) ?_
  intro p e s m below meth c ls A ar Fx_ hrow hA hP hK hD hS hX hl
  obtain ⟨hx, hb, hml, hr, hlocks, hown, hts, hinn⟩ := Fx_
  generalize hQ : MQ below ((qi dd cls5 [(cB, .byte), (cI, .int), (cL, .long), (cS, .object "java/lang/String")] (fun u_ : FL => [(oN, .inr (0, [.ref aT, .int tl, .int pl, .ref oW, .ref oT, .ref oP])), (oW, .inr (1, [.ref aX, .int ln, .ref aO, .ref aB, .ref aE, .int wc])), (aB, .inl (cI, nO, .inl sb)), (oT, .inr (2, [.ref aK, .ref aF, .ref aP, .ref aS, .ref aD, .int cn])), (aF, .inl (cI, nT, .inl F)), (aU, .inl (cL, ((1 : Int32).toNatClampNeg), .inr (.inl u_)))]) (fun r_ u_ => K_ r_ u_)) A) ar s mc_ ms_ A = QQ
  have hl : lv_has ls 4 [(0, .ref oN), (1, .int x1), (2, .ref aU)] := hl
  unfold vc_L_begin at hv
  refine lv_aload_n hx hb d_L_begin_0 rfl (lv_at hl 2 rfl) ?_
  refine lv_iconst (v := 0) hx hb d_L_begin_1 (by decide) ?_
  refine lv_aload_n hx hb d_L_begin_2 rfl (lv_at hl 0 rfl) ?_
  refine lv_iload_n hx hb d_L_begin_3 rfl (lv_at hl 1 rfl) ?_
  obtain ⟨h_4, h_5, hv⟩ := hv
  have hM := met_N_begin (l := l) (dd := dd) (cB := cB) (cI := cI) (cL := cL) (cS := cS) (adK := adK) (adV := adV) (oN := oN) (aT := aT) (oP := oP) (oW := oW) (aX := aX) (aO := aO) (aB := aB) (aE := aE) (oT := oT) (aK := aK) (aF := aF) (aP := aP) (aS := aS) (aD := aD) (tl := tl) (pl := pl) (ln := ln)  hnt hv
  refine kc_i (st := [.int x1, .ref oN, .int 0, .ref aU]) (rest := [.int 0, .ref aU]) (wr := [(aU, .inl (cL, ((1 : Int32).toNatClampNeg), .inr (.inl ou)))]) ⟨hx, hb, hml, hown, hts⟩ hM (cwV 1 hts (gv (tg0 at_661) (tg0 at_662) (tg0 at_663) (tg0 at_1) (tg0 at_664)) rfl rfl rfl (by decide +kernel) (rk (by omega) (by decide))) xfb (xfg hX) hP hK hD hS hA [0, 1, 2, 3, 4] [5] rfl rfl (by decide) (by decide) (by decide) (ci := 0) rfl rfl (q0 := 0) rfl hrow (by decide) (by decide) (hts (.classLink "NetTextLaw" 25 "java/lang/IndexOutOfBoundsException") (tg at_632)) rfl hl.1 rfl (Nat.le_of_ble_eq_true rfl) d_L_begin_4 ⟨h_4, h_5⟩ (fun r_1 u_6 H locs hv hP hD hS => ?_) (fun x_3 u_6e H locs hv hP hD hS => ?_)
  · have hP : va_P dd cls5 [(aU, .inl (cL, ((1 : Int32).toNatClampNeg), .inr (.inl ou))), (oN, .inr (0, [.ref aT, .int tl, .int pl, .ref oW, .ref oT, .ref oP])), (oW, .inr (1, [.ref aX, .int ln, .ref aO, .ref aB, .ref aE, .int wc])), (aB, .inl (cI, nO, .inl sb)), (oT, .inr (2, [.ref aK, .ref aF, .ref aP, .ref aS, .ref aD, .int cn])), (aF, .inl (cI, nT, .inl F))] H := hP
    have hD : va_D A [(aU, .inl (cL, ((1 : Int32).toNatClampNeg), .inr (.inl ou))), (oN, .inr (0, [.ref aT, .int tl, .int pl, .ref oW, .ref oT, .ref oP])), (oW, .inr (1, [.ref aX, .int ln, .ref aO, .ref aB, .ref aE, .int wc])), (aB, .inl (cI, nO, .inl sb)), (oT, .inr (2, [.ref aK, .ref aF, .ref aP, .ref aS, .ref aD, .int cn])), (aF, .inl (cI, nT, .inl F))] := hD
    refine lv_i2l (v := (r_1.toInt64)) hx hb d_L_begin_7 rfl ?_
    obtain ⟨h_2, hv⟩ := hv
    refine va_last hx hb hK hP hD hS 0 2 rfl rfl h_2 d_L_begin_8 (fun H locs hP hD hS => ?_)
    have hP : va_P dd cls5 [(aU, .inl (cL, ((1 : Int32).toNatClampNeg), .inr (.inl (vp_updL ou (0 : Int32).toNatClampNeg (r_1.toInt64))))), (oN, .inr (0, [.ref aT, .int tl, .int pl, .ref oW, .ref oT, .ref oP])), (oW, .inr (1, [.ref aX, .int ln, .ref aO, .ref aB, .ref aE, .int wc])), (aB, .inl (cI, nO, .inl sb)), (oT, .inr (2, [.ref aK, .ref aF, .ref aP, .ref aS, .ref aD, .int cn])), (aF, .inl (cI, nT, .inl F))] H := hP
    have hD : va_D A [(aU, .inl (cL, ((1 : Int32).toNatClampNeg), .inr (.inl (vp_updL ou (0 : Int32).toNatClampNeg (r_1.toInt64))))), (oN, .inr (0, [.ref aT, .int tl, .int pl, .ref oW, .ref oT, .ref oP])), (oW, .inr (1, [.ref aX, .int ln, .ref aO, .ref aB, .ref aE, .int wc])), (aB, .inl (cI, nO, .inl sb)), (oT, .inr (2, [.ref aK, .ref aF, .ref aP, .ref aS, .ref aD, .int cn])), (aF, .inl (cI, nT, .inl F))] := hD
    refine lv_goto (tgt := 15) hx hb d_L_begin_9 (by decide) ?_
    refine lv_iconst (v := 0) hx hb d_L_begin_15 (by decide) ?_
    subst hQ
    exact r_i hx hb hr hlocks 0 (vp_updL ou (0 : Int32).toNatClampNeg (r_1.toInt64)) hv (hP.sub [1, 2, 3, 4, 5, 0] rfl) hK (hD.sub [1, 2, 3, 4, 5, 0] (by decide) rfl) hS (by omega) (by omega) d_L_begin_16
  · have hP : va_P dd cls5 [(aU, .inl (cL, ((1 : Int32).toNatClampNeg), .inr (.inl ou))), (oN, .inr (0, [.ref aT, .int tl, .int pl, .ref oW, .ref oT, .ref oP])), (oW, .inr (1, [.ref aX, .int ln, .ref aO, .ref aB, .ref aE, .int wc])), (aB, .inl (cI, nO, .inl sb)), (oT, .inr (2, [.ref aK, .ref aF, .ref aP, .ref aS, .ref aD, .int cn])), (aF, .inl (cI, nT, .inl F))] H := hP
    have hD : va_D A [(aU, .inl (cL, ((1 : Int32).toNatClampNeg), .inr (.inl ou))), (oN, .inr (0, [.ref aT, .int tl, .int pl, .ref oW, .ref oT, .ref oP])), (oW, .inr (1, [.ref aX, .int ln, .ref aO, .ref aB, .ref aE, .int wc])), (aB, .inl (cI, nO, .inl sb)), (oT, .inr (2, [.ref aK, .ref aF, .ref aP, .ref aS, .ref aD, .int cn])), (aF, .inl (cI, nT, .inl F))] := hD
    refine lv_astore_n (lv' := [(3, .ref x_3), (0, .ref oN), (1, .int x1), (2, .ref aU)]) hx hb d_L_begin_12 rfl hl (by decide) rfl (fun ls hl => ?_)
    refine lv_iconst (v := 1) hx hb d_L_begin_13 (by decide) ?_
    subst hQ
    exact r_i hx hb hr hlocks 1 ou hv (hP.sub [1, 2, 3, 4, 5, 0] rfl) hK (hD.sub [1, 2, 3, 4, 5, 0] (by decide) rfl) hS (by omega) (by omega) d_L_begin_14
def vc_L_parent  (mc_ : Nat) (ms_ : Nat) (nT : Nat) (cn : Int32) (Pa : FN) (ou : FL) (x1 : Int32) (K_ : Int32 → FL → Prop) : Prop :=
  (0 + (0 + 1) ≤ mc_ ∧ 0 + (0 + 6) ≤ ms_ ∧ (vc_N_parent nT cn Pa x1 (fun r_1 => (vp_in 0 ((1 : Int32).toNatClampNeg) ∧ (K_ 0 (vp_updL ou (0 : Int32).toNatClampNeg (r_1.toInt64))))) (K_ 1 ou)))
set_option maxHeartbeats 4000000 in
set_option maxRecDepth 100000 in
theorem met_L_parent {l : Launch} {dd : va_G} {cB cI cL cS : ClassId} {adK adV : Nat → Nat} {oN : Nat} {aT : Nat} {oP : Nat} {oW : Nat} {oT : Nat} {aK : Nat} {aF : Nat} {aP : Nat} {aS : Nat} {aD : Nat} {aU : Nat}  {mc_ : Nat} {ms_ : Nat} {nT : Nat} {cn : Int32} {Pa : FN} {ou : FL} {tl : Int32} {pl : Int32} {x1 : Int32} {K_ : Int32 → FL → Prop}  (hnt : NoTr l) (hv : vc_L_parent  mc_ ms_ nT cn Pa ou x1 K_) : Ct l y_L_parent w_L_parent (rmk 9 mc_ ms_) dd cls5 [(cB, .byte), (cI, .int), (cL, .long), (cS, .object "java/lang/String")] (XF adK adV) [(oN, .inr (0, [.ref aT, .int tl, .int pl, .ref oW, .ref oT, .ref oP])), (oT, .inr (2, [.ref aK, .ref aF, .ref aP, .ref aS, .ref aD, .int cn])), (aP, .inl (cI, nT, .inl Pa)), (aU, .inl (cL, ((1 : Int32).toNatClampNeg), .inr (.inl ou)))] [.ref oN, .int x1, .ref aU] (qi dd cls5 [(cB, .byte), (cI, .int), (cL, .long), (cS, .object "java/lang/String")] (fun u_ : FL => [(oN, .inr (0, [.ref aT, .int tl, .int pl, .ref oW, .ref oT, .ref oP])), (oT, .inr (2, [.ref aK, .ref aF, .ref aP, .ref aS, .ref aD, .int cn])), (aP, .inl (cI, nT, .inl Pa)), (aU, .inl (cL, ((1 : Int32).toNatClampNeg), .inr (.inl u_)))]) (fun r_ u_ => K_ r_ u_)) mc_ ms_ := by
  refine m_ofW (cc := b_L_parent) (nL := 4) (ret := (some .int)) (by decide) rfl (Nat.le_of_ble_eq_true rfl) ?_
  intro p e s m below meth c ls A ar Fx_ hrow hA hP hK hD hS hX hl
  obtain ⟨hx, hb, hml, hr, hlocks, hown, hts, hinn⟩ := Fx_
  generalize hQ : MQ below ((qi dd cls5 [(cB, .byte), (cI, .int), (cL, .long), (cS, .object "java/lang/String")] (fun u_ : FL => [(oN, .inr (0, [.ref aT, .int tl, .int pl, .ref oW, .ref oT, .ref oP])), (oT, .inr (2, [.ref aK, .ref aF, .ref aP, .ref aS, .ref aD, .int cn])), (aP, .inl (cI, nT, .inl Pa)), (aU, .inl (cL, ((1 : Int32).toNatClampNeg), .inr (.inl u_)))]) (fun r_ u_ => K_ r_ u_)) A) ar s mc_ ms_ A = QQ
  have hl : lv_has ls 4 [(0, .ref oN), (1, .int x1), (2, .ref aU)] := hl
  unfold vc_L_parent at hv
  refine lv_aload_n hx hb d_L_parent_0 rfl (lv_at hl 2 rfl) ?_
  refine lv_iconst (v := 0) hx hb d_L_parent_1 (by decide) ?_
  refine lv_aload_n hx hb d_L_parent_2 rfl (lv_at hl 0 rfl) ?_
  refine lv_iload_n hx hb d_L_parent_3 rfl (lv_at hl 1 rfl) ?_
  obtain ⟨h_4, h_5, hv⟩ := hv
  have hM := met_N_parent (l := l) (dd := dd) (cB := cB) (cI := cI) (cL := cL) (cS := cS) (adK := adK) (adV := adV) (oN := oN) (aT := aT) (oP := oP) (oW := oW) (oT := oT) (aK := aK) (aF := aF) (aP := aP) (aS := aS) (aD := aD) (tl := tl) (pl := pl)  hnt hv
  refine kc_i (st := [.int x1, .ref oN, .int 0, .ref aU]) (rest := [.int 0, .ref aU]) (wr := [(aU, .inl (cL, ((1 : Int32).toNatClampNeg), .inr (.inl ou)))]) ⟨hx, hb, hml, hown, hts⟩ hM (cwV 1 hts (gv (tg0 at_669) (tg0 at_670) (tg0 at_671) (tg0 at_1) (tg0 at_672)) rfl rfl rfl (by decide +kernel) (rk (by omega) (by decide))) xfb (xfg hX) hP hK hD hS hA [0, 1, 2] [3] rfl rfl (by decide) (by decide) (by decide) (ci := 0) rfl rfl (q0 := 0) rfl hrow (by decide) (by decide) (hts (.classLink "NetTextLaw" 25 "java/lang/IndexOutOfBoundsException") (tg at_632)) rfl hl.1 rfl (Nat.le_of_ble_eq_true rfl) d_L_parent_4 ⟨h_4, h_5⟩ (fun r_1 u_6 H locs hv hP hD hS => ?_) (fun x_3 u_6e H locs hv hP hD hS => ?_)
  · have hP : va_P dd cls5 [(aU, .inl (cL, ((1 : Int32).toNatClampNeg), .inr (.inl ou))), (oN, .inr (0, [.ref aT, .int tl, .int pl, .ref oW, .ref oT, .ref oP])), (oT, .inr (2, [.ref aK, .ref aF, .ref aP, .ref aS, .ref aD, .int cn])), (aP, .inl (cI, nT, .inl Pa))] H := hP
    have hD : va_D A [(aU, .inl (cL, ((1 : Int32).toNatClampNeg), .inr (.inl ou))), (oN, .inr (0, [.ref aT, .int tl, .int pl, .ref oW, .ref oT, .ref oP])), (oT, .inr (2, [.ref aK, .ref aF, .ref aP, .ref aS, .ref aD, .int cn])), (aP, .inl (cI, nT, .inl Pa))] := hD
    refine lv_i2l (v := (r_1.toInt64)) hx hb d_L_parent_7 rfl ?_
    obtain ⟨h_2, hv⟩ := hv
    refine va_last hx hb hK hP hD hS 0 2 rfl rfl h_2 d_L_parent_8 (fun H locs hP hD hS => ?_)
    have hP : va_P dd cls5 [(aU, .inl (cL, ((1 : Int32).toNatClampNeg), .inr (.inl (vp_updL ou (0 : Int32).toNatClampNeg (r_1.toInt64))))), (oN, .inr (0, [.ref aT, .int tl, .int pl, .ref oW, .ref oT, .ref oP])), (oT, .inr (2, [.ref aK, .ref aF, .ref aP, .ref aS, .ref aD, .int cn])), (aP, .inl (cI, nT, .inl Pa))] H := hP
    have hD : va_D A [(aU, .inl (cL, ((1 : Int32).toNatClampNeg), .inr (.inl (vp_updL ou (0 : Int32).toNatClampNeg (r_1.toInt64))))), (oN, .inr (0, [.ref aT, .int tl, .int pl, .ref oW, .ref oT, .ref oP])), (oT, .inr (2, [.ref aK, .ref aF, .ref aP, .ref aS, .ref aD, .int cn])), (aP, .inl (cI, nT, .inl Pa))] := hD
    refine lv_goto (tgt := 15) hx hb d_L_parent_9 (by decide) ?_
    refine lv_iconst (v := 0) hx hb d_L_parent_15 (by decide) ?_
    subst hQ
    exact r_i hx hb hr hlocks 0 (vp_updL ou (0 : Int32).toNatClampNeg (r_1.toInt64)) hv (hP.sub [1, 2, 3, 0] rfl) hK (hD.sub [1, 2, 3, 0] (by decide) rfl) hS (by omega) (by omega) d_L_parent_16
  · have hP : va_P dd cls5 [(aU, .inl (cL, ((1 : Int32).toNatClampNeg), .inr (.inl ou))), (oN, .inr (0, [.ref aT, .int tl, .int pl, .ref oW, .ref oT, .ref oP])), (oT, .inr (2, [.ref aK, .ref aF, .ref aP, .ref aS, .ref aD, .int cn])), (aP, .inl (cI, nT, .inl Pa))] H := hP
    have hD : va_D A [(aU, .inl (cL, ((1 : Int32).toNatClampNeg), .inr (.inl ou))), (oN, .inr (0, [.ref aT, .int tl, .int pl, .ref oW, .ref oT, .ref oP])), (oT, .inr (2, [.ref aK, .ref aF, .ref aP, .ref aS, .ref aD, .int cn])), (aP, .inl (cI, nT, .inl Pa))] := hD
    refine lv_astore_n (lv' := [(3, .ref x_3), (0, .ref oN), (1, .int x1), (2, .ref aU)]) hx hb d_L_parent_12 rfl hl (by decide) rfl (fun ls hl => ?_)
    refine lv_iconst (v := 1) hx hb d_L_parent_13 (by decide) ?_
    subst hQ
    exact r_i hx hb hr hlocks 1 ou hv (hP.sub [1, 2, 3, 0] rfl) hK (hD.sub [1, 2, 3, 0] (by decide) rfl) hS (by omega) (by omega) d_L_parent_14
def vc_L_sign  (mc_ : Nat) (ms_ : Nat) (nT : Nat) (cn : Int32) (Sg : FN) (ou : FL) (x1 : Int32) (K_ : Int32 → FL → Prop) : Prop :=
  (0 + (0 + 1) ≤ mc_ ∧ 0 + (0 + 6) ≤ ms_ ∧ (vc_N_sign nT cn Sg x1 (fun r_1 => (vp_in 0 ((1 : Int32).toNatClampNeg) ∧ (K_ 0 (vp_updL ou (0 : Int32).toNatClampNeg (r_1.toInt64))))) (K_ 1 ou)))
set_option maxHeartbeats 4000000 in
set_option maxRecDepth 100000 in
theorem met_L_sign {l : Launch} {dd : va_G} {cB cI cL cS : ClassId} {adK adV : Nat → Nat} {oN : Nat} {aT : Nat} {oP : Nat} {oW : Nat} {oT : Nat} {aK : Nat} {aF : Nat} {aP : Nat} {aS : Nat} {aD : Nat} {aU : Nat}  {mc_ : Nat} {ms_ : Nat} {nT : Nat} {cn : Int32} {Sg : FN} {ou : FL} {tl : Int32} {pl : Int32} {x1 : Int32} {K_ : Int32 → FL → Prop}  (hnt : NoTr l) (hv : vc_L_sign  mc_ ms_ nT cn Sg ou x1 K_) : Ct l y_L_sign w_L_sign (rmk 9 mc_ ms_) dd cls5 [(cB, .byte), (cI, .int), (cL, .long), (cS, .object "java/lang/String")] (XF adK adV) [(oN, .inr (0, [.ref aT, .int tl, .int pl, .ref oW, .ref oT, .ref oP])), (oT, .inr (2, [.ref aK, .ref aF, .ref aP, .ref aS, .ref aD, .int cn])), (aS, .inl (cI, nT, .inl Sg)), (aU, .inl (cL, ((1 : Int32).toNatClampNeg), .inr (.inl ou)))] [.ref oN, .int x1, .ref aU] (qi dd cls5 [(cB, .byte), (cI, .int), (cL, .long), (cS, .object "java/lang/String")] (fun u_ : FL => [(oN, .inr (0, [.ref aT, .int tl, .int pl, .ref oW, .ref oT, .ref oP])), (oT, .inr (2, [.ref aK, .ref aF, .ref aP, .ref aS, .ref aD, .int cn])), (aS, .inl (cI, nT, .inl Sg)), (aU, .inl (cL, ((1 : Int32).toNatClampNeg), .inr (.inl u_)))]) (fun r_ u_ => K_ r_ u_)) mc_ ms_ := by
  refine m_ofW (cc := b_L_sign) (nL := 4) (ret := (some .int)) (by decide) rfl (Nat.le_of_ble_eq_true rfl) ?_
  intro p e s m below meth c ls A ar Fx_ hrow hA hP hK hD hS hX hl
  obtain ⟨hx, hb, hml, hr, hlocks, hown, hts, hinn⟩ := Fx_
  generalize hQ : MQ below ((qi dd cls5 [(cB, .byte), (cI, .int), (cL, .long), (cS, .object "java/lang/String")] (fun u_ : FL => [(oN, .inr (0, [.ref aT, .int tl, .int pl, .ref oW, .ref oT, .ref oP])), (oT, .inr (2, [.ref aK, .ref aF, .ref aP, .ref aS, .ref aD, .int cn])), (aS, .inl (cI, nT, .inl Sg)), (aU, .inl (cL, ((1 : Int32).toNatClampNeg), .inr (.inl u_)))]) (fun r_ u_ => K_ r_ u_)) A) ar s mc_ ms_ A = QQ
  have hl : lv_has ls 4 [(0, .ref oN), (1, .int x1), (2, .ref aU)] := hl
  unfold vc_L_sign at hv
  refine lv_aload_n hx hb d_L_sign_0 rfl (lv_at hl 2 rfl) ?_
  refine lv_iconst (v := 0) hx hb d_L_sign_1 (by decide) ?_
  refine lv_aload_n hx hb d_L_sign_2 rfl (lv_at hl 0 rfl) ?_
  refine lv_iload_n hx hb d_L_sign_3 rfl (lv_at hl 1 rfl) ?_
  obtain ⟨h_4, h_5, hv⟩ := hv
  have hM := met_N_sign (l := l) (dd := dd) (cB := cB) (cI := cI) (cL := cL) (cS := cS) (adK := adK) (adV := adV) (oN := oN) (aT := aT) (oP := oP) (oW := oW) (oT := oT) (aK := aK) (aF := aF) (aP := aP) (aS := aS) (aD := aD) (tl := tl) (pl := pl)  hnt hv
  refine kc_i (st := [.int x1, .ref oN, .int 0, .ref aU]) (rest := [.int 0, .ref aU]) (wr := [(aU, .inl (cL, ((1 : Int32).toNatClampNeg), .inr (.inl ou)))]) ⟨hx, hb, hml, hown, hts⟩ hM (cwV 1 hts (gv (tg0 at_676) (tg0 at_677) (tg0 at_678) (tg0 at_1) (tg0 at_679)) rfl rfl rfl (by decide +kernel) (rk (by omega) (by decide))) xfb (xfg hX) hP hK hD hS hA [0, 1, 2] [3] rfl rfl (by decide) (by decide) (by decide) (ci := 0) rfl rfl (q0 := 0) rfl hrow (by decide) (by decide) (hts (.classLink "NetTextLaw" 25 "java/lang/IndexOutOfBoundsException") (tg at_632)) rfl hl.1 rfl (Nat.le_of_ble_eq_true rfl) d_L_sign_4 ⟨h_4, h_5⟩ (fun r_1 u_6 H locs hv hP hD hS => ?_) (fun x_3 u_6e H locs hv hP hD hS => ?_)
  · have hP : va_P dd cls5 [(aU, .inl (cL, ((1 : Int32).toNatClampNeg), .inr (.inl ou))), (oN, .inr (0, [.ref aT, .int tl, .int pl, .ref oW, .ref oT, .ref oP])), (oT, .inr (2, [.ref aK, .ref aF, .ref aP, .ref aS, .ref aD, .int cn])), (aS, .inl (cI, nT, .inl Sg))] H := hP
    have hD : va_D A [(aU, .inl (cL, ((1 : Int32).toNatClampNeg), .inr (.inl ou))), (oN, .inr (0, [.ref aT, .int tl, .int pl, .ref oW, .ref oT, .ref oP])), (oT, .inr (2, [.ref aK, .ref aF, .ref aP, .ref aS, .ref aD, .int cn])), (aS, .inl (cI, nT, .inl Sg))] := hD
    refine lv_i2l (v := (r_1.toInt64)) hx hb d_L_sign_7 rfl ?_
    obtain ⟨h_2, hv⟩ := hv
    refine va_last hx hb hK hP hD hS 0 2 rfl rfl h_2 d_L_sign_8 (fun H locs hP hD hS => ?_)
    have hP : va_P dd cls5 [(aU, .inl (cL, ((1 : Int32).toNatClampNeg), .inr (.inl (vp_updL ou (0 : Int32).toNatClampNeg (r_1.toInt64))))), (oN, .inr (0, [.ref aT, .int tl, .int pl, .ref oW, .ref oT, .ref oP])), (oT, .inr (2, [.ref aK, .ref aF, .ref aP, .ref aS, .ref aD, .int cn])), (aS, .inl (cI, nT, .inl Sg))] H := hP
    have hD : va_D A [(aU, .inl (cL, ((1 : Int32).toNatClampNeg), .inr (.inl (vp_updL ou (0 : Int32).toNatClampNeg (r_1.toInt64))))), (oN, .inr (0, [.ref aT, .int tl, .int pl, .ref oW, .ref oT, .ref oP])), (oT, .inr (2, [.ref aK, .ref aF, .ref aP, .ref aS, .ref aD, .int cn])), (aS, .inl (cI, nT, .inl Sg))] := hD
    refine lv_goto (tgt := 15) hx hb d_L_sign_9 (by decide) ?_
    refine lv_iconst (v := 0) hx hb d_L_sign_15 (by decide) ?_
    subst hQ
    exact r_i hx hb hr hlocks 0 (vp_updL ou (0 : Int32).toNatClampNeg (r_1.toInt64)) hv (hP.sub [1, 2, 3, 0] rfl) hK (hD.sub [1, 2, 3, 0] (by decide) rfl) hS (by omega) (by omega) d_L_sign_16
  · have hP : va_P dd cls5 [(aU, .inl (cL, ((1 : Int32).toNatClampNeg), .inr (.inl ou))), (oN, .inr (0, [.ref aT, .int tl, .int pl, .ref oW, .ref oT, .ref oP])), (oT, .inr (2, [.ref aK, .ref aF, .ref aP, .ref aS, .ref aD, .int cn])), (aS, .inl (cI, nT, .inl Sg))] H := hP
    have hD : va_D A [(aU, .inl (cL, ((1 : Int32).toNatClampNeg), .inr (.inl ou))), (oN, .inr (0, [.ref aT, .int tl, .int pl, .ref oW, .ref oT, .ref oP])), (oT, .inr (2, [.ref aK, .ref aF, .ref aP, .ref aS, .ref aD, .int cn])), (aS, .inl (cI, nT, .inl Sg))] := hD
    refine lv_astore_n (lv' := [(3, .ref x_3), (0, .ref oN), (1, .int x1), (2, .ref aU)]) hx hb d_L_sign_12 rfl hl (by decide) rfl (fun ls hl => ?_)
    refine lv_iconst (v := 1) hx hb d_L_sign_13 (by decide) ?_
    subst hQ
    exact r_i hx hb hr hlocks 1 ou hv (hP.sub [1, 2, 3, 0] rfl) hK (hD.sub [1, 2, 3, 0] (by decide) rfl) hS (by omega) (by omega) d_L_sign_14
def vc_L_nameLength  (mc_ : Nat) (ms_ : Nat) (nO : Nat) (sb : FN) (se : FN) (wc : Int32) (nT : Nat) (cn : Int32) (K : FN) (F : FN) (ou : FL) (x1 : Int32) (K_ : Int32 → FL → Prop) : Prop :=
  (0 + (0 + 1) ≤ mc_ ∧ 0 + (0 + 6) ≤ ms_ ∧ (vc_N_nameLength nO sb se wc nT cn K F x1 (fun r_1 => (vp_in 0 ((1 : Int32).toNatClampNeg) ∧ (K_ 0 (vp_updL ou (0 : Int32).toNatClampNeg (r_1.toInt64))))) (K_ 1 ou)))
set_option maxHeartbeats 4000000 in
set_option maxRecDepth 100000 in
theorem met_L_nameLength {l : Launch} {dd : va_G} {cB cI cL cS : ClassId} {adK adV : Nat → Nat} {oN : Nat} {aT : Nat} {oP : Nat} {oW : Nat} {aX : Nat} {aO : Nat} {aB : Nat} {aE : Nat} {oT : Nat} {aK : Nat} {aF : Nat} {aP : Nat} {aS : Nat} {aD : Nat} {aU : Nat}  {mc_ : Nat} {ms_ : Nat} {nO : Nat} {sb : FN} {se : FN} {wc : Int32} {nT : Nat} {cn : Int32} {K : FN} {F : FN} {ou : FL} {tl : Int32} {pl : Int32} {ln : Int32} {x1 : Int32} {K_ : Int32 → FL → Prop}  (hnt : NoTr l) (hv : vc_L_nameLength  mc_ ms_ nO sb se wc nT cn K F ou x1 K_) : Ct l y_L_nameLength w_L_nameLength (rmk 9 mc_ ms_) dd cls5 [(cB, .byte), (cI, .int), (cL, .long), (cS, .object "java/lang/String")] (XF adK adV) [(oN, .inr (0, [.ref aT, .int tl, .int pl, .ref oW, .ref oT, .ref oP])), (oW, .inr (1, [.ref aX, .int ln, .ref aO, .ref aB, .ref aE, .int wc])), (aB, .inl (cI, nO, .inl sb)), (aE, .inl (cI, nO, .inl se)), (oT, .inr (2, [.ref aK, .ref aF, .ref aP, .ref aS, .ref aD, .int cn])), (aK, .inl (cI, nT, .inl K)), (aF, .inl (cI, nT, .inl F)), (aU, .inl (cL, ((1 : Int32).toNatClampNeg), .inr (.inl ou)))] [.ref oN, .int x1, .ref aU] (qi dd cls5 [(cB, .byte), (cI, .int), (cL, .long), (cS, .object "java/lang/String")] (fun u_ : FL => [(oN, .inr (0, [.ref aT, .int tl, .int pl, .ref oW, .ref oT, .ref oP])), (oW, .inr (1, [.ref aX, .int ln, .ref aO, .ref aB, .ref aE, .int wc])), (aB, .inl (cI, nO, .inl sb)), (aE, .inl (cI, nO, .inl se)), (oT, .inr (2, [.ref aK, .ref aF, .ref aP, .ref aS, .ref aD, .int cn])), (aK, .inl (cI, nT, .inl K)), (aF, .inl (cI, nT, .inl F)), (aU, .inl (cL, ((1 : Int32).toNatClampNeg), .inr (.inl u_)))]) (fun r_ u_ => K_ r_ u_)) mc_ ms_ := by
  refine m_ofW (cc := b_L_nameLength) (nL := 4) (ret := (some .int)) (by decide) rfl (Nat.le_of_ble_eq_true rfl) ?_
  intro p e s m below meth c ls A ar Fx_ hrow hA hP hK hD hS hX hl
  obtain ⟨hx, hb, hml, hr, hlocks, hown, hts, hinn⟩ := Fx_
  generalize hQ : MQ below ((qi dd cls5 [(cB, .byte), (cI, .int), (cL, .long), (cS, .object "java/lang/String")] (fun u_ : FL => [(oN, .inr (0, [.ref aT, .int tl, .int pl, .ref oW, .ref oT, .ref oP])), (oW, .inr (1, [.ref aX, .int ln, .ref aO, .ref aB, .ref aE, .int wc])), (aB, .inl (cI, nO, .inl sb)), (aE, .inl (cI, nO, .inl se)), (oT, .inr (2, [.ref aK, .ref aF, .ref aP, .ref aS, .ref aD, .int cn])), (aK, .inl (cI, nT, .inl K)), (aF, .inl (cI, nT, .inl F)), (aU, .inl (cL, ((1 : Int32).toNatClampNeg), .inr (.inl u_)))]) (fun r_ u_ => K_ r_ u_)) A) ar s mc_ ms_ A = QQ
  have hl : lv_has ls 4 [(0, .ref oN), (1, .int x1), (2, .ref aU)] := hl
  unfold vc_L_nameLength at hv
  refine lv_aload_n hx hb d_L_nameLength_0 rfl (lv_at hl 2 rfl) ?_
  refine lv_iconst (v := 0) hx hb d_L_nameLength_1 (by decide) ?_
  refine lv_aload_n hx hb d_L_nameLength_2 rfl (lv_at hl 0 rfl) ?_
  refine lv_iload_n hx hb d_L_nameLength_3 rfl (lv_at hl 1 rfl) ?_
  obtain ⟨h_4, h_5, hv⟩ := hv
  have hM := met_N_nameLength (l := l) (dd := dd) (cB := cB) (cI := cI) (cL := cL) (cS := cS) (adK := adK) (adV := adV) (oN := oN) (aT := aT) (oP := oP) (oW := oW) (aX := aX) (aO := aO) (aB := aB) (aE := aE) (oT := oT) (aK := aK) (aF := aF) (aP := aP) (aS := aS) (aD := aD) (tl := tl) (pl := pl) (ln := ln)  hnt hv
  refine kc_i (st := [.int x1, .ref oN, .int 0, .ref aU]) (rest := [.int 0, .ref aU]) (wr := [(aU, .inl (cL, ((1 : Int32).toNatClampNeg), .inr (.inl ou)))]) ⟨hx, hb, hml, hown, hts⟩ hM (cwV 1 hts (gv (tg0 at_683) (tg0 at_684) (tg0 at_685) (tg0 at_1) (tg0 at_686)) rfl rfl rfl (by decide +kernel) (rk (by omega) (by decide))) xfb (xfg hX) hP hK hD hS hA [0, 1, 2, 3, 4, 5, 6] [7] rfl rfl (by decide) (by decide) (by decide) (ci := 0) rfl rfl (q0 := 0) rfl hrow (by decide) (by decide) (hts (.classLink "NetTextLaw" 25 "java/lang/IndexOutOfBoundsException") (tg at_632)) rfl hl.1 rfl (Nat.le_of_ble_eq_true rfl) d_L_nameLength_4 ⟨h_4, h_5⟩ (fun r_1 u_6 H locs hv hP hD hS => ?_) (fun x_3 u_6e H locs hv hP hD hS => ?_)
  · have hP : va_P dd cls5 [(aU, .inl (cL, ((1 : Int32).toNatClampNeg), .inr (.inl ou))), (oN, .inr (0, [.ref aT, .int tl, .int pl, .ref oW, .ref oT, .ref oP])), (oW, .inr (1, [.ref aX, .int ln, .ref aO, .ref aB, .ref aE, .int wc])), (aB, .inl (cI, nO, .inl sb)), (aE, .inl (cI, nO, .inl se)), (oT, .inr (2, [.ref aK, .ref aF, .ref aP, .ref aS, .ref aD, .int cn])), (aK, .inl (cI, nT, .inl K)), (aF, .inl (cI, nT, .inl F))] H := hP
    have hD : va_D A [(aU, .inl (cL, ((1 : Int32).toNatClampNeg), .inr (.inl ou))), (oN, .inr (0, [.ref aT, .int tl, .int pl, .ref oW, .ref oT, .ref oP])), (oW, .inr (1, [.ref aX, .int ln, .ref aO, .ref aB, .ref aE, .int wc])), (aB, .inl (cI, nO, .inl sb)), (aE, .inl (cI, nO, .inl se)), (oT, .inr (2, [.ref aK, .ref aF, .ref aP, .ref aS, .ref aD, .int cn])), (aK, .inl (cI, nT, .inl K)), (aF, .inl (cI, nT, .inl F))] := hD
    refine lv_i2l (v := (r_1.toInt64)) hx hb d_L_nameLength_7 rfl ?_
    obtain ⟨h_2, hv⟩ := hv
    refine va_last hx hb hK hP hD hS 0 2 rfl rfl h_2 d_L_nameLength_8 (fun H locs hP hD hS => ?_)
    have hP : va_P dd cls5 [(aU, .inl (cL, ((1 : Int32).toNatClampNeg), .inr (.inl (vp_updL ou (0 : Int32).toNatClampNeg (r_1.toInt64))))), (oN, .inr (0, [.ref aT, .int tl, .int pl, .ref oW, .ref oT, .ref oP])), (oW, .inr (1, [.ref aX, .int ln, .ref aO, .ref aB, .ref aE, .int wc])), (aB, .inl (cI, nO, .inl sb)), (aE, .inl (cI, nO, .inl se)), (oT, .inr (2, [.ref aK, .ref aF, .ref aP, .ref aS, .ref aD, .int cn])), (aK, .inl (cI, nT, .inl K)), (aF, .inl (cI, nT, .inl F))] H := hP
    have hD : va_D A [(aU, .inl (cL, ((1 : Int32).toNatClampNeg), .inr (.inl (vp_updL ou (0 : Int32).toNatClampNeg (r_1.toInt64))))), (oN, .inr (0, [.ref aT, .int tl, .int pl, .ref oW, .ref oT, .ref oP])), (oW, .inr (1, [.ref aX, .int ln, .ref aO, .ref aB, .ref aE, .int wc])), (aB, .inl (cI, nO, .inl sb)), (aE, .inl (cI, nO, .inl se)), (oT, .inr (2, [.ref aK, .ref aF, .ref aP, .ref aS, .ref aD, .int cn])), (aK, .inl (cI, nT, .inl K)), (aF, .inl (cI, nT, .inl F))] := hD
    refine lv_goto (tgt := 15) hx hb d_L_nameLength_9 (by decide) ?_
    refine lv_iconst (v := 0) hx hb d_L_nameLength_15 (by decide) ?_
    subst hQ
    exact r_i hx hb hr hlocks 0 (vp_updL ou (0 : Int32).toNatClampNeg (r_1.toInt64)) hv (hP.sub [1, 2, 3, 4, 5, 6, 7, 0] rfl) hK (hD.sub [1, 2, 3, 4, 5, 6, 7, 0] (by decide) rfl) hS (by omega) (by omega) d_L_nameLength_16
  · have hP : va_P dd cls5 [(aU, .inl (cL, ((1 : Int32).toNatClampNeg), .inr (.inl ou))), (oN, .inr (0, [.ref aT, .int tl, .int pl, .ref oW, .ref oT, .ref oP])), (oW, .inr (1, [.ref aX, .int ln, .ref aO, .ref aB, .ref aE, .int wc])), (aB, .inl (cI, nO, .inl sb)), (aE, .inl (cI, nO, .inl se)), (oT, .inr (2, [.ref aK, .ref aF, .ref aP, .ref aS, .ref aD, .int cn])), (aK, .inl (cI, nT, .inl K)), (aF, .inl (cI, nT, .inl F))] H := hP
    have hD : va_D A [(aU, .inl (cL, ((1 : Int32).toNatClampNeg), .inr (.inl ou))), (oN, .inr (0, [.ref aT, .int tl, .int pl, .ref oW, .ref oT, .ref oP])), (oW, .inr (1, [.ref aX, .int ln, .ref aO, .ref aB, .ref aE, .int wc])), (aB, .inl (cI, nO, .inl sb)), (aE, .inl (cI, nO, .inl se)), (oT, .inr (2, [.ref aK, .ref aF, .ref aP, .ref aS, .ref aD, .int cn])), (aK, .inl (cI, nT, .inl K)), (aF, .inl (cI, nT, .inl F))] := hD
    refine lv_astore_n (lv' := [(3, .ref x_3), (0, .ref oN), (1, .int x1), (2, .ref aU)]) hx hb d_L_nameLength_12 rfl hl (by decide) rfl (fun ls hl => ?_)
    refine lv_iconst (v := 1) hx hb d_L_nameLength_13 (by decide) ?_
    subst hQ
    exact r_i hx hb hr hlocks 1 ou hv (hP.sub [1, 2, 3, 4, 5, 6, 7, 0] rfl) hK (hD.sub [1, 2, 3, 4, 5, 6, 7, 0] (by decide) rfl) hS (by omega) (by omega) d_L_nameLength_14
def vc_L_digits  (mc_ : Nat) (ms_ : Nat) (nX : Nat) (tx : FN) (ln : Int32) (nO : Nat) (sb : FN) (se : FN) (wc : Int32) (nT : Nat) (cn : Int32) (K : FN) (F : FN) (ou : FL) (x1 : Int32) (K_ : Int32 → FL → Prop) : Prop :=
  (0 + (0 + 1) ≤ mc_ ∧ 0 + (0 + 6) ≤ ms_ ∧ (vc_N_digits nX tx ln nO sb se wc nT cn K F x1 (fun r_1 => (vp_in 0 ((1 : Int32).toNatClampNeg) ∧ (K_ 0 (vp_updL ou (0 : Int32).toNatClampNeg r_1)))) (K_ 1 ou)))
set_option maxHeartbeats 4000000 in
set_option maxRecDepth 100000 in
theorem met_L_digits {l : Launch} {dd : va_G} {cB cI cL cS : ClassId} {adK adV : Nat → Nat} {oN : Nat} {aT : Nat} {oP : Nat} {oW : Nat} {aX : Nat} {aO : Nat} {aB : Nat} {aE : Nat} {oT : Nat} {aK : Nat} {aF : Nat} {aP : Nat} {aS : Nat} {aD : Nat} {aU : Nat}  {mc_ : Nat} {ms_ : Nat} {nX : Nat} {tx : FN} {ln : Int32} {nO : Nat} {sb : FN} {se : FN} {wc : Int32} {nT : Nat} {cn : Int32} {K : FN} {F : FN} {ou : FL} {tl : Int32} {pl : Int32} {x1 : Int32} {K_ : Int32 → FL → Prop}  (hnt : NoTr l) (hv : vc_L_digits  mc_ ms_ nX tx ln nO sb se wc nT cn K F ou x1 K_) : Ct l y_L_digits w_L_digits (rmk 9 mc_ ms_) dd cls5 [(cB, .byte), (cI, .int), (cL, .long), (cS, .object "java/lang/String")] (XF adK adV) [(oN, .inr (0, [.ref aT, .int tl, .int pl, .ref oW, .ref oT, .ref oP])), (oW, .inr (1, [.ref aX, .int ln, .ref aO, .ref aB, .ref aE, .int wc])), (aX, .inl (cB, nX, .inl tx)), (aB, .inl (cI, nO, .inl sb)), (aE, .inl (cI, nO, .inl se)), (oT, .inr (2, [.ref aK, .ref aF, .ref aP, .ref aS, .ref aD, .int cn])), (aK, .inl (cI, nT, .inl K)), (aF, .inl (cI, nT, .inl F)), (aU, .inl (cL, ((1 : Int32).toNatClampNeg), .inr (.inl ou)))] [.ref oN, .int x1, .ref aU] (qi dd cls5 [(cB, .byte), (cI, .int), (cL, .long), (cS, .object "java/lang/String")] (fun u_ : FL => [(oN, .inr (0, [.ref aT, .int tl, .int pl, .ref oW, .ref oT, .ref oP])), (oW, .inr (1, [.ref aX, .int ln, .ref aO, .ref aB, .ref aE, .int wc])), (aX, .inl (cB, nX, .inl tx)), (aB, .inl (cI, nO, .inl sb)), (aE, .inl (cI, nO, .inl se)), (oT, .inr (2, [.ref aK, .ref aF, .ref aP, .ref aS, .ref aD, .int cn])), (aK, .inl (cI, nT, .inl K)), (aF, .inl (cI, nT, .inl F)), (aU, .inl (cL, ((1 : Int32).toNatClampNeg), .inr (.inl u_)))]) (fun r_ u_ => K_ r_ u_)) mc_ ms_ := by
  refine m_ofW (cc := b_L_digits) (nL := 4) (ret := (some .int)) (by decide) rfl (Nat.le_of_ble_eq_true rfl) ?_
  intro p e s m below meth c ls A ar Fx_ hrow hA hP hK hD hS hX hl
  obtain ⟨hx, hb, hml, hr, hlocks, hown, hts, hinn⟩ := Fx_
  generalize hQ : MQ below ((qi dd cls5 [(cB, .byte), (cI, .int), (cL, .long), (cS, .object "java/lang/String")] (fun u_ : FL => [(oN, .inr (0, [.ref aT, .int tl, .int pl, .ref oW, .ref oT, .ref oP])), (oW, .inr (1, [.ref aX, .int ln, .ref aO, .ref aB, .ref aE, .int wc])), (aX, .inl (cB, nX, .inl tx)), (aB, .inl (cI, nO, .inl sb)), (aE, .inl (cI, nO, .inl se)), (oT, .inr (2, [.ref aK, .ref aF, .ref aP, .ref aS, .ref aD, .int cn])), (aK, .inl (cI, nT, .inl K)), (aF, .inl (cI, nT, .inl F)), (aU, .inl (cL, ((1 : Int32).toNatClampNeg), .inr (.inl u_)))]) (fun r_ u_ => K_ r_ u_)) A) ar s mc_ ms_ A = QQ
  have hl : lv_has ls 4 [(0, .ref oN), (1, .int x1), (2, .ref aU)] := hl
  unfold vc_L_digits at hv
  refine lv_aload_n hx hb d_L_digits_0 rfl (lv_at hl 2 rfl) ?_
  refine lv_iconst (v := 0) hx hb d_L_digits_1 (by decide) ?_
  refine lv_aload_n hx hb d_L_digits_2 rfl (lv_at hl 0 rfl) ?_
  refine lv_iload_n hx hb d_L_digits_3 rfl (lv_at hl 1 rfl) ?_
  obtain ⟨h_4, h_5, hv⟩ := hv
  have hM := met_N_digits (l := l) (dd := dd) (cB := cB) (cI := cI) (cL := cL) (cS := cS) (adK := adK) (adV := adV) (oN := oN) (aT := aT) (oP := oP) (oW := oW) (aX := aX) (aO := aO) (aB := aB) (aE := aE) (oT := oT) (aK := aK) (aF := aF) (aP := aP) (aS := aS) (aD := aD) (tl := tl) (pl := pl)  hnt hv
  refine kc_l (st := [.int x1, .ref oN, .int 0, .ref aU]) (rest := [.int 0, .ref aU]) (wr := [(aU, .inl (cL, ((1 : Int32).toNatClampNeg), .inr (.inl ou)))]) ⟨hx, hb, hml, hown, hts⟩ hM (cwV 1 hts (gv (tg0 at_707) (tg0 at_708) (tg0 at_709) (tg0 at_1) (tg0 at_710)) rfl rfl rfl (by decide +kernel) (rk (by omega) (by decide))) xfb (xfg hX) hP hK hD hS hA [0, 1, 2, 3, 4, 5, 6, 7] [8] rfl rfl (by decide) (by decide) (by decide) (ci := 0) rfl rfl (q0 := 0) rfl hrow (by decide) (by decide) (hts (.classLink "NetTextLaw" 25 "java/lang/IndexOutOfBoundsException") (tg at_632)) rfl hl.1 rfl (Nat.le_of_ble_eq_true rfl) d_L_digits_4 ⟨h_4, h_5⟩ (fun r_1 u_6 H locs hv hP hD hS => ?_) (fun x_3 u_6e H locs hv hP hD hS => ?_)
  · have hP : va_P dd cls5 [(aU, .inl (cL, ((1 : Int32).toNatClampNeg), .inr (.inl ou))), (oN, .inr (0, [.ref aT, .int tl, .int pl, .ref oW, .ref oT, .ref oP])), (oW, .inr (1, [.ref aX, .int ln, .ref aO, .ref aB, .ref aE, .int wc])), (aX, .inl (cB, nX, .inl tx)), (aB, .inl (cI, nO, .inl sb)), (aE, .inl (cI, nO, .inl se)), (oT, .inr (2, [.ref aK, .ref aF, .ref aP, .ref aS, .ref aD, .int cn])), (aK, .inl (cI, nT, .inl K)), (aF, .inl (cI, nT, .inl F))] H := hP
    have hD : va_D A [(aU, .inl (cL, ((1 : Int32).toNatClampNeg), .inr (.inl ou))), (oN, .inr (0, [.ref aT, .int tl, .int pl, .ref oW, .ref oT, .ref oP])), (oW, .inr (1, [.ref aX, .int ln, .ref aO, .ref aB, .ref aE, .int wc])), (aX, .inl (cB, nX, .inl tx)), (aB, .inl (cI, nO, .inl sb)), (aE, .inl (cI, nO, .inl se)), (oT, .inr (2, [.ref aK, .ref aF, .ref aP, .ref aS, .ref aD, .int cn])), (aK, .inl (cI, nT, .inl K)), (aF, .inl (cI, nT, .inl F))] := hD
    obtain ⟨h_2, hv⟩ := hv
    refine va_last hx hb hK hP hD hS 0 2 rfl rfl h_2 d_L_digits_7 (fun H locs hP hD hS => ?_)
    have hP : va_P dd cls5 [(aU, .inl (cL, ((1 : Int32).toNatClampNeg), .inr (.inl (vp_updL ou (0 : Int32).toNatClampNeg r_1)))), (oN, .inr (0, [.ref aT, .int tl, .int pl, .ref oW, .ref oT, .ref oP])), (oW, .inr (1, [.ref aX, .int ln, .ref aO, .ref aB, .ref aE, .int wc])), (aX, .inl (cB, nX, .inl tx)), (aB, .inl (cI, nO, .inl sb)), (aE, .inl (cI, nO, .inl se)), (oT, .inr (2, [.ref aK, .ref aF, .ref aP, .ref aS, .ref aD, .int cn])), (aK, .inl (cI, nT, .inl K)), (aF, .inl (cI, nT, .inl F))] H := hP
    have hD : va_D A [(aU, .inl (cL, ((1 : Int32).toNatClampNeg), .inr (.inl (vp_updL ou (0 : Int32).toNatClampNeg r_1)))), (oN, .inr (0, [.ref aT, .int tl, .int pl, .ref oW, .ref oT, .ref oP])), (oW, .inr (1, [.ref aX, .int ln, .ref aO, .ref aB, .ref aE, .int wc])), (aX, .inl (cB, nX, .inl tx)), (aB, .inl (cI, nO, .inl sb)), (aE, .inl (cI, nO, .inl se)), (oT, .inr (2, [.ref aK, .ref aF, .ref aP, .ref aS, .ref aD, .int cn])), (aK, .inl (cI, nT, .inl K)), (aF, .inl (cI, nT, .inl F))] := hD
    refine lv_goto (tgt := 14) hx hb d_L_digits_8 (by decide) ?_
    refine lv_iconst (v := 0) hx hb d_L_digits_14 (by decide) ?_
    subst hQ
    exact r_i hx hb hr hlocks 0 (vp_updL ou (0 : Int32).toNatClampNeg r_1) hv (hP.sub [1, 2, 3, 4, 5, 6, 7, 8, 0] rfl) hK (hD.sub [1, 2, 3, 4, 5, 6, 7, 8, 0] (by decide) rfl) hS (by omega) (by omega) d_L_digits_15
  · have hP : va_P dd cls5 [(aU, .inl (cL, ((1 : Int32).toNatClampNeg), .inr (.inl ou))), (oN, .inr (0, [.ref aT, .int tl, .int pl, .ref oW, .ref oT, .ref oP])), (oW, .inr (1, [.ref aX, .int ln, .ref aO, .ref aB, .ref aE, .int wc])), (aX, .inl (cB, nX, .inl tx)), (aB, .inl (cI, nO, .inl sb)), (aE, .inl (cI, nO, .inl se)), (oT, .inr (2, [.ref aK, .ref aF, .ref aP, .ref aS, .ref aD, .int cn])), (aK, .inl (cI, nT, .inl K)), (aF, .inl (cI, nT, .inl F))] H := hP
    have hD : va_D A [(aU, .inl (cL, ((1 : Int32).toNatClampNeg), .inr (.inl ou))), (oN, .inr (0, [.ref aT, .int tl, .int pl, .ref oW, .ref oT, .ref oP])), (oW, .inr (1, [.ref aX, .int ln, .ref aO, .ref aB, .ref aE, .int wc])), (aX, .inl (cB, nX, .inl tx)), (aB, .inl (cI, nO, .inl sb)), (aE, .inl (cI, nO, .inl se)), (oT, .inr (2, [.ref aK, .ref aF, .ref aP, .ref aS, .ref aD, .int cn])), (aK, .inl (cI, nT, .inl K)), (aF, .inl (cI, nT, .inl F))] := hD
    refine lv_astore_n (lv' := [(3, .ref x_3), (0, .ref oN), (1, .int x1), (2, .ref aU)]) hx hb d_L_digits_11 rfl hl (by decide) rfl (fun ls hl => ?_)
    refine lv_iconst (v := 1) hx hb d_L_digits_12 (by decide) ?_
    subst hQ
    exact r_i hx hb hr hlocks 1 ou hv (hP.sub [1, 2, 3, 4, 5, 6, 7, 8, 0] rfl) hK (hD.sub [1, 2, 3, 4, 5, 6, 7, 8, 0] (by decide) rfl) hS (by omega) (by omega) d_L_digits_13
def vc_L_behind  (mc_ : Nat) (ms_ : Nat) (nX : Nat) (tx : FN) (ln : Int32) (nO : Nat) (so : FN) (sb : FN) (se : FN) (wc : Int32) (nT : Nat) (cn : Int32) (K : FN) (F : FN) (ou : FL) (x1 : Int32) (K_ : Int32 → FL → Prop) : Prop :=
  (0 + (0 + 1) ≤ mc_ ∧ 0 + (0 + 6) ≤ ms_ ∧ (vc_N_behind nX tx ln nO so sb se wc nT cn K F x1 (fun r_1 => (vp_in 0 ((1 : Int32).toNatClampNeg) ∧ (K_ 0 (vp_updL ou (0 : Int32).toNatClampNeg (r_1.toInt64))))) (K_ 1 ou)))
set_option maxHeartbeats 4000000 in
set_option maxRecDepth 100000 in
theorem met_L_behind {l : Launch} {dd : va_G} {cB cI cL cS : ClassId} {adK adV : Nat → Nat} {oN : Nat} {aT : Nat} {oP : Nat} {oW : Nat} {aX : Nat} {aO : Nat} {aB : Nat} {aE : Nat} {oT : Nat} {aK : Nat} {aF : Nat} {aP : Nat} {aS : Nat} {aD : Nat} {aU : Nat}  {mc_ : Nat} {ms_ : Nat} {nX : Nat} {tx : FN} {ln : Int32} {nO : Nat} {so : FN} {sb : FN} {se : FN} {wc : Int32} {nT : Nat} {cn : Int32} {K : FN} {F : FN} {ou : FL} {tl : Int32} {pl : Int32} {x1 : Int32} {K_ : Int32 → FL → Prop}  (hnt : NoTr l) (hv : vc_L_behind  mc_ ms_ nX tx ln nO so sb se wc nT cn K F ou x1 K_) : Ct l y_L_behind w_L_behind (rmk 9 mc_ ms_) dd cls5 [(cB, .byte), (cI, .int), (cL, .long), (cS, .object "java/lang/String")] (XF adK adV) [(oN, .inr (0, [.ref aT, .int tl, .int pl, .ref oW, .ref oT, .ref oP])), (oW, .inr (1, [.ref aX, .int ln, .ref aO, .ref aB, .ref aE, .int wc])), (aX, .inl (cB, nX, .inl tx)), (aO, .inl (cI, nO, .inl so)), (aB, .inl (cI, nO, .inl sb)), (aE, .inl (cI, nO, .inl se)), (oT, .inr (2, [.ref aK, .ref aF, .ref aP, .ref aS, .ref aD, .int cn])), (aK, .inl (cI, nT, .inl K)), (aF, .inl (cI, nT, .inl F)), (aU, .inl (cL, ((1 : Int32).toNatClampNeg), .inr (.inl ou)))] [.ref oN, .int x1, .ref aU] (qi dd cls5 [(cB, .byte), (cI, .int), (cL, .long), (cS, .object "java/lang/String")] (fun u_ : FL => [(oN, .inr (0, [.ref aT, .int tl, .int pl, .ref oW, .ref oT, .ref oP])), (oW, .inr (1, [.ref aX, .int ln, .ref aO, .ref aB, .ref aE, .int wc])), (aX, .inl (cB, nX, .inl tx)), (aO, .inl (cI, nO, .inl so)), (aB, .inl (cI, nO, .inl sb)), (aE, .inl (cI, nO, .inl se)), (oT, .inr (2, [.ref aK, .ref aF, .ref aP, .ref aS, .ref aD, .int cn])), (aK, .inl (cI, nT, .inl K)), (aF, .inl (cI, nT, .inl F)), (aU, .inl (cL, ((1 : Int32).toNatClampNeg), .inr (.inl u_)))]) (fun r_ u_ => K_ r_ u_)) mc_ ms_ := by
  refine m_ofW (cc := b_L_behind) (nL := 4) (ret := (some .int)) (by decide) rfl (Nat.le_of_ble_eq_true rfl) ?_
  intro p e s m below meth c ls A ar Fx_ hrow hA hP hK hD hS hX hl
  obtain ⟨hx, hb, hml, hr, hlocks, hown, hts, hinn⟩ := Fx_
  generalize hQ : MQ below ((qi dd cls5 [(cB, .byte), (cI, .int), (cL, .long), (cS, .object "java/lang/String")] (fun u_ : FL => [(oN, .inr (0, [.ref aT, .int tl, .int pl, .ref oW, .ref oT, .ref oP])), (oW, .inr (1, [.ref aX, .int ln, .ref aO, .ref aB, .ref aE, .int wc])), (aX, .inl (cB, nX, .inl tx)), (aO, .inl (cI, nO, .inl so)), (aB, .inl (cI, nO, .inl sb)), (aE, .inl (cI, nO, .inl se)), (oT, .inr (2, [.ref aK, .ref aF, .ref aP, .ref aS, .ref aD, .int cn])), (aK, .inl (cI, nT, .inl K)), (aF, .inl (cI, nT, .inl F)), (aU, .inl (cL, ((1 : Int32).toNatClampNeg), .inr (.inl u_)))]) (fun r_ u_ => K_ r_ u_)) A) ar s mc_ ms_ A = QQ
  have hl : lv_has ls 4 [(0, .ref oN), (1, .int x1), (2, .ref aU)] := hl
  unfold vc_L_behind at hv
  refine lv_aload_n hx hb d_L_behind_0 rfl (lv_at hl 2 rfl) ?_
  refine lv_iconst (v := 0) hx hb d_L_behind_1 (by decide) ?_
  refine lv_aload_n hx hb d_L_behind_2 rfl (lv_at hl 0 rfl) ?_
  refine lv_iload_n hx hb d_L_behind_3 rfl (lv_at hl 1 rfl) ?_
  obtain ⟨h_4, h_5, hv⟩ := hv
  have hM := met_N_behind (l := l) (dd := dd) (cB := cB) (cI := cI) (cL := cL) (cS := cS) (adK := adK) (adV := adV) (oN := oN) (aT := aT) (oP := oP) (oW := oW) (aX := aX) (aO := aO) (aB := aB) (aE := aE) (oT := oT) (aK := aK) (aF := aF) (aP := aP) (aS := aS) (aD := aD) (tl := tl) (pl := pl)  hnt hv
  refine kc_i (st := [.int x1, .ref oN, .int 0, .ref aU]) (rest := [.int 0, .ref aU]) (wr := [(aU, .inl (cL, ((1 : Int32).toNatClampNeg), .inr (.inl ou)))]) ⟨hx, hb, hml, hown, hts⟩ hM (cwV 1 hts (gv (tg0 at_724) (tg0 at_725) (tg0 at_726) (tg0 at_1) (tg0 at_727)) rfl rfl rfl (by decide +kernel) (rk (by omega) (by decide))) xfb (xfg hX) hP hK hD hS hA [0, 1, 2, 3, 4, 5, 6, 7, 8] [9] rfl rfl (by decide) (by decide) (by decide) (ci := 0) rfl rfl (q0 := 0) rfl hrow (by decide) (by decide) (hts (.classLink "NetTextLaw" 25 "java/lang/IndexOutOfBoundsException") (tg at_632)) rfl hl.1 rfl (Nat.le_of_ble_eq_true rfl) d_L_behind_4 ⟨h_4, h_5⟩ (fun r_1 u_6 H locs hv hP hD hS => ?_) (fun x_3 u_6e H locs hv hP hD hS => ?_)
  · have hP : va_P dd cls5 [(aU, .inl (cL, ((1 : Int32).toNatClampNeg), .inr (.inl ou))), (oN, .inr (0, [.ref aT, .int tl, .int pl, .ref oW, .ref oT, .ref oP])), (oW, .inr (1, [.ref aX, .int ln, .ref aO, .ref aB, .ref aE, .int wc])), (aX, .inl (cB, nX, .inl tx)), (aO, .inl (cI, nO, .inl so)), (aB, .inl (cI, nO, .inl sb)), (aE, .inl (cI, nO, .inl se)), (oT, .inr (2, [.ref aK, .ref aF, .ref aP, .ref aS, .ref aD, .int cn])), (aK, .inl (cI, nT, .inl K)), (aF, .inl (cI, nT, .inl F))] H := hP
    have hD : va_D A [(aU, .inl (cL, ((1 : Int32).toNatClampNeg), .inr (.inl ou))), (oN, .inr (0, [.ref aT, .int tl, .int pl, .ref oW, .ref oT, .ref oP])), (oW, .inr (1, [.ref aX, .int ln, .ref aO, .ref aB, .ref aE, .int wc])), (aX, .inl (cB, nX, .inl tx)), (aO, .inl (cI, nO, .inl so)), (aB, .inl (cI, nO, .inl sb)), (aE, .inl (cI, nO, .inl se)), (oT, .inr (2, [.ref aK, .ref aF, .ref aP, .ref aS, .ref aD, .int cn])), (aK, .inl (cI, nT, .inl K)), (aF, .inl (cI, nT, .inl F))] := hD
    refine lv_i2l (v := (r_1.toInt64)) hx hb d_L_behind_7 rfl ?_
    obtain ⟨h_2, hv⟩ := hv
    refine va_last hx hb hK hP hD hS 0 2 rfl rfl h_2 d_L_behind_8 (fun H locs hP hD hS => ?_)
    have hP : va_P dd cls5 [(aU, .inl (cL, ((1 : Int32).toNatClampNeg), .inr (.inl (vp_updL ou (0 : Int32).toNatClampNeg (r_1.toInt64))))), (oN, .inr (0, [.ref aT, .int tl, .int pl, .ref oW, .ref oT, .ref oP])), (oW, .inr (1, [.ref aX, .int ln, .ref aO, .ref aB, .ref aE, .int wc])), (aX, .inl (cB, nX, .inl tx)), (aO, .inl (cI, nO, .inl so)), (aB, .inl (cI, nO, .inl sb)), (aE, .inl (cI, nO, .inl se)), (oT, .inr (2, [.ref aK, .ref aF, .ref aP, .ref aS, .ref aD, .int cn])), (aK, .inl (cI, nT, .inl K)), (aF, .inl (cI, nT, .inl F))] H := hP
    have hD : va_D A [(aU, .inl (cL, ((1 : Int32).toNatClampNeg), .inr (.inl (vp_updL ou (0 : Int32).toNatClampNeg (r_1.toInt64))))), (oN, .inr (0, [.ref aT, .int tl, .int pl, .ref oW, .ref oT, .ref oP])), (oW, .inr (1, [.ref aX, .int ln, .ref aO, .ref aB, .ref aE, .int wc])), (aX, .inl (cB, nX, .inl tx)), (aO, .inl (cI, nO, .inl so)), (aB, .inl (cI, nO, .inl sb)), (aE, .inl (cI, nO, .inl se)), (oT, .inr (2, [.ref aK, .ref aF, .ref aP, .ref aS, .ref aD, .int cn])), (aK, .inl (cI, nT, .inl K)), (aF, .inl (cI, nT, .inl F))] := hD
    refine lv_goto (tgt := 15) hx hb d_L_behind_9 (by decide) ?_
    refine lv_iconst (v := 0) hx hb d_L_behind_15 (by decide) ?_
    subst hQ
    exact r_i hx hb hr hlocks 0 (vp_updL ou (0 : Int32).toNatClampNeg (r_1.toInt64)) hv (hP.sub [1, 2, 3, 4, 5, 6, 7, 8, 9, 0] rfl) hK (hD.sub [1, 2, 3, 4, 5, 6, 7, 8, 9, 0] (by decide) rfl) hS (by omega) (by omega) d_L_behind_16
  · have hP : va_P dd cls5 [(aU, .inl (cL, ((1 : Int32).toNatClampNeg), .inr (.inl ou))), (oN, .inr (0, [.ref aT, .int tl, .int pl, .ref oW, .ref oT, .ref oP])), (oW, .inr (1, [.ref aX, .int ln, .ref aO, .ref aB, .ref aE, .int wc])), (aX, .inl (cB, nX, .inl tx)), (aO, .inl (cI, nO, .inl so)), (aB, .inl (cI, nO, .inl sb)), (aE, .inl (cI, nO, .inl se)), (oT, .inr (2, [.ref aK, .ref aF, .ref aP, .ref aS, .ref aD, .int cn])), (aK, .inl (cI, nT, .inl K)), (aF, .inl (cI, nT, .inl F))] H := hP
    have hD : va_D A [(aU, .inl (cL, ((1 : Int32).toNatClampNeg), .inr (.inl ou))), (oN, .inr (0, [.ref aT, .int tl, .int pl, .ref oW, .ref oT, .ref oP])), (oW, .inr (1, [.ref aX, .int ln, .ref aO, .ref aB, .ref aE, .int wc])), (aX, .inl (cB, nX, .inl tx)), (aO, .inl (cI, nO, .inl so)), (aB, .inl (cI, nO, .inl sb)), (aE, .inl (cI, nO, .inl se)), (oT, .inr (2, [.ref aK, .ref aF, .ref aP, .ref aS, .ref aD, .int cn])), (aK, .inl (cI, nT, .inl K)), (aF, .inl (cI, nT, .inl F))] := hD
    refine lv_astore_n (lv' := [(3, .ref x_3), (0, .ref oN), (1, .int x1), (2, .ref aU)]) hx hb d_L_behind_12 rfl hl (by decide) rfl (fun ls hl => ?_)
    refine lv_iconst (v := 1) hx hb d_L_behind_13 (by decide) ?_
    subst hQ
    exact r_i hx hb hr hlocks 1 ou hv (hP.sub [1, 2, 3, 4, 5, 6, 7, 8, 9, 0] rfl) hK (hD.sub [1, 2, 3, 4, 5, 6, 7, 8, 9, 0] (by decide) rfl) hS (by omega) (by omega) d_L_behind_14
def vc_L_depth  (mc_ : Nat) (ms_ : Nat) (nT : Nat) (cn : Int32) (Dp : FN) (ou : FL) (x1 : Int32) (K_ : Int32 → FL → Prop) : Prop :=
  (0 + (0 + 1) ≤ mc_ ∧ 0 + (0 + 6) ≤ ms_ ∧ (vc_N_depth nT cn Dp x1 (fun r_1 => (vp_in 0 ((1 : Int32).toNatClampNeg) ∧ (K_ 0 (vp_updL ou (0 : Int32).toNatClampNeg (r_1.toInt64))))) (K_ 1 ou)))
set_option maxHeartbeats 4000000 in
set_option maxRecDepth 100000 in
theorem met_L_depth {l : Launch} {dd : va_G} {cB cI cL cS : ClassId} {adK adV : Nat → Nat} {oN : Nat} {aT : Nat} {oP : Nat} {oW : Nat} {oT : Nat} {aK : Nat} {aF : Nat} {aP : Nat} {aS : Nat} {aD : Nat} {aU : Nat}  {mc_ : Nat} {ms_ : Nat} {nT : Nat} {cn : Int32} {Dp : FN} {ou : FL} {tl : Int32} {pl : Int32} {x1 : Int32} {K_ : Int32 → FL → Prop}  (hnt : NoTr l) (hv : vc_L_depth  mc_ ms_ nT cn Dp ou x1 K_) : Ct l y_L_depth w_L_depth (rmk 9 mc_ ms_) dd cls5 [(cB, .byte), (cI, .int), (cL, .long), (cS, .object "java/lang/String")] (XF adK adV) [(oN, .inr (0, [.ref aT, .int tl, .int pl, .ref oW, .ref oT, .ref oP])), (oT, .inr (2, [.ref aK, .ref aF, .ref aP, .ref aS, .ref aD, .int cn])), (aD, .inl (cI, nT, .inl Dp)), (aU, .inl (cL, ((1 : Int32).toNatClampNeg), .inr (.inl ou)))] [.ref oN, .int x1, .ref aU] (qi dd cls5 [(cB, .byte), (cI, .int), (cL, .long), (cS, .object "java/lang/String")] (fun u_ : FL => [(oN, .inr (0, [.ref aT, .int tl, .int pl, .ref oW, .ref oT, .ref oP])), (oT, .inr (2, [.ref aK, .ref aF, .ref aP, .ref aS, .ref aD, .int cn])), (aD, .inl (cI, nT, .inl Dp)), (aU, .inl (cL, ((1 : Int32).toNatClampNeg), .inr (.inl u_)))]) (fun r_ u_ => K_ r_ u_)) mc_ ms_ := by
  refine m_ofW (cc := b_L_depth) (nL := 4) (ret := (some .int)) (by decide) rfl (Nat.le_of_ble_eq_true rfl) ?_
  intro p e s m below meth c ls A ar Fx_ hrow hA hP hK hD hS hX hl
  obtain ⟨hx, hb, hml, hr, hlocks, hown, hts, hinn⟩ := Fx_
  generalize hQ : MQ below ((qi dd cls5 [(cB, .byte), (cI, .int), (cL, .long), (cS, .object "java/lang/String")] (fun u_ : FL => [(oN, .inr (0, [.ref aT, .int tl, .int pl, .ref oW, .ref oT, .ref oP])), (oT, .inr (2, [.ref aK, .ref aF, .ref aP, .ref aS, .ref aD, .int cn])), (aD, .inl (cI, nT, .inl Dp)), (aU, .inl (cL, ((1 : Int32).toNatClampNeg), .inr (.inl u_)))]) (fun r_ u_ => K_ r_ u_)) A) ar s mc_ ms_ A = QQ
  have hl : lv_has ls 4 [(0, .ref oN), (1, .int x1), (2, .ref aU)] := hl
  unfold vc_L_depth at hv
  refine lv_aload_n hx hb d_L_depth_0 rfl (lv_at hl 2 rfl) ?_
  refine lv_iconst (v := 0) hx hb d_L_depth_1 (by decide) ?_
  refine lv_aload_n hx hb d_L_depth_2 rfl (lv_at hl 0 rfl) ?_
  refine lv_iload_n hx hb d_L_depth_3 rfl (lv_at hl 1 rfl) ?_
  obtain ⟨h_4, h_5, hv⟩ := hv
  have hM := met_N_depth (l := l) (dd := dd) (cB := cB) (cI := cI) (cL := cL) (cS := cS) (adK := adK) (adV := adV) (oN := oN) (aT := aT) (oP := oP) (oW := oW) (oT := oT) (aK := aK) (aF := aF) (aP := aP) (aS := aS) (aD := aD) (tl := tl) (pl := pl)  hnt hv
  refine kc_i (st := [.int x1, .ref oN, .int 0, .ref aU]) (rest := [.int 0, .ref aU]) (wr := [(aU, .inl (cL, ((1 : Int32).toNatClampNeg), .inr (.inl ou)))]) ⟨hx, hb, hml, hown, hts⟩ hM (cwV 1 hts (gv (tg0 at_737) (tg0 at_738) (tg0 at_739) (tg0 at_1) (tg0 at_740)) rfl rfl rfl (by decide +kernel) (rk (by omega) (by decide))) xfb (xfg hX) hP hK hD hS hA [0, 1, 2] [3] rfl rfl (by decide) (by decide) (by decide) (ci := 0) rfl rfl (q0 := 0) rfl hrow (by decide) (by decide) (hts (.classLink "NetTextLaw" 25 "java/lang/IndexOutOfBoundsException") (tg at_632)) rfl hl.1 rfl (Nat.le_of_ble_eq_true rfl) d_L_depth_4 ⟨h_4, h_5⟩ (fun r_1 u_6 H locs hv hP hD hS => ?_) (fun x_3 u_6e H locs hv hP hD hS => ?_)
  · have hP : va_P dd cls5 [(aU, .inl (cL, ((1 : Int32).toNatClampNeg), .inr (.inl ou))), (oN, .inr (0, [.ref aT, .int tl, .int pl, .ref oW, .ref oT, .ref oP])), (oT, .inr (2, [.ref aK, .ref aF, .ref aP, .ref aS, .ref aD, .int cn])), (aD, .inl (cI, nT, .inl Dp))] H := hP
    have hD : va_D A [(aU, .inl (cL, ((1 : Int32).toNatClampNeg), .inr (.inl ou))), (oN, .inr (0, [.ref aT, .int tl, .int pl, .ref oW, .ref oT, .ref oP])), (oT, .inr (2, [.ref aK, .ref aF, .ref aP, .ref aS, .ref aD, .int cn])), (aD, .inl (cI, nT, .inl Dp))] := hD
    refine lv_i2l (v := (r_1.toInt64)) hx hb d_L_depth_7 rfl ?_
    obtain ⟨h_2, hv⟩ := hv
    refine va_last hx hb hK hP hD hS 0 2 rfl rfl h_2 d_L_depth_8 (fun H locs hP hD hS => ?_)
    have hP : va_P dd cls5 [(aU, .inl (cL, ((1 : Int32).toNatClampNeg), .inr (.inl (vp_updL ou (0 : Int32).toNatClampNeg (r_1.toInt64))))), (oN, .inr (0, [.ref aT, .int tl, .int pl, .ref oW, .ref oT, .ref oP])), (oT, .inr (2, [.ref aK, .ref aF, .ref aP, .ref aS, .ref aD, .int cn])), (aD, .inl (cI, nT, .inl Dp))] H := hP
    have hD : va_D A [(aU, .inl (cL, ((1 : Int32).toNatClampNeg), .inr (.inl (vp_updL ou (0 : Int32).toNatClampNeg (r_1.toInt64))))), (oN, .inr (0, [.ref aT, .int tl, .int pl, .ref oW, .ref oT, .ref oP])), (oT, .inr (2, [.ref aK, .ref aF, .ref aP, .ref aS, .ref aD, .int cn])), (aD, .inl (cI, nT, .inl Dp))] := hD
    refine lv_goto (tgt := 15) hx hb d_L_depth_9 (by decide) ?_
    refine lv_iconst (v := 0) hx hb d_L_depth_15 (by decide) ?_
    subst hQ
    exact r_i hx hb hr hlocks 0 (vp_updL ou (0 : Int32).toNatClampNeg (r_1.toInt64)) hv (hP.sub [1, 2, 3, 0] rfl) hK (hD.sub [1, 2, 3, 0] (by decide) rfl) hS (by omega) (by omega) d_L_depth_16
  · have hP : va_P dd cls5 [(aU, .inl (cL, ((1 : Int32).toNatClampNeg), .inr (.inl ou))), (oN, .inr (0, [.ref aT, .int tl, .int pl, .ref oW, .ref oT, .ref oP])), (oT, .inr (2, [.ref aK, .ref aF, .ref aP, .ref aS, .ref aD, .int cn])), (aD, .inl (cI, nT, .inl Dp))] H := hP
    have hD : va_D A [(aU, .inl (cL, ((1 : Int32).toNatClampNeg), .inr (.inl ou))), (oN, .inr (0, [.ref aT, .int tl, .int pl, .ref oW, .ref oT, .ref oP])), (oT, .inr (2, [.ref aK, .ref aF, .ref aP, .ref aS, .ref aD, .int cn])), (aD, .inl (cI, nT, .inl Dp))] := hD
    refine lv_astore_n (lv' := [(3, .ref x_3), (0, .ref oN), (1, .int x1), (2, .ref aU)]) hx hb d_L_depth_12 rfl hl (by decide) rfl (fun ls hl => ?_)
    refine lv_iconst (v := 1) hx hb d_L_depth_13 (by decide) ?_
    subst hQ
    exact r_i hx hb hr hlocks 1 ou hv (hP.sub [1, 2, 3, 0] rfl) hK (hD.sub [1, 2, 3, 0] (by decide) rfl) hS (by omega) (by omega) d_L_depth_14
def vc_L_nameAt  (mc_ : Nat) (ms_ : Nat) (nX : Nat) (tx : FN) (ln : Int32) (nO : Nat) (sb : FN) (se : FN) (wc : Int32) (nT : Nat) (cn : Int32) (K : FN) (F : FN) (ou : FL) (x1 : Int32) (x2 : Int32) (K_ : Int32 → FL → Prop) : Prop :=
  (0 + (0 + 1) ≤ mc_ ∧ 0 + (0 + 6) ≤ ms_ ∧ (vc_N_nameAt nX tx ln nO sb se wc nT cn K F x1 x2 (fun r_1 => (vp_in 0 ((1 : Int32).toNatClampNeg) ∧ (K_ 0 (vp_updL ou (0 : Int32).toNatClampNeg (r_1.toInt64))))) (K_ 1 ou)))
set_option maxHeartbeats 4000000 in
set_option maxRecDepth 100000 in
theorem met_L_nameAt {l : Launch} {dd : va_G} {cB cI cL cS : ClassId} {adK adV : Nat → Nat} {oN : Nat} {aT : Nat} {oP : Nat} {oW : Nat} {aX : Nat} {aO : Nat} {aB : Nat} {aE : Nat} {oT : Nat} {aK : Nat} {aF : Nat} {aP : Nat} {aS : Nat} {aD : Nat} {aU : Nat}  {mc_ : Nat} {ms_ : Nat} {nX : Nat} {tx : FN} {ln : Int32} {nO : Nat} {sb : FN} {se : FN} {wc : Int32} {nT : Nat} {cn : Int32} {K : FN} {F : FN} {ou : FL} {tl : Int32} {pl : Int32} {x1 : Int32} {x2 : Int32} {K_ : Int32 → FL → Prop}  (hnt : NoTr l) (hv : vc_L_nameAt  mc_ ms_ nX tx ln nO sb se wc nT cn K F ou x1 x2 K_) : Ct l y_L_nameAt w_L_nameAt (rmk 9 mc_ ms_) dd cls5 [(cB, .byte), (cI, .int), (cL, .long), (cS, .object "java/lang/String")] (XF adK adV) [(oN, .inr (0, [.ref aT, .int tl, .int pl, .ref oW, .ref oT, .ref oP])), (oW, .inr (1, [.ref aX, .int ln, .ref aO, .ref aB, .ref aE, .int wc])), (aX, .inl (cB, nX, .inl tx)), (aB, .inl (cI, nO, .inl sb)), (aE, .inl (cI, nO, .inl se)), (oT, .inr (2, [.ref aK, .ref aF, .ref aP, .ref aS, .ref aD, .int cn])), (aK, .inl (cI, nT, .inl K)), (aF, .inl (cI, nT, .inl F)), (aU, .inl (cL, ((1 : Int32).toNatClampNeg), .inr (.inl ou)))] [.ref oN, .int x1, .int x2, .ref aU] (qi dd cls5 [(cB, .byte), (cI, .int), (cL, .long), (cS, .object "java/lang/String")] (fun u_ : FL => [(oN, .inr (0, [.ref aT, .int tl, .int pl, .ref oW, .ref oT, .ref oP])), (oW, .inr (1, [.ref aX, .int ln, .ref aO, .ref aB, .ref aE, .int wc])), (aX, .inl (cB, nX, .inl tx)), (aB, .inl (cI, nO, .inl sb)), (aE, .inl (cI, nO, .inl se)), (oT, .inr (2, [.ref aK, .ref aF, .ref aP, .ref aS, .ref aD, .int cn])), (aK, .inl (cI, nT, .inl K)), (aF, .inl (cI, nT, .inl F)), (aU, .inl (cL, ((1 : Int32).toNatClampNeg), .inr (.inl u_)))]) (fun r_ u_ => K_ r_ u_)) mc_ ms_ := by
  refine m_ofW (cc := b_L_nameAt) (nL := 5) (ret := (some .int)) (by decide) rfl (Nat.le_of_ble_eq_true rfl) ?_
  intro p e s m below meth c ls A ar Fx_ hrow hA hP hK hD hS hX hl
  obtain ⟨hx, hb, hml, hr, hlocks, hown, hts, hinn⟩ := Fx_
  generalize hQ : MQ below ((qi dd cls5 [(cB, .byte), (cI, .int), (cL, .long), (cS, .object "java/lang/String")] (fun u_ : FL => [(oN, .inr (0, [.ref aT, .int tl, .int pl, .ref oW, .ref oT, .ref oP])), (oW, .inr (1, [.ref aX, .int ln, .ref aO, .ref aB, .ref aE, .int wc])), (aX, .inl (cB, nX, .inl tx)), (aB, .inl (cI, nO, .inl sb)), (aE, .inl (cI, nO, .inl se)), (oT, .inr (2, [.ref aK, .ref aF, .ref aP, .ref aS, .ref aD, .int cn])), (aK, .inl (cI, nT, .inl K)), (aF, .inl (cI, nT, .inl F)), (aU, .inl (cL, ((1 : Int32).toNatClampNeg), .inr (.inl u_)))]) (fun r_ u_ => K_ r_ u_)) A) ar s mc_ ms_ A = QQ
  have hl : lv_has ls 5 [(0, .ref oN), (1, .int x1), (2, .int x2), (3, .ref aU)] := hl
  unfold vc_L_nameAt at hv
  refine lv_aload_n hx hb d_L_nameAt_0 rfl (lv_at hl 3 rfl) ?_
  refine lv_iconst (v := 0) hx hb d_L_nameAt_1 (by decide) ?_
  refine lv_aload_n hx hb d_L_nameAt_2 rfl (lv_at hl 0 rfl) ?_
  refine lv_iload_n hx hb d_L_nameAt_3 rfl (lv_at hl 1 rfl) ?_
  refine lv_iload_n hx hb d_L_nameAt_4 rfl (lv_at hl 2 rfl) ?_
  obtain ⟨h_4, h_5, hv⟩ := hv
  have hM := met_N_nameAt (l := l) (dd := dd) (cB := cB) (cI := cI) (cL := cL) (cS := cS) (adK := adK) (adV := adV) (oN := oN) (aT := aT) (oP := oP) (oW := oW) (aX := aX) (aO := aO) (aB := aB) (aE := aE) (oT := oT) (aK := aK) (aF := aF) (aP := aP) (aS := aS) (aD := aD) (tl := tl) (pl := pl)  hnt hv
  refine kc_i (st := [.int x2, .int x1, .ref oN, .int 0, .ref aU]) (rest := [.int 0, .ref aU]) (wr := [(aU, .inl (cL, ((1 : Int32).toNatClampNeg), .inr (.inl ou)))]) ⟨hx, hb, hml, hown, hts⟩ hM (cwV 2 hts (gv (tg0 at_698) (tg0 at_699) (tg0 at_700) (tg0 at_1) (tg0 at_701)) rfl rfl rfl (by decide +kernel) (rk (by omega) (by decide))) xfb (xfg hX) hP hK hD hS hA [0, 1, 2, 3, 4, 5, 6, 7] [8] rfl rfl (by decide) (by decide) (by decide) (ci := 0) rfl rfl (q0 := 0) rfl hrow (by decide) (by decide) (hts (.classLink "NetTextLaw" 25 "java/lang/IndexOutOfBoundsException") (tg at_632)) rfl hl.1 rfl (Nat.le_of_ble_eq_true rfl) d_L_nameAt_5 ⟨h_4, h_5⟩ (fun r_1 u_6 H locs hv hP hD hS => ?_) (fun x_3 u_6e H locs hv hP hD hS => ?_)
  · have hP : va_P dd cls5 [(aU, .inl (cL, ((1 : Int32).toNatClampNeg), .inr (.inl ou))), (oN, .inr (0, [.ref aT, .int tl, .int pl, .ref oW, .ref oT, .ref oP])), (oW, .inr (1, [.ref aX, .int ln, .ref aO, .ref aB, .ref aE, .int wc])), (aX, .inl (cB, nX, .inl tx)), (aB, .inl (cI, nO, .inl sb)), (aE, .inl (cI, nO, .inl se)), (oT, .inr (2, [.ref aK, .ref aF, .ref aP, .ref aS, .ref aD, .int cn])), (aK, .inl (cI, nT, .inl K)), (aF, .inl (cI, nT, .inl F))] H := hP
    have hD : va_D A [(aU, .inl (cL, ((1 : Int32).toNatClampNeg), .inr (.inl ou))), (oN, .inr (0, [.ref aT, .int tl, .int pl, .ref oW, .ref oT, .ref oP])), (oW, .inr (1, [.ref aX, .int ln, .ref aO, .ref aB, .ref aE, .int wc])), (aX, .inl (cB, nX, .inl tx)), (aB, .inl (cI, nO, .inl sb)), (aE, .inl (cI, nO, .inl se)), (oT, .inr (2, [.ref aK, .ref aF, .ref aP, .ref aS, .ref aD, .int cn])), (aK, .inl (cI, nT, .inl K)), (aF, .inl (cI, nT, .inl F))] := hD
    refine lv_i2l (v := (r_1.toInt64)) hx hb d_L_nameAt_8 rfl ?_
    obtain ⟨h_2, hv⟩ := hv
    refine va_last hx hb hK hP hD hS 0 2 rfl rfl h_2 d_L_nameAt_9 (fun H locs hP hD hS => ?_)
    have hP : va_P dd cls5 [(aU, .inl (cL, ((1 : Int32).toNatClampNeg), .inr (.inl (vp_updL ou (0 : Int32).toNatClampNeg (r_1.toInt64))))), (oN, .inr (0, [.ref aT, .int tl, .int pl, .ref oW, .ref oT, .ref oP])), (oW, .inr (1, [.ref aX, .int ln, .ref aO, .ref aB, .ref aE, .int wc])), (aX, .inl (cB, nX, .inl tx)), (aB, .inl (cI, nO, .inl sb)), (aE, .inl (cI, nO, .inl se)), (oT, .inr (2, [.ref aK, .ref aF, .ref aP, .ref aS, .ref aD, .int cn])), (aK, .inl (cI, nT, .inl K)), (aF, .inl (cI, nT, .inl F))] H := hP
    have hD : va_D A [(aU, .inl (cL, ((1 : Int32).toNatClampNeg), .inr (.inl (vp_updL ou (0 : Int32).toNatClampNeg (r_1.toInt64))))), (oN, .inr (0, [.ref aT, .int tl, .int pl, .ref oW, .ref oT, .ref oP])), (oW, .inr (1, [.ref aX, .int ln, .ref aO, .ref aB, .ref aE, .int wc])), (aX, .inl (cB, nX, .inl tx)), (aB, .inl (cI, nO, .inl sb)), (aE, .inl (cI, nO, .inl se)), (oT, .inr (2, [.ref aK, .ref aF, .ref aP, .ref aS, .ref aD, .int cn])), (aK, .inl (cI, nT, .inl K)), (aF, .inl (cI, nT, .inl F))] := hD
    refine lv_goto (tgt := 17) hx hb d_L_nameAt_10 (by decide) ?_
    refine lv_iconst (v := 0) hx hb d_L_nameAt_17 (by decide) ?_
    subst hQ
    exact r_i hx hb hr hlocks 0 (vp_updL ou (0 : Int32).toNatClampNeg (r_1.toInt64)) hv (hP.sub [1, 2, 3, 4, 5, 6, 7, 8, 0] rfl) hK (hD.sub [1, 2, 3, 4, 5, 6, 7, 8, 0] (by decide) rfl) hS (by omega) (by omega) d_L_nameAt_18
  · have hP : va_P dd cls5 [(aU, .inl (cL, ((1 : Int32).toNatClampNeg), .inr (.inl ou))), (oN, .inr (0, [.ref aT, .int tl, .int pl, .ref oW, .ref oT, .ref oP])), (oW, .inr (1, [.ref aX, .int ln, .ref aO, .ref aB, .ref aE, .int wc])), (aX, .inl (cB, nX, .inl tx)), (aB, .inl (cI, nO, .inl sb)), (aE, .inl (cI, nO, .inl se)), (oT, .inr (2, [.ref aK, .ref aF, .ref aP, .ref aS, .ref aD, .int cn])), (aK, .inl (cI, nT, .inl K)), (aF, .inl (cI, nT, .inl F))] H := hP
    have hD : va_D A [(aU, .inl (cL, ((1 : Int32).toNatClampNeg), .inr (.inl ou))), (oN, .inr (0, [.ref aT, .int tl, .int pl, .ref oW, .ref oT, .ref oP])), (oW, .inr (1, [.ref aX, .int ln, .ref aO, .ref aB, .ref aE, .int wc])), (aX, .inl (cB, nX, .inl tx)), (aB, .inl (cI, nO, .inl sb)), (aE, .inl (cI, nO, .inl se)), (oT, .inr (2, [.ref aK, .ref aF, .ref aP, .ref aS, .ref aD, .int cn])), (aK, .inl (cI, nT, .inl K)), (aF, .inl (cI, nT, .inl F))] := hD
    refine lv_astore (lv' := [(4, .ref x_3), (0, .ref oN), (1, .int x1), (2, .int x2), (3, .ref aU)]) hx hb d_L_nameAt_13 hl (by decide) rfl (fun ls hl => ?_)
    refine lv_iconst (v := 1) hx hb d_L_nameAt_15 (by decide) ?_
    subst hQ
    exact r_i hx hb hr hlocks 1 ou hv (hP.sub [1, 2, 3, 4, 5, 6, 7, 8, 0] rfl) hK (hD.sub [1, 2, 3, 4, 5, 6, 7, 8, 0] (by decide) rfl) hS (by omega) (by omega) d_L_nameAt_16
def vc_L_end  (mc_ : Nat) (ms_ : Nat) (tl : Int32) (x1 : Int32) (K_ : Int32 → Int32 → Prop) : Prop :=
  (0 + (0 + 1) ≤ mc_ ∧ 0 + (0 + 6) ≤ ms_ ∧ (vc_N_end tl x1 (fun tl_2 => (K_ 0 tl_2)) (fun tle_3 => (K_ 1 tle_3))))
set_option maxHeartbeats 4000000 in
set_option maxRecDepth 100000 in
theorem met_L_end {l : Launch} {dd : va_G} {cB cI cL cS : ClassId} {adK adV : Nat → Nat} {oN : Nat} {aT : Nat} {oP : Nat} {oW : Nat} {oT : Nat}  {mc_ : Nat} {ms_ : Nat} {tl : Int32} {pl : Int32} {x1 : Int32} {K_ : Int32 → Int32 → Prop}  (hnt : NoTr l) (hv : vc_L_end  mc_ ms_ tl x1 K_) : Ct l y_L_end w_L_end (rmk 8 mc_ ms_) dd cls5 [(cB, .byte), (cI, .int), (cL, .long), (cS, .object "java/lang/String")] (XF adK adV) [(oN, .inr (0, [.ref aT, .int tl, .int pl, .ref oW, .ref oT, .ref oP]))] [.ref oN, .int x1] (qi dd cls5 [(cB, .byte), (cI, .int), (cL, .long), (cS, .object "java/lang/String")] (fun u_ : Int32 => [(oN, .inr (0, [.ref aT, .int u_, .int pl, .ref oW, .ref oT, .ref oP]))]) (fun r_ u_ => K_ r_ u_)) mc_ ms_ := by
  refine m_ofW (cc := b_L_end) (nL := 3) (ret := (some .int)) (by decide) rfl (Nat.le_of_ble_eq_true rfl) ?_
  intro p e s m below meth c ls A ar Fx_ hrow hA hP hK hD hS hX hl
  obtain ⟨hx, hb, hml, hr, hlocks, hown, hts, hinn⟩ := Fx_
  generalize hQ : MQ below ((qi dd cls5 [(cB, .byte), (cI, .int), (cL, .long), (cS, .object "java/lang/String")] (fun u_ : Int32 => [(oN, .inr (0, [.ref aT, .int u_, .int pl, .ref oW, .ref oT, .ref oP]))]) (fun r_ u_ => K_ r_ u_)) A) ar s mc_ ms_ A = QQ
  have hl : lv_has ls 3 [(0, .ref oN), (1, .int x1)] := hl
  unfold vc_L_end at hv
  refine lv_aload_n hx hb d_L_end_0 rfl (lv_at hl 0 rfl) ?_
  refine lv_iload_n hx hb d_L_end_1 rfl (lv_at hl 1 rfl) ?_
  obtain ⟨h_5, h_6, hv⟩ := hv
  have hM := met_N_end (l := l) (dd := dd) (cB := cB) (cI := cI) (cL := cL) (cS := cS) (adK := adK) (adV := adV) (oN := oN) (aT := aT) (oP := oP) (oW := oW) (oT := oT) (pl := pl)  hnt hv
  refine kc_v (st := [.int x1, .ref oN]) (rest := []) (wr := []) ⟨hx, hb, hml, hown, hts⟩ hM (cwV 1 hts (gv (tg0 at_609) (tg0 at_610) (tg0 at_611) (tg0 at_1) (tg0 at_612)) rfl rfl rfl (by decide +kernel) (rk (by omega) (by decide))) xfb (xfg hX) hP hK hD hS hA [0] [] rfl rfl (by decide) (by decide) (by decide) (ci := 0) rfl rfl (q0 := 0) rfl hrow (by decide) (by decide) (hts (.classLink "NetTextLaw" 19 "java/lang/IllegalArgumentException") (tg at_608)) rfl hl.1 rfl (Nat.le_of_ble_eq_true rfl) d_L_end_2 ⟨h_5, h_6⟩ (fun u_7 H locs hv hP hD hS => ?_) (fun x_4 u_7e H locs hv hP hD hS => ?_)
  · obtain ⟨tl_2, rfl⟩ : ∃ z, z = u_7 := ⟨_, rfl⟩
    have hP : va_P dd cls5 [(oN, .inr (0, [.ref aT, .int tl_2, .int pl, .ref oW, .ref oT, .ref oP]))] H := hP
    have hD : va_D A [(oN, .inr (0, [.ref aT, .int tl_2, .int pl, .ref oW, .ref oT, .ref oP]))] := hD
    refine lv_goto (tgt := 11) hx hb d_L_end_5 (by decide) ?_
    refine lv_iconst (v := 0) hx hb d_L_end_11 (by decide) ?_
    subst hQ
    exact r_i hx hb hr hlocks 0 tl_2 hv (hP.sub [0] rfl) hK (hD.sub [0] (by decide) rfl) hS (by omega) (by omega) d_L_end_12
  · obtain ⟨tle_3, rfl⟩ : ∃ z, z = u_7e := ⟨_, rfl⟩
    have hP : va_P dd cls5 [(oN, .inr (0, [.ref aT, .int tle_3, .int pl, .ref oW, .ref oT, .ref oP]))] H := hP
    have hD : va_D A [(oN, .inr (0, [.ref aT, .int tle_3, .int pl, .ref oW, .ref oT, .ref oP]))] := hD
    refine lv_astore_n (lv' := [(2, .ref x_4), (0, .ref oN), (1, .int x1)]) hx hb d_L_end_8 rfl hl (by decide) rfl (fun ls hl => ?_)
    refine lv_iconst (v := 1) hx hb d_L_end_9 (by decide) ?_
    subst hQ
    exact r_i hx hb hr hlocks 1 tle_3 hv (hP.sub [0] rfl) hK (hD.sub [0] (by decide) rfl) hS (by omega) (by omega) d_L_end_10
def vc_L_feed  (mc_ : Nat) (ms_ : Nat) (nA : Nat) (tp : FN) (tl : Int32) (ou : FL) (aT : Nat) (x1 : Int32) (x2 : Int32) (x3 : Int32) (x4 : Int32) (x5 : Int32) (K_ : Int32 → Nat → Nat → FN → Int32 → FL → Prop) : Prop :=
  (∃ c_6 s_7 : Nat, 0 + (c_6 + 1) ≤ mc_ ∧ 0 + (s_7 + 6) ≤ ms_ ∧ (vc_N_feed c_6 s_7 nA tp tl aT x1 x2 x3 x4 x5 (fun r_1 aT_2 nA_3 tp_4 tl_5 => (vp_in 0 ((1 : Int32).toNatClampNeg) ∧ (K_ 0 aT_2 nA_3 tp_4 tl_5 (vp_updL ou (0 : Int32).toNatClampNeg (r_1.toInt64))))) (fun aTe_9 nAe_10 tpe_11 tle_12 => (K_ 1 aTe_9 nAe_10 tpe_11 tle_12 ou))))
set_option maxHeartbeats 4000000 in
set_option maxRecDepth 100000 in
theorem met_L_feed {l : Launch} {dd : va_G} {cB cI cL cS : ClassId} {adK adV : Nat → Nat} {oN : Nat} {oP : Nat} {oW : Nat} {oT : Nat} {aU : Nat}  {mc_ : Nat} {ms_ : Nat} {nA : Nat} {tp : FN} {tl : Int32} {ou : FL} {aT : Nat} {pl : Int32} {x1 : Int32} {x2 : Int32} {x3 : Int32} {x4 : Int32} {x5 : Int32} {K_ : Int32 → Nat → Nat → FN → Int32 → FL → Prop}  (hnt : NoTr l) (hv : vc_L_feed  mc_ ms_ nA tp tl ou aT x1 x2 x3 x4 x5 K_) : Ct l y_L_feed w_L_feed (rmk 8 mc_ ms_) dd cls5 [(cB, .byte), (cI, .int), (cL, .long), (cS, .object "java/lang/String")] (XF adK adV) [(oN, .inr (0, [.ref aT, .int tl, .int pl, .ref oW, .ref oT, .ref oP])), (aT, .inl (cB, nA, .inl tp)), (aU, .inl (cL, ((1 : Int32).toNatClampNeg), .inr (.inl ou)))] [.ref oN, .int x1, .int x2, .int x3, .int x4, .int x5, .ref aU] (qi dd cls5 [(cB, .byte), (cI, .int), (cL, .long), (cS, .object "java/lang/String")] (fun u_ : Nat × Nat × FN × Int32 × FL => [(oN, .inr (0, [.ref u_.1, .int u_.2.2.2.1, .int pl, .ref oW, .ref oT, .ref oP])), (u_.1, .inl (cB, u_.2.1, .inl u_.2.2.1)), (aU, .inl (cL, ((1 : Int32).toNatClampNeg), .inr (.inl u_.2.2.2.2)))]) (fun r_ u_ => K_ r_ u_.1 u_.2.1 u_.2.2.1 u_.2.2.2.1 u_.2.2.2.2)) mc_ ms_ := by
  refine m_ofW (cc := b_L_feed) (nL := 8) (ret := (some .int)) (by decide) rfl (Nat.le_of_ble_eq_true rfl) ?_
  intro p e s m below meth c ls A ar Fx_ hrow hA hP hK hD hS hX hl
  obtain ⟨hx, hb, hml, hr, hlocks, hown, hts, hinn⟩ := Fx_
  generalize hQ : MQ below ((qi dd cls5 [(cB, .byte), (cI, .int), (cL, .long), (cS, .object "java/lang/String")] (fun u_ : Nat × Nat × FN × Int32 × FL => [(oN, .inr (0, [.ref u_.1, .int u_.2.2.2.1, .int pl, .ref oW, .ref oT, .ref oP])), (u_.1, .inl (cB, u_.2.1, .inl u_.2.2.1)), (aU, .inl (cL, ((1 : Int32).toNatClampNeg), .inr (.inl u_.2.2.2.2)))]) (fun r_ u_ => K_ r_ u_.1 u_.2.1 u_.2.2.1 u_.2.2.2.1 u_.2.2.2.2)) A) ar s mc_ ms_ A = QQ
  have hl : lv_has ls 8 [(0, .ref oN), (1, .int x1), (2, .int x2), (3, .int x3), (4, .int x4), (5, .int x5), (6, .ref aU)] := hl
  unfold vc_L_feed at hv
  refine lv_aload hx hb d_L_feed_0 (lv_at hl 6 rfl) ?_
  refine lv_iconst (v := 0) hx hb d_L_feed_2 (by decide) ?_
  refine lv_aload_n hx hb d_L_feed_3 rfl (lv_at hl 0 rfl) ?_
  refine lv_iload_n hx hb d_L_feed_4 rfl (lv_at hl 1 rfl) ?_
  refine lv_iload_n hx hb d_L_feed_5 rfl (lv_at hl 2 rfl) ?_
  refine lv_iload_n hx hb d_L_feed_6 rfl (lv_at hl 3 rfl) ?_
  refine lv_iload hx hb d_L_feed_7 (lv_at hl 4 rfl) ?_
  refine lv_iload hx hb d_L_feed_9 (lv_at hl 5 rfl) ?_
  obtain ⟨c_6, s_7, h_14, h_15, hv⟩ := hv
  have hM := met_N_feed (l := l) (dd := dd) (cB := cB) (cI := cI) (cL := cL) (cS := cS) (adK := adK) (adV := adV) (oN := oN) (oP := oP) (oW := oW) (oT := oT) (pl := pl)  hnt hv
  refine kc_i (st := [.int x5, .int x4, .int x3, .int x2, .int x1, .ref oN, .int 0, .ref aU]) (rest := [.int 0, .ref aU]) (wr := [(aU, .inl (cL, ((1 : Int32).toNatClampNeg), .inr (.inl ou)))]) ⟨hx, hb, hml, hown, hts⟩ hM (cwV 5 hts (gv (tg0 at_517) (tg0 at_518) (tg0 at_519) (tg0 at_1) (tg0 at_520)) rfl rfl rfl (by decide +kernel) (rk (by omega) (by decide))) xfb (xfg hX) hP hK hD hS hA [0, 1] [2] rfl rfl (by decide) (by decide) (by decide) (ci := 0) rfl rfl (q0 := 0) rfl hrow (by decide) (by decide) (hts (.classLink "NetTextLaw" 13 "java/lang/IllegalStateException") (tg at_516)) rfl hl.1 rfl (Nat.le_of_ble_eq_true rfl) d_L_feed_11 ⟨h_14, h_15⟩ (fun r_1 u_16 H locs hv hP hD hS => ?_) (fun x_13 u_16e H locs hv hP hD hS => ?_)
  · obtain ⟨aT_2, nA_3, tp_4, tl_5⟩ := u_16
    have hP : va_P dd cls5 [(aU, .inl (cL, ((1 : Int32).toNatClampNeg), .inr (.inl ou))), (oN, .inr (0, [.ref aT_2, .int tl_5, .int pl, .ref oW, .ref oT, .ref oP])), (aT_2, .inl (cB, nA_3, .inl tp_4))] H := hP
    have hD : va_D A [(aU, .inl (cL, ((1 : Int32).toNatClampNeg), .inr (.inl ou))), (oN, .inr (0, [.ref aT_2, .int tl_5, .int pl, .ref oW, .ref oT, .ref oP])), (aT_2, .inl (cB, nA_3, .inl tp_4))] := hD
    refine lv_i2l (v := (r_1.toInt64)) hx hb d_L_feed_14 rfl ?_
    obtain ⟨h_8, hv⟩ := hv
    refine va_last hx hb hK hP hD hS 0 2 rfl rfl h_8 d_L_feed_15 (fun H locs hP hD hS => ?_)
    have hP : va_P dd cls5 [(aU, .inl (cL, ((1 : Int32).toNatClampNeg), .inr (.inl (vp_updL ou (0 : Int32).toNatClampNeg (r_1.toInt64))))), (oN, .inr (0, [.ref aT_2, .int tl_5, .int pl, .ref oW, .ref oT, .ref oP])), (aT_2, .inl (cB, nA_3, .inl tp_4))] H := hP
    have hD : va_D A [(aU, .inl (cL, ((1 : Int32).toNatClampNeg), .inr (.inl (vp_updL ou (0 : Int32).toNatClampNeg (r_1.toInt64))))), (oN, .inr (0, [.ref aT_2, .int tl_5, .int pl, .ref oW, .ref oT, .ref oP])), (aT_2, .inl (cB, nA_3, .inl tp_4))] := hD
    refine lv_goto (tgt := 23) hx hb d_L_feed_16 (by decide) ?_
    refine lv_iconst (v := 0) hx hb d_L_feed_23 (by decide) ?_
    subst hQ
    exact r_i hx hb hr hlocks 0 (aT_2, nA_3, tp_4, tl_5, (vp_updL ou (0 : Int32).toNatClampNeg (r_1.toInt64))) hv (hP.sub [1, 2, 0] rfl) hK (hD.sub [1, 2, 0] (by decide) rfl) hS (by omega) (by omega) d_L_feed_24
  · obtain ⟨aTe_9, nAe_10, tpe_11, tle_12⟩ := u_16e
    have hP : va_P dd cls5 [(aU, .inl (cL, ((1 : Int32).toNatClampNeg), .inr (.inl ou))), (oN, .inr (0, [.ref aTe_9, .int tle_12, .int pl, .ref oW, .ref oT, .ref oP])), (aTe_9, .inl (cB, nAe_10, .inl tpe_11))] H := hP
    have hD : va_D A [(aU, .inl (cL, ((1 : Int32).toNatClampNeg), .inr (.inl ou))), (oN, .inr (0, [.ref aTe_9, .int tle_12, .int pl, .ref oW, .ref oT, .ref oP])), (aTe_9, .inl (cB, nAe_10, .inl tpe_11))] := hD
    refine lv_astore (lv' := [(7, .ref x_13), (0, .ref oN), (1, .int x1), (2, .int x2), (3, .int x3), (4, .int x4), (5, .int x5), (6, .ref aU)]) hx hb d_L_feed_19 hl (by decide) rfl (fun ls hl => ?_)
    refine lv_iconst (v := 1) hx hb d_L_feed_21 (by decide) ?_
    subst hQ
    exact r_i hx hb hr hlocks 1 (aTe_9, nAe_10, tpe_11, tle_12, ou) hv (hP.sub [1, 2, 0] rfl) hK (hD.sub [1, 2, 0] (by decide) rfl) hS (by omega) (by omega) d_L_feed_22
