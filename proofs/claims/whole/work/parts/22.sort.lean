theorem ap_0 : lw_tbl[0]? = some (.selects "NetText$Words" ⟨"NetText$Words", "keep", "([BI)V"⟩ ⟨"NetText$Words", "keep", "([BI)V"⟩) := by decide +kernel
theorem ap_1 : lw_tbl[1]? = some (.selects "NetText$Words" ⟨"NetText$Words", "afterBlanks", "(I)I"⟩ ⟨"NetText$Words", "afterBlanks", "(I)I"⟩) := by decide +kernel
theorem ap_2 : lw_tbl[2]? = some (.selects "NetText$Words" ⟨"NetText$Words", "endOfWord", "(I)I"⟩ ⟨"NetText$Words", "endOfWord", "(I)I"⟩) := by decide +kernel
theorem ap_6 : lw_tbl[6]? = some (.selects "NetText$Words" ⟨"NetText$Words", "sortOfBytes", "(II)I"⟩ ⟨"NetText$Words", "sortOfBytes", "(II)I"⟩) := by decide +kernel
theorem ap_7 : lw_tbl[7]? = some (.selects "NetText$Words" ⟨"NetText$Words", "sortOfName", "(II)I"⟩ ⟨"NetText$Words", "sortOfName", "(II)I"⟩) := by decide +kernel
theorem ap_8 : lw_tbl[8]? = some (.selects "NetText$Words" ⟨"NetText$Words", "sortOfThree", "(I)I"⟩ ⟨"NetText$Words", "sortOfThree", "(I)I"⟩) := by decide +kernel
theorem ap_9 : lw_tbl[9]? = some (.selects "NetText$Words" ⟨"NetText$Words", "spells", "(ILjava/lang/String;)Z"⟩ ⟨"NetText$Words", "spells", "(ILjava/lang/String;)Z"⟩) := by decide +kernel
theorem ap_10 : lw_tbl[10]? = some (.selects "NetText$Words" ⟨"NetText$Words", "sortOfFour", "(I)I"⟩ ⟨"NetText$Words", "sortOfFour", "(I)I"⟩) := by decide +kernel
theorem ap_11 : lw_tbl[11]? = some (.selects "NetText$Words" ⟨"NetText$Words", "sortOfFive", "(I)I"⟩ ⟨"NetText$Words", "sortOfFive", "(I)I"⟩) := by decide +kernel
theorem ap_12 : lw_tbl[12]? = some (.selects "NetText$Words" ⟨"NetText$Words", "isNumber", "(II)Z"⟩ ⟨"NetText$Words", "isNumber", "(II)Z"⟩) := by decide +kernel
theorem ap_13 : lw_tbl[13]? = some (.selects "NetText$Words" ⟨"NetText$Words", "add", "(III)V"⟩ ⟨"NetText$Words", "add", "(III)V"⟩) := by decide +kernel
theorem at_138 : lw_tbl[222]? = some (.methodLink "NetText$Words" 32 ⟨"NetText$Words", "keep", "([BI)V"⟩) := by decide +kernel
theorem at_140 : lw_tbl[224]? = some (.instanceMethod ⟨"NetText$Words", "keep", "([BI)V"⟩) := by decide +kernel
theorem at_141 : lw_tbl[225]? = some (.code ⟨"NetText$Words", "keep", "([BI)V"⟩ prog_6_method_3_code 4 none) := by decide +kernel
theorem at_145 : lw_tbl[229]? = some (.methodLink "NetText$Words" 38 ⟨"NetText$Words", "afterBlanks", "(I)I"⟩) := by decide +kernel
theorem at_147 : lw_tbl[231]? = some (.instanceMethod ⟨"NetText$Words", "afterBlanks", "(I)I"⟩) := by decide +kernel
theorem at_148 : lw_tbl[232]? = some (.code ⟨"NetText$Words", "afterBlanks", "(I)I"⟩ prog_6_method_5_code 4 (some .int)) := by decide +kernel
theorem at_156 : lw_tbl[240]? = some (.methodLink "NetText$Words" 42 ⟨"NetText$Words", "endOfWord", "(I)I"⟩) := by decide +kernel
theorem at_158 : lw_tbl[242]? = some (.instanceMethod ⟨"NetText$Words", "endOfWord", "(I)I"⟩) := by decide +kernel
theorem at_159 : lw_tbl[243]? = some (.code ⟨"NetText$Words", "endOfWord", "(I)I"⟩ prog_6_method_6_code 3 (some .int)) := by decide +kernel
theorem at_181 : lw_tbl[265]? = some (.methodLink "NetText$Words" 45 ⟨"NetText$Words", "sortOfBytes", "(II)I"⟩) := by decide +kernel
theorem at_183 : lw_tbl[267]? = some (.instanceMethod ⟨"NetText$Words", "sortOfBytes", "(II)I"⟩) := by decide +kernel
theorem at_184 : lw_tbl[268]? = some (.code ⟨"NetText$Words", "sortOfBytes", "(II)I"⟩ prog_6_method_7_code 4 (some .int)) := by decide +kernel
theorem at_185 : lw_tbl[269]? = some (.methodLink "NetText$Words" 83 ⟨"NetText$Words", "sortOfName", "(II)I"⟩) := by decide +kernel
theorem at_187 : lw_tbl[271]? = some (.instanceMethod ⟨"NetText$Words", "sortOfName", "(II)I"⟩) := by decide +kernel
theorem at_188 : lw_tbl[272]? = some (.code ⟨"NetText$Words", "sortOfName", "(II)I"⟩ prog_6_method_12_code 3 (some .int)) := by decide +kernel
theorem at_189 : lw_tbl[273]? = some (.methodLink "NetText$Words" 100 ⟨"NetText$Words", "sortOfThree", "(I)I"⟩) := by decide +kernel
theorem at_191 : lw_tbl[275]? = some (.instanceMethod ⟨"NetText$Words", "sortOfThree", "(I)I"⟩) := by decide +kernel
theorem at_192 : lw_tbl[276]? = some (.code ⟨"NetText$Words", "sortOfThree", "(I)I"⟩ prog_6_method_13_code 2 (some .int)) := by decide +kernel
theorem at_194 : lw_tbl[278]? = some (.methodLink "NetText$Words" 111 ⟨"NetText$Words", "spells", "(ILjava/lang/String;)Z"⟩) := by decide +kernel
theorem at_196 : lw_tbl[280]? = some (.instanceMethod ⟨"NetText$Words", "spells", "(ILjava/lang/String;)Z"⟩) := by decide +kernel
theorem at_197 : lw_tbl[281]? = some (.code ⟨"NetText$Words", "spells", "(ILjava/lang/String;)Z"⟩ prog_6_method_16_code 4 (some .boolean)) := by decide +kernel
theorem at_198 : lw_tbl[282]? = some (.methodLink "NetText$Words" 147 ⟨"java/lang/String", "length", "()I"⟩) := by decide +kernel
theorem at_208 : lw_tbl[292]? = some (.methodLink "NetText$Words" 150 ⟨"java/lang/String", "charAt", "(I)C"⟩) := by decide +kernel
theorem at_209 : lw_tbl[293]? = some (.instanceMethod ⟨"java/lang/String", "charAt", "(I)C"⟩) := by decide +kernel
theorem at_210 : lw_tbl[294]? = some (.selects "java/lang/String" ⟨"java/lang/String", "charAt", "(I)C"⟩ ⟨"java/lang/String", "charAt", "(I)C"⟩) := by decide +kernel
theorem at_211 : lw_tbl[295]? = some (.code ⟨"java/lang/String", "charAt", "(I)C"⟩ prog_17_method_56_code 2 (some .char)) := by decide +kernel
theorem at_247 : lw_tbl[331]? = some (.methodLink "NetText$Words" 103 ⟨"NetText$Words", "sortOfFour", "(I)I"⟩) := by decide +kernel
theorem at_249 : lw_tbl[333]? = some (.instanceMethod ⟨"NetText$Words", "sortOfFour", "(I)I"⟩) := by decide +kernel
theorem at_250 : lw_tbl[334]? = some (.code ⟨"NetText$Words", "sortOfFour", "(I)I"⟩ prog_6_method_14_code 2 (some .int)) := by decide +kernel
theorem at_256 : lw_tbl[340]? = some (.methodLink "NetText$Words" 106 ⟨"NetText$Words", "sortOfFive", "(I)I"⟩) := by decide +kernel
theorem at_258 : lw_tbl[342]? = some (.instanceMethod ⟨"NetText$Words", "sortOfFive", "(I)I"⟩) := by decide +kernel
theorem at_259 : lw_tbl[343]? = some (.code ⟨"NetText$Words", "sortOfFive", "(I)I"⟩ prog_6_method_15_code 2 (some .int)) := by decide +kernel
theorem at_270 : lw_tbl[354]? = some (.methodLink "NetText$Words" 86 ⟨"NetText$Words", "isNumber", "(II)Z"⟩) := by decide +kernel
theorem at_272 : lw_tbl[356]? = some (.instanceMethod ⟨"NetText$Words", "isNumber", "(II)Z"⟩) := by decide +kernel
theorem at_273 : lw_tbl[357]? = some (.code ⟨"NetText$Words", "isNumber", "(II)Z"⟩ prog_6_method_11_code 5 (some .boolean)) := by decide +kernel
theorem at_275 : lw_tbl[359]? = some (.methodLink "NetText$Words" 92 ⟨"java/lang/String", "indexOf", "(I)I"⟩) := by decide +kernel
theorem at_276 : lw_tbl[360]? = some (.instanceMethod ⟨"java/lang/String", "indexOf", "(I)I"⟩) := by decide +kernel
theorem at_277 : lw_tbl[361]? = some (.selects "java/lang/String" ⟨"java/lang/String", "indexOf", "(I)I"⟩ ⟨"java/lang/String", "indexOf", "(I)I"⟩) := by decide +kernel
theorem at_278 : lw_tbl[362]? = some (.code ⟨"java/lang/String", "indexOf", "(I)I"⟩ prog_17_method_79_code 2 (some .int)) := by decide +kernel
theorem at_332 : lw_tbl[416]? = some (.methodLink "NetText$Words" 49 ⟨"NetText$Words", "add", "(III)V"⟩) := by decide +kernel
theorem at_334 : lw_tbl[418]? = some (.instanceMethod ⟨"NetText$Words", "add", "(III)V"⟩) := by decide +kernel
theorem at_335 : lw_tbl[419]? = some (.code ⟨"NetText$Words", "add", "(III)V"⟩ prog_6_method_4_code 4 none) := by decide +kernel
abbrev b_W_spells : ByteArray := prog_6_method_16_code
def y_W_spells : MethodName := ⟨"NetText$Words", "spells", "(ILjava/lang/String;)Z"⟩
abbrev w_W_spells : List Cond := .code y_W_spells b_W_spells 4 (some .boolean) :: lw_gt
theorem d_W_spells_0 : decode b_W_spells 0 = .ok (.iconst 0, 1) := by decide +kernel
theorem d_W_spells_1 : decode b_W_spells 1 = .ok (.istore_n 3, 1) := by decide +kernel
theorem d_W_spells_2 : decode b_W_spells 2 = .ok (.iload_n 3, 1) := by decide +kernel
theorem d_W_spells_3 : decode b_W_spells 3 = .ok (.aload_n 2, 1) := by decide +kernel
theorem d_W_spells_4 : decode b_W_spells 4 = .ok (.invokevirtual 147, 3) := by decide +kernel
theorem d_W_spells_7 : decode b_W_spells 7 = .ok (.if_icmp .ge 26, 3) := by decide +kernel
theorem d_W_spells_10 : decode b_W_spells 10 = .ok (.aload_n 0, 1) := by decide +kernel
theorem d_W_spells_11 : decode b_W_spells 11 = .ok (.iload_n 1, 1) := by decide +kernel
theorem d_W_spells_12 : decode b_W_spells 12 = .ok (.iload_n 3, 1) := by decide +kernel
theorem d_W_spells_13 : decode b_W_spells 13 = .ok (.iadd, 1) := by decide +kernel
theorem d_W_spells_14 : decode b_W_spells 14 = .ok (.invokevirtual 59, 3) := by decide +kernel
theorem d_W_spells_17 : decode b_W_spells 17 = .ok (.aload_n 2, 1) := by decide +kernel
theorem d_W_spells_18 : decode b_W_spells 18 = .ok (.iload_n 3, 1) := by decide +kernel
theorem d_W_spells_19 : decode b_W_spells 19 = .ok (.invokevirtual 150, 3) := by decide +kernel
theorem d_W_spells_22 : decode b_W_spells 22 = .ok (.if_icmp .eq 5, 3) := by decide +kernel
theorem d_W_spells_25 : decode b_W_spells 25 = .ok (.iconst 0, 1) := by decide +kernel
theorem d_W_spells_26 : decode b_W_spells 26 = .ok (.ireturn, 1) := by decide +kernel
theorem d_W_spells_27 : decode b_W_spells 27 = .ok (.iinc 3 1, 3) := by decide +kernel
theorem d_W_spells_30 : decode b_W_spells 30 = .ok (.goto (-28), 3) := by decide +kernel
theorem d_W_spells_33 : decode b_W_spells 33 = .ok (.iconst 1, 1) := by decide +kernel
theorem d_W_spells_34 : decode b_W_spells 34 = .ok (.ireturn, 1) := by decide +kernel
abbrev b_W_sortOfThree : ByteArray := prog_6_method_13_code
def y_W_sortOfThree : MethodName := ⟨"NetText$Words", "sortOfThree", "(I)I"⟩
abbrev w_W_sortOfThree : List Cond := .code y_W_sortOfThree b_W_sortOfThree 2 (some .int) :: lw_gt
theorem d_W_sortOfThree_0 : decode b_W_sortOfThree 0 = .ok (.aload_n 0, 1) := by decide +kernel
theorem d_W_sortOfThree_1 : decode b_W_sortOfThree 1 = .ok (.iload_n 1, 1) := by decide +kernel
theorem d_W_sortOfThree_2 : decode b_W_sortOfThree 2 = .ok (.ldc 117, 2) := by decide +kernel
theorem d_W_sortOfThree_4 : decode b_W_sortOfThree 4 = .ok (.invokevirtual 111, 3) := by decide +kernel
theorem d_W_sortOfThree_7 : decode b_W_sortOfThree 7 = .ok (.ifCond .eq 7, 3) := by decide +kernel
theorem d_W_sortOfThree_10 : decode b_W_sortOfThree 10 = .ok (.sipush 259, 3) := by decide +kernel
theorem d_W_sortOfThree_13 : decode b_W_sortOfThree 13 = .ok (.ireturn, 1) := by decide +kernel
theorem d_W_sortOfThree_14 : decode b_W_sortOfThree 14 = .ok (.aload_n 0, 1) := by decide +kernel
theorem d_W_sortOfThree_15 : decode b_W_sortOfThree 15 = .ok (.iload_n 1, 1) := by decide +kernel
theorem d_W_sortOfThree_16 : decode b_W_sortOfThree 16 = .ok (.ldc 119, 2) := by decide +kernel
theorem d_W_sortOfThree_18 : decode b_W_sortOfThree 18 = .ok (.invokevirtual 111, 3) := by decide +kernel
theorem d_W_sortOfThree_21 : decode b_W_sortOfThree 21 = .ok (.ifCond .eq 9, 3) := by decide +kernel
theorem d_W_sortOfThree_24 : decode b_W_sortOfThree 24 = .ok (.sipush 261, 3) := by decide +kernel
theorem d_W_sortOfThree_27 : decode b_W_sortOfThree 27 = .ok (.goto 4, 3) := by decide +kernel
theorem d_W_sortOfThree_30 : decode b_W_sortOfThree 30 = .ok (.iconst 3, 1) := by decide +kernel
theorem d_W_sortOfThree_31 : decode b_W_sortOfThree 31 = .ok (.ireturn, 1) := by decide +kernel
abbrev b_W_sortOfFour : ByteArray := prog_6_method_14_code
def y_W_sortOfFour : MethodName := ⟨"NetText$Words", "sortOfFour", "(I)I"⟩
abbrev w_W_sortOfFour : List Cond := .code y_W_sortOfFour b_W_sortOfFour 2 (some .int) :: lw_gt
theorem d_W_sortOfFour_0 : decode b_W_sortOfFour 0 = .ok (.aload_n 0, 1) := by decide +kernel
theorem d_W_sortOfFour_1 : decode b_W_sortOfFour 1 = .ok (.iload_n 1, 1) := by decide +kernel
theorem d_W_sortOfFour_2 : decode b_W_sortOfFour 2 = .ok (.ldc 121, 2) := by decide +kernel
theorem d_W_sortOfFour_4 : decode b_W_sortOfFour 4 = .ok (.invokevirtual 111, 3) := by decide +kernel
theorem d_W_sortOfFour_7 : decode b_W_sortOfFour 7 = .ok (.ifCond .eq 7, 3) := by decide +kernel
theorem d_W_sortOfFour_10 : decode b_W_sortOfFour 10 = .ok (.sipush 260, 3) := by decide +kernel
theorem d_W_sortOfFour_13 : decode b_W_sortOfFour 13 = .ok (.ireturn, 1) := by decide +kernel
theorem d_W_sortOfFour_14 : decode b_W_sortOfFour 14 = .ok (.aload_n 0, 1) := by decide +kernel
theorem d_W_sortOfFour_15 : decode b_W_sortOfFour 15 = .ok (.iload_n 1, 1) := by decide +kernel
theorem d_W_sortOfFour_16 : decode b_W_sortOfFour 16 = .ok (.ldc 123, 2) := by decide +kernel
theorem d_W_sortOfFour_18 : decode b_W_sortOfFour 18 = .ok (.invokevirtual 111, 3) := by decide +kernel
theorem d_W_sortOfFour_21 : decode b_W_sortOfFour 21 = .ok (.ifCond .eq 7, 3) := by decide +kernel
theorem d_W_sortOfFour_24 : decode b_W_sortOfFour 24 = .ok (.sipush 263, 3) := by decide +kernel
theorem d_W_sortOfFour_27 : decode b_W_sortOfFour 27 = .ok (.ireturn, 1) := by decide +kernel
theorem d_W_sortOfFour_28 : decode b_W_sortOfFour 28 = .ok (.aload_n 0, 1) := by decide +kernel
theorem d_W_sortOfFour_29 : decode b_W_sortOfFour 29 = .ok (.iload_n 1, 1) := by decide +kernel
theorem d_W_sortOfFour_30 : decode b_W_sortOfFour 30 = .ok (.ldc 125, 2) := by decide +kernel
theorem d_W_sortOfFour_32 : decode b_W_sortOfFour 32 = .ok (.invokevirtual 111, 3) := by decide +kernel
theorem d_W_sortOfFour_35 : decode b_W_sortOfFour 35 = .ok (.ifCond .eq 7, 3) := by decide +kernel
theorem d_W_sortOfFour_38 : decode b_W_sortOfFour 38 = .ok (.sipush 267, 3) := by decide +kernel
theorem d_W_sortOfFour_41 : decode b_W_sortOfFour 41 = .ok (.ireturn, 1) := by decide +kernel
theorem d_W_sortOfFour_42 : decode b_W_sortOfFour 42 = .ok (.aload_n 0, 1) := by decide +kernel
theorem d_W_sortOfFour_43 : decode b_W_sortOfFour 43 = .ok (.iload_n 1, 1) := by decide +kernel
theorem d_W_sortOfFour_44 : decode b_W_sortOfFour 44 = .ok (.ldc 127, 2) := by decide +kernel
theorem d_W_sortOfFour_46 : decode b_W_sortOfFour 46 = .ok (.invokevirtual 111, 3) := by decide +kernel
theorem d_W_sortOfFour_49 : decode b_W_sortOfFour 49 = .ok (.ifCond .eq 7, 3) := by decide +kernel
theorem d_W_sortOfFour_52 : decode b_W_sortOfFour 52 = .ok (.sipush 268, 3) := by decide +kernel
theorem d_W_sortOfFour_55 : decode b_W_sortOfFour 55 = .ok (.ireturn, 1) := by decide +kernel
theorem d_W_sortOfFour_56 : decode b_W_sortOfFour 56 = .ok (.aload_n 0, 1) := by decide +kernel
theorem d_W_sortOfFour_57 : decode b_W_sortOfFour 57 = .ok (.iload_n 1, 1) := by decide +kernel
theorem d_W_sortOfFour_58 : decode b_W_sortOfFour 58 = .ok (.ldc 129, 2) := by decide +kernel
theorem d_W_sortOfFour_60 : decode b_W_sortOfFour 60 = .ok (.invokevirtual 111, 3) := by decide +kernel
theorem d_W_sortOfFour_63 : decode b_W_sortOfFour 63 = .ok (.ifCond .eq 9, 3) := by decide +kernel
theorem d_W_sortOfFour_66 : decode b_W_sortOfFour 66 = .ok (.sipush 272, 3) := by decide +kernel
theorem d_W_sortOfFour_69 : decode b_W_sortOfFour 69 = .ok (.goto 4, 3) := by decide +kernel
theorem d_W_sortOfFour_72 : decode b_W_sortOfFour 72 = .ok (.iconst 3, 1) := by decide +kernel
theorem d_W_sortOfFour_73 : decode b_W_sortOfFour 73 = .ok (.ireturn, 1) := by decide +kernel
abbrev b_W_sortOfFive : ByteArray := prog_6_method_15_code
def y_W_sortOfFive : MethodName := ⟨"NetText$Words", "sortOfFive", "(I)I"⟩
abbrev w_W_sortOfFive : List Cond := .code y_W_sortOfFive b_W_sortOfFive 2 (some .int) :: lw_gt
theorem d_W_sortOfFive_0 : decode b_W_sortOfFive 0 = .ok (.aload_n 0, 1) := by decide +kernel
theorem d_W_sortOfFive_1 : decode b_W_sortOfFive 1 = .ok (.iload_n 1, 1) := by decide +kernel
theorem d_W_sortOfFive_2 : decode b_W_sortOfFive 2 = .ok (.ldc 131, 2) := by decide +kernel
theorem d_W_sortOfFive_4 : decode b_W_sortOfFive 4 = .ok (.invokevirtual 111, 3) := by decide +kernel
theorem d_W_sortOfFive_7 : decode b_W_sortOfFive 7 = .ok (.ifCond .eq 7, 3) := by decide +kernel
theorem d_W_sortOfFive_10 : decode b_W_sortOfFive 10 = .ok (.sipush 256, 3) := by decide +kernel
theorem d_W_sortOfFive_13 : decode b_W_sortOfFive 13 = .ok (.ireturn, 1) := by decide +kernel
theorem d_W_sortOfFive_14 : decode b_W_sortOfFive 14 = .ok (.aload_n 0, 1) := by decide +kernel
theorem d_W_sortOfFive_15 : decode b_W_sortOfFive 15 = .ok (.iload_n 1, 1) := by decide +kernel
theorem d_W_sortOfFive_16 : decode b_W_sortOfFive 16 = .ok (.ldc 133, 2) := by decide +kernel
theorem d_W_sortOfFive_18 : decode b_W_sortOfFive 18 = .ok (.invokevirtual 111, 3) := by decide +kernel
theorem d_W_sortOfFive_21 : decode b_W_sortOfFive 21 = .ok (.ifCond .eq 7, 3) := by decide +kernel
theorem d_W_sortOfFive_24 : decode b_W_sortOfFive 24 = .ok (.sipush 257, 3) := by decide +kernel
theorem d_W_sortOfFive_27 : decode b_W_sortOfFive 27 = .ok (.ireturn, 1) := by decide +kernel
theorem d_W_sortOfFive_28 : decode b_W_sortOfFive 28 = .ok (.aload_n 0, 1) := by decide +kernel
theorem d_W_sortOfFive_29 : decode b_W_sortOfFive 29 = .ok (.iload_n 1, 1) := by decide +kernel
theorem d_W_sortOfFive_30 : decode b_W_sortOfFive 30 = .ok (.ldc 135, 2) := by decide +kernel
theorem d_W_sortOfFive_32 : decode b_W_sortOfFive 32 = .ok (.invokevirtual 111, 3) := by decide +kernel
theorem d_W_sortOfFive_35 : decode b_W_sortOfFive 35 = .ok (.ifCond .eq 7, 3) := by decide +kernel
theorem d_W_sortOfFive_38 : decode b_W_sortOfFive 38 = .ok (.sipush 258, 3) := by decide +kernel
theorem d_W_sortOfFive_41 : decode b_W_sortOfFive 41 = .ok (.ireturn, 1) := by decide +kernel
theorem d_W_sortOfFive_42 : decode b_W_sortOfFive 42 = .ok (.aload_n 0, 1) := by decide +kernel
theorem d_W_sortOfFive_43 : decode b_W_sortOfFive 43 = .ok (.iload_n 1, 1) := by decide +kernel
theorem d_W_sortOfFive_44 : decode b_W_sortOfFive 44 = .ok (.ldc 137, 2) := by decide +kernel
theorem d_W_sortOfFive_46 : decode b_W_sortOfFive 46 = .ok (.invokevirtual 111, 3) := by decide +kernel
theorem d_W_sortOfFive_49 : decode b_W_sortOfFive 49 = .ok (.ifCond .eq 7, 3) := by decide +kernel
theorem d_W_sortOfFive_52 : decode b_W_sortOfFive 52 = .ok (.sipush 262, 3) := by decide +kernel
theorem d_W_sortOfFive_55 : decode b_W_sortOfFive 55 = .ok (.ireturn, 1) := by decide +kernel
theorem d_W_sortOfFive_56 : decode b_W_sortOfFive 56 = .ok (.aload_n 0, 1) := by decide +kernel
theorem d_W_sortOfFive_57 : decode b_W_sortOfFive 57 = .ok (.iload_n 1, 1) := by decide +kernel
theorem d_W_sortOfFive_58 : decode b_W_sortOfFive 58 = .ok (.ldc 139, 2) := by decide +kernel
theorem d_W_sortOfFive_60 : decode b_W_sortOfFive 60 = .ok (.invokevirtual 111, 3) := by decide +kernel
theorem d_W_sortOfFive_63 : decode b_W_sortOfFive 63 = .ok (.ifCond .eq 7, 3) := by decide +kernel
theorem d_W_sortOfFive_66 : decode b_W_sortOfFive 66 = .ok (.sipush 265, 3) := by decide +kernel
theorem d_W_sortOfFive_69 : decode b_W_sortOfFive 69 = .ok (.ireturn, 1) := by decide +kernel
theorem d_W_sortOfFive_70 : decode b_W_sortOfFive 70 = .ok (.aload_n 0, 1) := by decide +kernel
theorem d_W_sortOfFive_71 : decode b_W_sortOfFive 71 = .ok (.iload_n 1, 1) := by decide +kernel
theorem d_W_sortOfFive_72 : decode b_W_sortOfFive 72 = .ok (.ldc 141, 2) := by decide +kernel
theorem d_W_sortOfFive_74 : decode b_W_sortOfFive 74 = .ok (.invokevirtual 111, 3) := by decide +kernel
theorem d_W_sortOfFive_77 : decode b_W_sortOfFive 77 = .ok (.ifCond .eq 7, 3) := by decide +kernel
theorem d_W_sortOfFive_80 : decode b_W_sortOfFive 80 = .ok (.sipush 266, 3) := by decide +kernel
theorem d_W_sortOfFive_83 : decode b_W_sortOfFive 83 = .ok (.ireturn, 1) := by decide +kernel
theorem d_W_sortOfFive_84 : decode b_W_sortOfFive 84 = .ok (.aload_n 0, 1) := by decide +kernel
theorem d_W_sortOfFive_85 : decode b_W_sortOfFive 85 = .ok (.iload_n 1, 1) := by decide +kernel
theorem d_W_sortOfFive_86 : decode b_W_sortOfFive 86 = .ok (.ldc 143, 2) := by decide +kernel
theorem d_W_sortOfFive_88 : decode b_W_sortOfFive 88 = .ok (.invokevirtual 111, 3) := by decide +kernel
theorem d_W_sortOfFive_91 : decode b_W_sortOfFive 91 = .ok (.ifCond .eq 7, 3) := by decide +kernel
theorem d_W_sortOfFive_94 : decode b_W_sortOfFive 94 = .ok (.sipush 269, 3) := by decide +kernel
theorem d_W_sortOfFive_97 : decode b_W_sortOfFive 97 = .ok (.ireturn, 1) := by decide +kernel
theorem d_W_sortOfFive_98 : decode b_W_sortOfFive 98 = .ok (.aload_n 0, 1) := by decide +kernel
theorem d_W_sortOfFive_99 : decode b_W_sortOfFive 99 = .ok (.iload_n 1, 1) := by decide +kernel
theorem d_W_sortOfFive_100 : decode b_W_sortOfFive 100 = .ok (.ldc 145, 2) := by decide +kernel
theorem d_W_sortOfFive_102 : decode b_W_sortOfFive 102 = .ok (.invokevirtual 111, 3) := by decide +kernel
theorem d_W_sortOfFive_105 : decode b_W_sortOfFive 105 = .ok (.ifCond .eq 9, 3) := by decide +kernel
theorem d_W_sortOfFive_108 : decode b_W_sortOfFive 108 = .ok (.sipush 271, 3) := by decide +kernel
theorem d_W_sortOfFive_111 : decode b_W_sortOfFive 111 = .ok (.goto 4, 3) := by decide +kernel
theorem d_W_sortOfFive_114 : decode b_W_sortOfFive 114 = .ok (.iconst 3, 1) := by decide +kernel
theorem d_W_sortOfFive_115 : decode b_W_sortOfFive 115 = .ok (.ireturn, 1) := by decide +kernel
abbrev b_W_sortOfName : ByteArray := prog_6_method_12_code
def y_W_sortOfName : MethodName := ⟨"NetText$Words", "sortOfName", "(II)I"⟩
abbrev w_W_sortOfName : List Cond := .code y_W_sortOfName b_W_sortOfName 3 (some .int) :: lw_gt
theorem d_W_sortOfName_0 : decode b_W_sortOfName 0 = .ok (.iload_n 2, 1) := by decide +kernel
theorem d_W_sortOfName_1 : decode b_W_sortOfName 1 = .ok (.iload_n 1, 1) := by decide +kernel
theorem d_W_sortOfName_2 : decode b_W_sortOfName 2 = .ok (.isub, 1) := by decide +kernel
theorem d_W_sortOfName_3 : decode b_W_sortOfName 3 = .ok (.tableswitch 91 3 8 #[37, 43, 49, 55, 91, 73], 37) := by decide +kernel
theorem d_W_sortOfName_40 : decode b_W_sortOfName 40 = .ok (.aload_n 0, 1) := by decide +kernel
theorem d_W_sortOfName_41 : decode b_W_sortOfName 41 = .ok (.iload_n 1, 1) := by decide +kernel
theorem d_W_sortOfName_42 : decode b_W_sortOfName 42 = .ok (.invokevirtual 100, 3) := by decide +kernel
theorem d_W_sortOfName_45 : decode b_W_sortOfName 45 = .ok (.ireturn, 1) := by decide +kernel
theorem d_W_sortOfName_46 : decode b_W_sortOfName 46 = .ok (.aload_n 0, 1) := by decide +kernel
theorem d_W_sortOfName_47 : decode b_W_sortOfName 47 = .ok (.iload_n 1, 1) := by decide +kernel
theorem d_W_sortOfName_48 : decode b_W_sortOfName 48 = .ok (.invokevirtual 103, 3) := by decide +kernel
theorem d_W_sortOfName_51 : decode b_W_sortOfName 51 = .ok (.ireturn, 1) := by decide +kernel
theorem d_W_sortOfName_52 : decode b_W_sortOfName 52 = .ok (.aload_n 0, 1) := by decide +kernel
theorem d_W_sortOfName_53 : decode b_W_sortOfName 53 = .ok (.iload_n 1, 1) := by decide +kernel
theorem d_W_sortOfName_54 : decode b_W_sortOfName 54 = .ok (.invokevirtual 106, 3) := by decide +kernel
theorem d_W_sortOfName_57 : decode b_W_sortOfName 57 = .ok (.ireturn, 1) := by decide +kernel
theorem d_W_sortOfName_58 : decode b_W_sortOfName 58 = .ok (.aload_n 0, 1) := by decide +kernel
theorem d_W_sortOfName_59 : decode b_W_sortOfName 59 = .ok (.iload_n 1, 1) := by decide +kernel
theorem d_W_sortOfName_60 : decode b_W_sortOfName 60 = .ok (.ldc 109, 2) := by decide +kernel
theorem d_W_sortOfName_62 : decode b_W_sortOfName 62 = .ok (.invokevirtual 111, 3) := by decide +kernel
theorem d_W_sortOfName_65 : decode b_W_sortOfName 65 = .ok (.ifCond .eq 9, 3) := by decide +kernel
theorem d_W_sortOfName_68 : decode b_W_sortOfName 68 = .ok (.sipush 264, 3) := by decide +kernel
theorem d_W_sortOfName_71 : decode b_W_sortOfName 71 = .ok (.goto 4, 3) := by decide +kernel
theorem d_W_sortOfName_74 : decode b_W_sortOfName 74 = .ok (.iconst 3, 1) := by decide +kernel
theorem d_W_sortOfName_75 : decode b_W_sortOfName 75 = .ok (.ireturn, 1) := by decide +kernel
theorem d_W_sortOfName_76 : decode b_W_sortOfName 76 = .ok (.aload_n 0, 1) := by decide +kernel
theorem d_W_sortOfName_77 : decode b_W_sortOfName 77 = .ok (.iload_n 1, 1) := by decide +kernel
theorem d_W_sortOfName_78 : decode b_W_sortOfName 78 = .ok (.ldc 115, 2) := by decide +kernel
theorem d_W_sortOfName_80 : decode b_W_sortOfName 80 = .ok (.invokevirtual 111, 3) := by decide +kernel
theorem d_W_sortOfName_83 : decode b_W_sortOfName 83 = .ok (.ifCond .eq 9, 3) := by decide +kernel
theorem d_W_sortOfName_86 : decode b_W_sortOfName 86 = .ok (.sipush 270, 3) := by decide +kernel
theorem d_W_sortOfName_89 : decode b_W_sortOfName 89 = .ok (.goto 4, 3) := by decide +kernel
theorem d_W_sortOfName_92 : decode b_W_sortOfName 92 = .ok (.iconst 3, 1) := by decide +kernel
theorem d_W_sortOfName_93 : decode b_W_sortOfName 93 = .ok (.ireturn, 1) := by decide +kernel
theorem d_W_sortOfName_94 : decode b_W_sortOfName 94 = .ok (.iconst 3, 1) := by decide +kernel
theorem d_W_sortOfName_95 : decode b_W_sortOfName 95 = .ok (.ireturn, 1) := by decide +kernel
abbrev b_W_sortOfBytes : ByteArray := prog_6_method_7_code
def y_W_sortOfBytes : MethodName := ⟨"NetText$Words", "sortOfBytes", "(II)I"⟩
abbrev w_W_sortOfBytes : List Cond := .code y_W_sortOfBytes b_W_sortOfBytes 4 (some .int) :: lw_gt
theorem d_W_sortOfBytes_0 : decode b_W_sortOfBytes 0 = .ok (.aload_n 0, 1) := by decide +kernel
theorem d_W_sortOfBytes_1 : decode b_W_sortOfBytes 1 = .ok (.iload_n 1, 1) := by decide +kernel
theorem d_W_sortOfBytes_2 : decode b_W_sortOfBytes 2 = .ok (.invokevirtual 59, 3) := by decide +kernel
theorem d_W_sortOfBytes_5 : decode b_W_sortOfBytes 5 = .ok (.istore_n 3, 1) := by decide +kernel
theorem d_W_sortOfBytes_6 : decode b_W_sortOfBytes 6 = .ok (.iload_n 3, 1) := by decide +kernel
theorem d_W_sortOfBytes_7 : decode b_W_sortOfBytes 7 = .ok (.iconst (-1), 1) := by decide +kernel
theorem d_W_sortOfBytes_8 : decode b_W_sortOfBytes 8 = .ok (.if_icmp .ne 5, 3) := by decide +kernel
theorem d_W_sortOfBytes_11 : decode b_W_sortOfBytes 11 = .ok (.iconst 1, 1) := by decide +kernel
theorem d_W_sortOfBytes_12 : decode b_W_sortOfBytes 12 = .ok (.ireturn, 1) := by decide +kernel
theorem d_W_sortOfBytes_13 : decode b_W_sortOfBytes 13 = .ok (.iload_n 3, 1) := by decide +kernel
theorem d_W_sortOfBytes_14 : decode b_W_sortOfBytes 14 = .ok (.invokestatic 66, 3) := by decide +kernel
theorem d_W_sortOfBytes_17 : decode b_W_sortOfBytes 17 = .ok (.ifCond .eq 22, 3) := by decide +kernel
theorem d_W_sortOfBytes_20 : decode b_W_sortOfBytes 20 = .ok (.iload_n 2, 1) := by decide +kernel
theorem d_W_sortOfBytes_21 : decode b_W_sortOfBytes 21 = .ok (.iload_n 1, 1) := by decide +kernel
theorem d_W_sortOfBytes_22 : decode b_W_sortOfBytes 22 = .ok (.isub, 1) := by decide +kernel
theorem d_W_sortOfBytes_23 : decode b_W_sortOfBytes 23 = .ok (.bipush 40, 2) := by decide +kernel
theorem d_W_sortOfBytes_25 : decode b_W_sortOfBytes 25 = .ok (.if_icmp .gt 12, 3) := by decide +kernel
theorem d_W_sortOfBytes_28 : decode b_W_sortOfBytes 28 = .ok (.aload_n 0, 1) := by decide +kernel
theorem d_W_sortOfBytes_29 : decode b_W_sortOfBytes 29 = .ok (.iload_n 1, 1) := by decide +kernel
theorem d_W_sortOfBytes_30 : decode b_W_sortOfBytes 30 = .ok (.iload_n 2, 1) := by decide +kernel
theorem d_W_sortOfBytes_31 : decode b_W_sortOfBytes 31 = .ok (.invokevirtual 83, 3) := by decide +kernel
theorem d_W_sortOfBytes_34 : decode b_W_sortOfBytes 34 = .ok (.goto 4, 3) := by decide +kernel
theorem d_W_sortOfBytes_37 : decode b_W_sortOfBytes 37 = .ok (.iconst 2, 1) := by decide +kernel
theorem d_W_sortOfBytes_38 : decode b_W_sortOfBytes 38 = .ok (.ireturn, 1) := by decide +kernel
theorem d_W_sortOfBytes_39 : decode b_W_sortOfBytes 39 = .ok (.iload_n 3, 1) := by decide +kernel
theorem d_W_sortOfBytes_40 : decode b_W_sortOfBytes 40 = .ok (.invokestatic 72, 3) := by decide +kernel
theorem d_W_sortOfBytes_43 : decode b_W_sortOfBytes 43 = .ok (.ifCond .eq 18, 3) := by decide +kernel
theorem d_W_sortOfBytes_46 : decode b_W_sortOfBytes 46 = .ok (.aload_n 0, 1) := by decide +kernel
theorem d_W_sortOfBytes_47 : decode b_W_sortOfBytes 47 = .ok (.iload_n 1, 1) := by decide +kernel
theorem d_W_sortOfBytes_48 : decode b_W_sortOfBytes 48 = .ok (.iload_n 2, 1) := by decide +kernel
theorem d_W_sortOfBytes_49 : decode b_W_sortOfBytes 49 = .ok (.invokevirtual 86, 3) := by decide +kernel
theorem d_W_sortOfBytes_52 : decode b_W_sortOfBytes 52 = .ok (.ifCond .eq 7, 3) := by decide +kernel
theorem d_W_sortOfBytes_55 : decode b_W_sortOfBytes 55 = .ok (.iconst 4, 1) := by decide +kernel
theorem d_W_sortOfBytes_56 : decode b_W_sortOfBytes 56 = .ok (.goto 4, 3) := by decide +kernel
theorem d_W_sortOfBytes_59 : decode b_W_sortOfBytes 59 = .ok (.iconst 2, 1) := by decide +kernel
theorem d_W_sortOfBytes_60 : decode b_W_sortOfBytes 60 = .ok (.ireturn, 1) := by decide +kernel
theorem d_W_sortOfBytes_61 : decode b_W_sortOfBytes 61 = .ok (.ldc 90, 2) := by decide +kernel
theorem d_W_sortOfBytes_63 : decode b_W_sortOfBytes 63 = .ok (.iload_n 3, 1) := by decide +kernel
theorem d_W_sortOfBytes_64 : decode b_W_sortOfBytes 64 = .ok (.i2c, 1) := by decide +kernel
theorem d_W_sortOfBytes_65 : decode b_W_sortOfBytes 65 = .ok (.invokevirtual 92, 3) := by decide +kernel
theorem d_W_sortOfBytes_68 : decode b_W_sortOfBytes 68 = .ok (.ifCond .lt 7, 3) := by decide +kernel
theorem d_W_sortOfBytes_71 : decode b_W_sortOfBytes 71 = .ok (.iload_n 3, 1) := by decide +kernel
theorem d_W_sortOfBytes_72 : decode b_W_sortOfBytes 72 = .ok (.goto 4, 3) := by decide +kernel
theorem d_W_sortOfBytes_75 : decode b_W_sortOfBytes 75 = .ok (.iconst 2, 1) := by decide +kernel
theorem d_W_sortOfBytes_76 : decode b_W_sortOfBytes 76 = .ok (.ireturn, 1) := by decide +kernel
abbrev b_W_cut : ByteArray := prog_6_method_2_code
def y_W_cut : MethodName := ⟨"NetText$Words", "cut", "([BI)V"⟩
abbrev w_W_cut : List Cond := .code y_W_cut b_W_cut 8 none :: lw_gt
theorem d_W_cut_0 : decode b_W_cut 0 = .ok (.aload_n 0, 1) := by decide +kernel
theorem d_W_cut_1 : decode b_W_cut 1 = .ok (.aload_n 1, 1) := by decide +kernel
theorem d_W_cut_2 : decode b_W_cut 2 = .ok (.iload_n 2, 1) := by decide +kernel
theorem d_W_cut_3 : decode b_W_cut 3 = .ok (.invokevirtual 32, 3) := by decide +kernel
theorem d_W_cut_6 : decode b_W_cut 6 = .ok (.aload_n 0, 1) := by decide +kernel
theorem d_W_cut_7 : decode b_W_cut 7 = .ok (.iconst 0, 1) := by decide +kernel
theorem d_W_cut_8 : decode b_W_cut 8 = .ok (.putfield 29, 3) := by decide +kernel
theorem d_W_cut_11 : decode b_W_cut 11 = .ok (.iconst 0, 1) := by decide +kernel
theorem d_W_cut_12 : decode b_W_cut 12 = .ok (.istore_n 3, 1) := by decide +kernel
theorem d_W_cut_13 : decode b_W_cut 13 = .ok (.iconst 0, 1) := by decide +kernel
theorem d_W_cut_14 : decode b_W_cut 14 = .ok (.istore 4, 2) := by decide +kernel
theorem d_W_cut_16 : decode b_W_cut 16 = .ok (.iconst 0, 1) := by decide +kernel
theorem d_W_cut_17 : decode b_W_cut 17 = .ok (.istore 5, 2) := by decide +kernel
theorem d_W_cut_19 : decode b_W_cut 19 = .ok (.iload 5, 2) := by decide +kernel
theorem d_W_cut_21 : decode b_W_cut 21 = .ok (.aload_n 0, 1) := by decide +kernel
theorem d_W_cut_22 : decode b_W_cut 22 = .ok (.getfield 15, 3) := by decide +kernel
theorem d_W_cut_25 : decode b_W_cut 25 = .ok (.if_icmp .gt 59, 3) := by decide +kernel
theorem d_W_cut_28 : decode b_W_cut 28 = .ok (.iload 4, 2) := by decide +kernel
theorem d_W_cut_30 : decode b_W_cut 30 = .ok (.iconst 1, 1) := by decide +kernel
theorem d_W_cut_31 : decode b_W_cut 31 = .ok (.if_icmp .eq 53, 3) := by decide +kernel
theorem d_W_cut_34 : decode b_W_cut 34 = .ok (.iload 4, 2) := by decide +kernel
theorem d_W_cut_36 : decode b_W_cut 36 = .ok (.iconst 2, 1) := by decide +kernel
theorem d_W_cut_37 : decode b_W_cut 37 = .ok (.if_icmp .eq 47, 3) := by decide +kernel
theorem d_W_cut_40 : decode b_W_cut 40 = .ok (.aload_n 0, 1) := by decide +kernel
theorem d_W_cut_41 : decode b_W_cut 41 = .ok (.iload_n 3, 1) := by decide +kernel
theorem d_W_cut_42 : decode b_W_cut 42 = .ok (.invokevirtual 38, 3) := by decide +kernel
theorem d_W_cut_45 : decode b_W_cut 45 = .ok (.istore 6, 2) := by decide +kernel
theorem d_W_cut_47 : decode b_W_cut 47 = .ok (.aload_n 0, 1) := by decide +kernel
theorem d_W_cut_48 : decode b_W_cut 48 = .ok (.iload 6, 2) := by decide +kernel
theorem d_W_cut_50 : decode b_W_cut 50 = .ok (.invokevirtual 42, 3) := by decide +kernel
theorem d_W_cut_53 : decode b_W_cut 53 = .ok (.istore 7, 2) := by decide +kernel
theorem d_W_cut_55 : decode b_W_cut 55 = .ok (.aload_n 0, 1) := by decide +kernel
theorem d_W_cut_56 : decode b_W_cut 56 = .ok (.iload 6, 2) := by decide +kernel
theorem d_W_cut_58 : decode b_W_cut 58 = .ok (.iload 7, 2) := by decide +kernel
theorem d_W_cut_60 : decode b_W_cut 60 = .ok (.invokevirtual 45, 3) := by decide +kernel
theorem d_W_cut_63 : decode b_W_cut 63 = .ok (.istore 4, 2) := by decide +kernel
theorem d_W_cut_65 : decode b_W_cut 65 = .ok (.aload_n 0, 1) := by decide +kernel
theorem d_W_cut_66 : decode b_W_cut 66 = .ok (.iload 4, 2) := by decide +kernel
theorem d_W_cut_68 : decode b_W_cut 68 = .ok (.iload 6, 2) := by decide +kernel
theorem d_W_cut_70 : decode b_W_cut 70 = .ok (.iload 7, 2) := by decide +kernel
theorem d_W_cut_72 : decode b_W_cut 72 = .ok (.invokevirtual 49, 3) := by decide +kernel
theorem d_W_cut_75 : decode b_W_cut 75 = .ok (.iload 7, 2) := by decide +kernel
theorem d_W_cut_77 : decode b_W_cut 77 = .ok (.istore_n 3, 1) := by decide +kernel
theorem d_W_cut_78 : decode b_W_cut 78 = .ok (.iinc 5 1, 3) := by decide +kernel
theorem d_W_cut_81 : decode b_W_cut 81 = .ok (.goto (-62), 3) := by decide +kernel
theorem d_W_cut_84 : decode b_W_cut 84 = .ok (.return_, 1) := by decide +kernel
def vl_W_spells_2  (nX : Nat) (tx : FN) (ln : Int32) (x1 : Int32) (si : Nat)  (K_ : Int32 → Prop) : Nat → Int32 → Prop
  | 0 => fun _ => False
  | n_ + 1 => fun x3_h2 =>
  (((nI (lenS.getD si 0)) ≤ x3_h2 → (K_ 1)) ∧ (¬ (nI (lenS.getD si 0)) ≤ x3_h2 → (vc_W_byteAt nX tx ln (x1 + x3_h2) (fun r_3 => (vp_in x3_h2 (lenS.getD si 0) ∧ ((r_3 = (chS si x3_h2) → (vl_W_spells_2 nX tx ln x1 si  K_ n_ (x3_h2 + 1))) ∧ (¬ r_3 = (chS si x3_h2) → (K_ 0))))))))
def vc_W_spells  (nX : Nat) (tx : FN) (ln : Int32) (x1 : Int32) (si : Nat) (K_ : Int32 → Prop) : Prop :=
  (∃ n_, vl_W_spells_2 nX tx ln x1 si K_ n_ 0)
set_option maxHeartbeats 4000000 in
set_option maxRecDepth 100000 in
theorem met_W_spells {l : Launch} {dd : va_G} {cB cI cL cS : ClassId} {adK adV : Nat → Nat} {oW : Nat} {aX : Nat} {aO : Nat} {aB : Nat} {aE : Nat}  {nX : Nat} {tx : FN} {ln : Int32} {wc : Int32} {x1 : Int32} {si : Nat} {K_ : Int32 → Prop}  (hs_si : si < 41) (hv : vc_W_spells  nX tx ln x1 si K_) : CtR l y_W_spells w_W_spells (rmk 6 0 0) dd cls5 [(cB, .byte), (cI, .int), (cL, .long), (cS, .object "java/lang/String")] (XF adK adV) [(oW, .inr (1, [.ref aX, .int ln, .ref aO, .ref aB, .ref aE, .int wc])), (aX, .inl (cB, nX, .inl tx))] [.ref oW, .int x1, .ref (adK si)] (qR K_) := by
  refine m_ofR (cc := b_W_spells) (nL := 4) (ret := (some .boolean)) (by decide) rfl (Nat.le_of_ble_eq_true rfl) ?_
  intro p e s m below meth c ls ar Fx_ hP hK hX hl
  obtain ⟨hx, hb, hml, hr, hlocks, hown, hts, hinn⟩ := Fx_
  have hl : lv_has ls 4 [(0, .ref oW), (1, .int x1), (2, .ref (adK si))] := hl
  unfold vc_W_spells at hv
  refine lv_iconst (v := 0) hx hb d_W_spells_0 (by decide) ?_
  refine lv_istore_n (lv' := [(3, .int 0), (0, .ref oW), (1, .int x1), (2, .ref (adK si))]) hx hb d_W_spells_1 rfl hl (by decide) rfl (fun ls hl => ?_)
  obtain ⟨n_2, hv⟩ := hv
  have LP_2 : ∀ (n_ : Nat) (x3_h2 : Int32) (ls : Array Slot), vl_W_spells_2 nX tx ln x1 si K_ n_ x3_h2 → lv_has ls 4 [(3, .int x3_h2), (0, .ref oW), (1, .int x1), (2, .ref (adK si))] → W p l e (rmk 6 0 0) s m ar below meth c s.heap [] 0 0 (MQ below (qR K_) ar s 0 0 (fun _ => False)) (F0 m 2 ls []) := by
    intro n_
    induction n_ with
    | zero => intro x3_h2 ls hv; exact False.elim hv
    | succ n_ ih =>
      intro x3_h2 ls hv hl
      unfold vl_W_spells_2 at hv
      refine lv_iload_n hx hb d_W_spells_2 rfl (lv_at hl 0 rfl) ?_
      refine lv_aload_n hx hb d_W_spells_3 rfl (lv_at hl 3 rfl) ?_
      refine krO_i (st := [.ref (adK si), .int x3_h2]) (rest := [.int x3_h2]) ⟨hx, hb, hml, hown, hts⟩ (sl_len (l := l) (dd := dd) (cB := cB) (cI := cI) (cL := cL) (cS := cS) (adK := adK) (adV := adV)  hs_si) (cwV 0 hts (gv (tg0 at_198) (tg0 at_199) (tg0 at_200) (tg0 at_14) (tg0 at_201)) rfl rfl rfl (by decide +kernel) (rk (by omega) (by decide))) xfb (xfr hX va_S.rf) hP hK [] rfl (xf_o hX va_S.rf hs_si) rfl hl.1 rfl (Nat.le_of_ble_eq_true rfl) d_W_spells_4 ⟨Nat.zero_le _, Nat.zero_le _⟩ (fun r_1 hq => ?_)
      replace hq : r_1 = (nI (lenS.getD si 0)) := hq
      subst hq
      refine lv_icmp_ge (tgt := 33) hx hb d_W_spells_7 (by decide) (fun b_2 => ?_) (fun b_2 => ?_)
      · have hv := hv.1 b_2
        refine lv_iconst (v := 1) hx hb d_W_spells_33 (by decide) ?_
        exact rr_z hx hb hr narrow_b1 hlocks 1 hv d_W_spells_34
      · have hv := hv.2 b_2
        refine lv_aload_n hx hb d_W_spells_10 rfl (lv_at hl 1 rfl) ?_
        refine lv_iload_n hx hb d_W_spells_11 rfl (lv_at hl 2 rfl) ?_
        refine lv_iload_n hx hb d_W_spells_12 rfl (lv_at hl 0 rfl) ?_
        refine lv_iadd hx hb d_W_spells_13 ?_
        have hM := met_W_byteAt (l := l) (dd := dd) (cB := cB) (cI := cI) (cL := cL) (cS := cS) (oW := oW) (aX := aX) (aO := aO) (aB := aB) (aE := aE) (wc := wc)  hv
        refine krv_i (st := [.int (x1 + x3_h2), .ref oW]) (rest := []) ⟨hx, hb, hml, hown, hts⟩ hM (cwV 1 hts (gv (tg0 at_149) (tg0 at_150) (tg0 at_151) (tg0 at_2) (tg0 at_152)) rfl rfl rfl (by decide +kernel) (rk (by omega) (by decide))) x0b (fun _ _ _ => trivial) hP hK [0, 1] rfl (ci := 1) rfl rfl (q0 := 0) rfl rfl hl.1 rfl (Nat.le_of_ble_eq_true rfl) d_W_spells_14 ⟨Nat.zero_le _, Nat.zero_le _⟩ (fun r_3 hv => ?_)
        refine lv_aload_n hx hb d_W_spells_17 rfl (lv_at hl 3 rfl) ?_
        refine lv_iload_n hx hb d_W_spells_18 rfl (lv_at hl 0 rfl) ?_
        obtain ⟨h_4, hv⟩ := hv
        refine krO_i (st := [.int x3_h2, .ref (adK si), .int r_3]) (rest := [.int r_3]) ⟨hx, hb, hml, hown, hts⟩ (sl_chr (l := l) (dd := dd) (cB := cB) (cI := cI) (cL := cL) (cS := cS) (adK := adK) (adV := adV)  hs_si h_4) (cwV 1 hts (gv (tg0 at_208) (tg0 at_209) (tg0 at_210) (tg0 at_14) (tg0 at_211)) rfl rfl rfl (by decide +kernel) (rk (by omega) (by decide))) xfb (xfr hX va_S.rf) hP hK [] rfl (xf_o hX va_S.rf hs_si) rfl hl.1 rfl (Nat.le_of_ble_eq_true rfl) d_W_spells_19 ⟨Nat.zero_le _, Nat.zero_le _⟩ (fun r_5 hq => ?_)
        replace hq : r_5 = (chS si x3_h2) := hq
        subst hq
        refine lv_icmp_eq (tgt := 27) hx hb d_W_spells_22 (by decide) (fun b_6 => ?_) (fun b_6 => ?_)
        · have hv := hv.1 b_6
          refine lv_iinc (v := (x3_h2 + 1)) (lv' := [(3, .int (x3_h2 + 1)), (0, .ref oW), (1, .int x1), (2, .ref (adK si))]) hx hb d_W_spells_27 hl (k := 0) rfl rfl (by decide) rfl (fun ls hl => ?_)
          refine lv_goto (tgt := 2) hx hb d_W_spells_30 (by decide) ?_
          exact ih (x3_h2 + 1) _ hv (lv_sub hl [0, 1, 2, 3] rfl)
        · have hv := hv.2 b_6
          refine lv_iconst (v := 0) hx hb d_W_spells_25 (by decide) ?_
          exact rr_z hx hb hr narrow_b0 hlocks 0 hv d_W_spells_26
  exact LP_2 n_2 0 _ hv hl
def vc_W_sortOfThree  (nX : Nat) (tx : FN) (ln : Int32) (x1 : Int32) (K_ : Int32 → Prop) : Prop :=
  (vc_W_spells nX tx ln x1 0 (fun r_1 => ((r_1 = 0 → (vc_W_spells nX tx ln x1 1 (fun r_3 => ((r_3 = 0 → (K_ 3)) ∧ (¬ r_3 = 0 → (K_ 261)))))) ∧ (¬ r_1 = 0 → (K_ 259)))))
set_option maxHeartbeats 4000000 in
set_option maxRecDepth 100000 in
theorem met_W_sortOfThree {l : Launch} {dd : va_G} {cB cI cL cS : ClassId} {adK adV : Nat → Nat} {oW : Nat} {aX : Nat} {aO : Nat} {aB : Nat} {aE : Nat}  {nX : Nat} {tx : FN} {ln : Int32} {wc : Int32} {x1 : Int32} {K_ : Int32 → Prop}  (hv : vc_W_sortOfThree  nX tx ln x1 K_) : CtR l y_W_sortOfThree w_W_sortOfThree (rmk 7 0 0) dd cls5 [(cB, .byte), (cI, .int), (cL, .long), (cS, .object "java/lang/String")] (XF adK adV) [(oW, .inr (1, [.ref aX, .int ln, .ref aO, .ref aB, .ref aE, .int wc])), (aX, .inl (cB, nX, .inl tx))] [.ref oW, .int x1] (qR K_) := by
  refine m_ofR (cc := b_W_sortOfThree) (nL := 2) (ret := (some .int)) (by decide) rfl (Nat.le_of_ble_eq_true rfl) ?_
  intro p e s m below meth c ls ar Fx_ hP hK hX hl
  obtain ⟨hx, hb, hml, hr, hlocks, hown, hts, hinn⟩ := Fx_
  have hl : lv_has ls 2 [(0, .ref oW), (1, .int x1)] := hl
  unfold vc_W_sortOfThree at hv
  refine lv_aload_n hx hb d_W_sortOfThree_0 rfl (lv_at hl 0 rfl) ?_
  refine lv_iload_n hx hb d_W_sortOfThree_1 rfl (lv_at hl 1 rfl) ?_
  refine va_ldcS hx hb hown (show vk_R "NetText$Words" 117 "let" (adK 0) s from xf_r hX (i := 0) (by decide)) d_W_sortOfThree_2 ?_
  have hM := met_W_spells (l := l) (dd := dd) (cB := cB) (cI := cI) (cL := cL) (cS := cS) (adK := adK) (adV := adV) (oW := oW) (aX := aX) (aO := aO) (aB := aB) (aE := aE) (wc := wc)  (by decide) hv
  refine krv_i (st := [.ref (adK 0), .int x1, .ref oW]) (rest := []) ⟨hx, hb, hml, hown, hts⟩ hM (cwV 2 hts (gv (tg0 at_194) (tg0 at_196) (tg0 ap_9) (tg0 at_2) (tg0 at_197)) rfl rfl rfl (by decide +kernel) (rk (by omega) (by decide))) xfb (xfr hX va_S.rf) hP hK [0, 1] rfl (ci := 1) rfl rfl (q0 := 0) rfl rfl hl.1 rfl (Nat.le_of_ble_eq_true rfl) d_W_sortOfThree_4 ⟨Nat.zero_le _, Nat.zero_le _⟩ (fun r_1 hv => ?_)
  refine lv_if_eq (tgt := 14) hx hb d_W_sortOfThree_7 (by decide) (fun b_2 => ?_) (fun b_2 => ?_)
  · have hv := hv.1 b_2
    refine lv_aload_n hx hb d_W_sortOfThree_14 rfl (lv_at hl 0 rfl) ?_
    refine lv_iload_n hx hb d_W_sortOfThree_15 rfl (lv_at hl 1 rfl) ?_
    refine va_ldcS hx hb hown (show vk_R "NetText$Words" 119 "out" (adK 1) s from xf_r hX (i := 1) (by decide)) d_W_sortOfThree_16 ?_
    have hM := met_W_spells (l := l) (dd := dd) (cB := cB) (cI := cI) (cL := cL) (cS := cS) (adK := adK) (adV := adV) (oW := oW) (aX := aX) (aO := aO) (aB := aB) (aE := aE) (wc := wc)  (by decide) hv
    refine krv_i (st := [.ref (adK 1), .int x1, .ref oW]) (rest := []) ⟨hx, hb, hml, hown, hts⟩ hM (cwV 2 hts (gv (tg0 at_194) (tg0 at_196) (tg0 ap_9) (tg0 at_2) (tg0 at_197)) rfl rfl rfl (by decide +kernel) (rk (by omega) (by decide))) xfb (xfr hX va_S.rf) hP hK [0, 1] rfl (ci := 1) rfl rfl (q0 := 0) rfl rfl hl.1 rfl (Nat.le_of_ble_eq_true rfl) d_W_sortOfThree_18 ⟨Nat.zero_le _, Nat.zero_le _⟩ (fun r_3 hv => ?_)
    refine lv_if_eq (tgt := 30) hx hb d_W_sortOfThree_21 (by decide) (fun b_4 => ?_) (fun b_4 => ?_)
    · have hv := hv.1 b_4
      refine lv_iconst (v := 3) hx hb d_W_sortOfThree_30 (by decide) ?_
      exact rr_i hx hb hr hlocks 3 hv d_W_sortOfThree_31
    · have hv := hv.2 b_4
      refine lv_sipush (v := 261) hx hb d_W_sortOfThree_24 (by decide) ?_
      refine lv_goto (tgt := 31) hx hb d_W_sortOfThree_27 (by decide) ?_
      exact rr_i hx hb hr hlocks 261 hv d_W_sortOfThree_31
  · have hv := hv.2 b_2
    refine lv_sipush (v := 259) hx hb d_W_sortOfThree_10 (by decide) ?_
    exact rr_i hx hb hr hlocks 259 hv d_W_sortOfThree_13
def vc_W_sortOfFour  (nX : Nat) (tx : FN) (ln : Int32) (x1 : Int32) (K_ : Int32 → Prop) : Prop :=
  (vc_W_spells nX tx ln x1 2 (fun r_1 => ((r_1 = 0 → (vc_W_spells nX tx ln x1 3 (fun r_3 => ((r_3 = 0 → (vc_W_spells nX tx ln x1 4 (fun r_5 => ((r_5 = 0 → (vc_W_spells nX tx ln x1 5 (fun r_7 => ((r_7 = 0 → (vc_W_spells nX tx ln x1 6 (fun r_9 => ((r_9 = 0 → (K_ 3)) ∧ (¬ r_9 = 0 → (K_ 272)))))) ∧ (¬ r_7 = 0 → (K_ 268)))))) ∧ (¬ r_5 = 0 → (K_ 267)))))) ∧ (¬ r_3 = 0 → (K_ 263)))))) ∧ (¬ r_1 = 0 → (K_ 260)))))
set_option maxHeartbeats 4000000 in
set_option maxRecDepth 100000 in
theorem met_W_sortOfFour {l : Launch} {dd : va_G} {cB cI cL cS : ClassId} {adK adV : Nat → Nat} {oW : Nat} {aX : Nat} {aO : Nat} {aB : Nat} {aE : Nat}  {nX : Nat} {tx : FN} {ln : Int32} {wc : Int32} {x1 : Int32} {K_ : Int32 → Prop}  (hv : vc_W_sortOfFour  nX tx ln x1 K_) : CtR l y_W_sortOfFour w_W_sortOfFour (rmk 7 0 0) dd cls5 [(cB, .byte), (cI, .int), (cL, .long), (cS, .object "java/lang/String")] (XF adK adV) [(oW, .inr (1, [.ref aX, .int ln, .ref aO, .ref aB, .ref aE, .int wc])), (aX, .inl (cB, nX, .inl tx))] [.ref oW, .int x1] (qR K_) := by
  refine m_ofR (cc := b_W_sortOfFour) (nL := 2) (ret := (some .int)) (by decide) rfl (Nat.le_of_ble_eq_true rfl) ?_
  intro p e s m below meth c ls ar Fx_ hP hK hX hl
  obtain ⟨hx, hb, hml, hr, hlocks, hown, hts, hinn⟩ := Fx_
  have hl : lv_has ls 2 [(0, .ref oW), (1, .int x1)] := hl
  unfold vc_W_sortOfFour at hv
  refine lv_aload_n hx hb d_W_sortOfFour_0 rfl (lv_at hl 0 rfl) ?_
  refine lv_iload_n hx hb d_W_sortOfFour_1 rfl (lv_at hl 1 rfl) ?_
  refine va_ldcS hx hb hown (show vk_R "NetText$Words" 121 "loss" (adK 2) s from xf_r hX (i := 2) (by decide)) d_W_sortOfFour_2 ?_
  have hM := met_W_spells (l := l) (dd := dd) (cB := cB) (cI := cI) (cL := cL) (cS := cS) (adK := adK) (adV := adV) (oW := oW) (aX := aX) (aO := aO) (aB := aB) (aE := aE) (wc := wc)  (by decide) hv
  refine krv_i (st := [.ref (adK 2), .int x1, .ref oW]) (rest := []) ⟨hx, hb, hml, hown, hts⟩ hM (cwV 2 hts (gv (tg0 at_194) (tg0 at_196) (tg0 ap_9) (tg0 at_2) (tg0 at_197)) rfl rfl rfl (by decide +kernel) (rk (by omega) (by decide))) xfb (xfr hX va_S.rf) hP hK [0, 1] rfl (ci := 1) rfl rfl (q0 := 0) rfl rfl hl.1 rfl (Nat.le_of_ble_eq_true rfl) d_W_sortOfFour_4 ⟨Nat.zero_le _, Nat.zero_le _⟩ (fun r_1 hv => ?_)
  refine lv_if_eq (tgt := 14) hx hb d_W_sortOfFour_7 (by decide) (fun b_2 => ?_) (fun b_2 => ?_)
  · have hv := hv.1 b_2
    refine lv_aload_n hx hb d_W_sortOfFour_14 rfl (lv_at hl 0 rfl) ?_
    refine lv_iload_n hx hb d_W_sortOfFour_15 rfl (lv_at hl 1 rfl) ?_
    refine va_ldcS hx hb hown (show vk_R "NetText$Words" 123 "give" (adK 3) s from xf_r hX (i := 3) (by decide)) d_W_sortOfFour_16 ?_
    have hM := met_W_spells (l := l) (dd := dd) (cB := cB) (cI := cI) (cL := cL) (cS := cS) (adK := adK) (adV := adV) (oW := oW) (aX := aX) (aO := aO) (aB := aB) (aE := aE) (wc := wc)  (by decide) hv
    refine krv_i (st := [.ref (adK 3), .int x1, .ref oW]) (rest := []) ⟨hx, hb, hml, hown, hts⟩ hM (cwV 2 hts (gv (tg0 at_194) (tg0 at_196) (tg0 ap_9) (tg0 at_2) (tg0 at_197)) rfl rfl rfl (by decide +kernel) (rk (by omega) (by decide))) xfb (xfr hX va_S.rf) hP hK [0, 1] rfl (ci := 1) rfl rfl (q0 := 0) rfl rfl hl.1 rfl (Nat.le_of_ble_eq_true rfl) d_W_sortOfFour_18 ⟨Nat.zero_le _, Nat.zero_le _⟩ (fun r_3 hv => ?_)
    refine lv_if_eq (tgt := 28) hx hb d_W_sortOfFour_21 (by decide) (fun b_4 => ?_) (fun b_4 => ?_)
    · have hv := hv.1 b_4
      refine lv_aload_n hx hb d_W_sortOfFour_28 rfl (lv_at hl 0 rfl) ?_
      refine lv_iload_n hx hb d_W_sortOfFour_29 rfl (lv_at hl 1 rfl) ?_
      refine va_ldcS hx hb hown (show vk_R "NetText$Words" 125 "bits" (adK 4) s from xf_r hX (i := 4) (by decide)) d_W_sortOfFour_30 ?_
      have hM := met_W_spells (l := l) (dd := dd) (cB := cB) (cI := cI) (cL := cL) (cS := cS) (adK := adK) (adV := adV) (oW := oW) (aX := aX) (aO := aO) (aB := aB) (aE := aE) (wc := wc)  (by decide) hv
      refine krv_i (st := [.ref (adK 4), .int x1, .ref oW]) (rest := []) ⟨hx, hb, hml, hown, hts⟩ hM (cwV 2 hts (gv (tg0 at_194) (tg0 at_196) (tg0 ap_9) (tg0 at_2) (tg0 at_197)) rfl rfl rfl (by decide +kernel) (rk (by omega) (by decide))) xfb (xfr hX va_S.rf) hP hK [0, 1] rfl (ci := 1) rfl rfl (q0 := 0) rfl rfl hl.1 rfl (Nat.le_of_ble_eq_true rfl) d_W_sortOfFour_32 ⟨Nat.zero_le _, Nat.zero_le _⟩ (fun r_5 hv => ?_)
      refine lv_if_eq (tgt := 42) hx hb d_W_sortOfFour_35 (by decide) (fun b_6 => ?_) (fun b_6 => ?_)
      · have hv := hv.1 b_6
        refine lv_aload_n hx hb d_W_sortOfFour_42 rfl (lv_at hl 0 rfl) ?_
        refine lv_iload_n hx hb d_W_sortOfFour_43 rfl (lv_at hl 1 rfl) ?_
        refine va_ldcS hx hb hown (show vk_R "NetText$Words" 127 "rate" (adK 5) s from xf_r hX (i := 5) (by decide)) d_W_sortOfFour_44 ?_
        have hM := met_W_spells (l := l) (dd := dd) (cB := cB) (cI := cI) (cL := cL) (cS := cS) (adK := adK) (adV := adV) (oW := oW) (aX := aX) (aO := aO) (aB := aB) (aE := aE) (wc := wc)  (by decide) hv
        refine krv_i (st := [.ref (adK 5), .int x1, .ref oW]) (rest := []) ⟨hx, hb, hml, hown, hts⟩ hM (cwV 2 hts (gv (tg0 at_194) (tg0 at_196) (tg0 ap_9) (tg0 at_2) (tg0 at_197)) rfl rfl rfl (by decide +kernel) (rk (by omega) (by decide))) xfb (xfr hX va_S.rf) hP hK [0, 1] rfl (ci := 1) rfl rfl (q0 := 0) rfl rfl hl.1 rfl (Nat.le_of_ble_eq_true rfl) d_W_sortOfFour_46 ⟨Nat.zero_le _, Nat.zero_le _⟩ (fun r_7 hv => ?_)
        refine lv_if_eq (tgt := 56) hx hb d_W_sortOfFour_49 (by decide) (fun b_8 => ?_) (fun b_8 => ?_)
        · have hv := hv.1 b_8
          refine lv_aload_n hx hb d_W_sortOfFour_56 rfl (lv_at hl 0 rfl) ?_
          refine lv_iload_n hx hb d_W_sortOfFour_57 rfl (lv_at hl 1 rfl) ?_
          refine va_ldcS hx hb hown (show vk_R "NetText$Words" 129 "clip" (adK 6) s from xf_r hX (i := 6) (by decide)) d_W_sortOfFour_58 ?_
          have hM := met_W_spells (l := l) (dd := dd) (cB := cB) (cI := cI) (cL := cL) (cS := cS) (adK := adK) (adV := adV) (oW := oW) (aX := aX) (aO := aO) (aB := aB) (aE := aE) (wc := wc)  (by decide) hv
          refine krv_i (st := [.ref (adK 6), .int x1, .ref oW]) (rest := []) ⟨hx, hb, hml, hown, hts⟩ hM (cwV 2 hts (gv (tg0 at_194) (tg0 at_196) (tg0 ap_9) (tg0 at_2) (tg0 at_197)) rfl rfl rfl (by decide +kernel) (rk (by omega) (by decide))) xfb (xfr hX va_S.rf) hP hK [0, 1] rfl (ci := 1) rfl rfl (q0 := 0) rfl rfl hl.1 rfl (Nat.le_of_ble_eq_true rfl) d_W_sortOfFour_60 ⟨Nat.zero_le _, Nat.zero_le _⟩ (fun r_9 hv => ?_)
          refine lv_if_eq (tgt := 72) hx hb d_W_sortOfFour_63 (by decide) (fun b_10 => ?_) (fun b_10 => ?_)
          · have hv := hv.1 b_10
            refine lv_iconst (v := 3) hx hb d_W_sortOfFour_72 (by decide) ?_
            exact rr_i hx hb hr hlocks 3 hv d_W_sortOfFour_73
          · have hv := hv.2 b_10
            refine lv_sipush (v := 272) hx hb d_W_sortOfFour_66 (by decide) ?_
            refine lv_goto (tgt := 73) hx hb d_W_sortOfFour_69 (by decide) ?_
            exact rr_i hx hb hr hlocks 272 hv d_W_sortOfFour_73
        · have hv := hv.2 b_8
          refine lv_sipush (v := 268) hx hb d_W_sortOfFour_52 (by decide) ?_
          exact rr_i hx hb hr hlocks 268 hv d_W_sortOfFour_55
      · have hv := hv.2 b_6
        refine lv_sipush (v := 267) hx hb d_W_sortOfFour_38 (by decide) ?_
        exact rr_i hx hb hr hlocks 267 hv d_W_sortOfFour_41
    · have hv := hv.2 b_4
      refine lv_sipush (v := 263) hx hb d_W_sortOfFour_24 (by decide) ?_
      exact rr_i hx hb hr hlocks 263 hv d_W_sortOfFour_27
  · have hv := hv.2 b_2
    refine lv_sipush (v := 260) hx hb d_W_sortOfFour_10 (by decide) ?_
    exact rr_i hx hb hr hlocks 260 hv d_W_sortOfFour_13
def vc_W_sortOfFive  (nX : Nat) (tx : FN) (ln : Int32) (x1 : Int32) (K_ : Int32 → Prop) : Prop :=
  (vc_W_spells nX tx ln x1 7 (fun r_1 => ((r_1 = 0 → (vc_W_spells nX tx ln x1 8 (fun r_3 => ((r_3 = 0 → (vc_W_spells nX tx ln x1 9 (fun r_5 => ((r_5 = 0 → (vc_W_spells nX tx ln x1 10 (fun r_7 => ((r_7 = 0 → (vc_W_spells nX tx ln x1 11 (fun r_9 => ((r_9 = 0 → (vc_W_spells nX tx ln x1 12 (fun r_11 => ((r_11 = 0 → (vc_W_spells nX tx ln x1 13 (fun r_13 => ((r_13 = 0 → (vc_W_spells nX tx ln x1 14 (fun r_15 => ((r_15 = 0 → (K_ 3)) ∧ (¬ r_15 = 0 → (K_ 271)))))) ∧ (¬ r_13 = 0 → (K_ 269)))))) ∧ (¬ r_11 = 0 → (K_ 266)))))) ∧ (¬ r_9 = 0 → (K_ 265)))))) ∧ (¬ r_7 = 0 → (K_ 262)))))) ∧ (¬ r_5 = 0 → (K_ 258)))))) ∧ (¬ r_3 = 0 → (K_ 257)))))) ∧ (¬ r_1 = 0 → (K_ 256)))))
set_option maxHeartbeats 4000000 in
set_option maxRecDepth 100000 in
theorem met_W_sortOfFive {l : Launch} {dd : va_G} {cB cI cL cS : ClassId} {adK adV : Nat → Nat} {oW : Nat} {aX : Nat} {aO : Nat} {aB : Nat} {aE : Nat}  {nX : Nat} {tx : FN} {ln : Int32} {wc : Int32} {x1 : Int32} {K_ : Int32 → Prop}  (hv : vc_W_sortOfFive  nX tx ln x1 K_) : CtR l y_W_sortOfFive w_W_sortOfFive (rmk 7 0 0) dd cls5 [(cB, .byte), (cI, .int), (cL, .long), (cS, .object "java/lang/String")] (XF adK adV) [(oW, .inr (1, [.ref aX, .int ln, .ref aO, .ref aB, .ref aE, .int wc])), (aX, .inl (cB, nX, .inl tx))] [.ref oW, .int x1] (qR K_) := by
  refine m_ofR (cc := b_W_sortOfFive) (nL := 2) (ret := (some .int)) (by decide) rfl (Nat.le_of_ble_eq_true rfl) ?_
  intro p e s m below meth c ls ar Fx_ hP hK hX hl
  obtain ⟨hx, hb, hml, hr, hlocks, hown, hts, hinn⟩ := Fx_
  have hl : lv_has ls 2 [(0, .ref oW), (1, .int x1)] := hl
  unfold vc_W_sortOfFive at hv
  refine lv_aload_n hx hb d_W_sortOfFive_0 rfl (lv_at hl 0 rfl) ?_
  refine lv_iload_n hx hb d_W_sortOfFive_1 rfl (lv_at hl 1 rfl) ?_
  refine va_ldcS hx hb hown (show vk_R "NetText$Words" 131 "param" (adK 7) s from xf_r hX (i := 7) (by decide)) d_W_sortOfFive_2 ?_
  have hM := met_W_spells (l := l) (dd := dd) (cB := cB) (cI := cI) (cL := cL) (cS := cS) (adK := adK) (adV := adV) (oW := oW) (aX := aX) (aO := aO) (aB := aB) (aE := aE) (wc := wc)  (by decide) hv
  refine krv_i (st := [.ref (adK 7), .int x1, .ref oW]) (rest := []) ⟨hx, hb, hml, hown, hts⟩ hM (cwV 2 hts (gv (tg0 at_194) (tg0 at_196) (tg0 ap_9) (tg0 at_2) (tg0 at_197)) rfl rfl rfl (by decide +kernel) (rk (by omega) (by decide))) xfb (xfr hX va_S.rf) hP hK [0, 1] rfl (ci := 1) rfl rfl (q0 := 0) rfl rfl hl.1 rfl (Nat.le_of_ble_eq_true rfl) d_W_sortOfFive_4 ⟨Nat.zero_le _, Nat.zero_le _⟩ (fun r_1 hv => ?_)
  refine lv_if_eq (tgt := 14) hx hb d_W_sortOfFive_7 (by decide) (fun b_2 => ?_) (fun b_2 => ?_)
  · have hv := hv.1 b_2
    refine lv_aload_n hx hb d_W_sortOfFive_14 rfl (lv_at hl 0 rfl) ?_
    refine lv_iload_n hx hb d_W_sortOfFive_15 rfl (lv_at hl 1 rfl) ?_
    refine va_ldcS hx hb hown (show vk_R "NetText$Words" 133 "input" (adK 8) s from xf_r hX (i := 8) (by decide)) d_W_sortOfFive_16 ?_
    have hM := met_W_spells (l := l) (dd := dd) (cB := cB) (cI := cI) (cL := cL) (cS := cS) (adK := adK) (adV := adV) (oW := oW) (aX := aX) (aO := aO) (aB := aB) (aE := aE) (wc := wc)  (by decide) hv
    refine krv_i (st := [.ref (adK 8), .int x1, .ref oW]) (rest := []) ⟨hx, hb, hml, hown, hts⟩ hM (cwV 2 hts (gv (tg0 at_194) (tg0 at_196) (tg0 ap_9) (tg0 at_2) (tg0 at_197)) rfl rfl rfl (by decide +kernel) (rk (by omega) (by decide))) xfb (xfr hX va_S.rf) hP hK [0, 1] rfl (ci := 1) rfl rfl (q0 := 0) rfl rfl hl.1 rfl (Nat.le_of_ble_eq_true rfl) d_W_sortOfFive_18 ⟨Nat.zero_le _, Nat.zero_le _⟩ (fun r_3 hv => ?_)
    refine lv_if_eq (tgt := 28) hx hb d_W_sortOfFive_21 (by decide) (fun b_4 => ?_) (fun b_4 => ?_)
    · have hv := hv.1 b_4
      refine lv_aload_n hx hb d_W_sortOfFive_28 rfl (lv_at hl 0 rfl) ?_
      refine lv_iload_n hx hb d_W_sortOfFive_29 rfl (lv_at hl 1 rfl) ?_
      refine va_ldcS hx hb hown (show vk_R "NetText$Words" 135 "index" (adK 9) s from xf_r hX (i := 9) (by decide)) d_W_sortOfFive_30 ?_
      have hM := met_W_spells (l := l) (dd := dd) (cB := cB) (cI := cI) (cL := cL) (cS := cS) (adK := adK) (adV := adV) (oW := oW) (aX := aX) (aO := aO) (aB := aB) (aE := aE) (wc := wc)  (by decide) hv
      refine krv_i (st := [.ref (adK 9), .int x1, .ref oW]) (rest := []) ⟨hx, hb, hml, hown, hts⟩ hM (cwV 2 hts (gv (tg0 at_194) (tg0 at_196) (tg0 ap_9) (tg0 at_2) (tg0 at_197)) rfl rfl rfl (by decide +kernel) (rk (by omega) (by decide))) xfb (xfr hX va_S.rf) hP hK [0, 1] rfl (ci := 1) rfl rfl (q0 := 0) rfl rfl hl.1 rfl (Nat.le_of_ble_eq_true rfl) d_W_sortOfFive_32 ⟨Nat.zero_le _, Nat.zero_le _⟩ (fun r_5 hv => ?_)
      refine lv_if_eq (tgt := 42) hx hb d_W_sortOfFive_35 (by decide) (fun b_6 => ?_) (fun b_6 => ?_)
      · have hv := hv.1 b_6
        refine lv_aload_n hx hb d_W_sortOfFive_42 rfl (lv_at hl 0 rfl) ?_
        refine lv_iload_n hx hb d_W_sortOfFive_43 rfl (lv_at hl 1 rfl) ?_
        refine va_ldcS hx hb hown (show vk_R "NetText$Words" 137 "block" (adK 10) s from xf_r hX (i := 10) (by decide)) d_W_sortOfFive_44 ?_
        have hM := met_W_spells (l := l) (dd := dd) (cB := cB) (cI := cI) (cL := cL) (cS := cS) (adK := adK) (adV := adV) (oW := oW) (aX := aX) (aO := aO) (aB := aB) (aE := aE) (wc := wc)  (by decide) hv
        refine krv_i (st := [.ref (adK 10), .int x1, .ref oW]) (rest := []) ⟨hx, hb, hml, hown, hts⟩ hM (cwV 2 hts (gv (tg0 at_194) (tg0 at_196) (tg0 ap_9) (tg0 at_2) (tg0 at_197)) rfl rfl rfl (by decide +kernel) (rk (by omega) (by decide))) xfb (xfr hX va_S.rf) hP hK [0, 1] rfl (ci := 1) rfl rfl (q0 := 0) rfl rfl hl.1 rfl (Nat.le_of_ble_eq_true rfl) d_W_sortOfFive_46 ⟨Nat.zero_le _, Nat.zero_le _⟩ (fun r_7 hv => ?_)
        refine lv_if_eq (tgt := 56) hx hb d_W_sortOfFive_49 (by decide) (fun b_8 => ?_) (fun b_8 => ?_)
        · have hv := hv.1 b_8
          refine lv_aload_n hx hb d_W_sortOfFive_56 rfl (lv_at hl 0 rfl) ?_
          refine lv_iload_n hx hb d_W_sortOfFive_57 rfl (lv_at hl 1 rfl) ?_
          refine va_ldcS hx hb hown (show vk_R "NetText$Words" 139 "train" (adK 11) s from xf_r hX (i := 11) (by decide)) d_W_sortOfFive_58 ?_
          have hM := met_W_spells (l := l) (dd := dd) (cB := cB) (cI := cI) (cL := cL) (cS := cS) (adK := adK) (adV := adV) (oW := oW) (aX := aX) (aO := aO) (aB := aB) (aE := aE) (wc := wc)  (by decide) hv
          refine krv_i (st := [.ref (adK 11), .int x1, .ref oW]) (rest := []) ⟨hx, hb, hml, hown, hts⟩ hM (cwV 2 hts (gv (tg0 at_194) (tg0 at_196) (tg0 ap_9) (tg0 at_2) (tg0 at_197)) rfl rfl rfl (by decide +kernel) (rk (by omega) (by decide))) xfb (xfr hX va_S.rf) hP hK [0, 1] rfl (ci := 1) rfl rfl (q0 := 0) rfl rfl hl.1 rfl (Nat.le_of_ble_eq_true rfl) d_W_sortOfFive_60 ⟨Nat.zero_le _, Nat.zero_le _⟩ (fun r_9 hv => ?_)
          refine lv_if_eq (tgt := 70) hx hb d_W_sortOfFive_63 (by decide) (fun b_10 => ?_) (fun b_10 => ?_)
          · have hv := hv.1 b_10
            refine lv_aload_n hx hb d_W_sortOfFive_70 rfl (lv_at hl 0 rfl) ?_
            refine lv_iload_n hx hb d_W_sortOfFive_71 rfl (lv_at hl 1 rfl) ?_
            refine va_ldcS hx hb hown (show vk_R "NetText$Words" 141 "below" (adK 12) s from xf_r hX (i := 12) (by decide)) d_W_sortOfFive_72 ?_
            have hM := met_W_spells (l := l) (dd := dd) (cB := cB) (cI := cI) (cL := cL) (cS := cS) (adK := adK) (adV := adV) (oW := oW) (aX := aX) (aO := aO) (aB := aB) (aE := aE) (wc := wc)  (by decide) hv
            refine krv_i (st := [.ref (adK 12), .int x1, .ref oW]) (rest := []) ⟨hx, hb, hml, hown, hts⟩ hM (cwV 2 hts (gv (tg0 at_194) (tg0 at_196) (tg0 ap_9) (tg0 at_2) (tg0 at_197)) rfl rfl rfl (by decide +kernel) (rk (by omega) (by decide))) xfb (xfr hX va_S.rf) hP hK [0, 1] rfl (ci := 1) rfl rfl (q0 := 0) rfl rfl hl.1 rfl (Nat.le_of_ble_eq_true rfl) d_W_sortOfFive_74 ⟨Nat.zero_le _, Nat.zero_le _⟩ (fun r_11 hv => ?_)
            refine lv_if_eq (tgt := 84) hx hb d_W_sortOfFive_77 (by decide) (fun b_12 => ?_) (fun b_12 => ?_)
            · have hv := hv.1 b_12
              refine lv_aload_n hx hb d_W_sortOfFive_84 rfl (lv_at hl 0 rfl) ?_
              refine lv_iload_n hx hb d_W_sortOfFive_85 rfl (lv_at hl 1 rfl) ?_
              refine va_ldcS hx hb hown (show vk_R "NetText$Words" 143 "until" (adK 13) s from xf_r hX (i := 13) (by decide)) d_W_sortOfFive_86 ?_
              have hM := met_W_spells (l := l) (dd := dd) (cB := cB) (cI := cI) (cL := cL) (cS := cS) (adK := adK) (adV := adV) (oW := oW) (aX := aX) (aO := aO) (aB := aB) (aE := aE) (wc := wc)  (by decide) hv
              refine krv_i (st := [.ref (adK 13), .int x1, .ref oW]) (rest := []) ⟨hx, hb, hml, hown, hts⟩ hM (cwV 2 hts (gv (tg0 at_194) (tg0 at_196) (tg0 ap_9) (tg0 at_2) (tg0 at_197)) rfl rfl rfl (by decide +kernel) (rk (by omega) (by decide))) xfb (xfr hX va_S.rf) hP hK [0, 1] rfl (ci := 1) rfl rfl (q0 := 0) rfl rfl hl.1 rfl (Nat.le_of_ble_eq_true rfl) d_W_sortOfFive_88 ⟨Nat.zero_le _, Nat.zero_le _⟩ (fun r_13 hv => ?_)
              refine lv_if_eq (tgt := 98) hx hb d_W_sortOfFive_91 (by decide) (fun b_14 => ?_) (fun b_14 => ?_)
              · have hv := hv.1 b_14
                refine lv_aload_n hx hb d_W_sortOfFive_98 rfl (lv_at hl 0 rfl) ?_
                refine lv_iload_n hx hb d_W_sortOfFive_99 rfl (lv_at hl 1 rfl) ?_
                refine va_ldcS hx hb hown (show vk_R "NetText$Words" 145 "decay" (adK 14) s from xf_r hX (i := 14) (by decide)) d_W_sortOfFive_100 ?_
                have hM := met_W_spells (l := l) (dd := dd) (cB := cB) (cI := cI) (cL := cL) (cS := cS) (adK := adK) (adV := adV) (oW := oW) (aX := aX) (aO := aO) (aB := aB) (aE := aE) (wc := wc)  (by decide) hv
                refine krv_i (st := [.ref (adK 14), .int x1, .ref oW]) (rest := []) ⟨hx, hb, hml, hown, hts⟩ hM (cwV 2 hts (gv (tg0 at_194) (tg0 at_196) (tg0 ap_9) (tg0 at_2) (tg0 at_197)) rfl rfl rfl (by decide +kernel) (rk (by omega) (by decide))) xfb (xfr hX va_S.rf) hP hK [0, 1] rfl (ci := 1) rfl rfl (q0 := 0) rfl rfl hl.1 rfl (Nat.le_of_ble_eq_true rfl) d_W_sortOfFive_102 ⟨Nat.zero_le _, Nat.zero_le _⟩ (fun r_15 hv => ?_)
                refine lv_if_eq (tgt := 114) hx hb d_W_sortOfFive_105 (by decide) (fun b_16 => ?_) (fun b_16 => ?_)
                · have hv := hv.1 b_16
                  refine lv_iconst (v := 3) hx hb d_W_sortOfFive_114 (by decide) ?_
                  exact rr_i hx hb hr hlocks 3 hv d_W_sortOfFive_115
                · have hv := hv.2 b_16
                  refine lv_sipush (v := 271) hx hb d_W_sortOfFive_108 (by decide) ?_
                  refine lv_goto (tgt := 115) hx hb d_W_sortOfFive_111 (by decide) ?_
                  exact rr_i hx hb hr hlocks 271 hv d_W_sortOfFive_115
              · have hv := hv.2 b_14
                refine lv_sipush (v := 269) hx hb d_W_sortOfFive_94 (by decide) ?_
                exact rr_i hx hb hr hlocks 269 hv d_W_sortOfFive_97
            · have hv := hv.2 b_12
              refine lv_sipush (v := 266) hx hb d_W_sortOfFive_80 (by decide) ?_
              exact rr_i hx hb hr hlocks 266 hv d_W_sortOfFive_83
          · have hv := hv.2 b_10
            refine lv_sipush (v := 265) hx hb d_W_sortOfFive_66 (by decide) ?_
            exact rr_i hx hb hr hlocks 265 hv d_W_sortOfFive_69
        · have hv := hv.2 b_8
          refine lv_sipush (v := 262) hx hb d_W_sortOfFive_52 (by decide) ?_
          exact rr_i hx hb hr hlocks 262 hv d_W_sortOfFive_55
      · have hv := hv.2 b_6
        refine lv_sipush (v := 258) hx hb d_W_sortOfFive_38 (by decide) ?_
        exact rr_i hx hb hr hlocks 258 hv d_W_sortOfFive_41
    · have hv := hv.2 b_4
      refine lv_sipush (v := 257) hx hb d_W_sortOfFive_24 (by decide) ?_
      exact rr_i hx hb hr hlocks 257 hv d_W_sortOfFive_27
  · have hv := hv.2 b_2
    refine lv_sipush (v := 256) hx hb d_W_sortOfFive_10 (by decide) ?_
    exact rr_i hx hb hr hlocks 256 hv d_W_sortOfFive_13
def vc_W_sortOfName  (nX : Nat) (tx : FN) (ln : Int32) (x1 : Int32) (x2 : Int32) (K_ : Int32 → Prop) : Prop :=
  (((x2 - x1) = 3 → (vc_W_sortOfThree nX tx ln x1 (fun r_2 => (K_ r_2)))) ∧ (¬ (x2 - x1) = 3 → (((x2 - x1) = 4 → (vc_W_sortOfFour nX tx ln x1 (fun r_5 => (K_ r_5)))) ∧ (¬ (x2 - x1) = 4 → (((x2 - x1) = 5 → (vc_W_sortOfFive nX tx ln x1 (fun r_8 => (K_ r_8)))) ∧ (¬ (x2 - x1) = 5 → (((x2 - x1) = 6 → (vc_W_spells nX tx ln x1 15 (fun r_11 => ((r_11 = 0 → (K_ 3)) ∧ (¬ r_11 = 0 → (K_ 264)))))) ∧ (¬ (x2 - x1) = 6 → (((x2 - x1) = 7 → (K_ 3)) ∧ (¬ (x2 - x1) = 7 → (((x2 - x1) = 8 → (vc_W_spells nX tx ln x1 16 (fun r_16 => ((r_16 = 0 → (K_ 3)) ∧ (¬ r_16 = 0 → (K_ 270)))))) ∧ (¬ (x2 - x1) = 8 → (K_ 3)))))))))))))
set_option maxHeartbeats 4000000 in
set_option maxRecDepth 100000 in
theorem met_W_sortOfName {l : Launch} {dd : va_G} {cB cI cL cS : ClassId} {adK adV : Nat → Nat} {oW : Nat} {aX : Nat} {aO : Nat} {aB : Nat} {aE : Nat}  {nX : Nat} {tx : FN} {ln : Int32} {wc : Int32} {x1 : Int32} {x2 : Int32} {K_ : Int32 → Prop}  (hv : vc_W_sortOfName  nX tx ln x1 x2 K_) : CtR l y_W_sortOfName w_W_sortOfName (rmk 8 0 0) dd cls5 [(cB, .byte), (cI, .int), (cL, .long), (cS, .object "java/lang/String")] (XF adK adV) [(oW, .inr (1, [.ref aX, .int ln, .ref aO, .ref aB, .ref aE, .int wc])), (aX, .inl (cB, nX, .inl tx))] [.ref oW, .int x1, .int x2] (qR K_) := by
  refine m_ofR (cc := b_W_sortOfName) (nL := 3) (ret := (some .int)) (by decide) rfl (Nat.le_of_ble_eq_true rfl) ?_
  intro p e s m below meth c ls ar Fx_ hP hK hX hl
  obtain ⟨hx, hb, hml, hr, hlocks, hown, hts, hinn⟩ := Fx_
  have hl : lv_has ls 3 [(0, .ref oW), (1, .int x1), (2, .int x2)] := hl
  unfold vc_W_sortOfName at hv
  refine lv_iload_n hx hb d_W_sortOfName_0 rfl (lv_at hl 2 rfl) ?_
  refine lv_iload_n hx hb d_W_sortOfName_1 rfl (lv_at hl 1 rfl) ?_
  refine lv_isub hx hb d_W_sortOfName_2 ?_
  by_cases b_1 : (x2 - x1) = 3
  · have hv := hv.1 b_1
    refine lv_tableIn (tgt := 40) (off := 37) hx hb d_W_sortOfName_3 (by rw [b_1]; decide) (by rw [b_1]; decide) (by rw [b_1]; decide) (by decide) ?_
    refine lv_aload_n hx hb d_W_sortOfName_40 rfl (lv_at hl 0 rfl) ?_
    refine lv_iload_n hx hb d_W_sortOfName_41 rfl (lv_at hl 1 rfl) ?_
    have hM := met_W_sortOfThree (l := l) (dd := dd) (cB := cB) (cI := cI) (cL := cL) (cS := cS) (adK := adK) (adV := adV) (oW := oW) (aX := aX) (aO := aO) (aB := aB) (aE := aE) (wc := wc)  hv
    refine krv_i (st := [.int x1, .ref oW]) (rest := []) ⟨hx, hb, hml, hown, hts⟩ hM (cwV 1 hts (gv (tg0 at_189) (tg0 at_191) (tg0 ap_8) (tg0 at_2) (tg0 at_192)) rfl rfl rfl (by decide +kernel) (rk (by omega) (by decide))) xfb (xfr hX va_S.rf) hP hK [0, 1] rfl (ci := 1) rfl rfl (q0 := 0) rfl rfl hl.1 rfl (Nat.le_of_ble_eq_true rfl) d_W_sortOfName_42 ⟨Nat.zero_le _, Nat.zero_le _⟩ (fun r_2 hv => ?_)
    exact rr_i hx hb hr hlocks r_2 hv d_W_sortOfName_45
  · have hv := hv.2 b_1
    by_cases b_4 : (x2 - x1) = 4
    · have hv := hv.1 b_4
      refine lv_tableIn (tgt := 46) (off := 43) hx hb d_W_sortOfName_3 (by rw [b_4]; decide) (by rw [b_4]; decide) (by rw [b_4]; decide) (by decide) ?_
      refine lv_aload_n hx hb d_W_sortOfName_46 rfl (lv_at hl 0 rfl) ?_
      refine lv_iload_n hx hb d_W_sortOfName_47 rfl (lv_at hl 1 rfl) ?_
      have hM := met_W_sortOfFour (l := l) (dd := dd) (cB := cB) (cI := cI) (cL := cL) (cS := cS) (adK := adK) (adV := adV) (oW := oW) (aX := aX) (aO := aO) (aB := aB) (aE := aE) (wc := wc)  hv
      refine krv_i (st := [.int x1, .ref oW]) (rest := []) ⟨hx, hb, hml, hown, hts⟩ hM (cwV 1 hts (gv (tg0 at_247) (tg0 at_249) (tg0 ap_10) (tg0 at_2) (tg0 at_250)) rfl rfl rfl (by decide +kernel) (rk (by omega) (by decide))) xfb (xfr hX va_S.rf) hP hK [0, 1] rfl (ci := 1) rfl rfl (q0 := 0) rfl rfl hl.1 rfl (Nat.le_of_ble_eq_true rfl) d_W_sortOfName_48 ⟨Nat.zero_le _, Nat.zero_le _⟩ (fun r_5 hv => ?_)
      exact rr_i hx hb hr hlocks r_5 hv d_W_sortOfName_51
    · have hv := hv.2 b_4
      by_cases b_7 : (x2 - x1) = 5
      · have hv := hv.1 b_7
        refine lv_tableIn (tgt := 52) (off := 49) hx hb d_W_sortOfName_3 (by rw [b_7]; decide) (by rw [b_7]; decide) (by rw [b_7]; decide) (by decide) ?_
        refine lv_aload_n hx hb d_W_sortOfName_52 rfl (lv_at hl 0 rfl) ?_
        refine lv_iload_n hx hb d_W_sortOfName_53 rfl (lv_at hl 1 rfl) ?_
        have hM := met_W_sortOfFive (l := l) (dd := dd) (cB := cB) (cI := cI) (cL := cL) (cS := cS) (adK := adK) (adV := adV) (oW := oW) (aX := aX) (aO := aO) (aB := aB) (aE := aE) (wc := wc)  hv
        refine krv_i (st := [.int x1, .ref oW]) (rest := []) ⟨hx, hb, hml, hown, hts⟩ hM (cwV 1 hts (gv (tg0 at_256) (tg0 at_258) (tg0 ap_11) (tg0 at_2) (tg0 at_259)) rfl rfl rfl (by decide +kernel) (rk (by omega) (by decide))) xfb (xfr hX va_S.rf) hP hK [0, 1] rfl (ci := 1) rfl rfl (q0 := 0) rfl rfl hl.1 rfl (Nat.le_of_ble_eq_true rfl) d_W_sortOfName_54 ⟨Nat.zero_le _, Nat.zero_le _⟩ (fun r_8 hv => ?_)
        exact rr_i hx hb hr hlocks r_8 hv d_W_sortOfName_57
      · have hv := hv.2 b_7
        by_cases b_10 : (x2 - x1) = 6
        · have hv := hv.1 b_10
          refine lv_tableIn (tgt := 58) (off := 55) hx hb d_W_sortOfName_3 (by rw [b_10]; decide) (by rw [b_10]; decide) (by rw [b_10]; decide) (by decide) ?_
          refine lv_aload_n hx hb d_W_sortOfName_58 rfl (lv_at hl 0 rfl) ?_
          refine lv_iload_n hx hb d_W_sortOfName_59 rfl (lv_at hl 1 rfl) ?_
          refine va_ldcS hx hb hown (show vk_R "NetText$Words" 109 "repeat" (adK 15) s from xf_r hX (i := 15) (by decide)) d_W_sortOfName_60 ?_
          have hM := met_W_spells (l := l) (dd := dd) (cB := cB) (cI := cI) (cL := cL) (cS := cS) (adK := adK) (adV := adV) (oW := oW) (aX := aX) (aO := aO) (aB := aB) (aE := aE) (wc := wc)  (by decide) hv
          refine krv_i (st := [.ref (adK 15), .int x1, .ref oW]) (rest := []) ⟨hx, hb, hml, hown, hts⟩ hM (cwV 2 hts (gv (tg0 at_194) (tg0 at_196) (tg0 ap_9) (tg0 at_2) (tg0 at_197)) rfl rfl rfl (by decide +kernel) (rk (by omega) (by decide))) xfb (xfr hX va_S.rf) hP hK [0, 1] rfl (ci := 1) rfl rfl (q0 := 0) rfl rfl hl.1 rfl (Nat.le_of_ble_eq_true rfl) d_W_sortOfName_62 ⟨Nat.zero_le _, Nat.zero_le _⟩ (fun r_11 hv => ?_)
          refine lv_if_eq (tgt := 74) hx hb d_W_sortOfName_65 (by decide) (fun b_12 => ?_) (fun b_12 => ?_)
          · have hv := hv.1 b_12
            refine lv_iconst (v := 3) hx hb d_W_sortOfName_74 (by decide) ?_
            exact rr_i hx hb hr hlocks 3 hv d_W_sortOfName_75
          · have hv := hv.2 b_12
            refine lv_sipush (v := 264) hx hb d_W_sortOfName_68 (by decide) ?_
            refine lv_goto (tgt := 75) hx hb d_W_sortOfName_71 (by decide) ?_
            exact rr_i hx hb hr hlocks 264 hv d_W_sortOfName_75
        · have hv := hv.2 b_10
          by_cases b_14 : (x2 - x1) = 7
          · have hv := hv.1 b_14
            refine lv_tableIn (tgt := 94) (off := 91) hx hb d_W_sortOfName_3 (by rw [b_14]; decide) (by rw [b_14]; decide) (by rw [b_14]; decide) (by decide) ?_
            refine lv_iconst (v := 3) hx hb d_W_sortOfName_94 (by decide) ?_
            exact rr_i hx hb hr hlocks 3 hv d_W_sortOfName_95
          · have hv := hv.2 b_14
            by_cases b_15 : (x2 - x1) = 8
            · have hv := hv.1 b_15
              refine lv_tableIn (tgt := 76) (off := 73) hx hb d_W_sortOfName_3 (by rw [b_15]; decide) (by rw [b_15]; decide) (by rw [b_15]; decide) (by decide) ?_
              refine lv_aload_n hx hb d_W_sortOfName_76 rfl (lv_at hl 0 rfl) ?_
              refine lv_iload_n hx hb d_W_sortOfName_77 rfl (lv_at hl 1 rfl) ?_
              refine va_ldcS hx hb hown (show vk_R "NetText$Words" 115 "momentum" (adK 16) s from xf_r hX (i := 16) (by decide)) d_W_sortOfName_78 ?_
              have hM := met_W_spells (l := l) (dd := dd) (cB := cB) (cI := cI) (cL := cL) (cS := cS) (adK := adK) (adV := adV) (oW := oW) (aX := aX) (aO := aO) (aB := aB) (aE := aE) (wc := wc)  (by decide) hv
              refine krv_i (st := [.ref (adK 16), .int x1, .ref oW]) (rest := []) ⟨hx, hb, hml, hown, hts⟩ hM (cwV 2 hts (gv (tg0 at_194) (tg0 at_196) (tg0 ap_9) (tg0 at_2) (tg0 at_197)) rfl rfl rfl (by decide +kernel) (rk (by omega) (by decide))) xfb (xfr hX va_S.rf) hP hK [0, 1] rfl (ci := 1) rfl rfl (q0 := 0) rfl rfl hl.1 rfl (Nat.le_of_ble_eq_true rfl) d_W_sortOfName_80 ⟨Nat.zero_le _, Nat.zero_le _⟩ (fun r_16 hv => ?_)
              refine lv_if_eq (tgt := 92) hx hb d_W_sortOfName_83 (by decide) (fun b_17 => ?_) (fun b_17 => ?_)
              · have hv := hv.1 b_17
                refine lv_iconst (v := 3) hx hb d_W_sortOfName_92 (by decide) ?_
                exact rr_i hx hb hr hlocks 3 hv d_W_sortOfName_93
              · have hv := hv.2 b_17
                refine lv_sipush (v := 270) hx hb d_W_sortOfName_86 (by decide) ?_
                refine lv_goto (tgt := 93) hx hb d_W_sortOfName_89 (by decide) ?_
                exact rr_i hx hb hr hlocks 270 hv d_W_sortOfName_93
            · have hv := hv.2 b_15
              refine lv_tableOut (tgt := 94) hx hb d_W_sortOfName_3 (by have := lv_neT b_1 (show (3 : Int32).toInt = 3 by decide); have := lv_neT b_4 (show (4 : Int32).toInt = 4 by decide); have := lv_neT b_7 (show (5 : Int32).toInt = 5 by decide); have := lv_neT b_10 (show (6 : Int32).toInt = 6 by decide); have := lv_neT b_14 (show (7 : Int32).toInt = 7 by decide); have := lv_neT b_15 (show (8 : Int32).toInt = 8 by decide); omega) (by decide) ?_
              refine lv_iconst (v := 3) hx hb d_W_sortOfName_94 (by decide) ?_
              exact rr_i hx hb hr hlocks 3 hv d_W_sortOfName_95
def vc_W_sortOfBytes  (nX : Nat) (tx : FN) (ln : Int32) (x1 : Int32) (x2 : Int32) (K_ : Int32 → Prop) : Prop :=
  (vc_W_byteAt nX tx ln x1 (fun r_1 => ((¬ r_1 = (-1) → (vc_W_isLetter r_1 (fun r_3 => ((r_3 = 0 → (vc_W_isDigit r_1 (fun r_5 => ((r_5 = 0 → (∀ r_7 : Int32, (0 ≤ r_7 ↔ ((r_1.toUInt32 % 65536).toInt32) ∈ bytS.getD 17 []) → ((r_7 < 0 → (K_ 2)) ∧ (¬ r_7 < 0 → (K_ r_1))))) ∧ (¬ r_5 = 0 → (vc_W_isNumber nX tx ln x1 x2 (fun r_9 => ((r_9 = 0 → (K_ 2)) ∧ (¬ r_9 = 0 → (K_ 4)))))))))) ∧ (¬ r_3 = 0 → ((40 < (x2 - x1) → (K_ 2)) ∧ (¬ 40 < (x2 - x1) → (vc_W_sortOfName nX tx ln x1 x2 (fun r_14 => (K_ r_14)))))))))) ∧ (r_1 = (-1) → (K_ 1)))))
set_option maxHeartbeats 4000000 in
set_option maxRecDepth 100000 in
theorem met_W_sortOfBytes {l : Launch} {dd : va_G} {cB cI cL cS : ClassId} {adK adV : Nat → Nat} {oW : Nat} {aX : Nat} {aO : Nat} {aB : Nat} {aE : Nat}  {nX : Nat} {tx : FN} {ln : Int32} {wc : Int32} {x1 : Int32} {x2 : Int32} {K_ : Int32 → Prop}  (hv : vc_W_sortOfBytes  nX tx ln x1 x2 K_) : CtR l y_W_sortOfBytes w_W_sortOfBytes (rmk 9 0 0) dd cls5 [(cB, .byte), (cI, .int), (cL, .long), (cS, .object "java/lang/String")] (XF adK adV) [(oW, .inr (1, [.ref aX, .int ln, .ref aO, .ref aB, .ref aE, .int wc])), (aX, .inl (cB, nX, .inl tx))] [.ref oW, .int x1, .int x2] (qR K_) := by
  refine m_ofR (cc := b_W_sortOfBytes) (nL := 4) (ret := (some .int)) (by decide) rfl (Nat.le_of_ble_eq_true rfl) ?_
  intro p e s m below meth c ls ar Fx_ hP hK hX hl
  obtain ⟨hx, hb, hml, hr, hlocks, hown, hts, hinn⟩ := Fx_
  have hl : lv_has ls 4 [(0, .ref oW), (1, .int x1), (2, .int x2)] := hl
  unfold vc_W_sortOfBytes at hv
  refine lv_aload_n hx hb d_W_sortOfBytes_0 rfl (lv_at hl 0 rfl) ?_
  refine lv_iload_n hx hb d_W_sortOfBytes_1 rfl (lv_at hl 1 rfl) ?_
  have hM := met_W_byteAt (l := l) (dd := dd) (cB := cB) (cI := cI) (cL := cL) (cS := cS) (oW := oW) (aX := aX) (aO := aO) (aB := aB) (aE := aE) (wc := wc)  hv
  refine krv_i (st := [.int x1, .ref oW]) (rest := []) ⟨hx, hb, hml, hown, hts⟩ hM (cwV 1 hts (gv (tg0 at_149) (tg0 at_150) (tg0 at_151) (tg0 at_2) (tg0 at_152)) rfl rfl rfl (by decide +kernel) (rk (by omega) (by decide))) x0b (fun _ _ _ => trivial) hP hK [0, 1] rfl (ci := 1) rfl rfl (q0 := 0) rfl rfl hl.1 rfl (Nat.le_of_ble_eq_true rfl) d_W_sortOfBytes_2 ⟨Nat.zero_le _, Nat.zero_le _⟩ (fun r_1 hv => ?_)
  refine lv_istore_n (lv' := [(3, .int r_1), (0, .ref oW), (1, .int x1), (2, .int x2)]) hx hb d_W_sortOfBytes_5 rfl hl (by decide) rfl (fun ls hl => ?_)
  refine lv_iload_n hx hb d_W_sortOfBytes_6 rfl (lv_at hl 0 rfl) ?_
  refine lv_iconst (v := (-1)) hx hb d_W_sortOfBytes_7 (by decide) ?_
  refine lv_icmp_ne (tgt := 13) hx hb d_W_sortOfBytes_8 (by decide) (fun b_2 => ?_) (fun b_2 => ?_)
  · have hv := hv.1 b_2
    refine lv_iload_n hx hb d_W_sortOfBytes_13 rfl (lv_at hl 0 rfl) ?_
    have hM := met_W_isLetter (l := l) (dd := dd) (cB := cB) (cI := cI) (cL := cL) (cS := cS)   hv
    refine krs_i (st := [.int r_1]) (rest := []) ⟨hx, hb, hml, hown, hts⟩ hM (cwS 1 hts (gs (tg0 at_160) (tg0 at_161) (tg0 at_2) (tg0 at_162)) rfl rfl rfl (by decide +kernel) (rk (by omega) (by decide))) x0b (fun _ _ _ => trivial) hP hK [] rfl rfl hl.1 rfl (Nat.le_of_ble_eq_true rfl) d_W_sortOfBytes_14 ⟨Nat.zero_le _, Nat.zero_le _⟩ (fun r_3 hv => ?_)
    refine lv_if_eq (tgt := 39) hx hb d_W_sortOfBytes_17 (by decide) (fun b_4 => ?_) (fun b_4 => ?_)
    · have hv := hv.1 b_4
      refine lv_iload_n hx hb d_W_sortOfBytes_39 rfl (lv_at hl 0 rfl) ?_
      have hM := met_W_isDigit (l := l) (dd := dd) (cB := cB) (cI := cI) (cL := cL) (cS := cS)   hv
      refine krs_i (st := [.int r_1]) (rest := []) ⟨hx, hb, hml, hown, hts⟩ hM (cwS 1 hts (gs (tg0 at_167) (tg0 at_168) (tg0 at_2) (tg0 at_169)) rfl rfl rfl (by decide +kernel) (rk (by omega) (by decide))) x0b (fun _ _ _ => trivial) hP hK [] rfl rfl hl.1 rfl (Nat.le_of_ble_eq_true rfl) d_W_sortOfBytes_40 ⟨Nat.zero_le _, Nat.zero_le _⟩ (fun r_5 hv => ?_)
      refine lv_if_eq (tgt := 61) hx hb d_W_sortOfBytes_43 (by decide) (fun b_6 => ?_) (fun b_6 => ?_)
      · have hv := hv.1 b_6
        refine va_ldcS hx hb hown (show vk_R "NetText$Words" 90 "+-*@/()[]{},;=.~" (adK 17) s from xf_r hX (i := 17) (by decide)) d_W_sortOfBytes_61 ?_
        refine lv_iload_n hx hb d_W_sortOfBytes_63 rfl (lv_at hl 0 rfl) ?_
        refine lv_i2c (v := ((r_1.toUInt32 % 65536).toInt32)) hx hb d_W_sortOfBytes_64 rfl ?_
        refine krO_i (st := [.int ((r_1.toUInt32 % 65536).toInt32), .ref (adK 17)]) (rest := []) ⟨hx, hb, hml, hown, hts⟩ (sl_idx (l := l) (dd := dd) (cB := cB) (cI := cI) (cL := cL) (cS := cS) (adK := adK) (adV := adV)  (by decide) (c := ((r_1.toUInt32 % 65536).toInt32))) (cwV 1 hts (gv (tg0 at_275) (tg0 at_276) (tg0 at_277) (tg0 at_14) (tg0 at_278)) rfl rfl rfl (by decide +kernel) (rk (by omega) (by decide))) xfb (xfr hX va_S.rf) hP hK [] rfl (xf_o hX va_S.rf (by decide)) rfl hl.1 rfl (Nat.le_of_ble_eq_true rfl) d_W_sortOfBytes_65 ⟨Nat.zero_le _, Nat.zero_le _⟩ (fun r_7 hq => ?_)
        have hv := hv r_7 hq
        refine lv_if_lt (tgt := 75) hx hb d_W_sortOfBytes_68 (by decide) (fun b_8 => ?_) (fun b_8 => ?_)
        · have hv := hv.1 b_8
          refine lv_iconst (v := 2) hx hb d_W_sortOfBytes_75 (by decide) ?_
          exact rr_i hx hb hr hlocks 2 hv d_W_sortOfBytes_76
        · have hv := hv.2 b_8
          refine lv_iload_n hx hb d_W_sortOfBytes_71 rfl (lv_at hl 0 rfl) ?_
          refine lv_goto (tgt := 76) hx hb d_W_sortOfBytes_72 (by decide) ?_
          exact rr_i hx hb hr hlocks r_1 hv d_W_sortOfBytes_76
      · have hv := hv.2 b_6
        refine lv_aload_n hx hb d_W_sortOfBytes_46 rfl (lv_at hl 1 rfl) ?_
        refine lv_iload_n hx hb d_W_sortOfBytes_47 rfl (lv_at hl 2 rfl) ?_
        refine lv_iload_n hx hb d_W_sortOfBytes_48 rfl (lv_at hl 3 rfl) ?_
        have hM := met_W_isNumber (l := l) (dd := dd) (cB := cB) (cI := cI) (cL := cL) (cS := cS) (oW := oW) (aX := aX) (aO := aO) (aB := aB) (aE := aE) (wc := wc)  hv
        refine krv_i (st := [.int x2, .int x1, .ref oW]) (rest := []) ⟨hx, hb, hml, hown, hts⟩ hM (cwV 2 hts (gv (tg0 at_270) (tg0 at_272) (tg0 ap_12) (tg0 at_2) (tg0 at_273)) rfl rfl rfl (by decide +kernel) (rk (by omega) (by decide))) x0b (fun _ _ _ => trivial) hP hK [0, 1] rfl (ci := 1) rfl rfl (q0 := 0) rfl rfl hl.1 rfl (Nat.le_of_ble_eq_true rfl) d_W_sortOfBytes_49 ⟨Nat.zero_le _, Nat.zero_le _⟩ (fun r_9 hv => ?_)
        refine lv_if_eq (tgt := 59) hx hb d_W_sortOfBytes_52 (by decide) (fun b_10 => ?_) (fun b_10 => ?_)
        · have hv := hv.1 b_10
          refine lv_iconst (v := 2) hx hb d_W_sortOfBytes_59 (by decide) ?_
          exact rr_i hx hb hr hlocks 2 hv d_W_sortOfBytes_60
        · have hv := hv.2 b_10
          refine lv_iconst (v := 4) hx hb d_W_sortOfBytes_55 (by decide) ?_
          refine lv_goto (tgt := 60) hx hb d_W_sortOfBytes_56 (by decide) ?_
          exact rr_i hx hb hr hlocks 4 hv d_W_sortOfBytes_60
    · have hv := hv.2 b_4
      refine lv_iload_n hx hb d_W_sortOfBytes_20 rfl (lv_at hl 3 rfl) ?_
      refine lv_iload_n hx hb d_W_sortOfBytes_21 rfl (lv_at hl 2 rfl) ?_
      refine lv_isub hx hb d_W_sortOfBytes_22 ?_
      refine lv_bipush (v := 40) hx hb d_W_sortOfBytes_23 (by decide) ?_
      refine lv_icmp_gt (tgt := 37) hx hb d_W_sortOfBytes_25 (by decide) (fun b_13 => ?_) (fun b_13 => ?_)
      · have hv := hv.1 b_13
        refine lv_iconst (v := 2) hx hb d_W_sortOfBytes_37 (by decide) ?_
        exact rr_i hx hb hr hlocks 2 hv d_W_sortOfBytes_38
      · have hv := hv.2 b_13
        refine lv_aload_n hx hb d_W_sortOfBytes_28 rfl (lv_at hl 1 rfl) ?_
        refine lv_iload_n hx hb d_W_sortOfBytes_29 rfl (lv_at hl 2 rfl) ?_
        refine lv_iload_n hx hb d_W_sortOfBytes_30 rfl (lv_at hl 3 rfl) ?_
        have hM := met_W_sortOfName (l := l) (dd := dd) (cB := cB) (cI := cI) (cL := cL) (cS := cS) (adK := adK) (adV := adV) (oW := oW) (aX := aX) (aO := aO) (aB := aB) (aE := aE) (wc := wc)  hv
        refine krv_i (st := [.int x2, .int x1, .ref oW]) (rest := []) ⟨hx, hb, hml, hown, hts⟩ hM (cwV 2 hts (gv (tg0 at_185) (tg0 at_187) (tg0 ap_7) (tg0 at_2) (tg0 at_188)) rfl rfl rfl (by decide +kernel) (rk (by omega) (by decide))) xfb (xfr hX va_S.rf) hP hK [0, 1] rfl (ci := 1) rfl rfl (q0 := 0) rfl rfl hl.1 rfl (Nat.le_of_ble_eq_true rfl) d_W_sortOfBytes_31 ⟨Nat.zero_le _, Nat.zero_le _⟩ (fun r_14 hv => ?_)
        refine lv_goto (tgt := 38) hx hb d_W_sortOfBytes_34 (by decide) ?_
        exact rr_i hx hb hr hlocks r_14 hv d_W_sortOfBytes_38
  · have hv := hv.2 b_2
    refine lv_iconst (v := 1) hx hb d_W_sortOfBytes_11 (by decide) ?_
    exact rr_i hx hb hr hlocks 1 hv d_W_sortOfBytes_12
def vl_W_cut_19  (mc_ : Nat) (ms_ : Nat) (nX : Nat) (tx : FN) (ln : Int32) (nO : Nat) (so : FN) (sb : FN) (se : FN) (wc : Int32) (nA : Nat) (tp : FN) (aX : Nat) (aO : Nat) (aB : Nat) (aE : Nat) (x1 : Int32) (aX_2 : Nat) (aO_3 : Nat) (aB_4 : Nat) (aE_5 : Nat) (nX_6 : Nat) (nO_9 : Nat) (K_ : Nat → Nat → Nat → Nat → Nat → FN → Int32 → Nat → FN → FN → FN → Int32 → Prop) : Nat → Int32 → Int32 → Int32 → FN → Int32 → FN → FN → FN → Int32 → Prop
  | 0 => fun _ _ _ _ _ _ _ _ _ => False
  | n_ + 1 => fun x5_h19 x4_h19 x3_h19 tx_h19 ln_h19 so_h19 sb_h19 se_h19 wc_h19 =>
  ((ln_h19 < x5_h19 → (K_ aX_2 aO_3 aB_4 aE_5 nX_6 tx_h19 ln_h19 nO_9 so_h19 sb_h19 se_h19 wc_h19)) ∧ (¬ ln_h19 < x5_h19 → ((x4_h19 = 1 → (K_ aX_2 aO_3 aB_4 aE_5 nX_6 tx_h19 ln_h19 nO_9 so_h19 sb_h19 se_h19 wc_h19)) ∧ (¬ x4_h19 = 1 → ((x4_h19 = 2 → (K_ aX_2 aO_3 aB_4 aE_5 nX_6 tx_h19 ln_h19 nO_9 so_h19 sb_h19 se_h19 wc_h19)) ∧ (¬ x4_h19 = 2 → (vc_W_afterBlanks nX_6 tx_h19 ln_h19 x3_h19 (fun r_18 => (vc_W_endOfWord nX_6 tx_h19 ln_h19 r_18 (fun r_19 => (vc_W_sortOfBytes nX_6 tx_h19 ln_h19 r_18 r_19 (fun r_20 => (vc_W_add nO_9 so_h19 sb_h19 se_h19 wc_h19 r_20 r_18 r_19 (fun wc_22 so_23 sb_24 se_25 => (vl_W_cut_19 mc_ ms_ nX tx ln nO so sb se wc nA tp aX aO aB aE x1 aX_2 aO_3 aB_4 aE_5 nX_6 nO_9 K_ n_ (x5_h19 + 1) r_20 r_19 tx_h19 ln_h19 so_23 sb_24 se_25 wc_22)))))))))))))))
def vc_W_cut  (mc_ : Nat) (ms_ : Nat) (nX : Nat) (tx : FN) (ln : Int32) (nO : Nat) (so : FN) (sb : FN) (se : FN) (wc : Int32) (nA : Nat) (tp : FN) (aX : Nat) (aO : Nat) (aB : Nat) (aE : Nat) (x1 : Int32) (K_ : Nat → Nat → Nat → Nat → Nat → FN → Int32 → Nat → FN → FN → FN → Int32 → Prop) : Prop :=
  (∃ c_13 s_14 : Nat, 0 + c_13 ≤ mc_ ∧ 0 + s_14 ≤ ms_ ∧ (vc_W_keep c_13 s_14 nX tx ln nO so sb se nA tp aX aO aB aE x1 (fun aX_2 aO_3 aB_4 aE_5 nX_6 tx_7 ln_8 nO_9 so_10 sb_11 se_12 => (∃ n_, vl_W_cut_19 mc_ ms_ nX tx ln nO so sb se wc nA tp aX aO aB aE x1 aX_2 aO_3 aB_4 aE_5 nX_6 nO_9 K_ n_ 0 0 0 tx_7 ln_8 so_10 sb_11 se_12 0))))
set_option maxHeartbeats 4000000 in
set_option maxRecDepth 100000 in
theorem met_W_cut {l : Launch} {dd : va_G} {cB cI cL cS : ClassId} {adK adV : Nat → Nat} {oW : Nat} {aT : Nat}  {mc_ : Nat} {ms_ : Nat} {nX : Nat} {tx : FN} {ln : Int32} {nO : Nat} {so : FN} {sb : FN} {se : FN} {wc : Int32} {nA : Nat} {tp : FN} {aX : Nat} {aO : Nat} {aB : Nat} {aE : Nat} {x1 : Int32} {K_ : Nat → Nat → Nat → Nat → Nat → FN → Int32 → Nat → FN → FN → FN → Int32 → Prop}  (hv : vc_W_cut  mc_ ms_ nX tx ln nO so sb se wc nA tp aX aO aB aE x1 K_) : Ct l y_W_cut w_W_cut (rmk 10 mc_ ms_) dd cls5 [(cB, .byte), (cI, .int), (cL, .long), (cS, .object "java/lang/String")] (XF adK adV) [(oW, .inr (1, [.ref aX, .int ln, .ref aO, .ref aB, .ref aE, .int wc])), (aX, .inl (cB, nX, .inl tx)), (aO, .inl (cI, nO, .inl so)), (aB, .inl (cI, nO, .inl sb)), (aE, .inl (cI, nO, .inl se)), (aT, .inl (cB, nA, .inl tp))] [.ref oW, .ref aT, .int x1] (qv dd cls5 [(cB, .byte), (cI, .int), (cL, .long), (cS, .object "java/lang/String")] (fun u_ : Nat × Nat × Nat × Nat × Nat × FN × Int32 × Nat × FN × FN × FN × Int32 => [(oW, .inr (1, [.ref u_.1, .int u_.2.2.2.2.2.2.1, .ref u_.2.1, .ref u_.2.2.1, .ref u_.2.2.2.1, .int u_.2.2.2.2.2.2.2.2.2.2.2])), (u_.1, .inl (cB, u_.2.2.2.2.1, .inl u_.2.2.2.2.2.1)), (u_.2.1, .inl (cI, u_.2.2.2.2.2.2.2.1, .inl u_.2.2.2.2.2.2.2.2.1)), (u_.2.2.1, .inl (cI, u_.2.2.2.2.2.2.2.1, .inl u_.2.2.2.2.2.2.2.2.2.1)), (u_.2.2.2.1, .inl (cI, u_.2.2.2.2.2.2.2.1, .inl u_.2.2.2.2.2.2.2.2.2.2.1)), (aT, .inl (cB, nA, .inl tp))]) (fun u_ => K_ u_.1 u_.2.1 u_.2.2.1 u_.2.2.2.1 u_.2.2.2.2.1 u_.2.2.2.2.2.1 u_.2.2.2.2.2.2.1 u_.2.2.2.2.2.2.2.1 u_.2.2.2.2.2.2.2.2.1 u_.2.2.2.2.2.2.2.2.2.1 u_.2.2.2.2.2.2.2.2.2.2.1 u_.2.2.2.2.2.2.2.2.2.2.2)) mc_ ms_ := by
  refine m_of (cc := b_W_cut) (nL := 8) (ret := none) (by decide) rfl (Nat.le_of_ble_eq_true rfl) ?_
  intro p e s m below meth c ls A ar Fx_ hA hP hK hD hS hX hl
  obtain ⟨hx, hb, hml, hr, hlocks, hown, hts, hinn⟩ := Fx_
  generalize hQ : MQ below ((qv dd cls5 [(cB, .byte), (cI, .int), (cL, .long), (cS, .object "java/lang/String")] (fun u_ : Nat × Nat × Nat × Nat × Nat × FN × Int32 × Nat × FN × FN × FN × Int32 => [(oW, .inr (1, [.ref u_.1, .int u_.2.2.2.2.2.2.1, .ref u_.2.1, .ref u_.2.2.1, .ref u_.2.2.2.1, .int u_.2.2.2.2.2.2.2.2.2.2.2])), (u_.1, .inl (cB, u_.2.2.2.2.1, .inl u_.2.2.2.2.2.1)), (u_.2.1, .inl (cI, u_.2.2.2.2.2.2.2.1, .inl u_.2.2.2.2.2.2.2.2.1)), (u_.2.2.1, .inl (cI, u_.2.2.2.2.2.2.2.1, .inl u_.2.2.2.2.2.2.2.2.2.1)), (u_.2.2.2.1, .inl (cI, u_.2.2.2.2.2.2.2.1, .inl u_.2.2.2.2.2.2.2.2.2.2.1)), (aT, .inl (cB, nA, .inl tp))]) (fun u_ => K_ u_.1 u_.2.1 u_.2.2.1 u_.2.2.2.1 u_.2.2.2.2.1 u_.2.2.2.2.2.1 u_.2.2.2.2.2.2.1 u_.2.2.2.2.2.2.2.1 u_.2.2.2.2.2.2.2.2.1 u_.2.2.2.2.2.2.2.2.2.1 u_.2.2.2.2.2.2.2.2.2.2.1 u_.2.2.2.2.2.2.2.2.2.2.2)) A) ar s mc_ ms_ A = QQ
  have hl : lv_has ls 8 [(0, .ref oW), (1, .ref aT), (2, .int x1)] := hl
  unfold vc_W_cut at hv
  refine lv_aload_n hx hb d_W_cut_0 rfl (lv_at hl 0 rfl) ?_
  refine lv_aload_n hx hb d_W_cut_1 rfl (lv_at hl 1 rfl) ?_
  refine lv_iload_n hx hb d_W_cut_2 rfl (lv_at hl 2 rfl) ?_
  obtain ⟨c_13, s_14, h_30, h_31, hv⟩ := hv
  have hM := met_W_keep (l := l) (dd := dd) (cB := cB) (cI := cI) (cL := cL) (cS := cS) (oW := oW) (aT := aT) (wc := wc)  hv
  refine kv_v (st := [.int x1, .ref aT, .ref oW]) (rest := []) (wr := []) ⟨hx, hb, hml, hown, hts⟩ hM (cwV 2 hts (gv (tg0 at_138) (tg0 at_140) (tg0 ap_0) (tg0 at_2) (tg0 at_141)) rfl rfl rfl (by decide +kernel) (rk (by omega) (by decide))) x0b x0g hP hK hD hS hA [0, 1, 2, 3, 4, 5] [] rfl rfl (by decide) (by decide) (by decide) (ci := 1) rfl rfl (q0 := 0) rfl rfl hl.1 rfl (Nat.le_of_ble_eq_true rfl) d_W_cut_3 ⟨h_30, h_31⟩ (fun u_32 H locs hv hP hD hS => ?_)
  obtain ⟨aX_2, aO_3, aB_4, aE_5, nX_6, tx_7, ln_8, nO_9, so_10, sb_11, se_12⟩ := u_32
  have hP : va_P dd cls5 [(oW, .inr (1, [.ref aX_2, .int ln_8, .ref aO_3, .ref aB_4, .ref aE_5, .int wc])), (aX_2, .inl (cB, nX_6, .inl tx_7)), (aO_3, .inl (cI, nO_9, .inl so_10)), (aB_4, .inl (cI, nO_9, .inl sb_11)), (aE_5, .inl (cI, nO_9, .inl se_12)), (aT, .inl (cB, nA, .inl tp))] H := hP
  have hD : va_D A [(oW, .inr (1, [.ref aX_2, .int ln_8, .ref aO_3, .ref aB_4, .ref aE_5, .int wc])), (aX_2, .inl (cB, nX_6, .inl tx_7)), (aO_3, .inl (cI, nO_9, .inl so_10)), (aB_4, .inl (cI, nO_9, .inl sb_11)), (aE_5, .inl (cI, nO_9, .inl se_12)), (aT, .inl (cB, nA, .inl tp))] := hD
  refine lv_aload_n hx hb d_W_cut_6 rfl (lv_at hl 0 rfl) ?_
  refine lv_iconst (v := 0) hx hb d_W_cut_7 (by decide) ?_
  refine va_put (D := dd) (ci := 1) (C := Rc_W) (T := Fc_W) (N := 6) (v := .int 0) (ty := .int) hx hb hts (inn in_W) tyf_W tyf_W_ok nmf_W hown hK hP hD hS 0 rfl rfl 5 (by decide) (hts (.fieldLink "NetText$Words" 29 "NetText$Words" "count" "I") (tg at_40)) (fun _ h9 => h9) rfl (by decide +kernel) rfl rfl (Nat.le_of_ble_eq_true rfl) d_W_cut_8 (fun H locs hP hD hS => ?_)
  have hP : va_P dd cls5 [(oW, .inr (1, [.ref aX_2, .int ln_8, .ref aO_3, .ref aB_4, .ref aE_5, .int 0])), (aX_2, .inl (cB, nX_6, .inl tx_7)), (aO_3, .inl (cI, nO_9, .inl so_10)), (aB_4, .inl (cI, nO_9, .inl sb_11)), (aE_5, .inl (cI, nO_9, .inl se_12)), (aT, .inl (cB, nA, .inl tp))] H := hP
  have hD : va_D A [(oW, .inr (1, [.ref aX_2, .int ln_8, .ref aO_3, .ref aB_4, .ref aE_5, .int 0])), (aX_2, .inl (cB, nX_6, .inl tx_7)), (aO_3, .inl (cI, nO_9, .inl so_10)), (aB_4, .inl (cI, nO_9, .inl sb_11)), (aE_5, .inl (cI, nO_9, .inl se_12)), (aT, .inl (cB, nA, .inl tp))] := hD
  refine lv_iconst (v := 0) hx hb d_W_cut_11 (by decide) ?_
  refine lv_istore_n (lv' := [(3, .int 0), (0, .ref oW), (1, .ref aT), (2, .int x1)]) hx hb d_W_cut_12 rfl hl (by decide) rfl (fun ls hl => ?_)
  refine lv_iconst (v := 0) hx hb d_W_cut_13 (by decide) ?_
  refine lv_istore (lv' := [(4, .int 0), (3, .int 0), (0, .ref oW), (1, .ref aT), (2, .int x1)]) hx hb d_W_cut_14 hl (by decide) rfl (fun ls hl => ?_)
  refine lv_iconst (v := 0) hx hb d_W_cut_16 (by decide) ?_
  refine lv_istore (lv' := [(5, .int 0), (4, .int 0), (3, .int 0), (0, .ref oW), (1, .ref aT), (2, .int x1)]) hx hb d_W_cut_17 hl (by decide) rfl (fun ls hl => ?_)
  obtain ⟨n_19, hv⟩ := hv
  have LP_19 : ∀ (n_ : Nat) (x5_h19 : Int32) (x4_h19 : Int32) (x3_h19 : Int32) (tx_h19 : FN) (ln_h19 : Int32) (so_h19 : FN) (sb_h19 : FN) (se_h19 : FN) (wc_h19 : Int32) (H : Heap) (locs : List Loc) (ls : Array Slot), vl_W_cut_19 mc_ ms_ nX tx ln nO so sb se wc nA tp aX aO aB aE x1 aX_2 aO_3 aB_4 aE_5 nX_6 nO_9 K_ n_ x5_h19 x4_h19 x3_h19 tx_h19 ln_h19 so_h19 sb_h19 se_h19 wc_h19 → va_P dd cls5 [(oW, .inr (1, [.ref aX_2, .int ln_h19, .ref aO_3, .ref aB_4, .ref aE_5, .int wc_h19])), (aX_2, .inl (cB, nX_6, .inl tx_h19)), (aO_3, .inl (cI, nO_9, .inl so_h19)), (aB_4, .inl (cI, nO_9, .inl sb_h19)), (aE_5, .inl (cI, nO_9, .inl se_h19)), (aT, .inl (cB, nA, .inl tp))] H → va_D A [(oW, .inr (1, [.ref aX_2, .int ln_h19, .ref aO_3, .ref aB_4, .ref aE_5, .int wc_h19])), (aX_2, .inl (cB, nX_6, .inl tx_h19)), (aO_3, .inl (cI, nO_9, .inl so_h19)), (aB_4, .inl (cI, nO_9, .inl sb_h19)), (aE_5, .inl (cI, nO_9, .inl se_h19)), (aT, .inl (cB, nA, .inl tp))] → va_S A s.heap H locs → lv_has ls 8 [(5, .int x5_h19), (4, .int x4_h19), (3, .int x3_h19), (0, .ref oW), (1, .ref aT), (2, .int x1)] → W p l e (rmk 10 mc_ ms_) s m ar below meth c H locs (0 + c_13) (0 + s_14) QQ (F0 m 19 ls []) := by
    intro n_
    induction n_ with
    | zero => intro x5_h19 x4_h19 x3_h19 tx_h19 ln_h19 so_h19 sb_h19 se_h19 wc_h19 H locs ls hv; exact False.elim hv
    | succ n_ ih =>
      intro x5_h19 x4_h19 x3_h19 tx_h19 ln_h19 so_h19 sb_h19 se_h19 wc_h19 H locs ls hv hP hD hS hl
      unfold vl_W_cut_19 at hv
      refine lv_iload hx hb d_W_cut_19 (lv_at hl 0 rfl) ?_
      refine lv_aload_n hx hb d_W_cut_21 rfl (lv_at hl 3 rfl) ?_
      refine va_get (D := dd) (ci := 1) (C := Rc_W) (T := Fc_W) (N := 6) (v := .int ln_h19) hx hb hts (inn in_W) hown hK hP 0 rfl rfl 1 (by decide) (hts (.fieldLink "NetText$Words" 15 "NetText$Words" "length" "I") (tg at_35)) (fun _ h9 => h9) rfl d_W_cut_22 ?_
      refine lv_icmp_gt (tgt := 84) hx hb d_W_cut_25 (by decide) (fun b_15 => ?_) (fun b_15 => ?_)
      · have hv := hv.1 b_15
        subst hQ
        exact r_v hx hb hr hlocks  (aX_2, aO_3, aB_4, aE_5, nX_6, tx_h19, ln_h19, nO_9, so_h19, sb_h19, se_h19, wc_h19) hv (hP.sub [0, 1, 2, 3, 4, 5] rfl) hK (hD.sub [0, 1, 2, 3, 4, 5] (by decide) rfl) hS (by omega) (by omega) d_W_cut_84
      · have hv := hv.2 b_15
        refine lv_iload hx hb d_W_cut_28 (lv_at hl 1 rfl) ?_
        refine lv_iconst (v := 1) hx hb d_W_cut_30 (by decide) ?_
        refine lv_icmp_eq (tgt := 84) hx hb d_W_cut_31 (by decide) (fun b_16 => ?_) (fun b_16 => ?_)
        · have hv := hv.1 b_16
          subst hQ
          exact r_v hx hb hr hlocks  (aX_2, aO_3, aB_4, aE_5, nX_6, tx_h19, ln_h19, nO_9, so_h19, sb_h19, se_h19, wc_h19) hv (hP.sub [0, 1, 2, 3, 4, 5] rfl) hK (hD.sub [0, 1, 2, 3, 4, 5] (by decide) rfl) hS (by omega) (by omega) d_W_cut_84
        · have hv := hv.2 b_16
          refine lv_iload hx hb d_W_cut_34 (lv_at hl 1 rfl) ?_
          refine lv_iconst (v := 2) hx hb d_W_cut_36 (by decide) ?_
          refine lv_icmp_eq (tgt := 84) hx hb d_W_cut_37 (by decide) (fun b_17 => ?_) (fun b_17 => ?_)
          · have hv := hv.1 b_17
            subst hQ
            exact r_v hx hb hr hlocks  (aX_2, aO_3, aB_4, aE_5, nX_6, tx_h19, ln_h19, nO_9, so_h19, sb_h19, se_h19, wc_h19) hv (hP.sub [0, 1, 2, 3, 4, 5] rfl) hK (hD.sub [0, 1, 2, 3, 4, 5] (by decide) rfl) hS (by omega) (by omega) d_W_cut_84
          · have hv := hv.2 b_17
            refine lv_aload_n hx hb d_W_cut_40 rfl (lv_at hl 3 rfl) ?_
            refine lv_iload_n hx hb d_W_cut_41 rfl (lv_at hl 2 rfl) ?_
            have hM := met_W_afterBlanks (l := l) (dd := dd) (cB := cB) (cI := cI) (cL := cL) (cS := cS) (oW := oW) (aX := aX_2) (aO := aO_3) (aB := aB_4) (aE := aE_5) (wc := wc_h19)  hv
            refine krv_i (st := [.int x3_h19, .ref oW]) (rest := []) ⟨hx, hb, hml, hown, hts⟩ hM (cwV 1 hts (gv (tg0 at_145) (tg0 at_147) (tg0 ap_1) (tg0 at_2) (tg0 at_148)) rfl rfl rfl (by decide +kernel) (rk (by omega) (by decide))) x0b (fun _ _ _ => trivial) hP hK [0, 1] rfl (ci := 1) rfl rfl (q0 := 0) rfl rfl hl.1 rfl (Nat.le_of_ble_eq_true rfl) d_W_cut_42 ⟨by show 0 + c_13 + 0 ≤ mc_; omega, by show 0 + s_14 + 0 ≤ ms_; omega⟩ (fun r_18 hv => ?_)
            refine lv_istore (lv' := [(6, .int r_18), (5, .int x5_h19), (4, .int x4_h19), (3, .int x3_h19), (0, .ref oW), (1, .ref aT), (2, .int x1)]) hx hb d_W_cut_45 hl (by decide) rfl (fun ls hl => ?_)
            refine lv_aload_n hx hb d_W_cut_47 rfl (lv_at hl 4 rfl) ?_
            refine lv_iload hx hb d_W_cut_48 (lv_at hl 0 rfl) ?_
            have hM := met_W_endOfWord (l := l) (dd := dd) (cB := cB) (cI := cI) (cL := cL) (cS := cS) (oW := oW) (aX := aX_2) (aO := aO_3) (aB := aB_4) (aE := aE_5) (wc := wc_h19)  hv
            refine krv_i (st := [.int r_18, .ref oW]) (rest := []) ⟨hx, hb, hml, hown, hts⟩ hM (cwV 1 hts (gv (tg0 at_156) (tg0 at_158) (tg0 ap_2) (tg0 at_2) (tg0 at_159)) rfl rfl rfl (by decide +kernel) (rk (by omega) (by decide))) x0b (fun _ _ _ => trivial) hP hK [0, 1] rfl (ci := 1) rfl rfl (q0 := 0) rfl rfl hl.1 rfl (Nat.le_of_ble_eq_true rfl) d_W_cut_50 ⟨by show 0 + c_13 + 0 ≤ mc_; omega, by show 0 + s_14 + 0 ≤ ms_; omega⟩ (fun r_19 hv => ?_)
            refine lv_istore (lv' := [(7, .int r_19), (6, .int r_18), (5, .int x5_h19), (4, .int x4_h19), (3, .int x3_h19), (0, .ref oW), (1, .ref aT), (2, .int x1)]) hx hb d_W_cut_53 hl (by decide) rfl (fun ls hl => ?_)
            refine lv_aload_n hx hb d_W_cut_55 rfl (lv_at hl 5 rfl) ?_
            refine lv_iload hx hb d_W_cut_56 (lv_at hl 1 rfl) ?_
            refine lv_iload hx hb d_W_cut_58 (lv_at hl 0 rfl) ?_
            have hM := met_W_sortOfBytes (l := l) (dd := dd) (cB := cB) (cI := cI) (cL := cL) (cS := cS) (adK := adK) (adV := adV) (oW := oW) (aX := aX_2) (aO := aO_3) (aB := aB_4) (aE := aE_5) (wc := wc_h19)  hv
            refine krv_i (st := [.int r_19, .int r_18, .ref oW]) (rest := []) ⟨hx, hb, hml, hown, hts⟩ hM (cwV 2 hts (gv (tg0 at_181) (tg0 at_183) (tg0 ap_6) (tg0 at_2) (tg0 at_184)) rfl rfl rfl (by decide +kernel) (rk (by omega) (by decide))) xfb (xfr hX hS) hP hK [0, 1] rfl (ci := 1) rfl rfl (q0 := 0) rfl rfl hl.1 rfl (Nat.le_of_ble_eq_true rfl) d_W_cut_60 ⟨by show 0 + c_13 + 0 ≤ mc_; omega, by show 0 + s_14 + 0 ≤ ms_; omega⟩ (fun r_20 hv => ?_)
            refine lv_istore (lv' := [(4, .int r_20), (7, .int r_19), (6, .int r_18), (5, .int x5_h19), (3, .int x3_h19), (0, .ref oW), (1, .ref aT), (2, .int x1)]) hx hb d_W_cut_63 hl (by decide) rfl (fun ls hl => ?_)
            refine lv_aload_n hx hb d_W_cut_65 rfl (lv_at hl 5 rfl) ?_
            refine lv_iload hx hb d_W_cut_66 (lv_at hl 0 rfl) ?_
            refine lv_iload hx hb d_W_cut_68 (lv_at hl 2 rfl) ?_
            refine lv_iload hx hb d_W_cut_70 (lv_at hl 1 rfl) ?_
            have hM := met_W_add (l := l) (dd := dd) (cB := cB) (cI := cI) (cL := cL) (cS := cS) (oW := oW) (aX := aX_2) (aO := aO_3) (aB := aB_4) (aE := aE_5) (ln := ln_h19)  hv
            refine kv_v (st := [.int r_19, .int r_18, .int r_20, .ref oW]) (rest := []) (wr := [(aX_2, .inl (cB, nX_6, .inl tx_h19)), (aT, .inl (cB, nA, .inl tp))]) ⟨hx, hb, hml, hown, hts⟩ hM (cwV 3 hts (gv (tg0 at_332) (tg0 at_334) (tg0 ap_13) (tg0 at_2) (tg0 at_335)) rfl rfl rfl (by decide +kernel) (rk (by omega) (by decide))) x0b x0g hP hK hD hS hA [0, 2, 3, 4] [1, 5] rfl rfl (by decide) (by decide) (by decide) (ci := 1) rfl rfl (q0 := 0) rfl rfl hl.1 rfl (Nat.le_of_ble_eq_true rfl) d_W_cut_72 ⟨by show 0 + c_13 + 0 ≤ mc_; omega, by show 0 + s_14 + 0 ≤ ms_; omega⟩ (fun u_26 H locs hv hP hD hS => ?_)
            obtain ⟨wc_22, so_23, sb_24, se_25⟩ := u_26
            have hP : va_P dd cls5 [(aX_2, .inl (cB, nX_6, .inl tx_h19)), (aT, .inl (cB, nA, .inl tp)), (oW, .inr (1, [.ref aX_2, .int ln_h19, .ref aO_3, .ref aB_4, .ref aE_5, .int wc_22])), (aO_3, .inl (cI, nO_9, .inl so_23)), (aB_4, .inl (cI, nO_9, .inl sb_24)), (aE_5, .inl (cI, nO_9, .inl se_25))] H := hP
            have hD : va_D A [(aX_2, .inl (cB, nX_6, .inl tx_h19)), (aT, .inl (cB, nA, .inl tp)), (oW, .inr (1, [.ref aX_2, .int ln_h19, .ref aO_3, .ref aB_4, .ref aE_5, .int wc_22])), (aO_3, .inl (cI, nO_9, .inl so_23)), (aB_4, .inl (cI, nO_9, .inl sb_24)), (aE_5, .inl (cI, nO_9, .inl se_25))] := hD
            refine lv_iload hx hb d_W_cut_75 (lv_at hl 1 rfl) ?_
            refine lv_istore_n (lv' := [(3, .int r_19), (4, .int r_20), (7, .int r_19), (6, .int r_18), (5, .int x5_h19), (0, .ref oW), (1, .ref aT), (2, .int x1)]) hx hb d_W_cut_77 rfl hl (by decide) rfl (fun ls hl => ?_)
            refine lv_iinc (v := (x5_h19 + 1)) (lv' := [(5, .int (x5_h19 + 1)), (3, .int r_19), (4, .int r_20), (7, .int r_19), (6, .int r_18), (0, .ref oW), (1, .ref aT), (2, .int x1)]) hx hb d_W_cut_78 hl (k := 4) rfl rfl (by decide) rfl (fun ls hl => ?_)
            refine lv_goto (tgt := 19) hx hb d_W_cut_81 (by decide) ?_
            exact ih (x5_h19 + 1) r_20 r_19 tx_h19 ln_h19 so_23 sb_24 se_25 wc_22 _ _ _ hv (hP.sub [2, 0, 3, 4, 5, 1] rfl) (hD.sub [2, 0, 3, 4, 5, 1] (by decide) rfl) hS (lv_sub hl [0, 2, 1, 5, 6, 7] rfl)
  exact LP_19 n_19 0 0 0 tx_7 ln_8 so_10 sb_11 se_12 0 _ _ _ hv hP hD hS hl
