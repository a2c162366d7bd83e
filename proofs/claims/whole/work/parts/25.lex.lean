theorem ap_52 : lw_tbl[52]? = some (.selects "NetTextModel" ⟨"NetTextModel", "behindBlanks", "(I)I"⟩ ⟨"NetTextModel", "behindBlanks", "(I)I"⟩) := by decide +kernel
theorem ap_53 : lw_tbl[53]? = some (.selects "NetTextModel" ⟨"NetTextModel", "byteAt", "(I)I"⟩ ⟨"NetTextModel", "byteAt", "(I)I"⟩) := by decide +kernel
theorem ap_54 : lw_tbl[54]? = some (.selects "NetTextModel" ⟨"NetTextModel", "isSpelled", "(Ljava/lang/String;)Z"⟩ ⟨"NetTextModel", "isSpelled", "(Ljava/lang/String;)Z"⟩) := by decide +kernel
theorem ap_55 : lw_tbl[55]? = some (.selects "NetTextModel" ⟨"NetTextModel", "figures", "()V"⟩ ⟨"NetTextModel", "figures", "()V"⟩) := by decide +kernel
theorem ap_57 : lw_tbl[57]? = some (.selects "NetTextModel" ⟨"NetTextModel", "isKey", "(I)Z"⟩ ⟨"NetTextModel", "isKey", "(I)Z"⟩) := by decide +kernel
theorem at_5 : lw_tbl[89]? = some (.initialized "NetTextModel") := by decide +kernel
theorem at_766 : lw_tbl[850]? = some (.fieldLink "NetTextModel" 43 "NetTextModel" "keys" "[Ljava/lang/String;") := by decide +kernel
theorem at_767 : lw_tbl[851]? = some (.fieldLink "NetTextModel" 98 "NetTextModel" "thrown" "I") := by decide +kernel
theorem at_768 : lw_tbl[852]? = some (.fieldLink "NetTextModel" 49 "NetTextModel" "tape" "[B") := by decide +kernel
theorem at_769 : lw_tbl[853]? = some (.fieldLink "NetTextModel" 101 "NetTextModel" "fed" "I") := by decide +kernel
theorem at_772 : lw_tbl[856]? = some (.fieldLink "NetTextModel" 111 "NetTextModel" "at" "I") := by decide +kernel
theorem at_773 : lw_tbl[857]? = some (.fieldLink "NetTextModel" 132 "NetTextModel" "kind" "I") := by decide +kernel
theorem at_774 : lw_tbl[858]? = some (.fieldLink "NetTextModel" 114 "NetTextModel" "from" "I") := by decide +kernel
theorem at_775 : lw_tbl[859]? = some (.fieldLink "NetTextModel" 146 "NetTextModel" "key" "I") := by decide +kernel
theorem at_873 : lw_tbl[957]? = some (.methodLink "NetTextModel" 125 ⟨"NetTextModel", "behindBlanks", "(I)I"⟩) := by decide +kernel
theorem at_875 : lw_tbl[959]? = some (.instanceMethod ⟨"NetTextModel", "behindBlanks", "(I)I"⟩) := by decide +kernel
theorem at_876 : lw_tbl[960]? = some (.code ⟨"NetTextModel", "behindBlanks", "(I)I"⟩ prog_8_method_8_code 5 (some .int)) := by decide +kernel
theorem at_877 : lw_tbl[961]? = some (.methodLink "NetTextModel" 129 ⟨"NetTextModel", "byteAt", "(I)I"⟩) := by decide +kernel
theorem at_879 : lw_tbl[963]? = some (.instanceMethod ⟨"NetTextModel", "byteAt", "(I)I"⟩) := by decide +kernel
theorem at_880 : lw_tbl[964]? = some (.code ⟨"NetTextModel", "byteAt", "(I)I"⟩ prog_8_method_5_code 2 (some .int)) := by decide +kernel
theorem at_881 : lw_tbl[965]? = some (.methodLink "NetTextModel" 135 ⟨"NetTextModel", "isLetter", "(I)Z"⟩) := by decide +kernel
theorem at_882 : lw_tbl[966]? = some (.static ⟨"NetTextModel", "isLetter", "(I)Z"⟩) := by decide +kernel
theorem at_883 : lw_tbl[967]? = some (.code ⟨"NetTextModel", "isLetter", "(I)Z"⟩ prog_8_method_7_code 1 (some .boolean)) := by decide +kernel
theorem at_884 : lw_tbl[968]? = some (.methodLink "NetTextModel" 139 ⟨"NetTextModel", "isDigit", "(I)Z"⟩) := by decide +kernel
theorem at_885 : lw_tbl[969]? = some (.static ⟨"NetTextModel", "isDigit", "(I)Z"⟩) := by decide +kernel
theorem at_886 : lw_tbl[970]? = some (.code ⟨"NetTextModel", "isDigit", "(I)Z"⟩ prog_8_method_6_code 1 (some .boolean)) := by decide +kernel
theorem at_887 : lw_tbl[971]? = some (.methodLink "NetTextModel" 142 ⟨"NetTextModel", "isSpelled", "(Ljava/lang/String;)Z"⟩) := by decide +kernel
theorem at_889 : lw_tbl[973]? = some (.instanceMethod ⟨"NetTextModel", "isSpelled", "(Ljava/lang/String;)Z"⟩) := by decide +kernel
theorem at_890 : lw_tbl[974]? = some (.code ⟨"NetTextModel", "isSpelled", "(Ljava/lang/String;)Z"⟩ prog_8_method_9_code 4 (some .boolean)) := by decide +kernel
theorem at_891 : lw_tbl[975]? = some (.methodLink "NetTextModel" 117 ⟨"java/lang/String", "length", "()I"⟩) := by decide +kernel
theorem at_892 : lw_tbl[976]? = some (.methodLink "NetTextModel" 121 ⟨"java/lang/String", "charAt", "(I)C"⟩) := by decide +kernel
theorem at_893 : lw_tbl[977]? = some (.methodLink "NetTextModel" 149 ⟨"NetTextModel", "figures", "()V"⟩) := by decide +kernel
theorem at_895 : lw_tbl[979]? = some (.instanceMethod ⟨"NetTextModel", "figures", "()V"⟩) := by decide +kernel
theorem at_896 : lw_tbl[980]? = some (.code ⟨"NetTextModel", "figures", "()V"⟩ prog_8_method_11_code 4 none) := by decide +kernel
theorem at_898 : lw_tbl[982]? = some (.methodLink "NetTextModel" 154 ⟨"java/lang/String", "indexOf", "(I)I"⟩) := by decide +kernel
theorem at_920 : lw_tbl[1004]? = some (.methodLink "NetTextModel" 212 ⟨"NetTextModel", "isKey", "(I)Z"⟩) := by decide +kernel
theorem at_922 : lw_tbl[1006]? = some (.instanceMethod ⟨"NetTextModel", "isKey", "(I)Z"⟩) := by decide +kernel
theorem at_923 : lw_tbl[1007]? = some (.code ⟨"NetTextModel", "isKey", "(I)Z"⟩ prog_8_method_13_code 2 (some .boolean)) := by decide +kernel
abbrev b_M_isDigit : ByteArray := prog_8_method_6_code
def y_M_isDigit : MethodName := ⟨"NetTextModel", "isDigit", "(I)Z"⟩
abbrev w_M_isDigit : List Cond := .code y_M_isDigit b_M_isDigit 1 (some .boolean) :: lw_gt
theorem d_M_isDigit_0 : decode b_M_isDigit 0 = .ok (.iload_n 0, 1) := by decide +kernel
theorem d_M_isDigit_1 : decode b_M_isDigit 1 = .ok (.bipush 48, 2) := by decide +kernel
theorem d_M_isDigit_3 : decode b_M_isDigit 3 = .ok (.if_icmp .lt 13, 3) := by decide +kernel
theorem d_M_isDigit_6 : decode b_M_isDigit 6 = .ok (.iload_n 0, 1) := by decide +kernel
theorem d_M_isDigit_7 : decode b_M_isDigit 7 = .ok (.bipush 57, 2) := by decide +kernel
theorem d_M_isDigit_9 : decode b_M_isDigit 9 = .ok (.if_icmp .gt 7, 3) := by decide +kernel
theorem d_M_isDigit_12 : decode b_M_isDigit 12 = .ok (.iconst 1, 1) := by decide +kernel
theorem d_M_isDigit_13 : decode b_M_isDigit 13 = .ok (.goto 4, 3) := by decide +kernel
theorem d_M_isDigit_16 : decode b_M_isDigit 16 = .ok (.iconst 0, 1) := by decide +kernel
theorem d_M_isDigit_17 : decode b_M_isDigit 17 = .ok (.ireturn, 1) := by decide +kernel
abbrev b_M_isLetter : ByteArray := prog_8_method_7_code
def y_M_isLetter : MethodName := ⟨"NetTextModel", "isLetter", "(I)Z"⟩
abbrev w_M_isLetter : List Cond := .code y_M_isLetter b_M_isLetter 1 (some .boolean) :: lw_gt
theorem d_M_isLetter_0 : decode b_M_isLetter 0 = .ok (.iload_n 0, 1) := by decide +kernel
theorem d_M_isLetter_1 : decode b_M_isLetter 1 = .ok (.bipush 97, 2) := by decide +kernel
theorem d_M_isLetter_3 : decode b_M_isLetter 3 = .ok (.if_icmp .lt 9, 3) := by decide +kernel
theorem d_M_isLetter_6 : decode b_M_isLetter 6 = .ok (.iload_n 0, 1) := by decide +kernel
theorem d_M_isLetter_7 : decode b_M_isLetter 7 = .ok (.bipush 122, 2) := by decide +kernel
theorem d_M_isLetter_9 : decode b_M_isLetter 9 = .ok (.if_icmp .le 21, 3) := by decide +kernel
theorem d_M_isLetter_12 : decode b_M_isLetter 12 = .ok (.iload_n 0, 1) := by decide +kernel
theorem d_M_isLetter_13 : decode b_M_isLetter 13 = .ok (.bipush 65, 2) := by decide +kernel
theorem d_M_isLetter_15 : decode b_M_isLetter 15 = .ok (.if_icmp .lt 9, 3) := by decide +kernel
theorem d_M_isLetter_18 : decode b_M_isLetter 18 = .ok (.iload_n 0, 1) := by decide +kernel
theorem d_M_isLetter_19 : decode b_M_isLetter 19 = .ok (.bipush 90, 2) := by decide +kernel
theorem d_M_isLetter_21 : decode b_M_isLetter 21 = .ok (.if_icmp .le 9, 3) := by decide +kernel
theorem d_M_isLetter_24 : decode b_M_isLetter 24 = .ok (.iload_n 0, 1) := by decide +kernel
theorem d_M_isLetter_25 : decode b_M_isLetter 25 = .ok (.bipush 95, 2) := by decide +kernel
theorem d_M_isLetter_27 : decode b_M_isLetter 27 = .ok (.if_icmp .ne 7, 3) := by decide +kernel
theorem d_M_isLetter_30 : decode b_M_isLetter 30 = .ok (.iconst 1, 1) := by decide +kernel
theorem d_M_isLetter_31 : decode b_M_isLetter 31 = .ok (.goto 4, 3) := by decide +kernel
theorem d_M_isLetter_34 : decode b_M_isLetter 34 = .ok (.iconst 0, 1) := by decide +kernel
theorem d_M_isLetter_35 : decode b_M_isLetter 35 = .ok (.ireturn, 1) := by decide +kernel
abbrev b_M_thrown : ByteArray := prog_8_method_2_code
def y_M_thrown : MethodName := ⟨"NetTextModel", "thrown", "()I"⟩
abbrev w_M_thrown : List Cond := .code y_M_thrown b_M_thrown 1 (some .int) :: lw_gt
theorem d_M_thrown_0 : decode b_M_thrown 0 = .ok (.aload_n 0, 1) := by decide +kernel
theorem d_M_thrown_1 : decode b_M_thrown 1 = .ok (.getfield 98, 3) := by decide +kernel
theorem d_M_thrown_4 : decode b_M_thrown 4 = .ok (.ireturn, 1) := by decide +kernel
abbrev b_M_byteAt : ByteArray := prog_8_method_5_code
def y_M_byteAt : MethodName := ⟨"NetTextModel", "byteAt", "(I)I"⟩
abbrev w_M_byteAt : List Cond := .code y_M_byteAt b_M_byteAt 2 (some .int) :: lw_gt
theorem d_M_byteAt_0 : decode b_M_byteAt 0 = .ok (.iload_n 1, 1) := by decide +kernel
theorem d_M_byteAt_1 : decode b_M_byteAt 1 = .ok (.aload_n 0, 1) := by decide +kernel
theorem d_M_byteAt_2 : decode b_M_byteAt 2 = .ok (.getfield 101, 3) := by decide +kernel
theorem d_M_byteAt_5 : decode b_M_byteAt 5 = .ok (.if_icmp .ge 12, 3) := by decide +kernel
theorem d_M_byteAt_8 : decode b_M_byteAt 8 = .ok (.aload_n 0, 1) := by decide +kernel
theorem d_M_byteAt_9 : decode b_M_byteAt 9 = .ok (.getfield 49, 3) := by decide +kernel
theorem d_M_byteAt_12 : decode b_M_byteAt 12 = .ok (.iload_n 1, 1) := by decide +kernel
theorem d_M_byteAt_13 : decode b_M_byteAt 13 = .ok (.baload, 1) := by decide +kernel
theorem d_M_byteAt_14 : decode b_M_byteAt 14 = .ok (.goto 4, 3) := by decide +kernel
theorem d_M_byteAt_17 : decode b_M_byteAt 17 = .ok (.iconst 0, 1) := by decide +kernel
theorem d_M_byteAt_18 : decode b_M_byteAt 18 = .ok (.ireturn, 1) := by decide +kernel
abbrev b_M_behindBlanks : ByteArray := prog_8_method_8_code
def y_M_behindBlanks : MethodName := ⟨"NetTextModel", "behindBlanks", "(I)I"⟩
abbrev w_M_behindBlanks : List Cond := .code y_M_behindBlanks b_M_behindBlanks 5 (some .int) :: lw_gt
theorem d_M_behindBlanks_0 : decode b_M_behindBlanks 0 = .ok (.iload_n 1, 1) := by decide +kernel
theorem d_M_behindBlanks_1 : decode b_M_behindBlanks 1 = .ok (.istore_n 2, 1) := by decide +kernel
theorem d_M_behindBlanks_2 : decode b_M_behindBlanks 2 = .ok (.iconst 0, 1) := by decide +kernel
theorem d_M_behindBlanks_3 : decode b_M_behindBlanks 3 = .ok (.istore_n 3, 1) := by decide +kernel
theorem d_M_behindBlanks_4 : decode b_M_behindBlanks 4 = .ok (.iload_n 2, 1) := by decide +kernel
theorem d_M_behindBlanks_5 : decode b_M_behindBlanks 5 = .ok (.aload_n 0, 1) := by decide +kernel
theorem d_M_behindBlanks_6 : decode b_M_behindBlanks 6 = .ok (.getfield 101, 3) := by decide +kernel
theorem d_M_behindBlanks_9 : decode b_M_behindBlanks 9 = .ok (.if_icmp .ge 83, 3) := by decide +kernel
theorem d_M_behindBlanks_12 : decode b_M_behindBlanks 12 = .ok (.aload_n 0, 1) := by decide +kernel
theorem d_M_behindBlanks_13 : decode b_M_behindBlanks 13 = .ok (.getfield 49, 3) := by decide +kernel
theorem d_M_behindBlanks_16 : decode b_M_behindBlanks 16 = .ok (.iload_n 2, 1) := by decide +kernel
theorem d_M_behindBlanks_17 : decode b_M_behindBlanks 17 = .ok (.baload, 1) := by decide +kernel
theorem d_M_behindBlanks_18 : decode b_M_behindBlanks 18 = .ok (.istore 4, 2) := by decide +kernel
theorem d_M_behindBlanks_20 : decode b_M_behindBlanks 20 = .ok (.iload_n 3, 1) := by decide +kernel
theorem d_M_behindBlanks_21 : decode b_M_behindBlanks 21 = .ok (.ifCond .eq 18, 3) := by decide +kernel
theorem d_M_behindBlanks_24 : decode b_M_behindBlanks 24 = .ok (.iload 4, 2) := by decide +kernel
theorem d_M_behindBlanks_26 : decode b_M_behindBlanks 26 = .ok (.bipush 10, 2) := by decide +kernel
theorem d_M_behindBlanks_28 : decode b_M_behindBlanks 28 = .ok (.if_icmp .eq 7, 3) := by decide +kernel
theorem d_M_behindBlanks_31 : decode b_M_behindBlanks 31 = .ok (.iconst 1, 1) := by decide +kernel
theorem d_M_behindBlanks_32 : decode b_M_behindBlanks 32 = .ok (.goto 19, 3) := by decide +kernel
theorem d_M_behindBlanks_35 : decode b_M_behindBlanks 35 = .ok (.iconst 0, 1) := by decide +kernel
theorem d_M_behindBlanks_36 : decode b_M_behindBlanks 36 = .ok (.goto 15, 3) := by decide +kernel
theorem d_M_behindBlanks_39 : decode b_M_behindBlanks 39 = .ok (.iload 4, 2) := by decide +kernel
theorem d_M_behindBlanks_41 : decode b_M_behindBlanks 41 = .ok (.bipush 35, 2) := by decide +kernel
theorem d_M_behindBlanks_43 : decode b_M_behindBlanks 43 = .ok (.if_icmp .ne 7, 3) := by decide +kernel
theorem d_M_behindBlanks_46 : decode b_M_behindBlanks 46 = .ok (.iconst 1, 1) := by decide +kernel
theorem d_M_behindBlanks_47 : decode b_M_behindBlanks 47 = .ok (.goto 4, 3) := by decide +kernel
theorem d_M_behindBlanks_50 : decode b_M_behindBlanks 50 = .ok (.iconst 0, 1) := by decide +kernel
theorem d_M_behindBlanks_51 : decode b_M_behindBlanks 51 = .ok (.istore_n 3, 1) := by decide +kernel
theorem d_M_behindBlanks_52 : decode b_M_behindBlanks 52 = .ok (.iload_n 3, 1) := by decide +kernel
theorem d_M_behindBlanks_53 : decode b_M_behindBlanks 53 = .ok (.ifCond .ne 33, 3) := by decide +kernel
theorem d_M_behindBlanks_56 : decode b_M_behindBlanks 56 = .ok (.iload 4, 2) := by decide +kernel
theorem d_M_behindBlanks_58 : decode b_M_behindBlanks 58 = .ok (.bipush 9, 2) := by decide +kernel
theorem d_M_behindBlanks_60 : decode b_M_behindBlanks 60 = .ok (.if_icmp .eq 26, 3) := by decide +kernel
theorem d_M_behindBlanks_63 : decode b_M_behindBlanks 63 = .ok (.iload 4, 2) := by decide +kernel
theorem d_M_behindBlanks_65 : decode b_M_behindBlanks 65 = .ok (.bipush 10, 2) := by decide +kernel
theorem d_M_behindBlanks_67 : decode b_M_behindBlanks 67 = .ok (.if_icmp .eq 19, 3) := by decide +kernel
theorem d_M_behindBlanks_70 : decode b_M_behindBlanks 70 = .ok (.iload 4, 2) := by decide +kernel
theorem d_M_behindBlanks_72 : decode b_M_behindBlanks 72 = .ok (.bipush 13, 2) := by decide +kernel
theorem d_M_behindBlanks_74 : decode b_M_behindBlanks 74 = .ok (.if_icmp .eq 12, 3) := by decide +kernel
theorem d_M_behindBlanks_77 : decode b_M_behindBlanks 77 = .ok (.iload 4, 2) := by decide +kernel
theorem d_M_behindBlanks_79 : decode b_M_behindBlanks 79 = .ok (.bipush 32, 2) := by decide +kernel
theorem d_M_behindBlanks_81 : decode b_M_behindBlanks 81 = .ok (.if_icmp .eq 5, 3) := by decide +kernel
theorem d_M_behindBlanks_84 : decode b_M_behindBlanks 84 = .ok (.iload_n 2, 1) := by decide +kernel
theorem d_M_behindBlanks_85 : decode b_M_behindBlanks 85 = .ok (.ireturn, 1) := by decide +kernel
theorem d_M_behindBlanks_86 : decode b_M_behindBlanks 86 = .ok (.iinc 2 1, 3) := by decide +kernel
theorem d_M_behindBlanks_89 : decode b_M_behindBlanks 89 = .ok (.goto (-85), 3) := by decide +kernel
theorem d_M_behindBlanks_92 : decode b_M_behindBlanks 92 = .ok (.aload_n 0, 1) := by decide +kernel
theorem d_M_behindBlanks_93 : decode b_M_behindBlanks 93 = .ok (.getfield 101, 3) := by decide +kernel
theorem d_M_behindBlanks_96 : decode b_M_behindBlanks 96 = .ok (.ireturn, 1) := by decide +kernel
abbrev b_M_isSpelled : ByteArray := prog_8_method_9_code
def y_M_isSpelled : MethodName := ⟨"NetTextModel", "isSpelled", "(Ljava/lang/String;)Z"⟩
abbrev w_M_isSpelled : List Cond := .code y_M_isSpelled b_M_isSpelled 4 (some .boolean) :: lw_gt
theorem d_M_isSpelled_0 : decode b_M_isSpelled 0 = .ok (.aload_n 0, 1) := by decide +kernel
theorem d_M_isSpelled_1 : decode b_M_isSpelled 1 = .ok (.getfield 111, 3) := by decide +kernel
theorem d_M_isSpelled_4 : decode b_M_isSpelled 4 = .ok (.aload_n 0, 1) := by decide +kernel
theorem d_M_isSpelled_5 : decode b_M_isSpelled 5 = .ok (.getfield 114, 3) := by decide +kernel
theorem d_M_isSpelled_8 : decode b_M_isSpelled 8 = .ok (.isub, 1) := by decide +kernel
theorem d_M_isSpelled_9 : decode b_M_isSpelled 9 = .ok (.aload_n 1, 1) := by decide +kernel
theorem d_M_isSpelled_10 : decode b_M_isSpelled 10 = .ok (.invokevirtual 117, 3) := by decide +kernel
theorem d_M_isSpelled_13 : decode b_M_isSpelled 13 = .ok (.if_icmp .ne 7, 3) := by decide +kernel
theorem d_M_isSpelled_16 : decode b_M_isSpelled 16 = .ok (.iconst 1, 1) := by decide +kernel
theorem d_M_isSpelled_17 : decode b_M_isSpelled 17 = .ok (.goto 4, 3) := by decide +kernel
theorem d_M_isSpelled_20 : decode b_M_isSpelled 20 = .ok (.iconst 0, 1) := by decide +kernel
theorem d_M_isSpelled_21 : decode b_M_isSpelled 21 = .ok (.istore_n 2, 1) := by decide +kernel
theorem d_M_isSpelled_22 : decode b_M_isSpelled 22 = .ok (.iconst 0, 1) := by decide +kernel
theorem d_M_isSpelled_23 : decode b_M_isSpelled 23 = .ok (.istore_n 3, 1) := by decide +kernel
theorem d_M_isSpelled_24 : decode b_M_isSpelled 24 = .ok (.iload_n 3, 1) := by decide +kernel
theorem d_M_isSpelled_25 : decode b_M_isSpelled 25 = .ok (.aload_n 1, 1) := by decide +kernel
theorem d_M_isSpelled_26 : decode b_M_isSpelled 26 = .ok (.invokevirtual 117, 3) := by decide +kernel
theorem d_M_isSpelled_29 : decode b_M_isSpelled 29 = .ok (.if_icmp .ge 38, 3) := by decide +kernel
theorem d_M_isSpelled_32 : decode b_M_isSpelled 32 = .ok (.iload_n 2, 1) := by decide +kernel
theorem d_M_isSpelled_33 : decode b_M_isSpelled 33 = .ok (.ifCond .eq 34, 3) := by decide +kernel
theorem d_M_isSpelled_36 : decode b_M_isSpelled 36 = .ok (.aload_n 0, 1) := by decide +kernel
theorem d_M_isSpelled_37 : decode b_M_isSpelled 37 = .ok (.getfield 49, 3) := by decide +kernel
theorem d_M_isSpelled_40 : decode b_M_isSpelled 40 = .ok (.aload_n 0, 1) := by decide +kernel
theorem d_M_isSpelled_41 : decode b_M_isSpelled 41 = .ok (.getfield 114, 3) := by decide +kernel
theorem d_M_isSpelled_44 : decode b_M_isSpelled 44 = .ok (.iload_n 3, 1) := by decide +kernel
theorem d_M_isSpelled_45 : decode b_M_isSpelled 45 = .ok (.iadd, 1) := by decide +kernel
theorem d_M_isSpelled_46 : decode b_M_isSpelled 46 = .ok (.baload, 1) := by decide +kernel
theorem d_M_isSpelled_47 : decode b_M_isSpelled 47 = .ok (.aload_n 1, 1) := by decide +kernel
theorem d_M_isSpelled_48 : decode b_M_isSpelled 48 = .ok (.iload_n 3, 1) := by decide +kernel
theorem d_M_isSpelled_49 : decode b_M_isSpelled 49 = .ok (.invokevirtual 121, 3) := by decide +kernel
theorem d_M_isSpelled_52 : decode b_M_isSpelled 52 = .ok (.if_icmp .ne 7, 3) := by decide +kernel
theorem d_M_isSpelled_55 : decode b_M_isSpelled 55 = .ok (.iconst 1, 1) := by decide +kernel
theorem d_M_isSpelled_56 : decode b_M_isSpelled 56 = .ok (.goto 4, 3) := by decide +kernel
theorem d_M_isSpelled_59 : decode b_M_isSpelled 59 = .ok (.iconst 0, 1) := by decide +kernel
theorem d_M_isSpelled_60 : decode b_M_isSpelled 60 = .ok (.istore_n 2, 1) := by decide +kernel
theorem d_M_isSpelled_61 : decode b_M_isSpelled 61 = .ok (.iinc 3 1, 3) := by decide +kernel
theorem d_M_isSpelled_64 : decode b_M_isSpelled 64 = .ok (.goto (-40), 3) := by decide +kernel
theorem d_M_isSpelled_67 : decode b_M_isSpelled 67 = .ok (.iload_n 2, 1) := by decide +kernel
theorem d_M_isSpelled_68 : decode b_M_isSpelled 68 = .ok (.ireturn, 1) := by decide +kernel
abbrev b_M_is : ByteArray := prog_8_method_12_code
def y_M_is : MethodName := ⟨"NetTextModel", "is", "(C)Z"⟩
abbrev w_M_is : List Cond := .code y_M_is b_M_is 2 (some .boolean) :: lw_gt
theorem d_M_is_0 : decode b_M_is 0 = .ok (.aload_n 0, 1) := by decide +kernel
theorem d_M_is_1 : decode b_M_is 1 = .ok (.getfield 132, 3) := by decide +kernel
theorem d_M_is_4 : decode b_M_is 4 = .ok (.iconst 3, 1) := by decide +kernel
theorem d_M_is_5 : decode b_M_is 5 = .ok (.if_icmp .ne 20, 3) := by decide +kernel
theorem d_M_is_8 : decode b_M_is 8 = .ok (.aload_n 0, 1) := by decide +kernel
theorem d_M_is_9 : decode b_M_is 9 = .ok (.getfield 49, 3) := by decide +kernel
theorem d_M_is_12 : decode b_M_is 12 = .ok (.aload_n 0, 1) := by decide +kernel
theorem d_M_is_13 : decode b_M_is 13 = .ok (.getfield 114, 3) := by decide +kernel
theorem d_M_is_16 : decode b_M_is 16 = .ok (.baload, 1) := by decide +kernel
theorem d_M_is_17 : decode b_M_is 17 = .ok (.iload_n 1, 1) := by decide +kernel
theorem d_M_is_18 : decode b_M_is 18 = .ok (.if_icmp .ne 7, 3) := by decide +kernel
theorem d_M_is_21 : decode b_M_is 21 = .ok (.iconst 1, 1) := by decide +kernel
theorem d_M_is_22 : decode b_M_is 22 = .ok (.goto 4, 3) := by decide +kernel
theorem d_M_is_25 : decode b_M_is 25 = .ok (.iconst 0, 1) := by decide +kernel
theorem d_M_is_26 : decode b_M_is 26 = .ok (.ireturn, 1) := by decide +kernel
abbrev b_M_isKey : ByteArray := prog_8_method_13_code
def y_M_isKey : MethodName := ⟨"NetTextModel", "isKey", "(I)Z"⟩
abbrev w_M_isKey : List Cond := .code y_M_isKey b_M_isKey 2 (some .boolean) :: lw_gt
theorem d_M_isKey_0 : decode b_M_isKey 0 = .ok (.aload_n 0, 1) := by decide +kernel
theorem d_M_isKey_1 : decode b_M_isKey 1 = .ok (.getfield 132, 3) := by decide +kernel
theorem d_M_isKey_4 : decode b_M_isKey 4 = .ok (.iconst 5, 1) := by decide +kernel
theorem d_M_isKey_5 : decode b_M_isKey 5 = .ok (.if_icmp .ne 15, 3) := by decide +kernel
theorem d_M_isKey_8 : decode b_M_isKey 8 = .ok (.aload_n 0, 1) := by decide +kernel
theorem d_M_isKey_9 : decode b_M_isKey 9 = .ok (.getfield 146, 3) := by decide +kernel
theorem d_M_isKey_12 : decode b_M_isKey 12 = .ok (.iload_n 1, 1) := by decide +kernel
theorem d_M_isKey_13 : decode b_M_isKey 13 = .ok (.if_icmp .ne 7, 3) := by decide +kernel
theorem d_M_isKey_16 : decode b_M_isKey 16 = .ok (.iconst 1, 1) := by decide +kernel
theorem d_M_isKey_17 : decode b_M_isKey 17 = .ok (.goto 4, 3) := by decide +kernel
theorem d_M_isKey_20 : decode b_M_isKey 20 = .ok (.iconst 0, 1) := by decide +kernel
theorem d_M_isKey_21 : decode b_M_isKey 21 = .ok (.ireturn, 1) := by decide +kernel
abbrev b_M_isStatement : ByteArray := prog_8_method_28_code
def y_M_isStatement : MethodName := ⟨"NetTextModel", "isStatement", "()Z"⟩
abbrev w_M_isStatement : List Cond := .code y_M_isStatement b_M_isStatement 1 (some .boolean) :: lw_gt
theorem d_M_isStatement_0 : decode b_M_isStatement 0 = .ok (.aload_n 0, 1) := by decide +kernel
theorem d_M_isStatement_1 : decode b_M_isStatement 1 = .ok (.iconst 0, 1) := by decide +kernel
theorem d_M_isStatement_2 : decode b_M_isStatement 2 = .ok (.invokevirtual 212, 3) := by decide +kernel
theorem d_M_isStatement_5 : decode b_M_isStatement 5 = .ok (.ifCond .ne 20, 3) := by decide +kernel
theorem d_M_isStatement_8 : decode b_M_isStatement 8 = .ok (.aload_n 0, 1) := by decide +kernel
theorem d_M_isStatement_9 : decode b_M_isStatement 9 = .ok (.iconst 3, 1) := by decide +kernel
theorem d_M_isStatement_10 : decode b_M_isStatement 10 = .ok (.invokevirtual 212, 3) := by decide +kernel
theorem d_M_isStatement_13 : decode b_M_isStatement 13 = .ok (.ifCond .ne 12, 3) := by decide +kernel
theorem d_M_isStatement_16 : decode b_M_isStatement 16 = .ok (.aload_n 0, 1) := by decide +kernel
theorem d_M_isStatement_17 : decode b_M_isStatement 17 = .ok (.bipush 8, 2) := by decide +kernel
theorem d_M_isStatement_19 : decode b_M_isStatement 19 = .ok (.invokevirtual 212, 3) := by decide +kernel
theorem d_M_isStatement_22 : decode b_M_isStatement 22 = .ok (.ifCond .eq 7, 3) := by decide +kernel
theorem d_M_isStatement_25 : decode b_M_isStatement 25 = .ok (.iconst 1, 1) := by decide +kernel
theorem d_M_isStatement_26 : decode b_M_isStatement 26 = .ok (.goto 4, 3) := by decide +kernel
theorem d_M_isStatement_29 : decode b_M_isStatement 29 = .ok (.iconst 0, 1) := by decide +kernel
theorem d_M_isStatement_30 : decode b_M_isStatement 30 = .ok (.ireturn, 1) := by decide +kernel
abbrev b_M_figures : ByteArray := prog_8_method_11_code
def y_M_figures : MethodName := ⟨"NetTextModel", "figures", "()V"⟩
abbrev w_M_figures : List Cond := .code y_M_figures b_M_figures 4 none :: lw_gt
theorem d_M_figures_0 : decode b_M_figures 0 = .ok (.iconst 0, 1) := by decide +kernel
theorem d_M_figures_1 : decode b_M_figures 1 = .ok (.istore_n 1, 1) := by decide +kernel
theorem d_M_figures_2 : decode b_M_figures 2 = .ok (.iconst 0, 1) := by decide +kernel
theorem d_M_figures_3 : decode b_M_figures 3 = .ok (.istore_n 2, 1) := by decide +kernel
theorem d_M_figures_4 : decode b_M_figures 4 = .ok (.aload_n 0, 1) := by decide +kernel
theorem d_M_figures_5 : decode b_M_figures 5 = .ok (.aload_n 0, 1) := by decide +kernel
theorem d_M_figures_6 : decode b_M_figures 6 = .ok (.getfield 111, 3) := by decide +kernel
theorem d_M_figures_9 : decode b_M_figures 9 = .ok (.invokevirtual 129, 3) := by decide +kernel
theorem d_M_figures_12 : decode b_M_figures 12 = .ok (.invokestatic 139, 3) := by decide +kernel
theorem d_M_figures_15 : decode b_M_figures 15 = .ok (.ifCond .eq 19, 3) := by decide +kernel
theorem d_M_figures_18 : decode b_M_figures 18 = .ok (.aload_n 0, 1) := by decide +kernel
theorem d_M_figures_19 : decode b_M_figures 19 = .ok (.dup, 1) := by decide +kernel
theorem d_M_figures_20 : decode b_M_figures 20 = .ok (.getfield 111, 3) := by decide +kernel
theorem d_M_figures_23 : decode b_M_figures 23 = .ok (.iconst 1, 1) := by decide +kernel
theorem d_M_figures_24 : decode b_M_figures 24 = .ok (.iadd, 1) := by decide +kernel
theorem d_M_figures_25 : decode b_M_figures 25 = .ok (.putfield 111, 3) := by decide +kernel
theorem d_M_figures_28 : decode b_M_figures 28 = .ok (.iinc 1 1, 3) := by decide +kernel
theorem d_M_figures_31 : decode b_M_figures 31 = .ok (.goto (-27), 3) := by decide +kernel
theorem d_M_figures_34 : decode b_M_figures 34 = .ok (.aload_n 0, 1) := by decide +kernel
theorem d_M_figures_35 : decode b_M_figures 35 = .ok (.aload_n 0, 1) := by decide +kernel
theorem d_M_figures_36 : decode b_M_figures 36 = .ok (.getfield 111, 3) := by decide +kernel
theorem d_M_figures_39 : decode b_M_figures 39 = .ok (.invokevirtual 129, 3) := by decide +kernel
theorem d_M_figures_42 : decode b_M_figures 42 = .ok (.bipush 46, 2) := by decide +kernel
theorem d_M_figures_44 : decode b_M_figures 44 = .ok (.if_icmp .ne 59, 3) := by decide +kernel
theorem d_M_figures_47 : decode b_M_figures 47 = .ok (.aload_n 0, 1) := by decide +kernel
theorem d_M_figures_48 : decode b_M_figures 48 = .ok (.aload_n 0, 1) := by decide +kernel
theorem d_M_figures_49 : decode b_M_figures 49 = .ok (.getfield 111, 3) := by decide +kernel
theorem d_M_figures_52 : decode b_M_figures 52 = .ok (.iconst 1, 1) := by decide +kernel
theorem d_M_figures_53 : decode b_M_figures 53 = .ok (.iadd, 1) := by decide +kernel
theorem d_M_figures_54 : decode b_M_figures 54 = .ok (.invokevirtual 129, 3) := by decide +kernel
theorem d_M_figures_57 : decode b_M_figures 57 = .ok (.invokestatic 139, 3) := by decide +kernel
theorem d_M_figures_60 : decode b_M_figures 60 = .ok (.ifCond .eq 43, 3) := by decide +kernel
theorem d_M_figures_63 : decode b_M_figures 63 = .ok (.aload_n 0, 1) := by decide +kernel
theorem d_M_figures_64 : decode b_M_figures 64 = .ok (.dup, 1) := by decide +kernel
theorem d_M_figures_65 : decode b_M_figures 65 = .ok (.getfield 111, 3) := by decide +kernel
theorem d_M_figures_68 : decode b_M_figures 68 = .ok (.iconst 1, 1) := by decide +kernel
theorem d_M_figures_69 : decode b_M_figures 69 = .ok (.iadd, 1) := by decide +kernel
theorem d_M_figures_70 : decode b_M_figures 70 = .ok (.putfield 111, 3) := by decide +kernel
theorem d_M_figures_73 : decode b_M_figures 73 = .ok (.aload_n 0, 1) := by decide +kernel
theorem d_M_figures_74 : decode b_M_figures 74 = .ok (.aload_n 0, 1) := by decide +kernel
theorem d_M_figures_75 : decode b_M_figures 75 = .ok (.getfield 111, 3) := by decide +kernel
theorem d_M_figures_78 : decode b_M_figures 78 = .ok (.invokevirtual 129, 3) := by decide +kernel
theorem d_M_figures_81 : decode b_M_figures 81 = .ok (.invokestatic 139, 3) := by decide +kernel
theorem d_M_figures_84 : decode b_M_figures 84 = .ok (.ifCond .eq 19, 3) := by decide +kernel
theorem d_M_figures_87 : decode b_M_figures 87 = .ok (.aload_n 0, 1) := by decide +kernel
theorem d_M_figures_88 : decode b_M_figures 88 = .ok (.dup, 1) := by decide +kernel
theorem d_M_figures_89 : decode b_M_figures 89 = .ok (.getfield 111, 3) := by decide +kernel
theorem d_M_figures_92 : decode b_M_figures 92 = .ok (.iconst 1, 1) := by decide +kernel
theorem d_M_figures_93 : decode b_M_figures 93 = .ok (.iadd, 1) := by decide +kernel
theorem d_M_figures_94 : decode b_M_figures 94 = .ok (.putfield 111, 3) := by decide +kernel
theorem d_M_figures_97 : decode b_M_figures 97 = .ok (.iinc 2 1, 3) := by decide +kernel
theorem d_M_figures_100 : decode b_M_figures 100 = .ok (.goto (-27), 3) := by decide +kernel
theorem d_M_figures_103 : decode b_M_figures 103 = .ok (.aload_n 0, 1) := by decide +kernel
theorem d_M_figures_104 : decode b_M_figures 104 = .ok (.aload_n 0, 1) := by decide +kernel
theorem d_M_figures_105 : decode b_M_figures 105 = .ok (.getfield 111, 3) := by decide +kernel
theorem d_M_figures_108 : decode b_M_figures 108 = .ok (.invokevirtual 129, 3) := by decide +kernel
theorem d_M_figures_111 : decode b_M_figures 111 = .ok (.invokestatic 135, 3) := by decide +kernel
theorem d_M_figures_114 : decode b_M_figures 114 = .ok (.ifCond .ne 16, 3) := by decide +kernel
theorem d_M_figures_117 : decode b_M_figures 117 = .ok (.aload_n 0, 1) := by decide +kernel
theorem d_M_figures_118 : decode b_M_figures 118 = .ok (.aload_n 0, 1) := by decide +kernel
theorem d_M_figures_119 : decode b_M_figures 119 = .ok (.getfield 111, 3) := by decide +kernel
theorem d_M_figures_122 : decode b_M_figures 122 = .ok (.invokevirtual 129, 3) := by decide +kernel
theorem d_M_figures_125 : decode b_M_figures 125 = .ok (.bipush 46, 2) := by decide +kernel
theorem d_M_figures_127 : decode b_M_figures 127 = .ok (.if_icmp .ne 7, 3) := by decide +kernel
theorem d_M_figures_130 : decode b_M_figures 130 = .ok (.iconst 1, 1) := by decide +kernel
theorem d_M_figures_131 : decode b_M_figures 131 = .ok (.goto 4, 3) := by decide +kernel
theorem d_M_figures_134 : decode b_M_figures 134 = .ok (.iconst 0, 1) := by decide +kernel
theorem d_M_figures_135 : decode b_M_figures 135 = .ok (.istore_n 3, 1) := by decide +kernel
theorem d_M_figures_136 : decode b_M_figures 136 = .ok (.aload_n 0, 1) := by decide +kernel
theorem d_M_figures_137 : decode b_M_figures 137 = .ok (.iload_n 1, 1) := by decide +kernel
theorem d_M_figures_138 : decode b_M_figures 138 = .ok (.bipush 9, 2) := by decide +kernel
theorem d_M_figures_140 : decode b_M_figures 140 = .ok (.if_icmp .gt 13, 3) := by decide +kernel
theorem d_M_figures_143 : decode b_M_figures 143 = .ok (.iload_n 2, 1) := by decide +kernel
theorem d_M_figures_144 : decode b_M_figures 144 = .ok (.bipush 9, 2) := by decide +kernel
theorem d_M_figures_146 : decode b_M_figures 146 = .ok (.if_icmp .gt 7, 3) := by decide +kernel
theorem d_M_figures_149 : decode b_M_figures 149 = .ok (.iload_n 3, 1) := by decide +kernel
theorem d_M_figures_150 : decode b_M_figures 150 = .ok (.ifCond .eq 7, 3) := by decide +kernel
theorem d_M_figures_153 : decode b_M_figures 153 = .ok (.iconst 4, 1) := by decide +kernel
theorem d_M_figures_154 : decode b_M_figures 154 = .ok (.goto 4, 3) := by decide +kernel
theorem d_M_figures_157 : decode b_M_figures 157 = .ok (.iconst 2, 1) := by decide +kernel
theorem d_M_figures_158 : decode b_M_figures 158 = .ok (.putfield 132, 3) := by decide +kernel
theorem d_M_figures_161 : decode b_M_figures 161 = .ok (.return_, 1) := by decide +kernel
abbrev b_M_next : ByteArray := prog_8_method_10_code
def y_M_next : MethodName := ⟨"NetTextModel", "next", "()V"⟩
abbrev w_M_next : List Cond := .code y_M_next b_M_next 3 none :: lw_gt
theorem d_M_next_0 : decode b_M_next 0 = .ok (.aload_n 0, 1) := by decide +kernel
theorem d_M_next_1 : decode b_M_next 1 = .ok (.aload_n 0, 1) := by decide +kernel
theorem d_M_next_2 : decode b_M_next 2 = .ok (.aload_n 0, 1) := by decide +kernel
theorem d_M_next_3 : decode b_M_next 3 = .ok (.getfield 111, 3) := by decide +kernel
theorem d_M_next_6 : decode b_M_next 6 = .ok (.invokevirtual 125, 3) := by decide +kernel
theorem d_M_next_9 : decode b_M_next 9 = .ok (.putfield 114, 3) := by decide +kernel
theorem d_M_next_12 : decode b_M_next 12 = .ok (.aload_n 0, 1) := by decide +kernel
theorem d_M_next_13 : decode b_M_next 13 = .ok (.aload_n 0, 1) := by decide +kernel
theorem d_M_next_14 : decode b_M_next 14 = .ok (.getfield 114, 3) := by decide +kernel
theorem d_M_next_17 : decode b_M_next 17 = .ok (.putfield 111, 3) := by decide +kernel
theorem d_M_next_20 : decode b_M_next 20 = .ok (.aload_n 0, 1) := by decide +kernel
theorem d_M_next_21 : decode b_M_next 21 = .ok (.aload_n 0, 1) := by decide +kernel
theorem d_M_next_22 : decode b_M_next 22 = .ok (.getfield 114, 3) := by decide +kernel
theorem d_M_next_25 : decode b_M_next 25 = .ok (.invokevirtual 129, 3) := by decide +kernel
theorem d_M_next_28 : decode b_M_next 28 = .ok (.istore_n 1, 1) := by decide +kernel
theorem d_M_next_29 : decode b_M_next 29 = .ok (.aload_n 0, 1) := by decide +kernel
theorem d_M_next_30 : decode b_M_next 30 = .ok (.getfield 114, 3) := by decide +kernel
theorem d_M_next_33 : decode b_M_next 33 = .ok (.aload_n 0, 1) := by decide +kernel
theorem d_M_next_34 : decode b_M_next 34 = .ok (.getfield 101, 3) := by decide +kernel
theorem d_M_next_37 : decode b_M_next 37 = .ok (.if_icmp .lt 11, 3) := by decide +kernel
theorem d_M_next_40 : decode b_M_next 40 = .ok (.aload_n 0, 1) := by decide +kernel
theorem d_M_next_41 : decode b_M_next 41 = .ok (.iconst 0, 1) := by decide +kernel
theorem d_M_next_42 : decode b_M_next 42 = .ok (.putfield 132, 3) := by decide +kernel
theorem d_M_next_45 : decode b_M_next 45 = .ok (.goto 160, 3) := by decide +kernel
theorem d_M_next_48 : decode b_M_next 48 = .ok (.iload_n 1, 1) := by decide +kernel
theorem d_M_next_49 : decode b_M_next 49 = .ok (.invokestatic 135, 3) := by decide +kernel
theorem d_M_next_52 : decode b_M_next 52 = .ok (.ifCond .eq 110, 3) := by decide +kernel
theorem d_M_next_55 : decode b_M_next 55 = .ok (.aload_n 0, 1) := by decide +kernel
theorem d_M_next_56 : decode b_M_next 56 = .ok (.aload_n 0, 1) := by decide +kernel
theorem d_M_next_57 : decode b_M_next 57 = .ok (.getfield 111, 3) := by decide +kernel
theorem d_M_next_60 : decode b_M_next 60 = .ok (.invokevirtual 129, 3) := by decide +kernel
theorem d_M_next_63 : decode b_M_next 63 = .ok (.invokestatic 135, 3) := by decide +kernel
theorem d_M_next_66 : decode b_M_next 66 = .ok (.ifCond .ne 17, 3) := by decide +kernel
theorem d_M_next_69 : decode b_M_next 69 = .ok (.aload_n 0, 1) := by decide +kernel
theorem d_M_next_70 : decode b_M_next 70 = .ok (.aload_n 0, 1) := by decide +kernel
theorem d_M_next_71 : decode b_M_next 71 = .ok (.getfield 111, 3) := by decide +kernel
theorem d_M_next_74 : decode b_M_next 74 = .ok (.invokevirtual 129, 3) := by decide +kernel
theorem d_M_next_77 : decode b_M_next 77 = .ok (.invokestatic 139, 3) := by decide +kernel
theorem d_M_next_80 : decode b_M_next 80 = .ok (.ifCond .eq 16, 3) := by decide +kernel
theorem d_M_next_83 : decode b_M_next 83 = .ok (.aload_n 0, 1) := by decide +kernel
theorem d_M_next_84 : decode b_M_next 84 = .ok (.dup, 1) := by decide +kernel
theorem d_M_next_85 : decode b_M_next 85 = .ok (.getfield 111, 3) := by decide +kernel
theorem d_M_next_88 : decode b_M_next 88 = .ok (.iconst 1, 1) := by decide +kernel
theorem d_M_next_89 : decode b_M_next 89 = .ok (.iadd, 1) := by decide +kernel
theorem d_M_next_90 : decode b_M_next 90 = .ok (.putfield 111, 3) := by decide +kernel
theorem d_M_next_93 : decode b_M_next 93 = .ok (.goto (-38), 3) := by decide +kernel
theorem d_M_next_96 : decode b_M_next 96 = .ok (.aload_n 0, 1) := by decide +kernel
theorem d_M_next_97 : decode b_M_next 97 = .ok (.aload_n 0, 1) := by decide +kernel
theorem d_M_next_98 : decode b_M_next 98 = .ok (.getfield 111, 3) := by decide +kernel
theorem d_M_next_101 : decode b_M_next 101 = .ok (.aload_n 0, 1) := by decide +kernel
theorem d_M_next_102 : decode b_M_next 102 = .ok (.getfield 114, 3) := by decide +kernel
theorem d_M_next_105 : decode b_M_next 105 = .ok (.isub, 1) := by decide +kernel
theorem d_M_next_106 : decode b_M_next 106 = .ok (.bipush 40, 2) := by decide +kernel
theorem d_M_next_108 : decode b_M_next 108 = .ok (.if_icmp .le 7, 3) := by decide +kernel
theorem d_M_next_111 : decode b_M_next 111 = .ok (.iconst 4, 1) := by decide +kernel
theorem d_M_next_112 : decode b_M_next 112 = .ok (.goto 4, 3) := by decide +kernel
theorem d_M_next_115 : decode b_M_next 115 = .ok (.iconst 1, 1) := by decide +kernel
theorem d_M_next_116 : decode b_M_next 116 = .ok (.putfield 132, 3) := by decide +kernel
theorem d_M_next_119 : decode b_M_next 119 = .ok (.iconst 0, 1) := by decide +kernel
theorem d_M_next_120 : decode b_M_next 120 = .ok (.istore_n 2, 1) := by decide +kernel
theorem d_M_next_121 : decode b_M_next 121 = .ok (.iload_n 2, 1) := by decide +kernel
theorem d_M_next_122 : decode b_M_next 122 = .ok (.aload_n 0, 1) := by decide +kernel
theorem d_M_next_123 : decode b_M_next 123 = .ok (.getfield 43, 3) := by decide +kernel
theorem d_M_next_126 : decode b_M_next 126 = .ok (.arraylength, 1) := by decide +kernel
theorem d_M_next_127 : decode b_M_next 127 = .ok (.if_icmp .ge 32, 3) := by decide +kernel
theorem d_M_next_130 : decode b_M_next 130 = .ok (.aload_n 0, 1) := by decide +kernel
theorem d_M_next_131 : decode b_M_next 131 = .ok (.aload_n 0, 1) := by decide +kernel
theorem d_M_next_132 : decode b_M_next 132 = .ok (.getfield 43, 3) := by decide +kernel
theorem d_M_next_135 : decode b_M_next 135 = .ok (.iload_n 2, 1) := by decide +kernel
theorem d_M_next_136 : decode b_M_next 136 = .ok (.aaload, 1) := by decide +kernel
theorem d_M_next_137 : decode b_M_next 137 = .ok (.invokevirtual 142, 3) := by decide +kernel
theorem d_M_next_140 : decode b_M_next 140 = .ok (.ifCond .eq 13, 3) := by decide +kernel
theorem d_M_next_143 : decode b_M_next 143 = .ok (.aload_n 0, 1) := by decide +kernel
theorem d_M_next_144 : decode b_M_next 144 = .ok (.iconst 5, 1) := by decide +kernel
theorem d_M_next_145 : decode b_M_next 145 = .ok (.putfield 132, 3) := by decide +kernel
theorem d_M_next_148 : decode b_M_next 148 = .ok (.aload_n 0, 1) := by decide +kernel
theorem d_M_next_149 : decode b_M_next 149 = .ok (.iload_n 2, 1) := by decide +kernel
theorem d_M_next_150 : decode b_M_next 150 = .ok (.putfield 146, 3) := by decide +kernel
theorem d_M_next_153 : decode b_M_next 153 = .ok (.iinc 2 1, 3) := by decide +kernel
theorem d_M_next_156 : decode b_M_next 156 = .ok (.goto (-35), 3) := by decide +kernel
theorem d_M_next_159 : decode b_M_next 159 = .ok (.goto 46, 3) := by decide +kernel
theorem d_M_next_162 : decode b_M_next 162 = .ok (.iload_n 1, 1) := by decide +kernel
theorem d_M_next_163 : decode b_M_next 163 = .ok (.invokestatic 139, 3) := by decide +kernel
theorem d_M_next_166 : decode b_M_next 166 = .ok (.ifCond .eq 10, 3) := by decide +kernel
theorem d_M_next_169 : decode b_M_next 169 = .ok (.aload_n 0, 1) := by decide +kernel
theorem d_M_next_170 : decode b_M_next 170 = .ok (.invokevirtual 149, 3) := by decide +kernel
theorem d_M_next_173 : decode b_M_next 173 = .ok (.goto 32, 3) := by decide +kernel
theorem d_M_next_176 : decode b_M_next 176 = .ok (.aload_n 0, 1) := by decide +kernel
theorem d_M_next_177 : decode b_M_next 177 = .ok (.dup, 1) := by decide +kernel
theorem d_M_next_178 : decode b_M_next 178 = .ok (.getfield 111, 3) := by decide +kernel
theorem d_M_next_181 : decode b_M_next 181 = .ok (.iconst 1, 1) := by decide +kernel
theorem d_M_next_182 : decode b_M_next 182 = .ok (.iadd, 1) := by decide +kernel
theorem d_M_next_183 : decode b_M_next 183 = .ok (.putfield 111, 3) := by decide +kernel
theorem d_M_next_186 : decode b_M_next 186 = .ok (.aload_n 0, 1) := by decide +kernel
theorem d_M_next_187 : decode b_M_next 187 = .ok (.ldc 152, 2) := by decide +kernel
theorem d_M_next_189 : decode b_M_next 189 = .ok (.iload_n 1, 1) := by decide +kernel
theorem d_M_next_190 : decode b_M_next 190 = .ok (.i2c, 1) := by decide +kernel
theorem d_M_next_191 : decode b_M_next 191 = .ok (.invokevirtual 154, 3) := by decide +kernel
theorem d_M_next_194 : decode b_M_next 194 = .ok (.ifCond .lt 7, 3) := by decide +kernel
theorem d_M_next_197 : decode b_M_next 197 = .ok (.iconst 3, 1) := by decide +kernel
theorem d_M_next_198 : decode b_M_next 198 = .ok (.goto 4, 3) := by decide +kernel
theorem d_M_next_201 : decode b_M_next 201 = .ok (.iconst 4, 1) := by decide +kernel
theorem d_M_next_202 : decode b_M_next 202 = .ok (.putfield 132, 3) := by decide +kernel
theorem d_M_next_205 : decode b_M_next 205 = .ok (.return_, 1) := by decide +kernel
def vc_M_isDigit   (x1 : Int32) (K_ : Int32 → Prop) : Prop :=
  ((x1 < 48 → (K_ 0)) ∧ (¬ x1 < 48 → ((57 < x1 → (K_ 0)) ∧ (¬ 57 < x1 → (K_ 1)))))
set_option maxHeartbeats 4000000 in
set_option maxRecDepth 100000 in
theorem met_M_isDigit {l : Launch} {dd : va_G} {cB cI cL cS : ClassId}     {x1 : Int32} {K_ : Int32 → Prop}  (hv : vc_M_isDigit   x1 K_) : CtR l y_M_isDigit w_M_isDigit (rmk 0 0 0) dd cls5 [(cB, .byte), (cI, .int), (cL, .long), (cS, .object "java/lang/String")] X0 [] [.int x1] (qR K_) := by
  refine m_ofR (cc := b_M_isDigit) (nL := 1) (ret := (some .boolean)) (by decide) rfl (Nat.le_of_ble_eq_true rfl) ?_
  intro p e s m below meth c ls ar Fx_ hP hK hX hl
  obtain ⟨hx, hb, hml, hr, hlocks, hown, hts, hinn⟩ := Fx_
  have hl : lv_has ls 1 [(0, .int x1)] := hl
  unfold vc_M_isDigit at hv
  refine lv_iload_n hx hb d_M_isDigit_0 rfl (lv_at hl 0 rfl) ?_
  refine lv_bipush (v := 48) hx hb d_M_isDigit_1 (by decide) ?_
  refine lv_icmp_lt (tgt := 16) hx hb d_M_isDigit_3 (by decide) (fun b_1 => ?_) (fun b_1 => ?_)
  · have hv := hv.1 b_1
    refine lv_iconst (v := 0) hx hb d_M_isDigit_16 (by decide) ?_
    exact rr_z hx hb hr narrow_b0 hlocks 0 hv d_M_isDigit_17
  · have hv := hv.2 b_1
    refine lv_iload_n hx hb d_M_isDigit_6 rfl (lv_at hl 0 rfl) ?_
    refine lv_bipush (v := 57) hx hb d_M_isDigit_7 (by decide) ?_
    refine lv_icmp_gt (tgt := 16) hx hb d_M_isDigit_9 (by decide) (fun b_2 => ?_) (fun b_2 => ?_)
    · have hv := hv.1 b_2
      refine lv_iconst (v := 0) hx hb d_M_isDigit_16 (by decide) ?_
      exact rr_z hx hb hr narrow_b0 hlocks 0 hv d_M_isDigit_17
    · have hv := hv.2 b_2
      refine lv_iconst (v := 1) hx hb d_M_isDigit_12 (by decide) ?_
      refine lv_goto (tgt := 17) hx hb d_M_isDigit_13 (by decide) ?_
      exact rr_z hx hb hr narrow_b1 hlocks 1 hv d_M_isDigit_17
def vj_M_isLetter_24  (K_ : Int32 → Prop) (x0_j24 : Int32) : Prop :=
  ((¬ x0_j24 = 95 → (K_ 0)) ∧ (x0_j24 = 95 → (K_ 1)))
def vj_M_isLetter_12  (K_ : Int32 → Prop) (x0_j12 : Int32) : Prop :=
  ((x0_j12 < 65 → (vj_M_isLetter_24 K_ x0_j12)) ∧ (¬ x0_j12 < 65 → ((x0_j12 ≤ 90 → (K_ 1)) ∧ (¬ x0_j12 ≤ 90 → (vj_M_isLetter_24 K_ x0_j12)))))
def vc_M_isLetter   (x1 : Int32) (K_ : Int32 → Prop) : Prop :=
  ((x1 < 97 → (vj_M_isLetter_12 K_ x1)) ∧ (¬ x1 < 97 → ((x1 ≤ 122 → (K_ 1)) ∧ (¬ x1 ≤ 122 → (vj_M_isLetter_12 K_ x1)))))
set_option maxHeartbeats 4000000 in
set_option maxRecDepth 100000 in
theorem met_M_isLetter {l : Launch} {dd : va_G} {cB cI cL cS : ClassId}     {x1 : Int32} {K_ : Int32 → Prop}  (hv : vc_M_isLetter   x1 K_) : CtR l y_M_isLetter w_M_isLetter (rmk 0 0 0) dd cls5 [(cB, .byte), (cI, .int), (cL, .long), (cS, .object "java/lang/String")] X0 [] [.int x1] (qR K_) := by
  refine m_ofR (cc := b_M_isLetter) (nL := 1) (ret := (some .boolean)) (by decide) rfl (Nat.le_of_ble_eq_true rfl) ?_
  intro p e s m below meth c ls ar Fx_ hP hK hX hl
  obtain ⟨hx, hb, hml, hr, hlocks, hown, hts, hinn⟩ := Fx_
  have hl : lv_has ls 1 [(0, .int x1)] := hl
  unfold vc_M_isLetter at hv
  have JP_24 : ∀ (x0_j24 : Int32) (ls : Array Slot), vj_M_isLetter_24 K_ x0_j24 → lv_has ls 1 [(0, .int x0_j24)] → W p l e (rmk 0 0 0) s m ar below meth c s.heap [] 0 0 (MQ below (qR K_) ar s 0 0 (fun _ => False)) (F0 m 24 ls []) := by
    intro x0_j24 ls hv hl
    unfold vj_M_isLetter_24 at hv
    refine lv_iload_n hx hb d_M_isLetter_24 rfl (lv_at hl 0 rfl) ?_
    refine lv_bipush (v := 95) hx hb d_M_isLetter_25 (by decide) ?_
    refine lv_icmp_ne (tgt := 34) hx hb d_M_isLetter_27 (by decide) (fun b_3 => ?_) (fun b_3 => ?_)
    · have hv := hv.1 b_3
      refine lv_iconst (v := 0) hx hb d_M_isLetter_34 (by decide) ?_
      exact rr_z hx hb hr narrow_b0 hlocks 0 hv d_M_isLetter_35
    · have hv := hv.2 b_3
      refine lv_iconst (v := 1) hx hb d_M_isLetter_30 (by decide) ?_
      refine lv_goto (tgt := 35) hx hb d_M_isLetter_31 (by decide) ?_
      exact rr_z hx hb hr narrow_b1 hlocks 1 hv d_M_isLetter_35
  have JP_12 : ∀ (x0_j12 : Int32) (ls : Array Slot), vj_M_isLetter_12 K_ x0_j12 → lv_has ls 1 [(0, .int x0_j12)] → W p l e (rmk 0 0 0) s m ar below meth c s.heap [] 0 0 (MQ below (qR K_) ar s 0 0 (fun _ => False)) (F0 m 12 ls []) := by
    intro x0_j12 ls hv hl
    unfold vj_M_isLetter_12 at hv
    refine lv_iload_n hx hb d_M_isLetter_12 rfl (lv_at hl 0 rfl) ?_
    refine lv_bipush (v := 65) hx hb d_M_isLetter_13 (by decide) ?_
    refine lv_icmp_lt (tgt := 24) hx hb d_M_isLetter_15 (by decide) (fun b_2 => ?_) (fun b_2 => ?_)
    · have hv := hv.1 b_2
      exact JP_24 x0_j12 _ hv (lv_sub hl [0] rfl)
    · have hv := hv.2 b_2
      refine lv_iload_n hx hb d_M_isLetter_18 rfl (lv_at hl 0 rfl) ?_
      refine lv_bipush (v := 90) hx hb d_M_isLetter_19 (by decide) ?_
      refine lv_icmp_le (tgt := 30) hx hb d_M_isLetter_21 (by decide) (fun b_4 => ?_) (fun b_4 => ?_)
      · have hv := hv.1 b_4
        refine lv_iconst (v := 1) hx hb d_M_isLetter_30 (by decide) ?_
        refine lv_goto (tgt := 35) hx hb d_M_isLetter_31 (by decide) ?_
        exact rr_z hx hb hr narrow_b1 hlocks 1 hv d_M_isLetter_35
      · have hv := hv.2 b_4
        exact JP_24 x0_j12 _ hv (lv_sub hl [0] rfl)
  refine lv_iload_n hx hb d_M_isLetter_0 rfl (lv_at hl 0 rfl) ?_
  refine lv_bipush (v := 97) hx hb d_M_isLetter_1 (by decide) ?_
  refine lv_icmp_lt (tgt := 12) hx hb d_M_isLetter_3 (by decide) (fun b_1 => ?_) (fun b_1 => ?_)
  · have hv := hv.1 b_1
    exact JP_12 x1 _ hv (lv_sub hl [0] rfl)
  · have hv := hv.2 b_1
    refine lv_iload_n hx hb d_M_isLetter_6 rfl (lv_at hl 0 rfl) ?_
    refine lv_bipush (v := 122) hx hb d_M_isLetter_7 (by decide) ?_
    refine lv_icmp_le (tgt := 30) hx hb d_M_isLetter_9 (by decide) (fun b_5 => ?_) (fun b_5 => ?_)
    · have hv := hv.1 b_5
      refine lv_iconst (v := 1) hx hb d_M_isLetter_30 (by decide) ?_
      refine lv_goto (tgt := 35) hx hb d_M_isLetter_31 (by decide) ?_
      exact rr_z hx hb hr narrow_b1 hlocks 1 hv d_M_isLetter_35
    · have hv := hv.2 b_5
      exact JP_12 x1 _ hv (lv_sub hl [0] rfl)
def vc_M_thrown  (zs : RS)  (K_ : Int32 → Prop) : Prop :=
  (K_ zs.th)
set_option maxHeartbeats 4000000 in
set_option maxRecDepth 100000 in
theorem met_M_thrown {l : Launch} {dd : va_G} {cB cI cL cS : ClassId} {adK adV : Nat → Nat} {oM : Nat} {aKy : Nat}  {zs : RS}  {K_ : Int32 → Prop}  (hv : vc_M_thrown  zs  K_) : CtR l y_M_thrown w_M_thrown (rmk 0 0 0) dd cls5 [(cB, .byte), (cI, .int), (cL, .long), (cS, .object "java/lang/String")] (XF adK adV) [(oM, .inr (4, [.ref aKy, .int zs.th, .ref zs.aT, .int zs.fd, .int zs.fa, .int zs.pl, .int zs.at_, .int zs.kd, .int zs.fr, .int zs.ky, .int zs.op, .int zs.ct, .ref zs.aKd, .ref zs.aBg, .ref zs.aPr, .ref zs.aSg, .ref zs.aNf, .ref zs.aNl, .ref zs.aDg, .ref zs.aBh, .ref zs.aDe, .ref zs.aPc, .ref zs.aFi, .ref zs.aNu, .ref zs.aN, .int zs.nd]))] [.ref oM] (qR K_) := by
  refine m_ofR (cc := b_M_thrown) (nL := 1) (ret := (some .int)) (by decide) rfl (Nat.le_of_ble_eq_true rfl) ?_
  intro p e s m below meth c ls ar Fx_ hP hK hX hl
  obtain ⟨hx, hb, hml, hr, hlocks, hown, hts, hinn⟩ := Fx_
  have hl : lv_has ls 1 [(0, .ref oM)] := hl
  unfold vc_M_thrown at hv
  refine lv_aload_n hx hb d_M_thrown_0 rfl (lv_at hl 0 rfl) ?_
  refine va_get (D := dd) (ci := 4) (C := Rc_M) (T := Fc_M) (N := 26) (v := .int zs.th) hx hb hts (inn in_M) hown hK hP 0 rfl rfl 1 (by decide) (hts (.fieldLink "NetTextModel" 98 "NetTextModel" "thrown" "I") (tg at_767)) (fun _ h9 => h9) rfl d_M_thrown_1 ?_
  exact rr_i hx hb hr hlocks zs.th hv d_M_thrown_4
def vc_M_byteAt  (zs : RS) (x1 : Int32) (K_ : Int32 → Prop) : Prop :=
  ((zs.fd ≤ x1 → (K_ 0)) ∧ (¬ zs.fd ≤ x1 → (vp_in x1 zs.nT ∧ (K_ (zs.tp x1.toNatClampNeg)))))
set_option maxHeartbeats 4000000 in
set_option maxRecDepth 100000 in
theorem met_M_byteAt {l : Launch} {dd : va_G} {cB cI cL cS : ClassId} {adK adV : Nat → Nat} {oM : Nat} {aKy : Nat}  {zs : RS} {x1 : Int32} {K_ : Int32 → Prop}  (hv : vc_M_byteAt  zs x1 K_) : CtR l y_M_byteAt w_M_byteAt (rmk 0 0 0) dd cls5 [(cB, .byte), (cI, .int), (cL, .long), (cS, .object "java/lang/String")] (XF adK adV) [(oM, .inr (4, [.ref aKy, .int zs.th, .ref zs.aT, .int zs.fd, .int zs.fa, .int zs.pl, .int zs.at_, .int zs.kd, .int zs.fr, .int zs.ky, .int zs.op, .int zs.ct, .ref zs.aKd, .ref zs.aBg, .ref zs.aPr, .ref zs.aSg, .ref zs.aNf, .ref zs.aNl, .ref zs.aDg, .ref zs.aBh, .ref zs.aDe, .ref zs.aPc, .ref zs.aFi, .ref zs.aNu, .ref zs.aN, .int zs.nd])), (zs.aT, .inl (cB, zs.nT, .inl zs.tp))] [.ref oM, .int x1] (qR K_) := by
  refine m_ofR (cc := b_M_byteAt) (nL := 2) (ret := (some .int)) (by decide) rfl (Nat.le_of_ble_eq_true rfl) ?_
  intro p e s m below meth c ls ar Fx_ hP hK hX hl
  obtain ⟨hx, hb, hml, hr, hlocks, hown, hts, hinn⟩ := Fx_
  have hl : lv_has ls 2 [(0, .ref oM), (1, .int x1)] := hl
  unfold vc_M_byteAt at hv
  refine lv_iload_n hx hb d_M_byteAt_0 rfl (lv_at hl 1 rfl) ?_
  refine lv_aload_n hx hb d_M_byteAt_1 rfl (lv_at hl 0 rfl) ?_
  refine va_get (D := dd) (ci := 4) (C := Rc_M) (T := Fc_M) (N := 26) (v := .int zs.fd) hx hb hts (inn in_M) hown hK hP 0 rfl rfl 3 (by decide) (hts (.fieldLink "NetTextModel" 101 "NetTextModel" "fed" "I") (tg at_769)) (fun _ h9 => h9) rfl d_M_byteAt_2 ?_
  refine lv_icmp_ge (tgt := 17) hx hb d_M_byteAt_5 (by decide) (fun b_1 => ?_) (fun b_1 => ?_)
  · have hv := hv.1 b_1
    refine lv_iconst (v := 0) hx hb d_M_byteAt_17 (by decide) ?_
    exact rr_i hx hb hr hlocks 0 hv d_M_byteAt_18
  · have hv := hv.2 b_1
    refine lv_aload_n hx hb d_M_byteAt_8 rfl (lv_at hl 0 rfl) ?_
    refine va_get (D := dd) (ci := 4) (C := Rc_M) (T := Fc_M) (N := 26) (v := .ref zs.aT) hx hb hts (inn in_M) hown hK hP 0 rfl rfl 2 (by decide) (hts (.fieldLink "NetTextModel" 49 "NetTextModel" "tape" "[B") (tg at_768)) (fun _ h9 => h9) rfl d_M_byteAt_9 ?_
    refine lv_iload_n hx hb d_M_byteAt_12 rfl (lv_at hl 1 rfl) ?_
    obtain ⟨h_2, hv⟩ := hv
    refine va_bald hx hb hK hP 1 0 rfl rfl h_2 d_M_byteAt_13 ?_
    refine lv_goto (tgt := 18) hx hb d_M_byteAt_14 (by decide) ?_
    exact rr_i hx hb hr hlocks (zs.tp x1.toNatClampNeg) hv d_M_byteAt_18
def vj_M_behindBlanks_86 (zs : RS) (L_4 : Int32 → Int32 → Prop) (K_ : Int32 → Prop) (x2_j86 : Int32) (x3_j86 : Int32) : Prop :=
  (L_4 (x2_j86 + 1) x3_j86)
def vj_M_behindBlanks_51 (zs : RS) (L_4 : Int32 → Int32 → Prop) (K_ : Int32 → Prop) (x2_j51 : Int32) (x4_j51 : Int32) (y0_j51 : Int32) : Prop :=
  ((¬ y0_j51 = 0 → (vj_M_behindBlanks_86 zs L_4 K_ x2_j51 y0_j51)) ∧ (y0_j51 = 0 → ((x4_j51 = 9 → (vj_M_behindBlanks_86 zs L_4 K_ x2_j51 y0_j51)) ∧ (¬ x4_j51 = 9 → ((x4_j51 = 10 → (vj_M_behindBlanks_86 zs L_4 K_ x2_j51 y0_j51)) ∧ (¬ x4_j51 = 10 → ((x4_j51 = 13 → (vj_M_behindBlanks_86 zs L_4 K_ x2_j51 y0_j51)) ∧ (¬ x4_j51 = 13 → ((x4_j51 = 32 → (vj_M_behindBlanks_86 zs L_4 K_ x2_j51 y0_j51)) ∧ (¬ x4_j51 = 32 → (K_ x2_j51)))))))))))
def vl_M_behindBlanks_4 (zs : RS) (K_ : Int32 → Prop) : Nat → Int32 → Int32 → Prop
  | 0 => fun _ _ => False
  | n_ + 1 => fun x2_h4 x3_h4 =>
  ((zs.fd ≤ x2_h4 → (K_ zs.fd)) ∧ (¬ zs.fd ≤ x2_h4 → (vp_in x2_h4 zs.nT ∧ ((x3_h4 = 0 → ((¬ (zs.tp x2_h4.toNatClampNeg) = 35 → (vj_M_behindBlanks_51 zs (vl_M_behindBlanks_4 zs K_ n_) K_ x2_h4 (zs.tp x2_h4.toNatClampNeg) 0)) ∧ ((zs.tp x2_h4.toNatClampNeg) = 35 → (vj_M_behindBlanks_51 zs (vl_M_behindBlanks_4 zs K_ n_) K_ x2_h4 (zs.tp x2_h4.toNatClampNeg) 1)))) ∧ (¬ x3_h4 = 0 → (((zs.tp x2_h4.toNatClampNeg) = 10 → (vj_M_behindBlanks_51 zs (vl_M_behindBlanks_4 zs K_ n_) K_ x2_h4 (zs.tp x2_h4.toNatClampNeg) 0)) ∧ (¬ (zs.tp x2_h4.toNatClampNeg) = 10 → (vj_M_behindBlanks_51 zs (vl_M_behindBlanks_4 zs K_ n_) K_ x2_h4 (zs.tp x2_h4.toNatClampNeg) 1))))))))
def vc_M_behindBlanks  (zs : RS) (x1 : Int32) (K_ : Int32 → Prop) : Prop :=
  (∃ n_, vl_M_behindBlanks_4 zs K_ n_ x1 0)
set_option maxHeartbeats 4000000 in
set_option maxRecDepth 100000 in
theorem met_M_behindBlanks {l : Launch} {dd : va_G} {cB cI cL cS : ClassId} {adK adV : Nat → Nat} {oM : Nat} {aKy : Nat}  {zs : RS} {x1 : Int32} {K_ : Int32 → Prop}  (hv : vc_M_behindBlanks  zs x1 K_) : CtR l y_M_behindBlanks w_M_behindBlanks (rmk 0 0 0) dd cls5 [(cB, .byte), (cI, .int), (cL, .long), (cS, .object "java/lang/String")] (XF adK adV) [(oM, .inr (4, [.ref aKy, .int zs.th, .ref zs.aT, .int zs.fd, .int zs.fa, .int zs.pl, .int zs.at_, .int zs.kd, .int zs.fr, .int zs.ky, .int zs.op, .int zs.ct, .ref zs.aKd, .ref zs.aBg, .ref zs.aPr, .ref zs.aSg, .ref zs.aNf, .ref zs.aNl, .ref zs.aDg, .ref zs.aBh, .ref zs.aDe, .ref zs.aPc, .ref zs.aFi, .ref zs.aNu, .ref zs.aN, .int zs.nd])), (zs.aT, .inl (cB, zs.nT, .inl zs.tp))] [.ref oM, .int x1] (qR K_) := by
  refine m_ofR (cc := b_M_behindBlanks) (nL := 5) (ret := (some .int)) (by decide) rfl (Nat.le_of_ble_eq_true rfl) ?_
  intro p e s m below meth c ls ar Fx_ hP hK hX hl
  obtain ⟨hx, hb, hml, hr, hlocks, hown, hts, hinn⟩ := Fx_
  have hl : lv_has ls 5 [(0, .ref oM), (1, .int x1)] := hl
  unfold vc_M_behindBlanks at hv
  have JP_4 : ∀ (n_4 : Nat) (x2_h4 : Int32) (x3_h4 : Int32) (ls : Array Slot), vl_M_behindBlanks_4 zs K_ n_4 x2_h4 x3_h4 → lv_has ls 5 [(0, .ref oM), (2, .int x2_h4), (3, .int x3_h4)] → W p l e (rmk 0 0 0) s m ar below meth c s.heap [] 0 0 (MQ below (qR K_) ar s 0 0 (fun _ => False)) (F0 m 4 ls []) := by
    intro n_4
    induction n_4 with
    | zero => intro x2_h4 x3_h4 ls hv; exact False.elim hv
    | succ n_4 ih_4 =>
      intro x2_h4 x3_h4 ls hv hl
      unfold vl_M_behindBlanks_4 at hv
      have JP_86 : ∀ (x2_j86 : Int32) (x3_j86 : Int32) (ls : Array Slot), vj_M_behindBlanks_86 zs (vl_M_behindBlanks_4 zs K_ n_4) K_ x2_j86 x3_j86 → lv_has ls 5 [(0, .ref oM), (2, .int x2_j86), (3, .int x3_j86)] → W p l e (rmk 0 0 0) s m ar below meth c s.heap [] 0 0 (MQ below (qR K_) ar s 0 0 (fun _ => False)) (F0 m 86 ls []) := by
        intro x2_j86 x3_j86 ls hv hl
        unfold vj_M_behindBlanks_86 at hv
        refine lv_iinc (v := (x2_j86 + 1)) (lv' := [(2, .int (x2_j86 + 1)), (0, .ref oM), (3, .int x3_j86)]) hx hb d_M_behindBlanks_86 hl (k := 1) rfl rfl (by decide) rfl (fun ls hl => ?_)
        refine lv_goto (tgt := 4) hx hb d_M_behindBlanks_89 (by decide) ?_
        exact ih_4 (x2_j86 + 1) x3_j86 _ hv (lv_sub hl [1, 0, 2] rfl)
      have JP_51 : ∀ (x2_j51 : Int32) (x4_j51 : Int32) (y0_j51 : Int32) (ls : Array Slot), vj_M_behindBlanks_51 zs (vl_M_behindBlanks_4 zs K_ n_4) K_ x2_j51 x4_j51 y0_j51 → lv_has ls 5 [(0, .ref oM), (2, .int x2_j51), (4, .int x4_j51)] → W p l e (rmk 0 0 0) s m ar below meth c s.heap [] 0 0 (MQ below (qR K_) ar s 0 0 (fun _ => False)) (F0 m 51 ls [.int y0_j51]) := by
        intro x2_j51 x4_j51 y0_j51 ls hv hl
        unfold vj_M_behindBlanks_51 at hv
        refine lv_istore_n (lv' := [(3, .int y0_j51), (0, .ref oM), (2, .int x2_j51), (4, .int x4_j51)]) hx hb d_M_behindBlanks_51 rfl hl (by decide) rfl (fun ls hl => ?_)
        refine lv_iload_n hx hb d_M_behindBlanks_52 rfl (lv_at hl 0 rfl) ?_
        refine lv_if_ne (tgt := 86) hx hb d_M_behindBlanks_53 (by decide) (fun b_5 => ?_) (fun b_5 => ?_)
        · have hv := hv.1 b_5
          exact JP_86 x2_j51 y0_j51 _ hv (lv_sub hl [1, 2, 0] rfl)
        · have hv := hv.2 b_5
          refine lv_iload hx hb d_M_behindBlanks_56 (lv_at hl 3 rfl) ?_
          refine lv_bipush (v := 9) hx hb d_M_behindBlanks_58 (by decide) ?_
          refine lv_icmp_eq (tgt := 86) hx hb d_M_behindBlanks_60 (by decide) (fun b_6 => ?_) (fun b_6 => ?_)
          · have hv := hv.1 b_6
            exact JP_86 x2_j51 y0_j51 _ hv (lv_sub hl [1, 2, 0] rfl)
          · have hv := hv.2 b_6
            refine lv_iload hx hb d_M_behindBlanks_63 (lv_at hl 3 rfl) ?_
            refine lv_bipush (v := 10) hx hb d_M_behindBlanks_65 (by decide) ?_
            refine lv_icmp_eq (tgt := 86) hx hb d_M_behindBlanks_67 (by decide) (fun b_7 => ?_) (fun b_7 => ?_)
            · have hv := hv.1 b_7
              exact JP_86 x2_j51 y0_j51 _ hv (lv_sub hl [1, 2, 0] rfl)
            · have hv := hv.2 b_7
              refine lv_iload hx hb d_M_behindBlanks_70 (lv_at hl 3 rfl) ?_
              refine lv_bipush (v := 13) hx hb d_M_behindBlanks_72 (by decide) ?_
              refine lv_icmp_eq (tgt := 86) hx hb d_M_behindBlanks_74 (by decide) (fun b_8 => ?_) (fun b_8 => ?_)
              · have hv := hv.1 b_8
                exact JP_86 x2_j51 y0_j51 _ hv (lv_sub hl [1, 2, 0] rfl)
              · have hv := hv.2 b_8
                refine lv_iload hx hb d_M_behindBlanks_77 (lv_at hl 3 rfl) ?_
                refine lv_bipush (v := 32) hx hb d_M_behindBlanks_79 (by decide) ?_
                refine lv_icmp_eq (tgt := 86) hx hb d_M_behindBlanks_81 (by decide) (fun b_9 => ?_) (fun b_9 => ?_)
                · have hv := hv.1 b_9
                  exact JP_86 x2_j51 y0_j51 _ hv (lv_sub hl [1, 2, 0] rfl)
                · have hv := hv.2 b_9
                  refine lv_iload_n hx hb d_M_behindBlanks_84 rfl (lv_at hl 2 rfl) ?_
                  exact rr_i hx hb hr hlocks x2_j51 hv d_M_behindBlanks_85
      refine lv_iload_n hx hb d_M_behindBlanks_4 rfl (lv_at hl 1 rfl) ?_
      refine lv_aload_n hx hb d_M_behindBlanks_5 rfl (lv_at hl 0 rfl) ?_
      refine va_get (D := dd) (ci := 4) (C := Rc_M) (T := Fc_M) (N := 26) (v := .int zs.fd) hx hb hts (inn in_M) hown hK hP 0 rfl rfl 3 (by decide) (hts (.fieldLink "NetTextModel" 101 "NetTextModel" "fed" "I") (tg at_769)) (fun _ h9 => h9) rfl d_M_behindBlanks_6 ?_
      refine lv_icmp_ge (tgt := 92) hx hb d_M_behindBlanks_9 (by decide) (fun b_1 => ?_) (fun b_1 => ?_)
      · have hv := hv.1 b_1
        refine lv_aload_n hx hb d_M_behindBlanks_92 rfl (lv_at hl 0 rfl) ?_
        refine va_get (D := dd) (ci := 4) (C := Rc_M) (T := Fc_M) (N := 26) (v := .int zs.fd) hx hb hts (inn in_M) hown hK hP 0 rfl rfl 3 (by decide) (hts (.fieldLink "NetTextModel" 101 "NetTextModel" "fed" "I") (tg at_769)) (fun _ h9 => h9) rfl d_M_behindBlanks_93 ?_
        exact rr_i hx hb hr hlocks zs.fd hv d_M_behindBlanks_96
      · have hv := hv.2 b_1
        refine lv_aload_n hx hb d_M_behindBlanks_12 rfl (lv_at hl 0 rfl) ?_
        refine va_get (D := dd) (ci := 4) (C := Rc_M) (T := Fc_M) (N := 26) (v := .ref zs.aT) hx hb hts (inn in_M) hown hK hP 0 rfl rfl 2 (by decide) (hts (.fieldLink "NetTextModel" 49 "NetTextModel" "tape" "[B") (tg at_768)) (fun _ h9 => h9) rfl d_M_behindBlanks_13 ?_
        refine lv_iload_n hx hb d_M_behindBlanks_16 rfl (lv_at hl 1 rfl) ?_
        obtain ⟨h_2, hv⟩ := hv
        refine va_bald hx hb hK hP 1 0 rfl rfl h_2 d_M_behindBlanks_17 ?_
        refine lv_istore (lv' := [(4, .int (zs.tp x2_h4.toNatClampNeg)), (0, .ref oM), (2, .int x2_h4), (3, .int x3_h4)]) hx hb d_M_behindBlanks_18 hl (by decide) rfl (fun ls hl => ?_)
        refine lv_iload_n hx hb d_M_behindBlanks_20 rfl (lv_at hl 3 rfl) ?_
        refine lv_if_eq (tgt := 39) hx hb d_M_behindBlanks_21 (by decide) (fun b_3 => ?_) (fun b_3 => ?_)
        · have hv := hv.1 b_3
          refine lv_iload hx hb d_M_behindBlanks_39 (lv_at hl 0 rfl) ?_
          refine lv_bipush (v := 35) hx hb d_M_behindBlanks_41 (by decide) ?_
          refine lv_icmp_ne (tgt := 50) hx hb d_M_behindBlanks_43 (by decide) (fun b_4 => ?_) (fun b_4 => ?_)
          · have hv := hv.1 b_4
            refine lv_iconst (v := 0) hx hb d_M_behindBlanks_50 (by decide) ?_
            exact JP_51 x2_h4 (zs.tp x2_h4.toNatClampNeg) 0 _ hv (lv_sub hl [1, 2, 0] rfl)
          · have hv := hv.2 b_4
            refine lv_iconst (v := 1) hx hb d_M_behindBlanks_46 (by decide) ?_
            refine lv_goto (tgt := 51) hx hb d_M_behindBlanks_47 (by decide) ?_
            exact JP_51 x2_h4 (zs.tp x2_h4.toNatClampNeg) 1 _ hv (lv_sub hl [1, 2, 0] rfl)
        · have hv := hv.2 b_3
          refine lv_iload hx hb d_M_behindBlanks_24 (lv_at hl 0 rfl) ?_
          refine lv_bipush (v := 10) hx hb d_M_behindBlanks_26 (by decide) ?_
          refine lv_icmp_eq (tgt := 35) hx hb d_M_behindBlanks_28 (by decide) (fun b_10 => ?_) (fun b_10 => ?_)
          · have hv := hv.1 b_10
            refine lv_iconst (v := 0) hx hb d_M_behindBlanks_35 (by decide) ?_
            refine lv_goto (tgt := 51) hx hb d_M_behindBlanks_36 (by decide) ?_
            exact JP_51 x2_h4 (zs.tp x2_h4.toNatClampNeg) 0 _ hv (lv_sub hl [1, 2, 0] rfl)
          · have hv := hv.2 b_10
            refine lv_iconst (v := 1) hx hb d_M_behindBlanks_31 (by decide) ?_
            refine lv_goto (tgt := 51) hx hb d_M_behindBlanks_32 (by decide) ?_
            exact JP_51 x2_h4 (zs.tp x2_h4.toNatClampNeg) 1 _ hv (lv_sub hl [1, 2, 0] rfl)
  refine lv_iload_n hx hb d_M_behindBlanks_0 rfl (lv_at hl 1 rfl) ?_
  refine lv_istore_n (lv' := [(2, .int x1), (0, .ref oM), (1, .int x1)]) hx hb d_M_behindBlanks_1 rfl hl (by decide) rfl (fun ls hl => ?_)
  refine lv_iconst (v := 0) hx hb d_M_behindBlanks_2 (by decide) ?_
  refine lv_istore_n (lv' := [(3, .int 0), (2, .int x1), (0, .ref oM), (1, .int x1)]) hx hb d_M_behindBlanks_3 rfl hl (by decide) rfl (fun ls hl => ?_)
  obtain ⟨n_11, hv⟩ := hv
  exact JP_4 n_11 x1 0 _ hv (lv_sub hl [2, 1, 0] rfl)
def vj_M_isSpelled_60 (zs : RS) (si : Nat) (L_24 : Int32 → Int32 → Prop) (K_ : Int32 → Prop) (x3_j60 : Int32) (y0_j60 : Int32) : Prop :=
  (L_24 y0_j60 (x3_j60 + 1))
def vl_M_isSpelled_24 (zs : RS) (si : Nat) (K_ : Int32 → Prop) : Nat → Int32 → Int32 → Prop
  | 0 => fun _ _ => False
  | n_ + 1 => fun x2_h24 x3_h24 =>
  (((nI (lenS.getD si 0)) ≤ x3_h24 → (zOk x2_h24 ∧ K_ x2_h24)) ∧ (¬ (nI (lenS.getD si 0)) ≤ x3_h24 → ((x2_h24 = 0 → (zOk x2_h24 ∧ K_ x2_h24)) ∧ (¬ x2_h24 = 0 → (vp_in (zs.fr + x3_h24) zs.nT ∧ (vp_in x3_h24 (lenS.getD si 0) ∧ ((¬ (zs.tp (zs.fr + x3_h24).toNatClampNeg) = (chS si x3_h24) → (vj_M_isSpelled_60 zs si (vl_M_isSpelled_24 zs si K_ n_) K_ x3_h24 0)) ∧ ((zs.tp (zs.fr + x3_h24).toNatClampNeg) = (chS si x3_h24) → (vj_M_isSpelled_60 zs si (vl_M_isSpelled_24 zs si K_ n_) K_ x3_h24 1)))))))))
def vj_M_isSpelled_21 (zs : RS) (si : Nat) (K_ : Int32 → Prop) (y0_j21 : Int32) : Prop :=
  (∃ n_, vl_M_isSpelled_24 zs si K_ n_ y0_j21 0)
def vc_M_isSpelled  (zs : RS) (si : Nat) (K_ : Int32 → Prop) : Prop :=
  ((¬ (zs.at_ - zs.fr) = (nI (lenS.getD si 0)) → (vj_M_isSpelled_21 zs si K_ 0)) ∧ ((zs.at_ - zs.fr) = (nI (lenS.getD si 0)) → (vj_M_isSpelled_21 zs si K_ 1)))
set_option maxHeartbeats 4000000 in
set_option maxRecDepth 100000 in
theorem met_M_isSpelled {l : Launch} {dd : va_G} {cB cI cL cS : ClassId} {adK adV : Nat → Nat} {oM : Nat} {aKy : Nat}  {zs : RS} {si : Nat} {K_ : Int32 → Prop}  (hs_si : si < 41) (hv : vc_M_isSpelled  zs si K_) : CtR l y_M_isSpelled w_M_isSpelled (rmk 6 0 0) dd cls5 [(cB, .byte), (cI, .int), (cL, .long), (cS, .object "java/lang/String")] (XF adK adV) [(oM, .inr (4, [.ref aKy, .int zs.th, .ref zs.aT, .int zs.fd, .int zs.fa, .int zs.pl, .int zs.at_, .int zs.kd, .int zs.fr, .int zs.ky, .int zs.op, .int zs.ct, .ref zs.aKd, .ref zs.aBg, .ref zs.aPr, .ref zs.aSg, .ref zs.aNf, .ref zs.aNl, .ref zs.aDg, .ref zs.aBh, .ref zs.aDe, .ref zs.aPc, .ref zs.aFi, .ref zs.aNu, .ref zs.aN, .int zs.nd])), (zs.aT, .inl (cB, zs.nT, .inl zs.tp))] [.ref oM, .ref (adK si)] (qR K_) := by
  refine m_ofR (cc := b_M_isSpelled) (nL := 4) (ret := (some .boolean)) (by decide) rfl (Nat.le_of_ble_eq_true rfl) ?_
  intro p e s m below meth c ls ar Fx_ hP hK hX hl
  obtain ⟨hx, hb, hml, hr, hlocks, hown, hts, hinn⟩ := Fx_
  have hl : lv_has ls 4 [(0, .ref oM), (1, .ref (adK si))] := hl
  unfold vc_M_isSpelled at hv
  have JP_24 : ∀ (n_24 : Nat) (x2_h24 : Int32) (x3_h24 : Int32) (ls : Array Slot), vl_M_isSpelled_24 zs si K_ n_24 x2_h24 x3_h24 → lv_has ls 4 [(0, .ref oM), (1, .ref (adK si)), (2, .int x2_h24), (3, .int x3_h24)] → W p l e (rmk 6 0 0) s m ar below meth c s.heap [] 0 0 (MQ below (qR K_) ar s 0 0 (fun _ => False)) (F0 m 24 ls []) := by
    intro n_24
    induction n_24 with
    | zero => intro x2_h24 x3_h24 ls hv; exact False.elim hv
    | succ n_24 ih_24 =>
      intro x2_h24 x3_h24 ls hv hl
      unfold vl_M_isSpelled_24 at hv
      have JP_60 : ∀ (x3_j60 : Int32) (y0_j60 : Int32) (ls : Array Slot), vj_M_isSpelled_60 zs si (vl_M_isSpelled_24 zs si K_ n_24) K_ x3_j60 y0_j60 → lv_has ls 4 [(0, .ref oM), (1, .ref (adK si)), (3, .int x3_j60)] → W p l e (rmk 6 0 0) s m ar below meth c s.heap [] 0 0 (MQ below (qR K_) ar s 0 0 (fun _ => False)) (F0 m 60 ls [.int y0_j60]) := by
        intro x3_j60 y0_j60 ls hv hl
        unfold vj_M_isSpelled_60 at hv
        refine lv_istore_n (lv' := [(2, .int y0_j60), (0, .ref oM), (1, .ref (adK si)), (3, .int x3_j60)]) hx hb d_M_isSpelled_60 rfl hl (by decide) rfl (fun ls hl => ?_)
        refine lv_iinc (v := (x3_j60 + 1)) (lv' := [(3, .int (x3_j60 + 1)), (2, .int y0_j60), (0, .ref oM), (1, .ref (adK si))]) hx hb d_M_isSpelled_61 hl (k := 3) rfl rfl (by decide) rfl (fun ls hl => ?_)
        refine lv_goto (tgt := 24) hx hb d_M_isSpelled_64 (by decide) ?_
        exact ih_24 y0_j60 (x3_j60 + 1) _ hv (lv_sub hl [2, 3, 1, 0] rfl)
      refine lv_iload_n hx hb d_M_isSpelled_24 rfl (lv_at hl 3 rfl) ?_
      refine lv_aload_n hx hb d_M_isSpelled_25 rfl (lv_at hl 1 rfl) ?_
      refine krO_i (st := [.ref (adK si), .int x3_h24]) (rest := [.int x3_h24]) ⟨hx, hb, hml, hown, hts⟩ (sl_len (l := l) (dd := dd) (cB := cB) (cI := cI) (cL := cL) (cS := cS) (adK := adK) (adV := adV)  hs_si) (cwV 0 hts (gv (tg0 at_891) (tg0 at_199) (tg0 at_200) (tg0 at_14) (tg0 at_201)) rfl rfl rfl (by decide +kernel) (rk (by omega) (by decide))) xfb (xfr hX va_S.rf) hP hK [] rfl (xf_o hX va_S.rf hs_si) rfl hl.1 rfl (Nat.le_of_ble_eq_true rfl) d_M_isSpelled_26 ⟨Nat.zero_le _, Nat.zero_le _⟩ (fun r_3 hq => ?_)
      replace hq : r_3 = (nI (lenS.getD si 0)) := hq
      subst hq
      refine lv_icmp_ge (tgt := 67) hx hb d_M_isSpelled_29 (by decide) (fun b_4 => ?_) (fun b_4 => ?_)
      · have hv := hv.1 b_4
        refine lv_iload_n hx hb d_M_isSpelled_67 rfl (lv_at hl 2 rfl) ?_
        obtain ⟨hz_5, hv⟩ := hv
        exact rr_z hx hb hr hz_5 hlocks x2_h24 hv d_M_isSpelled_68
      · have hv := hv.2 b_4
        refine lv_iload_n hx hb d_M_isSpelled_32 rfl (lv_at hl 2 rfl) ?_
        refine lv_if_eq (tgt := 67) hx hb d_M_isSpelled_33 (by decide) (fun b_6 => ?_) (fun b_6 => ?_)
        · have hv := hv.1 b_6
          refine lv_iload_n hx hb d_M_isSpelled_67 rfl (lv_at hl 2 rfl) ?_
          obtain ⟨hz_7, hv⟩ := hv
          exact rr_z hx hb hr hz_7 hlocks x2_h24 hv d_M_isSpelled_68
        · have hv := hv.2 b_6
          refine lv_aload_n hx hb d_M_isSpelled_36 rfl (lv_at hl 0 rfl) ?_
          refine va_get (D := dd) (ci := 4) (C := Rc_M) (T := Fc_M) (N := 26) (v := .ref zs.aT) hx hb hts (inn in_M) hown hK hP 0 rfl rfl 2 (by decide) (hts (.fieldLink "NetTextModel" 49 "NetTextModel" "tape" "[B") (tg at_768)) (fun _ h9 => h9) rfl d_M_isSpelled_37 ?_
          refine lv_aload_n hx hb d_M_isSpelled_40 rfl (lv_at hl 0 rfl) ?_
          refine va_get (D := dd) (ci := 4) (C := Rc_M) (T := Fc_M) (N := 26) (v := .int zs.fr) hx hb hts (inn in_M) hown hK hP 0 rfl rfl 8 (by decide) (hts (.fieldLink "NetTextModel" 114 "NetTextModel" "from" "I") (tg at_774)) (fun _ h9 => h9) rfl d_M_isSpelled_41 ?_
          refine lv_iload_n hx hb d_M_isSpelled_44 rfl (lv_at hl 3 rfl) ?_
          refine lv_iadd hx hb d_M_isSpelled_45 ?_
          obtain ⟨h_8, hv⟩ := hv
          refine va_bald hx hb hK hP 1 0 rfl rfl h_8 d_M_isSpelled_46 ?_
          refine lv_aload_n hx hb d_M_isSpelled_47 rfl (lv_at hl 1 rfl) ?_
          refine lv_iload_n hx hb d_M_isSpelled_48 rfl (lv_at hl 3 rfl) ?_
          obtain ⟨h_9, hv⟩ := hv
          refine krO_i (st := [.int x3_h24, .ref (adK si), .int (zs.tp (zs.fr + x3_h24).toNatClampNeg)]) (rest := [.int (zs.tp (zs.fr + x3_h24).toNatClampNeg)]) ⟨hx, hb, hml, hown, hts⟩ (sl_chr (l := l) (dd := dd) (cB := cB) (cI := cI) (cL := cL) (cS := cS) (adK := adK) (adV := adV)  hs_si h_9) (cwV 1 hts (gv (tg0 at_892) (tg0 at_209) (tg0 at_210) (tg0 at_14) (tg0 at_211)) rfl rfl rfl (by decide +kernel) (rk (by omega) (by decide))) xfb (xfr hX va_S.rf) hP hK [] rfl (xf_o hX va_S.rf hs_si) rfl hl.1 rfl (Nat.le_of_ble_eq_true rfl) d_M_isSpelled_49 ⟨Nat.zero_le _, Nat.zero_le _⟩ (fun r_10 hq => ?_)
          replace hq : r_10 = (chS si x3_h24) := hq
          subst hq
          refine lv_icmp_ne (tgt := 59) hx hb d_M_isSpelled_52 (by decide) (fun b_11 => ?_) (fun b_11 => ?_)
          · have hv := hv.1 b_11
            refine lv_iconst (v := 0) hx hb d_M_isSpelled_59 (by decide) ?_
            exact JP_60 x3_h24 0 _ hv (lv_sub hl [0, 1, 3] rfl)
          · have hv := hv.2 b_11
            refine lv_iconst (v := 1) hx hb d_M_isSpelled_55 (by decide) ?_
            refine lv_goto (tgt := 60) hx hb d_M_isSpelled_56 (by decide) ?_
            exact JP_60 x3_h24 1 _ hv (lv_sub hl [0, 1, 3] rfl)
  have JP_21 : ∀ (y0_j21 : Int32) (ls : Array Slot), vj_M_isSpelled_21 zs si K_ y0_j21 → lv_has ls 4 [(0, .ref oM), (1, .ref (adK si))] → W p l e (rmk 6 0 0) s m ar below meth c s.heap [] 0 0 (MQ below (qR K_) ar s 0 0 (fun _ => False)) (F0 m 21 ls [.int y0_j21]) := by
    intro y0_j21 ls hv hl
    unfold vj_M_isSpelled_21 at hv
    refine lv_istore_n (lv' := [(2, .int y0_j21), (0, .ref oM), (1, .ref (adK si))]) hx hb d_M_isSpelled_21 rfl hl (by decide) rfl (fun ls hl => ?_)
    refine lv_iconst (v := 0) hx hb d_M_isSpelled_22 (by decide) ?_
    refine lv_istore_n (lv' := [(3, .int 0), (2, .int y0_j21), (0, .ref oM), (1, .ref (adK si))]) hx hb d_M_isSpelled_23 rfl hl (by decide) rfl (fun ls hl => ?_)
    obtain ⟨n_12, hv⟩ := hv
    exact JP_24 n_12 y0_j21 0 _ hv (lv_sub hl [2, 3, 1, 0] rfl)
  refine lv_aload_n hx hb d_M_isSpelled_0 rfl (lv_at hl 0 rfl) ?_
  refine va_get (D := dd) (ci := 4) (C := Rc_M) (T := Fc_M) (N := 26) (v := .int zs.at_) hx hb hts (inn in_M) hown hK hP 0 rfl rfl 6 (by decide) (hts (.fieldLink "NetTextModel" 111 "NetTextModel" "at" "I") (tg at_772)) (fun _ h9 => h9) rfl d_M_isSpelled_1 ?_
  refine lv_aload_n hx hb d_M_isSpelled_4 rfl (lv_at hl 0 rfl) ?_
  refine va_get (D := dd) (ci := 4) (C := Rc_M) (T := Fc_M) (N := 26) (v := .int zs.fr) hx hb hts (inn in_M) hown hK hP 0 rfl rfl 8 (by decide) (hts (.fieldLink "NetTextModel" 114 "NetTextModel" "from" "I") (tg at_774)) (fun _ h9 => h9) rfl d_M_isSpelled_5 ?_
  refine lv_isub hx hb d_M_isSpelled_8 ?_
  refine lv_aload_n hx hb d_M_isSpelled_9 rfl (lv_at hl 1 rfl) ?_
  refine krO_i (st := [.ref (adK si), .int (zs.at_ - zs.fr)]) (rest := [.int (zs.at_ - zs.fr)]) ⟨hx, hb, hml, hown, hts⟩ (sl_len (l := l) (dd := dd) (cB := cB) (cI := cI) (cL := cL) (cS := cS) (adK := adK) (adV := adV)  hs_si) (cwV 0 hts (gv (tg0 at_891) (tg0 at_199) (tg0 at_200) (tg0 at_14) (tg0 at_201)) rfl rfl rfl (by decide +kernel) (rk (by omega) (by decide))) xfb (xfr hX va_S.rf) hP hK [] rfl (xf_o hX va_S.rf hs_si) rfl hl.1 rfl (Nat.le_of_ble_eq_true rfl) d_M_isSpelled_10 ⟨Nat.zero_le _, Nat.zero_le _⟩ (fun r_1 hq => ?_)
  replace hq : r_1 = (nI (lenS.getD si 0)) := hq
  subst hq
  refine lv_icmp_ne (tgt := 20) hx hb d_M_isSpelled_13 (by decide) (fun b_2 => ?_) (fun b_2 => ?_)
  · have hv := hv.1 b_2
    refine lv_iconst (v := 0) hx hb d_M_isSpelled_20 (by decide) ?_
    exact JP_21 0 _ hv (lv_sub hl [0, 1] rfl)
  · have hv := hv.2 b_2
    refine lv_iconst (v := 1) hx hb d_M_isSpelled_16 (by decide) ?_
    refine lv_goto (tgt := 21) hx hb d_M_isSpelled_17 (by decide) ?_
    exact JP_21 1 _ hv (lv_sub hl [0, 1] rfl)
def vc_M_is  (zs : RS) (x1 : Int32) (K_ : Int32 → Prop) : Prop :=
  ((¬ zs.kd = 3 → (K_ 0)) ∧ (zs.kd = 3 → (vp_in zs.fr zs.nT ∧ ((¬ (zs.tp zs.fr.toNatClampNeg) = x1 → (K_ 0)) ∧ ((zs.tp zs.fr.toNatClampNeg) = x1 → (K_ 1))))))
set_option maxHeartbeats 4000000 in
set_option maxRecDepth 100000 in
theorem met_M_is {l : Launch} {dd : va_G} {cB cI cL cS : ClassId} {adK adV : Nat → Nat} {oM : Nat} {aKy : Nat}  {zs : RS} {x1 : Int32} {K_ : Int32 → Prop}  (hv : vc_M_is  zs x1 K_) : CtR l y_M_is w_M_is (rmk 0 0 0) dd cls5 [(cB, .byte), (cI, .int), (cL, .long), (cS, .object "java/lang/String")] (XF adK adV) [(oM, .inr (4, [.ref aKy, .int zs.th, .ref zs.aT, .int zs.fd, .int zs.fa, .int zs.pl, .int zs.at_, .int zs.kd, .int zs.fr, .int zs.ky, .int zs.op, .int zs.ct, .ref zs.aKd, .ref zs.aBg, .ref zs.aPr, .ref zs.aSg, .ref zs.aNf, .ref zs.aNl, .ref zs.aDg, .ref zs.aBh, .ref zs.aDe, .ref zs.aPc, .ref zs.aFi, .ref zs.aNu, .ref zs.aN, .int zs.nd])), (zs.aT, .inl (cB, zs.nT, .inl zs.tp))] [.ref oM, .int x1] (qR K_) := by
  refine m_ofR (cc := b_M_is) (nL := 2) (ret := (some .boolean)) (by decide) rfl (Nat.le_of_ble_eq_true rfl) ?_
  intro p e s m below meth c ls ar Fx_ hP hK hX hl
  obtain ⟨hx, hb, hml, hr, hlocks, hown, hts, hinn⟩ := Fx_
  have hl : lv_has ls 2 [(0, .ref oM), (1, .int x1)] := hl
  unfold vc_M_is at hv
  refine lv_aload_n hx hb d_M_is_0 rfl (lv_at hl 0 rfl) ?_
  refine va_get (D := dd) (ci := 4) (C := Rc_M) (T := Fc_M) (N := 26) (v := .int zs.kd) hx hb hts (inn in_M) hown hK hP 0 rfl rfl 7 (by decide) (hts (.fieldLink "NetTextModel" 132 "NetTextModel" "kind" "I") (tg at_773)) (fun _ h9 => h9) rfl d_M_is_1 ?_
  refine lv_iconst (v := 3) hx hb d_M_is_4 (by decide) ?_
  refine lv_icmp_ne (tgt := 25) hx hb d_M_is_5 (by decide) (fun b_1 => ?_) (fun b_1 => ?_)
  · have hv := hv.1 b_1
    refine lv_iconst (v := 0) hx hb d_M_is_25 (by decide) ?_
    exact rr_z hx hb hr narrow_b0 hlocks 0 hv d_M_is_26
  · have hv := hv.2 b_1
    refine lv_aload_n hx hb d_M_is_8 rfl (lv_at hl 0 rfl) ?_
    refine va_get (D := dd) (ci := 4) (C := Rc_M) (T := Fc_M) (N := 26) (v := .ref zs.aT) hx hb hts (inn in_M) hown hK hP 0 rfl rfl 2 (by decide) (hts (.fieldLink "NetTextModel" 49 "NetTextModel" "tape" "[B") (tg at_768)) (fun _ h9 => h9) rfl d_M_is_9 ?_
    refine lv_aload_n hx hb d_M_is_12 rfl (lv_at hl 0 rfl) ?_
    refine va_get (D := dd) (ci := 4) (C := Rc_M) (T := Fc_M) (N := 26) (v := .int zs.fr) hx hb hts (inn in_M) hown hK hP 0 rfl rfl 8 (by decide) (hts (.fieldLink "NetTextModel" 114 "NetTextModel" "from" "I") (tg at_774)) (fun _ h9 => h9) rfl d_M_is_13 ?_
    obtain ⟨h_2, hv⟩ := hv
    refine va_bald hx hb hK hP 1 0 rfl rfl h_2 d_M_is_16 ?_
    refine lv_iload_n hx hb d_M_is_17 rfl (lv_at hl 1 rfl) ?_
    refine lv_icmp_ne (tgt := 25) hx hb d_M_is_18 (by decide) (fun b_3 => ?_) (fun b_3 => ?_)
    · have hv := hv.1 b_3
      refine lv_iconst (v := 0) hx hb d_M_is_25 (by decide) ?_
      exact rr_z hx hb hr narrow_b0 hlocks 0 hv d_M_is_26
    · have hv := hv.2 b_3
      refine lv_iconst (v := 1) hx hb d_M_is_21 (by decide) ?_
      refine lv_goto (tgt := 26) hx hb d_M_is_22 (by decide) ?_
      exact rr_z hx hb hr narrow_b1 hlocks 1 hv d_M_is_26
def vc_M_isKey  (zs : RS) (x1 : Int32) (K_ : Int32 → Prop) : Prop :=
  ((¬ zs.kd = 5 → (K_ 0)) ∧ (zs.kd = 5 → ((¬ zs.ky = x1 → (K_ 0)) ∧ (zs.ky = x1 → (K_ 1)))))
set_option maxHeartbeats 4000000 in
set_option maxRecDepth 100000 in
theorem met_M_isKey {l : Launch} {dd : va_G} {cB cI cL cS : ClassId} {adK adV : Nat → Nat} {oM : Nat} {aKy : Nat}  {zs : RS} {x1 : Int32} {K_ : Int32 → Prop}  (hv : vc_M_isKey  zs x1 K_) : CtR l y_M_isKey w_M_isKey (rmk 0 0 0) dd cls5 [(cB, .byte), (cI, .int), (cL, .long), (cS, .object "java/lang/String")] (XF adK adV) [(oM, .inr (4, [.ref aKy, .int zs.th, .ref zs.aT, .int zs.fd, .int zs.fa, .int zs.pl, .int zs.at_, .int zs.kd, .int zs.fr, .int zs.ky, .int zs.op, .int zs.ct, .ref zs.aKd, .ref zs.aBg, .ref zs.aPr, .ref zs.aSg, .ref zs.aNf, .ref zs.aNl, .ref zs.aDg, .ref zs.aBh, .ref zs.aDe, .ref zs.aPc, .ref zs.aFi, .ref zs.aNu, .ref zs.aN, .int zs.nd]))] [.ref oM, .int x1] (qR K_) := by
  refine m_ofR (cc := b_M_isKey) (nL := 2) (ret := (some .boolean)) (by decide) rfl (Nat.le_of_ble_eq_true rfl) ?_
  intro p e s m below meth c ls ar Fx_ hP hK hX hl
  obtain ⟨hx, hb, hml, hr, hlocks, hown, hts, hinn⟩ := Fx_
  have hl : lv_has ls 2 [(0, .ref oM), (1, .int x1)] := hl
  unfold vc_M_isKey at hv
  refine lv_aload_n hx hb d_M_isKey_0 rfl (lv_at hl 0 rfl) ?_
  refine va_get (D := dd) (ci := 4) (C := Rc_M) (T := Fc_M) (N := 26) (v := .int zs.kd) hx hb hts (inn in_M) hown hK hP 0 rfl rfl 7 (by decide) (hts (.fieldLink "NetTextModel" 132 "NetTextModel" "kind" "I") (tg at_773)) (fun _ h9 => h9) rfl d_M_isKey_1 ?_
  refine lv_iconst (v := 5) hx hb d_M_isKey_4 (by decide) ?_
  refine lv_icmp_ne (tgt := 20) hx hb d_M_isKey_5 (by decide) (fun b_1 => ?_) (fun b_1 => ?_)
  · have hv := hv.1 b_1
    refine lv_iconst (v := 0) hx hb d_M_isKey_20 (by decide) ?_
    exact rr_z hx hb hr narrow_b0 hlocks 0 hv d_M_isKey_21
  · have hv := hv.2 b_1
    refine lv_aload_n hx hb d_M_isKey_8 rfl (lv_at hl 0 rfl) ?_
    refine va_get (D := dd) (ci := 4) (C := Rc_M) (T := Fc_M) (N := 26) (v := .int zs.ky) hx hb hts (inn in_M) hown hK hP 0 rfl rfl 9 (by decide) (hts (.fieldLink "NetTextModel" 146 "NetTextModel" "key" "I") (tg at_775)) (fun _ h9 => h9) rfl d_M_isKey_9 ?_
    refine lv_iload_n hx hb d_M_isKey_12 rfl (lv_at hl 1 rfl) ?_
    refine lv_icmp_ne (tgt := 20) hx hb d_M_isKey_13 (by decide) (fun b_2 => ?_) (fun b_2 => ?_)
    · have hv := hv.1 b_2
      refine lv_iconst (v := 0) hx hb d_M_isKey_20 (by decide) ?_
      exact rr_z hx hb hr narrow_b0 hlocks 0 hv d_M_isKey_21
    · have hv := hv.2 b_2
      refine lv_iconst (v := 1) hx hb d_M_isKey_16 (by decide) ?_
      refine lv_goto (tgt := 21) hx hb d_M_isKey_17 (by decide) ?_
      exact rr_z hx hb hr narrow_b1 hlocks 1 hv d_M_isKey_21
def vc_M_isStatement  (zs : RS)  (K_ : Int32 → Prop) : Prop :=
  (vc_M_isKey zs 0 (fun r_1 => ((¬ r_1 = 0 → (K_ 1)) ∧ (r_1 = 0 → (vc_M_isKey zs 3 (fun r_3 => ((¬ r_3 = 0 → (K_ 1)) ∧ (r_3 = 0 → (vc_M_isKey zs 8 (fun r_5 => ((r_5 = 0 → (K_ 0)) ∧ (¬ r_5 = 0 → (K_ 1)))))))))))))
set_option maxHeartbeats 4000000 in
set_option maxRecDepth 100000 in
theorem met_M_isStatement {l : Launch} {dd : va_G} {cB cI cL cS : ClassId} {adK adV : Nat → Nat} {oM : Nat} {aKy : Nat}  {zs : RS}  {K_ : Int32 → Prop}  (hv : vc_M_isStatement  zs  K_) : CtR l y_M_isStatement w_M_isStatement (rmk 1 0 0) dd cls5 [(cB, .byte), (cI, .int), (cL, .long), (cS, .object "java/lang/String")] (XF adK adV) [(oM, .inr (4, [.ref aKy, .int zs.th, .ref zs.aT, .int zs.fd, .int zs.fa, .int zs.pl, .int zs.at_, .int zs.kd, .int zs.fr, .int zs.ky, .int zs.op, .int zs.ct, .ref zs.aKd, .ref zs.aBg, .ref zs.aPr, .ref zs.aSg, .ref zs.aNf, .ref zs.aNl, .ref zs.aDg, .ref zs.aBh, .ref zs.aDe, .ref zs.aPc, .ref zs.aFi, .ref zs.aNu, .ref zs.aN, .int zs.nd]))] [.ref oM] (qR K_) := by
  refine m_ofR (cc := b_M_isStatement) (nL := 1) (ret := (some .boolean)) (by decide) rfl (Nat.le_of_ble_eq_true rfl) ?_
  intro p e s m below meth c ls ar Fx_ hP hK hX hl
  obtain ⟨hx, hb, hml, hr, hlocks, hown, hts, hinn⟩ := Fx_
  have hl : lv_has ls 1 [(0, .ref oM)] := hl
  unfold vc_M_isStatement at hv
  refine lv_aload_n hx hb d_M_isStatement_0 rfl (lv_at hl 0 rfl) ?_
  refine lv_iconst (v := 0) hx hb d_M_isStatement_1 (by decide) ?_
  have hM := met_M_isKey (l := l) (dd := dd) (cB := cB) (cI := cI) (cL := cL) (cS := cS) (adK := adK) (adV := adV) (oM := oM) (aKy := aKy)  hv
  refine krv_i (st := [.int 0, .ref oM]) (rest := []) ⟨hx, hb, hml, hown, hts⟩ hM (cwV 1 hts (gv (tg0 at_920) (tg0 at_922) (tg0 ap_57) (tg0 at_5) (tg0 at_923)) rfl rfl rfl (by decide +kernel) (rk (by omega) (by decide))) xfb (xfr hX va_S.rf) hP hK [0] rfl (ci := 4) rfl rfl (q0 := 0) rfl rfl hl.1 rfl (Nat.le_of_ble_eq_true rfl) d_M_isStatement_2 ⟨Nat.zero_le _, Nat.zero_le _⟩ (fun r_1 hv => ?_)
  refine lv_if_ne (tgt := 25) hx hb d_M_isStatement_5 (by decide) (fun b_2 => ?_) (fun b_2 => ?_)
  · have hv := hv.1 b_2
    refine lv_iconst (v := 1) hx hb d_M_isStatement_25 (by decide) ?_
    refine lv_goto (tgt := 30) hx hb d_M_isStatement_26 (by decide) ?_
    exact rr_z hx hb hr narrow_b1 hlocks 1 hv d_M_isStatement_30
  · have hv := hv.2 b_2
    refine lv_aload_n hx hb d_M_isStatement_8 rfl (lv_at hl 0 rfl) ?_
    refine lv_iconst (v := 3) hx hb d_M_isStatement_9 (by decide) ?_
    have hM := met_M_isKey (l := l) (dd := dd) (cB := cB) (cI := cI) (cL := cL) (cS := cS) (adK := adK) (adV := adV) (oM := oM) (aKy := aKy)  hv
    refine krv_i (st := [.int 3, .ref oM]) (rest := []) ⟨hx, hb, hml, hown, hts⟩ hM (cwV 1 hts (gv (tg0 at_920) (tg0 at_922) (tg0 ap_57) (tg0 at_5) (tg0 at_923)) rfl rfl rfl (by decide +kernel) (rk (by omega) (by decide))) xfb (xfr hX va_S.rf) hP hK [0] rfl (ci := 4) rfl rfl (q0 := 0) rfl rfl hl.1 rfl (Nat.le_of_ble_eq_true rfl) d_M_isStatement_10 ⟨Nat.zero_le _, Nat.zero_le _⟩ (fun r_3 hv => ?_)
    refine lv_if_ne (tgt := 25) hx hb d_M_isStatement_13 (by decide) (fun b_4 => ?_) (fun b_4 => ?_)
    · have hv := hv.1 b_4
      refine lv_iconst (v := 1) hx hb d_M_isStatement_25 (by decide) ?_
      refine lv_goto (tgt := 30) hx hb d_M_isStatement_26 (by decide) ?_
      exact rr_z hx hb hr narrow_b1 hlocks 1 hv d_M_isStatement_30
    · have hv := hv.2 b_4
      refine lv_aload_n hx hb d_M_isStatement_16 rfl (lv_at hl 0 rfl) ?_
      refine lv_bipush (v := 8) hx hb d_M_isStatement_17 (by decide) ?_
      have hM := met_M_isKey (l := l) (dd := dd) (cB := cB) (cI := cI) (cL := cL) (cS := cS) (adK := adK) (adV := adV) (oM := oM) (aKy := aKy)  hv
      refine krv_i (st := [.int 8, .ref oM]) (rest := []) ⟨hx, hb, hml, hown, hts⟩ hM (cwV 1 hts (gv (tg0 at_920) (tg0 at_922) (tg0 ap_57) (tg0 at_5) (tg0 at_923)) rfl rfl rfl (by decide +kernel) (rk (by omega) (by decide))) xfb (xfr hX va_S.rf) hP hK [0] rfl (ci := 4) rfl rfl (q0 := 0) rfl rfl hl.1 rfl (Nat.le_of_ble_eq_true rfl) d_M_isStatement_19 ⟨Nat.zero_le _, Nat.zero_le _⟩ (fun r_5 hv => ?_)
      refine lv_if_eq (tgt := 29) hx hb d_M_isStatement_22 (by decide) (fun b_6 => ?_) (fun b_6 => ?_)
      · have hv := hv.1 b_6
        refine lv_iconst (v := 0) hx hb d_M_isStatement_29 (by decide) ?_
        exact rr_z hx hb hr narrow_b0 hlocks 0 hv d_M_isStatement_30
      · have hv := hv.2 b_6
        refine lv_iconst (v := 1) hx hb d_M_isStatement_25 (by decide) ?_
        refine lv_goto (tgt := 30) hx hb d_M_isStatement_26 (by decide) ?_
        exact rr_z hx hb hr narrow_b1 hlocks 1 hv d_M_isStatement_30
def vj_M_figures_135  (K_ : RS → Prop) (x1_j135 : Int32) (x2_j135 : Int32) (y0_j135 : Int32) (s_j135 : RS) : Prop :=
  ((9 < x1_j135 → (K_ (RS.w_kd s_j135 4))) ∧ (¬ 9 < x1_j135 → ((9 < x2_j135 → (K_ (RS.w_kd s_j135 4))) ∧ (¬ 9 < x2_j135 → ((y0_j135 = 0 → (K_ (RS.w_kd s_j135 2))) ∧ (¬ y0_j135 = 0 → (K_ (RS.w_kd s_j135 4))))))))
def vj_M_figures_130  (K_ : RS → Prop) (x1_j130 : Int32) (x2_j130 : Int32) (s_j130 : RS) : Prop :=
  (vj_M_figures_135 K_ x1_j130 x2_j130 1 s_j130)
def vj_M_figures_103  (K_ : RS → Prop) (x1_j103 : Int32) (x2_j103 : Int32) (s_j103 : RS) : Prop :=
  (vc_M_byteAt s_j103 s_j103.at_ (fun r_6 => (vc_M_isLetter r_6 (fun r_7 => ((¬ r_7 = 0 → (vj_M_figures_130 K_ x1_j103 x2_j103 s_j103)) ∧ (r_7 = 0 → (vc_M_byteAt s_j103 s_j103.at_ (fun r_12 => ((¬ r_12 = 46 → (vj_M_figures_135 K_ x1_j103 x2_j103 0 s_j103)) ∧ (r_12 = 46 → (vj_M_figures_130 K_ x1_j103 x2_j103 s_j103)))))))))))
def vl_M_figures_73  (K_ : RS → Prop) : Nat → Int32 → Int32 → RS → Prop
  | 0 => fun _ _ _ => False
  | n_ + 1 => fun x1_h73 x2_h73 s_h73 =>
  (vc_M_byteAt s_h73 s_h73.at_ (fun r_20 => (vc_M_isDigit r_20 (fun r_21 => ((r_21 = 0 → (vj_M_figures_103 K_ x1_h73 x2_h73 s_h73)) ∧ (¬ r_21 = 0 → ((vl_M_figures_73 K_ n_) x1_h73 (x2_h73 + 1) (RS.w_at_ s_h73 (s_h73.at_ + 1)))))))))
def vl_M_figures_4  (K_ : RS → Prop) : Nat → Int32 → Int32 → RS → Prop
  | 0 => fun _ _ _ => False
  | n_ + 1 => fun x1_h4 x2_h4 s_h4 =>
  (vc_M_byteAt s_h4 s_h4.at_ (fun r_1 => (vc_M_isDigit r_1 (fun r_2 => ((r_2 = 0 → (vc_M_byteAt s_h4 s_h4.at_ (fun r_4 => ((¬ r_4 = 46 → (vj_M_figures_103 K_ x1_h4 x2_h4 s_h4)) ∧ (r_4 = 46 → (vc_M_byteAt s_h4 (s_h4.at_ + 1) (fun r_17 => (vc_M_isDigit r_17 (fun r_18 => ((r_18 = 0 → (vj_M_figures_103 K_ x1_h4 x2_h4 s_h4)) ∧ (¬ r_18 = 0 → (∃ n_, vl_M_figures_73 K_ n_ x1_h4 x2_h4 (RS.w_at_ s_h4 (s_h4.at_ + 1)))))))))))))) ∧ (¬ r_2 = 0 → ((vl_M_figures_4 K_ n_) (x1_h4 + 1) x2_h4 (RS.w_at_ s_h4 (s_h4.at_ + 1)))))))))
def vc_M_figures  (zs : RS)  (K_ : RS → Prop) : Prop :=
  (∃ n_, vl_M_figures_4 K_ n_ 0 0 zs)
set_option maxHeartbeats 4000000 in
set_option maxRecDepth 100000 in
theorem met_M_figures {l : Launch} {dd : va_G} {cB cI cL cS : ClassId} {adK adV : Nat → Nat} {oM : Nat} {aKy : Nat}  {zs : RS}  {K_ : RS → Prop}  (hv : vc_M_figures  zs  K_) : Ct l y_M_figures w_M_figures (rmk 1 0 0) dd cls5 [(cB, .byte), (cI, .int), (cL, .long), (cS, .object "java/lang/String")] (XF adK adV) [(oM, .inr (4, [.ref aKy, .int zs.th, .ref zs.aT, .int zs.fd, .int zs.fa, .int zs.pl, .int zs.at_, .int zs.kd, .int zs.fr, .int zs.ky, .int zs.op, .int zs.ct, .ref zs.aKd, .ref zs.aBg, .ref zs.aPr, .ref zs.aSg, .ref zs.aNf, .ref zs.aNl, .ref zs.aDg, .ref zs.aBh, .ref zs.aDe, .ref zs.aPc, .ref zs.aFi, .ref zs.aNu, .ref zs.aN, .int zs.nd])), (aKy, .inl (cS, 17, .inr (.inr (.inr (.inr (kyF adK)))))), (zs.aT, .inl (cB, zs.nT, .inl zs.tp)), (zs.aKd, .inl (cI, zs.nR, .inl zs.Kd)), (zs.aBg, .inl (cI, zs.nR, .inl zs.Bg)), (zs.aPr, .inl (cI, zs.nR, .inl zs.Pr)), (zs.aSg, .inl (cI, zs.nR, .inl zs.Sg)), (zs.aNf, .inl (cI, zs.nR, .inl zs.Nf)), (zs.aNl, .inl (cI, zs.nR, .inl zs.Nl)), (zs.aDg, .inl (cL, zs.nR, .inr (.inl zs.Dg))), (zs.aBh, .inl (cI, zs.nR, .inl zs.Bh)), (zs.aDe, .inl (cI, zs.nR, .inl zs.De)), (zs.aPc, .inl (cI, zs.nR, .inl zs.Pc)), (zs.aFi, .inl (cI, zs.nR, .inl zs.Fi)), (zs.aNu, .inl (cI, zs.nR, .inl zs.Nu)), (zs.aN, .inl (cB, zs.nN, .inl zs.nm))] [.ref oM] (qv dd cls5 [(cB, .byte), (cI, .int), (cL, .long), (cS, .object "java/lang/String")] (fun u_ : RS => [(oM, .inr (4, [.ref aKy, .int u_.th, .ref u_.aT, .int u_.fd, .int u_.fa, .int u_.pl, .int u_.at_, .int u_.kd, .int u_.fr, .int u_.ky, .int u_.op, .int u_.ct, .ref u_.aKd, .ref u_.aBg, .ref u_.aPr, .ref u_.aSg, .ref u_.aNf, .ref u_.aNl, .ref u_.aDg, .ref u_.aBh, .ref u_.aDe, .ref u_.aPc, .ref u_.aFi, .ref u_.aNu, .ref u_.aN, .int u_.nd])), (aKy, .inl (cS, 17, .inr (.inr (.inr (.inr (kyF adK)))))), (u_.aT, .inl (cB, u_.nT, .inl u_.tp)), (u_.aKd, .inl (cI, u_.nR, .inl u_.Kd)), (u_.aBg, .inl (cI, u_.nR, .inl u_.Bg)), (u_.aPr, .inl (cI, u_.nR, .inl u_.Pr)), (u_.aSg, .inl (cI, u_.nR, .inl u_.Sg)), (u_.aNf, .inl (cI, u_.nR, .inl u_.Nf)), (u_.aNl, .inl (cI, u_.nR, .inl u_.Nl)), (u_.aDg, .inl (cL, u_.nR, .inr (.inl u_.Dg))), (u_.aBh, .inl (cI, u_.nR, .inl u_.Bh)), (u_.aDe, .inl (cI, u_.nR, .inl u_.De)), (u_.aPc, .inl (cI, u_.nR, .inl u_.Pc)), (u_.aFi, .inl (cI, u_.nR, .inl u_.Fi)), (u_.aNu, .inl (cI, u_.nR, .inl u_.Nu)), (u_.aN, .inl (cB, u_.nN, .inl u_.nm))]) (fun u_ => K_ u_)) 0 0 := by
  refine m_of (cc := b_M_figures) (nL := 4) (ret := none) (by decide) rfl (Nat.le_of_ble_eq_true rfl) ?_
  intro p e s m below meth c ls A ar Fx_ hA hP hK hD hS hX hl
  obtain ⟨hx, hb, hml, hr, hlocks, hown, hts, hinn⟩ := Fx_
  generalize hQ : MQ below ((qv dd cls5 [(cB, .byte), (cI, .int), (cL, .long), (cS, .object "java/lang/String")] (fun u_ : RS => [(oM, .inr (4, [.ref aKy, .int u_.th, .ref u_.aT, .int u_.fd, .int u_.fa, .int u_.pl, .int u_.at_, .int u_.kd, .int u_.fr, .int u_.ky, .int u_.op, .int u_.ct, .ref u_.aKd, .ref u_.aBg, .ref u_.aPr, .ref u_.aSg, .ref u_.aNf, .ref u_.aNl, .ref u_.aDg, .ref u_.aBh, .ref u_.aDe, .ref u_.aPc, .ref u_.aFi, .ref u_.aNu, .ref u_.aN, .int u_.nd])), (aKy, .inl (cS, 17, .inr (.inr (.inr (.inr (kyF adK)))))), (u_.aT, .inl (cB, u_.nT, .inl u_.tp)), (u_.aKd, .inl (cI, u_.nR, .inl u_.Kd)), (u_.aBg, .inl (cI, u_.nR, .inl u_.Bg)), (u_.aPr, .inl (cI, u_.nR, .inl u_.Pr)), (u_.aSg, .inl (cI, u_.nR, .inl u_.Sg)), (u_.aNf, .inl (cI, u_.nR, .inl u_.Nf)), (u_.aNl, .inl (cI, u_.nR, .inl u_.Nl)), (u_.aDg, .inl (cL, u_.nR, .inr (.inl u_.Dg))), (u_.aBh, .inl (cI, u_.nR, .inl u_.Bh)), (u_.aDe, .inl (cI, u_.nR, .inl u_.De)), (u_.aPc, .inl (cI, u_.nR, .inl u_.Pc)), (u_.aFi, .inl (cI, u_.nR, .inl u_.Fi)), (u_.aNu, .inl (cI, u_.nR, .inl u_.Nu)), (u_.aN, .inl (cB, u_.nN, .inl u_.nm))]) (fun u_ => K_ u_)) A) ar s 0 0 A = QQ
  have hl : lv_has ls 4 [(0, .ref oM)] := hl
  unfold vc_M_figures at hv
  have JP_135 : ∀ (x1_j135 : Int32) (x2_j135 : Int32) (y0_j135 : Int32) (s_j135 : RS) (H : Heap) (locs : List Loc) (ls : Array Slot), vj_M_figures_135 K_ x1_j135 x2_j135 y0_j135 s_j135 → va_P dd cls5 [(oM, .inr (4, [.ref aKy, .int s_j135.th, .ref s_j135.aT, .int s_j135.fd, .int s_j135.fa, .int s_j135.pl, .int s_j135.at_, .int s_j135.kd, .int s_j135.fr, .int s_j135.ky, .int s_j135.op, .int s_j135.ct, .ref s_j135.aKd, .ref s_j135.aBg, .ref s_j135.aPr, .ref s_j135.aSg, .ref s_j135.aNf, .ref s_j135.aNl, .ref s_j135.aDg, .ref s_j135.aBh, .ref s_j135.aDe, .ref s_j135.aPc, .ref s_j135.aFi, .ref s_j135.aNu, .ref s_j135.aN, .int s_j135.nd])), (aKy, .inl (cS, 17, .inr (.inr (.inr (.inr (kyF adK)))))), (s_j135.aT, .inl (cB, s_j135.nT, .inl s_j135.tp)), (s_j135.aKd, .inl (cI, s_j135.nR, .inl s_j135.Kd)), (s_j135.aBg, .inl (cI, s_j135.nR, .inl s_j135.Bg)), (s_j135.aPr, .inl (cI, s_j135.nR, .inl s_j135.Pr)), (s_j135.aSg, .inl (cI, s_j135.nR, .inl s_j135.Sg)), (s_j135.aNf, .inl (cI, s_j135.nR, .inl s_j135.Nf)), (s_j135.aNl, .inl (cI, s_j135.nR, .inl s_j135.Nl)), (s_j135.aDg, .inl (cL, s_j135.nR, .inr (.inl s_j135.Dg))), (s_j135.aBh, .inl (cI, s_j135.nR, .inl s_j135.Bh)), (s_j135.aDe, .inl (cI, s_j135.nR, .inl s_j135.De)), (s_j135.aPc, .inl (cI, s_j135.nR, .inl s_j135.Pc)), (s_j135.aFi, .inl (cI, s_j135.nR, .inl s_j135.Fi)), (s_j135.aNu, .inl (cI, s_j135.nR, .inl s_j135.Nu)), (s_j135.aN, .inl (cB, s_j135.nN, .inl s_j135.nm))] H → va_D A [(oM, .inr (4, [.ref aKy, .int s_j135.th, .ref s_j135.aT, .int s_j135.fd, .int s_j135.fa, .int s_j135.pl, .int s_j135.at_, .int s_j135.kd, .int s_j135.fr, .int s_j135.ky, .int s_j135.op, .int s_j135.ct, .ref s_j135.aKd, .ref s_j135.aBg, .ref s_j135.aPr, .ref s_j135.aSg, .ref s_j135.aNf, .ref s_j135.aNl, .ref s_j135.aDg, .ref s_j135.aBh, .ref s_j135.aDe, .ref s_j135.aPc, .ref s_j135.aFi, .ref s_j135.aNu, .ref s_j135.aN, .int s_j135.nd])), (aKy, .inl (cS, 17, .inr (.inr (.inr (.inr (kyF adK)))))), (s_j135.aT, .inl (cB, s_j135.nT, .inl s_j135.tp)), (s_j135.aKd, .inl (cI, s_j135.nR, .inl s_j135.Kd)), (s_j135.aBg, .inl (cI, s_j135.nR, .inl s_j135.Bg)), (s_j135.aPr, .inl (cI, s_j135.nR, .inl s_j135.Pr)), (s_j135.aSg, .inl (cI, s_j135.nR, .inl s_j135.Sg)), (s_j135.aNf, .inl (cI, s_j135.nR, .inl s_j135.Nf)), (s_j135.aNl, .inl (cI, s_j135.nR, .inl s_j135.Nl)), (s_j135.aDg, .inl (cL, s_j135.nR, .inr (.inl s_j135.Dg))), (s_j135.aBh, .inl (cI, s_j135.nR, .inl s_j135.Bh)), (s_j135.aDe, .inl (cI, s_j135.nR, .inl s_j135.De)), (s_j135.aPc, .inl (cI, s_j135.nR, .inl s_j135.Pc)), (s_j135.aFi, .inl (cI, s_j135.nR, .inl s_j135.Fi)), (s_j135.aNu, .inl (cI, s_j135.nR, .inl s_j135.Nu)), (s_j135.aN, .inl (cB, s_j135.nN, .inl s_j135.nm))] → va_S A s.heap H locs → lv_has ls 4 [(0, .ref oM), (1, .int x1_j135), (2, .int x2_j135)] → W p l e (rmk 1 0 0) s m ar below meth c H locs (0) (0) QQ (F0 m 135 ls [.int y0_j135]) := by
    intro x1_j135 x2_j135 y0_j135 s_j135 H locs ls hv hP hD hS hl
    unfold vj_M_figures_135 at hv
    refine lv_istore_n (lv' := [(3, .int y0_j135), (0, .ref oM), (1, .int x1_j135), (2, .int x2_j135)]) hx hb d_M_figures_135 rfl hl (by decide) rfl (fun ls hl => ?_)
    refine lv_aload_n hx hb d_M_figures_136 rfl (lv_at hl 1 rfl) ?_
    refine lv_iload_n hx hb d_M_figures_137 rfl (lv_at hl 2 rfl) ?_
    refine lv_bipush (v := 9) hx hb d_M_figures_138 (by decide) ?_
    refine lv_icmp_gt (tgt := 153) hx hb d_M_figures_140 (by decide) (fun b_9 => ?_) (fun b_9 => ?_)
    · have hv := hv.1 b_9
      refine lv_iconst (v := 4) hx hb d_M_figures_153 (by decide) ?_
      refine lv_goto (tgt := 158) hx hb d_M_figures_154 (by decide) ?_
      refine va_put (D := dd) (ci := 4) (C := Rc_M) (T := Fc_M) (N := 26) (v := .int 4) (ty := .int) hx hb hts (inn in_M) tyf_M tyf_M_ok nmf_M hown hK hP hD hS 0 rfl rfl 7 (by decide) (hts (.fieldLink "NetTextModel" 132 "NetTextModel" "kind" "I") (tg at_773)) (fun _ h9 => h9) rfl (by decide +kernel) rfl rfl (Nat.le_of_ble_eq_true rfl) d_M_figures_158 (fun H locs hP hD hS => ?_)
      have hP : va_P dd cls5 [(oM, .inr (4, [.ref aKy, .int s_j135.th, .ref s_j135.aT, .int s_j135.fd, .int s_j135.fa, .int s_j135.pl, .int s_j135.at_, .int 4, .int s_j135.fr, .int s_j135.ky, .int s_j135.op, .int s_j135.ct, .ref s_j135.aKd, .ref s_j135.aBg, .ref s_j135.aPr, .ref s_j135.aSg, .ref s_j135.aNf, .ref s_j135.aNl, .ref s_j135.aDg, .ref s_j135.aBh, .ref s_j135.aDe, .ref s_j135.aPc, .ref s_j135.aFi, .ref s_j135.aNu, .ref s_j135.aN, .int s_j135.nd])), (aKy, .inl (cS, 17, .inr (.inr (.inr (.inr (kyF adK)))))), (s_j135.aT, .inl (cB, s_j135.nT, .inl s_j135.tp)), (s_j135.aKd, .inl (cI, s_j135.nR, .inl s_j135.Kd)), (s_j135.aBg, .inl (cI, s_j135.nR, .inl s_j135.Bg)), (s_j135.aPr, .inl (cI, s_j135.nR, .inl s_j135.Pr)), (s_j135.aSg, .inl (cI, s_j135.nR, .inl s_j135.Sg)), (s_j135.aNf, .inl (cI, s_j135.nR, .inl s_j135.Nf)), (s_j135.aNl, .inl (cI, s_j135.nR, .inl s_j135.Nl)), (s_j135.aDg, .inl (cL, s_j135.nR, .inr (.inl s_j135.Dg))), (s_j135.aBh, .inl (cI, s_j135.nR, .inl s_j135.Bh)), (s_j135.aDe, .inl (cI, s_j135.nR, .inl s_j135.De)), (s_j135.aPc, .inl (cI, s_j135.nR, .inl s_j135.Pc)), (s_j135.aFi, .inl (cI, s_j135.nR, .inl s_j135.Fi)), (s_j135.aNu, .inl (cI, s_j135.nR, .inl s_j135.Nu)), (s_j135.aN, .inl (cB, s_j135.nN, .inl s_j135.nm))] H := hP
      have hD : va_D A [(oM, .inr (4, [.ref aKy, .int s_j135.th, .ref s_j135.aT, .int s_j135.fd, .int s_j135.fa, .int s_j135.pl, .int s_j135.at_, .int 4, .int s_j135.fr, .int s_j135.ky, .int s_j135.op, .int s_j135.ct, .ref s_j135.aKd, .ref s_j135.aBg, .ref s_j135.aPr, .ref s_j135.aSg, .ref s_j135.aNf, .ref s_j135.aNl, .ref s_j135.aDg, .ref s_j135.aBh, .ref s_j135.aDe, .ref s_j135.aPc, .ref s_j135.aFi, .ref s_j135.aNu, .ref s_j135.aN, .int s_j135.nd])), (aKy, .inl (cS, 17, .inr (.inr (.inr (.inr (kyF adK)))))), (s_j135.aT, .inl (cB, s_j135.nT, .inl s_j135.tp)), (s_j135.aKd, .inl (cI, s_j135.nR, .inl s_j135.Kd)), (s_j135.aBg, .inl (cI, s_j135.nR, .inl s_j135.Bg)), (s_j135.aPr, .inl (cI, s_j135.nR, .inl s_j135.Pr)), (s_j135.aSg, .inl (cI, s_j135.nR, .inl s_j135.Sg)), (s_j135.aNf, .inl (cI, s_j135.nR, .inl s_j135.Nf)), (s_j135.aNl, .inl (cI, s_j135.nR, .inl s_j135.Nl)), (s_j135.aDg, .inl (cL, s_j135.nR, .inr (.inl s_j135.Dg))), (s_j135.aBh, .inl (cI, s_j135.nR, .inl s_j135.Bh)), (s_j135.aDe, .inl (cI, s_j135.nR, .inl s_j135.De)), (s_j135.aPc, .inl (cI, s_j135.nR, .inl s_j135.Pc)), (s_j135.aFi, .inl (cI, s_j135.nR, .inl s_j135.Fi)), (s_j135.aNu, .inl (cI, s_j135.nR, .inl s_j135.Nu)), (s_j135.aN, .inl (cB, s_j135.nN, .inl s_j135.nm))] := hD
      subst hQ
      exact r_v hx hb hr hlocks  (RS.w_kd s_j135 4) hv (hP.sub [0, 1, 2, 3, 4, 5, 6, 7, 8, 9, 10, 11, 12, 13, 14, 15] rfl) hK (hD.sub [0, 1, 2, 3, 4, 5, 6, 7, 8, 9, 10, 11, 12, 13, 14, 15] (by decide) rfl) hS (Nat.le_refl _) (Nat.le_refl _) d_M_figures_161
    · have hv := hv.2 b_9
      refine lv_iload_n hx hb d_M_figures_143 rfl (lv_at hl 3 rfl) ?_
      refine lv_bipush (v := 9) hx hb d_M_figures_144 (by decide) ?_
      refine lv_icmp_gt (tgt := 153) hx hb d_M_figures_146 (by decide) (fun b_10 => ?_) (fun b_10 => ?_)
      · have hv := hv.1 b_10
        refine lv_iconst (v := 4) hx hb d_M_figures_153 (by decide) ?_
        refine lv_goto (tgt := 158) hx hb d_M_figures_154 (by decide) ?_
        refine va_put (D := dd) (ci := 4) (C := Rc_M) (T := Fc_M) (N := 26) (v := .int 4) (ty := .int) hx hb hts (inn in_M) tyf_M tyf_M_ok nmf_M hown hK hP hD hS 0 rfl rfl 7 (by decide) (hts (.fieldLink "NetTextModel" 132 "NetTextModel" "kind" "I") (tg at_773)) (fun _ h9 => h9) rfl (by decide +kernel) rfl rfl (Nat.le_of_ble_eq_true rfl) d_M_figures_158 (fun H locs hP hD hS => ?_)
        have hP : va_P dd cls5 [(oM, .inr (4, [.ref aKy, .int s_j135.th, .ref s_j135.aT, .int s_j135.fd, .int s_j135.fa, .int s_j135.pl, .int s_j135.at_, .int 4, .int s_j135.fr, .int s_j135.ky, .int s_j135.op, .int s_j135.ct, .ref s_j135.aKd, .ref s_j135.aBg, .ref s_j135.aPr, .ref s_j135.aSg, .ref s_j135.aNf, .ref s_j135.aNl, .ref s_j135.aDg, .ref s_j135.aBh, .ref s_j135.aDe, .ref s_j135.aPc, .ref s_j135.aFi, .ref s_j135.aNu, .ref s_j135.aN, .int s_j135.nd])), (aKy, .inl (cS, 17, .inr (.inr (.inr (.inr (kyF adK)))))), (s_j135.aT, .inl (cB, s_j135.nT, .inl s_j135.tp)), (s_j135.aKd, .inl (cI, s_j135.nR, .inl s_j135.Kd)), (s_j135.aBg, .inl (cI, s_j135.nR, .inl s_j135.Bg)), (s_j135.aPr, .inl (cI, s_j135.nR, .inl s_j135.Pr)), (s_j135.aSg, .inl (cI, s_j135.nR, .inl s_j135.Sg)), (s_j135.aNf, .inl (cI, s_j135.nR, .inl s_j135.Nf)), (s_j135.aNl, .inl (cI, s_j135.nR, .inl s_j135.Nl)), (s_j135.aDg, .inl (cL, s_j135.nR, .inr (.inl s_j135.Dg))), (s_j135.aBh, .inl (cI, s_j135.nR, .inl s_j135.Bh)), (s_j135.aDe, .inl (cI, s_j135.nR, .inl s_j135.De)), (s_j135.aPc, .inl (cI, s_j135.nR, .inl s_j135.Pc)), (s_j135.aFi, .inl (cI, s_j135.nR, .inl s_j135.Fi)), (s_j135.aNu, .inl (cI, s_j135.nR, .inl s_j135.Nu)), (s_j135.aN, .inl (cB, s_j135.nN, .inl s_j135.nm))] H := hP
        have hD : va_D A [(oM, .inr (4, [.ref aKy, .int s_j135.th, .ref s_j135.aT, .int s_j135.fd, .int s_j135.fa, .int s_j135.pl, .int s_j135.at_, .int 4, .int s_j135.fr, .int s_j135.ky, .int s_j135.op, .int s_j135.ct, .ref s_j135.aKd, .ref s_j135.aBg, .ref s_j135.aPr, .ref s_j135.aSg, .ref s_j135.aNf, .ref s_j135.aNl, .ref s_j135.aDg, .ref s_j135.aBh, .ref s_j135.aDe, .ref s_j135.aPc, .ref s_j135.aFi, .ref s_j135.aNu, .ref s_j135.aN, .int s_j135.nd])), (aKy, .inl (cS, 17, .inr (.inr (.inr (.inr (kyF adK)))))), (s_j135.aT, .inl (cB, s_j135.nT, .inl s_j135.tp)), (s_j135.aKd, .inl (cI, s_j135.nR, .inl s_j135.Kd)), (s_j135.aBg, .inl (cI, s_j135.nR, .inl s_j135.Bg)), (s_j135.aPr, .inl (cI, s_j135.nR, .inl s_j135.Pr)), (s_j135.aSg, .inl (cI, s_j135.nR, .inl s_j135.Sg)), (s_j135.aNf, .inl (cI, s_j135.nR, .inl s_j135.Nf)), (s_j135.aNl, .inl (cI, s_j135.nR, .inl s_j135.Nl)), (s_j135.aDg, .inl (cL, s_j135.nR, .inr (.inl s_j135.Dg))), (s_j135.aBh, .inl (cI, s_j135.nR, .inl s_j135.Bh)), (s_j135.aDe, .inl (cI, s_j135.nR, .inl s_j135.De)), (s_j135.aPc, .inl (cI, s_j135.nR, .inl s_j135.Pc)), (s_j135.aFi, .inl (cI, s_j135.nR, .inl s_j135.Fi)), (s_j135.aNu, .inl (cI, s_j135.nR, .inl s_j135.Nu)), (s_j135.aN, .inl (cB, s_j135.nN, .inl s_j135.nm))] := hD
        subst hQ
        exact r_v hx hb hr hlocks  (RS.w_kd s_j135 4) hv (hP.sub [0, 1, 2, 3, 4, 5, 6, 7, 8, 9, 10, 11, 12, 13, 14, 15] rfl) hK (hD.sub [0, 1, 2, 3, 4, 5, 6, 7, 8, 9, 10, 11, 12, 13, 14, 15] (by decide) rfl) hS (Nat.le_refl _) (Nat.le_refl _) d_M_figures_161
      · have hv := hv.2 b_10
        refine lv_iload_n hx hb d_M_figures_149 rfl (lv_at hl 0 rfl) ?_
        refine lv_if_eq (tgt := 157) hx hb d_M_figures_150 (by decide) (fun b_11 => ?_) (fun b_11 => ?_)
        · have hv := hv.1 b_11
          refine lv_iconst (v := 2) hx hb d_M_figures_157 (by decide) ?_
          refine va_put (D := dd) (ci := 4) (C := Rc_M) (T := Fc_M) (N := 26) (v := .int 2) (ty := .int) hx hb hts (inn in_M) tyf_M tyf_M_ok nmf_M hown hK hP hD hS 0 rfl rfl 7 (by decide) (hts (.fieldLink "NetTextModel" 132 "NetTextModel" "kind" "I") (tg at_773)) (fun _ h9 => h9) rfl (by decide +kernel) rfl rfl (Nat.le_of_ble_eq_true rfl) d_M_figures_158 (fun H locs hP hD hS => ?_)
          have hP : va_P dd cls5 [(oM, .inr (4, [.ref aKy, .int s_j135.th, .ref s_j135.aT, .int s_j135.fd, .int s_j135.fa, .int s_j135.pl, .int s_j135.at_, .int 2, .int s_j135.fr, .int s_j135.ky, .int s_j135.op, .int s_j135.ct, .ref s_j135.aKd, .ref s_j135.aBg, .ref s_j135.aPr, .ref s_j135.aSg, .ref s_j135.aNf, .ref s_j135.aNl, .ref s_j135.aDg, .ref s_j135.aBh, .ref s_j135.aDe, .ref s_j135.aPc, .ref s_j135.aFi, .ref s_j135.aNu, .ref s_j135.aN, .int s_j135.nd])), (aKy, .inl (cS, 17, .inr (.inr (.inr (.inr (kyF adK)))))), (s_j135.aT, .inl (cB, s_j135.nT, .inl s_j135.tp)), (s_j135.aKd, .inl (cI, s_j135.nR, .inl s_j135.Kd)), (s_j135.aBg, .inl (cI, s_j135.nR, .inl s_j135.Bg)), (s_j135.aPr, .inl (cI, s_j135.nR, .inl s_j135.Pr)), (s_j135.aSg, .inl (cI, s_j135.nR, .inl s_j135.Sg)), (s_j135.aNf, .inl (cI, s_j135.nR, .inl s_j135.Nf)), (s_j135.aNl, .inl (cI, s_j135.nR, .inl s_j135.Nl)), (s_j135.aDg, .inl (cL, s_j135.nR, .inr (.inl s_j135.Dg))), (s_j135.aBh, .inl (cI, s_j135.nR, .inl s_j135.Bh)), (s_j135.aDe, .inl (cI, s_j135.nR, .inl s_j135.De)), (s_j135.aPc, .inl (cI, s_j135.nR, .inl s_j135.Pc)), (s_j135.aFi, .inl (cI, s_j135.nR, .inl s_j135.Fi)), (s_j135.aNu, .inl (cI, s_j135.nR, .inl s_j135.Nu)), (s_j135.aN, .inl (cB, s_j135.nN, .inl s_j135.nm))] H := hP
          have hD : va_D A [(oM, .inr (4, [.ref aKy, .int s_j135.th, .ref s_j135.aT, .int s_j135.fd, .int s_j135.fa, .int s_j135.pl, .int s_j135.at_, .int 2, .int s_j135.fr, .int s_j135.ky, .int s_j135.op, .int s_j135.ct, .ref s_j135.aKd, .ref s_j135.aBg, .ref s_j135.aPr, .ref s_j135.aSg, .ref s_j135.aNf, .ref s_j135.aNl, .ref s_j135.aDg, .ref s_j135.aBh, .ref s_j135.aDe, .ref s_j135.aPc, .ref s_j135.aFi, .ref s_j135.aNu, .ref s_j135.aN, .int s_j135.nd])), (aKy, .inl (cS, 17, .inr (.inr (.inr (.inr (kyF adK)))))), (s_j135.aT, .inl (cB, s_j135.nT, .inl s_j135.tp)), (s_j135.aKd, .inl (cI, s_j135.nR, .inl s_j135.Kd)), (s_j135.aBg, .inl (cI, s_j135.nR, .inl s_j135.Bg)), (s_j135.aPr, .inl (cI, s_j135.nR, .inl s_j135.Pr)), (s_j135.aSg, .inl (cI, s_j135.nR, .inl s_j135.Sg)), (s_j135.aNf, .inl (cI, s_j135.nR, .inl s_j135.Nf)), (s_j135.aNl, .inl (cI, s_j135.nR, .inl s_j135.Nl)), (s_j135.aDg, .inl (cL, s_j135.nR, .inr (.inl s_j135.Dg))), (s_j135.aBh, .inl (cI, s_j135.nR, .inl s_j135.Bh)), (s_j135.aDe, .inl (cI, s_j135.nR, .inl s_j135.De)), (s_j135.aPc, .inl (cI, s_j135.nR, .inl s_j135.Pc)), (s_j135.aFi, .inl (cI, s_j135.nR, .inl s_j135.Fi)), (s_j135.aNu, .inl (cI, s_j135.nR, .inl s_j135.Nu)), (s_j135.aN, .inl (cB, s_j135.nN, .inl s_j135.nm))] := hD
          subst hQ
          exact r_v hx hb hr hlocks  (RS.w_kd s_j135 2) hv (hP.sub [0, 1, 2, 3, 4, 5, 6, 7, 8, 9, 10, 11, 12, 13, 14, 15] rfl) hK (hD.sub [0, 1, 2, 3, 4, 5, 6, 7, 8, 9, 10, 11, 12, 13, 14, 15] (by decide) rfl) hS (Nat.le_refl _) (Nat.le_refl _) d_M_figures_161
        · have hv := hv.2 b_11
          refine lv_iconst (v := 4) hx hb d_M_figures_153 (by decide) ?_
          refine lv_goto (tgt := 158) hx hb d_M_figures_154 (by decide) ?_
          refine va_put (D := dd) (ci := 4) (C := Rc_M) (T := Fc_M) (N := 26) (v := .int 4) (ty := .int) hx hb hts (inn in_M) tyf_M tyf_M_ok nmf_M hown hK hP hD hS 0 rfl rfl 7 (by decide) (hts (.fieldLink "NetTextModel" 132 "NetTextModel" "kind" "I") (tg at_773)) (fun _ h9 => h9) rfl (by decide +kernel) rfl rfl (Nat.le_of_ble_eq_true rfl) d_M_figures_158 (fun H locs hP hD hS => ?_)
          have hP : va_P dd cls5 [(oM, .inr (4, [.ref aKy, .int s_j135.th, .ref s_j135.aT, .int s_j135.fd, .int s_j135.fa, .int s_j135.pl, .int s_j135.at_, .int 4, .int s_j135.fr, .int s_j135.ky, .int s_j135.op, .int s_j135.ct, .ref s_j135.aKd, .ref s_j135.aBg, .ref s_j135.aPr, .ref s_j135.aSg, .ref s_j135.aNf, .ref s_j135.aNl, .ref s_j135.aDg, .ref s_j135.aBh, .ref s_j135.aDe, .ref s_j135.aPc, .ref s_j135.aFi, .ref s_j135.aNu, .ref s_j135.aN, .int s_j135.nd])), (aKy, .inl (cS, 17, .inr (.inr (.inr (.inr (kyF adK)))))), (s_j135.aT, .inl (cB, s_j135.nT, .inl s_j135.tp)), (s_j135.aKd, .inl (cI, s_j135.nR, .inl s_j135.Kd)), (s_j135.aBg, .inl (cI, s_j135.nR, .inl s_j135.Bg)), (s_j135.aPr, .inl (cI, s_j135.nR, .inl s_j135.Pr)), (s_j135.aSg, .inl (cI, s_j135.nR, .inl s_j135.Sg)), (s_j135.aNf, .inl (cI, s_j135.nR, .inl s_j135.Nf)), (s_j135.aNl, .inl (cI, s_j135.nR, .inl s_j135.Nl)), (s_j135.aDg, .inl (cL, s_j135.nR, .inr (.inl s_j135.Dg))), (s_j135.aBh, .inl (cI, s_j135.nR, .inl s_j135.Bh)), (s_j135.aDe, .inl (cI, s_j135.nR, .inl s_j135.De)), (s_j135.aPc, .inl (cI, s_j135.nR, .inl s_j135.Pc)), (s_j135.aFi, .inl (cI, s_j135.nR, .inl s_j135.Fi)), (s_j135.aNu, .inl (cI, s_j135.nR, .inl s_j135.Nu)), (s_j135.aN, .inl (cB, s_j135.nN, .inl s_j135.nm))] H := hP
          have hD : va_D A [(oM, .inr (4, [.ref aKy, .int s_j135.th, .ref s_j135.aT, .int s_j135.fd, .int s_j135.fa, .int s_j135.pl, .int s_j135.at_, .int 4, .int s_j135.fr, .int s_j135.ky, .int s_j135.op, .int s_j135.ct, .ref s_j135.aKd, .ref s_j135.aBg, .ref s_j135.aPr, .ref s_j135.aSg, .ref s_j135.aNf, .ref s_j135.aNl, .ref s_j135.aDg, .ref s_j135.aBh, .ref s_j135.aDe, .ref s_j135.aPc, .ref s_j135.aFi, .ref s_j135.aNu, .ref s_j135.aN, .int s_j135.nd])), (aKy, .inl (cS, 17, .inr (.inr (.inr (.inr (kyF adK)))))), (s_j135.aT, .inl (cB, s_j135.nT, .inl s_j135.tp)), (s_j135.aKd, .inl (cI, s_j135.nR, .inl s_j135.Kd)), (s_j135.aBg, .inl (cI, s_j135.nR, .inl s_j135.Bg)), (s_j135.aPr, .inl (cI, s_j135.nR, .inl s_j135.Pr)), (s_j135.aSg, .inl (cI, s_j135.nR, .inl s_j135.Sg)), (s_j135.aNf, .inl (cI, s_j135.nR, .inl s_j135.Nf)), (s_j135.aNl, .inl (cI, s_j135.nR, .inl s_j135.Nl)), (s_j135.aDg, .inl (cL, s_j135.nR, .inr (.inl s_j135.Dg))), (s_j135.aBh, .inl (cI, s_j135.nR, .inl s_j135.Bh)), (s_j135.aDe, .inl (cI, s_j135.nR, .inl s_j135.De)), (s_j135.aPc, .inl (cI, s_j135.nR, .inl s_j135.Pc)), (s_j135.aFi, .inl (cI, s_j135.nR, .inl s_j135.Fi)), (s_j135.aNu, .inl (cI, s_j135.nR, .inl s_j135.Nu)), (s_j135.aN, .inl (cB, s_j135.nN, .inl s_j135.nm))] := hD
          subst hQ
          exact r_v hx hb hr hlocks  (RS.w_kd s_j135 4) hv (hP.sub [0, 1, 2, 3, 4, 5, 6, 7, 8, 9, 10, 11, 12, 13, 14, 15] rfl) hK (hD.sub [0, 1, 2, 3, 4, 5, 6, 7, 8, 9, 10, 11, 12, 13, 14, 15] (by decide) rfl) hS (Nat.le_refl _) (Nat.le_refl _) d_M_figures_161
  have JP_130 : ∀ (x1_j130 : Int32) (x2_j130 : Int32) (s_j130 : RS) (H : Heap) (locs : List Loc) (ls : Array Slot), vj_M_figures_130 K_ x1_j130 x2_j130 s_j130 → va_P dd cls5 [(oM, .inr (4, [.ref aKy, .int s_j130.th, .ref s_j130.aT, .int s_j130.fd, .int s_j130.fa, .int s_j130.pl, .int s_j130.at_, .int s_j130.kd, .int s_j130.fr, .int s_j130.ky, .int s_j130.op, .int s_j130.ct, .ref s_j130.aKd, .ref s_j130.aBg, .ref s_j130.aPr, .ref s_j130.aSg, .ref s_j130.aNf, .ref s_j130.aNl, .ref s_j130.aDg, .ref s_j130.aBh, .ref s_j130.aDe, .ref s_j130.aPc, .ref s_j130.aFi, .ref s_j130.aNu, .ref s_j130.aN, .int s_j130.nd])), (aKy, .inl (cS, 17, .inr (.inr (.inr (.inr (kyF adK)))))), (s_j130.aT, .inl (cB, s_j130.nT, .inl s_j130.tp)), (s_j130.aKd, .inl (cI, s_j130.nR, .inl s_j130.Kd)), (s_j130.aBg, .inl (cI, s_j130.nR, .inl s_j130.Bg)), (s_j130.aPr, .inl (cI, s_j130.nR, .inl s_j130.Pr)), (s_j130.aSg, .inl (cI, s_j130.nR, .inl s_j130.Sg)), (s_j130.aNf, .inl (cI, s_j130.nR, .inl s_j130.Nf)), (s_j130.aNl, .inl (cI, s_j130.nR, .inl s_j130.Nl)), (s_j130.aDg, .inl (cL, s_j130.nR, .inr (.inl s_j130.Dg))), (s_j130.aBh, .inl (cI, s_j130.nR, .inl s_j130.Bh)), (s_j130.aDe, .inl (cI, s_j130.nR, .inl s_j130.De)), (s_j130.aPc, .inl (cI, s_j130.nR, .inl s_j130.Pc)), (s_j130.aFi, .inl (cI, s_j130.nR, .inl s_j130.Fi)), (s_j130.aNu, .inl (cI, s_j130.nR, .inl s_j130.Nu)), (s_j130.aN, .inl (cB, s_j130.nN, .inl s_j130.nm))] H → va_D A [(oM, .inr (4, [.ref aKy, .int s_j130.th, .ref s_j130.aT, .int s_j130.fd, .int s_j130.fa, .int s_j130.pl, .int s_j130.at_, .int s_j130.kd, .int s_j130.fr, .int s_j130.ky, .int s_j130.op, .int s_j130.ct, .ref s_j130.aKd, .ref s_j130.aBg, .ref s_j130.aPr, .ref s_j130.aSg, .ref s_j130.aNf, .ref s_j130.aNl, .ref s_j130.aDg, .ref s_j130.aBh, .ref s_j130.aDe, .ref s_j130.aPc, .ref s_j130.aFi, .ref s_j130.aNu, .ref s_j130.aN, .int s_j130.nd])), (aKy, .inl (cS, 17, .inr (.inr (.inr (.inr (kyF adK)))))), (s_j130.aT, .inl (cB, s_j130.nT, .inl s_j130.tp)), (s_j130.aKd, .inl (cI, s_j130.nR, .inl s_j130.Kd)), (s_j130.aBg, .inl (cI, s_j130.nR, .inl s_j130.Bg)), (s_j130.aPr, .inl (cI, s_j130.nR, .inl s_j130.Pr)), (s_j130.aSg, .inl (cI, s_j130.nR, .inl s_j130.Sg)), (s_j130.aNf, .inl (cI, s_j130.nR, .inl s_j130.Nf)), (s_j130.aNl, .inl (cI, s_j130.nR, .inl s_j130.Nl)), (s_j130.aDg, .inl (cL, s_j130.nR, .inr (.inl s_j130.Dg))), (s_j130.aBh, .inl (cI, s_j130.nR, .inl s_j130.Bh)), (s_j130.aDe, .inl (cI, s_j130.nR, .inl s_j130.De)), (s_j130.aPc, .inl (cI, s_j130.nR, .inl s_j130.Pc)), (s_j130.aFi, .inl (cI, s_j130.nR, .inl s_j130.Fi)), (s_j130.aNu, .inl (cI, s_j130.nR, .inl s_j130.Nu)), (s_j130.aN, .inl (cB, s_j130.nN, .inl s_j130.nm))] → va_S A s.heap H locs → lv_has ls 4 [(0, .ref oM), (1, .int x1_j130), (2, .int x2_j130)] → W p l e (rmk 1 0 0) s m ar below meth c H locs (0) (0) QQ (F0 m 130 ls []) := by
    intro x1_j130 x2_j130 s_j130 H locs ls hv hP hD hS hl
    unfold vj_M_figures_130 at hv
    refine lv_iconst (v := 1) hx hb d_M_figures_130 (by decide) ?_
    refine lv_goto (tgt := 135) hx hb d_M_figures_131 (by decide) ?_
    exact JP_135 x1_j130 x2_j130 1 s_j130 _ _ _ hv (hP.sub [0, 1, 2, 3, 4, 5, 6, 7, 8, 9, 10, 11, 12, 13, 14, 15] rfl) (hD.sub [0, 1, 2, 3, 4, 5, 6, 7, 8, 9, 10, 11, 12, 13, 14, 15] (by decide) rfl) hS (lv_sub hl [0, 1, 2] rfl)
  have JP_103 : ∀ (x1_j103 : Int32) (x2_j103 : Int32) (s_j103 : RS) (H : Heap) (locs : List Loc) (ls : Array Slot), vj_M_figures_103 K_ x1_j103 x2_j103 s_j103 → va_P dd cls5 [(oM, .inr (4, [.ref aKy, .int s_j103.th, .ref s_j103.aT, .int s_j103.fd, .int s_j103.fa, .int s_j103.pl, .int s_j103.at_, .int s_j103.kd, .int s_j103.fr, .int s_j103.ky, .int s_j103.op, .int s_j103.ct, .ref s_j103.aKd, .ref s_j103.aBg, .ref s_j103.aPr, .ref s_j103.aSg, .ref s_j103.aNf, .ref s_j103.aNl, .ref s_j103.aDg, .ref s_j103.aBh, .ref s_j103.aDe, .ref s_j103.aPc, .ref s_j103.aFi, .ref s_j103.aNu, .ref s_j103.aN, .int s_j103.nd])), (aKy, .inl (cS, 17, .inr (.inr (.inr (.inr (kyF adK)))))), (s_j103.aT, .inl (cB, s_j103.nT, .inl s_j103.tp)), (s_j103.aKd, .inl (cI, s_j103.nR, .inl s_j103.Kd)), (s_j103.aBg, .inl (cI, s_j103.nR, .inl s_j103.Bg)), (s_j103.aPr, .inl (cI, s_j103.nR, .inl s_j103.Pr)), (s_j103.aSg, .inl (cI, s_j103.nR, .inl s_j103.Sg)), (s_j103.aNf, .inl (cI, s_j103.nR, .inl s_j103.Nf)), (s_j103.aNl, .inl (cI, s_j103.nR, .inl s_j103.Nl)), (s_j103.aDg, .inl (cL, s_j103.nR, .inr (.inl s_j103.Dg))), (s_j103.aBh, .inl (cI, s_j103.nR, .inl s_j103.Bh)), (s_j103.aDe, .inl (cI, s_j103.nR, .inl s_j103.De)), (s_j103.aPc, .inl (cI, s_j103.nR, .inl s_j103.Pc)), (s_j103.aFi, .inl (cI, s_j103.nR, .inl s_j103.Fi)), (s_j103.aNu, .inl (cI, s_j103.nR, .inl s_j103.Nu)), (s_j103.aN, .inl (cB, s_j103.nN, .inl s_j103.nm))] H → va_D A [(oM, .inr (4, [.ref aKy, .int s_j103.th, .ref s_j103.aT, .int s_j103.fd, .int s_j103.fa, .int s_j103.pl, .int s_j103.at_, .int s_j103.kd, .int s_j103.fr, .int s_j103.ky, .int s_j103.op, .int s_j103.ct, .ref s_j103.aKd, .ref s_j103.aBg, .ref s_j103.aPr, .ref s_j103.aSg, .ref s_j103.aNf, .ref s_j103.aNl, .ref s_j103.aDg, .ref s_j103.aBh, .ref s_j103.aDe, .ref s_j103.aPc, .ref s_j103.aFi, .ref s_j103.aNu, .ref s_j103.aN, .int s_j103.nd])), (aKy, .inl (cS, 17, .inr (.inr (.inr (.inr (kyF adK)))))), (s_j103.aT, .inl (cB, s_j103.nT, .inl s_j103.tp)), (s_j103.aKd, .inl (cI, s_j103.nR, .inl s_j103.Kd)), (s_j103.aBg, .inl (cI, s_j103.nR, .inl s_j103.Bg)), (s_j103.aPr, .inl (cI, s_j103.nR, .inl s_j103.Pr)), (s_j103.aSg, .inl (cI, s_j103.nR, .inl s_j103.Sg)), (s_j103.aNf, .inl (cI, s_j103.nR, .inl s_j103.Nf)), (s_j103.aNl, .inl (cI, s_j103.nR, .inl s_j103.Nl)), (s_j103.aDg, .inl (cL, s_j103.nR, .inr (.inl s_j103.Dg))), (s_j103.aBh, .inl (cI, s_j103.nR, .inl s_j103.Bh)), (s_j103.aDe, .inl (cI, s_j103.nR, .inl s_j103.De)), (s_j103.aPc, .inl (cI, s_j103.nR, .inl s_j103.Pc)), (s_j103.aFi, .inl (cI, s_j103.nR, .inl s_j103.Fi)), (s_j103.aNu, .inl (cI, s_j103.nR, .inl s_j103.Nu)), (s_j103.aN, .inl (cB, s_j103.nN, .inl s_j103.nm))] → va_S A s.heap H locs → lv_has ls 4 [(0, .ref oM), (1, .int x1_j103), (2, .int x2_j103)] → W p l e (rmk 1 0 0) s m ar below meth c H locs (0) (0) QQ (F0 m 103 ls []) := by
    intro x1_j103 x2_j103 s_j103 H locs ls hv hP hD hS hl
    unfold vj_M_figures_103 at hv
    refine lv_aload_n hx hb d_M_figures_103 rfl (lv_at hl 0 rfl) ?_
    refine lv_aload_n hx hb d_M_figures_104 rfl (lv_at hl 0 rfl) ?_
    refine va_get (D := dd) (ci := 4) (C := Rc_M) (T := Fc_M) (N := 26) (v := .int s_j103.at_) hx hb hts (inn in_M) hown hK hP 0 rfl rfl 6 (by decide) (hts (.fieldLink "NetTextModel" 111 "NetTextModel" "at" "I") (tg at_772)) (fun _ h9 => h9) rfl d_M_figures_105 ?_
    have hM := met_M_byteAt (l := l) (dd := dd) (cB := cB) (cI := cI) (cL := cL) (cS := cS) (adK := adK) (adV := adV) (oM := oM) (aKy := aKy)  hv
    refine krv_i (st := [.int s_j103.at_, .ref oM]) (rest := []) ⟨hx, hb, hml, hown, hts⟩ hM (cwV 1 hts (gv (tg0 at_877) (tg0 at_879) (tg0 ap_53) (tg0 at_5) (tg0 at_880)) rfl rfl rfl (by decide +kernel) (rk (by omega) (by decide))) xfb (xfr hX hS) hP hK [0, 2] rfl (ci := 4) rfl rfl (q0 := 0) rfl rfl hl.1 rfl (Nat.le_of_ble_eq_true rfl) d_M_figures_108 ⟨Nat.zero_le _, Nat.zero_le _⟩ (fun r_6 hv => ?_)
    have hM := met_M_isLetter (l := l) (dd := dd) (cB := cB) (cI := cI) (cL := cL) (cS := cS)   hv
    refine krs_i (st := [.int r_6]) (rest := []) ⟨hx, hb, hml, hown, hts⟩ hM (cwS 1 hts (gs (tg0 at_881) (tg0 at_882) (tg0 at_5) (tg0 at_883)) rfl rfl rfl (by decide +kernel) (rk (by omega) (by decide))) x0b (fun _ _ _ => trivial) hP hK [] rfl rfl hl.1 rfl (Nat.le_of_ble_eq_true rfl) d_M_figures_111 ⟨Nat.zero_le _, Nat.zero_le _⟩ (fun r_7 hv => ?_)
    refine lv_if_ne (tgt := 130) hx hb d_M_figures_114 (by decide) (fun b_8 => ?_) (fun b_8 => ?_)
    · have hv := hv.1 b_8
      exact JP_130 x1_j103 x2_j103 s_j103 _ _ _ hv (hP.sub [0, 1, 2, 3, 4, 5, 6, 7, 8, 9, 10, 11, 12, 13, 14, 15] rfl) (hD.sub [0, 1, 2, 3, 4, 5, 6, 7, 8, 9, 10, 11, 12, 13, 14, 15] (by decide) rfl) hS (lv_sub hl [0, 1, 2] rfl)
    · have hv := hv.2 b_8
      refine lv_aload_n hx hb d_M_figures_117 rfl (lv_at hl 0 rfl) ?_
      refine lv_aload_n hx hb d_M_figures_118 rfl (lv_at hl 0 rfl) ?_
      refine va_get (D := dd) (ci := 4) (C := Rc_M) (T := Fc_M) (N := 26) (v := .int s_j103.at_) hx hb hts (inn in_M) hown hK hP 0 rfl rfl 6 (by decide) (hts (.fieldLink "NetTextModel" 111 "NetTextModel" "at" "I") (tg at_772)) (fun _ h9 => h9) rfl d_M_figures_119 ?_
      have hM := met_M_byteAt (l := l) (dd := dd) (cB := cB) (cI := cI) (cL := cL) (cS := cS) (adK := adK) (adV := adV) (oM := oM) (aKy := aKy)  hv
      refine krv_i (st := [.int s_j103.at_, .ref oM]) (rest := []) ⟨hx, hb, hml, hown, hts⟩ hM (cwV 1 hts (gv (tg0 at_877) (tg0 at_879) (tg0 ap_53) (tg0 at_5) (tg0 at_880)) rfl rfl rfl (by decide +kernel) (rk (by omega) (by decide))) xfb (xfr hX hS) hP hK [0, 2] rfl (ci := 4) rfl rfl (q0 := 0) rfl rfl hl.1 rfl (Nat.le_of_ble_eq_true rfl) d_M_figures_122 ⟨Nat.zero_le _, Nat.zero_le _⟩ (fun r_12 hv => ?_)
      refine lv_bipush (v := 46) hx hb d_M_figures_125 (by decide) ?_
      refine lv_icmp_ne (tgt := 134) hx hb d_M_figures_127 (by decide) (fun b_13 => ?_) (fun b_13 => ?_)
      · have hv := hv.1 b_13
        refine lv_iconst (v := 0) hx hb d_M_figures_134 (by decide) ?_
        exact JP_135 x1_j103 x2_j103 0 s_j103 _ _ _ hv (hP.sub [0, 1, 2, 3, 4, 5, 6, 7, 8, 9, 10, 11, 12, 13, 14, 15] rfl) (hD.sub [0, 1, 2, 3, 4, 5, 6, 7, 8, 9, 10, 11, 12, 13, 14, 15] (by decide) rfl) hS (lv_sub hl [0, 1, 2] rfl)
      · have hv := hv.2 b_13
        exact JP_130 x1_j103 x2_j103 s_j103 _ _ _ hv (hP.sub [0, 1, 2, 3, 4, 5, 6, 7, 8, 9, 10, 11, 12, 13, 14, 15] rfl) (hD.sub [0, 1, 2, 3, 4, 5, 6, 7, 8, 9, 10, 11, 12, 13, 14, 15] (by decide) rfl) hS (lv_sub hl [0, 1, 2] rfl)
  have JP_73 : ∀ (n_73 : Nat) (x1_h73 : Int32) (x2_h73 : Int32) (s_h73 : RS) (H : Heap) (locs : List Loc) (ls : Array Slot), vl_M_figures_73 K_ n_73 x1_h73 x2_h73 s_h73 → va_P dd cls5 [(oM, .inr (4, [.ref aKy, .int s_h73.th, .ref s_h73.aT, .int s_h73.fd, .int s_h73.fa, .int s_h73.pl, .int s_h73.at_, .int s_h73.kd, .int s_h73.fr, .int s_h73.ky, .int s_h73.op, .int s_h73.ct, .ref s_h73.aKd, .ref s_h73.aBg, .ref s_h73.aPr, .ref s_h73.aSg, .ref s_h73.aNf, .ref s_h73.aNl, .ref s_h73.aDg, .ref s_h73.aBh, .ref s_h73.aDe, .ref s_h73.aPc, .ref s_h73.aFi, .ref s_h73.aNu, .ref s_h73.aN, .int s_h73.nd])), (aKy, .inl (cS, 17, .inr (.inr (.inr (.inr (kyF adK)))))), (s_h73.aT, .inl (cB, s_h73.nT, .inl s_h73.tp)), (s_h73.aKd, .inl (cI, s_h73.nR, .inl s_h73.Kd)), (s_h73.aBg, .inl (cI, s_h73.nR, .inl s_h73.Bg)), (s_h73.aPr, .inl (cI, s_h73.nR, .inl s_h73.Pr)), (s_h73.aSg, .inl (cI, s_h73.nR, .inl s_h73.Sg)), (s_h73.aNf, .inl (cI, s_h73.nR, .inl s_h73.Nf)), (s_h73.aNl, .inl (cI, s_h73.nR, .inl s_h73.Nl)), (s_h73.aDg, .inl (cL, s_h73.nR, .inr (.inl s_h73.Dg))), (s_h73.aBh, .inl (cI, s_h73.nR, .inl s_h73.Bh)), (s_h73.aDe, .inl (cI, s_h73.nR, .inl s_h73.De)), (s_h73.aPc, .inl (cI, s_h73.nR, .inl s_h73.Pc)), (s_h73.aFi, .inl (cI, s_h73.nR, .inl s_h73.Fi)), (s_h73.aNu, .inl (cI, s_h73.nR, .inl s_h73.Nu)), (s_h73.aN, .inl (cB, s_h73.nN, .inl s_h73.nm))] H → va_D A [(oM, .inr (4, [.ref aKy, .int s_h73.th, .ref s_h73.aT, .int s_h73.fd, .int s_h73.fa, .int s_h73.pl, .int s_h73.at_, .int s_h73.kd, .int s_h73.fr, .int s_h73.ky, .int s_h73.op, .int s_h73.ct, .ref s_h73.aKd, .ref s_h73.aBg, .ref s_h73.aPr, .ref s_h73.aSg, .ref s_h73.aNf, .ref s_h73.aNl, .ref s_h73.aDg, .ref s_h73.aBh, .ref s_h73.aDe, .ref s_h73.aPc, .ref s_h73.aFi, .ref s_h73.aNu, .ref s_h73.aN, .int s_h73.nd])), (aKy, .inl (cS, 17, .inr (.inr (.inr (.inr (kyF adK)))))), (s_h73.aT, .inl (cB, s_h73.nT, .inl s_h73.tp)), (s_h73.aKd, .inl (cI, s_h73.nR, .inl s_h73.Kd)), (s_h73.aBg, .inl (cI, s_h73.nR, .inl s_h73.Bg)), (s_h73.aPr, .inl (cI, s_h73.nR, .inl s_h73.Pr)), (s_h73.aSg, .inl (cI, s_h73.nR, .inl s_h73.Sg)), (s_h73.aNf, .inl (cI, s_h73.nR, .inl s_h73.Nf)), (s_h73.aNl, .inl (cI, s_h73.nR, .inl s_h73.Nl)), (s_h73.aDg, .inl (cL, s_h73.nR, .inr (.inl s_h73.Dg))), (s_h73.aBh, .inl (cI, s_h73.nR, .inl s_h73.Bh)), (s_h73.aDe, .inl (cI, s_h73.nR, .inl s_h73.De)), (s_h73.aPc, .inl (cI, s_h73.nR, .inl s_h73.Pc)), (s_h73.aFi, .inl (cI, s_h73.nR, .inl s_h73.Fi)), (s_h73.aNu, .inl (cI, s_h73.nR, .inl s_h73.Nu)), (s_h73.aN, .inl (cB, s_h73.nN, .inl s_h73.nm))] → va_S A s.heap H locs → lv_has ls 4 [(0, .ref oM), (1, .int x1_h73), (2, .int x2_h73)] → W p l e (rmk 1 0 0) s m ar below meth c H locs (0) (0) QQ (F0 m 73 ls []) := by
    intro n_73
    induction n_73 with
    | zero => intro x1_h73 x2_h73 s_h73 H locs ls hv; exact False.elim hv
    | succ n_73 ih_73 =>
      intro x1_h73 x2_h73 s_h73 H locs ls hv hP hD hS hl
      unfold vl_M_figures_73 at hv
      refine lv_aload_n hx hb d_M_figures_73 rfl (lv_at hl 0 rfl) ?_
      refine lv_aload_n hx hb d_M_figures_74 rfl (lv_at hl 0 rfl) ?_
      refine va_get (D := dd) (ci := 4) (C := Rc_M) (T := Fc_M) (N := 26) (v := .int s_h73.at_) hx hb hts (inn in_M) hown hK hP 0 rfl rfl 6 (by decide) (hts (.fieldLink "NetTextModel" 111 "NetTextModel" "at" "I") (tg at_772)) (fun _ h9 => h9) rfl d_M_figures_75 ?_
      have hM := met_M_byteAt (l := l) (dd := dd) (cB := cB) (cI := cI) (cL := cL) (cS := cS) (adK := adK) (adV := adV) (oM := oM) (aKy := aKy)  hv
      refine krv_i (st := [.int s_h73.at_, .ref oM]) (rest := []) ⟨hx, hb, hml, hown, hts⟩ hM (cwV 1 hts (gv (tg0 at_877) (tg0 at_879) (tg0 ap_53) (tg0 at_5) (tg0 at_880)) rfl rfl rfl (by decide +kernel) (rk (by omega) (by decide))) xfb (xfr hX hS) hP hK [0, 2] rfl (ci := 4) rfl rfl (q0 := 0) rfl rfl hl.1 rfl (Nat.le_of_ble_eq_true rfl) d_M_figures_78 ⟨Nat.zero_le _, Nat.zero_le _⟩ (fun r_20 hv => ?_)
      have hM := met_M_isDigit (l := l) (dd := dd) (cB := cB) (cI := cI) (cL := cL) (cS := cS)   hv
      refine krs_i (st := [.int r_20]) (rest := []) ⟨hx, hb, hml, hown, hts⟩ hM (cwS 1 hts (gs (tg0 at_884) (tg0 at_885) (tg0 at_5) (tg0 at_886)) rfl rfl rfl (by decide +kernel) (rk (by omega) (by decide))) x0b (fun _ _ _ => trivial) hP hK [] rfl rfl hl.1 rfl (Nat.le_of_ble_eq_true rfl) d_M_figures_81 ⟨Nat.zero_le _, Nat.zero_le _⟩ (fun r_21 hv => ?_)
      refine lv_if_eq (tgt := 103) hx hb d_M_figures_84 (by decide) (fun b_22 => ?_) (fun b_22 => ?_)
      · have hv := hv.1 b_22
        exact JP_103 x1_h73 x2_h73 s_h73 _ _ _ hv (hP.sub [0, 1, 2, 3, 4, 5, 6, 7, 8, 9, 10, 11, 12, 13, 14, 15] rfl) (hD.sub [0, 1, 2, 3, 4, 5, 6, 7, 8, 9, 10, 11, 12, 13, 14, 15] (by decide) rfl) hS (lv_sub hl [0, 1, 2] rfl)
      · have hv := hv.2 b_22
        refine lv_aload_n hx hb d_M_figures_87 rfl (lv_at hl 0 rfl) ?_
        refine lv_dup hx hb d_M_figures_88 rfl ?_
        refine va_get (D := dd) (ci := 4) (C := Rc_M) (T := Fc_M) (N := 26) (v := .int s_h73.at_) hx hb hts (inn in_M) hown hK hP 0 rfl rfl 6 (by decide) (hts (.fieldLink "NetTextModel" 111 "NetTextModel" "at" "I") (tg at_772)) (fun _ h9 => h9) rfl d_M_figures_89 ?_
        refine lv_iconst (v := 1) hx hb d_M_figures_92 (by decide) ?_
        refine lv_iadd hx hb d_M_figures_93 ?_
        refine va_put (D := dd) (ci := 4) (C := Rc_M) (T := Fc_M) (N := 26) (v := .int (s_h73.at_ + 1)) (ty := .int) hx hb hts (inn in_M) tyf_M tyf_M_ok nmf_M hown hK hP hD hS 0 rfl rfl 6 (by decide) (hts (.fieldLink "NetTextModel" 111 "NetTextModel" "at" "I") (tg at_772)) (fun _ h9 => h9) rfl (by decide +kernel) rfl rfl (Nat.le_of_ble_eq_true rfl) d_M_figures_94 (fun H locs hP hD hS => ?_)
        have hP : va_P dd cls5 [(oM, .inr (4, [.ref aKy, .int s_h73.th, .ref s_h73.aT, .int s_h73.fd, .int s_h73.fa, .int s_h73.pl, .int (s_h73.at_ + 1), .int s_h73.kd, .int s_h73.fr, .int s_h73.ky, .int s_h73.op, .int s_h73.ct, .ref s_h73.aKd, .ref s_h73.aBg, .ref s_h73.aPr, .ref s_h73.aSg, .ref s_h73.aNf, .ref s_h73.aNl, .ref s_h73.aDg, .ref s_h73.aBh, .ref s_h73.aDe, .ref s_h73.aPc, .ref s_h73.aFi, .ref s_h73.aNu, .ref s_h73.aN, .int s_h73.nd])), (aKy, .inl (cS, 17, .inr (.inr (.inr (.inr (kyF adK)))))), (s_h73.aT, .inl (cB, s_h73.nT, .inl s_h73.tp)), (s_h73.aKd, .inl (cI, s_h73.nR, .inl s_h73.Kd)), (s_h73.aBg, .inl (cI, s_h73.nR, .inl s_h73.Bg)), (s_h73.aPr, .inl (cI, s_h73.nR, .inl s_h73.Pr)), (s_h73.aSg, .inl (cI, s_h73.nR, .inl s_h73.Sg)), (s_h73.aNf, .inl (cI, s_h73.nR, .inl s_h73.Nf)), (s_h73.aNl, .inl (cI, s_h73.nR, .inl s_h73.Nl)), (s_h73.aDg, .inl (cL, s_h73.nR, .inr (.inl s_h73.Dg))), (s_h73.aBh, .inl (cI, s_h73.nR, .inl s_h73.Bh)), (s_h73.aDe, .inl (cI, s_h73.nR, .inl s_h73.De)), (s_h73.aPc, .inl (cI, s_h73.nR, .inl s_h73.Pc)), (s_h73.aFi, .inl (cI, s_h73.nR, .inl s_h73.Fi)), (s_h73.aNu, .inl (cI, s_h73.nR, .inl s_h73.Nu)), (s_h73.aN, .inl (cB, s_h73.nN, .inl s_h73.nm))] H := hP
        have hD : va_D A [(oM, .inr (4, [.ref aKy, .int s_h73.th, .ref s_h73.aT, .int s_h73.fd, .int s_h73.fa, .int s_h73.pl, .int (s_h73.at_ + 1), .int s_h73.kd, .int s_h73.fr, .int s_h73.ky, .int s_h73.op, .int s_h73.ct, .ref s_h73.aKd, .ref s_h73.aBg, .ref s_h73.aPr, .ref s_h73.aSg, .ref s_h73.aNf, .ref s_h73.aNl, .ref s_h73.aDg, .ref s_h73.aBh, .ref s_h73.aDe, .ref s_h73.aPc, .ref s_h73.aFi, .ref s_h73.aNu, .ref s_h73.aN, .int s_h73.nd])), (aKy, .inl (cS, 17, .inr (.inr (.inr (.inr (kyF adK)))))), (s_h73.aT, .inl (cB, s_h73.nT, .inl s_h73.tp)), (s_h73.aKd, .inl (cI, s_h73.nR, .inl s_h73.Kd)), (s_h73.aBg, .inl (cI, s_h73.nR, .inl s_h73.Bg)), (s_h73.aPr, .inl (cI, s_h73.nR, .inl s_h73.Pr)), (s_h73.aSg, .inl (cI, s_h73.nR, .inl s_h73.Sg)), (s_h73.aNf, .inl (cI, s_h73.nR, .inl s_h73.Nf)), (s_h73.aNl, .inl (cI, s_h73.nR, .inl s_h73.Nl)), (s_h73.aDg, .inl (cL, s_h73.nR, .inr (.inl s_h73.Dg))), (s_h73.aBh, .inl (cI, s_h73.nR, .inl s_h73.Bh)), (s_h73.aDe, .inl (cI, s_h73.nR, .inl s_h73.De)), (s_h73.aPc, .inl (cI, s_h73.nR, .inl s_h73.Pc)), (s_h73.aFi, .inl (cI, s_h73.nR, .inl s_h73.Fi)), (s_h73.aNu, .inl (cI, s_h73.nR, .inl s_h73.Nu)), (s_h73.aN, .inl (cB, s_h73.nN, .inl s_h73.nm))] := hD
        refine lv_iinc (v := (x2_h73 + 1)) (lv' := [(2, .int (x2_h73 + 1)), (0, .ref oM), (1, .int x1_h73)]) hx hb d_M_figures_97 hl (k := 2) rfl rfl (by decide) rfl (fun ls hl => ?_)
        refine lv_goto (tgt := 73) hx hb d_M_figures_100 (by decide) ?_
        exact ih_73 x1_h73 (x2_h73 + 1) (RS.w_at_ s_h73 (s_h73.at_ + 1)) _ _ _ hv (hP.sub [0, 1, 2, 3, 4, 5, 6, 7, 8, 9, 10, 11, 12, 13, 14, 15] rfl) (hD.sub [0, 1, 2, 3, 4, 5, 6, 7, 8, 9, 10, 11, 12, 13, 14, 15] (by decide) rfl) hS (lv_sub hl [1, 2, 0] rfl)
  have JP_4 : ∀ (n_4 : Nat) (x1_h4 : Int32) (x2_h4 : Int32) (s_h4 : RS) (H : Heap) (locs : List Loc) (ls : Array Slot), vl_M_figures_4 K_ n_4 x1_h4 x2_h4 s_h4 → va_P dd cls5 [(oM, .inr (4, [.ref aKy, .int s_h4.th, .ref s_h4.aT, .int s_h4.fd, .int s_h4.fa, .int s_h4.pl, .int s_h4.at_, .int s_h4.kd, .int s_h4.fr, .int s_h4.ky, .int s_h4.op, .int s_h4.ct, .ref s_h4.aKd, .ref s_h4.aBg, .ref s_h4.aPr, .ref s_h4.aSg, .ref s_h4.aNf, .ref s_h4.aNl, .ref s_h4.aDg, .ref s_h4.aBh, .ref s_h4.aDe, .ref s_h4.aPc, .ref s_h4.aFi, .ref s_h4.aNu, .ref s_h4.aN, .int s_h4.nd])), (aKy, .inl (cS, 17, .inr (.inr (.inr (.inr (kyF adK)))))), (s_h4.aT, .inl (cB, s_h4.nT, .inl s_h4.tp)), (s_h4.aKd, .inl (cI, s_h4.nR, .inl s_h4.Kd)), (s_h4.aBg, .inl (cI, s_h4.nR, .inl s_h4.Bg)), (s_h4.aPr, .inl (cI, s_h4.nR, .inl s_h4.Pr)), (s_h4.aSg, .inl (cI, s_h4.nR, .inl s_h4.Sg)), (s_h4.aNf, .inl (cI, s_h4.nR, .inl s_h4.Nf)), (s_h4.aNl, .inl (cI, s_h4.nR, .inl s_h4.Nl)), (s_h4.aDg, .inl (cL, s_h4.nR, .inr (.inl s_h4.Dg))), (s_h4.aBh, .inl (cI, s_h4.nR, .inl s_h4.Bh)), (s_h4.aDe, .inl (cI, s_h4.nR, .inl s_h4.De)), (s_h4.aPc, .inl (cI, s_h4.nR, .inl s_h4.Pc)), (s_h4.aFi, .inl (cI, s_h4.nR, .inl s_h4.Fi)), (s_h4.aNu, .inl (cI, s_h4.nR, .inl s_h4.Nu)), (s_h4.aN, .inl (cB, s_h4.nN, .inl s_h4.nm))] H → va_D A [(oM, .inr (4, [.ref aKy, .int s_h4.th, .ref s_h4.aT, .int s_h4.fd, .int s_h4.fa, .int s_h4.pl, .int s_h4.at_, .int s_h4.kd, .int s_h4.fr, .int s_h4.ky, .int s_h4.op, .int s_h4.ct, .ref s_h4.aKd, .ref s_h4.aBg, .ref s_h4.aPr, .ref s_h4.aSg, .ref s_h4.aNf, .ref s_h4.aNl, .ref s_h4.aDg, .ref s_h4.aBh, .ref s_h4.aDe, .ref s_h4.aPc, .ref s_h4.aFi, .ref s_h4.aNu, .ref s_h4.aN, .int s_h4.nd])), (aKy, .inl (cS, 17, .inr (.inr (.inr (.inr (kyF adK)))))), (s_h4.aT, .inl (cB, s_h4.nT, .inl s_h4.tp)), (s_h4.aKd, .inl (cI, s_h4.nR, .inl s_h4.Kd)), (s_h4.aBg, .inl (cI, s_h4.nR, .inl s_h4.Bg)), (s_h4.aPr, .inl (cI, s_h4.nR, .inl s_h4.Pr)), (s_h4.aSg, .inl (cI, s_h4.nR, .inl s_h4.Sg)), (s_h4.aNf, .inl (cI, s_h4.nR, .inl s_h4.Nf)), (s_h4.aNl, .inl (cI, s_h4.nR, .inl s_h4.Nl)), (s_h4.aDg, .inl (cL, s_h4.nR, .inr (.inl s_h4.Dg))), (s_h4.aBh, .inl (cI, s_h4.nR, .inl s_h4.Bh)), (s_h4.aDe, .inl (cI, s_h4.nR, .inl s_h4.De)), (s_h4.aPc, .inl (cI, s_h4.nR, .inl s_h4.Pc)), (s_h4.aFi, .inl (cI, s_h4.nR, .inl s_h4.Fi)), (s_h4.aNu, .inl (cI, s_h4.nR, .inl s_h4.Nu)), (s_h4.aN, .inl (cB, s_h4.nN, .inl s_h4.nm))] → va_S A s.heap H locs → lv_has ls 4 [(0, .ref oM), (1, .int x1_h4), (2, .int x2_h4)] → W p l e (rmk 1 0 0) s m ar below meth c H locs (0) (0) QQ (F0 m 4 ls []) := by
    intro n_4
    induction n_4 with
    | zero => intro x1_h4 x2_h4 s_h4 H locs ls hv; exact False.elim hv
    | succ n_4 ih_4 =>
      intro x1_h4 x2_h4 s_h4 H locs ls hv hP hD hS hl
      unfold vl_M_figures_4 at hv
      refine lv_aload_n hx hb d_M_figures_4 rfl (lv_at hl 0 rfl) ?_
      refine lv_aload_n hx hb d_M_figures_5 rfl (lv_at hl 0 rfl) ?_
      refine va_get (D := dd) (ci := 4) (C := Rc_M) (T := Fc_M) (N := 26) (v := .int s_h4.at_) hx hb hts (inn in_M) hown hK hP 0 rfl rfl 6 (by decide) (hts (.fieldLink "NetTextModel" 111 "NetTextModel" "at" "I") (tg at_772)) (fun _ h9 => h9) rfl d_M_figures_6 ?_
      have hM := met_M_byteAt (l := l) (dd := dd) (cB := cB) (cI := cI) (cL := cL) (cS := cS) (adK := adK) (adV := adV) (oM := oM) (aKy := aKy)  hv
      refine krv_i (st := [.int s_h4.at_, .ref oM]) (rest := []) ⟨hx, hb, hml, hown, hts⟩ hM (cwV 1 hts (gv (tg0 at_877) (tg0 at_879) (tg0 ap_53) (tg0 at_5) (tg0 at_880)) rfl rfl rfl (by decide +kernel) (rk (by omega) (by decide))) xfb (xfr hX hS) hP hK [0, 2] rfl (ci := 4) rfl rfl (q0 := 0) rfl rfl hl.1 rfl (Nat.le_of_ble_eq_true rfl) d_M_figures_9 ⟨Nat.zero_le _, Nat.zero_le _⟩ (fun r_1 hv => ?_)
      have hM := met_M_isDigit (l := l) (dd := dd) (cB := cB) (cI := cI) (cL := cL) (cS := cS)   hv
      refine krs_i (st := [.int r_1]) (rest := []) ⟨hx, hb, hml, hown, hts⟩ hM (cwS 1 hts (gs (tg0 at_884) (tg0 at_885) (tg0 at_5) (tg0 at_886)) rfl rfl rfl (by decide +kernel) (rk (by omega) (by decide))) x0b (fun _ _ _ => trivial) hP hK [] rfl rfl hl.1 rfl (Nat.le_of_ble_eq_true rfl) d_M_figures_12 ⟨Nat.zero_le _, Nat.zero_le _⟩ (fun r_2 hv => ?_)
      refine lv_if_eq (tgt := 34) hx hb d_M_figures_15 (by decide) (fun b_3 => ?_) (fun b_3 => ?_)
      · have hv := hv.1 b_3
        refine lv_aload_n hx hb d_M_figures_34 rfl (lv_at hl 0 rfl) ?_
        refine lv_aload_n hx hb d_M_figures_35 rfl (lv_at hl 0 rfl) ?_
        refine va_get (D := dd) (ci := 4) (C := Rc_M) (T := Fc_M) (N := 26) (v := .int s_h4.at_) hx hb hts (inn in_M) hown hK hP 0 rfl rfl 6 (by decide) (hts (.fieldLink "NetTextModel" 111 "NetTextModel" "at" "I") (tg at_772)) (fun _ h9 => h9) rfl d_M_figures_36 ?_
        have hM := met_M_byteAt (l := l) (dd := dd) (cB := cB) (cI := cI) (cL := cL) (cS := cS) (adK := adK) (adV := adV) (oM := oM) (aKy := aKy)  hv
        refine krv_i (st := [.int s_h4.at_, .ref oM]) (rest := []) ⟨hx, hb, hml, hown, hts⟩ hM (cwV 1 hts (gv (tg0 at_877) (tg0 at_879) (tg0 ap_53) (tg0 at_5) (tg0 at_880)) rfl rfl rfl (by decide +kernel) (rk (by omega) (by decide))) xfb (xfr hX hS) hP hK [0, 2] rfl (ci := 4) rfl rfl (q0 := 0) rfl rfl hl.1 rfl (Nat.le_of_ble_eq_true rfl) d_M_figures_39 ⟨Nat.zero_le _, Nat.zero_le _⟩ (fun r_4 hv => ?_)
        refine lv_bipush (v := 46) hx hb d_M_figures_42 (by decide) ?_
        refine lv_icmp_ne (tgt := 103) hx hb d_M_figures_44 (by decide) (fun b_5 => ?_) (fun b_5 => ?_)
        · have hv := hv.1 b_5
          exact JP_103 x1_h4 x2_h4 s_h4 _ _ _ hv (hP.sub [0, 1, 2, 3, 4, 5, 6, 7, 8, 9, 10, 11, 12, 13, 14, 15] rfl) (hD.sub [0, 1, 2, 3, 4, 5, 6, 7, 8, 9, 10, 11, 12, 13, 14, 15] (by decide) rfl) hS (lv_sub hl [0, 1, 2] rfl)
        · have hv := hv.2 b_5
          refine lv_aload_n hx hb d_M_figures_47 rfl (lv_at hl 0 rfl) ?_
          refine lv_aload_n hx hb d_M_figures_48 rfl (lv_at hl 0 rfl) ?_
          refine va_get (D := dd) (ci := 4) (C := Rc_M) (T := Fc_M) (N := 26) (v := .int s_h4.at_) hx hb hts (inn in_M) hown hK hP 0 rfl rfl 6 (by decide) (hts (.fieldLink "NetTextModel" 111 "NetTextModel" "at" "I") (tg at_772)) (fun _ h9 => h9) rfl d_M_figures_49 ?_
          refine lv_iconst (v := 1) hx hb d_M_figures_52 (by decide) ?_
          refine lv_iadd hx hb d_M_figures_53 ?_
          have hM := met_M_byteAt (l := l) (dd := dd) (cB := cB) (cI := cI) (cL := cL) (cS := cS) (adK := adK) (adV := adV) (oM := oM) (aKy := aKy)  hv
          refine krv_i (st := [.int (s_h4.at_ + 1), .ref oM]) (rest := []) ⟨hx, hb, hml, hown, hts⟩ hM (cwV 1 hts (gv (tg0 at_877) (tg0 at_879) (tg0 ap_53) (tg0 at_5) (tg0 at_880)) rfl rfl rfl (by decide +kernel) (rk (by omega) (by decide))) xfb (xfr hX hS) hP hK [0, 2] rfl (ci := 4) rfl rfl (q0 := 0) rfl rfl hl.1 rfl (Nat.le_of_ble_eq_true rfl) d_M_figures_54 ⟨Nat.zero_le _, Nat.zero_le _⟩ (fun r_17 hv => ?_)
          have hM := met_M_isDigit (l := l) (dd := dd) (cB := cB) (cI := cI) (cL := cL) (cS := cS)   hv
          refine krs_i (st := [.int r_17]) (rest := []) ⟨hx, hb, hml, hown, hts⟩ hM (cwS 1 hts (gs (tg0 at_884) (tg0 at_885) (tg0 at_5) (tg0 at_886)) rfl rfl rfl (by decide +kernel) (rk (by omega) (by decide))) x0b (fun _ _ _ => trivial) hP hK [] rfl rfl hl.1 rfl (Nat.le_of_ble_eq_true rfl) d_M_figures_57 ⟨Nat.zero_le _, Nat.zero_le _⟩ (fun r_18 hv => ?_)
          refine lv_if_eq (tgt := 103) hx hb d_M_figures_60 (by decide) (fun b_19 => ?_) (fun b_19 => ?_)
          · have hv := hv.1 b_19
            exact JP_103 x1_h4 x2_h4 s_h4 _ _ _ hv (hP.sub [0, 1, 2, 3, 4, 5, 6, 7, 8, 9, 10, 11, 12, 13, 14, 15] rfl) (hD.sub [0, 1, 2, 3, 4, 5, 6, 7, 8, 9, 10, 11, 12, 13, 14, 15] (by decide) rfl) hS (lv_sub hl [0, 1, 2] rfl)
          · have hv := hv.2 b_19
            refine lv_aload_n hx hb d_M_figures_63 rfl (lv_at hl 0 rfl) ?_
            refine lv_dup hx hb d_M_figures_64 rfl ?_
            refine va_get (D := dd) (ci := 4) (C := Rc_M) (T := Fc_M) (N := 26) (v := .int s_h4.at_) hx hb hts (inn in_M) hown hK hP 0 rfl rfl 6 (by decide) (hts (.fieldLink "NetTextModel" 111 "NetTextModel" "at" "I") (tg at_772)) (fun _ h9 => h9) rfl d_M_figures_65 ?_
            refine lv_iconst (v := 1) hx hb d_M_figures_68 (by decide) ?_
            refine lv_iadd hx hb d_M_figures_69 ?_
            refine va_put (D := dd) (ci := 4) (C := Rc_M) (T := Fc_M) (N := 26) (v := .int (s_h4.at_ + 1)) (ty := .int) hx hb hts (inn in_M) tyf_M tyf_M_ok nmf_M hown hK hP hD hS 0 rfl rfl 6 (by decide) (hts (.fieldLink "NetTextModel" 111 "NetTextModel" "at" "I") (tg at_772)) (fun _ h9 => h9) rfl (by decide +kernel) rfl rfl (Nat.le_of_ble_eq_true rfl) d_M_figures_70 (fun H locs hP hD hS => ?_)
            have hP : va_P dd cls5 [(oM, .inr (4, [.ref aKy, .int s_h4.th, .ref s_h4.aT, .int s_h4.fd, .int s_h4.fa, .int s_h4.pl, .int (s_h4.at_ + 1), .int s_h4.kd, .int s_h4.fr, .int s_h4.ky, .int s_h4.op, .int s_h4.ct, .ref s_h4.aKd, .ref s_h4.aBg, .ref s_h4.aPr, .ref s_h4.aSg, .ref s_h4.aNf, .ref s_h4.aNl, .ref s_h4.aDg, .ref s_h4.aBh, .ref s_h4.aDe, .ref s_h4.aPc, .ref s_h4.aFi, .ref s_h4.aNu, .ref s_h4.aN, .int s_h4.nd])), (aKy, .inl (cS, 17, .inr (.inr (.inr (.inr (kyF adK)))))), (s_h4.aT, .inl (cB, s_h4.nT, .inl s_h4.tp)), (s_h4.aKd, .inl (cI, s_h4.nR, .inl s_h4.Kd)), (s_h4.aBg, .inl (cI, s_h4.nR, .inl s_h4.Bg)), (s_h4.aPr, .inl (cI, s_h4.nR, .inl s_h4.Pr)), (s_h4.aSg, .inl (cI, s_h4.nR, .inl s_h4.Sg)), (s_h4.aNf, .inl (cI, s_h4.nR, .inl s_h4.Nf)), (s_h4.aNl, .inl (cI, s_h4.nR, .inl s_h4.Nl)), (s_h4.aDg, .inl (cL, s_h4.nR, .inr (.inl s_h4.Dg))), (s_h4.aBh, .inl (cI, s_h4.nR, .inl s_h4.Bh)), (s_h4.aDe, .inl (cI, s_h4.nR, .inl s_h4.De)), (s_h4.aPc, .inl (cI, s_h4.nR, .inl s_h4.Pc)), (s_h4.aFi, .inl (cI, s_h4.nR, .inl s_h4.Fi)), (s_h4.aNu, .inl (cI, s_h4.nR, .inl s_h4.Nu)), (s_h4.aN, .inl (cB, s_h4.nN, .inl s_h4.nm))] H := hP
            have hD : va_D A [(oM, .inr (4, [.ref aKy, .int s_h4.th, .ref s_h4.aT, .int s_h4.fd, .int s_h4.fa, .int s_h4.pl, .int (s_h4.at_ + 1), .int s_h4.kd, .int s_h4.fr, .int s_h4.ky, .int s_h4.op, .int s_h4.ct, .ref s_h4.aKd, .ref s_h4.aBg, .ref s_h4.aPr, .ref s_h4.aSg, .ref s_h4.aNf, .ref s_h4.aNl, .ref s_h4.aDg, .ref s_h4.aBh, .ref s_h4.aDe, .ref s_h4.aPc, .ref s_h4.aFi, .ref s_h4.aNu, .ref s_h4.aN, .int s_h4.nd])), (aKy, .inl (cS, 17, .inr (.inr (.inr (.inr (kyF adK)))))), (s_h4.aT, .inl (cB, s_h4.nT, .inl s_h4.tp)), (s_h4.aKd, .inl (cI, s_h4.nR, .inl s_h4.Kd)), (s_h4.aBg, .inl (cI, s_h4.nR, .inl s_h4.Bg)), (s_h4.aPr, .inl (cI, s_h4.nR, .inl s_h4.Pr)), (s_h4.aSg, .inl (cI, s_h4.nR, .inl s_h4.Sg)), (s_h4.aNf, .inl (cI, s_h4.nR, .inl s_h4.Nf)), (s_h4.aNl, .inl (cI, s_h4.nR, .inl s_h4.Nl)), (s_h4.aDg, .inl (cL, s_h4.nR, .inr (.inl s_h4.Dg))), (s_h4.aBh, .inl (cI, s_h4.nR, .inl s_h4.Bh)), (s_h4.aDe, .inl (cI, s_h4.nR, .inl s_h4.De)), (s_h4.aPc, .inl (cI, s_h4.nR, .inl s_h4.Pc)), (s_h4.aFi, .inl (cI, s_h4.nR, .inl s_h4.Fi)), (s_h4.aNu, .inl (cI, s_h4.nR, .inl s_h4.Nu)), (s_h4.aN, .inl (cB, s_h4.nN, .inl s_h4.nm))] := hD
            obtain ⟨n_25, hv⟩ := hv
            exact JP_73 n_25 x1_h4 x2_h4 (RS.w_at_ s_h4 (s_h4.at_ + 1)) _ _ _ hv (hP.sub [0, 1, 2, 3, 4, 5, 6, 7, 8, 9, 10, 11, 12, 13, 14, 15] rfl) (hD.sub [0, 1, 2, 3, 4, 5, 6, 7, 8, 9, 10, 11, 12, 13, 14, 15] (by decide) rfl) hS (lv_sub hl [0, 1, 2] rfl)
      · have hv := hv.2 b_3
        refine lv_aload_n hx hb d_M_figures_18 rfl (lv_at hl 0 rfl) ?_
        refine lv_dup hx hb d_M_figures_19 rfl ?_
        refine va_get (D := dd) (ci := 4) (C := Rc_M) (T := Fc_M) (N := 26) (v := .int s_h4.at_) hx hb hts (inn in_M) hown hK hP 0 rfl rfl 6 (by decide) (hts (.fieldLink "NetTextModel" 111 "NetTextModel" "at" "I") (tg at_772)) (fun _ h9 => h9) rfl d_M_figures_20 ?_
        refine lv_iconst (v := 1) hx hb d_M_figures_23 (by decide) ?_
        refine lv_iadd hx hb d_M_figures_24 ?_
        refine va_put (D := dd) (ci := 4) (C := Rc_M) (T := Fc_M) (N := 26) (v := .int (s_h4.at_ + 1)) (ty := .int) hx hb hts (inn in_M) tyf_M tyf_M_ok nmf_M hown hK hP hD hS 0 rfl rfl 6 (by decide) (hts (.fieldLink "NetTextModel" 111 "NetTextModel" "at" "I") (tg at_772)) (fun _ h9 => h9) rfl (by decide +kernel) rfl rfl (Nat.le_of_ble_eq_true rfl) d_M_figures_25 (fun H locs hP hD hS => ?_)
        have hP : va_P dd cls5 [(oM, .inr (4, [.ref aKy, .int s_h4.th, .ref s_h4.aT, .int s_h4.fd, .int s_h4.fa, .int s_h4.pl, .int (s_h4.at_ + 1), .int s_h4.kd, .int s_h4.fr, .int s_h4.ky, .int s_h4.op, .int s_h4.ct, .ref s_h4.aKd, .ref s_h4.aBg, .ref s_h4.aPr, .ref s_h4.aSg, .ref s_h4.aNf, .ref s_h4.aNl, .ref s_h4.aDg, .ref s_h4.aBh, .ref s_h4.aDe, .ref s_h4.aPc, .ref s_h4.aFi, .ref s_h4.aNu, .ref s_h4.aN, .int s_h4.nd])), (aKy, .inl (cS, 17, .inr (.inr (.inr (.inr (kyF adK)))))), (s_h4.aT, .inl (cB, s_h4.nT, .inl s_h4.tp)), (s_h4.aKd, .inl (cI, s_h4.nR, .inl s_h4.Kd)), (s_h4.aBg, .inl (cI, s_h4.nR, .inl s_h4.Bg)), (s_h4.aPr, .inl (cI, s_h4.nR, .inl s_h4.Pr)), (s_h4.aSg, .inl (cI, s_h4.nR, .inl s_h4.Sg)), (s_h4.aNf, .inl (cI, s_h4.nR, .inl s_h4.Nf)), (s_h4.aNl, .inl (cI, s_h4.nR, .inl s_h4.Nl)), (s_h4.aDg, .inl (cL, s_h4.nR, .inr (.inl s_h4.Dg))), (s_h4.aBh, .inl (cI, s_h4.nR, .inl s_h4.Bh)), (s_h4.aDe, .inl (cI, s_h4.nR, .inl s_h4.De)), (s_h4.aPc, .inl (cI, s_h4.nR, .inl s_h4.Pc)), (s_h4.aFi, .inl (cI, s_h4.nR, .inl s_h4.Fi)), (s_h4.aNu, .inl (cI, s_h4.nR, .inl s_h4.Nu)), (s_h4.aN, .inl (cB, s_h4.nN, .inl s_h4.nm))] H := hP
        have hD : va_D A [(oM, .inr (4, [.ref aKy, .int s_h4.th, .ref s_h4.aT, .int s_h4.fd, .int s_h4.fa, .int s_h4.pl, .int (s_h4.at_ + 1), .int s_h4.kd, .int s_h4.fr, .int s_h4.ky, .int s_h4.op, .int s_h4.ct, .ref s_h4.aKd, .ref s_h4.aBg, .ref s_h4.aPr, .ref s_h4.aSg, .ref s_h4.aNf, .ref s_h4.aNl, .ref s_h4.aDg, .ref s_h4.aBh, .ref s_h4.aDe, .ref s_h4.aPc, .ref s_h4.aFi, .ref s_h4.aNu, .ref s_h4.aN, .int s_h4.nd])), (aKy, .inl (cS, 17, .inr (.inr (.inr (.inr (kyF adK)))))), (s_h4.aT, .inl (cB, s_h4.nT, .inl s_h4.tp)), (s_h4.aKd, .inl (cI, s_h4.nR, .inl s_h4.Kd)), (s_h4.aBg, .inl (cI, s_h4.nR, .inl s_h4.Bg)), (s_h4.aPr, .inl (cI, s_h4.nR, .inl s_h4.Pr)), (s_h4.aSg, .inl (cI, s_h4.nR, .inl s_h4.Sg)), (s_h4.aNf, .inl (cI, s_h4.nR, .inl s_h4.Nf)), (s_h4.aNl, .inl (cI, s_h4.nR, .inl s_h4.Nl)), (s_h4.aDg, .inl (cL, s_h4.nR, .inr (.inl s_h4.Dg))), (s_h4.aBh, .inl (cI, s_h4.nR, .inl s_h4.Bh)), (s_h4.aDe, .inl (cI, s_h4.nR, .inl s_h4.De)), (s_h4.aPc, .inl (cI, s_h4.nR, .inl s_h4.Pc)), (s_h4.aFi, .inl (cI, s_h4.nR, .inl s_h4.Fi)), (s_h4.aNu, .inl (cI, s_h4.nR, .inl s_h4.Nu)), (s_h4.aN, .inl (cB, s_h4.nN, .inl s_h4.nm))] := hD
        refine lv_iinc (v := (x1_h4 + 1)) (lv' := [(1, .int (x1_h4 + 1)), (0, .ref oM), (2, .int x2_h4)]) hx hb d_M_figures_28 hl (k := 1) rfl rfl (by decide) rfl (fun ls hl => ?_)
        refine lv_goto (tgt := 4) hx hb d_M_figures_31 (by decide) ?_
        exact ih_4 (x1_h4 + 1) x2_h4 (RS.w_at_ s_h4 (s_h4.at_ + 1)) _ _ _ hv (hP.sub [0, 1, 2, 3, 4, 5, 6, 7, 8, 9, 10, 11, 12, 13, 14, 15] rfl) (hD.sub [0, 1, 2, 3, 4, 5, 6, 7, 8, 9, 10, 11, 12, 13, 14, 15] (by decide) rfl) hS (lv_sub hl [1, 0, 2] rfl)
  refine lv_iconst (v := 0) hx hb d_M_figures_0 (by decide) ?_
  refine lv_istore_n (lv' := [(1, .int 0), (0, .ref oM)]) hx hb d_M_figures_1 rfl hl (by decide) rfl (fun ls hl => ?_)
  refine lv_iconst (v := 0) hx hb d_M_figures_2 (by decide) ?_
  refine lv_istore_n (lv' := [(2, .int 0), (1, .int 0), (0, .ref oM)]) hx hb d_M_figures_3 rfl hl (by decide) rfl (fun ls hl => ?_)
  obtain ⟨n_31, hv⟩ := hv
  exact JP_4 n_31 0 0 zs _ _ _ hv (hP.sub [0, 1, 2, 3, 4, 5, 6, 7, 8, 9, 10, 11, 12, 13, 14, 15] rfl) (hD.sub [0, 1, 2, 3, 4, 5, 6, 7, 8, 9, 10, 11, 12, 13, 14, 15] (by decide) rfl) hS (lv_sub hl [2, 1, 0] rfl)
def vj_M_next_83  (L_55 : RS → Prop) (K_ : RS → Prop) (s_j83 : RS) : Prop :=
  (L_55 (RS.w_at_ s_j83 (s_j83.at_ + 1)))
def vj_M_next_153  (L_121 : Int32 → RS → Prop) (K_ : RS → Prop) (x2_j153 : Int32) (s_j153 : RS) : Prop :=
  (L_121 (x2_j153 + 1) s_j153)
def vl_M_next_121  (K_ : RS → Prop) : Nat → Int32 → RS → Prop
  | 0 => fun _ _ => False
  | n_ + 1 => fun x2_h121 s_h121 =>
  (((nI 17) ≤ x2_h121 → (K_ s_h121)) ∧ (¬ (nI 17) ≤ x2_h121 → (vp_in x2_h121 17 ∧ (vc_M_isSpelled s_h121 (22 + x2_h121.toNatClampNeg) (fun r_24 => ((r_24 = 0 → (vj_M_next_153 (vl_M_next_121 K_ n_) K_ x2_h121 s_h121)) ∧ (¬ r_24 = 0 → (vj_M_next_153 (vl_M_next_121 K_ n_) K_ x2_h121 (RS.w_ky (RS.w_kd s_h121 5) x2_h121)))))))))
def vj_M_next_116  (K_ : RS → Prop) (y0_j116 : Int32) (s_j116 : RS) : Prop :=
  (∃ n_, vl_M_next_121 K_ n_ 0 (RS.w_kd s_j116 y0_j116))
def vl_M_next_55  (K_ : RS → Prop) : Nat → RS → Prop
  | 0 => fun _ => False
  | n_ + 1 => fun s_h55 =>
  (vc_M_byteAt s_h55 s_h55.at_ (fun r_14 => (vc_M_isLetter r_14 (fun r_15 => ((¬ r_15 = 0 → (vj_M_next_83 (vl_M_next_55 K_ n_) K_ s_h55)) ∧ (r_15 = 0 → (vc_M_byteAt s_h55 s_h55.at_ (fun r_17 => (vc_M_isDigit r_17 (fun r_18 => ((r_18 = 0 → (((s_h55.at_ - s_h55.fr) ≤ 40 → (vj_M_next_116 K_ 1 s_h55)) ∧ (¬ (s_h55.at_ - s_h55.fr) ≤ 40 → (vj_M_next_116 K_ 4 s_h55)))) ∧ (¬ r_18 = 0 → (vj_M_next_83 (vl_M_next_55 K_ n_) K_ s_h55)))))))))))))
def vc_M_next  (zs : RS)  (K_ : RS → Prop) : Prop :=
  (vc_M_behindBlanks zs zs.at_ (fun r_1 => (vc_M_byteAt (RS.w_fr (RS.w_at_ zs r_1) r_1) r_1 (fun r_2 => ((r_1 < zs.fd → (vc_M_isLetter r_2 (fun r_4 => ((r_4 = 0 → (vc_M_isDigit r_2 (fun r_6 => ((r_6 = 0 → (∀ r_8 : Int32, (0 ≤ r_8 ↔ ((r_2.toUInt32 % 65536).toInt32) ∈ bytS.getD 39 []) → ((r_8 < 0 → (K_ (RS.w_fr (RS.w_kd (RS.w_at_ zs (r_1 + 1)) 4) r_1))) ∧ (¬ r_8 < 0 → (K_ (RS.w_fr (RS.w_kd (RS.w_at_ zs (r_1 + 1)) 3) r_1)))))) ∧ (¬ r_6 = 0 → (vc_M_figures (RS.w_fr (RS.w_at_ zs r_1) r_1) (fun zs_11 => (K_ zs_11)))))))) ∧ (¬ r_4 = 0 → (∃ n_, vl_M_next_55 K_ n_ (RS.w_fr (RS.w_at_ zs r_1) r_1))))))) ∧ (¬ r_1 < zs.fd → (K_ (RS.w_fr (RS.w_kd (RS.w_at_ zs r_1) 0) r_1))))))))
set_option maxHeartbeats 4000000 in
set_option maxRecDepth 100000 in
theorem met_M_next {l : Launch} {dd : va_G} {cB cI cL cS : ClassId} {adK adV : Nat → Nat} {oM : Nat} {aKy : Nat}  {zs : RS}  {K_ : RS → Prop}  (hv : vc_M_next  zs  K_) : Ct l y_M_next w_M_next (rmk 7 0 0) dd cls5 [(cB, .byte), (cI, .int), (cL, .long), (cS, .object "java/lang/String")] (XF adK adV) [(oM, .inr (4, [.ref aKy, .int zs.th, .ref zs.aT, .int zs.fd, .int zs.fa, .int zs.pl, .int zs.at_, .int zs.kd, .int zs.fr, .int zs.ky, .int zs.op, .int zs.ct, .ref zs.aKd, .ref zs.aBg, .ref zs.aPr, .ref zs.aSg, .ref zs.aNf, .ref zs.aNl, .ref zs.aDg, .ref zs.aBh, .ref zs.aDe, .ref zs.aPc, .ref zs.aFi, .ref zs.aNu, .ref zs.aN, .int zs.nd])), (aKy, .inl (cS, 17, .inr (.inr (.inr (.inr (kyF adK)))))), (zs.aT, .inl (cB, zs.nT, .inl zs.tp)), (zs.aKd, .inl (cI, zs.nR, .inl zs.Kd)), (zs.aBg, .inl (cI, zs.nR, .inl zs.Bg)), (zs.aPr, .inl (cI, zs.nR, .inl zs.Pr)), (zs.aSg, .inl (cI, zs.nR, .inl zs.Sg)), (zs.aNf, .inl (cI, zs.nR, .inl zs.Nf)), (zs.aNl, .inl (cI, zs.nR, .inl zs.Nl)), (zs.aDg, .inl (cL, zs.nR, .inr (.inl zs.Dg))), (zs.aBh, .inl (cI, zs.nR, .inl zs.Bh)), (zs.aDe, .inl (cI, zs.nR, .inl zs.De)), (zs.aPc, .inl (cI, zs.nR, .inl zs.Pc)), (zs.aFi, .inl (cI, zs.nR, .inl zs.Fi)), (zs.aNu, .inl (cI, zs.nR, .inl zs.Nu)), (zs.aN, .inl (cB, zs.nN, .inl zs.nm))] [.ref oM] (qv dd cls5 [(cB, .byte), (cI, .int), (cL, .long), (cS, .object "java/lang/String")] (fun u_ : RS => [(oM, .inr (4, [.ref aKy, .int u_.th, .ref u_.aT, .int u_.fd, .int u_.fa, .int u_.pl, .int u_.at_, .int u_.kd, .int u_.fr, .int u_.ky, .int u_.op, .int u_.ct, .ref u_.aKd, .ref u_.aBg, .ref u_.aPr, .ref u_.aSg, .ref u_.aNf, .ref u_.aNl, .ref u_.aDg, .ref u_.aBh, .ref u_.aDe, .ref u_.aPc, .ref u_.aFi, .ref u_.aNu, .ref u_.aN, .int u_.nd])), (aKy, .inl (cS, 17, .inr (.inr (.inr (.inr (kyF adK)))))), (u_.aT, .inl (cB, u_.nT, .inl u_.tp)), (u_.aKd, .inl (cI, u_.nR, .inl u_.Kd)), (u_.aBg, .inl (cI, u_.nR, .inl u_.Bg)), (u_.aPr, .inl (cI, u_.nR, .inl u_.Pr)), (u_.aSg, .inl (cI, u_.nR, .inl u_.Sg)), (u_.aNf, .inl (cI, u_.nR, .inl u_.Nf)), (u_.aNl, .inl (cI, u_.nR, .inl u_.Nl)), (u_.aDg, .inl (cL, u_.nR, .inr (.inl u_.Dg))), (u_.aBh, .inl (cI, u_.nR, .inl u_.Bh)), (u_.aDe, .inl (cI, u_.nR, .inl u_.De)), (u_.aPc, .inl (cI, u_.nR, .inl u_.Pc)), (u_.aFi, .inl (cI, u_.nR, .inl u_.Fi)), (u_.aNu, .inl (cI, u_.nR, .inl u_.Nu)), (u_.aN, .inl (cB, u_.nN, .inl u_.nm))]) (fun u_ => K_ u_)) 0 0 := by
  refine m_of (cc := b_M_next) (nL := 3) (ret := none) (by decide) rfl (Nat.le_of_ble_eq_true rfl) ?_
  intro p e s m below meth c ls A ar Fx_ hA hP hK hD hS hX hl
  obtain ⟨hx, hb, hml, hr, hlocks, hown, hts, hinn⟩ := Fx_
  generalize hQ : MQ below ((qv dd cls5 [(cB, .byte), (cI, .int), (cL, .long), (cS, .object "java/lang/String")] (fun u_ : RS => [(oM, .inr (4, [.ref aKy, .int u_.th, .ref u_.aT, .int u_.fd, .int u_.fa, .int u_.pl, .int u_.at_, .int u_.kd, .int u_.fr, .int u_.ky, .int u_.op, .int u_.ct, .ref u_.aKd, .ref u_.aBg, .ref u_.aPr, .ref u_.aSg, .ref u_.aNf, .ref u_.aNl, .ref u_.aDg, .ref u_.aBh, .ref u_.aDe, .ref u_.aPc, .ref u_.aFi, .ref u_.aNu, .ref u_.aN, .int u_.nd])), (aKy, .inl (cS, 17, .inr (.inr (.inr (.inr (kyF adK)))))), (u_.aT, .inl (cB, u_.nT, .inl u_.tp)), (u_.aKd, .inl (cI, u_.nR, .inl u_.Kd)), (u_.aBg, .inl (cI, u_.nR, .inl u_.Bg)), (u_.aPr, .inl (cI, u_.nR, .inl u_.Pr)), (u_.aSg, .inl (cI, u_.nR, .inl u_.Sg)), (u_.aNf, .inl (cI, u_.nR, .inl u_.Nf)), (u_.aNl, .inl (cI, u_.nR, .inl u_.Nl)), (u_.aDg, .inl (cL, u_.nR, .inr (.inl u_.Dg))), (u_.aBh, .inl (cI, u_.nR, .inl u_.Bh)), (u_.aDe, .inl (cI, u_.nR, .inl u_.De)), (u_.aPc, .inl (cI, u_.nR, .inl u_.Pc)), (u_.aFi, .inl (cI, u_.nR, .inl u_.Fi)), (u_.aNu, .inl (cI, u_.nR, .inl u_.Nu)), (u_.aN, .inl (cB, u_.nN, .inl u_.nm))]) (fun u_ => K_ u_)) A) ar s 0 0 A = QQ
  have hl : lv_has ls 3 [(0, .ref oM)] := hl
  unfold vc_M_next at hv
  have JP_121 : ∀ (n_121 : Nat) (x2_h121 : Int32) (s_h121 : RS) (H : Heap) (locs : List Loc) (ls : Array Slot), vl_M_next_121 K_ n_121 x2_h121 s_h121 → va_P dd cls5 [(oM, .inr (4, [.ref aKy, .int s_h121.th, .ref s_h121.aT, .int s_h121.fd, .int s_h121.fa, .int s_h121.pl, .int s_h121.at_, .int s_h121.kd, .int s_h121.fr, .int s_h121.ky, .int s_h121.op, .int s_h121.ct, .ref s_h121.aKd, .ref s_h121.aBg, .ref s_h121.aPr, .ref s_h121.aSg, .ref s_h121.aNf, .ref s_h121.aNl, .ref s_h121.aDg, .ref s_h121.aBh, .ref s_h121.aDe, .ref s_h121.aPc, .ref s_h121.aFi, .ref s_h121.aNu, .ref s_h121.aN, .int s_h121.nd])), (aKy, .inl (cS, 17, .inr (.inr (.inr (.inr (kyF adK)))))), (s_h121.aT, .inl (cB, s_h121.nT, .inl s_h121.tp)), (s_h121.aKd, .inl (cI, s_h121.nR, .inl s_h121.Kd)), (s_h121.aBg, .inl (cI, s_h121.nR, .inl s_h121.Bg)), (s_h121.aPr, .inl (cI, s_h121.nR, .inl s_h121.Pr)), (s_h121.aSg, .inl (cI, s_h121.nR, .inl s_h121.Sg)), (s_h121.aNf, .inl (cI, s_h121.nR, .inl s_h121.Nf)), (s_h121.aNl, .inl (cI, s_h121.nR, .inl s_h121.Nl)), (s_h121.aDg, .inl (cL, s_h121.nR, .inr (.inl s_h121.Dg))), (s_h121.aBh, .inl (cI, s_h121.nR, .inl s_h121.Bh)), (s_h121.aDe, .inl (cI, s_h121.nR, .inl s_h121.De)), (s_h121.aPc, .inl (cI, s_h121.nR, .inl s_h121.Pc)), (s_h121.aFi, .inl (cI, s_h121.nR, .inl s_h121.Fi)), (s_h121.aNu, .inl (cI, s_h121.nR, .inl s_h121.Nu)), (s_h121.aN, .inl (cB, s_h121.nN, .inl s_h121.nm))] H → va_D A [(oM, .inr (4, [.ref aKy, .int s_h121.th, .ref s_h121.aT, .int s_h121.fd, .int s_h121.fa, .int s_h121.pl, .int s_h121.at_, .int s_h121.kd, .int s_h121.fr, .int s_h121.ky, .int s_h121.op, .int s_h121.ct, .ref s_h121.aKd, .ref s_h121.aBg, .ref s_h121.aPr, .ref s_h121.aSg, .ref s_h121.aNf, .ref s_h121.aNl, .ref s_h121.aDg, .ref s_h121.aBh, .ref s_h121.aDe, .ref s_h121.aPc, .ref s_h121.aFi, .ref s_h121.aNu, .ref s_h121.aN, .int s_h121.nd])), (aKy, .inl (cS, 17, .inr (.inr (.inr (.inr (kyF adK)))))), (s_h121.aT, .inl (cB, s_h121.nT, .inl s_h121.tp)), (s_h121.aKd, .inl (cI, s_h121.nR, .inl s_h121.Kd)), (s_h121.aBg, .inl (cI, s_h121.nR, .inl s_h121.Bg)), (s_h121.aPr, .inl (cI, s_h121.nR, .inl s_h121.Pr)), (s_h121.aSg, .inl (cI, s_h121.nR, .inl s_h121.Sg)), (s_h121.aNf, .inl (cI, s_h121.nR, .inl s_h121.Nf)), (s_h121.aNl, .inl (cI, s_h121.nR, .inl s_h121.Nl)), (s_h121.aDg, .inl (cL, s_h121.nR, .inr (.inl s_h121.Dg))), (s_h121.aBh, .inl (cI, s_h121.nR, .inl s_h121.Bh)), (s_h121.aDe, .inl (cI, s_h121.nR, .inl s_h121.De)), (s_h121.aPc, .inl (cI, s_h121.nR, .inl s_h121.Pc)), (s_h121.aFi, .inl (cI, s_h121.nR, .inl s_h121.Fi)), (s_h121.aNu, .inl (cI, s_h121.nR, .inl s_h121.Nu)), (s_h121.aN, .inl (cB, s_h121.nN, .inl s_h121.nm))] → va_S A s.heap H locs → lv_has ls 3 [(0, .ref oM), (2, .int x2_h121)] → W p l e (rmk 7 0 0) s m ar below meth c H locs (0) (0) QQ (F0 m 121 ls []) := by
    intro n_121
    induction n_121 with
    | zero => intro x2_h121 s_h121 H locs ls hv; exact False.elim hv
    | succ n_121 ih_121 =>
      intro x2_h121 s_h121 H locs ls hv hP hD hS hl
      unfold vl_M_next_121 at hv
      have JP_153 : ∀ (x2_j153 : Int32) (s_j153 : RS) (H : Heap) (locs : List Loc) (ls : Array Slot), vj_M_next_153 (vl_M_next_121 K_ n_121) K_ x2_j153 s_j153 → va_P dd cls5 [(oM, .inr (4, [.ref aKy, .int s_j153.th, .ref s_j153.aT, .int s_j153.fd, .int s_j153.fa, .int s_j153.pl, .int s_j153.at_, .int s_j153.kd, .int s_j153.fr, .int s_j153.ky, .int s_j153.op, .int s_j153.ct, .ref s_j153.aKd, .ref s_j153.aBg, .ref s_j153.aPr, .ref s_j153.aSg, .ref s_j153.aNf, .ref s_j153.aNl, .ref s_j153.aDg, .ref s_j153.aBh, .ref s_j153.aDe, .ref s_j153.aPc, .ref s_j153.aFi, .ref s_j153.aNu, .ref s_j153.aN, .int s_j153.nd])), (aKy, .inl (cS, 17, .inr (.inr (.inr (.inr (kyF adK)))))), (s_j153.aT, .inl (cB, s_j153.nT, .inl s_j153.tp)), (s_j153.aKd, .inl (cI, s_j153.nR, .inl s_j153.Kd)), (s_j153.aBg, .inl (cI, s_j153.nR, .inl s_j153.Bg)), (s_j153.aPr, .inl (cI, s_j153.nR, .inl s_j153.Pr)), (s_j153.aSg, .inl (cI, s_j153.nR, .inl s_j153.Sg)), (s_j153.aNf, .inl (cI, s_j153.nR, .inl s_j153.Nf)), (s_j153.aNl, .inl (cI, s_j153.nR, .inl s_j153.Nl)), (s_j153.aDg, .inl (cL, s_j153.nR, .inr (.inl s_j153.Dg))), (s_j153.aBh, .inl (cI, s_j153.nR, .inl s_j153.Bh)), (s_j153.aDe, .inl (cI, s_j153.nR, .inl s_j153.De)), (s_j153.aPc, .inl (cI, s_j153.nR, .inl s_j153.Pc)), (s_j153.aFi, .inl (cI, s_j153.nR, .inl s_j153.Fi)), (s_j153.aNu, .inl (cI, s_j153.nR, .inl s_j153.Nu)), (s_j153.aN, .inl (cB, s_j153.nN, .inl s_j153.nm))] H → va_D A [(oM, .inr (4, [.ref aKy, .int s_j153.th, .ref s_j153.aT, .int s_j153.fd, .int s_j153.fa, .int s_j153.pl, .int s_j153.at_, .int s_j153.kd, .int s_j153.fr, .int s_j153.ky, .int s_j153.op, .int s_j153.ct, .ref s_j153.aKd, .ref s_j153.aBg, .ref s_j153.aPr, .ref s_j153.aSg, .ref s_j153.aNf, .ref s_j153.aNl, .ref s_j153.aDg, .ref s_j153.aBh, .ref s_j153.aDe, .ref s_j153.aPc, .ref s_j153.aFi, .ref s_j153.aNu, .ref s_j153.aN, .int s_j153.nd])), (aKy, .inl (cS, 17, .inr (.inr (.inr (.inr (kyF adK)))))), (s_j153.aT, .inl (cB, s_j153.nT, .inl s_j153.tp)), (s_j153.aKd, .inl (cI, s_j153.nR, .inl s_j153.Kd)), (s_j153.aBg, .inl (cI, s_j153.nR, .inl s_j153.Bg)), (s_j153.aPr, .inl (cI, s_j153.nR, .inl s_j153.Pr)), (s_j153.aSg, .inl (cI, s_j153.nR, .inl s_j153.Sg)), (s_j153.aNf, .inl (cI, s_j153.nR, .inl s_j153.Nf)), (s_j153.aNl, .inl (cI, s_j153.nR, .inl s_j153.Nl)), (s_j153.aDg, .inl (cL, s_j153.nR, .inr (.inl s_j153.Dg))), (s_j153.aBh, .inl (cI, s_j153.nR, .inl s_j153.Bh)), (s_j153.aDe, .inl (cI, s_j153.nR, .inl s_j153.De)), (s_j153.aPc, .inl (cI, s_j153.nR, .inl s_j153.Pc)), (s_j153.aFi, .inl (cI, s_j153.nR, .inl s_j153.Fi)), (s_j153.aNu, .inl (cI, s_j153.nR, .inl s_j153.Nu)), (s_j153.aN, .inl (cB, s_j153.nN, .inl s_j153.nm))] → va_S A s.heap H locs → lv_has ls 3 [(0, .ref oM), (2, .int x2_j153)] → W p l e (rmk 7 0 0) s m ar below meth c H locs (0) (0) QQ (F0 m 153 ls []) := by
        intro x2_j153 s_j153 H locs ls hv hP hD hS hl
        unfold vj_M_next_153 at hv
        refine lv_iinc (v := (x2_j153 + 1)) (lv' := [(2, .int (x2_j153 + 1)), (0, .ref oM)]) hx hb d_M_next_153 hl (k := 1) rfl rfl (by decide) rfl (fun ls hl => ?_)
        refine lv_goto (tgt := 121) hx hb d_M_next_156 (by decide) ?_
        exact ih_121 (x2_j153 + 1) s_j153 _ _ _ hv (hP.sub [0, 1, 2, 3, 4, 5, 6, 7, 8, 9, 10, 11, 12, 13, 14, 15] rfl) (hD.sub [0, 1, 2, 3, 4, 5, 6, 7, 8, 9, 10, 11, 12, 13, 14, 15] (by decide) rfl) hS (lv_sub hl [1, 0] rfl)
      refine lv_iload_n hx hb d_M_next_121 rfl (lv_at hl 1 rfl) ?_
      refine lv_aload_n hx hb d_M_next_122 rfl (lv_at hl 0 rfl) ?_
      refine va_get (D := dd) (ci := 4) (C := Rc_M) (T := Fc_M) (N := 26) (v := .ref aKy) hx hb hts (inn in_M) hown hK hP 0 rfl rfl 0 (by decide) (hts (.fieldLink "NetTextModel" 43 "NetTextModel" "keys" "[Ljava/lang/String;") (tg at_766)) (fun _ h9 => h9) rfl d_M_next_123 ?_
      refine va_alen (v := nI 17) hx hb hK hP 1 3 rfl rfl rfl d_M_next_126 ?_
      refine lv_icmp_ge (tgt := 159) hx hb d_M_next_127 (by decide) (fun b_21 => ?_) (fun b_21 => ?_)
      · have hv := hv.1 b_21
        refine lv_goto (tgt := 205) hx hb d_M_next_159 (by decide) ?_
        subst hQ
        exact r_v hx hb hr hlocks  s_h121 hv (hP.sub [0, 1, 2, 3, 4, 5, 6, 7, 8, 9, 10, 11, 12, 13, 14, 15] rfl) hK (hD.sub [0, 1, 2, 3, 4, 5, 6, 7, 8, 9, 10, 11, 12, 13, 14, 15] (by decide) rfl) hS (Nat.le_refl _) (Nat.le_refl _) d_M_next_205
      · have hv := hv.2 b_21
        refine lv_aload_n hx hb d_M_next_130 rfl (lv_at hl 0 rfl) ?_
        refine lv_aload_n hx hb d_M_next_131 rfl (lv_at hl 0 rfl) ?_
        refine va_get (D := dd) (ci := 4) (C := Rc_M) (T := Fc_M) (N := 26) (v := .ref aKy) hx hb hts (inn in_M) hown hK hP 0 rfl rfl 0 (by decide) (hts (.fieldLink "NetTextModel" 43 "NetTextModel" "keys" "[Ljava/lang/String;") (tg at_766)) (fun _ h9 => h9) rfl d_M_next_132 ?_
        refine lv_iload_n hx hb d_M_next_135 rfl (lv_at hl 1 rfl) ?_
        obtain ⟨h_22, hv⟩ := hv
        have hk_23 : 22 + x2_h121.toNatClampNeg < 41 := kyl h_22
        refine va_aldq hx hb hK hP 1 3 rfl rfl h_22 d_M_next_136 ?_
        have hM := met_M_isSpelled (l := l) (dd := dd) (cB := cB) (cI := cI) (cL := cL) (cS := cS) (adK := adK) (adV := adV) (oM := oM) (aKy := aKy)  hk_23 hv
        refine krv_i (st := [.ref (adK (22 + x2_h121.toNatClampNeg)), .ref oM]) (rest := []) ⟨hx, hb, hml, hown, hts⟩ hM (cwV 1 hts (gv (tg0 at_887) (tg0 at_889) (tg0 ap_54) (tg0 at_5) (tg0 at_890)) rfl rfl rfl (by decide +kernel) (rk (by omega) (by decide))) xfb (xfr hX hS) hP hK [0, 2] rfl (ci := 4) rfl rfl (q0 := 0) rfl rfl hl.1 rfl (Nat.le_of_ble_eq_true rfl) d_M_next_137 ⟨Nat.zero_le _, Nat.zero_le _⟩ (fun r_24 hv => ?_)
        refine lv_if_eq (tgt := 153) hx hb d_M_next_140 (by decide) (fun b_25 => ?_) (fun b_25 => ?_)
        · have hv := hv.1 b_25
          exact JP_153 x2_h121 s_h121 _ _ _ hv (hP.sub [0, 1, 2, 3, 4, 5, 6, 7, 8, 9, 10, 11, 12, 13, 14, 15] rfl) (hD.sub [0, 1, 2, 3, 4, 5, 6, 7, 8, 9, 10, 11, 12, 13, 14, 15] (by decide) rfl) hS (lv_sub hl [0, 1] rfl)
        · have hv := hv.2 b_25
          refine lv_aload_n hx hb d_M_next_143 rfl (lv_at hl 0 rfl) ?_
          refine lv_iconst (v := 5) hx hb d_M_next_144 (by decide) ?_
          refine va_put (D := dd) (ci := 4) (C := Rc_M) (T := Fc_M) (N := 26) (v := .int 5) (ty := .int) hx hb hts (inn in_M) tyf_M tyf_M_ok nmf_M hown hK hP hD hS 0 rfl rfl 7 (by decide) (hts (.fieldLink "NetTextModel" 132 "NetTextModel" "kind" "I") (tg at_773)) (fun _ h9 => h9) rfl (by decide +kernel) rfl rfl (Nat.le_of_ble_eq_true rfl) d_M_next_145 (fun H locs hP hD hS => ?_)
          have hP : va_P dd cls5 [(oM, .inr (4, [.ref aKy, .int s_h121.th, .ref s_h121.aT, .int s_h121.fd, .int s_h121.fa, .int s_h121.pl, .int s_h121.at_, .int 5, .int s_h121.fr, .int s_h121.ky, .int s_h121.op, .int s_h121.ct, .ref s_h121.aKd, .ref s_h121.aBg, .ref s_h121.aPr, .ref s_h121.aSg, .ref s_h121.aNf, .ref s_h121.aNl, .ref s_h121.aDg, .ref s_h121.aBh, .ref s_h121.aDe, .ref s_h121.aPc, .ref s_h121.aFi, .ref s_h121.aNu, .ref s_h121.aN, .int s_h121.nd])), (aKy, .inl (cS, 17, .inr (.inr (.inr (.inr (kyF adK)))))), (s_h121.aT, .inl (cB, s_h121.nT, .inl s_h121.tp)), (s_h121.aKd, .inl (cI, s_h121.nR, .inl s_h121.Kd)), (s_h121.aBg, .inl (cI, s_h121.nR, .inl s_h121.Bg)), (s_h121.aPr, .inl (cI, s_h121.nR, .inl s_h121.Pr)), (s_h121.aSg, .inl (cI, s_h121.nR, .inl s_h121.Sg)), (s_h121.aNf, .inl (cI, s_h121.nR, .inl s_h121.Nf)), (s_h121.aNl, .inl (cI, s_h121.nR, .inl s_h121.Nl)), (s_h121.aDg, .inl (cL, s_h121.nR, .inr (.inl s_h121.Dg))), (s_h121.aBh, .inl (cI, s_h121.nR, .inl s_h121.Bh)), (s_h121.aDe, .inl (cI, s_h121.nR, .inl s_h121.De)), (s_h121.aPc, .inl (cI, s_h121.nR, .inl s_h121.Pc)), (s_h121.aFi, .inl (cI, s_h121.nR, .inl s_h121.Fi)), (s_h121.aNu, .inl (cI, s_h121.nR, .inl s_h121.Nu)), (s_h121.aN, .inl (cB, s_h121.nN, .inl s_h121.nm))] H := hP
          have hD : va_D A [(oM, .inr (4, [.ref aKy, .int s_h121.th, .ref s_h121.aT, .int s_h121.fd, .int s_h121.fa, .int s_h121.pl, .int s_h121.at_, .int 5, .int s_h121.fr, .int s_h121.ky, .int s_h121.op, .int s_h121.ct, .ref s_h121.aKd, .ref s_h121.aBg, .ref s_h121.aPr, .ref s_h121.aSg, .ref s_h121.aNf, .ref s_h121.aNl, .ref s_h121.aDg, .ref s_h121.aBh, .ref s_h121.aDe, .ref s_h121.aPc, .ref s_h121.aFi, .ref s_h121.aNu, .ref s_h121.aN, .int s_h121.nd])), (aKy, .inl (cS, 17, .inr (.inr (.inr (.inr (kyF adK)))))), (s_h121.aT, .inl (cB, s_h121.nT, .inl s_h121.tp)), (s_h121.aKd, .inl (cI, s_h121.nR, .inl s_h121.Kd)), (s_h121.aBg, .inl (cI, s_h121.nR, .inl s_h121.Bg)), (s_h121.aPr, .inl (cI, s_h121.nR, .inl s_h121.Pr)), (s_h121.aSg, .inl (cI, s_h121.nR, .inl s_h121.Sg)), (s_h121.aNf, .inl (cI, s_h121.nR, .inl s_h121.Nf)), (s_h121.aNl, .inl (cI, s_h121.nR, .inl s_h121.Nl)), (s_h121.aDg, .inl (cL, s_h121.nR, .inr (.inl s_h121.Dg))), (s_h121.aBh, .inl (cI, s_h121.nR, .inl s_h121.Bh)), (s_h121.aDe, .inl (cI, s_h121.nR, .inl s_h121.De)), (s_h121.aPc, .inl (cI, s_h121.nR, .inl s_h121.Pc)), (s_h121.aFi, .inl (cI, s_h121.nR, .inl s_h121.Fi)), (s_h121.aNu, .inl (cI, s_h121.nR, .inl s_h121.Nu)), (s_h121.aN, .inl (cB, s_h121.nN, .inl s_h121.nm))] := hD
          refine lv_aload_n hx hb d_M_next_148 rfl (lv_at hl 0 rfl) ?_
          refine lv_iload_n hx hb d_M_next_149 rfl (lv_at hl 1 rfl) ?_
          refine va_put (D := dd) (ci := 4) (C := Rc_M) (T := Fc_M) (N := 26) (v := .int x2_h121) (ty := .int) hx hb hts (inn in_M) tyf_M tyf_M_ok nmf_M hown hK hP hD hS 0 rfl rfl 9 (by decide) (hts (.fieldLink "NetTextModel" 146 "NetTextModel" "key" "I") (tg at_775)) (fun _ h9 => h9) rfl (by decide +kernel) rfl rfl (Nat.le_of_ble_eq_true rfl) d_M_next_150 (fun H locs hP hD hS => ?_)
          have hP : va_P dd cls5 [(oM, .inr (4, [.ref aKy, .int s_h121.th, .ref s_h121.aT, .int s_h121.fd, .int s_h121.fa, .int s_h121.pl, .int s_h121.at_, .int 5, .int s_h121.fr, .int x2_h121, .int s_h121.op, .int s_h121.ct, .ref s_h121.aKd, .ref s_h121.aBg, .ref s_h121.aPr, .ref s_h121.aSg, .ref s_h121.aNf, .ref s_h121.aNl, .ref s_h121.aDg, .ref s_h121.aBh, .ref s_h121.aDe, .ref s_h121.aPc, .ref s_h121.aFi, .ref s_h121.aNu, .ref s_h121.aN, .int s_h121.nd])), (aKy, .inl (cS, 17, .inr (.inr (.inr (.inr (kyF adK)))))), (s_h121.aT, .inl (cB, s_h121.nT, .inl s_h121.tp)), (s_h121.aKd, .inl (cI, s_h121.nR, .inl s_h121.Kd)), (s_h121.aBg, .inl (cI, s_h121.nR, .inl s_h121.Bg)), (s_h121.aPr, .inl (cI, s_h121.nR, .inl s_h121.Pr)), (s_h121.aSg, .inl (cI, s_h121.nR, .inl s_h121.Sg)), (s_h121.aNf, .inl (cI, s_h121.nR, .inl s_h121.Nf)), (s_h121.aNl, .inl (cI, s_h121.nR, .inl s_h121.Nl)), (s_h121.aDg, .inl (cL, s_h121.nR, .inr (.inl s_h121.Dg))), (s_h121.aBh, .inl (cI, s_h121.nR, .inl s_h121.Bh)), (s_h121.aDe, .inl (cI, s_h121.nR, .inl s_h121.De)), (s_h121.aPc, .inl (cI, s_h121.nR, .inl s_h121.Pc)), (s_h121.aFi, .inl (cI, s_h121.nR, .inl s_h121.Fi)), (s_h121.aNu, .inl (cI, s_h121.nR, .inl s_h121.Nu)), (s_h121.aN, .inl (cB, s_h121.nN, .inl s_h121.nm))] H := hP
          have hD : va_D A [(oM, .inr (4, [.ref aKy, .int s_h121.th, .ref s_h121.aT, .int s_h121.fd, .int s_h121.fa, .int s_h121.pl, .int s_h121.at_, .int 5, .int s_h121.fr, .int x2_h121, .int s_h121.op, .int s_h121.ct, .ref s_h121.aKd, .ref s_h121.aBg, .ref s_h121.aPr, .ref s_h121.aSg, .ref s_h121.aNf, .ref s_h121.aNl, .ref s_h121.aDg, .ref s_h121.aBh, .ref s_h121.aDe, .ref s_h121.aPc, .ref s_h121.aFi, .ref s_h121.aNu, .ref s_h121.aN, .int s_h121.nd])), (aKy, .inl (cS, 17, .inr (.inr (.inr (.inr (kyF adK)))))), (s_h121.aT, .inl (cB, s_h121.nT, .inl s_h121.tp)), (s_h121.aKd, .inl (cI, s_h121.nR, .inl s_h121.Kd)), (s_h121.aBg, .inl (cI, s_h121.nR, .inl s_h121.Bg)), (s_h121.aPr, .inl (cI, s_h121.nR, .inl s_h121.Pr)), (s_h121.aSg, .inl (cI, s_h121.nR, .inl s_h121.Sg)), (s_h121.aNf, .inl (cI, s_h121.nR, .inl s_h121.Nf)), (s_h121.aNl, .inl (cI, s_h121.nR, .inl s_h121.Nl)), (s_h121.aDg, .inl (cL, s_h121.nR, .inr (.inl s_h121.Dg))), (s_h121.aBh, .inl (cI, s_h121.nR, .inl s_h121.Bh)), (s_h121.aDe, .inl (cI, s_h121.nR, .inl s_h121.De)), (s_h121.aPc, .inl (cI, s_h121.nR, .inl s_h121.Pc)), (s_h121.aFi, .inl (cI, s_h121.nR, .inl s_h121.Fi)), (s_h121.aNu, .inl (cI, s_h121.nR, .inl s_h121.Nu)), (s_h121.aN, .inl (cB, s_h121.nN, .inl s_h121.nm))] := hD
          exact JP_153 x2_h121 (RS.w_ky (RS.w_kd s_h121 5) x2_h121) _ _ _ hv (hP.sub [0, 1, 2, 3, 4, 5, 6, 7, 8, 9, 10, 11, 12, 13, 14, 15] rfl) (hD.sub [0, 1, 2, 3, 4, 5, 6, 7, 8, 9, 10, 11, 12, 13, 14, 15] (by decide) rfl) hS (lv_sub hl [0, 1] rfl)
  have JP_116 : ∀ (y0_j116 : Int32) (s_j116 : RS) (H : Heap) (locs : List Loc) (ls : Array Slot), vj_M_next_116 K_ y0_j116 s_j116 → va_P dd cls5 [(oM, .inr (4, [.ref aKy, .int s_j116.th, .ref s_j116.aT, .int s_j116.fd, .int s_j116.fa, .int s_j116.pl, .int s_j116.at_, .int s_j116.kd, .int s_j116.fr, .int s_j116.ky, .int s_j116.op, .int s_j116.ct, .ref s_j116.aKd, .ref s_j116.aBg, .ref s_j116.aPr, .ref s_j116.aSg, .ref s_j116.aNf, .ref s_j116.aNl, .ref s_j116.aDg, .ref s_j116.aBh, .ref s_j116.aDe, .ref s_j116.aPc, .ref s_j116.aFi, .ref s_j116.aNu, .ref s_j116.aN, .int s_j116.nd])), (aKy, .inl (cS, 17, .inr (.inr (.inr (.inr (kyF adK)))))), (s_j116.aT, .inl (cB, s_j116.nT, .inl s_j116.tp)), (s_j116.aKd, .inl (cI, s_j116.nR, .inl s_j116.Kd)), (s_j116.aBg, .inl (cI, s_j116.nR, .inl s_j116.Bg)), (s_j116.aPr, .inl (cI, s_j116.nR, .inl s_j116.Pr)), (s_j116.aSg, .inl (cI, s_j116.nR, .inl s_j116.Sg)), (s_j116.aNf, .inl (cI, s_j116.nR, .inl s_j116.Nf)), (s_j116.aNl, .inl (cI, s_j116.nR, .inl s_j116.Nl)), (s_j116.aDg, .inl (cL, s_j116.nR, .inr (.inl s_j116.Dg))), (s_j116.aBh, .inl (cI, s_j116.nR, .inl s_j116.Bh)), (s_j116.aDe, .inl (cI, s_j116.nR, .inl s_j116.De)), (s_j116.aPc, .inl (cI, s_j116.nR, .inl s_j116.Pc)), (s_j116.aFi, .inl (cI, s_j116.nR, .inl s_j116.Fi)), (s_j116.aNu, .inl (cI, s_j116.nR, .inl s_j116.Nu)), (s_j116.aN, .inl (cB, s_j116.nN, .inl s_j116.nm))] H → va_D A [(oM, .inr (4, [.ref aKy, .int s_j116.th, .ref s_j116.aT, .int s_j116.fd, .int s_j116.fa, .int s_j116.pl, .int s_j116.at_, .int s_j116.kd, .int s_j116.fr, .int s_j116.ky, .int s_j116.op, .int s_j116.ct, .ref s_j116.aKd, .ref s_j116.aBg, .ref s_j116.aPr, .ref s_j116.aSg, .ref s_j116.aNf, .ref s_j116.aNl, .ref s_j116.aDg, .ref s_j116.aBh, .ref s_j116.aDe, .ref s_j116.aPc, .ref s_j116.aFi, .ref s_j116.aNu, .ref s_j116.aN, .int s_j116.nd])), (aKy, .inl (cS, 17, .inr (.inr (.inr (.inr (kyF adK)))))), (s_j116.aT, .inl (cB, s_j116.nT, .inl s_j116.tp)), (s_j116.aKd, .inl (cI, s_j116.nR, .inl s_j116.Kd)), (s_j116.aBg, .inl (cI, s_j116.nR, .inl s_j116.Bg)), (s_j116.aPr, .inl (cI, s_j116.nR, .inl s_j116.Pr)), (s_j116.aSg, .inl (cI, s_j116.nR, .inl s_j116.Sg)), (s_j116.aNf, .inl (cI, s_j116.nR, .inl s_j116.Nf)), (s_j116.aNl, .inl (cI, s_j116.nR, .inl s_j116.Nl)), (s_j116.aDg, .inl (cL, s_j116.nR, .inr (.inl s_j116.Dg))), (s_j116.aBh, .inl (cI, s_j116.nR, .inl s_j116.Bh)), (s_j116.aDe, .inl (cI, s_j116.nR, .inl s_j116.De)), (s_j116.aPc, .inl (cI, s_j116.nR, .inl s_j116.Pc)), (s_j116.aFi, .inl (cI, s_j116.nR, .inl s_j116.Fi)), (s_j116.aNu, .inl (cI, s_j116.nR, .inl s_j116.Nu)), (s_j116.aN, .inl (cB, s_j116.nN, .inl s_j116.nm))] → va_S A s.heap H locs → lv_has ls 3 [(0, .ref oM)] → W p l e (rmk 7 0 0) s m ar below meth c H locs (0) (0) QQ (F0 m 116 ls [.int y0_j116, .ref oM]) := by
    intro y0_j116 s_j116 H locs ls hv hP hD hS hl
    unfold vj_M_next_116 at hv
    refine va_put (D := dd) (ci := 4) (C := Rc_M) (T := Fc_M) (N := 26) (v := .int y0_j116) (ty := .int) hx hb hts (inn in_M) tyf_M tyf_M_ok nmf_M hown hK hP hD hS 0 rfl rfl 7 (by decide) (hts (.fieldLink "NetTextModel" 132 "NetTextModel" "kind" "I") (tg at_773)) (fun _ h9 => h9) rfl (by decide +kernel) rfl rfl (Nat.le_of_ble_eq_true rfl) d_M_next_116 (fun H locs hP hD hS => ?_)
    have hP : va_P dd cls5 [(oM, .inr (4, [.ref aKy, .int s_j116.th, .ref s_j116.aT, .int s_j116.fd, .int s_j116.fa, .int s_j116.pl, .int s_j116.at_, .int y0_j116, .int s_j116.fr, .int s_j116.ky, .int s_j116.op, .int s_j116.ct, .ref s_j116.aKd, .ref s_j116.aBg, .ref s_j116.aPr, .ref s_j116.aSg, .ref s_j116.aNf, .ref s_j116.aNl, .ref s_j116.aDg, .ref s_j116.aBh, .ref s_j116.aDe, .ref s_j116.aPc, .ref s_j116.aFi, .ref s_j116.aNu, .ref s_j116.aN, .int s_j116.nd])), (aKy, .inl (cS, 17, .inr (.inr (.inr (.inr (kyF adK)))))), (s_j116.aT, .inl (cB, s_j116.nT, .inl s_j116.tp)), (s_j116.aKd, .inl (cI, s_j116.nR, .inl s_j116.Kd)), (s_j116.aBg, .inl (cI, s_j116.nR, .inl s_j116.Bg)), (s_j116.aPr, .inl (cI, s_j116.nR, .inl s_j116.Pr)), (s_j116.aSg, .inl (cI, s_j116.nR, .inl s_j116.Sg)), (s_j116.aNf, .inl (cI, s_j116.nR, .inl s_j116.Nf)), (s_j116.aNl, .inl (cI, s_j116.nR, .inl s_j116.Nl)), (s_j116.aDg, .inl (cL, s_j116.nR, .inr (.inl s_j116.Dg))), (s_j116.aBh, .inl (cI, s_j116.nR, .inl s_j116.Bh)), (s_j116.aDe, .inl (cI, s_j116.nR, .inl s_j116.De)), (s_j116.aPc, .inl (cI, s_j116.nR, .inl s_j116.Pc)), (s_j116.aFi, .inl (cI, s_j116.nR, .inl s_j116.Fi)), (s_j116.aNu, .inl (cI, s_j116.nR, .inl s_j116.Nu)), (s_j116.aN, .inl (cB, s_j116.nN, .inl s_j116.nm))] H := hP
    have hD : va_D A [(oM, .inr (4, [.ref aKy, .int s_j116.th, .ref s_j116.aT, .int s_j116.fd, .int s_j116.fa, .int s_j116.pl, .int s_j116.at_, .int y0_j116, .int s_j116.fr, .int s_j116.ky, .int s_j116.op, .int s_j116.ct, .ref s_j116.aKd, .ref s_j116.aBg, .ref s_j116.aPr, .ref s_j116.aSg, .ref s_j116.aNf, .ref s_j116.aNl, .ref s_j116.aDg, .ref s_j116.aBh, .ref s_j116.aDe, .ref s_j116.aPc, .ref s_j116.aFi, .ref s_j116.aNu, .ref s_j116.aN, .int s_j116.nd])), (aKy, .inl (cS, 17, .inr (.inr (.inr (.inr (kyF adK)))))), (s_j116.aT, .inl (cB, s_j116.nT, .inl s_j116.tp)), (s_j116.aKd, .inl (cI, s_j116.nR, .inl s_j116.Kd)), (s_j116.aBg, .inl (cI, s_j116.nR, .inl s_j116.Bg)), (s_j116.aPr, .inl (cI, s_j116.nR, .inl s_j116.Pr)), (s_j116.aSg, .inl (cI, s_j116.nR, .inl s_j116.Sg)), (s_j116.aNf, .inl (cI, s_j116.nR, .inl s_j116.Nf)), (s_j116.aNl, .inl (cI, s_j116.nR, .inl s_j116.Nl)), (s_j116.aDg, .inl (cL, s_j116.nR, .inr (.inl s_j116.Dg))), (s_j116.aBh, .inl (cI, s_j116.nR, .inl s_j116.Bh)), (s_j116.aDe, .inl (cI, s_j116.nR, .inl s_j116.De)), (s_j116.aPc, .inl (cI, s_j116.nR, .inl s_j116.Pc)), (s_j116.aFi, .inl (cI, s_j116.nR, .inl s_j116.Fi)), (s_j116.aNu, .inl (cI, s_j116.nR, .inl s_j116.Nu)), (s_j116.aN, .inl (cB, s_j116.nN, .inl s_j116.nm))] := hD
    refine lv_iconst (v := 0) hx hb d_M_next_119 (by decide) ?_
    refine lv_istore_n (lv' := [(2, .int 0), (0, .ref oM)]) hx hb d_M_next_120 rfl hl (by decide) rfl (fun ls hl => ?_)
    obtain ⟨n_27, hv⟩ := hv
    exact JP_121 n_27 0 (RS.w_kd s_j116 y0_j116) _ _ _ hv (hP.sub [0, 1, 2, 3, 4, 5, 6, 7, 8, 9, 10, 11, 12, 13, 14, 15] rfl) (hD.sub [0, 1, 2, 3, 4, 5, 6, 7, 8, 9, 10, 11, 12, 13, 14, 15] (by decide) rfl) hS (lv_sub hl [1, 0] rfl)
  have JP_55 : ∀ (n_55 : Nat) (s_h55 : RS) (H : Heap) (locs : List Loc) (ls : Array Slot), vl_M_next_55 K_ n_55 s_h55 → va_P dd cls5 [(oM, .inr (4, [.ref aKy, .int s_h55.th, .ref s_h55.aT, .int s_h55.fd, .int s_h55.fa, .int s_h55.pl, .int s_h55.at_, .int s_h55.kd, .int s_h55.fr, .int s_h55.ky, .int s_h55.op, .int s_h55.ct, .ref s_h55.aKd, .ref s_h55.aBg, .ref s_h55.aPr, .ref s_h55.aSg, .ref s_h55.aNf, .ref s_h55.aNl, .ref s_h55.aDg, .ref s_h55.aBh, .ref s_h55.aDe, .ref s_h55.aPc, .ref s_h55.aFi, .ref s_h55.aNu, .ref s_h55.aN, .int s_h55.nd])), (aKy, .inl (cS, 17, .inr (.inr (.inr (.inr (kyF adK)))))), (s_h55.aT, .inl (cB, s_h55.nT, .inl s_h55.tp)), (s_h55.aKd, .inl (cI, s_h55.nR, .inl s_h55.Kd)), (s_h55.aBg, .inl (cI, s_h55.nR, .inl s_h55.Bg)), (s_h55.aPr, .inl (cI, s_h55.nR, .inl s_h55.Pr)), (s_h55.aSg, .inl (cI, s_h55.nR, .inl s_h55.Sg)), (s_h55.aNf, .inl (cI, s_h55.nR, .inl s_h55.Nf)), (s_h55.aNl, .inl (cI, s_h55.nR, .inl s_h55.Nl)), (s_h55.aDg, .inl (cL, s_h55.nR, .inr (.inl s_h55.Dg))), (s_h55.aBh, .inl (cI, s_h55.nR, .inl s_h55.Bh)), (s_h55.aDe, .inl (cI, s_h55.nR, .inl s_h55.De)), (s_h55.aPc, .inl (cI, s_h55.nR, .inl s_h55.Pc)), (s_h55.aFi, .inl (cI, s_h55.nR, .inl s_h55.Fi)), (s_h55.aNu, .inl (cI, s_h55.nR, .inl s_h55.Nu)), (s_h55.aN, .inl (cB, s_h55.nN, .inl s_h55.nm))] H → va_D A [(oM, .inr (4, [.ref aKy, .int s_h55.th, .ref s_h55.aT, .int s_h55.fd, .int s_h55.fa, .int s_h55.pl, .int s_h55.at_, .int s_h55.kd, .int s_h55.fr, .int s_h55.ky, .int s_h55.op, .int s_h55.ct, .ref s_h55.aKd, .ref s_h55.aBg, .ref s_h55.aPr, .ref s_h55.aSg, .ref s_h55.aNf, .ref s_h55.aNl, .ref s_h55.aDg, .ref s_h55.aBh, .ref s_h55.aDe, .ref s_h55.aPc, .ref s_h55.aFi, .ref s_h55.aNu, .ref s_h55.aN, .int s_h55.nd])), (aKy, .inl (cS, 17, .inr (.inr (.inr (.inr (kyF adK)))))), (s_h55.aT, .inl (cB, s_h55.nT, .inl s_h55.tp)), (s_h55.aKd, .inl (cI, s_h55.nR, .inl s_h55.Kd)), (s_h55.aBg, .inl (cI, s_h55.nR, .inl s_h55.Bg)), (s_h55.aPr, .inl (cI, s_h55.nR, .inl s_h55.Pr)), (s_h55.aSg, .inl (cI, s_h55.nR, .inl s_h55.Sg)), (s_h55.aNf, .inl (cI, s_h55.nR, .inl s_h55.Nf)), (s_h55.aNl, .inl (cI, s_h55.nR, .inl s_h55.Nl)), (s_h55.aDg, .inl (cL, s_h55.nR, .inr (.inl s_h55.Dg))), (s_h55.aBh, .inl (cI, s_h55.nR, .inl s_h55.Bh)), (s_h55.aDe, .inl (cI, s_h55.nR, .inl s_h55.De)), (s_h55.aPc, .inl (cI, s_h55.nR, .inl s_h55.Pc)), (s_h55.aFi, .inl (cI, s_h55.nR, .inl s_h55.Fi)), (s_h55.aNu, .inl (cI, s_h55.nR, .inl s_h55.Nu)), (s_h55.aN, .inl (cB, s_h55.nN, .inl s_h55.nm))] → va_S A s.heap H locs → lv_has ls 3 [(0, .ref oM)] → W p l e (rmk 7 0 0) s m ar below meth c H locs (0) (0) QQ (F0 m 55 ls []) := by
    intro n_55
    induction n_55 with
    | zero => intro s_h55 H locs ls hv; exact False.elim hv
    | succ n_55 ih_55 =>
      intro s_h55 H locs ls hv hP hD hS hl
      unfold vl_M_next_55 at hv
      have JP_83 : ∀ (s_j83 : RS) (H : Heap) (locs : List Loc) (ls : Array Slot), vj_M_next_83 (vl_M_next_55 K_ n_55) K_ s_j83 → va_P dd cls5 [(oM, .inr (4, [.ref aKy, .int s_j83.th, .ref s_j83.aT, .int s_j83.fd, .int s_j83.fa, .int s_j83.pl, .int s_j83.at_, .int s_j83.kd, .int s_j83.fr, .int s_j83.ky, .int s_j83.op, .int s_j83.ct, .ref s_j83.aKd, .ref s_j83.aBg, .ref s_j83.aPr, .ref s_j83.aSg, .ref s_j83.aNf, .ref s_j83.aNl, .ref s_j83.aDg, .ref s_j83.aBh, .ref s_j83.aDe, .ref s_j83.aPc, .ref s_j83.aFi, .ref s_j83.aNu, .ref s_j83.aN, .int s_j83.nd])), (aKy, .inl (cS, 17, .inr (.inr (.inr (.inr (kyF adK)))))), (s_j83.aT, .inl (cB, s_j83.nT, .inl s_j83.tp)), (s_j83.aKd, .inl (cI, s_j83.nR, .inl s_j83.Kd)), (s_j83.aBg, .inl (cI, s_j83.nR, .inl s_j83.Bg)), (s_j83.aPr, .inl (cI, s_j83.nR, .inl s_j83.Pr)), (s_j83.aSg, .inl (cI, s_j83.nR, .inl s_j83.Sg)), (s_j83.aNf, .inl (cI, s_j83.nR, .inl s_j83.Nf)), (s_j83.aNl, .inl (cI, s_j83.nR, .inl s_j83.Nl)), (s_j83.aDg, .inl (cL, s_j83.nR, .inr (.inl s_j83.Dg))), (s_j83.aBh, .inl (cI, s_j83.nR, .inl s_j83.Bh)), (s_j83.aDe, .inl (cI, s_j83.nR, .inl s_j83.De)), (s_j83.aPc, .inl (cI, s_j83.nR, .inl s_j83.Pc)), (s_j83.aFi, .inl (cI, s_j83.nR, .inl s_j83.Fi)), (s_j83.aNu, .inl (cI, s_j83.nR, .inl s_j83.Nu)), (s_j83.aN, .inl (cB, s_j83.nN, .inl s_j83.nm))] H → va_D A [(oM, .inr (4, [.ref aKy, .int s_j83.th, .ref s_j83.aT, .int s_j83.fd, .int s_j83.fa, .int s_j83.pl, .int s_j83.at_, .int s_j83.kd, .int s_j83.fr, .int s_j83.ky, .int s_j83.op, .int s_j83.ct, .ref s_j83.aKd, .ref s_j83.aBg, .ref s_j83.aPr, .ref s_j83.aSg, .ref s_j83.aNf, .ref s_j83.aNl, .ref s_j83.aDg, .ref s_j83.aBh, .ref s_j83.aDe, .ref s_j83.aPc, .ref s_j83.aFi, .ref s_j83.aNu, .ref s_j83.aN, .int s_j83.nd])), (aKy, .inl (cS, 17, .inr (.inr (.inr (.inr (kyF adK)))))), (s_j83.aT, .inl (cB, s_j83.nT, .inl s_j83.tp)), (s_j83.aKd, .inl (cI, s_j83.nR, .inl s_j83.Kd)), (s_j83.aBg, .inl (cI, s_j83.nR, .inl s_j83.Bg)), (s_j83.aPr, .inl (cI, s_j83.nR, .inl s_j83.Pr)), (s_j83.aSg, .inl (cI, s_j83.nR, .inl s_j83.Sg)), (s_j83.aNf, .inl (cI, s_j83.nR, .inl s_j83.Nf)), (s_j83.aNl, .inl (cI, s_j83.nR, .inl s_j83.Nl)), (s_j83.aDg, .inl (cL, s_j83.nR, .inr (.inl s_j83.Dg))), (s_j83.aBh, .inl (cI, s_j83.nR, .inl s_j83.Bh)), (s_j83.aDe, .inl (cI, s_j83.nR, .inl s_j83.De)), (s_j83.aPc, .inl (cI, s_j83.nR, .inl s_j83.Pc)), (s_j83.aFi, .inl (cI, s_j83.nR, .inl s_j83.Fi)), (s_j83.aNu, .inl (cI, s_j83.nR, .inl s_j83.Nu)), (s_j83.aN, .inl (cB, s_j83.nN, .inl s_j83.nm))] → va_S A s.heap H locs → lv_has ls 3 [(0, .ref oM)] → W p l e (rmk 7 0 0) s m ar below meth c H locs (0) (0) QQ (F0 m 83 ls []) := by
        intro s_j83 H locs ls hv hP hD hS hl
        unfold vj_M_next_83 at hv
        refine lv_aload_n hx hb d_M_next_83 rfl (lv_at hl 0 rfl) ?_
        refine lv_dup hx hb d_M_next_84 rfl ?_
        refine va_get (D := dd) (ci := 4) (C := Rc_M) (T := Fc_M) (N := 26) (v := .int s_j83.at_) hx hb hts (inn in_M) hown hK hP 0 rfl rfl 6 (by decide) (hts (.fieldLink "NetTextModel" 111 "NetTextModel" "at" "I") (tg at_772)) (fun _ h9 => h9) rfl d_M_next_85 ?_
        refine lv_iconst (v := 1) hx hb d_M_next_88 (by decide) ?_
        refine lv_iadd hx hb d_M_next_89 ?_
        refine va_put (D := dd) (ci := 4) (C := Rc_M) (T := Fc_M) (N := 26) (v := .int (s_j83.at_ + 1)) (ty := .int) hx hb hts (inn in_M) tyf_M tyf_M_ok nmf_M hown hK hP hD hS 0 rfl rfl 6 (by decide) (hts (.fieldLink "NetTextModel" 111 "NetTextModel" "at" "I") (tg at_772)) (fun _ h9 => h9) rfl (by decide +kernel) rfl rfl (Nat.le_of_ble_eq_true rfl) d_M_next_90 (fun H locs hP hD hS => ?_)
        have hP : va_P dd cls5 [(oM, .inr (4, [.ref aKy, .int s_j83.th, .ref s_j83.aT, .int s_j83.fd, .int s_j83.fa, .int s_j83.pl, .int (s_j83.at_ + 1), .int s_j83.kd, .int s_j83.fr, .int s_j83.ky, .int s_j83.op, .int s_j83.ct, .ref s_j83.aKd, .ref s_j83.aBg, .ref s_j83.aPr, .ref s_j83.aSg, .ref s_j83.aNf, .ref s_j83.aNl, .ref s_j83.aDg, .ref s_j83.aBh, .ref s_j83.aDe, .ref s_j83.aPc, .ref s_j83.aFi, .ref s_j83.aNu, .ref s_j83.aN, .int s_j83.nd])), (aKy, .inl (cS, 17, .inr (.inr (.inr (.inr (kyF adK)))))), (s_j83.aT, .inl (cB, s_j83.nT, .inl s_j83.tp)), (s_j83.aKd, .inl (cI, s_j83.nR, .inl s_j83.Kd)), (s_j83.aBg, .inl (cI, s_j83.nR, .inl s_j83.Bg)), (s_j83.aPr, .inl (cI, s_j83.nR, .inl s_j83.Pr)), (s_j83.aSg, .inl (cI, s_j83.nR, .inl s_j83.Sg)), (s_j83.aNf, .inl (cI, s_j83.nR, .inl s_j83.Nf)), (s_j83.aNl, .inl (cI, s_j83.nR, .inl s_j83.Nl)), (s_j83.aDg, .inl (cL, s_j83.nR, .inr (.inl s_j83.Dg))), (s_j83.aBh, .inl (cI, s_j83.nR, .inl s_j83.Bh)), (s_j83.aDe, .inl (cI, s_j83.nR, .inl s_j83.De)), (s_j83.aPc, .inl (cI, s_j83.nR, .inl s_j83.Pc)), (s_j83.aFi, .inl (cI, s_j83.nR, .inl s_j83.Fi)), (s_j83.aNu, .inl (cI, s_j83.nR, .inl s_j83.Nu)), (s_j83.aN, .inl (cB, s_j83.nN, .inl s_j83.nm))] H := hP
        have hD : va_D A [(oM, .inr (4, [.ref aKy, .int s_j83.th, .ref s_j83.aT, .int s_j83.fd, .int s_j83.fa, .int s_j83.pl, .int (s_j83.at_ + 1), .int s_j83.kd, .int s_j83.fr, .int s_j83.ky, .int s_j83.op, .int s_j83.ct, .ref s_j83.aKd, .ref s_j83.aBg, .ref s_j83.aPr, .ref s_j83.aSg, .ref s_j83.aNf, .ref s_j83.aNl, .ref s_j83.aDg, .ref s_j83.aBh, .ref s_j83.aDe, .ref s_j83.aPc, .ref s_j83.aFi, .ref s_j83.aNu, .ref s_j83.aN, .int s_j83.nd])), (aKy, .inl (cS, 17, .inr (.inr (.inr (.inr (kyF adK)))))), (s_j83.aT, .inl (cB, s_j83.nT, .inl s_j83.tp)), (s_j83.aKd, .inl (cI, s_j83.nR, .inl s_j83.Kd)), (s_j83.aBg, .inl (cI, s_j83.nR, .inl s_j83.Bg)), (s_j83.aPr, .inl (cI, s_j83.nR, .inl s_j83.Pr)), (s_j83.aSg, .inl (cI, s_j83.nR, .inl s_j83.Sg)), (s_j83.aNf, .inl (cI, s_j83.nR, .inl s_j83.Nf)), (s_j83.aNl, .inl (cI, s_j83.nR, .inl s_j83.Nl)), (s_j83.aDg, .inl (cL, s_j83.nR, .inr (.inl s_j83.Dg))), (s_j83.aBh, .inl (cI, s_j83.nR, .inl s_j83.Bh)), (s_j83.aDe, .inl (cI, s_j83.nR, .inl s_j83.De)), (s_j83.aPc, .inl (cI, s_j83.nR, .inl s_j83.Pc)), (s_j83.aFi, .inl (cI, s_j83.nR, .inl s_j83.Fi)), (s_j83.aNu, .inl (cI, s_j83.nR, .inl s_j83.Nu)), (s_j83.aN, .inl (cB, s_j83.nN, .inl s_j83.nm))] := hD
        refine lv_goto (tgt := 55) hx hb d_M_next_93 (by decide) ?_
        exact ih_55 (RS.w_at_ s_j83 (s_j83.at_ + 1)) _ _ _ hv (hP.sub [0, 1, 2, 3, 4, 5, 6, 7, 8, 9, 10, 11, 12, 13, 14, 15] rfl) (hD.sub [0, 1, 2, 3, 4, 5, 6, 7, 8, 9, 10, 11, 12, 13, 14, 15] (by decide) rfl) hS (lv_sub hl [0] rfl)
      refine lv_aload_n hx hb d_M_next_55 rfl (lv_at hl 0 rfl) ?_
      refine lv_aload_n hx hb d_M_next_56 rfl (lv_at hl 0 rfl) ?_
      refine va_get (D := dd) (ci := 4) (C := Rc_M) (T := Fc_M) (N := 26) (v := .int s_h55.at_) hx hb hts (inn in_M) hown hK hP 0 rfl rfl 6 (by decide) (hts (.fieldLink "NetTextModel" 111 "NetTextModel" "at" "I") (tg at_772)) (fun _ h9 => h9) rfl d_M_next_57 ?_
      have hM := met_M_byteAt (l := l) (dd := dd) (cB := cB) (cI := cI) (cL := cL) (cS := cS) (adK := adK) (adV := adV) (oM := oM) (aKy := aKy)  hv
      refine krv_i (st := [.int s_h55.at_, .ref oM]) (rest := []) ⟨hx, hb, hml, hown, hts⟩ hM (cwV 1 hts (gv (tg0 at_877) (tg0 at_879) (tg0 ap_53) (tg0 at_5) (tg0 at_880)) rfl rfl rfl (by decide +kernel) (rk (by omega) (by decide))) xfb (xfr hX hS) hP hK [0, 2] rfl (ci := 4) rfl rfl (q0 := 0) rfl rfl hl.1 rfl (Nat.le_of_ble_eq_true rfl) d_M_next_60 ⟨Nat.zero_le _, Nat.zero_le _⟩ (fun r_14 hv => ?_)
      have hM := met_M_isLetter (l := l) (dd := dd) (cB := cB) (cI := cI) (cL := cL) (cS := cS)   hv
      refine krs_i (st := [.int r_14]) (rest := []) ⟨hx, hb, hml, hown, hts⟩ hM (cwS 1 hts (gs (tg0 at_881) (tg0 at_882) (tg0 at_5) (tg0 at_883)) rfl rfl rfl (by decide +kernel) (rk (by omega) (by decide))) x0b (fun _ _ _ => trivial) hP hK [] rfl rfl hl.1 rfl (Nat.le_of_ble_eq_true rfl) d_M_next_63 ⟨Nat.zero_le _, Nat.zero_le _⟩ (fun r_15 hv => ?_)
      refine lv_if_ne (tgt := 83) hx hb d_M_next_66 (by decide) (fun b_16 => ?_) (fun b_16 => ?_)
      · have hv := hv.1 b_16
        exact JP_83 s_h55 _ _ _ hv (hP.sub [0, 1, 2, 3, 4, 5, 6, 7, 8, 9, 10, 11, 12, 13, 14, 15] rfl) (hD.sub [0, 1, 2, 3, 4, 5, 6, 7, 8, 9, 10, 11, 12, 13, 14, 15] (by decide) rfl) hS (lv_sub hl [0] rfl)
      · have hv := hv.2 b_16
        refine lv_aload_n hx hb d_M_next_69 rfl (lv_at hl 0 rfl) ?_
        refine lv_aload_n hx hb d_M_next_70 rfl (lv_at hl 0 rfl) ?_
        refine va_get (D := dd) (ci := 4) (C := Rc_M) (T := Fc_M) (N := 26) (v := .int s_h55.at_) hx hb hts (inn in_M) hown hK hP 0 rfl rfl 6 (by decide) (hts (.fieldLink "NetTextModel" 111 "NetTextModel" "at" "I") (tg at_772)) (fun _ h9 => h9) rfl d_M_next_71 ?_
        have hM := met_M_byteAt (l := l) (dd := dd) (cB := cB) (cI := cI) (cL := cL) (cS := cS) (adK := adK) (adV := adV) (oM := oM) (aKy := aKy)  hv
        refine krv_i (st := [.int s_h55.at_, .ref oM]) (rest := []) ⟨hx, hb, hml, hown, hts⟩ hM (cwV 1 hts (gv (tg0 at_877) (tg0 at_879) (tg0 ap_53) (tg0 at_5) (tg0 at_880)) rfl rfl rfl (by decide +kernel) (rk (by omega) (by decide))) xfb (xfr hX hS) hP hK [0, 2] rfl (ci := 4) rfl rfl (q0 := 0) rfl rfl hl.1 rfl (Nat.le_of_ble_eq_true rfl) d_M_next_74 ⟨Nat.zero_le _, Nat.zero_le _⟩ (fun r_17 hv => ?_)
        have hM := met_M_isDigit (l := l) (dd := dd) (cB := cB) (cI := cI) (cL := cL) (cS := cS)   hv
        refine krs_i (st := [.int r_17]) (rest := []) ⟨hx, hb, hml, hown, hts⟩ hM (cwS 1 hts (gs (tg0 at_884) (tg0 at_885) (tg0 at_5) (tg0 at_886)) rfl rfl rfl (by decide +kernel) (rk (by omega) (by decide))) x0b (fun _ _ _ => trivial) hP hK [] rfl rfl hl.1 rfl (Nat.le_of_ble_eq_true rfl) d_M_next_77 ⟨Nat.zero_le _, Nat.zero_le _⟩ (fun r_18 hv => ?_)
        refine lv_if_eq (tgt := 96) hx hb d_M_next_80 (by decide) (fun b_19 => ?_) (fun b_19 => ?_)
        · have hv := hv.1 b_19
          refine lv_aload_n hx hb d_M_next_96 rfl (lv_at hl 0 rfl) ?_
          refine lv_aload_n hx hb d_M_next_97 rfl (lv_at hl 0 rfl) ?_
          refine va_get (D := dd) (ci := 4) (C := Rc_M) (T := Fc_M) (N := 26) (v := .int s_h55.at_) hx hb hts (inn in_M) hown hK hP 0 rfl rfl 6 (by decide) (hts (.fieldLink "NetTextModel" 111 "NetTextModel" "at" "I") (tg at_772)) (fun _ h9 => h9) rfl d_M_next_98 ?_
          refine lv_aload_n hx hb d_M_next_101 rfl (lv_at hl 0 rfl) ?_
          refine va_get (D := dd) (ci := 4) (C := Rc_M) (T := Fc_M) (N := 26) (v := .int s_h55.fr) hx hb hts (inn in_M) hown hK hP 0 rfl rfl 8 (by decide) (hts (.fieldLink "NetTextModel" 114 "NetTextModel" "from" "I") (tg at_774)) (fun _ h9 => h9) rfl d_M_next_102 ?_
          refine lv_isub hx hb d_M_next_105 ?_
          refine lv_bipush (v := 40) hx hb d_M_next_106 (by decide) ?_
          refine lv_icmp_le (tgt := 115) hx hb d_M_next_108 (by decide) (fun b_20 => ?_) (fun b_20 => ?_)
          · have hv := hv.1 b_20
            refine lv_iconst (v := 1) hx hb d_M_next_115 (by decide) ?_
            exact JP_116 1 s_h55 _ _ _ hv (hP.sub [0, 1, 2, 3, 4, 5, 6, 7, 8, 9, 10, 11, 12, 13, 14, 15] rfl) (hD.sub [0, 1, 2, 3, 4, 5, 6, 7, 8, 9, 10, 11, 12, 13, 14, 15] (by decide) rfl) hS (lv_sub hl [0] rfl)
          · have hv := hv.2 b_20
            refine lv_iconst (v := 4) hx hb d_M_next_111 (by decide) ?_
            refine lv_goto (tgt := 116) hx hb d_M_next_112 (by decide) ?_
            exact JP_116 4 s_h55 _ _ _ hv (hP.sub [0, 1, 2, 3, 4, 5, 6, 7, 8, 9, 10, 11, 12, 13, 14, 15] rfl) (hD.sub [0, 1, 2, 3, 4, 5, 6, 7, 8, 9, 10, 11, 12, 13, 14, 15] (by decide) rfl) hS (lv_sub hl [0] rfl)
        · have hv := hv.2 b_19
          exact JP_83 s_h55 _ _ _ hv (hP.sub [0, 1, 2, 3, 4, 5, 6, 7, 8, 9, 10, 11, 12, 13, 14, 15] rfl) (hD.sub [0, 1, 2, 3, 4, 5, 6, 7, 8, 9, 10, 11, 12, 13, 14, 15] (by decide) rfl) hS (lv_sub hl [0] rfl)
  refine lv_aload_n hx hb d_M_next_0 rfl (lv_at hl 0 rfl) ?_
  refine lv_aload_n hx hb d_M_next_1 rfl (lv_at hl 0 rfl) ?_
  refine lv_aload_n hx hb d_M_next_2 rfl (lv_at hl 0 rfl) ?_
  refine va_get (D := dd) (ci := 4) (C := Rc_M) (T := Fc_M) (N := 26) (v := .int zs.at_) hx hb hts (inn in_M) hown hK hP 0 rfl rfl 6 (by decide) (hts (.fieldLink "NetTextModel" 111 "NetTextModel" "at" "I") (tg at_772)) (fun _ h9 => h9) rfl d_M_next_3 ?_
  have hM := met_M_behindBlanks (l := l) (dd := dd) (cB := cB) (cI := cI) (cL := cL) (cS := cS) (adK := adK) (adV := adV) (oM := oM) (aKy := aKy)  hv
  refine krv_i (st := [.int zs.at_, .ref oM, .ref oM]) (rest := [.ref oM]) ⟨hx, hb, hml, hown, hts⟩ hM (cwV 1 hts (gv (tg0 at_873) (tg0 at_875) (tg0 ap_52) (tg0 at_5) (tg0 at_876)) rfl rfl rfl (by decide +kernel) (rk (by omega) (by decide))) xfb (xfr hX hS) hP hK [0, 2] rfl (ci := 4) rfl rfl (q0 := 0) rfl rfl hl.1 rfl (Nat.le_of_ble_eq_true rfl) d_M_next_6 ⟨Nat.zero_le _, Nat.zero_le _⟩ (fun r_1 hv => ?_)
  refine va_put (D := dd) (ci := 4) (C := Rc_M) (T := Fc_M) (N := 26) (v := .int r_1) (ty := .int) hx hb hts (inn in_M) tyf_M tyf_M_ok nmf_M hown hK hP hD hS 0 rfl rfl 8 (by decide) (hts (.fieldLink "NetTextModel" 114 "NetTextModel" "from" "I") (tg at_774)) (fun _ h9 => h9) rfl (by decide +kernel) rfl rfl (Nat.le_of_ble_eq_true rfl) d_M_next_9 (fun H locs hP hD hS => ?_)
  have hP : va_P dd cls5 [(oM, .inr (4, [.ref aKy, .int zs.th, .ref zs.aT, .int zs.fd, .int zs.fa, .int zs.pl, .int zs.at_, .int zs.kd, .int r_1, .int zs.ky, .int zs.op, .int zs.ct, .ref zs.aKd, .ref zs.aBg, .ref zs.aPr, .ref zs.aSg, .ref zs.aNf, .ref zs.aNl, .ref zs.aDg, .ref zs.aBh, .ref zs.aDe, .ref zs.aPc, .ref zs.aFi, .ref zs.aNu, .ref zs.aN, .int zs.nd])), (aKy, .inl (cS, 17, .inr (.inr (.inr (.inr (kyF adK)))))), (zs.aT, .inl (cB, zs.nT, .inl zs.tp)), (zs.aKd, .inl (cI, zs.nR, .inl zs.Kd)), (zs.aBg, .inl (cI, zs.nR, .inl zs.Bg)), (zs.aPr, .inl (cI, zs.nR, .inl zs.Pr)), (zs.aSg, .inl (cI, zs.nR, .inl zs.Sg)), (zs.aNf, .inl (cI, zs.nR, .inl zs.Nf)), (zs.aNl, .inl (cI, zs.nR, .inl zs.Nl)), (zs.aDg, .inl (cL, zs.nR, .inr (.inl zs.Dg))), (zs.aBh, .inl (cI, zs.nR, .inl zs.Bh)), (zs.aDe, .inl (cI, zs.nR, .inl zs.De)), (zs.aPc, .inl (cI, zs.nR, .inl zs.Pc)), (zs.aFi, .inl (cI, zs.nR, .inl zs.Fi)), (zs.aNu, .inl (cI, zs.nR, .inl zs.Nu)), (zs.aN, .inl (cB, zs.nN, .inl zs.nm))] H := hP
  have hD : va_D A [(oM, .inr (4, [.ref aKy, .int zs.th, .ref zs.aT, .int zs.fd, .int zs.fa, .int zs.pl, .int zs.at_, .int zs.kd, .int r_1, .int zs.ky, .int zs.op, .int zs.ct, .ref zs.aKd, .ref zs.aBg, .ref zs.aPr, .ref zs.aSg, .ref zs.aNf, .ref zs.aNl, .ref zs.aDg, .ref zs.aBh, .ref zs.aDe, .ref zs.aPc, .ref zs.aFi, .ref zs.aNu, .ref zs.aN, .int zs.nd])), (aKy, .inl (cS, 17, .inr (.inr (.inr (.inr (kyF adK)))))), (zs.aT, .inl (cB, zs.nT, .inl zs.tp)), (zs.aKd, .inl (cI, zs.nR, .inl zs.Kd)), (zs.aBg, .inl (cI, zs.nR, .inl zs.Bg)), (zs.aPr, .inl (cI, zs.nR, .inl zs.Pr)), (zs.aSg, .inl (cI, zs.nR, .inl zs.Sg)), (zs.aNf, .inl (cI, zs.nR, .inl zs.Nf)), (zs.aNl, .inl (cI, zs.nR, .inl zs.Nl)), (zs.aDg, .inl (cL, zs.nR, .inr (.inl zs.Dg))), (zs.aBh, .inl (cI, zs.nR, .inl zs.Bh)), (zs.aDe, .inl (cI, zs.nR, .inl zs.De)), (zs.aPc, .inl (cI, zs.nR, .inl zs.Pc)), (zs.aFi, .inl (cI, zs.nR, .inl zs.Fi)), (zs.aNu, .inl (cI, zs.nR, .inl zs.Nu)), (zs.aN, .inl (cB, zs.nN, .inl zs.nm))] := hD
  refine lv_aload_n hx hb d_M_next_12 rfl (lv_at hl 0 rfl) ?_
  refine lv_aload_n hx hb d_M_next_13 rfl (lv_at hl 0 rfl) ?_
  refine va_get (D := dd) (ci := 4) (C := Rc_M) (T := Fc_M) (N := 26) (v := .int r_1) hx hb hts (inn in_M) hown hK hP 0 rfl rfl 8 (by decide) (hts (.fieldLink "NetTextModel" 114 "NetTextModel" "from" "I") (tg at_774)) (fun _ h9 => h9) rfl d_M_next_14 ?_
  refine va_put (D := dd) (ci := 4) (C := Rc_M) (T := Fc_M) (N := 26) (v := .int r_1) (ty := .int) hx hb hts (inn in_M) tyf_M tyf_M_ok nmf_M hown hK hP hD hS 0 rfl rfl 6 (by decide) (hts (.fieldLink "NetTextModel" 111 "NetTextModel" "at" "I") (tg at_772)) (fun _ h9 => h9) rfl (by decide +kernel) rfl rfl (Nat.le_of_ble_eq_true rfl) d_M_next_17 (fun H locs hP hD hS => ?_)
  have hP : va_P dd cls5 [(oM, .inr (4, [.ref aKy, .int zs.th, .ref zs.aT, .int zs.fd, .int zs.fa, .int zs.pl, .int r_1, .int zs.kd, .int r_1, .int zs.ky, .int zs.op, .int zs.ct, .ref zs.aKd, .ref zs.aBg, .ref zs.aPr, .ref zs.aSg, .ref zs.aNf, .ref zs.aNl, .ref zs.aDg, .ref zs.aBh, .ref zs.aDe, .ref zs.aPc, .ref zs.aFi, .ref zs.aNu, .ref zs.aN, .int zs.nd])), (aKy, .inl (cS, 17, .inr (.inr (.inr (.inr (kyF adK)))))), (zs.aT, .inl (cB, zs.nT, .inl zs.tp)), (zs.aKd, .inl (cI, zs.nR, .inl zs.Kd)), (zs.aBg, .inl (cI, zs.nR, .inl zs.Bg)), (zs.aPr, .inl (cI, zs.nR, .inl zs.Pr)), (zs.aSg, .inl (cI, zs.nR, .inl zs.Sg)), (zs.aNf, .inl (cI, zs.nR, .inl zs.Nf)), (zs.aNl, .inl (cI, zs.nR, .inl zs.Nl)), (zs.aDg, .inl (cL, zs.nR, .inr (.inl zs.Dg))), (zs.aBh, .inl (cI, zs.nR, .inl zs.Bh)), (zs.aDe, .inl (cI, zs.nR, .inl zs.De)), (zs.aPc, .inl (cI, zs.nR, .inl zs.Pc)), (zs.aFi, .inl (cI, zs.nR, .inl zs.Fi)), (zs.aNu, .inl (cI, zs.nR, .inl zs.Nu)), (zs.aN, .inl (cB, zs.nN, .inl zs.nm))] H := hP
  have hD : va_D A [(oM, .inr (4, [.ref aKy, .int zs.th, .ref zs.aT, .int zs.fd, .int zs.fa, .int zs.pl, .int r_1, .int zs.kd, .int r_1, .int zs.ky, .int zs.op, .int zs.ct, .ref zs.aKd, .ref zs.aBg, .ref zs.aPr, .ref zs.aSg, .ref zs.aNf, .ref zs.aNl, .ref zs.aDg, .ref zs.aBh, .ref zs.aDe, .ref zs.aPc, .ref zs.aFi, .ref zs.aNu, .ref zs.aN, .int zs.nd])), (aKy, .inl (cS, 17, .inr (.inr (.inr (.inr (kyF adK)))))), (zs.aT, .inl (cB, zs.nT, .inl zs.tp)), (zs.aKd, .inl (cI, zs.nR, .inl zs.Kd)), (zs.aBg, .inl (cI, zs.nR, .inl zs.Bg)), (zs.aPr, .inl (cI, zs.nR, .inl zs.Pr)), (zs.aSg, .inl (cI, zs.nR, .inl zs.Sg)), (zs.aNf, .inl (cI, zs.nR, .inl zs.Nf)), (zs.aNl, .inl (cI, zs.nR, .inl zs.Nl)), (zs.aDg, .inl (cL, zs.nR, .inr (.inl zs.Dg))), (zs.aBh, .inl (cI, zs.nR, .inl zs.Bh)), (zs.aDe, .inl (cI, zs.nR, .inl zs.De)), (zs.aPc, .inl (cI, zs.nR, .inl zs.Pc)), (zs.aFi, .inl (cI, zs.nR, .inl zs.Fi)), (zs.aNu, .inl (cI, zs.nR, .inl zs.Nu)), (zs.aN, .inl (cB, zs.nN, .inl zs.nm))] := hD
  refine lv_aload_n hx hb d_M_next_20 rfl (lv_at hl 0 rfl) ?_
  refine lv_aload_n hx hb d_M_next_21 rfl (lv_at hl 0 rfl) ?_
  refine va_get (D := dd) (ci := 4) (C := Rc_M) (T := Fc_M) (N := 26) (v := .int r_1) hx hb hts (inn in_M) hown hK hP 0 rfl rfl 8 (by decide) (hts (.fieldLink "NetTextModel" 114 "NetTextModel" "from" "I") (tg at_774)) (fun _ h9 => h9) rfl d_M_next_22 ?_
  have hM := met_M_byteAt (l := l) (dd := dd) (cB := cB) (cI := cI) (cL := cL) (cS := cS) (adK := adK) (adV := adV) (oM := oM) (aKy := aKy)  hv
  refine krv_i (st := [.int r_1, .ref oM]) (rest := []) ⟨hx, hb, hml, hown, hts⟩ hM (cwV 1 hts (gv (tg0 at_877) (tg0 at_879) (tg0 ap_53) (tg0 at_5) (tg0 at_880)) rfl rfl rfl (by decide +kernel) (rk (by omega) (by decide))) xfb (xfr hX hS) hP hK [0, 2] rfl (ci := 4) rfl rfl (q0 := 0) rfl rfl hl.1 rfl (Nat.le_of_ble_eq_true rfl) d_M_next_25 ⟨Nat.zero_le _, Nat.zero_le _⟩ (fun r_2 hv => ?_)
  refine lv_istore_n (lv' := [(1, .int r_2), (0, .ref oM)]) hx hb d_M_next_28 rfl hl (by decide) rfl (fun ls hl => ?_)
  refine lv_aload_n hx hb d_M_next_29 rfl (lv_at hl 1 rfl) ?_
  refine va_get (D := dd) (ci := 4) (C := Rc_M) (T := Fc_M) (N := 26) (v := .int r_1) hx hb hts (inn in_M) hown hK hP 0 rfl rfl 8 (by decide) (hts (.fieldLink "NetTextModel" 114 "NetTextModel" "from" "I") (tg at_774)) (fun _ h9 => h9) rfl d_M_next_30 ?_
  refine lv_aload_n hx hb d_M_next_33 rfl (lv_at hl 1 rfl) ?_
  refine va_get (D := dd) (ci := 4) (C := Rc_M) (T := Fc_M) (N := 26) (v := .int zs.fd) hx hb hts (inn in_M) hown hK hP 0 rfl rfl 3 (by decide) (hts (.fieldLink "NetTextModel" 101 "NetTextModel" "fed" "I") (tg at_769)) (fun _ h9 => h9) rfl d_M_next_34 ?_
  refine lv_icmp_lt (tgt := 48) hx hb d_M_next_37 (by decide) (fun b_3 => ?_) (fun b_3 => ?_)
  · have hv := hv.1 b_3
    refine lv_iload_n hx hb d_M_next_48 rfl (lv_at hl 0 rfl) ?_
    have hM := met_M_isLetter (l := l) (dd := dd) (cB := cB) (cI := cI) (cL := cL) (cS := cS)   hv
    refine krs_i (st := [.int r_2]) (rest := []) ⟨hx, hb, hml, hown, hts⟩ hM (cwS 1 hts (gs (tg0 at_881) (tg0 at_882) (tg0 at_5) (tg0 at_883)) rfl rfl rfl (by decide +kernel) (rk (by omega) (by decide))) x0b (fun _ _ _ => trivial) hP hK [] rfl rfl hl.1 rfl (Nat.le_of_ble_eq_true rfl) d_M_next_49 ⟨Nat.zero_le _, Nat.zero_le _⟩ (fun r_4 hv => ?_)
    refine lv_if_eq (tgt := 162) hx hb d_M_next_52 (by decide) (fun b_5 => ?_) (fun b_5 => ?_)
    · have hv := hv.1 b_5
      refine lv_iload_n hx hb d_M_next_162 rfl (lv_at hl 0 rfl) ?_
      have hM := met_M_isDigit (l := l) (dd := dd) (cB := cB) (cI := cI) (cL := cL) (cS := cS)   hv
      refine krs_i (st := [.int r_2]) (rest := []) ⟨hx, hb, hml, hown, hts⟩ hM (cwS 1 hts (gs (tg0 at_884) (tg0 at_885) (tg0 at_5) (tg0 at_886)) rfl rfl rfl (by decide +kernel) (rk (by omega) (by decide))) x0b (fun _ _ _ => trivial) hP hK [] rfl rfl hl.1 rfl (Nat.le_of_ble_eq_true rfl) d_M_next_163 ⟨Nat.zero_le _, Nat.zero_le _⟩ (fun r_6 hv => ?_)
      refine lv_if_eq (tgt := 176) hx hb d_M_next_166 (by decide) (fun b_7 => ?_) (fun b_7 => ?_)
      · have hv := hv.1 b_7
        refine lv_aload_n hx hb d_M_next_176 rfl (lv_at hl 1 rfl) ?_
        refine lv_dup hx hb d_M_next_177 rfl ?_
        refine va_get (D := dd) (ci := 4) (C := Rc_M) (T := Fc_M) (N := 26) (v := .int r_1) hx hb hts (inn in_M) hown hK hP 0 rfl rfl 6 (by decide) (hts (.fieldLink "NetTextModel" 111 "NetTextModel" "at" "I") (tg at_772)) (fun _ h9 => h9) rfl d_M_next_178 ?_
        refine lv_iconst (v := 1) hx hb d_M_next_181 (by decide) ?_
        refine lv_iadd hx hb d_M_next_182 ?_
        refine va_put (D := dd) (ci := 4) (C := Rc_M) (T := Fc_M) (N := 26) (v := .int (r_1 + 1)) (ty := .int) hx hb hts (inn in_M) tyf_M tyf_M_ok nmf_M hown hK hP hD hS 0 rfl rfl 6 (by decide) (hts (.fieldLink "NetTextModel" 111 "NetTextModel" "at" "I") (tg at_772)) (fun _ h9 => h9) rfl (by decide +kernel) rfl rfl (Nat.le_of_ble_eq_true rfl) d_M_next_183 (fun H locs hP hD hS => ?_)
        have hP : va_P dd cls5 [(oM, .inr (4, [.ref aKy, .int zs.th, .ref zs.aT, .int zs.fd, .int zs.fa, .int zs.pl, .int (r_1 + 1), .int zs.kd, .int r_1, .int zs.ky, .int zs.op, .int zs.ct, .ref zs.aKd, .ref zs.aBg, .ref zs.aPr, .ref zs.aSg, .ref zs.aNf, .ref zs.aNl, .ref zs.aDg, .ref zs.aBh, .ref zs.aDe, .ref zs.aPc, .ref zs.aFi, .ref zs.aNu, .ref zs.aN, .int zs.nd])), (aKy, .inl (cS, 17, .inr (.inr (.inr (.inr (kyF adK)))))), (zs.aT, .inl (cB, zs.nT, .inl zs.tp)), (zs.aKd, .inl (cI, zs.nR, .inl zs.Kd)), (zs.aBg, .inl (cI, zs.nR, .inl zs.Bg)), (zs.aPr, .inl (cI, zs.nR, .inl zs.Pr)), (zs.aSg, .inl (cI, zs.nR, .inl zs.Sg)), (zs.aNf, .inl (cI, zs.nR, .inl zs.Nf)), (zs.aNl, .inl (cI, zs.nR, .inl zs.Nl)), (zs.aDg, .inl (cL, zs.nR, .inr (.inl zs.Dg))), (zs.aBh, .inl (cI, zs.nR, .inl zs.Bh)), (zs.aDe, .inl (cI, zs.nR, .inl zs.De)), (zs.aPc, .inl (cI, zs.nR, .inl zs.Pc)), (zs.aFi, .inl (cI, zs.nR, .inl zs.Fi)), (zs.aNu, .inl (cI, zs.nR, .inl zs.Nu)), (zs.aN, .inl (cB, zs.nN, .inl zs.nm))] H := hP
        have hD : va_D A [(oM, .inr (4, [.ref aKy, .int zs.th, .ref zs.aT, .int zs.fd, .int zs.fa, .int zs.pl, .int (r_1 + 1), .int zs.kd, .int r_1, .int zs.ky, .int zs.op, .int zs.ct, .ref zs.aKd, .ref zs.aBg, .ref zs.aPr, .ref zs.aSg, .ref zs.aNf, .ref zs.aNl, .ref zs.aDg, .ref zs.aBh, .ref zs.aDe, .ref zs.aPc, .ref zs.aFi, .ref zs.aNu, .ref zs.aN, .int zs.nd])), (aKy, .inl (cS, 17, .inr (.inr (.inr (.inr (kyF adK)))))), (zs.aT, .inl (cB, zs.nT, .inl zs.tp)), (zs.aKd, .inl (cI, zs.nR, .inl zs.Kd)), (zs.aBg, .inl (cI, zs.nR, .inl zs.Bg)), (zs.aPr, .inl (cI, zs.nR, .inl zs.Pr)), (zs.aSg, .inl (cI, zs.nR, .inl zs.Sg)), (zs.aNf, .inl (cI, zs.nR, .inl zs.Nf)), (zs.aNl, .inl (cI, zs.nR, .inl zs.Nl)), (zs.aDg, .inl (cL, zs.nR, .inr (.inl zs.Dg))), (zs.aBh, .inl (cI, zs.nR, .inl zs.Bh)), (zs.aDe, .inl (cI, zs.nR, .inl zs.De)), (zs.aPc, .inl (cI, zs.nR, .inl zs.Pc)), (zs.aFi, .inl (cI, zs.nR, .inl zs.Fi)), (zs.aNu, .inl (cI, zs.nR, .inl zs.Nu)), (zs.aN, .inl (cB, zs.nN, .inl zs.nm))] := hD
        refine lv_aload_n hx hb d_M_next_186 rfl (lv_at hl 1 rfl) ?_
        refine va_ldcS hx hb hown (show vk_R "NetTextModel" 152 "+-*@/()[]{},;=.~" (adK 39) s from xf_r hX (i := 39) (by decide)) d_M_next_187 ?_
        refine lv_iload_n hx hb d_M_next_189 rfl (lv_at hl 0 rfl) ?_
        refine lv_i2c (v := ((r_2.toUInt32 % 65536).toInt32)) hx hb d_M_next_190 rfl ?_
        refine krO_i (st := [.int ((r_2.toUInt32 % 65536).toInt32), .ref (adK 39), .ref oM]) (rest := [.ref oM]) ⟨hx, hb, hml, hown, hts⟩ (sl_idx (l := l) (dd := dd) (cB := cB) (cI := cI) (cL := cL) (cS := cS) (adK := adK) (adV := adV)  (by decide) (c := ((r_2.toUInt32 % 65536).toInt32))) (cwV 1 hts (gv (tg0 at_898) (tg0 at_276) (tg0 at_277) (tg0 at_14) (tg0 at_278)) rfl rfl rfl (by decide +kernel) (rk (by omega) (by decide))) xfb (xfr hX hS) hP hK [] rfl (xf_o hX hS (by decide)) rfl hl.1 rfl (Nat.le_of_ble_eq_true rfl) d_M_next_191 ⟨Nat.zero_le _, Nat.zero_le _⟩ (fun r_8 hq => ?_)
        have hv := hv r_8 hq
        refine lv_if_lt (tgt := 201) hx hb d_M_next_194 (by decide) (fun b_9 => ?_) (fun b_9 => ?_)
        · have hv := hv.1 b_9
          refine lv_iconst (v := 4) hx hb d_M_next_201 (by decide) ?_
          refine va_put (D := dd) (ci := 4) (C := Rc_M) (T := Fc_M) (N := 26) (v := .int 4) (ty := .int) hx hb hts (inn in_M) tyf_M tyf_M_ok nmf_M hown hK hP hD hS 0 rfl rfl 7 (by decide) (hts (.fieldLink "NetTextModel" 132 "NetTextModel" "kind" "I") (tg at_773)) (fun _ h9 => h9) rfl (by decide +kernel) rfl rfl (Nat.le_of_ble_eq_true rfl) d_M_next_202 (fun H locs hP hD hS => ?_)
          have hP : va_P dd cls5 [(oM, .inr (4, [.ref aKy, .int zs.th, .ref zs.aT, .int zs.fd, .int zs.fa, .int zs.pl, .int (r_1 + 1), .int 4, .int r_1, .int zs.ky, .int zs.op, .int zs.ct, .ref zs.aKd, .ref zs.aBg, .ref zs.aPr, .ref zs.aSg, .ref zs.aNf, .ref zs.aNl, .ref zs.aDg, .ref zs.aBh, .ref zs.aDe, .ref zs.aPc, .ref zs.aFi, .ref zs.aNu, .ref zs.aN, .int zs.nd])), (aKy, .inl (cS, 17, .inr (.inr (.inr (.inr (kyF adK)))))), (zs.aT, .inl (cB, zs.nT, .inl zs.tp)), (zs.aKd, .inl (cI, zs.nR, .inl zs.Kd)), (zs.aBg, .inl (cI, zs.nR, .inl zs.Bg)), (zs.aPr, .inl (cI, zs.nR, .inl zs.Pr)), (zs.aSg, .inl (cI, zs.nR, .inl zs.Sg)), (zs.aNf, .inl (cI, zs.nR, .inl zs.Nf)), (zs.aNl, .inl (cI, zs.nR, .inl zs.Nl)), (zs.aDg, .inl (cL, zs.nR, .inr (.inl zs.Dg))), (zs.aBh, .inl (cI, zs.nR, .inl zs.Bh)), (zs.aDe, .inl (cI, zs.nR, .inl zs.De)), (zs.aPc, .inl (cI, zs.nR, .inl zs.Pc)), (zs.aFi, .inl (cI, zs.nR, .inl zs.Fi)), (zs.aNu, .inl (cI, zs.nR, .inl zs.Nu)), (zs.aN, .inl (cB, zs.nN, .inl zs.nm))] H := hP
          have hD : va_D A [(oM, .inr (4, [.ref aKy, .int zs.th, .ref zs.aT, .int zs.fd, .int zs.fa, .int zs.pl, .int (r_1 + 1), .int 4, .int r_1, .int zs.ky, .int zs.op, .int zs.ct, .ref zs.aKd, .ref zs.aBg, .ref zs.aPr, .ref zs.aSg, .ref zs.aNf, .ref zs.aNl, .ref zs.aDg, .ref zs.aBh, .ref zs.aDe, .ref zs.aPc, .ref zs.aFi, .ref zs.aNu, .ref zs.aN, .int zs.nd])), (aKy, .inl (cS, 17, .inr (.inr (.inr (.inr (kyF adK)))))), (zs.aT, .inl (cB, zs.nT, .inl zs.tp)), (zs.aKd, .inl (cI, zs.nR, .inl zs.Kd)), (zs.aBg, .inl (cI, zs.nR, .inl zs.Bg)), (zs.aPr, .inl (cI, zs.nR, .inl zs.Pr)), (zs.aSg, .inl (cI, zs.nR, .inl zs.Sg)), (zs.aNf, .inl (cI, zs.nR, .inl zs.Nf)), (zs.aNl, .inl (cI, zs.nR, .inl zs.Nl)), (zs.aDg, .inl (cL, zs.nR, .inr (.inl zs.Dg))), (zs.aBh, .inl (cI, zs.nR, .inl zs.Bh)), (zs.aDe, .inl (cI, zs.nR, .inl zs.De)), (zs.aPc, .inl (cI, zs.nR, .inl zs.Pc)), (zs.aFi, .inl (cI, zs.nR, .inl zs.Fi)), (zs.aNu, .inl (cI, zs.nR, .inl zs.Nu)), (zs.aN, .inl (cB, zs.nN, .inl zs.nm))] := hD
          subst hQ
          exact r_v hx hb hr hlocks  (RS.w_fr (RS.w_kd (RS.w_at_ zs (r_1 + 1)) 4) r_1) hv (hP.sub [0, 1, 2, 3, 4, 5, 6, 7, 8, 9, 10, 11, 12, 13, 14, 15] rfl) hK (hD.sub [0, 1, 2, 3, 4, 5, 6, 7, 8, 9, 10, 11, 12, 13, 14, 15] (by decide) rfl) hS (Nat.le_refl _) (Nat.le_refl _) d_M_next_205
        · have hv := hv.2 b_9
          refine lv_iconst (v := 3) hx hb d_M_next_197 (by decide) ?_
          refine lv_goto (tgt := 202) hx hb d_M_next_198 (by decide) ?_
          refine va_put (D := dd) (ci := 4) (C := Rc_M) (T := Fc_M) (N := 26) (v := .int 3) (ty := .int) hx hb hts (inn in_M) tyf_M tyf_M_ok nmf_M hown hK hP hD hS 0 rfl rfl 7 (by decide) (hts (.fieldLink "NetTextModel" 132 "NetTextModel" "kind" "I") (tg at_773)) (fun _ h9 => h9) rfl (by decide +kernel) rfl rfl (Nat.le_of_ble_eq_true rfl) d_M_next_202 (fun H locs hP hD hS => ?_)
          have hP : va_P dd cls5 [(oM, .inr (4, [.ref aKy, .int zs.th, .ref zs.aT, .int zs.fd, .int zs.fa, .int zs.pl, .int (r_1 + 1), .int 3, .int r_1, .int zs.ky, .int zs.op, .int zs.ct, .ref zs.aKd, .ref zs.aBg, .ref zs.aPr, .ref zs.aSg, .ref zs.aNf, .ref zs.aNl, .ref zs.aDg, .ref zs.aBh, .ref zs.aDe, .ref zs.aPc, .ref zs.aFi, .ref zs.aNu, .ref zs.aN, .int zs.nd])), (aKy, .inl (cS, 17, .inr (.inr (.inr (.inr (kyF adK)))))), (zs.aT, .inl (cB, zs.nT, .inl zs.tp)), (zs.aKd, .inl (cI, zs.nR, .inl zs.Kd)), (zs.aBg, .inl (cI, zs.nR, .inl zs.Bg)), (zs.aPr, .inl (cI, zs.nR, .inl zs.Pr)), (zs.aSg, .inl (cI, zs.nR, .inl zs.Sg)), (zs.aNf, .inl (cI, zs.nR, .inl zs.Nf)), (zs.aNl, .inl (cI, zs.nR, .inl zs.Nl)), (zs.aDg, .inl (cL, zs.nR, .inr (.inl zs.Dg))), (zs.aBh, .inl (cI, zs.nR, .inl zs.Bh)), (zs.aDe, .inl (cI, zs.nR, .inl zs.De)), (zs.aPc, .inl (cI, zs.nR, .inl zs.Pc)), (zs.aFi, .inl (cI, zs.nR, .inl zs.Fi)), (zs.aNu, .inl (cI, zs.nR, .inl zs.Nu)), (zs.aN, .inl (cB, zs.nN, .inl zs.nm))] H := hP
          have hD : va_D A [(oM, .inr (4, [.ref aKy, .int zs.th, .ref zs.aT, .int zs.fd, .int zs.fa, .int zs.pl, .int (r_1 + 1), .int 3, .int r_1, .int zs.ky, .int zs.op, .int zs.ct, .ref zs.aKd, .ref zs.aBg, .ref zs.aPr, .ref zs.aSg, .ref zs.aNf, .ref zs.aNl, .ref zs.aDg, .ref zs.aBh, .ref zs.aDe, .ref zs.aPc, .ref zs.aFi, .ref zs.aNu, .ref zs.aN, .int zs.nd])), (aKy, .inl (cS, 17, .inr (.inr (.inr (.inr (kyF adK)))))), (zs.aT, .inl (cB, zs.nT, .inl zs.tp)), (zs.aKd, .inl (cI, zs.nR, .inl zs.Kd)), (zs.aBg, .inl (cI, zs.nR, .inl zs.Bg)), (zs.aPr, .inl (cI, zs.nR, .inl zs.Pr)), (zs.aSg, .inl (cI, zs.nR, .inl zs.Sg)), (zs.aNf, .inl (cI, zs.nR, .inl zs.Nf)), (zs.aNl, .inl (cI, zs.nR, .inl zs.Nl)), (zs.aDg, .inl (cL, zs.nR, .inr (.inl zs.Dg))), (zs.aBh, .inl (cI, zs.nR, .inl zs.Bh)), (zs.aDe, .inl (cI, zs.nR, .inl zs.De)), (zs.aPc, .inl (cI, zs.nR, .inl zs.Pc)), (zs.aFi, .inl (cI, zs.nR, .inl zs.Fi)), (zs.aNu, .inl (cI, zs.nR, .inl zs.Nu)), (zs.aN, .inl (cB, zs.nN, .inl zs.nm))] := hD
          subst hQ
          exact r_v hx hb hr hlocks  (RS.w_fr (RS.w_kd (RS.w_at_ zs (r_1 + 1)) 3) r_1) hv (hP.sub [0, 1, 2, 3, 4, 5, 6, 7, 8, 9, 10, 11, 12, 13, 14, 15] rfl) hK (hD.sub [0, 1, 2, 3, 4, 5, 6, 7, 8, 9, 10, 11, 12, 13, 14, 15] (by decide) rfl) hS (Nat.le_refl _) (Nat.le_refl _) d_M_next_205
      · have hv := hv.2 b_7
        refine lv_aload_n hx hb d_M_next_169 rfl (lv_at hl 1 rfl) ?_
        have hM := met_M_figures (l := l) (dd := dd) (cB := cB) (cI := cI) (cL := cL) (cS := cS) (adK := adK) (adV := adV) (oM := oM) (aKy := aKy)  hv
        refine kv_v (st := [.ref oM]) (rest := []) (wr := []) ⟨hx, hb, hml, hown, hts⟩ hM (cwV 0 hts (gv (tg0 at_893) (tg0 at_895) (tg0 ap_55) (tg0 at_5) (tg0 at_896)) rfl rfl rfl (by decide +kernel) (rk (by omega) (by decide))) xfb (xfg hX) hP hK hD hS hA [0, 1, 2, 3, 4, 5, 6, 7, 8, 9, 10, 11, 12, 13, 14, 15] [] rfl rfl (by decide) (by decide) (by decide) (ci := 4) rfl rfl (q0 := 0) rfl rfl hl.1 rfl (Nat.le_of_ble_eq_true rfl) d_M_next_170 ⟨Nat.zero_le _, Nat.zero_le _⟩ (fun u_12 H locs hv hP hD hS => ?_)
        obtain ⟨zs_11, rfl⟩ : ∃ z, z = u_12 := ⟨_, rfl⟩
        have hP : va_P dd cls5 [(oM, .inr (4, [.ref aKy, .int zs_11.th, .ref zs_11.aT, .int zs_11.fd, .int zs_11.fa, .int zs_11.pl, .int zs_11.at_, .int zs_11.kd, .int zs_11.fr, .int zs_11.ky, .int zs_11.op, .int zs_11.ct, .ref zs_11.aKd, .ref zs_11.aBg, .ref zs_11.aPr, .ref zs_11.aSg, .ref zs_11.aNf, .ref zs_11.aNl, .ref zs_11.aDg, .ref zs_11.aBh, .ref zs_11.aDe, .ref zs_11.aPc, .ref zs_11.aFi, .ref zs_11.aNu, .ref zs_11.aN, .int zs_11.nd])), (aKy, .inl (cS, 17, .inr (.inr (.inr (.inr (kyF adK)))))), (zs_11.aT, .inl (cB, zs_11.nT, .inl zs_11.tp)), (zs_11.aKd, .inl (cI, zs_11.nR, .inl zs_11.Kd)), (zs_11.aBg, .inl (cI, zs_11.nR, .inl zs_11.Bg)), (zs_11.aPr, .inl (cI, zs_11.nR, .inl zs_11.Pr)), (zs_11.aSg, .inl (cI, zs_11.nR, .inl zs_11.Sg)), (zs_11.aNf, .inl (cI, zs_11.nR, .inl zs_11.Nf)), (zs_11.aNl, .inl (cI, zs_11.nR, .inl zs_11.Nl)), (zs_11.aDg, .inl (cL, zs_11.nR, .inr (.inl zs_11.Dg))), (zs_11.aBh, .inl (cI, zs_11.nR, .inl zs_11.Bh)), (zs_11.aDe, .inl (cI, zs_11.nR, .inl zs_11.De)), (zs_11.aPc, .inl (cI, zs_11.nR, .inl zs_11.Pc)), (zs_11.aFi, .inl (cI, zs_11.nR, .inl zs_11.Fi)), (zs_11.aNu, .inl (cI, zs_11.nR, .inl zs_11.Nu)), (zs_11.aN, .inl (cB, zs_11.nN, .inl zs_11.nm))] H := hP
        have hD : va_D A [(oM, .inr (4, [.ref aKy, .int zs_11.th, .ref zs_11.aT, .int zs_11.fd, .int zs_11.fa, .int zs_11.pl, .int zs_11.at_, .int zs_11.kd, .int zs_11.fr, .int zs_11.ky, .int zs_11.op, .int zs_11.ct, .ref zs_11.aKd, .ref zs_11.aBg, .ref zs_11.aPr, .ref zs_11.aSg, .ref zs_11.aNf, .ref zs_11.aNl, .ref zs_11.aDg, .ref zs_11.aBh, .ref zs_11.aDe, .ref zs_11.aPc, .ref zs_11.aFi, .ref zs_11.aNu, .ref zs_11.aN, .int zs_11.nd])), (aKy, .inl (cS, 17, .inr (.inr (.inr (.inr (kyF adK)))))), (zs_11.aT, .inl (cB, zs_11.nT, .inl zs_11.tp)), (zs_11.aKd, .inl (cI, zs_11.nR, .inl zs_11.Kd)), (zs_11.aBg, .inl (cI, zs_11.nR, .inl zs_11.Bg)), (zs_11.aPr, .inl (cI, zs_11.nR, .inl zs_11.Pr)), (zs_11.aSg, .inl (cI, zs_11.nR, .inl zs_11.Sg)), (zs_11.aNf, .inl (cI, zs_11.nR, .inl zs_11.Nf)), (zs_11.aNl, .inl (cI, zs_11.nR, .inl zs_11.Nl)), (zs_11.aDg, .inl (cL, zs_11.nR, .inr (.inl zs_11.Dg))), (zs_11.aBh, .inl (cI, zs_11.nR, .inl zs_11.Bh)), (zs_11.aDe, .inl (cI, zs_11.nR, .inl zs_11.De)), (zs_11.aPc, .inl (cI, zs_11.nR, .inl zs_11.Pc)), (zs_11.aFi, .inl (cI, zs_11.nR, .inl zs_11.Fi)), (zs_11.aNu, .inl (cI, zs_11.nR, .inl zs_11.Nu)), (zs_11.aN, .inl (cB, zs_11.nN, .inl zs_11.nm))] := hD
        refine lv_goto (tgt := 205) hx hb d_M_next_173 (by decide) ?_
        subst hQ
        exact r_v hx hb hr hlocks  zs_11 hv (hP.sub [0, 1, 2, 3, 4, 5, 6, 7, 8, 9, 10, 11, 12, 13, 14, 15] rfl) hK (hD.sub [0, 1, 2, 3, 4, 5, 6, 7, 8, 9, 10, 11, 12, 13, 14, 15] (by decide) rfl) hS (Nat.le_refl _) (Nat.le_refl _) d_M_next_205
    · have hv := hv.2 b_5
      obtain ⟨n_32, hv⟩ := hv
      exact JP_55 n_32 (RS.w_fr (RS.w_at_ zs r_1) r_1) _ _ _ hv (hP.sub [0, 1, 2, 3, 4, 5, 6, 7, 8, 9, 10, 11, 12, 13, 14, 15] rfl) (hD.sub [0, 1, 2, 3, 4, 5, 6, 7, 8, 9, 10, 11, 12, 13, 14, 15] (by decide) rfl) hS (lv_sub hl [1] rfl)
  · have hv := hv.2 b_3
    refine lv_aload_n hx hb d_M_next_40 rfl (lv_at hl 1 rfl) ?_
    refine lv_iconst (v := 0) hx hb d_M_next_41 (by decide) ?_
    refine va_put (D := dd) (ci := 4) (C := Rc_M) (T := Fc_M) (N := 26) (v := .int 0) (ty := .int) hx hb hts (inn in_M) tyf_M tyf_M_ok nmf_M hown hK hP hD hS 0 rfl rfl 7 (by decide) (hts (.fieldLink "NetTextModel" 132 "NetTextModel" "kind" "I") (tg at_773)) (fun _ h9 => h9) rfl (by decide +kernel) rfl rfl (Nat.le_of_ble_eq_true rfl) d_M_next_42 (fun H locs hP hD hS => ?_)
    have hP : va_P dd cls5 [(oM, .inr (4, [.ref aKy, .int zs.th, .ref zs.aT, .int zs.fd, .int zs.fa, .int zs.pl, .int r_1, .int 0, .int r_1, .int zs.ky, .int zs.op, .int zs.ct, .ref zs.aKd, .ref zs.aBg, .ref zs.aPr, .ref zs.aSg, .ref zs.aNf, .ref zs.aNl, .ref zs.aDg, .ref zs.aBh, .ref zs.aDe, .ref zs.aPc, .ref zs.aFi, .ref zs.aNu, .ref zs.aN, .int zs.nd])), (aKy, .inl (cS, 17, .inr (.inr (.inr (.inr (kyF adK)))))), (zs.aT, .inl (cB, zs.nT, .inl zs.tp)), (zs.aKd, .inl (cI, zs.nR, .inl zs.Kd)), (zs.aBg, .inl (cI, zs.nR, .inl zs.Bg)), (zs.aPr, .inl (cI, zs.nR, .inl zs.Pr)), (zs.aSg, .inl (cI, zs.nR, .inl zs.Sg)), (zs.aNf, .inl (cI, zs.nR, .inl zs.Nf)), (zs.aNl, .inl (cI, zs.nR, .inl zs.Nl)), (zs.aDg, .inl (cL, zs.nR, .inr (.inl zs.Dg))), (zs.aBh, .inl (cI, zs.nR, .inl zs.Bh)), (zs.aDe, .inl (cI, zs.nR, .inl zs.De)), (zs.aPc, .inl (cI, zs.nR, .inl zs.Pc)), (zs.aFi, .inl (cI, zs.nR, .inl zs.Fi)), (zs.aNu, .inl (cI, zs.nR, .inl zs.Nu)), (zs.aN, .inl (cB, zs.nN, .inl zs.nm))] H := hP
    have hD : va_D A [(oM, .inr (4, [.ref aKy, .int zs.th, .ref zs.aT, .int zs.fd, .int zs.fa, .int zs.pl, .int r_1, .int 0, .int r_1, .int zs.ky, .int zs.op, .int zs.ct, .ref zs.aKd, .ref zs.aBg, .ref zs.aPr, .ref zs.aSg, .ref zs.aNf, .ref zs.aNl, .ref zs.aDg, .ref zs.aBh, .ref zs.aDe, .ref zs.aPc, .ref zs.aFi, .ref zs.aNu, .ref zs.aN, .int zs.nd])), (aKy, .inl (cS, 17, .inr (.inr (.inr (.inr (kyF adK)))))), (zs.aT, .inl (cB, zs.nT, .inl zs.tp)), (zs.aKd, .inl (cI, zs.nR, .inl zs.Kd)), (zs.aBg, .inl (cI, zs.nR, .inl zs.Bg)), (zs.aPr, .inl (cI, zs.nR, .inl zs.Pr)), (zs.aSg, .inl (cI, zs.nR, .inl zs.Sg)), (zs.aNf, .inl (cI, zs.nR, .inl zs.Nf)), (zs.aNl, .inl (cI, zs.nR, .inl zs.Nl)), (zs.aDg, .inl (cL, zs.nR, .inr (.inl zs.Dg))), (zs.aBh, .inl (cI, zs.nR, .inl zs.Bh)), (zs.aDe, .inl (cI, zs.nR, .inl zs.De)), (zs.aPc, .inl (cI, zs.nR, .inl zs.Pc)), (zs.aFi, .inl (cI, zs.nR, .inl zs.Fi)), (zs.aNu, .inl (cI, zs.nR, .inl zs.Nu)), (zs.aN, .inl (cB, zs.nN, .inl zs.nm))] := hD
    refine lv_goto (tgt := 205) hx hb d_M_next_45 (by decide) ?_
    subst hQ
    exact r_v hx hb hr hlocks  (RS.w_fr (RS.w_kd (RS.w_at_ zs r_1) 0) r_1) hv (hP.sub [0, 1, 2, 3, 4, 5, 6, 7, 8, 9, 10, 11, 12, 13, 14, 15] rfl) hK (hD.sub [0, 1, 2, 3, 4, 5, 6, 7, 8, 9, 10, 11, 12, 13, 14, 15] (by decide) rfl) hS (Nat.le_refl _) (Nat.le_refl _) d_M_next_205
