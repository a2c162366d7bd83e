abbrev b_W_isBlank : ByteArray := prog_6_method_17_code
def y_W_isBlank : MethodName := ⟨"NetText$Words", "isBlank", "(I)Z"⟩
abbrev w_W_isBlank : List Cond := .code y_W_isBlank b_W_isBlank 1 (some .boolean) :: lw_gt
theorem d_W_isBlank_0 : decode b_W_isBlank 0 = .ok (.iload_n 0, 1) := by decide +kernel
theorem d_W_isBlank_1 : decode b_W_isBlank 1 = .ok (.bipush 9, 2) := by decide +kernel
theorem d_W_isBlank_3 : decode b_W_isBlank 3 = .ok (.if_icmp .eq 21, 3) := by decide +kernel
theorem d_W_isBlank_6 : decode b_W_isBlank 6 = .ok (.iload_n 0, 1) := by decide +kernel
theorem d_W_isBlank_7 : decode b_W_isBlank 7 = .ok (.bipush 10, 2) := by decide +kernel
theorem d_W_isBlank_9 : decode b_W_isBlank 9 = .ok (.if_icmp .eq 15, 3) := by decide +kernel
theorem d_W_isBlank_12 : decode b_W_isBlank 12 = .ok (.iload_n 0, 1) := by decide +kernel
theorem d_W_isBlank_13 : decode b_W_isBlank 13 = .ok (.bipush 13, 2) := by decide +kernel
theorem d_W_isBlank_15 : decode b_W_isBlank 15 = .ok (.if_icmp .eq 9, 3) := by decide +kernel
theorem d_W_isBlank_18 : decode b_W_isBlank 18 = .ok (.iload_n 0, 1) := by decide +kernel
theorem d_W_isBlank_19 : decode b_W_isBlank 19 = .ok (.bipush 32, 2) := by decide +kernel
theorem d_W_isBlank_21 : decode b_W_isBlank 21 = .ok (.if_icmp .ne 7, 3) := by decide +kernel
theorem d_W_isBlank_24 : decode b_W_isBlank 24 = .ok (.iconst 1, 1) := by decide +kernel
theorem d_W_isBlank_25 : decode b_W_isBlank 25 = .ok (.goto 4, 3) := by decide +kernel
theorem d_W_isBlank_28 : decode b_W_isBlank 28 = .ok (.iconst 0, 1) := by decide +kernel
theorem d_W_isBlank_29 : decode b_W_isBlank 29 = .ok (.ireturn, 1) := by decide +kernel
abbrev b_W_isLetter : ByteArray := prog_6_method_18_code
def y_W_isLetter : MethodName := ⟨"NetText$Words", "isLetter", "(I)Z"⟩
abbrev w_W_isLetter : List Cond := .code y_W_isLetter b_W_isLetter 1 (some .boolean) :: lw_gt
theorem d_W_isLetter_0 : decode b_W_isLetter 0 = .ok (.iload_n 0, 1) := by decide +kernel
theorem d_W_isLetter_1 : decode b_W_isLetter 1 = .ok (.bipush 97, 2) := by decide +kernel
theorem d_W_isLetter_3 : decode b_W_isLetter 3 = .ok (.if_icmp .lt 9, 3) := by decide +kernel
theorem d_W_isLetter_6 : decode b_W_isLetter 6 = .ok (.iload_n 0, 1) := by decide +kernel
theorem d_W_isLetter_7 : decode b_W_isLetter 7 = .ok (.bipush 122, 2) := by decide +kernel
theorem d_W_isLetter_9 : decode b_W_isLetter 9 = .ok (.if_icmp .le 21, 3) := by decide +kernel
theorem d_W_isLetter_12 : decode b_W_isLetter 12 = .ok (.iload_n 0, 1) := by decide +kernel
theorem d_W_isLetter_13 : decode b_W_isLetter 13 = .ok (.bipush 65, 2) := by decide +kernel
theorem d_W_isLetter_15 : decode b_W_isLetter 15 = .ok (.if_icmp .lt 9, 3) := by decide +kernel
theorem d_W_isLetter_18 : decode b_W_isLetter 18 = .ok (.iload_n 0, 1) := by decide +kernel
theorem d_W_isLetter_19 : decode b_W_isLetter 19 = .ok (.bipush 90, 2) := by decide +kernel
theorem d_W_isLetter_21 : decode b_W_isLetter 21 = .ok (.if_icmp .le 9, 3) := by decide +kernel
theorem d_W_isLetter_24 : decode b_W_isLetter 24 = .ok (.iload_n 0, 1) := by decide +kernel
theorem d_W_isLetter_25 : decode b_W_isLetter 25 = .ok (.bipush 95, 2) := by decide +kernel
theorem d_W_isLetter_27 : decode b_W_isLetter 27 = .ok (.if_icmp .ne 7, 3) := by decide +kernel
theorem d_W_isLetter_30 : decode b_W_isLetter 30 = .ok (.iconst 1, 1) := by decide +kernel
theorem d_W_isLetter_31 : decode b_W_isLetter 31 = .ok (.goto 4, 3) := by decide +kernel
theorem d_W_isLetter_34 : decode b_W_isLetter 34 = .ok (.iconst 0, 1) := by decide +kernel
theorem d_W_isLetter_35 : decode b_W_isLetter 35 = .ok (.ireturn, 1) := by decide +kernel
abbrev b_W_isDigit : ByteArray := prog_6_method_19_code
def y_W_isDigit : MethodName := ⟨"NetText$Words", "isDigit", "(I)Z"⟩
abbrev w_W_isDigit : List Cond := .code y_W_isDigit b_W_isDigit 1 (some .boolean) :: lw_gt
theorem d_W_isDigit_0 : decode b_W_isDigit 0 = .ok (.iload_n 0, 1) := by decide +kernel
theorem d_W_isDigit_1 : decode b_W_isDigit 1 = .ok (.bipush 48, 2) := by decide +kernel
theorem d_W_isDigit_3 : decode b_W_isDigit 3 = .ok (.if_icmp .lt 13, 3) := by decide +kernel
theorem d_W_isDigit_6 : decode b_W_isDigit 6 = .ok (.iload_n 0, 1) := by decide +kernel
theorem d_W_isDigit_7 : decode b_W_isDigit 7 = .ok (.bipush 57, 2) := by decide +kernel
theorem d_W_isDigit_9 : decode b_W_isDigit 9 = .ok (.if_icmp .gt 7, 3) := by decide +kernel
theorem d_W_isDigit_12 : decode b_W_isDigit 12 = .ok (.iconst 1, 1) := by decide +kernel
theorem d_W_isDigit_13 : decode b_W_isDigit 13 = .ok (.goto 4, 3) := by decide +kernel
theorem d_W_isDigit_16 : decode b_W_isDigit 16 = .ok (.iconst 0, 1) := by decide +kernel
theorem d_W_isDigit_17 : decode b_W_isDigit 17 = .ok (.ireturn, 1) := by decide +kernel
abbrev b_W_byteAt : ByteArray := prog_6_method_20_code
def y_W_byteAt : MethodName := ⟨"NetText$Words", "byteAt", "(I)I"⟩
abbrev w_W_byteAt : List Cond := .code y_W_byteAt b_W_byteAt 2 (some .int) :: lw_gt
theorem d_W_byteAt_0 : decode b_W_byteAt 0 = .ok (.iload_n 1, 1) := by decide +kernel
theorem d_W_byteAt_1 : decode b_W_byteAt 1 = .ok (.ifCond .lt 24, 3) := by decide +kernel
theorem d_W_byteAt_4 : decode b_W_byteAt 4 = .ok (.iload_n 1, 1) := by decide +kernel
theorem d_W_byteAt_5 : decode b_W_byteAt 5 = .ok (.aload_n 0, 1) := by decide +kernel
theorem d_W_byteAt_6 : decode b_W_byteAt 6 = .ok (.getfield 15, 3) := by decide +kernel
theorem d_W_byteAt_9 : decode b_W_byteAt 9 = .ok (.if_icmp .ge 16, 3) := by decide +kernel
theorem d_W_byteAt_12 : decode b_W_byteAt 12 = .ok (.aload_n 0, 1) := by decide +kernel
theorem d_W_byteAt_13 : decode b_W_byteAt 13 = .ok (.getfield 9, 3) := by decide +kernel
theorem d_W_byteAt_16 : decode b_W_byteAt 16 = .ok (.iload_n 1, 1) := by decide +kernel
theorem d_W_byteAt_17 : decode b_W_byteAt 17 = .ok (.baload, 1) := by decide +kernel
theorem d_W_byteAt_18 : decode b_W_byteAt 18 = .ok (.sipush 255, 3) := by decide +kernel
theorem d_W_byteAt_21 : decode b_W_byteAt 21 = .ok (.iand, 1) := by decide +kernel
theorem d_W_byteAt_22 : decode b_W_byteAt 22 = .ok (.goto 4, 3) := by decide +kernel
theorem d_W_byteAt_25 : decode b_W_byteAt 25 = .ok (.iconst (-1), 1) := by decide +kernel
theorem d_W_byteAt_26 : decode b_W_byteAt 26 = .ok (.ireturn, 1) := by decide +kernel
abbrev b_W_holds : ByteArray := prog_6_method_21_code
def y_W_holds : MethodName := ⟨"NetText$Words", "holds", "(I)Z"⟩
abbrev w_W_holds : List Cond := .code y_W_holds b_W_holds 2 (some .boolean) :: lw_gt
theorem d_W_holds_0 : decode b_W_holds 0 = .ok (.iload_n 1, 1) := by decide +kernel
theorem d_W_holds_1 : decode b_W_holds 1 = .ok (.ifCond .lt 15, 3) := by decide +kernel
theorem d_W_holds_4 : decode b_W_holds 4 = .ok (.iload_n 1, 1) := by decide +kernel
theorem d_W_holds_5 : decode b_W_holds 5 = .ok (.aload_n 0, 1) := by decide +kernel
theorem d_W_holds_6 : decode b_W_holds 6 = .ok (.getfield 29, 3) := by decide +kernel
theorem d_W_holds_9 : decode b_W_holds 9 = .ok (.if_icmp .ge 7, 3) := by decide +kernel
theorem d_W_holds_12 : decode b_W_holds 12 = .ok (.iconst 1, 1) := by decide +kernel
theorem d_W_holds_13 : decode b_W_holds 13 = .ok (.goto 4, 3) := by decide +kernel
theorem d_W_holds_16 : decode b_W_holds 16 = .ok (.iconst 0, 1) := by decide +kernel
theorem d_W_holds_17 : decode b_W_holds 17 = .ok (.ireturn, 1) := by decide +kernel
abbrev b_W_sortOf : ByteArray := prog_6_method_22_code
def y_W_sortOf : MethodName := ⟨"NetText$Words", "sortOf", "(I)I"⟩
abbrev w_W_sortOf : List Cond := .code y_W_sortOf b_W_sortOf 2 (some .int) :: lw_gt
theorem d_W_sortOf_0 : decode b_W_sortOf 0 = .ok (.aload_n 0, 1) := by decide +kernel
theorem d_W_sortOf_1 : decode b_W_sortOf 1 = .ok (.iload_n 1, 1) := by decide +kernel
theorem d_W_sortOf_2 : decode b_W_sortOf 2 = .ok (.invokevirtual 154, 3) := by decide +kernel
theorem d_W_sortOf_5 : decode b_W_sortOf 5 = .ok (.ifCond .eq 12, 3) := by decide +kernel
theorem d_W_sortOf_8 : decode b_W_sortOf 8 = .ok (.aload_n 0, 1) := by decide +kernel
theorem d_W_sortOf_9 : decode b_W_sortOf 9 = .ok (.getfield 19, 3) := by decide +kernel
theorem d_W_sortOf_12 : decode b_W_sortOf 12 = .ok (.iload_n 1, 1) := by decide +kernel
theorem d_W_sortOf_13 : decode b_W_sortOf 13 = .ok (.iaload, 1) := by decide +kernel
theorem d_W_sortOf_14 : decode b_W_sortOf 14 = .ok (.goto 4, 3) := by decide +kernel
theorem d_W_sortOf_17 : decode b_W_sortOf 17 = .ok (.iconst 0, 1) := by decide +kernel
theorem d_W_sortOf_18 : decode b_W_sortOf 18 = .ok (.ireturn, 1) := by decide +kernel
abbrev b_W_startOf : ByteArray := prog_6_method_23_code
def y_W_startOf : MethodName := ⟨"NetText$Words", "startOf", "(I)I"⟩
abbrev w_W_startOf : List Cond := .code y_W_startOf b_W_startOf 2 (some .int) :: lw_gt
theorem d_W_startOf_0 : decode b_W_startOf 0 = .ok (.aload_n 0, 1) := by decide +kernel
theorem d_W_startOf_1 : decode b_W_startOf 1 = .ok (.iload_n 1, 1) := by decide +kernel
theorem d_W_startOf_2 : decode b_W_startOf 2 = .ok (.invokevirtual 154, 3) := by decide +kernel
theorem d_W_startOf_5 : decode b_W_startOf 5 = .ok (.ifCond .eq 12, 3) := by decide +kernel
theorem d_W_startOf_8 : decode b_W_startOf 8 = .ok (.aload_n 0, 1) := by decide +kernel
theorem d_W_startOf_9 : decode b_W_startOf 9 = .ok (.getfield 23, 3) := by decide +kernel
theorem d_W_startOf_12 : decode b_W_startOf 12 = .ok (.iload_n 1, 1) := by decide +kernel
theorem d_W_startOf_13 : decode b_W_startOf 13 = .ok (.iaload, 1) := by decide +kernel
theorem d_W_startOf_14 : decode b_W_startOf 14 = .ok (.goto 4, 3) := by decide +kernel
theorem d_W_startOf_17 : decode b_W_startOf 17 = .ok (.iconst (-1), 1) := by decide +kernel
theorem d_W_startOf_18 : decode b_W_startOf 18 = .ok (.ireturn, 1) := by decide +kernel
abbrev b_W_lengthOf : ByteArray := prog_6_method_24_code
def y_W_lengthOf : MethodName := ⟨"NetText$Words", "lengthOf", "(I)I"⟩
abbrev w_W_lengthOf : List Cond := .code y_W_lengthOf b_W_lengthOf 2 (some .int) :: lw_gt
theorem d_W_lengthOf_0 : decode b_W_lengthOf 0 = .ok (.aload_n 0, 1) := by decide +kernel
theorem d_W_lengthOf_1 : decode b_W_lengthOf 1 = .ok (.iload_n 1, 1) := by decide +kernel
theorem d_W_lengthOf_2 : decode b_W_lengthOf 2 = .ok (.invokevirtual 154, 3) := by decide +kernel
theorem d_W_lengthOf_5 : decode b_W_lengthOf 5 = .ok (.ifCond .eq 19, 3) := by decide +kernel
theorem d_W_lengthOf_8 : decode b_W_lengthOf 8 = .ok (.aload_n 0, 1) := by decide +kernel
theorem d_W_lengthOf_9 : decode b_W_lengthOf 9 = .ok (.getfield 26, 3) := by decide +kernel
theorem d_W_lengthOf_12 : decode b_W_lengthOf 12 = .ok (.iload_n 1, 1) := by decide +kernel
theorem d_W_lengthOf_13 : decode b_W_lengthOf 13 = .ok (.iaload, 1) := by decide +kernel
theorem d_W_lengthOf_14 : decode b_W_lengthOf 14 = .ok (.aload_n 0, 1) := by decide +kernel
theorem d_W_lengthOf_15 : decode b_W_lengthOf 15 = .ok (.getfield 23, 3) := by decide +kernel
theorem d_W_lengthOf_18 : decode b_W_lengthOf 18 = .ok (.iload_n 1, 1) := by decide +kernel
theorem d_W_lengthOf_19 : decode b_W_lengthOf 19 = .ok (.iaload, 1) := by decide +kernel
theorem d_W_lengthOf_20 : decode b_W_lengthOf 20 = .ok (.isub, 1) := by decide +kernel
theorem d_W_lengthOf_21 : decode b_W_lengthOf 21 = .ok (.goto 4, 3) := by decide +kernel
theorem d_W_lengthOf_24 : decode b_W_lengthOf 24 = .ok (.iconst (-1), 1) := by decide +kernel
theorem d_W_lengthOf_25 : decode b_W_lengthOf 25 = .ok (.ireturn, 1) := by decide +kernel
abbrev b_W_afterBlanks : ByteArray := prog_6_method_5_code
def y_W_afterBlanks : MethodName := ⟨"NetText$Words", "afterBlanks", "(I)I"⟩
abbrev w_W_afterBlanks : List Cond := .code y_W_afterBlanks b_W_afterBlanks 4 (some .int) :: lw_gt
theorem d_W_afterBlanks_0 : decode b_W_afterBlanks 0 = .ok (.iload_n 1, 1) := by decide +kernel
theorem d_W_afterBlanks_1 : decode b_W_afterBlanks 1 = .ok (.istore_n 2, 1) := by decide +kernel
theorem d_W_afterBlanks_2 : decode b_W_afterBlanks 2 = .ok (.iconst 0, 1) := by decide +kernel
theorem d_W_afterBlanks_3 : decode b_W_afterBlanks 3 = .ok (.istore_n 3, 1) := by decide +kernel
theorem d_W_afterBlanks_4 : decode b_W_afterBlanks 4 = .ok (.iload_n 2, 1) := by decide +kernel
theorem d_W_afterBlanks_5 : decode b_W_afterBlanks 5 = .ok (.aload_n 0, 1) := by decide +kernel
theorem d_W_afterBlanks_6 : decode b_W_afterBlanks 6 = .ok (.getfield 15, 3) := by decide +kernel
theorem d_W_afterBlanks_9 : decode b_W_afterBlanks 9 = .ok (.if_icmp .ge 64, 3) := by decide +kernel
theorem d_W_afterBlanks_12 : decode b_W_afterBlanks 12 = .ok (.iload_n 3, 1) := by decide +kernel
theorem d_W_afterBlanks_13 : decode b_W_afterBlanks 13 = .ok (.ifCond .ne 24, 3) := by decide +kernel
theorem d_W_afterBlanks_16 : decode b_W_afterBlanks 16 = .ok (.aload_n 0, 1) := by decide +kernel
theorem d_W_afterBlanks_17 : decode b_W_afterBlanks 17 = .ok (.iload_n 2, 1) := by decide +kernel
theorem d_W_afterBlanks_18 : decode b_W_afterBlanks 18 = .ok (.invokevirtual 59, 3) := by decide +kernel
theorem d_W_afterBlanks_21 : decode b_W_afterBlanks 21 = .ok (.invokestatic 62, 3) := by decide +kernel
theorem d_W_afterBlanks_24 : decode b_W_afterBlanks 24 = .ok (.ifCond .ne 13, 3) := by decide +kernel
theorem d_W_afterBlanks_27 : decode b_W_afterBlanks 27 = .ok (.aload_n 0, 1) := by decide +kernel
theorem d_W_afterBlanks_28 : decode b_W_afterBlanks 28 = .ok (.iload_n 2, 1) := by decide +kernel
theorem d_W_afterBlanks_29 : decode b_W_afterBlanks 29 = .ok (.invokevirtual 59, 3) := by decide +kernel
theorem d_W_afterBlanks_32 : decode b_W_afterBlanks 32 = .ok (.bipush 35, 2) := by decide +kernel
theorem d_W_afterBlanks_34 : decode b_W_afterBlanks 34 = .ok (.if_icmp .ne 39, 3) := by decide +kernel
theorem d_W_afterBlanks_37 : decode b_W_afterBlanks 37 = .ok (.aload_n 0, 1) := by decide +kernel
theorem d_W_afterBlanks_38 : decode b_W_afterBlanks 38 = .ok (.iload_n 2, 1) := by decide +kernel
theorem d_W_afterBlanks_39 : decode b_W_afterBlanks 39 = .ok (.invokevirtual 59, 3) := by decide +kernel
theorem d_W_afterBlanks_42 : decode b_W_afterBlanks 42 = .ok (.bipush 35, 2) := by decide +kernel
theorem d_W_afterBlanks_44 : decode b_W_afterBlanks 44 = .ok (.if_icmp .eq 17, 3) := by decide +kernel
theorem d_W_afterBlanks_47 : decode b_W_afterBlanks 47 = .ok (.iload_n 3, 1) := by decide +kernel
theorem d_W_afterBlanks_48 : decode b_W_afterBlanks 48 = .ok (.ifCond .eq 17, 3) := by decide +kernel
theorem d_W_afterBlanks_51 : decode b_W_afterBlanks 51 = .ok (.aload_n 0, 1) := by decide +kernel
theorem d_W_afterBlanks_52 : decode b_W_afterBlanks 52 = .ok (.iload_n 2, 1) := by decide +kernel
theorem d_W_afterBlanks_53 : decode b_W_afterBlanks 53 = .ok (.invokevirtual 59, 3) := by decide +kernel
theorem d_W_afterBlanks_56 : decode b_W_afterBlanks 56 = .ok (.bipush 10, 2) := by decide +kernel
theorem d_W_afterBlanks_58 : decode b_W_afterBlanks 58 = .ok (.if_icmp .eq 7, 3) := by decide +kernel
theorem d_W_afterBlanks_61 : decode b_W_afterBlanks 61 = .ok (.iconst 1, 1) := by decide +kernel
theorem d_W_afterBlanks_62 : decode b_W_afterBlanks 62 = .ok (.goto 4, 3) := by decide +kernel
theorem d_W_afterBlanks_65 : decode b_W_afterBlanks 65 = .ok (.iconst 0, 1) := by decide +kernel
theorem d_W_afterBlanks_66 : decode b_W_afterBlanks 66 = .ok (.istore_n 3, 1) := by decide +kernel
theorem d_W_afterBlanks_67 : decode b_W_afterBlanks 67 = .ok (.iinc 2 1, 3) := by decide +kernel
theorem d_W_afterBlanks_70 : decode b_W_afterBlanks 70 = .ok (.goto (-66), 3) := by decide +kernel
theorem d_W_afterBlanks_73 : decode b_W_afterBlanks 73 = .ok (.iload_n 2, 1) := by decide +kernel
theorem d_W_afterBlanks_74 : decode b_W_afterBlanks 74 = .ok (.ireturn, 1) := by decide +kernel
abbrev b_W_afterName : ByteArray := prog_6_method_8_code
def y_W_afterName : MethodName := ⟨"NetText$Words", "afterName", "(I)I"⟩
abbrev w_W_afterName : List Cond := .code y_W_afterName b_W_afterName 3 (some .int) :: lw_gt
theorem d_W_afterName_0 : decode b_W_afterName 0 = .ok (.iload_n 1, 1) := by decide +kernel
theorem d_W_afterName_1 : decode b_W_afterName 1 = .ok (.istore_n 2, 1) := by decide +kernel
theorem d_W_afterName_2 : decode b_W_afterName 2 = .ok (.iload_n 2, 1) := by decide +kernel
theorem d_W_afterName_3 : decode b_W_afterName 3 = .ok (.aload_n 0, 1) := by decide +kernel
theorem d_W_afterName_4 : decode b_W_afterName 4 = .ok (.getfield 15, 3) := by decide +kernel
theorem d_W_afterName_7 : decode b_W_afterName 7 = .ok (.if_icmp .ge 31, 3) := by decide +kernel
theorem d_W_afterName_10 : decode b_W_afterName 10 = .ok (.aload_n 0, 1) := by decide +kernel
theorem d_W_afterName_11 : decode b_W_afterName 11 = .ok (.iload_n 2, 1) := by decide +kernel
theorem d_W_afterName_12 : decode b_W_afterName 12 = .ok (.invokevirtual 59, 3) := by decide +kernel
theorem d_W_afterName_15 : decode b_W_afterName 15 = .ok (.invokestatic 66, 3) := by decide +kernel
theorem d_W_afterName_18 : decode b_W_afterName 18 = .ok (.ifCond .ne 14, 3) := by decide +kernel
theorem d_W_afterName_21 : decode b_W_afterName 21 = .ok (.aload_n 0, 1) := by decide +kernel
theorem d_W_afterName_22 : decode b_W_afterName 22 = .ok (.iload_n 2, 1) := by decide +kernel
theorem d_W_afterName_23 : decode b_W_afterName 23 = .ok (.invokevirtual 59, 3) := by decide +kernel
theorem d_W_afterName_26 : decode b_W_afterName 26 = .ok (.invokestatic 72, 3) := by decide +kernel
theorem d_W_afterName_29 : decode b_W_afterName 29 = .ok (.ifCond .eq 9, 3) := by decide +kernel
theorem d_W_afterName_32 : decode b_W_afterName 32 = .ok (.iinc 2 1, 3) := by decide +kernel
theorem d_W_afterName_35 : decode b_W_afterName 35 = .ok (.goto (-33), 3) := by decide +kernel
theorem d_W_afterName_38 : decode b_W_afterName 38 = .ok (.iload_n 2, 1) := by decide +kernel
theorem d_W_afterName_39 : decode b_W_afterName 39 = .ok (.ireturn, 1) := by decide +kernel
abbrev b_W_afterDigits : ByteArray := prog_6_method_10_code
def y_W_afterDigits : MethodName := ⟨"NetText$Words", "afterDigits", "(I)I"⟩
abbrev w_W_afterDigits : List Cond := .code y_W_afterDigits b_W_afterDigits 3 (some .int) :: lw_gt
theorem d_W_afterDigits_0 : decode b_W_afterDigits 0 = .ok (.iload_n 1, 1) := by decide +kernel
theorem d_W_afterDigits_1 : decode b_W_afterDigits 1 = .ok (.istore_n 2, 1) := by decide +kernel
theorem d_W_afterDigits_2 : decode b_W_afterDigits 2 = .ok (.iload_n 2, 1) := by decide +kernel
theorem d_W_afterDigits_3 : decode b_W_afterDigits 3 = .ok (.aload_n 0, 1) := by decide +kernel
theorem d_W_afterDigits_4 : decode b_W_afterDigits 4 = .ok (.getfield 15, 3) := by decide +kernel
theorem d_W_afterDigits_7 : decode b_W_afterDigits 7 = .ok (.if_icmp .ge 20, 3) := by decide +kernel
theorem d_W_afterDigits_10 : decode b_W_afterDigits 10 = .ok (.aload_n 0, 1) := by decide +kernel
theorem d_W_afterDigits_11 : decode b_W_afterDigits 11 = .ok (.iload_n 2, 1) := by decide +kernel
theorem d_W_afterDigits_12 : decode b_W_afterDigits 12 = .ok (.invokevirtual 59, 3) := by decide +kernel
theorem d_W_afterDigits_15 : decode b_W_afterDigits 15 = .ok (.invokestatic 72, 3) := by decide +kernel
theorem d_W_afterDigits_18 : decode b_W_afterDigits 18 = .ok (.ifCond .eq 9, 3) := by decide +kernel
theorem d_W_afterDigits_21 : decode b_W_afterDigits 21 = .ok (.iinc 2 1, 3) := by decide +kernel
theorem d_W_afterDigits_24 : decode b_W_afterDigits 24 = .ok (.goto (-22), 3) := by decide +kernel
theorem d_W_afterDigits_27 : decode b_W_afterDigits 27 = .ok (.iload_n 2, 1) := by decide +kernel
theorem d_W_afterDigits_28 : decode b_W_afterDigits 28 = .ok (.ireturn, 1) := by decide +kernel
abbrev b_W_afterNumber : ByteArray := prog_6_method_9_code
def y_W_afterNumber : MethodName := ⟨"NetText$Words", "afterNumber", "(I)I"⟩
abbrev w_W_afterNumber : List Cond := .code y_W_afterNumber b_W_afterNumber 3 (some .int) :: lw_gt
theorem d_W_afterNumber_0 : decode b_W_afterNumber 0 = .ok (.aload_n 0, 1) := by decide +kernel
theorem d_W_afterNumber_1 : decode b_W_afterNumber 1 = .ok (.iload_n 1, 1) := by decide +kernel
theorem d_W_afterNumber_2 : decode b_W_afterNumber 2 = .ok (.invokevirtual 97, 3) := by decide +kernel
theorem d_W_afterNumber_5 : decode b_W_afterNumber 5 = .ok (.istore_n 2, 1) := by decide +kernel
theorem d_W_afterNumber_6 : decode b_W_afterNumber 6 = .ok (.aload_n 0, 1) := by decide +kernel
theorem d_W_afterNumber_7 : decode b_W_afterNumber 7 = .ok (.iload_n 2, 1) := by decide +kernel
theorem d_W_afterNumber_8 : decode b_W_afterNumber 8 = .ok (.invokevirtual 59, 3) := by decide +kernel
theorem d_W_afterNumber_11 : decode b_W_afterNumber 11 = .ok (.bipush 46, 2) := by decide +kernel
theorem d_W_afterNumber_13 : decode b_W_afterNumber 13 = .ok (.if_icmp .ne 24, 3) := by decide +kernel
theorem d_W_afterNumber_16 : decode b_W_afterNumber 16 = .ok (.aload_n 0, 1) := by decide +kernel
theorem d_W_afterNumber_17 : decode b_W_afterNumber 17 = .ok (.iload_n 2, 1) := by decide +kernel
theorem d_W_afterNumber_18 : decode b_W_afterNumber 18 = .ok (.iconst 1, 1) := by decide +kernel
theorem d_W_afterNumber_19 : decode b_W_afterNumber 19 = .ok (.iadd, 1) := by decide +kernel
theorem d_W_afterNumber_20 : decode b_W_afterNumber 20 = .ok (.invokevirtual 59, 3) := by decide +kernel
theorem d_W_afterNumber_23 : decode b_W_afterNumber 23 = .ok (.invokestatic 72, 3) := by decide +kernel
theorem d_W_afterNumber_26 : decode b_W_afterNumber 26 = .ok (.ifCond .eq 11, 3) := by decide +kernel
theorem d_W_afterNumber_29 : decode b_W_afterNumber 29 = .ok (.aload_n 0, 1) := by decide +kernel
theorem d_W_afterNumber_30 : decode b_W_afterNumber 30 = .ok (.iload_n 2, 1) := by decide +kernel
theorem d_W_afterNumber_31 : decode b_W_afterNumber 31 = .ok (.iconst 1, 1) := by decide +kernel
theorem d_W_afterNumber_32 : decode b_W_afterNumber 32 = .ok (.iadd, 1) := by decide +kernel
theorem d_W_afterNumber_33 : decode b_W_afterNumber 33 = .ok (.invokevirtual 97, 3) := by decide +kernel
theorem d_W_afterNumber_36 : decode b_W_afterNumber 36 = .ok (.ireturn, 1) := by decide +kernel
theorem d_W_afterNumber_37 : decode b_W_afterNumber 37 = .ok (.iload_n 2, 1) := by decide +kernel
theorem d_W_afterNumber_38 : decode b_W_afterNumber 38 = .ok (.ireturn, 1) := by decide +kernel
abbrev b_W_endOfWord : ByteArray := prog_6_method_6_code
def y_W_endOfWord : MethodName := ⟨"NetText$Words", "endOfWord", "(I)I"⟩
abbrev w_W_endOfWord : List Cond := .code y_W_endOfWord b_W_endOfWord 3 (some .int) :: lw_gt
theorem d_W_endOfWord_0 : decode b_W_endOfWord 0 = .ok (.aload_n 0, 1) := by decide +kernel
theorem d_W_endOfWord_1 : decode b_W_endOfWord 1 = .ok (.iload_n 1, 1) := by decide +kernel
theorem d_W_endOfWord_2 : decode b_W_endOfWord 2 = .ok (.invokevirtual 59, 3) := by decide +kernel
theorem d_W_endOfWord_5 : decode b_W_endOfWord 5 = .ok (.istore_n 2, 1) := by decide +kernel
theorem d_W_endOfWord_6 : decode b_W_endOfWord 6 = .ok (.iload_n 2, 1) := by decide +kernel
theorem d_W_endOfWord_7 : decode b_W_endOfWord 7 = .ok (.invokestatic 66, 3) := by decide +kernel
theorem d_W_endOfWord_10 : decode b_W_endOfWord 10 = .ok (.ifCond .eq 9, 3) := by decide +kernel
theorem d_W_endOfWord_13 : decode b_W_endOfWord 13 = .ok (.aload_n 0, 1) := by decide +kernel
theorem d_W_endOfWord_14 : decode b_W_endOfWord 14 = .ok (.iload_n 1, 1) := by decide +kernel
theorem d_W_endOfWord_15 : decode b_W_endOfWord 15 = .ok (.invokevirtual 69, 3) := by decide +kernel
theorem d_W_endOfWord_18 : decode b_W_endOfWord 18 = .ok (.ireturn, 1) := by decide +kernel
theorem d_W_endOfWord_19 : decode b_W_endOfWord 19 = .ok (.iload_n 2, 1) := by decide +kernel
theorem d_W_endOfWord_20 : decode b_W_endOfWord 20 = .ok (.invokestatic 72, 3) := by decide +kernel
theorem d_W_endOfWord_23 : decode b_W_endOfWord 23 = .ok (.ifCond .eq 9, 3) := by decide +kernel
theorem d_W_endOfWord_26 : decode b_W_endOfWord 26 = .ok (.aload_n 0, 1) := by decide +kernel
theorem d_W_endOfWord_27 : decode b_W_endOfWord 27 = .ok (.iload_n 1, 1) := by decide +kernel
theorem d_W_endOfWord_28 : decode b_W_endOfWord 28 = .ok (.invokevirtual 75, 3) := by decide +kernel
theorem d_W_endOfWord_31 : decode b_W_endOfWord 31 = .ok (.ireturn, 1) := by decide +kernel
theorem d_W_endOfWord_32 : decode b_W_endOfWord 32 = .ok (.iload_n 1, 1) := by decide +kernel
theorem d_W_endOfWord_33 : decode b_W_endOfWord 33 = .ok (.iconst 1, 1) := by decide +kernel
theorem d_W_endOfWord_34 : decode b_W_endOfWord 34 = .ok (.iadd, 1) := by decide +kernel
theorem d_W_endOfWord_35 : decode b_W_endOfWord 35 = .ok (.aload_n 0, 1) := by decide +kernel
theorem d_W_endOfWord_36 : decode b_W_endOfWord 36 = .ok (.getfield 15, 3) := by decide +kernel
theorem d_W_endOfWord_39 : decode b_W_endOfWord 39 = .ok (.invokestatic 78, 3) := by decide +kernel
theorem d_W_endOfWord_42 : decode b_W_endOfWord 42 = .ok (.ireturn, 1) := by decide +kernel
abbrev b_W_digitsBehindPoint : ByteArray := prog_6_method_26_code
def y_W_digitsBehindPoint : MethodName := ⟨"NetText$Words", "digitsBehindPoint", "(I)I"⟩
abbrev w_W_digitsBehindPoint : List Cond := .code y_W_digitsBehindPoint b_W_digitsBehindPoint 2 (some .int) :: lw_gt
theorem d_W_digitsBehindPoint_0 : decode b_W_digitsBehindPoint 0 = .ok (.aload_n 0, 1) := by decide +kernel
theorem d_W_digitsBehindPoint_1 : decode b_W_digitsBehindPoint 1 = .ok (.iload_n 1, 1) := by decide +kernel
theorem d_W_digitsBehindPoint_2 : decode b_W_digitsBehindPoint 2 = .ok (.invokevirtual 154, 3) := by decide +kernel
theorem d_W_digitsBehindPoint_5 : decode b_W_digitsBehindPoint 5 = .ok (.ifCond .ne 5, 3) := by decide +kernel
theorem d_W_digitsBehindPoint_8 : decode b_W_digitsBehindPoint 8 = .ok (.iconst (-1), 1) := by decide +kernel
theorem d_W_digitsBehindPoint_9 : decode b_W_digitsBehindPoint 9 = .ok (.ireturn, 1) := by decide +kernel
theorem d_W_digitsBehindPoint_10 : decode b_W_digitsBehindPoint 10 = .ok (.iconst 0, 1) := by decide +kernel
theorem d_W_digitsBehindPoint_11 : decode b_W_digitsBehindPoint 11 = .ok (.aload_n 0, 1) := by decide +kernel
theorem d_W_digitsBehindPoint_12 : decode b_W_digitsBehindPoint 12 = .ok (.getfield 26, 3) := by decide +kernel
theorem d_W_digitsBehindPoint_15 : decode b_W_digitsBehindPoint 15 = .ok (.iload_n 1, 1) := by decide +kernel
theorem d_W_digitsBehindPoint_16 : decode b_W_digitsBehindPoint 16 = .ok (.iaload, 1) := by decide +kernel
theorem d_W_digitsBehindPoint_17 : decode b_W_digitsBehindPoint 17 = .ok (.aload_n 0, 1) := by decide +kernel
theorem d_W_digitsBehindPoint_18 : decode b_W_digitsBehindPoint 18 = .ok (.aload_n 0, 1) := by decide +kernel
theorem d_W_digitsBehindPoint_19 : decode b_W_digitsBehindPoint 19 = .ok (.getfield 23, 3) := by decide +kernel
theorem d_W_digitsBehindPoint_22 : decode b_W_digitsBehindPoint 22 = .ok (.iload_n 1, 1) := by decide +kernel
theorem d_W_digitsBehindPoint_23 : decode b_W_digitsBehindPoint 23 = .ok (.iaload, 1) := by decide +kernel
theorem d_W_digitsBehindPoint_24 : decode b_W_digitsBehindPoint 24 = .ok (.invokevirtual 97, 3) := by decide +kernel
theorem d_W_digitsBehindPoint_27 : decode b_W_digitsBehindPoint 27 = .ok (.isub, 1) := by decide +kernel
theorem d_W_digitsBehindPoint_28 : decode b_W_digitsBehindPoint 28 = .ok (.iconst 1, 1) := by decide +kernel
theorem d_W_digitsBehindPoint_29 : decode b_W_digitsBehindPoint 29 = .ok (.isub, 1) := by decide +kernel
theorem d_W_digitsBehindPoint_30 : decode b_W_digitsBehindPoint 30 = .ok (.invokestatic 161, 3) := by decide +kernel
theorem d_W_digitsBehindPoint_33 : decode b_W_digitsBehindPoint 33 = .ok (.ireturn, 1) := by decide +kernel
abbrev b_W_valueOf : ByteArray := prog_6_method_25_code
def y_W_valueOf : MethodName := ⟨"NetText$Words", "valueOf", "(I)J"⟩
abbrev w_W_valueOf : List Cond := .code y_W_valueOf b_W_valueOf 5 (some .long) :: lw_gt
theorem d_W_valueOf_0 : decode b_W_valueOf 0 = .ok (.aload_n 0, 1) := by decide +kernel
theorem d_W_valueOf_1 : decode b_W_valueOf 1 = .ok (.iload_n 1, 1) := by decide +kernel
theorem d_W_valueOf_2 : decode b_W_valueOf 2 = .ok (.invokevirtual 154, 3) := by decide +kernel
theorem d_W_valueOf_5 : decode b_W_valueOf 5 = .ok (.ifCond .ne 7, 3) := by decide +kernel
theorem d_W_valueOf_8 : decode b_W_valueOf 8 = .ok (.ldc2_w 157, 3) := by decide +kernel
theorem d_W_valueOf_11 : decode b_W_valueOf 11 = .ok (.lreturn, 1) := by decide +kernel
theorem d_W_valueOf_12 : decode b_W_valueOf 12 = .ok (.lconst 0, 1) := by decide +kernel
theorem d_W_valueOf_13 : decode b_W_valueOf 13 = .ok (.lstore_n 2, 1) := by decide +kernel
theorem d_W_valueOf_14 : decode b_W_valueOf 14 = .ok (.aload_n 0, 1) := by decide +kernel
theorem d_W_valueOf_15 : decode b_W_valueOf 15 = .ok (.getfield 23, 3) := by decide +kernel
theorem d_W_valueOf_18 : decode b_W_valueOf 18 = .ok (.iload_n 1, 1) := by decide +kernel
theorem d_W_valueOf_19 : decode b_W_valueOf 19 = .ok (.iaload, 1) := by decide +kernel
theorem d_W_valueOf_20 : decode b_W_valueOf 20 = .ok (.istore 4, 2) := by decide +kernel
theorem d_W_valueOf_22 : decode b_W_valueOf 22 = .ok (.iload 4, 2) := by decide +kernel
theorem d_W_valueOf_24 : decode b_W_valueOf 24 = .ok (.aload_n 0, 1) := by decide +kernel
theorem d_W_valueOf_25 : decode b_W_valueOf 25 = .ok (.getfield 26, 3) := by decide +kernel
theorem d_W_valueOf_28 : decode b_W_valueOf 28 = .ok (.iload_n 1, 1) := by decide +kernel
theorem d_W_valueOf_29 : decode b_W_valueOf 29 = .ok (.iaload, 1) := by decide +kernel
theorem d_W_valueOf_30 : decode b_W_valueOf 30 = .ok (.if_icmp .ge 38, 3) := by decide +kernel
theorem d_W_valueOf_33 : decode b_W_valueOf 33 = .ok (.aload_n 0, 1) := by decide +kernel
theorem d_W_valueOf_34 : decode b_W_valueOf 34 = .ok (.iload 4, 2) := by decide +kernel
theorem d_W_valueOf_36 : decode b_W_valueOf 36 = .ok (.invokevirtual 59, 3) := by decide +kernel
theorem d_W_valueOf_39 : decode b_W_valueOf 39 = .ok (.invokestatic 72, 3) := by decide +kernel
theorem d_W_valueOf_42 : decode b_W_valueOf 42 = .ok (.ifCond .eq 20, 3) := by decide +kernel
theorem d_W_valueOf_45 : decode b_W_valueOf 45 = .ok (.lload_n 2, 1) := by decide +kernel
theorem d_W_valueOf_46 : decode b_W_valueOf 46 = .ok (.ldc2_w 159, 3) := by decide +kernel
theorem d_W_valueOf_49 : decode b_W_valueOf 49 = .ok (.lmul, 1) := by decide +kernel
theorem d_W_valueOf_50 : decode b_W_valueOf 50 = .ok (.aload_n 0, 1) := by decide +kernel
theorem d_W_valueOf_51 : decode b_W_valueOf 51 = .ok (.iload 4, 2) := by decide +kernel
theorem d_W_valueOf_53 : decode b_W_valueOf 53 = .ok (.invokevirtual 59, 3) := by decide +kernel
theorem d_W_valueOf_56 : decode b_W_valueOf 56 = .ok (.bipush 48, 2) := by decide +kernel
theorem d_W_valueOf_58 : decode b_W_valueOf 58 = .ok (.isub, 1) := by decide +kernel
theorem d_W_valueOf_59 : decode b_W_valueOf 59 = .ok (.i2l, 1) := by decide +kernel
theorem d_W_valueOf_60 : decode b_W_valueOf 60 = .ok (.ladd, 1) := by decide +kernel
theorem d_W_valueOf_61 : decode b_W_valueOf 61 = .ok (.lstore_n 2, 1) := by decide +kernel
theorem d_W_valueOf_62 : decode b_W_valueOf 62 = .ok (.iinc 4 1, 3) := by decide +kernel
theorem d_W_valueOf_65 : decode b_W_valueOf 65 = .ok (.goto (-43), 3) := by decide +kernel
theorem d_W_valueOf_68 : decode b_W_valueOf 68 = .ok (.lload_n 2, 1) := by decide +kernel
theorem d_W_valueOf_69 : decode b_W_valueOf 69 = .ok (.lreturn, 1) := by decide +kernel
abbrev b_W_isNumber : ByteArray := prog_6_method_11_code
def y_W_isNumber : MethodName := ⟨"NetText$Words", "isNumber", "(II)Z"⟩
abbrev w_W_isNumber : List Cond := .code y_W_isNumber b_W_isNumber 5 (some .boolean) :: lw_gt
theorem d_W_isNumber_0 : decode b_W_isNumber 0 = .ok (.aload_n 0, 1) := by decide +kernel
theorem d_W_isNumber_1 : decode b_W_isNumber 1 = .ok (.iload_n 1, 1) := by decide +kernel
theorem d_W_isNumber_2 : decode b_W_isNumber 2 = .ok (.invokevirtual 97, 3) := by decide +kernel
theorem d_W_isNumber_5 : decode b_W_isNumber 5 = .ok (.istore_n 3, 1) := by decide +kernel
theorem d_W_isNumber_6 : decode b_W_isNumber 6 = .ok (.aload_n 0, 1) := by decide +kernel
theorem d_W_isNumber_7 : decode b_W_isNumber 7 = .ok (.iload_n 2, 1) := by decide +kernel
theorem d_W_isNumber_8 : decode b_W_isNumber 8 = .ok (.invokevirtual 59, 3) := by decide +kernel
theorem d_W_isNumber_11 : decode b_W_isNumber 11 = .ok (.istore 4, 2) := by decide +kernel
theorem d_W_isNumber_13 : decode b_W_isNumber 13 = .ok (.iload_n 3, 1) := by decide +kernel
theorem d_W_isNumber_14 : decode b_W_isNumber 14 = .ok (.iload_n 1, 1) := by decide +kernel
theorem d_W_isNumber_15 : decode b_W_isNumber 15 = .ok (.isub, 1) := by decide +kernel
theorem d_W_isNumber_16 : decode b_W_isNumber 16 = .ok (.bipush 9, 2) := by decide +kernel
theorem d_W_isNumber_18 : decode b_W_isNumber 18 = .ok (.if_icmp .gt 32, 3) := by decide +kernel
theorem d_W_isNumber_21 : decode b_W_isNumber 21 = .ok (.iload_n 2, 1) := by decide +kernel
theorem d_W_isNumber_22 : decode b_W_isNumber 22 = .ok (.iload_n 3, 1) := by decide +kernel
theorem d_W_isNumber_23 : decode b_W_isNumber 23 = .ok (.isub, 1) := by decide +kernel
theorem d_W_isNumber_24 : decode b_W_isNumber 24 = .ok (.iconst 1, 1) := by decide +kernel
theorem d_W_isNumber_25 : decode b_W_isNumber 25 = .ok (.isub, 1) := by decide +kernel
theorem d_W_isNumber_26 : decode b_W_isNumber 26 = .ok (.bipush 9, 2) := by decide +kernel
theorem d_W_isNumber_28 : decode b_W_isNumber 28 = .ok (.if_icmp .gt 22, 3) := by decide +kernel
theorem d_W_isNumber_31 : decode b_W_isNumber 31 = .ok (.iload 4, 2) := by decide +kernel
theorem d_W_isNumber_33 : decode b_W_isNumber 33 = .ok (.bipush 46, 2) := by decide +kernel
theorem d_W_isNumber_35 : decode b_W_isNumber 35 = .ok (.if_icmp .eq 15, 3) := by decide +kernel
theorem d_W_isNumber_38 : decode b_W_isNumber 38 = .ok (.iload 4, 2) := by decide +kernel
theorem d_W_isNumber_40 : decode b_W_isNumber 40 = .ok (.invokestatic 66, 3) := by decide +kernel
theorem d_W_isNumber_43 : decode b_W_isNumber 43 = .ok (.ifCond .ne 7, 3) := by decide +kernel
theorem d_W_isNumber_46 : decode b_W_isNumber 46 = .ok (.iconst 1, 1) := by decide +kernel
theorem d_W_isNumber_47 : decode b_W_isNumber 47 = .ok (.goto 4, 3) := by decide +kernel
theorem d_W_isNumber_50 : decode b_W_isNumber 50 = .ok (.iconst 0, 1) := by decide +kernel
theorem d_W_isNumber_51 : decode b_W_isNumber 51 = .ok (.ireturn, 1) := by decide +kernel
abbrev b_W_add : ByteArray := prog_6_method_4_code
def y_W_add : MethodName := ⟨"NetText$Words", "add", "(III)V"⟩
abbrev w_W_add : List Cond := .code y_W_add b_W_add 4 none :: lw_gt
theorem d_W_add_0 : decode b_W_add 0 = .ok (.aload_n 0, 1) := by decide +kernel
theorem d_W_add_1 : decode b_W_add 1 = .ok (.getfield 29, 3) := by decide +kernel
theorem d_W_add_4 : decode b_W_add 4 = .ok (.aload_n 0, 1) := by decide +kernel
theorem d_W_add_5 : decode b_W_add 5 = .ok (.getfield 19, 3) := by decide +kernel
theorem d_W_add_8 : decode b_W_add 8 = .ok (.arraylength, 1) := by decide +kernel
theorem d_W_add_9 : decode b_W_add 9 = .ok (.if_icmp .ge 43, 3) := by decide +kernel
theorem d_W_add_12 : decode b_W_add 12 = .ok (.aload_n 0, 1) := by decide +kernel
theorem d_W_add_13 : decode b_W_add 13 = .ok (.getfield 19, 3) := by decide +kernel
theorem d_W_add_16 : decode b_W_add 16 = .ok (.aload_n 0, 1) := by decide +kernel
theorem d_W_add_17 : decode b_W_add 17 = .ok (.getfield 29, 3) := by decide +kernel
theorem d_W_add_20 : decode b_W_add 20 = .ok (.iload_n 1, 1) := by decide +kernel
theorem d_W_add_21 : decode b_W_add 21 = .ok (.iastore, 1) := by decide +kernel
theorem d_W_add_22 : decode b_W_add 22 = .ok (.aload_n 0, 1) := by decide +kernel
theorem d_W_add_23 : decode b_W_add 23 = .ok (.getfield 23, 3) := by decide +kernel
theorem d_W_add_26 : decode b_W_add 26 = .ok (.aload_n 0, 1) := by decide +kernel
theorem d_W_add_27 : decode b_W_add 27 = .ok (.getfield 29, 3) := by decide +kernel
theorem d_W_add_30 : decode b_W_add 30 = .ok (.iload_n 2, 1) := by decide +kernel
theorem d_W_add_31 : decode b_W_add 31 = .ok (.iastore, 1) := by decide +kernel
theorem d_W_add_32 : decode b_W_add 32 = .ok (.aload_n 0, 1) := by decide +kernel
theorem d_W_add_33 : decode b_W_add 33 = .ok (.getfield 26, 3) := by decide +kernel
theorem d_W_add_36 : decode b_W_add 36 = .ok (.aload_n 0, 1) := by decide +kernel
theorem d_W_add_37 : decode b_W_add 37 = .ok (.getfield 29, 3) := by decide +kernel
theorem d_W_add_40 : decode b_W_add 40 = .ok (.iload_n 3, 1) := by decide +kernel
theorem d_W_add_41 : decode b_W_add 41 = .ok (.iastore, 1) := by decide +kernel
theorem d_W_add_42 : decode b_W_add 42 = .ok (.aload_n 0, 1) := by decide +kernel
theorem d_W_add_43 : decode b_W_add 43 = .ok (.dup, 1) := by decide +kernel
theorem d_W_add_44 : decode b_W_add 44 = .ok (.getfield 29, 3) := by decide +kernel
theorem d_W_add_47 : decode b_W_add 47 = .ok (.iconst 1, 1) := by decide +kernel
theorem d_W_add_48 : decode b_W_add 48 = .ok (.iadd, 1) := by decide +kernel
theorem d_W_add_49 : decode b_W_add 49 = .ok (.putfield 29, 3) := by decide +kernel
theorem d_W_add_52 : decode b_W_add 52 = .ok (.return_, 1) := by decide +kernel
def vc_W_isBlank   (x1 : Int32) (K_ : Int32 → Prop) : Prop :=
  ((x1 = 9 → (K_ 1)) ∧ (¬ x1 = 9 → ((x1 = 10 → (K_ 1)) ∧ (¬ x1 = 10 → ((x1 = 13 → (K_ 1)) ∧ (¬ x1 = 13 → ((¬ x1 = 32 → (K_ 0)) ∧ (x1 = 32 → (K_ 1)))))))))
set_option maxHeartbeats 4000000 in
set_option maxRecDepth 100000 in
theorem met_W_isBlank {l : Launch} {dd : va_G} {cB cI cL cS : ClassId}     {x1 : Int32} {K_ : Int32 → Prop}  (hv : vc_W_isBlank   x1 K_) : CtR l y_W_isBlank w_W_isBlank (rmk 0 0 0) dd cls5 [(cB, .byte), (cI, .int), (cL, .long), (cS, .object "java/lang/String")] X0 [] [.int x1] (qR K_) := by
  refine m_ofR (cc := b_W_isBlank) (nL := 1) (ret := (some .boolean)) (by decide) rfl (Nat.le_of_ble_eq_true rfl) ?_
  intro p e s m below meth c ls ar Fx_ hP hK hX hl
  obtain ⟨hx, hb, hml, hr, hlocks, hown, hts, hinn⟩ := Fx_
  have hl : lv_has ls 1 [(0, .int x1)] := hl
  unfold vc_W_isBlank at hv
  refine lv_iload_n hx hb d_W_isBlank_0 rfl (lv_at hl 0 rfl) ?_
  refine lv_bipush (v := 9) hx hb d_W_isBlank_1 (by decide) ?_
  refine lv_icmp_eq (tgt := 24) hx hb d_W_isBlank_3 (by decide) (fun b_1 => ?_) (fun b_1 => ?_)
  · have hv := hv.1 b_1
    refine lv_iconst (v := 1) hx hb d_W_isBlank_24 (by decide) ?_
    refine lv_goto (tgt := 29) hx hb d_W_isBlank_25 (by decide) ?_
    exact rr_z hx hb hr narrow_b1 hlocks 1 hv d_W_isBlank_29
  · have hv := hv.2 b_1
    refine lv_iload_n hx hb d_W_isBlank_6 rfl (lv_at hl 0 rfl) ?_
    refine lv_bipush (v := 10) hx hb d_W_isBlank_7 (by decide) ?_
    refine lv_icmp_eq (tgt := 24) hx hb d_W_isBlank_9 (by decide) (fun b_2 => ?_) (fun b_2 => ?_)
    · have hv := hv.1 b_2
      refine lv_iconst (v := 1) hx hb d_W_isBlank_24 (by decide) ?_
      refine lv_goto (tgt := 29) hx hb d_W_isBlank_25 (by decide) ?_
      exact rr_z hx hb hr narrow_b1 hlocks 1 hv d_W_isBlank_29
    · have hv := hv.2 b_2
      refine lv_iload_n hx hb d_W_isBlank_12 rfl (lv_at hl 0 rfl) ?_
      refine lv_bipush (v := 13) hx hb d_W_isBlank_13 (by decide) ?_
      refine lv_icmp_eq (tgt := 24) hx hb d_W_isBlank_15 (by decide) (fun b_3 => ?_) (fun b_3 => ?_)
      · have hv := hv.1 b_3
        refine lv_iconst (v := 1) hx hb d_W_isBlank_24 (by decide) ?_
        refine lv_goto (tgt := 29) hx hb d_W_isBlank_25 (by decide) ?_
        exact rr_z hx hb hr narrow_b1 hlocks 1 hv d_W_isBlank_29
      · have hv := hv.2 b_3
        refine lv_iload_n hx hb d_W_isBlank_18 rfl (lv_at hl 0 rfl) ?_
        refine lv_bipush (v := 32) hx hb d_W_isBlank_19 (by decide) ?_
        refine lv_icmp_ne (tgt := 28) hx hb d_W_isBlank_21 (by decide) (fun b_4 => ?_) (fun b_4 => ?_)
        · have hv := hv.1 b_4
          refine lv_iconst (v := 0) hx hb d_W_isBlank_28 (by decide) ?_
          exact rr_z hx hb hr narrow_b0 hlocks 0 hv d_W_isBlank_29
        · have hv := hv.2 b_4
          refine lv_iconst (v := 1) hx hb d_W_isBlank_24 (by decide) ?_
          refine lv_goto (tgt := 29) hx hb d_W_isBlank_25 (by decide) ?_
          exact rr_z hx hb hr narrow_b1 hlocks 1 hv d_W_isBlank_29
def vc_W_isLetter   (x1 : Int32) (K_ : Int32 → Prop) : Prop :=
  ((x1 < 97 → ((x1 < 65 → ((¬ x1 = 95 → (K_ 0)) ∧ (x1 = 95 → (K_ 1)))) ∧ (¬ x1 < 65 → ((x1 ≤ 90 → (K_ 1)) ∧ (¬ x1 ≤ 90 → ((¬ x1 = 95 → (K_ 0)) ∧ (x1 = 95 → (K_ 1)))))))) ∧ (¬ x1 < 97 → ((x1 ≤ 122 → (K_ 1)) ∧ (¬ x1 ≤ 122 → ((x1 < 65 → ((¬ x1 = 95 → (K_ 0)) ∧ (x1 = 95 → (K_ 1)))) ∧ (¬ x1 < 65 → ((x1 ≤ 90 → (K_ 1)) ∧ (¬ x1 ≤ 90 → ((¬ x1 = 95 → (K_ 0)) ∧ (x1 = 95 → (K_ 1)))))))))))
set_option maxHeartbeats 4000000 in
set_option maxRecDepth 100000 in
theorem met_W_isLetter {l : Launch} {dd : va_G} {cB cI cL cS : ClassId}     {x1 : Int32} {K_ : Int32 → Prop}  (hv : vc_W_isLetter   x1 K_) : CtR l y_W_isLetter w_W_isLetter (rmk 0 0 0) dd cls5 [(cB, .byte), (cI, .int), (cL, .long), (cS, .object "java/lang/String")] X0 [] [.int x1] (qR K_) := by
  refine m_ofR (cc := b_W_isLetter) (nL := 1) (ret := (some .boolean)) (by decide) rfl (Nat.le_of_ble_eq_true rfl) ?_
  intro p e s m below meth c ls ar Fx_ hP hK hX hl
  obtain ⟨hx, hb, hml, hr, hlocks, hown, hts, hinn⟩ := Fx_
  have hl : lv_has ls 1 [(0, .int x1)] := hl
  unfold vc_W_isLetter at hv
  refine lv_iload_n hx hb d_W_isLetter_0 rfl (lv_at hl 0 rfl) ?_
  refine lv_bipush (v := 97) hx hb d_W_isLetter_1 (by decide) ?_
  refine lv_icmp_lt (tgt := 12) hx hb d_W_isLetter_3 (by decide) (fun b_1 => ?_) (fun b_1 => ?_)
  · have hv := hv.1 b_1
    refine lv_iload_n hx hb d_W_isLetter_12 rfl (lv_at hl 0 rfl) ?_
    refine lv_bipush (v := 65) hx hb d_W_isLetter_13 (by decide) ?_
    refine lv_icmp_lt (tgt := 24) hx hb d_W_isLetter_15 (by decide) (fun b_2 => ?_) (fun b_2 => ?_)
    · have hv := hv.1 b_2
      refine lv_iload_n hx hb d_W_isLetter_24 rfl (lv_at hl 0 rfl) ?_
      refine lv_bipush (v := 95) hx hb d_W_isLetter_25 (by decide) ?_
      refine lv_icmp_ne (tgt := 34) hx hb d_W_isLetter_27 (by decide) (fun b_3 => ?_) (fun b_3 => ?_)
      · have hv := hv.1 b_3
        refine lv_iconst (v := 0) hx hb d_W_isLetter_34 (by decide) ?_
        exact rr_z hx hb hr narrow_b0 hlocks 0 hv d_W_isLetter_35
      · have hv := hv.2 b_3
        refine lv_iconst (v := 1) hx hb d_W_isLetter_30 (by decide) ?_
        refine lv_goto (tgt := 35) hx hb d_W_isLetter_31 (by decide) ?_
        exact rr_z hx hb hr narrow_b1 hlocks 1 hv d_W_isLetter_35
    · have hv := hv.2 b_2
      refine lv_iload_n hx hb d_W_isLetter_18 rfl (lv_at hl 0 rfl) ?_
      refine lv_bipush (v := 90) hx hb d_W_isLetter_19 (by decide) ?_
      refine lv_icmp_le (tgt := 30) hx hb d_W_isLetter_21 (by decide) (fun b_4 => ?_) (fun b_4 => ?_)
      · have hv := hv.1 b_4
        refine lv_iconst (v := 1) hx hb d_W_isLetter_30 (by decide) ?_
        refine lv_goto (tgt := 35) hx hb d_W_isLetter_31 (by decide) ?_
        exact rr_z hx hb hr narrow_b1 hlocks 1 hv d_W_isLetter_35
      · have hv := hv.2 b_4
        refine lv_iload_n hx hb d_W_isLetter_24 rfl (lv_at hl 0 rfl) ?_
        refine lv_bipush (v := 95) hx hb d_W_isLetter_25 (by decide) ?_
        refine lv_icmp_ne (tgt := 34) hx hb d_W_isLetter_27 (by decide) (fun b_5 => ?_) (fun b_5 => ?_)
        · have hv := hv.1 b_5
          refine lv_iconst (v := 0) hx hb d_W_isLetter_34 (by decide) ?_
          exact rr_z hx hb hr narrow_b0 hlocks 0 hv d_W_isLetter_35
        · have hv := hv.2 b_5
          refine lv_iconst (v := 1) hx hb d_W_isLetter_30 (by decide) ?_
          refine lv_goto (tgt := 35) hx hb d_W_isLetter_31 (by decide) ?_
          exact rr_z hx hb hr narrow_b1 hlocks 1 hv d_W_isLetter_35
  · have hv := hv.2 b_1
    refine lv_iload_n hx hb d_W_isLetter_6 rfl (lv_at hl 0 rfl) ?_
    refine lv_bipush (v := 122) hx hb d_W_isLetter_7 (by decide) ?_
    refine lv_icmp_le (tgt := 30) hx hb d_W_isLetter_9 (by decide) (fun b_6 => ?_) (fun b_6 => ?_)
    · have hv := hv.1 b_6
      refine lv_iconst (v := 1) hx hb d_W_isLetter_30 (by decide) ?_
      refine lv_goto (tgt := 35) hx hb d_W_isLetter_31 (by decide) ?_
      exact rr_z hx hb hr narrow_b1 hlocks 1 hv d_W_isLetter_35
    · have hv := hv.2 b_6
      refine lv_iload_n hx hb d_W_isLetter_12 rfl (lv_at hl 0 rfl) ?_
      refine lv_bipush (v := 65) hx hb d_W_isLetter_13 (by decide) ?_
      refine lv_icmp_lt (tgt := 24) hx hb d_W_isLetter_15 (by decide) (fun b_7 => ?_) (fun b_7 => ?_)
      · have hv := hv.1 b_7
        refine lv_iload_n hx hb d_W_isLetter_24 rfl (lv_at hl 0 rfl) ?_
        refine lv_bipush (v := 95) hx hb d_W_isLetter_25 (by decide) ?_
        refine lv_icmp_ne (tgt := 34) hx hb d_W_isLetter_27 (by decide) (fun b_8 => ?_) (fun b_8 => ?_)
        · have hv := hv.1 b_8
          refine lv_iconst (v := 0) hx hb d_W_isLetter_34 (by decide) ?_
          exact rr_z hx hb hr narrow_b0 hlocks 0 hv d_W_isLetter_35
        · have hv := hv.2 b_8
          refine lv_iconst (v := 1) hx hb d_W_isLetter_30 (by decide) ?_
          refine lv_goto (tgt := 35) hx hb d_W_isLetter_31 (by decide) ?_
          exact rr_z hx hb hr narrow_b1 hlocks 1 hv d_W_isLetter_35
      · have hv := hv.2 b_7
        refine lv_iload_n hx hb d_W_isLetter_18 rfl (lv_at hl 0 rfl) ?_
        refine lv_bipush (v := 90) hx hb d_W_isLetter_19 (by decide) ?_
        refine lv_icmp_le (tgt := 30) hx hb d_W_isLetter_21 (by decide) (fun b_9 => ?_) (fun b_9 => ?_)
        · have hv := hv.1 b_9
          refine lv_iconst (v := 1) hx hb d_W_isLetter_30 (by decide) ?_
          refine lv_goto (tgt := 35) hx hb d_W_isLetter_31 (by decide) ?_
          exact rr_z hx hb hr narrow_b1 hlocks 1 hv d_W_isLetter_35
        · have hv := hv.2 b_9
          refine lv_iload_n hx hb d_W_isLetter_24 rfl (lv_at hl 0 rfl) ?_
          refine lv_bipush (v := 95) hx hb d_W_isLetter_25 (by decide) ?_
          refine lv_icmp_ne (tgt := 34) hx hb d_W_isLetter_27 (by decide) (fun b_10 => ?_) (fun b_10 => ?_)
          · have hv := hv.1 b_10
            refine lv_iconst (v := 0) hx hb d_W_isLetter_34 (by decide) ?_
            exact rr_z hx hb hr narrow_b0 hlocks 0 hv d_W_isLetter_35
          · have hv := hv.2 b_10
            refine lv_iconst (v := 1) hx hb d_W_isLetter_30 (by decide) ?_
            refine lv_goto (tgt := 35) hx hb d_W_isLetter_31 (by decide) ?_
            exact rr_z hx hb hr narrow_b1 hlocks 1 hv d_W_isLetter_35
def vc_W_isDigit   (x1 : Int32) (K_ : Int32 → Prop) : Prop :=
  ((x1 < 48 → (K_ 0)) ∧ (¬ x1 < 48 → ((57 < x1 → (K_ 0)) ∧ (¬ 57 < x1 → (K_ 1)))))
set_option maxHeartbeats 4000000 in
set_option maxRecDepth 100000 in
theorem met_W_isDigit {l : Launch} {dd : va_G} {cB cI cL cS : ClassId}     {x1 : Int32} {K_ : Int32 → Prop}  (hv : vc_W_isDigit   x1 K_) : CtR l y_W_isDigit w_W_isDigit (rmk 0 0 0) dd cls5 [(cB, .byte), (cI, .int), (cL, .long), (cS, .object "java/lang/String")] X0 [] [.int x1] (qR K_) := by
  refine m_ofR (cc := b_W_isDigit) (nL := 1) (ret := (some .boolean)) (by decide) rfl (Nat.le_of_ble_eq_true rfl) ?_
  intro p e s m below meth c ls ar Fx_ hP hK hX hl
  obtain ⟨hx, hb, hml, hr, hlocks, hown, hts, hinn⟩ := Fx_
  have hl : lv_has ls 1 [(0, .int x1)] := hl
  unfold vc_W_isDigit at hv
  refine lv_iload_n hx hb d_W_isDigit_0 rfl (lv_at hl 0 rfl) ?_
  refine lv_bipush (v := 48) hx hb d_W_isDigit_1 (by decide) ?_
  refine lv_icmp_lt (tgt := 16) hx hb d_W_isDigit_3 (by decide) (fun b_1 => ?_) (fun b_1 => ?_)
  · have hv := hv.1 b_1
    refine lv_iconst (v := 0) hx hb d_W_isDigit_16 (by decide) ?_
    exact rr_z hx hb hr narrow_b0 hlocks 0 hv d_W_isDigit_17
  · have hv := hv.2 b_1
    refine lv_iload_n hx hb d_W_isDigit_6 rfl (lv_at hl 0 rfl) ?_
    refine lv_bipush (v := 57) hx hb d_W_isDigit_7 (by decide) ?_
    refine lv_icmp_gt (tgt := 16) hx hb d_W_isDigit_9 (by decide) (fun b_2 => ?_) (fun b_2 => ?_)
    · have hv := hv.1 b_2
      refine lv_iconst (v := 0) hx hb d_W_isDigit_16 (by decide) ?_
      exact rr_z hx hb hr narrow_b0 hlocks 0 hv d_W_isDigit_17
    · have hv := hv.2 b_2
      refine lv_iconst (v := 1) hx hb d_W_isDigit_12 (by decide) ?_
      refine lv_goto (tgt := 17) hx hb d_W_isDigit_13 (by decide) ?_
      exact rr_z hx hb hr narrow_b1 hlocks 1 hv d_W_isDigit_17
def vc_W_byteAt  (nX : Nat) (tx : FN) (ln : Int32) (x1 : Int32) (K_ : Int32 → Prop) : Prop :=
  ((x1 < 0 → (K_ (-1))) ∧ (¬ x1 < 0 → ((ln ≤ x1 → (K_ (-1))) ∧ (¬ ln ≤ x1 → (vp_in x1 nX ∧ (K_ ((tx x1.toNatClampNeg) &&& 255)))))))
set_option maxHeartbeats 4000000 in
set_option maxRecDepth 100000 in
theorem met_W_byteAt {l : Launch} {dd : va_G} {cB cI cL cS : ClassId}  {oW : Nat} {aX : Nat} {aO : Nat} {aB : Nat} {aE : Nat}  {nX : Nat} {tx : FN} {ln : Int32} {wc : Int32} {x1 : Int32} {K_ : Int32 → Prop}  (hv : vc_W_byteAt  nX tx ln x1 K_) : CtR l y_W_byteAt w_W_byteAt (rmk 0 0 0) dd cls5 [(cB, .byte), (cI, .int), (cL, .long), (cS, .object "java/lang/String")] X0 [(oW, .inr (1, [.ref aX, .int ln, .ref aO, .ref aB, .ref aE, .int wc])), (aX, .inl (cB, nX, .inl tx))] [.ref oW, .int x1] (qR K_) := by
  refine m_ofR (cc := b_W_byteAt) (nL := 2) (ret := (some .int)) (by decide) rfl (Nat.le_of_ble_eq_true rfl) ?_
  intro p e s m below meth c ls ar Fx_ hP hK hX hl
  obtain ⟨hx, hb, hml, hr, hlocks, hown, hts, hinn⟩ := Fx_
  have hl : lv_has ls 2 [(0, .ref oW), (1, .int x1)] := hl
  unfold vc_W_byteAt at hv
  refine lv_iload_n hx hb d_W_byteAt_0 rfl (lv_at hl 1 rfl) ?_
  refine lv_if_lt (tgt := 25) hx hb d_W_byteAt_1 (by decide) (fun b_1 => ?_) (fun b_1 => ?_)
  · have hv := hv.1 b_1
    refine lv_iconst (v := (-1)) hx hb d_W_byteAt_25 (by decide) ?_
    exact rr_i hx hb hr hlocks (-1) hv d_W_byteAt_26
  · have hv := hv.2 b_1
    refine lv_iload_n hx hb d_W_byteAt_4 rfl (lv_at hl 1 rfl) ?_
    refine lv_aload_n hx hb d_W_byteAt_5 rfl (lv_at hl 0 rfl) ?_
    refine va_get (D := dd) (ci := 1) (C := Rc_W) (T := Fc_W) (N := 6) (v := .int ln) hx hb hts (inn in_W) hown hK hP 0 rfl rfl 1 (by decide) (hts (.fieldLink "NetText$Words" 15 "NetText$Words" "length" "I") (tg at_35)) (fun _ h9 => h9) rfl d_W_byteAt_6 ?_
    refine lv_icmp_ge (tgt := 25) hx hb d_W_byteAt_9 (by decide) (fun b_2 => ?_) (fun b_2 => ?_)
    · have hv := hv.1 b_2
      refine lv_iconst (v := (-1)) hx hb d_W_byteAt_25 (by decide) ?_
      exact rr_i hx hb hr hlocks (-1) hv d_W_byteAt_26
    · have hv := hv.2 b_2
      refine lv_aload_n hx hb d_W_byteAt_12 rfl (lv_at hl 0 rfl) ?_
      refine va_get (D := dd) (ci := 1) (C := Rc_W) (T := Fc_W) (N := 6) (v := .ref aX) hx hb hts (inn in_W) hown hK hP 0 rfl rfl 0 (by decide) (hts (.fieldLink "NetText$Words" 9 "NetText$Words" "text" "[B") (tg at_34)) (fun _ h9 => h9) rfl d_W_byteAt_13 ?_
      refine lv_iload_n hx hb d_W_byteAt_16 rfl (lv_at hl 1 rfl) ?_
      obtain ⟨h_3, hv⟩ := hv
      refine va_bald hx hb hK hP 1 0 rfl rfl h_3 d_W_byteAt_17 ?_
      refine lv_sipush (v := 255) hx hb d_W_byteAt_18 (by decide) ?_
      refine lv_iand hx hb d_W_byteAt_21 ?_
      refine lv_goto (tgt := 26) hx hb d_W_byteAt_22 (by decide) ?_
      exact rr_i hx hb hr hlocks ((tx x1.toNatClampNeg) &&& 255) hv d_W_byteAt_26
def vc_W_holds  (wc : Int32) (x1 : Int32) (K_ : Int32 → Prop) : Prop :=
  ((x1 < 0 → (K_ 0)) ∧ (¬ x1 < 0 → ((wc ≤ x1 → (K_ 0)) ∧ (¬ wc ≤ x1 → (K_ 1)))))
set_option maxHeartbeats 4000000 in
set_option maxRecDepth 100000 in
theorem met_W_holds {l : Launch} {dd : va_G} {cB cI cL cS : ClassId}  {oW : Nat} {aX : Nat} {aO : Nat} {aB : Nat} {aE : Nat}  {wc : Int32} {ln : Int32} {x1 : Int32} {K_ : Int32 → Prop}  (hv : vc_W_holds  wc x1 K_) : CtR l y_W_holds w_W_holds (rmk 0 0 0) dd cls5 [(cB, .byte), (cI, .int), (cL, .long), (cS, .object "java/lang/String")] X0 [(oW, .inr (1, [.ref aX, .int ln, .ref aO, .ref aB, .ref aE, .int wc]))] [.ref oW, .int x1] (qR K_) := by
  refine m_ofR (cc := b_W_holds) (nL := 2) (ret := (some .boolean)) (by decide) rfl (Nat.le_of_ble_eq_true rfl) ?_
  intro p e s m below meth c ls ar Fx_ hP hK hX hl
  obtain ⟨hx, hb, hml, hr, hlocks, hown, hts, hinn⟩ := Fx_
  have hl : lv_has ls 2 [(0, .ref oW), (1, .int x1)] := hl
  unfold vc_W_holds at hv
  refine lv_iload_n hx hb d_W_holds_0 rfl (lv_at hl 1 rfl) ?_
  refine lv_if_lt (tgt := 16) hx hb d_W_holds_1 (by decide) (fun b_1 => ?_) (fun b_1 => ?_)
  · have hv := hv.1 b_1
    refine lv_iconst (v := 0) hx hb d_W_holds_16 (by decide) ?_
    exact rr_z hx hb hr narrow_b0 hlocks 0 hv d_W_holds_17
  · have hv := hv.2 b_1
    refine lv_iload_n hx hb d_W_holds_4 rfl (lv_at hl 1 rfl) ?_
    refine lv_aload_n hx hb d_W_holds_5 rfl (lv_at hl 0 rfl) ?_
    refine va_get (D := dd) (ci := 1) (C := Rc_W) (T := Fc_W) (N := 6) (v := .int wc) hx hb hts (inn in_W) hown hK hP 0 rfl rfl 5 (by decide) (hts (.fieldLink "NetText$Words" 29 "NetText$Words" "count" "I") (tg at_40)) (fun _ h9 => h9) rfl d_W_holds_6 ?_
    refine lv_icmp_ge (tgt := 16) hx hb d_W_holds_9 (by decide) (fun b_2 => ?_) (fun b_2 => ?_)
    · have hv := hv.1 b_2
      refine lv_iconst (v := 0) hx hb d_W_holds_16 (by decide) ?_
      exact rr_z hx hb hr narrow_b0 hlocks 0 hv d_W_holds_17
    · have hv := hv.2 b_2
      refine lv_iconst (v := 1) hx hb d_W_holds_12 (by decide) ?_
      refine lv_goto (tgt := 17) hx hb d_W_holds_13 (by decide) ?_
      exact rr_z hx hb hr narrow_b1 hlocks 1 hv d_W_holds_17
def vc_W_sortOf  (nO : Nat) (so : FN) (wc : Int32) (x1 : Int32) (K_ : Int32 → Prop) : Prop :=
  (vc_W_holds wc x1 (fun r_1 => ((r_1 = 0 → (K_ 0)) ∧ (¬ r_1 = 0 → (vp_in x1 nO ∧ (K_ (so x1.toNatClampNeg)))))))
set_option maxHeartbeats 4000000 in
set_option maxRecDepth 100000 in
theorem met_W_sortOf {l : Launch} {dd : va_G} {cB cI cL cS : ClassId}  {oW : Nat} {aX : Nat} {aO : Nat} {aB : Nat} {aE : Nat}  {nO : Nat} {so : FN} {wc : Int32} {ln : Int32} {x1 : Int32} {K_ : Int32 → Prop}  (hv : vc_W_sortOf  nO so wc x1 K_) : CtR l y_W_sortOf w_W_sortOf (rmk 1 0 0) dd cls5 [(cB, .byte), (cI, .int), (cL, .long), (cS, .object "java/lang/String")] X0 [(oW, .inr (1, [.ref aX, .int ln, .ref aO, .ref aB, .ref aE, .int wc])), (aO, .inl (cI, nO, .inl so))] [.ref oW, .int x1] (qR K_) := by
  refine m_ofR (cc := b_W_sortOf) (nL := 2) (ret := (some .int)) (by decide) rfl (Nat.le_of_ble_eq_true rfl) ?_
  intro p e s m below meth c ls ar Fx_ hP hK hX hl
  obtain ⟨hx, hb, hml, hr, hlocks, hown, hts, hinn⟩ := Fx_
  have hl : lv_has ls 2 [(0, .ref oW), (1, .int x1)] := hl
  unfold vc_W_sortOf at hv
  refine lv_aload_n hx hb d_W_sortOf_0 rfl (lv_at hl 0 rfl) ?_
  refine lv_iload_n hx hb d_W_sortOf_1 rfl (lv_at hl 1 rfl) ?_
  have hM := met_W_holds (l := l) (dd := dd) (cB := cB) (cI := cI) (cL := cL) (cS := cS) (oW := oW) (aX := aX) (aO := aO) (aB := aB) (aE := aE) (ln := ln)  hv
  refine krv_i (st := [.int x1, .ref oW]) (rest := []) ⟨hx, hb, hml, hown, hts⟩ hM (cwV 1 hts (gv (tg0 at_349) (tg0 at_351) (tg0 ap_14) (tg0 at_2) (tg0 at_352)) rfl rfl rfl (by decide +kernel) (rk (by omega) (by decide))) x0b (fun _ _ _ => trivial) hP hK [0] rfl (ci := 1) rfl rfl (q0 := 0) rfl rfl hl.1 rfl (Nat.le_of_ble_eq_true rfl) d_W_sortOf_2 ⟨Nat.zero_le _, Nat.zero_le _⟩ (fun r_1 hv => ?_)
  refine lv_if_eq (tgt := 17) hx hb d_W_sortOf_5 (by decide) (fun b_2 => ?_) (fun b_2 => ?_)
  · have hv := hv.1 b_2
    refine lv_iconst (v := 0) hx hb d_W_sortOf_17 (by decide) ?_
    exact rr_i hx hb hr hlocks 0 hv d_W_sortOf_18
  · have hv := hv.2 b_2
    refine lv_aload_n hx hb d_W_sortOf_8 rfl (lv_at hl 0 rfl) ?_
    refine va_get (D := dd) (ci := 1) (C := Rc_W) (T := Fc_W) (N := 6) (v := .ref aO) hx hb hts (inn in_W) hown hK hP 0 rfl rfl 2 (by decide) (hts (.fieldLink "NetText$Words" 19 "NetText$Words" "sorts" "[I") (tg at_36)) (fun _ h9 => h9) rfl d_W_sortOf_9 ?_
    refine lv_iload_n hx hb d_W_sortOf_12 rfl (lv_at hl 1 rfl) ?_
    obtain ⟨h_3, hv⟩ := hv
    refine va_iald hx hb hK hP 1 1 rfl rfl h_3 d_W_sortOf_13 ?_
    refine lv_goto (tgt := 18) hx hb d_W_sortOf_14 (by decide) ?_
    exact rr_i hx hb hr hlocks (so x1.toNatClampNeg) hv d_W_sortOf_18
def vc_W_startOf  (nO : Nat) (sb : FN) (wc : Int32) (x1 : Int32) (K_ : Int32 → Prop) : Prop :=
  (vc_W_holds wc x1 (fun r_1 => ((r_1 = 0 → (K_ (-1))) ∧ (¬ r_1 = 0 → (vp_in x1 nO ∧ (K_ (sb x1.toNatClampNeg)))))))
set_option maxHeartbeats 4000000 in
set_option maxRecDepth 100000 in
theorem met_W_startOf {l : Launch} {dd : va_G} {cB cI cL cS : ClassId}  {oW : Nat} {aX : Nat} {aO : Nat} {aB : Nat} {aE : Nat}  {nO : Nat} {sb : FN} {wc : Int32} {ln : Int32} {x1 : Int32} {K_ : Int32 → Prop}  (hv : vc_W_startOf  nO sb wc x1 K_) : CtR l y_W_startOf w_W_startOf (rmk 1 0 0) dd cls5 [(cB, .byte), (cI, .int), (cL, .long), (cS, .object "java/lang/String")] X0 [(oW, .inr (1, [.ref aX, .int ln, .ref aO, .ref aB, .ref aE, .int wc])), (aB, .inl (cI, nO, .inl sb))] [.ref oW, .int x1] (qR K_) := by
  refine m_ofR (cc := b_W_startOf) (nL := 2) (ret := (some .int)) (by decide) rfl (Nat.le_of_ble_eq_true rfl) ?_
  intro p e s m below meth c ls ar Fx_ hP hK hX hl
  obtain ⟨hx, hb, hml, hr, hlocks, hown, hts, hinn⟩ := Fx_
  have hl : lv_has ls 2 [(0, .ref oW), (1, .int x1)] := hl
  unfold vc_W_startOf at hv
  refine lv_aload_n hx hb d_W_startOf_0 rfl (lv_at hl 0 rfl) ?_
  refine lv_iload_n hx hb d_W_startOf_1 rfl (lv_at hl 1 rfl) ?_
  have hM := met_W_holds (l := l) (dd := dd) (cB := cB) (cI := cI) (cL := cL) (cS := cS) (oW := oW) (aX := aX) (aO := aO) (aB := aB) (aE := aE) (ln := ln)  hv
  refine krv_i (st := [.int x1, .ref oW]) (rest := []) ⟨hx, hb, hml, hown, hts⟩ hM (cwV 1 hts (gv (tg0 at_349) (tg0 at_351) (tg0 ap_14) (tg0 at_2) (tg0 at_352)) rfl rfl rfl (by decide +kernel) (rk (by omega) (by decide))) x0b (fun _ _ _ => trivial) hP hK [0] rfl (ci := 1) rfl rfl (q0 := 0) rfl rfl hl.1 rfl (Nat.le_of_ble_eq_true rfl) d_W_startOf_2 ⟨Nat.zero_le _, Nat.zero_le _⟩ (fun r_1 hv => ?_)
  refine lv_if_eq (tgt := 17) hx hb d_W_startOf_5 (by decide) (fun b_2 => ?_) (fun b_2 => ?_)
  · have hv := hv.1 b_2
    refine lv_iconst (v := (-1)) hx hb d_W_startOf_17 (by decide) ?_
    exact rr_i hx hb hr hlocks (-1) hv d_W_startOf_18
  · have hv := hv.2 b_2
    refine lv_aload_n hx hb d_W_startOf_8 rfl (lv_at hl 0 rfl) ?_
    refine va_get (D := dd) (ci := 1) (C := Rc_W) (T := Fc_W) (N := 6) (v := .ref aB) hx hb hts (inn in_W) hown hK hP 0 rfl rfl 3 (by decide) (hts (.fieldLink "NetText$Words" 23 "NetText$Words" "starts" "[I") (tg at_38)) (fun _ h9 => h9) rfl d_W_startOf_9 ?_
    refine lv_iload_n hx hb d_W_startOf_12 rfl (lv_at hl 1 rfl) ?_
    obtain ⟨h_3, hv⟩ := hv
    refine va_iald hx hb hK hP 1 1 rfl rfl h_3 d_W_startOf_13 ?_
    refine lv_goto (tgt := 18) hx hb d_W_startOf_14 (by decide) ?_
    exact rr_i hx hb hr hlocks (sb x1.toNatClampNeg) hv d_W_startOf_18
def vc_W_lengthOf  (nO : Nat) (sb : FN) (se : FN) (wc : Int32) (x1 : Int32) (K_ : Int32 → Prop) : Prop :=
  (vc_W_holds wc x1 (fun r_1 => ((r_1 = 0 → (K_ (-1))) ∧ (¬ r_1 = 0 → (vp_in x1 nO ∧ (vp_in x1 nO ∧ (K_ ((se x1.toNatClampNeg) - (sb x1.toNatClampNeg)))))))))
set_option maxHeartbeats 4000000 in
set_option maxRecDepth 100000 in
theorem met_W_lengthOf {l : Launch} {dd : va_G} {cB cI cL cS : ClassId}  {oW : Nat} {aX : Nat} {aO : Nat} {aB : Nat} {aE : Nat}  {nO : Nat} {sb : FN} {se : FN} {wc : Int32} {ln : Int32} {x1 : Int32} {K_ : Int32 → Prop}  (hv : vc_W_lengthOf  nO sb se wc x1 K_) : CtR l y_W_lengthOf w_W_lengthOf (rmk 1 0 0) dd cls5 [(cB, .byte), (cI, .int), (cL, .long), (cS, .object "java/lang/String")] X0 [(oW, .inr (1, [.ref aX, .int ln, .ref aO, .ref aB, .ref aE, .int wc])), (aB, .inl (cI, nO, .inl sb)), (aE, .inl (cI, nO, .inl se))] [.ref oW, .int x1] (qR K_) := by
  refine m_ofR (cc := b_W_lengthOf) (nL := 2) (ret := (some .int)) (by decide) rfl (Nat.le_of_ble_eq_true rfl) ?_
  intro p e s m below meth c ls ar Fx_ hP hK hX hl
  obtain ⟨hx, hb, hml, hr, hlocks, hown, hts, hinn⟩ := Fx_
  have hl : lv_has ls 2 [(0, .ref oW), (1, .int x1)] := hl
  unfold vc_W_lengthOf at hv
  refine lv_aload_n hx hb d_W_lengthOf_0 rfl (lv_at hl 0 rfl) ?_
  refine lv_iload_n hx hb d_W_lengthOf_1 rfl (lv_at hl 1 rfl) ?_
  have hM := met_W_holds (l := l) (dd := dd) (cB := cB) (cI := cI) (cL := cL) (cS := cS) (oW := oW) (aX := aX) (aO := aO) (aB := aB) (aE := aE) (ln := ln)  hv
  refine krv_i (st := [.int x1, .ref oW]) (rest := []) ⟨hx, hb, hml, hown, hts⟩ hM (cwV 1 hts (gv (tg0 at_349) (tg0 at_351) (tg0 ap_14) (tg0 at_2) (tg0 at_352)) rfl rfl rfl (by decide +kernel) (rk (by omega) (by decide))) x0b (fun _ _ _ => trivial) hP hK [0] rfl (ci := 1) rfl rfl (q0 := 0) rfl rfl hl.1 rfl (Nat.le_of_ble_eq_true rfl) d_W_lengthOf_2 ⟨Nat.zero_le _, Nat.zero_le _⟩ (fun r_1 hv => ?_)
  refine lv_if_eq (tgt := 24) hx hb d_W_lengthOf_5 (by decide) (fun b_2 => ?_) (fun b_2 => ?_)
  · have hv := hv.1 b_2
    refine lv_iconst (v := (-1)) hx hb d_W_lengthOf_24 (by decide) ?_
    exact rr_i hx hb hr hlocks (-1) hv d_W_lengthOf_25
  · have hv := hv.2 b_2
    refine lv_aload_n hx hb d_W_lengthOf_8 rfl (lv_at hl 0 rfl) ?_
    refine va_get (D := dd) (ci := 1) (C := Rc_W) (T := Fc_W) (N := 6) (v := .ref aE) hx hb hts (inn in_W) hown hK hP 0 rfl rfl 4 (by decide) (hts (.fieldLink "NetText$Words" 26 "NetText$Words" "ends" "[I") (tg at_39)) (fun _ h9 => h9) rfl d_W_lengthOf_9 ?_
    refine lv_iload_n hx hb d_W_lengthOf_12 rfl (lv_at hl 1 rfl) ?_
    obtain ⟨h_3, hv⟩ := hv
    refine va_iald hx hb hK hP 2 1 rfl rfl h_3 d_W_lengthOf_13 ?_
    refine lv_aload_n hx hb d_W_lengthOf_14 rfl (lv_at hl 0 rfl) ?_
    refine va_get (D := dd) (ci := 1) (C := Rc_W) (T := Fc_W) (N := 6) (v := .ref aB) hx hb hts (inn in_W) hown hK hP 0 rfl rfl 3 (by decide) (hts (.fieldLink "NetText$Words" 23 "NetText$Words" "starts" "[I") (tg at_38)) (fun _ h9 => h9) rfl d_W_lengthOf_15 ?_
    refine lv_iload_n hx hb d_W_lengthOf_18 rfl (lv_at hl 1 rfl) ?_
    obtain ⟨h_4, hv⟩ := hv
    refine va_iald hx hb hK hP 1 1 rfl rfl h_4 d_W_lengthOf_19 ?_
    refine lv_isub hx hb d_W_lengthOf_20 ?_
    refine lv_goto (tgt := 25) hx hb d_W_lengthOf_21 (by decide) ?_
    exact rr_i hx hb hr hlocks ((se x1.toNatClampNeg) - (sb x1.toNatClampNeg)) hv d_W_lengthOf_25
def vl_W_afterBlanks_4  (nX : Nat) (tx : FN) (ln : Int32) (x1 : Int32)  (K_ : Int32 → Prop) : Nat → Int32 → Int32 → Prop
  | 0 => fun _ _ => False
  | n_ + 1 => fun x3_h4 x2_h4 =>
  ((ln ≤ x2_h4 → (K_ x2_h4)) ∧ (¬ ln ≤ x2_h4 → ((¬ x3_h4 = 0 → (vc_W_byteAt nX tx ln x2_h4 (fun r_3 => ((r_3 = 35 → (vl_W_afterBlanks_4 nX tx ln x1  K_ n_ 1 (x2_h4 + 1))) ∧ (¬ r_3 = 35 → ((x3_h4 = 0 → (vl_W_afterBlanks_4 nX tx ln x1  K_ n_ 0 (x2_h4 + 1))) ∧ (¬ x3_h4 = 0 → (vc_W_byteAt nX tx ln x2_h4 (fun r_6 => ((r_6 = 10 → (vl_W_afterBlanks_4 nX tx ln x1  K_ n_ 0 (x2_h4 + 1))) ∧ (¬ r_6 = 10 → (vl_W_afterBlanks_4 nX tx ln x1  K_ n_ 1 (x2_h4 + 1))))))))))))) ∧ (x3_h4 = 0 → (vc_W_byteAt nX tx ln x2_h4 (fun r_10 => (vc_W_isBlank r_10 (fun r_11 => ((¬ r_11 = 0 → (vc_W_byteAt nX tx ln x2_h4 (fun r_13 => ((r_13 = 35 → (vl_W_afterBlanks_4 nX tx ln x1  K_ n_ 1 (x2_h4 + 1))) ∧ (¬ r_13 = 35 → ((x3_h4 = 0 → (vl_W_afterBlanks_4 nX tx ln x1  K_ n_ 0 (x2_h4 + 1))) ∧ (¬ x3_h4 = 0 → (vc_W_byteAt nX tx ln x2_h4 (fun r_16 => ((r_16 = 10 → (vl_W_afterBlanks_4 nX tx ln x1  K_ n_ 0 (x2_h4 + 1))) ∧ (¬ r_16 = 10 → (vl_W_afterBlanks_4 nX tx ln x1  K_ n_ 1 (x2_h4 + 1))))))))))))) ∧ (r_11 = 0 → (vc_W_byteAt nX tx ln x2_h4 (fun r_20 => ((¬ r_20 = 35 → (K_ x2_h4)) ∧ (r_20 = 35 → (vc_W_byteAt nX tx ln x2_h4 (fun r_22 => ((r_22 = 35 → (vl_W_afterBlanks_4 nX tx ln x1  K_ n_ 1 (x2_h4 + 1))) ∧ (¬ r_22 = 35 → ((x3_h4 = 0 → (vl_W_afterBlanks_4 nX tx ln x1  K_ n_ 0 (x2_h4 + 1))) ∧ (¬ x3_h4 = 0 → (vc_W_byteAt nX tx ln x2_h4 (fun r_25 => ((r_25 = 10 → (vl_W_afterBlanks_4 nX tx ln x1  K_ n_ 0 (x2_h4 + 1))) ∧ (¬ r_25 = 10 → (vl_W_afterBlanks_4 nX tx ln x1  K_ n_ 1 (x2_h4 + 1))))))))))))))))))))))))))
def vc_W_afterBlanks  (nX : Nat) (tx : FN) (ln : Int32) (x1 : Int32) (K_ : Int32 → Prop) : Prop :=
  (∃ n_, vl_W_afterBlanks_4 nX tx ln x1 K_ n_ 0 x1)
set_option maxHeartbeats 4000000 in
set_option maxRecDepth 100000 in
theorem met_W_afterBlanks {l : Launch} {dd : va_G} {cB cI cL cS : ClassId}  {oW : Nat} {aX : Nat} {aO : Nat} {aB : Nat} {aE : Nat}  {nX : Nat} {tx : FN} {ln : Int32} {wc : Int32} {x1 : Int32} {K_ : Int32 → Prop}  (hv : vc_W_afterBlanks  nX tx ln x1 K_) : CtR l y_W_afterBlanks w_W_afterBlanks (rmk 1 0 0) dd cls5 [(cB, .byte), (cI, .int), (cL, .long), (cS, .object "java/lang/String")] X0 [(oW, .inr (1, [.ref aX, .int ln, .ref aO, .ref aB, .ref aE, .int wc])), (aX, .inl (cB, nX, .inl tx))] [.ref oW, .int x1] (qR K_) := by
  refine m_ofR (cc := b_W_afterBlanks) (nL := 4) (ret := (some .int)) (by decide) rfl (Nat.le_of_ble_eq_true rfl) ?_
  intro p e s m below meth c ls ar Fx_ hP hK hX hl
  obtain ⟨hx, hb, hml, hr, hlocks, hown, hts, hinn⟩ := Fx_
  have hl : lv_has ls 4 [(0, .ref oW), (1, .int x1)] := hl
  unfold vc_W_afterBlanks at hv
  refine lv_iload_n hx hb d_W_afterBlanks_0 rfl (lv_at hl 1 rfl) ?_
  refine lv_istore_n (lv' := [(2, .int x1), (0, .ref oW), (1, .int x1)]) hx hb d_W_afterBlanks_1 rfl hl (by decide) rfl (fun ls hl => ?_)
  refine lv_iconst (v := 0) hx hb d_W_afterBlanks_2 (by decide) ?_
  refine lv_istore_n (lv' := [(3, .int 0), (2, .int x1), (0, .ref oW), (1, .int x1)]) hx hb d_W_afterBlanks_3 rfl hl (by decide) rfl (fun ls hl => ?_)
  obtain ⟨n_4, hv⟩ := hv
  have LP_4 : ∀ (n_ : Nat) (x3_h4 : Int32) (x2_h4 : Int32) (ls : Array Slot), vl_W_afterBlanks_4 nX tx ln x1 K_ n_ x3_h4 x2_h4 → lv_has ls 4 [(3, .int x3_h4), (2, .int x2_h4), (0, .ref oW), (1, .int x1)] → W p l e (rmk 1 0 0) s m ar below meth c s.heap [] 0 0 (MQ below (qR K_) ar s 0 0 (fun _ => False)) (F0 m 4 ls []) := by
    intro n_
    induction n_ with
    | zero => intro x3_h4 x2_h4 ls hv; exact False.elim hv
    | succ n_ ih =>
      intro x3_h4 x2_h4 ls hv hl
      unfold vl_W_afterBlanks_4 at hv
      refine lv_iload_n hx hb d_W_afterBlanks_4 rfl (lv_at hl 1 rfl) ?_
      refine lv_aload_n hx hb d_W_afterBlanks_5 rfl (lv_at hl 2 rfl) ?_
      refine va_get (D := dd) (ci := 1) (C := Rc_W) (T := Fc_W) (N := 6) (v := .int ln) hx hb hts (inn in_W) hown hK hP 0 rfl rfl 1 (by decide) (hts (.fieldLink "NetText$Words" 15 "NetText$Words" "length" "I") (tg at_35)) (fun _ h9 => h9) rfl d_W_afterBlanks_6 ?_
      refine lv_icmp_ge (tgt := 73) hx hb d_W_afterBlanks_9 (by decide) (fun b_1 => ?_) (fun b_1 => ?_)
      · have hv := hv.1 b_1
        refine lv_iload_n hx hb d_W_afterBlanks_73 rfl (lv_at hl 1 rfl) ?_
        exact rr_i hx hb hr hlocks x2_h4 hv d_W_afterBlanks_74
      · have hv := hv.2 b_1
        refine lv_iload_n hx hb d_W_afterBlanks_12 rfl (lv_at hl 0 rfl) ?_
        refine lv_if_ne (tgt := 37) hx hb d_W_afterBlanks_13 (by decide) (fun b_2 => ?_) (fun b_2 => ?_)
        · have hv := hv.1 b_2
          refine lv_aload_n hx hb d_W_afterBlanks_37 rfl (lv_at hl 2 rfl) ?_
          refine lv_iload_n hx hb d_W_afterBlanks_38 rfl (lv_at hl 1 rfl) ?_
          have hM := met_W_byteAt (l := l) (dd := dd) (cB := cB) (cI := cI) (cL := cL) (cS := cS) (oW := oW) (aX := aX) (aO := aO) (aB := aB) (aE := aE) (wc := wc)  hv
          refine krv_i (st := [.int x2_h4, .ref oW]) (rest := []) ⟨hx, hb, hml, hown, hts⟩ hM (cwV 1 hts (gv (tg0 at_149) (tg0 at_150) (tg0 at_151) (tg0 at_2) (tg0 at_152)) rfl rfl rfl (by decide +kernel) (rk (by omega) (by decide))) x0b (fun _ _ _ => trivial) hP hK [0, 1] rfl (ci := 1) rfl rfl (q0 := 0) rfl rfl hl.1 rfl (Nat.le_of_ble_eq_true rfl) d_W_afterBlanks_39 ⟨Nat.zero_le _, Nat.zero_le _⟩ (fun r_3 hv => ?_)
          refine lv_bipush (v := 35) hx hb d_W_afterBlanks_42 (by decide) ?_
          refine lv_icmp_eq (tgt := 61) hx hb d_W_afterBlanks_44 (by decide) (fun b_4 => ?_) (fun b_4 => ?_)
          · have hv := hv.1 b_4
            refine lv_iconst (v := 1) hx hb d_W_afterBlanks_61 (by decide) ?_
            refine lv_goto (tgt := 66) hx hb d_W_afterBlanks_62 (by decide) ?_
            refine lv_istore_n (lv' := [(3, .int 1), (2, .int x2_h4), (0, .ref oW), (1, .int x1)]) hx hb d_W_afterBlanks_66 rfl hl (by decide) rfl (fun ls hl => ?_)
            refine lv_iinc (v := (x2_h4 + 1)) (lv' := [(2, .int (x2_h4 + 1)), (3, .int 1), (0, .ref oW), (1, .int x1)]) hx hb d_W_afterBlanks_67 hl (k := 1) rfl rfl (by decide) rfl (fun ls hl => ?_)
            refine lv_goto (tgt := 4) hx hb d_W_afterBlanks_70 (by decide) ?_
            exact ih 1 (x2_h4 + 1) _ hv (lv_sub hl [1, 0, 2, 3] rfl)
          · have hv := hv.2 b_4
            refine lv_iload_n hx hb d_W_afterBlanks_47 rfl (lv_at hl 0 rfl) ?_
            refine lv_if_eq (tgt := 65) hx hb d_W_afterBlanks_48 (by decide) (fun b_5 => ?_) (fun b_5 => ?_)
            · have hv := hv.1 b_5
              refine lv_iconst (v := 0) hx hb d_W_afterBlanks_65 (by decide) ?_
              refine lv_istore_n (lv' := [(3, .int 0), (2, .int x2_h4), (0, .ref oW), (1, .int x1)]) hx hb d_W_afterBlanks_66 rfl hl (by decide) rfl (fun ls hl => ?_)
              refine lv_iinc (v := (x2_h4 + 1)) (lv' := [(2, .int (x2_h4 + 1)), (3, .int 0), (0, .ref oW), (1, .int x1)]) hx hb d_W_afterBlanks_67 hl (k := 1) rfl rfl (by decide) rfl (fun ls hl => ?_)
              refine lv_goto (tgt := 4) hx hb d_W_afterBlanks_70 (by decide) ?_
              exact ih 0 (x2_h4 + 1) _ hv (lv_sub hl [1, 0, 2, 3] rfl)
            · have hv := hv.2 b_5
              refine lv_aload_n hx hb d_W_afterBlanks_51 rfl (lv_at hl 2 rfl) ?_
              refine lv_iload_n hx hb d_W_afterBlanks_52 rfl (lv_at hl 1 rfl) ?_
              have hM := met_W_byteAt (l := l) (dd := dd) (cB := cB) (cI := cI) (cL := cL) (cS := cS) (oW := oW) (aX := aX) (aO := aO) (aB := aB) (aE := aE) (wc := wc)  hv
              refine krv_i (st := [.int x2_h4, .ref oW]) (rest := []) ⟨hx, hb, hml, hown, hts⟩ hM (cwV 1 hts (gv (tg0 at_149) (tg0 at_150) (tg0 at_151) (tg0 at_2) (tg0 at_152)) rfl rfl rfl (by decide +kernel) (rk (by omega) (by decide))) x0b (fun _ _ _ => trivial) hP hK [0, 1] rfl (ci := 1) rfl rfl (q0 := 0) rfl rfl hl.1 rfl (Nat.le_of_ble_eq_true rfl) d_W_afterBlanks_53 ⟨Nat.zero_le _, Nat.zero_le _⟩ (fun r_6 hv => ?_)
              refine lv_bipush (v := 10) hx hb d_W_afterBlanks_56 (by decide) ?_
              refine lv_icmp_eq (tgt := 65) hx hb d_W_afterBlanks_58 (by decide) (fun b_7 => ?_) (fun b_7 => ?_)
              · have hv := hv.1 b_7
                refine lv_iconst (v := 0) hx hb d_W_afterBlanks_65 (by decide) ?_
                refine lv_istore_n (lv' := [(3, .int 0), (2, .int x2_h4), (0, .ref oW), (1, .int x1)]) hx hb d_W_afterBlanks_66 rfl hl (by decide) rfl (fun ls hl => ?_)
                refine lv_iinc (v := (x2_h4 + 1)) (lv' := [(2, .int (x2_h4 + 1)), (3, .int 0), (0, .ref oW), (1, .int x1)]) hx hb d_W_afterBlanks_67 hl (k := 1) rfl rfl (by decide) rfl (fun ls hl => ?_)
                refine lv_goto (tgt := 4) hx hb d_W_afterBlanks_70 (by decide) ?_
                exact ih 0 (x2_h4 + 1) _ hv (lv_sub hl [1, 0, 2, 3] rfl)
              · have hv := hv.2 b_7
                refine lv_iconst (v := 1) hx hb d_W_afterBlanks_61 (by decide) ?_
                refine lv_goto (tgt := 66) hx hb d_W_afterBlanks_62 (by decide) ?_
                refine lv_istore_n (lv' := [(3, .int 1), (2, .int x2_h4), (0, .ref oW), (1, .int x1)]) hx hb d_W_afterBlanks_66 rfl hl (by decide) rfl (fun ls hl => ?_)
                refine lv_iinc (v := (x2_h4 + 1)) (lv' := [(2, .int (x2_h4 + 1)), (3, .int 1), (0, .ref oW), (1, .int x1)]) hx hb d_W_afterBlanks_67 hl (k := 1) rfl rfl (by decide) rfl (fun ls hl => ?_)
                refine lv_goto (tgt := 4) hx hb d_W_afterBlanks_70 (by decide) ?_
                exact ih 1 (x2_h4 + 1) _ hv (lv_sub hl [1, 0, 2, 3] rfl)
        · have hv := hv.2 b_2
          refine lv_aload_n hx hb d_W_afterBlanks_16 rfl (lv_at hl 2 rfl) ?_
          refine lv_iload_n hx hb d_W_afterBlanks_17 rfl (lv_at hl 1 rfl) ?_
          have hM := met_W_byteAt (l := l) (dd := dd) (cB := cB) (cI := cI) (cL := cL) (cS := cS) (oW := oW) (aX := aX) (aO := aO) (aB := aB) (aE := aE) (wc := wc)  hv
          refine krv_i (st := [.int x2_h4, .ref oW]) (rest := []) ⟨hx, hb, hml, hown, hts⟩ hM (cwV 1 hts (gv (tg0 at_149) (tg0 at_150) (tg0 at_151) (tg0 at_2) (tg0 at_152)) rfl rfl rfl (by decide +kernel) (rk (by omega) (by decide))) x0b (fun _ _ _ => trivial) hP hK [0, 1] rfl (ci := 1) rfl rfl (q0 := 0) rfl rfl hl.1 rfl (Nat.le_of_ble_eq_true rfl) d_W_afterBlanks_18 ⟨Nat.zero_le _, Nat.zero_le _⟩ (fun r_10 hv => ?_)
          have hM := met_W_isBlank (l := l) (dd := dd) (cB := cB) (cI := cI) (cL := cL) (cS := cS)   hv
          refine krs_i (st := [.int r_10]) (rest := []) ⟨hx, hb, hml, hown, hts⟩ hM (cwS 1 hts (gs (tg0 at_153) (tg0 at_154) (tg0 at_2) (tg0 at_155)) rfl rfl rfl (by decide +kernel) (rk (by omega) (by decide))) x0b (fun _ _ _ => trivial) hP hK [] rfl rfl hl.1 rfl (Nat.le_of_ble_eq_true rfl) d_W_afterBlanks_21 ⟨Nat.zero_le _, Nat.zero_le _⟩ (fun r_11 hv => ?_)
          refine lv_if_ne (tgt := 37) hx hb d_W_afterBlanks_24 (by decide) (fun b_12 => ?_) (fun b_12 => ?_)
          · have hv := hv.1 b_12
            refine lv_aload_n hx hb d_W_afterBlanks_37 rfl (lv_at hl 2 rfl) ?_
            refine lv_iload_n hx hb d_W_afterBlanks_38 rfl (lv_at hl 1 rfl) ?_
            have hM := met_W_byteAt (l := l) (dd := dd) (cB := cB) (cI := cI) (cL := cL) (cS := cS) (oW := oW) (aX := aX) (aO := aO) (aB := aB) (aE := aE) (wc := wc)  hv
            refine krv_i (st := [.int x2_h4, .ref oW]) (rest := []) ⟨hx, hb, hml, hown, hts⟩ hM (cwV 1 hts (gv (tg0 at_149) (tg0 at_150) (tg0 at_151) (tg0 at_2) (tg0 at_152)) rfl rfl rfl (by decide +kernel) (rk (by omega) (by decide))) x0b (fun _ _ _ => trivial) hP hK [0, 1] rfl (ci := 1) rfl rfl (q0 := 0) rfl rfl hl.1 rfl (Nat.le_of_ble_eq_true rfl) d_W_afterBlanks_39 ⟨Nat.zero_le _, Nat.zero_le _⟩ (fun r_13 hv => ?_)
            refine lv_bipush (v := 35) hx hb d_W_afterBlanks_42 (by decide) ?_
            refine lv_icmp_eq (tgt := 61) hx hb d_W_afterBlanks_44 (by decide) (fun b_14 => ?_) (fun b_14 => ?_)
            · have hv := hv.1 b_14
              refine lv_iconst (v := 1) hx hb d_W_afterBlanks_61 (by decide) ?_
              refine lv_goto (tgt := 66) hx hb d_W_afterBlanks_62 (by decide) ?_
              refine lv_istore_n (lv' := [(3, .int 1), (2, .int x2_h4), (0, .ref oW), (1, .int x1)]) hx hb d_W_afterBlanks_66 rfl hl (by decide) rfl (fun ls hl => ?_)
              refine lv_iinc (v := (x2_h4 + 1)) (lv' := [(2, .int (x2_h4 + 1)), (3, .int 1), (0, .ref oW), (1, .int x1)]) hx hb d_W_afterBlanks_67 hl (k := 1) rfl rfl (by decide) rfl (fun ls hl => ?_)
              refine lv_goto (tgt := 4) hx hb d_W_afterBlanks_70 (by decide) ?_
              exact ih 1 (x2_h4 + 1) _ hv (lv_sub hl [1, 0, 2, 3] rfl)
            · have hv := hv.2 b_14
              refine lv_iload_n hx hb d_W_afterBlanks_47 rfl (lv_at hl 0 rfl) ?_
              refine lv_if_eq (tgt := 65) hx hb d_W_afterBlanks_48 (by decide) (fun b_15 => ?_) (fun b_15 => ?_)
              · have hv := hv.1 b_15
                refine lv_iconst (v := 0) hx hb d_W_afterBlanks_65 (by decide) ?_
                refine lv_istore_n (lv' := [(3, .int 0), (2, .int x2_h4), (0, .ref oW), (1, .int x1)]) hx hb d_W_afterBlanks_66 rfl hl (by decide) rfl (fun ls hl => ?_)
                refine lv_iinc (v := (x2_h4 + 1)) (lv' := [(2, .int (x2_h4 + 1)), (3, .int 0), (0, .ref oW), (1, .int x1)]) hx hb d_W_afterBlanks_67 hl (k := 1) rfl rfl (by decide) rfl (fun ls hl => ?_)
                refine lv_goto (tgt := 4) hx hb d_W_afterBlanks_70 (by decide) ?_
                exact ih 0 (x2_h4 + 1) _ hv (lv_sub hl [1, 0, 2, 3] rfl)
              · have hv := hv.2 b_15
                refine lv_aload_n hx hb d_W_afterBlanks_51 rfl (lv_at hl 2 rfl) ?_
                refine lv_iload_n hx hb d_W_afterBlanks_52 rfl (lv_at hl 1 rfl) ?_
                have hM := met_W_byteAt (l := l) (dd := dd) (cB := cB) (cI := cI) (cL := cL) (cS := cS) (oW := oW) (aX := aX) (aO := aO) (aB := aB) (aE := aE) (wc := wc)  hv
                refine krv_i (st := [.int x2_h4, .ref oW]) (rest := []) ⟨hx, hb, hml, hown, hts⟩ hM (cwV 1 hts (gv (tg0 at_149) (tg0 at_150) (tg0 at_151) (tg0 at_2) (tg0 at_152)) rfl rfl rfl (by decide +kernel) (rk (by omega) (by decide))) x0b (fun _ _ _ => trivial) hP hK [0, 1] rfl (ci := 1) rfl rfl (q0 := 0) rfl rfl hl.1 rfl (Nat.le_of_ble_eq_true rfl) d_W_afterBlanks_53 ⟨Nat.zero_le _, Nat.zero_le _⟩ (fun r_16 hv => ?_)
                refine lv_bipush (v := 10) hx hb d_W_afterBlanks_56 (by decide) ?_
                refine lv_icmp_eq (tgt := 65) hx hb d_W_afterBlanks_58 (by decide) (fun b_17 => ?_) (fun b_17 => ?_)
                · have hv := hv.1 b_17
                  refine lv_iconst (v := 0) hx hb d_W_afterBlanks_65 (by decide) ?_
                  refine lv_istore_n (lv' := [(3, .int 0), (2, .int x2_h4), (0, .ref oW), (1, .int x1)]) hx hb d_W_afterBlanks_66 rfl hl (by decide) rfl (fun ls hl => ?_)
                  refine lv_iinc (v := (x2_h4 + 1)) (lv' := [(2, .int (x2_h4 + 1)), (3, .int 0), (0, .ref oW), (1, .int x1)]) hx hb d_W_afterBlanks_67 hl (k := 1) rfl rfl (by decide) rfl (fun ls hl => ?_)
                  refine lv_goto (tgt := 4) hx hb d_W_afterBlanks_70 (by decide) ?_
                  exact ih 0 (x2_h4 + 1) _ hv (lv_sub hl [1, 0, 2, 3] rfl)
                · have hv := hv.2 b_17
                  refine lv_iconst (v := 1) hx hb d_W_afterBlanks_61 (by decide) ?_
                  refine lv_goto (tgt := 66) hx hb d_W_afterBlanks_62 (by decide) ?_
                  refine lv_istore_n (lv' := [(3, .int 1), (2, .int x2_h4), (0, .ref oW), (1, .int x1)]) hx hb d_W_afterBlanks_66 rfl hl (by decide) rfl (fun ls hl => ?_)
                  refine lv_iinc (v := (x2_h4 + 1)) (lv' := [(2, .int (x2_h4 + 1)), (3, .int 1), (0, .ref oW), (1, .int x1)]) hx hb d_W_afterBlanks_67 hl (k := 1) rfl rfl (by decide) rfl (fun ls hl => ?_)
                  refine lv_goto (tgt := 4) hx hb d_W_afterBlanks_70 (by decide) ?_
                  exact ih 1 (x2_h4 + 1) _ hv (lv_sub hl [1, 0, 2, 3] rfl)
          · have hv := hv.2 b_12
            refine lv_aload_n hx hb d_W_afterBlanks_27 rfl (lv_at hl 2 rfl) ?_
            refine lv_iload_n hx hb d_W_afterBlanks_28 rfl (lv_at hl 1 rfl) ?_
            have hM := met_W_byteAt (l := l) (dd := dd) (cB := cB) (cI := cI) (cL := cL) (cS := cS) (oW := oW) (aX := aX) (aO := aO) (aB := aB) (aE := aE) (wc := wc)  hv
            refine krv_i (st := [.int x2_h4, .ref oW]) (rest := []) ⟨hx, hb, hml, hown, hts⟩ hM (cwV 1 hts (gv (tg0 at_149) (tg0 at_150) (tg0 at_151) (tg0 at_2) (tg0 at_152)) rfl rfl rfl (by decide +kernel) (rk (by omega) (by decide))) x0b (fun _ _ _ => trivial) hP hK [0, 1] rfl (ci := 1) rfl rfl (q0 := 0) rfl rfl hl.1 rfl (Nat.le_of_ble_eq_true rfl) d_W_afterBlanks_29 ⟨Nat.zero_le _, Nat.zero_le _⟩ (fun r_20 hv => ?_)
            refine lv_bipush (v := 35) hx hb d_W_afterBlanks_32 (by decide) ?_
            refine lv_icmp_ne (tgt := 73) hx hb d_W_afterBlanks_34 (by decide) (fun b_21 => ?_) (fun b_21 => ?_)
            · have hv := hv.1 b_21
              refine lv_iload_n hx hb d_W_afterBlanks_73 rfl (lv_at hl 1 rfl) ?_
              exact rr_i hx hb hr hlocks x2_h4 hv d_W_afterBlanks_74
            · have hv := hv.2 b_21
              refine lv_aload_n hx hb d_W_afterBlanks_37 rfl (lv_at hl 2 rfl) ?_
              refine lv_iload_n hx hb d_W_afterBlanks_38 rfl (lv_at hl 1 rfl) ?_
              have hM := met_W_byteAt (l := l) (dd := dd) (cB := cB) (cI := cI) (cL := cL) (cS := cS) (oW := oW) (aX := aX) (aO := aO) (aB := aB) (aE := aE) (wc := wc)  hv
              refine krv_i (st := [.int x2_h4, .ref oW]) (rest := []) ⟨hx, hb, hml, hown, hts⟩ hM (cwV 1 hts (gv (tg0 at_149) (tg0 at_150) (tg0 at_151) (tg0 at_2) (tg0 at_152)) rfl rfl rfl (by decide +kernel) (rk (by omega) (by decide))) x0b (fun _ _ _ => trivial) hP hK [0, 1] rfl (ci := 1) rfl rfl (q0 := 0) rfl rfl hl.1 rfl (Nat.le_of_ble_eq_true rfl) d_W_afterBlanks_39 ⟨Nat.zero_le _, Nat.zero_le _⟩ (fun r_22 hv => ?_)
              refine lv_bipush (v := 35) hx hb d_W_afterBlanks_42 (by decide) ?_
              refine lv_icmp_eq (tgt := 61) hx hb d_W_afterBlanks_44 (by decide) (fun b_23 => ?_) (fun b_23 => ?_)
              · have hv := hv.1 b_23
                refine lv_iconst (v := 1) hx hb d_W_afterBlanks_61 (by decide) ?_
                refine lv_goto (tgt := 66) hx hb d_W_afterBlanks_62 (by decide) ?_
                refine lv_istore_n (lv' := [(3, .int 1), (2, .int x2_h4), (0, .ref oW), (1, .int x1)]) hx hb d_W_afterBlanks_66 rfl hl (by decide) rfl (fun ls hl => ?_)
                refine lv_iinc (v := (x2_h4 + 1)) (lv' := [(2, .int (x2_h4 + 1)), (3, .int 1), (0, .ref oW), (1, .int x1)]) hx hb d_W_afterBlanks_67 hl (k := 1) rfl rfl (by decide) rfl (fun ls hl => ?_)
                refine lv_goto (tgt := 4) hx hb d_W_afterBlanks_70 (by decide) ?_
                exact ih 1 (x2_h4 + 1) _ hv (lv_sub hl [1, 0, 2, 3] rfl)
              · have hv := hv.2 b_23
                refine lv_iload_n hx hb d_W_afterBlanks_47 rfl (lv_at hl 0 rfl) ?_
                refine lv_if_eq (tgt := 65) hx hb d_W_afterBlanks_48 (by decide) (fun b_24 => ?_) (fun b_24 => ?_)
                · have hv := hv.1 b_24
                  refine lv_iconst (v := 0) hx hb d_W_afterBlanks_65 (by decide) ?_
                  refine lv_istore_n (lv' := [(3, .int 0), (2, .int x2_h4), (0, .ref oW), (1, .int x1)]) hx hb d_W_afterBlanks_66 rfl hl (by decide) rfl (fun ls hl => ?_)
                  refine lv_iinc (v := (x2_h4 + 1)) (lv' := [(2, .int (x2_h4 + 1)), (3, .int 0), (0, .ref oW), (1, .int x1)]) hx hb d_W_afterBlanks_67 hl (k := 1) rfl rfl (by decide) rfl (fun ls hl => ?_)
                  refine lv_goto (tgt := 4) hx hb d_W_afterBlanks_70 (by decide) ?_
                  exact ih 0 (x2_h4 + 1) _ hv (lv_sub hl [1, 0, 2, 3] rfl)
                · have hv := hv.2 b_24
                  refine lv_aload_n hx hb d_W_afterBlanks_51 rfl (lv_at hl 2 rfl) ?_
                  refine lv_iload_n hx hb d_W_afterBlanks_52 rfl (lv_at hl 1 rfl) ?_
                  have hM := met_W_byteAt (l := l) (dd := dd) (cB := cB) (cI := cI) (cL := cL) (cS := cS) (oW := oW) (aX := aX) (aO := aO) (aB := aB) (aE := aE) (wc := wc)  hv
                  refine krv_i (st := [.int x2_h4, .ref oW]) (rest := []) ⟨hx, hb, hml, hown, hts⟩ hM (cwV 1 hts (gv (tg0 at_149) (tg0 at_150) (tg0 at_151) (tg0 at_2) (tg0 at_152)) rfl rfl rfl (by decide +kernel) (rk (by omega) (by decide))) x0b (fun _ _ _ => trivial) hP hK [0, 1] rfl (ci := 1) rfl rfl (q0 := 0) rfl rfl hl.1 rfl (Nat.le_of_ble_eq_true rfl) d_W_afterBlanks_53 ⟨Nat.zero_le _, Nat.zero_le _⟩ (fun r_25 hv => ?_)
                  refine lv_bipush (v := 10) hx hb d_W_afterBlanks_56 (by decide) ?_
                  refine lv_icmp_eq (tgt := 65) hx hb d_W_afterBlanks_58 (by decide) (fun b_26 => ?_) (fun b_26 => ?_)
                  · have hv := hv.1 b_26
                    refine lv_iconst (v := 0) hx hb d_W_afterBlanks_65 (by decide) ?_
                    refine lv_istore_n (lv' := [(3, .int 0), (2, .int x2_h4), (0, .ref oW), (1, .int x1)]) hx hb d_W_afterBlanks_66 rfl hl (by decide) rfl (fun ls hl => ?_)
                    refine lv_iinc (v := (x2_h4 + 1)) (lv' := [(2, .int (x2_h4 + 1)), (3, .int 0), (0, .ref oW), (1, .int x1)]) hx hb d_W_afterBlanks_67 hl (k := 1) rfl rfl (by decide) rfl (fun ls hl => ?_)
                    refine lv_goto (tgt := 4) hx hb d_W_afterBlanks_70 (by decide) ?_
                    exact ih 0 (x2_h4 + 1) _ hv (lv_sub hl [1, 0, 2, 3] rfl)
                  · have hv := hv.2 b_26
                    refine lv_iconst (v := 1) hx hb d_W_afterBlanks_61 (by decide) ?_
                    refine lv_goto (tgt := 66) hx hb d_W_afterBlanks_62 (by decide) ?_
                    refine lv_istore_n (lv' := [(3, .int 1), (2, .int x2_h4), (0, .ref oW), (1, .int x1)]) hx hb d_W_afterBlanks_66 rfl hl (by decide) rfl (fun ls hl => ?_)
                    refine lv_iinc (v := (x2_h4 + 1)) (lv' := [(2, .int (x2_h4 + 1)), (3, .int 1), (0, .ref oW), (1, .int x1)]) hx hb d_W_afterBlanks_67 hl (k := 1) rfl rfl (by decide) rfl (fun ls hl => ?_)
                    refine lv_goto (tgt := 4) hx hb d_W_afterBlanks_70 (by decide) ?_
                    exact ih 1 (x2_h4 + 1) _ hv (lv_sub hl [1, 0, 2, 3] rfl)
  exact LP_4 n_4 0 x1 _ hv hl
def vl_W_afterName_2  (nX : Nat) (tx : FN) (ln : Int32) (x1 : Int32)  (K_ : Int32 → Prop) : Nat → Int32 → Prop
  | 0 => fun _ => False
  | n_ + 1 => fun x2_h2 =>
  ((ln ≤ x2_h2 → (K_ x2_h2)) ∧ (¬ ln ≤ x2_h2 → (vc_W_byteAt nX tx ln x2_h2 (fun r_2 => (vc_W_isLetter r_2 (fun r_3 => ((¬ r_3 = 0 → (vl_W_afterName_2 nX tx ln x1  K_ n_ (x2_h2 + 1))) ∧ (r_3 = 0 → (vc_W_byteAt nX tx ln x2_h2 (fun r_5 => (vc_W_isDigit r_5 (fun r_6 => ((r_6 = 0 → (K_ x2_h2)) ∧ (¬ r_6 = 0 → (vl_W_afterName_2 nX tx ln x1  K_ n_ (x2_h2 + 1))))))))))))))))
def vc_W_afterName  (nX : Nat) (tx : FN) (ln : Int32) (x1 : Int32) (K_ : Int32 → Prop) : Prop :=
  (∃ n_, vl_W_afterName_2 nX tx ln x1 K_ n_ x1)
set_option maxHeartbeats 4000000 in
set_option maxRecDepth 100000 in
theorem met_W_afterName {l : Launch} {dd : va_G} {cB cI cL cS : ClassId}  {oW : Nat} {aX : Nat} {aO : Nat} {aB : Nat} {aE : Nat}  {nX : Nat} {tx : FN} {ln : Int32} {wc : Int32} {x1 : Int32} {K_ : Int32 → Prop}  (hv : vc_W_afterName  nX tx ln x1 K_) : CtR l y_W_afterName w_W_afterName (rmk 1 0 0) dd cls5 [(cB, .byte), (cI, .int), (cL, .long), (cS, .object "java/lang/String")] X0 [(oW, .inr (1, [.ref aX, .int ln, .ref aO, .ref aB, .ref aE, .int wc])), (aX, .inl (cB, nX, .inl tx))] [.ref oW, .int x1] (qR K_) := by
  refine m_ofR (cc := b_W_afterName) (nL := 3) (ret := (some .int)) (by decide) rfl (Nat.le_of_ble_eq_true rfl) ?_
  intro p e s m below meth c ls ar Fx_ hP hK hX hl
  obtain ⟨hx, hb, hml, hr, hlocks, hown, hts, hinn⟩ := Fx_
  have hl : lv_has ls 3 [(0, .ref oW), (1, .int x1)] := hl
  unfold vc_W_afterName at hv
  refine lv_iload_n hx hb d_W_afterName_0 rfl (lv_at hl 1 rfl) ?_
  refine lv_istore_n (lv' := [(2, .int x1), (0, .ref oW), (1, .int x1)]) hx hb d_W_afterName_1 rfl hl (by decide) rfl (fun ls hl => ?_)
  obtain ⟨n_2, hv⟩ := hv
  have LP_2 : ∀ (n_ : Nat) (x2_h2 : Int32) (ls : Array Slot), vl_W_afterName_2 nX tx ln x1 K_ n_ x2_h2 → lv_has ls 3 [(2, .int x2_h2), (0, .ref oW), (1, .int x1)] → W p l e (rmk 1 0 0) s m ar below meth c s.heap [] 0 0 (MQ below (qR K_) ar s 0 0 (fun _ => False)) (F0 m 2 ls []) := by
    intro n_
    induction n_ with
    | zero => intro x2_h2 ls hv; exact False.elim hv
    | succ n_ ih =>
      intro x2_h2 ls hv hl
      unfold vl_W_afterName_2 at hv
      refine lv_iload_n hx hb d_W_afterName_2 rfl (lv_at hl 0 rfl) ?_
      refine lv_aload_n hx hb d_W_afterName_3 rfl (lv_at hl 1 rfl) ?_
      refine va_get (D := dd) (ci := 1) (C := Rc_W) (T := Fc_W) (N := 6) (v := .int ln) hx hb hts (inn in_W) hown hK hP 0 rfl rfl 1 (by decide) (hts (.fieldLink "NetText$Words" 15 "NetText$Words" "length" "I") (tg at_35)) (fun _ h9 => h9) rfl d_W_afterName_4 ?_
      refine lv_icmp_ge (tgt := 38) hx hb d_W_afterName_7 (by decide) (fun b_1 => ?_) (fun b_1 => ?_)
      · have hv := hv.1 b_1
        refine lv_iload_n hx hb d_W_afterName_38 rfl (lv_at hl 0 rfl) ?_
        exact rr_i hx hb hr hlocks x2_h2 hv d_W_afterName_39
      · have hv := hv.2 b_1
        refine lv_aload_n hx hb d_W_afterName_10 rfl (lv_at hl 1 rfl) ?_
        refine lv_iload_n hx hb d_W_afterName_11 rfl (lv_at hl 0 rfl) ?_
        have hM := met_W_byteAt (l := l) (dd := dd) (cB := cB) (cI := cI) (cL := cL) (cS := cS) (oW := oW) (aX := aX) (aO := aO) (aB := aB) (aE := aE) (wc := wc)  hv
        refine krv_i (st := [.int x2_h2, .ref oW]) (rest := []) ⟨hx, hb, hml, hown, hts⟩ hM (cwV 1 hts (gv (tg0 at_149) (tg0 at_150) (tg0 at_151) (tg0 at_2) (tg0 at_152)) rfl rfl rfl (by decide +kernel) (rk (by omega) (by decide))) x0b (fun _ _ _ => trivial) hP hK [0, 1] rfl (ci := 1) rfl rfl (q0 := 0) rfl rfl hl.1 rfl (Nat.le_of_ble_eq_true rfl) d_W_afterName_12 ⟨Nat.zero_le _, Nat.zero_le _⟩ (fun r_2 hv => ?_)
        have hM := met_W_isLetter (l := l) (dd := dd) (cB := cB) (cI := cI) (cL := cL) (cS := cS)   hv
        refine krs_i (st := [.int r_2]) (rest := []) ⟨hx, hb, hml, hown, hts⟩ hM (cwS 1 hts (gs (tg0 at_160) (tg0 at_161) (tg0 at_2) (tg0 at_162)) rfl rfl rfl (by decide +kernel) (rk (by omega) (by decide))) x0b (fun _ _ _ => trivial) hP hK [] rfl rfl hl.1 rfl (Nat.le_of_ble_eq_true rfl) d_W_afterName_15 ⟨Nat.zero_le _, Nat.zero_le _⟩ (fun r_3 hv => ?_)
        refine lv_if_ne (tgt := 32) hx hb d_W_afterName_18 (by decide) (fun b_4 => ?_) (fun b_4 => ?_)
        · have hv := hv.1 b_4
          refine lv_iinc (v := (x2_h2 + 1)) (lv' := [(2, .int (x2_h2 + 1)), (0, .ref oW), (1, .int x1)]) hx hb d_W_afterName_32 hl (k := 0) rfl rfl (by decide) rfl (fun ls hl => ?_)
          refine lv_goto (tgt := 2) hx hb d_W_afterName_35 (by decide) ?_
          exact ih (x2_h2 + 1) _ hv (lv_sub hl [0, 1, 2] rfl)
        · have hv := hv.2 b_4
          refine lv_aload_n hx hb d_W_afterName_21 rfl (lv_at hl 1 rfl) ?_
          refine lv_iload_n hx hb d_W_afterName_22 rfl (lv_at hl 0 rfl) ?_
          have hM := met_W_byteAt (l := l) (dd := dd) (cB := cB) (cI := cI) (cL := cL) (cS := cS) (oW := oW) (aX := aX) (aO := aO) (aB := aB) (aE := aE) (wc := wc)  hv
          refine krv_i (st := [.int x2_h2, .ref oW]) (rest := []) ⟨hx, hb, hml, hown, hts⟩ hM (cwV 1 hts (gv (tg0 at_149) (tg0 at_150) (tg0 at_151) (tg0 at_2) (tg0 at_152)) rfl rfl rfl (by decide +kernel) (rk (by omega) (by decide))) x0b (fun _ _ _ => trivial) hP hK [0, 1] rfl (ci := 1) rfl rfl (q0 := 0) rfl rfl hl.1 rfl (Nat.le_of_ble_eq_true rfl) d_W_afterName_23 ⟨Nat.zero_le _, Nat.zero_le _⟩ (fun r_5 hv => ?_)
          have hM := met_W_isDigit (l := l) (dd := dd) (cB := cB) (cI := cI) (cL := cL) (cS := cS)   hv
          refine krs_i (st := [.int r_5]) (rest := []) ⟨hx, hb, hml, hown, hts⟩ hM (cwS 1 hts (gs (tg0 at_167) (tg0 at_168) (tg0 at_2) (tg0 at_169)) rfl rfl rfl (by decide +kernel) (rk (by omega) (by decide))) x0b (fun _ _ _ => trivial) hP hK [] rfl rfl hl.1 rfl (Nat.le_of_ble_eq_true rfl) d_W_afterName_26 ⟨Nat.zero_le _, Nat.zero_le _⟩ (fun r_6 hv => ?_)
          refine lv_if_eq (tgt := 38) hx hb d_W_afterName_29 (by decide) (fun b_7 => ?_) (fun b_7 => ?_)
          · have hv := hv.1 b_7
            refine lv_iload_n hx hb d_W_afterName_38 rfl (lv_at hl 0 rfl) ?_
            exact rr_i hx hb hr hlocks x2_h2 hv d_W_afterName_39
          · have hv := hv.2 b_7
            refine lv_iinc (v := (x2_h2 + 1)) (lv' := [(2, .int (x2_h2 + 1)), (0, .ref oW), (1, .int x1)]) hx hb d_W_afterName_32 hl (k := 0) rfl rfl (by decide) rfl (fun ls hl => ?_)
            refine lv_goto (tgt := 2) hx hb d_W_afterName_35 (by decide) ?_
            exact ih (x2_h2 + 1) _ hv (lv_sub hl [0, 1, 2] rfl)
  exact LP_2 n_2 x1 _ hv hl
def vl_W_afterDigits_2  (nX : Nat) (tx : FN) (ln : Int32) (x1 : Int32)  (K_ : Int32 → Prop) : Nat → Int32 → Prop
  | 0 => fun _ => False
  | n_ + 1 => fun x2_h2 =>
  ((ln ≤ x2_h2 → (K_ x2_h2)) ∧ (¬ ln ≤ x2_h2 → (vc_W_byteAt nX tx ln x2_h2 (fun r_2 => (vc_W_isDigit r_2 (fun r_3 => ((r_3 = 0 → (K_ x2_h2)) ∧ (¬ r_3 = 0 → (vl_W_afterDigits_2 nX tx ln x1  K_ n_ (x2_h2 + 1))))))))))
def vc_W_afterDigits  (nX : Nat) (tx : FN) (ln : Int32) (x1 : Int32) (K_ : Int32 → Prop) : Prop :=
  (∃ n_, vl_W_afterDigits_2 nX tx ln x1 K_ n_ x1)
set_option maxHeartbeats 4000000 in
set_option maxRecDepth 100000 in
theorem met_W_afterDigits {l : Launch} {dd : va_G} {cB cI cL cS : ClassId}  {oW : Nat} {aX : Nat} {aO : Nat} {aB : Nat} {aE : Nat}  {nX : Nat} {tx : FN} {ln : Int32} {wc : Int32} {x1 : Int32} {K_ : Int32 → Prop}  (hv : vc_W_afterDigits  nX tx ln x1 K_) : CtR l y_W_afterDigits w_W_afterDigits (rmk 1 0 0) dd cls5 [(cB, .byte), (cI, .int), (cL, .long), (cS, .object "java/lang/String")] X0 [(oW, .inr (1, [.ref aX, .int ln, .ref aO, .ref aB, .ref aE, .int wc])), (aX, .inl (cB, nX, .inl tx))] [.ref oW, .int x1] (qR K_) := by
  refine m_ofR (cc := b_W_afterDigits) (nL := 3) (ret := (some .int)) (by decide) rfl (Nat.le_of_ble_eq_true rfl) ?_
  intro p e s m below meth c ls ar Fx_ hP hK hX hl
  obtain ⟨hx, hb, hml, hr, hlocks, hown, hts, hinn⟩ := Fx_
  have hl : lv_has ls 3 [(0, .ref oW), (1, .int x1)] := hl
  unfold vc_W_afterDigits at hv
  refine lv_iload_n hx hb d_W_afterDigits_0 rfl (lv_at hl 1 rfl) ?_
  refine lv_istore_n (lv' := [(2, .int x1), (0, .ref oW), (1, .int x1)]) hx hb d_W_afterDigits_1 rfl hl (by decide) rfl (fun ls hl => ?_)
  obtain ⟨n_2, hv⟩ := hv
  have LP_2 : ∀ (n_ : Nat) (x2_h2 : Int32) (ls : Array Slot), vl_W_afterDigits_2 nX tx ln x1 K_ n_ x2_h2 → lv_has ls 3 [(2, .int x2_h2), (0, .ref oW), (1, .int x1)] → W p l e (rmk 1 0 0) s m ar below meth c s.heap [] 0 0 (MQ below (qR K_) ar s 0 0 (fun _ => False)) (F0 m 2 ls []) := by
    intro n_
    induction n_ with
    | zero => intro x2_h2 ls hv; exact False.elim hv
    | succ n_ ih =>
      intro x2_h2 ls hv hl
      unfold vl_W_afterDigits_2 at hv
      refine lv_iload_n hx hb d_W_afterDigits_2 rfl (lv_at hl 0 rfl) ?_
      refine lv_aload_n hx hb d_W_afterDigits_3 rfl (lv_at hl 1 rfl) ?_
      refine va_get (D := dd) (ci := 1) (C := Rc_W) (T := Fc_W) (N := 6) (v := .int ln) hx hb hts (inn in_W) hown hK hP 0 rfl rfl 1 (by decide) (hts (.fieldLink "NetText$Words" 15 "NetText$Words" "length" "I") (tg at_35)) (fun _ h9 => h9) rfl d_W_afterDigits_4 ?_
      refine lv_icmp_ge (tgt := 27) hx hb d_W_afterDigits_7 (by decide) (fun b_1 => ?_) (fun b_1 => ?_)
      · have hv := hv.1 b_1
        refine lv_iload_n hx hb d_W_afterDigits_27 rfl (lv_at hl 0 rfl) ?_
        exact rr_i hx hb hr hlocks x2_h2 hv d_W_afterDigits_28
      · have hv := hv.2 b_1
        refine lv_aload_n hx hb d_W_afterDigits_10 rfl (lv_at hl 1 rfl) ?_
        refine lv_iload_n hx hb d_W_afterDigits_11 rfl (lv_at hl 0 rfl) ?_
        have hM := met_W_byteAt (l := l) (dd := dd) (cB := cB) (cI := cI) (cL := cL) (cS := cS) (oW := oW) (aX := aX) (aO := aO) (aB := aB) (aE := aE) (wc := wc)  hv
        refine krv_i (st := [.int x2_h2, .ref oW]) (rest := []) ⟨hx, hb, hml, hown, hts⟩ hM (cwV 1 hts (gv (tg0 at_149) (tg0 at_150) (tg0 at_151) (tg0 at_2) (tg0 at_152)) rfl rfl rfl (by decide +kernel) (rk (by omega) (by decide))) x0b (fun _ _ _ => trivial) hP hK [0, 1] rfl (ci := 1) rfl rfl (q0 := 0) rfl rfl hl.1 rfl (Nat.le_of_ble_eq_true rfl) d_W_afterDigits_12 ⟨Nat.zero_le _, Nat.zero_le _⟩ (fun r_2 hv => ?_)
        have hM := met_W_isDigit (l := l) (dd := dd) (cB := cB) (cI := cI) (cL := cL) (cS := cS)   hv
        refine krs_i (st := [.int r_2]) (rest := []) ⟨hx, hb, hml, hown, hts⟩ hM (cwS 1 hts (gs (tg0 at_167) (tg0 at_168) (tg0 at_2) (tg0 at_169)) rfl rfl rfl (by decide +kernel) (rk (by omega) (by decide))) x0b (fun _ _ _ => trivial) hP hK [] rfl rfl hl.1 rfl (Nat.le_of_ble_eq_true rfl) d_W_afterDigits_15 ⟨Nat.zero_le _, Nat.zero_le _⟩ (fun r_3 hv => ?_)
        refine lv_if_eq (tgt := 27) hx hb d_W_afterDigits_18 (by decide) (fun b_4 => ?_) (fun b_4 => ?_)
        · have hv := hv.1 b_4
          refine lv_iload_n hx hb d_W_afterDigits_27 rfl (lv_at hl 0 rfl) ?_
          exact rr_i hx hb hr hlocks x2_h2 hv d_W_afterDigits_28
        · have hv := hv.2 b_4
          refine lv_iinc (v := (x2_h2 + 1)) (lv' := [(2, .int (x2_h2 + 1)), (0, .ref oW), (1, .int x1)]) hx hb d_W_afterDigits_21 hl (k := 0) rfl rfl (by decide) rfl (fun ls hl => ?_)
          refine lv_goto (tgt := 2) hx hb d_W_afterDigits_24 (by decide) ?_
          exact ih (x2_h2 + 1) _ hv (lv_sub hl [0, 1, 2] rfl)
  exact LP_2 n_2 x1 _ hv hl
def vc_W_afterNumber  (nX : Nat) (tx : FN) (ln : Int32) (x1 : Int32) (K_ : Int32 → Prop) : Prop :=
  (vc_W_afterDigits nX tx ln x1 (fun r_1 => (vc_W_byteAt nX tx ln r_1 (fun r_2 => ((¬ r_2 = 46 → (K_ r_1)) ∧ (r_2 = 46 → (vc_W_byteAt nX tx ln (r_1 + 1) (fun r_4 => (vc_W_isDigit r_4 (fun r_5 => ((r_5 = 0 → (K_ r_1)) ∧ (¬ r_5 = 0 → (vc_W_afterDigits nX tx ln (r_1 + 1) (fun r_7 => (K_ r_7)))))))))))))))
set_option maxHeartbeats 4000000 in
set_option maxRecDepth 100000 in
theorem met_W_afterNumber {l : Launch} {dd : va_G} {cB cI cL cS : ClassId}  {oW : Nat} {aX : Nat} {aO : Nat} {aB : Nat} {aE : Nat}  {nX : Nat} {tx : FN} {ln : Int32} {wc : Int32} {x1 : Int32} {K_ : Int32 → Prop}  (hv : vc_W_afterNumber  nX tx ln x1 K_) : CtR l y_W_afterNumber w_W_afterNumber (rmk 2 0 0) dd cls5 [(cB, .byte), (cI, .int), (cL, .long), (cS, .object "java/lang/String")] X0 [(oW, .inr (1, [.ref aX, .int ln, .ref aO, .ref aB, .ref aE, .int wc])), (aX, .inl (cB, nX, .inl tx))] [.ref oW, .int x1] (qR K_) := by
  refine m_ofR (cc := b_W_afterNumber) (nL := 3) (ret := (some .int)) (by decide) rfl (Nat.le_of_ble_eq_true rfl) ?_
  intro p e s m below meth c ls ar Fx_ hP hK hX hl
  obtain ⟨hx, hb, hml, hr, hlocks, hown, hts, hinn⟩ := Fx_
  have hl : lv_has ls 3 [(0, .ref oW), (1, .int x1)] := hl
  unfold vc_W_afterNumber at hv
  refine lv_aload_n hx hb d_W_afterNumber_0 rfl (lv_at hl 0 rfl) ?_
  refine lv_iload_n hx hb d_W_afterNumber_1 rfl (lv_at hl 1 rfl) ?_
  have hM := met_W_afterDigits (l := l) (dd := dd) (cB := cB) (cI := cI) (cL := cL) (cS := cS) (oW := oW) (aX := aX) (aO := aO) (aB := aB) (aE := aE) (wc := wc)  hv
  refine krv_i (st := [.int x1, .ref oW]) (rest := []) ⟨hx, hb, hml, hown, hts⟩ hM (cwV 1 hts (gv (tg0 at_174) (tg0 at_176) (tg0 ap_5) (tg0 at_2) (tg0 at_177)) rfl rfl rfl (by decide +kernel) (rk (by omega) (by decide))) x0b (fun _ _ _ => trivial) hP hK [0, 1] rfl (ci := 1) rfl rfl (q0 := 0) rfl rfl hl.1 rfl (Nat.le_of_ble_eq_true rfl) d_W_afterNumber_2 ⟨Nat.zero_le _, Nat.zero_le _⟩ (fun r_1 hv => ?_)
  refine lv_istore_n (lv' := [(2, .int r_1), (0, .ref oW), (1, .int x1)]) hx hb d_W_afterNumber_5 rfl hl (by decide) rfl (fun ls hl => ?_)
  refine lv_aload_n hx hb d_W_afterNumber_6 rfl (lv_at hl 1 rfl) ?_
  refine lv_iload_n hx hb d_W_afterNumber_7 rfl (lv_at hl 0 rfl) ?_
  have hM := met_W_byteAt (l := l) (dd := dd) (cB := cB) (cI := cI) (cL := cL) (cS := cS) (oW := oW) (aX := aX) (aO := aO) (aB := aB) (aE := aE) (wc := wc)  hv
  refine krv_i (st := [.int r_1, .ref oW]) (rest := []) ⟨hx, hb, hml, hown, hts⟩ hM (cwV 1 hts (gv (tg0 at_149) (tg0 at_150) (tg0 at_151) (tg0 at_2) (tg0 at_152)) rfl rfl rfl (by decide +kernel) (rk (by omega) (by decide))) x0b (fun _ _ _ => trivial) hP hK [0, 1] rfl (ci := 1) rfl rfl (q0 := 0) rfl rfl hl.1 rfl (Nat.le_of_ble_eq_true rfl) d_W_afterNumber_8 ⟨Nat.zero_le _, Nat.zero_le _⟩ (fun r_2 hv => ?_)
  refine lv_bipush (v := 46) hx hb d_W_afterNumber_11 (by decide) ?_
  refine lv_icmp_ne (tgt := 37) hx hb d_W_afterNumber_13 (by decide) (fun b_3 => ?_) (fun b_3 => ?_)
  · have hv := hv.1 b_3
    refine lv_iload_n hx hb d_W_afterNumber_37 rfl (lv_at hl 0 rfl) ?_
    exact rr_i hx hb hr hlocks r_1 hv d_W_afterNumber_38
  · have hv := hv.2 b_3
    refine lv_aload_n hx hb d_W_afterNumber_16 rfl (lv_at hl 1 rfl) ?_
    refine lv_iload_n hx hb d_W_afterNumber_17 rfl (lv_at hl 0 rfl) ?_
    refine lv_iconst (v := 1) hx hb d_W_afterNumber_18 (by decide) ?_
    refine lv_iadd hx hb d_W_afterNumber_19 ?_
    have hM := met_W_byteAt (l := l) (dd := dd) (cB := cB) (cI := cI) (cL := cL) (cS := cS) (oW := oW) (aX := aX) (aO := aO) (aB := aB) (aE := aE) (wc := wc)  hv
    refine krv_i (st := [.int (r_1 + 1), .ref oW]) (rest := []) ⟨hx, hb, hml, hown, hts⟩ hM (cwV 1 hts (gv (tg0 at_149) (tg0 at_150) (tg0 at_151) (tg0 at_2) (tg0 at_152)) rfl rfl rfl (by decide +kernel) (rk (by omega) (by decide))) x0b (fun _ _ _ => trivial) hP hK [0, 1] rfl (ci := 1) rfl rfl (q0 := 0) rfl rfl hl.1 rfl (Nat.le_of_ble_eq_true rfl) d_W_afterNumber_20 ⟨Nat.zero_le _, Nat.zero_le _⟩ (fun r_4 hv => ?_)
    have hM := met_W_isDigit (l := l) (dd := dd) (cB := cB) (cI := cI) (cL := cL) (cS := cS)   hv
    refine krs_i (st := [.int r_4]) (rest := []) ⟨hx, hb, hml, hown, hts⟩ hM (cwS 1 hts (gs (tg0 at_167) (tg0 at_168) (tg0 at_2) (tg0 at_169)) rfl rfl rfl (by decide +kernel) (rk (by omega) (by decide))) x0b (fun _ _ _ => trivial) hP hK [] rfl rfl hl.1 rfl (Nat.le_of_ble_eq_true rfl) d_W_afterNumber_23 ⟨Nat.zero_le _, Nat.zero_le _⟩ (fun r_5 hv => ?_)
    refine lv_if_eq (tgt := 37) hx hb d_W_afterNumber_26 (by decide) (fun b_6 => ?_) (fun b_6 => ?_)
    · have hv := hv.1 b_6
      refine lv_iload_n hx hb d_W_afterNumber_37 rfl (lv_at hl 0 rfl) ?_
      exact rr_i hx hb hr hlocks r_1 hv d_W_afterNumber_38
    · have hv := hv.2 b_6
      refine lv_aload_n hx hb d_W_afterNumber_29 rfl (lv_at hl 1 rfl) ?_
      refine lv_iload_n hx hb d_W_afterNumber_30 rfl (lv_at hl 0 rfl) ?_
      refine lv_iconst (v := 1) hx hb d_W_afterNumber_31 (by decide) ?_
      refine lv_iadd hx hb d_W_afterNumber_32 ?_
      have hM := met_W_afterDigits (l := l) (dd := dd) (cB := cB) (cI := cI) (cL := cL) (cS := cS) (oW := oW) (aX := aX) (aO := aO) (aB := aB) (aE := aE) (wc := wc)  hv
      refine krv_i (st := [.int (r_1 + 1), .ref oW]) (rest := []) ⟨hx, hb, hml, hown, hts⟩ hM (cwV 1 hts (gv (tg0 at_174) (tg0 at_176) (tg0 ap_5) (tg0 at_2) (tg0 at_177)) rfl rfl rfl (by decide +kernel) (rk (by omega) (by decide))) x0b (fun _ _ _ => trivial) hP hK [0, 1] rfl (ci := 1) rfl rfl (q0 := 0) rfl rfl hl.1 rfl (Nat.le_of_ble_eq_true rfl) d_W_afterNumber_33 ⟨Nat.zero_le _, Nat.zero_le _⟩ (fun r_7 hv => ?_)
      exact rr_i hx hb hr hlocks r_7 hv d_W_afterNumber_36
def vc_W_endOfWord  (nX : Nat) (tx : FN) (ln : Int32) (x1 : Int32) (K_ : Int32 → Prop) : Prop :=
  (vc_W_byteAt nX tx ln x1 (fun r_1 => (vc_W_isLetter r_1 (fun r_2 => ((r_2 = 0 → (vc_W_isDigit r_1 (fun r_4 => ((r_4 = 0 → (K_ (if ln < (x1 + 1) then ln else (x1 + 1)))) ∧ (¬ r_4 = 0 → (vc_W_afterNumber nX tx ln x1 (fun r_6 => (K_ r_6)))))))) ∧ (¬ r_2 = 0 → (vc_W_afterName nX tx ln x1 (fun r_9 => (K_ r_9)))))))))
set_option maxHeartbeats 4000000 in
set_option maxRecDepth 100000 in
theorem met_W_endOfWord {l : Launch} {dd : va_G} {cB cI cL cS : ClassId}  {oW : Nat} {aX : Nat} {aO : Nat} {aB : Nat} {aE : Nat}  {nX : Nat} {tx : FN} {ln : Int32} {wc : Int32} {x1 : Int32} {K_ : Int32 → Prop}  (hv : vc_W_endOfWord  nX tx ln x1 K_) : CtR l y_W_endOfWord w_W_endOfWord (rmk 3 0 0) dd cls5 [(cB, .byte), (cI, .int), (cL, .long), (cS, .object "java/lang/String")] X0 [(oW, .inr (1, [.ref aX, .int ln, .ref aO, .ref aB, .ref aE, .int wc])), (aX, .inl (cB, nX, .inl tx))] [.ref oW, .int x1] (qR K_) := by
  refine m_ofR (cc := b_W_endOfWord) (nL := 3) (ret := (some .int)) (by decide) rfl (Nat.le_of_ble_eq_true rfl) ?_
  intro p e s m below meth c ls ar Fx_ hP hK hX hl
  obtain ⟨hx, hb, hml, hr, hlocks, hown, hts, hinn⟩ := Fx_
  have hl : lv_has ls 3 [(0, .ref oW), (1, .int x1)] := hl
  unfold vc_W_endOfWord at hv
  refine lv_aload_n hx hb d_W_endOfWord_0 rfl (lv_at hl 0 rfl) ?_
  refine lv_iload_n hx hb d_W_endOfWord_1 rfl (lv_at hl 1 rfl) ?_
  have hM := met_W_byteAt (l := l) (dd := dd) (cB := cB) (cI := cI) (cL := cL) (cS := cS) (oW := oW) (aX := aX) (aO := aO) (aB := aB) (aE := aE) (wc := wc)  hv
  refine krv_i (st := [.int x1, .ref oW]) (rest := []) ⟨hx, hb, hml, hown, hts⟩ hM (cwV 1 hts (gv (tg0 at_149) (tg0 at_150) (tg0 at_151) (tg0 at_2) (tg0 at_152)) rfl rfl rfl (by decide +kernel) (rk (by omega) (by decide))) x0b (fun _ _ _ => trivial) hP hK [0, 1] rfl (ci := 1) rfl rfl (q0 := 0) rfl rfl hl.1 rfl (Nat.le_of_ble_eq_true rfl) d_W_endOfWord_2 ⟨Nat.zero_le _, Nat.zero_le _⟩ (fun r_1 hv => ?_)
  refine lv_istore_n (lv' := [(2, .int r_1), (0, .ref oW), (1, .int x1)]) hx hb d_W_endOfWord_5 rfl hl (by decide) rfl (fun ls hl => ?_)
  refine lv_iload_n hx hb d_W_endOfWord_6 rfl (lv_at hl 0 rfl) ?_
  have hM := met_W_isLetter (l := l) (dd := dd) (cB := cB) (cI := cI) (cL := cL) (cS := cS)   hv
  refine krs_i (st := [.int r_1]) (rest := []) ⟨hx, hb, hml, hown, hts⟩ hM (cwS 1 hts (gs (tg0 at_160) (tg0 at_161) (tg0 at_2) (tg0 at_162)) rfl rfl rfl (by decide +kernel) (rk (by omega) (by decide))) x0b (fun _ _ _ => trivial) hP hK [] rfl rfl hl.1 rfl (Nat.le_of_ble_eq_true rfl) d_W_endOfWord_7 ⟨Nat.zero_le _, Nat.zero_le _⟩ (fun r_2 hv => ?_)
  refine lv_if_eq (tgt := 19) hx hb d_W_endOfWord_10 (by decide) (fun b_3 => ?_) (fun b_3 => ?_)
  · have hv := hv.1 b_3
    refine lv_iload_n hx hb d_W_endOfWord_19 rfl (lv_at hl 0 rfl) ?_
    have hM := met_W_isDigit (l := l) (dd := dd) (cB := cB) (cI := cI) (cL := cL) (cS := cS)   hv
    refine krs_i (st := [.int r_1]) (rest := []) ⟨hx, hb, hml, hown, hts⟩ hM (cwS 1 hts (gs (tg0 at_167) (tg0 at_168) (tg0 at_2) (tg0 at_169)) rfl rfl rfl (by decide +kernel) (rk (by omega) (by decide))) x0b (fun _ _ _ => trivial) hP hK [] rfl rfl hl.1 rfl (Nat.le_of_ble_eq_true rfl) d_W_endOfWord_20 ⟨Nat.zero_le _, Nat.zero_le _⟩ (fun r_4 hv => ?_)
    refine lv_if_eq (tgt := 32) hx hb d_W_endOfWord_23 (by decide) (fun b_5 => ?_) (fun b_5 => ?_)
    · have hv := hv.1 b_5
      refine lv_iload_n hx hb d_W_endOfWord_32 rfl (lv_at hl 2 rfl) ?_
      refine lv_iconst (v := 1) hx hb d_W_endOfWord_33 (by decide) ?_
      refine lv_iadd hx hb d_W_endOfWord_34 ?_
      refine lv_aload_n hx hb d_W_endOfWord_35 rfl (lv_at hl 1 rfl) ?_
      refine va_get (D := dd) (ci := 1) (C := Rc_W) (T := Fc_W) (N := 6) (v := .int ln) hx hb hts (inn in_W) hown hK hP 0 rfl rfl 1 (by decide) (hts (.fieldLink "NetText$Words" 15 "NetText$Words" "length" "I") (tg at_35)) (fun _ h9 => h9) rfl d_W_endOfWord_36 ?_
      refine va_mmin hx hb (hml.trans hl.1.symm) hown (hts (.methodLink "NetText$Words" 78 ⟨"java/lang/Math", "min", "(II)I"⟩) (tg at_178)) (hts (.static ⟨"java/lang/Math", "min", "(II)I"⟩) (tg at_179)) (hts (.initialized "java/lang/Math") (tg at_11)) (hts (.code ⟨"java/lang/Math", "min", "(II)I"⟩ prog_15_method_69_code 2 (some .int)) (tg at_180)) (Nat.le_of_ble_eq_true rfl) (Nat.le_of_ble_eq_true rfl) (Nat.zero_le _) (Nat.zero_le _) d_W_endOfWord_39 ?_
      exact rr_i hx hb hr hlocks (if ln < (x1 + 1) then ln else (x1 + 1)) hv d_W_endOfWord_42
    · have hv := hv.2 b_5
      refine lv_aload_n hx hb d_W_endOfWord_26 rfl (lv_at hl 1 rfl) ?_
      refine lv_iload_n hx hb d_W_endOfWord_27 rfl (lv_at hl 2 rfl) ?_
      have hM := met_W_afterNumber (l := l) (dd := dd) (cB := cB) (cI := cI) (cL := cL) (cS := cS) (oW := oW) (aX := aX) (aO := aO) (aB := aB) (aE := aE) (wc := wc)  hv
      refine krv_i (st := [.int x1, .ref oW]) (rest := []) ⟨hx, hb, hml, hown, hts⟩ hM (cwV 1 hts (gv (tg0 at_170) (tg0 at_172) (tg0 ap_4) (tg0 at_2) (tg0 at_173)) rfl rfl rfl (by decide +kernel) (rk (by omega) (by decide))) x0b (fun _ _ _ => trivial) hP hK [0, 1] rfl (ci := 1) rfl rfl (q0 := 0) rfl rfl hl.1 rfl (Nat.le_of_ble_eq_true rfl) d_W_endOfWord_28 ⟨Nat.zero_le _, Nat.zero_le _⟩ (fun r_6 hv => ?_)
      exact rr_i hx hb hr hlocks r_6 hv d_W_endOfWord_31
  · have hv := hv.2 b_3
    refine lv_aload_n hx hb d_W_endOfWord_13 rfl (lv_at hl 1 rfl) ?_
    refine lv_iload_n hx hb d_W_endOfWord_14 rfl (lv_at hl 2 rfl) ?_
    have hM := met_W_afterName (l := l) (dd := dd) (cB := cB) (cI := cI) (cL := cL) (cS := cS) (oW := oW) (aX := aX) (aO := aO) (aB := aB) (aE := aE) (wc := wc)  hv
    refine krv_i (st := [.int x1, .ref oW]) (rest := []) ⟨hx, hb, hml, hown, hts⟩ hM (cwV 1 hts (gv (tg0 at_163) (tg0 at_165) (tg0 ap_3) (tg0 at_2) (tg0 at_166)) rfl rfl rfl (by decide +kernel) (rk (by omega) (by decide))) x0b (fun _ _ _ => trivial) hP hK [0, 1] rfl (ci := 1) rfl rfl (q0 := 0) rfl rfl hl.1 rfl (Nat.le_of_ble_eq_true rfl) d_W_endOfWord_15 ⟨Nat.zero_le _, Nat.zero_le _⟩ (fun r_9 hv => ?_)
    exact rr_i hx hb hr hlocks r_9 hv d_W_endOfWord_18
def vc_W_digitsBehindPoint  (nX : Nat) (tx : FN) (ln : Int32) (nO : Nat) (sb : FN) (se : FN) (wc : Int32) (x1 : Int32) (K_ : Int32 → Prop) : Prop :=
  (vc_W_holds wc x1 (fun r_1 => ((¬ r_1 = 0 → (vp_in x1 nO ∧ (vp_in x1 nO ∧ (vc_W_afterDigits nX tx ln (sb x1.toNatClampNeg) (fun r_5 => (K_ (if 0 < (((se x1.toNatClampNeg) - r_5) - 1) then (((se x1.toNatClampNeg) - r_5) - 1) else 0))))))) ∧ (r_1 = 0 → (K_ (-1))))))
set_option maxHeartbeats 4000000 in
set_option maxRecDepth 100000 in
theorem met_W_digitsBehindPoint {l : Launch} {dd : va_G} {cB cI cL cS : ClassId}  {oW : Nat} {aX : Nat} {aO : Nat} {aB : Nat} {aE : Nat}  {nX : Nat} {tx : FN} {ln : Int32} {nO : Nat} {sb : FN} {se : FN} {wc : Int32} {x1 : Int32} {K_ : Int32 → Prop}  (hv : vc_W_digitsBehindPoint  nX tx ln nO sb se wc x1 K_) : CtR l y_W_digitsBehindPoint w_W_digitsBehindPoint (rmk 2 0 0) dd cls5 [(cB, .byte), (cI, .int), (cL, .long), (cS, .object "java/lang/String")] X0 [(oW, .inr (1, [.ref aX, .int ln, .ref aO, .ref aB, .ref aE, .int wc])), (aX, .inl (cB, nX, .inl tx)), (aB, .inl (cI, nO, .inl sb)), (aE, .inl (cI, nO, .inl se))] [.ref oW, .int x1] (qR K_) := by
  refine m_ofR (cc := b_W_digitsBehindPoint) (nL := 2) (ret := (some .int)) (by decide) rfl (Nat.le_of_ble_eq_true rfl) ?_
  intro p e s m below meth c ls ar Fx_ hP hK hX hl
  obtain ⟨hx, hb, hml, hr, hlocks, hown, hts, hinn⟩ := Fx_
  have hl : lv_has ls 2 [(0, .ref oW), (1, .int x1)] := hl
  unfold vc_W_digitsBehindPoint at hv
  refine lv_aload_n hx hb d_W_digitsBehindPoint_0 rfl (lv_at hl 0 rfl) ?_
  refine lv_iload_n hx hb d_W_digitsBehindPoint_1 rfl (lv_at hl 1 rfl) ?_
  have hM := met_W_holds (l := l) (dd := dd) (cB := cB) (cI := cI) (cL := cL) (cS := cS) (oW := oW) (aX := aX) (aO := aO) (aB := aB) (aE := aE) (ln := ln)  hv
  refine krv_i (st := [.int x1, .ref oW]) (rest := []) ⟨hx, hb, hml, hown, hts⟩ hM (cwV 1 hts (gv (tg0 at_349) (tg0 at_351) (tg0 ap_14) (tg0 at_2) (tg0 at_352)) rfl rfl rfl (by decide +kernel) (rk (by omega) (by decide))) x0b (fun _ _ _ => trivial) hP hK [0] rfl (ci := 1) rfl rfl (q0 := 0) rfl rfl hl.1 rfl (Nat.le_of_ble_eq_true rfl) d_W_digitsBehindPoint_2 ⟨Nat.zero_le _, Nat.zero_le _⟩ (fun r_1 hv => ?_)
  refine lv_if_ne (tgt := 10) hx hb d_W_digitsBehindPoint_5 (by decide) (fun b_2 => ?_) (fun b_2 => ?_)
  · have hv := hv.1 b_2
    refine lv_iconst (v := 0) hx hb d_W_digitsBehindPoint_10 (by decide) ?_
    refine lv_aload_n hx hb d_W_digitsBehindPoint_11 rfl (lv_at hl 0 rfl) ?_
    refine va_get (D := dd) (ci := 1) (C := Rc_W) (T := Fc_W) (N := 6) (v := .ref aE) hx hb hts (inn in_W) hown hK hP 0 rfl rfl 4 (by decide) (hts (.fieldLink "NetText$Words" 26 "NetText$Words" "ends" "[I") (tg at_39)) (fun _ h9 => h9) rfl d_W_digitsBehindPoint_12 ?_
    refine lv_iload_n hx hb d_W_digitsBehindPoint_15 rfl (lv_at hl 1 rfl) ?_
    obtain ⟨h_3, hv⟩ := hv
    refine va_iald hx hb hK hP 3 1 rfl rfl h_3 d_W_digitsBehindPoint_16 ?_
    refine lv_aload_n hx hb d_W_digitsBehindPoint_17 rfl (lv_at hl 0 rfl) ?_
    refine lv_aload_n hx hb d_W_digitsBehindPoint_18 rfl (lv_at hl 0 rfl) ?_
    refine va_get (D := dd) (ci := 1) (C := Rc_W) (T := Fc_W) (N := 6) (v := .ref aB) hx hb hts (inn in_W) hown hK hP 0 rfl rfl 3 (by decide) (hts (.fieldLink "NetText$Words" 23 "NetText$Words" "starts" "[I") (tg at_38)) (fun _ h9 => h9) rfl d_W_digitsBehindPoint_19 ?_
    refine lv_iload_n hx hb d_W_digitsBehindPoint_22 rfl (lv_at hl 1 rfl) ?_
    obtain ⟨h_4, hv⟩ := hv
    refine va_iald hx hb hK hP 2 1 rfl rfl h_4 d_W_digitsBehindPoint_23 ?_
    have hM := met_W_afterDigits (l := l) (dd := dd) (cB := cB) (cI := cI) (cL := cL) (cS := cS) (oW := oW) (aX := aX) (aO := aO) (aB := aB) (aE := aE) (wc := wc)  hv
    refine krv_i (st := [.int (sb x1.toNatClampNeg), .ref oW, .int (se x1.toNatClampNeg), .int 0]) (rest := [.int (se x1.toNatClampNeg), .int 0]) ⟨hx, hb, hml, hown, hts⟩ hM (cwV 1 hts (gv (tg0 at_174) (tg0 at_176) (tg0 ap_5) (tg0 at_2) (tg0 at_177)) rfl rfl rfl (by decide +kernel) (rk (by omega) (by decide))) x0b (fun _ _ _ => trivial) hP hK [0, 1] rfl (ci := 1) rfl rfl (q0 := 0) rfl rfl hl.1 rfl (Nat.le_of_ble_eq_true rfl) d_W_digitsBehindPoint_24 ⟨Nat.zero_le _, Nat.zero_le _⟩ (fun r_5 hv => ?_)
    refine lv_isub hx hb d_W_digitsBehindPoint_27 ?_
    refine lv_iconst (v := 1) hx hb d_W_digitsBehindPoint_28 (by decide) ?_
    refine lv_isub hx hb d_W_digitsBehindPoint_29 ?_
    refine va_mmax hx hb (hml.trans hl.1.symm) hown (hts (.methodLink "NetText$Words" 161 ⟨"java/lang/Math", "max", "(II)I"⟩) (tg at_733)) (hts (.static ⟨"java/lang/Math", "max", "(II)I"⟩) (tg at_291)) (hts (.initialized "java/lang/Math") (tg at_11)) (hts (.code ⟨"java/lang/Math", "max", "(II)I"⟩ prog_15_method_65_code 2 (some .int)) (tg at_292)) (Nat.le_of_ble_eq_true rfl) (Nat.le_of_ble_eq_true rfl) (Nat.zero_le _) (Nat.zero_le _) d_W_digitsBehindPoint_30 ?_
    exact rr_i hx hb hr hlocks (if 0 < (((se x1.toNatClampNeg) - r_5) - 1) then (((se x1.toNatClampNeg) - r_5) - 1) else 0) hv d_W_digitsBehindPoint_33
  · have hv := hv.2 b_2
    refine lv_iconst (v := (-1)) hx hb d_W_digitsBehindPoint_8 (by decide) ?_
    exact rr_i hx hb hr hlocks (-1) hv d_W_digitsBehindPoint_9
def vl_W_valueOf_22  (nX : Nat) (tx : FN) (ln : Int32) (nO : Nat) (sb : FN) (se : FN) (wc : Int32) (x1 : Int32)  (K_ : Int64 → Prop) : Nat → Int32 → Int64 → Prop
  | 0 => fun _ _ => False
  | n_ + 1 => fun x4_h22 x2_h22 =>
  (vp_in x1 nO ∧ (((se x1.toNatClampNeg) ≤ x4_h22 → (K_ x2_h22)) ∧ (¬ (se x1.toNatClampNeg) ≤ x4_h22 → (vc_W_byteAt nX tx ln x4_h22 (fun r_6 => (vc_W_isDigit r_6 (fun r_7 => ((r_7 = 0 → (vl_W_valueOf_22 nX tx ln nO sb se wc x1  K_ n_ (x4_h22 + 1) x2_h22)) ∧ (¬ r_7 = 0 → (vc_W_byteAt nX tx ln x4_h22 (fun r_9 => (vl_W_valueOf_22 nX tx ln nO sb se wc x1  K_ n_ (x4_h22 + 1) ((x2_h22 * 10) + ((r_9 - 48).toInt64))))))))))))))
def vc_W_valueOf  (nX : Nat) (tx : FN) (ln : Int32) (nO : Nat) (sb : FN) (se : FN) (wc : Int32) (x1 : Int32) (K_ : Int64 → Prop) : Prop :=
  (vc_W_holds wc x1 (fun r_1 => ((¬ r_1 = 0 → (vp_in x1 nO ∧ (∃ n_, vl_W_valueOf_22 nX tx ln nO sb se wc x1 K_ n_ (sb x1.toNatClampNeg) 0))) ∧ (r_1 = 0 → (K_ (-1))))))
set_option maxHeartbeats 4000000 in
set_option maxRecDepth 100000 in
theorem met_W_valueOf {l : Launch} {dd : va_G} {cB cI cL cS : ClassId}  {oW : Nat} {aX : Nat} {aO : Nat} {aB : Nat} {aE : Nat}  {nX : Nat} {tx : FN} {ln : Int32} {nO : Nat} {sb : FN} {se : FN} {wc : Int32} {x1 : Int32} {K_ : Int64 → Prop}  (hv : vc_W_valueOf  nX tx ln nO sb se wc x1 K_) : CtR l y_W_valueOf w_W_valueOf (rmk 1 0 0) dd cls5 [(cB, .byte), (cI, .int), (cL, .long), (cS, .object "java/lang/String")] X0 [(oW, .inr (1, [.ref aX, .int ln, .ref aO, .ref aB, .ref aE, .int wc])), (aX, .inl (cB, nX, .inl tx)), (aB, .inl (cI, nO, .inl sb)), (aE, .inl (cI, nO, .inl se))] [.ref oW, .int x1] (qL K_) := by
  refine m_ofR (cc := b_W_valueOf) (nL := 5) (ret := (some .long)) (by decide) rfl (Nat.le_of_ble_eq_true rfl) ?_
  intro p e s m below meth c ls ar Fx_ hP hK hX hl
  obtain ⟨hx, hb, hml, hr, hlocks, hown, hts, hinn⟩ := Fx_
  have hl : lv_has ls 5 [(0, .ref oW), (1, .int x1)] := hl
  unfold vc_W_valueOf at hv
  refine lv_aload_n hx hb d_W_valueOf_0 rfl (lv_at hl 0 rfl) ?_
  refine lv_iload_n hx hb d_W_valueOf_1 rfl (lv_at hl 1 rfl) ?_
  have hM := met_W_holds (l := l) (dd := dd) (cB := cB) (cI := cI) (cL := cL) (cS := cS) (oW := oW) (aX := aX) (aO := aO) (aB := aB) (aE := aE) (ln := ln)  hv
  refine krv_i (st := [.int x1, .ref oW]) (rest := []) ⟨hx, hb, hml, hown, hts⟩ hM (cwV 1 hts (gv (tg0 at_349) (tg0 at_351) (tg0 ap_14) (tg0 at_2) (tg0 at_352)) rfl rfl rfl (by decide +kernel) (rk (by omega) (by decide))) x0b (fun _ _ _ => trivial) hP hK [0] rfl (ci := 1) rfl rfl (q0 := 0) rfl rfl hl.1 rfl (Nat.le_of_ble_eq_true rfl) d_W_valueOf_2 ⟨Nat.zero_le _, Nat.zero_le _⟩ (fun r_1 hv => ?_)
  refine lv_if_ne (tgt := 12) hx hb d_W_valueOf_5 (by decide) (fun b_2 => ?_) (fun b_2 => ?_)
  · have hv := hv.1 b_2
    refine lv_lconst (v := 0) hx hb d_W_valueOf_12 (by decide) ?_
    refine lv_lstore_n (lv' := [(2, .long 0), (0, .ref oW), (1, .int x1)]) hx hb d_W_valueOf_13 rfl hl (by decide) rfl (fun ls hl => ?_)
    refine lv_aload_n hx hb d_W_valueOf_14 rfl (lv_at hl 1 rfl) ?_
    refine va_get (D := dd) (ci := 1) (C := Rc_W) (T := Fc_W) (N := 6) (v := .ref aB) hx hb hts (inn in_W) hown hK hP 0 rfl rfl 3 (by decide) (hts (.fieldLink "NetText$Words" 23 "NetText$Words" "starts" "[I") (tg at_38)) (fun _ h9 => h9) rfl d_W_valueOf_15 ?_
    refine lv_iload_n hx hb d_W_valueOf_18 rfl (lv_at hl 2 rfl) ?_
    obtain ⟨h_3, hv⟩ := hv
    refine va_iald hx hb hK hP 2 1 rfl rfl h_3 d_W_valueOf_19 ?_
    refine lv_istore (lv' := [(4, .int (sb x1.toNatClampNeg)), (2, .long 0), (0, .ref oW), (1, .int x1)]) hx hb d_W_valueOf_20 hl (by decide) rfl (fun ls hl => ?_)
    obtain ⟨n_22, hv⟩ := hv
    have LP_22 : ∀ (n_ : Nat) (x4_h22 : Int32) (x2_h22 : Int64) (ls : Array Slot), vl_W_valueOf_22 nX tx ln nO sb se wc x1 K_ n_ x4_h22 x2_h22 → lv_has ls 5 [(4, .int x4_h22), (2, .long x2_h22), (0, .ref oW), (1, .int x1)] → W p l e (rmk 1 0 0) s m ar below meth c s.heap [] 0 0 (MQ below (qL K_) ar s 0 0 (fun _ => False)) (F0 m 22 ls []) := by
      intro n_
      induction n_ with
      | zero => intro x4_h22 x2_h22 ls hv; exact False.elim hv
      | succ n_ ih =>
        intro x4_h22 x2_h22 ls hv hl
        unfold vl_W_valueOf_22 at hv
        refine lv_iload hx hb d_W_valueOf_22 (lv_at hl 0 rfl) ?_
        refine lv_aload_n hx hb d_W_valueOf_24 rfl (lv_at hl 2 rfl) ?_
        refine va_get (D := dd) (ci := 1) (C := Rc_W) (T := Fc_W) (N := 6) (v := .ref aE) hx hb hts (inn in_W) hown hK hP 0 rfl rfl 4 (by decide) (hts (.fieldLink "NetText$Words" 26 "NetText$Words" "ends" "[I") (tg at_39)) (fun _ h9 => h9) rfl d_W_valueOf_25 ?_
        refine lv_iload_n hx hb d_W_valueOf_28 rfl (lv_at hl 3 rfl) ?_
        obtain ⟨h_4, hv⟩ := hv
        refine va_iald hx hb hK hP 3 1 rfl rfl h_4 d_W_valueOf_29 ?_
        refine lv_icmp_ge (tgt := 68) hx hb d_W_valueOf_30 (by decide) (fun b_5 => ?_) (fun b_5 => ?_)
        · have hv := hv.1 b_5
          refine lv_lload_n hx hb d_W_valueOf_68 rfl (lv_at hl 1 rfl) ?_
          exact rr_l hx hb hr hlocks x2_h22 hv d_W_valueOf_69
        · have hv := hv.2 b_5
          refine lv_aload_n hx hb d_W_valueOf_33 rfl (lv_at hl 2 rfl) ?_
          refine lv_iload hx hb d_W_valueOf_34 (lv_at hl 0 rfl) ?_
          have hM := met_W_byteAt (l := l) (dd := dd) (cB := cB) (cI := cI) (cL := cL) (cS := cS) (oW := oW) (aX := aX) (aO := aO) (aB := aB) (aE := aE) (wc := wc)  hv
          refine krv_i (st := [.int x4_h22, .ref oW]) (rest := []) ⟨hx, hb, hml, hown, hts⟩ hM (cwV 1 hts (gv (tg0 at_149) (tg0 at_150) (tg0 at_151) (tg0 at_2) (tg0 at_152)) rfl rfl rfl (by decide +kernel) (rk (by omega) (by decide))) x0b (fun _ _ _ => trivial) hP hK [0, 1] rfl (ci := 1) rfl rfl (q0 := 0) rfl rfl hl.1 rfl (Nat.le_of_ble_eq_true rfl) d_W_valueOf_36 ⟨Nat.zero_le _, Nat.zero_le _⟩ (fun r_6 hv => ?_)
          have hM := met_W_isDigit (l := l) (dd := dd) (cB := cB) (cI := cI) (cL := cL) (cS := cS)   hv
          refine krs_i (st := [.int r_6]) (rest := []) ⟨hx, hb, hml, hown, hts⟩ hM (cwS 1 hts (gs (tg0 at_167) (tg0 at_168) (tg0 at_2) (tg0 at_169)) rfl rfl rfl (by decide +kernel) (rk (by omega) (by decide))) x0b (fun _ _ _ => trivial) hP hK [] rfl rfl hl.1 rfl (Nat.le_of_ble_eq_true rfl) d_W_valueOf_39 ⟨Nat.zero_le _, Nat.zero_le _⟩ (fun r_7 hv => ?_)
          refine lv_if_eq (tgt := 62) hx hb d_W_valueOf_42 (by decide) (fun b_8 => ?_) (fun b_8 => ?_)
          · have hv := hv.1 b_8
            refine lv_iinc (v := (x4_h22 + 1)) (lv' := [(4, .int (x4_h22 + 1)), (2, .long x2_h22), (0, .ref oW), (1, .int x1)]) hx hb d_W_valueOf_62 hl (k := 0) rfl rfl (by decide) rfl (fun ls hl => ?_)
            refine lv_goto (tgt := 22) hx hb d_W_valueOf_65 (by decide) ?_
            exact ih (x4_h22 + 1) x2_h22 _ hv (lv_sub hl [0, 1, 2, 3] rfl)
          · have hv := hv.2 b_8
            refine lv_lload_n hx hb d_W_valueOf_45 rfl (lv_at hl 1 rfl) ?_
            refine lv_ldc2 (v := 10) hx hb hown (hts (.constantLong "NetText$Words" 159 (10 : Int64)) (tg at_720)) d_W_valueOf_46 ?_
            refine lv_lmul hx hb d_W_valueOf_49 ?_
            refine lv_aload_n hx hb d_W_valueOf_50 rfl (lv_at hl 2 rfl) ?_
            refine lv_iload hx hb d_W_valueOf_51 (lv_at hl 0 rfl) ?_
            have hM := met_W_byteAt (l := l) (dd := dd) (cB := cB) (cI := cI) (cL := cL) (cS := cS) (oW := oW) (aX := aX) (aO := aO) (aB := aB) (aE := aE) (wc := wc)  hv
            refine krv_i (st := [.int x4_h22, .ref oW, .long (x2_h22 * 10)]) (rest := [.long (x2_h22 * 10)]) ⟨hx, hb, hml, hown, hts⟩ hM (cwV 1 hts (gv (tg0 at_149) (tg0 at_150) (tg0 at_151) (tg0 at_2) (tg0 at_152)) rfl rfl rfl (by decide +kernel) (rk (by omega) (by decide))) x0b (fun _ _ _ => trivial) hP hK [0, 1] rfl (ci := 1) rfl rfl (q0 := 0) rfl rfl hl.1 rfl (Nat.le_of_ble_eq_true rfl) d_W_valueOf_53 ⟨Nat.zero_le _, Nat.zero_le _⟩ (fun r_9 hv => ?_)
            refine lv_bipush (v := 48) hx hb d_W_valueOf_56 (by decide) ?_
            refine lv_isub hx hb d_W_valueOf_58 ?_
            refine lv_i2l (v := ((r_9 - 48).toInt64)) hx hb d_W_valueOf_59 rfl ?_
            refine lv_ladd hx hb d_W_valueOf_60 ?_
            refine lv_lstore_n (lv' := [(2, .long ((x2_h22 * 10) + ((r_9 - 48).toInt64))), (4, .int x4_h22), (0, .ref oW), (1, .int x1)]) hx hb d_W_valueOf_61 rfl hl (by decide) rfl (fun ls hl => ?_)
            refine lv_iinc (v := (x4_h22 + 1)) (lv' := [(4, .int (x4_h22 + 1)), (2, .long ((x2_h22 * 10) + ((r_9 - 48).toInt64))), (0, .ref oW), (1, .int x1)]) hx hb d_W_valueOf_62 hl (k := 1) rfl rfl (by decide) rfl (fun ls hl => ?_)
            refine lv_goto (tgt := 22) hx hb d_W_valueOf_65 (by decide) ?_
            exact ih (x4_h22 + 1) ((x2_h22 * 10) + ((r_9 - 48).toInt64)) _ hv (lv_sub hl [0, 1, 2, 3] rfl)
    exact LP_22 n_22 (sb x1.toNatClampNeg) 0 _ hv hl
  · have hv := hv.2 b_2
    refine lv_ldc2 (v := (-1)) hx hb hown (hts (.constantLong "NetText$Words" 157 (-1 : Int64)) (tg at_719)) d_W_valueOf_8 ?_
    exact rr_l hx hb hr hlocks (-1) hv d_W_valueOf_11
def vc_W_isNumber  (nX : Nat) (tx : FN) (ln : Int32) (x1 : Int32) (x2 : Int32) (K_ : Int32 → Prop) : Prop :=
  (vc_W_afterDigits nX tx ln x1 (fun r_1 => (vc_W_byteAt nX tx ln x2 (fun r_2 => ((9 < (r_1 - x1) → (K_ 0)) ∧ (¬ 9 < (r_1 - x1) → ((9 < ((x2 - r_1) - 1) → (K_ 0)) ∧ (¬ 9 < ((x2 - r_1) - 1) → ((r_2 = 46 → (K_ 0)) ∧ (¬ r_2 = 46 → (vc_W_isLetter r_2 (fun r_6 => ((¬ r_6 = 0 → (K_ 0)) ∧ (r_6 = 0 → (K_ 1)))))))))))))))
set_option maxHeartbeats 4000000 in
set_option maxRecDepth 100000 in
theorem met_W_isNumber {l : Launch} {dd : va_G} {cB cI cL cS : ClassId}  {oW : Nat} {aX : Nat} {aO : Nat} {aB : Nat} {aE : Nat}  {nX : Nat} {tx : FN} {ln : Int32} {wc : Int32} {x1 : Int32} {x2 : Int32} {K_ : Int32 → Prop}  (hv : vc_W_isNumber  nX tx ln x1 x2 K_) : CtR l y_W_isNumber w_W_isNumber (rmk 2 0 0) dd cls5 [(cB, .byte), (cI, .int), (cL, .long), (cS, .object "java/lang/String")] X0 [(oW, .inr (1, [.ref aX, .int ln, .ref aO, .ref aB, .ref aE, .int wc])), (aX, .inl (cB, nX, .inl tx))] [.ref oW, .int x1, .int x2] (qR K_) := by
  refine m_ofR (cc := b_W_isNumber) (nL := 5) (ret := (some .boolean)) (by decide) rfl (Nat.le_of_ble_eq_true rfl) ?_
  intro p e s m below meth c ls ar Fx_ hP hK hX hl
  obtain ⟨hx, hb, hml, hr, hlocks, hown, hts, hinn⟩ := Fx_
  have hl : lv_has ls 5 [(0, .ref oW), (1, .int x1), (2, .int x2)] := hl
  unfold vc_W_isNumber at hv
  refine lv_aload_n hx hb d_W_isNumber_0 rfl (lv_at hl 0 rfl) ?_
  refine lv_iload_n hx hb d_W_isNumber_1 rfl (lv_at hl 1 rfl) ?_
  have hM := met_W_afterDigits (l := l) (dd := dd) (cB := cB) (cI := cI) (cL := cL) (cS := cS) (oW := oW) (aX := aX) (aO := aO) (aB := aB) (aE := aE) (wc := wc)  hv
  refine krv_i (st := [.int x1, .ref oW]) (rest := []) ⟨hx, hb, hml, hown, hts⟩ hM (cwV 1 hts (gv (tg0 at_174) (tg0 at_176) (tg0 ap_5) (tg0 at_2) (tg0 at_177)) rfl rfl rfl (by decide +kernel) (rk (by omega) (by decide))) x0b (fun _ _ _ => trivial) hP hK [0, 1] rfl (ci := 1) rfl rfl (q0 := 0) rfl rfl hl.1 rfl (Nat.le_of_ble_eq_true rfl) d_W_isNumber_2 ⟨Nat.zero_le _, Nat.zero_le _⟩ (fun r_1 hv => ?_)
  refine lv_istore_n (lv' := [(3, .int r_1), (0, .ref oW), (1, .int x1), (2, .int x2)]) hx hb d_W_isNumber_5 rfl hl (by decide) rfl (fun ls hl => ?_)
  refine lv_aload_n hx hb d_W_isNumber_6 rfl (lv_at hl 1 rfl) ?_
  refine lv_iload_n hx hb d_W_isNumber_7 rfl (lv_at hl 3 rfl) ?_
  have hM := met_W_byteAt (l := l) (dd := dd) (cB := cB) (cI := cI) (cL := cL) (cS := cS) (oW := oW) (aX := aX) (aO := aO) (aB := aB) (aE := aE) (wc := wc)  hv
  refine krv_i (st := [.int x2, .ref oW]) (rest := []) ⟨hx, hb, hml, hown, hts⟩ hM (cwV 1 hts (gv (tg0 at_149) (tg0 at_150) (tg0 at_151) (tg0 at_2) (tg0 at_152)) rfl rfl rfl (by decide +kernel) (rk (by omega) (by decide))) x0b (fun _ _ _ => trivial) hP hK [0, 1] rfl (ci := 1) rfl rfl (q0 := 0) rfl rfl hl.1 rfl (Nat.le_of_ble_eq_true rfl) d_W_isNumber_8 ⟨Nat.zero_le _, Nat.zero_le _⟩ (fun r_2 hv => ?_)
  refine lv_istore (lv' := [(4, .int r_2), (3, .int r_1), (0, .ref oW), (1, .int x1), (2, .int x2)]) hx hb d_W_isNumber_11 hl (by decide) rfl (fun ls hl => ?_)
  refine lv_iload_n hx hb d_W_isNumber_13 rfl (lv_at hl 1 rfl) ?_
  refine lv_iload_n hx hb d_W_isNumber_14 rfl (lv_at hl 3 rfl) ?_
  refine lv_isub hx hb d_W_isNumber_15 ?_
  refine lv_bipush (v := 9) hx hb d_W_isNumber_16 (by decide) ?_
  refine lv_icmp_gt (tgt := 50) hx hb d_W_isNumber_18 (by decide) (fun b_3 => ?_) (fun b_3 => ?_)
  · have hv := hv.1 b_3
    refine lv_iconst (v := 0) hx hb d_W_isNumber_50 (by decide) ?_
    exact rr_z hx hb hr narrow_b0 hlocks 0 hv d_W_isNumber_51
  · have hv := hv.2 b_3
    refine lv_iload_n hx hb d_W_isNumber_21 rfl (lv_at hl 4 rfl) ?_
    refine lv_iload_n hx hb d_W_isNumber_22 rfl (lv_at hl 1 rfl) ?_
    refine lv_isub hx hb d_W_isNumber_23 ?_
    refine lv_iconst (v := 1) hx hb d_W_isNumber_24 (by decide) ?_
    refine lv_isub hx hb d_W_isNumber_25 ?_
    refine lv_bipush (v := 9) hx hb d_W_isNumber_26 (by decide) ?_
    refine lv_icmp_gt (tgt := 50) hx hb d_W_isNumber_28 (by decide) (fun b_4 => ?_) (fun b_4 => ?_)
    · have hv := hv.1 b_4
      refine lv_iconst (v := 0) hx hb d_W_isNumber_50 (by decide) ?_
      exact rr_z hx hb hr narrow_b0 hlocks 0 hv d_W_isNumber_51
    · have hv := hv.2 b_4
      refine lv_iload hx hb d_W_isNumber_31 (lv_at hl 0 rfl) ?_
      refine lv_bipush (v := 46) hx hb d_W_isNumber_33 (by decide) ?_
      refine lv_icmp_eq (tgt := 50) hx hb d_W_isNumber_35 (by decide) (fun b_5 => ?_) (fun b_5 => ?_)
      · have hv := hv.1 b_5
        refine lv_iconst (v := 0) hx hb d_W_isNumber_50 (by decide) ?_
        exact rr_z hx hb hr narrow_b0 hlocks 0 hv d_W_isNumber_51
      · have hv := hv.2 b_5
        refine lv_iload hx hb d_W_isNumber_38 (lv_at hl 0 rfl) ?_
        have hM := met_W_isLetter (l := l) (dd := dd) (cB := cB) (cI := cI) (cL := cL) (cS := cS)   hv
        refine krs_i (st := [.int r_2]) (rest := []) ⟨hx, hb, hml, hown, hts⟩ hM (cwS 1 hts (gs (tg0 at_160) (tg0 at_161) (tg0 at_2) (tg0 at_162)) rfl rfl rfl (by decide +kernel) (rk (by omega) (by decide))) x0b (fun _ _ _ => trivial) hP hK [] rfl rfl hl.1 rfl (Nat.le_of_ble_eq_true rfl) d_W_isNumber_40 ⟨Nat.zero_le _, Nat.zero_le _⟩ (fun r_6 hv => ?_)
        refine lv_if_ne (tgt := 50) hx hb d_W_isNumber_43 (by decide) (fun b_7 => ?_) (fun b_7 => ?_)
        · have hv := hv.1 b_7
          refine lv_iconst (v := 0) hx hb d_W_isNumber_50 (by decide) ?_
          exact rr_z hx hb hr narrow_b0 hlocks 0 hv d_W_isNumber_51
        · have hv := hv.2 b_7
          refine lv_iconst (v := 1) hx hb d_W_isNumber_46 (by decide) ?_
          refine lv_goto (tgt := 51) hx hb d_W_isNumber_47 (by decide) ?_
          exact rr_z hx hb hr narrow_b1 hlocks 1 hv d_W_isNumber_51
def vc_W_add  (nO : Nat) (so : FN) (sb : FN) (se : FN) (wc : Int32) (x1 : Int32) (x2 : Int32) (x3 : Int32) (K_ : Int32 → FN → FN → FN → Prop) : Prop :=
  (((nI nO) ≤ wc → (K_ wc so sb se)) ∧ (¬ (nI nO) ≤ wc → (vp_in wc nO ∧ (vp_in wc nO ∧ (vp_in wc nO ∧ (K_ (wc + 1) (upd so wc.toNatClampNeg x1) (upd sb wc.toNatClampNeg x2) (upd se wc.toNatClampNeg x3)))))))
set_option maxHeartbeats 4000000 in
set_option maxRecDepth 100000 in
theorem met_W_add {l : Launch} {dd : va_G} {cB cI cL cS : ClassId}  {oW : Nat} {aX : Nat} {aO : Nat} {aB : Nat} {aE : Nat}  {nO : Nat} {so : FN} {sb : FN} {se : FN} {wc : Int32} {ln : Int32} {x1 : Int32} {x2 : Int32} {x3 : Int32} {K_ : Int32 → FN → FN → FN → Prop}  (hv : vc_W_add  nO so sb se wc x1 x2 x3 K_) : Ct l y_W_add w_W_add (rmk 0 0 0) dd cls5 [(cB, .byte), (cI, .int), (cL, .long), (cS, .object "java/lang/String")] X0 [(oW, .inr (1, [.ref aX, .int ln, .ref aO, .ref aB, .ref aE, .int wc])), (aO, .inl (cI, nO, .inl so)), (aB, .inl (cI, nO, .inl sb)), (aE, .inl (cI, nO, .inl se))] [.ref oW, .int x1, .int x2, .int x3] (qv dd cls5 [(cB, .byte), (cI, .int), (cL, .long), (cS, .object "java/lang/String")] (fun u_ : Int32 × FN × FN × FN => [(oW, .inr (1, [.ref aX, .int ln, .ref aO, .ref aB, .ref aE, .int u_.1])), (aO, .inl (cI, nO, .inl u_.2.1)), (aB, .inl (cI, nO, .inl u_.2.2.1)), (aE, .inl (cI, nO, .inl u_.2.2.2))]) (fun u_ => K_ u_.1 u_.2.1 u_.2.2.1 u_.2.2.2)) 0 0 := by
  refine m_of (cc := b_W_add) (nL := 4) (ret := none) (by decide) rfl (Nat.le_of_ble_eq_true rfl) ?_
  intro p e s m below meth c ls A ar Fx_ hA hP hK hD hS hX hl
  obtain ⟨hx, hb, hml, hr, hlocks, hown, hts, hinn⟩ := Fx_
  generalize hQ : MQ below ((qv dd cls5 [(cB, .byte), (cI, .int), (cL, .long), (cS, .object "java/lang/String")] (fun u_ : Int32 × FN × FN × FN => [(oW, .inr (1, [.ref aX, .int ln, .ref aO, .ref aB, .ref aE, .int u_.1])), (aO, .inl (cI, nO, .inl u_.2.1)), (aB, .inl (cI, nO, .inl u_.2.2.1)), (aE, .inl (cI, nO, .inl u_.2.2.2))]) (fun u_ => K_ u_.1 u_.2.1 u_.2.2.1 u_.2.2.2)) A) ar s 0 0 A = QQ
  have hl : lv_has ls 4 [(0, .ref oW), (1, .int x1), (2, .int x2), (3, .int x3)] := hl
  unfold vc_W_add at hv
  refine lv_aload_n hx hb d_W_add_0 rfl (lv_at hl 0 rfl) ?_
  refine va_get (D := dd) (ci := 1) (C := Rc_W) (T := Fc_W) (N := 6) (v := .int wc) hx hb hts (inn in_W) hown hK hP 0 rfl rfl 5 (by decide) (hts (.fieldLink "NetText$Words" 29 "NetText$Words" "count" "I") (tg at_40)) (fun _ h9 => h9) rfl d_W_add_1 ?_
  refine lv_aload_n hx hb d_W_add_4 rfl (lv_at hl 0 rfl) ?_
  refine va_get (D := dd) (ci := 1) (C := Rc_W) (T := Fc_W) (N := 6) (v := .ref aO) hx hb hts (inn in_W) hown hK hP 0 rfl rfl 2 (by decide) (hts (.fieldLink "NetText$Words" 19 "NetText$Words" "sorts" "[I") (tg at_36)) (fun _ h9 => h9) rfl d_W_add_5 ?_
  refine va_alen (v := nI nO) hx hb hK hP 1 1 rfl rfl rfl d_W_add_8 ?_
  refine lv_icmp_ge (tgt := 52) hx hb d_W_add_9 (by decide) (fun b_1 => ?_) (fun b_1 => ?_)
  · have hv := hv.1 b_1
    subst hQ
    exact r_v hx hb hr hlocks  (wc, so, sb, se) hv (hP.sub [0, 1, 2, 3] rfl) hK (hD.sub [0, 1, 2, 3] (by decide) rfl) hS (Nat.le_refl _) (Nat.le_refl _) d_W_add_52
  · have hv := hv.2 b_1
    refine lv_aload_n hx hb d_W_add_12 rfl (lv_at hl 0 rfl) ?_
    refine va_get (D := dd) (ci := 1) (C := Rc_W) (T := Fc_W) (N := 6) (v := .ref aO) hx hb hts (inn in_W) hown hK hP 0 rfl rfl 2 (by decide) (hts (.fieldLink "NetText$Words" 19 "NetText$Words" "sorts" "[I") (tg at_36)) (fun _ h9 => h9) rfl d_W_add_13 ?_
    refine lv_aload_n hx hb d_W_add_16 rfl (lv_at hl 0 rfl) ?_
    refine va_get (D := dd) (ci := 1) (C := Rc_W) (T := Fc_W) (N := 6) (v := .int wc) hx hb hts (inn in_W) hown hK hP 0 rfl rfl 5 (by decide) (hts (.fieldLink "NetText$Words" 29 "NetText$Words" "count" "I") (tg at_40)) (fun _ h9 => h9) rfl d_W_add_17 ?_
    refine lv_iload_n hx hb d_W_add_20 rfl (lv_at hl 1 rfl) ?_
    obtain ⟨h_2, hv⟩ := hv
    refine va_iast hx hb hK hP hD hS 1 1 rfl rfl h_2 d_W_add_21 (fun H locs hP hD hS => ?_)
    have hP : va_P dd cls5 [(oW, .inr (1, [.ref aX, .int ln, .ref aO, .ref aB, .ref aE, .int wc])), (aO, .inl (cI, nO, .inl (upd so wc.toNatClampNeg x1))), (aB, .inl (cI, nO, .inl sb)), (aE, .inl (cI, nO, .inl se))] H := hP
    have hD : va_D A [(oW, .inr (1, [.ref aX, .int ln, .ref aO, .ref aB, .ref aE, .int wc])), (aO, .inl (cI, nO, .inl (upd so wc.toNatClampNeg x1))), (aB, .inl (cI, nO, .inl sb)), (aE, .inl (cI, nO, .inl se))] := hD
    refine lv_aload_n hx hb d_W_add_22 rfl (lv_at hl 0 rfl) ?_
    refine va_get (D := dd) (ci := 1) (C := Rc_W) (T := Fc_W) (N := 6) (v := .ref aB) hx hb hts (inn in_W) hown hK hP 0 rfl rfl 3 (by decide) (hts (.fieldLink "NetText$Words" 23 "NetText$Words" "starts" "[I") (tg at_38)) (fun _ h9 => h9) rfl d_W_add_23 ?_
    refine lv_aload_n hx hb d_W_add_26 rfl (lv_at hl 0 rfl) ?_
    refine va_get (D := dd) (ci := 1) (C := Rc_W) (T := Fc_W) (N := 6) (v := .int wc) hx hb hts (inn in_W) hown hK hP 0 rfl rfl 5 (by decide) (hts (.fieldLink "NetText$Words" 29 "NetText$Words" "count" "I") (tg at_40)) (fun _ h9 => h9) rfl d_W_add_27 ?_
    refine lv_iload_n hx hb d_W_add_30 rfl (lv_at hl 2 rfl) ?_
    obtain ⟨h_3, hv⟩ := hv
    refine va_iast hx hb hK hP hD hS 2 1 rfl rfl h_3 d_W_add_31 (fun H locs hP hD hS => ?_)
    have hP : va_P dd cls5 [(oW, .inr (1, [.ref aX, .int ln, .ref aO, .ref aB, .ref aE, .int wc])), (aO, .inl (cI, nO, .inl (upd so wc.toNatClampNeg x1))), (aB, .inl (cI, nO, .inl (upd sb wc.toNatClampNeg x2))), (aE, .inl (cI, nO, .inl se))] H := hP
    have hD : va_D A [(oW, .inr (1, [.ref aX, .int ln, .ref aO, .ref aB, .ref aE, .int wc])), (aO, .inl (cI, nO, .inl (upd so wc.toNatClampNeg x1))), (aB, .inl (cI, nO, .inl (upd sb wc.toNatClampNeg x2))), (aE, .inl (cI, nO, .inl se))] := hD
    refine lv_aload_n hx hb d_W_add_32 rfl (lv_at hl 0 rfl) ?_
    refine va_get (D := dd) (ci := 1) (C := Rc_W) (T := Fc_W) (N := 6) (v := .ref aE) hx hb hts (inn in_W) hown hK hP 0 rfl rfl 4 (by decide) (hts (.fieldLink "NetText$Words" 26 "NetText$Words" "ends" "[I") (tg at_39)) (fun _ h9 => h9) rfl d_W_add_33 ?_
    refine lv_aload_n hx hb d_W_add_36 rfl (lv_at hl 0 rfl) ?_
    refine va_get (D := dd) (ci := 1) (C := Rc_W) (T := Fc_W) (N := 6) (v := .int wc) hx hb hts (inn in_W) hown hK hP 0 rfl rfl 5 (by decide) (hts (.fieldLink "NetText$Words" 29 "NetText$Words" "count" "I") (tg at_40)) (fun _ h9 => h9) rfl d_W_add_37 ?_
    refine lv_iload_n hx hb d_W_add_40 rfl (lv_at hl 3 rfl) ?_
    obtain ⟨h_4, hv⟩ := hv
    refine va_iast hx hb hK hP hD hS 3 1 rfl rfl h_4 d_W_add_41 (fun H locs hP hD hS => ?_)
    have hP : va_P dd cls5 [(oW, .inr (1, [.ref aX, .int ln, .ref aO, .ref aB, .ref aE, .int wc])), (aO, .inl (cI, nO, .inl (upd so wc.toNatClampNeg x1))), (aB, .inl (cI, nO, .inl (upd sb wc.toNatClampNeg x2))), (aE, .inl (cI, nO, .inl (upd se wc.toNatClampNeg x3)))] H := hP
    have hD : va_D A [(oW, .inr (1, [.ref aX, .int ln, .ref aO, .ref aB, .ref aE, .int wc])), (aO, .inl (cI, nO, .inl (upd so wc.toNatClampNeg x1))), (aB, .inl (cI, nO, .inl (upd sb wc.toNatClampNeg x2))), (aE, .inl (cI, nO, .inl (upd se wc.toNatClampNeg x3)))] := hD
    refine lv_aload_n hx hb d_W_add_42 rfl (lv_at hl 0 rfl) ?_
    refine lv_dup hx hb d_W_add_43 rfl ?_
    refine va_get (D := dd) (ci := 1) (C := Rc_W) (T := Fc_W) (N := 6) (v := .int wc) hx hb hts (inn in_W) hown hK hP 0 rfl rfl 5 (by decide) (hts (.fieldLink "NetText$Words" 29 "NetText$Words" "count" "I") (tg at_40)) (fun _ h9 => h9) rfl d_W_add_44 ?_
    refine lv_iconst (v := 1) hx hb d_W_add_47 (by decide) ?_
    refine lv_iadd hx hb d_W_add_48 ?_
    refine va_put (D := dd) (ci := 1) (C := Rc_W) (T := Fc_W) (N := 6) (v := .int (wc + 1)) (ty := .int) hx hb hts (inn in_W) tyf_W tyf_W_ok nmf_W hown hK hP hD hS 0 rfl rfl 5 (by decide) (hts (.fieldLink "NetText$Words" 29 "NetText$Words" "count" "I") (tg at_40)) (fun _ h9 => h9) rfl (by decide +kernel) rfl rfl (Nat.le_of_ble_eq_true rfl) d_W_add_49 (fun H locs hP hD hS => ?_)
    have hP : va_P dd cls5 [(oW, .inr (1, [.ref aX, .int ln, .ref aO, .ref aB, .ref aE, .int (wc + 1)])), (aO, .inl (cI, nO, .inl (upd so wc.toNatClampNeg x1))), (aB, .inl (cI, nO, .inl (upd sb wc.toNatClampNeg x2))), (aE, .inl (cI, nO, .inl (upd se wc.toNatClampNeg x3)))] H := hP
    have hD : va_D A [(oW, .inr (1, [.ref aX, .int ln, .ref aO, .ref aB, .ref aE, .int (wc + 1)])), (aO, .inl (cI, nO, .inl (upd so wc.toNatClampNeg x1))), (aB, .inl (cI, nO, .inl (upd sb wc.toNatClampNeg x2))), (aE, .inl (cI, nO, .inl (upd se wc.toNatClampNeg x3)))] := hD
    subst hQ
    exact r_v hx hb hr hlocks  ((wc + 1), (upd so wc.toNatClampNeg x1), (upd sb wc.toNatClampNeg x2), (upd se wc.toNatClampNeg x3)) hv (hP.sub [0, 1, 2, 3] rfl) hK (hD.sub [0, 1, 2, 3] (by decide) rfl) hS (Nat.le_refl _) (Nat.le_refl _) d_W_add_52
