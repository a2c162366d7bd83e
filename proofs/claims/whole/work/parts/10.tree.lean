abbrev b_T_holds : ByteArray := prog_5_method_3_code
def y_T_holds : MethodName := ⟨"NetText$Tree", "holds", "(I)Z"⟩
abbrev w_T_holds : List Cond := .code y_T_holds b_T_holds 2 (some .boolean) :: lw_gt
theorem d_T_holds_0 : decode b_T_holds 0 = .ok (.iload_n 1, 1) := by decide +kernel
theorem d_T_holds_1 : decode b_T_holds 1 = .ok (.ifCond .lt 15, 3) := by decide +kernel
theorem d_T_holds_4 : decode b_T_holds 4 = .ok (.iload_n 1, 1) := by decide +kernel
theorem d_T_holds_5 : decode b_T_holds 5 = .ok (.aload_n 0, 1) := by decide +kernel
theorem d_T_holds_6 : decode b_T_holds 6 = .ok (.getfield 27, 3) := by decide +kernel
theorem d_T_holds_9 : decode b_T_holds 9 = .ok (.if_icmp .ge 7, 3) := by decide +kernel
theorem d_T_holds_12 : decode b_T_holds 12 = .ok (.iconst 1, 1) := by decide +kernel
theorem d_T_holds_13 : decode b_T_holds 13 = .ok (.goto 4, 3) := by decide +kernel
theorem d_T_holds_16 : decode b_T_holds 16 = .ok (.iconst 0, 1) := by decide +kernel
theorem d_T_holds_17 : decode b_T_holds 17 = .ok (.ireturn, 1) := by decide +kernel
abbrev b_T_add : ByteArray := prog_5_method_4_code
def y_T_add : MethodName := ⟨"NetText$Tree", "add", "(IIII)I"⟩
abbrev w_T_add : List Cond := .code y_T_add b_T_add 5 (some .int) :: lw_gt
theorem d_T_add_0 : decode b_T_add 0 = .ok (.aload_n 0, 1) := by decide +kernel
theorem d_T_add_1 : decode b_T_add 1 = .ok (.getfield 27, 3) := by decide +kernel
theorem d_T_add_4 : decode b_T_add 4 = .ok (.aload_n 0, 1) := by decide +kernel
theorem d_T_add_5 : decode b_T_add 5 = .ok (.getfield 9, 3) := by decide +kernel
theorem d_T_add_8 : decode b_T_add 8 = .ok (.arraylength, 1) := by decide +kernel
theorem d_T_add_9 : decode b_T_add 9 = .ok (.if_icmp .lt 5, 3) := by decide +kernel
theorem d_T_add_12 : decode b_T_add 12 = .ok (.iconst (-1), 1) := by decide +kernel
theorem d_T_add_13 : decode b_T_add 13 = .ok (.ireturn, 1) := by decide +kernel
theorem d_T_add_14 : decode b_T_add 14 = .ok (.aload_n 0, 1) := by decide +kernel
theorem d_T_add_15 : decode b_T_add 15 = .ok (.getfield 9, 3) := by decide +kernel
theorem d_T_add_18 : decode b_T_add 18 = .ok (.aload_n 0, 1) := by decide +kernel
theorem d_T_add_19 : decode b_T_add 19 = .ok (.getfield 27, 3) := by decide +kernel
theorem d_T_add_22 : decode b_T_add 22 = .ok (.iload_n 1, 1) := by decide +kernel
theorem d_T_add_23 : decode b_T_add 23 = .ok (.iastore, 1) := by decide +kernel
theorem d_T_add_24 : decode b_T_add 24 = .ok (.aload_n 0, 1) := by decide +kernel
theorem d_T_add_25 : decode b_T_add 25 = .ok (.getfield 15, 3) := by decide +kernel
theorem d_T_add_28 : decode b_T_add 28 = .ok (.aload_n 0, 1) := by decide +kernel
theorem d_T_add_29 : decode b_T_add 29 = .ok (.getfield 27, 3) := by decide +kernel
theorem d_T_add_32 : decode b_T_add 32 = .ok (.iload_n 2, 1) := by decide +kernel
theorem d_T_add_33 : decode b_T_add 33 = .ok (.iastore, 1) := by decide +kernel
theorem d_T_add_34 : decode b_T_add 34 = .ok (.aload_n 0, 1) := by decide +kernel
theorem d_T_add_35 : decode b_T_add 35 = .ok (.getfield 18, 3) := by decide +kernel
theorem d_T_add_38 : decode b_T_add 38 = .ok (.aload_n 0, 1) := by decide +kernel
theorem d_T_add_39 : decode b_T_add 39 = .ok (.getfield 27, 3) := by decide +kernel
theorem d_T_add_42 : decode b_T_add 42 = .ok (.iload_n 3, 1) := by decide +kernel
theorem d_T_add_43 : decode b_T_add 43 = .ok (.iastore, 1) := by decide +kernel
theorem d_T_add_44 : decode b_T_add 44 = .ok (.aload_n 0, 1) := by decide +kernel
theorem d_T_add_45 : decode b_T_add 45 = .ok (.getfield 21, 3) := by decide +kernel
theorem d_T_add_48 : decode b_T_add 48 = .ok (.aload_n 0, 1) := by decide +kernel
theorem d_T_add_49 : decode b_T_add 49 = .ok (.getfield 27, 3) := by decide +kernel
theorem d_T_add_52 : decode b_T_add 52 = .ok (.iload 4, 2) := by decide +kernel
theorem d_T_add_54 : decode b_T_add 54 = .ok (.iastore, 1) := by decide +kernel
theorem d_T_add_55 : decode b_T_add 55 = .ok (.aload_n 0, 1) := by decide +kernel
theorem d_T_add_56 : decode b_T_add 56 = .ok (.getfield 24, 3) := by decide +kernel
theorem d_T_add_59 : decode b_T_add 59 = .ok (.aload_n 0, 1) := by decide +kernel
theorem d_T_add_60 : decode b_T_add 60 = .ok (.getfield 27, 3) := by decide +kernel
theorem d_T_add_63 : decode b_T_add 63 = .ok (.iconst (-1), 1) := by decide +kernel
theorem d_T_add_64 : decode b_T_add 64 = .ok (.iastore, 1) := by decide +kernel
theorem d_T_add_65 : decode b_T_add 65 = .ok (.aload_n 0, 1) := by decide +kernel
theorem d_T_add_66 : decode b_T_add 66 = .ok (.dup, 1) := by decide +kernel
theorem d_T_add_67 : decode b_T_add 67 = .ok (.getfield 27, 3) := by decide +kernel
theorem d_T_add_70 : decode b_T_add 70 = .ok (.iconst 1, 1) := by decide +kernel
theorem d_T_add_71 : decode b_T_add 71 = .ok (.iadd, 1) := by decide +kernel
theorem d_T_add_72 : decode b_T_add 72 = .ok (.putfield 27, 3) := by decide +kernel
theorem d_T_add_75 : decode b_T_add 75 = .ok (.aload_n 0, 1) := by decide +kernel
theorem d_T_add_76 : decode b_T_add 76 = .ok (.getfield 27, 3) := by decide +kernel
theorem d_T_add_79 : decode b_T_add 79 = .ok (.iconst 1, 1) := by decide +kernel
theorem d_T_add_80 : decode b_T_add 80 = .ok (.isub, 1) := by decide +kernel
theorem d_T_add_81 : decode b_T_add 81 = .ok (.ireturn, 1) := by decide +kernel
abbrev b_T_wrap : ByteArray := prog_5_method_5_code
def y_T_wrap : MethodName := ⟨"NetText$Tree", "wrap", "(III)V"⟩
abbrev w_T_wrap : List Cond := .code y_T_wrap b_T_wrap 5 none :: lw_gt
theorem d_T_wrap_0 : decode b_T_wrap 0 = .ok (.aload_n 0, 1) := by decide +kernel
theorem d_T_wrap_1 : decode b_T_wrap 1 = .ok (.iload_n 1, 1) := by decide +kernel
theorem d_T_wrap_2 : decode b_T_wrap 2 = .ok (.invokevirtual 37, 3) := by decide +kernel
theorem d_T_wrap_5 : decode b_T_wrap 5 = .ok (.ifCond .eq 15, 3) := by decide +kernel
theorem d_T_wrap_8 : decode b_T_wrap 8 = .ok (.aload_n 0, 1) := by decide +kernel
theorem d_T_wrap_9 : decode b_T_wrap 9 = .ok (.getfield 27, 3) := by decide +kernel
theorem d_T_wrap_12 : decode b_T_wrap 12 = .ok (.aload_n 0, 1) := by decide +kernel
theorem d_T_wrap_13 : decode b_T_wrap 13 = .ok (.getfield 9, 3) := by decide +kernel
theorem d_T_wrap_16 : decode b_T_wrap 16 = .ok (.arraylength, 1) := by decide +kernel
theorem d_T_wrap_17 : decode b_T_wrap 17 = .ok (.if_icmp .lt 4, 3) := by decide +kernel
theorem d_T_wrap_20 : decode b_T_wrap 20 = .ok (.return_, 1) := by decide +kernel
theorem d_T_wrap_21 : decode b_T_wrap 21 = .ok (.aload_n 0, 1) := by decide +kernel
theorem d_T_wrap_22 : decode b_T_wrap 22 = .ok (.getfield 27, 3) := by decide +kernel
theorem d_T_wrap_25 : decode b_T_wrap 25 = .ok (.istore 4, 2) := by decide +kernel
theorem d_T_wrap_27 : decode b_T_wrap 27 = .ok (.iload 4, 2) := by decide +kernel
theorem d_T_wrap_29 : decode b_T_wrap 29 = .ok (.iload_n 1, 1) := by decide +kernel
theorem d_T_wrap_30 : decode b_T_wrap 30 = .ok (.if_icmp .le 91, 3) := by decide +kernel
theorem d_T_wrap_33 : decode b_T_wrap 33 = .ok (.aload_n 0, 1) := by decide +kernel
theorem d_T_wrap_34 : decode b_T_wrap 34 = .ok (.getfield 9, 3) := by decide +kernel
theorem d_T_wrap_37 : decode b_T_wrap 37 = .ok (.iload 4, 2) := by decide +kernel
theorem d_T_wrap_39 : decode b_T_wrap 39 = .ok (.aload_n 0, 1) := by decide +kernel
theorem d_T_wrap_40 : decode b_T_wrap 40 = .ok (.getfield 9, 3) := by decide +kernel
theorem d_T_wrap_43 : decode b_T_wrap 43 = .ok (.iload 4, 2) := by decide +kernel
theorem d_T_wrap_45 : decode b_T_wrap 45 = .ok (.iconst 1, 1) := by decide +kernel
theorem d_T_wrap_46 : decode b_T_wrap 46 = .ok (.isub, 1) := by decide +kernel
theorem d_T_wrap_47 : decode b_T_wrap 47 = .ok (.iaload, 1) := by decide +kernel
theorem d_T_wrap_48 : decode b_T_wrap 48 = .ok (.iastore, 1) := by decide +kernel
theorem d_T_wrap_49 : decode b_T_wrap 49 = .ok (.aload_n 0, 1) := by decide +kernel
theorem d_T_wrap_50 : decode b_T_wrap 50 = .ok (.getfield 15, 3) := by decide +kernel
theorem d_T_wrap_53 : decode b_T_wrap 53 = .ok (.iload 4, 2) := by decide +kernel
theorem d_T_wrap_55 : decode b_T_wrap 55 = .ok (.aload_n 0, 1) := by decide +kernel
theorem d_T_wrap_56 : decode b_T_wrap 56 = .ok (.getfield 15, 3) := by decide +kernel
theorem d_T_wrap_59 : decode b_T_wrap 59 = .ok (.iload 4, 2) := by decide +kernel
theorem d_T_wrap_61 : decode b_T_wrap 61 = .ok (.iconst 1, 1) := by decide +kernel
theorem d_T_wrap_62 : decode b_T_wrap 62 = .ok (.isub, 1) := by decide +kernel
theorem d_T_wrap_63 : decode b_T_wrap 63 = .ok (.iaload, 1) := by decide +kernel
theorem d_T_wrap_64 : decode b_T_wrap 64 = .ok (.iastore, 1) := by decide +kernel
theorem d_T_wrap_65 : decode b_T_wrap 65 = .ok (.aload_n 0, 1) := by decide +kernel
theorem d_T_wrap_66 : decode b_T_wrap 66 = .ok (.getfield 18, 3) := by decide +kernel
theorem d_T_wrap_69 : decode b_T_wrap 69 = .ok (.iload 4, 2) := by decide +kernel
theorem d_T_wrap_71 : decode b_T_wrap 71 = .ok (.aload_n 0, 1) := by decide +kernel
theorem d_T_wrap_72 : decode b_T_wrap 72 = .ok (.getfield 18, 3) := by decide +kernel
theorem d_T_wrap_75 : decode b_T_wrap 75 = .ok (.iload 4, 2) := by decide +kernel
theorem d_T_wrap_77 : decode b_T_wrap 77 = .ok (.iconst 1, 1) := by decide +kernel
theorem d_T_wrap_78 : decode b_T_wrap 78 = .ok (.isub, 1) := by decide +kernel
theorem d_T_wrap_79 : decode b_T_wrap 79 = .ok (.iaload, 1) := by decide +kernel
theorem d_T_wrap_80 : decode b_T_wrap 80 = .ok (.iconst 1, 1) := by decide +kernel
theorem d_T_wrap_81 : decode b_T_wrap 81 = .ok (.iadd, 1) := by decide +kernel
theorem d_T_wrap_82 : decode b_T_wrap 82 = .ok (.iastore, 1) := by decide +kernel
theorem d_T_wrap_83 : decode b_T_wrap 83 = .ok (.aload_n 0, 1) := by decide +kernel
theorem d_T_wrap_84 : decode b_T_wrap 84 = .ok (.getfield 21, 3) := by decide +kernel
theorem d_T_wrap_87 : decode b_T_wrap 87 = .ok (.iload 4, 2) := by decide +kernel
theorem d_T_wrap_89 : decode b_T_wrap 89 = .ok (.aload_n 0, 1) := by decide +kernel
theorem d_T_wrap_90 : decode b_T_wrap 90 = .ok (.getfield 21, 3) := by decide +kernel
theorem d_T_wrap_93 : decode b_T_wrap 93 = .ok (.iload 4, 2) := by decide +kernel
theorem d_T_wrap_95 : decode b_T_wrap 95 = .ok (.iconst 1, 1) := by decide +kernel
theorem d_T_wrap_96 : decode b_T_wrap 96 = .ok (.isub, 1) := by decide +kernel
theorem d_T_wrap_97 : decode b_T_wrap 97 = .ok (.iaload, 1) := by decide +kernel
theorem d_T_wrap_98 : decode b_T_wrap 98 = .ok (.iastore, 1) := by decide +kernel
theorem d_T_wrap_99 : decode b_T_wrap 99 = .ok (.aload_n 0, 1) := by decide +kernel
theorem d_T_wrap_100 : decode b_T_wrap 100 = .ok (.getfield 24, 3) := by decide +kernel
theorem d_T_wrap_103 : decode b_T_wrap 103 = .ok (.iload 4, 2) := by decide +kernel
theorem d_T_wrap_105 : decode b_T_wrap 105 = .ok (.aload_n 0, 1) := by decide +kernel
theorem d_T_wrap_106 : decode b_T_wrap 106 = .ok (.getfield 24, 3) := by decide +kernel
theorem d_T_wrap_109 : decode b_T_wrap 109 = .ok (.iload 4, 2) := by decide +kernel
theorem d_T_wrap_111 : decode b_T_wrap 111 = .ok (.iconst 1, 1) := by decide +kernel
theorem d_T_wrap_112 : decode b_T_wrap 112 = .ok (.isub, 1) := by decide +kernel
theorem d_T_wrap_113 : decode b_T_wrap 113 = .ok (.iaload, 1) := by decide +kernel
theorem d_T_wrap_114 : decode b_T_wrap 114 = .ok (.iastore, 1) := by decide +kernel
theorem d_T_wrap_115 : decode b_T_wrap 115 = .ok (.iinc 4 (-1), 3) := by decide +kernel
theorem d_T_wrap_118 : decode b_T_wrap 118 = .ok (.goto (-91), 3) := by decide +kernel
theorem d_T_wrap_121 : decode b_T_wrap 121 = .ok (.aload_n 0, 1) := by decide +kernel
theorem d_T_wrap_122 : decode b_T_wrap 122 = .ok (.getfield 18, 3) := by decide +kernel
theorem d_T_wrap_125 : decode b_T_wrap 125 = .ok (.iload_n 1, 1) := by decide +kernel
theorem d_T_wrap_126 : decode b_T_wrap 126 = .ok (.iconst 1, 1) := by decide +kernel
theorem d_T_wrap_127 : decode b_T_wrap 127 = .ok (.iadd, 1) := by decide +kernel
theorem d_T_wrap_128 : decode b_T_wrap 128 = .ok (.iload_n 1, 1) := by decide +kernel
theorem d_T_wrap_129 : decode b_T_wrap 129 = .ok (.iastore, 1) := by decide +kernel
theorem d_T_wrap_130 : decode b_T_wrap 130 = .ok (.aload_n 0, 1) := by decide +kernel
theorem d_T_wrap_131 : decode b_T_wrap 131 = .ok (.getfield 21, 3) := by decide +kernel
theorem d_T_wrap_134 : decode b_T_wrap 134 = .ok (.iload_n 1, 1) := by decide +kernel
theorem d_T_wrap_135 : decode b_T_wrap 135 = .ok (.iconst 1, 1) := by decide +kernel
theorem d_T_wrap_136 : decode b_T_wrap 136 = .ok (.iadd, 1) := by decide +kernel
theorem d_T_wrap_137 : decode b_T_wrap 137 = .ok (.iconst 0, 1) := by decide +kernel
theorem d_T_wrap_138 : decode b_T_wrap 138 = .ok (.iastore, 1) := by decide +kernel
theorem d_T_wrap_139 : decode b_T_wrap 139 = .ok (.aload_n 0, 1) := by decide +kernel
theorem d_T_wrap_140 : decode b_T_wrap 140 = .ok (.getfield 9, 3) := by decide +kernel
theorem d_T_wrap_143 : decode b_T_wrap 143 = .ok (.iload_n 1, 1) := by decide +kernel
theorem d_T_wrap_144 : decode b_T_wrap 144 = .ok (.iload_n 2, 1) := by decide +kernel
theorem d_T_wrap_145 : decode b_T_wrap 145 = .ok (.iastore, 1) := by decide +kernel
theorem d_T_wrap_146 : decode b_T_wrap 146 = .ok (.aload_n 0, 1) := by decide +kernel
theorem d_T_wrap_147 : decode b_T_wrap 147 = .ok (.getfield 15, 3) := by decide +kernel
theorem d_T_wrap_150 : decode b_T_wrap 150 = .ok (.iload_n 1, 1) := by decide +kernel
theorem d_T_wrap_151 : decode b_T_wrap 151 = .ok (.iload_n 3, 1) := by decide +kernel
theorem d_T_wrap_152 : decode b_T_wrap 152 = .ok (.iastore, 1) := by decide +kernel
theorem d_T_wrap_153 : decode b_T_wrap 153 = .ok (.aload_n 0, 1) := by decide +kernel
theorem d_T_wrap_154 : decode b_T_wrap 154 = .ok (.getfield 24, 3) := by decide +kernel
theorem d_T_wrap_157 : decode b_T_wrap 157 = .ok (.iload_n 1, 1) := by decide +kernel
theorem d_T_wrap_158 : decode b_T_wrap 158 = .ok (.iconst (-1), 1) := by decide +kernel
theorem d_T_wrap_159 : decode b_T_wrap 159 = .ok (.iastore, 1) := by decide +kernel
theorem d_T_wrap_160 : decode b_T_wrap 160 = .ok (.aload_n 0, 1) := by decide +kernel
theorem d_T_wrap_161 : decode b_T_wrap 161 = .ok (.dup, 1) := by decide +kernel
theorem d_T_wrap_162 : decode b_T_wrap 162 = .ok (.getfield 27, 3) := by decide +kernel
theorem d_T_wrap_165 : decode b_T_wrap 165 = .ok (.iconst 1, 1) := by decide +kernel
theorem d_T_wrap_166 : decode b_T_wrap 166 = .ok (.iadd, 1) := by decide +kernel
theorem d_T_wrap_167 : decode b_T_wrap 167 = .ok (.putfield 27, 3) := by decide +kernel
theorem d_T_wrap_170 : decode b_T_wrap 170 = .ok (.return_, 1) := by decide +kernel
abbrev b_T_turnInto : ByteArray := prog_5_method_6_code
def y_T_turnInto : MethodName := ⟨"NetText$Tree", "turnInto", "(II)V"⟩
abbrev w_T_turnInto : List Cond := .code y_T_turnInto b_T_turnInto 3 none :: lw_gt
theorem d_T_turnInto_0 : decode b_T_turnInto 0 = .ok (.aload_n 0, 1) := by decide +kernel
theorem d_T_turnInto_1 : decode b_T_turnInto 1 = .ok (.iload_n 1, 1) := by decide +kernel
theorem d_T_turnInto_2 : decode b_T_turnInto 2 = .ok (.invokevirtual 37, 3) := by decide +kernel
theorem d_T_turnInto_5 : decode b_T_turnInto 5 = .ok (.ifCond .eq 10, 3) := by decide +kernel
theorem d_T_turnInto_8 : decode b_T_turnInto 8 = .ok (.aload_n 0, 1) := by decide +kernel
theorem d_T_turnInto_9 : decode b_T_turnInto 9 = .ok (.getfield 9, 3) := by decide +kernel
theorem d_T_turnInto_12 : decode b_T_turnInto 12 = .ok (.iload_n 1, 1) := by decide +kernel
theorem d_T_turnInto_13 : decode b_T_turnInto 13 = .ok (.iload_n 2, 1) := by decide +kernel
theorem d_T_turnInto_14 : decode b_T_turnInto 14 = .ok (.iastore, 1) := by decide +kernel
theorem d_T_turnInto_15 : decode b_T_turnInto 15 = .ok (.return_, 1) := by decide +kernel
abbrev b_T_setDepth : ByteArray := prog_5_method_7_code
def y_T_setDepth : MethodName := ⟨"NetText$Tree", "setDepth", "(II)V"⟩
abbrev w_T_setDepth : List Cond := .code y_T_setDepth b_T_setDepth 3 none :: lw_gt
theorem d_T_setDepth_0 : decode b_T_setDepth 0 = .ok (.aload_n 0, 1) := by decide +kernel
theorem d_T_setDepth_1 : decode b_T_setDepth 1 = .ok (.iload_n 1, 1) := by decide +kernel
theorem d_T_setDepth_2 : decode b_T_setDepth 2 = .ok (.invokevirtual 37, 3) := by decide +kernel
theorem d_T_setDepth_5 : decode b_T_setDepth 5 = .ok (.ifCond .eq 10, 3) := by decide +kernel
theorem d_T_setDepth_8 : decode b_T_setDepth 8 = .ok (.aload_n 0, 1) := by decide +kernel
theorem d_T_setDepth_9 : decode b_T_setDepth 9 = .ok (.getfield 24, 3) := by decide +kernel
theorem d_T_setDepth_12 : decode b_T_setDepth 12 = .ok (.iload_n 1, 1) := by decide +kernel
theorem d_T_setDepth_13 : decode b_T_setDepth 13 = .ok (.iload_n 2, 1) := by decide +kernel
theorem d_T_setDepth_14 : decode b_T_setDepth 14 = .ok (.iastore, 1) := by decide +kernel
theorem d_T_setDepth_15 : decode b_T_setDepth 15 = .ok (.return_, 1) := by decide +kernel
abbrev b_T_nameWord : ByteArray := prog_5_method_8_code
def y_T_nameWord : MethodName := ⟨"NetText$Tree", "nameWord", "(I)I"⟩
abbrev w_T_nameWord : List Cond := .code y_T_nameWord b_T_nameWord 2 (some .int) :: lw_gt
theorem d_T_nameWord_0 : decode b_T_nameWord 0 = .ok (.aload_n 0, 1) := by decide +kernel
theorem d_T_nameWord_1 : decode b_T_nameWord 1 = .ok (.iload_n 1, 1) := by decide +kernel
theorem d_T_nameWord_2 : decode b_T_nameWord 2 = .ok (.invokevirtual 37, 3) := by decide +kernel
theorem d_T_nameWord_5 : decode b_T_nameWord 5 = .ok (.ifCond .ne 5, 3) := by decide +kernel
theorem d_T_nameWord_8 : decode b_T_nameWord 8 = .ok (.iconst (-1), 1) := by decide +kernel
theorem d_T_nameWord_9 : decode b_T_nameWord 9 = .ok (.ireturn, 1) := by decide +kernel
theorem d_T_nameWord_10 : decode b_T_nameWord 10 = .ok (.aload_n 0, 1) := by decide +kernel
theorem d_T_nameWord_11 : decode b_T_nameWord 11 = .ok (.getfield 9, 3) := by decide +kernel
theorem d_T_nameWord_14 : decode b_T_nameWord 14 = .ok (.iload_n 1, 1) := by decide +kernel
theorem d_T_nameWord_15 : decode b_T_nameWord 15 = .ok (.iaload, 1) := by decide +kernel
theorem d_T_nameWord_16 : decode b_T_nameWord 16 = .ok (.lookupswitch 60 #[(5, 51), (14, 44), (15, 44), (20, 44)], 44) := by decide +kernel
theorem d_T_nameWord_60 : decode b_T_nameWord 60 = .ok (.aload_n 0, 1) := by decide +kernel
theorem d_T_nameWord_61 : decode b_T_nameWord 61 = .ok (.getfield 15, 3) := by decide +kernel
theorem d_T_nameWord_64 : decode b_T_nameWord 64 = .ok (.iload_n 1, 1) := by decide +kernel
theorem d_T_nameWord_65 : decode b_T_nameWord 65 = .ok (.iaload, 1) := by decide +kernel
theorem d_T_nameWord_66 : decode b_T_nameWord 66 = .ok (.ireturn, 1) := by decide +kernel
theorem d_T_nameWord_67 : decode b_T_nameWord 67 = .ok (.aload_n 0, 1) := by decide +kernel
theorem d_T_nameWord_68 : decode b_T_nameWord 68 = .ok (.getfield 15, 3) := by decide +kernel
theorem d_T_nameWord_71 : decode b_T_nameWord 71 = .ok (.iload_n 1, 1) := by decide +kernel
theorem d_T_nameWord_72 : decode b_T_nameWord 72 = .ok (.iaload, 1) := by decide +kernel
theorem d_T_nameWord_73 : decode b_T_nameWord 73 = .ok (.iconst 1, 1) := by decide +kernel
theorem d_T_nameWord_74 : decode b_T_nameWord 74 = .ok (.iadd, 1) := by decide +kernel
theorem d_T_nameWord_75 : decode b_T_nameWord 75 = .ok (.ireturn, 1) := by decide +kernel
theorem d_T_nameWord_76 : decode b_T_nameWord 76 = .ok (.iconst (-1), 1) := by decide +kernel
theorem d_T_nameWord_77 : decode b_T_nameWord 77 = .ok (.ireturn, 1) := by decide +kernel
abbrev b_T_numberWord : ByteArray := prog_5_method_9_code
def y_T_numberWord : MethodName := ⟨"NetText$Tree", "numberWord", "(I)I"⟩
abbrev w_T_numberWord : List Cond := .code y_T_numberWord b_T_numberWord 2 (some .int) :: lw_gt
theorem d_T_numberWord_0 : decode b_T_numberWord 0 = .ok (.aload_n 0, 1) := by decide +kernel
theorem d_T_numberWord_1 : decode b_T_numberWord 1 = .ok (.iload_n 1, 1) := by decide +kernel
theorem d_T_numberWord_2 : decode b_T_numberWord 2 = .ok (.invokevirtual 37, 3) := by decide +kernel
theorem d_T_numberWord_5 : decode b_T_numberWord 5 = .ok (.ifCond .ne 5, 3) := by decide +kernel
theorem d_T_numberWord_8 : decode b_T_numberWord 8 = .ok (.iconst (-1), 1) := by decide +kernel
theorem d_T_numberWord_9 : decode b_T_numberWord 9 = .ok (.ireturn, 1) := by decide +kernel
theorem d_T_numberWord_10 : decode b_T_numberWord 10 = .ok (.aload_n 0, 1) := by decide +kernel
theorem d_T_numberWord_11 : decode b_T_numberWord 11 = .ok (.getfield 9, 3) := by decide +kernel
theorem d_T_numberWord_14 : decode b_T_numberWord 14 = .ok (.iload_n 1, 1) := by decide +kernel
theorem d_T_numberWord_15 : decode b_T_numberWord 15 = .ok (.iaload, 1) := by decide +kernel
theorem d_T_numberWord_16 : decode b_T_numberWord 16 = .ok (.lookupswitch 44 #[(14, 35), (16, 28)], 28) := by decide +kernel
theorem d_T_numberWord_44 : decode b_T_numberWord 44 = .ok (.aload_n 0, 1) := by decide +kernel
theorem d_T_numberWord_45 : decode b_T_numberWord 45 = .ok (.getfield 15, 3) := by decide +kernel
theorem d_T_numberWord_48 : decode b_T_numberWord 48 = .ok (.iload_n 1, 1) := by decide +kernel
theorem d_T_numberWord_49 : decode b_T_numberWord 49 = .ok (.iaload, 1) := by decide +kernel
theorem d_T_numberWord_50 : decode b_T_numberWord 50 = .ok (.ireturn, 1) := by decide +kernel
theorem d_T_numberWord_51 : decode b_T_numberWord 51 = .ok (.aload_n 0, 1) := by decide +kernel
theorem d_T_numberWord_52 : decode b_T_numberWord 52 = .ok (.getfield 15, 3) := by decide +kernel
theorem d_T_numberWord_55 : decode b_T_numberWord 55 = .ok (.iload_n 1, 1) := by decide +kernel
theorem d_T_numberWord_56 : decode b_T_numberWord 56 = .ok (.iaload, 1) := by decide +kernel
theorem d_T_numberWord_57 : decode b_T_numberWord 57 = .ok (.iconst 2, 1) := by decide +kernel
theorem d_T_numberWord_58 : decode b_T_numberWord 58 = .ok (.iadd, 1) := by decide +kernel
theorem d_T_numberWord_59 : decode b_T_numberWord 59 = .ok (.ireturn, 1) := by decide +kernel
theorem d_T_numberWord_60 : decode b_T_numberWord 60 = .ok (.iconst (-1), 1) := by decide +kernel
theorem d_T_numberWord_61 : decode b_T_numberWord 61 = .ok (.ireturn, 1) := by decide +kernel
def vc_T_holds  (cn : Int32) (x1 : Int32) (K_ : Int32 → Prop) : Prop :=
  ((x1 < 0 → (K_ 0)) ∧ (¬ x1 < 0 → ((cn ≤ x1 → (K_ 0)) ∧ (¬ cn ≤ x1 → (K_ 1)))))
set_option maxHeartbeats 4000000 in
set_option maxRecDepth 100000 in
theorem met_T_holds {l : Launch} {dd : va_G} {cB cI cL cS : ClassId}  {oT : Nat} {aK : Nat} {aF : Nat} {aP : Nat} {aS : Nat} {aD : Nat}  {cn : Int32} {x1 : Int32} {K_ : Int32 → Prop}  (hv : vc_T_holds  cn x1 K_) : CtR l y_T_holds w_T_holds (rmk 0 0 0) dd cls5 [(cB, .byte), (cI, .int), (cL, .long), (cS, .object "java/lang/String")] X0 [(oT, .inr (2, [.ref aK, .ref aF, .ref aP, .ref aS, .ref aD, .int cn]))] [.ref oT, .int x1] (qR K_) := by
  refine m_ofR (cc := b_T_holds) (nL := 2) (ret := (some .boolean)) (by decide) rfl (Nat.le_of_ble_eq_true rfl) ?_
  intro p e s m below meth c ls ar Fx_ hP hK hX hl
  obtain ⟨hx, hb, hml, hr, hlocks, hown, hts, hinn⟩ := Fx_
  have hl : lv_has ls 2 [(0, .ref oT), (1, .int x1)] := hl
  unfold vc_T_holds at hv
  refine lv_iload_n hx hb d_T_holds_0 rfl (lv_at hl 1 rfl) ?_
  refine lv_if_lt (tgt := 16) hx hb d_T_holds_1 (by decide) (fun b_1 => ?_) (fun b_1 => ?_)
  · have hv := hv.1 b_1
    refine lv_iconst (v := 0) hx hb d_T_holds_16 (by decide) ?_
    exact rr_z hx hb hr narrow_b0 hlocks 0 hv d_T_holds_17
  · have hv := hv.2 b_1
    refine lv_iload_n hx hb d_T_holds_4 rfl (lv_at hl 1 rfl) ?_
    refine lv_aload_n hx hb d_T_holds_5 rfl (lv_at hl 0 rfl) ?_
    refine va_get (D := dd) (ci := 2) (C := Rc_T) (T := Fc_T) (N := 6) (v := .int cn) hx hb hts (inn in_T) hown hK hP 0 rfl rfl 5 (by decide) (hts (.fieldLink "NetText$Tree" 27 "NetText$Tree" "count" "I") (tg at_73)) (fun _ h9 => h9) rfl d_T_holds_6 ?_
    refine lv_icmp_ge (tgt := 16) hx hb d_T_holds_9 (by decide) (fun b_2 => ?_) (fun b_2 => ?_)
    · have hv := hv.1 b_2
      refine lv_iconst (v := 0) hx hb d_T_holds_16 (by decide) ?_
      exact rr_z hx hb hr narrow_b0 hlocks 0 hv d_T_holds_17
    · have hv := hv.2 b_2
      refine lv_iconst (v := 1) hx hb d_T_holds_12 (by decide) ?_
      refine lv_goto (tgt := 17) hx hb d_T_holds_13 (by decide) ?_
      exact rr_z hx hb hr narrow_b1 hlocks 1 hv d_T_holds_17
def vc_T_add  (nT : Nat) (cn : Int32) (K : FN) (F : FN) (Pa : FN) (Sg : FN) (Dp : FN) (x1 : Int32) (x2 : Int32) (x3 : Int32) (x4 : Int32) (K_ : KTi) : Prop :=
  ((cn < (nI nT) → (vp_in cn nT ∧ (vp_in cn nT ∧ (vp_in cn nT ∧ (vp_in cn nT ∧ (vp_in cn nT ∧ (K_ ((cn + 1) - 1) (cn + 1) (upd K cn.toNatClampNeg x1) (upd F cn.toNatClampNeg x2) (upd Pa cn.toNatClampNeg x3) (upd Sg cn.toNatClampNeg x4) (upd Dp cn.toNatClampNeg (-1))))))))) ∧ (¬ cn < (nI nT) → (K_ (-1) cn K F Pa Sg Dp)))
set_option maxHeartbeats 4000000 in
set_option maxRecDepth 100000 in
theorem met_T_add {l : Launch} {dd : va_G} {cB cI cL cS : ClassId}  {oT : Nat} {aK : Nat} {aF : Nat} {aP : Nat} {aS : Nat} {aD : Nat}  {nT : Nat} {cn : Int32} {K : FN} {F : FN} {Pa : FN} {Sg : FN} {Dp : FN} {x1 : Int32} {x2 : Int32} {x3 : Int32} {x4 : Int32} {K_ : KTi}  (hv : vc_T_add  nT cn K F Pa Sg Dp x1 x2 x3 x4 K_) : Ct l y_T_add w_T_add (rmk 0 0 0) dd cls5 [(cB, .byte), (cI, .int), (cL, .long), (cS, .object "java/lang/String")] X0 [(oT, .inr (2, [.ref aK, .ref aF, .ref aP, .ref aS, .ref aD, .int cn])), (aK, .inl (cI, nT, .inl K)), (aF, .inl (cI, nT, .inl F)), (aP, .inl (cI, nT, .inl Pa)), (aS, .inl (cI, nT, .inl Sg)), (aD, .inl (cI, nT, .inl Dp))] [.ref oT, .int x1, .int x2, .int x3, .int x4] (qi dd cls5 [(cB, .byte), (cI, .int), (cL, .long), (cS, .object "java/lang/String")] (fun u_ : Int32 × FN × FN × FN × FN × FN => [(oT, .inr (2, [.ref aK, .ref aF, .ref aP, .ref aS, .ref aD, .int u_.1])), (aK, .inl (cI, nT, .inl u_.2.1)), (aF, .inl (cI, nT, .inl u_.2.2.1)), (aP, .inl (cI, nT, .inl u_.2.2.2.1)), (aS, .inl (cI, nT, .inl u_.2.2.2.2.1)), (aD, .inl (cI, nT, .inl u_.2.2.2.2.2))]) (fun r_ u_ => K_ r_ u_.1 u_.2.1 u_.2.2.1 u_.2.2.2.1 u_.2.2.2.2.1 u_.2.2.2.2.2)) 0 0 := by
  refine m_of (cc := b_T_add) (nL := 5) (ret := (some .int)) (by decide) rfl (Nat.le_of_ble_eq_true rfl) ?_
  intro p e s m below meth c ls A ar Fx_ hA hP hK hD hS hX hl
  obtain ⟨hx, hb, hml, hr, hlocks, hown, hts, hinn⟩ := Fx_
  generalize hQ : MQ below ((qi dd cls5 [(cB, .byte), (cI, .int), (cL, .long), (cS, .object "java/lang/String")] (fun u_ : Int32 × FN × FN × FN × FN × FN => [(oT, .inr (2, [.ref aK, .ref aF, .ref aP, .ref aS, .ref aD, .int u_.1])), (aK, .inl (cI, nT, .inl u_.2.1)), (aF, .inl (cI, nT, .inl u_.2.2.1)), (aP, .inl (cI, nT, .inl u_.2.2.2.1)), (aS, .inl (cI, nT, .inl u_.2.2.2.2.1)), (aD, .inl (cI, nT, .inl u_.2.2.2.2.2))]) (fun r_ u_ => K_ r_ u_.1 u_.2.1 u_.2.2.1 u_.2.2.2.1 u_.2.2.2.2.1 u_.2.2.2.2.2)) A) ar s 0 0 A = QQ
  have hl : lv_has ls 5 [(0, .ref oT), (1, .int x1), (2, .int x2), (3, .int x3), (4, .int x4)] := hl
  unfold vc_T_add at hv
  refine lv_aload_n hx hb d_T_add_0 rfl (lv_at hl 0 rfl) ?_
  refine va_get (D := dd) (ci := 2) (C := Rc_T) (T := Fc_T) (N := 6) (v := .int cn) hx hb hts (inn in_T) hown hK hP 0 rfl rfl 5 (by decide) (hts (.fieldLink "NetText$Tree" 27 "NetText$Tree" "count" "I") (tg at_73)) (fun _ h9 => h9) rfl d_T_add_1 ?_
  refine lv_aload_n hx hb d_T_add_4 rfl (lv_at hl 0 rfl) ?_
  refine va_get (D := dd) (ci := 2) (C := Rc_T) (T := Fc_T) (N := 6) (v := .ref aK) hx hb hts (inn in_T) hown hK hP 0 rfl rfl 0 (by decide) (hts (.fieldLink "NetText$Tree" 9 "NetText$Tree" "kinds" "[I") (tg at_63)) (fun _ h9 => h9) rfl d_T_add_5 ?_
  refine va_alen (v := nI nT) hx hb hK hP 1 1 rfl rfl rfl d_T_add_8 ?_
  refine lv_icmp_lt (tgt := 14) hx hb d_T_add_9 (by decide) (fun b_1 => ?_) (fun b_1 => ?_)
  · have hv := hv.1 b_1
    refine lv_aload_n hx hb d_T_add_14 rfl (lv_at hl 0 rfl) ?_
    refine va_get (D := dd) (ci := 2) (C := Rc_T) (T := Fc_T) (N := 6) (v := .ref aK) hx hb hts (inn in_T) hown hK hP 0 rfl rfl 0 (by decide) (hts (.fieldLink "NetText$Tree" 9 "NetText$Tree" "kinds" "[I") (tg at_63)) (fun _ h9 => h9) rfl d_T_add_15 ?_
    refine lv_aload_n hx hb d_T_add_18 rfl (lv_at hl 0 rfl) ?_
    refine va_get (D := dd) (ci := 2) (C := Rc_T) (T := Fc_T) (N := 6) (v := .int cn) hx hb hts (inn in_T) hown hK hP 0 rfl rfl 5 (by decide) (hts (.fieldLink "NetText$Tree" 27 "NetText$Tree" "count" "I") (tg at_73)) (fun _ h9 => h9) rfl d_T_add_19 ?_
    refine lv_iload_n hx hb d_T_add_22 rfl (lv_at hl 1 rfl) ?_
    obtain ⟨h_2, hv⟩ := hv
    refine va_iast hx hb hK hP hD hS 1 1 rfl rfl h_2 d_T_add_23 (fun H locs hP hD hS => ?_)
    have hP : va_P dd cls5 [(oT, .inr (2, [.ref aK, .ref aF, .ref aP, .ref aS, .ref aD, .int cn])), (aK, .inl (cI, nT, .inl (upd K cn.toNatClampNeg x1))), (aF, .inl (cI, nT, .inl F)), (aP, .inl (cI, nT, .inl Pa)), (aS, .inl (cI, nT, .inl Sg)), (aD, .inl (cI, nT, .inl Dp))] H := hP
    have hD : va_D A [(oT, .inr (2, [.ref aK, .ref aF, .ref aP, .ref aS, .ref aD, .int cn])), (aK, .inl (cI, nT, .inl (upd K cn.toNatClampNeg x1))), (aF, .inl (cI, nT, .inl F)), (aP, .inl (cI, nT, .inl Pa)), (aS, .inl (cI, nT, .inl Sg)), (aD, .inl (cI, nT, .inl Dp))] := hD
    refine lv_aload_n hx hb d_T_add_24 rfl (lv_at hl 0 rfl) ?_
    refine va_get (D := dd) (ci := 2) (C := Rc_T) (T := Fc_T) (N := 6) (v := .ref aF) hx hb hts (inn in_T) hown hK hP 0 rfl rfl 1 (by decide) (hts (.fieldLink "NetText$Tree" 15 "NetText$Tree" "firstWords" "[I") (tg at_65)) (fun _ h9 => h9) rfl d_T_add_25 ?_
    refine lv_aload_n hx hb d_T_add_28 rfl (lv_at hl 0 rfl) ?_
    refine va_get (D := dd) (ci := 2) (C := Rc_T) (T := Fc_T) (N := 6) (v := .int cn) hx hb hts (inn in_T) hown hK hP 0 rfl rfl 5 (by decide) (hts (.fieldLink "NetText$Tree" 27 "NetText$Tree" "count" "I") (tg at_73)) (fun _ h9 => h9) rfl d_T_add_29 ?_
    refine lv_iload_n hx hb d_T_add_32 rfl (lv_at hl 2 rfl) ?_
    obtain ⟨h_3, hv⟩ := hv
    refine va_iast hx hb hK hP hD hS 2 1 rfl rfl h_3 d_T_add_33 (fun H locs hP hD hS => ?_)
    have hP : va_P dd cls5 [(oT, .inr (2, [.ref aK, .ref aF, .ref aP, .ref aS, .ref aD, .int cn])), (aK, .inl (cI, nT, .inl (upd K cn.toNatClampNeg x1))), (aF, .inl (cI, nT, .inl (upd F cn.toNatClampNeg x2))), (aP, .inl (cI, nT, .inl Pa)), (aS, .inl (cI, nT, .inl Sg)), (aD, .inl (cI, nT, .inl Dp))] H := hP
    have hD : va_D A [(oT, .inr (2, [.ref aK, .ref aF, .ref aP, .ref aS, .ref aD, .int cn])), (aK, .inl (cI, nT, .inl (upd K cn.toNatClampNeg x1))), (aF, .inl (cI, nT, .inl (upd F cn.toNatClampNeg x2))), (aP, .inl (cI, nT, .inl Pa)), (aS, .inl (cI, nT, .inl Sg)), (aD, .inl (cI, nT, .inl Dp))] := hD
    refine lv_aload_n hx hb d_T_add_34 rfl (lv_at hl 0 rfl) ?_
    refine va_get (D := dd) (ci := 2) (C := Rc_T) (T := Fc_T) (N := 6) (v := .ref aP) hx hb hts (inn in_T) hown hK hP 0 rfl rfl 2 (by decide) (hts (.fieldLink "NetText$Tree" 18 "NetText$Tree" "parents" "[I") (tg at_67)) (fun _ h9 => h9) rfl d_T_add_35 ?_
    refine lv_aload_n hx hb d_T_add_38 rfl (lv_at hl 0 rfl) ?_
    refine va_get (D := dd) (ci := 2) (C := Rc_T) (T := Fc_T) (N := 6) (v := .int cn) hx hb hts (inn in_T) hown hK hP 0 rfl rfl 5 (by decide) (hts (.fieldLink "NetText$Tree" 27 "NetText$Tree" "count" "I") (tg at_73)) (fun _ h9 => h9) rfl d_T_add_39 ?_
    refine lv_iload_n hx hb d_T_add_42 rfl (lv_at hl 3 rfl) ?_
    obtain ⟨h_4, hv⟩ := hv
    refine va_iast hx hb hK hP hD hS 3 1 rfl rfl h_4 d_T_add_43 (fun H locs hP hD hS => ?_)
    have hP : va_P dd cls5 [(oT, .inr (2, [.ref aK, .ref aF, .ref aP, .ref aS, .ref aD, .int cn])), (aK, .inl (cI, nT, .inl (upd K cn.toNatClampNeg x1))), (aF, .inl (cI, nT, .inl (upd F cn.toNatClampNeg x2))), (aP, .inl (cI, nT, .inl (upd Pa cn.toNatClampNeg x3))), (aS, .inl (cI, nT, .inl Sg)), (aD, .inl (cI, nT, .inl Dp))] H := hP
    have hD : va_D A [(oT, .inr (2, [.ref aK, .ref aF, .ref aP, .ref aS, .ref aD, .int cn])), (aK, .inl (cI, nT, .inl (upd K cn.toNatClampNeg x1))), (aF, .inl (cI, nT, .inl (upd F cn.toNatClampNeg x2))), (aP, .inl (cI, nT, .inl (upd Pa cn.toNatClampNeg x3))), (aS, .inl (cI, nT, .inl Sg)), (aD, .inl (cI, nT, .inl Dp))] := hD
    refine lv_aload_n hx hb d_T_add_44 rfl (lv_at hl 0 rfl) ?_
    refine va_get (D := dd) (ci := 2) (C := Rc_T) (T := Fc_T) (N := 6) (v := .ref aS) hx hb hts (inn in_T) hown hK hP 0 rfl rfl 3 (by decide) (hts (.fieldLink "NetText$Tree" 21 "NetText$Tree" "signs" "[I") (tg at_69)) (fun _ h9 => h9) rfl d_T_add_45 ?_
    refine lv_aload_n hx hb d_T_add_48 rfl (lv_at hl 0 rfl) ?_
    refine va_get (D := dd) (ci := 2) (C := Rc_T) (T := Fc_T) (N := 6) (v := .int cn) hx hb hts (inn in_T) hown hK hP 0 rfl rfl 5 (by decide) (hts (.fieldLink "NetText$Tree" 27 "NetText$Tree" "count" "I") (tg at_73)) (fun _ h9 => h9) rfl d_T_add_49 ?_
    refine lv_iload hx hb d_T_add_52 (lv_at hl 4 rfl) ?_
    obtain ⟨h_5, hv⟩ := hv
    refine va_iast hx hb hK hP hD hS 4 1 rfl rfl h_5 d_T_add_54 (fun H locs hP hD hS => ?_)
    have hP : va_P dd cls5 [(oT, .inr (2, [.ref aK, .ref aF, .ref aP, .ref aS, .ref aD, .int cn])), (aK, .inl (cI, nT, .inl (upd K cn.toNatClampNeg x1))), (aF, .inl (cI, nT, .inl (upd F cn.toNatClampNeg x2))), (aP, .inl (cI, nT, .inl (upd Pa cn.toNatClampNeg x3))), (aS, .inl (cI, nT, .inl (upd Sg cn.toNatClampNeg x4))), (aD, .inl (cI, nT, .inl Dp))] H := hP
    have hD : va_D A [(oT, .inr (2, [.ref aK, .ref aF, .ref aP, .ref aS, .ref aD, .int cn])), (aK, .inl (cI, nT, .inl (upd K cn.toNatClampNeg x1))), (aF, .inl (cI, nT, .inl (upd F cn.toNatClampNeg x2))), (aP, .inl (cI, nT, .inl (upd Pa cn.toNatClampNeg x3))), (aS, .inl (cI, nT, .inl (upd Sg cn.toNatClampNeg x4))), (aD, .inl (cI, nT, .inl Dp))] := hD
    refine lv_aload_n hx hb d_T_add_55 rfl (lv_at hl 0 rfl) ?_
    refine va_get (D := dd) (ci := 2) (C := Rc_T) (T := Fc_T) (N := 6) (v := .ref aD) hx hb hts (inn in_T) hown hK hP 0 rfl rfl 4 (by decide) (hts (.fieldLink "NetText$Tree" 24 "NetText$Tree" "depths" "[I") (tg at_71)) (fun _ h9 => h9) rfl d_T_add_56 ?_
    refine lv_aload_n hx hb d_T_add_59 rfl (lv_at hl 0 rfl) ?_
    refine va_get (D := dd) (ci := 2) (C := Rc_T) (T := Fc_T) (N := 6) (v := .int cn) hx hb hts (inn in_T) hown hK hP 0 rfl rfl 5 (by decide) (hts (.fieldLink "NetText$Tree" 27 "NetText$Tree" "count" "I") (tg at_73)) (fun _ h9 => h9) rfl d_T_add_60 ?_
    refine lv_iconst (v := (-1)) hx hb d_T_add_63 (by decide) ?_
    obtain ⟨h_6, hv⟩ := hv
    refine va_iast hx hb hK hP hD hS 5 1 rfl rfl h_6 d_T_add_64 (fun H locs hP hD hS => ?_)
    have hP : va_P dd cls5 [(oT, .inr (2, [.ref aK, .ref aF, .ref aP, .ref aS, .ref aD, .int cn])), (aK, .inl (cI, nT, .inl (upd K cn.toNatClampNeg x1))), (aF, .inl (cI, nT, .inl (upd F cn.toNatClampNeg x2))), (aP, .inl (cI, nT, .inl (upd Pa cn.toNatClampNeg x3))), (aS, .inl (cI, nT, .inl (upd Sg cn.toNatClampNeg x4))), (aD, .inl (cI, nT, .inl (upd Dp cn.toNatClampNeg (-1))))] H := hP
    have hD : va_D A [(oT, .inr (2, [.ref aK, .ref aF, .ref aP, .ref aS, .ref aD, .int cn])), (aK, .inl (cI, nT, .inl (upd K cn.toNatClampNeg x1))), (aF, .inl (cI, nT, .inl (upd F cn.toNatClampNeg x2))), (aP, .inl (cI, nT, .inl (upd Pa cn.toNatClampNeg x3))), (aS, .inl (cI, nT, .inl (upd Sg cn.toNatClampNeg x4))), (aD, .inl (cI, nT, .inl (upd Dp cn.toNatClampNeg (-1))))] := hD
    refine lv_aload_n hx hb d_T_add_65 rfl (lv_at hl 0 rfl) ?_
    refine lv_dup hx hb d_T_add_66 rfl ?_
    refine va_get (D := dd) (ci := 2) (C := Rc_T) (T := Fc_T) (N := 6) (v := .int cn) hx hb hts (inn in_T) hown hK hP 0 rfl rfl 5 (by decide) (hts (.fieldLink "NetText$Tree" 27 "NetText$Tree" "count" "I") (tg at_73)) (fun _ h9 => h9) rfl d_T_add_67 ?_
    refine lv_iconst (v := 1) hx hb d_T_add_70 (by decide) ?_
    refine lv_iadd hx hb d_T_add_71 ?_
    refine va_put (D := dd) (ci := 2) (C := Rc_T) (T := Fc_T) (N := 6) (v := .int (cn + 1)) (ty := .int) hx hb hts (inn in_T) tyf_T tyf_T_ok nmf_T hown hK hP hD hS 0 rfl rfl 5 (by decide) (hts (.fieldLink "NetText$Tree" 27 "NetText$Tree" "count" "I") (tg at_73)) (fun _ h9 => h9) rfl (by decide +kernel) rfl rfl (Nat.le_of_ble_eq_true rfl) d_T_add_72 (fun H locs hP hD hS => ?_)
    have hP : va_P dd cls5 [(oT, .inr (2, [.ref aK, .ref aF, .ref aP, .ref aS, .ref aD, .int (cn + 1)])), (aK, .inl (cI, nT, .inl (upd K cn.toNatClampNeg x1))), (aF, .inl (cI, nT, .inl (upd F cn.toNatClampNeg x2))), (aP, .inl (cI, nT, .inl (upd Pa cn.toNatClampNeg x3))), (aS, .inl (cI, nT, .inl (upd Sg cn.toNatClampNeg x4))), (aD, .inl (cI, nT, .inl (upd Dp cn.toNatClampNeg (-1))))] H := hP
    have hD : va_D A [(oT, .inr (2, [.ref aK, .ref aF, .ref aP, .ref aS, .ref aD, .int (cn + 1)])), (aK, .inl (cI, nT, .inl (upd K cn.toNatClampNeg x1))), (aF, .inl (cI, nT, .inl (upd F cn.toNatClampNeg x2))), (aP, .inl (cI, nT, .inl (upd Pa cn.toNatClampNeg x3))), (aS, .inl (cI, nT, .inl (upd Sg cn.toNatClampNeg x4))), (aD, .inl (cI, nT, .inl (upd Dp cn.toNatClampNeg (-1))))] := hD
    refine lv_aload_n hx hb d_T_add_75 rfl (lv_at hl 0 rfl) ?_
    refine va_get (D := dd) (ci := 2) (C := Rc_T) (T := Fc_T) (N := 6) (v := .int (cn + 1)) hx hb hts (inn in_T) hown hK hP 0 rfl rfl 5 (by decide) (hts (.fieldLink "NetText$Tree" 27 "NetText$Tree" "count" "I") (tg at_73)) (fun _ h9 => h9) rfl d_T_add_76 ?_
    refine lv_iconst (v := 1) hx hb d_T_add_79 (by decide) ?_
    refine lv_isub hx hb d_T_add_80 ?_
    subst hQ
    exact r_i hx hb hr hlocks ((cn + 1) - 1) ((cn + 1), (upd K cn.toNatClampNeg x1), (upd F cn.toNatClampNeg x2), (upd Pa cn.toNatClampNeg x3), (upd Sg cn.toNatClampNeg x4), (upd Dp cn.toNatClampNeg (-1))) hv (hP.sub [0, 1, 2, 3, 4, 5] rfl) hK (hD.sub [0, 1, 2, 3, 4, 5] (by decide) rfl) hS (Nat.le_refl _) (Nat.le_refl _) d_T_add_81
  · have hv := hv.2 b_1
    refine lv_iconst (v := (-1)) hx hb d_T_add_12 (by decide) ?_
    subst hQ
    exact r_i hx hb hr hlocks (-1) (cn, K, F, Pa, Sg, Dp) hv (hP.sub [0, 1, 2, 3, 4, 5] rfl) hK (hD.sub [0, 1, 2, 3, 4, 5] (by decide) rfl) hS (Nat.le_refl _) (Nat.le_refl _) d_T_add_13
def vl_T_wrap_27  (nT : Nat) (cn : Int32) (K : FN) (F : FN) (Pa : FN) (Sg : FN) (Dp : FN) (x1 : Int32) (x2 : Int32) (x3 : Int32)  (K_ : KT) : Nat → Int32 → Int32 → FN → FN → FN → FN → FN → Prop
  | 0 => fun _ _ _ _ _ _ _ => False
  | n_ + 1 => fun x4_h27 cn_h27 K_h27 F_h27 Pa_h27 Sg_h27 Dp_h27 =>
  ((x4_h27 ≤ x1 → (vp_in (x1 + 1) nT ∧ (vp_in (x1 + 1) nT ∧ (vp_in x1 nT ∧ (vp_in x1 nT ∧ (vp_in x1 nT ∧ (K_ (cn_h27 + 1) (upd K_h27 x1.toNatClampNeg x2) (upd F_h27 x1.toNatClampNeg x3) (upd Pa_h27 (x1 + 1).toNatClampNeg x1) (upd Sg_h27 (x1 + 1).toNatClampNeg 0) (upd Dp_h27 x1.toNatClampNeg (-1))))))))) ∧ (¬ x4_h27 ≤ x1 → (vp_in (x4_h27 - 1) nT ∧ (vp_in x4_h27 nT ∧ (vp_in (x4_h27 - 1) nT ∧ (vp_in x4_h27 nT ∧ (vp_in (x4_h27 - 1) nT ∧ (vp_in x4_h27 nT ∧ (vp_in (x4_h27 - 1) nT ∧ (vp_in x4_h27 nT ∧ (vp_in (x4_h27 - 1) nT ∧ (vp_in x4_h27 nT ∧ (vl_T_wrap_27 nT cn K F Pa Sg Dp x1 x2 x3  K_ n_ (x4_h27 + (-1)) cn_h27 (upd K_h27 x4_h27.toNatClampNeg (K_h27 (x4_h27 - 1).toNatClampNeg)) (upd F_h27 x4_h27.toNatClampNeg (F_h27 (x4_h27 - 1).toNatClampNeg)) (upd Pa_h27 x4_h27.toNatClampNeg ((Pa_h27 (x4_h27 - 1).toNatClampNeg) + 1)) (upd Sg_h27 x4_h27.toNatClampNeg (Sg_h27 (x4_h27 - 1).toNatClampNeg)) (upd Dp_h27 x4_h27.toNatClampNeg (Dp_h27 (x4_h27 - 1).toNatClampNeg)))))))))))))))
def vc_T_wrap  (nT : Nat) (cn : Int32) (K : FN) (F : FN) (Pa : FN) (Sg : FN) (Dp : FN) (x1 : Int32) (x2 : Int32) (x3 : Int32) (K_ : KT) : Prop :=
  (vc_T_holds cn x1 (fun r_1 => ((r_1 = 0 → (K_ cn K F Pa Sg Dp)) ∧ (¬ r_1 = 0 → ((cn < (nI nT) → (∃ n_, vl_T_wrap_27 nT cn K F Pa Sg Dp x1 x2 x3 K_ n_ cn cn K F Pa Sg Dp)) ∧ (¬ cn < (nI nT) → (K_ cn K F Pa Sg Dp)))))))
set_option maxHeartbeats 4000000 in
set_option maxRecDepth 100000 in
theorem met_T_wrap {l : Launch} {dd : va_G} {cB cI cL cS : ClassId}  {oT : Nat} {aK : Nat} {aF : Nat} {aP : Nat} {aS : Nat} {aD : Nat}  {nT : Nat} {cn : Int32} {K : FN} {F : FN} {Pa : FN} {Sg : FN} {Dp : FN} {x1 : Int32} {x2 : Int32} {x3 : Int32} {K_ : KT}  (hv : vc_T_wrap  nT cn K F Pa Sg Dp x1 x2 x3 K_) : Ct l y_T_wrap w_T_wrap (rmk 1 0 0) dd cls5 [(cB, .byte), (cI, .int), (cL, .long), (cS, .object "java/lang/String")] X0 [(oT, .inr (2, [.ref aK, .ref aF, .ref aP, .ref aS, .ref aD, .int cn])), (aK, .inl (cI, nT, .inl K)), (aF, .inl (cI, nT, .inl F)), (aP, .inl (cI, nT, .inl Pa)), (aS, .inl (cI, nT, .inl Sg)), (aD, .inl (cI, nT, .inl Dp))] [.ref oT, .int x1, .int x2, .int x3] (qv dd cls5 [(cB, .byte), (cI, .int), (cL, .long), (cS, .object "java/lang/String")] (fun u_ : Int32 × FN × FN × FN × FN × FN => [(oT, .inr (2, [.ref aK, .ref aF, .ref aP, .ref aS, .ref aD, .int u_.1])), (aK, .inl (cI, nT, .inl u_.2.1)), (aF, .inl (cI, nT, .inl u_.2.2.1)), (aP, .inl (cI, nT, .inl u_.2.2.2.1)), (aS, .inl (cI, nT, .inl u_.2.2.2.2.1)), (aD, .inl (cI, nT, .inl u_.2.2.2.2.2))]) (fun u_ => K_ u_.1 u_.2.1 u_.2.2.1 u_.2.2.2.1 u_.2.2.2.2.1 u_.2.2.2.2.2)) 0 0 := by
  refine m_of (cc := b_T_wrap) (nL := 5) (ret := none) (by decide) rfl (Nat.le_of_ble_eq_true rfl) ?_
  intro p e s m below meth c ls A ar Fx_ hA hP hK hD hS hX hl
  obtain ⟨hx, hb, hml, hr, hlocks, hown, hts, hinn⟩ := Fx_
  generalize hQ : MQ below ((qv dd cls5 [(cB, .byte), (cI, .int), (cL, .long), (cS, .object "java/lang/String")] (fun u_ : Int32 × FN × FN × FN × FN × FN => [(oT, .inr (2, [.ref aK, .ref aF, .ref aP, .ref aS, .ref aD, .int u_.1])), (aK, .inl (cI, nT, .inl u_.2.1)), (aF, .inl (cI, nT, .inl u_.2.2.1)), (aP, .inl (cI, nT, .inl u_.2.2.2.1)), (aS, .inl (cI, nT, .inl u_.2.2.2.2.1)), (aD, .inl (cI, nT, .inl u_.2.2.2.2.2))]) (fun u_ => K_ u_.1 u_.2.1 u_.2.2.1 u_.2.2.2.1 u_.2.2.2.2.1 u_.2.2.2.2.2)) A) ar s 0 0 A = QQ
  have hl : lv_has ls 5 [(0, .ref oT), (1, .int x1), (2, .int x2), (3, .int x3)] := hl
  unfold vc_T_wrap at hv
  refine lv_aload_n hx hb d_T_wrap_0 rfl (lv_at hl 0 rfl) ?_
  refine lv_iload_n hx hb d_T_wrap_1 rfl (lv_at hl 1 rfl) ?_
  have hM := met_T_holds (l := l) (dd := dd) (cB := cB) (cI := cI) (cL := cL) (cS := cS) (oT := oT) (aK := aK) (aF := aF) (aP := aP) (aS := aS) (aD := aD)  hv
  refine krv_i (st := [.int x1, .ref oT]) (rest := []) ⟨hx, hb, hml, hown, hts⟩ hM (cwV 1 hts (gv (tg0 at_405) (tg0 at_406) (tg0 at_407) (tg0 at_3) (tg0 at_408)) rfl rfl rfl (by decide +kernel) (rk (by omega) (by decide))) x0b (fun _ _ _ => trivial) hP hK [0] rfl (ci := 2) rfl rfl (q0 := 0) rfl rfl hl.1 rfl (Nat.le_of_ble_eq_true rfl) d_T_wrap_2 ⟨Nat.zero_le _, Nat.zero_le _⟩ (fun r_1 hv => ?_)
  refine lv_if_eq (tgt := 20) hx hb d_T_wrap_5 (by decide) (fun b_2 => ?_) (fun b_2 => ?_)
  · have hv := hv.1 b_2
    subst hQ
    exact r_v hx hb hr hlocks  (cn, K, F, Pa, Sg, Dp) hv (hP.sub [0, 1, 2, 3, 4, 5] rfl) hK (hD.sub [0, 1, 2, 3, 4, 5] (by decide) rfl) hS (Nat.le_refl _) (Nat.le_refl _) d_T_wrap_20
  · have hv := hv.2 b_2
    refine lv_aload_n hx hb d_T_wrap_8 rfl (lv_at hl 0 rfl) ?_
    refine va_get (D := dd) (ci := 2) (C := Rc_T) (T := Fc_T) (N := 6) (v := .int cn) hx hb hts (inn in_T) hown hK hP 0 rfl rfl 5 (by decide) (hts (.fieldLink "NetText$Tree" 27 "NetText$Tree" "count" "I") (tg at_73)) (fun _ h9 => h9) rfl d_T_wrap_9 ?_
    refine lv_aload_n hx hb d_T_wrap_12 rfl (lv_at hl 0 rfl) ?_
    refine va_get (D := dd) (ci := 2) (C := Rc_T) (T := Fc_T) (N := 6) (v := .ref aK) hx hb hts (inn in_T) hown hK hP 0 rfl rfl 0 (by decide) (hts (.fieldLink "NetText$Tree" 9 "NetText$Tree" "kinds" "[I") (tg at_63)) (fun _ h9 => h9) rfl d_T_wrap_13 ?_
    refine va_alen (v := nI nT) hx hb hK hP 1 1 rfl rfl rfl d_T_wrap_16 ?_
    refine lv_icmp_lt (tgt := 21) hx hb d_T_wrap_17 (by decide) (fun b_3 => ?_) (fun b_3 => ?_)
    · have hv := hv.1 b_3
      refine lv_aload_n hx hb d_T_wrap_21 rfl (lv_at hl 0 rfl) ?_
      refine va_get (D := dd) (ci := 2) (C := Rc_T) (T := Fc_T) (N := 6) (v := .int cn) hx hb hts (inn in_T) hown hK hP 0 rfl rfl 5 (by decide) (hts (.fieldLink "NetText$Tree" 27 "NetText$Tree" "count" "I") (tg at_73)) (fun _ h9 => h9) rfl d_T_wrap_22 ?_
      refine lv_istore (lv' := [(4, .int cn), (0, .ref oT), (1, .int x1), (2, .int x2), (3, .int x3)]) hx hb d_T_wrap_25 hl (by decide) rfl (fun ls hl => ?_)
      obtain ⟨n_27, hv⟩ := hv
      have LP_27 : ∀ (n_ : Nat) (x4_h27 : Int32) (cn_h27 : Int32) (K_h27 : FN) (F_h27 : FN) (Pa_h27 : FN) (Sg_h27 : FN) (Dp_h27 : FN) (H : Heap) (locs : List Loc) (ls : Array Slot), vl_T_wrap_27 nT cn K F Pa Sg Dp x1 x2 x3 K_ n_ x4_h27 cn_h27 K_h27 F_h27 Pa_h27 Sg_h27 Dp_h27 → va_P dd cls5 [(oT, .inr (2, [.ref aK, .ref aF, .ref aP, .ref aS, .ref aD, .int cn_h27])), (aK, .inl (cI, nT, .inl K_h27)), (aF, .inl (cI, nT, .inl F_h27)), (aP, .inl (cI, nT, .inl Pa_h27)), (aS, .inl (cI, nT, .inl Sg_h27)), (aD, .inl (cI, nT, .inl Dp_h27))] H → va_D A [(oT, .inr (2, [.ref aK, .ref aF, .ref aP, .ref aS, .ref aD, .int cn_h27])), (aK, .inl (cI, nT, .inl K_h27)), (aF, .inl (cI, nT, .inl F_h27)), (aP, .inl (cI, nT, .inl Pa_h27)), (aS, .inl (cI, nT, .inl Sg_h27)), (aD, .inl (cI, nT, .inl Dp_h27))] → va_S A s.heap H locs → lv_has ls 5 [(4, .int x4_h27), (0, .ref oT), (1, .int x1), (2, .int x2), (3, .int x3)] → W p l e (rmk 1 0 0) s m ar below meth c H locs (0) (0) QQ (F0 m 27 ls []) := by
        intro n_
        induction n_ with
        | zero => intro x4_h27 cn_h27 K_h27 F_h27 Pa_h27 Sg_h27 Dp_h27 H locs ls hv; exact False.elim hv
        | succ n_ ih =>
          intro x4_h27 cn_h27 K_h27 F_h27 Pa_h27 Sg_h27 Dp_h27 H locs ls hv hP hD hS hl
          unfold vl_T_wrap_27 at hv
          refine lv_iload hx hb d_T_wrap_27 (lv_at hl 0 rfl) ?_
          refine lv_iload_n hx hb d_T_wrap_29 rfl (lv_at hl 2 rfl) ?_
          refine lv_icmp_le (tgt := 121) hx hb d_T_wrap_30 (by decide) (fun b_4 => ?_) (fun b_4 => ?_)
          · have hv := hv.1 b_4
            refine lv_aload_n hx hb d_T_wrap_121 rfl (lv_at hl 1 rfl) ?_
            refine va_get (D := dd) (ci := 2) (C := Rc_T) (T := Fc_T) (N := 6) (v := .ref aP) hx hb hts (inn in_T) hown hK hP 0 rfl rfl 2 (by decide) (hts (.fieldLink "NetText$Tree" 18 "NetText$Tree" "parents" "[I") (tg at_67)) (fun _ h9 => h9) rfl d_T_wrap_122 ?_
            refine lv_iload_n hx hb d_T_wrap_125 rfl (lv_at hl 2 rfl) ?_
            refine lv_iconst (v := 1) hx hb d_T_wrap_126 (by decide) ?_
            refine lv_iadd hx hb d_T_wrap_127 ?_
            refine lv_iload_n hx hb d_T_wrap_128 rfl (lv_at hl 2 rfl) ?_
            obtain ⟨h_5, hv⟩ := hv
            refine va_iast hx hb hK hP hD hS 3 1 rfl rfl h_5 d_T_wrap_129 (fun H locs hP hD hS => ?_)
            have hP : va_P dd cls5 [(oT, .inr (2, [.ref aK, .ref aF, .ref aP, .ref aS, .ref aD, .int cn_h27])), (aK, .inl (cI, nT, .inl K_h27)), (aF, .inl (cI, nT, .inl F_h27)), (aP, .inl (cI, nT, .inl (upd Pa_h27 (x1 + 1).toNatClampNeg x1))), (aS, .inl (cI, nT, .inl Sg_h27)), (aD, .inl (cI, nT, .inl Dp_h27))] H := hP
            have hD : va_D A [(oT, .inr (2, [.ref aK, .ref aF, .ref aP, .ref aS, .ref aD, .int cn_h27])), (aK, .inl (cI, nT, .inl K_h27)), (aF, .inl (cI, nT, .inl F_h27)), (aP, .inl (cI, nT, .inl (upd Pa_h27 (x1 + 1).toNatClampNeg x1))), (aS, .inl (cI, nT, .inl Sg_h27)), (aD, .inl (cI, nT, .inl Dp_h27))] := hD
            refine lv_aload_n hx hb d_T_wrap_130 rfl (lv_at hl 1 rfl) ?_
            refine va_get (D := dd) (ci := 2) (C := Rc_T) (T := Fc_T) (N := 6) (v := .ref aS) hx hb hts (inn in_T) hown hK hP 0 rfl rfl 3 (by decide) (hts (.fieldLink "NetText$Tree" 21 "NetText$Tree" "signs" "[I") (tg at_69)) (fun _ h9 => h9) rfl d_T_wrap_131 ?_
            refine lv_iload_n hx hb d_T_wrap_134 rfl (lv_at hl 2 rfl) ?_
            refine lv_iconst (v := 1) hx hb d_T_wrap_135 (by decide) ?_
            refine lv_iadd hx hb d_T_wrap_136 ?_
            refine lv_iconst (v := 0) hx hb d_T_wrap_137 (by decide) ?_
            obtain ⟨h_6, hv⟩ := hv
            refine va_iast hx hb hK hP hD hS 4 1 rfl rfl h_6 d_T_wrap_138 (fun H locs hP hD hS => ?_)
            have hP : va_P dd cls5 [(oT, .inr (2, [.ref aK, .ref aF, .ref aP, .ref aS, .ref aD, .int cn_h27])), (aK, .inl (cI, nT, .inl K_h27)), (aF, .inl (cI, nT, .inl F_h27)), (aP, .inl (cI, nT, .inl (upd Pa_h27 (x1 + 1).toNatClampNeg x1))), (aS, .inl (cI, nT, .inl (upd Sg_h27 (x1 + 1).toNatClampNeg 0))), (aD, .inl (cI, nT, .inl Dp_h27))] H := hP
            have hD : va_D A [(oT, .inr (2, [.ref aK, .ref aF, .ref aP, .ref aS, .ref aD, .int cn_h27])), (aK, .inl (cI, nT, .inl K_h27)), (aF, .inl (cI, nT, .inl F_h27)), (aP, .inl (cI, nT, .inl (upd Pa_h27 (x1 + 1).toNatClampNeg x1))), (aS, .inl (cI, nT, .inl (upd Sg_h27 (x1 + 1).toNatClampNeg 0))), (aD, .inl (cI, nT, .inl Dp_h27))] := hD
            refine lv_aload_n hx hb d_T_wrap_139 rfl (lv_at hl 1 rfl) ?_
            refine va_get (D := dd) (ci := 2) (C := Rc_T) (T := Fc_T) (N := 6) (v := .ref aK) hx hb hts (inn in_T) hown hK hP 0 rfl rfl 0 (by decide) (hts (.fieldLink "NetText$Tree" 9 "NetText$Tree" "kinds" "[I") (tg at_63)) (fun _ h9 => h9) rfl d_T_wrap_140 ?_
            refine lv_iload_n hx hb d_T_wrap_143 rfl (lv_at hl 2 rfl) ?_
            refine lv_iload_n hx hb d_T_wrap_144 rfl (lv_at hl 3 rfl) ?_
            obtain ⟨h_7, hv⟩ := hv
            refine va_iast hx hb hK hP hD hS 1 1 rfl rfl h_7 d_T_wrap_145 (fun H locs hP hD hS => ?_)
            have hP : va_P dd cls5 [(oT, .inr (2, [.ref aK, .ref aF, .ref aP, .ref aS, .ref aD, .int cn_h27])), (aK, .inl (cI, nT, .inl (upd K_h27 x1.toNatClampNeg x2))), (aF, .inl (cI, nT, .inl F_h27)), (aP, .inl (cI, nT, .inl (upd Pa_h27 (x1 + 1).toNatClampNeg x1))), (aS, .inl (cI, nT, .inl (upd Sg_h27 (x1 + 1).toNatClampNeg 0))), (aD, .inl (cI, nT, .inl Dp_h27))] H := hP
            have hD : va_D A [(oT, .inr (2, [.ref aK, .ref aF, .ref aP, .ref aS, .ref aD, .int cn_h27])), (aK, .inl (cI, nT, .inl (upd K_h27 x1.toNatClampNeg x2))), (aF, .inl (cI, nT, .inl F_h27)), (aP, .inl (cI, nT, .inl (upd Pa_h27 (x1 + 1).toNatClampNeg x1))), (aS, .inl (cI, nT, .inl (upd Sg_h27 (x1 + 1).toNatClampNeg 0))), (aD, .inl (cI, nT, .inl Dp_h27))] := hD
            refine lv_aload_n hx hb d_T_wrap_146 rfl (lv_at hl 1 rfl) ?_
            refine va_get (D := dd) (ci := 2) (C := Rc_T) (T := Fc_T) (N := 6) (v := .ref aF) hx hb hts (inn in_T) hown hK hP 0 rfl rfl 1 (by decide) (hts (.fieldLink "NetText$Tree" 15 "NetText$Tree" "firstWords" "[I") (tg at_65)) (fun _ h9 => h9) rfl d_T_wrap_147 ?_
            refine lv_iload_n hx hb d_T_wrap_150 rfl (lv_at hl 2 rfl) ?_
            refine lv_iload_n hx hb d_T_wrap_151 rfl (lv_at hl 4 rfl) ?_
            obtain ⟨h_8, hv⟩ := hv
            refine va_iast hx hb hK hP hD hS 2 1 rfl rfl h_8 d_T_wrap_152 (fun H locs hP hD hS => ?_)
            have hP : va_P dd cls5 [(oT, .inr (2, [.ref aK, .ref aF, .ref aP, .ref aS, .ref aD, .int cn_h27])), (aK, .inl (cI, nT, .inl (upd K_h27 x1.toNatClampNeg x2))), (aF, .inl (cI, nT, .inl (upd F_h27 x1.toNatClampNeg x3))), (aP, .inl (cI, nT, .inl (upd Pa_h27 (x1 + 1).toNatClampNeg x1))), (aS, .inl (cI, nT, .inl (upd Sg_h27 (x1 + 1).toNatClampNeg 0))), (aD, .inl (cI, nT, .inl Dp_h27))] H := hP
            have hD : va_D A [(oT, .inr (2, [.ref aK, .ref aF, .ref aP, .ref aS, .ref aD, .int cn_h27])), (aK, .inl (cI, nT, .inl (upd K_h27 x1.toNatClampNeg x2))), (aF, .inl (cI, nT, .inl (upd F_h27 x1.toNatClampNeg x3))), (aP, .inl (cI, nT, .inl (upd Pa_h27 (x1 + 1).toNatClampNeg x1))), (aS, .inl (cI, nT, .inl (upd Sg_h27 (x1 + 1).toNatClampNeg 0))), (aD, .inl (cI, nT, .inl Dp_h27))] := hD
            refine lv_aload_n hx hb d_T_wrap_153 rfl (lv_at hl 1 rfl) ?_
            refine va_get (D := dd) (ci := 2) (C := Rc_T) (T := Fc_T) (N := 6) (v := .ref aD) hx hb hts (inn in_T) hown hK hP 0 rfl rfl 4 (by decide) (hts (.fieldLink "NetText$Tree" 24 "NetText$Tree" "depths" "[I") (tg at_71)) (fun _ h9 => h9) rfl d_T_wrap_154 ?_
            refine lv_iload_n hx hb d_T_wrap_157 rfl (lv_at hl 2 rfl) ?_
            refine lv_iconst (v := (-1)) hx hb d_T_wrap_158 (by decide) ?_
            obtain ⟨h_9, hv⟩ := hv
            refine va_iast hx hb hK hP hD hS 5 1 rfl rfl h_9 d_T_wrap_159 (fun H locs hP hD hS => ?_)
            have hP : va_P dd cls5 [(oT, .inr (2, [.ref aK, .ref aF, .ref aP, .ref aS, .ref aD, .int cn_h27])), (aK, .inl (cI, nT, .inl (upd K_h27 x1.toNatClampNeg x2))), (aF, .inl (cI, nT, .inl (upd F_h27 x1.toNatClampNeg x3))), (aP, .inl (cI, nT, .inl (upd Pa_h27 (x1 + 1).toNatClampNeg x1))), (aS, .inl (cI, nT, .inl (upd Sg_h27 (x1 + 1).toNatClampNeg 0))), (aD, .inl (cI, nT, .inl (upd Dp_h27 x1.toNatClampNeg (-1))))] H := hP
            have hD : va_D A [(oT, .inr (2, [.ref aK, .ref aF, .ref aP, .ref aS, .ref aD, .int cn_h27])), (aK, .inl (cI, nT, .inl (upd K_h27 x1.toNatClampNeg x2))), (aF, .inl (cI, nT, .inl (upd F_h27 x1.toNatClampNeg x3))), (aP, .inl (cI, nT, .inl (upd Pa_h27 (x1 + 1).toNatClampNeg x1))), (aS, .inl (cI, nT, .inl (upd Sg_h27 (x1 + 1).toNatClampNeg 0))), (aD, .inl (cI, nT, .inl (upd Dp_h27 x1.toNatClampNeg (-1))))] := hD
            refine lv_aload_n hx hb d_T_wrap_160 rfl (lv_at hl 1 rfl) ?_
            refine lv_dup hx hb d_T_wrap_161 rfl ?_
            refine va_get (D := dd) (ci := 2) (C := Rc_T) (T := Fc_T) (N := 6) (v := .int cn_h27) hx hb hts (inn in_T) hown hK hP 0 rfl rfl 5 (by decide) (hts (.fieldLink "NetText$Tree" 27 "NetText$Tree" "count" "I") (tg at_73)) (fun _ h9 => h9) rfl d_T_wrap_162 ?_
            refine lv_iconst (v := 1) hx hb d_T_wrap_165 (by decide) ?_
            refine lv_iadd hx hb d_T_wrap_166 ?_
            refine va_put (D := dd) (ci := 2) (C := Rc_T) (T := Fc_T) (N := 6) (v := .int (cn_h27 + 1)) (ty := .int) hx hb hts (inn in_T) tyf_T tyf_T_ok nmf_T hown hK hP hD hS 0 rfl rfl 5 (by decide) (hts (.fieldLink "NetText$Tree" 27 "NetText$Tree" "count" "I") (tg at_73)) (fun _ h9 => h9) rfl (by decide +kernel) rfl rfl (Nat.le_of_ble_eq_true rfl) d_T_wrap_167 (fun H locs hP hD hS => ?_)
            have hP : va_P dd cls5 [(oT, .inr (2, [.ref aK, .ref aF, .ref aP, .ref aS, .ref aD, .int (cn_h27 + 1)])), (aK, .inl (cI, nT, .inl (upd K_h27 x1.toNatClampNeg x2))), (aF, .inl (cI, nT, .inl (upd F_h27 x1.toNatClampNeg x3))), (aP, .inl (cI, nT, .inl (upd Pa_h27 (x1 + 1).toNatClampNeg x1))), (aS, .inl (cI, nT, .inl (upd Sg_h27 (x1 + 1).toNatClampNeg 0))), (aD, .inl (cI, nT, .inl (upd Dp_h27 x1.toNatClampNeg (-1))))] H := hP
            have hD : va_D A [(oT, .inr (2, [.ref aK, .ref aF, .ref aP, .ref aS, .ref aD, .int (cn_h27 + 1)])), (aK, .inl (cI, nT, .inl (upd K_h27 x1.toNatClampNeg x2))), (aF, .inl (cI, nT, .inl (upd F_h27 x1.toNatClampNeg x3))), (aP, .inl (cI, nT, .inl (upd Pa_h27 (x1 + 1).toNatClampNeg x1))), (aS, .inl (cI, nT, .inl (upd Sg_h27 (x1 + 1).toNatClampNeg 0))), (aD, .inl (cI, nT, .inl (upd Dp_h27 x1.toNatClampNeg (-1))))] := hD
            subst hQ
            exact r_v hx hb hr hlocks  ((cn_h27 + 1), (upd K_h27 x1.toNatClampNeg x2), (upd F_h27 x1.toNatClampNeg x3), (upd Pa_h27 (x1 + 1).toNatClampNeg x1), (upd Sg_h27 (x1 + 1).toNatClampNeg 0), (upd Dp_h27 x1.toNatClampNeg (-1))) hv (hP.sub [0, 1, 2, 3, 4, 5] rfl) hK (hD.sub [0, 1, 2, 3, 4, 5] (by decide) rfl) hS (Nat.le_refl _) (Nat.le_refl _) d_T_wrap_170
          · have hv := hv.2 b_4
            refine lv_aload_n hx hb d_T_wrap_33 rfl (lv_at hl 1 rfl) ?_
            refine va_get (D := dd) (ci := 2) (C := Rc_T) (T := Fc_T) (N := 6) (v := .ref aK) hx hb hts (inn in_T) hown hK hP 0 rfl rfl 0 (by decide) (hts (.fieldLink "NetText$Tree" 9 "NetText$Tree" "kinds" "[I") (tg at_63)) (fun _ h9 => h9) rfl d_T_wrap_34 ?_
            refine lv_iload hx hb d_T_wrap_37 (lv_at hl 0 rfl) ?_
            refine lv_aload_n hx hb d_T_wrap_39 rfl (lv_at hl 1 rfl) ?_
            refine va_get (D := dd) (ci := 2) (C := Rc_T) (T := Fc_T) (N := 6) (v := .ref aK) hx hb hts (inn in_T) hown hK hP 0 rfl rfl 0 (by decide) (hts (.fieldLink "NetText$Tree" 9 "NetText$Tree" "kinds" "[I") (tg at_63)) (fun _ h9 => h9) rfl d_T_wrap_40 ?_
            refine lv_iload hx hb d_T_wrap_43 (lv_at hl 0 rfl) ?_
            refine lv_iconst (v := 1) hx hb d_T_wrap_45 (by decide) ?_
            refine lv_isub hx hb d_T_wrap_46 ?_
            obtain ⟨h_10, hv⟩ := hv
            refine va_iald hx hb hK hP 1 1 rfl rfl h_10 d_T_wrap_47 ?_
            obtain ⟨h_11, hv⟩ := hv
            refine va_iast hx hb hK hP hD hS 1 1 rfl rfl h_11 d_T_wrap_48 (fun H locs hP hD hS => ?_)
            have hP : va_P dd cls5 [(oT, .inr (2, [.ref aK, .ref aF, .ref aP, .ref aS, .ref aD, .int cn_h27])), (aK, .inl (cI, nT, .inl (upd K_h27 x4_h27.toNatClampNeg (K_h27 (x4_h27 - 1).toNatClampNeg)))), (aF, .inl (cI, nT, .inl F_h27)), (aP, .inl (cI, nT, .inl Pa_h27)), (aS, .inl (cI, nT, .inl Sg_h27)), (aD, .inl (cI, nT, .inl Dp_h27))] H := hP
            have hD : va_D A [(oT, .inr (2, [.ref aK, .ref aF, .ref aP, .ref aS, .ref aD, .int cn_h27])), (aK, .inl (cI, nT, .inl (upd K_h27 x4_h27.toNatClampNeg (K_h27 (x4_h27 - 1).toNatClampNeg)))), (aF, .inl (cI, nT, .inl F_h27)), (aP, .inl (cI, nT, .inl Pa_h27)), (aS, .inl (cI, nT, .inl Sg_h27)), (aD, .inl (cI, nT, .inl Dp_h27))] := hD
            refine lv_aload_n hx hb d_T_wrap_49 rfl (lv_at hl 1 rfl) ?_
            refine va_get (D := dd) (ci := 2) (C := Rc_T) (T := Fc_T) (N := 6) (v := .ref aF) hx hb hts (inn in_T) hown hK hP 0 rfl rfl 1 (by decide) (hts (.fieldLink "NetText$Tree" 15 "NetText$Tree" "firstWords" "[I") (tg at_65)) (fun _ h9 => h9) rfl d_T_wrap_50 ?_
            refine lv_iload hx hb d_T_wrap_53 (lv_at hl 0 rfl) ?_
            refine lv_aload_n hx hb d_T_wrap_55 rfl (lv_at hl 1 rfl) ?_
            refine va_get (D := dd) (ci := 2) (C := Rc_T) (T := Fc_T) (N := 6) (v := .ref aF) hx hb hts (inn in_T) hown hK hP 0 rfl rfl 1 (by decide) (hts (.fieldLink "NetText$Tree" 15 "NetText$Tree" "firstWords" "[I") (tg at_65)) (fun _ h9 => h9) rfl d_T_wrap_56 ?_
            refine lv_iload hx hb d_T_wrap_59 (lv_at hl 0 rfl) ?_
            refine lv_iconst (v := 1) hx hb d_T_wrap_61 (by decide) ?_
            refine lv_isub hx hb d_T_wrap_62 ?_
            obtain ⟨h_12, hv⟩ := hv
            refine va_iald hx hb hK hP 2 1 rfl rfl h_12 d_T_wrap_63 ?_
            obtain ⟨h_13, hv⟩ := hv
            refine va_iast hx hb hK hP hD hS 2 1 rfl rfl h_13 d_T_wrap_64 (fun H locs hP hD hS => ?_)
            have hP : va_P dd cls5 [(oT, .inr (2, [.ref aK, .ref aF, .ref aP, .ref aS, .ref aD, .int cn_h27])), (aK, .inl (cI, nT, .inl (upd K_h27 x4_h27.toNatClampNeg (K_h27 (x4_h27 - 1).toNatClampNeg)))), (aF, .inl (cI, nT, .inl (upd F_h27 x4_h27.toNatClampNeg (F_h27 (x4_h27 - 1).toNatClampNeg)))), (aP, .inl (cI, nT, .inl Pa_h27)), (aS, .inl (cI, nT, .inl Sg_h27)), (aD, .inl (cI, nT, .inl Dp_h27))] H := hP
            have hD : va_D A [(oT, .inr (2, [.ref aK, .ref aF, .ref aP, .ref aS, .ref aD, .int cn_h27])), (aK, .inl (cI, nT, .inl (upd K_h27 x4_h27.toNatClampNeg (K_h27 (x4_h27 - 1).toNatClampNeg)))), (aF, .inl (cI, nT, .inl (upd F_h27 x4_h27.toNatClampNeg (F_h27 (x4_h27 - 1).toNatClampNeg)))), (aP, .inl (cI, nT, .inl Pa_h27)), (aS, .inl (cI, nT, .inl Sg_h27)), (aD, .inl (cI, nT, .inl Dp_h27))] := hD
            refine lv_aload_n hx hb d_T_wrap_65 rfl (lv_at hl 1 rfl) ?_
            refine va_get (D := dd) (ci := 2) (C := Rc_T) (T := Fc_T) (N := 6) (v := .ref aP) hx hb hts (inn in_T) hown hK hP 0 rfl rfl 2 (by decide) (hts (.fieldLink "NetText$Tree" 18 "NetText$Tree" "parents" "[I") (tg at_67)) (fun _ h9 => h9) rfl d_T_wrap_66 ?_
            refine lv_iload hx hb d_T_wrap_69 (lv_at hl 0 rfl) ?_
            refine lv_aload_n hx hb d_T_wrap_71 rfl (lv_at hl 1 rfl) ?_
            refine va_get (D := dd) (ci := 2) (C := Rc_T) (T := Fc_T) (N := 6) (v := .ref aP) hx hb hts (inn in_T) hown hK hP 0 rfl rfl 2 (by decide) (hts (.fieldLink "NetText$Tree" 18 "NetText$Tree" "parents" "[I") (tg at_67)) (fun _ h9 => h9) rfl d_T_wrap_72 ?_
            refine lv_iload hx hb d_T_wrap_75 (lv_at hl 0 rfl) ?_
            refine lv_iconst (v := 1) hx hb d_T_wrap_77 (by decide) ?_
            refine lv_isub hx hb d_T_wrap_78 ?_
            obtain ⟨h_14, hv⟩ := hv
            refine va_iald hx hb hK hP 3 1 rfl rfl h_14 d_T_wrap_79 ?_
            refine lv_iconst (v := 1) hx hb d_T_wrap_80 (by decide) ?_
            refine lv_iadd hx hb d_T_wrap_81 ?_
            obtain ⟨h_15, hv⟩ := hv
            refine va_iast hx hb hK hP hD hS 3 1 rfl rfl h_15 d_T_wrap_82 (fun H locs hP hD hS => ?_)
            have hP : va_P dd cls5 [(oT, .inr (2, [.ref aK, .ref aF, .ref aP, .ref aS, .ref aD, .int cn_h27])), (aK, .inl (cI, nT, .inl (upd K_h27 x4_h27.toNatClampNeg (K_h27 (x4_h27 - 1).toNatClampNeg)))), (aF, .inl (cI, nT, .inl (upd F_h27 x4_h27.toNatClampNeg (F_h27 (x4_h27 - 1).toNatClampNeg)))), (aP, .inl (cI, nT, .inl (upd Pa_h27 x4_h27.toNatClampNeg ((Pa_h27 (x4_h27 - 1).toNatClampNeg) + 1)))), (aS, .inl (cI, nT, .inl Sg_h27)), (aD, .inl (cI, nT, .inl Dp_h27))] H := hP
            have hD : va_D A [(oT, .inr (2, [.ref aK, .ref aF, .ref aP, .ref aS, .ref aD, .int cn_h27])), (aK, .inl (cI, nT, .inl (upd K_h27 x4_h27.toNatClampNeg (K_h27 (x4_h27 - 1).toNatClampNeg)))), (aF, .inl (cI, nT, .inl (upd F_h27 x4_h27.toNatClampNeg (F_h27 (x4_h27 - 1).toNatClampNeg)))), (aP, .inl (cI, nT, .inl (upd Pa_h27 x4_h27.toNatClampNeg ((Pa_h27 (x4_h27 - 1).toNatClampNeg) + 1)))), (aS, .inl (cI, nT, .inl Sg_h27)), (aD, .inl (cI, nT, .inl Dp_h27))] := hD
            refine lv_aload_n hx hb d_T_wrap_83 rfl (lv_at hl 1 rfl) ?_
            refine va_get (D := dd) (ci := 2) (C := Rc_T) (T := Fc_T) (N := 6) (v := .ref aS) hx hb hts (inn in_T) hown hK hP 0 rfl rfl 3 (by decide) (hts (.fieldLink "NetText$Tree" 21 "NetText$Tree" "signs" "[I") (tg at_69)) (fun _ h9 => h9) rfl d_T_wrap_84 ?_
            refine lv_iload hx hb d_T_wrap_87 (lv_at hl 0 rfl) ?_
            refine lv_aload_n hx hb d_T_wrap_89 rfl (lv_at hl 1 rfl) ?_
            refine va_get (D := dd) (ci := 2) (C := Rc_T) (T := Fc_T) (N := 6) (v := .ref aS) hx hb hts (inn in_T) hown hK hP 0 rfl rfl 3 (by decide) (hts (.fieldLink "NetText$Tree" 21 "NetText$Tree" "signs" "[I") (tg at_69)) (fun _ h9 => h9) rfl d_T_wrap_90 ?_
            refine lv_iload hx hb d_T_wrap_93 (lv_at hl 0 rfl) ?_
            refine lv_iconst (v := 1) hx hb d_T_wrap_95 (by decide) ?_
            refine lv_isub hx hb d_T_wrap_96 ?_
            obtain ⟨h_16, hv⟩ := hv
            refine va_iald hx hb hK hP 4 1 rfl rfl h_16 d_T_wrap_97 ?_
            obtain ⟨h_17, hv⟩ := hv
            refine va_iast hx hb hK hP hD hS 4 1 rfl rfl h_17 d_T_wrap_98 (fun H locs hP hD hS => ?_)
            have hP : va_P dd cls5 [(oT, .inr (2, [.ref aK, .ref aF, .ref aP, .ref aS, .ref aD, .int cn_h27])), (aK, .inl (cI, nT, .inl (upd K_h27 x4_h27.toNatClampNeg (K_h27 (x4_h27 - 1).toNatClampNeg)))), (aF, .inl (cI, nT, .inl (upd F_h27 x4_h27.toNatClampNeg (F_h27 (x4_h27 - 1).toNatClampNeg)))), (aP, .inl (cI, nT, .inl (upd Pa_h27 x4_h27.toNatClampNeg ((Pa_h27 (x4_h27 - 1).toNatClampNeg) + 1)))), (aS, .inl (cI, nT, .inl (upd Sg_h27 x4_h27.toNatClampNeg (Sg_h27 (x4_h27 - 1).toNatClampNeg)))), (aD, .inl (cI, nT, .inl Dp_h27))] H := hP
            have hD : va_D A [(oT, .inr (2, [.ref aK, .ref aF, .ref aP, .ref aS, .ref aD, .int cn_h27])), (aK, .inl (cI, nT, .inl (upd K_h27 x4_h27.toNatClampNeg (K_h27 (x4_h27 - 1).toNatClampNeg)))), (aF, .inl (cI, nT, .inl (upd F_h27 x4_h27.toNatClampNeg (F_h27 (x4_h27 - 1).toNatClampNeg)))), (aP, .inl (cI, nT, .inl (upd Pa_h27 x4_h27.toNatClampNeg ((Pa_h27 (x4_h27 - 1).toNatClampNeg) + 1)))), (aS, .inl (cI, nT, .inl (upd Sg_h27 x4_h27.toNatClampNeg (Sg_h27 (x4_h27 - 1).toNatClampNeg)))), (aD, .inl (cI, nT, .inl Dp_h27))] := hD
            refine lv_aload_n hx hb d_T_wrap_99 rfl (lv_at hl 1 rfl) ?_
            refine va_get (D := dd) (ci := 2) (C := Rc_T) (T := Fc_T) (N := 6) (v := .ref aD) hx hb hts (inn in_T) hown hK hP 0 rfl rfl 4 (by decide) (hts (.fieldLink "NetText$Tree" 24 "NetText$Tree" "depths" "[I") (tg at_71)) (fun _ h9 => h9) rfl d_T_wrap_100 ?_
            refine lv_iload hx hb d_T_wrap_103 (lv_at hl 0 rfl) ?_
            refine lv_aload_n hx hb d_T_wrap_105 rfl (lv_at hl 1 rfl) ?_
            refine va_get (D := dd) (ci := 2) (C := Rc_T) (T := Fc_T) (N := 6) (v := .ref aD) hx hb hts (inn in_T) hown hK hP 0 rfl rfl 4 (by decide) (hts (.fieldLink "NetText$Tree" 24 "NetText$Tree" "depths" "[I") (tg at_71)) (fun _ h9 => h9) rfl d_T_wrap_106 ?_
            refine lv_iload hx hb d_T_wrap_109 (lv_at hl 0 rfl) ?_
            refine lv_iconst (v := 1) hx hb d_T_wrap_111 (by decide) ?_
            refine lv_isub hx hb d_T_wrap_112 ?_
            obtain ⟨h_18, hv⟩ := hv
            refine va_iald hx hb hK hP 5 1 rfl rfl h_18 d_T_wrap_113 ?_
            obtain ⟨h_19, hv⟩ := hv
            refine va_iast hx hb hK hP hD hS 5 1 rfl rfl h_19 d_T_wrap_114 (fun H locs hP hD hS => ?_)
            have hP : va_P dd cls5 [(oT, .inr (2, [.ref aK, .ref aF, .ref aP, .ref aS, .ref aD, .int cn_h27])), (aK, .inl (cI, nT, .inl (upd K_h27 x4_h27.toNatClampNeg (K_h27 (x4_h27 - 1).toNatClampNeg)))), (aF, .inl (cI, nT, .inl (upd F_h27 x4_h27.toNatClampNeg (F_h27 (x4_h27 - 1).toNatClampNeg)))), (aP, .inl (cI, nT, .inl (upd Pa_h27 x4_h27.toNatClampNeg ((Pa_h27 (x4_h27 - 1).toNatClampNeg) + 1)))), (aS, .inl (cI, nT, .inl (upd Sg_h27 x4_h27.toNatClampNeg (Sg_h27 (x4_h27 - 1).toNatClampNeg)))), (aD, .inl (cI, nT, .inl (upd Dp_h27 x4_h27.toNatClampNeg (Dp_h27 (x4_h27 - 1).toNatClampNeg))))] H := hP
            have hD : va_D A [(oT, .inr (2, [.ref aK, .ref aF, .ref aP, .ref aS, .ref aD, .int cn_h27])), (aK, .inl (cI, nT, .inl (upd K_h27 x4_h27.toNatClampNeg (K_h27 (x4_h27 - 1).toNatClampNeg)))), (aF, .inl (cI, nT, .inl (upd F_h27 x4_h27.toNatClampNeg (F_h27 (x4_h27 - 1).toNatClampNeg)))), (aP, .inl (cI, nT, .inl (upd Pa_h27 x4_h27.toNatClampNeg ((Pa_h27 (x4_h27 - 1).toNatClampNeg) + 1)))), (aS, .inl (cI, nT, .inl (upd Sg_h27 x4_h27.toNatClampNeg (Sg_h27 (x4_h27 - 1).toNatClampNeg)))), (aD, .inl (cI, nT, .inl (upd Dp_h27 x4_h27.toNatClampNeg (Dp_h27 (x4_h27 - 1).toNatClampNeg))))] := hD
            refine lv_iinc (v := (x4_h27 + (-1))) (lv' := [(4, .int (x4_h27 + (-1))), (0, .ref oT), (1, .int x1), (2, .int x2), (3, .int x3)]) hx hb d_T_wrap_115 hl (k := 0) rfl rfl (by decide) rfl (fun ls hl => ?_)
            refine lv_goto (tgt := 27) hx hb d_T_wrap_118 (by decide) ?_
            exact ih (x4_h27 + (-1)) cn_h27 (upd K_h27 x4_h27.toNatClampNeg (K_h27 (x4_h27 - 1).toNatClampNeg)) (upd F_h27 x4_h27.toNatClampNeg (F_h27 (x4_h27 - 1).toNatClampNeg)) (upd Pa_h27 x4_h27.toNatClampNeg ((Pa_h27 (x4_h27 - 1).toNatClampNeg) + 1)) (upd Sg_h27 x4_h27.toNatClampNeg (Sg_h27 (x4_h27 - 1).toNatClampNeg)) (upd Dp_h27 x4_h27.toNatClampNeg (Dp_h27 (x4_h27 - 1).toNatClampNeg)) _ _ _ hv (hP.sub [0, 1, 2, 3, 4, 5] rfl) (hD.sub [0, 1, 2, 3, 4, 5] (by decide) rfl) hS (lv_sub hl [0, 1, 2, 3, 4] rfl)
      exact LP_27 n_27 cn cn K F Pa Sg Dp _ _ _ hv hP hD hS hl
    · have hv := hv.2 b_3
      subst hQ
      exact r_v hx hb hr hlocks  (cn, K, F, Pa, Sg, Dp) hv (hP.sub [0, 1, 2, 3, 4, 5] rfl) hK (hD.sub [0, 1, 2, 3, 4, 5] (by decide) rfl) hS (Nat.le_refl _) (Nat.le_refl _) d_T_wrap_20
def vc_T_turn  (nT : Nat) (cn : Int32) (K : FN) (x1 : Int32) (x2 : Int32) (K_ : FN → Prop) : Prop :=
  (vc_T_holds cn x1 (fun r_1 => ((r_1 = 0 → (K_ K)) ∧ (¬ r_1 = 0 → (vp_in x1 nT ∧ (K_ (upd K x1.toNatClampNeg x2)))))))
set_option maxHeartbeats 4000000 in
set_option maxRecDepth 100000 in
theorem met_T_turn {l : Launch} {dd : va_G} {cB cI cL cS : ClassId}  {oT : Nat} {aK : Nat} {aF : Nat} {aP : Nat} {aS : Nat} {aD : Nat}  {nT : Nat} {cn : Int32} {K : FN} {x1 : Int32} {x2 : Int32} {K_ : FN → Prop}  (hv : vc_T_turn  nT cn K x1 x2 K_) : Ct l y_T_turnInto w_T_turnInto (rmk 1 0 0) dd cls5 [(cB, .byte), (cI, .int), (cL, .long), (cS, .object "java/lang/String")] X0 [(oT, .inr (2, [.ref aK, .ref aF, .ref aP, .ref aS, .ref aD, .int cn])), (aK, .inl (cI, nT, .inl K))] [.ref oT, .int x1, .int x2] (qv dd cls5 [(cB, .byte), (cI, .int), (cL, .long), (cS, .object "java/lang/String")] (fun u_ : FN => [(oT, .inr (2, [.ref aK, .ref aF, .ref aP, .ref aS, .ref aD, .int cn])), (aK, .inl (cI, nT, .inl u_))]) (fun u_ => K_ u_)) 0 0 := by
  refine m_of (cc := b_T_turnInto) (nL := 3) (ret := none) (by decide) rfl (Nat.le_of_ble_eq_true rfl) ?_
  intro p e s m below meth c ls A ar Fx_ hA hP hK hD hS hX hl
  obtain ⟨hx, hb, hml, hr, hlocks, hown, hts, hinn⟩ := Fx_
  generalize hQ : MQ below ((qv dd cls5 [(cB, .byte), (cI, .int), (cL, .long), (cS, .object "java/lang/String")] (fun u_ : FN => [(oT, .inr (2, [.ref aK, .ref aF, .ref aP, .ref aS, .ref aD, .int cn])), (aK, .inl (cI, nT, .inl u_))]) (fun u_ => K_ u_)) A) ar s 0 0 A = QQ
  have hl : lv_has ls 3 [(0, .ref oT), (1, .int x1), (2, .int x2)] := hl
  unfold vc_T_turn at hv
  refine lv_aload_n hx hb d_T_turnInto_0 rfl (lv_at hl 0 rfl) ?_
  refine lv_iload_n hx hb d_T_turnInto_1 rfl (lv_at hl 1 rfl) ?_
  have hM := met_T_holds (l := l) (dd := dd) (cB := cB) (cI := cI) (cL := cL) (cS := cS) (oT := oT) (aK := aK) (aF := aF) (aP := aP) (aS := aS) (aD := aD)  hv
  refine krv_i (st := [.int x1, .ref oT]) (rest := []) ⟨hx, hb, hml, hown, hts⟩ hM (cwV 1 hts (gv (tg0 at_405) (tg0 at_406) (tg0 at_407) (tg0 at_3) (tg0 at_408)) rfl rfl rfl (by decide +kernel) (rk (by omega) (by decide))) x0b (fun _ _ _ => trivial) hP hK [0] rfl (ci := 2) rfl rfl (q0 := 0) rfl rfl hl.1 rfl (Nat.le_of_ble_eq_true rfl) d_T_turnInto_2 ⟨Nat.zero_le _, Nat.zero_le _⟩ (fun r_1 hv => ?_)
  refine lv_if_eq (tgt := 15) hx hb d_T_turnInto_5 (by decide) (fun b_2 => ?_) (fun b_2 => ?_)
  · have hv := hv.1 b_2
    subst hQ
    exact r_v hx hb hr hlocks  K hv (hP.sub [0, 1] rfl) hK (hD.sub [0, 1] (by decide) rfl) hS (Nat.le_refl _) (Nat.le_refl _) d_T_turnInto_15
  · have hv := hv.2 b_2
    refine lv_aload_n hx hb d_T_turnInto_8 rfl (lv_at hl 0 rfl) ?_
    refine va_get (D := dd) (ci := 2) (C := Rc_T) (T := Fc_T) (N := 6) (v := .ref aK) hx hb hts (inn in_T) hown hK hP 0 rfl rfl 0 (by decide) (hts (.fieldLink "NetText$Tree" 9 "NetText$Tree" "kinds" "[I") (tg at_63)) (fun _ h9 => h9) rfl d_T_turnInto_9 ?_
    refine lv_iload_n hx hb d_T_turnInto_12 rfl (lv_at hl 1 rfl) ?_
    refine lv_iload_n hx hb d_T_turnInto_13 rfl (lv_at hl 2 rfl) ?_
    obtain ⟨h_3, hv⟩ := hv
    refine va_iast hx hb hK hP hD hS 1 1 rfl rfl h_3 d_T_turnInto_14 (fun H locs hP hD hS => ?_)
    have hP : va_P dd cls5 [(oT, .inr (2, [.ref aK, .ref aF, .ref aP, .ref aS, .ref aD, .int cn])), (aK, .inl (cI, nT, .inl (upd K x1.toNatClampNeg x2)))] H := hP
    have hD : va_D A [(oT, .inr (2, [.ref aK, .ref aF, .ref aP, .ref aS, .ref aD, .int cn])), (aK, .inl (cI, nT, .inl (upd K x1.toNatClampNeg x2)))] := hD
    subst hQ
    exact r_v hx hb hr hlocks  (upd K x1.toNatClampNeg x2) hv (hP.sub [0, 1] rfl) hK (hD.sub [0, 1] (by decide) rfl) hS (Nat.le_refl _) (Nat.le_refl _) d_T_turnInto_15
def vc_T_setDepth  (nT : Nat) (cn : Int32) (Dp : FN) (x1 : Int32) (x2 : Int32) (K_ : FN → Prop) : Prop :=
  (vc_T_holds cn x1 (fun r_1 => ((r_1 = 0 → (K_ Dp)) ∧ (¬ r_1 = 0 → (vp_in x1 nT ∧ (K_ (upd Dp x1.toNatClampNeg x2)))))))
set_option maxHeartbeats 4000000 in
set_option maxRecDepth 100000 in
theorem met_T_setDepth {l : Launch} {dd : va_G} {cB cI cL cS : ClassId}  {oT : Nat} {aK : Nat} {aF : Nat} {aP : Nat} {aS : Nat} {aD : Nat}  {nT : Nat} {cn : Int32} {Dp : FN} {x1 : Int32} {x2 : Int32} {K_ : FN → Prop}  (hv : vc_T_setDepth  nT cn Dp x1 x2 K_) : Ct l y_T_setDepth w_T_setDepth (rmk 1 0 0) dd cls5 [(cB, .byte), (cI, .int), (cL, .long), (cS, .object "java/lang/String")] X0 [(oT, .inr (2, [.ref aK, .ref aF, .ref aP, .ref aS, .ref aD, .int cn])), (aD, .inl (cI, nT, .inl Dp))] [.ref oT, .int x1, .int x2] (qv dd cls5 [(cB, .byte), (cI, .int), (cL, .long), (cS, .object "java/lang/String")] (fun u_ : FN => [(oT, .inr (2, [.ref aK, .ref aF, .ref aP, .ref aS, .ref aD, .int cn])), (aD, .inl (cI, nT, .inl u_))]) (fun u_ => K_ u_)) 0 0 := by
  refine m_of (cc := b_T_setDepth) (nL := 3) (ret := none) (by decide) rfl (Nat.le_of_ble_eq_true rfl) ?_
  intro p e s m below meth c ls A ar Fx_ hA hP hK hD hS hX hl
  obtain ⟨hx, hb, hml, hr, hlocks, hown, hts, hinn⟩ := Fx_
  generalize hQ : MQ below ((qv dd cls5 [(cB, .byte), (cI, .int), (cL, .long), (cS, .object "java/lang/String")] (fun u_ : FN => [(oT, .inr (2, [.ref aK, .ref aF, .ref aP, .ref aS, .ref aD, .int cn])), (aD, .inl (cI, nT, .inl u_))]) (fun u_ => K_ u_)) A) ar s 0 0 A = QQ
  have hl : lv_has ls 3 [(0, .ref oT), (1, .int x1), (2, .int x2)] := hl
  unfold vc_T_setDepth at hv
  refine lv_aload_n hx hb d_T_setDepth_0 rfl (lv_at hl 0 rfl) ?_
  refine lv_iload_n hx hb d_T_setDepth_1 rfl (lv_at hl 1 rfl) ?_
  have hM := met_T_holds (l := l) (dd := dd) (cB := cB) (cI := cI) (cL := cL) (cS := cS) (oT := oT) (aK := aK) (aF := aF) (aP := aP) (aS := aS) (aD := aD)  hv
  refine krv_i (st := [.int x1, .ref oT]) (rest := []) ⟨hx, hb, hml, hown, hts⟩ hM (cwV 1 hts (gv (tg0 at_405) (tg0 at_406) (tg0 at_407) (tg0 at_3) (tg0 at_408)) rfl rfl rfl (by decide +kernel) (rk (by omega) (by decide))) x0b (fun _ _ _ => trivial) hP hK [0] rfl (ci := 2) rfl rfl (q0 := 0) rfl rfl hl.1 rfl (Nat.le_of_ble_eq_true rfl) d_T_setDepth_2 ⟨Nat.zero_le _, Nat.zero_le _⟩ (fun r_1 hv => ?_)
  refine lv_if_eq (tgt := 15) hx hb d_T_setDepth_5 (by decide) (fun b_2 => ?_) (fun b_2 => ?_)
  · have hv := hv.1 b_2
    subst hQ
    exact r_v hx hb hr hlocks  Dp hv (hP.sub [0, 1] rfl) hK (hD.sub [0, 1] (by decide) rfl) hS (Nat.le_refl _) (Nat.le_refl _) d_T_setDepth_15
  · have hv := hv.2 b_2
    refine lv_aload_n hx hb d_T_setDepth_8 rfl (lv_at hl 0 rfl) ?_
    refine va_get (D := dd) (ci := 2) (C := Rc_T) (T := Fc_T) (N := 6) (v := .ref aD) hx hb hts (inn in_T) hown hK hP 0 rfl rfl 4 (by decide) (hts (.fieldLink "NetText$Tree" 24 "NetText$Tree" "depths" "[I") (tg at_71)) (fun _ h9 => h9) rfl d_T_setDepth_9 ?_
    refine lv_iload_n hx hb d_T_setDepth_12 rfl (lv_at hl 1 rfl) ?_
    refine lv_iload_n hx hb d_T_setDepth_13 rfl (lv_at hl 2 rfl) ?_
    obtain ⟨h_3, hv⟩ := hv
    refine va_iast hx hb hK hP hD hS 1 1 rfl rfl h_3 d_T_setDepth_14 (fun H locs hP hD hS => ?_)
    have hP : va_P dd cls5 [(oT, .inr (2, [.ref aK, .ref aF, .ref aP, .ref aS, .ref aD, .int cn])), (aD, .inl (cI, nT, .inl (upd Dp x1.toNatClampNeg x2)))] H := hP
    have hD : va_D A [(oT, .inr (2, [.ref aK, .ref aF, .ref aP, .ref aS, .ref aD, .int cn])), (aD, .inl (cI, nT, .inl (upd Dp x1.toNatClampNeg x2)))] := hD
    subst hQ
    exact r_v hx hb hr hlocks  (upd Dp x1.toNatClampNeg x2) hv (hP.sub [0, 1] rfl) hK (hD.sub [0, 1] (by decide) rfl) hS (Nat.le_refl _) (Nat.le_refl _) d_T_setDepth_15
def vc_T_nameWord  (nT : Nat) (cn : Int32) (K : FN) (F : FN) (x1 : Int32) (K_ : Int32 → Prop) : Prop :=
  (vc_T_holds cn x1 (fun r_1 => ((¬ r_1 = 0 → (vp_in x1 nT ∧ (((K x1.toNatClampNeg) = 5 → (vp_in x1 nT ∧ (K_ ((F x1.toNatClampNeg) + 1)))) ∧ (¬ (K x1.toNatClampNeg) = 5 → (((K x1.toNatClampNeg) = 14 → (vp_in x1 nT ∧ (K_ (F x1.toNatClampNeg)))) ∧ (¬ (K x1.toNatClampNeg) = 14 → (((K x1.toNatClampNeg) = 15 → (vp_in x1 nT ∧ (K_ (F x1.toNatClampNeg)))) ∧ (¬ (K x1.toNatClampNeg) = 15 → (((K x1.toNatClampNeg) = 20 → (vp_in x1 nT ∧ (K_ (F x1.toNatClampNeg)))) ∧ (¬ (K x1.toNatClampNeg) = 20 → (K_ (-1)))))))))))) ∧ (r_1 = 0 → (K_ (-1))))))
set_option maxHeartbeats 4000000 in
set_option maxRecDepth 100000 in
theorem met_T_nameWord {l : Launch} {dd : va_G} {cB cI cL cS : ClassId}  {oT : Nat} {aK : Nat} {aF : Nat} {aP : Nat} {aS : Nat} {aD : Nat}  {nT : Nat} {cn : Int32} {K : FN} {F : FN} {x1 : Int32} {K_ : Int32 → Prop}  (hv : vc_T_nameWord  nT cn K F x1 K_) : CtR l y_T_nameWord w_T_nameWord (rmk 1 0 0) dd cls5 [(cB, .byte), (cI, .int), (cL, .long), (cS, .object "java/lang/String")] X0 [(oT, .inr (2, [.ref aK, .ref aF, .ref aP, .ref aS, .ref aD, .int cn])), (aK, .inl (cI, nT, .inl K)), (aF, .inl (cI, nT, .inl F))] [.ref oT, .int x1] (qR K_) := by
  refine m_ofR (cc := b_T_nameWord) (nL := 2) (ret := (some .int)) (by decide) rfl (Nat.le_of_ble_eq_true rfl) ?_
  intro p e s m below meth c ls ar Fx_ hP hK hX hl
  obtain ⟨hx, hb, hml, hr, hlocks, hown, hts, hinn⟩ := Fx_
  have hl : lv_has ls 2 [(0, .ref oT), (1, .int x1)] := hl
  unfold vc_T_nameWord at hv
  refine lv_aload_n hx hb d_T_nameWord_0 rfl (lv_at hl 0 rfl) ?_
  refine lv_iload_n hx hb d_T_nameWord_1 rfl (lv_at hl 1 rfl) ?_
  have hM := met_T_holds (l := l) (dd := dd) (cB := cB) (cI := cI) (cL := cL) (cS := cS) (oT := oT) (aK := aK) (aF := aF) (aP := aP) (aS := aS) (aD := aD)  hv
  refine krv_i (st := [.int x1, .ref oT]) (rest := []) ⟨hx, hb, hml, hown, hts⟩ hM (cwV 1 hts (gv (tg0 at_405) (tg0 at_406) (tg0 at_407) (tg0 at_3) (tg0 at_408)) rfl rfl rfl (by decide +kernel) (rk (by omega) (by decide))) x0b (fun _ _ _ => trivial) hP hK [0] rfl (ci := 2) rfl rfl (q0 := 0) rfl rfl hl.1 rfl (Nat.le_of_ble_eq_true rfl) d_T_nameWord_2 ⟨Nat.zero_le _, Nat.zero_le _⟩ (fun r_1 hv => ?_)
  refine lv_if_ne (tgt := 10) hx hb d_T_nameWord_5 (by decide) (fun b_2 => ?_) (fun b_2 => ?_)
  · have hv := hv.1 b_2
    refine lv_aload_n hx hb d_T_nameWord_10 rfl (lv_at hl 0 rfl) ?_
    refine va_get (D := dd) (ci := 2) (C := Rc_T) (T := Fc_T) (N := 6) (v := .ref aK) hx hb hts (inn in_T) hown hK hP 0 rfl rfl 0 (by decide) (hts (.fieldLink "NetText$Tree" 9 "NetText$Tree" "kinds" "[I") (tg at_63)) (fun _ h9 => h9) rfl d_T_nameWord_11 ?_
    refine lv_iload_n hx hb d_T_nameWord_14 rfl (lv_at hl 1 rfl) ?_
    obtain ⟨h_3, hv⟩ := hv
    refine va_iald hx hb hK hP 1 1 rfl rfl h_3 d_T_nameWord_15 ?_
    by_cases b_4 : (K x1.toNatClampNeg) = 5
    · have hv := hv.1 b_4
      refine lv_lookup (tgt := 67) hx hb d_T_nameWord_16 (by decide) (off := 51) (by rw [b_4]; decide) (by decide) ?_
      refine lv_aload_n hx hb d_T_nameWord_67 rfl (lv_at hl 0 rfl) ?_
      refine va_get (D := dd) (ci := 2) (C := Rc_T) (T := Fc_T) (N := 6) (v := .ref aF) hx hb hts (inn in_T) hown hK hP 0 rfl rfl 1 (by decide) (hts (.fieldLink "NetText$Tree" 15 "NetText$Tree" "firstWords" "[I") (tg at_65)) (fun _ h9 => h9) rfl d_T_nameWord_68 ?_
      refine lv_iload_n hx hb d_T_nameWord_71 rfl (lv_at hl 1 rfl) ?_
      obtain ⟨h_5, hv⟩ := hv
      refine va_iald hx hb hK hP 2 1 rfl rfl h_5 d_T_nameWord_72 ?_
      refine lv_iconst (v := 1) hx hb d_T_nameWord_73 (by decide) ?_
      refine lv_iadd hx hb d_T_nameWord_74 ?_
      exact rr_i hx hb hr hlocks ((F x1.toNatClampNeg) + 1) hv d_T_nameWord_75
    · have hv := hv.2 b_4
      by_cases b_6 : (K x1.toNatClampNeg) = 14
      · have hv := hv.1 b_6
        refine lv_lookup (tgt := 60) hx hb d_T_nameWord_16 (by decide) (off := 44) (by rw [b_6]; decide) (by decide) ?_
        refine lv_aload_n hx hb d_T_nameWord_60 rfl (lv_at hl 0 rfl) ?_
        refine va_get (D := dd) (ci := 2) (C := Rc_T) (T := Fc_T) (N := 6) (v := .ref aF) hx hb hts (inn in_T) hown hK hP 0 rfl rfl 1 (by decide) (hts (.fieldLink "NetText$Tree" 15 "NetText$Tree" "firstWords" "[I") (tg at_65)) (fun _ h9 => h9) rfl d_T_nameWord_61 ?_
        refine lv_iload_n hx hb d_T_nameWord_64 rfl (lv_at hl 1 rfl) ?_
        obtain ⟨h_7, hv⟩ := hv
        refine va_iald hx hb hK hP 2 1 rfl rfl h_7 d_T_nameWord_65 ?_
        exact rr_i hx hb hr hlocks (F x1.toNatClampNeg) hv d_T_nameWord_66
      · have hv := hv.2 b_6
        by_cases b_8 : (K x1.toNatClampNeg) = 15
        · have hv := hv.1 b_8
          refine lv_lookup (tgt := 60) hx hb d_T_nameWord_16 (by decide) (off := 44) (by rw [b_8]; decide) (by decide) ?_
          refine lv_aload_n hx hb d_T_nameWord_60 rfl (lv_at hl 0 rfl) ?_
          refine va_get (D := dd) (ci := 2) (C := Rc_T) (T := Fc_T) (N := 6) (v := .ref aF) hx hb hts (inn in_T) hown hK hP 0 rfl rfl 1 (by decide) (hts (.fieldLink "NetText$Tree" 15 "NetText$Tree" "firstWords" "[I") (tg at_65)) (fun _ h9 => h9) rfl d_T_nameWord_61 ?_
          refine lv_iload_n hx hb d_T_nameWord_64 rfl (lv_at hl 1 rfl) ?_
          obtain ⟨h_9, hv⟩ := hv
          refine va_iald hx hb hK hP 2 1 rfl rfl h_9 d_T_nameWord_65 ?_
          exact rr_i hx hb hr hlocks (F x1.toNatClampNeg) hv d_T_nameWord_66
        · have hv := hv.2 b_8
          by_cases b_10 : (K x1.toNatClampNeg) = 20
          · have hv := hv.1 b_10
            refine lv_lookup (tgt := 60) hx hb d_T_nameWord_16 (by decide) (off := 44) (by rw [b_10]; decide) (by decide) ?_
            refine lv_aload_n hx hb d_T_nameWord_60 rfl (lv_at hl 0 rfl) ?_
            refine va_get (D := dd) (ci := 2) (C := Rc_T) (T := Fc_T) (N := 6) (v := .ref aF) hx hb hts (inn in_T) hown hK hP 0 rfl rfl 1 (by decide) (hts (.fieldLink "NetText$Tree" 15 "NetText$Tree" "firstWords" "[I") (tg at_65)) (fun _ h9 => h9) rfl d_T_nameWord_61 ?_
            refine lv_iload_n hx hb d_T_nameWord_64 rfl (lv_at hl 1 rfl) ?_
            obtain ⟨h_11, hv⟩ := hv
            refine va_iald hx hb hK hP 2 1 rfl rfl h_11 d_T_nameWord_65 ?_
            exact rr_i hx hb hr hlocks (F x1.toNatClampNeg) hv d_T_nameWord_66
          · have hv := hv.2 b_10
            refine lv_lookup (tgt := 76) hx hb d_T_nameWord_16 (by decide) (off := 60) (by rw [lv_osw b_4 (by decide), lv_osw b_6 (by decide), lv_osw b_8 (by decide), lv_osw b_10 (by decide)]; rfl) (by decide) ?_
            refine lv_iconst (v := (-1)) hx hb d_T_nameWord_76 (by decide) ?_
            exact rr_i hx hb hr hlocks (-1) hv d_T_nameWord_77
  · have hv := hv.2 b_2
    refine lv_iconst (v := (-1)) hx hb d_T_nameWord_8 (by decide) ?_
    exact rr_i hx hb hr hlocks (-1) hv d_T_nameWord_9
def vc_T_numberWord  (nT : Nat) (cn : Int32) (K : FN) (F : FN) (x1 : Int32) (K_ : Int32 → Prop) : Prop :=
  (vc_T_holds cn x1 (fun r_1 => ((¬ r_1 = 0 → (vp_in x1 nT ∧ (((K x1.toNatClampNeg) = 14 → (vp_in x1 nT ∧ (K_ ((F x1.toNatClampNeg) + 2)))) ∧ (¬ (K x1.toNatClampNeg) = 14 → (((K x1.toNatClampNeg) = 16 → (vp_in x1 nT ∧ (K_ (F x1.toNatClampNeg)))) ∧ (¬ (K x1.toNatClampNeg) = 16 → (K_ (-1)))))))) ∧ (r_1 = 0 → (K_ (-1))))))
set_option maxHeartbeats 4000000 in
set_option maxRecDepth 100000 in
theorem met_T_numberWord {l : Launch} {dd : va_G} {cB cI cL cS : ClassId}  {oT : Nat} {aK : Nat} {aF : Nat} {aP : Nat} {aS : Nat} {aD : Nat}  {nT : Nat} {cn : Int32} {K : FN} {F : FN} {x1 : Int32} {K_ : Int32 → Prop}  (hv : vc_T_numberWord  nT cn K F x1 K_) : CtR l y_T_numberWord w_T_numberWord (rmk 1 0 0) dd cls5 [(cB, .byte), (cI, .int), (cL, .long), (cS, .object "java/lang/String")] X0 [(oT, .inr (2, [.ref aK, .ref aF, .ref aP, .ref aS, .ref aD, .int cn])), (aK, .inl (cI, nT, .inl K)), (aF, .inl (cI, nT, .inl F))] [.ref oT, .int x1] (qR K_) := by
  refine m_ofR (cc := b_T_numberWord) (nL := 2) (ret := (some .int)) (by decide) rfl (Nat.le_of_ble_eq_true rfl) ?_
  intro p e s m below meth c ls ar Fx_ hP hK hX hl
  obtain ⟨hx, hb, hml, hr, hlocks, hown, hts, hinn⟩ := Fx_
  have hl : lv_has ls 2 [(0, .ref oT), (1, .int x1)] := hl
  unfold vc_T_numberWord at hv
  refine lv_aload_n hx hb d_T_numberWord_0 rfl (lv_at hl 0 rfl) ?_
  refine lv_iload_n hx hb d_T_numberWord_1 rfl (lv_at hl 1 rfl) ?_
  have hM := met_T_holds (l := l) (dd := dd) (cB := cB) (cI := cI) (cL := cL) (cS := cS) (oT := oT) (aK := aK) (aF := aF) (aP := aP) (aS := aS) (aD := aD)  hv
  refine krv_i (st := [.int x1, .ref oT]) (rest := []) ⟨hx, hb, hml, hown, hts⟩ hM (cwV 1 hts (gv (tg0 at_405) (tg0 at_406) (tg0 at_407) (tg0 at_3) (tg0 at_408)) rfl rfl rfl (by decide +kernel) (rk (by omega) (by decide))) x0b (fun _ _ _ => trivial) hP hK [0] rfl (ci := 2) rfl rfl (q0 := 0) rfl rfl hl.1 rfl (Nat.le_of_ble_eq_true rfl) d_T_numberWord_2 ⟨Nat.zero_le _, Nat.zero_le _⟩ (fun r_1 hv => ?_)
  refine lv_if_ne (tgt := 10) hx hb d_T_numberWord_5 (by decide) (fun b_2 => ?_) (fun b_2 => ?_)
  · have hv := hv.1 b_2
    refine lv_aload_n hx hb d_T_numberWord_10 rfl (lv_at hl 0 rfl) ?_
    refine va_get (D := dd) (ci := 2) (C := Rc_T) (T := Fc_T) (N := 6) (v := .ref aK) hx hb hts (inn in_T) hown hK hP 0 rfl rfl 0 (by decide) (hts (.fieldLink "NetText$Tree" 9 "NetText$Tree" "kinds" "[I") (tg at_63)) (fun _ h9 => h9) rfl d_T_numberWord_11 ?_
    refine lv_iload_n hx hb d_T_numberWord_14 rfl (lv_at hl 1 rfl) ?_
    obtain ⟨h_3, hv⟩ := hv
    refine va_iald hx hb hK hP 1 1 rfl rfl h_3 d_T_numberWord_15 ?_
    by_cases b_4 : (K x1.toNatClampNeg) = 14
    · have hv := hv.1 b_4
      refine lv_lookup (tgt := 51) hx hb d_T_numberWord_16 (by decide) (off := 35) (by rw [b_4]; decide) (by decide) ?_
      refine lv_aload_n hx hb d_T_numberWord_51 rfl (lv_at hl 0 rfl) ?_
      refine va_get (D := dd) (ci := 2) (C := Rc_T) (T := Fc_T) (N := 6) (v := .ref aF) hx hb hts (inn in_T) hown hK hP 0 rfl rfl 1 (by decide) (hts (.fieldLink "NetText$Tree" 15 "NetText$Tree" "firstWords" "[I") (tg at_65)) (fun _ h9 => h9) rfl d_T_numberWord_52 ?_
      refine lv_iload_n hx hb d_T_numberWord_55 rfl (lv_at hl 1 rfl) ?_
      obtain ⟨h_5, hv⟩ := hv
      refine va_iald hx hb hK hP 2 1 rfl rfl h_5 d_T_numberWord_56 ?_
      refine lv_iconst (v := 2) hx hb d_T_numberWord_57 (by decide) ?_
      refine lv_iadd hx hb d_T_numberWord_58 ?_
      exact rr_i hx hb hr hlocks ((F x1.toNatClampNeg) + 2) hv d_T_numberWord_59
    · have hv := hv.2 b_4
      by_cases b_6 : (K x1.toNatClampNeg) = 16
      · have hv := hv.1 b_6
        refine lv_lookup (tgt := 44) hx hb d_T_numberWord_16 (by decide) (off := 28) (by rw [b_6]; decide) (by decide) ?_
        refine lv_aload_n hx hb d_T_numberWord_44 rfl (lv_at hl 0 rfl) ?_
        refine va_get (D := dd) (ci := 2) (C := Rc_T) (T := Fc_T) (N := 6) (v := .ref aF) hx hb hts (inn in_T) hown hK hP 0 rfl rfl 1 (by decide) (hts (.fieldLink "NetText$Tree" 15 "NetText$Tree" "firstWords" "[I") (tg at_65)) (fun _ h9 => h9) rfl d_T_numberWord_45 ?_
        refine lv_iload_n hx hb d_T_numberWord_48 rfl (lv_at hl 1 rfl) ?_
        obtain ⟨h_7, hv⟩ := hv
        refine va_iald hx hb hK hP 2 1 rfl rfl h_7 d_T_numberWord_49 ?_
        exact rr_i hx hb hr hlocks (F x1.toNatClampNeg) hv d_T_numberWord_50
      · have hv := hv.2 b_6
        refine lv_lookup (tgt := 60) hx hb d_T_numberWord_16 (by decide) (off := 44) (by rw [lv_osw b_4 (by decide), lv_osw b_6 (by decide)]; rfl) (by decide) ?_
        refine lv_iconst (v := (-1)) hx hb d_T_numberWord_60 (by decide) ?_
        exact rr_i hx hb hr hlocks (-1) hv d_T_numberWord_61
  · have hv := hv.2 b_2
    refine lv_iconst (v := (-1)) hx hb d_T_numberWord_8 (by decide) ?_
    exact rr_i hx hb hr hlocks (-1) hv d_T_numberWord_9
