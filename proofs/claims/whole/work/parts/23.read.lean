theorem ap_15 : lw_tbl[15]? = some (.selects "NetText$Parser" ⟨"NetText$Parser", "train", "()V"⟩ ⟨"NetText$Parser", "train", "()V"⟩) := by decide +kernel
theorem ap_48 : lw_tbl[48]? = some (.selects "NetText" ⟨"NetText", "append", "(I)V"⟩ ⟨"NetText", "append", "(I)V"⟩) := by decide +kernel
theorem at_9 : lw_tbl[93]? = some (.initialized "java/lang/IllegalStateException") := by decide +kernel
theorem at_10 : lw_tbl[94]? = some (.initialized "java/util/Arrays") := by decide +kernel
theorem at_25 : lw_tbl[109]? = some (.methodLink "NetText" 1 ⟨"java/lang/Object", "<init>", "()V"⟩) := by decide +kernel
theorem at_28 : lw_tbl[112]? = some (.classLink "NetText" 20 "NetText$Words") := by decide +kernel
theorem at_29 : lw_tbl[113]? = some (.instantiable "NetText$Words" 6) := by decide +kernel
theorem at_30 : lw_tbl[114]? = some (.methodLink "NetText" 22 ⟨"NetText$Words", "<init>", "(I)V"⟩) := by decide +kernel
theorem at_31 : lw_tbl[115]? = some (.instanceMethod ⟨"NetText$Words", "<init>", "(I)V"⟩) := by decide +kernel
theorem at_32 : lw_tbl[116]? = some (.code ⟨"NetText$Words", "<init>", "(I)V"⟩ prog_6_method_1_code 2 none) := by decide +kernel
theorem at_57 : lw_tbl[141]? = some (.classLink "NetText" 29 "NetText$Tree") := by decide +kernel
theorem at_58 : lw_tbl[142]? = some (.instantiable "NetText$Tree" 6) := by decide +kernel
theorem at_59 : lw_tbl[143]? = some (.methodLink "NetText" 31 ⟨"NetText$Tree", "<init>", "(I)V"⟩) := by decide +kernel
theorem at_60 : lw_tbl[144]? = some (.instanceMethod ⟨"NetText$Tree", "<init>", "(I)V"⟩) := by decide +kernel
theorem at_61 : lw_tbl[145]? = some (.code ⟨"NetText$Tree", "<init>", "(I)V"⟩ prog_5_method_1_code 2 none) := by decide +kernel
theorem at_89 : lw_tbl[173]? = some (.classLink "NetText" 36 "NetText$Parser") := by decide +kernel
theorem at_90 : lw_tbl[174]? = some (.instantiable "NetText$Parser" 5) := by decide +kernel
theorem at_91 : lw_tbl[175]? = some (.methodLink "NetText" 38 ⟨"NetText$Parser", "<init>", "(LNetText$Words;LNetText$Tree;)V"⟩) := by decide +kernel
theorem at_92 : lw_tbl[176]? = some (.instanceMethod ⟨"NetText$Parser", "<init>", "(LNetText$Words;LNetText$Tree;)V"⟩) := by decide +kernel
theorem at_93 : lw_tbl[177]? = some (.code ⟨"NetText$Parser", "<init>", "(LNetText$Words;LNetText$Tree;)V"⟩ prog_3_method_1_code 3 none) := by decide +kernel
theorem at_116 : lw_tbl[200]? = some (.fieldLink "NetText" 41 "NetText" "parser" "LNetText$Parser;") := by decide +kernel
theorem at_134 : lw_tbl[218]? = some (.methodLink "NetText" 67 ⟨"NetText$Words", "cut", "([BI)V"⟩) := by decide +kernel
theorem at_135 : lw_tbl[219]? = some (.instanceMethod ⟨"NetText$Words", "cut", "([BI)V"⟩) := by decide +kernel
theorem at_136 : lw_tbl[220]? = some (.selects "NetText$Words" ⟨"NetText$Words", "cut", "([BI)V"⟩ ⟨"NetText$Words", "cut", "([BI)V"⟩) := by decide +kernel
theorem at_137 : lw_tbl[221]? = some (.code ⟨"NetText$Words", "cut", "([BI)V"⟩ prog_6_method_2_code 8 none) := by decide +kernel
theorem at_336 : lw_tbl[420]? = some (.methodLink "NetText" 71 ⟨"NetText$Parser", "parse", "()I"⟩) := by decide +kernel
theorem at_337 : lw_tbl[421]? = some (.instanceMethod ⟨"NetText$Parser", "parse", "()I"⟩) := by decide +kernel
theorem at_338 : lw_tbl[422]? = some (.selects "NetText$Parser" ⟨"NetText$Parser", "parse", "()I"⟩ ⟨"NetText$Parser", "parse", "()I"⟩) := by decide +kernel
theorem at_339 : lw_tbl[423]? = some (.code ⟨"NetText$Parser", "parse", "()I"⟩ prog_3_method_2_code 1 (some .int)) := by decide +kernel
theorem at_340 : lw_tbl[424]? = some (.methodLink "NetText$Parser" 36 ⟨"NetText$Tree", "clear", "(I)V"⟩) := by decide +kernel
theorem at_341 : lw_tbl[425]? = some (.instanceMethod ⟨"NetText$Tree", "clear", "(I)V"⟩) := by decide +kernel
theorem at_342 : lw_tbl[426]? = some (.selects "NetText$Tree" ⟨"NetText$Tree", "clear", "(I)V"⟩ ⟨"NetText$Tree", "clear", "(I)V"⟩) := by decide +kernel
theorem at_343 : lw_tbl[427]? = some (.code ⟨"NetText$Tree", "clear", "(I)V"⟩ prog_5_method_2_code 3 none) := by decide +kernel
theorem at_345 : lw_tbl[429]? = some (.methodLink "NetText$Parser" 42 ⟨"NetText$Words", "sortOf", "(I)I"⟩) := by decide +kernel
theorem at_353 : lw_tbl[437]? = some (.methodLink "NetText$Parser" 46 ⟨"NetText$Parser", "train", "()V"⟩) := by decide +kernel
theorem at_355 : lw_tbl[439]? = some (.instanceMethod ⟨"NetText$Parser", "train", "()V"⟩) := by decide +kernel
theorem at_356 : lw_tbl[440]? = some (.code ⟨"NetText$Parser", "train", "()V"⟩ prog_3_method_9_code 3 none) := by decide +kernel
theorem at_501 : lw_tbl[585]? = some (.methodLink "NetText" 75 ⟨"NetText$Parser", "faultPlace", "()I"⟩) := by decide +kernel
theorem at_502 : lw_tbl[586]? = some (.instanceMethod ⟨"NetText$Parser", "faultPlace", "()I"⟩) := by decide +kernel
theorem at_503 : lw_tbl[587]? = some (.selects "NetText$Parser" ⟨"NetText$Parser", "faultPlace", "()I"⟩ ⟨"NetText$Parser", "faultPlace", "()I"⟩) := by decide +kernel
theorem at_504 : lw_tbl[588]? = some (.code ⟨"NetText$Parser", "faultPlace", "()I"⟩ prog_3_method_3_code 1 (some .int)) := by decide +kernel
theorem at_505 : lw_tbl[589]? = some (.methodLink "NetText$Parser" 52 ⟨"NetText$Words", "startOf", "(I)I"⟩) := by decide +kernel
theorem at_521 : lw_tbl[605]? = some (.constant "NetText" 45 (65516 : Int32)) := by decide +kernel
theorem at_522 : lw_tbl[606]? = some (.classLink "NetText" 46 "java/lang/IllegalStateException") := by decide +kernel
theorem at_589 : lw_tbl[673]? = some (.methodLink "NetText" 53 ⟨"java/util/Arrays", "copyOf", "([BI)[B"⟩) := by decide +kernel
theorem at_590 : lw_tbl[674]? = some (.static ⟨"java/util/Arrays", "copyOf", "([BI)[B"⟩) := by decide +kernel
theorem at_591 : lw_tbl[675]? = some (.code ⟨"java/util/Arrays", "copyOf", "([BI)[B"⟩ prog_22_method_121_code 3 (some (.array .byte))) := by decide +kernel
theorem at_601 : lw_tbl[685]? = some (.methodLink "NetText" 59 ⟨"NetText", "append", "(I)V"⟩) := by decide +kernel
theorem at_603 : lw_tbl[687]? = some (.instanceMethod ⟨"NetText", "append", "(I)V"⟩) := by decide +kernel
theorem at_604 : lw_tbl[688]? = some (.code ⟨"NetText", "append", "(I)V"⟩ prog_1_method_3_code 3 none) := by decide +kernel
abbrev b_P_faultPlace : ByteArray := prog_3_method_3_code
def y_P_faultPlace : MethodName := ⟨"NetText$Parser", "faultPlace", "()I"⟩
abbrev w_P_faultPlace : List Cond := .code y_P_faultPlace b_P_faultPlace 1 (some .int) :: lw_gt
theorem d_P_faultPlace_0 : decode b_P_faultPlace 0 = .ok (.aload_n 0, 1) := by decide +kernel
theorem d_P_faultPlace_1 : decode b_P_faultPlace 1 = .ok (.getfield 9, 3) := by decide +kernel
theorem d_P_faultPlace_4 : decode b_P_faultPlace 4 = .ok (.aload_n 0, 1) := by decide +kernel
theorem d_P_faultPlace_5 : decode b_P_faultPlace 5 = .ok (.getfield 19, 3) := by decide +kernel
theorem d_P_faultPlace_8 : decode b_P_faultPlace 8 = .ok (.invokevirtual 52, 3) := by decide +kernel
theorem d_P_faultPlace_11 : decode b_P_faultPlace 11 = .ok (.ireturn, 1) := by decide +kernel
abbrev b_P_parse : ByteArray := prog_3_method_2_code
def y_P_parse : MethodName := ⟨"NetText$Parser", "parse", "()I"⟩
abbrev w_P_parse : List Cond := .code y_P_parse b_P_parse 1 (some .int) :: lw_gt
theorem d_P_parse_0 : decode b_P_parse 0 = .ok (.aload_n 0, 1) := by decide +kernel
theorem d_P_parse_1 : decode b_P_parse 1 = .ok (.getfield 15, 3) := by decide +kernel
theorem d_P_parse_4 : decode b_P_parse 4 = .ok (.aload_n 0, 1) := by decide +kernel
theorem d_P_parse_5 : decode b_P_parse 5 = .ok (.getfield 9, 3) := by decide +kernel
theorem d_P_parse_8 : decode b_P_parse 8 = .ok (.getfield 31, 3) := by decide +kernel
theorem d_P_parse_11 : decode b_P_parse 11 = .ok (.invokevirtual 36, 3) := by decide +kernel
theorem d_P_parse_14 : decode b_P_parse 14 = .ok (.aload_n 0, 1) := by decide +kernel
theorem d_P_parse_15 : decode b_P_parse 15 = .ok (.iconst 0, 1) := by decide +kernel
theorem d_P_parse_16 : decode b_P_parse 16 = .ok (.putfield 19, 3) := by decide +kernel
theorem d_P_parse_19 : decode b_P_parse 19 = .ok (.aload_n 0, 1) := by decide +kernel
theorem d_P_parse_20 : decode b_P_parse 20 = .ok (.aload_n 0, 1) := by decide +kernel
theorem d_P_parse_21 : decode b_P_parse 21 = .ok (.getfield 9, 3) := by decide +kernel
theorem d_P_parse_24 : decode b_P_parse 24 = .ok (.iconst 0, 1) := by decide +kernel
theorem d_P_parse_25 : decode b_P_parse 25 = .ok (.invokevirtual 42, 3) := by decide +kernel
theorem d_P_parse_28 : decode b_P_parse 28 = .ok (.putfield 25, 3) := by decide +kernel
theorem d_P_parse_31 : decode b_P_parse 31 = .ok (.aload_n 0, 1) := by decide +kernel
theorem d_P_parse_32 : decode b_P_parse 32 = .ok (.iconst 0, 1) := by decide +kernel
theorem d_P_parse_33 : decode b_P_parse 33 = .ok (.putfield 28, 3) := by decide +kernel
theorem d_P_parse_36 : decode b_P_parse 36 = .ok (.aload_n 0, 1) := by decide +kernel
theorem d_P_parse_37 : decode b_P_parse 37 = .ok (.invokevirtual 46, 3) := by decide +kernel
theorem d_P_parse_40 : decode b_P_parse 40 = .ok (.aload_n 0, 1) := by decide +kernel
theorem d_P_parse_41 : decode b_P_parse 41 = .ok (.iconst (-1), 1) := by decide +kernel
theorem d_P_parse_42 : decode b_P_parse 42 = .ok (.invokevirtual 49, 3) := by decide +kernel
theorem d_P_parse_45 : decode b_P_parse 45 = .ok (.aload_n 0, 1) := by decide +kernel
theorem d_P_parse_46 : decode b_P_parse 46 = .ok (.getfield 25, 3) := by decide +kernel
theorem d_P_parse_49 : decode b_P_parse 49 = .ok (.iconst 1, 1) := by decide +kernel
theorem d_P_parse_50 : decode b_P_parse 50 = .ok (.if_icmp .ne 5, 3) := by decide +kernel
theorem d_P_parse_53 : decode b_P_parse 53 = .ok (.iconst 0, 1) := by decide +kernel
theorem d_P_parse_54 : decode b_P_parse 54 = .ok (.ireturn, 1) := by decide +kernel
theorem d_P_parse_55 : decode b_P_parse 55 = .ok (.aload_n 0, 1) := by decide +kernel
theorem d_P_parse_56 : decode b_P_parse 56 = .ok (.getfield 15, 3) := by decide +kernel
theorem d_P_parse_59 : decode b_P_parse 59 = .ok (.iconst 0, 1) := by decide +kernel
theorem d_P_parse_60 : decode b_P_parse 60 = .ok (.invokevirtual 36, 3) := by decide +kernel
theorem d_P_parse_63 : decode b_P_parse 63 = .ok (.aload_n 0, 1) := by decide +kernel
theorem d_P_parse_64 : decode b_P_parse 64 = .ok (.getfield 9, 3) := by decide +kernel
theorem d_P_parse_67 : decode b_P_parse 67 = .ok (.aload_n 0, 1) := by decide +kernel
theorem d_P_parse_68 : decode b_P_parse 68 = .ok (.getfield 19, 3) := by decide +kernel
theorem d_P_parse_71 : decode b_P_parse 71 = .ok (.invokevirtual 42, 3) := by decide +kernel
theorem d_P_parse_74 : decode b_P_parse 74 = .ok (.iconst 2, 1) := by decide +kernel
theorem d_P_parse_75 : decode b_P_parse 75 = .ok (.if_icmp .ne 7, 3) := by decide +kernel
theorem d_P_parse_78 : decode b_P_parse 78 = .ok (.iconst 1, 1) := by decide +kernel
theorem d_P_parse_79 : decode b_P_parse 79 = .ok (.goto 4, 3) := by decide +kernel
theorem d_P_parse_82 : decode b_P_parse 82 = .ok (.iconst 2, 1) := by decide +kernel
theorem d_P_parse_83 : decode b_P_parse 83 = .ok (.ireturn, 1) := by decide +kernel
abbrev b_N_read : ByteArray := prog_1_method_5_code
def y_N_read : MethodName := ⟨"NetText", "read", "()I"⟩
abbrev w_N_read : List Cond := .code y_N_read b_N_read 2 (some .int) :: lw_gt
theorem d_N_read_0 : decode b_N_read 0 = .ok (.aload_n 0, 1) := by decide +kernel
theorem d_N_read_1 : decode b_N_read 1 = .ok (.getfield 25, 3) := by decide +kernel
theorem d_N_read_4 : decode b_N_read 4 = .ok (.aload_n 0, 1) := by decide +kernel
theorem d_N_read_5 : decode b_N_read 5 = .ok (.getfield 9, 3) := by decide +kernel
theorem d_N_read_8 : decode b_N_read 8 = .ok (.aload_n 0, 1) := by decide +kernel
theorem d_N_read_9 : decode b_N_read 9 = .ok (.getfield 13, 3) := by decide +kernel
theorem d_N_read_12 : decode b_N_read 12 = .ok (.invokevirtual 67, 3) := by decide +kernel
theorem d_N_read_15 : decode b_N_read 15 = .ok (.aload_n 0, 1) := by decide +kernel
theorem d_N_read_16 : decode b_N_read 16 = .ok (.iconst 0, 1) := by decide +kernel
theorem d_N_read_17 : decode b_N_read 17 = .ok (.putfield 13, 3) := by decide +kernel
theorem d_N_read_20 : decode b_N_read 20 = .ok (.aload_n 0, 1) := by decide +kernel
theorem d_N_read_21 : decode b_N_read 21 = .ok (.getfield 41, 3) := by decide +kernel
theorem d_N_read_24 : decode b_N_read 24 = .ok (.invokevirtual 71, 3) := by decide +kernel
theorem d_N_read_27 : decode b_N_read 27 = .ok (.istore_n 1, 1) := by decide +kernel
theorem d_N_read_28 : decode b_N_read 28 = .ok (.aload_n 0, 1) := by decide +kernel
theorem d_N_read_29 : decode b_N_read 29 = .ok (.iload_n 1, 1) := by decide +kernel
theorem d_N_read_30 : decode b_N_read 30 = .ok (.ifCond .ne 7, 3) := by decide +kernel
theorem d_N_read_33 : decode b_N_read 33 = .ok (.iconst (-1), 1) := by decide +kernel
theorem d_N_read_34 : decode b_N_read 34 = .ok (.goto 10, 3) := by decide +kernel
theorem d_N_read_37 : decode b_N_read 37 = .ok (.aload_n 0, 1) := by decide +kernel
theorem d_N_read_38 : decode b_N_read 38 = .ok (.getfield 41, 3) := by decide +kernel
theorem d_N_read_41 : decode b_N_read 41 = .ok (.invokevirtual 75, 3) := by decide +kernel
theorem d_N_read_44 : decode b_N_read 44 = .ok (.putfield 17, 3) := by decide +kernel
theorem d_N_read_47 : decode b_N_read 47 = .ok (.iload_n 1, 1) := by decide +kernel
theorem d_N_read_48 : decode b_N_read 48 = .ok (.ifCond .ne 13, 3) := by decide +kernel
theorem d_N_read_51 : decode b_N_read 51 = .ok (.aload_n 0, 1) := by decide +kernel
theorem d_N_read_52 : decode b_N_read 52 = .ok (.getfield 32, 3) := by decide +kernel
theorem d_N_read_55 : decode b_N_read 55 = .ok (.getfield 78, 3) := by decide +kernel
theorem d_N_read_58 : decode b_N_read 58 = .ok (.goto 7, 3) := by decide +kernel
theorem d_N_read_61 : decode b_N_read 61 = .ok (.iload_n 1, 1) := by decide +kernel
theorem d_N_read_62 : decode b_N_read 62 = .ok (.bipush 100, 2) := by decide +kernel
theorem d_N_read_64 : decode b_N_read 64 = .ok (.isub, 1) := by decide +kernel
theorem d_N_read_65 : decode b_N_read 65 = .ok (.ireturn, 1) := by decide +kernel
abbrev b_N_feed : ByteArray := prog_1_method_2_code
def y_N_feed : MethodName := ⟨"NetText", "feed", "(IIIII)I"⟩
abbrev w_N_feed : List Cond := .code y_N_feed b_N_feed 6 (some .int) :: lw_gt
theorem d_N_feed_0 : decode b_N_feed 0 = .ok (.aload_n 0, 1) := by decide +kernel
theorem d_N_feed_1 : decode b_N_feed 1 = .ok (.getfield 13, 3) := by decide +kernel
theorem d_N_feed_4 : decode b_N_feed 4 = .ok (.ldc 45, 2) := by decide +kernel
theorem d_N_feed_6 : decode b_N_feed 6 = .ok (.if_icmp .le 13, 3) := by decide +kernel
theorem d_N_feed_9 : decode b_N_feed 9 = .ok (.new 46, 3) := by decide +kernel
theorem d_N_feed_12 : decode b_N_feed 12 = .ok (.dup, 1) := by decide +kernel
theorem d_N_feed_13 : decode b_N_feed 13 = .ok (.ldc 48, 2) := by decide +kernel
theorem d_N_feed_15 : decode b_N_feed 15 = .ok (.invokespecial 50, 3) := by decide +kernel
theorem d_N_feed_18 : decode b_N_feed 18 = .ok (.athrow, 1) := by decide +kernel
theorem d_N_feed_19 : decode b_N_feed 19 = .ok (.aload_n 0, 1) := by decide +kernel
theorem d_N_feed_20 : decode b_N_feed 20 = .ok (.getfield 13, 3) := by decide +kernel
theorem d_N_feed_23 : decode b_N_feed 23 = .ok (.bipush 20, 2) := by decide +kernel
theorem d_N_feed_25 : decode b_N_feed 25 = .ok (.iadd, 1) := by decide +kernel
theorem d_N_feed_26 : decode b_N_feed 26 = .ok (.aload_n 0, 1) := by decide +kernel
theorem d_N_feed_27 : decode b_N_feed 27 = .ok (.getfield 9, 3) := by decide +kernel
theorem d_N_feed_30 : decode b_N_feed 30 = .ok (.arraylength, 1) := by decide +kernel
theorem d_N_feed_31 : decode b_N_feed 31 = .ok (.if_icmp .le 21, 3) := by decide +kernel
theorem d_N_feed_34 : decode b_N_feed 34 = .ok (.aload_n 0, 1) := by decide +kernel
theorem d_N_feed_35 : decode b_N_feed 35 = .ok (.aload_n 0, 1) := by decide +kernel
theorem d_N_feed_36 : decode b_N_feed 36 = .ok (.getfield 9, 3) := by decide +kernel
theorem d_N_feed_39 : decode b_N_feed 39 = .ok (.iconst 2, 1) := by decide +kernel
theorem d_N_feed_40 : decode b_N_feed 40 = .ok (.aload_n 0, 1) := by decide +kernel
theorem d_N_feed_41 : decode b_N_feed 41 = .ok (.getfield 9, 3) := by decide +kernel
theorem d_N_feed_44 : decode b_N_feed 44 = .ok (.arraylength, 1) := by decide +kernel
theorem d_N_feed_45 : decode b_N_feed 45 = .ok (.imul, 1) := by decide +kernel
theorem d_N_feed_46 : decode b_N_feed 46 = .ok (.invokestatic 53, 3) := by decide +kernel
theorem d_N_feed_49 : decode b_N_feed 49 = .ok (.putfield 9, 3) := by decide +kernel
theorem d_N_feed_52 : decode b_N_feed 52 = .ok (.aload_n 0, 1) := by decide +kernel
theorem d_N_feed_53 : decode b_N_feed 53 = .ok (.iload_n 1, 1) := by decide +kernel
theorem d_N_feed_54 : decode b_N_feed 54 = .ok (.invokevirtual 59, 3) := by decide +kernel
theorem d_N_feed_57 : decode b_N_feed 57 = .ok (.aload_n 0, 1) := by decide +kernel
theorem d_N_feed_58 : decode b_N_feed 58 = .ok (.iload_n 2, 1) := by decide +kernel
theorem d_N_feed_59 : decode b_N_feed 59 = .ok (.invokevirtual 59, 3) := by decide +kernel
theorem d_N_feed_62 : decode b_N_feed 62 = .ok (.aload_n 0, 1) := by decide +kernel
theorem d_N_feed_63 : decode b_N_feed 63 = .ok (.iload_n 3, 1) := by decide +kernel
theorem d_N_feed_64 : decode b_N_feed 64 = .ok (.invokevirtual 59, 3) := by decide +kernel
theorem d_N_feed_67 : decode b_N_feed 67 = .ok (.aload_n 0, 1) := by decide +kernel
theorem d_N_feed_68 : decode b_N_feed 68 = .ok (.iload 4, 2) := by decide +kernel
theorem d_N_feed_70 : decode b_N_feed 70 = .ok (.invokevirtual 59, 3) := by decide +kernel
theorem d_N_feed_73 : decode b_N_feed 73 = .ok (.aload_n 0, 1) := by decide +kernel
theorem d_N_feed_74 : decode b_N_feed 74 = .ok (.iload 5, 2) := by decide +kernel
theorem d_N_feed_76 : decode b_N_feed 76 = .ok (.invokevirtual 59, 3) := by decide +kernel
theorem d_N_feed_79 : decode b_N_feed 79 = .ok (.aload_n 0, 1) := by decide +kernel
theorem d_N_feed_80 : decode b_N_feed 80 = .ok (.getfield 13, 3) := by decide +kernel
theorem d_N_feed_83 : decode b_N_feed 83 = .ok (.ireturn, 1) := by decide +kernel
abbrev b_N_init : ByteArray := prog_1_method_1_code
def y_N_init : MethodName := ⟨"NetText", "<init>", "()V"⟩
abbrev w_N_init : List Cond := .code y_N_init b_N_init 1 none :: lw_gt
theorem d_N_init_0 : decode b_N_init 0 = .ok (.aload_n 0, 1) := by decide +kernel
theorem d_N_init_1 : decode b_N_init 1 = .ok (.invokespecial 1, 3) := by decide +kernel
theorem d_N_init_4 : decode b_N_init 4 = .ok (.aload_n 0, 1) := by decide +kernel
theorem d_N_init_5 : decode b_N_init 5 = .ok (.sipush 512, 3) := by decide +kernel
theorem d_N_init_8 : decode b_N_init 8 = .ok (.newarray .byte, 2) := by decide +kernel
theorem d_N_init_10 : decode b_N_init 10 = .ok (.putfield 9, 3) := by decide +kernel
theorem d_N_init_13 : decode b_N_init 13 = .ok (.aload_n 0, 1) := by decide +kernel
theorem d_N_init_14 : decode b_N_init 14 = .ok (.iconst 0, 1) := by decide +kernel
theorem d_N_init_15 : decode b_N_init 15 = .ok (.putfield 13, 3) := by decide +kernel
theorem d_N_init_18 : decode b_N_init 18 = .ok (.aload_n 0, 1) := by decide +kernel
theorem d_N_init_19 : decode b_N_init 19 = .ok (.iconst (-1), 1) := by decide +kernel
theorem d_N_init_20 : decode b_N_init 20 = .ok (.putfield 17, 3) := by decide +kernel
theorem d_N_init_23 : decode b_N_init 23 = .ok (.aload_n 0, 1) := by decide +kernel
theorem d_N_init_24 : decode b_N_init 24 = .ok (.new 20, 3) := by decide +kernel
theorem d_N_init_27 : decode b_N_init 27 = .ok (.dup, 1) := by decide +kernel
theorem d_N_init_28 : decode b_N_init 28 = .ok (.sipush 512, 3) := by decide +kernel
theorem d_N_init_31 : decode b_N_init 31 = .ok (.invokespecial 22, 3) := by decide +kernel
theorem d_N_init_34 : decode b_N_init 34 = .ok (.putfield 25, 3) := by decide +kernel
theorem d_N_init_37 : decode b_N_init 37 = .ok (.aload_n 0, 1) := by decide +kernel
theorem d_N_init_38 : decode b_N_init 38 = .ok (.new 29, 3) := by decide +kernel
theorem d_N_init_41 : decode b_N_init 41 = .ok (.dup, 1) := by decide +kernel
theorem d_N_init_42 : decode b_N_init 42 = .ok (.sipush 512, 3) := by decide +kernel
theorem d_N_init_45 : decode b_N_init 45 = .ok (.invokespecial 31, 3) := by decide +kernel
theorem d_N_init_48 : decode b_N_init 48 = .ok (.putfield 32, 3) := by decide +kernel
theorem d_N_init_51 : decode b_N_init 51 = .ok (.aload_n 0, 1) := by decide +kernel
theorem d_N_init_52 : decode b_N_init 52 = .ok (.new 36, 3) := by decide +kernel
theorem d_N_init_55 : decode b_N_init 55 = .ok (.dup, 1) := by decide +kernel
theorem d_N_init_56 : decode b_N_init 56 = .ok (.aload_n 0, 1) := by decide +kernel
theorem d_N_init_57 : decode b_N_init 57 = .ok (.getfield 25, 3) := by decide +kernel
theorem d_N_init_60 : decode b_N_init 60 = .ok (.aload_n 0, 1) := by decide +kernel
theorem d_N_init_61 : decode b_N_init 61 = .ok (.getfield 32, 3) := by decide +kernel
theorem d_N_init_64 : decode b_N_init 64 = .ok (.invokespecial 38, 3) := by decide +kernel
theorem d_N_init_67 : decode b_N_init 67 = .ok (.putfield 41, 3) := by decide +kernel
theorem d_N_init_70 : decode b_N_init 70 = .ok (.return_, 1) := by decide +kernel
def vc_P_faultPlace  (nO : Nat) (wc : Int32) (at_ : Int32) (sb : FN)  (K_ : Int32 → Prop) : Prop :=
  (vc_W_startOf nO sb wc at_ (fun r_1 => (K_ r_1)))
set_option maxHeartbeats 4000000 in
set_option maxRecDepth 100000 in
theorem met_P_faultPlace {l : Launch} {dd : va_G} {cB cI cL cS : ClassId}  {oP : Nat} {oW : Nat} {aX : Nat} {aO : Nat} {aB : Nat} {aE : Nat} {oT : Nat}  {nO : Nat} {wc : Int32} {at_ : Int32} {sb : FN} {ln : Int32} {sr : Int32} {dp : Int32}  {K_ : Int32 → Prop}  (hv : vc_P_faultPlace  nO wc at_ sb  K_) : CtR l y_P_faultPlace w_P_faultPlace (rmk 2 0 0) dd cls5 [(cB, .byte), (cI, .int), (cL, .long), (cS, .object "java/lang/String")] X0 [(oP, .inr (3, [.ref oW, .ref oT, .int at_, .int sr, .int dp])), (oW, .inr (1, [.ref aX, .int ln, .ref aO, .ref aB, .ref aE, .int wc])), (aB, .inl (cI, nO, .inl sb))] [.ref oP] (qR K_) := by
  refine m_ofR (cc := b_P_faultPlace) (nL := 1) (ret := (some .int)) (by decide) rfl (Nat.le_of_ble_eq_true rfl) ?_
  intro p e s m below meth c ls ar Fx_ hP hK hX hl
  obtain ⟨hx, hb, hml, hr, hlocks, hown, hts, hinn⟩ := Fx_
  have hl : lv_has ls 1 [(0, .ref oP)] := hl
  unfold vc_P_faultPlace at hv
  refine lv_aload_n hx hb d_P_faultPlace_0 rfl (lv_at hl 0 rfl) ?_
  refine va_get (D := dd) (ci := 3) (C := Rc_P) (T := Fc_P) (N := 5) (v := .ref oW) hx hb hts (inn in_P) hown hK hP 0 rfl rfl 0 (by decide) (hts (.fieldLink "NetText$Parser" 9 "NetText$Parser" "words" "LNetText$Words;") (tg at_95)) (fun _ h9 => h9) rfl d_P_faultPlace_1 ?_
  refine lv_aload_n hx hb d_P_faultPlace_4 rfl (lv_at hl 0 rfl) ?_
  refine va_get (D := dd) (ci := 3) (C := Rc_P) (T := Fc_P) (N := 5) (v := .int at_) hx hb hts (inn in_P) hown hK hP 0 rfl rfl 2 (by decide) (hts (.fieldLink "NetText$Parser" 19 "NetText$Parser" "at" "I") (tg at_97)) (fun _ h9 => h9) rfl d_P_faultPlace_5 ?_
  have hM := met_W_startOf (l := l) (dd := dd) (cB := cB) (cI := cI) (cL := cL) (cS := cS) (oW := oW) (aX := aX) (aO := aO) (aB := aB) (aE := aE) (ln := ln)  hv
  refine krv_i (st := [.int at_, .ref oW]) (rest := []) ⟨hx, hb, hml, hown, hts⟩ hM (cwV 1 hts (gv (tg0 at_505) (tg0 at_506) (tg0 at_507) (tg0 at_2) (tg0 at_508)) rfl rfl rfl (by decide +kernel) (rk (by omega) (by decide))) x0b (fun _ _ _ => trivial) hP hK [1, 2] rfl (ci := 1) rfl rfl (q0 := 1) rfl rfl hl.1 rfl (Nat.le_of_ble_eq_true rfl) d_P_faultPlace_8 ⟨Nat.zero_le _, Nat.zero_le _⟩ (fun r_1 hv => ?_)
  exact rr_i hx hb hr hlocks r_1 hv d_P_faultPlace_11
def vc_P_parse  (mc_ : Nat) (ms_ : Nat) (nO : Nat) (so : FN) (wc : Int32) (nT : Nat) (cn : Int32) (K : FN) (F : FN) (Pa : FN) (Sg : FN) (Dp : FN) (at_ : Int32) (sr : Int32) (dp : Int32) (aK : Nat) (aF : Nat) (aP : Nat) (aS : Nat) (aD : Nat)  (K_ : Int32 → Nat → Nat → Nat → Nat → Nat → Nat → Int32 → FN → FN → FN → FN → FN → Int32 → Int32 → Int32 → Prop) : Prop :=
  (∃ c_14 s_15 : Nat, 0 + c_14 ≤ mc_ ∧ 0 + s_15 ≤ ms_ ∧ (vc_T_clear c_14 s_15 nT cn K F Pa Sg Dp aK aF aP aS aD wc (fun aK_2 aF_3 aP_4 aS_5 aD_6 nT_7 cn_8 K_9 F_10 Pa_11 Sg_12 Dp_13 => (vc_W_sortOf nO so wc 0 (fun r_16 => (vc_P_train nO so wc nT_7 cn_8 K_9 F_10 Pa_11 Sg_12 Dp_13 0 r_16 0 (fun cn_18 K_19 F_20 Pa_21 Sg_22 Dp_23 at_24 sr_25 dp_26 => (vIx nO so wc nT_7 cn_18 K_19 F_20 Pa_21 Sg_22 Dp_23 at_24 sr_25 dp_26 (-1) (fun cn_28 K_29 F_30 Pa_31 Sg_32 Dp_33 at_34 sr_35 dp_36 => ((¬ sr_35 = 1 → (∃ c_51 s_52 : Nat, 0 + c_14 + c_51 ≤ mc_ ∧ 0 + s_15 + s_52 ≤ ms_ ∧ (vc_T_clear c_51 s_52 nT_7 cn_28 K_29 F_30 Pa_31 Sg_32 Dp_33 aK_2 aF_3 aP_4 aS_5 aD_6 0 (fun aK_39 aF_40 aP_41 aS_42 aD_43 nT_44 cn_45 K_46 F_47 Pa_48 Sg_49 Dp_50 => (vc_W_sortOf nO so wc at_34 (fun r_53 => ((¬ r_53 = 2 → (K_ 2 aK_39 aF_40 aP_41 aS_42 aD_43 nT_44 cn_45 K_46 F_47 Pa_48 Sg_49 Dp_50 at_34 sr_35 dp_36)) ∧ (r_53 = 2 → (K_ 1 aK_39 aF_40 aP_41 aS_42 aD_43 nT_44 cn_45 K_46 F_47 Pa_48 Sg_49 Dp_50 at_34 sr_35 dp_36))))))))) ∧ (sr_35 = 1 → (K_ 0 aK_2 aF_3 aP_4 aS_5 aD_6 nT_7 cn_28 K_29 F_30 Pa_31 Sg_32 Dp_33 at_34 sr_35 dp_36))))))))))))
set_option maxHeartbeats 4000000 in
set_option maxRecDepth 100000 in
theorem met_P_parse {l : Launch} {dd : va_G} {cB cI cL cS : ClassId}  {oP : Nat} {oW : Nat} {aX : Nat} {aO : Nat} {aB : Nat} {aE : Nat} {oT : Nat}  {mc_ : Nat} {ms_ : Nat} {nO : Nat} {so : FN} {wc : Int32} {nT : Nat} {cn : Int32} {K : FN} {F : FN} {Pa : FN} {Sg : FN} {Dp : FN} {at_ : Int32} {sr : Int32} {dp : Int32} {aK : Nat} {aF : Nat} {aP : Nat} {aS : Nat} {aD : Nat} {ln : Int32}  {K_ : Int32 → Nat → Nat → Nat → Nat → Nat → Nat → Int32 → FN → FN → FN → FN → FN → Int32 → Int32 → Int32 → Prop}  (hv : vc_P_parse  mc_ ms_ nO so wc nT cn K F Pa Sg Dp at_ sr dp aK aF aP aS aD  K_) : Ct l y_P_parse w_P_parse (rmk 721 mc_ ms_) dd cls5 [(cB, .byte), (cI, .int), (cL, .long), (cS, .object "java/lang/String")] XN [(oP, .inr (3, [.ref oW, .ref oT, .int at_, .int sr, .int dp])), (oW, .inr (1, [.ref aX, .int ln, .ref aO, .ref aB, .ref aE, .int wc])), (aO, .inl (cI, nO, .inl so)), (oT, .inr (2, [.ref aK, .ref aF, .ref aP, .ref aS, .ref aD, .int cn])), (aK, .inl (cI, nT, .inl K)), (aF, .inl (cI, nT, .inl F)), (aP, .inl (cI, nT, .inl Pa)), (aS, .inl (cI, nT, .inl Sg)), (aD, .inl (cI, nT, .inl Dp))] [.ref oP] (qi dd cls5 [(cB, .byte), (cI, .int), (cL, .long), (cS, .object "java/lang/String")] (fun u_ : Nat × Nat × Nat × Nat × Nat × Nat × Int32 × FN × FN × FN × FN × FN × Int32 × Int32 × Int32 => [(oP, .inr (3, [.ref oW, .ref oT, .int u_.2.2.2.2.2.2.2.2.2.2.2.2.1, .int u_.2.2.2.2.2.2.2.2.2.2.2.2.2.1, .int u_.2.2.2.2.2.2.2.2.2.2.2.2.2.2])), (oW, .inr (1, [.ref aX, .int ln, .ref aO, .ref aB, .ref aE, .int wc])), (aO, .inl (cI, nO, .inl so)), (oT, .inr (2, [.ref u_.1, .ref u_.2.1, .ref u_.2.2.1, .ref u_.2.2.2.1, .ref u_.2.2.2.2.1, .int u_.2.2.2.2.2.2.1])), (u_.1, .inl (cI, u_.2.2.2.2.2.1, .inl u_.2.2.2.2.2.2.2.1)), (u_.2.1, .inl (cI, u_.2.2.2.2.2.1, .inl u_.2.2.2.2.2.2.2.2.1)), (u_.2.2.1, .inl (cI, u_.2.2.2.2.2.1, .inl u_.2.2.2.2.2.2.2.2.2.1)), (u_.2.2.2.1, .inl (cI, u_.2.2.2.2.2.1, .inl u_.2.2.2.2.2.2.2.2.2.2.1)), (u_.2.2.2.2.1, .inl (cI, u_.2.2.2.2.2.1, .inl u_.2.2.2.2.2.2.2.2.2.2.2.1))]) (fun r_ u_ => K_ r_ u_.1 u_.2.1 u_.2.2.1 u_.2.2.2.1 u_.2.2.2.2.1 u_.2.2.2.2.2.1 u_.2.2.2.2.2.2.1 u_.2.2.2.2.2.2.2.1 u_.2.2.2.2.2.2.2.2.1 u_.2.2.2.2.2.2.2.2.2.1 u_.2.2.2.2.2.2.2.2.2.2.1 u_.2.2.2.2.2.2.2.2.2.2.2.1 u_.2.2.2.2.2.2.2.2.2.2.2.2.1 u_.2.2.2.2.2.2.2.2.2.2.2.2.2.1 u_.2.2.2.2.2.2.2.2.2.2.2.2.2.2)) mc_ ms_ := by
  refine m_of (cc := b_P_parse) (nL := 1) (ret := (some .int)) (by decide) rfl (Nat.le_of_ble_eq_true rfl) ?_
  intro p e s m below meth c ls A ar Fx_ hA hP hK hD hS hX hl
  obtain ⟨hx, hb, hml, hr, hlocks, hown, hts, hinn⟩ := Fx_
  generalize hQ : MQ below ((qi dd cls5 [(cB, .byte), (cI, .int), (cL, .long), (cS, .object "java/lang/String")] (fun u_ : Nat × Nat × Nat × Nat × Nat × Nat × Int32 × FN × FN × FN × FN × FN × Int32 × Int32 × Int32 => [(oP, .inr (3, [.ref oW, .ref oT, .int u_.2.2.2.2.2.2.2.2.2.2.2.2.1, .int u_.2.2.2.2.2.2.2.2.2.2.2.2.2.1, .int u_.2.2.2.2.2.2.2.2.2.2.2.2.2.2])), (oW, .inr (1, [.ref aX, .int ln, .ref aO, .ref aB, .ref aE, .int wc])), (aO, .inl (cI, nO, .inl so)), (oT, .inr (2, [.ref u_.1, .ref u_.2.1, .ref u_.2.2.1, .ref u_.2.2.2.1, .ref u_.2.2.2.2.1, .int u_.2.2.2.2.2.2.1])), (u_.1, .inl (cI, u_.2.2.2.2.2.1, .inl u_.2.2.2.2.2.2.2.1)), (u_.2.1, .inl (cI, u_.2.2.2.2.2.1, .inl u_.2.2.2.2.2.2.2.2.1)), (u_.2.2.1, .inl (cI, u_.2.2.2.2.2.1, .inl u_.2.2.2.2.2.2.2.2.2.1)), (u_.2.2.2.1, .inl (cI, u_.2.2.2.2.2.1, .inl u_.2.2.2.2.2.2.2.2.2.2.1)), (u_.2.2.2.2.1, .inl (cI, u_.2.2.2.2.2.1, .inl u_.2.2.2.2.2.2.2.2.2.2.2.1))]) (fun r_ u_ => K_ r_ u_.1 u_.2.1 u_.2.2.1 u_.2.2.2.1 u_.2.2.2.2.1 u_.2.2.2.2.2.1 u_.2.2.2.2.2.2.1 u_.2.2.2.2.2.2.2.1 u_.2.2.2.2.2.2.2.2.1 u_.2.2.2.2.2.2.2.2.2.1 u_.2.2.2.2.2.2.2.2.2.2.1 u_.2.2.2.2.2.2.2.2.2.2.2.1 u_.2.2.2.2.2.2.2.2.2.2.2.2.1 u_.2.2.2.2.2.2.2.2.2.2.2.2.2.1 u_.2.2.2.2.2.2.2.2.2.2.2.2.2.2)) A) ar s mc_ ms_ A = QQ
  have hl : lv_has ls 1 [(0, .ref oP)] := hl
  unfold vc_P_parse at hv
  refine lv_aload_n hx hb d_P_parse_0 rfl (lv_at hl 0 rfl) ?_
  refine va_get (D := dd) (ci := 3) (C := Rc_P) (T := Fc_P) (N := 5) (v := .ref oT) hx hb hts (inn in_P) hown hK hP 0 rfl rfl 1 (by decide) (hts (.fieldLink "NetText$Parser" 15 "NetText$Parser" "tree" "LNetText$Tree;") (tg at_96)) (fun _ h9 => h9) rfl d_P_parse_1 ?_
  refine lv_aload_n hx hb d_P_parse_4 rfl (lv_at hl 0 rfl) ?_
  refine va_get (D := dd) (ci := 3) (C := Rc_P) (T := Fc_P) (N := 5) (v := .ref oW) hx hb hts (inn in_P) hown hK hP 0 rfl rfl 0 (by decide) (hts (.fieldLink "NetText$Parser" 9 "NetText$Parser" "words" "LNetText$Words;") (tg at_95)) (fun _ h9 => h9) rfl d_P_parse_5 ?_
  refine va_getN (D := dd) (ci := 1) (C := Rc_W) (T := Fc_W) (N := 6) (v := .int wc) hx hb hts (inn in_W) hown hK hP 1 rfl rfl 5 (by decide) (va_Nw.use rfl (hX _ nw_1)) (fun _ h9 => h9) rfl d_P_parse_8 ?_
  obtain ⟨c_14, s_15, h_62, h_63, hv⟩ := hv
  have hM := met_T_clear (l := l) (dd := dd) (cB := cB) (cI := cI) (cL := cL) (cS := cS) (oT := oT)  hv
  refine kv_v (st := [.int wc, .ref oT]) (rest := []) (wr := [(oP, .inr (3, [.ref oW, .ref oT, .int at_, .int sr, .int dp])), (oW, .inr (1, [.ref aX, .int ln, .ref aO, .ref aB, .ref aE, .int wc])), (aO, .inl (cI, nO, .inl so))]) ⟨hx, hb, hml, hown, hts⟩ hM (cwV 1 hts (gv (tg0 at_340) (tg0 at_341) (tg0 at_342) (tg0 at_3) (tg0 at_343)) rfl rfl rfl (by decide +kernel) (rk (by omega) (by decide))) x0b x0g hP hK hD hS hA [3, 4, 5, 6, 7, 8] [0, 1, 2] rfl rfl (by decide) (by decide) (by decide) (ci := 2) rfl rfl (q0 := 3) rfl rfl hl.1 rfl (Nat.le_of_ble_eq_true rfl) d_P_parse_11 ⟨h_62, h_63⟩ (fun u_64 H locs hv hP hD hS => ?_)
  obtain ⟨aK_2, aF_3, aP_4, aS_5, aD_6, nT_7, cn_8, K_9, F_10, Pa_11, Sg_12, Dp_13⟩ := u_64
  have hP : va_P dd cls5 [(oP, .inr (3, [.ref oW, .ref oT, .int at_, .int sr, .int dp])), (oW, .inr (1, [.ref aX, .int ln, .ref aO, .ref aB, .ref aE, .int wc])), (aO, .inl (cI, nO, .inl so)), (oT, .inr (2, [.ref aK_2, .ref aF_3, .ref aP_4, .ref aS_5, .ref aD_6, .int cn_8])), (aK_2, .inl (cI, nT_7, .inl K_9)), (aF_3, .inl (cI, nT_7, .inl F_10)), (aP_4, .inl (cI, nT_7, .inl Pa_11)), (aS_5, .inl (cI, nT_7, .inl Sg_12)), (aD_6, .inl (cI, nT_7, .inl Dp_13))] H := hP
  have hD : va_D A [(oP, .inr (3, [.ref oW, .ref oT, .int at_, .int sr, .int dp])), (oW, .inr (1, [.ref aX, .int ln, .ref aO, .ref aB, .ref aE, .int wc])), (aO, .inl (cI, nO, .inl so)), (oT, .inr (2, [.ref aK_2, .ref aF_3, .ref aP_4, .ref aS_5, .ref aD_6, .int cn_8])), (aK_2, .inl (cI, nT_7, .inl K_9)), (aF_3, .inl (cI, nT_7, .inl F_10)), (aP_4, .inl (cI, nT_7, .inl Pa_11)), (aS_5, .inl (cI, nT_7, .inl Sg_12)), (aD_6, .inl (cI, nT_7, .inl Dp_13))] := hD
  refine lv_aload_n hx hb d_P_parse_14 rfl (lv_at hl 0 rfl) ?_
  refine lv_iconst (v := 0) hx hb d_P_parse_15 (by decide) ?_
  refine va_put (D := dd) (ci := 3) (C := Rc_P) (T := Fc_P) (N := 5) (v := .int 0) (ty := .int) hx hb hts (inn in_P) tyf_P tyf_P_ok nmf_P hown hK hP hD hS 0 rfl rfl 2 (by decide) (hts (.fieldLink "NetText$Parser" 19 "NetText$Parser" "at" "I") (tg at_97)) (fun _ h9 => h9) rfl (by decide +kernel) rfl rfl (Nat.le_of_ble_eq_true rfl) d_P_parse_16 (fun H locs hP hD hS => ?_)
  have hP : va_P dd cls5 [(oP, .inr (3, [.ref oW, .ref oT, .int 0, .int sr, .int dp])), (oW, .inr (1, [.ref aX, .int ln, .ref aO, .ref aB, .ref aE, .int wc])), (aO, .inl (cI, nO, .inl so)), (oT, .inr (2, [.ref aK_2, .ref aF_3, .ref aP_4, .ref aS_5, .ref aD_6, .int cn_8])), (aK_2, .inl (cI, nT_7, .inl K_9)), (aF_3, .inl (cI, nT_7, .inl F_10)), (aP_4, .inl (cI, nT_7, .inl Pa_11)), (aS_5, .inl (cI, nT_7, .inl Sg_12)), (aD_6, .inl (cI, nT_7, .inl Dp_13))] H := hP
  have hD : va_D A [(oP, .inr (3, [.ref oW, .ref oT, .int 0, .int sr, .int dp])), (oW, .inr (1, [.ref aX, .int ln, .ref aO, .ref aB, .ref aE, .int wc])), (aO, .inl (cI, nO, .inl so)), (oT, .inr (2, [.ref aK_2, .ref aF_3, .ref aP_4, .ref aS_5, .ref aD_6, .int cn_8])), (aK_2, .inl (cI, nT_7, .inl K_9)), (aF_3, .inl (cI, nT_7, .inl F_10)), (aP_4, .inl (cI, nT_7, .inl Pa_11)), (aS_5, .inl (cI, nT_7, .inl Sg_12)), (aD_6, .inl (cI, nT_7, .inl Dp_13))] := hD
  refine lv_aload_n hx hb d_P_parse_19 rfl (lv_at hl 0 rfl) ?_
  refine lv_aload_n hx hb d_P_parse_20 rfl (lv_at hl 0 rfl) ?_
  refine va_get (D := dd) (ci := 3) (C := Rc_P) (T := Fc_P) (N := 5) (v := .ref oW) hx hb hts (inn in_P) hown hK hP 0 rfl rfl 0 (by decide) (hts (.fieldLink "NetText$Parser" 9 "NetText$Parser" "words" "LNetText$Words;") (tg at_95)) (fun _ h9 => h9) rfl d_P_parse_21 ?_
  refine lv_iconst (v := 0) hx hb d_P_parse_24 (by decide) ?_
  have hM := met_W_sortOf (l := l) (dd := dd) (cB := cB) (cI := cI) (cL := cL) (cS := cS) (oW := oW) (aX := aX) (aO := aO) (aB := aB) (aE := aE) (ln := ln)  hv
  refine krv_i (st := [.int 0, .ref oW, .ref oP]) (rest := [.ref oP]) ⟨hx, hb, hml, hown, hts⟩ hM (cwV 1 hts (gv (tg0 at_345) (tg0 at_346) (tg0 at_347) (tg0 at_2) (tg0 at_348)) rfl rfl rfl (by decide +kernel) (rk (by omega) (by decide))) x0b (fun _ _ _ => trivial) hP hK [1, 2] rfl (ci := 1) rfl rfl (q0 := 1) rfl rfl hl.1 rfl (Nat.le_of_ble_eq_true rfl) d_P_parse_25 ⟨by show 0 + c_14 + 0 ≤ mc_; omega, by show 0 + s_15 + 0 ≤ ms_; omega⟩ (fun r_16 hv => ?_)
  refine va_put (D := dd) (ci := 3) (C := Rc_P) (T := Fc_P) (N := 5) (v := .int r_16) (ty := .int) hx hb hts (inn in_P) tyf_P tyf_P_ok nmf_P hown hK hP hD hS 0 rfl rfl 3 (by decide) (hts (.fieldLink "NetText$Parser" 25 "NetText$Parser" "sort" "I") (tg at_98)) (fun _ h9 => h9) rfl (by decide +kernel) rfl rfl (Nat.le_of_ble_eq_true rfl) d_P_parse_28 (fun H locs hP hD hS => ?_)
  have hP : va_P dd cls5 [(oP, .inr (3, [.ref oW, .ref oT, .int 0, .int r_16, .int dp])), (oW, .inr (1, [.ref aX, .int ln, .ref aO, .ref aB, .ref aE, .int wc])), (aO, .inl (cI, nO, .inl so)), (oT, .inr (2, [.ref aK_2, .ref aF_3, .ref aP_4, .ref aS_5, .ref aD_6, .int cn_8])), (aK_2, .inl (cI, nT_7, .inl K_9)), (aF_3, .inl (cI, nT_7, .inl F_10)), (aP_4, .inl (cI, nT_7, .inl Pa_11)), (aS_5, .inl (cI, nT_7, .inl Sg_12)), (aD_6, .inl (cI, nT_7, .inl Dp_13))] H := hP
  have hD : va_D A [(oP, .inr (3, [.ref oW, .ref oT, .int 0, .int r_16, .int dp])), (oW, .inr (1, [.ref aX, .int ln, .ref aO, .ref aB, .ref aE, .int wc])), (aO, .inl (cI, nO, .inl so)), (oT, .inr (2, [.ref aK_2, .ref aF_3, .ref aP_4, .ref aS_5, .ref aD_6, .int cn_8])), (aK_2, .inl (cI, nT_7, .inl K_9)), (aF_3, .inl (cI, nT_7, .inl F_10)), (aP_4, .inl (cI, nT_7, .inl Pa_11)), (aS_5, .inl (cI, nT_7, .inl Sg_12)), (aD_6, .inl (cI, nT_7, .inl Dp_13))] := hD
  refine lv_aload_n hx hb d_P_parse_31 rfl (lv_at hl 0 rfl) ?_
  refine lv_iconst (v := 0) hx hb d_P_parse_32 (by decide) ?_
  refine va_put (D := dd) (ci := 3) (C := Rc_P) (T := Fc_P) (N := 5) (v := .int 0) (ty := .int) hx hb hts (inn in_P) tyf_P tyf_P_ok nmf_P hown hK hP hD hS 0 rfl rfl 4 (by decide) (hts (.fieldLink "NetText$Parser" 28 "NetText$Parser" "depth" "I") (tg at_99)) (fun _ h9 => h9) rfl (by decide +kernel) rfl rfl (Nat.le_of_ble_eq_true rfl) d_P_parse_33 (fun H locs hP hD hS => ?_)
  have hP : va_P dd cls5 [(oP, .inr (3, [.ref oW, .ref oT, .int 0, .int r_16, .int 0])), (oW, .inr (1, [.ref aX, .int ln, .ref aO, .ref aB, .ref aE, .int wc])), (aO, .inl (cI, nO, .inl so)), (oT, .inr (2, [.ref aK_2, .ref aF_3, .ref aP_4, .ref aS_5, .ref aD_6, .int cn_8])), (aK_2, .inl (cI, nT_7, .inl K_9)), (aF_3, .inl (cI, nT_7, .inl F_10)), (aP_4, .inl (cI, nT_7, .inl Pa_11)), (aS_5, .inl (cI, nT_7, .inl Sg_12)), (aD_6, .inl (cI, nT_7, .inl Dp_13))] H := hP
  have hD : va_D A [(oP, .inr (3, [.ref oW, .ref oT, .int 0, .int r_16, .int 0])), (oW, .inr (1, [.ref aX, .int ln, .ref aO, .ref aB, .ref aE, .int wc])), (aO, .inl (cI, nO, .inl so)), (oT, .inr (2, [.ref aK_2, .ref aF_3, .ref aP_4, .ref aS_5, .ref aD_6, .int cn_8])), (aK_2, .inl (cI, nT_7, .inl K_9)), (aF_3, .inl (cI, nT_7, .inl F_10)), (aP_4, .inl (cI, nT_7, .inl Pa_11)), (aS_5, .inl (cI, nT_7, .inl Sg_12)), (aD_6, .inl (cI, nT_7, .inl Dp_13))] := hD
  refine lv_aload_n hx hb d_P_parse_36 rfl (lv_at hl 0 rfl) ?_
  have hM := met_P_train (l := l) (dd := dd) (cB := cB) (cI := cI) (cL := cL) (cS := cS) (oP := oP) (oW := oW) (aX := aX) (aO := aO) (aB := aB) (aE := aE) (oT := oT) (aK := aK_2) (aF := aF_3) (aP := aP_4) (aS := aS_5) (aD := aD_6) (ln := ln)  hv
  refine kv_v (st := [.ref oP]) (rest := []) (wr := []) ⟨hx, hb, hml, hown, hts⟩ hM (cwV 0 hts (gv (tg0 at_353) (tg0 at_355) (tg0 ap_15) (tg0 at_4) (tg0 at_356)) rfl rfl rfl (by decide +kernel) (rk (by omega) (by decide))) xnb (xng hX) hP hK hD hS hA [0, 1, 2, 3, 4, 5, 6, 7, 8] [] rfl rfl (by decide) (by decide) (by decide) (ci := 3) rfl rfl (q0 := 0) rfl rfl hl.1 rfl (Nat.le_of_ble_eq_true rfl) d_P_parse_37 ⟨by show 0 + c_14 + 0 ≤ mc_; omega, by show 0 + s_15 + 0 ≤ ms_; omega⟩ (fun u_60 H locs hv hP hD hS => ?_)
  obtain ⟨cn_18, K_19, F_20, Pa_21, Sg_22, Dp_23, at_24, sr_25, dp_26⟩ := u_60
  have hP : va_P dd cls5 [(oP, .inr (3, [.ref oW, .ref oT, .int at_24, .int sr_25, .int dp_26])), (oW, .inr (1, [.ref aX, .int ln, .ref aO, .ref aB, .ref aE, .int wc])), (aO, .inl (cI, nO, .inl so)), (oT, .inr (2, [.ref aK_2, .ref aF_3, .ref aP_4, .ref aS_5, .ref aD_6, .int cn_18])), (aK_2, .inl (cI, nT_7, .inl K_19)), (aF_3, .inl (cI, nT_7, .inl F_20)), (aP_4, .inl (cI, nT_7, .inl Pa_21)), (aS_5, .inl (cI, nT_7, .inl Sg_22)), (aD_6, .inl (cI, nT_7, .inl Dp_23))] H := hP
  have hD : va_D A [(oP, .inr (3, [.ref oW, .ref oT, .int at_24, .int sr_25, .int dp_26])), (oW, .inr (1, [.ref aX, .int ln, .ref aO, .ref aB, .ref aE, .int wc])), (aO, .inl (cI, nO, .inl so)), (oT, .inr (2, [.ref aK_2, .ref aF_3, .ref aP_4, .ref aS_5, .ref aD_6, .int cn_18])), (aK_2, .inl (cI, nT_7, .inl K_19)), (aF_3, .inl (cI, nT_7, .inl F_20)), (aP_4, .inl (cI, nT_7, .inl Pa_21)), (aS_5, .inl (cI, nT_7, .inl Sg_22)), (aD_6, .inl (cI, nT_7, .inl Dp_23))] := hD
  refine lv_aload_n hx hb d_P_parse_40 rfl (lv_at hl 0 rfl) ?_
  refine lv_iconst (v := (-1)) hx hb d_P_parse_41 (by decide) ?_
  have hM := met_vIx (l := l) (dd := dd) (cB := cB) (cI := cI) (cL := cL) (cS := cS) (oP := oP) (oW := oW) (aX := aX) (aO := aO) (aB := aB) (aE := aE) (oT := oT) (aK := aK_2) (aF := aF_3) (aP := aP_4) (aS := aS_5) (aD := aD_6) (ln := ln) cn_18 K_19 F_20 Pa_21 Sg_22 Dp_23 at_24 sr_25 dp_26 (-1) _ hv
  refine kv_v (st := [.int (-1), .ref oP]) (rest := []) (wr := []) ⟨hx, hb, hml, hown, hts⟩ hM (cwV 1 hts (gv (tg0 at_457) (tg0 at_459) (tg0 ap_36) (tg0 at_4) (tg0 at_460)) rfl rfl rfl (by decide +kernel) (rk (by omega) (by decide))) xnb (xng hX) hP hK hD hS hA [0, 1, 2, 3, 4, 5, 6, 7, 8] [] rfl rfl (by decide) (by decide) (by decide) (ci := 3) rfl rfl (q0 := 0) rfl rfl hl.1 rfl (Nat.le_of_ble_eq_true rfl) d_P_parse_42 ⟨by show 0 + c_14 + 0 ≤ mc_; omega, by show 0 + s_15 + 0 ≤ ms_; omega⟩ (fun u_59 H locs hv hP hD hS => ?_)
  obtain ⟨cn_28, K_29, F_30, Pa_31, Sg_32, Dp_33, at_34, sr_35, dp_36⟩ := u_59
  have hP : va_P dd cls5 [(oP, .inr (3, [.ref oW, .ref oT, .int at_34, .int sr_35, .int dp_36])), (oW, .inr (1, [.ref aX, .int ln, .ref aO, .ref aB, .ref aE, .int wc])), (aO, .inl (cI, nO, .inl so)), (oT, .inr (2, [.ref aK_2, .ref aF_3, .ref aP_4, .ref aS_5, .ref aD_6, .int cn_28])), (aK_2, .inl (cI, nT_7, .inl K_29)), (aF_3, .inl (cI, nT_7, .inl F_30)), (aP_4, .inl (cI, nT_7, .inl Pa_31)), (aS_5, .inl (cI, nT_7, .inl Sg_32)), (aD_6, .inl (cI, nT_7, .inl Dp_33))] H := hP
  have hD : va_D A [(oP, .inr (3, [.ref oW, .ref oT, .int at_34, .int sr_35, .int dp_36])), (oW, .inr (1, [.ref aX, .int ln, .ref aO, .ref aB, .ref aE, .int wc])), (aO, .inl (cI, nO, .inl so)), (oT, .inr (2, [.ref aK_2, .ref aF_3, .ref aP_4, .ref aS_5, .ref aD_6, .int cn_28])), (aK_2, .inl (cI, nT_7, .inl K_29)), (aF_3, .inl (cI, nT_7, .inl F_30)), (aP_4, .inl (cI, nT_7, .inl Pa_31)), (aS_5, .inl (cI, nT_7, .inl Sg_32)), (aD_6, .inl (cI, nT_7, .inl Dp_33))] := hD
  refine lv_aload_n hx hb d_P_parse_45 rfl (lv_at hl 0 rfl) ?_
  refine va_get (D := dd) (ci := 3) (C := Rc_P) (T := Fc_P) (N := 5) (v := .int sr_35) hx hb hts (inn in_P) hown hK hP 0 rfl rfl 3 (by decide) (hts (.fieldLink "NetText$Parser" 25 "NetText$Parser" "sort" "I") (tg at_98)) (fun _ h9 => h9) rfl d_P_parse_46 ?_
  refine lv_iconst (v := 1) hx hb d_P_parse_49 (by decide) ?_
  refine lv_icmp_ne (tgt := 55) hx hb d_P_parse_50 (by decide) (fun b_37 => ?_) (fun b_37 => ?_)
  · have hv := hv.1 b_37
    refine lv_aload_n hx hb d_P_parse_55 rfl (lv_at hl 0 rfl) ?_
    refine va_get (D := dd) (ci := 3) (C := Rc_P) (T := Fc_P) (N := 5) (v := .ref oT) hx hb hts (inn in_P) hown hK hP 0 rfl rfl 1 (by decide) (hts (.fieldLink "NetText$Parser" 15 "NetText$Parser" "tree" "LNetText$Tree;") (tg at_96)) (fun _ h9 => h9) rfl d_P_parse_56 ?_
    refine lv_iconst (v := 0) hx hb d_P_parse_59 (by decide) ?_
    obtain ⟨c_51, s_52, h_56, h_57, hv⟩ := hv
    have hM := met_T_clear (l := l) (dd := dd) (cB := cB) (cI := cI) (cL := cL) (cS := cS) (oT := oT)  hv
    refine kv_v (st := [.int 0, .ref oT]) (rest := []) (wr := [(oP, .inr (3, [.ref oW, .ref oT, .int at_34, .int sr_35, .int dp_36])), (oW, .inr (1, [.ref aX, .int ln, .ref aO, .ref aB, .ref aE, .int wc])), (aO, .inl (cI, nO, .inl so))]) ⟨hx, hb, hml, hown, hts⟩ hM (cwV 1 hts (gv (tg0 at_340) (tg0 at_341) (tg0 at_342) (tg0 at_3) (tg0 at_343)) rfl rfl rfl (by decide +kernel) (rk (by omega) (by decide))) x0b x0g hP hK hD hS hA [3, 4, 5, 6, 7, 8] [0, 1, 2] rfl rfl (by decide) (by decide) (by decide) (ci := 2) rfl rfl (q0 := 3) rfl rfl hl.1 rfl (Nat.le_of_ble_eq_true rfl) d_P_parse_60 ⟨h_56, h_57⟩ (fun u_58 H locs hv hP hD hS => ?_)
    obtain ⟨aK_39, aF_40, aP_41, aS_42, aD_43, nT_44, cn_45, K_46, F_47, Pa_48, Sg_49, Dp_50⟩ := u_58
    have hP : va_P dd cls5 [(oP, .inr (3, [.ref oW, .ref oT, .int at_34, .int sr_35, .int dp_36])), (oW, .inr (1, [.ref aX, .int ln, .ref aO, .ref aB, .ref aE, .int wc])), (aO, .inl (cI, nO, .inl so)), (oT, .inr (2, [.ref aK_39, .ref aF_40, .ref aP_41, .ref aS_42, .ref aD_43, .int cn_45])), (aK_39, .inl (cI, nT_44, .inl K_46)), (aF_40, .inl (cI, nT_44, .inl F_47)), (aP_41, .inl (cI, nT_44, .inl Pa_48)), (aS_42, .inl (cI, nT_44, .inl Sg_49)), (aD_43, .inl (cI, nT_44, .inl Dp_50))] H := hP
    have hD : va_D A [(oP, .inr (3, [.ref oW, .ref oT, .int at_34, .int sr_35, .int dp_36])), (oW, .inr (1, [.ref aX, .int ln, .ref aO, .ref aB, .ref aE, .int wc])), (aO, .inl (cI, nO, .inl so)), (oT, .inr (2, [.ref aK_39, .ref aF_40, .ref aP_41, .ref aS_42, .ref aD_43, .int cn_45])), (aK_39, .inl (cI, nT_44, .inl K_46)), (aF_40, .inl (cI, nT_44, .inl F_47)), (aP_41, .inl (cI, nT_44, .inl Pa_48)), (aS_42, .inl (cI, nT_44, .inl Sg_49)), (aD_43, .inl (cI, nT_44, .inl Dp_50))] := hD
    refine lv_aload_n hx hb d_P_parse_63 rfl (lv_at hl 0 rfl) ?_
    refine va_get (D := dd) (ci := 3) (C := Rc_P) (T := Fc_P) (N := 5) (v := .ref oW) hx hb hts (inn in_P) hown hK hP 0 rfl rfl 0 (by decide) (hts (.fieldLink "NetText$Parser" 9 "NetText$Parser" "words" "LNetText$Words;") (tg at_95)) (fun _ h9 => h9) rfl d_P_parse_64 ?_
    refine lv_aload_n hx hb d_P_parse_67 rfl (lv_at hl 0 rfl) ?_
    refine va_get (D := dd) (ci := 3) (C := Rc_P) (T := Fc_P) (N := 5) (v := .int at_34) hx hb hts (inn in_P) hown hK hP 0 rfl rfl 2 (by decide) (hts (.fieldLink "NetText$Parser" 19 "NetText$Parser" "at" "I") (tg at_97)) (fun _ h9 => h9) rfl d_P_parse_68 ?_
    have hM := met_W_sortOf (l := l) (dd := dd) (cB := cB) (cI := cI) (cL := cL) (cS := cS) (oW := oW) (aX := aX) (aO := aO) (aB := aB) (aE := aE) (ln := ln)  hv
    refine krv_i (st := [.int at_34, .ref oW]) (rest := []) ⟨hx, hb, hml, hown, hts⟩ hM (cwV 1 hts (gv (tg0 at_345) (tg0 at_346) (tg0 at_347) (tg0 at_2) (tg0 at_348)) rfl rfl rfl (by decide +kernel) (rk (by omega) (by decide))) x0b (fun _ _ _ => trivial) hP hK [1, 2] rfl (ci := 1) rfl rfl (q0 := 1) rfl rfl hl.1 rfl (Nat.le_of_ble_eq_true rfl) d_P_parse_71 ⟨by show 0 + c_14 + c_51 + 0 ≤ mc_; omega, by show 0 + s_15 + s_52 + 0 ≤ ms_; omega⟩ (fun r_53 hv => ?_)
    refine lv_iconst (v := 2) hx hb d_P_parse_74 (by decide) ?_
    refine lv_icmp_ne (tgt := 82) hx hb d_P_parse_75 (by decide) (fun b_54 => ?_) (fun b_54 => ?_)
    · have hv := hv.1 b_54
      refine lv_iconst (v := 2) hx hb d_P_parse_82 (by decide) ?_
      subst hQ
      exact r_i hx hb hr hlocks 2 (aK_39, aF_40, aP_41, aS_42, aD_43, nT_44, cn_45, K_46, F_47, Pa_48, Sg_49, Dp_50, at_34, sr_35, dp_36) hv (hP.sub [0, 1, 2, 3, 4, 5, 6, 7, 8] rfl) hK (hD.sub [0, 1, 2, 3, 4, 5, 6, 7, 8] (by decide) rfl) hS (by omega) (by omega) d_P_parse_83
    · have hv := hv.2 b_54
      refine lv_iconst (v := 1) hx hb d_P_parse_78 (by decide) ?_
      refine lv_goto (tgt := 83) hx hb d_P_parse_79 (by decide) ?_
      subst hQ
      exact r_i hx hb hr hlocks 1 (aK_39, aF_40, aP_41, aS_42, aD_43, nT_44, cn_45, K_46, F_47, Pa_48, Sg_49, Dp_50, at_34, sr_35, dp_36) hv (hP.sub [0, 1, 2, 3, 4, 5, 6, 7, 8] rfl) hK (hD.sub [0, 1, 2, 3, 4, 5, 6, 7, 8] (by decide) rfl) hS (by omega) (by omega) d_P_parse_83
  · have hv := hv.2 b_37
    refine lv_iconst (v := 0) hx hb d_P_parse_53 (by decide) ?_
    subst hQ
    exact r_i hx hb hr hlocks 0 (aK_2, aF_3, aP_4, aS_5, aD_6, nT_7, cn_28, K_29, F_30, Pa_31, Sg_32, Dp_33, at_34, sr_35, dp_36) hv (hP.sub [0, 1, 2, 3, 4, 5, 6, 7, 8] rfl) hK (hD.sub [0, 1, 2, 3, 4, 5, 6, 7, 8] (by decide) rfl) hS (by omega) (by omega) d_P_parse_54
def vc_N_read  (mc_ : Nat) (ms_ : Nat) (nA : Nat) (tp : FN) (tl : Int32) (pl : Int32) (at_ : Int32) (sr : Int32) (dp : Int32) (nX : Nat) (tx : FN) (ln : Int32) (nO : Nat) (so : FN) (sb : FN) (se : FN) (wc : Int32) (nT : Nat) (cn : Int32) (K : FN) (F : FN) (Pa : FN) (Sg : FN) (Dp : FN) (aX : Nat) (aO : Nat) (aB : Nat) (aE : Nat) (aK : Nat) (aF : Nat) (aP : Nat) (aS : Nat) (aD : Nat)  (K_ : Int32 → Int32 → Int32 → Nat → Nat → Nat → Nat → Nat → FN → Int32 → Nat → FN → FN → FN → Int32 → Nat → Nat → Nat → Nat → Nat → Nat → Int32 → FN → FN → FN → FN → FN → Int32 → Int32 → Int32 → Prop) : Prop :=
  (∃ c_14 s_15 : Nat, 0 + c_14 ≤ mc_ ∧ 0 + s_15 ≤ ms_ ∧ (vc_W_cut c_14 s_15 nX tx ln nO so sb se wc nA tp aX aO aB aE tl (fun aX_2 aO_3 aB_4 aE_5 nX_6 tx_7 ln_8 nO_9 so_10 sb_11 se_12 wc_13 => (∃ c_32 s_33 : Nat, 0 + c_14 + c_32 ≤ mc_ ∧ 0 + s_15 + s_33 ≤ ms_ ∧ (vc_P_parse c_32 s_33 nO_9 so_10 wc_13 nT cn K F Pa Sg Dp at_ sr dp aK aF aP aS aD (fun r_16 aK_17 aF_18 aP_19 aS_20 aD_21 nT_22 cn_23 K_24 F_25 Pa_26 Sg_27 Dp_28 at_29 sr_30 dp_31 => ((¬ r_16 = 0 → (vc_P_faultPlace nO_9 wc_13 at_29 sb_11 (fun r_35 => ((¬ r_16 = 0 → (K_ (r_16 - 100) 0 r_35 aX_2 aO_3 aB_4 aE_5 nX_6 tx_7 ln_8 nO_9 so_10 sb_11 se_12 wc_13 aK_17 aF_18 aP_19 aS_20 aD_21 nT_22 cn_23 K_24 F_25 Pa_26 Sg_27 Dp_28 at_29 sr_30 dp_31)) ∧ (r_16 = 0 → (K_ cn_23 0 r_35 aX_2 aO_3 aB_4 aE_5 nX_6 tx_7 ln_8 nO_9 so_10 sb_11 se_12 wc_13 aK_17 aF_18 aP_19 aS_20 aD_21 nT_22 cn_23 K_24 F_25 Pa_26 Sg_27 Dp_28 at_29 sr_30 dp_31)))))) ∧ (r_16 = 0 → ((¬ r_16 = 0 → (K_ (r_16 - 100) 0 (-1) aX_2 aO_3 aB_4 aE_5 nX_6 tx_7 ln_8 nO_9 so_10 sb_11 se_12 wc_13 aK_17 aF_18 aP_19 aS_20 aD_21 nT_22 cn_23 K_24 F_25 Pa_26 Sg_27 Dp_28 at_29 sr_30 dp_31)) ∧ (r_16 = 0 → (K_ cn_23 0 (-1) aX_2 aO_3 aB_4 aE_5 nX_6 tx_7 ln_8 nO_9 so_10 sb_11 se_12 wc_13 aK_17 aF_18 aP_19 aS_20 aD_21 nT_22 cn_23 K_24 F_25 Pa_26 Sg_27 Dp_28 at_29 sr_30 dp_31)))))))))))
set_option maxHeartbeats 4000000 in
set_option maxRecDepth 100000 in
theorem met_N_read {l : Launch} {dd : va_G} {cB cI cL cS : ClassId} {adK adV : Nat → Nat} {oN : Nat} {aT : Nat} {oP : Nat} {oW : Nat} {oT : Nat}  {mc_ : Nat} {ms_ : Nat} {nA : Nat} {tp : FN} {tl : Int32} {pl : Int32} {at_ : Int32} {sr : Int32} {dp : Int32} {nX : Nat} {tx : FN} {ln : Int32} {nO : Nat} {so : FN} {sb : FN} {se : FN} {wc : Int32} {nT : Nat} {cn : Int32} {K : FN} {F : FN} {Pa : FN} {Sg : FN} {Dp : FN} {aX : Nat} {aO : Nat} {aB : Nat} {aE : Nat} {aK : Nat} {aF : Nat} {aP : Nat} {aS : Nat} {aD : Nat}  {K_ : Int32 → Int32 → Int32 → Nat → Nat → Nat → Nat → Nat → FN → Int32 → Nat → FN → FN → FN → Int32 → Nat → Nat → Nat → Nat → Nat → Nat → Int32 → FN → FN → FN → FN → FN → Int32 → Int32 → Int32 → Prop}  (hv : vc_N_read  mc_ ms_ nA tp tl pl at_ sr dp nX tx ln nO so sb se wc nT cn K F Pa Sg Dp aX aO aB aE aK aF aP aS aD  K_) : Ct l y_N_read w_N_read (rmk 722 mc_ ms_) dd cls5 [(cB, .byte), (cI, .int), (cL, .long), (cS, .object "java/lang/String")] (XF adK adV) [(oN, .inr (0, [.ref aT, .int tl, .int pl, .ref oW, .ref oT, .ref oP])), (aT, .inl (cB, nA, .inl tp)), (oP, .inr (3, [.ref oW, .ref oT, .int at_, .int sr, .int dp])), (oW, .inr (1, [.ref aX, .int ln, .ref aO, .ref aB, .ref aE, .int wc])), (aX, .inl (cB, nX, .inl tx)), (aO, .inl (cI, nO, .inl so)), (aB, .inl (cI, nO, .inl sb)), (aE, .inl (cI, nO, .inl se)), (oT, .inr (2, [.ref aK, .ref aF, .ref aP, .ref aS, .ref aD, .int cn])), (aK, .inl (cI, nT, .inl K)), (aF, .inl (cI, nT, .inl F)), (aP, .inl (cI, nT, .inl Pa)), (aS, .inl (cI, nT, .inl Sg)), (aD, .inl (cI, nT, .inl Dp))] [.ref oN] (qi dd cls5 [(cB, .byte), (cI, .int), (cL, .long), (cS, .object "java/lang/String")] (fun u_ : Int32 × Int32 × Nat × Nat × Nat × Nat × Nat × FN × Int32 × Nat × FN × FN × FN × Int32 × Nat × Nat × Nat × Nat × Nat × Nat × Int32 × FN × FN × FN × FN × FN × Int32 × Int32 × Int32 => [(oN, .inr (0, [.ref aT, .int u_.1, .int u_.2.1, .ref oW, .ref oT, .ref oP])), (aT, .inl (cB, nA, .inl tp)), (oP, .inr (3, [.ref oW, .ref oT, .int u_.2.2.2.2.2.2.2.2.2.2.2.2.2.2.2.2.2.2.2.2.2.2.2.2.2.2.1, .int u_.2.2.2.2.2.2.2.2.2.2.2.2.2.2.2.2.2.2.2.2.2.2.2.2.2.2.2.1, .int u_.2.2.2.2.2.2.2.2.2.2.2.2.2.2.2.2.2.2.2.2.2.2.2.2.2.2.2.2])), (oW, .inr (1, [.ref u_.2.2.1, .int u_.2.2.2.2.2.2.2.2.1, .ref u_.2.2.2.1, .ref u_.2.2.2.2.1, .ref u_.2.2.2.2.2.1, .int u_.2.2.2.2.2.2.2.2.2.2.2.2.2.1])), (u_.2.2.1, .inl (cB, u_.2.2.2.2.2.2.1, .inl u_.2.2.2.2.2.2.2.1)), (u_.2.2.2.1, .inl (cI, u_.2.2.2.2.2.2.2.2.2.1, .inl u_.2.2.2.2.2.2.2.2.2.2.1)), (u_.2.2.2.2.1, .inl (cI, u_.2.2.2.2.2.2.2.2.2.1, .inl u_.2.2.2.2.2.2.2.2.2.2.2.1)), (u_.2.2.2.2.2.1, .inl (cI, u_.2.2.2.2.2.2.2.2.2.1, .inl u_.2.2.2.2.2.2.2.2.2.2.2.2.1)), (oT, .inr (2, [.ref u_.2.2.2.2.2.2.2.2.2.2.2.2.2.2.1, .ref u_.2.2.2.2.2.2.2.2.2.2.2.2.2.2.2.1, .ref u_.2.2.2.2.2.2.2.2.2.2.2.2.2.2.2.2.1, .ref u_.2.2.2.2.2.2.2.2.2.2.2.2.2.2.2.2.2.1, .ref u_.2.2.2.2.2.2.2.2.2.2.2.2.2.2.2.2.2.2.1, .int u_.2.2.2.2.2.2.2.2.2.2.2.2.2.2.2.2.2.2.2.2.1])), (u_.2.2.2.2.2.2.2.2.2.2.2.2.2.2.1, .inl (cI, u_.2.2.2.2.2.2.2.2.2.2.2.2.2.2.2.2.2.2.2.1, .inl u_.2.2.2.2.2.2.2.2.2.2.2.2.2.2.2.2.2.2.2.2.2.1)), (u_.2.2.2.2.2.2.2.2.2.2.2.2.2.2.2.1, .inl (cI, u_.2.2.2.2.2.2.2.2.2.2.2.2.2.2.2.2.2.2.2.1, .inl u_.2.2.2.2.2.2.2.2.2.2.2.2.2.2.2.2.2.2.2.2.2.2.1)), (u_.2.2.2.2.2.2.2.2.2.2.2.2.2.2.2.2.1, .inl (cI, u_.2.2.2.2.2.2.2.2.2.2.2.2.2.2.2.2.2.2.2.1, .inl u_.2.2.2.2.2.2.2.2.2.2.2.2.2.2.2.2.2.2.2.2.2.2.2.1)), (u_.2.2.2.2.2.2.2.2.2.2.2.2.2.2.2.2.2.1, .inl (cI, u_.2.2.2.2.2.2.2.2.2.2.2.2.2.2.2.2.2.2.2.1, .inl u_.2.2.2.2.2.2.2.2.2.2.2.2.2.2.2.2.2.2.2.2.2.2.2.2.1)), (u_.2.2.2.2.2.2.2.2.2.2.2.2.2.2.2.2.2.2.1, .inl (cI, u_.2.2.2.2.2.2.2.2.2.2.2.2.2.2.2.2.2.2.2.1, .inl u_.2.2.2.2.2.2.2.2.2.2.2.2.2.2.2.2.2.2.2.2.2.2.2.2.2.1))]) (fun r_ u_ => K_ r_ u_.1 u_.2.1 u_.2.2.1 u_.2.2.2.1 u_.2.2.2.2.1 u_.2.2.2.2.2.1 u_.2.2.2.2.2.2.1 u_.2.2.2.2.2.2.2.1 u_.2.2.2.2.2.2.2.2.1 u_.2.2.2.2.2.2.2.2.2.1 u_.2.2.2.2.2.2.2.2.2.2.1 u_.2.2.2.2.2.2.2.2.2.2.2.1 u_.2.2.2.2.2.2.2.2.2.2.2.2.1 u_.2.2.2.2.2.2.2.2.2.2.2.2.2.1 u_.2.2.2.2.2.2.2.2.2.2.2.2.2.2.1 u_.2.2.2.2.2.2.2.2.2.2.2.2.2.2.2.1 u_.2.2.2.2.2.2.2.2.2.2.2.2.2.2.2.2.1 u_.2.2.2.2.2.2.2.2.2.2.2.2.2.2.2.2.2.1 u_.2.2.2.2.2.2.2.2.2.2.2.2.2.2.2.2.2.2.1 u_.2.2.2.2.2.2.2.2.2.2.2.2.2.2.2.2.2.2.2.1 u_.2.2.2.2.2.2.2.2.2.2.2.2.2.2.2.2.2.2.2.2.1 u_.2.2.2.2.2.2.2.2.2.2.2.2.2.2.2.2.2.2.2.2.2.1 u_.2.2.2.2.2.2.2.2.2.2.2.2.2.2.2.2.2.2.2.2.2.2.1 u_.2.2.2.2.2.2.2.2.2.2.2.2.2.2.2.2.2.2.2.2.2.2.2.1 u_.2.2.2.2.2.2.2.2.2.2.2.2.2.2.2.2.2.2.2.2.2.2.2.2.1 u_.2.2.2.2.2.2.2.2.2.2.2.2.2.2.2.2.2.2.2.2.2.2.2.2.2.1 u_.2.2.2.2.2.2.2.2.2.2.2.2.2.2.2.2.2.2.2.2.2.2.2.2.2.2.1 u_.2.2.2.2.2.2.2.2.2.2.2.2.2.2.2.2.2.2.2.2.2.2.2.2.2.2.2.1 u_.2.2.2.2.2.2.2.2.2.2.2.2.2.2.2.2.2.2.2.2.2.2.2.2.2.2.2.2)) mc_ ms_ := by
  refine m_of (cc := b_N_read) (nL := 2) (ret := (some .int)) (by decide) rfl (Nat.le_of_ble_eq_true rfl) ?_
  intro p e s m below meth c ls A ar Fx_ hA hP hK hD hS hX hl
  obtain ⟨hx, hb, hml, hr, hlocks, hown, hts, hinn⟩ := Fx_
  generalize hQ : MQ below ((qi dd cls5 [(cB, .byte), (cI, .int), (cL, .long), (cS, .object "java/lang/String")] (fun u_ : Int32 × Int32 × Nat × Nat × Nat × Nat × Nat × FN × Int32 × Nat × FN × FN × FN × Int32 × Nat × Nat × Nat × Nat × Nat × Nat × Int32 × FN × FN × FN × FN × FN × Int32 × Int32 × Int32 => [(oN, .inr (0, [.ref aT, .int u_.1, .int u_.2.1, .ref oW, .ref oT, .ref oP])), (aT, .inl (cB, nA, .inl tp)), (oP, .inr (3, [.ref oW, .ref oT, .int u_.2.2.2.2.2.2.2.2.2.2.2.2.2.2.2.2.2.2.2.2.2.2.2.2.2.2.1, .int u_.2.2.2.2.2.2.2.2.2.2.2.2.2.2.2.2.2.2.2.2.2.2.2.2.2.2.2.1, .int u_.2.2.2.2.2.2.2.2.2.2.2.2.2.2.2.2.2.2.2.2.2.2.2.2.2.2.2.2])), (oW, .inr (1, [.ref u_.2.2.1, .int u_.2.2.2.2.2.2.2.2.1, .ref u_.2.2.2.1, .ref u_.2.2.2.2.1, .ref u_.2.2.2.2.2.1, .int u_.2.2.2.2.2.2.2.2.2.2.2.2.2.1])), (u_.2.2.1, .inl (cB, u_.2.2.2.2.2.2.1, .inl u_.2.2.2.2.2.2.2.1)), (u_.2.2.2.1, .inl (cI, u_.2.2.2.2.2.2.2.2.2.1, .inl u_.2.2.2.2.2.2.2.2.2.2.1)), (u_.2.2.2.2.1, .inl (cI, u_.2.2.2.2.2.2.2.2.2.1, .inl u_.2.2.2.2.2.2.2.2.2.2.2.1)), (u_.2.2.2.2.2.1, .inl (cI, u_.2.2.2.2.2.2.2.2.2.1, .inl u_.2.2.2.2.2.2.2.2.2.2.2.2.1)), (oT, .inr (2, [.ref u_.2.2.2.2.2.2.2.2.2.2.2.2.2.2.1, .ref u_.2.2.2.2.2.2.2.2.2.2.2.2.2.2.2.1, .ref u_.2.2.2.2.2.2.2.2.2.2.2.2.2.2.2.2.1, .ref u_.2.2.2.2.2.2.2.2.2.2.2.2.2.2.2.2.2.1, .ref u_.2.2.2.2.2.2.2.2.2.2.2.2.2.2.2.2.2.2.1, .int u_.2.2.2.2.2.2.2.2.2.2.2.2.2.2.2.2.2.2.2.2.1])), (u_.2.2.2.2.2.2.2.2.2.2.2.2.2.2.1, .inl (cI, u_.2.2.2.2.2.2.2.2.2.2.2.2.2.2.2.2.2.2.2.1, .inl u_.2.2.2.2.2.2.2.2.2.2.2.2.2.2.2.2.2.2.2.2.2.1)), (u_.2.2.2.2.2.2.2.2.2.2.2.2.2.2.2.1, .inl (cI, u_.2.2.2.2.2.2.2.2.2.2.2.2.2.2.2.2.2.2.2.1, .inl u_.2.2.2.2.2.2.2.2.2.2.2.2.2.2.2.2.2.2.2.2.2.2.1)), (u_.2.2.2.2.2.2.2.2.2.2.2.2.2.2.2.2.1, .inl (cI, u_.2.2.2.2.2.2.2.2.2.2.2.2.2.2.2.2.2.2.2.1, .inl u_.2.2.2.2.2.2.2.2.2.2.2.2.2.2.2.2.2.2.2.2.2.2.2.1)), (u_.2.2.2.2.2.2.2.2.2.2.2.2.2.2.2.2.2.1, .inl (cI, u_.2.2.2.2.2.2.2.2.2.2.2.2.2.2.2.2.2.2.2.1, .inl u_.2.2.2.2.2.2.2.2.2.2.2.2.2.2.2.2.2.2.2.2.2.2.2.2.1)), (u_.2.2.2.2.2.2.2.2.2.2.2.2.2.2.2.2.2.2.1, .inl (cI, u_.2.2.2.2.2.2.2.2.2.2.2.2.2.2.2.2.2.2.2.1, .inl u_.2.2.2.2.2.2.2.2.2.2.2.2.2.2.2.2.2.2.2.2.2.2.2.2.2.1))]) (fun r_ u_ => K_ r_ u_.1 u_.2.1 u_.2.2.1 u_.2.2.2.1 u_.2.2.2.2.1 u_.2.2.2.2.2.1 u_.2.2.2.2.2.2.1 u_.2.2.2.2.2.2.2.1 u_.2.2.2.2.2.2.2.2.1 u_.2.2.2.2.2.2.2.2.2.1 u_.2.2.2.2.2.2.2.2.2.2.1 u_.2.2.2.2.2.2.2.2.2.2.2.1 u_.2.2.2.2.2.2.2.2.2.2.2.2.1 u_.2.2.2.2.2.2.2.2.2.2.2.2.2.1 u_.2.2.2.2.2.2.2.2.2.2.2.2.2.2.1 u_.2.2.2.2.2.2.2.2.2.2.2.2.2.2.2.1 u_.2.2.2.2.2.2.2.2.2.2.2.2.2.2.2.2.1 u_.2.2.2.2.2.2.2.2.2.2.2.2.2.2.2.2.2.1 u_.2.2.2.2.2.2.2.2.2.2.2.2.2.2.2.2.2.2.1 u_.2.2.2.2.2.2.2.2.2.2.2.2.2.2.2.2.2.2.2.1 u_.2.2.2.2.2.2.2.2.2.2.2.2.2.2.2.2.2.2.2.2.1 u_.2.2.2.2.2.2.2.2.2.2.2.2.2.2.2.2.2.2.2.2.2.1 u_.2.2.2.2.2.2.2.2.2.2.2.2.2.2.2.2.2.2.2.2.2.2.1 u_.2.2.2.2.2.2.2.2.2.2.2.2.2.2.2.2.2.2.2.2.2.2.2.1 u_.2.2.2.2.2.2.2.2.2.2.2.2.2.2.2.2.2.2.2.2.2.2.2.2.1 u_.2.2.2.2.2.2.2.2.2.2.2.2.2.2.2.2.2.2.2.2.2.2.2.2.2.1 u_.2.2.2.2.2.2.2.2.2.2.2.2.2.2.2.2.2.2.2.2.2.2.2.2.2.2.1 u_.2.2.2.2.2.2.2.2.2.2.2.2.2.2.2.2.2.2.2.2.2.2.2.2.2.2.2.1 u_.2.2.2.2.2.2.2.2.2.2.2.2.2.2.2.2.2.2.2.2.2.2.2.2.2.2.2.2)) A) ar s mc_ ms_ A = QQ
  have hl : lv_has ls 2 [(0, .ref oN)] := hl
  unfold vc_N_read at hv
  refine lv_aload_n hx hb d_N_read_0 rfl (lv_at hl 0 rfl) ?_
  refine va_get (D := dd) (ci := 0) (C := Rc_N) (T := Fc_N) (N := 6) (v := .ref oW) hx hb hts (inn in_N) hown hK hP 0 rfl rfl 3 (by decide) (hts (.fieldLink "NetText" 25 "NetText" "words" "LNetText$Words;") (tg at_114)) (fun _ h9 => h9) rfl d_N_read_1 ?_
  refine lv_aload_n hx hb d_N_read_4 rfl (lv_at hl 0 rfl) ?_
  refine va_get (D := dd) (ci := 0) (C := Rc_N) (T := Fc_N) (N := 6) (v := .ref aT) hx hb hts (inn in_N) hown hK hP 0 rfl rfl 0 (by decide) (hts (.fieldLink "NetText" 9 "NetText" "tape" "[B") (tg at_111)) (fun _ h9 => h9) rfl d_N_read_5 ?_
  refine lv_aload_n hx hb d_N_read_8 rfl (lv_at hl 0 rfl) ?_
  refine va_get (D := dd) (ci := 0) (C := Rc_N) (T := Fc_N) (N := 6) (v := .int tl) hx hb hts (inn in_N) hown hK hP 0 rfl rfl 1 (by decide) (hts (.fieldLink "NetText" 13 "NetText" "length" "I") (tg at_112)) (fun _ h9 => h9) rfl d_N_read_9 ?_
  obtain ⟨c_14, s_15, h_42, h_43, hv⟩ := hv
  have hM := met_W_cut (l := l) (dd := dd) (cB := cB) (cI := cI) (cL := cL) (cS := cS) (adK := adK) (adV := adV) (oW := oW) (aT := aT)  hv
  refine kv_v (st := [.int tl, .ref aT, .ref oW]) (rest := []) (wr := [(oN, .inr (0, [.ref aT, .int tl, .int pl, .ref oW, .ref oT, .ref oP])), (oP, .inr (3, [.ref oW, .ref oT, .int at_, .int sr, .int dp])), (oT, .inr (2, [.ref aK, .ref aF, .ref aP, .ref aS, .ref aD, .int cn])), (aK, .inl (cI, nT, .inl K)), (aF, .inl (cI, nT, .inl F)), (aP, .inl (cI, nT, .inl Pa)), (aS, .inl (cI, nT, .inl Sg)), (aD, .inl (cI, nT, .inl Dp))]) ⟨hx, hb, hml, hown, hts⟩ hM (cwV 2 hts (gv (tg0 at_134) (tg0 at_135) (tg0 at_136) (tg0 at_2) (tg0 at_137)) rfl rfl rfl (by decide +kernel) (rk (by omega) (by decide))) xfb (xfg hX) hP hK hD hS hA [3, 4, 5, 6, 7, 1] [0, 2, 8, 9, 10, 11, 12, 13] rfl rfl (by decide) (by decide) (by decide) (ci := 1) rfl rfl (q0 := 3) rfl rfl hl.1 rfl (Nat.le_of_ble_eq_true rfl) d_N_read_12 ⟨h_42, h_43⟩ (fun u_44 H locs hv hP hD hS => ?_)
  obtain ⟨aX_2, aO_3, aB_4, aE_5, nX_6, tx_7, ln_8, nO_9, so_10, sb_11, se_12, wc_13⟩ := u_44
  have hP : va_P dd cls5 [(oN, .inr (0, [.ref aT, .int tl, .int pl, .ref oW, .ref oT, .ref oP])), (oP, .inr (3, [.ref oW, .ref oT, .int at_, .int sr, .int dp])), (oT, .inr (2, [.ref aK, .ref aF, .ref aP, .ref aS, .ref aD, .int cn])), (aK, .inl (cI, nT, .inl K)), (aF, .inl (cI, nT, .inl F)), (aP, .inl (cI, nT, .inl Pa)), (aS, .inl (cI, nT, .inl Sg)), (aD, .inl (cI, nT, .inl Dp)), (oW, .inr (1, [.ref aX_2, .int ln_8, .ref aO_3, .ref aB_4, .ref aE_5, .int wc_13])), (aX_2, .inl (cB, nX_6, .inl tx_7)), (aO_3, .inl (cI, nO_9, .inl so_10)), (aB_4, .inl (cI, nO_9, .inl sb_11)), (aE_5, .inl (cI, nO_9, .inl se_12)), (aT, .inl (cB, nA, .inl tp))] H := hP
  have hD : va_D A [(oN, .inr (0, [.ref aT, .int tl, .int pl, .ref oW, .ref oT, .ref oP])), (oP, .inr (3, [.ref oW, .ref oT, .int at_, .int sr, .int dp])), (oT, .inr (2, [.ref aK, .ref aF, .ref aP, .ref aS, .ref aD, .int cn])), (aK, .inl (cI, nT, .inl K)), (aF, .inl (cI, nT, .inl F)), (aP, .inl (cI, nT, .inl Pa)), (aS, .inl (cI, nT, .inl Sg)), (aD, .inl (cI, nT, .inl Dp)), (oW, .inr (1, [.ref aX_2, .int ln_8, .ref aO_3, .ref aB_4, .ref aE_5, .int wc_13])), (aX_2, .inl (cB, nX_6, .inl tx_7)), (aO_3, .inl (cI, nO_9, .inl so_10)), (aB_4, .inl (cI, nO_9, .inl sb_11)), (aE_5, .inl (cI, nO_9, .inl se_12)), (aT, .inl (cB, nA, .inl tp))] := hD
  refine lv_aload_n hx hb d_N_read_15 rfl (lv_at hl 0 rfl) ?_
  refine lv_iconst (v := 0) hx hb d_N_read_16 (by decide) ?_
  refine va_put (D := dd) (ci := 0) (C := Rc_N) (T := Fc_N) (N := 6) (v := .int 0) (ty := .int) hx hb hts (inn in_N) tyf_N tyf_N_ok nmf_N hown hK hP hD hS 0 rfl rfl 1 (by decide) (hts (.fieldLink "NetText" 13 "NetText" "length" "I") (tg at_112)) (fun _ h9 => h9) rfl (by decide +kernel) rfl rfl (Nat.le_of_ble_eq_true rfl) d_N_read_17 (fun H locs hP hD hS => ?_)
  have hP : va_P dd cls5 [(oN, .inr (0, [.ref aT, .int 0, .int pl, .ref oW, .ref oT, .ref oP])), (oP, .inr (3, [.ref oW, .ref oT, .int at_, .int sr, .int dp])), (oT, .inr (2, [.ref aK, .ref aF, .ref aP, .ref aS, .ref aD, .int cn])), (aK, .inl (cI, nT, .inl K)), (aF, .inl (cI, nT, .inl F)), (aP, .inl (cI, nT, .inl Pa)), (aS, .inl (cI, nT, .inl Sg)), (aD, .inl (cI, nT, .inl Dp)), (oW, .inr (1, [.ref aX_2, .int ln_8, .ref aO_3, .ref aB_4, .ref aE_5, .int wc_13])), (aX_2, .inl (cB, nX_6, .inl tx_7)), (aO_3, .inl (cI, nO_9, .inl so_10)), (aB_4, .inl (cI, nO_9, .inl sb_11)), (aE_5, .inl (cI, nO_9, .inl se_12)), (aT, .inl (cB, nA, .inl tp))] H := hP
  have hD : va_D A [(oN, .inr (0, [.ref aT, .int 0, .int pl, .ref oW, .ref oT, .ref oP])), (oP, .inr (3, [.ref oW, .ref oT, .int at_, .int sr, .int dp])), (oT, .inr (2, [.ref aK, .ref aF, .ref aP, .ref aS, .ref aD, .int cn])), (aK, .inl (cI, nT, .inl K)), (aF, .inl (cI, nT, .inl F)), (aP, .inl (cI, nT, .inl Pa)), (aS, .inl (cI, nT, .inl Sg)), (aD, .inl (cI, nT, .inl Dp)), (oW, .inr (1, [.ref aX_2, .int ln_8, .ref aO_3, .ref aB_4, .ref aE_5, .int wc_13])), (aX_2, .inl (cB, nX_6, .inl tx_7)), (aO_3, .inl (cI, nO_9, .inl so_10)), (aB_4, .inl (cI, nO_9, .inl sb_11)), (aE_5, .inl (cI, nO_9, .inl se_12)), (aT, .inl (cB, nA, .inl tp))] := hD
  refine lv_aload_n hx hb d_N_read_20 rfl (lv_at hl 0 rfl) ?_
  refine va_get (D := dd) (ci := 0) (C := Rc_N) (T := Fc_N) (N := 6) (v := .ref oP) hx hb hts (inn in_N) hown hK hP 0 rfl rfl 5 (by decide) (hts (.fieldLink "NetText" 41 "NetText" "parser" "LNetText$Parser;") (tg at_116)) (fun _ h9 => h9) rfl d_N_read_21 ?_
  obtain ⟨c_32, s_33, h_39, h_40, hv⟩ := hv
  have hM := met_P_parse (l := l) (dd := dd) (cB := cB) (cI := cI) (cL := cL) (cS := cS) (oP := oP) (oW := oW) (aX := aX_2) (aO := aO_3) (aB := aB_4) (aE := aE_5) (oT := oT) (ln := ln_8)  hv
  refine kv_i (st := [.ref oP]) (rest := []) (wr := [(oN, .inr (0, [.ref aT, .int 0, .int pl, .ref oW, .ref oT, .ref oP])), (aX_2, .inl (cB, nX_6, .inl tx_7)), (aB_4, .inl (cI, nO_9, .inl sb_11)), (aE_5, .inl (cI, nO_9, .inl se_12)), (aT, .inl (cB, nA, .inl tp))]) ⟨hx, hb, hml, hown, hts⟩ hM (cwV 0 hts (gv (tg0 at_336) (tg0 at_337) (tg0 at_338) (tg0 at_4) (tg0 at_339)) rfl rfl rfl (by decide +kernel) (rk (by omega) (by decide))) xnb (xng hX.1) hP hK hD hS hA [1, 8, 10, 2, 3, 4, 5, 6, 7] [0, 9, 11, 12, 13] rfl rfl (by decide) (by decide) (by decide) (ci := 3) rfl rfl (q0 := 1) rfl rfl hl.1 rfl (Nat.le_of_ble_eq_true rfl) d_N_read_24 ⟨h_39, h_40⟩ (fun r_16 u_41 H locs hv hP hD hS => ?_)
  obtain ⟨aK_17, aF_18, aP_19, aS_20, aD_21, nT_22, cn_23, K_24, F_25, Pa_26, Sg_27, Dp_28, at_29, sr_30, dp_31⟩ := u_41
  have hP : va_P dd cls5 [(oN, .inr (0, [.ref aT, .int 0, .int pl, .ref oW, .ref oT, .ref oP])), (aX_2, .inl (cB, nX_6, .inl tx_7)), (aB_4, .inl (cI, nO_9, .inl sb_11)), (aE_5, .inl (cI, nO_9, .inl se_12)), (aT, .inl (cB, nA, .inl tp)), (oP, .inr (3, [.ref oW, .ref oT, .int at_29, .int sr_30, .int dp_31])), (oW, .inr (1, [.ref aX_2, .int ln_8, .ref aO_3, .ref aB_4, .ref aE_5, .int wc_13])), (aO_3, .inl (cI, nO_9, .inl so_10)), (oT, .inr (2, [.ref aK_17, .ref aF_18, .ref aP_19, .ref aS_20, .ref aD_21, .int cn_23])), (aK_17, .inl (cI, nT_22, .inl K_24)), (aF_18, .inl (cI, nT_22, .inl F_25)), (aP_19, .inl (cI, nT_22, .inl Pa_26)), (aS_20, .inl (cI, nT_22, .inl Sg_27)), (aD_21, .inl (cI, nT_22, .inl Dp_28))] H := hP
  have hD : va_D A [(oN, .inr (0, [.ref aT, .int 0, .int pl, .ref oW, .ref oT, .ref oP])), (aX_2, .inl (cB, nX_6, .inl tx_7)), (aB_4, .inl (cI, nO_9, .inl sb_11)), (aE_5, .inl (cI, nO_9, .inl se_12)), (aT, .inl (cB, nA, .inl tp)), (oP, .inr (3, [.ref oW, .ref oT, .int at_29, .int sr_30, .int dp_31])), (oW, .inr (1, [.ref aX_2, .int ln_8, .ref aO_3, .ref aB_4, .ref aE_5, .int wc_13])), (aO_3, .inl (cI, nO_9, .inl so_10)), (oT, .inr (2, [.ref aK_17, .ref aF_18, .ref aP_19, .ref aS_20, .ref aD_21, .int cn_23])), (aK_17, .inl (cI, nT_22, .inl K_24)), (aF_18, .inl (cI, nT_22, .inl F_25)), (aP_19, .inl (cI, nT_22, .inl Pa_26)), (aS_20, .inl (cI, nT_22, .inl Sg_27)), (aD_21, .inl (cI, nT_22, .inl Dp_28))] := hD
  refine lv_istore_n (lv' := [(1, .int r_16), (0, .ref oN)]) hx hb d_N_read_27 rfl hl (by decide) rfl (fun ls hl => ?_)
  refine lv_aload_n hx hb d_N_read_28 rfl (lv_at hl 1 rfl) ?_
  refine lv_iload_n hx hb d_N_read_29 rfl (lv_at hl 0 rfl) ?_
  refine lv_if_ne (tgt := 37) hx hb d_N_read_30 (by decide) (fun b_34 => ?_) (fun b_34 => ?_)
  · have hv := hv.1 b_34
    refine lv_aload_n hx hb d_N_read_37 rfl (lv_at hl 1 rfl) ?_
    refine va_get (D := dd) (ci := 0) (C := Rc_N) (T := Fc_N) (N := 6) (v := .ref oP) hx hb hts (inn in_N) hown hK hP 0 rfl rfl 5 (by decide) (hts (.fieldLink "NetText" 41 "NetText" "parser" "LNetText$Parser;") (tg at_116)) (fun _ h9 => h9) rfl d_N_read_38 ?_
    have hM := met_P_faultPlace (l := l) (dd := dd) (cB := cB) (cI := cI) (cL := cL) (cS := cS) (oP := oP) (oW := oW) (aX := aX_2) (aO := aO_3) (aB := aB_4) (aE := aE_5) (oT := oT) (ln := ln_8) (sr := sr_30) (dp := dp_31)  hv
    refine krv_i (st := [.ref oP, .ref oN]) (rest := [.ref oN]) ⟨hx, hb, hml, hown, hts⟩ hM (cwV 0 hts (gv (tg0 at_501) (tg0 at_502) (tg0 at_503) (tg0 at_4) (tg0 at_504)) rfl rfl rfl (by decide +kernel) (rk (by omega) (by decide))) x0b (fun _ _ _ => trivial) hP hK [5, 6, 2] rfl (ci := 3) rfl rfl (q0 := 5) rfl rfl hl.1 rfl (Nat.le_of_ble_eq_true rfl) d_N_read_41 ⟨by show 0 + c_14 + c_32 + 0 ≤ mc_; omega, by show 0 + s_15 + s_33 + 0 ≤ ms_; omega⟩ (fun r_35 hv => ?_)
    refine va_put (D := dd) (ci := 0) (C := Rc_N) (T := Fc_N) (N := 6) (v := .int r_35) (ty := .int) hx hb hts (inn in_N) tyf_N tyf_N_ok nmf_N hown hK hP hD hS 0 rfl rfl 2 (by decide) (hts (.fieldLink "NetText" 17 "NetText" "place" "I") (tg at_113)) (fun _ h9 => h9) rfl (by decide +kernel) rfl rfl (Nat.le_of_ble_eq_true rfl) d_N_read_44 (fun H locs hP hD hS => ?_)
    have hP : va_P dd cls5 [(oN, .inr (0, [.ref aT, .int 0, .int r_35, .ref oW, .ref oT, .ref oP])), (aX_2, .inl (cB, nX_6, .inl tx_7)), (aB_4, .inl (cI, nO_9, .inl sb_11)), (aE_5, .inl (cI, nO_9, .inl se_12)), (aT, .inl (cB, nA, .inl tp)), (oP, .inr (3, [.ref oW, .ref oT, .int at_29, .int sr_30, .int dp_31])), (oW, .inr (1, [.ref aX_2, .int ln_8, .ref aO_3, .ref aB_4, .ref aE_5, .int wc_13])), (aO_3, .inl (cI, nO_9, .inl so_10)), (oT, .inr (2, [.ref aK_17, .ref aF_18, .ref aP_19, .ref aS_20, .ref aD_21, .int cn_23])), (aK_17, .inl (cI, nT_22, .inl K_24)), (aF_18, .inl (cI, nT_22, .inl F_25)), (aP_19, .inl (cI, nT_22, .inl Pa_26)), (aS_20, .inl (cI, nT_22, .inl Sg_27)), (aD_21, .inl (cI, nT_22, .inl Dp_28))] H := hP
    have hD : va_D A [(oN, .inr (0, [.ref aT, .int 0, .int r_35, .ref oW, .ref oT, .ref oP])), (aX_2, .inl (cB, nX_6, .inl tx_7)), (aB_4, .inl (cI, nO_9, .inl sb_11)), (aE_5, .inl (cI, nO_9, .inl se_12)), (aT, .inl (cB, nA, .inl tp)), (oP, .inr (3, [.ref oW, .ref oT, .int at_29, .int sr_30, .int dp_31])), (oW, .inr (1, [.ref aX_2, .int ln_8, .ref aO_3, .ref aB_4, .ref aE_5, .int wc_13])), (aO_3, .inl (cI, nO_9, .inl so_10)), (oT, .inr (2, [.ref aK_17, .ref aF_18, .ref aP_19, .ref aS_20, .ref aD_21, .int cn_23])), (aK_17, .inl (cI, nT_22, .inl K_24)), (aF_18, .inl (cI, nT_22, .inl F_25)), (aP_19, .inl (cI, nT_22, .inl Pa_26)), (aS_20, .inl (cI, nT_22, .inl Sg_27)), (aD_21, .inl (cI, nT_22, .inl Dp_28))] := hD
    refine lv_iload_n hx hb d_N_read_47 rfl (lv_at hl 0 rfl) ?_
    refine lv_if_ne (tgt := 61) hx hb d_N_read_48 (by decide) (fun b_36 => ?_) (fun b_36 => ?_)
    · have hv := hv.1 b_36
      refine lv_iload_n hx hb d_N_read_61 rfl (lv_at hl 0 rfl) ?_
      refine lv_bipush (v := 100) hx hb d_N_read_62 (by decide) ?_
      refine lv_isub hx hb d_N_read_64 ?_
      subst hQ
      exact r_i hx hb hr hlocks (r_16 - 100) (0, r_35, aX_2, aO_3, aB_4, aE_5, nX_6, tx_7, ln_8, nO_9, so_10, sb_11, se_12, wc_13, aK_17, aF_18, aP_19, aS_20, aD_21, nT_22, cn_23, K_24, F_25, Pa_26, Sg_27, Dp_28, at_29, sr_30, dp_31) hv (hP.sub [0, 4, 5, 6, 1, 7, 2, 3, 8, 9, 10, 11, 12, 13] rfl) hK (hD.sub [0, 4, 5, 6, 1, 7, 2, 3, 8, 9, 10, 11, 12, 13] (by decide) rfl) hS (by omega) (by omega) d_N_read_65
    · have hv := hv.2 b_36
      refine lv_aload_n hx hb d_N_read_51 rfl (lv_at hl 1 rfl) ?_
      refine va_get (D := dd) (ci := 0) (C := Rc_N) (T := Fc_N) (N := 6) (v := .ref oT) hx hb hts (inn in_N) hown hK hP 0 rfl rfl 4 (by decide) (hts (.fieldLink "NetText" 32 "NetText" "tree" "LNetText$Tree;") (tg at_115)) (fun _ h9 => h9) rfl d_N_read_52 ?_
      refine va_getN (D := dd) (ci := 2) (C := Rc_T) (T := Fc_T) (N := 6) (v := .int cn_23) hx hb hts (inn in_T) hown hK hP 8 rfl rfl 5 (by decide) (va_Nw.use rfl (hX.1 _ nw_7)) (fun _ h9 => h9) rfl d_N_read_55 ?_
      refine lv_goto (tgt := 65) hx hb d_N_read_58 (by decide) ?_
      subst hQ
      exact r_i hx hb hr hlocks cn_23 (0, r_35, aX_2, aO_3, aB_4, aE_5, nX_6, tx_7, ln_8, nO_9, so_10, sb_11, se_12, wc_13, aK_17, aF_18, aP_19, aS_20, aD_21, nT_22, cn_23, K_24, F_25, Pa_26, Sg_27, Dp_28, at_29, sr_30, dp_31) hv (hP.sub [0, 4, 5, 6, 1, 7, 2, 3, 8, 9, 10, 11, 12, 13] rfl) hK (hD.sub [0, 4, 5, 6, 1, 7, 2, 3, 8, 9, 10, 11, 12, 13] (by decide) rfl) hS (by omega) (by omega) d_N_read_65
  · have hv := hv.2 b_34
    refine lv_iconst (v := (-1)) hx hb d_N_read_33 (by decide) ?_
    refine lv_goto (tgt := 44) hx hb d_N_read_34 (by decide) ?_
    refine va_put (D := dd) (ci := 0) (C := Rc_N) (T := Fc_N) (N := 6) (v := .int (-1)) (ty := .int) hx hb hts (inn in_N) tyf_N tyf_N_ok nmf_N hown hK hP hD hS 0 rfl rfl 2 (by decide) (hts (.fieldLink "NetText" 17 "NetText" "place" "I") (tg at_113)) (fun _ h9 => h9) rfl (by decide +kernel) rfl rfl (Nat.le_of_ble_eq_true rfl) d_N_read_44 (fun H locs hP hD hS => ?_)
    have hP : va_P dd cls5 [(oN, .inr (0, [.ref aT, .int 0, .int (-1), .ref oW, .ref oT, .ref oP])), (aX_2, .inl (cB, nX_6, .inl tx_7)), (aB_4, .inl (cI, nO_9, .inl sb_11)), (aE_5, .inl (cI, nO_9, .inl se_12)), (aT, .inl (cB, nA, .inl tp)), (oP, .inr (3, [.ref oW, .ref oT, .int at_29, .int sr_30, .int dp_31])), (oW, .inr (1, [.ref aX_2, .int ln_8, .ref aO_3, .ref aB_4, .ref aE_5, .int wc_13])), (aO_3, .inl (cI, nO_9, .inl so_10)), (oT, .inr (2, [.ref aK_17, .ref aF_18, .ref aP_19, .ref aS_20, .ref aD_21, .int cn_23])), (aK_17, .inl (cI, nT_22, .inl K_24)), (aF_18, .inl (cI, nT_22, .inl F_25)), (aP_19, .inl (cI, nT_22, .inl Pa_26)), (aS_20, .inl (cI, nT_22, .inl Sg_27)), (aD_21, .inl (cI, nT_22, .inl Dp_28))] H := hP
    have hD : va_D A [(oN, .inr (0, [.ref aT, .int 0, .int (-1), .ref oW, .ref oT, .ref oP])), (aX_2, .inl (cB, nX_6, .inl tx_7)), (aB_4, .inl (cI, nO_9, .inl sb_11)), (aE_5, .inl (cI, nO_9, .inl se_12)), (aT, .inl (cB, nA, .inl tp)), (oP, .inr (3, [.ref oW, .ref oT, .int at_29, .int sr_30, .int dp_31])), (oW, .inr (1, [.ref aX_2, .int ln_8, .ref aO_3, .ref aB_4, .ref aE_5, .int wc_13])), (aO_3, .inl (cI, nO_9, .inl so_10)), (oT, .inr (2, [.ref aK_17, .ref aF_18, .ref aP_19, .ref aS_20, .ref aD_21, .int cn_23])), (aK_17, .inl (cI, nT_22, .inl K_24)), (aF_18, .inl (cI, nT_22, .inl F_25)), (aP_19, .inl (cI, nT_22, .inl Pa_26)), (aS_20, .inl (cI, nT_22, .inl Sg_27)), (aD_21, .inl (cI, nT_22, .inl Dp_28))] := hD
    refine lv_iload_n hx hb d_N_read_47 rfl (lv_at hl 0 rfl) ?_
    refine lv_if_ne (tgt := 61) hx hb d_N_read_48 (by decide) (fun b_38 => ?_) (fun b_38 => ?_)
    · have hv := hv.1 b_38
      refine lv_iload_n hx hb d_N_read_61 rfl (lv_at hl 0 rfl) ?_
      refine lv_bipush (v := 100) hx hb d_N_read_62 (by decide) ?_
      refine lv_isub hx hb d_N_read_64 ?_
      subst hQ
      exact r_i hx hb hr hlocks (r_16 - 100) (0, (-1), aX_2, aO_3, aB_4, aE_5, nX_6, tx_7, ln_8, nO_9, so_10, sb_11, se_12, wc_13, aK_17, aF_18, aP_19, aS_20, aD_21, nT_22, cn_23, K_24, F_25, Pa_26, Sg_27, Dp_28, at_29, sr_30, dp_31) hv (hP.sub [0, 4, 5, 6, 1, 7, 2, 3, 8, 9, 10, 11, 12, 13] rfl) hK (hD.sub [0, 4, 5, 6, 1, 7, 2, 3, 8, 9, 10, 11, 12, 13] (by decide) rfl) hS (by omega) (by omega) d_N_read_65
    · have hv := hv.2 b_38
      refine lv_aload_n hx hb d_N_read_51 rfl (lv_at hl 1 rfl) ?_
      refine va_get (D := dd) (ci := 0) (C := Rc_N) (T := Fc_N) (N := 6) (v := .ref oT) hx hb hts (inn in_N) hown hK hP 0 rfl rfl 4 (by decide) (hts (.fieldLink "NetText" 32 "NetText" "tree" "LNetText$Tree;") (tg at_115)) (fun _ h9 => h9) rfl d_N_read_52 ?_
      refine va_getN (D := dd) (ci := 2) (C := Rc_T) (T := Fc_T) (N := 6) (v := .int cn_23) hx hb hts (inn in_T) hown hK hP 8 rfl rfl 5 (by decide) (va_Nw.use rfl (hX.1 _ nw_7)) (fun _ h9 => h9) rfl d_N_read_55 ?_
      refine lv_goto (tgt := 65) hx hb d_N_read_58 (by decide) ?_
      subst hQ
      exact r_i hx hb hr hlocks cn_23 (0, (-1), aX_2, aO_3, aB_4, aE_5, nX_6, tx_7, ln_8, nO_9, so_10, sb_11, se_12, wc_13, aK_17, aF_18, aP_19, aS_20, aD_21, nT_22, cn_23, K_24, F_25, Pa_26, Sg_27, Dp_28, at_29, sr_30, dp_31) hv (hP.sub [0, 4, 5, 6, 1, 7, 2, 3, 8, 9, 10, 11, 12, 13] rfl) hK (hD.sub [0, 4, 5, 6, 1, 7, 2, 3, 8, 9, 10, 11, 12, 13] (by decide) rfl) hS (by omega) (by omega) d_N_read_65
def vc_N_feed  (mc_ : Nat) (ms_ : Nat) (nA : Nat) (tp : FN) (tl : Int32) (aT : Nat) (x1 : Int32) (x2 : Int32) (x3 : Int32) (x4 : Int32) (x5 : Int32) (K_ : Int32 → Nat → Nat → FN → Int32 → Prop) (E_ : Nat → Nat → FN → Int32 → Prop) : Prop :=
  ((tl ≤ 65516 → (((tl + 20) ≤ (nI nA) → (vc_N_append nA tp tl x1 (fun tl_4 tp_5 => (vc_N_append nA tp_5 tl_4 x2 (fun tl_7 tp_8 => (vc_N_append nA tp_8 tl_7 x3 (fun tl_10 tp_11 => (vc_N_append nA tp_11 tl_10 x4 (fun tl_13 tp_14 => (vc_N_append nA tp_14 tl_13 x5 (fun tl_16 tp_17 => (K_ tl_16 aT nA tp_17 tl_16)))))))))))) ∧ (¬ (tl + 20) ≤ (nI nA) → (∃ c_26 s_27 : Nat, 0 + c_26 ≤ mc_ ∧ 0 + s_27 ≤ ms_ ∧ (vc_JA_copyB c_26 s_27 nA tp (2 * (nI nA)) (fun aN_24 fN_25 => (vc_N_append ((2 * (nI nA)).toNatClampNeg) fN_25 tl x1 (fun tl_29 tp_30 => (vc_N_append ((2 * (nI nA)).toNatClampNeg) tp_30 tl_29 x2 (fun tl_32 tp_33 => (vc_N_append ((2 * (nI nA)).toNatClampNeg) tp_33 tl_32 x3 (fun tl_35 tp_36 => (vc_N_append ((2 * (nI nA)).toNatClampNeg) tp_36 tl_35 x4 (fun tl_38 tp_39 => (vc_N_append ((2 * (nI nA)).toNatClampNeg) tp_39 tl_38 x5 (fun tl_41 tp_42 => (K_ tl_41 aN_24 ((2 * (nI nA)).toNatClampNeg) tp_42 tl_41))))))))))))))))) ∧ (¬ tl ≤ 65516 → (E_ aT nA tp tl)))
set_option maxHeartbeats 4000000 in
set_option maxRecDepth 100000 in
theorem met_N_feed {l : Launch} {dd : va_G} {cB cI cL cS : ClassId} {adK adV : Nat → Nat} {oN : Nat} {oP : Nat} {oW : Nat} {oT : Nat}  {mc_ : Nat} {ms_ : Nat} {nA : Nat} {tp : FN} {tl : Int32} {aT : Nat} {pl : Int32} {x1 : Int32} {x2 : Int32} {x3 : Int32} {x4 : Int32} {x5 : Int32} {K_ : Int32 → Nat → Nat → FN → Int32 → Prop} {E_ : Nat → Nat → FN → Int32 → Prop}  (hnt : NoTr l) (hv : vc_N_feed  mc_ ms_ nA tp tl aT x1 x2 x3 x4 x5 K_ E_) : CtX l y_N_feed w_N_feed (rmk 7 (mc_ + 1) (ms_ + 6)) dd cls5 [(cB, .byte), (cI, .int), (cL, .long), (cS, .object "java/lang/String")] (XF adK adV) [(oN, .inr (0, [.ref aT, .int tl, .int pl, .ref oW, .ref oT, .ref oP])), (aT, .inl (cB, nA, .inl tp))] [.ref oN, .int x1, .int x2, .int x3, .int x4, .int x5] (qX dd cls5 [(cB, .byte), (cI, .int), (cL, .long), (cS, .object "java/lang/String")] (fun u_ : Nat × Nat × FN × Int32 => [(oN, .inr (0, [.ref u_.1, .int u_.2.2.2, .int pl, .ref oW, .ref oT, .ref oP])), (u_.1, .inl (cB, u_.2.1, .inl u_.2.2.1))]) (kRi (fun r_ u_ => K_ r_ u_.1 u_.2.1 u_.2.2.1 u_.2.2.2)) (fun u_ => E_ u_.1 u_.2.1 u_.2.2.1 u_.2.2.2) "java/lang/IllegalStateException") mc_ ms_ := by
  refine m_ofX (cc := b_N_feed) (nL := 6) (ret := (some .int)) (by decide) rfl (Nat.le_of_ble_eq_true rfl) ?_
  intro p e s m below meth c ls A ar Fx_ hA hP hK hD hS hX hne hl
  obtain ⟨hx, hb, hml, hr, hlocks, hown, hts, hinn⟩ := Fx_
  generalize hQ : MQX below ((qX dd cls5 [(cB, .byte), (cI, .int), (cL, .long), (cS, .object "java/lang/String")] (fun u_ : Nat × Nat × FN × Int32 => [(oN, .inr (0, [.ref u_.1, .int u_.2.2.2, .int pl, .ref oW, .ref oT, .ref oP])), (u_.1, .inl (cB, u_.2.1, .inl u_.2.2.1))]) (kRi (fun r_ u_ => K_ r_ u_.1 u_.2.1 u_.2.2.1 u_.2.2.2)) (fun u_ => E_ u_.1 u_.2.1 u_.2.2.1 u_.2.2.2) "java/lang/IllegalStateException") A) ar s mc_ ms_ A = QQ
  have hl : lv_has ls 6 [(0, .ref oN), (1, .int x1), (2, .int x2), (3, .int x3), (4, .int x4), (5, .int x5)] := hl
  unfold vc_N_feed at hv
  refine lv_aload_n hx hb d_N_feed_0 rfl (lv_at hl 0 rfl) ?_
  refine va_get (D := dd) (ci := 0) (C := Rc_N) (T := Fc_N) (N := 6) (v := .int tl) hx hb hts (inn in_N) hown hK hP 0 rfl rfl 1 (by decide) (hts (.fieldLink "NetText" 13 "NetText" "length" "I") (tg at_112)) (fun _ h9 => h9) rfl d_N_feed_1 ?_
  refine lv_ldc (v := 65516) hx hb hown (hts (.constant "NetText" 45 (65516 : Int32)) (tg at_521)) d_N_feed_4 ?_
  refine lv_icmp_le (tgt := 19) hx hb d_N_feed_6 (by decide) (fun b_1 => ?_) (fun b_1 => ?_)
  · have hv := hv.1 b_1
    refine lv_aload_n hx hb d_N_feed_19 rfl (lv_at hl 0 rfl) ?_
    refine va_get (D := dd) (ci := 0) (C := Rc_N) (T := Fc_N) (N := 6) (v := .int tl) hx hb hts (inn in_N) hown hK hP 0 rfl rfl 1 (by decide) (hts (.fieldLink "NetText" 13 "NetText" "length" "I") (tg at_112)) (fun _ h9 => h9) rfl d_N_feed_20 ?_
    refine lv_bipush (v := 20) hx hb d_N_feed_23 (by decide) ?_
    refine lv_iadd hx hb d_N_feed_25 ?_
    refine lv_aload_n hx hb d_N_feed_26 rfl (lv_at hl 0 rfl) ?_
    refine va_get (D := dd) (ci := 0) (C := Rc_N) (T := Fc_N) (N := 6) (v := .ref aT) hx hb hts (inn in_N) hown hK hP 0 rfl rfl 0 (by decide) (hts (.fieldLink "NetText" 9 "NetText" "tape" "[B") (tg at_111)) (fun _ h9 => h9) rfl d_N_feed_27 ?_
    refine va_alen (v := nI nA) hx hb hK hP 1 0 rfl rfl rfl d_N_feed_30 ?_
    refine lv_icmp_le (tgt := 52) hx hb d_N_feed_31 (by decide) (fun b_2 => ?_) (fun b_2 => ?_)
    · have hv := hv.1 b_2
      refine lv_aload_n hx hb d_N_feed_52 rfl (lv_at hl 0 rfl) ?_
      refine lv_iload_n hx hb d_N_feed_53 rfl (lv_at hl 1 rfl) ?_
      have hM := met_N_append (l := l) (dd := dd) (cB := cB) (cI := cI) (cL := cL) (cS := cS) (oN := oN) (aT := aT) (oP := oP) (oW := oW) (oT := oT) (pl := pl)  hv
      refine kv_v (st := [.int x1, .ref oN]) (rest := []) (wr := []) ⟨hx, hb, hml, hown, hts⟩ hM (cwV 1 hts (gv (tg0 at_601) (tg0 at_603) (tg0 ap_48) (tg0 at_1) (tg0 at_604)) rfl rfl rfl (by decide +kernel) (rk (by omega) (by decide))) x0b x0g hP hK hD hS hA [0, 1] [] rfl rfl (by decide) (by decide) (by decide) (ci := 0) rfl rfl (q0 := 0) rfl rfl hl.1 rfl (Nat.le_of_ble_eq_true rfl) d_N_feed_54 ⟨by show 0 + 0 ≤ mc_ + 1; omega, by show 0 + 0 ≤ ms_ + 6; omega⟩ (fun u_22 H locs hv hP hD hS => ?_)
      obtain ⟨tl_4, tp_5⟩ := u_22
      have hP : va_P dd cls5 [(oN, .inr (0, [.ref aT, .int tl_4, .int pl, .ref oW, .ref oT, .ref oP])), (aT, .inl (cB, nA, .inl tp_5))] H := hP
      have hD : va_D A [(oN, .inr (0, [.ref aT, .int tl_4, .int pl, .ref oW, .ref oT, .ref oP])), (aT, .inl (cB, nA, .inl tp_5))] := hD
      refine lv_aload_n hx hb d_N_feed_57 rfl (lv_at hl 0 rfl) ?_
      refine lv_iload_n hx hb d_N_feed_58 rfl (lv_at hl 2 rfl) ?_
      have hM := met_N_append (l := l) (dd := dd) (cB := cB) (cI := cI) (cL := cL) (cS := cS) (oN := oN) (aT := aT) (oP := oP) (oW := oW) (oT := oT) (pl := pl)  hv
      refine kv_v (st := [.int x2, .ref oN]) (rest := []) (wr := []) ⟨hx, hb, hml, hown, hts⟩ hM (cwV 1 hts (gv (tg0 at_601) (tg0 at_603) (tg0 ap_48) (tg0 at_1) (tg0 at_604)) rfl rfl rfl (by decide +kernel) (rk (by omega) (by decide))) x0b x0g hP hK hD hS hA [0, 1] [] rfl rfl (by decide) (by decide) (by decide) (ci := 0) rfl rfl (q0 := 0) rfl rfl hl.1 rfl (Nat.le_of_ble_eq_true rfl) d_N_feed_59 ⟨by show 0 + 0 ≤ mc_ + 1; omega, by show 0 + 0 ≤ ms_ + 6; omega⟩ (fun u_21 H locs hv hP hD hS => ?_)
      obtain ⟨tl_7, tp_8⟩ := u_21
      have hP : va_P dd cls5 [(oN, .inr (0, [.ref aT, .int tl_7, .int pl, .ref oW, .ref oT, .ref oP])), (aT, .inl (cB, nA, .inl tp_8))] H := hP
      have hD : va_D A [(oN, .inr (0, [.ref aT, .int tl_7, .int pl, .ref oW, .ref oT, .ref oP])), (aT, .inl (cB, nA, .inl tp_8))] := hD
      refine lv_aload_n hx hb d_N_feed_62 rfl (lv_at hl 0 rfl) ?_
      refine lv_iload_n hx hb d_N_feed_63 rfl (lv_at hl 3 rfl) ?_
      have hM := met_N_append (l := l) (dd := dd) (cB := cB) (cI := cI) (cL := cL) (cS := cS) (oN := oN) (aT := aT) (oP := oP) (oW := oW) (oT := oT) (pl := pl)  hv
      refine kv_v (st := [.int x3, .ref oN]) (rest := []) (wr := []) ⟨hx, hb, hml, hown, hts⟩ hM (cwV 1 hts (gv (tg0 at_601) (tg0 at_603) (tg0 ap_48) (tg0 at_1) (tg0 at_604)) rfl rfl rfl (by decide +kernel) (rk (by omega) (by decide))) x0b x0g hP hK hD hS hA [0, 1] [] rfl rfl (by decide) (by decide) (by decide) (ci := 0) rfl rfl (q0 := 0) rfl rfl hl.1 rfl (Nat.le_of_ble_eq_true rfl) d_N_feed_64 ⟨by show 0 + 0 ≤ mc_ + 1; omega, by show 0 + 0 ≤ ms_ + 6; omega⟩ (fun u_20 H locs hv hP hD hS => ?_)
      obtain ⟨tl_10, tp_11⟩ := u_20
      have hP : va_P dd cls5 [(oN, .inr (0, [.ref aT, .int tl_10, .int pl, .ref oW, .ref oT, .ref oP])), (aT, .inl (cB, nA, .inl tp_11))] H := hP
      have hD : va_D A [(oN, .inr (0, [.ref aT, .int tl_10, .int pl, .ref oW, .ref oT, .ref oP])), (aT, .inl (cB, nA, .inl tp_11))] := hD
      refine lv_aload_n hx hb d_N_feed_67 rfl (lv_at hl 0 rfl) ?_
      refine lv_iload hx hb d_N_feed_68 (lv_at hl 4 rfl) ?_
      have hM := met_N_append (l := l) (dd := dd) (cB := cB) (cI := cI) (cL := cL) (cS := cS) (oN := oN) (aT := aT) (oP := oP) (oW := oW) (oT := oT) (pl := pl)  hv
      refine kv_v (st := [.int x4, .ref oN]) (rest := []) (wr := []) ⟨hx, hb, hml, hown, hts⟩ hM (cwV 1 hts (gv (tg0 at_601) (tg0 at_603) (tg0 ap_48) (tg0 at_1) (tg0 at_604)) rfl rfl rfl (by decide +kernel) (rk (by omega) (by decide))) x0b x0g hP hK hD hS hA [0, 1] [] rfl rfl (by decide) (by decide) (by decide) (ci := 0) rfl rfl (q0 := 0) rfl rfl hl.1 rfl (Nat.le_of_ble_eq_true rfl) d_N_feed_70 ⟨by show 0 + 0 ≤ mc_ + 1; omega, by show 0 + 0 ≤ ms_ + 6; omega⟩ (fun u_19 H locs hv hP hD hS => ?_)
      obtain ⟨tl_13, tp_14⟩ := u_19
      have hP : va_P dd cls5 [(oN, .inr (0, [.ref aT, .int tl_13, .int pl, .ref oW, .ref oT, .ref oP])), (aT, .inl (cB, nA, .inl tp_14))] H := hP
      have hD : va_D A [(oN, .inr (0, [.ref aT, .int tl_13, .int pl, .ref oW, .ref oT, .ref oP])), (aT, .inl (cB, nA, .inl tp_14))] := hD
      refine lv_aload_n hx hb d_N_feed_73 rfl (lv_at hl 0 rfl) ?_
      refine lv_iload hx hb d_N_feed_74 (lv_at hl 5 rfl) ?_
      have hM := met_N_append (l := l) (dd := dd) (cB := cB) (cI := cI) (cL := cL) (cS := cS) (oN := oN) (aT := aT) (oP := oP) (oW := oW) (oT := oT) (pl := pl)  hv
      refine kv_v (st := [.int x5, .ref oN]) (rest := []) (wr := []) ⟨hx, hb, hml, hown, hts⟩ hM (cwV 1 hts (gv (tg0 at_601) (tg0 at_603) (tg0 ap_48) (tg0 at_1) (tg0 at_604)) rfl rfl rfl (by decide +kernel) (rk (by omega) (by decide))) x0b x0g hP hK hD hS hA [0, 1] [] rfl rfl (by decide) (by decide) (by decide) (ci := 0) rfl rfl (q0 := 0) rfl rfl hl.1 rfl (Nat.le_of_ble_eq_true rfl) d_N_feed_76 ⟨by show 0 + 0 ≤ mc_ + 1; omega, by show 0 + 0 ≤ ms_ + 6; omega⟩ (fun u_18 H locs hv hP hD hS => ?_)
      obtain ⟨tl_16, tp_17⟩ := u_18
      have hP : va_P dd cls5 [(oN, .inr (0, [.ref aT, .int tl_16, .int pl, .ref oW, .ref oT, .ref oP])), (aT, .inl (cB, nA, .inl tp_17))] H := hP
      have hD : va_D A [(oN, .inr (0, [.ref aT, .int tl_16, .int pl, .ref oW, .ref oT, .ref oP])), (aT, .inl (cB, nA, .inl tp_17))] := hD
      refine lv_aload_n hx hb d_N_feed_79 rfl (lv_at hl 0 rfl) ?_
      refine va_get (D := dd) (ci := 0) (C := Rc_N) (T := Fc_N) (N := 6) (v := .int tl_16) hx hb hts (inn in_N) hown hK hP 0 rfl rfl 1 (by decide) (hts (.fieldLink "NetText" 13 "NetText" "length" "I") (tg at_112)) (fun _ h9 => h9) rfl d_N_feed_80 ?_
      exact rx_i hQ hx hb hr hlocks tl_16 (aT, nA, tp_17, tl_16) hv (hP.sub [0, 1] rfl) hK (hD.sub [0, 1] (by decide) rfl) hS (by omega) (by omega) d_N_feed_83
    · have hv := hv.2 b_2
      refine lv_aload_n hx hb d_N_feed_34 rfl (lv_at hl 0 rfl) ?_
      refine lv_aload_n hx hb d_N_feed_35 rfl (lv_at hl 0 rfl) ?_
      refine va_get (D := dd) (ci := 0) (C := Rc_N) (T := Fc_N) (N := 6) (v := .ref aT) hx hb hts (inn in_N) hown hK hP 0 rfl rfl 0 (by decide) (hts (.fieldLink "NetText" 9 "NetText" "tape" "[B") (tg at_111)) (fun _ h9 => h9) rfl d_N_feed_36 ?_
      refine lv_iconst (v := 2) hx hb d_N_feed_39 (by decide) ?_
      refine lv_aload_n hx hb d_N_feed_40 rfl (lv_at hl 0 rfl) ?_
      refine va_get (D := dd) (ci := 0) (C := Rc_N) (T := Fc_N) (N := 6) (v := .ref aT) hx hb hts (inn in_N) hown hK hP 0 rfl rfl 0 (by decide) (hts (.fieldLink "NetText" 9 "NetText" "tape" "[B") (tg at_111)) (fun _ h9 => h9) rfl d_N_feed_41 ?_
      refine va_alen (v := nI nA) hx hb hK hP 1 0 rfl rfl rfl d_N_feed_44 ?_
      refine lv_imul hx hb d_N_feed_45 ?_
      obtain ⟨c_26, s_27, h_48, h_49, hv⟩ := hv
      have hM := met_JA_copyB (l := l) (dd := dd) (cB := cB) (cI := cI) (cL := cL) (cS := cS) (aS := aT)  hv
      refine ks_a (st := [.int (2 * (nI nA)), .ref aT, .ref oN]) (rest := [.ref oN]) (wr := [(oN, .inr (0, [.ref aT, .int tl, .int pl, .ref oW, .ref oT, .ref oP]))]) ⟨hx, hb, hml, hown, hts⟩ hM (cwSo 2 hts (gcd (tg0 at_591)) rfl rfl rfl (hts (.initialized "java/util/Arrays") (tg at_10)) (hts (.methodLink "NetText" 53 ⟨"java/util/Arrays", "copyOf", "([BI)[B"⟩) (tg at_589)) (hts (.static ⟨"java/util/Arrays", "copyOf", "([BI)[B"⟩) (tg at_590)) (by decide +kernel) (rk (by omega) (by decide))) x0b x0g hP hK hD hS hA [1] [0] rfl rfl (by decide) (by decide) (by decide) rfl hl.1 rfl (Nat.le_of_ble_eq_true rfl) d_N_feed_46 ⟨by show 0 + c_26 ≤ mc_ + 1; omega, by show 0 + s_27 ≤ ms_ + 6; omega⟩ (fun u_50 H locs hv hP hD hS => ?_)
      obtain ⟨aN_24, fN_25⟩ := u_50
      have hP : va_P dd cls5 [(oN, .inr (0, [.ref aT, .int tl, .int pl, .ref oW, .ref oT, .ref oP])), (aT, .inl (cB, nA, .inl tp)), (aN_24, .inl (cB, ((2 * (nI nA)).toNatClampNeg), .inl fN_25))] H := hP
      have hD : va_D A [(oN, .inr (0, [.ref aT, .int tl, .int pl, .ref oW, .ref oT, .ref oP])), (aT, .inl (cB, nA, .inl tp)), (aN_24, .inl (cB, ((2 * (nI nA)).toNatClampNeg), .inl fN_25))] := hD
      refine va_put (D := dd) (ci := 0) (C := Rc_N) (T := Fc_N) (N := 6) (v := .ref aN_24) (ty := (.array .byte)) hx hb hts (inn in_N) tyf_N tyf_N_ok nmf_N hown hK hP hD hS 0 rfl rfl 0 (by decide) (hts (.fieldLink "NetText" 9 "NetText" "tape" "[B") (tg at_111)) (fun _ h9 => h9) rfl (by decide +kernel) rfl rfl (Nat.le_of_ble_eq_true rfl) d_N_feed_49 (fun H locs hP hD hS => ?_)
      have hP : va_P dd cls5 [(oN, .inr (0, [.ref aN_24, .int tl, .int pl, .ref oW, .ref oT, .ref oP])), (aT, .inl (cB, nA, .inl tp)), (aN_24, .inl (cB, ((2 * (nI nA)).toNatClampNeg), .inl fN_25))] H := hP
      have hD : va_D A [(oN, .inr (0, [.ref aN_24, .int tl, .int pl, .ref oW, .ref oT, .ref oP])), (aT, .inl (cB, nA, .inl tp)), (aN_24, .inl (cB, ((2 * (nI nA)).toNatClampNeg), .inl fN_25))] := hD
      refine lv_aload_n hx hb d_N_feed_52 rfl (lv_at hl 0 rfl) ?_
      refine lv_iload_n hx hb d_N_feed_53 rfl (lv_at hl 1 rfl) ?_
      have hM := met_N_append (l := l) (dd := dd) (cB := cB) (cI := cI) (cL := cL) (cS := cS) (oN := oN) (aT := aN_24) (oP := oP) (oW := oW) (oT := oT) (pl := pl)  hv
      refine kv_v (st := [.int x1, .ref oN]) (rest := []) (wr := [(aT, .inl (cB, nA, .inl tp))]) ⟨hx, hb, hml, hown, hts⟩ hM (cwV 1 hts (gv (tg0 at_601) (tg0 at_603) (tg0 ap_48) (tg0 at_1) (tg0 at_604)) rfl rfl rfl (by decide +kernel) (rk (by omega) (by decide))) x0b x0g hP hK hD hS hA [0, 2] [1] rfl rfl (by decide) (by decide) (by decide) (ci := 0) rfl rfl (q0 := 0) rfl rfl hl.1 rfl (Nat.le_of_ble_eq_true rfl) d_N_feed_54 ⟨by show 0 + c_26 + 0 ≤ mc_ + 1; omega, by show 0 + s_27 + 0 ≤ ms_ + 6; omega⟩ (fun u_47 H locs hv hP hD hS => ?_)
      obtain ⟨tl_29, tp_30⟩ := u_47
      have hP : va_P dd cls5 [(aT, .inl (cB, nA, .inl tp)), (oN, .inr (0, [.ref aN_24, .int tl_29, .int pl, .ref oW, .ref oT, .ref oP])), (aN_24, .inl (cB, ((2 * (nI nA)).toNatClampNeg), .inl tp_30))] H := hP
      have hD : va_D A [(aT, .inl (cB, nA, .inl tp)), (oN, .inr (0, [.ref aN_24, .int tl_29, .int pl, .ref oW, .ref oT, .ref oP])), (aN_24, .inl (cB, ((2 * (nI nA)).toNatClampNeg), .inl tp_30))] := hD
      refine lv_aload_n hx hb d_N_feed_57 rfl (lv_at hl 0 rfl) ?_
      refine lv_iload_n hx hb d_N_feed_58 rfl (lv_at hl 2 rfl) ?_
      have hM := met_N_append (l := l) (dd := dd) (cB := cB) (cI := cI) (cL := cL) (cS := cS) (oN := oN) (aT := aN_24) (oP := oP) (oW := oW) (oT := oT) (pl := pl)  hv
      refine kv_v (st := [.int x2, .ref oN]) (rest := []) (wr := [(aT, .inl (cB, nA, .inl tp))]) ⟨hx, hb, hml, hown, hts⟩ hM (cwV 1 hts (gv (tg0 at_601) (tg0 at_603) (tg0 ap_48) (tg0 at_1) (tg0 at_604)) rfl rfl rfl (by decide +kernel) (rk (by omega) (by decide))) x0b x0g hP hK hD hS hA [1, 2] [0] rfl rfl (by decide) (by decide) (by decide) (ci := 0) rfl rfl (q0 := 1) rfl rfl hl.1 rfl (Nat.le_of_ble_eq_true rfl) d_N_feed_59 ⟨by show 0 + c_26 + 0 ≤ mc_ + 1; omega, by show 0 + s_27 + 0 ≤ ms_ + 6; omega⟩ (fun u_46 H locs hv hP hD hS => ?_)
      obtain ⟨tl_32, tp_33⟩ := u_46
      have hP : va_P dd cls5 [(aT, .inl (cB, nA, .inl tp)), (oN, .inr (0, [.ref aN_24, .int tl_32, .int pl, .ref oW, .ref oT, .ref oP])), (aN_24, .inl (cB, ((2 * (nI nA)).toNatClampNeg), .inl tp_33))] H := hP
      have hD : va_D A [(aT, .inl (cB, nA, .inl tp)), (oN, .inr (0, [.ref aN_24, .int tl_32, .int pl, .ref oW, .ref oT, .ref oP])), (aN_24, .inl (cB, ((2 * (nI nA)).toNatClampNeg), .inl tp_33))] := hD
      refine lv_aload_n hx hb d_N_feed_62 rfl (lv_at hl 0 rfl) ?_
      refine lv_iload_n hx hb d_N_feed_63 rfl (lv_at hl 3 rfl) ?_
      have hM := met_N_append (l := l) (dd := dd) (cB := cB) (cI := cI) (cL := cL) (cS := cS) (oN := oN) (aT := aN_24) (oP := oP) (oW := oW) (oT := oT) (pl := pl)  hv
      refine kv_v (st := [.int x3, .ref oN]) (rest := []) (wr := [(aT, .inl (cB, nA, .inl tp))]) ⟨hx, hb, hml, hown, hts⟩ hM (cwV 1 hts (gv (tg0 at_601) (tg0 at_603) (tg0 ap_48) (tg0 at_1) (tg0 at_604)) rfl rfl rfl (by decide +kernel) (rk (by omega) (by decide))) x0b x0g hP hK hD hS hA [1, 2] [0] rfl rfl (by decide) (by decide) (by decide) (ci := 0) rfl rfl (q0 := 1) rfl rfl hl.1 rfl (Nat.le_of_ble_eq_true rfl) d_N_feed_64 ⟨by show 0 + c_26 + 0 ≤ mc_ + 1; omega, by show 0 + s_27 + 0 ≤ ms_ + 6; omega⟩ (fun u_45 H locs hv hP hD hS => ?_)
      obtain ⟨tl_35, tp_36⟩ := u_45
      have hP : va_P dd cls5 [(aT, .inl (cB, nA, .inl tp)), (oN, .inr (0, [.ref aN_24, .int tl_35, .int pl, .ref oW, .ref oT, .ref oP])), (aN_24, .inl (cB, ((2 * (nI nA)).toNatClampNeg), .inl tp_36))] H := hP
      have hD : va_D A [(aT, .inl (cB, nA, .inl tp)), (oN, .inr (0, [.ref aN_24, .int tl_35, .int pl, .ref oW, .ref oT, .ref oP])), (aN_24, .inl (cB, ((2 * (nI nA)).toNatClampNeg), .inl tp_36))] := hD
      refine lv_aload_n hx hb d_N_feed_67 rfl (lv_at hl 0 rfl) ?_
      refine lv_iload hx hb d_N_feed_68 (lv_at hl 4 rfl) ?_
      have hM := met_N_append (l := l) (dd := dd) (cB := cB) (cI := cI) (cL := cL) (cS := cS) (oN := oN) (aT := aN_24) (oP := oP) (oW := oW) (oT := oT) (pl := pl)  hv
      refine kv_v (st := [.int x4, .ref oN]) (rest := []) (wr := [(aT, .inl (cB, nA, .inl tp))]) ⟨hx, hb, hml, hown, hts⟩ hM (cwV 1 hts (gv (tg0 at_601) (tg0 at_603) (tg0 ap_48) (tg0 at_1) (tg0 at_604)) rfl rfl rfl (by decide +kernel) (rk (by omega) (by decide))) x0b x0g hP hK hD hS hA [1, 2] [0] rfl rfl (by decide) (by decide) (by decide) (ci := 0) rfl rfl (q0 := 1) rfl rfl hl.1 rfl (Nat.le_of_ble_eq_true rfl) d_N_feed_70 ⟨by show 0 + c_26 + 0 ≤ mc_ + 1; omega, by show 0 + s_27 + 0 ≤ ms_ + 6; omega⟩ (fun u_44 H locs hv hP hD hS => ?_)
      obtain ⟨tl_38, tp_39⟩ := u_44
      have hP : va_P dd cls5 [(aT, .inl (cB, nA, .inl tp)), (oN, .inr (0, [.ref aN_24, .int tl_38, .int pl, .ref oW, .ref oT, .ref oP])), (aN_24, .inl (cB, ((2 * (nI nA)).toNatClampNeg), .inl tp_39))] H := hP
      have hD : va_D A [(aT, .inl (cB, nA, .inl tp)), (oN, .inr (0, [.ref aN_24, .int tl_38, .int pl, .ref oW, .ref oT, .ref oP])), (aN_24, .inl (cB, ((2 * (nI nA)).toNatClampNeg), .inl tp_39))] := hD
      refine lv_aload_n hx hb d_N_feed_73 rfl (lv_at hl 0 rfl) ?_
      refine lv_iload hx hb d_N_feed_74 (lv_at hl 5 rfl) ?_
      have hM := met_N_append (l := l) (dd := dd) (cB := cB) (cI := cI) (cL := cL) (cS := cS) (oN := oN) (aT := aN_24) (oP := oP) (oW := oW) (oT := oT) (pl := pl)  hv
      refine kv_v (st := [.int x5, .ref oN]) (rest := []) (wr := [(aT, .inl (cB, nA, .inl tp))]) ⟨hx, hb, hml, hown, hts⟩ hM (cwV 1 hts (gv (tg0 at_601) (tg0 at_603) (tg0 ap_48) (tg0 at_1) (tg0 at_604)) rfl rfl rfl (by decide +kernel) (rk (by omega) (by decide))) x0b x0g hP hK hD hS hA [1, 2] [0] rfl rfl (by decide) (by decide) (by decide) (ci := 0) rfl rfl (q0 := 1) rfl rfl hl.1 rfl (Nat.le_of_ble_eq_true rfl) d_N_feed_76 ⟨by show 0 + c_26 + 0 ≤ mc_ + 1; omega, by show 0 + s_27 + 0 ≤ ms_ + 6; omega⟩ (fun u_43 H locs hv hP hD hS => ?_)
      obtain ⟨tl_41, tp_42⟩ := u_43
      have hP : va_P dd cls5 [(aT, .inl (cB, nA, .inl tp)), (oN, .inr (0, [.ref aN_24, .int tl_41, .int pl, .ref oW, .ref oT, .ref oP])), (aN_24, .inl (cB, ((2 * (nI nA)).toNatClampNeg), .inl tp_42))] H := hP
      have hD : va_D A [(aT, .inl (cB, nA, .inl tp)), (oN, .inr (0, [.ref aN_24, .int tl_41, .int pl, .ref oW, .ref oT, .ref oP])), (aN_24, .inl (cB, ((2 * (nI nA)).toNatClampNeg), .inl tp_42))] := hD
      refine lv_aload_n hx hb d_N_feed_79 rfl (lv_at hl 0 rfl) ?_
      refine va_get (D := dd) (ci := 0) (C := Rc_N) (T := Fc_N) (N := 6) (v := .int tl_41) hx hb hts (inn in_N) hown hK hP 1 rfl rfl 1 (by decide) (hts (.fieldLink "NetText" 13 "NetText" "length" "I") (tg at_112)) (fun _ h9 => h9) rfl d_N_feed_80 ?_
      exact rx_i hQ hx hb hr hlocks tl_41 (aN_24, (2 * (nI nA)).toNatClampNeg, tp_42, tl_41) hv (hP.sub [1, 2] rfl) hK (hD.sub [1, 2] (by decide) rfl) hS (by omega) (by omega) d_N_feed_83
  · have hv := hv.2 b_1
    exact t_throw hQ hnt hx hb hlocks hown hne (by decide) (by decide) (own_ok hts hX hS oat_0 (i := 18) (tg0 at_522) (tg0 at_9) (by decide) rfl rfl rfl) (hl.1.trans hml.symm) d_N_feed_9 d_N_feed_12 d_N_feed_13 d_N_feed_15 d_N_feed_18 (Nat.le_of_ble_eq_true rfl) (Nat.le_of_ble_eq_true rfl) (by show 0 + 1 ≤ mc_ + 1; omega) (by show 0 + 6 ≤ ms_ + 6; omega) (by omega) (by omega) (aT, nA, tp, tl) hv (hP.sub [0, 1] rfl) hK (hD.sub [0, 1] (by decide) rfl) hS
def vc_N_init  (mc_ : Nat) (ms_ : Nat)  (K_ : Nat → Nat → Nat → Nat → Nat → FN → Nat → Nat → Nat → Nat → Nat → FN → Nat → FN → FN → FN → Nat → Nat → Nat → Nat → Nat → Nat → FN → FN → FN → FN → FN → Prop) : Prop :=
  (¬ (512 : Int32) < 0 ∧ (512 : Int32).toNatClampNeg * 1 ≤ 536870912 ∧ 0 + 1 ≤ mc_ ∧ 0 + (512 : Int32).toNatClampNeg ≤ ms_ ∧ ∀ q_1 : Nat, (0 + 1 + 1 ≤ mc_ ∧ 0 + (512 : Int32).toNatClampNeg + 6 ≤ ms_ ∧ ∀ q_6 : Nat, (∃ c_20 s_21 : Nat, 0 + 1 + 1 + c_20 ≤ mc_ ∧ 0 + (512 : Int32).toNatClampNeg + 6 + s_21 ≤ ms_ ∧ (vc_W_init c_20 s_21 512 (fun aX_10 aO_11 aB_12 aE_13 nX_14 tx_15 nO_16 so_17 sb_18 se_19 => (0 + 1 + 1 + c_20 + 1 ≤ mc_ ∧ 0 + (512 : Int32).toNatClampNeg + 6 + s_21 + 6 ≤ ms_ ∧ ∀ q_22 : Nat, (∃ c_37 s_38 : Nat, 0 + 1 + 1 + c_20 + 1 + c_37 ≤ mc_ ∧ 0 + (512 : Int32).toNatClampNeg + 6 + s_21 + 6 + s_38 ≤ ms_ ∧ (vc_T_init c_37 s_38 512 (fun aK_26 aF_27 aP_28 aS_29 aD_30 nT_31 K_32 F_33 Pa_34 Sg_35 Dp_36 => (0 + 1 + 1 + c_20 + 1 + c_37 + 1 ≤ mc_ ∧ 0 + (512 : Int32).toNatClampNeg + 6 + s_21 + 6 + s_38 + 5 ≤ ms_ ∧ ∀ q_39 : Nat, (vc_P_init  (K_ q_6 q_22 q_39 q_1 ((512 : Int32).toNatClampNeg) (fun _ => 0) aX_10 aO_11 aB_12 aE_13 nX_14 tx_15 nO_16 so_17 sb_18 se_19 aK_26 aF_27 aP_28 aS_29 aD_30 nT_31 K_32 F_33 Pa_34 Sg_35 Dp_36))))))))))))
set_option maxHeartbeats 4000000 in
set_option maxRecDepth 100000 in
theorem met_N_init {l : Launch} {dd : va_G} {cB cI cL cS : ClassId}  {oN : Nat}  {mc_ : Nat} {ms_ : Nat}  {K_ : Nat → Nat → Nat → Nat → Nat → FN → Nat → Nat → Nat → Nat → Nat → FN → Nat → FN → FN → FN → Nat → Nat → Nat → Nat → Nat → Nat → FN → FN → FN → FN → FN → Prop}  (hv : vc_N_init  mc_ ms_  K_) : Ct l y_N_init w_N_init (rmk 2 mc_ ms_) dd cls5 [(cB, .byte), (cI, .int), (cL, .long), (cS, .object "java/lang/String")] X0 [(oN, .inr (0, [.null, .int 0, .int 0, .null, .null, .null]))] [.ref oN] (qv dd cls5 [(cB, .byte), (cI, .int), (cL, .long), (cS, .object "java/lang/String")] (fun u_ : Nat × Nat × Nat × Nat × Nat × FN × Nat × Nat × Nat × Nat × Nat × FN × Nat × FN × FN × FN × Nat × Nat × Nat × Nat × Nat × Nat × FN × FN × FN × FN × FN => [(oN, .inr (0, [.ref u_.2.2.2.1, .int 0, .int (-1), .ref u_.1, .ref u_.2.1, .ref u_.2.2.1])), (u_.2.2.2.1, .inl (cB, u_.2.2.2.2.1, .inl u_.2.2.2.2.2.1)), (u_.2.2.1, .inr (3, [.ref u_.1, .ref u_.2.1, .int 0, .int 0, .int 0])), (u_.1, .inr (1, [.ref u_.2.2.2.2.2.2.1, .int 0, .ref u_.2.2.2.2.2.2.2.1, .ref u_.2.2.2.2.2.2.2.2.1, .ref u_.2.2.2.2.2.2.2.2.2.1, .int 0])), (u_.2.2.2.2.2.2.1, .inl (cB, u_.2.2.2.2.2.2.2.2.2.2.1, .inl u_.2.2.2.2.2.2.2.2.2.2.2.1)), (u_.2.2.2.2.2.2.2.1, .inl (cI, u_.2.2.2.2.2.2.2.2.2.2.2.2.1, .inl u_.2.2.2.2.2.2.2.2.2.2.2.2.2.1)), (u_.2.2.2.2.2.2.2.2.1, .inl (cI, u_.2.2.2.2.2.2.2.2.2.2.2.2.1, .inl u_.2.2.2.2.2.2.2.2.2.2.2.2.2.2.1)), (u_.2.2.2.2.2.2.2.2.2.1, .inl (cI, u_.2.2.2.2.2.2.2.2.2.2.2.2.1, .inl u_.2.2.2.2.2.2.2.2.2.2.2.2.2.2.2.1)), (u_.2.1, .inr (2, [.ref u_.2.2.2.2.2.2.2.2.2.2.2.2.2.2.2.2.1, .ref u_.2.2.2.2.2.2.2.2.2.2.2.2.2.2.2.2.2.1, .ref u_.2.2.2.2.2.2.2.2.2.2.2.2.2.2.2.2.2.2.1, .ref u_.2.2.2.2.2.2.2.2.2.2.2.2.2.2.2.2.2.2.2.1, .ref u_.2.2.2.2.2.2.2.2.2.2.2.2.2.2.2.2.2.2.2.2.1, .int 0])), (u_.2.2.2.2.2.2.2.2.2.2.2.2.2.2.2.2.1, .inl (cI, u_.2.2.2.2.2.2.2.2.2.2.2.2.2.2.2.2.2.2.2.2.2.1, .inl u_.2.2.2.2.2.2.2.2.2.2.2.2.2.2.2.2.2.2.2.2.2.2.1)), (u_.2.2.2.2.2.2.2.2.2.2.2.2.2.2.2.2.2.1, .inl (cI, u_.2.2.2.2.2.2.2.2.2.2.2.2.2.2.2.2.2.2.2.2.2.1, .inl u_.2.2.2.2.2.2.2.2.2.2.2.2.2.2.2.2.2.2.2.2.2.2.2.1)), (u_.2.2.2.2.2.2.2.2.2.2.2.2.2.2.2.2.2.2.1, .inl (cI, u_.2.2.2.2.2.2.2.2.2.2.2.2.2.2.2.2.2.2.2.2.2.1, .inl u_.2.2.2.2.2.2.2.2.2.2.2.2.2.2.2.2.2.2.2.2.2.2.2.2.1)), (u_.2.2.2.2.2.2.2.2.2.2.2.2.2.2.2.2.2.2.2.1, .inl (cI, u_.2.2.2.2.2.2.2.2.2.2.2.2.2.2.2.2.2.2.2.2.2.1, .inl u_.2.2.2.2.2.2.2.2.2.2.2.2.2.2.2.2.2.2.2.2.2.2.2.2.2.1)), (u_.2.2.2.2.2.2.2.2.2.2.2.2.2.2.2.2.2.2.2.2.1, .inl (cI, u_.2.2.2.2.2.2.2.2.2.2.2.2.2.2.2.2.2.2.2.2.2.1, .inl u_.2.2.2.2.2.2.2.2.2.2.2.2.2.2.2.2.2.2.2.2.2.2.2.2.2.2))]) (fun u_ => K_ u_.1 u_.2.1 u_.2.2.1 u_.2.2.2.1 u_.2.2.2.2.1 u_.2.2.2.2.2.1 u_.2.2.2.2.2.2.1 u_.2.2.2.2.2.2.2.1 u_.2.2.2.2.2.2.2.2.1 u_.2.2.2.2.2.2.2.2.2.1 u_.2.2.2.2.2.2.2.2.2.2.1 u_.2.2.2.2.2.2.2.2.2.2.2.1 u_.2.2.2.2.2.2.2.2.2.2.2.2.1 u_.2.2.2.2.2.2.2.2.2.2.2.2.2.1 u_.2.2.2.2.2.2.2.2.2.2.2.2.2.2.1 u_.2.2.2.2.2.2.2.2.2.2.2.2.2.2.2.1 u_.2.2.2.2.2.2.2.2.2.2.2.2.2.2.2.2.1 u_.2.2.2.2.2.2.2.2.2.2.2.2.2.2.2.2.2.1 u_.2.2.2.2.2.2.2.2.2.2.2.2.2.2.2.2.2.2.1 u_.2.2.2.2.2.2.2.2.2.2.2.2.2.2.2.2.2.2.2.1 u_.2.2.2.2.2.2.2.2.2.2.2.2.2.2.2.2.2.2.2.2.1 u_.2.2.2.2.2.2.2.2.2.2.2.2.2.2.2.2.2.2.2.2.2.1 u_.2.2.2.2.2.2.2.2.2.2.2.2.2.2.2.2.2.2.2.2.2.2.1 u_.2.2.2.2.2.2.2.2.2.2.2.2.2.2.2.2.2.2.2.2.2.2.2.1 u_.2.2.2.2.2.2.2.2.2.2.2.2.2.2.2.2.2.2.2.2.2.2.2.2.1 u_.2.2.2.2.2.2.2.2.2.2.2.2.2.2.2.2.2.2.2.2.2.2.2.2.2.1 u_.2.2.2.2.2.2.2.2.2.2.2.2.2.2.2.2.2.2.2.2.2.2.2.2.2.2)) mc_ ms_ := by
  refine m_of (cc := b_N_init) (nL := 1) (ret := none) (by decide) rfl (Nat.le_of_ble_eq_true rfl) ?_
  intro p e s m below meth c ls A ar Fx_ hA hP hK hD hS hX hl
  obtain ⟨hx, hb, hml, hr, hlocks, hown, hts, hinn⟩ := Fx_
  generalize hQ : MQ below ((qv dd cls5 [(cB, .byte), (cI, .int), (cL, .long), (cS, .object "java/lang/String")] (fun u_ : Nat × Nat × Nat × Nat × Nat × FN × Nat × Nat × Nat × Nat × Nat × FN × Nat × FN × FN × FN × Nat × Nat × Nat × Nat × Nat × Nat × FN × FN × FN × FN × FN => [(oN, .inr (0, [.ref u_.2.2.2.1, .int 0, .int (-1), .ref u_.1, .ref u_.2.1, .ref u_.2.2.1])), (u_.2.2.2.1, .inl (cB, u_.2.2.2.2.1, .inl u_.2.2.2.2.2.1)), (u_.2.2.1, .inr (3, [.ref u_.1, .ref u_.2.1, .int 0, .int 0, .int 0])), (u_.1, .inr (1, [.ref u_.2.2.2.2.2.2.1, .int 0, .ref u_.2.2.2.2.2.2.2.1, .ref u_.2.2.2.2.2.2.2.2.1, .ref u_.2.2.2.2.2.2.2.2.2.1, .int 0])), (u_.2.2.2.2.2.2.1, .inl (cB, u_.2.2.2.2.2.2.2.2.2.2.1, .inl u_.2.2.2.2.2.2.2.2.2.2.2.1)), (u_.2.2.2.2.2.2.2.1, .inl (cI, u_.2.2.2.2.2.2.2.2.2.2.2.2.1, .inl u_.2.2.2.2.2.2.2.2.2.2.2.2.2.1)), (u_.2.2.2.2.2.2.2.2.1, .inl (cI, u_.2.2.2.2.2.2.2.2.2.2.2.2.1, .inl u_.2.2.2.2.2.2.2.2.2.2.2.2.2.2.1)), (u_.2.2.2.2.2.2.2.2.2.1, .inl (cI, u_.2.2.2.2.2.2.2.2.2.2.2.2.1, .inl u_.2.2.2.2.2.2.2.2.2.2.2.2.2.2.2.1)), (u_.2.1, .inr (2, [.ref u_.2.2.2.2.2.2.2.2.2.2.2.2.2.2.2.2.1, .ref u_.2.2.2.2.2.2.2.2.2.2.2.2.2.2.2.2.2.1, .ref u_.2.2.2.2.2.2.2.2.2.2.2.2.2.2.2.2.2.2.1, .ref u_.2.2.2.2.2.2.2.2.2.2.2.2.2.2.2.2.2.2.2.1, .ref u_.2.2.2.2.2.2.2.2.2.2.2.2.2.2.2.2.2.2.2.2.1, .int 0])), (u_.2.2.2.2.2.2.2.2.2.2.2.2.2.2.2.2.1, .inl (cI, u_.2.2.2.2.2.2.2.2.2.2.2.2.2.2.2.2.2.2.2.2.2.1, .inl u_.2.2.2.2.2.2.2.2.2.2.2.2.2.2.2.2.2.2.2.2.2.2.1)), (u_.2.2.2.2.2.2.2.2.2.2.2.2.2.2.2.2.2.1, .inl (cI, u_.2.2.2.2.2.2.2.2.2.2.2.2.2.2.2.2.2.2.2.2.2.1, .inl u_.2.2.2.2.2.2.2.2.2.2.2.2.2.2.2.2.2.2.2.2.2.2.2.1)), (u_.2.2.2.2.2.2.2.2.2.2.2.2.2.2.2.2.2.2.1, .inl (cI, u_.2.2.2.2.2.2.2.2.2.2.2.2.2.2.2.2.2.2.2.2.2.1, .inl u_.2.2.2.2.2.2.2.2.2.2.2.2.2.2.2.2.2.2.2.2.2.2.2.2.1)), (u_.2.2.2.2.2.2.2.2.2.2.2.2.2.2.2.2.2.2.2.1, .inl (cI, u_.2.2.2.2.2.2.2.2.2.2.2.2.2.2.2.2.2.2.2.2.2.1, .inl u_.2.2.2.2.2.2.2.2.2.2.2.2.2.2.2.2.2.2.2.2.2.2.2.2.2.1)), (u_.2.2.2.2.2.2.2.2.2.2.2.2.2.2.2.2.2.2.2.2.1, .inl (cI, u_.2.2.2.2.2.2.2.2.2.2.2.2.2.2.2.2.2.2.2.2.2.1, .inl u_.2.2.2.2.2.2.2.2.2.2.2.2.2.2.2.2.2.2.2.2.2.2.2.2.2.2))]) (fun u_ => K_ u_.1 u_.2.1 u_.2.2.1 u_.2.2.2.1 u_.2.2.2.2.1 u_.2.2.2.2.2.1 u_.2.2.2.2.2.2.1 u_.2.2.2.2.2.2.2.1 u_.2.2.2.2.2.2.2.2.1 u_.2.2.2.2.2.2.2.2.2.1 u_.2.2.2.2.2.2.2.2.2.2.1 u_.2.2.2.2.2.2.2.2.2.2.2.1 u_.2.2.2.2.2.2.2.2.2.2.2.2.1 u_.2.2.2.2.2.2.2.2.2.2.2.2.2.1 u_.2.2.2.2.2.2.2.2.2.2.2.2.2.2.1 u_.2.2.2.2.2.2.2.2.2.2.2.2.2.2.2.1 u_.2.2.2.2.2.2.2.2.2.2.2.2.2.2.2.2.1 u_.2.2.2.2.2.2.2.2.2.2.2.2.2.2.2.2.2.1 u_.2.2.2.2.2.2.2.2.2.2.2.2.2.2.2.2.2.2.1 u_.2.2.2.2.2.2.2.2.2.2.2.2.2.2.2.2.2.2.2.1 u_.2.2.2.2.2.2.2.2.2.2.2.2.2.2.2.2.2.2.2.2.1 u_.2.2.2.2.2.2.2.2.2.2.2.2.2.2.2.2.2.2.2.2.2.1 u_.2.2.2.2.2.2.2.2.2.2.2.2.2.2.2.2.2.2.2.2.2.2.1 u_.2.2.2.2.2.2.2.2.2.2.2.2.2.2.2.2.2.2.2.2.2.2.2.1 u_.2.2.2.2.2.2.2.2.2.2.2.2.2.2.2.2.2.2.2.2.2.2.2.2.1 u_.2.2.2.2.2.2.2.2.2.2.2.2.2.2.2.2.2.2.2.2.2.2.2.2.2.1 u_.2.2.2.2.2.2.2.2.2.2.2.2.2.2.2.2.2.2.2.2.2.2.2.2.2.2)) A) ar s mc_ ms_ A = QQ
  have hl : lv_has ls 1 [(0, .ref oN)] := hl
  unfold vc_N_init at hv
  refine lv_aload_n hx hb d_N_init_0 rfl (lv_at hl 0 rfl) ?_
  refine W.objInit hx hb hown (hts (.methodLink "NetText" 1 ⟨"java/lang/Object", "<init>", "()V"⟩) (tg at_25)) (hts (.instanceMethod ⟨"java/lang/Object", "<init>", "()V"⟩) (tg at_26)) (hts (.code ⟨"java/lang/Object", "<init>", "()V"⟩ object_method_1_code 1 none) (tg at_27)) rfl (hl.1.trans hml.symm) rfl d_N_init_1 (Nat.le_of_ble_eq_true rfl) (Nat.le_of_ble_eq_true rfl) ?_
  refine lv_aload_n hx hb d_N_init_4 rfl (lv_at hl 0 rfl) ?_
  refine lv_sipush (v := 512) hx hb d_N_init_5 (by decide) ?_
  obtain ⟨h_2, h_3, h_4, h_5, hv⟩ := hv
  refine n_ab hx hb (hts (.arrayClass .byte) (tg at_55)) hK 0 rfl hP hD hS hA h_2 h_3 h_4 h_5 d_N_init_8 (fun q_1 H hP hD hS => ?_)
  have hv := hv q_1
  have hP : va_P dd cls5 [(oN, .inr (0, [.null, .int 0, .int 0, .null, .null, .null])), (q_1, .inl (cB, ((512 : Int32).toNatClampNeg), .inl (fun _ => 0)))] H := hP
  have hD : va_D A [(oN, .inr (0, [.null, .int 0, .int 0, .null, .null, .null])), (q_1, .inl (cB, ((512 : Int32).toNatClampNeg), .inl (fun _ => 0)))] := hD
  refine va_put (D := dd) (ci := 0) (C := Rc_N) (T := Fc_N) (N := 6) (v := .ref q_1) (ty := (.array .byte)) hx hb hts (inn in_N) tyf_N tyf_N_ok nmf_N hown hK hP hD hS 0 rfl rfl 0 (by decide) (hts (.fieldLink "NetText" 9 "NetText" "tape" "[B") (tg at_111)) (fun _ h9 => h9) rfl (by decide +kernel) rfl rfl (Nat.le_of_ble_eq_true rfl) d_N_init_10 (fun H locs hP hD hS => ?_)
  have hP : va_P dd cls5 [(oN, .inr (0, [.ref q_1, .int 0, .int 0, .null, .null, .null])), (q_1, .inl (cB, ((512 : Int32).toNatClampNeg), .inl (fun _ => 0)))] H := hP
  have hD : va_D A [(oN, .inr (0, [.ref q_1, .int 0, .int 0, .null, .null, .null])), (q_1, .inl (cB, ((512 : Int32).toNatClampNeg), .inl (fun _ => 0)))] := hD
  refine lv_aload_n hx hb d_N_init_13 rfl (lv_at hl 0 rfl) ?_
  refine lv_iconst (v := 0) hx hb d_N_init_14 (by decide) ?_
  refine va_put (D := dd) (ci := 0) (C := Rc_N) (T := Fc_N) (N := 6) (v := .int 0) (ty := .int) hx hb hts (inn in_N) tyf_N tyf_N_ok nmf_N hown hK hP hD hS 0 rfl rfl 1 (by decide) (hts (.fieldLink "NetText" 13 "NetText" "length" "I") (tg at_112)) (fun _ h9 => h9) rfl (by decide +kernel) rfl rfl (Nat.le_of_ble_eq_true rfl) d_N_init_15 (fun H locs hP hD hS => ?_)
  have hP : va_P dd cls5 [(oN, .inr (0, [.ref q_1, .int 0, .int 0, .null, .null, .null])), (q_1, .inl (cB, ((512 : Int32).toNatClampNeg), .inl (fun _ => 0)))] H := hP
  have hD : va_D A [(oN, .inr (0, [.ref q_1, .int 0, .int 0, .null, .null, .null])), (q_1, .inl (cB, ((512 : Int32).toNatClampNeg), .inl (fun _ => 0)))] := hD
  refine lv_aload_n hx hb d_N_init_18 rfl (lv_at hl 0 rfl) ?_
  refine lv_iconst (v := (-1)) hx hb d_N_init_19 (by decide) ?_
  refine va_put (D := dd) (ci := 0) (C := Rc_N) (T := Fc_N) (N := 6) (v := .int (-1)) (ty := .int) hx hb hts (inn in_N) tyf_N tyf_N_ok nmf_N hown hK hP hD hS 0 rfl rfl 2 (by decide) (hts (.fieldLink "NetText" 17 "NetText" "place" "I") (tg at_113)) (fun _ h9 => h9) rfl (by decide +kernel) rfl rfl (Nat.le_of_ble_eq_true rfl) d_N_init_20 (fun H locs hP hD hS => ?_)
  have hP : va_P dd cls5 [(oN, .inr (0, [.ref q_1, .int 0, .int (-1), .null, .null, .null])), (q_1, .inl (cB, ((512 : Int32).toNatClampNeg), .inl (fun _ => 0)))] H := hP
  have hD : va_D A [(oN, .inr (0, [.ref q_1, .int 0, .int (-1), .null, .null, .null])), (q_1, .inl (cB, ((512 : Int32).toNatClampNeg), .inl (fun _ => 0)))] := hD
  refine lv_aload_n hx hb d_N_init_23 rfl (lv_at hl 0 rfl) ?_
  obtain ⟨h_7, h_8, hv⟩ := hv
  refine va_new (ci := 1) (fs := [.null, .int 0, .null, .null, .null, .int 0]) (C := Rc_W) (T := Fc_W) (N := 6) hx hb hts (inn in_W) tyf_W tyf_W_ok hown (hts (.classLink "NetText" 20 "NetText$Words") (tg at_28)) (hts (.instantiable "NetText$Words" 6) (tg at_29)) (hts (.initialized "NetText$Words") (tg at_2)) hK hP hD hS hA rfl (fun j hj => by rcases (show j = 0 ∨ j = 1 ∨ j = 2 ∨ j = 3 ∨ j = 4 ∨ j = 5 by omega) with rfl | rfl | rfl | rfl | rfl | rfl <;> rfl) h_7 h_8 d_N_init_24 (fun q_6 H hP hD hS => ?_)
  have hv := hv q_6
  have hP : va_P dd cls5 [(oN, .inr (0, [.ref q_1, .int 0, .int (-1), .null, .null, .null])), (q_1, .inl (cB, ((512 : Int32).toNatClampNeg), .inl (fun _ => 0))), (q_6, .inr (1, [.null, .int 0, .null, .null, .null, .int 0]))] H := hP
  have hD : va_D A [(oN, .inr (0, [.ref q_1, .int 0, .int (-1), .null, .null, .null])), (q_1, .inl (cB, ((512 : Int32).toNatClampNeg), .inl (fun _ => 0))), (q_6, .inr (1, [.null, .int 0, .null, .null, .null, .int 0]))] := hD
  refine lv_dup hx hb d_N_init_27 rfl ?_
  refine lv_sipush (v := 512) hx hb d_N_init_28 (by decide) ?_
  obtain ⟨c_20, s_21, h_47, h_48, hv⟩ := hv
  have hM := met_W_init (l := l) (dd := dd) (cB := cB) (cI := cI) (cL := cL) (cS := cS) (oW := q_6)  hv
  refine ki_v (st := [.int 512, .ref q_6, .ref q_6, .ref oN]) (rest := [.ref q_6, .ref oN]) (wr := [(oN, .inr (0, [.ref q_1, .int 0, .int (-1), .null, .null, .null])), (q_1, .inl (cB, ((512 : Int32).toNatClampNeg), .inl (fun _ => 0)))]) ⟨hx, hb, hml, hown, hts⟩ hM (cwI 1 hts (gcd (tg0 at_32)) rfl rfl rfl (hts (.initialized "NetText$Words") (tg at_2)) (hts (.methodLink "NetText" 22 ⟨"NetText$Words", "<init>", "(I)V"⟩) (tg at_30)) (hts (.instanceMethod ⟨"NetText$Words", "<init>", "(I)V"⟩) (tg at_31)) rfl (by decide +kernel) (rk (by omega) (by decide))) x0b x0g hP hK hD hS hA [2] [0, 1] rfl rfl (by decide) (by decide) (by decide) rfl hl.1 rfl (Nat.le_of_ble_eq_true rfl) d_N_init_31 ⟨h_47, h_48⟩ (fun u_49 H locs hv hP hD hS => ?_)
  obtain ⟨aX_10, aO_11, aB_12, aE_13, nX_14, tx_15, nO_16, so_17, sb_18, se_19⟩ := u_49
  have hP : va_P dd cls5 [(oN, .inr (0, [.ref q_1, .int 0, .int (-1), .null, .null, .null])), (q_1, .inl (cB, ((512 : Int32).toNatClampNeg), .inl (fun _ => 0))), (q_6, .inr (1, [.ref aX_10, .int 0, .ref aO_11, .ref aB_12, .ref aE_13, .int 0])), (aX_10, .inl (cB, nX_14, .inl tx_15)), (aO_11, .inl (cI, nO_16, .inl so_17)), (aB_12, .inl (cI, nO_16, .inl sb_18)), (aE_13, .inl (cI, nO_16, .inl se_19))] H := hP
  have hD : va_D A [(oN, .inr (0, [.ref q_1, .int 0, .int (-1), .null, .null, .null])), (q_1, .inl (cB, ((512 : Int32).toNatClampNeg), .inl (fun _ => 0))), (q_6, .inr (1, [.ref aX_10, .int 0, .ref aO_11, .ref aB_12, .ref aE_13, .int 0])), (aX_10, .inl (cB, nX_14, .inl tx_15)), (aO_11, .inl (cI, nO_16, .inl so_17)), (aB_12, .inl (cI, nO_16, .inl sb_18)), (aE_13, .inl (cI, nO_16, .inl se_19))] := hD
  refine va_putF (D := dd) (ci := 0) (C := Rc_N) (T := Fc_N) (N := 6) (v := .ref q_6) (ty := (.object "NetText$Words")) hx hb hts (inn in_N) tyf_N tyf_N_ok nmf_N hown hK hP hD hS 0 rfl rfl 3 (by decide) (hts (.fieldLink "NetText" 25 "NetText" "words" "LNetText$Words;") (tg at_114)) (fun _ h9 => h9) rfl hinn rfl (by decide +kernel) rfl rfl (Nat.le_of_ble_eq_true rfl) d_N_init_34 (fun H locs hP hD hS => ?_)
  have hP : va_P dd cls5 [(oN, .inr (0, [.ref q_1, .int 0, .int (-1), .ref q_6, .null, .null])), (q_1, .inl (cB, ((512 : Int32).toNatClampNeg), .inl (fun _ => 0))), (q_6, .inr (1, [.ref aX_10, .int 0, .ref aO_11, .ref aB_12, .ref aE_13, .int 0])), (aX_10, .inl (cB, nX_14, .inl tx_15)), (aO_11, .inl (cI, nO_16, .inl so_17)), (aB_12, .inl (cI, nO_16, .inl sb_18)), (aE_13, .inl (cI, nO_16, .inl se_19))] H := hP
  have hD : va_D A [(oN, .inr (0, [.ref q_1, .int 0, .int (-1), .ref q_6, .null, .null])), (q_1, .inl (cB, ((512 : Int32).toNatClampNeg), .inl (fun _ => 0))), (q_6, .inr (1, [.ref aX_10, .int 0, .ref aO_11, .ref aB_12, .ref aE_13, .int 0])), (aX_10, .inl (cB, nX_14, .inl tx_15)), (aO_11, .inl (cI, nO_16, .inl so_17)), (aB_12, .inl (cI, nO_16, .inl sb_18)), (aE_13, .inl (cI, nO_16, .inl se_19))] := hD
  refine lv_aload_n hx hb d_N_init_37 rfl (lv_at hl 0 rfl) ?_
  obtain ⟨h_23, h_24, hv⟩ := hv
  refine va_new (ci := 2) (fs := [.null, .null, .null, .null, .null, .int 0]) (C := Rc_T) (T := Fc_T) (N := 6) hx hb hts (inn in_T) tyf_T tyf_T_ok hown (hts (.classLink "NetText" 29 "NetText$Tree") (tg at_57)) (hts (.instantiable "NetText$Tree" 6) (tg at_58)) (hts (.initialized "NetText$Tree") (tg at_3)) hK hP hD hS hA rfl (fun j hj => by rcases (show j = 0 ∨ j = 1 ∨ j = 2 ∨ j = 3 ∨ j = 4 ∨ j = 5 by omega) with rfl | rfl | rfl | rfl | rfl | rfl <;> rfl) h_23 h_24 d_N_init_38 (fun q_22 H hP hD hS => ?_)
  have hv := hv q_22
  have hP : va_P dd cls5 [(oN, .inr (0, [.ref q_1, .int 0, .int (-1), .ref q_6, .null, .null])), (q_1, .inl (cB, ((512 : Int32).toNatClampNeg), .inl (fun _ => 0))), (q_6, .inr (1, [.ref aX_10, .int 0, .ref aO_11, .ref aB_12, .ref aE_13, .int 0])), (aX_10, .inl (cB, nX_14, .inl tx_15)), (aO_11, .inl (cI, nO_16, .inl so_17)), (aB_12, .inl (cI, nO_16, .inl sb_18)), (aE_13, .inl (cI, nO_16, .inl se_19)), (q_22, .inr (2, [.null, .null, .null, .null, .null, .int 0]))] H := hP
  have hD : va_D A [(oN, .inr (0, [.ref q_1, .int 0, .int (-1), .ref q_6, .null, .null])), (q_1, .inl (cB, ((512 : Int32).toNatClampNeg), .inl (fun _ => 0))), (q_6, .inr (1, [.ref aX_10, .int 0, .ref aO_11, .ref aB_12, .ref aE_13, .int 0])), (aX_10, .inl (cB, nX_14, .inl tx_15)), (aO_11, .inl (cI, nO_16, .inl so_17)), (aB_12, .inl (cI, nO_16, .inl sb_18)), (aE_13, .inl (cI, nO_16, .inl se_19)), (q_22, .inr (2, [.null, .null, .null, .null, .null, .int 0]))] := hD
  refine lv_dup hx hb d_N_init_41 rfl ?_
  refine lv_sipush (v := 512) hx hb d_N_init_42 (by decide) ?_
  obtain ⟨c_37, s_38, h_44, h_45, hv⟩ := hv
  have hM := met_T_init (l := l) (dd := dd) (cB := cB) (cI := cI) (cL := cL) (cS := cS) (oT := q_22)  hv
  refine ki_v (st := [.int 512, .ref q_22, .ref q_22, .ref oN]) (rest := [.ref q_22, .ref oN]) (wr := [(oN, .inr (0, [.ref q_1, .int 0, .int (-1), .ref q_6, .null, .null])), (q_1, .inl (cB, ((512 : Int32).toNatClampNeg), .inl (fun _ => 0))), (q_6, .inr (1, [.ref aX_10, .int 0, .ref aO_11, .ref aB_12, .ref aE_13, .int 0])), (aX_10, .inl (cB, nX_14, .inl tx_15)), (aO_11, .inl (cI, nO_16, .inl so_17)), (aB_12, .inl (cI, nO_16, .inl sb_18)), (aE_13, .inl (cI, nO_16, .inl se_19))]) ⟨hx, hb, hml, hown, hts⟩ hM (cwI 1 hts (gcd (tg0 at_61)) rfl rfl rfl (hts (.initialized "NetText$Tree") (tg at_3)) (hts (.methodLink "NetText" 31 ⟨"NetText$Tree", "<init>", "(I)V"⟩) (tg at_59)) (hts (.instanceMethod ⟨"NetText$Tree", "<init>", "(I)V"⟩) (tg at_60)) rfl (by decide +kernel) (rk (by omega) (by decide))) x0b x0g hP hK hD hS hA [7] [0, 1, 2, 3, 4, 5, 6] rfl rfl (by decide) (by decide) (by decide) rfl hl.1 rfl (Nat.le_of_ble_eq_true rfl) d_N_init_45 ⟨h_44, h_45⟩ (fun u_46 H locs hv hP hD hS => ?_)
  obtain ⟨aK_26, aF_27, aP_28, aS_29, aD_30, nT_31, K_32, F_33, Pa_34, Sg_35, Dp_36⟩ := u_46
  have hP : va_P dd cls5 [(oN, .inr (0, [.ref q_1, .int 0, .int (-1), .ref q_6, .null, .null])), (q_1, .inl (cB, ((512 : Int32).toNatClampNeg), .inl (fun _ => 0))), (q_6, .inr (1, [.ref aX_10, .int 0, .ref aO_11, .ref aB_12, .ref aE_13, .int 0])), (aX_10, .inl (cB, nX_14, .inl tx_15)), (aO_11, .inl (cI, nO_16, .inl so_17)), (aB_12, .inl (cI, nO_16, .inl sb_18)), (aE_13, .inl (cI, nO_16, .inl se_19)), (q_22, .inr (2, [.ref aK_26, .ref aF_27, .ref aP_28, .ref aS_29, .ref aD_30, .int 0])), (aK_26, .inl (cI, nT_31, .inl K_32)), (aF_27, .inl (cI, nT_31, .inl F_33)), (aP_28, .inl (cI, nT_31, .inl Pa_34)), (aS_29, .inl (cI, nT_31, .inl Sg_35)), (aD_30, .inl (cI, nT_31, .inl Dp_36))] H := hP
  have hD : va_D A [(oN, .inr (0, [.ref q_1, .int 0, .int (-1), .ref q_6, .null, .null])), (q_1, .inl (cB, ((512 : Int32).toNatClampNeg), .inl (fun _ => 0))), (q_6, .inr (1, [.ref aX_10, .int 0, .ref aO_11, .ref aB_12, .ref aE_13, .int 0])), (aX_10, .inl (cB, nX_14, .inl tx_15)), (aO_11, .inl (cI, nO_16, .inl so_17)), (aB_12, .inl (cI, nO_16, .inl sb_18)), (aE_13, .inl (cI, nO_16, .inl se_19)), (q_22, .inr (2, [.ref aK_26, .ref aF_27, .ref aP_28, .ref aS_29, .ref aD_30, .int 0])), (aK_26, .inl (cI, nT_31, .inl K_32)), (aF_27, .inl (cI, nT_31, .inl F_33)), (aP_28, .inl (cI, nT_31, .inl Pa_34)), (aS_29, .inl (cI, nT_31, .inl Sg_35)), (aD_30, .inl (cI, nT_31, .inl Dp_36))] := hD
  refine va_putF (D := dd) (ci := 0) (C := Rc_N) (T := Fc_N) (N := 6) (v := .ref q_22) (ty := (.object "NetText$Tree")) hx hb hts (inn in_N) tyf_N tyf_N_ok nmf_N hown hK hP hD hS 0 rfl rfl 4 (by decide) (hts (.fieldLink "NetText" 32 "NetText" "tree" "LNetText$Tree;") (tg at_115)) (fun _ h9 => h9) rfl hinn rfl (by decide +kernel) rfl rfl (Nat.le_of_ble_eq_true rfl) d_N_init_48 (fun H locs hP hD hS => ?_)
  have hP : va_P dd cls5 [(oN, .inr (0, [.ref q_1, .int 0, .int (-1), .ref q_6, .ref q_22, .null])), (q_1, .inl (cB, ((512 : Int32).toNatClampNeg), .inl (fun _ => 0))), (q_6, .inr (1, [.ref aX_10, .int 0, .ref aO_11, .ref aB_12, .ref aE_13, .int 0])), (aX_10, .inl (cB, nX_14, .inl tx_15)), (aO_11, .inl (cI, nO_16, .inl so_17)), (aB_12, .inl (cI, nO_16, .inl sb_18)), (aE_13, .inl (cI, nO_16, .inl se_19)), (q_22, .inr (2, [.ref aK_26, .ref aF_27, .ref aP_28, .ref aS_29, .ref aD_30, .int 0])), (aK_26, .inl (cI, nT_31, .inl K_32)), (aF_27, .inl (cI, nT_31, .inl F_33)), (aP_28, .inl (cI, nT_31, .inl Pa_34)), (aS_29, .inl (cI, nT_31, .inl Sg_35)), (aD_30, .inl (cI, nT_31, .inl Dp_36))] H := hP
  have hD : va_D A [(oN, .inr (0, [.ref q_1, .int 0, .int (-1), .ref q_6, .ref q_22, .null])), (q_1, .inl (cB, ((512 : Int32).toNatClampNeg), .inl (fun _ => 0))), (q_6, .inr (1, [.ref aX_10, .int 0, .ref aO_11, .ref aB_12, .ref aE_13, .int 0])), (aX_10, .inl (cB, nX_14, .inl tx_15)), (aO_11, .inl (cI, nO_16, .inl so_17)), (aB_12, .inl (cI, nO_16, .inl sb_18)), (aE_13, .inl (cI, nO_16, .inl se_19)), (q_22, .inr (2, [.ref aK_26, .ref aF_27, .ref aP_28, .ref aS_29, .ref aD_30, .int 0])), (aK_26, .inl (cI, nT_31, .inl K_32)), (aF_27, .inl (cI, nT_31, .inl F_33)), (aP_28, .inl (cI, nT_31, .inl Pa_34)), (aS_29, .inl (cI, nT_31, .inl Sg_35)), (aD_30, .inl (cI, nT_31, .inl Dp_36))] := hD
  refine lv_aload_n hx hb d_N_init_51 rfl (lv_at hl 0 rfl) ?_
  obtain ⟨h_40, h_41, hv⟩ := hv
  refine va_new (ci := 3) (fs := [.null, .null, .int 0, .int 0, .int 0]) (C := Rc_P) (T := Fc_P) (N := 5) hx hb hts (inn in_P) tyf_P tyf_P_ok hown (hts (.classLink "NetText" 36 "NetText$Parser") (tg at_89)) (hts (.instantiable "NetText$Parser" 5) (tg at_90)) (hts (.initialized "NetText$Parser") (tg at_4)) hK hP hD hS hA rfl (fun j hj => by rcases (show j = 0 ∨ j = 1 ∨ j = 2 ∨ j = 3 ∨ j = 4 by omega) with rfl | rfl | rfl | rfl | rfl <;> rfl) h_40 h_41 d_N_init_52 (fun q_39 H hP hD hS => ?_)
  have hv := hv q_39
  have hP : va_P dd cls5 [(oN, .inr (0, [.ref q_1, .int 0, .int (-1), .ref q_6, .ref q_22, .null])), (q_1, .inl (cB, ((512 : Int32).toNatClampNeg), .inl (fun _ => 0))), (q_6, .inr (1, [.ref aX_10, .int 0, .ref aO_11, .ref aB_12, .ref aE_13, .int 0])), (aX_10, .inl (cB, nX_14, .inl tx_15)), (aO_11, .inl (cI, nO_16, .inl so_17)), (aB_12, .inl (cI, nO_16, .inl sb_18)), (aE_13, .inl (cI, nO_16, .inl se_19)), (q_22, .inr (2, [.ref aK_26, .ref aF_27, .ref aP_28, .ref aS_29, .ref aD_30, .int 0])), (aK_26, .inl (cI, nT_31, .inl K_32)), (aF_27, .inl (cI, nT_31, .inl F_33)), (aP_28, .inl (cI, nT_31, .inl Pa_34)), (aS_29, .inl (cI, nT_31, .inl Sg_35)), (aD_30, .inl (cI, nT_31, .inl Dp_36)), (q_39, .inr (3, [.null, .null, .int 0, .int 0, .int 0]))] H := hP
  have hD : va_D A [(oN, .inr (0, [.ref q_1, .int 0, .int (-1), .ref q_6, .ref q_22, .null])), (q_1, .inl (cB, ((512 : Int32).toNatClampNeg), .inl (fun _ => 0))), (q_6, .inr (1, [.ref aX_10, .int 0, .ref aO_11, .ref aB_12, .ref aE_13, .int 0])), (aX_10, .inl (cB, nX_14, .inl tx_15)), (aO_11, .inl (cI, nO_16, .inl so_17)), (aB_12, .inl (cI, nO_16, .inl sb_18)), (aE_13, .inl (cI, nO_16, .inl se_19)), (q_22, .inr (2, [.ref aK_26, .ref aF_27, .ref aP_28, .ref aS_29, .ref aD_30, .int 0])), (aK_26, .inl (cI, nT_31, .inl K_32)), (aF_27, .inl (cI, nT_31, .inl F_33)), (aP_28, .inl (cI, nT_31, .inl Pa_34)), (aS_29, .inl (cI, nT_31, .inl Sg_35)), (aD_30, .inl (cI, nT_31, .inl Dp_36)), (q_39, .inr (3, [.null, .null, .int 0, .int 0, .int 0]))] := hD
  refine lv_dup hx hb d_N_init_55 rfl ?_
  refine lv_aload_n hx hb d_N_init_56 rfl (lv_at hl 0 rfl) ?_
  refine va_get (D := dd) (ci := 0) (C := Rc_N) (T := Fc_N) (N := 6) (v := .ref q_6) hx hb hts (inn in_N) hown hK hP 0 rfl rfl 3 (by decide) (hts (.fieldLink "NetText" 25 "NetText" "words" "LNetText$Words;") (tg at_114)) (fun _ h9 => h9) rfl d_N_init_57 ?_
  refine lv_aload_n hx hb d_N_init_60 rfl (lv_at hl 0 rfl) ?_
  refine va_get (D := dd) (ci := 0) (C := Rc_N) (T := Fc_N) (N := 6) (v := .ref q_22) hx hb hts (inn in_N) hown hK hP 0 rfl rfl 4 (by decide) (hts (.fieldLink "NetText" 32 "NetText" "tree" "LNetText$Tree;") (tg at_115)) (fun _ h9 => h9) rfl d_N_init_61 ?_
  have hM := met_P_init (l := l) (dd := dd) (cB := cB) (cI := cI) (cL := cL) (cS := cS) (oP := q_39) (oW := q_6) (oT := q_22)  hv
  refine ki_v (st := [.ref q_22, .ref q_6, .ref q_39, .ref q_39, .ref oN]) (rest := [.ref q_39, .ref oN]) (wr := [(oN, .inr (0, [.ref q_1, .int 0, .int (-1), .ref q_6, .ref q_22, .null])), (q_1, .inl (cB, ((512 : Int32).toNatClampNeg), .inl (fun _ => 0))), (q_6, .inr (1, [.ref aX_10, .int 0, .ref aO_11, .ref aB_12, .ref aE_13, .int 0])), (aX_10, .inl (cB, nX_14, .inl tx_15)), (aO_11, .inl (cI, nO_16, .inl so_17)), (aB_12, .inl (cI, nO_16, .inl sb_18)), (aE_13, .inl (cI, nO_16, .inl se_19)), (q_22, .inr (2, [.ref aK_26, .ref aF_27, .ref aP_28, .ref aS_29, .ref aD_30, .int 0])), (aK_26, .inl (cI, nT_31, .inl K_32)), (aF_27, .inl (cI, nT_31, .inl F_33)), (aP_28, .inl (cI, nT_31, .inl Pa_34)), (aS_29, .inl (cI, nT_31, .inl Sg_35)), (aD_30, .inl (cI, nT_31, .inl Dp_36))]) ⟨hx, hb, hml, hown, hts⟩ hM (cwI 2 hts (gcd (tg0 at_93)) rfl rfl rfl (hts (.initialized "NetText$Parser") (tg at_4)) (hts (.methodLink "NetText" 38 ⟨"NetText$Parser", "<init>", "(LNetText$Words;LNetText$Tree;)V"⟩) (tg at_91)) (hts (.instanceMethod ⟨"NetText$Parser", "<init>", "(LNetText$Words;LNetText$Tree;)V"⟩) (tg at_92)) rfl (by decide +kernel) (rk (by omega) (by decide))) x0b x0g hP hK hD hS hA [13] [0, 1, 2, 3, 4, 5, 6, 7, 8, 9, 10, 11, 12] rfl rfl (by decide) (by decide) (by decide) rfl hl.1 rfl (Nat.le_of_ble_eq_true rfl) d_N_init_64 ⟨by show 0 + 1 + 1 + c_20 + 1 + c_37 + 1 + 0 ≤ mc_; omega, by show 0 + (512 : Int32).toNatClampNeg + 6 + s_21 + 6 + s_38 + 5 + 0 ≤ ms_; omega⟩ (fun u_43 H locs hv hP hD hS => ?_)
  have hP : va_P dd cls5 [(oN, .inr (0, [.ref q_1, .int 0, .int (-1), .ref q_6, .ref q_22, .null])), (q_1, .inl (cB, ((512 : Int32).toNatClampNeg), .inl (fun _ => 0))), (q_6, .inr (1, [.ref aX_10, .int 0, .ref aO_11, .ref aB_12, .ref aE_13, .int 0])), (aX_10, .inl (cB, nX_14, .inl tx_15)), (aO_11, .inl (cI, nO_16, .inl so_17)), (aB_12, .inl (cI, nO_16, .inl sb_18)), (aE_13, .inl (cI, nO_16, .inl se_19)), (q_22, .inr (2, [.ref aK_26, .ref aF_27, .ref aP_28, .ref aS_29, .ref aD_30, .int 0])), (aK_26, .inl (cI, nT_31, .inl K_32)), (aF_27, .inl (cI, nT_31, .inl F_33)), (aP_28, .inl (cI, nT_31, .inl Pa_34)), (aS_29, .inl (cI, nT_31, .inl Sg_35)), (aD_30, .inl (cI, nT_31, .inl Dp_36)), (q_39, .inr (3, [.ref q_6, .ref q_22, .int 0, .int 0, .int 0]))] H := hP
  have hD : va_D A [(oN, .inr (0, [.ref q_1, .int 0, .int (-1), .ref q_6, .ref q_22, .null])), (q_1, .inl (cB, ((512 : Int32).toNatClampNeg), .inl (fun _ => 0))), (q_6, .inr (1, [.ref aX_10, .int 0, .ref aO_11, .ref aB_12, .ref aE_13, .int 0])), (aX_10, .inl (cB, nX_14, .inl tx_15)), (aO_11, .inl (cI, nO_16, .inl so_17)), (aB_12, .inl (cI, nO_16, .inl sb_18)), (aE_13, .inl (cI, nO_16, .inl se_19)), (q_22, .inr (2, [.ref aK_26, .ref aF_27, .ref aP_28, .ref aS_29, .ref aD_30, .int 0])), (aK_26, .inl (cI, nT_31, .inl K_32)), (aF_27, .inl (cI, nT_31, .inl F_33)), (aP_28, .inl (cI, nT_31, .inl Pa_34)), (aS_29, .inl (cI, nT_31, .inl Sg_35)), (aD_30, .inl (cI, nT_31, .inl Dp_36)), (q_39, .inr (3, [.ref q_6, .ref q_22, .int 0, .int 0, .int 0]))] := hD
  refine va_putF (D := dd) (ci := 0) (C := Rc_N) (T := Fc_N) (N := 6) (v := .ref q_39) (ty := (.object "NetText$Parser")) hx hb hts (inn in_N) tyf_N tyf_N_ok nmf_N hown hK hP hD hS 0 rfl rfl 5 (by decide) (hts (.fieldLink "NetText" 41 "NetText" "parser" "LNetText$Parser;") (tg at_116)) (fun _ h9 => h9) rfl hinn rfl (by decide +kernel) rfl rfl (Nat.le_of_ble_eq_true rfl) d_N_init_67 (fun H locs hP hD hS => ?_)
  have hP : va_P dd cls5 [(oN, .inr (0, [.ref q_1, .int 0, .int (-1), .ref q_6, .ref q_22, .ref q_39])), (q_1, .inl (cB, ((512 : Int32).toNatClampNeg), .inl (fun _ => 0))), (q_6, .inr (1, [.ref aX_10, .int 0, .ref aO_11, .ref aB_12, .ref aE_13, .int 0])), (aX_10, .inl (cB, nX_14, .inl tx_15)), (aO_11, .inl (cI, nO_16, .inl so_17)), (aB_12, .inl (cI, nO_16, .inl sb_18)), (aE_13, .inl (cI, nO_16, .inl se_19)), (q_22, .inr (2, [.ref aK_26, .ref aF_27, .ref aP_28, .ref aS_29, .ref aD_30, .int 0])), (aK_26, .inl (cI, nT_31, .inl K_32)), (aF_27, .inl (cI, nT_31, .inl F_33)), (aP_28, .inl (cI, nT_31, .inl Pa_34)), (aS_29, .inl (cI, nT_31, .inl Sg_35)), (aD_30, .inl (cI, nT_31, .inl Dp_36)), (q_39, .inr (3, [.ref q_6, .ref q_22, .int 0, .int 0, .int 0]))] H := hP
  have hD : va_D A [(oN, .inr (0, [.ref q_1, .int 0, .int (-1), .ref q_6, .ref q_22, .ref q_39])), (q_1, .inl (cB, ((512 : Int32).toNatClampNeg), .inl (fun _ => 0))), (q_6, .inr (1, [.ref aX_10, .int 0, .ref aO_11, .ref aB_12, .ref aE_13, .int 0])), (aX_10, .inl (cB, nX_14, .inl tx_15)), (aO_11, .inl (cI, nO_16, .inl so_17)), (aB_12, .inl (cI, nO_16, .inl sb_18)), (aE_13, .inl (cI, nO_16, .inl se_19)), (q_22, .inr (2, [.ref aK_26, .ref aF_27, .ref aP_28, .ref aS_29, .ref aD_30, .int 0])), (aK_26, .inl (cI, nT_31, .inl K_32)), (aF_27, .inl (cI, nT_31, .inl F_33)), (aP_28, .inl (cI, nT_31, .inl Pa_34)), (aS_29, .inl (cI, nT_31, .inl Sg_35)), (aD_30, .inl (cI, nT_31, .inl Dp_36)), (q_39, .inr (3, [.ref q_6, .ref q_22, .int 0, .int 0, .int 0]))] := hD
  subst hQ
  exact r_v hx hb hr hlocks  (q_6, q_22, q_39, q_1, (512 : Int32).toNatClampNeg, (fun _ => 0), aX_10, aO_11, aB_12, aE_13, nX_14, tx_15, nO_16, so_17, sb_18, se_19, aK_26, aF_27, aP_28, aS_29, aD_30, nT_31, K_32, F_33, Pa_34, Sg_35, Dp_36) hv (hP.sub [0, 1, 13, 2, 3, 4, 5, 6, 7, 8, 9, 10, 11, 12] rfl) hK (hD.sub [0, 1, 13, 2, 3, 4, 5, 6, 7, 8, 9, 10, 11, 12] (by decide) rfl) hS (by omega) (by omega) d_N_init_70
