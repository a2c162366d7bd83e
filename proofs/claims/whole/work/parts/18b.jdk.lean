theorem at_14 : lw_tbl[98]? = some (.initialized "java/lang/String") := by decide +kernel
theorem at_15 : lw_tbl[99]? = some (.initialized "java/lang/StringLatin1") := by decide +kernel
theorem at_202 : lw_tbl[286]? = some (.methodLink "java/lang/String" 335 ⟨"java/lang/String", "coder", "()B"⟩) := by decide +kernel
theorem at_203 : lw_tbl[287]? = some (.instanceMethod ⟨"java/lang/String", "coder", "()B"⟩) := by decide +kernel
theorem at_204 : lw_tbl[288]? = some (.selects "java/lang/String" ⟨"java/lang/String", "coder", "()B"⟩ ⟨"java/lang/String", "coder", "()B"⟩) := by decide +kernel
theorem at_205 : lw_tbl[289]? = some (.code ⟨"java/lang/String", "coder", "()B"⟩ prog_17_method_152_code 1 (some .byte)) := by decide +kernel
theorem at_206 : lw_tbl[290]? = some (.fieldLink "java/lang/String" 38 "java/lang/String" "COMPACT_STRINGS" "Z") := by decide +kernel
theorem at_219 : lw_tbl[303]? = some (.methodLink "java/lang/StringLatin1" 9 ⟨"java/lang/String", "checkIndex", "(II)V"⟩) := by decide +kernel
theorem at_220 : lw_tbl[304]? = some (.static ⟨"java/lang/String", "checkIndex", "(II)V"⟩) := by decide +kernel
theorem at_221 : lw_tbl[305]? = some (.code ⟨"java/lang/String", "checkIndex", "(II)V"⟩ prog_17_method_155_code 2 none) := by decide +kernel
theorem at_287 : lw_tbl[371]? = some (.methodLink "java/lang/StringLatin1" 88 ⟨"java/lang/StringLatin1", "canEncode", "(I)Z"⟩) := by decide +kernel
theorem at_288 : lw_tbl[372]? = some (.static ⟨"java/lang/StringLatin1", "canEncode", "(I)Z"⟩) := by decide +kernel
theorem at_289 : lw_tbl[373]? = some (.code ⟨"java/lang/StringLatin1", "canEncode", "(I)Z"⟩ prog_18_method_4_code 1 (some .boolean)) := by decide +kernel
theorem at_290 : lw_tbl[374]? = some (.methodLink "java/lang/StringLatin1" 92 ⟨"java/lang/Math", "max", "(II)I"⟩) := by decide +kernel
theorem at_293 : lw_tbl[377]? = some (.methodLink "java/lang/StringLatin1" 38 ⟨"java/lang/Math", "min", "(II)I"⟩) := by decide +kernel
theorem at_294 : lw_tbl[378]? = some (.methodLink "java/lang/StringLatin1" 95 ⟨"java/lang/StringLatin1", "indexOfChar", "([BIII)I"⟩) := by decide +kernel
theorem at_295 : lw_tbl[379]? = some (.static ⟨"java/lang/StringLatin1", "indexOfChar", "([BIII)I"⟩) := by decide +kernel
theorem at_296 : lw_tbl[380]? = some (.code ⟨"java/lang/StringLatin1", "indexOfChar", "([BIII)I"⟩ prog_18_method_23_code 6 (some .int)) := by decide +kernel
theorem at_1073 : lw_tbl[1157]? = some (.fieldLink "java/lang/String" 9 "java/lang/String" "value" "[B") := by decide +kernel
theorem at_1074 : lw_tbl[1158]? = some (.fieldLink "java/lang/String" 15 "java/lang/String" "coder" "B") := by decide +kernel
abbrev b_JS_coder : ByteArray := prog_17_method_152_code
def y_JS_coder : MethodName := ⟨"java/lang/String", "coder", "()B"⟩
abbrev w_JS_coder : List Cond := .code y_JS_coder b_JS_coder 1 (some .byte) :: lw_gt
theorem d_JS_coder_0 : decode b_JS_coder 0 = .ok (.getstatic 38, 3) := by decide +kernel
theorem d_JS_coder_3 : decode b_JS_coder 3 = .ok (.ifCond .eq 10, 3) := by decide +kernel
theorem d_JS_coder_6 : decode b_JS_coder 6 = .ok (.aload_n 0, 1) := by decide +kernel
theorem d_JS_coder_7 : decode b_JS_coder 7 = .ok (.getfield 15, 3) := by decide +kernel
theorem d_JS_coder_10 : decode b_JS_coder 10 = .ok (.goto 4, 3) := by decide +kernel
theorem d_JS_coder_13 : decode b_JS_coder 13 = .ok (.iconst 1, 1) := by decide +kernel
theorem d_JS_coder_14 : decode b_JS_coder 14 = .ok (.ireturn, 1) := by decide +kernel
abbrev b_JS_isLatin1 : ByteArray := prog_17_method_154_code
def y_JS_isLatin1 : MethodName := ⟨"java/lang/String", "isLatin1", "()Z"⟩
abbrev w_JS_isLatin1 : List Cond := .code y_JS_isLatin1 b_JS_isLatin1 1 (some .boolean) :: lw_gt
theorem d_JS_isLatin1_0 : decode b_JS_isLatin1 0 = .ok (.getstatic 38, 3) := by decide +kernel
theorem d_JS_isLatin1_3 : decode b_JS_isLatin1 3 = .ok (.ifCond .eq 14, 3) := by decide +kernel
theorem d_JS_isLatin1_6 : decode b_JS_isLatin1 6 = .ok (.aload_n 0, 1) := by decide +kernel
theorem d_JS_isLatin1_7 : decode b_JS_isLatin1 7 = .ok (.getfield 15, 3) := by decide +kernel
theorem d_JS_isLatin1_10 : decode b_JS_isLatin1 10 = .ok (.ifCond .ne 7, 3) := by decide +kernel
theorem d_JS_isLatin1_13 : decode b_JS_isLatin1 13 = .ok (.iconst 1, 1) := by decide +kernel
theorem d_JS_isLatin1_14 : decode b_JS_isLatin1 14 = .ok (.goto 4, 3) := by decide +kernel
theorem d_JS_isLatin1_17 : decode b_JS_isLatin1 17 = .ok (.iconst 0, 1) := by decide +kernel
theorem d_JS_isLatin1_18 : decode b_JS_isLatin1 18 = .ok (.ireturn, 1) := by decide +kernel
abbrev b_JS_length : ByteArray := prog_17_method_54_code
def y_JS_length : MethodName := ⟨"java/lang/String", "length", "()I"⟩
abbrev w_JS_length : List Cond := .code y_JS_length b_JS_length 1 (some .int) :: lw_gt
theorem d_JS_length_0 : decode b_JS_length 0 = .ok (.aload_n 0, 1) := by decide +kernel
theorem d_JS_length_1 : decode b_JS_length 1 = .ok (.getfield 9, 3) := by decide +kernel
theorem d_JS_length_4 : decode b_JS_length 4 = .ok (.arraylength, 1) := by decide +kernel
theorem d_JS_length_5 : decode b_JS_length 5 = .ok (.aload_n 0, 1) := by decide +kernel
theorem d_JS_length_6 : decode b_JS_length 6 = .ok (.invokevirtual 335, 3) := by decide +kernel
theorem d_JS_length_9 : decode b_JS_length 9 = .ok (.ishr, 1) := by decide +kernel
theorem d_JS_length_10 : decode b_JS_length 10 = .ok (.ireturn, 1) := by decide +kernel
abbrev b_JL_canEncode : ByteArray := prog_18_method_4_code
def y_JL_canEncode : MethodName := ⟨"java/lang/StringLatin1", "canEncode", "(I)Z"⟩
abbrev w_JL_canEncode : List Cond := .code y_JL_canEncode b_JL_canEncode 1 (some .boolean) :: lw_gt
theorem d_JL_canEncode_0 : decode b_JL_canEncode 0 = .ok (.iload_n 0, 1) := by decide +kernel
theorem d_JL_canEncode_1 : decode b_JL_canEncode 1 = .ok (.ifCond .lt 14, 3) := by decide +kernel
theorem d_JL_canEncode_4 : decode b_JL_canEncode 4 = .ok (.iload_n 0, 1) := by decide +kernel
theorem d_JL_canEncode_5 : decode b_JL_canEncode 5 = .ok (.sipush 255, 3) := by decide +kernel
theorem d_JL_canEncode_8 : decode b_JL_canEncode 8 = .ok (.if_icmp .gt 7, 3) := by decide +kernel
theorem d_JL_canEncode_11 : decode b_JL_canEncode 11 = .ok (.iconst 1, 1) := by decide +kernel
theorem d_JL_canEncode_12 : decode b_JL_canEncode 12 = .ok (.goto 4, 3) := by decide +kernel
theorem d_JL_canEncode_15 : decode b_JL_canEncode 15 = .ok (.iconst 0, 1) := by decide +kernel
theorem d_JL_canEncode_16 : decode b_JL_canEncode 16 = .ok (.ireturn, 1) := by decide +kernel
abbrev b_JL_charAt : ByteArray := prog_18_method_2_code
def y_JL_charAt : MethodName := ⟨"java/lang/StringLatin1", "charAt", "([BI)C"⟩
abbrev w_JL_charAt : List Cond := .code y_JL_charAt b_JL_charAt 2 (some .char) :: lw_gt
theorem d_JL_charAt_0 : decode b_JL_charAt 0 = .ok (.iload_n 1, 1) := by decide +kernel
theorem d_JL_charAt_1 : decode b_JL_charAt 1 = .ok (.aload_n 0, 1) := by decide +kernel
theorem d_JL_charAt_2 : decode b_JL_charAt 2 = .ok (.arraylength, 1) := by decide +kernel
theorem d_JL_charAt_3 : decode b_JL_charAt 3 = .ok (.invokestatic 9, 3) := by decide +kernel
theorem d_JL_charAt_6 : decode b_JL_charAt 6 = .ok (.aload_n 0, 1) := by decide +kernel
theorem d_JL_charAt_7 : decode b_JL_charAt 7 = .ok (.iload_n 1, 1) := by decide +kernel
theorem d_JL_charAt_8 : decode b_JL_charAt 8 = .ok (.baload, 1) := by decide +kernel
theorem d_JL_charAt_9 : decode b_JL_charAt 9 = .ok (.sipush 255, 3) := by decide +kernel
theorem d_JL_charAt_12 : decode b_JL_charAt 12 = .ok (.iand, 1) := by decide +kernel
theorem d_JL_charAt_13 : decode b_JL_charAt 13 = .ok (.i2c, 1) := by decide +kernel
theorem d_JL_charAt_14 : decode b_JL_charAt 14 = .ok (.ireturn, 1) := by decide +kernel
abbrev b_JL_indexOfChar : ByteArray := prog_18_method_23_code
def y_JL_indexOfChar : MethodName := ⟨"java/lang/StringLatin1", "indexOfChar", "([BIII)I"⟩
abbrev w_JL_indexOfChar : List Cond := .code y_JL_indexOfChar b_JL_indexOfChar 6 (some .int) :: lw_gt
theorem d_JL_indexOfChar_0 : decode b_JL_indexOfChar 0 = .ok (.iload_n 1, 1) := by decide +kernel
theorem d_JL_indexOfChar_1 : decode b_JL_indexOfChar 1 = .ok (.i2b, 1) := by decide +kernel
theorem d_JL_indexOfChar_2 : decode b_JL_indexOfChar 2 = .ok (.istore 4, 2) := by decide +kernel
theorem d_JL_indexOfChar_4 : decode b_JL_indexOfChar 4 = .ok (.iload_n 2, 1) := by decide +kernel
theorem d_JL_indexOfChar_5 : decode b_JL_indexOfChar 5 = .ok (.istore 5, 2) := by decide +kernel
theorem d_JL_indexOfChar_7 : decode b_JL_indexOfChar 7 = .ok (.iload 5, 2) := by decide +kernel
theorem d_JL_indexOfChar_9 : decode b_JL_indexOfChar 9 = .ok (.iload_n 3, 1) := by decide +kernel
theorem d_JL_indexOfChar_10 : decode b_JL_indexOfChar 10 = .ok (.if_icmp .ge 21, 3) := by decide +kernel
theorem d_JL_indexOfChar_13 : decode b_JL_indexOfChar 13 = .ok (.aload_n 0, 1) := by decide +kernel
theorem d_JL_indexOfChar_14 : decode b_JL_indexOfChar 14 = .ok (.iload 5, 2) := by decide +kernel
theorem d_JL_indexOfChar_16 : decode b_JL_indexOfChar 16 = .ok (.baload, 1) := by decide +kernel
theorem d_JL_indexOfChar_17 : decode b_JL_indexOfChar 17 = .ok (.iload 4, 2) := by decide +kernel
theorem d_JL_indexOfChar_19 : decode b_JL_indexOfChar 19 = .ok (.if_icmp .ne 6, 3) := by decide +kernel
theorem d_JL_indexOfChar_22 : decode b_JL_indexOfChar 22 = .ok (.iload 5, 2) := by decide +kernel
theorem d_JL_indexOfChar_24 : decode b_JL_indexOfChar 24 = .ok (.ireturn, 1) := by decide +kernel
theorem d_JL_indexOfChar_25 : decode b_JL_indexOfChar 25 = .ok (.iinc 5 1, 3) := by decide +kernel
theorem d_JL_indexOfChar_28 : decode b_JL_indexOfChar 28 = .ok (.goto (-21), 3) := by decide +kernel
theorem d_JL_indexOfChar_31 : decode b_JL_indexOfChar 31 = .ok (.iconst (-1), 1) := by decide +kernel
theorem d_JL_indexOfChar_32 : decode b_JL_indexOfChar 32 = .ok (.ireturn, 1) := by decide +kernel
abbrev b_JL_indexOf_aBIII : ByteArray := prog_18_method_22_code
def y_JL_indexOf_aBIII : MethodName := ⟨"java/lang/StringLatin1", "indexOf", "([BIII)I"⟩
abbrev w_JL_indexOf_aBIII : List Cond := .code y_JL_indexOf_aBIII b_JL_indexOf_aBIII 4 (some .int) :: lw_gt
theorem d_JL_indexOf_aBIII_0 : decode b_JL_indexOf_aBIII 0 = .ok (.iload_n 1, 1) := by decide +kernel
theorem d_JL_indexOf_aBIII_1 : decode b_JL_indexOf_aBIII 1 = .ok (.invokestatic 88, 3) := by decide +kernel
theorem d_JL_indexOf_aBIII_4 : decode b_JL_indexOf_aBIII 4 = .ok (.ifCond .ne 5, 3) := by decide +kernel
theorem d_JL_indexOf_aBIII_7 : decode b_JL_indexOf_aBIII 7 = .ok (.iconst (-1), 1) := by decide +kernel
theorem d_JL_indexOf_aBIII_8 : decode b_JL_indexOf_aBIII 8 = .ok (.ireturn, 1) := by decide +kernel
theorem d_JL_indexOf_aBIII_9 : decode b_JL_indexOf_aBIII 9 = .ok (.iload_n 2, 1) := by decide +kernel
theorem d_JL_indexOf_aBIII_10 : decode b_JL_indexOf_aBIII 10 = .ok (.iconst 0, 1) := by decide +kernel
theorem d_JL_indexOf_aBIII_11 : decode b_JL_indexOf_aBIII 11 = .ok (.invokestatic 92, 3) := by decide +kernel
theorem d_JL_indexOf_aBIII_14 : decode b_JL_indexOf_aBIII 14 = .ok (.istore_n 2, 1) := by decide +kernel
theorem d_JL_indexOf_aBIII_15 : decode b_JL_indexOf_aBIII 15 = .ok (.iload_n 3, 1) := by decide +kernel
theorem d_JL_indexOf_aBIII_16 : decode b_JL_indexOf_aBIII 16 = .ok (.aload_n 0, 1) := by decide +kernel
theorem d_JL_indexOf_aBIII_17 : decode b_JL_indexOf_aBIII 17 = .ok (.arraylength, 1) := by decide +kernel
theorem d_JL_indexOf_aBIII_18 : decode b_JL_indexOf_aBIII 18 = .ok (.invokestatic 38, 3) := by decide +kernel
theorem d_JL_indexOf_aBIII_21 : decode b_JL_indexOf_aBIII 21 = .ok (.istore_n 3, 1) := by decide +kernel
theorem d_JL_indexOf_aBIII_22 : decode b_JL_indexOf_aBIII 22 = .ok (.iload_n 2, 1) := by decide +kernel
theorem d_JL_indexOf_aBIII_23 : decode b_JL_indexOf_aBIII 23 = .ok (.iload_n 3, 1) := by decide +kernel
theorem d_JL_indexOf_aBIII_24 : decode b_JL_indexOf_aBIII 24 = .ok (.if_icmp .lt 5, 3) := by decide +kernel
theorem d_JL_indexOf_aBIII_27 : decode b_JL_indexOf_aBIII 27 = .ok (.iconst (-1), 1) := by decide +kernel
theorem d_JL_indexOf_aBIII_28 : decode b_JL_indexOf_aBIII 28 = .ok (.ireturn, 1) := by decide +kernel
theorem d_JL_indexOf_aBIII_29 : decode b_JL_indexOf_aBIII 29 = .ok (.aload_n 0, 1) := by decide +kernel
theorem d_JL_indexOf_aBIII_30 : decode b_JL_indexOf_aBIII 30 = .ok (.iload_n 1, 1) := by decide +kernel
theorem d_JL_indexOf_aBIII_31 : decode b_JL_indexOf_aBIII 31 = .ok (.iload_n 2, 1) := by decide +kernel
theorem d_JL_indexOf_aBIII_32 : decode b_JL_indexOf_aBIII 32 = .ok (.iload_n 3, 1) := by decide +kernel
theorem d_JL_indexOf_aBIII_33 : decode b_JL_indexOf_aBIII 33 = .ok (.invokestatic 95, 3) := by decide +kernel
theorem d_JL_indexOf_aBIII_36 : decode b_JL_indexOf_aBIII 36 = .ok (.ireturn, 1) := by decide +kernel
def vc_JS_coder   (si : Nat) (K_ : Int32 → Prop) : Prop :=
  (K_ 0)
set_option maxHeartbeats 4000000 in
set_option maxRecDepth 100000 in
theorem met_JS_coder {l : Launch} {dd : va_G} {cB cI cL cS : ClassId} {adK adV : Nat → Nat}    {si : Nat} {K_ : Int32 → Prop}  (hs_si : si < 41) (hv : vc_JS_coder   si K_) : CtR l y_JS_coder w_JS_coder (rmk 0 0 0) dd cls5 [(cB, .byte), (cI, .int), (cL, .long), (cS, .object "java/lang/String")] (XF adK adV) [] [.ref (adK si)] (qR K_) := by
  refine m_ofR (cc := b_JS_coder) (nL := 1) (ret := (some .byte)) (by decide) rfl (Nat.le_of_ble_eq_true rfl) ?_
  intro p e s m below meth c ls ar Fx_ hP hK hX hl
  obtain ⟨hx, hb, hml, hr, hlocks, hown, hts, hinn⟩ := Fx_
  have hl : lv_has ls 1 [(0, .ref (adK si))] := hl
  unfold vc_JS_coder at hv
  refine va_gets (v := .int 1) hx hb (xf_cs hX) va_S.rf hown (hts (.fieldLink "java/lang/String" 38 "java/lang/String" "COMPACT_STRINGS" "Z") (tg at_206)) (fun _ h9 => h9) d_JS_coder_0 ?_
  refine lv_if_eq (tgt := 13) hx hb d_JS_coder_3 (by decide) (fun h_ => absurd h_ (by decide)) (fun _ => ?_)
  refine lv_aload_n hx hb d_JS_coder_6 rfl (lv_at hl 0 rfl) ?_
  refine vk_getf (v := .int 0) hx hb (xf_s hX hs_si).2.1 va_S.rf hown (hts (.fieldLink "java/lang/String" 15 "java/lang/String" "coder" "B") (tg at_1074)) (fun _ h9 => h9) d_JS_coder_7 ?_
  refine lv_goto (tgt := 14) hx hb d_JS_coder_10 (by decide) ?_
  exact rr_n hx hb hr rfl hlocks hv d_JS_coder_14
def vc_JS_isLatin1   (si : Nat) (K_ : Int32 → Prop) : Prop :=
  (K_ 1)
set_option maxHeartbeats 4000000 in
set_option maxRecDepth 100000 in
theorem met_JS_isLatin1 {l : Launch} {dd : va_G} {cB cI cL cS : ClassId} {adK adV : Nat → Nat}    {si : Nat} {K_ : Int32 → Prop}  (hs_si : si < 41) (hv : vc_JS_isLatin1   si K_) : CtR l y_JS_isLatin1 w_JS_isLatin1 (rmk 0 0 0) dd cls5 [(cB, .byte), (cI, .int), (cL, .long), (cS, .object "java/lang/String")] (XF adK adV) [] [.ref (adK si)] (qR K_) := by
  refine m_ofR (cc := b_JS_isLatin1) (nL := 1) (ret := (some .boolean)) (by decide) rfl (Nat.le_of_ble_eq_true rfl) ?_
  intro p e s m below meth c ls ar Fx_ hP hK hX hl
  obtain ⟨hx, hb, hml, hr, hlocks, hown, hts, hinn⟩ := Fx_
  have hl : lv_has ls 1 [(0, .ref (adK si))] := hl
  unfold vc_JS_isLatin1 at hv
  refine va_gets (v := .int 1) hx hb (xf_cs hX) va_S.rf hown (hts (.fieldLink "java/lang/String" 38 "java/lang/String" "COMPACT_STRINGS" "Z") (tg at_206)) (fun _ h9 => h9) d_JS_isLatin1_0 ?_
  refine lv_if_eq (tgt := 17) hx hb d_JS_isLatin1_3 (by decide) (fun h_ => absurd h_ (by decide)) (fun _ => ?_)
  refine lv_aload_n hx hb d_JS_isLatin1_6 rfl (lv_at hl 0 rfl) ?_
  refine vk_getf (v := .int 0) hx hb (xf_s hX hs_si).2.1 va_S.rf hown (hts (.fieldLink "java/lang/String" 15 "java/lang/String" "coder" "B") (tg at_1074)) (fun _ h9 => h9) d_JS_isLatin1_7 ?_
  refine lv_if_ne (tgt := 17) hx hb d_JS_isLatin1_10 (by decide) (fun h_ => absurd h_ (by decide)) (fun _ => ?_)
  refine lv_iconst (v := 1) hx hb d_JS_isLatin1_13 (by decide) ?_
  refine lv_goto (tgt := 18) hx hb d_JS_isLatin1_14 (by decide) ?_
  exact rr_z hx hb hr narrow_b1 hlocks 1 hv d_JS_isLatin1_18
def vc_JS_length   (si : Nat) (K_ : Int32 → Prop) : Prop :=
  (K_ ((nI (lenS.getD si 0)) >>> (0 &&& 31)))
set_option maxHeartbeats 4000000 in
set_option maxRecDepth 100000 in
theorem met_JS_length {l : Launch} {dd : va_G} {cB cI cL cS : ClassId} {adK adV : Nat → Nat}    {si : Nat} {K_ : Int32 → Prop}  (hs_si : si < 41) (hv : vc_JS_length   si K_) : CtR l y_JS_length w_JS_length (rmk 2 0 0) dd cls5 [(cB, .byte), (cI, .int), (cL, .long), (cS, .object "java/lang/String")] (XF adK adV) [] [.ref (adK si)] (qR K_) := by
  refine m_ofR (cc := b_JS_length) (nL := 1) (ret := (some .int)) (by decide) rfl (Nat.le_of_ble_eq_true rfl) ?_
  intro p e s m below meth c ls ar Fx_ hP hK hX hl
  obtain ⟨hx, hb, hml, hr, hlocks, hown, hts, hinn⟩ := Fx_
  have hl : lv_has ls 1 [(0, .ref (adK si))] := hl
  unfold vc_JS_length at hv
  refine lv_aload_n hx hb d_JS_length_0 rfl (lv_at hl 0 rfl) ?_
  refine vk_getf (v := .ref (adV si)) hx hb (xf_s hX hs_si).2.2.1 va_S.rf hown (hts (.fieldLink "java/lang/String" 9 "java/lang/String" "value" "[B") (tg at_1073)) (fun _ h9 => h9) d_JS_length_1 ?_
  refine va_tlen (v := (nI (lenS.getD si 0))) hx hb (xf_s hX hs_si).2.2.2 va_S.rf rfl d_JS_length_4 ?_
  refine lv_aload_n hx hb d_JS_length_5 rfl (lv_at hl 0 rfl) ?_
  refine krO_i (st := [.ref (adK si), .int (nI (lenS.getD si 0))]) (rest := [.int (nI (lenS.getD si 0))]) ⟨hx, hb, hml, hown, hts⟩ (met_JS_coder (l := l) (dd := dd) (cB := cB) (cI := cI) (cL := cL) (cS := cS) (adK := adK) (adV := adV)  hs_si (K_ := fun r => r = 0) rfl) (cwV 0 hts (gv (tg0 at_202) (tg0 at_203) (tg0 at_204) (tg0 at_14) (tg0 at_205)) rfl rfl rfl (by decide +kernel) (rk (by omega) (by decide))) xfb (xfr hX va_S.rf) hP hK [] rfl (xf_o hX va_S.rf hs_si) rfl hl.1 rfl (Nat.le_of_ble_eq_true rfl) d_JS_length_6 ⟨Nat.zero_le _, Nat.zero_le _⟩ (fun r_1 hq => ?_)
  replace hq : r_1 = 0 := hq
  subst hq
  refine lv_ishr hx hb d_JS_length_9 ?_
  exact rr_i hx hb hr hlocks ((nI (lenS.getD si 0)) >>> (0 &&& 31)) hv d_JS_length_10
def vc_JL_canEncode   (x1 : Int32) (K_ : Int32 → Prop) : Prop :=
  ((x1 < 0 → (K_ 0)) ∧ (¬ x1 < 0 → ((255 < x1 → (K_ 0)) ∧ (¬ 255 < x1 → (K_ 1)))))
set_option maxHeartbeats 4000000 in
set_option maxRecDepth 100000 in
theorem met_JL_canEncode {l : Launch} {dd : va_G} {cB cI cL cS : ClassId}     {x1 : Int32} {K_ : Int32 → Prop}  (hv : vc_JL_canEncode   x1 K_) : CtR l y_JL_canEncode w_JL_canEncode (rmk 0 0 0) dd cls5 [(cB, .byte), (cI, .int), (cL, .long), (cS, .object "java/lang/String")] X0 [] [.int x1] (qR K_) := by
  refine m_ofR (cc := b_JL_canEncode) (nL := 1) (ret := (some .boolean)) (by decide) rfl (Nat.le_of_ble_eq_true rfl) ?_
  intro p e s m below meth c ls ar Fx_ hP hK hX hl
  obtain ⟨hx, hb, hml, hr, hlocks, hown, hts, hinn⟩ := Fx_
  have hl : lv_has ls 1 [(0, .int x1)] := hl
  unfold vc_JL_canEncode at hv
  refine lv_iload_n hx hb d_JL_canEncode_0 rfl (lv_at hl 0 rfl) ?_
  refine lv_if_lt (tgt := 15) hx hb d_JL_canEncode_1 (by decide) (fun b_1 => ?_) (fun b_1 => ?_)
  · have hv := hv.1 b_1
    refine lv_iconst (v := 0) hx hb d_JL_canEncode_15 (by decide) ?_
    exact rr_z hx hb hr narrow_b0 hlocks 0 hv d_JL_canEncode_16
  · have hv := hv.2 b_1
    refine lv_iload_n hx hb d_JL_canEncode_4 rfl (lv_at hl 0 rfl) ?_
    refine lv_sipush (v := 255) hx hb d_JL_canEncode_5 (by decide) ?_
    refine lv_icmp_gt (tgt := 15) hx hb d_JL_canEncode_8 (by decide) (fun b_2 => ?_) (fun b_2 => ?_)
    · have hv := hv.1 b_2
      refine lv_iconst (v := 0) hx hb d_JL_canEncode_15 (by decide) ?_
      exact rr_z hx hb hr narrow_b0 hlocks 0 hv d_JL_canEncode_16
    · have hv := hv.2 b_2
      refine lv_iconst (v := 1) hx hb d_JL_canEncode_11 (by decide) ?_
      refine lv_goto (tgt := 16) hx hb d_JL_canEncode_12 (by decide) ?_
      exact rr_z hx hb hr narrow_b1 hlocks 1 hv d_JL_canEncode_16
def vc_JL_charAt   (si : Nat) (x1 : Int32) (K_ : Int32 → Prop) : Prop :=
  ((¬ x1 < 0 ∧ x1 < (nI (lenS.getD si 0))) ∧ (vp_in x1 (lenS.getD si 0) ∧ (K_ (((((bytS.getD si []).getD x1.toNatClampNeg 0) &&& 255).toUInt32 % 65536).toInt32))))
set_option maxHeartbeats 4000000 in
set_option maxRecDepth 100000 in
theorem met_JL_charAt {l : Launch} {dd : va_G} {cB cI cL cS : ClassId} {adK adV : Nat → Nat}    {si : Nat} {x1 : Int32} {K_ : Int32 → Prop}  (hs_si : si < 41) (hv : vc_JL_charAt   si x1 K_) : CtR l y_JL_charAt w_JL_charAt (rmk 3 0 0) dd cls5 [(cB, .byte), (cI, .int), (cL, .long), (cS, .object "java/lang/String")] (XF adK adV) [] [.ref (adV si), .int x1] (qR K_) := by
  refine m_ofR (cc := b_JL_charAt) (nL := 2) (ret := (some .char)) (by decide) rfl (Nat.le_of_ble_eq_true rfl) ?_
  intro p e s m below meth c ls ar Fx_ hP hK hX hl
  obtain ⟨hx, hb, hml, hr, hlocks, hown, hts, hinn⟩ := Fx_
  have hl : lv_has ls 2 [(0, .ref (adV si)), (1, .int x1)] := hl
  unfold vc_JL_charAt at hv
  refine lv_iload_n hx hb d_JL_charAt_0 rfl (lv_at hl 1 rfl) ?_
  refine lv_aload_n hx hb d_JL_charAt_1 rfl (lv_at hl 0 rfl) ?_
  refine va_tlen (v := (nI (lenS.getD si 0))) hx hb (xf_s hX hs_si).2.2.2 va_S.rf rfl d_JL_charAt_2 ?_
  obtain ⟨h_1, hv⟩ := hv
  refine krs_v (st := [.int (nI (lenS.getD si 0)), .int x1]) (rest := []) ⟨hx, hb, hml, hown, hts⟩ (sl_chk (l := l) (dd := dd) (cB := cB) (cI := cI) (cL := cL) (cS := cS) (adK := adK) (adV := adV)  h_1) (cwSo 2 hts (gcd (tg0 at_221)) rfl rfl rfl (hts (.initialized "java/lang/String") (tg at_14)) (hts (.methodLink "java/lang/StringLatin1" 9 ⟨"java/lang/String", "checkIndex", "(II)V"⟩) (tg at_219)) (hts (.static ⟨"java/lang/String", "checkIndex", "(II)V"⟩) (tg at_220)) (by decide +kernel) (rk (by omega) (by decide))) xfb (xfr hX va_S.rf) hP hK [] rfl rfl hl.1 rfl (Nat.le_of_ble_eq_true rfl) d_JL_charAt_3 ⟨Nat.zero_le _, Nat.zero_le _⟩ (fun _ => ?_)
  refine lv_aload_n hx hb d_JL_charAt_6 rfl (lv_at hl 0 rfl) ?_
  refine lv_iload_n hx hb d_JL_charAt_7 rfl (lv_at hl 1 rfl) ?_
  obtain ⟨h_2, hv⟩ := hv
  refine va_tb (v := .int ((bytS.getD si []).getD x1.toNatClampNeg 0)) hx hb (xf_s hX hs_si).2.2.2 va_S.rf h_2 rfl d_JL_charAt_8 ?_
  refine lv_sipush (v := 255) hx hb d_JL_charAt_9 (by decide) ?_
  refine lv_iand hx hb d_JL_charAt_12 ?_
  refine lv_i2c (v := (((((bytS.getD si []).getD x1.toNatClampNeg 0) &&& 255).toUInt32 % 65536).toInt32)) hx hb d_JL_charAt_13 rfl ?_
  exact rr_n hx hb hr (nar_c _) hlocks hv d_JL_charAt_14
def vl_JL_indexOfChar_7   (si : Nat) (x1 : Int32) (x2 : Int32) (x3 : Int32)  (K_ : Int32 → Prop) : Nat → Int32 → Prop
  | 0 => fun _ => False
  | n_ + 1 => fun x5_h7 =>
  ((x3 ≤ x5_h7 → (K_ (-1))) ∧ (¬ x3 ≤ x5_h7 → (vp_in x5_h7 (lenS.getD si 0) ∧ ((¬ ((bytS.getD si []).getD x5_h7.toNatClampNeg 0) = (x1.toInt8.toInt32) → (vl_JL_indexOfChar_7 si x1 x2 x3  K_ n_ (x5_h7 + 1))) ∧ (((bytS.getD si []).getD x5_h7.toNatClampNeg 0) = (x1.toInt8.toInt32) → (K_ x5_h7))))))
def vc_JL_indexOfChar   (si : Nat) (x1 : Int32) (x2 : Int32) (x3 : Int32) (K_ : Int32 → Prop) : Prop :=
  (∃ n_, vl_JL_indexOfChar_7 si x1 x2 x3 K_ n_ x2)
set_option maxHeartbeats 4000000 in
set_option maxRecDepth 100000 in
theorem met_JL_indexOfChar {l : Launch} {dd : va_G} {cB cI cL cS : ClassId} {adK adV : Nat → Nat}    {si : Nat} {x1 : Int32} {x2 : Int32} {x3 : Int32} {K_ : Int32 → Prop}  (hs_si : si < 41) (hv : vc_JL_indexOfChar   si x1 x2 x3 K_) : CtR l y_JL_indexOfChar w_JL_indexOfChar (rmk 0 0 0) dd cls5 [(cB, .byte), (cI, .int), (cL, .long), (cS, .object "java/lang/String")] (XF adK adV) [] [.ref (adV si), .int x1, .int x2, .int x3] (qR K_) := by
  refine m_ofR (cc := b_JL_indexOfChar) (nL := 6) (ret := (some .int)) (by decide) rfl (Nat.le_of_ble_eq_true rfl) ?_
  intro p e s m below meth c ls ar Fx_ hP hK hX hl
  obtain ⟨hx, hb, hml, hr, hlocks, hown, hts, hinn⟩ := Fx_
  have hl : lv_has ls 6 [(0, .ref (adV si)), (1, .int x1), (2, .int x2), (3, .int x3)] := hl
  unfold vc_JL_indexOfChar at hv
  refine lv_iload_n hx hb d_JL_indexOfChar_0 rfl (lv_at hl 1 rfl) ?_
  refine lv_i2b (v := (x1.toInt8.toInt32)) hx hb d_JL_indexOfChar_1 rfl ?_
  refine lv_istore (lv' := [(4, .int (x1.toInt8.toInt32)), (0, .ref (adV si)), (1, .int x1), (2, .int x2), (3, .int x3)]) hx hb d_JL_indexOfChar_2 hl (by decide) rfl (fun ls hl => ?_)
  refine lv_iload_n hx hb d_JL_indexOfChar_4 rfl (lv_at hl 3 rfl) ?_
  refine lv_istore (lv' := [(5, .int x2), (4, .int (x1.toInt8.toInt32)), (0, .ref (adV si)), (1, .int x1), (2, .int x2), (3, .int x3)]) hx hb d_JL_indexOfChar_5 hl (by decide) rfl (fun ls hl => ?_)
  obtain ⟨n_7, hv⟩ := hv
  have LP_7 : ∀ (n_ : Nat) (x5_h7 : Int32) (ls : Array Slot), vl_JL_indexOfChar_7 si x1 x2 x3 K_ n_ x5_h7 → lv_has ls 6 [(5, .int x5_h7), (4, .int (x1.toInt8.toInt32)), (0, .ref (adV si)), (1, .int x1), (2, .int x2), (3, .int x3)] → W p l e (rmk 0 0 0) s m ar below meth c s.heap [] 0 0 (MQ below (qR K_) ar s 0 0 (fun _ => False)) (F0 m 7 ls []) := by
    intro n_
    induction n_ with
    | zero => intro x5_h7 ls hv; exact False.elim hv
    | succ n_ ih =>
      intro x5_h7 ls hv hl
      unfold vl_JL_indexOfChar_7 at hv
      refine lv_iload hx hb d_JL_indexOfChar_7 (lv_at hl 0 rfl) ?_
      refine lv_iload_n hx hb d_JL_indexOfChar_9 rfl (lv_at hl 5 rfl) ?_
      refine lv_icmp_ge (tgt := 31) hx hb d_JL_indexOfChar_10 (by decide) (fun b_1 => ?_) (fun b_1 => ?_)
      · have hv := hv.1 b_1
        refine lv_iconst (v := (-1)) hx hb d_JL_indexOfChar_31 (by decide) ?_
        exact rr_i hx hb hr hlocks (-1) hv d_JL_indexOfChar_32
      · have hv := hv.2 b_1
        refine lv_aload_n hx hb d_JL_indexOfChar_13 rfl (lv_at hl 2 rfl) ?_
        refine lv_iload hx hb d_JL_indexOfChar_14 (lv_at hl 0 rfl) ?_
        obtain ⟨h_2, hv⟩ := hv
        refine va_tb (v := .int ((bytS.getD si []).getD x5_h7.toNatClampNeg 0)) hx hb (xf_s hX hs_si).2.2.2 va_S.rf h_2 rfl d_JL_indexOfChar_16 ?_
        refine lv_iload hx hb d_JL_indexOfChar_17 (lv_at hl 1 rfl) ?_
        refine lv_icmp_ne (tgt := 25) hx hb d_JL_indexOfChar_19 (by decide) (fun b_3 => ?_) (fun b_3 => ?_)
        · have hv := hv.1 b_3
          refine lv_iinc (v := (x5_h7 + 1)) (lv' := [(5, .int (x5_h7 + 1)), (4, .int (x1.toInt8.toInt32)), (0, .ref (adV si)), (1, .int x1), (2, .int x2), (3, .int x3)]) hx hb d_JL_indexOfChar_25 hl (k := 0) rfl rfl (by decide) rfl (fun ls hl => ?_)
          refine lv_goto (tgt := 7) hx hb d_JL_indexOfChar_28 (by decide) ?_
          exact ih (x5_h7 + 1) _ hv (lv_sub hl [0, 1, 2, 3, 4, 5] rfl)
        · have hv := hv.2 b_3
          refine lv_iload hx hb d_JL_indexOfChar_22 (lv_at hl 0 rfl) ?_
          exact rr_i hx hb hr hlocks x5_h7 hv d_JL_indexOfChar_24
  exact LP_7 n_7 x2 _ hv hl
def vc_JL_indexOf   (si : Nat) (x1 : Int32) (x2 : Int32) (x3 : Int32) (K_ : Int32 → Prop) : Prop :=
  (vc_JL_canEncode x1 (fun r_1 => ((¬ r_1 = 0 → (((if x2 < 0 then 0 else x2) < (if (nI (lenS.getD si 0)) < x3 then (nI (lenS.getD si 0)) else x3) → (vc_JL_indexOfChar si x1 (if x2 < 0 then 0 else x2) (if (nI (lenS.getD si 0)) < x3 then (nI (lenS.getD si 0)) else x3) (fun r_4 => (K_ r_4)))) ∧ (¬ (if x2 < 0 then 0 else x2) < (if (nI (lenS.getD si 0)) < x3 then (nI (lenS.getD si 0)) else x3) → (K_ (-1))))) ∧ (r_1 = 0 → (K_ (-1))))))
set_option maxHeartbeats 4000000 in
set_option maxRecDepth 100000 in
theorem met_JL_indexOf {l : Launch} {dd : va_G} {cB cI cL cS : ClassId} {adK adV : Nat → Nat}    {si : Nat} {x1 : Int32} {x2 : Int32} {x3 : Int32} {K_ : Int32 → Prop}  (hs_si : si < 41) (hv : vc_JL_indexOf   si x1 x2 x3 K_) : CtR l y_JL_indexOf_aBIII w_JL_indexOf_aBIII (rmk 1 0 0) dd cls5 [(cB, .byte), (cI, .int), (cL, .long), (cS, .object "java/lang/String")] (XF adK adV) [] [.ref (adV si), .int x1, .int x2, .int x3] (qR K_) := by
  refine m_ofR (cc := b_JL_indexOf_aBIII) (nL := 4) (ret := (some .int)) (by decide) rfl (Nat.le_of_ble_eq_true rfl) ?_
  intro p e s m below meth c ls ar Fx_ hP hK hX hl
  obtain ⟨hx, hb, hml, hr, hlocks, hown, hts, hinn⟩ := Fx_
  have hl : lv_has ls 4 [(0, .ref (adV si)), (1, .int x1), (2, .int x2), (3, .int x3)] := hl
  unfold vc_JL_indexOf at hv
  refine lv_iload_n hx hb d_JL_indexOf_aBIII_0 rfl (lv_at hl 1 rfl) ?_
  have hM := met_JL_canEncode (l := l) (dd := dd) (cB := cB) (cI := cI) (cL := cL) (cS := cS)   hv
  refine krs_i (st := [.int x1]) (rest := []) ⟨hx, hb, hml, hown, hts⟩ hM (cwS 1 hts (gs (tg0 at_287) (tg0 at_288) (tg0 at_15) (tg0 at_289)) rfl rfl rfl (by decide +kernel) (rk (by omega) (by decide))) x0b (fun _ _ _ => trivial) hP hK [] rfl rfl hl.1 rfl (Nat.le_of_ble_eq_true rfl) d_JL_indexOf_aBIII_1 ⟨Nat.zero_le _, Nat.zero_le _⟩ (fun r_1 hv => ?_)
  refine lv_if_ne (tgt := 9) hx hb d_JL_indexOf_aBIII_4 (by decide) (fun b_2 => ?_) (fun b_2 => ?_)
  · have hv := hv.1 b_2
    refine lv_iload_n hx hb d_JL_indexOf_aBIII_9 rfl (lv_at hl 2 rfl) ?_
    refine lv_iconst (v := 0) hx hb d_JL_indexOf_aBIII_10 (by decide) ?_
    refine va_mmax hx hb (hml.trans hl.1.symm) hown (hts (.methodLink "java/lang/StringLatin1" 92 ⟨"java/lang/Math", "max", "(II)I"⟩) (tg at_290)) (hts (.static ⟨"java/lang/Math", "max", "(II)I"⟩) (tg at_291)) (hts (.initialized "java/lang/Math") (tg at_11)) (hts (.code ⟨"java/lang/Math", "max", "(II)I"⟩ prog_15_method_65_code 2 (some .int)) (tg at_292)) (Nat.le_of_ble_eq_true rfl) (Nat.le_of_ble_eq_true rfl) (Nat.zero_le _) (Nat.zero_le _) d_JL_indexOf_aBIII_11 ?_
    refine lv_istore_n (lv' := [(2, .int (if x2 < 0 then 0 else x2)), (0, .ref (adV si)), (1, .int x1), (3, .int x3)]) hx hb d_JL_indexOf_aBIII_14 rfl hl (by decide) rfl (fun ls hl => ?_)
    refine lv_iload_n hx hb d_JL_indexOf_aBIII_15 rfl (lv_at hl 3 rfl) ?_
    refine lv_aload_n hx hb d_JL_indexOf_aBIII_16 rfl (lv_at hl 1 rfl) ?_
    refine va_tlen (v := (nI (lenS.getD si 0))) hx hb (xf_s hX hs_si).2.2.2 va_S.rf rfl d_JL_indexOf_aBIII_17 ?_
    refine va_mmin hx hb (hml.trans hl.1.symm) hown (hts (.methodLink "java/lang/StringLatin1" 38 ⟨"java/lang/Math", "min", "(II)I"⟩) (tg at_293)) (hts (.static ⟨"java/lang/Math", "min", "(II)I"⟩) (tg at_179)) (hts (.initialized "java/lang/Math") (tg at_11)) (hts (.code ⟨"java/lang/Math", "min", "(II)I"⟩ prog_15_method_69_code 2 (some .int)) (tg at_180)) (Nat.le_of_ble_eq_true rfl) (Nat.le_of_ble_eq_true rfl) (Nat.zero_le _) (Nat.zero_le _) d_JL_indexOf_aBIII_18 ?_
    refine lv_istore_n (lv' := [(3, .int (if (nI (lenS.getD si 0)) < x3 then (nI (lenS.getD si 0)) else x3)), (2, .int (if x2 < 0 then 0 else x2)), (0, .ref (adV si)), (1, .int x1)]) hx hb d_JL_indexOf_aBIII_21 rfl hl (by decide) rfl (fun ls hl => ?_)
    refine lv_iload_n hx hb d_JL_indexOf_aBIII_22 rfl (lv_at hl 1 rfl) ?_
    refine lv_iload_n hx hb d_JL_indexOf_aBIII_23 rfl (lv_at hl 0 rfl) ?_
    refine lv_icmp_lt (tgt := 29) hx hb d_JL_indexOf_aBIII_24 (by decide) (fun b_3 => ?_) (fun b_3 => ?_)
    · have hv := hv.1 b_3
      refine lv_aload_n hx hb d_JL_indexOf_aBIII_29 rfl (lv_at hl 2 rfl) ?_
      refine lv_iload_n hx hb d_JL_indexOf_aBIII_30 rfl (lv_at hl 3 rfl) ?_
      refine lv_iload_n hx hb d_JL_indexOf_aBIII_31 rfl (lv_at hl 1 rfl) ?_
      refine lv_iload_n hx hb d_JL_indexOf_aBIII_32 rfl (lv_at hl 0 rfl) ?_
      have hM := met_JL_indexOfChar (l := l) (dd := dd) (cB := cB) (cI := cI) (cL := cL) (cS := cS) (adK := adK) (adV := adV)   hs_si hv
      refine krs_i (st := [.int (if (nI (lenS.getD si 0)) < x3 then (nI (lenS.getD si 0)) else x3), .int (if x2 < 0 then 0 else x2), .int x1, .ref (adV si)]) (rest := []) ⟨hx, hb, hml, hown, hts⟩ hM (cwS 4 hts (gs (tg0 at_294) (tg0 at_295) (tg0 at_15) (tg0 at_296)) rfl rfl rfl (by decide +kernel) (rk (by omega) (by decide))) xfb (xfr hX va_S.rf) hP hK [] rfl rfl hl.1 rfl (Nat.le_of_ble_eq_true rfl) d_JL_indexOf_aBIII_33 ⟨Nat.zero_le _, Nat.zero_le _⟩ (fun r_4 hv => ?_)
      exact rr_i hx hb hr hlocks r_4 hv d_JL_indexOf_aBIII_36
    · have hv := hv.2 b_3
      refine lv_iconst (v := (-1)) hx hb d_JL_indexOf_aBIII_27 (by decide) ?_
      exact rr_i hx hb hr hlocks (-1) hv d_JL_indexOf_aBIII_28
  · have hv := hv.2 b_2
    refine lv_iconst (v := (-1)) hx hb d_JL_indexOf_aBIII_7 (by decide) ?_
    exact rr_i hx hb hr hlocks (-1) hv d_JL_indexOf_aBIII_8
