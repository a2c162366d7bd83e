theorem ap_3 : lw_tbl[3]? = some (.selects "NetText$Words" ⟨"NetText$Words", "afterName", "(I)I"⟩ ⟨"NetText$Words", "afterName", "(I)I"⟩) := by decide +kernel
theorem ap_4 : lw_tbl[4]? = some (.selects "NetText$Words" ⟨"NetText$Words", "afterNumber", "(I)I"⟩ ⟨"NetText$Words", "afterNumber", "(I)I"⟩) := by decide +kernel
theorem ap_5 : lw_tbl[5]? = some (.selects "NetText$Words" ⟨"NetText$Words", "afterDigits", "(I)I"⟩ ⟨"NetText$Words", "afterDigits", "(I)I"⟩) := by decide +kernel
theorem ap_14 : lw_tbl[14]? = some (.selects "NetText$Words" ⟨"NetText$Words", "holds", "(I)Z"⟩ ⟨"NetText$Words", "holds", "(I)Z"⟩) := by decide +kernel
theorem ap_16 : lw_tbl[16]? = some (.selects "NetText$Parser" ⟨"NetText$Parser", "take", "(I)V"⟩ ⟨"NetText$Parser", "take", "(I)V"⟩) := by decide +kernel
theorem ap_17 : lw_tbl[17]? = some (.selects "NetText$Parser" ⟨"NetText$Parser", "step", "()V"⟩ ⟨"NetText$Parser", "step", "()V"⟩) := by decide +kernel
theorem ap_18 : lw_tbl[18]? = some (.selects "NetText$Parser" ⟨"NetText$Parser", "refuse", "()V"⟩ ⟨"NetText$Parser", "refuse", "()V"⟩) := by decide +kernel
theorem ap_19 : lw_tbl[19]? = some (.selects "NetText$Parser" ⟨"NetText$Parser", "whole", "(II)V"⟩ ⟨"NetText$Parser", "whole", "(II)V"⟩) := by decide +kernel
theorem ap_20 : lw_tbl[20]? = some (.selects "NetText$Parser" ⟨"NetText$Parser", "sum", "(IIZ)V"⟩ ⟨"NetText$Parser", "sum", "(IIZ)V"⟩) := by decide +kernel
theorem ap_21 : lw_tbl[21]? = some (.selects "NetText$Parser" ⟨"NetText$Parser", "product", "(IIZ)V"⟩ ⟨"NetText$Parser", "product", "(IIZ)V"⟩) := by decide +kernel
theorem ap_22 : lw_tbl[22]? = some (.selects "NetText$Parser" ⟨"NetText$Parser", "piece", "(IIZ)V"⟩ ⟨"NetText$Parser", "piece", "(IIZ)V"⟩) := by decide +kernel
theorem ap_23 : lw_tbl[23]? = some (.selects "NetText$Parser" ⟨"NetText$Parser", "number", "(II)V"⟩ ⟨"NetText$Parser", "number", "(II)V"⟩) := by decide +kernel
theorem ap_24 : lw_tbl[24]? = some (.selects "NetText$Parser" ⟨"NetText$Parser", "nameAndMore", "(IIZ)V"⟩ ⟨"NetText$Parser", "nameAndMore", "(IIZ)V"⟩) := by decide +kernel
theorem ap_25 : lw_tbl[25]? = some (.selects "NetText$Parser" ⟨"NetText$Parser", "name", "(II)V"⟩ ⟨"NetText$Parser", "name", "(II)V"⟩) := by decide +kernel
theorem ap_26 : lw_tbl[26]? = some (.selects "NetText$Parser" ⟨"NetText$Parser", "call", "(I)V"⟩ ⟨"NetText$Parser", "call", "(I)V"⟩) := by decide +kernel
theorem ap_27 : lw_tbl[27]? = some (.selects "NetText$Parser" ⟨"NetText$Parser", "open", "(I)V"⟩ ⟨"NetText$Parser", "open", "(I)V"⟩) := by decide +kernel
theorem ap_28 : lw_tbl[28]? = some (.selects "NetText$Parser" ⟨"NetText$Parser", "arguments", "(I)V"⟩ ⟨"NetText$Parser", "arguments", "(I)V"⟩) := by decide +kernel
theorem ap_29 : lw_tbl[29]? = some (.selects "NetText$Parser" ⟨"NetText$Parser", "shape", "(I)V"⟩ ⟨"NetText$Parser", "shape", "(I)V"⟩) := by decide +kernel
theorem ap_30 : lw_tbl[30]? = some (.selects "NetText$Parser" ⟨"NetText$Parser", "wholes", "(II)V"⟩ ⟨"NetText$Parser", "wholes", "(II)V"⟩) := by decide +kernel
theorem ap_31 : lw_tbl[31]? = some (.selects "NetText$Parser" ⟨"NetText$Parser", "close", "(I)V"⟩ ⟨"NetText$Parser", "close", "(I)V"⟩) := by decide +kernel
theorem ap_32 : lw_tbl[32]? = some (.selects "NetText$Parser" ⟨"NetText$Parser", "negative", "(II)V"⟩ ⟨"NetText$Parser", "negative", "(II)V"⟩) := by decide +kernel
theorem ap_33 : lw_tbl[33]? = some (.selects "NetText$Parser" ⟨"NetText$Parser", "joinsPieces", "(Z)Z"⟩ ⟨"NetText$Parser", "joinsPieces", "(Z)Z"⟩) := by decide +kernel
theorem ap_34 : lw_tbl[34]? = some (.selects "NetText$Parser" ⟨"NetText$Parser", "fraction", "(II)V"⟩ ⟨"NetText$Parser", "fraction", "(II)V"⟩) := by decide +kernel
theorem ap_35 : lw_tbl[35]? = some (.selects "NetText$Parser" ⟨"NetText$Parser", "fractionBehind", "(II)V"⟩ ⟨"NetText$Parser", "fractionBehind", "(II)V"⟩) := by decide +kernel
theorem ap_36 : lw_tbl[36]? = some (.selects "NetText$Parser" ⟨"NetText$Parser", "items", "(I)V"⟩ ⟨"NetText$Parser", "items", "(I)V"⟩) := by decide +kernel
theorem ap_37 : lw_tbl[37]? = some (.selects "NetText$Parser" ⟨"NetText$Parser", "statement", "(I)Z"⟩ ⟨"NetText$Parser", "statement", "(I)Z"⟩) := by decide +kernel
theorem ap_38 : lw_tbl[38]? = some (.selects "NetText$Parser" ⟨"NetText$Parser", "param", "(I)V"⟩ ⟨"NetText$Parser", "param", "(I)V"⟩) := by decide +kernel
theorem ap_39 : lw_tbl[39]? = some (.selects "NetText$Parser" ⟨"NetText$Parser", "let", "(I)V"⟩ ⟨"NetText$Parser", "let", "(I)V"⟩) := by decide +kernel
theorem ap_40 : lw_tbl[40]? = some (.selects "NetText$Parser" ⟨"NetText$Parser", "repeat", "(I)V"⟩ ⟨"NetText$Parser", "repeat", "(I)V"⟩) := by decide +kernel
theorem ap_41 : lw_tbl[41]? = some (.selects "NetText$Parser" ⟨"NetText$Parser", "outerItem", "()Z"⟩ ⟨"NetText$Parser", "outerItem", "()Z"⟩) := by decide +kernel
theorem ap_42 : lw_tbl[42]? = some (.selects "NetText$Parser" ⟨"NetText$Parser", "input", "()V"⟩ ⟨"NetText$Parser", "input", "()V"⟩) := by decide +kernel
theorem ap_43 : lw_tbl[43]? = some (.selects "NetText$Parser" ⟨"NetText$Parser", "index", "()V"⟩ ⟨"NetText$Parser", "index", "()V"⟩) := by decide +kernel
theorem ap_44 : lw_tbl[44]? = some (.selects "NetText$Parser" ⟨"NetText$Parser", "block", "()V"⟩ ⟨"NetText$Parser", "block", "()V"⟩) := by decide +kernel
theorem ap_45 : lw_tbl[45]? = some (.selects "NetText$Parser" ⟨"NetText$Parser", "names", "(II)V"⟩ ⟨"NetText$Parser", "names", "(II)V"⟩) := by decide +kernel
theorem ap_46 : lw_tbl[46]? = some (.selects "NetText$Parser" ⟨"NetText$Parser", "sumBehind", "(III)V"⟩ ⟨"NetText$Parser", "sumBehind", "(III)V"⟩) := by decide +kernel
theorem at_2 : lw_tbl[86]? = some (.initialized "NetText$Words") := by decide +kernel
theorem at_3 : lw_tbl[87]? = some (.initialized "NetText$Tree") := by decide +kernel
theorem at_4 : lw_tbl[88]? = some (.initialized "NetText$Parser") := by decide +kernel
theorem at_11 : lw_tbl[95]? = some (.initialized "java/lang/Math") := by decide +kernel
theorem at_34 : lw_tbl[118]? = some (.fieldLink "NetText$Words" 9 "NetText$Words" "text" "[B") := by decide +kernel
theorem at_35 : lw_tbl[119]? = some (.fieldLink "NetText$Words" 15 "NetText$Words" "length" "I") := by decide +kernel
theorem at_36 : lw_tbl[120]? = some (.fieldLink "NetText$Words" 19 "NetText$Words" "sorts" "[I") := by decide +kernel
theorem at_38 : lw_tbl[122]? = some (.fieldLink "NetText$Words" 23 "NetText$Words" "starts" "[I") := by decide +kernel
theorem at_39 : lw_tbl[123]? = some (.fieldLink "NetText$Words" 26 "NetText$Words" "ends" "[I") := by decide +kernel
theorem at_40 : lw_tbl[124]? = some (.fieldLink "NetText$Words" 29 "NetText$Words" "count" "I") := by decide +kernel
theorem at_63 : lw_tbl[147]? = some (.fieldLink "NetText$Tree" 9 "NetText$Tree" "kinds" "[I") := by decide +kernel
theorem at_65 : lw_tbl[149]? = some (.fieldLink "NetText$Tree" 15 "NetText$Tree" "firstWords" "[I") := by decide +kernel
theorem at_67 : lw_tbl[151]? = some (.fieldLink "NetText$Tree" 18 "NetText$Tree" "parents" "[I") := by decide +kernel
theorem at_69 : lw_tbl[153]? = some (.fieldLink "NetText$Tree" 21 "NetText$Tree" "signs" "[I") := by decide +kernel
theorem at_71 : lw_tbl[155]? = some (.fieldLink "NetText$Tree" 24 "NetText$Tree" "depths" "[I") := by decide +kernel
theorem at_73 : lw_tbl[157]? = some (.fieldLink "NetText$Tree" 27 "NetText$Tree" "count" "I") := by decide +kernel
theorem at_95 : lw_tbl[179]? = some (.fieldLink "NetText$Parser" 9 "NetText$Parser" "words" "LNetText$Words;") := by decide +kernel
theorem at_96 : lw_tbl[180]? = some (.fieldLink "NetText$Parser" 15 "NetText$Parser" "tree" "LNetText$Tree;") := by decide +kernel
theorem at_97 : lw_tbl[181]? = some (.fieldLink "NetText$Parser" 19 "NetText$Parser" "at" "I") := by decide +kernel
theorem at_98 : lw_tbl[182]? = some (.fieldLink "NetText$Parser" 25 "NetText$Parser" "sort" "I") := by decide +kernel
theorem at_99 : lw_tbl[183]? = some (.fieldLink "NetText$Parser" 28 "NetText$Parser" "depth" "I") := by decide +kernel
theorem at_149 : lw_tbl[233]? = some (.methodLink "NetText$Words" 59 ⟨"NetText$Words", "byteAt", "(I)I"⟩) := by decide +kernel
theorem at_150 : lw_tbl[234]? = some (.instanceMethod ⟨"NetText$Words", "byteAt", "(I)I"⟩) := by decide +kernel
theorem at_151 : lw_tbl[235]? = some (.selects "NetText$Words" ⟨"NetText$Words", "byteAt", "(I)I"⟩ ⟨"NetText$Words", "byteAt", "(I)I"⟩) := by decide +kernel
theorem at_152 : lw_tbl[236]? = some (.code ⟨"NetText$Words", "byteAt", "(I)I"⟩ prog_6_method_20_code 2 (some .int)) := by decide +kernel
theorem at_153 : lw_tbl[237]? = some (.methodLink "NetText$Words" 62 ⟨"NetText$Words", "isBlank", "(I)Z"⟩) := by decide +kernel
theorem at_154 : lw_tbl[238]? = some (.static ⟨"NetText$Words", "isBlank", "(I)Z"⟩) := by decide +kernel
theorem at_155 : lw_tbl[239]? = some (.code ⟨"NetText$Words", "isBlank", "(I)Z"⟩ prog_6_method_17_code 1 (some .boolean)) := by decide +kernel
theorem at_160 : lw_tbl[244]? = some (.methodLink "NetText$Words" 66 ⟨"NetText$Words", "isLetter", "(I)Z"⟩) := by decide +kernel
theorem at_161 : lw_tbl[245]? = some (.static ⟨"NetText$Words", "isLetter", "(I)Z"⟩) := by decide +kernel
theorem at_162 : lw_tbl[246]? = some (.code ⟨"NetText$Words", "isLetter", "(I)Z"⟩ prog_6_method_18_code 1 (some .boolean)) := by decide +kernel
theorem at_163 : lw_tbl[247]? = some (.methodLink "NetText$Words" 69 ⟨"NetText$Words", "afterName", "(I)I"⟩) := by decide +kernel
theorem at_165 : lw_tbl[249]? = some (.instanceMethod ⟨"NetText$Words", "afterName", "(I)I"⟩) := by decide +kernel
theorem at_166 : lw_tbl[250]? = some (.code ⟨"NetText$Words", "afterName", "(I)I"⟩ prog_6_method_8_code 3 (some .int)) := by decide +kernel
theorem at_167 : lw_tbl[251]? = some (.methodLink "NetText$Words" 72 ⟨"NetText$Words", "isDigit", "(I)Z"⟩) := by decide +kernel
theorem at_168 : lw_tbl[252]? = some (.static ⟨"NetText$Words", "isDigit", "(I)Z"⟩) := by decide +kernel
theorem at_169 : lw_tbl[253]? = some (.code ⟨"NetText$Words", "isDigit", "(I)Z"⟩ prog_6_method_19_code 1 (some .boolean)) := by decide +kernel
theorem at_170 : lw_tbl[254]? = some (.methodLink "NetText$Words" 75 ⟨"NetText$Words", "afterNumber", "(I)I"⟩) := by decide +kernel
theorem at_172 : lw_tbl[256]? = some (.instanceMethod ⟨"NetText$Words", "afterNumber", "(I)I"⟩) := by decide +kernel
theorem at_173 : lw_tbl[257]? = some (.code ⟨"NetText$Words", "afterNumber", "(I)I"⟩ prog_6_method_9_code 3 (some .int)) := by decide +kernel
theorem at_174 : lw_tbl[258]? = some (.methodLink "NetText$Words" 97 ⟨"NetText$Words", "afterDigits", "(I)I"⟩) := by decide +kernel
theorem at_176 : lw_tbl[260]? = some (.instanceMethod ⟨"NetText$Words", "afterDigits", "(I)I"⟩) := by decide +kernel
theorem at_177 : lw_tbl[261]? = some (.code ⟨"NetText$Words", "afterDigits", "(I)I"⟩ prog_6_method_10_code 3 (some .int)) := by decide +kernel
theorem at_178 : lw_tbl[262]? = some (.methodLink "NetText$Words" 78 ⟨"java/lang/Math", "min", "(II)I"⟩) := by decide +kernel
theorem at_179 : lw_tbl[263]? = some (.static ⟨"java/lang/Math", "min", "(II)I"⟩) := by decide +kernel
theorem at_180 : lw_tbl[264]? = some (.code ⟨"java/lang/Math", "min", "(II)I"⟩ prog_15_method_69_code 2 (some .int)) := by decide +kernel
theorem at_291 : lw_tbl[375]? = some (.static ⟨"java/lang/Math", "max", "(II)I"⟩) := by decide +kernel
theorem at_292 : lw_tbl[376]? = some (.code ⟨"java/lang/Math", "max", "(II)I"⟩ prog_15_method_65_code 2 (some .int)) := by decide +kernel
theorem at_349 : lw_tbl[433]? = some (.methodLink "NetText$Words" 154 ⟨"NetText$Words", "holds", "(I)Z"⟩) := by decide +kernel
theorem at_351 : lw_tbl[435]? = some (.instanceMethod ⟨"NetText$Words", "holds", "(I)Z"⟩) := by decide +kernel
theorem at_352 : lw_tbl[436]? = some (.code ⟨"NetText$Words", "holds", "(I)Z"⟩ prog_6_method_21_code 2 (some .boolean)) := by decide +kernel
theorem at_357 : lw_tbl[441]? = some (.methodLink "NetText$Parser" 70 ⟨"NetText$Tree", "add", "(IIII)I"⟩) := by decide +kernel
theorem at_358 : lw_tbl[442]? = some (.instanceMethod ⟨"NetText$Tree", "add", "(IIII)I"⟩) := by decide +kernel
theorem at_359 : lw_tbl[443]? = some (.selects "NetText$Tree" ⟨"NetText$Tree", "add", "(IIII)I"⟩ ⟨"NetText$Tree", "add", "(IIII)I"⟩) := by decide +kernel
theorem at_360 : lw_tbl[444]? = some (.code ⟨"NetText$Tree", "add", "(IIII)I"⟩ prog_5_method_4_code 5 (some .int)) := by decide +kernel
theorem at_361 : lw_tbl[445]? = some (.methodLink "NetText$Parser" 65 ⟨"NetText$Parser", "take", "(I)V"⟩) := by decide +kernel
theorem at_363 : lw_tbl[447]? = some (.instanceMethod ⟨"NetText$Parser", "take", "(I)V"⟩) := by decide +kernel
theorem at_364 : lw_tbl[448]? = some (.code ⟨"NetText$Parser", "take", "(I)V"⟩ prog_3_method_6_code 2 none) := by decide +kernel
theorem at_365 : lw_tbl[449]? = some (.methodLink "NetText$Parser" 59 ⟨"NetText$Parser", "step", "()V"⟩) := by decide +kernel
theorem at_367 : lw_tbl[451]? = some (.instanceMethod ⟨"NetText$Parser", "step", "()V"⟩) := by decide +kernel
theorem at_368 : lw_tbl[452]? = some (.code ⟨"NetText$Parser", "step", "()V"⟩ prog_3_method_4_code 1 none) := by decide +kernel
theorem at_369 : lw_tbl[453]? = some (.methodLink "NetText$Parser" 62 ⟨"NetText$Parser", "refuse", "()V"⟩) := by decide +kernel
theorem at_371 : lw_tbl[455]? = some (.instanceMethod ⟨"NetText$Parser", "refuse", "()V"⟩) := by decide +kernel
theorem at_372 : lw_tbl[456]? = some (.code ⟨"NetText$Parser", "refuse", "()V"⟩ prog_3_method_5_code 1 none) := by decide +kernel
theorem at_373 : lw_tbl[457]? = some (.methodLink "NetText$Parser" 74 ⟨"NetText$Parser", "whole", "(II)V"⟩) := by decide +kernel
theorem at_375 : lw_tbl[459]? = some (.instanceMethod ⟨"NetText$Parser", "whole", "(II)V"⟩) := by decide +kernel
theorem at_376 : lw_tbl[460]? = some (.code ⟨"NetText$Parser", "whole", "(II)V"⟩ prog_3_method_27_code 4 none) := by decide +kernel
theorem at_377 : lw_tbl[461]? = some (.methodLink "NetText$Parser" 129 ⟨"NetText$Parser", "sum", "(IIZ)V"⟩) := by decide +kernel
theorem at_379 : lw_tbl[463]? = some (.instanceMethod ⟨"NetText$Parser", "sum", "(IIZ)V"⟩) := by decide +kernel
theorem at_380 : lw_tbl[464]? = some (.code ⟨"NetText$Parser", "sum", "(IIZ)V"⟩ prog_3_method_28_code 8 none) := by decide +kernel
theorem at_381 : lw_tbl[465]? = some (.methodLink "NetText$Parser" 140 ⟨"NetText$Parser", "product", "(IIZ)V"⟩) := by decide +kernel
theorem at_383 : lw_tbl[467]? = some (.instanceMethod ⟨"NetText$Parser", "product", "(IIZ)V"⟩) := by decide +kernel
theorem at_384 : lw_tbl[468]? = some (.code ⟨"NetText$Parser", "product", "(IIZ)V"⟩ prog_3_method_29_code 8 none) := by decide +kernel
theorem at_385 : lw_tbl[469]? = some (.methodLink "NetText$Parser" 146 ⟨"NetText$Parser", "piece", "(IIZ)V"⟩) := by decide +kernel
theorem at_387 : lw_tbl[471]? = some (.instanceMethod ⟨"NetText$Parser", "piece", "(IIZ)V"⟩) := by decide +kernel
theorem at_388 : lw_tbl[472]? = some (.code ⟨"NetText$Parser", "piece", "(IIZ)V"⟩ prog_3_method_31_code 4 none) := by decide +kernel
theorem at_389 : lw_tbl[473]? = some (.methodLink "NetText$Parser" 133 ⟨"NetText$Parser", "number", "(II)V"⟩) := by decide +kernel
theorem at_391 : lw_tbl[475]? = some (.instanceMethod ⟨"NetText$Parser", "number", "(II)V"⟩) := by decide +kernel
theorem at_392 : lw_tbl[476]? = some (.code ⟨"NetText$Parser", "number", "(II)V"⟩ prog_3_method_23_code 3 none) := by decide +kernel
theorem at_393 : lw_tbl[477]? = some (.methodLink "NetText$Parser" 153 ⟨"NetText$Parser", "nameAndMore", "(IIZ)V"⟩) := by decide +kernel
theorem at_395 : lw_tbl[479]? = some (.instanceMethod ⟨"NetText$Parser", "nameAndMore", "(IIZ)V"⟩) := by decide +kernel
theorem at_396 : lw_tbl[480]? = some (.code ⟨"NetText$Parser", "nameAndMore", "(IIZ)V"⟩ prog_3_method_32_code 5 none) := by decide +kernel
theorem at_397 : lw_tbl[481]? = some (.methodLink "NetText$Parser" 114 ⟨"NetText$Parser", "name", "(II)V"⟩) := by decide +kernel
theorem at_399 : lw_tbl[483]? = some (.instanceMethod ⟨"NetText$Parser", "name", "(II)V"⟩) := by decide +kernel
theorem at_400 : lw_tbl[484]? = some (.code ⟨"NetText$Parser", "name", "(II)V"⟩ prog_3_method_21_code 3 none) := by decide +kernel
theorem at_401 : lw_tbl[485]? = some (.methodLink "NetText$Parser" 159 ⟨"NetText$Tree", "turnInto", "(II)V"⟩) := by decide +kernel
theorem at_402 : lw_tbl[486]? = some (.instanceMethod ⟨"NetText$Tree", "turnInto", "(II)V"⟩) := by decide +kernel
theorem at_403 : lw_tbl[487]? = some (.selects "NetText$Tree" ⟨"NetText$Tree", "turnInto", "(II)V"⟩ ⟨"NetText$Tree", "turnInto", "(II)V"⟩) := by decide +kernel
theorem at_404 : lw_tbl[488]? = some (.code ⟨"NetText$Tree", "turnInto", "(II)V"⟩ prog_5_method_6_code 3 none) := by decide +kernel
theorem at_405 : lw_tbl[489]? = some (.methodLink "NetText$Tree" 37 ⟨"NetText$Tree", "holds", "(I)Z"⟩) := by decide +kernel
theorem at_406 : lw_tbl[490]? = some (.instanceMethod ⟨"NetText$Tree", "holds", "(I)Z"⟩) := by decide +kernel
theorem at_407 : lw_tbl[491]? = some (.selects "NetText$Tree" ⟨"NetText$Tree", "holds", "(I)Z"⟩ ⟨"NetText$Tree", "holds", "(I)Z"⟩) := by decide +kernel
theorem at_408 : lw_tbl[492]? = some (.code ⟨"NetText$Tree", "holds", "(I)Z"⟩ prog_5_method_3_code 2 (some .boolean)) := by decide +kernel
theorem at_409 : lw_tbl[493]? = some (.methodLink "NetText$Parser" 162 ⟨"NetText$Parser", "call", "(I)V"⟩) := by decide +kernel
theorem at_411 : lw_tbl[495]? = some (.instanceMethod ⟨"NetText$Parser", "call", "(I)V"⟩) := by decide +kernel
theorem at_412 : lw_tbl[496]? = some (.code ⟨"NetText$Parser", "call", "(I)V"⟩ prog_3_method_34_code 2 none) := by decide +kernel
theorem at_413 : lw_tbl[497]? = some (.methodLink "NetText$Parser" 120 ⟨"NetText$Parser", "open", "(I)V"⟩) := by decide +kernel
theorem at_415 : lw_tbl[499]? = some (.instanceMethod ⟨"NetText$Parser", "open", "(I)V"⟩) := by decide +kernel
theorem at_416 : lw_tbl[500]? = some (.code ⟨"NetText$Parser", "open", "(I)V"⟩ prog_3_method_7_code 2 none) := by decide +kernel
theorem at_417 : lw_tbl[501]? = some (.methodLink "NetText$Parser" 165 ⟨"NetText$Tree", "setDepth", "(II)V"⟩) := by decide +kernel
theorem at_418 : lw_tbl[502]? = some (.instanceMethod ⟨"NetText$Tree", "setDepth", "(II)V"⟩) := by decide +kernel
theorem at_419 : lw_tbl[503]? = some (.selects "NetText$Tree" ⟨"NetText$Tree", "setDepth", "(II)V"⟩ ⟨"NetText$Tree", "setDepth", "(II)V"⟩) := by decide +kernel
theorem at_420 : lw_tbl[504]? = some (.code ⟨"NetText$Tree", "setDepth", "(II)V"⟩ prog_5_method_7_code 3 none) := by decide +kernel
theorem at_421 : lw_tbl[505]? = some (.methodLink "NetText$Parser" 168 ⟨"NetText$Parser", "arguments", "(I)V"⟩) := by decide +kernel
theorem at_423 : lw_tbl[507]? = some (.instanceMethod ⟨"NetText$Parser", "arguments", "(I)V"⟩) := by decide +kernel
theorem at_424 : lw_tbl[508]? = some (.code ⟨"NetText$Parser", "arguments", "(I)V"⟩ prog_3_method_35_code 4 none) := by decide +kernel
theorem at_425 : lw_tbl[509]? = some (.methodLink "NetText$Parser" 117 ⟨"NetText$Parser", "shape", "(I)V"⟩) := by decide +kernel
theorem at_427 : lw_tbl[511]? = some (.instanceMethod ⟨"NetText$Parser", "shape", "(I)V"⟩) := by decide +kernel
theorem at_428 : lw_tbl[512]? = some (.code ⟨"NetText$Parser", "shape", "(I)V"⟩ prog_3_method_25_code 3 none) := by decide +kernel
theorem at_429 : lw_tbl[513]? = some (.methodLink "NetText$Parser" 136 ⟨"NetText$Parser", "wholes", "(II)V"⟩) := by decide +kernel
theorem at_431 : lw_tbl[515]? = some (.instanceMethod ⟨"NetText$Parser", "wholes", "(II)V"⟩) := by decide +kernel
theorem at_432 : lw_tbl[516]? = some (.code ⟨"NetText$Parser", "wholes", "(II)V"⟩ prog_3_method_26_code 4 none) := by decide +kernel
theorem at_433 : lw_tbl[517]? = some (.methodLink "NetText$Parser" 126 ⟨"NetText$Parser", "close", "(I)V"⟩) := by decide +kernel
theorem at_435 : lw_tbl[519]? = some (.instanceMethod ⟨"NetText$Parser", "close", "(I)V"⟩) := by decide +kernel
theorem at_436 : lw_tbl[520]? = some (.code ⟨"NetText$Parser", "close", "(I)V"⟩ prog_3_method_8_code 2 none) := by decide +kernel
theorem at_437 : lw_tbl[521]? = some (.methodLink "NetText$Parser" 156 ⟨"NetText$Parser", "negative", "(II)V"⟩) := by decide +kernel
theorem at_439 : lw_tbl[523]? = some (.instanceMethod ⟨"NetText$Parser", "negative", "(II)V"⟩) := by decide +kernel
theorem at_440 : lw_tbl[524]? = some (.code ⟨"NetText$Parser", "negative", "(II)V"⟩ prog_3_method_33_code 4 none) := by decide +kernel
theorem at_441 : lw_tbl[525]? = some (.methodLink "NetText$Parser" 149 ⟨"NetText$Parser", "joinsPieces", "(Z)Z"⟩) := by decide +kernel
theorem at_443 : lw_tbl[527]? = some (.instanceMethod ⟨"NetText$Parser", "joinsPieces", "(Z)Z"⟩) := by decide +kernel
theorem at_444 : lw_tbl[528]? = some (.code ⟨"NetText$Parser", "joinsPieces", "(Z)Z"⟩ prog_3_method_30_code 2 (some .boolean)) := by decide +kernel
theorem at_445 : lw_tbl[529]? = some (.methodLink "NetText$Parser" 143 ⟨"NetText$Tree", "wrap", "(III)V"⟩) := by decide +kernel
theorem at_446 : lw_tbl[530]? = some (.instanceMethod ⟨"NetText$Tree", "wrap", "(III)V"⟩) := by decide +kernel
theorem at_447 : lw_tbl[531]? = some (.selects "NetText$Tree" ⟨"NetText$Tree", "wrap", "(III)V"⟩ ⟨"NetText$Tree", "wrap", "(III)V"⟩) := by decide +kernel
theorem at_448 : lw_tbl[532]? = some (.code ⟨"NetText$Tree", "wrap", "(III)V"⟩ prog_5_method_5_code 5 none) := by decide +kernel
theorem at_449 : lw_tbl[533]? = some (.methodLink "NetText$Parser" 78 ⟨"NetText$Parser", "fraction", "(II)V"⟩) := by decide +kernel
theorem at_451 : lw_tbl[535]? = some (.instanceMethod ⟨"NetText$Parser", "fraction", "(II)V"⟩) := by decide +kernel
theorem at_452 : lw_tbl[536]? = some (.code ⟨"NetText$Parser", "fraction", "(II)V"⟩ prog_3_method_24_code 4 none) := by decide +kernel
theorem at_453 : lw_tbl[537]? = some (.methodLink "NetText$Parser" 81 ⟨"NetText$Parser", "fractionBehind", "(II)V"⟩) := by decide +kernel
theorem at_455 : lw_tbl[539]? = some (.instanceMethod ⟨"NetText$Parser", "fractionBehind", "(II)V"⟩) := by decide +kernel
theorem at_456 : lw_tbl[540]? = some (.code ⟨"NetText$Parser", "fractionBehind", "(II)V"⟩ prog_3_method_10_code 3 none) := by decide +kernel
theorem at_457 : lw_tbl[541]? = some (.methodLink "NetText$Parser" 49 ⟨"NetText$Parser", "items", "(I)V"⟩) := by decide +kernel
theorem at_459 : lw_tbl[543]? = some (.instanceMethod ⟨"NetText$Parser", "items", "(I)V"⟩) := by decide +kernel
theorem at_460 : lw_tbl[544]? = some (.code ⟨"NetText$Parser", "items", "(I)V"⟩ prog_3_method_11_code 4 none) := by decide +kernel
theorem at_461 : lw_tbl[545]? = some (.methodLink "NetText$Parser" 84 ⟨"NetText$Parser", "statement", "(I)Z"⟩) := by decide +kernel
theorem at_463 : lw_tbl[547]? = some (.instanceMethod ⟨"NetText$Parser", "statement", "(I)Z"⟩) := by decide +kernel
theorem at_464 : lw_tbl[548]? = some (.code ⟨"NetText$Parser", "statement", "(I)Z"⟩ prog_3_method_12_code 2 (some .boolean)) := by decide +kernel
theorem at_465 : lw_tbl[549]? = some (.methodLink "NetText$Parser" 92 ⟨"NetText$Parser", "param", "(I)V"⟩) := by decide +kernel
theorem at_467 : lw_tbl[551]? = some (.instanceMethod ⟨"NetText$Parser", "param", "(I)V"⟩) := by decide +kernel
theorem at_468 : lw_tbl[552]? = some (.code ⟨"NetText$Parser", "param", "(I)V"⟩ prog_3_method_18_code 3 none) := by decide +kernel
theorem at_469 : lw_tbl[553]? = some (.methodLink "NetText$Parser" 95 ⟨"NetText$Parser", "let", "(I)V"⟩) := by decide +kernel
theorem at_471 : lw_tbl[555]? = some (.instanceMethod ⟨"NetText$Parser", "let", "(I)V"⟩) := by decide +kernel
theorem at_472 : lw_tbl[556]? = some (.code ⟨"NetText$Parser", "let", "(I)V"⟩ prog_3_method_19_code 3 none) := by decide +kernel
theorem at_473 : lw_tbl[557]? = some (.methodLink "NetText$Parser" 98 ⟨"NetText$Parser", "repeat", "(I)V"⟩) := by decide +kernel
theorem at_475 : lw_tbl[559]? = some (.instanceMethod ⟨"NetText$Parser", "repeat", "(I)V"⟩) := by decide +kernel
theorem at_476 : lw_tbl[560]? = some (.code ⟨"NetText$Parser", "repeat", "(I)V"⟩ prog_3_method_20_code 3 none) := by decide +kernel
theorem at_477 : lw_tbl[561]? = some (.methodLink "NetText$Parser" 88 ⟨"NetText$Parser", "outerItem", "()Z"⟩) := by decide +kernel
theorem at_479 : lw_tbl[563]? = some (.instanceMethod ⟨"NetText$Parser", "outerItem", "()Z"⟩) := by decide +kernel
theorem at_480 : lw_tbl[564]? = some (.code ⟨"NetText$Parser", "outerItem", "()Z"⟩ prog_3_method_13_code 1 (some .boolean)) := by decide +kernel
theorem at_481 : lw_tbl[565]? = some (.methodLink "NetText$Parser" 101 ⟨"NetText$Parser", "input", "()V"⟩) := by decide +kernel
theorem at_483 : lw_tbl[567]? = some (.instanceMethod ⟨"NetText$Parser", "input", "()V"⟩) := by decide +kernel
theorem at_484 : lw_tbl[568]? = some (.code ⟨"NetText$Parser", "input", "()V"⟩ prog_3_method_14_code 2 none) := by decide +kernel
theorem at_485 : lw_tbl[569]? = some (.methodLink "NetText$Parser" 104 ⟨"NetText$Parser", "index", "()V"⟩) := by decide +kernel
theorem at_487 : lw_tbl[571]? = some (.instanceMethod ⟨"NetText$Parser", "index", "()V"⟩) := by decide +kernel
theorem at_488 : lw_tbl[572]? = some (.code ⟨"NetText$Parser", "index", "()V"⟩ prog_3_method_15_code 2 none) := by decide +kernel
theorem at_489 : lw_tbl[573]? = some (.methodLink "NetText$Parser" 107 ⟨"NetText$Parser", "block", "()V"⟩) := by decide +kernel
theorem at_491 : lw_tbl[575]? = some (.instanceMethod ⟨"NetText$Parser", "block", "()V"⟩) := by decide +kernel
theorem at_492 : lw_tbl[576]? = some (.code ⟨"NetText$Parser", "block", "()V"⟩ prog_3_method_16_code 2 none) := by decide +kernel
theorem at_493 : lw_tbl[577]? = some (.methodLink "NetText$Parser" 123 ⟨"NetText$Parser", "names", "(II)V"⟩) := by decide +kernel
theorem at_495 : lw_tbl[579]? = some (.instanceMethod ⟨"NetText$Parser", "names", "(II)V"⟩) := by decide +kernel
theorem at_496 : lw_tbl[580]? = some (.code ⟨"NetText$Parser", "names", "(II)V"⟩ prog_3_method_22_code 4 none) := by decide +kernel
theorem at_497 : lw_tbl[581]? = some (.methodLink "NetText$Parser" 110 ⟨"NetText$Parser", "sumBehind", "(III)V"⟩) := by decide +kernel
theorem at_499 : lw_tbl[583]? = some (.instanceMethod ⟨"NetText$Parser", "sumBehind", "(III)V"⟩) := by decide +kernel
theorem at_500 : lw_tbl[584]? = some (.code ⟨"NetText$Parser", "sumBehind", "(III)V"⟩ prog_3_method_17_code 5 none) := by decide +kernel
theorem at_719 : lw_tbl[803]? = some (.constantLong "NetText$Words" 157 (-1 : Int64)) := by decide +kernel
theorem at_720 : lw_tbl[804]? = some (.constantLong "NetText$Words" 159 (10 : Int64)) := by decide +kernel
theorem at_733 : lw_tbl[817]? = some (.methodLink "NetText$Words" 161 ⟨"java/lang/Math", "max", "(II)I"⟩) := by decide +kernel
