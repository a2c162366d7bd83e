theorem at_12 : lw_tbl[96]? = some (.initialized "java/lang/System") := by decide +kernel
theorem at_55 : lw_tbl[139]? = some (.arrayClass .byte) := by decide +kernel
theorem at_56 : lw_tbl[140]? = some (.arrayClass .int) := by decide +kernel
theorem at_143 : lw_tbl[227]? = some (.static ⟨"java/lang/System", "arraycopy", "(Ljava/lang/Object;ILjava/lang/Object;II)V"⟩) := by decide +kernel
theorem at_144 : lw_tbl[228]? = some (.native ⟨"java/lang/System", "arraycopy", "(Ljava/lang/Object;ILjava/lang/Object;II)V"⟩) := by decide +kernel
theorem at_599 : lw_tbl[683]? = some (.methodLink "java/util/Arrays" 304 ⟨"java/lang/Math", "min", "(II)I"⟩) := by decide +kernel
theorem at_600 : lw_tbl[684]? = some (.methodLink "java/util/Arrays" 150 ⟨"java/lang/System", "arraycopy", "(Ljava/lang/Object;ILjava/lang/Object;II)V"⟩) := by decide +kernel
theorem at_845 : lw_tbl[929]? = some (.arrayClass .long) := by decide +kernel
abbrev b_JA_copyOf_aBI : ByteArray := prog_22_method_121_code
def y_JA_copyOf_aBI : MethodName := ⟨"java/util/Arrays", "copyOf", "([BI)[B"⟩
abbrev w_JA_copyOf_aBI : List Cond := .code y_JA_copyOf_aBI b_JA_copyOf_aBI 3 (some (.array .byte)) :: lw_gt
theorem d_JA_copyOf_aBI_0 : decode b_JA_copyOf_aBI 0 = .ok (.iload_n 1, 1) := by decide +kernel
theorem d_JA_copyOf_aBI_1 : decode b_JA_copyOf_aBI 1 = .ok (.aload_n 0, 1) := by decide +kernel
theorem d_JA_copyOf_aBI_2 : decode b_JA_copyOf_aBI 2 = .ok (.arraylength, 1) := by decide +kernel
theorem d_JA_copyOf_aBI_3 : decode b_JA_copyOf_aBI 3 = .ok (.if_icmp .ne 11, 3) := by decide +kernel
theorem d_JA_copyOf_aBI_6 : decode b_JA_copyOf_aBI 6 = .ok (.aload_n 0, 1) := by decide +kernel
theorem d_JA_copyOf_aBI_7 : decode b_JA_copyOf_aBI 7 = .ok (.invokevirtual 310, 3) := by decide +kernel
theorem d_JA_copyOf_aBI_10 : decode b_JA_copyOf_aBI 10 = .ok (.checkcast 311, 3) := by decide +kernel
theorem d_JA_copyOf_aBI_13 : decode b_JA_copyOf_aBI 13 = .ok (.areturn, 1) := by decide +kernel
theorem d_JA_copyOf_aBI_14 : decode b_JA_copyOf_aBI 14 = .ok (.iload_n 1, 1) := by decide +kernel
theorem d_JA_copyOf_aBI_15 : decode b_JA_copyOf_aBI 15 = .ok (.newarray .byte, 2) := by decide +kernel
theorem d_JA_copyOf_aBI_17 : decode b_JA_copyOf_aBI 17 = .ok (.astore_n 2, 1) := by decide +kernel
theorem d_JA_copyOf_aBI_18 : decode b_JA_copyOf_aBI 18 = .ok (.aload_n 0, 1) := by decide +kernel
theorem d_JA_copyOf_aBI_19 : decode b_JA_copyOf_aBI 19 = .ok (.iconst 0, 1) := by decide +kernel
theorem d_JA_copyOf_aBI_20 : decode b_JA_copyOf_aBI 20 = .ok (.aload_n 2, 1) := by decide +kernel
theorem d_JA_copyOf_aBI_21 : decode b_JA_copyOf_aBI 21 = .ok (.iconst 0, 1) := by decide +kernel
theorem d_JA_copyOf_aBI_22 : decode b_JA_copyOf_aBI 22 = .ok (.aload_n 0, 1) := by decide +kernel
theorem d_JA_copyOf_aBI_23 : decode b_JA_copyOf_aBI 23 = .ok (.arraylength, 1) := by decide +kernel
theorem d_JA_copyOf_aBI_24 : decode b_JA_copyOf_aBI 24 = .ok (.iload_n 1, 1) := by decide +kernel
theorem d_JA_copyOf_aBI_25 : decode b_JA_copyOf_aBI 25 = .ok (.invokestatic 304, 3) := by decide +kernel
theorem d_JA_copyOf_aBI_28 : decode b_JA_copyOf_aBI 28 = .ok (.invokestatic 150, 3) := by decide +kernel
theorem d_JA_copyOf_aBI_31 : decode b_JA_copyOf_aBI 31 = .ok (.aload_n 2, 1) := by decide +kernel
theorem d_JA_copyOf_aBI_32 : decode b_JA_copyOf_aBI 32 = .ok (.areturn, 1) := by decide +kernel
abbrev b_JA_copyOf_aII : ByteArray := prog_22_method_123_code
def y_JA_copyOf_aII : MethodName := ⟨"java/util/Arrays", "copyOf", "([II)[I"⟩
abbrev w_JA_copyOf_aII : List Cond := .code y_JA_copyOf_aII b_JA_copyOf_aII 3 (some (.array .int)) :: lw_gt
theorem d_JA_copyOf_aII_0 : decode b_JA_copyOf_aII 0 = .ok (.iload_n 1, 1) := by decide +kernel
theorem d_JA_copyOf_aII_1 : decode b_JA_copyOf_aII 1 = .ok (.aload_n 0, 1) := by decide +kernel
theorem d_JA_copyOf_aII_2 : decode b_JA_copyOf_aII 2 = .ok (.arraylength, 1) := by decide +kernel
theorem d_JA_copyOf_aII_3 : decode b_JA_copyOf_aII 3 = .ok (.if_icmp .ne 11, 3) := by decide +kernel
theorem d_JA_copyOf_aII_6 : decode b_JA_copyOf_aII 6 = .ok (.aload_n 0, 1) := by decide +kernel
theorem d_JA_copyOf_aII_7 : decode b_JA_copyOf_aII 7 = .ok (.invokevirtual 316, 3) := by decide +kernel
theorem d_JA_copyOf_aII_10 : decode b_JA_copyOf_aII 10 = .ok (.checkcast 317, 3) := by decide +kernel
theorem d_JA_copyOf_aII_13 : decode b_JA_copyOf_aII 13 = .ok (.areturn, 1) := by decide +kernel
theorem d_JA_copyOf_aII_14 : decode b_JA_copyOf_aII 14 = .ok (.iload_n 1, 1) := by decide +kernel
theorem d_JA_copyOf_aII_15 : decode b_JA_copyOf_aII 15 = .ok (.newarray .int, 2) := by decide +kernel
theorem d_JA_copyOf_aII_17 : decode b_JA_copyOf_aII 17 = .ok (.astore_n 2, 1) := by decide +kernel
theorem d_JA_copyOf_aII_18 : decode b_JA_copyOf_aII 18 = .ok (.aload_n 0, 1) := by decide +kernel
theorem d_JA_copyOf_aII_19 : decode b_JA_copyOf_aII 19 = .ok (.iconst 0, 1) := by decide +kernel
theorem d_JA_copyOf_aII_20 : decode b_JA_copyOf_aII 20 = .ok (.aload_n 2, 1) := by decide +kernel
theorem d_JA_copyOf_aII_21 : decode b_JA_copyOf_aII 21 = .ok (.iconst 0, 1) := by decide +kernel
theorem d_JA_copyOf_aII_22 : decode b_JA_copyOf_aII 22 = .ok (.aload_n 0, 1) := by decide +kernel
theorem d_JA_copyOf_aII_23 : decode b_JA_copyOf_aII 23 = .ok (.arraylength, 1) := by decide +kernel
theorem d_JA_copyOf_aII_24 : decode b_JA_copyOf_aII 24 = .ok (.iload_n 1, 1) := by decide +kernel
theorem d_JA_copyOf_aII_25 : decode b_JA_copyOf_aII 25 = .ok (.invokestatic 304, 3) := by decide +kernel
theorem d_JA_copyOf_aII_28 : decode b_JA_copyOf_aII 28 = .ok (.invokestatic 150, 3) := by decide +kernel
theorem d_JA_copyOf_aII_31 : decode b_JA_copyOf_aII 31 = .ok (.aload_n 2, 1) := by decide +kernel
theorem d_JA_copyOf_aII_32 : decode b_JA_copyOf_aII 32 = .ok (.areturn, 1) := by decide +kernel
abbrev b_JA_copyOf_aJI : ByteArray := prog_22_method_124_code
def y_JA_copyOf_aJI : MethodName := ⟨"java/util/Arrays", "copyOf", "([JI)[J"⟩
abbrev w_JA_copyOf_aJI : List Cond := .code y_JA_copyOf_aJI b_JA_copyOf_aJI 3 (some (.array .long)) :: lw_gt
theorem d_JA_copyOf_aJI_0 : decode b_JA_copyOf_aJI 0 = .ok (.iload_n 1, 1) := by decide +kernel
theorem d_JA_copyOf_aJI_1 : decode b_JA_copyOf_aJI 1 = .ok (.aload_n 0, 1) := by decide +kernel
theorem d_JA_copyOf_aJI_2 : decode b_JA_copyOf_aJI 2 = .ok (.arraylength, 1) := by decide +kernel
theorem d_JA_copyOf_aJI_3 : decode b_JA_copyOf_aJI 3 = .ok (.if_icmp .ne 11, 3) := by decide +kernel
theorem d_JA_copyOf_aJI_6 : decode b_JA_copyOf_aJI 6 = .ok (.aload_n 0, 1) := by decide +kernel
theorem d_JA_copyOf_aJI_7 : decode b_JA_copyOf_aJI 7 = .ok (.invokevirtual 319, 3) := by decide +kernel
theorem d_JA_copyOf_aJI_10 : decode b_JA_copyOf_aJI 10 = .ok (.checkcast 320, 3) := by decide +kernel
theorem d_JA_copyOf_aJI_13 : decode b_JA_copyOf_aJI 13 = .ok (.areturn, 1) := by decide +kernel
theorem d_JA_copyOf_aJI_14 : decode b_JA_copyOf_aJI 14 = .ok (.iload_n 1, 1) := by decide +kernel
theorem d_JA_copyOf_aJI_15 : decode b_JA_copyOf_aJI 15 = .ok (.newarray .long, 2) := by decide +kernel
theorem d_JA_copyOf_aJI_17 : decode b_JA_copyOf_aJI 17 = .ok (.astore_n 2, 1) := by decide +kernel
theorem d_JA_copyOf_aJI_18 : decode b_JA_copyOf_aJI 18 = .ok (.aload_n 0, 1) := by decide +kernel
theorem d_JA_copyOf_aJI_19 : decode b_JA_copyOf_aJI 19 = .ok (.iconst 0, 1) := by decide +kernel
theorem d_JA_copyOf_aJI_20 : decode b_JA_copyOf_aJI 20 = .ok (.aload_n 2, 1) := by decide +kernel
theorem d_JA_copyOf_aJI_21 : decode b_JA_copyOf_aJI 21 = .ok (.iconst 0, 1) := by decide +kernel
theorem d_JA_copyOf_aJI_22 : decode b_JA_copyOf_aJI 22 = .ok (.aload_n 0, 1) := by decide +kernel
theorem d_JA_copyOf_aJI_23 : decode b_JA_copyOf_aJI 23 = .ok (.arraylength, 1) := by decide +kernel
theorem d_JA_copyOf_aJI_24 : decode b_JA_copyOf_aJI 24 = .ok (.iload_n 1, 1) := by decide +kernel
theorem d_JA_copyOf_aJI_25 : decode b_JA_copyOf_aJI 25 = .ok (.invokestatic 304, 3) := by decide +kernel
theorem d_JA_copyOf_aJI_28 : decode b_JA_copyOf_aJI 28 = .ok (.invokestatic 150, 3) := by decide +kernel
theorem d_JA_copyOf_aJI_31 : decode b_JA_copyOf_aJI 31 = .ok (.aload_n 2, 1) := by decide +kernel
theorem d_JA_copyOf_aJI_32 : decode b_JA_copyOf_aJI 32 = .ok (.areturn, 1) := by decide +kernel
def vc_JA_copyB  (mc_ : Nat) (ms_ : Nat) (nS : Nat) (fS : FN) (x1 : Int32) (K_ : Nat → FN → Prop) : Prop :=
  ((¬ x1 = (nI nS) → (¬ x1 < 0 ∧ x1.toNatClampNeg * 1 ≤ 536870912 ∧ 0 + 1 ≤ mc_ ∧ 0 + x1.toNatClampNeg ≤ ms_ ∧ ∀ q_2 : Nat, (¬ (0 : Int32) < 0 ∧ ¬ (0 : Int32) < 0 ∧ ¬ (if x1 < (nI nS) then x1 else (nI nS)) < 0 ∧ (0 : Int32).toNatClampNeg + (if x1 < (nI nS) then x1 else (nI nS)).toNatClampNeg ≤ nS ∧ (0 : Int32).toNatClampNeg + (if x1 < (nI nS) then x1 else (nI nS)).toNatClampNeg ≤ x1.toNatClampNeg ∧ (∀ i, i < (if x1 < (nI nS) then x1 else (nI nS)).toNatClampNeg → fits .byte (.int (fS ((0 : Int32).toNatClampNeg + i))) = true) ∧ (K_ q_2 (va_cpy fS (fun _ => 0) (0 : Int32).toNatClampNeg (0 : Int32).toNatClampNeg (if x1 < (nI nS) then x1 else (nI nS)).toNatClampNeg))))) ∧ (x1 = (nI nS) → False))
set_option maxHeartbeats 4000000 in
set_option maxRecDepth 100000 in
theorem met_JA_copyB {l : Launch} {dd : va_G} {cB cI cL cS : ClassId}  {aS : Nat}  {mc_ : Nat} {ms_ : Nat} {nS : Nat} {fS : FN} {x1 : Int32} {K_ : Nat → FN → Prop}  (hv : vc_JA_copyB  mc_ ms_ nS fS x1 K_) : Ct l y_JA_copyOf_aBI w_JA_copyOf_aBI (rmk 1 mc_ ms_) dd cls5 [(cB, .byte), (cI, .int), (cL, .long), (cS, .object "java/lang/String")] X0 [(aS, .inl (cB, nS, .inl fS))] [.ref aS, .int x1] (qa dd cls5 [(cB, .byte), (cI, .int), (cL, .long), (cS, .object "java/lang/String")] (fun u_ : Nat × FN => [(aS, .inl (cB, nS, .inl fS)), (u_.1, .inl (cB, x1.toNatClampNeg, .inl u_.2))]) (fun u_ : Nat × FN => u_.1) (fun u_ => K_ u_.1 u_.2)) mc_ ms_ := by
  refine m_of (cc := b_JA_copyOf_aBI) (nL := 3) (ret := (some (.array .byte))) (by decide) rfl (Nat.le_of_ble_eq_true rfl) ?_
  intro p e s m below meth c ls A ar Fx_ hA hP hK hD hS hX hl
  obtain ⟨hx, hb, hml, hr, hlocks, hown, hts, hinn⟩ := Fx_
  generalize hQ : MQ below ((qa dd cls5 [(cB, .byte), (cI, .int), (cL, .long), (cS, .object "java/lang/String")] (fun u_ : Nat × FN => [(aS, .inl (cB, nS, .inl fS)), (u_.1, .inl (cB, x1.toNatClampNeg, .inl u_.2))]) (fun u_ : Nat × FN => u_.1) (fun u_ => K_ u_.1 u_.2)) A) ar s mc_ ms_ A = QQ
  have hl : lv_has ls 3 [(0, .ref aS), (1, .int x1)] := hl
  unfold vc_JA_copyB at hv
  refine lv_iload_n hx hb d_JA_copyOf_aBI_0 rfl (lv_at hl 1 rfl) ?_
  refine lv_aload_n hx hb d_JA_copyOf_aBI_1 rfl (lv_at hl 0 rfl) ?_
  refine va_alen (v := nI nS) hx hb hK hP 0 0 rfl rfl rfl d_JA_copyOf_aBI_2 ?_
  refine lv_icmp_ne (tgt := 14) hx hb d_JA_copyOf_aBI_3 (by decide) (fun b_1 => ?_) (fun b_1 => ?_)
  · have hv := hv.1 b_1
    refine lv_iload_n hx hb d_JA_copyOf_aBI_14 rfl (lv_at hl 1 rfl) ?_
    obtain ⟨h_3, h_4, h_5, h_6, hv⟩ := hv
    refine n_ab hx hb (hts (.arrayClass .byte) (tg at_55)) hK 0 rfl hP hD hS hA h_3 h_4 h_5 h_6 d_JA_copyOf_aBI_15 (fun q_2 H hP hD hS => ?_)
    have hv := hv q_2
    have hP : va_P dd cls5 [(aS, .inl (cB, nS, .inl fS)), (q_2, .inl (cB, x1.toNatClampNeg, .inl (fun _ => 0)))] H := hP
    have hD : va_D A [(aS, .inl (cB, nS, .inl fS)), (q_2, .inl (cB, x1.toNatClampNeg, .inl (fun _ => 0)))] := hD
    refine lv_astore_n (lv' := [(2, .ref q_2), (0, .ref aS), (1, .int x1)]) hx hb d_JA_copyOf_aBI_17 rfl hl (by decide) rfl (fun ls hl => ?_)
    refine lv_aload_n hx hb d_JA_copyOf_aBI_18 rfl (lv_at hl 1 rfl) ?_
    refine lv_iconst (v := 0) hx hb d_JA_copyOf_aBI_19 (by decide) ?_
    refine lv_aload_n hx hb d_JA_copyOf_aBI_20 rfl (lv_at hl 0 rfl) ?_
    refine lv_iconst (v := 0) hx hb d_JA_copyOf_aBI_21 (by decide) ?_
    refine lv_aload_n hx hb d_JA_copyOf_aBI_22 rfl (lv_at hl 1 rfl) ?_
    refine va_alen (v := nI nS) hx hb hK hP 0 0 rfl rfl rfl d_JA_copyOf_aBI_23 ?_
    refine lv_iload_n hx hb d_JA_copyOf_aBI_24 rfl (lv_at hl 2 rfl) ?_
    refine va_mmin (R := (rmk 1 mc_ ms_)) (rest := [.int 0, .ref q_2, .int 0, .ref aS]) hx hb (hml.trans hl.1.symm) hown (hts (.methodLink "java/util/Arrays" 304 ⟨"java/lang/Math", "min", "(II)I"⟩) (tg at_599)) (hts (.static ⟨"java/lang/Math", "min", "(II)I"⟩) (tg at_179)) (hts (.initialized "java/lang/Math") (tg at_11)) (hts (.code ⟨"java/lang/Math", "min", "(II)I"⟩ prog_15_method_69_code 2 (some .int)) (tg at_180)) (Nat.le_of_ble_eq_true rfl) (Nat.le_of_ble_eq_true rfl) (by show 0 + 1 ≤ mc_; omega) (by show 0 + x1.toNatClampNeg ≤ ms_; omega) d_JA_copyOf_aBI_25 ?_
    obtain ⟨h_7, h_8, h_9, h_10, h_11, h_12, hv⟩ := hv
    refine va_copyi hx hb (hml.trans hl.1.symm) hown (hts (.methodLink "java/util/Arrays" 150 ⟨"java/lang/System", "arraycopy", "(Ljava/lang/Object;ILjava/lang/Object;II)V"⟩) (tg at_600)) (hts (.native ⟨"java/lang/System", "arraycopy", "(Ljava/lang/Object;ILjava/lang/Object;II)V"⟩) (tg at_144)) (hts (.static ⟨"java/lang/System", "arraycopy", "(Ljava/lang/Object;ILjava/lang/Object;II)V"⟩) (tg at_143)) (hts (.initialized "java/lang/System") (tg at_12)) hK hP hD hS 0 1 0 0 rfl rfl rfl rfl rfl h_7 h_8 h_9 h_10 h_11 h_12 (Nat.le_of_ble_eq_true rfl) (Nat.le_of_ble_eq_true rfl) d_JA_copyOf_aBI_28 (fun H locs hP hD hS => ?_)
    have hP : va_P dd cls5 [(aS, .inl (cB, nS, .inl fS)), (q_2, .inl (cB, x1.toNatClampNeg, .inl (va_cpy fS (fun _ => 0) (0 : Int32).toNatClampNeg (0 : Int32).toNatClampNeg (if x1 < (nI nS) then x1 else (nI nS)).toNatClampNeg)))] H := hP
    have hD : va_D A [(aS, .inl (cB, nS, .inl fS)), (q_2, .inl (cB, x1.toNatClampNeg, .inl (va_cpy fS (fun _ => 0) (0 : Int32).toNatClampNeg (0 : Int32).toNatClampNeg (if x1 < (nI nS) then x1 else (nI nS)).toNatClampNeg)))] := hD
    refine lv_aload_n hx hb d_JA_copyOf_aBI_31 rfl (lv_at hl 0 rfl) ?_
    subst hQ
    exact r_a hx hb hr hlocks  (q_2, (va_cpy fS (fun _ => 0) (0 : Int32).toNatClampNeg (0 : Int32).toNatClampNeg (if x1 < (nI nS) then x1 else (nI nS)).toNatClampNeg)) hv (hP.sub [0, 1] rfl) hK (hD.sub [0, 1] (by decide) rfl) hS (by omega) (by omega) d_JA_copyOf_aBI_32
  · have hv := hv.2 b_1
    refine lv_aload_n hx hb d_JA_copyOf_aBI_6 rfl (lv_at hl 0 rfl) ?_
    exact False.elim hv
def vc_JA_copyI  (mc_ : Nat) (ms_ : Nat) (nS : Nat) (fS : FN) (x1 : Int32) (K_ : Nat → FN → Prop) : Prop :=
  ((¬ x1 = (nI nS) → (¬ x1 < 0 ∧ x1.toNatClampNeg * 4 ≤ 536870912 ∧ 0 + 1 ≤ mc_ ∧ 0 + x1.toNatClampNeg ≤ ms_ ∧ ∀ q_2 : Nat, (¬ (0 : Int32) < 0 ∧ ¬ (0 : Int32) < 0 ∧ ¬ (if x1 < (nI nS) then x1 else (nI nS)) < 0 ∧ (0 : Int32).toNatClampNeg + (if x1 < (nI nS) then x1 else (nI nS)).toNatClampNeg ≤ nS ∧ (0 : Int32).toNatClampNeg + (if x1 < (nI nS) then x1 else (nI nS)).toNatClampNeg ≤ x1.toNatClampNeg ∧ (K_ q_2 (va_cpy fS (fun _ => 0) (0 : Int32).toNatClampNeg (0 : Int32).toNatClampNeg (if x1 < (nI nS) then x1 else (nI nS)).toNatClampNeg))))) ∧ (x1 = (nI nS) → False))
set_option maxHeartbeats 4000000 in
set_option maxRecDepth 100000 in
theorem met_JA_copyI {l : Launch} {dd : va_G} {cB cI cL cS : ClassId}  {aS : Nat}  {mc_ : Nat} {ms_ : Nat} {nS : Nat} {fS : FN} {x1 : Int32} {K_ : Nat → FN → Prop}  (hv : vc_JA_copyI  mc_ ms_ nS fS x1 K_) : Ct l y_JA_copyOf_aII w_JA_copyOf_aII (rmk 1 mc_ ms_) dd cls5 [(cB, .byte), (cI, .int), (cL, .long), (cS, .object "java/lang/String")] X0 [(aS, .inl (cI, nS, .inl fS))] [.ref aS, .int x1] (qa dd cls5 [(cB, .byte), (cI, .int), (cL, .long), (cS, .object "java/lang/String")] (fun u_ : Nat × FN => [(aS, .inl (cI, nS, .inl fS)), (u_.1, .inl (cI, x1.toNatClampNeg, .inl u_.2))]) (fun u_ : Nat × FN => u_.1) (fun u_ => K_ u_.1 u_.2)) mc_ ms_ := by
  refine m_of (cc := b_JA_copyOf_aII) (nL := 3) (ret := (some (.array .int))) (by decide) rfl (Nat.le_of_ble_eq_true rfl) ?_
  intro p e s m below meth c ls A ar Fx_ hA hP hK hD hS hX hl
  obtain ⟨hx, hb, hml, hr, hlocks, hown, hts, hinn⟩ := Fx_
  generalize hQ : MQ below ((qa dd cls5 [(cB, .byte), (cI, .int), (cL, .long), (cS, .object "java/lang/String")] (fun u_ : Nat × FN => [(aS, .inl (cI, nS, .inl fS)), (u_.1, .inl (cI, x1.toNatClampNeg, .inl u_.2))]) (fun u_ : Nat × FN => u_.1) (fun u_ => K_ u_.1 u_.2)) A) ar s mc_ ms_ A = QQ
  have hl : lv_has ls 3 [(0, .ref aS), (1, .int x1)] := hl
  unfold vc_JA_copyI at hv
  refine lv_iload_n hx hb d_JA_copyOf_aII_0 rfl (lv_at hl 1 rfl) ?_
  refine lv_aload_n hx hb d_JA_copyOf_aII_1 rfl (lv_at hl 0 rfl) ?_
  refine va_alen (v := nI nS) hx hb hK hP 0 1 rfl rfl rfl d_JA_copyOf_aII_2 ?_
  refine lv_icmp_ne (tgt := 14) hx hb d_JA_copyOf_aII_3 (by decide) (fun b_1 => ?_) (fun b_1 => ?_)
  · have hv := hv.1 b_1
    refine lv_iload_n hx hb d_JA_copyOf_aII_14 rfl (lv_at hl 1 rfl) ?_
    obtain ⟨h_3, h_4, h_5, h_6, hv⟩ := hv
    refine n_ai hx hb (hts (.arrayClass .int) (tg at_56)) hK 1 rfl hP hD hS hA h_3 h_4 h_5 h_6 d_JA_copyOf_aII_15 (fun q_2 H hP hD hS => ?_)
    have hv := hv q_2
    have hP : va_P dd cls5 [(aS, .inl (cI, nS, .inl fS)), (q_2, .inl (cI, x1.toNatClampNeg, .inl (fun _ => 0)))] H := hP
    have hD : va_D A [(aS, .inl (cI, nS, .inl fS)), (q_2, .inl (cI, x1.toNatClampNeg, .inl (fun _ => 0)))] := hD
    refine lv_astore_n (lv' := [(2, .ref q_2), (0, .ref aS), (1, .int x1)]) hx hb d_JA_copyOf_aII_17 rfl hl (by decide) rfl (fun ls hl => ?_)
    refine lv_aload_n hx hb d_JA_copyOf_aII_18 rfl (lv_at hl 1 rfl) ?_
    refine lv_iconst (v := 0) hx hb d_JA_copyOf_aII_19 (by decide) ?_
    refine lv_aload_n hx hb d_JA_copyOf_aII_20 rfl (lv_at hl 0 rfl) ?_
    refine lv_iconst (v := 0) hx hb d_JA_copyOf_aII_21 (by decide) ?_
    refine lv_aload_n hx hb d_JA_copyOf_aII_22 rfl (lv_at hl 1 rfl) ?_
    refine va_alen (v := nI nS) hx hb hK hP 0 1 rfl rfl rfl d_JA_copyOf_aII_23 ?_
    refine lv_iload_n hx hb d_JA_copyOf_aII_24 rfl (lv_at hl 2 rfl) ?_
    refine va_mmin (R := (rmk 1 mc_ ms_)) (rest := [.int 0, .ref q_2, .int 0, .ref aS]) hx hb (hml.trans hl.1.symm) hown (hts (.methodLink "java/util/Arrays" 304 ⟨"java/lang/Math", "min", "(II)I"⟩) (tg at_599)) (hts (.static ⟨"java/lang/Math", "min", "(II)I"⟩) (tg at_179)) (hts (.initialized "java/lang/Math") (tg at_11)) (hts (.code ⟨"java/lang/Math", "min", "(II)I"⟩ prog_15_method_69_code 2 (some .int)) (tg at_180)) (Nat.le_of_ble_eq_true rfl) (Nat.le_of_ble_eq_true rfl) (by show 0 + 1 ≤ mc_; omega) (by show 0 + x1.toNatClampNeg ≤ ms_; omega) d_JA_copyOf_aII_25 ?_
    obtain ⟨h_7, h_8, h_9, h_10, h_11, hv⟩ := hv
    refine va_copyi hx hb (hml.trans hl.1.symm) hown (hts (.methodLink "java/util/Arrays" 150 ⟨"java/lang/System", "arraycopy", "(Ljava/lang/Object;ILjava/lang/Object;II)V"⟩) (tg at_600)) (hts (.native ⟨"java/lang/System", "arraycopy", "(Ljava/lang/Object;ILjava/lang/Object;II)V"⟩) (tg at_144)) (hts (.static ⟨"java/lang/System", "arraycopy", "(Ljava/lang/Object;ILjava/lang/Object;II)V"⟩) (tg at_143)) (hts (.initialized "java/lang/System") (tg at_12)) hK hP hD hS 0 1 1 1 rfl rfl rfl rfl rfl h_7 h_8 h_9 h_10 h_11 (fun _ _ => rfl) (Nat.le_of_ble_eq_true rfl) (Nat.le_of_ble_eq_true rfl) d_JA_copyOf_aII_28 (fun H locs hP hD hS => ?_)
    have hP : va_P dd cls5 [(aS, .inl (cI, nS, .inl fS)), (q_2, .inl (cI, x1.toNatClampNeg, .inl (va_cpy fS (fun _ => 0) (0 : Int32).toNatClampNeg (0 : Int32).toNatClampNeg (if x1 < (nI nS) then x1 else (nI nS)).toNatClampNeg)))] H := hP
    have hD : va_D A [(aS, .inl (cI, nS, .inl fS)), (q_2, .inl (cI, x1.toNatClampNeg, .inl (va_cpy fS (fun _ => 0) (0 : Int32).toNatClampNeg (0 : Int32).toNatClampNeg (if x1 < (nI nS) then x1 else (nI nS)).toNatClampNeg)))] := hD
    refine lv_aload_n hx hb d_JA_copyOf_aII_31 rfl (lv_at hl 0 rfl) ?_
    subst hQ
    exact r_a hx hb hr hlocks  (q_2, (va_cpy fS (fun _ => 0) (0 : Int32).toNatClampNeg (0 : Int32).toNatClampNeg (if x1 < (nI nS) then x1 else (nI nS)).toNatClampNeg)) hv (hP.sub [0, 1] rfl) hK (hD.sub [0, 1] (by decide) rfl) hS (by omega) (by omega) d_JA_copyOf_aII_32
  · have hv := hv.2 b_1
    refine lv_aload_n hx hb d_JA_copyOf_aII_6 rfl (lv_at hl 0 rfl) ?_
    exact False.elim hv
def vc_JA_copyJ  (mc_ : Nat) (ms_ : Nat) (nS : Nat) (fS : FL) (x1 : Int32) (K_ : Nat → FL → Prop) : Prop :=
  ((¬ x1 = (nI nS) → (¬ x1 < 0 ∧ x1.toNatClampNeg * 8 ≤ 536870912 ∧ 0 + 1 ≤ mc_ ∧ 0 + x1.toNatClampNeg ≤ ms_ ∧ ∀ q_2 : Nat, (¬ (0 : Int32) < 0 ∧ ¬ (0 : Int32) < 0 ∧ ¬ (if x1 < (nI nS) then x1 else (nI nS)) < 0 ∧ (0 : Int32).toNatClampNeg + (if x1 < (nI nS) then x1 else (nI nS)).toNatClampNeg ≤ nS ∧ (0 : Int32).toNatClampNeg + (if x1 < (nI nS) then x1 else (nI nS)).toNatClampNeg ≤ x1.toNatClampNeg ∧ (K_ q_2 (va_cpy fS (fun _ => 0) (0 : Int32).toNatClampNeg (0 : Int32).toNatClampNeg (if x1 < (nI nS) then x1 else (nI nS)).toNatClampNeg))))) ∧ (x1 = (nI nS) → False))
set_option maxHeartbeats 4000000 in
set_option maxRecDepth 100000 in
theorem met_JA_copyJ {l : Launch} {dd : va_G} {cB cI cL cS : ClassId}  {aS : Nat}  {mc_ : Nat} {ms_ : Nat} {nS : Nat} {fS : FL} {x1 : Int32} {K_ : Nat → FL → Prop}  (hv : vc_JA_copyJ  mc_ ms_ nS fS x1 K_) : Ct l y_JA_copyOf_aJI w_JA_copyOf_aJI (rmk 1 mc_ ms_) dd cls5 [(cB, .byte), (cI, .int), (cL, .long), (cS, .object "java/lang/String")] X0 [(aS, .inl (cL, nS, .inr (.inl fS)))] [.ref aS, .int x1] (qa dd cls5 [(cB, .byte), (cI, .int), (cL, .long), (cS, .object "java/lang/String")] (fun u_ : Nat × FL => [(aS, .inl (cL, nS, .inr (.inl fS))), (u_.1, .inl (cL, x1.toNatClampNeg, .inr (.inl u_.2)))]) (fun u_ : Nat × FL => u_.1) (fun u_ => K_ u_.1 u_.2)) mc_ ms_ := by
  refine m_of (cc := b_JA_copyOf_aJI) (nL := 3) (ret := (some (.array .long))) (by decide) rfl (Nat.le_of_ble_eq_true rfl) ?_
  intro p e s m below meth c ls A ar Fx_ hA hP hK hD hS hX hl
  obtain ⟨hx, hb, hml, hr, hlocks, hown, hts, hinn⟩ := Fx_
  generalize hQ : MQ below ((qa dd cls5 [(cB, .byte), (cI, .int), (cL, .long), (cS, .object "java/lang/String")] (fun u_ : Nat × FL => [(aS, .inl (cL, nS, .inr (.inl fS))), (u_.1, .inl (cL, x1.toNatClampNeg, .inr (.inl u_.2)))]) (fun u_ : Nat × FL => u_.1) (fun u_ => K_ u_.1 u_.2)) A) ar s mc_ ms_ A = QQ
  have hl : lv_has ls 3 [(0, .ref aS), (1, .int x1)] := hl
  unfold vc_JA_copyJ at hv
  refine lv_iload_n hx hb d_JA_copyOf_aJI_0 rfl (lv_at hl 1 rfl) ?_
  refine lv_aload_n hx hb d_JA_copyOf_aJI_1 rfl (lv_at hl 0 rfl) ?_
  refine va_alen (v := nI nS) hx hb hK hP 0 2 rfl rfl rfl d_JA_copyOf_aJI_2 ?_
  refine lv_icmp_ne (tgt := 14) hx hb d_JA_copyOf_aJI_3 (by decide) (fun b_1 => ?_) (fun b_1 => ?_)
  · have hv := hv.1 b_1
    refine lv_iload_n hx hb d_JA_copyOf_aJI_14 rfl (lv_at hl 1 rfl) ?_
    obtain ⟨h_3, h_4, h_5, h_6, hv⟩ := hv
    refine n_al hx hb (hts (.arrayClass .long) (tg at_845)) hK 2 rfl hP hD hS hA h_3 h_4 h_5 h_6 d_JA_copyOf_aJI_15 (fun q_2 H hP hD hS => ?_)
    have hv := hv q_2
    have hP : va_P dd cls5 [(aS, .inl (cL, nS, .inr (.inl fS))), (q_2, .inl (cL, x1.toNatClampNeg, .inr (.inl (fun _ => 0))))] H := hP
    have hD : va_D A [(aS, .inl (cL, nS, .inr (.inl fS))), (q_2, .inl (cL, x1.toNatClampNeg, .inr (.inl (fun _ => 0))))] := hD
    refine lv_astore_n (lv' := [(2, .ref q_2), (0, .ref aS), (1, .int x1)]) hx hb d_JA_copyOf_aJI_17 rfl hl (by decide) rfl (fun ls hl => ?_)
    refine lv_aload_n hx hb d_JA_copyOf_aJI_18 rfl (lv_at hl 1 rfl) ?_
    refine lv_iconst (v := 0) hx hb d_JA_copyOf_aJI_19 (by decide) ?_
    refine lv_aload_n hx hb d_JA_copyOf_aJI_20 rfl (lv_at hl 0 rfl) ?_
    refine lv_iconst (v := 0) hx hb d_JA_copyOf_aJI_21 (by decide) ?_
    refine lv_aload_n hx hb d_JA_copyOf_aJI_22 rfl (lv_at hl 1 rfl) ?_
    refine va_alen (v := nI nS) hx hb hK hP 0 2 rfl rfl rfl d_JA_copyOf_aJI_23 ?_
    refine lv_iload_n hx hb d_JA_copyOf_aJI_24 rfl (lv_at hl 2 rfl) ?_
    refine va_mmin (R := (rmk 1 mc_ ms_)) (rest := [.int 0, .ref q_2, .int 0, .ref aS]) hx hb (hml.trans hl.1.symm) hown (hts (.methodLink "java/util/Arrays" 304 ⟨"java/lang/Math", "min", "(II)I"⟩) (tg at_599)) (hts (.static ⟨"java/lang/Math", "min", "(II)I"⟩) (tg at_179)) (hts (.initialized "java/lang/Math") (tg at_11)) (hts (.code ⟨"java/lang/Math", "min", "(II)I"⟩ prog_15_method_69_code 2 (some .int)) (tg at_180)) (Nat.le_of_ble_eq_true rfl) (Nat.le_of_ble_eq_true rfl) (by show 0 + 1 ≤ mc_; omega) (by show 0 + x1.toNatClampNeg ≤ ms_; omega) d_JA_copyOf_aJI_25 ?_
    obtain ⟨h_7, h_8, h_9, h_10, h_11, hv⟩ := hv
    refine va_copyl hx hb (hml.trans hl.1.symm) hown (hts (.methodLink "java/util/Arrays" 150 ⟨"java/lang/System", "arraycopy", "(Ljava/lang/Object;ILjava/lang/Object;II)V"⟩) (tg at_600)) (hts (.native ⟨"java/lang/System", "arraycopy", "(Ljava/lang/Object;ILjava/lang/Object;II)V"⟩) (tg at_144)) (hts (.static ⟨"java/lang/System", "arraycopy", "(Ljava/lang/Object;ILjava/lang/Object;II)V"⟩) (tg at_143)) (hts (.initialized "java/lang/System") (tg at_12)) hK hP hD hS 0 1 2 2 rfl rfl rfl rfl rfl h_7 h_8 h_9 h_10 h_11 (fun _ _ => rfl) (Nat.le_of_ble_eq_true rfl) (Nat.le_of_ble_eq_true rfl) d_JA_copyOf_aJI_28 (fun H locs hP hD hS => ?_)
    have hP : va_P dd cls5 [(aS, .inl (cL, nS, .inr (.inl fS))), (q_2, .inl (cL, x1.toNatClampNeg, .inr (.inl (va_cpy fS (fun _ => 0) (0 : Int32).toNatClampNeg (0 : Int32).toNatClampNeg (if x1 < (nI nS) then x1 else (nI nS)).toNatClampNeg))))] H := hP
    have hD : va_D A [(aS, .inl (cL, nS, .inr (.inl fS))), (q_2, .inl (cL, x1.toNatClampNeg, .inr (.inl (va_cpy fS (fun _ => 0) (0 : Int32).toNatClampNeg (0 : Int32).toNatClampNeg (if x1 < (nI nS) then x1 else (nI nS)).toNatClampNeg))))] := hD
    refine lv_aload_n hx hb d_JA_copyOf_aJI_31 rfl (lv_at hl 0 rfl) ?_
    subst hQ
    exact r_a hx hb hr hlocks  (q_2, (va_cpy fS (fun _ => 0) (0 : Int32).toNatClampNeg (0 : Int32).toNatClampNeg (if x1 < (nI nS) then x1 else (nI nS)).toNatClampNeg)) hv (hP.sub [0, 1] rfl) hK (hD.sub [0, 1] (by decide) rfl) hS (by omega) (by omega) d_JA_copyOf_aJI_32
  · have hv := hv.2 b_1
    refine lv_aload_n hx hb d_JA_copyOf_aJI_6 rfl (lv_at hl 0 rfl) ?_
    exact False.elim hv
