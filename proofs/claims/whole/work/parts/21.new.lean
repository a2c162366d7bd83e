theorem at_26 : lw_tbl[110]? = some (.instanceMethod ⟨"java/lang/Object", "<init>", "()V"⟩) := by decide +kernel
theorem at_27 : lw_tbl[111]? = some (.code ⟨"java/lang/Object", "<init>", "()V"⟩ object_method_1_code 1 none) := by decide +kernel
theorem at_33 : lw_tbl[117]? = some (.methodLink "NetText$Words" 3 ⟨"java/lang/Object", "<init>", "()V"⟩) := by decide +kernel
theorem at_62 : lw_tbl[146]? = some (.methodLink "NetText$Tree" 3 ⟨"java/lang/Object", "<init>", "()V"⟩) := by decide +kernel
theorem at_94 : lw_tbl[178]? = some (.methodLink "NetText$Parser" 3 ⟨"java/lang/Object", "<init>", "()V"⟩) := by decide +kernel
theorem at_142 : lw_tbl[226]? = some (.methodLink "NetText$Words" 53 ⟨"java/lang/System", "arraycopy", "(Ljava/lang/Object;ILjava/lang/Object;II)V"⟩) := by decide +kernel
theorem at_344 : lw_tbl[428]? = some (.methodLink "NetText$Tree" 31 ⟨"java/lang/Math", "max", "(II)I"⟩) := by decide +kernel
abbrev b_W_init : ByteArray := prog_6_method_1_code
def y_W_init : MethodName := ⟨"NetText$Words", "<init>", "(I)V"⟩
abbrev w_W_init : List Cond := .code y_W_init b_W_init 2 none :: lw_gt
theorem d_W_init_0 : decode b_W_init 0 = .ok (.aload_n 0, 1) := by decide +kernel
theorem d_W_init_1 : decode b_W_init 1 = .ok (.invokespecial 3, 3) := by decide +kernel
theorem d_W_init_4 : decode b_W_init 4 = .ok (.aload_n 0, 1) := by decide +kernel
theorem d_W_init_5 : decode b_W_init 5 = .ok (.iload_n 1, 1) := by decide +kernel
theorem d_W_init_6 : decode b_W_init 6 = .ok (.newarray .byte, 2) := by decide +kernel
theorem d_W_init_8 : decode b_W_init 8 = .ok (.putfield 9, 3) := by decide +kernel
theorem d_W_init_11 : decode b_W_init 11 = .ok (.aload_n 0, 1) := by decide +kernel
theorem d_W_init_12 : decode b_W_init 12 = .ok (.iconst 0, 1) := by decide +kernel
theorem d_W_init_13 : decode b_W_init 13 = .ok (.putfield 15, 3) := by decide +kernel
theorem d_W_init_16 : decode b_W_init 16 = .ok (.aload_n 0, 1) := by decide +kernel
theorem d_W_init_17 : decode b_W_init 17 = .ok (.iload_n 1, 1) := by decide +kernel
theorem d_W_init_18 : decode b_W_init 18 = .ok (.iconst 1, 1) := by decide +kernel
theorem d_W_init_19 : decode b_W_init 19 = .ok (.iadd, 1) := by decide +kernel
theorem d_W_init_20 : decode b_W_init 20 = .ok (.newarray .int, 2) := by decide +kernel
theorem d_W_init_22 : decode b_W_init 22 = .ok (.putfield 19, 3) := by decide +kernel
theorem d_W_init_25 : decode b_W_init 25 = .ok (.aload_n 0, 1) := by decide +kernel
theorem d_W_init_26 : decode b_W_init 26 = .ok (.iload_n 1, 1) := by decide +kernel
theorem d_W_init_27 : decode b_W_init 27 = .ok (.iconst 1, 1) := by decide +kernel
theorem d_W_init_28 : decode b_W_init 28 = .ok (.iadd, 1) := by decide +kernel
theorem d_W_init_29 : decode b_W_init 29 = .ok (.newarray .int, 2) := by decide +kernel
theorem d_W_init_31 : decode b_W_init 31 = .ok (.putfield 23, 3) := by decide +kernel
theorem d_W_init_34 : decode b_W_init 34 = .ok (.aload_n 0, 1) := by decide +kernel
theorem d_W_init_35 : decode b_W_init 35 = .ok (.iload_n 1, 1) := by decide +kernel
theorem d_W_init_36 : decode b_W_init 36 = .ok (.iconst 1, 1) := by decide +kernel
theorem d_W_init_37 : decode b_W_init 37 = .ok (.iadd, 1) := by decide +kernel
theorem d_W_init_38 : decode b_W_init 38 = .ok (.newarray .int, 2) := by decide +kernel
theorem d_W_init_40 : decode b_W_init 40 = .ok (.putfield 26, 3) := by decide +kernel
theorem d_W_init_43 : decode b_W_init 43 = .ok (.aload_n 0, 1) := by decide +kernel
theorem d_W_init_44 : decode b_W_init 44 = .ok (.iconst 0, 1) := by decide +kernel
theorem d_W_init_45 : decode b_W_init 45 = .ok (.putfield 29, 3) := by decide +kernel
theorem d_W_init_48 : decode b_W_init 48 = .ok (.return_, 1) := by decide +kernel
abbrev b_T_init : ByteArray := prog_5_method_1_code
def y_T_init : MethodName := ⟨"NetText$Tree", "<init>", "(I)V"⟩
abbrev w_T_init : List Cond := .code y_T_init b_T_init 2 none :: lw_gt
theorem d_T_init_0 : decode b_T_init 0 = .ok (.aload_n 0, 1) := by decide +kernel
theorem d_T_init_1 : decode b_T_init 1 = .ok (.invokespecial 3, 3) := by decide +kernel
theorem d_T_init_4 : decode b_T_init 4 = .ok (.aload_n 0, 1) := by decide +kernel
theorem d_T_init_5 : decode b_T_init 5 = .ok (.iload_n 1, 1) := by decide +kernel
theorem d_T_init_6 : decode b_T_init 6 = .ok (.newarray .int, 2) := by decide +kernel
theorem d_T_init_8 : decode b_T_init 8 = .ok (.putfield 9, 3) := by decide +kernel
theorem d_T_init_11 : decode b_T_init 11 = .ok (.aload_n 0, 1) := by decide +kernel
theorem d_T_init_12 : decode b_T_init 12 = .ok (.iload_n 1, 1) := by decide +kernel
theorem d_T_init_13 : decode b_T_init 13 = .ok (.newarray .int, 2) := by decide +kernel
theorem d_T_init_15 : decode b_T_init 15 = .ok (.putfield 15, 3) := by decide +kernel
theorem d_T_init_18 : decode b_T_init 18 = .ok (.aload_n 0, 1) := by decide +kernel
theorem d_T_init_19 : decode b_T_init 19 = .ok (.iload_n 1, 1) := by decide +kernel
theorem d_T_init_20 : decode b_T_init 20 = .ok (.newarray .int, 2) := by decide +kernel
theorem d_T_init_22 : decode b_T_init 22 = .ok (.putfield 18, 3) := by decide +kernel
theorem d_T_init_25 : decode b_T_init 25 = .ok (.aload_n 0, 1) := by decide +kernel
theorem d_T_init_26 : decode b_T_init 26 = .ok (.iload_n 1, 1) := by decide +kernel
theorem d_T_init_27 : decode b_T_init 27 = .ok (.newarray .int, 2) := by decide +kernel
theorem d_T_init_29 : decode b_T_init 29 = .ok (.putfield 21, 3) := by decide +kernel
theorem d_T_init_32 : decode b_T_init 32 = .ok (.aload_n 0, 1) := by decide +kernel
theorem d_T_init_33 : decode b_T_init 33 = .ok (.iload_n 1, 1) := by decide +kernel
theorem d_T_init_34 : decode b_T_init 34 = .ok (.newarray .int, 2) := by decide +kernel
theorem d_T_init_36 : decode b_T_init 36 = .ok (.putfield 24, 3) := by decide +kernel
theorem d_T_init_39 : decode b_T_init 39 = .ok (.aload_n 0, 1) := by decide +kernel
theorem d_T_init_40 : decode b_T_init 40 = .ok (.iconst 0, 1) := by decide +kernel
theorem d_T_init_41 : decode b_T_init 41 = .ok (.putfield 27, 3) := by decide +kernel
theorem d_T_init_44 : decode b_T_init 44 = .ok (.return_, 1) := by decide +kernel
abbrev b_P_init : ByteArray := prog_3_method_1_code
def y_P_init : MethodName := ⟨"NetText$Parser", "<init>", "(LNetText$Words;LNetText$Tree;)V"⟩
abbrev w_P_init : List Cond := .code y_P_init b_P_init 3 none :: lw_gt
theorem d_P_init_0 : decode b_P_init 0 = .ok (.aload_n 0, 1) := by decide +kernel
theorem d_P_init_1 : decode b_P_init 1 = .ok (.invokespecial 3, 3) := by decide +kernel
theorem d_P_init_4 : decode b_P_init 4 = .ok (.aload_n 0, 1) := by decide +kernel
theorem d_P_init_5 : decode b_P_init 5 = .ok (.aload_n 1, 1) := by decide +kernel
theorem d_P_init_6 : decode b_P_init 6 = .ok (.putfield 9, 3) := by decide +kernel
theorem d_P_init_9 : decode b_P_init 9 = .ok (.aload_n 0, 1) := by decide +kernel
theorem d_P_init_10 : decode b_P_init 10 = .ok (.aload_n 2, 1) := by decide +kernel
theorem d_P_init_11 : decode b_P_init 11 = .ok (.putfield 15, 3) := by decide +kernel
theorem d_P_init_14 : decode b_P_init 14 = .ok (.aload_n 0, 1) := by decide +kernel
theorem d_P_init_15 : decode b_P_init 15 = .ok (.iconst 0, 1) := by decide +kernel
theorem d_P_init_16 : decode b_P_init 16 = .ok (.putfield 19, 3) := by decide +kernel
theorem d_P_init_19 : decode b_P_init 19 = .ok (.aload_n 0, 1) := by decide +kernel
theorem d_P_init_20 : decode b_P_init 20 = .ok (.iconst 0, 1) := by decide +kernel
theorem d_P_init_21 : decode b_P_init 21 = .ok (.putfield 25, 3) := by decide +kernel
theorem d_P_init_24 : decode b_P_init 24 = .ok (.aload_n 0, 1) := by decide +kernel
theorem d_P_init_25 : decode b_P_init 25 = .ok (.iconst 0, 1) := by decide +kernel
theorem d_P_init_26 : decode b_P_init 26 = .ok (.putfield 28, 3) := by decide +kernel
theorem d_P_init_29 : decode b_P_init 29 = .ok (.return_, 1) := by decide +kernel
abbrev b_T_clear : ByteArray := prog_5_method_2_code
def y_T_clear : MethodName := ⟨"NetText$Tree", "clear", "(I)V"⟩
abbrev w_T_clear : List Cond := .code y_T_clear b_T_clear 3 none :: lw_gt
theorem d_T_clear_0 : decode b_T_clear 0 = .ok (.aload_n 0, 1) := by decide +kernel
theorem d_T_clear_1 : decode b_T_clear 1 = .ok (.iconst 0, 1) := by decide +kernel
theorem d_T_clear_2 : decode b_T_clear 2 = .ok (.putfield 27, 3) := by decide +kernel
theorem d_T_clear_5 : decode b_T_clear 5 = .ok (.aload_n 0, 1) := by decide +kernel
theorem d_T_clear_6 : decode b_T_clear 6 = .ok (.getfield 9, 3) := by decide +kernel
theorem d_T_clear_9 : decode b_T_clear 9 = .ok (.arraylength, 1) := by decide +kernel
theorem d_T_clear_10 : decode b_T_clear 10 = .ok (.iload_n 1, 1) := by decide +kernel
theorem d_T_clear_11 : decode b_T_clear 11 = .ok (.if_icmp .ge 50, 3) := by decide +kernel
theorem d_T_clear_14 : decode b_T_clear 14 = .ok (.iload_n 1, 1) := by decide +kernel
theorem d_T_clear_15 : decode b_T_clear 15 = .ok (.iconst 2, 1) := by decide +kernel
theorem d_T_clear_16 : decode b_T_clear 16 = .ok (.aload_n 0, 1) := by decide +kernel
theorem d_T_clear_17 : decode b_T_clear 17 = .ok (.getfield 9, 3) := by decide +kernel
theorem d_T_clear_20 : decode b_T_clear 20 = .ok (.arraylength, 1) := by decide +kernel
theorem d_T_clear_21 : decode b_T_clear 21 = .ok (.imul, 1) := by decide +kernel
theorem d_T_clear_22 : decode b_T_clear 22 = .ok (.invokestatic 31, 3) := by decide +kernel
theorem d_T_clear_25 : decode b_T_clear 25 = .ok (.istore_n 2, 1) := by decide +kernel
theorem d_T_clear_26 : decode b_T_clear 26 = .ok (.aload_n 0, 1) := by decide +kernel
theorem d_T_clear_27 : decode b_T_clear 27 = .ok (.iload_n 2, 1) := by decide +kernel
theorem d_T_clear_28 : decode b_T_clear 28 = .ok (.newarray .int, 2) := by decide +kernel
theorem d_T_clear_30 : decode b_T_clear 30 = .ok (.putfield 9, 3) := by decide +kernel
theorem d_T_clear_33 : decode b_T_clear 33 = .ok (.aload_n 0, 1) := by decide +kernel
theorem d_T_clear_34 : decode b_T_clear 34 = .ok (.iload_n 2, 1) := by decide +kernel
theorem d_T_clear_35 : decode b_T_clear 35 = .ok (.newarray .int, 2) := by decide +kernel
theorem d_T_clear_37 : decode b_T_clear 37 = .ok (.putfield 15, 3) := by decide +kernel
theorem d_T_clear_40 : decode b_T_clear 40 = .ok (.aload_n 0, 1) := by decide +kernel
theorem d_T_clear_41 : decode b_T_clear 41 = .ok (.iload_n 2, 1) := by decide +kernel
theorem d_T_clear_42 : decode b_T_clear 42 = .ok (.newarray .int, 2) := by decide +kernel
theorem d_T_clear_44 : decode b_T_clear 44 = .ok (.putfield 18, 3) := by decide +kernel
theorem d_T_clear_47 : decode b_T_clear 47 = .ok (.aload_n 0, 1) := by decide +kernel
theorem d_T_clear_48 : decode b_T_clear 48 = .ok (.iload_n 2, 1) := by decide +kernel
theorem d_T_clear_49 : decode b_T_clear 49 = .ok (.newarray .int, 2) := by decide +kernel
theorem d_T_clear_51 : decode b_T_clear 51 = .ok (.putfield 21, 3) := by decide +kernel
theorem d_T_clear_54 : decode b_T_clear 54 = .ok (.aload_n 0, 1) := by decide +kernel
theorem d_T_clear_55 : decode b_T_clear 55 = .ok (.iload_n 2, 1) := by decide +kernel
theorem d_T_clear_56 : decode b_T_clear 56 = .ok (.newarray .int, 2) := by decide +kernel
theorem d_T_clear_58 : decode b_T_clear 58 = .ok (.putfield 24, 3) := by decide +kernel
theorem d_T_clear_61 : decode b_T_clear 61 = .ok (.return_, 1) := by decide +kernel
abbrev b_W_keep : ByteArray := prog_6_method_3_code
def y_W_keep : MethodName := ⟨"NetText$Words", "keep", "([BI)V"⟩
abbrev w_W_keep : List Cond := .code y_W_keep b_W_keep 4 none :: lw_gt
theorem d_W_keep_0 : decode b_W_keep 0 = .ok (.aload_n 0, 1) := by decide +kernel
theorem d_W_keep_1 : decode b_W_keep 1 = .ok (.getfield 9, 3) := by decide +kernel
theorem d_W_keep_4 : decode b_W_keep 4 = .ok (.arraylength, 1) := by decide +kernel
theorem d_W_keep_5 : decode b_W_keep 5 = .ok (.iload_n 2, 1) := by decide +kernel
theorem d_W_keep_6 : decode b_W_keep 6 = .ok (.if_icmp .ge 40, 3) := by decide +kernel
theorem d_W_keep_9 : decode b_W_keep 9 = .ok (.aload_n 1, 1) := by decide +kernel
theorem d_W_keep_10 : decode b_W_keep 10 = .ok (.arraylength, 1) := by decide +kernel
theorem d_W_keep_11 : decode b_W_keep 11 = .ok (.istore_n 3, 1) := by decide +kernel
theorem d_W_keep_12 : decode b_W_keep 12 = .ok (.aload_n 0, 1) := by decide +kernel
theorem d_W_keep_13 : decode b_W_keep 13 = .ok (.iload_n 3, 1) := by decide +kernel
theorem d_W_keep_14 : decode b_W_keep 14 = .ok (.newarray .byte, 2) := by decide +kernel
theorem d_W_keep_16 : decode b_W_keep 16 = .ok (.putfield 9, 3) := by decide +kernel
theorem d_W_keep_19 : decode b_W_keep 19 = .ok (.aload_n 0, 1) := by decide +kernel
theorem d_W_keep_20 : decode b_W_keep 20 = .ok (.iload_n 3, 1) := by decide +kernel
theorem d_W_keep_21 : decode b_W_keep 21 = .ok (.iconst 1, 1) := by decide +kernel
theorem d_W_keep_22 : decode b_W_keep 22 = .ok (.iadd, 1) := by decide +kernel
theorem d_W_keep_23 : decode b_W_keep 23 = .ok (.newarray .int, 2) := by decide +kernel
theorem d_W_keep_25 : decode b_W_keep 25 = .ok (.putfield 19, 3) := by decide +kernel
theorem d_W_keep_28 : decode b_W_keep 28 = .ok (.aload_n 0, 1) := by decide +kernel
theorem d_W_keep_29 : decode b_W_keep 29 = .ok (.iload_n 3, 1) := by decide +kernel
theorem d_W_keep_30 : decode b_W_keep 30 = .ok (.iconst 1, 1) := by decide +kernel
theorem d_W_keep_31 : decode b_W_keep 31 = .ok (.iadd, 1) := by decide +kernel
theorem d_W_keep_32 : decode b_W_keep 32 = .ok (.newarray .int, 2) := by decide +kernel
theorem d_W_keep_34 : decode b_W_keep 34 = .ok (.putfield 23, 3) := by decide +kernel
theorem d_W_keep_37 : decode b_W_keep 37 = .ok (.aload_n 0, 1) := by decide +kernel
theorem d_W_keep_38 : decode b_W_keep 38 = .ok (.iload_n 3, 1) := by decide +kernel
theorem d_W_keep_39 : decode b_W_keep 39 = .ok (.iconst 1, 1) := by decide +kernel
theorem d_W_keep_40 : decode b_W_keep 40 = .ok (.iadd, 1) := by decide +kernel
theorem d_W_keep_41 : decode b_W_keep 41 = .ok (.newarray .int, 2) := by decide +kernel
theorem d_W_keep_43 : decode b_W_keep 43 = .ok (.putfield 26, 3) := by decide +kernel
theorem d_W_keep_46 : decode b_W_keep 46 = .ok (.aload_n 1, 1) := by decide +kernel
theorem d_W_keep_47 : decode b_W_keep 47 = .ok (.iconst 0, 1) := by decide +kernel
theorem d_W_keep_48 : decode b_W_keep 48 = .ok (.aload_n 0, 1) := by decide +kernel
theorem d_W_keep_49 : decode b_W_keep 49 = .ok (.getfield 9, 3) := by decide +kernel
theorem d_W_keep_52 : decode b_W_keep 52 = .ok (.iconst 0, 1) := by decide +kernel
theorem d_W_keep_53 : decode b_W_keep 53 = .ok (.iload_n 2, 1) := by decide +kernel
theorem d_W_keep_54 : decode b_W_keep 54 = .ok (.invokestatic 53, 3) := by decide +kernel
theorem d_W_keep_57 : decode b_W_keep 57 = .ok (.aload_n 0, 1) := by decide +kernel
theorem d_W_keep_58 : decode b_W_keep 58 = .ok (.iload_n 2, 1) := by decide +kernel
theorem d_W_keep_59 : decode b_W_keep 59 = .ok (.putfield 15, 3) := by decide +kernel
theorem d_W_keep_62 : decode b_W_keep 62 = .ok (.return_, 1) := by decide +kernel
def vc_W_init  (mc_ : Nat) (ms_ : Nat) (x1 : Int32) (K_ : Nat → Nat → Nat → Nat → Nat → FN → Nat → FN → FN → FN → Prop) : Prop :=
  (¬ x1 < 0 ∧ x1.toNatClampNeg * 1 ≤ 536870912 ∧ 0 + 1 ≤ mc_ ∧ 0 + x1.toNatClampNeg ≤ ms_ ∧ ∀ q_1 : Nat, (¬ (x1 + 1) < 0 ∧ (x1 + 1).toNatClampNeg * 4 ≤ 536870912 ∧ 0 + 1 + 1 ≤ mc_ ∧ 0 + x1.toNatClampNeg + (x1 + 1).toNatClampNeg ≤ ms_ ∧ ∀ q_6 : Nat, (¬ (x1 + 1) < 0 ∧ (x1 + 1).toNatClampNeg * 4 ≤ 536870912 ∧ 0 + 1 + 1 + 1 ≤ mc_ ∧ 0 + x1.toNatClampNeg + (x1 + 1).toNatClampNeg + (x1 + 1).toNatClampNeg ≤ ms_ ∧ ∀ q_11 : Nat, (¬ (x1 + 1) < 0 ∧ (x1 + 1).toNatClampNeg * 4 ≤ 536870912 ∧ 0 + 1 + 1 + 1 + 1 ≤ mc_ ∧ 0 + x1.toNatClampNeg + (x1 + 1).toNatClampNeg + (x1 + 1).toNatClampNeg + (x1 + 1).toNatClampNeg ≤ ms_ ∧ ∀ q_16 : Nat, (K_ q_1 q_6 q_11 q_16 x1.toNatClampNeg (fun _ => 0) ((x1 + 1).toNatClampNeg) (fun _ => 0) (fun _ => 0) (fun _ => 0))))))
set_option maxHeartbeats 4000000 in
set_option maxRecDepth 100000 in
theorem met_W_init {l : Launch} {dd : va_G} {cB cI cL cS : ClassId}  {oW : Nat}  {mc_ : Nat} {ms_ : Nat} {x1 : Int32} {K_ : Nat → Nat → Nat → Nat → Nat → FN → Nat → FN → FN → FN → Prop}  (hv : vc_W_init  mc_ ms_ x1 K_) : Ct l y_W_init w_W_init (rmk 1 mc_ ms_) dd cls5 [(cB, .byte), (cI, .int), (cL, .long), (cS, .object "java/lang/String")] X0 [(oW, .inr (1, [.null, .int 0, .null, .null, .null, .int 0]))] [.ref oW, .int x1] (qv dd cls5 [(cB, .byte), (cI, .int), (cL, .long), (cS, .object "java/lang/String")] (fun u_ : Nat × Nat × Nat × Nat × Nat × FN × Nat × FN × FN × FN => [(oW, .inr (1, [.ref u_.1, .int 0, .ref u_.2.1, .ref u_.2.2.1, .ref u_.2.2.2.1, .int 0])), (u_.1, .inl (cB, u_.2.2.2.2.1, .inl u_.2.2.2.2.2.1)), (u_.2.1, .inl (cI, u_.2.2.2.2.2.2.1, .inl u_.2.2.2.2.2.2.2.1)), (u_.2.2.1, .inl (cI, u_.2.2.2.2.2.2.1, .inl u_.2.2.2.2.2.2.2.2.1)), (u_.2.2.2.1, .inl (cI, u_.2.2.2.2.2.2.1, .inl u_.2.2.2.2.2.2.2.2.2))]) (fun u_ => K_ u_.1 u_.2.1 u_.2.2.1 u_.2.2.2.1 u_.2.2.2.2.1 u_.2.2.2.2.2.1 u_.2.2.2.2.2.2.1 u_.2.2.2.2.2.2.2.1 u_.2.2.2.2.2.2.2.2.1 u_.2.2.2.2.2.2.2.2.2)) mc_ ms_ := by
  refine m_of (cc := b_W_init) (nL := 2) (ret := none) (by decide) rfl (Nat.le_of_ble_eq_true rfl) ?_
  intro p e s m below meth c ls A ar Fx_ hA hP hK hD hS hX hl
  obtain ⟨hx, hb, hml, hr, hlocks, hown, hts, hinn⟩ := Fx_
  generalize hQ : MQ below ((qv dd cls5 [(cB, .byte), (cI, .int), (cL, .long), (cS, .object "java/lang/String")] (fun u_ : Nat × Nat × Nat × Nat × Nat × FN × Nat × FN × FN × FN => [(oW, .inr (1, [.ref u_.1, .int 0, .ref u_.2.1, .ref u_.2.2.1, .ref u_.2.2.2.1, .int 0])), (u_.1, .inl (cB, u_.2.2.2.2.1, .inl u_.2.2.2.2.2.1)), (u_.2.1, .inl (cI, u_.2.2.2.2.2.2.1, .inl u_.2.2.2.2.2.2.2.1)), (u_.2.2.1, .inl (cI, u_.2.2.2.2.2.2.1, .inl u_.2.2.2.2.2.2.2.2.1)), (u_.2.2.2.1, .inl (cI, u_.2.2.2.2.2.2.1, .inl u_.2.2.2.2.2.2.2.2.2))]) (fun u_ => K_ u_.1 u_.2.1 u_.2.2.1 u_.2.2.2.1 u_.2.2.2.2.1 u_.2.2.2.2.2.1 u_.2.2.2.2.2.2.1 u_.2.2.2.2.2.2.2.1 u_.2.2.2.2.2.2.2.2.1 u_.2.2.2.2.2.2.2.2.2)) A) ar s mc_ ms_ A = QQ
  have hl : lv_has ls 2 [(0, .ref oW), (1, .int x1)] := hl
  unfold vc_W_init at hv
  refine lv_aload_n hx hb d_W_init_0 rfl (lv_at hl 0 rfl) ?_
  refine W.objInit hx hb hown (hts (.methodLink "NetText$Words" 3 ⟨"java/lang/Object", "<init>", "()V"⟩) (tg at_33)) (hts (.instanceMethod ⟨"java/lang/Object", "<init>", "()V"⟩) (tg at_26)) (hts (.code ⟨"java/lang/Object", "<init>", "()V"⟩ object_method_1_code 1 none) (tg at_27)) rfl (hl.1.trans hml.symm) rfl d_W_init_1 (Nat.le_of_ble_eq_true rfl) (Nat.le_of_ble_eq_true rfl) ?_
  refine lv_aload_n hx hb d_W_init_4 rfl (lv_at hl 0 rfl) ?_
  refine lv_iload_n hx hb d_W_init_5 rfl (lv_at hl 1 rfl) ?_
  obtain ⟨h_2, h_3, h_4, h_5, hv⟩ := hv
  refine n_ab hx hb (hts (.arrayClass .byte) (tg at_55)) hK 0 rfl hP hD hS hA h_2 h_3 h_4 h_5 d_W_init_6 (fun q_1 H hP hD hS => ?_)
  have hv := hv q_1
  have hP : va_P dd cls5 [(oW, .inr (1, [.null, .int 0, .null, .null, .null, .int 0])), (q_1, .inl (cB, x1.toNatClampNeg, .inl (fun _ => 0)))] H := hP
  have hD : va_D A [(oW, .inr (1, [.null, .int 0, .null, .null, .null, .int 0])), (q_1, .inl (cB, x1.toNatClampNeg, .inl (fun _ => 0)))] := hD
  refine va_put (D := dd) (ci := 1) (C := Rc_W) (T := Fc_W) (N := 6) (v := .ref q_1) (ty := (.array .byte)) hx hb hts (inn in_W) tyf_W tyf_W_ok nmf_W hown hK hP hD hS 0 rfl rfl 0 (by decide) (hts (.fieldLink "NetText$Words" 9 "NetText$Words" "text" "[B") (tg at_34)) (fun _ h9 => h9) rfl (by decide +kernel) rfl rfl (Nat.le_of_ble_eq_true rfl) d_W_init_8 (fun H locs hP hD hS => ?_)
  have hP : va_P dd cls5 [(oW, .inr (1, [.ref q_1, .int 0, .null, .null, .null, .int 0])), (q_1, .inl (cB, x1.toNatClampNeg, .inl (fun _ => 0)))] H := hP
  have hD : va_D A [(oW, .inr (1, [.ref q_1, .int 0, .null, .null, .null, .int 0])), (q_1, .inl (cB, x1.toNatClampNeg, .inl (fun _ => 0)))] := hD
  refine lv_aload_n hx hb d_W_init_11 rfl (lv_at hl 0 rfl) ?_
  refine lv_iconst (v := 0) hx hb d_W_init_12 (by decide) ?_
  refine va_put (D := dd) (ci := 1) (C := Rc_W) (T := Fc_W) (N := 6) (v := .int 0) (ty := .int) hx hb hts (inn in_W) tyf_W tyf_W_ok nmf_W hown hK hP hD hS 0 rfl rfl 1 (by decide) (hts (.fieldLink "NetText$Words" 15 "NetText$Words" "length" "I") (tg at_35)) (fun _ h9 => h9) rfl (by decide +kernel) rfl rfl (Nat.le_of_ble_eq_true rfl) d_W_init_13 (fun H locs hP hD hS => ?_)
  have hP : va_P dd cls5 [(oW, .inr (1, [.ref q_1, .int 0, .null, .null, .null, .int 0])), (q_1, .inl (cB, x1.toNatClampNeg, .inl (fun _ => 0)))] H := hP
  have hD : va_D A [(oW, .inr (1, [.ref q_1, .int 0, .null, .null, .null, .int 0])), (q_1, .inl (cB, x1.toNatClampNeg, .inl (fun _ => 0)))] := hD
  refine lv_aload_n hx hb d_W_init_16 rfl (lv_at hl 0 rfl) ?_
  refine lv_iload_n hx hb d_W_init_17 rfl (lv_at hl 1 rfl) ?_
  refine lv_iconst (v := 1) hx hb d_W_init_18 (by decide) ?_
  refine lv_iadd hx hb d_W_init_19 ?_
  obtain ⟨h_7, h_8, h_9, h_10, hv⟩ := hv
  refine n_ai hx hb (hts (.arrayClass .int) (tg at_56)) hK 1 rfl hP hD hS hA h_7 h_8 h_9 h_10 d_W_init_20 (fun q_6 H hP hD hS => ?_)
  have hv := hv q_6
  have hP : va_P dd cls5 [(oW, .inr (1, [.ref q_1, .int 0, .null, .null, .null, .int 0])), (q_1, .inl (cB, x1.toNatClampNeg, .inl (fun _ => 0))), (q_6, .inl (cI, ((x1 + 1).toNatClampNeg), .inl (fun _ => 0)))] H := hP
  have hD : va_D A [(oW, .inr (1, [.ref q_1, .int 0, .null, .null, .null, .int 0])), (q_1, .inl (cB, x1.toNatClampNeg, .inl (fun _ => 0))), (q_6, .inl (cI, ((x1 + 1).toNatClampNeg), .inl (fun _ => 0)))] := hD
  refine va_put (D := dd) (ci := 1) (C := Rc_W) (T := Fc_W) (N := 6) (v := .ref q_6) (ty := (.array .int)) hx hb hts (inn in_W) tyf_W tyf_W_ok nmf_W hown hK hP hD hS 0 rfl rfl 2 (by decide) (hts (.fieldLink "NetText$Words" 19 "NetText$Words" "sorts" "[I") (tg at_36)) (fun _ h9 => h9) rfl (by decide +kernel) rfl rfl (Nat.le_of_ble_eq_true rfl) d_W_init_22 (fun H locs hP hD hS => ?_)
  have hP : va_P dd cls5 [(oW, .inr (1, [.ref q_1, .int 0, .ref q_6, .null, .null, .int 0])), (q_1, .inl (cB, x1.toNatClampNeg, .inl (fun _ => 0))), (q_6, .inl (cI, ((x1 + 1).toNatClampNeg), .inl (fun _ => 0)))] H := hP
  have hD : va_D A [(oW, .inr (1, [.ref q_1, .int 0, .ref q_6, .null, .null, .int 0])), (q_1, .inl (cB, x1.toNatClampNeg, .inl (fun _ => 0))), (q_6, .inl (cI, ((x1 + 1).toNatClampNeg), .inl (fun _ => 0)))] := hD
  refine lv_aload_n hx hb d_W_init_25 rfl (lv_at hl 0 rfl) ?_
  refine lv_iload_n hx hb d_W_init_26 rfl (lv_at hl 1 rfl) ?_
  refine lv_iconst (v := 1) hx hb d_W_init_27 (by decide) ?_
  refine lv_iadd hx hb d_W_init_28 ?_
  obtain ⟨h_12, h_13, h_14, h_15, hv⟩ := hv
  refine n_ai hx hb (hts (.arrayClass .int) (tg at_56)) hK 1 rfl hP hD hS hA h_12 h_13 h_14 h_15 d_W_init_29 (fun q_11 H hP hD hS => ?_)
  have hv := hv q_11
  have hP : va_P dd cls5 [(oW, .inr (1, [.ref q_1, .int 0, .ref q_6, .null, .null, .int 0])), (q_1, .inl (cB, x1.toNatClampNeg, .inl (fun _ => 0))), (q_6, .inl (cI, ((x1 + 1).toNatClampNeg), .inl (fun _ => 0))), (q_11, .inl (cI, ((x1 + 1).toNatClampNeg), .inl (fun _ => 0)))] H := hP
  have hD : va_D A [(oW, .inr (1, [.ref q_1, .int 0, .ref q_6, .null, .null, .int 0])), (q_1, .inl (cB, x1.toNatClampNeg, .inl (fun _ => 0))), (q_6, .inl (cI, ((x1 + 1).toNatClampNeg), .inl (fun _ => 0))), (q_11, .inl (cI, ((x1 + 1).toNatClampNeg), .inl (fun _ => 0)))] := hD
  refine va_put (D := dd) (ci := 1) (C := Rc_W) (T := Fc_W) (N := 6) (v := .ref q_11) (ty := (.array .int)) hx hb hts (inn in_W) tyf_W tyf_W_ok nmf_W hown hK hP hD hS 0 rfl rfl 3 (by decide) (hts (.fieldLink "NetText$Words" 23 "NetText$Words" "starts" "[I") (tg at_38)) (fun _ h9 => h9) rfl (by decide +kernel) rfl rfl (Nat.le_of_ble_eq_true rfl) d_W_init_31 (fun H locs hP hD hS => ?_)
  have hP : va_P dd cls5 [(oW, .inr (1, [.ref q_1, .int 0, .ref q_6, .ref q_11, .null, .int 0])), (q_1, .inl (cB, x1.toNatClampNeg, .inl (fun _ => 0))), (q_6, .inl (cI, ((x1 + 1).toNatClampNeg), .inl (fun _ => 0))), (q_11, .inl (cI, ((x1 + 1).toNatClampNeg), .inl (fun _ => 0)))] H := hP
  have hD : va_D A [(oW, .inr (1, [.ref q_1, .int 0, .ref q_6, .ref q_11, .null, .int 0])), (q_1, .inl (cB, x1.toNatClampNeg, .inl (fun _ => 0))), (q_6, .inl (cI, ((x1 + 1).toNatClampNeg), .inl (fun _ => 0))), (q_11, .inl (cI, ((x1 + 1).toNatClampNeg), .inl (fun _ => 0)))] := hD
  refine lv_aload_n hx hb d_W_init_34 rfl (lv_at hl 0 rfl) ?_
  refine lv_iload_n hx hb d_W_init_35 rfl (lv_at hl 1 rfl) ?_
  refine lv_iconst (v := 1) hx hb d_W_init_36 (by decide) ?_
  refine lv_iadd hx hb d_W_init_37 ?_
  obtain ⟨h_17, h_18, h_19, h_20, hv⟩ := hv
  refine n_ai hx hb (hts (.arrayClass .int) (tg at_56)) hK 1 rfl hP hD hS hA h_17 h_18 h_19 h_20 d_W_init_38 (fun q_16 H hP hD hS => ?_)
  have hv := hv q_16
  have hP : va_P dd cls5 [(oW, .inr (1, [.ref q_1, .int 0, .ref q_6, .ref q_11, .null, .int 0])), (q_1, .inl (cB, x1.toNatClampNeg, .inl (fun _ => 0))), (q_6, .inl (cI, ((x1 + 1).toNatClampNeg), .inl (fun _ => 0))), (q_11, .inl (cI, ((x1 + 1).toNatClampNeg), .inl (fun _ => 0))), (q_16, .inl (cI, ((x1 + 1).toNatClampNeg), .inl (fun _ => 0)))] H := hP
  have hD : va_D A [(oW, .inr (1, [.ref q_1, .int 0, .ref q_6, .ref q_11, .null, .int 0])), (q_1, .inl (cB, x1.toNatClampNeg, .inl (fun _ => 0))), (q_6, .inl (cI, ((x1 + 1).toNatClampNeg), .inl (fun _ => 0))), (q_11, .inl (cI, ((x1 + 1).toNatClampNeg), .inl (fun _ => 0))), (q_16, .inl (cI, ((x1 + 1).toNatClampNeg), .inl (fun _ => 0)))] := hD
  refine va_put (D := dd) (ci := 1) (C := Rc_W) (T := Fc_W) (N := 6) (v := .ref q_16) (ty := (.array .int)) hx hb hts (inn in_W) tyf_W tyf_W_ok nmf_W hown hK hP hD hS 0 rfl rfl 4 (by decide) (hts (.fieldLink "NetText$Words" 26 "NetText$Words" "ends" "[I") (tg at_39)) (fun _ h9 => h9) rfl (by decide +kernel) rfl rfl (Nat.le_of_ble_eq_true rfl) d_W_init_40 (fun H locs hP hD hS => ?_)
  have hP : va_P dd cls5 [(oW, .inr (1, [.ref q_1, .int 0, .ref q_6, .ref q_11, .ref q_16, .int 0])), (q_1, .inl (cB, x1.toNatClampNeg, .inl (fun _ => 0))), (q_6, .inl (cI, ((x1 + 1).toNatClampNeg), .inl (fun _ => 0))), (q_11, .inl (cI, ((x1 + 1).toNatClampNeg), .inl (fun _ => 0))), (q_16, .inl (cI, ((x1 + 1).toNatClampNeg), .inl (fun _ => 0)))] H := hP
  have hD : va_D A [(oW, .inr (1, [.ref q_1, .int 0, .ref q_6, .ref q_11, .ref q_16, .int 0])), (q_1, .inl (cB, x1.toNatClampNeg, .inl (fun _ => 0))), (q_6, .inl (cI, ((x1 + 1).toNatClampNeg), .inl (fun _ => 0))), (q_11, .inl (cI, ((x1 + 1).toNatClampNeg), .inl (fun _ => 0))), (q_16, .inl (cI, ((x1 + 1).toNatClampNeg), .inl (fun _ => 0)))] := hD
  refine lv_aload_n hx hb d_W_init_43 rfl (lv_at hl 0 rfl) ?_
  refine lv_iconst (v := 0) hx hb d_W_init_44 (by decide) ?_
  refine va_put (D := dd) (ci := 1) (C := Rc_W) (T := Fc_W) (N := 6) (v := .int 0) (ty := .int) hx hb hts (inn in_W) tyf_W tyf_W_ok nmf_W hown hK hP hD hS 0 rfl rfl 5 (by decide) (hts (.fieldLink "NetText$Words" 29 "NetText$Words" "count" "I") (tg at_40)) (fun _ h9 => h9) rfl (by decide +kernel) rfl rfl (Nat.le_of_ble_eq_true rfl) d_W_init_45 (fun H locs hP hD hS => ?_)
  have hP : va_P dd cls5 [(oW, .inr (1, [.ref q_1, .int 0, .ref q_6, .ref q_11, .ref q_16, .int 0])), (q_1, .inl (cB, x1.toNatClampNeg, .inl (fun _ => 0))), (q_6, .inl (cI, ((x1 + 1).toNatClampNeg), .inl (fun _ => 0))), (q_11, .inl (cI, ((x1 + 1).toNatClampNeg), .inl (fun _ => 0))), (q_16, .inl (cI, ((x1 + 1).toNatClampNeg), .inl (fun _ => 0)))] H := hP
  have hD : va_D A [(oW, .inr (1, [.ref q_1, .int 0, .ref q_6, .ref q_11, .ref q_16, .int 0])), (q_1, .inl (cB, x1.toNatClampNeg, .inl (fun _ => 0))), (q_6, .inl (cI, ((x1 + 1).toNatClampNeg), .inl (fun _ => 0))), (q_11, .inl (cI, ((x1 + 1).toNatClampNeg), .inl (fun _ => 0))), (q_16, .inl (cI, ((x1 + 1).toNatClampNeg), .inl (fun _ => 0)))] := hD
  subst hQ
  exact r_v hx hb hr hlocks  (q_1, q_6, q_11, q_16, x1.toNatClampNeg, (fun _ => 0), (x1 + 1).toNatClampNeg, (fun _ => 0), (fun _ => 0), (fun _ => 0)) hv (hP.sub [0, 1, 2, 3, 4] rfl) hK (hD.sub [0, 1, 2, 3, 4] (by decide) rfl) hS (by omega) (by omega) d_W_init_48
def vc_T_init  (mc_ : Nat) (ms_ : Nat) (x1 : Int32) (K_ : Nat → Nat → Nat → Nat → Nat → Nat → FN → FN → FN → FN → FN → Prop) : Prop :=
  (¬ x1 < 0 ∧ x1.toNatClampNeg * 4 ≤ 536870912 ∧ 0 + 1 ≤ mc_ ∧ 0 + x1.toNatClampNeg ≤ ms_ ∧ ∀ q_1 : Nat, (¬ x1 < 0 ∧ x1.toNatClampNeg * 4 ≤ 536870912 ∧ 0 + 1 + 1 ≤ mc_ ∧ 0 + x1.toNatClampNeg + x1.toNatClampNeg ≤ ms_ ∧ ∀ q_6 : Nat, (¬ x1 < 0 ∧ x1.toNatClampNeg * 4 ≤ 536870912 ∧ 0 + 1 + 1 + 1 ≤ mc_ ∧ 0 + x1.toNatClampNeg + x1.toNatClampNeg + x1.toNatClampNeg ≤ ms_ ∧ ∀ q_11 : Nat, (¬ x1 < 0 ∧ x1.toNatClampNeg * 4 ≤ 536870912 ∧ 0 + 1 + 1 + 1 + 1 ≤ mc_ ∧ 0 + x1.toNatClampNeg + x1.toNatClampNeg + x1.toNatClampNeg + x1.toNatClampNeg ≤ ms_ ∧ ∀ q_16 : Nat, (¬ x1 < 0 ∧ x1.toNatClampNeg * 4 ≤ 536870912 ∧ 0 + 1 + 1 + 1 + 1 + 1 ≤ mc_ ∧ 0 + x1.toNatClampNeg + x1.toNatClampNeg + x1.toNatClampNeg + x1.toNatClampNeg + x1.toNatClampNeg ≤ ms_ ∧ ∀ q_21 : Nat, (K_ q_1 q_6 q_11 q_16 q_21 x1.toNatClampNeg (fun _ => 0) (fun _ => 0) (fun _ => 0) (fun _ => 0) (fun _ => 0)))))))
set_option maxHeartbeats 4000000 in
set_option maxRecDepth 100000 in
theorem met_T_init {l : Launch} {dd : va_G} {cB cI cL cS : ClassId}  {oT : Nat}  {mc_ : Nat} {ms_ : Nat} {x1 : Int32} {K_ : Nat → Nat → Nat → Nat → Nat → Nat → FN → FN → FN → FN → FN → Prop}  (hv : vc_T_init  mc_ ms_ x1 K_) : Ct l y_T_init w_T_init (rmk 1 mc_ ms_) dd cls5 [(cB, .byte), (cI, .int), (cL, .long), (cS, .object "java/lang/String")] X0 [(oT, .inr (2, [.null, .null, .null, .null, .null, .int 0]))] [.ref oT, .int x1] (qv dd cls5 [(cB, .byte), (cI, .int), (cL, .long), (cS, .object "java/lang/String")] (fun u_ : Nat × Nat × Nat × Nat × Nat × Nat × FN × FN × FN × FN × FN => [(oT, .inr (2, [.ref u_.1, .ref u_.2.1, .ref u_.2.2.1, .ref u_.2.2.2.1, .ref u_.2.2.2.2.1, .int 0])), (u_.1, .inl (cI, u_.2.2.2.2.2.1, .inl u_.2.2.2.2.2.2.1)), (u_.2.1, .inl (cI, u_.2.2.2.2.2.1, .inl u_.2.2.2.2.2.2.2.1)), (u_.2.2.1, .inl (cI, u_.2.2.2.2.2.1, .inl u_.2.2.2.2.2.2.2.2.1)), (u_.2.2.2.1, .inl (cI, u_.2.2.2.2.2.1, .inl u_.2.2.2.2.2.2.2.2.2.1)), (u_.2.2.2.2.1, .inl (cI, u_.2.2.2.2.2.1, .inl u_.2.2.2.2.2.2.2.2.2.2))]) (fun u_ => K_ u_.1 u_.2.1 u_.2.2.1 u_.2.2.2.1 u_.2.2.2.2.1 u_.2.2.2.2.2.1 u_.2.2.2.2.2.2.1 u_.2.2.2.2.2.2.2.1 u_.2.2.2.2.2.2.2.2.1 u_.2.2.2.2.2.2.2.2.2.1 u_.2.2.2.2.2.2.2.2.2.2)) mc_ ms_ := by
  refine m_of (cc := b_T_init) (nL := 2) (ret := none) (by decide) rfl (Nat.le_of_ble_eq_true rfl) ?_
  intro p e s m below meth c ls A ar Fx_ hA hP hK hD hS hX hl
  obtain ⟨hx, hb, hml, hr, hlocks, hown, hts, hinn⟩ := Fx_
  generalize hQ : MQ below ((qv dd cls5 [(cB, .byte), (cI, .int), (cL, .long), (cS, .object "java/lang/String")] (fun u_ : Nat × Nat × Nat × Nat × Nat × Nat × FN × FN × FN × FN × FN => [(oT, .inr (2, [.ref u_.1, .ref u_.2.1, .ref u_.2.2.1, .ref u_.2.2.2.1, .ref u_.2.2.2.2.1, .int 0])), (u_.1, .inl (cI, u_.2.2.2.2.2.1, .inl u_.2.2.2.2.2.2.1)), (u_.2.1, .inl (cI, u_.2.2.2.2.2.1, .inl u_.2.2.2.2.2.2.2.1)), (u_.2.2.1, .inl (cI, u_.2.2.2.2.2.1, .inl u_.2.2.2.2.2.2.2.2.1)), (u_.2.2.2.1, .inl (cI, u_.2.2.2.2.2.1, .inl u_.2.2.2.2.2.2.2.2.2.1)), (u_.2.2.2.2.1, .inl (cI, u_.2.2.2.2.2.1, .inl u_.2.2.2.2.2.2.2.2.2.2))]) (fun u_ => K_ u_.1 u_.2.1 u_.2.2.1 u_.2.2.2.1 u_.2.2.2.2.1 u_.2.2.2.2.2.1 u_.2.2.2.2.2.2.1 u_.2.2.2.2.2.2.2.1 u_.2.2.2.2.2.2.2.2.1 u_.2.2.2.2.2.2.2.2.2.1 u_.2.2.2.2.2.2.2.2.2.2)) A) ar s mc_ ms_ A = QQ
  have hl : lv_has ls 2 [(0, .ref oT), (1, .int x1)] := hl
  unfold vc_T_init at hv
  refine lv_aload_n hx hb d_T_init_0 rfl (lv_at hl 0 rfl) ?_
  refine W.objInit hx hb hown (hts (.methodLink "NetText$Tree" 3 ⟨"java/lang/Object", "<init>", "()V"⟩) (tg at_62)) (hts (.instanceMethod ⟨"java/lang/Object", "<init>", "()V"⟩) (tg at_26)) (hts (.code ⟨"java/lang/Object", "<init>", "()V"⟩ object_method_1_code 1 none) (tg at_27)) rfl (hl.1.trans hml.symm) rfl d_T_init_1 (Nat.le_of_ble_eq_true rfl) (Nat.le_of_ble_eq_true rfl) ?_
  refine lv_aload_n hx hb d_T_init_4 rfl (lv_at hl 0 rfl) ?_
  refine lv_iload_n hx hb d_T_init_5 rfl (lv_at hl 1 rfl) ?_
  obtain ⟨h_2, h_3, h_4, h_5, hv⟩ := hv
  refine n_ai hx hb (hts (.arrayClass .int) (tg at_56)) hK 1 rfl hP hD hS hA h_2 h_3 h_4 h_5 d_T_init_6 (fun q_1 H hP hD hS => ?_)
  have hv := hv q_1
  have hP : va_P dd cls5 [(oT, .inr (2, [.null, .null, .null, .null, .null, .int 0])), (q_1, .inl (cI, x1.toNatClampNeg, .inl (fun _ => 0)))] H := hP
  have hD : va_D A [(oT, .inr (2, [.null, .null, .null, .null, .null, .int 0])), (q_1, .inl (cI, x1.toNatClampNeg, .inl (fun _ => 0)))] := hD
  refine va_put (D := dd) (ci := 2) (C := Rc_T) (T := Fc_T) (N := 6) (v := .ref q_1) (ty := (.array .int)) hx hb hts (inn in_T) tyf_T tyf_T_ok nmf_T hown hK hP hD hS 0 rfl rfl 0 (by decide) (hts (.fieldLink "NetText$Tree" 9 "NetText$Tree" "kinds" "[I") (tg at_63)) (fun _ h9 => h9) rfl (by decide +kernel) rfl rfl (Nat.le_of_ble_eq_true rfl) d_T_init_8 (fun H locs hP hD hS => ?_)
  have hP : va_P dd cls5 [(oT, .inr (2, [.ref q_1, .null, .null, .null, .null, .int 0])), (q_1, .inl (cI, x1.toNatClampNeg, .inl (fun _ => 0)))] H := hP
  have hD : va_D A [(oT, .inr (2, [.ref q_1, .null, .null, .null, .null, .int 0])), (q_1, .inl (cI, x1.toNatClampNeg, .inl (fun _ => 0)))] := hD
  refine lv_aload_n hx hb d_T_init_11 rfl (lv_at hl 0 rfl) ?_
  refine lv_iload_n hx hb d_T_init_12 rfl (lv_at hl 1 rfl) ?_
  obtain ⟨h_7, h_8, h_9, h_10, hv⟩ := hv
  refine n_ai hx hb (hts (.arrayClass .int) (tg at_56)) hK 1 rfl hP hD hS hA h_7 h_8 h_9 h_10 d_T_init_13 (fun q_6 H hP hD hS => ?_)
  have hv := hv q_6
  have hP : va_P dd cls5 [(oT, .inr (2, [.ref q_1, .null, .null, .null, .null, .int 0])), (q_1, .inl (cI, x1.toNatClampNeg, .inl (fun _ => 0))), (q_6, .inl (cI, x1.toNatClampNeg, .inl (fun _ => 0)))] H := hP
  have hD : va_D A [(oT, .inr (2, [.ref q_1, .null, .null, .null, .null, .int 0])), (q_1, .inl (cI, x1.toNatClampNeg, .inl (fun _ => 0))), (q_6, .inl (cI, x1.toNatClampNeg, .inl (fun _ => 0)))] := hD
  refine va_put (D := dd) (ci := 2) (C := Rc_T) (T := Fc_T) (N := 6) (v := .ref q_6) (ty := (.array .int)) hx hb hts (inn in_T) tyf_T tyf_T_ok nmf_T hown hK hP hD hS 0 rfl rfl 1 (by decide) (hts (.fieldLink "NetText$Tree" 15 "NetText$Tree" "firstWords" "[I") (tg at_65)) (fun _ h9 => h9) rfl (by decide +kernel) rfl rfl (Nat.le_of_ble_eq_true rfl) d_T_init_15 (fun H locs hP hD hS => ?_)
  have hP : va_P dd cls5 [(oT, .inr (2, [.ref q_1, .ref q_6, .null, .null, .null, .int 0])), (q_1, .inl (cI, x1.toNatClampNeg, .inl (fun _ => 0))), (q_6, .inl (cI, x1.toNatClampNeg, .inl (fun _ => 0)))] H := hP
  have hD : va_D A [(oT, .inr (2, [.ref q_1, .ref q_6, .null, .null, .null, .int 0])), (q_1, .inl (cI, x1.toNatClampNeg, .inl (fun _ => 0))), (q_6, .inl (cI, x1.toNatClampNeg, .inl (fun _ => 0)))] := hD
  refine lv_aload_n hx hb d_T_init_18 rfl (lv_at hl 0 rfl) ?_
  refine lv_iload_n hx hb d_T_init_19 rfl (lv_at hl 1 rfl) ?_
  obtain ⟨h_12, h_13, h_14, h_15, hv⟩ := hv
  refine n_ai hx hb (hts (.arrayClass .int) (tg at_56)) hK 1 rfl hP hD hS hA h_12 h_13 h_14 h_15 d_T_init_20 (fun q_11 H hP hD hS => ?_)
  have hv := hv q_11
  have hP : va_P dd cls5 [(oT, .inr (2, [.ref q_1, .ref q_6, .null, .null, .null, .int 0])), (q_1, .inl (cI, x1.toNatClampNeg, .inl (fun _ => 0))), (q_6, .inl (cI, x1.toNatClampNeg, .inl (fun _ => 0))), (q_11, .inl (cI, x1.toNatClampNeg, .inl (fun _ => 0)))] H := hP
  have hD : va_D A [(oT, .inr (2, [.ref q_1, .ref q_6, .null, .null, .null, .int 0])), (q_1, .inl (cI, x1.toNatClampNeg, .inl (fun _ => 0))), (q_6, .inl (cI, x1.toNatClampNeg, .inl (fun _ => 0))), (q_11, .inl (cI, x1.toNatClampNeg, .inl (fun _ => 0)))] := hD
  refine va_put (D := dd) (ci := 2) (C := Rc_T) (T := Fc_T) (N := 6) (v := .ref q_11) (ty := (.array .int)) hx hb hts (inn in_T) tyf_T tyf_T_ok nmf_T hown hK hP hD hS 0 rfl rfl 2 (by decide) (hts (.fieldLink "NetText$Tree" 18 "NetText$Tree" "parents" "[I") (tg at_67)) (fun _ h9 => h9) rfl (by decide +kernel) rfl rfl (Nat.le_of_ble_eq_true rfl) d_T_init_22 (fun H locs hP hD hS => ?_)
  have hP : va_P dd cls5 [(oT, .inr (2, [.ref q_1, .ref q_6, .ref q_11, .null, .null, .int 0])), (q_1, .inl (cI, x1.toNatClampNeg, .inl (fun _ => 0))), (q_6, .inl (cI, x1.toNatClampNeg, .inl (fun _ => 0))), (q_11, .inl (cI, x1.toNatClampNeg, .inl (fun _ => 0)))] H := hP
  have hD : va_D A [(oT, .inr (2, [.ref q_1, .ref q_6, .ref q_11, .null, .null, .int 0])), (q_1, .inl (cI, x1.toNatClampNeg, .inl (fun _ => 0))), (q_6, .inl (cI, x1.toNatClampNeg, .inl (fun _ => 0))), (q_11, .inl (cI, x1.toNatClampNeg, .inl (fun _ => 0)))] := hD
  refine lv_aload_n hx hb d_T_init_25 rfl (lv_at hl 0 rfl) ?_
  refine lv_iload_n hx hb d_T_init_26 rfl (lv_at hl 1 rfl) ?_
  obtain ⟨h_17, h_18, h_19, h_20, hv⟩ := hv
  refine n_ai hx hb (hts (.arrayClass .int) (tg at_56)) hK 1 rfl hP hD hS hA h_17 h_18 h_19 h_20 d_T_init_27 (fun q_16 H hP hD hS => ?_)
  have hv := hv q_16
  have hP : va_P dd cls5 [(oT, .inr (2, [.ref q_1, .ref q_6, .ref q_11, .null, .null, .int 0])), (q_1, .inl (cI, x1.toNatClampNeg, .inl (fun _ => 0))), (q_6, .inl (cI, x1.toNatClampNeg, .inl (fun _ => 0))), (q_11, .inl (cI, x1.toNatClampNeg, .inl (fun _ => 0))), (q_16, .inl (cI, x1.toNatClampNeg, .inl (fun _ => 0)))] H := hP
  have hD : va_D A [(oT, .inr (2, [.ref q_1, .ref q_6, .ref q_11, .null, .null, .int 0])), (q_1, .inl (cI, x1.toNatClampNeg, .inl (fun _ => 0))), (q_6, .inl (cI, x1.toNatClampNeg, .inl (fun _ => 0))), (q_11, .inl (cI, x1.toNatClampNeg, .inl (fun _ => 0))), (q_16, .inl (cI, x1.toNatClampNeg, .inl (fun _ => 0)))] := hD
  refine va_put (D := dd) (ci := 2) (C := Rc_T) (T := Fc_T) (N := 6) (v := .ref q_16) (ty := (.array .int)) hx hb hts (inn in_T) tyf_T tyf_T_ok nmf_T hown hK hP hD hS 0 rfl rfl 3 (by decide) (hts (.fieldLink "NetText$Tree" 21 "NetText$Tree" "signs" "[I") (tg at_69)) (fun _ h9 => h9) rfl (by decide +kernel) rfl rfl (Nat.le_of_ble_eq_true rfl) d_T_init_29 (fun H locs hP hD hS => ?_)
  have hP : va_P dd cls5 [(oT, .inr (2, [.ref q_1, .ref q_6, .ref q_11, .ref q_16, .null, .int 0])), (q_1, .inl (cI, x1.toNatClampNeg, .inl (fun _ => 0))), (q_6, .inl (cI, x1.toNatClampNeg, .inl (fun _ => 0))), (q_11, .inl (cI, x1.toNatClampNeg, .inl (fun _ => 0))), (q_16, .inl (cI, x1.toNatClampNeg, .inl (fun _ => 0)))] H := hP
  have hD : va_D A [(oT, .inr (2, [.ref q_1, .ref q_6, .ref q_11, .ref q_16, .null, .int 0])), (q_1, .inl (cI, x1.toNatClampNeg, .inl (fun _ => 0))), (q_6, .inl (cI, x1.toNatClampNeg, .inl (fun _ => 0))), (q_11, .inl (cI, x1.toNatClampNeg, .inl (fun _ => 0))), (q_16, .inl (cI, x1.toNatClampNeg, .inl (fun _ => 0)))] := hD
  refine lv_aload_n hx hb d_T_init_32 rfl (lv_at hl 0 rfl) ?_
  refine lv_iload_n hx hb d_T_init_33 rfl (lv_at hl 1 rfl) ?_
  obtain ⟨h_22, h_23, h_24, h_25, hv⟩ := hv
  refine n_ai hx hb (hts (.arrayClass .int) (tg at_56)) hK 1 rfl hP hD hS hA h_22 h_23 h_24 h_25 d_T_init_34 (fun q_21 H hP hD hS => ?_)
  have hv := hv q_21
  have hP : va_P dd cls5 [(oT, .inr (2, [.ref q_1, .ref q_6, .ref q_11, .ref q_16, .null, .int 0])), (q_1, .inl (cI, x1.toNatClampNeg, .inl (fun _ => 0))), (q_6, .inl (cI, x1.toNatClampNeg, .inl (fun _ => 0))), (q_11, .inl (cI, x1.toNatClampNeg, .inl (fun _ => 0))), (q_16, .inl (cI, x1.toNatClampNeg, .inl (fun _ => 0))), (q_21, .inl (cI, x1.toNatClampNeg, .inl (fun _ => 0)))] H := hP
  have hD : va_D A [(oT, .inr (2, [.ref q_1, .ref q_6, .ref q_11, .ref q_16, .null, .int 0])), (q_1, .inl (cI, x1.toNatClampNeg, .inl (fun _ => 0))), (q_6, .inl (cI, x1.toNatClampNeg, .inl (fun _ => 0))), (q_11, .inl (cI, x1.toNatClampNeg, .inl (fun _ => 0))), (q_16, .inl (cI, x1.toNatClampNeg, .inl (fun _ => 0))), (q_21, .inl (cI, x1.toNatClampNeg, .inl (fun _ => 0)))] := hD
  refine va_put (D := dd) (ci := 2) (C := Rc_T) (T := Fc_T) (N := 6) (v := .ref q_21) (ty := (.array .int)) hx hb hts (inn in_T) tyf_T tyf_T_ok nmf_T hown hK hP hD hS 0 rfl rfl 4 (by decide) (hts (.fieldLink "NetText$Tree" 24 "NetText$Tree" "depths" "[I") (tg at_71)) (fun _ h9 => h9) rfl (by decide +kernel) rfl rfl (Nat.le_of_ble_eq_true rfl) d_T_init_36 (fun H locs hP hD hS => ?_)
  have hP : va_P dd cls5 [(oT, .inr (2, [.ref q_1, .ref q_6, .ref q_11, .ref q_16, .ref q_21, .int 0])), (q_1, .inl (cI, x1.toNatClampNeg, .inl (fun _ => 0))), (q_6, .inl (cI, x1.toNatClampNeg, .inl (fun _ => 0))), (q_11, .inl (cI, x1.toNatClampNeg, .inl (fun _ => 0))), (q_16, .inl (cI, x1.toNatClampNeg, .inl (fun _ => 0))), (q_21, .inl (cI, x1.toNatClampNeg, .inl (fun _ => 0)))] H := hP
  have hD : va_D A [(oT, .inr (2, [.ref q_1, .ref q_6, .ref q_11, .ref q_16, .ref q_21, .int 0])), (q_1, .inl (cI, x1.toNatClampNeg, .inl (fun _ => 0))), (q_6, .inl (cI, x1.toNatClampNeg, .inl (fun _ => 0))), (q_11, .inl (cI, x1.toNatClampNeg, .inl (fun _ => 0))), (q_16, .inl (cI, x1.toNatClampNeg, .inl (fun _ => 0))), (q_21, .inl (cI, x1.toNatClampNeg, .inl (fun _ => 0)))] := hD
  refine lv_aload_n hx hb d_T_init_39 rfl (lv_at hl 0 rfl) ?_
  refine lv_iconst (v := 0) hx hb d_T_init_40 (by decide) ?_
  refine va_put (D := dd) (ci := 2) (C := Rc_T) (T := Fc_T) (N := 6) (v := .int 0) (ty := .int) hx hb hts (inn in_T) tyf_T tyf_T_ok nmf_T hown hK hP hD hS 0 rfl rfl 5 (by decide) (hts (.fieldLink "NetText$Tree" 27 "NetText$Tree" "count" "I") (tg at_73)) (fun _ h9 => h9) rfl (by decide +kernel) rfl rfl (Nat.le_of_ble_eq_true rfl) d_T_init_41 (fun H locs hP hD hS => ?_)
  have hP : va_P dd cls5 [(oT, .inr (2, [.ref q_1, .ref q_6, .ref q_11, .ref q_16, .ref q_21, .int 0])), (q_1, .inl (cI, x1.toNatClampNeg, .inl (fun _ => 0))), (q_6, .inl (cI, x1.toNatClampNeg, .inl (fun _ => 0))), (q_11, .inl (cI, x1.toNatClampNeg, .inl (fun _ => 0))), (q_16, .inl (cI, x1.toNatClampNeg, .inl (fun _ => 0))), (q_21, .inl (cI, x1.toNatClampNeg, .inl (fun _ => 0)))] H := hP
  have hD : va_D A [(oT, .inr (2, [.ref q_1, .ref q_6, .ref q_11, .ref q_16, .ref q_21, .int 0])), (q_1, .inl (cI, x1.toNatClampNeg, .inl (fun _ => 0))), (q_6, .inl (cI, x1.toNatClampNeg, .inl (fun _ => 0))), (q_11, .inl (cI, x1.toNatClampNeg, .inl (fun _ => 0))), (q_16, .inl (cI, x1.toNatClampNeg, .inl (fun _ => 0))), (q_21, .inl (cI, x1.toNatClampNeg, .inl (fun _ => 0)))] := hD
  subst hQ
  exact r_v hx hb hr hlocks  (q_1, q_6, q_11, q_16, q_21, x1.toNatClampNeg, (fun _ => 0), (fun _ => 0), (fun _ => 0), (fun _ => 0), (fun _ => 0)) hv (hP.sub [0, 1, 2, 3, 4, 5] rfl) hK (hD.sub [0, 1, 2, 3, 4, 5] (by decide) rfl) hS (by omega) (by omega) d_T_init_44
def vc_P_init    (K_ : Prop) : Prop :=
  (K_)
set_option maxHeartbeats 4000000 in
set_option maxRecDepth 100000 in
theorem met_P_init {l : Launch} {dd : va_G} {cB cI cL cS : ClassId}  {oP : Nat} {oW : Nat} {oT : Nat}    {K_ : Prop}  (hv : vc_P_init    K_) : Ct l y_P_init w_P_init (rmk 1 0 0) dd cls5 [(cB, .byte), (cI, .int), (cL, .long), (cS, .object "java/lang/String")] X0 [(oP, .inr (3, [.null, .null, .int 0, .int 0, .int 0]))] [.ref oP, .ref oW, .ref oT] (qv dd cls5 [(cB, .byte), (cI, .int), (cL, .long), (cS, .object "java/lang/String")] (fun u_ : Unit => [(oP, .inr (3, [.ref oW, .ref oT, .int 0, .int 0, .int 0]))]) (fun u_ => K_)) 0 0 := by
  refine m_of (cc := b_P_init) (nL := 3) (ret := none) (by decide) rfl (Nat.le_of_ble_eq_true rfl) ?_
  intro p e s m below meth c ls A ar Fx_ hA hP hK hD hS hX hl
  obtain ⟨hx, hb, hml, hr, hlocks, hown, hts, hinn⟩ := Fx_
  generalize hQ : MQ below ((qv dd cls5 [(cB, .byte), (cI, .int), (cL, .long), (cS, .object "java/lang/String")] (fun u_ : Unit => [(oP, .inr (3, [.ref oW, .ref oT, .int 0, .int 0, .int 0]))]) (fun u_ => K_)) A) ar s 0 0 A = QQ
  have hl : lv_has ls 3 [(0, .ref oP), (1, .ref oW), (2, .ref oT)] := hl
  unfold vc_P_init at hv
  refine lv_aload_n hx hb d_P_init_0 rfl (lv_at hl 0 rfl) ?_
  refine W.objInit hx hb hown (hts (.methodLink "NetText$Parser" 3 ⟨"java/lang/Object", "<init>", "()V"⟩) (tg at_94)) (hts (.instanceMethod ⟨"java/lang/Object", "<init>", "()V"⟩) (tg at_26)) (hts (.code ⟨"java/lang/Object", "<init>", "()V"⟩ object_method_1_code 1 none) (tg at_27)) rfl (hl.1.trans hml.symm) rfl d_P_init_1 (Nat.le_of_ble_eq_true rfl) (Nat.le_of_ble_eq_true rfl) ?_
  refine lv_aload_n hx hb d_P_init_4 rfl (lv_at hl 0 rfl) ?_
  refine lv_aload_n hx hb d_P_init_5 rfl (lv_at hl 1 rfl) ?_
  refine va_putF (D := dd) (ci := 3) (C := Rc_P) (T := Fc_P) (N := 5) (v := .ref oW) (ty := (.object "NetText$Words")) hx hb hts (inn in_P) tyf_P tyf_P_ok nmf_P hown hK hP hD hS 0 rfl rfl 0 (by decide) (hts (.fieldLink "NetText$Parser" 9 "NetText$Parser" "words" "LNetText$Words;") (tg at_95)) (fun _ h9 => h9) rfl hinn rfl (by decide +kernel) rfl rfl (Nat.le_of_ble_eq_true rfl) d_P_init_6 (fun H locs hP hD hS => ?_)
  have hP : va_P dd cls5 [(oP, .inr (3, [.ref oW, .null, .int 0, .int 0, .int 0]))] H := hP
  have hD : va_D A [(oP, .inr (3, [.ref oW, .null, .int 0, .int 0, .int 0]))] := hD
  refine lv_aload_n hx hb d_P_init_9 rfl (lv_at hl 0 rfl) ?_
  refine lv_aload_n hx hb d_P_init_10 rfl (lv_at hl 2 rfl) ?_
  refine va_putF (D := dd) (ci := 3) (C := Rc_P) (T := Fc_P) (N := 5) (v := .ref oT) (ty := (.object "NetText$Tree")) hx hb hts (inn in_P) tyf_P tyf_P_ok nmf_P hown hK hP hD hS 0 rfl rfl 1 (by decide) (hts (.fieldLink "NetText$Parser" 15 "NetText$Parser" "tree" "LNetText$Tree;") (tg at_96)) (fun _ h9 => h9) rfl hinn rfl (by decide +kernel) rfl rfl (Nat.le_of_ble_eq_true rfl) d_P_init_11 (fun H locs hP hD hS => ?_)
  have hP : va_P dd cls5 [(oP, .inr (3, [.ref oW, .ref oT, .int 0, .int 0, .int 0]))] H := hP
  have hD : va_D A [(oP, .inr (3, [.ref oW, .ref oT, .int 0, .int 0, .int 0]))] := hD
  refine lv_aload_n hx hb d_P_init_14 rfl (lv_at hl 0 rfl) ?_
  refine lv_iconst (v := 0) hx hb d_P_init_15 (by decide) ?_
  refine va_put (D := dd) (ci := 3) (C := Rc_P) (T := Fc_P) (N := 5) (v := .int 0) (ty := .int) hx hb hts (inn in_P) tyf_P tyf_P_ok nmf_P hown hK hP hD hS 0 rfl rfl 2 (by decide) (hts (.fieldLink "NetText$Parser" 19 "NetText$Parser" "at" "I") (tg at_97)) (fun _ h9 => h9) rfl (by decide +kernel) rfl rfl (Nat.le_of_ble_eq_true rfl) d_P_init_16 (fun H locs hP hD hS => ?_)
  have hP : va_P dd cls5 [(oP, .inr (3, [.ref oW, .ref oT, .int 0, .int 0, .int 0]))] H := hP
  have hD : va_D A [(oP, .inr (3, [.ref oW, .ref oT, .int 0, .int 0, .int 0]))] := hD
  refine lv_aload_n hx hb d_P_init_19 rfl (lv_at hl 0 rfl) ?_
  refine lv_iconst (v := 0) hx hb d_P_init_20 (by decide) ?_
  refine va_put (D := dd) (ci := 3) (C := Rc_P) (T := Fc_P) (N := 5) (v := .int 0) (ty := .int) hx hb hts (inn in_P) tyf_P tyf_P_ok nmf_P hown hK hP hD hS 0 rfl rfl 3 (by decide) (hts (.fieldLink "NetText$Parser" 25 "NetText$Parser" "sort" "I") (tg at_98)) (fun _ h9 => h9) rfl (by decide +kernel) rfl rfl (Nat.le_of_ble_eq_true rfl) d_P_init_21 (fun H locs hP hD hS => ?_)
  have hP : va_P dd cls5 [(oP, .inr (3, [.ref oW, .ref oT, .int 0, .int 0, .int 0]))] H := hP
  have hD : va_D A [(oP, .inr (3, [.ref oW, .ref oT, .int 0, .int 0, .int 0]))] := hD
  refine lv_aload_n hx hb d_P_init_24 rfl (lv_at hl 0 rfl) ?_
  refine lv_iconst (v := 0) hx hb d_P_init_25 (by decide) ?_
  refine va_put (D := dd) (ci := 3) (C := Rc_P) (T := Fc_P) (N := 5) (v := .int 0) (ty := .int) hx hb hts (inn in_P) tyf_P tyf_P_ok nmf_P hown hK hP hD hS 0 rfl rfl 4 (by decide) (hts (.fieldLink "NetText$Parser" 28 "NetText$Parser" "depth" "I") (tg at_99)) (fun _ h9 => h9) rfl (by decide +kernel) rfl rfl (Nat.le_of_ble_eq_true rfl) d_P_init_26 (fun H locs hP hD hS => ?_)
  have hP : va_P dd cls5 [(oP, .inr (3, [.ref oW, .ref oT, .int 0, .int 0, .int 0]))] H := hP
  have hD : va_D A [(oP, .inr (3, [.ref oW, .ref oT, .int 0, .int 0, .int 0]))] := hD
  subst hQ
  exact r_v hx hb hr hlocks  () hv (hP.sub [0] rfl) hK (hD.sub [0] (by decide) rfl) hS (Nat.le_refl _) (Nat.le_refl _) d_P_init_29
def vc_T_clear  (mc_ : Nat) (ms_ : Nat) (nT : Nat) (cn : Int32) (K : FN) (F : FN) (Pa : FN) (Sg : FN) (Dp : FN) (aK : Nat) (aF : Nat) (aP : Nat) (aS : Nat) (aD : Nat) (x1 : Int32) (K_ : Nat → Nat → Nat → Nat → Nat → Nat → Int32 → FN → FN → FN → FN → FN → Prop) : Prop :=
  ((x1 ≤ (nI nT) → (K_ aK aF aP aS aD nT 0 K F Pa Sg Dp)) ∧ (¬ x1 ≤ (nI nT) → (¬ (if x1 < (2 * (nI nT)) then (2 * (nI nT)) else x1) < 0 ∧ (if x1 < (2 * (nI nT)) then (2 * (nI nT)) else x1).toNatClampNeg * 4 ≤ 536870912 ∧ 0 + 1 ≤ mc_ ∧ 0 + (if x1 < (2 * (nI nT)) then (2 * (nI nT)) else x1).toNatClampNeg ≤ ms_ ∧ ∀ q_2 : Nat, (¬ (if x1 < (2 * (nI nT)) then (2 * (nI nT)) else x1) < 0 ∧ (if x1 < (2 * (nI nT)) then (2 * (nI nT)) else x1).toNatClampNeg * 4 ≤ 536870912 ∧ 0 + 1 + 1 ≤ mc_ ∧ 0 + (if x1 < (2 * (nI nT)) then (2 * (nI nT)) else x1).toNatClampNeg + (if x1 < (2 * (nI nT)) then (2 * (nI nT)) else x1).toNatClampNeg ≤ ms_ ∧ ∀ q_7 : Nat, (¬ (if x1 < (2 * (nI nT)) then (2 * (nI nT)) else x1) < 0 ∧ (if x1 < (2 * (nI nT)) then (2 * (nI nT)) else x1).toNatClampNeg * 4 ≤ 536870912 ∧ 0 + 1 + 1 + 1 ≤ mc_ ∧ 0 + (if x1 < (2 * (nI nT)) then (2 * (nI nT)) else x1).toNatClampNeg + (if x1 < (2 * (nI nT)) then (2 * (nI nT)) else x1).toNatClampNeg + (if x1 < (2 * (nI nT)) then (2 * (nI nT)) else x1).toNatClampNeg ≤ ms_ ∧ ∀ q_12 : Nat, (¬ (if x1 < (2 * (nI nT)) then (2 * (nI nT)) else x1) < 0 ∧ (if x1 < (2 * (nI nT)) then (2 * (nI nT)) else x1).toNatClampNeg * 4 ≤ 536870912 ∧ 0 + 1 + 1 + 1 + 1 ≤ mc_ ∧ 0 + (if x1 < (2 * (nI nT)) then (2 * (nI nT)) else x1).toNatClampNeg + (if x1 < (2 * (nI nT)) then (2 * (nI nT)) else x1).toNatClampNeg + (if x1 < (2 * (nI nT)) then (2 * (nI nT)) else x1).toNatClampNeg + (if x1 < (2 * (nI nT)) then (2 * (nI nT)) else x1).toNatClampNeg ≤ ms_ ∧ ∀ q_17 : Nat, (¬ (if x1 < (2 * (nI nT)) then (2 * (nI nT)) else x1) < 0 ∧ (if x1 < (2 * (nI nT)) then (2 * (nI nT)) else x1).toNatClampNeg * 4 ≤ 536870912 ∧ 0 + 1 + 1 + 1 + 1 + 1 ≤ mc_ ∧ 0 + (if x1 < (2 * (nI nT)) then (2 * (nI nT)) else x1).toNatClampNeg + (if x1 < (2 * (nI nT)) then (2 * (nI nT)) else x1).toNatClampNeg + (if x1 < (2 * (nI nT)) then (2 * (nI nT)) else x1).toNatClampNeg + (if x1 < (2 * (nI nT)) then (2 * (nI nT)) else x1).toNatClampNeg + (if x1 < (2 * (nI nT)) then (2 * (nI nT)) else x1).toNatClampNeg ≤ ms_ ∧ ∀ q_22 : Nat, (K_ q_2 q_7 q_12 q_17 q_22 ((if x1 < (2 * (nI nT)) then (2 * (nI nT)) else x1).toNatClampNeg) 0 (fun _ => 0) (fun _ => 0) (fun _ => 0) (fun _ => 0) (fun _ => 0)))))))))
set_option maxHeartbeats 4000000 in
set_option maxRecDepth 100000 in
theorem met_T_clear {l : Launch} {dd : va_G} {cB cI cL cS : ClassId}  {oT : Nat}  {mc_ : Nat} {ms_ : Nat} {nT : Nat} {cn : Int32} {K : FN} {F : FN} {Pa : FN} {Sg : FN} {Dp : FN} {aK : Nat} {aF : Nat} {aP : Nat} {aS : Nat} {aD : Nat} {x1 : Int32} {K_ : Nat → Nat → Nat → Nat → Nat → Nat → Int32 → FN → FN → FN → FN → FN → Prop}  (hv : vc_T_clear  mc_ ms_ nT cn K F Pa Sg Dp aK aF aP aS aD x1 K_) : Ct l y_T_clear w_T_clear (rmk 1 mc_ ms_) dd cls5 [(cB, .byte), (cI, .int), (cL, .long), (cS, .object "java/lang/String")] X0 [(oT, .inr (2, [.ref aK, .ref aF, .ref aP, .ref aS, .ref aD, .int cn])), (aK, .inl (cI, nT, .inl K)), (aF, .inl (cI, nT, .inl F)), (aP, .inl (cI, nT, .inl Pa)), (aS, .inl (cI, nT, .inl Sg)), (aD, .inl (cI, nT, .inl Dp))] [.ref oT, .int x1] (qv dd cls5 [(cB, .byte), (cI, .int), (cL, .long), (cS, .object "java/lang/String")] (fun u_ : Nat × Nat × Nat × Nat × Nat × Nat × Int32 × FN × FN × FN × FN × FN => [(oT, .inr (2, [.ref u_.1, .ref u_.2.1, .ref u_.2.2.1, .ref u_.2.2.2.1, .ref u_.2.2.2.2.1, .int u_.2.2.2.2.2.2.1])), (u_.1, .inl (cI, u_.2.2.2.2.2.1, .inl u_.2.2.2.2.2.2.2.1)), (u_.2.1, .inl (cI, u_.2.2.2.2.2.1, .inl u_.2.2.2.2.2.2.2.2.1)), (u_.2.2.1, .inl (cI, u_.2.2.2.2.2.1, .inl u_.2.2.2.2.2.2.2.2.2.1)), (u_.2.2.2.1, .inl (cI, u_.2.2.2.2.2.1, .inl u_.2.2.2.2.2.2.2.2.2.2.1)), (u_.2.2.2.2.1, .inl (cI, u_.2.2.2.2.2.1, .inl u_.2.2.2.2.2.2.2.2.2.2.2))]) (fun u_ => K_ u_.1 u_.2.1 u_.2.2.1 u_.2.2.2.1 u_.2.2.2.2.1 u_.2.2.2.2.2.1 u_.2.2.2.2.2.2.1 u_.2.2.2.2.2.2.2.1 u_.2.2.2.2.2.2.2.2.1 u_.2.2.2.2.2.2.2.2.2.1 u_.2.2.2.2.2.2.2.2.2.2.1 u_.2.2.2.2.2.2.2.2.2.2.2)) mc_ ms_ := by
  refine m_of (cc := b_T_clear) (nL := 3) (ret := none) (by decide) rfl (Nat.le_of_ble_eq_true rfl) ?_
  intro p e s m below meth c ls A ar Fx_ hA hP hK hD hS hX hl
  obtain ⟨hx, hb, hml, hr, hlocks, hown, hts, hinn⟩ := Fx_
  generalize hQ : MQ below ((qv dd cls5 [(cB, .byte), (cI, .int), (cL, .long), (cS, .object "java/lang/String")] (fun u_ : Nat × Nat × Nat × Nat × Nat × Nat × Int32 × FN × FN × FN × FN × FN => [(oT, .inr (2, [.ref u_.1, .ref u_.2.1, .ref u_.2.2.1, .ref u_.2.2.2.1, .ref u_.2.2.2.2.1, .int u_.2.2.2.2.2.2.1])), (u_.1, .inl (cI, u_.2.2.2.2.2.1, .inl u_.2.2.2.2.2.2.2.1)), (u_.2.1, .inl (cI, u_.2.2.2.2.2.1, .inl u_.2.2.2.2.2.2.2.2.1)), (u_.2.2.1, .inl (cI, u_.2.2.2.2.2.1, .inl u_.2.2.2.2.2.2.2.2.2.1)), (u_.2.2.2.1, .inl (cI, u_.2.2.2.2.2.1, .inl u_.2.2.2.2.2.2.2.2.2.2.1)), (u_.2.2.2.2.1, .inl (cI, u_.2.2.2.2.2.1, .inl u_.2.2.2.2.2.2.2.2.2.2.2))]) (fun u_ => K_ u_.1 u_.2.1 u_.2.2.1 u_.2.2.2.1 u_.2.2.2.2.1 u_.2.2.2.2.2.1 u_.2.2.2.2.2.2.1 u_.2.2.2.2.2.2.2.1 u_.2.2.2.2.2.2.2.2.1 u_.2.2.2.2.2.2.2.2.2.1 u_.2.2.2.2.2.2.2.2.2.2.1 u_.2.2.2.2.2.2.2.2.2.2.2)) A) ar s mc_ ms_ A = QQ
  have hl : lv_has ls 3 [(0, .ref oT), (1, .int x1)] := hl
  unfold vc_T_clear at hv
  refine lv_aload_n hx hb d_T_clear_0 rfl (lv_at hl 0 rfl) ?_
  refine lv_iconst (v := 0) hx hb d_T_clear_1 (by decide) ?_
  refine va_put (D := dd) (ci := 2) (C := Rc_T) (T := Fc_T) (N := 6) (v := .int 0) (ty := .int) hx hb hts (inn in_T) tyf_T tyf_T_ok nmf_T hown hK hP hD hS 0 rfl rfl 5 (by decide) (hts (.fieldLink "NetText$Tree" 27 "NetText$Tree" "count" "I") (tg at_73)) (fun _ h9 => h9) rfl (by decide +kernel) rfl rfl (Nat.le_of_ble_eq_true rfl) d_T_clear_2 (fun H locs hP hD hS => ?_)
  have hP : va_P dd cls5 [(oT, .inr (2, [.ref aK, .ref aF, .ref aP, .ref aS, .ref aD, .int 0])), (aK, .inl (cI, nT, .inl K)), (aF, .inl (cI, nT, .inl F)), (aP, .inl (cI, nT, .inl Pa)), (aS, .inl (cI, nT, .inl Sg)), (aD, .inl (cI, nT, .inl Dp))] H := hP
  have hD : va_D A [(oT, .inr (2, [.ref aK, .ref aF, .ref aP, .ref aS, .ref aD, .int 0])), (aK, .inl (cI, nT, .inl K)), (aF, .inl (cI, nT, .inl F)), (aP, .inl (cI, nT, .inl Pa)), (aS, .inl (cI, nT, .inl Sg)), (aD, .inl (cI, nT, .inl Dp))] := hD
  refine lv_aload_n hx hb d_T_clear_5 rfl (lv_at hl 0 rfl) ?_
  refine va_get (D := dd) (ci := 2) (C := Rc_T) (T := Fc_T) (N := 6) (v := .ref aK) hx hb hts (inn in_T) hown hK hP 0 rfl rfl 0 (by decide) (hts (.fieldLink "NetText$Tree" 9 "NetText$Tree" "kinds" "[I") (tg at_63)) (fun _ h9 => h9) rfl d_T_clear_6 ?_
  refine va_alen (v := nI nT) hx hb hK hP 1 1 rfl rfl rfl d_T_clear_9 ?_
  refine lv_iload_n hx hb d_T_clear_10 rfl (lv_at hl 1 rfl) ?_
  refine lv_icmp_ge (tgt := 61) hx hb d_T_clear_11 (by decide) (fun b_1 => ?_) (fun b_1 => ?_)
  · have hv := hv.1 b_1
    subst hQ
    exact r_v hx hb hr hlocks  (aK, aF, aP, aS, aD, nT, 0, K, F, Pa, Sg, Dp) hv (hP.sub [0, 1, 2, 3, 4, 5] rfl) hK (hD.sub [0, 1, 2, 3, 4, 5] (by decide) rfl) hS (by omega) (by omega) d_T_clear_61
  · have hv := hv.2 b_1
    refine lv_iload_n hx hb d_T_clear_14 rfl (lv_at hl 1 rfl) ?_
    refine lv_iconst (v := 2) hx hb d_T_clear_15 (by decide) ?_
    refine lv_aload_n hx hb d_T_clear_16 rfl (lv_at hl 0 rfl) ?_
    refine va_get (D := dd) (ci := 2) (C := Rc_T) (T := Fc_T) (N := 6) (v := .ref aK) hx hb hts (inn in_T) hown hK hP 0 rfl rfl 0 (by decide) (hts (.fieldLink "NetText$Tree" 9 "NetText$Tree" "kinds" "[I") (tg at_63)) (fun _ h9 => h9) rfl d_T_clear_17 ?_
    refine va_alen (v := nI nT) hx hb hK hP 1 1 rfl rfl rfl d_T_clear_20 ?_
    refine lv_imul hx hb d_T_clear_21 ?_
    refine va_mmax hx hb (hml.trans hl.1.symm) hown (hts (.methodLink "NetText$Tree" 31 ⟨"java/lang/Math", "max", "(II)I"⟩) (tg at_344)) (hts (.static ⟨"java/lang/Math", "max", "(II)I"⟩) (tg at_291)) (hts (.initialized "java/lang/Math") (tg at_11)) (hts (.code ⟨"java/lang/Math", "max", "(II)I"⟩ prog_15_method_65_code 2 (some .int)) (tg at_292)) (Nat.le_of_ble_eq_true rfl) (Nat.le_of_ble_eq_true rfl) (by show 0 ≤ mc_; omega) (by show 0 ≤ ms_; omega) d_T_clear_22 ?_
    refine lv_istore_n (lv' := [(2, .int (if x1 < (2 * (nI nT)) then (2 * (nI nT)) else x1)), (0, .ref oT), (1, .int x1)]) hx hb d_T_clear_25 rfl hl (by decide) rfl (fun ls hl => ?_)
    refine lv_aload_n hx hb d_T_clear_26 rfl (lv_at hl 1 rfl) ?_
    refine lv_iload_n hx hb d_T_clear_27 rfl (lv_at hl 0 rfl) ?_
    obtain ⟨h_3, h_4, h_5, h_6, hv⟩ := hv
    refine n_ai hx hb (hts (.arrayClass .int) (tg at_56)) hK 1 rfl hP hD hS hA h_3 h_4 h_5 h_6 d_T_clear_28 (fun q_2 H hP hD hS => ?_)
    have hv := hv q_2
    have hP : va_P dd cls5 [(oT, .inr (2, [.ref aK, .ref aF, .ref aP, .ref aS, .ref aD, .int 0])), (aK, .inl (cI, nT, .inl K)), (aF, .inl (cI, nT, .inl F)), (aP, .inl (cI, nT, .inl Pa)), (aS, .inl (cI, nT, .inl Sg)), (aD, .inl (cI, nT, .inl Dp)), (q_2, .inl (cI, ((if x1 < (2 * (nI nT)) then (2 * (nI nT)) else x1).toNatClampNeg), .inl (fun _ => 0)))] H := hP
    have hD : va_D A [(oT, .inr (2, [.ref aK, .ref aF, .ref aP, .ref aS, .ref aD, .int 0])), (aK, .inl (cI, nT, .inl K)), (aF, .inl (cI, nT, .inl F)), (aP, .inl (cI, nT, .inl Pa)), (aS, .inl (cI, nT, .inl Sg)), (aD, .inl (cI, nT, .inl Dp)), (q_2, .inl (cI, ((if x1 < (2 * (nI nT)) then (2 * (nI nT)) else x1).toNatClampNeg), .inl (fun _ => 0)))] := hD
    refine va_put (D := dd) (ci := 2) (C := Rc_T) (T := Fc_T) (N := 6) (v := .ref q_2) (ty := (.array .int)) hx hb hts (inn in_T) tyf_T tyf_T_ok nmf_T hown hK hP hD hS 0 rfl rfl 0 (by decide) (hts (.fieldLink "NetText$Tree" 9 "NetText$Tree" "kinds" "[I") (tg at_63)) (fun _ h9 => h9) rfl (by decide +kernel) rfl rfl (Nat.le_of_ble_eq_true rfl) d_T_clear_30 (fun H locs hP hD hS => ?_)
    have hP : va_P dd cls5 [(oT, .inr (2, [.ref q_2, .ref aF, .ref aP, .ref aS, .ref aD, .int 0])), (aK, .inl (cI, nT, .inl K)), (aF, .inl (cI, nT, .inl F)), (aP, .inl (cI, nT, .inl Pa)), (aS, .inl (cI, nT, .inl Sg)), (aD, .inl (cI, nT, .inl Dp)), (q_2, .inl (cI, ((if x1 < (2 * (nI nT)) then (2 * (nI nT)) else x1).toNatClampNeg), .inl (fun _ => 0)))] H := hP
    have hD : va_D A [(oT, .inr (2, [.ref q_2, .ref aF, .ref aP, .ref aS, .ref aD, .int 0])), (aK, .inl (cI, nT, .inl K)), (aF, .inl (cI, nT, .inl F)), (aP, .inl (cI, nT, .inl Pa)), (aS, .inl (cI, nT, .inl Sg)), (aD, .inl (cI, nT, .inl Dp)), (q_2, .inl (cI, ((if x1 < (2 * (nI nT)) then (2 * (nI nT)) else x1).toNatClampNeg), .inl (fun _ => 0)))] := hD
    refine lv_aload_n hx hb d_T_clear_33 rfl (lv_at hl 1 rfl) ?_
    refine lv_iload_n hx hb d_T_clear_34 rfl (lv_at hl 0 rfl) ?_
    obtain ⟨h_8, h_9, h_10, h_11, hv⟩ := hv
    refine n_ai hx hb (hts (.arrayClass .int) (tg at_56)) hK 1 rfl hP hD hS hA h_8 h_9 h_10 h_11 d_T_clear_35 (fun q_7 H hP hD hS => ?_)
    have hv := hv q_7
    have hP : va_P dd cls5 [(oT, .inr (2, [.ref q_2, .ref aF, .ref aP, .ref aS, .ref aD, .int 0])), (aK, .inl (cI, nT, .inl K)), (aF, .inl (cI, nT, .inl F)), (aP, .inl (cI, nT, .inl Pa)), (aS, .inl (cI, nT, .inl Sg)), (aD, .inl (cI, nT, .inl Dp)), (q_2, .inl (cI, ((if x1 < (2 * (nI nT)) then (2 * (nI nT)) else x1).toNatClampNeg), .inl (fun _ => 0))), (q_7, .inl (cI, ((if x1 < (2 * (nI nT)) then (2 * (nI nT)) else x1).toNatClampNeg), .inl (fun _ => 0)))] H := hP
    have hD : va_D A [(oT, .inr (2, [.ref q_2, .ref aF, .ref aP, .ref aS, .ref aD, .int 0])), (aK, .inl (cI, nT, .inl K)), (aF, .inl (cI, nT, .inl F)), (aP, .inl (cI, nT, .inl Pa)), (aS, .inl (cI, nT, .inl Sg)), (aD, .inl (cI, nT, .inl Dp)), (q_2, .inl (cI, ((if x1 < (2 * (nI nT)) then (2 * (nI nT)) else x1).toNatClampNeg), .inl (fun _ => 0))), (q_7, .inl (cI, ((if x1 < (2 * (nI nT)) then (2 * (nI nT)) else x1).toNatClampNeg), .inl (fun _ => 0)))] := hD
    refine va_put (D := dd) (ci := 2) (C := Rc_T) (T := Fc_T) (N := 6) (v := .ref q_7) (ty := (.array .int)) hx hb hts (inn in_T) tyf_T tyf_T_ok nmf_T hown hK hP hD hS 0 rfl rfl 1 (by decide) (hts (.fieldLink "NetText$Tree" 15 "NetText$Tree" "firstWords" "[I") (tg at_65)) (fun _ h9 => h9) rfl (by decide +kernel) rfl rfl (Nat.le_of_ble_eq_true rfl) d_T_clear_37 (fun H locs hP hD hS => ?_)
    have hP : va_P dd cls5 [(oT, .inr (2, [.ref q_2, .ref q_7, .ref aP, .ref aS, .ref aD, .int 0])), (aK, .inl (cI, nT, .inl K)), (aF, .inl (cI, nT, .inl F)), (aP, .inl (cI, nT, .inl Pa)), (aS, .inl (cI, nT, .inl Sg)), (aD, .inl (cI, nT, .inl Dp)), (q_2, .inl (cI, ((if x1 < (2 * (nI nT)) then (2 * (nI nT)) else x1).toNatClampNeg), .inl (fun _ => 0))), (q_7, .inl (cI, ((if x1 < (2 * (nI nT)) then (2 * (nI nT)) else x1).toNatClampNeg), .inl (fun _ => 0)))] H := hP
    have hD : va_D A [(oT, .inr (2, [.ref q_2, .ref q_7, .ref aP, .ref aS, .ref aD, .int 0])), (aK, .inl (cI, nT, .inl K)), (aF, .inl (cI, nT, .inl F)), (aP, .inl (cI, nT, .inl Pa)), (aS, .inl (cI, nT, .inl Sg)), (aD, .inl (cI, nT, .inl Dp)), (q_2, .inl (cI, ((if x1 < (2 * (nI nT)) then (2 * (nI nT)) else x1).toNatClampNeg), .inl (fun _ => 0))), (q_7, .inl (cI, ((if x1 < (2 * (nI nT)) then (2 * (nI nT)) else x1).toNatClampNeg), .inl (fun _ => 0)))] := hD
    refine lv_aload_n hx hb d_T_clear_40 rfl (lv_at hl 1 rfl) ?_
    refine lv_iload_n hx hb d_T_clear_41 rfl (lv_at hl 0 rfl) ?_
    obtain ⟨h_13, h_14, h_15, h_16, hv⟩ := hv
    refine n_ai hx hb (hts (.arrayClass .int) (tg at_56)) hK 1 rfl hP hD hS hA h_13 h_14 h_15 h_16 d_T_clear_42 (fun q_12 H hP hD hS => ?_)
    have hv := hv q_12
    have hP : va_P dd cls5 [(oT, .inr (2, [.ref q_2, .ref q_7, .ref aP, .ref aS, .ref aD, .int 0])), (aK, .inl (cI, nT, .inl K)), (aF, .inl (cI, nT, .inl F)), (aP, .inl (cI, nT, .inl Pa)), (aS, .inl (cI, nT, .inl Sg)), (aD, .inl (cI, nT, .inl Dp)), (q_2, .inl (cI, ((if x1 < (2 * (nI nT)) then (2 * (nI nT)) else x1).toNatClampNeg), .inl (fun _ => 0))), (q_7, .inl (cI, ((if x1 < (2 * (nI nT)) then (2 * (nI nT)) else x1).toNatClampNeg), .inl (fun _ => 0))), (q_12, .inl (cI, ((if x1 < (2 * (nI nT)) then (2 * (nI nT)) else x1).toNatClampNeg), .inl (fun _ => 0)))] H := hP
    have hD : va_D A [(oT, .inr (2, [.ref q_2, .ref q_7, .ref aP, .ref aS, .ref aD, .int 0])), (aK, .inl (cI, nT, .inl K)), (aF, .inl (cI, nT, .inl F)), (aP, .inl (cI, nT, .inl Pa)), (aS, .inl (cI, nT, .inl Sg)), (aD, .inl (cI, nT, .inl Dp)), (q_2, .inl (cI, ((if x1 < (2 * (nI nT)) then (2 * (nI nT)) else x1).toNatClampNeg), .inl (fun _ => 0))), (q_7, .inl (cI, ((if x1 < (2 * (nI nT)) then (2 * (nI nT)) else x1).toNatClampNeg), .inl (fun _ => 0))), (q_12, .inl (cI, ((if x1 < (2 * (nI nT)) then (2 * (nI nT)) else x1).toNatClampNeg), .inl (fun _ => 0)))] := hD
    refine va_put (D := dd) (ci := 2) (C := Rc_T) (T := Fc_T) (N := 6) (v := .ref q_12) (ty := (.array .int)) hx hb hts (inn in_T) tyf_T tyf_T_ok nmf_T hown hK hP hD hS 0 rfl rfl 2 (by decide) (hts (.fieldLink "NetText$Tree" 18 "NetText$Tree" "parents" "[I") (tg at_67)) (fun _ h9 => h9) rfl (by decide +kernel) rfl rfl (Nat.le_of_ble_eq_true rfl) d_T_clear_44 (fun H locs hP hD hS => ?_)
    have hP : va_P dd cls5 [(oT, .inr (2, [.ref q_2, .ref q_7, .ref q_12, .ref aS, .ref aD, .int 0])), (aK, .inl (cI, nT, .inl K)), (aF, .inl (cI, nT, .inl F)), (aP, .inl (cI, nT, .inl Pa)), (aS, .inl (cI, nT, .inl Sg)), (aD, .inl (cI, nT, .inl Dp)), (q_2, .inl (cI, ((if x1 < (2 * (nI nT)) then (2 * (nI nT)) else x1).toNatClampNeg), .inl (fun _ => 0))), (q_7, .inl (cI, ((if x1 < (2 * (nI nT)) then (2 * (nI nT)) else x1).toNatClampNeg), .inl (fun _ => 0))), (q_12, .inl (cI, ((if x1 < (2 * (nI nT)) then (2 * (nI nT)) else x1).toNatClampNeg), .inl (fun _ => 0)))] H := hP
    have hD : va_D A [(oT, .inr (2, [.ref q_2, .ref q_7, .ref q_12, .ref aS, .ref aD, .int 0])), (aK, .inl (cI, nT, .inl K)), (aF, .inl (cI, nT, .inl F)), (aP, .inl (cI, nT, .inl Pa)), (aS, .inl (cI, nT, .inl Sg)), (aD, .inl (cI, nT, .inl Dp)), (q_2, .inl (cI, ((if x1 < (2 * (nI nT)) then (2 * (nI nT)) else x1).toNatClampNeg), .inl (fun _ => 0))), (q_7, .inl (cI, ((if x1 < (2 * (nI nT)) then (2 * (nI nT)) else x1).toNatClampNeg), .inl (fun _ => 0))), (q_12, .inl (cI, ((if x1 < (2 * (nI nT)) then (2 * (nI nT)) else x1).toNatClampNeg), .inl (fun _ => 0)))] := hD
    refine lv_aload_n hx hb d_T_clear_47 rfl (lv_at hl 1 rfl) ?_
    refine lv_iload_n hx hb d_T_clear_48 rfl (lv_at hl 0 rfl) ?_
    obtain ⟨h_18, h_19, h_20, h_21, hv⟩ := hv
    refine n_ai hx hb (hts (.arrayClass .int) (tg at_56)) hK 1 rfl hP hD hS hA h_18 h_19 h_20 h_21 d_T_clear_49 (fun q_17 H hP hD hS => ?_)
    have hv := hv q_17
    have hP : va_P dd cls5 [(oT, .inr (2, [.ref q_2, .ref q_7, .ref q_12, .ref aS, .ref aD, .int 0])), (aK, .inl (cI, nT, .inl K)), (aF, .inl (cI, nT, .inl F)), (aP, .inl (cI, nT, .inl Pa)), (aS, .inl (cI, nT, .inl Sg)), (aD, .inl (cI, nT, .inl Dp)), (q_2, .inl (cI, ((if x1 < (2 * (nI nT)) then (2 * (nI nT)) else x1).toNatClampNeg), .inl (fun _ => 0))), (q_7, .inl (cI, ((if x1 < (2 * (nI nT)) then (2 * (nI nT)) else x1).toNatClampNeg), .inl (fun _ => 0))), (q_12, .inl (cI, ((if x1 < (2 * (nI nT)) then (2 * (nI nT)) else x1).toNatClampNeg), .inl (fun _ => 0))), (q_17, .inl (cI, ((if x1 < (2 * (nI nT)) then (2 * (nI nT)) else x1).toNatClampNeg), .inl (fun _ => 0)))] H := hP
    have hD : va_D A [(oT, .inr (2, [.ref q_2, .ref q_7, .ref q_12, .ref aS, .ref aD, .int 0])), (aK, .inl (cI, nT, .inl K)), (aF, .inl (cI, nT, .inl F)), (aP, .inl (cI, nT, .inl Pa)), (aS, .inl (cI, nT, .inl Sg)), (aD, .inl (cI, nT, .inl Dp)), (q_2, .inl (cI, ((if x1 < (2 * (nI nT)) then (2 * (nI nT)) else x1).toNatClampNeg), .inl (fun _ => 0))), (q_7, .inl (cI, ((if x1 < (2 * (nI nT)) then (2 * (nI nT)) else x1).toNatClampNeg), .inl (fun _ => 0))), (q_12, .inl (cI, ((if x1 < (2 * (nI nT)) then (2 * (nI nT)) else x1).toNatClampNeg), .inl (fun _ => 0))), (q_17, .inl (cI, ((if x1 < (2 * (nI nT)) then (2 * (nI nT)) else x1).toNatClampNeg), .inl (fun _ => 0)))] := hD
    refine va_put (D := dd) (ci := 2) (C := Rc_T) (T := Fc_T) (N := 6) (v := .ref q_17) (ty := (.array .int)) hx hb hts (inn in_T) tyf_T tyf_T_ok nmf_T hown hK hP hD hS 0 rfl rfl 3 (by decide) (hts (.fieldLink "NetText$Tree" 21 "NetText$Tree" "signs" "[I") (tg at_69)) (fun _ h9 => h9) rfl (by decide +kernel) rfl rfl (Nat.le_of_ble_eq_true rfl) d_T_clear_51 (fun H locs hP hD hS => ?_)
    have hP : va_P dd cls5 [(oT, .inr (2, [.ref q_2, .ref q_7, .ref q_12, .ref q_17, .ref aD, .int 0])), (aK, .inl (cI, nT, .inl K)), (aF, .inl (cI, nT, .inl F)), (aP, .inl (cI, nT, .inl Pa)), (aS, .inl (cI, nT, .inl Sg)), (aD, .inl (cI, nT, .inl Dp)), (q_2, .inl (cI, ((if x1 < (2 * (nI nT)) then (2 * (nI nT)) else x1).toNatClampNeg), .inl (fun _ => 0))), (q_7, .inl (cI, ((if x1 < (2 * (nI nT)) then (2 * (nI nT)) else x1).toNatClampNeg), .inl (fun _ => 0))), (q_12, .inl (cI, ((if x1 < (2 * (nI nT)) then (2 * (nI nT)) else x1).toNatClampNeg), .inl (fun _ => 0))), (q_17, .inl (cI, ((if x1 < (2 * (nI nT)) then (2 * (nI nT)) else x1).toNatClampNeg), .inl (fun _ => 0)))] H := hP
    have hD : va_D A [(oT, .inr (2, [.ref q_2, .ref q_7, .ref q_12, .ref q_17, .ref aD, .int 0])), (aK, .inl (cI, nT, .inl K)), (aF, .inl (cI, nT, .inl F)), (aP, .inl (cI, nT, .inl Pa)), (aS, .inl (cI, nT, .inl Sg)), (aD, .inl (cI, nT, .inl Dp)), (q_2, .inl (cI, ((if x1 < (2 * (nI nT)) then (2 * (nI nT)) else x1).toNatClampNeg), .inl (fun _ => 0))), (q_7, .inl (cI, ((if x1 < (2 * (nI nT)) then (2 * (nI nT)) else x1).toNatClampNeg), .inl (fun _ => 0))), (q_12, .inl (cI, ((if x1 < (2 * (nI nT)) then (2 * (nI nT)) else x1).toNatClampNeg), .inl (fun _ => 0))), (q_17, .inl (cI, ((if x1 < (2 * (nI nT)) then (2 * (nI nT)) else x1).toNatClampNeg), .inl (fun _ => 0)))] := hD
    refine lv_aload_n hx hb d_T_clear_54 rfl (lv_at hl 1 rfl) ?_
    refine lv_iload_n hx hb d_T_clear_55 rfl (lv_at hl 0 rfl) ?_
    obtain ⟨h_23, h_24, h_25, h_26, hv⟩ := hv
    refine n_ai hx hb (hts (.arrayClass .int) (tg at_56)) hK 1 rfl hP hD hS hA h_23 h_24 h_25 h_26 d_T_clear_56 (fun q_22 H hP hD hS => ?_)
    have hv := hv q_22
    have hP : va_P dd cls5 [(oT, .inr (2, [.ref q_2, .ref q_7, .ref q_12, .ref q_17, .ref aD, .int 0])), (aK, .inl (cI, nT, .inl K)), (aF, .inl (cI, nT, .inl F)), (aP, .inl (cI, nT, .inl Pa)), (aS, .inl (cI, nT, .inl Sg)), (aD, .inl (cI, nT, .inl Dp)), (q_2, .inl (cI, ((if x1 < (2 * (nI nT)) then (2 * (nI nT)) else x1).toNatClampNeg), .inl (fun _ => 0))), (q_7, .inl (cI, ((if x1 < (2 * (nI nT)) then (2 * (nI nT)) else x1).toNatClampNeg), .inl (fun _ => 0))), (q_12, .inl (cI, ((if x1 < (2 * (nI nT)) then (2 * (nI nT)) else x1).toNatClampNeg), .inl (fun _ => 0))), (q_17, .inl (cI, ((if x1 < (2 * (nI nT)) then (2 * (nI nT)) else x1).toNatClampNeg), .inl (fun _ => 0))), (q_22, .inl (cI, ((if x1 < (2 * (nI nT)) then (2 * (nI nT)) else x1).toNatClampNeg), .inl (fun _ => 0)))] H := hP
    have hD : va_D A [(oT, .inr (2, [.ref q_2, .ref q_7, .ref q_12, .ref q_17, .ref aD, .int 0])), (aK, .inl (cI, nT, .inl K)), (aF, .inl (cI, nT, .inl F)), (aP, .inl (cI, nT, .inl Pa)), (aS, .inl (cI, nT, .inl Sg)), (aD, .inl (cI, nT, .inl Dp)), (q_2, .inl (cI, ((if x1 < (2 * (nI nT)) then (2 * (nI nT)) else x1).toNatClampNeg), .inl (fun _ => 0))), (q_7, .inl (cI, ((if x1 < (2 * (nI nT)) then (2 * (nI nT)) else x1).toNatClampNeg), .inl (fun _ => 0))), (q_12, .inl (cI, ((if x1 < (2 * (nI nT)) then (2 * (nI nT)) else x1).toNatClampNeg), .inl (fun _ => 0))), (q_17, .inl (cI, ((if x1 < (2 * (nI nT)) then (2 * (nI nT)) else x1).toNatClampNeg), .inl (fun _ => 0))), (q_22, .inl (cI, ((if x1 < (2 * (nI nT)) then (2 * (nI nT)) else x1).toNatClampNeg), .inl (fun _ => 0)))] := hD
    refine va_put (D := dd) (ci := 2) (C := Rc_T) (T := Fc_T) (N := 6) (v := .ref q_22) (ty := (.array .int)) hx hb hts (inn in_T) tyf_T tyf_T_ok nmf_T hown hK hP hD hS 0 rfl rfl 4 (by decide) (hts (.fieldLink "NetText$Tree" 24 "NetText$Tree" "depths" "[I") (tg at_71)) (fun _ h9 => h9) rfl (by decide +kernel) rfl rfl (Nat.le_of_ble_eq_true rfl) d_T_clear_58 (fun H locs hP hD hS => ?_)
    have hP : va_P dd cls5 [(oT, .inr (2, [.ref q_2, .ref q_7, .ref q_12, .ref q_17, .ref q_22, .int 0])), (aK, .inl (cI, nT, .inl K)), (aF, .inl (cI, nT, .inl F)), (aP, .inl (cI, nT, .inl Pa)), (aS, .inl (cI, nT, .inl Sg)), (aD, .inl (cI, nT, .inl Dp)), (q_2, .inl (cI, ((if x1 < (2 * (nI nT)) then (2 * (nI nT)) else x1).toNatClampNeg), .inl (fun _ => 0))), (q_7, .inl (cI, ((if x1 < (2 * (nI nT)) then (2 * (nI nT)) else x1).toNatClampNeg), .inl (fun _ => 0))), (q_12, .inl (cI, ((if x1 < (2 * (nI nT)) then (2 * (nI nT)) else x1).toNatClampNeg), .inl (fun _ => 0))), (q_17, .inl (cI, ((if x1 < (2 * (nI nT)) then (2 * (nI nT)) else x1).toNatClampNeg), .inl (fun _ => 0))), (q_22, .inl (cI, ((if x1 < (2 * (nI nT)) then (2 * (nI nT)) else x1).toNatClampNeg), .inl (fun _ => 0)))] H := hP
    have hD : va_D A [(oT, .inr (2, [.ref q_2, .ref q_7, .ref q_12, .ref q_17, .ref q_22, .int 0])), (aK, .inl (cI, nT, .inl K)), (aF, .inl (cI, nT, .inl F)), (aP, .inl (cI, nT, .inl Pa)), (aS, .inl (cI, nT, .inl Sg)), (aD, .inl (cI, nT, .inl Dp)), (q_2, .inl (cI, ((if x1 < (2 * (nI nT)) then (2 * (nI nT)) else x1).toNatClampNeg), .inl (fun _ => 0))), (q_7, .inl (cI, ((if x1 < (2 * (nI nT)) then (2 * (nI nT)) else x1).toNatClampNeg), .inl (fun _ => 0))), (q_12, .inl (cI, ((if x1 < (2 * (nI nT)) then (2 * (nI nT)) else x1).toNatClampNeg), .inl (fun _ => 0))), (q_17, .inl (cI, ((if x1 < (2 * (nI nT)) then (2 * (nI nT)) else x1).toNatClampNeg), .inl (fun _ => 0))), (q_22, .inl (cI, ((if x1 < (2 * (nI nT)) then (2 * (nI nT)) else x1).toNatClampNeg), .inl (fun _ => 0)))] := hD
    subst hQ
    exact r_v hx hb hr hlocks  (q_2, q_7, q_12, q_17, q_22, (if x1 < (2 * (nI nT)) then (2 * (nI nT)) else x1).toNatClampNeg, 0, (fun _ => 0), (fun _ => 0), (fun _ => 0), (fun _ => 0), (fun _ => 0)) hv (hP.sub [0, 6, 7, 8, 9, 10] rfl) hK (hD.sub [0, 6, 7, 8, 9, 10] (by decide) rfl) hS (by omega) (by omega) d_T_clear_61
def vc_W_keep  (mc_ : Nat) (ms_ : Nat) (nX : Nat) (tx : FN) (ln : Int32) (nO : Nat) (so : FN) (sb : FN) (se : FN) (nA : Nat) (tp : FN) (aX : Nat) (aO : Nat) (aB : Nat) (aE : Nat) (x1 : Int32) (K_ : Nat → Nat → Nat → Nat → Nat → FN → Int32 → Nat → FN → FN → FN → Prop) : Prop :=
  ((x1 ≤ (nI nX) → (¬ (0 : Int32) < 0 ∧ ¬ (0 : Int32) < 0 ∧ ¬ x1 < 0 ∧ (0 : Int32).toNatClampNeg + x1.toNatClampNeg ≤ nA ∧ (0 : Int32).toNatClampNeg + x1.toNatClampNeg ≤ nX ∧ (∀ i, i < x1.toNatClampNeg → fits .byte (.int (tp ((0 : Int32).toNatClampNeg + i))) = true) ∧ (K_ aX aO aB aE nX (va_cpy tp tx (0 : Int32).toNatClampNeg (0 : Int32).toNatClampNeg x1.toNatClampNeg) x1 nO so sb se))) ∧ (¬ x1 ≤ (nI nX) → (¬ (nI nA) < 0 ∧ (nI nA).toNatClampNeg * 1 ≤ 536870912 ∧ 0 + 1 ≤ mc_ ∧ 0 + (nI nA).toNatClampNeg ≤ ms_ ∧ ∀ q_8 : Nat, (¬ ((nI nA) + 1) < 0 ∧ ((nI nA) + 1).toNatClampNeg * 4 ≤ 536870912 ∧ 0 + 1 + 1 ≤ mc_ ∧ 0 + (nI nA).toNatClampNeg + ((nI nA) + 1).toNatClampNeg ≤ ms_ ∧ ∀ q_13 : Nat, (¬ ((nI nA) + 1) < 0 ∧ ((nI nA) + 1).toNatClampNeg * 4 ≤ 536870912 ∧ 0 + 1 + 1 + 1 ≤ mc_ ∧ 0 + (nI nA).toNatClampNeg + ((nI nA) + 1).toNatClampNeg + ((nI nA) + 1).toNatClampNeg ≤ ms_ ∧ ∀ q_18 : Nat, (¬ ((nI nA) + 1) < 0 ∧ ((nI nA) + 1).toNatClampNeg * 4 ≤ 536870912 ∧ 0 + 1 + 1 + 1 + 1 ≤ mc_ ∧ 0 + (nI nA).toNatClampNeg + ((nI nA) + 1).toNatClampNeg + ((nI nA) + 1).toNatClampNeg + ((nI nA) + 1).toNatClampNeg ≤ ms_ ∧ ∀ q_23 : Nat, (¬ (0 : Int32) < 0 ∧ ¬ (0 : Int32) < 0 ∧ ¬ x1 < 0 ∧ (0 : Int32).toNatClampNeg + x1.toNatClampNeg ≤ nA ∧ (0 : Int32).toNatClampNeg + x1.toNatClampNeg ≤ ((nI nA).toNatClampNeg) ∧ (∀ i, i < x1.toNatClampNeg → fits .byte (.int (tp ((0 : Int32).toNatClampNeg + i))) = true) ∧ (K_ q_8 q_13 q_18 q_23 ((nI nA).toNatClampNeg) (va_cpy tp (fun _ => 0) (0 : Int32).toNatClampNeg (0 : Int32).toNatClampNeg x1.toNatClampNeg) x1 (((nI nA) + 1).toNatClampNeg) (fun _ => 0) (fun _ => 0) (fun _ => 0)))))))))
set_option maxHeartbeats 4000000 in
set_option maxRecDepth 100000 in
theorem met_W_keep {l : Launch} {dd : va_G} {cB cI cL cS : ClassId}  {oW : Nat} {aT : Nat}  {mc_ : Nat} {ms_ : Nat} {nX : Nat} {tx : FN} {ln : Int32} {nO : Nat} {so : FN} {sb : FN} {se : FN} {nA : Nat} {tp : FN} {aX : Nat} {aO : Nat} {aB : Nat} {aE : Nat} {wc : Int32} {x1 : Int32} {K_ : Nat → Nat → Nat → Nat → Nat → FN → Int32 → Nat → FN → FN → FN → Prop}  (hv : vc_W_keep  mc_ ms_ nX tx ln nO so sb se nA tp aX aO aB aE x1 K_) : Ct l y_W_keep w_W_keep (rmk 1 mc_ ms_) dd cls5 [(cB, .byte), (cI, .int), (cL, .long), (cS, .object "java/lang/String")] X0 [(oW, .inr (1, [.ref aX, .int ln, .ref aO, .ref aB, .ref aE, .int wc])), (aX, .inl (cB, nX, .inl tx)), (aO, .inl (cI, nO, .inl so)), (aB, .inl (cI, nO, .inl sb)), (aE, .inl (cI, nO, .inl se)), (aT, .inl (cB, nA, .inl tp))] [.ref oW, .ref aT, .int x1] (qv dd cls5 [(cB, .byte), (cI, .int), (cL, .long), (cS, .object "java/lang/String")] (fun u_ : Nat × Nat × Nat × Nat × Nat × FN × Int32 × Nat × FN × FN × FN => [(oW, .inr (1, [.ref u_.1, .int u_.2.2.2.2.2.2.1, .ref u_.2.1, .ref u_.2.2.1, .ref u_.2.2.2.1, .int wc])), (u_.1, .inl (cB, u_.2.2.2.2.1, .inl u_.2.2.2.2.2.1)), (u_.2.1, .inl (cI, u_.2.2.2.2.2.2.2.1, .inl u_.2.2.2.2.2.2.2.2.1)), (u_.2.2.1, .inl (cI, u_.2.2.2.2.2.2.2.1, .inl u_.2.2.2.2.2.2.2.2.2.1)), (u_.2.2.2.1, .inl (cI, u_.2.2.2.2.2.2.2.1, .inl u_.2.2.2.2.2.2.2.2.2.2)), (aT, .inl (cB, nA, .inl tp))]) (fun u_ => K_ u_.1 u_.2.1 u_.2.2.1 u_.2.2.2.1 u_.2.2.2.2.1 u_.2.2.2.2.2.1 u_.2.2.2.2.2.2.1 u_.2.2.2.2.2.2.2.1 u_.2.2.2.2.2.2.2.2.1 u_.2.2.2.2.2.2.2.2.2.1 u_.2.2.2.2.2.2.2.2.2.2)) mc_ ms_ := by
  refine m_of (cc := b_W_keep) (nL := 4) (ret := none) (by decide) rfl (Nat.le_of_ble_eq_true rfl) ?_
  intro p e s m below meth c ls A ar Fx_ hA hP hK hD hS hX hl
  obtain ⟨hx, hb, hml, hr, hlocks, hown, hts, hinn⟩ := Fx_
  generalize hQ : MQ below ((qv dd cls5 [(cB, .byte), (cI, .int), (cL, .long), (cS, .object "java/lang/String")] (fun u_ : Nat × Nat × Nat × Nat × Nat × FN × Int32 × Nat × FN × FN × FN => [(oW, .inr (1, [.ref u_.1, .int u_.2.2.2.2.2.2.1, .ref u_.2.1, .ref u_.2.2.1, .ref u_.2.2.2.1, .int wc])), (u_.1, .inl (cB, u_.2.2.2.2.1, .inl u_.2.2.2.2.2.1)), (u_.2.1, .inl (cI, u_.2.2.2.2.2.2.2.1, .inl u_.2.2.2.2.2.2.2.2.1)), (u_.2.2.1, .inl (cI, u_.2.2.2.2.2.2.2.1, .inl u_.2.2.2.2.2.2.2.2.2.1)), (u_.2.2.2.1, .inl (cI, u_.2.2.2.2.2.2.2.1, .inl u_.2.2.2.2.2.2.2.2.2.2)), (aT, .inl (cB, nA, .inl tp))]) (fun u_ => K_ u_.1 u_.2.1 u_.2.2.1 u_.2.2.2.1 u_.2.2.2.2.1 u_.2.2.2.2.2.1 u_.2.2.2.2.2.2.1 u_.2.2.2.2.2.2.2.1 u_.2.2.2.2.2.2.2.2.1 u_.2.2.2.2.2.2.2.2.2.1 u_.2.2.2.2.2.2.2.2.2.2)) A) ar s mc_ ms_ A = QQ
  have hl : lv_has ls 4 [(0, .ref oW), (1, .ref aT), (2, .int x1)] := hl
  unfold vc_W_keep at hv
  refine lv_aload_n hx hb d_W_keep_0 rfl (lv_at hl 0 rfl) ?_
  refine va_get (D := dd) (ci := 1) (C := Rc_W) (T := Fc_W) (N := 6) (v := .ref aX) hx hb hts (inn in_W) hown hK hP 0 rfl rfl 0 (by decide) (hts (.fieldLink "NetText$Words" 9 "NetText$Words" "text" "[B") (tg at_34)) (fun _ h9 => h9) rfl d_W_keep_1 ?_
  refine va_alen (v := nI nX) hx hb hK hP 1 0 rfl rfl rfl d_W_keep_4 ?_
  refine lv_iload_n hx hb d_W_keep_5 rfl (lv_at hl 2 rfl) ?_
  refine lv_icmp_ge (tgt := 46) hx hb d_W_keep_6 (by decide) (fun b_1 => ?_) (fun b_1 => ?_)
  · have hv := hv.1 b_1
    refine lv_aload_n hx hb d_W_keep_46 rfl (lv_at hl 1 rfl) ?_
    refine lv_iconst (v := 0) hx hb d_W_keep_47 (by decide) ?_
    refine lv_aload_n hx hb d_W_keep_48 rfl (lv_at hl 0 rfl) ?_
    refine va_get (D := dd) (ci := 1) (C := Rc_W) (T := Fc_W) (N := 6) (v := .ref aX) hx hb hts (inn in_W) hown hK hP 0 rfl rfl 0 (by decide) (hts (.fieldLink "NetText$Words" 9 "NetText$Words" "text" "[B") (tg at_34)) (fun _ h9 => h9) rfl d_W_keep_49 ?_
    refine lv_iconst (v := 0) hx hb d_W_keep_52 (by decide) ?_
    refine lv_iload_n hx hb d_W_keep_53 rfl (lv_at hl 2 rfl) ?_
    obtain ⟨h_2, h_3, h_4, h_5, h_6, h_7, hv⟩ := hv
    refine va_copyi hx hb (hml.trans hl.1.symm) hown (hts (.methodLink "NetText$Words" 53 ⟨"java/lang/System", "arraycopy", "(Ljava/lang/Object;ILjava/lang/Object;II)V"⟩) (tg at_142)) (hts (.native ⟨"java/lang/System", "arraycopy", "(Ljava/lang/Object;ILjava/lang/Object;II)V"⟩) (tg at_144)) (hts (.static ⟨"java/lang/System", "arraycopy", "(Ljava/lang/Object;ILjava/lang/Object;II)V"⟩) (tg at_143)) (hts (.initialized "java/lang/System") (tg at_12)) hK hP hD hS 5 1 0 0 rfl rfl rfl rfl rfl h_2 h_3 h_4 h_5 h_6 h_7 (Nat.le_of_ble_eq_true rfl) (Nat.le_of_ble_eq_true rfl) d_W_keep_54 (fun H locs hP hD hS => ?_)
    have hP : va_P dd cls5 [(oW, .inr (1, [.ref aX, .int ln, .ref aO, .ref aB, .ref aE, .int wc])), (aX, .inl (cB, nX, .inl (va_cpy tp tx (0 : Int32).toNatClampNeg (0 : Int32).toNatClampNeg x1.toNatClampNeg))), (aO, .inl (cI, nO, .inl so)), (aB, .inl (cI, nO, .inl sb)), (aE, .inl (cI, nO, .inl se)), (aT, .inl (cB, nA, .inl tp))] H := hP
    have hD : va_D A [(oW, .inr (1, [.ref aX, .int ln, .ref aO, .ref aB, .ref aE, .int wc])), (aX, .inl (cB, nX, .inl (va_cpy tp tx (0 : Int32).toNatClampNeg (0 : Int32).toNatClampNeg x1.toNatClampNeg))), (aO, .inl (cI, nO, .inl so)), (aB, .inl (cI, nO, .inl sb)), (aE, .inl (cI, nO, .inl se)), (aT, .inl (cB, nA, .inl tp))] := hD
    refine lv_aload_n hx hb d_W_keep_57 rfl (lv_at hl 0 rfl) ?_
    refine lv_iload_n hx hb d_W_keep_58 rfl (lv_at hl 2 rfl) ?_
    refine va_put (D := dd) (ci := 1) (C := Rc_W) (T := Fc_W) (N := 6) (v := .int x1) (ty := .int) hx hb hts (inn in_W) tyf_W tyf_W_ok nmf_W hown hK hP hD hS 0 rfl rfl 1 (by decide) (hts (.fieldLink "NetText$Words" 15 "NetText$Words" "length" "I") (tg at_35)) (fun _ h9 => h9) rfl (by decide +kernel) rfl rfl (Nat.le_of_ble_eq_true rfl) d_W_keep_59 (fun H locs hP hD hS => ?_)
    have hP : va_P dd cls5 [(oW, .inr (1, [.ref aX, .int x1, .ref aO, .ref aB, .ref aE, .int wc])), (aX, .inl (cB, nX, .inl (va_cpy tp tx (0 : Int32).toNatClampNeg (0 : Int32).toNatClampNeg x1.toNatClampNeg))), (aO, .inl (cI, nO, .inl so)), (aB, .inl (cI, nO, .inl sb)), (aE, .inl (cI, nO, .inl se)), (aT, .inl (cB, nA, .inl tp))] H := hP
    have hD : va_D A [(oW, .inr (1, [.ref aX, .int x1, .ref aO, .ref aB, .ref aE, .int wc])), (aX, .inl (cB, nX, .inl (va_cpy tp tx (0 : Int32).toNatClampNeg (0 : Int32).toNatClampNeg x1.toNatClampNeg))), (aO, .inl (cI, nO, .inl so)), (aB, .inl (cI, nO, .inl sb)), (aE, .inl (cI, nO, .inl se)), (aT, .inl (cB, nA, .inl tp))] := hD
    subst hQ
    exact r_v hx hb hr hlocks  (aX, aO, aB, aE, nX, (va_cpy tp tx (0 : Int32).toNatClampNeg (0 : Int32).toNatClampNeg x1.toNatClampNeg), x1, nO, so, sb, se) hv (hP.sub [0, 1, 2, 3, 4, 5] rfl) hK (hD.sub [0, 1, 2, 3, 4, 5] (by decide) rfl) hS (by omega) (by omega) d_W_keep_62
  · have hv := hv.2 b_1
    refine lv_aload_n hx hb d_W_keep_9 rfl (lv_at hl 1 rfl) ?_
    refine va_alen (v := nI nA) hx hb hK hP 5 0 rfl rfl rfl d_W_keep_10 ?_
    refine lv_istore_n (lv' := [(3, .int (nI nA)), (0, .ref oW), (1, .ref aT), (2, .int x1)]) hx hb d_W_keep_11 rfl hl (by decide) rfl (fun ls hl => ?_)
    refine lv_aload_n hx hb d_W_keep_12 rfl (lv_at hl 1 rfl) ?_
    refine lv_iload_n hx hb d_W_keep_13 rfl (lv_at hl 0 rfl) ?_
    obtain ⟨h_9, h_10, h_11, h_12, hv⟩ := hv
    refine n_ab hx hb (hts (.arrayClass .byte) (tg at_55)) hK 0 rfl hP hD hS hA h_9 h_10 h_11 h_12 d_W_keep_14 (fun q_8 H hP hD hS => ?_)
    have hv := hv q_8
    have hP : va_P dd cls5 [(oW, .inr (1, [.ref aX, .int ln, .ref aO, .ref aB, .ref aE, .int wc])), (aX, .inl (cB, nX, .inl tx)), (aO, .inl (cI, nO, .inl so)), (aB, .inl (cI, nO, .inl sb)), (aE, .inl (cI, nO, .inl se)), (aT, .inl (cB, nA, .inl tp)), (q_8, .inl (cB, ((nI nA).toNatClampNeg), .inl (fun _ => 0)))] H := hP
    have hD : va_D A [(oW, .inr (1, [.ref aX, .int ln, .ref aO, .ref aB, .ref aE, .int wc])), (aX, .inl (cB, nX, .inl tx)), (aO, .inl (cI, nO, .inl so)), (aB, .inl (cI, nO, .inl sb)), (aE, .inl (cI, nO, .inl se)), (aT, .inl (cB, nA, .inl tp)), (q_8, .inl (cB, ((nI nA).toNatClampNeg), .inl (fun _ => 0)))] := hD
    refine va_put (D := dd) (ci := 1) (C := Rc_W) (T := Fc_W) (N := 6) (v := .ref q_8) (ty := (.array .byte)) hx hb hts (inn in_W) tyf_W tyf_W_ok nmf_W hown hK hP hD hS 0 rfl rfl 0 (by decide) (hts (.fieldLink "NetText$Words" 9 "NetText$Words" "text" "[B") (tg at_34)) (fun _ h9 => h9) rfl (by decide +kernel) rfl rfl (Nat.le_of_ble_eq_true rfl) d_W_keep_16 (fun H locs hP hD hS => ?_)
    have hP : va_P dd cls5 [(oW, .inr (1, [.ref q_8, .int ln, .ref aO, .ref aB, .ref aE, .int wc])), (aX, .inl (cB, nX, .inl tx)), (aO, .inl (cI, nO, .inl so)), (aB, .inl (cI, nO, .inl sb)), (aE, .inl (cI, nO, .inl se)), (aT, .inl (cB, nA, .inl tp)), (q_8, .inl (cB, ((nI nA).toNatClampNeg), .inl (fun _ => 0)))] H := hP
    have hD : va_D A [(oW, .inr (1, [.ref q_8, .int ln, .ref aO, .ref aB, .ref aE, .int wc])), (aX, .inl (cB, nX, .inl tx)), (aO, .inl (cI, nO, .inl so)), (aB, .inl (cI, nO, .inl sb)), (aE, .inl (cI, nO, .inl se)), (aT, .inl (cB, nA, .inl tp)), (q_8, .inl (cB, ((nI nA).toNatClampNeg), .inl (fun _ => 0)))] := hD
    refine lv_aload_n hx hb d_W_keep_19 rfl (lv_at hl 1 rfl) ?_
    refine lv_iload_n hx hb d_W_keep_20 rfl (lv_at hl 0 rfl) ?_
    refine lv_iconst (v := 1) hx hb d_W_keep_21 (by decide) ?_
    refine lv_iadd hx hb d_W_keep_22 ?_
    obtain ⟨h_14, h_15, h_16, h_17, hv⟩ := hv
    refine n_ai hx hb (hts (.arrayClass .int) (tg at_56)) hK 1 rfl hP hD hS hA h_14 h_15 h_16 h_17 d_W_keep_23 (fun q_13 H hP hD hS => ?_)
    have hv := hv q_13
    have hP : va_P dd cls5 [(oW, .inr (1, [.ref q_8, .int ln, .ref aO, .ref aB, .ref aE, .int wc])), (aX, .inl (cB, nX, .inl tx)), (aO, .inl (cI, nO, .inl so)), (aB, .inl (cI, nO, .inl sb)), (aE, .inl (cI, nO, .inl se)), (aT, .inl (cB, nA, .inl tp)), (q_8, .inl (cB, ((nI nA).toNatClampNeg), .inl (fun _ => 0))), (q_13, .inl (cI, (((nI nA) + 1).toNatClampNeg), .inl (fun _ => 0)))] H := hP
    have hD : va_D A [(oW, .inr (1, [.ref q_8, .int ln, .ref aO, .ref aB, .ref aE, .int wc])), (aX, .inl (cB, nX, .inl tx)), (aO, .inl (cI, nO, .inl so)), (aB, .inl (cI, nO, .inl sb)), (aE, .inl (cI, nO, .inl se)), (aT, .inl (cB, nA, .inl tp)), (q_8, .inl (cB, ((nI nA).toNatClampNeg), .inl (fun _ => 0))), (q_13, .inl (cI, (((nI nA) + 1).toNatClampNeg), .inl (fun _ => 0)))] := hD
    refine va_put (D := dd) (ci := 1) (C := Rc_W) (T := Fc_W) (N := 6) (v := .ref q_13) (ty := (.array .int)) hx hb hts (inn in_W) tyf_W tyf_W_ok nmf_W hown hK hP hD hS 0 rfl rfl 2 (by decide) (hts (.fieldLink "NetText$Words" 19 "NetText$Words" "sorts" "[I") (tg at_36)) (fun _ h9 => h9) rfl (by decide +kernel) rfl rfl (Nat.le_of_ble_eq_true rfl) d_W_keep_25 (fun H locs hP hD hS => ?_)
    have hP : va_P dd cls5 [(oW, .inr (1, [.ref q_8, .int ln, .ref q_13, .ref aB, .ref aE, .int wc])), (aX, .inl (cB, nX, .inl tx)), (aO, .inl (cI, nO, .inl so)), (aB, .inl (cI, nO, .inl sb)), (aE, .inl (cI, nO, .inl se)), (aT, .inl (cB, nA, .inl tp)), (q_8, .inl (cB, ((nI nA).toNatClampNeg), .inl (fun _ => 0))), (q_13, .inl (cI, (((nI nA) + 1).toNatClampNeg), .inl (fun _ => 0)))] H := hP
    have hD : va_D A [(oW, .inr (1, [.ref q_8, .int ln, .ref q_13, .ref aB, .ref aE, .int wc])), (aX, .inl (cB, nX, .inl tx)), (aO, .inl (cI, nO, .inl so)), (aB, .inl (cI, nO, .inl sb)), (aE, .inl (cI, nO, .inl se)), (aT, .inl (cB, nA, .inl tp)), (q_8, .inl (cB, ((nI nA).toNatClampNeg), .inl (fun _ => 0))), (q_13, .inl (cI, (((nI nA) + 1).toNatClampNeg), .inl (fun _ => 0)))] := hD
    refine lv_aload_n hx hb d_W_keep_28 rfl (lv_at hl 1 rfl) ?_
    refine lv_iload_n hx hb d_W_keep_29 rfl (lv_at hl 0 rfl) ?_
    refine lv_iconst (v := 1) hx hb d_W_keep_30 (by decide) ?_
    refine lv_iadd hx hb d_W_keep_31 ?_
    obtain ⟨h_19, h_20, h_21, h_22, hv⟩ := hv
    refine n_ai hx hb (hts (.arrayClass .int) (tg at_56)) hK 1 rfl hP hD hS hA h_19 h_20 h_21 h_22 d_W_keep_32 (fun q_18 H hP hD hS => ?_)
    have hv := hv q_18
    have hP : va_P dd cls5 [(oW, .inr (1, [.ref q_8, .int ln, .ref q_13, .ref aB, .ref aE, .int wc])), (aX, .inl (cB, nX, .inl tx)), (aO, .inl (cI, nO, .inl so)), (aB, .inl (cI, nO, .inl sb)), (aE, .inl (cI, nO, .inl se)), (aT, .inl (cB, nA, .inl tp)), (q_8, .inl (cB, ((nI nA).toNatClampNeg), .inl (fun _ => 0))), (q_13, .inl (cI, (((nI nA) + 1).toNatClampNeg), .inl (fun _ => 0))), (q_18, .inl (cI, (((nI nA) + 1).toNatClampNeg), .inl (fun _ => 0)))] H := hP
    have hD : va_D A [(oW, .inr (1, [.ref q_8, .int ln, .ref q_13, .ref aB, .ref aE, .int wc])), (aX, .inl (cB, nX, .inl tx)), (aO, .inl (cI, nO, .inl so)), (aB, .inl (cI, nO, .inl sb)), (aE, .inl (cI, nO, .inl se)), (aT, .inl (cB, nA, .inl tp)), (q_8, .inl (cB, ((nI nA).toNatClampNeg), .inl (fun _ => 0))), (q_13, .inl (cI, (((nI nA) + 1).toNatClampNeg), .inl (fun _ => 0))), (q_18, .inl (cI, (((nI nA) + 1).toNatClampNeg), .inl (fun _ => 0)))] := hD
    refine va_put (D := dd) (ci := 1) (C := Rc_W) (T := Fc_W) (N := 6) (v := .ref q_18) (ty := (.array .int)) hx hb hts (inn in_W) tyf_W tyf_W_ok nmf_W hown hK hP hD hS 0 rfl rfl 3 (by decide) (hts (.fieldLink "NetText$Words" 23 "NetText$Words" "starts" "[I") (tg at_38)) (fun _ h9 => h9) rfl (by decide +kernel) rfl rfl (Nat.le_of_ble_eq_true rfl) d_W_keep_34 (fun H locs hP hD hS => ?_)
    have hP : va_P dd cls5 [(oW, .inr (1, [.ref q_8, .int ln, .ref q_13, .ref q_18, .ref aE, .int wc])), (aX, .inl (cB, nX, .inl tx)), (aO, .inl (cI, nO, .inl so)), (aB, .inl (cI, nO, .inl sb)), (aE, .inl (cI, nO, .inl se)), (aT, .inl (cB, nA, .inl tp)), (q_8, .inl (cB, ((nI nA).toNatClampNeg), .inl (fun _ => 0))), (q_13, .inl (cI, (((nI nA) + 1).toNatClampNeg), .inl (fun _ => 0))), (q_18, .inl (cI, (((nI nA) + 1).toNatClampNeg), .inl (fun _ => 0)))] H := hP
    have hD : va_D A [(oW, .inr (1, [.ref q_8, .int ln, .ref q_13, .ref q_18, .ref aE, .int wc])), (aX, .inl (cB, nX, .inl tx)), (aO, .inl (cI, nO, .inl so)), (aB, .inl (cI, nO, .inl sb)), (aE, .inl (cI, nO, .inl se)), (aT, .inl (cB, nA, .inl tp)), (q_8, .inl (cB, ((nI nA).toNatClampNeg), .inl (fun _ => 0))), (q_13, .inl (cI, (((nI nA) + 1).toNatClampNeg), .inl (fun _ => 0))), (q_18, .inl (cI, (((nI nA) + 1).toNatClampNeg), .inl (fun _ => 0)))] := hD
    refine lv_aload_n hx hb d_W_keep_37 rfl (lv_at hl 1 rfl) ?_
    refine lv_iload_n hx hb d_W_keep_38 rfl (lv_at hl 0 rfl) ?_
    refine lv_iconst (v := 1) hx hb d_W_keep_39 (by decide) ?_
    refine lv_iadd hx hb d_W_keep_40 ?_
    obtain ⟨h_24, h_25, h_26, h_27, hv⟩ := hv
    refine n_ai hx hb (hts (.arrayClass .int) (tg at_56)) hK 1 rfl hP hD hS hA h_24 h_25 h_26 h_27 d_W_keep_41 (fun q_23 H hP hD hS => ?_)
    have hv := hv q_23
    have hP : va_P dd cls5 [(oW, .inr (1, [.ref q_8, .int ln, .ref q_13, .ref q_18, .ref aE, .int wc])), (aX, .inl (cB, nX, .inl tx)), (aO, .inl (cI, nO, .inl so)), (aB, .inl (cI, nO, .inl sb)), (aE, .inl (cI, nO, .inl se)), (aT, .inl (cB, nA, .inl tp)), (q_8, .inl (cB, ((nI nA).toNatClampNeg), .inl (fun _ => 0))), (q_13, .inl (cI, (((nI nA) + 1).toNatClampNeg), .inl (fun _ => 0))), (q_18, .inl (cI, (((nI nA) + 1).toNatClampNeg), .inl (fun _ => 0))), (q_23, .inl (cI, (((nI nA) + 1).toNatClampNeg), .inl (fun _ => 0)))] H := hP
    have hD : va_D A [(oW, .inr (1, [.ref q_8, .int ln, .ref q_13, .ref q_18, .ref aE, .int wc])), (aX, .inl (cB, nX, .inl tx)), (aO, .inl (cI, nO, .inl so)), (aB, .inl (cI, nO, .inl sb)), (aE, .inl (cI, nO, .inl se)), (aT, .inl (cB, nA, .inl tp)), (q_8, .inl (cB, ((nI nA).toNatClampNeg), .inl (fun _ => 0))), (q_13, .inl (cI, (((nI nA) + 1).toNatClampNeg), .inl (fun _ => 0))), (q_18, .inl (cI, (((nI nA) + 1).toNatClampNeg), .inl (fun _ => 0))), (q_23, .inl (cI, (((nI nA) + 1).toNatClampNeg), .inl (fun _ => 0)))] := hD
    refine va_put (D := dd) (ci := 1) (C := Rc_W) (T := Fc_W) (N := 6) (v := .ref q_23) (ty := (.array .int)) hx hb hts (inn in_W) tyf_W tyf_W_ok nmf_W hown hK hP hD hS 0 rfl rfl 4 (by decide) (hts (.fieldLink "NetText$Words" 26 "NetText$Words" "ends" "[I") (tg at_39)) (fun _ h9 => h9) rfl (by decide +kernel) rfl rfl (Nat.le_of_ble_eq_true rfl) d_W_keep_43 (fun H locs hP hD hS => ?_)
    have hP : va_P dd cls5 [(oW, .inr (1, [.ref q_8, .int ln, .ref q_13, .ref q_18, .ref q_23, .int wc])), (aX, .inl (cB, nX, .inl tx)), (aO, .inl (cI, nO, .inl so)), (aB, .inl (cI, nO, .inl sb)), (aE, .inl (cI, nO, .inl se)), (aT, .inl (cB, nA, .inl tp)), (q_8, .inl (cB, ((nI nA).toNatClampNeg), .inl (fun _ => 0))), (q_13, .inl (cI, (((nI nA) + 1).toNatClampNeg), .inl (fun _ => 0))), (q_18, .inl (cI, (((nI nA) + 1).toNatClampNeg), .inl (fun _ => 0))), (q_23, .inl (cI, (((nI nA) + 1).toNatClampNeg), .inl (fun _ => 0)))] H := hP
    have hD : va_D A [(oW, .inr (1, [.ref q_8, .int ln, .ref q_13, .ref q_18, .ref q_23, .int wc])), (aX, .inl (cB, nX, .inl tx)), (aO, .inl (cI, nO, .inl so)), (aB, .inl (cI, nO, .inl sb)), (aE, .inl (cI, nO, .inl se)), (aT, .inl (cB, nA, .inl tp)), (q_8, .inl (cB, ((nI nA).toNatClampNeg), .inl (fun _ => 0))), (q_13, .inl (cI, (((nI nA) + 1).toNatClampNeg), .inl (fun _ => 0))), (q_18, .inl (cI, (((nI nA) + 1).toNatClampNeg), .inl (fun _ => 0))), (q_23, .inl (cI, (((nI nA) + 1).toNatClampNeg), .inl (fun _ => 0)))] := hD
    refine lv_aload_n hx hb d_W_keep_46 rfl (lv_at hl 2 rfl) ?_
    refine lv_iconst (v := 0) hx hb d_W_keep_47 (by decide) ?_
    refine lv_aload_n hx hb d_W_keep_48 rfl (lv_at hl 1 rfl) ?_
    refine va_get (D := dd) (ci := 1) (C := Rc_W) (T := Fc_W) (N := 6) (v := .ref q_8) hx hb hts (inn in_W) hown hK hP 0 rfl rfl 0 (by decide) (hts (.fieldLink "NetText$Words" 9 "NetText$Words" "text" "[B") (tg at_34)) (fun _ h9 => h9) rfl d_W_keep_49 ?_
    refine lv_iconst (v := 0) hx hb d_W_keep_52 (by decide) ?_
    refine lv_iload_n hx hb d_W_keep_53 rfl (lv_at hl 3 rfl) ?_
    obtain ⟨h_28, h_29, h_30, h_31, h_32, h_33, hv⟩ := hv
    refine va_copyi hx hb (hml.trans hl.1.symm) hown (hts (.methodLink "NetText$Words" 53 ⟨"java/lang/System", "arraycopy", "(Ljava/lang/Object;ILjava/lang/Object;II)V"⟩) (tg at_142)) (hts (.native ⟨"java/lang/System", "arraycopy", "(Ljava/lang/Object;ILjava/lang/Object;II)V"⟩) (tg at_144)) (hts (.static ⟨"java/lang/System", "arraycopy", "(Ljava/lang/Object;ILjava/lang/Object;II)V"⟩) (tg at_143)) (hts (.initialized "java/lang/System") (tg at_12)) hK hP hD hS 5 6 0 0 rfl rfl rfl rfl rfl h_28 h_29 h_30 h_31 h_32 h_33 (Nat.le_of_ble_eq_true rfl) (Nat.le_of_ble_eq_true rfl) d_W_keep_54 (fun H locs hP hD hS => ?_)
    have hP : va_P dd cls5 [(oW, .inr (1, [.ref q_8, .int ln, .ref q_13, .ref q_18, .ref q_23, .int wc])), (aX, .inl (cB, nX, .inl tx)), (aO, .inl (cI, nO, .inl so)), (aB, .inl (cI, nO, .inl sb)), (aE, .inl (cI, nO, .inl se)), (aT, .inl (cB, nA, .inl tp)), (q_8, .inl (cB, ((nI nA).toNatClampNeg), .inl (va_cpy tp (fun _ => 0) (0 : Int32).toNatClampNeg (0 : Int32).toNatClampNeg x1.toNatClampNeg))), (q_13, .inl (cI, (((nI nA) + 1).toNatClampNeg), .inl (fun _ => 0))), (q_18, .inl (cI, (((nI nA) + 1).toNatClampNeg), .inl (fun _ => 0))), (q_23, .inl (cI, (((nI nA) + 1).toNatClampNeg), .inl (fun _ => 0)))] H := hP
    have hD : va_D A [(oW, .inr (1, [.ref q_8, .int ln, .ref q_13, .ref q_18, .ref q_23, .int wc])), (aX, .inl (cB, nX, .inl tx)), (aO, .inl (cI, nO, .inl so)), (aB, .inl (cI, nO, .inl sb)), (aE, .inl (cI, nO, .inl se)), (aT, .inl (cB, nA, .inl tp)), (q_8, .inl (cB, ((nI nA).toNatClampNeg), .inl (va_cpy tp (fun _ => 0) (0 : Int32).toNatClampNeg (0 : Int32).toNatClampNeg x1.toNatClampNeg))), (q_13, .inl (cI, (((nI nA) + 1).toNatClampNeg), .inl (fun _ => 0))), (q_18, .inl (cI, (((nI nA) + 1).toNatClampNeg), .inl (fun _ => 0))), (q_23, .inl (cI, (((nI nA) + 1).toNatClampNeg), .inl (fun _ => 0)))] := hD
    refine lv_aload_n hx hb d_W_keep_57 rfl (lv_at hl 1 rfl) ?_
    refine lv_iload_n hx hb d_W_keep_58 rfl (lv_at hl 3 rfl) ?_
    refine va_put (D := dd) (ci := 1) (C := Rc_W) (T := Fc_W) (N := 6) (v := .int x1) (ty := .int) hx hb hts (inn in_W) tyf_W tyf_W_ok nmf_W hown hK hP hD hS 0 rfl rfl 1 (by decide) (hts (.fieldLink "NetText$Words" 15 "NetText$Words" "length" "I") (tg at_35)) (fun _ h9 => h9) rfl (by decide +kernel) rfl rfl (Nat.le_of_ble_eq_true rfl) d_W_keep_59 (fun H locs hP hD hS => ?_)
    have hP : va_P dd cls5 [(oW, .inr (1, [.ref q_8, .int x1, .ref q_13, .ref q_18, .ref q_23, .int wc])), (aX, .inl (cB, nX, .inl tx)), (aO, .inl (cI, nO, .inl so)), (aB, .inl (cI, nO, .inl sb)), (aE, .inl (cI, nO, .inl se)), (aT, .inl (cB, nA, .inl tp)), (q_8, .inl (cB, ((nI nA).toNatClampNeg), .inl (va_cpy tp (fun _ => 0) (0 : Int32).toNatClampNeg (0 : Int32).toNatClampNeg x1.toNatClampNeg))), (q_13, .inl (cI, (((nI nA) + 1).toNatClampNeg), .inl (fun _ => 0))), (q_18, .inl (cI, (((nI nA) + 1).toNatClampNeg), .inl (fun _ => 0))), (q_23, .inl (cI, (((nI nA) + 1).toNatClampNeg), .inl (fun _ => 0)))] H := hP
    have hD : va_D A [(oW, .inr (1, [.ref q_8, .int x1, .ref q_13, .ref q_18, .ref q_23, .int wc])), (aX, .inl (cB, nX, .inl tx)), (aO, .inl (cI, nO, .inl so)), (aB, .inl (cI, nO, .inl sb)), (aE, .inl (cI, nO, .inl se)), (aT, .inl (cB, nA, .inl tp)), (q_8, .inl (cB, ((nI nA).toNatClampNeg), .inl (va_cpy tp (fun _ => 0) (0 : Int32).toNatClampNeg (0 : Int32).toNatClampNeg x1.toNatClampNeg))), (q_13, .inl (cI, (((nI nA) + 1).toNatClampNeg), .inl (fun _ => 0))), (q_18, .inl (cI, (((nI nA) + 1).toNatClampNeg), .inl (fun _ => 0))), (q_23, .inl (cI, (((nI nA) + 1).toNatClampNeg), .inl (fun _ => 0)))] := hD
    subst hQ
    exact r_v hx hb hr hlocks  (q_8, q_13, q_18, q_23, (nI nA).toNatClampNeg, (va_cpy tp (fun _ => 0) (0 : Int32).toNatClampNeg (0 : Int32).toNatClampNeg x1.toNatClampNeg), x1, ((nI nA) + 1).toNatClampNeg, (fun _ => 0), (fun _ => 0), (fun _ => 0)) hv (hP.sub [0, 6, 7, 8, 9, 5] rfl) hK (hD.sub [0, 6, 7, 8, 9, 5] (by decide) rfl) hS (by omega) (by omega) d_W_keep_62
