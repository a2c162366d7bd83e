abbrev b_P_step : ByteArray := prog_3_method_4_code
def y_P_step : MethodName := ⟨"NetText$Parser", "step", "()V"⟩
abbrev w_P_step : List Cond := .code y_P_step b_P_step 1 none :: lw_gt
theorem d_P_step_0 : decode b_P_step 0 = .ok (.aload_n 0, 1) := by decide +kernel
theorem d_P_step_1 : decode b_P_step 1 = .ok (.dup, 1) := by decide +kernel
theorem d_P_step_2 : decode b_P_step 2 = .ok (.getfield 19, 3) := by decide +kernel
theorem d_P_step_5 : decode b_P_step 5 = .ok (.iconst 1, 1) := by decide +kernel
theorem d_P_step_6 : decode b_P_step 6 = .ok (.iadd, 1) := by decide +kernel
theorem d_P_step_7 : decode b_P_step 7 = .ok (.putfield 19, 3) := by decide +kernel
theorem d_P_step_10 : decode b_P_step 10 = .ok (.aload_n 0, 1) := by decide +kernel
theorem d_P_step_11 : decode b_P_step 11 = .ok (.aload_n 0, 1) := by decide +kernel
theorem d_P_step_12 : decode b_P_step 12 = .ok (.getfield 19, 3) := by decide +kernel
theorem d_P_step_15 : decode b_P_step 15 = .ok (.aload_n 0, 1) := by decide +kernel
theorem d_P_step_16 : decode b_P_step 16 = .ok (.getfield 9, 3) := by decide +kernel
theorem d_P_step_19 : decode b_P_step 19 = .ok (.getfield 31, 3) := by decide +kernel
theorem d_P_step_22 : decode b_P_step 22 = .ok (.if_icmp .ge 18, 3) := by decide +kernel
theorem d_P_step_25 : decode b_P_step 25 = .ok (.aload_n 0, 1) := by decide +kernel
theorem d_P_step_26 : decode b_P_step 26 = .ok (.getfield 9, 3) := by decide +kernel
theorem d_P_step_29 : decode b_P_step 29 = .ok (.getfield 55, 3) := by decide +kernel
theorem d_P_step_32 : decode b_P_step 32 = .ok (.aload_n 0, 1) := by decide +kernel
theorem d_P_step_33 : decode b_P_step 33 = .ok (.getfield 19, 3) := by decide +kernel
theorem d_P_step_36 : decode b_P_step 36 = .ok (.iaload, 1) := by decide +kernel
theorem d_P_step_37 : decode b_P_step 37 = .ok (.goto 4, 3) := by decide +kernel
theorem d_P_step_40 : decode b_P_step 40 = .ok (.iconst 0, 1) := by decide +kernel
theorem d_P_step_41 : decode b_P_step 41 = .ok (.putfield 25, 3) := by decide +kernel
theorem d_P_step_44 : decode b_P_step 44 = .ok (.return_, 1) := by decide +kernel
abbrev b_P_refuse : ByteArray := prog_3_method_5_code
def y_P_refuse : MethodName := ⟨"NetText$Parser", "refuse", "()V"⟩
abbrev w_P_refuse : List Cond := .code y_P_refuse b_P_refuse 1 none :: lw_gt
theorem d_P_refuse_0 : decode b_P_refuse 0 = .ok (.aload_n 0, 1) := by decide +kernel
theorem d_P_refuse_1 : decode b_P_refuse 1 = .ok (.iconst 0, 1) := by decide +kernel
theorem d_P_refuse_2 : decode b_P_refuse 2 = .ok (.putfield 25, 3) := by decide +kernel
theorem d_P_refuse_5 : decode b_P_refuse 5 = .ok (.return_, 1) := by decide +kernel
abbrev b_P_take : ByteArray := prog_3_method_6_code
def y_P_take : MethodName := ⟨"NetText$Parser", "take", "(I)V"⟩
abbrev w_P_take : List Cond := .code y_P_take b_P_take 2 none :: lw_gt
theorem d_P_take_0 : decode b_P_take 0 = .ok (.aload_n 0, 1) := by decide +kernel
theorem d_P_take_1 : decode b_P_take 1 = .ok (.getfield 25, 3) := by decide +kernel
theorem d_P_take_4 : decode b_P_take 4 = .ok (.iload_n 1, 1) := by decide +kernel
theorem d_P_take_5 : decode b_P_take 5 = .ok (.if_icmp .ne 10, 3) := by decide +kernel
theorem d_P_take_8 : decode b_P_take 8 = .ok (.aload_n 0, 1) := by decide +kernel
theorem d_P_take_9 : decode b_P_take 9 = .ok (.invokevirtual 59, 3) := by decide +kernel
theorem d_P_take_12 : decode b_P_take 12 = .ok (.goto 7, 3) := by decide +kernel
theorem d_P_take_15 : decode b_P_take 15 = .ok (.aload_n 0, 1) := by decide +kernel
theorem d_P_take_16 : decode b_P_take 16 = .ok (.invokevirtual 62, 3) := by decide +kernel
theorem d_P_take_19 : decode b_P_take 19 = .ok (.return_, 1) := by decide +kernel
abbrev b_P_open : ByteArray := prog_3_method_7_code
def y_P_open : MethodName := ⟨"NetText$Parser", "open", "(I)V"⟩
abbrev w_P_open : List Cond := .code y_P_open b_P_open 2 none :: lw_gt
theorem d_P_open_0 : decode b_P_open 0 = .ok (.aload_n 0, 1) := by decide +kernel
theorem d_P_open_1 : decode b_P_open 1 = .ok (.getfield 25, 3) := by decide +kernel
theorem d_P_open_4 : decode b_P_open 4 = .ok (.iload_n 1, 1) := by decide +kernel
theorem d_P_open_5 : decode b_P_open 5 = .ok (.if_icmp .ne 29, 3) := by decide +kernel
theorem d_P_open_8 : decode b_P_open 8 = .ok (.aload_n 0, 1) := by decide +kernel
theorem d_P_open_9 : decode b_P_open 9 = .ok (.getfield 28, 3) := by decide +kernel
theorem d_P_open_12 : decode b_P_open 12 = .ok (.bipush 30, 2) := by decide +kernel
theorem d_P_open_14 : decode b_P_open 14 = .ok (.if_icmp .ge 20, 3) := by decide +kernel
theorem d_P_open_17 : decode b_P_open 17 = .ok (.aload_n 0, 1) := by decide +kernel
theorem d_P_open_18 : decode b_P_open 18 = .ok (.dup, 1) := by decide +kernel
theorem d_P_open_19 : decode b_P_open 19 = .ok (.getfield 28, 3) := by decide +kernel
theorem d_P_open_22 : decode b_P_open 22 = .ok (.iconst 1, 1) := by decide +kernel
theorem d_P_open_23 : decode b_P_open 23 = .ok (.iadd, 1) := by decide +kernel
theorem d_P_open_24 : decode b_P_open 24 = .ok (.putfield 28, 3) := by decide +kernel
theorem d_P_open_27 : decode b_P_open 27 = .ok (.aload_n 0, 1) := by decide +kernel
theorem d_P_open_28 : decode b_P_open 28 = .ok (.invokevirtual 59, 3) := by decide +kernel
theorem d_P_open_31 : decode b_P_open 31 = .ok (.goto 7, 3) := by decide +kernel
theorem d_P_open_34 : decode b_P_open 34 = .ok (.aload_n 0, 1) := by decide +kernel
theorem d_P_open_35 : decode b_P_open 35 = .ok (.invokevirtual 62, 3) := by decide +kernel
theorem d_P_open_38 : decode b_P_open 38 = .ok (.return_, 1) := by decide +kernel
abbrev b_P_close : ByteArray := prog_3_method_8_code
def y_P_close : MethodName := ⟨"NetText$Parser", "close", "(I)V"⟩
abbrev w_P_close : List Cond := .code y_P_close b_P_close 2 none :: lw_gt
theorem d_P_close_0 : decode b_P_close 0 = .ok (.aload_n 0, 1) := by decide +kernel
theorem d_P_close_1 : decode b_P_close 1 = .ok (.iload_n 1, 1) := by decide +kernel
theorem d_P_close_2 : decode b_P_close 2 = .ok (.invokevirtual 65, 3) := by decide +kernel
theorem d_P_close_5 : decode b_P_close 5 = .ok (.aload_n 0, 1) := by decide +kernel
theorem d_P_close_6 : decode b_P_close 6 = .ok (.dup, 1) := by decide +kernel
theorem d_P_close_7 : decode b_P_close 7 = .ok (.getfield 28, 3) := by decide +kernel
theorem d_P_close_10 : decode b_P_close 10 = .ok (.iconst 1, 1) := by decide +kernel
theorem d_P_close_11 : decode b_P_close 11 = .ok (.isub, 1) := by decide +kernel
theorem d_P_close_12 : decode b_P_close 12 = .ok (.putfield 28, 3) := by decide +kernel
theorem d_P_close_15 : decode b_P_close 15 = .ok (.return_, 1) := by decide +kernel
abbrev b_P_name : ByteArray := prog_3_method_21_code
def y_P_name : MethodName := ⟨"NetText$Parser", "name", "(II)V"⟩
abbrev w_P_name : List Cond := .code y_P_name b_P_name 3 none :: lw_gt
theorem d_P_name_0 : decode b_P_name 0 = .ok (.aload_n 0, 1) := by decide +kernel
theorem d_P_name_1 : decode b_P_name 1 = .ok (.getfield 15, 3) := by decide +kernel
theorem d_P_name_4 : decode b_P_name 4 = .ok (.bipush 15, 2) := by decide +kernel
theorem d_P_name_6 : decode b_P_name 6 = .ok (.aload_n 0, 1) := by decide +kernel
theorem d_P_name_7 : decode b_P_name 7 = .ok (.getfield 19, 3) := by decide +kernel
theorem d_P_name_10 : decode b_P_name 10 = .ok (.iload_n 1, 1) := by decide +kernel
theorem d_P_name_11 : decode b_P_name 11 = .ok (.iload_n 2, 1) := by decide +kernel
theorem d_P_name_12 : decode b_P_name 12 = .ok (.invokevirtual 70, 3) := by decide +kernel
theorem d_P_name_15 : decode b_P_name 15 = .ok (.pop, 1) := by decide +kernel
theorem d_P_name_16 : decode b_P_name 16 = .ok (.aload_n 0, 1) := by decide +kernel
theorem d_P_name_17 : decode b_P_name 17 = .ok (.iconst 3, 1) := by decide +kernel
theorem d_P_name_18 : decode b_P_name 18 = .ok (.invokevirtual 65, 3) := by decide +kernel
theorem d_P_name_21 : decode b_P_name 21 = .ok (.return_, 1) := by decide +kernel
abbrev b_P_names : ByteArray := prog_3_method_22_code
def y_P_names : MethodName := ⟨"NetText$Parser", "names", "(II)V"⟩
abbrev w_P_names : List Cond := .code y_P_names b_P_names 4 none :: lw_gt
theorem d_P_names_0 : decode b_P_names 0 = .ok (.aload_n 0, 1) := by decide +kernel
theorem d_P_names_1 : decode b_P_names 1 = .ok (.iload_n 1, 1) := by decide +kernel
theorem d_P_names_2 : decode b_P_names 2 = .ok (.iload_n 2, 1) := by decide +kernel
theorem d_P_names_3 : decode b_P_names 3 = .ok (.invokevirtual 114, 3) := by decide +kernel
theorem d_P_names_6 : decode b_P_names 6 = .ok (.iconst 0, 1) := by decide +kernel
theorem d_P_names_7 : decode b_P_names 7 = .ok (.istore_n 3, 1) := by decide +kernel
theorem d_P_names_8 : decode b_P_names 8 = .ok (.iload_n 3, 1) := by decide +kernel
theorem d_P_names_9 : decode b_P_names 9 = .ok (.aload_n 0, 1) := by decide +kernel
theorem d_P_names_10 : decode b_P_names 10 = .ok (.getfield 9, 3) := by decide +kernel
theorem d_P_names_13 : decode b_P_names 13 = .ok (.getfield 31, 3) := by decide +kernel
theorem d_P_names_16 : decode b_P_names 16 = .ok (.if_icmp .ge 28, 3) := by decide +kernel
theorem d_P_names_19 : decode b_P_names 19 = .ok (.aload_n 0, 1) := by decide +kernel
theorem d_P_names_20 : decode b_P_names 20 = .ok (.getfield 25, 3) := by decide +kernel
theorem d_P_names_23 : decode b_P_names 23 = .ok (.bipush 44, 2) := by decide +kernel
theorem d_P_names_25 : decode b_P_names 25 = .ok (.if_icmp .ne 19, 3) := by decide +kernel
theorem d_P_names_28 : decode b_P_names 28 = .ok (.aload_n 0, 1) := by decide +kernel
theorem d_P_names_29 : decode b_P_names 29 = .ok (.invokevirtual 59, 3) := by decide +kernel
theorem d_P_names_32 : decode b_P_names 32 = .ok (.aload_n 0, 1) := by decide +kernel
theorem d_P_names_33 : decode b_P_names 33 = .ok (.iload_n 1, 1) := by decide +kernel
theorem d_P_names_34 : decode b_P_names 34 = .ok (.iload_n 2, 1) := by decide +kernel
theorem d_P_names_35 : decode b_P_names 35 = .ok (.invokevirtual 114, 3) := by decide +kernel
theorem d_P_names_38 : decode b_P_names 38 = .ok (.iinc 3 1, 3) := by decide +kernel
theorem d_P_names_41 : decode b_P_names 41 = .ok (.goto (-33), 3) := by decide +kernel
theorem d_P_names_44 : decode b_P_names 44 = .ok (.return_, 1) := by decide +kernel
abbrev b_P_number : ByteArray := prog_3_method_23_code
def y_P_number : MethodName := ⟨"NetText$Parser", "number", "(II)V"⟩
abbrev w_P_number : List Cond := .code y_P_number b_P_number 3 none :: lw_gt
theorem d_P_number_0 : decode b_P_number 0 = .ok (.aload_n 0, 1) := by decide +kernel
theorem d_P_number_1 : decode b_P_number 1 = .ok (.getfield 15, 3) := by decide +kernel
theorem d_P_number_4 : decode b_P_number 4 = .ok (.bipush 16, 2) := by decide +kernel
theorem d_P_number_6 : decode b_P_number 6 = .ok (.aload_n 0, 1) := by decide +kernel
theorem d_P_number_7 : decode b_P_number 7 = .ok (.getfield 19, 3) := by decide +kernel
theorem d_P_number_10 : decode b_P_number 10 = .ok (.iload_n 1, 1) := by decide +kernel
theorem d_P_number_11 : decode b_P_number 11 = .ok (.iload_n 2, 1) := by decide +kernel
theorem d_P_number_12 : decode b_P_number 12 = .ok (.invokevirtual 70, 3) := by decide +kernel
theorem d_P_number_15 : decode b_P_number 15 = .ok (.pop, 1) := by decide +kernel
theorem d_P_number_16 : decode b_P_number 16 = .ok (.aload_n 0, 1) := by decide +kernel
theorem d_P_number_17 : decode b_P_number 17 = .ok (.iconst 4, 1) := by decide +kernel
theorem d_P_number_18 : decode b_P_number 18 = .ok (.invokevirtual 65, 3) := by decide +kernel
theorem d_P_number_21 : decode b_P_number 21 = .ok (.return_, 1) := by decide +kernel
abbrev b_P_fraction : ByteArray := prog_3_method_24_code
def y_P_fraction : MethodName := ⟨"NetText$Parser", "fraction", "(II)V"⟩
abbrev w_P_fraction : List Cond := .code y_P_fraction b_P_fraction 4 none :: lw_gt
theorem d_P_fraction_0 : decode b_P_fraction 0 = .ok (.aload_n 0, 1) := by decide +kernel
theorem d_P_fraction_1 : decode b_P_fraction 1 = .ok (.getfield 15, 3) := by decide +kernel
theorem d_P_fraction_4 : decode b_P_fraction 4 = .ok (.bipush 9, 2) := by decide +kernel
theorem d_P_fraction_6 : decode b_P_fraction 6 = .ok (.aload_n 0, 1) := by decide +kernel
theorem d_P_fraction_7 : decode b_P_fraction 7 = .ok (.getfield 19, 3) := by decide +kernel
theorem d_P_fraction_10 : decode b_P_fraction 10 = .ok (.iload_n 1, 1) := by decide +kernel
theorem d_P_fraction_11 : decode b_P_fraction 11 = .ok (.iload_n 2, 1) := by decide +kernel
theorem d_P_fraction_12 : decode b_P_fraction 12 = .ok (.invokevirtual 70, 3) := by decide +kernel
theorem d_P_fraction_15 : decode b_P_fraction 15 = .ok (.istore_n 3, 1) := by decide +kernel
theorem d_P_fraction_16 : decode b_P_fraction 16 = .ok (.aload_n 0, 1) := by decide +kernel
theorem d_P_fraction_17 : decode b_P_fraction 17 = .ok (.getfield 25, 3) := by decide +kernel
theorem d_P_fraction_20 : decode b_P_fraction 20 = .ok (.bipush 45, 2) := by decide +kernel
theorem d_P_fraction_22 : decode b_P_fraction 22 = .ok (.if_icmp .ne 7, 3) := by decide +kernel
theorem d_P_fraction_25 : decode b_P_fraction 25 = .ok (.aload_n 0, 1) := by decide +kernel
theorem d_P_fraction_26 : decode b_P_fraction 26 = .ok (.invokevirtual 59, 3) := by decide +kernel
theorem d_P_fraction_29 : decode b_P_fraction 29 = .ok (.aload_n 0, 1) := by decide +kernel
theorem d_P_fraction_30 : decode b_P_fraction 30 = .ok (.iload_n 3, 1) := by decide +kernel
theorem d_P_fraction_31 : decode b_P_fraction 31 = .ok (.iconst 0, 1) := by decide +kernel
theorem d_P_fraction_32 : decode b_P_fraction 32 = .ok (.invokevirtual 133, 3) := by decide +kernel
theorem d_P_fraction_35 : decode b_P_fraction 35 = .ok (.aload_n 0, 1) := by decide +kernel
theorem d_P_fraction_36 : decode b_P_fraction 36 = .ok (.getfield 25, 3) := by decide +kernel
theorem d_P_fraction_39 : decode b_P_fraction 39 = .ok (.bipush 47, 2) := by decide +kernel
theorem d_P_fraction_41 : decode b_P_fraction 41 = .ok (.if_icmp .ne 13, 3) := by decide +kernel
theorem d_P_fraction_44 : decode b_P_fraction 44 = .ok (.aload_n 0, 1) := by decide +kernel
theorem d_P_fraction_45 : decode b_P_fraction 45 = .ok (.invokevirtual 59, 3) := by decide +kernel
theorem d_P_fraction_48 : decode b_P_fraction 48 = .ok (.aload_n 0, 1) := by decide +kernel
theorem d_P_fraction_49 : decode b_P_fraction 49 = .ok (.iload_n 3, 1) := by decide +kernel
theorem d_P_fraction_50 : decode b_P_fraction 50 = .ok (.iconst 0, 1) := by decide +kernel
theorem d_P_fraction_51 : decode b_P_fraction 51 = .ok (.invokevirtual 133, 3) := by decide +kernel
theorem d_P_fraction_54 : decode b_P_fraction 54 = .ok (.return_, 1) := by decide +kernel
abbrev b_P_fractionBehind : ByteArray := prog_3_method_10_code
def y_P_fractionBehind : MethodName := ⟨"NetText$Parser", "fractionBehind", "(II)V"⟩
abbrev w_P_fractionBehind : List Cond := .code y_P_fractionBehind b_P_fractionBehind 3 none :: lw_gt
theorem d_P_fractionBehind_0 : decode b_P_fractionBehind 0 = .ok (.aload_n 0, 1) := by decide +kernel
theorem d_P_fractionBehind_1 : decode b_P_fractionBehind 1 = .ok (.getfield 25, 3) := by decide +kernel
theorem d_P_fractionBehind_4 : decode b_P_fractionBehind 4 = .ok (.iload_n 1, 1) := by decide +kernel
theorem d_P_fractionBehind_5 : decode b_P_fractionBehind 5 = .ok (.if_icmp .ne 13, 3) := by decide +kernel
theorem d_P_fractionBehind_8 : decode b_P_fractionBehind 8 = .ok (.aload_n 0, 1) := by decide +kernel
theorem d_P_fractionBehind_9 : decode b_P_fractionBehind 9 = .ok (.invokevirtual 59, 3) := by decide +kernel
theorem d_P_fractionBehind_12 : decode b_P_fractionBehind 12 = .ok (.aload_n 0, 1) := by decide +kernel
theorem d_P_fractionBehind_13 : decode b_P_fractionBehind 13 = .ok (.iload_n 2, 1) := by decide +kernel
theorem d_P_fractionBehind_14 : decode b_P_fractionBehind 14 = .ok (.iconst 0, 1) := by decide +kernel
theorem d_P_fractionBehind_15 : decode b_P_fractionBehind 15 = .ok (.invokevirtual 78, 3) := by decide +kernel
theorem d_P_fractionBehind_18 : decode b_P_fractionBehind 18 = .ok (.return_, 1) := by decide +kernel
abbrev b_P_joinsPieces : ByteArray := prog_3_method_30_code
def y_P_joinsPieces : MethodName := ⟨"NetText$Parser", "joinsPieces", "(Z)Z"⟩
abbrev w_P_joinsPieces : List Cond := .code y_P_joinsPieces b_P_joinsPieces 2 (some .boolean) :: lw_gt
theorem d_P_joinsPieces_0 : decode b_P_joinsPieces 0 = .ok (.aload_n 0, 1) := by decide +kernel
theorem d_P_joinsPieces_1 : decode b_P_joinsPieces 1 = .ok (.getfield 25, 3) := by decide +kernel
theorem d_P_joinsPieces_4 : decode b_P_joinsPieces 4 = .ok (.bipush 42, 2) := by decide +kernel
theorem d_P_joinsPieces_6 : decode b_P_joinsPieces 6 = .ok (.if_icmp .eq 25, 3) := by decide +kernel
theorem d_P_joinsPieces_9 : decode b_P_joinsPieces 9 = .ok (.aload_n 0, 1) := by decide +kernel
theorem d_P_joinsPieces_10 : decode b_P_joinsPieces 10 = .ok (.getfield 25, 3) := by decide +kernel
theorem d_P_joinsPieces_13 : decode b_P_joinsPieces 13 = .ok (.bipush 47, 2) := by decide +kernel
theorem d_P_joinsPieces_15 : decode b_P_joinsPieces 15 = .ok (.if_icmp .eq 16, 3) := by decide +kernel
theorem d_P_joinsPieces_18 : decode b_P_joinsPieces 18 = .ok (.aload_n 0, 1) := by decide +kernel
theorem d_P_joinsPieces_19 : decode b_P_joinsPieces 19 = .ok (.getfield 25, 3) := by decide +kernel
theorem d_P_joinsPieces_22 : decode b_P_joinsPieces 22 = .ok (.bipush 64, 2) := by decide +kernel
theorem d_P_joinsPieces_24 : decode b_P_joinsPieces 24 = .ok (.if_icmp .ne 11, 3) := by decide +kernel
theorem d_P_joinsPieces_27 : decode b_P_joinsPieces 27 = .ok (.iload_n 1, 1) := by decide +kernel
theorem d_P_joinsPieces_28 : decode b_P_joinsPieces 28 = .ok (.ifCond .ne 7, 3) := by decide +kernel
theorem d_P_joinsPieces_31 : decode b_P_joinsPieces 31 = .ok (.iconst 1, 1) := by decide +kernel
theorem d_P_joinsPieces_32 : decode b_P_joinsPieces 32 = .ok (.goto 4, 3) := by decide +kernel
theorem d_P_joinsPieces_35 : decode b_P_joinsPieces 35 = .ok (.iconst 0, 1) := by decide +kernel
theorem d_P_joinsPieces_36 : decode b_P_joinsPieces 36 = .ok (.ireturn, 1) := by decide +kernel
def vc_P_step  (nO : Nat) (so : FN) (wc : Int32) (at_ : Int32) (sr : Int32)  (K_ : Int32 → Int32 → Prop) : Prop :=
  ((wc ≤ (at_ + 1) → (K_ (at_ + 1) 0)) ∧ (¬ wc ≤ (at_ + 1) → (vp_in (at_ + 1) nO ∧ (K_ (at_ + 1) (so (at_ + 1).toNatClampNeg)))))
set_option maxHeartbeats 4000000 in
set_option maxRecDepth 100000 in
theorem met_P_step {l : Launch} {dd : va_G} {cB cI cL cS : ClassId}  {oP : Nat} {oW : Nat} {aX : Nat} {aO : Nat} {aB : Nat} {aE : Nat} {oT : Nat}  {nO : Nat} {so : FN} {wc : Int32} {at_ : Int32} {sr : Int32} {ln : Int32} {dp : Int32}  {K_ : Int32 → Int32 → Prop}  (hv : vc_P_step  nO so wc at_ sr  K_) : Ct l y_P_step w_P_step (rmk 0 0 0) dd cls5 [(cB, .byte), (cI, .int), (cL, .long), (cS, .object "java/lang/String")] XN [(oP, .inr (3, [.ref oW, .ref oT, .int at_, .int sr, .int dp])), (oW, .inr (1, [.ref aX, .int ln, .ref aO, .ref aB, .ref aE, .int wc])), (aO, .inl (cI, nO, .inl so))] [.ref oP] (qv dd cls5 [(cB, .byte), (cI, .int), (cL, .long), (cS, .object "java/lang/String")] (fun u_ : Int32 × Int32 => [(oP, .inr (3, [.ref oW, .ref oT, .int u_.1, .int u_.2, .int dp])), (oW, .inr (1, [.ref aX, .int ln, .ref aO, .ref aB, .ref aE, .int wc])), (aO, .inl (cI, nO, .inl so))]) (fun u_ => K_ u_.1 u_.2)) 0 0 := by
  refine m_of (cc := b_P_step) (nL := 1) (ret := none) (by decide) rfl (Nat.le_of_ble_eq_true rfl) ?_
  intro p e s m below meth c ls A ar Fx_ hA hP hK hD hS hX hl
  obtain ⟨hx, hb, hml, hr, hlocks, hown, hts, hinn⟩ := Fx_
  generalize hQ : MQ below ((qv dd cls5 [(cB, .byte), (cI, .int), (cL, .long), (cS, .object "java/lang/String")] (fun u_ : Int32 × Int32 => [(oP, .inr (3, [.ref oW, .ref oT, .int u_.1, .int u_.2, .int dp])), (oW, .inr (1, [.ref aX, .int ln, .ref aO, .ref aB, .ref aE, .int wc])), (aO, .inl (cI, nO, .inl so))]) (fun u_ => K_ u_.1 u_.2)) A) ar s 0 0 A = QQ
  have hl : lv_has ls 1 [(0, .ref oP)] := hl
  unfold vc_P_step at hv
  refine lv_aload_n hx hb d_P_step_0 rfl (lv_at hl 0 rfl) ?_
  refine lv_dup hx hb d_P_step_1 rfl ?_
  refine va_get (D := dd) (ci := 3) (C := Rc_P) (T := Fc_P) (N := 5) (v := .int at_) hx hb hts (inn in_P) hown hK hP 0 rfl rfl 2 (by decide) (hts (.fieldLink "NetText$Parser" 19 "NetText$Parser" "at" "I") (tg at_97)) (fun _ h9 => h9) rfl d_P_step_2 ?_
  refine lv_iconst (v := 1) hx hb d_P_step_5 (by decide) ?_
  refine lv_iadd hx hb d_P_step_6 ?_
  refine va_put (D := dd) (ci := 3) (C := Rc_P) (T := Fc_P) (N := 5) (v := .int (at_ + 1)) (ty := .int) hx hb hts (inn in_P) tyf_P tyf_P_ok nmf_P hown hK hP hD hS 0 rfl rfl 2 (by decide) (hts (.fieldLink "NetText$Parser" 19 "NetText$Parser" "at" "I") (tg at_97)) (fun _ h9 => h9) rfl (by decide +kernel) rfl rfl (Nat.le_of_ble_eq_true rfl) d_P_step_7 (fun H locs hP hD hS => ?_)
  have hP : va_P dd cls5 [(oP, .inr (3, [.ref oW, .ref oT, .int (at_ + 1), .int sr, .int dp])), (oW, .inr (1, [.ref aX, .int ln, .ref aO, .ref aB, .ref aE, .int wc])), (aO, .inl (cI, nO, .inl so))] H := hP
  have hD : va_D A [(oP, .inr (3, [.ref oW, .ref oT, .int (at_ + 1), .int sr, .int dp])), (oW, .inr (1, [.ref aX, .int ln, .ref aO, .ref aB, .ref aE, .int wc])), (aO, .inl (cI, nO, .inl so))] := hD
  refine lv_aload_n hx hb d_P_step_10 rfl (lv_at hl 0 rfl) ?_
  refine lv_aload_n hx hb d_P_step_11 rfl (lv_at hl 0 rfl) ?_
  refine va_get (D := dd) (ci := 3) (C := Rc_P) (T := Fc_P) (N := 5) (v := .int (at_ + 1)) hx hb hts (inn in_P) hown hK hP 0 rfl rfl 2 (by decide) (hts (.fieldLink "NetText$Parser" 19 "NetText$Parser" "at" "I") (tg at_97)) (fun _ h9 => h9) rfl d_P_step_12 ?_
  refine lv_aload_n hx hb d_P_step_15 rfl (lv_at hl 0 rfl) ?_
  refine va_get (D := dd) (ci := 3) (C := Rc_P) (T := Fc_P) (N := 5) (v := .ref oW) hx hb hts (inn in_P) hown hK hP 0 rfl rfl 0 (by decide) (hts (.fieldLink "NetText$Parser" 9 "NetText$Parser" "words" "LNetText$Words;") (tg at_95)) (fun _ h9 => h9) rfl d_P_step_16 ?_
  refine va_getN (D := dd) (ci := 1) (C := Rc_W) (T := Fc_W) (N := 6) (v := .int wc) hx hb hts (inn in_W) hown hK hP 1 rfl rfl 5 (by decide) (va_Nw.use rfl (hX _ nw_1)) (fun _ h9 => h9) rfl d_P_step_19 ?_
  refine lv_icmp_ge (tgt := 40) hx hb d_P_step_22 (by decide) (fun b_1 => ?_) (fun b_1 => ?_)
  · have hv := hv.1 b_1
    refine lv_iconst (v := 0) hx hb d_P_step_40 (by decide) ?_
    refine va_put (D := dd) (ci := 3) (C := Rc_P) (T := Fc_P) (N := 5) (v := .int 0) (ty := .int) hx hb hts (inn in_P) tyf_P tyf_P_ok nmf_P hown hK hP hD hS 0 rfl rfl 3 (by decide) (hts (.fieldLink "NetText$Parser" 25 "NetText$Parser" "sort" "I") (tg at_98)) (fun _ h9 => h9) rfl (by decide +kernel) rfl rfl (Nat.le_of_ble_eq_true rfl) d_P_step_41 (fun H locs hP hD hS => ?_)
    have hP : va_P dd cls5 [(oP, .inr (3, [.ref oW, .ref oT, .int (at_ + 1), .int 0, .int dp])), (oW, .inr (1, [.ref aX, .int ln, .ref aO, .ref aB, .ref aE, .int wc])), (aO, .inl (cI, nO, .inl so))] H := hP
    have hD : va_D A [(oP, .inr (3, [.ref oW, .ref oT, .int (at_ + 1), .int 0, .int dp])), (oW, .inr (1, [.ref aX, .int ln, .ref aO, .ref aB, .ref aE, .int wc])), (aO, .inl (cI, nO, .inl so))] := hD
    subst hQ
    exact r_v hx hb hr hlocks  ((at_ + 1), 0) hv (hP.sub [0, 1, 2] rfl) hK (hD.sub [0, 1, 2] (by decide) rfl) hS (Nat.le_refl _) (Nat.le_refl _) d_P_step_44
  · have hv := hv.2 b_1
    refine lv_aload_n hx hb d_P_step_25 rfl (lv_at hl 0 rfl) ?_
    refine va_get (D := dd) (ci := 3) (C := Rc_P) (T := Fc_P) (N := 5) (v := .ref oW) hx hb hts (inn in_P) hown hK hP 0 rfl rfl 0 (by decide) (hts (.fieldLink "NetText$Parser" 9 "NetText$Parser" "words" "LNetText$Words;") (tg at_95)) (fun _ h9 => h9) rfl d_P_step_26 ?_
    refine va_getN (D := dd) (ci := 1) (C := Rc_W) (T := Fc_W) (N := 6) (v := .ref aO) hx hb hts (inn in_W) hown hK hP 1 rfl rfl 2 (by decide) (va_Nw.use rfl (hX _ nw_0)) (fun _ h9 => h9) rfl d_P_step_29 ?_
    refine lv_aload_n hx hb d_P_step_32 rfl (lv_at hl 0 rfl) ?_
    refine va_get (D := dd) (ci := 3) (C := Rc_P) (T := Fc_P) (N := 5) (v := .int (at_ + 1)) hx hb hts (inn in_P) hown hK hP 0 rfl rfl 2 (by decide) (hts (.fieldLink "NetText$Parser" 19 "NetText$Parser" "at" "I") (tg at_97)) (fun _ h9 => h9) rfl d_P_step_33 ?_
    obtain ⟨h_2, hv⟩ := hv
    refine va_iald hx hb hK hP 2 1 rfl rfl h_2 d_P_step_36 ?_
    refine lv_goto (tgt := 41) hx hb d_P_step_37 (by decide) ?_
    refine va_put (D := dd) (ci := 3) (C := Rc_P) (T := Fc_P) (N := 5) (v := .int (so (at_ + 1).toNatClampNeg)) (ty := .int) hx hb hts (inn in_P) tyf_P tyf_P_ok nmf_P hown hK hP hD hS 0 rfl rfl 3 (by decide) (hts (.fieldLink "NetText$Parser" 25 "NetText$Parser" "sort" "I") (tg at_98)) (fun _ h9 => h9) rfl (by decide +kernel) rfl rfl (Nat.le_of_ble_eq_true rfl) d_P_step_41 (fun H locs hP hD hS => ?_)
    have hP : va_P dd cls5 [(oP, .inr (3, [.ref oW, .ref oT, .int (at_ + 1), .int (so (at_ + 1).toNatClampNeg), .int dp])), (oW, .inr (1, [.ref aX, .int ln, .ref aO, .ref aB, .ref aE, .int wc])), (aO, .inl (cI, nO, .inl so))] H := hP
    have hD : va_D A [(oP, .inr (3, [.ref oW, .ref oT, .int (at_ + 1), .int (so (at_ + 1).toNatClampNeg), .int dp])), (oW, .inr (1, [.ref aX, .int ln, .ref aO, .ref aB, .ref aE, .int wc])), (aO, .inl (cI, nO, .inl so))] := hD
    subst hQ
    exact r_v hx hb hr hlocks  ((at_ + 1), (so (at_ + 1).toNatClampNeg)) hv (hP.sub [0, 1, 2] rfl) hK (hD.sub [0, 1, 2] (by decide) rfl) hS (Nat.le_refl _) (Nat.le_refl _) d_P_step_44
def vc_P_refuse  (at_ : Int32) (sr : Int32)  (K_ : Int32 → Int32 → Prop) : Prop :=
  (K_ at_ 0)
set_option maxHeartbeats 4000000 in
set_option maxRecDepth 100000 in
theorem met_P_refuse {l : Launch} {dd : va_G} {cB cI cL cS : ClassId}  {oP : Nat} {oW : Nat} {oT : Nat}  {at_ : Int32} {sr : Int32} {dp : Int32}  {K_ : Int32 → Int32 → Prop}  (hv : vc_P_refuse  at_ sr  K_) : Ct l y_P_refuse w_P_refuse (rmk 0 0 0) dd cls5 [(cB, .byte), (cI, .int), (cL, .long), (cS, .object "java/lang/String")] X0 [(oP, .inr (3, [.ref oW, .ref oT, .int at_, .int sr, .int dp]))] [.ref oP] (qv dd cls5 [(cB, .byte), (cI, .int), (cL, .long), (cS, .object "java/lang/String")] (fun u_ : Int32 × Int32 => [(oP, .inr (3, [.ref oW, .ref oT, .int u_.1, .int u_.2, .int dp]))]) (fun u_ => K_ u_.1 u_.2)) 0 0 := by
  refine m_of (cc := b_P_refuse) (nL := 1) (ret := none) (by decide) rfl (Nat.le_of_ble_eq_true rfl) ?_
  intro p e s m below meth c ls A ar Fx_ hA hP hK hD hS hX hl
  obtain ⟨hx, hb, hml, hr, hlocks, hown, hts, hinn⟩ := Fx_
  generalize hQ : MQ below ((qv dd cls5 [(cB, .byte), (cI, .int), (cL, .long), (cS, .object "java/lang/String")] (fun u_ : Int32 × Int32 => [(oP, .inr (3, [.ref oW, .ref oT, .int u_.1, .int u_.2, .int dp]))]) (fun u_ => K_ u_.1 u_.2)) A) ar s 0 0 A = QQ
  have hl : lv_has ls 1 [(0, .ref oP)] := hl
  unfold vc_P_refuse at hv
  refine lv_aload_n hx hb d_P_refuse_0 rfl (lv_at hl 0 rfl) ?_
  refine lv_iconst (v := 0) hx hb d_P_refuse_1 (by decide) ?_
  refine va_put (D := dd) (ci := 3) (C := Rc_P) (T := Fc_P) (N := 5) (v := .int 0) (ty := .int) hx hb hts (inn in_P) tyf_P tyf_P_ok nmf_P hown hK hP hD hS 0 rfl rfl 3 (by decide) (hts (.fieldLink "NetText$Parser" 25 "NetText$Parser" "sort" "I") (tg at_98)) (fun _ h9 => h9) rfl (by decide +kernel) rfl rfl (Nat.le_of_ble_eq_true rfl) d_P_refuse_2 (fun H locs hP hD hS => ?_)
  have hP : va_P dd cls5 [(oP, .inr (3, [.ref oW, .ref oT, .int at_, .int 0, .int dp]))] H := hP
  have hD : va_D A [(oP, .inr (3, [.ref oW, .ref oT, .int at_, .int 0, .int dp]))] := hD
  subst hQ
  exact r_v hx hb hr hlocks  (at_, 0) hv (hP.sub [0] rfl) hK (hD.sub [0] (by decide) rfl) hS (Nat.le_refl _) (Nat.le_refl _) d_P_refuse_5
def vc_P_take  (nO : Nat) (so : FN) (wc : Int32) (at_ : Int32) (sr : Int32) (x1 : Int32) (K_ : Int32 → Int32 → Prop) : Prop :=
  ((¬ sr = x1 → (vc_P_refuse at_ sr (fun at_3 sr_4 => (K_ at_3 sr_4)))) ∧ (sr = x1 → (vc_P_step nO so wc at_ sr (fun at_7 sr_8 => (K_ at_7 sr_8)))))
set_option maxHeartbeats 4000000 in
set_option maxRecDepth 100000 in
theorem met_P_take {l : Launch} {dd : va_G} {cB cI cL cS : ClassId}  {oP : Nat} {oW : Nat} {aX : Nat} {aO : Nat} {aB : Nat} {aE : Nat} {oT : Nat}  {nO : Nat} {so : FN} {wc : Int32} {at_ : Int32} {sr : Int32} {ln : Int32} {dp : Int32} {x1 : Int32} {K_ : Int32 → Int32 → Prop}  (hv : vc_P_take  nO so wc at_ sr x1 K_) : Ct l y_P_take w_P_take (rmk 1 0 0) dd cls5 [(cB, .byte), (cI, .int), (cL, .long), (cS, .object "java/lang/String")] XN [(oP, .inr (3, [.ref oW, .ref oT, .int at_, .int sr, .int dp])), (oW, .inr (1, [.ref aX, .int ln, .ref aO, .ref aB, .ref aE, .int wc])), (aO, .inl (cI, nO, .inl so))] [.ref oP, .int x1] (qv dd cls5 [(cB, .byte), (cI, .int), (cL, .long), (cS, .object "java/lang/String")] (fun u_ : Int32 × Int32 => [(oP, .inr (3, [.ref oW, .ref oT, .int u_.1, .int u_.2, .int dp])), (oW, .inr (1, [.ref aX, .int ln, .ref aO, .ref aB, .ref aE, .int wc])), (aO, .inl (cI, nO, .inl so))]) (fun u_ => K_ u_.1 u_.2)) 0 0 := by
  refine m_of (cc := b_P_take) (nL := 2) (ret := none) (by decide) rfl (Nat.le_of_ble_eq_true rfl) ?_
  intro p e s m below meth c ls A ar Fx_ hA hP hK hD hS hX hl
  obtain ⟨hx, hb, hml, hr, hlocks, hown, hts, hinn⟩ := Fx_
  generalize hQ : MQ below ((qv dd cls5 [(cB, .byte), (cI, .int), (cL, .long), (cS, .object "java/lang/String")] (fun u_ : Int32 × Int32 => [(oP, .inr (3, [.ref oW, .ref oT, .int u_.1, .int u_.2, .int dp])), (oW, .inr (1, [.ref aX, .int ln, .ref aO, .ref aB, .ref aE, .int wc])), (aO, .inl (cI, nO, .inl so))]) (fun u_ => K_ u_.1 u_.2)) A) ar s 0 0 A = QQ
  have hl : lv_has ls 2 [(0, .ref oP), (1, .int x1)] := hl
  unfold vc_P_take at hv
  refine lv_aload_n hx hb d_P_take_0 rfl (lv_at hl 0 rfl) ?_
  refine va_get (D := dd) (ci := 3) (C := Rc_P) (T := Fc_P) (N := 5) (v := .int sr) hx hb hts (inn in_P) hown hK hP 0 rfl rfl 3 (by decide) (hts (.fieldLink "NetText$Parser" 25 "NetText$Parser" "sort" "I") (tg at_98)) (fun _ h9 => h9) rfl d_P_take_1 ?_
  refine lv_iload_n hx hb d_P_take_4 rfl (lv_at hl 1 rfl) ?_
  refine lv_icmp_ne (tgt := 15) hx hb d_P_take_5 (by decide) (fun b_1 => ?_) (fun b_1 => ?_)
  · have hv := hv.1 b_1
    refine lv_aload_n hx hb d_P_take_15 rfl (lv_at hl 0 rfl) ?_
    have hM := met_P_refuse (l := l) (dd := dd) (cB := cB) (cI := cI) (cL := cL) (cS := cS) (oP := oP) (oW := oW) (oT := oT) (dp := dp)  hv
    refine kv_v (st := [.ref oP]) (rest := []) (wr := [(oW, .inr (1, [.ref aX, .int ln, .ref aO, .ref aB, .ref aE, .int wc])), (aO, .inl (cI, nO, .inl so))]) ⟨hx, hb, hml, hown, hts⟩ hM (cwV 0 hts (gv (tg0 at_369) (tg0 at_371) (tg0 ap_18) (tg0 at_4) (tg0 at_372)) rfl rfl rfl (by decide +kernel) (rk (by omega) (by decide))) x0b x0g hP hK hD hS hA [0] [1, 2] rfl rfl (by decide) (by decide) (by decide) (ci := 3) rfl rfl (q0 := 0) rfl rfl hl.1 rfl (Nat.le_of_ble_eq_true rfl) d_P_take_16 ⟨Nat.zero_le _, Nat.zero_le _⟩ (fun u_5 H locs hv hP hD hS => ?_)
    obtain ⟨at_3, sr_4⟩ := u_5
    have hP : va_P dd cls5 [(oW, .inr (1, [.ref aX, .int ln, .ref aO, .ref aB, .ref aE, .int wc])), (aO, .inl (cI, nO, .inl so)), (oP, .inr (3, [.ref oW, .ref oT, .int at_3, .int sr_4, .int dp]))] H := hP
    have hD : va_D A [(oW, .inr (1, [.ref aX, .int ln, .ref aO, .ref aB, .ref aE, .int wc])), (aO, .inl (cI, nO, .inl so)), (oP, .inr (3, [.ref oW, .ref oT, .int at_3, .int sr_4, .int dp]))] := hD
    subst hQ
    exact r_v hx hb hr hlocks  (at_3, sr_4) hv (hP.sub [2, 0, 1] rfl) hK (hD.sub [2, 0, 1] (by decide) rfl) hS (Nat.le_refl _) (Nat.le_refl _) d_P_take_19
  · have hv := hv.2 b_1
    refine lv_aload_n hx hb d_P_take_8 rfl (lv_at hl 0 rfl) ?_
    have hM := met_P_step (l := l) (dd := dd) (cB := cB) (cI := cI) (cL := cL) (cS := cS) (oP := oP) (oW := oW) (aX := aX) (aO := aO) (aB := aB) (aE := aE) (oT := oT) (ln := ln) (dp := dp)  hv
    refine kv_v (st := [.ref oP]) (rest := []) (wr := []) ⟨hx, hb, hml, hown, hts⟩ hM (cwV 0 hts (gv (tg0 at_365) (tg0 at_367) (tg0 ap_17) (tg0 at_4) (tg0 at_368)) rfl rfl rfl (by decide +kernel) (rk (by omega) (by decide))) xnb (xng hX) hP hK hD hS hA [0, 1, 2] [] rfl rfl (by decide) (by decide) (by decide) (ci := 3) rfl rfl (q0 := 0) rfl rfl hl.1 rfl (Nat.le_of_ble_eq_true rfl) d_P_take_9 ⟨Nat.zero_le _, Nat.zero_le _⟩ (fun u_9 H locs hv hP hD hS => ?_)
    obtain ⟨at_7, sr_8⟩ := u_9
    have hP : va_P dd cls5 [(oP, .inr (3, [.ref oW, .ref oT, .int at_7, .int sr_8, .int dp])), (oW, .inr (1, [.ref aX, .int ln, .ref aO, .ref aB, .ref aE, .int wc])), (aO, .inl (cI, nO, .inl so))] H := hP
    have hD : va_D A [(oP, .inr (3, [.ref oW, .ref oT, .int at_7, .int sr_8, .int dp])), (oW, .inr (1, [.ref aX, .int ln, .ref aO, .ref aB, .ref aE, .int wc])), (aO, .inl (cI, nO, .inl so))] := hD
    refine lv_goto (tgt := 19) hx hb d_P_take_12 (by decide) ?_
    subst hQ
    exact r_v hx hb hr hlocks  (at_7, sr_8) hv (hP.sub [0, 1, 2] rfl) hK (hD.sub [0, 1, 2] (by decide) rfl) hS (Nat.le_refl _) (Nat.le_refl _) d_P_take_19
def vc_P_open  (nO : Nat) (so : FN) (wc : Int32) (at_ : Int32) (sr : Int32) (dp : Int32) (x1 : Int32) (K_ : Int32 → Int32 → Int32 → Prop) : Prop :=
  ((¬ sr = x1 → (vc_P_refuse at_ sr (fun at_3 sr_4 => (K_ at_3 sr_4 dp)))) ∧ (sr = x1 → ((30 ≤ dp → (vc_P_refuse at_ sr (fun at_8 sr_9 => (K_ at_8 sr_9 dp)))) ∧ (¬ 30 ≤ dp → (vc_P_step nO so wc at_ sr (fun at_12 sr_13 => (K_ at_12 sr_13 (dp + 1))))))))
set_option maxHeartbeats 4000000 in
set_option maxRecDepth 100000 in
theorem met_P_open {l : Launch} {dd : va_G} {cB cI cL cS : ClassId}  {oP : Nat} {oW : Nat} {aX : Nat} {aO : Nat} {aB : Nat} {aE : Nat} {oT : Nat}  {nO : Nat} {so : FN} {wc : Int32} {at_ : Int32} {sr : Int32} {dp : Int32} {ln : Int32} {x1 : Int32} {K_ : Int32 → Int32 → Int32 → Prop}  (hv : vc_P_open  nO so wc at_ sr dp x1 K_) : Ct l y_P_open w_P_open (rmk 1 0 0) dd cls5 [(cB, .byte), (cI, .int), (cL, .long), (cS, .object "java/lang/String")] XN [(oP, .inr (3, [.ref oW, .ref oT, .int at_, .int sr, .int dp])), (oW, .inr (1, [.ref aX, .int ln, .ref aO, .ref aB, .ref aE, .int wc])), (aO, .inl (cI, nO, .inl so))] [.ref oP, .int x1] (qv dd cls5 [(cB, .byte), (cI, .int), (cL, .long), (cS, .object "java/lang/String")] (fun u_ : Int32 × Int32 × Int32 => [(oP, .inr (3, [.ref oW, .ref oT, .int u_.1, .int u_.2.1, .int u_.2.2])), (oW, .inr (1, [.ref aX, .int ln, .ref aO, .ref aB, .ref aE, .int wc])), (aO, .inl (cI, nO, .inl so))]) (fun u_ => K_ u_.1 u_.2.1 u_.2.2)) 0 0 := by
  refine m_of (cc := b_P_open) (nL := 2) (ret := none) (by decide) rfl (Nat.le_of_ble_eq_true rfl) ?_
  intro p e s m below meth c ls A ar Fx_ hA hP hK hD hS hX hl
  obtain ⟨hx, hb, hml, hr, hlocks, hown, hts, hinn⟩ := Fx_
  generalize hQ : MQ below ((qv dd cls5 [(cB, .byte), (cI, .int), (cL, .long), (cS, .object "java/lang/String")] (fun u_ : Int32 × Int32 × Int32 => [(oP, .inr (3, [.ref oW, .ref oT, .int u_.1, .int u_.2.1, .int u_.2.2])), (oW, .inr (1, [.ref aX, .int ln, .ref aO, .ref aB, .ref aE, .int wc])), (aO, .inl (cI, nO, .inl so))]) (fun u_ => K_ u_.1 u_.2.1 u_.2.2)) A) ar s 0 0 A = QQ
  have hl : lv_has ls 2 [(0, .ref oP), (1, .int x1)] := hl
  unfold vc_P_open at hv
  refine lv_aload_n hx hb d_P_open_0 rfl (lv_at hl 0 rfl) ?_
  refine va_get (D := dd) (ci := 3) (C := Rc_P) (T := Fc_P) (N := 5) (v := .int sr) hx hb hts (inn in_P) hown hK hP 0 rfl rfl 3 (by decide) (hts (.fieldLink "NetText$Parser" 25 "NetText$Parser" "sort" "I") (tg at_98)) (fun _ h9 => h9) rfl d_P_open_1 ?_
  refine lv_iload_n hx hb d_P_open_4 rfl (lv_at hl 1 rfl) ?_
  refine lv_icmp_ne (tgt := 34) hx hb d_P_open_5 (by decide) (fun b_1 => ?_) (fun b_1 => ?_)
  · have hv := hv.1 b_1
    refine lv_aload_n hx hb d_P_open_34 rfl (lv_at hl 0 rfl) ?_
    have hM := met_P_refuse (l := l) (dd := dd) (cB := cB) (cI := cI) (cL := cL) (cS := cS) (oP := oP) (oW := oW) (oT := oT) (dp := dp)  hv
    refine kv_v (st := [.ref oP]) (rest := []) (wr := [(oW, .inr (1, [.ref aX, .int ln, .ref aO, .ref aB, .ref aE, .int wc])), (aO, .inl (cI, nO, .inl so))]) ⟨hx, hb, hml, hown, hts⟩ hM (cwV 0 hts (gv (tg0 at_369) (tg0 at_371) (tg0 ap_18) (tg0 at_4) (tg0 at_372)) rfl rfl rfl (by decide +kernel) (rk (by omega) (by decide))) x0b x0g hP hK hD hS hA [0] [1, 2] rfl rfl (by decide) (by decide) (by decide) (ci := 3) rfl rfl (q0 := 0) rfl rfl hl.1 rfl (Nat.le_of_ble_eq_true rfl) d_P_open_35 ⟨Nat.zero_le _, Nat.zero_le _⟩ (fun u_5 H locs hv hP hD hS => ?_)
    obtain ⟨at_3, sr_4⟩ := u_5
    have hP : va_P dd cls5 [(oW, .inr (1, [.ref aX, .int ln, .ref aO, .ref aB, .ref aE, .int wc])), (aO, .inl (cI, nO, .inl so)), (oP, .inr (3, [.ref oW, .ref oT, .int at_3, .int sr_4, .int dp]))] H := hP
    have hD : va_D A [(oW, .inr (1, [.ref aX, .int ln, .ref aO, .ref aB, .ref aE, .int wc])), (aO, .inl (cI, nO, .inl so)), (oP, .inr (3, [.ref oW, .ref oT, .int at_3, .int sr_4, .int dp]))] := hD
    subst hQ
    exact r_v hx hb hr hlocks  (at_3, sr_4, dp) hv (hP.sub [2, 0, 1] rfl) hK (hD.sub [2, 0, 1] (by decide) rfl) hS (Nat.le_refl _) (Nat.le_refl _) d_P_open_38
  · have hv := hv.2 b_1
    refine lv_aload_n hx hb d_P_open_8 rfl (lv_at hl 0 rfl) ?_
    refine va_get (D := dd) (ci := 3) (C := Rc_P) (T := Fc_P) (N := 5) (v := .int dp) hx hb hts (inn in_P) hown hK hP 0 rfl rfl 4 (by decide) (hts (.fieldLink "NetText$Parser" 28 "NetText$Parser" "depth" "I") (tg at_99)) (fun _ h9 => h9) rfl d_P_open_9 ?_
    refine lv_bipush (v := 30) hx hb d_P_open_12 (by decide) ?_
    refine lv_icmp_ge (tgt := 34) hx hb d_P_open_14 (by decide) (fun b_6 => ?_) (fun b_6 => ?_)
    · have hv := hv.1 b_6
      refine lv_aload_n hx hb d_P_open_34 rfl (lv_at hl 0 rfl) ?_
      have hM := met_P_refuse (l := l) (dd := dd) (cB := cB) (cI := cI) (cL := cL) (cS := cS) (oP := oP) (oW := oW) (oT := oT) (dp := dp)  hv
      refine kv_v (st := [.ref oP]) (rest := []) (wr := [(oW, .inr (1, [.ref aX, .int ln, .ref aO, .ref aB, .ref aE, .int wc])), (aO, .inl (cI, nO, .inl so))]) ⟨hx, hb, hml, hown, hts⟩ hM (cwV 0 hts (gv (tg0 at_369) (tg0 at_371) (tg0 ap_18) (tg0 at_4) (tg0 at_372)) rfl rfl rfl (by decide +kernel) (rk (by omega) (by decide))) x0b x0g hP hK hD hS hA [0] [1, 2] rfl rfl (by decide) (by decide) (by decide) (ci := 3) rfl rfl (q0 := 0) rfl rfl hl.1 rfl (Nat.le_of_ble_eq_true rfl) d_P_open_35 ⟨Nat.zero_le _, Nat.zero_le _⟩ (fun u_10 H locs hv hP hD hS => ?_)
      obtain ⟨at_8, sr_9⟩ := u_10
      have hP : va_P dd cls5 [(oW, .inr (1, [.ref aX, .int ln, .ref aO, .ref aB, .ref aE, .int wc])), (aO, .inl (cI, nO, .inl so)), (oP, .inr (3, [.ref oW, .ref oT, .int at_8, .int sr_9, .int dp]))] H := hP
      have hD : va_D A [(oW, .inr (1, [.ref aX, .int ln, .ref aO, .ref aB, .ref aE, .int wc])), (aO, .inl (cI, nO, .inl so)), (oP, .inr (3, [.ref oW, .ref oT, .int at_8, .int sr_9, .int dp]))] := hD
      subst hQ
      exact r_v hx hb hr hlocks  (at_8, sr_9, dp) hv (hP.sub [2, 0, 1] rfl) hK (hD.sub [2, 0, 1] (by decide) rfl) hS (Nat.le_refl _) (Nat.le_refl _) d_P_open_38
    · have hv := hv.2 b_6
      refine lv_aload_n hx hb d_P_open_17 rfl (lv_at hl 0 rfl) ?_
      refine lv_dup hx hb d_P_open_18 rfl ?_
      refine va_get (D := dd) (ci := 3) (C := Rc_P) (T := Fc_P) (N := 5) (v := .int dp) hx hb hts (inn in_P) hown hK hP 0 rfl rfl 4 (by decide) (hts (.fieldLink "NetText$Parser" 28 "NetText$Parser" "depth" "I") (tg at_99)) (fun _ h9 => h9) rfl d_P_open_19 ?_
      refine lv_iconst (v := 1) hx hb d_P_open_22 (by decide) ?_
      refine lv_iadd hx hb d_P_open_23 ?_
      refine va_put (D := dd) (ci := 3) (C := Rc_P) (T := Fc_P) (N := 5) (v := .int (dp + 1)) (ty := .int) hx hb hts (inn in_P) tyf_P tyf_P_ok nmf_P hown hK hP hD hS 0 rfl rfl 4 (by decide) (hts (.fieldLink "NetText$Parser" 28 "NetText$Parser" "depth" "I") (tg at_99)) (fun _ h9 => h9) rfl (by decide +kernel) rfl rfl (Nat.le_of_ble_eq_true rfl) d_P_open_24 (fun H locs hP hD hS => ?_)
      have hP : va_P dd cls5 [(oP, .inr (3, [.ref oW, .ref oT, .int at_, .int sr, .int (dp + 1)])), (oW, .inr (1, [.ref aX, .int ln, .ref aO, .ref aB, .ref aE, .int wc])), (aO, .inl (cI, nO, .inl so))] H := hP
      have hD : va_D A [(oP, .inr (3, [.ref oW, .ref oT, .int at_, .int sr, .int (dp + 1)])), (oW, .inr (1, [.ref aX, .int ln, .ref aO, .ref aB, .ref aE, .int wc])), (aO, .inl (cI, nO, .inl so))] := hD
      refine lv_aload_n hx hb d_P_open_27 rfl (lv_at hl 0 rfl) ?_
      have hM := met_P_step (l := l) (dd := dd) (cB := cB) (cI := cI) (cL := cL) (cS := cS) (oP := oP) (oW := oW) (aX := aX) (aO := aO) (aB := aB) (aE := aE) (oT := oT) (ln := ln) (dp := (dp + 1))  hv
      refine kv_v (st := [.ref oP]) (rest := []) (wr := []) ⟨hx, hb, hml, hown, hts⟩ hM (cwV 0 hts (gv (tg0 at_365) (tg0 at_367) (tg0 ap_17) (tg0 at_4) (tg0 at_368)) rfl rfl rfl (by decide +kernel) (rk (by omega) (by decide))) xnb (xng hX) hP hK hD hS hA [0, 1, 2] [] rfl rfl (by decide) (by decide) (by decide) (ci := 3) rfl rfl (q0 := 0) rfl rfl hl.1 rfl (Nat.le_of_ble_eq_true rfl) d_P_open_28 ⟨Nat.zero_le _, Nat.zero_le _⟩ (fun u_14 H locs hv hP hD hS => ?_)
      obtain ⟨at_12, sr_13⟩ := u_14
      have hP : va_P dd cls5 [(oP, .inr (3, [.ref oW, .ref oT, .int at_12, .int sr_13, .int (dp + 1)])), (oW, .inr (1, [.ref aX, .int ln, .ref aO, .ref aB, .ref aE, .int wc])), (aO, .inl (cI, nO, .inl so))] H := hP
      have hD : va_D A [(oP, .inr (3, [.ref oW, .ref oT, .int at_12, .int sr_13, .int (dp + 1)])), (oW, .inr (1, [.ref aX, .int ln, .ref aO, .ref aB, .ref aE, .int wc])), (aO, .inl (cI, nO, .inl so))] := hD
      refine lv_goto (tgt := 38) hx hb d_P_open_31 (by decide) ?_
      subst hQ
      exact r_v hx hb hr hlocks  (at_12, sr_13, (dp + 1)) hv (hP.sub [0, 1, 2] rfl) hK (hD.sub [0, 1, 2] (by decide) rfl) hS (Nat.le_refl _) (Nat.le_refl _) d_P_open_38
def vc_P_close  (nO : Nat) (so : FN) (wc : Int32) (at_ : Int32) (sr : Int32) (dp : Int32) (x1 : Int32) (K_ : Int32 → Int32 → Int32 → Prop) : Prop :=
  (vc_P_take nO so wc at_ sr x1 (fun at_2 sr_3 => (K_ at_2 sr_3 (dp - 1))))
set_option maxHeartbeats 4000000 in
set_option maxRecDepth 100000 in
theorem met_P_close {l : Launch} {dd : va_G} {cB cI cL cS : ClassId}  {oP : Nat} {oW : Nat} {aX : Nat} {aO : Nat} {aB : Nat} {aE : Nat} {oT : Nat}  {nO : Nat} {so : FN} {wc : Int32} {at_ : Int32} {sr : Int32} {dp : Int32} {ln : Int32} {x1 : Int32} {K_ : Int32 → Int32 → Int32 → Prop}  (hv : vc_P_close  nO so wc at_ sr dp x1 K_) : Ct l y_P_close w_P_close (rmk 2 0 0) dd cls5 [(cB, .byte), (cI, .int), (cL, .long), (cS, .object "java/lang/String")] XN [(oP, .inr (3, [.ref oW, .ref oT, .int at_, .int sr, .int dp])), (oW, .inr (1, [.ref aX, .int ln, .ref aO, .ref aB, .ref aE, .int wc])), (aO, .inl (cI, nO, .inl so))] [.ref oP, .int x1] (qv dd cls5 [(cB, .byte), (cI, .int), (cL, .long), (cS, .object "java/lang/String")] (fun u_ : Int32 × Int32 × Int32 => [(oP, .inr (3, [.ref oW, .ref oT, .int u_.1, .int u_.2.1, .int u_.2.2])), (oW, .inr (1, [.ref aX, .int ln, .ref aO, .ref aB, .ref aE, .int wc])), (aO, .inl (cI, nO, .inl so))]) (fun u_ => K_ u_.1 u_.2.1 u_.2.2)) 0 0 := by
  refine m_of (cc := b_P_close) (nL := 2) (ret := none) (by decide) rfl (Nat.le_of_ble_eq_true rfl) ?_
  intro p e s m below meth c ls A ar Fx_ hA hP hK hD hS hX hl
  obtain ⟨hx, hb, hml, hr, hlocks, hown, hts, hinn⟩ := Fx_
  generalize hQ : MQ below ((qv dd cls5 [(cB, .byte), (cI, .int), (cL, .long), (cS, .object "java/lang/String")] (fun u_ : Int32 × Int32 × Int32 => [(oP, .inr (3, [.ref oW, .ref oT, .int u_.1, .int u_.2.1, .int u_.2.2])), (oW, .inr (1, [.ref aX, .int ln, .ref aO, .ref aB, .ref aE, .int wc])), (aO, .inl (cI, nO, .inl so))]) (fun u_ => K_ u_.1 u_.2.1 u_.2.2)) A) ar s 0 0 A = QQ
  have hl : lv_has ls 2 [(0, .ref oP), (1, .int x1)] := hl
  unfold vc_P_close at hv
  refine lv_aload_n hx hb d_P_close_0 rfl (lv_at hl 0 rfl) ?_
  refine lv_iload_n hx hb d_P_close_1 rfl (lv_at hl 1 rfl) ?_
  have hM := met_P_take (l := l) (dd := dd) (cB := cB) (cI := cI) (cL := cL) (cS := cS) (oP := oP) (oW := oW) (aX := aX) (aO := aO) (aB := aB) (aE := aE) (oT := oT) (ln := ln) (dp := dp)  hv
  refine kv_v (st := [.int x1, .ref oP]) (rest := []) (wr := []) ⟨hx, hb, hml, hown, hts⟩ hM (cwV 1 hts (gv (tg0 at_361) (tg0 at_363) (tg0 ap_16) (tg0 at_4) (tg0 at_364)) rfl rfl rfl (by decide +kernel) (rk (by omega) (by decide))) xnb (xng hX) hP hK hD hS hA [0, 1, 2] [] rfl rfl (by decide) (by decide) (by decide) (ci := 3) rfl rfl (q0 := 0) rfl rfl hl.1 rfl (Nat.le_of_ble_eq_true rfl) d_P_close_2 ⟨Nat.zero_le _, Nat.zero_le _⟩ (fun u_4 H locs hv hP hD hS => ?_)
  obtain ⟨at_2, sr_3⟩ := u_4
  have hP : va_P dd cls5 [(oP, .inr (3, [.ref oW, .ref oT, .int at_2, .int sr_3, .int dp])), (oW, .inr (1, [.ref aX, .int ln, .ref aO, .ref aB, .ref aE, .int wc])), (aO, .inl (cI, nO, .inl so))] H := hP
  have hD : va_D A [(oP, .inr (3, [.ref oW, .ref oT, .int at_2, .int sr_3, .int dp])), (oW, .inr (1, [.ref aX, .int ln, .ref aO, .ref aB, .ref aE, .int wc])), (aO, .inl (cI, nO, .inl so))] := hD
  refine lv_aload_n hx hb d_P_close_5 rfl (lv_at hl 0 rfl) ?_
  refine lv_dup hx hb d_P_close_6 rfl ?_
  refine va_get (D := dd) (ci := 3) (C := Rc_P) (T := Fc_P) (N := 5) (v := .int dp) hx hb hts (inn in_P) hown hK hP 0 rfl rfl 4 (by decide) (hts (.fieldLink "NetText$Parser" 28 "NetText$Parser" "depth" "I") (tg at_99)) (fun _ h9 => h9) rfl d_P_close_7 ?_
  refine lv_iconst (v := 1) hx hb d_P_close_10 (by decide) ?_
  refine lv_isub hx hb d_P_close_11 ?_
  refine va_put (D := dd) (ci := 3) (C := Rc_P) (T := Fc_P) (N := 5) (v := .int (dp - 1)) (ty := .int) hx hb hts (inn in_P) tyf_P tyf_P_ok nmf_P hown hK hP hD hS 0 rfl rfl 4 (by decide) (hts (.fieldLink "NetText$Parser" 28 "NetText$Parser" "depth" "I") (tg at_99)) (fun _ h9 => h9) rfl (by decide +kernel) rfl rfl (Nat.le_of_ble_eq_true rfl) d_P_close_12 (fun H locs hP hD hS => ?_)
  have hP : va_P dd cls5 [(oP, .inr (3, [.ref oW, .ref oT, .int at_2, .int sr_3, .int (dp - 1)])), (oW, .inr (1, [.ref aX, .int ln, .ref aO, .ref aB, .ref aE, .int wc])), (aO, .inl (cI, nO, .inl so))] H := hP
  have hD : va_D A [(oP, .inr (3, [.ref oW, .ref oT, .int at_2, .int sr_3, .int (dp - 1)])), (oW, .inr (1, [.ref aX, .int ln, .ref aO, .ref aB, .ref aE, .int wc])), (aO, .inl (cI, nO, .inl so))] := hD
  subst hQ
  exact r_v hx hb hr hlocks  (at_2, sr_3, (dp - 1)) hv (hP.sub [0, 1, 2] rfl) hK (hD.sub [0, 1, 2] (by decide) rfl) hS (Nat.le_refl _) (Nat.le_refl _) d_P_close_15
def vc_P_name  (nO : Nat) (so : FN) (wc : Int32) (nT : Nat) (cn : Int32) (K : FN) (F : FN) (Pa : FN) (Sg : FN) (Dp : FN) (at_ : Int32) (sr : Int32) (dp : Int32) (x1 : Int32) (x2 : Int32) (K_ : KP) : Prop :=
  (vc_T_add nT cn K F Pa Sg Dp 15 at_ x1 x2 (fun r_1 cn_2 K_3 F_4 Pa_5 Sg_6 Dp_7 => (vc_P_take nO so wc at_ sr 3 (fun at_9 sr_10 => (K_ cn_2 K_3 F_4 Pa_5 Sg_6 Dp_7 at_9 sr_10 dp)))))
set_option maxHeartbeats 4000000 in
set_option maxRecDepth 100000 in
theorem met_P_name {l : Launch} {dd : va_G} {cB cI cL cS : ClassId}  {oP : Nat} {oW : Nat} {aX : Nat} {aO : Nat} {aB : Nat} {aE : Nat} {oT : Nat} {aK : Nat} {aF : Nat} {aP : Nat} {aS : Nat} {aD : Nat}  {nO : Nat} {so : FN} {wc : Int32} {nT : Nat} {cn : Int32} {K : FN} {F : FN} {Pa : FN} {Sg : FN} {Dp : FN} {at_ : Int32} {sr : Int32} {dp : Int32} {ln : Int32} {x1 : Int32} {x2 : Int32} {K_ : KP}  (hv : vc_P_name  nO so wc nT cn K F Pa Sg Dp at_ sr dp x1 x2 K_) : Ct l y_P_name w_P_name (rmk 2 0 0) dd cls5 [(cB, .byte), (cI, .int), (cL, .long), (cS, .object "java/lang/String")] XN [(oP, .inr (3, [.ref oW, .ref oT, .int at_, .int sr, .int dp])), (oW, .inr (1, [.ref aX, .int ln, .ref aO, .ref aB, .ref aE, .int wc])), (aO, .inl (cI, nO, .inl so)), (oT, .inr (2, [.ref aK, .ref aF, .ref aP, .ref aS, .ref aD, .int cn])), (aK, .inl (cI, nT, .inl K)), (aF, .inl (cI, nT, .inl F)), (aP, .inl (cI, nT, .inl Pa)), (aS, .inl (cI, nT, .inl Sg)), (aD, .inl (cI, nT, .inl Dp))] [.ref oP, .int x1, .int x2] (qv dd cls5 [(cB, .byte), (cI, .int), (cL, .long), (cS, .object "java/lang/String")] (fun u_ : Int32 × FN × FN × FN × FN × FN × Int32 × Int32 × Int32 => [(oP, .inr (3, [.ref oW, .ref oT, .int u_.2.2.2.2.2.2.1, .int u_.2.2.2.2.2.2.2.1, .int u_.2.2.2.2.2.2.2.2])), (oW, .inr (1, [.ref aX, .int ln, .ref aO, .ref aB, .ref aE, .int wc])), (aO, .inl (cI, nO, .inl so)), (oT, .inr (2, [.ref aK, .ref aF, .ref aP, .ref aS, .ref aD, .int u_.1])), (aK, .inl (cI, nT, .inl u_.2.1)), (aF, .inl (cI, nT, .inl u_.2.2.1)), (aP, .inl (cI, nT, .inl u_.2.2.2.1)), (aS, .inl (cI, nT, .inl u_.2.2.2.2.1)), (aD, .inl (cI, nT, .inl u_.2.2.2.2.2.1))]) (fun u_ => K_ u_.1 u_.2.1 u_.2.2.1 u_.2.2.2.1 u_.2.2.2.2.1 u_.2.2.2.2.2.1 u_.2.2.2.2.2.2.1 u_.2.2.2.2.2.2.2.1 u_.2.2.2.2.2.2.2.2)) 0 0 := by
  refine m_of (cc := b_P_name) (nL := 3) (ret := none) (by decide) rfl (Nat.le_of_ble_eq_true rfl) ?_
  intro p e s m below meth c ls A ar Fx_ hA hP hK hD hS hX hl
  obtain ⟨hx, hb, hml, hr, hlocks, hown, hts, hinn⟩ := Fx_
  generalize hQ : MQ below ((qv dd cls5 [(cB, .byte), (cI, .int), (cL, .long), (cS, .object "java/lang/String")] (fun u_ : Int32 × FN × FN × FN × FN × FN × Int32 × Int32 × Int32 => [(oP, .inr (3, [.ref oW, .ref oT, .int u_.2.2.2.2.2.2.1, .int u_.2.2.2.2.2.2.2.1, .int u_.2.2.2.2.2.2.2.2])), (oW, .inr (1, [.ref aX, .int ln, .ref aO, .ref aB, .ref aE, .int wc])), (aO, .inl (cI, nO, .inl so)), (oT, .inr (2, [.ref aK, .ref aF, .ref aP, .ref aS, .ref aD, .int u_.1])), (aK, .inl (cI, nT, .inl u_.2.1)), (aF, .inl (cI, nT, .inl u_.2.2.1)), (aP, .inl (cI, nT, .inl u_.2.2.2.1)), (aS, .inl (cI, nT, .inl u_.2.2.2.2.1)), (aD, .inl (cI, nT, .inl u_.2.2.2.2.2.1))]) (fun u_ => K_ u_.1 u_.2.1 u_.2.2.1 u_.2.2.2.1 u_.2.2.2.2.1 u_.2.2.2.2.2.1 u_.2.2.2.2.2.2.1 u_.2.2.2.2.2.2.2.1 u_.2.2.2.2.2.2.2.2)) A) ar s 0 0 A = QQ
  have hl : lv_has ls 3 [(0, .ref oP), (1, .int x1), (2, .int x2)] := hl
  unfold vc_P_name at hv
  refine lv_aload_n hx hb d_P_name_0 rfl (lv_at hl 0 rfl) ?_
  refine va_get (D := dd) (ci := 3) (C := Rc_P) (T := Fc_P) (N := 5) (v := .ref oT) hx hb hts (inn in_P) hown hK hP 0 rfl rfl 1 (by decide) (hts (.fieldLink "NetText$Parser" 15 "NetText$Parser" "tree" "LNetText$Tree;") (tg at_96)) (fun _ h9 => h9) rfl d_P_name_1 ?_
  refine lv_bipush (v := 15) hx hb d_P_name_4 (by decide) ?_
  refine lv_aload_n hx hb d_P_name_6 rfl (lv_at hl 0 rfl) ?_
  refine va_get (D := dd) (ci := 3) (C := Rc_P) (T := Fc_P) (N := 5) (v := .int at_) hx hb hts (inn in_P) hown hK hP 0 rfl rfl 2 (by decide) (hts (.fieldLink "NetText$Parser" 19 "NetText$Parser" "at" "I") (tg at_97)) (fun _ h9 => h9) rfl d_P_name_7 ?_
  refine lv_iload_n hx hb d_P_name_10 rfl (lv_at hl 1 rfl) ?_
  refine lv_iload_n hx hb d_P_name_11 rfl (lv_at hl 2 rfl) ?_
  have hM := met_T_add (l := l) (dd := dd) (cB := cB) (cI := cI) (cL := cL) (cS := cS) (oT := oT) (aK := aK) (aF := aF) (aP := aP) (aS := aS) (aD := aD)  hv
  refine kv_i (st := [.int x2, .int x1, .int at_, .int 15, .ref oT]) (rest := []) (wr := [(oP, .inr (3, [.ref oW, .ref oT, .int at_, .int sr, .int dp])), (oW, .inr (1, [.ref aX, .int ln, .ref aO, .ref aB, .ref aE, .int wc])), (aO, .inl (cI, nO, .inl so))]) ⟨hx, hb, hml, hown, hts⟩ hM (cwV 4 hts (gv (tg0 at_357) (tg0 at_358) (tg0 at_359) (tg0 at_3) (tg0 at_360)) rfl rfl rfl (by decide +kernel) (rk (by omega) (by decide))) x0b x0g hP hK hD hS hA [3, 4, 5, 6, 7, 8] [0, 1, 2] rfl rfl (by decide) (by decide) (by decide) (ci := 2) rfl rfl (q0 := 3) rfl rfl hl.1 rfl (Nat.le_of_ble_eq_true rfl) d_P_name_12 ⟨Nat.zero_le _, Nat.zero_le _⟩ (fun r_1 u_12 H locs hv hP hD hS => ?_)
  obtain ⟨cn_2, K_3, F_4, Pa_5, Sg_6, Dp_7⟩ := u_12
  have hP : va_P dd cls5 [(oP, .inr (3, [.ref oW, .ref oT, .int at_, .int sr, .int dp])), (oW, .inr (1, [.ref aX, .int ln, .ref aO, .ref aB, .ref aE, .int wc])), (aO, .inl (cI, nO, .inl so)), (oT, .inr (2, [.ref aK, .ref aF, .ref aP, .ref aS, .ref aD, .int cn_2])), (aK, .inl (cI, nT, .inl K_3)), (aF, .inl (cI, nT, .inl F_4)), (aP, .inl (cI, nT, .inl Pa_5)), (aS, .inl (cI, nT, .inl Sg_6)), (aD, .inl (cI, nT, .inl Dp_7))] H := hP
  have hD : va_D A [(oP, .inr (3, [.ref oW, .ref oT, .int at_, .int sr, .int dp])), (oW, .inr (1, [.ref aX, .int ln, .ref aO, .ref aB, .ref aE, .int wc])), (aO, .inl (cI, nO, .inl so)), (oT, .inr (2, [.ref aK, .ref aF, .ref aP, .ref aS, .ref aD, .int cn_2])), (aK, .inl (cI, nT, .inl K_3)), (aF, .inl (cI, nT, .inl F_4)), (aP, .inl (cI, nT, .inl Pa_5)), (aS, .inl (cI, nT, .inl Sg_6)), (aD, .inl (cI, nT, .inl Dp_7))] := hD
  refine lv_pop hx hb d_P_name_15 rfl ?_
  refine lv_aload_n hx hb d_P_name_16 rfl (lv_at hl 0 rfl) ?_
  refine lv_iconst (v := 3) hx hb d_P_name_17 (by decide) ?_
  have hM := met_P_take (l := l) (dd := dd) (cB := cB) (cI := cI) (cL := cL) (cS := cS) (oP := oP) (oW := oW) (aX := aX) (aO := aO) (aB := aB) (aE := aE) (oT := oT) (ln := ln) (dp := dp)  hv
  refine kv_v (st := [.int 3, .ref oP]) (rest := []) (wr := [(oT, .inr (2, [.ref aK, .ref aF, .ref aP, .ref aS, .ref aD, .int cn_2])), (aK, .inl (cI, nT, .inl K_3)), (aF, .inl (cI, nT, .inl F_4)), (aP, .inl (cI, nT, .inl Pa_5)), (aS, .inl (cI, nT, .inl Sg_6)), (aD, .inl (cI, nT, .inl Dp_7))]) ⟨hx, hb, hml, hown, hts⟩ hM (cwV 1 hts (gv (tg0 at_361) (tg0 at_363) (tg0 ap_16) (tg0 at_4) (tg0 at_364)) rfl rfl rfl (by decide +kernel) (rk (by omega) (by decide))) xnb (xng hX) hP hK hD hS hA [0, 1, 2] [3, 4, 5, 6, 7, 8] rfl rfl (by decide) (by decide) (by decide) (ci := 3) rfl rfl (q0 := 0) rfl rfl hl.1 rfl (Nat.le_of_ble_eq_true rfl) d_P_name_18 ⟨Nat.zero_le _, Nat.zero_le _⟩ (fun u_11 H locs hv hP hD hS => ?_)
  obtain ⟨at_9, sr_10⟩ := u_11
  have hP : va_P dd cls5 [(oT, .inr (2, [.ref aK, .ref aF, .ref aP, .ref aS, .ref aD, .int cn_2])), (aK, .inl (cI, nT, .inl K_3)), (aF, .inl (cI, nT, .inl F_4)), (aP, .inl (cI, nT, .inl Pa_5)), (aS, .inl (cI, nT, .inl Sg_6)), (aD, .inl (cI, nT, .inl Dp_7)), (oP, .inr (3, [.ref oW, .ref oT, .int at_9, .int sr_10, .int dp])), (oW, .inr (1, [.ref aX, .int ln, .ref aO, .ref aB, .ref aE, .int wc])), (aO, .inl (cI, nO, .inl so))] H := hP
  have hD : va_D A [(oT, .inr (2, [.ref aK, .ref aF, .ref aP, .ref aS, .ref aD, .int cn_2])), (aK, .inl (cI, nT, .inl K_3)), (aF, .inl (cI, nT, .inl F_4)), (aP, .inl (cI, nT, .inl Pa_5)), (aS, .inl (cI, nT, .inl Sg_6)), (aD, .inl (cI, nT, .inl Dp_7)), (oP, .inr (3, [.ref oW, .ref oT, .int at_9, .int sr_10, .int dp])), (oW, .inr (1, [.ref aX, .int ln, .ref aO, .ref aB, .ref aE, .int wc])), (aO, .inl (cI, nO, .inl so))] := hD
  subst hQ
  exact r_v hx hb hr hlocks  (cn_2, K_3, F_4, Pa_5, Sg_6, Dp_7, at_9, sr_10, dp) hv (hP.sub [6, 7, 8, 0, 1, 2, 3, 4, 5] rfl) hK (hD.sub [6, 7, 8, 0, 1, 2, 3, 4, 5] (by decide) rfl) hS (Nat.le_refl _) (Nat.le_refl _) d_P_name_21
def vl_P_names_8  (nO : Nat) (so : FN) (wc : Int32) (nT : Nat) (cn : Int32) (K : FN) (F : FN) (Pa : FN) (Sg : FN) (Dp : FN) (at_ : Int32) (sr : Int32) (dp : Int32) (x1 : Int32) (x2 : Int32)  (K_ : KP) : Nat → Int32 → Int32 → FN → FN → FN → FN → FN → Int32 → Int32 → Int32 → Prop
  | 0 => fun _ _ _ _ _ _ _ _ _ _ => False
  | n_ + 1 => fun x3_h8 cn_h8 K_h8 F_h8 Pa_h8 Sg_h8 Dp_h8 at_h8 sr_h8 dp_h8 =>
  ((wc ≤ x3_h8 → (K_ cn_h8 K_h8 F_h8 Pa_h8 Sg_h8 Dp_h8 at_h8 sr_h8 dp_h8)) ∧ (¬ wc ≤ x3_h8 → ((¬ sr_h8 = 44 → (K_ cn_h8 K_h8 F_h8 Pa_h8 Sg_h8 Dp_h8 at_h8 sr_h8 dp_h8)) ∧ (sr_h8 = 44 → (vc_P_step nO so wc at_h8 sr_h8 (fun at_14 sr_15 => (vc_P_name nO so wc nT cn_h8 K_h8 F_h8 Pa_h8 Sg_h8 Dp_h8 at_14 sr_15 dp_h8 x1 x2 (fun cn_17 K_18 F_19 Pa_20 Sg_21 Dp_22 at_23 sr_24 dp_25 => (vl_P_names_8 nO so wc nT cn K F Pa Sg Dp at_ sr dp x1 x2  K_ n_ (x3_h8 + 1) cn_17 K_18 F_19 Pa_20 Sg_21 Dp_22 at_23 sr_24 dp_25)))))))))
def vc_P_names  (nO : Nat) (so : FN) (wc : Int32) (nT : Nat) (cn : Int32) (K : FN) (F : FN) (Pa : FN) (Sg : FN) (Dp : FN) (at_ : Int32) (sr : Int32) (dp : Int32) (x1 : Int32) (x2 : Int32) (K_ : KP) : Prop :=
  (vc_P_name nO so wc nT cn K F Pa Sg Dp at_ sr dp x1 x2 (fun cn_2 K_3 F_4 Pa_5 Sg_6 Dp_7 at_8 sr_9 dp_10 => (∃ n_, vl_P_names_8 nO so wc nT cn K F Pa Sg Dp at_ sr dp x1 x2 K_ n_ 0 cn_2 K_3 F_4 Pa_5 Sg_6 Dp_7 at_8 sr_9 dp_10)))
set_option maxHeartbeats 4000000 in
set_option maxRecDepth 100000 in
theorem met_P_names {l : Launch} {dd : va_G} {cB cI cL cS : ClassId}  {oP : Nat} {oW : Nat} {aX : Nat} {aO : Nat} {aB : Nat} {aE : Nat} {oT : Nat} {aK : Nat} {aF : Nat} {aP : Nat} {aS : Nat} {aD : Nat}  {nO : Nat} {so : FN} {wc : Int32} {nT : Nat} {cn : Int32} {K : FN} {F : FN} {Pa : FN} {Sg : FN} {Dp : FN} {at_ : Int32} {sr : Int32} {dp : Int32} {ln : Int32} {x1 : Int32} {x2 : Int32} {K_ : KP}  (hv : vc_P_names  nO so wc nT cn K F Pa Sg Dp at_ sr dp x1 x2 K_) : Ct l y_P_names w_P_names (rmk 3 0 0) dd cls5 [(cB, .byte), (cI, .int), (cL, .long), (cS, .object "java/lang/String")] XN [(oP, .inr (3, [.ref oW, .ref oT, .int at_, .int sr, .int dp])), (oW, .inr (1, [.ref aX, .int ln, .ref aO, .ref aB, .ref aE, .int wc])), (aO, .inl (cI, nO, .inl so)), (oT, .inr (2, [.ref aK, .ref aF, .ref aP, .ref aS, .ref aD, .int cn])), (aK, .inl (cI, nT, .inl K)), (aF, .inl (cI, nT, .inl F)), (aP, .inl (cI, nT, .inl Pa)), (aS, .inl (cI, nT, .inl Sg)), (aD, .inl (cI, nT, .inl Dp))] [.ref oP, .int x1, .int x2] (qv dd cls5 [(cB, .byte), (cI, .int), (cL, .long), (cS, .object "java/lang/String")] (fun u_ : Int32 × FN × FN × FN × FN × FN × Int32 × Int32 × Int32 => [(oP, .inr (3, [.ref oW, .ref oT, .int u_.2.2.2.2.2.2.1, .int u_.2.2.2.2.2.2.2.1, .int u_.2.2.2.2.2.2.2.2])), (oW, .inr (1, [.ref aX, .int ln, .ref aO, .ref aB, .ref aE, .int wc])), (aO, .inl (cI, nO, .inl so)), (oT, .inr (2, [.ref aK, .ref aF, .ref aP, .ref aS, .ref aD, .int u_.1])), (aK, .inl (cI, nT, .inl u_.2.1)), (aF, .inl (cI, nT, .inl u_.2.2.1)), (aP, .inl (cI, nT, .inl u_.2.2.2.1)), (aS, .inl (cI, nT, .inl u_.2.2.2.2.1)), (aD, .inl (cI, nT, .inl u_.2.2.2.2.2.1))]) (fun u_ => K_ u_.1 u_.2.1 u_.2.2.1 u_.2.2.2.1 u_.2.2.2.2.1 u_.2.2.2.2.2.1 u_.2.2.2.2.2.2.1 u_.2.2.2.2.2.2.2.1 u_.2.2.2.2.2.2.2.2)) 0 0 := by
  refine m_of (cc := b_P_names) (nL := 4) (ret := none) (by decide) rfl (Nat.le_of_ble_eq_true rfl) ?_
  intro p e s m below meth c ls A ar Fx_ hA hP hK hD hS hX hl
  obtain ⟨hx, hb, hml, hr, hlocks, hown, hts, hinn⟩ := Fx_
  generalize hQ : MQ below ((qv dd cls5 [(cB, .byte), (cI, .int), (cL, .long), (cS, .object "java/lang/String")] (fun u_ : Int32 × FN × FN × FN × FN × FN × Int32 × Int32 × Int32 => [(oP, .inr (3, [.ref oW, .ref oT, .int u_.2.2.2.2.2.2.1, .int u_.2.2.2.2.2.2.2.1, .int u_.2.2.2.2.2.2.2.2])), (oW, .inr (1, [.ref aX, .int ln, .ref aO, .ref aB, .ref aE, .int wc])), (aO, .inl (cI, nO, .inl so)), (oT, .inr (2, [.ref aK, .ref aF, .ref aP, .ref aS, .ref aD, .int u_.1])), (aK, .inl (cI, nT, .inl u_.2.1)), (aF, .inl (cI, nT, .inl u_.2.2.1)), (aP, .inl (cI, nT, .inl u_.2.2.2.1)), (aS, .inl (cI, nT, .inl u_.2.2.2.2.1)), (aD, .inl (cI, nT, .inl u_.2.2.2.2.2.1))]) (fun u_ => K_ u_.1 u_.2.1 u_.2.2.1 u_.2.2.2.1 u_.2.2.2.2.1 u_.2.2.2.2.2.1 u_.2.2.2.2.2.2.1 u_.2.2.2.2.2.2.2.1 u_.2.2.2.2.2.2.2.2)) A) ar s 0 0 A = QQ
  have hl : lv_has ls 4 [(0, .ref oP), (1, .int x1), (2, .int x2)] := hl
  unfold vc_P_names at hv
  refine lv_aload_n hx hb d_P_names_0 rfl (lv_at hl 0 rfl) ?_
  refine lv_iload_n hx hb d_P_names_1 rfl (lv_at hl 1 rfl) ?_
  refine lv_iload_n hx hb d_P_names_2 rfl (lv_at hl 2 rfl) ?_
  have hM := met_P_name (l := l) (dd := dd) (cB := cB) (cI := cI) (cL := cL) (cS := cS) (oP := oP) (oW := oW) (aX := aX) (aO := aO) (aB := aB) (aE := aE) (oT := oT) (aK := aK) (aF := aF) (aP := aP) (aS := aS) (aD := aD) (ln := ln)  hv
  refine kv_v (st := [.int x2, .int x1, .ref oP]) (rest := []) (wr := []) ⟨hx, hb, hml, hown, hts⟩ hM (cwV 2 hts (gv (tg0 at_397) (tg0 at_399) (tg0 ap_25) (tg0 at_4) (tg0 at_400)) rfl rfl rfl (by decide +kernel) (rk (by omega) (by decide))) xnb (xng hX) hP hK hD hS hA [0, 1, 2, 3, 4, 5, 6, 7, 8] [] rfl rfl (by decide) (by decide) (by decide) (ci := 3) rfl rfl (q0 := 0) rfl rfl hl.1 rfl (Nat.le_of_ble_eq_true rfl) d_P_names_3 ⟨Nat.zero_le _, Nat.zero_le _⟩ (fun u_28 H locs hv hP hD hS => ?_)
  obtain ⟨cn_2, K_3, F_4, Pa_5, Sg_6, Dp_7, at_8, sr_9, dp_10⟩ := u_28
  have hP : va_P dd cls5 [(oP, .inr (3, [.ref oW, .ref oT, .int at_8, .int sr_9, .int dp_10])), (oW, .inr (1, [.ref aX, .int ln, .ref aO, .ref aB, .ref aE, .int wc])), (aO, .inl (cI, nO, .inl so)), (oT, .inr (2, [.ref aK, .ref aF, .ref aP, .ref aS, .ref aD, .int cn_2])), (aK, .inl (cI, nT, .inl K_3)), (aF, .inl (cI, nT, .inl F_4)), (aP, .inl (cI, nT, .inl Pa_5)), (aS, .inl (cI, nT, .inl Sg_6)), (aD, .inl (cI, nT, .inl Dp_7))] H := hP
  have hD : va_D A [(oP, .inr (3, [.ref oW, .ref oT, .int at_8, .int sr_9, .int dp_10])), (oW, .inr (1, [.ref aX, .int ln, .ref aO, .ref aB, .ref aE, .int wc])), (aO, .inl (cI, nO, .inl so)), (oT, .inr (2, [.ref aK, .ref aF, .ref aP, .ref aS, .ref aD, .int cn_2])), (aK, .inl (cI, nT, .inl K_3)), (aF, .inl (cI, nT, .inl F_4)), (aP, .inl (cI, nT, .inl Pa_5)), (aS, .inl (cI, nT, .inl Sg_6)), (aD, .inl (cI, nT, .inl Dp_7))] := hD
  refine lv_iconst (v := 0) hx hb d_P_names_6 (by decide) ?_
  refine lv_istore_n (lv' := [(3, .int 0), (0, .ref oP), (1, .int x1), (2, .int x2)]) hx hb d_P_names_7 rfl hl (by decide) rfl (fun ls hl => ?_)
  obtain ⟨n_8, hv⟩ := hv
  have LP_8 : ∀ (n_ : Nat) (x3_h8 : Int32) (cn_h8 : Int32) (K_h8 : FN) (F_h8 : FN) (Pa_h8 : FN) (Sg_h8 : FN) (Dp_h8 : FN) (at_h8 : Int32) (sr_h8 : Int32) (dp_h8 : Int32) (H : Heap) (locs : List Loc) (ls : Array Slot), vl_P_names_8 nO so wc nT cn K F Pa Sg Dp at_ sr dp x1 x2 K_ n_ x3_h8 cn_h8 K_h8 F_h8 Pa_h8 Sg_h8 Dp_h8 at_h8 sr_h8 dp_h8 → va_P dd cls5 [(oP, .inr (3, [.ref oW, .ref oT, .int at_h8, .int sr_h8, .int dp_h8])), (oW, .inr (1, [.ref aX, .int ln, .ref aO, .ref aB, .ref aE, .int wc])), (aO, .inl (cI, nO, .inl so)), (oT, .inr (2, [.ref aK, .ref aF, .ref aP, .ref aS, .ref aD, .int cn_h8])), (aK, .inl (cI, nT, .inl K_h8)), (aF, .inl (cI, nT, .inl F_h8)), (aP, .inl (cI, nT, .inl Pa_h8)), (aS, .inl (cI, nT, .inl Sg_h8)), (aD, .inl (cI, nT, .inl Dp_h8))] H → va_D A [(oP, .inr (3, [.ref oW, .ref oT, .int at_h8, .int sr_h8, .int dp_h8])), (oW, .inr (1, [.ref aX, .int ln, .ref aO, .ref aB, .ref aE, .int wc])), (aO, .inl (cI, nO, .inl so)), (oT, .inr (2, [.ref aK, .ref aF, .ref aP, .ref aS, .ref aD, .int cn_h8])), (aK, .inl (cI, nT, .inl K_h8)), (aF, .inl (cI, nT, .inl F_h8)), (aP, .inl (cI, nT, .inl Pa_h8)), (aS, .inl (cI, nT, .inl Sg_h8)), (aD, .inl (cI, nT, .inl Dp_h8))] → va_S A s.heap H locs → lv_has ls 4 [(3, .int x3_h8), (0, .ref oP), (1, .int x1), (2, .int x2)] → W p l e (rmk 3 0 0) s m ar below meth c H locs (0) (0) QQ (F0 m 8 ls []) := by
    intro n_
    induction n_ with
    | zero => intro x3_h8 cn_h8 K_h8 F_h8 Pa_h8 Sg_h8 Dp_h8 at_h8 sr_h8 dp_h8 H locs ls hv; exact False.elim hv
    | succ n_ ih =>
      intro x3_h8 cn_h8 K_h8 F_h8 Pa_h8 Sg_h8 Dp_h8 at_h8 sr_h8 dp_h8 H locs ls hv hP hD hS hl
      unfold vl_P_names_8 at hv
      refine lv_iload_n hx hb d_P_names_8 rfl (lv_at hl 0 rfl) ?_
      refine lv_aload_n hx hb d_P_names_9 rfl (lv_at hl 1 rfl) ?_
      refine va_get (D := dd) (ci := 3) (C := Rc_P) (T := Fc_P) (N := 5) (v := .ref oW) hx hb hts (inn in_P) hown hK hP 0 rfl rfl 0 (by decide) (hts (.fieldLink "NetText$Parser" 9 "NetText$Parser" "words" "LNetText$Words;") (tg at_95)) (fun _ h9 => h9) rfl d_P_names_10 ?_
      refine va_getN (D := dd) (ci := 1) (C := Rc_W) (T := Fc_W) (N := 6) (v := .int wc) hx hb hts (inn in_W) hown hK hP 1 rfl rfl 5 (by decide) (va_Nw.use rfl (hX _ nw_1)) (fun _ h9 => h9) rfl d_P_names_13 ?_
      refine lv_icmp_ge (tgt := 44) hx hb d_P_names_16 (by decide) (fun b_11 => ?_) (fun b_11 => ?_)
      · have hv := hv.1 b_11
        subst hQ
        exact r_v hx hb hr hlocks  (cn_h8, K_h8, F_h8, Pa_h8, Sg_h8, Dp_h8, at_h8, sr_h8, dp_h8) hv (hP.sub [0, 1, 2, 3, 4, 5, 6, 7, 8] rfl) hK (hD.sub [0, 1, 2, 3, 4, 5, 6, 7, 8] (by decide) rfl) hS (Nat.le_refl _) (Nat.le_refl _) d_P_names_44
      · have hv := hv.2 b_11
        refine lv_aload_n hx hb d_P_names_19 rfl (lv_at hl 1 rfl) ?_
        refine va_get (D := dd) (ci := 3) (C := Rc_P) (T := Fc_P) (N := 5) (v := .int sr_h8) hx hb hts (inn in_P) hown hK hP 0 rfl rfl 3 (by decide) (hts (.fieldLink "NetText$Parser" 25 "NetText$Parser" "sort" "I") (tg at_98)) (fun _ h9 => h9) rfl d_P_names_20 ?_
        refine lv_bipush (v := 44) hx hb d_P_names_23 (by decide) ?_
        refine lv_icmp_ne (tgt := 44) hx hb d_P_names_25 (by decide) (fun b_12 => ?_) (fun b_12 => ?_)
        · have hv := hv.1 b_12
          subst hQ
          exact r_v hx hb hr hlocks  (cn_h8, K_h8, F_h8, Pa_h8, Sg_h8, Dp_h8, at_h8, sr_h8, dp_h8) hv (hP.sub [0, 1, 2, 3, 4, 5, 6, 7, 8] rfl) hK (hD.sub [0, 1, 2, 3, 4, 5, 6, 7, 8] (by decide) rfl) hS (Nat.le_refl _) (Nat.le_refl _) d_P_names_44
        · have hv := hv.2 b_12
          refine lv_aload_n hx hb d_P_names_28 rfl (lv_at hl 1 rfl) ?_
          have hM := met_P_step (l := l) (dd := dd) (cB := cB) (cI := cI) (cL := cL) (cS := cS) (oP := oP) (oW := oW) (aX := aX) (aO := aO) (aB := aB) (aE := aE) (oT := oT) (ln := ln) (dp := dp_h8)  hv
          refine kv_v (st := [.ref oP]) (rest := []) (wr := [(oT, .inr (2, [.ref aK, .ref aF, .ref aP, .ref aS, .ref aD, .int cn_h8])), (aK, .inl (cI, nT, .inl K_h8)), (aF, .inl (cI, nT, .inl F_h8)), (aP, .inl (cI, nT, .inl Pa_h8)), (aS, .inl (cI, nT, .inl Sg_h8)), (aD, .inl (cI, nT, .inl Dp_h8))]) ⟨hx, hb, hml, hown, hts⟩ hM (cwV 0 hts (gv (tg0 at_365) (tg0 at_367) (tg0 ap_17) (tg0 at_4) (tg0 at_368)) rfl rfl rfl (by decide +kernel) (rk (by omega) (by decide))) xnb (xng hX) hP hK hD hS hA [0, 1, 2] [3, 4, 5, 6, 7, 8] rfl rfl (by decide) (by decide) (by decide) (ci := 3) rfl rfl (q0 := 0) rfl rfl hl.1 rfl (Nat.le_of_ble_eq_true rfl) d_P_names_29 ⟨Nat.zero_le _, Nat.zero_le _⟩ (fun u_27 H locs hv hP hD hS => ?_)
          obtain ⟨at_14, sr_15⟩ := u_27
          have hP : va_P dd cls5 [(oT, .inr (2, [.ref aK, .ref aF, .ref aP, .ref aS, .ref aD, .int cn_h8])), (aK, .inl (cI, nT, .inl K_h8)), (aF, .inl (cI, nT, .inl F_h8)), (aP, .inl (cI, nT, .inl Pa_h8)), (aS, .inl (cI, nT, .inl Sg_h8)), (aD, .inl (cI, nT, .inl Dp_h8)), (oP, .inr (3, [.ref oW, .ref oT, .int at_14, .int sr_15, .int dp_h8])), (oW, .inr (1, [.ref aX, .int ln, .ref aO, .ref aB, .ref aE, .int wc])), (aO, .inl (cI, nO, .inl so))] H := hP
          have hD : va_D A [(oT, .inr (2, [.ref aK, .ref aF, .ref aP, .ref aS, .ref aD, .int cn_h8])), (aK, .inl (cI, nT, .inl K_h8)), (aF, .inl (cI, nT, .inl F_h8)), (aP, .inl (cI, nT, .inl Pa_h8)), (aS, .inl (cI, nT, .inl Sg_h8)), (aD, .inl (cI, nT, .inl Dp_h8)), (oP, .inr (3, [.ref oW, .ref oT, .int at_14, .int sr_15, .int dp_h8])), (oW, .inr (1, [.ref aX, .int ln, .ref aO, .ref aB, .ref aE, .int wc])), (aO, .inl (cI, nO, .inl so))] := hD
          refine lv_aload_n hx hb d_P_names_32 rfl (lv_at hl 1 rfl) ?_
          refine lv_iload_n hx hb d_P_names_33 rfl (lv_at hl 2 rfl) ?_
          refine lv_iload_n hx hb d_P_names_34 rfl (lv_at hl 3 rfl) ?_
          have hM := met_P_name (l := l) (dd := dd) (cB := cB) (cI := cI) (cL := cL) (cS := cS) (oP := oP) (oW := oW) (aX := aX) (aO := aO) (aB := aB) (aE := aE) (oT := oT) (aK := aK) (aF := aF) (aP := aP) (aS := aS) (aD := aD) (ln := ln)  hv
          refine kv_v (st := [.int x2, .int x1, .ref oP]) (rest := []) (wr := []) ⟨hx, hb, hml, hown, hts⟩ hM (cwV 2 hts (gv (tg0 at_397) (tg0 at_399) (tg0 ap_25) (tg0 at_4) (tg0 at_400)) rfl rfl rfl (by decide +kernel) (rk (by omega) (by decide))) xnb (xng hX) hP hK hD hS hA [6, 7, 8, 0, 1, 2, 3, 4, 5] [] rfl rfl (by decide) (by decide) (by decide) (ci := 3) rfl rfl (q0 := 6) rfl rfl hl.1 rfl (Nat.le_of_ble_eq_true rfl) d_P_names_35 ⟨Nat.zero_le _, Nat.zero_le _⟩ (fun u_26 H locs hv hP hD hS => ?_)
          obtain ⟨cn_17, K_18, F_19, Pa_20, Sg_21, Dp_22, at_23, sr_24, dp_25⟩ := u_26
          have hP : va_P dd cls5 [(oP, .inr (3, [.ref oW, .ref oT, .int at_23, .int sr_24, .int dp_25])), (oW, .inr (1, [.ref aX, .int ln, .ref aO, .ref aB, .ref aE, .int wc])), (aO, .inl (cI, nO, .inl so)), (oT, .inr (2, [.ref aK, .ref aF, .ref aP, .ref aS, .ref aD, .int cn_17])), (aK, .inl (cI, nT, .inl K_18)), (aF, .inl (cI, nT, .inl F_19)), (aP, .inl (cI, nT, .inl Pa_20)), (aS, .inl (cI, nT, .inl Sg_21)), (aD, .inl (cI, nT, .inl Dp_22))] H := hP
          have hD : va_D A [(oP, .inr (3, [.ref oW, .ref oT, .int at_23, .int sr_24, .int dp_25])), (oW, .inr (1, [.ref aX, .int ln, .ref aO, .ref aB, .ref aE, .int wc])), (aO, .inl (cI, nO, .inl so)), (oT, .inr (2, [.ref aK, .ref aF, .ref aP, .ref aS, .ref aD, .int cn_17])), (aK, .inl (cI, nT, .inl K_18)), (aF, .inl (cI, nT, .inl F_19)), (aP, .inl (cI, nT, .inl Pa_20)), (aS, .inl (cI, nT, .inl Sg_21)), (aD, .inl (cI, nT, .inl Dp_22))] := hD
          refine lv_iinc (v := (x3_h8 + 1)) (lv' := [(3, .int (x3_h8 + 1)), (0, .ref oP), (1, .int x1), (2, .int x2)]) hx hb d_P_names_38 hl (k := 0) rfl rfl (by decide) rfl (fun ls hl => ?_)
          refine lv_goto (tgt := 8) hx hb d_P_names_41 (by decide) ?_
          exact ih (x3_h8 + 1) cn_17 K_18 F_19 Pa_20 Sg_21 Dp_22 at_23 sr_24 dp_25 _ _ _ hv (hP.sub [0, 1, 2, 3, 4, 5, 6, 7, 8] rfl) (hD.sub [0, 1, 2, 3, 4, 5, 6, 7, 8] (by decide) rfl) hS (lv_sub hl [0, 1, 2, 3] rfl)
  exact LP_8 n_8 0 cn_2 K_3 F_4 Pa_5 Sg_6 Dp_7 at_8 sr_9 dp_10 _ _ _ hv hP hD hS hl
def vc_P_number  (nO : Nat) (so : FN) (wc : Int32) (nT : Nat) (cn : Int32) (K : FN) (F : FN) (Pa : FN) (Sg : FN) (Dp : FN) (at_ : Int32) (sr : Int32) (dp : Int32) (x1 : Int32) (x2 : Int32) (K_ : KP) : Prop :=
  (vc_T_add nT cn K F Pa Sg Dp 16 at_ x1 x2 (fun r_1 cn_2 K_3 F_4 Pa_5 Sg_6 Dp_7 => (vc_P_take nO so wc at_ sr 4 (fun at_9 sr_10 => (K_ cn_2 K_3 F_4 Pa_5 Sg_6 Dp_7 at_9 sr_10 dp)))))
set_option maxHeartbeats 4000000 in
set_option maxRecDepth 100000 in
theorem met_P_number {l : Launch} {dd : va_G} {cB cI cL cS : ClassId}  {oP : Nat} {oW : Nat} {aX : Nat} {aO : Nat} {aB : Nat} {aE : Nat} {oT : Nat} {aK : Nat} {aF : Nat} {aP : Nat} {aS : Nat} {aD : Nat}  {nO : Nat} {so : FN} {wc : Int32} {nT : Nat} {cn : Int32} {K : FN} {F : FN} {Pa : FN} {Sg : FN} {Dp : FN} {at_ : Int32} {sr : Int32} {dp : Int32} {ln : Int32} {x1 : Int32} {x2 : Int32} {K_ : KP}  (hv : vc_P_number  nO so wc nT cn K F Pa Sg Dp at_ sr dp x1 x2 K_) : Ct l y_P_number w_P_number (rmk 2 0 0) dd cls5 [(cB, .byte), (cI, .int), (cL, .long), (cS, .object "java/lang/String")] XN [(oP, .inr (3, [.ref oW, .ref oT, .int at_, .int sr, .int dp])), (oW, .inr (1, [.ref aX, .int ln, .ref aO, .ref aB, .ref aE, .int wc])), (aO, .inl (cI, nO, .inl so)), (oT, .inr (2, [.ref aK, .ref aF, .ref aP, .ref aS, .ref aD, .int cn])), (aK, .inl (cI, nT, .inl K)), (aF, .inl (cI, nT, .inl F)), (aP, .inl (cI, nT, .inl Pa)), (aS, .inl (cI, nT, .inl Sg)), (aD, .inl (cI, nT, .inl Dp))] [.ref oP, .int x1, .int x2] (qv dd cls5 [(cB, .byte), (cI, .int), (cL, .long), (cS, .object "java/lang/String")] (fun u_ : Int32 × FN × FN × FN × FN × FN × Int32 × Int32 × Int32 => [(oP, .inr (3, [.ref oW, .ref oT, .int u_.2.2.2.2.2.2.1, .int u_.2.2.2.2.2.2.2.1, .int u_.2.2.2.2.2.2.2.2])), (oW, .inr (1, [.ref aX, .int ln, .ref aO, .ref aB, .ref aE, .int wc])), (aO, .inl (cI, nO, .inl so)), (oT, .inr (2, [.ref aK, .ref aF, .ref aP, .ref aS, .ref aD, .int u_.1])), (aK, .inl (cI, nT, .inl u_.2.1)), (aF, .inl (cI, nT, .inl u_.2.2.1)), (aP, .inl (cI, nT, .inl u_.2.2.2.1)), (aS, .inl (cI, nT, .inl u_.2.2.2.2.1)), (aD, .inl (cI, nT, .inl u_.2.2.2.2.2.1))]) (fun u_ => K_ u_.1 u_.2.1 u_.2.2.1 u_.2.2.2.1 u_.2.2.2.2.1 u_.2.2.2.2.2.1 u_.2.2.2.2.2.2.1 u_.2.2.2.2.2.2.2.1 u_.2.2.2.2.2.2.2.2)) 0 0 := by
  refine m_of (cc := b_P_number) (nL := 3) (ret := none) (by decide) rfl (Nat.le_of_ble_eq_true rfl) ?_
  intro p e s m below meth c ls A ar Fx_ hA hP hK hD hS hX hl
  obtain ⟨hx, hb, hml, hr, hlocks, hown, hts, hinn⟩ := Fx_
  generalize hQ : MQ below ((qv dd cls5 [(cB, .byte), (cI, .int), (cL, .long), (cS, .object "java/lang/String")] (fun u_ : Int32 × FN × FN × FN × FN × FN × Int32 × Int32 × Int32 => [(oP, .inr (3, [.ref oW, .ref oT, .int u_.2.2.2.2.2.2.1, .int u_.2.2.2.2.2.2.2.1, .int u_.2.2.2.2.2.2.2.2])), (oW, .inr (1, [.ref aX, .int ln, .ref aO, .ref aB, .ref aE, .int wc])), (aO, .inl (cI, nO, .inl so)), (oT, .inr (2, [.ref aK, .ref aF, .ref aP, .ref aS, .ref aD, .int u_.1])), (aK, .inl (cI, nT, .inl u_.2.1)), (aF, .inl (cI, nT, .inl u_.2.2.1)), (aP, .inl (cI, nT, .inl u_.2.2.2.1)), (aS, .inl (cI, nT, .inl u_.2.2.2.2.1)), (aD, .inl (cI, nT, .inl u_.2.2.2.2.2.1))]) (fun u_ => K_ u_.1 u_.2.1 u_.2.2.1 u_.2.2.2.1 u_.2.2.2.2.1 u_.2.2.2.2.2.1 u_.2.2.2.2.2.2.1 u_.2.2.2.2.2.2.2.1 u_.2.2.2.2.2.2.2.2)) A) ar s 0 0 A = QQ
  have hl : lv_has ls 3 [(0, .ref oP), (1, .int x1), (2, .int x2)] := hl
  unfold vc_P_number at hv
  refine lv_aload_n hx hb d_P_number_0 rfl (lv_at hl 0 rfl) ?_
  refine va_get (D := dd) (ci := 3) (C := Rc_P) (T := Fc_P) (N := 5) (v := .ref oT) hx hb hts (inn in_P) hown hK hP 0 rfl rfl 1 (by decide) (hts (.fieldLink "NetText$Parser" 15 "NetText$Parser" "tree" "LNetText$Tree;") (tg at_96)) (fun _ h9 => h9) rfl d_P_number_1 ?_
  refine lv_bipush (v := 16) hx hb d_P_number_4 (by decide) ?_
  refine lv_aload_n hx hb d_P_number_6 rfl (lv_at hl 0 rfl) ?_
  refine va_get (D := dd) (ci := 3) (C := Rc_P) (T := Fc_P) (N := 5) (v := .int at_) hx hb hts (inn in_P) hown hK hP 0 rfl rfl 2 (by decide) (hts (.fieldLink "NetText$Parser" 19 "NetText$Parser" "at" "I") (tg at_97)) (fun _ h9 => h9) rfl d_P_number_7 ?_
  refine lv_iload_n hx hb d_P_number_10 rfl (lv_at hl 1 rfl) ?_
  refine lv_iload_n hx hb d_P_number_11 rfl (lv_at hl 2 rfl) ?_
  have hM := met_T_add (l := l) (dd := dd) (cB := cB) (cI := cI) (cL := cL) (cS := cS) (oT := oT) (aK := aK) (aF := aF) (aP := aP) (aS := aS) (aD := aD)  hv
  refine kv_i (st := [.int x2, .int x1, .int at_, .int 16, .ref oT]) (rest := []) (wr := [(oP, .inr (3, [.ref oW, .ref oT, .int at_, .int sr, .int dp])), (oW, .inr (1, [.ref aX, .int ln, .ref aO, .ref aB, .ref aE, .int wc])), (aO, .inl (cI, nO, .inl so))]) ⟨hx, hb, hml, hown, hts⟩ hM (cwV 4 hts (gv (tg0 at_357) (tg0 at_358) (tg0 at_359) (tg0 at_3) (tg0 at_360)) rfl rfl rfl (by decide +kernel) (rk (by omega) (by decide))) x0b x0g hP hK hD hS hA [3, 4, 5, 6, 7, 8] [0, 1, 2] rfl rfl (by decide) (by decide) (by decide) (ci := 2) rfl rfl (q0 := 3) rfl rfl hl.1 rfl (Nat.le_of_ble_eq_true rfl) d_P_number_12 ⟨Nat.zero_le _, Nat.zero_le _⟩ (fun r_1 u_12 H locs hv hP hD hS => ?_)
  obtain ⟨cn_2, K_3, F_4, Pa_5, Sg_6, Dp_7⟩ := u_12
  have hP : va_P dd cls5 [(oP, .inr (3, [.ref oW, .ref oT, .int at_, .int sr, .int dp])), (oW, .inr (1, [.ref aX, .int ln, .ref aO, .ref aB, .ref aE, .int wc])), (aO, .inl (cI, nO, .inl so)), (oT, .inr (2, [.ref aK, .ref aF, .ref aP, .ref aS, .ref aD, .int cn_2])), (aK, .inl (cI, nT, .inl K_3)), (aF, .inl (cI, nT, .inl F_4)), (aP, .inl (cI, nT, .inl Pa_5)), (aS, .inl (cI, nT, .inl Sg_6)), (aD, .inl (cI, nT, .inl Dp_7))] H := hP
  have hD : va_D A [(oP, .inr (3, [.ref oW, .ref oT, .int at_, .int sr, .int dp])), (oW, .inr (1, [.ref aX, .int ln, .ref aO, .ref aB, .ref aE, .int wc])), (aO, .inl (cI, nO, .inl so)), (oT, .inr (2, [.ref aK, .ref aF, .ref aP, .ref aS, .ref aD, .int cn_2])), (aK, .inl (cI, nT, .inl K_3)), (aF, .inl (cI, nT, .inl F_4)), (aP, .inl (cI, nT, .inl Pa_5)), (aS, .inl (cI, nT, .inl Sg_6)), (aD, .inl (cI, nT, .inl Dp_7))] := hD
  refine lv_pop hx hb d_P_number_15 rfl ?_
  refine lv_aload_n hx hb d_P_number_16 rfl (lv_at hl 0 rfl) ?_
  refine lv_iconst (v := 4) hx hb d_P_number_17 (by decide) ?_
  have hM := met_P_take (l := l) (dd := dd) (cB := cB) (cI := cI) (cL := cL) (cS := cS) (oP := oP) (oW := oW) (aX := aX) (aO := aO) (aB := aB) (aE := aE) (oT := oT) (ln := ln) (dp := dp)  hv
  refine kv_v (st := [.int 4, .ref oP]) (rest := []) (wr := [(oT, .inr (2, [.ref aK, .ref aF, .ref aP, .ref aS, .ref aD, .int cn_2])), (aK, .inl (cI, nT, .inl K_3)), (aF, .inl (cI, nT, .inl F_4)), (aP, .inl (cI, nT, .inl Pa_5)), (aS, .inl (cI, nT, .inl Sg_6)), (aD, .inl (cI, nT, .inl Dp_7))]) ⟨hx, hb, hml, hown, hts⟩ hM (cwV 1 hts (gv (tg0 at_361) (tg0 at_363) (tg0 ap_16) (tg0 at_4) (tg0 at_364)) rfl rfl rfl (by decide +kernel) (rk (by omega) (by decide))) xnb (xng hX) hP hK hD hS hA [0, 1, 2] [3, 4, 5, 6, 7, 8] rfl rfl (by decide) (by decide) (by decide) (ci := 3) rfl rfl (q0 := 0) rfl rfl hl.1 rfl (Nat.le_of_ble_eq_true rfl) d_P_number_18 ⟨Nat.zero_le _, Nat.zero_le _⟩ (fun u_11 H locs hv hP hD hS => ?_)
  obtain ⟨at_9, sr_10⟩ := u_11
  have hP : va_P dd cls5 [(oT, .inr (2, [.ref aK, .ref aF, .ref aP, .ref aS, .ref aD, .int cn_2])), (aK, .inl (cI, nT, .inl K_3)), (aF, .inl (cI, nT, .inl F_4)), (aP, .inl (cI, nT, .inl Pa_5)), (aS, .inl (cI, nT, .inl Sg_6)), (aD, .inl (cI, nT, .inl Dp_7)), (oP, .inr (3, [.ref oW, .ref oT, .int at_9, .int sr_10, .int dp])), (oW, .inr (1, [.ref aX, .int ln, .ref aO, .ref aB, .ref aE, .int wc])), (aO, .inl (cI, nO, .inl so))] H := hP
  have hD : va_D A [(oT, .inr (2, [.ref aK, .ref aF, .ref aP, .ref aS, .ref aD, .int cn_2])), (aK, .inl (cI, nT, .inl K_3)), (aF, .inl (cI, nT, .inl F_4)), (aP, .inl (cI, nT, .inl Pa_5)), (aS, .inl (cI, nT, .inl Sg_6)), (aD, .inl (cI, nT, .inl Dp_7)), (oP, .inr (3, [.ref oW, .ref oT, .int at_9, .int sr_10, .int dp])), (oW, .inr (1, [.ref aX, .int ln, .ref aO, .ref aB, .ref aE, .int wc])), (aO, .inl (cI, nO, .inl so))] := hD
  subst hQ
  exact r_v hx hb hr hlocks  (cn_2, K_3, F_4, Pa_5, Sg_6, Dp_7, at_9, sr_10, dp) hv (hP.sub [6, 7, 8, 0, 1, 2, 3, 4, 5] rfl) hK (hD.sub [6, 7, 8, 0, 1, 2, 3, 4, 5] (by decide) rfl) hS (Nat.le_refl _) (Nat.le_refl _) d_P_number_21
def vc_P_fraction  (nO : Nat) (so : FN) (wc : Int32) (nT : Nat) (cn : Int32) (K : FN) (F : FN) (Pa : FN) (Sg : FN) (Dp : FN) (at_ : Int32) (sr : Int32) (dp : Int32) (x1 : Int32) (x2 : Int32) (K_ : KP) : Prop :=
  (vc_T_add nT cn K F Pa Sg Dp 9 at_ x1 x2 (fun r_1 cn_2 K_3 F_4 Pa_5 Sg_6 Dp_7 => ((¬ sr = 45 → (vc_P_number nO so wc nT cn_2 K_3 F_4 Pa_5 Sg_6 Dp_7 at_ sr dp r_1 0 (fun cn_10 K_11 F_12 Pa_13 Sg_14 Dp_15 at_16 sr_17 dp_18 => ((¬ sr_17 = 47 → (K_ cn_10 K_11 F_12 Pa_13 Sg_14 Dp_15 at_16 sr_17 dp_18)) ∧ (sr_17 = 47 → (vc_P_step nO so wc at_16 sr_17 (fun at_21 sr_22 => (vc_P_number nO so wc nT cn_10 K_11 F_12 Pa_13 Sg_14 Dp_15 at_21 sr_22 dp_18 r_1 0 (fun cn_24 K_25 F_26 Pa_27 Sg_28 Dp_29 at_30 sr_31 dp_32 => (K_ cn_24 K_25 F_26 Pa_27 Sg_28 Dp_29 at_30 sr_31 dp_32)))))))))) ∧ (sr = 45 → (vc_P_step nO so wc at_ sr (fun at_37 sr_38 => (vc_P_number nO so wc nT cn_2 K_3 F_4 Pa_5 Sg_6 Dp_7 at_37 sr_38 dp r_1 0 (fun cn_40 K_41 F_42 Pa_43 Sg_44 Dp_45 at_46 sr_47 dp_48 => ((¬ sr_47 = 47 → (K_ cn_40 K_41 F_42 Pa_43 Sg_44 Dp_45 at_46 sr_47 dp_48)) ∧ (sr_47 = 47 → (vc_P_step nO so wc at_46 sr_47 (fun at_51 sr_52 => (vc_P_number nO so wc nT cn_40 K_41 F_42 Pa_43 Sg_44 Dp_45 at_51 sr_52 dp_48 r_1 0 (fun cn_54 K_55 F_56 Pa_57 Sg_58 Dp_59 at_60 sr_61 dp_62 => (K_ cn_54 K_55 F_56 Pa_57 Sg_58 Dp_59 at_60 sr_61 dp_62)))))))))))))))
set_option maxHeartbeats 4000000 in
set_option maxRecDepth 100000 in
theorem met_P_fraction {l : Launch} {dd : va_G} {cB cI cL cS : ClassId}  {oP : Nat} {oW : Nat} {aX : Nat} {aO : Nat} {aB : Nat} {aE : Nat} {oT : Nat} {aK : Nat} {aF : Nat} {aP : Nat} {aS : Nat} {aD : Nat}  {nO : Nat} {so : FN} {wc : Int32} {nT : Nat} {cn : Int32} {K : FN} {F : FN} {Pa : FN} {Sg : FN} {Dp : FN} {at_ : Int32} {sr : Int32} {dp : Int32} {ln : Int32} {x1 : Int32} {x2 : Int32} {K_ : KP}  (hv : vc_P_fraction  nO so wc nT cn K F Pa Sg Dp at_ sr dp x1 x2 K_) : Ct l y_P_fraction w_P_fraction (rmk 3 0 0) dd cls5 [(cB, .byte), (cI, .int), (cL, .long), (cS, .object "java/lang/String")] XN [(oP, .inr (3, [.ref oW, .ref oT, .int at_, .int sr, .int dp])), (oW, .inr (1, [.ref aX, .int ln, .ref aO, .ref aB, .ref aE, .int wc])), (aO, .inl (cI, nO, .inl so)), (oT, .inr (2, [.ref aK, .ref aF, .ref aP, .ref aS, .ref aD, .int cn])), (aK, .inl (cI, nT, .inl K)), (aF, .inl (cI, nT, .inl F)), (aP, .inl (cI, nT, .inl Pa)), (aS, .inl (cI, nT, .inl Sg)), (aD, .inl (cI, nT, .inl Dp))] [.ref oP, .int x1, .int x2] (qv dd cls5 [(cB, .byte), (cI, .int), (cL, .long), (cS, .object "java/lang/String")] (fun u_ : Int32 × FN × FN × FN × FN × FN × Int32 × Int32 × Int32 => [(oP, .inr (3, [.ref oW, .ref oT, .int u_.2.2.2.2.2.2.1, .int u_.2.2.2.2.2.2.2.1, .int u_.2.2.2.2.2.2.2.2])), (oW, .inr (1, [.ref aX, .int ln, .ref aO, .ref aB, .ref aE, .int wc])), (aO, .inl (cI, nO, .inl so)), (oT, .inr (2, [.ref aK, .ref aF, .ref aP, .ref aS, .ref aD, .int u_.1])), (aK, .inl (cI, nT, .inl u_.2.1)), (aF, .inl (cI, nT, .inl u_.2.2.1)), (aP, .inl (cI, nT, .inl u_.2.2.2.1)), (aS, .inl (cI, nT, .inl u_.2.2.2.2.1)), (aD, .inl (cI, nT, .inl u_.2.2.2.2.2.1))]) (fun u_ => K_ u_.1 u_.2.1 u_.2.2.1 u_.2.2.2.1 u_.2.2.2.2.1 u_.2.2.2.2.2.1 u_.2.2.2.2.2.2.1 u_.2.2.2.2.2.2.2.1 u_.2.2.2.2.2.2.2.2)) 0 0 := by
  refine m_of (cc := b_P_fraction) (nL := 4) (ret := none) (by decide) rfl (Nat.le_of_ble_eq_true rfl) ?_
  intro p e s m below meth c ls A ar Fx_ hA hP hK hD hS hX hl
  obtain ⟨hx, hb, hml, hr, hlocks, hown, hts, hinn⟩ := Fx_
  generalize hQ : MQ below ((qv dd cls5 [(cB, .byte), (cI, .int), (cL, .long), (cS, .object "java/lang/String")] (fun u_ : Int32 × FN × FN × FN × FN × FN × Int32 × Int32 × Int32 => [(oP, .inr (3, [.ref oW, .ref oT, .int u_.2.2.2.2.2.2.1, .int u_.2.2.2.2.2.2.2.1, .int u_.2.2.2.2.2.2.2.2])), (oW, .inr (1, [.ref aX, .int ln, .ref aO, .ref aB, .ref aE, .int wc])), (aO, .inl (cI, nO, .inl so)), (oT, .inr (2, [.ref aK, .ref aF, .ref aP, .ref aS, .ref aD, .int u_.1])), (aK, .inl (cI, nT, .inl u_.2.1)), (aF, .inl (cI, nT, .inl u_.2.2.1)), (aP, .inl (cI, nT, .inl u_.2.2.2.1)), (aS, .inl (cI, nT, .inl u_.2.2.2.2.1)), (aD, .inl (cI, nT, .inl u_.2.2.2.2.2.1))]) (fun u_ => K_ u_.1 u_.2.1 u_.2.2.1 u_.2.2.2.1 u_.2.2.2.2.1 u_.2.2.2.2.2.1 u_.2.2.2.2.2.2.1 u_.2.2.2.2.2.2.2.1 u_.2.2.2.2.2.2.2.2)) A) ar s 0 0 A = QQ
  have hl : lv_has ls 4 [(0, .ref oP), (1, .int x1), (2, .int x2)] := hl
  unfold vc_P_fraction at hv
  refine lv_aload_n hx hb d_P_fraction_0 rfl (lv_at hl 0 rfl) ?_
  refine va_get (D := dd) (ci := 3) (C := Rc_P) (T := Fc_P) (N := 5) (v := .ref oT) hx hb hts (inn in_P) hown hK hP 0 rfl rfl 1 (by decide) (hts (.fieldLink "NetText$Parser" 15 "NetText$Parser" "tree" "LNetText$Tree;") (tg at_96)) (fun _ h9 => h9) rfl d_P_fraction_1 ?_
  refine lv_bipush (v := 9) hx hb d_P_fraction_4 (by decide) ?_
  refine lv_aload_n hx hb d_P_fraction_6 rfl (lv_at hl 0 rfl) ?_
  refine va_get (D := dd) (ci := 3) (C := Rc_P) (T := Fc_P) (N := 5) (v := .int at_) hx hb hts (inn in_P) hown hK hP 0 rfl rfl 2 (by decide) (hts (.fieldLink "NetText$Parser" 19 "NetText$Parser" "at" "I") (tg at_97)) (fun _ h9 => h9) rfl d_P_fraction_7 ?_
  refine lv_iload_n hx hb d_P_fraction_10 rfl (lv_at hl 1 rfl) ?_
  refine lv_iload_n hx hb d_P_fraction_11 rfl (lv_at hl 2 rfl) ?_
  have hM := met_T_add (l := l) (dd := dd) (cB := cB) (cI := cI) (cL := cL) (cS := cS) (oT := oT) (aK := aK) (aF := aF) (aP := aP) (aS := aS) (aD := aD)  hv
  refine kv_i (st := [.int x2, .int x1, .int at_, .int 9, .ref oT]) (rest := []) (wr := [(oP, .inr (3, [.ref oW, .ref oT, .int at_, .int sr, .int dp])), (oW, .inr (1, [.ref aX, .int ln, .ref aO, .ref aB, .ref aE, .int wc])), (aO, .inl (cI, nO, .inl so))]) ⟨hx, hb, hml, hown, hts⟩ hM (cwV 4 hts (gv (tg0 at_357) (tg0 at_358) (tg0 at_359) (tg0 at_3) (tg0 at_360)) rfl rfl rfl (by decide +kernel) (rk (by omega) (by decide))) x0b x0g hP hK hD hS hA [3, 4, 5, 6, 7, 8] [0, 1, 2] rfl rfl (by decide) (by decide) (by decide) (ci := 2) rfl rfl (q0 := 3) rfl rfl hl.1 rfl (Nat.le_of_ble_eq_true rfl) d_P_fraction_12 ⟨Nat.zero_le _, Nat.zero_le _⟩ (fun r_1 u_67 H locs hv hP hD hS => ?_)
  obtain ⟨cn_2, K_3, F_4, Pa_5, Sg_6, Dp_7⟩ := u_67
  have hP : va_P dd cls5 [(oP, .inr (3, [.ref oW, .ref oT, .int at_, .int sr, .int dp])), (oW, .inr (1, [.ref aX, .int ln, .ref aO, .ref aB, .ref aE, .int wc])), (aO, .inl (cI, nO, .inl so)), (oT, .inr (2, [.ref aK, .ref aF, .ref aP, .ref aS, .ref aD, .int cn_2])), (aK, .inl (cI, nT, .inl K_3)), (aF, .inl (cI, nT, .inl F_4)), (aP, .inl (cI, nT, .inl Pa_5)), (aS, .inl (cI, nT, .inl Sg_6)), (aD, .inl (cI, nT, .inl Dp_7))] H := hP
  have hD : va_D A [(oP, .inr (3, [.ref oW, .ref oT, .int at_, .int sr, .int dp])), (oW, .inr (1, [.ref aX, .int ln, .ref aO, .ref aB, .ref aE, .int wc])), (aO, .inl (cI, nO, .inl so)), (oT, .inr (2, [.ref aK, .ref aF, .ref aP, .ref aS, .ref aD, .int cn_2])), (aK, .inl (cI, nT, .inl K_3)), (aF, .inl (cI, nT, .inl F_4)), (aP, .inl (cI, nT, .inl Pa_5)), (aS, .inl (cI, nT, .inl Sg_6)), (aD, .inl (cI, nT, .inl Dp_7))] := hD
  refine lv_istore_n (lv' := [(3, .int r_1), (0, .ref oP), (1, .int x1), (2, .int x2)]) hx hb d_P_fraction_15 rfl hl (by decide) rfl (fun ls hl => ?_)
  refine lv_aload_n hx hb d_P_fraction_16 rfl (lv_at hl 1 rfl) ?_
  refine va_get (D := dd) (ci := 3) (C := Rc_P) (T := Fc_P) (N := 5) (v := .int sr) hx hb hts (inn in_P) hown hK hP 0 rfl rfl 3 (by decide) (hts (.fieldLink "NetText$Parser" 25 "NetText$Parser" "sort" "I") (tg at_98)) (fun _ h9 => h9) rfl d_P_fraction_17 ?_
  refine lv_bipush (v := 45) hx hb d_P_fraction_20 (by decide) ?_
  refine lv_icmp_ne (tgt := 29) hx hb d_P_fraction_22 (by decide) (fun b_8 => ?_) (fun b_8 => ?_)
  · have hv := hv.1 b_8
    refine lv_aload_n hx hb d_P_fraction_29 rfl (lv_at hl 1 rfl) ?_
    refine lv_iload_n hx hb d_P_fraction_30 rfl (lv_at hl 0 rfl) ?_
    refine lv_iconst (v := 0) hx hb d_P_fraction_31 (by decide) ?_
    have hM := met_P_number (l := l) (dd := dd) (cB := cB) (cI := cI) (cL := cL) (cS := cS) (oP := oP) (oW := oW) (aX := aX) (aO := aO) (aB := aB) (aE := aE) (oT := oT) (aK := aK) (aF := aF) (aP := aP) (aS := aS) (aD := aD) (ln := ln)  hv
    refine kv_v (st := [.int 0, .int r_1, .ref oP]) (rest := []) (wr := []) ⟨hx, hb, hml, hown, hts⟩ hM (cwV 2 hts (gv (tg0 at_389) (tg0 at_391) (tg0 ap_23) (tg0 at_4) (tg0 at_392)) rfl rfl rfl (by decide +kernel) (rk (by omega) (by decide))) xnb (xng hX) hP hK hD hS hA [0, 1, 2, 3, 4, 5, 6, 7, 8] [] rfl rfl (by decide) (by decide) (by decide) (ci := 3) rfl rfl (q0 := 0) rfl rfl hl.1 rfl (Nat.le_of_ble_eq_true rfl) d_P_fraction_32 ⟨Nat.zero_le _, Nat.zero_le _⟩ (fun u_35 H locs hv hP hD hS => ?_)
    obtain ⟨cn_10, K_11, F_12, Pa_13, Sg_14, Dp_15, at_16, sr_17, dp_18⟩ := u_35
    have hP : va_P dd cls5 [(oP, .inr (3, [.ref oW, .ref oT, .int at_16, .int sr_17, .int dp_18])), (oW, .inr (1, [.ref aX, .int ln, .ref aO, .ref aB, .ref aE, .int wc])), (aO, .inl (cI, nO, .inl so)), (oT, .inr (2, [.ref aK, .ref aF, .ref aP, .ref aS, .ref aD, .int cn_10])), (aK, .inl (cI, nT, .inl K_11)), (aF, .inl (cI, nT, .inl F_12)), (aP, .inl (cI, nT, .inl Pa_13)), (aS, .inl (cI, nT, .inl Sg_14)), (aD, .inl (cI, nT, .inl Dp_15))] H := hP
    have hD : va_D A [(oP, .inr (3, [.ref oW, .ref oT, .int at_16, .int sr_17, .int dp_18])), (oW, .inr (1, [.ref aX, .int ln, .ref aO, .ref aB, .ref aE, .int wc])), (aO, .inl (cI, nO, .inl so)), (oT, .inr (2, [.ref aK, .ref aF, .ref aP, .ref aS, .ref aD, .int cn_10])), (aK, .inl (cI, nT, .inl K_11)), (aF, .inl (cI, nT, .inl F_12)), (aP, .inl (cI, nT, .inl Pa_13)), (aS, .inl (cI, nT, .inl Sg_14)), (aD, .inl (cI, nT, .inl Dp_15))] := hD
    refine lv_aload_n hx hb d_P_fraction_35 rfl (lv_at hl 1 rfl) ?_
    refine va_get (D := dd) (ci := 3) (C := Rc_P) (T := Fc_P) (N := 5) (v := .int sr_17) hx hb hts (inn in_P) hown hK hP 0 rfl rfl 3 (by decide) (hts (.fieldLink "NetText$Parser" 25 "NetText$Parser" "sort" "I") (tg at_98)) (fun _ h9 => h9) rfl d_P_fraction_36 ?_
    refine lv_bipush (v := 47) hx hb d_P_fraction_39 (by decide) ?_
    refine lv_icmp_ne (tgt := 54) hx hb d_P_fraction_41 (by decide) (fun b_19 => ?_) (fun b_19 => ?_)
    · have hv := hv.1 b_19
      subst hQ
      exact r_v hx hb hr hlocks  (cn_10, K_11, F_12, Pa_13, Sg_14, Dp_15, at_16, sr_17, dp_18) hv (hP.sub [0, 1, 2, 3, 4, 5, 6, 7, 8] rfl) hK (hD.sub [0, 1, 2, 3, 4, 5, 6, 7, 8] (by decide) rfl) hS (Nat.le_refl _) (Nat.le_refl _) d_P_fraction_54
    · have hv := hv.2 b_19
      refine lv_aload_n hx hb d_P_fraction_44 rfl (lv_at hl 1 rfl) ?_
      have hM := met_P_step (l := l) (dd := dd) (cB := cB) (cI := cI) (cL := cL) (cS := cS) (oP := oP) (oW := oW) (aX := aX) (aO := aO) (aB := aB) (aE := aE) (oT := oT) (ln := ln) (dp := dp_18)  hv
      refine kv_v (st := [.ref oP]) (rest := []) (wr := [(oT, .inr (2, [.ref aK, .ref aF, .ref aP, .ref aS, .ref aD, .int cn_10])), (aK, .inl (cI, nT, .inl K_11)), (aF, .inl (cI, nT, .inl F_12)), (aP, .inl (cI, nT, .inl Pa_13)), (aS, .inl (cI, nT, .inl Sg_14)), (aD, .inl (cI, nT, .inl Dp_15))]) ⟨hx, hb, hml, hown, hts⟩ hM (cwV 0 hts (gv (tg0 at_365) (tg0 at_367) (tg0 ap_17) (tg0 at_4) (tg0 at_368)) rfl rfl rfl (by decide +kernel) (rk (by omega) (by decide))) xnb (xng hX) hP hK hD hS hA [0, 1, 2] [3, 4, 5, 6, 7, 8] rfl rfl (by decide) (by decide) (by decide) (ci := 3) rfl rfl (q0 := 0) rfl rfl hl.1 rfl (Nat.le_of_ble_eq_true rfl) d_P_fraction_45 ⟨Nat.zero_le _, Nat.zero_le _⟩ (fun u_34 H locs hv hP hD hS => ?_)
      obtain ⟨at_21, sr_22⟩ := u_34
      have hP : va_P dd cls5 [(oT, .inr (2, [.ref aK, .ref aF, .ref aP, .ref aS, .ref aD, .int cn_10])), (aK, .inl (cI, nT, .inl K_11)), (aF, .inl (cI, nT, .inl F_12)), (aP, .inl (cI, nT, .inl Pa_13)), (aS, .inl (cI, nT, .inl Sg_14)), (aD, .inl (cI, nT, .inl Dp_15)), (oP, .inr (3, [.ref oW, .ref oT, .int at_21, .int sr_22, .int dp_18])), (oW, .inr (1, [.ref aX, .int ln, .ref aO, .ref aB, .ref aE, .int wc])), (aO, .inl (cI, nO, .inl so))] H := hP
      have hD : va_D A [(oT, .inr (2, [.ref aK, .ref aF, .ref aP, .ref aS, .ref aD, .int cn_10])), (aK, .inl (cI, nT, .inl K_11)), (aF, .inl (cI, nT, .inl F_12)), (aP, .inl (cI, nT, .inl Pa_13)), (aS, .inl (cI, nT, .inl Sg_14)), (aD, .inl (cI, nT, .inl Dp_15)), (oP, .inr (3, [.ref oW, .ref oT, .int at_21, .int sr_22, .int dp_18])), (oW, .inr (1, [.ref aX, .int ln, .ref aO, .ref aB, .ref aE, .int wc])), (aO, .inl (cI, nO, .inl so))] := hD
      refine lv_aload_n hx hb d_P_fraction_48 rfl (lv_at hl 1 rfl) ?_
      refine lv_iload_n hx hb d_P_fraction_49 rfl (lv_at hl 0 rfl) ?_
      refine lv_iconst (v := 0) hx hb d_P_fraction_50 (by decide) ?_
      have hM := met_P_number (l := l) (dd := dd) (cB := cB) (cI := cI) (cL := cL) (cS := cS) (oP := oP) (oW := oW) (aX := aX) (aO := aO) (aB := aB) (aE := aE) (oT := oT) (aK := aK) (aF := aF) (aP := aP) (aS := aS) (aD := aD) (ln := ln)  hv
      refine kv_v (st := [.int 0, .int r_1, .ref oP]) (rest := []) (wr := []) ⟨hx, hb, hml, hown, hts⟩ hM (cwV 2 hts (gv (tg0 at_389) (tg0 at_391) (tg0 ap_23) (tg0 at_4) (tg0 at_392)) rfl rfl rfl (by decide +kernel) (rk (by omega) (by decide))) xnb (xng hX) hP hK hD hS hA [6, 7, 8, 0, 1, 2, 3, 4, 5] [] rfl rfl (by decide) (by decide) (by decide) (ci := 3) rfl rfl (q0 := 6) rfl rfl hl.1 rfl (Nat.le_of_ble_eq_true rfl) d_P_fraction_51 ⟨Nat.zero_le _, Nat.zero_le _⟩ (fun u_33 H locs hv hP hD hS => ?_)
      obtain ⟨cn_24, K_25, F_26, Pa_27, Sg_28, Dp_29, at_30, sr_31, dp_32⟩ := u_33
      have hP : va_P dd cls5 [(oP, .inr (3, [.ref oW, .ref oT, .int at_30, .int sr_31, .int dp_32])), (oW, .inr (1, [.ref aX, .int ln, .ref aO, .ref aB, .ref aE, .int wc])), (aO, .inl (cI, nO, .inl so)), (oT, .inr (2, [.ref aK, .ref aF, .ref aP, .ref aS, .ref aD, .int cn_24])), (aK, .inl (cI, nT, .inl K_25)), (aF, .inl (cI, nT, .inl F_26)), (aP, .inl (cI, nT, .inl Pa_27)), (aS, .inl (cI, nT, .inl Sg_28)), (aD, .inl (cI, nT, .inl Dp_29))] H := hP
      have hD : va_D A [(oP, .inr (3, [.ref oW, .ref oT, .int at_30, .int sr_31, .int dp_32])), (oW, .inr (1, [.ref aX, .int ln, .ref aO, .ref aB, .ref aE, .int wc])), (aO, .inl (cI, nO, .inl so)), (oT, .inr (2, [.ref aK, .ref aF, .ref aP, .ref aS, .ref aD, .int cn_24])), (aK, .inl (cI, nT, .inl K_25)), (aF, .inl (cI, nT, .inl F_26)), (aP, .inl (cI, nT, .inl Pa_27)), (aS, .inl (cI, nT, .inl Sg_28)), (aD, .inl (cI, nT, .inl Dp_29))] := hD
      subst hQ
      exact r_v hx hb hr hlocks  (cn_24, K_25, F_26, Pa_27, Sg_28, Dp_29, at_30, sr_31, dp_32) hv (hP.sub [0, 1, 2, 3, 4, 5, 6, 7, 8] rfl) hK (hD.sub [0, 1, 2, 3, 4, 5, 6, 7, 8] (by decide) rfl) hS (Nat.le_refl _) (Nat.le_refl _) d_P_fraction_54
  · have hv := hv.2 b_8
    refine lv_aload_n hx hb d_P_fraction_25 rfl (lv_at hl 1 rfl) ?_
    have hM := met_P_step (l := l) (dd := dd) (cB := cB) (cI := cI) (cL := cL) (cS := cS) (oP := oP) (oW := oW) (aX := aX) (aO := aO) (aB := aB) (aE := aE) (oT := oT) (ln := ln) (dp := dp)  hv
    refine kv_v (st := [.ref oP]) (rest := []) (wr := [(oT, .inr (2, [.ref aK, .ref aF, .ref aP, .ref aS, .ref aD, .int cn_2])), (aK, .inl (cI, nT, .inl K_3)), (aF, .inl (cI, nT, .inl F_4)), (aP, .inl (cI, nT, .inl Pa_5)), (aS, .inl (cI, nT, .inl Sg_6)), (aD, .inl (cI, nT, .inl Dp_7))]) ⟨hx, hb, hml, hown, hts⟩ hM (cwV 0 hts (gv (tg0 at_365) (tg0 at_367) (tg0 ap_17) (tg0 at_4) (tg0 at_368)) rfl rfl rfl (by decide +kernel) (rk (by omega) (by decide))) xnb (xng hX) hP hK hD hS hA [0, 1, 2] [3, 4, 5, 6, 7, 8] rfl rfl (by decide) (by decide) (by decide) (ci := 3) rfl rfl (q0 := 0) rfl rfl hl.1 rfl (Nat.le_of_ble_eq_true rfl) d_P_fraction_26 ⟨Nat.zero_le _, Nat.zero_le _⟩ (fun u_66 H locs hv hP hD hS => ?_)
    obtain ⟨at_37, sr_38⟩ := u_66
    have hP : va_P dd cls5 [(oT, .inr (2, [.ref aK, .ref aF, .ref aP, .ref aS, .ref aD, .int cn_2])), (aK, .inl (cI, nT, .inl K_3)), (aF, .inl (cI, nT, .inl F_4)), (aP, .inl (cI, nT, .inl Pa_5)), (aS, .inl (cI, nT, .inl Sg_6)), (aD, .inl (cI, nT, .inl Dp_7)), (oP, .inr (3, [.ref oW, .ref oT, .int at_37, .int sr_38, .int dp])), (oW, .inr (1, [.ref aX, .int ln, .ref aO, .ref aB, .ref aE, .int wc])), (aO, .inl (cI, nO, .inl so))] H := hP
    have hD : va_D A [(oT, .inr (2, [.ref aK, .ref aF, .ref aP, .ref aS, .ref aD, .int cn_2])), (aK, .inl (cI, nT, .inl K_3)), (aF, .inl (cI, nT, .inl F_4)), (aP, .inl (cI, nT, .inl Pa_5)), (aS, .inl (cI, nT, .inl Sg_6)), (aD, .inl (cI, nT, .inl Dp_7)), (oP, .inr (3, [.ref oW, .ref oT, .int at_37, .int sr_38, .int dp])), (oW, .inr (1, [.ref aX, .int ln, .ref aO, .ref aB, .ref aE, .int wc])), (aO, .inl (cI, nO, .inl so))] := hD
    refine lv_aload_n hx hb d_P_fraction_29 rfl (lv_at hl 1 rfl) ?_
    refine lv_iload_n hx hb d_P_fraction_30 rfl (lv_at hl 0 rfl) ?_
    refine lv_iconst (v := 0) hx hb d_P_fraction_31 (by decide) ?_
    have hM := met_P_number (l := l) (dd := dd) (cB := cB) (cI := cI) (cL := cL) (cS := cS) (oP := oP) (oW := oW) (aX := aX) (aO := aO) (aB := aB) (aE := aE) (oT := oT) (aK := aK) (aF := aF) (aP := aP) (aS := aS) (aD := aD) (ln := ln)  hv
    refine kv_v (st := [.int 0, .int r_1, .ref oP]) (rest := []) (wr := []) ⟨hx, hb, hml, hown, hts⟩ hM (cwV 2 hts (gv (tg0 at_389) (tg0 at_391) (tg0 ap_23) (tg0 at_4) (tg0 at_392)) rfl rfl rfl (by decide +kernel) (rk (by omega) (by decide))) xnb (xng hX) hP hK hD hS hA [6, 7, 8, 0, 1, 2, 3, 4, 5] [] rfl rfl (by decide) (by decide) (by decide) (ci := 3) rfl rfl (q0 := 6) rfl rfl hl.1 rfl (Nat.le_of_ble_eq_true rfl) d_P_fraction_32 ⟨Nat.zero_le _, Nat.zero_le _⟩ (fun u_65 H locs hv hP hD hS => ?_)
    obtain ⟨cn_40, K_41, F_42, Pa_43, Sg_44, Dp_45, at_46, sr_47, dp_48⟩ := u_65
    have hP : va_P dd cls5 [(oP, .inr (3, [.ref oW, .ref oT, .int at_46, .int sr_47, .int dp_48])), (oW, .inr (1, [.ref aX, .int ln, .ref aO, .ref aB, .ref aE, .int wc])), (aO, .inl (cI, nO, .inl so)), (oT, .inr (2, [.ref aK, .ref aF, .ref aP, .ref aS, .ref aD, .int cn_40])), (aK, .inl (cI, nT, .inl K_41)), (aF, .inl (cI, nT, .inl F_42)), (aP, .inl (cI, nT, .inl Pa_43)), (aS, .inl (cI, nT, .inl Sg_44)), (aD, .inl (cI, nT, .inl Dp_45))] H := hP
    have hD : va_D A [(oP, .inr (3, [.ref oW, .ref oT, .int at_46, .int sr_47, .int dp_48])), (oW, .inr (1, [.ref aX, .int ln, .ref aO, .ref aB, .ref aE, .int wc])), (aO, .inl (cI, nO, .inl so)), (oT, .inr (2, [.ref aK, .ref aF, .ref aP, .ref aS, .ref aD, .int cn_40])), (aK, .inl (cI, nT, .inl K_41)), (aF, .inl (cI, nT, .inl F_42)), (aP, .inl (cI, nT, .inl Pa_43)), (aS, .inl (cI, nT, .inl Sg_44)), (aD, .inl (cI, nT, .inl Dp_45))] := hD
    refine lv_aload_n hx hb d_P_fraction_35 rfl (lv_at hl 1 rfl) ?_
    refine va_get (D := dd) (ci := 3) (C := Rc_P) (T := Fc_P) (N := 5) (v := .int sr_47) hx hb hts (inn in_P) hown hK hP 0 rfl rfl 3 (by decide) (hts (.fieldLink "NetText$Parser" 25 "NetText$Parser" "sort" "I") (tg at_98)) (fun _ h9 => h9) rfl d_P_fraction_36 ?_
    refine lv_bipush (v := 47) hx hb d_P_fraction_39 (by decide) ?_
    refine lv_icmp_ne (tgt := 54) hx hb d_P_fraction_41 (by decide) (fun b_49 => ?_) (fun b_49 => ?_)
    · have hv := hv.1 b_49
      subst hQ
      exact r_v hx hb hr hlocks  (cn_40, K_41, F_42, Pa_43, Sg_44, Dp_45, at_46, sr_47, dp_48) hv (hP.sub [0, 1, 2, 3, 4, 5, 6, 7, 8] rfl) hK (hD.sub [0, 1, 2, 3, 4, 5, 6, 7, 8] (by decide) rfl) hS (Nat.le_refl _) (Nat.le_refl _) d_P_fraction_54
    · have hv := hv.2 b_49
      refine lv_aload_n hx hb d_P_fraction_44 rfl (lv_at hl 1 rfl) ?_
      have hM := met_P_step (l := l) (dd := dd) (cB := cB) (cI := cI) (cL := cL) (cS := cS) (oP := oP) (oW := oW) (aX := aX) (aO := aO) (aB := aB) (aE := aE) (oT := oT) (ln := ln) (dp := dp_48)  hv
      refine kv_v (st := [.ref oP]) (rest := []) (wr := [(oT, .inr (2, [.ref aK, .ref aF, .ref aP, .ref aS, .ref aD, .int cn_40])), (aK, .inl (cI, nT, .inl K_41)), (aF, .inl (cI, nT, .inl F_42)), (aP, .inl (cI, nT, .inl Pa_43)), (aS, .inl (cI, nT, .inl Sg_44)), (aD, .inl (cI, nT, .inl Dp_45))]) ⟨hx, hb, hml, hown, hts⟩ hM (cwV 0 hts (gv (tg0 at_365) (tg0 at_367) (tg0 ap_17) (tg0 at_4) (tg0 at_368)) rfl rfl rfl (by decide +kernel) (rk (by omega) (by decide))) xnb (xng hX) hP hK hD hS hA [0, 1, 2] [3, 4, 5, 6, 7, 8] rfl rfl (by decide) (by decide) (by decide) (ci := 3) rfl rfl (q0 := 0) rfl rfl hl.1 rfl (Nat.le_of_ble_eq_true rfl) d_P_fraction_45 ⟨Nat.zero_le _, Nat.zero_le _⟩ (fun u_64 H locs hv hP hD hS => ?_)
      obtain ⟨at_51, sr_52⟩ := u_64
      have hP : va_P dd cls5 [(oT, .inr (2, [.ref aK, .ref aF, .ref aP, .ref aS, .ref aD, .int cn_40])), (aK, .inl (cI, nT, .inl K_41)), (aF, .inl (cI, nT, .inl F_42)), (aP, .inl (cI, nT, .inl Pa_43)), (aS, .inl (cI, nT, .inl Sg_44)), (aD, .inl (cI, nT, .inl Dp_45)), (oP, .inr (3, [.ref oW, .ref oT, .int at_51, .int sr_52, .int dp_48])), (oW, .inr (1, [.ref aX, .int ln, .ref aO, .ref aB, .ref aE, .int wc])), (aO, .inl (cI, nO, .inl so))] H := hP
      have hD : va_D A [(oT, .inr (2, [.ref aK, .ref aF, .ref aP, .ref aS, .ref aD, .int cn_40])), (aK, .inl (cI, nT, .inl K_41)), (aF, .inl (cI, nT, .inl F_42)), (aP, .inl (cI, nT, .inl Pa_43)), (aS, .inl (cI, nT, .inl Sg_44)), (aD, .inl (cI, nT, .inl Dp_45)), (oP, .inr (3, [.ref oW, .ref oT, .int at_51, .int sr_52, .int dp_48])), (oW, .inr (1, [.ref aX, .int ln, .ref aO, .ref aB, .ref aE, .int wc])), (aO, .inl (cI, nO, .inl so))] := hD
      refine lv_aload_n hx hb d_P_fraction_48 rfl (lv_at hl 1 rfl) ?_
      refine lv_iload_n hx hb d_P_fraction_49 rfl (lv_at hl 0 rfl) ?_
      refine lv_iconst (v := 0) hx hb d_P_fraction_50 (by decide) ?_
      have hM := met_P_number (l := l) (dd := dd) (cB := cB) (cI := cI) (cL := cL) (cS := cS) (oP := oP) (oW := oW) (aX := aX) (aO := aO) (aB := aB) (aE := aE) (oT := oT) (aK := aK) (aF := aF) (aP := aP) (aS := aS) (aD := aD) (ln := ln)  hv
      refine kv_v (st := [.int 0, .int r_1, .ref oP]) (rest := []) (wr := []) ⟨hx, hb, hml, hown, hts⟩ hM (cwV 2 hts (gv (tg0 at_389) (tg0 at_391) (tg0 ap_23) (tg0 at_4) (tg0 at_392)) rfl rfl rfl (by decide +kernel) (rk (by omega) (by decide))) xnb (xng hX) hP hK hD hS hA [6, 7, 8, 0, 1, 2, 3, 4, 5] [] rfl rfl (by decide) (by decide) (by decide) (ci := 3) rfl rfl (q0 := 6) rfl rfl hl.1 rfl (Nat.le_of_ble_eq_true rfl) d_P_fraction_51 ⟨Nat.zero_le _, Nat.zero_le _⟩ (fun u_63 H locs hv hP hD hS => ?_)
      obtain ⟨cn_54, K_55, F_56, Pa_57, Sg_58, Dp_59, at_60, sr_61, dp_62⟩ := u_63
      have hP : va_P dd cls5 [(oP, .inr (3, [.ref oW, .ref oT, .int at_60, .int sr_61, .int dp_62])), (oW, .inr (1, [.ref aX, .int ln, .ref aO, .ref aB, .ref aE, .int wc])), (aO, .inl (cI, nO, .inl so)), (oT, .inr (2, [.ref aK, .ref aF, .ref aP, .ref aS, .ref aD, .int cn_54])), (aK, .inl (cI, nT, .inl K_55)), (aF, .inl (cI, nT, .inl F_56)), (aP, .inl (cI, nT, .inl Pa_57)), (aS, .inl (cI, nT, .inl Sg_58)), (aD, .inl (cI, nT, .inl Dp_59))] H := hP
      have hD : va_D A [(oP, .inr (3, [.ref oW, .ref oT, .int at_60, .int sr_61, .int dp_62])), (oW, .inr (1, [.ref aX, .int ln, .ref aO, .ref aB, .ref aE, .int wc])), (aO, .inl (cI, nO, .inl so)), (oT, .inr (2, [.ref aK, .ref aF, .ref aP, .ref aS, .ref aD, .int cn_54])), (aK, .inl (cI, nT, .inl K_55)), (aF, .inl (cI, nT, .inl F_56)), (aP, .inl (cI, nT, .inl Pa_57)), (aS, .inl (cI, nT, .inl Sg_58)), (aD, .inl (cI, nT, .inl Dp_59))] := hD
      subst hQ
      exact r_v hx hb hr hlocks  (cn_54, K_55, F_56, Pa_57, Sg_58, Dp_59, at_60, sr_61, dp_62) hv (hP.sub [0, 1, 2, 3, 4, 5, 6, 7, 8] rfl) hK (hD.sub [0, 1, 2, 3, 4, 5, 6, 7, 8] (by decide) rfl) hS (Nat.le_refl _) (Nat.le_refl _) d_P_fraction_54
def vc_P_fractionBehind  (nO : Nat) (so : FN) (wc : Int32) (nT : Nat) (cn : Int32) (K : FN) (F : FN) (Pa : FN) (Sg : FN) (Dp : FN) (at_ : Int32) (sr : Int32) (dp : Int32) (x1 : Int32) (x2 : Int32) (K_ : KP) : Prop :=
  ((¬ sr = x1 → (K_ cn K F Pa Sg Dp at_ sr dp)) ∧ (sr = x1 → (vc_P_step nO so wc at_ sr (fun at_3 sr_4 => (vc_P_fraction nO so wc nT cn K F Pa Sg Dp at_3 sr_4 dp x2 0 (fun cn_6 K_7 F_8 Pa_9 Sg_10 Dp_11 at_12 sr_13 dp_14 => (K_ cn_6 K_7 F_8 Pa_9 Sg_10 Dp_11 at_12 sr_13 dp_14)))))))
set_option maxHeartbeats 4000000 in
set_option maxRecDepth 100000 in
theorem met_P_fractionBehind {l : Launch} {dd : va_G} {cB cI cL cS : ClassId}  {oP : Nat} {oW : Nat} {aX : Nat} {aO : Nat} {aB : Nat} {aE : Nat} {oT : Nat} {aK : Nat} {aF : Nat} {aP : Nat} {aS : Nat} {aD : Nat}  {nO : Nat} {so : FN} {wc : Int32} {nT : Nat} {cn : Int32} {K : FN} {F : FN} {Pa : FN} {Sg : FN} {Dp : FN} {at_ : Int32} {sr : Int32} {dp : Int32} {ln : Int32} {x1 : Int32} {x2 : Int32} {K_ : KP}  (hv : vc_P_fractionBehind  nO so wc nT cn K F Pa Sg Dp at_ sr dp x1 x2 K_) : Ct l y_P_fractionBehind w_P_fractionBehind (rmk 4 0 0) dd cls5 [(cB, .byte), (cI, .int), (cL, .long), (cS, .object "java/lang/String")] XN [(oP, .inr (3, [.ref oW, .ref oT, .int at_, .int sr, .int dp])), (oW, .inr (1, [.ref aX, .int ln, .ref aO, .ref aB, .ref aE, .int wc])), (aO, .inl (cI, nO, .inl so)), (oT, .inr (2, [.ref aK, .ref aF, .ref aP, .ref aS, .ref aD, .int cn])), (aK, .inl (cI, nT, .inl K)), (aF, .inl (cI, nT, .inl F)), (aP, .inl (cI, nT, .inl Pa)), (aS, .inl (cI, nT, .inl Sg)), (aD, .inl (cI, nT, .inl Dp))] [.ref oP, .int x1, .int x2] (qv dd cls5 [(cB, .byte), (cI, .int), (cL, .long), (cS, .object "java/lang/String")] (fun u_ : Int32 × FN × FN × FN × FN × FN × Int32 × Int32 × Int32 => [(oP, .inr (3, [.ref oW, .ref oT, .int u_.2.2.2.2.2.2.1, .int u_.2.2.2.2.2.2.2.1, .int u_.2.2.2.2.2.2.2.2])), (oW, .inr (1, [.ref aX, .int ln, .ref aO, .ref aB, .ref aE, .int wc])), (aO, .inl (cI, nO, .inl so)), (oT, .inr (2, [.ref aK, .ref aF, .ref aP, .ref aS, .ref aD, .int u_.1])), (aK, .inl (cI, nT, .inl u_.2.1)), (aF, .inl (cI, nT, .inl u_.2.2.1)), (aP, .inl (cI, nT, .inl u_.2.2.2.1)), (aS, .inl (cI, nT, .inl u_.2.2.2.2.1)), (aD, .inl (cI, nT, .inl u_.2.2.2.2.2.1))]) (fun u_ => K_ u_.1 u_.2.1 u_.2.2.1 u_.2.2.2.1 u_.2.2.2.2.1 u_.2.2.2.2.2.1 u_.2.2.2.2.2.2.1 u_.2.2.2.2.2.2.2.1 u_.2.2.2.2.2.2.2.2)) 0 0 := by
  refine m_of (cc := b_P_fractionBehind) (nL := 3) (ret := none) (by decide) rfl (Nat.le_of_ble_eq_true rfl) ?_
  intro p e s m below meth c ls A ar Fx_ hA hP hK hD hS hX hl
  obtain ⟨hx, hb, hml, hr, hlocks, hown, hts, hinn⟩ := Fx_
  generalize hQ : MQ below ((qv dd cls5 [(cB, .byte), (cI, .int), (cL, .long), (cS, .object "java/lang/String")] (fun u_ : Int32 × FN × FN × FN × FN × FN × Int32 × Int32 × Int32 => [(oP, .inr (3, [.ref oW, .ref oT, .int u_.2.2.2.2.2.2.1, .int u_.2.2.2.2.2.2.2.1, .int u_.2.2.2.2.2.2.2.2])), (oW, .inr (1, [.ref aX, .int ln, .ref aO, .ref aB, .ref aE, .int wc])), (aO, .inl (cI, nO, .inl so)), (oT, .inr (2, [.ref aK, .ref aF, .ref aP, .ref aS, .ref aD, .int u_.1])), (aK, .inl (cI, nT, .inl u_.2.1)), (aF, .inl (cI, nT, .inl u_.2.2.1)), (aP, .inl (cI, nT, .inl u_.2.2.2.1)), (aS, .inl (cI, nT, .inl u_.2.2.2.2.1)), (aD, .inl (cI, nT, .inl u_.2.2.2.2.2.1))]) (fun u_ => K_ u_.1 u_.2.1 u_.2.2.1 u_.2.2.2.1 u_.2.2.2.2.1 u_.2.2.2.2.2.1 u_.2.2.2.2.2.2.1 u_.2.2.2.2.2.2.2.1 u_.2.2.2.2.2.2.2.2)) A) ar s 0 0 A = QQ
  have hl : lv_has ls 3 [(0, .ref oP), (1, .int x1), (2, .int x2)] := hl
  unfold vc_P_fractionBehind at hv
  refine lv_aload_n hx hb d_P_fractionBehind_0 rfl (lv_at hl 0 rfl) ?_
  refine va_get (D := dd) (ci := 3) (C := Rc_P) (T := Fc_P) (N := 5) (v := .int sr) hx hb hts (inn in_P) hown hK hP 0 rfl rfl 3 (by decide) (hts (.fieldLink "NetText$Parser" 25 "NetText$Parser" "sort" "I") (tg at_98)) (fun _ h9 => h9) rfl d_P_fractionBehind_1 ?_
  refine lv_iload_n hx hb d_P_fractionBehind_4 rfl (lv_at hl 1 rfl) ?_
  refine lv_icmp_ne (tgt := 18) hx hb d_P_fractionBehind_5 (by decide) (fun b_1 => ?_) (fun b_1 => ?_)
  · have hv := hv.1 b_1
    subst hQ
    exact r_v hx hb hr hlocks  (cn, K, F, Pa, Sg, Dp, at_, sr, dp) hv (hP.sub [0, 1, 2, 3, 4, 5, 6, 7, 8] rfl) hK (hD.sub [0, 1, 2, 3, 4, 5, 6, 7, 8] (by decide) rfl) hS (Nat.le_refl _) (Nat.le_refl _) d_P_fractionBehind_18
  · have hv := hv.2 b_1
    refine lv_aload_n hx hb d_P_fractionBehind_8 rfl (lv_at hl 0 rfl) ?_
    have hM := met_P_step (l := l) (dd := dd) (cB := cB) (cI := cI) (cL := cL) (cS := cS) (oP := oP) (oW := oW) (aX := aX) (aO := aO) (aB := aB) (aE := aE) (oT := oT) (ln := ln) (dp := dp)  hv
    refine kv_v (st := [.ref oP]) (rest := []) (wr := [(oT, .inr (2, [.ref aK, .ref aF, .ref aP, .ref aS, .ref aD, .int cn])), (aK, .inl (cI, nT, .inl K)), (aF, .inl (cI, nT, .inl F)), (aP, .inl (cI, nT, .inl Pa)), (aS, .inl (cI, nT, .inl Sg)), (aD, .inl (cI, nT, .inl Dp))]) ⟨hx, hb, hml, hown, hts⟩ hM (cwV 0 hts (gv (tg0 at_365) (tg0 at_367) (tg0 ap_17) (tg0 at_4) (tg0 at_368)) rfl rfl rfl (by decide +kernel) (rk (by omega) (by decide))) xnb (xng hX) hP hK hD hS hA [0, 1, 2] [3, 4, 5, 6, 7, 8] rfl rfl (by decide) (by decide) (by decide) (ci := 3) rfl rfl (q0 := 0) rfl rfl hl.1 rfl (Nat.le_of_ble_eq_true rfl) d_P_fractionBehind_9 ⟨Nat.zero_le _, Nat.zero_le _⟩ (fun u_16 H locs hv hP hD hS => ?_)
    obtain ⟨at_3, sr_4⟩ := u_16
    have hP : va_P dd cls5 [(oT, .inr (2, [.ref aK, .ref aF, .ref aP, .ref aS, .ref aD, .int cn])), (aK, .inl (cI, nT, .inl K)), (aF, .inl (cI, nT, .inl F)), (aP, .inl (cI, nT, .inl Pa)), (aS, .inl (cI, nT, .inl Sg)), (aD, .inl (cI, nT, .inl Dp)), (oP, .inr (3, [.ref oW, .ref oT, .int at_3, .int sr_4, .int dp])), (oW, .inr (1, [.ref aX, .int ln, .ref aO, .ref aB, .ref aE, .int wc])), (aO, .inl (cI, nO, .inl so))] H := hP
    have hD : va_D A [(oT, .inr (2, [.ref aK, .ref aF, .ref aP, .ref aS, .ref aD, .int cn])), (aK, .inl (cI, nT, .inl K)), (aF, .inl (cI, nT, .inl F)), (aP, .inl (cI, nT, .inl Pa)), (aS, .inl (cI, nT, .inl Sg)), (aD, .inl (cI, nT, .inl Dp)), (oP, .inr (3, [.ref oW, .ref oT, .int at_3, .int sr_4, .int dp])), (oW, .inr (1, [.ref aX, .int ln, .ref aO, .ref aB, .ref aE, .int wc])), (aO, .inl (cI, nO, .inl so))] := hD
    refine lv_aload_n hx hb d_P_fractionBehind_12 rfl (lv_at hl 0 rfl) ?_
    refine lv_iload_n hx hb d_P_fractionBehind_13 rfl (lv_at hl 2 rfl) ?_
    refine lv_iconst (v := 0) hx hb d_P_fractionBehind_14 (by decide) ?_
    have hM := met_P_fraction (l := l) (dd := dd) (cB := cB) (cI := cI) (cL := cL) (cS := cS) (oP := oP) (oW := oW) (aX := aX) (aO := aO) (aB := aB) (aE := aE) (oT := oT) (aK := aK) (aF := aF) (aP := aP) (aS := aS) (aD := aD) (ln := ln)  hv
    refine kv_v (st := [.int 0, .int x2, .ref oP]) (rest := []) (wr := []) ⟨hx, hb, hml, hown, hts⟩ hM (cwV 2 hts (gv (tg0 at_449) (tg0 at_451) (tg0 ap_34) (tg0 at_4) (tg0 at_452)) rfl rfl rfl (by decide +kernel) (rk (by omega) (by decide))) xnb (xng hX) hP hK hD hS hA [6, 7, 8, 0, 1, 2, 3, 4, 5] [] rfl rfl (by decide) (by decide) (by decide) (ci := 3) rfl rfl (q0 := 6) rfl rfl hl.1 rfl (Nat.le_of_ble_eq_true rfl) d_P_fractionBehind_15 ⟨Nat.zero_le _, Nat.zero_le _⟩ (fun u_15 H locs hv hP hD hS => ?_)
    obtain ⟨cn_6, K_7, F_8, Pa_9, Sg_10, Dp_11, at_12, sr_13, dp_14⟩ := u_15
    have hP : va_P dd cls5 [(oP, .inr (3, [.ref oW, .ref oT, .int at_12, .int sr_13, .int dp_14])), (oW, .inr (1, [.ref aX, .int ln, .ref aO, .ref aB, .ref aE, .int wc])), (aO, .inl (cI, nO, .inl so)), (oT, .inr (2, [.ref aK, .ref aF, .ref aP, .ref aS, .ref aD, .int cn_6])), (aK, .inl (cI, nT, .inl K_7)), (aF, .inl (cI, nT, .inl F_8)), (aP, .inl (cI, nT, .inl Pa_9)), (aS, .inl (cI, nT, .inl Sg_10)), (aD, .inl (cI, nT, .inl Dp_11))] H := hP
    have hD : va_D A [(oP, .inr (3, [.ref oW, .ref oT, .int at_12, .int sr_13, .int dp_14])), (oW, .inr (1, [.ref aX, .int ln, .ref aO, .ref aB, .ref aE, .int wc])), (aO, .inl (cI, nO, .inl so)), (oT, .inr (2, [.ref aK, .ref aF, .ref aP, .ref aS, .ref aD, .int cn_6])), (aK, .inl (cI, nT, .inl K_7)), (aF, .inl (cI, nT, .inl F_8)), (aP, .inl (cI, nT, .inl Pa_9)), (aS, .inl (cI, nT, .inl Sg_10)), (aD, .inl (cI, nT, .inl Dp_11))] := hD
    subst hQ
    exact r_v hx hb hr hlocks  (cn_6, K_7, F_8, Pa_9, Sg_10, Dp_11, at_12, sr_13, dp_14) hv (hP.sub [0, 1, 2, 3, 4, 5, 6, 7, 8] rfl) hK (hD.sub [0, 1, 2, 3, 4, 5, 6, 7, 8] (by decide) rfl) hS (Nat.le_refl _) (Nat.le_refl _) d_P_fractionBehind_18
def vc_P_joins  (sr : Int32) (x1 : Int32) (K_ : Int32 → Prop) : Prop :=
  ((sr = 42 → (K_ 1)) ∧ (¬ sr = 42 → ((sr = 47 → (K_ 1)) ∧ (¬ sr = 47 → ((¬ sr = 64 → (K_ 0)) ∧ (sr = 64 → ((¬ x1 = 0 → (K_ 0)) ∧ (x1 = 0 → (K_ 1)))))))))
set_option maxHeartbeats 4000000 in
set_option maxRecDepth 100000 in
theorem met_P_joins {l : Launch} {dd : va_G} {cB cI cL cS : ClassId}  {oP : Nat} {oW : Nat} {oT : Nat}  {sr : Int32} {at_ : Int32} {dp : Int32} {x1 : Int32} {K_ : Int32 → Prop}  (hv : vc_P_joins  sr x1 K_) : CtR l y_P_joinsPieces w_P_joinsPieces (rmk 0 0 0) dd cls5 [(cB, .byte), (cI, .int), (cL, .long), (cS, .object "java/lang/String")] X0 [(oP, .inr (3, [.ref oW, .ref oT, .int at_, .int sr, .int dp]))] [.ref oP, .int x1] (qR K_) := by
  refine m_ofR (cc := b_P_joinsPieces) (nL := 2) (ret := (some .boolean)) (by decide) rfl (Nat.le_of_ble_eq_true rfl) ?_
  intro p e s m below meth c ls ar Fx_ hP hK hX hl
  obtain ⟨hx, hb, hml, hr, hlocks, hown, hts, hinn⟩ := Fx_
  have hl : lv_has ls 2 [(0, .ref oP), (1, .int x1)] := hl
  unfold vc_P_joins at hv
  refine lv_aload_n hx hb d_P_joinsPieces_0 rfl (lv_at hl 0 rfl) ?_
  refine va_get (D := dd) (ci := 3) (C := Rc_P) (T := Fc_P) (N := 5) (v := .int sr) hx hb hts (inn in_P) hown hK hP 0 rfl rfl 3 (by decide) (hts (.fieldLink "NetText$Parser" 25 "NetText$Parser" "sort" "I") (tg at_98)) (fun _ h9 => h9) rfl d_P_joinsPieces_1 ?_
  refine lv_bipush (v := 42) hx hb d_P_joinsPieces_4 (by decide) ?_
  refine lv_icmp_eq (tgt := 31) hx hb d_P_joinsPieces_6 (by decide) (fun b_1 => ?_) (fun b_1 => ?_)
  · have hv := hv.1 b_1
    refine lv_iconst (v := 1) hx hb d_P_joinsPieces_31 (by decide) ?_
    refine lv_goto (tgt := 36) hx hb d_P_joinsPieces_32 (by decide) ?_
    exact rr_z hx hb hr narrow_b1 hlocks 1 hv d_P_joinsPieces_36
  · have hv := hv.2 b_1
    refine lv_aload_n hx hb d_P_joinsPieces_9 rfl (lv_at hl 0 rfl) ?_
    refine va_get (D := dd) (ci := 3) (C := Rc_P) (T := Fc_P) (N := 5) (v := .int sr) hx hb hts (inn in_P) hown hK hP 0 rfl rfl 3 (by decide) (hts (.fieldLink "NetText$Parser" 25 "NetText$Parser" "sort" "I") (tg at_98)) (fun _ h9 => h9) rfl d_P_joinsPieces_10 ?_
    refine lv_bipush (v := 47) hx hb d_P_joinsPieces_13 (by decide) ?_
    refine lv_icmp_eq (tgt := 31) hx hb d_P_joinsPieces_15 (by decide) (fun b_2 => ?_) (fun b_2 => ?_)
    · have hv := hv.1 b_2
      refine lv_iconst (v := 1) hx hb d_P_joinsPieces_31 (by decide) ?_
      refine lv_goto (tgt := 36) hx hb d_P_joinsPieces_32 (by decide) ?_
      exact rr_z hx hb hr narrow_b1 hlocks 1 hv d_P_joinsPieces_36
    · have hv := hv.2 b_2
      refine lv_aload_n hx hb d_P_joinsPieces_18 rfl (lv_at hl 0 rfl) ?_
      refine va_get (D := dd) (ci := 3) (C := Rc_P) (T := Fc_P) (N := 5) (v := .int sr) hx hb hts (inn in_P) hown hK hP 0 rfl rfl 3 (by decide) (hts (.fieldLink "NetText$Parser" 25 "NetText$Parser" "sort" "I") (tg at_98)) (fun _ h9 => h9) rfl d_P_joinsPieces_19 ?_
      refine lv_bipush (v := 64) hx hb d_P_joinsPieces_22 (by decide) ?_
      refine lv_icmp_ne (tgt := 35) hx hb d_P_joinsPieces_24 (by decide) (fun b_3 => ?_) (fun b_3 => ?_)
      · have hv := hv.1 b_3
        refine lv_iconst (v := 0) hx hb d_P_joinsPieces_35 (by decide) ?_
        exact rr_z hx hb hr narrow_b0 hlocks 0 hv d_P_joinsPieces_36
      · have hv := hv.2 b_3
        refine lv_iload_n hx hb d_P_joinsPieces_27 rfl (lv_at hl 1 rfl) ?_
        refine lv_if_ne (tgt := 35) hx hb d_P_joinsPieces_28 (by decide) (fun b_4 => ?_) (fun b_4 => ?_)
        · have hv := hv.1 b_4
          refine lv_iconst (v := 0) hx hb d_P_joinsPieces_35 (by decide) ?_
          exact rr_z hx hb hr narrow_b0 hlocks 0 hv d_P_joinsPieces_36
        · have hv := hv.2 b_4
          refine lv_iconst (v := 1) hx hb d_P_joinsPieces_31 (by decide) ?_
          refine lv_goto (tgt := 36) hx hb d_P_joinsPieces_32 (by decide) ?_
          exact rr_z hx hb hr narrow_b1 hlocks 1 hv d_P_joinsPieces_36
