theorem at_6 : lw_tbl[90]? = some (.initialized "java/lang/Throwable") := by decide +kernel
theorem at_207 : lw_tbl[291]? = some (.laysStatic "java/lang/String" "COMPACT_STRINGS" "Z") := by decide +kernel
theorem at_223 : lw_tbl[307]? = some (.laysStatic "jdk/internal/util/Preconditions" "SIOOBE_FORMATTER" "Ljava/util/function/BiFunction;") := by decide +kernel
theorem at_549 : lw_tbl[633]? = some (.laysStatic "java/lang/Throwable" "UNASSIGNED_STACK" "[Ljava/lang/StackTraceElement;") := by decide +kernel
theorem at_551 : lw_tbl[635]? = some (.laysStatic "java/lang/Throwable" "SUPPRESSED_SENTINEL" "Ljava/util/List;") := by decide +kernel
theorem at_748 : lw_tbl[832]? = some (.arrayOver (.object "java/lang/String")) := by decide +kernel
theorem env_K {s : State} {args : Array Value} (hts : ∀ w ∈ lw_tbl, w.before args s = true) : ∃ (dd : va_G) (cB cI cL cS : ClassId), va_K dd cls5 [(cB, .byte), (cI, .int), (cL, .long), (cS, .object "java/lang/String")] s := by
  have htg : ∀ w ∈ lw_gt, w.before args s = true := fun w hw => hts w (List.mem_filter.mp hw).1
  obtain ⟨c0, i0, k0⟩ := u_known (C := Rc_N) (T := Fc_N) (N := 6) (n := 6) htg in_N (hts (.instantiable "NetText" 6) (List.mem_of_getElem? at_21))
  obtain ⟨c1, i1, k1⟩ := u_known (C := Rc_W) (T := Fc_W) (N := 6) (n := 6) htg in_W (hts (.instantiable "NetText$Words" 6) (List.mem_of_getElem? at_29))
  obtain ⟨c2, i2, k2⟩ := u_known (C := Rc_T) (T := Fc_T) (N := 6) (n := 6) htg in_T (hts (.instantiable "NetText$Tree" 6) (List.mem_of_getElem? at_58))
  obtain ⟨c3, i3, k3⟩ := u_known (C := Rc_P) (T := Fc_P) (N := 5) (n := 5) htg in_P (hts (.instantiable "NetText$Parser" 5) (List.mem_of_getElem? at_90))
  obtain ⟨c4, i4, k4⟩ := u_known (C := Rc_M) (T := Fc_M) (N := 26) (n := 26) htg in_M (hts (.instantiable "NetTextModel" 26) (List.mem_of_getElem? at_742))
  obtain ⟨cB, kB, pB, hB1, hB2, hB3⟩ := Cond.arrayClass_spec (type := .byte) (hts (.arrayClass .byte) (List.mem_of_getElem? at_55))
  obtain ⟨cI, kI, pI, hI1, hI2, hI3⟩ := Cond.arrayClass_spec (type := .int) (hts (.arrayClass .int) (List.mem_of_getElem? at_56))
  obtain ⟨cL, kL, pL, hL1, hL2, hL3⟩ := Cond.arrayClass_spec (type := .long) (hts (.arrayClass .long) (List.mem_of_getElem? at_845))
  obtain ⟨pS, cS, kS, hS1, hS2, hS3, hS4, hS5⟩ := Cond.arrayOver_spec (n := "java/lang/String") (hts (.arrayOver (.object "java/lang/String")) (List.mem_of_getElem? at_748))
  refine ⟨(fun k => if k = 0 then c0 else if k = 1 then c1 else if k = 2 then c2 else if k = 3 then c3 else c4, fun k => if k = 0 then i0 else if k = 1 then i1 else if k = 2 then i2 else if k = 3 then i3 else i4), cB, cI, cL, cS, ?_, ?_⟩
  · intro k q hq
    match k, hq with
    | 0, hq => cases hq; exact k0
    | 1, hq => cases hq; exact k1
    | 2, hq => cases hq; exact k2
    | 3, hq => cases hq; exact k3
    | 4, hq => cases hq; exact k4
    | k + 5, hq => simp [cls5] at hq
  · intro k q hq
    match k, hq with
    | 0, hq => cases hq; exact ⟨fun _ _ => ⟨fun _ h => (by cases h), kB, hB2, pB, hB3⟩, hB1⟩
    | 1, hq => cases hq; exact ⟨fun _ _ => ⟨fun _ h => (by cases h), kI, hI2, pI, hI3⟩, hI1⟩
    | 2, hq => cases hq; exact ⟨fun _ _ => ⟨fun _ h => (by cases h), kL, hL2, pL, hL3⟩, hL1⟩
    | 3, hq => cases hq; exact ⟨fun _ _ => ⟨fun _ h => (by cases h), kS, hS3, pS, hS4⟩, kS, pS, hS3, hS4, hS1, hS5⟩
    | k + 4, hq => simp at hq
theorem nest_in : ∀ w ∈ nestW, w ∈ lw_tbl ∧ w.onTables = true := by decide +kernel
theorem ex_in : ∀ w ∈ exW, w ∈ lw_tbl ∧ w.onTables = true := by decide +kernel
def tmS (i : Nat) : Term := .string (strO.getD i "") (strI.getD i 0)
abbrev fvS (i : Nat) : Term := .field (tmS i) "java/lang/String" "value" "[B"
def posS : List Nat := [32, 39, 46, 54, 62, 70, 78, 86, 95, 104, 113, 122, 131, 140, 149, 158, 168, 180, 200, 245, 279, 295, 321, 331, 341, 351, 359, 368, 376, 386, 395, 406, 416, 426, 435, 444, 454, 467, 477, 486, 507]
def posR : List Nat := [277, 330, 335, 336, 337, 338, 339, 344, 345, 346, 347, 348, 349, 350, 351, 352, 353, 358, 647, 706, 735, 786, 833, 834, 835, 836, 837, 838, 839, 840, 841, 842, 843, 844, 845, 846, 847, 848, 849, 981, 1016]
def gnF : List Cond := flatC (Jvm.Cond.and given_1 narrow_1)
theorem str_ok : ∀ i, i < 41 → gnF[posS.getD i 0]? = some (.exactly (tmS i) "java/lang/String") ∧ gnF[posS.getD i 0 + 1]? = some (.eq (.field (tmS i) "java/lang/String" "coder" "B") (.int 0)) ∧ gnF[posS.getD i 0 + 2]? = some (.arrayOf (fvS i) .byte) ∧ gnF[posS.getD i 0 + 3]? = some (.eq (.length (fvS i)) (.int (Int32.ofNat (lenS.getD i 0)))) ∧
    (∀ j, j < lenS.getD i 0 → gnF[posS.getD i 0 + 4 + j]? = some (.eq (.elem (fvS i) (.int (Int32.ofNat j))) (.int ((bytS.getD i []).getD j 0)))) ∧ lw_tbl[posR.getD i 0]? = some (.stringRef (strO.getD i "") (strI.getD i 0) (strX.getD i "")) ∧ lenS.getD i 0 < 2 ^ 31 := by decide +kernel
theorem sf_of {s : State} {args : Array Value} {A : Nat → Prop} (hg : ∀ w ∈ gnF, w.before args s = true) (hA : ∀ a : Nat, a < s.heap.size → ¬ A a) (i : Nat) (hi : i < 41) : ∃ a v : Nat, (tmS i).eval args s none [] s = some (.ref a) ∧ sf1 (lenS.getD i 0) (bytS.getD i []) a v A s s.heap := by
  obtain ⟨h1, h2, h3, h4, h5, -, h7⟩ := str_ok i hi
  obtain ⟨a, c, cA, kA, q1, q2, q3, q4, q5, q6, -⟩ := Cond.exactly_spec (args := args) (first := s) (o := none) (s := s) (idx := []) (t := tmS i) (cls := "java/lang/String") (hg _ (List.mem_of_getElem? h1))
  obtain ⟨t, ht, hT⟩ := va_Tof (f := fun j => .int ((bytS.getD i []).getD j 0)) (A := A) h7 (hg _ (List.mem_of_getElem? h3)) (va_eqt (hg _ (List.mem_of_getElem? h4))) (fun j hj => va_eqt (hg _ (List.mem_of_getElem? (h5 j hj)))) hA
  exact ⟨a, t, q1, ⟨cA, q3, q5, by rw [q6]; exact q2, hA a (Array.getElem?_eq_some_iff.mp q3).1⟩, vk_OFof q1 (va_eqt (hg _ (List.mem_of_getElem? h2))) hA, vk_OFof q1 ht hA, hT⟩
theorem zLS_of {s : State} {args : Array Value} {A : Nat → Prop} {C n d : String} (h : (Cond.laysStatic C n d).before args s = true) (hA : ∀ a : Nat, a < s.heap.size → ¬ A a) : zLS C n d A s s.heap := by
  obtain ⟨c, k, i, f, a, cell, h0, h1, h2, h3, h4, h5, h6, h7, h8⟩ := Cond.laysStatic_spec h
  exact ⟨c, k, i, f, a, cell, h0, h1, h2, h3, h4, h5, h6, h7, h8, hA a (Array.getElem?_eq_some_iff.mp h4).1⟩
theorem gn_u : gnF[9]? = some (.isRef (.static "java/lang/Throwable" "UNASSIGNED_STACK" "[Ljava/lang/StackTraceElement;")) := by decide +kernel
theorem gn_s : gnF[10]? = some (.isRef (.static "java/lang/Throwable" "SUPPRESSED_SENTINEL" "Ljava/util/List;")) := by decide +kernel
theorem gn_f : gnF[5]? = some (.isRef (.static "jdk/internal/util/Preconditions" "SIOOBE_FORMATTER" "Ljava/util/function/BiFunction;")) := by decide +kernel
theorem gn_c : gnF[4]? = some (.eq (.static "java/lang/String" "COMPACT_STRINGS" "Z") (.int 1)) := by decide +kernel
theorem env_X {s : State} {args : Array Value} {A : Nat → Prop} (hts : ∀ w ∈ lw_tbl, w.before args s = true) (hgv : (Jvm.Cond.and given_1 narrow_1).before args s = true) (hA : ∀ a : Nat, a < s.heap.size → ¬ A a) : ∃ adK adV : Nat → Nat, XF adK adV A s := by
  have hg : ∀ w ∈ gnF, w.before args s = true := flat_of_before _ hgv
  have h0 : ∀ i : Nat, ∃ q : Nat × Nat, i < 41 → (tmS i).eval args s none [] s = some (.ref q.1) ∧ sf1 (lenS.getD i 0) (bytS.getD i []) q.1 q.2 A s s.heap := by
    intro i
    by_cases hi : i < 41
    · obtain ⟨a, v, h1, h2⟩ := sf_of hg hA i hi
      exact ⟨(a, v), fun _ => ⟨h1, h2⟩⟩
    · exact ⟨(0, 0), fun h => absurd h hi⟩
  obtain ⟨ad, had⟩ := Classical.axiomOfChoice h0
  refine ⟨fun i => (ad i).1, fun i => (ad i).2, fun w hw => va_Nw.of (nest_in w hw).2 (hts w (nest_in w hw).1), fun w hw => va_Nw.of (ex_in w hw).2 (hts w (ex_in w hw).1), va_AO.of (hts (.arrayOver (.object "java/lang/String")) (List.mem_of_getElem? at_748)), ?_, ?_, ?_, ?_, ?_, ?_, fun i hi => (had i hi).2, fun i hi => ?_⟩
  · exact va_Zqof (hts (.laysStatic "java/lang/Throwable" "UNASSIGNED_STACK" "[Ljava/lang/StackTraceElement;") (List.mem_of_getElem? at_549)) (hts (.initialized "java/lang/Throwable") (List.mem_of_getElem? at_6)) (hg _ (List.mem_of_getElem? gn_u)) hA
  · exact va_Zqof (hts (.laysStatic "java/lang/Throwable" "SUPPRESSED_SENTINEL" "Ljava/util/List;") (List.mem_of_getElem? at_551)) (hts (.initialized "java/lang/Throwable") (List.mem_of_getElem? at_6)) (hg _ (List.mem_of_getElem? gn_s)) hA
  · exact va_Zof (hts (.laysStatic "java/lang/String" "COMPACT_STRINGS" "Z") (List.mem_of_getElem? at_207)) (hts (.initialized "java/lang/String") (List.mem_of_getElem? at_14)) (va_eqt (hg _ (List.mem_of_getElem? gn_c))) hA
  · exact va_Zqof (hts (.laysStatic "jdk/internal/util/Preconditions" "SIOOBE_FORMATTER" "Ljava/util/function/BiFunction;") (List.mem_of_getElem? at_223)) (hts (.initialized "jdk/internal/util/Preconditions") (List.mem_of_getElem? at_16)) (hg _ (List.mem_of_getElem? gn_f)) hA
  · exact zLS_of (hts (.laysStatic "java/lang/Throwable" "UNASSIGNED_STACK" "[Ljava/lang/StackTraceElement;") (List.mem_of_getElem? at_549)) hA
  · exact zLS_of (hts (.laysStatic "java/lang/Throwable" "SUPPRESSED_SENTINEL" "Ljava/util/List;") (List.mem_of_getElem? at_551)) hA
  · exact vk_R.of (hts _ (List.mem_of_getElem? (str_ok i hi).2.2.2.2.2.1)) (had i hi).1
theorem lw_lt {i L : Nat} (hL : L ≤ 3072) (hi : i ≤ L) (h : ¬ (Int32.ofNat L - 6) < nI i) : i + 6 ≤ L := by
  apply Decidable.byContradiction
  intro q
  apply h
  rw [Int32.lt_iff_toInt_lt]
  show (nI L - nI 6).toInt < (nI i).toInt
  rw [pk_sub_toInt (by omega) (by omega), nI_toInt (by omega)]
  omega
theorem INV_up {k cu su nA : Nat} {tp : FN} {tl pl : Int32} {nX : Nat} {tx : FN} {ln : Int32} {nO : Nat} {so sb se : FN} {wc : Int32} {nT : Nat} {cn : Int32} {K F Pa Sg Dp : FN} {z : RS} (h : INV k cu su nA tp tl pl nX tx ln nO so sb se wc nT cn K F Pa Sg Dp z) : INV (k + 1) cu su nA tp tl pl nX tx ln nO so sb se wc nT cn K F Pa Sg Dp z := by
  obtain ⟨n, B, nTp, nR, nN, h1, h2, h3, h4⟩ := h
  exact ⟨n, B, nTp, nR, nN, NUM_up (c := 0) (s := 0) h1 (by omega) (by omega), h2, h3, h4⟩
set_option maxHeartbeats 4000000 in
set_option maxRecDepth 100000 in
theorem law_loop {p : Program} {l : Launch} {e : Env} {s : State} {m : MethodId} {below : List Frame} {meth : Method} {c : Code} {b L : Nat} {xs : Nat → Int32} {dd : va_G} {cB cI cL cS : ClassId} {adK adV : Nat → Nat} (hL : L ≤ 3072) (hnt : NoTr l) (C : LX p s m c b L xs dd cB cI cL cS adK adV (fun q : Nat => s.heap.size ≤ q)) (hr : meth.sig.returnType = ret) (hlocks : meth.locks = false) {oN oM aU aKy oW oT oP : Nat} :
    ∀ (n i k : Nat) (iv : Int32), iv = nI i → i = 6 * k → i ≤ L → L + 1 ≤ i + n → ∀ (cu su : Nat) (aT aX aO aB aE aK aF aP aS aD : Nat) (nA : Nat) (tp : FN) (tl : Int32) (pl : Int32) (at_ : Int32) (sr : Int32) (dp : Int32) (nX : Nat) (tx : FN) (ln : Int32) (nO : Nat) (so : FN) (sb : FN) (se : FN) (wc : Int32) (nT : Nat) (cn : Int32) (K : FN) (F : FN) (Pa : FN) (Sg : FN) (Dp : FN) (zs : RS) (ou : FL) (H : Heap) (locs : List Loc) (ls : Array Slot), KI k cu su nA tp tl pl at_ sr dp nX tx ln nO so sb se wc nT cn K F Pa Sg Dp zs → cu ≤ mcL → su ≤ msL → va_P dd cls5 [(oN, .inr (0, [.ref aT, .int tl, .int pl, .ref oW, .ref oT, .ref oP])), (aT, .inl (cB, nA, .inl tp)), (oP, .inr (3, [.ref oW, .ref oT, .int at_, .int sr, .int dp])), (oW, .inr (1, [.ref aX, .int ln, .ref aO, .ref aB, .ref aE, .int wc])), (aX, .inl (cB, nX, .inl tx)), (aO, .inl (cI, nO, .inl so)), (aB, .inl (cI, nO, .inl sb)), (aE, .inl (cI, nO, .inl se)), (oT, .inr (2, [.ref aK, .ref aF, .ref aP, .ref aS, .ref aD, .int cn])), (aK, .inl (cI, nT, .inl K)), (aF, .inl (cI, nT, .inl F)), (aP, .inl (cI, nT, .inl Pa)), (aS, .inl (cI, nT, .inl Sg)), (aD, .inl (cI, nT, .inl Dp)), (aU, .inl (cL, ((1 : Int32).toNatClampNeg), .inr (.inl ou))), (oM, .inr (4, [.ref aKy, .int zs.th, .ref zs.aT, .int zs.fd, .int zs.fa, .int zs.pl, .int zs.at_, .int zs.kd, .int zs.fr, .int zs.ky, .int zs.op, .int zs.ct, .ref zs.aKd, .ref zs.aBg, .ref zs.aPr, .ref zs.aSg, .ref zs.aNf, .ref zs.aNl, .ref zs.aDg, .ref zs.aBh, .ref zs.aDe, .ref zs.aPc, .ref zs.aFi, .ref zs.aNu, .ref zs.aN, .int zs.nd])), (aKy, .inl (cS, 17, .inr (.inr (.inr (.inr (kyF adK)))))), (zs.aT, .inl (cB, zs.nT, .inl zs.tp)), (zs.aKd, .inl (cI, zs.nR, .inl zs.Kd)), (zs.aBg, .inl (cI, zs.nR, .inl zs.Bg)), (zs.aPr, .inl (cI, zs.nR, .inl zs.Pr)), (zs.aSg, .inl (cI, zs.nR, .inl zs.Sg)), (zs.aNf, .inl (cI, zs.nR, .inl zs.Nf)), (zs.aNl, .inl (cI, zs.nR, .inl zs.Nl)), (zs.aDg, .inl (cL, zs.nR, .inr (.inl zs.Dg))), (zs.aBh, .inl (cI, zs.nR, .inl zs.Bh)), (zs.aDe, .inl (cI, zs.nR, .inl zs.De)), (zs.aPc, .inl (cI, zs.nR, .inl zs.Pc)), (zs.aFi, .inl (cI, zs.nR, .inl zs.Fi)), (zs.aNu, .inl (cI, zs.nR, .inl zs.Nu)), (zs.aN, .inl (cB, zs.nN, .inl zs.nm))] H → va_D (fun q : Nat => s.heap.size ≤ q) [(oN, .inr (0, [.ref aT, .int tl, .int pl, .ref oW, .ref oT, .ref oP])), (aT, .inl (cB, nA, .inl tp)), (oP, .inr (3, [.ref oW, .ref oT, .int at_, .int sr, .int dp])), (oW, .inr (1, [.ref aX, .int ln, .ref aO, .ref aB, .ref aE, .int wc])), (aX, .inl (cB, nX, .inl tx)), (aO, .inl (cI, nO, .inl so)), (aB, .inl (cI, nO, .inl sb)), (aE, .inl (cI, nO, .inl se)), (oT, .inr (2, [.ref aK, .ref aF, .ref aP, .ref aS, .ref aD, .int cn])), (aK, .inl (cI, nT, .inl K)), (aF, .inl (cI, nT, .inl F)), (aP, .inl (cI, nT, .inl Pa)), (aS, .inl (cI, nT, .inl Sg)), (aD, .inl (cI, nT, .inl Dp)), (aU, .inl (cL, ((1 : Int32).toNatClampNeg), .inr (.inl ou))), (oM, .inr (4, [.ref aKy, .int zs.th, .ref zs.aT, .int zs.fd, .int zs.fa, .int zs.pl, .int zs.at_, .int zs.kd, .int zs.fr, .int zs.ky, .int zs.op, .int zs.ct, .ref zs.aKd, .ref zs.aBg, .ref zs.aPr, .ref zs.aSg, .ref zs.aNf, .ref zs.aNl, .ref zs.aDg, .ref zs.aBh, .ref zs.aDe, .ref zs.aPc, .ref zs.aFi, .ref zs.aNu, .ref zs.aN, .int zs.nd])), (aKy, .inl (cS, 17, .inr (.inr (.inr (.inr (kyF adK)))))), (zs.aT, .inl (cB, zs.nT, .inl zs.tp)), (zs.aKd, .inl (cI, zs.nR, .inl zs.Kd)), (zs.aBg, .inl (cI, zs.nR, .inl zs.Bg)), (zs.aPr, .inl (cI, zs.nR, .inl zs.Pr)), (zs.aSg, .inl (cI, zs.nR, .inl zs.Sg)), (zs.aNf, .inl (cI, zs.nR, .inl zs.Nf)), (zs.aNl, .inl (cI, zs.nR, .inl zs.Nl)), (zs.aDg, .inl (cL, zs.nR, .inr (.inl zs.Dg))), (zs.aBh, .inl (cI, zs.nR, .inl zs.Bh)), (zs.aDe, .inl (cI, zs.nR, .inl zs.De)), (zs.aPc, .inl (cI, zs.nR, .inl zs.Pc)), (zs.aFi, .inl (cI, zs.nR, .inl zs.Fi)), (zs.aNu, .inl (cI, zs.nR, .inl zs.Nu)), (zs.aN, .inl (cB, zs.nN, .inl zs.nm))] → va_S (fun q : Nat => s.heap.size ≤ q) s.heap H locs → lv_has ls 8 [(0, .ref b), (1, .ref oN), (2, .ref oM), (3, .ref aU), (4, .int iv)] → W p l e room_1 s m #[Value.ref b] below meth c H locs cu su (lw_Z below #[Value.ref b] s) (F0 m 23 ls []) := by
  obtain ⟨wx, hx, hb, hml, hown, hts, hXs, hbl, hbA, hA, hK, hX⟩ := id C
  intro n
  induction n with
  | zero =>
    intro i k iv h1 h2 h3 h4
    exact absurd h4 (by omega)
  | succ n ih =>
    intro i k iv hiv hik hiL hin cu su aT aX aO aB aE aK aF aP aS aD nA tp tl pl at_ sr dp nX tx ln nO so sb se wc nT cn K F Pa Sg Dp zs ou H locs ls hI hcu hsu hP hD hS hl
    refine lv_iload hx hb d_L_law_23 (lv_at hl 4 rfl) ?_
    refine lv_aload_n hx hb d_L_law_25 rfl (lv_at hl 0 rfl) ?_
    refine va_slen hx hb hXs hbl hbA hS d_L_law_26 ?_
    refine lv_bipush (v := 6) hx hb d_L_law_27 (by decide) ?_
    refine lv_isub hx hb d_L_law_29 ?_
    refine lv_icmp_gt (tgt := 795) hx hb d_L_law_30 (by decide) (fun c1 => ?_) (fun c1 => ?_)
    · refine lv_iconst (v := 1) hx hb d_L_law_795 (by decide) ?_
      refine va_forget (fun q hq => hS.2.2 q hq) ?_
      exact W.widen (Nat.le_trans hcu hMC) (Nat.le_trans hsu hMS) (lw_ret hx hb hr hlocks d_L_law_796)
    · have hlt : i + 6 ≤ L := lw_lt hL hiL (by rw [← hiv]; exact c1)
      have hk : k < 512 := by omega
      have hj : ∀ j : Nat, j < 6 → vp_in (nI i + nI j) L := fun j hj => by rw [nI_add]; exact vp_in_nI (by omega) (by omega)
      have hi0 : vp_in iv L := by rw [hiv]; exact vp_in_nI (by omega) (by omega)
      have hi1 : vp_in (iv + 1) L := by rw [hiv]; exact hj 1 (by omega)
      have hi2 : vp_in (iv + 2) L := by rw [hiv]; exact hj 2 (by omega)
      have hi3 : vp_in (iv + 3) L := by rw [hiv]; exact hj 3 (by omega)
      have hi4 : vp_in (iv + 4) L := by rw [hiv]; exact hj 4 (by omega)
      have hi5 : vp_in (iv + 5) L := by rw [hiv]; exact hj 5 (by omega)
      have back : LK p l e s m below meth c b dd cB cI cL cS adK (fun q : Nat => s.heap.size ≤ q) oN oM aU aKy oW oT oP iv (KI (k + 1)) := by
        intro cu su aT aX aO aB aE aK aF aP aS aD nA tp tl pl at_ sr dp nX tx ln nO so sb se wc nT cn K F Pa Sg Dp zs ou H locs ls hI hcu hsu hP hD hS hl
        refine lv_iinc (v := iv + 6) (lv' := [(4, .int (iv + 6)), (0, .ref b), (1, .ref oN), (2, .ref oM), (3, .ref aU)]) hx hb d_L_law_789 hl (k := 4) rfl rfl (by decide) rfl (fun ls hl => ?_)
        refine lv_goto (tgt := 23) hx hb d_L_law_792 (by decide) ?_
        exact ih (i + 6) (k + 1) (iv + 6) (by rw [hiv]; exact nI_add i 6) (by omega) hlt (by omega) cu su aT aX aO aB aE aK aF aP aS aD nA tp tl pl at_ sr dp nX tx ln nO so sb se wc nT cn K F Pa Sg Dp zs ou H locs ls hI hcu hsu hP hD hS (lv_sub hl [1, 2, 3, 4, 0] rfl)
      refine lv_aload_n hx hb d_L_law_33 rfl (lv_at hl 0 rfl) ?_
      refine lv_iload hx hb d_L_law_34 (lv_at hl 4 rfl) ?_
      refine va_sld hx hb hXs hbl hbA hS hi0 d_L_law_36 ?_
      refine lv_bipush (v := 15) hx hb d_L_law_37 (by decide) ?_
      refine lv_iand hx hb d_L_law_39 ?_
      generalize xs iv.toNatClampNeg &&& 15 = x
      by_cases b0 : x = 0
      · refine lv_tableIn (tgt := 108) (off := 68) hx hb d_L_law_40 (by rw [b0]; decide) (by rw [b0]; decide) (by rw [b0]; decide) (by decide) ?_
        exact lc_0 hnt C hi1 hi2 hi3 hi4 hi5 (st_0 hI hk) hcu hsu hP hD hS hl back
      by_cases b1 : x = 1
      · refine lv_tableIn (tgt := 212) (off := 172) hx hb d_L_law_40 (by rw [b1]; decide) (by rw [b1]; decide) (by rw [b1]; decide) (by decide) ?_
        exact lc_1 hnt C hi1 hi2 hi3 hi4 hi5 (st_1 hI hk) hcu hsu hP hD hS hl back
      by_cases b2 : x = 2
      · refine lv_tableIn (tgt := 248) (off := 208) hx hb d_L_law_40 (by rw [b2]; decide) (by rw [b2]; decide) (by rw [b2]; decide) (by decide) ?_
        exact lc_2 hnt C hi1 hi2 hi3 hi4 hi5 (st_2 hI hk) hcu hsu hP hD hS hl back
      by_cases b3 : x = 3
      · refine lv_tableIn (tgt := 261) (off := 221) hx hb d_L_law_40 (by rw [b3]; decide) (by rw [b3]; decide) (by rw [b3]; decide) (by decide) ?_
        exact lc_3 hnt C hi1 hi2 hi3 hi4 hi5 (st_3 hI) hcu hsu hP hD hS hl back
      by_cases b4 : x = 4
      · refine lv_tableIn (tgt := 274) (off := 234) hx hb d_L_law_40 (by rw [b4]; decide) (by rw [b4]; decide) (by rw [b4]; decide) (by decide) ?_
        exact lc_4 hnt C hi1 hi2 hi3 hi4 hi5 (st_4 hI hk) hcu hsu hP hD hS hl back
      by_cases b5 : x = 5
      · refine lv_tableIn (tgt := 330) (off := 290) hx hb d_L_law_40 (by rw [b5]; decide) (by rw [b5]; decide) (by rw [b5]; decide) (by decide) ?_
        exact lc_5 hnt C hi1 hi2 hi3 hi4 hi5 (st_5 hI hk) hcu hsu hP hD hS hl back
      by_cases b6 : x = 6
      · refine lv_tableIn (tgt := 386) (off := 346) hx hb d_L_law_40 (by rw [b6]; decide) (by rw [b6]; decide) (by rw [b6]; decide) (by decide) ?_
        exact lc_6 hnt C hi1 hi2 hi3 hi4 hi5 (st_6 hI hk) hcu hsu hP hD hS hl back
      by_cases b7 : x = 7
      · refine lv_tableIn (tgt := 442) (off := 402) hx hb d_L_law_40 (by rw [b7]; decide) (by rw [b7]; decide) (by rw [b7]; decide) (by decide) ?_
        exact lc_7 hnt C hi1 hi2 hi3 hi4 hi5 (st_7 hI hk) hcu hsu hP hD hS hl back
      by_cases b8 : x = 8
      · refine lv_tableIn (tgt := 498) (off := 458) hx hb d_L_law_40 (by rw [b8]; decide) (by rw [b8]; decide) (by rw [b8]; decide) (by decide) ?_
        exact lc_8 hnt C hi1 hi2 hi3 hi4 hi5 (st_8 hI hk) hcu hsu hP hD hS hl back
      by_cases b9 : x = 9
      · refine lv_tableIn (tgt := 554) (off := 514) hx hb d_L_law_40 (by rw [b9]; decide) (by rw [b9]; decide) (by rw [b9]; decide) (by decide) ?_
        exact lc_9 hnt C hi1 hi2 hi3 hi4 hi5 (st_9 hI hk) hcu hsu hP hD hS hl back
      by_cases b10 : x = 10
      · refine lv_tableIn (tgt := 622) (off := 582) hx hb d_L_law_40 (by rw [b10]; decide) (by rw [b10]; decide) (by rw [b10]; decide) (by decide) ?_
        exact lc_10 hnt C hi1 hi2 hi3 hi4 hi5 (st_10 hI hk) hcu hsu hP hD hS hl back
      by_cases b11 : x = 11
      · refine lv_tableIn (tgt := 677) (off := 637) hx hb d_L_law_40 (by rw [b11]; decide) (by rw [b11]; decide) (by rw [b11]; decide) (by decide) ?_
        exact lc_11 hnt C hi1 hi2 hi3 hi4 hi5 (st_11 hI hk) hcu hsu hP hD hS hl back
      by_cases b12 : x = 12
      · refine lv_tableIn (tgt := 733) (off := 693) hx hb d_L_law_40 (by rw [b12]; decide) (by rw [b12]; decide) (by rw [b12]; decide) (by decide) ?_
        exact lc_12 hnt C hi1 hi2 hi3 hi4 hi5 (st_12 hI hk) hcu hsu hP hD hS hl back
      refine lv_tableOut (tgt := 789) hx hb d_L_law_40 (by have := lv_neT b0 (show (0 : Int32).toInt = 0 by decide); have := lv_neT b1 (show (1 : Int32).toInt = 1 by decide); have := lv_neT b2 (show (2 : Int32).toInt = 2 by decide); have := lv_neT b3 (show (3 : Int32).toInt = 3 by decide); have := lv_neT b4 (show (4 : Int32).toInt = 4 by decide); have := lv_neT b5 (show (5 : Int32).toInt = 5 by decide); have := lv_neT b6 (show (6 : Int32).toInt = 6 by decide); have := lv_neT b7 (show (7 : Int32).toInt = 7 by decide); have := lv_neT b8 (show (8 : Int32).toInt = 8 by decide); have := lv_neT b9 (show (9 : Int32).toInt = 9 by decide); have := lv_neT b10 (show (10 : Int32).toInt = 10 by decide); have := lv_neT b11 (show (11 : Int32).toInt = 11 by decide); have := lv_neT b12 (show (12 : Int32).toInt = 12 by decide); omega) (by decide) ?_
      exact back cu su aT aX aO aB aE aK aF aP aS aD nA tp tl pl at_ sr dp nX tx ln nO so sb se wc nT cn K F Pa Sg Dp zs ou H locs ls (INV_up hI) hcu hsu hP hD hS hl
set_option maxHeartbeats 4000000 in
set_option maxRecDepth 100000 in
theorem whole_start {p : Program} {e : Env} {s : State} {m : MethodId} {below : List Frame} {meth : Method} {c : Code} (l : Launch) (hnt : NoTr l) {b L : Nat} {xs : Nat → Int32} (hL : L ≤ 3072) (C0 : lw_At p s m meth c b L xs) : W p l e room_1 s m #[Value.ref b] below meth c s.heap [] 0 0 (lw_Z below #[Value.ref b] s) (entryFrame m ([Value.ref b] : List Value).toArray 8) := by
  obtain ⟨hx, hb, hr, hml, hown, hts, hX, hbl, hlocks, hgv⟩ := id C0
  have hA0 : ∀ a : Nat, a < s.heap.size → ¬ (fun q : Nat => s.heap.size ≤ q) a := fun a h => Nat.not_le.mpr h
  obtain ⟨dd, cB, cI, cL, cS, hK⟩ := env_K hts
  obtain ⟨adK, adV, hE⟩ := env_X hts hgv hA0
  have C : LX p s m c b L xs dd cB cI cL cS adK adV (fun q : Nat => s.heap.size ≤ q) := ⟨.arrayClass .int, hx, hb, hml, hown, fun w hw => (List.mem_cons.mp hw).elim (fun q => q ▸ hts (.arrayClass .int) (List.mem_of_getElem? at_56)) (fun q => hts w (List.mem_filter.mp q).1), hX, hbl, Nat.not_le.mpr hbl, fun _ h => h, hK, hE⟩
  have hP : va_P dd cls5 [] s.heap := fun k q h => by simp at h
  have hD : va_D (fun q : Nat => s.heap.size ≤ q) [] := ⟨fun i j p q h => by simp at h, fun k q h => by simp at h⟩
  have hl := lv_entry ([.ref b]) (n := 8) (Nat.le_of_ble_eq_true rfl)
  rw [lg_entry_eq]
  generalize (lg_sl ([.ref b]) ++ List.replicate (8 - (lg_sl ([.ref b])).length) Slot.unset).toArray = ls at hl ⊢
  have hl : lv_has ls 8 [(0, .ref b)] := hl
  refine lc_init hnt C st_init hP hD va_S.rf hl ?_
  intro oN oM aU aKy oW oT oP cu su aT aX aO aB aE aK aF aP aS aD nA tp tl pl at_ sr dp nX tx ln nO so sb se wc nT cn K F Pa Sg Dp zs ou H locs ls hI hcu hsu hP hD hS hl
  exact law_loop hL hnt C hr hlocks (L + 1) 0 0 0 rfl rfl (Nat.zero_le _) (by omega) cu su aT aX aO aB aE aK aF aP aS aD nA tp tl pl at_ sr dp nX tx ln nO so sb se wc nT cn K F Pa Sg Dp zs ou H locs ls hI hcu hsu hP hD hS hl
theorem nt_of {l : Launch} (hf : l.flags = flags0) : NoTr l := by
  intro e ha
  obtain ⟨-, -, -, -, hp, -⟩ := ha
  rw [hp]
  show l.stackTraces = false
  unfold Launch.stackTraces
  rw [hf]
  decide
set_option maxHeartbeats 4000000 in
theorem lw_walk (l : Launch) (hnt : NoTr l) (b : Addr) (xs : List Int32) : MetFree l x (headSpec (Jvm.Cond.code x code maxLocals ret :: tables_1) room_1) (lw_P b xs) (fun _ _ _ _ _ => True) lw_Q := by
  refine MetFree.of_bodyS (code := code) (maxLocals := maxLocals) (ret := ret) (by decide) ?_ ?_
  · intro args s m h hn
    obtain ⟨meth, c, h1, h2, h3, h4, h5, h6, -, -⟩ := Cond.code_spec hn (atoms_spec (ws := Jvm.Cond.code x code maxLocals ret :: tables_1) h _ List.mem_cons_self)
    exact ⟨meth, c, h1, h2, h3, h4, h5, h6⟩
  · intro p e s m args below meth c s₁ B hml0 hP _
    obtain ⟨rfl, hx, hbd, hgv⟩ := hP
    obtain ⟨scr, harrAt, hlist, hof, hsmall⟩ := hx
    obtain ⟨hcb, hkn, -, -⟩ := State.arrayAt?_spec harrAt
    have hown : s.vm.findClass R_law = some m.cls := findClass_of_methodNamed B.named
    have hts0 : ∀ c ∈ (Jvm.Cond.code x code maxLocals ret :: tables_1), c.before #[Value.ref b] s = true := atoms_spec (ws := Jvm.Cond.code x code maxLocals ret :: tables_1) B.pre
    have hts : ∀ w ∈ lw_tbl, w.before #[Value.ref b] s = true := k2_hts_sels lw_privs (fun w hw => hts0 w (List.mem_cons_of_mem _ hw)) lw_privs_ok
    have hml : c.maxLocals = 8 := B.maxLocals_eq (hts0 _ List.mem_cons_self)
    have X₀ : Stand p l e room_1 s m #[Value.ref b] below meth c s₁ [] 0 0 := Stand.of_body B
    have hh0 : s₁.heap = s.heap := by rw [B.state]; rfl
    have hsz : scr.slots.size = xs.length := by rw [← Array.length_toList, hlist, List.length_map]
    have hval : ∀ j : Nat, j < xs.length → scr.slots[j]? = some (.int (xs.getD j 0)) := fun j hj => by
      rw [← Array.getElem?_toList, hlist]
      simp [hj]
    have hbl : b < s.heap.size := (Array.getElem?_eq_some_iff.mp hcb).1
    have hX : va_X b xs.length (fun j => xs.getD j 0) s s.heap := ⟨scr, hcb, hof, hkn, hsz, hval⟩
    have K : W p l e room_1 s m #[Value.ref b] below meth c s₁.heap [] 0 0 (lw_Z below #[Value.ref b] s) (entryFrame m ([Value.ref b] : List Value).toArray 8) := by
      rw [hh0]
      exact whole_start l hnt hbd ⟨B.exec, B.bytes, B.returns, hml, hown, hts, hX, hbl, B.notSynchronized, hgv⟩
    obtain ⟨t, a1, o, b1, b2, b3⟩ := K s₁ rfl X₀
    exact ⟨t, o, a1, b1, b2, b3⟩
theorem lw_pre_spec {args : Array Value} {s : State} (h : (Jvm.Cond.and given_1 narrow_1).before args s = true) (hr : rest_1_c.before args s = true) : ∃ (b : Addr) (xs : List Int32), lw_P b xs args s := by
  have hs := flat_of_before _ h
  have hq := flat_of_before _ hr
  have hc : (Cond.count 1).before args s = true := hs _ (by decide +kernel)
  have harr : (Cond.arrayOf (.arg 0) .int).before args s = true := hs _ (by decide +kernel)
  have hle : (Cond.le (.length (.arg 0)) (.int 3072)).before args s = true := hs _ (by decide +kernel)
  have hlen : (Cond.isInt (.length (.arg 0))).before args s = true := hq _ (by decide +kernel)
  have hall : (Cond.all (.arg 0) (.isInt (.elem (.arg 0) (.index 0)))).before args s = true := hq _ (by decide +kernel)
  obtain ⟨b, xs, hb, hx⟩ := State.ints_of_pre rfl harr hlen hall
  have hsm : xs.length < 2 ^ 31 := hx.choose_spec.2.2.2
  have hev : (Term.length (.arg 0)).eval args s none [] s = some (.int xs.length.toInt32) := hx.length_eval hb
  have hv := Cond.le_ints hev (show (Term.int 3072).eval args s none [] s = some (.int 3072) from rfl)
  have hd : xs.length.toInt32 ≤ 3072 := by
    simpa [Cond.before, Cond.holds, hv] using hle
  have hN : xs.length ≤ 3072 := (Int32.ofNat_le_ofNat hsm (by decide)).mp (show Int32.ofNat xs.length ≤ Int32.ofNat 3072 from hd)
  exact ⟨b, xs, Cond.one_arg hc (show args[0]? = some (.ref b) from hb), hx, hN, h⟩
theorem lw_comes (l : Launch) (hnt : NoTr l) : Comes l x (Jvm.Cond.code x code maxLocals ret :: tables_1) room_1 (fun tb e args s => Calls_1 tb e args s ∧ rest_1 tb e args s ∧ Pre_1 tb e args s)
    (fun _ _ args s o t => lw_Q args s o t) := by
  intro p e ha hc hk s m args below hf hfit hheap happ hpre
  obtain ⟨b, xs, hP⟩ := lw_pre_spec hpre.2.2 hpre.2.1
  obtain ⟨k, o, h1, h2, h3, hQ⟩ := lw_walk l hnt b xs p e ha hc hk s m args below hf ((Spec.applies_iff_loose hf).mp happ).1 hP trivial
  exact ⟨k, o, h1, h2, h3, hQ⟩
theorem lw_frame {s t : State} {o : Outcome} {args : Array Value} (h : Framed s o t [] room_1.cells room_1.slots) :
    Framed s o t (fieldLocs frame_1_writes args s ++ arrayLocs frame_1_arrays args s ++ staticLocs frame_1_statics s) room_1.cells room_1.slots := h
theorem lw_limb (L : Cond) (hL : ∀ (args : Array Value) (s t : State), L.after args s (.returned (some (.int 1))) t = true) :
    ArmFor flags0 classFile x code maxLocals ret World_1 tables_1 room_1 Calls_1 rest_1 Pre_1
      (fun tb e a s o t => postC L tb e a s o t ∧ Framed s o t (fieldLocs frame_1_writes a s ++ arrayLocs frame_1_arrays a s ++ staticLocs frame_1_statics s) room_1.cells room_1.slots) := by
  intro l hfl _ _ p e ha hc hk s m args below hf hfit hheap happ hpre
  obtain ⟨k, o, h1, h2, h3, rfl, hF⟩ := lw_comes l (nt_of hfl) p e ha hc hk s m args below hf hfit hheap happ hpre
  exact ⟨k, _, h1, h2, h3, hL args s _, lw_frame hF⟩
theorem i_vc : Claimed_1_1 ∧ Claimed_1_2 := ⟨lw_limb limb_1_1 (fun args s t => by simp [limb_1_1, Cond.after, Cond.holds, Cond.value]), lw_limb limb_1_2 (fun args s t => Cond.after_iff.mpr (by
  first | (rw [show limb_1_2 = Cond.eq .result (.int 1) from rfl, Cond.eq_ints (x := 1) (y := 1) rfl rfl]; simp; done) | (simp [limb_1_2, Cond.value, Term.eval]; done)))⟩
