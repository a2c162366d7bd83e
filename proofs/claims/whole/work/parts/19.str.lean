theorem at_199 : lw_tbl[283]? = some (.instanceMethod ⟨"java/lang/String", "length", "()I"⟩) := by decide +kernel
theorem at_200 : lw_tbl[284]? = some (.selects "java/lang/String" ⟨"java/lang/String", "length", "()I"⟩ ⟨"java/lang/String", "length", "()I"⟩) := by decide +kernel
theorem at_201 : lw_tbl[285]? = some (.code ⟨"java/lang/String", "length", "()I"⟩ prog_17_method_54_code 1 (some .int)) := by decide +kernel
theorem at_212 : lw_tbl[296]? = some (.methodLink "java/lang/String" 492 ⟨"java/lang/String", "isLatin1", "()Z"⟩) := by decide +kernel
theorem at_213 : lw_tbl[297]? = some (.instanceMethod ⟨"java/lang/String", "isLatin1", "()Z"⟩) := by decide +kernel
theorem at_214 : lw_tbl[298]? = some (.selects "java/lang/String" ⟨"java/lang/String", "isLatin1", "()Z"⟩ ⟨"java/lang/String", "isLatin1", "()Z"⟩) := by decide +kernel
theorem at_215 : lw_tbl[299]? = some (.code ⟨"java/lang/String", "isLatin1", "()Z"⟩ prog_17_method_154_code 1 (some .boolean)) := by decide +kernel
theorem at_216 : lw_tbl[300]? = some (.methodLink "java/lang/String" 495 ⟨"java/lang/StringLatin1", "charAt", "([BI)C"⟩) := by decide +kernel
theorem at_217 : lw_tbl[301]? = some (.static ⟨"java/lang/StringLatin1", "charAt", "([BI)C"⟩) := by decide +kernel
theorem at_218 : lw_tbl[302]? = some (.code ⟨"java/lang/StringLatin1", "charAt", "([BI)C"⟩ prog_18_method_2_code 2 (some .char)) := by decide +kernel
theorem at_279 : lw_tbl[363]? = some (.methodLink "java/lang/String" 633 ⟨"java/lang/String", "indexOf", "(II)I"⟩) := by decide +kernel
theorem at_280 : lw_tbl[364]? = some (.instanceMethod ⟨"java/lang/String", "indexOf", "(II)I"⟩) := by decide +kernel
theorem at_281 : lw_tbl[365]? = some (.selects "java/lang/String" ⟨"java/lang/String", "indexOf", "(II)I"⟩ ⟨"java/lang/String", "indexOf", "(II)I"⟩) := by decide +kernel
theorem at_282 : lw_tbl[366]? = some (.code ⟨"java/lang/String", "indexOf", "(II)I"⟩ prog_17_method_80_code 3 (some .int)) := by decide +kernel
theorem at_283 : lw_tbl[367]? = some (.methodLink "java/lang/String" 505 ⟨"java/lang/String", "length", "()I"⟩) := by decide +kernel
theorem at_284 : lw_tbl[368]? = some (.methodLink "java/lang/String" 637 ⟨"java/lang/StringLatin1", "indexOf", "([BIII)I"⟩) := by decide +kernel
theorem at_285 : lw_tbl[369]? = some (.static ⟨"java/lang/StringLatin1", "indexOf", "([BIII)I"⟩) := by decide +kernel
theorem at_286 : lw_tbl[370]? = some (.code ⟨"java/lang/StringLatin1", "indexOf", "([BIII)I"⟩ prog_18_method_22_code 4 (some .int)) := by decide +kernel
theorem getD_of {α : Type} {l : List α} {k : Nat} {d : α} (h : k < l.length) : l.getD k d = l[k] := by
  rw [List.getD_eq_getElem?_getD, List.getElem?_eq_getElem h]; rfl
theorem lenS_eq (i : Nat) : lenS.getD i 0 = (bytS.getD i []).length := by
  by_cases h : i < 41
  · exact (by decide +kernel : ∀ i, i < 41 → lenS.getD i 0 = (bytS.getD i []).length) i h
  · rw [List.getD_eq_getElem?_getD, List.getElem?_eq_none (by show 41 ≤ i; omega), List.getD_eq_getElem?_getD, List.getElem?_eq_none (by show 41 ≤ i; omega)]; rfl
theorem lenS_lt (i : Nat) : lenS.getD i 0 ≤ 41 := by
  by_cases h : i < 41
  · exact (by decide +kernel : ∀ i, i < 41 → lenS.getD i 0 ≤ 41) i h
  · rw [List.getD_eq_getElem?_getD, List.getElem?_eq_none (by show 41 ≤ i; omega)]; exact Nat.zero_le _
theorem bytS_mem {t : Nat} {x : Int32} (h : x ∈ bytS.getD t []) : 0 ≤ x ∧ x < 128 := by
  rcases getD_mem (l := bytS) (k := t) (d := []) with h2 | h2
  · rw [h2] at h; cases h
  · exact bytS_lt _ h2 _ h
theorem b128 : ∀ n, n < 128 → (nI n).toInt8.toInt32 = nI n := by decide +kernel
theorem b128' {x : Int32} (h0 : 0 ≤ x) (h1 : x < 128) : x.toInt8.toInt32 = x := by
  obtain ⟨j, hj, rfl⟩ := nI_of (Int32.not_lt.mpr h0)
  have : nI j < nI 128 := h1
  exact b128 j ((nI_ltI hj (by decide)).mp this)
theorem b_enc {b c : Int32} (h0 : 0 ≤ b) (h1 : b < 128) (hc0 : ¬ c < 0) (hc : ¬ 255 < c) : b = c.toInt8.toInt32 ↔ b = c := by
  obtain ⟨j, hj, rfl⟩ := nI_of hc0
  have : ¬ nI 255 < nI j := hc
  have hj2 : j < 256 := by
    rcases Nat.lt_or_ge j 256 with h | h
    · exact h
    · exact absurd ((nI_ltI (by decide) hj).mpr (by omega)) this
  rw [sc_eq (b128' h0 h1) hj2, a128' h0 h1]
theorem vp_in_lt {x : Int32} {n : Nat} (h : vp_in x n) (hn : n < 2 ^ 31) : ¬ x < 0 ∧ x < nI n := by
  obtain ⟨j, hj, rfl⟩ := vp_in_of h hn
  exact ⟨nI_pos (by omega), nI_lt hj hn⟩
theorem sl_len {l : Launch} {dd : va_G} {cB cI cL cS : ClassId} {adK adV : Nat → Nat} {si : Nat} (hs : si < 41) : CtR l y_JS_length w_JS_length (rmk 2 0 0) dd cls5 (tys4 cB cI cL cS) (XF adK adV) [] [.ref (adK si)] (qR (fun r => r = nI (lenS.getD si 0))) :=
  met_JS_length hs (show _ = _ from sc_shr0 (Nat.lt_of_le_of_lt (lenS_lt si) (by decide)))
theorem sl_lch {l : Launch} {dd : va_G} {cB cI cL cS : ClassId} {adK adV : Nat → Nat} {si : Nat} {x : Int32} (hs : si < 41) (h : vp_in x (lenS.getD si 0)) : CtR l y_JL_charAt w_JL_charAt (rmk 3 0 0) dd cls5 (tys4 cB cI cL cS) (XF adK adV) [] [.ref (adV si), .int x] (qR (fun r => r = chS si x)) := by
  refine met_JL_charAt hs ⟨vp_in_lt h (Nat.lt_of_le_of_lt (lenS_lt si) (by decide)), h, ?_⟩
  show _ = _
  rw [sc_c2]
  exact a128' (chS_lt si x).1 (chS_lt si x).2
theorem ix_loop {si : Nat} {c x2 : Int32} {K : Int32 → Prop} (hK : ∀ r : Int32, (0 ≤ r ↔ c ∈ bytS.getD si []) → K r) (hc0 : ¬ c < 0) (hc : ¬ 255 < c) : ∀ d k : Nat, k + d = lenS.getD si 0 → (∀ j, j < k → (bytS.getD si []).getD j 0 ≠ c) → vl_JL_indexOfChar_7 si c x2 (nI (lenS.getD si 0)) K (d + 1) (nI k) := by
  have hL := lenS_lt si
  have hE := lenS_eq si
  intro d
  induction d with
  | zero =>
    intro k hk hn
    unfold vl_JL_indexOfChar_7
    refine ⟨fun _ => hK _ ⟨fun h => absurd h (by decide), fun h => ?_⟩, fun h => absurd (nI_le (by omega) (by omega)) h⟩
    obtain ⟨j, hj, e⟩ := List.getElem_of_mem h
    exact absurd ((getD_of hj).trans e) (hn j (by omega))
  | succ d ih =>
    intro k hk hn
    have hkl : k < (bytS.getD si []).length := by omega
    have hm : (bytS.getD si []).getD k 0 ∈ bytS.getD si [] := by
      rw [getD_of hkl]; exact List.getElem_mem hkl
    have hb := bytS_mem hm
    have he : (bytS.getD si []).getD (nI k).toNatClampNeg 0 = (bytS.getD si []).getD k 0 := by rw [nI_clamp (by omega)]
    unfold vl_JL_indexOfChar_7
    refine ⟨fun h => absurd h (nI_ge (by omega) (by omega)), fun _ => ⟨vp_in_nI (by omega) (by omega), fun hne => ?_, fun hq => ?_⟩⟩
    · rw [he, b_enc hb.1 hb.2 hc0 hc] at hne
      rw [← nI_succ]
      refine ih (k + 1) (by omega) (fun j hj => ?_)
      rcases Nat.lt_or_ge j k with h | h
      · exact hn j h
      · rw [show j = k by omega]; exact hne
    · rw [he, b_enc hb.1 hb.2 hc0 hc] at hq
      exact hK _ ⟨fun _ => hq ▸ hm, fun _ => nI_pos' (by omega)⟩
abbrev b_JS_charAt : ByteArray := prog_17_method_56_code
def y_JS_charAt : MethodName := ⟨"java/lang/String", "charAt", "(I)C"⟩
abbrev w_JS_charAt : List Cond := .code y_JS_charAt b_JS_charAt 2 (some .char) :: lw_gt
theorem d_JS_charAt_0 : decode b_JS_charAt 0 = .ok (.aload_n 0, 1) := by decide +kernel
theorem d_JS_charAt_1 : decode b_JS_charAt 1 = .ok (.invokevirtual 492, 3) := by decide +kernel
theorem d_JS_charAt_4 : decode b_JS_charAt 4 = .ok (.ifCond .eq 12, 3) := by decide +kernel
theorem d_JS_charAt_7 : decode b_JS_charAt 7 = .ok (.aload_n 0, 1) := by decide +kernel
theorem d_JS_charAt_8 : decode b_JS_charAt 8 = .ok (.getfield 9, 3) := by decide +kernel
theorem d_JS_charAt_11 : decode b_JS_charAt 11 = .ok (.iload_n 1, 1) := by decide +kernel
theorem d_JS_charAt_12 : decode b_JS_charAt 12 = .ok (.invokestatic 495, 3) := by decide +kernel
theorem d_JS_charAt_15 : decode b_JS_charAt 15 = .ok (.ireturn, 1) := by decide +kernel
theorem d_JS_charAt_16 : decode b_JS_charAt 16 = .ok (.aload_n 0, 1) := by decide +kernel
theorem d_JS_charAt_17 : decode b_JS_charAt 17 = .ok (.getfield 9, 3) := by decide +kernel
theorem d_JS_charAt_20 : decode b_JS_charAt 20 = .ok (.iload_n 1, 1) := by decide +kernel
theorem d_JS_charAt_21 : decode b_JS_charAt 21 = .ok (.invokestatic 498, 3) := by decide +kernel
theorem d_JS_charAt_24 : decode b_JS_charAt 24 = .ok (.ireturn, 1) := by decide +kernel
abbrev b_JS_indexOf_II : ByteArray := prog_17_method_80_code
def y_JS_indexOf_II : MethodName := ⟨"java/lang/String", "indexOf", "(II)I"⟩
abbrev w_JS_indexOf_II : List Cond := .code y_JS_indexOf_II b_JS_indexOf_II 3 (some .int) :: lw_gt
theorem d_JS_indexOf_II_0 : decode b_JS_indexOf_II 0 = .ok (.aload_n 0, 1) := by decide +kernel
theorem d_JS_indexOf_II_1 : decode b_JS_indexOf_II 1 = .ok (.invokevirtual 492, 3) := by decide +kernel
theorem d_JS_indexOf_II_4 : decode b_JS_indexOf_II 4 = .ok (.ifCond .eq 19, 3) := by decide +kernel
theorem d_JS_indexOf_II_7 : decode b_JS_indexOf_II 7 = .ok (.aload_n 0, 1) := by decide +kernel
theorem d_JS_indexOf_II_8 : decode b_JS_indexOf_II 8 = .ok (.getfield 9, 3) := by decide +kernel
theorem d_JS_indexOf_II_11 : decode b_JS_indexOf_II 11 = .ok (.iload_n 1, 1) := by decide +kernel
theorem d_JS_indexOf_II_12 : decode b_JS_indexOf_II 12 = .ok (.iload_n 2, 1) := by decide +kernel
theorem d_JS_indexOf_II_13 : decode b_JS_indexOf_II 13 = .ok (.aload_n 0, 1) := by decide +kernel
theorem d_JS_indexOf_II_14 : decode b_JS_indexOf_II 14 = .ok (.invokevirtual 505, 3) := by decide +kernel
theorem d_JS_indexOf_II_17 : decode b_JS_indexOf_II 17 = .ok (.invokestatic 637, 3) := by decide +kernel
theorem d_JS_indexOf_II_20 : decode b_JS_indexOf_II 20 = .ok (.goto 16, 3) := by decide +kernel
theorem d_JS_indexOf_II_23 : decode b_JS_indexOf_II 23 = .ok (.aload_n 0, 1) := by decide +kernel
theorem d_JS_indexOf_II_24 : decode b_JS_indexOf_II 24 = .ok (.getfield 9, 3) := by decide +kernel
theorem d_JS_indexOf_II_27 : decode b_JS_indexOf_II 27 = .ok (.iload_n 1, 1) := by decide +kernel
theorem d_JS_indexOf_II_28 : decode b_JS_indexOf_II 28 = .ok (.iload_n 2, 1) := by decide +kernel
theorem d_JS_indexOf_II_29 : decode b_JS_indexOf_II 29 = .ok (.aload_n 0, 1) := by decide +kernel
theorem d_JS_indexOf_II_30 : decode b_JS_indexOf_II 30 = .ok (.invokevirtual 505, 3) := by decide +kernel
theorem d_JS_indexOf_II_33 : decode b_JS_indexOf_II 33 = .ok (.invokestatic 640, 3) := by decide +kernel
theorem d_JS_indexOf_II_36 : decode b_JS_indexOf_II 36 = .ok (.ireturn, 1) := by decide +kernel
abbrev b_JS_indexOf_I : ByteArray := prog_17_method_79_code
def y_JS_indexOf_I : MethodName := ⟨"java/lang/String", "indexOf", "(I)I"⟩
abbrev w_JS_indexOf_I : List Cond := .code y_JS_indexOf_I b_JS_indexOf_I 2 (some .int) :: lw_gt
theorem d_JS_indexOf_I_0 : decode b_JS_indexOf_I 0 = .ok (.aload_n 0, 1) := by decide +kernel
theorem d_JS_indexOf_I_1 : decode b_JS_indexOf_I 1 = .ok (.iload_n 1, 1) := by decide +kernel
theorem d_JS_indexOf_I_2 : decode b_JS_indexOf_I 2 = .ok (.iconst 0, 1) := by decide +kernel
theorem d_JS_indexOf_I_3 : decode b_JS_indexOf_I 3 = .ok (.invokevirtual 633, 3) := by decide +kernel
theorem d_JS_indexOf_I_6 : decode b_JS_indexOf_I 6 = .ok (.ireturn, 1) := by decide +kernel
def vc_JS_charAt   (si : Nat) (x1 : Int32) (K_ : Int32 → Prop) : Prop :=
  (vp_in x1 (lenS.getD si 0) ∧ (K_ (chS si x1)))
set_option maxHeartbeats 4000000 in
set_option maxRecDepth 100000 in
theorem met_JS_charAt {l : Launch} {dd : va_G} {cB cI cL cS : ClassId} {adK adV : Nat → Nat}    {si : Nat} {x1 : Int32} {K_ : Int32 → Prop}  (hs_si : si < 41) (hv : vc_JS_charAt   si x1 K_) : CtR l y_JS_charAt w_JS_charAt (rmk 4 0 0) dd cls5 [(cB, .byte), (cI, .int), (cL, .long), (cS, .object "java/lang/String")] (XF adK adV) [] [.ref (adK si), .int x1] (qR K_) := by
  refine m_ofR (cc := b_JS_charAt) (nL := 2) (ret := (some .char)) (by decide) rfl (Nat.le_of_ble_eq_true rfl) ?_
  intro p e s m below meth c ls ar Fx_ hP hK hX hl
  obtain ⟨hx, hb, hml, hr, hlocks, hown, hts, hinn⟩ := Fx_
  have hl : lv_has ls 2 [(0, .ref (adK si)), (1, .int x1)] := hl
  unfold vc_JS_charAt at hv
  refine lv_aload_n hx hb d_JS_charAt_0 rfl (lv_at hl 0 rfl) ?_
  refine krO_i (st := [.ref (adK si)]) (rest := []) ⟨hx, hb, hml, hown, hts⟩ (met_JS_isLatin1 (l := l) (dd := dd) (cB := cB) (cI := cI) (cL := cL) (cS := cS) (adK := adK) (adV := adV)  hs_si (K_ := fun r => r = 1) rfl) (cwV 0 hts (gv (tg0 at_212) (tg0 at_213) (tg0 at_214) (tg0 at_14) (tg0 at_215)) rfl rfl rfl (by decide +kernel) (rk (by omega) (by decide))) xfb (xfr hX va_S.rf) hP hK [] rfl (xf_o hX va_S.rf hs_si) rfl hl.1 rfl (Nat.le_of_ble_eq_true rfl) d_JS_charAt_1 ⟨Nat.zero_le _, Nat.zero_le _⟩ (fun r_1 hq => ?_)
  replace hq : r_1 = 1 := hq
  subst hq
  refine lv_if_eq (tgt := 16) hx hb d_JS_charAt_4 (by decide) (fun h_ => absurd h_ (by decide)) (fun _ => ?_)
  refine lv_aload_n hx hb d_JS_charAt_7 rfl (lv_at hl 0 rfl) ?_
  refine vk_getf (v := .ref (adV si)) hx hb (xf_s hX hs_si).2.2.1 va_S.rf hown (hts (.fieldLink "java/lang/String" 9 "java/lang/String" "value" "[B") (tg at_1073)) (fun _ h9 => h9) d_JS_charAt_8 ?_
  refine lv_iload_n hx hb d_JS_charAt_11 rfl (lv_at hl 1 rfl) ?_
  obtain ⟨h_2, hv⟩ := hv
  refine krs_i (st := [.int x1, .ref (adV si)]) (rest := []) ⟨hx, hb, hml, hown, hts⟩ (sl_lch (l := l) (dd := dd) (cB := cB) (cI := cI) (cL := cL) (cS := cS) (adK := adK) (adV := adV)  hs_si h_2) (cwSo 2 hts (gcd (tg0 at_218)) rfl rfl rfl (hts (.initialized "java/lang/StringLatin1") (tg at_15)) (hts (.methodLink "java/lang/String" 495 ⟨"java/lang/StringLatin1", "charAt", "([BI)C"⟩) (tg at_216)) (hts (.static ⟨"java/lang/StringLatin1", "charAt", "([BI)C"⟩) (tg at_217)) (by decide +kernel) (rk (by omega) (by decide))) xfb (xfr hX va_S.rf) hP hK [] rfl rfl hl.1 rfl (Nat.le_of_ble_eq_true rfl) d_JS_charAt_12 ⟨Nat.zero_le _, Nat.zero_le _⟩ (fun r_3 hq => ?_)
  replace hq : r_3 = (chS si x1) := hq
  subst hq
  exact rr_n hx hb hr (nar_s _ _) hlocks hv d_JS_charAt_15
def vc_JS_indexOf2   (si : Nat) (x1 : Int32) (x2 : Int32) (K_ : Int32 → Prop) : Prop :=
  (vc_JL_indexOf si x1 x2 (nI (lenS.getD si 0)) (fun r_3 => (K_ r_3)))
set_option maxHeartbeats 4000000 in
set_option maxRecDepth 100000 in
theorem met_JS_indexOf2 {l : Launch} {dd : va_G} {cB cI cL cS : ClassId} {adK adV : Nat → Nat}    {si : Nat} {x1 : Int32} {x2 : Int32} {K_ : Int32 → Prop}  (hs_si : si < 41) (hv : vc_JS_indexOf2   si x1 x2 K_) : CtR l y_JS_indexOf_II w_JS_indexOf_II (rmk 3 0 0) dd cls5 [(cB, .byte), (cI, .int), (cL, .long), (cS, .object "java/lang/String")] (XF adK adV) [] [.ref (adK si), .int x1, .int x2] (qR K_) := by
  refine m_ofR (cc := b_JS_indexOf_II) (nL := 3) (ret := (some .int)) (by decide) rfl (Nat.le_of_ble_eq_true rfl) ?_
  intro p e s m below meth c ls ar Fx_ hP hK hX hl
  obtain ⟨hx, hb, hml, hr, hlocks, hown, hts, hinn⟩ := Fx_
  have hl : lv_has ls 3 [(0, .ref (adK si)), (1, .int x1), (2, .int x2)] := hl
  unfold vc_JS_indexOf2 at hv
  refine lv_aload_n hx hb d_JS_indexOf_II_0 rfl (lv_at hl 0 rfl) ?_
  refine krO_i (st := [.ref (adK si)]) (rest := []) ⟨hx, hb, hml, hown, hts⟩ (met_JS_isLatin1 (l := l) (dd := dd) (cB := cB) (cI := cI) (cL := cL) (cS := cS) (adK := adK) (adV := adV)  hs_si (K_ := fun r => r = 1) rfl) (cwV 0 hts (gv (tg0 at_212) (tg0 at_213) (tg0 at_214) (tg0 at_14) (tg0 at_215)) rfl rfl rfl (by decide +kernel) (rk (by omega) (by decide))) xfb (xfr hX va_S.rf) hP hK [] rfl (xf_o hX va_S.rf hs_si) rfl hl.1 rfl (Nat.le_of_ble_eq_true rfl) d_JS_indexOf_II_1 ⟨Nat.zero_le _, Nat.zero_le _⟩ (fun r_1 hq => ?_)
  replace hq : r_1 = 1 := hq
  subst hq
  refine lv_if_eq (tgt := 23) hx hb d_JS_indexOf_II_4 (by decide) (fun h_ => absurd h_ (by decide)) (fun _ => ?_)
  refine lv_aload_n hx hb d_JS_indexOf_II_7 rfl (lv_at hl 0 rfl) ?_
  refine vk_getf (v := .ref (adV si)) hx hb (xf_s hX hs_si).2.2.1 va_S.rf hown (hts (.fieldLink "java/lang/String" 9 "java/lang/String" "value" "[B") (tg at_1073)) (fun _ h9 => h9) d_JS_indexOf_II_8 ?_
  refine lv_iload_n hx hb d_JS_indexOf_II_11 rfl (lv_at hl 1 rfl) ?_
  refine lv_iload_n hx hb d_JS_indexOf_II_12 rfl (lv_at hl 2 rfl) ?_
  refine lv_aload_n hx hb d_JS_indexOf_II_13 rfl (lv_at hl 0 rfl) ?_
  refine krO_i (st := [.ref (adK si), .int x2, .int x1, .ref (adV si)]) (rest := [.int x2, .int x1, .ref (adV si)]) ⟨hx, hb, hml, hown, hts⟩ (sl_len (l := l) (dd := dd) (cB := cB) (cI := cI) (cL := cL) (cS := cS) (adK := adK) (adV := adV)  hs_si) (cwV 0 hts (gv (tg0 at_283) (tg0 at_199) (tg0 at_200) (tg0 at_14) (tg0 at_201)) rfl rfl rfl (by decide +kernel) (rk (by omega) (by decide))) xfb (xfr hX va_S.rf) hP hK [] rfl (xf_o hX va_S.rf hs_si) rfl hl.1 rfl (Nat.le_of_ble_eq_true rfl) d_JS_indexOf_II_14 ⟨Nat.zero_le _, Nat.zero_le _⟩ (fun r_2 hq => ?_)
  replace hq : r_2 = (nI (lenS.getD si 0)) := hq
  subst hq
  have hM := met_JL_indexOf (l := l) (dd := dd) (cB := cB) (cI := cI) (cL := cL) (cS := cS) (adK := adK) (adV := adV)   hs_si hv
  refine krs_i (st := [.int (nI (lenS.getD si 0)), .int x2, .int x1, .ref (adV si)]) (rest := []) ⟨hx, hb, hml, hown, hts⟩ hM (cwSo 4 hts (gcd (tg0 at_286)) rfl rfl rfl (hts (.initialized "java/lang/StringLatin1") (tg at_15)) (hts (.methodLink "java/lang/String" 637 ⟨"java/lang/StringLatin1", "indexOf", "([BIII)I"⟩) (tg at_284)) (hts (.static ⟨"java/lang/StringLatin1", "indexOf", "([BIII)I"⟩) (tg at_285)) (by decide +kernel) (rk (by omega) (by decide))) xfb (xfr hX va_S.rf) hP hK [] rfl rfl hl.1 rfl (Nat.le_of_ble_eq_true rfl) d_JS_indexOf_II_17 ⟨Nat.zero_le _, Nat.zero_le _⟩ (fun r_3 hv => ?_)
  refine lv_goto (tgt := 36) hx hb d_JS_indexOf_II_20 (by decide) ?_
  exact rr_i hx hb hr hlocks r_3 hv d_JS_indexOf_II_36
def vc_JS_indexOf   (si : Nat) (x1 : Int32) (K_ : Int32 → Prop) : Prop :=
  (vc_JS_indexOf2 si x1 0 (fun r_1 => (K_ r_1)))
set_option maxHeartbeats 4000000 in
set_option maxRecDepth 100000 in
theorem met_JS_indexOf {l : Launch} {dd : va_G} {cB cI cL cS : ClassId} {adK adV : Nat → Nat}    {si : Nat} {x1 : Int32} {K_ : Int32 → Prop}  (hs_si : si < 41) (hv : vc_JS_indexOf   si x1 K_) : CtR l y_JS_indexOf_I w_JS_indexOf_I (rmk 4 0 0) dd cls5 [(cB, .byte), (cI, .int), (cL, .long), (cS, .object "java/lang/String")] (XF adK adV) [] [.ref (adK si), .int x1] (qR K_) := by
  refine m_ofR (cc := b_JS_indexOf_I) (nL := 2) (ret := (some .int)) (by decide) rfl (Nat.le_of_ble_eq_true rfl) ?_
  intro p e s m below meth c ls ar Fx_ hP hK hX hl
  obtain ⟨hx, hb, hml, hr, hlocks, hown, hts, hinn⟩ := Fx_
  have hl : lv_has ls 2 [(0, .ref (adK si)), (1, .int x1)] := hl
  unfold vc_JS_indexOf at hv
  refine lv_aload_n hx hb d_JS_indexOf_I_0 rfl (lv_at hl 0 rfl) ?_
  refine lv_iload_n hx hb d_JS_indexOf_I_1 rfl (lv_at hl 1 rfl) ?_
  refine lv_iconst (v := 0) hx hb d_JS_indexOf_I_2 (by decide) ?_
  refine krO_i (st := [.int 0, .int x1, .ref (adK si)]) (rest := []) ⟨hx, hb, hml, hown, hts⟩ (met_JS_indexOf2 (l := l) (dd := dd) (cB := cB) (cI := cI) (cL := cL) (cS := cS) (adK := adK) (adV := adV)  hs_si hv) (cwV 2 hts (gv (tg0 at_279) (tg0 at_280) (tg0 at_281) (tg0 at_14) (tg0 at_282)) rfl rfl rfl (by decide +kernel) (rk (by omega) (by decide))) xfb (xfr hX va_S.rf) hP hK [] rfl (xf_o hX va_S.rf hs_si) rfl hl.1 rfl (Nat.le_of_ble_eq_true rfl) d_JS_indexOf_I_3 ⟨Nat.zero_le _, Nat.zero_le _⟩ (fun r_1 hv => ?_)
  exact rr_i hx hb hr hlocks r_1 hv d_JS_indexOf_I_6
theorem sl_chr {l : Launch} {dd : va_G} {cB cI cL cS : ClassId} {adK adV : Nat → Nat} {si : Nat} {x : Int32} (hs : si < 41) (h : vp_in x (lenS.getD si 0)) : CtR l y_JS_charAt w_JS_charAt (rmk 4 0 0) dd cls5 (tys4 cB cI cL cS) (XF adK adV) [] [.ref (adK si), .int x] (qR (fun r => r = chS si x)) :=
  met_JS_charAt hs ⟨h, rfl⟩
theorem sl_idx {l : Launch} {dd : va_G} {cB cI cL cS : ClassId} {adK adV : Nat → Nat} {si : Nat} {c : Int32} (hs : si < 41) : CtR l y_JS_indexOf_I w_JS_indexOf_I (rmk 4 0 0) dd cls5 (tys4 cB cI cL cS) (XF adK adV) [] [.ref (adK si), .int c] (qR (fun r => 0 ≤ r ↔ c ∈ bytS.getD si [])) := by
  have hL := lenS_lt si
  have hE := lenS_eq si
  refine met_JS_indexOf hs ?_
  unfold vc_JS_indexOf vc_JS_indexOf2 vc_JL_indexOf vc_JL_canEncode
  have no : (¬ (0 ≤ c ∧ c < 128)) → ((0 : Int32) ≤ -1 ↔ c ∈ bytS.getD si []) := fun h => ⟨fun z => absurd z (by decide), fun z => absurd (bytS_mem z) h⟩
  refine ⟨fun h0 => ⟨fun h => absurd rfl h, fun _ => no (fun z => absurd h0 (Int32.not_lt.mpr z.1))⟩, fun h0 => ⟨fun h1 => ⟨fun h => absurd rfl h, fun _ => no (fun z => absurd h1 (Int32.not_lt.mpr (Int32.le_of_lt (Int32.lt_trans z.2 (by decide)))))⟩, fun h1 => ⟨fun _ => ?_, fun h => absurd h (by decide)⟩⟩⟩
  rw [if_neg (show ¬ (0 : Int32) < 0 by decide), if_neg (show ¬ nI (lenS.getD si 0) < nI (lenS.getD si 0) from fun h => Int32.lt_irrefl h)]
  refine ⟨fun _ => ⟨_, ix_loop (fun r h => h) h0 h1 (lenS.getD si 0) 0 (by omega) (fun j hj => absurd hj (Nat.not_lt_zero j))⟩, fun h => ⟨fun z => absurd z (by decide), fun z => ?_⟩⟩
  have : ¬ nI 0 < nI (lenS.getD si 0) := h
  rw [nI_ltI (by decide) (by omega)] at this
  have h3 : (bytS.getD si []).length = 0 := by omega
  rw [List.length_eq_zero_iff.mp h3] at z
  cases z
