theorem md_app {α : Type} {Q B : List α} {a : α} {f : α → α} : (Q ++ a :: B).modify Q.length f = Q ++ f a :: B := by
  induction Q with
  | nil => rfl
  | cons x Q ih =>
    show (x :: (Q ++ a :: B)).modify (Q.length + 1) f = x :: (Q ++ f a :: B)
    rw [List.modify_succ_cons, ih]
theorem md_l2 {α : Type} {Q B : List α} {m : Nat} {f : α → α} : (Q ++ B).modify (Q.length + m) f = Q ++ B.modify m f := by
  induction Q with
  | nil => simp
  | cons x Q ih =>
    show (x :: (Q ++ B)).modify (Q.length + 1 + m) f = x :: (Q ++ B.modify m f)
    rw [show Q.length + 1 + m = (Q.length + m) + 1 from by omega, List.modify_succ_cons, ih]
theorem md_last {Q : List pRw} {a : pRw} {f : pRw → pRw} : (Q ++ [a]).modify Q.length f = Q ++ [f a] := md_app
theorem dig_f {v : Int64} {b : Int32} (h : isDg b) : ((10 * v) + b.toInt64) - 48 = v * 10 + (b - 48).toInt64 := by
  have hb : b.toInt64 = (b - 48).toInt64 + 48 := by
    obtain ⟨k, hk, e⟩ := byte_k (b := b) (by
      have := h.1
      rw [Int32.le_iff_toInt_le] at this ⊢
      have e1 : (48 : Int32).toInt = 48 := by decide
      have e2 : (-128 : Int32).toInt = -128 := by decide
      omega) (by
      have := h.2
      rw [Int32.le_iff_toInt_le] at this ⊢
      have e1 : (57 : Int32).toInt = 57 := by decide
      have e2 : (127 : Int32).toInt = 127 := by decide
      omega)
    have : ∀ k : Nat, k < 256 → isDg (Int32.ofInt ((k : Int) - 128)) → (Int32.ofInt ((k : Int) - 128)).toInt64 = ((Int32.ofInt ((k : Int) - 128)) - 48).toInt64 + 48 := by decide +kernel
    rw [e] at h ⊢
    exact this k hk h
  rw [hb, ← Int64.add_assoc, Int64.add_sub_cancel, Int64.mul_comm]
theorem lxD_dg (t : FN) (n : Nat) : ∀ f i k, i ≤ k → k < lxD t n f i → isDg (bch t n k)
  | 0, i, k, h1, h2 => by
    have : k < i := h2
    omega
  | f + 1, i, k, h1, h2 => by
    unfold lxD at h2
    split at h2
    · rename_i hc
      by_cases hk : k = i
      · subst hk; exact hc
      · exact lxD_dg t n f (i + 1) k (by omega) h2
    · omega
theorem aDg_dg {t : FN} {n i k : Nat} (h1 : i ≤ k) (h2 : k < aDg t n i) : isDg (bch t n k) := lxD_dg t n _ i k h1 h2
theorem num_w {t : FN} {n j : Nat} {so : FN} (h : TK t n (sbN t n j) (pseN t n j) 4) : pseN t n j = aNu t n (sbN t n j) := by
  have h4 := TK_4 h
  show aWd t n (sbN t n j) = _
  unfold aWd
  rw [if_neg h4.1, if_pos h4.2]
theorem q_numL {t : FN} {n nTp : Nat} {so : FN} {W j : Nat} {zs : RS} {x nR : Nat} {K_ E_ : RS → Prop} (hW : rW t n nTp so W) (hj : j + 1 < W) (e1 : zs.tp = t) (e2 : zs.nT = nTp) (e3 : zs.fd = nI n) (e4 : zs.at_ = nI (pseN t n j)) (e5 : zs.nR = nR) (hx : x < nR) (hR : nR < 2 ^ 24) (h4 : TK t n (sbN t n j) (pseN t n j) 4)
    (kk : ∀ z kd ky, z = RS.w_Bh (RS.w_Dg zs (vp_updL zs.Dg x (valW t n j))) (upd zs.Bh x (nI (behW t n j))) → tkOk (bch t n (sbN t n (j + 1))) (so (j + 1)) kd ky → K_ (lexS z (nI (pseN t n (j + 1))) (nI (sbN t n (j + 1))) kd ky)) :
    ∀ f k v (af pt : Int32), f + k = wLen t n j → valL t n f (sbN t n j + k) v = valW t n j → ((sbN t n j + k ≤ aDg t n (sbN t n j) ∧ pt = 0 ∧ af = 0) ∨ (aDg t n (sbN t n j) < sbN t n j + k ∧ pt = 1 ∧ af = nI (sbN t n j + k - aDg t n (sbN t n j) - 1))) → vl_M_number_26 K_ E_ (f + 1) (nI x) v af pt (nI (sbN t n j + k)) zs := by
  have hs := psb_b t n j
  obtain ⟨⟨b1, b2, b3⟩, b4, _⟩ := id hW
  have hwl : wLen t n j = pseN t n j - sbN t n j := rfl
  have eE := num_w (so := so) h4
  have tk4 := TK_4 h4
  have hsn : sbN t n j ≤ n := by omega
  have hP := aDg_b (t := t) hsn
  have hE := aNu_b (t := t) hsn
  generalize hPv : aDg t n (sbN t n j) = P at *
  intro f
  induction f with
  | zero =>
    intro k v af pt hf hv hp
    unfold vl_M_number_26
    rw [e4, e5, nI_clamp (by omega)]
    refine ⟨fun _ => ⟨pu_in hx (by omega), pu_in hx (by omega), ?_⟩, fun q => absurd ((nI_leI (by omega) (by omega)).mpr (by omega)) q⟩
    have ev : v = valW t n j := hv
    have ea : af = nI (behW t n j) := by
      unfold behW
      rw [hPv]
      rcases hp with ⟨p1, p2, p3⟩ | ⟨p1, p2, p3⟩
      · rw [p3, show pseN t n j - P - 1 = 0 from by omega]; rfl
      · rw [p3]; congr 1; omega
    rw [ev, ea]
    exact q_next hW e1 e2 e3 e4 hj (fun kd ky => kk _ kd ky rfl)
  | succ f ih =>
    intro k v af pt hf hv hp
    unfold vl_M_number_26
    rw [e4, e2, e1, nI_leI (by omega) (by omega), nI_clamp (n := sbN t n j + k) (by omega)]
    unfold valL at hv
    have eb : t (sbN t n j + k) = bch t n (sbN t n j + k) := by unfold bch; rw [if_pos (by omega)]
    rw [eb]
    have hin : vp_in (nI (sbN t n j + k)) nTp := pu_in (by omega) (by omega)
    refine ⟨fun q => by omega, fun _ => ⟨hin, ?_⟩⟩
    have isd : bch t n (sbN t n j + k) ≠ 46 → isDg (bch t n (sbN t n j + k)) := by
      intro hne
      by_cases hk : sbN t n j + k < P
      · exact aDg_dg (Nat.le_add_right _ _) (by rw [hPv]; exact hk)
      · unfold aNu at eE
        rw [hPv] at eE
        split at eE
        · rename_i hc
          by_cases hk2 : sbN t n j + k = P
          · rw [hk2] at hne; exact absurd hc.1 hne
          · exact aDg_dg (i := P + 1) (by omega) (by rw [← eE]; omega)
        · omega
    unfold vj_M_number_84 vj_M_number_87
    refine ⟨fun w => ⟨hin, fun p0 => ?_, fun p0 => ?_⟩, fun w => ?_⟩
    · have hd := isd w
      rw [if_pos hd] at hv
      rw [dig_f hd, nI_1]
      refine ih (k + 1) _ _ _ (by omega) hv ?_
      rcases hp with ⟨p1, p2, p3⟩ | ⟨p1, p2, p3⟩
      · refine Or.inl ⟨?_, p2, by rw [p3]; rfl⟩
        have : sbN t n j + k < P := by
          by_cases hk : sbN t n j + k < P
          · exact hk
          · have hkp : sbN t n j + k = P := by omega
            unfold aNu at eE
            rw [hPv] at eE
            split at eE
            · rename_i hc
              rw [hkp] at w; exact absurd hc.1 w
            · omega
        omega
      · rw [p2] at p0; exact absurd p0 (by decide)
    · have hd := isd w
      rw [if_pos hd] at hv
      rw [dig_f hd, nI_1]
      refine ih (k + 1) _ _ _ (by omega) hv ?_
      rcases hp with ⟨p1, p2, p3⟩ | ⟨p1, p2, p3⟩
      · exact absurd p2 p0
      · refine Or.inr ⟨by omega, p2, ?_⟩
        rw [p3, nI_1]
        congr 1; omega
    · have hnd : ¬ isDg (bch t n (sbN t n j + k)) := by rw [w]; decide
      rw [if_neg hnd] at hv
      rw [nI_1]
      have hkp : sbN t n j + k = P := by
        by_cases hk : sbN t n j + k < P
        · exact absurd (aDg_dg (Nat.le_add_right _ _) (by rw [hPv]; exact hk)) hnd
        · by_cases hk2 : sbN t n j + k = P
          · exact hk2
          · unfold aNu at eE
            rw [hPv] at eE
            split at eE
            · exact absurd (aDg_dg (t := t) (n := n) (i := P + 1) (by omega) (by rw [← eE]; omega)) hnd
            · omega
      refine ih (k + 1) _ _ _ (by omega) hv (Or.inr ⟨by omega, rfl, ?_⟩)
      rcases hp with ⟨p1, p2, p3⟩ | ⟨p1, p2, p3⟩
      · rw [p3, show sbN t n j + (k + 1) - P - 1 = 0 from by omega]; rfl
      · omega
theorem q_number {t : FN} {n nTp : Nat} {so : FN} {W j : Nat} {Q : List pRw} {nR nN nd d x ac : Nat} {zs : RS} {a : pRw} {K_ E_ : RS → Prop} (hW : rW t n nTp so W) (hj : j < W) (h : RP t n nTp so Q nR nN nd d j zs) (hx : Q[x]? = some a) (h4 : so j = 4) (hac : nuW ac a.2.1 = some j) (hac2 : nmW ac a.2.1 = nmW a.2.2.2.2.2.2 a.2.1) (hac5 : ac ≠ 5)
    (kk : ∀ zs', RP t n nTp so (Q.modify x (rAc ac)) nR nN nd d (j + 1) zs' → K_ zs') : vc_M_number zs (nI x) K_ E_ := by
  have hj1 := tk_go hW hj h4 (by decide) (by decide)
  have tk4 : TK t n (sbN t n j) (pseN t n j) 4 := by have := (hW.2.2.2.2.2 j hj).1; rw [h4] at this; exact this
  have hs1 := psb_b t n j
  have hs2 := sb_n t n j
  obtain ⟨⟨hC, h1, h2, hQ, h4', h5, h6, h7, h8⟩, hL, hn⟩ := h
  obtain ⟨c1, c2, c3, c4, c5, c6, c7, c8, c9, c10, c11⟩ := id hC
  have hxl : x < Q.length := (List.getElem?_eq_some_iff.mp hx).1
  have kd2 : zs.kd = 2 := (q_kd hL).2.2.1.mpr h4
  unfold vc_M_number
  refine ⟨fun _ => ⟨wLen t n j + 1, ?_⟩, fun q => absurd kd2 q⟩
  rw [hL.1]
  refine q_numL hW hj1 c1 c2 c3 hL.2.1 c4 (by omega) c9 tk4 (fun z kd ky hz htk => ?_) (wLen t n j) 0 0 0 0 rfl rfl (Or.inl ⟨(aDg_b (t := t) (n := n) (by omega)).1, rfl, rfl⟩)
  have zf : z.tp = zs.tp ∧ z.nT = zs.nT ∧ z.fd = zs.fd ∧ z.nR = zs.nR ∧ z.nN = zs.nN ∧ z.th = zs.th ∧ z.nm = zs.nm ∧ z.op = zs.op ∧ z.ct = zs.ct ∧ z.nd = zs.nd ∧ z.fa = zs.fa ∧ z.pl = zs.pl := by rw [hz]; exact ⟨rfl, rfl, rfl, rfl, rfl, rfl, rfl, rfl, rfl, rfl, rfl, rfl⟩
  have za : z.Kd = zs.Kd ∧ z.Bg = zs.Bg ∧ z.Pr = zs.Pr ∧ z.Sg = zs.Sg ∧ z.De = zs.De ∧ z.Pc = zs.Pc ∧ z.Fi = zs.Fi ∧ z.Nl = zs.Nl ∧ z.Nf = zs.Nf := by rw [hz]; exact ⟨rfl, rfl, rfl, rfl, rfl, rfl, rfl, rfl, rfl⟩
  have zd : z.Dg = vp_updL zs.Dg x (valW t n j) ∧ z.Bh = upd zs.Bh x (nI (behW t n j)) := by rw [hz]; exact ⟨rfl, rfl⟩
  clear hz
  obtain ⟨z1, z2, z3, z4, z5, z6, z7, z8, z9, z10, z11, z12⟩ := zf
  obtain ⟨y1, y2, y3, y4, y5, y6, y7, y8, y9⟩ := za
  obtain ⟨x1, x2⟩ := zd
  refine kk _ ⟨⟨⟨z1.trans c1, z2.trans c2, z3.trans c3, z4.trans c4, z5.trans c5, z6.trans c6, by show ∀ k, -128 ≤ z.nm k ∧ z.nm k ≤ 127; rw [z7]; exact c7, c8, c9, c10, c11⟩, z8.trans h1, ?_, ?_, z10.trans h4', h5, z11.trans h6, z12.trans h7, fun i b hi => ?_⟩, ⟨rfl, rfl, htk⟩, by omega⟩
  · rw [List.length_modify]; exact z9.trans h2
  · rw [List.length_modify]; exact hQ
  · rcases md_l hi with ⟨rfl, a', ha', rfl⟩ | ⟨hne, ha'⟩
    · rw [hx] at ha'
      simp at ha'
      subst ha'
      obtain ⟨a1, a2, a3, a4, a5, a6, a7, a8, a9, a10, a11⟩ := h8 i a hx
      refine ⟨(congrFun y1 i).trans a1, (congrFun y2 i).trans a2, (congrFun y3 i).trans a3, (congrFun y4 i).trans a4, (congrFun y5 i).trans a5, (congrFun y6 i).trans a6, fun q => (congrFun y7 i).trans (a7 q), ?_, ?_, ?_, ?_⟩
      · refine (congrFun y8 i).trans (a8.trans ?_)
        show nlA t n a.2.2.2.2.2.2 a.2.1 = nlA t n ac a.2.1
        unfold nlA
        rw [hac2]
      · refine (congrFun x1 i).trans (updL_eq.trans ?_)
        show valW t n j = dgA t n ac a.2.1
        unfold dgA
        rw [hac]
      · refine (congrFun x2 i).trans (upd_eq.trans ?_)
        show nI (behW t n j) = bhA t n so ac a.2.1
        unfold bhA
        rw [if_neg hac5, hac]
      · intro w hw
        have hw' : nmW ac a.2.1 = some w := hw
        rw [hac2] at hw'
        obtain ⟨f0, q1, q2, q3⟩ := a11 w hw'
        exact ⟨f0, (congrFun y9 i).trans q1, q2, fun k hk => (congrFun z7 _).trans (q3.1 k hk), q3.2⟩
    · exact rowOk_cg (zs' := lexS z (nI (pseN t n (j + 1))) (nI (sbN t n (j + 1))) kd ky) (h8 i b ha') (congrFun y1 i) (congrFun y2 i) (congrFun y3 i) (congrFun y4 i) (congrFun y5 i) (congrFun y6 i) (congrFun y7 i) (congrFun y8 i) ((congrFun x1 i).trans (updL_ne hne)) ((congrFun x2 i).trans (upd_ne hne)) (congrFun y9 i) z7
theorem q_numP {mc ms : Nat} {t : FN} {n nTp : Nat} {so : FN} {W j : Nat} {Q : List pRw} {nR nN nd d : Nat} {zs : RS} {p : Int32} {K_ : Int32 → RS → Prop} {E_ : RS → Prop} (hW : rW t n nTp so W) (hj : j < W) (h : RP t n nTp so Q nR nN nd d j zs) (hQ : Q.length < 2 ^ 23)
    (hc : grR nR Q.length ≤ 4 * mc + nR) (hs : 24 * grR nR Q.length ≤ ms + 24 * nR)
    (kk : so j = 4 → ∀ zs', RP t n nTp so (Q ++ [(16, j, p, 0, -1, 0, 4)]) (grR nR Q.length) nN nd d (j + 1) zs' → K_ (nI Q.length) zs')
    (ke : so j ≠ 4 → ∀ zs', RF t n nTp so (grR nR Q.length) nN j zs' → E_ zs') : vc_M_numberPiece mc ms zs p K_ E_ := by
  refine ⟨mc, ms, by omega, by omega, q_piece h hQ hc hs (fun z1 hz1 => ?_)⟩
  by_cases h4 : so j = 4
  · have := q_number (x := Q.length) (ac := 4) (a := (16, j, p, 0, -1, 0, 0)) (K_ := K_ (nI Q.length)) (E_ := E_) hW hj hz1 (by simp) h4 rfl rfl (by decide) (fun z2 hz2 => kk h4 z2 (by rw [md_last] at hz2; exact hz2))
    exact this
  · unfold vc_M_number
    have kd := (q_kd hz1.2.1).2.2.1
    exact ⟨fun q => absurd (kd.mp q) h4, fun _ => q_wrong hz1.1.1 hz1.2.1 (ke h4)⟩
theorem q_namP {mc ms : Nat} {t : FN} {n nTp : Nat} {so : FN} {W j : Nat} {Q : List pRw} {nR nN nd d : Nat} {zs : RS} {p s : Int32} {K_ : Int32 → RS → Prop} {E_ : RS → Prop} (hW : rW t n nTp so W) (hj : j < W) (h : RP t n nTp so Q nR nN nd d j zs) (hQ : Q.length < 2 ^ 23)
    (hc : grR nR Q.length + 4 * pgrN nN nd ≤ 4 * mc + nR + 4 * nN) (hs : 24 * grR nR Q.length + 2 * pgrN nN nd ≤ ms + 24 * nR + 2 * nN)
    (kk : so j = 3 → ∀ zs', RP t n nTp so (Q ++ [(15, j, p, s, -1, 0, 1)]) (grR nR Q.length) (pgrN nN nd) (nd + wLen t n j) d (j + 1) zs' → K_ (nI Q.length) zs')
    (ke : so j ≠ 3 → ∀ zs', RF t n nTp so (grR nR Q.length) nN j zs' → E_ zs') : vc_M_namePiece mc ms zs p s K_ E_ := by
  have g1 : nR ≤ grR nR Q.length := by unfold grR; split <;> omega
  have g2 : nN ≤ pgrN nN nd := by unfold pgrN; split <;> omega
  have hQR := h.1.2.2.2.1
  have hR9 := h.1.1.2.2.2.2.2.2.2.2.1
  refine ⟨mc - (pgrN nN nd - nN), 24 * (grR nR Q.length - nR), by omega, by omega, q_piece h hQ (by omega) (by omega) (fun z1 hz1 => ?_)⟩
  refine ⟨pgrN nN nd - nN, 2 * (pgrN nN nd - nN), by omega, by omega, ?_⟩
  by_cases h3 : so j = 3
  · refine q_name (x := Q.length) (ac := 1) (a := (15, j, p, 0, -1, 0, 0)) hW hj hz1 (by simp) rfl h3 rfl rfl (by decide) (by omega) (by omega) (fun z2 hz2 => ?_)
    rw [md_last] at hz2
    have hQR2 := hz2.1.2.2.2.1
    have eR : z2.nR = grR nR Q.length := hz2.1.1.2.2.2.1
    have hR2 := hz2.1.1.2.2.2.2.2.2.2.2.1
    simp at hQR2
    rw [eR, nI_clamp (by omega)]
    refine ⟨pu_in (by omega) (by omega), kk h3 _ ?_⟩
    have := q_sign (y := Q.length) (c := s) hz2
    rw [md_last] at this
    exact this
  · unfold vc_M_name
    have kd := (q_kd hz1.2.1).2.1
    exact ⟨fun q => absurd (kd.mp q) h3, fun _ => q_wrong hz1.1.1 hz1.2.1 (ke h3)⟩
