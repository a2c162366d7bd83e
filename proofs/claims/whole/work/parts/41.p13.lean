theorem tk_so {t : FN} {n nTp : Nat} {so : FN} {W j : Nat} (hW : rW t n nTp so W) (hj : j < W) : W ≤ n + 1 ∧ n < 2 ^ 20 := ⟨hW.2.2.2.1, hW.2.1⟩
theorem J_num {t : FN} {n nTp : Nat} {so : FN} {W nT : Nat} (hW : rW t n nTp so W) {j d : Nat} (hj : j < W) (h4 : so j = 4) :
    j + 1 < W ∧ cOk nT (fun p s st => gNumber so nT p s st) j d (j + 1) 1 (fun _ p s => [(16, j, p, s, -1)]) ∧ rOk t n nTp so W (fun mc ms zs p K E => vc_M_numberPiece mc ms zs p K E) j d (j + 1) 1 (fun _ p s => [(16, j, p, s, -1, 0, 4)]) 3 := by
  have w := tk_so hW hj
  refine ⟨tk_go hW hj h4 (by decide) (by decide), fun p s N => ⟨?_, fun hN => ?_⟩, fun Q p nR nN nd hQ hQR hR0 hnd => ?_⟩
  · obtain ⟨N', e⟩ := g_addE (nT := nT) (k := 16) (p := p) (s := s) (j := j) (f := false) (d := nI d) (N := N)
    refine ⟨N', ?_⟩
    show gTake so 4 (gAdd nT 16 p s (j, false, nI d, N)) = _
    rw [e, g_take h4]
  · show gTake so 4 (gAdd nT 16 p s (j, false, nI d, N)) = _
    rw [g_add (by omega), g_take h4]
  · obtain ⟨g1, g2⟩ := gwR_g (W := W) hR0 hQR (by omega)
    exact ⟨grR nR Q.length, nN, nd, g1, gwN_r n nN, g2, by have := psb_b t n j; have := sb_n t n j; omega, fun zs K_ E_ mc ms h hb kk => q_numP hW hj h (by omega) (by have := hb.1; omega) (by have := hb.2; omega) (fun _ z hz => kk z hz) (fun q => absurd h4 q)⟩
theorem J_numF {t : FN} {n nTp : Nat} {so : FN} {W nT : Nat} (hW : rW t n nTp so W) {j d : Nat} (hj : j < W) (h4 : so j ≠ 4) :
    cFl (fun p s st => gNumber so nT p s st) j d j ∧ rFl t n nTp so W (fun mc ms zs p K E => vc_M_numberPiece mc ms zs p K E) j d j 3 := by
  have w := tk_so hW hj
  refine ⟨fun p s N => ?_, fun Q p nR nN nd hQ hQR hR0 hnd => ?_⟩
  · obtain ⟨N', e⟩ := g_addE (nT := nT) (k := 16) (p := p) (s := s) (j := j) (f := false) (d := nI d) (N := N)
    refine ⟨nI d, N', ?_⟩
    show gTake so 4 (gAdd nT 16 p s (j, false, nI d, N)) = _
    rw [e, g_takeN h4]
  · obtain ⟨g1, g2⟩ := gwR_g (W := W) hR0 hQR (by omega)
    exact ⟨grR nR Q.length, nN, g1, gwN_r n nN, fun zs K_ E_ mc ms h hb kk => q_numP hW hj h (by omega) (by have := hb.1; omega) (by have := hb.2; omega) (fun q => absurd q h4) (fun _ z hz => kk z hz)⟩
theorem set_last {N : List pNd} {a : pNd} {f : pNd → pNd} : (N ++ [a]).modify N.length f = N ++ [f a] := md_app
theorem sg_in : (40 : Int32) ∈ sgnC ∧ (41 : Int32) ∈ sgnC ∧ (42 : Int32) ∈ sgnC ∧ (43 : Int32) ∈ sgnC ∧ (44 : Int32) ∈ sgnC ∧ (45 : Int32) ∈ sgnC ∧ (46 : Int32) ∈ sgnC ∧ (47 : Int32) ∈ sgnC ∧ (59 : Int32) ∈ sgnC ∧ (61 : Int32) ∈ sgnC ∧ (64 : Int32) ∈ sgnC ∧ (91 : Int32) ∈ sgnC ∧ (93 : Int32) ∈ sgnC ∧ (123 : Int32) ∈ sgnC ∧ (125 : Int32) ∈ sgnC ∧ (126 : Int32) ∈ sgnC := by decide +kernel
theorem nd_le {t : FN} {n nd j : Nat} (h : nd ≤ sbN t n j) : nd ≤ n := by
  have := psb_b t n j; omega
theorem J_nam {t : FN} {n nTp : Nat} {so : FN} {W nT : Nat} (hW : rW t n nTp so W) {j d : Nat} (hj : j < W) (h3 : so j = 3) (s0 : Int32) :
    j + 1 < W ∧ cOk nT (fun p s st => gName so nT p s st) j d (j + 1) 1 (fun _ p s => [(15, j, p, s, -1)]) ∧
    ∀ (Q : List pRw) (p : Int32) (nR nN nd : Nat), Q.length ≤ 4 * j + 3 → Q.length ≤ nR → 1 ≤ nR ∧ nR % 4 = 0 → nd ≤ sbN t n j → ∃ nR' nN' nd' : Nat, gwR W nR nR' ∧ gwN n nN nN' ∧ Q.length + 1 ≤ nR' ∧ nd' ≤ sbN t n (j + 1) ∧
      ∀ zs K_ E_ mc ms, RP t n nTp so Q nR nN nd d j zs → bud nR nN nR' nN' mc ms → (∀ zs', RP t n nTp so (Q ++ [(15, j, p, s0, -1, 0, 1)]) nR' nN' nd' d (j + 1) zs' → K_ (nI Q.length) zs') → vc_M_namePiece mc ms zs p s0 K_ E_ := by
  have w := tk_so hW hj
  refine ⟨tk_go hW hj h3 (by decide) (by decide), fun p s N => ⟨?_, fun hN => ?_⟩, fun Q p nR nN nd hQ hQR hR0 hnd => ?_⟩
  · obtain ⟨N', e⟩ := g_addE (nT := nT) (k := 15) (p := p) (s := s) (j := j) (f := false) (d := nI d) (N := N)
    refine ⟨N', ?_⟩
    show gTake so 3 (gAdd nT 15 p s (j, false, nI d, N)) = _
    rw [e, g_take h3]
  · show gTake so 3 (gAdd nT 15 p s (j, false, nI d, N)) = _
    rw [g_add (by omega), g_take h3]
  · obtain ⟨g1, g2⟩ := gwR_g (W := W) hR0 hQR (by omega)
    have hb1 := psb_b t n j
    have hb2 := sb_n t n j
    have hwl : wLen t n j = pseN t n j - sbN t n j := rfl
    exact ⟨grR nR Q.length, pgrN nN nd, nd + wLen t n j, g1, gwN_g (by omega), g2, by omega, fun zs K_ E_ mc ms h hb kk => q_namP hW hj h (by omega) hb.1 hb.2 (fun _ z hz => kk z hz) (fun q => absurd h3 q)⟩
theorem q_namF {mc ms : Nat} {t : FN} {n nTp : Nat} {so : FN} {j : Nat} {Q : List pRw} {nR nN nd d : Nat} {zs : RS} {p s : Int32} {K_ : Int32 → RS → Prop} {E_ : RS → Prop} (h : RP t n nTp so Q nR nN nd d j zs) (hQ : Q.length < 2 ^ 23)
    (hc : grR nR Q.length ≤ 4 * mc + nR) (hs : 24 * grR nR Q.length ≤ ms + 24 * nR) (h3 : so j ≠ 3)
    (ke : ∀ zs', RF t n nTp so (grR nR Q.length) nN j zs' → E_ zs') : vc_M_namePiece mc ms zs p s K_ E_ := by
  refine ⟨mc, ms, by omega, by omega, q_piece h hQ hc hs (fun z1 hz1 => ⟨0, 0, by omega, by omega, ?_⟩)⟩
  unfold vc_M_name
  have kd := (q_kd hz1.2.1).2.1
  exact ⟨fun q => absurd (kd.mp q) h3, fun _ => q_wrong hz1.1.1 hz1.2.1 ke⟩
theorem J_namF {t : FN} {n nTp : Nat} {so : FN} {W nT : Nat} (hW : rW t n nTp so W) {j d : Nat} (hj : j < W) (h3 : so j ≠ 3) (s0 : Int32) :
    cFl (fun p s st => gName so nT p s st) j d j ∧ rFl t n nTp so W (fun mc ms zs p K E => vc_M_namePiece mc ms zs p s0 K E) j d j 3 := by
  have w := tk_so hW hj
  refine ⟨fun p s N => ?_, fun Q p nR nN nd hQ hQR hR0 hnd => ?_⟩
  · obtain ⟨N', e⟩ := g_addE (nT := nT) (k := 15) (p := p) (s := s) (j := j) (f := false) (d := nI d) (N := N)
    refine ⟨nI d, N', ?_⟩
    show gTake so 3 (gAdd nT 15 p s (j, false, nI d, N)) = _
    rw [e, g_takeN h3]
  · obtain ⟨g1, g2⟩ := gwR_g (W := W) hR0 hQR (by omega)
    exact ⟨grR nR Q.length, nN, g1, gwN_r n nN, fun zs K_ E_ mc ms h hb kk => q_namF h (by omega) (by have := hb.1; omega) (by have := hb.2; omega) h3 kk⟩
theorem J_unit {t : FN} {n nTp : Nat} {so : FN} {W nT : Nat} (hW : rW t n nTp so W) {gS gP : G3} {vT : VR} (hff : ff3 gS) {j d : Nat} (hj : j < W) (hd : d ≤ 30)
    (hS : d < 30 → ∀ i, i < W → JT t n nTp so W nT (fun p s st => gS p s 1 st) vT i (d + 1) 1 1) :
    JT t n nTp so W nT (fun p s st => gPiece gS gP so W nT p s 1 st) (fun mc ms zs p K E => vc_M_unit vT mc ms zs p K E) j d 3 3 := by
  have w := tk_so hW hj
  have hb1 := psb_b t n j
  have hb2 := sb_n t n j
  by_cases h4 : so j = 4
  · obtain ⟨a1, a2, a3⟩ := J_num (nT := nT) (d := d) hW hj h4
    refine Or.inl ⟨j + 1, 1, 1, _, _, by omega, a1, by omega, by omega, Tr_leaf 16 j (-1) 4 rfl (by omega), fun p s N => ?_, fun Q p nR nN nd hQ hQR hR0 hnd => ?_⟩
    · have e : gPiece gS gP so W nT p s 1 (j, false, nI d, N) = gNumber so nT p s (j, false, nI d, N) := by
        unfold gPiece; rw [ps_g, if_pos h4]
      show (∃ N', gPiece gS gP so W nT p s 1 (j, false, nI d, N) = _) ∧ (_ → gPiece gS gP so W nT p s 1 (j, false, nI d, N) = _)
      rw [e]
      exact a2 p s N
    · obtain ⟨nR', nN', nd', b1, b2, b3, b4, b5⟩ := a3 Q p nR nN nd hQ hQR hR0 hnd
      refine ⟨nR', nN', nd', b1, b2, b3, b4, fun zs K_ E_ mc ms h hb kk => ?_⟩
      refine q_is hW hj h.1.1.1 h.1.1.2.1 h.2.1 sg_in.1 (fun q => by rw [h4] at q; exact absurd q (by decide)) (fun _ => ⟨fun _ => ⟨fun q => absurd ((q_kd h.2.1).2.2.1.mpr h4) q, fun _ => ⟨mc, ms, by omega, by omega, b5 zs K_ E_ mc ms h hb kk⟩⟩, fun q => absurd rfl q⟩)
  · by_cases h3 : so j = 3
    · obtain ⟨a1, a2, a3⟩ := J_nam (nT := nT) (d := d) hW hj h3 0
      have eg : ∀ p s N, gPiece gS gP so W nT p s 1 (j, false, nI d, N) = gMore gS so W nT N.length 1 (gName so nT p s (j, false, nI d, N)) := by
        intro p s N
        unfold gPiece gNameMore; rw [ps_g, if_neg h4, if_pos h3]
      have ru : ∀ (Q : List pRw) (nR nN nd : Nat) zs (p : Int32) (K_ : Int32 → RS → Prop) (E_ : RS → Prop) mc ms, RP t n nTp so Q nR nN nd d j zs → vc_M_namePiece mc ms zs p 0 (fun r_4 zs_5 => (vc_M_is zs_5 46 (fun r_8 => ((r_8 = 0 → (K_ r_4 zs_5)) ∧ (¬ r_8 = 0 → (vc_M_next zs_5 (fun zs_11 => (vp_in r_4 zs_11.nR ∧ (vc_M_number (RS.w_Kd zs_11 (upd zs_11.Kd r_4.toNatClampNeg 14)) r_4 (fun zs_14 => (K_ r_4 zs_14)) (fun zse_15 => (E_ zse_15))))))))))) E_ → vc_M_unit vT mc ms zs p K_ E_ := by
        intro Q nR nN nd zs p K_ E_ mc ms h hv
        exact q_is hW hj h.1.1.1 h.1.1.2.1 h.2.1 sg_in.1 (fun q => by rw [h3] at q; exact absurd q (by decide)) (fun _ => ⟨fun _ => ⟨fun _ => ⟨mc, ms, by omega, by omega, hv⟩, fun q => absurd ((q_kd h.2.1).2.2.1.mp q) h4⟩, fun q => absurd rfl q⟩)
      by_cases h46 : so (j + 1) = 46
      · have a4 := tk_go hW a1 h46 (by decide) (by decide)
        have gm : ∀ p s N, (∃ N', gPiece gS gP so W nT p s 1 (j, false, nI d, N) = gTake so 4 (j + 2, false, nI d, N')) ∧ (N.length + 1 ≤ nT → gPiece gS gP so W nT p s 1 (j, false, nI d, N) = gTake so 4 (j + 2, false, nI d, N ++ [(14, j, p, s, -1)])) := by
          intro p s N
          have a2' : (∃ N', gName so nT p s (j, false, nI d, N) = (j + 1, false, nI d, N')) ∧ (N.length + 1 ≤ nT → gName so nT p s (j, false, nI d, N) = (j + 1, false, nI d, N ++ [(15, j, p, s, -1)])) := a2 p s N
          have e2 : ∀ N', gMore gS so W nT N.length 1 (j + 1, false, nI d, N') = gTake so 4 (j + 2, false, nI d, setK N.length 14 N') := by
            intro N'
            unfold gMore; rw [ps_g, if_pos ⟨h46, by decide⟩]; rfl
          rw [eg]
          refine ⟨?_, fun hN => ?_⟩
          · obtain ⟨N', e⟩ := a2'.1
            rw [e, e2]; exact ⟨_, rfl⟩
          · rw [a2'.2 hN, e2]
            unfold setK
            rw [set_last]
        by_cases h44 : so (j + 2) = 4
        · have a5 := tk_go hW a4 h44 (by decide) (by decide)
          refine Or.inl ⟨j + 3, 1, 1, _, _, by omega, a5, by omega, by omega, Tr_leaf 14 j (-1) 2 rfl (by omega), fun p s N => ?_, fun Q p nR nN nd hQ hQR hR0 hnd => ?_⟩
          · refine ⟨?_, fun hN => ?_⟩
            · obtain ⟨N', e⟩ := (gm p s N).1
              refine ⟨N', ?_⟩
              show gPiece gS gP so W nT p s 1 (j, false, nI d, N) = _
              rw [e, g_take h44]
            · show gPiece gS gP so W nT p s 1 (j, false, nI d, N) = _
              rw [(gm p s N).2 hN, g_take h44]
          · obtain ⟨nR', nN', nd', b1, b2, b3, b4, b5⟩ := a3 Q p nR nN nd hQ hQR hR0 hnd
            have hb3 := psb_b t n (j + 1)
            have hb4 := sb_n t n (j + 1)
            have hb5 := psb_b t n (j + 2)
            have hb6 := sb_n t n (j + 2)
            refine ⟨nR', nN', nd', b1, b2, b3, by show nd' ≤ sbN t n (j + 2 + 1); have e : j + 1 + 1 = j + 2 := rfl; rw [e] at hb4; omega, fun zs K_ E_ mc ms h hb kk => ?_⟩
            refine ru Q nR nN nd zs p K_ E_ mc ms h (b5 zs _ E_ mc ms h hb (fun z1 h1 => ?_))
            refine q_is hW a1 h1.1.1.1 h1.1.1.2.1 h1.2.1 sg_in.2.2.2.2.2.2.1 (fun _ => ⟨fun q => absurd q (by decide), fun _ => q_nextP hW h1 a4 (fun z2 h2 => ?_)⟩) (fun q => absurd h46 q)
            have eR : z2.nR = nR' := h2.1.1.2.2.2.1
            have hR9 := h2.1.1.2.2.2.2.2.2.2.2.1
            rw [eR, nI_clamp (by omega)]
            refine ⟨pu_in (by omega) (by omega), ?_⟩
            have hk : RP t n nTp so (Q ++ [(14, j, p, 0, -1, 0, 1)]) nR' nN' nd' d (j + 2) (RS.w_Kd z2 (upd z2.Kd Q.length 14)) := by
              obtain ⟨⟨hC, x1, x2, x3, x4, x5, x6, x7, x8⟩, hL, hn⟩ := h2
              refine ⟨⟨hC, x1, by simpa using x2, by simpa using x3, x4, x5, x6, x7, fun i a hi => ?_⟩, hL, hn⟩
              by_cases hiq : i = Q.length
              · subst hiq
                simp at hi
                subst hi
                obtain ⟨y1, y2, y3, y4, y5, y6, y7, y8, y9, y10, y11⟩ := x8 Q.length (15, j, p, 0, -1, 0, 1) (by simp)
                exact ⟨upd_eq, y2, y3, y4, y5, y6, y7, y8, y9, y10, y11⟩
              · have hlt : i < Q.length := by
                  have := (List.getElem?_eq_some_iff.mp hi).1
                  simp at this
                  omega
                rw [List.getElem?_append_left hlt] at hi
                exact rowOk_cg (x8 i a (by rw [List.getElem?_append_left hlt]; exact hi)) (upd_ne hiq) rfl rfl rfl rfl rfl rfl rfl rfl rfl rfl rfl
            refine q_number (x := Q.length) (ac := 2) (a := (14, j, p, 0, -1, 0, 1)) hW a4 hk (by simp) h44 rfl rfl (by decide) (fun z3 h3 => kk z3 ?_)
            rw [md_last] at h3
            exact h3
        · refine Or.inr ⟨j + 2, by omega, a4, fun p s N => ?_, fun Q p nR nN nd hQ hQR hR0 hnd => ?_⟩
          · obtain ⟨N', e⟩ := (gm p s N).1
            refine ⟨nI d, N', ?_⟩
            show gPiece gS gP so W nT p s 1 (j, false, nI d, N) = _
            rw [e, g_takeN h44]
          · obtain ⟨nR', nN', nd', b1, b2, b3, b4, b5⟩ := a3 Q p nR nN nd hQ hQR hR0 hnd
            refine ⟨nR', nN', b1, b2, fun zs K_ E_ mc ms h hb kk => ?_⟩
            refine ru Q nR nN nd zs p K_ E_ mc ms h (b5 zs _ E_ mc ms h hb (fun z1 h1 => ?_))
            refine q_is hW a1 h1.1.1.1 h1.1.1.2.1 h1.2.1 sg_in.2.2.2.2.2.2.1 (fun _ => ⟨fun q => absurd q (by decide), fun _ => q_nextP hW h1 a4 (fun z2 h2 => ?_)⟩) (fun q => absurd h46 q)
            have eR : z2.nR = nR' := h2.1.1.2.2.2.1
            have hR9 := h2.1.1.2.2.2.2.2.2.2.2.1
            rw [eR]
            refine ⟨pu_in (by omega) (by omega), ?_⟩
            have kd := (q_kd h2.2.1).2.2.1
            unfold vc_M_number
            exact ⟨fun q => absurd (kd.mp q) h44, fun _ => q_wrong (zs := RS.w_Kd z2 (upd z2.Kd (nI Q.length).toNatClampNeg 14)) h2.1.1 h2.2.1 kk⟩
      · have gm : ∀ p s N, (∃ N', gPiece gS gP so W nT p s 1 (j, false, nI d, N) = (j + 1, false, nI d, N')) ∧ (N.length + 1 ≤ nT → gPiece gS gP so W nT p s 1 (j, false, nI d, N) = (j + 1, false, nI d, N ++ [(15, j, p, s, -1)])) := by
          intro p s N
          have a2' : (∃ N', gName so nT p s (j, false, nI d, N) = (j + 1, false, nI d, N')) ∧ (N.length + 1 ≤ nT → gName so nT p s (j, false, nI d, N) = (j + 1, false, nI d, N ++ [(15, j, p, s, -1)])) := a2 p s N
          have e2 : ∀ N', gMore gS so W nT N.length 1 (j + 1, false, nI d, N') = (j + 1, false, nI d, N') := by
            intro N'
            unfold gMore; rw [ps_g, if_neg (fun q => h46 q.1), if_neg (fun q => absurd q.2 (by decide))]
          rw [eg]
          refine ⟨?_, fun hN => ?_⟩
          · obtain ⟨N', e⟩ := a2'.1
            rw [e, e2]; exact ⟨_, rfl⟩
          · rw [a2'.2 hN, e2]
        refine Or.inl ⟨j + 1, 1, 1, _, _, by omega, a1, by omega, by omega, Tr_leaf 15 j (-1) 1 rfl (by omega), gm, fun Q p nR nN nd hQ hQR hR0 hnd => ?_⟩
        obtain ⟨nR', nN', nd', b1, b2, b3, b4, b5⟩ := a3 Q p nR nN nd hQ hQR hR0 hnd
        refine ⟨nR', nN', nd', b1, b2, b3, b4, fun zs K_ E_ mc ms h hb kk => ?_⟩
        refine ru Q nR nN nd zs p K_ E_ mc ms h (b5 zs _ E_ mc ms h hb (fun z1 h1 => ?_))
        exact q_is hW a1 h1.1.1.1 h1.1.1.2.1 h1.2.1 sg_in.2.2.2.2.2.2.1 (fun q => absurd q h46) (fun _ => ⟨fun _ => kk z1 h1, fun q => absurd rfl q⟩)
    · by_cases h40 : so j = 40
      · have eg : ∀ p s N, gPiece gS gP so W nT p s 1 (j, false, nI d, N) = gClose so 41 (gS p s 1 (gOpen so 40 (j, false, nI d, N))) := by
          intro p s N
          unfold gPiece; rw [ps_g, if_neg h4, if_neg h3, if_pos h40]
        by_cases hd30 : d < 30
        · have a1 := tk_go hW hj h40 (by decide) (by decide)
          have ro : ∀ (Q : List pRw) (nR nN nd : Nat) zs (p : Int32) (K_ : Int32 → RS → Prop) (E_ : RS → Prop) mc ms, RP t n nTp so Q nR nN nd d j zs → (∀ z1, RP t n nTp so Q nR nN nd (d + 1) (j + 1) z1 → vT mc ms z1 p (fun r_33 zs_34 => (vc_M_shut zs_34 41 (fun zs_38 => (K_ r_33 zs_38)) (fun zse_39 => (E_ zse_39)))) E_) → vc_M_unit vT mc ms zs p K_ E_ := by
            intro Q nR nN nd zs p K_ E_ mc ms h hv
            exact q_is hW hj h.1.1.1 h.1.1.2.1 h.2.1 sg_in.1 (fun _ => ⟨fun q => absurd q (by decide), fun _ => q_open hW hj hd sg_in.1 h (fun _ _ z1 h1 => ⟨mc, ms, by omega, by omega, hv z1 h1⟩) (fun q => absurd ⟨h40, hd30⟩ q)⟩) (fun q => absurd h40 q)
          rcases hS hd30 (j + 1) a1 with ⟨j', m, rn, L, R, c1, c2, c3, c4, c5, c6, c7⟩ | ⟨j', c1, c2, c3, c4⟩
          · by_cases h41 : so j' = 41
            · have a5 := tk_go hW c2 h41 (by decide) (by decide)
              refine Or.inl ⟨j' + 1, m, rn, L, R, by omega, a5, by omega, by omega, c5, fun p s N => ?_, fun Q p nR nN nd hQ hQR hR0 hnd => ?_⟩
              · have c6' : (∃ N', gS p s 1 (j + 1, false, nI (d + 1), N) = (j', false, nI (d + 1), N')) ∧ (N.length + m ≤ nT → gS p s 1 (j + 1, false, nI (d + 1), N) = (j', false, nI (d + 1), N ++ L N.length p s)) := c6 p s N
                show (∃ N', gPiece gS gP so W nT p s 1 (j, false, nI d, N) = _) ∧ (_ → gPiece gS gP so W nT p s 1 (j, false, nI d, N) = _)
                rw [eg, g_open h40 hd30]
                refine ⟨?_, fun hN => ?_⟩
                · obtain ⟨N', e⟩ := c6'.1
                  rw [e, g_close h41]; exact ⟨_, rfl⟩
                · rw [c6'.2 hN, g_close h41]
              · obtain ⟨nR', nN', nd', b1, b2, b3, b4, b5⟩ := c7 Q p nR nN nd (by omega) hQR hR0 (by omega)
                have hb5 := psb_b t n j'
                have hb6 := sb_n t n j'
                refine ⟨nR', nN', nd', b1, b2, b3, by omega, fun zs K_ E_ mc ms h hb kk => ?_⟩
                exact ro Q nR nN nd zs p K_ E_ mc ms h (fun z1 h1 => b5 z1 _ E_ mc ms h1 hb (fun z2 h2 => q_shut hW c2 sg_in.2.1 h2 (fun _ z3 h3 => kk z3 h3) (fun q => absurd h41 q)))
            · refine Or.inr ⟨j', by omega, c2, fun p s N => ?_, fun Q p nR nN nd hQ hQR hR0 hnd => ?_⟩
              · have c6' : (∃ N', gS p s 1 (j + 1, false, nI (d + 1), N) = (j', false, nI (d + 1), N')) ∧ (N.length + m ≤ nT → gS p s 1 (j + 1, false, nI (d + 1), N) = (j', false, nI (d + 1), N ++ L N.length p s)) := c6 p s N
                obtain ⟨N', e⟩ := c6'.1
                show ∃ d' N', gPiece gS gP so W nT p s 1 (j, false, nI d, N) = _
                rw [eg, g_open h40 hd30, e, g_closeN h41]
                exact ⟨_, _, rfl⟩
              · obtain ⟨nR', nN', nd', b1, b2, b3, b4, b5⟩ := c7 Q p nR nN nd (by omega) hQR hR0 (by omega)
                refine ⟨nR', nN', b1, b2, fun zs K_ E_ mc ms h hb kk => ?_⟩
                exact ro Q nR nN nd zs p K_ E_ mc ms h (fun z1 h1 => b5 z1 _ E_ mc ms h1 hb (fun z2 h2 => q_shut hW c2 sg_in.2.1 h2 (fun q => absurd q h41) (fun _ z3 h3 => kk z3 h3)))
          · refine Or.inr ⟨j', by omega, c2, fun p s N => ?_, fun Q p nR nN nd hQ hQR hR0 hnd => ?_⟩
            · obtain ⟨d1, N1, e⟩ := c3 p s N
              have e' : gS p s 1 (j + 1, false, nI (d + 1), N) = (j', true, d1, N1) := e
              show ∃ d' N', gPiece gS gP so W nT p s 1 (j, false, nI d, N) = _
              rw [eg, g_open h40 hd30, e']
              exact ff_close (by decide) j' d1 N1
            · obtain ⟨nR', nN', b1, b2, b5⟩ := c4 Q p nR nN nd (by omega) hQR hR0 (by omega)
              refine ⟨nR', nN', b1, b2, fun zs K_ E_ mc ms h hb kk => ?_⟩
              exact ro Q nR nN nd zs p K_ E_ mc ms h (fun z1 h1 => b5 z1 _ E_ mc ms h1 hb kk)
        · refine Or.inr ⟨j, by omega, hj, fun p s N => ?_, fun Q p nR nN nd hQ hQR hR0 hnd => ?_⟩
          · show ∃ d' N', gPiece gS gP so W nT p s 1 (j, false, nI d, N) = _
            rw [eg, g_openN hd (fun q => hd30 q.2)]
            obtain ⟨d1, N1, e⟩ := hff p s 1 j (nI d) N
            rw [e]
            exact ff_close (by decide) j d1 N1
          · refine ⟨nR, nN, gwR_r W nR, gwN_r n nN, fun zs K_ E_ mc ms h hb kk => ?_⟩
            exact q_is hW hj h.1.1.1 h.1.1.2.1 h.2.1 sg_in.1 (fun _ => ⟨fun q => absurd q (by decide), fun _ => q_open hW hj hd sg_in.1 h (fun _ q => absurd q hd30) (fun _ z hz => kk z hz)⟩) (fun q => absurd h40 q)
      · refine Or.inr ⟨j, by omega, hj, fun p s N => ⟨nI d, N, ?_⟩, fun Q p nR nN nd hQ hQR hR0 hnd => ?_⟩
        · show gPiece gS gP so W nT p s 1 (j, false, nI d, N) = _
          unfold gPiece; rw [ps_g, if_neg h4, if_neg h3, if_neg h40, if_neg (fun q => absurd q.2 (by decide))]; rfl
        · obtain ⟨_, a3⟩ := J_namF (nT := nT) (d := d) hW hj h3 0
          obtain ⟨nR', nN', b1, b2, b5⟩ := a3 Q p nR nN nd hQ hQR hR0 hnd
          refine ⟨nR', nN', b1, b2, fun zs K_ E_ mc ms h hb kk => ?_⟩
          exact q_is hW hj h.1.1.1 h.1.1.2.1 h.2.1 sg_in.1 (fun q => absurd q h40) (fun _ => ⟨fun _ => ⟨fun _ => ⟨mc, ms, by omega, by omega, b5 zs _ E_ mc ms h hb kk⟩, fun q => absurd ((q_kd h.2.1).2.2.1.mp q) h4⟩, fun q => absurd rfl q⟩)
