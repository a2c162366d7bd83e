theorem q_kd0 {t : FN} {n nTp : Nat} {so : FN} {j : Nat} {Q : List pRw} {nR nN nd d : Nat} {zs : RS} {k k2 : Int32} {fw : Nat} {p s de : Int32} {pc ac : Nat} (h : RP t n nTp so (Q ++ [(k, fw, p, s, de, pc, ac)]) nR nN nd d j zs) : RP t n nTp so (Q ++ [(k2, fw, p, s, de, pc, ac)]) nR nN nd d j (RS.w_Kd zs (upd zs.Kd Q.length k2)) := by
  obtain ⟨⟨hC, x1, x2, x3, x4, x5, x6, x7, x8⟩, hL, hn⟩ := h
  refine ⟨⟨hC, x1, by simpa using x2, by simpa using x3, x4, x5, x6, x7, fun i a hi => ?_⟩, hL, hn⟩
  by_cases hiq : i = Q.length
  · subst hiq
    simp at hi
    subst hi
    obtain ⟨y1, y2, y3, y4, y5, y6, y7, y8, y9, y10, y11⟩ := x8 Q.length (k, fw, p, s, de, pc, ac) (by simp)
    exact ⟨upd_eq, y2, y3, y4, y5, y6, y7, y8, y9, y10, y11⟩
  · have hlt : i < Q.length := by
      have := (List.getElem?_eq_some_iff.mp hi).1
      simp at this
      omega
    rw [List.getElem?_append_left hlt] at hi
    exact rowOk_cg (x8 i a (by rw [List.getElem?_append_left hlt]; exact hi)) (upd_ne hiq) rfl rfl rfl rfl rfl rfl rfl rfl rfl rfl rfl
theorem q_de0 {t : FN} {n nTp : Nat} {so : FN} {j : Nat} {Q : List pRw} {nR nN nd d : Nat} {zs : RS} {k : Int32} {fw : Nat} {p s de de2 : Int32} {pc ac : Nat} (h : RP t n nTp so (Q ++ [(k, fw, p, s, de, pc, ac)]) nR nN nd d j zs) : RP t n nTp so (Q ++ [(k, fw, p, s, de2, pc, ac)]) nR nN nd d j (RS.w_De zs (upd zs.De Q.length de2)) := by
  obtain ⟨⟨hC, x1, x2, x3, x4, x5, x6, x7, x8⟩, hL, hn⟩ := h
  refine ⟨⟨hC, x1, by simpa using x2, by simpa using x3, x4, x5, x6, x7, fun i a hi => ?_⟩, hL, hn⟩
  by_cases hiq : i = Q.length
  · subst hiq
    simp at hi
    subst hi
    obtain ⟨y1, y2, y3, y4, y5, y6, y7, y8, y9, y10, y11⟩ := x8 Q.length (k, fw, p, s, de, pc, ac) (by simp)
    exact ⟨y1, y2, y3, y4, upd_eq, y6, y7, y8, y9, y10, y11⟩
  · have hlt : i < Q.length := by
      have := (List.getElem?_eq_some_iff.mp hi).1
      simp at this
      omega
    rw [List.getElem?_append_left hlt] at hi
    exact rowOk_cg (x8 i a (by rw [List.getElem?_append_left hlt]; exact hi)) rfl rfl rfl rfl (upd_ne hiq) rfl rfl rfl rfl rfl rfl rfl
theorem q_call {t : FN} {n nTp : Nat} {so : FN} {W : Nat} (hW : rW t n nTp so W) {vA vF : VR} {j d : Nat} (hj : j < W) (hd : d ≤ 30) {Q : List pRw} {nR nN nd : Nat} {zs : RS} {fw : Nat} {p : Int32} {K_ E_ : RS → Prop} {mc ms : Nat} (h : RP t n nTp so (Q ++ [(15, fw, p, 0, -1, 0, 1)]) nR nN nd d j zs)
    (kk : so j = 40 → d < 30 → ∀ z, RP t n nTp so (Q ++ [(20, fw, p, 0, nI (d + 1), 0, 1)]) nR nN nd (d + 1) (j + 1) z → CB1 vA vF so (j + 1) K_ E_ mc ms (nI Q.length) z 0 0)
    (ke : ¬ (so j = 40 ∧ d < 30) → ∀ z, RF t n nTp so nR nN j z → E_ z) : vc_M_call vA vF mc ms zs (nI Q.length) K_ E_ := by
  have hQR := h.1.2.2.2.1
  have eR : zs.nR = nR := h.1.1.2.2.2.1
  have hR9 := h.1.1.2.2.2.2.2.2.2.2.1
  have hlen : (Q ++ [((15 : Int32), fw, p, (0 : Int32), (-1 : Int32), 0, 1)]).length = Q.length + 1 := by simp
  have hk := q_kd0 (k2 := 20) h
  unfold vc_M_call
  rw [eR, nI_clamp (by omega)]
  refine ⟨pu_in (by omega) (by omega), q_open hW hj hd sg_in.1 hk (fun a b z h2 => ?_) ke⟩
  have a1 := tk_go hW hj a (by decide) (by decide)
  have eR2 : z.nR = nR := h2.1.1.2.2.2.1
  have eo : z.op = nI (d + 1) := h2.1.2.1
  have h3 := q_de0 (de2 := nI (d + 1)) h2
  obtain ⟨k1, k2⟩ := kk a b _ h3
  rw [eR2, eo]
  refine ⟨pu_in (by omega) (by omega), q_is hW a1 h2.1.1.1 h2.1.1.2.1 h2.2.1 sg_in.2.1 (fun q41 => ⟨fun _ => k1 (Or.inr q41), fun q => absurd q (by decide)⟩) (fun q41 => ⟨fun q => absurd rfl q, fun _ => q_is hW a1 h2.1.1.1 h2.1.1.2.1 h2.2.1 sg_in.2.2.2.2.2.2.2.2.1 (fun q59 => ⟨fun _ => k1 (Or.inl q59), fun q => absurd q (by decide)⟩) (fun q59 => ⟨fun q => absurd rfl q, fun _ => k2 (fun q => q.elim q59 q41)⟩)⟩)⟩
theorem J_factor {t : FN} {n nTp : Nat} {so : FN} {W nT : Nat} (hW : rW t n nTp so W) {gS gP : G3} {vA vF : VR} (hff : ff3 gS) (hffP : ff3 gP) {j d : Nat} (hj : j < W) (hd : d ≤ 30)
    (hA : d < 30 → ∀ i, i < W → JT t n nTp so W nT (fun p s st => gS p s 0 st) vA i (d + 1) 1 1)
    (hF : d < 30 → ∀ i, i < W → JT t n nTp so W nT (fun p s st => gP p s 0 st) vF i (d + 1) 3 3)
    (hC : d < 30 → ∀ i, i < W → JC t n nTp so W nT (fun p st => gCall1 gS so W nT p st) (fun K_ E_ mc ms p zs c tt => CB1 vA vF so i K_ E_ mc ms p zs c tt) i d) :
    JT t n nTp so W nT (fun p s st => gPiece gS gP so W nT p s 0 st) (fun mc ms zs p K E => vc_M_factor vA vF mc ms zs p K E) j d 3 3 := by
  have w := tk_so hW hj
  have hb1 := psb_b t n j
  have hb2 := sb_n t n j
  by_cases h4 : so j = 4
  · obtain ⟨a1, a2, a3⟩ := J_num (nT := nT) (d := d) hW hj h4
    refine Or.inl ⟨j + 1, 1, 1, _, _, by omega, a1, by omega, by omega, Tr_leaf 16 j (-1) 4 rfl (by omega), fun p s N => ?_, fun Q p nR nN nd hQ hQR hR0 hnd => ?_⟩
    · have e : gPiece gS gP so W nT p s 0 (j, false, nI d, N) = gNumber so nT p s (j, false, nI d, N) := by
        unfold gPiece; rw [ps_g, if_pos h4]
      show (∃ N', gPiece gS gP so W nT p s 0 (j, false, nI d, N) = _) ∧ (_ → gPiece gS gP so W nT p s 0 (j, false, nI d, N) = _)
      rw [e]
      exact a2 p s N
    · obtain ⟨nR', nN', nd', b1, b2, b3, b4, b5⟩ := a3 Q p nR nN nd hQ hQR hR0 hnd
      refine ⟨nR', nN', nd', b1, b2, b3, b4, fun zs K_ E_ mc ms h hb kk => ?_⟩
      exact q_is hW hj h.1.1.1 h.1.1.2.1 h.2.1 sg_in.2.2.2.2.2.1 (fun q => by rw [h4] at q; exact absurd q (by decide)) (fun _ => ⟨fun _ => q_is hW hj h.1.1.1 h.1.1.2.1 h.2.1 sg_in.1 (fun q => by rw [h4] at q; exact absurd q (by decide)) (fun _ => ⟨fun _ => ⟨fun q => absurd ((q_kd h.2.1).2.2.1.mpr h4) q, fun _ => ⟨mc, ms, by omega, by omega, b5 zs K_ E_ mc ms h hb kk⟩⟩, fun q => absurd rfl q⟩), fun q => absurd rfl q⟩)
  · by_cases h3 : so j = 3
    · obtain ⟨a1, a2, a3⟩ := J_nam (nT := nT) (d := d) hW hj h3 0
      have eg : ∀ p s N, gPiece gS gP so W nT p s 0 (j, false, nI d, N) = gMore gS so W nT N.length 0 (gName so nT p s (j, false, nI d, N)) := by
        intro p s N
        unfold gPiece gNameMore; rw [ps_g, if_neg h4, if_pos h3]
      have a2' : ∀ p s N, (∃ N', gName so nT p s (j, false, nI d, N) = (j + 1, false, nI d, N')) ∧ (N.length + 1 ≤ nT → gName so nT p s (j, false, nI d, N) = (j + 1, false, nI d, N ++ [(15, j, p, s, -1)])) := fun p s N => a2 p s N
      have ru : ∀ (Q : List pRw) (nR nN nd : Nat) zs (p : Int32) (K_ : Int32 → RS → Prop) (E_ : RS → Prop) mc ms c1 s1, RP t n nTp so Q nR nN nd d j zs → c1 ≤ mc → s1 ≤ ms → vc_M_namePiece c1 s1 zs p 0 (fun r_6 zs_7 => (vc_M_is zs_7 40 (fun r_10 => ((r_10 = 0 → (K_ r_6 zs_7)) ∧ (¬ r_10 = 0 → (∃ c_14 s_15 : Nat, 0 + c1 + c_14 ≤ mc ∧ 0 + s1 + s_15 ≤ ms ∧ (vc_M_call vA vF c_14 s_15 zs_7 r_6 (fun zs_13 => (K_ r_6 zs_13)) (fun zse_16 => (E_ zse_16))))))))) E_ → vc_M_factor vA vF mc ms zs p K_ E_ := by
        intro Q nR nN nd zs p K_ E_ mc ms c1 s1 h hc1 hs1 hv
        exact q_is hW hj h.1.1.1 h.1.1.2.1 h.2.1 sg_in.2.2.2.2.2.1 (fun q => by rw [h3] at q; exact absurd q (by decide)) (fun _ => ⟨fun _ => q_is hW hj h.1.1.1 h.1.1.2.1 h.2.1 sg_in.1 (fun q => by rw [h3] at q; exact absurd q (by decide)) (fun _ => ⟨fun _ => ⟨fun _ => ⟨c1, s1, by omega, by omega, hv⟩, fun q => absurd ((q_kd h.2.1).2.2.1.mp q) h4⟩, fun q => absurd rfl q⟩), fun q => absurd rfl q⟩)
      by_cases h40 : so (j + 1) = 40
      · have e2 : ∀ N N', gMore gS so W nT (List.length N) 0 (j + 1, false, nI d, N') = gCall gS so W nT (List.length N) (j + 1, false, nI d, setK (List.length (α := pNd) N) 20 N') := by
          intro N N'
          unfold gMore; rw [ps_g, if_neg (fun q => absurd rfl q.2), if_pos ⟨h40, rfl⟩]; rfl
        by_cases hd30 : d < 30
        · have a4 := tk_go hW a1 h40 (by decide) (by decide)
          have hb3 := psb_b t n (j + 1)
          have hb4 := sb_n t n (j + 1)
          have e3 : ∀ (b : Nat) N', gCall gS so W nT b (j + 1, false, nI d, N') = gCall1 gS so W nT (nI b) (j + 2, false, nI (d + 1), setD b (nI (d + 1)) N') := by
            intro b N'
            unfold gCall
            rw [g_open h40 hd30]; rfl
          have gm : ∀ p s N, (∃ N', gPiece gS gP so W nT p s 0 (j, false, nI d, N) = gCall1 gS so W nT (nI N.length) (j + 2, false, nI (d + 1), N')) ∧ (N.length + 1 ≤ nT → gPiece gS gP so W nT p s 0 (j, false, nI d, N) = gCall1 gS so W nT (nI N.length) (j + 2, false, nI (d + 1), N ++ [(20, j, p, s, nI (d + 1))])) := by
            intro p s N
            rw [eg]
            refine ⟨?_, fun hN => ?_⟩
            · obtain ⟨N', e⟩ := (a2' p s N).1
              rw [e, e2, e3]; exact ⟨_, rfl⟩
            · rw [(a2' p s N).2 hN, e2, e3]
              unfold setK setD
              rw [set_last, set_last]
          rcases hC hd30 (j + 2) a4 with ⟨j', m, rn, L, R, c1, c2, c3, c4, c5, c6, c7⟩ | ⟨j', c1, c2, c3, c4⟩
          · refine Or.inl ⟨j', m + 1, rn + 1, _, _, by omega, c2, by omega, by omega, Tr_node c5 20 j (nI (d + 1)) 0 1 (by decide) rfl (by omega), fun p s N => ?_, fun Q p nR nN nd hQ hQR hR0 hnd => ?_⟩
            · refine ⟨?_, fun hN => ?_⟩
              · obtain ⟨N', e⟩ := (gm p s N).1
                obtain ⟨N2, e5⟩ := (c6 (nI N.length) N').1
                exact ⟨N2, e.trans e5⟩
              · refine ((gm p s N).2 (by omega)).trans (((c6 (nI N.length) _).2 (by simp only [List.length_append, List.length_cons, List.length_nil]; omega)).trans ?_)
                simp only [List.length_append, List.length_cons, List.length_nil, List.append_assoc, List.cons_append, List.nil_append, Nat.zero_add]
            · obtain ⟨nR1, nN1, nd1, b1, b2, b3, b4, b5⟩ := a3 Q p nR nN nd hQ hQR hR0 hnd
              have hlF : (Q ++ [((20 : Int32), j, p, (0 : Int32), nI (d + 1), 0, 1)]).length = Q.length + 1 := by simp
              obtain ⟨nR2, nN2, nd2, e1, e2, e3, e4, e5⟩ := c7 (Q ++ [(20, j, p, 0, nI (d + 1), 0, 1)]) (nI Q.length) nR1 nN1 nd1 (by omega) (by omega) (by have := b1.1; omega) (by show nd1 ≤ sbN t n (j + 1 + 1); omega)
              refine ⟨nR2, nN2, nd2, gwR_t b1 e1, gwN_t b2 e2, by omega, e4, fun zs K_ E_ mc ms h hb kk => ?_⟩
              have hm1 := b1.1; have hm2 := b2.1; have hm3 := e1.1; have hm4 := e2.1
              obtain ⟨hb1, hb2⟩ := hb
              refine ru Q nR nN nd zs p K_ E_ mc ms ((nR1 - nR) / 4 + nN1 - nN) (24 * nR1 + 2 * nN1 - 24 * nR - 2 * nN) h (by omega) (by omega) (b5 zs _ E_ _ _ h ⟨by omega, by omega⟩ (fun z1 h1 => ?_))
              refine q_is hW a1 h1.1.1.1 h1.1.1.2.1 h1.2.1 sg_in.1 (fun _ => ⟨fun q => absurd q (by decide), fun _ => ⟨(nR2 - nR1) / 4 + nN2 - nN1, 24 * nR2 + 2 * nN2 - 24 * nR1 - 2 * nN1, by omega, by omega, ?_⟩⟩) (fun q => absurd h40 q)
              refine q_call hW a1 hd h1 (fun _ _ z2 h2 => ?_) (fun q => absurd ⟨h40, hd30⟩ q)
              refine e5 z2 _ E_ _ _ 0 0 h2 ⟨by omega, by omega⟩ (fun z3 h3 => kk z3 ?_)
              rw [hlF, List.append_assoc] at h3
              exact h3
          · refine Or.inr ⟨j', by omega, c2, fun p s N => ?_, fun Q p nR nN nd hQ hQR hR0 hnd => ?_⟩
            · obtain ⟨N', e⟩ := (gm p s N).1
              obtain ⟨d2, N2, e5⟩ := c3 (nI N.length) N'
              exact ⟨d2, N2, e.trans e5⟩
            · obtain ⟨nR1, nN1, nd1, b1, b2, b3, b4, b5⟩ := a3 Q p nR nN nd hQ hQR hR0 hnd
              have hlF : (Q ++ [((20 : Int32), j, p, (0 : Int32), nI (d + 1), 0, 1)]).length = Q.length + 1 := by simp
              obtain ⟨nR2, nN2, e1, e2, e5⟩ := c4 (Q ++ [(20, j, p, 0, nI (d + 1), 0, 1)]) (nI Q.length) nR1 nN1 nd1 (by omega) (by omega) (by have := b1.1; omega) (by show nd1 ≤ sbN t n (j + 1 + 1); omega)
              refine ⟨nR2, nN2, gwR_t b1 e1, gwN_t b2 e2, fun zs K_ E_ mc ms h hb kk => ?_⟩
              have hm1 := b1.1; have hm2 := b2.1; have hm3 := e1.1; have hm4 := e2.1
              obtain ⟨hb1, hb2⟩ := hb
              refine ru Q nR nN nd zs p K_ E_ mc ms ((nR1 - nR) / 4 + nN1 - nN) (24 * nR1 + 2 * nN1 - 24 * nR - 2 * nN) h (by omega) (by omega) (b5 zs _ E_ _ _ h ⟨by omega, by omega⟩ (fun z1 h1 => ?_))
              refine q_is hW a1 h1.1.1.1 h1.1.1.2.1 h1.2.1 sg_in.1 (fun _ => ⟨fun q => absurd q (by decide), fun _ => ⟨(nR2 - nR1) / 4 + nN2 - nN1, 24 * nR2 + 2 * nN2 - 24 * nR1 - 2 * nN1, by omega, by omega, ?_⟩⟩) (fun q => absurd h40 q)
              exact q_call hW a1 hd h1 (fun _ _ z2 h2 => e5 z2 _ E_ _ _ 0 0 h2 ⟨by omega, by omega⟩ kk) (fun q => absurd ⟨h40, hd30⟩ q)
        · refine Or.inr ⟨j + 1, by omega, a1, fun p s N => ?_, fun Q p nR nN nd hQ hQR hR0 hnd => ?_⟩
          · show ∃ d' N', gPiece gS gP so W nT p s 0 (j, false, nI d, N) = _
            obtain ⟨N', e⟩ := (a2' p s N).1
            rw [eg, e, e2]
            unfold gCall
            rw [g_openN hd (fun q => hd30 q.2)]
            exact ff_call1 hff (j + 1) (nI d) _
          · obtain ⟨nR1, nN1, nd1, b1, b2, b3, b4, b5⟩ := a3 Q p nR nN nd hQ hQR hR0 hnd
            refine ⟨nR1, nN1, b1, b2, fun zs K_ E_ mc ms h hb kk => ?_⟩
            refine ru Q nR nN nd zs p K_ E_ mc ms mc ms h (by omega) (by omega) (b5 zs _ E_ _ _ h hb (fun z1 h1 => ?_))
            refine q_is hW a1 h1.1.1.1 h1.1.1.2.1 h1.2.1 sg_in.1 (fun _ => ⟨fun q => absurd q (by decide), fun _ => ⟨0, 0, by omega, by omega, ?_⟩⟩) (fun q => absurd h40 q)
            exact q_call hW a1 hd h1 (fun _ q => absurd q hd30) (fun _ z hz => kk z hz)
      · have e2 : ∀ N N', gMore gS so W nT (List.length (α := pNd) N) 0 (j + 1, false, nI d, N') = (j + 1, false, nI d, N') := by
          intro N N'
          unfold gMore; rw [ps_g, if_neg (fun q => absurd rfl q.2), if_neg (fun q => h40 q.1)]
        refine Or.inl ⟨j + 1, 1, 1, _, _, by omega, a1, by omega, by omega, Tr_leaf 15 j (-1) 1 rfl (by omega), fun p s N => ?_, fun Q p nR nN nd hQ hQR hR0 hnd => ?_⟩
        · show (∃ N', gPiece gS gP so W nT p s 0 (j, false, nI d, N) = _) ∧ (_ → gPiece gS gP so W nT p s 0 (j, false, nI d, N) = _)
          rw [eg]
          refine ⟨?_, fun hN => ?_⟩
          · obtain ⟨N', e⟩ := (a2' p s N).1
            rw [e, e2]; exact ⟨_, rfl⟩
          · rw [(a2' p s N).2 hN, e2]
        · obtain ⟨nR', nN', nd', b1, b2, b3, b4, b5⟩ := a3 Q p nR nN nd hQ hQR hR0 hnd
          refine ⟨nR', nN', nd', b1, b2, b3, b4, fun zs K_ E_ mc ms h hb kk => ?_⟩
          refine ru Q nR nN nd zs p K_ E_ mc ms mc ms h (by omega) (by omega) (b5 zs _ E_ mc ms h hb (fun z1 h1 => ?_))
          exact q_is hW a1 h1.1.1.1 h1.1.1.2.1 h1.2.1 sg_in.1 (fun q => absurd q h40) (fun _ => ⟨fun _ => kk z1 h1, fun q => absurd rfl q⟩)
    · by_cases h40 : so j = 40
      · have eg : ∀ p s N, gPiece gS gP so W nT p s 0 (j, false, nI d, N) = gClose so 41 (gS p s 0 (gOpen so 40 (j, false, nI d, N))) := by
          intro p s N
          unfold gPiece; rw [ps_g, if_neg h4, if_neg h3, if_pos h40]
        have h45 : so j ≠ 45 := by rw [h40]; decide
        by_cases hd30 : d < 30
        · have a1 := tk_go hW hj h40 (by decide) (by decide)
          have ro : ∀ (Q : List pRw) (nR nN nd : Nat) zs (p : Int32) (K_ : Int32 → RS → Prop) (E_ : RS → Prop) mc ms, RP t n nTp so Q nR nN nd d j zs → (∀ z1, RP t n nTp so Q nR nN nd (d + 1) (j + 1) z1 → vA mc ms z1 p (fun r_33 zs_34 => (vc_M_shut zs_34 41 (fun zs_38 => (K_ r_33 zs_38)) (fun zse_39 => (E_ zse_39)))) E_) → vc_M_factor vA vF mc ms zs p K_ E_ := by
            intro Q nR nN nd zs p K_ E_ mc ms h hv
            exact q_is hW hj h.1.1.1 h.1.1.2.1 h.2.1 sg_in.2.2.2.2.2.1 (fun q => absurd q h45) (fun _ => ⟨fun _ => q_is hW hj h.1.1.1 h.1.1.2.1 h.2.1 sg_in.1 (fun _ => ⟨fun q => absurd q (by decide), fun _ => q_open hW hj hd sg_in.1 h (fun _ _ z1 h1 => ⟨mc, ms, by omega, by omega, hv z1 h1⟩) (fun q => absurd ⟨h40, hd30⟩ q)⟩) (fun q => absurd h40 q), fun q => absurd rfl q⟩)
          rcases hA hd30 (j + 1) a1 with ⟨j', m, rn, L, R, c1, c2, c3, c4, c5, c6, c7⟩ | ⟨j', c1, c2, c3, c4⟩
          · by_cases h41 : so j' = 41
            · have a5 := tk_go hW c2 h41 (by decide) (by decide)
              refine Or.inl ⟨j' + 1, m, rn, L, R, by omega, a5, by omega, by omega, c5, fun p s N => ?_, fun Q p nR nN nd hQ hQR hR0 hnd => ?_⟩
              · have c6' : (∃ N', gS p s 0 (j + 1, false, nI (d + 1), N) = (j', false, nI (d + 1), N')) ∧ (N.length + m ≤ nT → gS p s 0 (j + 1, false, nI (d + 1), N) = (j', false, nI (d + 1), N ++ L N.length p s)) := c6 p s N
                show (∃ N', gPiece gS gP so W nT p s 0 (j, false, nI d, N) = _) ∧ (_ → gPiece gS gP so W nT p s 0 (j, false, nI d, N) = _)
                rw [eg, g_open h40 hd30]
                refine ⟨?_, fun hN => ?_⟩
                · obtain ⟨N', e⟩ := c6'.1
                  rw [e, g_close h41]; exact ⟨_, rfl⟩
                · rw [c6'.2 hN, g_close h41]
              · obtain ⟨nR', nN', nd', b1, b2, b3, b4, b5⟩ := c7 Q p nR nN nd (by omega) hQR hR0 (by omega)
                have hb5 := psb_b t n j'
                have hb6 := sb_n t n j'
                refine ⟨nR', nN', nd', b1, b2, b3, by omega, fun zs K_ E_ mc ms h hb kk => ?_⟩
                exact ro Q nR nN nd zs p K_ E_ mc ms h (fun z1 h1 => b5 z1 _ E_ mc ms h1 hb (fun z2 h2 => q_shut hW c2 sg_in.2.1 h2 (fun _ z3 h3 => kk z3 h3) (fun q => absurd h41 q)))
            · refine Or.inr ⟨j', by omega, c2, fun p s N => ?_, fun Q p nR nN nd hQ hQR hR0 hnd => ?_⟩
              · have c6' : (∃ N', gS p s 0 (j + 1, false, nI (d + 1), N) = (j', false, nI (d + 1), N')) ∧ (N.length + m ≤ nT → gS p s 0 (j + 1, false, nI (d + 1), N) = (j', false, nI (d + 1), N ++ L N.length p s)) := c6 p s N
                obtain ⟨N', e⟩ := c6'.1
                show ∃ d' N', gPiece gS gP so W nT p s 0 (j, false, nI d, N) = _
                rw [eg, g_open h40 hd30, e, g_closeN h41]
                exact ⟨_, _, rfl⟩
              · obtain ⟨nR', nN', nd', b1, b2, b3, b4, b5⟩ := c7 Q p nR nN nd (by omega) hQR hR0 (by omega)
                refine ⟨nR', nN', b1, b2, fun zs K_ E_ mc ms h hb kk => ?_⟩
                exact ro Q nR nN nd zs p K_ E_ mc ms h (fun z1 h1 => b5 z1 _ E_ mc ms h1 hb (fun z2 h2 => q_shut hW c2 sg_in.2.1 h2 (fun q => absurd q h41) (fun _ z3 h3 => kk z3 h3)))
          · refine Or.inr ⟨j', by omega, c2, fun p s N => ?_, fun Q p nR nN nd hQ hQR hR0 hnd => ?_⟩
            · obtain ⟨d1, N1, e⟩ := c3 p s N
              have e' : gS p s 0 (j + 1, false, nI (d + 1), N) = (j', true, d1, N1) := e
              show ∃ d' N', gPiece gS gP so W nT p s 0 (j, false, nI d, N) = _
              rw [eg, g_open h40 hd30, e']
              exact ff_close (by decide) j' d1 N1
            · obtain ⟨nR', nN', b1, b2, b5⟩ := c4 Q p nR nN nd (by omega) hQR hR0 (by omega)
              refine ⟨nR', nN', b1, b2, fun zs K_ E_ mc ms h hb kk => ?_⟩
              exact ro Q nR nN nd zs p K_ E_ mc ms h (fun z1 h1 => b5 z1 _ E_ mc ms h1 hb kk)
        · refine Or.inr ⟨j, by omega, hj, fun p s N => ?_, fun Q p nR nN nd hQ hQR hR0 hnd => ?_⟩
          · show ∃ d' N', gPiece gS gP so W nT p s 0 (j, false, nI d, N) = _
            rw [eg, g_openN hd (fun q => hd30 q.2)]
            obtain ⟨d1, N1, e⟩ := hff p s 0 j (nI d) N
            rw [e]
            exact ff_close (by decide) j d1 N1
          · refine ⟨nR, nN, gwR_r W nR, gwN_r n nN, fun zs K_ E_ mc ms h hb kk => ?_⟩
            exact q_is hW hj h.1.1.1 h.1.1.2.1 h.2.1 sg_in.2.2.2.2.2.1 (fun q => absurd q h45) (fun _ => ⟨fun _ => q_is hW hj h.1.1.1 h.1.1.2.1 h.2.1 sg_in.1 (fun _ => ⟨fun q => absurd q (by decide), fun _ => q_open hW hj hd sg_in.1 h (fun _ q => absurd q hd30) (fun _ z hz => kk z hz)⟩) (fun q => absurd h40 q), fun q => absurd rfl q⟩)
      · by_cases h45 : so j = 45
        · have eg : ∀ p s N, gPiece gS gP so W nT p s 0 (j, false, nI d, N) = gDec (gP (gR nT (j, false, nI d, N)) 0 0 (gOpen so 45 (gAdd nT 19 p s (j, false, nI d, N)))) := by
            intro p s N
            unfold gPiece; rw [ps_g, if_neg h4, if_neg h3, if_neg h40, if_pos ⟨h45, rfl⟩]; rfl
          by_cases hd30 : d < 30
          · have a1 := tk_go hW hj h45 (by decide) (by decide)
            have ro : ∀ (Q : List pRw) (p : Int32) (nR nN nd : Nat), Q.length ≤ 4 * j + 3 → Q.length ≤ nR → 1 ≤ nR ∧ nR % 4 = 0 → ∀ zs (K_ : Int32 → RS → Prop) (E_ : RS → Prop) mc ms, RP t n nTp so Q nR nN nd d j zs → grR nR Q.length ≤ 4 * mc + nR → 24 * grR nR Q.length ≤ ms + 24 * nR →
                (∀ z1, RP t n nTp so (Q ++ [(19, j, p, 0, -1, 0, 0)]) (grR nR Q.length) nN nd (d + 1) (j + 1) z1 → ∃ c_59 s_60 : Nat, ((grR nR Q.length - nR) / 4) + c_59 ≤ mc ∧ 24 * (grR nR Q.length - nR) + s_60 ≤ ms ∧ (vF c_59 s_60 z1 (nI Q.length) (fun r_57 zs_58 => (K_ (nI Q.length) (RS.w_op zs_58 (zs_58.op - 1)))) (fun zse_61 => (E_ zse_61)))) → vc_M_factor vA vF mc ms zs p K_ E_ := by
              intro Q p nR nN nd hQ hQR hR0 zs K_ E_ mc ms h hc ht hv
              have g1 : nR ≤ grR nR Q.length ∧ (grR nR Q.length - nR) % 4 = 0 := by unfold grR; split <;> omega
              refine q_is hW hj h.1.1.1 h.1.1.2.1 h.2.1 sg_in.2.2.2.2.2.1 (fun _ => ⟨fun q => absurd q (by decide), fun _ => ⟨fun _ => ?_, fun q => ?_⟩⟩) (fun q => absurd h45 q)
              · refine ⟨(grR nR Q.length - nR) / 4, 24 * (grR nR Q.length - nR), by omega, by omega, q_piece h (by omega) (by omega) (by omega) (fun z1 h1 => ?_)⟩
                rw [Nat.zero_add, Nat.zero_add]
                have h1' : RP t n nTp so (Q ++ [(19, j, p, 0, -1, 0, 0)]) (grR nR Q.length) nN nd (d + 1) j (RS.w_op z1 (z1.op + 1)) := ⟨⟨h1.1.1, by show z1.op + 1 = nI (d + 1); rw [h1.1.2.1, nI_1], h1.1.2.2⟩, h1.2.1, h1.2.2⟩
                exact q_nextP hW h1' a1 hv
              · rw [h.1.2.1, show (30 : Int32) = nI 30 from rfl, nI_eq (by omega) (by decide)] at q
                omega
            rcases hF hd30 (j + 1) a1 with ⟨j', m, rn, L, R, c1, c2, c3, c4, c5, c6, c7⟩ | ⟨j', c1, c2, c3, c4⟩
            · have cls : ∀ p s N, (∃ N', gP p s 0 (j + 1, false, nI (d + 1), N) = (j', false, nI (d + 1), N')) ∧ (N.length + m ≤ nT → gP p s 0 (j + 1, false, nI (d + 1), N) = (j', false, nI (d + 1), N ++ L N.length p s)) := fun p s N => c6 p s N
              have edec : ∀ N, gDec (j', false, nI (d + 1), N) = (j', false, nI d, N) := by
                intro N
                show (j', false, nI (d + 1) - 1, N) = _
                rw [pu_s1 (by omega)]; rfl
              refine Or.inl ⟨j', m + 1, rn + 1, _, _, by omega, c2, by omega, by omega, Tr_node (Fo_tree c5 0) 19 j (-1) 0 0 (by decide) rfl (by omega), fun p s N => ⟨?_, fun hN => ?_⟩, fun Q p nR nN nd hQ hQR hR0 hnd => ?_⟩
              · show ∃ N', gPiece gS gP so W nT p s 0 (j, false, nI d, N) = _
                obtain ⟨N1, e⟩ := g_addE (nT := nT) (k := 19) (p := p) (s := s) (j := j) (f := false) (d := nI d) (N := N)
                rw [eg, e, g_open h45 hd30]
                obtain ⟨N2, e2⟩ := (cls (gR nT (j, false, nI d, N)) 0 N1).1
                rw [e2, edec]; exact ⟨_, rfl⟩
              · show gPiece gS gP so W nT p s 0 (j, false, nI d, N) = _
                rw [eg, g_add (by omega), g_R (by omega), g_open h45 hd30, (cls _ 0 _).2 (by simp only [List.length_append, List.length_cons, List.length_nil]; omega), edec]
                simp only [List.length_append, List.length_cons, List.length_nil, List.append_assoc, List.cons_append, List.nil_append, Nat.zero_add]
              · obtain ⟨g1, g2⟩ := gwR_g (W := W) hR0 hQR (by omega)
                have hlF : (Q ++ [((19 : Int32), j, p, (0 : Int32), (-1 : Int32), 0, 0)]).length = Q.length + 1 := by simp
                obtain ⟨nR1, nN1, nd1, b1, b2, b3, b4, b5⟩ := c7 (Q ++ [(19, j, p, 0, -1, 0, 0)]) (nI Q.length) (grR nR Q.length) nN nd (by omega) (by omega) (by have := g1.1; omega) (by omega)
                refine ⟨nR1, nN1, nd1, gwR_t g1 b1, b2, by omega, b4, fun zs K_ E_ mc ms h hb kk => ?_⟩
                have hm0 := g1.1; have hm1 := b1.1; have hm2 := b2.1
                obtain ⟨hb1, hb2⟩ := hb
                refine ro Q p nR nN nd hQ hQR hR0 zs K_ E_ mc ms h (by omega) (by omega) (fun z1 h1 => ⟨(nR1 - grR nR Q.length) / 4 + nN1 - nN, 24 * nR1 + 2 * nN1 - 24 * grR nR Q.length - 2 * nN, by omega, by omega, ?_⟩)
                refine b5 z1 _ _ _ _ h1 ⟨by omega, by omega⟩ (fun z2 h2 => kk _ ?_)
                rw [hlF, List.append_assoc] at h2
                exact ⟨⟨h2.1.1, by show z2.op - 1 = nI d; rw [h2.1.2.1, pu_s1 (by omega)]; rfl, h2.1.2.2⟩, h2.2.1, h2.2.2⟩
            · refine Or.inr ⟨j', by omega, c2, fun p s N => ?_, fun Q p nR nN nd hQ hQR hR0 hnd => ?_⟩
              · show ∃ d' N', gPiece gS gP so W nT p s 0 (j, false, nI d, N) = _
                obtain ⟨N1, e⟩ := g_addE (nT := nT) (k := 19) (p := p) (s := s) (j := j) (f := false) (d := nI d) (N := N)
                rw [eg, e, g_open h45 hd30]
                obtain ⟨d2, N2, e2⟩ := c3 (gR nT (j, false, nI d, N)) 0 N1
                have e2' : gP (gR nT (j, false, nI d, N)) 0 0 (j + 1, false, nI (d + 1), N1) = (j', true, d2, N2) := e2
                rw [e2']; exact ⟨_, _, rfl⟩
              · obtain ⟨g1, g2⟩ := gwR_g (W := W) hR0 hQR (by omega)
                have hlF : (Q ++ [((19 : Int32), j, p, (0 : Int32), (-1 : Int32), 0, 0)]).length = Q.length + 1 := by simp
                obtain ⟨nR1, nN1, b1, b2, b5⟩ := c4 (Q ++ [(19, j, p, 0, -1, 0, 0)]) (nI Q.length) (grR nR Q.length) nN nd (by omega) (by omega) (by have := g1.1; omega) (by omega)
                refine ⟨nR1, nN1, gwR_t g1 b1, b2, fun zs K_ E_ mc ms h hb kk => ?_⟩
                have hm0 := g1.1; have hm1 := b1.1; have hm2 := b2.1
                obtain ⟨hb1, hb2⟩ := hb
                exact ro Q p nR nN nd hQ hQR hR0 zs K_ E_ mc ms h (by omega) (by omega) (fun z1 h1 => ⟨(nR1 - grR nR Q.length) / 4 + nN1 - nN, 24 * nR1 + 2 * nN1 - 24 * grR nR Q.length - 2 * nN, by omega, by omega, b5 z1 _ _ _ _ h1 ⟨by omega, by omega⟩ kk⟩)
          · refine Or.inr ⟨j, by omega, hj, fun p s N => ?_, fun Q p nR nN nd hQ hQR hR0 hnd => ?_⟩
            · show ∃ d' N', gPiece gS gP so W nT p s 0 (j, false, nI d, N) = _
              obtain ⟨N1, e⟩ := g_addE (nT := nT) (k := 19) (p := p) (s := s) (j := j) (f := false) (d := nI d) (N := N)
              rw [eg, e, g_openN hd (fun q => hd30 q.2)]
              obtain ⟨d1, N2, e2⟩ := hffP (gR nT (j, false, nI d, N)) 0 0 j (nI d) N1
              rw [e2]; exact ⟨_, _, rfl⟩
            · refine ⟨nR, nN, gwR_r W nR, gwN_r n nN, fun zs K_ E_ mc ms h hb kk => ?_⟩
              refine q_is hW hj h.1.1.1 h.1.1.2.1 h.2.1 sg_in.2.2.2.2.2.1 (fun _ => ⟨fun q => absurd q (by decide), fun _ => ⟨fun q => ?_, fun _ => q_wrong h.1.1 h.2.1 kk⟩⟩) (fun q => absurd h45 q)
              rw [h.1.2.1, show (30 : Int32) = nI 30 from rfl, nI_eq (by omega) (by decide)] at q
              omega
        · refine Or.inr ⟨j, by omega, hj, fun p s N => ⟨nI d, N, ?_⟩, fun Q p nR nN nd hQ hQR hR0 hnd => ?_⟩
          · show gPiece gS gP so W nT p s 0 (j, false, nI d, N) = _
            unfold gPiece; rw [ps_g, if_neg h4, if_neg h3, if_neg h40, if_neg (fun q => h45 q.1)]; rfl
          · obtain ⟨_, a3⟩ := J_namF (nT := nT) (d := d) hW hj h3 0
            obtain ⟨nR', nN', b1, b2, b5⟩ := a3 Q p nR nN nd hQ hQR hR0 hnd
            refine ⟨nR', nN', b1, b2, fun zs K_ E_ mc ms h hb kk => ?_⟩
            exact q_is hW hj h.1.1.1 h.1.1.2.1 h.2.1 sg_in.2.2.2.2.2.1 (fun q => absurd q h45) (fun _ => ⟨fun _ => q_is hW hj h.1.1.1 h.1.1.2.1 h.2.1 sg_in.1 (fun q => absurd q h40) (fun _ => ⟨fun _ => ⟨fun _ => ⟨mc, ms, by omega, by omega, b5 zs _ E_ mc ms h hb kk⟩, fun q => absurd ((q_kd h.2.1).2.2.1.mp q) h4⟩, fun q => absurd rfl q⟩), fun q => absurd rfl q⟩)
theorem J_sum {t : FN} {n nTp : Nat} {so : FN} {W nT : Nat} (hW : rW t n nTp so W) : ∀ m m' d, d ≤ 30 → 32 ≤ m + d → 32 ≤ m' + d → ∀ j, j < W →
    JT t n nTp so W nT (fun p s st => (gLv so W nT m).1 p s 0 st) (fun mc ms zs p K E => (lvA m').1 mc ms zs p K E) j d 1 1 ∧ JT t n nTp so W nT (fun p s st => (gLv so W nT m).2 p s 0 st) (fun mc ms zs p K E => (lvA m').2 mc ms zs p K E) j d 3 3
  | 0, _, d, hd, hm, _, _, _ => absurd hm (by omega)
  | _ + 1, 0, d, hd, _, hm, _, _ => absurd hm (by omega)
  | m + 1, m' + 1, d, hd, hm, hm', j, hj => by
    have hff := (ff_lv so W nT m).1
    have hffP := (ff_lv so W nT m).2
    have hWh : d < 30 → ∀ i, i < W → JX t n nTp so W nT (fun p s st => gWhole (gLv so W nT m).1 nT p s st) (fun mc ms zs p K E => vc_M_whole mc ms zs p K E) i (d + 1) 0 1 :=
      fun hd30 i hi => J_whole hW (fun i2 hi2 => J_terms hW m 33 (d + 1) (by omega) (by omega) (by omega) i2 hi2) hi
    have hSh : d < 30 → ∀ i, i < W → JO t n nTp so W nT (fun p st => gShape (gLv so W nT m).1 so W nT p st) (fun mc ms zs p K E => vc_M_shape mc ms zs p K E) i (d + 1) 0 0 :=
      fun hd30 i hi => J_shape hW hff (by omega) (fun hd29 i2 hi2 => J_whole hW (fun i3 hi3 => J_terms hW m 33 (d + 1 + 1) (by omega) (by omega) (by omega) i3 hi3) hi2) hi
    have hA : d < 30 → ∀ i, i < W → JT t n nTp so W nT (fun p s st => (gLv so W nT m).1 p s 0 st) (fun mc ms zs p K E => (lvA m').1 mc ms zs p K E) i (d + 1) 1 1 :=
      fun hd30 i hi => (J_sum hW m m' (d + 1) (by omega) (by omega) (by omega) i hi).1
    have hF : d < 30 → ∀ i, i < W → JT t n nTp so W nT (fun p s st => (gLv so W nT m).2 p s 0 st) (fun mc ms zs p K E => (lvA m').2 mc ms zs p K E) i (d + 1) 3 3 :=
      fun hd30 i hi => (J_sum hW m m' (d + 1) (by omega) (by omega) (by omega) i hi).2
    have hU : ∀ i, i < W → JT t n nTp so W nT (fun p s st => gPiece (gLv so W nT m).1 (gLv so W nT m).2 so W nT p s 0 st) (fun mc ms zs p K E => vc_M_factor (lvA m').1 (lvA m').2 mc ms zs p K E) i d 3 3 :=
      fun i hi => J_factor hW hff hffP hi hd hA hF (fun hd30 i2 hi2 => J_c1 hW hff (hWh hd30) (fun i3 hi3 => J_arg hW (hA hd30) (hSh hd30) hi3) hi2)
    have hEl : ∀ c i, i < W → JT t n nTp so W nT (gEl (gLv so W nT m).1 (gLv so W nT m).2 so W nT c) (vEl (lvA m').1 (lvA m').2 c) i d 3 3 := by
      intro c i hi
      by_cases hc : c = 47
      · have e1 : gEl (gLv so W nT m).1 (gLv so W nT m).2 so W nT c = fun p s st => gNumber so nT p s st := by
          funext p s st; unfold gEl; rw [if_pos hc]
        have e2 : vEl (lvA m').1 (lvA m').2 c = fun mc ms zs p K E => vc_M_numberPiece mc ms zs p K E := by
          funext mc ms zs p K E; unfold vEl; rw [if_pos hc]
        rw [e1, e2]
        by_cases h4 : so i = 4
        · obtain ⟨a1, a2, a3⟩ := J_num (nT := nT) (d := d) hW hi h4
          exact Or.inl ⟨i + 1, 1, 1, _, _, by omega, a1, by omega, by omega, Tr_leaf 16 i (-1) 4 rfl (by omega), a2, a3⟩
        · obtain ⟨a2, a3⟩ := J_numF (nT := nT) (d := d) hW hi h4
          exact Or.inr ⟨i, by omega, hi, a2, a3⟩
      · have e1 : gEl (gLv so W nT m).1 (gLv so W nT m).2 so W nT c = fun p s st => gPiece (gLv so W nT m).1 (gLv so W nT m).2 so W nT p s 0 st := by
          funext p s st; unfold gEl; rw [if_neg hc]
        have e2 : vEl (lvA m').1 (lvA m').2 c = fun mc ms zs p K E => vc_M_factor (lvA m').1 (lvA m').2 mc ms zs p K E := by
          funext mc ms zs p K E; unfold vEl; rw [if_neg hc]
        rw [e1, e2]
        exact hU i hi
    exact ⟨J_T0 hW (fun i hi => J_E0 hW hU hEl hi) hj, hU j hj⟩
