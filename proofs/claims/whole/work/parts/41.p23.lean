theorem sg_T {W m rn : Nat} {L : LT3} {R : RT3} (h : Tr W m rn L R) (Q : List pRw) (p c : Int32) : (Q ++ R Q.length p 0).modify Q.length (rSg c) = Q ++ R Q.length p c := by
  obtain ⟨_, ⟨k', fw', de, pc, ac, tl, h1, h2⟩, _⟩ := h
  rw [h1, h1, md_app]
  rfl
def JW9 (t : FN) (n nTp : Nat) (so : FN) (W nT : Nat) (gS : G3) (vA vF : VR) (j d : Nat) : Prop :=
  (∃ (j' m rn : Nat) (L : LF2) (R : RF2), j < j' ∧ j' < W ∧ m + j ≤ j' ∧ rn + 4 * j ≤ 4 * j' ∧ Fo W m rn L R ∧ so j' ≠ 44 ∧
    (∀ (p : Int32) (f : Nat) (N : List pNd), W ≤ f + j → (∃ N', gWholesL gS so nT p 59 f (gWhole gS nT p 59 (j + 1, false, nI d, N)) = (j', false, nI d, N')) ∧ (N.length + m ≤ nT → gWholesL gS so nT p 59 f (gWhole gS nT p 59 (j + 1, false, nI d, N)) = (j', false, nI d, N ++ L N.length p))) ∧
    (∀ (Q : List pRw) (p : Int32) (nR nN nd : Nat), Q.length ≤ 4 * j → Q.length ≤ nR → 1 ≤ nR ∧ nR % 4 = 0 → nd ≤ sbN t n j → ∃ nR' nN' nd' : Nat, gwR W nR nR' ∧ gwN n nN nN' ∧ Q.length + rn ≤ nR' ∧ nd' ≤ sbN t n j' ∧
      ∀ zs K_ E_ mc ms c tt f, W ≤ f + j → RP t n nTp so Q nR nN nd d j zs → budC nR nN nR' nN' mc ms c tt →
        (∀ z' c' t', RP t n nTp so (Q ++ R Q.length p) nR' nN' nd' d j' z' → vj_M_call_111 vA vF mc ms K_ E_ z' c' t') → vl_M_call_79 vA vF mc ms K_ E_ (f + 2) p 1 zs c tt)) ∨
  (∃ j', j ≤ j' ∧ j' < W ∧ (∀ (p : Int32) (f : Nat) (N : List pNd), W ≤ f + j → ∃ d' N', gWholesL gS so nT p 59 f (gWhole gS nT p 59 (j + 1, false, nI d, N)) = (j', true, d', N')) ∧
    (∀ (Q : List pRw) (p : Int32) (nR nN nd : Nat), Q.length ≤ 4 * j → Q.length ≤ nR → 1 ≤ nR ∧ nR % 4 = 0 → nd ≤ sbN t n j → ∃ nR' nN' : Nat, gwR W nR nR' ∧ gwN n nN nN' ∧
      ∀ zs K_ E_ mc ms c tt f, W ≤ f + j → RP t n nTp so Q nR nN nd d j zs → budC nR nN nR' nN' mc ms c tt → (∀ z', RF t n nTp so nR' nN' j' z' → E_ z') → vl_M_call_79 vA vF mc ms K_ E_ (f + 2) p 1 zs c tt))
theorem J_W9 {t : FN} {n nTp : Nat} {so : FN} {W nT : Nat} (hW : rW t n nTp so W) {gS : G3} {vA vF : VR} {d : Nat}
    (hH : ∀ i, i < W → JX t n nTp so W nT (fun p s st => gWhole gS nT p s st) (fun mc ms zs p K E => vc_M_whole mc ms zs p K E) i d 0 1) : ∀ k j, j + 1 < W → W ≤ k + j → JW9 t n nTp so W nT gS vA vF j d := by
  intro k
  induction k with
  | zero => intro j hj hk; omega
  | succ k ih =>
    intro j a1 hk
    have w := tk_so hW a1
    have hb1 := psb_b t n j
    have hb2 := sb_n t n j
    have ru : ∀ (Q : List pRw) (p : Int32) (nR nN nd : Nat) zs K_ E_ mc ms c tt f, RP t n nTp so Q nR nN nd d j zs →
        (∀ z1, RP t n nTp so Q nR nN nd d (j + 1) z1 → ∃ c_18 s_19 : Nat, c + c_18 ≤ mc ∧ tt + s_19 ≤ ms ∧ (vc_M_whole c_18 s_19 z1 p (fun r_16 zs_17 => (vp_in r_16 zs_17.nR ∧ (vc_M_is zs_17 44 (fun r_21 => ((vl_M_call_79 vA vF mc ms K_ E_ f) p r_21 (RS.w_Sg zs_17 (upd zs_17.Sg r_16.toNatClampNeg 59)) (c + c_18) (tt + s_19)))))) (fun zse_23 => (E_ zse_23)))) → vl_M_call_79 vA vF mc ms K_ E_ (f + 1) p 1 zs c tt := by
      intro Q p nR nN nd zs K_ E_ mc ms c tt f h hv
      exact ⟨fun q => absurd q (by decide), fun _ => q_nextP hW h a1 hv⟩
    rcases hH (j + 1) a1 with ⟨j1, m1, rn1, L1, R1, c1, c2, c3, c4, c5, c6, c7⟩ | ⟨j1, c1, c2, c3, c4⟩
    · have cls : ∀ p N, (∃ N', gWhole gS nT p 59 (j + 1, false, nI d, N) = (j1, false, nI d, N')) ∧ (N.length + m1 ≤ nT → gWhole gS nT p 59 (j + 1, false, nI d, N) = (j1, false, nI d, N ++ L1 N.length p 59)) := fun p N => c6 p 59 N
      have hl1 := Tr_len c5
      have hp1 := Tr_pos c5
      have after : ∀ (Q : List pRw) (p : Int32) (nR1 nN1 nd1 : Nat) (z2 : RS) (KK : Int32 → RS → Prop), Q.length + rn1 ≤ nR1 → RP t n nTp so (Q ++ R1 Q.length p 0) nR1 nN1 nd1 d j1 z2 → (∀ r z3, (r = 1 ∧ so j1 = 44 ∨ r = 0 ∧ so j1 ≠ 44) → RP t n nTp so (Q ++ R1 Q.length p 59) nR1 nN1 nd1 d j1 z3 → KK r z3) → (vp_in (nI Q.length) z2.nR ∧ (vc_M_is z2 44 (fun r_21 => KK r_21 (RS.w_Sg z2 (upd z2.Sg (nI Q.length).toNatClampNeg 59))))) := by
        intro Q p nR1 nN1 nd1 z2 KK hq h2 kk
        have eR : z2.nR = nR1 := h2.1.1.2.2.2.1
        have hR9 := h2.1.1.2.2.2.2.2.2.2.2.1
        rw [eR, nI_clamp (by omega)]
        have h3 := q_sign (y := Q.length) (c := 59) h2
        rw [sg_T c5] at h3
        exact ⟨pu_in (by omega) (by omega), q_is hW c2 h2.1.1.1 h2.1.1.2.1 h2.2.1 sg_in.2.2.2.2.1 (fun a => kk 1 _ (Or.inl ⟨rfl, a⟩) h3) (fun a => kk 0 _ (Or.inr ⟨rfl, a⟩) h3)⟩
      by_cases h44 : so j1 = 44
      · have a2 := tk_go hW c2 h44 (by decide) (by decide)
        have e44 : ∀ p f N', gWholesL gS so nT p 59 (f + 1) (j1, false, nI d, N') = gWholesL gS so nT p 59 f (gWhole gS nT p 59 (j1 + 1, false, nI d, N')) := by
          intro p f N'
          have hj1 : psS so (j1, false, nI d, N') = 44 := h44
          show (if psS so (j1, false, nI d, N') = 44 then _ else _) = _
          rw [if_pos hj1]; rfl
        rcases ih j1 a2 (by omega) with ⟨j', m, rn, L, R, d1, d2, d3, d4, d5, d8, d9, d10⟩ | ⟨j', d1, d2, d4, d5⟩
        · refine Or.inl ⟨j', m1 + m, rn1 + rn, _, _, by omega, d2, by omega, by omega, Fo_app (Fo_tree c5 59) d5, d8, fun p f N hf => ?_, fun Q p nR nN nd hQ hQR hR0 hnd => ?_⟩
          · obtain ⟨f, rfl⟩ : ∃ g, f = g + 1 := ⟨f - 1, by omega⟩
            refine ⟨?_, fun hN => ?_⟩
            · obtain ⟨N1, e1⟩ := (cls p N).1
              rw [e1, e44]
              exact (d9 p f N1 (by omega)).1
            · rw [(cls p N).2 (by omega), e44, (d9 p f _ (by omega)).2 (by rw [List.length_append, hl1.1]; omega), List.length_append, hl1.1, List.append_assoc]
          · obtain ⟨nR1, nN1, nd1, b1, b2, b3, b4, b5⟩ := c7 Q p nR nN nd (by omega) hQR hR0 (by omega)
            have hlen : (Q ++ R1 Q.length p 59).length = Q.length + rn1 := by rw [List.length_append, hl1.2]
            obtain ⟨nR2, nN2, nd2, e1, e2, e3, e4, e5⟩ := d10 (Q ++ R1 Q.length p 59) p nR1 nN1 nd1 (by omega) (by omega) (by have := b1.1; omega) b4
            refine ⟨nR2, nN2, nd2, gwR_t b1 e1, gwN_t b2 e2, by omega, e4, fun zs K_ E_ mc ms c tt f hf h hb kk => ?_⟩
            obtain ⟨f, rfl⟩ : ∃ g, f = g + 1 := ⟨f - 1, by omega⟩
            have hm1 := b1.1; have hm2 := b2.1; have hm3 := e1.1; have hm4 := e2.1
            obtain ⟨hb1, hb2⟩ := hb
            refine ru Q p nR nN nd zs K_ E_ mc ms c tt (f + 2) h (fun z1 h1 => ⟨(nR1 - nR) / 4 + nN1 - nN, 24 * nR1 + 2 * nN1 - 24 * nR - 2 * nN, by omega, by omega, ?_⟩)
            refine b5 z1 _ _ _ _ h1 ⟨by omega, by omega⟩ (fun z2 h2 => after Q p nR1 nN1 nd1 z2 (fun r_21 z3 => vl_M_call_79 vA vF mc ms K_ E_ (f + 2) p r_21 z3 (c + ((nR1 - nR) / 4 + nN1 - nN)) (tt + (24 * nR1 + 2 * nN1 - 24 * nR - 2 * nN))) b3 h2 (fun r z3 hr h3 => ?_))
            rcases hr with ⟨rfl, _⟩ | ⟨_, q⟩
            · refine e5 z3 K_ E_ mc ms _ _ f (by omega) h3 ⟨by omega, by omega⟩ (fun z4 c' t' h4 => kk z4 c' t' ?_)
              rw [hlen, List.append_assoc] at h4
              exact h4
            · exact absurd h44 q
        · refine Or.inr ⟨j', by omega, d2, fun p f N hf => ?_, fun Q p nR nN nd hQ hQR hR0 hnd => ?_⟩
          · obtain ⟨f, rfl⟩ : ∃ g, f = g + 1 := ⟨f - 1, by omega⟩
            obtain ⟨N1, e1⟩ := (cls p N).1
            rw [e1, e44]
            exact d4 p f N1 (by omega)
          · obtain ⟨nR1, nN1, nd1, b1, b2, b3, b4, b5⟩ := c7 Q p nR nN nd (by omega) hQR hR0 (by omega)
            have hlen : (Q ++ R1 Q.length p 59).length = Q.length + rn1 := by rw [List.length_append, hl1.2]
            obtain ⟨nR2, nN2, e1, e2, e5⟩ := d5 (Q ++ R1 Q.length p 59) p nR1 nN1 nd1 (by omega) (by omega) (by have := b1.1; omega) b4
            refine ⟨nR2, nN2, gwR_t b1 e1, gwN_t b2 e2, fun zs K_ E_ mc ms c tt f hf h hb kk => ?_⟩
            obtain ⟨f, rfl⟩ : ∃ g, f = g + 1 := ⟨f - 1, by omega⟩
            have hm1 := b1.1; have hm2 := b2.1; have hm3 := e1.1; have hm4 := e2.1
            obtain ⟨hb1, hb2⟩ := hb
            refine ru Q p nR nN nd zs K_ E_ mc ms c tt (f + 2) h (fun z1 h1 => ⟨(nR1 - nR) / 4 + nN1 - nN, 24 * nR1 + 2 * nN1 - 24 * nR - 2 * nN, by omega, by omega, ?_⟩)
            refine b5 z1 _ _ _ _ h1 ⟨by omega, by omega⟩ (fun z2 h2 => after Q p nR1 nN1 nd1 z2 (fun r_21 z3 => vl_M_call_79 vA vF mc ms K_ E_ (f + 2) p r_21 z3 (c + ((nR1 - nR) / 4 + nN1 - nN)) (tt + (24 * nR1 + 2 * nN1 - 24 * nR - 2 * nN))) b3 h2 (fun r z3 hr h3 => ?_))
            rcases hr with ⟨rfl, _⟩ | ⟨_, q⟩
            · exact e5 z3 K_ E_ mc ms _ _ f (by omega) h3 ⟨by omega, by omega⟩ kk
            · exact absurd h44 q
      · have e44 : ∀ p f N', gWholesL gS so nT p 59 f (j1, false, nI d, N') = (j1, false, nI d, N') := by
          intro p f N'
          cases f with
          | zero => rfl
          | succ f =>
            have hj1 : ¬ psS so (j1, false, nI d, N') = 44 := h44
            show (if psS so (j1, false, nI d, N') = 44 then _ else _) = _
            rw [if_neg hj1]
        refine Or.inl ⟨j1, m1, rn1, _, _, by omega, c2, by omega, by omega, Fo_tree c5 59, h44, fun p f N hf => ?_, fun Q p nR nN nd hQ hQR hR0 hnd => ?_⟩
        · refine ⟨?_, fun hN => ?_⟩
          · obtain ⟨N1, e1⟩ := (cls p N).1
            rw [e1, e44]; exact ⟨_, rfl⟩
          · rw [(cls p N).2 hN, e44]
        · obtain ⟨nR1, nN1, nd1, b1, b2, b3, b4, b5⟩ := c7 Q p nR nN nd (by omega) hQR hR0 (by omega)
          refine ⟨nR1, nN1, nd1, b1, b2, b3, b4, fun zs K_ E_ mc ms c tt f hf h hb kk => ?_⟩
          have hm1 := b1.1; have hm2 := b2.1
          obtain ⟨hb1, hb2⟩ := hb
          refine ru Q p nR nN nd zs K_ E_ mc ms c tt (f + 1) h (fun z1 h1 => ⟨(nR1 - nR) / 4 + nN1 - nN, 24 * nR1 + 2 * nN1 - 24 * nR - 2 * nN, by omega, by omega, ?_⟩)
          refine b5 z1 _ _ _ _ h1 ⟨by omega, by omega⟩ (fun z2 h2 => after Q p nR1 nN1 nd1 z2 (fun r_21 z3 => vl_M_call_79 vA vF mc ms K_ E_ (f + 1) p r_21 z3 (c + ((nR1 - nR) / 4 + nN1 - nN)) (tt + (24 * nR1 + 2 * nN1 - 24 * nR - 2 * nN))) b3 h2 (fun r z3 hr h3 => ?_))
          rcases hr with ⟨_, q⟩ | ⟨rfl, _⟩
          · exact absurd q h44
          · exact ⟨fun _ => kk z3 _ _ h3, fun q => absurd rfl q⟩
    · refine Or.inr ⟨j1, by omega, c2, fun p f N hf => ?_, fun Q p nR nN nd hQ hQR hR0 hnd => ?_⟩
      · obtain ⟨d1, N1, e1⟩ := c3 p 59 N
        have e1' : gWhole gS nT p 59 (j + 1, false, nI d, N) = (j1, true, d1, N1) := e1
        rw [e1']
        exact ff_wholesL f j1 d1 N1
      · obtain ⟨nR1, nN1, b1, b2, b5⟩ := c4 Q p nR nN nd (by omega) hQR hR0 (by omega)
        refine ⟨nR1, nN1, b1, b2, fun zs K_ E_ mc ms c tt f hf h hb kk => ?_⟩
        have hm1 := b1.1; have hm2 := b2.1
        obtain ⟨hb1, hb2⟩ := hb
        exact ru Q p nR nN nd zs K_ E_ mc ms c tt (f + 1) h (fun z1 h1 => ⟨(nR1 - nR) / 4 + nN1 - nN, 24 * nR1 + 2 * nN1 - 24 * nR - 2 * nN, by omega, by omega, b5 z1 _ _ _ _ h1 ⟨by omega, by omega⟩ kk⟩)
def JC (t : FN) (n nTp : Nat) (so : FN) (W nT : Nat) (g : GO) (v : (RS → Prop) → (RS → Prop) → Nat → Nat → Int32 → RS → Nat → Nat → Prop) (j d : Nat) : Prop :=
  (∃ (j' m rn : Nat) (L : LF2) (R : RF2), j < j' ∧ j' < W ∧ m + j ≤ j' ∧ rn + 4 * j ≤ 4 * j' ∧ Fo W m rn L R ∧
    (∀ (p : Int32) (N : List pNd), (∃ N', g p (j, false, nI (d + 1), N) = (j', false, nI d, N')) ∧ (N.length + m ≤ nT → g p (j, false, nI (d + 1), N) = (j', false, nI d, N ++ L N.length p))) ∧
    (∀ (Q : List pRw) (p : Int32) (nR nN nd : Nat), Q.length ≤ 4 * j → Q.length ≤ nR → 1 ≤ nR ∧ nR % 4 = 0 → nd ≤ sbN t n j → ∃ nR' nN' nd' : Nat, gwR W nR nR' ∧ gwN n nN nN' ∧ Q.length + rn ≤ nR' ∧ nd' ≤ sbN t n j' ∧
      ∀ zs K_ E_ mc ms c tt, RP t n nTp so Q nR nN nd (d + 1) j zs → budC nR nN nR' nN' mc ms c tt → (∀ z', RP t n nTp so (Q ++ R Q.length p) nR' nN' nd' d j' z' → K_ z') → v K_ E_ mc ms p zs c tt)) ∨
  (∃ j', j ≤ j' ∧ j' < W ∧ (∀ (p : Int32) (N : List pNd), ∃ d' N', g p (j, false, nI (d + 1), N) = (j', true, d', N')) ∧
    (∀ (Q : List pRw) (p : Int32) (nR nN nd : Nat), Q.length ≤ 4 * j → Q.length ≤ nR → 1 ≤ nR ∧ nR % 4 = 0 → nd ≤ sbN t n j → ∃ nR' nN' : Nat, gwR W nR nR' ∧ gwN n nN nN' ∧
      ∀ zs K_ E_ mc ms c tt, RP t n nTp so Q nR nN nd (d + 1) j zs → budC nR nN nR' nN' mc ms c tt → (∀ z', RF t n nTp so nR' nN' j' z' → E_ z') → v K_ E_ mc ms p zs c tt))
theorem J_c68 {t : FN} {n nTp : Nat} {so : FN} {W nT : Nat} (hW : rW t n nTp so W) {gS : G3} {vA vF : VR} {d : Nat}
    (hH : ∀ i, i < W → JX t n nTp so W nT (fun p s st => gWhole gS nT p s st) (fun mc ms zs p K E => vc_M_whole mc ms zs p K E) i (d + 1) 0 1) {j : Nat} (hj : j < W) :
    JC t n nTp so W nT (fun p st => gCall2 gS so W nT p st) (fun K_ E_ mc ms p zs c tt => vj_M_call_68 vA vF mc ms K_ E_ p zs c tt) j d := by
  have w := tk_so hW hj
  have hb1 := psb_b t n j
  have hb2 := sb_n t n j
  by_cases h59 : so j = 59
  · have a1 := tk_go hW hj h59 (by decide) (by decide)
    have eg : ∀ p N, gCall2 gS so W nT p (j, false, nI (d + 1), N) = gClose so 41 (gWholesL gS so nT p 59 W (gWhole gS nT p 59 (j + 1, false, nI (d + 1), N))) := by
      intro p N; unfold gCall2; rw [ps_g, if_pos h59]; rfl
    have ru : ∀ (Q : List pRw) (p : Int32) (nR nN nd : Nat) zs K_ E_ mc ms c tt, RP t n nTp so Q nR nN nd (d + 1) j zs → (∃ n_, vl_M_call_79 vA vF mc ms K_ E_ n_ p 1 zs c tt) → vj_M_call_68 vA vF mc ms K_ E_ p zs c tt := by
      intro Q p nR nN nd zs K_ E_ mc ms c tt h hv
      exact q_is hW hj h.1.1.1 h.1.1.2.1 h.2.1 sg_in.2.2.2.2.2.2.2.2.1 (fun _ => ⟨fun q => absurd q (by decide), fun _ => hv⟩) (fun q => absurd h59 q)
    rcases J_W9 (vA := vA) (vF := vF) hW hH W j a1 (by omega) with ⟨j2, m, rn, L, R, d1, d2, d3, d4, d5, d8, d9, d10⟩ | ⟨j2, d1, d2, d4, d5⟩
    · have hb5 := psb_b t n j2
      have hb6 := sb_n t n j2
      by_cases h41 : so j2 = 41
      · have a3 := tk_go hW d2 h41 (by decide) (by decide)
        refine Or.inl ⟨j2 + 1, m, rn, L, R, by omega, a3, by omega, by omega, d5, fun p N => ?_, fun Q p nR nN nd hQ hQR hR0 hnd => ?_⟩
        · show (∃ N', gCall2 gS so W nT p (j, false, nI (d + 1), N) = _) ∧ (_ → gCall2 gS so W nT p (j, false, nI (d + 1), N) = _)
          rw [eg]
          refine ⟨?_, fun hN => ?_⟩
          · obtain ⟨N1, e1⟩ := (d9 p W N (by omega)).1
            rw [e1, g_close h41]; exact ⟨_, rfl⟩
          · rw [(d9 p W N (by omega)).2 hN, g_close h41]
        · obtain ⟨nR', nN', nd', b1, b2, b3, b4, b5⟩ := d10 Q p nR nN nd hQ hQR hR0 hnd
          exact ⟨nR', nN', nd', b1, b2, b3, by omega, fun zs K_ E_ mc ms c tt h hb kk => ru Q p nR nN nd zs K_ E_ mc ms c tt h ⟨W + 2, b5 zs K_ E_ mc ms c tt W (by omega) h hb (fun z' c' t' h' => q_shut hW d2 sg_in.2.1 h' (fun _ z2 h2 => kk z2 h2) (fun q => absurd h41 q))⟩⟩
      · refine Or.inr ⟨j2, by omega, d2, fun p N => ?_, fun Q p nR nN nd hQ hQR hR0 hnd => ?_⟩
        · show ∃ d' N', gCall2 gS so W nT p (j, false, nI (d + 1), N) = _
          obtain ⟨N1, e1⟩ := (d9 p W N (by omega)).1
          rw [eg, e1, g_closeN h41]; exact ⟨_, _, rfl⟩
        · obtain ⟨nR', nN', nd', b1, b2, b3, b4, b5⟩ := d10 Q p nR nN nd hQ hQR hR0 hnd
          exact ⟨nR', nN', b1, b2, fun zs K_ E_ mc ms c tt h hb kk => ru Q p nR nN nd zs K_ E_ mc ms c tt h ⟨W + 2, b5 zs K_ E_ mc ms c tt W (by omega) h hb (fun z' c' t' h' => q_shut hW d2 sg_in.2.1 h' (fun q => absurd q h41) (fun _ z2 h2 => kk z2 h2))⟩⟩
    · refine Or.inr ⟨j2, d1, d2, fun p N => ?_, fun Q p nR nN nd hQ hQR hR0 hnd => ?_⟩
      · show ∃ d' N', gCall2 gS so W nT p (j, false, nI (d + 1), N) = _
        obtain ⟨d3, N3, e3⟩ := d4 p W N (by omega)
        rw [eg, e3]
        exact ff_close (by decide) j2 d3 N3
      · obtain ⟨nR', nN', b1, b2, b5⟩ := d5 Q p nR nN nd hQ hQR hR0 hnd
        exact ⟨nR', nN', b1, b2, fun zs K_ E_ mc ms c tt h hb kk => ru Q p nR nN nd zs K_ E_ mc ms c tt h ⟨W + 2, b5 zs K_ E_ mc ms c tt W (by omega) h hb kk⟩⟩
  · have eg : ∀ p N, gCall2 gS so W nT p (j, false, nI (d + 1), N) = gClose so 41 (j, false, nI (d + 1), N) := by
      intro p N; unfold gCall2; rw [ps_g, if_neg h59]
    have ru : ∀ (Q : List pRw) (p : Int32) (nR nN nd : Nat) zs K_ E_ mc ms c tt, RP t n nTp so Q nR nN nd (d + 1) j zs → vj_M_call_111 vA vF mc ms K_ E_ zs c tt → vj_M_call_68 vA vF mc ms K_ E_ p zs c tt := by
      intro Q p nR nN nd zs K_ E_ mc ms c tt h hv
      exact q_is hW hj h.1.1.1 h.1.1.2.1 h.2.1 sg_in.2.2.2.2.2.2.2.2.1 (fun q => absurd q h59) (fun _ => ⟨fun _ => hv, fun q => absurd rfl q⟩)
    by_cases h41 : so j = 41
    · have a3 := tk_go hW hj h41 (by decide) (by decide)
      refine Or.inl ⟨j + 1, 0, 0, _, _, by omega, a3, by omega, by omega, Fo_nil, fun p N => ?_, fun Q p nR nN nd hQ hQR hR0 hnd => ?_⟩
      · show (∃ N', gCall2 gS so W nT p (j, false, nI (d + 1), N) = _) ∧ (_ → gCall2 gS so W nT p (j, false, nI (d + 1), N) = _)
        rw [eg, g_close h41]
        exact ⟨⟨N, rfl⟩, fun _ => by rw [List.append_nil]⟩
      · exact ⟨nR, nN, nd, gwR_r W nR, gwN_r n nN, hQR, by omega, fun zs K_ E_ mc ms c tt h hb kk => ru Q p nR nN nd zs K_ E_ mc ms c tt h (q_shut hW hj sg_in.2.1 h (fun _ z2 h2 => kk z2 (by rw [List.append_nil]; exact h2)) (fun q => absurd h41 q))⟩
    · refine Or.inr ⟨j, by omega, hj, fun p N => ?_, fun Q p nR nN nd hQ hQR hR0 hnd => ?_⟩
      · show ∃ d' N', gCall2 gS so W nT p (j, false, nI (d + 1), N) = _
        rw [eg, g_closeN h41]; exact ⟨_, _, rfl⟩
      · exact ⟨nR, nN, gwR_r W nR, gwN_r n nN, fun zs K_ E_ mc ms c tt h hb kk => ru Q p nR nN nd zs K_ E_ mc ms c tt h (q_shut hW hj sg_in.2.1 h (fun q => absurd q h41) (fun _ z2 h2 => kk z2 h2))⟩
def CB1 (vA vF : VR) (so : FN) (j : Nat) (K_ E_ : RS → Prop) (mc ms : Nat) (p : Int32) (zs : RS) (c tt : Nat) : Prop :=
  ((so j = 59 ∨ so j = 41) → vj_M_call_68 vA vF mc ms K_ E_ p zs c tt) ∧ (¬ (so j = 59 ∨ so j = 41) → ∃ c1 s1 : Nat, c + c1 ≤ mc ∧ tt + s1 ≤ ms ∧ (vc_M_argument vA vF c1 s1 zs p (fun z => ∃ n_, vl_M_call_47 vA vF mc ms K_ E_ n_ p z (c + c1) (tt + s1)) E_))
theorem J_c1 {t : FN} {n nTp : Nat} {so : FN} {W nT : Nat} (hW : rW t n nTp so W) {gS : G3} (hff : ff3 gS) {vA vF : VR} {d : Nat}
    (hH : ∀ i, i < W → JX t n nTp so W nT (fun p s st => gWhole gS nT p s st) (fun mc ms zs p K E => vc_M_whole mc ms zs p K E) i (d + 1) 0 1)
    (hA : ∀ i, i < W → JOV t n nTp so W nT (fun p st => gArg gS so W nT p st) (fun mc ms zs p K E => vc_M_argument vA vF mc ms zs p K E) i (d + 1) 0 0) {j : Nat} (hj : j < W) :
    JC t n nTp so W nT (fun p st => gCall1 gS so W nT p st) (fun K_ E_ mc ms p zs c tt => CB1 vA vF so j K_ E_ mc ms p zs c tt) j d := by
  by_cases hs : so j = 59 ∨ so j = 41
  · have eg : ∀ p N, gCall1 gS so W nT p (j, false, nI (d + 1), N) = gCall2 gS so W nT p (j, false, nI (d + 1), N) := by
      intro p N; unfold gCall1; rw [ps_g, if_pos hs]
    rcases J_c68 (vA := vA) (vF := vF) hW hH hj with ⟨j', m, rn, L, R, c1, c2, c3, c4, c5, c6, c7⟩ | ⟨j', c1, c2, c3, c4⟩
    · refine Or.inl ⟨j', m, rn, L, R, c1, c2, c3, c4, c5, fun p N => ?_, fun Q p nR nN nd hQ hQR hR0 hnd => ?_⟩
      · show (∃ N', gCall1 gS so W nT p (j, false, nI (d + 1), N) = _) ∧ (_ → gCall1 gS so W nT p (j, false, nI (d + 1), N) = _)
        rw [eg]; exact c6 p N
      · obtain ⟨nR', nN', nd', b1, b2, b3, b4, b5⟩ := c7 Q p nR nN nd hQ hQR hR0 hnd
        exact ⟨nR', nN', nd', b1, b2, b3, b4, fun zs K_ E_ mc ms c tt h hb kk => ⟨fun _ => b5 zs K_ E_ mc ms c tt h hb kk, fun q => absurd hs q⟩⟩
    · refine Or.inr ⟨j', c1, c2, fun p N => ?_, fun Q p nR nN nd hQ hQR hR0 hnd => ?_⟩
      · show ∃ d' N', gCall1 gS so W nT p (j, false, nI (d + 1), N) = _
        rw [eg]; exact c3 p N
      · obtain ⟨nR', nN', b1, b2, b5⟩ := c4 Q p nR nN nd hQ hQR hR0 hnd
        exact ⟨nR', nN', b1, b2, fun zs K_ E_ mc ms c tt h hb kk => ⟨fun _ => b5 zs K_ E_ mc ms c tt h hb kk, fun q => absurd hs q⟩⟩
  · have eg : ∀ p N, gCall1 gS so W nT p (j, false, nI (d + 1), N) = gCall2 gS so W nT p (gArgsL gS so W nT p W (j, false, nI (d + 1), N)) := by
      intro p N; unfold gCall1; rw [ps_g, if_neg hs]
    rcases J_AL hW hff hA W j hj (by omega) with ⟨j1, m1, rn1, L1, R1, c1, c2, c3, c4, c5, c8, c6, c7⟩ | ⟨j1, c1, c2, c3, c4⟩
    · have hl1 := And.intro c5.1 c5.2.1
      rcases J_c68 (vA := vA) (vF := vF) hW hH c2 with ⟨j', m, rn, L, R, d1, d2, d3, d4, d5, d6, d7⟩ | ⟨j', d1, d2, d3, d4⟩
      · refine Or.inl ⟨j', m1 + m, rn1 + rn, _, _, by omega, d2, by omega, by omega, Fo_app c5 d5, fun p N => ?_, fun Q p nR nN nd hQ hQR hR0 hnd => ?_⟩
        · show (∃ N', gCall1 gS so W nT p (j, false, nI (d + 1), N) = _) ∧ (_ → gCall1 gS so W nT p (j, false, nI (d + 1), N) = _)
          rw [eg]
          refine ⟨?_, fun hN => ?_⟩
          · obtain ⟨N1, e1⟩ := (c6 p W N (by omega)).1
            rw [e1]; exact (d6 p N1).1
          · rw [(c6 p W N (by omega)).2 (by omega)]
            have := (d6 p (N ++ L1 N.length p)).2 (by rw [List.length_append, hl1.1]; omega)
            refine Eq.trans this ?_
            rw [List.length_append, hl1.1, List.append_assoc]
        · obtain ⟨nR1, nN1, nd1, b1, b2, b3, b4, b5⟩ := c7 Q p nR nN nd hQ hQR hR0 hnd
          have hlen : (Q ++ R1 Q.length p).length = Q.length + rn1 := by rw [List.length_append, hl1.2]
          obtain ⟨nR2, nN2, nd2, e1, e2, e3, e4, e5⟩ := d7 (Q ++ R1 Q.length p) p nR1 nN1 nd1 (by omega) (by omega) (by have := b1.1; omega) b4
          refine ⟨nR2, nN2, nd2, gwR_t b1 e1, gwN_t b2 e2, by omega, e4, fun zs K_ E_ mc ms c tt h hb kk => ⟨fun q => absurd q hs, fun _ => ?_⟩⟩
          have hm1 := b1.1; have hm2 := b2.1; have hm3 := e1.1; have hm4 := e2.1
          obtain ⟨hb1, hb2⟩ := hb
          refine b5 zs K_ E_ mc ms c tt W (fun z c t => ∃ n_, vl_M_call_47 vA vF mc ms K_ E_ n_ p z c t) (by omega) h ⟨by omega, by omega⟩ (fun z c' t' q => ⟨W + 1, q⟩) (fun z2 c' t' h2 hc2 => ?_)
          obtain ⟨g1, g2⟩ := hc2
          refine e5 z2 K_ E_ mc ms c' t' h2 ⟨by omega, by omega⟩ (fun z4 h4 => kk z4 ?_)
          rw [hlen, List.append_assoc] at h4
          exact h4
      · refine Or.inr ⟨j', by omega, d2, fun p N => ?_, fun Q p nR nN nd hQ hQR hR0 hnd => ?_⟩
        · show ∃ d' N', gCall1 gS so W nT p (j, false, nI (d + 1), N) = _
          obtain ⟨N1, e1⟩ := (c6 p W N (by omega)).1
          rw [eg, e1]; exact d3 p N1
        · obtain ⟨nR1, nN1, nd1, b1, b2, b3, b4, b5⟩ := c7 Q p nR nN nd hQ hQR hR0 hnd
          have hlen : (Q ++ R1 Q.length p).length = Q.length + rn1 := by rw [List.length_append, hl1.2]
          obtain ⟨nR2, nN2, e1, e2, e5⟩ := d4 (Q ++ R1 Q.length p) p nR1 nN1 nd1 (by omega) (by omega) (by have := b1.1; omega) b4
          refine ⟨nR2, nN2, gwR_t b1 e1, gwN_t b2 e2, fun zs K_ E_ mc ms c tt h hb kk => ⟨fun q => absurd q hs, fun _ => ?_⟩⟩
          have hm1 := b1.1; have hm2 := b2.1; have hm3 := e1.1; have hm4 := e2.1
          obtain ⟨hb1, hb2⟩ := hb
          refine b5 zs K_ E_ mc ms c tt W (fun z c t => ∃ n_, vl_M_call_47 vA vF mc ms K_ E_ n_ p z c t) (by omega) h ⟨by omega, by omega⟩ (fun z c' t' q => ⟨W + 1, q⟩) (fun z2 c' t' h2 hc2 => ?_)
          obtain ⟨g1, g2⟩ := hc2
          exact e5 z2 K_ E_ mc ms c' t' h2 ⟨by omega, by omega⟩ kk
    · refine Or.inr ⟨j1, c1, c2, fun p N => ?_, fun Q p nR nN nd hQ hQR hR0 hnd => ?_⟩
      · show ∃ d' N', gCall1 gS so W nT p (j, false, nI (d + 1), N) = _
        obtain ⟨d1, N1, e1⟩ := c3 p W N (by omega)
        rw [eg, e1]
        exact ff_call2 j1 d1 N1
      · obtain ⟨nR1, nN1, b1, b2, b5⟩ := c4 Q p nR nN nd hQ hQR hR0 hnd
        exact ⟨nR1, nN1, b1, b2, fun zs K_ E_ mc ms c tt h hb kk => ⟨fun q => absurd q hs, fun _ => b5 zs K_ E_ mc ms c tt W (fun z c t => ∃ n_, vl_M_call_47 vA vF mc ms K_ E_ n_ p z c t) (by omega) h hb (fun z c' t' q => ⟨W + 1, q⟩) kk⟩⟩
