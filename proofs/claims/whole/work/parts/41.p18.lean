abbrev GO : Type := Int32 → pPS → pPS
def cOk0 (nT : Nat) (g : GO) (j d j' m : Nat) (L : LT3) : Prop := ∀ p N, (∃ N', g p (j, false, nI d, N) = (j', false, nI d, N')) ∧ (N.length + m ≤ nT → g p (j, false, nI d, N) = (j', false, nI d, N ++ L N.length p 0))
def cFl0 (g : GO) (j d j' : Nat) : Prop := ∀ p N, ∃ d' N', g p (j, false, nI d, N) = (j', true, d', N')
def JO (t : FN) (n nTp : Nat) (so : FN) (W nT : Nat) (g : GO) (v : VR) (j d e u : Nat) : Prop :=
  (∃ (j' m rn : Nat) (L : LT3) (R : RT3), j < j' ∧ j' < W ∧ m + j ≤ j' + u ∧ rn + 4 * j ≤ 4 * j' ∧ Tr W m rn L R ∧ cOk0 nT g j d j' m L ∧ rOk t n nTp so W v j d j' rn R e) ∨
  (∃ j', j ≤ j' ∧ j' < W ∧ cFl0 g j d j' ∧ rFl t n nTp so W v j d j' e)
theorem J_shape {t : FN} {n nTp : Nat} {so : FN} {W nT : Nat} (hW : rW t n nTp so W) {gS : G3} (hff : ff3 gS) {d : Nat} (hd : d ≤ 30)
    (hH : d < 30 → ∀ i, i < W → JX t n nTp so W nT (fun p s st => gWhole gS nT p s st) (fun mc ms zs p K E => vc_M_whole mc ms zs p K E) i (d + 1) 0 1) {j : Nat} (hj : j < W) :
    JO t n nTp so W nT (fun p st => gShape gS so W nT p st) (fun mc ms zs p K E => vc_M_shape mc ms zs p K E) j d 0 0 := by
  have w := tk_so hW hj
  have hb1 := psb_b t n j
  have hb2 := sb_n t n j
  have ru : ∀ (Q : List pRw) (p : Int32) (nR nN nd : Nat), Q.length ≤ 4 * j → Q.length ≤ nR → 1 ≤ nR ∧ nR % 4 = 0 → ∀ zs K_ E_ mc ms, RP t n nTp so Q nR nN nd d j zs →
      grR nR Q.length ≤ 4 * mc + nR → 24 * grR nR Q.length ≤ ms + 24 * nR →
      (¬ (so j = 91 ∧ d < 30) → ∀ z', RF t n nTp so (grR nR Q.length) nN j z' → E_ z') →
      (so j = 91 → d < 30 → ∀ z1, RP t n nTp so (Q ++ [(10, j, p, 0, -1, 0, 0)]) (grR nR Q.length) nN nd (d + 1) (j + 1) z1 → vc_M_is z1 93 (fun r_7 => ((¬ r_7 = 0 → (vj_M_shape_51 mc ms K_ E_ (nI Q.length) z1 ((grR nR Q.length - nR) / 4) (24 * (grR nR Q.length - nR)))) ∧ (r_7 = 0 → (∃ c_15 s_16 : Nat, ((grR nR Q.length - nR) / 4) + c_15 ≤ mc ∧ 24 * (grR nR Q.length - nR) + s_16 ≤ ms ∧ (vc_M_whole c_15 s_16 z1 (nI Q.length) (fun r_13 zs_14 => (∃ n_, vl_M_shape_29 mc ms K_ E_ n_ (nI Q.length) zs_14 (((grR nR Q.length - nR) / 4) + c_15) (24 * (grR nR Q.length - nR) + s_16))) (fun zse_32 => (E_ zse_32)))))))) → vc_M_shape mc ms zs p K_ E_ := by
    intro Q p nR nN nd hQ hQR hR0 zs K_ E_ mc ms h hc ht he hv
    have g1 : nR ≤ grR nR Q.length ∧ (grR nR Q.length - nR) % 4 = 0 := by unfold grR; split <;> omega
    refine ⟨(grR nR Q.length - nR) / 4, 24 * (grR nR Q.length - nR), by omega, by omega, q_piece h (by omega) (by omega) (by omega) (fun z1 h1 => ?_)⟩
    rw [Nat.zero_add, Nat.zero_add]
    exact q_open hW hj hd sg_in.2.2.2.2.2.2.2.2.2.2.2.1 h1 (fun a b z2 h2 => hv a b z2 h2) he
  by_cases ho : so j = 91 ∧ d < 30
  · obtain ⟨h91, hd30⟩ := ho
    have a1 := tk_go hW hj h91 (by decide) (by decide)
    have hb3 := psb_b t n (j + 1)
    have hb4 := sb_n t n (j + 1)
    have egE : ∀ p N, ∃ N', gShape gS so W nT p (j, false, nI d, N) = gShape1 gS so W nT (gR nT (j, false, nI d, N)) (j + 1, false, nI (d + 1), N') := by
      intro p N
      obtain ⟨N1, e⟩ := g_addE (nT := nT) (k := 10) (p := p) (s := 0) (j := j) (f := false) (d := nI d) (N := N)
      refine ⟨N1, ?_⟩
      unfold gShape
      rw [e, g_open h91 hd30]
    have eg : ∀ p N, N.length < nT → gShape gS so W nT p (j, false, nI d, N) = gShape1 gS so W nT (nI N.length) (j + 1, false, nI (d + 1), N ++ [(10, j, p, 0, -1)]) := by
      intro p N hN
      unfold gShape
      rw [g_add hN, g_R hN, g_open h91 hd30]
    by_cases h93 : so (j + 1) = 93
    · have a2 := tk_go hW a1 h93 (by decide) (by decide)
      have e1 : ∀ r N, gShape1 gS so W nT r (j + 1, false, nI (d + 1), N) = (j + 2, false, nI d, N) := by
        intro r N
        unfold gShape1
        rw [ps_g, if_pos h93, g_close h93]
      refine Or.inl ⟨j + 2, 1, 1, _, _, by omega, a2, by omega, by omega, Tr_leaf 10 j (-1) 0 rfl (by omega), fun p N => ⟨?_, fun hN => ?_⟩, fun Q p nR nN nd hQ hQR hR0 hnd => ?_⟩
      · obtain ⟨N', e⟩ := egE p N
        exact ⟨N', e.trans (e1 _ _)⟩
      · show gShape gS so W nT p (j, false, nI d, N) = _
        rw [eg p N (by omega), e1]
      · obtain ⟨g1, g2⟩ := gwR_g (W := W) hR0 hQR (by omega)
        refine ⟨grR nR Q.length, nN, nd, g1, gwN_r n nN, g2, by show nd ≤ sbN t n (j + 1 + 1); omega, fun zs K_ E_ mc ms h hb kk => ?_⟩
        obtain ⟨hb1, hb2⟩ := hb
        refine ru Q p nR nN nd (by omega) hQR hR0 zs K_ E_ mc ms h (by omega) (by omega) (fun q => absurd ⟨h91, hd30⟩ q) (fun _ _ z1 h1 => ?_)
        exact q_is hW a1 h1.1.1.1 h1.1.1.2.1 h1.2.1 sg_in.2.2.2.2.2.2.2.2.2.2.2.2.1 (fun _ => ⟨fun _ => q_shut hW a1 sg_in.2.2.2.2.2.2.2.2.2.2.2.2.1 h1 (fun _ z2 h2 => kk z2 h2) (fun q => absurd h93 q), fun q => absurd q (by decide)⟩) (fun q => absurd h93 q)
    · have e1 : ∀ r N, gShape1 gS so W nT r (j + 1, false, nI (d + 1), N) = gClose so 93 (gWholesL gS so nT r 0 W (gWhole gS nT r 0 (j + 1, false, nI (d + 1), N))) := by
        intro r N
        unfold gShape1
        rw [ps_g, if_neg h93]
        rfl
      have hH' := hH hd30
      rcases hH' (j + 1) a1 with ⟨j1, m1, rn1, L1, R1, c1, c2, c3, c4, c5, c6, c7⟩ | ⟨j1, c1, c2, c3, c4⟩
      · have cls : ∀ p N, (∃ N', gWhole gS nT p 0 (j + 1, false, nI (d + 1), N) = (j1, false, nI (d + 1), N')) ∧ (N.length + m1 ≤ nT → gWhole gS nT p 0 (j + 1, false, nI (d + 1), N) = (j1, false, nI (d + 1), N ++ L1 N.length p 0)) := fun p N => c6 p 0 N
        have hl1 := Tr_len c5
        rcases J_S1 hW hH' W j1 c2 (by omega) with ⟨j2, m, rn, L, R, d1, d2, d3, d4, d5, d8, d9, d10⟩ | ⟨j2, d1, d2, d4, d5⟩
        · have clsE : ∀ p N, ∃ N', gShape gS so W nT p (j, false, nI d, N) = gClose so 93 (j2, false, nI (d + 1), N') := by
            intro p N
            obtain ⟨N1, e⟩ := egE p N
            obtain ⟨N2, e2⟩ := (cls (gR nT (j, false, nI d, N)) N1).1
            obtain ⟨N3, e3⟩ := (d9 (gR nT (j, false, nI d, N)) W N2 (by omega)).1
            exact ⟨N3, by rw [e, e1, e2, e3]⟩
          have refr : ∀ (Q : List pRw) (p : Int32) (nR nN nd : Nat), Q.length ≤ 4 * j + 0 → Q.length ≤ nR → 1 ≤ nR ∧ nR % 4 = 0 → nd ≤ sbN t n j → ∃ nR' nN' nd' : Nat, gwR W nR nR' ∧ gwN n nN nN' ∧ Q.length + (rn1 + rn + 1) ≤ nR' ∧ nd' ≤ sbN t n j2 ∧
              ∀ zs K_ E_ mc ms, RP t n nTp so Q nR nN nd d j zs → bud nR nN nR' nN' mc ms → (∀ z' c' t', RP t n nTp so (Q ++ (10, j, p, 0, -1, 0, 0) :: (R1 (Q.length + 1) (nI Q.length) 0 ++ R (Q.length + 1 + rn1) (nI Q.length))) nR' nN' nd' (d + 1) j2 z' → vj_M_shape_51 mc ms K_ E_ (nI Q.length) z' c' t') → vc_M_shape mc ms zs p K_ E_ := by
            intro Q p nR nN nd hQ hQR hR0 hnd
            obtain ⟨g1, g2⟩ := gwR_g (W := W) hR0 hQR (by omega)
            have hlF : (Q ++ [((10 : Int32), j, p, (0 : Int32), (-1 : Int32), 0, 0)]).length = Q.length + 1 := by simp
            obtain ⟨nR1, nN1, nd1, b1, b2, b3, b4, b5⟩ := c7 (Q ++ [(10, j, p, 0, -1, 0, 0)]) (nI Q.length) (grR nR Q.length) nN nd (by omega) (by omega) (by have := g1.1; omega) (by omega)
            have hlen : ((Q ++ [((10 : Int32), j, p, (0 : Int32), (-1 : Int32), 0, 0)]) ++ R1 (Q ++ [((10 : Int32), j, p, (0 : Int32), (-1 : Int32), 0, 0)]).length (nI Q.length) 0).length = Q.length + 1 + rn1 := by rw [List.length_append, hl1.2, hlF]
            obtain ⟨nR2, nN2, nd2, e1, e2, e3, e4, e5⟩ := d10 ((Q ++ [((10 : Int32), j, p, (0 : Int32), (-1 : Int32), 0, 0)]) ++ R1 (Q ++ [((10 : Int32), j, p, (0 : Int32), (-1 : Int32), 0, 0)]).length (nI Q.length) 0) (nI Q.length) nR1 nN1 nd1 (by omega) (by omega) (by have := b1.1; have := g1.1; omega) b4
            refine ⟨nR2, nN2, nd2, gwR_t g1 (gwR_t b1 e1), gwN_t b2 e2, by omega, e4, fun zs K_ E_ mc ms h hb kk => ?_⟩
            have hm0 := g1.1; have hm1 := b1.1; have hm2 := b2.1; have hm3 := e1.1; have hm4 := e2.1
            obtain ⟨hb1, hb2⟩ := hb
            refine ru Q p nR nN nd (by omega) hQR hR0 zs K_ E_ mc ms h (by omega) (by omega) (fun q => absurd ⟨h91, hd30⟩ q) (fun _ _ z1 h1 => ?_)
            refine q_is hW a1 h1.1.1.1 h1.1.1.2.1 h1.2.1 sg_in.2.2.2.2.2.2.2.2.2.2.2.2.1 (fun q => absurd q h93) (fun _ => ⟨fun q => absurd rfl q, fun _ => ⟨(nR1 - grR nR Q.length) / 4 + nN1 - nN, 24 * nR1 + 2 * nN1 - 24 * grR nR Q.length - 2 * nN, by omega, by omega, ?_⟩⟩)
            refine b5 z1 _ _ _ _ h1 ⟨by omega, by omega⟩ (fun z2 h2 => ⟨W + 1, ?_⟩)
            refine e5 z2 K_ E_ mc ms _ _ W (by omega) h2 ⟨by omega, by omega⟩ (fun z4 c' t' h4 => kk z4 c' t' ?_)
            rw [hlen, hlF, List.append_assoc, List.append_assoc] at h4
            exact h4
          by_cases h932 : so j2 = 93
          · have a3 := tk_go hW d2 h932 (by decide) (by decide)
            have hb5 := psb_b t n j2
            have hb6 := sb_n t n j2
            refine Or.inl ⟨j2 + 1, m1 + m + 1, rn1 + rn + 1, _, _, by omega, a3, by omega, by omega, Tr_node (Fo_app (Fo_tree c5 0) d5) 10 j (-1) 0 0 (by decide) rfl (by omega), fun p N => ⟨?_, fun hN => ?_⟩, fun Q p nR nN nd hQ hQR hR0 hnd => ?_⟩
            · obtain ⟨N', e⟩ := clsE p N
              exact ⟨N', e.trans (g_close h932)⟩
            · show gShape gS so W nT p (j, false, nI d, N) = _
              rw [eg p N (by omega), e1, (cls _ _).2 (by simp only [List.length_append, List.length_cons, List.length_nil]; omega), (d9 _ W _ (by omega)).2 (by simp only [List.length_append, List.length_cons, List.length_nil, hl1.1]; omega), g_close h932]
              simp only [List.length_append, List.length_cons, List.length_nil, hl1.1, List.append_assoc, List.cons_append, List.nil_append, Nat.zero_add]
              rw [show N.length + (m1 + 1) = N.length + 1 + m1 from by omega]
            · obtain ⟨nR', nN', nd', b1, b2, b3, b4, b5⟩ := refr Q p nR nN nd hQ hQR hR0 hnd
              exact ⟨nR', nN', nd', b1, b2, b3, by omega, fun zs K_ E_ mc ms h hb kk => b5 zs K_ E_ mc ms h hb (fun z' c' t' h' => q_shut hW d2 sg_in.2.2.2.2.2.2.2.2.2.2.2.2.1 h' (fun _ z2 h2 => kk z2 h2) (fun q => absurd h932 q))⟩
          · refine Or.inr ⟨j2, by omega, d2, fun p N => ?_, fun Q p nR nN nd hQ hQR hR0 hnd => ?_⟩
            · obtain ⟨N', e⟩ := clsE p N
              exact ⟨_, N', e.trans (g_closeN h932)⟩
            · obtain ⟨nR', nN', nd', b1, b2, b3, b4, b5⟩ := refr Q p nR nN nd hQ hQR hR0 hnd
              exact ⟨nR', nN', b1, b2, fun zs K_ E_ mc ms h hb kk => b5 zs K_ E_ mc ms h hb (fun z' c' t' h' => q_shut hW d2 sg_in.2.2.2.2.2.2.2.2.2.2.2.2.1 h' (fun q => absurd q h932) (fun _ z2 h2 => kk z2 h2))⟩
        · refine Or.inr ⟨j2, by omega, d2, fun p N => ?_, fun Q p nR nN nd hQ hQR hR0 hnd => ?_⟩
          · obtain ⟨N1, e⟩ := egE p N
            obtain ⟨N2, e2⟩ := (cls (gR nT (j, false, nI d, N)) N1).1
            obtain ⟨d3, N3, e3⟩ := d4 (gR nT (j, false, nI d, N)) W N2 (by omega)
            show ∃ d' N', gShape gS so W nT p (j, false, nI d, N) = _
            rw [e, e1, e2, e3]
            exact ff_close (by decide) j2 d3 N3
          · obtain ⟨g1, g2⟩ := gwR_g (W := W) hR0 hQR (by omega)
            have hlF : (Q ++ [((10 : Int32), j, p, (0 : Int32), (-1 : Int32), 0, 0)]).length = Q.length + 1 := by simp
            obtain ⟨nR1, nN1, nd1, b1, b2, b3, b4, b5⟩ := c7 (Q ++ [(10, j, p, 0, -1, 0, 0)]) (nI Q.length) (grR nR Q.length) nN nd (by omega) (by omega) (by have := g1.1; omega) (by omega)
            have hlen : ((Q ++ [((10 : Int32), j, p, (0 : Int32), (-1 : Int32), 0, 0)]) ++ R1 (Q ++ [((10 : Int32), j, p, (0 : Int32), (-1 : Int32), 0, 0)]).length (nI Q.length) 0).length = Q.length + 1 + rn1 := by rw [List.length_append, hl1.2, hlF]
            obtain ⟨nR2, nN2, e1, e2, e5⟩ := d5 ((Q ++ [((10 : Int32), j, p, (0 : Int32), (-1 : Int32), 0, 0)]) ++ R1 (Q ++ [((10 : Int32), j, p, (0 : Int32), (-1 : Int32), 0, 0)]).length (nI Q.length) 0) (nI Q.length) nR1 nN1 nd1 (by omega) (by omega) (by have := b1.1; have := g1.1; omega) b4
            refine ⟨nR2, nN2, gwR_t g1 (gwR_t b1 e1), gwN_t b2 e2, fun zs K_ E_ mc ms h hb kk => ?_⟩
            have hm0 := g1.1; have hm1 := b1.1; have hm2 := b2.1; have hm3 := e1.1; have hm4 := e2.1
            obtain ⟨hb1, hb2⟩ := hb
            refine ru Q p nR nN nd (by omega) hQR hR0 zs K_ E_ mc ms h (by omega) (by omega) (fun q => absurd ⟨h91, hd30⟩ q) (fun _ _ z1 h1 => ?_)
            refine q_is hW a1 h1.1.1.1 h1.1.1.2.1 h1.2.1 sg_in.2.2.2.2.2.2.2.2.2.2.2.2.1 (fun q => absurd q h93) (fun _ => ⟨fun q => absurd rfl q, fun _ => ⟨(nR1 - grR nR Q.length) / 4 + nN1 - nN, 24 * nR1 + 2 * nN1 - 24 * grR nR Q.length - 2 * nN, by omega, by omega, ?_⟩⟩)
            refine b5 z1 _ _ _ _ h1 ⟨by omega, by omega⟩ (fun z2 h2 => ⟨W + 1, ?_⟩)
            exact e5 z2 K_ E_ mc ms _ _ W (by omega) h2 ⟨by omega, by omega⟩ kk
      · refine Or.inr ⟨j1, by omega, c2, fun p N => ?_, fun Q p nR nN nd hQ hQR hR0 hnd => ?_⟩
        · obtain ⟨N1, e⟩ := egE p N
          obtain ⟨d3, N3, e3⟩ := c3 (gR nT (j, false, nI d, N)) 0 N1
          have e3' : gWhole gS nT (gR nT (j, false, nI d, N)) 0 (j + 1, false, nI (d + 1), N1) = (j1, true, d3, N3) := e3
          show ∃ d' N', gShape gS so W nT p (j, false, nI d, N) = _
          rw [e, e1, e3']
          exact ff_c (f := gWholesL gS so nT (gR nT (j, false, nI d, N)) 0 W) (g := gClose so 93) (ff_wholesL W) (ff_close (by decide)) j1 d3 N3
        · obtain ⟨g1, g2⟩ := gwR_g (W := W) hR0 hQR (by omega)
          have hlF : (Q ++ [((10 : Int32), j, p, (0 : Int32), (-1 : Int32), 0, 0)]).length = Q.length + 1 := by simp
          obtain ⟨nR1, nN1, b1, b2, b5⟩ := c4 (Q ++ [(10, j, p, 0, -1, 0, 0)]) (nI Q.length) (grR nR Q.length) nN nd (by omega) (by omega) (by have := g1.1; omega) (by omega)
          refine ⟨nR1, nN1, gwR_t g1 b1, b2, fun zs K_ E_ mc ms h hb kk => ?_⟩
          have hm0 := g1.1; have hm1 := b1.1; have hm2 := b2.1
          obtain ⟨hb1, hb2⟩ := hb
          refine ru Q p nR nN nd (by omega) hQR hR0 zs K_ E_ mc ms h (by omega) (by omega) (fun q => absurd ⟨h91, hd30⟩ q) (fun _ _ z1 h1 => ?_)
          exact q_is hW a1 h1.1.1.1 h1.1.1.2.1 h1.2.1 sg_in.2.2.2.2.2.2.2.2.2.2.2.2.1 (fun q => absurd q h93) (fun _ => ⟨fun q => absurd rfl q, fun _ => ⟨(nR1 - grR nR Q.length) / 4 + nN1 - nN, 24 * nR1 + 2 * nN1 - 24 * grR nR Q.length - 2 * nN, by omega, by omega, b5 z1 _ _ _ _ h1 ⟨by omega, by omega⟩ kk⟩⟩)
  · refine Or.inr ⟨j, by omega, hj, fun p N => ?_, fun Q p nR nN nd hQ hQR hR0 hnd => ?_⟩
    · obtain ⟨N1, e⟩ := g_addE (nT := nT) (k := 10) (p := p) (s := 0) (j := j) (f := false) (d := nI d) (N := N)
      show ∃ d' N', gShape1 gS so W nT (gR nT (j, false, nI d, N)) (gOpen so 91 (gAdd nT 10 p 0 (j, false, nI d, N))) = _
      rw [e, g_openN hd ho]
      exact ff_shape1 hff j (nI d) N1
    · obtain ⟨g1, g2⟩ := gwR_g (W := W) hR0 hQR (by omega)
      refine ⟨grR nR Q.length, nN, g1, gwN_r n nN, fun zs K_ E_ mc ms h hb kk => ?_⟩
      obtain ⟨hb1, hb2⟩ := hb
      exact ru Q p nR nN nd (by omega) hQR hR0 zs K_ E_ mc ms h (by omega) (by omega) (fun _ => kk) (fun a b => absurd ⟨a, b⟩ ho)
