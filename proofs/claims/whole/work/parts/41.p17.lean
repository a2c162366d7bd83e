def JX (t : FN) (n nTp : Nat) (so : FN) (W nT : Nat) (g : GT) (v : VR) (j d e u : Nat) : Prop :=
  (∃ (j' m rn : Nat) (L : LT3) (R : RT3), j < j' ∧ j' < W ∧ m + j ≤ j' + u ∧ rn + 4 * j ≤ 4 * j' ∧ Tr W m rn L R ∧ cOk nT g j d j' m L ∧ rOk t n nTp so W v j d j' rn R e) ∨
  (∃ j', j ≤ j' ∧ j' < W ∧ cFl g j d j' ∧ rFl t n nTp so W v j d j' e)
theorem Tr_pos {W m rn : Nat} {L : LT3} {R : RT3} (h : Tr W m rn L R) : 1 ≤ m ∧ 1 ≤ rn := by
  obtain ⟨⟨_, _, _, tl, _, g2, _⟩, ⟨_, _, _, _, _, tl', _, g3⟩, _⟩ := h
  have := g2 0; have := g3 0
  exact ⟨by omega, by omega⟩
theorem J_whole {t : FN} {n nTp : Nat} {so : FN} {W nT : Nat} (hW : rW t n nTp so W) {gS : G3} {d : Nat}
    (hT : ∀ i, i < W → JT t n nTp so W nT (fun p s st => gS p s 1 st) (fun mc ms zs p K E => vTx mc ms zs p K E) i d 1 1) {j : Nat} (hj : j < W) :
    JX t n nTp so W nT (fun p s st => gWhole gS nT p s st) (fun mc ms zs p K E => vc_M_whole mc ms zs p K E) j d 0 1 := by
  have w := tk_so hW hj
  have ru : ∀ (Q : List pRw) (p : Int32) (nR nN nd : Nat), Q.length ≤ 4 * j → Q.length ≤ nR → 1 ≤ nR ∧ nR % 4 = 0 → ∀ zs K_ E_ mc ms, RP t n nTp so Q nR nN nd d j zs →
      grR nR Q.length ≤ 4 * mc + nR → 24 * grR nR Q.length ≤ ms + 24 * nR →
      (∀ z1, RP t n nTp so (Q ++ [(11, j, p, 0, -1, 0, 0)]) (grR nR Q.length) nN nd d j z1 → ∃ c_7 s_8 : Nat, ((grR nR Q.length - nR) / 4) + c_7 ≤ mc ∧ 24 * (grR nR Q.length - nR) + s_8 ≤ ms ∧ (vTx c_7 s_8 z1 (nI Q.length) (fun r_5 zs_6 => (K_ (nI Q.length) zs_6)) E_)) → vc_M_whole mc ms zs p K_ E_ := by
    intro Q p nR nN nd hQ hQR hR0 zs K_ E_ mc ms h hc ht hv
    have g1 : nR ≤ grR nR Q.length ∧ (grR nR Q.length - nR) % 4 = 0 := by unfold grR; split <;> omega
    refine ⟨(grR nR Q.length - nR) / 4, 24 * (grR nR Q.length - nR), by omega, by omega, q_piece h (by omega) (by omega) (by omega) (fun z1 h1 => ?_)⟩
    rw [Nat.zero_add, Nat.zero_add]
    exact hv z1 h1
  rcases hT j hj with ⟨j', m, rn, L, R, c1, c2, c3, c4, c5, c6, c7⟩ | ⟨j', c1, c2, c3, c4⟩
  · have cls : ∀ p s N, (∃ N', gS p s 1 (j, false, nI d, N) = (j', false, nI d, N')) ∧ (N.length + m ≤ nT → gS p s 1 (j, false, nI d, N) = (j', false, nI d, N ++ L N.length p s)) := fun p s N => c6 p s N
    refine Or.inl ⟨j', m + 1, rn + 1, _, _, c1, c2, by omega, by omega, Tr_node (Fo_tree c5 0) 11 j (-1) 0 0 (by decide) rfl (by omega), fun p s N => ⟨?_, fun hN => ?_⟩, fun Q p nR nN nd hQ hQR hR0 hnd => ?_⟩
    · obtain ⟨N1, e⟩ := g_addE (nT := nT) (k := 11) (p := p) (s := s) (j := j) (f := false) (d := nI d) (N := N)
      show ∃ N', gS (gR nT (j, false, nI d, N)) 0 1 (gAdd nT 11 p s (j, false, nI d, N)) = _
      rw [e]
      exact (cls _ 0 N1).1
    · show gS (gR nT (j, false, nI d, N)) 0 1 (gAdd nT 11 p s (j, false, nI d, N)) = _
      rw [g_add (by omega), g_R (by omega), (cls _ 0 _).2 (by simp only [List.length_append, List.length_cons, List.length_nil]; omega)]
      simp only [List.length_append, List.length_cons, List.length_nil, List.append_assoc, List.cons_append, List.nil_append]
    · obtain ⟨g1, g2⟩ := gwR_g (W := W) hR0 hQR (by omega)
      have hlF : (Q ++ [((11 : Int32), j, p, (0 : Int32), (-1 : Int32), 0, 0)]).length = Q.length + 1 := by simp
      obtain ⟨nR1, nN1, nd1, b1, b2, b3, b4, b5⟩ := c7 (Q ++ [(11, j, p, 0, -1, 0, 0)]) (nI Q.length) (grR nR Q.length) nN nd (by omega) (by omega) (by have := g1.1; omega) hnd
      refine ⟨nR1, nN1, nd1, gwR_t g1 b1, b2, by omega, b4, fun zs K_ E_ mc ms h hb kk => ?_⟩
      have hm0 := g1.1; have hm1 := b1.1; have hm2 := b2.1
      obtain ⟨hb1, hb2⟩ := hb
      refine ru Q p nR nN nd (by omega) hQR hR0 zs K_ E_ mc ms h (by omega) (by omega) (fun z1 h1 => ⟨(nR1 - grR nR Q.length) / 4 + nN1 - nN, 24 * nR1 + 2 * nN1 - 24 * grR nR Q.length - 2 * nN, by omega, by omega, ?_⟩)
      refine b5 z1 _ _ _ _ h1 ⟨by omega, by omega⟩ (fun z2 h2 => kk z2 ?_)
      rw [hlF, List.append_assoc] at h2
      exact h2
  · refine Or.inr ⟨j', c1, c2, fun p s N => ?_, fun Q p nR nN nd hQ hQR hR0 hnd => ?_⟩
    · obtain ⟨N1, e⟩ := g_addE (nT := nT) (k := 11) (p := p) (s := s) (j := j) (f := false) (d := nI d) (N := N)
      show ∃ d' N', gS (gR nT (j, false, nI d, N)) 0 1 (gAdd nT 11 p s (j, false, nI d, N)) = _
      rw [e]
      exact c3 _ 0 N1
    · obtain ⟨g1, g2⟩ := gwR_g (W := W) hR0 hQR (by omega)
      have hlF : (Q ++ [((11 : Int32), j, p, (0 : Int32), (-1 : Int32), 0, 0)]).length = Q.length + 1 := by simp
      obtain ⟨nR1, nN1, b1, b2, b5⟩ := c4 (Q ++ [(11, j, p, 0, -1, 0, 0)]) (nI Q.length) (grR nR Q.length) nN nd (by omega) (by omega) (by have := g1.1; omega) hnd
      refine ⟨nR1, nN1, gwR_t g1 b1, b2, fun zs K_ E_ mc ms h hb kk => ?_⟩
      have hm0 := g1.1; have hm1 := b1.1; have hm2 := b2.1
      obtain ⟨hb1, hb2⟩ := hb
      exact ru Q p nR nN nd (by omega) hQR hR0 zs K_ E_ mc ms h (by omega) (by omega) (fun z1 h1 => ⟨(nR1 - grR nR Q.length) / 4 + nN1 - nN, 24 * nR1 + 2 * nN1 - 24 * grR nR Q.length - 2 * nN, by omega, by omega, b5 z1 _ _ _ _ h1 ⟨by omega, by omega⟩ kk⟩)
def JS1 (t : FN) (n nTp : Nat) (so : FN) (W nT : Nat) (gS : G3) (j d : Nat) : Prop :=
  (∃ (j' m rn : Nat) (L : LF2) (R : RF2), j ≤ j' ∧ j' < W ∧ m + j ≤ j' ∧ rn + 4 * j ≤ 4 * j' ∧ Fo W m rn L R ∧ so j' ≠ 44 ∧
    (∀ (p : Int32) (f : Nat) (N : List pNd), W ≤ f + j → (∃ N', gWholesL gS so nT p 0 f (j, false, nI d, N) = (j', false, nI d, N')) ∧ (N.length + m ≤ nT → gWholesL gS so nT p 0 f (j, false, nI d, N) = (j', false, nI d, N ++ L N.length p))) ∧
    (∀ (Q : List pRw) (p : Int32) (nR nN nd : Nat), Q.length ≤ 4 * j → Q.length ≤ nR → 1 ≤ nR ∧ nR % 4 = 0 → nd ≤ sbN t n j → ∃ nR' nN' nd' : Nat, gwR W nR nR' ∧ gwN n nN nN' ∧ Q.length + rn ≤ nR' ∧ nd' ≤ sbN t n j' ∧
      ∀ zs K_ E_ mc ms c tt f, W ≤ f + j → RP t n nTp so Q nR nN nd d j zs → budC nR nN nR' nN' mc ms c tt →
        (∀ z' c' t', RP t n nTp so (Q ++ R Q.length p) nR' nN' nd' d j' z' → vj_M_shape_51 mc ms K_ E_ p z' c' t') → vl_M_shape_29 mc ms K_ E_ (f + 1) p zs c tt)) ∨
  (∃ j', j ≤ j' ∧ j' < W ∧ (∀ (p : Int32) (f : Nat) (N : List pNd), W ≤ f + j → ∃ d' N', gWholesL gS so nT p 0 f (j, false, nI d, N) = (j', true, d', N')) ∧
    (∀ (Q : List pRw) (p : Int32) (nR nN nd : Nat), Q.length ≤ 4 * j → Q.length ≤ nR → 1 ≤ nR ∧ nR % 4 = 0 → nd ≤ sbN t n j → ∃ nR' nN' : Nat, gwR W nR nR' ∧ gwN n nN nN' ∧
      ∀ zs K_ E_ mc ms c tt f, W ≤ f + j → RP t n nTp so Q nR nN nd d j zs → budC nR nN nR' nN' mc ms c tt → (∀ z', RF t n nTp so nR' nN' j' z' → E_ z') → vl_M_shape_29 mc ms K_ E_ (f + 1) p zs c tt))
theorem J_S1 {t : FN} {n nTp : Nat} {so : FN} {W nT : Nat} (hW : rW t n nTp so W) {gS : G3} {d : Nat}
    (hH : ∀ i, i < W → JX t n nTp so W nT (fun p s st => gWhole gS nT p s st) (fun mc ms zs p K E => vc_M_whole mc ms zs p K E) i d 0 1) : ∀ k j, j < W → W ≤ k + j → JS1 t n nTp so W nT gS j d := by
  intro k
  induction k with
  | zero => intro j hj hk; omega
  | succ k ih =>
    intro j hj hk
    have w := tk_so hW hj
    have hb1 := psb_b t n j
    have hb2 := sb_n t n j
    by_cases hjn : so j = 44
    · have a1 := tk_go hW hj hjn (by decide) (by decide)
      have eg : ∀ p f N, gWholesL gS so nT p 0 (f + 1) (j, false, nI d, N) = gWholesL gS so nT p 0 f (gWhole gS nT p 0 (j + 1, false, nI d, N)) := by
        intro p f N
        have hj1 : psS so (j, false, nI d, N) = 44 := hjn
        show (if psS so (j, false, nI d, N) = 44 then _ else _) = _
        rw [if_pos hj1]
        rfl
      have ru : ∀ (Q : List pRw) (p : Int32) (nR nN nd : Nat) zs K_ E_ mc ms c tt f, RP t n nTp so Q nR nN nd d j zs →
          (∀ z1, RP t n nTp so Q nR nN nd d (j + 1) z1 → ∃ c_23 s_24 : Nat, c + c_23 ≤ mc ∧ tt + s_24 ≤ ms ∧ (vc_M_whole c_23 s_24 z1 p (fun r_21 zs_22 => (vl_M_shape_29 mc ms K_ E_ f p zs_22 (c + c_23) (tt + s_24))) (fun zse_25 => (E_ zse_25)))) → vl_M_shape_29 mc ms K_ E_ (f + 1) p zs c tt := by
        intro Q p nR nN nd zs K_ E_ mc ms c tt f h hv
        unfold vl_M_shape_29
        exact q_is hW hj h.1.1.1 h.1.1.2.1 h.2.1 sg_in.2.2.2.2.1 (fun _ => ⟨fun q => absurd q (by decide), fun _ => q_nextP hW h a1 hv⟩) (fun q => absurd hjn q)
      rcases hH (j + 1) a1 with ⟨j1, m1, rn1, L1, R1, c1, c2, c3, c4, c5, c6, c7⟩ | ⟨j1, c1, c2, c3, c4⟩
      · have cls : ∀ p N, (∃ N', gWhole gS nT p 0 (j + 1, false, nI d, N) = (j1, false, nI d, N')) ∧ (N.length + m1 ≤ nT → gWhole gS nT p 0 (j + 1, false, nI d, N) = (j1, false, nI d, N ++ L1 N.length p 0)) := fun p N => c6 p 0 N
        have hl1 := Tr_len c5
        rcases ih j1 c2 (by omega) with ⟨j', m, rn, L, R, d1, d2, d3, d4, d5, d8, d9, d10⟩ | ⟨j', d1, d2, d4, d5⟩
        · refine Or.inl ⟨j', m1 + m, rn1 + rn, _, _, by omega, d2, by omega, by omega, Fo_app (Fo_tree c5 0) d5, d8, fun p f N hf => ?_, fun Q p nR nN nd hQ hQR hR0 hnd => ?_⟩
          · obtain ⟨f, rfl⟩ : ∃ g, f = g + 1 := ⟨f - 1, by omega⟩
            rw [eg]
            refine ⟨?_, fun hN => ?_⟩
            · obtain ⟨N1, e1⟩ := (cls p N).1
              rw [e1]
              exact (d9 p f N1 (by omega)).1
            · rw [(cls p N).2 (by omega), (d9 p f _ (by omega)).2 (by rw [List.length_append, hl1.1]; omega), List.length_append, hl1.1, List.append_assoc]
          · obtain ⟨nR1, nN1, nd1, b1, b2, b3, b4, b5⟩ := c7 Q p nR nN nd (by omega) hQR hR0 (by omega)
            have hlen : (Q ++ R1 Q.length p 0).length = Q.length + rn1 := by rw [List.length_append, hl1.2]
            obtain ⟨nR2, nN2, nd2, e1, e2, e3, e4, e5⟩ := d10 (Q ++ R1 Q.length p 0) p nR1 nN1 nd1 (by omega) (by omega) (by have := b1.1; omega) b4
            refine ⟨nR2, nN2, nd2, gwR_t b1 e1, gwN_t b2 e2, by omega, e4, fun zs K_ E_ mc ms c tt f hf h hb kk => ?_⟩
            obtain ⟨f, rfl⟩ : ∃ g, f = g + 1 := ⟨f - 1, by omega⟩
            have hm1 := b1.1; have hm2 := b2.1; have hm3 := e1.1; have hm4 := e2.1
            obtain ⟨hb1, hb2⟩ := hb
            refine ru Q p nR nN nd zs K_ E_ mc ms c tt (f + 1) h (fun z1 h1 => ⟨(nR1 - nR) / 4 + nN1 - nN, 24 * nR1 + 2 * nN1 - 24 * nR - 2 * nN, by omega, by omega, ?_⟩)
            refine b5 z1 _ _ _ _ h1 ⟨by omega, by omega⟩ (fun z2 h2 => ?_)
            refine e5 z2 K_ E_ mc ms _ _ f (by omega) h2 ⟨by omega, by omega⟩ (fun z4 c' t' h4 => kk z4 c' t' ?_)
            rw [hlen, List.append_assoc] at h4
            exact h4
        · refine Or.inr ⟨j', by omega, d2, fun p f N hf => ?_, fun Q p nR nN nd hQ hQR hR0 hnd => ?_⟩
          · obtain ⟨f, rfl⟩ : ∃ g, f = g + 1 := ⟨f - 1, by omega⟩
            rw [eg]
            obtain ⟨N1, e1⟩ := (cls p N).1
            rw [e1]
            exact d4 p f N1 (by omega)
          · obtain ⟨nR1, nN1, nd1, b1, b2, b3, b4, b5⟩ := c7 Q p nR nN nd (by omega) hQR hR0 (by omega)
            have hlen : (Q ++ R1 Q.length p 0).length = Q.length + rn1 := by rw [List.length_append, hl1.2]
            obtain ⟨nR2, nN2, e1, e2, e5⟩ := d5 (Q ++ R1 Q.length p 0) p nR1 nN1 nd1 (by omega) (by omega) (by have := b1.1; omega) b4
            refine ⟨nR2, nN2, gwR_t b1 e1, gwN_t b2 e2, fun zs K_ E_ mc ms c tt f hf h hb kk => ?_⟩
            obtain ⟨f, rfl⟩ : ∃ g, f = g + 1 := ⟨f - 1, by omega⟩
            have hm1 := b1.1; have hm2 := b2.1; have hm3 := e1.1; have hm4 := e2.1
            obtain ⟨hb1, hb2⟩ := hb
            refine ru Q p nR nN nd zs K_ E_ mc ms c tt (f + 1) h (fun z1 h1 => ⟨(nR1 - nR) / 4 + nN1 - nN, 24 * nR1 + 2 * nN1 - 24 * nR - 2 * nN, by omega, by omega, ?_⟩)
            refine b5 z1 _ _ _ _ h1 ⟨by omega, by omega⟩ (fun z2 h2 => ?_)
            exact e5 z2 K_ E_ mc ms _ _ f (by omega) h2 ⟨by omega, by omega⟩ kk
      · refine Or.inr ⟨j1, by omega, c2, fun p f N hf => ?_, fun Q p nR nN nd hQ hQR hR0 hnd => ?_⟩
        · obtain ⟨f, rfl⟩ : ∃ g, f = g + 1 := ⟨f - 1, by omega⟩
          rw [eg]
          obtain ⟨d1, N1, e1⟩ := c3 p 0 N
          have e1' : gWhole gS nT p 0 (j + 1, false, nI d, N) = (j1, true, d1, N1) := e1
          rw [e1']
          exact ff_wholesL f j1 d1 N1
        · obtain ⟨nR1, nN1, b1, b2, b5⟩ := c4 Q p nR nN nd (by omega) hQR hR0 (by omega)
          refine ⟨nR1, nN1, b1, b2, fun zs K_ E_ mc ms c tt f hf h hb kk => ?_⟩
          have hm1 := b1.1; have hm2 := b2.1
          obtain ⟨hb1, hb2⟩ := hb
          exact ru Q p nR nN nd zs K_ E_ mc ms c tt f h (fun z1 h1 => ⟨(nR1 - nR) / 4 + nN1 - nN, 24 * nR1 + 2 * nN1 - 24 * nR - 2 * nN, by omega, by omega, b5 z1 _ _ _ _ h1 ⟨by omega, by omega⟩ kk⟩)
    · refine Or.inl ⟨j, 0, 0, _, _, by omega, hj, by omega, by omega, Fo_nil, hjn, fun p f N hf => ?_, fun Q p nR nN nd hQ hQR hR0 hnd => ?_⟩
      · obtain ⟨f, rfl⟩ : ∃ g, f = g + 1 := ⟨f - 1, by omega⟩
        have e : gWholesL gS so nT p 0 (f + 1) (j, false, nI d, N) = (j, false, nI d, N) := by
          have hj1 : ¬ psS so (j, false, nI d, N) = 44 := hjn
          show (if psS so (j, false, nI d, N) = 44 then _ else _) = _
          rw [if_neg hj1]
        rw [e]
        exact ⟨⟨N, rfl⟩, fun _ => by rw [List.append_nil]⟩
      · refine ⟨nR, nN, nd, gwR_r W nR, gwN_r n nN, hQR, hnd, fun zs K_ E_ mc ms c tt f hf h hb kk => ?_⟩
        have k0 := kk zs c tt (by rw [List.append_nil]; exact h)
        unfold vl_M_shape_29
        exact q_is hW hj h.1.1.1 h.1.1.2.1 h.2.1 sg_in.2.2.2.2.1 (fun q => absurd q hjn) (fun _ => ⟨fun _ => k0, fun q => absurd rfl q⟩)
