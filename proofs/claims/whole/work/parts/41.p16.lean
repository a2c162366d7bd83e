def JR1 (t : FN) (n nTp : Nat) (so : FN) (W nT : Nat) (gS gP : G3) (vT : VR) (j d : Nat) : Prop :=
  (∃ (j' m rn q : Nat) (L : LF2) (R : RF2), j ≤ j' ∧ j' < W ∧ m + q + j ≤ j' ∧ rn + 4 * j ≤ 4 * j' ∧ Fo W m rn L R ∧ (q = 0 → m = 0 ∧ rn = 0 ∧ j' = j ∧ (∀ b p, L b p = []) ∧ (∀ b p, R b p = [])) ∧ (q ≠ 0 → so j = 43 ∨ so j = 45) ∧ ¬ (so j' = 43 ∨ so j' = 45) ∧
    (∀ (b fw f : Nat) (N : List pNd), W ≤ f + j → (∃ N', gSumL gS gP so W nT b fw 1 f false (j, false, nI d, N) = (j', false, nI d, N')) ∧ (N.length + m ≤ nT → gSumL gS gP so W nT b fw 1 f false (j, false, nI d, N) = (j', false, nI d, N ++ L N.length (nI b)))) ∧
    (∀ (A : List pRw) (a : pRw) (B : List pRw) (nR nN nd : Nat), (A ++ a :: B).length ≤ 4 * j → (A ++ a :: B).length ≤ nR → 1 ≤ nR ∧ nR % 4 = 0 → nd ≤ sbN t n j → 1 ≤ a.2.2.2.2.2.1 → a.2.2.2.2.2.1 ≤ j → ∃ nR' nN' nd' : Nat, gwR W nR nR' ∧ gwN n nN nN' ∧ (A ++ a :: B).length + rn ≤ nR' ∧ nd' ≤ sbN t n j' ∧
      ∀ zs K_ E_ mc ms c tt f, W ≤ f + j → RP t n nTp so (A ++ a :: B) nR nN nd d j zs → budC nR nN nR' nN' mc ms c tt →
        (∀ z', RP t n nTp so (A ++ rPcs q a :: (B ++ R (A ++ a :: B).length (nI A.length))) nR' nN' nd' d j' z' → K_ (nI A.length) z') → EX48 vT mc ms (vl_M_terms_13 vT mc ms K_ E_ (f + 1)) K_ E_ (nI A.length) zs c tt)) ∨
  (∃ j', j ≤ j' ∧ j' < W ∧ (so j = 43 ∨ so j = 45) ∧ (∀ (b fw f : Nat) (N : List pNd), W ≤ f + j → ∃ d' N', gSumL gS gP so W nT b fw 1 f false (j, false, nI d, N) = (j', true, d', N')) ∧
    (∀ (A : List pRw) (a : pRw) (B : List pRw) (nR nN nd : Nat), (A ++ a :: B).length ≤ 4 * j → (A ++ a :: B).length ≤ nR → 1 ≤ nR ∧ nR % 4 = 0 → nd ≤ sbN t n j → 1 ≤ a.2.2.2.2.2.1 → a.2.2.2.2.2.1 ≤ j → ∃ nR' nN' : Nat, gwR W nR nR' ∧ gwN n nN nN' ∧
      ∀ zs K_ E_ mc ms c tt f, W ≤ f + j → RP t n nTp so (A ++ a :: B) nR nN nd d j zs → budC nR nN nR' nN' mc ms c tt →
        (∀ z', RF t n nTp so nR' nN' j' z' → E_ z') → EX48 vT mc ms (vl_M_terms_13 vT mc ms K_ E_ (f + 1)) K_ E_ (nI A.length) zs c tt))
theorem J_R1 {t : FN} {n nTp : Nat} {so : FN} {W nT : Nat} (hW : rW t n nTp so W) {gS gP : G3} {vT : VR} {d : Nat}
    (hE : ∀ i, i < W → JE1 t n nTp so W nT gS gP vT i d) : ∀ k j, j < W → W ≤ k + j → JR1 t n nTp so W nT gS gP vT j d := by
  intro k
  induction k with
  | zero => intro j hj hk; omega
  | succ k ih =>
    intro j hj hk
    have w := tk_so hW hj
    obtain ⟨⟨w1, w2, w3⟩, w4, _⟩ := id hW
    by_cases hjn : so j = 43 ∨ so j = 45
    · have hx : so j ∈ sgnC := by
        rcases hjn with q | q
        · rw [q]; exact sg_in.2.2.2.1
        · rw [q]; exact sg_in.2.2.2.2.2.1
      have X := sg_r _ hx
      have a1 := tk_go hW hj rfl X.2.1 X.2.2.1
      have hb1 := psb_b t n j
      have hb2 := sb_n t n j
      have eg : ∀ b fw f N, gSumL gS gP so W nT b fw 1 (f + 1) false (j, false, nI d, N) = gSumL gS gP so W nT b fw 1 f false (gProduct gS gP so W nT (nI b) (so j) 1 (j + 1, false, nI d, N)) := by
        intro b fw f N
        have hj1 : psS so (j, false, nI d, N) = 43 ∨ psS so (j, false, nI d, N) = 45 := hjn
        show (if psS so (j, false, nI d, N) = 43 ∨ psS so (j, false, nI d, N) = 45 then _ else _) = _
        rw [if_pos hj1]
        rfl
      have ru : ∀ (A : List pRw) (a : pRw) (B : List pRw) (nR nN nd : Nat) zs K_ E_ mc ms c tt f, RP t n nTp so (A ++ a :: B) nR nN nd d j zs →
          (∀ z1, RP t n nTp so (A ++ a :: B) nR nN nd d (j + 1) z1 → vl_M_terms_13 vT mc ms K_ E_ (f + 1) (nI A.length) (so j) 1 z1 c tt) → EX48 vT mc ms (vl_M_terms_13 vT mc ms K_ E_ (f + 1)) K_ E_ (nI A.length) zs c tt := by
        intro A a B nR nN nd zs K_ E_ mc ms c tt f h hv
        have body : vj_M_terms_116 vT mc ms (vl_M_terms_13 vT mc ms K_ E_ (f + 1)) K_ E_ (nI A.length) zs c tt := by
          obtain ⟨t1, t2, t3⟩ := tp_so hW h.1.1.1 h.2.1 hx rfl
          unfold vj_M_terms_116 vj_M_terms_121
          rw [h.2.1.1]
          refine r_byteAt (n := n) ⟨h.1.1.2.2.1, by rw [h.1.1.1, h.1.1.2.1]; exact hW.1⟩ (by omega) ⟨fun q => absurd q (by decide), fun _ => ?_⟩
          rw [h.1.1.1, t3]
          exact q_nextP hW h a1 hv
        exact q_is hW hj h.1.1.1 h.1.1.2.1 h.2.1 sg_in.2.2.2.1 (fun _ => ⟨fun _ => body, fun q => absurd q (by decide)⟩) (fun q43 => ⟨fun q => absurd rfl q, fun _ => q_is hW hj h.1.1.1 h.1.1.2.1 h.2.1 sg_in.2.2.2.2.2.1 (fun _ => ⟨fun q => absurd q (by decide), fun _ => body⟩) (fun q45 => absurd hjn (fun q => q.elim q43 q45))⟩)
      rcases hE (j + 1) a1 with ⟨j1, m1, rn1, L1, R1, c1, c2, c3, c4, c5, c6, c7⟩ | ⟨j1, c1, c2, c3, c4⟩
      · have cls : ∀ b N, (∃ N', gProduct gS gP so W nT (nI b) (so j) 1 (j + 1, false, nI d, N) = (j1, false, nI d, N')) ∧ (N.length + m1 ≤ nT → gProduct gS gP so W nT (nI b) (so j) 1 (j + 1, false, nI d, N) = (j1, false, nI d, N ++ L1 N.length (nI b) (so j))) := fun b N => c6 (nI b) (so j) N
        have hl1 := Tr_len c5
        rcases ih j1 c2 (by omega) with ⟨j', m, rn, q, L, R, d1, d2, d3, d4, d5, d6, d7, d8, d9, d10⟩ | ⟨j', d1, d2, d3, d4, d5⟩
        · refine Or.inl ⟨j', m1 + m, rn1 + rn, q + 1, _, _, by omega, d2, by omega, by omega, Fo_app (Fo_tree c5 (so j)) d5, fun q => by omega, fun _ => hjn, d8, fun b fw f N hf => ?_, fun A a B nR nN nd hQ hQR hR0 hnd hpc1 hpc2 => ?_⟩
          · obtain ⟨f, rfl⟩ : ∃ g, f = g + 1 := ⟨f - 1, by omega⟩
            rw [eg]
            refine ⟨?_, fun hN => ?_⟩
            · obtain ⟨N1, e1⟩ := (cls b N).1
              rw [e1]
              exact (d9 b fw f N1 (by omega)).1
            · rw [(cls b N).2 (by omega), (d9 b fw f _ (by omega)).2 (by rw [List.length_append, hl1.1]; omega), List.length_append, hl1.1, List.append_assoc]
          · obtain ⟨nR1, nN1, nd1, b1, b2, b3, b4, b5⟩ := c7 A a B (so j) nR nN nd (by omega) hQR hR0 (by omega) (fun q => by omega) (by omega)
            have hlen : (A ++ rPcs 1 a :: (B ++ R1 (A ++ a :: B).length (nI A.length) (so j))).length = (A ++ a :: B).length + rn1 := by
              simp only [List.length_append, List.length_cons, hl1.2]; omega
            obtain ⟨nR2, nN2, nd2, e1, e2, e3, e4, e5⟩ := d10 A (rPcs 1 a) (B ++ R1 (A ++ a :: B).length (nI A.length) (so j)) nR1 nN1 nd1 (by omega) (by omega) (by have := b1.1; omega) b4 (Nat.le_add_left _ _) (by show a.2.2.2.2.2.1 + 1 ≤ j1; omega)
            refine ⟨nR2, nN2, nd2, gwR_t b1 e1, gwN_t b2 e2, by omega, e4, fun zs K_ E_ mc ms c tt f hf h hb kk => ?_⟩
            obtain ⟨f, rfl⟩ : ∃ g, f = g + 1 := ⟨f - 1, by omega⟩
            have hm1 := b1.1; have hm2 := b2.1; have hm3 := e1.1; have hm4 := e2.1
            obtain ⟨hb1, hb2⟩ := hb
            refine ru A a B nR nN nd zs K_ E_ mc ms c tt (f + 1) h (fun z1 h1 => b5 z1 K_ E_ mc ms c tt (f + 1) h1 ⟨by omega, by omega⟩ (fun z2 c' t' h2 hc2 => ?_))
            obtain ⟨g1, g2⟩ := hc2
            refine e5 z2 K_ E_ mc ms c' t' f (by omega) h2 ⟨by omega, by omega⟩ (fun z4 h4 => kk z4 ?_)
            rw [rPcs_s, hlen, List.append_assoc] at h4
            rw [show q + 1 = 1 + q from by omega]
            exact h4
        · refine Or.inr ⟨j', by omega, d2, hjn, fun b fw f N hf => ?_, fun A a B nR nN nd hQ hQR hR0 hnd hpc1 hpc2 => ?_⟩
          · obtain ⟨f, rfl⟩ : ∃ g, f = g + 1 := ⟨f - 1, by omega⟩
            rw [eg]
            obtain ⟨N1, e1⟩ := (cls b N).1
            rw [e1]
            exact d4 b fw f N1 (by omega)
          · obtain ⟨nR1, nN1, nd1, b1, b2, b3, b4, b5⟩ := c7 A a B (so j) nR nN nd (by omega) hQR hR0 (by omega) (fun q => by omega) (by omega)
            have hlen : (A ++ rPcs 1 a :: (B ++ R1 (A ++ a :: B).length (nI A.length) (so j))).length = (A ++ a :: B).length + rn1 := by
              simp only [List.length_append, List.length_cons, hl1.2]; omega
            obtain ⟨nR2, nN2, e1, e2, e5⟩ := d5 A (rPcs 1 a) (B ++ R1 (A ++ a :: B).length (nI A.length) (so j)) nR1 nN1 nd1 (by omega) (by omega) (by have := b1.1; omega) b4 (Nat.le_add_left _ _) (by show a.2.2.2.2.2.1 + 1 ≤ j1; omega)
            refine ⟨nR2, nN2, gwR_t b1 e1, gwN_t b2 e2, fun zs K_ E_ mc ms c tt f hf h hb kk => ?_⟩
            obtain ⟨f, rfl⟩ : ∃ g, f = g + 1 := ⟨f - 1, by omega⟩
            have hm1 := b1.1; have hm2 := b2.1; have hm3 := e1.1; have hm4 := e2.1
            obtain ⟨hb1, hb2⟩ := hb
            refine ru A a B nR nN nd zs K_ E_ mc ms c tt (f + 1) h (fun z1 h1 => b5 z1 K_ E_ mc ms c tt (f + 1) h1 ⟨by omega, by omega⟩ (fun z2 c' t' h2 hc2 => ?_))
            obtain ⟨g1, g2⟩ := hc2
            exact e5 z2 K_ E_ mc ms c' t' f (by omega) h2 ⟨by omega, by omega⟩ kk
      · refine Or.inr ⟨j1, by omega, c2, hjn, fun b fw f N hf => ?_, fun A a B nR nN nd hQ hQR hR0 hnd hpc1 hpc2 => ?_⟩
        · obtain ⟨f, rfl⟩ : ∃ g, f = g + 1 := ⟨f - 1, by omega⟩
          rw [eg]
          obtain ⟨d1, N1, e1⟩ := c3 (nI b) (so j) N
          have e1' : gProduct gS gP so W nT (nI b) (so j) 1 (j + 1, false, nI d, N) = (j1, true, d1, N1) := e1
          rw [e1']
          exact ff_sumL f false j1 d1 N1
        · obtain ⟨nR1, nN1, b1, b2, b5⟩ := c4 A a B (so j) nR nN nd (by omega) hQR hR0 (by omega) (fun q => by omega) (by omega)
          refine ⟨nR1, nN1, b1, b2, fun zs K_ E_ mc ms c tt f hf h hb kk => ?_⟩
          exact ru A a B nR nN nd zs K_ E_ mc ms c tt f h (fun z1 h1 => b5 z1 K_ E_ mc ms c tt f h1 hb kk)
    · refine Or.inl ⟨j, 0, 0, 0, _, _, by omega, hj, by omega, by omega, Fo_nil, fun _ => ⟨rfl, rfl, rfl, fun _ _ => rfl, fun _ _ => rfl⟩, fun q => absurd rfl q, hjn, fun b fw f N hf => ?_, fun A a B nR nN nd hQ hQR hR0 hnd hpc1 hpc2 => ?_⟩
      · obtain ⟨f, rfl⟩ : ∃ g, f = g + 1 := ⟨f - 1, by omega⟩
        have e : gSumL gS gP so W nT b fw 1 (f + 1) false (j, false, nI d, N) = (j, false, nI d, N) := by
          have hj1 : ¬ (psS so (j, false, nI d, N) = 43 ∨ psS so (j, false, nI d, N) = 45) := hjn
          show (if psS so (j, false, nI d, N) = 43 ∨ psS so (j, false, nI d, N) = 45 then _ else _) = _
          rw [if_neg hj1]
        rw [e]
        exact ⟨⟨N, rfl⟩, fun _ => by rw [List.append_nil]⟩
      · refine ⟨nR, nN, nd, gwR_r W nR, gwN_r n nN, hQR, hnd, fun zs K_ E_ mc ms c tt f hf h hb kk => ?_⟩
        have k0 := kk zs (by rw [List.append_nil]; exact h)
        have hb1 := psb_b t n j
        refine q_is hW hj h.1.1.1 h.1.1.2.1 h.2.1 sg_in.2.2.2.1 (fun q => absurd (Or.inl q) hjn) (fun q43 => ⟨fun q => absurd rfl q, fun _ => q_is hW hj h.1.1.1 h.1.1.2.1 h.2.1 sg_in.2.2.2.2.2.1 (fun q => absurd (Or.inr q) hjn) (fun q45 => ⟨fun _ => ?_, fun q => absurd rfl q⟩)⟩)
        unfold vj_M_terms_121
        rw [h.2.1.1]
        refine r_byteAt (n := n) ⟨h.1.1.2.2.1, by rw [h.1.1.1, h.1.1.2.1]; exact hW.1⟩ (by omega) ⟨fun _ => ?_, fun q => absurd rfl q⟩
        exact ⟨fun _ => k0, fun q => absurd rfl q⟩
theorem J_T1 {t : FN} {n nTp : Nat} {so : FN} {W nT : Nat} (hW : rW t n nTp so W) {gS gP : G3} {vT : VR} {d : Nat}
    (hE : ∀ i, i < W → JE1 t n nTp so W nT gS gP vT i d) {j : Nat} (hj : j < W) : JT t n nTp so W nT (fun p s st => gSum gS gP so W nT p s 1 st) (fun mc ms zs p K E => vc_M_terms vT mc ms zs p K E) j d 1 1 := by
  have w := tk_so hW hj
  have egp : ∀ p s N, gSum gS gP so W nT p s 1 (j, false, nI d, N) = gSumL gS gP so W nT N.length j 1 W true (gProduct gS gP so W nT p s 1 (j, false, nI d, N)) := fun _ _ _ => rfl
  have ru : ∀ (Q : List pRw) (p : Int32) (nR nN nd : Nat), Q.length ≤ 4 * j + 1 → Q.length ≤ nR → 1 ≤ nR ∧ nR % 4 = 0 → ∀ zs K_ E_ mc ms, RP t n nTp so Q nR nN nd d j zs →
      grR nR Q.length ≤ 4 * mc + nR → 24 * grR nR Q.length ≤ ms + 24 * nR →
      (∀ z1, RP t n nTp so (Q ++ (12, j, p, 0, -1, 0, 0) :: []) (grR nR Q.length) nN nd d j z1 → ∃ n_, vl_M_terms_13 vT mc ms K_ E_ n_ (nI Q.length) 0 1 z1 ((grR nR Q.length - nR) / 4) (24 * (grR nR Q.length - nR))) → vc_M_terms vT mc ms zs p K_ E_ := by
    intro Q p nR nN nd hQ hQR hR0 zs K_ E_ mc ms h hc ht hv
    have g1 : nR ≤ grR nR Q.length ∧ (grR nR Q.length - nR) % 4 = 0 := by unfold grR; split <;> omega
    refine ⟨(grR nR Q.length - nR) / 4, 24 * (grR nR Q.length - nR), by omega, by omega, q_piece h (by omega) (by omega) (by omega) (fun z1 h1 => ?_)⟩
    rw [Nat.zero_add, Nat.zero_add]
    exact hv z1 h1
  rcases hE j hj with ⟨j1, m1, rn1, L1, R1, c1, c2, c3, c4, c5, c6, c7⟩ | ⟨j1, c1, c2, c3, c4⟩
  · have cls : ∀ p s N, (∃ N', gProduct gS gP so W nT p s 1 (j, false, nI d, N) = (j1, false, nI d, N')) ∧ (N.length + m1 ≤ nT → gProduct gS gP so W nT p s 1 (j, false, nI d, N) = (j1, false, nI d, N ++ L1 N.length p s)) := fun p s N => c6 p s N
    have hl1 := Tr_len c5
    have hpos : 1 ≤ rn1 := by
      obtain ⟨_, ⟨_, _, _, _, _, tl, _, g2⟩, _⟩ := c5
      have := g2 0; omega
    have hposm : 1 ≤ m1 := by
      obtain ⟨⟨_, _, _, tl, _, g2, _⟩, _⟩ := c5
      have := g2 0; omega
    rcases J_R1 hW hE W j1 c2 (by omega) with ⟨j', m, rn, q, L, R, d1, d2, d3, d4, d5, d6, d7, d8, d9, d10⟩ | ⟨j', d1, d2, d3, d4, d5⟩
    · have hT : ∃ (mm : Nat) (LL : LT3) (RR : RT3), Tr W mm (rn1 + rn + 1) LL RR ∧ mm + j ≤ j' ∧ cOk nT (fun p s st => gSum gS gP so W nT p s 1 st) j d j' mm LL ∧ ∀ b p s, RR b p s = (12, j, p, s, -1, 1 + q, 0) :: (R1 (b + 1) (nI b) 0 ++ R (b + 1 + rn1) (nI b)) := by
        by_cases hq : q = 0
        · obtain ⟨z1, z2, z3, z4, z5⟩ := d6 hq
          subst hq z1 z2 z3
          refine ⟨m1, L1, _, Tr_row1 c5 12 j (-1) rfl (by omega), by omega, fun p s N => ?_, fun b p s => by rw [z5, List.append_nil]⟩
          have e : ∀ N', gSumL gS gP so W nT N.length j 1 W true (j', false, nI d, N') = (j', false, nI d, N') := by
            intro N'
            obtain ⟨k, hk⟩ : ∃ k, W = k + 1 := ⟨W - 1, by omega⟩
            have hJ : ¬ (psS so (j', false, nI d, N') = 43 ∨ psS so (j', false, nI d, N') = 45) := d8
            have : ∀ f, gSumL gS gP so W nT N.length j 1 (f + 1) true (j', false, nI d, N') = (j', false, nI d, N') := by
              intro f
              show (if psS so (j', false, nI d, N') = 43 ∨ psS so (j', false, nI d, N') = 45 then _ else _) = _
              rw [if_neg hJ]
            have h2 := this k
            rw [← hk] at h2
            exact h2
          refine ⟨?_, fun hN => ?_⟩
          · obtain ⟨N1, e1⟩ := (cls p s N).1
            refine ⟨N1, ?_⟩
            show gSum gS gP so W nT p s 1 (j, false, nI d, N) = _
            rw [egp, e1, e]
          · show gSum gS gP so W nT p s 1 (j, false, nI d, N) = _
            rw [egp, (cls p s N).2 hN, e]
        · have hjn := d7 hq
          refine ⟨m1 + m + 1, _, _, Tr_node (Fo_app (Fo_tree c5 0) d5) 12 j (-1) (1 + q) 0 (by omega) rfl (by omega), by omega, fun p s N => ?_, fun b p s => rfl⟩
          have e : ∀ N', gSumL gS gP so W nT N.length j 1 W true (j1, false, nI d, N') = gSumL gS gP so W nT N.length j 1 W false (gWrap nT N.length 12 j (j1, false, nI d, N')) := by
            intro N'
            obtain ⟨k, hk⟩ : ∃ k, W = k + 1 := ⟨W - 1, by omega⟩
            have h2 := gSumL_w (gS := gS) (gP := gP) (so := so) (W := W) (nT := nT) (b := N.length) (fw := j) (f := k) (x := 1) (j := j1) (d := nI d) (N := N') hjn
            rw [← hk] at h2
            exact h2
          refine ⟨?_, fun hN => ?_⟩
          · obtain ⟨N1, e1⟩ := (cls p s N).1
            obtain ⟨N2, e2⟩ := (d9 N.length j W (if N.length < N1.length ∧ N1.length < nT then wrapL N.length 12 j N1 else N1) (by omega)).1
            refine ⟨N2, ?_⟩
            show gSum gS gP so W nT p s 1 (j, false, nI d, N) = _
            rw [egp, e1, e]; exact e2
          · show gSum gS gP so W nT p s 1 (j, false, nI d, N) = _
            rw [egp, (cls p s N).2 (by omega), e]
            have ew : gWrap nT N.length 12 j (j1, false, nI d, N ++ L1 N.length p s) = (j1, false, nI d, N ++ (12, j, p, s, -1) :: L1 (N.length + 1) (nI N.length) 0) := by
              show (j1, false, nI d, if _ then _ else _) = _
              rw [if_pos (by simp only [List.length_append, hl1.1]; omega), wrap_T c5]
            rw [ew, (d9 N.length j W _ (by omega)).2 (by simp only [List.length_append, List.length_cons, hl1.1]; omega)]
            simp only [List.length_append, List.length_cons, hl1.1, List.append_assoc, List.cons_append]
            rw [show N.length + (m1 + 1) = N.length + 1 + m1 from by omega]
      obtain ⟨mm, LL, RR, hTr, hmm, hcc, hRR⟩ := hT
      refine Or.inl ⟨j', mm, rn1 + rn + 1, LL, RR, by omega, d2, hmm, by omega, hTr, hcc, fun Q p nR nN nd hQ hQR hR0 hnd => ?_⟩
      obtain ⟨g1, g2⟩ := gwR_g (W := W) hR0 hQR (by omega)
      have hlF : (Q ++ (12, j, p, 0, -1, 0, 0) :: []).length = Q.length + 1 := by rw [List.length_append]; rfl
      obtain ⟨nR1, nN1, nd1, b1, b2, b3, b4, b5⟩ := c7 Q (12, j, p, 0, -1, 0, 0) [] 0 (grR nR Q.length) nN nd (by omega) (by omega) (by have := g1.1; omega) hnd (fun _ => rfl) (Nat.zero_le _)
      have hl3 : (Q ++ rPcs 1 (12, j, p, 0, -1, 0, 0) :: ([] ++ R1 (Q ++ (12, j, p, 0, -1, 0, 0) :: []).length (nI Q.length) 0)).length = Q.length + 1 + rn1 := by
        rw [List.length_append, List.length_cons, List.nil_append, hl1.2]; omega
      obtain ⟨nR2, nN2, nd2, e1, e2, e3, e4, e5⟩ := d10 Q (rPcs 1 (12, j, p, 0, -1, 0, 0)) ([] ++ R1 (Q ++ (12, j, p, 0, -1, 0, 0) :: []).length (nI Q.length) 0) nR1 nN1 nd1 (by omega) (by omega) (by have := b1.1; have := g1.1; omega) b4 (Nat.le_add_left _ _) (by show 0 + 1 ≤ j1; omega)
      refine ⟨nR2, nN2, nd2, gwR_t g1 (gwR_t b1 e1), gwN_t b2 e2, by omega, e4, fun zs K_ E_ mc ms h hb kk => ?_⟩
      have hm0 := g1.1; have hm1 := b1.1; have hm2 := b2.1; have hm3 := e1.1; have hm4 := e2.1
      obtain ⟨hb1, hb2⟩ := hb
      refine ru Q p nR nN nd hQ hQR hR0 zs K_ E_ mc ms h (by omega) (by omega) (fun z1 h1 => ⟨W + 2, ?_⟩)
      refine b5 z1 K_ E_ mc ms _ _ (W + 1) h1 ⟨by omega, by omega⟩ (fun z2 c' t' h2 hc2 => ?_)
      obtain ⟨g3, g4⟩ := hc2
      refine e5 z2 K_ E_ mc ms c' t' W (by omega) h2 ⟨by omega, by omega⟩ (fun z4 h4 => kk z4 ?_)
      rw [hRR]
      rw [hl3, hlF, List.nil_append] at h4
      exact h4
    · refine Or.inr ⟨j', by omega, d2, fun p s N => ?_, fun Q p nR nN nd hQ hQR hR0 hnd => ?_⟩
      · show ∃ d' N', gSum gS gP so W nT p s 1 (j, false, nI d, N) = _
        obtain ⟨N1, e1⟩ := (cls p s N).1
        obtain ⟨k, hk⟩ : ∃ k, W = k + 1 := ⟨W - 1, by omega⟩
        have h2 := gSumL_w (gS := gS) (gP := gP) (so := so) (W := W) (nT := nT) (b := N.length) (fw := j) (f := k) (x := 1) (j := j1) (d := nI d) (N := N1) d3
        rw [← hk] at h2
        rw [egp, e1, h2]
        exact d4 N.length j W _ (by omega)
      · obtain ⟨g1, g2⟩ := gwR_g (W := W) hR0 hQR (by omega)
        have hlF : (Q ++ (12, j, p, 0, -1, 0, 0) :: []).length = Q.length + 1 := by rw [List.length_append]; rfl
        obtain ⟨nR1, nN1, nd1, b1, b2, b3, b4, b5⟩ := c7 Q (12, j, p, 0, -1, 0, 0) [] 0 (grR nR Q.length) nN nd (by omega) (by omega) (by have := g1.1; omega) hnd (fun _ => rfl) (Nat.zero_le _)
        have hl3 : (Q ++ rPcs 1 (12, j, p, 0, -1, 0, 0) :: ([] ++ R1 (Q ++ (12, j, p, 0, -1, 0, 0) :: []).length (nI Q.length) 0)).length = Q.length + 1 + rn1 := by
          rw [List.length_append, List.length_cons, List.nil_append, hl1.2]; omega
        obtain ⟨nR2, nN2, e1, e2, e5⟩ := d5 Q (rPcs 1 (12, j, p, 0, -1, 0, 0)) ([] ++ R1 (Q ++ (12, j, p, 0, -1, 0, 0) :: []).length (nI Q.length) 0) nR1 nN1 nd1 (by omega) (by omega) (by have := b1.1; have := g1.1; omega) b4 (Nat.le_add_left _ _) (by show 0 + 1 ≤ j1; omega)
        refine ⟨nR2, nN2, gwR_t g1 (gwR_t b1 e1), gwN_t b2 e2, fun zs K_ E_ mc ms h hb kk => ?_⟩
        have hm0 := g1.1; have hm1 := b1.1; have hm2 := b2.1; have hm3 := e1.1; have hm4 := e2.1
        obtain ⟨hb1, hb2⟩ := hb
        refine ru Q p nR nN nd hQ hQR hR0 zs K_ E_ mc ms h (by omega) (by omega) (fun z1 h1 => ⟨W + 2, ?_⟩)
        refine b5 z1 K_ E_ mc ms _ _ (W + 1) h1 ⟨by omega, by omega⟩ (fun z2 c' t' h2 hc2 => ?_)
        obtain ⟨g3, g4⟩ := hc2
        exact e5 z2 K_ E_ mc ms c' t' W (by omega) h2 ⟨by omega, by omega⟩ kk
  · refine Or.inr ⟨j1, c1, c2, fun p s N => ?_, fun Q p nR nN nd hQ hQR hR0 hnd => ?_⟩
    · show ∃ d' N', gSum gS gP so W nT p s 1 (j, false, nI d, N) = _
      obtain ⟨d1, N1, e1⟩ := c3 p s N
      have e1' : gProduct gS gP so W nT p s 1 (j, false, nI d, N) = (j1, true, d1, N1) := e1
      rw [egp, e1']
      exact ff_sumL W true j1 d1 N1
    · obtain ⟨g1, g2⟩ := gwR_g (W := W) hR0 hQR (by omega)
      have hlF : (Q ++ (12, j, p, 0, -1, 0, 0) :: []).length = Q.length + 1 := by rw [List.length_append]; rfl
      obtain ⟨nR1, nN1, b1, b2, b5⟩ := c4 Q (12, j, p, 0, -1, 0, 0) [] 0 (grR nR Q.length) nN nd (by omega) (by omega) (by have := g1.1; omega) hnd (fun _ => rfl) (Nat.zero_le _)
      refine ⟨nR1, nN1, gwR_t g1 b1, b2, fun zs K_ E_ mc ms h hb kk => ?_⟩
      have hm0 := g1.1; have hm1 := b1.1; have hm2 := b2.1
      obtain ⟨hb1, hb2⟩ := hb
      exact ru Q p nR nN nd hQ hQR hR0 zs K_ E_ mc ms h (by omega) (by omega) (fun z1 h1 => ⟨W + 1, b5 z1 K_ E_ mc ms _ _ W h1 ⟨by omega, by omega⟩ kk⟩)
theorem J_terms {t : FN} {n nTp : Nat} {so : FN} {W nT : Nat} (hW : rW t n nTp so W) : ∀ m m' d, d ≤ 30 → 32 ≤ m + d → 32 ≤ m' + d → ∀ j, j < W → JT t n nTp so W nT (fun p s st => (gLv so W nT m).1 p s 1 st) (fun mc ms zs p K E => lvT m' mc ms zs p K E) j d 1 1
  | 0, _, d, hd, hm, _, _, _ => absurd hm (by omega)
  | _ + 1, 0, d, hd, _, hm, _, _ => absurd hm (by omega)
  | m + 1, m' + 1, d, hd, hm, hm', j, hj => by
    have hU : ∀ i, i < W → JT t n nTp so W nT (fun p s st => gPiece (gLv so W nT m).1 (gLv so W nT m).2 so W nT p s 1 st) (fun mc ms zs p K E => vc_M_unit (lvT m') mc ms zs p K E) i d 3 3 :=
      fun i hi => J_unit hW (ff_lv so W nT m).1 hi hd (fun hd30 i2 hi2 => J_terms hW m m' (d + 1) (by omega) (by omega) (by omega) i2 hi2)
    exact J_T1 hW (fun i hi => J_E1 hW hU hi) hj
