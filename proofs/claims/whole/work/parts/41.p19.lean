def EX48s (vA vF : VR) (mc ms : Nat) (L_13 : Int32 → Int32 → Int32 → RS → Nat → Nat → Prop) (K_ : Int32 → RS → Prop) (E_ : RS → Prop) (x2 : Int32) (z : RS) (c t : Nat) : Prop :=
  vc_M_is z 43 (fun r_48 => ((¬ r_48 = 0 → (vj_M_sum_141 vA vF mc ms L_13 K_ E_ x2 z c t)) ∧ (r_48 = 0 → (vc_M_is z 45 (fun r_56 => ((r_56 = 0 → (vj_M_sum_146 vA vF mc ms L_13 K_ E_ x2 0 z c t)) ∧ (¬ r_56 = 0 → (vj_M_sum_141 vA vF mc ms L_13 K_ E_ x2 z c t))))))))
def gEl (gS gP : G3) (so : FN) (W nT : Nat) (c : Int32) : GT := fun p s st => if c = 47 then gNumber so nT p s st else gPiece gS gP so W nT p s 0 st
def vEl (vA vF : VR) (c : Int32) : VR := fun mc ms zs p K E => if c = 47 then vc_M_numberPiece mc ms zs p K E else vc_M_factor vA vF mc ms zs p K E
def JF0 (t : FN) (n nTp : Nat) (so : FN) (W nT : Nat) (gS gP : G3) (vA vF : VR) (j d : Nat) : Prop :=
  (∃ (j' m rn q : Nat) (L : LF2) (R : RF2), j ≤ j' ∧ j' < W ∧ m + q + j ≤ j' ∧ rn + 4 * j ≤ 4 * j' ∧ Fo W m rn L R ∧ (q = 0 → m = 0 ∧ rn = 0 ∧ j' = j ∧ (∀ b p, L b p = []) ∧ (∀ b p, R b p = [])) ∧ (q ≠ 0 → so j = 42 ∨ so j = 47 ∨ so j = 64) ∧ ¬ (so j' = 42 ∨ so j' = 47 ∨ so j' = 64) ∧
    (∀ (b fw f : Nat) (N : List pNd), W ≤ f + j → (∃ N', gProdL gS gP so W nT b fw 0 f false (j, false, nI d, N) = (j', false, nI d, N')) ∧ (N.length + m ≤ nT → gProdL gS gP so W nT b fw 0 f false (j, false, nI d, N) = (j', false, nI d, N ++ L N.length (nI b)))) ∧
    (∀ (A : List pRw) (a : pRw) (B : List pRw) (nR nN nd : Nat), (A ++ a :: B).length ≤ 4 * j → (A ++ a :: B).length ≤ nR → 1 ≤ nR ∧ nR % 4 = 0 → nd ≤ sbN t n j → 1 ≤ a.2.2.2.2.2.1 → a.2.2.2.2.2.1 ≤ j → ∃ nR' nN' nd' : Nat, gwR W nR nR' ∧ gwN n nN nN' ∧ (A ++ a :: B).length + rn ≤ nR' ∧ nd' ≤ sbN t n j' ∧
      ∀ zs L13 K_ E_ mc ms x2 c tt f, W ≤ f + j → RP t n nTp so (A ++ a :: B) nR nN nd d j zs → budC nR nN nR' nN' mc ms c tt →
        (∀ z' c' t', RP t n nTp so (A ++ rPcs q a :: (B ++ R (A ++ a :: B).length (nI A.length))) nR' nN' nd' d j' z' → cnt nR nN nR' nN' c c' tt t' → EX48s vA vF mc ms L13 K_ E_ x2 z' c' t') → vl_M_sum_48 vA vF mc ms L13 K_ E_ (f + 1) x2 (nI A.length) zs c tt)) ∨
  (∃ j', j ≤ j' ∧ j' < W ∧ (so j = 42 ∨ so j = 47 ∨ so j = 64) ∧ (∀ (b fw f : Nat) (N : List pNd), W ≤ f + j → ∃ d' N', gProdL gS gP so W nT b fw 0 f false (j, false, nI d, N) = (j', true, d', N')) ∧
    (∀ (A : List pRw) (a : pRw) (B : List pRw) (nR nN nd : Nat), (A ++ a :: B).length ≤ 4 * j → (A ++ a :: B).length ≤ nR → 1 ≤ nR ∧ nR % 4 = 0 → nd ≤ sbN t n j → 1 ≤ a.2.2.2.2.2.1 → a.2.2.2.2.2.1 ≤ j → ∃ nR' nN' : Nat, gwR W nR nR' ∧ gwN n nN nN' ∧
      ∀ zs L13 K_ E_ mc ms x2 c tt f, W ≤ f + j → RP t n nTp so (A ++ a :: B) nR nN nd d j zs → budC nR nN nR' nN' mc ms c tt →
        (∀ z', RF t n nTp so nR' nN' j' z' → E_ z') → vl_M_sum_48 vA vF mc ms L13 K_ E_ (f + 1) x2 (nI A.length) zs c tt))
theorem J_F0 {t : FN} {n nTp : Nat} {so : FN} {W nT : Nat} (hW : rW t n nTp so W) {gS gP : G3} {vA vF : VR} {d : Nat}
    (hU : ∀ c i, i < W → JT t n nTp so W nT (gEl gS gP so W nT c) (vEl vA vF c) i d 3 3) :
    ∀ k j, j < W → W ≤ k + j → JF0 t n nTp so W nT gS gP vA vF j d := by
  intro k
  induction k with
  | zero => intro j hj hk; omega
  | succ k ih =>
    intro j hj hk
    have w := tk_so hW hj
    by_cases hjn : so j = 42 ∨ so j = 47 ∨ so j = 64
    · have hx : so j ∈ sgnC := by
        rcases hjn with q | q | q
        · rw [q]; exact sg_in.2.2.1
        · rw [q]; exact sg_in.2.2.2.2.2.2.2.1
        · rw [q]; exact sg_in.2.2.2.2.2.2.2.2.2.2.1
      have X := sg_r _ hx
      have a1 := tk_go hW hj rfl X.2.1 X.2.2.1
      have hJ : ∀ N, gJoin so 0 (j, false, nI d, N) := fun N => hjn.elim Or.inl (fun q => q.elim (fun q => Or.inr (Or.inl q)) (fun q => Or.inr (Or.inr ⟨q, rfl⟩)))
      have eg : ∀ b fw f N, gProdL gS gP so W nT b fw 0 (f + 1) false (j, false, nI d, N) = gProdL gS gP so W nT b fw 0 f false (gEl gS gP so W nT (so j) (nI b) (so j) (j + 1, false, nI d, N)) := by
        intro b fw f N
        show (if gJoin so 0 (j, false, nI d, N) then _ else _) = _
        rw [if_pos (hJ N)]
        show gProdL gS gP so W nT b fw 0 f false (gProd1 gS gP so W nT b (so j) 0 (j + 1, false, nI d, N)) = _
        unfold gProd1 gEl
        by_cases h47 : so j = 47
        · rw [if_pos ⟨h47, rfl⟩, if_pos h47]
        · rw [if_neg (fun q => h47 q.1), if_neg h47]
      have ru : ∀ (A : List pRw) (a : pRw) (B : List pRw) (nR nN nd : Nat) zs L13 K_ E_ mc ms x2 c tt f, RP t n nTp so (A ++ a :: B) nR nN nd d j zs →
          (∀ z1, RP t n nTp so (A ++ a :: B) nR nN nd d (j + 1) z1 → ∃ c_25 s_26 : Nat, c + c_25 ≤ mc ∧ tt + s_26 ≤ ms ∧ (vEl vA vF (so j) c_25 s_26 z1 (nI A.length) (fun r_23 zs_24 => (vc_M_add zs_24 (nI A.length) r_23 (so j) (fun zs_28 => (vl_M_sum_48 vA vF mc ms L13 K_ E_ f x2 (nI A.length) zs_28 (c + c_25) (tt + s_26))))) (fun zse_30 => (E_ zse_30)))) → vl_M_sum_48 vA vF mc ms L13 K_ E_ (f + 1) x2 (nI A.length) zs c tt := by
        intro A a B nR nN nd zs L13 K_ E_ mc ms x2 c tt f h hv
        have body : vj_M_sum_75 vA vF mc ms L13 (vl_M_sum_48 vA vF mc ms L13 K_ E_ f) K_ E_ x2 (nI A.length) zs c tt := by
          obtain ⟨t1, t2, t3⟩ := tp_so hW h.1.1.1 h.2.1 hx rfl
          unfold vj_M_sum_75
          rw [t2]
          refine ⟨?_, q_nextP hW h a1 (fun z1 h1 => ?_)⟩
          · rw [h.2.1.1, h.1.1.2.1]
            obtain ⟨⟨b1, b2, b3⟩, b4, _⟩ := id hW
            exact pu_in (by omega) (by omega)
          · obtain ⟨c1, s1, x1, x2', x3⟩ := hv z1 h1
            unfold vEl at x3
            refine ⟨fun h47 => ⟨c1, s1, x1, x2', ?_⟩, fun h47 => ⟨c1, s1, x1, x2', ?_⟩⟩
            · rw [if_neg h47] at x3; exact x3
            · rw [if_pos h47] at x3; exact x3
        unfold vl_M_sum_48
        refine q_is hW hj h.1.1.1 h.1.1.2.1 h.2.1 sg_in.2.2.1 (fun _ => ⟨fun _ => body, fun q => absurd q (by decide)⟩) (fun q42 => ⟨fun q => absurd rfl q, fun _ => q_is hW hj h.1.1.1 h.1.1.2.1 h.2.1 sg_in.2.2.2.2.2.2.2.2.2.2.1 (fun _ => ⟨fun _ => body, fun q => absurd q (by decide)⟩) (fun q64 => ⟨fun q => absurd rfl q, fun _ => q_is hW hj h.1.1.1 h.1.1.2.1 h.2.1 sg_in.2.2.2.2.2.2.2.1 (fun _ => ⟨fun q => absurd q (by decide), fun _ => body⟩) (fun q47 => absurd hjn (fun q => q.elim q42 (fun q => q.elim q47 q64)))⟩)⟩)
      rcases hU (so j) (j + 1) a1 with ⟨j1, m1, rn1, L1, R1, c1, c2, c3, c4, c5, c6, c7⟩ | ⟨j1, c1, c2, c3, c4⟩
      · have cls : ∀ b N, (∃ N', gEl gS gP so W nT (so j) (nI b) (so j) (j + 1, false, nI d, N) = (j1, false, nI d, N')) ∧ (N.length + m1 ≤ nT → gEl gS gP so W nT (so j) (nI b) (so j) (j + 1, false, nI d, N) = (j1, false, nI d, N ++ L1 N.length (nI b) (so j))) := fun b N => c6 (nI b) (so j) N
        have hl1 := Tr_len c5
        have hpos : 1 ≤ rn1 := by
          obtain ⟨_, ⟨_, _, _, _, _, tl, _, g2⟩, _⟩ := c5
          have := g2 0; omega
        rcases ih j1 c2 (by omega) with ⟨j', m, rn, q, L, R, d1, d2, d3, d4, d5, d6, d7, d8, d9, d10⟩ | ⟨j', d1, d2, d3, d4, d5⟩
        · refine Or.inl ⟨j', m1 + m, rn1 + rn, q + 1, _, _, by omega, d2, by omega, by omega, Fo_app (Fo_tree c5 (so j)) d5, fun q => by omega, fun _ => hjn, d8, fun b fw f N hf => ?_, fun A a B nR nN nd hQ hQR hR0 hnd hpc1 hpc2 => ?_⟩
          · obtain ⟨f, rfl⟩ : ∃ g, f = g + 1 := ⟨f - 1, by omega⟩
            rw [eg]
            refine ⟨?_, fun hN => ?_⟩
            · obtain ⟨N1, e1⟩ := (cls b N).1
              rw [e1]
              exact (d9 b fw f N1 (by omega)).1
            · rw [(cls b N).2 (by omega), (d9 b fw f _ (by omega)).2 (by rw [List.length_append, hl1.1]; omega), List.length_append, hl1.1, List.append_assoc]
          · have hb1 := psb_b t n j
            have hb2 := sb_n t n j
            obtain ⟨nR1, nN1, nd1, b1, b2, b3, b4, b5⟩ := c7 (A ++ a :: B) (nI A.length) nR nN nd (by omega) hQR hR0 (by omega)
            have hlen : (A ++ rPcs 1 a :: (B ++ R1 (A ++ a :: B).length (nI A.length) (so j))).length = (A ++ a :: B).length + rn1 := by
              simp only [List.length_append, List.length_cons, hl1.2]; omega
            obtain ⟨nR2, nN2, nd2, e1, e2, e3, e4, e5⟩ := d10 A (rPcs 1 a) (B ++ R1 (A ++ a :: B).length (nI A.length) (so j)) nR1 nN1 nd1 (by omega) (by omega) (by have := b1.1; omega) b4 (Nat.le_add_left _ _) (by show a.2.2.2.2.2.1 + 1 ≤ j1; omega)
            refine ⟨nR2, nN2, nd2, gwR_t b1 e1, gwN_t b2 e2, by omega, e4, fun zs L13 K_ E_ mc ms x2 c tt f hf h hb kk => ?_⟩
            obtain ⟨f, rfl⟩ : ∃ g, f = g + 1 := ⟨f - 1, by omega⟩
            have hm1 := b1.1; have hm2 := b2.1; have hm3 := e1.1; have hm4 := e2.1
            obtain ⟨hb1, hb2⟩ := hb
            refine ru A a B nR nN nd zs L13 K_ E_ mc ms x2 c tt (f + 1) h (fun z1 h1 => ⟨(nR1 - nR) / 4 + nN1 - nN, 24 * nR1 + 2 * nN1 - 24 * nR - 2 * nN, by omega, by omega, ?_⟩)
            refine b5 z1 _ _ _ _ h1 ⟨by omega, by omega⟩ (fun z2 h2 => ?_)
            refine q_add (r := A.length) (y := (A ++ a :: B).length) (a := a) h2 (by rw [List.append_assoc, List.getElem?_append_right (Nat.le_refl _)]; simp) (by simp only [List.length_append, List.length_cons, hl1.2]; omega) (fun q => by omega) (by omega) (fun z3 h3 => ?_)
            rw [add_T c5] at h3
            refine e5 z3 L13 K_ E_ mc ms x2 _ _ f (by omega) h3 ⟨by omega, by omega⟩ (fun z4 c' t' h4 hc4 => kk z4 c' t' ?_ ?_)
            · rw [rPcs_s, hlen, List.append_assoc] at h4
              rw [show q + 1 = 1 + q from by omega]
              exact h4
            · obtain ⟨g1, g2⟩ := hc4
              exact ⟨by omega, by omega⟩
        · refine Or.inr ⟨j', by omega, d2, hjn, fun b fw f N hf => ?_, fun A a B nR nN nd hQ hQR hR0 hnd hpc1 hpc2 => ?_⟩
          · obtain ⟨f, rfl⟩ : ∃ g, f = g + 1 := ⟨f - 1, by omega⟩
            rw [eg]
            obtain ⟨N1, e1⟩ := (cls b N).1
            rw [e1]
            exact d4 b fw f N1 (by omega)
          · have hb1 := psb_b t n j
            have hb2 := sb_n t n j
            obtain ⟨nR1, nN1, nd1, b1, b2, b3, b4, b5⟩ := c7 (A ++ a :: B) (nI A.length) nR nN nd (by omega) hQR hR0 (by omega)
            have hlen : (A ++ rPcs 1 a :: (B ++ R1 (A ++ a :: B).length (nI A.length) (so j))).length = (A ++ a :: B).length + rn1 := by
              simp only [List.length_append, List.length_cons, hl1.2]; omega
            obtain ⟨nR2, nN2, e1, e2, e5⟩ := d5 A (rPcs 1 a) (B ++ R1 (A ++ a :: B).length (nI A.length) (so j)) nR1 nN1 nd1 (by omega) (by omega) (by have := b1.1; omega) b4 (Nat.le_add_left _ _) (by show a.2.2.2.2.2.1 + 1 ≤ j1; omega)
            refine ⟨nR2, nN2, gwR_t b1 e1, gwN_t b2 e2, fun zs L13 K_ E_ mc ms x2 c tt f hf h hb kk => ?_⟩
            obtain ⟨f, rfl⟩ : ∃ g, f = g + 1 := ⟨f - 1, by omega⟩
            have hm1 := b1.1; have hm2 := b2.1; have hm3 := e1.1; have hm4 := e2.1
            obtain ⟨hb1, hb2⟩ := hb
            refine ru A a B nR nN nd zs L13 K_ E_ mc ms x2 c tt (f + 1) h (fun z1 h1 => ⟨(nR1 - nR) / 4 + nN1 - nN, 24 * nR1 + 2 * nN1 - 24 * nR - 2 * nN, by omega, by omega, ?_⟩)
            refine b5 z1 _ _ _ _ h1 ⟨by omega, by omega⟩ (fun z2 h2 => ?_)
            refine q_add (r := A.length) (y := (A ++ a :: B).length) (a := a) h2 (by rw [List.append_assoc, List.getElem?_append_right (Nat.le_refl _)]; simp) (by simp only [List.length_append, List.length_cons, hl1.2]; omega) (fun q => by omega) (by omega) (fun z3 h3 => ?_)
            rw [add_T c5] at h3
            exact e5 z3 L13 K_ E_ mc ms x2 _ _ f (by omega) h3 ⟨by omega, by omega⟩ kk
      · refine Or.inr ⟨j1, by omega, c2, hjn, fun b fw f N hf => ?_, fun A a B nR nN nd hQ hQR hR0 hnd hpc1 hpc2 => ?_⟩
        · obtain ⟨f, rfl⟩ : ∃ g, f = g + 1 := ⟨f - 1, by omega⟩
          rw [eg]
          obtain ⟨d1, N1, e1⟩ := c3 (nI b) (so j) N
          have e1' : gEl gS gP so W nT (so j) (nI b) (so j) (j + 1, false, nI d, N) = (j1, true, d1, N1) := e1
          rw [e1']
          exact ff_prodL f false j1 d1 N1
        · have hb1 := psb_b t n j
          have hb2 := sb_n t n j
          obtain ⟨nR1, nN1, b1, b2, b5⟩ := c4 (A ++ a :: B) (nI A.length) nR nN nd (by omega) hQR hR0 (by omega)
          refine ⟨nR1, nN1, b1, b2, fun zs L13 K_ E_ mc ms x2 c tt f hf h hb kk => ?_⟩
          have hm1 := b1.1; have hm2 := b2.1
          obtain ⟨hb1, hb2⟩ := hb
          exact ru A a B nR nN nd zs L13 K_ E_ mc ms x2 c tt f h (fun z1 h1 => ⟨(nR1 - nR) / 4 + nN1 - nN, 24 * nR1 + 2 * nN1 - 24 * nR - 2 * nN, by omega, by omega, b5 z1 _ _ _ _ h1 ⟨by omega, by omega⟩ kk⟩)
    · have hJ : ∀ N, ¬ gJoin so 0 (j, false, nI d, N) := fun N q => q.elim (fun q => hjn (Or.inl q)) (fun q => q.elim (fun q => hjn (Or.inr (Or.inl q))) (fun q => hjn (Or.inr (Or.inr q.1))))
      refine Or.inl ⟨j, 0, 0, 0, _, _, by omega, hj, by omega, by omega, Fo_nil, fun _ => ⟨rfl, rfl, rfl, fun _ _ => rfl, fun _ _ => rfl⟩, fun q => absurd rfl q, hjn, fun b fw f N hf => ?_, fun A a B nR nN nd hQ hQR hR0 hnd hpc1 hpc2 => ?_⟩
      · obtain ⟨f, rfl⟩ : ∃ g, f = g + 1 := ⟨f - 1, by omega⟩
        have e : gProdL gS gP so W nT b fw 0 (f + 1) false (j, false, nI d, N) = (j, false, nI d, N) := by
          show (if gJoin so 0 (j, false, nI d, N) then _ else _) = _
          rw [if_neg (hJ N)]
        rw [e]
        exact ⟨⟨N, rfl⟩, fun _ => by rw [List.append_nil]⟩
      · refine ⟨nR, nN, nd, gwR_r W nR, gwN_r n nN, hQR, hnd, fun zs L13 K_ E_ mc ms x2 c tt f hf h hb kk => ?_⟩
        have k0 := kk zs c tt (by rw [List.append_nil]; exact h) ⟨rfl, rfl⟩
        unfold vl_M_sum_48
        exact q_is hW hj h.1.1.1 h.1.1.2.1 h.2.1 sg_in.2.2.1 (fun q => absurd (Or.inl q) hjn) (fun q42 => ⟨fun q => absurd rfl q, fun _ => q_is hW hj h.1.1.1 h.1.1.2.1 h.2.1 sg_in.2.2.2.2.2.2.2.2.2.2.1 (fun q => absurd (Or.inr (Or.inr q)) hjn) (fun q64 => ⟨fun q => absurd rfl q, fun _ => q_is hW hj h.1.1.1 h.1.1.2.1 h.2.1 sg_in.2.2.2.2.2.2.2.1 (fun q => absurd (Or.inr (Or.inl q)) hjn) (fun q47 => ⟨fun _ => k0, fun q => absurd rfl q⟩)⟩)⟩)
