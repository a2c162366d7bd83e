def JE0 (t : FN) (n nTp : Nat) (so : FN) (W nT : Nat) (gS gP : G3) (vA vF : VR) (j d : Nat) : Prop :=
  (∃ (j' m rn : Nat) (L : LT3) (R : RT3), j < j' ∧ j' < W ∧ m + j ≤ j' ∧ rn + 2 + 4 * j ≤ 4 * j' ∧ Tr W m rn L R ∧ cOk nT (fun p s st => gProduct gS gP so W nT p s 0 st) j d j' m L ∧
    (∀ (A : List pRw) (a : pRw) (B : List pRw) (x3 : Int32) (nR nN nd : Nat), (A ++ a :: B).length ≤ 4 * j + 2 → (A ++ a :: B).length ≤ nR → 1 ≤ nR ∧ nR % 4 = 0 → nd ≤ sbN t n j → (a.2.2.2.2.2.1 = 0 → B = []) → a.2.2.2.2.2.1 ≤ j → ∃ nR' nN' nd' : Nat, gwR W nR nR' ∧ gwN n nN nN' ∧ (A ++ a :: B).length + rn ≤ nR' ∧ nd' ≤ sbN t n j' ∧
      ∀ zs K_ E_ mc ms c tt f, RP t n nTp so (A ++ a :: B) nR nN nd d j zs → budC nR nN nR' nN' mc ms c tt →
        (∀ z' c' t', RP t n nTp so (A ++ rPcs 1 a :: (B ++ R (A ++ a :: B).length (nI A.length) x3)) nR' nN' nd' d j' z' → cnt nR nN nR' nN' c c' tt t' → EX48s vA vF mc ms (vl_M_sum_13 vA vF mc ms K_ E_ f) K_ E_ (nI A.length) z' c' t') → vl_M_sum_13 vA vF mc ms K_ E_ (f + 1) (nI A.length) x3 1 zs c tt)) ∨
  (∃ j', j ≤ j' ∧ j' < W ∧ cFl (fun p s st => gProduct gS gP so W nT p s 0 st) j d j' ∧
    (∀ (A : List pRw) (a : pRw) (B : List pRw) (x3 : Int32) (nR nN nd : Nat), (A ++ a :: B).length ≤ 4 * j + 2 → (A ++ a :: B).length ≤ nR → 1 ≤ nR ∧ nR % 4 = 0 → nd ≤ sbN t n j → (a.2.2.2.2.2.1 = 0 → B = []) → a.2.2.2.2.2.1 ≤ j → ∃ nR' nN' : Nat, gwR W nR nR' ∧ gwN n nN nN' ∧
      ∀ zs K_ E_ mc ms c tt f, RP t n nTp so (A ++ a :: B) nR nN nd d j zs → budC nR nN nR' nN' mc ms c tt → (∀ z', RF t n nTp so nR' nN' j' z' → E_ z') → vl_M_sum_13 vA vF mc ms K_ E_ (f + 1) (nI A.length) x3 1 zs c tt))
theorem J_E0 {t : FN} {n nTp : Nat} {so : FN} {W nT : Nat} (hW : rW t n nTp so W) {gS gP : G3} {vA vF : VR} {d : Nat}
    (hU : ∀ i, i < W → JT t n nTp so W nT (fun p s st => gPiece gS gP so W nT p s 0 st) (fun mc ms zs p K E => vc_M_factor vA vF mc ms zs p K E) i d 3 3) (hEl : ∀ c i, i < W → JT t n nTp so W nT (gEl gS gP so W nT c) (vEl vA vF c) i d 3 3) {j : Nat} (hj : j < W) : JE0 t n nTp so W nT gS gP vA vF j d := by
  have w := tk_so hW hj
  have egp : ∀ p s N, gProduct gS gP so W nT p s 0 (j, false, nI d, N) = gProdL gS gP so W nT N.length j 0 W true (gPiece gS gP so W nT p s 0 (j, false, nI d, N)) := fun _ _ _ => rfl
  have ru : ∀ (A : List pRw) (a : pRw) (B : List pRw) (nR nN nd : Nat), (A ++ a :: B).length ≤ 4 * j + 2 → (A ++ a :: B).length ≤ nR → 1 ≤ nR ∧ nR % 4 = 0 → (a.2.2.2.2.2.1 = 0 → B = []) → a.2.2.2.2.2.1 ≤ j → ∀ zs K_ E_ mc ms x3 c tt f, RP t n nTp so (A ++ a :: B) nR nN nd d j zs →
      4 * c + grR nR (A ++ a :: B).length ≤ 4 * mc + nR → tt + 24 * grR nR (A ++ a :: B).length ≤ ms + 24 * nR →
      (∀ z1, RP t n nTp so ((A ++ rPcs 1 a :: B) ++ (18, j, nI A.length, x3, -1, 0, 0) :: []) (grR nR (A ++ a :: B).length) nN nd d j z1 → ∃ c_14 s_15 : Nat, c + ((grR nR (A ++ a :: B).length - nR) / 4) + c_14 ≤ mc ∧ tt + 24 * (grR nR (A ++ a :: B).length - nR) + s_15 ≤ ms ∧ (vc_M_factor vA vF c_14 s_15 z1 (nI (A ++ a :: B).length) (fun r_12 zs_13 => (vc_M_add zs_13 (nI (A ++ a :: B).length) r_12 0 (fun zs_17 => (∃ m_48, vl_M_sum_48 vA vF mc ms (vl_M_sum_13 vA vF mc ms K_ E_ f) K_ E_ m_48 (nI A.length) (nI (A ++ a :: B).length) zs_17 (c + ((grR nR (A ++ a :: B).length - nR) / 4) + c_14) (tt + 24 * (grR nR (A ++ a :: B).length - nR) + s_15))))) (fun zse_53 => (E_ zse_53)))) → vl_M_sum_13 vA vF mc ms K_ E_ (f + 1) (nI A.length) x3 1 zs c tt := by
    intro A a B nR nN nd hQ hQR hR0 hB hpc zs K_ E_ mc ms x3 c tt f h hc ht hv
    have g1 : nR ≤ grR nR (A ++ a :: B).length ∧ (grR nR (A ++ a :: B).length - nR) % 4 = 0 := by unfold grR; split <;> omega
    refine ⟨fun q => absurd q (by decide), fun _ => ⟨(grR nR (A ++ a :: B).length - nR) / 4, 24 * (grR nR (A ++ a :: B).length - nR), by omega, by omega, q_piece h (by omega) (by omega) (by omega) (fun z1 h1 => ?_)⟩⟩
    refine q_add (r := A.length) (y := (A ++ a :: B).length) (a := a) h1 (by rw [List.append_assoc, List.getElem?_append_right (Nat.le_refl _)]; simp) (by simp) (fun q => by rw [hB q]; simp) (by omega) (fun z2 h2 => ?_)
    rw [md_app, List.append_assoc, List.cons_append, md_app] at h2
    have h2' : RP t n nTp so ((A ++ rPcs 1 a :: B) ++ (18, j, nI A.length, x3, -1, 0, 0) :: []) (grR nR (A ++ a :: B).length) nN nd d j z2 := by
      rw [List.append_assoc, List.cons_append]; exact h2
    exact hv z2 h2'
  rcases hU j hj with ⟨j1, m1, rn1, L1, R1, c1, c2, c3, c4, c5, c6, c7⟩ | ⟨j1, c1, c2, c3, c4⟩
  · have cls : ∀ p s N, (∃ N', gPiece gS gP so W nT p s 0 (j, false, nI d, N) = (j1, false, nI d, N')) ∧ (N.length + m1 ≤ nT → gPiece gS gP so W nT p s 0 (j, false, nI d, N) = (j1, false, nI d, N ++ L1 N.length p s)) := fun p s N => c6 p s N
    have hl1 := Tr_len c5
    have hpos : 1 ≤ rn1 := by
      obtain ⟨_, ⟨_, _, _, _, _, tl, _, g2⟩, _⟩ := c5
      have := g2 0; omega
    have hposm : 1 ≤ m1 := by
      obtain ⟨⟨_, _, _, tl, _, g2, _⟩, _⟩ := c5
      have := g2 0; omega
    rcases J_F0 hW hEl W j1 c2 (by omega) with ⟨j', m, rn, q, L, R, d1, d2, d3, d4, d5, d6, d7, d8, d9, d10⟩ | ⟨j', d1, d2, d3, d4, d5⟩
    · have hT : ∃ (mm : Nat) (LL : LT3) (RR : RT3), Tr W mm (rn1 + rn + 1) LL RR ∧ mm + j ≤ j' ∧ cOk nT (fun p s st => gProduct gS gP so W nT p s 0 st) j d j' mm LL ∧ ∀ b p s, RR b p s = (18, j, p, s, -1, 1 + q, 0) :: (R1 (b + 1) (nI b) 0 ++ R (b + 1 + rn1) (nI b)) := by
        by_cases hq : q = 0
        · obtain ⟨z1, z2, z3, z4, z5⟩ := d6 hq
          subst hq z1 z2 z3
          refine ⟨m1, L1, _, Tr_row1 c5 18 j (-1) rfl (by omega), by omega, fun p s N => ?_, fun b p s => by rw [z5, List.append_nil]⟩
          have e : ∀ N', gProdL gS gP so W nT N.length j 0 W true (j', false, nI d, N') = (j', false, nI d, N') := by
            intro N'
            obtain ⟨k, hk⟩ : ∃ k, W = k + 1 := ⟨W - 1, by omega⟩
            have hJ : ¬ gJoin so 0 (j', false, nI d, N') := fun q => q.elim (fun q => d8 (Or.inl q)) (fun q => q.elim (fun q => d8 (Or.inr (Or.inl q))) (fun q => d8 (Or.inr (Or.inr q.1))))
            have : ∀ f, gProdL gS gP so W nT N.length j 0 (f + 1) true (j', false, nI d, N') = (j', false, nI d, N') := by
              intro f
              show (if gJoin so 0 (j', false, nI d, N') then _ else _) = _
              rw [if_neg hJ]
            have h2 := this k
            rw [← hk] at h2
            exact h2
          refine ⟨?_, fun hN => ?_⟩
          · obtain ⟨N1, e1⟩ := (cls p s N).1
            refine ⟨N1, ?_⟩
            show gProduct gS gP so W nT p s 0 (j, false, nI d, N) = _
            rw [egp, e1, e]
          · show gProduct gS gP so W nT p s 0 (j, false, nI d, N) = _
            rw [egp, (cls p s N).2 hN, e]
        · have hjn := d7 hq
          refine ⟨m1 + m + 1, _, _, Tr_node (Fo_app (Fo_tree c5 0) d5) 18 j (-1) (1 + q) 0 (by omega) rfl (by omega), by omega, fun p s N => ?_, fun b p s => rfl⟩
          have e : ∀ N', gProdL gS gP so W nT N.length j 0 W true (j1, false, nI d, N') = gProdL gS gP so W nT N.length j 0 W false (gWrap nT N.length 18 j (j1, false, nI d, N')) := by
            intro N'
            obtain ⟨k, hk⟩ : ∃ k, W = k + 1 := ⟨W - 1, by omega⟩
            have h2 := gProdL_w (gS := gS) (gP := gP) (so := so) (W := W) (nT := nT) (b := N.length) (fw := j) (f := k) (x := 0) (j := j1) (d := nI d) (N := N') (hjn.elim Or.inl (fun q => q.elim (fun q => Or.inr (Or.inl q)) (fun q => Or.inr (Or.inr ⟨q, rfl⟩))))
            rw [← hk] at h2
            exact h2
          refine ⟨?_, fun hN => ?_⟩
          · obtain ⟨N1, e1⟩ := (cls p s N).1
            obtain ⟨N2, e2⟩ := (d9 N.length j W (if N.length < N1.length ∧ N1.length < nT then wrapL N.length 18 j N1 else N1) (by omega)).1
            refine ⟨N2, ?_⟩
            show gProduct gS gP so W nT p s 0 (j, false, nI d, N) = _
            rw [egp, e1, e]; exact e2
          · show gProduct gS gP so W nT p s 0 (j, false, nI d, N) = _
            rw [egp, (cls p s N).2 (by omega), e]
            have ew : gWrap nT N.length 18 j (j1, false, nI d, N ++ L1 N.length p s) = (j1, false, nI d, N ++ (18, j, p, s, -1) :: L1 (N.length + 1) (nI N.length) 0) := by
              show (j1, false, nI d, if _ then _ else _) = _
              rw [if_pos (by simp only [List.length_append, hl1.1]; omega), wrap_T c5]
            rw [ew, (d9 N.length j W _ (by omega)).2 (by simp only [List.length_append, List.length_cons, hl1.1]; omega)]
            simp only [List.length_append, List.length_cons, hl1.1, List.append_assoc, List.cons_append]
            rw [show N.length + (m1 + 1) = N.length + 1 + m1 from by omega]
      obtain ⟨mm, LL, RR, hTr, hmm, hcc, hRR⟩ := hT
      refine Or.inl ⟨j', mm, rn1 + rn + 1, LL, RR, by omega, d2, hmm, by omega, hTr, hcc, fun A a B x3 nR nN nd hQ hQR hR0 hnd hB hpc => ?_⟩
      obtain ⟨g1, g2⟩ := gwR_g (W := W) hR0 hQR (by omega)
      have hlQ : (A ++ rPcs 1 a :: B).length = (A ++ a :: B).length := by simp
      have hlQ0 : (A ++ rPcs 1 a :: B).length = (A ++ a :: B).length := by simp
      have hlF : ((A ++ rPcs 1 a :: B) ++ (18, j, nI A.length, x3, -1, 0, 0) :: []).length = (A ++ a :: B).length + 1 := by rw [List.length_append, hlQ0]; rfl
      obtain ⟨nR1, nN1, nd1, b1, b2, b3, b4, b5⟩ := c7 ((A ++ rPcs 1 a :: B) ++ (18, j, nI A.length, x3, -1, 0, 0) :: []) (nI (A ++ a :: B).length) (grR nR (A ++ a :: B).length) nN nd (by omega) (by omega) (by have := g1.1; omega) hnd
      have hl3 : ((A ++ rPcs 1 a :: B) ++ rPcs 1 (18, j, nI A.length, x3, -1, 0, 0) :: ([] ++ R1 ((A ++ rPcs 1 a :: B) ++ (18, j, nI A.length, x3, -1, 0, 0) :: []).length (nI (A ++ a :: B).length) 0)).length = (A ++ a :: B).length + 1 + rn1 := by
        rw [List.length_append, List.length_cons, List.nil_append, hl1.2, hlQ]; omega
      obtain ⟨nR2, nN2, nd2, e1, e2, e3, e4, e5⟩ := d10 (A ++ rPcs 1 a :: B) (rPcs 1 (18, j, nI A.length, x3, -1, 0, 0)) ([] ++ R1 ((A ++ rPcs 1 a :: B) ++ (18, j, nI A.length, x3, -1, 0, 0) :: []).length (nI (A ++ a :: B).length) 0) nR1 nN1 nd1 (by omega) (by omega) (by have := b1.1; have := g1.1; omega) b4 (Nat.le_add_left _ _) (by show 0 + 1 ≤ j1; omega)
      refine ⟨nR2, nN2, nd2, gwR_t g1 (gwR_t b1 e1), gwN_t b2 e2, by omega, e4, fun zs K_ E_ mc ms c tt f h hb kk => ?_⟩
      have hm0 := g1.1; have hm1 := b1.1; have hm2 := b2.1; have hm3 := e1.1; have hm4 := e2.1
      obtain ⟨hb1, hb2⟩ := hb
      refine ru A a B nR nN nd hQ hQR hR0 hB hpc zs K_ E_ mc ms x3 c tt f h (by omega) (by omega) (fun z1 h1 => ⟨(nR1 - grR nR (A ++ a :: B).length) / 4 + nN1 - nN, 24 * nR1 + 2 * nN1 - 24 * grR nR (A ++ a :: B).length - 2 * nN, by omega, by omega, ?_⟩)
      refine b5 z1 _ _ _ _ h1 ⟨by omega, by omega⟩ (fun z2 h2 => ?_)
      have hx2 : (A ++ rPcs 1 a :: B ++ (18, j, nI A.length, x3, -1, 0, 0) :: []).length = (A ++ a :: B).length + 1 := hlF
      have hq := q_add (r := (A ++ rPcs 1 a :: B).length) (y := ((A ++ rPcs 1 a :: B) ++ (18, j, nI A.length, x3, -1, 0, 0) :: []).length) (a := (18, j, nI A.length, x3, -1, 0, 0)) (c := 0) (K_ := fun zs_17 => (∃ m_48, vl_M_sum_48 vA vF mc ms (vl_M_sum_13 vA vF mc ms K_ E_ f) K_ E_ m_48 (nI A.length) (nI (A ++ a :: B).length) zs_17 (c + ((grR nR (A ++ a :: B).length - nR) / 4) + ((nR1 - grR nR (A ++ a :: B).length) / 4 + nN1 - nN)) (tt + 24 * (grR nR (A ++ a :: B).length - nR) + (24 * nR1 + 2 * nN1 - 24 * grR nR (A ++ a :: B).length - 2 * nN)))) h2 (by rw [List.append_assoc, List.getElem?_append_right (Nat.le_refl _)]; simp) (by rw [List.length_append (as := (A ++ rPcs 1 a :: B) ++ (18, j, nI A.length, x3, -1, 0, 0) :: []), hl1.2]; omega) (fun _ => by rw [hlF, hlQ]) (show (0 : Nat) < 2 ^ 30 by decide) (fun z3 h3 => ?_)
      · rw [hlQ] at hq
        exact hq
      · rw [add_T c5] at h3
        refine ⟨W + 1, ?_⟩
        have := e5 z3 (vl_M_sum_13 vA vF mc ms K_ E_ f) K_ E_ mc ms (nI A.length) (c + ((grR nR (A ++ a :: B).length - nR) / 4) + ((nR1 - grR nR (A ++ a :: B).length) / 4 + nN1 - nN)) (tt + 24 * (grR nR (A ++ a :: B).length - nR) + (24 * nR1 + 2 * nN1 - 24 * grR nR (A ++ a :: B).length - 2 * nN)) W (by omega) h3 ⟨by omega, by omega⟩ (fun z4 c' t' h4 hc4 => kk z4 c' t' ?_ ?_)
        · rw [hlQ] at this
          exact this
        · rw [hRR]
          rw [hl3, hlQ, hlF, List.nil_append, List.append_assoc, List.cons_append] at h4
          exact h4
        · obtain ⟨g3, g4⟩ := hc4
          exact ⟨by omega, by omega⟩
    · refine Or.inr ⟨j', by omega, d2, fun p s N => ?_, fun A a B x3 nR nN nd hQ hQR hR0 hnd hB hpc => ?_⟩
      · show ∃ d' N', gProduct gS gP so W nT p s 0 (j, false, nI d, N) = _
        obtain ⟨N1, e1⟩ := (cls p s N).1
        obtain ⟨k, hk⟩ : ∃ k, W = k + 1 := ⟨W - 1, by omega⟩
        have h2 := gProdL_w (gS := gS) (gP := gP) (so := so) (W := W) (nT := nT) (b := N.length) (fw := j) (f := k) (x := 0) (j := j1) (d := nI d) (N := N1) (d3.elim Or.inl (fun q => q.elim (fun q => Or.inr (Or.inl q)) (fun q => Or.inr (Or.inr ⟨q, rfl⟩))))
        rw [← hk] at h2
        rw [egp, e1, h2]
        exact d4 N.length j W _ (by omega)
      · obtain ⟨g1, g2⟩ := gwR_g (W := W) hR0 hQR (by omega)
        have hlQ : (A ++ rPcs 1 a :: B).length = (A ++ a :: B).length := by simp
        have hlQ0 : (A ++ rPcs 1 a :: B).length = (A ++ a :: B).length := by simp
        have hlF : ((A ++ rPcs 1 a :: B) ++ (18, j, nI A.length, x3, -1, 0, 0) :: []).length = (A ++ a :: B).length + 1 := by rw [List.length_append, hlQ0]; rfl
        obtain ⟨nR1, nN1, nd1, b1, b2, b3, b4, b5⟩ := c7 ((A ++ rPcs 1 a :: B) ++ (18, j, nI A.length, x3, -1, 0, 0) :: []) (nI (A ++ a :: B).length) (grR nR (A ++ a :: B).length) nN nd (by omega) (by omega) (by have := g1.1; omega) hnd
        have hl3 : ((A ++ rPcs 1 a :: B) ++ rPcs 1 (18, j, nI A.length, x3, -1, 0, 0) :: ([] ++ R1 ((A ++ rPcs 1 a :: B) ++ (18, j, nI A.length, x3, -1, 0, 0) :: []).length (nI (A ++ a :: B).length) 0)).length = (A ++ a :: B).length + 1 + rn1 := by
          rw [List.length_append, List.length_cons, List.nil_append, hl1.2, hlQ]; omega
        obtain ⟨nR2, nN2, e1, e2, e5⟩ := d5 (A ++ rPcs 1 a :: B) (rPcs 1 (18, j, nI A.length, x3, -1, 0, 0)) ([] ++ R1 ((A ++ rPcs 1 a :: B) ++ (18, j, nI A.length, x3, -1, 0, 0) :: []).length (nI (A ++ a :: B).length) 0) nR1 nN1 nd1 (by omega) (by omega) (by have := b1.1; have := g1.1; omega) b4 (Nat.le_add_left _ _) (by show 0 + 1 ≤ j1; omega)
        refine ⟨nR2, nN2, gwR_t g1 (gwR_t b1 e1), gwN_t b2 e2, fun zs K_ E_ mc ms c tt f h hb kk => ?_⟩
        have hm0 := g1.1; have hm1 := b1.1; have hm2 := b2.1; have hm3 := e1.1; have hm4 := e2.1
        obtain ⟨hb1, hb2⟩ := hb
        refine ru A a B nR nN nd hQ hQR hR0 hB hpc zs K_ E_ mc ms x3 c tt f h (by omega) (by omega) (fun z1 h1 => ⟨(nR1 - grR nR (A ++ a :: B).length) / 4 + nN1 - nN, 24 * nR1 + 2 * nN1 - 24 * grR nR (A ++ a :: B).length - 2 * nN, by omega, by omega, ?_⟩)
        refine b5 z1 _ _ _ _ h1 ⟨by omega, by omega⟩ (fun z2 h2 => ?_)
        have hq := q_add (r := (A ++ rPcs 1 a :: B).length) (y := ((A ++ rPcs 1 a :: B) ++ (18, j, nI A.length, x3, -1, 0, 0) :: []).length) (a := (18, j, nI A.length, x3, -1, 0, 0)) (c := 0) (K_ := fun zs_17 => (∃ m_48, vl_M_sum_48 vA vF mc ms (vl_M_sum_13 vA vF mc ms K_ E_ f) K_ E_ m_48 (nI A.length) (nI (A ++ a :: B).length) zs_17 (c + ((grR nR (A ++ a :: B).length - nR) / 4) + ((nR1 - grR nR (A ++ a :: B).length) / 4 + nN1 - nN)) (tt + 24 * (grR nR (A ++ a :: B).length - nR) + (24 * nR1 + 2 * nN1 - 24 * grR nR (A ++ a :: B).length - 2 * nN)))) h2 (by rw [List.append_assoc, List.getElem?_append_right (Nat.le_refl _)]; simp) (by rw [List.length_append (as := (A ++ rPcs 1 a :: B) ++ (18, j, nI A.length, x3, -1, 0, 0) :: []), hl1.2]; omega) (fun _ => by rw [hlF, hlQ]) (show (0 : Nat) < 2 ^ 30 by decide) (fun z3 h3 => ?_)
        · rw [hlQ] at hq
          exact hq
        · rw [add_T c5] at h3
          refine ⟨W + 1, ?_⟩
          have := e5 z3 (vl_M_sum_13 vA vF mc ms K_ E_ f) K_ E_ mc ms (nI A.length) (c + ((grR nR (A ++ a :: B).length - nR) / 4) + ((nR1 - grR nR (A ++ a :: B).length) / 4 + nN1 - nN)) (tt + 24 * (grR nR (A ++ a :: B).length - nR) + (24 * nR1 + 2 * nN1 - 24 * grR nR (A ++ a :: B).length - 2 * nN)) W (by omega) h3 ⟨by omega, by omega⟩ kk
          rw [hlQ] at this
          exact this
  · refine Or.inr ⟨j1, c1, c2, fun p s N => ?_, fun A a B x3 nR nN nd hQ hQR hR0 hnd hB hpc => ?_⟩
    · show ∃ d' N', gProduct gS gP so W nT p s 0 (j, false, nI d, N) = _
      obtain ⟨d1, N1, e1⟩ := c3 p s N
      have e1' : gPiece gS gP so W nT p s 0 (j, false, nI d, N) = (j1, true, d1, N1) := e1
      rw [egp, e1']
      exact ff_prodL W true j1 d1 N1
    · obtain ⟨g1, g2⟩ := gwR_g (W := W) hR0 hQR (by omega)
      have hlQ0 : (A ++ rPcs 1 a :: B).length = (A ++ a :: B).length := by simp
      have hlF : ((A ++ rPcs 1 a :: B) ++ (18, j, nI A.length, x3, -1, 0, 0) :: []).length = (A ++ a :: B).length + 1 := by rw [List.length_append, hlQ0]; rfl
      obtain ⟨nR1, nN1, b1, b2, b5⟩ := c4 ((A ++ rPcs 1 a :: B) ++ (18, j, nI A.length, x3, -1, 0, 0) :: []) (nI (A ++ a :: B).length) (grR nR (A ++ a :: B).length) nN nd (by omega) (by omega) (by have := g1.1; omega) hnd
      refine ⟨nR1, nN1, gwR_t g1 b1, b2, fun zs K_ E_ mc ms c tt f h hb kk => ?_⟩
      have hm0 := g1.1; have hm1 := b1.1; have hm2 := b2.1
      obtain ⟨hb1, hb2⟩ := hb
      exact ru A a B nR nN nd hQ hQR hR0 hB hpc zs K_ E_ mc ms x3 c tt f h (by omega) (by omega) (fun z1 h1 => ⟨(nR1 - grR nR (A ++ a :: B).length) / 4 + nN1 - nN, 24 * nR1 + 2 * nN1 - 24 * grR nR (A ++ a :: B).length - 2 * nN, by omega, by omega, b5 z1 _ _ _ _ h1 ⟨by omega, by omega⟩ kk⟩)
