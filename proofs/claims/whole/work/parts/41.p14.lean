def rPcs (q : Nat) (b : pRw) : pRw := (b.1, b.2.1, b.2.2.1, b.2.2.2.1, b.2.2.2.2.1, b.2.2.2.2.2.1 + q, b.2.2.2.2.2.2)
theorem rPcs_0 (b : pRw) : rPcs 0 b = b := rfl
theorem rPcs_1 (b : pRw) : rPc b = rPcs 1 b := rfl
theorem rPcs_s (q r : Nat) (b : pRw) : rPcs q (rPcs r b) = rPcs (r + q) b := by
  unfold rPcs; simp only [Nat.add_assoc]
theorem tp_so {t : FN} {n nTp : Nat} {so : FN} {W j : Nat} {zs : RS} {x : Int32} (hW : rW t n nTp so W) (h1 : zs.tp = t) (hL : pRL t n so j zs) (hx : x ∈ sgnC) (h : so j = x) : sbN t n j < n ∧ zs.tp zs.fr.toNatClampNeg = x ∧ bch t n (sbN t n j) = x := by
  obtain ⟨e1, e2, htk⟩ := hL
  have X := sg_r x hx
  have hs := psb_b t n j
  have hn := hW.2.1
  rcases htk with q | q | q | q | q | ⟨_, k, hk17, _, q⟩
  · exact absurd (h.symm.trans q.2) X.2.1
  · exact absurd (h.symm.trans q.2) X.2.2.2.1
  · exact absurd (h.symm.trans q.2) X.2.2.2.2.1
  · have hlt : sbN t n j < n := by
      by_cases w : sbN t n j < n
      · exact w
      · have eb : bch t n (sbN t n j) = 0 := by unfold bch; rw [if_neg w]
        rw [eb] at q
        exact absurd rfl (sg_r 0 q.2.2).1
    have eb : bch t n (sbN t n j) = t (sbN t n j) := by unfold bch; rw [if_pos hlt]
    refine ⟨hlt, ?_, q.2.1.symm.trans h⟩
    rw [e1, h1, nI_clamp (by omega), ← eb]
    exact q.2.1.symm.trans h
  · exact absurd (h.symm.trans q.2) X.2.2.1
  · exact absurd (h.symm.trans q) (X.2.2.2.2.2 k hk17)
theorem wrap_T {W m rn : Nat} {L : LT3} {R : RT3} (h : Tr W m rn L R) (N : List pNd) (p s k : Int32) (fw : Nat) : wrapL N.length k fw (N ++ L N.length p s) = N ++ (k, fw, p, s, -1) :: L (N.length + 1) (nI N.length) 0 := by
  obtain ⟨⟨k', fw', de, tl, h1, h2, h3⟩, _⟩ := h
  rw [h1, h1, wrapL_eq, h3]
theorem add_T {W m rn : Nat} {L : LT3} {R : RT3} (h : Tr W m rn L R) (A : List pRw) (a : pRw) (B : List pRw) (p c : Int32) :
    (((A ++ a :: B) ++ R (A ++ a :: B).length p 0).modify (A ++ a :: B).length (rSg c)).modify A.length rPc = A ++ rPcs 1 a :: (B ++ R (A ++ a :: B).length p c) := by
  obtain ⟨_, ⟨k', fw', de, pc, ac, tl, h1, h2⟩, _⟩ := h
  rw [h1, h1, md_app, List.append_assoc, List.cons_append, md_app]
  rfl
theorem gProdL_w {gS gP : G3} {so : FN} {W nT b fw f : Nat} {x : Int32} {j : Nat} {d : Int32} {N : List pNd} (hj : gJoin so x (j, false, d, N)) : gProdL gS gP so W nT b fw x (f + 1) true (j, false, d, N) = gProdL gS gP so W nT b fw x (f + 1) false (gWrap nT b (if x = 0 then 18 else 13) fw (j, false, d, N)) := by
  have hj' : gJoin so x (gWrap nT b (if x = 0 then 18 else 13) fw (j, false, d, N)) := hj
  show (if gJoin so x (j, false, d, N) then _ else _) = (if gJoin so x (gWrap nT b (if x = 0 then 18 else 13) fw (j, false, d, N)) then _ else _)
  rw [if_pos hj, if_pos hj']
  rfl
theorem gSumL_w {gS gP : G3} {so : FN} {W nT b fw f : Nat} {x : Int32} {j : Nat} {d : Int32} {N : List pNd} (hj : so j = 43 ∨ so j = 45) : gSumL gS gP so W nT b fw x (f + 1) true (j, false, d, N) = gSumL gS gP so W nT b fw x (f + 1) false (gWrap nT b (if x = 0 then 17 else 12) fw (j, false, d, N)) := by
  have hj1 : psS so (j, false, d, N) = 43 ∨ psS so (j, false, d, N) = 45 := hj
  have hj' : psS so (gWrap nT b (if x = 0 then 17 else 12) fw (j, false, d, N)) = 43 ∨ psS so (gWrap nT b (if x = 0 then 17 else 12) fw (j, false, d, N)) = 45 := hj
  show (if psS so (j, false, d, N) = 43 ∨ psS so (j, false, d, N) = 45 then _ else _) = (if psS so (gWrap nT b (if x = 0 then 17 else 12) fw (j, false, d, N)) = 43 ∨ psS so (gWrap nT b (if x = 0 then 17 else 12) fw (j, false, d, N)) = 45 then _ else _)
  rw [if_pos hj1, if_pos hj']
  rfl
def EX48 (vT : VR) (mc ms : Nat) (L_13 : Int32 → Int32 → Int32 → RS → Nat → Nat → Prop) (K_ : Int32 → RS → Prop) (E_ : RS → Prop) (x2 : Int32) (z : RS) (c t : Nat) : Prop :=
  vc_M_is z 43 (fun r_37 => ((¬ r_37 = 0 → (vj_M_terms_116 vT mc ms L_13 K_ E_ x2 z c t)) ∧ (r_37 = 0 → (vc_M_is z 45 (fun r_45 => ((r_45 = 0 → (vj_M_terms_121 vT mc ms L_13 K_ E_ x2 0 z c t)) ∧ (¬ r_45 = 0 → (vj_M_terms_116 vT mc ms L_13 K_ E_ x2 z c t))))))))
def cnt (nR nN nR' nN' c c' tt t' : Nat) : Prop := 4 * c' + nR + 4 * nN = 4 * c + nR' + 4 * nN' ∧ t' + 24 * nR + 2 * nN = tt + 24 * nR' + 2 * nN'
def budC (nR nN nR' nN' mc ms c tt : Nat) : Prop := 4 * c + nR' + 4 * nN' ≤ 4 * mc + nR + 4 * nN ∧ tt + 24 * nR' + 2 * nN' ≤ ms + 24 * nR + 2 * nN
def JF1 (t : FN) (n nTp : Nat) (so : FN) (W nT : Nat) (gS gP : G3) (vT : VR) (j d : Nat) : Prop :=
  (∃ (j' m rn q : Nat) (L : LF2) (R : RF2), j ≤ j' ∧ j' < W ∧ m + q + j ≤ j' ∧ rn + 4 * j ≤ 4 * j' ∧ Fo W m rn L R ∧ (q = 0 → m = 0 ∧ rn = 0 ∧ j' = j ∧ (∀ b p, L b p = []) ∧ (∀ b p, R b p = [])) ∧ (q ≠ 0 → so j = 42 ∨ so j = 47) ∧ ¬ (so j' = 42 ∨ so j' = 47) ∧
    (∀ (b fw f : Nat) (N : List pNd), W ≤ f + j → (∃ N', gProdL gS gP so W nT b fw 1 f false (j, false, nI d, N) = (j', false, nI d, N')) ∧ (N.length + m ≤ nT → gProdL gS gP so W nT b fw 1 f false (j, false, nI d, N) = (j', false, nI d, N ++ L N.length (nI b)))) ∧
    (∀ (A : List pRw) (a : pRw) (B : List pRw) (nR nN nd : Nat), (A ++ a :: B).length ≤ 4 * j → (A ++ a :: B).length ≤ nR → 1 ≤ nR ∧ nR % 4 = 0 → nd ≤ sbN t n j → 1 ≤ a.2.2.2.2.2.1 → a.2.2.2.2.2.1 ≤ j → ∃ nR' nN' nd' : Nat, gwR W nR nR' ∧ gwN n nN nN' ∧ (A ++ a :: B).length + rn ≤ nR' ∧ nd' ≤ sbN t n j' ∧
      ∀ zs L13 K_ E_ mc ms x2 c tt f, W ≤ f + j → RP t n nTp so (A ++ a :: B) nR nN nd d j zs → budC nR nN nR' nN' mc ms c tt →
        (∀ z' c' t', RP t n nTp so (A ++ rPcs q a :: (B ++ R (A ++ a :: B).length (nI A.length))) nR' nN' nd' d j' z' → cnt nR nN nR' nN' c c' tt t' → EX48 vT mc ms L13 K_ E_ x2 z' c' t') → vl_M_terms_48 vT mc ms L13 K_ E_ (f + 1) x2 (nI A.length) zs c tt)) ∨
  (∃ j', j ≤ j' ∧ j' < W ∧ (so j = 42 ∨ so j = 47) ∧ (∀ (b fw f : Nat) (N : List pNd), W ≤ f + j → ∃ d' N', gProdL gS gP so W nT b fw 1 f false (j, false, nI d, N) = (j', true, d', N')) ∧
    (∀ (A : List pRw) (a : pRw) (B : List pRw) (nR nN nd : Nat), (A ++ a :: B).length ≤ 4 * j → (A ++ a :: B).length ≤ nR → 1 ≤ nR ∧ nR % 4 = 0 → nd ≤ sbN t n j → 1 ≤ a.2.2.2.2.2.1 → a.2.2.2.2.2.1 ≤ j → ∃ nR' nN' : Nat, gwR W nR nR' ∧ gwN n nN nN' ∧
      ∀ zs L13 K_ E_ mc ms x2 c tt f, W ≤ f + j → RP t n nTp so (A ++ a :: B) nR nN nd d j zs → budC nR nN nR' nN' mc ms c tt →
        (∀ z', RF t n nTp so nR' nN' j' z' → E_ z') → vl_M_terms_48 vT mc ms L13 K_ E_ (f + 1) x2 (nI A.length) zs c tt))
theorem ff_prodL {gS gP : G3} {so : FN} {W nT b fw : Nat} {x : Int32} (f : Nat) (fi : Bool) : ff (gProdL gS gP so W nT b fw x f fi) := fun j d N => by
  cases f with
  | zero => exact ⟨d, N, rfl⟩
  | succ f => unfold gProdL gJoin; rw [ps_f, if_neg (fun h => h.elim (by decide) (fun h => h.elim (by decide) (fun h => absurd h.1 (by decide))))]; exact ⟨_, _, rfl⟩
theorem ff_sumL {gS gP : G3} {so : FN} {W nT b fw : Nat} {x : Int32} (f : Nat) (fi : Bool) : ff (gSumL gS gP so W nT b fw x f fi) := fun j d N => by
  cases f with
  | zero => exact ⟨d, N, rfl⟩
  | succ f => unfold gSumL; rw [ps_f, if_neg (by decide)]; exact ⟨_, _, rfl⟩
theorem J_F1 {t : FN} {n nTp : Nat} {so : FN} {W nT : Nat} (hW : rW t n nTp so W) {gS gP : G3} {vT : VR} {d : Nat}
    (hU : ∀ i, i < W → JT t n nTp so W nT (fun p s st => gPiece gS gP so W nT p s 1 st) (fun mc ms zs p K E => vc_M_unit vT mc ms zs p K E) i d 3 3) :
    ∀ k j, j < W → W ≤ k + j → JF1 t n nTp so W nT gS gP vT j d := by
  intro k
  induction k with
  | zero => intro j hj hk; omega
  | succ k ih =>
    intro j hj hk
    have w := tk_so hW hj
    by_cases hjn : so j = 42 ∨ so j = 47
    · have hx : so j ∈ sgnC := by
        rcases hjn with q | q
        · rw [q]; exact sg_in.2.2.1
        · rw [q]; exact sg_in.2.2.2.2.2.2.2.1
      have X := sg_r _ hx
      have a1 := tk_go hW hj rfl X.2.1 X.2.2.1
      have hJ : ∀ N, gJoin so 1 (j, false, nI d, N) := fun N => hjn.elim Or.inl (fun q => Or.inr (Or.inl q))
      have eg : ∀ b fw f N, gProdL gS gP so W nT b fw 1 (f + 1) false (j, false, nI d, N) = gProdL gS gP so W nT b fw 1 f false (gPiece gS gP so W nT (nI b) (so j) 1 (j + 1, false, nI d, N)) := by
        intro b fw f N
        show (if gJoin so 1 (j, false, nI d, N) then _ else _) = _
        rw [if_pos (hJ N)]
        show gProdL gS gP so W nT b fw 1 f false (gProd1 gS gP so W nT b (so j) 1 (j + 1, false, nI d, N)) = _
        unfold gProd1
        rw [if_neg (fun q => absurd q.2 (by decide))]
      have ru : ∀ (A : List pRw) (a : pRw) (B : List pRw) (nR nN nd : Nat) zs L13 K_ E_ mc ms x2 c tt f, RP t n nTp so (A ++ a :: B) nR nN nd d j zs →
          (∀ z1, RP t n nTp so (A ++ a :: B) nR nN nd d (j + 1) z1 → ∃ c_25 s_26 : Nat, c + c_25 ≤ mc ∧ tt + s_26 ≤ ms ∧ (vc_M_unit vT c_25 s_26 z1 (nI A.length) (fun r_23 zs_24 => (vc_M_add zs_24 (nI A.length) r_23 (so j) (fun zs_28 => (vl_M_terms_48 vT mc ms L13 K_ E_ f x2 (nI A.length) zs_28 (c + c_25) (tt + s_26))))) (fun zse_30 => (E_ zse_30)))) → vl_M_terms_48 vT mc ms L13 K_ E_ (f + 1) x2 (nI A.length) zs c tt := by
        intro A a B nR nN nd zs L13 K_ E_ mc ms x2 c tt f h hv
        have body : vj_M_terms_66 vT mc ms L13 (vl_M_terms_48 vT mc ms L13 K_ E_ f) K_ E_ x2 (nI A.length) zs c tt := by
          obtain ⟨t1, t2, t3⟩ := tp_so hW h.1.1.1 h.2.1 hx rfl
          unfold vj_M_terms_66
          rw [t2]
          refine ⟨?_, q_nextP hW h a1 hv⟩
          rw [h.2.1.1, h.1.1.2.1]
          obtain ⟨⟨b1, b2, b3⟩, b4, _⟩ := id hW
          exact pu_in (by omega) (by omega)
        unfold vl_M_terms_48
        refine q_is hW hj h.1.1.1 h.1.1.2.1 h.2.1 sg_in.2.2.1 (fun _ => ⟨fun _ => body, fun q => absurd q (by decide)⟩) (fun q42 => ⟨fun q => absurd rfl q, fun _ => q_is hW hj h.1.1.1 h.1.1.2.1 h.2.1 sg_in.2.2.2.2.2.2.2.1 (fun _ => ⟨fun q => absurd q (by decide), fun _ => body⟩) (fun q47 => absurd hjn (fun q => q.elim q42 q47))⟩)
      rcases hU (j + 1) a1 with ⟨j1, m1, rn1, L1, R1, c1, c2, c3, c4, c5, c6, c7⟩ | ⟨j1, c1, c2, c3, c4⟩
      · have cls : ∀ b N, (∃ N', gPiece gS gP so W nT (nI b) (so j) 1 (j + 1, false, nI d, N) = (j1, false, nI d, N')) ∧ (N.length + m1 ≤ nT → gPiece gS gP so W nT (nI b) (so j) 1 (j + 1, false, nI d, N) = (j1, false, nI d, N ++ L1 N.length (nI b) (so j))) := fun b N => c6 (nI b) (so j) N
        have hl1 := Tr_len c5
        have hpos : 1 ≤ rn1 := by
          obtain ⟨_, ⟨_, _, _, _, _, tl, _, g2⟩, _⟩ := c5
          have := g2 0; omega
        rcases ih j1 c2 (by omega) with ⟨j', m, rn, q, L, R, d1, d2, d3, d4, d5, d6, d7, d8, d9, d10⟩ | ⟨j', d1, d2, d3, d4, d5⟩
        · refine Or.inl ⟨j', m1 + m, rn1 + rn, q + 1, _, _, by omega, d2, by omega, by omega, Fo_app (Fo_tree c5 (so j)) d5, fun q => by omega, fun _ => hjn, d8, fun b fw f N hf => ?_, fun A a B nR nN nd hQ hQR hR0 hnd hpc1 hpc2 => ?_⟩
          · obtain ⟨f, rfl⟩ : ∃ g, f = g + 1 := ⟨f - 1, by omega⟩
            rw [eg]
            refine ⟨?_, fun hN => ?_⟩
            · obtain ⟨N1, e1⟩ := (cls b N).1
              rw [e1]
              exact (d9 b fw f N1 (by omega)).1
            · rw [(cls b N).2 (by omega), (d9 b fw f _ (by omega)).2 (by rw [List.length_append, hl1.1]; omega), List.length_append, hl1.1, List.append_assoc]
          · have hb1 := psb_b t n j
            have hb2 := sb_n t n j
            obtain ⟨nR1, nN1, nd1, b1, b2, b3, b4, b5⟩ := c7 (A ++ a :: B) (nI A.length) nR nN nd (by omega) hQR hR0 (by omega)
            have hlen : (A ++ rPcs 1 a :: (B ++ R1 (A ++ a :: B).length (nI A.length) (so j))).length = (A ++ a :: B).length + rn1 := by
              simp only [List.length_append, List.length_cons, hl1.2]; omega
            obtain ⟨nR2, nN2, nd2, e1, e2, e3, e4, e5⟩ := d10 A (rPcs 1 a) (B ++ R1 (A ++ a :: B).length (nI A.length) (so j)) nR1 nN1 nd1 (by omega) (by omega) (by have := b1.1; omega) b4 (Nat.le_add_left _ _) (by show a.2.2.2.2.2.1 + 1 ≤ j1; omega)
            refine ⟨nR2, nN2, nd2, gwR_t b1 e1, gwN_t b2 e2, by omega, e4, fun zs L13 K_ E_ mc ms x2 c tt f hf h hb kk => ?_⟩
            obtain ⟨f, rfl⟩ : ∃ g, f = g + 1 := ⟨f - 1, by omega⟩
            have hm1 := b1.1; have hm2 := b2.1; have hm3 := e1.1; have hm4 := e2.1
            obtain ⟨hb1, hb2⟩ := hb
            refine ru A a B nR nN nd zs L13 K_ E_ mc ms x2 c tt (f + 1) h (fun z1 h1 => ⟨(nR1 - nR) / 4 + nN1 - nN, 24 * nR1 + 2 * nN1 - 24 * nR - 2 * nN, by omega, by omega, ?_⟩)
            refine b5 z1 _ _ _ _ h1 ⟨by omega, by omega⟩ (fun z2 h2 => ?_)
            refine q_add (r := A.length) (y := (A ++ a :: B).length) (a := a) h2 (by rw [List.append_assoc, List.getElem?_append_right (Nat.le_refl _)]; simp) (by simp only [List.length_append, List.length_cons, hl1.2]; omega) (fun q => by omega) (by omega) (fun z3 h3 => ?_)
            rw [add_T c5] at h3
            refine e5 z3 L13 K_ E_ mc ms x2 _ _ f (by omega) h3 ⟨by omega, by omega⟩ (fun z4 c' t' h4 hc4 => kk z4 c' t' ?_ ?_)
            · rw [rPcs_s, hlen, List.append_assoc] at h4
              rw [show q + 1 = 1 + q from by omega]
              exact h4
            · obtain ⟨g1, g2⟩ := hc4
              exact ⟨by omega, by omega⟩
        · refine Or.inr ⟨j', by omega, d2, hjn, fun b fw f N hf => ?_, fun A a B nR nN nd hQ hQR hR0 hnd hpc1 hpc2 => ?_⟩
          · obtain ⟨f, rfl⟩ : ∃ g, f = g + 1 := ⟨f - 1, by omega⟩
            rw [eg]
            obtain ⟨N1, e1⟩ := (cls b N).1
            rw [e1]
            exact d4 b fw f N1 (by omega)
          · have hb1 := psb_b t n j
            have hb2 := sb_n t n j
            obtain ⟨nR1, nN1, nd1, b1, b2, b3, b4, b5⟩ := c7 (A ++ a :: B) (nI A.length) nR nN nd (by omega) hQR hR0 (by omega)
            have hlen : (A ++ rPcs 1 a :: (B ++ R1 (A ++ a :: B).length (nI A.length) (so j))).length = (A ++ a :: B).length + rn1 := by
              simp only [List.length_append, List.length_cons, hl1.2]; omega
            obtain ⟨nR2, nN2, e1, e2, e5⟩ := d5 A (rPcs 1 a) (B ++ R1 (A ++ a :: B).length (nI A.length) (so j)) nR1 nN1 nd1 (by omega) (by omega) (by have := b1.1; omega) b4 (Nat.le_add_left _ _) (by show a.2.2.2.2.2.1 + 1 ≤ j1; omega)
            refine ⟨nR2, nN2, gwR_t b1 e1, gwN_t b2 e2, fun zs L13 K_ E_ mc ms x2 c tt f hf h hb kk => ?_⟩
            obtain ⟨f, rfl⟩ : ∃ g, f = g + 1 := ⟨f - 1, by omega⟩
            have hm1 := b1.1; have hm2 := b2.1; have hm3 := e1.1; have hm4 := e2.1
            obtain ⟨hb1, hb2⟩ := hb
            refine ru A a B nR nN nd zs L13 K_ E_ mc ms x2 c tt (f + 1) h (fun z1 h1 => ⟨(nR1 - nR) / 4 + nN1 - nN, 24 * nR1 + 2 * nN1 - 24 * nR - 2 * nN, by omega, by omega, ?_⟩)
            refine b5 z1 _ _ _ _ h1 ⟨by omega, by omega⟩ (fun z2 h2 => ?_)
            refine q_add (r := A.length) (y := (A ++ a :: B).length) (a := a) h2 (by rw [List.append_assoc, List.getElem?_append_right (Nat.le_refl _)]; simp) (by simp only [List.length_append, List.length_cons, hl1.2]; omega) (fun q => by omega) (by omega) (fun z3 h3 => ?_)
            rw [add_T c5] at h3
            exact e5 z3 L13 K_ E_ mc ms x2 _ _ f (by omega) h3 ⟨by omega, by omega⟩ kk
      · refine Or.inr ⟨j1, by omega, c2, hjn, fun b fw f N hf => ?_, fun A a B nR nN nd hQ hQR hR0 hnd hpc1 hpc2 => ?_⟩
        · obtain ⟨f, rfl⟩ : ∃ g, f = g + 1 := ⟨f - 1, by omega⟩
          rw [eg]
          obtain ⟨d1, N1, e1⟩ := c3 (nI b) (so j) N
          have e1' : gPiece gS gP so W nT (nI b) (so j) 1 (j + 1, false, nI d, N) = (j1, true, d1, N1) := e1
          rw [e1']
          exact ff_prodL f false j1 d1 N1
        · have hb1 := psb_b t n j
          have hb2 := sb_n t n j
          obtain ⟨nR1, nN1, b1, b2, b5⟩ := c4 (A ++ a :: B) (nI A.length) nR nN nd (by omega) hQR hR0 (by omega)
          refine ⟨nR1, nN1, b1, b2, fun zs L13 K_ E_ mc ms x2 c tt f hf h hb kk => ?_⟩
          have hm1 := b1.1; have hm2 := b2.1
          obtain ⟨hb1, hb2⟩ := hb
          exact ru A a B nR nN nd zs L13 K_ E_ mc ms x2 c tt f h (fun z1 h1 => ⟨(nR1 - nR) / 4 + nN1 - nN, 24 * nR1 + 2 * nN1 - 24 * nR - 2 * nN, by omega, by omega, b5 z1 _ _ _ _ h1 ⟨by omega, by omega⟩ kk⟩)
    · have hJ : ∀ N, ¬ gJoin so 1 (j, false, nI d, N) := fun N q => q.elim (fun q => hjn (Or.inl q)) (fun q => q.elim (fun q => hjn (Or.inr q)) (fun q => absurd q.2 (by decide)))
      refine Or.inl ⟨j, 0, 0, 0, _, _, by omega, hj, by omega, by omega, Fo_nil, fun _ => ⟨rfl, rfl, rfl, fun _ _ => rfl, fun _ _ => rfl⟩, fun q => absurd rfl q, hjn, fun b fw f N hf => ?_, fun A a B nR nN nd hQ hQR hR0 hnd hpc1 hpc2 => ?_⟩
      · obtain ⟨f, rfl⟩ : ∃ g, f = g + 1 := ⟨f - 1, by omega⟩
        have e : gProdL gS gP so W nT b fw 1 (f + 1) false (j, false, nI d, N) = (j, false, nI d, N) := by
          show (if gJoin so 1 (j, false, nI d, N) then _ else _) = _
          rw [if_neg (hJ N)]
        rw [e]
        exact ⟨⟨N, rfl⟩, fun _ => by rw [List.append_nil]⟩
      · refine ⟨nR, nN, nd, gwR_r W nR, gwN_r n nN, hQR, hnd, fun zs L13 K_ E_ mc ms x2 c tt f hf h hb kk => ?_⟩
        have k0 := kk zs c tt (by rw [List.append_nil]; exact h) ⟨rfl, rfl⟩
        unfold vl_M_terms_48
        exact q_is hW hj h.1.1.1 h.1.1.2.1 h.2.1 sg_in.2.2.1 (fun q => absurd (Or.inl q) hjn) (fun q42 => ⟨fun q => absurd rfl q, fun _ => q_is hW hj h.1.1.1 h.1.1.2.1 h.2.1 sg_in.2.2.2.2.2.2.2.1 (fun q => absurd (Or.inr q) hjn) (fun q47 => ⟨fun _ => k0, fun q => absurd rfl q⟩)⟩)
