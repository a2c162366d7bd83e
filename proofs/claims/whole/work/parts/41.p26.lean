theorem JQ_id {t : FN} {n nTp : Nat} {so : FN} {W nT : Nat} {Z : ZP} {zc : Int32 → Prop} {j d : Nat} (hj : j < W) {e q : Int} {g : GO} {v : SV} (hg : ∀ p N, zc p → g p (j, false, nI d, N) = (j, false, nI d, N)) (hv : ∀ (Q : List pRw) (nR nN nd : Nat) cont E_ mc ms p zs c tt, Z Q p → RP t n nTp so Q nR nN nd d j zs → cont zs c tt → v cont E_ mc ms p zs c tt) : JQ t n nTp so W nT Z zc g v j d d e 0 0 q :=
  Or.inl ⟨j, 0, 0, _, _, by omega, hj, by omega, by omega, Fo_nil, fun p N hp _ => by rw [List.append_nil]; exact hg p N hp, fun Q p nR nN nd hQ hQR hR0 hnd hZ => ⟨nR, nN, nd, gwR_r W nR, gwN_r n nN, hQR, hnd, fun zs cont E_ mc ms c tt h hb kk => hv Q nR nN nd cont E_ mc ms p zs c tt hZ h (kk zs c tt (by rw [List.append_nil]; exact h) (cnt_r ..))⟩⟩
theorem JQ_cg {t : FN} {n nTp : Nat} {so : FN} {W nT : Nat} {Z : ZP} {zc : Int32 → Prop} {j d d' : Nat} {e k a q : Int} {g g' : GO} {v v' : SV} (h : JQ t n nTp so W nT Z zc g v j d d' e k a q) (hg : ∀ p N, zc p → g' p (j, false, nI d, N) = g p (j, false, nI d, N)) (hv : ∀ (Q : List pRw) (nR nN nd : Nat) cont E_ mc ms p zs c tt, Z Q p → RP t n nTp so Q nR nN nd d j zs → v cont E_ mc ms p zs c tt → v' cont E_ mc ms p zs c tt) : JQ t n nTp so W nT Z zc g' v' j d d' e k a q := by
  rcases h with ⟨j1, m1, rn1, L1, R1, c1, c2, c3, c4, c5, c6, c7⟩ | ⟨j1, c1, c2, c3, c4⟩
  · refine Or.inl ⟨j1, m1, rn1, L1, R1, c1, c2, c3, c4, c5, fun p N hp hN => by rw [hg p N hp]; exact c6 p N hp hN, fun Q p nR nN nd hQ hQR hR0 hnd hZ => ?_⟩
    obtain ⟨nR', nN', nd', b1, b2, b3, b4, b5⟩ := c7 Q p nR nN nd hQ hQR hR0 hnd hZ
    exact ⟨nR', nN', nd', b1, b2, b3, b4, fun zs cont E_ mc ms c tt h hb kk => hv Q nR nN nd cont E_ mc ms p zs c tt hZ h (b5 zs cont E_ mc ms c tt h hb kk)⟩
  · refine Or.inr ⟨j1, c1, c2, fun p N hp hN => by rw [hg p N hp]; exact c3 p N hp hN, fun Q p nR nN nd hQ hQR hR0 hnd hZ => ?_⟩
    obtain ⟨nR', nN', b1, b2, b5⟩ := c4 Q p nR nN nd hQ hQR hR0 hnd hZ
    exact ⟨nR', nN', b1, b2, fun zs cont E_ mc ms c tt h hb kk => hv Q nR nN nd cont E_ mc ms p zs c tt hZ h (b5 zs cont E_ mc ms c tt h hb kk)⟩
theorem S_frac2 {t : FN} {n nTp : Nat} {so : FN} {W nT : Nat} {Z : ZP} {zc : Int32 → Prop} (hW : rW t n nTp so W) (hWT : W ≤ nT) (hzs : zS Z) {j d : Nat} (hj : j < W) {e q : Int} (he : e ≤ 3) (hq : q ≤ 1) : JQ t n nTp so W nT Z zc (fun p st => gFrac2 so nT p st) (fun cont E_ mc ms p zs c tt => vc_M_is zs 47 (fun r_14 => ((r_14 = 0 → cont zs c tt) ∧ (¬ r_14 = 0 → (vc_M_next zs (fun zs_17 => (∃ c_20 s_21 : Nat, c + c_20 ≤ mc ∧ tt + s_21 ≤ ms ∧ (vc_M_numberPiece c_20 s_21 zs_17 p (fun r_18 zs_19 => cont zs_19 (c + c_20) (tt + s_21)) (fun zse_22 => (E_ zse_22)))))))))) j d d e 0 0 q := by
  by_cases h : so j = 47
  · have s1 := JQ_seq (Z := Z) (zc := zc) (S_step (nT := nT) hW (x := 47) (by decide) (by decide) (d := d) hj h e q) (fun j1 _ hj1 => S_num (nT := nT) (d := d) (e := 3) (q := 0) hW hWT hj1 (by omega) (by omega)) (fun p => ff_number) (by omega) hzs (by omega)
    refine JQ_w (JQ_cg s1 (fun p N _ => ?_) (fun Q nR nN nd cont E_ mc ms p zs c tt _ h2 hv => ?_)) (Int.le_refl _) (by omega) (by omega) (Int.le_refl _)
    · show gFrac2 so nT p (j, false, nI d, N) = _
      unfold gFrac2; rw [ps_g, if_pos h]
    · exact q_is hW hj h2.1.1.1 h2.1.1.2.1 h2.2.1 sg_in.2.2.2.2.2.2.2.1 (fun _ => ⟨fun q => absurd q (by decide), fun _ => hv⟩) (fun q => absurd h q)
  · refine JQ_id hj (fun p N _ => ?_) (fun Q nR nN nd cont E_ mc ms p zs c tt _ h2 hv => ?_)
    · show gFrac2 so nT p (j, false, nI d, N) = _
      unfold gFrac2; rw [ps_g, if_neg h]
    · exact q_is hW hj h2.1.1.1 h2.1.1.2.1 h2.2.1 sg_in.2.2.2.2.2.2.2.1 (fun q => absurd q h) (fun _ => ⟨fun _ => hv, fun q => absurd rfl q⟩)
def vF41 : SV := fun cont E_ mc ms p zs c tt => ∃ c1 s1 : Nat, c + c1 ≤ mc ∧ tt + s1 ≤ ms ∧ vc_M_numberPiece c1 s1 zs p (fun _ z => vc_M_is z 47 (fun r_14 => ((r_14 = 0 → cont z (c + c1) (tt + s1)) ∧ (¬ r_14 = 0 → (vc_M_next z (fun zs_17 => (∃ c_20 s_21 : Nat, (c + c1) + c_20 ≤ mc ∧ (tt + s1) + s_21 ≤ ms ∧ (vc_M_numberPiece c_20 s_21 zs_17 p (fun r_18 zs_19 => cont zs_19 ((c + c1) + c_20) ((tt + s1) + s_21)) (fun zse_22 => (E_ zse_22)))))))))) E_
theorem S_f41 {t : FN} {n nTp : Nat} {so : FN} {W nT : Nat} {Z : ZP} {zc : Int32 → Prop} (hW : rW t n nTp so W) (hWT : W ≤ nT) (hzs : zS Z) {j d : Nat} (hj : j < W) {e q : Int} (he : e ≤ 3) (hq : q ≤ 1) : JQ t n nTp so W nT Z zc (fun p st => gFrac2 so nT p (gNumber so nT p 0 st)) vF41 j d d e 0 (-3) q := by
  have s := JQ_seq (Z := Z) (zc := zc) (S_num (nT := nT) (d := d) hW hWT hj he hq) (fun j1 _ hj1 => S_frac2 (nT := nT) (d := d) (e := 3) (q := 1) hW hWT hzs hj1 (by omega) (by omega)) (fun p => ff_frac2) (by omega) hzs (by omega)
  exact JQ_w s (Int.le_refl _) (by omega) (by omega) (Int.le_refl _)
def JY (t : FN) (n nTp : Nat) (so : FN) (W nT : Nat) (g : GT) (v : VR) (j d e u : Nat) (q : Int) : Prop :=
  (∃ (j' m rn : Nat) (L : LT3) (R : RT3), j < j' ∧ j' < W ∧ m + j ≤ j' + u ∧ rn + 4 * j ≤ 4 * j' ∧ Tr W m rn L R ∧ (∀ p s N, (N.length : Int) ≤ j + q → g p s (j, false, nI d, N) = (j', false, nI d, N ++ L N.length p s)) ∧ rOk t n nTp so W v j d j' rn R e) ∨
  (∃ j', j ≤ j' ∧ j' < W ∧ (∀ p s N, (N.length : Int) ≤ j + q → ∃ d' N', g p s (j, false, nI d, N) = (j', true, d', N')) ∧ rFl t n nTp so W v j d j' e)
theorem J_frac {t : FN} {n nTp : Nat} {so : FN} {W nT : Nat} (hW : rW t n nTp so W) (hWT : W ≤ nT) {j d : Nat} (hj : j < W) {q : Int} (hq : q ≤ 0) : JY t n nTp so W nT (fun p s st => gFraction so nT p s st) (fun mc ms zs p K E => vc_M_fraction mc ms zs p K E) j d 0 1 q := by
  have w := tk_so hW hj
  have hb1 := psb_b t n j
  have hb2 := sb_n t n j
  have bh : ∀ (Q : List pRw) (p : Int32) (nR nN nd : Nat) (z : RS), RP t n nTp so (Q ++ [(9, j, p, 0, -1, 0, 0)]) nR nN nd d j z → RP t n nTp so (Q ++ [(9, j, p, 0, -1, 0, 5)]) nR nN nd d j (RS.w_Bh z (upd z.Bh Q.length (if so j = 45 then 1 else 0))) := by
    intro Q p nR nN nd z h
    obtain ⟨⟨hC, x1, x2, x3, x4, x5, x6, x7, x8⟩, hL, hn⟩ := h
    refine ⟨⟨hC, x1, by simpa using x2, by simpa using x3, x4, x5, x6, x7, fun i a hi => ?_⟩, hL, hn⟩
    by_cases hiq : i = Q.length
    · subst hiq
      simp at hi
      subst hi
      obtain ⟨y1, y2, y3, y4, y5, y6, y7, y8, y9, y10, y11⟩ := x8 Q.length (9, j, p, 0, -1, 0, 0) (by simp)
      exact ⟨y1, y2, y3, y4, y5, y6, y7, y8, y9, upd_eq, fun w hw => by simp [nmW] at hw⟩
    · have hlt : i < Q.length := by
        have := (List.getElem?_eq_some_iff.mp hi).1
        simp at this
        omega
      rw [List.getElem?_append_left hlt] at hi
      exact rowOk_cg (x8 i a (by rw [List.getElem?_append_left hlt]; exact hi)) rfl rfl rfl rfl rfl rfl rfl rfl rfl (upd_ne hiq) rfl rfl
  have ru : ∀ (Q : List pRw) (p : Int32) (nR nN nd : Nat), Q.length ≤ 4 * j → Q.length ≤ nR → 1 ≤ nR ∧ nR % 4 = 0 → ∀ zs K_ E_ mc ms, RP t n nTp so Q nR nN nd d j zs → grR nR Q.length ≤ 4 * mc + nR → 24 * grR nR Q.length ≤ ms + 24 * nR →
      (so j = 45 → ∀ z1, RP t n nTp so (Q ++ [(9, j, p, 0, -1, 0, 5)]) (grR nR Q.length) nN nd d (j + 1) z1 → vj_M_fraction_41 mc ms K_ E_ (nI Q.length) z1 ((grR nR Q.length - nR) / 4) (24 * (grR nR Q.length - nR))) →
      (so j ≠ 45 → ∀ z1, RP t n nTp so (Q ++ [(9, j, p, 0, -1, 0, 5)]) (grR nR Q.length) nN nd d j z1 → vj_M_fraction_41 mc ms K_ E_ (nI Q.length) z1 ((grR nR Q.length - nR) / 4) (24 * (grR nR Q.length - nR))) → vc_M_fraction mc ms zs p K_ E_ := by
    intro Q p nR nN nd hQ hQR hR0 zs K_ E_ mc ms h hc ht hv1 hv2
    have g1 : nR ≤ grR nR Q.length ∧ (grR nR Q.length - nR) % 4 = 0 := by unfold grR; split <;> omega
    have g2 : Q.length + 1 ≤ grR nR Q.length := by unfold grR; split <;> omega
    refine ⟨(grR nR Q.length - nR) / 4, 24 * (grR nR Q.length - nR), by omega, by omega, q_piece h (by omega) (by omega) (by omega) (fun z1 h1 => ?_)⟩
    rw [Nat.zero_add, Nat.zero_add]
    have eR : z1.nR = grR nR Q.length := h1.1.1.2.2.2.1
    have hR9 := h1.1.1.2.2.2.2.2.2.2.2.1
    have h2 := bh Q p _ nN nd z1 h1
    unfold vj_M_fraction_27
    rw [eR, nI_clamp (by omega)]
    have hin := pu_in (n := Q.length) (N := grR nR Q.length) (by omega) (by omega)
    refine q_is hW hj h1.1.1.1 h1.1.1.2.1 h1.2.1 sg_in.2.2.2.2.2.1 (fun a => ⟨fun q => absurd q (by decide), fun _ => ⟨hin, q_is hW hj h1.1.1.1 h1.1.1.2.1 h1.2.1 sg_in.2.2.2.2.2.1 (fun _ => ⟨fun q => absurd q (by decide), fun _ => ?_⟩) (fun q => absurd a q)⟩⟩) (fun a => ⟨fun _ => ⟨hin, q_is hW hj h1.1.1.1 h1.1.1.2.1 h1.2.1 sg_in.2.2.2.2.2.1 (fun q => absurd q a) (fun _ => ⟨fun _ => ?_, fun q => absurd rfl q⟩)⟩, fun q => absurd rfl q⟩)
    · rw [if_pos a] at h2
      exact q_nextP hW h2 (tk_go hW hj a (by decide) (by decide)) (hv1 a)
    · rw [if_neg a] at h2
      exact hv2 a _ h2
  have fin : ∀ i, i < W → j ≤ i → (∀ p s N, gFraction so nT p s (j, false, nI d, N) = gFrac2 so nT (gR nT (j, false, nI d, N)) (gNumber so nT (gR nT (j, false, nI d, N)) 0 (i, false, nI d, (gAdd nT 9 p s (j, false, nI d, N)).2.2.2))) →
      (∀ (Q : List pRw) (p : Int32) (nR nN nd : Nat), Q.length ≤ 4 * j → Q.length ≤ nR → 1 ≤ nR ∧ nR % 4 = 0 → ∀ zs K_ E_ mc ms, RP t n nTp so Q nR nN nd d j zs → grR nR Q.length ≤ 4 * mc + nR → 24 * grR nR Q.length ≤ ms + 24 * nR → (∀ z1, RP t n nTp so (Q ++ [(9, j, p, 0, -1, 0, 5)]) (grR nR Q.length) nN nd d i z1 → vj_M_fraction_41 mc ms K_ E_ (nI Q.length) z1 ((grR nR Q.length - nR) / 4) (24 * (grR nR Q.length - nR))) → vc_M_fraction mc ms zs p K_ E_) →
      JY t n nTp so W nT (fun p s st => gFraction so nT p s st) (fun mc ms zs p K E => vc_M_fraction mc ms zs p K E) j d 0 1 q := by
    intro i hi hji eg hr
    have hbi : sbN t n j ≤ sbN t n i := by
      have : ∀ q, sbN t n j ≤ sbN t n (j + q) := by
        intro q
        induction q with
        | zero => exact Nat.le_refl _
        | succ q ih =>
          have := psb_b t n (j + q); have := sb_n t n (j + q)
          have e : j + (q + 1) = j + q + 1 := rfl
          rw [e]; omega
      have := this (i - j)
      rw [show j + (i - j) = i from by omega] at this
      exact this
    rcases S_f41 (nT := nT) (Z := fun _ _ => True) (zc := fun _ => True) (d := d) (e := 1) (q := q + 1) hW hWT (fun _ _ _ _ => trivial) hi (by omega) (by omega) with ⟨j', m, rn, L, R, c1, c2, c3, c4, c5, c6, c7⟩ | ⟨j', c1, c2, c3, c4⟩
    · have hpos : i < j' := by
        by_cases q : i < j'
        · exact q
        · have e : i = j' := by omega
          subst e
          omega
      refine Or.inl ⟨j', m + 1, rn + 1, _, _, by omega, c2, by omega, by omega, Tr_node c5 9 j (-1) 0 5 (by decide) rfl (by omega), fun p s N hN => ?_, fun Q p nR nN nd hQ hQR hR0 hnd => ?_⟩
      · refine (eg p s N).trans ?_
        rw [g_add (by omega), g_R (by omega)]
        refine (c6 (nI N.length) (N ++ [(9, j, p, s, -1)]) trivial (by simp only [List.length_append, List.length_cons, List.length_nil]; omega)).trans ?_
        simp only [List.length_append, List.length_cons, List.length_nil, List.append_assoc, List.cons_append, List.nil_append, Nat.zero_add]
      · obtain ⟨g1, g2⟩ := gwR_g (W := W) hR0 hQR (by omega)
        have hlF : (Q ++ [((9 : Int32), j, p, (0 : Int32), (-1 : Int32), 0, 5)]).length = Q.length + 1 := by simp
        obtain ⟨nR1, nN1, nd1, b1, b2, b3, b4, b5⟩ := c7 (Q ++ [(9, j, p, 0, -1, 0, 5)]) (nI Q.length) (grR nR Q.length) nN nd (by omega) (by omega) (by have := g1.1; omega) (by omega) trivial
        refine ⟨nR1, nN1, nd1, gwR_t g1 b1, b2, by omega, b4, fun zs K_ E_ mc ms h hb kk => ?_⟩
        have hm0 := g1.1; have hm1 := b1.1; have hm2 := b2.1
        obtain ⟨hb1, hb2⟩ := hb
        refine hr Q p nR nN nd (by omega) hQR hR0 zs K_ E_ mc ms h (by omega) (by omega) (fun z1 h1 => ?_)
        refine b5 z1 (fun z _ _ => K_ (nI Q.length) z) E_ mc ms _ _ h1 ⟨by omega, by omega⟩ (fun z2 c' t' h2 hc2 => kk z2 ?_)
        rw [hlF, List.append_assoc] at h2
        exact h2
    · refine Or.inr ⟨j', by omega, c2, fun p s N hN => ?_, fun Q p nR nN nd hQ hQR hR0 hnd => ?_⟩
      · have e0 : (gAdd nT 9 p s (j, false, nI d, N)).2.2.2.length ≤ N.length + 1 := by
          rw [g_add (by omega)]; simp
        obtain ⟨d2, N2, e2⟩ := c3 (gR nT (j, false, nI d, N)) (gAdd nT 9 p s (j, false, nI d, N)).2.2.2 trivial (by omega)
        exact ⟨d2, N2, (eg p s N).trans e2⟩
      · obtain ⟨g1, g2⟩ := gwR_g (W := W) hR0 hQR (by omega)
        have hlF : (Q ++ [((9 : Int32), j, p, (0 : Int32), (-1 : Int32), 0, 5)]).length = Q.length + 1 := by simp
        obtain ⟨nR1, nN1, b1, b2, b5⟩ := c4 (Q ++ [(9, j, p, 0, -1, 0, 5)]) (nI Q.length) (grR nR Q.length) nN nd (by omega) (by omega) (by have := g1.1; omega) (by omega) trivial
        refine ⟨nR1, nN1, gwR_t g1 b1, b2, fun zs K_ E_ mc ms h hb kk => ?_⟩
        have hm0 := g1.1; have hm1 := b1.1; have hm2 := b2.1
        obtain ⟨hb1, hb2⟩ := hb
        exact hr Q p nR nN nd (by omega) hQR hR0 zs K_ E_ mc ms h (by omega) (by omega) (fun z1 h1 => b5 z1 (fun z _ _ => K_ (nI Q.length) z) E_ mc ms _ _ h1 ⟨by omega, by omega⟩ kk)
  by_cases h45 : so j = 45
  · refine fin (j + 1) (tk_go hW hj h45 (by decide) (by decide)) (by omega) (fun p s N => ?_) (fun Q p nR nN nd hQ hQR hR0 zs K_ E_ mc ms h hc ht hv => ru Q p nR nN nd hQ hQR hR0 zs K_ E_ mc ms h hc ht (fun _ => hv) (fun q => absurd h45 q))
    unfold gFraction; rw [ps_g, if_pos h45]; rfl
  · refine fin j hj (Nat.le_refl _) (fun p s N => ?_) (fun Q p nR nN nd hQ hQR hR0 zs K_ E_ mc ms h hc ht hv => ru Q p nR nN nd hQ hQR hR0 zs K_ E_ mc ms h hc ht (fun q => absurd q h45) (fun _ => hv))
    unfold gFraction; rw [ps_g, if_neg h45]; rfl
