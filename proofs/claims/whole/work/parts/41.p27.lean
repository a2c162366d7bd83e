theorem ff_namesL {so : FN} {nT : Nat} {p s : Int32} : ∀ f, ff (gNamesL so nT p s f)
  | 0 => ff_id
  | f + 1 => ff_if (c := fun st => psS so st = 44) (fun j d N => by rw [ps_f]; decide) ff_id
def JNL (t : FN) (n nTp : Nat) (so : FN) (W nT : Nat) (s : Int32) (j d : Nat) : Prop :=
  (∃ (j' m rn : Nat) (L : LF2) (R : RF2), j ≤ j' ∧ j' < W ∧ m + j ≤ j' ∧ rn + 4 * j ≤ 4 * j' ∧ Fo W m rn L R ∧
    (∀ (p : Int32) (f : Nat) (N : List pNd), W ≤ f + j → (∃ N', gNamesL so nT p s f (j, false, nI d, N) = (j', false, nI d, N')) ∧ (N.length + m ≤ nT → gNamesL so nT p s f (j, false, nI d, N) = (j', false, nI d, N ++ L N.length p))) ∧
    (∀ (Q : List pRw) (p : Int32) (nR nN nd : Nat), Q.length ≤ 4 * j → Q.length ≤ nR → 1 ≤ nR ∧ nR % 4 = 0 → nd ≤ sbN t n j → ∃ nR' nN' nd' : Nat, gwR W nR nR' ∧ gwN n nN nN' ∧ Q.length + rn ≤ nR' ∧ nd' ≤ sbN t n j' ∧
      ∀ zs K_ E_ mc ms c tt f, W ≤ f + j → RP t n nTp so Q nR nN nd d j zs → budC nR nN nR' nN' mc ms c tt →
        (∀ z', RP t n nTp so (Q ++ R Q.length p) nR' nN' nd' d j' z' → K_ z') → vl_M_names_7 mc ms K_ E_ (f + 1) p s zs c tt)) ∨
  (∃ j', j ≤ j' ∧ j' < W ∧ (∀ (p : Int32) (f : Nat) (N : List pNd), W ≤ f + j → ∃ d' N', gNamesL so nT p s f (j, false, nI d, N) = (j', true, d', N')) ∧
    (∀ (Q : List pRw) (p : Int32) (nR nN nd : Nat), Q.length ≤ 4 * j → Q.length ≤ nR → 1 ≤ nR ∧ nR % 4 = 0 → nd ≤ sbN t n j → ∃ nR' nN' : Nat, gwR W nR nR' ∧ gwN n nN nN' ∧
      ∀ zs K_ E_ mc ms c tt f, W ≤ f + j → RP t n nTp so Q nR nN nd d j zs → budC nR nN nR' nN' mc ms c tt → (∀ z', RF t n nTp so nR' nN' j' z' → E_ z') → vl_M_names_7 mc ms K_ E_ (f + 1) p s zs c tt))
theorem J_NL {t : FN} {n nTp : Nat} {so : FN} {W nT : Nat} (hW : rW t n nTp so W) {s : Int32} {d : Nat} : ∀ k j, j < W → W ≤ k + j → JNL t n nTp so W nT s j d := by
  intro k
  induction k with
  | zero => intro j hj hk; omega
  | succ k ih =>
    intro j hj hk
    have w := tk_so hW hj
    have hb1 := psb_b t n j
    have hb2 := sb_n t n j
    by_cases hjn : so j = 44
    · have a1 := tk_go hW hj hjn (by decide) (by decide)
      have eg : ∀ p f N, gNamesL so nT p s (f + 1) (j, false, nI d, N) = gNamesL so nT p s f (gName so nT p s (j + 1, false, nI d, N)) := by
        intro p f N
        have hj1 : psS so (j, false, nI d, N) = 44 := hjn
        show (if psS so (j, false, nI d, N) = 44 then _ else _) = _
        rw [if_pos hj1]
        rfl
      have ru : ∀ (Q : List pRw) (p : Int32) (nR nN nd : Nat) zs K_ E_ mc ms c tt f, RP t n nTp so Q nR nN nd d j zs →
          (∀ z1, RP t n nTp so Q nR nN nd d (j + 1) z1 → ∃ c_23 s_24 : Nat, c + c_23 ≤ mc ∧ tt + s_24 ≤ ms ∧ (vc_M_namePiece c_23 s_24 z1 p s (fun r_21 zs_22 => (vl_M_names_7 mc ms K_ E_ f p s zs_22 (c + c_23) (tt + s_24))) (fun zse_25 => (E_ zse_25)))) → vl_M_names_7 mc ms K_ E_ (f + 1) p s zs c tt := by
        intro Q p nR nN nd zs K_ E_ mc ms c tt f h hv
        unfold vl_M_names_7
        exact q_is hW hj h.1.1.1 h.1.1.2.1 h.2.1 sg_in.2.2.2.2.1 (fun _ => ⟨fun q => absurd q (by decide), fun _ => q_nextP hW h a1 hv⟩) (fun q => absurd hjn q)
      by_cases h3 : so (j + 1) = 3
      · obtain ⟨c2, c6, c7⟩ := J_nam (nT := nT) (d := d) hW a1 h3 s
        have cls : ∀ p N, (∃ N', gName so nT p s (j + 1, false, nI d, N) = (j + 2, false, nI d, N')) ∧ (N.length + 1 ≤ nT → gName so nT p s (j + 1, false, nI d, N) = (j + 2, false, nI d, N ++ [(15, j + 1, p, s, -1)])) := fun p N => c6 p s N
        rcases ih (j + 2) c2 (by omega) with ⟨j', m, rn, L, R, d1, d2, d3, d4, d5, d9, d10⟩ | ⟨j', d1, d2, d4, d5⟩
        · refine Or.inl ⟨j', 1 + m, 1 + rn, _, _, by omega, d2, by omega, by omega, Fo_app (Fo_tree (Tr_leaf 15 (j + 1) (-1) 1 rfl (by omega)) s) d5, fun p f N hf => ?_, fun Q p nR nN nd hQ hQR hR0 hnd => ?_⟩
          · obtain ⟨f, rfl⟩ : ∃ g, f = g + 1 := ⟨f - 1, by omega⟩
            rw [eg]
            refine ⟨?_, fun hN => ?_⟩
            · obtain ⟨N1, e1⟩ := (cls p N).1
              rw [e1]
              exact (d9 p f N1 (by omega)).1
            · rw [(cls p N).2 (by omega), (d9 p f _ (by omega)).2 (by simp only [List.length_append, List.length_cons, List.length_nil]; omega)]
              simp only [List.length_append, List.length_cons, List.length_nil, List.append_assoc, Nat.zero_add]
          · obtain ⟨nR1, nN1, nd1, b1, b2, b3, b4, b5⟩ := c7 Q p nR nN nd (by omega) hQR hR0 (by omega)
            have hlen : (Q ++ [((15 : Int32), j + 1, p, s, (-1 : Int32), 0, 1)]).length = Q.length + 1 := by simp
            obtain ⟨nR2, nN2, nd2, e1, e2, e3, e4, e5⟩ := d10 (Q ++ [((15 : Int32), j + 1, p, s, (-1 : Int32), 0, 1)]) p nR1 nN1 nd1 (by omega) (by omega) (by have := b1.1; omega) b4
            refine ⟨nR2, nN2, nd2, gwR_t b1 e1, gwN_t b2 e2, by omega, e4, fun zs K_ E_ mc ms c tt f hf h hb kk => ?_⟩
            obtain ⟨f, rfl⟩ : ∃ g, f = g + 1 := ⟨f - 1, by omega⟩
            have hm1 := b1.1; have hm2 := b2.1; have hm3 := e1.1; have hm4 := e2.1
            obtain ⟨hb1, hb2⟩ := hb
            refine ru Q p nR nN nd zs K_ E_ mc ms c tt (f + 1) h (fun z1 h1 => ⟨(nR1 - nR) / 4 + nN1 - nN, 24 * nR1 + 2 * nN1 - 24 * nR - 2 * nN, by omega, by omega, ?_⟩)
            refine b5 z1 _ _ _ _ h1 ⟨by omega, by omega⟩ (fun z2 h2 => ?_)
            refine e5 z2 K_ E_ mc ms _ _ f (by omega) h2 ⟨by omega, by omega⟩ (fun z4 h4 => kk z4 ?_)
            rw [hlen, List.append_assoc] at h4
            exact h4
        · refine Or.inr ⟨j', by omega, d2, fun p f N hf => ?_, fun Q p nR nN nd hQ hQR hR0 hnd => ?_⟩
          · obtain ⟨f, rfl⟩ : ∃ g, f = g + 1 := ⟨f - 1, by omega⟩
            rw [eg]
            obtain ⟨N1, e1⟩ := (cls p N).1
            rw [e1]
            exact d4 p f N1 (by omega)
          · obtain ⟨nR1, nN1, nd1, b1, b2, b3, b4, b5⟩ := c7 Q p nR nN nd (by omega) hQR hR0 (by omega)
            have hlen : (Q ++ [((15 : Int32), j + 1, p, s, (-1 : Int32), 0, 1)]).length = Q.length + 1 := by simp
            obtain ⟨nR2, nN2, e1, e2, e5⟩ := d5 (Q ++ [((15 : Int32), j + 1, p, s, (-1 : Int32), 0, 1)]) p nR1 nN1 nd1 (by omega) (by omega) (by have := b1.1; omega) b4
            refine ⟨nR2, nN2, gwR_t b1 e1, gwN_t b2 e2, fun zs K_ E_ mc ms c tt f hf h hb kk => ?_⟩
            obtain ⟨f, rfl⟩ : ∃ g, f = g + 1 := ⟨f - 1, by omega⟩
            have hm1 := b1.1; have hm2 := b2.1; have hm3 := e1.1; have hm4 := e2.1
            obtain ⟨hb1, hb2⟩ := hb
            refine ru Q p nR nN nd zs K_ E_ mc ms c tt (f + 1) h (fun z1 h1 => ⟨(nR1 - nR) / 4 + nN1 - nN, 24 * nR1 + 2 * nN1 - 24 * nR - 2 * nN, by omega, by omega, ?_⟩)
            refine b5 z1 _ _ _ _ h1 ⟨by omega, by omega⟩ (fun z2 h2 => ?_)
            exact e5 z2 K_ E_ mc ms _ _ f (by omega) h2 ⟨by omega, by omega⟩ kk
      · obtain ⟨c3, c4⟩ := J_namF (nT := nT) (d := d) hW a1 h3 s
        refine Or.inr ⟨j + 1, by omega, a1, fun p f N hf => ?_, fun Q p nR nN nd hQ hQR hR0 hnd => ?_⟩
        · obtain ⟨f, rfl⟩ : ∃ g, f = g + 1 := ⟨f - 1, by omega⟩
          rw [eg]
          obtain ⟨d1, N1, e1⟩ := c3 p s N
          have e1' : gName so nT p s (j + 1, false, nI d, N) = (j + 1, true, d1, N1) := e1
          rw [e1']
          exact ff_namesL f (j + 1) d1 N1
        · obtain ⟨nR1, nN1, b1, b2, b5⟩ := c4 Q p nR nN nd (by omega) hQR hR0 (by omega)
          refine ⟨nR1, nN1, b1, b2, fun zs K_ E_ mc ms c tt f hf h hb kk => ?_⟩
          have hm1 := b1.1; have hm2 := b2.1
          obtain ⟨hb1, hb2⟩ := hb
          exact ru Q p nR nN nd zs K_ E_ mc ms c tt f h (fun z1 h1 => ⟨(nR1 - nR) / 4 + nN1 - nN, 24 * nR1 + 2 * nN1 - 24 * nR - 2 * nN, by omega, by omega, b5 z1 _ _ _ _ h1 ⟨by omega, by omega⟩ kk⟩)
    · refine Or.inl ⟨j, 0, 0, _, _, by omega, hj, by omega, by omega, Fo_nil, fun p f N hf => ?_, fun Q p nR nN nd hQ hQR hR0 hnd => ?_⟩
      · obtain ⟨f, rfl⟩ : ∃ g, f = g + 1 := ⟨f - 1, by omega⟩
        have e : gNamesL so nT p s (f + 1) (j, false, nI d, N) = (j, false, nI d, N) := by
          have hj1 : ¬ psS so (j, false, nI d, N) = 44 := hjn
          show (if psS so (j, false, nI d, N) = 44 then _ else _) = _
          rw [if_neg hj1]
        rw [e]
        exact ⟨⟨N, rfl⟩, fun _ => by rw [List.append_nil]⟩
      · refine ⟨nR, nN, nd, gwR_r W nR, gwN_r n nN, hQR, hnd, fun zs K_ E_ mc ms c tt f hf h hb kk => ?_⟩
        have k0 := kk zs (by rw [List.append_nil]; exact h)
        unfold vl_M_names_7
        exact q_is hW hj h.1.1.1 h.1.1.2.1 h.2.1 sg_in.2.2.2.2.1 (fun q => absurd q hjn) (fun _ => ⟨fun _ => k0, fun q => absurd rfl q⟩)
theorem S_names {t : FN} {n nTp : Nat} {so : FN} {W nT : Nat} {Z : ZP} {zc : Int32 → Prop} (hW : rW t n nTp so W) (hWT : W ≤ nT) (s : Int32) {j d : Nat} (hj : j < W) {e q : Int} (he : e ≤ 3) (hq : q ≤ 1) : JQ t n nTp so W nT Z zc (fun p st => gNames so W nT p s st) (fun cont E_ mc ms p zs c tt => ∃ c1 s1 : Nat, c + c1 ≤ mc ∧ tt + s1 ≤ ms ∧ vc_M_names c1 s1 zs p s (fun z => cont z (c + c1) (tt + s1)) E_) j d d e 0 (-3) q := by
  by_cases h3 : so j = 3
  · obtain ⟨a1, a2, a3⟩ := J_nam (nT := nT) (d := d) hW hj h3 s
    have cls : ∀ p N, (∃ N', gName so nT p s (j, false, nI d, N) = (j + 1, false, nI d, N')) ∧ (N.length + 1 ≤ nT → gName so nT p s (j, false, nI d, N) = (j + 1, false, nI d, N ++ [(15, j, p, s, -1)])) := fun p N => a2 p s N
    rcases J_NL (nT := nT) (s := s) (d := d) hW W (j + 1) a1 (by omega) with ⟨j', m, rn, L, R, d1, d2, d3, d4, d5, d9, d10⟩ | ⟨j', d1, d2, d4, d5⟩
    · refine Or.inl ⟨j', 1 + m, 1 + rn, _, _, by omega, d2, by omega, by omega, Fo_app (Fo_tree (Tr_leaf 15 j (-1) 1 rfl (by omega)) s) d5, fun p N _ hN => ?_, fun Q p nR nN nd hQ hQR hR0 hnd hZ => ?_⟩
      · show gNamesL so nT p s W (gName so nT p s (j, false, nI d, N)) = _
        rw [(cls p N).2 (by omega), (d9 p W _ (by omega)).2 (by simp only [List.length_append, List.length_cons, List.length_nil]; omega)]
        simp only [List.length_append, List.length_cons, List.length_nil, List.append_assoc, Nat.zero_add]
      · obtain ⟨nR1, nN1, nd1, b1, b2, b3, b4, b5⟩ := a3 Q p nR nN nd (by omega) hQR hR0 hnd
        have hlen : (Q ++ [((15 : Int32), j, p, s, (-1 : Int32), 0, 1)]).length = Q.length + 1 := by simp
        obtain ⟨nR2, nN2, nd2, e1, e2, e3, e4, e5⟩ := d10 (Q ++ [((15 : Int32), j, p, s, (-1 : Int32), 0, 1)]) p nR1 nN1 nd1 (by omega) (by omega) (by have := b1.1; omega) b4
        refine ⟨nR2, nN2, nd2, gwR_t b1 e1, gwN_t b2 e2, by omega, e4, fun zs cont E_ mc ms c tt h hb kk => ?_⟩
        have hm1 := b1.1; have hm2 := b2.1; have hm3 := e1.1; have hm4 := e2.1
        obtain ⟨hb1, hb2⟩ := hb
        refine ⟨(nR2 - nR) / 4 + nN2 - nN, 24 * nR2 + 2 * nN2 - 24 * nR - 2 * nN, by omega, by omega, (nR1 - nR) / 4 + nN1 - nN, 24 * nR1 + 2 * nN1 - 24 * nR - 2 * nN, by omega, by omega, ?_⟩
        refine b5 zs _ _ _ _ h ⟨by omega, by omega⟩ (fun z2 h2 => ⟨W + 1, ?_⟩)
        refine e5 z2 _ E_ _ _ _ _ W (by omega) h2 ⟨by omega, by omega⟩ (fun z4 h4 => kk z4 _ _ ?_ ⟨by omega, by omega⟩)
        rw [hlen, List.append_assoc] at h4
        exact h4
    · refine Or.inr ⟨j', by omega, d2, fun p N _ _ => ?_, fun Q p nR nN nd hQ hQR hR0 hnd hZ => ?_⟩
      · obtain ⟨N1, e1⟩ := (cls p N).1
        show ∃ d' N', gNamesL so nT p s W (gName so nT p s (j, false, nI d, N)) = _
        rw [e1]
        exact d4 p W N1 (by omega)
      · obtain ⟨nR1, nN1, nd1, b1, b2, b3, b4, b5⟩ := a3 Q p nR nN nd (by omega) hQR hR0 hnd
        have hlen : (Q ++ [((15 : Int32), j, p, s, (-1 : Int32), 0, 1)]).length = Q.length + 1 := by simp
        obtain ⟨nR2, nN2, e1, e2, e5⟩ := d5 (Q ++ [((15 : Int32), j, p, s, (-1 : Int32), 0, 1)]) p nR1 nN1 nd1 (by omega) (by omega) (by have := b1.1; omega) b4
        refine ⟨nR2, nN2, gwR_t b1 e1, gwN_t b2 e2, fun zs cont E_ mc ms c tt h hb kk => ?_⟩
        have hm1 := b1.1; have hm2 := b2.1; have hm3 := e1.1; have hm4 := e2.1
        obtain ⟨hb1, hb2⟩ := hb
        refine ⟨(nR2 - nR) / 4 + nN2 - nN, 24 * nR2 + 2 * nN2 - 24 * nR - 2 * nN, by omega, by omega, (nR1 - nR) / 4 + nN1 - nN, 24 * nR1 + 2 * nN1 - 24 * nR - 2 * nN, by omega, by omega, ?_⟩
        refine b5 zs _ _ _ _ h ⟨by omega, by omega⟩ (fun z2 h2 => ⟨W + 1, ?_⟩)
        exact e5 z2 _ E_ _ _ _ _ W (by omega) h2 ⟨by omega, by omega⟩ kk
  · obtain ⟨a2, a3⟩ := J_namF (nT := nT) (d := d) hW hj h3 s
    refine Or.inr ⟨j, by omega, hj, fun p N _ _ => ?_, fun Q p nR nN nd hQ hQR hR0 hnd hZ => ?_⟩
    · obtain ⟨d1, N1, e1⟩ := a2 p s N
      have e1' : gName so nT p s (j, false, nI d, N) = (j, true, d1, N1) := e1
      show ∃ d' N', gNamesL so nT p s W (gName so nT p s (j, false, nI d, N)) = _
      rw [e1']
      exact ff_namesL W j d1 N1
    · obtain ⟨nR1, nN1, b1, b2, b5⟩ := a3 Q p nR nN nd (by omega) hQR hR0 hnd
      refine ⟨nR1, nN1, b1, b2, fun zs cont E_ mc ms c tt h hb kk => ?_⟩
      have hm1 := b1.1; have hm2 := b2.1
      obtain ⟨hb1, hb2⟩ := hb
      exact ⟨(nR1 - nR) / 4 + nN1 - nN, 24 * nR1 + 2 * nN1 - 24 * nR - 2 * nN, by omega, by omega, (nR1 - nR) / 4 + nN1 - nN, 24 * nR1 + 2 * nN1 - 24 * nR - 2 * nN, by omega, by omega, b5 zs _ E_ _ _ h ⟨by omega, by omega⟩ kk⟩
theorem ff_names {so : FN} {W nT : Nat} {Z : ZP} {zc : Int32 → Prop} {p s : Int32} : ff (gNames so W nT p s) := ff_c (f := gName so nT p s) (g := gNamesL so nT p s W) ff_name (ff_namesL W)
theorem S_frS {t : FN} {n nTp : Nat} {so : FN} {W nT : Nat} {Z : ZP} {zc : Int32 → Prop} {g : GT} {vr : VR} {j d e0 u : Nat} (s : Int32) {e q : Int} (h : JY t n nTp so W nT g vr j d e0 u q) (he : e ≤ e0) : JQ t n nTp so W nT Z zc (fun p st => g p s st) (fun cont E_ mc ms p zs c tt => ∃ c1 s1 : Nat, c + c1 ≤ mc ∧ tt + s1 ≤ ms ∧ vr c1 s1 zs p (fun r z => vp_in r z.nR ∧ cont (RS.w_Sg z (upd z.Sg r.toNatClampNeg s)) (c + c1) (tt + s1)) E_) j d d e u 0 q := by
  rcases h with ⟨j', m, rn, L, R, c1, c2, c3, c4, c5, c6, c7⟩ | ⟨j', c1, c2, c3, c4⟩
  · have hp := Tr_pos c5
    refine Or.inl ⟨j', m, rn, _, _, by omega, c2, by omega, by omega, Fo_tree c5 s, fun p N _ hN => c6 p s N hN, fun Q p nR nN nd hQ hQR hR0 hnd hZ => ?_⟩
    obtain ⟨nR1, nN1, nd1, b1, b2, b3, b4, b5⟩ := c7 Q p nR nN nd (by omega) hQR hR0 hnd
    refine ⟨nR1, nN1, nd1, b1, b2, b3, b4, fun zs cont E_ mc ms c tt h hb kk => ?_⟩
    have hm1 := b1.1; have hm2 := b2.1
    obtain ⟨hb1, hb2⟩ := hb
    refine ⟨(nR1 - nR) / 4 + nN1 - nN, 24 * nR1 + 2 * nN1 - 24 * nR - 2 * nN, by omega, by omega, b5 zs _ E_ _ _ h ⟨by omega, by omega⟩ (fun z hz => ?_)⟩
    have eR : z.nR = nR1 := hz.1.1.2.2.2.1
    have hR9 := hz.1.1.2.2.2.2.2.2.2.2.1
    have h3 := q_sign (y := Q.length) (c := s) hz
    rw [sg_T c5] at h3
    rw [eR, nI_clamp (by omega)]
    exact ⟨pu_in (by omega) (by omega), kk _ _ _ h3 ⟨by omega, by omega⟩⟩
  · refine Or.inr ⟨j', c1, c2, fun p N _ hN => c3 p s N hN, fun Q p nR nN nd hQ hQR hR0 hnd hZ => ?_⟩
    obtain ⟨nR1, nN1, b1, b2, b5⟩ := c4 Q p nR nN nd (by omega) hQR hR0 hnd
    refine ⟨nR1, nN1, b1, b2, fun zs cont E_ mc ms c tt h hb kk => ?_⟩
    have hm1 := b1.1; have hm2 := b2.1
    obtain ⟨hb1, hb2⟩ := hb
    exact ⟨(nR1 - nR) / 4 + nN1 - nN, 24 * nR1 + 2 * nN1 - 24 * nR - 2 * nN, by omega, by omega, b5 zs _ E_ _ _ h ⟨by omega, by omega⟩ kk⟩
theorem S_JY {t : FN} {n nTp : Nat} {so : FN} {W nT : Nat} {Z : ZP} {zc : Int32 → Prop} {g : GT} {vr : VR} {j d e0 u : Nat} {e q : Int} (h : JY t n nTp so W nT g vr j d e0 u q) (he : e ≤ e0) : JQ t n nTp so W nT Z zc (fun p st => g p 0 st) (fun cont E_ mc ms p zs c tt => ∃ c1 s1 : Nat, c + c1 ≤ mc ∧ tt + s1 ≤ ms ∧ vr c1 s1 zs p (fun _ z => cont z (c + c1) (tt + s1)) E_) j d d e u 0 q := by
  rcases h with ⟨j', m, rn, L, R, c1, c2, c3, c4, c5, c6, c7⟩ | ⟨j', c1, c2, c3, c4⟩
  · have hp := Tr_pos c5
    refine Or.inl ⟨j', m, rn, _, _, by omega, c2, by omega, by omega, Fo_tree c5 0, fun p N _ hN => c6 p 0 N hN, fun Q p nR nN nd hQ hQR hR0 hnd hZ => ?_⟩
    obtain ⟨nR1, nN1, nd1, b1, b2, b3, b4, b5⟩ := c7 Q p nR nN nd (by omega) hQR hR0 hnd
    refine ⟨nR1, nN1, nd1, b1, b2, b3, b4, fun zs cont E_ mc ms c tt h hb kk => ?_⟩
    have hm1 := b1.1; have hm2 := b2.1
    obtain ⟨hb1, hb2⟩ := hb
    refine ⟨(nR1 - nR) / 4 + nN1 - nN, 24 * nR1 + 2 * nN1 - 24 * nR - 2 * nN, by omega, by omega, b5 zs _ E_ _ _ h ⟨by omega, by omega⟩ (fun z hz => kk _ _ _ hz ⟨by omega, by omega⟩)⟩
  · refine Or.inr ⟨j', c1, c2, fun p N _ hN => c3 p 0 N hN, fun Q p nR nN nd hQ hQR hR0 hnd hZ => ?_⟩
    obtain ⟨nR1, nN1, b1, b2, b5⟩ := c4 Q p nR nN nd (by omega) hQR hR0 hnd
    refine ⟨nR1, nN1, b1, b2, fun zs cont E_ mc ms c tt h hb kk => ?_⟩
    have hm1 := b1.1; have hm2 := b2.1
    obtain ⟨hb1, hb2⟩ := hb
    exact ⟨(nR1 - nR) / 4 + nN1 - nN, 24 * nR1 + 2 * nN1 - 24 * nR - 2 * nN, by omega, by omega, b5 zs _ E_ _ _ h ⟨by omega, by omega⟩ kk⟩
