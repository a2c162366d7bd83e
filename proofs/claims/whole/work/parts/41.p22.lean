abbrev VV : Type := Nat → Nat → RS → Int32 → (RS → Prop) → (RS → Prop) → Prop
def rOkV (t : FN) (n nTp : Nat) (so : FN) (W : Nat) (v : VV) (j d j' rn : Nat) (R : RT3) (e : Nat) : Prop := ∀ (Q : List pRw) (p : Int32) (nR nN nd : Nat), Q.length ≤ 4 * j + e → Q.length ≤ nR → 1 ≤ nR ∧ nR % 4 = 0 → nd ≤ sbN t n j → ∃ nR' nN' nd' : Nat, gwR W nR nR' ∧ gwN n nN nN' ∧ Q.length + rn ≤ nR' ∧ nd' ≤ sbN t n j' ∧
  ∀ zs K_ E_ mc ms, RP t n nTp so Q nR nN nd d j zs → bud nR nN nR' nN' mc ms → (∀ zs', RP t n nTp so (Q ++ R Q.length p 0) nR' nN' nd' d j' zs' → K_ zs') → v mc ms zs p K_ E_
def rFlV (t : FN) (n nTp : Nat) (so : FN) (W : Nat) (v : VV) (j d j' : Nat) (e : Nat) : Prop := ∀ (Q : List pRw) (p : Int32) (nR nN nd : Nat), Q.length ≤ 4 * j + e → Q.length ≤ nR → 1 ≤ nR ∧ nR % 4 = 0 → nd ≤ sbN t n j → ∃ nR' nN' : Nat, gwR W nR nR' ∧ gwN n nN nN' ∧
  ∀ zs K_ E_ mc ms, RP t n nTp so Q nR nN nd d j zs → bud nR nN nR' nN' mc ms → (∀ zs', RF t n nTp so nR' nN' j' zs' → E_ zs') → v mc ms zs p K_ E_
def JOV (t : FN) (n nTp : Nat) (so : FN) (W nT : Nat) (g : GO) (v : VV) (j d e u : Nat) : Prop :=
  (∃ (j' m rn : Nat) (L : LT3) (R : RT3), j < j' ∧ j' < W ∧ m + j ≤ j' + u ∧ rn + 4 * j ≤ 4 * j' ∧ Tr W m rn L R ∧ cOk0 nT g j d j' m L ∧ rOkV t n nTp so W v j d j' rn R e) ∨
  (∃ j', j ≤ j' ∧ j' < W ∧ cFl0 g j d j' ∧ rFlV t n nTp so W v j d j' e)
theorem J_arg {t : FN} {n nTp : Nat} {so : FN} {W nT : Nat} (hW : rW t n nTp so W) {gS : G3} {vA vF : VR} {d : Nat}
    (hA : ∀ i, i < W → JT t n nTp so W nT (fun p s st => gS p s 0 st) vA i d 1 1)
    (hSh : ∀ i, i < W → JO t n nTp so W nT (fun p st => gShape gS so W nT p st) (fun mc ms zs p K E => vc_M_shape mc ms zs p K E) i d 0 0) {j : Nat} (hj : j < W) :
    JOV t n nTp so W nT (fun p st => gArg gS so W nT p st) (fun mc ms zs p K E => vc_M_argument vA vF mc ms zs p K E) j d 0 0 := by
  by_cases h91 : so j = 91
  · have eg : ∀ p N, gArg gS so W nT p (j, false, nI d, N) = gShape gS so W nT p (j, false, nI d, N) := by
      intro p N; unfold gArg; rw [ps_g, if_pos h91]
    have ru : ∀ (Q : List pRw) (p : Int32) (nR nN nd : Nat) zs (K_ E_ : RS → Prop) mc ms, RP t n nTp so Q nR nN nd d j zs → vc_M_shape mc ms zs p (fun _ z => K_ z) E_ → vc_M_argument vA vF mc ms zs p K_ E_ := by
      intro Q p nR nN nd zs K_ E_ mc ms h hv
      exact q_is hW hj h.1.1.1 h.1.1.2.1 h.2.1 sg_in.2.2.2.2.2.2.2.2.2.2.2.1 (fun _ => ⟨fun q => absurd q (by decide), fun _ => ⟨mc, ms, by omega, by omega, hv⟩⟩) (fun q => absurd h91 q)
    rcases hSh j hj with ⟨j', m, rn, L, R, c1, c2, c3, c4, c5, c6, c7⟩ | ⟨j', c1, c2, c3, c4⟩
    · refine Or.inl ⟨j', m, rn, L, R, c1, c2, c3, c4, c5, fun p N => ?_, fun Q p nR nN nd hQ hQR hR0 hnd => ?_⟩
      · show (∃ N', gArg gS so W nT p (j, false, nI d, N) = _) ∧ (_ → gArg gS so W nT p (j, false, nI d, N) = _)
        rw [eg]; exact c6 p N
      · obtain ⟨nR', nN', nd', b1, b2, b3, b4, b5⟩ := c7 Q p nR nN nd hQ hQR hR0 hnd
        exact ⟨nR', nN', nd', b1, b2, b3, b4, fun zs K_ E_ mc ms h hb kk => ru Q p nR nN nd zs K_ E_ mc ms h (b5 zs _ E_ mc ms h hb kk)⟩
    · refine Or.inr ⟨j', c1, c2, fun p N => ?_, fun Q p nR nN nd hQ hQR hR0 hnd => ?_⟩
      · show ∃ d' N', gArg gS so W nT p (j, false, nI d, N) = _
        rw [eg]; exact c3 p N
      · obtain ⟨nR', nN', b1, b2, b5⟩ := c4 Q p nR nN nd hQ hQR hR0 hnd
        exact ⟨nR', nN', b1, b2, fun zs K_ E_ mc ms h hb kk => ru Q p nR nN nd zs K_ E_ mc ms h (b5 zs _ E_ mc ms h hb kk)⟩
  · have eg : ∀ p N, gArg gS so W nT p (j, false, nI d, N) = gS p 0 0 (j, false, nI d, N) := by
      intro p N; unfold gArg; rw [ps_g, if_neg h91]
    have ru : ∀ (Q : List pRw) (p : Int32) (nR nN nd : Nat) zs (K_ E_ : RS → Prop) mc ms, RP t n nTp so Q nR nN nd d j zs → vA mc ms zs p (fun _ z => K_ z) E_ → vc_M_argument vA vF mc ms zs p K_ E_ := by
      intro Q p nR nN nd zs K_ E_ mc ms h hv
      exact q_is hW hj h.1.1.1 h.1.1.2.1 h.2.1 sg_in.2.2.2.2.2.2.2.2.2.2.2.1 (fun q => absurd q h91) (fun _ => ⟨fun _ => ⟨mc, ms, by omega, by omega, hv⟩, fun q => absurd rfl q⟩)
    rcases hA j hj with ⟨j', m, rn, L, R, c1, c2, c3, c4, c5, c6, c7⟩ | ⟨j', c1, c2, c3, c4⟩
    · refine Or.inl ⟨j', m, rn, L, R, c1, c2, c3, by omega, c5, fun p N => ?_, fun Q p nR nN nd hQ hQR hR0 hnd => ?_⟩
      · show (∃ N', gArg gS so W nT p (j, false, nI d, N) = _) ∧ (_ → gArg gS so W nT p (j, false, nI d, N) = _)
        rw [eg]; exact c6 p 0 N
      · obtain ⟨nR', nN', nd', b1, b2, b3, b4, b5⟩ := c7 Q p nR nN nd (by omega) hQR hR0 hnd
        exact ⟨nR', nN', nd', b1, b2, b3, b4, fun zs K_ E_ mc ms h hb kk => ru Q p nR nN nd zs K_ E_ mc ms h (b5 zs _ E_ mc ms h hb kk)⟩
    · refine Or.inr ⟨j', c1, c2, fun p N => ?_, fun Q p nR nN nd hQ hQR hR0 hnd => ?_⟩
      · show ∃ d' N', gArg gS so W nT p (j, false, nI d, N) = _
        rw [eg]; exact c3 p 0 N
      · obtain ⟨nR', nN', b1, b2, b5⟩ := c4 Q p nR nN nd (by omega) hQR hR0 hnd
        exact ⟨nR', nN', b1, b2, fun zs K_ E_ mc ms h hb kk => ru Q p nR nN nd zs K_ E_ mc ms h (b5 zs _ E_ mc ms h hb kk)⟩
def JAL (t : FN) (n nTp : Nat) (so : FN) (W nT : Nat) (gS : G3) (vA vF : VR) (j d : Nat) : Prop :=
  (∃ (j' m rn : Nat) (L : LF2) (R : RF2), j < j' ∧ j' < W ∧ m + j ≤ j' ∧ rn + 4 * j ≤ 4 * j' ∧ Fo W m rn L R ∧ so j' ≠ 44 ∧
    (∀ (p : Int32) (f : Nat) (N : List pNd), W ≤ f + j → (∃ N', gArgsL gS so W nT p f (j, false, nI d, N) = (j', false, nI d, N')) ∧ (N.length + m ≤ nT → gArgsL gS so W nT p f (j, false, nI d, N) = (j', false, nI d, N ++ L N.length p))) ∧
    (∀ (Q : List pRw) (p : Int32) (nR nN nd : Nat), Q.length ≤ 4 * j → Q.length ≤ nR → 1 ≤ nR ∧ nR % 4 = 0 → nd ≤ sbN t n j → ∃ nR' nN' nd' : Nat, gwR W nR nR' ∧ gwN n nN nN' ∧ Q.length + rn ≤ nR' ∧ nd' ≤ sbN t n j' ∧
      ∀ zs K_ E_ mc ms c tt f (KK : RS → Nat → Nat → Prop), W ≤ f + j → RP t n nTp so Q nR nN nd d j zs → budC nR nN nR' nN' mc ms c tt → (∀ z c' t', vl_M_call_47 vA vF mc ms K_ E_ (f + 1) p z c' t' → KK z c' t') →
        (∀ z' c' t', RP t n nTp so (Q ++ R Q.length p) nR' nN' nd' d j' z' → cnt nR nN nR' nN' c c' tt t' → vj_M_call_68 vA vF mc ms K_ E_ p z' c' t') → ∃ c1 s1, c + c1 ≤ mc ∧ tt + s1 ≤ ms ∧ vc_M_argument vA vF c1 s1 zs p (fun z => KK z (c + c1) (tt + s1)) E_)) ∨
  (∃ j', j ≤ j' ∧ j' < W ∧ (∀ (p : Int32) (f : Nat) (N : List pNd), W ≤ f + j → ∃ d' N', gArgsL gS so W nT p f (j, false, nI d, N) = (j', true, d', N')) ∧
    (∀ (Q : List pRw) (p : Int32) (nR nN nd : Nat), Q.length ≤ 4 * j → Q.length ≤ nR → 1 ≤ nR ∧ nR % 4 = 0 → nd ≤ sbN t n j → ∃ nR' nN' : Nat, gwR W nR nR' ∧ gwN n nN nN' ∧
      ∀ zs K_ E_ mc ms c tt f (KK : RS → Nat → Nat → Prop), W ≤ f + j → RP t n nTp so Q nR nN nd d j zs → budC nR nN nR' nN' mc ms c tt → (∀ z c' t', vl_M_call_47 vA vF mc ms K_ E_ (f + 1) p z c' t' → KK z c' t') →
        (∀ z', RF t n nTp so nR' nN' j' z' → E_ z') → ∃ c1 s1, c + c1 ≤ mc ∧ tt + s1 ≤ ms ∧ vc_M_argument vA vF c1 s1 zs p (fun z => KK z (c + c1) (tt + s1)) E_))
theorem J_AL {t : FN} {n nTp : Nat} {so : FN} {W nT : Nat} (hW : rW t n nTp so W) {gS : G3} (hff : ff3 gS) {vA vF : VR} {d : Nat}
    (hH : ∀ i, i < W → JOV t n nTp so W nT (fun p st => gArg gS so W nT p st) (fun mc ms zs p K E => vc_M_argument vA vF mc ms zs p K E) i d 0 0) : ∀ k j, j < W → W ≤ k + j → JAL t n nTp so W nT gS vA vF j d := by
  intro k
  induction k with
  | zero => intro j hj hk; omega
  | succ k ih =>
    intro j hj hk
    have w := tk_so hW hj
    have eg : ∀ p f N, gArgsL gS so W nT p (f + 1) (j, false, nI d, N) = if psS so (gArg gS so W nT p (j, false, nI d, N)) = 44 then gArgsL gS so W nT p f (gStep (gArg gS so W nT p (j, false, nI d, N))) else gArg gS so W nT p (j, false, nI d, N) := fun _ _ _ => rfl
    rcases hH j hj with ⟨j1, m1, rn1, L1, R1, c1, c2, c3, c4, c5, c6, c7⟩ | ⟨j1, c1, c2, c3, c4⟩
    · have cls : ∀ p N, (∃ N', gArg gS so W nT p (j, false, nI d, N) = (j1, false, nI d, N')) ∧ (N.length + m1 ≤ nT → gArg gS so W nT p (j, false, nI d, N) = (j1, false, nI d, N ++ L1 N.length p 0)) := fun p N => c6 p N
      have hl1 := Tr_len c5
      have hb1 := psb_b t n j1
      have hb2 := sb_n t n j1
      by_cases h44 : so j1 = 44
      · have a1 := tk_go hW c2 h44 (by decide) (by decide)
        have e44 : ∀ p f N', (if psS so (j1, false, nI d, N') = 44 then gArgsL gS so W nT p f (gStep (j1, false, nI d, N')) else (j1, false, nI d, N')) = gArgsL gS so W nT p f (j1 + 1, false, nI d, N') := by
          intro p f N'
          rw [ps_g, if_pos h44]; rfl
        have l47 : ∀ (Q : List pRw) (p : Int32) (nR nN nd : Nat) zs K_ E_ mc ms c tt f, RP t n nTp so Q nR nN nd d j1 zs →
            (∀ z1, RP t n nTp so Q nR nN nd d (j1 + 1) z1 → ∃ c1 s1, c + c1 ≤ mc ∧ tt + s1 ≤ ms ∧ vc_M_argument vA vF c1 s1 z1 p (fun z => vl_M_call_47 vA vF mc ms K_ E_ f p z (c + c1) (tt + s1)) E_) → vl_M_call_47 vA vF mc ms K_ E_ (f + 1) p zs c tt := by
          intro Q p nR nN nd zs K_ E_ mc ms c tt f h hv
          unfold vl_M_call_47
          exact q_is hW c2 h.1.1.1 h.1.1.2.1 h.2.1 sg_in.2.2.2.2.1 (fun _ => ⟨fun q => absurd q (by decide), fun _ => q_nextP hW h a1 hv⟩) (fun q => absurd h44 q)
        rcases ih (j1 + 1) a1 (by omega) with ⟨j', m, rn, L, R, d1, d2, d3, d4, d5, d8, d9, d10⟩ | ⟨j', d1, d2, d4, d5⟩
        · refine Or.inl ⟨j', m1 + m, rn1 + rn, _, _, by omega, d2, by omega, by omega, Fo_app (Fo_tree c5 0) d5, d8, fun p f N hf => ?_, fun Q p nR nN nd hQ hQR hR0 hnd => ?_⟩
          · obtain ⟨f, rfl⟩ : ∃ g, f = g + 1 := ⟨f - 1, by omega⟩
            rw [eg]
            refine ⟨?_, fun hN => ?_⟩
            · obtain ⟨N1, e1⟩ := (cls p N).1
              rw [e1, e44]
              exact (d9 p f N1 (by omega)).1
            · rw [(cls p N).2 (by omega), e44, (d9 p f _ (by omega)).2 (by rw [List.length_append, hl1.1]; omega), List.length_append, hl1.1, List.append_assoc]
          · obtain ⟨nR1, nN1, nd1, b1, b2, b3, b4, b5⟩ := c7 Q p nR nN nd hQ hQR hR0 hnd
            have hlen : (Q ++ R1 Q.length p 0).length = Q.length + rn1 := by rw [List.length_append, hl1.2]
            obtain ⟨nR2, nN2, nd2, e1, e2, e3, e4, e5⟩ := d10 (Q ++ R1 Q.length p 0) p nR1 nN1 nd1 (by omega) (by omega) (by have := b1.1; omega) (by omega)
            refine ⟨nR2, nN2, nd2, gwR_t b1 e1, gwN_t b2 e2, by omega, e4, fun zs K_ E_ mc ms c tt f KK hf h hb hKK kk => ?_⟩
            obtain ⟨f, rfl⟩ : ∃ g, f = g + 1 := ⟨f - 1, by omega⟩
            have hm1 := b1.1; have hm2 := b2.1; have hm3 := e1.1; have hm4 := e2.1
            obtain ⟨hb1, hb2⟩ := hb
            refine ⟨(nR1 - nR) / 4 + nN1 - nN, 24 * nR1 + 2 * nN1 - 24 * nR - 2 * nN, by omega, by omega, b5 zs _ _ _ _ h ⟨by omega, by omega⟩ (fun z2 h2 => hKK _ _ _ ?_)⟩
            refine l47 (Q ++ R1 Q.length p 0) p nR1 nN1 nd1 z2 K_ E_ mc ms _ _ (f + 1) h2 (fun z3 h3 => ?_)
            refine e5 z3 K_ E_ mc ms _ _ f (fun z c t => vl_M_call_47 vA vF mc ms K_ E_ (f + 1) p z c t) (by omega) h3 ⟨by omega, by omega⟩ (fun _ _ _ q => q) (fun z4 c' t' h4 hc4 => kk z4 c' t' ?_ ?_)
            · rw [hlen, List.append_assoc] at h4
              exact h4
            · obtain ⟨g1, g2⟩ := hc4
              exact ⟨by omega, by omega⟩
        · refine Or.inr ⟨j', by omega, d2, fun p f N hf => ?_, fun Q p nR nN nd hQ hQR hR0 hnd => ?_⟩
          · obtain ⟨f, rfl⟩ : ∃ g, f = g + 1 := ⟨f - 1, by omega⟩
            obtain ⟨N1, e1⟩ := (cls p N).1
            rw [eg, e1, e44]
            exact d4 p f N1 (by omega)
          · obtain ⟨nR1, nN1, nd1, b1, b2, b3, b4, b5⟩ := c7 Q p nR nN nd hQ hQR hR0 hnd
            have hlen : (Q ++ R1 Q.length p 0).length = Q.length + rn1 := by rw [List.length_append, hl1.2]
            obtain ⟨nR2, nN2, e1, e2, e5⟩ := d5 (Q ++ R1 Q.length p 0) p nR1 nN1 nd1 (by omega) (by omega) (by have := b1.1; omega) (by omega)
            refine ⟨nR2, nN2, gwR_t b1 e1, gwN_t b2 e2, fun zs K_ E_ mc ms c tt f KK hf h hb hKK kk => ?_⟩
            obtain ⟨f, rfl⟩ : ∃ g, f = g + 1 := ⟨f - 1, by omega⟩
            have hm1 := b1.1; have hm2 := b2.1; have hm3 := e1.1; have hm4 := e2.1
            obtain ⟨hb1, hb2⟩ := hb
            refine ⟨(nR1 - nR) / 4 + nN1 - nN, 24 * nR1 + 2 * nN1 - 24 * nR - 2 * nN, by omega, by omega, b5 zs _ _ _ _ h ⟨by omega, by omega⟩ (fun z2 h2 => hKK _ _ _ ?_)⟩
            refine l47 (Q ++ R1 Q.length p 0) p nR1 nN1 nd1 z2 K_ E_ mc ms _ _ (f + 1) h2 (fun z3 h3 => ?_)
            exact e5 z3 K_ E_ mc ms _ _ f (fun z c t => vl_M_call_47 vA vF mc ms K_ E_ (f + 1) p z c t) (by omega) h3 ⟨by omega, by omega⟩ (fun _ _ _ q => q) kk
      · have e44 : ∀ p f N', (if psS so (j1, false, nI d, N') = 44 then gArgsL gS so W nT p f (gStep (j1, false, nI d, N')) else (j1, false, nI d, N')) = (j1, false, nI d, N') := by
          intro p f N'
          rw [ps_g, if_neg h44]
        refine Or.inl ⟨j1, m1, rn1, _, _, c1, c2, c3, c4, Fo_tree c5 0, h44, fun p f N hf => ?_, fun Q p nR nN nd hQ hQR hR0 hnd => ?_⟩
        · obtain ⟨f, rfl⟩ : ∃ g, f = g + 1 := ⟨f - 1, by omega⟩
          rw [eg]
          refine ⟨?_, fun hN => ?_⟩
          · obtain ⟨N1, e1⟩ := (cls p N).1
            rw [e1, e44]; exact ⟨_, rfl⟩
          · rw [(cls p N).2 (by omega), e44]
        · obtain ⟨nR1, nN1, nd1, b1, b2, b3, b4, b5⟩ := c7 Q p nR nN nd hQ hQR hR0 hnd
          refine ⟨nR1, nN1, nd1, b1, b2, b3, b4, fun zs K_ E_ mc ms c tt f KK hf h hb hKK kk => ?_⟩
          have hm1 := b1.1; have hm2 := b2.1
          obtain ⟨hb1, hb2⟩ := hb
          refine ⟨(nR1 - nR) / 4 + nN1 - nN, 24 * nR1 + 2 * nN1 - 24 * nR - 2 * nN, by omega, by omega, b5 zs _ _ _ _ h ⟨by omega, by omega⟩ (fun z2 h2 => hKK _ _ _ ?_)⟩
          unfold vl_M_call_47
          exact q_is hW c2 h2.1.1.1 h2.1.1.2.1 h2.2.1 sg_in.2.2.2.2.1 (fun q => absurd q h44) (fun _ => ⟨fun _ => kk z2 _ _ h2 ⟨by omega, by omega⟩, fun q => absurd rfl q⟩)
    · refine Or.inr ⟨j1, c1, c2, fun p f N hf => ?_, fun Q p nR nN nd hQ hQR hR0 hnd => ?_⟩
      · obtain ⟨f, rfl⟩ : ∃ g, f = g + 1 := ⟨f - 1, by omega⟩
        obtain ⟨d1, N1, e1⟩ := c3 p N
        have e1' : gArg gS so W nT p (j, false, nI d, N) = (j1, true, d1, N1) := e1
        rw [eg, e1', ps_f, if_neg (by decide)]
        exact ⟨_, _, rfl⟩
      · obtain ⟨nR1, nN1, b1, b2, b5⟩ := c4 Q p nR nN nd hQ hQR hR0 hnd
        refine ⟨nR1, nN1, b1, b2, fun zs K_ E_ mc ms c tt f KK hf h hb hKK kk => ?_⟩
        have hm1 := b1.1; have hm2 := b2.1
        obtain ⟨hb1, hb2⟩ := hb
        exact ⟨(nR1 - nR) / 4 + nN1 - nN, 24 * nR1 + 2 * nN1 - 24 * nR - 2 * nN, by omega, by omega, b5 zs _ _ _ _ h ⟨by omega, by omega⟩ kk⟩
