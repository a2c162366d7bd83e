abbrev KV : Type := (RS → Prop) → (RS → Prop) → Nat → Nat → Int32 → RS → Nat → Nat → Prop
def JK (t : FN) (n nTp : Nat) (so : FN) (W nT : Nat) (Z : ZP) (zc : Int32 → Prop) (g : GO) (v : KV) (j d d' : Nat) (e k a q : Int) : Prop :=
  (∃ (j' m rn : Nat) (L : LF2) (R : RF2), j ≤ j' ∧ j' < W ∧ (m : Int) + j ≤ j' + k ∧ (rn : Int) + 4 * j ≤ 4 * j' + a ∧ Fo W m rn L R ∧
    (∀ (p : Int32) (N : List pNd), zc p → (N.length : Int) ≤ j + q → g p (j, false, nI d, N) = (j', false, nI d', N ++ L N.length p)) ∧
    (∀ (Q : List pRw) (p : Int32) (nR nN nd : Nat), (Q.length : Int) ≤ 4 * j + e → Q.length ≤ nR → 1 ≤ nR ∧ nR % 4 = 0 → nd ≤ sbN t n j → Z Q p → ∃ nR' nN' nd' : Nat, gwR W nR nR' ∧ gwN n nN nN' ∧ Q.length + rn ≤ nR' ∧ nd' ≤ sbN t n j' ∧
      ∀ zs K_ E_ mc ms c tt, RP t n nTp so Q nR nN nd d j zs → budC nR nN nR' nN' mc ms c tt → (∀ z', RP t n nTp so (Q ++ R Q.length p) nR' nN' nd' d' j' z' → K_ z') → v K_ E_ mc ms p zs c tt)) ∨
  (∃ j', j ≤ j' ∧ j' < W ∧ (∀ (p : Int32) (N : List pNd), zc p → (N.length : Int) ≤ j + q → ∃ d' N', g p (j, false, nI d, N) = (j', true, d', N')) ∧
    (∀ (Q : List pRw) (p : Int32) (nR nN nd : Nat), (Q.length : Int) ≤ 4 * j + e → Q.length ≤ nR → 1 ≤ nR ∧ nR % 4 = 0 → nd ≤ sbN t n j → Z Q p → ∃ nR' nN' : Nat, gwR W nR nR' ∧ gwN n nN nN' ∧
      ∀ zs K_ E_ mc ms c tt, RP t n nTp so Q nR nN nd d j zs → budC nR nN nR' nN' mc ms c tt → (∀ z', RF t n nTp so nR' nN' j' z' → E_ z') → v K_ E_ mc ms p zs c tt))
theorem JK_seq {t : FN} {n nTp : Nat} {so : FN} {W nT : Nat} {Z : ZP} {zc : Int32 → Prop} {g1 g2 : GO} {v1 : SV} {v2 : KV} {j d d1 d2 : Nat} {e e2 k1 k2 a1 a2 q q2 : Int} (h1 : JQ t n nTp so W nT Z zc g1 v1 j d d1 e k1 a1 q) (h2 : ∀ j1, j ≤ j1 → j1 < W → JK t n nTp so W nT Z zc g2 v2 j1 d1 d2 e2 k2 a2 q2) (hff : ∀ p, ff (g2 p)) (he : e + a1 ≤ e2) (hzs : zS Z) (hq : q + k1 ≤ q2) :
    JK t n nTp so W nT Z zc (fun p st => g2 p (g1 p st)) (fun K_ E_ mc ms p zs c tt => v1 (fun z c' t' => v2 K_ E_ mc ms p z c' t') E_ mc ms p zs c tt) j d d2 e (k1 + k2) (a1 + a2) q := by
  rcases h1 with ⟨j1, m1, rn1, L1, R1, c1, c2, c3, c4, c5, c6, c7⟩ | ⟨j1, c1, c2, c3, c4⟩
  · have hl1 := And.intro c5.1 c5.2.1
    rcases h2 j1 c1 c2 with ⟨j', m, rn, L, R, d1, d2, d3, d4, d5, d6, d7⟩ | ⟨j', d1, d2, d3, d4⟩
    · refine Or.inl ⟨j', m1 + m, rn1 + rn, _, _, by omega, d2, by omega, by omega, Fo_app c5 d5, fun p N hp hN => ?_, fun Q p nR nN nd hQ hQR hR0 hnd hZ => ?_⟩
      · show g2 p (g1 p (j, false, nI d, N)) = _
        rw [c6 p N hp hN, d6 p _ hp (by rw [List.length_append, hl1.1]; omega), List.length_append, hl1.1, List.append_assoc]
      · obtain ⟨nR1, nN1, nd1, b1, b2, b3, b4, b5⟩ := c7 Q p nR nN nd hQ hQR hR0 hnd hZ
        have hlen : (Q ++ R1 Q.length p).length = Q.length + rn1 := by rw [List.length_append, hl1.2]
        obtain ⟨nR2, nN2, nd2, e1, e2, e3, e4, e5⟩ := d7 (Q ++ R1 Q.length p) p nR1 nN1 nd1 (by omega) (by omega) (by have := b1.1; omega) b4 (hzs _ _ _ hZ)
        refine ⟨nR2, nN2, nd2, gwR_t b1 e1, gwN_t b2 e2, by omega, e4, fun zs K_ E_ mc ms c tt h hb kk => ?_⟩
        have hm1 := b1.1; have hm2 := b2.1; have hm3 := e1.1; have hm4 := e2.1
        obtain ⟨hb1, hb2⟩ := hb
        refine b5 zs _ E_ mc ms c tt h ⟨by omega, by omega⟩ (fun z1 c' t' h1 hc1 => ?_)
        obtain ⟨g1, g2⟩ := hc1
        refine e5 z1 K_ E_ mc ms c' t' h1 ⟨by omega, by omega⟩ (fun z2 h2 => kk z2 ?_)
        rw [hlen, List.append_assoc] at h2
        exact h2
    · refine Or.inr ⟨j', by omega, d2, fun p N hp hN => ?_, fun Q p nR nN nd hQ hQR hR0 hnd hZ => ?_⟩
      · show ∃ d' N', g2 p (g1 p (j, false, nI d, N)) = _
        rw [c6 p N hp hN]; exact d3 p _ hp (by rw [List.length_append, hl1.1]; omega)
      · obtain ⟨nR1, nN1, nd1, b1, b2, b3, b4, b5⟩ := c7 Q p nR nN nd hQ hQR hR0 hnd hZ
        have hlen : (Q ++ R1 Q.length p).length = Q.length + rn1 := by rw [List.length_append, hl1.2]
        obtain ⟨nR2, nN2, e1, e2, e5⟩ := d4 (Q ++ R1 Q.length p) p nR1 nN1 nd1 (by omega) (by omega) (by have := b1.1; omega) b4 (hzs _ _ _ hZ)
        refine ⟨nR2, nN2, gwR_t b1 e1, gwN_t b2 e2, fun zs K_ E_ mc ms c tt h hb kk => ?_⟩
        have hm1 := b1.1; have hm2 := b2.1; have hm3 := e1.1; have hm4 := e2.1
        obtain ⟨hb1, hb2⟩ := hb
        refine b5 zs _ E_ mc ms c tt h ⟨by omega, by omega⟩ (fun z1 c' t' h1 hc1 => ?_)
        obtain ⟨g1, g2⟩ := hc1
        exact e5 z1 K_ E_ mc ms c' t' h1 ⟨by omega, by omega⟩ kk
  · refine Or.inr ⟨j1, c1, c2, fun p N hp hN => ?_, fun Q p nR nN nd hQ hQR hR0 hnd hZ => ?_⟩
    · obtain ⟨d1, N1, e1⟩ := c3 p N hp hN
      show ∃ d' N', g2 p (g1 p (j, false, nI d, N)) = _
      rw [e1]; exact hff p j1 d1 N1
    · obtain ⟨nR1, nN1, b1, b2, b5⟩ := c4 Q p nR nN nd hQ hQR hR0 hnd hZ
      exact ⟨nR1, nN1, b1, b2, fun zs K_ E_ mc ms c tt h hb kk => b5 zs _ E_ mc ms c tt h hb kk⟩
theorem JK_node {t : FN} {n nTp : Nat} {so : FN} {W nT : Nat} {Z : ZP} {zc : Int32 → Prop} (hW : rW t n nTp so W) (hWT : W ≤ nT) (hT : nT < 2 ^ 30) {g : GO} {v : KV} {j d d' : Nat} {e e2 k a q q2 : Int} (kd : Int32) (hkd : 0 = acl kd) (h : JK t n nTp so W nT (zK kd) (fun p => p ≠ -1) g v j d d' e2 k a q2) (hj : j < W) (he : e + 1 ≤ e2) (he8 : e ≤ 16) (hq : q + 1 ≤ q2) (hq0 : q ≤ 0) :
    JK t n nTp so W nT Z zc (fun p st => g (gR nT st) (gAdd nT kd p 0 st)) (fun K_ E_ mc ms p zs c tt => ∃ c1 s1 : Nat, c + c1 ≤ mc ∧ tt + s1 ≤ ms ∧ vc_M_piece c1 s1 zs kd p (fun r z => v K_ E_ mc ms r z (c + c1) (tt + s1))) j d d' e (k + 1) (a + 1) q := by
  have w := tk_so hW hj
  rcases h with ⟨j', m, rn, L, R, c1, c2, c3, c4, c5, c6, c7⟩ | ⟨j', c1, c2, c3, c4⟩
  · refine Or.inl ⟨j', m + 1, rn + 1, _, _, c1, c2, by omega, by omega, Fo_tree (Tr_node c5 kd j (-1) 0 0 (by decide) hkd (by omega)) 0, fun p N hp hN => ?_, fun Q p nR nN nd hQ hQR hR0 hnd hZ => ?_⟩
    · show g (gR nT (j, false, nI d, N)) (gAdd nT kd p 0 (j, false, nI d, N)) = _
      rw [g_add (by omega), g_R (by omega), c6 _ _ (pu_m1 (by omega)) (by simp only [List.length_append, List.length_cons, List.length_nil]; omega)]
      simp only [List.length_append, List.length_cons, List.length_nil, List.append_assoc, List.cons_append, List.nil_append, Nat.zero_add]
    · obtain ⟨g1, g2⟩ := gwR_g (W := W) hR0 hQR (by omega)
      have hlF : (Q ++ [(kd, j, p, (0 : Int32), (-1 : Int32), 0, 0)]).length = Q.length + 1 := by simp
      obtain ⟨nR1, nN1, nd1, b1, b2, b3, b4, b5⟩ := c7 (Q ++ [(kd, j, p, 0, -1, 0, 0)]) (nI Q.length) (grR nR Q.length) nN nd (by omega) (by omega) (by have := g1.1; omega) hnd (zK_l hlF)
      refine ⟨nR1, nN1, nd1, gwR_t g1 b1, b2, by omega, b4, fun zs K_ E_ mc ms c tt h hb kk => ?_⟩
      have hm0 := g1.1; have hm1 := b1.1; have hm2 := b2.1
      obtain ⟨hb1, hb2⟩ := hb
      refine ⟨(grR nR Q.length - nR) / 4, 24 * (grR nR Q.length - nR), by omega, by omega, q_piece h (by omega) (by omega) (by omega) (fun z1 h1 => ?_)⟩
      refine b5 z1 K_ E_ mc ms _ _ h1 ⟨by omega, by omega⟩ (fun z2 h2 => kk z2 ?_)
      rw [hlF, List.append_assoc] at h2
      exact h2
  · refine Or.inr ⟨j', c1, c2, fun p N hp hN => ?_, fun Q p nR nN nd hQ hQR hR0 hnd hZ => ?_⟩
    · show ∃ d' N', g (gR nT (j, false, nI d, N)) (gAdd nT kd p 0 (j, false, nI d, N)) = _
      rw [g_add (by omega), g_R (by omega)]
      exact c3 _ _ (pu_m1 (by omega)) (by simp only [List.length_append, List.length_cons, List.length_nil]; omega)
    · obtain ⟨g1, g2⟩ := gwR_g (W := W) hR0 hQR (by omega)
      have hlF : (Q ++ [(kd, j, p, (0 : Int32), (-1 : Int32), 0, 0)]).length = Q.length + 1 := by simp
      obtain ⟨nR1, nN1, b1, b2, b5⟩ := c4 (Q ++ [(kd, j, p, 0, -1, 0, 0)]) (nI Q.length) (grR nR Q.length) nN nd (by omega) (by omega) (by have := g1.1; omega) hnd (zK_l hlF)
      refine ⟨nR1, nN1, gwR_t g1 b1, b2, fun zs K_ E_ mc ms c tt h hb kk => ?_⟩
      have hm0 := g1.1; have hm1 := b1.1; have hm2 := b2.1
      obtain ⟨hb1, hb2⟩ := hb
      exact ⟨(grR nR Q.length - nR) / 4, 24 * (grR nR Q.length - nR), by omega, by omega, q_piece h (by omega) (by omega) (by omega) (fun z1 h1 => b5 z1 K_ E_ mc ms _ _ h1 ⟨by omega, by omega⟩ kk)⟩
theorem JK_cg {t : FN} {n nTp : Nat} {so : FN} {W nT : Nat} {Z : ZP} {zc : Int32 → Prop} {j d d' : Nat} {e k a q : Int} {g g' : GO} {v v' : KV} (h : JK t n nTp so W nT Z zc g v j d d' e k a q) (hg : ∀ p N, zc p → g' p (j, false, nI d, N) = g p (j, false, nI d, N)) (hv : ∀ (Q : List pRw) (nR nN nd : Nat) K_ E_ mc ms p zs c tt, Z Q p → RP t n nTp so Q nR nN nd d j zs → v K_ E_ mc ms p zs c tt → v' K_ E_ mc ms p zs c tt) : JK t n nTp so W nT Z zc g' v' j d d' e k a q := by
  rcases h with ⟨j1, m1, rn1, L1, R1, c1, c2, c3, c4, c5, c6, c7⟩ | ⟨j1, c1, c2, c3, c4⟩
  · refine Or.inl ⟨j1, m1, rn1, L1, R1, c1, c2, c3, c4, c5, fun p N hp hN => by rw [hg p N hp]; exact c6 p N hp hN, fun Q p nR nN nd hQ hQR hR0 hnd hZ => ?_⟩
    obtain ⟨nR', nN', nd', b1, b2, b3, b4, b5⟩ := c7 Q p nR nN nd hQ hQR hR0 hnd hZ
    exact ⟨nR', nN', nd', b1, b2, b3, b4, fun zs K_ E_ mc ms c tt h hb kk => hv Q nR nN nd K_ E_ mc ms p zs c tt hZ h (b5 zs K_ E_ mc ms c tt h hb kk)⟩
  · refine Or.inr ⟨j1, c1, c2, fun p N hp hN => by rw [hg p N hp]; exact c3 p N hp hN, fun Q p nR nN nd hQ hQR hR0 hnd hZ => ?_⟩
    obtain ⟨nR', nN', b1, b2, b5⟩ := c4 Q p nR nN nd hQ hQR hR0 hnd hZ
    exact ⟨nR', nN', b1, b2, fun zs K_ E_ mc ms c tt h hb kk => hv Q nR nN nd K_ E_ mc ms p zs c tt hZ h (b5 zs K_ E_ mc ms c tt h hb kk)⟩
theorem JQ_K {t : FN} {n nTp : Nat} {so : FN} {W nT : Nat} {Z : ZP} {zc : Int32 → Prop} {g : GO} {v : SV} {j d d' : Nat} {e k a q : Int} (h : JQ t n nTp so W nT Z zc g v j d d' e k a q) : JK t n nTp so W nT Z zc g (fun K_ E_ mc ms p zs c tt => v (fun z _ _ => K_ z) E_ mc ms p zs c tt) j d d' e k a q := by
  rcases h with ⟨j1, m1, rn1, L1, R1, c1, c2, c3, c4, c5, c6, c7⟩ | ⟨j1, c1, c2, c3, c4⟩
  · refine Or.inl ⟨j1, m1, rn1, L1, R1, c1, c2, c3, c4, c5, c6, fun Q p nR nN nd hQ hQR hR0 hnd hZ => ?_⟩
    obtain ⟨nR', nN', nd', b1, b2, b3, b4, b5⟩ := c7 Q p nR nN nd hQ hQR hR0 hnd hZ
    exact ⟨nR', nN', nd', b1, b2, b3, b4, fun zs K_ E_ mc ms c tt h hb kk => b5 zs _ E_ mc ms c tt h hb (fun z _ _ hz _ => kk z hz)⟩
  · refine Or.inr ⟨j1, c1, c2, c3, fun Q p nR nN nd hQ hQR hR0 hnd hZ => ?_⟩
    obtain ⟨nR', nN', b1, b2, b5⟩ := c4 Q p nR nN nd hQ hQR hR0 hnd hZ
    exact ⟨nR', nN', b1, b2, fun zs K_ E_ mc ms c tt h hb kk => b5 zs _ E_ mc ms c tt h hb kk⟩
theorem JK_w {t : FN} {n nTp : Nat} {so : FN} {W nT : Nat} {Z : ZP} {zc : Int32 → Prop} {g : GO} {v : KV} {j d d' : Nat} {e e2 k k2 a a2 q q2 : Int} (h : JK t n nTp so W nT Z zc g v j d d' e k a q) (he : e2 ≤ e) (hk : k ≤ k2) (ha : a ≤ a2) (hq : q2 ≤ q) : JK t n nTp so W nT Z zc g v j d d' e2 k2 a2 q2 := by
  rcases h with ⟨j1, m1, rn1, L1, R1, c1, c2, c3, c4, c5, c6, c7⟩ | ⟨j1, c1, c2, c3, c4⟩
  · exact Or.inl ⟨j1, m1, rn1, L1, R1, c1, c2, by omega, by omega, c5, fun p N hp hN => c6 p N hp (by omega), fun Q p nR nN nd hQ => c7 Q p nR nN nd (by omega)⟩
  · exact Or.inr ⟨j1, c1, c2, fun p N hp hN => c3 p N hp (by omega), fun Q p nR nN nd hQ => c4 Q p nR nN nd (by omega)⟩
theorem JK_call {t : FN} {n nTp : Nat} {so : FN} {W nT : Nat} {Z : ZP} {zc : Int32 → Prop} {g : GO} {vin : KV} {j d d' : Nat} {e k a q : Int} (h : JK t n nTp so W nT Z zc g vin j d d' e k a q) (v : VV) (hv : ∀ (Q : List pRw) (nR nN nd : Nat) K_ E_ mc ms p zs, Z Q p → RP t n nTp so Q nR nN nd d j zs → vin K_ E_ mc ms p zs 0 0 → v mc ms zs p K_ E_) :
    JQ t n nTp so W nT Z zc g (fun cont E_ mc ms p zs c tt => ∃ c1 s1 : Nat, c + c1 ≤ mc ∧ tt + s1 ≤ ms ∧ v c1 s1 zs p (fun z => cont z (c + c1) (tt + s1)) E_) j d d' e k a q := by
  rcases h with ⟨j1, m1, rn1, L1, R1, c1, c2, c3, c4, c5, c6, c7⟩ | ⟨j1, c1, c2, c3, c4⟩
  · refine Or.inl ⟨j1, m1, rn1, L1, R1, c1, c2, c3, c4, c5, c6, fun Q p nR nN nd hQ hQR hR0 hnd hZ => ?_⟩
    obtain ⟨nR1, nN1, nd1, b1, b2, b3, b4, b5⟩ := c7 Q p nR nN nd hQ hQR hR0 hnd hZ
    refine ⟨nR1, nN1, nd1, b1, b2, b3, b4, fun zs cont E_ mc ms c tt h hb kk => ?_⟩
    have hm1 := b1.1; have hm2 := b2.1
    obtain ⟨hb1, hb2⟩ := hb
    exact ⟨(nR1 - nR) / 4 + nN1 - nN, 24 * nR1 + 2 * nN1 - 24 * nR - 2 * nN, by omega, by omega, hv Q nR nN nd _ E_ _ _ p zs hZ h (b5 zs _ E_ _ _ 0 0 h ⟨by omega, by omega⟩ (fun z hz => kk z _ _ hz ⟨by omega, by omega⟩))⟩
  · refine Or.inr ⟨j1, c1, c2, c3, fun Q p nR nN nd hQ hQR hR0 hnd hZ => ?_⟩
    obtain ⟨nR1, nN1, b1, b2, b5⟩ := c4 Q p nR nN nd hQ hQR hR0 hnd hZ
    refine ⟨nR1, nN1, b1, b2, fun zs cont E_ mc ms c tt h hb kk => ?_⟩
    have hm1 := b1.1; have hm2 := b2.1
    obtain ⟨hb1, hb2⟩ := hb
    exact ⟨(nR1 - nR) / 4 + nN1 - nN, 24 * nR1 + 2 * nN1 - 24 * nR - 2 * nN, by omega, by omega, hv Q nR nN nd _ E_ _ _ p zs hZ h (b5 zs _ E_ _ _ 0 0 h ⟨by omega, by omega⟩ kk)⟩
theorem kd_p {t : FN} {n nTp : Nat} {so : FN} {j : Nat} {Q : List pRw} {nR nN nd d : Nat} {zs : RS} {kd p : Int32} (hZ : zK kd Q p) (h : RP t n nTp so Q nR nN nd d j zs) : vp_in p zs.nR ∧ zs.Kd p.toNatClampNeg = kd := by
  obtain ⟨x, a, h1, h2, rfl⟩ := hZ
  have hx := (List.getElem?_eq_some_iff.mp h1).1
  have hQR := h.1.2.2.2.1
  have eR : zs.nR = nR := h.1.1.2.2.2.1
  have hR9 := h.1.1.2.2.2.2.2.2.2.2.1
  rw [eR, nI_clamp (by omega)]
  exact ⟨pu_in (by omega) (by omega), (h.1.2.2.2.2.2.2.2.2 x a h1).1.trans h2⟩
theorem S_whole {t : FN} {n nTp : Nat} {so : FN} {W nT : Nat} {Z : ZP} {zc : Int32 → Prop} (hW : rW t n nTp so W) (hWT : W ≤ nT) {j d : Nat} (hj : j < W) (hd : d ≤ 30) {e q : Int} (he : e ≤ 0) (hq : q ≤ 0) : JQ t n nTp so W nT Z zc (fun p st => gWhole (g33 so W nT) nT p 0 st) (fun cont E_ mc ms p zs c tt => ∃ c1 s1 : Nat, c + c1 ≤ mc ∧ tt + s1 ≤ ms ∧ vc_M_whole c1 s1 zs p (fun _ z => cont z (c + c1) (tt + s1)) E_) j d d e 1 0 q :=
  S_JX (J_whole hW (fun i hi => J_terms hW 33 33 d hd (by omega) (by omega) i hi) hj) hWT he (by omega)
theorem S_shape {t : FN} {n nTp : Nat} {so : FN} {W nT : Nat} {Z : ZP} {zc : Int32 → Prop} (hW : rW t n nTp so W) (hWT : W ≤ nT) {j d : Nat} (hj : j < W) (hd : d ≤ 30) {e q : Int} (he : e ≤ 0) (hq : q ≤ 1) : JQ t n nTp so W nT Z zc (fun p st => gShape (g33 so W nT) so W nT p st) (fun cont E_ mc ms p zs c tt => ∃ c1 s1 : Nat, c + c1 ≤ mc ∧ tt + s1 ≤ ms ∧ vc_M_shape c1 s1 zs p (fun _ z => cont z (c + c1) (tt + s1)) E_) j d d e 0 0 q :=
  S_JO (J_shape hW (ff_lv so W nT 33).1 hd (fun hd30 i hi => J_whole hW (fun i2 hi2 => J_terms hW 33 33 (d + 1) (by omega) (by omega) (by omega) i2 hi2) hi) hj) hWT he (by omega)
theorem S_sum {t : FN} {n nTp : Nat} {so : FN} {W nT : Nat} {Z : ZP} {zc : Int32 → Prop} (hW : rW t n nTp so W) (hWT : W ≤ nT) {j d : Nat} (hj : j < W) (hd : d ≤ 30) {e q : Int} (he : e ≤ 1) (hq : q ≤ 1) : JQ t n nTp so W nT Z zc (fun p st => g34 so W nT p 0 0 st) (fun cont E_ mc ms p zs c tt => ∃ c1 s1 : Nat, c + c1 ≤ mc ∧ tt + s1 ≤ ms ∧ vAx c1 s1 zs p (fun _ z => cont z (c + c1) (tt + s1)) E_) j d d e 0 0 q :=
  S_JX (JT_X (J_sum hW 34 33 d hd (by omega) (by omega) j hj).1) hWT he (by omega)
theorem S_frac {t : FN} {n nTp : Nat} {so : FN} {W nT : Nat} {Z : ZP} {zc : Int32 → Prop} (hW : rW t n nTp so W) (hWT : W ≤ nT) {j d : Nat} (hj : j < W) {e q : Int} (he : e ≤ 0) (hq : q ≤ 0) : JQ t n nTp so W nT Z zc (fun p st => gFraction so nT p 0 st) (fun cont E_ mc ms p zs c tt => ∃ c1 s1 : Nat, c + c1 ≤ mc ∧ tt + s1 ≤ ms ∧ vc_M_fraction c1 s1 zs p (fun _ z => cont z (c + c1) (tt + s1)) E_) j d d e 1 0 q :=
  S_JY (J_frac hW hWT hj hq) he
