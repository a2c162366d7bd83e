abbrev ZP : Type := List pRw → Int32 → Prop
def zS (Z : ZP) : Prop := ∀ Q p X, Z Q p → Z (Q ++ X) p
abbrev SV : Type := (RS → Nat → Nat → Prop) → (RS → Prop) → Nat → Nat → Int32 → RS → Nat → Nat → Prop
def JQ (t : FN) (n nTp : Nat) (so : FN) (W nT : Nat) (Z : ZP) (zc : Int32 → Prop) (g : GO) (v : SV) (j d d' : Nat) (e k a q : Int) : Prop :=
  (∃ (j' m rn : Nat) (L : LF2) (R : RF2), j ≤ j' ∧ j' < W ∧ (m : Int) + j ≤ j' + k ∧ (rn : Int) + 4 * j ≤ 4 * j' + a ∧ Fo W m rn L R ∧
    (∀ (p : Int32) (N : List pNd), zc p → (N.length : Int) ≤ j + q → g p (j, false, nI d, N) = (j', false, nI d', N ++ L N.length p)) ∧
    (∀ (Q : List pRw) (p : Int32) (nR nN nd : Nat), (Q.length : Int) ≤ 4 * j + e → Q.length ≤ nR → 1 ≤ nR ∧ nR % 4 = 0 → nd ≤ sbN t n j → Z Q p → ∃ nR' nN' nd' : Nat, gwR W nR nR' ∧ gwN n nN nN' ∧ Q.length + rn ≤ nR' ∧ nd' ≤ sbN t n j' ∧
      ∀ zs cont E_ mc ms c tt, RP t n nTp so Q nR nN nd d j zs → budC nR nN nR' nN' mc ms c tt → (∀ z' c' t', RP t n nTp so (Q ++ R Q.length p) nR' nN' nd' d' j' z' → cnt nR nN nR' nN' c c' tt t' → cont z' c' t') → v cont E_ mc ms p zs c tt)) ∨
  (∃ j', j ≤ j' ∧ j' < W ∧ (∀ (p : Int32) (N : List pNd), zc p → (N.length : Int) ≤ j + q → ∃ d' N', g p (j, false, nI d, N) = (j', true, d', N')) ∧
    (∀ (Q : List pRw) (p : Int32) (nR nN nd : Nat), (Q.length : Int) ≤ 4 * j + e → Q.length ≤ nR → 1 ≤ nR ∧ nR % 4 = 0 → nd ≤ sbN t n j → Z Q p → ∃ nR' nN' : Nat, gwR W nR nR' ∧ gwN n nN nN' ∧
      ∀ zs cont E_ mc ms c tt, RP t n nTp so Q nR nN nd d j zs → budC nR nN nR' nN' mc ms c tt → (∀ z', RF t n nTp so nR' nN' j' z' → E_ z') → v cont E_ mc ms p zs c tt))
theorem JQ_seq {t : FN} {n nTp : Nat} {so : FN} {W nT : Nat} {Z : ZP} {zc : Int32 → Prop} {g1 g2 : GO} {v1 v2 : SV} {j d d1 d2 : Nat} {e e2 k1 k2 a1 a2 q q2 : Int} (h1 : JQ t n nTp so W nT Z zc g1 v1 j d d1 e k1 a1 q) (h2 : ∀ j1, j ≤ j1 → j1 < W → JQ t n nTp so W nT Z zc g2 v2 j1 d1 d2 e2 k2 a2 q2) (hff : ∀ p, ff (g2 p)) (he : e + a1 ≤ e2) (hzs : zS Z) (hq : q + k1 ≤ q2) :
    JQ t n nTp so W nT Z zc (fun p st => g2 p (g1 p st)) (fun cont E_ mc ms p zs c tt => v1 (fun z c' t' => v2 cont E_ mc ms p z c' t') E_ mc ms p zs c tt) j d d2 e (k1 + k2) (a1 + a2) q := by
  rcases h1 with ⟨j1, m1, rn1, L1, R1, c1, c2, c3, c4, c5, c6, c7⟩ | ⟨j1, c1, c2, c3, c4⟩
  · have hl1 := And.intro c5.1 c5.2.1
    rcases h2 j1 c1 c2 with ⟨j', m, rn, L, R, d1, d2, d3, d4, d5, d6, d7⟩ | ⟨j', d1, d2, d3, d4⟩
    · refine Or.inl ⟨j', m1 + m, rn1 + rn, _, _, by omega, d2, by omega, by omega, Fo_app c5 d5, fun p N hp hN => ?_, fun Q p nR nN nd hQ hQR hR0 hnd hZ => ?_⟩
      · show g2 p (g1 p (j, false, nI d, N)) = _
        rw [c6 p N hp hN, d6 p _ hp (by rw [List.length_append, hl1.1]; omega), List.length_append, hl1.1, List.append_assoc]
      · obtain ⟨nR1, nN1, nd1, b1, b2, b3, b4, b5⟩ := c7 Q p nR nN nd hQ hQR hR0 hnd hZ
        have hlen : (Q ++ R1 Q.length p).length = Q.length + rn1 := by rw [List.length_append, hl1.2]
        obtain ⟨nR2, nN2, nd2, e1, e2, e3, e4, e5⟩ := d7 (Q ++ R1 Q.length p) p nR1 nN1 nd1 (by omega) (by omega) (by have := b1.1; omega) b4 (hzs _ _ _ hZ)
        refine ⟨nR2, nN2, nd2, gwR_t b1 e1, gwN_t b2 e2, by omega, e4, fun zs cont E_ mc ms c tt h hb kk => ?_⟩
        have hm1 := b1.1; have hm2 := b2.1; have hm3 := e1.1; have hm4 := e2.1
        obtain ⟨hb1, hb2⟩ := hb
        refine b5 zs _ E_ mc ms c tt h ⟨by omega, by omega⟩ (fun z1 c' t' h1 hc1 => ?_)
        obtain ⟨g1, g2⟩ := hc1
        refine e5 z1 cont E_ mc ms c' t' h1 ⟨by omega, by omega⟩ (fun z2 c'' t'' h2 hc2 => kk z2 c'' t'' ?_ ?_)
        · rw [hlen, List.append_assoc] at h2
          exact h2
        · obtain ⟨g3, g4⟩ := hc2
          exact ⟨by omega, by omega⟩
    · refine Or.inr ⟨j', by omega, d2, fun p N hp hN => ?_, fun Q p nR nN nd hQ hQR hR0 hnd hZ => ?_⟩
      · show ∃ d' N', g2 p (g1 p (j, false, nI d, N)) = _
        rw [c6 p N hp hN]; exact d3 p _ hp (by rw [List.length_append, hl1.1]; omega)
      · obtain ⟨nR1, nN1, nd1, b1, b2, b3, b4, b5⟩ := c7 Q p nR nN nd hQ hQR hR0 hnd hZ
        have hlen : (Q ++ R1 Q.length p).length = Q.length + rn1 := by rw [List.length_append, hl1.2]
        obtain ⟨nR2, nN2, e1, e2, e5⟩ := d4 (Q ++ R1 Q.length p) p nR1 nN1 nd1 (by omega) (by omega) (by have := b1.1; omega) b4 (hzs _ _ _ hZ)
        refine ⟨nR2, nN2, gwR_t b1 e1, gwN_t b2 e2, fun zs cont E_ mc ms c tt h hb kk => ?_⟩
        have hm1 := b1.1; have hm2 := b2.1; have hm3 := e1.1; have hm4 := e2.1
        obtain ⟨hb1, hb2⟩ := hb
        refine b5 zs _ E_ mc ms c tt h ⟨by omega, by omega⟩ (fun z1 c' t' h1 hc1 => ?_)
        obtain ⟨g1, g2⟩ := hc1
        exact e5 z1 cont E_ mc ms c' t' h1 ⟨by omega, by omega⟩ kk
  · refine Or.inr ⟨j1, c1, c2, fun p N hp hN => ?_, fun Q p nR nN nd hQ hQR hR0 hnd hZ => ?_⟩
    · obtain ⟨d1, N1, e1⟩ := c3 p N hp hN
      show ∃ d' N', g2 p (g1 p (j, false, nI d, N)) = _
      rw [e1]; exact hff p j1 d1 N1
    · obtain ⟨nR1, nN1, b1, b2, b5⟩ := c4 Q p nR nN nd hQ hQR hR0 hnd hZ
      exact ⟨nR1, nN1, b1, b2, fun zs cont E_ mc ms c tt h hb kk => b5 zs _ E_ mc ms c tt h hb kk⟩
theorem JQ_w {t : FN} {n nTp : Nat} {so : FN} {W nT : Nat} {Z : ZP} {zc : Int32 → Prop} {g : GO} {v : SV} {j d d' : Nat} {e e2 k k2 a a2 q q2 : Int} (h : JQ t n nTp so W nT Z zc g v j d d' e k a q) (he : e2 ≤ e) (hk : k ≤ k2) (ha : a ≤ a2) (hq : q2 ≤ q) : JQ t n nTp so W nT Z zc g v j d d' e2 k2 a2 q2 := by
  rcases h with ⟨j1, m1, rn1, L1, R1, c1, c2, c3, c4, c5, c6, c7⟩ | ⟨j1, c1, c2, c3, c4⟩
  · exact Or.inl ⟨j1, m1, rn1, L1, R1, c1, c2, by omega, by omega, c5, fun p N hp hN => c6 p N hp (by omega), fun Q p nR nN nd hQ => c7 Q p nR nN nd (by omega)⟩
  · exact Or.inr ⟨j1, c1, c2, fun p N hp hN => c3 p N hp (by omega), fun Q p nR nN nd hQ => c4 Q p nR nN nd (by omega)⟩
def zK (kd : Int32) : ZP := fun Q p => ∃ x a, Q[x]? = some a ∧ a.1 = kd ∧ p = nI x
theorem zK_s (kd : Int32) : zS (zK kd) := fun Q p X ⟨x, a, h1, h2, h3⟩ => ⟨x, a, by rw [List.getElem?_append_left (List.getElem?_eq_some_iff.mp h1).1]; exact h1, h2, h3⟩
theorem zK_l {Q : List pRw} {kd : Int32} {fw : Nat} {p s de : Int32} {pc ac m : Nat} (_ : (Q ++ [(kd, fw, p, s, de, pc, ac)]).length = m) : zK kd (Q ++ [(kd, fw, p, s, de, pc, ac)]) (nI Q.length) := ⟨Q.length, (kd, fw, p, s, de, pc, ac), by simp, rfl, rfl⟩
theorem JQ_node {t : FN} {n nTp : Nat} {so : FN} {W nT : Nat} {Z : ZP} {zc : Int32 → Prop} (hW : rW t n nTp so W) (hWT : W ≤ nT) (hT : nT < 2 ^ 30) {g : GO} {v : SV} {j d d' : Nat} {e e2 k a q q2 : Int} (kd : Int32) (hkd : 0 = acl kd) (h : JQ t n nTp so W nT (zK kd) (fun p => p ≠ -1) g v j d d' e2 k a q2) (hj : j < W) (he : e + 1 ≤ e2) (he8 : e ≤ 16) (hq : q + 1 ≤ q2) (hq0 : q ≤ 0) :
    JQ t n nTp so W nT Z zc (fun p st => g (gR nT st) (gAdd nT kd p 0 st)) (fun cont E_ mc ms p zs c tt => ∃ c1 s1 : Nat, c + c1 ≤ mc ∧ tt + s1 ≤ ms ∧ vc_M_piece c1 s1 zs kd p (fun r z => v cont E_ mc ms r z (c + c1) (tt + s1))) j d d' e (k + 1) (a + 1) q := by
  have w := tk_so hW hj
  rcases h with ⟨j', m, rn, L, R, c1, c2, c3, c4, c5, c6, c7⟩ | ⟨j', c1, c2, c3, c4⟩
  · refine Or.inl ⟨j', m + 1, rn + 1, _, _, c1, c2, by omega, by omega, Fo_tree (Tr_node c5 kd j (-1) 0 0 (by decide) hkd (by omega)) 0, fun p N hp hN => ?_, fun Q p nR nN nd hQ hQR hR0 hnd hZ => ?_⟩
    · show g (gR nT (j, false, nI d, N)) (gAdd nT kd p 0 (j, false, nI d, N)) = _
      rw [g_add (by omega), g_R (by omega), c6 _ _ (pu_m1 (by omega)) (by simp only [List.length_append, List.length_cons, List.length_nil]; omega)]
      simp only [List.length_append, List.length_cons, List.length_nil, List.append_assoc, List.cons_append, List.nil_append, Nat.zero_add]
    · obtain ⟨g1, g2⟩ := gwR_g (W := W) hR0 hQR (by omega)
      have hlF : (Q ++ [(kd, j, p, (0 : Int32), (-1 : Int32), 0, 0)]).length = Q.length + 1 := by simp
      obtain ⟨nR1, nN1, nd1, b1, b2, b3, b4, b5⟩ := c7 (Q ++ [(kd, j, p, 0, -1, 0, 0)]) (nI Q.length) (grR nR Q.length) nN nd (by omega) (by omega) (by have := g1.1; omega) hnd (zK_l hlF)
      refine ⟨nR1, nN1, nd1, gwR_t g1 b1, b2, by omega, b4, fun zs cont E_ mc ms c tt h hb kk => ?_⟩
      have hm0 := g1.1; have hm1 := b1.1; have hm2 := b2.1
      obtain ⟨hb1, hb2⟩ := hb
      refine ⟨(grR nR Q.length - nR) / 4, 24 * (grR nR Q.length - nR), by omega, by omega, q_piece h (by omega) (by omega) (by omega) (fun z1 h1 => ?_)⟩
      refine b5 z1 cont E_ mc ms _ _ h1 ⟨by omega, by omega⟩ (fun z2 c' t' h2 hc2 => kk z2 c' t' ?_ ?_)
      · rw [hlF, List.append_assoc] at h2
        exact h2
      · obtain ⟨g3, g4⟩ := hc2
        exact ⟨by omega, by omega⟩
  · refine Or.inr ⟨j', c1, c2, fun p N hp hN => ?_, fun Q p nR nN nd hQ hQR hR0 hnd hZ => ?_⟩
    · show ∃ d' N', g (gR nT (j, false, nI d, N)) (gAdd nT kd p 0 (j, false, nI d, N)) = _
      rw [g_add (by omega), g_R (by omega)]
      exact c3 _ _ (pu_m1 (by omega)) (by simp only [List.length_append, List.length_cons, List.length_nil]; omega)
    · obtain ⟨g1, g2⟩ := gwR_g (W := W) hR0 hQR (by omega)
      have hlF : (Q ++ [(kd, j, p, (0 : Int32), (-1 : Int32), 0, 0)]).length = Q.length + 1 := by simp
      obtain ⟨nR1, nN1, b1, b2, b5⟩ := c4 (Q ++ [(kd, j, p, 0, -1, 0, 0)]) (nI Q.length) (grR nR Q.length) nN nd (by omega) (by omega) (by have := g1.1; omega) hnd (zK_l hlF)
      refine ⟨nR1, nN1, gwR_t g1 b1, b2, fun zs cont E_ mc ms c tt h hb kk => ?_⟩
      have hm0 := g1.1; have hm1 := b1.1; have hm2 := b2.1
      obtain ⟨hb1, hb2⟩ := hb
      exact ⟨(grR nR Q.length - nR) / 4, 24 * (grR nR Q.length - nR), by omega, by omega, q_piece h (by omega) (by omega) (by omega) (fun z1 h1 => b5 z1 cont E_ mc ms _ _ h1 ⟨by omega, by omega⟩ kk)⟩
theorem cnt_r (nR nN c tt : Nat) : cnt nR nN nR nN c c tt tt := ⟨rfl, rfl⟩
theorem S_tok {t : FN} {n nTp : Nat} {so : FN} {W nT : Nat} {Z : ZP} {zc : Int32 → Prop} (hW : rW t n nTp so W) {x : Int32} (hx : x ∈ sgnC) {j d : Nat} (hj : j < W) (e q : Int) : JQ t n nTp so W nT Z zc (fun _ st => gTake so x st) (fun cont E_ mc ms p zs c tt => vc_M_is zs x (fun r => vc_M_pass zs r (fun z => cont z c tt) E_)) j d d e (-1) (-4) q := by
  have X := sg_r x hx
  have hb1 := psb_b t n j
  have hb2 := sb_n t n j
  by_cases h : so j = x
  · have a1 := tk_go hW hj h X.2.1 X.2.2.1
    refine Or.inl ⟨j + 1, 0, 0, _, _, by omega, a1, by omega, by omega, Fo_nil, fun p N _ _ => by rw [List.append_nil]; exact g_take h, fun Q p nR nN nd hQ hQR hR0 hnd hZ => ⟨nR, nN, nd, gwR_r W nR, gwN_r n nN, hQR, by omega, fun zs cont E_ mc ms c tt h2 hb kk => ?_⟩⟩
    exact q_is hW hj h2.1.1.1 h2.1.1.2.1 h2.2.1 hx (fun _ => q_passY hW h2 a1 (fun z hz => kk z c tt (by rw [List.append_nil]; exact hz) (cnt_r ..))) (fun q => absurd h q)
  · refine Or.inr ⟨j, by omega, hj, fun p N _ _ => ⟨_, N, g_takeN h⟩, fun Q p nR nN nd hQ hQR hR0 hnd hZ => ⟨nR, nN, gwR_r W nR, gwN_r n nN, fun zs cont E_ mc ms c tt h2 hb kk => ?_⟩⟩
    exact q_is hW hj h2.1.1.1 h2.1.1.2.1 h2.2.1 hx (fun q => absurd q h) (fun _ => q_passN h2 kk)
theorem S_key {t : FN} {n nTp : Nat} {so : FN} {W nT : Nat} {Z : ZP} {zc : Int32 → Prop} (hW : rW t n nTp so W) {x y : Int32} (k : Nat) (hk : k < 17) (hx : x = nI (256 + k)) (hy : y = nI k) {j d : Nat} (hj : j < W) (e q : Int) : JQ t n nTp so W nT Z zc (fun _ st => gTake so x st) (fun cont E_ mc ms p zs c tt => vc_M_isKey zs y (fun r => vc_M_pass zs r (fun z => cont z c tt) E_)) j d d e (-1) (-4) q := by
  subst hx hy
  have X := key_r k hk
  have hb1 := psb_b t n j
  have hb2 := sb_n t n j
  by_cases h : so j = nI (256 + k)
  · have a1 := tk_go hW hj h X.1 X.2.1
    refine Or.inl ⟨j + 1, 0, 0, _, _, by omega, a1, by omega, by omega, Fo_nil, fun p N _ _ => by rw [List.append_nil]; exact g_take h, fun Q p nR nN nd hQ hQR hR0 hnd hZ => ⟨nR, nN, nd, gwR_r W nR, gwN_r n nN, hQR, by omega, fun zs cont E_ mc ms c tt h2 hb kk => ?_⟩⟩
    exact q_isKey h2.2.1 hk (fun _ => q_passY hW h2 a1 (fun z hz => kk z c tt (by rw [List.append_nil]; exact hz) (cnt_r ..))) (fun q => absurd h q)
  · refine Or.inr ⟨j, by omega, hj, fun p N _ _ => ⟨_, N, g_takeN h⟩, fun Q p nR nN nd hQ hQR hR0 hnd hZ => ⟨nR, nN, gwR_r W nR, gwN_r n nN, fun zs cont E_ mc ms c tt h2 hb kk => ?_⟩⟩
    exact q_isKey h2.2.1 hk (fun q => absurd q h) (fun _ => q_passN h2 kk)
theorem S_next {t : FN} {n nTp : Nat} {so : FN} {W nT : Nat} {Z : ZP} {zc : Int32 → Prop} (hW : rW t n nTp so W) {x : Int32} (h1 : x ≠ 1) (h2 : x ≠ 2) {j d : Nat} (hj : j < W) (h : so j = x) (e q : Int) : JQ t n nTp so W nT Z zc (fun _ st => gTake so x st) (fun cont E_ mc ms p zs c tt => vc_M_next zs (fun z => cont z c tt)) j d d e (-1) (-4) q := by
  have hb1 := psb_b t n j
  have hb2 := sb_n t n j
  have a1 := tk_go hW hj h h1 h2
  exact Or.inl ⟨j + 1, 0, 0, _, _, by omega, a1, by omega, by omega, Fo_nil, fun p N _ _ => by rw [List.append_nil]; exact g_take h, fun Q p nR nN nd hQ hQR hR0 hnd hZ => ⟨nR, nN, nd, gwR_r W nR, gwN_r n nN, hQR, by omega, fun zs cont E_ mc ms c tt h2 hb kk => q_nextP hW h2 a1 (fun z hz => kk z c tt (by rw [List.append_nil]; exact hz) (cnt_r ..))⟩⟩
theorem S_step {t : FN} {n nTp : Nat} {so : FN} {W nT : Nat} {Z : ZP} {zc : Int32 → Prop} (hW : rW t n nTp so W) {x : Int32} (h1 : x ≠ 1) (h2 : x ≠ 2) {j d : Nat} (hj : j < W) (h : so j = x) (e q : Int) : JQ t n nTp so W nT Z zc (fun _ st => gStep st) (fun cont E_ mc ms p zs c tt => vc_M_next zs (fun z => cont z c tt)) j d d e (-1) (-4) q := by
  have hb1 := psb_b t n j
  have hb2 := sb_n t n j
  have a1 := tk_go hW hj h h1 h2
  exact Or.inl ⟨j + 1, 0, 0, _, _, by omega, a1, by omega, by omega, Fo_nil, fun p N _ _ => by rw [List.append_nil]; rfl, fun Q p nR nN nd hQ hQR hR0 hnd hZ => ⟨nR, nN, nd, gwR_r W nR, gwN_r n nN, hQR, by omega, fun zs cont E_ mc ms c tt h2 hb kk => q_nextP hW h2 a1 (fun z hz => kk z c tt (by rw [List.append_nil]; exact hz) (cnt_r ..))⟩⟩
theorem S_open {t : FN} {n nTp : Nat} {so : FN} {W nT : Nat} {Z : ZP} {zc : Int32 → Prop} (hW : rW t n nTp so W) {x : Int32} (hx : x ∈ sgnC) {j d : Nat} (hd : d ≤ 30) (hj : j < W) (e q : Int) : JQ t n nTp so W nT Z zc (fun _ st => gOpen so x st) (fun cont E_ mc ms p zs c tt => vc_M_open zs x (fun z => cont z c tt) E_) j d (d + 1) e (-1) (-4) q := by
  have X := sg_r x hx
  have hb1 := psb_b t n j
  have hb2 := sb_n t n j
  by_cases h : so j = x ∧ d < 30
  · have a1 := tk_go hW hj h.1 X.2.1 X.2.2.1
    exact Or.inl ⟨j + 1, 0, 0, _, _, by omega, a1, by omega, by omega, Fo_nil, fun p N _ _ => by rw [List.append_nil]; exact g_open h.1 h.2, fun Q p nR nN nd hQ hQR hR0 hnd hZ => ⟨nR, nN, nd, gwR_r W nR, gwN_r n nN, hQR, by omega, fun zs cont E_ mc ms c tt h2 hb kk => q_open hW hj hd hx h2 (fun _ _ z hz => kk z c tt (by rw [List.append_nil]; exact hz) (cnt_r ..)) (fun q => absurd h q)⟩⟩
  · exact Or.inr ⟨j, by omega, hj, fun p N _ _ => ⟨_, N, g_openN hd h⟩, fun Q p nR nN nd hQ hQR hR0 hnd hZ => ⟨nR, nN, gwR_r W nR, gwN_r n nN, fun zs cont E_ mc ms c tt h2 hb kk => q_open hW hj hd hx h2 (fun a b => absurd ⟨a, b⟩ h) (fun _ => kk)⟩⟩
theorem S_close {t : FN} {n nTp : Nat} {so : FN} {W nT : Nat} {Z : ZP} {zc : Int32 → Prop} (hW : rW t n nTp so W) {x : Int32} (hx : x ∈ sgnC) {j d : Nat} (hj : j < W) (e q : Int) : JQ t n nTp so W nT Z zc (fun _ st => gClose so x st) (fun cont E_ mc ms p zs c tt => vc_M_shut zs x (fun z => cont z c tt) E_) j (d + 1) d e (-1) (-4) q := by
  have X := sg_r x hx
  have hb1 := psb_b t n j
  have hb2 := sb_n t n j
  by_cases h : so j = x
  · have a1 := tk_go hW hj h X.2.1 X.2.2.1
    exact Or.inl ⟨j + 1, 0, 0, _, _, by omega, a1, by omega, by omega, Fo_nil, fun p N _ _ => by rw [List.append_nil]; exact g_close h, fun Q p nR nN nd hQ hQR hR0 hnd hZ => ⟨nR, nN, nd, gwR_r W nR, gwN_r n nN, hQR, by omega, fun zs cont E_ mc ms c tt h2 hb kk => q_shut hW hj hx h2 (fun _ z hz => kk z c tt (by rw [List.append_nil]; exact hz) (cnt_r ..)) (fun q => absurd h q)⟩⟩
  · exact Or.inr ⟨j, by omega, hj, fun p N _ _ => ⟨_, N, g_closeN h⟩, fun Q p nR nN nd hQ hQR hR0 hnd hZ => ⟨nR, nN, gwR_r W nR, gwN_r n nN, fun zs cont E_ mc ms c tt h2 hb kk => q_shut hW hj hx h2 (fun q => absurd q h) (fun _ => kk)⟩⟩
theorem S_name {t : FN} {n nTp : Nat} {so : FN} {W nT : Nat} {Z : ZP} {zc : Int32 → Prop} (hW : rW t n nTp so W) (hWT : W ≤ nT) (s : Int32) {j d : Nat} (hj : j < W) {e q : Int} (he : e ≤ 3) (hq : q ≤ 1) : JQ t n nTp so W nT Z zc (fun p st => gName so nT p s st) (fun cont E_ mc ms p zs c tt => ∃ c1 s1 : Nat, c + c1 ≤ mc ∧ tt + s1 ≤ ms ∧ vc_M_namePiece c1 s1 zs p s (fun _ z => cont z (c + c1) (tt + s1)) E_) j d d e 0 (-3) q := by
  by_cases h3 : so j = 3
  · obtain ⟨a1, a2, a3⟩ := J_nam (nT := nT) (d := d) hW hj h3 s
    refine Or.inl ⟨j + 1, 1, 1, _, _, by omega, a1, by omega, by omega, Fo_tree (Tr_leaf 15 j (-1) 1 rfl (by omega)) s, fun p N _ hN => (a2 p s N).2 (by omega), fun Q p nR nN nd hQ hQR hR0 hnd hZ => ?_⟩
    obtain ⟨nR1, nN1, nd1, b1, b2, b3, b4, b5⟩ := a3 Q p nR nN nd (by omega) hQR hR0 hnd
    refine ⟨nR1, nN1, nd1, b1, b2, b3, b4, fun zs cont E_ mc ms c tt h hb kk => ?_⟩
    have hm1 := b1.1; have hm2 := b2.1
    obtain ⟨hb1, hb2⟩ := hb
    exact ⟨(nR1 - nR) / 4 + nN1 - nN, 24 * nR1 + 2 * nN1 - 24 * nR - 2 * nN, by omega, by omega, b5 zs _ E_ _ _ h ⟨by omega, by omega⟩ (fun z hz => kk z _ _ hz ⟨by omega, by omega⟩)⟩
  · obtain ⟨a2, a3⟩ := J_namF (nT := nT) (d := d) hW hj h3 s
    refine Or.inr ⟨j, by omega, hj, fun p N _ _ => a2 p s N, fun Q p nR nN nd hQ hQR hR0 hnd hZ => ?_⟩
    obtain ⟨nR1, nN1, b1, b2, b5⟩ := a3 Q p nR nN nd (by omega) hQR hR0 hnd
    refine ⟨nR1, nN1, b1, b2, fun zs cont E_ mc ms c tt h hb kk => ?_⟩
    have hm1 := b1.1; have hm2 := b2.1
    obtain ⟨hb1, hb2⟩ := hb
    exact ⟨(nR1 - nR) / 4 + nN1 - nN, 24 * nR1 + 2 * nN1 - 24 * nR - 2 * nN, by omega, by omega, b5 zs _ E_ _ _ h ⟨by omega, by omega⟩ kk⟩
theorem S_num {t : FN} {n nTp : Nat} {so : FN} {W nT : Nat} {Z : ZP} {zc : Int32 → Prop} (hW : rW t n nTp so W) (hWT : W ≤ nT) {j d : Nat} (hj : j < W) {e q : Int} (he : e ≤ 3) (hq : q ≤ 1) : JQ t n nTp so W nT Z zc (fun p st => gNumber so nT p 0 st) (fun cont E_ mc ms p zs c tt => ∃ c1 s1 : Nat, c + c1 ≤ mc ∧ tt + s1 ≤ ms ∧ vc_M_numberPiece c1 s1 zs p (fun _ z => cont z (c + c1) (tt + s1)) E_) j d d e 0 (-3) q := by
  by_cases h4 : so j = 4
  · obtain ⟨a1, a2, a3⟩ := J_num (nT := nT) (d := d) hW hj h4
    refine Or.inl ⟨j + 1, 1, 1, _, _, by omega, a1, by omega, by omega, Fo_tree (Tr_leaf 16 j (-1) 4 rfl (by omega)) 0, fun p N _ hN => (a2 p 0 N).2 (by omega), fun Q p nR nN nd hQ hQR hR0 hnd hZ => ?_⟩
    obtain ⟨nR1, nN1, nd1, b1, b2, b3, b4, b5⟩ := a3 Q p nR nN nd (by omega) hQR hR0 hnd
    refine ⟨nR1, nN1, nd1, b1, b2, b3, b4, fun zs cont E_ mc ms c tt h hb kk => ?_⟩
    have hm1 := b1.1; have hm2 := b2.1
    obtain ⟨hb1, hb2⟩ := hb
    exact ⟨(nR1 - nR) / 4 + nN1 - nN, 24 * nR1 + 2 * nN1 - 24 * nR - 2 * nN, by omega, by omega, b5 zs _ E_ _ _ h ⟨by omega, by omega⟩ (fun z hz => kk z _ _ hz ⟨by omega, by omega⟩)⟩
  · obtain ⟨a2, a3⟩ := J_numF (nT := nT) (d := d) hW hj h4
    refine Or.inr ⟨j, by omega, hj, fun p N _ _ => a2 p 0 N, fun Q p nR nN nd hQ hQR hR0 hnd hZ => ?_⟩
    obtain ⟨nR1, nN1, b1, b2, b5⟩ := a3 Q p nR nN nd (by omega) hQR hR0 hnd
    refine ⟨nR1, nN1, b1, b2, fun zs cont E_ mc ms c tt h hb kk => ?_⟩
    have hm1 := b1.1; have hm2 := b2.1
    obtain ⟨hb1, hb2⟩ := hb
    exact ⟨(nR1 - nR) / 4 + nN1 - nN, 24 * nR1 + 2 * nN1 - 24 * nR - 2 * nN, by omega, by omega, b5 zs _ E_ _ _ h ⟨by omega, by omega⟩ kk⟩
theorem S_JX {t : FN} {n nTp : Nat} {so : FN} {W nT : Nat} {Z : ZP} {zc : Int32 → Prop} {g : GT} {vr : VR} {j d e0 u : Nat} (h : JX t n nTp so W nT g vr j d e0 u) {e q : Int} (hWT : W ≤ nT) (he : e ≤ e0) (hq : q + u ≤ 1) : JQ t n nTp so W nT Z zc (fun p st => g p 0 st) (fun cont E_ mc ms p zs c tt => ∃ c1 s1 : Nat, c + c1 ≤ mc ∧ tt + s1 ≤ ms ∧ vr c1 s1 zs p (fun _ z => cont z (c + c1) (tt + s1)) E_) j d d e u 0 q := by
  rcases h with ⟨j', m, rn, L, R, c1, c2, c3, c4, c5, c6, c7⟩ | ⟨j', c1, c2, c3, c4⟩
  · refine Or.inl ⟨j', m, rn, _, _, by omega, c2, by omega, by omega, Fo_tree c5 0, fun p N _ hN => (c6 p 0 N).2 (by omega), fun Q p nR nN nd hQ hQR hR0 hnd hZ => ?_⟩
    obtain ⟨nR1, nN1, nd1, b1, b2, b3, b4, b5⟩ := c7 Q p nR nN nd (by omega) hQR hR0 hnd
    refine ⟨nR1, nN1, nd1, b1, b2, b3, b4, fun zs cont E_ mc ms c tt h hb kk => ?_⟩
    have hm1 := b1.1; have hm2 := b2.1
    obtain ⟨hb1, hb2⟩ := hb
    exact ⟨(nR1 - nR) / 4 + nN1 - nN, 24 * nR1 + 2 * nN1 - 24 * nR - 2 * nN, by omega, by omega, b5 zs _ E_ _ _ h ⟨by omega, by omega⟩ (fun z hz => kk z _ _ hz ⟨by omega, by omega⟩)⟩
  · refine Or.inr ⟨j', c1, c2, fun p N _ _ => c3 p 0 N, fun Q p nR nN nd hQ hQR hR0 hnd hZ => ?_⟩
    obtain ⟨nR1, nN1, b1, b2, b5⟩ := c4 Q p nR nN nd (by omega) hQR hR0 hnd
    refine ⟨nR1, nN1, b1, b2, fun zs cont E_ mc ms c tt h hb kk => ?_⟩
    have hm1 := b1.1; have hm2 := b2.1
    obtain ⟨hb1, hb2⟩ := hb
    exact ⟨(nR1 - nR) / 4 + nN1 - nN, 24 * nR1 + 2 * nN1 - 24 * nR - 2 * nN, by omega, by omega, b5 zs _ E_ _ _ h ⟨by omega, by omega⟩ kk⟩
theorem S_JO {t : FN} {n nTp : Nat} {so : FN} {W nT : Nat} {Z : ZP} {zc : Int32 → Prop} {g : GO} {vr : VR} {j d e0 u : Nat} (h : JO t n nTp so W nT g vr j d e0 u) {e q : Int} (hWT : W ≤ nT) (he : e ≤ e0) (hq : q + u ≤ 1) : JQ t n nTp so W nT Z zc g (fun cont E_ mc ms p zs c tt => ∃ c1 s1 : Nat, c + c1 ≤ mc ∧ tt + s1 ≤ ms ∧ vr c1 s1 zs p (fun _ z => cont z (c + c1) (tt + s1)) E_) j d d e u 0 q := by
  rcases h with ⟨j', m, rn, L, R, c1, c2, c3, c4, c5, c6, c7⟩ | ⟨j', c1, c2, c3, c4⟩
  · refine Or.inl ⟨j', m, rn, _, _, by omega, c2, by omega, by omega, Fo_tree c5 0, fun p N _ hN => (c6 p N).2 (by omega), fun Q p nR nN nd hQ hQR hR0 hnd hZ => ?_⟩
    obtain ⟨nR1, nN1, nd1, b1, b2, b3, b4, b5⟩ := c7 Q p nR nN nd (by omega) hQR hR0 hnd
    refine ⟨nR1, nN1, nd1, b1, b2, b3, b4, fun zs cont E_ mc ms c tt h hb kk => ?_⟩
    have hm1 := b1.1; have hm2 := b2.1
    obtain ⟨hb1, hb2⟩ := hb
    exact ⟨(nR1 - nR) / 4 + nN1 - nN, 24 * nR1 + 2 * nN1 - 24 * nR - 2 * nN, by omega, by omega, b5 zs _ E_ _ _ h ⟨by omega, by omega⟩ (fun z hz => kk z _ _ hz ⟨by omega, by omega⟩)⟩
  · refine Or.inr ⟨j', c1, c2, fun p N _ _ => c3 p N, fun Q p nR nN nd hQ hQR hR0 hnd hZ => ?_⟩
    obtain ⟨nR1, nN1, b1, b2, b5⟩ := c4 Q p nR nN nd (by omega) hQR hR0 hnd
    refine ⟨nR1, nN1, b1, b2, fun zs cont E_ mc ms c tt h hb kk => ?_⟩
    have hm1 := b1.1; have hm2 := b2.1
    obtain ⟨hb1, hb2⟩ := hb
    exact ⟨(nR1 - nR) / 4 + nN1 - nN, 24 * nR1 + 2 * nN1 - 24 * nR - 2 * nN, by omega, by omega, b5 zs _ E_ _ _ h ⟨by omega, by omega⟩ kk⟩
theorem JT_X {t : FN} {n nTp : Nat} {so : FN} {W nT : Nat} {g : GT} {vr : VR} {j d e a : Nat} (h : JT t n nTp so W nT g vr j d e a) : JX t n nTp so W nT g vr j d e 0 := by
  rcases h with ⟨j', m, rn, L, R, c1, c2, c3, c4, c5, c6, c7⟩ | h
  · exact Or.inl ⟨j', m, rn, L, R, c1, c2, by omega, by omega, c5, c6, c7⟩
  · exact Or.inr h
