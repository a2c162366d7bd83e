theorem JQ_seqS {t : FN} {n nTp : Nat} {so : FN} {W nT : Nat} {Z : ZP} {zc : Int32 → Prop} {g1 g2 : GO} {v1 v2 : SV} {j d d1 d2 : Nat} {e e2 k1 k2 a1 a2 q q2 : Int} (h1 : JQ t n nTp so W nT Z zc g1 v1 j d d1 e k1 a1 q) (hk1 : k1 ≤ -1) (h2 : ∀ j1, j < j1 → j1 < W → JQ t n nTp so W nT Z zc g2 v2 j1 d1 d2 e2 k2 a2 q2) (hff : ∀ p, ff (g2 p)) (he : e + a1 ≤ e2) (hzs : zS Z) (hq : q + k1 ≤ q2) :
    JQ t n nTp so W nT Z zc (fun p st => g2 p (g1 p st)) (fun cont E_ mc ms p zs c tt => v1 (fun z c' t' => v2 cont E_ mc ms p z c' t') E_ mc ms p zs c tt) j d d2 e (k1 + k2) (a1 + a2) q := by
  rcases h1 with ⟨j1, m1, rn1, L1, R1, c1, c2, c3, c4, c5, c6, c7⟩ | ⟨j1, c1, c2, c3, c4⟩
  · have hl1 := And.intro c5.1 c5.2.1
    rcases h2 j1 (by omega) c2 with ⟨j', m, rn, L, R, d1, d2, d3, d4, d5, d6, d7⟩ | ⟨j', d1, d2, d3, d4⟩
    · refine Or.inl ⟨j', m1 + m, rn1 + rn, _, _, by omega, d2, by omega, by omega, Fo_app c5 d5, fun p N hp hN => ?_, fun Q p nR nN nd hQ hQR hR0 hnd hZ => ?_⟩
      · show g2 p (g1 p (j, false, nI d, N)) = _
        rw [c6 p N hp hN, d6 p _ hp (by rw [List.length_append, hl1.1]; omega), List.length_append, hl1.1, List.append_assoc]
      · obtain ⟨nR1, nN1, nd1, b1, b2, b3, b4, b5⟩ := c7 Q p nR nN nd hQ hQR hR0 hnd hZ
        have hlen : (Q ++ R1 Q.length p).length = Q.length + rn1 := by rw [List.length_append, hl1.2]
        obtain ⟨nR2, nN2, nd2, e1, e2, e3, e4, e5⟩ := d7 (Q ++ R1 Q.length p) p nR1 nN1 nd1 (by omega) (by omega) (by have := b1.1; omega) b4 (hzs _ _ _ hZ)
        refine ⟨nR2, nN2, nd2, gwR_t b1 e1, gwN_t b2 e2, by omega, e4, fun zs cont E_ mc ms c tt h hb kk => ?_⟩
        have hm1 := b1.1; have hm2 := b2.1; have hm3 := e1.1; have hm4 := e2.1
        obtain ⟨hb1, hb2⟩ := hb
        refine b5 zs _ E_ mc ms c tt h ⟨by omega, by omega⟩ (fun z1 c' t' h1 hc1 => ?_)
        obtain ⟨g1, g2⟩ := hc1
        refine e5 z1 cont E_ mc ms c' t' h1 ⟨by omega, by omega⟩ (fun z2 c'' t'' h2 hc2 => kk z2 c'' t'' ?_ ?_)
        · rw [hlen, List.append_assoc] at h2
          exact h2
        · obtain ⟨g3, g4⟩ := hc2
          exact ⟨by omega, by omega⟩
    · refine Or.inr ⟨j', by omega, d2, fun p N hp hN => ?_, fun Q p nR nN nd hQ hQR hR0 hnd hZ => ?_⟩
      · show ∃ d' N', g2 p (g1 p (j, false, nI d, N)) = _
        rw [c6 p N hp hN]; exact d3 p _ hp (by rw [List.length_append, hl1.1]; omega)
      · obtain ⟨nR1, nN1, nd1, b1, b2, b3, b4, b5⟩ := c7 Q p nR nN nd hQ hQR hR0 hnd hZ
        have hlen : (Q ++ R1 Q.length p).length = Q.length + rn1 := by rw [List.length_append, hl1.2]
        obtain ⟨nR2, nN2, e1, e2, e5⟩ := d4 (Q ++ R1 Q.length p) p nR1 nN1 nd1 (by omega) (by omega) (by have := b1.1; omega) b4 (hzs _ _ _ hZ)
        refine ⟨nR2, nN2, gwR_t b1 e1, gwN_t b2 e2, fun zs cont E_ mc ms c tt h hb kk => ?_⟩
        have hm1 := b1.1; have hm2 := b2.1; have hm3 := e1.1; have hm4 := e2.1
        obtain ⟨hb1, hb2⟩ := hb
        refine b5 zs _ E_ mc ms c tt h ⟨by omega, by omega⟩ (fun z1 c' t' h1 hc1 => ?_)
        obtain ⟨g1, g2⟩ := hc1
        exact e5 z1 cont E_ mc ms c' t' h1 ⟨by omega, by omega⟩ kk
  · refine Or.inr ⟨j1, c1, c2, fun p N hp hN => ?_, fun Q p nR nN nd hQ hQR hR0 hnd hZ => ?_⟩
    · obtain ⟨d1, N1, e1⟩ := c3 p N hp hN
      show ∃ d' N', g2 p (g1 p (j, false, nI d, N)) = _
      rw [e1]; exact hff p j1 d1 N1
    · obtain ⟨nR1, nN1, b1, b2, b5⟩ := c4 Q p nR nN nd hQ hQR hR0 hnd hZ
      exact ⟨nR1, nN1, b1, b2, fun zs cont E_ mc ms c tt h hb kk => b5 zs _ E_ mc ms c tt h hb kk⟩
theorem JK_seqS {t : FN} {n nTp : Nat} {so : FN} {W nT : Nat} {Z : ZP} {zc : Int32 → Prop} {g1 g2 : GO} {v1 : SV} {v2 : KV} {j d d1 d2 : Nat} {e e2 k1 k2 a1 a2 q q2 : Int} (h1 : JQ t n nTp so W nT Z zc g1 v1 j d d1 e k1 a1 q) (hk1 : k1 ≤ -1) (h2 : ∀ j1, j < j1 → j1 < W → JK t n nTp so W nT Z zc g2 v2 j1 d1 d2 e2 k2 a2 q2) (hff : ∀ p, ff (g2 p)) (he : e + a1 ≤ e2) (hzs : zS Z) (hq : q + k1 ≤ q2) :
    JK t n nTp so W nT Z zc (fun p st => g2 p (g1 p st)) (fun K_ E_ mc ms p zs c tt => v1 (fun z c' t' => v2 K_ E_ mc ms p z c' t') E_ mc ms p zs c tt) j d d2 e (k1 + k2) (a1 + a2) q := by
  rcases h1 with ⟨j1, m1, rn1, L1, R1, c1, c2, c3, c4, c5, c6, c7⟩ | ⟨j1, c1, c2, c3, c4⟩
  · have hl1 := And.intro c5.1 c5.2.1
    rcases h2 j1 (by omega) c2 with ⟨j', m, rn, L, R, d1, d2, d3, d4, d5, d6, d7⟩ | ⟨j', d1, d2, d3, d4⟩
    · refine Or.inl ⟨j', m1 + m, rn1 + rn, _, _, by omega, d2, by omega, by omega, Fo_app c5 d5, fun p N hp hN => ?_, fun Q p nR nN nd hQ hQR hR0 hnd hZ => ?_⟩
      · show g2 p (g1 p (j, false, nI d, N)) = _
        rw [c6 p N hp hN, d6 p _ hp (by rw [List.length_append, hl1.1]; omega), List.length_append, hl1.1, List.append_assoc]
      · obtain ⟨nR1, nN1, nd1, b1, b2, b3, b4, b5⟩ := c7 Q p nR nN nd hQ hQR hR0 hnd hZ
        have hlen : (Q ++ R1 Q.length p).length = Q.length + rn1 := by rw [List.length_append, hl1.2]
        obtain ⟨nR2, nN2, nd2, e1, e2, e3, e4, e5⟩ := d7 (Q ++ R1 Q.length p) p nR1 nN1 nd1 (by omega) (by omega) (by have := b1.1; omega) b4 (hzs _ _ _ hZ)
        refine ⟨nR2, nN2, nd2, gwR_t b1 e1, gwN_t b2 e2, by omega, e4, fun zs K_ E_ mc ms c tt h hb kk => ?_⟩
        have hm1 := b1.1; have hm2 := b2.1; have hm3 := e1.1; have hm4 := e2.1
        obtain ⟨hb1, hb2⟩ := hb
        refine b5 zs _ E_ mc ms c tt h ⟨by omega, by omega⟩ (fun z1 c' t' h1 hc1 => ?_)
        obtain ⟨g1, g2⟩ := hc1
        refine e5 z1 K_ E_ mc ms c' t' h1 ⟨by omega, by omega⟩ (fun z2 h2 => kk z2 ?_)
        rw [hlen, List.append_assoc] at h2
        exact h2
    · refine Or.inr ⟨j', by omega, d2, fun p N hp hN => ?_, fun Q p nR nN nd hQ hQR hR0 hnd hZ => ?_⟩
      · show ∃ d' N', g2 p (g1 p (j, false, nI d, N)) = _
        rw [c6 p N hp hN]; exact d3 p _ hp (by rw [List.length_append, hl1.1]; omega)
      · obtain ⟨nR1, nN1, nd1, b1, b2, b3, b4, b5⟩ := c7 Q p nR nN nd hQ hQR hR0 hnd hZ
        have hlen : (Q ++ R1 Q.length p).length = Q.length + rn1 := by rw [List.length_append, hl1.2]
        obtain ⟨nR2, nN2, e1, e2, e5⟩ := d4 (Q ++ R1 Q.length p) p nR1 nN1 nd1 (by omega) (by omega) (by have := b1.1; omega) b4 (hzs _ _ _ hZ)
        refine ⟨nR2, nN2, gwR_t b1 e1, gwN_t b2 e2, fun zs K_ E_ mc ms c tt h hb kk => ?_⟩
        have hm1 := b1.1; have hm2 := b2.1; have hm3 := e1.1; have hm4 := e2.1
        obtain ⟨hb1, hb2⟩ := hb
        refine b5 zs _ E_ mc ms c tt h ⟨by omega, by omega⟩ (fun z1 c' t' h1 hc1 => ?_)
        obtain ⟨g1, g2⟩ := hc1
        exact e5 z1 K_ E_ mc ms c' t' h1 ⟨by omega, by omega⟩ kk
  · refine Or.inr ⟨j1, c1, c2, fun p N hp hN => ?_, fun Q p nR nN nd hQ hQR hR0 hnd hZ => ?_⟩
    · obtain ⟨d1, N1, e1⟩ := c3 p N hp hN
      show ∃ d' N', g2 p (g1 p (j, false, nI d, N)) = _
      rw [e1]; exact hff p j1 d1 N1
    · obtain ⟨nR1, nN1, b1, b2, b5⟩ := c4 Q p nR nN nd hQ hQR hR0 hnd hZ
      exact ⟨nR1, nN1, b1, b2, fun zs K_ E_ mc ms c tt h hb kk => b5 zs _ E_ mc ms c tt h hb kk⟩
def gFin (so : FN) (st : pPS) : pPS := if psS so st = 1 then st else (st.1, true, st.2.2)
def gIL (so : FN) (W nT f : Nat) (st : pPS) : pPS := gFin so (gItemsL (gIt so W nT 32) so W nT (-1) f st)
def v134 (f : Nat) : KV := fun K_ E_ mc ms _ zs c tt => vl_M_text_134 mc ms K_ E_ f zs c tt
def vItm : SV := fun cont E_ mc ms _ zs c tt => ∃ c1 s1 : Nat, c + c1 ≤ mc ∧ tt + s1 ≤ ms ∧ vc_M_item c1 s1 zs (fun z => cont z (c + c1) (tt + s1)) E_
theorem ff_fin {so : FN} : ff (gFin so) := fun j d N => by
  unfold gFin
  rw [ps_f, if_neg (by decide)]
  exact ⟨d, N, rfl⟩
theorem ff_IL {so : FN} {W nT f : Nat} (_ : Int32) : ff (fun st => gIL so W nT f st) := ff_c (f := gItemsL (gIt so W nT 32) so W nT (-1) f) (g := gFin so) (ff_itemsL f) ff_fin
section
variable {t : FN} {n nTp : Nat} {so : FN} {W nT : Nat}
theorem q_item {j : Nat} {zs : RS} {mc ms : Nat} {K_ E_ : RS → Prop} (hL : pRL t n so j zs)
    (h1 : so j = 257 → vj_M_item_34 mc ms K_ E_ 1 1 zs 0 0) (h2 : so j = 258 → vj_M_item_34 mc ms K_ E_ 0 2 zs 0 0) (h4 : so j = 260 → vj_M_item_111 mc ms K_ E_ 3 zs 0 0) (h5 : so j = 261 → vj_M_item_111 mc ms K_ E_ 4 zs 0 0)
    (h6 : so j = 262 → ∃ c1 s1 : Nat, 0 + c1 ≤ mc ∧ 0 + s1 ≤ ms ∧ vc_M_block c1 s1 zs K_ E_) (h7 : ¬ isOu (so j) → ∃ c1 s1 : Nat, 0 + c1 ≤ mc ∧ 0 + s1 ≤ ms ∧ vQx c1 s1 zs (-1) K_ E_) : vc_M_item mc ms zs K_ E_ := by
  have ne : ∀ a b : Int32, so j = a → a ≠ b → so j ≠ b := fun a b h1 h2 h3 => h2 (h1.symm.trans h3)
  refine q_isKey (k := 1) hL (by decide) (fun a => ?_) (fun a => ?_)
  · refine q_isKey (k := 4) hL (by decide) (fun b => absurd b (ne _ _ a (by decide))) (fun b => ⟨fun _ => ⟨fun q => absurd q (by decide), fun _ => h1 a⟩, fun q => absurd q (by decide)⟩)
  · refine q_isKey (k := 4) hL (by decide) (fun b => ⟨fun q => absurd rfl q, fun _ => q_isKey (k := 2) hL (by decide) (fun e => absurd e (ne _ _ b (by decide))) (fun e => ⟨fun _ => ⟨fun _ => ⟨fun q => absurd q (by decide), fun _ => h4 b⟩, fun q => absurd q (by decide)⟩, fun q => absurd rfl q⟩)⟩) (fun b => ⟨fun q => absurd rfl q, fun _ => ?_⟩)
    refine q_isKey (k := 2) hL (by decide) (fun e => ⟨fun q => absurd q (by decide), fun _ => ⟨fun _ => h2 e, fun q => absurd rfl q⟩⟩) (fun e => ⟨fun _ => ⟨fun q => absurd rfl q, fun _ => ?_⟩, fun q => absurd rfl q⟩)
    refine q_isKey (k := 5) hL (by decide) (fun f => ⟨fun q => absurd q (by decide), fun _ => ⟨fun _ => h5 f, fun q => absurd rfl q⟩⟩) (fun f => ⟨fun _ => ?_, fun q => absurd rfl q⟩)
    refine q_isKey (k := 6) hL (by decide) (fun g => ⟨fun q => absurd q (by decide), fun _ => h6 g⟩) (fun g => ⟨fun _ => h7 (fun h => h.elim a (fun h => h.elim e (fun h => h.elim b (fun h => h.elim f g)))), fun q => absurd rfl q⟩)
theorem J_item (hW : rW t n nTp so W) (hWT : W ≤ nT) (hT : nT < 2 ^ 30) {j : Nat} (hj : j < W) (ho : isOu (so j)) : JQ t n nTp so W nT zM zm (fun _ st => gOuter (gIt so W nT 32) so W nT st) vItm j 0 0 0 (-1) 0 0 := by
  have ne : ∀ a b : Int32, so j = a → a ≠ b → so j ≠ b := fun a b h1 h2 h3 => h2 (h1.symm.trans h3)
  rcases ho with hs | hs | hs | hs | hs
  · have k1 := JK_cg (g' := fun _ st => gOuter (gIt so W nT 32) so W nT st) (JQ_K (J_input (d := 0) hW hWT hT hj (by omega) hs)) (fun p N _ => by
      show gOuter (gIt so W nT 32) so W nT (j, false, nI 0, N) = gInput so W nT (j, false, nI 0, N)
      unfold gOuter; rw [ps_g, if_pos hs]) (fun Q nR nN nd K_ E_ mc ms p zs c tt _ _ hv => hv)
    exact JK_call k1 (fun mc ms zs _ K_ E_ => vc_M_item mc ms zs K_ E_) (fun Q nR nN nd K_ E_ mc ms p zs hZ h hv => q_item h.2.1 (fun _ => by have hp : p = -1 := hZ; subst hp; exact hv) (fun q => absurd q (ne _ _ hs (by decide))) (fun q => absurd q (ne _ _ hs (by decide))) (fun q => absurd q (ne _ _ hs (by decide))) (fun q => absurd q (ne _ _ hs (by decide))) (fun q => absurd (Or.inl hs) q))
  · have k1 := JK_cg (g' := fun _ st => gOuter (gIt so W nT 32) so W nT st) (JQ_K (J_index (d := 0) hW hWT hT hj (by omega) hs)) (fun p N _ => by
      show gOuter (gIt so W nT 32) so W nT (j, false, nI 0, N) = gIndex so W nT (j, false, nI 0, N)
      unfold gOuter; rw [ps_g, if_neg (ne _ _ hs (by decide)), if_pos hs]) (fun Q nR nN nd K_ E_ mc ms p zs c tt _ _ hv => hv)
    exact JK_call k1 (fun mc ms zs _ K_ E_ => vc_M_item mc ms zs K_ E_) (fun Q nR nN nd K_ E_ mc ms p zs hZ h hv => q_item h.2.1 (fun q => absurd q (ne _ _ hs (by decide))) (fun _ => by have hp : p = -1 := hZ; subst hp; exact hv) (fun q => absurd q (ne _ _ hs (by decide))) (fun q => absurd q (ne _ _ hs (by decide))) (fun q => absurd q (ne _ _ hs (by decide))) (fun q => absurd (Or.inr (Or.inl hs)) q))
  · have k1 := JK_cg (g' := fun _ st => gOuter (gIt so W nT 32) so W nT st) (JQ_K (J_lo (x := 260) (kd := 3) (d := 0) hW hWT hT (by decide) (by decide) rfl hj (by omega) hs)) (fun p N _ => by
      show gOuter (gIt so W nT 32) so W nT (j, false, nI 0, N) = gSumB so W nT 260 3 (-1) (j, false, nI 0, N)
      unfold gOuter; rw [ps_g, if_neg (ne _ _ hs (by decide)), if_neg (ne _ _ hs (by decide)), if_pos hs]) (fun Q nR nN nd K_ E_ mc ms p zs c tt _ _ hv => hv)
    exact JK_call k1 (fun mc ms zs _ K_ E_ => vc_M_item mc ms zs K_ E_) (fun Q nR nN nd K_ E_ mc ms p zs hZ h hv => q_item h.2.1 (fun q => absurd q (ne _ _ hs (by decide))) (fun q => absurd q (ne _ _ hs (by decide))) (fun _ => by have hp : p = -1 := hZ; subst hp; exact hv) (fun q => absurd q (ne _ _ hs (by decide))) (fun q => absurd q (ne _ _ hs (by decide))) (fun q => absurd (Or.inr (Or.inr (Or.inl hs))) q))
  · have k1 := JK_cg (g' := fun _ st => gOuter (gIt so W nT 32) so W nT st) (JQ_K (J_lo (x := 261) (kd := 4) (d := 0) hW hWT hT (by decide) (by decide) rfl hj (by omega) hs)) (fun p N _ => by
      show gOuter (gIt so W nT 32) so W nT (j, false, nI 0, N) = gSumB so W nT 261 4 (-1) (j, false, nI 0, N)
      unfold gOuter; rw [ps_g, if_neg (ne _ _ hs (by decide)), if_neg (ne _ _ hs (by decide)), if_neg (ne _ _ hs (by decide)), if_pos hs]) (fun Q nR nN nd K_ E_ mc ms p zs c tt _ _ hv => hv)
    exact JK_call k1 (fun mc ms zs _ K_ E_ => vc_M_item mc ms zs K_ E_) (fun Q nR nN nd K_ E_ mc ms p zs hZ h hv => q_item h.2.1 (fun q => absurd q (ne _ _ hs (by decide))) (fun q => absurd q (ne _ _ hs (by decide))) (fun q => absurd q (ne _ _ hs (by decide))) (fun _ => by have hp : p = -1 := hZ; subst hp; exact hv) (fun q => absurd q (ne _ _ hs (by decide))) (fun q => absurd (Or.inr (Or.inr (Or.inr (Or.inl hs)))) q))
  · have hS : hSt t n nTp so W nT (gIt so W nT 31) 1 := fun i hi hsi => J_stmt hW hWT hT 31 33 1 (by omega) (by omega) (by omega) _ _ i hi hsi
    have k1 := JK_cg (g' := fun _ st => gOuter (gIt so W nT 32) so W nT st) (J_block (d := 0) hW hWT hT (by omega) hS hj hs) (fun p N _ => by
      show gOuter (gIt so W nT 32) so W nT (j, false, nI 0, N) = gBlock (gIt so W nT 32) so W nT (j, false, nI 0, N)
      unfold gOuter; rw [ps_g, if_neg (ne _ _ hs (by decide)), if_neg (ne _ _ hs (by decide)), if_neg (ne _ _ hs (by decide)), if_neg (ne _ _ hs (by decide))]) (fun Q nR nN nd K_ E_ mc ms p zs c tt _ _ hv => hv)
    have k2 := JQ_K (JK_call k1 (fun mc ms zs _ K_ E_ => vc_M_block mc ms zs K_ E_) (fun Q nR nN nd K_ E_ mc ms p zs hZ h hv => by have hp : p = -1 := hZ; subst hp; exact hv))
    exact JK_call k2 (fun mc ms zs _ K_ E_ => vc_M_item mc ms zs K_ E_) (fun Q nR nN nd K_ E_ mc ms p zs hZ h hv => q_item h.2.1 (fun q => absurd q (ne _ _ hs (by decide))) (fun q => absurd q (ne _ _ hs (by decide))) (fun q => absurd q (ne _ _ hs (by decide))) (fun q => absurd q (ne _ _ hs (by decide))) (fun _ => hv) (fun q => absurd (Or.inr (Or.inr (Or.inr (Or.inr hs)))) q))
theorem nSO {x : Int32} (h : isSt x) : ¬ isOu x := by
  rcases h with h | h | h <;> rw [h] <;> decide
theorem J_itemS (hW : rW t n nTp so W) (hWT : W ≤ nT) (hT : nT < 2 ^ 30) {j : Nat} (hj : j < W) (hs : isSt (so j)) : JQ t n nTp so W nT zM zm (fun p st => gStmt (gIt so W nT 32) so W nT p st) vItm j 0 0 0 (-1) 0 0 := by
  have no := nSO hs
  have k1 := JQ_K (J_stmt hW hWT hT 32 33 0 (by omega) (by omega) (by omega) zM zm j hj hs)
  exact JK_call k1 (fun mc ms zs _ K_ E_ => vc_M_item mc ms zs K_ E_) (fun Q nR nN nd K_ E_ mc ms p zs hZ h hv => q_item h.2.1 (fun q => absurd (Or.inl q) no) (fun q => absurd (Or.inr (Or.inl q)) no) (fun q => absurd (Or.inr (Or.inr (Or.inl q))) no) (fun q => absurd (Or.inr (Or.inr (Or.inr (Or.inl q)))) no) (fun q => absurd (Or.inr (Or.inr (Or.inr (Or.inr q)))) no) (fun _ => by have hp : p = -1 := hZ; subst hp; exact hv))
theorem J_IL (hW : rW t n nTp so W) (hWT : W ≤ nT) (hT : nT < 2 ^ 30) : ∀ k j, j < W → W ≤ k + j → ∀ f, W ≤ f + j → JK t n nTp so W nT zM zm (fun _ st => gIL so W nT f st) (v134 (f + 1)) j 0 0 0 0 0 0 := by
  intro k
  induction k with
  | zero => intro j hj hk; omega
  | succ k ih =>
    intro j hj hk f hf
    obtain ⟨f, rfl⟩ : ∃ g, f = g + 1 := ⟨f - 1, by omega⟩
    by_cases hs : isSt (so j)
    · have n0 : so j ≠ 1 := by rcases hs with h | h | h <;> rw [h] <;> decide
      have s := JK_seqS (Z := zM) (zc := zm) (J_itemS hW hWT hT hj hs) (Int.le_refl _) (fun j1 hj1 hj2 => ih j1 hj2 (by omega) f (by omega)) ff_IL (by omega) zM_s (by omega)
      have s2 := JK_w s (Int.le_refl _) (show (-1 + 0 : Int) ≤ 0 by omega) (show (0 + 0 : Int) ≤ 0 by omega) (Int.le_refl _)
      refine JK_cg (v' := v134 (f + 1 + 1)) s2 (fun p N hp => ?_) (fun Q nR nN nd K_ E_ mc ms p zs c tt hZ h hv => ?_)
      · have hp : p = -1 := hp
        subst hp
        have hj1 : isSt (psS so (j, false, nI 0, N)) := hs
        show gFin so (if isSt (psS so (j, false, nI 0, N)) then _ else _) = _
        rw [if_pos hj1]; rfl
      · exact ⟨fun q => absurd ((q_kd h.2.1).1.mp q) n0, fun _ => hv⟩
    · by_cases ho : isOu (so j)
      · have n0 : so j ≠ 1 := by rcases ho with h | h | h | h | h <;> rw [h] <;> decide
        have s := JK_seqS (Z := zM) (zc := zm) (J_item hW hWT hT hj ho) (Int.le_refl _) (fun j1 hj1 hj2 => ih j1 hj2 (by omega) f (by omega)) ff_IL (by omega) zM_s (by omega)
        have s2 := JK_w s (Int.le_refl _) (show (-1 + 0 : Int) ≤ 0 by omega) (show (0 + 0 : Int) ≤ 0 by omega) (Int.le_refl _)
        refine JK_cg (v' := v134 (f + 1 + 1)) s2 (fun p N hp => ?_) (fun Q nR nN nd K_ E_ mc ms p zs c tt hZ h hv => ?_)
        · have hj1 : ¬ isSt (psS so (j, false, nI 0, N)) := hs
          have hj2 : (-1 : Int32) = -1 ∧ isOu (psS so (j, false, nI 0, N)) := ⟨rfl, ho⟩
          show gFin so (if isSt (psS so (j, false, nI 0, N)) then _ else if (-1 : Int32) = -1 ∧ isOu (psS so (j, false, nI 0, N)) then _ else _) = _
          rw [if_neg hj1, if_pos hj2]; rfl
        · exact ⟨fun q => absurd ((q_kd h.2.1).1.mp q) n0, fun _ => hv⟩
      · have eg : ∀ N, gItemsL (gIt so W nT 32) so W nT (-1) (f + 1) (j, false, nI 0, N) = (j, false, nI 0, N) := by
          intro N
          have hj1 : ¬ isSt (psS so (j, false, nI 0, N)) := hs
          have hj2 : ¬ ((-1 : Int32) = -1 ∧ isOu (psS so (j, false, nI 0, N))) := fun q => ho q.2
          show (if isSt (psS so (j, false, nI 0, N)) then _ else if (-1 : Int32) = -1 ∧ isOu (psS so (j, false, nI 0, N)) then _ else _) = _
          rw [if_neg hj1, if_neg hj2]
        by_cases h1 : so j = 1
        · refine Or.inl ⟨j, 0, 0, _, _, by omega, hj, by omega, by omega, Fo_nil, fun p N _ _ => ?_, fun Q p nR nN nd hQ hQR hR0 hnd hZ => ⟨nR, nN, nd, gwR_r W nR, gwN_r n nN, hQR, hnd, fun zs K_ E_ mc ms c tt h hb kk => ?_⟩⟩
          · show gFin so (gItemsL (gIt so W nT 32) so W nT (-1) (f + 1) (j, false, nI 0, N)) = _
            rw [eg, List.append_nil]
            unfold gFin
            rw [ps_g, if_pos h1]
          · exact ⟨fun _ => kk zs (by rw [List.append_nil]; exact h), fun q => absurd ((q_kd h.2.1).1.mpr h1) q⟩
        · refine Or.inr ⟨j, by omega, hj, fun p N _ _ => ⟨nI 0, N, ?_⟩, fun Q p nR nN nd hQ hQR hR0 hnd hZ => ⟨nR, nN, gwR_r W nR, gwN_r n nN, fun zs K_ E_ mc ms c tt h hb kk => ?_⟩⟩
          · show gFin so (gItemsL (gIt so W nT 32) so W nT (-1) (f + 1) (j, false, nI 0, N)) = _
            rw [eg]
            unfold gFin
            rw [ps_g, if_neg h1]
          · obtain ⟨hb1, hb2⟩ := hb
            refine ⟨fun q => absurd ((q_kd h.2.1).1.mp q) h1, fun _ => ⟨0, 0, by omega, by omega, q_item h.2.1 (fun q => absurd (Or.inl q) ho) (fun q => absurd (Or.inr (Or.inl q)) ho) (fun q => absurd (Or.inr (Or.inr (Or.inl q))) ho) (fun q => absurd (Or.inr (Or.inr (Or.inr (Or.inl q)))) ho) (fun q => absurd (Or.inr (Or.inr (Or.inr (Or.inr q)))) ho) (fun _ => ⟨0, 0, by omega, by omega, ?_⟩)⟩⟩
            show vc_M_statement (lvQ 32) 0 0 zs (-1) _ _
            exact q_isSt h.2.1 (fun q => absurd q hs) (fun _ => ⟨fun q => absurd rfl q, fun _ => q_wrong h.1.1 h.2.1 kk⟩)
end
