abbrev UV : Type := (RS → Nat → Nat → Prop) → (RS → Prop) → Nat → Nat → Int32 → RS → Int32 → Nat → Nat → Prop
theorem JQ_JYU {t : FN} {n nTp : Nat} {so : FN} {W nT : Nat} {Z : ZP} {zc : Int32 → Prop} {g : GT} {vr : VR} {g2 : GO} {v2 : SV} {j d d2 e0 u : Nat} {e e2 k2 a2 q q2 : Int} (s : Int32) (h1 : JY t n nTp so W nT g vr j d e0 u q) (h2 : ∀ j1, j ≤ j1 → j1 < W → JQ t n nTp so W nT Z zc g2 v2 j1 d d2 e2 k2 a2 q2) (hff : ∀ p, ff (g2 p)) (he : e ≤ e0) (he2 : e ≤ e2) (hzs : zS Z) (hq : q + u ≤ q2)
    (U : UV) (hU : ∀ cont E_ mc ms p z r c tt, v2 cont E_ mc ms p (RS.w_Sg z (upd z.Sg r.toNatClampNeg s)) c tt → U cont E_ mc ms p z r c tt) :
    JQ t n nTp so W nT Z zc (fun p st => g2 p (g p s st)) (fun cont E_ mc ms p zs c tt => ∃ c1 s1 : Nat, c + c1 ≤ mc ∧ tt + s1 ≤ ms ∧ vr c1 s1 zs p (fun r z => vp_in r z.nR ∧ U cont E_ mc ms p z r (c + c1) (tt + s1)) E_) j d d2 e (u + k2) a2 q := by
  rcases h1 with ⟨j1, m1, rn1, L1, R1, c1, c2, c3, c4, c5, c6, c7⟩ | ⟨j1, c1, c2, c3, c4⟩
  · have hl1 := Tr_len c5
    have hp1 := Tr_pos c5
    have aft : ∀ (Q : List pRw) (p : Int32) (nR1 nN1 nd1 : Nat) z, Q.length + rn1 ≤ nR1 → RP t n nTp so (Q ++ R1 Q.length p 0) nR1 nN1 nd1 d j1 z → vp_in (nI Q.length) z.nR ∧ RP t n nTp so (Q ++ R1 Q.length p s) nR1 nN1 nd1 d j1 (RS.w_Sg z (upd z.Sg (nI Q.length).toNatClampNeg s)) := by
      intro Q p nR1 nN1 nd1 z hq hz
      have eR : z.nR = nR1 := hz.1.1.2.2.2.1
      have hR9 := hz.1.1.2.2.2.2.2.2.2.2.1
      have h3 := q_sign (y := Q.length) (c := s) hz
      rw [sg_T c5] at h3
      rw [eR, nI_clamp (by omega)]
      exact ⟨pu_in (by omega) (by omega), h3⟩
    rcases h2 j1 (by omega) c2 with ⟨j', m, rn, L, R, d1, d2, d3, d4, d5, d6, d7⟩ | ⟨j', d1, d2, d3, d4⟩
    · refine Or.inl ⟨j', m1 + m, rn1 + rn, _, _, by omega, d2, by omega, by omega, Fo_app (Fo_tree c5 s) d5, fun p N hp hN => ?_, fun Q p nR nN nd hQ hQR hR0 hnd hZ => ?_⟩
      · show g2 p (g p s (j, false, nI d, N)) = _
        rw [c6 p s N hN, d6 p _ hp (by rw [List.length_append, hl1.1]; omega), List.length_append, hl1.1, List.append_assoc]
      · obtain ⟨nR1, nN1, nd1, b1, b2, b3, b4, b5⟩ := c7 Q p nR nN nd (by omega) hQR hR0 hnd
        have hlen : (Q ++ R1 Q.length p s).length = Q.length + rn1 := by rw [List.length_append, hl1.2]
        obtain ⟨nR2, nN2, nd2, e1, e2, e3, e4, e5⟩ := d7 (Q ++ R1 Q.length p s) p nR1 nN1 nd1 (by omega) (by omega) (by have := b1.1; omega) b4 (hzs _ _ _ hZ)
        refine ⟨nR2, nN2, nd2, gwR_t b1 e1, gwN_t b2 e2, by omega, e4, fun zs cont E_ mc ms c tt h hb kk => ?_⟩
        have hm1 := b1.1; have hm2 := b2.1; have hm3 := e1.1; have hm4 := e2.1
        obtain ⟨hb1, hb2⟩ := hb
        refine ⟨(nR1 - nR) / 4 + nN1 - nN, 24 * nR1 + 2 * nN1 - 24 * nR - 2 * nN, by omega, by omega, b5 zs _ E_ _ _ h ⟨by omega, by omega⟩ (fun z hz => ?_)⟩
        obtain ⟨y1, y2⟩ := aft Q p nR1 nN1 nd1 z b3 hz
        refine ⟨y1, hU _ _ _ _ _ _ _ _ _ (e5 _ cont E_ mc ms _ _ y2 ⟨by omega, by omega⟩ (fun z2 c'' t'' h2 hc2 => kk z2 c'' t'' ?_ ?_))⟩
        · rw [hlen, List.append_assoc] at h2
          exact h2
        · obtain ⟨g3, g4⟩ := hc2
          exact ⟨by omega, by omega⟩
    · refine Or.inr ⟨j', by omega, d2, fun p N hp hN => ?_, fun Q p nR nN nd hQ hQR hR0 hnd hZ => ?_⟩
      · show ∃ d' N', g2 p (g p s (j, false, nI d, N)) = _
        rw [c6 p s N hN]; exact d3 p _ hp (by rw [List.length_append, hl1.1]; omega)
      · obtain ⟨nR1, nN1, nd1, b1, b2, b3, b4, b5⟩ := c7 Q p nR nN nd (by omega) hQR hR0 hnd
        have hlen : (Q ++ R1 Q.length p s).length = Q.length + rn1 := by rw [List.length_append, hl1.2]
        obtain ⟨nR2, nN2, e1, e2, e5⟩ := d4 (Q ++ R1 Q.length p s) p nR1 nN1 nd1 (by omega) (by omega) (by have := b1.1; omega) b4 (hzs _ _ _ hZ)
        refine ⟨nR2, nN2, gwR_t b1 e1, gwN_t b2 e2, fun zs cont E_ mc ms c tt h hb kk => ?_⟩
        have hm1 := b1.1; have hm2 := b2.1; have hm3 := e1.1; have hm4 := e2.1
        obtain ⟨hb1, hb2⟩ := hb
        refine ⟨(nR1 - nR) / 4 + nN1 - nN, 24 * nR1 + 2 * nN1 - 24 * nR - 2 * nN, by omega, by omega, b5 zs _ E_ _ _ h ⟨by omega, by omega⟩ (fun z hz => ?_)⟩
        obtain ⟨y1, y2⟩ := aft Q p nR1 nN1 nd1 z b3 hz
        exact ⟨y1, hU _ _ _ _ _ _ _ _ _ (e5 _ cont E_ mc ms _ _ y2 ⟨by omega, by omega⟩ kk)⟩
  · refine Or.inr ⟨j1, c1, c2, fun p N hp hN => ?_, fun Q p nR nN nd hQ hQR hR0 hnd hZ => ?_⟩
    · obtain ⟨d1, N1, e1⟩ := c3 p s N hN
      show ∃ d' N', g2 p (g p s (j, false, nI d, N)) = _
      rw [e1]; exact hff p j1 d1 N1
    · obtain ⟨nR1, nN1, b1, b2, b5⟩ := c4 Q p nR nN nd (by omega) hQR hR0 hnd
      refine ⟨nR1, nN1, b1, b2, fun zs cont E_ mc ms c tt h hb kk => ?_⟩
      have hm1 := b1.1; have hm2 := b2.1
      obtain ⟨hb1, hb2⟩ := hb
      exact ⟨(nR1 - nR) / 4 + nN1 - nN, 24 * nR1 + 2 * nN1 - 24 * nR - 2 * nN, by omega, by omega, b5 zs _ E_ _ _ h ⟨by omega, by omega⟩ kk⟩
def v207 : SV := fun cont E_ mc ms p zs c tt => vc_M_is zs 59 (fun r => vc_M_pass zs r (fun z => cont z c tt) E_)
def Uc (ch : Int32) : UV := fun cont E_ mc ms p z r c tt => ((¬ ch = 126 → (v207 cont E_ mc ms p (RS.w_Sg z (upd z.Sg r.toNatClampNeg ch)) c tt)) ∧ (ch = 126 → (vc_M_is z 44 (fun r_42 => (vc_M_pass (RS.w_Sg z (upd z.Sg r.toNatClampNeg ch)) r_42 (fun zs_44 => (∃ c_47 s_48 : Nat, c + c_47 ≤ mc ∧ tt + s_48 ≤ ms ∧ (vc_M_whole c_47 s_48 zs_44 p (fun r_45 zs_46 => (v207 cont E_ mc ms p zs_46 (c + c_47) (tt + s_48))) (fun zse_49 => (E_ zse_49))))) (fun zse_53 => (E_ zse_53)))))))
def v155 : SV := fun cont E_ mc ms p zs c tt => vp_in zs.fr zs.nT ∧ (vc_M_next zs (fun zs_29 => (∃ c_32 s_33 : Nat, c + c_32 ≤ mc ∧ tt + s_33 ≤ ms ∧ (vc_M_fraction c_32 s_33 zs_29 p (fun r_30 zs_31 => (vp_in r_30 zs_31.nR ∧ Uc (((zs.tp zs.fr.toNatClampNeg).toUInt32 % 65536).toInt32) cont E_ mc ms p zs_31 r_30 (c + c_32) (tt + s_33))) (fun zse_56 => (E_ zse_56))))))
def vPt : SV := fun cont E_ mc ms p zs c tt => vc_M_is zs 61 (fun r_25 => ((¬ r_25 = 0 → (v155 cont E_ mc ms p zs c tt)) ∧ (r_25 = 0 → (vc_M_is zs 126 (fun r_61 => ((r_61 = 0 → (v207 cont E_ mc ms p zs c tt)) ∧ (¬ r_61 = 0 → (v155 cont E_ mc ms p zs c tt))))))))
theorem ch_c : ((61 : Int32).toUInt32 % 65536).toInt32 = 61 ∧ ((126 : Int32).toUInt32 % 65536).toInt32 = 126 := by decide
theorem ff_taken {so : FN} {x : Int32} (hx : x ≠ 0) : ∀ _p : Int32, ff (gTake so x) := fun _ => ff_take hx
theorem S_ptail {t : FN} {n nTp : Nat} {so : FN} {W nT : Nat} {Z : ZP} {zc : Int32 → Prop} (hW : rW t n nTp so W) (hWT : W ≤ nT) (hzs : zS Z) {j d : Nat} (hj : j < W) (hd : d ≤ 30) {e q : Int} (he : e ≤ 3) (hq : q ≤ 1) : JQ t n nTp so W nT Z zc (fun p st => gParam1 so W nT p st) vPt j d d e (-1) (-4) q := by
  obtain ⟨⟨w1, w2, w3⟩, w4, _⟩ := id hW
  have hb1 := psb_b t n j
  by_cases h61 : so j = 61
  · have s0 : ∀ j1, j ≤ j1 → j1 < W → JQ t n nTp so W nT Z zc (fun p st => gTake so 59 (gFraction so nT p 61 st)) (fun cont E_ mc ms p zs c tt => ∃ c1 s1 : Nat, c + c1 ≤ mc ∧ tt + s1 ≤ ms ∧ vc_M_fraction c1 s1 zs p (fun r z => vp_in r z.nR ∧ Uc 61 cont E_ mc ms p z r (c + c1) (tt + s1)) E_) j1 d d 0 (1 + -1) (-4) 0 :=
      fun j1 _ hj1 => JQ_JYU 61 (J_frac hW hWT hj1 (q := 0) (by omega)) (fun j2 _ hj2 => S_tok (nT := nT) hW sg_in.2.2.2.2.2.2.2.2.1 (d := d) hj2 3 1) (ff_taken (by decide)) (by omega) (by omega) hzs (by omega) (Uc 61) (fun cont E_ mc ms p z r c tt hv => ⟨fun _ => hv, fun q => absurd q (by decide)⟩)
    have s1 := JQ_seq (Z := Z) (zc := zc) (S_step (nT := nT) hW (x := 61) (by decide) (by decide) (d := d) hj h61 e q) s0 (fun p => ff_c (f := gFraction so nT p 61) (g := gTake so 59) ff_fraction (ff_take (by decide))) (by omega) hzs (by omega)
    refine JQ_w (JQ_cg s1 (fun p N _ => ?_) (fun Q nR nN nd cont E_ mc ms p zs c tt _ h2 hv => ?_)) (Int.le_refl _) (by omega) (by omega) (Int.le_refl _)
    · show gParam1 so W nT p (j, false, nI d, N) = _
      unfold gParam1; rw [ps_g, if_pos h61]
    · obtain ⟨t1, t2, t3⟩ := tp_so hW h2.1.1.1 h2.2.1 (x := 61) sg_in.2.2.2.2.2.2.2.2.2.1 h61
      refine q_is hW hj h2.1.1.1 h2.1.1.2.1 h2.2.1 sg_in.2.2.2.2.2.2.2.2.2.1 (fun _ => ⟨fun _ => ?_, fun q => absurd q (by decide)⟩) (fun q => absurd h61 q)
      unfold v155
      rw [t2, ch_c.1]
      exact ⟨by rw [h2.2.1.1, h2.1.1.2.1]; exact pu_in (by omega) (by omega), hv⟩
  · by_cases h126 : so j = 126
    · have s9 : ∀ j1, j ≤ j1 → j1 < W → JQ t n nTp so W nT Z zc _ _ j1 d d 4 (-1 + (1 + -1)) (-4 + (0 + -4)) 1 := fun j1 _ hj1 => JQ_seq (Z := Z) (zc := zc) (S_tok (nT := nT) hW sg_in.2.2.2.2.1 (d := d) hj1 4 1) (fun j2 _ hj2 => JQ_seq (Z := Z) (zc := zc) (S_whole hW hWT hj2 hd (e := 0) (q := 0) (by omega) (by omega)) (fun j3 _ hj3 => S_tok (nT := nT) hW sg_in.2.2.2.2.2.2.2.2.1 (d := d) hj3 4 1) (ff_taken (by decide)) (by omega) hzs (by omega)) (fun p => ff_c (f := gWhole (g33 so W nT) nT p 0) (g := gTake so 59) (ff_whole (ff_lv so W nT 33).1) (ff_take (by decide))) (by omega) hzs (by omega)
      have s0 : ∀ j1, j ≤ j1 → j1 < W → JQ t n nTp so W nT Z zc (fun p st => gTake so 59 (gWhole (g33 so W nT) nT p 0 (gTake so 44 (gFraction so nT p 126 st)))) (fun cont E_ mc ms p zs c tt => ∃ c1 s1 : Nat, c + c1 ≤ mc ∧ tt + s1 ≤ ms ∧ vc_M_fraction c1 s1 zs p (fun r z => vp_in r z.nR ∧ Uc 126 cont E_ mc ms p z r (c + c1) (tt + s1)) E_) j1 d d 0 (1 + (-1 + (1 + -1))) (-4 + (0 + -4)) 0 :=
        fun j1 hj0 hj1 => JQ_JYU 126 (J_frac hW hWT hj1 (q := 0) (by omega)) (fun j2 hj12 hj2 => s9 j2 (by omega) hj2) (fun p => ff_c (f := gTake so 44) (g := fun st => gTake so 59 (gWhole (g33 so W nT) nT p 0 st)) (ff_take (by decide)) (ff_c (f := gWhole (g33 so W nT) nT p 0) (g := gTake so 59) (ff_whole (ff_lv so W nT 33).1) (ff_take (by decide)))) (by omega) (by omega) hzs (by omega) (Uc 126) (fun cont E_ mc ms p z r c tt hv => ⟨fun q => absurd rfl q, fun _ => hv⟩)
      have s1 := JQ_seq (Z := Z) (zc := zc) (S_step (nT := nT) hW (x := 126) (by decide) (by decide) (d := d) hj h126 e q) s0 (fun p => ff_c (f := gFraction so nT p 126) (g := fun st => gTake so 59 (gWhole (g33 so W nT) nT p 0 (gTake so 44 st))) ff_fraction (ff_c (f := gTake so 44) (g := fun st => gTake so 59 (gWhole (g33 so W nT) nT p 0 st)) (ff_take (by decide)) (ff_c (f := gWhole (g33 so W nT) nT p 0) (g := gTake so 59) (ff_whole (ff_lv so W nT 33).1) (ff_take (by decide))))) (by omega) hzs (by omega)
      refine JQ_w (JQ_cg s1 (fun p N _ => ?_) (fun Q nR nN nd cont E_ mc ms p zs c tt _ h2 hv => ?_)) (Int.le_refl _) (by omega) (by omega) (Int.le_refl _)
      · show gParam1 so W nT p (j, false, nI d, N) = _
        unfold gParam1; rw [ps_g, if_neg h61, if_pos h126]
      · obtain ⟨t1, t2, t3⟩ := tp_so hW h2.1.1.1 h2.2.1 (x := 126) sg_in.2.2.2.2.2.2.2.2.2.2.2.2.2.2.2 h126
        refine q_is hW hj h2.1.1.1 h2.1.1.2.1 h2.2.1 sg_in.2.2.2.2.2.2.2.2.2.1 (fun q => absurd q h61) (fun _ => ⟨fun q => absurd rfl q, fun _ => q_is hW hj h2.1.1.1 h2.1.1.2.1 h2.2.1 sg_in.2.2.2.2.2.2.2.2.2.2.2.2.2.2.2 (fun _ => ⟨fun q => absurd q (by decide), fun _ => ?_⟩) (fun q => absurd h126 q)⟩)
        unfold v155
        rw [t2, ch_c.2]
        exact ⟨by rw [h2.2.1.1, h2.1.1.2.1]; exact pu_in (by omega) (by omega), hv⟩
    · refine JQ_w (JQ_cg (S_tok (nT := nT) (Z := Z) (zc := zc) hW sg_in.2.2.2.2.2.2.2.2.1 (d := d) hj e q) (fun p N _ => ?_) (fun Q nR nN nd cont E_ mc ms p zs c tt _ h2 hv => ?_)) (Int.le_refl _) (by omega) (by omega) (Int.le_refl _)
      · show gParam1 so W nT p (j, false, nI d, N) = _
        unfold gParam1; rw [ps_g, if_neg h61, if_neg h126]
      · exact q_is hW hj h2.1.1.1 h2.1.1.2.1 h2.2.1 sg_in.2.2.2.2.2.2.2.2.2.1 (fun q => absurd q h61) (fun _ => ⟨fun q => absurd rfl q, fun _ => q_is hW hj h2.1.1.1 h2.1.1.2.1 h2.2.1 sg_in.2.2.2.2.2.2.2.2.2.2.2.2.2.2.2 (fun q => absurd q h126) (fun _ => ⟨fun _ => hv, fun q => absurd rfl q⟩)⟩)
