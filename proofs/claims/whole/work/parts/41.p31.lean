theorem f34 {so : FN} {W nT : Nat} (p : Int32) : ff (g34 so W nT p 0 0) := (ff_lv so W nT 34).1 p 0 0
theorem ff_l3 {so : FN} {W nT : Nat} (p : Int32) : ff (fun st => gTake so 59 (g34 so W nT p 0 0 st)) := ff_c (f := g34 so W nT p 0 0) (g := gTake so 59) (f34 p) (ff_take (by decide))
theorem ff_l2 {so : FN} {W nT : Nat} (p : Int32) : ff (fun st => gTake so 59 (g34 so W nT p 0 0 (gTake so 61 st))) := ff_c (f := gTake so 61) (g := fun st => gTake so 59 (g34 so W nT p 0 0 st)) (ff_take (by decide)) (ff_l3 p)
theorem ff_l1 {so : FN} {W nT : Nat} (p : Int32) : ff (fun st => gTake so 59 (g34 so W nT p 0 0 (gTake so 61 (gName so nT p 0 st)))) := ff_c (f := gName so nT p 0) (g := fun st => gTake so 59 (g34 so W nT p 0 0 (gTake so 61 st))) ff_name (ff_l2 p)
def v7s : SV := fun cont E_ mc ms p zs c tt => ∃ c1 s1 : Nat, c + c1 ≤ mc ∧ tt + s1 ≤ ms ∧ vAx c1 s1 zs p (fun _ z2 => v207 cont E_ mc ms p z2 (c + c1) (tt + s1)) E_
theorem lt_a {t : FN} {n nTp : Nat} {so : FN} {W nT : Nat} {Z : ZP} {zc : Int32 → Prop} (hzs : zS Z) (hW : rW t n nTp so W) (hWT : W ≤ nT) {j d : Nat} (hj : j < W) (hd : d ≤ 30) : JQ t n nTp so W nT Z zc (fun p st => gTake so 59 (g34 so W nT p 0 0 st)) v7s j d d 1 (0 + -1) (0 + -4) 1 := by
  have s := JQ_seq (Z := Z) (zc := zc) (S_sum hW hWT hj hd (e := 1) (q := 1) (by omega) (by omega)) (fun j2 _ hj2 => S_tok (nT := nT) hW sg_in.2.2.2.2.2.2.2.2.1 (d := d) hj2 4 1) (ff_taken (by decide)) (by omega) hzs (by omega)
  exact s
theorem lt_b {t : FN} {n nTp : Nat} {so : FN} {W nT : Nat} (hW : rW t n nTp so W) (hWT : W ≤ nT) {j d : Nat} (hj : j < W) (hd : d ≤ 30) : JQ t n nTp so W nT (zK 7) (fun p => p ≠ -1) (fun p st => gTake so 59 (g34 so W nT p 0 0 (gTake so 61 st))) v7 j d d 0 (-1 + (0 + -1)) (-4 + (0 + -4)) 0 := by
  have s := JQ_seq (Z := zK 7) (zc := fun p => p ≠ -1) (S_tok (nT := nT) hW sg_in.2.2.2.2.2.2.2.2.2.1 (d := d) hj 0 0) (fun j2 _ hj2 => lt_a (zK_s 7) hW hWT hj2 hd) ff_l3 (by omega) (zK_s 7) (by omega)
  exact s
theorem lt_c {t : FN} {n nTp : Nat} {so : FN} {W nT : Nat} (hW : rW t n nTp so W) (hWT : W ≤ nT) {j d : Nat} (hj : j < W) (hd : d ≤ 30) : JQ t n nTp so W nT (zK 7) (fun p => p ≠ -1) (fun p st => gTake so 59 (g34 so W nT p 0 0 (gTake so 61 st))) vAN j d d 0 (-1 + (0 + -1)) (-4 + (0 + -4)) 0 :=
  JQ_cg (v' := vAN) (lt_b hW hWT hj hd) (fun _ _ _ => Eq.refl _) (fun Q nR nN nd cont E_ mc ms p zs c tt hZ h hv => by
      obtain ⟨x1, x2⟩ := kd_p hZ h
      exact ⟨x1, fun q => absurd x2 q, fun _ => hv⟩)
theorem lt_d {t : FN} {n nTp : Nat} {so : FN} {W nT : Nat} (hW : rW t n nTp so W) (hWT : W ≤ nT) {j d : Nat} (hj : j < W) (hd : d ≤ 30) : JQ t n nTp so W nT (zK 7) (fun p => p ≠ -1) (fun p st => gTake so 59 (g34 so W nT p 0 0 (gTake so 61 (gName so nT p 0 st)))) vN8 j d d 0 (0 + (-1 + (0 + -1))) (-3 + (-4 + (0 + -4))) 0 := by
  have s := JQ_seq (Z := zK 7) (zc := fun p => p ≠ -1) (S_name hW hWT 0 hj (e := 0) (q := 0) (by omega) (by omega)) (fun j2 _ hj2 => lt_c hW hWT hj2 hd) ff_l2 (by omega) (zK_s 7) (by omega)
  exact s
theorem lt_e {t : FN} {n nTp : Nat} {so : FN} {W nT : Nat} (hW : rW t n nTp so W) (hWT : W ≤ nT) (vQ : VV) {j d : Nat} (hj : j < W) (hd : d ≤ 30) : JK t n nTp so W nT (zK 7) (fun p => p ≠ -1) (fun p st => gTake so 59 (g34 so W nT p 0 0 (gTake so 61 (gName so nT p 0 st)))) (vC8 vQ) j d d 0 (0 + (-1 + (0 + -1))) (-3 + (-4 + (0 + -4))) 0 :=
  JK_cg (v' := vC8 vQ) (JQ_K (lt_d hW hWT hj hd)) (fun _ _ _ => Eq.refl _) (fun Q nR nN nd K_ E_ mc ms p zs c tt hZ h hv => by
      obtain ⟨x1, x2⟩ := kd_p hZ h
      exact ⟨x1, fun _ => hv, fun q => by rw [x2] at q; exact absurd q (by decide)⟩)
theorem lt_f {t : FN} {n nTp : Nat} {so : FN} {W nT : Nat} (hW : rW t n nTp so W) (hWT : W ≤ nT) (vQ : VV) {j d : Nat} (hj : j < W) (hd : d ≤ 30) (hs : so j = 259) : JK t n nTp so W nT (zK 7) (fun p => p ≠ -1) (fun p st => gTake so 59 (g34 so W nT p 0 0 (gTake so 61 (gName so nT p 0 (gTake so 259 st))))) (vB0 vQ) j d d 1 (-1 + (0 + (-1 + (0 + -1)))) (-4 + (-3 + (-4 + (0 + -4)))) 1 := by
  have s := JK_seq (Z := zK 7) (zc := fun p => p ≠ -1) (S_next (nT := nT) hW (x := 259) (by decide) (by decide) (d := d) hj hs 1 1) (fun j1 _ hj1 => lt_e hW hWT vQ hj1 hd) ff_l1 (by omega) (zK_s 7) (by omega)
  exact s
theorem J_let {t : FN} {n nTp : Nat} {so : FN} {W nT : Nat} {Z : ZP} {zc : Int32 → Prop} (hW : rW t n nTp so W) (hWT : W ≤ nT) (hT : nT < 2 ^ 30) (vQ : VV) {j d : Nat} (hj : j < W) (hd : d ≤ 30) (hs : so j = 259) : JK t n nTp so W nT Z zc (fun p st => gLet so W nT p st) (vPK vQ 7) j d d 0 (-1) 0 0 := by
  have s := JK_node (Z := Z) (zc := zc) hW hWT hT 7 rfl (lt_f hW hWT vQ hj hd hs) hj (e := 0) (q := 0) (by omega) (by omega) (by omega) (by omega)
  have s2 := JK_w s (Int.le_refl _) (show (-1 + (0 + (-1 + (0 + -1))) + 1 : Int) ≤ -1 by omega) (show (-4 + (-3 + (-4 + (0 + -4))) + 1 : Int) ≤ 0 by omega) (Int.le_refl _)
  exact s2
def v72 (vQ : VV) : KV := fun K_ E_ mc ms p zs c tt => ∃ n_, vl_M_statement_72 vQ mc ms K_ E_ n_ p zs c tt
theorem rp_a {t : FN} {n nTp : Nat} {so : FN} {W nT : Nat} {Z : ZP} (hW : rW t n nTp so W) {gI : pG1} {vQ : VV} {d : Nat}
    (hS : ∀ i, i < W → isSt (so i) → JQ t n nTp so W nT (fun _ _ => True) (fun p => p ≠ -1) (fun p st => gStmt gI so W nT p st) (stC vQ) i (d + 1) (d + 1) 0 (-1) 0 0) {j : Nat} (hj : j < W) :
    JK t n nTp so W nT Z (fun p => p ≠ -1) (fun p st => gClose so 125 (gItemsL gI so W nT p W st)) (v72 vQ) j (d + 1) d 0 (-1) (-4) 0 := by
  rcases J_SL hW hS W j hj (by omega) with ⟨j1, m1, rn1, L1, R1, c1, c2, c3, c4, c5, c6, c7, c8⟩ | ⟨j1, c1, c2, c3, c4⟩
  · have hb5 := psb_b t n j1
    have hb6 := sb_n t n j1
    by_cases h125 : so j1 = 125
    · have a1 := tk_go hW c2 h125 (by decide) (by decide)
      refine Or.inl ⟨j1 + 1, m1, rn1, L1, R1, by omega, a1, by omega, by omega, c5, fun p N hp hN => ?_, fun Q p nR nN nd hQ hQR hR0 hnd hZ => ?_⟩
      · show gClose so 125 (gItemsL gI so W nT p W (j, false, nI (d + 1), N)) = _
        rw [c7 p W N hp (by omega) (by omega), g_close h125]
      · obtain ⟨nR1, nN1, nd1, b1, b2, b3, b4, b5⟩ := c8 Q p nR nN nd (by omega) hQR hR0 hnd
        refine ⟨nR1, nN1, nd1, b1, b2, b3, by omega, fun zs K_ E_ mc ms c tt h hb kk => ⟨W + 1, ?_⟩⟩
        exact b5 zs E_ mc ms c tt W (fun f z c t => vl_M_statement_72 vQ mc ms K_ E_ f p z c t) (fun z c t => vc_M_shut z 125 (fun zs_96 => (K_ zs_96)) (fun zse_97 => (E_ zse_97))) (fun f z c t hh => hh) (by omega) h hb (fun z' c' t' h' _ => q_shut hW c2 sg_in.2.2.2.2.2.2.2.2.2.2.2.2.2.2.1 h' (fun _ z2 h2 => kk z2 h2) (fun q => absurd h125 q))
    · refine Or.inr ⟨j1, c1, c2, fun p N hp hN => ?_, fun Q p nR nN nd hQ hQR hR0 hnd hZ => ?_⟩
      · show ∃ d' N', gClose so 125 (gItemsL gI so W nT p W (j, false, nI (d + 1), N)) = _
        rw [c7 p W N hp (by omega) (by omega), g_closeN h125]; exact ⟨_, _, rfl⟩
      · obtain ⟨nR1, nN1, nd1, b1, b2, b3, b4, b5⟩ := c8 Q p nR nN nd (by omega) hQR hR0 hnd
        refine ⟨nR1, nN1, b1, b2, fun zs K_ E_ mc ms c tt h hb kk => ⟨W + 1, ?_⟩⟩
        exact b5 zs E_ mc ms c tt W (fun f z c t => vl_M_statement_72 vQ mc ms K_ E_ f p z c t) (fun z c t => vc_M_shut z 125 (fun zs_96 => (K_ zs_96)) (fun zse_97 => (E_ zse_97))) (fun f z c t hh => hh) (by omega) h hb (fun z' c' t' h' _ => q_shut hW c2 sg_in.2.2.2.2.2.2.2.2.2.2.2.2.2.2.1 h' (fun q => absurd q h125) (fun _ z2 h2 => kk z2 h2))
  · refine Or.inr ⟨j1, c1, c2, fun p N hp hN => ?_, fun Q p nR nN nd hQ hQR hR0 hnd hZ => ?_⟩
    · show ∃ d' N', gClose so 125 (gItemsL gI so W nT p W (j, false, nI (d + 1), N)) = _
      obtain ⟨d1, N1, e1⟩ := c3 p W N hp (by omega) (by omega)
      rw [e1]; exact ff_close (by decide) j1 d1 N1
    · obtain ⟨nR1, nN1, b1, b2, b5⟩ := c4 Q p nR nN nd (by omega) hQR hR0 hnd
      exact ⟨nR1, nN1, b1, b2, fun zs K_ E_ mc ms c tt h hb kk => ⟨W + 1, b5 zs E_ mc ms c tt W (fun f z c t => vl_M_statement_72 vQ mc ms K_ E_ f p z c t) (fun z c t => vc_M_shut z 125 (fun zs_96 => (K_ zs_96)) (fun zse_97 => (E_ zse_97))) (fun f z c t hh => hh) (by omega) h hb kk⟩⟩
def vO72 (vQ : VV) : KV := fun K_ E_ mc ms p zs c tt => vc_M_open zs 123 (fun z => v72 vQ K_ E_ mc ms p z c tt) E_
theorem ff_r3 {gI : pG1} {so : FN} {W nT : Nat} (p : Int32) : ff (fun st => gClose so 125 (gItemsL gI so W nT p W st)) := ff_c (f := gItemsL gI so W nT p W) (g := gClose so 125) (ff_itemsL W) (ff_close (by decide))
theorem ff_r2 {gI : pG1} {so : FN} {W nT : Nat} (p : Int32) : ff (fun st => gClose so 125 (gItemsL gI so W nT p W (gOpen so 123 st))) := ff_c (f := gOpen so 123) (g := fun st => gClose so 125 (gItemsL gI so W nT p W st)) (ff_open (by decide)) (ff_r3 p)
theorem ff_r1 {gI : pG1} {so : FN} {W nT : Nat} (p : Int32) : ff (fun st => gClose so 125 (gItemsL gI so W nT p W (gOpen so 123 (gWhole (g33 so W nT) nT p 0 st)))) := ff_c (f := gWhole (g33 so W nT) nT p 0) (g := fun st => gClose so 125 (gItemsL gI so W nT p W (gOpen so 123 st))) (ff_whole (ff_lv so W nT 33).1) (ff_r2 p)
theorem rp_b {t : FN} {n nTp : Nat} {so : FN} {W nT : Nat} (hW : rW t n nTp so W) {gI : pG1} {vQ : VV} {d : Nat} (hd : d ≤ 30)
    (hS : d < 30 → ∀ i, i < W → isSt (so i) → JQ t n nTp so W nT (fun _ _ => True) (fun p => p ≠ -1) (fun p st => gStmt gI so W nT p st) (stC vQ) i (d + 1) (d + 1) 0 (-1) 0 0) {j : Nat} (hj : j < W) :
    JK t n nTp so W nT (zK 8) (fun p => p ≠ -1) (fun p st => gClose so 125 (gItemsL gI so W nT p W (gOpen so 123 st))) (vO72 vQ) j d d 0 (-1 + -1) (-4 + -4) 1 := by
  by_cases hd30 : d < 30
  · have s := JK_seq (Z := zK 8) (zc := fun p => p ≠ -1) (S_open (nT := nT) hW sg_in.2.2.2.2.2.2.2.2.2.2.2.2.2.1 hd hj 0 1) (fun j1 _ hj1 => rp_a hW (hS hd30) hj1) ff_r3 (by omega) (zK_s 8) (by omega)
    exact s
  · refine Or.inr ⟨j, by omega, hj, fun p N hp hN => ?_, fun Q p nR nN nd hQ hQR hR0 hnd hZ => ⟨nR, nN, gwR_r W nR, gwN_r n nN, fun zs K_ E_ mc ms c tt h hb kk => q_open hW hj hd sg_in.2.2.2.2.2.2.2.2.2.2.2.2.2.1 h (fun _ b => absurd b hd30) (fun _ => kk)⟩⟩
    show ∃ d' N', gClose so 125 (gItemsL gI so W nT p W (gOpen so 123 (j, false, nI d, N))) = _
    rw [g_openN hd (fun q => hd30 q.2)]
    exact ff_r3 p j (nI d) N
theorem rp_c {t : FN} {n nTp : Nat} {so : FN} {W nT : Nat} (hW : rW t n nTp so W) (hWT : W ≤ nT) {gI : pG1} {vQ : VV} {d : Nat} (hd : d ≤ 30)
    (hS : d < 30 → ∀ i, i < W → isSt (so i) → JQ t n nTp so W nT (fun _ _ => True) (fun p => p ≠ -1) (fun p st => gStmt gI so W nT p st) (stC vQ) i (d + 1) (d + 1) 0 (-1) 0 0) {j : Nat} (hj : j < W) :
    JK t n nTp so W nT (zK 8) (fun p => p ≠ -1) (fun p st => gClose so 125 (gItemsL gI so W nT p W (gOpen so 123 (gWhole (g33 so W nT) nT p 0 st)))) (v8 vQ) j d d 0 (1 + (-1 + -1)) (0 + (-4 + -4)) 0 := by
  have s := JK_seq (Z := zK 8) (zc := fun p => p ≠ -1) (S_whole hW hWT hj hd (e := 0) (q := 0) (by omega) (by omega)) (fun j1 _ hj1 => rp_b hW hd hS hj1) ff_r2 (by omega) (zK_s 8) (by omega)
  exact s
theorem rp_d {t : FN} {n nTp : Nat} {so : FN} {W nT : Nat} (hW : rW t n nTp so W) (hWT : W ≤ nT) {gI : pG1} {vQ : VV} {d : Nat} (hd : d ≤ 30)
    (hS : d < 30 → ∀ i, i < W → isSt (so i) → JQ t n nTp so W nT (fun _ _ => True) (fun p => p ≠ -1) (fun p st => gStmt gI so W nT p st) (stC vQ) i (d + 1) (d + 1) 0 (-1) 0 0) {j : Nat} (hj : j < W) :
    JK t n nTp so W nT (zK 8) (fun p => p ≠ -1) (fun p st => gClose so 125 (gItemsL gI so W nT p W (gOpen so 123 (gWhole (g33 so W nT) nT p 0 st)))) (vC8 vQ) j d d 0 (1 + (-1 + -1)) (0 + (-4 + -4)) 0 :=
  JK_cg (v' := vC8 vQ) (rp_c hW hWT hd hS hj) (fun _ _ _ => Eq.refl _) (fun Q nR nN nd K_ E_ mc ms p zs c tt hZ h hv => by
      obtain ⟨x1, x2⟩ := kd_p hZ h
      exact ⟨x1, fun q => absurd x2 q, fun _ => hv⟩)
theorem rp_e {t : FN} {n nTp : Nat} {so : FN} {W nT : Nat} (hW : rW t n nTp so W) (hWT : W ≤ nT) {gI : pG1} {vQ : VV} {d : Nat} (hd : d ≤ 30)
    (hS : d < 30 → ∀ i, i < W → isSt (so i) → JQ t n nTp so W nT (fun _ _ => True) (fun p => p ≠ -1) (fun p st => gStmt gI so W nT p st) (stC vQ) i (d + 1) (d + 1) 0 (-1) 0 0) {j : Nat} (hj : j < W) (hs : so j = 264) :
    JK t n nTp so W nT (zK 8) (fun p => p ≠ -1) (fun p st => gClose so 125 (gItemsL gI so W nT p W (gOpen so 123 (gWhole (g33 so W nT) nT p 0 (gTake so 264 st))))) (vB0 vQ) j d d 1 (-1 + (1 + (-1 + -1))) (-4 + (0 + (-4 + -4))) 1 := by
  have s := JK_seq (Z := zK 8) (zc := fun p => p ≠ -1) (S_next (nT := nT) hW (x := 264) (by decide) (by decide) (d := d) hj hs 1 1) (fun j1 _ hj1 => rp_d hW hWT hd hS hj1) ff_r1 (by omega) (zK_s 8) (by omega)
  exact s
theorem J_repeat {t : FN} {n nTp : Nat} {so : FN} {W nT : Nat} {Z : ZP} {zc : Int32 → Prop} (hW : rW t n nTp so W) (hWT : W ≤ nT) (hT : nT < 2 ^ 30) {gI : pG1} {vQ : VV} {d : Nat} (hd : d ≤ 30)
    (hS : d < 30 → ∀ i, i < W → isSt (so i) → JQ t n nTp so W nT (fun _ _ => True) (fun p => p ≠ -1) (fun p st => gStmt gI so W nT p st) (stC vQ) i (d + 1) (d + 1) 0 (-1) 0 0) {j : Nat} (hj : j < W) (hs : so j = 264) :
    JK t n nTp so W nT Z zc (fun p st => gRepeat (fun p st => gItemsL gI so W nT p W st) so W nT p st) (vPK vQ 8) j d d 0 (-1) 0 0 := by
  have s := JK_node (Z := Z) (zc := zc) hW hWT hT 8 rfl (rp_e hW hWT hd hS hj hs) hj (e := 0) (q := 0) (by omega) (by omega) (by omega) (by omega)
  have s2 := JK_w s (Int.le_refl _) (show (-1 + (1 + (-1 + -1)) + 1 : Int) ≤ -1 by omega) (show (-4 + (0 + (-4 + -4)) + 1 : Int) ≤ 0 by omega) (Int.le_refl _)
  exact s2
theorem J_stmt {t : FN} {n nTp : Nat} {so : FN} {W nT : Nat} (hW : rW t n nTp so W) (hWT : W ≤ nT) (hT : nT < 2 ^ 30) : ∀ m m' d, d ≤ 30 → 32 ≤ m + d → 32 ≤ m' + d → ∀ (Z : ZP) (zc : Int32 → Prop) j, j < W → isSt (so j) →
    JQ t n nTp so W nT Z zc (fun p st => gStmt (gIt so W nT m) so W nT p st) (stC (lvQ m')) j d d 0 (-1) 0 0
  | 0, _, d, hd, hm, _, _, _, _, _, _ => absurd hm (by omega)
  | _ + 1, 0, d, hd, _, hm, _, _, _, _, _ => absurd hm (by omega)
  | m + 1, m' + 1, d, hd, hm, hm', Z, zc, j, hj, hst => by
    have hS : d < 30 → ∀ i, i < W → isSt (so i) → JQ t n nTp so W nT (fun _ _ => True) (fun p => p ≠ -1) (fun p st => gStmt (gIt so W nT m) so W nT p st) (stC (lvQ m')) i (d + 1) (d + 1) 0 (-1) 0 0 :=
      fun hd30 i hi hsi => J_stmt hW hWT hT m m' (d + 1) (by omega) (by omega) (by omega) _ _ i hi hsi
    rcases hst with hs | hs | hs
    · have k1 := J_param (Z := Z) (zc := zc) hW hWT hT (lvQ m') hj hd hs
      have k2 := JK_cg (g' := fun p st => gStmt (gIt so W nT (m + 1)) so W nT p st) (v' := vPK (lvQ m') 6) k1 (fun p N _ => by
        show gStmt (gIt so W nT (m + 1)) so W nT p (j, false, nI d, N) = gParam so W nT p (j, false, nI d, N)
        unfold gStmt; rw [ps_g, if_pos hs]) (fun Q nR nN nd K_ E_ mc ms p zs c tt _ _ hv => hv)
      refine JK_call k2 (lvQ (m' + 1)) (fun Q nR nN nd K_ E_ mc ms p zs hZ h hv => ?_)
      show vc_M_statement (lvQ m') mc ms zs p K_ E_
      unfold vc_M_statement vj_M_statement_11
      exact q_isSt h.2.1 (fun _ => ⟨fun _ => q_isKey (k := 0) h.2.1 (by decide) (fun _ => ⟨fun q => absurd q (by decide), fun _ => hv⟩) (fun q => absurd hs q), fun q => absurd q (by decide)⟩) (fun q => absurd (Or.inl hs) q)
    · have k1 := J_let (Z := Z) (zc := zc) hW hWT hT (lvQ m') hj hd hs
      have k2 := JK_cg (g' := fun p st => gStmt (gIt so W nT (m + 1)) so W nT p st) (v' := vPK (lvQ m') 7) k1 (fun p N _ => by
        show gStmt (gIt so W nT (m + 1)) so W nT p (j, false, nI d, N) = gLet so W nT p (j, false, nI d, N)
        unfold gStmt; rw [ps_g, if_neg (by rw [hs]; decide), if_pos hs]) (fun Q nR nN nd K_ E_ mc ms p zs c tt _ _ hv => hv)
      refine JK_call k2 (lvQ (m' + 1)) (fun Q nR nN nd K_ E_ mc ms p zs hZ h hv => ?_)
      show vc_M_statement (lvQ m') mc ms zs p K_ E_
      unfold vc_M_statement vj_M_statement_11
      exact q_isSt h.2.1 (fun _ => ⟨fun _ => q_isKey (k := 0) h.2.1 (by decide) (fun q => by rw [hs] at q; exact absurd q (by decide)) (fun _ => ⟨fun _ => q_isKey (k := 3) h.2.1 (by decide) (fun _ => ⟨fun q => absurd q (by decide), fun _ => hv⟩) (fun q => absurd hs q), fun q => absurd rfl q⟩), fun q => absurd q (by decide)⟩) (fun q => absurd (Or.inr (Or.inl hs)) q)
    · have k1 := J_repeat (Z := Z) (zc := zc) (gI := gIt so W nT m) (vQ := lvQ m') hW hWT hT hd hS hj hs
      have k2 := JK_cg (g' := fun p st => gStmt (gIt so W nT (m + 1)) so W nT p st) (v' := vPK (lvQ m') 8) k1 (fun p N _ => by
        show gStmt (gIt so W nT (m + 1)) so W nT p (j, false, nI d, N) = gRepeat (gIt so W nT (m + 1)) so W nT p (j, false, nI d, N)
        unfold gStmt; rw [ps_g, if_neg (by rw [hs]; decide), if_neg (by rw [hs]; decide)]) (fun Q nR nN nd K_ E_ mc ms p zs c tt _ _ hv => hv)
      refine JK_call k2 (lvQ (m' + 1)) (fun Q nR nN nd K_ E_ mc ms p zs hZ h hv => ?_)
      show vc_M_statement (lvQ m') mc ms zs p K_ E_
      unfold vc_M_statement vj_M_statement_11
      exact q_isSt h.2.1 (fun _ => ⟨fun _ => q_isKey (k := 0) h.2.1 (by decide) (fun q => by rw [hs] at q; exact absurd q (by decide)) (fun _ => ⟨fun _ => q_isKey (k := 3) h.2.1 (by decide) (fun q => by rw [hs] at q; exact absurd q (by decide)) (fun _ => ⟨fun _ => hv, fun q => absurd rfl q⟩), fun q => absurd rfl q⟩), fun q => absurd q (by decide)⟩) (fun q => absurd (Or.inr (Or.inr hs)) q)
