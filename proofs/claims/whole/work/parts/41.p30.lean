theorem q_isSt {t : FN} {n : Nat} {so : FN} {j : Nat} {zs : RS} {K_ : Int32 → Prop} (hL : pRL t n so j zs) (k1 : isSt (so j) → K_ 1) (k0 : ¬ isSt (so j) → K_ 0) : vc_M_isStatement zs K_ :=
  q_isKey (k := 0) hL (by decide) (fun a => ⟨fun _ => k1 (Or.inl a), fun q => absurd q (by decide)⟩) (fun a => ⟨fun q => absurd rfl q, fun _ => q_isKey (k := 3) hL (by decide) (fun b => ⟨fun _ => k1 (Or.inr (Or.inl b)), fun q => absurd q (by decide)⟩) (fun b => ⟨fun q => absurd rfl q, fun _ => q_isKey (k := 8) hL (by decide) (fun c => ⟨fun q => absurd q (by decide), fun _ => k1 (Or.inr (Or.inr c))⟩) (fun c => ⟨fun _ => k0 (fun q => q.elim a (fun q => q.elim b c)), fun q => absurd rfl q⟩)⟩)⟩)
def stC (vQ : VV) : SV := fun cont E_ mc ms p zs c tt => ∃ c1 s1 : Nat, c + c1 ≤ mc ∧ tt + s1 ≤ ms ∧ vQ c1 s1 zs p (fun z => cont z (c + c1) (tt + s1)) E_
def JSL (t : FN) (n nTp : Nat) (so : FN) (W nT : Nat) (gI : pG1) (vQ : VV) (j d : Nat) : Prop :=
  (∃ (j' m rn : Nat) (L : LF2) (R : RF2), j ≤ j' ∧ j' < W ∧ m + j ≤ j' ∧ rn + 4 * j ≤ 4 * j' ∧ Fo W m rn L R ∧ ¬ isSt (so j') ∧
    (∀ (p : Int32) (f : Nat) (N : List pNd), p ≠ -1 → W ≤ f + j → N.length ≤ j → gItemsL gI so W nT p f (j, false, nI d, N) = (j', false, nI d, N ++ L N.length p)) ∧
    (∀ (Q : List pRw) (p : Int32) (nR nN nd : Nat), Q.length ≤ 4 * j → Q.length ≤ nR → 1 ≤ nR ∧ nR % 4 = 0 → nd ≤ sbN t n j → ∃ nR' nN' nd' : Nat, gwR W nR nR' ∧ gwN n nN nN' ∧ Q.length + rn ≤ nR' ∧ nd' ≤ sbN t n j' ∧
      ∀ zs (E_ : RS → Prop) mc ms c tt f (LP : Nat → RS → Nat → Nat → Prop) (EX : RS → Nat → Nat → Prop), (∀ f z c t, vc_M_isStatement z (fun r => ((r = 0 → EX z c t) ∧ (¬ r = 0 → stC vQ (fun z2 c2 t2 => LP f z2 c2 t2) E_ mc ms p z c t))) → LP (f + 1) z c t) → W ≤ f + j → RP t n nTp so Q nR nN nd d j zs → budC nR nN nR' nN' mc ms c tt →
        (∀ z' c' t', RP t n nTp so (Q ++ R Q.length p) nR' nN' nd' d j' z' → cnt nR nN nR' nN' c c' tt t' → EX z' c' t') → LP (f + 1) zs c tt)) ∨
  (∃ j', j ≤ j' ∧ j' < W ∧ (∀ (p : Int32) (f : Nat) (N : List pNd), p ≠ -1 → W ≤ f + j → N.length ≤ j → ∃ d' N', gItemsL gI so W nT p f (j, false, nI d, N) = (j', true, d', N')) ∧
    (∀ (Q : List pRw) (p : Int32) (nR nN nd : Nat), Q.length ≤ 4 * j → Q.length ≤ nR → 1 ≤ nR ∧ nR % 4 = 0 → nd ≤ sbN t n j → ∃ nR' nN' : Nat, gwR W nR nR' ∧ gwN n nN nN' ∧
      ∀ zs (E_ : RS → Prop) mc ms c tt f (LP : Nat → RS → Nat → Nat → Prop) (EX : RS → Nat → Nat → Prop), (∀ f z c t, vc_M_isStatement z (fun r => ((r = 0 → EX z c t) ∧ (¬ r = 0 → stC vQ (fun z2 c2 t2 => LP f z2 c2 t2) E_ mc ms p z c t))) → LP (f + 1) z c t) → W ≤ f + j → RP t n nTp so Q nR nN nd d j zs → budC nR nN nR' nN' mc ms c tt →
        (∀ z', RF t n nTp so nR' nN' j' z' → E_ z') → LP (f + 1) zs c tt))
theorem ff_itemsL {gI : pG1} {so : FN} {W nT : Nat} {p : Int32} : ∀ f, ff (gItemsL gI so W nT p f)
  | 0 => ff_id
  | f + 1 => fun j d N => by
    unfold gItemsL
    rw [ps_f, if_neg (by decide), if_neg (fun q => absurd q.2 (by decide))]
    exact ⟨d, N, rfl⟩
theorem J_SL {t : FN} {n nTp : Nat} {so : FN} {W nT : Nat} (hW : rW t n nTp so W) {gI : pG1} {vQ : VV} {d : Nat}
    (hS : ∀ i, i < W → isSt (so i) → JQ t n nTp so W nT (fun _ _ => True) (fun p => p ≠ -1) (fun p st => gStmt gI so W nT p st) (stC vQ) i d d 0 (-1) 0 0) : ∀ k j, j < W → W ≤ k + j → JSL t n nTp so W nT gI vQ j d := by
  intro k
  induction k with
  | zero => intro j hj hk; omega
  | succ k ih =>
    intro j hj hk
    have w := tk_so hW hj
    by_cases hst : isSt (so j)
    · have eg : ∀ p f N, gItemsL gI so W nT p (f + 1) (j, false, nI d, N) = gItemsL gI so W nT p f (gStmt gI so W nT p (j, false, nI d, N)) := by
        intro p f N
        have hj1 : isSt (psS so (j, false, nI d, N)) := hst
        show (if isSt (psS so (j, false, nI d, N)) then _ else _) = _
        rw [if_pos hj1]
      rcases hS j hj hst with ⟨j1, m1, rn1, L1, R1, c1, c2, c3, c4, c5, c6, c7⟩ | ⟨j1, c1, c2, c3, c4⟩
      · have hl1 := And.intro c5.1 c5.2.1
        have c6 : ∀ (p : Int32) (N : List pNd), p ≠ -1 → (N.length : Int) ≤ j + 0 → gStmt gI so W nT p (j, false, nI d, N) = (j1, false, nI d, N ++ L1 N.length p) := c6
        rcases ih j1 c2 (by omega) with ⟨j', m, rn, L, R, d1, d2, d3, d4, d5, d6, d7, d8⟩ | ⟨j', d1, d2, d3, d4⟩
        · refine Or.inl ⟨j', m1 + m, rn1 + rn, _, _, by omega, d2, by omega, by omega, Fo_app c5 d5, d6, fun p f N hp hf hN => ?_, fun Q p nR nN nd hQ hQR hR0 hnd => ?_⟩
          · obtain ⟨f, rfl⟩ : ∃ g, f = g + 1 := ⟨f - 1, by omega⟩
            rw [eg, c6 p N hp (by omega), d7 p f _ hp (by omega) (by rw [List.length_append, hl1.1]; omega), List.length_append, hl1.1, List.append_assoc]
          · obtain ⟨nR1, nN1, nd1, b1, b2, b3, b4, b5⟩ := c7 Q p nR nN nd (by omega) hQR hR0 hnd trivial
            have hlen : (Q ++ R1 Q.length p).length = Q.length + rn1 := by rw [List.length_append, hl1.2]
            obtain ⟨nR2, nN2, nd2, e1, e2, e3, e4, e5⟩ := d8 (Q ++ R1 Q.length p) p nR1 nN1 nd1 (by omega) (by omega) (by have := b1.1; omega) b4
            refine ⟨nR2, nN2, nd2, gwR_t b1 e1, gwN_t b2 e2, by omega, e4, fun zs E_ mc ms c tt f LP EX hL hf h hb kk => ?_⟩
            obtain ⟨f, rfl⟩ : ∃ g, f = g + 1 := ⟨f - 1, by omega⟩
            have hm1 := b1.1; have hm2 := b2.1; have hm3 := e1.1; have hm4 := e2.1
            obtain ⟨hb1, hb2⟩ := hb
            refine hL _ _ _ _ (q_isSt h.2.1 (fun _ => ⟨fun q => absurd q (by decide), fun _ => ?_⟩) (fun q => absurd hst q))
            refine b5 zs _ E_ mc ms c tt h ⟨by omega, by omega⟩ (fun z1 c' t' h1 hc1 => ?_)
            obtain ⟨g1, g2⟩ := hc1
            refine e5 z1 E_ mc ms c' t' f LP EX hL (by omega) h1 ⟨by omega, by omega⟩ (fun z2 c'' t'' h2 hc2 => kk z2 c'' t'' ?_ ?_)
            · rw [hlen, List.append_assoc] at h2
              exact h2
            · obtain ⟨g3, g4⟩ := hc2
              exact ⟨by omega, by omega⟩
        · refine Or.inr ⟨j', by omega, d2, fun p f N hp hf hN => ?_, fun Q p nR nN nd hQ hQR hR0 hnd => ?_⟩
          · obtain ⟨f, rfl⟩ : ∃ g, f = g + 1 := ⟨f - 1, by omega⟩
            rw [eg, c6 p N hp (by omega)]
            exact d3 p f _ hp (by omega) (by rw [List.length_append, hl1.1]; omega)
          · obtain ⟨nR1, nN1, nd1, b1, b2, b3, b4, b5⟩ := c7 Q p nR nN nd (by omega) hQR hR0 hnd trivial
            have hlen : (Q ++ R1 Q.length p).length = Q.length + rn1 := by rw [List.length_append, hl1.2]
            obtain ⟨nR2, nN2, e1, e2, e5⟩ := d4 (Q ++ R1 Q.length p) p nR1 nN1 nd1 (by omega) (by omega) (by have := b1.1; omega) b4
            refine ⟨nR2, nN2, gwR_t b1 e1, gwN_t b2 e2, fun zs E_ mc ms c tt f LP EX hL hf h hb kk => ?_⟩
            obtain ⟨f, rfl⟩ : ∃ g, f = g + 1 := ⟨f - 1, by omega⟩
            have hm1 := b1.1; have hm2 := b2.1; have hm3 := e1.1; have hm4 := e2.1
            obtain ⟨hb1, hb2⟩ := hb
            refine hL _ _ _ _ (q_isSt h.2.1 (fun _ => ⟨fun q => absurd q (by decide), fun _ => ?_⟩) (fun q => absurd hst q))
            refine b5 zs _ E_ mc ms c tt h ⟨by omega, by omega⟩ (fun z1 c' t' h1 hc1 => ?_)
            obtain ⟨g1, g2⟩ := hc1
            exact e5 z1 E_ mc ms c' t' f LP EX hL (by omega) h1 ⟨by omega, by omega⟩ kk
      · refine Or.inr ⟨j1, c1, c2, fun p f N hp hf hN => ?_, fun Q p nR nN nd hQ hQR hR0 hnd => ?_⟩
        · obtain ⟨f, rfl⟩ : ∃ g, f = g + 1 := ⟨f - 1, by omega⟩
          obtain ⟨d1, N1, e1⟩ := c3 p N hp (by omega)
          have e1 : gStmt gI so W nT p (j, false, nI d, N) = (j1, true, d1, N1) := e1
          rw [eg, e1]
          exact ff_itemsL f j1 d1 N1
        · obtain ⟨nR1, nN1, b1, b2, b5⟩ := c4 Q p nR nN nd (by omega) hQR hR0 hnd trivial
          refine ⟨nR1, nN1, b1, b2, fun zs E_ mc ms c tt f LP EX hL hf h hb kk => ?_⟩
          exact hL _ _ _ _ (q_isSt h.2.1 (fun _ => ⟨fun q => absurd q (by decide), fun _ => b5 zs _ E_ mc ms c tt h hb kk⟩) (fun q => absurd hst q))
    · refine Or.inl ⟨j, 0, 0, _, _, by omega, hj, by omega, by omega, Fo_nil, hst, fun p f N hp hf hN => ?_, fun Q p nR nN nd hQ hQR hR0 hnd => ?_⟩
      · obtain ⟨f, rfl⟩ : ∃ g, f = g + 1 := ⟨f - 1, by omega⟩
        have hj1 : ¬ isSt (psS so (j, false, nI d, N)) := hst
        show (if isSt (psS so (j, false, nI d, N)) then _ else if p = -1 ∧ isOu (psS so (j, false, nI d, N)) then _ else _) = _
        rw [if_neg hj1, if_neg (fun q => hp q.1), List.append_nil]
      · refine ⟨nR, nN, nd, gwR_r W nR, gwN_r n nN, hQR, hnd, fun zs E_ mc ms c tt f LP EX hL hf h hb kk => ?_⟩
        exact hL _ _ _ _ (q_isSt h.2.1 (fun q => absurd q hst) (fun _ => ⟨fun _ => kk zs c tt (by rw [List.append_nil]; exact h) (cnt_r ..), fun q => absurd rfl q⟩))
def v7 : SV := fun cont E_ mc ms p zs c tt => vc_M_is zs 61 (fun r => vc_M_pass zs r (fun z => ∃ c1 s1 : Nat, c + c1 ≤ mc ∧ tt + s1 ≤ ms ∧ vAx c1 s1 z p (fun _ z2 => v207 cont E_ mc ms p z2 (c + c1) (tt + s1)) E_) E_)
def v6 : SV := fun cont E_ mc ms p zs c tt => ∃ c1 s1 : Nat, c + c1 ≤ mc ∧ tt + s1 ≤ ms ∧ vc_M_shape c1 s1 zs p (fun _ z => vPt cont E_ mc ms p z (c + c1) (tt + s1)) E_
def vAN : SV := fun cont E_ mc ms p zs c tt => vp_in p zs.nR ∧ ((¬ (zs.Kd p.toNatClampNeg) = 7 → v6 cont E_ mc ms p zs c tt) ∧ ((zs.Kd p.toNatClampNeg) = 7 → v7 cont E_ mc ms p zs c tt))
def vN8 : SV := fun cont E_ mc ms p zs c tt => ∃ c1 s1 : Nat, c + c1 ≤ mc ∧ tt + s1 ≤ ms ∧ vc_M_namePiece c1 s1 zs p 0 (fun _ z => vAN cont E_ mc ms p z (c + c1) (tt + s1)) E_
def v8 (vQ : VV) : KV := fun K_ E_ mc ms p zs c tt => ∃ c1 s1 : Nat, c + c1 ≤ mc ∧ tt + s1 ≤ ms ∧ vc_M_whole c1 s1 zs p (fun _ z => vc_M_open z 123 (fun z2 => ∃ n_, vl_M_statement_72 vQ mc ms K_ E_ n_ p z2 (c + c1) (tt + s1)) E_) E_
def vB0 (vQ : VV) : KV := fun K_ E_ mc ms p zs c tt => vc_M_next zs (fun z => vp_in p z.nR ∧ ((¬ (z.Kd p.toNatClampNeg) = 8 → vN8 (fun z _ _ => K_ z) E_ mc ms p z c tt) ∧ ((z.Kd p.toNatClampNeg) = 8 → v8 vQ K_ E_ mc ms p z c tt)))
theorem ff_param1 {so : FN} {W nT : Nat} {p : Int32} : ff (gParam1 so W nT p) := ff_c (f := fun a => if psS so a = 61 then gFraction so nT p 61 (gStep a) else if psS so a = 126 then gWhole (g33 so W nT) nT p 0 (gTake so 44 (gFraction so nT p 126 (gStep a))) else a) (g := gTake so 59) (ff_if (c := fun a => psS so a = 61) (fun j d N => by rw [ps_f]; decide) (ff_if (c := fun a => psS so a = 126) (fun j d N => by rw [ps_f]; decide) ff_id)) (ff_take (by decide))
theorem ff_pm2 {so : FN} {W nT : Nat} (p : Int32) : ff (fun st => gParam1 so W nT p (gShape (g33 so W nT) so W nT p st)) := ff_c (f := gShape (g33 so W nT) so W nT p) (g := gParam1 so W nT p) (ff_shape (ff_lv so W nT 33).1) ff_param1
theorem ff_pm1 {so : FN} {W nT : Nat} (p : Int32) : ff (fun st => gParam1 so W nT p (gShape (g33 so W nT) so W nT p (gName so nT p 0 st))) := ff_c (f := gName so nT p 0) (g := fun st => gParam1 so W nT p (gShape (g33 so W nT) so W nT p st)) ff_name (ff_pm2 p)
theorem pm_a {t : FN} {n nTp : Nat} {so : FN} {W nT : Nat} (hW : rW t n nTp so W) (hWT : W ≤ nT) {j d : Nat} (hj : j < W) (hd : d ≤ 30) : JQ t n nTp so W nT (zK 6) (fun p => p ≠ -1) (fun p st => gParam1 so W nT p (gShape (g33 so W nT) so W nT p st)) v6 j d d 0 (0 + -1) (0 + -4) 0 := by
  have s := JQ_seq (Z := zK 6) (zc := fun p => p ≠ -1) (S_shape hW hWT hj hd (e := 0) (q := 0) (by omega) (by omega)) (fun j2 _ hj2 => S_ptail hW hWT (zK_s 6) hj2 hd (e := 0) (q := 0) (by omega) (by omega)) (fun p => ff_param1) (by omega) (zK_s 6) (by omega)
  exact s
theorem pm_b {t : FN} {n nTp : Nat} {so : FN} {W nT : Nat} (hW : rW t n nTp so W) (hWT : W ≤ nT) {j d : Nat} (hj : j < W) (hd : d ≤ 30) : JQ t n nTp so W nT (zK 6) (fun p => p ≠ -1) (fun p st => gParam1 so W nT p (gShape (g33 so W nT) so W nT p st)) vAN j d d 0 (0 + -1) (0 + -4) 0 :=
  JQ_cg (v' := vAN) (pm_a hW hWT hj hd) (fun _ _ _ => Eq.refl _) (fun Q nR nN nd cont E_ mc ms p zs c tt hZ h hv => by
      obtain ⟨x1, x2⟩ := kd_p hZ h
      exact ⟨x1, fun _ => hv, fun q => by rw [x2] at q; exact absurd q (by decide)⟩)
theorem pm_c {t : FN} {n nTp : Nat} {so : FN} {W nT : Nat} (hW : rW t n nTp so W) (hWT : W ≤ nT) {j d : Nat} (hj : j < W) (hd : d ≤ 30) : JQ t n nTp so W nT (zK 6) (fun p => p ≠ -1) (fun p st => gParam1 so W nT p (gShape (g33 so W nT) so W nT p (gName so nT p 0 st))) vN8 j d d 0 (0 + (0 + -1)) (-3 + (0 + -4)) 0 := by
  have s := JQ_seq (Z := zK 6) (zc := fun p => p ≠ -1) (S_name hW hWT 0 hj (e := 0) (q := 0) (by omega) (by omega)) (fun j2 _ hj2 => pm_b hW hWT hj2 hd) ff_pm2 (by omega) (zK_s 6) (by omega)
  exact s
def vC8 (vQ : VV) : KV := fun K_ E_ mc ms p zs c tt => vp_in p zs.nR ∧ ((¬ (zs.Kd p.toNatClampNeg) = 8 → vN8 (fun z _ _ => K_ z) E_ mc ms p zs c tt) ∧ ((zs.Kd p.toNatClampNeg) = 8 → v8 vQ K_ E_ mc ms p zs c tt))
theorem pm_d {t : FN} {n nTp : Nat} {so : FN} {W nT : Nat} (hW : rW t n nTp so W) (hWT : W ≤ nT) (vQ : VV) {j d : Nat} (hj : j < W) (hd : d ≤ 30) : JK t n nTp so W nT (zK 6) (fun p => p ≠ -1) (fun p st => gParam1 so W nT p (gShape (g33 so W nT) so W nT p (gName so nT p 0 st))) (vC8 vQ) j d d 0 (0 + (0 + -1)) (-3 + (0 + -4)) 0 :=
  JK_cg (v' := vC8 vQ) (JQ_K (pm_c hW hWT hj hd)) (fun _ _ _ => Eq.refl _) (fun Q nR nN nd K_ E_ mc ms p zs c tt hZ h hv => by
      obtain ⟨x1, x2⟩ := kd_p hZ h
      exact ⟨x1, fun _ => hv, fun q => by rw [x2] at q; exact absurd q (by decide)⟩)
def vPK (vQ : VV) (kd : Int32) : KV := fun K_ E_ mc ms p zs c tt => ∃ c1 s1 : Nat, c + c1 ≤ mc ∧ tt + s1 ≤ ms ∧ vc_M_piece c1 s1 zs kd p (fun r z => vB0 vQ K_ E_ mc ms r z (c + c1) (tt + s1))
theorem pm_e {t : FN} {n nTp : Nat} {so : FN} {W nT : Nat} (hW : rW t n nTp so W) (hWT : W ≤ nT) (vQ : VV) {j d : Nat} (hj : j < W) (hd : d ≤ 30) (hs : so j = 256) : JK t n nTp so W nT (zK 6) (fun p => p ≠ -1) (fun p st => gParam1 so W nT p (gShape (g33 so W nT) so W nT p (gName so nT p 0 (gTake so 256 st)))) (vB0 vQ) j d d 1 (-1 + (0 + (0 + -1))) (-4 + (-3 + (0 + -4))) 1 := by
  have s := JK_seq (Z := zK 6) (zc := fun p => p ≠ -1) (S_next (nT := nT) hW (x := 256) (by decide) (by decide) (d := d) hj hs 1 1) (fun j1 _ hj1 => pm_d hW hWT vQ hj1 hd) ff_pm1 (by omega) (zK_s 6) (by omega)
  exact s
theorem J_param {t : FN} {n nTp : Nat} {so : FN} {W nT : Nat} {Z : ZP} {zc : Int32 → Prop} (hW : rW t n nTp so W) (hWT : W ≤ nT) (hT : nT < 2 ^ 30) (vQ : VV) {j d : Nat} (hj : j < W) (hd : d ≤ 30) (hs : so j = 256) : JK t n nTp so W nT Z zc (fun p st => gParam so W nT p st) (vPK vQ 6) j d d 0 (-1) 0 0 := by
  have s := JK_node (Z := Z) (zc := zc) hW hWT hT 6 rfl (pm_e hW hWT vQ hj hd hs) hj (e := 0) (q := 0) (by omega) (by omega) (by omega) (by omega)
  have s2 := JK_w s (Int.le_refl _) (show (-1 + (0 + (0 + -1)) + 1 : Int) ≤ -1 by omega) (show (-4 + (-3 + (0 + -4)) + 1 : Int) ≤ 0 by omega) (Int.le_refl _)
  exact s2
