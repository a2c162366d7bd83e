def rSg (c : Int32) (b : pRw) : pRw := (b.1, b.2.1, b.2.2.1, c, b.2.2.2.2)
def rPc (b : pRw) : pRw := (b.1, b.2.1, b.2.2.1, b.2.2.2.1, b.2.2.2.2.1, b.2.2.2.2.2.1 + 1, b.2.2.2.2.2.2)
def rAc (ac : Nat) (b : pRw) : pRw := (b.1, b.2.1, b.2.2.1, b.2.2.2.1, b.2.2.2.2.1, b.2.2.2.2.2.1, ac)
theorem md_l {α : Type} {Q : List α} {x : Nat} {f : α → α} {i : Nat} {b : α} (h : (Q.modify x f)[i]? = some b) : (i = x ∧ ∃ a, Q[i]? = some a ∧ b = f a) ∨ (i ≠ x ∧ Q[i]? = some b) := by
  rw [List.getElem?_modify] at h
  obtain ⟨a, ha, rfl⟩ := Option.map_eq_some_iff.mp h
  by_cases hi : x = i
  · subst hi; exact Or.inl ⟨rfl, a, ha, by simp⟩
  · exact Or.inr ⟨fun q => hi q.symm, by simp [hi, ha]⟩
theorem q_sign {t : FN} {n nTp : Nat} {so : FN} {j : Nat} {Q : List pRw} {nR nN nd d y : Nat} {zs : RS} {c : Int32} (h : RP t n nTp so Q nR nN nd d j zs) : RP t n nTp so (Q.modify y (rSg c)) nR nN nd d j (RS.w_Sg zs (upd zs.Sg y c)) := by
  obtain ⟨⟨hC, h1, h2, h3, h4, h5, h6, h7, h8⟩, hL, hn⟩ := h
  refine ⟨⟨hC, h1, ?_, ?_, h4, h5, h6, h7, fun i b hi => ?_⟩, hL, hn⟩
  · rw [List.length_modify]; exact h2
  · rw [List.length_modify]; exact h3
  · rcases md_l hi with ⟨rfl, a, ha, rfl⟩ | ⟨hne, ha⟩
    · obtain ⟨a1, a2, a3, a4, a5, a6, a7, a8, a9, a10, a11⟩ := h8 i a ha
      exact ⟨a1, a2, a3, upd_eq, a5, a6, a7, a8, a9, a10, a11⟩
    · exact rowOk_cg (h8 i b ha) rfl rfl rfl (upd_ne hne) rfl rfl rfl rfl rfl rfl rfl rfl
theorem q_add {t : FN} {n nTp : Nat} {so : FN} {j : Nat} {Q : List pRw} {nR nN nd d r y : Nat} {zs : RS} {c : Int32} {a : pRw} {K_ : RS → Prop} (h : RP t n nTp so Q nR nN nd d j zs) (hr : Q[r]? = some a) (hy : y < Q.length) (hp : a.2.2.2.2.2.1 = 0 → y = r + 1) (hpl : a.2.2.2.2.2.1 < 2 ^ 30)
    (kk : ∀ zs', RP t n nTp so ((Q.modify y (rSg c)).modify r rPc) nR nN nd d j zs' → K_ zs') : vc_M_add zs (nI r) (nI y) c K_ := by
  have hh := h
  obtain ⟨⟨hC, h1, h2, h3, h4, h5, h6, h7, h8⟩, hL, hn⟩ := h
  have hR : nR < 2 ^ 24 := hC.2.2.2.2.2.2.2.2.1
  have eR : zs.nR = nR := hC.2.2.2.1
  have hrl : r < Q.length := (List.getElem?_eq_some_iff.mp hr).1
  obtain ⟨a1, a2, a3, a4, a5, a6, a7, a8, a9, a10, a11⟩ := h8 r a hr
  have fin : ∀ z2 : RS, (∃ F2, z2 = RS.w_Fi zs F2 ∧ F2 r = nI (r + 1) ∧ ∀ i, i ≠ r → F2 i = zs.Fi i) → vj_M_add_16 K_ (nI r) (nI y) c z2 := by
    rintro z2 ⟨F2, rfl, hF1, hF2⟩
    have e : (RS.w_Fi zs F2).nR = nR := eR
    unfold vj_M_add_16
    rw [e, nI_clamp (by omega), nI_clamp (by omega)]
    refine ⟨pu_in (by omega) (by omega), pu_in (by omega) (by omega), pu_in (by omega) (by omega), kk _ ⟨⟨hC, h1, ?_, ?_, h4, h5, h6, h7, fun i b hi => ?_⟩, hL, hn⟩⟩
    · rw [List.length_modify, List.length_modify]; exact h2
    · rw [List.length_modify, List.length_modify]; exact h3
    · have step : ∀ (i : Nat) (b : pRw), (Q.modify y (rSg c))[i]? = some b → rowOk t n so (RS.w_Sg zs (upd zs.Sg y c)) nd i b := (q_sign (y := y) (c := c) hh).1.2.2.2.2.2.2.2.2
      rcases md_l hi with ⟨rfl, b', hb, rfl⟩ | ⟨hne, hb⟩
      · have hb1 := step i b' hb
        have e7 : b'.2.2.2.2.2.1 = a.2.2.2.2.2.1 := by
          rcases md_l hb with ⟨_, a', ha', rfl⟩ | ⟨_, ha'⟩
          · rw [hr] at ha'; simp at ha'; rw [ha']; rfl
          · rw [hr] at ha'; simp at ha'; rw [ha']
        obtain ⟨b1, b2, b3, b4, b5, b6, b7, b8, b9, b10, b11⟩ := hb1
        refine ⟨b1, b2, b3, b4, b5, ?_, fun _ => hF1, b8, b9, b10, b11⟩
        refine upd_eq.trans ?_
        show zs.Pc i + 1 = nI (b'.2.2.2.2.2.1 + 1)
        rw [show zs.Pc i = nI b'.2.2.2.2.2.1 from b6, nI_1]
      · exact rowOk_cg (step i b hb) rfl rfl rfl rfl rfl (upd_ne hne) (hF2 i hne) rfl rfl rfl rfl rfl
  unfold vc_M_add
  rw [eR, nI_clamp (by omega), a6]
  refine ⟨pu_in (by omega) (by omega), fun q => fin zs ⟨zs.Fi, rfl, a7 (fun e => q (by rw [e]; rfl)), fun _ _ => rfl⟩, fun q => ⟨pu_in (by omega) (by omega), fin _ ⟨_, rfl, ?_, fun i hi => upd_ne hi⟩⟩⟩
  have e0 : a.2.2.2.2.2.1 = 0 := by
    have := (nI_eq (b := 0) (by omega) (by omega)).mp q
    exact this
  rw [upd_eq, hp e0]
theorem TK_3 {t : FN} {n i e : Nat} (h : TK t n i e 3) : isLt (bch t n i) ∧ e ≤ i + 40 := by
  rcases h with h | h | h | h
  · exact absurd h.2 (by decide)
  · rcases h.2 with q | q
    · exact absurd q.2 (by decide)
    · exact ⟨h.1, q.1⟩
  · rcases h.2.2 with q | q
    · exact absurd q.2 (by decide)
    · exact absurd q.2 (by decide)
  · rcases h.2.2.2 with q | q
    · exact absurd q.2.symm (fun e => absurd e (sg_r _ q.1).2.2.2.1)
    · exact absurd q.2 (by decide)
theorem TK_4 {t : FN} {n i e : Nat} (h : TK t n i e 4) : ¬ isLt (bch t n i) ∧ isDg (bch t n i) := by
  rcases h with h | h | h | h
  · exact absurd h.2 (by decide)
  · rcases h.2 with q | q
    · exact absurd q.2 (by decide)
    · rcases q.2 with ⟨k, hk, _, q2⟩ | q2
      · exact absurd q2.symm (key_r k hk).2.2.2
      · exact absurd q2.1 (by decide)
  · exact ⟨h.1, h.2.1⟩
  · rcases h.2.2.2 with q | q
    · exact absurd q.2.symm (fun e => absurd e (sg_r _ q.1).2.2.2.2.1)
    · exact absurd q.2 (by decide)
theorem nar_b {x : Int32} (h1 : -128 ≤ x) (h2 : x ≤ 127) : vp_nar .byte x = x := by
  rw [vp_nar_byte]
  obtain ⟨k, hk, rfl⟩ := byte_k h1 h2
  have : ∀ k : Nat, k < 256 → (Int32.ofInt ((k : Int) - 128)).toInt8.toInt32 = Int32.ofInt ((k : Int) - 128) := by decide +kernel
  exact this k hk
theorem q_nameL {mc ms : Nat} {t : FN} {n nTp : Nat} {so : FN} {W j : Nat} {nN nd : Nat} {K_ E_ : RS → Prop} (Fm : RS → Prop) (hW : rW t n nTp so W) (hj : j + 1 < W) (hF : ∀ z, Fm z → z.tp = t ∧ z.nT = nTp ∧ z.fd = nI n ∧ z.at_ = nI (pseN t n j) ∧ z.nN = nN) (hFu : ∀ z x g, Fm z → Fm (RS.w_nm (RS.w_nd z x) g)) (hN : nN < 2 ^ 24) (hnd : nd + wLen t n j ≤ nN) (nm0 : FN)
    (c s : Nat) (kk : ∀ z kd ky, Fm z → z.nd = nI (nd + wLen t n j) → (∀ k, k < nd → z.nm k = nm0 k) → (∀ k, k < wLen t n j → z.nm (nd + k) = bch t n (sbN t n j + k)) → (∀ k, -128 ≤ z.nm k ∧ z.nm k ≤ 127) → tkOk (bch t n (sbN t n (j + 1))) (so (j + 1)) kd ky → K_ (lexS z (nI (pseN t n (j + 1))) (nI (sbN t n (j + 1))) kd ky)) :
    ∀ f k z, f + k = wLen t n j → Fm z → z.nd = nI (nd + k) → (∀ i, i < nd → z.nm i = nm0 i) → (∀ i, i < k → z.nm (nd + i) = bch t n (sbN t n j + i)) → (∀ k, -128 ≤ z.nm k ∧ z.nm k ≤ 127) → vl_M_name_78 mc ms K_ E_ (f + 1) (nI (sbN t n j + k)) z c s := by
  have hs := psb_b t n j
  obtain ⟨⟨b1, b2, b3⟩, b4, _⟩ := id hW
  have hwl : wLen t n j = pseN t n j - sbN t n j := rfl
  intro f
  induction f with
  | zero =>
    intro k z hf hz hd g1 g2 g3
    have hk : k = wLen t n j := by omega
    subst hk
    obtain ⟨e1, e2, e3, e4, e5⟩ := hF z hz
    unfold vl_M_name_78
    rw [e4]
    refine ⟨fun _ => q_next hW e1 e2 e3 e4 hj (fun kd ky htk => kk z kd ky hz hd g1 g2 g3 htk), fun q => absurd ((nI_leI (by omega) (by omega)).mpr (by omega)) q⟩
  | succ f ih =>
    intro k z hf hz hd g1 g2 g3
    obtain ⟨e1, e2, e3, e4, e5⟩ := hF z hz
    have hb : -128 ≤ t (sbN t n j + k) ∧ t (sbN t n j + k) ≤ 127 := b3 _ (by omega)
    have hst : vl_M_name_78 mc ms K_ E_ (f + 1) (nI (sbN t n j + k) + 1) (RS.w_nm (RS.w_nd z (z.nd + 1)) (upd z.nm z.nd.toNatClampNeg (vp_nar .byte (z.tp (nI (sbN t n j + k)).toNatClampNeg)))) c s := by
      have ex : upd z.nm z.nd.toNatClampNeg (vp_nar .byte (z.tp (nI (sbN t n j + k)).toNatClampNeg)) = upd z.nm (nd + k) (t (sbN t n j + k)) := by
        rw [hd, e1, nI_clamp (by omega), nI_clamp (by omega), nar_b hb.1 hb.2]
      rw [ex, nI_1, hd, nI_1]
      refine ih (k + 1) _ (by omega) (hFu z _ _ hz) rfl (fun i hi => ?_) (fun i hi => ?_) (fun i => ?_)
      · exact (upd_ne (by omega)).trans (g1 i hi)
      · by_cases hik : i = k
        · subst hik
          refine upd_eq.trans ?_
          unfold bch
          rw [if_pos (by omega)]
        · exact (upd_ne (by omega)).trans (g2 i (by omega))
      · show -128 ≤ upd z.nm (nd + k) (t (sbN t n j + k)) i ∧ upd z.nm (nd + k) (t (sbN t n j + k)) i ≤ 127
        by_cases hik : i = nd + k
        · subst hik; rw [upd_eq]; exact hb
        · rw [upd_ne hik]; exact g3 i
    unfold vl_M_name_78
    refine ⟨fun q => ?_, fun _ => ⟨?_, ?_, hst⟩⟩
    · rw [e4, nI_leI (by omega) (by omega)] at q; omega
    · rw [e2]; exact pu_in (by omega) (by omega)
    · rw [hd, e5]; exact pu_in (by omega) (by omega)
def pgrN (nN nd : Nat) : Nat := if nd + 40 ≤ nN then nN else 2 * nN
theorem nmOk_ext {t : FN} {n : Nat} {Nf nm nm' : FN} {nd nd' i ac fw : Nat} (h : nmOk t n Nf nm nd i ac fw) (hd : nd ≤ nd') (hn : ∀ k, k < nd → nm' k = nm k) : nmOk t n Nf nm' nd' i ac fw := by
  intro w hw
  obtain ⟨f, h1, h2, h3⟩ := h w hw
  exact ⟨f, h1, by omega, fun k hk => by rw [hn _ (by omega)]; exact h3.1 k hk, h3.2⟩
theorem q_name {mc ms : Nat} {t : FN} {n nTp : Nat} {so : FN} {W j : Nat} {Q : List pRw} {nR nN nd d x ac : Nat} {zs : RS} {a : pRw} {K_ E_ : RS → Prop} (hW : rW t n nTp so W) (hj : j < W) (h : RP t n nTp so Q nR nN nd d j zs) (hx : Q[x]? = some a) (ha : a.2.2.2.2.2.2 = 0) (h3 : so j = 3) (hac : nmW ac a.2.1 = some j) (hac2 : nuW ac a.2.1 = none) (hac5 : ac ≠ 5)
    (hc : pgrN nN nd ≤ mc + nN) (hs : 2 * pgrN nN nd ≤ ms + 2 * nN)
    (kk : ∀ zs', RP t n nTp so (Q.modify x (rAc ac)) nR (pgrN nN nd) (nd + wLen t n j) d (j + 1) zs' → K_ zs') : vc_M_name mc ms zs (nI x) K_ E_ := by
  have hj1 := tk_go hW hj h3 (by decide) (by decide)
  have tk3 := TK_3 (by have := (hW.2.2.2.2.2 j hj).1; rw [h3] at this; exact this)
  have hs1 := psb_b t n j
  have hs2 := sb_n t n j
  obtain ⟨_, b4, _⟩ := id hW
  have hwl : wLen t n j = pseN t n j - sbN t n j := rfl
  obtain ⟨⟨hC, h1, h2, hQ, h4, h5, h6, h7, h8⟩, hL, hn⟩ := h
  obtain ⟨c1, c2, c3, c4, c5, c6, c7, c8, c9, c10, c11⟩ := id hC
  have hxl : x < Q.length := (List.getElem?_eq_some_iff.mp hx).1
  have kd1 : zs.kd = 1 := (q_kd hL).2.1.mpr h3
  unfold vc_M_name
  refine ⟨fun _ => ?_, fun q => absurd kd1 q⟩
  have run : ∀ (z2 : RS) (m c s : Nat), m = pgrN nN nd → z2.tp = t → z2.nT = nTp → z2.fd = nI n → z2.at_ = nI (pseN t n j) → z2.fr = nI (sbN t n j) → z2.nd = nI nd → z2.nN = m → z2.nR = nR → z2.th = 0 → z2.op = nI d → z2.ct = nI Q.length → z2.fa = 0 → z2.pl = -1 → (∀ k, k < nd → z2.nm k = zs.nm k) → (∀ k, -128 ≤ z2.nm k ∧ z2.nm k ≤ 127) → z2.Nf = zs.Nf → z2.Nl = zs.Nl →
      (∀ i, z2.Kd i = zs.Kd i ∧ z2.Bg i = zs.Bg i ∧ z2.Pr i = zs.Pr i ∧ z2.Sg i = zs.Sg i ∧ z2.De i = zs.De i ∧ z2.Pc i = zs.Pc i ∧ z2.Fi i = zs.Fi i ∧ z2.Dg i = zs.Dg i ∧ z2.Bh i = zs.Bh i) → 256 ≤ m → m < 2 ^ 24 → nd + 40 ≤ m →
      (vp_in (nI x) z2.nR ∧ (vp_in (nI x) z2.nR ∧ (∃ n_, vl_M_name_78 mc ms K_ E_ n_ z2.fr (RS.w_Nl (RS.w_Nf z2 (upd z2.Nf (nI x).toNatClampNeg z2.nd)) (upd z2.Nl (nI x).toNatClampNeg (z2.at_ - z2.fr))) c s))) := by
    intro z2 m c s hm y1 y2 y3 y4 y5 y6 y7 y8 y9 y10 y11 y12 y13 y14 y15 y16 y17 y18 y19 y20 y21
    rw [y8, y5, y6, y4, pk_sub hs1.1, nI_clamp (by omega), y16, y17]
    refine ⟨pu_in (by omega) (by omega), pu_in (by omega) (by omega), wLen t n j + 1, ?_⟩
    refine q_nameL (nN := m) (nd := nd) (fun z => (z.tp = t ∧ z.nT = nTp ∧ z.fd = nI n ∧ z.at_ = nI (pseN t n j) ∧ z.nN = m) ∧ z.nR = nR ∧ z.th = 0 ∧ z.op = nI d ∧ z.ct = nI Q.length ∧ z.fa = 0 ∧ z.pl = -1 ∧ z.Nf = upd zs.Nf x (nI nd) ∧ z.Nl = upd zs.Nl x (nI (pseN t n j - sbN t n j)) ∧ ∀ i, z.Kd i = zs.Kd i ∧ z.Bg i = zs.Bg i ∧ z.Pr i = zs.Pr i ∧ z.Sg i = zs.Sg i ∧ z.De i = zs.De i ∧ z.Pc i = zs.Pc i ∧ z.Fi i = zs.Fi i ∧ z.Dg i = zs.Dg i ∧ z.Bh i = zs.Bh i) hW hj1 (fun z hz => hz.1) (fun z _ _ hz => hz) y20 (by omega) zs.nm c s (fun z kd ky hz hd f1 f2 f3 htk => ?_) (wLen t n j) 0 _ rfl ⟨⟨y1, y2, y3, y4, y7⟩, y8, y9, y10, y11, y12, y13, rfl, rfl, y18⟩ y6 y14 (fun i hi => absurd hi (by omega)) y15
    obtain ⟨⟨x1, x2, x3, x4, x5⟩, x6, x7, x8, x9, x10, x11, x12, x13, x14⟩ := hz
    rw [← hm] at kk
    refine kk _ ⟨⟨⟨x1, x2, x3, x6, x5, x7, f3, c8, c9, y19, y20⟩, x8, ?_, ?_, hd, by omega, x10, x11, fun i b hi => ?_⟩, ⟨rfl, rfl, htk⟩, by omega⟩
    · rw [List.length_modify]; exact x9
    · rw [List.length_modify]; exact hQ
    · obtain ⟨z1, z2', z3, z4, z5, z6, z7, z8, z9⟩ := x14 i
      rcases md_l hi with ⟨rfl, a', ha', rfl⟩ | ⟨hne, ha'⟩
      · rw [hx] at ha'
        simp at ha'
        subst ha'
        obtain ⟨a1, a2, a3, a4, a5, a6, a7, a8, a9, a10, a11⟩ := h8 i a hx
        rw [ha] at a9 a10
        refine ⟨z1.trans a1, z2'.trans a2, z3.trans a3, z4.trans a4, z5.trans a5, z6.trans a6, fun q => z7.trans (a7 q), ?_, ?_, ?_, ?_⟩
        · refine (congrFun x13 i).trans (upd_eq.trans ?_)
          show nI (pseN t n j - sbN t n j) = nlA t n ac a.2.1
          unfold nlA
          rw [hac]; rfl
        · refine (z8.trans a9).trans ?_
          show (-1 : Int64) = dgA t n ac a.2.1
          unfold dgA
          rw [hac2]
        · refine (z9.trans a10).trans ?_
          show (-1 : Int32) = bhA t n so ac a.2.1
          unfold bhA
          rw [if_neg hac5, hac2]
        · intro w hw
          have hw' : nmW ac a.2.1 = some w := hw
          rw [hac] at hw'
          simp at hw'
          subst hw'
          exact ⟨nd, (congrFun x12 i).trans upd_eq, Nat.le_refl _, f2, tk3.1⟩
      · obtain ⟨a1, a2, a3, a4, a5, a6, a7, a8, a9, a10, a11⟩ := h8 i b ha'
        refine ⟨z1.trans a1, z2'.trans a2, z3.trans a3, z4.trans a4, z5.trans a5, z6.trans a6, fun q => z7.trans (a7 q), (congrFun x13 i).trans ((upd_ne hne).trans a8), z8.trans a9, z9.trans a10, ?_⟩
        intro w hw
        obtain ⟨f0, q1, q2, q3⟩ := nmOk_ext a11 (Nat.le_add_right nd (wLen t n j)) f1 w hw
        exact ⟨f0, (congrFun x12 i).trans ((upd_ne hne).trans q1), q2, q3⟩
  have rr : ∀ i, zs.Kd i = zs.Kd i ∧ zs.Bg i = zs.Bg i ∧ zs.Pr i = zs.Pr i ∧ zs.Sg i = zs.Sg i ∧ zs.De i = zs.De i ∧ zs.Pc i = zs.Pc i ∧ zs.Fi i = zs.Fi i ∧ zs.Dg i = zs.Dg i ∧ zs.Bh i = zs.Bh i := fun i => ⟨rfl, rfl, rfl, rfl, rfl, rfl, rfl, rfl, rfl⟩
  by_cases hfit : nd + 40 ≤ nN
  · have em : pgrN nN nd = nN := by unfold pgrN; rw [if_pos hfit]
    refine ⟨1, fun _ => run zs nN 0 0 em.symm c1 c2 c3 hL.2.1 hL.1 h4 c5 c4 c6 h1 h2 h6 h7 (fun _ _ => rfl) c7 rfl rfl rr c10 c11 hfit, fun q => ?_⟩
    rw [h4, c5, show (40 : Int32) = nI 40 from rfl, nI_add, nI_leI (by omega) (by omega)] at q
    exact absurd hfit q
  · have em : pgrN nN nd = 2 * nN := by unfold pgrN; rw [if_neg hfit]
    rw [em] at hc hs
    refine ⟨2, fun q => ?_, fun _ => ?_⟩
    · rw [h4, c5, show (40 : Int32) = nI 40 from rfl, nI_add, nI_leI (by omega) (by omega)] at q
      exact absurd q hfit
    · have hx2 : 2 * nI zs.nN = nI (2 * nN) := by
        rw [c5, show (2 : Int32) = nI 2 from rfl]
        exact (Int32.ofNat_mul 2 nN).symm
      refine ⟨1, 2 * nN, by omega, by omega, ?_⟩
      rw [hx2, nI_clamp (by omega), c5]
      refine k_copyB (by omega) c11 c7 rfl (Nat.le_refl _) (Nat.le_refl _) (fun aN g hg1 hg2 => ?_)
      refine ⟨fun _ => run (RS.w_nm (RS.w_nN (RS.w_aN zs aN) (2 * nN)) g) (2 * nN) _ _ em.symm c1 c2 c3 hL.2.1 hL.1 h4 rfl c4 c6 h1 h2 h6 h7 (fun k hk => hg1 k (by omega)) hg2 rfl rfl rr (by omega) (by omega) (by omega), fun q => ?_⟩
      have ez : (RS.w_nm (RS.w_nN (RS.w_aN zs aN) (2 * nN)) g).nd = nI nd := h4
      have ez2 : (RS.w_nm (RS.w_nN (RS.w_aN zs aN) (2 * nN)) g).nN = 2 * nN := rfl
      rw [ez, ez2, show (40 : Int32) = nI 40 from rfl, nI_add, nI_leI (by omega) (by omega)] at q
      exact absurd (show nd + 40 ≤ 2 * nN by omega) q
