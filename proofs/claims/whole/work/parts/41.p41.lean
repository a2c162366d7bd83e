theorem byte_ld : ∀ k : Nat, k < 256 → (isLt (Int32.ofInt ((k : Int) - 128)) ∨ isDg (Int32.ofInt ((k : Int) - 128))) → Int32.ofInt ((k : Int) - 128) &&& 255 = Int32.ofInt ((k : Int) - 128) := by decide +kernel
theorem ld_eq {nX : Nat} {tx t : FN} {n i : Nat} (h : cT nX tx n) (hc : ∀ i, i < n → tx i = t i) (hl : isLt (bch t n i) ∨ isDg (bch t n i)) : pub_ tx n i = bch t n i := by
  unfold pub_
  unfold bch at hl ⊢
  by_cases hi : i < n
  · rw [if_pos hi] at hl ⊢
    rw [if_pos hi]
    rw [← hc i hi] at hl ⊢
    obtain ⟨k, hk, e⟩ := byte_k (h.2.2 i hi).1 (h.2.2 i hi).2
    rw [e] at hl ⊢
    exact byte_ld k hk hl
  · rw [if_neg hi] at hl
    exact absurd hl (by decide)
theorem lxN_in (t : FN) (n : Nat) : ∀ f i k, i + k < lxN t n f i → isLt (bch t n (i + k)) ∨ isDg (bch t n (i + k))
  | 0, i, k, h => by unfold lxN at h; omega
  | f + 1, i, k, h => by
    unfold lxN at h
    by_cases q : isLt (bch t n i) ∨ isDg (bch t n i)
    · rw [if_pos q] at h
      cases k with
      | zero => exact q
      | succ k =>
        have := lxN_in t n f (i + 1) k (by omega)
        rw [show i + 1 + k = i + (k + 1) from by omega] at this
        exact this
    · rw [if_neg q] at h
      omega
theorem nm_in {t : FN} {n w k : Nat} (h : isLt (bch t n (sbN t n w))) (hk : k < wLen t n w) : isLt (bch t n (sbN t n w + k)) ∨ isDg (bch t n (sbN t n w + k)) := by
  have e : pseN t n w = aNm t n (sbN t n w) := by
    show aWd t n (sbN t n w) = _
    unfold aWd
    rw [if_pos h]
  unfold wLen at hk
  rw [e] at hk
  unfold aNm at hk
  exact lxN_in t n (n - sbN t n w) (sbN t n w) k (by omega)
section
variable {nX : Nat} {tx : FN} {ln : Int32} {nO : Nat} {so sb se : FN} {wc : Int32} {nT : Nat} {cn : Int32} {K F Pa Sg Dp : FN} {z : RS}
theorem a_nameAt (h : AN nX tx ln nO so sb se wc nT cn K F Pa Sg Dp z) (x y : Int32) : AA (fun K_ E_ => vc_N_nameAt nX tx ln nO sb se wc nT cn K F x y K_ E_) (fun K_ => vc_M_nameAt z x y K_) (RS.w_th z 0) (RS.w_th z 1) 0 := by
  rcases an_out h x with ⟨h1, h2⟩ | ⟨t, n, W, nd, L, i, b, a1, a2, rfl, a4, a5, a6, rfl, a8, a9, a10, rfl, a12, a13, ⟨a14, a15, a16, a17, a18⟩, ⟨b1, b2, b3, b4, b5, b6, b7, b8, b9, b10⟩, a20, a21, a22, a23, a24⟩
  · exact Or.inr ⟨fun _ E ke => h1 _ _ ke, fun _ kk => h2 _ ⟨fun q => absurd q (by decide), fun _ => kk⟩⟩
  · have hn : n < 2 ^ 20 := by have := a1.1; omega
    have th : ∀ K' : Int32 → RS → Prop, K' 0 (RS.w_th z 1) → vj_M_nameAt_25 K' (nI i) y (RS.w_th z 0) := fun K' kk => ⟨fun q => absurd q (by decide), fun _ => kk⟩
    by_cases hy : y < 0
    · exact Or.inr ⟨fun K_ E_ ke => a22 _ _ (t_name a24 a12 a10 a14 a15 ⟨fun _ => ke, fun q => absurd hy q⟩), fun K' kk => a23 _ ⟨fun _ => ⟨fun _ => th K' kk, fun q => absurd hy q⟩, fun q => absurd rfl q⟩⟩
    · obtain ⟨k, hk, rfl⟩ := nI_of hy
      have eNl : (RS.w_th z 0).Nl (nI i).toNatClampNeg = nlA t n (acl b.1) b.2.1 := by
        show z.Nl (nI i).toNatClampNeg = _
        rw [nI_clamp (by omega), b6]
      cases hw : nmW (acl b.1) b.2.1 with
      | none =>
        have e0 : nlA t n (acl b.1) b.2.1 = -1 := by unfold nlA; rw [hw]
        have hlt : ¬ nI k < -1 := by
          intro q
          have := nI_toInt hk
          rw [Int32.lt_iff_toInt_lt, this] at q
          have e : (-1 : Int32).toInt = -1 := by decide
          omega
        refine Or.inr ⟨fun K_ E_ ke => a22 _ _ (t_name a24 a12 a10 a14 a15 ⟨fun q => absurd q hy, fun _ => ?_⟩), fun K' kk => a23 _ ⟨fun _ => ⟨fun q => absurd q hy, fun _ => ⟨a13, fun q => ?_, fun _ => th K' kk⟩⟩, fun q => absurd rfl q⟩⟩
        · rw [hw]
          exact ⟨fun _ => ⟨fun _ => ⟨fun q => absurd q hlt, fun _ => ke⟩, fun q => absurd rfl q⟩, fun q => absurd (by decide) q⟩
        · rw [eNl, e0] at q
          exact absurd q hlt
      | some w =>
        have hwW := nm_lt b10 hw
        have hb := psb_b t n w
        have hwl : wLen t n w = pseN t n w - sbN t n w := rfl
        have e0 : nlA t n (acl b.1) b.2.1 = nI (wLen t n w) := by unfold nlA; rw [hw]
        obtain ⟨f, f1, f2, f3, f4⟩ := b9 w hw
        by_cases hkw : k < wLen t n w
        · have hlt : nI k < nI (wLen t n w) := (nI_ltI hk (by omega)).mpr hkw
          refine Or.inl ⟨bch t n (sbN t n w + k), fun K_ E_ kk => a22 _ _ (t_name a24 a12 a10 a14 a15 ⟨fun q => absurd q hy, fun _ => ?_⟩), fun K' kk => a23 _ ⟨fun _ => ⟨fun q => absurd q hy, fun _ => ⟨a13, fun q => ⟨fun _ => ⟨a13, ?_, ?_⟩, fun q => absurd (Int32.le_refl _) q⟩, fun q => ?_⟩⟩, fun q => absurd rfl q⟩⟩
          · rw [hw]
            refine w_len hwW a5 (by omega) (by omega) (a8 w hwW) ⟨fun _ => w_start hwW a5 (by omega) ?_, fun q => absurd hlt q⟩
            rw [(a8 w hwW).1, nI_add]
            refine l_byteAt a1 (by omega) ?_
            rw [ld_eq a1 a4 (nm_in f4 hkw)]
            exact kk
          · show vp_in (z.Nf (nI i).toNatClampNeg + nI k) z.nN
            rw [nI_clamp (by omega), f1, nI_add]
            exact pu_in (by omega) (by omega)
          · show K' (z.nm (z.Nf (nI i).toNatClampNeg + nI k).toNatClampNeg) _
            rw [nI_clamp (by omega), f1, nI_add, nI_clamp (by omega), f3 k hkw]
            exact kk
          · rw [eNl, e0] at q
            exact absurd hlt q
        · have hlt : ¬ nI k < nI (wLen t n w) := fun q => hkw ((nI_ltI hk (by omega)).mp q)
          refine Or.inr ⟨fun K_ E_ ke => a22 _ _ (t_name a24 a12 a10 a14 a15 ⟨fun q => absurd q hy, fun _ => ?_⟩), fun K' kk => a23 _ ⟨fun _ => ⟨fun q => absurd q hy, fun _ => ⟨a13, fun q => ?_, fun _ => th K' kk⟩⟩, fun q => absurd rfl q⟩⟩
          · rw [hw]
            exact w_len hwW a5 (by omega) (by omega) (a8 w hwW) ⟨fun q => absurd q hlt, fun _ => ke⟩
          · rw [eNl, e0] at q
            exact absurd q hlt
theorem l_dig {t : FN} {n i : Nat} {K_ : Int32 → Prop} (h : cT nX tx n) (hc : ∀ i, i < n → tx i = t i) (k1 : isDg (bch t n i) → K_ 1) (k0 : ¬ isDg (bch t n i) → K_ 0) : vc_W_isDigit (pub_ tx n i) K_ := by
  have e := (pub_lt h i).2.1
  rw [bch_c hc i] at e
  refine ⟨fun q => k0 (fun a => ?_), fun q => ⟨fun q2 => k0 (fun a => ?_), fun q2 => k1 (e.mp ⟨Int32.not_lt.mp q, Int32.not_lt.mp q2⟩)⟩⟩
  · exact absurd q (Int32.not_lt.mpr (e.mpr a).1)
  · exact absurd q2 (Int32.not_lt.mpr (e.mpr a).2)
theorem l_val {t : FN} {n W w : Nat} {K_ : Int64 → Prop} (h : cT nX tx n) (hc : ∀ i, i < n → tx i = t i) (hn : n < 2 ^ 20) (hw : w < nO) (hw2 : nO < 2 ^ 30) (hse : se w = nI (pseN t n w)) : ∀ f i v, i + f = pseN t n w → K_ (valL t n f i v) → vl_W_valueOf_22 nX tx (nI n) nO sb se (nI W) (nI w) K_ (f + 1) (nI i) v := by
  have hb := psb_b t n w
  have hin : vp_in (nI w) nO := pu_in (by omega) (by omega)
  intro f
  induction f with
  | zero =>
    intro i v hi kk
    refine ⟨hin, fun _ => kk, fun q => ?_⟩
    rw [nI_clamp (by omega), hse, nI_leI (by omega) (by omega)] at q
    omega
  | succ f ih =>
    intro i v hi kk
    refine ⟨hin, fun q => ?_, fun _ => ?_⟩
    · rw [nI_clamp (by omega), hse, nI_leI (by omega) (by omega)] at q
      omega
    · refine l_byteAt h (by omega) (l_dig h hc (fun a => ⟨fun q => absurd q (by decide), fun _ => l_byteAt h (by omega) ?_⟩) (fun a => ⟨fun _ => ?_, fun q => absurd rfl q⟩))
      · rw [ld_eq h hc (Or.inr a), nI_1]
        refine ih (i + 1) _ (by omega) ?_
        unfold valL at kk
        rw [if_pos a] at kk
        exact kk
      · rw [nI_1]
        refine ih (i + 1) _ (by omega) ?_
        unfold valL at kk
        rw [if_neg a] at kk
        exact kk
theorem a_digits (h : AN nX tx ln nO so sb se wc nT cn K F Pa Sg Dp z) (x : Int32) : AA (fun K_ E_ => vc_N_digits nX tx ln nO sb se wc nT cn K F x K_ E_) (fun K_ => vc_M_digits z x K_) (RS.w_th z 0) (RS.w_th z 1) 0 := by
  rcases an_out h x with ⟨h1, h2⟩ | ⟨t, n, W, nd, L, i, b, a1, a2, rfl, a4, a5, a6, rfl, a8, a9, a10, rfl, a12, a13, ⟨a14, a15, a16, a17, a18⟩, ⟨b1, b2, b3, b4, b5, b6, b7, b8, b9, b10⟩, a20, a21, a22, a23, a24⟩
  · exact Or.inr ⟨fun _ E ke => h1 _ _ ke, fun _ kk => h2 _ ⟨fun q => absurd q (by decide), fun _ => kk⟩⟩
  · have hn : n < 2 ^ 20 := by have := a1.1; omega
    refine Or.inl ⟨dgA t n (acl b.1) b.2.1, fun K_ E_ kk => a22 _ _ (t_numb a24 a12 a10 a14 a15 ?_), fun K' kk => a23 _ ⟨fun _ => ⟨a13, ?_⟩, fun q => absurd rfl q⟩⟩
    · unfold dgA at kk
      cases hw : nuW (acl b.1) b.2.1 with
      | none =>
        rw [hw] at kk
        exact ⟨fun _ => ⟨fun q => absurd rfl q, fun _ => kk⟩, fun q => absurd (by decide) q⟩
      | some w =>
        rw [hw] at kk
        have hwW := nu_lt b10 hw
        have hb := psb_b t n w
        rw [show wdI (some w) = nI w from rfl]
        refine w_hold hwW (by omega) ⟨fun _ => ⟨pu_in (by omega) (by omega), wLen t n w + 1, ?_⟩, fun q => absurd q (by decide)⟩
        rw [nI_clamp (by omega), (a8 w hwW).1]
        exact l_val (t := t) a1 a4 hn (by omega) (by omega) (a8 w hwW).2 (wLen t n w) (sbN t n w) 0 (by unfold wLen; omega) kk
    · show K' (z.Dg (nI i).toNatClampNeg) _
      rw [nI_clamp (by omega), b7]; exact kk
theorem dg_le {t : FN} {n w : Nat} : aDg t n (sbN t n w) ≤ pseN t n w := by
  have hb := psb_b t n w
  show aDg t n (sbN t n w) ≤ aWd t n (sbN t n w)
  by_cases h : isDg (bch t n (sbN t n w))
  · have hl : ¬ isLt (bch t n (sbN t n w)) := by
      intro q
      have h1 := h.1; have h2 := h.2
      rw [Int32.le_iff_toInt_le] at h1 h2
      rcases q with ⟨q, _⟩ | ⟨q, _⟩ | q
      · rw [Int32.le_iff_toInt_le] at q
        have e1 : (57 : Int32).toInt = 57 := by decide
        have e2 : (97 : Int32).toInt = 97 := by decide
        omega
      · rw [Int32.le_iff_toInt_le] at q
        have e1 : (57 : Int32).toInt = 57 := by decide
        have e2 : (65 : Int32).toInt = 65 := by decide
        omega
      · rw [q] at h2
        exact absurd h2 (by decide)
    unfold aWd
    rw [if_neg hl, if_pos h]
    exact (aNu_b (by omega)).1
  · have e : aDg t n (sbN t n w) = sbN t n w := by
      show lxD t n (n - sbN t n w) (sbN t n w) = _
      cases n - sbN t n w with
      | zero => rfl
      | succ f =>
        unfold lxD
        rw [if_neg h]
    rw [e]
    exact hb.1
theorem a_behind (h : AN nX tx ln nO so sb se wc nT cn K F Pa Sg Dp z) (x : Int32) : AA (fun K_ E_ => vc_N_behind nX tx ln nO so sb se wc nT cn K F x K_ E_) (fun K_ => vc_M_behind z x K_) (RS.w_th z 0) (RS.w_th z 1) 0 := by
  rcases an_out h x with ⟨h1, h2⟩ | ⟨t, n, W, nd, L, i, b, a1, a2, rfl, a4, a5, a6, rfl, a8, a9, a10, rfl, a12, a13, ⟨a14, a15, a16, a17, a18⟩, ⟨b1, b2, b3, b4, b5, b6, b7, b8, b9, b10⟩, a20, a21, a22, a23, a24⟩
  · exact Or.inr ⟨fun _ E ke => h1 _ _ ke, fun _ kk => h2 _ ⟨fun q => absurd q (by decide), fun _ => kk⟩⟩
  · have hn : n < 2 ^ 20 := by have := a1.1; omega
    refine Or.inl ⟨bhA t n so (acl b.1) b.2.1, fun K_ E_ kk => a22 _ _ ⟨a12, fun hk9 => ?_, fun hk9 => ?_⟩, fun K' kk => a23 _ ⟨fun _ => ⟨a13, ?_⟩, fun q => absurd rfl q⟩⟩
    · rw [nI_clamp (by omega), a14] at hk9
      refine t_numb a24 a12 a10 a14 a15 ?_
      have h5 : acl b.1 ≠ 5 := by
        unfold acl
        split
        · decide
        · split
          · decide
          · split
            · decide
            · split
              · decide
              · decide
      unfold bhA at kk
      rw [if_neg h5] at kk
      cases hw : nuW (acl b.1) b.2.1 with
      | none =>
        rw [hw] at kk
        exact ⟨fun _ => ⟨fun q => absurd rfl q, fun _ => kk⟩, fun q => absurd (by decide) q⟩
      | some w =>
        rw [hw] at kk
        have hwW := nu_lt b10 hw
        have hb := psb_b t n w
        rw [show wdI (some w) = nI w from rfl]
        refine w_hold hwW (by omega) ⟨fun _ => ⟨pu_in (by omega) (by omega), pu_in (by omega) (by omega), ?_⟩, fun q => absurd q (by decide)⟩
        rw [nI_clamp (by omega), (a8 w hwW).1, (a8 w hwW).2]
        refine l_aDg a1 (by omega) ?_
        have hd : aDg t n (sbN t n w) ≤ pseN t n w := dg_le
        rw [aDg_c a4, pk_sub hd]
        have kk : K_ (nI (pseN t n w - aDg t n (sbN t n w) - 1)) := kk
        by_cases h0 : pseN t n w - aDg t n (sbN t n w) = 0
        · rw [h0] at kk ⊢
          exact kk
        · rw [show (1 : Int32) = nI 1 from rfl, pk_sub (by omega)]
          by_cases h1 : pseN t n w - aDg t n (sbN t n w) - 1 = 0
          · rw [h1] at kk ⊢
            exact kk
          · have h2 : (0 : Int32) < nI (pseN t n w - aDg t n (sbN t n w) - 1) := (nI_ltI (a := 0) (by omega) (by omega)).mpr (by omega)
            rw [if_pos h2]
            exact kk
    · rw [nI_clamp (by omega), a14] at hk9
      refine ⟨a12, ?_⟩
      rw [nI_clamp (by omega), a15]
      refine w_sort b10.1 a5 (by omega) ?_
      rw [hk9] at kk
      have kk : K_ (if so b.2.1 = 45 then 1 else 0) := kk
      refine ⟨fun q => ?_, fun q => ?_⟩
      · rw [if_neg q] at kk; exact kk
      · rw [if_pos q] at kk; exact kk
    · show K' (z.Bh (nI i).toNatClampNeg) _
      rw [nI_clamp (by omega), b8]; exact kk
end
