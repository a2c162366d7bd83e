def AN (nX : Nat) (tx : FN) (ln : Int32) (nO : Nat) (so sb se : FN) (wc : Int32) (nT : Nat) (cn : Int32) (K F Pa Sg Dp : FN) (z : RS) : Prop :=
  (cn = 0 ∧ z.ct = 0) ∨ ∃ (t : FN) (n W nd : Nat) (L : List pNd), cT nX tx n ∧ nX < 2 ^ 20 ∧ ln = nI n ∧ (∀ i, i < n → tx i = t i) ∧ W ≤ nO ∧ nO < 2 ^ 21 ∧ wc = nI W ∧ (∀ j, j < W → sb j = nI (sbN t n j) ∧ se j = nI (pseN t n j)) ∧
    cn = nI L.length ∧ L.length ≤ nT ∧ nT < 2 ^ 30 ∧ cRep L K F Pa Sg Dp ∧ z.ct = nI L.length ∧ L.length ≤ z.nR ∧ z.nR < 2 ^ 24 ∧ nd ≤ z.nN ∧ z.nN < 2 ^ 24 ∧ (∀ i b, L[i]? = some b → ndOk t n so W z nd i b)
def AA {α : Type} (vN : (α → Prop) → Prop → Prop) (vM : (α → RS → Prop) → Prop) (z0 z1 : RS) (d : α) : Prop :=
  (∃ v, (∀ K E, K v → vN K E) ∧ (∀ K', K' v z0 → vM K')) ∨ ((∀ K E, E → vN K E) ∧ (∀ K', K' d z1 → vM K'))
theorem d_in {len i : Nat} {K E : Prop} (h : i < len) (hl : len < 2 ^ 30) (kk : K) : vc_N_demand (nI len) (nI i) K E := by
  refine ⟨fun q => absurd q (nI_pos (by omega)), fun _ => ⟨fun q => ?_, fun _ => ⟨fun _ => kk, fun q => absurd q (by decide)⟩⟩⟩
  rw [nI_leI (by omega) (by omega)] at q
  omega
theorem d_out {cn x : Int32} {K E : Prop} (h : x < 0 ∨ cn ≤ x) (ke : E) : vc_N_demand cn x K E := by
  refine ⟨fun _ => ⟨fun q => absurd rfl q, fun _ => ke⟩, fun q => ⟨fun _ => ⟨fun q => absurd rfl q, fun _ => ke⟩, fun q2 => ?_⟩⟩
  rcases h with h | h
  · exact absurd h q
  · exact absurd h q2
theorem o_in {len i : Nat} {z : RS} {K_ : Int32 → RS → Prop} (hc : z.ct = nI len) (h : i < len) (hl : len < 2 ^ 30) (kk : K_ 0 (RS.w_th z 0)) : vc_M_none z (nI i) K_ := by
  refine ⟨fun q => absurd q (nI_pos (by omega)), fun _ => ⟨fun _ => ⟨fun _ => kk, fun q => absurd (Int32.le_refl _) q⟩, fun q => ?_⟩⟩
  rw [hc, nI_ltI (by omega) (by omega)] at q
  omega
theorem o_out {x : Int32} {z : RS} {K_ : Int32 → RS → Prop} (h : x < 0 ∨ z.ct ≤ x) (kk : K_ 1 (RS.w_th z 1)) : vc_M_none z x K_ := by
  have k1 : vj_M_none_13 K_ z := ⟨fun q => absurd q (by decide), fun _ => kk⟩
  refine ⟨fun _ => k1, fun q => ⟨fun q2 => ?_, fun _ => k1⟩⟩
  rcases h with h | h
  · exact absurd h q
  · exact absurd q2 (Int32.not_lt.mpr h)
theorem x_sp (x : Int32) (len : Nat) (hl : len < 2 ^ 30) : (x < 0 ∨ nI len ≤ x) ∨ ∃ i : Nat, i < len ∧ x = nI i := by
  by_cases h0 : x < 0
  · exact Or.inl (Or.inl h0)
  · obtain ⟨i, h1, rfl⟩ := nI_of h0
    by_cases h2 : i < len
    · exact Or.inr ⟨i, h2, rfl⟩
    · exact Or.inl (Or.inr (by rw [nI_leI (by omega) h1]; omega))
theorem an_out {nX : Nat} {tx : FN} {ln : Int32} {nO : Nat} {so sb se : FN} {wc : Int32} {nT : Nat} {cn : Int32} {K F Pa Sg Dp : FN} {z : RS} (h : AN nX tx ln nO so sb se wc nT cn K F Pa Sg Dp z) (x : Int32) :
    ((∀ A E : Prop, E → vc_N_demand cn x A E) ∧ (∀ K' : Int32 → RS → Prop, K' 1 (RS.w_th z 1) → vc_M_none z x K')) ∨
    ∃ (t : FN) (n W nd : Nat) (L : List pNd) (i : Nat) (b : pNd), cT nX tx n ∧ nX < 2 ^ 20 ∧ ln = nI n ∧ (∀ i, i < n → tx i = t i) ∧ W ≤ nO ∧ nO < 2 ^ 21 ∧ wc = nI W ∧ (∀ j, j < W → sb j = nI (sbN t n j) ∧ se j = nI (pseN t n j)) ∧ L[i]? = some b ∧ i < 2 ^ 24 ∧ x = nI i ∧ vp_in x nT ∧ vp_in x z.nR ∧ (K i = b.1 ∧ F i = nI b.2.1 ∧ Pa i = b.2.2.1 ∧ Sg i = b.2.2.2.1 ∧ Dp i = b.2.2.2.2) ∧ ndOk t n so W z nd i b ∧ nd ≤ z.nN ∧ z.nN < 2 ^ 24 ∧
      (∀ A E : Prop, A → vc_N_demand cn x A E) ∧ (∀ K' : Int32 → RS → Prop, K' 0 (RS.w_th z 0) → vc_M_none z x K') ∧ (∀ K_ : Int32 → Prop, K_ 1 → vc_T_holds cn x K_) := by
  rcases h with ⟨h1, h2⟩ | ⟨t, n, W, nd, L, a1, a2, a3, a4, a5, a6, a7, a8, a9, a10, a11, a12, a13, a14, a15, a16, a17, a18⟩
  · refine Or.inl ⟨fun A E ke => d_out ?_ ke, fun K' kk => o_out ?_ kk⟩
    · rw [h1]; by_cases q : x < 0
      · exact Or.inl q
      · exact Or.inr (Int32.not_lt.mp q)
    · rw [h2]; by_cases q : x < 0
      · exact Or.inl q
      · exact Or.inr (Int32.not_lt.mp q)
  · rcases x_sp x L.length (by omega) with hx | ⟨i, hi, rfl⟩
    · exact Or.inl ⟨fun A E ke => d_out (by rw [a9]; exact hx) ke, fun K' kk => o_out (by rw [a13]; exact hx) kk⟩
    · obtain ⟨b, hb⟩ : ∃ b, L[i]? = some b := ⟨_, List.getElem?_eq_getElem hi⟩
      refine Or.inr ⟨t, n, W, nd, L, i, b, a1, a2, a3, a4, a5, a6, a7, a8, hb, by omega, rfl, pu_in (by omega) (by omega), pu_in (by omega) (by omega), a12 i b hb, a18 i b hb, a16, a17, fun A E ka => by rw [a9]; exact d_in hi (by omega) ka, fun K' kk => o_in a13 hi (by omega) kk, fun K_ kk => ?_⟩
      rw [a9]
      exact w_hold (W := L.length) hi (by omega) kk
section
variable {nX : Nat} {tx : FN} {ln : Int32} {nO : Nat} {so sb se : FN} {wc : Int32} {nT : Nat} {cn : Int32} {K F Pa Sg Dp : FN} {z : RS}
theorem a_kind (h : AN nX tx ln nO so sb se wc nT cn K F Pa Sg Dp z) (x : Int32) : AA (fun K_ E_ => vc_N_kind nT cn K x K_ E_) (fun K_ => vc_M_kind z x K_) (RS.w_th z 0) (RS.w_th z 1) 0 := by
  rcases an_out h x with ⟨h1, h2⟩ | ⟨t, n, W, nd, L, i, b, a1, a2, a3, a4, a5, a6, a7, a8, a9, a10, rfl, a12, a13, ⟨a14, a15, a16, a17, a18⟩, ⟨b1, b2, b3, b4, b5, b6, b7, b8, b9, b10⟩, a20, a21, a22, a23, a24⟩
  · exact Or.inr ⟨fun _ E ke => h1 _ _ ke, fun _ kk => h2 _ ⟨fun q => absurd q (by decide), fun _ => kk⟩⟩
  · refine Or.inl ⟨b.1, fun K_ E_ kk => a22 _ _ ⟨a12, ?_⟩, fun K' kk => a23 _ ⟨fun _ => ⟨a13, ?_⟩, fun q => absurd rfl q⟩⟩
    · rw [nI_clamp (by omega), a14]; exact kk
    · show K' (z.Kd (nI i).toNatClampNeg) _
      rw [nI_clamp (by omega), b1]; exact kk
theorem a_parent (h : AN nX tx ln nO so sb se wc nT cn K F Pa Sg Dp z) (x : Int32) : AA (fun K_ E_ => vc_N_parent nT cn Pa x K_ E_) (fun K_ => vc_M_parent z x K_) (RS.w_th z 0) (RS.w_th z 1) 0 := by
  rcases an_out h x with ⟨h1, h2⟩ | ⟨t, n, W, nd, L, i, b, a1, a2, a3, a4, a5, a6, a7, a8, a9, a10, rfl, a12, a13, ⟨a14, a15, a16, a17, a18⟩, ⟨b1, b2, b3, b4, b5, b6, b7, b8, b9, b10⟩, a20, a21, a22, a23, a24⟩
  · exact Or.inr ⟨fun _ E ke => h1 _ _ ke, fun _ kk => h2 _ ⟨fun q => absurd q (by decide), fun _ => kk⟩⟩
  · refine Or.inl ⟨b.2.2.1, fun K_ E_ kk => a22 _ _ ⟨a12, ?_⟩, fun K' kk => a23 _ ⟨fun _ => ⟨a13, ?_⟩, fun q => absurd rfl q⟩⟩
    · rw [nI_clamp (by omega), a16]; exact kk
    · show K' (z.Pr (nI i).toNatClampNeg) _
      rw [nI_clamp (by omega), b3]; exact kk
theorem a_sign (h : AN nX tx ln nO so sb se wc nT cn K F Pa Sg Dp z) (x : Int32) : AA (fun K_ E_ => vc_N_sign nT cn Sg x K_ E_) (fun K_ => vc_M_sign z x K_) (RS.w_th z 0) (RS.w_th z 1) 0 := by
  rcases an_out h x with ⟨h1, h2⟩ | ⟨t, n, W, nd, L, i, b, a1, a2, a3, a4, a5, a6, a7, a8, a9, a10, rfl, a12, a13, ⟨a14, a15, a16, a17, a18⟩, ⟨b1, b2, b3, b4, b5, b6, b7, b8, b9, b10⟩, a20, a21, a22, a23, a24⟩
  · exact Or.inr ⟨fun _ E ke => h1 _ _ ke, fun _ kk => h2 _ ⟨fun q => absurd q (by decide), fun _ => kk⟩⟩
  · refine Or.inl ⟨b.2.2.2.1, fun K_ E_ kk => a22 _ _ ⟨a12, ?_⟩, fun K' kk => a23 _ ⟨fun _ => ⟨a13, ?_⟩, fun q => absurd rfl q⟩⟩
    · rw [nI_clamp (by omega), a17]; exact kk
    · show K' (z.Sg (nI i).toNatClampNeg) _
      rw [nI_clamp (by omega), b4]; exact kk
theorem a_depth (h : AN nX tx ln nO so sb se wc nT cn K F Pa Sg Dp z) (x : Int32) : AA (fun K_ E_ => vc_N_depth nT cn Dp x K_ E_) (fun K_ => vc_M_depth z x K_) (RS.w_th z 0) (RS.w_th z 1) 0 := by
  rcases an_out h x with ⟨h1, h2⟩ | ⟨t, n, W, nd, L, i, b, a1, a2, a3, a4, a5, a6, a7, a8, a9, a10, rfl, a12, a13, ⟨a14, a15, a16, a17, a18⟩, ⟨b1, b2, b3, b4, b5, b6, b7, b8, b9, b10⟩, a20, a21, a22, a23, a24⟩
  · exact Or.inr ⟨fun _ E ke => h1 _ _ ke, fun _ kk => h2 _ ⟨fun q => absurd q (by decide), fun _ => kk⟩⟩
  · refine Or.inl ⟨b.2.2.2.2, fun K_ E_ kk => a22 _ _ ⟨a12, ?_⟩, fun K' kk => a23 _ ⟨fun _ => ⟨a13, ?_⟩, fun q => absurd rfl q⟩⟩
    · rw [nI_clamp (by omega), a18]; exact kk
    · show K' (z.De (nI i).toNatClampNeg) _
      rw [nI_clamp (by omega), b5]; exact kk
theorem a_begin (h : AN nX tx ln nO so sb se wc nT cn K F Pa Sg Dp z) (x : Int32) : AA (fun K_ E_ => vc_N_begin nO sb wc nT cn F x K_ E_) (fun K_ => vc_M_begin z x K_) (RS.w_th z 0) (RS.w_th z 1) 0 := by
  rcases an_out h x with ⟨h1, h2⟩ | ⟨t, n, W, nd, L, i, b, a1, a2, a3, a4, a5, a6, rfl, a8, a9, a10, rfl, a12, a13, ⟨a14, a15, a16, a17, a18⟩, ⟨b1, b2, b3, b4, b5, b6, b7, b8, b9, b10⟩, a20, a21, a22, a23, a24⟩
  · exact Or.inr ⟨fun _ E ke => h1 _ _ ke, fun _ kk => h2 _ ⟨fun q => absurd q (by decide), fun _ => kk⟩⟩
  · have hw : b.2.1 < W := b10.1
    refine Or.inl ⟨nI (sbN t n b.2.1), fun K_ E_ kk => a22 _ _ ⟨a12, ?_⟩, fun K' kk => a23 _ ⟨fun _ => ⟨a13, ?_⟩, fun q => absurd rfl q⟩⟩
    · rw [nI_clamp (by omega), a15]
      refine w_start hw a5 (by omega) ?_
      rw [(a8 _ hw).1]; exact kk
    · show K' (z.Bg (nI i).toNatClampNeg) _
      rw [nI_clamp (by omega), b2]; exact kk
def wdI (o : Option Nat) : Int32 := match o with
  | some w => nI w
  | none => -1
theorem t_name {i : Nat} {b : pNd} {K_ : Int32 → Prop} (hh : ∀ K_ : Int32 → Prop, K_ 1 → vc_T_holds cn (nI i) K_) (hin : vp_in (nI i) nT) (hi : i < 2 ^ 24) (hK : K i = b.1) (hF : F i = nI b.2.1) (kk : K_ (wdI (nmW (acl b.1) b.2.1))) : vc_T_nameWord nT cn K F (nI i) K_ := by
  unfold vc_T_nameWord
  rw [nI_clamp (by omega), hK, hF, nI_1]
  refine hh _ ⟨fun _ => ⟨hin, fun a => ⟨hin, ?_⟩, fun a => ⟨fun c => ⟨hin, ?_⟩, fun c => ⟨fun d => ⟨hin, ?_⟩, fun d => ⟨fun e => ⟨hin, ?_⟩, fun e => ?_⟩⟩⟩⟩, fun q => absurd q (by decide)⟩
  · rw [a] at kk; exact kk
  · rw [c] at kk; exact kk
  · rw [d] at kk; exact kk
  · rw [e] at kk; exact kk
  · have : nmW (acl b.1) b.2.1 = none := by
      unfold acl
      rw [if_neg (fun q => q.elim d e), if_neg c, if_neg a]
      split
      · rfl
      · split <;> rfl
    rw [this] at kk
    exact kk
theorem t_numb {i : Nat} {b : pNd} {K_ : Int32 → Prop} (hh : ∀ K_ : Int32 → Prop, K_ 1 → vc_T_holds cn (nI i) K_) (hin : vp_in (nI i) nT) (hi : i < 2 ^ 24) (hK : K i = b.1) (hF : F i = nI b.2.1) (kk : K_ (wdI (nuW (acl b.1) b.2.1))) : vc_T_numberWord nT cn K F (nI i) K_ := by
  unfold vc_T_numberWord
  rw [nI_clamp (by omega), hK, hF, show (2 : Int32) = nI 2 from rfl, nI_add]
  refine hh _ ⟨fun _ => ⟨hin, fun a => ⟨hin, ?_⟩, fun a => ⟨fun c => ⟨hin, ?_⟩, fun c => ?_⟩⟩, fun q => absurd q (by decide)⟩
  · rw [a] at kk; exact kk
  · rw [c] at kk; exact kk
  · have : nuW (acl b.1) b.2.1 = none := by
      unfold acl
      split
      · rfl
      · split
        · rfl
        · split <;> rfl
    rw [this] at kk
    exact kk
theorem nm_lt {W fw ac w : Nat} (h : wOk W fw ac) (hw : nmW ac fw = some w) : w < W := by
  unfold nmW at hw
  split at hw
  · simp at hw; subst hw; exact h.1
  · split at hw
    · rename_i q; simp at hw; subst hw; exact h.2.2 q
    · simp at hw
theorem nu_lt {W fw ac w : Nat} (h : wOk W fw ac) (hw : nuW ac fw = some w) : w < W := by
  unfold nuW at hw
  split at hw
  · simp at hw; subst hw; exact h.1
  · split at hw
    · rename_i q; simp at hw; subst hw; exact h.2.1 q
    · simp at hw
theorem w_len {t : FN} {n W w : Nat} {K_ : Int32 → Prop} (hw : w < W) (hO : W ≤ nO) (hO2 : nO < 2 ^ 30) (hn : n < 2 ^ 30) (h8 : sb w = nI (sbN t n w) ∧ se w = nI (pseN t n w)) (kk : K_ (nI (wLen t n w))) : vc_W_lengthOf nO sb se (nI W) (nI w) K_ := by
  refine w_hold hw (by omega) ⟨fun q => absurd q (by decide), fun _ => ⟨pu_in (by omega) (by omega), pu_in (by omega) (by omega), ?_⟩⟩
  have hb := psb_b t n w
  rw [nI_clamp (by omega), h8.1, h8.2, pk_sub hb.1]
  exact kk
theorem a_nameLength (h : AN nX tx ln nO so sb se wc nT cn K F Pa Sg Dp z) (x : Int32) : AA (fun K_ E_ => vc_N_nameLength nO sb se wc nT cn K F x K_ E_) (fun K_ => vc_M_nameLength z x K_) (RS.w_th z 0) (RS.w_th z 1) 0 := by
  rcases an_out h x with ⟨h1, h2⟩ | ⟨t, n, W, nd, L, i, b, a1, a2, a3, a4, a5, a6, rfl, a8, a9, a10, rfl, a12, a13, ⟨a14, a15, a16, a17, a18⟩, ⟨b1, b2, b3, b4, b5, b6, b7, b8, b9, b10⟩, a20, a21, a22, a23, a24⟩
  · exact Or.inr ⟨fun _ E ke => h1 _ _ ke, fun _ kk => h2 _ ⟨fun q => absurd q (by decide), fun _ => kk⟩⟩
  · have hn : n < 2 ^ 30 := by have := a1.1; omega
    refine Or.inl ⟨nlA t n (acl b.1) b.2.1, fun K_ E_ kk => a22 _ _ (t_name a24 a12 a10 a14 a15 ?_), fun K' kk => a23 _ ⟨fun _ => ⟨a13, ?_⟩, fun q => absurd rfl q⟩⟩
    · unfold nlA at kk
      cases hw : nmW (acl b.1) b.2.1 with
      | none =>
        rw [hw] at kk
        exact ⟨fun _ => ⟨fun _ => kk, fun q => absurd rfl q⟩, fun q => absurd (by decide) q⟩
      | some w =>
        rw [hw] at kk
        have hwW := nm_lt b10 hw
        exact w_len hwW a5 (by omega) hn (a8 w hwW) kk
    · show K' (z.Nl (nI i).toNatClampNeg) _
      rw [nI_clamp (by omega), b6]; exact kk
end
