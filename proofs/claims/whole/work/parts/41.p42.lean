def fxS (x1 x2 x3 x4 x5 : Int32) (k : Nat) : Int32 := if 4 ≤ k then (if 8 ≤ k then (if 12 ≤ k then (if 16 ≤ k then x5 else x4) else x3) else x2) else x1
def shK (k : Nat) : Int32 := (24 - (8 * (nI k - nI k / 4 * 4))) &&& 31
def btF (x1 x2 x3 x4 x5 : Int32) (k : Nat) : Int32 := vp_nar .byte ((fxS x1 x2 x3 x4 x5 k >>> shK k).toInt8.toInt32)
def wrF (t : FN) (n : Nat) (x1 x2 x3 x4 x5 : Int32) : Nat → FN
  | 0 => t
  | k + 1 => upd (wrF t n x1 x2 x3 x4 x5 k) (n + k) (btF x1 x2 x3 x4 x5 k)
theorem shK_v : shK 0 = 24 &&& 31 ∧ shK 1 = (24 + -8) &&& 31 ∧ shK 2 = (24 + -8 + -8) &&& 31 ∧ shK 3 = (24 + -8 + -8 + -8) &&& 31 ∧ (∀ k, k < 20 → shK k = shK (k % 4)) := by decide +kernel
theorem bt_b (x1 x2 x3 x4 x5 : Int32) (k : Nat) : -128 ≤ btF x1 x2 x3 x4 x5 k ∧ btF x1 x2 x3 x4 x5 k ≤ 127 := by
  have h : ∀ y : Int8, -128 ≤ y.toInt32 ∧ y.toInt32 ≤ 127 := fun y => by
    have h1 := Int8.le_toInt y
    have h2 := Int8.toInt_lt y
    rw [Int32.le_iff_toInt_le, Int32.le_iff_toInt_le, Int8.toInt_toInt32]
    have e1 : (-128 : Int32).toInt = -128 := by decide
    have e2 : (127 : Int32).toInt = 127 := by decide
    omega
  unfold btF
  rw [vp_nar_byte]
  exact h _
theorem wr_b {t : FN} (ht : ∀ k, -128 ≤ t k ∧ t k ≤ 127) (n : Nat) (x1 x2 x3 x4 x5 : Int32) : ∀ k i, -128 ≤ wrF t n x1 x2 x3 x4 x5 k i ∧ wrF t n x1 x2 x3 x4 x5 k i ≤ 127
  | 0, i => ht i
  | k + 1, i => by
    by_cases h : i = n + k
    · subst h
      show -128 ≤ upd _ _ _ _ ∧ upd _ _ _ _ ≤ 127
      rw [upd_eq]; exact bt_b ..
    · show -128 ≤ upd _ _ _ _ ∧ upd _ _ _ _ ≤ 127
      rw [upd_ne h]; exact wr_b ht n x1 x2 x3 x4 x5 k i
theorem wr_0 {t : FN} {m : Nat} (ht : ∀ k, m ≤ k → t k = 0) {n : Nat} {x1 x2 x3 x4 x5 : Int32} : ∀ k, n + k ≤ m → ∀ i, m ≤ i → wrF t n x1 x2 x3 x4 x5 k i = 0
  | 0, _, i, hi => ht i hi
  | k + 1, hk, i, hi => by
    show upd _ _ _ _ = 0
    rw [upd_ne (by omega)]; exact wr_0 ht k (by omega) i hi
theorem apd4 {nA : Nat} {x : Int32} {K_ : Int32 → FN → Prop} {t : FN} {n : Nat} {x1 x2 x3 x4 x5 : Int32} (q : Nat) (hq : q < 5) (hx : ∀ i, i < 4 → fxS x1 x2 x3 x4 x5 (4 * q + i) = x) (hA : n + 20 ≤ nA) (hA2 : nA < 2 ^ 24) (kk : K_ (nI (n + (4 * q + 4))) (wrF t n x1 x2 x3 x4 x5 (4 * q + 4))) : vc_N_append nA (wrF t n x1 x2 x3 x4 x5 (4 * q)) (nI (n + 4 * q)) x K_ := by
  have st : ∀ (f i : Nat) (s : Int32), i < 4 → ¬ s < 0 → s &&& 31 = shK i → (∀ s2, s2 = s + -8 → vl_N_append_3 nA (wrF t n x1 x2 x3 x4 x5 (4 * q)) (nI (n + 4 * q)) x K_ f s2 (nI (n + (4 * q + (i + 1)))) (wrF t n x1 x2 x3 x4 x5 (4 * q + (i + 1)))) → vl_N_append_3 nA (wrF t n x1 x2 x3 x4 x5 (4 * q)) (nI (n + 4 * q)) x K_ (f + 1) s (nI (n + (4 * q + i))) (wrF t n x1 x2 x3 x4 x5 (4 * q + i)) := by
    intro f i s hi hs e h
    refine ⟨fun q => absurd q hs, fun _ => ⟨fun w => ?_, fun _ => ⟨pu_in (by omega) (by omega), ?_⟩⟩⟩
    · rw [nI_leI (by omega) (by omega)] at w; omega
    · rw [nI_clamp (by omega), nI_1, e]
      have h2 := h _ rfl
      have eb : btF x1 x2 x3 x4 x5 (4 * q + i) = vp_nar .byte ((x >>> shK i).toInt8.toInt32) := by
        unfold btF
        rw [hx i hi, shK_v.2.2.2.2 (4 * q + i) (by omega), show (4 * q + i) % 4 = i from by omega]
      rw [← eb]
      exact h2
  refine ⟨5, st 4 0 24 (by omega) (by decide) shK_v.1.symm (fun s2 e2 => ?_)⟩
  subst e2
  refine st 3 1 _ (by omega) (by decide) shK_v.2.1.symm (fun s2 e2 => ?_)
  subst e2
  refine st 2 2 _ (by omega) (by decide) shK_v.2.2.1.symm (fun s2 e2 => ?_)
  subst e2
  refine st 1 3 _ (by omega) (by decide) shK_v.2.2.2.1.symm (fun s2 e2 => ?_)
  subst e2
  exact ⟨fun _ => kk, fun q => absurd (by decide) q⟩
theorem fx_q {x1 x2 x3 x4 x5 : Int32} : (∀ i, i < 4 → fxS x1 x2 x3 x4 x5 (4 * 0 + i) = x1) ∧ (∀ i, i < 4 → fxS x1 x2 x3 x4 x5 (4 * 1 + i) = x2) ∧ (∀ i, i < 4 → fxS x1 x2 x3 x4 x5 (4 * 2 + i) = x3) ∧ (∀ i, i < 4 → fxS x1 x2 x3 x4 x5 (4 * 3 + i) = x4) ∧ (∀ i, i < 4 → fxS x1 x2 x3 x4 x5 (4 * 4 + i) = x5) := by
  refine ⟨fun i hi => ?_, fun i hi => ?_, fun i hi => ?_, fun i hi => ?_, fun i hi => ?_⟩ <;> unfold fxS
  · rw [if_neg (by omega)]
  · rw [if_pos (by omega), if_neg (by omega)]
  · rw [if_pos (by omega), if_pos (by omega), if_neg (by omega)]
  · rw [if_pos (by omega), if_pos (by omega), if_pos (by omega), if_neg (by omega)]
  · rw [if_pos (by omega), if_pos (by omega), if_pos (by omega), if_pos (by omega)]
def fdN (n nA : Nat) : Nat := if n + 20 ≤ nA then nA else 2 * nA
def fdC (n nA : Nat) : Nat := if n + 20 ≤ nA then 0 else 1
def fdS (n nA : Nat) : Nat := if n + 20 ≤ nA then 0 else 2 * nA
theorem k_copyE {m : Nat} {f : FN} {c s : Nat} {x : Int32} {K_ : Nat → FN → Prop} (hm : 1 ≤ m) (hm2 : m < 2 ^ 24) (hf : ∀ k, -128 ≤ f k ∧ f k ≤ 127) (h0 : ∀ k, m ≤ k → f k = 0) (hx : x = nI (2 * m)) (hc : 1 ≤ c) (hs : 2 * m ≤ s) (kk : ∀ q, K_ q f) : vc_JA_copyB c s m f x K_ := by
  subst hx
  unfold vc_JA_copyB
  have e : va_cpy f (fun _ => 0) 0 0 m = f := by
    funext k
    unfold va_cpy
    by_cases h : k < m
    · rw [if_pos (by omega)]; congr 1; omega
    · rw [if_neg (by omega), h0 k (by omega)]
  rw [nI_eq (by omega) (by omega), if_neg (show ¬ nI (2 * m) < nI m from fun q => by rw [nI_ltI (by omega) (by omega)] at q; omega), nI_clamp (by omega), nI_clamp (by omega)]
  refine ⟨fun _ => ⟨nI_pos (by omega), by omega, by omega, by omega, fun q => ⟨by decide, by decide, nI_pos (by omega), ?_, ?_, fun i hi => fits_b (hf _).1 (hf _).2, ?_⟩⟩, fun q => by omega⟩
  · show 0 + m ≤ m; omega
  · show 0 + m ≤ 2 * m; omega
  · show K_ q (va_cpy f (fun _ => 0) 0 0 m)
    rw [e]; exact kk q
theorem n_feed {mc ms nA : Nat} {t : FN} {n aT : Nat} {x1 x2 x3 x4 x5 : Int32} {K_ : Int32 → Nat → Nat → FN → Int32 → Prop} {E_ : Nat → Nat → FN → Int32 → Prop} (hn : n + 20 ≤ 65536) (hA : n ≤ nA) (hA1 : 20 ≤ nA) (hA2 : nA < 2 ^ 20) (ht : ∀ k, -128 ≤ t k ∧ t k ≤ 127) (h0 : ∀ k, nA ≤ k → t k = 0) (hc : fdC n nA ≤ mc) (hs : fdS n nA ≤ ms)
    (kk : ∀ aT', K_ (nI (n + 20)) aT' (fdN n nA) (wrF t n x1 x2 x3 x4 x5 20) (nI (n + 20))) : vc_N_feed mc ms nA t (nI n) aT x1 x2 x3 x4 x5 K_ E_ := by
  unfold fdC at hc
  unfold fdS at hs
  have ap : ∀ (m : Nat) (X : Int32 → FN → Prop), n + 20 ≤ m → m < 2 ^ 24 → X (nI (n + 20)) (wrF t n x1 x2 x3 x4 x5 20) → vc_N_append m t (nI n) x1 (fun a b => vc_N_append m b a x2 (fun a b => vc_N_append m b a x3 (fun a b => vc_N_append m b a x4 (fun a b => vc_N_append m b a x5 X)))) := by
    intro m X h1 h2 hX
    exact apd4 (K_ := fun a b => vc_N_append m b a x2 (fun a b => vc_N_append m b a x3 (fun a b => vc_N_append m b a x4 (fun a b => vc_N_append m b a x5 X)))) 0 (by omega) fx_q.1 h1 h2 (apd4 (K_ := fun a b => vc_N_append m b a x3 (fun a b => vc_N_append m b a x4 (fun a b => vc_N_append m b a x5 X))) 1 (by omega) fx_q.2.1 h1 h2 (apd4 (K_ := fun a b => vc_N_append m b a x4 (fun a b => vc_N_append m b a x5 X)) 2 (by omega) fx_q.2.2.1 h1 h2 (apd4 (K_ := fun a b => vc_N_append m b a x5 X) 3 (by omega) fx_q.2.2.2.1 h1 h2 (apd4 (K_ := X) 4 (by omega) fx_q.2.2.2.2 h1 h2 hX))))
  unfold vc_N_feed
  rw [show (65516 : Int32) = nI 65516 from rfl, nI_leI (by omega) (by omega), show (20 : Int32) = nI 20 from rfl, nI_add, nI_leI (by omega) (by omega)]
  refine ⟨fun _ => ⟨fun h => ?_, fun h => ?_⟩, fun q => by omega⟩
  · have e : fdN n nA = nA := by unfold fdN; rw [if_pos h]
    rw [e] at kk
    exact ap nA _ h (by omega) (kk _)
  · rw [if_neg h] at hc hs
    have e : fdN n nA = 2 * nA := by unfold fdN; rw [if_neg h]
    have e2 : (2 : Int32) * nI nA = nI (2 * nA) := (Int32.ofNat_mul 2 nA).symm
    rw [e] at kk
    refine ⟨1, 2 * nA, by omega, by omega, ?_⟩
    rw [e2, nI_clamp (by omega)]
    exact k_copyE (by omega) (by omega) ht h0 rfl (Nat.le_refl _) (Nat.le_refl _) (fun a => ap (2 * nA) _ (by omega) (by omega) (kk _))
def sameA (z z' : RS) : Prop := z'.Kd = z.Kd ∧ z'.Bg = z.Bg ∧ z'.Pr = z.Pr ∧ z'.Sg = z.Sg ∧ z'.De = z.De ∧ z'.Nl = z.Nl ∧ z'.Dg = z.Dg ∧ z'.Bh = z.Bh ∧ z'.Nf = z.Nf ∧ z'.nm = z.nm ∧ z'.ct = z.ct ∧ z'.nR = z.nR ∧ z'.nN = z.nN ∧ z'.pl = z.pl
theorem sameA_r (z : RS) : sameA z z := ⟨rfl, rfl, rfl, rfl, rfl, rfl, rfl, rfl, rfl, rfl, rfl, rfl, rfl, rfl⟩
theorem AN_cg {nX : Nat} {tx : FN} {ln : Int32} {nO : Nat} {so sb se : FN} {wc : Int32} {nT : Nat} {cn : Int32} {K F Pa Sg Dp : FN} {z z' : RS} (h : AN nX tx ln nO so sb se wc nT cn K F Pa Sg Dp z) (s : sameA z z') : AN nX tx ln nO so sb se wc nT cn K F Pa Sg Dp z' := by
  obtain ⟨s1, s2, s3, s4, s5, s6, s7, s8, s9, s10, s11, s12, s13, s14⟩ := s
  rcases h with ⟨h1, h2⟩ | ⟨t, n, W, nd, L, a1, a2, a3, a4, a5, a6, a7, a8, a9, a10, a11, a12, a13, a14, a15, a16, a17, a18⟩
  · exact Or.inl ⟨h1, s11.trans h2⟩
  · exact Or.inr ⟨t, n, W, nd, L, a1, a2, a3, a4, a5, a6, a7, a8, a9, a10, a11, a12, s11.trans a13, by rw [s12]; exact a14, by rw [s12]; exact a15, by rw [s13]; exact a16, by rw [s13]; exact a17, fun i b hb => ndOk_cg (a18 i b hb) (congrFun s1 i) (congrFun s2 i) (congrFun s3 i) (congrFun s4 i) (congrFun s5 i) (congrFun s6 i) (congrFun s7 i) (congrFun s8 i) (congrFun s9 i) s10⟩
theorem fd_loop {mc ms : Nat} {x1 x2 x3 x4 x5 : Int32} {K_ : Int32 → RS → Prop} {t : FN} {n m : Nat} {z0 : RS} (hm : n + 20 ≤ m) (hm2 : m < 2 ^ 24) (kk : ∀ z', z'.tp = wrF t n x1 x2 x3 x4 x5 20 → z'.fd = nI (n + 20) → z'.nT = m → z'.th = 0 → sameA z0 z' → K_ (nI (n + 20)) z') :
    ∀ f k z c s, f + k = 20 → z.tp = wrF t n x1 x2 x3 x4 x5 k → z.fd = nI n → z.nT = m → z.th = 0 → sameA z0 z → vl_M_feed_66 mc ms K_ (f + 1) x1 x2 x3 x4 x5 (nI k) z c s := by
  intro f
  induction f with
  | zero =>
    intro k z c s hk e1 e2 e3 e4 e5
    have : k = 20 := by omega
    subst this
    refine ⟨fun _ => ?_, fun q => absurd (by decide) q⟩
    rw [e2, show (20 : Int32) = nI 20 from rfl, nI_add]
    exact kk _ e1 rfl e3 e4 e5
  | succ f ih =>
    intro k z c s hk e1 e2 e3 e4 e5
    have go : ∀ y, y = fxS x1 x2 x3 x4 x5 k → vj_M_feed_119 mc ms (vl_M_feed_66 mc ms K_ (f + 1)) K_ x1 x2 x3 x4 x5 (nI k) y z c s := by
      intro y hy
      unfold vj_M_feed_119
      rw [e2, e3, nI_add, nI_clamp (by omega), nI_1]
      refine ⟨pu_in (by omega) (by omega), ih (k + 1) _ c s (by omega) ?_ e2 e3 e4 e5⟩
      show upd z.tp (n + k) _ = upd (wrF t n x1 x2 x3 x4 x5 k) (n + k) (btF x1 x2 x3 x4 x5 k)
      rw [e1, hy]; rfl
    have le : ∀ a : Nat, a < 2 ^ 31 → (nI a ≤ nI k ↔ a ≤ k) := fun a ha => nI_leI ha (by omega)
    unfold fxS at go
    refine ⟨fun q => ?_, fun _ => ⟨fun q4 => ⟨fun q8 => ⟨fun q12 => ⟨fun q16 => go _ ?_, fun q16 => go _ ?_⟩, fun q12 => go _ ?_⟩, fun q8 => go _ ?_⟩, fun q4 => go _ ?_⟩⟩
    · have := (le 20 (by omega)).mp q; omega
    · rw [if_pos ((le 4 (by omega)).mp q4), if_pos ((le 8 (by omega)).mp q8), if_pos ((le 12 (by omega)).mp q12), if_pos ((le 16 (by omega)).mp q16)]
    · rw [if_pos ((le 4 (by omega)).mp q4), if_pos ((le 8 (by omega)).mp q8), if_pos ((le 12 (by omega)).mp q12), if_neg (fun q => q16 ((le 16 (by omega)).mpr q))]
    · rw [if_pos ((le 4 (by omega)).mp q4), if_pos ((le 8 (by omega)).mp q8), if_neg (fun q => q12 ((le 12 (by omega)).mpr q))]
    · rw [if_pos ((le 4 (by omega)).mp q4), if_neg (fun q => q8 ((le 8 (by omega)).mpr q))]
    · rw [if_neg (fun q => q4 ((le 4 (by omega)).mpr q))]
theorem m_feed {mc ms : Nat} {x1 x2 x3 x4 x5 : Int32} {K_ : Int32 → RS → Prop} {t : FN} {n nTp : Nat} {z : RS} (hn : n + 20 ≤ 65536) (hA : n ≤ nTp) (hA1 : 20 ≤ nTp) (hA2 : nTp < 2 ^ 20) (ht : ∀ k, -128 ≤ t k ∧ t k ≤ 127) (h0 : ∀ k, nTp ≤ k → t k = 0) (e1 : z.tp = t) (e2 : z.fd = nI n) (e3 : z.nT = nTp) (hc : fdC n nTp ≤ mc) (hs : fdS n nTp ≤ ms)
    (kk : ∀ z', z'.tp = wrF t n x1 x2 x3 x4 x5 20 → z'.fd = nI (n + 20) → z'.nT = fdN n nTp → z'.th = 0 → sameA z z' → K_ (nI (n + 20)) z') : vc_M_feed mc ms z x1 x2 x3 x4 x5 K_ := by
  unfold fdC at hc
  unfold fdS at hs
  have go : vj_M_feed_18 mc ms K_ x1 x2 x3 x4 x5 0 z 0 0 := by
    refine ⟨fun _ => ?_, fun q => absurd (Int32.le_refl _) q⟩
    rw [e2, e3, show (20 : Int32) = nI 20 from rfl, nI_add, nI_leI (by omega) (by omega)]
    refine ⟨fun h => ⟨21, ?_⟩, fun h => ?_⟩
    · have e : fdN n nTp = nTp := by unfold fdN; rw [if_pos h]
      rw [e] at kk
      exact fd_loop (z0 := z) h (by omega) kk 20 0 _ _ _ rfl e1 e2 e3 rfl (sameA_r z)
    · rw [if_neg h] at hc hs
      have e : fdN n nTp = 2 * nTp := by unfold fdN; rw [if_neg h]
      have e4 : (2 : Int32) * nI nTp = nI (2 * nTp) := (Int32.ofNat_mul 2 nTp).symm
      rw [e] at kk
      refine ⟨1, 2 * nTp, by omega, by omega, ?_⟩
      rw [e4, nI_clamp (by omega), e1]
      exact k_copyE (by omega) (by omega) ht h0 rfl (Nat.le_refl _) (Nat.le_refl _) (fun a => ⟨21, fd_loop (z0 := z) (by omega) (by omega) kk 20 0 _ _ _ rfl rfl e2 rfl rfl (sameA_r z)⟩)
  unfold vc_M_feed
  rw [e2, show (20 : Int32) = nI 20 from rfl, nI_add, show (65536 : Int32) = nI 65536 from rfl, nI_leI (by omega) (by omega)]
  exact ⟨fun _ => go, fun q => absurd hn q⟩
