abbrev pRw : Type := Int32 × Nat × Int32 × Int32 × Int32 × Nat × Nat
def wLen (t : FN) (n w : Nat) : Nat := pseN t n w - sbN t n w
def nmW (ac fw : Nat) : Option Nat := if ac = 1 ∨ ac = 2 then some fw else if ac = 3 then some (fw + 1) else none
def nuW (ac fw : Nat) : Option Nat := if ac = 4 then some fw else if ac = 2 then some (fw + 2) else none
def valL (t : FN) (n : Nat) : Nat → Nat → Int64 → Int64
  | 0, _, v => v
  | f + 1, i, v => valL t n f (i + 1) (if isDg (bch t n i) then v * 10 + (bch t n i - 48).toInt64 else v)
def valW (t : FN) (n w : Nat) : Int64 := valL t n (wLen t n w) (sbN t n w) 0
def behW (t : FN) (n w : Nat) : Nat := pseN t n w - aDg t n (sbN t n w) - 1
def nlA (t : FN) (n ac fw : Nat) : Int32 := match nmW ac fw with
  | some w => nI (wLen t n w)
  | none => -1
def dgA (t : FN) (n ac fw : Nat) : Int64 := match nuW ac fw with
  | some w => valW t n w
  | none => -1
def bhA (t : FN) (n : Nat) (so : FN) (ac fw : Nat) : Int32 := if ac = 5 then (if so fw = 45 then 1 else 0) else match nuW ac fw with
  | some w => nI (behW t n w)
  | none => -1
def nmOk (t : FN) (n : Nat) (Nf nm : FN) (nd i ac fw : Nat) : Prop := ∀ w, nmW ac fw = some w → ∃ f : Nat, Nf i = nI f ∧ f + wLen t n w ≤ nd ∧ (∀ k, k < wLen t n w → nm (f + k) = bch t n (sbN t n w + k)) ∧ isLt (bch t n (sbN t n w))
def rowOk (t : FN) (n : Nat) (so : FN) (zs : RS) (nd i : Nat) (a : pRw) : Prop :=
  zs.Kd i = a.1 ∧ zs.Bg i = nI (sbN t n a.2.1) ∧ zs.Pr i = a.2.2.1 ∧ zs.Sg i = a.2.2.2.1 ∧ zs.De i = a.2.2.2.2.1 ∧ zs.Pc i = nI a.2.2.2.2.2.1 ∧ (a.2.2.2.2.2.1 ≠ 0 → zs.Fi i = nI (i + 1)) ∧
  zs.Nl i = nlA t n a.2.2.2.2.2.2 a.2.1 ∧ zs.Dg i = dgA t n a.2.2.2.2.2.2 a.2.1 ∧ zs.Bh i = bhA t n so a.2.2.2.2.2.2 a.2.1 ∧ nmOk t n zs.Nf zs.nm nd i a.2.2.2.2.2.2 a.2.1
def RC (t : FN) (n nTp nR nN : Nat) (zs : RS) : Prop := zs.tp = t ∧ zs.nT = nTp ∧ zs.fd = nI n ∧ zs.nR = nR ∧ zs.nN = nN ∧ zs.th = 0 ∧ (∀ k, -128 ≤ zs.nm k ∧ zs.nm k ≤ 127) ∧ 64 ≤ nR ∧ nR < 2 ^ 24 ∧ 256 ≤ nN ∧ nN < 2 ^ 24
def RX (t : FN) (n nTp : Nat) (so : FN) (Q : List pRw) (nR nN nd d : Nat) (zs : RS) : Prop :=
  RC t n nTp nR nN zs ∧ zs.op = nI d ∧ zs.ct = nI Q.length ∧ Q.length ≤ nR ∧ zs.nd = nI nd ∧ nd ≤ nN ∧ zs.fa = 0 ∧ zs.pl = -1 ∧ ∀ i a, Q[i]? = some a → rowOk t n so zs nd i a
def pRL (t : FN) (n : Nat) (so : FN) (j : Nat) (zs : RS) : Prop := zs.fr = nI (sbN t n j) ∧ zs.at_ = nI (pseN t n j) ∧ tkOk (bch t n (sbN t n j)) (so j) zs.kd zs.ky
def RP (t : FN) (n nTp : Nat) (so : FN) (Q : List pRw) (nR nN nd d j : Nat) (zs : RS) : Prop := RX t n nTp so Q nR nN nd d zs ∧ pRL t n so j zs ∧ nd ≤ sbN t n j
def RF (t : FN) (n nTp : Nat) (so : FN) (nR nN j : Nat) (zs : RS) : Prop := RC t n nTp nR nN zs ∧ zs.fa = (if so j = 2 then 1 else 2) ∧ zs.pl = nI (sbN t n j)
def rW (t : FN) (n nTp : Nat) (so : FN) (W : Nat) : Prop := cT nTp t n ∧ n < 2 ^ 20 ∧ 1 ≤ W ∧ W ≤ n + 1 ∧ (so (W - 1) = 1 ∨ so (W - 1) = 2) ∧ ∀ j, j < W → TK t n (sbN t n j) (pseN t n j) (so j) ∧ (j + 1 < W → so j ≠ 1 ∧ so j ≠ 2)
theorem psb_b (t : FN) (n j : Nat) : sbN t n j ≤ pseN t n j ∧ pseN t n j ≤ n ∧ frm t n j ≤ sbN t n j := by
  have h1 := aBl_b (t := t) (frm_b t n j)
  have h2 := aWd_b (t := t) h1.2
  exact ⟨h2.1, h2.2.1, h1.1⟩
theorem sb_n (t : FN) (n j : Nat) : pseN t n j ≤ sbN t n (j + 1) := (psb_b t n (j + 1)).2.2
theorem q_next {t : FN} {n nTp : Nat} {so : FN} {W j : Nat} {zs : RS} {K_ : RS → Prop} (hW : rW t n nTp so W) (h1 : zs.tp = t) (h2 : zs.nT = nTp) (h3 : zs.fd = nI n) (h4 : zs.at_ = nI (pseN t n j)) (hj : j + 1 < W)
    (kk : ∀ kd ky, tkOk (bch t n (sbN t n (j + 1))) (so (j + 1)) kd ky → K_ (lexS zs (nI (pseN t n (j + 1))) (nI (sbN t n (j + 1))) kd ky)) : vc_M_next zs K_ := by
  subst h1
  subst h2
  exact r_next (zs := zs) (n := n) (a := pseN zs.tp n j) ⟨h3, hW.1⟩ (psb_b _ n j).2.1 h4 (hW.2.2.2.2.2 (j + 1) hj).1 kk
theorem tk_go {t : FN} {n nTp : Nat} {so : FN} {W j : Nat} {x : Int32} (hW : rW t n nTp so W) (hj : j < W) (h : so j = x) (h1 : x ≠ 1) (h2 : x ≠ 2) : j + 1 < W := by
  obtain ⟨_, _, w1, w2, w3, _⟩ := hW
  by_cases hq : j = W - 1
  · rw [hq] at h
    rcases w3 with w3 | w3
    · exact absurd (h.symm.trans w3) h1
    · exact absurd (h.symm.trans w3) h2
  · omega
theorem q_nextP {t : FN} {n nTp : Nat} {so : FN} {W j : Nat} {Q : List pRw} {nR nN nd d : Nat} {zs : RS} {K_ : RS → Prop} (hW : rW t n nTp so W) (h : RP t n nTp so Q nR nN nd d j zs) (hj : j + 1 < W)
    (kk : ∀ zs', RP t n nTp so Q nR nN nd d (j + 1) zs' → K_ zs') : vc_M_next zs K_ := by
  obtain ⟨hX, hL, hn⟩ := h
  refine q_next hW hX.1.1 hX.1.2.1 hX.1.2.2.1 hL.2.1 hj (fun kd ky htk => kk _ ⟨hX, ⟨rfl, rfl, htk⟩, ?_⟩)
  have := psb_b t n j
  have := sb_n t n j
  omega
abbrev sgnC : List Int32 := bytS.getD 17 []
theorem sg_r : ∀ x, x ∈ sgnC → x ≠ 0 ∧ x ≠ 1 ∧ x ≠ 2 ∧ x ≠ 3 ∧ x ≠ 4 ∧ ∀ k, k < 17 → x ≠ nI (256 + k) := by decide +kernel
theorem q_is {t : FN} {n nTp : Nat} {so : FN} {W j : Nat} {zs : RS} {x : Int32} {K_ : Int32 → Prop} (hW : rW t n nTp so W) (hj : j < W) (h1 : zs.tp = t) (h2 : zs.nT = nTp) (hL : pRL t n so j zs) (hx : x ∈ sgnC) (k1 : so j = x → K_ 1) (k0 : so j ≠ x → K_ 0) : vc_M_is zs x K_ := by
  subst h1
  subst h2
  obtain ⟨e1, e2, htk⟩ := hL
  obtain ⟨⟨b1, b2, b3⟩, b4, _⟩ := hW
  have hs := psb_b zs.tp n j
  have X := sg_r x hx
  unfold vc_M_is
  rw [e1, nI_clamp (by omega)]
  refine ⟨fun hk => k0 (fun e => ?_), fun hk => ?_⟩
  · rcases htk with q | q | q | q | q | ⟨_, k, hk17, _, q⟩
    · exact X.2.1 (e.symm.trans q.2)
    · exact X.2.2.2.1 (e.symm.trans q.2)
    · exact X.2.2.2.2.1 (e.symm.trans q.2)
    · exact hk q.1
    · exact X.2.2.1 (e.symm.trans q.2)
    · exact X.2.2.2.2.2 k hk17 (e.symm.trans q)
  · rcases htk with q | q | q | q | q | q
    · rw [q.1] at hk; exact absurd hk (by decide)
    · rw [q.1] at hk; exact absurd hk (by decide)
    · rw [q.1] at hk; exact absurd hk (by decide)
    · have hlt : sbN zs.tp n j < n := by
        by_cases w : sbN zs.tp n j < n
        · exact w
        · have eb : bch zs.tp n (sbN zs.tp n j) = 0 := by unfold bch; rw [if_neg w]
          rw [eb] at q
          exact absurd rfl (sg_r 0 q.2.2).1
      have eb : bch zs.tp n (sbN zs.tp n j) = zs.tp (sbN zs.tp n j) := by unfold bch; rw [if_pos hlt]
      rw [eb] at q
      refine ⟨pu_in (by omega) (by omega), fun w => k0 (fun e => w (q.2.1.symm.trans e)), fun w => k1 (q.2.1.trans w)⟩
    · rw [q.1] at hk; exact absurd hk (by decide)
    · rw [q.1] at hk; exact absurd hk (by decide)
theorem key_r : ∀ k, k < 17 → nI (256 + k) ≠ 1 ∧ nI (256 + k) ≠ 2 ∧ nI (256 + k) ≠ 3 ∧ nI (256 + k) ≠ 4 := by decide +kernel
theorem q_isKey {t : FN} {n : Nat} {so : FN} {j k : Nat} {zs : RS} {K_ : Int32 → Prop} (hL : pRL t n so j zs) (hk : k < 17) (k1 : so j = nI (256 + k) → K_ 1) (k0 : so j ≠ nI (256 + k) → K_ 0) : vc_M_isKey zs (nI k) K_ := by
  obtain ⟨e1, e2, htk⟩ := hL
  have X := key_r k hk
  unfold vc_M_isKey
  refine ⟨fun hkd => k0 (fun e => ?_), fun hkd => ?_⟩
  · rcases htk with q | q | q | q | q | q
    · exact X.1 (e.symm.trans q.2)
    · exact X.2.2.1 (e.symm.trans q.2)
    · exact X.2.2.2 (e.symm.trans q.2)
    · exact (sg_r _ q.2.2).2.2.2.2.2 k hk (q.2.1.symm.trans e)
    · exact X.2.1 (e.symm.trans q.2)
    · exact hkd q.1
  · rcases htk with q | q | q | q | q | ⟨_, k', hk', q1, q2⟩
    · rw [q.1] at hkd; exact absurd hkd (by decide)
    · rw [q.1] at hkd; exact absurd hkd (by decide)
    · rw [q.1] at hkd; exact absurd hkd (by decide)
    · rw [q.1] at hkd; exact absurd hkd (by decide)
    · rw [q.1] at hkd; exact absurd hkd (by decide)
    · rw [q1, nI_eq (by omega) (by omega)]
      refine ⟨fun w => k0 (fun e => w ?_), fun w => k1 (by rw [q2, w])⟩
      have := (nI_eq (by omega) (by omega)).mp (q2.symm.trans e)
      omega
theorem q_kd {t : FN} {n : Nat} {so : FN} {j : Nat} {zs : RS} (hL : pRL t n so j zs) : (zs.kd = 0 ↔ so j = 1) ∧ (zs.kd = 1 ↔ so j = 3) ∧ (zs.kd = 2 ↔ so j = 4) ∧ (zs.kd = 4 ↔ so j = 2) := by
  obtain ⟨e1, e2, htk⟩ := hL
  rcases htk with q | q | q | q | q | ⟨q, k, hk, _, q2⟩
  · rw [q.1, q.2]; decide
  · rw [q.1, q.2]; decide
  · rw [q.1, q.2]; decide
  · have X := sg_r _ q.2.2
    rw [q.1, q.2.1]
    exact ⟨⟨fun h => absurd h (by decide), fun h => absurd h X.2.1⟩, ⟨fun h => absurd h (by decide), fun h => absurd h X.2.2.2.1⟩, ⟨fun h => absurd h (by decide), fun h => absurd h X.2.2.2.2.1⟩, ⟨fun h => absurd h (by decide), fun h => absurd h X.2.2.1⟩⟩
  · rw [q.1, q.2]; decide
  · have X := key_r k hk
    rw [q, q2]
    exact ⟨⟨fun h => absurd h (by decide), fun h => absurd h X.1⟩, ⟨fun h => absurd h (by decide), fun h => absurd h X.2.2.1⟩, ⟨fun h => absurd h (by decide), fun h => absurd h X.2.2.2⟩, ⟨fun h => absurd h (by decide), fun h => absurd h X.2.1⟩⟩
theorem q_wrong {t : FN} {n nTp : Nat} {so : FN} {nR nN j : Nat} {zs : RS} {K_ E_ : RS → Prop} (hC : RC t n nTp nR nN zs) (hL : pRL t n so j zs) (ke : ∀ zs', RF t n nTp so nR nN j zs' → E_ zs') : vc_M_wrong zs K_ E_ := by
  have hk := (q_kd hL).2.2.2
  unfold vc_M_wrong vj_M_wrong_14
  refine ⟨fun w => ke _ ⟨hC, ?_, hL.1⟩, fun w => ke _ ⟨hC, ?_, hL.1⟩⟩
  · rw [if_neg (fun e => w (hk.mpr e))]
  · rw [if_pos (hk.mp w)]
theorem q_passY {t : FN} {n nTp : Nat} {so : FN} {W j : Nat} {Q : List pRw} {nR nN nd d : Nat} {zs : RS} {K_ E_ : RS → Prop} (hW : rW t n nTp so W) (h : RP t n nTp so Q nR nN nd d j zs) (hj : j + 1 < W)
    (kk : ∀ zs', RP t n nTp so Q nR nN nd d (j + 1) zs' → K_ zs') : vc_M_pass zs 1 K_ E_ :=
  ⟨fun _ => q_nextP hW h hj kk, fun q => absurd q (by decide)⟩
theorem q_passN {t : FN} {n nTp : Nat} {so : FN} {j : Nat} {Q : List pRw} {nR nN nd d : Nat} {zs : RS} {K_ E_ : RS → Prop} (h : RP t n nTp so Q nR nN nd d j zs) (ke : ∀ zs', RF t n nTp so nR nN j zs' → E_ zs') : vc_M_pass zs 0 K_ E_ :=
  ⟨fun q => absurd rfl q, fun _ => q_wrong h.1.1 h.2.1 ke⟩
theorem q_open {t : FN} {n nTp : Nat} {so : FN} {W j : Nat} {Q : List pRw} {nR nN nd d : Nat} {zs : RS} {x : Int32} {K_ E_ : RS → Prop} (hW : rW t n nTp so W) (hj : j < W) (hd : d ≤ 30) (hx : x ∈ sgnC) (h : RP t n nTp so Q nR nN nd d j zs)
    (kk : so j = x → d < 30 → ∀ zs', RP t n nTp so Q nR nN nd (d + 1) (j + 1) zs' → K_ zs') (ke : ¬ (so j = x ∧ d < 30) → ∀ zs', RF t n nTp so nR nN j zs' → E_ zs') : vc_M_open zs x K_ E_ := by
  have hX := h.1
  refine q_is hW hj hX.1.1 hX.1.2.1 h.2.1 hx (fun a => ⟨fun q => absurd q (by decide), fun _ => ?_⟩) (fun a => ⟨fun _ => q_wrong hX.1 h.2.1 (ke (fun q => a q.1)), fun q => absurd rfl q⟩)
  rw [hX.2.1, show (30 : Int32) = nI 30 from rfl, nI_eq (by omega) (by decide)]
  refine ⟨fun w => ?_, fun w => q_wrong hX.1 h.2.1 (ke (fun q => by omega))⟩
  have X := sg_r x hx
  have hj1 := tk_go hW hj a X.2.1 X.2.2.1
  have hX2 : RX t n nTp so Q nR nN nd (d + 1) (RS.w_op zs (zs.op + 1)) := ⟨hX.1, by show zs.op + 1 = nI (d + 1); rw [hX.2.1, nI_1], hX.2.2⟩
  exact q_nextP hW (zs := RS.w_op zs (zs.op + 1)) ⟨hX2, h.2.1, h.2.2⟩ hj1 (kk a (by omega))
theorem q_shut {t : FN} {n nTp : Nat} {so : FN} {W j : Nat} {Q : List pRw} {nR nN nd d : Nat} {zs : RS} {x : Int32} {K_ E_ : RS → Prop} (hW : rW t n nTp so W) (hj : j < W) (hx : x ∈ sgnC) (h : RP t n nTp so Q nR nN nd (d + 1) j zs)
    (kk : so j = x → ∀ zs', RP t n nTp so Q nR nN nd d (j + 1) zs' → K_ zs') (ke : so j ≠ x → ∀ zs', RF t n nTp so nR nN j zs' → E_ zs') : vc_M_shut zs x K_ E_ := by
  have hX := h.1
  refine q_is hW hj hX.1.1 hX.1.2.1 h.2.1 hx (fun a => ?_) (fun a => q_passN h (ke a))
  have X := sg_r x hx
  refine q_passY hW h (tk_go hW hj a X.2.1 X.2.2.1) (fun zs' h' => kk a _ ⟨⟨h'.1.1, ?_, h'.1.2.2⟩, h'.2.1, h'.2.2⟩)
  show zs'.op - 1 = nI d
  rw [h'.1.2.1, pu_s1 (by omega)]; rfl
theorem k_copyI {m : Nat} {f : FN} {c s : Nat} {x : Int32} {K_ : Nat → FN → Prop} (hm : 1 ≤ m) (hm2 : m < 2 ^ 24) (hx : x = nI (2 * m)) (hc : 1 ≤ c) (hs : 2 * m ≤ s) (kk : ∀ q f', (∀ k, k < m → f' k = f k) → K_ q f') : vc_JA_copyI c s m f x K_ := by
  subst hx
  unfold vc_JA_copyI
  rw [nI_eq (by omega) (by omega), if_neg (show ¬ nI (2 * m) < nI m from fun q => by rw [nI_ltI (by omega) (by omega)] at q; omega), nI_clamp (by omega), nI_clamp (by omega)]
  refine ⟨fun _ => ⟨nI_pos (by omega), by omega, by omega, by omega, fun q => ⟨by decide, by decide, nI_pos (by omega), ?_, ?_, kk _ _ (fun k hk => ?_)⟩⟩, fun q => by omega⟩
  · show 0 + m ≤ m; omega
  · show 0 + m ≤ 2 * m; omega
  · show (if 0 ≤ k ∧ k < 0 + m then f (0 + (k - 0)) else 0) = f k
    rw [if_pos (by omega)]
    congr 1; omega
theorem k_copyJ {m : Nat} {f : FL} {c s : Nat} {x : Int32} {K_ : Nat → FL → Prop} (hm : 1 ≤ m) (hm2 : m < 2 ^ 24) (hx : x = nI (2 * m)) (hc : 1 ≤ c) (hs : 2 * m ≤ s) (kk : ∀ q f', (∀ k, k < m → f' k = f k) → K_ q f') : vc_JA_copyJ c s m f x K_ := by
  subst hx
  unfold vc_JA_copyJ
  rw [nI_eq (by omega) (by omega), if_neg (show ¬ nI (2 * m) < nI m from fun q => by rw [nI_ltI (by omega) (by omega)] at q; omega), nI_clamp (by omega), nI_clamp (by omega)]
  refine ⟨fun _ => ⟨nI_pos (by omega), by omega, by omega, by omega, fun q => ⟨by decide, by decide, nI_pos (by omega), ?_, ?_, kk _ _ (fun k hk => ?_)⟩⟩, fun q => by omega⟩
  · show 0 + m ≤ m; omega
  · show 0 + m ≤ 2 * m; omega
  · show (if 0 ≤ k ∧ k < 0 + m then f (0 + (k - 0)) else 0) = f k
    rw [if_pos (by omega)]
    congr 1; omega
theorem k_copyB {m : Nat} {f : FN} {c s : Nat} {x : Int32} {K_ : Nat → FN → Prop} (hm : 1 ≤ m) (hm2 : m < 2 ^ 24) (hf : ∀ k, -128 ≤ f k ∧ f k ≤ 127) (hx : x = nI (2 * m)) (hc : 1 ≤ c) (hs : 2 * m ≤ s) (kk : ∀ q f', (∀ k, k < m → f' k = f k) → (∀ k, -128 ≤ f' k ∧ f' k ≤ 127) → K_ q f') : vc_JA_copyB c s m f x K_ := by
  subst hx
  unfold vc_JA_copyB
  rw [nI_eq (by omega) (by omega), if_neg (show ¬ nI (2 * m) < nI m from fun q => by rw [nI_ltI (by omega) (by omega)] at q; omega), nI_clamp (by omega), nI_clamp (by omega)]
  refine ⟨fun _ => ⟨nI_pos (by omega), by omega, by omega, by omega, fun q => ⟨by decide, by decide, nI_pos (by omega), ?_, ?_, fun i hi => fits_b (hf _).1 (hf _).2, kk _ _ (fun k hk => ?_) (fun k => ?_)⟩⟩, fun q => by omega⟩
  · show 0 + m ≤ m; omega
  · show 0 + m ≤ 2 * m; omega
  · show (if 0 ≤ k ∧ k < 0 + m then f (0 + (k - 0)) else 0) = f k
    rw [if_pos (by omega)]
    congr 1; omega
  · show -128 ≤ (if 0 ≤ k ∧ k < 0 + m then f (0 + (k - 0)) else 0) ∧ (if 0 ≤ k ∧ k < 0 + m then f (0 + (k - 0)) else 0) ≤ 127
    split
    · exact hf _
    · decide
theorem rowOk_cg {t : FN} {n : Nat} {so : FN} {zs zs' : RS} {nd i : Nat} {a : pRw} (h : rowOk t n so zs nd i a) (e1 : zs'.Kd i = zs.Kd i) (e2 : zs'.Bg i = zs.Bg i) (e3 : zs'.Pr i = zs.Pr i) (e4 : zs'.Sg i = zs.Sg i) (e5 : zs'.De i = zs.De i) (e6 : zs'.Pc i = zs.Pc i) (e7 : zs'.Fi i = zs.Fi i) (e8 : zs'.Nl i = zs.Nl i) (e9 : zs'.Dg i = zs.Dg i) (e10 : zs'.Bh i = zs.Bh i) (e11 : zs'.Nf i = zs.Nf i) (e12 : zs'.nm = zs.nm) : rowOk t n so zs' nd i a := by
  obtain ⟨a1, a2, a3, a4, a5, a6, a7, a8, a9, a10, a11⟩ := h
  refine ⟨e1.trans a1, e2.trans a2, e3.trans a3, e4.trans a4, e5.trans a5, e6.trans a6, fun q => e7.trans (a7 q), e8.trans a8, e9.trans a9, e10.trans a10, fun w hw => ?_⟩
  rw [e11, e12]
  exact a11 w hw
theorem pat0 (t : FN) (n : Nat) (so : FN) (fw : Nat) : nlA t n 0 fw = -1 ∧ dgA t n 0 fw = -1 ∧ bhA t n so 0 fw = -1 ∧ nmW 0 fw = none := ⟨rfl, rfl, rfl, rfl⟩
theorem upd_ne {f : FN} {k : Nat} {x : Int32} {i : Nat} (h : i ≠ k) : upd f k x i = f i := by unfold upd; rw [if_neg h]
theorem upd_eq {f : FN} {k : Nat} {x : Int32} : upd f k x k = x := by unfold upd; rw [if_pos rfl]
theorem updL_ne {f : FL} {k : Nat} {x : Int64} {i : Nat} (h : i ≠ k) : vp_updL f k x i = f i := by unfold vp_updL; rw [if_neg h]
theorem updL_eq {f : FL} {k : Nat} {x : Int64} : vp_updL f k x k = x := by unfold vp_updL; rw [if_pos rfl]
theorem q_piece1 {mc ms : Nat} {t : FN} {n nTp : Nat} {so : FN} {j : Nat} {Q : List pRw} {nR nN nd d : Nat} {zs : RS} {k p : Int32} {c s : Nat} {K_ : Int32 → RS → Prop} (h : RP t n nTp so Q nR nN nd d j zs) (hQ : Q.length < nR)
    (kk : ∀ zs', RP t n nTp so (Q ++ [(k, j, p, 0, -1, 0, 0)]) nR nN nd d j zs' → K_ (nI Q.length) zs') : vj_M_piece_163 mc ms K_ k p zs c s := by
  obtain ⟨⟨hC, h1, h2, h3, h4, h5, h6, h7, h8⟩, hL, hn⟩ := h
  have hR : nR < 2 ^ 24 := hC.2.2.2.2.2.2.2.2.1
  have eR : zs.nR = nR := hC.2.2.2.1
  unfold vj_M_piece_163
  rw [h2, eR, nI_1, nI_clamp (by omega)]
  have hin := pu_in (n := Q.length) (N := nR) hQ (by omega)
  refine ⟨hin, hin, hin, hin, hin, hin, hin, hin, hin, kk _ ⟨⟨hC, h1, ?_, ?_, h4, h5, h6, h7, fun i a hi => ?_⟩, hL, hn⟩⟩
  · show nI (Q.length + 1) = _
    simp
  · simp; omega
  · by_cases hq : i = Q.length
    · subst hq
      simp at hi
      subst hi
      refine ⟨upd_eq, ?_, upd_eq, upd_eq, upd_eq, upd_eq, fun q => absurd rfl q, upd_eq, updL_eq, upd_eq, fun w hw => by simp [nmW] at hw⟩
      exact upd_eq.trans hL.1
    · have hlt : i < Q.length := by
        have := (List.getElem?_eq_some_iff.mp hi).1
        simp at this
        omega
      rw [List.getElem?_append_left hlt] at hi
      exact rowOk_cg (h8 i a hi) (upd_ne hq) (upd_ne hq) (upd_ne hq) (upd_ne hq) (upd_ne hq) (upd_ne hq) rfl (upd_ne hq) (updL_ne hq) (upd_ne hq) rfl rfl
def grR (nR m : Nat) : Nat := if m < nR then nR else 2 * nR
theorem q_piece {mc ms : Nat} {t : FN} {n nTp : Nat} {so : FN} {j : Nat} {Q : List pRw} {nR nN nd d : Nat} {zs : RS} {k p : Int32} {K_ : Int32 → RS → Prop} (h : RP t n nTp so Q nR nN nd d j zs) (hQ : Q.length < 2 ^ 23)
    (hc : grR nR Q.length ≤ 4 * mc + nR) (hs : 24 * grR nR Q.length ≤ ms + 24 * nR)
    (kk : ∀ zs', RP t n nTp so (Q ++ [(k, j, p, 0, -1, 0, 0)]) (grR nR Q.length) nN nd d j zs' → K_ (nI Q.length) zs') : vc_M_piece mc ms zs k p K_ := by
  have hh := h
  obtain ⟨⟨hC, h1, h2, h3, h4, h5, h6, h7, h8⟩, hL, hn⟩ := h
  have hR : nR < 2 ^ 24 := hC.2.2.2.2.2.2.2.2.1
  have hR6 : 64 ≤ nR := hC.2.2.2.2.2.2.2.1
  have eR : zs.nR = nR := hC.2.2.2.1
  unfold grR at hc hs kk
  unfold vc_M_piece
  rw [h2, eR, nI_eq (by omega) (by omega)]
  refine ⟨fun q => ?_, fun q => ?_⟩
  · rw [if_pos (by omega)] at kk
    exact q_piece1 hh (by omega) kk
  · rw [if_neg (by omega)] at kk hc hs
    have hx : 2 * nI Q.length = nI (2 * nR) := by
      rw [q, show (2 : Int32) = nI 2 from rfl]
      exact (Int32.ofNat_mul 2 nR).symm
    refine ⟨1, 2 * nR, by omega, by omega, k_copyI (by omega) hR hx (Nat.le_refl _) (Nat.le_refl _) (fun _ f1 g1 => ?_)⟩
    refine ⟨1, 2 * nR, by omega, by omega, k_copyI (by omega) hR hx (Nat.le_refl _) (Nat.le_refl _) (fun _ f2 g2 => ?_)⟩
    refine ⟨1, 2 * nR, by omega, by omega, k_copyI (by omega) hR hx (Nat.le_refl _) (Nat.le_refl _) (fun _ f3 g3 => ?_)⟩
    refine ⟨1, 2 * nR, by omega, by omega, k_copyI (by omega) hR hx (Nat.le_refl _) (Nat.le_refl _) (fun _ f4 g4 => ?_)⟩
    refine ⟨1, 2 * nR, by omega, by omega, k_copyI (by omega) hR hx (Nat.le_refl _) (Nat.le_refl _) (fun _ f5 g5 => ?_)⟩
    refine ⟨1, 2 * nR, by omega, by omega, k_copyI (by omega) hR hx (Nat.le_refl _) (Nat.le_refl _) (fun _ f6 g6 => ?_)⟩
    refine ⟨1, 2 * nR, by omega, by omega, k_copyJ (by omega) hR hx (Nat.le_refl _) (Nat.le_refl _) (fun _ f7 g7 => ?_)⟩
    refine ⟨1, 2 * nR, by omega, by omega, k_copyI (by omega) hR hx (Nat.le_refl _) (Nat.le_refl _) (fun _ f8 g8 => ?_)⟩
    refine ⟨1, 2 * nR, by omega, by omega, k_copyI (by omega) hR hx (Nat.le_refl _) (Nat.le_refl _) (fun _ f9 g9 => ?_)⟩
    refine ⟨1, 2 * nR, by omega, by omega, k_copyI (by omega) hR hx (Nat.le_refl _) (Nat.le_refl _) (fun _ f10 g10 => ?_)⟩
    refine ⟨1, 2 * nR, by omega, by omega, k_copyI (by omega) hR hx (Nat.le_refl _) (Nat.le_refl _) (fun _ f11 g11 => ?_)⟩
    refine ⟨1, 2 * nR, by omega, by omega, k_copyI (by omega) hR hx (Nat.le_refl _) (Nat.le_refl _) (fun _ f12 g12 => ?_)⟩
    refine q_piece1 (Q := Q) (nR := 2 * nR) (nN := nN) (nd := nd) (d := d) (t := t) (n := n) (nTp := nTp) (so := so) (j := j) ⟨⟨⟨hC.1, hC.2.1, hC.2.2.1, ?_, hC.2.2.2.2.1, hC.2.2.2.2.2.1, hC.2.2.2.2.2.2.1, by omega, by omega, hC.2.2.2.2.2.2.2.2.2⟩, h1, h2, by omega, h4, h5, h6, h7, fun i a hi => ?_⟩, hL, hn⟩ (by omega) kk
    · show (2 * nI Q.length).toNatClampNeg = 2 * nR
      rw [hx, nI_clamp (by omega)]
    · have hlt : i < nR := by
        have := (List.getElem?_eq_some_iff.mp hi).1
        omega
      exact rowOk_cg (h8 i a hi) (g1 i hlt) (g2 i hlt) (g3 i hlt) (g4 i hlt) (g9 i hlt) (g10 i hlt) (g11 i hlt) (g6 i hlt) (g7 i hlt) (g8 i hlt) (g5 i hlt) rfl
