def vLp (vQ : VV) (EX : RS → Nat → Nat → Prop) (E_ : RS → Prop) (mc ms : Nat) (p : Int32) : Nat → RS → Nat → Nat → Prop
  | 0 => fun _ _ _ => False
  | f + 1 => fun z c t => vc_M_isStatement z (fun r => ((r = 0 → EX z c t) ∧ (¬ r = 0 → stC vQ (fun z2 c2 t2 => vLp vQ EX E_ mc ms p f z2 c2 t2) E_ mc ms p z c t)))
def vSL (vQ : VV) : SV := fun cont E_ mc ms p zs c tt => ∃ n_, vLp vQ cont E_ mc ms p n_ zs c tt
section
variable {t : FN} {n nTp : Nat} {so : FN} {W nT : Nat}
theorem S_SL (hW : rW t n nTp so W) {gI : pG1} {vQ : VV} {Z : ZP} {d : Nat}
    (hS : ∀ i, i < W → isSt (so i) → JQ t n nTp so W nT (fun _ _ => True) (fun p => p ≠ -1) (fun p st => gStmt gI so W nT p st) (stC vQ) i d d 0 (-1) 0 0) {j : Nat} (hj : j < W) :
    JQ t n nTp so W nT Z (fun p => p ≠ -1) (fun p st => gItemsL gI so W nT p W st) (vSL vQ) j d d 0 0 0 0 := by
  rcases J_SL hW hS W j hj (by omega) with ⟨j1, m1, rn1, L1, R1, c1, c2, c3, c4, c5, c6, c7, c8⟩ | ⟨j1, c1, c2, c3, c4⟩
  · refine Or.inl ⟨j1, m1, rn1, L1, R1, by omega, c2, by omega, by omega, c5, fun p N hp hN => c7 p W N hp (by omega) (by omega), fun Q p nR nN nd hQ hQR hR0 hnd hZ => ?_⟩
    obtain ⟨nR1, nN1, nd1, b1, b2, b3, b4, b5⟩ := c8 Q p nR nN nd (by omega) hQR hR0 hnd
    exact ⟨nR1, nN1, nd1, b1, b2, b3, b4, fun zs cont E_ mc ms c tt h hb kk => ⟨W + 1, b5 zs E_ mc ms c tt W (vLp vQ cont E_ mc ms p) cont (fun f z c t hh => hh) (by omega) h hb kk⟩⟩
  · refine Or.inr ⟨j1, c1, c2, fun p N hp hN => c3 p W N hp (by omega) (by omega), fun Q p nR nN nd hQ hQR hR0 hnd hZ => ?_⟩
    obtain ⟨nR1, nN1, b1, b2, b5⟩ := c4 Q p nR nN nd (by omega) hQR hR0 hnd
    exact ⟨nR1, nN1, b1, b2, fun zs cont E_ mc ms c tt h hb kk => ⟨W + 1, b5 zs E_ mc ms c tt W (vLp vQ cont E_ mc ms p) cont (fun f z c t hh => hh) (by omega) h hb kk⟩⟩
def vEx (K_ E_ : RS → Prop) (mc ms : Nat) (p : Int32) : RS → Nat → Nat → Prop := fun z c t => vGv6 (fun z _ _ => K_ z) E_ mc ms p z c t
theorem lp68 {K_ E_ : RS → Prop} {mc ms : Nat} {p : Int32} : ∀ f z c t, vLp vQx (vEx K_ E_ mc ms p) E_ mc ms p f z c t = vl_M_block_68 mc ms K_ E_ f p z c t
  | 0, _, _, _ => rfl
  | f + 1, z, c, t => by
    have e : (vLp vQx (vEx K_ E_ mc ms p) E_ mc ms p f) = (fun z c t => vl_M_block_68 mc ms K_ E_ f p z c t) := funext fun z => funext fun c => funext fun t => lp68 f z c t
    have F := congrArg (fun (L : RS → Nat → Nat → Prop) => vc_M_isStatement z (fun r => ((r = 0 → vEx K_ E_ mc ms p z c t) ∧ (¬ r = 0 → stC vQx (fun z2 c2 t2 => L z2 c2 t2) E_ mc ms p z c t)))) e
    exact F
def v68 : KV := fun K_ E_ mc ms p zs c tt => ∃ n_, vl_M_block_68 mc ms K_ E_ n_ p zs c tt
def vS68 : SV := fun cont E_ mc ms p zs c tt => vSL vQx (fun z c t => vGv6 cont E_ mc ms p z c t) E_ mc ms p zs c tt
def hSt (t : FN) (n nTp : Nat) (so : FN) (W nT : Nat) (gI : pG1) (d : Nat) : Prop := ∀ i, i < W → isSt (so i) → JQ t n nTp so W nT (fun _ _ => True) (fun p => p ≠ -1) (fun p st => gStmt gI so W nT p st) (stC vQx) i d d 0 (-1) 0 0
theorem ff_sb {x k p : Int32} (hx : x ≠ 0) : ff (gSumB so W nT x k p) := fun j d N => ff_c (f := gAdd nT k p 0) (g := fun st => gTake so 59 (g34 so W nT (gR nT (j, true, d, N)) 0 0 (gTake so x st))) ff_add (ff_c (f := gTake so x) (g := fun st => gTake so 59 (g34 so W nT (gR nT (j, true, d, N)) 0 0 st)) (ff_take hx) (ff_l3 _)) j d N
theorem ff_b1 (p : Int32) : ff (fun st => gClose so 125 (gSumB so W nT 263 21 p st)) := ff_c (f := gSumB so W nT 263 21 p) (g := gClose so 125) (ff_sb (by decide)) (ff_close (by decide))
theorem ff_b2 {gI : pG1} (p : Int32) : ff (fun st => gClose so 125 (gSumB so W nT 263 21 p (gItemsL gI so W nT p W st))) := ff_c (f := gItemsL gI so W nT p W) (g := fun st => gClose so 125 (gSumB so W nT 263 21 p st)) (ff_itemsL W) (ff_b1 p)
theorem ff_b3 {gI : pG1} (p : Int32) : ff (fun st => gClose so 125 (gSumB so W nT 263 21 p (gItemsL gI so W nT p W (gOpen so 123 st)))) := ff_c (f := gOpen so 123) (g := fun st => gClose so 125 (gSumB so W nT 263 21 p (gItemsL gI so W nT p W st))) (ff_open (by decide)) (ff_b2 p)
abbrev gB3 (gI : pG1) (so : FN) (W nT : Nat) (p : Int32) (st : pPS) : pPS := gBlock3 (fun p st => gItemsL gI so W nT p W st) so W nT p st
abbrev gB2 (gI : pG1) (so : FN) (W nT : Nat) (p : Int32) (st : pPS) : pPS := gBlock2 (fun p st => gItemsL gI so W nT p W st) so W nT p st
abbrev gB1 (gI : pG1) (so : FN) (W nT : Nat) (p : Int32) (st : pPS) : pPS := gBlock1 (fun p st => gItemsL gI so W nT p W st) so W nT p st
theorem ff_b4 {gI : pG1} (p : Int32) : ff (fun st => gB3 gI so W nT p st) := ff_c (f := gClose so 41) (g := fun st => gClose so 125 (gSumB so W nT 263 21 p (gItemsL gI so W nT p W (gOpen so 123 st)))) (ff_close (by decide)) (ff_b3 p)
theorem ff_b5 {gI : pG1} (p : Int32) : ff (fun st => gB2 gI so W nT p st) := ff_c (f := fun b => if psS so b = 59 then gNames so W nT p 59 (gStep b) else b) (g := fun st => gB3 gI so W nT p st) (ff_if (c := fun b => psS so b = 59) (fun j d N => by rw [ps_f]; decide) ff_id) (ff_b4 p)
theorem ff_b6 {gI : pG1} (p : Int32) : ff (fun st => gB1 gI so W nT p st) := ff_c (f := fun b => if psS so b = 3 then gNames so W nT p 0 b else b) (g := fun st => gB2 gI so W nT p st) (ff_if (c := fun b => psS so b = 3) (fun j d N => by rw [ps_f]; decide) ff_id) (ff_b5 p)
theorem ff_b7 {gI : pG1} (p : Int32) : ff (fun st => gB1 gI so W nT p (gOpen so 40 st)) := ff_c (f := gOpen so 40) (g := fun st => gB1 gI so W nT p st) (ff_open (by decide)) (ff_b6 p)
theorem bk_a (hW : rW t n nTp so W) (hWT : W ≤ nT) (hT : nT < 2 ^ 30) {gI : pG1} {d : Nat} (hd : d + 1 ≤ 30) (hS : hSt t n nTp so W nT gI (d + 1)) {j : Nat} (hj : j < W) :
    JQ t n nTp so W nT (zK 5) (fun p => p ≠ -1) (fun p st => gClose so 125 (gSumB so W nT 263 21 p (gItemsL gI so W nT p W st))) vS68 j (d + 1) d 0 (0 + (-1 + -1)) (0 + (0 + -4)) 0 := by
  have s := JQ_seq (Z := zK 5) (zc := fun p => p ≠ -1) (S_SL hW hS hj) (fun j2 _ hj2 => gv_c hW hWT hT (zK_s 5) hj2 hd) ff_b1 (by omega) (zK_s 5) (by omega)
  exact s
theorem bk_b (hW : rW t n nTp so W) (hWT : W ≤ nT) (hT : nT < 2 ^ 30) {gI : pG1} {d : Nat} (hd : d + 1 ≤ 30) (hS : hSt t n nTp so W nT gI (d + 1)) {j : Nat} (hj : j < W) :
    JK t n nTp so W nT (zK 5) (fun p => p ≠ -1) (fun p st => gClose so 125 (gSumB so W nT 263 21 p (gItemsL gI so W nT p W st))) v68 j (d + 1) d 0 (0 + (-1 + -1)) (0 + (0 + -4)) 0 :=
  JK_cg (v' := v68) (JQ_K (bk_a hW hWT hT hd hS hj)) (fun _ _ _ => Eq.refl _) (fun Q nR nN nd K_ E_ mc ms p zs c tt hZ h hv => by
    obtain ⟨f, hv⟩ := hv
    exact ⟨f, cast (lp68 f zs c tt) hv⟩)
def vO68 : KV := fun K_ E_ mc ms p zs c tt => vc_M_open zs 123 (fun z => v68 K_ E_ mc ms p z c tt) E_
def v56 : KV := fun K_ E_ mc ms p zs c tt => vc_M_shut zs 41 (fun z => vO68 K_ E_ mc ms p z c tt) E_
theorem bk_c (hW : rW t n nTp so W) (hWT : W ≤ nT) (hT : nT < 2 ^ 30) {gI : pG1} {d : Nat} (hd : d + 1 ≤ 30) (hS : hSt t n nTp so W nT gI (d + 1)) {j : Nat} (hj : j < W) :
    JK t n nTp so W nT (zK 5) (fun p => p ≠ -1) (fun p st => gClose so 125 (gSumB so W nT 263 21 p (gItemsL gI so W nT p W (gOpen so 123 st)))) vO68 j d d 0 (-1 + (0 + (-1 + -1))) (-4 + (0 + (0 + -4))) 1 := by
  have s := JK_seq (Z := zK 5) (zc := fun p => p ≠ -1) (S_open (nT := nT) hW sg_in.2.2.2.2.2.2.2.2.2.2.2.2.2.1 (d := d) (by omega) hj 0 1) (fun j1 _ hj1 => bk_b hW hWT hT hd hS hj1) ff_b2 (by omega) (zK_s 5) (by omega)
  exact s
theorem bk_d (hW : rW t n nTp so W) (hWT : W ≤ nT) (hT : nT < 2 ^ 30) {gI : pG1} {d : Nat} (hd : d + 1 ≤ 30) (hS : hSt t n nTp so W nT gI (d + 1)) {j : Nat} (hj : j < W) :
    JK t n nTp so W nT (zK 5) (fun p => p ≠ -1) (fun p st => gB3 gI so W nT p st) v56 j (d + 1) d 4 (-1 + (-1 + (0 + (-1 + -1)))) (-4 + (-4 + (0 + (0 + -4)))) 1 := by
  have s := JK_seq (Z := zK 5) (zc := fun p => p ≠ -1) (S_close (nT := nT) hW sg_in.2.1 (d := d) hj 4 1) (fun j1 _ hj1 => bk_c hW hWT hT hd hS hj1) ff_b3 (by omega) (zK_s 5) (by omega)
  exact s
def v36 : KV := fun K_ E_ mc ms p zs c tt => vj_M_block_36 mc ms K_ E_ p zs c tt
def vNm (s : Int32) (v : KV) : KV := fun K_ E_ mc ms p zs c tt => ∃ c1 s1 : Nat, c + c1 ≤ mc ∧ tt + s1 ≤ ms ∧ vc_M_names c1 s1 zs p s (fun z => v K_ E_ mc ms p z (c + c1) (tt + s1)) E_
def vNx (v : KV) : KV := fun K_ E_ mc ms p zs c tt => vc_M_next zs (fun z => v K_ E_ mc ms p z c tt)
theorem bk_e (hW : rW t n nTp so W) (hWT : W ≤ nT) (hT : nT < 2 ^ 30) {gI : pG1} {d : Nat} (hd : d + 1 ≤ 30) (hS : hSt t n nTp so W nT gI (d + 1)) {j : Nat} (hj : j < W) :
    JK t n nTp so W nT (zK 5) (fun p => p ≠ -1) (fun p st => gB3 gI so W nT p (gNames so W nT p 59 st)) (vNm 59 v56) j (d + 1) d 3 (0 + (-1 + (-1 + (0 + (-1 + -1))))) (-3 + (-4 + (-4 + (0 + (0 + -4))))) 1 := by
  have s := JK_seq (Z := zK 5) (zc := fun p => p ≠ -1) (S_names (nT := nT) hW hWT 59 (d := d + 1) hj (e := 3) (q := 1) (by omega) (by omega)) (fun j1 _ hj1 => bk_d hW hWT hT hd hS hj1) ff_b4 (by omega) (zK_s 5) (by omega)
  exact s
theorem ff_b8 {gI : pG1} (p : Int32) : ff (fun st => gB3 gI so W nT p (gNames so W nT p 59 st)) := ff_c (f := gNames so W nT p 59) (g := fun st => gB3 gI so W nT p st) (ff_names (Z := fun _ _ => True) (zc := fun _ => True)) (ff_b4 p)
theorem bk_f (hW : rW t n nTp so W) (hWT : W ≤ nT) (hT : nT < 2 ^ 30) {gI : pG1} {d : Nat} (hd : d + 1 ≤ 30) (hS : hSt t n nTp so W nT gI (d + 1)) {j : Nat} (hj : j < W) :
    JK t n nTp so W nT (zK 5) (fun p => p ≠ -1) (fun p st => gB2 gI so W nT p st) v36 j (d + 1) d 4 (-1) 0 1 := by
  by_cases h59 : so j = 59
  · have s := JK_seq (Z := zK 5) (zc := fun p => p ≠ -1) (S_step (nT := nT) hW (x := 59) (by decide) (by decide) (d := d + 1) hj h59 4 1) (fun j1 _ hj1 => bk_e hW hWT hT hd hS hj1) ff_b8 (by omega) (zK_s 5) (by omega)
    have s2 := JK_w s (Int.le_refl _) (show (-1 + (0 + (-1 + (-1 + (0 + (-1 + -1))))) : Int) ≤ -1 by omega) (show (-4 + (-3 + (-4 + (-4 + (0 + (0 + -4))))) : Int) ≤ 0 by omega) (Int.le_refl _)
    refine JK_cg (v' := v36) s2 (fun p N hp => ?_) (fun Q nR nN nd K_ E_ mc ms p zs c tt hZ h hv => ?_)
    · show gBlock2 (fun p st => gItemsL gI so W nT p W st) so W nT p (j, false, nI (d + 1), N) = _
      unfold gBlock2; rw [ps_g, if_pos h59]
    · unfold v36 vj_M_block_36
      exact q_is hW hj h.1.1.1 h.1.1.2.1 h.2.1 sg_in.2.2.2.2.2.2.2.2.1 (fun _ => ⟨fun q => absurd q (by decide), fun _ => hv⟩) (fun q => absurd h59 q)
  · have s2 := JK_w (bk_d hW hWT hT hd hS hj) (Int.le_refl _) (show (-1 + (-1 + (0 + (-1 + -1))) : Int) ≤ -1 by omega) (show (-4 + (-4 + (0 + (0 + -4))) : Int) ≤ 0 by omega) (Int.le_refl _)
    refine JK_cg (v' := v36) s2 (fun p N hp => ?_) (fun Q nR nN nd K_ E_ mc ms p zs c tt hZ h hv => ?_)
    · show gBlock2 (fun p st => gItemsL gI so W nT p W st) so W nT p (j, false, nI (d + 1), N) = _
      unfold gBlock2; rw [ps_g, if_neg h59]
    · unfold v36 vj_M_block_36
      exact q_is hW hj h.1.1.1 h.1.1.2.1 h.2.1 sg_in.2.2.2.2.2.2.2.2.1 (fun q => absurd q h59) (fun _ => ⟨fun _ => hv, fun q => absurd rfl q⟩)
theorem bk_g (hW : rW t n nTp so W) (hWT : W ≤ nT) (hT : nT < 2 ^ 30) {gI : pG1} {d : Nat} (hd : d + 1 ≤ 30) (hS : hSt t n nTp so W nT gI (d + 1)) {j : Nat} (hj : j < W) :
    JK t n nTp so W nT (zK 5) (fun p => p ≠ -1) (fun p st => gB2 gI so W nT p (gNames so W nT p 0 st)) (vNm 0 v36) j (d + 1) d 3 (0 + -1) (-3 + 0) 1 := by
  have s := JK_seq (Z := zK 5) (zc := fun p => p ≠ -1) (S_names (nT := nT) hW hWT 0 (d := d + 1) hj (e := 3) (q := 1) (by omega) (by omega)) (fun j1 _ hj1 => bk_f hW hWT hT hd hS hj1) ff_b5 (by omega) (zK_s 5) (by omega)
  exact s
def vK1 : KV := fun K_ E_ mc ms p zs c tt => (¬ zs.kd = 1 → v36 K_ E_ mc ms p zs c tt) ∧ (zs.kd = 1 → vNm 0 v36 K_ E_ mc ms p zs c tt)
theorem bk_h (hW : rW t n nTp so W) (hWT : W ≤ nT) (hT : nT < 2 ^ 30) {gI : pG1} {d : Nat} (hd : d + 1 ≤ 30) (hS : hSt t n nTp so W nT gI (d + 1)) {j : Nat} (hj : j < W) :
    JK t n nTp so W nT (zK 5) (fun p => p ≠ -1) (fun p st => gB1 gI so W nT p st) vK1 j (d + 1) d 3 (-1) 0 1 := by
  by_cases h3 : so j = 3
  · have s2 := JK_w (bk_g hW hWT hT hd hS hj) (Int.le_refl _) (show (0 + -1 : Int) ≤ -1 by omega) (show (-3 + 0 : Int) ≤ 0 by omega) (Int.le_refl _)
    refine JK_cg (v' := vK1) s2 (fun p N hp => ?_) (fun Q nR nN nd K_ E_ mc ms p zs c tt hZ h hv => ?_)
    · show gBlock1 (fun p st => gItemsL gI so W nT p W st) so W nT p (j, false, nI (d + 1), N) = _
      unfold gBlock1; rw [ps_g, if_pos h3]
    · exact ⟨fun q => absurd ((q_kd h.2.1).2.1.mpr h3) q, fun _ => hv⟩
  · refine JK_cg (v' := vK1) (JK_w (bk_f hW hWT hT hd hS hj) (show (3 : Int) ≤ 4 by omega) (Int.le_refl _) (Int.le_refl _) (Int.le_refl _)) (fun p N hp => ?_) (fun Q nR nN nd K_ E_ mc ms p zs c tt hZ h hv => ?_)
    · show gBlock1 (fun p st => gItemsL gI so W nT p W st) so W nT p (j, false, nI (d + 1), N) = _
      unfold gBlock1; rw [ps_g, if_neg h3]
    · exact ⟨fun _ => hv, fun q => absurd ((q_kd h.2.1).2.1.mp q) h3⟩
def vK2 : KV := fun K_ E_ mc ms p zs c tt => vc_M_open zs 40 (fun z => vK1 K_ E_ mc ms p z c tt) E_
theorem bk_i (hW : rW t n nTp so W) (hWT : W ≤ nT) (hT : nT < 2 ^ 30) {gI : pG1} {d : Nat} (hd : d + 1 ≤ 30) (hS : hSt t n nTp so W nT gI (d + 1)) {j : Nat} (hj : j < W) :
    JK t n nTp so W nT (zK 5) (fun p => p ≠ -1) (fun p st => gB1 gI so W nT p (gOpen so 40 st)) vK2 j d d 1 (-1 + -1) (-4 + 0) 1 := by
  have s := JK_seq (Z := zK 5) (zc := fun p => p ≠ -1) (S_open (nT := nT) hW sg_in.1 (d := d) (by omega) hj 1 1) (fun j1 _ hj1 => bk_h hW hWT hT hd hS hj1) ff_b6 (by omega) (zK_s 5) (by omega)
  exact s
theorem JK_nodeB (hW : rW t n nTp so W) (hWT : W ≤ nT) (hT : nT < 2 ^ 30) {Z : ZP} {zc : Int32 → Prop} {g : GO} {v : KV} {j d d' : Nat} {e e2 k a q q2 : Int} (h : j + 2 < W → JK t n nTp so W nT (zK 5) (fun p => p ≠ -1) g v (j + 2) d d' e2 k a q2) (hff : ∀ p, ff (g p)) (hj : j < W) (hs : so j = 262) (he : e + 1 ≤ 8 + e2) (he8 : e ≤ 16) (hq : q ≤ 1 + q2) (hq0 : q ≤ 0) :
    JK t n nTp so W nT Z zc (fun p st => g (gR nT st) (gTake so 3 (gTake so 262 (gAdd nT 5 p 0 st)))) (fun K_ E_ mc ms p zs c tt => ∃ c1 s1 : Nat, c + c1 ≤ mc ∧ tt + s1 ≤ ms ∧ vc_M_piece c1 s1 zs 5 p (fun r z => vc_M_next z (fun z2 => ∃ c2 s2 : Nat, c + c1 + c2 ≤ mc ∧ tt + s1 + s2 ≤ ms ∧ vc_M_name c2 s2 z2 r (fun z3 => v K_ E_ mc ms r z3 (c + c1 + c2) (tt + s1 + s2)) E_))) j d d' e (k - 1) (a - 7) q := by
  have w := tk_so hW hj
  have a1 := tk_go hW hj hs (by decide) (by decide)
  have hb1 := psb_b t n j
  have hb2 := sb_n t n j
  have hb3 := psb_b t n (j + 1)
  have hb4 : pseN t n (j + 1) ≤ sbN t n (j + 2) := sb_n t n (j + 1)
  have hwl : wLen t n (j + 1) = pseN t n (j + 1) - sbN t n (j + 1) := rfl
  have cg : ∀ (p : Int32) (N : List pNd), (N.length : Int) ≤ j + q → gTake so 262 (gAdd nT 5 p 0 (j, false, nI d, N)) = (j + 1, false, nI d, N ++ [(5, j, p, 0, -1)]) := by
    intro p N hN
    rw [g_add (by omega), g_take hs]
  by_cases h3 : so (j + 1) = 3
  · have a2 : j + 2 < W := tk_go hW a1 h3 (by decide) (by decide)
    have cg2 : ∀ (p : Int32) (N : List pNd), (N.length : Int) ≤ j + q → gTake so 3 (gTake so 262 (gAdd nT 5 p 0 (j, false, nI d, N))) = (j + 2, false, nI d, N ++ [(5, j, p, 0, -1)]) := by
      intro p N hN
      rw [cg p N hN, g_take h3]
    have ru : ∀ (Q : List pRw) (p : Int32) (nR nN nd : Nat), Q.length < 2 ^ 23 → Q.length ≤ nR → ∀ zs (c tt : Nat) (X : Int32 → RS → Nat → Nat → Prop) E_ mc ms, RP t n nTp so Q nR nN nd d j zs → 4 * c + grR nR Q.length + 4 * pgrN nN nd ≤ 4 * mc + nR + 4 * nN → tt + 24 * grR nR Q.length + 2 * pgrN nN nd ≤ ms + 24 * nR + 2 * nN → (nR ≤ grR nR Q.length ∧ (grR nR Q.length - nR) % 4 = 0) → nN ≤ pgrN nN nd →
        (∀ z c' t', RP t n nTp so (Q ++ [(5, j, p, 0, -1, 0, 3)]) (grR nR Q.length) (pgrN nN nd) (nd + wLen t n (j + 1)) d (j + 2) z → cnt nR nN (grR nR Q.length) (pgrN nN nd) c c' tt t' → X (nI Q.length) z c' t') →
        ∃ c1 s1 : Nat, c + c1 ≤ mc ∧ tt + s1 ≤ ms ∧ vc_M_piece c1 s1 zs 5 p (fun r z => vc_M_next z (fun z2 => ∃ c2 s2 : Nat, c + c1 + c2 ≤ mc ∧ tt + s1 + s2 ≤ ms ∧ vc_M_name c2 s2 z2 r (fun z3 => X r z3 (c + c1 + c2) (tt + s1 + s2)) E_)) := by
      intro Q p nR nN nd hQ hQR zs c tt X E_ mc ms hz hc ht g1 g2 kk
      refine ⟨(grR nR Q.length - nR) / 4, 24 * (grR nR Q.length - nR), by omega, by omega, q_piece hz hQ (by omega) (by omega) (fun z1 h1 => q_nextP hW h1 a1 (fun z2 h2 => ?_))⟩
      refine ⟨pgrN nN nd - nN, 2 * (pgrN nN nd - nN), by omega, by omega, q_name (x := Q.length) (ac := 3) (a := (5, j, p, 0, -1, 0, 0)) hW a1 h2 (by simp) rfl h3 rfl rfl (by decide) (by omega) (by omega) (fun z3 h4 => ?_)⟩
      rw [md_last] at h4
      exact kk z3 _ _ h4 ⟨by omega, by omega⟩
    rcases h a2 with ⟨j', m, rn, L, R, c1, c2, c3, c4, c5, c6, c7⟩ | ⟨j', c1, c2, c3, c4⟩
    · refine Or.inl ⟨j', m + 1, rn + 1, _, _, by omega, c2, by omega, by omega, Fo_tree (Tr_node c5 5 j (-1) 0 3 (by decide) rfl (by omega)) 0, fun p N hp hN => ?_, fun Q p nR nN nd hQ hQR hR0 hnd hZ => ?_⟩
      · show g (gR nT (j, false, nI d, N)) (gTake so 3 (gTake so 262 (gAdd nT 5 p 0 (j, false, nI d, N)))) = _
        rw [cg2 p N hN, g_R (by omega), c6 _ _ (pu_m1 (by omega)) (by simp only [List.length_append, List.length_cons, List.length_nil]; omega)]
        simp only [List.length_append, List.length_cons, List.length_nil, List.append_assoc, List.cons_append, List.nil_append, Nat.zero_add]
      · obtain ⟨g1, g2⟩ := gwR_g (W := W) hR0 hQR (by omega)
        have g3 : gwN n nN (pgrN nN nd) := gwN_g (by omega)
        have hlF : (Q ++ [((5 : Int32), j, p, (0 : Int32), (-1 : Int32), 0, 3)]).length = Q.length + 1 := by simp
        obtain ⟨nR1, nN1, nd1, b1, b2, b3, b4, b5⟩ := c7 (Q ++ [(5, j, p, 0, -1, 0, 3)]) (nI Q.length) (grR nR Q.length) (pgrN nN nd) (nd + wLen t n (j + 1)) (by omega) (by omega) (by have := g1.1; omega) (by omega) (zK_l hlF)
        refine ⟨nR1, nN1, nd1, gwR_t g1 b1, gwN_t g3 b2, by omega, b4, fun zs K_ E_ mc ms c tt h hb kk => ?_⟩
        have hm0 := g1.1; have hm1 := b1.1; have hm2 := b2.1; have hm3 := g3.1
        obtain ⟨hb1, hb2⟩ := hb
        refine ru Q p nR nN nd (by omega) hQR zs c tt (fun r z c t => v K_ E_ mc ms r z c t) E_ mc ms h (by omega) (by omega) hm0 hm3 (fun z c' t' hz hc => ?_)
        obtain ⟨hc1, hc2⟩ := hc
        refine b5 z K_ E_ mc ms c' t' hz ⟨by omega, by omega⟩ (fun z2 h2 => kk z2 ?_)
        rw [hlF, List.append_assoc] at h2
        exact h2
    · refine Or.inr ⟨j', by omega, c2, fun p N hp hN => ?_, fun Q p nR nN nd hQ hQR hR0 hnd hZ => ?_⟩
      · show ∃ d' N', g (gR nT (j, false, nI d, N)) (gTake so 3 (gTake so 262 (gAdd nT 5 p 0 (j, false, nI d, N)))) = _
        rw [cg2 p N hN, g_R (by omega)]
        exact c3 _ _ (pu_m1 (by omega)) (by simp only [List.length_append, List.length_cons, List.length_nil]; omega)
      · obtain ⟨g1, g2⟩ := gwR_g (W := W) hR0 hQR (by omega)
        have g3 : gwN n nN (pgrN nN nd) := gwN_g (by omega)
        have hlF : (Q ++ [((5 : Int32), j, p, (0 : Int32), (-1 : Int32), 0, 3)]).length = Q.length + 1 := by simp
        obtain ⟨nR1, nN1, b1, b2, b5⟩ := c4 (Q ++ [(5, j, p, 0, -1, 0, 3)]) (nI Q.length) (grR nR Q.length) (pgrN nN nd) (nd + wLen t n (j + 1)) (by omega) (by omega) (by have := g1.1; omega) (by omega) (zK_l hlF)
        refine ⟨nR1, nN1, gwR_t g1 b1, gwN_t g3 b2, fun zs K_ E_ mc ms c tt h hb kk => ?_⟩
        have hm0 := g1.1; have hm1 := b1.1; have hm2 := b2.1; have hm3 := g3.1
        obtain ⟨hb1, hb2⟩ := hb
        refine ru Q p nR nN nd (by omega) hQR zs c tt (fun r z c t => v K_ E_ mc ms r z c t) E_ mc ms h (by omega) (by omega) hm0 hm3 (fun z c' t' hz hc => ?_)
        obtain ⟨hc1, hc2⟩ := hc
        exact b5 z K_ E_ mc ms c' t' hz ⟨by omega, by omega⟩ kk
  · refine Or.inr ⟨j + 1, by omega, a1, fun p N hp hN => ?_, fun Q p nR nN nd hQ hQR hR0 hnd hZ => ?_⟩
    · show ∃ d' N', g (gR nT (j, false, nI d, N)) (gTake so 3 (gTake so 262 (gAdd nT 5 p 0 (j, false, nI d, N)))) = _
      rw [cg p N hN, g_takeN h3]
      exact hff _ _ _ _
    · obtain ⟨g1, g2⟩ := gwR_g (W := W) hR0 hQR (by omega)
      refine ⟨grR nR Q.length, nN, g1, gwN_r n nN, fun zs K_ E_ mc ms c tt h hb kk => ?_⟩
      have hm0 := g1.1
      obtain ⟨hb1, hb2⟩ := hb
      refine ⟨(grR nR Q.length - nR) / 4, 24 * (grR nR Q.length - nR), by omega, by omega, q_piece h (by omega) (by omega) (by omega) (fun z1 h1 => q_nextP hW h1 a1 (fun z2 h2 => ⟨0, 0, by omega, by omega, ?_⟩))⟩
      have kd := (q_kd h2.2.1).2.1
      unfold vc_M_name
      exact ⟨fun q => absurd (kd.mp q) h3, fun _ => q_wrong h2.1.1 h2.2.1 kk⟩
def vBk : KV := fun K_ E_ mc ms p zs c tt => ∃ c1 s1 : Nat, c + c1 ≤ mc ∧ tt + s1 ≤ ms ∧ vc_M_piece c1 s1 zs 5 p (fun r z => vc_M_next z (fun z2 => ∃ c2 s2 : Nat, c + c1 + c2 ≤ mc ∧ tt + s1 + s2 ≤ ms ∧ vc_M_name c2 s2 z2 r (fun z3 => vK2 K_ E_ mc ms r z3 (c + c1 + c2) (tt + s1 + s2)) E_))
theorem J_block (hW : rW t n nTp so W) (hWT : W ≤ nT) (hT : nT < 2 ^ 30) {gI : pG1} {d : Nat} (hd : d + 1 ≤ 30) (hS : hSt t n nTp so W nT gI (d + 1)) {j : Nat} (hj : j < W) (hs : so j = 262) :
    JK t n nTp so W nT zM zm (fun _ st => gBlock (fun p st => gItemsL gI so W nT p W st) so W nT st) vBk j d d 0 (-1) 0 0 := by
  have s := JK_nodeB (Z := zM) (zc := zm) (e := 0) (q := 0) hW hWT hT (fun hj2 => bk_i hW hWT hT hd hS hj2) ff_b7 hj hs (by omega) (by omega) (by omega) (by omega)
  have s2 := JK_w s (Int.le_refl _) (show (-1 + -1 - 1 : Int) ≤ -1 by omega) (show (-4 + 0 - 7 : Int) ≤ 0 by omega) (Int.le_refl _)
  refine JK_cg (v' := vBk) s2 (fun p N hp => ?_) (fun Q nR nN nd K_ E_ mc ms p zs c tt hZ h hv => hv)
  rw [show p = -1 from hp]; rfl
end
