section
variable {t : FN} {n nTp : Nat} {so : FN} {W nT : Nat}
def vU1 : SV := fun cont E_ mc ms p z c t => ∃ c2 s2 : Nat, c + c2 ≤ mc ∧ t + s2 ≤ ms ∧ vc_M_fraction c2 s2 z p (fun _ z5 => cont z5 (c + c2) (t + s2)) E_
def vU2 : SV := fun cont E_ mc ms p z c t => vc_M_isKey z 12 (fun r => vc_M_pass z r (fun z4 => vU1 cont E_ mc ms p z4 c t) E_)
def vU3 : SV := fun cont E_ mc ms p z c t => ∃ c1 s1 : Nat, c + c1 ≤ mc ∧ t + s1 ≤ ms ∧ vc_M_whole c1 s1 z p (fun _ z3 => vU2 cont E_ mc ms p z3 (c + c1) (t + s1)) E_
theorem ff_u2 (p : Int32) : ff (fun st => gFraction so nT p 0 (gTake so 268 st)) := ff_c (f := gTake so 268) (g := gFraction so nT p 0) (ff_take (by decide)) ff_fraction
theorem ff_u3 (p : Int32) : ff (fun st => gFraction so nT p 0 (gTake so 268 (gWhole (g33 so W nT) nT p 0 st))) := ff_c (f := gWhole (g33 so W nT) nT p 0) (g := fun st => gFraction so nT p 0 (gTake so 268 st)) (ff_whole (ff_lv so W nT 33).1) (ff_u2 p)
theorem tl_a (hW : rW t n nTp so W) (hWT : W ≤ nT) {Z : ZP} {zc : Int32 → Prop} (hzs : zS Z) {j d : Nat} (hj : j < W) : JQ t n nTp so W nT Z zc (fun p st => gFraction so nT p 0 (gTake so 268 st)) vU2 j d d 0 (-1 + 1) (-4 + 0) 0 := by
  have s := JQ_seq (Z := Z) (zc := zc) (S_key (nT := nT) (x := 268) (y := 12) hW 12 (by decide) rfl rfl (d := d) hj 0 0) (fun j2 _ hj2 => S_frac (nT := nT) (d := d) (e := 0) (q := -1) hW hWT hj2 (by omega) (by omega)) (fun p => ff_fraction) (by omega) hzs (by omega)
  exact s
theorem tl_b (hW : rW t n nTp so W) (hWT : W ≤ nT) {Z : ZP} {zc : Int32 → Prop} (hzs : zS Z) {j d : Nat} (hj : j < W) (hd : d ≤ 30) : JQ t n nTp so W nT Z zc (fun p st => gFraction so nT p 0 (gTake so 268 (gWhole (g33 so W nT) nT p 0 st))) vU3 j d d 0 (1 + (-1 + 1)) (0 + (-4 + 0)) (-1) := by
  have s := JQ_seq (Z := Z) (zc := zc) (S_whole hW hWT hj hd (e := 0) (q := -1) (by omega) (by omega)) (fun j2 _ hj2 => tl_a (nT := nT) hW hWT hzs hj2) ff_u2 (by omega) hzs (by omega)
  exact s
theorem ff_TL {p : Int32} : ∀ f, ff (gTrainL so W nT p f)
  | 0 => ff_id
  | f + 1 => ff_if (c := fun st => psS so st = 269) (fun j d N => by rw [ps_f]; decide) ff_id
def vU53 (f : Nat) : SV := fun cont E_ mc ms p z c t => vL53 mc ms cont E_ f p z c t
theorem tl_c (hW : rW t n nTp so W) (hWT : W ≤ nT) {Z : ZP} {zc : Int32 → Prop} (hzs : zS Z) {d : Nat} (hd : d ≤ 30) : ∀ k j, j < W → W ≤ k + j → ∀ f, W ≤ f + j → JQ t n nTp so W nT Z zc (fun p st => gTrainL so W nT p f st) (vU53 (f + 1)) j d d 0 0 0 0 := by
  intro k
  induction k with
  | zero => intro j hj hk; omega
  | succ k ih =>
    intro j hj hk f hf
    obtain ⟨f, rfl⟩ : ∃ g, f = g + 1 := ⟨f - 1, by omega⟩
    by_cases h : so j = 269
    · have s1 : ∀ j1, j < j1 → j1 < W → JQ t n nTp so W nT Z zc (fun p st => gTrainL so W nT p f (gFraction so nT p 0 (gTake so 268 (gWhole (g33 so W nT) nT p 0 st)))) _ j1 d d 0 (1 + (-1 + 1) + 0) (0 + (-4 + 0) + 0) (-1) :=
        fun j1 hj1 hj2 => JQ_seq (Z := Z) (zc := zc) (tl_b (nT := nT) hW hWT hzs hj2 hd) (fun j2 hj3 hj4 => ih j2 hj4 (by omega) f (by omega)) (fun p => ff_TL f) (by omega) hzs (by omega)
      have s2 := JQ_seqS (Z := Z) (zc := zc) (S_step (nT := nT) hW (x := 269) (by decide) (by decide) (d := d) hj h 0 0) (Int.le_refl _) s1 (fun p => ff_c (f := fun st => gFraction so nT p 0 (gTake so 268 (gWhole (g33 so W nT) nT p 0 st))) (g := gTrainL so W nT p f) (ff_u3 p) (ff_TL f)) (by omega) hzs (by omega)
      have s3 := JQ_w s2 (Int.le_refl _) (show (-1 + (1 + (-1 + 1) + 0) : Int) ≤ 0 by omega) (show (-4 + (0 + (-4 + 0) + 0) : Int) ≤ 0 by omega) (Int.le_refl _)
      refine JQ_cg (v' := vU53 (f + 1 + 1)) s3 (fun p N hp => ?_) (fun Q nR nN nd cont E_ mc ms p zs c tt hZ h2 hv => ?_)
      · have hj1 : psS so (j, false, nI d, N) = 269 := h
        show (if psS so (j, false, nI d, N) = 269 then _ else _) = _
        rw [if_pos hj1]
      · unfold vU53 vL53
        exact q_isKey (k := 13) h2.2.1 (by decide) (fun _ => ⟨fun q => absurd q (by decide), fun _ => hv⟩) (fun q => absurd h q)
    · refine JQ_id hj (fun p N _ => ?_) (fun Q nR nN nd cont E_ mc ms p zs c tt _ h2 hv => ?_)
      · have hj1 : ¬ psS so (j, false, nI d, N) = 269 := h
        show (if psS so (j, false, nI d, N) = 269 then _ else _) = _
        rw [if_neg hj1]
      · unfold vU53 vL53
        exact q_isKey (k := 13) h2.2.1 (by decide) (fun q => absurd q h) (fun _ => ⟨fun _ => hv, fun q => absurd rfl q⟩)
def vT1 : SV := fun cont E_ mc ms p z c t => ∃ n_, vL53 mc ms (fun z c t => v94 cont E_ mc ms p z c t) E_ n_ p z c t
def vT1e (f : Nat) : SV := fun cont E_ mc ms p z c t => vU53 f (fun z c t => v94 cont E_ mc ms p z c t) E_ mc ms p z c t
def vT2 : SV := fun cont E_ mc ms p z c t => ∃ c2 s2 : Nat, c + c2 ≤ mc ∧ t + s2 ≤ ms ∧ vc_M_fraction c2 s2 z p (fun _ z5 => vT1 cont E_ mc ms p z5 (c + c2) (t + s2)) E_
def vT3 : SV := fun cont E_ mc ms p z c t => vc_M_isKey z 12 (fun r => vc_M_pass z r (fun z4 => vT2 cont E_ mc ms p z4 c t) E_)
def vT4 : SV := fun cont E_ mc ms p z c t => ∃ c1 s1 : Nat, c + c1 ≤ mc ∧ t + s1 ≤ ms ∧ vc_M_whole c1 s1 z p (fun _ z3 => vT3 cont E_ mc ms p z3 (c + c1) (t + s1)) E_
def vT5 : SV := fun cont E_ mc ms p z c t => vc_M_isKey z 11 (fun r => vc_M_pass z r (fun z4 => vT4 cont E_ mc ms p z4 c t) E_)
def vT6 : SV := fun cont E_ mc ms p z c t => vc_M_isKey z 9 (fun r => vc_M_pass z r (fun z4 => vT5 cont E_ mc ms p z4 c t) E_)
def vT7 : SV := fun cont E_ mc ms p zs c tt => ∃ c1 s1 : Nat, c + c1 ≤ mc ∧ tt + s1 ≤ ms ∧ vc_M_piece c1 s1 zs 0 p (fun r z => vT6 cont E_ mc ms r z (c + c1) (tt + s1))
theorem ff_v1 (p : Int32) : ff (fun st => gTrainE so nT p (gTrainL so W nT p W st)) := ff_c (f := gTrainL so W nT p W) (g := fun st => gTrainE so nT p st) (ff_TL W) (ff_tE p)
theorem ff_v2 (p : Int32) : ff (fun st => gTrainE so nT p (gTrainL so W nT p W (gFraction so nT p 0 st))) := ff_c (f := gFraction so nT p 0) (g := fun st => gTrainE so nT p (gTrainL so W nT p W st)) ff_fraction (ff_v1 p)
theorem ff_v3 (p : Int32) : ff (fun st => gTrainE so nT p (gTrainL so W nT p W (gFraction so nT p 0 (gTake so 268 st)))) := ff_c (f := gTake so 268) (g := fun st => gTrainE so nT p (gTrainL so W nT p W (gFraction so nT p 0 st))) (ff_take (by decide)) (ff_v2 p)
theorem ff_v4 (p : Int32) : ff (fun st => gTrainE so nT p (gTrainL so W nT p W (gFraction so nT p 0 (gTake so 268 (gWhole (g33 so W nT) nT p 0 st))))) := ff_c (f := gWhole (g33 so W nT) nT p 0) (g := fun st => gTrainE so nT p (gTrainL so W nT p W (gFraction so nT p 0 (gTake so 268 st)))) (ff_whole (ff_lv so W nT 33).1) (ff_v3 p)
theorem ff_v5 (p : Int32) : ff (fun st => gTrainE so nT p (gTrainL so W nT p W (gFraction so nT p 0 (gTake so 268 (gWhole (g33 so W nT) nT p 0 (gTake so 267 st)))))) := ff_c (f := gTake so 267) (g := fun st => gTrainE so nT p (gTrainL so W nT p W (gFraction so nT p 0 (gTake so 268 (gWhole (g33 so W nT) nT p 0 st))))) (ff_take (by decide)) (ff_v4 p)
theorem tr_a (hW : rW t n nTp so W) (hWT : W ≤ nT) {Z : ZP} {zc : Int32 → Prop} (hzs : zS Z) {j d : Nat} (hj : j < W) (hd : d ≤ 30) : JQ t n nTp so W nT Z zc (fun p st => gTrainE so nT p (gTrainL so W nT p W st)) (vT1e (W + 1)) j d d 0 (0 + (0 + (0 + (0 + -1)))) (0 + (0 + (0 + (0 + -4)))) 0 := by
  have s := JQ_seq (Z := Z) (zc := zc) (tl_c (nT := nT) hW hWT hzs hd W j hj (by omega) W (by omega)) (fun j2 _ hj2 => te_d (nT := nT) hW hWT hzs hj2) ff_tE (by omega) hzs (by omega)
  exact s
theorem tr_b (hW : rW t n nTp so W) (hWT : W ≤ nT) {Z : ZP} {zc : Int32 → Prop} (hzs : zS Z) {j d : Nat} (hj : j < W) (hd : d ≤ 30) : JQ t n nTp so W nT Z zc (fun p st => gTrainE so nT p (gTrainL so W nT p W st)) vT1 j d d 0 (-1) (-4) 0 :=
  JQ_cg (v' := vT1) (JQ_w (tr_a (nT := nT) hW hWT hzs hj hd) (Int.le_refl _) (by omega) (by omega) (Int.le_refl _)) (fun _ _ _ => Eq.refl _) (fun Q nR nN nd cont E_ mc ms p zs c tt hZ h hv => ⟨W + 1, hv⟩)
theorem tr_c (hW : rW t n nTp so W) (hWT : W ≤ nT) {Z : ZP} {zc : Int32 → Prop} (hzs : zS Z) {j d : Nat} (hj : j < W) (hd : d ≤ 30) : JQ t n nTp so W nT Z zc (fun p st => gTrainE so nT p (gTrainL so W nT p W (gFraction so nT p 0 st))) vT2 j d d 0 (1 + -1) (0 + -4) (-1) := by
  have s := JQ_seq (Z := Z) (zc := zc) (S_frac (nT := nT) (d := d) (e := 0) (q := -1) hW hWT hj (by omega) (by omega)) (fun j2 _ hj2 => tr_b (nT := nT) hW hWT hzs hj2 hd) ff_v1 (by omega) hzs (by omega)
  exact s
theorem tr_d (hW : rW t n nTp so W) (hWT : W ≤ nT) {Z : ZP} {zc : Int32 → Prop} (hzs : zS Z) {j d : Nat} (hj : j < W) (hd : d ≤ 30) : JQ t n nTp so W nT Z zc (fun p st => gTrainE so nT p (gTrainL so W nT p W (gFraction so nT p 0 (gTake so 268 st)))) vT3 j d d 0 (-1 + (1 + -1)) (-4 + (0 + -4)) 0 := by
  have s := JQ_seq (Z := Z) (zc := zc) (S_key (nT := nT) (x := 268) (y := 12) hW 12 (by decide) rfl rfl (d := d) hj 0 0) (fun j2 _ hj2 => tr_c (nT := nT) hW hWT hzs hj2 hd) ff_v2 (by omega) hzs (by omega)
  exact s
theorem tr_e (hW : rW t n nTp so W) (hWT : W ≤ nT) {Z : ZP} {zc : Int32 → Prop} (hzs : zS Z) {j d : Nat} (hj : j < W) (hd : d ≤ 30) : JQ t n nTp so W nT Z zc (fun p st => gTrainE so nT p (gTrainL so W nT p W (gFraction so nT p 0 (gTake so 268 (gWhole (g33 so W nT) nT p 0 st))))) vT4 j d d 0 (1 + (-1 + (1 + -1))) (0 + (-4 + (0 + -4))) (-1) := by
  have s := JQ_seq (Z := Z) (zc := zc) (S_whole hW hWT hj hd (e := 0) (q := -1) (by omega) (by omega)) (fun j2 _ hj2 => tr_d (nT := nT) hW hWT hzs hj2 hd) ff_v3 (by omega) hzs (by omega)
  exact s
theorem tr_f (hW : rW t n nTp so W) (hWT : W ≤ nT) {Z : ZP} {zc : Int32 → Prop} (hzs : zS Z) {j d : Nat} (hj : j < W) (hd : d ≤ 30) : JQ t n nTp so W nT Z zc (fun p st => gTrainE so nT p (gTrainL so W nT p W (gFraction so nT p 0 (gTake so 268 (gWhole (g33 so W nT) nT p 0 (gTake so 267 st)))))) vT5 j d d 0 (-1 + (1 + (-1 + (1 + -1)))) (-4 + (0 + (-4 + (0 + -4)))) 0 := by
  have s := JQ_seq (Z := Z) (zc := zc) (S_key (nT := nT) (x := 267) (y := 11) hW 11 (by decide) rfl rfl (d := d) hj 0 0) (fun j2 _ hj2 => tr_e (nT := nT) hW hWT hzs hj2 hd) ff_v4 (by omega) hzs (by omega)
  exact s
theorem tr_g (hW : rW t n nTp so W) (hWT : W ≤ nT) {Z : ZP} {zc : Int32 → Prop} (hzs : zS Z) {j d : Nat} (hj : j < W) (hd : d ≤ 30) : JQ t n nTp so W nT Z zc (fun p st => gTrainE so nT p (gTrainL so W nT p W (gFraction so nT p 0 (gTake so 268 (gWhole (g33 so W nT) nT p 0 (gTake so 267 (gTake so 265 st))))))) vT6 j d d 1 (-1 + (-1 + (1 + (-1 + (1 + -1))))) (-4 + (-4 + (0 + (-4 + (0 + -4))))) 1 := by
  have s := JQ_seq (Z := Z) (zc := zc) (S_key (nT := nT) (x := 265) (y := 9) hW 9 (by decide) rfl rfl (d := d) hj 1 1) (fun j2 _ hj2 => tr_f (nT := nT) hW hWT hzs hj2 hd) ff_v5 (by omega) hzs (by omega)
  exact s
theorem J_train (hW : rW t n nTp so W) (hWT : W ≤ nT) (hT : nT < 2 ^ 30) {j d : Nat} (hj : j < W) (hd : d ≤ 30) : JQ t n nTp so W nT zM zm (fun _ st => gTrain so W nT st) vT7 j d d 0 (-1) 0 0 := by
  have s := JQ_node (Z := zM) (zc := zm) hW hWT hT 0 rfl (tr_g (nT := nT) hW hWT (zK_s 0) hj hd) hj (e := 0) (q := 0) (by omega) (by omega) (by omega) (by omega)
  have s2 := JQ_w s (Int.le_refl _) (show (-1 + (-1 + (1 + (-1 + (1 + -1)))) + 1 : Int) ≤ -1 by omega) (show (-4 + (-4 + (0 + (-4 + (0 + -4)))) + 1 : Int) ≤ 0 by omega) (Int.le_refl _)
  refine JQ_cg (v' := vT7) s2 (fun p N hp => ?_) (fun Q nR nN nd cont E_ mc ms p zs c tt hZ h hv => hv)
  rw [show p = -1 from hp]; rfl
def vTT (L : Int32 → RS → Nat → Nat → Prop) (E_ : RS → Prop) (mc ms : Nat) (z0 : RS) : Prop :=
  (∃ c_5 s_6 : Nat, 0 + c_5 ≤ mc ∧ 0 + s_6 ≤ ms ∧ (vc_M_piece c_5 s_6 z0 0 (-1) (fun r_3 zs_4 => (vc_M_isKey zs_4 9 (fun r_7 => (vc_M_pass zs_4 r_7 (fun zs_9 => (vc_M_isKey zs_9 11 (fun r_10 => (vc_M_pass zs_9 r_10 (fun zs_12 => (∃ c_15 s_16 : Nat, 0 + c_5 + c_15 ≤ mc ∧ 0 + s_6 + s_16 ≤ ms ∧ (vc_M_whole c_15 s_16 zs_12 r_3 (fun r_13 zs_14 => (vc_M_isKey zs_14 12 (fun r_17 => (vc_M_pass zs_14 r_17 (fun zs_19 => (∃ c_22 s_23 : Nat, 0 + c_5 + c_15 + c_22 ≤ mc ∧ 0 + s_6 + s_16 + s_23 ≤ ms ∧ (vc_M_fraction c_22 s_23 zs_19 r_3 (fun r_20 zs_21 => L r_3 zs_21 (0 + c_5 + c_15 + c_22) (0 + s_6 + s_16 + s_23)) E_))) E_)))) E_))) E_)))) E_))))))
theorem tt_a {cont : RS → Nat → Nat → Prop} {E_ : RS → Prop} {mc ms : Nat} {zs : RS} : vT7 cont E_ mc ms (-1) zs 0 0 = vTT (fun p z c t => vT1 cont E_ mc ms p z c t) E_ mc ms zs := rfl
theorem tt_b {K_ E_ : RS → Prop} {mc ms : Nat} {zs : RS} : vc_M_text mc ms zs K_ E_ = vc_M_next zs (fun z => vTT (fun p z c t => ∃ n_, vl_M_text_53 mc ms K_ E_ n_ p z c t) E_ mc ms z) := rfl
theorem tt_c {K_ E_ : RS → Prop} {mc ms : Nat} {zs : RS} (h : vT7 (vX94 K_ E_ mc ms) E_ mc ms (-1) zs 0 0) : vTT (fun p z c t => ∃ n_, vl_M_text_53 mc ms K_ E_ n_ p z c t) E_ mc ms zs := by
  rw [tt_a] at h
  have e : (fun p z c t => vT1 (vX94 K_ E_ mc ms) E_ mc ms p z c t) = (fun p z c t => ∃ n_, vl_M_text_53 mc ms K_ E_ n_ p z c t) :=
    funext fun p => funext fun z => funext fun c => funext fun t => congrArg (fun (P : Nat → Prop) => ∃ n_, P n_) (funext fun n_ => lp53 n_ p z c t)
  exact cast (congrArg (fun L => vTT L E_ mc ms zs) e) h
def vX9 : KV := fun K_ E_ mc ms _ z c t => vX94 K_ E_ mc ms z c t
def vTt : KV := fun K_ E_ mc ms p z c t => vT7 (fun z c t => vX9 K_ E_ mc ms p z c t) E_ mc ms p z c t
theorem J_text0 (hW : rW t n nTp so W) (hWT : W ≤ nT) (hT : nT < 2 ^ 30) : JK t n nTp so W nT zM zm (fun _ st => gIL so W nT W (gTrain so W nT st)) vTt 0 0 0 0 (-1 + 0) (0 + 0) 0 := by
  have hI : ∀ j1, 0 ≤ j1 → j1 < W → JK t n nTp so W nT zM zm (fun _ st => gIL so W nT W st) vX9 j1 0 0 0 0 0 0 := fun j1 _ hj1 =>
    JK_cg (v' := vX9) (J_IL hW hWT hT W j1 hj1 (by omega) W (by omega)) (fun _ _ _ => Eq.refl _) (fun Q nR nN nd K_ E_ mc ms p zs c tt hZ h hv => ⟨W + 1, hv⟩)
  have s := JK_seq (Z := zM) (zc := zm) (J_train (nT := nT) hW hWT hT (by have := hW.2.2.1; omega) (d := 0) (by omega)) hI ff_IL (by omega) zM_s (by omega)
  exact s
theorem q_first {zs : RS} {nR nN : Nat} {K_ : RS → Prop} (hW : rW t n nTp so W) (hC : RC t n nTp nR nN zs) (ho : zs.op = 0) (hc : zs.ct = 0) (hd : zs.nd = 0) (hf : zs.fa = 0) (hp : zs.pl = -1) (ha : zs.at_ = 0) (kk : ∀ z, RP t n nTp so [] nR nN 0 0 0 z → K_ z) : vc_M_next zs K_ := by
  have h1 := hC.1
  have h2 := hC.2.1
  have w := (hW.2.2.2.2.2 0 (by have := hW.2.2.1; omega)).1
  subst h1
  subst h2
  refine r_next (zs := zs) (n := n) (a := 0) ⟨hC.2.2.1, hW.1⟩ (by omega) ha w (fun kd ky htk => kk _ ⟨⟨hC, ho, hc, by simp, hd, by omega, hf, hp, fun i a hi => by simp at hi⟩, ⟨rfl, rfl, htk⟩, by omega⟩)
end
