def vL94 (mc ms : Nat) (EX : RS → Nat → Nat → Prop) (E_ : RS → Prop) : Nat → Int32 → Int32 → RS → Nat → Nat → Prop
  | 0 => fun _ _ _ _ _ => False
  | f + 1 => fun p y z c t =>
  ((16 < y → (vc_M_is z 59 (fun r => (vc_M_pass z r (fun z2 => EX z2 c t) E_)))) ∧ (¬ 16 < y → (vc_M_isKey z y (fun r => ((r = 0 → vL94 mc ms EX E_ f p (y + 1) z c t) ∧ (¬ r = 0 → (vc_M_next z (fun z2 => (∃ c1 s1 : Nat, c + c1 ≤ mc ∧ t + s1 ≤ ms ∧ (vc_M_fraction c1 s1 z2 p (fun _ z3 => vL94 mc ms EX E_ f p (y + 1) z3 (c + c1) (t + s1)) E_))))))))) )
def vL53 (mc ms : Nat) (EX : RS → Nat → Nat → Prop) (E_ : RS → Prop) : Nat → Int32 → RS → Nat → Nat → Prop
  | 0 => fun _ _ _ _ => False
  | f + 1 => fun p z c t =>
  (vc_M_isKey z 13 (fun r => ((r = 0 → EX z c t) ∧ (¬ r = 0 → (vc_M_next z (fun z2 => (∃ c1 s1 : Nat, c + c1 ≤ mc ∧ t + s1 ≤ ms ∧ (vc_M_whole c1 s1 z2 p (fun _ z3 => (vc_M_isKey z3 12 (fun r2 => (vc_M_pass z3 r2 (fun z4 => (∃ c2 s2 : Nat, c + c1 + c2 ≤ mc ∧ t + s1 + s2 ≤ ms ∧ (vc_M_fraction c2 s2 z4 p (fun _ z5 => vL53 mc ms EX E_ f p z5 (c + c1 + c2) (t + s1 + s2)) E_))) E_)))) E_))))))))
def vX94 (K_ E_ : RS → Prop) (mc ms : Nat) : RS → Nat → Nat → Prop := fun z c t => ∃ n_, vl_M_text_134 mc ms K_ E_ n_ z c t
theorem lp94 {K_ E_ : RS → Prop} {mc ms : Nat} : ∀ f p y z c t, vL94 mc ms (vX94 K_ E_ mc ms) E_ f p y z c t = vl_M_text_94 mc ms K_ E_ f p y z c t
  | 0, _, _, _, _, _ => rfl
  | f + 1, p, y, z, c, t => by
    have e : (vL94 mc ms (vX94 K_ E_ mc ms) E_ f) = vl_M_text_94 mc ms K_ E_ f := funext fun p => funext fun y => funext fun z => funext fun c => funext fun t => lp94 f p y z c t
    have F := congrArg (fun (L : Int32 → Int32 → RS → Nat → Nat → Prop) => ((16 < y → (vc_M_is z 59 (fun r => (vc_M_pass z r (fun z2 => vX94 K_ E_ mc ms z2 c t) E_)))) ∧ (¬ 16 < y → (vc_M_isKey z y (fun r => ((r = 0 → L p (y + 1) z c t) ∧ (¬ r = 0 → (vc_M_next z (fun z2 => (∃ c1 s1 : Nat, c + c1 ≤ mc ∧ t + s1 ≤ ms ∧ (vc_M_fraction c1 s1 z2 p (fun _ z3 => L p (y + 1) z3 (c + c1) (t + s1)) E_)))))))))) ) e
    exact F
def vX53 (K_ E_ : RS → Prop) (mc ms : Nat) (p : Int32) : RS → Nat → Nat → Prop := fun z c t => ∃ n_, vL94 mc ms (vX94 K_ E_ mc ms) E_ n_ p 14 z c t
theorem lp53 {K_ E_ : RS → Prop} {mc ms : Nat} : ∀ f p z c t, vL53 mc ms (vX53 K_ E_ mc ms p) E_ f p z c t = vl_M_text_53 mc ms K_ E_ f p z c t
  | 0, _, _, _, _ => rfl
  | f + 1, p, z, c, t => by
    have e : (vL53 mc ms (vX53 K_ E_ mc ms p) E_ f p) = vl_M_text_53 mc ms K_ E_ f p := funext fun z => funext fun c => funext fun t => lp53 f p z c t
    have e2 : vX53 K_ E_ mc ms p z c t = (∃ n_, vl_M_text_94 mc ms K_ E_ n_ p 14 z c t) := congrArg (fun (P : Nat → Prop) => ∃ n_, P n_) (funext fun n_ => lp94 n_ p 14 z c t)
    have F := congrArg (fun (L : RS → Nat → Nat → Prop) => (vc_M_isKey z 13 (fun r => ((r = 0 → vX53 K_ E_ mc ms p z c t) ∧ (¬ r = 0 → (vc_M_next z (fun z2 => (∃ c1 s1 : Nat, c + c1 ≤ mc ∧ t + s1 ≤ ms ∧ (vc_M_whole c1 s1 z2 p (fun _ z3 => (vc_M_isKey z3 12 (fun r2 => (vc_M_pass z3 r2 (fun z4 => (∃ c2 s2 : Nat, c + c1 + c2 ≤ mc ∧ t + s1 + s2 ≤ ms ∧ (vc_M_fraction c2 s2 z4 p (fun _ z5 => L z5 (c + c1 + c2) (t + s1 + s2)) E_))) E_)))) E_))))))))) e
    have G := congrArg (fun (X : Prop) => (vc_M_isKey z 13 (fun r => ((r = 0 → X) ∧ (¬ r = 0 → (vc_M_next z (fun z2 => (∃ c1 s1 : Nat, c + c1 ≤ mc ∧ t + s1 ≤ ms ∧ (vc_M_whole c1 s1 z2 p (fun _ z3 => (vc_M_isKey z3 12 (fun r2 => (vc_M_pass z3 r2 (fun z4 => (∃ c2 s2 : Nat, c + c1 + c2 ≤ mc ∧ t + s1 + s2 ≤ ms ∧ (vc_M_fraction c2 s2 z4 p (fun _ z5 => vl_M_text_53 mc ms K_ E_ f p z5 (c + c1 + c2) (t + s1 + s2)) E_))) E_)))) E_))))))))) e2
    exact F.trans G
section
variable {t : FN} {n nTp : Nat} {so : FN} {W nT : Nat}
def vFB (y : Int32) : SV := fun cont E_ mc ms p z c t => vc_M_isKey z y (fun r => ((r = 0 → cont z c t) ∧ (¬ r = 0 → (vc_M_next z (fun z2 => (∃ c1 s1 : Nat, c + c1 ≤ mc ∧ t + s1 ≤ ms ∧ (vc_M_fraction c1 s1 z2 p (fun _ z3 => cont z3 (c + c1) (t + s1)) E_)))))))
theorem S_fracB (hW : rW t n nTp so W) (hWT : W ≤ nT) {Z : ZP} {zc : Int32 → Prop} (hzs : zS Z) {x y : Int32} (k : Nat) (hk : k < 17) (hx : x = nI (256 + k)) (hy : y = nI k) {j d : Nat} (hj : j < W) {e q : Int} (he : e ≤ 4) (hq : q ≤ 1) : JQ t n nTp so W nT Z zc (fun p st => gFracB so nT x p st) (vFB y) j d d e 0 0 q := by
  subst hx hy
  have X := key_r k hk
  by_cases h : so j = nI (256 + k)
  · have s1 := JQ_seq (Z := Z) (zc := zc) (S_step (nT := nT) hW X.1 X.2.1 (d := d) hj h e q) (fun j1 _ hj1 => S_frac (nT := nT) (d := d) (e := 0) (q := 0) hW hWT hj1 (by omega) (by omega)) (fun p => ff_fraction) (by omega) hzs (by omega)
    refine JQ_w (JQ_cg s1 (fun p N _ => ?_) (fun Q nR nN nd cont E_ mc ms p zs c tt _ h2 hv => ?_)) (Int.le_refl _) (by omega) (by omega) (Int.le_refl _)
    · show gFracB so nT (nI (256 + k)) p (j, false, nI d, N) = _
      unfold gFracB; rw [ps_g, if_pos h]
    · exact q_isKey h2.2.1 hk (fun _ => ⟨fun q => absurd q (by decide), fun _ => hv⟩) (fun q => absurd h q)
  · refine JQ_id hj (fun p N _ => ?_) (fun Q nR nN nd cont E_ mc ms p zs c tt _ h2 hv => ?_)
    · show gFracB so nT (nI (256 + k)) p (j, false, nI d, N) = _
      unfold gFracB; rw [ps_g, if_neg h]
    · exact q_isKey h2.2.1 hk (fun q => absurd q h) (fun _ => ⟨fun _ => hv, fun q => absurd rfl q⟩)
theorem ff_t3 (p : Int32) : ff (fun st => gTake so 59 (gFracB so nT 272 p st)) := ff_c (f := gFracB so nT 272 p) (g := gTake so 59) (ff_fracB (by decide)) (ff_take (by decide))
theorem ff_t2 (p : Int32) : ff (fun st => gTake so 59 (gFracB so nT 272 p (gFracB so nT 271 p st))) := ff_c (f := gFracB so nT 271 p) (g := fun st => gTake so 59 (gFracB so nT 272 p st)) (ff_fracB (by decide)) (ff_t3 p)
theorem ff_tE (p : Int32) : ff (fun st => gTrainE so nT p st) := ff_c (f := gFracB so nT 270 p) (g := fun st => gTake so 59 (gFracB so nT 272 p (gFracB so nT 271 p st))) (ff_fracB (by decide)) (ff_t2 p)
def vE17 : SV := fun cont E_ mc ms p z c t => vFB 16 (fun z c t => v207 cont E_ mc ms p z c t) E_ mc ms p z c t
def vE16 : SV := fun cont E_ mc ms p z c t => vFB 15 (fun z c t => vE17 cont E_ mc ms p z c t) E_ mc ms p z c t
def vE15 : SV := fun cont E_ mc ms p z c t => vFB 14 (fun z c t => vE16 cont E_ mc ms p z c t) E_ mc ms p z c t
theorem te_a (hW : rW t n nTp so W) (hWT : W ≤ nT) {Z : ZP} {zc : Int32 → Prop} (hzs : zS Z) {j d : Nat} (hj : j < W) : JQ t n nTp so W nT Z zc (fun p st => gTake so 59 (gFracB so nT 272 p st)) vE17 j d d 0 (0 + -1) (0 + -4) 0 := by
  have s := JQ_seq (Z := Z) (zc := zc) (S_fracB (nT := nT) hW hWT hzs (x := 272) (y := 16) 16 (by decide) rfl rfl (d := d) hj (e := 0) (q := 0) (by omega) (by omega)) (fun j2 _ hj2 => S_tok (nT := nT) hW sg_in.2.2.2.2.2.2.2.2.1 (d := d) hj2 0 0) (ff_taken (by decide)) (by omega) hzs (by omega)
  exact s
theorem te_b (hW : rW t n nTp so W) (hWT : W ≤ nT) {Z : ZP} {zc : Int32 → Prop} (hzs : zS Z) {j d : Nat} (hj : j < W) : JQ t n nTp so W nT Z zc (fun p st => gTake so 59 (gFracB so nT 272 p (gFracB so nT 271 p st))) vE16 j d d 0 (0 + (0 + -1)) (0 + (0 + -4)) 0 := by
  have s := JQ_seq (Z := Z) (zc := zc) (S_fracB (nT := nT) hW hWT hzs (x := 271) (y := 15) 15 (by decide) rfl rfl (d := d) hj (e := 0) (q := 0) (by omega) (by omega)) (fun j2 _ hj2 => te_a (nT := nT) hW hWT hzs hj2) ff_t3 (by omega) hzs (by omega)
  exact s
theorem te_c (hW : rW t n nTp so W) (hWT : W ≤ nT) {Z : ZP} {zc : Int32 → Prop} (hzs : zS Z) {j d : Nat} (hj : j < W) : JQ t n nTp so W nT Z zc (fun p st => gTrainE so nT p st) vE15 j d d 0 (0 + (0 + (0 + -1))) (0 + (0 + (0 + -4))) 0 := by
  have s := JQ_seq (Z := Z) (zc := zc) (S_fracB (nT := nT) hW hWT hzs (x := 270) (y := 14) 14 (by decide) rfl rfl (d := d) hj (e := 0) (q := 0) (by omega) (by omega)) (fun j2 _ hj2 => te_b (nT := nT) hW hWT hzs hj2) ff_t2 (by omega) hzs (by omega)
  exact s
def v94 : SV := fun cont E_ mc ms p z c t => ∃ n_, vL94 mc ms cont E_ n_ p 14 z c t
theorem c94 : (¬ (16 : Int32) < 14) ∧ (¬ (16 : Int32) < 15) ∧ (¬ (16 : Int32) < 16) ∧ ((16 : Int32) < 17) ∧ ((14 : Int32) + 1 = 15) ∧ ((15 : Int32) + 1 = 16) ∧ ((16 : Int32) + 1 = 17) := by decide
theorem f94 {mc ms : Nat} {EX : RS → Nat → Nat → Prop} {E_ : RS → Prop} {f : Nat} {p y : Int32} (hy : ¬ 16 < y) {z : RS} {c tt : Nat} : vL94 mc ms EX E_ (f + 1) p y z c tt = vFB y (fun z c t => vL94 mc ms EX E_ f p (y + 1) z c t) E_ mc ms p z c tt :=
  propext ⟨fun h => h.2 hy, fun h => ⟨fun q => absurd q hy, fun _ => h⟩⟩
theorem e94 {mc ms : Nat} {EX : RS → Nat → Nat → Prop} {E_ : RS → Prop} {f : Nat} {p y : Int32} (hy : 16 < y) {z : RS} {c tt : Nat} : vL94 mc ms EX E_ (f + 1) p y z c tt = v207 EX E_ mc ms p z c tt :=
  propext ⟨fun h => h.1 hy, fun h => ⟨fun _ => h, fun q => absurd hy q⟩⟩
theorem g94 {mc ms : Nat} {EX : RS → Nat → Nat → Prop} {E_ : RS → Prop} {p : Int32} {z : RS} {c tt : Nat} : vL94 mc ms EX E_ 4 p 14 z c tt = vE15 EX E_ mc ms p z c tt := by
  have e1 : ∀ z c t, vL94 mc ms EX E_ 1 p 17 z c t = v207 EX E_ mc ms p z c t := fun z c t => e94 c94.2.2.2.1
  have e2 : ∀ z c t, vL94 mc ms EX E_ 2 p 16 z c t = vE17 EX E_ mc ms p z c t := fun z c t => by
    rw [f94 c94.2.2.1, c94.2.2.2.2.2.2]
    exact congrArg (fun (L : RS → Nat → Nat → Prop) => vFB 16 L E_ mc ms p z c t) (funext fun z => funext fun c => funext fun t => e1 z c t)
  have e3 : ∀ z c t, vL94 mc ms EX E_ 3 p 15 z c t = vE16 EX E_ mc ms p z c t := fun z c t => by
    rw [f94 c94.2.1, c94.2.2.2.2.2.1]
    exact congrArg (fun (L : RS → Nat → Nat → Prop) => vFB 15 L E_ mc ms p z c t) (funext fun z => funext fun c => funext fun t => e2 z c t)
  rw [f94 c94.1, c94.2.2.2.2.1]
  exact congrArg (fun (L : RS → Nat → Nat → Prop) => vFB 14 L E_ mc ms p z c tt) (funext fun z => funext fun c => funext fun t => e3 z c t)
theorem te_d (hW : rW t n nTp so W) (hWT : W ≤ nT) {Z : ZP} {zc : Int32 → Prop} (hzs : zS Z) {j d : Nat} (hj : j < W) : JQ t n nTp so W nT Z zc (fun p st => gTrainE so nT p st) v94 j d d 0 (0 + (0 + (0 + -1))) (0 + (0 + (0 + -4))) 0 :=
  JQ_cg (v' := v94) (te_c (nT := nT) hW hWT hzs hj) (fun _ _ _ => Eq.refl _) (fun Q nR nN nd cont E_ mc ms p zs c tt hZ h hv => ⟨4, cast g94.symm hv⟩)
end
