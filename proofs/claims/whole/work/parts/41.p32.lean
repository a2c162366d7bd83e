def zM : ZP := fun _ p => p = -1
def zm : Int32 → Prop := fun p => p = -1
theorem zM_s : zS zM := fun _ _ _ h => h
def vBl : SV := fun cont E_ mc ms p zs c tt => vc_M_isKey zs 10 (fun r => vc_M_pass zs r (fun z => ∃ c1 s1 : Nat, c + c1 ≤ mc ∧ tt + s1 ≤ ms ∧ vc_M_whole c1 s1 z p (fun _ z2 => v207 cont E_ mc ms p z2 (c + c1) (tt + s1)) E_) E_)
def vWh : SV := fun cont E_ mc ms p zs c tt => ∃ c1 s1 : Nat, c + c1 ≤ mc ∧ tt + s1 ≤ ms ∧ vc_M_whole c1 s1 zs p (fun _ z2 => v207 cont E_ mc ms p z2 (c + c1) (tt + s1)) E_
def vIT1 (x : Int32) : SV := fun cont E_ mc ms p zs c tt => (¬ x = 0 → v207 cont E_ mc ms p zs c tt) ∧ (x = 0 → vBl cont E_ mc ms p zs c tt)
def vIT2 (x : Int32) : SV := fun cont E_ mc ms p zs c tt => ∃ c1 s1 : Nat, c + c1 ≤ mc ∧ tt + s1 ≤ ms ∧ vc_M_shape c1 s1 zs p (fun _ z => vIT1 x cont E_ mc ms p z (c + c1) (tt + s1)) E_
def vIT3 (x : Int32) : SV := fun cont E_ mc ms p zs c tt => ∃ c1 s1 : Nat, c + c1 ≤ mc ∧ tt + s1 ≤ ms ∧ vc_M_namePiece c1 s1 zs p 0 (fun _ z => vIT2 x cont E_ mc ms p z (c + c1) (tt + s1)) E_
def vIT4 (x : Int32) : SV := fun cont E_ mc ms p zs c tt => vc_M_next zs (fun z => vIT3 x cont E_ mc ms p z c tt)
def vIT5 (x kd : Int32) : SV := fun cont E_ mc ms p zs c tt => ∃ c1 s1 : Nat, c + c1 ≤ mc ∧ tt + s1 ≤ ms ∧ vc_M_piece c1 s1 zs kd p (fun r z => vIT4 x cont E_ mc ms r z (c + c1) (tt + s1))
theorem ff_i3 {so : FN} {W nT : Nat} (p : Int32) : ff (fun st => gTake so 59 (gShape (g33 so W nT) so W nT p st)) := ff_c (f := gShape (g33 so W nT) so W nT p) (g := gTake so 59) (ff_shape (ff_lv so W nT 33).1) (ff_take (by decide))
theorem ff_i2 {so : FN} {W nT : Nat} (p : Int32) : ff (fun st => gTake so 59 (gShape (g33 so W nT) so W nT p (gName so nT p 0 st))) := ff_c (f := gName so nT p 0) (g := fun st => gTake so 59 (gShape (g33 so W nT) so W nT p st)) ff_name (ff_i3 p)
section
variable {t : FN} {n nTp : Nat} {so : FN} {W nT : Nat}
theorem in_a (hW : rW t n nTp so W) {Z : ZP} {zc : Int32 → Prop} {j d : Nat} (hj : j < W) : JQ t n nTp so W nT Z zc (fun _ st => gTake so 59 st) (vIT1 1) j d d 1 (-1) (-4) 1 :=
  JQ_cg (v' := vIT1 1) (S_tok (nT := nT) hW sg_in.2.2.2.2.2.2.2.2.1 (d := d) hj 1 1) (fun _ _ _ => Eq.refl _) (fun Q nR nN nd cont E_ mc ms p zs c tt hZ h hv => ⟨fun _ => hv, fun q => absurd q (by decide)⟩)
theorem in_b (hW : rW t n nTp so W) (hWT : W ≤ nT) {j d : Nat} (hj : j < W) (hd : d ≤ 30) : JQ t n nTp so W nT (zK 1) (fun p => p ≠ -1) (fun p st => gTake so 59 (gShape (g33 so W nT) so W nT p st)) (vIT2 1) j d d 0 (0 + -1) (0 + -4) 0 := by
  have s := JQ_seq (Z := zK 1) (zc := fun p => p ≠ -1) (S_shape hW hWT hj hd (e := 0) (q := 0) (by omega) (by omega)) (fun j2 _ hj2 => in_a (nT := nT) hW hj2) (ff_taken (by decide)) (by omega) (zK_s 1) (by omega)
  exact s
theorem in_c (hW : rW t n nTp so W) (hWT : W ≤ nT) {j d : Nat} (hj : j < W) (hd : d ≤ 30) : JQ t n nTp so W nT (zK 1) (fun p => p ≠ -1) (fun p st => gTake so 59 (gShape (g33 so W nT) so W nT p (gName so nT p 0 st))) (vIT3 1) j d d 0 (0 + (0 + -1)) (-3 + (0 + -4)) 0 := by
  have s := JQ_seq (Z := zK 1) (zc := fun p => p ≠ -1) (S_name hW hWT 0 hj (e := 0) (q := 0) (by omega) (by omega)) (fun j2 _ hj2 => in_b hW hWT hj2 hd) ff_i3 (by omega) (zK_s 1) (by omega)
  exact s
theorem in_d (hW : rW t n nTp so W) (hWT : W ≤ nT) {j d : Nat} (hj : j < W) (hd : d ≤ 30) (hs : so j = 257) : JQ t n nTp so W nT (zK 1) (fun p => p ≠ -1) (fun p st => gTake so 59 (gShape (g33 so W nT) so W nT p (gName so nT p 0 (gTake so 257 st)))) (vIT4 1) j d d 1 (-1 + (0 + (0 + -1))) (-4 + (-3 + (0 + -4))) 1 := by
  have s := JQ_seq (Z := zK 1) (zc := fun p => p ≠ -1) (S_next (nT := nT) hW (x := 257) (by decide) (by decide) (d := d) hj hs 1 1) (fun j2 _ hj2 => in_c hW hWT hj2 hd) ff_i2 (by omega) (zK_s 1) (by omega)
  exact s
theorem J_input (hW : rW t n nTp so W) (hWT : W ≤ nT) (hT : nT < 2 ^ 30) {j d : Nat} (hj : j < W) (hd : d ≤ 30) (hs : so j = 257) : JQ t n nTp so W nT zM zm (fun _ st => gInput so W nT st) (vIT5 1 1) j d d 0 (-1) 0 0 := by
  have s := JQ_node (Z := zM) (zc := zm) hW hWT hT 1 rfl (in_d hW hWT hj hd hs) hj (e := 0) (q := 0) (by omega) (by omega) (by omega) (by omega)
  have s2 := JQ_w s (Int.le_refl _) (show (-1 + (0 + (0 + -1)) + 1 : Int) ≤ -1 by omega) (show (-4 + (-3 + (0 + -4)) + 1 : Int) ≤ 0 by omega) (Int.le_refl _)
  refine JQ_cg (v' := vIT5 1 1) s2 (fun p N hp => ?_) (fun Q nR nN nd cont E_ mc ms p zs c tt hZ h hv => hv)
  rw [show p = -1 from hp]; rfl
theorem ff_x4 (p : Int32) : ff (fun st => gTake so 59 (gWhole (g33 so W nT) nT p 0 st)) := ff_c (f := gWhole (g33 so W nT) nT p 0) (g := gTake so 59) (ff_whole (ff_lv so W nT 33).1) (ff_take (by decide))
theorem ff_x3 (p : Int32) : ff (fun st => gTake so 59 (gWhole (g33 so W nT) nT p 0 (gTake so 266 st))) := ff_c (f := gTake so 266) (g := fun st => gTake so 59 (gWhole (g33 so W nT) nT p 0 st)) (ff_take (by decide)) (ff_x4 p)
theorem ff_x2 (p : Int32) : ff (fun st => gTake so 59 (gWhole (g33 so W nT) nT p 0 (gTake so 266 (gShape (g33 so W nT) so W nT p st)))) := ff_c (f := gShape (g33 so W nT) so W nT p) (g := fun st => gTake so 59 (gWhole (g33 so W nT) nT p 0 (gTake so 266 st))) (ff_shape (ff_lv so W nT 33).1) (ff_x3 p)
theorem ff_x1 (p : Int32) : ff (fun st => gTake so 59 (gWhole (g33 so W nT) nT p 0 (gTake so 266 (gShape (g33 so W nT) so W nT p (gName so nT p 0 st))))) := ff_c (f := gName so nT p 0) (g := fun st => gTake so 59 (gWhole (g33 so W nT) nT p 0 (gTake so 266 (gShape (g33 so W nT) so W nT p st)))) ff_name (ff_x2 p)
theorem ix_a (hW : rW t n nTp so W) (hWT : W ≤ nT) {Z : ZP} {zc : Int32 → Prop} (hzs : zS Z) {j d : Nat} (hj : j < W) (hd : d ≤ 30) : JQ t n nTp so W nT Z zc (fun p st => gTake so 59 (gWhole (g33 so W nT) nT p 0 st)) vWh j d d 0 (1 + -1) (0 + -4) 0 := by
  have s := JQ_seq (Z := Z) (zc := zc) (S_whole hW hWT hj hd (e := 0) (q := 0) (by omega) (by omega)) (fun j2 _ hj2 => S_tok (nT := nT) hW sg_in.2.2.2.2.2.2.2.2.1 (d := d) hj2 4 1) (ff_taken (by decide)) (by omega) hzs (by omega)
  exact s
theorem ix_b (hW : rW t n nTp so W) (hWT : W ≤ nT) {Z : ZP} {zc : Int32 → Prop} (hzs : zS Z) {j d : Nat} (hj : j < W) (hd : d ≤ 30) : JQ t n nTp so W nT Z zc (fun p st => gTake so 59 (gWhole (g33 so W nT) nT p 0 (gTake so 266 st))) vBl j d d 1 (-1 + (1 + -1)) (-4 + (0 + -4)) 1 := by
  have s := JQ_seq (Z := Z) (zc := zc) (S_key (nT := nT) (x := 266) (y := 10) hW 10 (by decide) rfl rfl (d := d) hj 1 1) (fun j2 _ hj2 => ix_a hW hWT hzs hj2 hd) ff_x4 (by omega) hzs (by omega)
  exact s
theorem ix_c (hW : rW t n nTp so W) (hWT : W ≤ nT) {Z : ZP} {zc : Int32 → Prop} (hzs : zS Z) {j d : Nat} (hj : j < W) (hd : d ≤ 30) : JQ t n nTp so W nT Z zc (fun p st => gTake so 59 (gWhole (g33 so W nT) nT p 0 (gTake so 266 st))) (vIT1 0) j d d 1 (-1 + (1 + -1)) (-4 + (0 + -4)) 1 :=
  JQ_cg (v' := vIT1 0) (ix_b hW hWT hzs hj hd) (fun _ _ _ => Eq.refl _) (fun Q nR nN nd cont E_ mc ms p zs c tt hZ h hv => ⟨fun q => absurd rfl q, fun _ => hv⟩)
theorem ix_d (hW : rW t n nTp so W) (hWT : W ≤ nT) {j d : Nat} (hj : j < W) (hd : d ≤ 30) : JQ t n nTp so W nT (zK 2) (fun p => p ≠ -1) (fun p st => gTake so 59 (gWhole (g33 so W nT) nT p 0 (gTake so 266 (gShape (g33 so W nT) so W nT p st)))) (vIT2 0) j d d 0 (0 + (-1 + (1 + -1))) (0 + (-4 + (0 + -4))) 0 := by
  have s := JQ_seq (Z := zK 2) (zc := fun p => p ≠ -1) (S_shape hW hWT hj hd (e := 0) (q := 0) (by omega) (by omega)) (fun j2 _ hj2 => ix_c hW hWT (zK_s 2) hj2 hd) ff_x3 (by omega) (zK_s 2) (by omega)
  exact s
theorem ix_e (hW : rW t n nTp so W) (hWT : W ≤ nT) {j d : Nat} (hj : j < W) (hd : d ≤ 30) : JQ t n nTp so W nT (zK 2) (fun p => p ≠ -1) (fun p st => gTake so 59 (gWhole (g33 so W nT) nT p 0 (gTake so 266 (gShape (g33 so W nT) so W nT p (gName so nT p 0 st))))) (vIT3 0) j d d 0 (0 + (0 + (-1 + (1 + -1)))) (-3 + (0 + (-4 + (0 + -4)))) 0 := by
  have s := JQ_seq (Z := zK 2) (zc := fun p => p ≠ -1) (S_name hW hWT 0 hj (e := 0) (q := 0) (by omega) (by omega)) (fun j2 _ hj2 => ix_d hW hWT hj2 hd) ff_x2 (by omega) (zK_s 2) (by omega)
  exact s
theorem ix_f (hW : rW t n nTp so W) (hWT : W ≤ nT) {j d : Nat} (hj : j < W) (hd : d ≤ 30) (hs : so j = 258) : JQ t n nTp so W nT (zK 2) (fun p => p ≠ -1) (fun p st => gTake so 59 (gWhole (g33 so W nT) nT p 0 (gTake so 266 (gShape (g33 so W nT) so W nT p (gName so nT p 0 (gTake so 258 st)))))) (vIT4 0) j d d 1 (-1 + (0 + (0 + (-1 + (1 + -1))))) (-4 + (-3 + (0 + (-4 + (0 + -4))))) 1 := by
  have s := JQ_seq (Z := zK 2) (zc := fun p => p ≠ -1) (S_next (nT := nT) hW (x := 258) (by decide) (by decide) (d := d) hj hs 1 1) (fun j2 _ hj2 => ix_e hW hWT hj2 hd) ff_x1 (by omega) (zK_s 2) (by omega)
  exact s
theorem J_index (hW : rW t n nTp so W) (hWT : W ≤ nT) (hT : nT < 2 ^ 30) {j d : Nat} (hj : j < W) (hd : d ≤ 30) (hs : so j = 258) : JQ t n nTp so W nT zM zm (fun _ st => gIndex so W nT st) (vIT5 0 2) j d d 0 (-1) 0 0 := by
  have s := JQ_node (Z := zM) (zc := zm) hW hWT hT 2 rfl (ix_f hW hWT hj hd hs) hj (e := 0) (q := 0) (by omega) (by omega) (by omega) (by omega)
  have s2 := JQ_w s (Int.le_refl _) (show (-1 + (0 + (0 + (-1 + (1 + -1)))) + 1 : Int) ≤ -1 by omega) (show (-4 + (-3 + (0 + (-4 + (0 + -4)))) + 1 : Int) ≤ 0 by omega) (Int.le_refl _)
  refine JQ_cg (v' := vIT5 0 2) s2 (fun p N hp => ?_) (fun Q nR nN nd cont E_ mc ms p zs c tt hZ h hv => hv)
  rw [show p = -1 from hp]; rfl
def vLO4 : SV := fun cont E_ mc ms p zs c tt => vc_M_next zs (fun z => v7s cont E_ mc ms p z c tt)
def vLO5 (kd : Int32) : SV := fun cont E_ mc ms p zs c tt => ∃ c1 s1 : Nat, c + c1 ≤ mc ∧ tt + s1 ≤ ms ∧ vc_M_piece c1 s1 zs kd p (fun r z => vLO4 cont E_ mc ms r z (c + c1) (tt + s1))
theorem lo_a (hW : rW t n nTp so W) (hWT : W ≤ nT) {Z : ZP} {zc : Int32 → Prop} (hzs : zS Z) {x : Int32} (h1 : x ≠ 1) (h2 : x ≠ 2) {j d : Nat} (hj : j < W) (hd : d ≤ 30) (hs : so j = x) : JQ t n nTp so W nT Z zc (fun p st => gTake so 59 (g34 so W nT p 0 0 (gTake so x st))) vLO4 j d d 1 (-1 + (0 + -1)) (-4 + (0 + -4)) 1 := by
  have s := JQ_seq (Z := Z) (zc := zc) (S_next (nT := nT) hW (x := x) h1 h2 (d := d) hj hs 1 1) (fun j2 _ hj2 => lt_a hzs hW hWT hj2 hd) ff_l3 (by omega) hzs (by omega)
  exact s
theorem J_lo (hW : rW t n nTp so W) (hWT : W ≤ nT) (hT : nT < 2 ^ 30) {x kd : Int32} (h1 : x ≠ 1) (h2 : x ≠ 2) (hkd : 0 = acl kd) {j d : Nat} (hj : j < W) (hd : d ≤ 30) (hs : so j = x) : JQ t n nTp so W nT zM zm (fun _ st => gSumB so W nT x kd (-1) st) (vLO5 kd) j d d 0 (-1) 0 0 := by
  have s := JQ_node (Z := zM) (zc := zm) hW hWT hT kd hkd (lo_a hW hWT (zK_s kd) h1 h2 hj hd hs) hj (e := 0) (q := 0) (by omega) (by omega) (by omega) (by omega)
  have s2 := JQ_w s (Int.le_refl _) (show (-1 + (0 + -1) + 1 : Int) ≤ -1 by omega) (show (-4 + (0 + -4) + 1 : Int) ≤ 0 by omega) (Int.le_refl _)
  refine JQ_cg (v' := vLO5 kd) s2 (fun p N hp => ?_) (fun Q nR nN nd cont E_ mc ms p zs c tt hZ h hv => hv)
  rw [show p = -1 from hp]; rfl
def vGv4 : SV := fun cont E_ mc ms p zs c tt => vc_M_isKey zs 7 (fun r => vc_M_pass zs r (fun z => v7s cont E_ mc ms p z c tt) E_)
def vGv5 : SV := fun cont E_ mc ms p zs c tt => ∃ c1 s1 : Nat, c + c1 ≤ mc ∧ tt + s1 ≤ ms ∧ vc_M_piece c1 s1 zs 21 p (fun r z => vGv4 cont E_ mc ms r z (c + c1) (tt + s1))
def vGv6 : SV := fun cont E_ mc ms p zs c tt => vGv5 (fun z c t => vc_M_shut z 125 (fun z => cont z c t) E_) E_ mc ms p zs c tt
theorem gv_a (hW : rW t n nTp so W) (hWT : W ≤ nT) {Z : ZP} {zc : Int32 → Prop} (hzs : zS Z) {j d : Nat} (hj : j < W) (hd : d ≤ 30) : JQ t n nTp so W nT Z zc (fun p st => gTake so 59 (g34 so W nT p 0 0 (gTake so 263 st))) vGv4 j d d 1 (-1 + (0 + -1)) (-4 + (0 + -4)) 1 := by
  have s := JQ_seq (Z := Z) (zc := zc) (S_key (nT := nT) (x := 263) (y := 7) hW 7 (by decide) rfl rfl (d := d) hj 1 1) (fun j2 _ hj2 => lt_a hzs hW hWT hj2 hd) ff_l3 (by omega) hzs (by omega)
  exact s
theorem gv_b (hW : rW t n nTp so W) (hWT : W ≤ nT) (hT : nT < 2 ^ 30) {Z : ZP} {zc : Int32 → Prop} {j d : Nat} (hj : j < W) (hd : d ≤ 30) : JQ t n nTp so W nT Z zc (fun p st => gSumB so W nT 263 21 p st) vGv5 j d d 0 (-1) 0 0 := by
  have s := JQ_node (Z := Z) (zc := zc) hW hWT hT 21 rfl (gv_a hW hWT (zK_s 21) hj hd) hj (e := 0) (q := 0) (by omega) (by omega) (by omega) (by omega)
  have s2 := JQ_w s (Int.le_refl _) (show (-1 + (0 + -1) + 1 : Int) ≤ -1 by omega) (show (-4 + (0 + -4) + 1 : Int) ≤ 0 by omega) (Int.le_refl _)
  exact s2
theorem gv_c (hW : rW t n nTp so W) (hWT : W ≤ nT) (hT : nT < 2 ^ 30) {Z : ZP} {zc : Int32 → Prop} (hzs : zS Z) {j d : Nat} (hj : j < W) (hd : d + 1 ≤ 30) : JQ t n nTp so W nT Z zc (fun p st => gClose so 125 (gSumB so W nT 263 21 p st)) vGv6 j (d + 1) d 0 (-1 + -1) (0 + -4) 0 := by
  have s := JQ_seq (Z := Z) (zc := zc) (gv_b hW hWT hT hj hd) (fun j2 _ hj2 => S_close (nT := nT) hW sg_in.2.2.2.2.2.2.2.2.2.2.2.2.2.2.1 (d := d) hj2 0 0) (fun _ => ff_close (by decide)) (by omega) hzs (by omega)
  exact s
end
