theorem u_sr {so : FN} {W nT : Nat} {st : pPS} {cn : Int32} {K F Pa Sg Dp : FN} {at_ sr dp : Int32} (h : cU so W nT st cn K F Pa Sg Dp at_ sr dp) : sr = psS so st := h.2.2.2.2.1
theorem u_number {nO : Nat} {so : FN} {W nT : Nat} (hW : cW nO so W nT) {p s : Int32} {st : pPS} : uR so W nT (fun cn K F Pa Sg Dp at_ sr dp K_ => vc_P_number nO so (nI W) nT cn K F Pa Sg Dp at_ sr dp p s K_) st (gNumber so nT p s st) := by
  intro cn K F Pa Sg Dp at_ sr dp K_ h kk
  exact u_add hW.2.2.2.1 h (fun _ _ _ _ _ _ h2 => u_take hW h2 (by decide) (by decide) (by decide) (fun _ _ h3 => kk _ _ _ _ _ _ _ _ _ h3))
theorem u_name {nO : Nat} {so : FN} {W nT : Nat} (hW : cW nO so W nT) {p s : Int32} {st : pPS} : uR so W nT (fun cn K F Pa Sg Dp at_ sr dp K_ => vc_P_name nO so (nI W) nT cn K F Pa Sg Dp at_ sr dp p s K_) st (gName so nT p s st) := by
  intro cn K F Pa Sg Dp at_ sr dp K_ h kk
  exact u_add hW.2.2.2.1 h (fun _ _ _ _ _ _ h2 => u_take hW h2 (by decide) (by decide) (by decide) (fun _ _ h3 => kk _ _ _ _ _ _ _ _ _ h3))
theorem u_frac2 {nO : Nat} {so : FN} {W nT : Nat} (hW : cW nO so W nT) {r : Int32} {st : pPS} {cn : Int32} {K F Pa Sg Dp : FN} {at_ sr dp : Int32} {K_ : KP} (h : cU so W nT st cn K F Pa Sg Dp at_ sr dp) (kk : uP so W nT (gFrac2 so nT r st) K_) :
    (¬ sr = 47 → K_ cn K F Pa Sg Dp at_ sr dp) ∧ (sr = 47 → vc_P_step nO so (nI W) at_ sr (fun a b => vc_P_number nO so (nI W) nT cn K F Pa Sg Dp a b dp r 0 K_)) := by
  unfold gFrac2 at kk
  rw [← u_sr h] at kk
  refine ⟨fun hs => ?_, fun hs => ?_⟩
  · rw [if_neg hs] at kk
    exact kk _ _ _ _ _ _ _ _ _ h
  · rw [if_pos hs] at kk
    exact u_step hW h hs (by decide) (by decide) (by decide) (fun _ _ h2 => u_number hW _ _ _ _ _ _ _ _ _ _ h2 kk)
theorem u_fraction {nO : Nat} {so : FN} {W nT : Nat} (hW : cW nO so W nT) {p s : Int32} {st : pPS} : uR so W nT (fun cn K F Pa Sg Dp at_ sr dp K_ => vc_P_fraction nO so (nI W) nT cn K F Pa Sg Dp at_ sr dp p s K_) st (gFraction so nT p s st) := by
  intro cn K F Pa Sg Dp at_ sr dp K_ h kk
  unfold gFraction at kk
  rw [← u_sr h] at kk
  refine u_add hW.2.2.2.1 h (fun _ _ _ _ _ _ h2 => ⟨fun hs => ?_, fun hs => ?_⟩)
  · rw [if_neg hs] at kk
    exact u_number hW _ _ _ _ _ _ _ _ _ _ h2 (fun _ _ _ _ _ _ _ _ _ h3 => u_frac2 hW h3 kk)
  · rw [if_pos hs] at kk
    exact u_step hW h2 hs (by decide) (by decide) (by decide) (fun _ _ h2 => u_number hW _ _ _ _ _ _ _ _ _ _ h2 (fun _ _ _ _ _ _ _ _ _ h3 => u_frac2 hW h3 kk))
theorem u_fracB {nO : Nat} {so : FN} {W nT : Nat} (hW : cW nO so W nT) {x p : Int32} (h0 : x ≠ 0) (h1 : x ≠ 1) (h2 : x ≠ 2) {st : pPS} : uR so W nT (fun cn K F Pa Sg Dp at_ sr dp K_ => vc_P_fractionBehind nO so (nI W) nT cn K F Pa Sg Dp at_ sr dp x p K_) st (gFracB so nT x p st) := by
  intro cn K F Pa Sg Dp at_ sr dp K_ h kk
  unfold gFracB at kk
  rw [← u_sr h] at kk
  refine ⟨fun hs => ?_, fun hs => ?_⟩
  · rw [if_neg hs] at kk
    exact kk _ _ _ _ _ _ _ _ _ h
  · rw [if_pos hs] at kk
    exact u_step hW h hs h0 h1 h2 (fun _ _ h3 => u_fraction hW _ _ _ _ _ _ _ _ _ _ h3 kk)
theorem u_wc {W i f : Nat} (hW : W < 2 ^ 31) (hf : f + i = W) : (nI W ≤ nI i ↔ f = 0) := by
  rw [nI_leI hW (by omega)]; omega
theorem u_namesL {nO : Nat} {so : FN} {W nT : Nat} (hW : cW nO so W nT) {p s : Int32} {cn0 : Int32} {K0 F0 Pa0 Sg0 Dp0 : FN} {pat0 sr0 dp0 : Int32} {K_ : KP} : ∀ f i st cn K F Pa Sg Dp at_ sr dp, f + i = W → cU so W nT st cn K F Pa Sg Dp at_ sr dp → uP so W nT (gNamesL so nT p s f st) K_ →
    vl_P_names_8 nO so (nI W) nT cn0 K0 F0 Pa0 Sg0 Dp0 pat0 sr0 dp0 p s K_ (f + 1) (nI i) cn K F Pa Sg Dp at_ sr dp := by
  intro f
  induction f with
  | zero =>
    intro i st cn K F Pa Sg Dp at_ sr dp hf h kk
    exact ⟨fun _ => kk _ _ _ _ _ _ _ _ _ h, fun hc => absurd ((u_wc (by have := hW.2.1; have := hW.2.2.1; omega) hf).mpr rfl) hc⟩
  | succ f ih =>
    intro i st cn K F Pa Sg Dp at_ sr dp hf h kk
    unfold gNamesL at kk
    rw [← u_sr h] at kk
    refine ⟨fun hc => absurd ((u_wc (by have := hW.2.1; have := hW.2.2.1; omega) hf).mp hc) (by omega), fun _ => ⟨fun hs => ?_, fun hs => ?_⟩⟩
    · rw [if_neg hs] at kk
      exact kk _ _ _ _ _ _ _ _ _ h
    · rw [if_pos hs] at kk
      refine u_step hW h hs (by decide) (by decide) (by decide) (fun _ _ h2 => u_name hW _ _ _ _ _ _ _ _ _ _ h2 (fun _ _ _ _ _ _ _ _ _ h3 => ?_))
      rw [nI_1]
      exact ih (i + 1) _ _ _ _ _ _ _ _ _ _ (by omega) h3 kk
theorem u_names {nO : Nat} {so : FN} {W nT : Nat} (hW : cW nO so W nT) {p s : Int32} {st : pPS} : uR so W nT (fun cn K F Pa Sg Dp at_ sr dp K_ => vc_P_names nO so (nI W) nT cn K F Pa Sg Dp at_ sr dp p s K_) st (gNames so W nT p s st) := by
  intro cn K F Pa Sg Dp at_ sr dp K_ h kk
  exact u_name hW _ _ _ _ _ _ _ _ _ _ h (fun _ _ _ _ _ _ _ _ _ h3 => ⟨W + 1, u_namesL hW W 0 _ _ _ _ _ _ _ _ _ _ rfl h3 kk⟩)
def uS (so : FN) (W nT n : Nat) (v : TP3) (g : G3) : Prop := ∀ p s x st, dOK n st → uR so W nT (fun cn K F Pa Sg Dp at_ sr dp K_ => v cn K F Pa Sg Dp at_ sr dp p s x K_) st (g p s x st)
theorem u_whole {vS vP : TP3} {gS : G3} {nO : Nat} {so : FN} {W nT n : Nat} (hW : cW nO so W nT) (hS : uS so W nT n vS gS) {p s : Int32} {st : pPS} (hd : dOK n st) : uR so W nT (fun cn K F Pa Sg Dp at_ sr dp K_ => vc_P_whole vS vP nO so (nI W) nT cn K F Pa Sg Dp at_ sr dp p s K_) st (gWhole gS nT p s st) := by
  intro cn K F Pa Sg Dp at_ sr dp K_ h kk
  exact u_add hW.2.2.2.1 h (fun _ _ _ _ _ _ h2 => hS _ _ _ _ (dOK_k hd dk_add) _ _ _ _ _ _ _ _ _ _ h2 kk)
theorem u_wholesL {vS vP : TP3} {gS : G3} {nO : Nat} {so : FN} {W nT n : Nat} (hW : cW nO so W nT) (hS : uS so W nT n vS gS) (hk : dk3 gS) {p s : Int32} {cn0 : Int32} {K0 F0 Pa0 Sg0 Dp0 : FN} {pat0 sr0 dp0 : Int32} {K_ : KP} : ∀ f i st cn K F Pa Sg Dp at_ sr dp, f + i = W → dOK n st → cU so W nT st cn K F Pa Sg Dp at_ sr dp → uP so W nT (gWholesL gS so nT p s f st) K_ →
    vl_P_wholes_8 vS vP nO so (nI W) nT cn0 K0 F0 Pa0 Sg0 Dp0 pat0 sr0 dp0 p s K_ (f + 1) (nI i) cn K F Pa Sg Dp at_ sr dp := by
  intro f
  induction f with
  | zero =>
    intro i st cn K F Pa Sg Dp at_ sr dp hf hd h kk
    exact ⟨fun _ => kk _ _ _ _ _ _ _ _ _ h, fun hc => absurd ((u_wc (by have := hW.2.1; have := hW.2.2.1; omega) hf).mpr rfl) hc⟩
  | succ f ih =>
    intro i st cn K F Pa Sg Dp at_ sr dp hf hd h kk
    unfold gWholesL at kk
    rw [← u_sr h] at kk
    refine ⟨fun hc => absurd ((u_wc (by have := hW.2.1; have := hW.2.2.1; omega) hf).mp hc) (by omega), fun _ => ⟨fun hs => ?_, fun hs => ?_⟩⟩
    · rw [if_neg hs] at kk
      exact kk _ _ _ _ _ _ _ _ _ h
    · rw [if_pos hs] at kk
      refine u_step hW h hs (by decide) (by decide) (by decide) (fun _ _ h2 => u_whole hW hS (dOK_k hd dk_step) _ _ _ _ _ _ _ _ _ _ h2 (fun _ _ _ _ _ _ _ _ _ h3 => ?_))
      rw [nI_1]
      exact ih (i + 1) _ _ _ _ _ _ _ _ _ _ (by omega) (dOK_k hd (dk_t dk_step (dk_whole hk))) h3 kk
theorem u_wholes {vS vP : TP3} {gS : G3} {nO : Nat} {so : FN} {W nT n : Nat} (hW : cW nO so W nT) (hS : uS so W nT n vS gS) (hk : dk3 gS) {p s : Int32} {st : pPS} (hd : dOK n st) : uR so W nT (fun cn K F Pa Sg Dp at_ sr dp K_ => vc_P_wholes vS vP nO so (nI W) nT cn K F Pa Sg Dp at_ sr dp p s K_) st (gWholes gS so W nT p s st) := by
  intro cn K F Pa Sg Dp at_ sr dp K_ h kk
  exact u_whole hW hS hd _ _ _ _ _ _ _ _ _ _ h (fun _ _ _ _ _ _ _ _ _ h3 => ⟨W + 1, u_wholesL hW hS hk W 0 _ _ _ _ _ _ _ _ _ _ rfl (dOK_k hd (dk_whole hk)) h3 kk⟩)
theorem u_shape {vS vP : TP3} {gS : G3} {nO : Nat} {so : FN} {W nT n : Nat} (hW : cW nO so W nT) (hS : uS so W nT n vS gS) (hk : dk3 gS) {p : Int32} {st : pPS} (hd : dOK (n + 1) st) : uR so W nT (fun cn K F Pa Sg Dp at_ sr dp K_ => vc_P_shape vS vP nO so (nI W) nT cn K F Pa Sg Dp at_ sr dp p K_) st (gShape gS so W nT p st) := by
  intro cn K F Pa Sg Dp at_ sr dp K_ h kk
  unfold gShape gShape1 at kk
  refine u_add hW.2.2.2.1 h (fun _ _ _ _ _ _ h2 => u_open hW h2 (by decide) (by decide) (by decide) (fun _ _ _ h3 => ?_))
  have hd2 : dOK n (gOpen so 91 (gAdd nT 10 p 0 st)) := dOK_open so 91 (dOK_k hd dk_add)
  rw [← u_sr h3] at kk
  refine ⟨fun hs => ?_, fun hs => ?_⟩
  · rw [if_pos hs] at kk
    exact u_close hW h3 (by decide) (by decide) (by decide) (fun _ _ _ h4 => kk _ _ _ _ _ _ _ _ _ h4)
  · rw [if_neg hs] at kk
    exact u_wholes hW hS hk hd2 _ _ _ _ _ _ _ _ _ _ h3 (fun _ _ _ _ _ _ _ _ _ h4 => u_close hW h4 (by decide) (by decide) (by decide) (fun _ _ _ h5 => kk _ _ _ _ _ _ _ _ _ h5))
theorem u_argsL {vS vP : TP3} {gS : G3} {nO : Nat} {so : FN} {W nT n : Nat} (hW : cW nO so W nT) (hS : uS so W nT n vS gS) (hk : dk3 gS) {p : Int32} {cn0 : Int32} {K0 F0 Pa0 Sg0 Dp0 : FN} {pat0 sr0 dp0 : Int32} {K_ : KP} : ∀ f i st cn K F Pa Sg Dp at_ sr dp, f + i = W → dOK n st → cU so W nT st cn K F Pa Sg Dp at_ sr dp → uP so W nT (gArgsL gS so W nT p f st) K_ →
    vl_P_arguments_4 vS vP nO so (nI W) nT cn0 K0 F0 Pa0 Sg0 Dp0 pat0 sr0 dp0 p K_ (f + 2) (nI i) 1 cn K F Pa Sg Dp at_ sr dp := by
  intro f
  have stop : ∀ (f : Nat) (x : Int32) cn K F Pa Sg Dp at_ sr dp, K_ cn K F Pa Sg Dp at_ sr dp → vl_P_arguments_4 vS vP nO so (nI W) nT cn0 K0 F0 Pa0 Sg0 Dp0 pat0 sr0 dp0 p K_ (f + 1) x 0 cn K F Pa Sg Dp at_ sr dp :=
    fun f x cn K F Pa Sg Dp at_ sr dp h => ⟨fun _ => h, fun _ => ⟨fun _ => h, fun h => absurd rfl h⟩⟩
  induction f with
  | zero =>
    intro i st cn K F Pa Sg Dp at_ sr dp hf hd h kk
    exact ⟨fun _ => kk _ _ _ _ _ _ _ _ _ h, fun hc => absurd ((u_wc (by have := hW.2.1; have := hW.2.2.1; omega) hf).mpr rfl) hc⟩
  | succ f ih =>
    intro i st cn K F Pa Sg Dp at_ sr dp hf hd h kk
    unfold gArgsL at kk
    have hda : dOK n (gArg gS so W nT p st) := dOK_k hd (dk_arg hk)
    have fin : ∀ cn K F Pa Sg Dp at_ sr dp, cU so W nT (gArg gS so W nT p st) cn K F Pa Sg Dp at_ sr dp →
        (¬ sr = 44 → vl_P_arguments_4 vS vP nO so (nI W) nT cn0 K0 F0 Pa0 Sg0 Dp0 pat0 sr0 dp0 p K_ (f + 2) (nI i + 1) 0 cn K F Pa Sg Dp at_ sr dp) ∧
        (sr = 44 → vc_P_step nO so (nI W) at_ sr (fun a b => vl_P_arguments_4 vS vP nO so (nI W) nT cn0 K0 F0 Pa0 Sg0 Dp0 pat0 sr0 dp0 p K_ (f + 2) (nI i + 1) 1 cn K F Pa Sg Dp a b dp)) := by
      intro cn K F Pa Sg Dp at_ sr dp h2
      rw [← u_sr h2] at kk
      refine ⟨fun hs => ?_, fun hs => ?_⟩
      · rw [if_neg hs] at kk
        exact stop (f + 1) _ _ _ _ _ _ _ _ _ _ (kk _ _ _ _ _ _ _ _ _ h2)
      · rw [if_pos hs] at kk
        refine u_step hW h2 hs (by decide) (by decide) (by decide) (fun _ _ h3 => ?_)
        rw [nI_1]
        exact ih (i + 1) _ _ _ _ _ _ _ _ _ _ (by omega) (dOK_k hda dk_step) h3 kk
    refine ⟨fun hc => absurd ((u_wc (by have := hW.2.1; have := hW.2.2.1; omega) hf).mp hc) (by omega), fun _ => ⟨fun h => absurd h (by decide), fun _ => ⟨fun hs => ?_, fun hs => ?_⟩⟩⟩
    · rw [u_sr h] at hs
      refine hS _ _ _ _ hd _ _ _ _ _ _ _ _ _ _ h (fun cn K F Pa Sg Dp at_ sr dp h2 => fin _ _ _ _ _ _ _ _ _ ?_)
      unfold gArg
      rw [if_neg hs]
      exact h2
    · rw [u_sr h] at hs
      refine u_shape hW hS hk (dOK_up hd) _ _ _ _ _ _ _ _ _ _ h (fun cn K F Pa Sg Dp at_ sr dp h2 => fin _ _ _ _ _ _ _ _ _ ?_)
      unfold gArg
      rw [if_pos hs]
      exact h2
theorem u_call2 {vS vP : TP3} {gS : G3} {nO : Nat} {so : FN} {W nT n : Nat} (hW : cW nO so W nT) (hS : uS so W nT n vS gS) (hk : dk3 gS) {p : Int32} {st : pPS} (hd : dOK n st) {cn : Int32} {K F Pa Sg Dp : FN} {at_ sr dp : Int32} {K_ : KP} (h : cU so W nT st cn K F Pa Sg Dp at_ sr dp) (kk : uP so W nT (gCall2 gS so W nT p st) K_) :
    (¬ sr = 59 → vc_P_close nO so (nI W) at_ sr dp 41 (fun a b c => K_ cn K F Pa Sg Dp a b c)) ∧ (sr = 59 → vc_P_step nO so (nI W) at_ sr (fun a b => vc_P_wholes vS vP nO so (nI W) nT cn K F Pa Sg Dp a b dp p 59 (fun cn K F Pa Sg Dp at_ sr dp => vc_P_close nO so (nI W) at_ sr dp 41 (fun a b c => K_ cn K F Pa Sg Dp a b c)))) := by
  unfold gCall2 at kk
  rw [← u_sr h] at kk
  refine ⟨fun hs => ?_, fun hs => ?_⟩
  · rw [if_neg hs] at kk
    exact u_close hW h (by decide) (by decide) (by decide) (fun _ _ _ h2 => kk _ _ _ _ _ _ _ _ _ h2)
  · rw [if_pos hs] at kk
    exact u_step hW h hs (by decide) (by decide) (by decide) (fun _ _ h3 => u_wholes hW hS hk (dOK_k hd dk_step) _ _ _ _ _ _ _ _ _ _ h3 (fun _ _ _ _ _ _ _ _ _ h4 => u_close hW h4 (by decide) (by decide) (by decide) (fun _ _ _ h5 => kk _ _ _ _ _ _ _ _ _ h5)))
theorem u_call {vS vP : TP3} {gS : G3} {nO : Nat} {so : FN} {W nT n : Nat} (hW : cW nO so W nT) (hS : uS so W nT n vS gS) (hk : dk3 gS) {b : Nat} (hb : b < 2 ^ 31) {st : pPS} (hd : dOK (n + 1) st) : uR so W nT (fun cn K F Pa Sg Dp at_ sr dp K_ => vc_P_call vS vP nO so (nI W) nT cn K F Pa Sg Dp at_ sr dp (nI b) K_) st (gCall gS so W nT b st) := by
  intro cn K F Pa Sg Dp at_ sr dp K_ h kk
  unfold gCall gCall1 at kk
  refine u_open hW h (by decide) (by decide) (by decide) (fun a1 s1 d1 h2 => ?_)
  have hd2 : dOK n (gOpen so 40 st) := dOK_open so 40 hd
  have e : d1 = (gOpen so 40 st).2.2.1 := h2.2.2.2.2.2.1
  refine u_setD hW.2.2.2.1 hb h2 (fun D h3 => ?_)
  rw [e] at h3 ⊢
  rw [← u_sr h3] at kk
  have hd3 := dOK_k hd2 (dk_setD (b := b) (k := (gOpen so 40 st).2.2.1))
  refine ⟨fun hs => ?_, fun hs => ⟨fun hs2 => ?_, fun hs2 => ?_⟩⟩
  · rw [if_pos (Or.inl hs)] at kk
    exact u_call2 hW hS hk hd3 h3 kk
  · rw [if_pos (Or.inr hs2)] at kk
    exact u_call2 hW hS hk hd3 h3 kk
  · rw [if_neg (fun h => h.elim hs hs2)] at kk
    exact ⟨W + 2, u_argsL hW hS hk W 0 _ _ _ _ _ _ _ _ _ _ rfl hd3 h3 (fun _ _ _ _ _ _ _ _ _ h4 => u_call2 hW hS hk (dOK_k hd3 (dk_argsL hk _ _)) h4 kk)⟩
theorem u_nameMore {vS vP : TP3} {gS : G3} {nO : Nat} {so : FN} {W nT n : Nat} (hW : cW nO so W nT) (hS : uS so W nT n vS gS) (hk : dk3 gS) {p s x : Int32} {st : pPS} (hd : dOK (n + 1) st) : uR so W nT (fun cn K F Pa Sg Dp at_ sr dp K_ => vc_P_nameAndMore vS vP nO so (nI W) nT cn K F Pa Sg Dp at_ sr dp p s x K_) st (gNameMore gS so W nT p s x st) := by
  intro cn K F Pa Sg Dp at_ sr dp K_ h kk
  unfold gNameMore gMore at kk
  have e : cn = nI (gN st) := h.1
  have hb : gN st < 2 ^ 31 := by have := h.2.1; have := hW.2.2.2.1; show st.2.2.2.length < 2 ^ 31; omega
  have hd2 : dOK (n + 1) (gName so nT p s st) := dOK_k hd dk_name
  refine u_name hW _ _ _ _ _ _ _ _ _ _ h (fun cn1 K1 F1 P1 S1 D1 a1 s1 d1 h2 => ?_)
  rw [← u_sr h2] at kk
  have cl : s1 = 40 → x = 0 → vc_T_turn nT cn1 K1 cn 20 (fun K_15 => (vc_P_call vS vP nO so (nI W) nT cn1 K_15 F1 P1 S1 D1 a1 s1 d1 cn K_)) := by
    intro hs hx
    rw [if_neg (fun h => h.2 hx), if_pos ⟨hs, hx⟩] at kk
    rw [e]
    exact u_turn hW.2.2.2.1 hb h2 (fun K' h3 => u_call hW hS hk hb (dOK_k hd2 dk_turn) _ _ _ _ _ _ _ _ _ _ h3 kk)
  refine ⟨fun hs => ⟨fun hs2 => ?_, fun hs2 => ⟨fun hx => ?_, fun hx => cl hs2 hx⟩⟩, fun hs => ⟨fun hx => ⟨fun hs2 => ?_, fun hs2 => ⟨fun hx2 => absurd hx hx2, fun hx => cl hs2 hx⟩⟩, fun hx => ?_⟩⟩
  · rw [if_neg (fun h => hs h.1), if_neg (fun h => hs2 h.1)] at kk
    exact kk _ _ _ _ _ _ _ _ _ h2
  · rw [if_neg (fun h => hs h.1), if_neg (fun h => hx h.2)] at kk
    exact kk _ _ _ _ _ _ _ _ _ h2
  · rw [if_neg (fun h => h.2 hx), if_neg (fun h => hs2 h.1)] at kk
    exact kk _ _ _ _ _ _ _ _ _ h2
  · rw [if_pos ⟨hs, hx⟩] at kk
    rw [e]
    exact u_turn hW.2.2.2.1 hb h2 (fun K' h3 => u_step hW h3 hs (by decide) (by decide) (by decide) (fun _ _ h4 => u_take hW h4 (by decide) (by decide) (by decide) (fun _ _ h5 => kk _ _ _ _ _ _ _ _ _ h5)))
theorem u_dec {so : FN} {W nT : Nat} {st : pPS} {cn : Int32} {K F Pa Sg Dp : FN} {at_ sr dp : Int32} (h : cU so W nT st cn K F Pa Sg Dp at_ sr dp) : cU so W nT (gDec st) cn K F Pa Sg Dp at_ sr (dp - 1) := by
  obtain ⟨b1, b2, b3, b4, b5, b6, b7⟩ := h
  exact ⟨b1, b2, b3, b4, b5, by rw [b6]; rfl, b7⟩
theorem u_bad {so : FN} {W nT : Nat} {st : pPS} {cn : Int32} {K F Pa Sg Dp : FN} {at_ sr dp : Int32} (h : cU so W nT st cn K F Pa Sg Dp at_ sr dp) : cU so W nT (gBad st) cn K F Pa Sg Dp at_ 0 dp := by
  obtain ⟨b1, b2, b3, b4, b5, b6, b7⟩ := h
  exact ⟨b1, b2, b3, b4, rfl, b6, b7⟩
theorem u_negative {vS vP : TP3} {gP : G3} {nO : Nat} {so : FN} {W nT n : Nat} (hW : cW nO so W nT) (hP : uS so W nT n vP gP) {p s : Int32} {st : pPS} (hd : dOK (n + 1) st) : uR so W nT (fun cn K F Pa Sg Dp at_ sr dp K_ => vc_P_negative vS vP nO so (nI W) nT cn K F Pa Sg Dp at_ sr dp p s K_) st (gNegative gP so nT p s st) := by
  intro cn K F Pa Sg Dp at_ sr dp K_ h kk
  exact u_add hW.2.2.2.1 h (fun _ _ _ _ _ _ h2 => u_open hW h2 (by decide) (by decide) (by decide) (fun _ _ _ h3 => hP _ _ _ _ (dOK_open so 45 (dOK_k hd dk_add)) _ _ _ _ _ _ _ _ _ _ h3 (fun _ _ _ _ _ _ _ _ _ h4 => kk _ _ _ _ _ _ _ _ _ (u_dec h4))))
theorem u_piece {vS vP : TP3} {gS gP : G3} {nO : Nat} {so : FN} {W nT n : Nat} (hW : cW nO so W nT) (hS : uS so W nT n vS gS) (hP : uS so W nT n vP gP) (hk : dk3 gS) {p s x : Int32} {st : pPS} (hd : dOK (n + 1) st) : uR so W nT (fun cn K F Pa Sg Dp at_ sr dp K_ => vc_P_piece vS vP nO so (nI W) nT cn K F Pa Sg Dp at_ sr dp p s x K_) st (gPiece gS gP so W nT p s x st) := by
  intro cn K F Pa Sg Dp at_ sr dp K_ h kk
  unfold gPiece at kk
  rw [← u_sr h] at kk
  refine ⟨fun h4 => ⟨fun h3 => ⟨fun h40 => ⟨fun h45 => ?_, fun h45 => ⟨fun hx => ?_, fun hx => ?_⟩⟩, fun h40 => ?_⟩, fun h3 => ?_⟩, fun h4 => ?_⟩
  · rw [if_neg h4, if_neg h3, if_neg h40, if_neg (fun h => h45 h.1)] at kk
    exact kk _ _ _ _ _ _ _ _ _ (u_bad h)
  · rw [if_neg h4, if_neg h3, if_neg h40, if_neg (fun h => hx h.2)] at kk
    exact kk _ _ _ _ _ _ _ _ _ (u_bad h)
  · rw [if_neg h4, if_neg h3, if_neg h40, if_pos ⟨h45, hx⟩] at kk
    exact u_negative hW hP hd _ _ _ _ _ _ _ _ _ _ h kk
  · rw [if_neg h4, if_neg h3, if_pos h40] at kk
    exact u_open hW h (by decide) (by decide) (by decide) (fun _ _ _ h2 => hS _ _ _ _ (dOK_open so 40 hd) _ _ _ _ _ _ _ _ _ _ h2 (fun _ _ _ _ _ _ _ _ _ h3 => u_close hW h3 (by decide) (by decide) (by decide) (fun _ _ _ h5 => kk _ _ _ _ _ _ _ _ _ h5)))
  · rw [if_neg h4, if_pos h3] at kk
    exact u_nameMore hW hS hk hd _ _ _ _ _ _ _ _ _ _ h kk
  · rw [if_pos h4] at kk
    exact u_number hW _ _ _ _ _ _ _ _ _ _ h kk
theorem u_prod1 {vS vP : TP3} {gS gP : G3} {nO : Nat} {so : FN} {W nT n : Nat} (hW : cW nO so W nT) (hS : uS so W nT n vS gS) (hP : uS so W nT n vP gP) (hk : dk3 gS) {b : Nat} {c x : Int32} {st : pPS} (hd : dOK (n + 1) st) {cn : Int32} {K F Pa Sg Dp : FN} {at_ sr dp : Int32} {K_ : KP} (h : cU so W nT st cn K F Pa Sg Dp at_ sr dp) (kk : uP so W nT (gProd1 gS gP so W nT b c x st) K_) :
    (¬ c = 47 → vc_P_piece vS vP nO so (nI W) nT cn K F Pa Sg Dp at_ sr dp (nI b) c x K_) ∧ (c = 47 → ((¬ x = 0 → vc_P_piece vS vP nO so (nI W) nT cn K F Pa Sg Dp at_ sr dp (nI b) c x K_) ∧ (x = 0 → vc_P_number nO so (nI W) nT cn K F Pa Sg Dp at_ sr dp (nI b) c K_))) := by
  unfold gProd1 at kk
  refine ⟨fun hc => ?_, fun hc => ⟨fun hx => ?_, fun hx => ?_⟩⟩
  · rw [if_neg (fun h => hc h.1)] at kk
    exact u_piece hW hS hP hk hd _ _ _ _ _ _ _ _ _ _ h kk
  · rw [if_neg (fun h => hx h.2)] at kk
    exact u_piece hW hS hP hk hd _ _ _ _ _ _ _ _ _ _ h kk
  · rw [if_pos ⟨hc, hx⟩] at kk
    exact u_number hW _ _ _ _ _ _ _ _ _ _ h kk
theorem u_joins {sr x : Int32} {K_ : Int32 → Prop} (h1 : (sr = 42 ∨ sr = 47 ∨ (sr = 64 ∧ x = 0)) → K_ 1) (h0 : ¬ (sr = 42 ∨ sr = 47 ∨ (sr = 64 ∧ x = 0)) → K_ 0) : vc_P_joins sr x K_ := by
  refine ⟨fun h => h1 (Or.inl h), fun a => ⟨fun h => h1 (Or.inr (Or.inl h)), fun b => ⟨fun c => h0 (fun h => h.elim a (fun h => h.elim b (fun h => c h.1))), fun c => ⟨fun d => h0 (fun h => h.elim a (fun h => h.elim b (fun h => d h.2))), fun d => h1 (Or.inr (Or.inr ⟨c, d⟩))⟩⟩⟩⟩
theorem u_prodL {vS vP : TP3} {gS gP : G3} {nO : Nat} {so : FN} {W nT n : Nat} (hW : cW nO so W nT) (hS : uS so W nT n vS gS) (hP : uS so W nT n vP gP) (hk : dk3 gS) (hkP : dk3 gP) {b fw : Nat} (hb : b < 2 ^ 31) {p s x : Int32} {cn0 : Int32} {K0 F0 Pa0 Sg0 Dp0 : FN} {pat0 sr0 dp0 : Int32} {K_ : KP} (e1 : cn0 = nI b) (e2 : pat0 = nI fw) : ∀ f i st cn K F Pa Sg Dp at_ sr dp, f + i = W → dOK (n + 1) st → cU so W nT st cn K F Pa Sg Dp at_ sr dp → uP so W nT (gProdL gS gP so W nT b fw x f (i == 0) st) K_ →
    vl_P_product_25 vS vP nO so (nI W) nT cn0 K0 F0 Pa0 Sg0 Dp0 pat0 sr0 dp0 p s x K_ (f + 1) (nI i) cn K F Pa Sg Dp at_ sr dp := by
  subst e1 e2
  intro f
  induction f with
  | zero =>
    intro i st cn K F Pa Sg Dp at_ sr dp hf hd h kk
    exact ⟨fun _ => kk _ _ _ _ _ _ _ _ _ h, fun hc => absurd ((u_wc (by have := hW.2.1; have := hW.2.2.1; omega) hf).mpr rfl) hc⟩
  | succ f ih =>
    intro i st cn K F Pa Sg Dp at_ sr dp hf hd h kk
    have hWb := hW.2.1
    have hOb := hW.2.2.1
    unfold gProdL gJoin at kk
    rw [← u_sr h] at kk
    refine ⟨fun hc => absurd ((u_wc (by omega) hf).mp hc) (by omega), fun _ => u_joins (fun hj => ⟨fun h => absurd h (by decide), fun _ => ?_⟩) (fun hj => ⟨fun _ => ?_, fun h => absurd rfl h⟩)⟩
    · rw [if_pos hj] at kk
      have hne : sr ≠ 0 ∧ sr ≠ 1 ∧ sr ≠ 2 := by
        rcases hj with h | h | h
        · rw [h]; decide
        · rw [h]; decide
        · rw [h.1]; decide
      have nx : ∀ st', dOK (n + 1) st' → ∀ cn K F Pa Sg Dp at_ sr' dp, cU so W nT st' cn K F Pa Sg Dp at_ sr' dp → uP so W nT (gProdL gS gP so W nT b fw x f false st') K_ → vl_P_product_25 vS vP nO so (nI W) nT (nI b) K0 F0 Pa0 Sg0 Dp0 (nI fw) sr0 dp0 p s x K_ (f + 1) (nI i + 1) cn K F Pa Sg Dp at_ sr' dp := by
        intro st' hd' cn K F Pa Sg Dp at_ sr' dp h' kk'
        rw [nI_1]
        exact ih (i + 1) st' _ _ _ _ _ _ _ _ _ (by omega) hd' h' kk'
      refine ⟨fun hi => ?_, fun hi => ?_⟩
      · have hi0 : (i == 0) = false := by
          cases i with
          | zero => exact absurd rfl hi
          | succ i => rfl
        rw [hi0] at kk
        simp only [Bool.false_eq_true, if_false] at kk
        refine u_step hW h rfl hne.1 hne.2.1 hne.2.2 (fun _ _ h2 => ?_)
        have hd2 := dOK_k hd (dk_step (st := st))
        exact u_prod1 hW hS hP hk hd2 h2 (fun _ _ _ _ _ _ _ _ _ h3 => nx _ (dOK_k hd2 (dk_prod1 hk hkP)) _ _ _ _ _ _ _ _ _ h3 kk)
      · have hi0 : i = 0 := (nI_eq (by omega) (by decide)).mp (show nI i = nI 0 from hi)
        subst hi0
        simp only [BEq.rfl, if_true] at kk
        refine ⟨fun hx => ?_, fun hx => ?_⟩
        · rw [if_pos hx] at kk
          refine u_wrap hW.2.2.2.1 hb h (fun _ _ _ _ _ _ h1 => u_step hW h1 rfl hne.1 hne.2.1 hne.2.2 (fun _ _ h2 => ?_))
          have hd2 := dOK_k (dOK_k hd dk_wrap) (dk_step (st := gWrap nT b 18 fw st))
          exact u_prod1 hW hS hP hk hd2 h2 (fun _ _ _ _ _ _ _ _ _ h3 => nx _ (dOK_k hd2 (dk_prod1 hk hkP)) _ _ _ _ _ _ _ _ _ h3 kk)
        · rw [if_neg hx] at kk
          refine u_wrap hW.2.2.2.1 hb h (fun _ _ _ _ _ _ h1 => u_step hW h1 rfl hne.1 hne.2.1 hne.2.2 (fun _ _ h2 => ?_))
          have hd2 := dOK_k (dOK_k hd dk_wrap) (dk_step (st := gWrap nT b 13 fw st))
          exact u_prod1 hW hS hP hk hd2 h2 (fun _ _ _ _ _ _ _ _ _ h3 => nx _ (dOK_k hd2 (dk_prod1 hk hkP)) _ _ _ _ _ _ _ _ _ h3 kk)
    · rw [if_neg hj] at kk
      exact kk _ _ _ _ _ _ _ _ _ h
theorem u_product {vS vP : TP3} {gS gP : G3} {nO : Nat} {so : FN} {W nT n : Nat} (hW : cW nO so W nT) (hS : uS so W nT n vS gS) (hP : uS so W nT n vP gP) (hk : dk3 gS) (hkP : dk3 gP) {p s x : Int32} {st : pPS} (hd : dOK (n + 1) st) : uR so W nT (fun cn K F Pa Sg Dp at_ sr dp K_ => vc_P_product vS vP nO so (nI W) nT cn K F Pa Sg Dp at_ sr dp p s x K_) st (gProduct gS gP so W nT p s x st) := by
  intro cn K F Pa Sg Dp at_ sr dp K_ h kk
  have hb : gN st < 2 ^ 31 := by have := h.2.1; have := hW.2.2.2.1; show st.2.2.2.length < 2 ^ 31; omega
  exact u_piece hW hS hP hk hd _ _ _ _ _ _ _ _ _ _ h (fun _ _ _ _ _ _ _ _ _ h3 => ⟨W + 1, u_prodL hW hS hP hk hkP hb h.1 h.2.2.2.1 W 0 _ _ _ _ _ _ _ _ _ _ rfl (dOK_k hd (dk_piece hk hkP)) h3 kk⟩)
theorem u_sumL {vS vP : TP3} {gS gP : G3} {nO : Nat} {so : FN} {W nT n : Nat} (hW : cW nO so W nT) (hS : uS so W nT n vS gS) (hP : uS so W nT n vP gP) (hk : dk3 gS) (hkP : dk3 gP) {b fw : Nat} (hb : b < 2 ^ 31) {p s x : Int32} {cn0 : Int32} {K0 F0 Pa0 Sg0 Dp0 : FN} {pat0 sr0 dp0 : Int32} {K_ : KP} (e1 : cn0 = nI b) (e2 : pat0 = nI fw) : ∀ f i st cn K F Pa Sg Dp at_ sr dp, f + i = W → dOK (n + 1) st → cU so W nT st cn K F Pa Sg Dp at_ sr dp → uP so W nT (gSumL gS gP so W nT b fw x f (i == 0) st) K_ →
    vl_P_sum_25 vS vP nO so (nI W) nT cn0 K0 F0 Pa0 Sg0 Dp0 pat0 sr0 dp0 p s x K_ (f + 1) (nI i) cn K F Pa Sg Dp at_ sr dp := by
  subst e1 e2
  intro f
  induction f with
  | zero =>
    intro i st cn K F Pa Sg Dp at_ sr dp hf hd h kk
    exact ⟨fun _ => kk _ _ _ _ _ _ _ _ _ h, fun hc => absurd ((u_wc (by have := hW.2.1; have := hW.2.2.1; omega) hf).mpr rfl) hc⟩
  | succ f ih =>
    intro i st cn K F Pa Sg Dp at_ sr dp hf hd h kk
    have hWb := hW.2.1
    have hOb := hW.2.2.1
    unfold gSumL at kk
    rw [← u_sr h] at kk
    have nx : ∀ st', dOK (n + 1) st' → ∀ cn K F Pa Sg Dp at_ sr' dp, cU so W nT st' cn K F Pa Sg Dp at_ sr' dp → uP so W nT (gSumL gS gP so W nT b fw x f false st') K_ → vl_P_sum_25 vS vP nO so (nI W) nT (nI b) K0 F0 Pa0 Sg0 Dp0 (nI fw) sr0 dp0 p s x K_ (f + 1) (nI i + 1) cn K F Pa Sg Dp at_ sr' dp := by
      intro st' hd' cn K F Pa Sg Dp at_ sr' dp h' kk'
      rw [nI_1]
      exact ih (i + 1) st' _ _ _ _ _ _ _ _ _ (by omega) hd' h' kk'
    have go : sr = 43 ∨ sr = 45 → ((¬ nI i = 0 → (vc_P_step nO so (nI W) at_ sr (fun a c => (vc_P_product vS vP nO so (nI W) nT cn K F Pa Sg Dp a c dp (nI b) sr x (fun cn_18 K_19 F_20 Pa_21 Sg_22 Dp_23 at_24 sr_25 dp_26 => (vl_P_sum_25 vS vP nO so (nI W) nT (nI b) K0 F0 Pa0 Sg0 Dp0 (nI fw) sr0 dp0 p s x K_ (f + 1) (nI i + 1) cn_18 K_19 F_20 Pa_21 Sg_22 Dp_23 at_24 sr_25 dp_26)))))) ∧ (nI i = 0 → ((x = 0 → (vc_T_wrap nT cn K F Pa Sg Dp (nI b) 17 (nI fw) (fun cn_31 K_32 F_33 Pa_34 Sg_35 Dp_36 => (vc_P_step nO so (nI W) at_ sr (fun at_38 sr_39 => (vc_P_product vS vP nO so (nI W) nT cn_31 K_32 F_33 Pa_34 Sg_35 Dp_36 at_38 sr_39 dp (nI b) sr x (fun cn_18 K_19 F_20 Pa_21 Sg_22 Dp_23 at_24 sr_25 dp_26 => (vl_P_sum_25 vS vP nO so (nI W) nT (nI b) K0 F0 Pa0 Sg0 Dp0 (nI fw) sr0 dp0 p s x K_ (f + 1) (nI i + 1) cn_18 K_19 F_20 Pa_21 Sg_22 Dp_23 at_24 sr_25 dp_26)))))))) ∧ (¬ x = 0 → (vc_T_wrap nT cn K F Pa Sg Dp (nI b) 12 (nI fw) (fun cn_31 K_32 F_33 Pa_34 Sg_35 Dp_36 => (vc_P_step nO so (nI W) at_ sr (fun at_38 sr_39 => (vc_P_product vS vP nO so (nI W) nT cn_31 K_32 F_33 Pa_34 Sg_35 Dp_36 at_38 sr_39 dp (nI b) sr x (fun cn_18 K_19 F_20 Pa_21 Sg_22 Dp_23 at_24 sr_25 dp_26 => (vl_P_sum_25 vS vP nO so (nI W) nT (nI b) K0 F0 Pa0 Sg0 Dp0 (nI fw) sr0 dp0 p s x K_ (f + 1) (nI i + 1) cn_18 K_19 F_20 Pa_21 Sg_22 Dp_23 at_24 sr_25 dp_26))))))))))) := by
      intro hj
      rw [if_pos hj] at kk
      have hne : sr ≠ 0 ∧ sr ≠ 1 ∧ sr ≠ 2 := by
        rcases hj with h | h
        · rw [h]; decide
        · rw [h]; decide
      refine ⟨fun hi => ?_, fun hi => ?_⟩
      · have hi0 : (i == 0) = false := by
          cases i with
          | zero => exact absurd rfl hi
          | succ i => rfl
        rw [hi0] at kk
        simp only [Bool.false_eq_true, if_false] at kk
        refine u_step hW h rfl hne.1 hne.2.1 hne.2.2 (fun _ _ h2 => ?_)
        have hd2 := dOK_k hd (dk_step (st := st))
        exact u_product hW hS hP hk hkP hd2 _ _ _ _ _ _ _ _ _ _ h2 (fun _ _ _ _ _ _ _ _ _ h3 => nx _ (dOK_k hd2 (dk_product hk hkP)) _ _ _ _ _ _ _ _ _ h3 kk)
      · have hi0 : i = 0 := (nI_eq (by omega) (by decide)).mp (show nI i = nI 0 from hi)
        subst hi0
        simp only [BEq.rfl, if_true] at kk
        refine ⟨fun hx => ?_, fun hx => ?_⟩
        · rw [if_pos hx] at kk
          refine u_wrap hW.2.2.2.1 hb h (fun _ _ _ _ _ _ h1 => u_step hW h1 rfl hne.1 hne.2.1 hne.2.2 (fun _ _ h2 => ?_))
          have hd2 := dOK_k (dOK_k hd dk_wrap) (dk_step (st := gWrap nT b 17 fw st))
          exact u_product hW hS hP hk hkP hd2 _ _ _ _ _ _ _ _ _ _ h2 (fun _ _ _ _ _ _ _ _ _ h3 => nx _ (dOK_k hd2 (dk_product hk hkP)) _ _ _ _ _ _ _ _ _ h3 kk)
        · rw [if_neg hx] at kk
          refine u_wrap hW.2.2.2.1 hb h (fun _ _ _ _ _ _ h1 => u_step hW h1 rfl hne.1 hne.2.1 hne.2.2 (fun _ _ h2 => ?_))
          have hd2 := dOK_k (dOK_k hd dk_wrap) (dk_step (st := gWrap nT b 12 fw st))
          exact u_product hW hS hP hk hkP hd2 _ _ _ _ _ _ _ _ _ _ h2 (fun _ _ _ _ _ _ _ _ _ h3 => nx _ (dOK_k hd2 (dk_product hk hkP)) _ _ _ _ _ _ _ _ _ h3 kk)
    refine ⟨fun hc => absurd ((u_wc (by omega) hf).mp hc) (by omega), fun _ => ⟨fun h43 => go (Or.inl h43), fun h43 => ⟨fun h45 => ?_, fun h45 => go (Or.inr h45)⟩⟩⟩
    rw [if_neg (fun h => h.elim h43 h45)] at kk
    exact kk _ _ _ _ _ _ _ _ _ h
theorem u_sum {vS vP : TP3} {gS gP : G3} {nO : Nat} {so : FN} {W nT n : Nat} (hW : cW nO so W nT) (hS : uS so W nT n vS gS) (hP : uS so W nT n vP gP) (hk : dk3 gS) (hkP : dk3 gP) {p s x : Int32} {st : pPS} (hd : dOK (n + 1) st) : uR so W nT (fun cn K F Pa Sg Dp at_ sr dp K_ => vc_P_sum vS vP nO so (nI W) nT cn K F Pa Sg Dp at_ sr dp p s x K_) st (gSum gS gP so W nT p s x st) := by
  intro cn K F Pa Sg Dp at_ sr dp K_ h kk
  have hb : gN st < 2 ^ 31 := by have := h.2.1; have := hW.2.2.2.1; show st.2.2.2.length < 2 ^ 31; omega
  exact u_product hW hS hP hk hkP hd _ _ _ _ _ _ _ _ _ _ h (fun _ _ _ _ _ _ _ _ _ h3 => ⟨W + 1, u_sumL hW hS hP hk hkP hb h.1 h.2.2.2.1 W 0 _ _ _ _ _ _ _ _ _ _ rfl (dOK_k hd (dk_product hk hkP)) h3 kk⟩)
theorem f_piece {gS gP : G3} {so : FN} {W nT : Nat} {p s x : Int32} {st : pPS} (h : st.2.1 = true) : gPiece gS gP so W nT p s x st = gBad st := by
  have e : psS so st = 0 := by simp [psS, h]
  unfold gPiece
  rw [e, if_neg (by decide), if_neg (by decide), if_neg (by decide), if_neg (fun h => absurd h.1 (by decide))]
theorem f_bad {st : pPS} (h : st.2.1 = true) : gBad st = st := by
  obtain ⟨j, f, d, N⟩ := st
  simp at h
  subst h
  rfl
theorem u_lv {nO : Nat} {so : FN} {W nT : Nat} (hW : cW nO so W nT) : ∀ n, uS so W nT (n + 1) (vcLv nO so (nI W) nT (n + 1)).1 (gLv so W nT (n + 1)).1 ∧ uS so W nT (n + 1) (vcLv nO so (nI W) nT (n + 1)).2 (gLv so W nT (n + 1)).2
  | 0 => by
    have hF : ∀ st : pPS, dOK 1 st → st.2.1 = true := by
      intro st hd
      rcases hd with h | ⟨d, h1, h2, h3⟩
      · exact h
      · omega
    have hp : ∀ (vS vP : TP3) (gS gP : G3) (p s x : Int32) (st : pPS), st.2.1 = true → uR so W nT (fun cn K F Pa Sg Dp at_ sr dp K_ => vc_P_piece vS vP nO so (nI W) nT cn K F Pa Sg Dp at_ sr dp p s x K_) st st := by
      intro vS vP gS gP p s x st hf cn K F Pa Sg Dp at_ sr dp K_ h kk
      have e := u_sr h
      rw [show psS so st = 0 from by simp [psS, hf]] at e
      subst e
      exact ⟨fun _ => ⟨fun _ => ⟨fun _ => ⟨fun _ => kk _ _ _ _ _ _ _ _ _ h, fun h => absurd h (by decide)⟩, fun h => absurd h (by decide)⟩, fun h => absurd h (by decide)⟩, fun h => absurd h (by decide)⟩
    refine ⟨?_, ?_⟩
    · intro p s x st hd cn K F Pa Sg Dp at_ sr dp K_ h kk
      have hf := hF st hd
      have e0 : psS so st = 0 := by simp [psS, hf]
      have hWW : ∃ w, W = w + 1 := ⟨W - 1, by have := hW.1; omega⟩
      obtain ⟨w, hw⟩ := hWW
      have e : (gLv so W nT 1).1 p s x st = st := by
        show gSum _ _ so W nT p s x st = st
        unfold gSum gProduct
        rw [f_piece hf, f_bad hf]
        rw [show gProdL (gLv so W nT 0).1 (gLv so W nT 0).2 so W nT (gN st) st.1 x W true st = st from by
          rw [hw]; unfold gProdL gJoin; rw [e0, if_neg (fun h => h.elim (by decide) (fun h => h.elim (by decide) (fun h => absurd h.1 (by decide))))]]
        rw [hw]; unfold gSumL; rw [e0, if_neg (fun h => h.elim (by decide) (by decide))]
      rw [e] at kk
      show vc_P_sum (vcLv nO so (nI W) nT 0).1 (vcLv nO so (nI W) nT 0).2 nO so (nI W) nT cn K F Pa Sg Dp at_ sr dp p s x K_
      unfold vc_P_sum vc_P_product
      refine hp _ _ (gLv so W nT 0).1 (gLv so W nT 0).2 p s x st hf _ _ _ _ _ _ _ _ _ _ h (fun cn K F Pa Sg Dp at_ sr dp h2 => ⟨1, ?_⟩)
      have e2 := u_sr h2
      rw [e0] at e2
      subst e2
      refine ⟨fun _ => ⟨1, fun _ => kk _ _ _ _ _ _ _ _ _ h2, fun _ => ⟨fun h => absurd h (by decide), fun _ => ⟨fun _ => kk _ _ _ _ _ _ _ _ _ h2, fun h => absurd h (by decide)⟩⟩⟩, fun _ => u_joins (fun h => ?_) (fun _ => ⟨fun _ => ⟨1, fun _ => kk _ _ _ _ _ _ _ _ _ h2, fun _ => ⟨fun h => absurd h (by decide), fun _ => ⟨fun _ => kk _ _ _ _ _ _ _ _ _ h2, fun h => absurd h (by decide)⟩⟩⟩, fun h => absurd rfl h⟩)⟩
      exact h.elim (fun h => absurd h (by decide)) (fun h => h.elim (fun h => absurd h (by decide)) (fun h => absurd h.1 (by decide)))
    · intro p s x st hd cn K F Pa Sg Dp at_ sr dp K_ h kk
      have hf := hF st hd
      have e : (gLv so W nT 1).2 p s x st = st := by
        show gPiece _ _ so W nT p s x st = st
        rw [f_piece hf, f_bad hf]
      rw [e] at kk
      exact hp _ _ (gLv so W nT 0).1 (gLv so W nT 0).2 p s x st hf _ _ _ _ _ _ _ _ _ _ h kk
  | n + 1 => by
    obtain ⟨h1, h2⟩ := u_lv hW n
    obtain ⟨k1, k2⟩ := dk_lv so W nT (n + 1)
    exact ⟨fun p s x st hd => u_sum hW h1 h2 k1 k2 hd, fun p s x st hd => u_piece hW h1 h2 k1 hd⟩
