def tcN (W nT : Nat) : Nat := if W ≤ nT then nT else if W < 2 * nT then 2 * nT else W
def tcC (W nT : Nat) : Nat := if W ≤ nT then 0 else 5
def tcS (W nT : Nat) : Nat := if W ≤ nT then 0 else 5 * tcN W nT
theorem tcN_b (W nT : Nat) : W ≤ tcN W nT ∧ nT ≤ tcN W nT ∧ (tcN W nT = nT ∨ tcN W nT ≤ 2 * W) := by
  unfold tcN
  split
  · omega
  · split <;> omega
theorem tc_m {W V nT : Nat} (h : W ≤ V) : tcC W nT ≤ tcC V nT ∧ tcS W nT ≤ tcS V nT := by
  unfold tcS tcC tcN
  constructor
  · split <;> split <;> omega
  · split
    · omega
    · rw [if_neg (show ¬ V ≤ nT by omega), if_neg (show ¬ V ≤ nT by omega)]
      split <;> split <;> omega
theorem n_clear {mc ms nT : Nat} {cn : Int32} {K F Pa Sg Dp : FN} {aK aF aP aS aD W : Nat} {K_ : Nat → Nat → Nat → Nat → Nat → Nat → Int32 → FN → FN → FN → FN → FN → Prop} (hT : nT < 2 ^ 24) (hW : W < 2 ^ 24) (hc : tcC W nT ≤ mc) (hs : tcS W nT ≤ ms) (kk : ∀ aK aF aP aS aD K F Pa Sg Dp, K_ aK aF aP aS aD (tcN W nT) 0 K F Pa Sg Dp) : vc_T_clear mc ms nT cn K F Pa Sg Dp aK aF aP aS aD (nI W) K_ := by
  unfold tcC at hc
  unfold tcS at hs
  have e2 : (2 : Int32) * nI nT = nI (2 * nT) := (Int32.ofNat_mul 2 nT).symm
  unfold vc_T_clear
  rw [nI_leI (by omega) (by omega), e2]
  refine ⟨fun h => ?_, fun h => ?_⟩
  · have e : tcN W nT = nT := by unfold tcN; rw [if_pos h]
    rw [e] at kk
    exact kk _ _ _ _ _ _ _ _ _ _
  · rw [if_neg h] at hc hs
    have e : (if nI W < nI (2 * nT) then nI (2 * nT) else nI W) = nI (tcN W nT) := by
      unfold tcN
      rw [if_neg h]
      by_cases h2 : W < 2 * nT
      · rw [if_pos h2, if_pos ((nI_ltI (by omega) (by omega)).mpr h2)]
      · rw [if_neg h2, if_neg (fun q => h2 ((nI_ltI (by omega) (by omega)).mp q))]
    have hN : tcN W nT < 2 ^ 26 := by
      unfold tcN
      split
      · omega
      · split <;> omega
    rw [e, nI_clamp (by omega)]
    have hp := nI_pos (n := tcN W nT) (by omega)
    exact ⟨hp, by omega, by omega, by omega, fun _ => ⟨hp, by omega, by omega, by omega, fun _ => ⟨hp, by omega, by omega, by omega, fun _ => ⟨hp, by omega, by omega, by omega, fun _ => ⟨hp, by omega, by omega, by omega, fun _ => kk _ _ _ _ _ _ _ _ _ _⟩⟩⟩⟩⟩
theorem w_hold {W w : Nat} {K_ : Int32 → Prop} (hw : w < W) (hW : W < 2 ^ 30) (kk : K_ 1) : vc_W_holds (nI W) (nI w) K_ := by
  refine ⟨fun q => absurd q (nI_pos (by omega)), fun _ => ⟨fun q => ?_, fun _ => kk⟩⟩
  rw [nI_leI (by omega) (by omega)] at q
  omega
theorem w_sort {nO : Nat} {so : FN} {W w : Nat} {K_ : Int32 → Prop} (hw : w < W) (hO : W ≤ nO) (hO2 : nO < 2 ^ 30) (kk : K_ (so w)) : vc_W_sortOf nO so (nI W) (nI w) K_ := by
  refine w_hold hw (by omega) ⟨fun q => absurd q (by decide), fun _ => ⟨pu_in (by omega) (by omega), ?_⟩⟩
  rw [nI_clamp (by omega)]
  exact kk
theorem w_start {nO : Nat} {sb : FN} {W w : Nat} {K_ : Int32 → Prop} (hw : w < W) (hO : W ≤ nO) (hO2 : nO < 2 ^ 30) (kk : K_ (sb w)) : vc_W_startOf nO sb (nI W) (nI w) K_ := by
  refine w_hold hw (by omega) ⟨fun q => absurd q (by decide), fun _ => ⟨pu_in (by omega) (by omega), ?_⟩⟩
  rw [nI_clamp (by omega)]
  exact kk
theorem dk_trainL {so : FN} {W nT : Nat} {r : Int32} : ∀ f st, dk 0 st (gTrainL so W nT r f st)
  | 0, st => dk_rfl
  | f + 1, st => dk_ite (dk_t (dk_t (dk_t (dk_t dk_step (dk_whole (dk33 so W nT))) dk_take) dk_fraction) (dk_trainL f _)) dk_rfl
theorem dk_fracBs {so : FN} {nT : Nat} {x r : Int32} {st : pPS} : dk 0 st (gFracB so nT x r st) := dk_ite (dk_t dk_step dk_fraction) dk_rfl
theorem dk_trainE {so : FN} {nT : Nat} {r : Int32} {st : pPS} : dk 0 st (gTrainE so nT r st) := dk_t (dk_t (dk_t dk_fracBs dk_fracBs) dk_fracBs) dk_take
theorem dk_train {so : FN} {W nT : Nat} {st : pPS} : dk 0 st (gTrain so W nT st) := dk_t (dk_t (dk_t (dk_t (dk_t (dk_t (dk_t dk_add dk_take) dk_take) (dk_whole (dk33 so W nT))) dk_take) dk_fraction) (dk_trainL _ _)) dk_trainE
def pst0 : pPS := (0, false, nI 0, [])
def pstE (so : FN) (W nT : Nat) : pPS := gItemsL (gIt so W nT 32) so W nT (-1) W (gTrain so W nT pst0)
theorem n_parse {mc ms nO : Nat} {so : FN} {W nT : Nat} {cn : Int32} {K F Pa Sg Dp : FN} {at_ sr dp : Int32} {aK aF aP aS aD : Nat} {K_ : Int32 → Nat → Nat → Nat → Nat → Nat → Nat → Int32 → FN → FN → FN → FN → FN → Int32 → Int32 → Int32 → Prop}
    (w1 : 1 ≤ W) (w2 : W ≤ nO) (w3 : nO < 2 ^ 24) (w4 : so (W - 1) = 1 ∨ so (W - 1) = 2) (hT : nT < 2 ^ 24) (hc : tcC W nT ≤ mc) (hs : tcS W nT ≤ ms)
    (k0 : psS so (pstE so W (tcN W nT)) = 1 → ∀ aK aF aP aS aD K F Pa Sg Dp a b c, cRep (pstE so W (tcN W nT)).2.2.2 K F Pa Sg Dp → (pstE so W (tcN W nT)).2.2.2.length ≤ tcN W nT → K_ 0 aK aF aP aS aD (tcN W nT) (nI (pstE so W (tcN W nT)).2.2.2.length) K F Pa Sg Dp a b c)
    (k1 : psS so (pstE so W (tcN W nT)) ≠ 1 → (pstE so W (tcN W nT)).1 < W → ∀ aK aF aP aS aD K F Pa Sg Dp b c, K_ (if so (pstE so W (tcN W nT)).1 = 2 then 1 else 2) aK aF aP aS aD (tcN W nT) 0 K F Pa Sg Dp (nI (pstE so W (tcN W nT)).1) b c) :
    vc_P_parse mc ms nO so (nI W) nT cn K F Pa Sg Dp at_ sr dp aK aF aP aS aD K_ := by
  have hb := tcN_b W nT
  have hN : tcN W nT < 2 ^ 26 := by omega
  have hW : cW nO so W (tcN W nT) := ⟨w1, w2, by omega, by omega, w4⟩
  have d0 : dOK 33 pst0 := Or.inr ⟨0, rfl, by omega, by omega⟩
  have d1 : dOK 33 (gTrain so W (tcN W nT) pst0) := dOK_k d0 dk_train
  refine ⟨tcC W nT, tcS W nT, by omega, by omega, n_clear hT (by omega) (Nat.le_refl _) (Nat.le_refl _) (fun aK aF aP aS aD K F Pa Sg Dp => ?_)⟩
  refine w_sort (w := 0) (by omega) w2 (by omega) ?_
  have c0 : cU so W (tcN W nT) pst0 0 K F Pa Sg Dp 0 (so 0) 0 := ⟨rfl, by simp [pst0], fun i a hi => by simp [pst0] at hi, rfl, rfl, rfl, by show 0 < W; omega⟩
  refine u_train hW d0 _ _ _ _ _ _ _ _ _ _ c0 (fun cn1 K1 F1 P1 S1 D1 a1 s1 e1 c1 => ?_)
  refine u_it hW 32 (by omega) (-1) _ d1 _ _ _ _ _ _ _ _ _ _ c1 (fun cn2 K2 F2 P2 S2 D2 a2 s2 e2 c2 => ?_)
  have c2 : cU so W (tcN W nT) (pstE so W (tcN W nT)) cn2 K2 F2 P2 S2 D2 a2 s2 e2 := c2
  obtain ⟨q1, q2, q3, q4, q5, q6, q7⟩ := c2
  refine ⟨fun hs1 => ?_, fun hs1 => ?_⟩
  · refine ⟨0, 0, by omega, by omega, ?_⟩
    refine ⟨fun _ => ?_, fun q => absurd ?_ q⟩
    · rw [q4]
      refine w_sort q7 w2 (by omega) ?_
      have kk := k1 (by rw [← q5]; exact hs1) q7
      refine ⟨fun hq => ?_, fun hq => ?_⟩
      · rw [if_neg hq] at kk
        exact kk _ _ _ _ _ _ _ _ _ _ _ _
      · rw [if_pos hq] at kk
        exact kk _ _ _ _ _ _ _ _ _ _ _ _
    · rw [show (0 : Int32) = nI 0 from rfl, nI_leI (by omega) (by omega)]
      omega
  · rw [q1]
    exact k0 (by rw [← q5]; exact hs1) _ _ _ _ _ _ _ _ _ _ _ _ _ q3 q2
theorem n_read {mc ms nA : Nat} {t : FN} {n : Nat} {pl at_ sr dp : Int32} {nX : Nat} {tx : FN} {ln : Int32} {nO : Nat} {so0 sb0 se0 : FN} {wc : Int32} {nT : Nat} {cn : Int32} {K F Pa Sg Dp : FN} {aX aO aB aE aK aF aP aS aD : Nat} {K_ : Int32 → Int32 → Int32 → Nat → Nat → Nat → Nat → Nat → FN → Int32 → Nat → FN → FN → FN → Int32 → Nat → Nat → Nat → Nat → Nat → Nat → Int32 → FN → FN → FN → FN → FN → Int32 → Int32 → Int32 → Prop}
    (hA : n ≤ nA) (hA2 : nA < 2 ^ 20) (hX : nX < 2 ^ 20) (hO : nO = nX + 1) (hb : ∀ i, i < n → -128 ≤ t i ∧ t i ≤ 127) (hT : nT < 2 ^ 24) (hc : kpC n nX + 5 ≤ mc) (hs : kpS n nX nA + tcS (n + 1) nT ≤ ms)
    (k0 : ∀ t' so sb se W, (∀ i, i < n → t' i = t i) → WDS t n so sb se W → psS so (pstE so W (tcN W nT)) = 1 → ∀ aX aO aB aE aK aF aP aS aD K F Pa Sg Dp a b c, cRep (pstE so W (tcN W nT)).2.2.2 K F Pa Sg Dp → (pstE so W (tcN W nT)).2.2.2.length ≤ tcN W nT → K_ (nI (pstE so W (tcN W nT)).2.2.2.length) 0 (-1) aX aO aB aE (kpX n nX nA) t' (nI n) (kpX n nX nA + 1) so sb se (nI W) aK aF aP aS aD (tcN W nT) (nI (pstE so W (tcN W nT)).2.2.2.length) K F Pa Sg Dp a b c)
    (k1 : ∀ t' so sb se W, (∀ i, i < n → t' i = t i) → WDS t n so sb se W → psS so (pstE so W (tcN W nT)) ≠ 1 → (pstE so W (tcN W nT)).1 < W → ∀ aX aO aB aE aK aF aP aS aD K F Pa Sg Dp b c, K_ ((if so (pstE so W (tcN W nT)).1 = 2 then 1 else 2) - 100) 0 (nI (sbN t n (pstE so W (tcN W nT)).1)) aX aO aB aE (kpX n nX nA) t' (nI n) (kpX n nX nA + 1) so sb se (nI W) aK aF aP aS aD (tcN W nT) 0 K F Pa Sg Dp (nI (pstE so W (tcN W nT)).1) b c) :
    vc_N_read mc ms nA t (nI n) pl at_ sr dp nX tx ln nO so0 sb0 se0 wc nT cn K F Pa Sg Dp aX aO aB aE aK aF aP aS aD K_ := by
  refine ⟨kpC n nX, kpS n nX nA, by omega, by omega, l_cut hA (by omega) (by omega) hO hb (Nat.le_refl _) (Nat.le_refl _) (fun aX' aO' aB' aE' t' so sb se W ht hWD => ?_)⟩
  have hk : n ≤ kpX n nX nA ∧ kpX n nX nA < 2 ^ 20 := by unfold kpX; split <;> omega
  obtain ⟨v1, v2, v3, v4⟩ := id hWD
  have hm := tc_m (nT := nT) v2
  have h5 : tcC W nT ≤ 5 := by unfold tcC; split <;> omega
  refine ⟨tcC W nT, tcS W nT, by omega, by omega, n_parse v1 (by omega) (by omega) v3 hT (Nat.le_refl _) (Nat.le_refl _) (fun h aK aF aP aS aD K F Pa Sg Dp a b c hr hl => ?_) (fun h hj aK aF aP aS aD K F Pa Sg Dp b c => ?_)⟩
  · exact ⟨fun q => absurd rfl q, fun _ => ⟨fun q => absurd rfl q, fun _ => k0 t' so sb se W ht hWD h _ _ _ _ _ _ _ _ _ _ _ _ _ _ _ _ _ hr hl⟩⟩
  · have kk := k1 t' so sb se W ht hWD h hj
    have hne : (if so (pstE so W (tcN W nT)).1 = 2 then 1 else 2 : Int32) ≠ 0 := by split <;> decide
    refine ⟨fun _ => w_start hj (by omega) (by omega) ⟨fun _ => ?_, fun q => absurd q hne⟩, fun q => absurd q hne⟩
    rw [(v4 _ hj).1]
    exact kk _ _ _ _ _ _ _ _ _ _ _ _ _ _ _ _
