def ndOk (t : FN) (n : Nat) (so : FN) (W : Nat) (z : RS) (nd i : Nat) (b : pNd) : Prop :=
  z.Kd i = b.1 ∧ z.Bg i = nI (sbN t n b.2.1) ∧ z.Pr i = b.2.2.1 ∧ z.Sg i = b.2.2.2.1 ∧ z.De i = b.2.2.2.2 ∧
  z.Nl i = nlA t n (acl b.1) b.2.1 ∧ z.Dg i = dgA t n (acl b.1) b.2.1 ∧ z.Bh i = bhA t n so (acl b.1) b.2.1 ∧ nmOk t n z.Nf z.nm nd i (acl b.1) b.2.1 ∧ wOk W b.2.1 (acl b.1)
theorem ndOk_cg {t : FN} {n : Nat} {so : FN} {W : Nat} {zs zs' : RS} {nd i : Nat} {a : pNd} (h : ndOk t n so W zs nd i a) (e1 : zs'.Kd i = zs.Kd i) (e2 : zs'.Bg i = zs.Bg i) (e3 : zs'.Pr i = zs.Pr i) (e4 : zs'.Sg i = zs.Sg i) (e5 : zs'.De i = zs.De i) (e8 : zs'.Nl i = zs.Nl i) (e9 : zs'.Dg i = zs.Dg i) (e10 : zs'.Bh i = zs.Bh i) (e11 : zs'.Nf i = zs.Nf i) (e12 : zs'.nm = zs.nm) : ndOk t n so W zs' nd i a := by
  obtain ⟨a1, a2, a3, a4, a5, a8, a9, a10, a11, a12⟩ := h
  refine ⟨e1.trans a1, e2.trans a2, e3.trans a3, e4.trans a4, e5.trans a5, e8.trans a8, e9.trans a9, e10.trans a10, fun w hw => ?_, a12⟩
  rw [e11, e12]
  exact a11 w hw
def sFX (t : FN) (n nTp nR nN m : Nat) (fa pl : Int32) (z : RS) : Prop := RC t n nTp nR nN z ∧ m ≤ nR ∧ z.fa = fa ∧ z.pl = pl
section
variable {t : FN} {n nTp : Nat} {so : FN} {W nR nN nd : Nat} {fa pl : Int32}
theorem st_par {z : RS} {nums : List Int32} {p y : Int32} {K_ : Int32 → Prop} (hp : pOkN nums.length p) (hn : ∀ i x, nums[i]? = some x → z.Nu i = x) (hR : nums.length ≤ z.nR) (hR2 : z.nR < 2 ^ 24) (kk : K_ (numOf nums p)) :
    (0 ≤ p → vp_in p z.nR ∧ K_ (z.Nu p.toNatClampNeg)) ∧ (¬ 0 ≤ p → K_ (-1)) := by
  rcases hp with rfl | ⟨q, h1, h2, rfl⟩
  · refine ⟨fun q => absurd q (by decide), fun _ => ?_⟩
    unfold numOf at kk
    rw [if_pos (by decide)] at kk
    exact kk
  · have h0 : ¬ nI q < 0 := nI_pos h2
    refine ⟨fun _ => ⟨pu_in (by omega) (by omega), ?_⟩, fun w => absurd (Int32.not_lt.mp h0) w⟩
    unfold numOf at kk
    rw [if_neg h0, nI_clamp h2] at kk
    rw [nI_clamp h2]
    have e := List.getElem?_eq_getElem h1
    rw [hn q _ e]
    rw [List.getD_eq_getElem?_getD, e] at kk
    exact kk
theorem st_loop {K_ : RS → Prop} : ∀ (T : List pRw) (nums : List Int32) (out : List pNd) (pend : Option Int32) (z : RS) (f m : Nat), T.length ≤ f → nums.length + T.length = m → out.length ≤ nums.length → sFX t n nTp nR nN m fa pl z → z.ct = nI m →
    (∀ i b, out[i]? = some b → ndOk t n so W z nd i b) → (∀ i x, nums[i]? = some x → z.Nu i = x) →
    (∀ i a, T[i]? = some a → rowOk t n so z nd (nums.length + i) (if i = 0 then rSg (pend.getD a.2.2.2.1) a else a)) →
    pAl nums.length T → (∀ a, a ∈ T → acOk W a) → (stk T nums out pend).2.2 = none →
    (∀ z', sFX t n nTp nR nN m fa pl z' → z'.ct = nI (stk T nums out pend).2.1.length → (∀ i b, (stk T nums out pend).2.1[i]? = some b → ndOk t n so W z' nd i b) → K_ z') →
    vl_M_strike_4 K_ (f + 1) (nI out.length) (nI nums.length) z
  | [], nums, out, pend, z, f, m, hf, hm, ho, hX, hc, h1, h2, h3, h4, h5, h6, kk => by
    have hm2 : nums.length = m := by simpa using hm
    refine ⟨fun _ => kk _ hX rfl h1, fun q => absurd ?_ q⟩
    rw [hc, hm2]
    exact Int32.le_refl _
  | a :: T, nums, out, pend, z, f, m, hf, hm, ho, hX, hc, h1, h2, h3, h4, h5, h6, kk => by
    obtain ⟨f, rfl⟩ : ∃ g, f = g + 1 := ⟨f - 1, by simp at hf; omega⟩
    have hfT : T.length ≤ f := by simp at hf; omega
    have hmT : nums.length + T.length + 1 = m := by simp at hm; omega
    obtain ⟨hC, hmR, x1, x2⟩ := hX
    have eR : z.nR = nR := hC.2.2.2.1
    have hR9 : nR < 2 ^ 24 := hC.2.2.2.2.2.2.2.2.1
    have r0 := h3 0 a rfl
    rw [if_pos rfl, Nat.add_zero] at r0
    obtain ⟨y1, y2, y3, y4, y5, y6, y7, y8, y9, y10, y11⟩ := r0
    have y1 : z.Kd nums.length = a.1 := y1
    have y2 : z.Bg nums.length = nI (sbN t n a.2.1) := y2
    have y3 : z.Pr nums.length = a.2.2.1 := y3
    have y4 : z.Sg nums.length = pend.getD a.2.2.2.1 := y4
    have y5 : z.De nums.length = a.2.2.2.2.1 := y5
    have y6 : z.Pc nums.length = nI a.2.2.2.2.2.1 := y6
    have y7 : a.2.2.2.2.2.1 ≠ 0 → z.Fi nums.length = nI (nums.length + 1) := y7
    have y8 : z.Nl nums.length = nlA t n a.2.2.2.2.2.2 a.2.1 := y8
    have y9 : z.Dg nums.length = dgA t n a.2.2.2.2.2.2 a.2.1 := y9
    have y10 : z.Bh nums.length = bhA t n so a.2.2.2.2.2.2 a.2.1 := y10
    have y11 : nmOk t n z.Nf z.nm nd nums.length a.2.2.2.2.2.2 a.2.1 := y11
    have hp := h4 0 a rfl
    rw [Nat.add_zero] at hp
    have hac := h5 a (List.mem_cons_self ..)
    have hp4 : pAl (nums.length + 1) T := fun i c h => by
      have := h4 (i + 1) c (by rw [List.getElem?_cons_succ]; exact h)
      rw [show nums.length + 1 + i = nums.length + (i + 1) from by omega]
      exact this
    have h5' : ∀ a, a ∈ T → acOk W a := fun c hc => h5 c (List.mem_cons_of_mem _ hc)
    have hin : vp_in (nI nums.length) z.nR := pu_in (by omega) (by omega)
    have hin2 : vp_in (nI out.length) z.nR := pu_in (by omega) (by omega)
    have cl1 : (nI nums.length).toNatClampNeg = nums.length := nI_clamp (by omega)
    have cl2 : (nI out.length).toNatClampNeg = out.length := nI_clamp (by omega)
    have main : ∀ y, y = numOf nums a.2.2.1 → vj_M_strike_36 (vl_M_strike_4 K_ (f + 1)) K_ (nI out.length) (nI nums.length) y z := by
      intro y hy
      unfold vj_M_strike_36 vj_M_strike_187
      rw [cl1, cl2, nI_1, nI_1, y6, show (1 : Int32) = nI 1 from rfl, nI_eq hac.2.1 (by decide)]
      refine ⟨hin, fun hpc => ⟨hin, hin2, hin, hin2, hin, hin2, hin, hin2, hin, hin2, hin, hin2, hin, hin2, hin, hin2, hin, hin2, ?_⟩, fun hpc => ?_⟩
      · have es : stk (a :: T) nums out pend = stk T (nums ++ [nI out.length]) (out ++ [(a.1, a.2.1, numOf nums a.2.2.1, pend.getD a.2.2.2.1, a.2.2.2.2.1)]) none := by
          show (if _ then _ else _) = _
          rw [if_neg hpc]
        rw [es] at h6 kk
        have lo : (out ++ [(a.1, a.2.1, numOf nums a.2.2.1, pend.getD a.2.2.2.1, a.2.2.2.2.1)]).length = out.length + 1 := by simp
        have ln : (nums ++ [nI out.length]).length = nums.length + 1 := by simp
        have ih := st_loop (K_ := K_) T (nums ++ [nI out.length]) (out ++ [(a.1, a.2.1, numOf nums a.2.2.1, pend.getD a.2.2.2.1, a.2.2.2.2.1)]) none (RS.w_Nu (RS.w_De (RS.w_Bh (RS.w_Dg (RS.w_Nl (RS.w_Nf (RS.w_Sg (RS.w_Pr (RS.w_Bg (RS.w_Kd z (upd z.Kd out.length (z.Kd nums.length))) (upd z.Bg out.length (z.Bg nums.length))) (upd z.Pr out.length y)) (upd z.Sg out.length (z.Sg nums.length))) (upd z.Nf out.length (z.Nf nums.length))) (upd z.Nl out.length (z.Nl nums.length))) (vp_updL z.Dg out.length (z.Dg nums.length))) (upd z.Bh out.length (z.Bh nums.length))) (upd z.De out.length (z.De nums.length))) (upd z.Nu nums.length (nI out.length))) f m hfT (by rw [ln]; omega) (by rw [lo, ln]; omega) ⟨hC, hmR, x1, x2⟩ hc (fun i b hi => ?_) (fun i x hi => ?_) (fun i c hi => ?_) (by rw [ln]; exact hp4) h5' h6 kk
        · rw [lo, ln] at ih
          exact ih
        · by_cases hq : i = out.length
          · subst hq
            simp at hi
            subst hi
            refine ⟨upd_eq.trans y1, upd_eq.trans y2, upd_eq.trans hy, upd_eq.trans y4, upd_eq.trans y5, ?_, ?_, ?_, ?_, ?_⟩
            · exact upd_eq.trans (by rw [y8, hac.1])
            · exact updL_eq.trans (by rw [y9, hac.1])
            · exact upd_eq.trans (by rw [y10, hac.1])
            · intro w hw
              obtain ⟨g, g1, g2, g3⟩ := y11 w (by rw [hac.1]; exact hw)
              exact ⟨g, upd_eq.trans g1, g2, g3⟩
            · have := hac.2.2; rw [hac.1] at this; exact this
          · have hlt : i < out.length := by
              have := (List.getElem?_eq_some_iff.mp hi).1
              simp at this; omega
            rw [List.getElem?_append_left hlt] at hi
            exact ndOk_cg (h1 i b hi) (upd_ne hq) (upd_ne hq) (upd_ne hq) (upd_ne hq) (upd_ne hq) (upd_ne hq) (updL_ne hq) (upd_ne hq) (upd_ne hq) rfl
        · by_cases hq : i = nums.length
          · subst hq
            simp at hi
            subst hi
            exact upd_eq
          · have hlt : i < nums.length := by
              have := (List.getElem?_eq_some_iff.mp hi).1
              simp at this; omega
            rw [List.getElem?_append_left hlt] at hi
            exact (upd_ne hq).trans (h2 i x hi)
        · have := h3 (i + 1) c (by rw [List.getElem?_cons_succ]; exact hi)
          rw [if_neg (by omega)] at this
          have ee : (if i = 0 then rSg ((none : Option Int32).getD c.2.2.2.1) c else c) = c := by split <;> rfl
          rw [ee, ln, show nums.length + 1 + i = nums.length + (i + 1) from by omega]
          have hne : nums.length + (i + 1) ≠ out.length := by omega
          exact rowOk_cg this (upd_ne hne) (upd_ne hne) (upd_ne hne) (upd_ne hne) (upd_ne hne) rfl rfl (upd_ne hne) (updL_ne hne) (upd_ne hne) (upd_ne hne) rfl
      · have es : stk (a :: T) nums out pend = stk T (nums ++ [numOf nums a.2.2.1]) out (some (pend.getD a.2.2.2.1)) := by
          show (if _ then _ else _) = _
          rw [if_pos hpc]
        rw [es] at h6 kk
        have hT : 1 ≤ T.length := by
          cases T with
          | nil => exact absurd h6 (by simp [stk])
          | cons b T => simp
        have eF := y7 (by omega)
        have ln : (nums ++ [numOf nums a.2.2.1]).length = nums.length + 1 := by simp
        rw [eF, nI_clamp (by omega)]
        refine ⟨hin, hin, pu_in (by omega) (by omega), hin, ?_⟩
        have ih := st_loop (K_ := K_) T (nums ++ [numOf nums a.2.2.1]) out (some (pend.getD a.2.2.2.1)) (RS.w_Nu (RS.w_Sg z (upd z.Sg (nums.length + 1) (z.Sg nums.length))) (upd z.Nu nums.length y)) f m hfT (by rw [ln]; omega) (by rw [ln]; omega) ⟨hC, hmR, x1, x2⟩ hc (fun i b hi => ?_) (fun i x hi => ?_) (fun i c hi => ?_) (by rw [ln]; exact hp4) h5' h6 kk
        · rw [ln] at ih
          exact ih
        · have hlt : i < out.length := (List.getElem?_eq_some_iff.mp hi).1
          exact ndOk_cg (h1 i b hi) rfl rfl rfl (upd_ne (by omega)) rfl rfl rfl rfl rfl rfl
        · by_cases hq : i = nums.length
          · subst hq
            simp at hi
            subst hi
            exact upd_eq.trans hy
          · have hlt : i < nums.length := by
              have := (List.getElem?_eq_some_iff.mp hi).1
              simp at this; omega
            rw [List.getElem?_append_left hlt] at hi
            exact (upd_ne hq).trans (h2 i x hi)
        · have := h3 (i + 1) c (by rw [List.getElem?_cons_succ]; exact hi)
          rw [if_neg (by omega)] at this
          by_cases hi0 : i = 0
          · subst hi0
            rw [if_pos rfl, ln]
            obtain ⟨v1, v2, v3, v4, v5, v6, v7, v8, v9, v10, v11⟩ := this
            exact ⟨v1, v2, v3, upd_eq.trans y4, v5, v6, v7, v8, v9, v10, v11⟩
          · rw [if_neg hi0, ln, show nums.length + 1 + i = nums.length + (i + 1) from by omega]
            exact rowOk_cg this rfl rfl rfl (upd_ne (by omega)) rfl rfl rfl rfl rfl rfl rfl rfl
    refine ⟨fun q => absurd q ?_, fun _ => ⟨hin, ?_⟩⟩
    · rw [hc, nI_leI (by omega) (by omega)]; omega
    · rw [cl1, y3]
      have sp := st_par (z := z) (nums := nums) (p := a.2.2.1) (y := 0) (K_ := fun y => vj_M_strike_36 (vl_M_strike_4 K_ (f + 1)) K_ (nI out.length) (nI nums.length) y z) hp h2 (by omega) (by omega) (main _ rfl)
      exact ⟨fun q => ⟨hin, sp.1 q⟩, sp.2⟩
end
