theorem gf_ok {so : FN} {st : pPS} {j : Nat} {d : Int32} {N : List pNd} (h : gFin so st = (j, false, d, N)) : psS so st = 1 ∧ st = (j, false, d, N) := by
  unfold gFin at h
  by_cases q : psS so st = 1
  · rw [if_pos q] at h
    exact ⟨q, h⟩
  · rw [if_neg q] at h
    have this : true = false := congrArg (fun (s : pPS) => s.2.1) h
    exact absurd this (by decide)
theorem gf_no {so : FN} {st : pPS} {j : Nat} {d : Int32} {N : List pNd} (h : gFin so st = (j, true, d, N)) : psS so st ≠ 1 ∧ st.1 = j := by
  unfold gFin at h
  by_cases q : psS so st = 1
  · rw [if_pos q] at h
    rw [h, ps_f] at q
    exact absurd q (by decide)
  · rw [if_neg q] at h
    exact ⟨q, congrArg (fun (s : pPS) => s.1) h⟩
theorem stk_len : ∀ T nums out pend, (stk T nums out pend).2.1.length ≤ out.length + T.length
  | [], nums, out, pend => by simp [stk]
  | a :: T, nums, out, pend => by
    unfold stk
    split
    · have := stk_len T (nums ++ [numOf nums a.2.2.1]) out (some (pend.getD a.2.2.2.1))
      rw [List.length_cons]; omega
    · have := stk_len T (nums ++ [nI out.length]) (out ++ [(a.1, a.2.1, numOf nums a.2.2.1, pend.getD a.2.2.2.1, a.2.2.2.2.1)]) none
      rw [List.length_append, List.length_singleton] at this
      rw [List.length_cons]; omega
theorem w_rW {t : FN} {n nTp : Nat} {so sb se : FN} {W : Nat} (h : WDS t n so sb se W) (hc : cT nTp t n) (hn : n < 2 ^ 20) : rW t n nTp so W :=
  ⟨hc, hn, h.1, h.2.1, h.2.2.1, fun j hj => (h.2.2.2 j hj).2.2⟩
def rPost (t : FN) (nTp nR nN : Nat) (L : List pNd) (pl : Int32) (z : RS) : Prop := RC t 0 nTp nR nN z ∧ z.ct = nI L.length ∧ L.length ≤ nR ∧ z.pl = pl
theorem m_read {t : FN} {n nTp : Nat} {so : FN} {W nT nR nN : Nat} {z : RS} (hW : rW t n nTp so W) (hWT : W ≤ nT) (hT : nT < 2 ^ 30) (hz1 : z.tp = t) (hz2 : z.nT = nTp) (hz3 : z.fd = nI n) (hz4 : z.nR = nR) (hz5 : z.nN = nN) (hz6 : ∀ k, -128 ≤ z.nm k ∧ z.nm k ≤ 127) (b1 : 64 ≤ nR) (b0 : nR % 4 = 0) (b2 : nR < 2 ^ 24) (b3 : 256 ≤ nN) (b4 : nN < 2 ^ 24) :
    ∃ nR' nN' : Nat, gwR W nR nR' ∧ gwN n nN nN' ∧ ∀ mc ms (K_ : Int32 → RS → Prop), nR' + 4 * nN' + 4 ≤ 4 * mc + nR + 4 * nN → 24 * nR' + 2 * nN' + 6 ≤ ms + 24 * nR + 2 * nN →
      (psS so (pstE so W nT) = 1 → ∀ z' nd, rPost t nTp nR' nN' (pstE so W nT).2.2.2 (-1) z' → nd ≤ nN' → (∀ i b, (pstE so W nT).2.2.2[i]? = some b → ndOk t n so W z' nd i b) → K_ (nI (pstE so W nT).2.2.2.length) z') →
      (psS so (pstE so W nT) ≠ 1 → ∀ z', rPost t nTp nR' nN' [] (nI (sbN t n (pstE so W nT).1)) z' → K_ ((if so (pstE so W nT).1 = 2 then 1 else 2) - 100) z') → vc_M_read mc ms z K_ := by
  have w := tk_so hW (j := 0) (by have := hW.2.2.1; omega)
  have hC : RC t n nTp nR nN (RS.w_nd (RS.w_ct (RS.w_op (RS.w_at_ (RS.w_pl (RS.w_fa (RS.w_th z 0) 0) (-1)) 0) 0) 0) 0) := ⟨hz1, hz2, hz3, hz4, hz5, rfl, hz6, b1, b2, b3, b4⟩
  rcases J_text0 (nT := nT) hW hWT hT with ⟨j', m, rn, L, R, c1, c2, c3, c4, c5, c6, c7⟩ | ⟨j', c1, c2, c3, c4⟩
  · have e1 := c6 (-1) [] rfl (by simp)
    have e1 : gFin so (pstE so W nT) = (j', false, nI 0, L 0 (-1)) := e1
    obtain ⟨e2, e3⟩ := gf_ok e1
    have e4 : (pstE so W nT).2.2.2 = L 0 (-1) := by rw [e3]
    obtain ⟨nR1, nN1, nd1, g1, g2, g3, g4, g5⟩ := c7 [] (-1) nR nN 0 (by simp) (by simp) (by omega) (by omega) rfl
    refine ⟨nR1, nN1, g1, g2, fun mc ms K_ hc hs k0 k1 => ?_⟩
    have hm1 := g1.1; have hm2 := g2.1
    have k0 := k0 e2
    rw [e4] at k0
    refine ⟨(nR1 - nR) / 4 + nN1 - nN, 24 * nR1 + 2 * nN1 - 24 * nR - 2 * nN, by omega, by omega, ?_⟩
    rw [tt_b]
    refine q_first hW hC rfl rfl rfl rfl rfl rfl (fun z1 hz => tt_c (g5 z1 _ _ _ _ 0 0 hz ⟨by omega, by omega⟩ (fun z2 h2 => ?_)))
    have h2 : RP t n nTp so (R 0 (-1)) nR1 nN1 nd1 0 j' z2 := h2
    obtain ⟨⟨hC2, x1, x2, x3, x4, x5, x6, x7, x8⟩, _, _⟩ := h2
    have hR : (R 0 (-1)).length = rn := c5.2.1 0 (-1)
    have hL : (L 0 (-1)).length = m := c5.1 0 (-1)
    obtain ⟨X, X1, X2⟩ := c5.2.2.2.2 [] [] (-1) (Or.inl rfl) (by simp; omega)
    have X3 : stk (R 0 (-1)) [] [] none = (X, L 0 (-1), none) := X2
    have h4 := c5.2.2.2.1 0 (-1)
    have h9 := stk_len (R 0 (-1)) [] [] none
    rw [X3, hR, List.length_nil] at h9
    have h9 : (L 0 (-1)).length ≤ 0 + rn := h9
    refine ⟨(R 0 (-1)).length + 1, st_loop (t := t) (n := n) (nTp := nTp) (so := so) (W := W) (nR := nR1) (nN := nN1) (nd := nd1) (fa := 0) (pl := -1) (R 0 (-1)) [] [] none z2 _ (R 0 (-1)).length (Nat.le_refl _) (by simp) (by simp) ⟨hC2, x3, x6, x7⟩ x2 (fun i b hi => by simp at hi) (fun i b hi => by simp at hi) (fun i a hi => ?_) (h4.2 (by omega) (Or.inl rfl)) h4.1 (by rw [X3]) (fun z3 y1 y2 y3 => ?_)⟩
    · have ee : (if i = 0 then rSg ((none : Option Int32).getD a.2.2.2.1) a else a) = a := by split <;> rfl
      rw [ee]
      simp only [List.length_nil, Nat.zero_add]
      exact x8 i a hi
    · rw [X3] at y2 y3
      obtain ⟨v1, v2, v3, v4⟩ := y1
      have kk := k0 (RS.w_fd z3 0) nd1 ⟨⟨v1.1, v1.2.1, rfl, v1.2.2.2⟩, y2, by rw [hL]; omega, v4⟩ x5 (fun i b hi => y3 i b hi)
      refine ⟨fun _ => ?_, fun q => absurd (by rw [v3]; exact Int32.le_refl _) q⟩
      rw [y2]
      exact kk
  · obtain ⟨d', N', e1⟩ := c3 (-1) [] rfl (by simp)
    have e1 : gFin so (pstE so W nT) = (j', true, d', N') := e1
    obtain ⟨e2, e3⟩ := gf_no e1
    obtain ⟨nR1, nN1, g1, g2, g5⟩ := c4 [] (-1) nR nN 0 (by simp) (by simp) (by omega) (by omega) rfl
    refine ⟨nR1, nN1, g1, g2, fun mc ms K_ hc hs k0 k1 => ?_⟩
    have hm1 := g1.1; have hm2 := g2.1
    have k1 := k1 e2
    rw [e3] at k1
    refine ⟨(nR1 - nR) / 4 + nN1 - nN, 24 * nR1 + 2 * nN1 - 24 * nR - 2 * nN, by omega, by omega, ?_⟩
    rw [tt_b]
    refine q_first hW hC rfl rfl rfl rfl rfl rfl (fun z1 hz => tt_c (g5 z1 _ _ _ _ 0 0 hz ⟨by omega, by omega⟩ (fun z2 h2 => ?_)))
    obtain ⟨hC2, x1, x2⟩ := h2
    have hf : ¬ z2.fa ≤ 0 := by rw [x1]; split <;> decide
    refine ⟨1, fun _ => ⟨fun q => absurd q hf, fun _ => ?_⟩, fun q => absurd (Int32.le_refl _) q⟩
    have kk := k1 (RS.w_fd (RS.w_ct (RS.w_ct z2 0) 0) 0) ⟨⟨hC2.1, hC2.2.1, rfl, hC2.2.2.2⟩, rfl, by simp, x2⟩
    rw [← x1] at kk
    exact kk
