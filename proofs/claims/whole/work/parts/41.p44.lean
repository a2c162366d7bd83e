theorem fd_f (n nA : Nat) (h : n ≤ nA) (h2 : 20 ≤ nA) : nA ≤ fdN n nA ∧ n + 20 ≤ fdN n nA ∧ (fdN n nA = nA ∨ (fdN n nA = 2 * nA ∧ nA < n + 20)) ∧ fdS n nA + 2 * nA = 2 * fdN n nA ∧ fdC n nA ≤ 1 := by
  unfold fdN fdS fdC
  split <;> omega
theorem tcS_b (W nT : Nat) : tcS W nT ≤ 10 * W := by
  unfold tcS tcN
  split
  · omega
  · split <;> omega
section
variable {k cu su nA : Nat} {tp : FN} {tl pl at_ sr dp : Int32} {nX : Nat} {tx : FN} {ln : Int32} {nO : Nat} {so sb se : FN} {wc : Int32} {nT : Nat} {cn : Int32} {K F Pa Sg Dp : FN} {z : RS}
theorem NUM_feed {k cu su n B nA nX nT nTp nR nN : Nat} (h : NUM k cu su n B nA nX nT nTp nR nN) : NUM (k + 1) (cu + (fdC n nA + 1) + fdC n nTp) (su + (fdS n nA + 6) + fdS n nTp) (n + 20) B (fdN n nA) nX nT (fdN n nTp) nR nN := by
  have f1 := fd_f n nA (by unfold NUM at h; omega) (by unfold NUM at h; omega)
  have f2 := fd_f n nTp (by unfold NUM at h; omega) (by unfold NUM at h; omega)
  unfold NUM at *
  omega
theorem st_0 {ou : FL} {aT : Nat} {xs : FN} {iv : Int32} (h : INV k cu su nA tp tl pl nX tx ln nO so sb se wc nT cn K F Pa Sg Dp z) (hk : k < 512) : vq_0 cu su nA tp tl pl at_ sr dp nX tx ln nO so sb se wc nT cn K F Pa Sg Dp z ou aT xs iv (KI (k + 1)) := by
  obtain ⟨n, B, nTp, nR, nN, h1, ⟨a1, a2, a3, rfl, a5, a6, a7, a8, a9, a10, a11⟩, h3, h4⟩ := h
  have hN := NUM_feed h1
  have hR := NUM_room hN (by omega)
  have f1 := fd_f n nA (by unfold NUM at h1; omega) (by unfold NUM at h1; omega)
  have f2 := fd_f n nTp (by unfold NUM at h1; omega) (by unfold NUM at h1; omega)
  have hb : n ≤ nA ∧ n ≤ nTp ∧ 512 ≤ nA ∧ 1024 ≤ nTp ∧ n ≤ 20 * k ∧ nA ≤ 512 + 40 * k ∧ nTp ≤ 1024 + 40 * k := by unfold NUM at h1; omega
  unfold vq_0
  generalize xs (iv + 1).toNatClampNeg = x1
  generalize xs (iv + 2).toNatClampNeg = x2
  generalize xs (iv + 3).toNatClampNeg = x3
  generalize xs (iv + 4).toNatClampNeg = x4
  generalize xs (iv + 5).toNatClampNeg = x5
  refine ⟨fdC n nA + 1, fdS n nA + 6, by omega, by omega, fdC n nA, fdS n nA, by omega, by omega, n_feed (by omega) hb.1 (by omega) (by omega) a1 a2 (Nat.le_refl _) (Nat.le_refl _) (fun aT' => ⟨vin01, ?_⟩)⟩
  refine ⟨fdC n nTp, fdS n nTp, hR.1, hR.2, m_feed (t := tp) (n := n) (nTp := nTp) (by omega) hb.2.1 (by omega) (by omega) a1 a3 a5 a6 a7 (Nat.le_refl _) (Nat.le_refl _) (fun z' e1 e2 e3 e4 e5 => ?_)⟩
  have kk : KI (k + 1) (cu + (fdC n nA + 1) + fdC n nTp) (su + (fdS n nA + 6) + fdS n nTp) (fdN n nA) (wrF tp n x1 x2 x3 x4 x5 20) (nI (n + 20)) pl at_ sr dp nX tx ln nO so sb se wc nT cn K F Pa Sg Dp z' := by
    refine ⟨n + 20, B, fdN n nTp, nR, nN, hN, ⟨wr_b a1 n x1 x2 x3 x4 x5 20, fun i hi => wr_0 (m := fdN n nA) (fun k hk => a2 k (by omega)) 20 (by omega) i hi, fun i hi => wr_0 (m := fdN n nTp) (fun k hk => a3 k (by omega)) 20 (by omega) i hi, rfl, e1, e2, e3, ?_, ?_, ?_, ?_⟩, h3, AN_cg h4 e5⟩
    · rw [e5.2.2.2.2.2.2.2.2.2.2.2.1]; exact a8
    · rw [e5.2.2.2.2.2.2.2.2.2.2.2.2.1]; exact a9
    · rw [e5.2.2.2.2.2.2.2.2.2.1]; exact a10
    · rw [e5.2.2.2.2.2.2.2.2.2.2.2.2.2]; exact a11
  refine ⟨fun _ => ⟨fun q => absurd rfl q, fun _ => ⟨vin01, fun _ => kk, fun q => absurd updL_eq q⟩⟩, fun q => absurd e4 q⟩
theorem kp_f (n nX nA : Nat) (h : n ≤ nA) (hX : nX = nA ∨ 2 * nX ≤ nA) : n ≤ kpX n nX nA ∧ (kpX n nX nA = nA ∨ 2 * kpX n nX nA ≤ nA) ∧ kpS n nX nA + 8 * nX ≤ 8 * kpX n nX nA + 3 ∧ kpC n nX ≤ 4 := by
  unfold kpX kpS kpC
  split <;> omega
theorem NUM_read {k cu su n B nA nX nT nTp nR nN W nR' nN' : Nat} (h : NUM k cu su n B nA nX nT nTp nR nN) (hW : W ≤ n + 1) (hR : gwR W nR nR') (hN : gwN n nN nN') :
    NUM (k + 1) (cu + (kpC n nX + 5) + ((nR' - nR) / 4 + (nN' - nN) + 1)) (su + (kpS n nX nA + tcS (n + 1) nT) + (24 * nR' + 2 * nN' + 6 - (24 * nR + 2 * nN))) 0 (B + n) nA (kpX n nX nA) (tcN W nT) nTp nR' nN' := by
  have f1 := kp_f n nX nA (by unfold NUM at h; omega) (by unfold NUM at h; omega)
  have f2 := tcN_b W nT
  have f3 := tcS_b (n + 1) nT
  unfold gwR at hR
  unfold gwN at hN
  unfold NUM at *
  omega
theorem st_2 {aX aO aB aE aK aF aP aS aD : Nat} {xs : FN} {iv : Int32} (h : INV k cu su nA tp tl pl nX tx ln nO so sb se wc nT cn K F Pa Sg Dp z) (hk : k < 512) : vq_2 cu su nA tp tl pl at_ sr dp nX tx ln nO so sb se wc nT cn K F Pa Sg Dp z aX aO aB aE aK aF aP aS aD xs iv (KI (k + 1)) := by
  obtain ⟨n, B, nTp, nR, nN, h1, ⟨a1, a2, a3, rfl, a5, a6, a7, a8, a9, a10, a11⟩, h3, h4⟩ := h
  have hb : n ≤ nA ∧ n ≤ nTp ∧ 512 ≤ nA ∧ 1024 ≤ nTp ∧ n ≤ 20 * k ∧ nA ≤ 512 + 40 * k ∧ nTp ≤ 1024 + 40 * k ∧ (nX = nA ∨ 2 * nX ≤ nA) ∧ nT ≤ 512 + 40 * k ∧ 64 ≤ nR ∧ nR % 4 = 0 ∧ nR ≤ 72 + 160 * k ∧ 256 ≤ nN ∧ nN ≤ 256 + 40 * k := by unfold NUM at h1; omega
  have f1 := kp_f n nX nA hb.1 hb.2.2.2.2.2.2.2.1
  have hcT : cT nTp tp n := ⟨hb.2.1, by omega, fun i _ => a1 i⟩
  have room : ∀ W nR' nN', W ≤ n + 1 → gwR W nR nR' → gwN n nN nN' → cu + (kpC n nX + 5) + ((nR' - nR) / 4 + (nN' - nN) + 1) ≤ mcL ∧ su + (kpS n nX nA + tcS (n + 1) nT) + (24 * nR' + 2 * nN' + 6 - (24 * nR + 2 * nN)) ≤ msL := fun W nR' nN' q1 q2 q3 => NUM_room (NUM_read h1 q1 q2 q3) (by omega)
  have r0 := room 1 nR nN (by omega) (gwR_r _ _) (gwN_r _ _)
  unfold vq_2
  refine ⟨kpC n nX + 5, kpS n nX nA + tcS (n + 1) nT, by omega, by omega, n_read hb.1 (by omega) (by omega) h3 (fun i _ => a1 i) (by omega) (Nat.le_refl _) (Nat.le_refl _) ?_ ?_⟩
  · intro t' so sb se W ht hWD hps aX aO aB aE aK aF aP aS aD K F Pa Sg Dp a b c hc hl
    have hWn := hWD.2.1
    have f2 := tcN_b W nT
    obtain ⟨nR', nN', g1, g2, run⟩ := m_read (z := z) (nT := tcN W nT) (w_rW hWD hcT (by omega)) f2.1 (by omega) a5 a7 a6 a8 a9 a10 hb.2.2.2.2.2.2.2.2.2.1 hb.2.2.2.2.2.2.2.2.2.2.1 (by omega) hb.2.2.2.2.2.2.2.2.2.2.2.2.1 (by omega)
    have hr := room W nR' nN' hWn g1 g2
    have hNN := NUM_read h1 hWn g1 g2
    refine ⟨(nR' - nR) / 4 + (nN' - nN) + 1, 24 * nR' + 2 * nN' + 6 - (24 * nR + 2 * nN), hr.1, hr.2, run _ _ _ ?_ ?_ ?_ (fun q => absurd hps q)⟩
    · unfold gwR at g1
      unfold gwN at g2
      omega
    · unfold gwR at g1
      unfold gwN at g2
      omega
    · intro _ z' nd hp hnd hrow
      obtain ⟨⟨p1, p2, p3, p4, p5, p6, p7, p8, p9, p10, p11⟩, p12, p13, p14⟩ := hp
      refine ⟨fun _ => ⟨0, B + n, nTp, nR', nN', hNN, ⟨a1, a2, a3, rfl, p1, p3, p2, p4, p5, p7, p14.symm⟩, rfl, Or.inr ⟨tp, n, W, nd, _, ⟨f1.1, by omega, fun i hi => by rw [ht i hi]; exact a1 i⟩, by omega, rfl, ht, by omega, by omega, rfl, fun j hj => ⟨(hWD.2.2.2 j hj).1, (hWD.2.2.2 j hj).2.1⟩, rfl, hl, by omega, hc, p12, by rw [p4]; exact p13, by rw [p4]; exact p9, by rw [p5]; exact hnd, by rw [p5]; exact p11, hrow⟩⟩, fun q => absurd rfl q⟩
  · intro t' so sb se W ht hWD hps hj aX aO aB aE aK aF aP aS aD K F Pa Sg Dp b c
    have hWn := hWD.2.1
    have f2 := tcN_b W nT
    obtain ⟨nR', nN', g1, g2, run⟩ := m_read (z := z) (nT := tcN W nT) (w_rW hWD hcT (by omega)) f2.1 (by omega) a5 a7 a6 a8 a9 a10 hb.2.2.2.2.2.2.2.2.2.1 hb.2.2.2.2.2.2.2.2.2.2.1 (by omega) hb.2.2.2.2.2.2.2.2.2.2.2.2.1 (by omega)
    have hr := room W nR' nN' hWn g1 g2
    have hNN := NUM_read h1 hWn g1 g2
    refine ⟨(nR' - nR) / 4 + (nN' - nN) + 1, 24 * nR' + 2 * nN' + 6 - (24 * nR + 2 * nN), hr.1, hr.2, run _ _ _ ?_ ?_ (fun q => absurd q hps) ?_⟩
    · unfold gwR at g1
      unfold gwN at g2
      omega
    · unfold gwR at g1
      unfold gwN at g2
      omega
    · intro _ z' hp
      obtain ⟨⟨p1, p2, p3, p4, p5, p6, p7, p8, p9, p10, p11⟩, p12, p13, p14⟩ := hp
      exact ⟨fun _ => ⟨0, B + n, nTp, nR', nN', hNN, ⟨a1, a2, a3, rfl, p1, p3, p2, p4, p5, p7, p14.symm⟩, rfl, Or.inl ⟨rfl, p12⟩⟩, fun q => absurd rfl q⟩
theorem st_W {K_ : Nat → Nat → Nat → Nat → Nat → FN → Nat → FN → FN → FN → Prop} (kk : ∀ a b c d, K_ a b c d (512 : Int32).toNatClampNeg (fun _ => 0) ((512 + 1 : Int32).toNatClampNeg) (fun _ => 0) (fun _ => 0) (fun _ => 0)) : vc_W_init 4 2051 512 K_ :=
  ⟨by decide +kernel, by decide +kernel, by decide +kernel, by decide +kernel, fun _ => ⟨by decide +kernel, by decide +kernel, by decide +kernel, by decide +kernel, fun _ => ⟨by decide +kernel, by decide +kernel, by decide +kernel, by decide +kernel, fun _ => ⟨by decide +kernel, by decide +kernel, by decide +kernel, by decide +kernel, fun _ => kk _ _ _ _⟩⟩⟩⟩
theorem st_T {K_ : Nat → Nat → Nat → Nat → Nat → Nat → FN → FN → FN → FN → FN → Prop} (kk : ∀ a b c d e, K_ a b c d e (512 : Int32).toNatClampNeg (fun _ => 0) (fun _ => 0) (fun _ => 0) (fun _ => 0) (fun _ => 0)) : vc_T_init 5 2560 512 K_ :=
  ⟨by decide +kernel, by decide +kernel, by decide +kernel, by decide +kernel, fun _ => ⟨by decide +kernel, by decide +kernel, by decide +kernel, by decide +kernel, fun _ => ⟨by decide +kernel, by decide +kernel, by decide +kernel, by decide +kernel, fun _ => ⟨by decide +kernel, by decide +kernel, by decide +kernel, by decide +kernel, fun _ => ⟨by decide +kernel, by decide +kernel, by decide +kernel, by decide +kernel, fun _ => kk _ _ _ _ _⟩⟩⟩⟩⟩
theorem st_M {K_ : Nat → RS → Prop} (kk : ∀ q (z : RS), z.fd = 0 → z.pl = -1 → z.ct = 0 → z.nT = 1024 → z.tp = (fun _ => 0) → z.nR = 64 → z.nN = 256 → z.nm = (fun _ => 0) → K_ q z) : vc_M_init 20 3000 K_ :=
  ⟨by decide +kernel, by decide +kernel, fun _ => ⟨by decide +kernel, by decide +kernel, by decide +kernel, by decide +kernel, fun _ => ⟨by decide +kernel, by decide +kernel, by decide +kernel, by decide +kernel, fun _ => ⟨by decide +kernel, by decide +kernel, by decide +kernel, by decide +kernel, fun _ => ⟨by decide +kernel, by decide +kernel, by decide +kernel, by decide +kernel, fun _ => ⟨by decide +kernel, by decide +kernel, by decide +kernel, by decide +kernel, fun _ => ⟨by decide +kernel, by decide +kernel, by decide +kernel, by decide +kernel, fun _ => ⟨by decide +kernel, by decide +kernel, by decide +kernel, by decide +kernel, fun _ => ⟨by decide +kernel, by decide +kernel, by decide +kernel, by decide +kernel, fun _ => ⟨by decide +kernel, by decide +kernel, by decide +kernel, by decide +kernel, fun _ => ⟨by decide +kernel, by decide +kernel, by decide +kernel, by decide +kernel, fun _ => ⟨by decide +kernel, by decide +kernel, by decide +kernel, by decide +kernel, fun _ => ⟨by decide +kernel, by decide +kernel, by decide +kernel, by decide +kernel, fun _ => ⟨by decide +kernel, by decide +kernel, by decide +kernel, by decide +kernel, fun _ => ⟨by decide +kernel, by decide +kernel, by decide +kernel, by decide +kernel, fun _ => kk _ _ rfl rfl rfl (show (1024 : Int32).toNatClampNeg = 1024 by decide +kernel) rfl (show (64 : Int32).toNatClampNeg = 64 by decide +kernel) (show (256 : Int32).toNatClampNeg = 256 by decide +kernel) rfl⟩⟩⟩⟩⟩⟩⟩⟩⟩⟩⟩⟩⟩⟩⟩
theorem st_N {K_ : Nat → Nat → Nat → Nat → Nat → FN → Nat → Nat → Nat → Nat → Nat → FN → Nat → FN → FN → FN → Nat → Nat → Nat → Nat → Nat → Nat → FN → FN → FN → FN → FN → Prop} (kk : ∀ a1 a2 a3 a4 a5 a6 a7 a8 b1 b2 b3 b4 b5, K_ a1 a2 a3 a4 (512 : Int32).toNatClampNeg (fun _ => 0) a5 a6 a7 a8 (512 : Int32).toNatClampNeg (fun _ => 0) ((512 + 1 : Int32).toNatClampNeg) (fun _ => 0) (fun _ => 0) (fun _ => 0) b1 b2 b3 b4 b5 (512 : Int32).toNatClampNeg (fun _ => 0) (fun _ => 0) (fun _ => 0) (fun _ => 0) (fun _ => 0)) : vc_N_init 20 6000 K_ :=
  ⟨by decide +kernel, by decide +kernel, by decide +kernel, by decide +kernel, fun _ => ⟨by decide +kernel, by decide +kernel, fun _ => ⟨4, 2051, by decide +kernel, by decide +kernel, st_W (fun _ _ _ _ => ⟨by decide +kernel, by decide +kernel, fun _ => ⟨5, 2560, by decide +kernel, by decide +kernel, st_T (fun _ _ _ _ _ => ⟨by decide +kernel, by decide +kernel, fun _ => kk _ _ _ _ _ _ _ _ _ _ _ _ _⟩)⟩⟩)⟩⟩⟩
theorem b0_r : (-128 : Int32) ≤ 0 ∧ (0 : Int32) ≤ 127 := by decide
theorem st_init : vq_init (KI 0) :=
  ⟨by decide +kernel, by decide +kernel, fun _ => ⟨20, 6000, by decide +kernel, by decide +kernel, st_N (fun _ _ _ _ _ _ _ _ _ _ _ _ _ => ⟨by decide +kernel, by decide +kernel, fun _ => ⟨20, 3000, by decide +kernel, by decide +kernel, st_M (fun _ z e1 e2 e3 e4 e5 e6 e7 e8 => ⟨by decide +kernel, by decide +kernel, by decide +kernel, by decide +kernel, fun _ =>
    ⟨0, 0, 1024, 64, 256, by unfold NUM; decide +kernel, ⟨fun _ => b0_r, fun _ _ => rfl, fun _ _ => rfl, rfl, e5, e1, e4, e6, e7, fun i => by rw [e8]; exact b0_r, e2.symm⟩, by decide +kernel, Or.inl ⟨rfl, e3⟩⟩⟩)⟩⟩)⟩⟩
end
