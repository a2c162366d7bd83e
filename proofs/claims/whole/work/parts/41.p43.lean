def NUM (k cu su n B nA nX nT nTp nR nN : Nat) : Prop :=
  B + n ≤ 20 * k ∧ n ≤ nA ∧ n ≤ nTp ∧ 512 ≤ nA ∧ nA ≤ 512 + 40 * k ∧ 1024 ≤ nTp ∧ nTp ≤ 1024 + 40 * k ∧ (nX = nA ∨ 2 * nX ≤ nA) ∧ nT ≤ 512 + 40 * k ∧ 64 ≤ nR ∧ nR % 4 = 0 ∧ nR ≤ 72 + 160 * k ∧ 256 ≤ nN ∧ nN ≤ 256 + 40 * k ∧
  4 * cu ≤ 400 + 48 * k + nR + 4 * nN ∧ su ≤ 20000 + 40 * k + 2 * nA + 2 * nTp + 8 * nX + 10 * B + 24 * nR + 2 * nN
def TPE (n nA nTp nR nN : Nat) (tp : FN) (tl pl : Int32) (z : RS) : Prop :=
  (∀ i, -128 ≤ tp i ∧ tp i ≤ 127) ∧ (∀ i, nA ≤ i → tp i = 0) ∧ (∀ i, nTp ≤ i → tp i = 0) ∧ tl = nI n ∧ z.tp = tp ∧ z.fd = nI n ∧ z.nT = nTp ∧ z.nR = nR ∧ z.nN = nN ∧ (∀ i, -128 ≤ z.nm i ∧ z.nm i ≤ 127) ∧ pl = z.pl
def INV (k cu su nA : Nat) (tp : FN) (tl pl : Int32) (nX : Nat) (tx : FN) (ln : Int32) (nO : Nat) (so sb se : FN) (wc : Int32) (nT : Nat) (cn : Int32) (K F Pa Sg Dp : FN) (z : RS) : Prop :=
  ∃ n B nTp nR nN : Nat, NUM k cu su n B nA nX nT nTp nR nN ∧ TPE n nA nTp nR nN tp tl pl z ∧ nO = nX + 1 ∧ AN nX tx ln nO so sb se wc nT cn K F Pa Sg Dp z
def KI (k : Nat) : KL := fun cu su nA tp tl pl _ _ _ nX tx ln nO so sb se wc nT cn K F Pa Sg Dp z => INV k cu su nA tp tl pl nX tx ln nO so sb se wc nT cn K F Pa Sg Dp z
theorem NUM_room {k cu su n B nA nX nT nTp nR nN : Nat} (h : NUM k cu su n B nA nX nT nTp nR nN) (hk : k ≤ 512) : cu ≤ mcL ∧ su ≤ msL := by
  unfold NUM at h
  unfold mcL msL
  omega
theorem sameA_th (z : RS) (x : Int32) : sameA z (RS.w_th z x) := ⟨rfl, rfl, rfl, rfl, rfl, rfl, rfl, rfl, rfl, rfl, rfl, rfl, rfl, rfl⟩
theorem TPE_th {n nA nTp nR nN : Nat} {tp : FN} {tl pl : Int32} {z : RS} (h : TPE n nA nTp nR nN tp tl pl z) (x : Int32) : TPE n nA nTp nR nN tp tl pl (RS.w_th z x) := h
theorem NUM_up {k cu su n B nA nX nT nTp nR nN c s : Nat} (h : NUM k cu su n B nA nX nT nTp nR nN) (hc : c ≤ 12) (hs : s ≤ 40) : NUM (k + 1) (cu + c) (su + s) n B nA nX nT nTp nR nN := by
  unfold NUM at *
  omega
section
variable {k cu su nA : Nat} {tp : FN} {tl pl at_ sr dp : Int32} {nX : Nat} {tx : FN} {ln : Int32} {nO : Nat} {so sb se : FN} {wc : Int32} {nT : Nat} {cn : Int32} {K F Pa Sg Dp : FN} {z : RS}
theorem INV_th (h : INV k cu su nA tp tl pl nX tx ln nO so sb se wc nT cn K F Pa Sg Dp z) (c s : Nat) (x : Int32) (hc : c ≤ 12) (hs : s ≤ 40) : INV (k + 1) (cu + c) (su + s) nA tp tl pl nX tx ln nO so sb se wc nT cn K F Pa Sg Dp (RS.w_th z x) := by
  obtain ⟨n, B, nTp, nR, nN, h1, h2, h3, h4⟩ := h
  exact ⟨n, B, nTp, nR, nN, NUM_up h1 hc hs, TPE_th h2 x, h3, AN_cg h4 (sameA_th z x)⟩
theorem INV_room (h : INV k cu su nA tp tl pl nX tx ln nO so sb se wc nT cn K F Pa Sg Dp z) (hk : k < 512) (c s : Nat) (hc : c ≤ 12) (hs : s ≤ 40) : cu + c ≤ mcL ∧ su + s ≤ msL := by
  obtain ⟨n, B, nTp, nR, nN, h1, h2, h3, h4⟩ := h
  exact NUM_room (NUM_up h1 hc hs) (by omega)
def FA {α : Type} (vM : (α → RS → Prop) → Prop) (tl : α → Int64) (KK : RS → Prop) (r1 : Int32) (ou2 : FL) : Prop :=
  vM (fun r_5 zs_6 => (vc_M_thrown zs_6 (fun r_7 => ((r_7 = r1 → ((¬ r1 = 0 → KK zs_6) ∧ (r1 = 0 → (vp_in 0 ((1 : Int32).toNatClampNeg) ∧ (((ou2 (0 : Int32).toNatClampNeg) = (tl r_5) → KK zs_6) ∧ (¬ (ou2 (0 : Int32).toNatClampNeg) = (tl r_5) → False)))))) ∧ (¬ r_7 = r1 → False)))))
theorem vin01 : vp_in 0 ((1 : Int32).toNatClampNeg) := by unfold vp_in; decide
theorem st_ans {α : Type} {vN : (α → Prop) → Prop → Prop} {vM : (α → RS → Prop) → Prop} {d : α} (tl : α → Int64) (ou : FL) {KK : RS → Prop} (h : AA vN vM (RS.w_th z 0) (RS.w_th z 1) d) (k0 : KK (RS.w_th z 0)) (k1 : KK (RS.w_th z 1)) :
    0 + (0 + 1) ≤ 1 ∧ 0 + (0 + 6) ≤ 6 ∧ vN (fun r => vp_in 0 ((1 : Int32).toNatClampNeg) ∧ FA vM tl KK 0 (vp_updL ou (0 : Int32).toNatClampNeg (tl r))) (FA vM tl KK 1 ou) := by
  refine ⟨by omega, by omega, ?_⟩
  rcases h with ⟨v, h1, h2⟩ | ⟨h1, h2⟩
  · exact h1 _ _ ⟨vin01, h2 _ ⟨fun _ => ⟨fun q => absurd rfl q, fun _ => ⟨vin01, fun _ => k0, fun q => absurd updL_eq q⟩⟩, fun q => absurd rfl q⟩⟩
  · exact h1 _ _ (h2 _ ⟨fun _ => ⟨fun _ => k1, fun q => absurd q (by decide)⟩, fun q => absurd rfl q⟩)
theorem INV_AN (h : INV k cu su nA tp tl pl nX tx ln nO so sb se wc nT cn K F Pa Sg Dp z) : AN nX tx ln nO so sb se wc nT cn K F Pa Sg Dp z := by
  obtain ⟨n, B, nTp, nR, nN, h1, h2, h3, h4⟩ := h
  exact h4
theorem st_4 {ou : FL} {xs : FN} {iv : Int32} (h : INV k cu su nA tp tl pl nX tx ln nO so sb se wc nT cn K F Pa Sg Dp z) (hk : k < 512) : vq_4 cu su nA tp tl pl at_ sr dp nX tx ln nO so sb se wc nT cn K F Pa Sg Dp z ou xs iv (KI (k + 1)) :=
  ⟨1, 6, (INV_room h hk 1 6 (by omega) (by omega)).1, (INV_room h hk 1 6 (by omega) (by omega)).2, st_ans (fun r : Int32 => r.toInt64) ou (a_kind (INV_AN h) (xs (iv + 1).toNatClampNeg)) (INV_th h 1 6 0 (by omega) (by omega)) (INV_th h 1 6 1 (by omega) (by omega))⟩
theorem st_5 {ou : FL} {xs : FN} {iv : Int32} (h : INV k cu su nA tp tl pl nX tx ln nO so sb se wc nT cn K F Pa Sg Dp z) (hk : k < 512) : vq_5 cu su nA tp tl pl at_ sr dp nX tx ln nO so sb se wc nT cn K F Pa Sg Dp z ou xs iv (KI (k + 1)) :=
  ⟨1, 6, (INV_room h hk 1 6 (by omega) (by omega)).1, (INV_room h hk 1 6 (by omega) (by omega)).2, st_ans (fun r : Int32 => r.toInt64) ou (a_begin (INV_AN h) (xs (iv + 1).toNatClampNeg)) (INV_th h 1 6 0 (by omega) (by omega)) (INV_th h 1 6 1 (by omega) (by omega))⟩
theorem st_6 {ou : FL} {xs : FN} {iv : Int32} (h : INV k cu su nA tp tl pl nX tx ln nO so sb se wc nT cn K F Pa Sg Dp z) (hk : k < 512) : vq_6 cu su nA tp tl pl at_ sr dp nX tx ln nO so sb se wc nT cn K F Pa Sg Dp z ou xs iv (KI (k + 1)) :=
  ⟨1, 6, (INV_room h hk 1 6 (by omega) (by omega)).1, (INV_room h hk 1 6 (by omega) (by omega)).2, st_ans (fun r : Int32 => r.toInt64) ou (a_parent (INV_AN h) (xs (iv + 1).toNatClampNeg)) (INV_th h 1 6 0 (by omega) (by omega)) (INV_th h 1 6 1 (by omega) (by omega))⟩
theorem st_7 {ou : FL} {xs : FN} {iv : Int32} (h : INV k cu su nA tp tl pl nX tx ln nO so sb se wc nT cn K F Pa Sg Dp z) (hk : k < 512) : vq_7 cu su nA tp tl pl at_ sr dp nX tx ln nO so sb se wc nT cn K F Pa Sg Dp z ou xs iv (KI (k + 1)) :=
  ⟨1, 6, (INV_room h hk 1 6 (by omega) (by omega)).1, (INV_room h hk 1 6 (by omega) (by omega)).2, st_ans (fun r : Int32 => r.toInt64) ou (a_sign (INV_AN h) (xs (iv + 1).toNatClampNeg)) (INV_th h 1 6 0 (by omega) (by omega)) (INV_th h 1 6 1 (by omega) (by omega))⟩
theorem st_8 {ou : FL} {xs : FN} {iv : Int32} (h : INV k cu su nA tp tl pl nX tx ln nO so sb se wc nT cn K F Pa Sg Dp z) (hk : k < 512) : vq_8 cu su nA tp tl pl at_ sr dp nX tx ln nO so sb se wc nT cn K F Pa Sg Dp z ou xs iv (KI (k + 1)) :=
  ⟨1, 6, (INV_room h hk 1 6 (by omega) (by omega)).1, (INV_room h hk 1 6 (by omega) (by omega)).2, st_ans (fun r : Int32 => r.toInt64) ou (a_nameLength (INV_AN h) (xs (iv + 1).toNatClampNeg)) (INV_th h 1 6 0 (by omega) (by omega)) (INV_th h 1 6 1 (by omega) (by omega))⟩
theorem st_9 {ou : FL} {xs : FN} {iv : Int32} (h : INV k cu su nA tp tl pl nX tx ln nO so sb se wc nT cn K F Pa Sg Dp z) (hk : k < 512) : vq_9 cu su nA tp tl pl at_ sr dp nX tx ln nO so sb se wc nT cn K F Pa Sg Dp z ou xs iv (KI (k + 1)) :=
  ⟨1, 6, (INV_room h hk 1 6 (by omega) (by omega)).1, (INV_room h hk 1 6 (by omega) (by omega)).2, st_ans (fun r : Int32 => r.toInt64) ou (a_nameAt (INV_AN h) (xs (iv + 1).toNatClampNeg) (xs (iv + 2).toNatClampNeg)) (INV_th h 1 6 0 (by omega) (by omega)) (INV_th h 1 6 1 (by omega) (by omega))⟩
theorem st_10 {ou : FL} {xs : FN} {iv : Int32} (h : INV k cu su nA tp tl pl nX tx ln nO so sb se wc nT cn K F Pa Sg Dp z) (hk : k < 512) : vq_10 cu su nA tp tl pl at_ sr dp nX tx ln nO so sb se wc nT cn K F Pa Sg Dp z ou xs iv (KI (k + 1)) :=
  ⟨1, 6, (INV_room h hk 1 6 (by omega) (by omega)).1, (INV_room h hk 1 6 (by omega) (by omega)).2, st_ans (fun r : Int64 => r) ou (a_digits (INV_AN h) (xs (iv + 1).toNatClampNeg)) (INV_th h 1 6 0 (by omega) (by omega)) (INV_th h 1 6 1 (by omega) (by omega))⟩
theorem st_11 {ou : FL} {xs : FN} {iv : Int32} (h : INV k cu su nA tp tl pl nX tx ln nO so sb se wc nT cn K F Pa Sg Dp z) (hk : k < 512) : vq_11 cu su nA tp tl pl at_ sr dp nX tx ln nO so sb se wc nT cn K F Pa Sg Dp z ou xs iv (KI (k + 1)) :=
  ⟨1, 6, (INV_room h hk 1 6 (by omega) (by omega)).1, (INV_room h hk 1 6 (by omega) (by omega)).2, st_ans (fun r : Int32 => r.toInt64) ou (a_behind (INV_AN h) (xs (iv + 1).toNatClampNeg)) (INV_th h 1 6 0 (by omega) (by omega)) (INV_th h 1 6 1 (by omega) (by omega))⟩
theorem st_12 {ou : FL} {xs : FN} {iv : Int32} (h : INV k cu su nA tp tl pl nX tx ln nO so sb se wc nT cn K F Pa Sg Dp z) (hk : k < 512) : vq_12 cu su nA tp tl pl at_ sr dp nX tx ln nO so sb se wc nT cn K F Pa Sg Dp z ou xs iv (KI (k + 1)) :=
  ⟨1, 6, (INV_room h hk 1 6 (by omega) (by omega)).1, (INV_room h hk 1 6 (by omega) (by omega)).2, st_ans (fun r : Int32 => r.toInt64) ou (a_depth (INV_AN h) (xs (iv + 1).toNatClampNeg)) (INV_th h 1 6 0 (by omega) (by omega)) (INV_th h 1 6 1 (by omega) (by omega))⟩
theorem st_3 {xs : FN} {iv : Int32} (h : INV k cu su nA tp tl pl nX tx ln nO so sb se wc nT cn K F Pa Sg Dp z) : vq_3 cu su nA tp tl pl at_ sr dp nX tx ln nO so sb se wc nT cn K F Pa Sg Dp z xs iv (KI (k + 1)) := by
  have h0 := INV_th h 0 0 0 (by omega) (by omega)
  obtain ⟨n, B, nTp, nR, nN, h1, h2, h3, h4⟩ := h
  exact ⟨fun _ => h0, fun q => absurd h2.2.2.2.2.2.2.2.2.2.2 q⟩
theorem sameA_fd (z : RS) (x y : Int32) : sameA z (RS.w_fd (RS.w_th z x) y) := ⟨rfl, rfl, rfl, rfl, rfl, rfl, rfl, rfl, rfl, rfl, rfl, rfl, rfl, rfl⟩
theorem INV_end (h : INV k cu su nA tp tl pl nX tx ln nO so sb se wc nT cn K F Pa Sg Dp z) (hk : k < 512) {y : Int32} (h0 : ¬ y < 0) (hy : y ≤ tl) : INV (k + 1) (cu + 1) (su + 6) nA tp y pl nX tx ln nO so sb se wc nT cn K F Pa Sg Dp (RS.w_fd (RS.w_th z 0) y) := by
  obtain ⟨n, B, nTp, nR, nN, h1, ⟨a1, a2, a3, a4, a5, a6, a7, a8, a9, a10, a11⟩, h3, h4⟩ := h
  obtain ⟨j, j1, rfl⟩ := nI_of h0
  have hn : n ≤ 512 + 40 * k := by unfold NUM at h1; omega
  have hj : j ≤ n := by rw [a4, nI_leI j1 (by omega)] at hy; exact hy
  refine ⟨j, B, nTp, nR, nN, ?_, ⟨a1, a2, a3, rfl, a5, rfl, a7, a8, a9, a10, a11⟩, h3, AN_cg h4 (sameA_fd z 0 _)⟩
  unfold NUM at *
  omega
theorem INV_tl (h : INV k cu su nA tp tl pl nX tx ln nO so sb se wc nT cn K F Pa Sg Dp z) : z.fd = tl := by
  obtain ⟨n, B, nTp, nR, nN, h1, ⟨a1, a2, a3, a4, a5, a6, a7, a8, a9, a10, a11⟩, h3, h4⟩ := h
  rw [a4, a6]
theorem st_1 {xs : FN} {iv : Int32} (h : INV k cu su nA tp tl pl nX tx ln nO so sb se wc nT cn K F Pa Sg Dp z) (hk : k < 512) : vq_1 cu su nA tp tl pl at_ sr dp nX tx ln nO so sb se wc nT cn K F Pa Sg Dp z xs iv (KI (k + 1)) := by
  have hr := INV_room h hk 1 6 (by omega) (by omega)
  have ht := INV_tl h
  unfold vq_1
  generalize xs (iv + 1).toNatClampNeg = y
  have bad : ∀ (P : Prop), vj_M_end_13 (fun zs_6 => (vc_M_thrown zs_6 (fun r_7 => ((r_7 = (1 : Int32) → (KI (k + 1) (cu + 1) (su + 6) nA tp tl pl at_ sr dp nX tx ln nO so sb se wc nT cn K F Pa Sg Dp zs_6)) ∧ (¬ r_7 = 1 → False))))) y z :=
    fun _ => ⟨fun _ => ⟨fun _ => INV_th h 1 6 1 (by omega) (by omega), fun q => absurd rfl q⟩, fun q => absurd q (by decide)⟩
  refine ⟨1, 6, hr.1, hr.2, by omega, by omega, fun h0 => ⟨fun _ => bad True, fun q => absurd h0 q⟩, fun h0 => ⟨fun hy => ⟨fun q => absurd q h0, fun _ => ⟨fun _ => ⟨fun q => absurd rfl q, fun _ => ⟨fun _ => INV_end h hk h0 hy, fun q => absurd rfl q⟩⟩, fun q => absurd (by rw [ht]; exact hy) q⟩⟩, fun hy => ⟨fun q => absurd q h0, fun _ => ⟨fun q => absurd (by rw [← ht]; exact q) hy, fun _ => bad True⟩⟩⟩⟩
end
