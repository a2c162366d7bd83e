def rT (zs : RS) (n : Nat) : Prop := zs.fd = nI n ∧ cT zs.nT zs.tp n
theorem r_byteAt {zs : RS} {n i : Nat} {K_ : Int32 → Prop} (h : rT zs n) (hi : i < 2 ^ 31) (kk : K_ (bch zs.tp n i)) : vc_M_byteAt zs (nI i) K_ := by
  obtain ⟨e, h1, h2, h3⟩ := h
  unfold vc_M_byteAt
  rw [e, nI_leI (by omega) hi, nI_clamp hi]
  refine ⟨fun h => ?_, fun h => ⟨pu_in (by omega) (by omega), ?_⟩⟩
  · rwa [bch, if_neg (by omega)] at kk
  · rwa [bch, if_pos (by omega)] at kk
theorem r_isL {c : Int32} {K_ : Int32 → Prop} (h1 : isLt c → K_ 1) (h0 : ¬ isLt c → K_ 0) : vc_M_isLetter c K_ := by
  unfold vc_M_isLetter vj_M_isLetter_12 vj_M_isLetter_24
  have nle : ∀ {a b : Int32}, ¬ a < b → b ≤ a := fun h => Int32.not_lt.mp h
  have a1 : c < 97 → ¬ c = 95 → ¬ (65 ≤ c ∧ c ≤ 90) → K_ 0 := fun a b d => h0 (fun q => q.elim (fun q => absurd a (Int32.not_lt.mpr q.1)) (fun q => q.elim d b))
  have a2 : ¬ c ≤ 122 → ¬ c = 95 → ¬ (65 ≤ c ∧ c ≤ 90) → K_ 0 := fun a b d => h0 (fun q => q.elim (fun q => a q.2) (fun q => q.elim d b))
  refine ⟨fun a => ⟨fun b => ⟨fun d => a1 a d (fun q => absurd b (Int32.not_lt.mpr q.1)), fun d => h1 (Or.inr (Or.inr d))⟩, fun b => ⟨fun d => h1 (Or.inr (Or.inl ⟨nle b, d⟩)), fun d => ⟨fun e => a1 a e (fun q => d q.2), fun e => h1 (Or.inr (Or.inr e))⟩⟩⟩, fun a => ⟨fun b => h1 (Or.inl ⟨nle a, b⟩), fun b => ⟨fun d => ⟨fun e => a2 b e (fun q => absurd d (Int32.not_lt.mpr q.1)), fun e => h1 (Or.inr (Or.inr e))⟩, fun d => ⟨fun e => h1 (Or.inr (Or.inl ⟨nle d, e⟩)), fun e => ⟨fun f => a2 b f (fun q => e q.2), fun f => h1 (Or.inr (Or.inr f))⟩⟩⟩⟩⟩
theorem r_isD {c : Int32} {K_ : Int32 → Prop} (h1 : isDg c → K_ 1) (h0 : ¬ isDg c → K_ 0) : vc_M_isDigit c K_ := by
  unfold vc_M_isDigit
  exact ⟨fun a => h0 (fun q => absurd a (Int32.not_lt.mpr q.1)), fun a => ⟨fun b => h0 (fun q => absurd b (Int32.not_lt.mpr q.2)), fun b => h1 ⟨Int32.not_lt.mp a, Int32.not_lt.mp b⟩⟩⟩
theorem r_blanksL {zs : RS} {n : Nat} {K_ : Int32 → Prop} (h : rT zs n) : ∀ f i c (x : Int32), (x = 0 ↔ c = false) → f + i = n → K_ (nI (lxB zs.tp n f c i)) → vl_M_behindBlanks_4 zs K_ (f + 1) (nI i) x := by
  intro f
  obtain ⟨e, h1, h2, h3⟩ := h
  induction f with
  | zero =>
    intro i c x hx hf kk
    unfold vl_M_behindBlanks_4
    rw [e, nI_leI (by omega) (by omega)]
    have : i = n := by omega
    subst this
    exact ⟨fun _ => kk, fun hc => absurd (Nat.le_refl _) hc⟩
  | succ f ih =>
    intro i c x hx hf kk
    unfold lxB at kk
    have eb : bch zs.tp n i = zs.tp i := by unfold bch; rw [if_pos (by omega)]
    rw [eb] at kk
    unfold vl_M_behindBlanks_4
    rw [e, nI_leI (by omega) (by omega), nI_clamp (by omega)]
    refine ⟨fun hc => by omega, fun _ => ⟨pu_in (by omega) (by omega), ?_⟩⟩
    generalize hb : zs.tp i = b at kk ⊢
    have fin : ∀ (y : Int32) (c' : Bool), (y = 0 ↔ c' = false) → c' = decide (b = 35 ∨ (c = true ∧ b ≠ 10)) → vj_M_behindBlanks_51 zs (vl_M_behindBlanks_4 zs K_ (f + 1)) K_ (nI i) b y := by
      intro y c' hy hc'
      have go : (c = true ∨ isBl b ∨ b = 35) → vl_M_behindBlanks_4 zs K_ (f + 1) (nI i + 1) y := by
        intro hc
        rw [if_pos hc, ← hc'] at kk
        rw [nI_1]
        exact ih (i + 1) c' y hy (by omega) kk
      unfold vj_M_behindBlanks_51 vj_M_behindBlanks_86
      refine ⟨fun a => go ?_, fun a => ⟨fun w => go (Or.inr (Or.inl (Or.inl w))), fun w1 => ⟨fun w => go (Or.inr (Or.inl (Or.inr (Or.inl w)))), fun w2 => ⟨fun w => go (Or.inr (Or.inl (Or.inr (Or.inr (Or.inl w))))), fun w3 => ⟨fun w => go (Or.inr (Or.inl (Or.inr (Or.inr (Or.inr w))))), fun w4 => ?_⟩⟩⟩⟩⟩
      · have : c' = true := by
          cases c' with
          | true => rfl
          | false => exact absurd (hy.mpr rfl) a
        rw [this] at hc'
        rcases of_decide_eq_true hc'.symm with q | q
        · exact Or.inr (Or.inr q)
        · exact Or.inl q.1
      · have : c' = false := hy.mp a
        rw [this] at hc'
        have q := of_decide_eq_false hc'.symm
        rw [if_neg (fun w => w.elim (fun w => q (Or.inr ⟨w, w2⟩)) (fun w => w.elim (fun w => w.elim w1 (fun w => w.elim w2 (fun w => w.elim w3 w4))) (fun w => q (Or.inl w))))] at kk
        exact kk
    refine ⟨fun a => ⟨fun w => fin 0 false (by decide) ?_, fun w => fin 1 true (by decide) ?_⟩, fun a => ⟨fun w => fin 0 false (by decide) ?_, fun w => fin 1 true (by decide) ?_⟩⟩
    · simp [w, hx.mp a]
    · simp [w]
    · simp [w]
    · have hc1 : c = true := by
        cases c with
        | true => rfl
        | false => exact absurd (hx.mpr rfl) a
      simp [hc1, w]
theorem r_blanks {zs : RS} {n i : Nat} {K_ : Int32 → Prop} (h : rT zs n) (hi : i ≤ n) (kk : K_ (nI (aBl zs.tp n i))) : vc_M_behindBlanks zs (nI i) K_ :=
  ⟨n - i + 1, r_blanksL h (n - i) i false 0 (by decide) (by omega) kk⟩
theorem zOk0 : zOk 0 := rfl
theorem zOk1 : zOk 1 := rfl
theorem lenK : ∀ k, k < 17 → 3 ≤ lenS.getD (22 + k) 0 ∧ lenS.getD (22 + k) 0 ≤ 8 := by decide +kernel
theorem r_spelled {zs : RS} {n s e k : Nat} {K_ : Int32 → Prop} (h : rT zs n) (hk : k < 17) (hs : s ≤ e) (he : e ≤ n) (e1 : zs.fr = nI s) (e2 : zs.at_ = nI e) (h1 : kwK zs.tp n s e k → K_ 1) (h0 : ¬ kwK zs.tp n s e k → K_ 0) : vc_M_isSpelled zs (22 + k) K_ := by
  obtain ⟨e0, b1, b2, b3⟩ := h
  have L := lenK k hk
  have stop : ∀ f q, vl_M_isSpelled_24 zs (22 + k) K_ (f + 1) 0 q → True := fun _ _ _ => trivial
  have no : K_ 0 → ∀ f q, vl_M_isSpelled_24 zs (22 + k) K_ (f + 1) 0 q := fun hK f q => ⟨fun _ => ⟨zOk0, hK⟩, fun _ => ⟨fun _ => ⟨zOk0, hK⟩, fun w => absurd rfl w⟩⟩
  unfold vc_M_isSpelled
  rw [e1, e2, nI_subeq hs (by omega) (by omega)]
  refine ⟨fun a => ⟨1, no (h0 (fun w => a w.1)) 0 0⟩, fun a => ⟨lenS.getD (22 + k) 0 + 1, ?_⟩⟩
  have loop : ∀ f q, f + q = lenS.getD (22 + k) 0 → (∀ p, p < q → bch zs.tp n (s + p) = (bytS.getD (22 + k) []).getD p 0) → vl_M_isSpelled_24 zs (22 + k) K_ (f + 1) 1 (nI q) := by
    intro f
    induction f with
    | zero =>
      intro q hf hp
      have hK : K_ 1 := h1 ⟨a, fun p hpq => hp p (by omega)⟩
      exact ⟨fun _ => ⟨zOk1, hK⟩, fun w => absurd ((nI_leI (by omega) (by omega)).mpr (by omega)) w⟩
    | succ f ih =>
      intro q hf hp
      refine ⟨fun w => absurd ((nI_leI (by omega) (by omega)).mp w) (by omega), fun _ => ⟨fun w => absurd w (by decide), fun _ => ?_⟩⟩
      rw [e1, nI_add, nI_clamp (by omega)]
      have ec : chS (22 + k) (nI q) = (bytS.getD (22 + k) []).getD q 0 := by
        unfold chS; rw [nI_clamp (by omega)]
      have eb : zs.tp (s + q) = bch zs.tp n (s + q) := by unfold bch; rw [if_pos (by omega)]
      rw [ec, eb]
      refine ⟨pu_in (by omega) (by omega), pu_in (by omega) (by omega), fun w => ?_, fun w => ?_⟩
      · unfold vj_M_isSpelled_60
        exact no (h0 (fun hh => w (hh.2 q (by omega)))) f _
      · unfold vj_M_isSpelled_60
        rw [nI_1]
        refine ih (q + 1) (by omega) (fun p hpq => ?_)
        by_cases hq : p = q
        · subst hq; exact w
        · exact hp p (by omega)
  exact loop _ 0 rfl (fun p hp => absurd hp (by omega))
def tkOk (b c kd ky : Int32) : Prop := (kd = 0 ∧ c = 1) ∨ (kd = 1 ∧ c = 3) ∨ (kd = 2 ∧ c = 4) ∨ (kd = 3 ∧ c = b ∧ b ∈ bytS.getD 17 []) ∨ (kd = 4 ∧ c = 2) ∨ (kd = 5 ∧ ∃ k, k < 17 ∧ ky = nI k ∧ c = nI (256 + k))
theorem sigK : ∀ k, k < 17 → ∀ k', k' < 17 → (bytS.getD (22 + k) []).getD 0 0 = (bytS.getD (22 + k') []).getD 0 0 → (bytS.getD (22 + k) []).getD 1 0 = (bytS.getD (22 + k') []).getD 1 0 → (bytS.getD (22 + k) []).getD 2 0 = (bytS.getD (22 + k') []).getD 2 0 → k = k' := by decide +kernel
theorem kw_uniq {t : FN} {n s e k k' : Nat} (hk : k < 17) (hk' : k' < 17) (h : kwK t n s e k) (h' : kwK t n s e k') : k = k' := by
  have L := lenK k hk
  have L' := lenK k' hk'
  refine sigK k hk k' hk' ?_ ?_ ?_
  · rw [← h.2 0 (by omega), ← h'.2 0 (by omega)]
  · rw [← h.2 1 (by omega), ← h'.2 1 (by omega)]
  · rw [← h.2 2 (by omega), ← h'.2 2 (by omega)]
def lexS (zs : RS) (a r kd ky : Int32) : RS := RS.w_ky (RS.w_kd (RS.w_fr (RS.w_at_ zs a) r) kd) ky
theorem r_keys {zs : RS} {n s e : Nat} {y0 : Int32} {K_ : RS → Prop} (h : rT zs n) (hs : s ≤ e) (he : e ≤ n)
    (kk : ∀ kd ky, (kd = y0 ∧ ∀ k, k < 17 → ¬ kwK zs.tp n s e k) ∨ (∃ k, k < 17 ∧ kwK zs.tp n s e k ∧ kd = 5 ∧ ky = nI k) → K_ (lexS zs (nI e) (nI s) kd ky)) : ∀ f q kd ky, f + q = 17 → ((kd = y0 ∧ ∀ k, k < q → ¬ kwK zs.tp n s e k) ∨ (∃ k, k < q ∧ kwK zs.tp n s e k ∧ kd = 5 ∧ ky = nI k)) → vl_M_next_121 K_ (f + 1) (nI q) (lexS zs (nI e) (nI s) kd ky) := by
  intro f
  induction f with
  | zero =>
    intro q kd ky hf hh
    have : q = 17 := by omega
    subst this
    exact ⟨fun _ => kk kd ky hh, fun w => absurd ((nI_leI (by decide) (by decide)).mpr (by decide)) w⟩
  | succ f ih =>
    intro q kd ky hf hh
    unfold vl_M_next_121
    rw [nI_clamp (by omega)]
    refine ⟨fun w => absurd ((nI_leI (by omega) (by omega)).mp w) (by omega), fun _ => ⟨pu_in (by omega) (by omega), ?_⟩⟩
    refine r_spelled (zs := lexS zs (nI e) (nI s) kd ky) (n := n) h (by omega) hs he rfl rfl (fun w => ⟨fun q => absurd q (by decide), fun _ => ?_⟩) (fun w => ⟨fun _ => ?_, fun q => absurd rfl q⟩)
    · unfold vj_M_next_153
      rw [nI_1]
      exact ih (q + 1) 5 (nI q) (by omega) (Or.inr ⟨q, by omega, w, rfl, rfl⟩)
    · unfold vj_M_next_153
      rw [nI_1]
      refine ih (q + 1) kd ky (by omega) ?_
      rcases hh with ⟨h1, h2⟩ | ⟨k, h1, h2⟩
      · refine Or.inl ⟨h1, fun k hk => ?_⟩
        by_cases hq : k = q
        · subst hq; exact w
        · exact h2 k (by omega)
      · exact Or.inr ⟨k, by omega, h2⟩
theorem r_nameL {zs : RS} {n s : Nat} {K_ : RS → Prop} (h : rT zs n) (hs : s ≤ n) (E : Nat) (hE : E = aNm zs.tp n s) (hsE : s ≤ E) (hEn : E ≤ n)
    (kk : ∀ kd ky, (kd = (if E - s ≤ 40 then 1 else 4) ∧ ∀ k, k < 17 → ¬ kwK zs.tp n s E k) ∨ (∃ k, k < 17 ∧ kwK zs.tp n s E k ∧ kd = 5 ∧ ky = nI k) → K_ (lexS zs (nI E) (nI s) kd ky)) (kd0 ky0 : Int32) : ∀ f i, f + i = n → s ≤ i → lxN zs.tp n f i = E → vl_M_next_55 K_ (f + 1) (lexS zs (nI i) (nI s) kd0 ky0) := by
  have b1 := h.2.1; have b2 := h.2.2.1
  have fin : vc_M_byteAt (lexS zs (nI E) (nI s) kd0 ky0) (nI E) (fun _ => True) → (((lexS zs (nI E) (nI s) kd0 ky0).at_ - (lexS zs (nI E) (nI s) kd0 ky0).fr) ≤ 40 → (vj_M_next_116 K_ 1 (lexS zs (nI E) (nI s) kd0 ky0))) ∧ (¬ ((lexS zs (nI E) (nI s) kd0 ky0).at_ - (lexS zs (nI E) (nI s) kd0 ky0).fr) ≤ 40 → (vj_M_next_116 K_ 4 (lexS zs (nI E) (nI s) kd0 ky0))) := by
    intro _
    rw [show (lexS zs (nI E) (nI s) kd0 ky0).at_ - (lexS zs (nI E) (nI s) kd0 ky0).fr = nI E - nI s from rfl, pk_sub hsE, show (40 : Int32) = nI 40 from rfl, nI_leI (by omega) (by decide)]
    refine ⟨fun w => ⟨18, ?_⟩, fun w => ⟨18, ?_⟩⟩
    · rw [if_pos w] at kk
      exact r_keys h hsE hEn kk 17 0 1 ky0 rfl (Or.inl ⟨rfl, fun k hk => absurd hk (by omega)⟩)
    · rw [if_neg w] at kk
      exact r_keys h hsE hEn kk 17 0 4 ky0 rfl (Or.inl ⟨rfl, fun k hk => absurd hk (by omega)⟩)
  have hB : ∀ i, i ≤ n → ∀ K2 : Int32 → Prop, K2 (bch zs.tp n i) → vc_M_byteAt (lexS zs (nI i) (nI s) kd0 ky0) (lexS zs (nI i) (nI s) kd0 ky0).at_ K2 := fun i hi K2 hK => r_byteAt (zs := lexS zs (nI i) (nI s) kd0 ky0) (n := n) h (by omega) hK
  intro f
  induction f with
  | zero =>
    intro i hf hsi hl
    have hi : i = n := by omega
    have hl' : i = E := hl
    unfold vl_M_next_55
    refine hB i (by omega) _ (r_isL (fun w => absurd (bch_l w) (by omega)) (fun _ => ⟨fun q => absurd rfl q, fun _ => hB i (by omega) _ (r_isD (fun w => absurd (bch_n w) (by omega)) (fun _ => ⟨fun _ => ?_, fun q => absurd rfl q⟩))⟩))
    rw [hl']
    exact fin (r_byteAt (zs := lexS zs (nI E) (nI s) kd0 ky0) (n := n) h (by omega) trivial)
  | succ f ih =>
    intro i hf hsi hl
    unfold lxN at hl
    unfold vl_M_next_55
    have go : (isLt (bch zs.tp n i) ∨ isDg (bch zs.tp n i)) → vj_M_next_83 (vl_M_next_55 K_ (f + 1)) K_ (lexS zs (nI i) (nI s) kd0 ky0) := by
      intro w
      rw [if_pos w] at hl
      have e : vj_M_next_83 (vl_M_next_55 K_ (f + 1)) K_ (lexS zs (nI i) (nI s) kd0 ky0) = vl_M_next_55 K_ (f + 1) (lexS zs (nI i + 1) (nI s) kd0 ky0) := rfl
      rw [e, nI_1]
      exact ih (i + 1) (by omega) (by omega) hl
    refine hB i (by omega) _ (r_isL (fun w => ⟨fun _ => go (Or.inl w), fun q => absurd q (by decide)⟩) (fun w1 => ⟨fun q => absurd rfl q, fun _ => hB i (by omega) _ (r_isD (fun w => ⟨fun q => absurd q (by decide), fun _ => go (Or.inr w)⟩) (fun w2 => ⟨fun _ => ?_, fun q => absurd rfl q⟩))⟩))
    rw [if_neg (fun w => w.elim w1 w2)] at hl
    rw [hl]
    exact fin (r_byteAt (zs := lexS zs (nI E) (nI s) kd0 ky0) (n := n) h (by omega) trivial)
theorem r_fig3 {zs : RS} {n s e : Nat} {x1 x2 : Nat} {kd0 ky0 : Int32} {K_ : RS → Prop} (h : rT zs n) (he : e ≤ n) (hx1 : x1 < 2 ^ 30) (hx2 : x2 < 2 ^ 30)
    (kk : ∀ kd, (x1 ≤ 9 ∧ x2 ≤ 9 ∧ bch zs.tp n e ≠ 46 ∧ ¬ isLt (bch zs.tp n e) → kd = 2) → (¬ (x1 ≤ 9 ∧ x2 ≤ 9 ∧ bch zs.tp n e ≠ 46 ∧ ¬ isLt (bch zs.tp n e)) → kd = 4) → K_ (lexS zs (nI e) (nI s) kd ky0)) : vj_M_figures_103 K_ (nI x1) (nI x2) (lexS zs (nI e) (nI s) kd0 ky0) := by
  have b1 := h.2.1; have b2 := h.2.2.1
  have hB : ∀ K2 : Int32 → Prop, K2 (bch zs.tp n e) → vc_M_byteAt (lexS zs (nI e) (nI s) kd0 ky0) (lexS zs (nI e) (nI s) kd0 ky0).at_ K2 := fun K2 hK => r_byteAt (zs := lexS zs (nI e) (nI s) kd0 ky0) (n := n) h (by omega) hK
  have c9 : ∀ x, x < 2 ^ 30 → ((9 : Int32) < nI x ↔ 9 < x) := fun x hx => by rw [show (9 : Int32) = nI 9 from rfl, nI_ltI (by decide) (by omega)]
  have fin : ∀ y : Int32, (y = 0 ↔ (bch zs.tp n e ≠ 46 ∧ ¬ isLt (bch zs.tp n e))) → vj_M_figures_135 K_ (nI x1) (nI x2) y (lexS zs (nI e) (nI s) kd0 ky0) := by
    intro y hy
    unfold vj_M_figures_135
    rw [c9 x1 hx1, c9 x2 hx2]
    exact ⟨fun w => kk 4 (fun q => by omega) (fun _ => rfl), fun w1 => ⟨fun w => kk 4 (fun q => by omega) (fun _ => rfl), fun w2 => ⟨fun w => kk 2 (fun _ => rfl) (fun q => absurd ⟨by omega, by omega, hy.mp w⟩ q), fun w => kk 4 (fun q => absurd (hy.mpr q.2.2) w) (fun _ => rfl)⟩⟩⟩
  unfold vj_M_figures_103 vj_M_figures_130
  refine hB _ (r_isL (fun w => ⟨fun _ => fin 1 ⟨fun q => absurd q (by decide), fun q => absurd w q.2⟩, fun q => absurd q (by decide)⟩) (fun w => ⟨fun q => absurd rfl q, fun _ => hB _ ⟨fun v => fin 0 ⟨fun _ => ⟨v, w⟩, fun _ => rfl⟩, fun v => fin 1 ⟨fun q => absurd q (by decide), fun q => absurd v q.1⟩⟩⟩))
theorem r_fig2 {zs : RS} {n s E x1 : Nat} {kd0 ky0 : Int32} {K_ : RS → Prop} (h : rT zs n) (hEn : E ≤ n) (hx1 : x1 < 2 ^ 30) (p : Nat)
    (kk : ∀ kd, (x1 ≤ 9 ∧ E - p ≤ 9 ∧ bch zs.tp n E ≠ 46 ∧ ¬ isLt (bch zs.tp n E) → kd = 2) → (¬ (x1 ≤ 9 ∧ E - p ≤ 9 ∧ bch zs.tp n E ≠ 46 ∧ ¬ isLt (bch zs.tp n E)) → kd = 4) → K_ (lexS zs (nI E) (nI s) kd ky0)) : ∀ f i, f + i = n → p ≤ i → lxD zs.tp n f i = E → vl_M_figures_73 K_ (f + 1) (nI x1) (nI (i - p)) (lexS zs (nI i) (nI s) kd0 ky0) := by
  have b1 := h.2.1; have b2 := h.2.2.1
  have hB : ∀ i, i ≤ n → ∀ K2 : Int32 → Prop, K2 (bch zs.tp n i) → vc_M_byteAt (lexS zs (nI i) (nI s) kd0 ky0) (lexS zs (nI i) (nI s) kd0 ky0).at_ K2 := fun i hi K2 hK => r_byteAt (zs := lexS zs (nI i) (nI s) kd0 ky0) (n := n) h (by omega) hK
  intro f
  induction f with
  | zero =>
    intro i hf hp hl
    have hl' : i = E := hl
    subst hl'
    unfold vl_M_figures_73
    exact hB i hEn _ (r_isD (fun w => absurd (bch_n w) (by omega)) (fun _ => ⟨fun _ => r_fig3 h hEn hx1 (by omega) kk, fun q => absurd rfl q⟩))
  | succ f ih =>
    intro i hf hp hl
    unfold lxD at hl
    unfold vl_M_figures_73
    refine hB i (by omega) _ (r_isD (fun w => ⟨fun q => absurd q (by decide), fun _ => ?_⟩) (fun w => ⟨fun _ => ?_, fun q => absurd rfl q⟩))
    · rw [if_pos w] at hl
      have e : ∀ y, vl_M_figures_73 K_ (f + 1) (nI x1) y (RS.w_at_ (lexS zs (nI i) (nI s) kd0 ky0) ((lexS zs (nI i) (nI s) kd0 ky0).at_ + 1)) = vl_M_figures_73 K_ (f + 1) (nI x1) y (lexS zs (nI i + 1) (nI s) kd0 ky0) := fun _ => rfl
      rw [e, nI_1, nI_1, show i - p + 1 = i + 1 - p from by omega]
      exact ih (i + 1) (by omega) (by omega) hl
    · rw [if_neg w] at hl
      subst hl
      exact r_fig3 h hEn hx1 (by omega) kk
theorem r_fig1 {zs : RS} {n s : Nat} {kd0 ky0 : Int32} {K_ : RS → Prop} (h : rT zs n) (hs : s ≤ n) (P E : Nat) (hP : P = aDg zs.tp n s) (hE : E = aNu zs.tp n s)
    (kk : ∀ kd, (numOk zs.tp n s E → kd = 2) → (¬ numOk zs.tp n s E → kd = 4) → K_ (lexS zs (nI E) (nI s) kd ky0)) : ∀ f i, f + i = n → s ≤ i → lxD zs.tp n f i = P → vl_M_figures_4 K_ (f + 1) (nI (i - s)) 0 (lexS zs (nI i) (nI s) kd0 ky0) := by
  have b1 := h.2.1; have b2 := h.2.2.1
  have hPb := aDg_b (t := zs.tp) hs
  have hEb := aNu_b (t := zs.tp) hs
  have hB : ∀ i, i ≤ n → ∀ K2 : Int32 → Prop, K2 (bch zs.tp n i) → vc_M_byteAt (lexS zs (nI i) (nI s) kd0 ky0) (lexS zs (nI i) (nI s) kd0 ky0).at_ K2 := fun i hi K2 hK => r_byteAt (zs := lexS zs (nI i) (nI s) kd0 ky0) (n := n) h (by omega) hK
  have hB1 : ∀ i, i ≤ n → ∀ K2 : Int32 → Prop, K2 (bch zs.tp n (i + 1)) → vc_M_byteAt (lexS zs (nI i) (nI s) kd0 ky0) ((lexS zs (nI i) (nI s) kd0 ky0).at_ + 1) K2 := fun i hi K2 hK => by
    rw [show (lexS zs (nI i) (nI s) kd0 ky0).at_ + 1 = nI i + 1 from rfl, nI_1]
    exact r_byteAt (zs := lexS zs (nI i) (nI s) kd0 ky0) (n := n) h (by omega) hK
  have fin : ¬ isDg (bch zs.tp n P) → vc_M_byteAt (lexS zs (nI P) (nI s) kd0 ky0) (lexS zs (nI P) (nI s) kd0 ky0).at_ (fun r_4 => ((¬ r_4 = 46 → (vj_M_figures_103 K_ (nI (P - s)) 0 (lexS zs (nI P) (nI s) kd0 ky0))) ∧ (r_4 = 46 → (vc_M_byteAt (lexS zs (nI P) (nI s) kd0 ky0) ((lexS zs (nI P) (nI s) kd0 ky0).at_ + 1) (fun r_17 => (vc_M_isDigit r_17 (fun r_18 => ((r_18 = 0 → (vj_M_figures_103 K_ (nI (P - s)) 0 (lexS zs (nI P) (nI s) kd0 ky0))) ∧ (¬ r_18 = 0 → (∃ n_, vl_M_figures_73 K_ n_ (nI (P - s)) 0 (RS.w_at_ (lexS zs (nI P) (nI s) kd0 ky0) ((lexS zs (nI P) (nI s) kd0 ky0).at_ + 1)))))))))))) := by
    intro hnd
    have noP : ¬ (bch zs.tp n P = 46 ∧ isDg (bch zs.tp n (P + 1))) → vj_M_figures_103 K_ (nI (P - s)) 0 (lexS zs (nI P) (nI s) kd0 ky0) := by
      intro hq
      have eE : E = P := by rw [hE]; unfold aNu; rw [← hP, if_neg hq]
      rw [eE] at kk
      have nn : numOk zs.tp n s P ↔ (P - s ≤ 9 ∧ 0 ≤ 9 ∧ bch zs.tp n P ≠ 46 ∧ ¬ isLt (bch zs.tp n P)) := by
        unfold numOk
        rw [← hP]
        constructor
        · rintro ⟨q1, q2, q3, q4⟩
          exact ⟨by omega, by omega, q3, q4⟩
        · rintro ⟨q1, q2, q3, q4⟩
          exact ⟨by omega, by omega, q3, q4⟩
      rw [nn] at kk
      exact r_fig3 (x2 := 0) h (by omega) (by omega) (by omega) kk
    refine hB P (by omega) _ ⟨fun w => noP (fun q => w q.1), fun w => hB1 P (by omega) _ (r_isD (fun v => ⟨fun q => absurd q (by decide), fun _ => ⟨n - (P + 1) + 1, ?_⟩⟩) (fun v => ⟨fun _ => noP (fun q => v q.2), fun q => absurd rfl q⟩))⟩
    have hpn := bch_n v
    have eE : E = aDg zs.tp n (P + 1) := by rw [hE]; unfold aNu; rw [← hP, if_pos ⟨w, v⟩]
    have ee : ∀ y, vl_M_figures_73 K_ (n - (P + 1) + 1) (nI (P - s)) y (RS.w_at_ (lexS zs (nI P) (nI s) kd0 ky0) ((lexS zs (nI P) (nI s) kd0 ky0).at_ + 1)) = vl_M_figures_73 K_ (n - (P + 1) + 1) (nI (P - s)) y (lexS zs (nI P + 1) (nI s) kd0 ky0) := fun _ => rfl
    rw [ee, nI_1, show (0 : Int32) = nI (P + 1 - (P + 1)) from by rw [Nat.sub_self]; rfl]
    have hgt := aDg_b (t := zs.tp) (i := P + 1) (n := n) (by omega)
    have nn : numOk zs.tp n s E ↔ (P - s ≤ 9 ∧ E - (P + 1) ≤ 9 ∧ bch zs.tp n E ≠ 46 ∧ ¬ isLt (bch zs.tp n E)) := by
      unfold numOk
      rw [← hP]
      constructor
      · rintro ⟨q1, q2, q3, q4⟩
        exact ⟨by omega, by omega, q3, q4⟩
      · rintro ⟨q1, q2, q3, q4⟩
        exact ⟨by omega, by omega, q3, q4⟩
    rw [nn] at kk
    exact r_fig2 h (by omega) (by omega) (P + 1) kk (n - (P + 1)) (P + 1) (by omega) (Nat.le_refl _) eE.symm
  intro f
  induction f with
  | zero =>
    intro i hf hsi hl
    have hl' : i = P := hl
    unfold vl_M_figures_4
    refine hB i (by omega) _ (r_isD (fun w => absurd (bch_n w) (by omega)) (fun w => ⟨fun _ => ?_, fun q => absurd rfl q⟩))
    rw [hl'] at w ⊢
    exact fin w
  | succ f ih =>
    intro i hf hsi hl
    unfold lxD at hl
    unfold vl_M_figures_4
    refine hB i (by omega) _ (r_isD (fun w => ⟨fun q => absurd q (by decide), fun _ => ?_⟩) (fun w => ⟨fun _ => ?_, fun q => absurd rfl q⟩))
    · rw [if_pos w] at hl
      have e : ∀ y, vl_M_figures_4 K_ (f + 1) y 0 (RS.w_at_ (lexS zs (nI i) (nI s) kd0 ky0) ((lexS zs (nI i) (nI s) kd0 ky0).at_ + 1)) = vl_M_figures_4 K_ (f + 1) y 0 (lexS zs (nI i + 1) (nI s) kd0 ky0) := fun _ => rfl
      rw [e, nI_1, nI_1, show i - s + 1 = i + 1 - s from by omega]
      exact ih (i + 1) (by omega) (by omega) hl
    · rw [if_neg w] at hl
      rw [hl] at w ⊢
      exact fin w
theorem byte_t5 : ∀ k : Nat, k < 256 → (((Int32.ofInt ((k : Int) - 128)).toUInt32 % 65536).toInt32 ∈ bytS.getD 39 [] ↔ Int32.ofInt ((k : Int) - 128) ∈ bytS.getD 17 []) := by decide +kernel
theorem r_next {zs : RS} {n a : Nat} {c : Int32} {K_ : RS → Prop} (h : rT zs n) (ha : a ≤ n) (e1 : zs.at_ = nI a) (hc : TK zs.tp n (aBl zs.tp n a) (aWd zs.tp n (aBl zs.tp n a)) c)
    (kk : ∀ kd ky, tkOk (bch zs.tp n (aBl zs.tp n a)) c kd ky → K_ (lexS zs (nI (aWd zs.tp n (aBl zs.tp n a))) (nI (aBl zs.tp n a)) kd ky)) : vc_M_next zs K_ := by
  have b1 := h.2.1; have b2 := h.2.2.1
  have B := aBl_b (t := zs.tp) ha
  unfold vc_M_next
  rw [e1]
  refine r_blanks h ha ?_
  generalize hs : aBl zs.tp n a = s at *
  have Wd := aWd_b (t := zs.tp) B.2
  rw [h.1, nI_ltI (by omega) (by omega)]
  refine r_byteAt (zs := RS.w_fr (RS.w_at_ zs (nI s)) (nI s)) (n := n) h (by omega) ⟨fun hn => ?_, fun hn => ?_⟩
  · refine r_isL (fun w => ⟨fun q => absurd q (by decide), fun _ => ⟨n - s + 1, ?_⟩⟩) (fun w => ⟨fun _ => r_isD (fun v => ⟨fun q => absurd q (by decide), fun _ => ⟨n - s + 1, ?_⟩⟩) (fun v => ⟨fun _ => fun r hr => ?_, fun q => absurd rfl q⟩), fun q => absurd rfl q⟩)
    · have eE : aWd zs.tp n s = aNm zs.tp n s := by unfold aWd; rw [if_pos w]
      refine r_nameL h B.2 (aWd zs.tp n s) eE Wd.1 Wd.2.1 (fun kd ky hh => kk kd ky ?_) zs.kd zs.ky (n - s) s (by omega) (Nat.le_refl _) eE.symm
      rcases hc with q | ⟨_, q⟩ | q | q
      · omega
      · rcases q with ⟨q1, q2⟩ | ⟨q1, q2⟩
        · rcases hh with ⟨h1, h2⟩ | ⟨k, h1, h2, h3, h4⟩
          · rw [if_neg (by omega)] at h1
            exact Or.inr (Or.inr (Or.inr (Or.inr (Or.inl ⟨h1, q2⟩))))
          · have := h2.1; have := lenK k h1; omega
        · rcases hh with ⟨h1, h2⟩ | ⟨k, h1, h2, h3, h4⟩
          · rw [if_pos (by omega)] at h1
            rcases q2 with ⟨k, k1, k2, k3⟩ | ⟨k1, k2⟩
            · exact absurd k2 (h2 k k1)
            · exact Or.inr (Or.inl ⟨h1, k1⟩)
          · rcases q2 with ⟨k', k1, k2, k3⟩ | ⟨k1, k2⟩
            · have := kw_uniq h1 k1 h2 k2
              subst this
              exact Or.inr (Or.inr (Or.inr (Or.inr (Or.inr ⟨h3, k, h1, h4, k3⟩))))
            · exact absurd h2 (k2 k h1)
      · exact absurd w q.1
      · exact absurd w q.2.1
    · have eE : aWd zs.tp n s = aNu zs.tp n s := by unfold aWd; rw [if_neg w, if_pos v]
      have := r_fig1 (kd0 := zs.kd) (ky0 := zs.ky) (K_ := K_) h B.2 (aDg zs.tp n s) (aNu zs.tp n s) rfl rfl (fun kd h2 h4 => ?_) (n - s) s (by omega) (Nat.le_refl _) rfl
      · rw [Nat.sub_self] at this
        exact this
      · rw [← eE] at h2 h4 ⊢
        refine kk kd zs.ky ?_
        rcases hc with q | q | q | q
        · omega
        · exact absurd q.1 w
        · rcases q.2.2 with ⟨q1, q2⟩ | ⟨q1, q2⟩
          · exact Or.inr (Or.inr (Or.inl ⟨h2 q1, q2⟩))
          · exact Or.inr (Or.inr (Or.inr (Or.inr (Or.inl ⟨h4 q1, q2⟩))))
        · exact absurd v q.2.2.1
    · have eE : aWd zs.tp n s = s + 1 := by unfold aWd; rw [if_neg w, if_neg v]; omega
      rw [eE] at kk hc
      obtain ⟨k, hk, ek⟩ := byte_k (h.2.2.2 s hn).1 (h.2.2.2 s hn).2
      have eb : bch (RS.w_fr (RS.w_at_ zs (nI s)) (nI s)).tp n s = zs.tp s := by unfold bch; rw [if_pos hn]
      have eb' : bch zs.tp n s = zs.tp s := eb
      have t5 := byte_t5 k hk
      rw [← ek] at t5
      rw [eb, t5] at hr
      rw [nI_1]
      rcases hc with q | q | q | q
      · omega
      · exact absurd q.1 w
      · exact absurd q.2.1 v
      · rw [eb'] at q kk
        refine ⟨fun r0 => kk 4 zs.ky ?_, fun r0 => kk 3 zs.ky ?_⟩
        · rcases q.2.2.2 with ⟨q1, q2⟩ | ⟨q1, q2⟩
          · exact absurd r0 (Int32.not_lt.mpr (hr.mpr q1))
          · exact Or.inr (Or.inr (Or.inr (Or.inr (Or.inl ⟨rfl, q2⟩))))
        · rcases q.2.2.2 with ⟨q1, q2⟩ | ⟨q1, q2⟩
          · exact Or.inr (Or.inr (Or.inr (Or.inl ⟨rfl, q2, q1⟩)))
          · exact absurd (hr.mp (Int32.not_lt.mp r0)) q1
  · have hsn : s = n := by omega
    have eE : aWd zs.tp n s = s := by
      have := Wd.1; have := Wd.2.1; omega
    rw [eE] at kk hc
    refine kk 0 zs.ky (Or.inl ⟨rfl, ?_⟩)
    rcases hc with q | q | q | q
    · exact q.2
    · have := bch_l q.1; omega
    · have := bch_n q.2.1; omega
    · omega
