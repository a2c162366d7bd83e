abbrev isLt (c : Int32) : Prop := (97 ≤ c ∧ c ≤ 122) ∨ (65 ≤ c ∧ c ≤ 90) ∨ c = 95
abbrev isDg (c : Int32) : Prop := 48 ≤ c ∧ c ≤ 57
abbrev isBl (c : Int32) : Prop := c = 9 ∨ c = 10 ∨ c = 13 ∨ c = 32
def cT (nX : Nat) (t : FN) (n : Nat) : Prop := n ≤ nX ∧ nX < 2 ^ 30 ∧ ∀ i, i < n → -128 ≤ t i ∧ t i ≤ 127
def bch (t : FN) (n i : Nat) : Int32 := if i < n then t i else 0
def pub_ (t : FN) (n i : Nat) : Int32 := if i < n then t i &&& 255 else -1
theorem byte_k {b : Int32} (h1 : -128 ≤ b) (h2 : b ≤ 127) : ∃ k : Nat, k < 256 ∧ b = Int32.ofInt ((k : Int) - 128) := by
  rw [Int32.le_iff_toInt_le] at h1 h2
  have e1 : (-128 : Int32).toInt = -128 := by decide
  have e2 : (127 : Int32).toInt = 127 := by decide
  refine ⟨(b.toInt + 128).toNat, by omega, ?_⟩
  rw [show (((b.toInt + 128).toNat : Nat) : Int) - 128 = b.toInt from by omega, Int32.ofInt_toInt]
theorem byte_t1 : ∀ k : Nat, k < 256 → ((isLt (Int32.ofInt ((k : Int) - 128) &&& 255) ↔ isLt (Int32.ofInt ((k : Int) - 128))) ∧ (isDg (Int32.ofInt ((k : Int) - 128) &&& 255) ↔ isDg (Int32.ofInt ((k : Int) - 128))) ∧ (isBl (Int32.ofInt ((k : Int) - 128) &&& 255) ↔ isBl (Int32.ofInt ((k : Int) - 128)))) := by decide +kernel
theorem byte_t2 : ∀ k : Nat, k < 256 → ∀ c : Nat, c < 128 → (Int32.ofInt ((k : Int) - 128) &&& 255 = nI c ↔ Int32.ofInt ((k : Int) - 128) = nI c) := by decide +kernel
theorem byte_t3 : ∀ k : Nat, k < 256 → Int32.ofInt ((k : Int) - 128) &&& 255 ≠ -1 := by decide +kernel
theorem pub_lt {nX : Nat} {t : FN} {n : Nat} (h : cT nX t n) (i : Nat) : (isLt (pub_ t n i) ↔ isLt (bch t n i)) ∧ (isDg (pub_ t n i) ↔ isDg (bch t n i)) ∧ (isBl (pub_ t n i) ↔ isBl (bch t n i)) := by
  unfold pub_ bch
  by_cases hi : i < n
  · rw [if_pos hi, if_pos hi]
    obtain ⟨k, hk, e⟩ := byte_k (h.2.2 i hi).1 (h.2.2 i hi).2
    rw [e]
    exact byte_t1 k hk
  · rw [if_neg hi, if_neg hi]
    decide
theorem ub_eq {nX : Nat} {t : FN} {n : Nat} (h : cT nX t n) (i : Nat) {x : Int32} (c : Nat) (hx : x = nI c) (hc0 : 0 < c) (hc : c < 128) : pub_ t n i = x ↔ bch t n i = x := by
  subst hx
  unfold pub_ bch
  by_cases hi : i < n
  · rw [if_pos hi, if_pos hi]
    obtain ⟨k, hk, e⟩ := byte_k (h.2.2 i hi).1 (h.2.2 i hi).2
    rw [e]
    exact byte_t2 k hk c hc
  · rw [if_neg hi, if_neg hi]
    refine ⟨fun q => absurd q.symm (pu_m1 (by omega)), fun q => ?_⟩
    have := (nI_eq (a := 0) (b := c) (by omega) (by omega)).mp q
    omega
theorem ub_m1 {nX : Nat} {t : FN} {n : Nat} (h : cT nX t n) (i : Nat) : pub_ t n i = -1 ↔ n ≤ i := by
  unfold pub_
  by_cases hi : i < n
  · rw [if_pos hi]
    obtain ⟨k, hk, e⟩ := byte_k (h.2.2 i hi).1 (h.2.2 i hi).2
    rw [e]
    exact ⟨fun q => absurd q (byte_t3 k hk), fun q => by omega⟩
  · rw [if_neg hi]
    exact ⟨fun _ => by omega, fun _ => rfl⟩
theorem l_byteAt {nX : Nat} {t : FN} {n i : Nat} {K_ : Int32 → Prop} (h : cT nX t n) (hi : i < 2 ^ 31) (kk : K_ (pub_ t n i)) : vc_W_byteAt nX t (nI n) (nI i) K_ := by
  obtain ⟨h1, h2, h3⟩ := h
  unfold vc_W_byteAt
  rw [nI_leI (by omega) hi, nI_clamp hi]
  refine ⟨fun h => absurd h (pu_lt0 hi), fun _ => ⟨fun h => ?_, fun h => ⟨pu_in (by omega) (by omega), ?_⟩⟩⟩
  · rwa [pub_, if_neg (by omega)] at kk
  · rwa [pub_, if_pos (by omega)] at kk
theorem l_isL {c : Int32} {K_ : Int32 → Prop} (h1 : isLt c → K_ 1) (h0 : ¬ isLt c → K_ 0) : vc_W_isLetter c K_ := by
  unfold vc_W_isLetter
  have nle : ∀ {a b : Int32}, ¬ a < b → b ≤ a := fun h => Int32.not_lt.mp h
  have a1 : c < 97 → ¬ c = 95 → ¬ (65 ≤ c ∧ c ≤ 90) → K_ 0 := fun a b d => h0 (fun q => q.elim (fun q => absurd a (Int32.not_lt.mpr q.1)) (fun q => q.elim d b))
  have a2 : ¬ c ≤ 122 → ¬ c = 95 → ¬ (65 ≤ c ∧ c ≤ 90) → K_ 0 := fun a b d => h0 (fun q => q.elim (fun q => a q.2) (fun q => q.elim d b))
  refine ⟨fun a => ⟨fun b => ⟨fun d => a1 a d (fun q => absurd b (Int32.not_lt.mpr q.1)), fun d => h1 (Or.inr (Or.inr d))⟩, fun b => ⟨fun d => h1 (Or.inr (Or.inl ⟨nle b, d⟩)), fun d => ⟨fun e => a1 a e (fun q => d q.2), fun e => h1 (Or.inr (Or.inr e))⟩⟩⟩, fun a => ⟨fun b => h1 (Or.inl ⟨nle a, b⟩), fun b => ⟨fun d => ⟨fun e => a2 b e (fun q => absurd d (Int32.not_lt.mpr q.1)), fun e => h1 (Or.inr (Or.inr e))⟩, fun d => ⟨fun e => h1 (Or.inr (Or.inl ⟨nle d, e⟩)), fun e => ⟨fun f => a2 b f (fun q => e q.2), fun f => h1 (Or.inr (Or.inr f))⟩⟩⟩⟩⟩
theorem l_isD {c : Int32} {K_ : Int32 → Prop} (h1 : isDg c → K_ 1) (h0 : ¬ isDg c → K_ 0) : vc_W_isDigit c K_ := by
  unfold vc_W_isDigit
  exact ⟨fun a => h0 (fun q => absurd a (Int32.not_lt.mpr q.1)), fun a => ⟨fun b => h0 (fun q => absurd b (Int32.not_lt.mpr q.2)), fun b => h1 ⟨Int32.not_lt.mp a, Int32.not_lt.mp b⟩⟩⟩
theorem l_isB {c : Int32} {K_ : Int32 → Prop} (h1 : isBl c → K_ 1) (h0 : ¬ isBl c → K_ 0) : vc_W_isBlank c K_ := by
  unfold vc_W_isBlank
  exact ⟨fun a => h1 (Or.inl a), fun a => ⟨fun b => h1 (Or.inr (Or.inl b)), fun b => ⟨fun d => h1 (Or.inr (Or.inr (Or.inl d))), fun d => ⟨fun e => h0 (fun q => q.elim a (fun q => q.elim b (fun q => q.elim d e))), fun e => h1 (Or.inr (Or.inr (Or.inr e)))⟩⟩⟩⟩
def lxB (t : FN) (n : Nat) : Nat → Bool → Nat → Nat
  | 0, _, i => i
  | f + 1, c, i => if c = true ∨ isBl (bch t n i) ∨ bch t n i = 35 then lxB t n f (decide (bch t n i = 35 ∨ (c = true ∧ bch t n i ≠ 10))) (i + 1) else i
def lxN (t : FN) (n : Nat) : Nat → Nat → Nat
  | 0, i => i
  | f + 1, i => if isLt (bch t n i) ∨ isDg (bch t n i) then lxN t n f (i + 1) else i
def lxD (t : FN) (n : Nat) : Nat → Nat → Nat
  | 0, i => i
  | f + 1, i => if isDg (bch t n i) then lxD t n f (i + 1) else i
def aBl (t : FN) (n i : Nat) : Nat := lxB t n (n - i) false i
def aNm (t : FN) (n i : Nat) : Nat := lxN t n (n - i) i
def aDg (t : FN) (n i : Nat) : Nat := lxD t n (n - i) i
def aNu (t : FN) (n i : Nat) : Nat := if bch t n (aDg t n i) = 46 ∧ isDg (bch t n (aDg t n i + 1)) then aDg t n (aDg t n i + 1) else aDg t n i
def aWd (t : FN) (n i : Nat) : Nat := if isLt (bch t n i) then aNm t n i else if isDg (bch t n i) then aNu t n i else min (i + 1) n
theorem lxB_b (t : FN) (n : Nat) : ∀ f c i, i ≤ lxB t n f c i ∧ lxB t n f c i ≤ i + f
  | 0, c, i => ⟨Nat.le_refl _, Nat.le_refl _⟩
  | f + 1, c, i => by
    unfold lxB
    split
    · have := lxB_b t n f (decide (bch t n i = 35 ∨ (c = true ∧ bch t n i ≠ 10))) (i + 1); omega
    · omega
theorem lxN_b (t : FN) (n : Nat) : ∀ f i, i ≤ lxN t n f i ∧ lxN t n f i ≤ i + f
  | 0, i => ⟨Nat.le_refl _, Nat.le_refl _⟩
  | f + 1, i => by
    unfold lxN
    split
    · have := lxN_b t n f (i + 1); omega
    · omega
theorem lxD_b (t : FN) (n : Nat) : ∀ f i, i ≤ lxD t n f i ∧ lxD t n f i ≤ i + f
  | 0, i => ⟨Nat.le_refl _, Nat.le_refl _⟩
  | f + 1, i => by
    unfold lxD
    split
    · have := lxD_b t n f (i + 1); omega
    · omega
theorem bch_n {t : FN} {n i : Nat} (h : isDg (bch t n i)) : i < n := by
  by_cases hi : i < n
  · exact hi
  · unfold bch at h; rw [if_neg hi] at h; exact absurd h (by decide)
theorem bch_l {t : FN} {n i : Nat} (h : isLt (bch t n i)) : i < n := by
  by_cases hi : i < n
  · exact hi
  · unfold bch at h; rw [if_neg hi] at h; exact absurd h (by decide)
theorem l_afterBlanks {nX : Nat} {t : FN} {n : Nat} {x1 : Int32} {K_ : Int32 → Prop} (h : cT nX t n) : ∀ f i c (x : Int32), (x = 0 ↔ c = false) → f + i = n → K_ (nI (lxB t n f c i)) → vl_W_afterBlanks_4 nX t (nI n) x1 K_ (f + 1) x (nI i) := by
  intro f
  induction f with
  | zero =>
    intro i c x hx hf kk
    have h1 := h.1; have h2 := h.2.1
    exact ⟨fun _ => kk, fun hc => absurd ((nI_leI (by omega) (by omega)).mpr (by omega)) hc⟩
  | succ f ih =>
    intro i c x hx hf kk
    have h1 := h.1; have h2 := h.2.1
    unfold lxB at kk
    obtain ⟨u1, u2, u3⟩ := pub_lt h i
    have u35 := ub_eq h i (x := 35) 35 rfl (by decide) (by decide)
    have u10 := ub_eq h i (x := 10) 10 rfl (by decide) (by decide)
    have hi : i < 2 ^ 31 := by omega
    have go : ∀ (c' : Bool) (x' : Int32), (x' = 0 ↔ c' = false) → (c = true ∨ isBl (bch t n i) ∨ bch t n i = 35) → (c' = decide (bch t n i = 35 ∨ (c = true ∧ bch t n i ≠ 10))) → vl_W_afterBlanks_4 nX t (nI n) x1 K_ (f + 1) x' (nI i + 1) := by
      intro c' x' hx' hc he
      rw [if_pos hc, ← he] at kk
      rw [nI_1]
      exact ih (i + 1) c' x' hx' (by omega) kk
    have tl : (c = true ∨ isBl (bch t n i) ∨ bch t n i = 35) → (pub_ t n i = 35 → (vl_W_afterBlanks_4 nX t (nI n) x1 K_ (f + 1) 1 (nI i + 1))) ∧ (¬ pub_ t n i = 35 → ((x = 0 → (vl_W_afterBlanks_4 nX t (nI n) x1 K_ (f + 1) 0 (nI i + 1))) ∧ (¬ x = 0 → (vc_W_byteAt nX t (nI n) (nI i) (fun r_6 => ((r_6 = 10 → (vl_W_afterBlanks_4 nX t (nI n) x1 K_ (f + 1) 0 (nI i + 1))) ∧ (¬ r_6 = 10 → (vl_W_afterBlanks_4 nX t (nI n) x1 K_ (f + 1) 1 (nI i + 1))))))))) := by
      intro hc
      rw [u35]
      refine ⟨fun a => go true 1 (by decide) hc (by simp [a]), fun a => ⟨fun b => go false 0 (by decide) hc (by simp [a, hx.mp b]), fun b => l_byteAt h hi ?_⟩⟩
      have hc1 : c = true := by
        cases c with
        | true => rfl
        | false => exact absurd (hx.mpr rfl) b
      rw [u10]
      refine ⟨fun d => go false 0 (by decide) hc (by simp [a, d]), fun d => go true 1 (by decide) hc (by simp [hc1, d])⟩
    refine ⟨fun hc => absurd ((nI_leI (by omega) (by omega)).mp hc) (by omega), fun _ => ⟨fun a => l_byteAt h hi (tl ?_), fun a => l_byteAt h hi (l_isB (fun b => ⟨fun _ => l_byteAt h hi (tl (Or.inr (Or.inl (u3.mp b)))), fun q => absurd q (by decide)⟩) (fun b => ⟨fun q => absurd rfl q, fun _ => l_byteAt h hi ⟨fun d => ?_, fun d => l_byteAt h hi (tl (Or.inr (Or.inr (u35.mp d))))⟩⟩))⟩⟩
    · left
      cases c with
      | true => rfl
      | false => exact absurd (hx.mpr rfl) a
    · rw [if_neg (fun q => q.elim (fun q => by rw [hx.mp a] at q; exact absurd q (by decide)) (fun q => q.elim (fun q => b (u3.mpr q)) (fun q => d (u35.mpr q))))] at kk
      exact kk
theorem l_aBl {nX : Nat} {t : FN} {n i : Nat} {K_ : Int32 → Prop} (h : cT nX t n) (hi : i ≤ n) (kk : K_ (nI (aBl t n i))) : vc_W_afterBlanks nX t (nI n) (nI i) K_ :=
  ⟨n - i + 1, l_afterBlanks h (n - i) i false 0 (by decide) (by omega) kk⟩
theorem l_afterName {nX : Nat} {t : FN} {n : Nat} {x1 : Int32} {K_ : Int32 → Prop} (h : cT nX t n) : ∀ f i, f + i = n → K_ (nI (lxN t n f i)) → vl_W_afterName_2 nX t (nI n) x1 K_ (f + 1) (nI i) := by
  intro f
  induction f with
  | zero =>
    intro i hf kk
    have h1 := h.1; have h2 := h.2.1
    exact ⟨fun _ => kk, fun hc => absurd ((nI_leI (by omega) (by omega)).mpr (by omega)) hc⟩
  | succ f ih =>
    intro i hf kk
    have h1 := h.1; have h2 := h.2.1
    unfold lxN at kk
    obtain ⟨u1, u2, u3⟩ := pub_lt h i
    have hi : i < 2 ^ 31 := by omega
    refine ⟨fun hc => absurd ((nI_leI (by omega) (by omega)).mp hc) (by omega), fun _ => l_byteAt h hi (l_isL (fun a => ⟨fun _ => ?_, fun q => absurd q (by decide)⟩) (fun a => ⟨fun q => absurd rfl q, fun _ => l_byteAt h hi (l_isD (fun b => ⟨fun q => absurd q (by decide), fun _ => ?_⟩) (fun b => ⟨fun _ => ?_, fun q => absurd rfl q⟩))⟩))⟩
    · rw [if_pos (Or.inl (u1.mp a))] at kk
      rw [nI_1]
      exact ih (i + 1) (by omega) kk
    · rw [if_pos (Or.inr (u2.mp b))] at kk
      rw [nI_1]
      exact ih (i + 1) (by omega) kk
    · rw [if_neg (fun q => q.elim (fun q => a (u1.mpr q)) (fun q => b (u2.mpr q)))] at kk
      exact kk
theorem l_afterDigits {nX : Nat} {t : FN} {n : Nat} {x1 : Int32} {K_ : Int32 → Prop} (h : cT nX t n) : ∀ f i, f + i = n → K_ (nI (lxD t n f i)) → vl_W_afterDigits_2 nX t (nI n) x1 K_ (f + 1) (nI i) := by
  intro f
  induction f with
  | zero =>
    intro i hf kk
    have h1 := h.1; have h2 := h.2.1
    exact ⟨fun _ => kk, fun hc => absurd ((nI_leI (by omega) (by omega)).mpr (by omega)) hc⟩
  | succ f ih =>
    intro i hf kk
    have h1 := h.1; have h2 := h.2.1
    unfold lxD at kk
    obtain ⟨u1, u2, u3⟩ := pub_lt h i
    have hi : i < 2 ^ 31 := by omega
    refine ⟨fun hc => absurd ((nI_leI (by omega) (by omega)).mp hc) (by omega), fun _ => l_byteAt h hi (l_isD (fun b => ⟨fun q => absurd q (by decide), fun _ => ?_⟩) (fun b => ⟨fun _ => ?_, fun q => absurd rfl q⟩))⟩
    · rw [if_pos (u2.mp b)] at kk
      rw [nI_1]
      exact ih (i + 1) (by omega) kk
    · rw [if_neg (fun q => b (u2.mpr q))] at kk
      exact kk
theorem l_aNm {nX : Nat} {t : FN} {n i : Nat} {K_ : Int32 → Prop} (h : cT nX t n) (hi : i ≤ n) (kk : K_ (nI (aNm t n i))) : vc_W_afterName nX t (nI n) (nI i) K_ :=
  ⟨n - i + 1, l_afterName h (n - i) i (by omega) kk⟩
theorem l_aDg {nX : Nat} {t : FN} {n i : Nat} {K_ : Int32 → Prop} (h : cT nX t n) (hi : i ≤ n) (kk : K_ (nI (aDg t n i))) : vc_W_afterDigits nX t (nI n) (nI i) K_ :=
  ⟨n - i + 1, l_afterDigits h (n - i) i (by omega) kk⟩
theorem l_aNu {nX : Nat} {t : FN} {n i : Nat} {K_ : Int32 → Prop} (h : cT nX t n) (hi : i ≤ n) (kk : K_ (nI (aNu t n i))) : vc_W_afterNumber nX t (nI n) (nI i) K_ := by
  have h1 := h.1; have h2 := h.2.1
  have hb := lxD_b t n (n - i) i
  unfold aNu at kk
  refine l_aDg h hi (l_byteAt h (by unfold aDg; omega) ?_)
  rw [ub_eq h _ (x := 46) 46 rfl (by decide) (by decide)]
  refine ⟨fun a => ?_, fun a => ?_⟩
  · rw [if_neg (fun q => a q.1)] at kk
    exact kk
  · rw [nI_1]
    refine l_byteAt h (by unfold aDg; omega) (l_isD (fun b => ⟨fun q => absurd q (by decide), fun _ => ?_⟩) (fun b => ⟨fun _ => ?_, fun q => absurd rfl q⟩))
    · rw [(pub_lt h _).2.1] at b
      rw [if_pos ⟨a, b⟩] at kk
      exact l_aDg h (Nat.le_of_lt (bch_n b)) kk
    · rw [(pub_lt h _).2.1] at b
      rw [if_neg (fun q => b q.2)] at kk
      exact kk
theorem l_aWd {nX : Nat} {t : FN} {n i : Nat} {K_ : Int32 → Prop} (h : cT nX t n) (hi : i ≤ n) (kk : K_ (nI (aWd t n i))) : vc_W_endOfWord nX t (nI n) (nI i) K_ := by
  have h1 := h.1; have h2 := h.2.1
  unfold aWd at kk
  refine l_byteAt h (by omega) (l_isL (fun a => ⟨fun q => absurd q (by decide), fun _ => ?_⟩) (fun a => ⟨fun _ => l_isD (fun b => ⟨fun q => absurd q (by decide), fun _ => ?_⟩) (fun b => ⟨fun _ => ?_, fun q => absurd rfl q⟩), fun q => absurd rfl q⟩))
  · rw [if_pos ((pub_lt h i).1.mp a)] at kk
    exact l_aNm h hi kk
  · rw [if_neg (fun q => a ((pub_lt h i).1.mpr q)), if_pos ((pub_lt h i).2.1.mp b)] at kk
    exact l_aNu h hi kk
  · rw [if_neg (fun q => a ((pub_lt h i).1.mpr q)), if_neg (fun q => b ((pub_lt h i).2.1.mpr q))] at kk
    rw [nI_1]
    rw [show (if nI n < nI (i + 1) then nI n else nI (i + 1)) = nI (min (i + 1) n) from by
      by_cases hq : n < i + 1
      · rw [if_pos ((nI_ltI (by omega) (by omega)).mpr hq), show min (i + 1) n = n from by omega]
      · rw [if_neg (fun h => hq ((nI_ltI (by omega) (by omega)).mp h)), show min (i + 1) n = i + 1 from by omega]]
    exact kk
