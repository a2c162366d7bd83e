def psp (t : FN) (n i si : Nat) : Prop := ∀ q, q < lenS.getD si 0 → bch t n (i + q) = (bytS.getD si []).getD q 0
theorem spd (t : FN) (n i si : Nat) : psp t n i si ∨ ¬ psp t n i si := Classical.em _
theorem sp_c1 : ∀ si, si < 17 → lenS.getD si 0 ≤ 8 ∧ ∀ q, q < lenS.getD si 0 → (0 : Int32) < (bytS.getD si []).getD q 0 ∧ (bytS.getD si []).getD q 0 < 128 := by decide +kernel
theorem nI_pq {x : Int32} (h1 : 0 < x) (h2 : x < 128) : ∃ c : Nat, x = nI c ∧ 0 < c ∧ c < 128 := by
  obtain ⟨c, hc, rfl⟩ := nI_of (x := x) (fun h => by
    rw [Int32.lt_iff_toInt_lt] at h h1
    omega)
  rw [show (0 : Int32) = nI 0 from rfl, nI_ltI (by decide) hc] at h1
  rw [show (128 : Int32) = nI 128 from rfl, nI_ltI hc (by decide)] at h2
  exact ⟨c, rfl, h1, h2⟩
theorem l_spellsL {nX : Nat} {t : FN} {n i si : Nat} {K_ : Int32 → Prop} (h : cT nX t n) (hi : i ≤ n) (hs : si < 17) (h1 : psp t n i si → K_ 1) (h0 : ¬ psp t n i si → K_ 0) : ∀ f q, f + q = lenS.getD si 0 → (∀ p, p < q → bch t n (i + p) = (bytS.getD si []).getD p 0) → vl_W_spells_2 nX t (nI n) (nI i) si K_ (f + 1) (nI q) := by
  intro f
  obtain ⟨l1, l2⟩ := sp_c1 si hs
  have b1 := h.1; have b2 := h.2.1
  induction f with
  | zero =>
    intro q hf hp
    refine ⟨fun _ => h1 (fun p hpq => hp p (by omega)), fun hc => absurd ((nI_leI (by omega) (by omega)).mpr (by omega)) hc⟩
  | succ f ih =>
    intro q hf hp
    refine ⟨fun hc => absurd ((nI_leI (by omega) (by omega)).mp hc) (by omega), fun _ => ?_⟩
    rw [nI_add]
    refine l_byteAt h (by omega) ⟨pu_in (by omega) (by omega), ?_⟩
    have e : chS si (nI q) = (bytS.getD si []).getD q 0 := by
      unfold chS; rw [nI_clamp (by omega)]
    rw [e]
    obtain ⟨c, hc1, hc2, hc3⟩ := nI_pq (l2 q (by omega)).1 (l2 q (by omega)).2
    have ue := ub_eq h (i + q) (x := (bytS.getD si []).getD q 0) c hc1 hc2 hc3
    rw [ue]
    refine ⟨fun a => ?_, fun a => h0 (fun hh => a (hh q (by omega)))⟩
    rw [nI_1]
    refine ih (q + 1) (by omega) (fun p hpq => ?_)
    by_cases hq : p = q
    · subst hq; exact a
    · exact hp p (by omega)
theorem l_spells {nX : Nat} {t : FN} {n i si : Nat} {K_ : Int32 → Prop} (h : cT nX t n) (hi : i ≤ n) (hs : si < 17) (h1 : psp t n i si → K_ 1) (h0 : ¬ psp t n i si → K_ 0) : vc_W_spells nX t (nI n) (nI i) si K_ :=
  ⟨lenS.getD si 0 + 1, l_spellsL h hi hs h1 h0 (lenS.getD si 0) 0 rfl (fun p hp => absurd hp (by omega))⟩
def kwK (t : FN) (n i e k : Nat) : Prop := e = i + lenS.getD (22 + k) 0 ∧ psp t n i (22 + k)
def TKN (t : FN) (n i e : Nat) (c : Int32) : Prop := (∃ k, k < 17 ∧ kwK t n i e k ∧ c = nI (256 + k)) ∨ (c = 3 ∧ ∀ k, k < 17 → ¬ kwK t n i e k)
def siK : List Nat := [7, 8, 9, 0, 2, 1, 10, 3, 15, 11, 12, 4, 5, 13, 16, 14, 6]
theorem siK_ok : ∀ k, k < 17 → bytS.getD (22 + k) [] = bytS.getD (siK.getD k 0) [] ∧ lenS.getD (22 + k) 0 = lenS.getD (siK.getD k 0) 0 := by decide +kernel
theorem sp_siK {t : FN} {n i k : Nat} (hk : k < 17) : psp t n i (22 + k) ↔ psp t n i (siK.getD k 0) := by
  obtain ⟨h1, h2⟩ := siK_ok k hk
  unfold psp
  rw [h1, h2]
theorem tk_no {t : FN} {n i e m : Nat} (he : e = i + m) (ks : List Nat) (hks : ∀ k, k < 17 → lenS.getD (22 + k) 0 = m → k ∈ ks) (h : ∀ k, k ∈ ks → ¬ psp t n i (siK.getD k 0)) : TKN t n i e 3 := by
  refine Or.inr ⟨rfl, fun k hk hq => ?_⟩
  obtain ⟨q1, q2⟩ := hq
  exact h k (hks k hk (by omega)) ((sp_siK hk).mp q2)
theorem tk_yes {t : FN} {n i e m k : Nat} (he : e = i + m) (hk : k < 17) (hm : lenS.getD (22 + k) 0 = m) (h : psp t n i (siK.getD k 0)) : TKN t n i e (nI (256 + k)) :=
  Or.inl ⟨k, hk, ⟨by omega, (sp_siK hk).mpr h⟩, rfl⟩
theorem nI_subeq {e i m : Nat} (h1 : i ≤ e) (h2 : e < 2 ^ 31) (hm : m < 2 ^ 31) : nI e - nI i = nI m ↔ e = i + m := by
  rw [pk_sub h1, nI_eq (by omega) hm]; omega
theorem l_sortName {nX : Nat} {t : FN} {n i e : Nat} {K_ : Int32 → Prop} (h : cT nX t n) (hi : i ≤ e) (he : e ≤ n) (kk : ∀ c, TKN t n i e c → K_ c) : vc_W_sortOfName nX t (nI n) (nI i) (nI e) K_ := by
  have b1 := h.1; have b2 := h.2.1
  have hin : i ≤ n := by omega
  have L : ∀ m, m < 2 ^ 31 → (nI e - nI i = nI m ↔ e = i + m) := fun m hm => nI_subeq hi (by omega) hm
  have L3 := L 3 (by decide); have L4 := L 4 (by decide); have L5 := L 5 (by decide); have L6 := L 6 (by decide); have L7 := L 7 (by decide); have L8 := L 8 (by decide)
  unfold vc_W_sortOfName
  refine ⟨fun a => ?_, fun a3 => ⟨fun a => ?_, fun a4 => ⟨fun a => ?_, fun a5 => ⟨fun a => ?_, fun a6 => ⟨fun a => ?_, fun a7 => ⟨fun a => ?_, fun a8 => ?_⟩⟩⟩⟩⟩⟩
  · have ha := L3.mp a
    refine l_spells h hin (by decide) (fun s => ⟨fun q => absurd q (by decide), fun _ => kk _ (tk_yes (k := 3) ha (by decide) (by decide) s)⟩) (fun s1 => ⟨fun _ => l_spells h hin (by decide) (fun s => ⟨fun q => absurd q (by decide), fun _ => kk _ (tk_yes (k := 5) ha (by decide) (by decide) s)⟩) (fun s2 => ⟨fun _ => kk _ (tk_no ha [3, 5] (by decide) (fun k hk => ?_)), fun q => absurd rfl q⟩), fun q => absurd rfl q⟩)
    simp only [List.mem_cons, List.not_mem_nil, or_false] at hk
    rcases hk with rfl | rfl
    · exact s1
    · exact s2
  · have ha := L4.mp a
    refine l_spells h hin (by decide) (fun s => ⟨fun q => absurd q (by decide), fun _ => kk _ (tk_yes (k := 4) ha (by decide) (by decide) s)⟩) (fun s1 => ⟨fun _ => l_spells h hin (by decide) (fun s => ⟨fun q => absurd q (by decide), fun _ => kk _ (tk_yes (k := 7) ha (by decide) (by decide) s)⟩) (fun s2 => ⟨fun _ => l_spells h hin (by decide) (fun s => ⟨fun q => absurd q (by decide), fun _ => kk _ (tk_yes (k := 11) ha (by decide) (by decide) s)⟩) (fun s3 => ⟨fun _ => l_spells h hin (by decide) (fun s => ⟨fun q => absurd q (by decide), fun _ => kk _ (tk_yes (k := 12) ha (by decide) (by decide) s)⟩) (fun s4 => ⟨fun _ => l_spells h hin (by decide) (fun s => ⟨fun q => absurd q (by decide), fun _ => kk _ (tk_yes (k := 16) ha (by decide) (by decide) s)⟩) (fun s5 => ⟨fun _ => kk _ (tk_no ha [4, 7, 11, 12, 16] (by decide) (fun k hk => ?_)), fun q => absurd rfl q⟩), fun q => absurd rfl q⟩), fun q => absurd rfl q⟩), fun q => absurd rfl q⟩), fun q => absurd rfl q⟩)
    simp only [List.mem_cons, List.not_mem_nil, or_false] at hk
    rcases hk with rfl | rfl | rfl | rfl | rfl
    · exact s1
    · exact s2
    · exact s3
    · exact s4
    · exact s5
  · have ha := L5.mp a
    refine l_spells h hin (by decide) (fun s => ⟨fun q => absurd q (by decide), fun _ => kk _ (tk_yes (k := 0) ha (by decide) (by decide) s)⟩) (fun s1 => ⟨fun _ => l_spells h hin (by decide) (fun s => ⟨fun q => absurd q (by decide), fun _ => kk _ (tk_yes (k := 1) ha (by decide) (by decide) s)⟩) (fun s2 => ⟨fun _ => l_spells h hin (by decide) (fun s => ⟨fun q => absurd q (by decide), fun _ => kk _ (tk_yes (k := 2) ha (by decide) (by decide) s)⟩) (fun s3 => ⟨fun _ => l_spells h hin (by decide) (fun s => ⟨fun q => absurd q (by decide), fun _ => kk _ (tk_yes (k := 6) ha (by decide) (by decide) s)⟩) (fun s4 => ⟨fun _ => l_spells h hin (by decide) (fun s => ⟨fun q => absurd q (by decide), fun _ => kk _ (tk_yes (k := 9) ha (by decide) (by decide) s)⟩) (fun s5 => ⟨fun _ => l_spells h hin (by decide) (fun s => ⟨fun q => absurd q (by decide), fun _ => kk _ (tk_yes (k := 10) ha (by decide) (by decide) s)⟩) (fun s6 => ⟨fun _ => l_spells h hin (by decide) (fun s => ⟨fun q => absurd q (by decide), fun _ => kk _ (tk_yes (k := 13) ha (by decide) (by decide) s)⟩) (fun s7 => ⟨fun _ => l_spells h hin (by decide) (fun s => ⟨fun q => absurd q (by decide), fun _ => kk _ (tk_yes (k := 15) ha (by decide) (by decide) s)⟩) (fun s8 => ⟨fun _ => kk _ (tk_no ha [0, 1, 2, 6, 9, 10, 13, 15] (by decide) (fun k hk => ?_)), fun q => absurd rfl q⟩), fun q => absurd rfl q⟩), fun q => absurd rfl q⟩), fun q => absurd rfl q⟩), fun q => absurd rfl q⟩), fun q => absurd rfl q⟩), fun q => absurd rfl q⟩), fun q => absurd rfl q⟩)
    simp only [List.mem_cons, List.not_mem_nil, or_false] at hk
    rcases hk with rfl | rfl | rfl | rfl | rfl | rfl | rfl | rfl
    · exact s1
    · exact s2
    · exact s3
    · exact s4
    · exact s5
    · exact s6
    · exact s7
    · exact s8
  · have ha := L6.mp a
    refine l_spells h hin (by decide) (fun s => ⟨fun q => absurd q (by decide), fun _ => kk _ (tk_yes (k := 8) ha (by decide) (by decide) s)⟩) (fun s1 => ⟨fun _ => kk _ (tk_no ha [8] (by decide) (fun k hk => ?_)), fun q => absurd rfl q⟩)
    simp only [List.mem_cons, List.not_mem_nil, or_false] at hk
    subst hk
    exact s1
  · exact kk _ (tk_no (L7.mp a) [] (by decide) (fun k hk => by simp at hk))
  · have ha := L8.mp a
    refine l_spells h hin (by decide) (fun s => ⟨fun q => absurd q (by decide), fun _ => kk _ (tk_yes (k := 14) ha (by decide) (by decide) s)⟩) (fun s1 => ⟨fun _ => kk _ (tk_no ha [14] (by decide) (fun k hk => ?_)), fun q => absurd rfl q⟩)
    simp only [List.mem_cons, List.not_mem_nil, or_false] at hk
    subst hk
    exact s1
  · refine kk _ (Or.inr ⟨rfl, fun k hk hq => ?_⟩)
    have : ∀ k, k < 17 → lenS.getD (22 + k) 0 = 3 ∨ lenS.getD (22 + k) 0 = 4 ∨ lenS.getD (22 + k) 0 = 5 ∨ lenS.getD (22 + k) 0 = 6 ∨ lenS.getD (22 + k) 0 = 8 := by decide +kernel
    have q1 := hq.1
    rcases this k hk with q | q | q | q | q
    · exact a3 (L3.mpr (by omega))
    · exact a4 (L4.mpr (by omega))
    · exact a5 (L5.mpr (by omega))
    · exact a6 (L6.mpr (by omega))
    · exact a8 (L8.mpr (by omega))
abbrev numOk (t : FN) (n i e : Nat) : Prop := aDg t n i ≤ i + 9 ∧ e ≤ aDg t n i + 10 ∧ bch t n e ≠ 46 ∧ ¬ isLt (bch t n e)
def TK (t : FN) (n i e : Nat) (c : Int32) : Prop :=
  (n ≤ i ∧ c = 1) ∨ (isLt (bch t n i) ∧ ((i + 40 < e ∧ c = 2) ∨ (e ≤ i + 40 ∧ TKN t n i e c))) ∨ (¬ isLt (bch t n i) ∧ isDg (bch t n i) ∧ ((numOk t n i e ∧ c = 4) ∨ (¬ numOk t n i e ∧ c = 2))) ∨
  (i < n ∧ ¬ isLt (bch t n i) ∧ ¬ isDg (bch t n i) ∧ ((bch t n i ∈ bytS.getD 17 [] ∧ c = bch t n i) ∨ (bch t n i ∉ bytS.getD 17 [] ∧ c = 2)))
theorem gt9_sub {m : Nat} (h : m < 2 ^ 30) : (9 < nI m - 1) ↔ 10 < m := by
  by_cases h0 : m = 0
  · subst h0
    exact ⟨fun q => absurd q (by decide), fun q => by omega⟩
  · rw [pu_s1 (by omega), show (9 : Int32) = nI 9 from rfl, nI_ltI (by decide) (by omega)]; omega
theorem l_isNum {nX : Nat} {t : FN} {n i e : Nat} {K_ : Int32 → Prop} (h : cT nX t n) (hi : i ≤ n) (he : e ≤ n) (hp : aDg t n i ≤ e) (h1 : numOk t n i e → K_ 1) (h0 : ¬ numOk t n i e → K_ 0) : vc_W_isNumber nX t (nI n) (nI i) (nI e) K_ := by
  have b1 := h.1; have b2 := h.2.1
  have hb := lxD_b t n (n - i) i
  have hb1 : i ≤ aDg t n i := hb.1
  refine l_aDg h hi (l_byteAt h (by omega) ?_)
  rw [pk_sub hb1, pk_sub hp, show (9 : Int32) = nI 9 from rfl, nI_ltI (by decide) (by omega)]
  rw [show nI 9 = (9 : Int32) from rfl, gt9_sub (by omega), ub_eq h e (x := 46) 46 rfl (by decide) (by decide)]
  refine ⟨fun a => h0 (fun q => by have := q.1; omega), fun a => ⟨fun b => h0 (fun q => by have := q.2.1; omega), fun b => ⟨fun c => h0 (fun q => q.2.2.1 c), fun c => l_isL (fun d => ⟨fun _ => h0 (fun q => q.2.2.2 ((pub_lt h e).1.mp d)), fun q => absurd q (by decide)⟩) (fun d => ⟨fun q => absurd rfl q, fun _ => h1 ⟨by omega, by omega, c, fun q => d ((pub_lt h e).1.mpr q)⟩⟩)⟩⟩⟩
theorem byte_t4 : ∀ k : Nat, k < 256 → (((Int32.ofInt ((k : Int) - 128) &&& 255).toUInt32 % 65536).toInt32 ∈ bytS.getD 17 [] ↔ Int32.ofInt ((k : Int) - 128) ∈ bytS.getD 17 []) ∧ (Int32.ofInt ((k : Int) - 128) ∈ bytS.getD 17 [] → Int32.ofInt ((k : Int) - 128) &&& 255 = Int32.ofInt ((k : Int) - 128)) := by decide +kernel
theorem l_sortBytes {nX : Nat} {t : FN} {n i e : Nat} {K_ : Int32 → Prop} (h : cT nX t n) (hi : i ≤ n) (he : e = aWd t n i) (hie : i ≤ e) (hen : e ≤ n) (hd : isDg (bch t n i) → ¬ isLt (bch t n i) → aDg t n i ≤ e) (kk : ∀ c, TK t n i e c → K_ c) : vc_W_sortOfBytes nX t (nI n) (nI i) (nI e) K_ := by
  have b1 := h.1; have b2 := h.2.1
  refine l_byteAt h (by omega) ⟨fun a => ?_, fun a => kk _ (Or.inl ⟨(ub_m1 h i).mp a, rfl⟩)⟩
  have hin : i < n := by
    by_cases q : i < n
    · exact q
    · exact absurd ((ub_m1 h i).mpr (by omega)) a
  obtain ⟨u1, u2, u3⟩ := pub_lt h i
  refine l_isL (fun b => ⟨fun q => absurd q (by decide), fun _ => ?_⟩) (fun b => ⟨fun _ => l_isD (fun d => ⟨fun q => absurd q (by decide), fun _ => ?_⟩) (fun d => ⟨fun _ => fun r hr => ?_, fun q => absurd rfl q⟩), fun q => absurd rfl q⟩)
  · rw [pk_sub hie, show (40 : Int32) = nI 40 from rfl, nI_ltI (by decide) (by omega)]
    exact ⟨fun q => kk _ (Or.inr (Or.inl ⟨u1.mp b, Or.inl ⟨by omega, rfl⟩⟩)), fun q => l_sortName h hie hen (fun c hc => kk _ (Or.inr (Or.inl ⟨u1.mp b, Or.inr ⟨by omega, hc⟩⟩)))⟩
  · have nb : ¬ isLt (bch t n i) := fun q => b (u1.mpr q)
    have nd := u2.mp d
    exact l_isNum h hi hen (hd nd nb) (fun q => ⟨fun q => absurd q (by decide), fun _ => kk _ (Or.inr (Or.inr (Or.inl ⟨nb, nd, Or.inl ⟨q, rfl⟩⟩)))⟩) (fun q => ⟨fun _ => kk _ (Or.inr (Or.inr (Or.inl ⟨nb, nd, Or.inr ⟨q, rfl⟩⟩))), fun q => absurd rfl q⟩)
  · have nb : ¬ isLt (bch t n i) := fun q => b (u1.mpr q)
    have nd : ¬ isDg (bch t n i) := fun q => d (u2.mpr q)
    have eu : pub_ t n i = t i &&& 255 := by unfold pub_; rw [if_pos hin]
    have eb : bch t n i = t i := by unfold bch; rw [if_pos hin]
    obtain ⟨k, hk, ek⟩ := byte_k (h.2.2 i hin).1 (h.2.2 i hin).2
    obtain ⟨t1, t2⟩ := byte_t4 k hk
    rw [← ek] at t1 t2
    rw [eu, t1] at hr
    rw [← eb] at hr t2
    rw [eu, ← eb]
    refine ⟨fun q => kk _ (Or.inr (Or.inr (Or.inr ⟨hin, nb, nd, Or.inr ⟨fun w => absurd q (Int32.not_lt.mpr (hr.mpr w)), rfl⟩⟩))), fun q => ?_⟩
    have w := hr.mp (Int32.not_lt.mp q)
    rw [t2 w]
    exact kk _ (Or.inr (Or.inr (Or.inr ⟨hin, nb, nd, Or.inl ⟨w, rfl⟩⟩)))
def frm (t : FN) (n : Nat) : Nat → Nat
  | 0 => 0
  | j + 1 => aWd t n (aBl t n (frm t n j))
abbrev sbN (t : FN) (n j : Nat) : Nat := aBl t n (frm t n j)
abbrev pseN (t : FN) (n j : Nat) : Nat := frm t n (j + 1)
theorem aBl_b {t : FN} {n i : Nat} (h : i ≤ n) : i ≤ aBl t n i ∧ aBl t n i ≤ n := by
  have := lxB_b t n (n - i) false i
  unfold aBl; omega
theorem aDg_b {t : FN} {n i : Nat} (h : i ≤ n) : i ≤ aDg t n i ∧ aDg t n i ≤ n := by
  have := lxD_b t n (n - i) i
  unfold aDg; omega
theorem aDg_s {t : FN} {n i : Nat} (h : isDg (bch t n i)) : i + 1 ≤ aDg t n i := by
  have hn := bch_n h
  unfold aDg
  obtain ⟨f, hf⟩ : ∃ f, n - i = f + 1 := ⟨n - i - 1, by omega⟩
  rw [hf]
  unfold lxD
  rw [if_pos h]
  exact (lxD_b t n f (i + 1)).1
theorem aNu_b {t : FN} {n i : Nat} (h : i ≤ n) : aDg t n i ≤ aNu t n i ∧ aNu t n i ≤ n := by
  have := aDg_b (t := t) h
  unfold aNu
  split
  · rename_i hc
    have := aDg_b (t := t) (i := aDg t n i + 1) (Nat.le_of_lt (bch_n hc.2))
    omega
  · omega
theorem aWd_b {t : FN} {n i : Nat} (h : i ≤ n) : i ≤ aWd t n i ∧ aWd t n i ≤ n ∧ (i < n → i < aWd t n i) := by
  unfold aWd
  split
  · rename_i hc
    have hn := bch_l hc
    unfold aNm
    obtain ⟨f, hf⟩ : ∃ f, n - i = f + 1 := ⟨n - i - 1, by omega⟩
    rw [hf]
    unfold lxN
    rw [if_pos (Or.inl hc)]
    have := lxN_b t n f (i + 1)
    omega
  · split
    · rename_i hc
      have h1 := aDg_s hc
      have h2 := aNu_b (t := t) h
      omega
    · omega
theorem frm_b (t : FN) (n : Nat) : ∀ j, frm t n j ≤ n
  | 0 => Nat.zero_le _
  | j + 1 => (aWd_b (aBl_b (frm_b t n j)).2).2.1
theorem frm_s {t : FN} {n j : Nat} (h : sbN t n j < n) : frm t n j < frm t n (j + 1) := by
  have h1 := (aBl_b (t := t) (frm_b t n j)).1
  have h2 := (aWd_b (t := t) (aBl_b (t := t) (frm_b t n j)).2).2.2 h
  show frm t n j < aWd t n (aBl t n (frm t n j))
  omega
theorem TK_n {t : FN} {n i e : Nat} {c : Int32} (h : TK t n i e c) (h1 : c ≠ 1) : i < n := by
  rcases h with h | h | h | h
  · exact absurd h.2 h1
  · exact bch_l h.1
  · exact bch_n h.2.1
  · exact h.1
def WDS (t : FN) (n : Nat) (so sb se : FN) (W : Nat) : Prop := 1 ≤ W ∧ W ≤ n + 1 ∧ (so (W - 1) = 1 ∨ so (W - 1) = 2) ∧ ∀ j, j < W → sb j = nI (sbN t n j) ∧ se j = nI (pseN t n j) ∧ TK t n (sbN t n j) (pseN t n j) (so j) ∧ (j + 1 < W → so j ≠ 1 ∧ so j ≠ 2)
theorem l_cutL {mc_ ms_ nX0 : Nat} {tx0 : FN} {ln0 : Int32} {nO0 : Nat} {so0 sb0 se0 : FN} {wc0 : Int32} {nA : Nat} {tp : FN} {aX aO aB aE : Nat} {x1 : Int32} {aX2 aO2 aB2 aE2 nX nO : Nat} {K_ : Nat → Nat → Nat → Nat → Nat → FN → Int32 → Nat → FN → FN → FN → Int32 → Prop} {t : FN} {n : Nat} (h : cT nX t n) (hO : n + 1 ≤ nO) (hO2 : nO < 2 ^ 30)
    (kk : ∀ so sb se W, WDS t n so sb se W → K_ aX2 aO2 aB2 aE2 nX t (nI n) nO so sb se (nI W)) : ∀ f i so sb se (x4 : Int32), f + i = n + 1 → (1 ≤ i → x4 = so (i - 1)) → (i = 0 → x4 = 0) → i ≤ frm t n i + 1 → (x4 ≠ 1 → x4 ≠ 2 → i ≤ frm t n i) →
    (∀ j, j < i → sb j = nI (sbN t n j) ∧ se j = nI (pseN t n j) ∧ TK t n (sbN t n j) (pseN t n j) (so j) ∧ (j + 1 < i → so j ≠ 1 ∧ so j ≠ 2)) →
    vl_W_cut_19 mc_ ms_ nX0 tx0 ln0 nO0 so0 sb0 se0 wc0 nA tp aX aO aB aE x1 aX2 aO2 aB2 aE2 nX nO K_ (f + 1) (nI i) x4 (nI (frm t n i)) t (nI n) so sb se (nI i) := by
  intro f
  have b1 := h.1; have b2 := h.2.1
  have end_ : ∀ i so sb se (x4 : Int32), i ≤ n + 1 → (1 ≤ i → x4 = so (i - 1)) → (i = 0 → x4 = 0) → (x4 = 1 ∨ x4 = 2) → (∀ j, j < i → sb j = nI (sbN t n j) ∧ se j = nI (pseN t n j) ∧ TK t n (sbN t n j) (pseN t n j) (so j) ∧ (j + 1 < i → so j ≠ 1 ∧ so j ≠ 2)) → K_ aX2 aO2 aB2 aE2 nX t (nI n) nO so sb se (nI i) := by
    intro i so sb se x4 hi e1 e0 hx hj
    have hi1 : 1 ≤ i := by
      rcases Nat.eq_zero_or_pos i with q | q
      · rw [e0 q] at hx; exact absurd hx (by decide)
      · exact q
    rw [e1 hi1] at hx
    exact kk so sb se i ⟨hi1, hi, hx, hj⟩
  induction f with
  | zero =>
    intro i so sb se x4 hf e1 e0 hfr hfr2 hj
    have hn := frm_b t n i
    have hx : x4 = 1 ∨ x4 = 2 := by
      by_cases q1 : x4 = 1
      · exact Or.inl q1
      · by_cases q2 : x4 = 2
        · exact Or.inr q2
        · have := hfr2 q1 q2; omega
    have fin := end_ i so sb se x4 (by omega) e1 e0 hx hj
    exact ⟨fun _ => fin, fun _ => ⟨fun _ => fin, fun q1 => ⟨fun _ => fin, fun q2 => absurd hx (fun w => w.elim q1 q2)⟩⟩⟩
  | succ f ih =>
    intro i so sb se x4 hf e1 e0 hfr hfr2 hj
    have hn := frm_b t n i
    have B := aBl_b (t := t) hn
    have Wd := aWd_b (t := t) B.2
    refine ⟨fun q => absurd ((nI_ltI (by omega) (by omega)).mp q) (by omega), fun _ => ⟨fun q1 => end_ i so sb se x4 (by omega) e1 e0 (Or.inl q1) hj, fun q1 => ⟨fun q2 => end_ i so sb se x4 (by omega) e1 e0 (Or.inr q2) hj, fun q2 => ?_⟩⟩⟩
    refine l_aBl h hn (l_aWd h B.2 (l_sortBytes h B.2 rfl Wd.1 Wd.2.1 (fun d nb => ?_) (fun c hc => ?_)))
    · show aDg t n (aBl t n (frm t n i)) ≤ aWd t n (aBl t n (frm t n i))
      rw [show aWd t n (aBl t n (frm t n i)) = aNu t n (aBl t n (frm t n i)) from by unfold aWd; rw [if_neg nb, if_pos d]]
      exact (aNu_b B.2).1
    · unfold vc_W_add
      rw [nI_leI (by omega) (by omega), nI_clamp (by omega), nI_1]
      refine ⟨fun q => by omega, fun _ => ⟨pu_in (by omega) (by omega), pu_in (by omega) (by omega), pu_in (by omega) (by omega), ?_⟩⟩
      have hfi := hfr2 q1 q2
      have stp : sbN t n i < n → i + 1 ≤ frm t n (i + 1) := fun w => by have := frm_s w; omega
      refine ih (i + 1) _ _ _ c (by omega) (fun _ => by simp [upd]) (fun q => by omega) ?_ (fun c1 c2 => stp (TK_n hc c1)) ?_
      · have : frm t n i ≤ frm t n (i + 1) := by
          show frm t n i ≤ aWd t n (aBl t n (frm t n i)); omega
        omega
      · intro j hjj
        by_cases hji : j = i
        · subst hji
          simp only [upd, if_true]
          exact ⟨trivial, rfl, hc, fun q => by omega⟩
        · have := hj j (by omega)
          simp only [upd, if_neg hji]
          refine ⟨this.1, this.2.1, this.2.2.1, fun _ => ?_⟩
          by_cases q : j + 1 < i
          · exact this.2.2.2 q
          · have e : j = i - 1 := by omega
            rw [e, ← e1 (by omega)]
            exact ⟨q1, q2⟩
theorem bch_c {t t' : FN} {n : Nat} (h : ∀ i, i < n → t i = t' i) (i : Nat) : bch t n i = bch t' n i := by
  unfold bch
  split
  · rename_i hi; exact h i hi
  · rfl
theorem lxB_c {t t' : FN} {n : Nat} (h : ∀ i, i < n → t i = t' i) : ∀ f c i, lxB t n f c i = lxB t' n f c i
  | 0, _, _ => rfl
  | f + 1, c, i => by
    unfold lxB
    rw [bch_c h i, lxB_c h f]
theorem lxN_c {t t' : FN} {n : Nat} (h : ∀ i, i < n → t i = t' i) : ∀ f i, lxN t n f i = lxN t' n f i
  | 0, _ => rfl
  | f + 1, i => by
    unfold lxN
    rw [bch_c h i, lxN_c h f]
theorem lxD_c {t t' : FN} {n : Nat} (h : ∀ i, i < n → t i = t' i) : ∀ f i, lxD t n f i = lxD t' n f i
  | 0, _ => rfl
  | f + 1, i => by
    unfold lxD
    rw [bch_c h i, lxD_c h f]
theorem aBl_c {t t' : FN} {n : Nat} (h : ∀ i, i < n → t i = t' i) (i : Nat) : aBl t n i = aBl t' n i := lxB_c h _ _ _
theorem aDg_c {t t' : FN} {n : Nat} (h : ∀ i, i < n → t i = t' i) (i : Nat) : aDg t n i = aDg t' n i := lxD_c h _ _
theorem aNu_c {t t' : FN} {n : Nat} (h : ∀ i, i < n → t i = t' i) (i : Nat) : aNu t n i = aNu t' n i := by
  unfold aNu
  rw [aDg_c h, bch_c h, bch_c h, aDg_c h]
theorem aWd_c {t t' : FN} {n : Nat} (h : ∀ i, i < n → t i = t' i) (i : Nat) : aWd t n i = aWd t' n i := by
  unfold aWd aNm
  rw [bch_c h, lxN_c h, aNu_c h]
theorem frm_c {t t' : FN} {n : Nat} (h : ∀ i, i < n → t i = t' i) : ∀ j, frm t n j = frm t' n j
  | 0 => rfl
  | j + 1 => by
    unfold frm
    rw [frm_c h j, aBl_c h, aWd_c h]
theorem sp_c {t t' : FN} {n : Nat} (h : ∀ i, i < n → t i = t' i) (i si : Nat) : psp t n i si ↔ psp t' n i si := by
  unfold psp
  exact forall_congr' (fun q => by rw [bch_c h])
theorem TKN_c {t t' : FN} {n : Nat} (h : ∀ i, i < n → t i = t' i) {i e : Nat} {c : Int32} (hh : TKN t n i e c) : TKN t' n i e c := by
  rcases hh with ⟨k, h1, h2, h3⟩ | ⟨h1, h2⟩
  · exact Or.inl ⟨k, h1, ⟨h2.1, (sp_c h _ _).mp h2.2⟩, h3⟩
  · exact Or.inr ⟨h1, fun k hk hq => h2 k hk ⟨hq.1, (sp_c h _ _).mpr hq.2⟩⟩
theorem TK_c {t t' : FN} {n : Nat} (h : ∀ i, i < n → t i = t' i) {i e : Nat} {c : Int32} (hh : TK t n i e c) : TK t' n i e c := by
  unfold TK numOk at hh ⊢
  rw [bch_c h i, bch_c h e, aDg_c h] at hh
  rcases hh with h1 | ⟨h1, h2⟩ | h1 | h1
  · exact Or.inl h1
  · refine Or.inr (Or.inl ⟨h1, ?_⟩)
    rcases h2 with h2 | h2
    · exact Or.inl h2
    · exact Or.inr ⟨h2.1, TKN_c h h2.2⟩
  · exact Or.inr (Or.inr (Or.inl h1))
  · exact Or.inr (Or.inr (Or.inr h1))
theorem WDS_c {t t' : FN} {n : Nat} (h : ∀ i, i < n → t i = t' i) {so sb se : FN} {W : Nat} (hh : WDS t n so sb se W) : WDS t' n so sb se W := by
  obtain ⟨h1, h2, h3, h4⟩ := hh
  refine ⟨h1, h2, h3, fun j hj => ?_⟩
  obtain ⟨a1, a2, a3, a4⟩ := h4 j hj
  have e1 : sbN t n j = sbN t' n j := by show aBl t n (frm t n j) = aBl t' n (frm t' n j); rw [frm_c h, aBl_c h]
  have e2 : pseN t n j = pseN t' n j := frm_c h _
  rw [e1] at a1
  rw [e2] at a2
  rw [e1, e2] at a3
  exact ⟨a1, a2, TK_c h a3, a4⟩
theorem fits_b {x : Int32} (h1 : -128 ≤ x) (h2 : x ≤ 127) : fits .byte (.int x) = true := by
  show (decide (-128 ≤ x) && decide (x ≤ 127)) = true
  rw [decide_eq_true h1, decide_eq_true h2]; rfl
def kpX (n nX nA : Nat) : Nat := if n ≤ nX then nX else nA
def kpC (n nX : Nat) : Nat := if n ≤ nX then 0 else 4
def kpS (n nX nA : Nat) : Nat := if n ≤ nX then 0 else nA + 3 * (nA + 1)
theorem l_cut {mc_ ms_ nX : Nat} {tx : FN} {ln : Int32} {nO : Nat} {so sb se : FN} {wc : Int32} {nA : Nat} {tp : FN} {aX aO aB aE n : Nat} {K_ : Nat → Nat → Nat → Nat → Nat → FN → Int32 → Nat → FN → FN → FN → Int32 → Prop}
    (hA : n ≤ nA) (hA2 : nA < 2 ^ 24) (hX : nX < 2 ^ 24) (hO : nO = nX + 1) (hb : ∀ i, i < n → -128 ≤ tp i ∧ tp i ≤ 127) (hc : kpC n nX ≤ mc_) (hs : kpS n nX nA ≤ ms_)
    (kk : ∀ aX' aO' aB' aE' t' so' sb' se' W, (∀ i, i < n → t' i = tp i) → WDS tp n so' sb' se' W → K_ aX' aO' aB' aE' (kpX n nX nA) t' (nI n) (kpX n nX nA + 1) so' sb' se' (nI W)) : vc_W_cut mc_ ms_ nX tx ln nO so sb se wc nA tp aX aO aB aE (nI n) K_ := by
  refine ⟨kpC n nX, kpS n nX nA, by omega, by omega, ?_⟩
  unfold vc_W_keep
  rw [show (0 : Int32).toNatClampNeg = 0 from rfl, nI_clamp (by omega), nI_clamp (by omega)]
  have cp : ∀ g : FN, ∀ i, i < n → va_cpy tp g 0 0 n i = tp i := by
    intro g i hi
    unfold va_cpy
    rw [if_pos (by omega)]
    congr 1
    omega
  have run : ∀ aX2 aO2 aB2 aE2 (g : FN) (so2 sb2 se2 : FN), (∃ n_, vl_W_cut_19 mc_ ms_ nX tx ln nO so sb se wc nA tp aX aO aB aE (nI n) aX2 aO2 aB2 aE2 (kpX n nX nA) (kpX n nX nA + 1) K_ n_ 0 0 0 (va_cpy tp g 0 0 n) (nI n) so2 sb2 se2 0) := by
    intro aX2 aO2 aB2 aE2 g so2 sb2 se2
    have hk : n ≤ kpX n nX nA ∧ kpX n nX nA < 2 ^ 24 := by unfold kpX; split <;> omega
    have hcT : cT (kpX n nX nA) (va_cpy tp g 0 0 n) n := ⟨hk.1, by omega, fun i hi => by rw [cp g i hi]; exact hb i hi⟩
    refine ⟨n + 1 + 1, l_cutL hcT (by omega) (by omega) (fun so sb se W hw => kk _ _ _ _ _ _ _ _ _ (cp g) (WDS_c (cp g) hw)) (n + 1) 0 so2 sb2 se2 0 rfl (fun q => by omega) (fun _ => rfl) (by omega) (fun _ _ => Nat.zero_le _) (fun j hj => absurd hj (by omega))⟩
  refine ⟨fun q => ?_, fun q => ?_⟩
  · rw [nI_leI (by omega) (by omega)] at q
    have ek : kpX n nX nA = nX := by unfold kpX; rw [if_pos q]
    rw [ek, ← hO] at run
    exact ⟨by decide, by decide, nI_pos (by omega), by omega, by omega, fun i hi => by rw [Nat.zero_add]; exact fits_b (hb i hi).1 (hb i hi).2, run _ _ _ _ _ _ _ _⟩
  · rw [nI_leI (by omega) (by omega)] at q
    have ek : kpX n nX nA = nA := by unfold kpX; rw [if_neg q]
    have ec : kpC n nX = 4 := by unfold kpC; rw [if_neg q]
    have es : kpS n nX nA = nA + 3 * (nA + 1) := by unfold kpS; rw [if_neg q]
    rw [ek] at run
    rw [nI_1, nI_clamp (by omega), ec, es]
    exact ⟨nI_pos (by omega), by omega, by omega, by omega, fun _ => ⟨nI_pos (by omega), by omega, by omega, by omega, fun _ => ⟨nI_pos (by omega), by omega, by omega, by omega, fun _ => ⟨nI_pos (by omega), by omega, by omega, by omega, fun _ => ⟨by decide, by decide, nI_pos (by omega), by omega, by omega, fun i hi => by rw [Nat.zero_add]; exact fits_b (hb i hi).1 (hb i hi).2, run _ _ _ _ _ _ _ _⟩⟩⟩⟩⟩
