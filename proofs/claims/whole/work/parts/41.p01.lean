abbrev pNd : Type := Int32 × Nat × Int32 × Int32 × Int32
theorem pu_0 : (0 : Int32) = nI 0 := rfl
theorem pu_lt0 {n : Nat} (h : n < 2 ^ 31) : ¬ nI n < 0 := by
  rw [pu_0, nI_ltI h (by decide)]; omega
theorem pu_m1 {n : Nat} (h : n < 2 ^ 31) : ¬ nI n = (-1) := by
  intro q
  have := congrArg Int32.toInt q
  rw [nI_toInt h] at this
  have h1 : (-1 : Int32).toInt = -1 := by decide
  omega
theorem pu_s1 {n : Nat} (h : 0 < n) : nI n - 1 = nI (n - 1) := pk_sub (b := 1) h
theorem pu_a1 {n : Nat} (h : 0 < n) : nI n + (-1) = nI (n - 1) := by
  rw [← pu_s1 h, Int32.sub_eq_add_neg]
theorem pu_in {n N : Nat} (h : n < N) (hN : N < 2 ^ 31) : vp_in (nI n) N := vp_in_nI h hN
def cRep (N : List pNd) (K F Pa Sg Dp : FN) : Prop := ∀ i a, N[i]? = some a → K i = a.1 ∧ F i = nI a.2.1 ∧ Pa i = a.2.2.1 ∧ Sg i = a.2.2.2.1 ∧ Dp i = a.2.2.2.2
theorem cRep_snoc {N : List pNd} {K F Pa Sg Dp : FN} (a : pNd) (h : cRep N K F Pa Sg Dp) : cRep (N ++ [a]) (upd K N.length a.1) (upd F N.length (nI a.2.1)) (upd Pa N.length a.2.2.1) (upd Sg N.length a.2.2.2.1) (upd Dp N.length a.2.2.2.2) := by
  intro i b hb
  by_cases hi : i = N.length
  · subst hi
    simp at hb
    subst hb
    simp [upd]
  · have hlt : i < N.length := by
      have := (List.getElem?_eq_some_iff.mp hb).1
      simp at this
      omega
    rw [List.getElem?_append_left hlt] at hb
    simpa [upd, hi] using h i b hb
def nsh (a : pNd) : pNd := (a.1, a.2.1, a.2.2.1 + 1, a.2.2.2)
def wrapL (b : Nat) (k : Int32) (fw : Nat) (N : List pNd) : List pNd :=
  match N.drop b with
  | [] => N
  | a :: T => N.take b ++ (k, fw, a.2.2.1, a.2.2.2.1, -1) :: (a.1, a.2.1, nI b, 0, a.2.2.2.2) :: T.map nsh
theorem wrapL_eq (A : List pNd) (a : pNd) (T : List pNd) (k : Int32) (fw : Nat) : wrapL A.length k fw (A ++ a :: T) = A ++ (k, fw, a.2.2.1, a.2.2.2.1, -1) :: (a.1, a.2.1, nI A.length, 0, a.2.2.2.2) :: T.map nsh := by
  simp [wrapL]
def shf (f : FN) (b c : Nat) : FN := fun k => if b < k ∧ k ≤ c then f (k - 1) else f k
def shp (f : FN) (b c : Nat) : FN := fun k => if b < k ∧ k ≤ c then f (k - 1) + 1 else f k
theorem shf_c (f : FN) (c : Nat) : shf f c c = f := by
  funext k; unfold shf; rw [if_neg (by omega)]
theorem shp_c (f : FN) (c : Nat) : shp f c c = f := by
  funext k; unfold shp; rw [if_neg (by omega)]
theorem shf_u (f : FN) (x c : Nat) (h : x < c) : upd (shf f (x + 1) c) (x + 1) ((shf f (x + 1) c) x) = shf f x c := by
  funext k
  unfold upd shf
  by_cases hk : k = x + 1
  · subst hk
    rw [if_pos rfl, if_neg (by omega), if_pos (by omega)]; rfl
  · rw [if_neg hk]
    by_cases h1 : x + 1 < k ∧ k ≤ c
    · rw [if_pos h1, if_pos (by omega)]
    · rw [if_neg h1, if_neg (by omega)]
theorem shp_u (f : FN) (x c : Nat) (h : x < c) : upd (shp f (x + 1) c) (x + 1) ((shp f (x + 1) c) x + 1) = shp f x c := by
  funext k
  unfold upd shp
  by_cases hk : k = x + 1
  · subst hk
    rw [if_pos rfl, if_neg (by omega), if_pos (by omega)]; rfl
  · rw [if_neg hk]
    by_cases h1 : x + 1 < k ∧ k ≤ c
    · rw [if_pos h1, if_pos (by omega)]
    · rw [if_neg h1, if_neg (by omega)]
theorem wrap_loop {nT : Nat} {cn0 : Int32} {K0 F0 Pa0 Sg0 Dp0 K F Pa Sg Dp : FN} {b c : Nat} {k : Int32} {fw : Int32} {K_ : KT} (hT : nT < 2 ^ 30) (hb : b < c) (hc : c < nT)
    (kk : K_ (nI (c + 1)) (upd (shf K b c) b k) (upd (shf F b c) b fw) (upd (shp Pa b c) (b + 1) (nI b)) (upd (shf Sg b c) (b + 1) 0) (upd (shf Dp b c) b (-1))) :
    ∀ n x, b ≤ x → x ≤ c → n = x - b → vl_T_wrap_27 nT cn0 K0 F0 Pa0 Sg0 Dp0 (nI b) k fw K_ (n + 1) (nI x) (nI c) (shf K x c) (shf F x c) (shp Pa x c) (shf Sg x c) (shf Dp x c) := by
  intro n
  induction n with
  | zero =>
    intro x h1 h2 h3
    have : x = b := by omega
    subst this
    unfold vl_T_wrap_27
    refine ⟨fun _ => ?_, fun h => absurd ((nI_leI (by omega) (by omega)).mpr (Nat.le_refl _)) h⟩
    rw [nI_1, nI_1, nI_clamp (by omega), nI_clamp (by omega)]
    exact ⟨pu_in (by omega) (by omega), pu_in (by omega) (by omega), pu_in (by omega) (by omega), pu_in (by omega) (by omega), pu_in (by omega) (by omega), kk⟩
  | succ n ih =>
    intro x h1 h2 h3
    unfold vl_T_wrap_27
    refine ⟨fun h => absurd ((nI_leI (by omega) (by omega)).mp h) (by omega), fun _ => ?_⟩
    obtain ⟨x, rfl⟩ : ∃ y, x = y + 1 := ⟨x - 1, by omega⟩
    rw [pu_s1 (by omega), pu_a1 (by omega)]
    simp only [Nat.add_sub_cancel]
    rw [nI_clamp (by omega), nI_clamp (by omega)]
    have e1 := pu_in (n := x) (N := nT) (by omega) (by omega)
    have e2 := pu_in (n := x + 1) (N := nT) (by omega) (by omega)
    refine ⟨e1, e2, e1, e2, e1, e2, e1, e2, e1, e2, ?_⟩
    rw [shf_u K x c (by omega), shf_u F x c (by omega), shp_u Pa x c (by omega), shf_u Sg x c (by omega), shf_u Dp x c (by omega)]
    exact ih x (by omega) (by omega) (by omega)
theorem wrap_raw {nT : Nat} {K F Pa Sg Dp : FN} {b c : Nat} {k fw : Int32} {K_ : KT} (hT : nT < 2 ^ 30) (hb : b < c) (hc : c < nT)
    (kk : K_ (nI (c + 1)) (upd (shf K b c) b k) (upd (shf F b c) b fw) (upd (shp Pa b c) (b + 1) (nI b)) (upd (shf Sg b c) (b + 1) 0) (upd (shf Dp b c) b (-1))) :
    vc_T_wrap nT (nI c) K F Pa Sg Dp (nI b) k fw K_ := by
  unfold vc_T_wrap vc_T_holds
  refine ⟨fun h => absurd h (pu_lt0 (by omega)), fun _ => ⟨fun h => absurd ((nI_leI (by omega) (by omega)).mp h) (by omega), fun _ => ⟨fun h => absurd h (by decide), fun _ => ⟨fun _ => ⟨c - b + 1, ?_⟩, fun h => absurd ((nI_ltI (by omega) (by omega)).mpr hc) h⟩⟩⟩⟩
  have := wrap_loop (cn0 := nI c) (K0 := K) (F0 := F) (Pa0 := Pa) (Sg0 := Sg) (Dp0 := Dp) hT hb hc kk (c - b) c (by omega) (by omega) rfl
  rwa [shf_c, shf_c, shp_c, shf_c, shf_c] at this
theorem cRep_wrap {A T : List pNd} {a : pNd} {K F Pa Sg Dp : FN} {k : Int32} {fw : Nat} (h : cRep (A ++ a :: T) K F Pa Sg Dp) : cRep (A ++ (k, fw, a.2.2.1, a.2.2.2.1, -1) :: (a.1, a.2.1, nI A.length, 0, a.2.2.2.2) :: T.map nsh)
    (upd (shf K A.length (A.length + 1 + T.length)) A.length k) (upd (shf F A.length (A.length + 1 + T.length)) A.length (nI fw)) (upd (shp Pa A.length (A.length + 1 + T.length)) (A.length + 1) (nI A.length)) (upd (shf Sg A.length (A.length + 1 + T.length)) (A.length + 1) 0) (upd (shf Dp A.length (A.length + 1 + T.length)) A.length (-1)) := by
  intro i x hx
  have hi := (List.getElem?_eq_some_iff.mp hx).1
  simp at hi
  by_cases h1 : i < A.length
  · rw [List.getElem?_append_left h1] at hx
    have := h i x (by rw [List.getElem?_append_left h1]; exact hx)
    simp only [upd, shf, shp]
    rw [if_neg (by omega), if_neg (by omega), if_neg (by omega), if_neg (by omega), if_neg (by omega), if_neg (by omega), if_neg (by omega), if_neg (by omega), if_neg (by omega), if_neg (by omega)]
    exact this
  · rw [List.getElem?_append_right (by omega)] at hx
    by_cases h2 : i = A.length
    · subst h2
      simp at hx
      subst hx
      have h3 := h A.length a (by simp)
      simp only [upd, shf, shp]
      rw [if_pos trivial, if_pos trivial, if_neg (by omega), if_neg (by omega), if_neg (by omega), if_neg (by omega), if_pos trivial]
      exact ⟨rfl, rfl, h3.2.2.1, h3.2.2.2.1, rfl⟩
    · by_cases h4 : i = A.length + 1
      · subst h4
        simp at hx
        subst hx
        have h3 := h A.length a (by simp)
        simp only [upd, shf, shp]
        rw [if_neg (by omega), if_pos (by omega), if_neg (by omega), if_pos (by omega), if_pos trivial, if_pos trivial, if_neg (by omega), if_pos (by omega)]
        simp only [Nat.add_sub_cancel]
        exact ⟨h3.1, h3.2.1, trivial, trivial, h3.2.2.2.2⟩
      · obtain ⟨m, rfl⟩ : ∃ m, i = A.length + 2 + m := ⟨i - A.length - 2, by omega⟩
        have e : A.length + 2 + m - A.length = m + 1 + 1 := by omega
        rw [e, List.getElem?_cons_succ, List.getElem?_cons_succ, List.getElem?_map] at hx
        obtain ⟨y, hy, rfl⟩ := Option.map_eq_some_iff.mp hx
        have h3 := h (A.length + 1 + m) y (by rw [List.getElem?_append_right (by omega), show A.length + 1 + m - A.length = m + 1 from by omega, List.getElem?_cons_succ]; exact hy)
        simp only [upd, shf, shp]
        rw [if_neg (by omega), if_pos (by omega), if_neg (by omega), if_pos (by omega), if_neg (by omega), if_pos (by omega), if_neg (by omega), if_pos (by omega), if_neg (by omega), if_pos (by omega)]
        rw [show A.length + 2 + m - 1 = A.length + 1 + m from by omega]
        simp only [nsh]
        exact ⟨h3.1, h3.2.1, by rw [h3.2.2.1], h3.2.2.2.1, h3.2.2.2.2⟩
abbrev pPS : Type := Nat × Bool × Int32 × List pNd
def cW (nO : Nat) (so : FN) (W nT : Nat) : Prop := 1 ≤ W ∧ W ≤ nO ∧ nO < 2 ^ 30 ∧ nT < 2 ^ 30 ∧ (so (W - 1) = 1 ∨ so (W - 1) = 2)
def psS (so : FN) (st : pPS) : Int32 := if st.2.1 then 0 else so st.1
def gTake (so : FN) (x : Int32) (st : pPS) : pPS := if psS so st = x then (st.1 + 1, st.2) else (st.1, true, st.2.2)
def gStep (st : pPS) : pPS := (st.1 + 1, st.2)
def gBad (st : pPS) : pPS := (st.1, true, st.2.2)
def gOpen (so : FN) (x : Int32) (st : pPS) : pPS := if psS so st = x ∧ ¬ 30 ≤ st.2.2.1 then (st.1 + 1, st.2.1, st.2.2.1 + 1, st.2.2.2) else (st.1, true, st.2.2)
def gDec (st : pPS) : pPS := (st.1, st.2.1, st.2.2.1 - 1, st.2.2.2)
def gClose (so : FN) (x : Int32) (st : pPS) : pPS := gDec (gTake so x st)
def gAdd (nT : Nat) (k p s : Int32) (st : pPS) : pPS := (st.1, st.2.1, st.2.2.1, if st.2.2.2.length < nT then st.2.2.2 ++ [(k, st.1, p, s, -1)] else st.2.2.2)
def gR (nT : Nat) (st : pPS) : Int32 := if st.2.2.2.length < nT then nI st.2.2.2.length else -1
def gWrap (nT b : Nat) (k : Int32) (fw : Nat) (st : pPS) : pPS := (st.1, st.2.1, st.2.2.1, if b < st.2.2.2.length ∧ st.2.2.2.length < nT then wrapL b k fw st.2.2.2 else st.2.2.2)
def setK (b : Nat) (k : Int32) (N : List pNd) : List pNd := N.modify b (fun a => (k, a.2))
def setD (b : Nat) (d : Int32) (N : List pNd) : List pNd := N.modify b (fun a => (a.1, a.2.1, a.2.2.1, a.2.2.2.1, d))
def gTurn (b : Nat) (k : Int32) (st : pPS) : pPS := (st.1, st.2.1, st.2.2.1, setK b k st.2.2.2)
def gSetD (b : Nat) (k : Int32) (st : pPS) : pPS := (st.1, st.2.1, st.2.2.1, setD b k st.2.2.2)
abbrev gN (st : pPS) : Nat := st.2.2.2.length
def cU (so : FN) (W nT : Nat) (st : pPS) (cn : Int32) (K F Pa Sg Dp : FN) (at_ sr dp : Int32) : Prop := cn = nI st.2.2.2.length ∧ st.2.2.2.length ≤ nT ∧ cRep st.2.2.2 K F Pa Sg Dp ∧ at_ = nI st.1 ∧ sr = psS so st ∧ dp = st.2.2.1 ∧ st.1 < W
abbrev uP (so : FN) (W nT : Nat) (st : pPS) (K_ : KP) : Prop := ∀ cn K F Pa Sg Dp at_ sr dp, cU so W nT st cn K F Pa Sg Dp at_ sr dp → K_ cn K F Pa Sg Dp at_ sr dp
abbrev pT0 : Type := Int32 → FN → FN → FN → FN → FN → Int32 → Int32 → Int32 → KP → Prop
def uR (so : FN) (W nT : Nat) (v : pT0) (st st' : pPS) : Prop := ∀ cn K F Pa Sg Dp at_ sr dp K_, cU so W nT st cn K F Pa Sg Dp at_ sr dp → uP so W nT st' K_ → v cn K F Pa Sg Dp at_ sr dp K_
theorem u_next {nO : Nat} {so : FN} {W nT : Nat} (hW : cW nO so W nT) {st : pPS} {x : Int32} (hj : st.1 < W) (h : psS so st = x) (h0 : x ≠ 0) (h1 : x ≠ 1) (h2 : x ≠ 2) : st.1 + 1 < W ∧ st.2.1 = false ∧ so st.1 = x := by
  obtain ⟨w1, w2, w3, w4, w5⟩ := hW
  unfold psS at h
  have hf : st.2.1 = false := by
    cases hb : st.2.1 with
    | false => rfl
    | true => rw [hb, if_pos rfl] at h; exact absurd h.symm h0
  rw [hf] at h
  simp at h
  refine ⟨?_, hf, h⟩
  by_cases hq : st.1 = W - 1
  · rw [hq] at h
    rcases w5 with w5 | w5
    · exact absurd (h.symm.trans w5) h1
    · exact absurd (h.symm.trans w5) h2
  · omega
theorem u_step {nO : Nat} {so : FN} {W nT : Nat} (hW : cW nO so W nT) {st : pPS} {x : Int32} {cn : Int32} {K F Pa Sg Dp : FN} {at_ sr dp : Int32} {K_ : Int32 → Int32 → Prop} (h : cU so W nT st cn K F Pa Sg Dp at_ sr dp) (hx : sr = x) (h0 : x ≠ 0) (h1 : x ≠ 1) (h2 : x ≠ 2)
    (kk : ∀ at' sr', cU so W nT (gStep st) cn K F Pa Sg Dp at' sr' dp → K_ at' sr') : vc_P_step nO so (nI W) at_ sr K_ := by
  obtain ⟨rfl, a2, a3, rfl, rfl, rfl, a7⟩ := h
  obtain ⟨b1, b2, b3⟩ := u_next hW a7 hx h0 h1 h2
  obtain ⟨w1, w2, w3, w4, w5⟩ := hW
  unfold vc_P_step
  rw [nI_1, nI_leI (by omega) (by omega), nI_clamp (by omega)]
  refine ⟨fun h => absurd h (by omega), fun _ => ⟨pu_in (by omega) (by omega), kk _ _ ⟨rfl, a2, a3, rfl, ?_, rfl, b1⟩⟩⟩
  simp [psS, gStep, b2]
theorem u_take {nO : Nat} {so : FN} {W nT : Nat} (hW : cW nO so W nT) {st : pPS} {x : Int32} {cn : Int32} {K F Pa Sg Dp : FN} {at_ sr dp : Int32} {K_ : Int32 → Int32 → Prop} (h : cU so W nT st cn K F Pa Sg Dp at_ sr dp) (h0 : x ≠ 0) (h1 : x ≠ 1) (h2 : x ≠ 2)
    (kk : ∀ at' sr', cU so W nT (gTake so x st) cn K F Pa Sg Dp at' sr' dp → K_ at' sr') : vc_P_take nO so (nI W) at_ sr x K_ := by
  refine ⟨fun hx => ?_, fun hx => u_step hW h hx h0 h1 h2 (fun at' sr' h' => kk _ _ ?_)⟩
  · obtain ⟨rfl, a2, a3, rfl, rfl, rfl, a7⟩ := h
    refine kk _ _ ?_
    unfold gTake
    rw [if_neg hx]
    exact ⟨rfl, a2, a3, rfl, rfl, rfl, a7⟩
  · obtain ⟨rfl, a2, a3, rfl, rfl, rfl, a7⟩ := h
    unfold gTake
    rw [if_pos hx]
    exact h'
theorem u_open {nO : Nat} {so : FN} {W nT : Nat} (hW : cW nO so W nT) {st : pPS} {x : Int32} {cn : Int32} {K F Pa Sg Dp : FN} {at_ sr dp : Int32} {K_ : Int32 → Int32 → Int32 → Prop} (h : cU so W nT st cn K F Pa Sg Dp at_ sr dp) (h0 : x ≠ 0) (h1 : x ≠ 1) (h2 : x ≠ 2)
    (kk : ∀ at' sr' dp', cU so W nT (gOpen so x st) cn K F Pa Sg Dp at' sr' dp' → K_ at' sr' dp') : vc_P_open nO so (nI W) at_ sr dp x K_ := by
  have hh := h
  obtain ⟨rfl, a2, a3, rfl, rfl, rfl, a7⟩ := h
  refine ⟨fun hx => kk _ _ _ ?_, fun hx => ⟨fun hd => kk _ _ _ ?_, fun hd => u_step hW hh hx h0 h1 h2 (fun at' sr' h' => kk _ _ _ ?_)⟩⟩
  · unfold gOpen
    rw [if_neg (fun h => hx h.1)]
    exact ⟨rfl, a2, a3, rfl, rfl, rfl, a7⟩
  · unfold gOpen
    rw [if_neg (fun h => h.2 hd)]
    exact ⟨rfl, a2, a3, rfl, rfl, rfl, a7⟩
  · unfold gOpen
    rw [if_pos ⟨hx, hd⟩]
    obtain ⟨b1, b2, b3, b4, b5, b6, b7⟩ := h'
    exact ⟨rfl, b2, b3, b4, b5, rfl, b7⟩
theorem u_close {nO : Nat} {so : FN} {W nT : Nat} (hW : cW nO so W nT) {st : pPS} {x : Int32} {cn : Int32} {K F Pa Sg Dp : FN} {at_ sr dp : Int32} {K_ : Int32 → Int32 → Int32 → Prop} (h : cU so W nT st cn K F Pa Sg Dp at_ sr dp) (h0 : x ≠ 0) (h1 : x ≠ 1) (h2 : x ≠ 2)
    (kk : ∀ at' sr' dp', cU so W nT (gClose so x st) cn K F Pa Sg Dp at' sr' dp' → K_ at' sr' dp') : vc_P_close nO so (nI W) at_ sr dp x K_ := by
  refine u_take hW h h0 h1 h2 (fun at' sr' h' => kk _ _ _ ?_)
  obtain ⟨b1, b2, b3, b4, b5, b6, b7⟩ := h'
  exact ⟨b1, b2, b3, b4, b5, by rw [b6]; rfl, b7⟩
theorem u_add {so : FN} {W nT : Nat} (hT : nT < 2 ^ 30) {st : pPS} {k p s : Int32} {cn : Int32} {K F Pa Sg Dp : FN} {at_ sr dp : Int32} {K_ : KTi} (h : cU so W nT st cn K F Pa Sg Dp at_ sr dp)
    (kk : ∀ cn' K' F' Pa' Sg' Dp', cU so W nT (gAdd nT k p s st) cn' K' F' Pa' Sg' Dp' at_ sr dp → K_ (gR nT st) cn' K' F' Pa' Sg' Dp') : vc_T_add nT cn K F Pa Sg Dp k at_ p s K_ := by
  obtain ⟨rfl, a2, a3, rfl, rfl, rfl, a7⟩ := h
  unfold vc_T_add
  rw [nI_ltI (by omega) (by omega)]
  refine ⟨fun h1 => ?_, fun h1 => ?_⟩
  · have hin := pu_in h1 (by omega)
    rw [nI_clamp (by omega), nI_1, pu_s1 (by omega), Nat.add_sub_cancel]
    have e : gR nT st = nI st.2.2.2.length := by simp [gR, h1]
    rw [e] at kk
    refine ⟨hin, hin, hin, hin, hin, kk _ _ _ _ _ _ ?_⟩
    simp only [cU, gAdd, if_pos h1, psS]
    exact ⟨by simp, by simp; omega, cRep_snoc (k, st.1, p, s, -1) a3, trivial, trivial, trivial, a7⟩
  · have e : gR nT st = -1 := by simp [gR, h1]
    rw [e] at kk
    refine kk _ _ _ _ _ _ ?_
    simp only [cU, gAdd, if_neg h1, psS]
    exact ⟨trivial, a2, a3, trivial, trivial, trivial, a7⟩
theorem u_wrap {so : FN} {W nT : Nat} (hT : nT < 2 ^ 30) {st : pPS} {b fw : Nat} {k : Int32} {cn : Int32} {K F Pa Sg Dp : FN} {at_ sr dp : Int32} {K_ : KT} (hb : b < 2 ^ 31) (h : cU so W nT st cn K F Pa Sg Dp at_ sr dp)
    (kk : ∀ cn' K' F' Pa' Sg' Dp', cU so W nT (gWrap nT b k fw st) cn' K' F' Pa' Sg' Dp' at_ sr dp → K_ cn' K' F' Pa' Sg' Dp') : vc_T_wrap nT cn K F Pa Sg Dp (nI b) k (nI fw) K_ := by
  have hh := h
  obtain ⟨rfl, a2, a3, rfl, rfl, rfl, a7⟩ := h
  by_cases h1 : b < st.2.2.2.length
  · by_cases h2 : st.2.2.2.length < nT
    · refine wrap_raw hT h1 h2 (kk _ _ _ _ _ _ ?_)
      simp only [cU, gWrap, if_pos (And.intro h1 h2), psS]
      generalize hN : st.2.2.2 = N at *
      obtain ⟨A, a, T, hA, rfl⟩ : ∃ A a T, N = A ++ a :: T ∧ A.length = b := by
        refine ⟨N.take b, N[b], N.drop (b + 1), ?_, by simp; omega⟩
        rw [List.getElem_cons_drop, List.take_append_drop]
      subst hA
      rw [wrapL_eq]
      have := cRep_wrap (k := k) (fw := fw) a3
      rw [show A.length + 1 + T.length = (A ++ a :: T).length from by simp; omega] at this
      exact ⟨by simp; congr 1, by simp at h2 ⊢; omega, this, trivial, trivial, trivial, a7⟩
    · have k0 := kk _ _ _ _ _ _ (show cU so W nT (gWrap nT b k fw st) _ K F Pa Sg Dp _ _ _ from by unfold gWrap; rw [if_neg (fun h => h2 h.2)]; exact hh)
      unfold vc_T_wrap vc_T_holds
      exact ⟨fun h => absurd h (pu_lt0 hb), fun _ => ⟨fun h => absurd ((nI_leI (by omega) (by omega)).mp h) (by omega), fun _ => ⟨fun h => absurd h (by decide), fun _ => ⟨fun h => absurd ((nI_ltI (by omega) (by omega)).mp h) h2, fun _ => k0⟩⟩⟩⟩
  · have k0 := kk _ _ _ _ _ _ (show cU so W nT (gWrap nT b k fw st) _ K F Pa Sg Dp _ _ _ from by unfold gWrap; rw [if_neg (fun h => h1 h.1)]; exact hh)
    unfold vc_T_wrap vc_T_holds
    exact ⟨fun h => absurd h (pu_lt0 hb), fun _ => ⟨fun _ => ⟨fun _ => k0, fun h => absurd rfl h⟩, fun h => absurd ((nI_leI (by omega) (by omega)).mpr (by omega)) h⟩⟩
theorem u_turn {so : FN} {W nT : Nat} (hT : nT < 2 ^ 30) {st : pPS} {b : Nat} {k : Int32} {cn : Int32} {K F Pa Sg Dp : FN} {at_ sr dp : Int32} {K_ : FN → Prop} (hb : b < 2 ^ 31) (h : cU so W nT st cn K F Pa Sg Dp at_ sr dp)
    (kk : ∀ K', cU so W nT (gTurn b k st) cn K' F Pa Sg Dp at_ sr dp → K_ K') : vc_T_turn nT cn K (nI b) k K_ := by
  obtain ⟨rfl, a2, a3, rfl, rfl, rfl, a7⟩ := h
  unfold vc_T_turn vc_T_holds
  refine ⟨fun h => absurd h (pu_lt0 hb), fun _ => ⟨fun h1 => ⟨fun _ => ?_, fun h => absurd rfl h⟩, fun h1 => ⟨fun h => absurd h (by decide), fun _ => ?_⟩⟩⟩
  · rw [nI_leI (by omega) (by omega)] at h1
    refine kk _ ⟨by simp [gTurn, setK], by simp [gTurn, setK]; exact a2, fun i a ha => ?_, rfl, rfl, rfl, a7⟩
    have hi : i < st.2.2.2.length := by
      have := (List.getElem?_eq_some_iff.mp ha).1
      simpa [gTurn, setK] using this
    simp only [gTurn, setK, List.getElem?_modify] at ha
    have hbi : b ≠ i := by omega
    simp [hbi] at ha
    exact a3 i a ha
  · have h2 : b < st.2.2.2.length := by rw [nI_leI (by omega) (by omega)] at h1; omega
    refine ⟨pu_in (by omega) (by omega), ?_⟩
    rw [nI_clamp (by omega)]
    refine kk _ ⟨by simp [gTurn, setK], by simp [gTurn, setK]; exact a2, fun i a ha => ?_, rfl, rfl, rfl, a7⟩
    simp only [gTurn, setK, List.getElem?_modify] at ha
    obtain ⟨y, hy, rfl⟩ := Option.map_eq_some_iff.mp ha
    have := a3 i y hy
    by_cases hi : i = b
    · subst hi; simpa [upd] using this.2
    · simpa [upd, hi, Ne.symm hi] using this
theorem u_setD {so : FN} {W nT : Nat} (hT : nT < 2 ^ 30) {st : pPS} {b : Nat} {k : Int32} {cn : Int32} {K F Pa Sg Dp : FN} {at_ sr dp : Int32} {K_ : FN → Prop} (hb : b < 2 ^ 31) (h : cU so W nT st cn K F Pa Sg Dp at_ sr dp)
    (kk : ∀ Dp', cU so W nT (gSetD b k st) cn K F Pa Sg Dp' at_ sr dp → K_ Dp') : vc_T_setDepth nT cn Dp (nI b) k K_ := by
  obtain ⟨rfl, a2, a3, rfl, rfl, rfl, a7⟩ := h
  unfold vc_T_setDepth vc_T_holds
  refine ⟨fun h => absurd h (pu_lt0 hb), fun _ => ⟨fun h1 => ⟨fun _ => ?_, fun h => absurd rfl h⟩, fun h1 => ⟨fun h => absurd h (by decide), fun _ => ?_⟩⟩⟩
  · rw [nI_leI (by omega) (by omega)] at h1
    refine kk _ ⟨by simp [gSetD, setD], by simp [gSetD, setD]; exact a2, fun i a ha => ?_, rfl, rfl, rfl, a7⟩
    have hi : i < st.2.2.2.length := by
      have := (List.getElem?_eq_some_iff.mp ha).1
      simpa [gSetD, setD] using this
    simp only [gSetD, setD, List.getElem?_modify] at ha
    have hbi : b ≠ i := by omega
    simp [hbi] at ha
    exact a3 i a ha
  · have h2 : b < st.2.2.2.length := by rw [nI_leI (by omega) (by omega)] at h1; omega
    refine ⟨pu_in (by omega) (by omega), ?_⟩
    rw [nI_clamp (by omega)]
    refine kk _ ⟨by simp [gSetD, setD], by simp [gSetD, setD]; exact a2, fun i a ha => ?_, rfl, rfl, rfl, a7⟩
    simp only [gSetD, setD, List.getElem?_modify] at ha
    obtain ⟨y, hy, rfl⟩ := Option.map_eq_some_iff.mp ha
    have := a3 i y hy
    by_cases hi : i = b
    · subst hi; simpa [upd] using And.intro this.1 (And.intro this.2.1 (And.intro this.2.2.1 this.2.2.2.1))
    · simpa [upd, hi, Ne.symm hi] using this
