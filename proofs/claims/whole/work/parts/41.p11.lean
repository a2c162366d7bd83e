def numOf (nums : List Int32) (p : Int32) : Int32 := if p < 0 then -1 else nums.getD p.toNatClampNeg 0
def stk : List pRw → List Int32 → List pNd → Option Int32 → List Int32 × List pNd × Option Int32
  | [], nums, out, pend => (nums, out, pend)
  | a :: T, nums, out, pend =>
    if a.2.2.2.2.2.1 = 1 then stk T (nums ++ [numOf nums a.2.2.1]) out (some (pend.getD a.2.2.2.1))
    else stk T (nums ++ [nI out.length]) (out ++ [(a.1, a.2.1, numOf nums a.2.2.1, pend.getD a.2.2.2.1, a.2.2.2.2.1)]) none
theorem stk_app : ∀ A B nums out pend, stk (A ++ B) nums out pend = stk B (stk A nums out pend).1 (stk A nums out pend).2.1 (stk A nums out pend).2.2
  | [], B, nums, out, pend => rfl
  | a :: T, B, nums, out, pend => by
    by_cases h : a.2.2.2.2.2.1 = 1
    · have e : ∀ T', stk (a :: T') nums out pend = stk T' (nums ++ [numOf nums a.2.2.1]) out (some (pend.getD a.2.2.2.1)) := fun T' => by
        show (if _ then _ else _) = _
        rw [if_pos h]
      rw [List.cons_append, e, e]
      exact stk_app T B _ _ _
    · have e : ∀ T', stk (a :: T') nums out pend = stk T' (nums ++ [nI out.length]) (out ++ [(a.1, a.2.1, numOf nums a.2.2.1, pend.getD a.2.2.2.1, a.2.2.2.2.1)]) none := fun T' => by
        show (if _ then _ else _) = _
        rw [if_neg h]
      rw [List.cons_append, e, e]
      exact stk_app T B _ _ _
def acl (k : Int32) : Nat := if k = 15 ∨ k = 20 then 1 else if k = 14 then 2 else if k = 5 then 3 else if k = 16 then 4 else if k = 9 then 5 else 0
abbrev wOk (W fw ac : Nat) : Prop := fw < W ∧ (ac = 2 → fw + 2 < W) ∧ (ac = 3 → fw + 1 < W)
def acOk (W : Nat) (a : pRw) : Prop := a.2.2.2.2.2.2 = acl a.1 ∧ a.2.2.2.2.2.1 < 2 ^ 31 ∧ wOk W a.2.1 a.2.2.2.2.2.2
def pOkN (l : Nat) (p : Int32) : Prop := p = -1 ∨ ∃ q : Nat, q < l ∧ q < 2 ^ 31 ∧ p = nI q
def pAl (b : Nat) (T : List pRw) : Prop := ∀ i a, T[i]? = some a → pOkN (b + i) a.2.2.1
abbrev LT3 : Type := Nat → Int32 → Int32 → List pNd
abbrev RT3 : Type := Nat → Int32 → Int32 → List pRw
abbrev LF2 : Type := Nat → Int32 → List pNd
abbrev RF2 : Type := Nat → Int32 → List pRw
def pOk (nums : List Int32) (p : Int32) : Prop := p = -1 ∨ ∃ q : Nat, q < nums.length ∧ q < 2 ^ 31 ∧ p = nI q
theorem numOf_app {nums X : List Int32} {p : Int32} (h : pOk nums p) : numOf (nums ++ X) p = numOf nums p := by
  unfold numOf
  rcases h with rfl | ⟨q, h1, h2, rfl⟩
  · rw [if_pos (by decide), if_pos (by decide)]
  · rw [if_neg (pu_lt0 h2), if_neg (pu_lt0 h2), nI_clamp h2]
    simp only [List.getD_eq_getElem?_getD]
    rw [List.getElem?_append_left h1]
theorem pOk_app {nums X : List Int32} {p : Int32} (h : pOk nums p) : pOk (nums ++ X) p := by
  rcases h with rfl | ⟨q, h1, h2, rfl⟩
  · exact Or.inl rfl
  · exact Or.inr ⟨q, by simp; omega, h2, rfl⟩
theorem numOf_last {nums : List Int32} {x : Int32} (h : nums.length < 2 ^ 31) : numOf (nums ++ [x]) (nI nums.length) = x := by
  unfold numOf
  rw [if_neg (pu_lt0 h), nI_clamp h]
  simp
theorem pOk_last {nums : List Int32} {x : Int32} (h : nums.length < 2 ^ 31) : pOk (nums ++ [x]) (nI nums.length) := Or.inr ⟨nums.length, by simp, h, rfl⟩
def Tr (W n rn : Nat) (L : LT3) (R : RT3) : Prop :=
  (∃ (k : Int32) (fw : Nat) (de : Int32) (tl : Nat → List pNd), (∀ b p s, L b p s = (k, fw, p, s, de) :: tl b) ∧ (∀ b, (tl b).length + 1 = n) ∧ (∀ b, tl (b + 1) = (tl b).map nsh)) ∧
  (∃ (k : Int32) (fw : Nat) (de : Int32) (pc ac : Nat) (tl : Nat → List pRw), (∀ b p s, R b p s = (k, fw, p, s, de, pc, ac) :: tl b) ∧ (∀ b, (tl b).length + 1 = rn)) ∧
  (∀ b p s, (∀ a, a ∈ R b p s → acOk W a) ∧ (b + rn < 2 ^ 31 → pOkN b p → pAl b (R b p s))) ∧
  (∀ nums out pend p s, nums.length + rn < 2 ^ 31 → ∃ X : List Int32, X.length = rn ∧ stk (R nums.length p s) nums out pend = (nums ++ X, out ++ L out.length (numOf nums p) (pend.getD s), none))
def Fo (W n rn : Nat) (L : LF2) (R : RF2) : Prop :=
  (∀ b p, (L b p).length = n) ∧ (∀ b p, (R b p).length = rn) ∧ (∀ b p, L (b + 1) (p + 1) = (L b p).map nsh) ∧ (∀ b p, (∀ a, a ∈ R b p → acOk W a) ∧ (b + rn < 2 ^ 31 → pOkN b p → pAl b (R b p))) ∧
  (∀ nums out p, pOk nums p → nums.length + rn < 2 ^ 31 → ∃ X : List Int32, X.length = rn ∧ stk (R nums.length p) nums out none = (nums ++ X, out ++ L out.length (numOf nums p), none))
theorem pOkN_le {a b : Nat} {p : Int32} (h : pOkN a p) (hab : a ≤ b) : pOkN b p := by
  rcases h with h | ⟨q, h1, h2, h3⟩
  · exact Or.inl h
  · exact Or.inr ⟨q, by omega, h2, h3⟩
theorem pAl_nil (b : Nat) : pAl b [] := fun i a h => by simp at h
theorem pAl_cons {b : Nat} {a : pRw} {T : List pRw} (h1 : pOkN b a.2.2.1) (h2 : pAl (b + 1) T) : pAl b (a :: T) := fun i c h => by
  cases i with
  | zero => simp at h; subst h; exact h1
  | succ i =>
    rw [List.getElem?_cons_succ] at h
    have := h2 i c h
    rw [show b + 1 + i = b + (i + 1) from by omega] at this
    exact this
theorem pAl_app {b : Nat} {A B : List pRw} (h1 : pAl b A) (h2 : pAl (b + A.length) B) : pAl b (A ++ B) := fun i c h => by
  by_cases hi : i < A.length
  · rw [List.getElem?_append_left hi] at h
    exact h1 i c h
  · rw [List.getElem?_append_right (by omega)] at h
    have := h2 (i - A.length) c h
    rw [show b + A.length + (i - A.length) = b + i from by omega] at this
    exact this
theorem Tr_len {W n rn : Nat} {L : LT3} {R : RT3} (h : Tr W n rn L R) : (∀ b p s, (L b p s).length = n) ∧ (∀ b p s, (R b p s).length = rn) := by
  obtain ⟨⟨k, fw, de, tl, h1, h2, h3⟩, ⟨k', fw', de', pc, ac, tl', g1, g2⟩, _⟩ := h
  exact ⟨fun b p s => by rw [h1]; exact h2 b, fun b p s => by rw [g1]; exact g2 b⟩
theorem Fo_nil {W : Nat} : Fo W 0 0 (fun _ _ => []) (fun _ _ => []) := by
  refine ⟨fun _ _ => rfl, fun _ _ => rfl, fun _ _ => rfl, fun b _ => ⟨fun a h => by simp at h, fun _ _ => pAl_nil b⟩, fun nums out p _ _ => ⟨[], rfl, ?_⟩⟩
  simp [stk]
theorem Fo_tree {W n rn : Nat} {L : LT3} {R : RT3} (h : Tr W n rn L R) (s : Int32) : Fo W n rn (fun b p => L b p s) (fun b p => R b p s) := by
  have hl := Tr_len h
  obtain ⟨⟨k, fw, de, tl, h1, h2, h3⟩, _, hac, hst⟩ := h
  refine ⟨fun b p => hl.1 b p s, fun b p => hl.2 b p s, fun b p => ?_, fun b p => hac b p s, fun nums out p _ hn => hst nums out none p s hn⟩
  show L (b + 1) (p + 1) s = (L b p s).map nsh
  rw [h1, h1, h3]
  rfl
theorem Fo_app {W n1 r1 n2 r2 : Nat} {L1 L2 : LF2} {R1 R2 : RF2} (h1 : Fo W n1 r1 L1 R1) (h2 : Fo W n2 r2 L2 R2) : Fo W (n1 + n2) (r1 + r2) (fun b p => L1 b p ++ L2 (b + n1) p) (fun b p => R1 b p ++ R2 (b + r1) p) := by
  obtain ⟨a1, a2, a3, a4, a5⟩ := h1
  obtain ⟨b1, b2, b3, b4, b5⟩ := h2
  refine ⟨fun b p => by rw [List.length_append, a1, b1], fun b p => by rw [List.length_append, a2, b2], fun b p => ?_, fun b p => ⟨fun a ha => ?_, fun hb hp => pAl_app ((a4 _ _).2 (by omega) hp) (by rw [a2]; exact (b4 _ _).2 (by omega) (pOkN_le hp (by omega)))⟩, fun nums out p hp hn => ?_⟩
  · show L1 (b + 1) (p + 1) ++ L2 (b + 1 + n1) (p + 1) = (L1 b p ++ L2 (b + n1) p).map nsh
    rw [List.map_append, ← a3, ← b3, show b + 1 + n1 = b + n1 + 1 from by omega]
  · rcases List.mem_append.mp ha with q | q
    · exact (a4 _ _).1 _ q
    · exact (b4 _ _).1 _ q
  · obtain ⟨X, x1, x2⟩ := a5 nums out p hp (by omega)
    obtain ⟨Y, y1, y2⟩ := b5 (nums ++ X) (out ++ L1 out.length (numOf nums p)) p (pOk_app hp) (by rw [List.length_append]; omega)
    refine ⟨X ++ Y, by rw [List.length_append]; omega, ?_⟩
    show stk (R1 nums.length p ++ R2 (nums.length + r1) p) nums out none = _
    rw [stk_app, x2]
    show stk (R2 (nums.length + r1) p) (nums ++ X) (out ++ L1 out.length (numOf nums p)) none = _
    rw [show nums.length + r1 = (nums ++ X).length from by rw [List.length_append, x1], y2, numOf_app hp, List.length_append, a1]
    simp only [List.append_assoc]
theorem Tr_node {W n rn : Nat} {L : LF2} {R : RF2} (h : Fo W n rn L R) (k : Int32) (fw : Nat) (de : Int32) (pc ac : Nat) (hpc : pc ≠ 1 ∧ pc < 2 ^ 31) (hac : ac = acl k) (hw : wOk W fw ac) : Tr W (n + 1) (rn + 1) (fun b p s => (k, fw, p, s, de) :: L (b + 1) (nI b)) (fun b p s => (k, fw, p, s, de, pc, ac) :: R (b + 1) (nI b)) := by
  obtain ⟨a1, a2, a3, a4, a5⟩ := h
  refine ⟨⟨k, fw, de, fun b => L (b + 1) (nI b), fun _ _ _ => rfl, fun b => by rw [a1], fun b => ?_⟩, ⟨k, fw, de, pc, ac, fun b => R (b + 1) (nI b), fun _ _ _ => rfl, fun b => by rw [a2]⟩, fun b p s => ⟨fun a ha => ?_, fun hb hp => pAl_cons hp ((a4 _ _).2 (by omega) (Or.inr ⟨b, by omega, by omega, rfl⟩))⟩, fun nums out pend p s hn => ?_⟩
  · show L (b + 1 + 1) (nI (b + 1)) = _
    rw [← nI_1 b, a3]
  · rcases List.mem_cons.mp ha with q | q
    · rw [q]; exact ⟨hac, hpc.2, hw⟩
    · exact (a4 _ _).1 _ q
  · obtain ⟨X, x1, x2⟩ := a5 (nums ++ [nI out.length]) (out ++ [(k, fw, numOf nums p, pend.getD s, de)]) (nI nums.length) (pOk_last (by omega)) (by simp; omega)
    refine ⟨nI out.length :: X, by simp [x1], ?_⟩
    show stk ((k, fw, p, s, de, pc, ac) :: R (nums.length + 1) (nI nums.length)) nums out pend = _
    unfold stk
    rw [if_neg hpc.1]
    rw [show (nums ++ [nI out.length]).length = nums.length + 1 from by simp, numOf_last (by omega), show (out ++ [(k, fw, numOf nums p, pend.getD s, de)]).length = out.length + 1 from by simp] at x2
    rw [x2]
    simp only [List.append_assoc, List.cons_append, List.nil_append]
theorem Tr_row1 {W n rn : Nat} {L : LT3} {R : RT3} (h : Tr W n rn L R) (k : Int32) (fw : Nat) (de : Int32) (hac : 0 = acl k) (hw : wOk W fw 0) : Tr W n (rn + 1) L (fun b p s => (k, fw, p, s, de, 1, 0) :: R (b + 1) (nI b) 0) := by
  have hl := Tr_len h
  obtain ⟨hL, ⟨k', fw', de', pc, ac, tl', g1, g2⟩, h3, h4⟩ := h
  refine ⟨hL, ⟨k, fw, de, 1, 0, fun b => R (b + 1) (nI b) 0, fun _ _ _ => rfl, fun b => by rw [hl.2]⟩, fun b p s => ⟨fun a ha => ?_, fun hb hp => pAl_cons hp ((h3 _ _ _).2 (by omega) (Or.inr ⟨b, by omega, by omega, rfl⟩))⟩, fun nums out pend p s hn => ?_⟩
  · rcases List.mem_cons.mp ha with q | q
    · rw [q]; exact ⟨hac, show (1 : Nat) < 2 ^ 31 by decide, hw⟩
    · exact (h3 _ _ _).1 _ q
  · obtain ⟨X, x1, x2⟩ := h4 (nums ++ [numOf nums p]) out (some (pend.getD s)) (nI nums.length) 0 (by simp; omega)
    refine ⟨numOf nums p :: X, by simp [x1], ?_⟩
    show stk ((k, fw, p, s, de, 1, 0) :: R (nums.length + 1) (nI nums.length) 0) nums out pend = _
    unfold stk
    rw [if_pos rfl]
    rw [show (nums ++ [numOf nums p]).length = nums.length + 1 from by simp, numOf_last (by omega)] at x2
    show stk (R (nums.length + 1) (nI nums.length) 0) (nums ++ [numOf nums p]) out (some (pend.getD s)) = _
    rw [x2]
    simp only [List.append_assoc, List.cons_append, List.nil_append, Option.getD_some]
theorem Tr_leaf {W : Nat} (k : Int32) (fw : Nat) (de : Int32) (ac : Nat) (hac : ac = acl k) (hw : wOk W fw ac) : Tr W 1 1 (fun _ p s => [(k, fw, p, s, de)]) (fun _ p s => [(k, fw, p, s, de, 0, ac)]) := Tr_node Fo_nil k fw de 0 ac (by decide) hac hw
