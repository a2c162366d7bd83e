theorem ps_g (so : FN) (j : Nat) (d : Int32) (N : List pNd) : psS so (j, false, d, N) = so j := rfl
theorem ps_f (so : FN) (j : Nat) (d : Int32) (N : List pNd) : psS so (j, true, d, N) = 0 := rfl
def ff (f : pPS → pPS) : Prop := ∀ j d N, ∃ d' N', f (j, true, d, N) = (j, true, d', N')
theorem ff_c {f g : pPS → pPS} (h1 : ff f) (h2 : ff g) : ff (fun st => g (f st)) := fun j d N => by
  obtain ⟨d1, N1, e1⟩ := h1 j d N
  show ∃ d' N', g (f (j, true, d, N)) = _
  rw [e1]
  exact h2 j d1 N1
theorem ff_id : ff (fun st => st) := fun _ d N => ⟨d, N, rfl⟩
theorem ff_take {so : FN} {x : Int32} (hx : x ≠ 0) : ff (gTake so x) := fun j d N => ⟨d, N, by unfold gTake; rw [ps_f, if_neg (fun e => hx e.symm)]⟩
theorem ff_open {so : FN} {x : Int32} (hx : x ≠ 0) : ff (gOpen so x) := fun j d N => ⟨d, N, by unfold gOpen; rw [ps_f, if_neg (fun e => hx e.1.symm)]⟩
theorem ff_dec : ff gDec := fun _ d N => ⟨d - 1, N, rfl⟩
theorem ff_close {so : FN} {x : Int32} (hx : x ≠ 0) : ff (gClose so x) := ff_c (f := gTake so x) (g := gDec) (ff_take hx) ff_dec
theorem ff_bad : ff gBad := fun _ d N => ⟨d, N, rfl⟩
theorem ff_add {nT : Nat} {k p s : Int32} : ff (gAdd nT k p s) := fun _ d _ => ⟨d, _, rfl⟩
theorem ff_setD {b : Nat} {k : pPS → Int32} : ff (fun st => gSetD b (k st) st) := fun _ d _ => ⟨d, _, rfl⟩
theorem ff_number {so : FN} {nT : Nat} {p s : Int32} : ff (gNumber so nT p s) := ff_c (f := gAdd nT 16 p s) (g := gTake so 4) ff_add (ff_take (by decide))
theorem ff_name {so : FN} {nT : Nat} {p s : Int32} : ff (gName so nT p s) := ff_c (f := gAdd nT 15 p s) (g := gTake so 3) ff_add (ff_take (by decide))
theorem ff_if {c : pPS → Prop} [∀ st, Decidable (c st)] {f g : pPS → pPS} (hc : ∀ j d N, ¬ c (j, true, d, N)) (h : ff g) : ff (fun st => if c st then f st else g st) := fun j d N => by
  show ∃ d' N', (if c (j, true, d, N) then _ else _) = _
  rw [if_neg (hc j d N)]
  exact h j d N
theorem ff_frac2 {so : FN} {nT : Nat} {r : Int32} : ff (gFrac2 so nT r) := ff_if (c := fun st => psS so st = 47) (fun j d N => by rw [ps_f]; decide) ff_id
theorem ff_fraction {so : FN} {nT : Nat} {p s : Int32} : ff (gFraction so nT p s) := fun j d N => by
  unfold gFraction
  rw [ps_f, if_neg (by decide)]
  exact ff_c (f := fun st => gNumber so nT (gR nT (j, true, d, N)) 0 (gAdd nT 9 p s st)) (g := gFrac2 so nT (gR nT (j, true, d, N))) (ff_c ff_add ff_number) ff_frac2 j d N
theorem ff_fracB {so : FN} {nT : Nat} {x p : Int32} (hx : x ≠ 0) : ff (gFracB so nT x p) := ff_if (c := fun st => psS so st = x) (fun j d N => by rw [ps_f]; exact fun e => hx e.symm) ff_id
abbrev ff3 (g : G3) : Prop := ∀ p s x, ff (g p s x)
theorem ff_whole {gS : G3} (hS : ff3 gS) {nT : Nat} {p s : Int32} : ff (gWhole gS nT p s) := fun j d N => ff_c (g := gS (gR nT (j, true, d, N)) 0 1) (ff_add (nT := nT) (k := 11) (p := p) (s := s)) (hS _ _ _) j d N
theorem ff_wholesL {gS : G3} {so : FN} {nT : Nat} {p s : Int32} : ∀ f, ff (gWholesL gS so nT p s f)
  | 0 => ff_id
  | f + 1 => ff_if (c := fun st => psS so st = 44) (fun j d N => by rw [ps_f]; decide) ff_id
theorem ff_wholes {gS : G3} (hS : ff3 gS) {so : FN} {W nT : Nat} {p s : Int32} : ff (gWholes gS so W nT p s) := ff_c (f := gWhole gS nT p s) (g := gWholesL gS so nT p s W) (ff_whole hS) (ff_wholesL W)
theorem ff_shape1 {gS : G3} (hS : ff3 gS) {so : FN} {W nT : Nat} {r : Int32} : ff (gShape1 gS so W nT r) := ff_c (f := fun a => if psS so a = 93 then a else gWholes gS so W nT r 0 a) (ff_if (c := fun st => psS so st = 93) (fun j d N => by rw [ps_f]; decide) (ff_wholes hS)) (ff_close (by decide))
theorem ff_shape {gS : G3} (hS : ff3 gS) {so : FN} {W nT : Nat} {p : Int32} : ff (gShape gS so W nT p) := fun j d N => ff_c (g := gShape1 gS so W nT (gR nT (j, true, d, N))) (ff_c (ff_add (nT := nT) (k := 10) (p := p) (s := 0)) (ff_open (so := so) (x := 91) (by decide))) (ff_shape1 hS) j d N
theorem ff_arg {gS : G3} (hS : ff3 gS) {so : FN} {W nT : Nat} {p : Int32} : ff (gArg gS so W nT p) := ff_if (c := fun st => psS so st = 91) (fun j d N => by rw [ps_f]; decide) (hS p 0 0)
theorem ff_argsL {gS : G3} (hS : ff3 gS) {so : FN} {W nT : Nat} {p : Int32} : ∀ f, ff (gArgsL gS so W nT p f)
  | 0 => ff_id
  | f + 1 => fun j d N => by
    obtain ⟨d1, N1, e1⟩ := ff_arg hS (so := so) (W := W) (nT := nT) (p := p) j d N
    unfold gArgsL
    rw [e1, ps_f, if_neg (by decide)]
    exact ⟨d1, N1, rfl⟩
theorem ff_call2 {gS : G3} {so : FN} {W nT : Nat} {p : Int32} : ff (gCall2 gS so W nT p) := ff_c (f := fun st => if psS so st = 59 then gWholes gS so W nT p 59 (gStep st) else st) (ff_if (c := fun st => psS so st = 59) (fun j d N => by rw [ps_f]; decide) ff_id) (ff_close (by decide))
theorem ff_call1 {gS : G3} (hS : ff3 gS) {so : FN} {W nT : Nat} {p : Int32} : ff (gCall1 gS so W nT p) := ff_c (f := fun st => if psS so st = 59 ∨ psS so st = 41 then st else gArgsL gS so W nT p W st) (ff_if (c := fun st => psS so st = 59 ∨ psS so st = 41) (fun j d N => by rw [ps_f]; decide) (ff_argsL hS W)) ff_call2
theorem ff_call {gS : G3} (hS : ff3 gS) {so : FN} {W nT b : Nat} : ff (gCall gS so W nT b) := ff_c (f := fun st => gSetD b (gOpen so 40 st).2.2.1 (gOpen so 40 st)) (fun j d N => by
  obtain ⟨d1, N1, e1⟩ := ff_open (so := so) (x := 40) (by decide) j d N
  show ∃ d' N', gSetD b (gOpen so 40 (j, true, d, N)).2.2.1 (gOpen so 40 (j, true, d, N)) = _
  rw [e1]
  exact ⟨_, _, rfl⟩) (ff_call1 hS)
theorem f_pieceB {gS gP : G3} {so : FN} {W nT : Nat} {p s x : Int32} : ff (gPiece gS gP so W nT p s x) := fun j d N => ⟨d, N, by rw [f_piece rfl]; rfl⟩
theorem ff_product {gS gP : G3} {so : FN} {W nT : Nat} {p s x : Int32} : ff (gProduct gS gP so W nT p s x) := fun j d N => by
  obtain ⟨d1, N1, e1⟩ := f_pieceB (gS := gS) (gP := gP) (so := so) (W := W) (nT := nT) (p := p) (s := s) (x := x) j d N
  unfold gProduct
  rw [e1]
  cases W with
  | zero => exact ⟨_, _, rfl⟩
  | succ w => unfold gProdL gJoin; rw [ps_f, if_neg (fun h => h.elim (by decide) (fun h => h.elim (by decide) (fun h => absurd h.1 (by decide))))]; exact ⟨_, _, rfl⟩
theorem ff_sum {gS gP : G3} {so : FN} {W nT : Nat} {p s x : Int32} : ff (gSum gS gP so W nT p s x) := fun j d N => by
  obtain ⟨d1, N1, e1⟩ := ff_product (gS := gS) (gP := gP) (so := so) (W := W) (nT := nT) (p := p) (s := s) (x := x) j d N
  unfold gSum
  rw [e1]
  cases W with
  | zero => exact ⟨_, _, rfl⟩
  | succ w => unfold gSumL; rw [ps_f, if_neg (by decide)]; exact ⟨_, _, rfl⟩
theorem ff_lv (so : FN) (W nT : Nat) : ∀ m, ff3 (gLv so W nT m).1 ∧ ff3 (gLv so W nT m).2
  | 0 => ⟨fun _ _ _ => ff_id, fun _ _ _ => ff_id⟩
  | m + 1 => ⟨fun _ _ _ => ff_sum, fun _ _ _ => f_pieceB⟩
theorem g_take {so : FN} {x : Int32} {j : Nat} {d : Int32} {N : List pNd} (h : so j = x) : gTake so x (j, false, d, N) = (j + 1, false, d, N) := by
  unfold gTake; rw [ps_g, if_pos h]
theorem g_takeN {so : FN} {x : Int32} {j : Nat} {d : Int32} {N : List pNd} (h : so j ≠ x) : gTake so x (j, false, d, N) = (j, true, d, N) := by
  unfold gTake; rw [ps_g, if_neg h]
theorem g_close {so : FN} {x : Int32} {j d : Nat} {N : List pNd} (h : so j = x) : gClose so x (j, false, nI (d + 1), N) = (j + 1, false, nI d, N) := by
  unfold gClose; rw [g_take h]; show (j + 1, false, nI (d + 1) - 1, N) = _; rw [pu_s1 (by omega)]; rfl
theorem g_closeN {so : FN} {x : Int32} {j : Nat} {d : Int32} {N : List pNd} (h : so j ≠ x) : gClose so x (j, false, d, N) = (j, true, d - 1, N) := by
  unfold gClose; rw [g_takeN h]; rfl
theorem g_open {so : FN} {x : Int32} {j d : Nat} {N : List pNd} (h : so j = x) (hd : d < 30) : gOpen so x (j, false, nI d, N) = (j + 1, false, nI (d + 1), N) := by
  have h2 : ¬ 30 ≤ nI d := by
    rw [show (30 : Int32) = nI 30 from rfl, nI_leI (by decide) (by omega)]; omega
  unfold gOpen
  rw [ps_g, if_pos ⟨h, h2⟩]
  show (j + 1, false, nI d + 1, N) = _
  rw [nI_1]
theorem g_openN {so : FN} {x : Int32} {j d : Nat} {N : List pNd} (hd : d ≤ 30) (h : ¬ (so j = x ∧ d < 30)) : gOpen so x (j, false, nI d, N) = (j, true, nI d, N) := by
  unfold gOpen
  rw [ps_g, if_neg]
  rintro ⟨h1, h2⟩
  have h2 : ¬ 30 ≤ nI d := h2
  rw [show (30 : Int32) = nI 30 from rfl, nI_leI (by decide) (by omega)] at h2
  exact h ⟨h1, by omega⟩
theorem g_add {nT : Nat} {k p s : Int32} {j : Nat} {f : Bool} {d : Int32} {N : List pNd} (h : N.length < nT) : gAdd nT k p s (j, f, d, N) = (j, f, d, N ++ [(k, j, p, s, -1)]) := by
  show (j, f, d, if N.length < nT then _ else _) = _
  rw [if_pos h]
theorem g_addE {nT : Nat} {k p s : Int32} {j : Nat} {f : Bool} {d : Int32} {N : List pNd} : ∃ N', gAdd nT k p s (j, f, d, N) = (j, f, d, N') := ⟨_, rfl⟩
theorem g_R {nT : Nat} {j : Nat} {f : Bool} {d : Int32} {N : List pNd} (h : N.length < nT) : gR nT (j, f, d, N) = nI N.length := by
  unfold gR; rw [if_pos h]
def gwR (W nR nR' : Nat) : Prop := (nR ≤ nR' ∧ (nR' - nR) % 4 = 0) ∧ (nR' = nR ∨ nR' ≤ 8 * W + 64)
def gwN (n nN nN' : Nat) : Prop := nN ≤ nN' ∧ (nN' = nN ∨ nN' ≤ 2 * n + 80)
theorem gwR_r (W nR : Nat) : gwR W nR nR := ⟨⟨Nat.le_refl _, by omega⟩, Or.inl rfl⟩
theorem gwN_r (n nN : Nat) : gwN n nN nN := ⟨Nat.le_refl _, Or.inl rfl⟩
theorem gwR_t {W a b c : Nat} (h1 : gwR W a b) (h2 : gwR W b c) : gwR W a c := by unfold gwR at *; omega
theorem gwN_t {n a b c : Nat} (h1 : gwN n a b) (h2 : gwN n b c) : gwN n a c := by unfold gwN at *; omega
theorem gwR_g {W nR m : Nat} (h0 : 1 ≤ nR ∧ nR % 4 = 0) (h1 : m ≤ nR) (h2 : m ≤ 4 * W + 32) : gwR W nR (grR nR m) ∧ m + 1 ≤ grR nR m := by
  unfold gwR grR
  split <;> omega
theorem gwN_g {n nN nd : Nat} (h2 : nd ≤ n) : gwN n nN (pgrN nN nd) := by
  unfold gwN pgrN
  split <;> omega
abbrev VR : Type := Nat → Nat → RS → Int32 → (Int32 → RS → Prop) → (RS → Prop) → Prop
def bud (nR nN nR' nN' mc ms : Nat) : Prop := nR' + 4 * nN' ≤ 4 * mc + nR + 4 * nN ∧ 24 * nR' + 2 * nN' ≤ ms + 24 * nR + 2 * nN
def rOk (t : FN) (n nTp : Nat) (so : FN) (W : Nat) (v : VR) (j d j' rn : Nat) (R : RT3) (e : Nat) : Prop := ∀ (Q : List pRw) (p : Int32) (nR nN nd : Nat), Q.length ≤ 4 * j + e → Q.length ≤ nR → 1 ≤ nR ∧ nR % 4 = 0 → nd ≤ sbN t n j → ∃ nR' nN' nd' : Nat, gwR W nR nR' ∧ gwN n nN nN' ∧ Q.length + rn ≤ nR' ∧ nd' ≤ sbN t n j' ∧
  ∀ zs K_ E_ mc ms, RP t n nTp so Q nR nN nd d j zs → bud nR nN nR' nN' mc ms → (∀ zs', RP t n nTp so (Q ++ R Q.length p 0) nR' nN' nd' d j' zs' → K_ (nI Q.length) zs') → v mc ms zs p K_ E_
def rFl (t : FN) (n nTp : Nat) (so : FN) (W : Nat) (v : VR) (j d j' : Nat) (e : Nat) : Prop := ∀ (Q : List pRw) (p : Int32) (nR nN nd : Nat), Q.length ≤ 4 * j + e → Q.length ≤ nR → 1 ≤ nR ∧ nR % 4 = 0 → nd ≤ sbN t n j → ∃ nR' nN' : Nat, gwR W nR nR' ∧ gwN n nN nN' ∧
  ∀ zs K_ E_ mc ms, RP t n nTp so Q nR nN nd d j zs → bud nR nN nR' nN' mc ms → (∀ zs', RF t n nTp so nR' nN' j' zs' → E_ zs') → v mc ms zs p K_ E_
abbrev GT : Type := Int32 → Int32 → pPS → pPS
def cOk (nT : Nat) (g : GT) (j d j' m : Nat) (L : LT3) : Prop := ∀ p s N, (∃ N', g p s (j, false, nI d, N) = (j', false, nI d, N')) ∧ (N.length + m ≤ nT → g p s (j, false, nI d, N) = (j', false, nI d, N ++ L N.length p s))
def cFl (g : GT) (j d j' : Nat) : Prop := ∀ p s N, ∃ d' N', g p s (j, false, nI d, N) = (j', true, d', N')
def JT (t : FN) (n nTp : Nat) (so : FN) (W nT : Nat) (g : GT) (v : VR) (j d e a : Nat) : Prop :=
  (∃ (j' m rn : Nat) (L : LT3) (R : RT3), j < j' ∧ j' < W ∧ m + j ≤ j' ∧ rn + a + 4 * j ≤ 4 * j' ∧ Tr W m rn L R ∧ cOk nT g j d j' m L ∧ rOk t n nTp so W v j d j' rn R e) ∨
  (∃ j', j ≤ j' ∧ j' < W ∧ cFl g j d j' ∧ rFl t n nTp so W v j d j' e)
