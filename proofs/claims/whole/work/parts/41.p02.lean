abbrev G3 : Type := Int32 → Int32 → Int32 → pPS → pPS
def gNumber (so : FN) (nT : Nat) (p s : Int32) (st : pPS) : pPS := gTake so 4 (gAdd nT 16 p s st)
def gName (so : FN) (nT : Nat) (p s : Int32) (st : pPS) : pPS := gTake so 3 (gAdd nT 15 p s st)
def gNamesL (so : FN) (nT : Nat) (p s : Int32) : Nat → pPS → pPS
  | 0, st => st
  | f + 1, st => if psS so st = 44 then gNamesL so nT p s f (gName so nT p s (gStep st)) else st
def gNames (so : FN) (W nT : Nat) (p s : Int32) (st : pPS) : pPS := gNamesL so nT p s W (gName so nT p s st)
def gFrac2 (so : FN) (nT : Nat) (r : Int32) (st : pPS) : pPS := if psS so st = 47 then gNumber so nT r 0 (gStep st) else st
def gFraction (so : FN) (nT : Nat) (p s : Int32) (st : pPS) : pPS :=
  gFrac2 so nT (gR nT st) (gNumber so nT (gR nT st) 0 (if psS so st = 45 then gStep (gAdd nT 9 p s st) else gAdd nT 9 p s st))
def gFracB (so : FN) (nT : Nat) (x p : Int32) (st : pPS) : pPS := if psS so st = x then gFraction so nT p 0 (gStep st) else st
def gWhole (gS : G3) (nT : Nat) (p s : Int32) (st : pPS) : pPS := gS (gR nT st) 0 1 (gAdd nT 11 p s st)
def gWholesL (gS : G3) (so : FN) (nT : Nat) (p s : Int32) : Nat → pPS → pPS
  | 0, st => st
  | f + 1, st => if psS so st = 44 then gWholesL gS so nT p s f (gWhole gS nT p s (gStep st)) else st
def gWholes (gS : G3) (so : FN) (W nT : Nat) (p s : Int32) (st : pPS) : pPS := gWholesL gS so nT p s W (gWhole gS nT p s st)
def gShape1 (gS : G3) (so : FN) (W nT : Nat) (r : Int32) (a : pPS) : pPS := gClose so 93 (if psS so a = 93 then a else gWholes gS so W nT r 0 a)
def gShape (gS : G3) (so : FN) (W nT : Nat) (p : Int32) (st : pPS) : pPS := gShape1 gS so W nT (gR nT st) (gOpen so 91 (gAdd nT 10 p 0 st))
def gArg (gS : G3) (so : FN) (W nT : Nat) (p : Int32) (st : pPS) : pPS := if psS so st = 91 then gShape gS so W nT p st else gS p 0 0 st
def gArgsL (gS : G3) (so : FN) (W nT : Nat) (p : Int32) : Nat → pPS → pPS
  | 0, st => st
  | f + 1, st => if psS so (gArg gS so W nT p st) = 44 then gArgsL gS so W nT p f (gStep (gArg gS so W nT p st)) else gArg gS so W nT p st
def gCall2 (gS : G3) (so : FN) (W nT : Nat) (p : Int32) (st : pPS) : pPS := gClose so 41 (if psS so st = 59 then gWholes gS so W nT p 59 (gStep st) else st)
def gCall1 (gS : G3) (so : FN) (W nT : Nat) (p : Int32) (st : pPS) : pPS := gCall2 gS so W nT p (if psS so st = 59 ∨ psS so st = 41 then st else gArgsL gS so W nT p W st)
def gCall (gS : G3) (so : FN) (W nT b : Nat) (st : pPS) : pPS := gCall1 gS so W nT (nI b) (gSetD b (gOpen so 40 st).2.2.1 (gOpen so 40 st))
def gMore (gS : G3) (so : FN) (W nT b : Nat) (x : Int32) (a : pPS) : pPS :=
  if psS so a = 46 ∧ x ≠ 0 then gTake so 4 (gStep (gTurn b 14 a)) else if psS so a = 40 ∧ x = 0 then gCall gS so W nT b (gTurn b 20 a) else a
def gNameMore (gS : G3) (so : FN) (W nT : Nat) (p s x : Int32) (st : pPS) : pPS := gMore gS so W nT (gN st) x (gName so nT p s st)
def gNegative (gP : G3) (so : FN) (nT : Nat) (p s : Int32) (st : pPS) : pPS := gDec (gP (gR nT st) 0 0 (gOpen so 45 (gAdd nT 19 p s st)))
def gPiece (gS gP : G3) (so : FN) (W nT : Nat) (p s x : Int32) (st : pPS) : pPS :=
  if psS so st = 4 then gNumber so nT p s st else if psS so st = 3 then gNameMore gS so W nT p s x st
  else if psS so st = 40 then gClose so 41 (gS p s x (gOpen so 40 st)) else if psS so st = 45 ∧ x = 0 then gNegative gP so nT p s st else gBad st
abbrev gJoin (so : FN) (x : Int32) (st : pPS) : Prop := psS so st = 42 ∨ psS so st = 47 ∨ (psS so st = 64 ∧ x = 0)
def gProd1 (gS gP : G3) (so : FN) (W nT b : Nat) (c x : Int32) (t : pPS) : pPS := if c = 47 ∧ x = 0 then gNumber so nT (nI b) c t else gPiece gS gP so W nT (nI b) c x t
def gProdL (gS gP : G3) (so : FN) (W nT b fw : Nat) (x : Int32) : Nat → Bool → pPS → pPS
  | 0, _, st => st
  | f + 1, fi, st => if gJoin so x st then gProdL gS gP so W nT b fw x f false (gProd1 gS gP so W nT b (psS so st) x (gStep (if fi then gWrap nT b (if x = 0 then 18 else 13) fw st else st))) else st
def gProduct (gS gP : G3) (so : FN) (W nT : Nat) (p s x : Int32) (st : pPS) : pPS := gProdL gS gP so W nT (gN st) st.1 x W true (gPiece gS gP so W nT p s x st)
def gSumL (gS gP : G3) (so : FN) (W nT b fw : Nat) (x : Int32) : Nat → Bool → pPS → pPS
  | 0, _, st => st
  | f + 1, fi, st => if psS so st = 43 ∨ psS so st = 45 then gSumL gS gP so W nT b fw x f false (gProduct gS gP so W nT (nI b) (psS so st) x (gStep (if fi then gWrap nT b (if x = 0 then 17 else 12) fw st else st))) else st
def gSum (gS gP : G3) (so : FN) (W nT : Nat) (p s x : Int32) (st : pPS) : pPS := gSumL gS gP so W nT (gN st) st.1 x W true (gProduct gS gP so W nT p s x st)
def gLv (so : FN) (W nT : Nat) : Nat → G3 × G3
  | 0 => (fun _ _ _ st => st, fun _ _ _ st => st)
  | n + 1 => (gSum (gLv so W nT n).1 (gLv so W nT n).2 so W nT, gPiece (gLv so W nT n).1 (gLv so W nT n).2 so W nT)
def dk (e : Int32) (st st' : pPS) : Prop := st'.2.1 = false → st.2.1 = false ∧ st'.2.2.1 = st.2.2.1 + e
theorem dk_rfl {st : pPS} : dk 0 st st := fun h => ⟨h, (Int32.add_zero _).symm⟩
theorem dk_tr {e f g : Int32} {a b c : pPS} (hg : e + f = g) (h1 : dk e a b) (h2 : dk f b c) : dk g a c := fun h => by
  obtain ⟨x1, x2⟩ := h2 h
  obtain ⟨y1, y2⟩ := h1 x1
  exact ⟨y1, by rw [x2, y2, Int32.add_assoc, hg]⟩
theorem dk_t {a b c : pPS} (h1 : dk 0 a b) (h2 : dk 0 b c) : dk 0 a c := dk_tr (by decide) h1 h2
theorem dk_step {st : pPS} : dk 0 st (gStep st) := fun h => ⟨h, (Int32.add_zero _).symm⟩
theorem dk_bad {st : pPS} : dk 0 st (gBad st) := fun h => by simp [gBad] at h
theorem dk_take {so : FN} {x : Int32} {st : pPS} : dk 0 st (gTake so x st) := by
  unfold gTake
  split
  · exact dk_step
  · exact dk_bad
theorem dk_open {so : FN} {x : Int32} {st : pPS} : dk 1 st (gOpen so x st) := by
  unfold gOpen
  split
  · exact fun h => ⟨h, rfl⟩
  · exact fun h => by simp at h
theorem dk_dec {st : pPS} : dk (-1) st (gDec st) := fun h => ⟨h, Int32.sub_eq_add_neg ..⟩
theorem dk_close {so : FN} {x : Int32} {st : pPS} : dk (-1) st (gClose so x st) := dk_tr (e := 0) (by decide) dk_take dk_dec
theorem dk_add {nT : Nat} {k p s : Int32} {st : pPS} : dk 0 st (gAdd nT k p s st) := fun h => ⟨h, (Int32.add_zero _).symm⟩
theorem dk_wrap {nT b : Nat} {k : Int32} {fw : Nat} {st : pPS} : dk 0 st (gWrap nT b k fw st) := fun h => ⟨h, (Int32.add_zero _).symm⟩
theorem dk_turn {b : Nat} {k : Int32} {st : pPS} : dk 0 st (gTurn b k st) := fun h => ⟨h, (Int32.add_zero _).symm⟩
theorem dk_setD {b : Nat} {k : Int32} {st : pPS} : dk 0 st (gSetD b k st) := fun h => ⟨h, (Int32.add_zero _).symm⟩
theorem dk_number {so : FN} {nT : Nat} {p s : Int32} {st : pPS} : dk 0 st (gNumber so nT p s st) := dk_t (dk_add) (dk_take)
theorem dk_name {so : FN} {nT : Nat} {p s : Int32} {st : pPS} : dk 0 st (gName so nT p s st) := dk_t (dk_add) (dk_take)
theorem dk_ite {c : Prop} [Decidable c] {e : Int32} {st a b : pPS} (h1 : dk e st a) (h2 : dk e st b) : dk e st (if c then a else b) := by
  split
  · exact h1
  · exact h2
theorem dk_fraction {so : FN} {nT : Nat} {p s : Int32} {st : pPS} : dk 0 st (gFraction so nT p s st) := by
  refine dk_t (dk_t ?_ dk_number) (dk_ite (dk_t dk_step (dk_number)) dk_rfl)
  exact dk_ite (dk_t (dk_add) dk_step) (dk_add)
abbrev dk3 (g : G3) : Prop := ∀ p s x st, dk 0 st (g p s x st)
theorem dk_whole {gS : G3} (hS : dk3 gS) {nT : Nat} {p s : Int32} {st : pPS} : dk 0 st (gWhole gS nT p s st) := dk_t (dk_add) (hS _ _ _ _)
theorem dk_wholesL {gS : G3} (hS : dk3 gS) {so : FN} {nT : Nat} {p s : Int32} : ∀ f st, dk 0 st (gWholesL gS so nT p s f st)
  | 0, st => dk_rfl
  | f + 1, st => dk_ite (dk_t (dk_t dk_step (dk_whole hS)) (dk_wholesL hS f _)) dk_rfl
theorem dk_wholes {gS : G3} (hS : dk3 gS) {so : FN} {W nT : Nat} {p s : Int32} {st : pPS} : dk 0 st (gWholes gS so W nT p s st) := dk_t (dk_whole hS) (dk_wholesL hS _ _)
theorem dk_shape1 {gS : G3} (hS : dk3 gS) {so : FN} {W nT : Nat} {r : Int32} {st : pPS} : dk (-1) st (gShape1 gS so W nT r st) := dk_tr (e := 0) (by decide) (dk_ite dk_rfl (dk_wholes hS)) (dk_close)
theorem dk_shape {gS : G3} (hS : dk3 gS) {so : FN} {W nT : Nat} {p : Int32} {st : pPS} : dk 0 st (gShape gS so W nT p st) := dk_tr (e := 1) (f := -1) (by decide) (dk_tr (e := 0) (by decide) (dk_add) (dk_open)) (dk_shape1 hS)
theorem dk_arg {gS : G3} (hS : dk3 gS) {so : FN} {W nT : Nat} {p : Int32} {st : pPS} : dk 0 st (gArg gS so W nT p st) := dk_ite (dk_shape hS) (hS _ _ _ _)
theorem dk_argsL {gS : G3} (hS : dk3 gS) {so : FN} {W nT : Nat} {p : Int32} : ∀ f st, dk 0 st (gArgsL gS so W nT p f st)
  | 0, st => dk_rfl
  | f + 1, st => dk_ite (dk_t (dk_t (dk_arg hS) dk_step) (dk_argsL hS f _)) (dk_arg hS)
theorem dk_call1 {gS : G3} (hS : dk3 gS) {so : FN} {W nT : Nat} {p : Int32} {st : pPS} : dk (-1) st (gCall1 gS so W nT p st) :=
  dk_tr (e := 0) (f := -1) (by decide) (dk_ite dk_rfl (dk_argsL hS _ _)) (dk_tr (e := 0) (f := -1) (by decide) (dk_ite (dk_t dk_step (dk_wholes hS)) dk_rfl) (dk_close))
theorem dk_call {gS : G3} (hS : dk3 gS) {so : FN} {W nT b : Nat} {st : pPS} : dk 0 st (gCall gS so W nT b st) := dk_tr (e := 1) (f := -1) (by decide) (dk_tr (e := 1) (f := 0) (by decide) (dk_open) (dk_setD)) (dk_call1 hS)
theorem dk_more {gS : G3} (hS : dk3 gS) {so : FN} {W nT b : Nat} {x : Int32} {st : pPS} : dk 0 st (gMore gS so W nT b x st) :=
  dk_ite (dk_t (dk_t (dk_turn) dk_step) (dk_take)) (dk_ite (dk_t (dk_turn) (dk_call hS)) dk_rfl)
theorem dk_nameMore {gS : G3} (hS : dk3 gS) {so : FN} {W nT : Nat} {p s x : Int32} {st : pPS} : dk 0 st (gNameMore gS so W nT p s x st) := dk_t (dk_name) (dk_more hS)
theorem dk_negative {gP : G3} (hP : dk3 gP) {so : FN} {nT : Nat} {p s : Int32} {st : pPS} : dk 0 st (gNegative gP so nT p s st) := dk_tr (e := 1) (f := -1) (by decide) (dk_tr (e := 1) (f := 0) (by decide) (dk_tr (e := 0) (by decide) (dk_add) (dk_open)) (hP _ _ _ _)) dk_dec
theorem dk_piece {gS gP : G3} (hS : dk3 gS) (hP : dk3 gP) {so : FN} {W nT : Nat} {p s x : Int32} {st : pPS} : dk 0 st (gPiece gS gP so W nT p s x st) :=
  dk_ite (dk_number) (dk_ite (dk_nameMore hS) (dk_ite (dk_tr (e := 1) (f := -1) (by decide) (dk_tr (e := 1) (f := 0) (by decide) (dk_open) (hS _ _ _ _)) (dk_close)) (dk_ite (dk_negative hP) dk_bad)))
theorem dk_prod1 {gS gP : G3} (hS : dk3 gS) (hP : dk3 gP) {so : FN} {W nT b : Nat} {c x : Int32} {st : pPS} : dk 0 st (gProd1 gS gP so W nT b c x st) := dk_ite (dk_number) (dk_piece hS hP)
theorem dk_prodL {gS gP : G3} (hS : dk3 gS) (hP : dk3 gP) {so : FN} {W nT b fw : Nat} {x : Int32} : ∀ f fi st, dk 0 st (gProdL gS gP so W nT b fw x f fi st)
  | 0, _, st => dk_rfl
  | f + 1, fi, st => dk_ite (dk_t (dk_t (dk_t (dk_ite (dk_wrap) dk_rfl) dk_step) (dk_prod1 hS hP)) (dk_prodL hS hP f false _)) dk_rfl
theorem dk_product {gS gP : G3} (hS : dk3 gS) (hP : dk3 gP) {so : FN} {W nT : Nat} {p s x : Int32} {st : pPS} : dk 0 st (gProduct gS gP so W nT p s x st) := dk_t (dk_piece hS hP) (dk_prodL hS hP _ _ _)
theorem dk_sumL {gS gP : G3} (hS : dk3 gS) (hP : dk3 gP) {so : FN} {W nT b fw : Nat} {x : Int32} : ∀ f fi st, dk 0 st (gSumL gS gP so W nT b fw x f fi st)
  | 0, _, st => dk_rfl
  | f + 1, fi, st => dk_ite (dk_t (dk_t (dk_t (dk_ite (dk_wrap) dk_rfl) dk_step) (dk_product hS hP)) (dk_sumL hS hP f false _)) dk_rfl
theorem dk_sum {gS gP : G3} (hS : dk3 gS) (hP : dk3 gP) {so : FN} {W nT : Nat} {p s x : Int32} {st : pPS} : dk 0 st (gSum gS gP so W nT p s x st) := dk_t (dk_product hS hP) (dk_sumL hS hP _ _ _)
theorem dk_lv (so : FN) (W nT : Nat) : ∀ n, dk3 (gLv so W nT n).1 ∧ dk3 (gLv so W nT n).2
  | 0 => ⟨fun _ _ _ st => dk_rfl, fun _ _ _ st => dk_rfl⟩
  | n + 1 => ⟨fun p s x st => dk_sum (dk_lv so W nT n).1 (dk_lv so W nT n).2, fun p s x st => dk_piece (dk_lv so W nT n).1 (dk_lv so W nT n).2⟩
def dOK (n : Nat) (st : pPS) : Prop := st.2.1 = true ∨ ∃ d : Nat, st.2.2.1 = nI d ∧ d ≤ 30 ∧ 32 ≤ n + d
theorem dOK_k {n : Nat} {st st' : pPS} (h : dOK n st) (hk : dk 0 st st') : dOK n st' := by
  cases hf : st'.2.1 with
  | true => exact Or.inl hf
  | false =>
    obtain ⟨h1, h2⟩ := hk hf
    rcases h with h | ⟨d, h3, h4, h5⟩
    · rw [h1] at h; exact absurd h (by decide)
    · exact Or.inr ⟨d, by rw [h2, h3, Int32.add_zero], h4, h5⟩
theorem dOK_up {n : Nat} {st : pPS} (h : dOK n st) : dOK (n + 1) st := by
  rcases h with h | ⟨d, h3, h4, h5⟩
  · exact Or.inl h
  · exact Or.inr ⟨d, h3, h4, by omega⟩
theorem dOK_open {n : Nat} {st : pPS} (so : FN) (x : Int32) (h : dOK (n + 1) st) : dOK n (gOpen so x st) := by
  unfold gOpen
  split
  · rename_i hc
    rcases h with h | ⟨d, h3, h4, h5⟩
    · exact Or.inl h
    · have : ¬ 30 ≤ nI d := by rw [← h3]; exact hc.2
      have : d < 30 := by
        rw [show (30 : Int32) = nI 30 from rfl, nI_leI (by decide) (by omega)] at this; omega
      exact Or.inr ⟨d + 1, by rw [h3]; exact nI_1 d, by omega, by omega⟩
  · exact Or.inl rfl
