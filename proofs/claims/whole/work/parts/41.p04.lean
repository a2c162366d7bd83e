theorem dOK_le {m n : Nat} (hmn : m ≤ n) {st : pPS} (h : dOK m st) : dOK n st := by
  rcases h with h | ⟨d, h3, h4, h5⟩
  · exact Or.inl h
  · exact Or.inr ⟨d, h3, h4, by omega⟩
abbrev g33 (so : FN) (W nT : Nat) : G3 := (gLv so W nT 33).1
abbrev g34 (so : FN) (W nT : Nat) : G3 := (gLv so W nT 34).1
def gSumB (so : FN) (W nT : Nat) (x k p : Int32) (st : pPS) : pPS := gTake so 59 (g34 so W nT (gR nT st) 0 0 (gTake so x (gAdd nT k p 0 st)))
def gParam1 (so : FN) (W nT : Nat) (r : Int32) (a : pPS) : pPS :=
  gTake so 59 (if psS so a = 61 then gFraction so nT r 61 (gStep a) else if psS so a = 126 then gWhole (g33 so W nT) nT r 0 (gTake so 44 (gFraction so nT r 126 (gStep a))) else a)
def gParam (so : FN) (W nT : Nat) (p : Int32) (st : pPS) : pPS := gParam1 so W nT (gR nT st) (gShape (g33 so W nT) so W nT (gR nT st) (gName so nT (gR nT st) 0 (gTake so 256 (gAdd nT 6 p 0 st))))
def gLet (so : FN) (W nT : Nat) (p : Int32) (st : pPS) : pPS := gTake so 59 (g34 so W nT (gR nT st) 0 0 (gTake so 61 (gName so nT (gR nT st) 0 (gTake so 259 (gAdd nT 7 p 0 st)))))
def gInput (so : FN) (W nT : Nat) (st : pPS) : pPS := gTake so 59 (gShape (g33 so W nT) so W nT (gR nT st) (gName so nT (gR nT st) 0 (gTake so 257 (gAdd nT 1 (-1) 0 st))))
def gIndex (so : FN) (W nT : Nat) (st : pPS) : pPS := gTake so 59 (gWhole (g33 so W nT) nT (gR nT st) 0 (gTake so 266 (gShape (g33 so W nT) so W nT (gR nT st) (gName so nT (gR nT st) 0 (gTake so 258 (gAdd nT 2 (-1) 0 st))))))
def gTrainL (so : FN) (W nT : Nat) (r : Int32) : Nat → pPS → pPS
  | 0, st => st
  | f + 1, st => if psS so st = 269 then gTrainL so W nT r f (gFraction so nT r 0 (gTake so 268 (gWhole (g33 so W nT) nT r 0 (gStep st)))) else st
def gTrainE (so : FN) (nT : Nat) (r : Int32) (st : pPS) : pPS := gTake so 59 (gFracB so nT 272 r (gFracB so nT 271 r (gFracB so nT 270 r st)))
def gTrain (so : FN) (W nT : Nat) (st : pPS) : pPS := gTrainE so nT (gR nT st) (gTrainL so W nT (gR nT st) W (gFraction so nT (gR nT st) 0 (gTake so 268 (gWhole (g33 so W nT) nT (gR nT st) 0 (gTake so 267 (gTake so 265 (gAdd nT 0 (-1) 0 st)))))))
abbrev pG1 : Type := Int32 → pPS → pPS
def gRepeat (gI : pG1) (so : FN) (W nT : Nat) (p : Int32) (st : pPS) : pPS := gClose so 125 (gI (gR nT st) (gOpen so 123 (gWhole (g33 so W nT) nT (gR nT st) 0 (gTake so 264 (gAdd nT 8 p 0 st)))))
def gStmt (gI : pG1) (so : FN) (W nT : Nat) (p : Int32) (st : pPS) : pPS := if psS so st = 256 then gParam so W nT p st else if psS so st = 259 then gLet so W nT p st else gRepeat gI so W nT p st
abbrev isSt (x : Int32) : Prop := x = 256 ∨ x = 259 ∨ x = 264
abbrev isOu (x : Int32) : Prop := x = 257 ∨ x = 258 ∨ x = 260 ∨ x = 261 ∨ x = 262
def gBlock3 (gI : pG1) (so : FN) (W nT : Nat) (r : Int32) (c : pPS) : pPS := gClose so 125 (gSumB so W nT 263 21 r (gI r (gOpen so 123 (gClose so 41 c))))
def gBlock2 (gI : pG1) (so : FN) (W nT : Nat) (r : Int32) (b : pPS) : pPS := gBlock3 gI so W nT r (if psS so b = 59 then gNames so W nT r 59 (gStep b) else b)
def gBlock1 (gI : pG1) (so : FN) (W nT : Nat) (r : Int32) (a : pPS) : pPS := gBlock2 gI so W nT r (if psS so a = 3 then gNames so W nT r 0 a else a)
def gBlock (gI : pG1) (so : FN) (W nT : Nat) (st : pPS) : pPS := gBlock1 gI so W nT (gR nT st) (gOpen so 40 (gTake so 3 (gTake so 262 (gAdd nT 5 (-1) 0 st))))
def gOuter (gI : pG1) (so : FN) (W nT : Nat) (st : pPS) : pPS := if psS so st = 257 then gInput so W nT st else if psS so st = 258 then gIndex so W nT st else if psS so st = 260 then gSumB so W nT 260 3 (-1) st else if psS so st = 261 then gSumB so W nT 261 4 (-1) st else gBlock gI so W nT st
def gItemsL (gI : pG1) (so : FN) (W nT : Nat) (p : Int32) : Nat → pPS → pPS
  | 0, st => st
  | f + 1, st => if isSt (psS so st) then gItemsL gI so W nT p f (gStmt gI so W nT p st) else if p = -1 ∧ isOu (psS so st) then gItemsL gI so W nT p f (gOuter gI so W nT st) else st
def gIt (so : FN) (W nT : Nat) : Nat → pG1
  | 0 => fun _ st => st
  | n + 1 => fun p st => gItemsL (gIt so W nT n) so W nT p W st
theorem dk33 (so : FN) (W nT : Nat) : dk3 (g33 so W nT) := (dk_lv so W nT 33).1
theorem dk34 (so : FN) (W nT : Nat) : dk3 (g34 so W nT) := (dk_lv so W nT 34).1
theorem dk_sumB {so : FN} {W nT : Nat} {x k p : Int32} {st : pPS} : dk 0 st (gSumB so W nT x k p st) := dk_t (dk_t (dk_t dk_add dk_take) (dk34 so W nT _ _ _ _)) dk_take
theorem dk_param1 {so : FN} {W nT : Nat} {r : Int32} {st : pPS} : dk 0 st (gParam1 so W nT r st) := dk_t (dk_ite (dk_t dk_step dk_fraction) (dk_ite (dk_t (dk_t (dk_t dk_step dk_fraction) dk_take) (dk_whole (dk33 so W nT))) dk_rfl)) dk_take
theorem dk_param {so : FN} {W nT : Nat} {p : Int32} {st : pPS} : dk 0 st (gParam so W nT p st) := dk_t (dk_t (dk_t (dk_t dk_add dk_take) dk_name) (dk_shape (dk33 so W nT))) dk_param1
theorem dk_let {so : FN} {W nT : Nat} {p : Int32} {st : pPS} : dk 0 st (gLet so W nT p st) := dk_t (dk_t (dk_t (dk_t (dk_t dk_add dk_take) dk_name) dk_take) (dk34 so W nT _ _ _ _)) dk_take
theorem dk_input {so : FN} {W nT : Nat} {st : pPS} : dk 0 st (gInput so W nT st) := dk_t (dk_t (dk_t (dk_t dk_add dk_take) dk_name) (dk_shape (dk33 so W nT))) dk_take
theorem dk_index {so : FN} {W nT : Nat} {st : pPS} : dk 0 st (gIndex so W nT st) := dk_t (dk_t (dk_t (dk_t (dk_t (dk_t dk_add dk_take) dk_name) (dk_shape (dk33 so W nT))) dk_take) (dk_whole (dk33 so W nT))) dk_take
abbrev dk1 (g : pG1) : Prop := ∀ p st, dk 0 st (g p st)
theorem dk_repeat {gI : pG1} (hI : dk1 gI) {so : FN} {W nT : Nat} {p : Int32} {st : pPS} : dk 0 st (gRepeat gI so W nT p st) := dk_tr (e := 1) (f := -1) (by decide) (dk_tr (e := 1) (f := 0) (by decide) (dk_tr (e := 0) (by decide) (dk_t (dk_t dk_add dk_take) (dk_whole (dk33 so W nT))) dk_open) (hI _ _)) dk_close
theorem dk_stmt {gI : pG1} (hI : dk1 gI) {so : FN} {W nT : Nat} {p : Int32} {st : pPS} : dk 0 st (gStmt gI so W nT p st) := dk_ite dk_param (dk_ite dk_let (dk_repeat hI))
theorem dk_namesL {so : FN} {nT : Nat} {p s : Int32} : ∀ f st, dk 0 st (gNamesL so nT p s f st)
  | 0, st => dk_rfl
  | f + 1, st => dk_ite (dk_t (dk_t dk_step dk_name) (dk_namesL f _)) dk_rfl
theorem dk_names {so : FN} {W nT : Nat} {p s : Int32} {st : pPS} : dk 0 st (gNames so W nT p s st) := dk_t dk_name (dk_namesL _ _)
theorem dk_block3 {gI : pG1} (hI : dk1 gI) {so : FN} {W nT : Nat} {r : Int32} {st : pPS} : dk (-1) st (gBlock3 gI so W nT r st) := dk_tr (e := 0) (f := -1) (by decide) (dk_tr (e := 0) (f := 0) (by decide) (dk_tr (e := 0) (f := 0) (by decide) (dk_tr (e := -1) (f := 1) (by decide) dk_close dk_open) (hI _ _)) dk_sumB) dk_close
theorem dk_block {gI : pG1} (hI : dk1 gI) {so : FN} {W nT : Nat} {st : pPS} : dk 0 st (gBlock gI so W nT st) := dk_tr (e := 1) (f := -1) (by decide) (dk_tr (e := 0) (f := 1) (by decide) (dk_t (dk_t dk_add dk_take) dk_take) dk_open) (dk_tr (e := 0) (f := -1) (by decide) (dk_ite dk_names dk_rfl) (dk_tr (e := 0) (f := -1) (by decide) (dk_ite (dk_t dk_step dk_names) dk_rfl) (dk_block3 hI)))
theorem dk_outer {gI : pG1} (hI : dk1 gI) {so : FN} {W nT : Nat} {st : pPS} : dk 0 st (gOuter gI so W nT st) := dk_ite dk_input (dk_ite dk_index (dk_ite dk_sumB (dk_ite dk_sumB (dk_block hI))))
theorem dk_itemsL {gI : pG1} (hI : dk1 gI) {so : FN} {W nT : Nat} {p : Int32} : ∀ f st, dk 0 st (gItemsL gI so W nT p f st)
  | 0, st => dk_rfl
  | f + 1, st => dk_ite (dk_t (dk_stmt hI) (dk_itemsL hI f _)) (dk_ite (dk_t (dk_outer hI) (dk_itemsL hI f _)) dk_rfl)
theorem dk_it {so : FN} {W nT : Nat} : ∀ n, dk1 (gIt so W nT n)
  | 0 => fun _ _ => dk_rfl
  | n + 1 => fun _ _ => dk_itemsL (dk_it n) _ _
theorem u33 {nO : Nat} {so : FN} {W nT : Nat} (hW : cW nO so W nT) : uS so W nT 33 (vSx nO so (nI W) nT) (g33 so W nT) := (u_lv hW 32).1
theorem u34 {nO : Nat} {so : FN} {W nT : Nat} (hW : cW nO so W nT) {p s x : Int32} {st : pPS} (hd : dOK 33 st) : uR so W nT (fun cn K F Pa Sg Dp at_ sr dp K_ => vc_P_sum (vSx nO so (nI W) nT) (vPx nO so (nI W) nT) nO so (nI W) nT cn K F Pa Sg Dp at_ sr dp p s x K_) st (g34 so W nT p s x st) := u_sum hW (u_lv hW 32).1 (u_lv hW 32).2 (dk_lv so W nT 33).1 (dk_lv so W nT 33).2 (dOK_up hd)
theorem u_sumB {nO : Nat} {so : FN} {W nT : Nat} (hW : cW nO so W nT) {x k p : Int32} (h0 : x ≠ 0) (h1 : x ≠ 1) (h2 : x ≠ 2) {st : pPS} (hd : dOK 33 st) : uR so W nT (fun cn K F Pa Sg Dp at_ sr dp K_ => vc_P_sumBehind nO so (nI W) nT cn K F Pa Sg Dp at_ sr dp x k p K_) st (gSumB so W nT x k p st) := by
  intro cn K F Pa Sg Dp at_ sr dp K_ h kk
  exact u_add hW.2.2.2.1 h (fun _ _ _ _ _ _ h3 => u_take hW h3 h0 h1 h2 (fun _ _ h4 => u34 hW (dOK_k hd (dk_t dk_add dk_take)) _ _ _ _ _ _ _ _ _ _ h4 (fun _ _ _ _ _ _ _ _ _ h5 => u_take hW h5 (by decide) (by decide) (by decide) (fun _ _ h6 => kk _ _ _ _ _ _ _ _ _ h6))))
theorem u_param {nO : Nat} {so : FN} {W nT : Nat} (hW : cW nO so W nT) {p : Int32} {st : pPS} (hd : dOK 33 st) : uR so W nT (fun cn K F Pa Sg Dp at_ sr dp K_ => vc_P_param nO so (nI W) nT cn K F Pa Sg Dp at_ sr dp p K_) st (gParam so W nT p st) := by
  intro cn K F Pa Sg Dp at_ sr dp K_ h kk
  unfold gParam gParam1 at kk
  have hd2 := dOK_k hd (dk_t (dk_t (dk_add (nT := nT) (k := 6) (p := p) (s := 0)) (dk_take (so := so) (x := 256))) (dk_name (so := so) (nT := nT) (p := gR nT st) (s := 0)))
  refine u_add hW.2.2.2.1 h (fun _ _ _ _ _ _ h3 => u_take hW h3 (by decide) (by decide) (by decide) (fun _ _ h4 => u_name hW _ _ _ _ _ _ _ _ _ _ h4 (fun _ _ _ _ _ _ _ _ _ h5 => u_shape hW (u33 hW) (dk33 so W nT) (dOK_up hd2) _ _ _ _ _ _ _ _ _ _ h5 (fun _ _ _ _ _ _ _ _ _ h6 => ?_))))
  have hd3 := dOK_k hd2 (dk_shape (dk33 so W nT) (so := so) (W := W) (nT := nT) (p := gR nT st))
  rw [← u_sr h6] at kk
  refine ⟨fun h61 => ⟨fun h126 => ?_, fun h126 => ?_⟩, fun h61 => ?_⟩
  · rw [if_neg h61, if_neg h126] at kk
    exact u_take hW h6 (by decide) (by decide) (by decide) (fun _ _ h7 => kk _ _ _ _ _ _ _ _ _ h7)
  · rw [if_neg h61, if_pos h126] at kk
    exact u_step hW h6 h126 (by decide) (by decide) (by decide) (fun _ _ h7 => u_fraction hW _ _ _ _ _ _ _ _ _ _ h7 (fun _ _ _ _ _ _ _ _ _ h8 => u_take hW h8 (by decide) (by decide) (by decide) (fun _ _ h9 => u_whole hW (u33 hW) (dOK_k hd3 (dk_t (dk_t dk_step dk_fraction) dk_take)) _ _ _ _ _ _ _ _ _ _ h9 (fun _ _ _ _ _ _ _ _ _ h10 => u_take hW h10 (by decide) (by decide) (by decide) (fun _ _ h7 => kk _ _ _ _ _ _ _ _ _ h7)))))
  · rw [if_pos h61] at kk
    exact u_step hW h6 h61 (by decide) (by decide) (by decide) (fun _ _ h7 => u_fraction hW _ _ _ _ _ _ _ _ _ _ h7 (fun _ _ _ _ _ _ _ _ _ h8 => u_take hW h8 (by decide) (by decide) (by decide) (fun _ _ h7 => kk _ _ _ _ _ _ _ _ _ h7)))
theorem u_let {nO : Nat} {so : FN} {W nT : Nat} (hW : cW nO so W nT) {p : Int32} {st : pPS} (hd : dOK 33 st) : uR so W nT (fun cn K F Pa Sg Dp at_ sr dp K_ => vc_P_let nO so (nI W) nT cn K F Pa Sg Dp at_ sr dp p K_) st (gLet so W nT p st) := by
  intro cn K F Pa Sg Dp at_ sr dp K_ h kk
  exact u_add hW.2.2.2.1 h (fun _ _ _ _ _ _ h3 => u_take hW h3 (by decide) (by decide) (by decide) (fun _ _ h4 => u_name hW _ _ _ _ _ _ _ _ _ _ h4 (fun _ _ _ _ _ _ _ _ _ h5 => u_take hW h5 (by decide) (by decide) (by decide) (fun _ _ h6 => u34 hW (dOK_k hd (dk_t (dk_t (dk_t dk_add dk_take) dk_name) dk_take)) _ _ _ _ _ _ _ _ _ _ h6 (fun _ _ _ _ _ _ _ _ _ h7 => u_take hW h7 (by decide) (by decide) (by decide) (fun _ _ h8 => kk _ _ _ _ _ _ _ _ _ h8))))))
theorem u_input {nO : Nat} {so : FN} {W nT : Nat} (hW : cW nO so W nT) {st : pPS} (hd : dOK 33 st) : uR so W nT (fun cn K F Pa Sg Dp at_ sr dp K_ => vc_P_input nO so (nI W) nT cn K F Pa Sg Dp at_ sr dp K_) st (gInput so W nT st) := by
  intro cn K F Pa Sg Dp at_ sr dp K_ h kk
  exact u_add hW.2.2.2.1 h (fun _ _ _ _ _ _ h3 => u_take hW h3 (by decide) (by decide) (by decide) (fun _ _ h4 => u_name hW _ _ _ _ _ _ _ _ _ _ h4 (fun _ _ _ _ _ _ _ _ _ h5 => u_shape hW (u33 hW) (dk33 so W nT) (dOK_up (dOK_k hd (dk_t (dk_t dk_add dk_take) dk_name))) _ _ _ _ _ _ _ _ _ _ h5 (fun _ _ _ _ _ _ _ _ _ h7 => u_take hW h7 (by decide) (by decide) (by decide) (fun _ _ h8 => kk _ _ _ _ _ _ _ _ _ h8)))))
theorem u_index {nO : Nat} {so : FN} {W nT : Nat} (hW : cW nO so W nT) {st : pPS} (hd : dOK 33 st) : uR so W nT (fun cn K F Pa Sg Dp at_ sr dp K_ => vc_P_index nO so (nI W) nT cn K F Pa Sg Dp at_ sr dp K_) st (gIndex so W nT st) := by
  intro cn K F Pa Sg Dp at_ sr dp K_ h kk
  have hd2 := dOK_k hd (dk_t (dk_t (dk_add (nT := nT) (k := 2) (p := -1) (s := 0)) (dk_take (so := so) (x := 258))) (dk_name (so := so) (nT := nT) (p := gR nT st) (s := 0)))
  exact u_add hW.2.2.2.1 h (fun _ _ _ _ _ _ h3 => u_take hW h3 (by decide) (by decide) (by decide) (fun _ _ h4 => u_name hW _ _ _ _ _ _ _ _ _ _ h4 (fun _ _ _ _ _ _ _ _ _ h5 => u_shape hW (u33 hW) (dk33 so W nT) (dOK_up hd2) _ _ _ _ _ _ _ _ _ _ h5 (fun _ _ _ _ _ _ _ _ _ h7 => u_take hW h7 (by decide) (by decide) (by decide) (fun _ _ h8 => u_whole hW (u33 hW) (dOK_k hd2 (dk_t (dk_shape (dk33 so W nT)) dk_take)) _ _ _ _ _ _ _ _ _ _ h8 (fun _ _ _ _ _ _ _ _ _ h10 => u_take hW h10 (by decide) (by decide) (by decide) (fun _ _ h7 => kk _ _ _ _ _ _ _ _ _ h7)))))))
def uI (so : FN) (W nT n : Nat) (v : TP1) (g : pG1) : Prop := ∀ p st, dOK n st → uR so W nT (fun cn K F Pa Sg Dp at_ sr dp K_ => v cn K F Pa Sg Dp at_ sr dp p K_) st (g p st)
theorem u_repeat {vI : TP1} {gI : pG1} {nO : Nat} {so : FN} {W nT n : Nat} (hW : cW nO so W nT) (hI : uI so W nT n vI gI) (hn : n + 1 ≤ 33) {p : Int32} {st : pPS} (hd : dOK (n + 1) st) : uR so W nT (fun cn K F Pa Sg Dp at_ sr dp K_ => vc_P_repeat vI nO so (nI W) nT cn K F Pa Sg Dp at_ sr dp p K_) st (gRepeat gI so W nT p st) := by
  intro cn K F Pa Sg Dp at_ sr dp K_ h kk
  have hd2 := dOK_k hd (dk_t (dk_add (nT := nT) (k := 8) (p := p) (s := 0)) (dk_take (so := so) (x := 264)))
  have hd3 := dOK_k hd2 (dk_whole (dk33 so W nT) (nT := nT) (p := gR nT st) (s := 0))
  exact u_add hW.2.2.2.1 h (fun _ _ _ _ _ _ h3 => u_take hW h3 (by decide) (by decide) (by decide) (fun _ _ h4 => u_whole hW (u33 hW) (dOK_le hn hd2) _ _ _ _ _ _ _ _ _ _ h4 (fun _ _ _ _ _ _ _ _ _ h5 => u_open hW h5 (by decide) (by decide) (by decide) (fun _ _ _ h6 => hI _ _ (dOK_open so 123 hd3) _ _ _ _ _ _ _ _ _ _ h6 (fun _ _ _ _ _ _ _ _ _ h7 => u_close hW h7 (by decide) (by decide) (by decide) (fun _ _ _ h8 => kk _ _ _ _ _ _ _ _ _ h8))))))
def uRi (so : FN) (W nT : Nat) (v : Int32 → FN → FN → FN → FN → FN → Int32 → Int32 → Int32 → KPi → Prop) (st st' : pPS) (r : Int32) : Prop := ∀ cn K F Pa Sg Dp at_ sr dp K_, cU so W nT st cn K F Pa Sg Dp at_ sr dp → uP so W nT st' (K_ r) → v cn K F Pa Sg Dp at_ sr dp K_
theorem u_stmt {vI : TP1} {gI : pG1} {nO : Nat} {so : FN} {W nT n : Nat} (hW : cW nO so W nT) (hI : uI so W nT n vI gI) (hn : n + 1 ≤ 33) {p : Int32} {st : pPS} (hd : dOK (n + 1) st) (hs : isSt (psS so st)) : uRi so W nT (fun cn K F Pa Sg Dp at_ sr dp K_ => vc_P_statement vI nO so (nI W) nT cn K F Pa Sg Dp at_ sr dp p K_) st (gStmt gI so W nT p st) 1 := by
  intro cn K F Pa Sg Dp at_ sr dp K_ h kk
  unfold gStmt at kk
  rw [← u_sr h] at kk hs
  refine ⟨fun a => ?_, fun a => ⟨fun b => ?_, fun b => ⟨fun c => ?_, fun c => ?_⟩⟩⟩
  · rw [if_pos a] at kk
    exact u_param hW (dOK_le hn hd) _ _ _ _ _ _ _ _ _ _ h kk
  · rw [if_neg a, if_pos b] at kk
    exact u_let hW (dOK_le hn hd) _ _ _ _ _ _ _ _ _ _ h kk
  · rw [if_neg a, if_neg b] at kk
    exact u_repeat hW hI hn hd _ _ _ _ _ _ _ _ _ _ h kk
  · exact absurd hs (fun h => h.elim a (fun h => h.elim b c))
theorem u_stmt0 {vI : TP1} {nO : Nat} {so : FN} {W nT : Nat} {p : Int32} {st : pPS} (hs : ¬ isSt (psS so st)) : uRi so W nT (fun cn K F Pa Sg Dp at_ sr dp K_ => vc_P_statement vI nO so (nI W) nT cn K F Pa Sg Dp at_ sr dp p K_) st st 0 := by
  intro cn K F Pa Sg Dp at_ sr dp K_ h kk
  rw [← u_sr h] at hs
  exact ⟨fun a => absurd (Or.inl a) hs, fun _ => ⟨fun a => absurd (Or.inr (Or.inl a)) hs, fun _ => ⟨fun a => absurd (Or.inr (Or.inr a)) hs, fun _ => kk _ _ _ _ _ _ _ _ _ h⟩⟩⟩
theorem u_block3 {vI : TP1} {gI : pG1} {nO : Nat} {so : FN} {W nT n : Nat} (hW : cW nO so W nT) (hI : uI so W nT n vI gI) (hk : dk1 gI) (hn : n + 1 ≤ 33) {r : Int32} {st : pPS} (hd' : st.2.1 = false → dOK (n + 1) (gDec st)) {cn : Int32} {K F Pa Sg Dp : FN} {at_ sr dp : Int32} {K_ : KP} (h : cU so W nT st cn K F Pa Sg Dp at_ sr dp) (kk : uP so W nT (gBlock3 gI so W nT r st) K_) :
    vc_P_close nO so (nI W) at_ sr dp 41 (fun at_21 sr_22 dp_23 => (vc_P_open nO so (nI W) at_21 sr_22 dp_23 123 (fun at_25 sr_26 dp_27 => (vI cn K F Pa Sg Dp at_25 sr_26 dp_27 r (fun cn_29 K_30 F_31 Pa_32 Sg_33 Dp_34 at_35 sr_36 dp_37 => (vc_P_sumBehind nO so (nI W) nT cn_29 K_30 F_31 Pa_32 Sg_33 Dp_34 at_35 sr_36 dp_37 263 21 r (fun cn_39 K_40 F_41 Pa_42 Sg_43 Dp_44 at_45 sr_46 dp_47 => (vc_P_close nO so (nI W) at_45 sr_46 dp_47 125 (fun at_49 sr_50 dp_51 => (K_ cn_39 K_40 F_41 Pa_42 Sg_43 Dp_44 at_49 sr_50 dp_51)))))))))) := by
  have hdc : dOK n (gOpen so 123 (gClose so 41 st)) := by
    cases hf : (gClose so 41 st).2.1 with
    | true =>
      refine dOK_open so 123 (Or.inl hf)
    | false =>
      have h1 := dk_close (so := so) (x := 41) (st := st) hf
      have h2 := hd' h1.1
      refine dOK_open so 123 ?_
      rcases h2 with h2 | ⟨d, h3, h4, h5⟩
      · have : st.2.1 = true := h2
        rw [h1.1] at this; exact absurd this (by decide)
      · exact Or.inr ⟨d, by rw [h1.2, ← Int32.sub_eq_add_neg]; exact h3, h4, h5⟩
  exact u_close hW h (by decide) (by decide) (by decide) (fun _ _ _ h2 => u_open hW h2 (by decide) (by decide) (by decide) (fun _ _ _ h3 => hI _ _ hdc _ _ _ _ _ _ _ _ _ _ h3 (fun _ _ _ _ _ _ _ _ _ h4 => u_sumB hW (by decide) (by decide) (by decide) (dOK_le (by omega) (dOK_k hdc (hk _ _))) _ _ _ _ _ _ _ _ _ _ h4 (fun _ _ _ _ _ _ _ _ _ h5 => u_close hW h5 (by decide) (by decide) (by decide) (fun _ _ _ h6 => kk _ _ _ _ _ _ _ _ _ h6)))))
theorem u_block2 {vI : TP1} {gI : pG1} {nO : Nat} {so : FN} {W nT n : Nat} (hW : cW nO so W nT) (hI : uI so W nT n vI gI) (hk : dk1 gI) (hn : n + 1 ≤ 33) {r : Int32} {st : pPS} (hd' : st.2.1 = false → dOK (n + 1) (gDec st)) {cn : Int32} {K F Pa Sg Dp : FN} {at_ sr dp : Int32} {K_ : KP} (h : cU so W nT st cn K F Pa Sg Dp at_ sr dp) (kk : uP so W nT (gBlock2 gI so W nT r st) K_) :
    (¬ sr = 59 → vc_P_close nO so (nI W) at_ sr dp 41 (fun at_21 sr_22 dp_23 => (vc_P_open nO so (nI W) at_21 sr_22 dp_23 123 (fun at_25 sr_26 dp_27 => (vI cn K F Pa Sg Dp at_25 sr_26 dp_27 r (fun cn_29 K_30 F_31 Pa_32 Sg_33 Dp_34 at_35 sr_36 dp_37 => (vc_P_sumBehind nO so (nI W) nT cn_29 K_30 F_31 Pa_32 Sg_33 Dp_34 at_35 sr_36 dp_37 263 21 r (fun cn_39 K_40 F_41 Pa_42 Sg_43 Dp_44 at_45 sr_46 dp_47 => (vc_P_close nO so (nI W) at_45 sr_46 dp_47 125 (fun at_49 sr_50 dp_51 => (K_ cn_39 K_40 F_41 Pa_42 Sg_43 Dp_44 at_49 sr_50 dp_51))))))))))) ∧
    (sr = 59 → vc_P_step nO so (nI W) at_ sr (fun a b => vc_P_names nO so (nI W) nT cn K F Pa Sg Dp a b dp r 59 (fun cn K F Pa Sg Dp at_ sr dp => vc_P_close nO so (nI W) at_ sr dp 41 (fun at_21 sr_22 dp_23 => (vc_P_open nO so (nI W) at_21 sr_22 dp_23 123 (fun at_25 sr_26 dp_27 => (vI cn K F Pa Sg Dp at_25 sr_26 dp_27 r (fun cn_29 K_30 F_31 Pa_32 Sg_33 Dp_34 at_35 sr_36 dp_37 => (vc_P_sumBehind nO so (nI W) nT cn_29 K_30 F_31 Pa_32 Sg_33 Dp_34 at_35 sr_36 dp_37 263 21 r (fun cn_39 K_40 F_41 Pa_42 Sg_43 Dp_44 at_45 sr_46 dp_47 => (vc_P_close nO so (nI W) at_45 sr_46 dp_47 125 (fun at_49 sr_50 dp_51 => (K_ cn_39 K_40 F_41 Pa_42 Sg_43 Dp_44 at_49 sr_50 dp_51))))))))))))) := by
  unfold gBlock2 at kk
  rw [← u_sr h] at kk
  refine ⟨fun hs => ?_, fun hs => ?_⟩
  · rw [if_neg hs] at kk
    exact u_block3 hW hI hk hn hd' h kk
  · rw [if_pos hs] at kk
    have hkk : dk 0 st (gNames so W nT r 59 (gStep st)) := dk_t dk_step dk_names
    refine u_step hW h hs (by decide) (by decide) (by decide) (fun _ _ h2 => u_names hW _ _ _ _ _ _ _ _ _ _ h2 (fun _ _ _ _ _ _ _ _ _ h3 => u_block3 hW hI hk hn (fun hf => ?_) h3 kk))
    obtain ⟨e1, e2⟩ := hkk hf
    rcases hd' e1 with h2 | ⟨d, h3, h4, h5⟩
    · have : st.2.1 = true := h2
      rw [e1] at this; exact absurd this (by decide)
    · refine Or.inr ⟨d, ?_, h4, h5⟩
      show (gNames so W nT r 59 (gStep st)).2.2.1 - 1 = nI d
      rw [e2, Int32.add_zero]; exact h3
theorem u_block {vI : TP1} {gI : pG1} {nO : Nat} {so : FN} {W nT n : Nat} (hW : cW nO so W nT) (hI : uI so W nT n vI gI) (hk : dk1 gI) (hn : n + 1 ≤ 33) {st : pPS} (hd : dOK (n + 1) st) : uR so W nT (fun cn K F Pa Sg Dp at_ sr dp K_ => vc_P_block vI nO so (nI W) nT cn K F Pa Sg Dp at_ sr dp K_) st (gBlock gI so W nT st) := by
  intro cn K F Pa Sg Dp at_ sr dp K_ h kk
  have k1 := dk_t (dk_t (dk_add (nT := nT) (k := 5) (p := -1) (s := 0) (st := st)) (dk_take (so := so) (x := 262))) (dk_take (so := so) (x := 3))
  have k2 := dk_tr (e := 0) (f := 1) (g := 1) (by decide) k1 (dk_open (so := so) (x := 40))
  generalize hg : gOpen so 40 (gTake so 3 (gTake so 262 (gAdd nT 5 (-1) 0 st))) = a at k2
  have hd' : ∀ a', dk 0 a a' → a'.2.1 = false → dOK (n + 1) (gDec a') := by
    intro a' ha hf
    obtain ⟨e1, e2⟩ := ha hf
    obtain ⟨e3, e4⟩ := k2 e1
    rcases hd with h2 | ⟨d, h3, h4, h5⟩
    · rw [e3] at h2; exact absurd h2 (by decide)
    · refine Or.inr ⟨d, ?_, h4, h5⟩
      show a'.2.2.1 - 1 = nI d
      rw [e2, e4, h3, Int32.add_zero, Int32.add_sub_cancel]
  unfold gBlock gBlock1 at kk
  rw [hg] at kk
  refine u_add hW.2.2.2.1 h (fun _ _ _ _ _ _ h3 => u_take hW h3 (by decide) (by decide) (by decide) (fun _ _ h4 => u_take hW h4 (by decide) (by decide) (by decide) (fun _ _ h5 => u_open hW h5 (by decide) (by decide) (by decide) (fun _ _ _ h6 => ?_))))
  rw [hg] at h6
  rw [← u_sr h6] at kk
  refine ⟨fun hs => ?_, fun hs => ?_⟩
  · rw [if_neg hs] at kk
    exact u_block2 hW hI hk hn (hd' a dk_rfl) h6 kk
  · rw [if_pos hs] at kk
    exact u_names hW _ _ _ _ _ _ _ _ _ _ h6 (fun _ _ _ _ _ _ _ _ _ h7 => u_block2 hW hI hk hn (hd' _ dk_names) h7 kk)
theorem u_outer {vI : TP1} {gI : pG1} {nO : Nat} {so : FN} {W nT n : Nat} (hW : cW nO so W nT) (hI : uI so W nT n vI gI) (hk : dk1 gI) (hn : n + 1 ≤ 33) {st : pPS} (hd : dOK (n + 1) st) (hs : isOu (psS so st)) : uRi so W nT (fun cn K F Pa Sg Dp at_ sr dp K_ => vc_P_outerItem vI nO so (nI W) nT cn K F Pa Sg Dp at_ sr dp K_) st (gOuter gI so W nT st) 1 := by
  intro cn K F Pa Sg Dp at_ sr dp K_ h kk
  unfold gOuter at kk
  rw [← u_sr h] at kk hs
  have hd3 : dOK 33 st := dOK_le hn hd
  refine ⟨fun a => ?_, fun a => ⟨fun b => ?_, fun b => ⟨fun c => ?_, fun c => ⟨fun d => ?_, fun d => ⟨fun e => ?_, fun e => ⟨fun f => ?_, fun f => ?_⟩⟩⟩⟩⟩⟩
  · rw [if_pos a] at kk
    exact u_input hW hd3 _ _ _ _ _ _ _ _ _ _ h kk
  · rw [if_neg a, if_pos b] at kk
    exact u_index hW hd3 _ _ _ _ _ _ _ _ _ _ h kk
  · rw [c] at hs
    exact absurd hs (by decide)
  · rw [if_neg a, if_neg b, if_pos d] at kk
    exact u_sumB hW (by decide) (by decide) (by decide) hd3 _ _ _ _ _ _ _ _ _ _ h kk
  · rw [if_neg a, if_neg b, if_neg d, if_pos e] at kk
    exact u_sumB hW (by decide) (by decide) (by decide) hd3 _ _ _ _ _ _ _ _ _ _ h kk
  · rw [if_neg a, if_neg b, if_neg d, if_neg e] at kk
    exact u_block hW hI hk hn hd _ _ _ _ _ _ _ _ _ _ h kk
  · exact absurd hs (fun h => h.elim a (fun h => h.elim b (fun h => h.elim d (fun h => h.elim e f))))
theorem u_outer0 {vI : TP1} {nO : Nat} {so : FN} {W nT : Nat} {st : pPS} (hs : ¬ isOu (psS so st)) : uRi so W nT (fun cn K F Pa Sg Dp at_ sr dp K_ => vc_P_outerItem vI nO so (nI W) nT cn K F Pa Sg Dp at_ sr dp K_) st st 0 := by
  intro cn K F Pa Sg Dp at_ sr dp K_ h kk
  rw [← u_sr h] at hs
  have k0 := kk _ _ _ _ _ _ _ _ _ h
  exact ⟨fun a => absurd (Or.inl a) hs, fun _ => ⟨fun a => absurd (Or.inr (Or.inl a)) hs, fun _ => ⟨fun _ => k0, fun _ => ⟨fun a => absurd (Or.inr (Or.inr (Or.inl a))) hs, fun _ => ⟨fun a => absurd (Or.inr (Or.inr (Or.inr (Or.inl a)))) hs, fun _ => ⟨fun a => absurd (Or.inr (Or.inr (Or.inr (Or.inr a)))) hs, fun _ => k0⟩⟩⟩⟩⟩⟩
theorem u_itemsL {vI : TP1} {gI : pG1} {nO : Nat} {so : FN} {W nT n : Nat} (hW : cW nO so W nT) (hI : uI so W nT n vI gI) (hk : dk1 gI) (hn : n + 1 ≤ 33) {p : Int32} {cn0 : Int32} {K0 F0 Pa0 Sg0 Dp0 : FN} {pat0 sr0 dp0 : Int32} {K_ : KP} : ∀ f i st cn K F Pa Sg Dp at_ sr dp, f + i = W → dOK (n + 1) st → cU so W nT st cn K F Pa Sg Dp at_ sr dp → uP so W nT (gItemsL gI so W nT p f st) K_ →
    vl_P_items_4 vI nO so (nI W) nT cn0 K0 F0 Pa0 Sg0 Dp0 pat0 sr0 dp0 p K_ (f + 2) (nI i) 1 cn K F Pa Sg Dp at_ sr dp := by
  intro f
  have stop : ∀ (f : Nat) (x : Int32) cn K F Pa Sg Dp at_ sr dp, K_ cn K F Pa Sg Dp at_ sr dp → vl_P_items_4 vI nO so (nI W) nT cn0 K0 F0 Pa0 Sg0 Dp0 pat0 sr0 dp0 p K_ (f + 1) x 0 cn K F Pa Sg Dp at_ sr dp :=
    fun f x cn K F Pa Sg Dp at_ sr dp h => ⟨fun _ => h, fun _ => ⟨fun _ => h, fun h => absurd rfl h⟩⟩
  induction f with
  | zero =>
    intro i st cn K F Pa Sg Dp at_ sr dp hf hd h kk
    exact ⟨fun _ => kk _ _ _ _ _ _ _ _ _ h, fun hc => absurd ((u_wc (by have := hW.2.1; have := hW.2.2.1; omega) hf).mpr rfl) hc⟩
  | succ f ih =>
    intro i st cn K F Pa Sg Dp at_ sr dp hf hd h kk
    unfold gItemsL at kk
    refine ⟨fun hc => absurd ((u_wc (by have := hW.2.1; have := hW.2.2.1; omega) hf).mp hc) (by omega), fun _ => ⟨fun h => absurd h (by decide), fun _ => ?_⟩⟩
    by_cases hs : isSt (psS so st)
    · rw [if_pos hs] at kk
      refine u_stmt hW hI hn hd hs _ _ _ _ _ _ _ _ _ _ h (fun _ _ _ _ _ _ _ _ _ h2 => ⟨fun _ => ?_, fun h => absurd h (by decide)⟩)
      rw [nI_1]
      have hk2 : dk 0 st (gStmt gI so W nT p st) := dk_stmt hk
      exact ih (i + 1) _ _ _ _ _ _ _ _ _ _ (by omega) (dOK_k hd hk2) h2 kk
    · rw [if_neg hs] at kk
      refine u_stmt0 hs _ _ _ _ _ _ _ _ _ _ h (fun _ _ _ _ _ _ _ _ _ h2 => ⟨fun h => absurd rfl h, fun _ => ⟨fun hp => ?_, fun hp => ?_⟩⟩)
      · rw [if_neg (fun h => hp h.1)] at kk
        exact stop (f + 1) _ _ _ _ _ _ _ _ _ _ (kk _ _ _ _ _ _ _ _ _ h2)
      · by_cases ho : isOu (psS so st)
        · rw [if_pos ⟨hp, ho⟩] at kk
          refine u_outer hW hI hk hn hd ho _ _ _ _ _ _ _ _ _ _ h2 (fun _ _ _ _ _ _ _ _ _ h3 => ⟨fun h => absurd h (by decide), fun _ => ?_⟩)
          rw [nI_1]
          have hk2 : dk 0 st (gOuter gI so W nT st) := dk_outer hk
          exact ih (i + 1) _ _ _ _ _ _ _ _ _ _ (by omega) (dOK_k hd hk2) h3 kk
        · rw [if_neg (fun h => ho h.2)] at kk
          exact u_outer0 ho _ _ _ _ _ _ _ _ _ _ h2 (fun _ _ _ _ _ _ _ _ _ h3 => ⟨fun _ => stop (f + 1) _ _ _ _ _ _ _ _ _ _ (kk _ _ _ _ _ _ _ _ _ h3), fun h => absurd rfl h⟩)
theorem u_it {nO : Nat} {so : FN} {W nT : Nat} (hW : cW nO so W nT) : ∀ n, n + 1 ≤ 33 → uI so W nT (n + 1) (vcIt nO so (nI W) nT (n + 1)) (gIt so W nT (n + 1))
  | 0, _ => by
    intro p st hd cn K F Pa Sg Dp at_ sr dp K_ h kk
    have hf : st.2.1 = true := by
      rcases hd with h | ⟨d, h1, h2, h3⟩
      · exact h
      · omega
    have e0 : psS so st = 0 := by simp [psS, hf]
    obtain ⟨w, hw⟩ : ∃ w, W = w + 1 := ⟨W - 1, by have := hW.1; omega⟩
    have e : gIt so W nT 1 p st = st := by
      show gItemsL (gIt so W nT 0) so W nT p W st = st
      generalize gIt so W nT 0 = gg
      rw [show gItemsL gg so W nT p W st = gItemsL gg so W nT p (w + 1) st from by rw [hw]]
      unfold gItemsL
      rw [e0, if_neg (by decide), if_neg (fun h => absurd h.2 (by decide))]
    rw [e] at kk
    have e2 := u_sr h
    rw [e0] at e2
    have k0 := kk _ _ _ _ _ _ _ _ _ h
    have stop : ∀ (x : Int32) cn1 K1 F1 P1 S1 D1 a1 s1 d1, K_ cn1 K1 F1 P1 S1 D1 a1 s1 d1 → vl_P_items_4 (vcIt nO so (nI W) nT 0) nO so (nI W) nT cn K F Pa Sg Dp at_ sr dp p K_ 1 x 0 cn1 K1 F1 P1 S1 D1 a1 s1 d1 :=
      fun x cn1 K1 F1 P1 S1 D1 a1 s1 d1 h => ⟨fun _ => h, fun _ => ⟨fun _ => h, fun h => absurd rfl h⟩⟩
    refine ⟨2, fun _ => k0, fun _ => ⟨fun _ => k0, fun _ => ?_⟩⟩
    refine u_stmt0 (by rw [e0]; decide) _ _ _ _ _ _ _ _ _ _ h (fun _ _ _ _ _ _ _ _ _ h2 => ⟨fun h => absurd rfl h, fun _ => ⟨fun hp => ?_, fun hp => ?_⟩⟩)
    · exact stop _ _ _ _ _ _ _ _ _ _ (kk _ _ _ _ _ _ _ _ _ h2)
    · exact u_outer0 (by rw [e0]; decide) _ _ _ _ _ _ _ _ _ _ h2 (fun _ _ _ _ _ _ _ _ _ h3 => ⟨fun _ => stop _ _ _ _ _ _ _ _ _ _ (kk _ _ _ _ _ _ _ _ _ h3), fun h => absurd rfl h⟩)
  | n + 1, hn => by
    have ih := u_it hW n (by omega)
    intro p st hd cn K F Pa Sg Dp at_ sr dp K_ h kk
    exact ⟨W + 2, u_itemsL hW ih (dk_it (n + 1)) hn W 0 _ _ _ _ _ _ _ _ _ _ rfl hd h kk⟩
theorem u_trainL {nO : Nat} {so : FN} {W nT : Nat} (hW : cW nO so W nT) {r : Int32} {cn0 : Int32} {K0 F0 Pa0 Sg0 Dp0 : FN} {pat0 sr0 dp0 : Int32} {K_ : KP} : ∀ f i st cn K F Pa Sg Dp at_ sr dp, f + i = W → dOK 33 st → cU so W nT st cn K F Pa Sg Dp at_ sr dp → uP so W nT (gTrainE so nT r (gTrainL so W nT r f st)) K_ →
    vl_P_train_50 nO so (nI W) nT cn0 K0 F0 Pa0 Sg0 Dp0 pat0 sr0 dp0 r K_ (f + 1) (nI i) cn K F Pa Sg Dp at_ sr dp := by
  intro f
  have fin : ∀ st cn K F Pa Sg Dp at_ sr dp, cU so W nT st cn K F Pa Sg Dp at_ sr dp → uP so W nT (gTrainE so nT r st) K_ → (vc_P_fractionBehind nO so (nI W) nT cn K F Pa Sg Dp at_ sr dp 270 r (fun cn_39 K_40 F_41 Pa_42 Sg_43 Dp_44 at_45 sr_46 dp_47 => (vc_P_fractionBehind nO so (nI W) nT cn_39 K_40 F_41 Pa_42 Sg_43 Dp_44 at_45 sr_46 dp_47 271 r (fun cn_39 K_40 F_41 Pa_42 Sg_43 Dp_44 at_45 sr_46 dp_47 => (vc_P_fractionBehind nO so (nI W) nT cn_39 K_40 F_41 Pa_42 Sg_43 Dp_44 at_45 sr_46 dp_47 272 r (fun cn_59 K_60 F_61 Pa_62 Sg_63 Dp_64 at_65 sr_66 dp_67 => (vc_P_take nO so (nI W) at_65 sr_66 59 (fun at_69 sr_70 => (K_ cn_59 K_60 F_61 Pa_62 Sg_63 Dp_64 at_69 sr_70 dp_67)))))))))  := by
    intro st cn K F Pa Sg Dp at_ sr dp h kk
    exact u_fracB hW (by decide) (by decide) (by decide) _ _ _ _ _ _ _ _ _ _ h (fun _ _ _ _ _ _ _ _ _ h2 => u_fracB hW (by decide) (by decide) (by decide) _ _ _ _ _ _ _ _ _ _ h2 (fun _ _ _ _ _ _ _ _ _ h3 => u_fracB hW (by decide) (by decide) (by decide) _ _ _ _ _ _ _ _ _ _ h3 (fun _ _ _ _ _ _ _ _ _ h4 => u_take hW h4 (by decide) (by decide) (by decide) (fun _ _ h5 => kk _ _ _ _ _ _ _ _ _ h5))))
  induction f with
  | zero =>
    intro i st cn K F Pa Sg Dp at_ sr dp hf hd h kk
    exact ⟨fun _ => fin _ _ _ _ _ _ _ _ _ _ h kk, fun hc => absurd ((u_wc (by have := hW.2.1; have := hW.2.2.1; omega) hf).mpr rfl) hc⟩
  | succ f ih =>
    intro i st cn K F Pa Sg Dp at_ sr dp hf hd h kk
    unfold gTrainL at kk
    rw [← u_sr h] at kk
    refine ⟨fun hc => absurd ((u_wc (by have := hW.2.1; have := hW.2.2.1; omega) hf).mp hc) (by omega), fun _ => ⟨fun hs => ?_, fun hs => ?_⟩⟩
    · rw [if_neg hs] at kk
      exact fin _ _ _ _ _ _ _ _ _ _ h kk
    · rw [if_pos hs] at kk
      have hd2 := dOK_k hd (dk_step (st := st))
      refine u_step hW h hs (by decide) (by decide) (by decide) (fun _ _ h2 => u_whole hW (u33 hW) hd2 _ _ _ _ _ _ _ _ _ _ h2 (fun _ _ _ _ _ _ _ _ _ h3 => u_take hW h3 (by decide) (by decide) (by decide) (fun _ _ h4 => u_fraction hW _ _ _ _ _ _ _ _ _ _ h4 (fun _ _ _ _ _ _ _ _ _ h5 => ?_))))
      rw [nI_1]
      exact ih (i + 1) _ _ _ _ _ _ _ _ _ _ (by omega) (dOK_k hd2 (dk_t (dk_t (dk_whole (dk33 so W nT)) dk_take) dk_fraction)) h5 kk
theorem u_train {nO : Nat} {so : FN} {W nT : Nat} (hW : cW nO so W nT) {st : pPS} (hd : dOK 33 st) : uR so W nT (fun cn K F Pa Sg Dp at_ sr dp K_ => vc_P_train nO so (nI W) nT cn K F Pa Sg Dp at_ sr dp K_) st (gTrain so W nT st) := by
  intro cn K F Pa Sg Dp at_ sr dp K_ h kk
  have hd2 := dOK_k hd (dk_t (dk_t (dk_add (nT := nT) (k := 0) (p := -1) (s := 0)) (dk_take (so := so) (x := 265))) (dk_take (so := so) (x := 267)))
  have hd3 := dOK_k hd2 (dk_t (dk_t (dk_whole (dk33 so W nT) (nT := nT) (p := gR nT st) (s := 0)) (dk_take (so := so) (x := 268))) (dk_fraction (so := so) (nT := nT) (p := gR nT st) (s := 0)))
  exact u_add hW.2.2.2.1 h (fun _ _ _ _ _ _ h3 => u_take hW h3 (by decide) (by decide) (by decide) (fun _ _ h4 => u_take hW h4 (by decide) (by decide) (by decide) (fun _ _ h5 => u_whole hW (u33 hW) hd2 _ _ _ _ _ _ _ _ _ _ h5 (fun _ _ _ _ _ _ _ _ _ h6 => u_take hW h6 (by decide) (by decide) (by decide) (fun _ _ h7 => u_fraction hW _ _ _ _ _ _ _ _ _ _ h7 (fun _ _ _ _ _ _ _ _ _ h8 => ⟨W + 1, u_trainL hW W 0 _ _ _ _ _ _ _ _ _ _ rfl hd3 h8 kk⟩))))))
