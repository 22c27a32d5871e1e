/-! ===== the law's body: its beginning, its loop, its end ===== -/
def lmW : Nat × Nat := (600000, 7302250)
def L0w : List Value := [.ref 100000, un, un, un]
def L1w : List Value := [.ref 100000, .ref 0, un, un]
def L2w : List Value := [.ref 100000, .ref 0, .ref 192, un]
def stk1 {α : Type} (q : Nat) (st : List Value) (x : Option α) : Option α := match st with
  | [.ref r] => p_bif (decide (r = q)) x none
  | _ => none
theorem stk1_s {α : Type} {q : Nat} {st : List Value} {x : Option α} {r : α} (h : stk1 q st x = some r) : st = [.ref q] ∧ x = some r := by
  unfold stk1 at h
  split at h
  · rw [p_bif_dec] at h
    split at h
    · rename_i e; subst e; exact ⟨rfl, h⟩
    · cases h
  · cases h
def law1 {α : Type} (k : PT → IJ → Option α) : Option α :=
  p_mk lmW TE jE 11 13 L0w [] (fun T ij => p_spc (EVD 12) lmW T ij 119 1 L0w [.ref 0, .ref 0] (fun st T ij => stk1 0 st (p_bif (decide (T.1 = 192)) (p_mk lmW T ij 12 72 L1w [] (fun T2 ij => p_spc (EVD 12) lmW T2 ij 166 1 L1w [.ref 192, .ref 192] (fun st T ij => stk1 192 st (k T ij)))) none)))
set_option maxRecDepth 1000000 in
theorem law1_t : law1 (fun T ij => p_bif (ckW T && ckV ij) (some ()) none) = some () := by decide +kernel
set_option maxRecDepth 100000 in
theorem lk_new1 : Cond.classLink "SewnRoadsLaw" 7 (cT 11).1 ∈ gtb := mem_gtb (by decide +kernel) (by decide +kernel)
set_option maxRecDepth 100000 in
theorem lk_new2 : Cond.classLink "SewnRoadsLaw" 10 (cT 12).1 ∈ gtb := mem_gtb (by decide +kernel) (by decide +kernel)
set_option maxRecDepth 100000 in
theorem lk_ini1 : Cond.methodLink "SewnRoadsLaw" 9 (mN 119) ∈ gtb := mem_gtb (by decide +kernel) (by decide +kernel)
set_option maxRecDepth 100000 in
theorem lk_ini2 : Cond.methodLink "SewnRoadsLaw" 12 (mN 166) ∈ gtb := mem_gtb (by decide +kernel) (by decide +kernel)
theorem dl_0 : decode code 0 = .ok (.new 7, 3) := by decide +kernel
theorem dl_4 : decode code 4 = .ok (.invokespecial 9, 3) := by decide +kernel
theorem dl_8 : decode code 8 = .ok (.new 10, 3) := by decide +kernel
theorem dl_12 : decode code 12 = .ok (.invokespecial 12, 3) := by decide +kernel
