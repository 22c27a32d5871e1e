/-! ===== a plan: how both sides hold it ===== -/
/-- (side, towns, seams, carts), (a seam's ends, its length), (a cart's from, to, load), laws, (frost, seed) -/
abbrev PP : Type := (Nat × Nat × Nat × Nat) × ((Nat → Nat) × (Nat → Nat) × (Nat → Nat)) × ((Nat → Nat) × (Nat → Nat) × (Nat → Nat)) × (Nat → List Br × List Op) × (Int32 × Int32)
def xv (P : PP) : Nat := P.1.1
def xN (P : PP) : Nat := P.1.2.1
def xS (P : PP) : Nat := P.1.2.2.1
def xC (P : PP) : Nat := P.1.2.2.2
def xf (P : PP) : Nat → Nat := P.2.1.1
def xg (P : PP) : Nat → Nat := P.2.1.2.1
def xl (P : PP) : Nat → Nat := P.2.1.2.2
def xa (P : PP) : Nat → Nat := P.2.2.1.1
def xb (P : PP) : Nat → Nat := P.2.2.1.2.1
def xd (P : PP) : Nat → Nat := P.2.2.1.2.2
def xL (P : PP) : Nat → List Br × List Op := P.2.2.2.1
def xz (P : PP) : Int32 := P.2.2.2.2.1
def xe (P : PP) : Int32 := P.2.2.2.2.2
/-- at how many of the first n seams a town is -/
def wyN (P : PP) (a : Nat) : Nat → Nat
  | 0 => 0
  | n + 1 => wyN P a n + (if xf P n = a ∨ xg P n = a then 1 else 0)
theorem wyN_le (P : PP) (a : Nat) : ∀ n, wyN P a n ≤ n := by
  intro n
  induction n with
  | zero => exact Nat.le_refl _
  | succ n ih => unfold wyN; split <;> omega
def lawD (k : Nat) : Op := if k = 0 then (0, 1) else if k = 1 then (0, 1) else if k = 2 then (0, 0) else (1, 0)
/-- a law, as both sides hold it -/
def LawC (I : Nat → Nat → Int32) (k : Nat) (r : List Br) (e : List Op) : Prop := ∃ sz p, I 35 3 = nI sz ∧ sz ≤ 408 ∧ I 38 k = nI p ∧ atL (I 36) p r e ∧ p + lnL r e ≤ sz
def LawM (I : Nat → Nat → Int32) (at' k : Nat) (r : List Br) (e : List Op) : Prop := (r = [] ∧ e = [lawD k] ∧ I 218 at' = I 217 at') ∨ (∃ q, I 217 at' = nI q ∧ I 218 at' = nI (q + r.length + 1) ∧ q + r.length + 1 ≤ 260 ∧ atB I q r e)
def smF (P : PP) (I : Nat → Nat → Int32) (i : Nat) : Prop := (I 26 i = nI (xf P i) ∧ I 27 i = nI (xg P i)) ∧ (xf P i < xN P ∧ xg P i < xN P ∧ xf P i ≠ xg P i) ∧ I 28 i = (1 <<< (nI (xf P i) &&& 31)) ||| (1 <<< (nI (xg P i) &&& 31)) ∧ (I 29 i = nI (xl P i) ∧ 1 ≤ xl P i ∧ xl P i ≤ 99) ∧ I 31 i = nI (wyN P (xf P i) (xS P)) ∧ I 204 (10 * xv P + i) = nI (xf P i) ∧ I 205 (10 * xv P + i) = nI (xg P i) ∧ I 206 (10 * xv P + i) = nI (xl P i)
def ctF (P : PP) (I : Nat → Nat → Int32) (c : Nat) : Prop := (I 32 c = nI (xa P c) ∧ I 33 c = nI (xb P c) ∧ I 34 c = nI (xd P c)) ∧ (xa P c < xN P ∧ xb P c < xN P ∧ xa P c ≠ xb P c ∧ xd P c ≤ 99) ∧ I 211 (4 * xv P + c) = nI (xa P c) ∧ I 212 (4 * xv P + c) = nI (xb P c) ∧ I 213 (4 * xv P + c) = nI (xd P c)
def PlR (P : PP) (I : Nat → Nat → Int32) : Prop :=
  (I 192 18 = nI (xv P) ∧ xv P < 2) ∧ (I 25 0 = nI (xN P) ∧ I 202 (xv P) = nI (xN P) ∧ xN P ≤ 7) ∧ (I 25 1 = nI (xS P) ∧ I 203 (xv P) = nI (xS P) ∧ xS P ≤ 10) ∧ (I 25 3 = nI (xC P) ∧ I 210 (xv P) = nI (xC P) ∧ xC P ≤ 4) ∧
  (∀ i, i < xS P → smF P I i) ∧ (∀ c, c < xC P → ctF P I c) ∧ (∀ k, k < 4 → okL (xL P k).1 (xL P k).2 ∧ LawC I k (xL P k).1 (xL P k).2 ∧ LawM I (4 * xv P + k) k (xL P k).1 (xL P k).2) ∧ ((I 25 6 = xz P ∧ I 215 (xv P) = xz P ∧ ∃ m, m ≤ 100 ∧ xz P = nI m) ∧ I 25 7 = xe P ∧ I 216 (xv P) = xe P)
section PlA
variable {P : PP} {I : Nat → Nat → Int32}
theorem PlR.v (h : PlR P I) : I 192 18 = nI (xv P) := h.1.1
theorem PlR.v2 (h : PlR P I) : xv P < 2 := h.1.2
theorem PlR.N (h : PlR P I) : I 25 0 = nI (xN P) := h.2.1.1
theorem PlR.Nm (h : PlR P I) : I 202 (xv P) = nI (xN P) := h.2.1.2.1
theorem PlR.N7 (h : PlR P I) : xN P ≤ 7 := h.2.1.2.2
theorem PlR.S (h : PlR P I) : I 25 1 = nI (xS P) := h.2.2.1.1
theorem PlR.Sm (h : PlR P I) : I 203 (xv P) = nI (xS P) := h.2.2.1.2.1
theorem PlR.S10 (h : PlR P I) : xS P ≤ 10 := h.2.2.1.2.2
theorem PlR.C (h : PlR P I) : I 25 3 = nI (xC P) := h.2.2.2.1.1
theorem PlR.Cm (h : PlR P I) : I 210 (xv P) = nI (xC P) := h.2.2.2.1.2.1
theorem PlR.C4 (h : PlR P I) : xC P ≤ 4 := h.2.2.2.1.2.2
theorem PlR.sm (h : PlR P I) {i : Nat} (hi : i < xS P) : smF P I i := h.2.2.2.2.1 i hi
theorem PlR.ct (h : PlR P I) {c : Nat} (hc : c < xC P) : ctF P I c := h.2.2.2.2.2.1 c hc
theorem PlR.lw (h : PlR P I) {k : Nat} (hk : k < 4) : okL (xL P k).1 (xL P k).2 ∧ LawC I k (xL P k).1 (xL P k).2 ∧ LawM I (4 * xv P + k) k (xL P k).1 (xL P k).2 := h.2.2.2.2.2.2.1 k hk
theorem PlR.fz (h : PlR P I) : I 25 6 = xz P ∧ I 215 (xv P) = xz P ∧ ∃ m, m ≤ 100 ∧ xz P = nI m := h.2.2.2.2.2.2.2.1
theorem PlR.sd (h : PlR P I) : I 25 7 = xe P ∧ I 216 (xv P) = xe P := h.2.2.2.2.2.2.2.2
end PlA
/-- the cells that a plan is held in -/
def plC : List Nat := [25, 26, 27, 28, 29, 31, 32, 33, 34, 35, 36, 38, 202, 203, 204, 205, 206, 210, 211, 212, 213, 215, 216, 217, 218, 219, 220, 221, 222, 223, 224, 225]
/-- the plan stays while its cells, and the field 18, stay -/
theorem PlR.kp {P : PP} {I I' : Nat → Nat → Int32} (h : PlR P I) (hk : ∀ k, k ∈ plC → I' k = I k) (h18 : I' 192 18 = I 192 18) : PlR P I' := by
  have e : ∀ k, k ∈ plC → I' k = I k := hk
  have e25 := e 25 (by decide); have e26 := e 26 (by decide); have e27 := e 27 (by decide); have e28 := e 28 (by decide); have e29 := e 29 (by decide)
  have e31 := e 31 (by decide); have e32 := e 32 (by decide); have e33 := e 33 (by decide); have e34 := e 34 (by decide); have e35 := e 35 (by decide); have e36 := e 36 (by decide); have e38 := e 38 (by decide)
  have e202 := e 202 (by decide); have e203 := e 203 (by decide); have e204 := e 204 (by decide); have e205 := e 205 (by decide); have e206 := e 206 (by decide); have e210 := e 210 (by decide)
  have e211 := e 211 (by decide); have e212 := e 212 (by decide); have e213 := e 213 (by decide); have e215 := e 215 (by decide); have e216 := e 216 (by decide); have e217 := e 217 (by decide); have e218 := e 218 (by decide)
  unfold PlR smF ctF LawC LawM at h ⊢
  rw [h18, e25, e202, e203, e210, e215, e216]
  obtain ⟨h1, h2, h3, h4, h5, h6, h7, h8⟩ := h
  refine ⟨h1, h2, h3, h4, fun i hi => ?_, fun c hc => ?_, fun k hk => ?_, h8⟩
  · rw [e26, e27, e28, e29, e31, e204, e205, e206]; exact h5 i hi
  · rw [e32, e33, e34, e211, e212, e213]; exact h6 c hc
  · rw [e35, e36, e38, e217, e218]
    obtain ⟨a, b, c⟩ := h7 k hk
    refine ⟨a, b, c.imp id (fun ⟨q, c1, c2, c3, c4⟩ => ⟨q, c1, c2, c3, atB_kp (fun k h1 h2 => e k ?_) _ _ _ c4⟩)⟩
    have hc : k = 219 ∨ k = 220 ∨ k = 221 ∨ k = 222 ∨ k = 223 ∨ k = 224 ∨ k = 225 := by omega
    rcases hc with rfl | rfl | rfl | rfl | rfl | rfl | rfl <;> decide
/-! what laws say depends on the nine variables alone -/
theorem evE_cg {vs vs' : Nat → Int32} (h : ∀ j, j < 9 → vs j = vs' j) : ∀ (l : List Op) (st : List Int32) (r : Nat), okE l st.length r → evE vs l st = evE vs' l st := by
  intro l
  induction l with
  | nil => intro st r _; rfl
  | cons o l ih =>
    intro st r hk
    rcases hk with ⟨a, b, c, d⟩ | ⟨a, b, c, d⟩ | ⟨a, b, c, d, e⟩
    · rw [evE_0 a, evE_0 a]; exact ih _ r d
    · rw [evE_1 a, evE_1 a, h _ b]; exact ih _ r d
    · match st, d, e with
      | y :: x :: st, d, e =>
        rw [evE_2 a, evE_2 a]
        by_cases h2 : o.1 = 5 ∧ y = 0
        · rw [if_pos h2, if_pos h2]
        · rw [if_neg h2, if_neg h2]; exact ih _ r (by simpa using e)
theorem evL_cg {vs vs' : Nat → Int32} (h : ∀ j, j < 9 → vs j = vs' j) : ∀ (r : List Br) (e : List Op), okL r e → evL vs r e = evL vs' r e := by
  intro r
  induction r with
  | nil =>
    intro e hk
    show tpV (evE vs e []) = tpV (evE vs' e [])
    rw [evE_cg h e [] 1 hk.1]
  | cons q r ih =>
    intro e hk
    obtain ⟨o1, o2, o3, o4⟩ := hk
    have e3 : (evE vs q.1 []).bind (evE vs q.2.1) = (evE vs' q.1 []).bind (evE vs' q.2.1) := by
      rw [evE_cg h q.1 [] 1 o1.1]
      rcases evE_one vs' o1.1 with hn | ⟨x, hx⟩
      · rw [hn]; rfl
      · rw [hx]; exact evE_cg h q.2.1 [x] 2 o2.2
    unfold evL
    rw [e3, evE_cg h q.2.2 [] 1 o3.1, ih e o4]
def vF (ln sw wk fr ca wh ld nw wy : Int32) (j : Nat) : Int32 := if j = 0 then ln else if j = 1 then sw else if j = 2 then wk else if j = 3 then fr else if j = 4 then ca else if j = 5 then wh else if j = 6 then ld else if j = 7 then nw else wy
/-- what a law says of a seam -/
def lawF (P : PP) (k i : Nat) (sw wk fr ca ld nw : Int32) : Int32 := h99 (evL (vF (nI (xl P i)) sw wk fr ca (nI i) ld nw (nI (wyN P (xf P i) (xS P)))) (xL P k).1 (xL P k).2)
def costF (P : PP) (i : Nat) (sw wk : Int32) : Int32 := lawF P 0 i sw wk 0 0 0 (if sw = 0 then 1 else 0)
def wearF (P : PP) (i : Nat) (sw wk fr ca : Int32) : Int32 := lawF P 1 i sw wk fr ca 0 0
def wayF (P : PP) (i : Nat) (sw wk : Int32) : Int32 := if (1 : Int32) < nI (xl P i) - lawF P 2 i sw wk 0 0 0 0 then nI (xl P i) - lawF P 2 i sw wk 0 0 0 0 else 1
def tollF (P : PP) (i : Nat) (sw wk ld : Int32) : Int32 := lawF P 3 i sw wk 0 0 ld 0
theorem lawF_nI (P : PP) (k i : Nat) (sw wk fr ca ld nw : Int32) : ∃ m : Nat, m ≤ 99 ∧ lawF P k i sw wk fr ca ld nw = nI m := h99_nI _
