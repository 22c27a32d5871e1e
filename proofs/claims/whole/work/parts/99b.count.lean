/-! ===== cart, count ===== -/
section RG
variable {P : PP} {I : Nat → Nat → Int32} {J : Nat → Nat → Int64} {d : Nat} {A : AS} {E : ES}
def cartQ (P : PP) (x : XS) (a w : Int32) : Int32 := if oneOf a (xC P) = 0 then -1 else if w = nI 0 then nI (xa P a.toNatClampNeg) else if w = nI 1 then nI (xb P a.toNatClampNeg) else if w = nI 2 then nI (xd P a.toNatClampNeg) else if zI (¬ w < 3 ∧ ¬ 7 < w) = 0 then -1 else x.2.2 a.toNatClampNeg (w.toNatClampNeg - 3)
theorem c_cart (hd : 2 ≤ d) (h : SC P I A E) (a w : Int32) : cKK d 125 [.ref 0, .int a, .int w] P I J (cartQ P A.1.2 a w) A E := by
  obtain ⟨d, rfl⟩ : ∃ z, d = z + 1 := ⟨d - 1, by omega⟩
  have hC := h.1.C4
  refine ⟨I, ?_, FC.rf, h⟩
  unfold cartQ
  rw [e_X11_cart, runS_M, s_X11_cart_0, q_cart (by omega) h.1, p_ci_s]
  rcases oneOf_c (a := a) (N := xC P) (by omega) with e | ⟨e, c, hc, rfl⟩
  · rw [if_pos e, if_pos e]; rfl
  have hne : ¬ oneOf (nI c) (xC P) = 0 := by rw [e]; decide
  obtain ⟨⟨g1, g2, g3⟩, -⟩ := h.1.ct hc
  have hp : ∀ z : Option Rs, p_chk (p_in (nI c) 4) z = z := fun z => chk_in (by omega) (by omega)
  rw [if_neg hne, if_neg hne, hp, hp, hp, nI_clamp (by omega)]
  dsimp only
  rw [g1, g2, g3]
  by_cases w0 : w = nI 0
  · rw [if_pos w0, if_pos w0]; rfl
  rw [if_neg w0, if_neg w0]
  by_cases w1 : w = nI 1
  · rw [if_pos w1, if_pos w1]; rfl
  rw [if_neg w1, if_neg w1]
  by_cases w2 : w = nI 2
  · rw [if_pos w2, if_pos w2]; rfl
  rw [if_neg w2, if_neg w2, q_within (by omega), p_ci_s]
  rcases in_c (n := w) (lo := 3) (hi := 7) (l := 3) (h := 7) rfl rfl (by omega) (by omega) with e2 | ⟨e2, k, k1, k2, rfl⟩
  · rw [if_pos e2, if_pos e2]; rfl
  have hne2 : ¬ zI (¬ nI k < (3 : Int32) ∧ ¬ (7 : Int32) < nI k) = 0 := by rw [e2]; decide
  rw [if_neg hne2, if_neg hne2, show (999999 : Nat) = 999998 + 1 from rfl, runS_s, s_X11_cart_76, show nI k - 3 = nI (k - 3) from pk_sub (b := 3) (by omega), q_cf_39 (by omega) (f := k - 3) (by omega) (by omega) rfl, p_ci_s, nI_clamp (by omega), h.2.1.1.2.2.1 c hc (k - 3) (by omega)]
  rfl
theorem m_cart (hd : 3 ≤ d) (h : SM P I A E) (a w : Int32) : mKK d 230 [.ref 192, .int a, .int w] P I J (cartQ P A.1.2 a w) A E := by
  obtain ⟨d, rfl⟩ : ∃ z, d = z + 1 := ⟨d - 1, by omega⟩
  have hC := h.1.C4
  have hv := h.1.v2
  refine ⟨I, ?_, FM.rf, h⟩
  unfold cartQ
  rw [e_X12_cart, runS_M, s_X12_cart_0, q_cartR (by omega) h.1, p_ci_s]
  rcases oneOf_c (a := a) (N := xC P) (by omega) with e | ⟨e, c, hc, rfl⟩
  · rw [if_pos e, if_pos e]; rfl
  have hne : ¬ oneOf (nI c) (xC P) = 0 := by rw [e]; decide
  obtain ⟨-, -, g1, g2, g3⟩ := h.1.ct hc
  have e4 : (4 : Int32) * nI (xv P) + nI c = nI (4 * xv P + c) := by rw [show (4 : Int32) * nI (xv P) = nI (4 * xv P) from pk_mul 4 (xv P), nI_add]
  have hp : ∀ z : Option Rs, p_chk (p_in (nI (4 * xv P + c)) 8) z = z := fun z => chk_in (by omega) (by omega)
  rw [if_neg hne, if_neg hne, nI_clamp (by omega)]
  dsimp only
  rw [h.1.v, e4, hp, hp, hp, nI_clamp (by omega), g1, g2, g3]
  by_cases w0 : w = nI 0
  · rw [if_pos w0, if_pos w0]; rfl
  rw [if_neg w0, if_neg w0]
  by_cases w1 : w = nI 1
  · rw [if_pos w1, if_pos w1]; rfl
  rw [if_neg w1, if_neg w1]
  by_cases w2 : w = nI 2
  · rw [if_pos w2, if_pos w2]; rfl
  rw [if_neg w2, if_neg w2]
  rcases in_c (n := w) (lo := 3) (hi := 7) (l := 3) (h := 7) rfl rfl (by omega) (by omega) with e2 | ⟨e2, k, k1, k2, rfl⟩
  · have hx : ∀ j, 3 ≤ j → j ≤ 7 → ¬ w = nI j := fun j j1 j2 h9 => by
      rw [h9] at e2
      have : zI (¬ nI j < (3 : Int32) ∧ ¬ (7 : Int32) < nI j) = 1 := zI_t ⟨nI_nlt (b := 3) (by omega) (by omega), nI_nlt (a := 7) (by omega) (by omega)⟩
      rw [this] at e2; exact absurd e2 (by decide)
    rw [if_pos e2, if_neg (hx 3 (by omega) (by omega)), if_neg (hx 4 (by omega) (by omega)), if_neg (hx 5 (by omega) (by omega)), if_neg (hx 6 (by omega) (by omega)), if_neg (hx 7 (by omega) (by omega))]; rfl
  have hne2 : ¬ zI (¬ nI k < (3 : Int32) ∧ ¬ (7 : Int32) < nI k) = 0 := by rw [e2]; decide
  have ei : (4 : Int32) * nI k - 2 + nI c = nI (10 + 4 * (k - 3) + c) := by
    rw [show (4 : Int32) * nI k = nI (4 * k) from pk_mul 4 k, show nI (4 * k) - 2 = nI (4 * k - 2) from pk_sub (b := 2) (by omega), nI_add]; congr 1; omega
  have hp2 : ∀ z : Option Rs, p_chk (p_in (nI (10 + 4 * (k - 3) + c)) 32) z = z := fun z => chk_in (by omega) (by omega)
  rw [if_neg hne2, ei, hp2, nI_clamp (show 10 + 4 * (k - 3) + c < 2 ^ 31 by omega), nI_clamp (show k < 2 ^ 31 by omega), h.2.1.1.2.2.1 c hc (k - 3) (by omega)]
  have hk : k = 3 ∨ k = 4 ∨ k = 5 ∨ k = 6 ∨ k = 7 := by omega
  rcases hk with rfl | rfl | rfl | rfl | rfl
  · rw [if_pos rfl]; rfl
  · rw [if_neg (by decide), if_pos rfl]; rfl
  · rw [if_neg (by decide), if_neg (by decide), if_pos rfl]; rfl
  · rw [if_neg (by decide), if_neg (by decide), if_neg (by decide), if_pos rfl]; rfl
  · rw [if_neg (by decide), if_neg (by decide), if_neg (by decide), if_neg (by decide), if_pos rfl]; rfl
/-! count -/
def whM (P : PP) (s : Nat → Nat) : Int32 := (List.range' 0 (xS P)).foldl (setF (fun i => 0 < s i)) 0
def onM (P : PP) (q : Nat → Nat → Int32) : Int32 := (List.range' 0 (xC P)).foldl (setF (fun c => q c 1 = 1)) 0
def hsV (o : Option YS) : Int32 := if o = none then 0 else 1
def hsN (f : Nat → Option YS) : Int32 := 0 + hsV (f 0) + hsV (f 1) + hsV (f 2)
def sumQ (P : PP) (s : Nat → Nat) : Int32 := (List.range' 0 (xS P)).foldl (fun c i => c + nI (s i)) 0
def cntQ (P : PP) (A : AS) (E : ES) (a : Int32) : Int32 := if a = nI 0 then nI (xN P) else if a = nI 1 then nI (xS P) else if a = nI 2 then E.2.2.2.1 else if a = nI 3 then nI (xC P) else if a = nI 4 then A.1.2.2.1 else if a = nI 5 then A.1.1 else if a = nI 6 then whM P A.1.2.1 else if a = nI 7 then onM P A.1.2.2.2 else if a = nI 8 then nI E.1 else if a = nI 9 then nI A.2.1.1 else if a = nI 10 then nI A.2.2.2.1 else if a = nI 11 then hsN A.2.2.1 else if a = nI 12 then zI (¬ xz P ≤ lotF (xe P) A.1.2.2.1) else if a = nI 13 then nI E.2.2.2.2 else if a = nI 14 then sumQ P A.1.2.1 else -1
theorem q_whole (hd : 1 ≤ d) (h : SC P I A E) : EV d T0 96 [.ref 39, .ref 25] (I, J) = some (some (.int (whM P A.1.2.1)), (I, J)) := by
  have h10 := h.1.S10
  obtain ⟨a, t1, t2⟩ := ev_whole_39 (d := d) (J := J) hd h.1 h.cx.2.1
  rw [t1]
  have e : a = whM P A.1.2.1 := b_ext (fun i hi => by
    rw [t2]; unfold whM
    rw [bt_set _ _ _ (by omega), b_0, Bool.false_or]
    apply decide_eq_decide.mpr
    constructor
    · rintro ⟨h2, h3⟩; exact ⟨by omega, by omega, h3⟩
    · rintro ⟨_, h2, h3⟩; exact ⟨by omega, h3⟩)
  rw [e]
theorem q_onM (hd : 3 ≤ d) (h : SC P I A E) : EV d T0 97 [.ref 39, .ref 25] (I, J) = some (some (.int (onM P A.1.2.2.2)), (I, J)) := by
  have hC := h.1.C4
  obtain ⟨a, t1, -, t2⟩ := ev_onR_39 (d := d) (J := J) hd h.1
  rw [t1]
  have e : a = onM P A.1.2.2.2 := b_ext (fun i hi => by
    rw [t2]; unfold onM
    rw [bt_set _ _ _ (by omega), b_0, Bool.false_or]
    apply decide_eq_decide.mpr
    constructor
    · rintro ⟨h2, h3⟩
      rw [show I 41 (5 * i + 1) = A.1.2.2.2 i 1 from h.2.1.1.2.2.1 i h2 1 (by omega)] at h3
      exact ⟨by omega, by omega, ((h.2.1.2.1.1 i h2).2).resolve_left h3⟩
    · rintro ⟨_, h2, h3⟩
      have h4 : i < xC P := by omega
      refine ⟨h4, ?_⟩
      rw [show I 41 (5 * i + 1) = A.1.2.2.2 i 1 from h.2.1.1.2.2.1 i h4 1 (by omega), h3]; decide)
  rw [e]
theorem slC_v {s : Nat} {o : Option YS} (h : slC P I s o) : I 168 s = hsV o := by
  cases o with
  | none => exact h
  | some y => exact h.1
theorem slM_v {s : Nat} {o : Option YS} (h : slM P I s o) : I 241 s = hsV o := by
  cases o with
  | none => exact h
  | some y => exact h.1
theorem hsV_c (o : Option YS) : hsV o = 0 ∨ hsV o = 1 := by
  cases o with
  | none => exact Or.inl rfl
  | some y => exact Or.inr rfl
theorem hs1 {O : Ora} {n : Nat} (h : SC P I A E) {s : Nat} (hs : s < 3) (x : Int32) : runS O none 3 T0 C_X11_heldSlots k_X11_heldSlots rtI f_X11_heldSlots (n + 1) 4 [.ref 0, .int x, .int (nI s)] [] (I, J) = runS O none 3 T0 C_X11_heldSlots k_X11_heldSlots rtI f_X11_heldSlots n 4 [.ref 0, .int (x + hsV (A.2.2.1 s)), .int (nI (s + 1))] [] (I, J) := by
  have hv := slC_v (h.2.1.2.2.2.1 s hs)
  rw [runS_s, s_X11_heldSlots_4, if_neg (show ¬ (3 : Int32) ≤ nI (s) from nI_ge (a := s) (b := 3) (by omega) (by omega)), chk_in hs (by omega), nI_clamp (by omega), hv, nI_1]
  rcases hsV_c (A.2.2.1 s) with e | e
  · rw [e, if_pos rfl, Int32.add_zero]
  · rw [e, if_neg (by decide)]
theorem q_heldSlots (hd : 1 ≤ d) (h : SC P I A E) : EV d T0 156 [.ref 0] (I, J) = some (some (.int (hsN A.2.2.1)), (I, J)) := by
  obtain ⟨d, rfl⟩ : ∃ z, d = z + 1 := ⟨d - 1, by omega⟩
  rw [e_X11_heldSlots, runS_M, s_X11_heldSlots_0]
  have e1 := hs1 (O := EV d) (J := J) (n := 999998) h (s := 0) (by omega) 0
  have e2 := hs1 (O := EV d) (J := J) (n := 999997) h (s := 1) (by omega) (0 + hsV (A.2.2.1 0))
  have e3 := hs1 (O := EV d) (J := J) (n := 999996) h (s := 2) (by omega) (0 + hsV (A.2.2.1 0) + hsV (A.2.2.1 1))
  refine e1.trans (e2.trans (e3.trans ?_))
  rw [show (999996 : Nat) = 999995 + 1 from rfl, runS_s, s_X11_heldSlots_4, if_pos (by decide)]
  rfl
theorem lp_sum {O : Ora} (h : SC P I A E) : ∀ (k i n : Nat) (c : Int32), i + k = xS P → k < n →
    runS O none 4 T0 C_X8_sewnTogether k_X8_sewnTogether rtI f_X8_sewnTogether n 4 [.ref 39, .ref 25, .int c, .int (nI i)] [] (I, J) = some (some (.int ((List.range' i k).foldl (fun c i => c + nI (A.1.2.1 i)) c)), (I, J)) := by
  have h10 := h.1.S10
  intro k
  induction k with
  | zero =>
    intro i n c hi hn
    obtain ⟨n, rfl⟩ : ∃ z, n = z + 1 := ⟨n - 1, by omega⟩
    rw [runS_s, s_X8_sewnTogether_4, h.1.S, if_pos (nI_le (by omega) (by omega))]
    rfl
  | succ k ih =>
    intro i n c hi hn
    obtain ⟨n, rfl⟩ : ∃ z, n = z + 1 := ⟨n - 1, by omega⟩
    have e : I 40 i = nI (A.1.2.1 i) := (h.2.1.1.1 i (by omega)).1
    rw [runS_s, s_X8_sewnTogether_4, h.1.S, if_neg (nI_ge (by omega) (by omega)), chk_in (by omega) (by omega), nI_clamp (by omega), e, nI_1, List.range'_succ, List.foldl_cons]
    exact ih (i + 1) n _ (by omega) (by omega)
theorem q_sumC (hd : 1 ≤ d) (h : SC P I A E) : EV d T0 98 [.ref 39, .ref 25] (I, J) = some (some (.int (sumQ P A.1.2.1)), (I, J)) := by
  obtain ⟨d, rfl⟩ : ∃ z, d = z + 1 := ⟨d - 1, by omega⟩
  have h10 := h.1.S10
  rw [e_X8_sewnTogether, runS_M, s_X8_sewnTogether_0]
  exact lp_sum h (xS P) 0 999999 0 (by omega) (by omega)
theorem zI_ite {p : Prop} [Decidable p] {α : Type} {x y : α} : (if zI p = 0 then x else y) = if p then y else x := by
  by_cases c : p
  · rw [if_pos c, if_neg (by rw [zI_t c]; decide)]
  · rw [if_neg c, if_pos (zI_f c)]
theorem c_count (hd : 4 ≤ d) (h : SC P I A E) (a : Int32) : cKK d 154 [.ref 0, .int a] P I J (cntQ P A E a) A E := by
  obtain ⟨d, rfl⟩ : ∃ z, d = z + 1 := ⟨d - 1, by omega⟩
  refine ⟨I, ?_, FC.rf, h⟩
  have hh := h.2.1.2.2.1
  obtain ⟨o, o1, o2, o3, o4, o5⟩ := hh
  unfold cntQ
  rw [e_X11_count, runS_M, s_X11_count_0, h.1.N, h.1.S, h.1.C, h.2.2.2.2.2.2.1, h.2.1.1.2.1, h.2.1.1.2.2.2, q_whole (by omega) h, q_onM (by omega) h, h.2.2.1, o3, h.2.1.2.2.2.2.1, q_heldSlots (by omega) h, h.1.sd.1, ev_isFrost (by omega) h.1, h.2.2.2.2.2.2.2.1, q_sumC (by omega) h, p_ci_s, p_ci_s, p_ci_s, p_ci_s, p_ci_s]
  have hz : (if zI (¬ xz P ≤ lotF (xe P) A.1.2.2.1) = 0 then rtI (some (.int 0)) (I, J) else rtI (some (.int 1)) (I, J)) = rtI (some (.int (zI (¬ xz P ≤ lotF (xe P) A.1.2.2.1)))) (I, J) := by
    by_cases c : ¬ xz P ≤ lotF (xe P) A.1.2.2.1
    · rw [zI_t c, if_neg (by decide)]
    · rw [zI_f c, if_pos rfl]
  rw [hz]
  by_cases c0 : a = nI 0
  · rw [if_pos c0, if_pos c0]; rfl
  rw [if_neg c0, if_neg c0]
  by_cases c1 : a = nI 1
  · rw [if_pos c1, if_pos c1]; rfl
  rw [if_neg c1, if_neg c1]
  by_cases c2 : a = nI 2
  · rw [if_pos c2, if_pos c2]; rfl
  rw [if_neg c2, if_neg c2]
  by_cases c3 : a = nI 3
  · rw [if_pos c3, if_pos c3]; rfl
  rw [if_neg c3, if_neg c3]
  by_cases c4 : a = nI 4
  · rw [if_pos c4, if_pos c4]; rfl
  rw [if_neg c4, if_neg c4]
  by_cases c5 : a = nI 5
  · rw [if_pos c5, if_pos c5]; rfl
  rw [if_neg c5, if_neg c5]
  by_cases c6 : a = nI 6
  · rw [if_pos c6, if_pos c6]; rfl
  rw [if_neg c6, if_neg c6]
  by_cases c7 : a = nI 7
  · rw [if_pos c7, if_pos c7]; rfl
  rw [if_neg c7, if_neg c7]
  by_cases c8 : a = nI 8
  · rw [if_pos c8, if_pos c8]; rfl
  rw [if_neg c8, if_neg c8]
  by_cases c9 : a = nI 9
  · rw [if_pos c9, if_pos c9]; rfl
  rw [if_neg c9, if_neg c9]
  by_cases c10 : a = nI 10
  · rw [if_pos c10, if_pos c10]; rfl
  rw [if_neg c10, if_neg c10]
  by_cases c11 : a = nI 11
  · rw [if_pos c11, if_pos c11]; rfl
  rw [if_neg c11, if_neg c11]
  by_cases c12 : a = nI 12
  · rw [if_pos c12, if_pos c12]; rfl
  rw [if_neg c12, if_neg c12]
  by_cases c13 : a = nI 13
  · rw [if_pos c13, if_pos c13]; rfl
  rw [if_neg c13, if_neg c13]
  by_cases c14 : a = nI 14
  · rw [if_pos c14, if_pos c14]; rfl
  rw [if_neg c14, if_neg c14]
  rfl
theorem lp_cnt6 {O : Ora} (hp : PlR P I) {y : YS} (h : stM P (I 230) y) : ∀ (k i n : Nat) (w : Int32), i + k = xS P → k < n →
    runS O none 4 T0 C_X12_count k_X12_count rtI f_X12_count n 138 [.ref 192, un, .int w, .int (nI i)] [] (I, J) = some (some (.int ((List.range' i k).foldl (setF (fun i => 0 < y.2.1 i)) w)), (I, J)) := by
  have h10 := hp.S10
  have hv := hp.v2
  intro k
  induction k with
  | zero =>
    intro i n w hi hn
    obtain ⟨n, rfl⟩ : ∃ z, n = z + 1 := ⟨n - 1, by omega⟩
    rw [runS_s, s_X12_count_138, hp.v, chk_in hv (by omega), nI_clamp (by omega), hp.Sm, if_pos (nI_le (by omega) (by omega))]
    rfl
  | succ k ih =>
    intro i n w hi hn
    obtain ⟨n, rfl⟩ : ∃ z, n = z + 1 := ⟨n - 1, by omega⟩
    have e := h.1 i (by omega)
    rw [runS_s, s_X12_count_138, hp.v, chk_in hv (by omega), nI_clamp (by omega), hp.Sm, if_neg (nI_ge (by omega) (by omega)), chk_in (by omega) (by omega), nI_clamp (by omega), nI_1, List.range'_succ, List.foldl_cons]
    simp only [e.1, le0_nI (show y.2.1 i < 2 ^ 31 by have := e.2; omega)]
    by_cases c : y.2.1 i = 0
    · rw [if_pos c, show setF (fun i => 0 < y.2.1 i) w i = w from if_neg (by omega)]
      exact ih (i + 1) n _ (by omega) (by omega)
    · rw [if_neg c, show setF (fun i => 0 < y.2.1 i) w i = w ||| (1 <<< (nI i &&& 31)) from if_pos (by omega)]
      exact ih (i + 1) n _ (by omega) (by omega)
theorem lp_cnt7 {O : Ora} (hp : PlR P I) {y : YS} (h : stM P (I 230) y) : ∀ (k i n : Nat) (w : Int32), i + k = xC P → k < n →
    runS O none 4 T0 C_X12_count k_X12_count rtI f_X12_count n 176 [.ref 192, un, .int w, .int (nI i)] [] (I, J) = some (some (.int ((List.range' i k).foldl (setF (fun c => y.2.2.2 c 1 = 1)) w)), (I, J)) := by
  have hC := hp.C4
  have hv := hp.v2
  intro k
  induction k with
  | zero =>
    intro i n w hi hn
    obtain ⟨n, rfl⟩ : ∃ z, n = z + 1 := ⟨n - 1, by omega⟩
    rw [runS_s, s_X12_count_176, hp.v, chk_in hv (by omega), nI_clamp (by omega), hp.Cm, if_pos (nI_le (by omega) (by omega))]
    rfl
  | succ k ih =>
    intro i n w hi hn
    obtain ⟨n, rfl⟩ : ∃ z, n = z + 1 := ⟨n - 1, by omega⟩
    have e : I 230 (14 + i) = y.2.2.2 i 1 := h.2.2.1 i (by omega) 1 (by omega)
    rw [runS_s, s_X12_count_176, hp.v, chk_in hv (by omega), nI_clamp (by omega), hp.Cm, if_neg (nI_ge (by omega) (by omega)), show (14 : Int32) + nI i = nI (14 + i) from nI_add 14 i, chk_in (by omega) (by omega), nI_clamp (by omega), nI_1, List.range'_succ, List.foldl_cons]
    simp only [e]
    by_cases c : y.2.2.2 i 1 = 1
    · rw [if_pos c, show setF (fun c => y.2.2.2 c 1 = 1) w i = w ||| (1 <<< (nI i &&& 31)) from if_pos c]
      exact ih (i + 1) n _ (by omega) (by omega)
    · rw [if_neg c, show setF (fun c => y.2.2.2 c 1 = 1) w i = w from if_neg c]
      exact ih (i + 1) n _ (by omega) (by omega)
theorem lp_cnt14 {O : Ora} (hp : PlR P I) {y : YS} (h : stM P (I 230) y) : ∀ (k i n : Nat) (w : Int32), i + k = xS P → k < n →
    runS O none 4 T0 C_X12_count k_X12_count rtI f_X12_count n 301 [.ref 192, un, .int w, .int (nI i)] [] (I, J) = some (some (.int ((List.range' i k).foldl (fun c i => c + nI (y.2.1 i)) w)), (I, J)) := by
  have h10 := hp.S10
  have hv := hp.v2
  intro k
  induction k with
  | zero =>
    intro i n w hi hn
    obtain ⟨n, rfl⟩ : ∃ z, n = z + 1 := ⟨n - 1, by omega⟩
    rw [runS_s, s_X12_count_301, hp.v, chk_in hv (by omega), nI_clamp (by omega), hp.Sm, if_pos (nI_le (by omega) (by omega))]
    rfl
  | succ k ih =>
    intro i n w hi hn
    obtain ⟨n, rfl⟩ : ∃ z, n = z + 1 := ⟨n - 1, by omega⟩
    have e := h.1 i (by omega)
    rw [runS_s, s_X12_count_301, hp.v, chk_in hv (by omega), nI_clamp (by omega), hp.Sm, if_neg (nI_ge (by omega) (by omega)), chk_in (by omega) (by omega), nI_clamp (by omega), nI_1, e.1, List.range'_succ, List.foldl_cons]
    exact ih (i + 1) n _ (by omega) (by omega)
theorem cnt11 {O : Ora} {n : Nat} (h : SM P I A E) : (if I 241 0 = 0 then runS O none 4 T0 C_X12_count k_X12_count rtI f_X12_count (n + 1 + 1) 245 [.ref 192, un, un, un] [.int 0] (I, J) else runS O none 4 T0 C_X12_count k_X12_count rtI f_X12_count (n + 1 + 1) 245 [.ref 192, un, un, un] [.int 1] (I, J)) = some (some (.int (hsN A.2.2.1)), (I, J)) := by
  have h0 := slM_v (h.2.1.2.2.2.1 0 (by omega))
  have h1 := slM_v (h.2.1.2.2.2.1 1 (by omega))
  have h2 := slM_v (h.2.1.2.2.2.1 2 (by omega))
  unfold hsN
  have c1 : ∀ t : Int32, runS O none 4 T0 C_X12_count k_X12_count rtI f_X12_count (n + 1 + 1) 245 [.ref 192, un, un, un] [.int t] (I, J) = some (some (.int (t + hsV (A.2.2.1 1) + hsV (A.2.2.1 2))), (I, J)) := by
    intro t
    rw [runS_s, s_X12_count_245, h1]
    rcases hsV_c (A.2.2.1 1) with e | e <;> rcases hsV_c (A.2.2.1 2) with e' | e'
    · rw [e, if_pos rfl, runS_s, s_X12_count_259, h2, e', if_pos rfl]; rfl
    · rw [e, if_pos rfl, runS_s, s_X12_count_259, h2, e', if_neg (by decide)]; rfl
    · rw [e, if_neg (by decide), runS_s, s_X12_count_259, h2, e', if_pos rfl]; rfl
    · rw [e, if_neg (by decide), runS_s, s_X12_count_259, h2, e', if_neg (by decide)]; rfl
  rw [h0]
  rcases hsV_c (A.2.2.1 0) with e | e
  · rw [e, if_pos rfl, c1]; rfl
  · rw [e, if_neg (by decide), c1]; rfl
theorem m_count (hd : 4 ≤ d) (h : SM P I A E) (a : Int32) : mKK d 272 [.ref 192, .int a] P I J (cntQ P A E a) A E := by
  obtain ⟨d, rfl⟩ : ∃ z, d = z + 1 := ⟨d - 1, by omega⟩
  have h10 := h.1.S10
  have hC := h.1.C4
  have hv := h.1.v2
  obtain ⟨I1, t1, t2, t3, t4, t5, t6, -⟩ := h.row (d := d) (J := J) (by omega)
  refine ⟨I1, ?_, t2, t3⟩
  unfold cntQ
  have hp : ∀ z : Option Rs, p_chk (p_in (nI (xv P)) 2) z = z := fun z => chk_in hv (by omega)
  have q6 := lp_cnt6 (O := EV d) (J := J) t3.1 t4 (xS P) 0 999999 0 (by omega) (by omega)
  have q7 := lp_cnt7 (O := EV d) (J := J) t3.1 t4 (xC P) 0 999999 0 (by omega) (by omega)
  have q14 := lp_cnt14 (O := EV d) (J := J) t3.1 t4 (xS P) 0 999999 0 (by omega) (by omega)
  have q11 := cnt11 (O := EV d) (J := J) (n := 999997) t3
  have q12 : (p_ci (EV d T0 212 [.ref 192] (I1, J)) (fun v3 z2 => if v3 = 0 then rtI (some (.int 0)) z2 else runS (EV d) none 4 T0 C_X12_count k_X12_count rtI f_X12_count 999999 283 [un, un, un, un] [] z2)) = some (some (.int (zI (¬ xz P ≤ lotF (xe P) A.1.2.2.1))), (I1, J)) := by
    rw [ev_isFrostR (by omega) t3.1, p_ci_s, t5, t4.2.1]
    by_cases c : ¬ xz P ≤ lotF (xe P) A.1.2.2.1
    · rw [zI_t c, if_neg (by decide), show (999999 : Nat) = 999998 + 1 from rfl, runS_s, s_X12_count_283]; rfl
    · rw [zI_f c, if_pos rfl]; rfl
  rw [e_X12_count, runS_M, s_X12_count_0, t1, p_cv_s]
  by_cases c0 : a = nI 0
  · rw [if_pos c0, if_pos c0]; dsimp only; rw [t3.1.v, hp, nI_clamp (by omega), t3.1.Nm]; rfl
  rw [if_neg c0, if_neg c0]
  by_cases c1 : a = nI 1
  · rw [if_pos c1, if_pos c1]; dsimp only; rw [t3.1.v, hp, nI_clamp (by omega), t3.1.Sm]; rfl
  rw [if_neg c1, if_neg c1]
  by_cases c2 : a = nI 2
  · rw [if_pos c2, if_pos c2]; dsimp only; rw [t3.1.v, hp, nI_clamp (by omega), t3.2.2.2.2.2.2.1]; rfl
  rw [if_neg c2, if_neg c2]
  by_cases c3 : a = nI 3
  · rw [if_pos c3, if_pos c3]; dsimp only; rw [t3.1.v, hp, nI_clamp (by omega), t3.1.Cm]; rfl
  rw [if_neg c3, if_neg c3]
  by_cases c4 : a = nI 4
  · rw [if_pos c4, if_pos c4]; dsimp only; rw [t4.2.1]; rfl
  rw [if_neg c4, if_neg c4]
  by_cases c5 : a = nI 5
  · rw [if_pos c5, if_pos c5]; dsimp only; rw [t4.2.2.2]; rfl
  rw [if_neg c5, if_neg c5]
  by_cases c6 : a = nI 6
  · rw [if_pos c6, if_pos c6]; exact q6
  rw [if_neg c6, if_neg c6]
  by_cases c7 : a = nI 7
  · rw [if_pos c7, if_pos c7]; exact q7
  rw [if_neg c7, if_neg c7]
  by_cases c8 : a = nI 8
  · rw [if_pos c8, if_pos c8]; dsimp only; rw [t3.2.2.1]; rfl
  rw [if_neg c8, if_neg c8]
  by_cases c9 : a = nI 9
  · rw [if_pos c9, if_pos c9]; dsimp only; rw [t3.2.1.2.2.1.1]; rfl
  rw [if_neg c9, if_neg c9]
  by_cases c10 : a = nI 10
  · rw [if_pos c10, if_pos c10]; dsimp only; rw [t3.2.1.2.2.2.2.1]; rfl
  rw [if_neg c10, if_neg c10]
  by_cases c11 : a = nI 11
  · rw [if_pos c11, if_pos c11]; exact q11
  rw [if_neg c11, if_neg c11]
  by_cases c12 : a = nI 12
  · rw [if_pos c12, if_pos c12]; exact q12
  rw [if_neg c12, if_neg c12]
  by_cases c13 : a = nI 13
  · rw [if_pos c13, if_pos c13]; dsimp only; rw [t3.1.v, hp, nI_clamp (by omega), t3.2.2.2.2.2.2.2.1]; rfl
  rw [if_neg c13, if_neg c13]
  by_cases c14 : a = nI 14
  · rw [if_pos c14, if_pos c14]; exact q14
  rw [if_neg c14, if_neg c14]; rfl
end RG
