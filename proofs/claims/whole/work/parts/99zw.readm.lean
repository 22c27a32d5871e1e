/-! ===== read: the reference's call ===== -/
section TB1
variable {I : Nat → Nat → Int32} {J : Nat → Nat → Int64} {d : Nat}
theorem lp_text {O : Ora} {N : Nat} (hN : I 192 4 = nI N) (h2 : N ≤ 2000) : ∀ (k i n : Nat) (g : Nat → Int32), i + k = N → (∀ j, j < i → g j = vp_nar .byte (I 193 j)) → 
    ∃ g', runS O none 2 T0 C_X12_read k_X12_read rtI f_X12_read (n + k) 10 [.ref 192, .int (nI i)] [] (cs I 194 g, J) = runS O none 2 T0 C_X12_read k_X12_read rtI f_X12_read n 10 [.ref 192, .int (nI N)] [] (cs I 194 g', J) ∧ ∀ j, j < N → g' j = vp_nar .byte (I 193 j) := by
  intro k
  induction k with
  | zero =>
    intro i n g hi hg
    have e : i = N := by omega
    subst e
    exact ⟨g, rfl, hg⟩
  | succ k ih =>
    intro i n g hi hg
    obtain ⟨g', u1, u2⟩ := ih (i + 1) n (upd g i (vp_nar .byte (I 193 i))) (by omega) (fun j hj => by
      by_cases c : j = i
      · rw [c, pk_us]
      · rw [pk_un c]; exact hg j (by omega))
    refine ⟨g', ?_, u2⟩
    rw [show n + (k + 1) = (n + k) + 1 by omega, runS_s, s_X12_read_10, cs_ne (show (192 : Nat) ≠ 194 by decide), hN, if_neg (nI_ge (by omega) (by omega)), chk_in (by omega) (by omega), chk_in (by omega) (by omega), nI_clamp (by omega), cs_ne (show (193 : Nat) ≠ 194 by decide), nI_1, wr_cs2]
    exact u1
theorem ev_plain (hd : 1 ≤ d) {v : Nat} (hv : v < 2) : ∃ I', EV d T0 183 [.ref 192, .int (nI v)] (I, J) = some (none, (I', J)) ∧ rmF I I' v ∧ kp [202, 203, 208, 209, 210, 214, 215, 216, 217, 218] I I' ∧ cnM I' v (0, 0, 0, 0) ∧ vlM I' v (0, 100, 0, 0) ∧ ∀ k, k < 4 → I' 218 (4 * v + k) = I' 217 (4 * v + k) := by
  obtain ⟨d, rfl⟩ : ∃ z, d = z + 1 := ⟨d - 1, by omega⟩
  let I0 := p_wr (p_wr (p_wr (p_wr (p_wr I 202 v 0) 203 v 0) 208 v 0) 209 v 0) 210 v 0
  let I1 := p_wr (p_wr (p_wr I0 214 v 100) 215 v 0) 216 v 0
  let L : (Nat → Nat → Int32) → Nat → Nat → Nat → Int32 := fun X k => p_wr (p_wr X 217 (4 * v + k) 0) 218 (4 * v + k) 0
  let I5 := L (L (L (L I1 0) 1) 2) 3
  have ch : ∀ z : Option Rs, p_chk (p_in (nI v) 2) z = z := fun z => chk_in (by omega) (by omega)
  have hv1 : ∀ k, sdN k = 1 → sdN k * v ≤ v ∧ v < sdN k * v + sdN k := fun k e => by rw [e]; omega
  have r0 : rmF I I0 v := (((((rmF_w (k := 202) (by decide) (by omega) (hv1 _ rfl)).tr (rmF_w (k := 203) (by decide) (by omega) (hv1 _ rfl))).tr (rmF_w (k := 208) (by decide) (by omega) (hv1 _ rfl))).tr (rmF_w (k := 209) (by decide) (by omega) (hv1 _ rfl))).tr (rmF_w (k := 210) (by decide) (by omega) (hv1 _ rfl)))
  have r1 : rmF I0 I1 v := ((rmF_w (k := 214) (by decide) (by omega) (hv1 _ rfl)).tr (rmF_w (k := 215) (by decide) (by omega) (hv1 _ rfl))).tr (rmF_w (k := 216) (by decide) (by omega) (hv1 _ rfl))
  have rL : ∀ X k, k < 4 → rmF X (L X k) v := fun X k hk => (rmF_w (k := 217) (by decide) (by omega) (by show 4 * v ≤ 4 * v + k ∧ 4 * v + k < 4 * v + 4; omega)).tr (rmF_w (k := 218) (by decide) (by omega) (by show 4 * v ≤ 4 * v + k ∧ 4 * v + k < 4 * v + 4; omega))
  have r5 : rmF I1 I5 v := (((rL _ 0 (by omega)).tr (rL _ 1 (by omega))).tr (rL _ 2 (by omega))).tr (rL _ 3 (by omega))
  have k0 : kp [202, 203, 208, 209, 210, 214, 215, 216, 217, 218] I I0 := ((((kp.rf.wr (by decide)).wr (by decide)).wr (by decide)).wr (by decide)).wr (by decide)
  have k1 : kp [202, 203, 208, 209, 210, 214, 215, 216, 217, 218] I0 I1 := ((kp.rf.wr (by decide)).wr (by decide)).wr (by decide)
  have kL' : ∀ X k, kp [217, 218] X (L X k) := fun X k => (kp.rf.wr (by decide)).wr (by decide)
  have k5 : kp [217, 218] I1 I5 := (((kL' _ 0).tr (kL' _ 1)).tr (kL' _ 2)).tr (kL' _ 3)
  have l7 : ∀ X k j, L X k 217 j = if j = 4 * v + k then 0 else X 217 j := fun X k j => by show p_wr (p_wr X 217 (4 * v + k) 0) 218 (4 * v + k) 0 217 j = _; rw [wr_ne (by decide), wr_eq]; rfl
  have l8 : ∀ X k j, L X k 218 j = if j = 4 * v + k then 0 else X 218 j := fun X k j => by show p_wr (p_wr X 217 (4 * v + k) 0) 218 (4 * v + k) 0 218 j = _; rw [wr_eq, wr_ne (by decide)]; rfl
  have hb : ∀ (n i : Nat) (X : Nat → Nat → Int32), i < 4 → runS (EV d) none 3 T0 C_X12_plain k_X12_plain rtV f_X12_plain (n + 1) 59 [.ref 192, .int (nI v), .int (nI i)] [] (X, J) = runS (EV d) none 3 T0 C_X12_plain k_X12_plain rtV f_X12_plain n 59 [.ref 192, .int (nI v), .int (nI (i + 1))] [] (L X i, J) := fun n i X hi => by
    rw [runS_s, s_X12_plain_59, if_neg (show ¬ (4 : Int32) ≤ nI (i) from nI_ge (a := i) (b := 4) (by omega) (by omega)), four_nI, chk_in (by omega) (by omega), chk_in (by omega) (by omega), nI_clamp (by omega), nI_1]
  refine ⟨I5, ?_, (r0.tr r1).tr r5, (k0.tr k1).tr (k5.up (by decide)), ⟨?_, ?_, ?_, ?_⟩, ⟨?_, ?_, ?_, ?_⟩, fun k hk => ?_⟩
  · rw [e_X12_plain, runS_M, s_X12_plain_0, ch, ch, ch, ch, ch, nI_clamp (by omega), show (999999 : Nat) = 999998 + 1 from rfl, runS_s, s_X12_plain_35, ch, ch, ch, nI_clamp (by omega)]
    show runS (EV d) none 3 T0 C_X12_plain k_X12_plain rtV f_X12_plain 999998 59 [.ref 192, .int (nI v), .int (nI 0)] [] (I1, J) = _
    rw [show (999998 : Nat) = 999993 + 1 + 1 + 1 + 1 + 1 from rfl, hb _ 0 _ (by omega), hb _ 1 _ (by omega), hb _ 2 _ (by omega), hb _ 3 _ (by omega), runS_s, s_X12_plain_59, if_pos (by decide)]; rfl
  · rw [k5 202 (by decide)]; show p_wr (p_wr (p_wr I0 214 v 100) 215 v 0) 216 v 0 202 v = 0; rw [wr_ne (by decide), wr_ne (by decide), wr_ne (by decide)]; show p_wr (p_wr (p_wr (p_wr (p_wr I 202 v 0) 203 v 0) 208 v 0) 209 v 0) 210 v 0 202 v = 0; rw [wr_ne (by decide), wr_ne (by decide), wr_ne (by decide), wr_ne (by decide), wr_eq, pk_us]
  · rw [k5 203 (by decide)]; show p_wr (p_wr (p_wr I0 214 v 100) 215 v 0) 216 v 0 203 v = 0; rw [wr_ne (by decide), wr_ne (by decide), wr_ne (by decide)]; show p_wr (p_wr (p_wr (p_wr (p_wr I 202 v 0) 203 v 0) 208 v 0) 209 v 0) 210 v 0 203 v = 0; rw [wr_ne (by decide), wr_ne (by decide), wr_ne (by decide), wr_eq, pk_us]
  · rw [k5 208 (by decide)]; show p_wr (p_wr (p_wr I0 214 v 100) 215 v 0) 216 v 0 208 v = 0; rw [wr_ne (by decide), wr_ne (by decide), wr_ne (by decide)]; show p_wr (p_wr (p_wr (p_wr (p_wr I 202 v 0) 203 v 0) 208 v 0) 209 v 0) 210 v 0 208 v = 0; rw [wr_ne (by decide), wr_ne (by decide), wr_eq, pk_us]
  · rw [k5 210 (by decide)]; show p_wr (p_wr (p_wr I0 214 v 100) 215 v 0) 216 v 0 210 v = 0; rw [wr_ne (by decide), wr_ne (by decide), wr_ne (by decide)]; show p_wr (p_wr (p_wr (p_wr (p_wr I 202 v 0) 203 v 0) 208 v 0) 209 v 0) 210 v 0 210 v = 0; rw [wr_eq, pk_us]
  · rw [k5 209 (by decide)]; show p_wr (p_wr (p_wr I0 214 v 100) 215 v 0) 216 v 0 209 v = 0; rw [wr_ne (by decide), wr_ne (by decide), wr_ne (by decide)]; show p_wr (p_wr (p_wr (p_wr (p_wr I 202 v 0) 203 v 0) 208 v 0) 209 v 0) 210 v 0 209 v = 0; rw [wr_ne (by decide), wr_eq, pk_us]
  · rw [k5 214 (by decide)]; show p_wr (p_wr (p_wr I0 214 v 100) 215 v 0) 216 v 0 214 v = 100; rw [wr_ne (by decide), wr_ne (by decide), wr_eq, pk_us]
  · rw [k5 215 (by decide)]; show p_wr (p_wr (p_wr I0 214 v 100) 215 v 0) 216 v 0 215 v = 0; rw [wr_ne (by decide), wr_eq, pk_us]
  · rw [k5 216 (by decide)]; show p_wr (p_wr (p_wr I0 214 v 100) 215 v 0) 216 v 0 216 v = 0; rw [wr_eq, pk_us]
  · show L (L (L (L I1 0) 1) 2) 3 218 (4 * v + k) = L (L (L (L I1 0) 1) 2) 3 217 (4 * v + k)
    rw [l7, l7, l7, l7, l8, l8, l8, l8]
    have hk4 : k = 0 ∨ k = 1 ∨ k = 2 ∨ k = 3 := by omega
    by_cases c3 : 4 * v + k = 4 * v + 3
    · rw [if_pos c3, if_pos c3]
    · rw [if_neg c3, if_neg c3]
      by_cases c2 : 4 * v + k = 4 * v + 2
      · rw [if_pos c2, if_pos c2]
      · rw [if_neg c2, if_neg c2]
        by_cases c1 : 4 * v + k = 4 * v + 1
        · rw [if_pos c1, if_pos c1]
        · rw [if_neg c1, if_neg c1, if_pos (by omega), if_pos (by omega)]
theorem lp_bg1 {O : Ora} (f : Nat → Int32) : ∀ (k i n : Nat), i + k = 32 →
    runS O none 2 T0 C_X12_begins k_X12_begins rtV f_X12_begins (n + k + 1) 2 [.ref 192, .int (nI i)] [] (cs I 230 (fillF f 0 i), J) = runS O none 2 T0 C_X12_begins k_X12_begins rtV f_X12_begins n 23 [.ref 192, .int 0] [] (cs I 230 (fillF f 0 32), J) := by
  intro k
  induction k with
  | zero =>
    intro i n hi
    have e : i = 32 := by omega
    subst e
    rw [Nat.add_zero, runS_s, s_X12_begins_2, if_pos (by decide)]
  | succ k ih =>
    intro i n hi
    rw [show n + (k + 1) + 1 = (n + k + 1) + 1 by omega, runS_s, s_X12_begins_2, if_neg (show ¬ (32 : Int32) ≤ nI (i) from nI_ge (a := i) (b := 32) (by omega) (by omega)), chk_in (by omega) (by omega), nI_clamp (by omega), nI_1, wr_cs2, fillF_s]
    exact ih (i + 1) n (by omega)
theorem lp_bg2 {O : Ora} {v S : Nat} (hv : v < 2) (h18 : I 192 18 = nI v) (hS : I 203 v = nI S) (h10 : S ≤ 10) : ∀ (k i n : Nat) (g : Nat → Int32), i + k = S → (∀ j, j < i → g j = I 207 (10 * v + j)) → (∀ j, 10 ≤ j → j < 32 → g j = 0) →
    ∃ g', runS O none 2 T0 C_X12_begins k_X12_begins rtV f_X12_begins (n + k + 1) 23 [.ref 192, .int (nI i)] [] (cs I 230 g, J) = runS O none 2 T0 C_X12_begins k_X12_begins rtV f_X12_begins n 64 [.ref 192, .int 0] [] (cs I 230 g', J) ∧ (∀ j, j < S → g' j = I 207 (10 * v + j)) ∧ ∀ j, 10 ≤ j → j < 32 → g' j = 0 := by
  have ch : ∀ z : Option Rs, p_chk (p_in (nI v) 2) z = z := fun z => chk_in (by omega) (by omega)
  intro k
  induction k with
  | zero =>
    intro i n g hi h1 h2
    refine ⟨g, ?_, fun j hj => h1 j (by omega), h2⟩
    rw [Nat.add_zero, runS_s, s_X12_begins_23, cs_ne (show (192 : Nat) ≠ 230 by decide), h18, ch, nI_clamp (by omega), cs_ne (show (203 : Nat) ≠ 230 by decide), hS, if_pos (nI_le (by omega) (by omega))]
  | succ k ih =>
    intro i n g hi h1 h2
    obtain ⟨g', u1, u2, u3⟩ := ih (i + 1) n (upd g i (I 207 (10 * v + i))) (by omega) (fun j hj => by
      by_cases c : j = i
      · rw [c, pk_us]
      · rw [pk_un c]; exact h1 j (by omega)) (fun j a b => by rw [pk_un (by omega)]; exact h2 j a b)
    refine ⟨g', ?_, u2, u3⟩
    have e10 : (10 : Int32) * nI v + nI i = nI (10 * v + i) := by rw [show (10 : Int32) * nI v = nI (10 * v) from pk_mul 10 v, nI_add]
    rw [show n + (k + 1) + 1 = (n + k + 1) + 1 by omega, runS_s, s_X12_begins_23, cs_ne (show (192 : Nat) ≠ 230 by decide), h18, ch, nI_clamp (by omega), cs_ne (show (203 : Nat) ≠ 230 by decide), hS, if_neg (nI_ge (by omega) (by omega)), e10, chk_in (by omega) (by omega), chk_in (by omega) (by omega), nI_clamp (by omega), nI_clamp (by omega), cs_ne (show (207 : Nat) ≠ 230 by decide), nI_1, wr_cs2]
    exact u1
theorem lp_bg3 {O : Ora} {v C : Nat} (hv : v < 2) (h18 : I 192 18 = nI v) (hC : I 210 v = nI C) (h4 : C ≤ 4) : ∀ (k i n : Nat) (g : Nat → Int32), i + k = C → (∀ j, j < i → g (10 + j) = I 211 (4 * v + j)) → (∀ j, 14 ≤ j → j < 32 → g j = 0) →
    ∃ g', runS O none 2 T0 C_X12_begins k_X12_begins rtV f_X12_begins (n + k + 1) 64 [.ref 192, .int (nI i)] [] (cs I 230 g, J) = some (none, (p_wr (p_wr (p_wr (cs I 230 g') 230 30 (I 214 v)) 192 56 (I 216 v)) 192 57 0, J)) ∧ (∀ j, j < C → g' (10 + j) = I 211 (4 * v + j)) ∧ (∀ j, 14 ≤ j → j < 32 → g' j = 0) ∧ ∀ j, j < 10 → g' j = g j := by
  have ch : ∀ z : Option Rs, p_chk (p_in (nI v) 2) z = z := fun z => chk_in (by omega) (by omega)
  intro k
  induction k with
  | zero =>
    intro i n g hi h1 h2
    refine ⟨g, ?_, fun j hj => h1 j (by omega), h2, fun _ _ => rfl⟩
    rw [Nat.add_zero, runS_s, s_X12_begins_64, cs_ne (show (192 : Nat) ≠ 230 by decide), h18, ch, nI_clamp (by omega), cs_ne (show (210 : Nat) ≠ 230 by decide), hC, if_pos (nI_le (by omega) (by omega)), ch, ch, cs_ne (show (214 : Nat) ≠ 230 by decide), cs_ne (show (216 : Nat) ≠ 230 by decide)]; rfl
  | succ k ih =>
    intro i n g hi h1 h2
    obtain ⟨g', u1, u2, u3, u4⟩ := ih (i + 1) n (upd g (10 + i) (I 211 (4 * v + i))) (by omega) (fun j hj => by
      by_cases c : j = i
      · rw [c, pk_us]
      · rw [pk_un (by omega)]; exact h1 j (by omega)) (fun j a b => by rw [pk_un (by omega)]; exact h2 j a b)
    refine ⟨g', ?_, u2, u3, fun j hj => by rw [u4 j hj, pk_un (by omega)]⟩
    have e10 : (10 : Int32) + nI i = nI (10 + i) := nI_add 10 i
    rw [show n + (k + 1) + 1 = (n + k + 1) + 1 by omega, runS_s, s_X12_begins_64, cs_ne (show (192 : Nat) ≠ 230 by decide), h18, ch, nI_clamp (by omega), cs_ne (show (210 : Nat) ≠ 230 by decide), hC, if_neg (nI_ge (by omega) (by omega)), four_nI, chk_in (by omega) (by omega), e10, chk_in (by omega) (by omega), nI_clamp (by omega), nI_clamp (by omega), cs_ne (show (211 : Nat) ≠ 230 by decide), nI_1, wr_cs2]
    exact u1
theorem ev_begins (hd : 1 ≤ d) {v S C : Nat} (hv : v < 2) (h18 : I 192 18 = nI v) (hS : I 203 v = nI S) (h10 : S ≤ 10) (hC : I 210 v = nI C) (h4 : C ≤ 4) : ∃ I', EV d T0 208 [.ref 192] (I, J) = some (none, (I', J)) ∧ kp [192, 230] I I' ∧ (∀ j, j ≠ 56 → j ≠ 57 → I' 192 j = I 192 j) ∧ (∀ j, j < S → I' 230 j = I 207 (10 * v + j)) ∧ (∀ c, c < C → I' 230 (10 + c) = I 211 (4 * v + c)) ∧ I' 230 30 = I 214 v ∧ I' 230 31 = 0 ∧ ∀ j, 14 ≤ j → j < 30 → I' 230 j = 0 := by
  obtain ⟨d, rfl⟩ : ∃ z, d = z + 1 := ⟨d - 1, by omega⟩
  have a := lp_bg1 (O := EV d) (I := I) (J := J) (I 230) 32 0 999966 (by omega)
  rw [fillF_0, cs_self] at a
  obtain ⟨g1, b1, b2, b3⟩ := lp_bg2 (O := EV d) (J := J) hv h18 hS h10 S 0 (999966 - S - 1) (fillF (I 230) 0 32) (by omega) (fun j hj => absurd hj (Nat.not_lt_zero _)) (fun j _ hj => if_pos hj)
  obtain ⟨g2, c1, c2, c3, c4⟩ := lp_bg3 (O := EV d) (J := J) hv h18 hC h4 C 0 (999966 - S - 1 - C - 1) g1 (by omega) (fun j hj => absurd hj (Nat.not_lt_zero _)) (fun j p q => b3 j (by omega) q)
  rw [show 999966 - S - 1 + S + 1 = 999966 by omega] at b1
  rw [show 999966 - S - 1 - C - 1 + C + 1 = 999966 - S - 1 by omega] at c1
  have f : ∀ q, p_wr (p_wr (p_wr (cs I 230 g2) 230 30 (I 214 v)) 192 56 (I 216 v)) 192 57 0 230 q = upd g2 30 (I 214 v) q := fun q => by rw [wr_ne (by decide), wr_ne (by decide), wr_eq, cs_eq]
  refine ⟨p_wr (p_wr (p_wr (cs I 230 g2) 230 30 (I 214 v)) 192 56 (I 216 v)) 192 57 0, ?_, (((kp.rf.cs (by decide)).wr (by decide)).wr (by decide)).wr (by decide), fun j p q => ?_, fun j hj => ?_, fun c hc => ?_, ?_, ?_, fun j p q => ?_⟩
  · rw [e_X12_begins, runS_M, s_X12_begins_0]
    exact (a.trans b1).trans c1
  · rw [wr_eq, pk_un q, wr_eq, pk_un p, wr_ne (by decide), cs_ne (by decide)]
  · rw [f, pk_un (by omega), c4 j (by omega)]; exact b2 j hj
  · rw [f, pk_un (by omega)]; exact c2 c hc
  · rw [f, pk_us]
  · rw [f, pk_un (by omega)]; exact c3 31 (by omega) (by omega)
  · rw [f, pk_un (by omega)]; exact c3 j p (by omega)
end TB1
