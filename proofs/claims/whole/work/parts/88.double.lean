/-! ===== doubles ===== -/
section QT
variable {P : PP} {I : Nat → Nat → Int32} {J : Nat → Nat → Int64} {d : Nat} {s : Nat → Nat} {wk : Int32}
def mn99 (m : Nat) : Nat := if m < 99 then m else 99
/-- seam e sewn by q more -/
def moS (s : Nat → Nat) (e q : Nat) (i : Nat) : Nat := if i = e then mn99 (s e + q) else s i
def dbS (P : PP) (s : Nat → Nat) (wk : Int32) (t u q : Nat) (x : Nat × Int32) (e : Nat) : Nat × Int32 := if suF P (lfS P (moS s e q) wk) t u 201 ≤ x.1 then x else (suF P (lfS P (moS s e q) wk) t u 201, nI e)
def dbN (P : PP) (s : Nat → Nat) (wk : Int32) (t u q : Nat) : Nat × Int32 := (List.range' 0 (xS P)).foldl (dbS P s wk t u q) (suF P (lfS P s wk) t u 201, -2)
def doubQ (P : PP) (x : XS) (a b q : Int32) : Int32 := if two P a b = 0 then -1 else if zI (¬ q < 1 ∧ ¬ 99 < q) = 0 then -1 else (dbN P x.1 x.2.1 a.toNatClampNeg b.toNatClampNeg q.toNatClampNeg).2
theorem mn_le (m : Nat) : mn99 m ≤ 99 := by unfold mn99; split <;> omega
theorem lfS_mo (e q j : Nat) : lfS P (moS s e q) wk j = if j = e then lfN P e 201 (mn99 (s e + q)) wk else lfS P s wk j := by
  unfold lfS moS
  by_cases h : j = e
  · subst h; rw [if_pos rfl, if_pos rfl]
  · rw [if_neg h, if_neg h]
theorem mn_C {m q : Nat} (hm : m ≤ 99) (hq : q ≤ 99) : (if nI m + nI q < (99 : Int32) then nI m + nI q else 99) = nI (mn99 (m + q)) := by
  rw [nI_add]
  simp only [show (nI (m + q) < (99 : Int32)) = (m + q < 99) from lt_nI (b := 99) (by omega) (by omega)]
  unfold mn99
  by_cases h : m + q < 99
  · rw [if_pos h, if_pos h]
  · rw [if_neg h, if_neg h]; rfl
theorem mn_M {m q : Nat} (hm : m ≤ 99) (hq : q ≤ 99) : h99 (nI m + nI q) = nI (mn99 (m + q)) := by
  unfold h99
  rw [mn_C hm hq]
  have h1 := mn_le (m + q)
  by_cases h : 0 < mn99 (m + q)
  · rw [if_pos (show (0 : Int32) < nI (mn99 (m + q)) from nI_lt (a := 0) (by omega) (by omega))]
  · have e : mn99 (m + q) = 0 := by omega
    rw [e, if_neg (by decide)]; rfl
theorem su201 {f : Nat → Nat} {t u : Nat} : suF P f t u 201 ≤ 201 := suF_le 201
theorem lp_dbl (hd : 6 ≤ d) {t u q : Nat} (ht : t < xN P) (hu : u < xN P) (htu : t ≠ u) (hq : q ≤ 99) : ∀ (k i n : Nat) (x : Nat × Int32) (I : Nat → Nat → Int32), CS P I s wk → (∀ j, j < xS P → I 177 j = nI (lfS P s wk j)) → x.1 ≤ 201 → i + k = xS P → k < n →
    ∃ I', runS (EV d) none 10 T0 C_X7_bestToDouble k_X7_bestToDouble rtI f_X7_bestToDouble n 27 [.ref 174, .ref 39, .int (nI t), .int (nI u), .int (nI q), .int (nI x.1), .int x.2, .int (nI i), un, un] [] (I, J) = some (some (.int ((List.range' i k).foldl (dbS P s wk t u q) x).2), (I', J)) ∧ kp [37, 170, 177] I I' := by
  intro k
  induction k with
  | zero =>
    intro i n x I h hf hx hi hn
    have h10 := h.1.S10
    obtain ⟨n, rfl⟩ : ∃ z, n = z + 1 := ⟨n - 1, by omega⟩
    rw [runS_s, s_X7_bestToDouble_27, h.1.S, if_pos (nI_le (by omega) (by omega))]
    exact ⟨I, rfl, kp.rf⟩
  | succ k ih =>
    intro i n x I h hf hx hi hn
    have h10 := h.1.S10
    obtain ⟨n, rfl⟩ : ∃ z, n = z + 1 := ⟨n - 1, by omega⟩
    have hi' : i < xS P := by omega
    have hs := h.2.1 i hi'
    obtain ⟨I1, t1, t2⟩ := ev_life (d := d) (J := J) (by omega) h.1 hi' (mn_le (s i + q)) wk
    have k1 : kp [37, 170, 177] I (p_wr I1 177 i (nI (lfN P i 201 (mn99 (s i + q)) wk))) := (t2.up (by decide)).wr (by decide)
    have p1 : PlR P (p_wr I1 177 i (nI (lfN P i 201 (mn99 (s i + q)) wk))) := plr_kx h.1 k1 (by decide) (by rw [k1 192 (by decide)])
    have k2 : kp [37, 170, 177] I (p_wr (p_wr I1 177 i (nI (lfN P i 201 (mn99 (s i + q)) wk))) 177 i (I 177 i)) := k1.wr (by decide)
    have hb : ∀ j, j < xS P → p_wr I1 177 i (nI (lfN P i 201 (mn99 (s i + q)) wk)) 177 j = nI (lfS P (moS s i q) wk j) ∧ lfS P (moS s i q) wk j ≤ 1000 := fun j hj => by
      rw [lfS_mo, wr_eq]
      by_cases e : j = i
      · subst e; rw [if_pos rfl, pk_us]; have := lf_le (P := P) j 201 (mn99 (s j + q)) wk; exact ⟨rfl, by omega⟩
      · rw [if_neg e, pk_un e, t2 177 (by decide), hf j hj]; have := lf_le (P := P) j 201 (s j) wk; unfold lfS; exact ⟨rfl, by omega⟩
    have hw := ev_widest_177 (d := d) (J := J) hd p1 hb ht hu
    rw [wd_su p1 htu (f := lfS P (moS s i q) wk) (B := 201) (fun j hj => by unfold lfS; exact lf_le j 201 _ wk)] at hw
    have hle := su201 (P := P) (f := lfS P (moS s i q) wk) (t := t) (u := u)
    have hN : CS P (p_wr (p_wr I1 177 i (nI (lfN P i 201 (mn99 (s i + q)) wk))) 177 i (I 177 i)) s wk := ⟨plr_kx h.1 k2 (by decide) (by rw [k2 192 (by decide)]), by rw [k2 40 (by decide)]; exact h.2.1, by rw [k2 39 (by decide)]; exact h.2.2⟩
    have hF : ∀ j, j < xS P → p_wr (p_wr I1 177 i (nI (lfN P i 201 (mn99 (s i + q)) wk))) 177 i (I 177 i) 177 j = nI (lfS P s wk j) := fun j hj => by
      rw [wr_eq]
      by_cases e : j = i
      · subst e; rw [pk_us]; exact hf j hj
      · rw [pk_un e, wr_eq, pk_un e, t2 177 (by decide)]; exact hf j hj
    rw [runS_s, s_X7_bestToDouble_27, h.1.S, if_neg (nI_ge (by omega) (by omega)), chk_in (by omega) (by omega), chk_in (by omega) (by omega), nI_clamp (by omega), hs.1, h.2.2, mn_C hs.2 hq, t1, p_ci_s, chk_in (by omega) (by omega)]
    dsimp only
    rw [hw, p_ci_s, chk_in (by omega) (by omega), nI_1, List.range'_succ, List.foldl_cons]
    simp only [le_nI (show suF P (lfS P (moS s i q) wk) t u 201 < 2 ^ 31 by omega) (show x.1 < 2 ^ 31 by omega)]
    by_cases hc : suF P (lfS P (moS s i q) wk) t u 201 ≤ x.1
    · obtain ⟨I2, u1, u2⟩ := ih (i + 1) n x _ hN hF hx (by omega) (by omega)
      refine ⟨I2, ?_, k2.tr u2⟩
      rw [if_pos hc, show dbS P s wk t u q x i = x from if_pos hc]
      exact u1
    · obtain ⟨I2, u1, u2⟩ := ih (i + 1) n (suF P (lfS P (moS s i q) wk) t u 201, nI i) _ hN hF hle (by omega) (by omega)
      refine ⟨I2, ?_, k2.tr u2⟩
      rw [if_neg hc, show dbS P s wk t u q x i = (suF P (lfS P (moS s i q) wk) t u 201, nI i) from if_neg hc]
      exact u1
theorem c_doubles (hd : 8 ≤ d) {x : XS} (h : CX_39 P I x) (a b q : Int32) : CQ d 144 [.ref 0, .int a, .int b, .int q] I J (doubQ P x a b q) := by
  obtain ⟨d, rfl⟩ : ∃ z, d = z + 2 := ⟨d - 2, by omega⟩
  have h1 := h.1
  have h7 := h1.N7
  unfold CQ doubQ
  rw [e_X11_doubles, runS_M, s_X11_doubles_0, q_two (by omega) h1, p_ci_s]
  rcases two_c h1 (a := a) (b := b) with e | ⟨e, -, -, t, u, ht, hu, htu, rfl, rfl⟩
  · rw [if_pos e, if_pos e]; exact ⟨I, rfl, kp.rf⟩
  have hne : ¬ two P (nI t) (nI u) = 0 := by rw [e]; decide
  rw [if_neg hne, if_neg hne, q_within (by omega), p_ci_s]
  rcases in_c (n := q) (lo := 1) (hi := 99) (l := 1) (h := 99) rfl rfl (by omega) (by omega) with e2 | ⟨e2, m, m1, m2, rfl⟩
  · rw [if_pos e2, if_pos e2]; exact ⟨I, rfl, kp.rf⟩
  have hne2 : ¬ zI (¬ nI m < (1 : Int32) ∧ ¬ (99 : Int32) < nI m) = 0 := by rw [e2]; decide
  have hS : CS P I x.1 x.2.1 := ⟨h.1, h.2.1, h.2.2.1⟩
  obtain ⟨I1, t1, t2, t3⟩ := ev_fillLives (d := d) (J := J) (by omega) hS
  have p1 : PlR P I1 := plr_kx h1 t2 (by decide) (by rw [t2 192 (by decide)])
  have hS1 : CS P I1 x.1 x.2.1 := ⟨p1, by rw [t2 40 (by decide)]; exact h.2.1, by rw [t2 39 (by decide)]; exact h.2.2.1⟩
  have hle := su201 (P := P) (f := lfS P x.1 x.2.1) (t := t) (u := u)
  have h10 := h1.S10
  obtain ⟨I2, u1, u2⟩ := lp_dbl (d := d) (J := J) (by omega) ht hu htu m2 (xS P) 0 999999 (suF P (lfS P x.1 x.2.1) t u 201, -2) I1 hS1 t3 hle (by omega) (by omega)
  refine ⟨I2, ?_, (t2.tr u2).up (by decide)⟩
  rw [if_neg hne2, if_neg hne2, show (999999 : Nat) = 999998 + 1 from rfl, runS_s, s_X11_doubles_21, e_X7_bestToDouble, runS_M, s_X7_bestToDouble_0, t1, p_cv_s, ev_widest_177 (by omega) p1 (f := lfS P x.1 x.2.1) (fun i hi => ⟨t3 i hi, by have := lf_le (P := P) i 201 (x.1 i) x.2.1; unfold lfS; omega⟩) ht hu, p_ci_s, wd_su p1 htu (f := lfS P x.1 x.2.1) (B := 201) (fun i hi => lf_le i 201 (x.1 i) x.2.1), nI_clamp (by omega), nI_clamp (by omega), nI_clamp (by omega)]
  have u1' : runS (EV d) none 10 T0 C_X7_bestToDouble k_X7_bestToDouble rtI f_X7_bestToDouble 999999 27 [.ref 174, .ref 39, .int (nI t), .int (nI u), .int (nI m), .int (nI (suF P (lfS P x.1 x.2.1) t u 201)), .int (-2), .int 0, un, un] [] (I1, J) = _ := u1
  rw [u1', p_ci_s]
  rfl
theorem MX.set {x : XS} (h : MX P I x) {e m : Nat} (he : e < xS P) (hm : m ≤ 99) : MX P (p_wr I 230 e (nI m)) (fun i => if i = e then m else x.1 i, x.2) := by
  have h10 := h.1.S10
  have k1 : kp [230] I (p_wr I 230 e (nI m)) := kp.rf.wr (by decide)
  refine ⟨plr_kx h.1 k1 (by decide) (by rw [k1 192 (by decide)]), fun i hi => ?_, ?_, fun c hc f hf => ?_, h.2.2.2.2⟩
  · rw [wr_eq]
    by_cases e : i = e
    · subst e; rw [pk_us]; dsimp only; rw [if_pos rfl]; exact ⟨rfl, hm⟩
    · rw [pk_un e]; dsimp only; rw [if_neg e]; exact h.2.1 i hi
  · rw [wr_eq, pk_un (by omega)]; exact h.2.2.1
  · rw [wr_eq, pk_un (by omega)]; exact h.2.2.2.1 c hc f hf
theorem lp_dblR (hd : 7 ≤ d) {t u q : Nat} (ht : t < xN P) (hu : u < xN P) (hq : q ≤ 99) {x : XS} : ∀ (k i n : Nat) (z : Nat × Int32) (I : Nat → Nat → Int32), NX P I x → z.1 ≤ 201 → i + k = xS P → 2 * k < n →
    ∃ I', runS (EV d) none 8 T0 C_X12_doubles k_X12_doubles rtI f_X12_doubles n 49 [.ref 192, .int (nI t), .int (nI u), .int (nI q), .int (nI z.1), .int z.2, .int (nI i), un] [] (I, J) = some (some (.int ((List.range' i k).foldl (dbS P x.1 x.2.1 t u q) z).2), (I', J)) ∧ kp scM I I' ∧ k567 I I' := by
  intro k
  induction k with
  | zero =>
    intro i n z I h hz hi hn
    have h10 := h.1.S10
    have hv := h.1.v2
    obtain ⟨n, rfl⟩ : ∃ z, n = z + 1 := ⟨n - 1, by omega⟩
    rw [runS_s, s_X12_doubles_49, h.1.v, chk_in hv (by omega), nI_clamp (by omega), h.1.Sm, if_pos (nI_le (by omega) (by omega))]
    exact ⟨I, rfl, kp.rf, k567.rf⟩
  | succ k ih =>
    intro i n z I h hz hi hn
    have h10 := h.1.S10
    have hv := h.1.v2
    obtain ⟨n, rfl⟩ : ∃ z, n = z + 1 + 1 := ⟨n - 2, by omega⟩
    have hi' : i < xS P := by omega
    obtain ⟨I1, t1, t2, t3, t4, t5, t6, -⟩ := h.row (d := d) (J := J) (by omega)
    have hs := t6.2.1 i hi'
    have m1 := t6.set hi' (mn_le (x.1 i + q))
    have k1 : kp scM I1 (p_wr I1 230 i (nI (mn99 (x.1 i + q)))) := kp.rf.wr (by decide)
    obtain ⟨I2, u1, u2, u3⟩ := ev_holdsFor (d := d) (J := J) hd m1 ht hu
    have k2 : kp scM I I2 := ((t2.up (by decide)).tr k1).tr (u2.up (by decide))
    have f2 : k567 I I2 := t3.tr (fun j a b c => by rw [u3 j a b c, wr_ne (by decide)])
    have hN := h.go k2 f2
    have hle := su201 (P := P) (f := lfS P (moS x.1 i q) x.2.1) (t := t) (u := u)
    have u1' : EV d T0 251 [.ref 192, .int (nI t), .int (nI u)] (p_wr I1 230 i (nI (mn99 (x.1 i + q))), J) = some (some (.int (nI (suF P (lfS P (moS x.1 i q) x.2.1) t u 201))), (I2, J)) := by
      have e : moS x.1 i q = (fun j => if j = i then mn99 (x.1 i + q) else x.1 j) := rfl
      rw [e]; exact u1
    rw [runS_s, s_X12_doubles_49, h.1.v, chk_in hv (by omega), nI_clamp (by omega), h.1.Sm, if_neg (nI_ge (by omega) (by omega)), t1, p_cv_s]
    dsimp only
    rw [chk_in (by omega) (by omega), nI_clamp (by omega), hs.1, ev_heldR (by omega), p_ci_s, chk_in (by omega) (by omega), mn_M hs.2 hq, runS_s, s_X12_doubles_89, u1', p_ci_s, nI_1, List.range'_succ, List.foldl_cons]
    simp only [lt_nI (show z.1 < 2 ^ 31 by omega) (show suF P (lfS P (moS x.1 i q) x.2.1) t u 201 < 2 ^ 31 by omega)]
    by_cases hc : suF P (lfS P (moS x.1 i q) x.2.1) t u 201 ≤ z.1
    · obtain ⟨I3, v1, v2, v3⟩ := ih (i + 1) n z I2 hN hz (by omega) (by omega)
      refine ⟨I3, ?_, k2.tr v2, f2.tr v3⟩
      rw [if_neg (by omega), show dbS P x.1 x.2.1 t u q z i = z from if_pos hc]
      exact v1
    · obtain ⟨I3, v1, v2, v3⟩ := ih (i + 1) n (suF P (lfS P (moS x.1 i q) x.2.1) t u 201, nI i) I2 hN hle (by omega) (by omega)
      refine ⟨I3, ?_, k2.tr v2, f2.tr v3⟩
      rw [if_pos (by omega), show dbS P x.1 x.2.1 t u q z i = (suF P (lfS P (moS x.1 i q) x.2.1) t u 201, nI i) from if_neg hc]
      exact v1
theorem m_doubles (hd : 8 ≤ d) {x : XS} (h : NX P I x) (a b q : Int32) : MQq d 257 [.ref 192, .int a, .int b, .int q] I J (doubQ P x a b q) := by
  obtain ⟨d, rfl⟩ : ∃ z, d = z + 1 := ⟨d - 1, by omega⟩
  have h1 := h.1
  have h7 := h1.N7
  have h10 := h1.S10
  unfold MQq doubQ
  rw [e_X12_doubles, runS_M, s_X12_doubles_0, q_townR (by omega) h1, p_ci_s]
  rcases oneOf_c (a := a) (N := xN P) (by omega) with e | ⟨e, t, ht, rfl⟩
  · rw [if_pos e, if_pos (two_1 e)]; exact ⟨I, rfl, kp.rf, k567.rf⟩
  rw [if_neg (by rw [e]; decide), q_townR (by omega) h1, p_ci_s]
  rcases oneOf_c (a := b) (N := xN P) (by omega) with e' | ⟨e', u, hu, rfl⟩
  · rw [if_pos e', if_pos (two_2 e')]; exact ⟨I, rfl, kp.rf, k567.rf⟩
  rw [if_neg (by rw [e']; decide), show (999999 : Nat) = 999997 + 1 + 1 from rfl, runS_s, s_X12_doubles_16]
  by_cases htu : nI t = nI u
  · rw [if_pos htu, if_pos (two_3 htu)]; exact ⟨I, rfl, kp.rf, k567.rf⟩
  rw [if_neg htu, if_neg (by rw [two_4 e e' htu]; decide), q_isSewn (by omega), p_ci_s]
  rcases in_c (n := q) (lo := 1) (hi := 99) (l := 1) (h := 99) rfl rfl (by omega) (by omega) with e2 | ⟨e2, m, m1, m2, rfl⟩
  · rw [if_pos e2, if_pos e2]; exact ⟨I, rfl, kp.rf, k567.rf⟩
  have hne2 : ¬ zI (¬ nI m < (1 : Int32) ∧ ¬ (99 : Int32) < nI m) = 0 := by rw [e2]; decide
  obtain ⟨I1, t1, t2, t3, t4, t5, t6, -⟩ := h.row (d := d) (J := J) (by omega)
  obtain ⟨I2, u1, u2, u3⟩ := ev_holdsFor (d := d) (J := J) (by omega) t6 ht hu
  have k2 : kp scM I I2 := (t2.up (by decide)).tr (u2.up (by decide))
  have f2 : k567 I I2 := t3.tr u3
  obtain ⟨I3, v1, v2, v3⟩ := lp_dblR (d := d) (J := J) (by omega) ht hu m2 (xS P) 0 999997 (suF P (lfS P x.1 x.2.1) t u 201, -2) I2 (h.go k2 f2) su201 (by omega) (by omega)
  refine ⟨I3, ?_, k2.tr v2, f2.tr v3⟩
  rw [if_neg hne2, if_neg hne2, t1, p_cv_s, runS_s, s_X12_doubles_34, u1, p_ci_s, nI_clamp (by omega), nI_clamp (by omega), nI_clamp (by omega)]
  exact v1
end QT
