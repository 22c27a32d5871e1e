/-! ===== read: both sides see the same tokens ===== -/
section RO
variable {I : Nat → Nat → Int32} {J : Nat → Nat → Int64} {d : Nat} {b : Nat → Nat} {n : Nat}
theorem lp_cut (hd : 3 ≤ d) : ∀ (k x p m : Nat) (f : Nat → TK) (I : Nat → Nat → Int32) (J : Nat → Nat → Int64), x + k = 401 → p ≤ n → TBR I n b → (∀ i, i < 23 → J 199 i = kyW i) → I 192 10 = nI x → (∀ j, j < x → tkM I J j (f j)) → 4 * (n - p) + 60 * k + 200 < m →
    ∃ I' J', runS (EV d) none 8 T0 C_X12_cutsUp k_X12_cutsUp rtV f_X12_cutsUp m 7 [.ref 192, .int (nI p), un, un, un, un, un, un] [] (I, J) = some (none, (I', J')) ∧ kp [195, 196, 197, 192] I I' ∧ (∀ j, j ≠ 10 → I' 192 j = I 192 j) ∧ kpJ [198] J J' ∧ ∀ j, j < x + (scR b n k p).length → tkM I' J' j (if j < x then f j else (scR b n k p).getD (j - x) tk0) := by
  intro k
  induction k with
  | zero =>
    intro x p m f I J hx hp h hK h10 hf hm
    obtain ⟨m, rfl⟩ : ∃ z, m = z + 1 := ⟨m - 1, by omega⟩
    have e : x = 401 := by omega
    subst e
    refine ⟨I, J, ?_, kp.rf, fun _ _ => rfl, kpJ.rf, fun j hj => ?_⟩
    · rw [runS_s, s_X12_cutsUp_7, h10, if_pos (by decide)]; rfl
    · have hj' : j < 401 := hj
      rw [if_pos hj']; exact hf j hj'
  | succ k ih =>
    intro x p m f I J hx hp h hK h10 hf hm
    have h2 := h.2.1
    have hb := bl_b (b := b) (n := n) (n - p) p
    obtain ⟨m1, t1, t2⟩ := lp_blR (d := d) (I := I) (J := J) (b := b) (n := n) (by omega) h h10 (show x ≤ 400 by omega) (n - p) p m (by omega) (by omega)
    have hnb := bl_nb (b := b) (n := n) (n - p) p (by omega)
    rw [t2]
    have e : scR b n (k + 1) p = (sc1 b n (blF b n (n - p) p)).1 :: (if (sc1 b n (blF b n (n - p) p)).1.1 = 0 then [] else scR b n k (sc1 b n (blF b n (n - p) p)).2) := rfl
    have hs2 := sc1_b (b := b) (n := n) (blF b n (n - p) p) (by omega)
    generalize hq : blF b n (n - p) p = q at hb hnb e hs2 t1 ⊢
    by_cases cn : q < n
    · obtain ⟨m', z, v, u1, u2, u3⟩ := cut_tok (d := d) (I := I) (J := J) hd h hK (show x ≤ 400 by omega) h10 cn (hnb cn) (m := m1) (by omega)
      have k0 : (sc1 b n q).1.1 ≠ 0 := by
        unfold sc1
        rw [if_neg (by omega)]
        by_cases c1 : isL (b q) = true
        · rw [if_pos c1]
          show (if _ then _ else 1) ≠ 0
          split
          · rcases sr_b (ltF b n (n - q) q 0).2 23 0 rfl with g | g <;> omega
          · omega
        · rw [if_neg c1]
          by_cases c2 : isD (b q) = true
          · rw [if_pos c2]; show (if _ then 3 else 1) ≠ 0; split <;> omega
          · rw [if_neg c2]; show (if isG (b q) = true then b q else 1) ≠ 0
            by_cases c3 : isG (b q) = true
            · rw [if_pos c3]
              have := (of_decide_eq_true c3 : b q = 59 ∨ b q = 61 ∨ b q = 43 ∨ b q = 45 ∨ b q = 42 ∨ b q = 47 ∨ b q = 60 ∨ b q = 40 ∨ b q = 41)
              omega
            · rw [if_neg c3]; omega
      have hn1 := hs2.2 k0
      have hge : q ≤ (sc1 b n q).2 := by
        unfold sc1
        rw [if_neg (by omega)]
        by_cases c1 : isL (b q) = true
        · rw [if_pos c1]; exact (lt_b (b := b) (n := n) (n - q) q 0).1
        · rw [if_neg c1]
          by_cases c2 : isD (b q) = true
          · rw [if_pos c2]; exact (dg_b (b := b) (n := n) (n - q) q 0).1
          · rw [if_neg c2]; show q ≤ q + 1; omega
      rw [if_neg k0] at e
      have hall : ∀ j, j < x + 1 → tkM (tmI I x (nI (kap (sc1 b n q).1.1)) (nI q) z) (tmJ J x v) j (if j < x then f j else (sc1 b n q).1) := fun j hj => by
        by_cases c : j < x
        · rw [if_pos c]; exact tm_ne (by omega) (hf j c)
        · have e9 : j = x := by omega
          subst e9
          rw [if_neg c]; exact u2
      obtain ⟨I', J', w1, w2, w3, w4, w5⟩ := ih (x + 1) (sc1 b n q).2 m' (fun j => if j < x then f j else (sc1 b n q).1) _ _ (by omega) hn1 (h.go (tm_kp (c := x) (x := nI (kap (sc1 b n q).1.1)) (y := nI q) (z := z)) (by decide) (tm_f (by decide))) (fun i hi => by rw [tm_kpJ 199 (by decide)]; exact hK i hi) tm_10 hall (by omega)
      refine ⟨I', J', ?_, tm_kp.tr w2, fun j hj => (w3 j hj).trans (tm_f hj), tm_kpJ.tr w4, fun j hj => ?_⟩
      · rw [u3]; exact w1
      · rw [e, List.length_cons] at hj
        have := w5 j (by omega)
        rw [e]
        by_cases c2 : j < x
        · rw [if_pos (by omega), if_pos c2] at this
          rw [if_pos c2]; exact this
        · rw [if_neg c2]
          by_cases c3 : j < x + 1
          · have e2 : j - x = 0 := by omega
            rw [if_pos c3, if_neg c2] at this
            rw [e2]; exact this
          · rw [if_neg c3] at this
            have e2 : j - x = (j - (x + 1)) + 1 := by omega
            rw [e2]; exact this
    · have eq : q = n := by omega
      have es : sc1 b n q = ((0, q, 0, 0), q + 1) := by unfold sc1; rw [if_pos (by omega)]
      rw [es] at e
      have e' : scR b n (k + 1) p = [(0, q, 0, 0)] := e
      obtain ⟨m1, rfl⟩ : ∃ z, m1 = z + 1 := ⟨m1 - 1, by omega⟩
      have e0 : by0 b n q = 0 := if_neg (by omega)
      refine ⟨tmI I x (nI (kap 0)) (nI q) 0, tmJ J x 0, ?_, tm_kp, fun j hj => tm_f hj, tm_kpJ, fun j hj => ?_⟩
      · rw [runS_s, s_X12_cutsUp_7, h10, if_neg (show ¬ (400 : Int32) < nI x from nI_nlt (a := 400) (by omega) (by omega)), q_byteR (by omega) h (by omega), p_ci_s]
        dsimp only
        rw [if_neg (show ¬ nI q < I 192 4 by rw [h.1]; exact nI_nlt (by omega) (by omega)), h.1, ev_token (x := 0) (z := 0) (v := Int64.ofNat 0) (by omega) (by omega) h10, p_cv_s, eq]
        rfl
      · rw [e'] at hj ⊢
        have hj' : j < x + 1 := hj
        by_cases c : j < x
        · rw [if_pos c]; exact tm_ne (by omega) (hf j c)
        · have e9 : j = x := by omega
          subst e9
          rw [if_neg c, Nat.sub_self]
          exact tm_eq (t := (0, q, 0, 0)) rfl (fun _ => rfl) (fun _ => rfl)
theorem ev_cutsUp (hd : 4 ≤ d) (h : TBR I n b) (hK : ∀ i, i < 23 → J 199 i = kyW i) : ∃ I' J', EV d T0 176 [.ref 192] (I, J) = some (none, (I', J')) ∧ kp [195, 196, 197, 192] I I' ∧ (∀ j, j ≠ 10 → I' 192 j = I 192 j) ∧ kpJ [198] J J' ∧ ∀ j, j < (scR b n 401 0).length → tkM I' J' j ((scR b n 401 0).getD j tk0) := by
  obtain ⟨d, rfl⟩ : ∃ z, d = z + 1 := ⟨d - 1, by omega⟩
  have h2 := h.2.1
  have k1 : kp [195, 196, 197, 192] I (p_wr I 192 10 0) := kp.rf.wr (by decide)
  have f1 : ∀ j, j ≠ 10 → p_wr I 192 10 0 192 j = I 192 j := fun j hj => by rw [wr_eq, pk_un hj]
  obtain ⟨I', J', u1, u2, u3, u4, u5⟩ := lp_cut (d := d) (b := b) (n := n) (by omega) 401 0 0 999999 (fun _ => tk0) (p_wr I 192 10 0) J (by omega) (by omega) (h.go k1 (by decide) (f1 4 (by decide))) hK (by rw [wr_eq, pk_us]; rfl) (fun j hj => by omega) (by omega)
  rw [Nat.zero_add] at u5
  refine ⟨I', J', ?_, k1.tr u2, fun j hj => (u3 j hj).trans (f1 j hj), u4, fun j hj => ?_⟩
  · rw [e_X12_cutsUp, runS_M, s_X12_cutsUp_0]; exact u1
  · have := u5 j hj
    rw [if_neg (by omega)] at this; exact this
/-- the class stops at the first bad token; up to there both see the same -/
theorem scL_R : ∀ (k p : Nat), (scL b n k p).length ≤ (scR b n k p).length ∧ ∀ j, j < (scL b n k p).length → (scR b n k p).getD j tk0 = (scL b n k p).getD j tk0 := by
  intro k
  induction k with
  | zero => intro p; exact ⟨Nat.le_refl _, fun j hj => absurd hj (Nat.not_lt_zero _)⟩
  | succ k ih =>
    intro p
    unfold scL scR
    generalize sc1 b n (blF b n (n - p) p) = r
    by_cases c0 : r.1.1 = 0
    · rw [if_pos (Or.inl c0), if_pos c0]; exact ⟨Nat.le_refl _, fun _ _ => rfl⟩
    · rw [if_neg c0]
      by_cases c1 : r.1.1 = 1
      · rw [if_pos (Or.inr c1)]
        refine ⟨by rw [List.length_cons, List.length_cons]; exact Nat.succ_le_succ (Nat.zero_le _), fun j hj => ?_⟩
        have e : j = 0 := by
          rw [List.length_cons, List.length_nil] at hj; omega
        subst e; rfl
      · rw [if_neg (fun h9 => h9.elim c0 c1)]
        obtain ⟨i1, i2⟩ := ih r.2
        refine ⟨by rw [List.length_cons, List.length_cons]; omega, fun j hj => ?_⟩
        rw [List.length_cons] at hj
        cases j with
        | zero => rfl
        | succ j => exact i2 j (by omega)
end RO
