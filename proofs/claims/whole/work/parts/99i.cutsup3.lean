/-! ===== read: all tokens (reference), the loop ===== -/
section RN
variable {I : Nat → Nat → Int32} {J : Nat → Nat → Int64} {d : Nat} {b : Nat → Nat} {n : Nat}
theorem cut_tok (hd : 3 ≤ d) (h : TBR I n b) (hK : ∀ i, i < 23 → J 199 i = kyW i) {x : Nat} (hx : x ≤ 400) (h10 : I 192 10 = nI x) {q m : Nat} (hq : q < n) (hb : isB (b q) = false) (hm : 4 * (n - q) + 100 < m) :
    ∃ m' z v, m ≤ m' + 3 * ((sc1 b n q).2 - q) + 40 ∧ tkM (tmI I x (nI (kap (sc1 b n q).1.1)) (nI q) z) (tmJ J x v) x (sc1 b n q).1 ∧ runS (EV d) none 8 T0 C_X12_cutsUp k_X12_cutsUp rtV f_X12_cutsUp m 7 [.ref 192, .int (nI q), un, un, un, un, un, un] [] (I, J) = runS (EV d) none 8 T0 C_X12_cutsUp k_X12_cutsUp rtV f_X12_cutsUp m' 7 [.ref 192, .int (nI (sc1 b n q).2), un, un, un, un, un, un] [] (tmI I x (nI (kap (sc1 b n q).1.1)) (nI q) z, tmJ J x v) := by
  have h2 := h.2.1
  have hbq := (h.2.2 q hq).2
  have e0 : by0 b n q = b q := if_pos hq
  have nb : ¬ (b q = 9 ∨ b q = 10 ∨ b q = 13 ∨ b q = 32) := fun h9 => by
    have : isB (b q) = true := decide_eq_true h9
    rw [hb] at this; exact absurd this (by decide)
  have hxx : ∀ k, k < 256 → b q ≠ k → ¬ nI (b q) = nI k := fun k hk hne => by rw [eq_nI (by omega) (by omega)]; exact hne
  obtain ⟨m, rfl⟩ : ∃ z, m = z + 1 + 1 := ⟨m - 2, by omega⟩
  have head : runS (EV d) none 8 T0 C_X12_cutsUp k_X12_cutsUp rtV f_X12_cutsUp (m + 1 + 1) 7 [.ref 192, .int (nI q), un, un, un, un, un, un] [] (I, J) = runS (EV d) none 8 T0 C_X12_cutsUp k_X12_cutsUp rtV f_X12_cutsUp (m + 1) 73 [.ref 192, .int (nI q), .int (nI (b q)), un, un, un, un, un] [] (I, J) := by
    rw [runS_s, s_X12_cutsUp_7, h10, if_neg (show ¬ (400 : Int32) < nI x from nI_nlt (a := 400) (by omega) (by omega)), q_byteR (by omega) h (by omega), p_ci_s, e0]
    dsimp only
    rw [if_pos (show nI q < I 192 4 by rw [h.1]; exact nI_lt (by omega) (by omega)), if_neg (show ¬ nI (b q) = (9 : Int32) from hxx 9 (by omega) (by omega)), if_neg (show ¬ nI (b q) = (10 : Int32) from hxx 10 (by omega) (by omega)), if_neg (show ¬ nI (b q) = (13 : Int32) from hxx 13 (by omega) (by omega)), if_neg (show ¬ nI (b q) = (32 : Int32) from hxx 32 (by omega) (by omega))]
  rw [head, runS_s, s_X12_cutsUp_73, q_isLR (by omega) hbq, p_ci_s]
  unfold sc1
  rw [if_neg (show ¬ n ≤ q by omega)]
  by_cases c1 : isL (b q) = true
  · rw [if_pos c1, if_neg (show ¬ zI (isL (b q) = true) = 0 by rw [zI_t c1]; decide)]
    obtain ⟨m1, w, u1, u2, u3⟩ := lp_letR (d := d) (I := I) (J := J) (by omega) h (p0 := q) (n - q) q m 0 0 (by omega) (by omega) (by omega) (fun _ => rfl)
    have hl := lt_b (b := b) (n := n) (n - q) q 0
    rw [Nat.sub_self] at u3
    obtain ⟨m1, rfl⟩ : ∃ z, m1 = z + 1 + 1 + 23 + 1 := ⟨m1 - 26, by omega⟩
    dsimp only
    by_cases c8 : (ltF b n (n - q) q 0).1 - q ≤ 8
    · rw [if_pos c8]
      have hw := u2 c8
      have hs := sr_b (ltF b n (n - q) q 0).2 23 0 rfl
      have hks := ks_kap (ltF b n (n - q) q 0).2
      generalize srF (ltF b n (n - q) q 0).2 23 0 = κ at hs hks ⊢
      refine ⟨m1, 0, (ltF b n (n - q) q 0).2, by omega, tm_eq (t := (κ, q, 0, (ltF b n (n - q) q 0).2)) rfl (fun h3 => ?_) (fun _ => rfl), ?_⟩
      · have h3' : κ = 3 := h3
        omega
      · refine u3.trans ?_
        have hz := lp_keys (O := EV d) (I := I) (J := J) hK (nI q) (nI ((ltF b n (n - q) q 0).1 - q)) w 23 0 1 (m1 + 1 + 1) (by omega)
        rw [runS_s, s_X12_cutsUp_124, if_pos (show nI ((ltF b n (n - q) q 0).1 - q) ≤ (8 : Int32) from nI_le (b := 8) (by omega) (by omega)), if_neg (show ¬ (8 : Int32) < nI ((ltF b n (n - q) q 0).1 - q) from nI_nlt (a := 8) (by omega) (by omega))]
        refine hz.trans ?_
        rw [runS_s, s_X12_cutsUp_146, if_pos (by decide), ev_token (by omega) (by omega) h10, p_cv_s, nI_add, show q + ((ltF b n (n - q) q 0).1 - q) = (ltF b n (n - q) q 0).1 by omega, runS_s, s_X12_cutsUp_291, hw, hks]
    · rw [if_neg c8]
      refine ⟨m1 + 24, 0, w, by omega, tm_eq (t := (1, q, 0, (ltF b n (n - q) q 0).2)) rfl (fun h3 => absurd h3 (by show ¬ (1 : Nat) = 3; decide)) (fun h3 => absurd h3 (by show ¬ (1 : Nat) = 2; decide)), ?_⟩
      refine u3.trans ?_
      rw [runS_s, s_X12_cutsUp_124, if_neg (show ¬ nI ((ltF b n (n - q) q 0).1 - q) ≤ (8 : Int32) from nI_ge (b := (ltF b n (n - q) q 0).1 - q) (a := 8) (by omega) (by omega)), if_pos (show (8 : Int32) < nI ((ltF b n (n - q) q 0).1 - q) from nI_lt (a := 8) (by omega) (by omega)), ev_token (x := 3) (z := 0) (by omega) (by omega) h10, p_cv_s, nI_add, show q + ((ltF b n (n - q) q 0).1 - q) = (ltF b n (n - q) q 0).1 by omega, show m1 + 1 + 1 + 23 = (m1 + 24) + 1 by omega, runS_s, s_X12_cutsUp_291]
      rfl
  · rw [if_neg c1, if_pos (zI_f c1), q_isDR (by omega) hbq, p_ci_s]
    by_cases c2 : isD (b q) = true
    · rw [if_pos c2, if_neg (show ¬ zI (isD (b q) = true) = 0 by rw [zI_t c2]; decide)]
      obtain ⟨m, rfl⟩ : ∃ z, m = z + 1 := ⟨m - 1, by omega⟩
      obtain ⟨m1, w, u1, u2, u3⟩ := lp_digR (d := d) (I := I) (J := J) (by omega) h (p0 := q) (n - q) q m 0 0 (by omega) (by omega) (by omega) (fun _ => rfl)
      have hl := dg_b (b := b) (n := n) (n - q) q 0
      rw [Nat.sub_self] at u3
      obtain ⟨m1, rfl⟩ : ∃ z, m1 = z + 1 + 1 := ⟨m1 - 2, by omega⟩
      dsimp only
      rw [runS_s, s_X12_cutsUp_203]
      by_cases c4 : (dgF b n (n - q) q 0).1 - q ≤ 4
      · rw [if_pos c4]
        refine ⟨m1, w, 0, by omega, tm_eq (t := (3, q, (dgF b n (n - q) q 0).2, 0)) rfl (fun _ => u2 c4) (fun h3 => absurd h3 (by show ¬ (3 : Nat) = 2; decide)), ?_⟩
        refine u3.trans ?_
        rw [runS_s, s_X12_cutsUp_250, if_pos (show nI ((dgF b n (n - q) q 0).1 - q) ≤ (4 : Int32) from nI_le (b := 4) (by omega) (by omega)), ev_token (x := 2) (v := Int64.ofNat 0) (by omega) (by omega) h10, p_cv_s, nI_add, show q + ((dgF b n (n - q) q 0).1 - q) = (dgF b n (n - q) q 0).1 by omega, runS_s, s_X12_cutsUp_291]
        rfl
      · rw [if_neg c4]
        refine ⟨m1, w, 0, by omega, tm_eq (t := (1, q, (dgF b n (n - q) q 0).2, 0)) rfl (fun h3 => absurd h3 (by show ¬ (1 : Nat) = 3; decide)) (fun h3 => absurd h3 (by show ¬ (1 : Nat) = 2; decide)), ?_⟩
        refine u3.trans ?_
        rw [runS_s, s_X12_cutsUp_250, if_neg (show ¬ nI ((dgF b n (n - q) q 0).1 - q) ≤ (4 : Int32) from nI_ge (b := (dgF b n (n - q) q 0).1 - q) (a := 4) (by omega) (by omega)), ev_token (x := 3) (v := Int64.ofNat 0) (by omega) (by omega) h10, p_cv_s, nI_add, show q + ((dgF b n (n - q) q 0).1 - q) = (dgF b n (n - q) q 0).1 by omega, runS_s, s_X12_cutsUp_291]
        rfl
    · rw [if_neg c2, if_pos (zI_f c2)]
      obtain ⟨m, rfl⟩ : ∃ z, m = z + 1 + 1 := ⟨m - 2, by omega⟩
      dsimp only
      refine ⟨m, 0, 0, by omega, tm_eq (t := (if isG (b q) = true then b q else 1, q, 0, 0)) rfl (fun _ => rfl) (fun _ => rfl), ?_⟩
      rw [runS_s, s_X12_cutsUp_275, nI_1, q_byteR (by omega) h (by omega), p_ci_s, ev_sign (by omega) (by omega) h10 hbq, p_ci_s, nI_1, runS_s, s_X12_cutsUp_291]
def scR (b : Nat → Nat) (n : Nat) : Nat → Nat → List TK
  | 0, _ => []
  | k + 1, p => (sc1 b n (blF b n (n - p) p)).1 :: (if (sc1 b n (blF b n (n - p) p)).1.1 = 0 then [] else scR b n k (sc1 b n (blF b n (n - p) p)).2)
theorem TBR.go {I' : Nat → Nat → Int32} {X : List Nat} (h : TBR I n b) (hk : kp X I I') (hX : 194 ∉ X) (hf : I' 192 4 = I 192 4) : TBR I' n b := by
  unfold TBR; rw [hk 194 hX, hf]; exact h
end RN
