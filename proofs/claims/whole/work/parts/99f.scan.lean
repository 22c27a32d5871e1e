/-! ===== read: all tokens (class) ===== -/
section RK
variable {I : Nat → Nat → Int32} {J : Nat → Nat → Int64} {d : Nat} {b : Nat → Nat} {n : Nat}
theorem kpJ.rf {X : List Nat} : kpJ X J J := fun _ _ => rfl
theorem kpJ.tr {X : List Nat} {J' J'' : Nat → Nat → Int64} (h : kpJ X J J') (h' : kpJ X J' J'') : kpJ X J J'' := fun k hk => (h' k hk).trans (h k hk)
theorem sc1_k (h : TB I n b) {p : Nat} (hp : p ≤ n) : (sc1 b n p).1.1 < 300 := by
  unfold sc1
  by_cases c : n ≤ p
  · rw [if_pos c]; show 0 < 300; omega
  · rw [if_neg c]
    by_cases c1 : isL (b p) = true
    · rw [if_pos c1]
      show (if _ then _ else 1) < 300
      split
      · rcases sr_b (ltF b n (n - p) p 0).2 23 0 rfl with e | e <;> omega
      · omega
    · rw [if_neg c1]
      by_cases c2 : isD (b p) = true
      · rw [if_pos c2]
        show (if _ then 3 else 1) < 300
        split <;> omega
      · rw [if_neg c2]
        have := (h.2.2 p (by omega)).2
        show (if _ then b p else 1) < 300
        split <;> omega
theorem q_kindOf (hd : 1 ≤ d) {c j : Nat} (h18 : I 18 4 = nI c) (hj : j < c) (hc : c ≤ 401) : EV d T0 105 [.ref 18, .int (nI j)] (I, J) = some (some (.int (I 19 j)), (I, J)) := by
  obtain ⟨d, rfl⟩ : ∃ z, d = z + 1 := ⟨d - 1, by omega⟩
  rw [e_X10_kindOf, runS_M, s_X10_kindOf_0, if_neg (show ¬ nI j < (0 : Int32) from nI_nlt (b := 0) (by omega) (by omega)), h18, if_neg (nI_ge (by omega) (by omega)), chk_in (by omega) (by omega), nI_clamp (by omega)]
  rfl
theorem lp_scan (hd : 4 ≤ d) : ∀ (k x p m : Nat) (f : Nat → TK) (I : Nat → Nat → Int32) (J : Nat → Nat → Int64), x + k = 401 → p ≤ n → TB I n b → (∀ i, i < 23 → J 22 i = kyW i) → I 18 4 = nI x → (∀ j, j < x → tkC I J j (f j)) → 3 * k < m →
    ∃ I' J', runS (EV d) none 4 T0 C_X10_scan k_X10_scan rtV f_X10_scan m 9 [.ref 18, .ref 1, .int (nI p), .int (nI x)] [] (I, J) = some (none, (I', J')) ∧ kp [18, 19, 20] I I' ∧ kpJ [21] J J' ∧ I' 18 4 = nI (x + (scL b n k p).length) ∧ ∀ j, j < x + (scL b n k p).length → tkC I' J' j (if j < x then f j else (scL b n k p).getD (j - x) tk0) := by
  intro k
  induction k with
  | zero =>
    intro x p m f I J hx hp h hK h18 hf hm
    obtain ⟨m, rfl⟩ : ∃ z, m = z + 1 := ⟨m - 1, by omega⟩
    have e : x = 401 := by omega
    subst e
    refine ⟨I, J, ?_, kp.rf, kpJ.rf, h18, fun j hj => ?_⟩
    · rw [runS_s, s_X10_scan_9, if_pos (by decide)]; rfl
    · have hj' : j < 401 := hj
      rw [if_pos hj']; exact hf j hj'
  | succ k ih =>
    intro x p m f I J hx hp h hK h18 hf hm
    obtain ⟨m, rfl⟩ : ∃ z, m = z + 1 + 1 + 1 := ⟨m - 3, by omega⟩
    have hb := bl_b (b := b) (n := n) (n - p) p
    have hq : blF b n (n - p) p ≤ n := by omega
    have hk3 := sc1_k h hq
    have hs2 := sc1_b (b := b) (n := n) (blF b n (n - p) p) hq
    have h18' : adI I x (sc1 b n (blF b n (n - p) p)).1 18 4 = nI (x + 1) := ad_18
    have hkd : adI I x (sc1 b n (blF b n (n - p) p)).1 19 x = nI (sc1 b n (blF b n (n - p) p)).1.1 := (ad_eq (J := J)).1
    have hall : ∀ j, j < x + 1 → tkC (adI I x (sc1 b n (blF b n (n - p) p)).1) (adJ J x (sc1 b n (blF b n (n - p) p)).1) j (if j < x then f j else (sc1 b n (blF b n (n - p) p)).1) := fun j hj => by
      by_cases c : j < x
      · rw [if_pos c]; exact ad_ne (by omega) (hf j c)
      · have e : j = x := by omega
        subst e
        rw [if_neg c]; exact ad_eq
    rw [runS_s, s_X10_scan_9, if_neg (show ¬ (400 : Int32) < nI x from nI_nlt (a := 400) (by omega) (by omega)), q_blanks (by omega) h hp, p_ci_s, ev_scanOne (by omega) h hK (by omega) h18 hq, p_ci_s, runS_s, s_X10_scan_27, q_kindOf (by omega) h18' (by omega) (by omega), p_ci_s, q_kindOf (by omega) h18' (by omega) (by omega), p_ci_s, hkd]
    simp only [eq0_nI (show (sc1 b n (blF b n (n - p) p)).1.1 < 2 ^ 31 by omega), show (nI (sc1 b n (blF b n (n - p) p)).1.1 = (1 : Int32)) = ((sc1 b n (blF b n (n - p) p)).1.1 = 1) from eq_nI (b := 1) (by omega) (by omega)]
    have stop : ((sc1 b n (blF b n (n - p) p)).1.1 = 0 ∨ (sc1 b n (blF b n (n - p) p)).1.1 = 1) → ∃ I' J', (some (none, (adI I x (sc1 b n (blF b n (n - p) p)).1, adJ J x (sc1 b n (blF b n (n - p) p)).1)) : Option Rs) = some (none, (I', J')) ∧ kp [18, 19, 20] I I' ∧ kpJ [21] J J' ∧ I' 18 4 = nI (x + (scL b n (k + 1) p).length) ∧ ∀ j, j < x + (scL b n (k + 1) p).length → tkC I' J' j (if j < x then f j else (scL b n (k + 1) p).getD (j - x) tk0) := by
      intro c
      have e : scL b n (k + 1) p = [(sc1 b n (blF b n (n - p) p)).1] := by unfold scL; rw [if_pos c]
      refine ⟨_, _, rfl, ad_kp, ad_kpJ, ?_, fun j hj => ?_⟩
      · rw [e]; exact ad_18
      · rw [e] at hj ⊢
        have hj' : j < x + 1 := hj
        have := hall j hj'
        by_cases c2 : j < x
        · rw [if_pos c2] at this ⊢; exact this
        · have e2 : j - x = 0 := by omega
          rw [if_neg c2] at this ⊢; rw [e2]; exact this
    by_cases c0 : (sc1 b n (blF b n (n - p) p)).1.1 = 0
    · rw [if_pos c0]; exact stop (Or.inl c0)
    · rw [if_neg c0]
      by_cases c1 : (sc1 b n (blF b n (n - p) p)).1.1 = 1
      · rw [if_pos c1]; exact stop (Or.inr c1)
      · rw [if_neg c1]
        have e : scL b n (k + 1) p = (sc1 b n (blF b n (n - p) p)).1 :: scL b n k (sc1 b n (blF b n (n - p) p)).2 := by
          show _ :: (if _ then _ else _) = _
          rw [if_neg (fun h9 => h9.elim c0 c1)]
        obtain ⟨I', J', u1, u2, u3, u4, u5⟩ := ih (x + 1) (sc1 b n (blF b n (n - p) p)).2 m (fun j => if j < x then f j else (sc1 b n (blF b n (n - p) p)).1) _ _ (by omega) (hs2.2 c0) (h.kp (ad_kp (c := x) (t := (sc1 b n (blF b n (n - p) p)).1)) (by decide)) (fun i hi => by rw [ad_kpJ 22 (by decide)]; exact hK i hi) h18' hall (by omega)
        refine ⟨I', J', ?_, ad_kp.tr u2, ad_kpJ.tr u3, ?_, fun j hj => ?_⟩
        · rw [runS_s, s_X10_scan_45, nI_1]; exact u1
        · rw [u4, e, List.length_cons]; congr 1; omega
        · rw [e, List.length_cons] at hj
          have := u5 j (by omega)
          rw [e]
          by_cases c2 : j < x
          · rw [if_pos (by omega), if_pos c2] at this
            rw [if_pos c2]; exact this
          · rw [if_neg c2]
            by_cases c3 : j < x + 1
            · have e2 : j - x = 0 := by omega
              rw [if_pos c3, if_neg c2] at this
              rw [e2]; exact this
            · rw [if_neg c3] at this
              have e2 : j - x = (j - (x + 1)) + 1 := by omega
              rw [e2]; exact this
theorem ev_scan (hd : 5 ≤ d) (h : TB I n b) (hK : ∀ i, i < 23 → J 22 i = kyW i) : ∃ I' J', EV d T0 108 [.ref 18, .ref 1] (I, J) = some (none, (I', J')) ∧ kp [18, 19, 20] I I' ∧ kpJ [21] J J' ∧ I' 18 4 = nI (scL b n 401 0).length ∧ ∀ j, j < (scL b n 401 0).length → tkC I' J' j ((scL b n 401 0).getD j tk0) := by
  obtain ⟨d, rfl⟩ : ∃ z, d = z + 1 := ⟨d - 1, by omega⟩
  have k1 : kp [18, 19, 20] I (p_wr I 18 4 0) := kp.rf.wr (by decide)
  obtain ⟨I', J', u1, u2, u3, u4, u5⟩ := lp_scan (d := d) (b := b) (n := n) (by omega) 401 0 0 999999 (fun _ => tk0) (p_wr I 18 4 0) J (by omega) (by omega) (h.kp k1 (by decide)) hK (by rw [wr_eq, pk_us]; rfl) (fun j hj => by omega) (by omega)
  rw [Nat.zero_add] at u4 u5
  refine ⟨I', J', ?_, k1.tr u2, u3, u4, fun j hj => ?_⟩
  · rw [e_X10_scan, runS_M, s_X10_scan_0]; exact u1
  · have := u5 j hj
    rw [if_neg (by omega)] at this; exact this
end RK
