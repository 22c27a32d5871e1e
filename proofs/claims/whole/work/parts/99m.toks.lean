/-! ===== read: a text's tokens are tokens ===== -/
section RR
variable {b : Nat → Nat} {n : Nat}
theorem sc1_v (hb : ∀ j, j < n → b j < 256) (h2 : n ≤ 2000) {q : Nat} (hq : q ≤ n) : (sc1 b n q).1.1 < 300 ∧ vK (sc1 b n q).1.1 = true ∧ (sc1 b n q).1.2.1 ≤ 2000 := by
  have v1 : vK 1 = true := by decide
  have v3 : vK 3 = true := by decide
  unfold sc1
  by_cases c : n ≤ q
  · rw [if_pos c]; exact ⟨by show 0 < 300; omega, by show vK 0 = true; decide, by show q ≤ 2000; omega⟩
  · rw [if_neg c]
    by_cases c1 : isL (b q) = true
    · rw [if_pos c1]
      refine ⟨?_, ?_, by show q ≤ 2000; omega⟩
      · show (if _ then _ else 1) < 300
        split
        · rcases sr_b (ltF b n (n - q) q 0).2 23 0 rfl with e | e <;> omega
        · omega
      · show vK (if _ then _ else 1) = true
        split
        · rcases sr_b (ltF b n (n - q) q 0).2 23 0 rfl with e | e
          · rw [e]; decide
          · unfold vK
            rw [decide_eq_true (show 256 ≤ srF (ltF b n (n - q) q 0).2 23 0 ∧ srF (ltF b n (n - q) q 0).2 23 0 < 279 from e), Bool.or_true]
        · exact v1
    · rw [if_neg c1]
      by_cases c2 : isD (b q) = true
      · rw [if_pos c2]
        refine ⟨?_, ?_, by show q ≤ 2000; omega⟩
        · show (if _ then 3 else 1) < 300
          split <;> omega
        · show vK (if _ then 3 else 1) = true
          split
          · exact v3
          · exact v1
      · rw [if_neg c2]
        have hbq := hb q (by omega)
        refine ⟨?_, ?_, by show q ≤ 2000; omega⟩
        · show (if isG (b q) = true then b q else 1) < 300
          split <;> omega
        · show vK (if isG (b q) = true then b q else 1) = true
          by_cases c3 : isG (b q) = true
          · rw [if_pos c3]; unfold vK; rw [c3, Bool.or_true, Bool.true_or]
          · rw [if_neg c3]; exact v1
theorem scL_t (hb : ∀ j, j < n → b j < 256) (h2 : n ≤ 2000) : ∀ (k p : Nat), p ≤ n → (scL b n k p).length ≤ k ∧ ∀ j, j < (scL b n k p).length → ((scL b n k p).getD j tk0).1 < 300 ∧ vK ((scL b n k p).getD j tk0).1 = true ∧ ((scL b n k p).getD j tk0).2.1 ≤ 2000 ∧ (((scL b n k p).getD j tk0).1 ≠ 0 → ((scL b n k p).getD j tk0).1 ≠ 1 → j + 1 < k → j + 1 < (scL b n k p).length) := by
  intro k
  induction k with
  | zero => intro p hp; exact ⟨Nat.le_refl _, fun j hj => absurd hj (Nat.not_lt_zero _)⟩
  | succ k ih =>
    intro p hp
    have hbl := bl_b (b := b) (n := n) (n - p) p
    have hv := sc1_v hb h2 (show blF b n (n - p) p ≤ n by omega)
    have hs2 := sc1_b (b := b) (n := n) (blF b n (n - p) p) (by omega)
    unfold scL
    generalize sc1 b n (blF b n (n - p) p) = r at hv hs2 ⊢
    by_cases c : r.1.1 = 0 ∨ r.1.1 = 1
    · rw [if_pos c]
      refine ⟨by rw [List.length_cons, List.length_nil]; omega, fun j hj => ?_⟩
      have e : j = 0 := by rw [List.length_cons, List.length_nil] at hj; omega
      subst e
      exact ⟨hv.1, hv.2.1, hv.2.2, fun a1 a2 _ => absurd c (fun h9 => h9.elim a1 a2)⟩
    · rw [if_neg c]
      obtain ⟨i1, i2⟩ := ih r.2 (hs2.2 (fun h9 => c (Or.inl h9)))
      refine ⟨by rw [List.length_cons]; omega, fun j hj => ?_⟩
      rw [List.length_cons] at hj ⊢
      cases j with
      | zero =>
        refine ⟨hv.1, hv.2.1, hv.2.2, fun _ _ hk => ?_⟩
        obtain ⟨k, rfl⟩ : ∃ z, k = z + 1 := ⟨k - 1, by omega⟩
        have : 0 < (scL b n (k + 1) r.2).length := by unfold scL; rw [List.length_cons]; omega
        omega
      | succ j =>
        obtain ⟨g1, g2, g3, g4⟩ := i2 j (by omega)
        refine ⟨g1, g2, g3, fun a1 a2 hk => ?_⟩
        have := g4 a1 a2 (by omega)
        omega
theorem TKS_of (hb : ∀ j, j < n → b j < 256) (h2 : n ≤ 2000) : TKS (fun j => (scL b n 401 0).getD j tk0) (scL b n 401 0).length := by
  obtain ⟨i1, i2⟩ := scL_t hb h2 401 0 (by omega)
  refine ⟨?_, i1, fun j hj => ?_, fun j hj a0 a1 a4 => ?_⟩
  · show 1 ≤ (scL b n (400 + 1) 0).length
    unfold scL; rw [List.length_cons]; omega
  · obtain ⟨g1, g2, g3, -⟩ := i2 j hj
    exact ⟨g1, g2, g3⟩
  · exact (i2 j hj).2.2.2 a0 a1 (by omega)
end RR
