/-! ===== the two sides' distances, step by step ===== -/
/-- f (the class) and g (the reference) know the same: not reached, or one number of at most B -/
def sameD (B : Nat) (f g : Nat → Int32) : Prop := ∀ j, j < 7 → (g j = nI 99999 ∧ f j = nI 1000000) ∨ ∃ m, m ≤ B ∧ f j = nI m ∧ g j = nI m
theorem sameD_up {B C : Nat} {f g : Nat → Int32} (h : sameD B f g) (hBC : B ≤ C) : sameD C f g := by
  intro j hj
  rcases h j hj with h | ⟨m, h1, h2⟩
  · exact Or.inl h
  · exact Or.inr ⟨m, by omega, h2⟩
theorem sameD_upd {B m : Nat} {f g : Nat → Int32} (h : sameD B f g) (b : Nat) (hm : m ≤ B) : sameD B (upd f b (nI m)) (upd g b (nI m)) := by
  intro j hj
  unfold upd
  by_cases e : j = b
  · rw [if_pos e, if_pos e]
    exact Or.inr ⟨m, hm, rfl, rfl⟩
  · rw [if_neg e, if_neg e]
    exact h j hj
theorem sameD_step {B x a b : Nat} {f g : Nat → Int32} (h : sameD B f g) (hx : x ≤ 99) (hB : B + 99 < 99999) (ha : a < 7) (hb : b < 7) : sameD (B + 99) (shF f a b (nI x)).2 (shM g a b (nI x)) := by
  have h9 := sameD_up h (show B ≤ B + 99 by omega)
  unfold shF shM
  rw [show (1000000 : Int32) = nI 1000000 from rfl]
  rcases h a ha with ⟨g1, f1⟩ | ⟨m, hm, f1, g1⟩
  · rw [f1, if_pos (nI_le (Nat.le_refl _) (by omega)), g1, nI_add]
    have hle : g b ≤ nI (99999 + x) := by
      rcases h b hb with ⟨g2, f2⟩ | ⟨m2, hm2, f2, g2⟩
      · rw [g2]; exact nI_le (by omega) (by omega)
      · rw [g2]; exact nI_le (by omega) (by omega)
    rw [if_pos hle]
    exact h9
  · rw [f1, if_neg (nI_ge (by omega) (by omega)), g1, nI_add]
    rcases h b hb with ⟨g2, f2⟩ | ⟨m2, hm2, f2, g2⟩
    · rw [f2, g2, if_neg (nI_ge (by omega) (by omega)), if_neg (nI_ge (by omega) (by omega))]
      exact sameD_upd h9 b (by omega)
    · rw [f2, g2]
      by_cases hc : m2 ≤ m + x
      · rw [if_pos (nI_le hc (by omega)), if_pos (nI_le hc (by omega))]
        exact h9
      · rw [if_neg (nI_ge (by omega) (by omega)), if_neg (nI_ge (by omega) (by omega))]
        exact sameD_upd h9 b (by omega)
