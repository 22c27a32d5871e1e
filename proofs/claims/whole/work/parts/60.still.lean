theorem or_0 {a b : Int32} (h : a ||| b = 0) : a = 0 ∧ b = 0 := by
  have h1 : a.toBitVec ||| b.toBitVec = 0#32 := by
    have h2 := congrArg Int32.toBitVec h
    rw [Int32.toBitVec_or] at h2
    exact h2
  rw [BitVec.or_eq_zero_iff] at h1
  exact ⟨Int32.toBitVec_inj.mp h1.1, Int32.toBitVec_inj.mp h1.2⟩
theorem shF_0 {f : Nat → Int32} {a b : Nat} {w : Int32} (h : (shF f a b w).1 = 0) : (shF f a b w).2 = f := by
  unfold shF at h ⊢
  split
  · rfl
  · split
    · rfl
    · rename_i h1 h2
      rw [if_neg h1, if_neg h2] at h
      exact absurd (show (1 : Int32) = 0 from h) (by decide)
theorem msS_0 {seams : Int32} {fs sc : Nat → Nat} {wy : Nat → Int32} {q : Int32 × (Nat → Int32)} {i : Nat} (h : (msS seams fs sc wy q i).1 = 0) : q.1 = 0 ∧ (msS seams fs sc wy q i).2 = q.2 := by
  unfold msS at h ⊢
  split
  · rename_i h1
    rw [if_pos h1] at h
    exact ⟨h, rfl⟩
  · rename_i h1
    rw [if_neg h1] at h
    obtain ⟨h2, h3⟩ := or_0 h
    obtain ⟨h4, h5⟩ := or_0 h2
    have e1 := shF_0 h5
    have e2 := shF_0 h3
    exact ⟨h4, e2.trans e1⟩
theorem fold_0 {seams : Int32} {fs sc : Nat → Nat} {wy : Nat → Int32} : ∀ (k i : Nat) (q : Int32 × (Nat → Int32)), ((List.range' i k).foldl (msS seams fs sc wy) q).1 = 0 → q.1 = 0 ∧ ((List.range' i k).foldl (msS seams fs sc wy) q).2 = q.2 := by
  intro k
  induction k with
  | zero =>
    intro i q h
    exact ⟨h, rfl⟩
  | succ k ih =>
    intro i q h
    have h1 := ih (i + 1) (msS seams fs sc wy q i) h
    have h2 := msS_0 h1.1
    exact ⟨h2.1, h1.2.trans h2.2⟩
/-- k rounds, none left out -/
def itR (S : Nat) (seams : Int32) (fs sc : Nat → Nat) (wy : Nat → Int32) : Nat → (Nat → Int32) → (Nat → Int32)
  | 0, f => f
  | k + 1, f => itR S seams fs sc wy k (msO S seams fs sc wy f).2
theorem itR_fix {S : Nat} {seams : Int32} {fs sc : Nat → Nat} {wy : Nat → Int32} {f : Nat → Int32} (h : (msO S seams fs sc wy f).2 = f) : ∀ k, itR S seams fs sc wy k f = f := by
  intro k
  induction k with
  | zero => rfl
  | succ k ih =>
    show itR S seams fs sc wy k (msO S seams fs sc wy f).2 = f
    rw [h]
    exact ih
/-- stopping where nothing changed leaves nothing out -/
theorem msR_it {S : Nat} {seams : Int32} {fs sc : Nat → Nat} {wy : Nat → Int32} : ∀ (k : Nat) (ch : Int32) (f : Nat → Int32), (ch = 0 → (msO S seams fs sc wy f).2 = f) → msR S seams fs sc wy k ch f = itR S seams fs sc wy k f := by
  intro k
  induction k with
  | zero => intro ch f _; rfl
  | succ k ih =>
    intro ch f h
    unfold msR
    by_cases hc : ch = 0
    · rw [if_pos hc]
      exact (itR_fix (h hc) (k + 1)).symm
    · rw [if_neg hc]
      refine ih _ _ (fun h0 => ?_)
      have h1 := (fold_0 S 0 (0, f) h0).2
      have h2 : (msO S seams fs sc wy f).2 = f := h1
      rw [h2]
      exact h2
