/-! ===== read: faults that are noted ===== -/
section RS1
variable {I : Nat → Nat → Int32} {J : Nat → Nat → Int64} {d : Nat} {tok : Nat → TK} {T : Nat}
/-- the first fault that was noted: its number (0: none) and its place -/
def ntS (k p : Nat) (s : Nat × Nat) : Nat × Nat := if s.1 = 0 then (k, p) else s
def sfC (I : Nat → Nat → Int32) (s : Nat × Nat) : Prop := I 3 9 = nI s.1 ∧ s.1 < 6 ∧ (s.1 ≠ 0 → I 3 10 = nI s.2) ∧ (s.1 = 0 → I 3 10 = -1)
def sfM (I : Nat → Nat → Int32) (s : Nat × Nat) : Prop := I 192 15 = nI s.1 ∧ s.1 < 6 ∧ (s.1 ≠ 0 → I 192 16 = nI s.2) ∧ s.2 ≤ 2000
theorem q_startOf (hd : 1 ≤ d) {c : Nat × Nat} (hT : TKS tok T) (h : cuC I J tok T c) {j : Nat} (hj : j < T) : EV d T0 106 [.ref 18, .int (nI j)] (I, J) = some (some (.int (nI (tok j).2.1)), (I, J)) := by
  obtain ⟨d, rfl⟩ : ∃ z, d = z + 1 := ⟨d - 1, by omega⟩
  have hTT := hT.2.1
  rw [e_X10_startOf, runS_M, s_X10_startOf_0, if_neg (show ¬ nI j < (0 : Int32) from nI_nlt (b := 0) (by omega) (by omega)), h.2.2.2.2.2.1, if_neg (nI_ge (by omega) (by omega)), chk_in (by omega) (by omega), nI_clamp (by omega), (h.2.2.2.2.2.2 j hj).2.1]
  rfl
theorem q_valueOf (hd : 1 ≤ d) {c : Nat × Nat} (hT : TKS tok T) (h : cuC I J tok T c) {j : Nat} (hj : j < T) : EV d T0 107 [.ref 18, .int (nI j)] (I, J) = some (some (.long (tkV (tok j))), (I, J)) := by
  obtain ⟨d, rfl⟩ : ∃ z, d = z + 1 := ⟨d - 1, by omega⟩
  have hTT := hT.2.1
  rw [e_X10_valueOf, runS_M, s_X10_valueOf_0, if_neg (show ¬ nI j < (0 : Int32) from nI_nlt (b := 0) (by omega) (by omega)), h.2.2.2.2.2.1, if_neg (nI_ge (by omega) (by omega)), chk_in (by omega) (by omega), nI_clamp (by omega), (h.2.2.2.2.2.2 j hj).2.2]
  rfl
theorem cuC.go {I' : Nat → Nat → Int32} {c : Nat × Nat} (h : cuC I J tok T c) (hk : kp [3] I I') (h6 : I' 3 6 = I 3 6) (h7 : I' 3 7 = I 3 7) (h8 : I' 3 8 = I 3 8) : cuC I' J tok T c :=
  ⟨h6.trans h.1, h7.trans h.2.1, h8.trans h.2.2.1, h.2.2.2.1, h.2.2.2.2.1, by rw [hk 18 (by decide)]; exact h.2.2.2.2.2.1, fun j hj => (h.2.2.2.2.2.2 j hj).kp hk (by decide)⟩
theorem ev_note (hd : 2 ≤ d) {c : Nat × Nat} (hT : TKS tok T) (h : cuC I J tok T c) {s : Nat × Nat} (hs : sfC I s) {k j : Nat} (hk : 0 < k) (hk6 : k < 6) (hj : j < T) : ∃ I', EV d T0 48 [.ref 3, .int (nI k), .int (nI j)] (I, J) = some (none, (I', J)) ∧ kp [3] I I' ∧ (∀ q, q ≠ 9 → q ≠ 10 → I' 3 q = I 3 q) ∧ cuC I' J tok T c ∧ sfC I' (ntS k (tok j).2.1 s) := by
  obtain ⟨d, rfl⟩ : ∃ z, d = z + 1 := ⟨d - 1, by omega⟩
  have hs1 := hs.2.1
  rw [e_X4_note, runS_M, s_X4_note_0, hs.1]
  simp only [eq0_nI (show s.1 < 2 ^ 31 by omega)]
  unfold ntS
  by_cases e : s.1 = 0
  · rw [if_pos e, if_pos e]
    have x1 : kp [3] I (p_wr I 3 9 (nI k)) := kp.rf.wr (by decide)
    have h1 : cuC (p_wr I 3 9 (nI k)) J tok T c := h.go x1 (by rw [wr_eq, pk_un (by decide)]) (by rw [wr_eq, pk_un (by decide)]) (by rw [wr_eq, pk_un (by decide)])
    have x2 : kp [3] I (p_wr (p_wr I 3 9 (nI k)) 3 10 (nI (tok j).2.1)) := x1.wr (by decide)
    have f2 : ∀ q, q ≠ 9 → q ≠ 10 → p_wr (p_wr I 3 9 (nI k)) 3 10 (nI (tok j).2.1) 3 q = I 3 q := fun q a b => by rw [wr_eq, pk_un b, wr_eq, pk_un a]
    rw [q_startOf (by omega) hT h1 hj, p_ci_s]
    refine ⟨_, rfl, x2, f2, h.go x2 (f2 6 (by decide) (by decide)) (f2 7 (by decide) (by decide)) (f2 8 (by decide) (by decide)), ?_, hk6, fun _ => ?_, fun h9 => absurd h9 (by show ¬ k = 0; omega)⟩
    · show p_wr (p_wr I 3 9 (nI k)) 3 10 (nI (tok j).2.1) 3 9 = nI k
      rw [wr_eq, pk_un (by decide), wr_eq, pk_us]
    · show p_wr (p_wr I 3 9 (nI k)) 3 10 (nI (tok j).2.1) 3 10 = _
      rw [wr_eq, pk_us]
  · rw [if_neg e, if_neg e]
    exact ⟨I, rfl, kp.rf, fun _ _ _ => rfl, h, hs⟩
/-- the reference keeps the least: the same, where faults are noted in their order -/
theorem ev_wrong (hd : 1 ≤ d) {c : Nat × Nat} (hT : TKS tok T) (h : cuM I J tok T c) (hc : c.2 = 0) {s : Nat × Nat} (hs : sfM I s) {k j : Nat} (hk6 : k < 6) (hj : j < T) (ho : s.1 = 0 ∨ s.2 < (tok j).2.1 ∨ (s.2 = (tok j).2.1 ∧ s.1 ≤ k)) : ∃ I', EV d T0 180 [.ref 192, .int (nI k), .int (nI j)] (I, J) = some (none, (I', J)) ∧ kp [192] I I' ∧ (∀ q, q ≠ 15 → q ≠ 16 → I' 192 q = I 192 q) ∧ cuM I' J tok T c ∧ sfM I' (ntS k (tok j).2.1 s) := by
  obtain ⟨d, rfl⟩ : ∃ z, d = z + 1 := ⟨d - 1, by omega⟩
  have hTT := hT.2.1
  have hpl := (hT.2.2.1 j hj).2.2
  obtain ⟨s1, s2, s3, s4⟩ := hs
  have a6 := h.2.2.2.2.2
  rw [e_X12_wrong, runS_M, s_X12_wrong_0, chk_in (by omega) (by omega), nI_clamp (by omega), (a6 j hj).2.1, h.2.1, hc, if_neg (show ¬ (0 : Int32) < nI 0 by decide), s1]
  simp only [eq0_nI (show s.1 < 2 ^ 31 by omega)]
  unfold ntS
  by_cases e : s.1 = 0
  · have x2 : kp [192] I (p_wr (p_wr I 192 15 (nI k)) 192 16 (nI (tok j).2.1)) := (kp.rf.wr (by decide)).wr (by decide)
    have f2 : ∀ q, q ≠ 15 → q ≠ 16 → p_wr (p_wr I 192 15 (nI k)) 192 16 (nI (tok j).2.1) 192 q = I 192 q := fun q a b => by rw [wr_eq, pk_un b, wr_eq, pk_un a]
    rw [if_pos e, if_pos e, show (999999 : Nat) = 999998 + 1 from rfl, runS_s, s_X12_wrong_51]
    refine ⟨_, rfl, x2, f2, ⟨(f2 11 (by decide) (by decide)).trans h.1, (f2 13 (by decide) (by decide)).trans h.2.1, fun h9 => (f2 14 (by decide) (by decide)).trans (h.2.2.1 h9), h.2.2.2.1, h.2.2.2.2.1, fun q hq => (a6 q hq).kp x2 (by decide)⟩, ?_, hk6, fun _ => ?_, hpl⟩
    · rw [wr_eq, pk_un (by decide), wr_eq, pk_us]
    · rw [wr_eq, pk_us]
  · rw [if_neg e, if_neg e, s3 e]
    simp only [lt_nI (show s.2 < 2 ^ 31 by omega) (show (tok j).2.1 < 2 ^ 31 by omega), eq_nI (show (tok j).2.1 < 2 ^ 31 by omega) (show s.2 < 2 ^ 31 by omega), lt_nI (show k < 2 ^ 31 by omega) (show s.1 < 2 ^ 31 by omega)]
    by_cases c1 : s.2 < (tok j).2.1
    · rw [if_pos c1]; exact ⟨I, rfl, kp.rf, fun _ _ _ => rfl, h, s1, s2, s3, s4⟩
    · rw [if_neg c1, if_pos (by omega), if_neg (by omega)]
      exact ⟨I, rfl, kp.rf, fun _ _ _ => rfl, h, s1, s2, s3, s4⟩
end RS1
