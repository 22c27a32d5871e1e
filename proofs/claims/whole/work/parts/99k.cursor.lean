/-! ===== read: the token at hand ===== -/
section RP
variable {I : Nat → Nat → Int32} {J : Nat → Nat → Int64} {d : Nat} {tok : Nat → TK} {T : Nat}
def vK (k : Nat) : Bool := decide (k ≤ 3) || isG k || decide (256 ≤ k ∧ k < 279)
theorem kap_i : ∀ k, k < 300 → ∀ l, l < 300 → vK k = true → vK l = true → kap k = kap l → k = l := by decide +kernel
theorem kap_b : ∀ k, k < 300 → vK k = true → kap k < 300 := by decide +kernel
/-- tokens that a text may have: the last one is the end, no token, or one too many -/
def TKS (tok : Nat → TK) (T : Nat) : Prop := 1 ≤ T ∧ T ≤ 401 ∧ (∀ j, j < T → (tok j).1 < 300 ∧ vK (tok j).1 = true ∧ (tok j).2.1 ≤ 2000) ∧ (∀ j, j < T → (tok j).1 ≠ 0 → (tok j).1 ≠ 1 → j ≠ 400 → j + 1 < T)
/-- the cursor: which token, and the fault -/
def tkS (tok : Nat → TK) (k : Nat) (c : Nat × Nat) : Nat × Nat := if c.2 = 0 then (if (tok c.1).1 = k then (if c.1 < 400 then (c.1 + 1, 0) else (c.1, 2)) else (c.1, 1)) else c
def cuC (I : Nat → Nat → Int32) (J : Nat → Nat → Int64) (tok : Nat → TK) (T : Nat) (c : Nat × Nat) : Prop := I 3 6 = nI c.1 ∧ I 3 7 = nI (tok c.1).1 ∧ I 3 8 = nI c.2 ∧ c.1 < T ∧ c.2 < 3 ∧ I 18 4 = nI T ∧ ∀ j, j < T → tkC I J j (tok j)
def cuM (I : Nat → Nat → Int32) (J : Nat → Nat → Int64) (tok : Nat → TK) (T : Nat) (c : Nat × Nat) : Prop := I 192 11 = nI c.1 ∧ I 192 13 = nI c.2 ∧ (c.2 ≠ 0 → I 192 14 = nI (tok c.1).2.1) ∧ c.1 < T ∧ c.2 < 3 ∧ ∀ j, j < T → tkM I J j (tok j)
def k678 (I I' : Nat → Nat → Int32) : Prop := ∀ j, j ≠ 6 → j ≠ 7 → j ≠ 8 → I' 3 j = I 3 j
theorem tkS_lt (h : TKS tok T) {k : Nat} (h0 : k ≠ 0) (h1 : k ≠ 1) {c : Nat × Nat} (hc : c.1 < T) (h3 : c.2 < 3) : (tkS tok k c).1 < T ∧ (tkS tok k c).2 < 3 := by
  unfold tkS
  by_cases e : c.2 = 0
  · rw [if_pos e]
    by_cases e1 : (tok c.1).1 = k
    · rw [if_pos e1]
      by_cases e2 : c.1 < 400
      · rw [if_pos e2]; exact ⟨h.2.2.2 c.1 hc (by rw [e1]; exact h0) (by rw [e1]; exact h1) (by omega), by show 0 < 3; omega⟩
      · rw [if_neg e2]; exact ⟨hc, by show 2 < 3; omega⟩
    · rw [if_neg e1]; exact ⟨hc, by show 1 < 3; omega⟩
  · rw [if_neg e]; exact ⟨hc, h3⟩
theorem tkC.kp {I' : Nat → Nat → Int32} {j : Nat} {t : TK} {X : List Nat} (h : tkC I J j t) (hk : kp X I I') (hX : 19 ∉ X ∧ 20 ∉ X) : tkC I' J j t := by
  unfold tkC; rw [hk 19 hX.1, hk 20 hX.2]; exact h
theorem ev_take (hd : 1 ≤ d) (hT : TKS tok T) {c : Nat × Nat} (h : cuC I J tok T c) {k : Nat} (hk : k < 300) (h0 : k ≠ 0) (h1 : k ≠ 1) : ∃ I', EV d T0 47 [.ref 3, .int (nI k)] (I, J) = some (some (.int (nI c.1)), (I', J)) ∧ kp [3] I I' ∧ k678 I I' ∧ cuC I' J tok T (tkS tok k c) := by
  obtain ⟨d, rfl⟩ : ∃ z, d = z + 1 := ⟨d - 1, by omega⟩
  obtain ⟨a1, a2, a3, a4, a5, a6, a7⟩ := h
  have hlt := tkS_lt hT h0 h1 a4 a5
  have hTT := hT.2.1
  have hkd := hT.2.2.1 c.1 a4
  rw [e_X4_take, runS_M, s_X4_take_0, a1, a2, a3]
  simp only [eq0_nI (show c.2 < 2 ^ 31 by omega), eq_nI (show (tok c.1).1 < 2 ^ 31 by omega) (show k < 2 ^ 31 by omega), show (nI c.1 < (400 : Int32)) = (c.1 < 400) from lt_nI (b := 400) (by omega) (by omega)]
  unfold tkS at hlt ⊢
  by_cases e : c.2 = 0
  · rw [if_pos e] at hlt
    rw [if_pos e, if_pos e]
    by_cases e1 : (tok c.1).1 = k
    · rw [if_pos e1] at hlt
      rw [if_pos e1, if_pos e1]
      by_cases e2 : c.1 < 400
      · rw [if_pos e2] at hlt
        have hl1 : c.1 + 1 < T := hlt.1
        have x1 : kp [3] I (p_wr (p_wr I 3 6 (nI (c.1 + 1))) 3 7 (nI (tok (c.1 + 1)).1)) := (kp.rf.wr (by decide)).wr (by decide)
        rw [if_pos e2, if_pos e2, nI_1, chk_in (by omega) (by omega), nI_clamp (by omega), (a7 (c.1 + 1) hl1).1]
        refine ⟨_, rfl, x1, fun j b1 b2 b3 => by rw [wr_eq, pk_un b2, wr_eq, pk_un b1], ?_, ?_, ?_, hl1, by show 0 < 3; omega, by rw [x1 18 (by decide)]; exact a6, fun j hj => (a7 j hj).kp x1 (by decide)⟩
        · rw [wr_eq, pk_un (by decide), wr_eq, pk_us]
        · rw [wr_eq, pk_us]
        · rw [wr_eq, pk_un (by decide), wr_eq, pk_un (by decide), a3, e]
      · have x1 : kp [3] I (p_wr I 3 8 2) := kp.rf.wr (by decide)
        rw [if_neg e2, if_neg e2]
        refine ⟨_, rfl, x1, fun j b1 b2 b3 => by rw [wr_eq, pk_un b3], ?_, ?_, ?_, a4, by show 2 < 3; omega, by rw [x1 18 (by decide)]; exact a6, fun j hj => (a7 j hj).kp x1 (by decide)⟩
        · rw [wr_eq, pk_un (by decide)]; exact a1
        · rw [wr_eq, pk_un (by decide)]; exact a2
        · rw [wr_eq, pk_us]; rfl
    · have x1 : kp [3] I (p_wr I 3 8 1) := kp.rf.wr (by decide)
      rw [if_neg e1, if_neg e1]
      refine ⟨_, rfl, x1, fun j b1 b2 b3 => by rw [wr_eq, pk_un b3], ?_, ?_, ?_, a4, by show 1 < 3; omega, by rw [x1 18 (by decide)]; exact a6, fun j hj => (a7 j hj).kp x1 (by decide)⟩
      · rw [wr_eq, pk_un (by decide)]; exact a1
      · rw [wr_eq, pk_un (by decide)]; exact a2
      · rw [wr_eq, pk_us]; rfl
  · rw [if_neg e, if_neg e]
    exact ⟨I, rfl, kp.rf, fun _ _ _ _ => rfl, a1, a2, a3, a4, a5, a6, a7⟩
/-! the reference's cursor -/
theorem q_is (hd : 1 ≤ d) (hT : TKS tok T) {c : Nat × Nat} (h : cuM I J tok T c) {k : Nat} (hk : k < 300) (hv : vK k = true) : EV d T0 178 [.ref 192, .int (nI (kap k))] (I, J) = some (some (.int (zI (c.2 = 0 ∧ (tok c.1).1 = k))), (I, J)) := by
  obtain ⟨d, rfl⟩ : ∃ z, d = z + 1 := ⟨d - 1, by omega⟩
  obtain ⟨a1, a2, a3, a4, a5, a6⟩ := h
  have hkd := hT.2.2.1 c.1 a4
  have hTT := hT.2.1
  have b1 := kap_b k hk hv
  have b2 := kap_b (tok c.1).1 hkd.1 hkd.2.1
  rw [e_X12_is, runS_M, s_X12_is_0, a1, a2]
  simp only [eq0_nI (show c.2 < 2 ^ 31 by omega)]
  rw [chk_in (by omega) (by omega), nI_clamp (by omega), (a6 c.1 a4).1]
  simp only [eq_nI (show kap (tok c.1).1 < 2 ^ 31 by omega) (show kap k < 2 ^ 31 by omega)]
  by_cases e : c.2 = 0
  · rw [if_pos e]
    by_cases e1 : (tok c.1).1 = k
    · rw [e1, if_pos rfl, zI_t ⟨e, rfl⟩]; rfl
    · rw [if_neg (fun h9 => e1 (kap_i _ hkd.1 k hk hkd.2.1 hv h9)), zI_f (fun h9 => e1 h9.2)]; rfl
  · rw [if_neg e, zI_f (fun h9 => e h9.1)]; rfl
end RP
