/-! ===== read: first tokens, names (class) ===== -/
section RT
variable {I : Nat → Nat → Int32} {J : Nat → Nat → Int64} {d : Nat} {tok : Nat → TK} {T : Nat}
/-- past the first token of what there may be no room for -/
def tfS (room : Bool) (c : Nat × Nat) : Nat × Nat := if c.2 = 0 then (if room = true then goS c else (c.1, 2)) else c
theorem ev_takeFirst (hd : 2 ≤ d) (hT : TKS tok T) {c : Nat × Nat} (h : cuC I J tok T c) (room : Bool) (h0 : (tok c.1).1 ≠ 0) (h1 : (tok c.1).1 ≠ 1) {x : Int32} (hx : x = zI (room = true)) : ∃ I', EV d T0 46 [.ref 3, .int x] (I, J) = some (none, (I', J)) ∧ kp [3] I I' ∧ k678 I I' ∧ cuC I' J tok T (tfS room c) := by
  obtain ⟨d, rfl⟩ : ∃ z, d = z + 1 := ⟨d - 1, by omega⟩
  subst hx
  have hTT := hT.2.1
  have a4 := h.2.2.2.1
  have a5 := h.2.2.2.2.1
  have hkd := hT.2.2.1 c.1 a4
  rw [e_X4_takeFirst, runS_M, s_X4_takeFirst_0]
  unfold tfS
  cases room with
  | false =>
    rw [if_pos (zI_f (by decide)), h.2.2.1]
    simp only [eq0_nI (show c.2 < 2 ^ 31 by omega)]
    by_cases e : c.2 = 0
    · have x1 : kp [3] I (p_wr I 3 8 2) := kp.rf.wr (by decide)
      rw [if_pos e, if_pos e, if_neg (by decide)]
      refine ⟨_, rfl, x1, fun j _ _ b3 => by rw [wr_eq, pk_un b3], ?_, ?_, ?_, a4, by show 2 < 3; omega, by rw [x1 18 (by decide)]; exact h.2.2.2.2.2.1, fun j hj => (h.2.2.2.2.2.2 j hj).kp x1 (by decide)⟩
      · rw [wr_eq, pk_un (by decide)]; exact h.1
      · rw [wr_eq, pk_un (by decide)]; exact h.2.1
      · rw [wr_eq, pk_us]; rfl
    · rw [if_neg e, if_neg e]; exact ⟨I, rfl, kp.rf, fun _ _ _ _ => rfl, h⟩
  | true =>
    obtain ⟨I1, t1, t2, t3, t4⟩ := ev_take (d := d) (I := I) (J := J) (by omega) hT h hkd.1 h0 h1
    rw [if_neg (by decide), h.2.1, t1, p_ci_s]
    refine ⟨I1, rfl, t2, t3, ?_⟩
    by_cases e : c.2 = 0
    · rw [if_pos e, if_pos rfl, ← go_tk (tok := tok) e rfl (by omega)]; exact t4
    · rw [if_neg e]
      have e9 : tkS tok (tok c.1).1 c = c := if_neg e
      rw [e9] at t4; exact t4
/-- names that were told: in the class's cells -/
def nmC (I : Nat → Nat → Int32) (J : Nat → Nat → Int64) (m : Nat) (nm : Nat → Int64) (tw : Nat → Int32) : Prop := I 3 5 = nI m ∧ m ≤ 14 ∧ ∀ j, j < m → J 23 j = nm j ∧ I 24 j = tw j
/-- the first of the names that is v -/
def fnF (nm : Nat → Int64) (v : Int64) : Nat → Nat → Option Nat
  | 0, _ => none
  | k + 1, i => if nm i = v then some i else fnF nm v k (i + 1)
def fnI (o : Option Nat) : Int32 := match o with
  | none => -1
  | some i => nI i
theorem lp_find (hd : 1 ≤ d) (hT : TKS tok T) {c : Nat × Nat} (h : cuC I J tok T c) {m : Nat} {nm : Nat → Int64} {tw : Nat → Int32} (hn : nmC I J m nm tw) {j : Nat} (hj : j < T) : ∀ (k i q : Nat), i + k = m → k < q →
    runS (EV d) none 3 T0 C_X4_findName k_X4_findName rtI f_X4_findName q 2 [.ref 3, .int (nI j), .int (nI i)] [] (I, J) = some (some (.int (fnI (fnF nm (tkV (tok j)) k i))), (I, J)) := by
  obtain ⟨n1, n2, n3⟩ := hn
  intro k
  induction k with
  | zero =>
    intro i q hi hq
    obtain ⟨q, rfl⟩ : ∃ z, q = z + 1 := ⟨q - 1, by omega⟩
    rw [runS_s, s_X4_findName_2, n1, if_pos (nI_le (by omega) (by omega))]
    rfl
  | succ k ih =>
    intro i q hi hq
    obtain ⟨q, rfl⟩ : ∃ z, q = z + 1 := ⟨q - 1, by omega⟩
    rw [runS_s, s_X4_findName_2, n1, if_neg (nI_ge (by omega) (by omega)), chk_in (by omega) (by omega), q_valueOf hd hT h hj, p_cl_s, nI_clamp (by omega), (n3 i (by omega)).1]
    simp only [lg_0]
    unfold fnF
    by_cases e : nm i = tkV (tok j)
    · rw [if_pos e, if_pos e]; rfl
    · rw [if_neg e, if_neg e, nI_1]
      exact ih (i + 1) q (by omega) (by omega)
theorem q_findName (hd : 2 ≤ d) (hT : TKS tok T) {c : Nat × Nat} (h : cuC I J tok T c) {m : Nat} {nm : Nat → Int64} {tw : Nat → Int32} (hn : nmC I J m nm tw) {j : Nat} (hj : j < T) : EV d T0 50 [.ref 3, .int (nI j)] (I, J) = some (some (.int (fnI (fnF nm (tkV (tok j)) m 0))), (I, J)) := by
  obtain ⟨d, rfl⟩ : ∃ z, d = z + 1 := ⟨d - 1, by omega⟩
  have h14 := hn.2.1
  rw [e_X4_findName, runS_M, s_X4_findName_0]
  exact lp_find (d := d) (by omega) hT h hn hj m 0 999999 (by omega) (by omega)
end RT
