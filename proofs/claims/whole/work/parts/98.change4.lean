/-! ===== hold, restore, tell, forget ===== -/
section RD
variable {P : PP} {I : Nat → Nat → Int32} {J : Nat → Nat → Int64} {d : Nat} {A : AS} {E : ES}
def slot (f : Nat → Option YS) (s : Nat) (y : YS) : Nat → Option YS := fun k => if k = s then some y else f k
def holdV (a : Int32) : Int32 := if zI (¬ a < 0 ∧ ¬ 2 < a) = 0 then 0 else 1
def holdA (A : AS) (a : Int32) : AS := if zI (¬ a < 0 ∧ ¬ 2 < a) = 0 then A else (A.1, A.2.1, slot A.2.2.1 a.toNatClampNeg A.1, A.2.2.2)
theorem nar1 : vp_nar .boolean (1 : Int32) = 1 := by decide
theorem nar0 : vp_nar .boolean (0 : Int32) = 0 := by decide
theorem c_hold (hd : 3 ≤ d) (h : SC P I A E) (a : Int32) : cKK d 152 [.ref 0, .int a] P I J (holdV a) (holdA A a) E := by
  obtain ⟨d, rfl⟩ : ∃ z, d = z + 2 := ⟨d - 2, by omega⟩
  unfold cKK holdV holdA
  rw [e_X11_hold, runS_M, s_X11_hold_0, q_within (by omega), p_ci_s]
  rcases in_c (n := a) (lo := 0) (hi := 2) (l := 0) (h := 2) rfl rfl (by omega) (by omega) with e2 | ⟨e2, k, k1, k2, rfl⟩
  · simp only [if_pos e2]; exact ⟨I, rfl, FC.rf, h⟩
  have hne2 : ¬ zI (¬ nI k < (0 : Int32) ∧ ¬ (2 : Int32) < nI k) = 0 := by rw [e2]; decide
  have hk : k < 3 := by omega
  simp only [if_neg hne2, nI_clamp (show k < 2 ^ 31 by omega)]
  rw [chk_in hk (by omega), rf167 k hk, rf_s, kd167 k hk]
  let I1 := p_wr (cpS I 39 (183 + 3 * k)) 168 k (vp_nar .boolean 1)
  have a1 : ∀ j, j ≠ 168 → j ≠ 183 + 3 * k → j ≠ 183 + 3 * k + 1 → j ≠ 183 + 3 * k + 2 → I1 j = I j := fun j b1 b2 b3 b4 => by
    show p_wr (cpS I 39 (183 + 3 * k)) 168 k _ j = I j
    rw [wr_ne b1, cpS_ne ⟨b2, b3, b4⟩]
  have hf : FC I I1 := fun j hj => a1 j (by omega) (by omega) (by omega) (by omega)
  have s1 := cpS_st h.1 (c := 183 + 3 * k) (Or.inl (by omega)) h.2.1.1
  refine ⟨I1, ?_, hf, h.1.FC hf, ⟨h.2.1.1.cg (a1 39 (by omega) (by omega) (by omega) (by omega)) (a1 40 (by omega) (by omega) (by omega) (by omega)) (a1 41 (by omega) (by omega) (by omega) (by omega)), h.2.1.2.1, ?_, fun s hs => ?_, ?_⟩, ?_⟩
  · show p_cv (EV (d + 1) T0 91 [.ref (183 + 3 * k), .ref 39] (I, J)) _ = _
    rw [cpToS d k hk, p_cv_s, show (999999 : Nat) = 999998 + 1 from rfl, runS_s, s_X11_hold_24, chk_in hk (by omega), nI_clamp (by omega)]
    rfl
  · obtain ⟨o, o1, o2, o3, o4, o5⟩ := h.2.1.2.2.1
    exact ⟨o, o1, by rw [a1 45 (by omega) (by omega) (by omega) (by omega)]; exact o2, by rw [a1 45 (by omega) (by omega) (by omega) (by omega)]; exact o3, o4, fun j hj => ⟨(o5 j hj).1, (o5 j hj).2.cg (a1 _ (by omega) (by omega) (by omega) (by omega)) (a1 _ (by omega) (by omega) (by omega) (by omega)) (a1 _ (by omega) (by omega) (by omega) (by omega))⟩⟩
  · by_cases c : s = k
    · subst c
      have e9 : slot A.2.2.1 s A.1 s = some A.1 := if_pos rfl
      show slC P I1 s (slot A.2.2.1 s A.1 s)
      rw [e9]
      refine ⟨?_, h.2.1.2.1, s1.cg (wr_ne (by omega)) (wr_ne (by omega)) (wr_ne (by omega))⟩
      show p_wr (cpS I 39 (183 + 3 * s)) 168 s _ 168 s = 1
      rw [wr_eq, pk_us, nar1]
    · have e9 : slot A.2.2.1 k A.1 s = A.2.2.1 s := if_neg c
      show slC P I1 s (slot A.2.2.1 k A.1 s)
      rw [e9]
      have := h.2.1.2.2.2.1 s hs
      have e168 : I1 168 s = I 168 s := by
        show p_wr (cpS I 39 (183 + 3 * k)) 168 k _ 168 s = _
        rw [wr_eq, pk_un c, cpS_ne ⟨by omega, by omega, by omega⟩]
      unfold slC at *
      cases c2 : A.2.2.1 s with
      | none => rw [c2] at this; dsimp only at *; rw [e168]; exact this
      | some y => rw [c2] at this; dsimp only at *; rw [e168]; exact ⟨this.1, this.2.1, this.2.2.cg (a1 _ (by omega) (by omega) (by omega) (by omega)) (a1 _ (by omega) (by omega) (by omega) (by omega)) (a1 _ (by omega) (by omega) (by omega) (by omega))⟩
  · have := h.2.1.2.2.2.2
    unfold TDC at *
    rw [a1 178 (by omega) (by omega) (by omega) (by omega), a1 179 (by omega) (by omega) (by omega) (by omega), a1 180 (by omega) (by omega) (by omega) (by omega), a1 181 (by omega) (by omega) (by omega) (by omega)]; exact this
  · have := h.2.2
    unfold TC at *
    rw [a1 0 (by omega) (by omega) (by omega) (by omega), a1 1 (by omega) (by omega) (by omega) (by omega), a1 2 (by omega) (by omega) (by omega) (by omega), a1 25 (by omega) (by omega) (by omega) (by omega)]; exact this
theorem lp_holdR {O : Ora} {s : Nat} (hs : s < 3) {g : Nat → Int32} : ∀ (k i n : Nat), i + k = 32 → k < n →
    runS O none 3 T0 C_X12_hold k_X12_hold rtZ f_X12_hold n 20 [.ref 192, .int (nI s), .int (nI i)] [] (cs I 242 (fun j => if 32 * s ≤ j ∧ j < 32 * s + i then I 229 (j - 32 * s) else g j), J) = some (some (.int 1), (cs I 242 (fun j => if 32 * s ≤ j ∧ j < 32 * s + 32 then I 229 (j - 32 * s) else g j), J)) := by
  intro k
  induction k with
  | zero =>
    intro i n hi hn
    obtain ⟨n, rfl⟩ : ∃ z, n = z + 1 := ⟨n - 1, by omega⟩
    have e : i = 32 := by omega
    subst e
    rw [runS_s, s_X12_hold_20, if_pos (by decide)]
    rfl
  | succ k ih =>
    intro i n hi hn
    obtain ⟨n, rfl⟩ : ∃ z, n = z + 1 := ⟨n - 1, by omega⟩
    have e1 : (32 : Int32) * nI s + nI i = nI (32 * s + i) := by rw [show (32 : Int32) * nI s = nI (32 * s) from pk_mul 32 s, nI_add]
    rw [runS_s, s_X12_hold_20, if_neg (show ¬ (32 : Int32) ≤ nI (i) from nI_ge (a := i) (b := 32) (by omega) (by omega)), e1, chk_in (by omega) (by omega), chk_in (by omega) (by omega), nI_clamp (by omega), nI_clamp (by omega), nI_1, cs_ne (show (229 : Nat) ≠ 242 by decide), wr_cs2]
    have e2 : upd (fun j => if 32 * s ≤ j ∧ j < 32 * s + i then I 229 (j - 32 * s) else g j) (32 * s + i) (I 229 i) = fun j => if 32 * s ≤ j ∧ j < 32 * s + (i + 1) then I 229 (j - 32 * s) else g j := by
      funext j
      by_cases c : j = 32 * s + i
      · subst c; rw [pk_us, if_pos ⟨by omega, by omega⟩, show 32 * s + i - 32 * s = i by omega]
      · rw [pk_un c]
        by_cases c2 : 32 * s ≤ j ∧ j < 32 * s + i
        · rw [if_pos c2, if_pos ⟨by omega, by omega⟩]
        · rw [if_neg c2, if_neg (by omega)]
    rw [e2]
    exact ih (i + 1) n (by omega) (by omega)
theorem m_hold (hd : 2 ≤ d) (h : SM P I A E) (a : Int32) : mKK d 270 [.ref 192, .int a] P I J (holdV a) (holdA A a) E := by
  obtain ⟨d, rfl⟩ : ∃ z, d = z + 1 := ⟨d - 1, by omega⟩
  unfold mKK holdV holdA
  rw [e_X12_hold, runS_M, s_X12_hold_0, q_in (by omega), p_ci_s]
  rcases in_c (n := a) (lo := 0) (hi := 2) (l := 0) (h := 2) rfl rfl (by omega) (by omega) with e2 | ⟨e2, k, k1, k2, rfl⟩
  · simp only [if_pos e2]; exact ⟨I, rfl, FM.rf, h⟩
  have hne2 : ¬ zI (¬ nI k < (0 : Int32) ∧ ¬ (2 : Int32) < nI k) = 0 := by rw [e2]; decide
  have hk : k < 3 := by omega
  simp only [if_neg hne2, nI_clamp (show k < 2 ^ 31 by omega)]
  rw [chk_in hk (by omega), nar1]
  let I0 := p_wr I 241 k 1
  have hz := lp_holdR (O := EV d) (I := I0) (J := J) hk (g := I0 242) 32 0 999999 (by omega) (by omega)
  have e0 : (fun j => if 32 * k ≤ j ∧ j < 32 * k + 0 then I0 229 (j - 32 * k) else I0 242 j) = I0 242 := by funext j; rw [if_neg (by omega)]
  rw [e0, cs_self] at hz
  have x1 : kp [241, 242] I (cs I0 242 (fun j => if 32 * k ≤ j ∧ j < 32 * k + 32 then I0 229 (j - 32 * k) else I0 242 j)) := (kp.rf.wr (by decide)).cs (by decide)
  have hf := FM.of x1 (by decide) (fun j _ => by rw [x1 192 (by decide)])
  have e241 : ∀ s, cs I0 242 (fun j => if 32 * k ≤ j ∧ j < 32 * k + 32 then I0 229 (j - 32 * k) else I0 242 j) 241 s = if s = k then 1 else I 241 s := fun s => by
    rw [cs_ne (by decide)]; show p_wr I 241 k 1 241 s = _; rw [wr_eq]
    by_cases c : s = k
    · subst c; rw [pk_us, if_pos rfl]
    · rw [pk_un c, if_neg c]
  have e242 : ∀ j, cs I0 242 (fun j => if 32 * k ≤ j ∧ j < 32 * k + 32 then I0 229 (j - 32 * k) else I0 242 j) 242 j = if 32 * k ≤ j ∧ j < 32 * k + 32 then I 229 (j - 32 * k) else I 242 j := fun j => by rw [cs_eq]; rfl
  refine ⟨_, hz, hf, h.1.FM hf, ⟨by rw [x1 229 (by decide)]; exact h.2.1.1, h.2.1.2.1, ?_, fun s hs => ?_, ?_⟩, ?_⟩
  · have := h.2.1.2.2.1
    unfold hiM at *
    rw [x1 192 (by decide), x1 235 (by decide)]; exact this
  · by_cases c : s = k
    · subst c
      have e9 : slot A.2.2.1 s A.1 s = some A.1 := if_pos rfl
      show slM P _ s (slot A.2.2.1 s A.1 s)
      rw [e9]
      refine ⟨by rw [e241, if_pos rfl], h.2.1.2.1, h.2.1.1.cg h.1 (fun j hj => ?_)⟩
      rw [e242, if_pos ⟨by omega, by omega⟩, Nat.add_sub_cancel_left]
    · have e9 : slot A.2.2.1 k A.1 s = A.2.2.1 s := if_neg c
      show slM P _ s (slot A.2.2.1 k A.1 s)
      rw [e9]
      have := h.2.1.2.2.2.1 s hs
      unfold slM at *
      cases c2 : A.2.2.1 s with
      | none => rw [c2] at this; dsimp only at *; rw [e241, if_neg c]; exact this
      | some y =>
        rw [c2] at this; dsimp only at *; rw [e241, if_neg c]
        exact ⟨this.1, this.2.1, this.2.2.cg h.1 (fun j hj => by rw [e242, if_neg (by omega)])⟩
  · have := h.2.1.2.2.2.2
    unfold TDM at *
    rw [x1 192 (by decide), x1 237 (by decide), x1 238 (by decide), x1 239 (by decide)]; exact this
  · have := h.2.2
    unfold TM at *
    rw [x1 192 (by decide), x1 193 (by decide), x1 208 (by decide), x1 209 (by decide)]; exact this
/-! restore -/
def restV (A : AS) (a : Int32) : Int32 := if zI (¬ a < 0 ∧ ¬ 2 < a) = 0 then 0 else if A.2.2.1 a.toNatClampNeg = none then 0 else 1
def restA (A : AS) (a : Int32) : AS := if zI (¬ a < 0 ∧ ¬ 2 < a) = 0 then A else match A.2.2.1 a.toNatClampNeg with
  | none => A
  | some y => (y, (0, A.2.1.2), A.2.2)
end RD
