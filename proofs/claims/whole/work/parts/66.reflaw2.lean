theorem evE_sh (vs : Nat → Int32) (t : List Int32) : ∀ (l : List Op) (st : List Int32) (r : Nat), okE l st.length r → evE vs l (st ++ t) = (evE vs l st).map (fun z => z ++ t) := by
  intro l
  induction l with
  | nil => intro st r _; rfl
  | cons o l ih =>
    intro st r h
    rcases h with ⟨a, b, c, d⟩ | ⟨a, b, c, d⟩ | ⟨a, b, c, d, e⟩
    · rw [evE_0 a, evE_0 a]; exact ih (nI o.2 :: st) r d
    · rw [evE_1 a, evE_1 a]; exact ih (vs o.2 :: st) r d
    · match st, d, e with
      | y :: x :: st, d, e =>
        rw [List.cons_append, List.cons_append, evE_2 a, evE_2 a]
        by_cases h2 : o.1 = 5 ∧ y = 0
        · rw [if_pos h2, if_pos h2]; rfl
        · rw [if_neg h2, if_neg h2]; exact ih (opF o.1 x y :: st) r (by simpa using e)
theorem evE_one (vs : Nat → Int32) {l : List Op} (h : okE l 0 1) : evE vs l [] = none ∨ ∃ x, evE vs l [] = some [x] := by
  cases hq : evE vs l [] with
  | none => exact Or.inl rfl
  | some st =>
    obtain ⟨x, rfl⟩ := one_of (evE_len vs l [] st 1 h hq)
    exact Or.inr ⟨x, rfl⟩
theorem lt_ans {d : Nat} (hd : 1 ≤ d) {J : Nat → Nat → Int64} {I : Nat → Nat → Int32} {e : List Op} {q c n at' : Nat} (hq : q < 260) (h1 : I 222 q = nI c) (h2 : I 223 q = nI (c + e.length)) (h3 : c + e.length ≤ 840) (h4 : atR (I 224) (I 225) c e) (h5 : okE e 0 1) (h6 : I 192 53 = 0) {kx : Int32 → IJ → Option Rs} (hkx : ∀ v z, kx v z = if z.1 192 53 = 0 then rtI (some (.int v)) z else runS (EV d) none 5 T0 C_X12_lawTells k_X12_lawTells rtI f_X12_lawTells (n + 1) 108 [un, un, un, un, un] [] z) :
    ∃ I', p_ci (EV d T0 202 [.ref 192, .int (I 222 q), .int (I 223 q)] (I, J)) kx = some (some (.int (tpV (evE (I 227) e []))), (I', J)) ∧ kp [228, 192] I I' ∧ k53 I I' := by
  obtain ⟨I', t1, t2, t3, t4⟩ := ev_termOf (d := d) hd (J := J) (I := I) (l := e) (c := c) (to := c + e.length) h3 h4 h5 rfl
  refine ⟨I', ?_, t2, t3⟩
  rw [h1, h2, t1, p_ci_s, hkx]
  dsimp only
  rw [h6] at t4
  rcases evE_one (I 227) h5 with h | ⟨x, h⟩
  · rw [h, if_pos rfl] at t4
    rw [if_neg (by rw [t4]; decide), runS_s, s_X12_lawTells_108, h]; rfl
  · rw [h, if_neg (by intro z; cases z)] at t4
    rw [if_pos t4, h]; rfl
theorem lt_L {d : Nat} (hd : 1 ≤ d) {J : Nat → Nat → Int64} {e : List Op} {at' : Nat} (hat : at' < 8) : ∀ (r : List Br) (q n : Nat) (I : Nat → Nat → Int32), atB I q r e → okL r e → I 218 at' = nI (q + r.length + 1) → q + r.length + 1 ≤ 260 → I 192 53 = 0 → 4 * (r.length + 1) ≤ n →
    ∃ I', runS (EV d) none 5 T0 C_X12_lawTells k_X12_lawTells rtI f_X12_lawTells n 12 [.ref 192, .int (nI at'), .int (nI q), un, un] [] (I, J) = some (some (.int (evL (I 227) r e)), (I', J)) ∧ kp [228, 192] I I' ∧ k53 I I' := by
  intro r
  induction r with
  | nil =>
    intro q n I h1 h2 h3 h4 h5 h6
    obtain ⟨b1, c, b2, b3, b4, b5⟩ := h1
    simp only [List.length_nil] at h3 h4 h6
    obtain ⟨n, rfl⟩ : ∃ z, n = z + 1 + 1 := ⟨n - 2, by omega⟩
    rw [runS_s, s_X12_lawTells_12, chk_in hat (by omega), nI_clamp (by omega), h3, if_neg (nI_ge (by omega) (by omega)), chk_in (by omega) (by omega), nI_clamp (by omega), b1, if_pos rfl, chk_in (by omega) (by omega), chk_in (by omega) (by omega)]
    exact lt_ans hd (by omega) b2 b3 b4 b5 h2.1 h5 (n := n) (at' := at') (fun _ _ => rfl)
  | cons b r ih =>
    intro q n I h1 h2 h3 h4 h5 h6
    obtain ⟨b1, ⟨c, b2, b3, b4, b5, b6, b7, b8, b9⟩, b10⟩ := h1
    obtain ⟨o1, o2, o3, o4⟩ := h2
    simp only [List.length_cons] at h3 h4 h6
    obtain ⟨I1, t1, t2, t3, t4⟩ := ev_termOf (d := d) hd (J := J) (I := I) (l := b.1) (c := c) (to := c + b.1.length) (by omega) b7 o1.1 rfl
    have k24 : I1 224 = I 224 := t2 224 (by decide)
    have k25 : I1 225 = I 225 := t2 225 (by decide)
    have k27 : I1 227 = I 227 := t2 227 (by decide)
    obtain ⟨I2, u1, u2, u3, u4⟩ := ev_termOf (d := d) hd (J := J) (I := I1) (l := b.2.1) (c := c + b.1.length) (to := c + b.1.length + b.2.1.length) (by omega) (by rw [k24, k25]; exact b8) o2.1 rfl
    rw [k27] at u1 u4
    have kk : kp [228, 192] I I2 := t2.tr u2
    have k3 : k53 I I2 := t3.tr u3
    have m27 : I2 227 = I 227 := kk 227 (by decide)
    obtain ⟨n, rfl⟩ : ∃ z, n = z + 1 + 1 + 1 + 1 := ⟨n - 4, by omega⟩
    have hp : ∀ x : Option Rs, p_chk (p_in (nI q) 260) x = x := fun x => chk_in (by omega) (by omega)
    rw [runS_s, s_X12_lawTells_12, chk_in hat (by omega), nI_clamp (by omega), h3, if_neg (nI_ge (by omega) (by omega)), hp, nI_clamp (by omega), b1, if_neg (by decide), hp, hp, b2, b3, t1, p_ci_s, hp, hp]
    dsimp only
    rw [t2 221 (by decide), t2 222 (by decide), b3, b4, u1, p_ci_s, runS_s, s_X12_lawTells_66]
    rw [h5] at t4
    have hev : evL (I 227) (b :: r) e = (match (evE (I 227) b.1 []).bind (evE (I 227) b.2.1) with
      | some (v :: u :: _) => if u < v then tpV (evE (I 227) b.2.2 []) else evL (I 227) r e
      | _ => 0) := rfl
    rcases evE_one (I 227) o1.1 with ha | ⟨u, ha⟩
    · rw [ha, if_pos rfl] at t4
      have h53 : I2 192 53 = 1 := by
        rw [u4, t4]
        split <;> rfl
      rw [if_neg (by rw [h53]; decide), hev, ha]
      exact ⟨I2, rfl, kk, k3⟩
    · rw [ha, if_neg (by intro z; cases z)] at t4
      rcases evE_one (I 227) o2.1 with hb | ⟨v, hb⟩
      · have h53 : I2 192 53 = 1 := by rw [u4, hb, if_pos rfl]
        have hb2 : evE (I 227) b.2.1 [u] = none := by
          have h9 := evE_sh (I 227) [u] b.2.1 [] 1 o2.1
          rw [hb] at h9
          exact h9
        rw [if_neg (by rw [h53]; decide), hev, ha]
        simp only [Option.bind_some, hb2]
        exact ⟨I2, rfl, kk, k3⟩
      · have h53 : I2 192 53 = 0 := by rw [u4, hb, if_neg (by intro z; cases z), t4]
        have hb2 : evE (I 227) b.2.1 [u] = some [v, u] := by
          have h9 := evE_sh (I 227) [u] b.2.1 [] 1 o2.1
          rw [hb] at h9
          exact h9
        have hev2 : evL (I 227) (b :: r) e = if u < v then tpV (evE (I 227) b.2.2 []) else evL (I 227) r e := by
          rw [hev, ha]
          simp only [Option.bind_some, hb2]
        rw [if_pos h53, ha, hb, hev2]
        show ∃ I', (if u < v then _ else _) = _ ∧ _
        by_cases huv : u < v
        · rw [if_pos huv, if_pos huv, hp, hp, nI_clamp (show q < 2 ^ 31 by omega)]
          obtain ⟨I3, v1, v2, v3⟩ := lt_ans (d := d) hd (J := J) (I := I2) (e := b.2.2) (q := q) (c := c + b.1.length + b.2.1.length) (n := n + 1) (at' := at') (by omega) (by rw [kk 222 (by decide)]; exact b4) (by rw [kk 223 (by decide)]; exact b5) (by omega) (by rw [kk 224 (by decide), kk 225 (by decide)]; exact b9) o3.1 h53 (kx := _) (fun _ _ => rfl)
          rw [m27] at v1
          exact ⟨I3, v1, kk.tr v2, k3.tr v3⟩
        · rw [if_neg huv, if_neg huv, nI_1]
          obtain ⟨I3, v1, v2, v3⟩ := ih (q + 1) (n + 1 + 1) I2 (atB_kp (fun k h1 h2 => kk k (by intro hh; simp at hh; omega)) r _ e b10) o4 (by rw [kk 218 (by decide), h3]; congr 1; omega) (by omega) h53 (by omega)
          rw [m27] at v1
          exact ⟨I3, v1, kk.tr v2, k3.tr v3⟩
/-- held to 0 .. 99 -/
def h99 (x : Int32) : Int32 := if (0 : Int32) < (if x < 99 then x else 99) then (if x < 99 then x else 99) else 0
theorem h99_nI (x : Int32) : ∃ m : Nat, m ≤ 99 ∧ h99 x = nI m := by
  unfold h99
  by_cases h : x < 99
  · rw [if_pos h]
    by_cases h0 : 0 < x
    · rw [if_pos h0]
      obtain ⟨j, hj, e⟩ := nI_of (x := x) (by intro hh; rw [Int32.lt_iff_toInt_lt] at h0 hh; omega)
      subst e
      have h9 : nI j < nI 99 := h
      rw [nI_ltI hj (by omega)] at h9
      exact ⟨j, by omega, rfl⟩
    · rw [if_neg h0]; exact ⟨0, by omega, rfl⟩
  · rw [if_neg h, if_pos (by decide)]; exact ⟨99, by omega, rfl⟩
theorem h99_ref (x : Int32) : (if (0 : Int32) ≤ x then (if x ≤ 99 then x else 99) else 0) = h99 x := by
  unfold h99
  by_cases h : x < 99
  · rw [if_pos h]
    have hle : x ≤ 99 := by rw [Int32.le_iff_toInt_le]; rw [Int32.lt_iff_toInt_lt] at h; omega
    by_cases h0 : 0 < x
    · rw [if_pos h0, if_pos (by rw [Int32.le_iff_toInt_le]; rw [Int32.lt_iff_toInt_lt] at h0; omega), if_pos hle]
    · rw [if_neg h0]
      by_cases h1 : (0 : Int32) ≤ x
      · rw [if_pos h1, if_pos hle]
        apply Int32.toInt_inj.mp
        rw [Int32.lt_iff_toInt_lt] at h0
        rw [Int32.le_iff_toInt_le] at h1
        omega
      · rw [if_neg h1]
  · have h2 : (99 : Int32) ≤ x := Int32.not_lt.mp h
    rw [if_neg h, if_pos (show (0 : Int32) < 99 by decide)]
    have h3 : (0 : Int32) ≤ x := by
      rw [Int32.le_iff_toInt_le] at h2 ⊢
      have e9 : (99 : Int32).toInt = 99 := by decide
      have e0 : (0 : Int32).toInt = 0 := by decide
      omega
    rw [if_pos h3]
    by_cases h4 : x ≤ 99
    · rw [if_pos h4]
      apply Int32.toInt_inj.mp
      rw [Int32.le_iff_toInt_le] at h2 h4
      omega
    · rw [if_neg h4]
theorem ev_heldR {d : Nat} (hd : 1 ≤ d) (x : Int32) (ij : IJ) : EV d T0 204 [.int x, .int 0, .int 99] ij = some (some (.int (h99 x)), ij) := by
  obtain ⟨d, rfl⟩ : ∃ z, d = z + 1 := ⟨d - 1, by omega⟩
  obtain ⟨I, J⟩ := ij
  rw [e_X12_held, runS_M, s_X12_held_0, ← h99_ref]
  by_cases h1 : (0 : Int32) ≤ x
  · rw [if_pos h1, if_pos h1]
    by_cases h2 : x ≤ 99
    · rw [if_pos h2, if_pos h2]; rfl
    · rw [if_neg h2, if_neg h2]; rfl
  · rw [if_neg h1, if_neg h1]; rfl
theorem ev_held {d : Nat} (hd : 1 ≤ d) (x : Int32) (ij : IJ) : EV d T0 62 [.int x] ij = some (some (.int (h99 x)), ij) := by
  obtain ⟨d, rfl⟩ : ∃ z, d = z + 1 := ⟨d - 1, by omega⟩
  obtain ⟨I, J⟩ := ij
  rw [e_X5_held, runS_M, s_X5_held_0]
  rfl
