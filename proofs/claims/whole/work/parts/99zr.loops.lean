/-! ===== read: all tells ===== -/
section SW
variable {d : Nat} {tok : Nat → TK} {T : Nat}
theorem ev_tellOne {I : Nat → Nat → Int32} {J : Nat → Nat → Int64} (hd : 9 ≤ d) (hT : TKS tok T) (hV : TKV tok T) {c : Nat × Nat} (cu : cuM I J tok T c) (hc : c.2 = 0) {v : Nat} (hv : v < 2) {Y : DY} (hY : RdM I J v c.1 Y) (hP : PY tok c.1 Y) :
    tmR I J tok T v (tlC tok Y c) (tlY tok Y c) (EV d T0 188 [.ref 192] (I, J)) := by
  obtain ⟨d, rfl⟩ : ∃ z, d = z + 1 := ⟨d - 1, by omega⟩
  have hTT := hT.2.1
  have cT' := cu.2.2.2.1
  have hkd := hT.2.2.1 c.1 cT'
  have kb : kap (tok c.1).1 < 300 := kap_b _ hkd.1 hkd.2.1
  have ekd : I 195 c.1 = nI (kap (tok c.1).1) := (cu.2.2.2.2.2 c.1 cT').1
  have e11 : I 192 11 = nI c.1 := cu.1
  have hp : ∀ z : Option Rs, p_chk (p_in (nI c.1) 403) z = z := fun z => chk_in (by omega) (by omega)
  have eq : ∀ q, 20 ≤ q → q < 31 → (tok c.1).1 = q + 236 → nI (kap (tok c.1).1) = nI q := fun q a b e => by rw [(kap_q _ hkd.1 hkd.2.1 q b a).mpr e]
  have ne : ∀ q, 20 ≤ q → q < 31 → (tok c.1).1 ≠ q + 236 → ¬ nI (kap (tok c.1).1) = nI q := fun q a b e => by rw [nI_eq (by omega) (by omega)]; exact fun h9 => e ((kap_q _ hkd.1 hkd.2.1 q b a).mp h9)
  rw [e_X12_tellOne, runS_M, s_X12_tellOne_0]
  simp only [e11, hp, nI_clamp (show c.1 < 2 ^ 31 by omega), ekd]
  unfold tlC tlY
  by_cases k56 : (tok c.1).1 = 256
  · rw [if_pos (eq 20 (by omega) (by omega) k56), if_pos k56, if_pos k56]; exact m_town (by omega) hT hV cu hc k56 hv hY hP
  rw [if_neg (ne 20 (by omega) (by omega) k56), if_neg k56, if_neg k56]
  by_cases k57 : (tok c.1).1 = 257
  · rw [if_pos (eq 21 (by omega) (by omega) k57), if_pos k57, if_pos k57]; exact mt_seam (by omega) hT hV cu hc k57 hv hY hP
  rw [if_neg (ne 21 (by omega) (by omega) k57), if_neg k57, if_neg k57]
  by_cases k58 : (tok c.1).1 = 258
  · rw [if_pos (eq 22 (by omega) (by omega) k58), if_pos k58, if_pos k58]; exact m_woman (by omega) hT hV cu hc k58 hv hY hP
  rw [if_neg (ne 22 (by omega) (by omega) k58), if_neg k58, if_neg k58]
  by_cases k59 : (tok c.1).1 = 259
  · rw [if_pos (eq 23 (by omega) (by omega) k59), if_pos k59, if_pos k59]; exact mt_cart (by omega) hT hV cu hc k59 hv hY hP
  rw [if_neg (ne 23 (by omega) (by omega) k59), if_neg k59, if_neg k59]
  /- a law, or nothing -/
  have hdef : ¬ (264 ≤ (tok c.1).1 ∧ (tok c.1).1 ≤ 266) → tmR I J tok T v (if 260 ≤ (tok c.1).1 ∧ (tok c.1).1 ≤ 263 then (lawT tok c).2 else (c.1, 1)) (y_law ((tok c.1).1 - 260) (lawT tok c).1 Y) (if nI (kap (tok c.1).1) - 24 < 0 then p_cv (EV d T0 179 [.ref 192, .int 1] (I, J)) (fun z12 => runS (EV d) none 2 T0 C_X12_tellOne k_X12_tellOne rtV f_X12_tellOne 999999 358 [.ref 192, .int (nI (kap (tok c.1).1) - 24)] [] z12) else (if nI (kap (tok c.1).1) ≤ 27 then runS (EV d) none 2 T0 C_X12_tellOne k_X12_tellOne rtV f_X12_tellOne 999999 358 [.ref 192, .int (nI (kap (tok c.1).1) - 24)] [] (I, J) else p_cv (EV d T0 179 [.ref 192, .int 1] (I, J)) (fun z13 => runS (EV d) none 2 T0 C_X12_tellOne k_X12_tellOne rtV f_X12_tellOne 999999 358 [.ref 192, .int (nI (kap (tok c.1).1) - 24)] [] z13))) := by
    intro kn
    by_cases kl : 260 ≤ (tok c.1).1 ∧ (tok c.1).1 ≤ 263
    · have hkk : kap (tok c.1).1 = (tok c.1).1 - 236 := (kap_q _ hkd.1 hkd.2.1 ((tok c.1).1 - 236) (by omega) (by omega)).mpr (by omega)
      rw [if_pos kl, hkk, show (24 : Int32) = nI 24 from rfl, pk_sub (by omega), if_neg (show ¬ nI ((tok c.1).1 - 236 - 24) < (0 : Int32) from nI_nlt (b := 0) (by omega) (by omega)), if_pos (show nI ((tok c.1).1 - 236) ≤ (27 : Int32) from nI_le (b := 27) (by omega) (by omega)), show (tok c.1).1 - 236 - 24 = (tok c.1).1 - 260 by omega]
      exact m_law (by omega) hT hV cu hc kl hv hY
    · rw [if_neg kl]
      obtain ⟨I1, t1, t2, t3, t4⟩ := ev_fail (d := d) (I := I) (J := J) (by omega) hT cu (k := 1) (by omega)
      have t1' : EV d T0 179 [.ref 192, .int 1] (I, J) = _ := t1
      have e9 : flS 1 c = (c.1, 1) := if_pos hc
      rw [e9] at t4
      have cf := t4.f (show (1 : Nat) ≠ 0 by omega)
      have hend : ∀ x : Int32, tmR I J tok T v (c.1, 1) (y_law ((tok c.1).1 - 260) (lawT tok c).1 Y) (p_cv (EV d T0 179 [.ref 192, .int 1] (I, J)) (fun z12 => runS (EV d) none 2 T0 C_X12_tellOne k_X12_tellOne rtV f_X12_tellOne 999999 358 [.ref 192, .int x] [] z12)) := by
        intro x
        rw [t1', p_cv_s, show (999999 : Nat) = 999998 + 1 from rfl, runS_s, s_X12_tellOne_358, if_neg cf.nl]
        exact ⟨I1, J, rfl, rmF_cu t2 t3, kpJ.rf, t4.g, fun h9 => absurd (show 1 = 0 from h9) (by omega)⟩
      have hu := kap_u _ hkd.1 hkd.2.1 (by omega)
      by_cases c24 : kap (tok c.1).1 < 24
      · rw [if_pos (neg24 _ c24)]; exact hend _
      · have hne : ¬ nI (kap (tok c.1).1) - 24 < 0 := by
          rw [show (24 : Int32) = nI 24 from rfl, pk_sub (by omega)]; exact nI_nlt (b := 0) (by omega) (by omega)
        rw [if_neg hne, if_neg (show ¬ nI (kap (tok c.1).1) ≤ (27 : Int32) from nI_ge (a := 27) (by omega) (by omega))]; exact hend _
  by_cases kn : 264 ≤ (tok c.1).1 ∧ (tok c.1).1 ≤ 266
  · rw [if_neg (ne 24 (by omega) (by omega) (by omega)), if_neg (ne 25 (by omega) (by omega) (by omega)), if_neg (ne 26 (by omega) (by omega) (by omega)), if_neg (ne 27 (by omega) (by omega) (by omega)), if_pos kn, if_pos kn]
    by_cases k64 : (tok c.1).1 = 264
    · rw [if_pos (eq 28 (by omega) (by omega) k64)]; exact m_num (by omega) hT hV cu hc (most := 9999) rfl k64 (by omega) hv hY hP
    rw [if_neg (ne 28 (by omega) (by omega) k64)]
    by_cases k65 : (tok c.1).1 = 265
    · rw [if_pos (eq 29 (by omega) (by omega) k65)]; exact m_num (by omega) hT hV cu hc (most := 100) rfl k65 (by omega) hv hY hP
    rw [if_neg (ne 29 (by omega) (by omega) k65), if_pos (eq 30 (by omega) (by omega) (by omega))]
    exact m_num (by omega) hT hV cu hc (most := 9999) (k := 266) rfl (by omega) (by omega) hv hY hP
  · rw [if_neg kn, if_neg kn, if_neg (ne 28 (by omega) (by omega) (by omega)), if_neg (ne 29 (by omega) (by omega) (by omega)), if_neg (ne 30 (by omega) (by omega) (by omega))]
    have hd' := hdef kn
    by_cases h24 : nI (kap (tok c.1).1) = nI 24
    · rw [if_pos h24]; exact hd'
    rw [if_neg h24]
    by_cases h25 : nI (kap (tok c.1).1) = nI 25
    · rw [if_pos h25]; exact hd'
    rw [if_neg h25]
    by_cases h26 : nI (kap (tok c.1).1) = nI 26
    · rw [if_pos h26]; exact hd'
    rw [if_neg h26]
    by_cases h27 : nI (kap (tok c.1).1) = nI 27
    · rw [if_pos h27]; exact hd'
    rw [if_neg h27]; exact hd'
theorem tl_lt (hT : TKS tok T) (hV : TKV tok T) {c : Nat × Nat} (cT' : c.1 < T) (hc : c.2 = 0) (hk : (tok c.1).1 ≠ 0) {Y : DY} : (tlC tok Y c).1 < T := by
  have h3 : c.2 < 3 := by omega
  unfold tlC
  split
  · next k =>
    have f := tf_lt hT (room := decide (Y.2.2.1.1 < 7)) cT' h3 (by omega) (by omega)
    have a := tkS_lt hT (k := 2) (by omega) (by omega) f.1 f.2
    exact (tkS_lt hT (k := 59) (by omega) (by omega) a.1 a.2).1
  · split
    · next k =>
      have f := tf_lt hT (room := decide (Y.2.2.1.2.1 < 10)) cT' h3 (by omega) (by omega)
      have a := tkS_lt hT (k := 2) (by omega) (by omega) f.1 f.2
      have b := tkS_lt hT (k := 2) (by omega) (by omega) a.1 a.2
      have c' := tkS_lt hT (k := 3) (by omega) (by omega) b.1 b.2
      have d' := tkS_lt hT (k := 3) (by omega) (by omega) c'.1 c'.2
      exact (tkS_lt hT (k := 59) (by omega) (by omega) d'.1 d'.2).1
    · split
      · next k =>
        have f := tf_lt hT (room := decide (Y.2.2.1.2.2.1 < 3)) cT' h3 (by omega) (by omega)
        have a := tkS_lt hT (k := 2) (by omega) (by omega) f.1 f.2
        have b := tkS_lt hT (k := 3) (by omega) (by omega) a.1 a.2
        exact (tkS_lt hT (k := 59) (by omega) (by omega) b.1 b.2).1
      · split
        · next k =>
          have f := tf_lt hT (room := decide (Y.2.2.1.2.2.2 < 4)) cT' h3 (by omega) (by omega)
          have a := tkS_lt hT (k := 2) (by omega) (by omega) f.1 f.2
          have b := tkS_lt hT (k := 2) (by omega) (by omega) a.1 a.2
          have c' := tkS_lt hT (k := 2) (by omega) (by omega) b.1 b.2
          have d' := tkS_lt hT (k := 3) (by omega) (by omega) c'.1 c'.2
          exact (tkS_lt hT (k := 59) (by omega) (by omega) d'.1 d'.2).1
        · split
          · next k =>
            have f := tf_lt hT (room := true) cT' h3 (by omega) (by omega)
            have a := tkS_lt hT (k := 3) (by omega) (by omega) f.1 f.2
            exact (tkS_lt hT (k := 59) (by omega) (by omega) a.1 a.2).1
          · split
            · next k =>
              have a := tkS_lt hT (k := (tok c.1).1) (by omega) (by omega) cT' h3
              have b := tkS_lt hT (k := 61) (by omega) (by omega) a.1 a.2
              exact (lw_p hT hV 5 _ b.1 b.2).1.1
            · exact cT'
/-- all tells, one behind the other -/
def tlL (tok : Nat → TK) : Nat → (Nat × Nat) × DY → (Nat × Nat) × DY
  | 0, x => x
  | n + 1, x => if x.1.2 = 0 ∧ (tok x.1.1).1 ≠ 0 then tlL tok n (tlC tok x.2 x.1, tlY tok x.2 x.1) else x
theorem tl_end {k : Nat} {c : Nat × Nat} {Y : DY} (h : ¬ (c.2 = 0 ∧ (tok c.1).1 ≠ 0)) : tlL tok k (c, Y) = (c, Y) := by
  cases k with
  | zero => rfl
  | succ k => exact if_neg h
/-- what the class answers, and where -/
def ansV (x : (Nat × Nat) × DY) : Nat := if x.1.2 = 0 then x.2.1.1 else x.1.2
def ansP (tok : Nat → TK) (x : (Nat × Nat) × DY) : Int32 := if x.1.2 = 0 then (if x.2.1.1 = 0 then -1 else nI x.2.1.2) else nI (tok x.1.1).2.1
theorem lp_read (hd : 25 ≤ d) (hT : TKS tok T) (hV : TKV tok T) : ∀ (k x n : Nat) (c : Nat × Nat) (Y : DY) (I : Nat → Nat → Int32) (J : Nat → Nat → Int64), cuC I J tok T c → (c.2 = 0 → RdV I J c.1 Y ∧ PY tok c.1 Y ∧ x ≤ c.1 ∧ 401 - c.1 ≤ k) → x ≤ 401 → k < n →
    ∃ I' J', runS (EV d) none 3 T0 C_X4_readText k_X4_readText rtI f_X4_readText n 57 [.ref 3, un, .int (nI x)] [] (I, J) = some (some (.int (nI (ansV (tlL tok k (c, Y))))), (I', J')) ∧ rdF I I' J J' ∧ I' 3 1 = ansP tok (tlL tok k (c, Y)) ∧ cuC I' J' tok T (tlL tok k (c, Y)).1 ∧ ((tlL tok k (c, Y)).1.2 = 0 → RdV I' J' (tlL tok k (c, Y)).1.1 (tlL tok k (c, Y)).2 ∧ PY tok (tlL tok k (c, Y)).1.1 (tlL tok k (c, Y)).2) := by
  have hTT := hT.2.1
  have fin : ∀ (n x : Nat) (c : Nat × Nat) (Y : DY) (I : Nat → Nat → Int32) (J : Nat → Nat → Int64), cuC I J tok T c → (c.2 = 0 → RdV I J c.1 Y ∧ PY tok c.1 Y) → ¬ (c.2 = 0 ∧ (tok c.1).1 ≠ 0) → ∃ I' J', runS (EV d) none 3 T0 C_X4_readText k_X4_readText rtI f_X4_readText (n + 1) 57 [.ref 3, un, .int (nI x)] [] (I, J) = some (some (.int (nI (ansV (c, Y)))), (I', J')) ∧ rdF I I' J J' ∧ I' 3 1 = ansP tok (c, Y) ∧ cuC I' J' tok T c ∧ (c.2 = 0 → RdV I' J' c.1 Y ∧ PY tok c.1 Y) := by
    intro n x c Y I J cu hv he
    have h3 := cu.2.2.2.2.1
    have cT' := cu.2.2.2.1
    rw [runS_s, s_X4_readText_57]
    have e8 : I 3 8 = nI c.2 := cu.2.2.1
    have e7 : I 3 7 = nI (tok c.1).1 := cu.2.1
    have kf : ∀ y : Int32, kp [3] I (p_wr I 3 1 y) := fun y => kp.rf.wr (by decide)
    have ff : ∀ (y : Int32) q, q ≠ 1 → p_wr I 3 1 y 3 q = I 3 q := fun y q hq => by rw [wr_eq, pk_un hq]
    have cuf : ∀ y : Int32, cuC (p_wr I 3 1 y) J tok T c := fun y => cu.go (kf y) (ff y 6 (by decide)) (ff y 7 (by decide)) (ff y 8 (by decide))
    have vf : ∀ y : Int32, c.2 = 0 → RdV (p_wr I 3 1 y) J c.1 Y ∧ PY tok c.1 Y := fun y z => by
      obtain ⟨⟨⟨a1, a2, a3⟩, a4⟩, a5⟩ := hv z
      exact ⟨⟨⟨a1.go (ff y 9 (by decide)) (ff y 10 (by decide)), ⟨(ff y 5 (by decide)).trans a2.1, a2.2.1, fun j hj => by rw [kf y 24 (by decide)]; exact a2.2.2 j hj⟩, a3⟩, RdP.kp a4 (fun k p q => kf y k (fun h9 => by rw [List.mem_singleton] at h9; omega)) (Nat.le_refl _)⟩, a5⟩
    unfold ansV ansP
    by_cases z : c.2 = 0
    · have k0 : (tok c.1).1 = 0 := by
        by_cases h9 : (tok c.1).1 = 0
        · exact h9
        · exact absurd ⟨z, h9⟩ he
      have e80 : I 3 8 = 0 := by rw [e8, z]; rfl
      have sf := (hv z).1.1.1
      have hgo : ∃ I' J', rtI (some (.int (I 3 9))) ((p_wr I 3 1 (I 3 10)), J) = some (some (.int (nI (if c.2 = 0 then Y.1.1 else c.2))), (I', J')) ∧ rdF I I' J J' ∧ I' 3 1 = (if c.2 = 0 then (if Y.1.1 = 0 then -1 else nI Y.1.2) else nI (tok c.1).2.1) ∧ cuC I' J' tok T c ∧ (c.2 = 0 → RdV I' J' c.1 Y ∧ PY tok c.1 Y) := by
        refine ⟨p_wr I 3 1 (I 3 10), J, ?_, ⟨(kf _).up (by decide), kpJ.rf⟩, ?_, cuf _, vf _⟩
        · rw [if_pos z, sf.1]; rfl
        · rw [if_pos z, wr_eq, pk_us]
          by_cases h0 : Y.1.1 = 0
          · rw [if_pos h0]; exact sf.2.2.2 h0
          · rw [if_neg h0]; exact sf.2.2.1 h0
      rw [if_pos e80, if_pos (show I 3 7 = 0 by rw [e7, k0]; rfl), if_pos e80]
      by_cases h4 : (400 : Int32) < nI x
      · rw [if_pos h4]; exact hgo
      · rw [if_neg h4]; exact hgo
    · have e80 : ¬ I 3 8 = 0 := by rw [e8, eq0_nI (by omega)]; exact z
      have hgo : ∃ I' J', p_ci (EV d T0 106 [.ref 18, .int (I 3 6)] (I, J)) (fun v4 z3 => rtI (some (.int (z3.1 3 8))) ((p_wr z3.1 3 1 v4), z3.2)) = some (some (.int (nI (if c.2 = 0 then Y.1.1 else c.2))), (I', J')) ∧ rdF I I' J J' ∧ I' 3 1 = (if c.2 = 0 then (if Y.1.1 = 0 then -1 else nI Y.1.2) else nI (tok c.1).2.1) ∧ cuC I' J' tok T c ∧ (c.2 = 0 → RdV I' J' c.1 Y ∧ PY tok c.1 Y) := by
        rw [cu.1, q_startOf (by omega) hT cu cT', p_ci_s]
        refine ⟨p_wr I 3 1 (nI (tok c.1).2.1), J, ?_, ⟨(kf _).up (by decide), kpJ.rf⟩, ?_, cuf _, vf _⟩
        · rw [if_neg z]; show some (some (Value.int (I 3 8)), _) = _; rw [e8]
        · rw [if_neg z, wr_eq, pk_us]
      rw [if_neg e80, if_neg e80]
      by_cases h4 : (400 : Int32) < nI x
      · rw [if_pos h4]; exact hgo
      · rw [if_neg h4]; exact hgo
  intro k
  induction k with
  | zero =>
    intro x n c Y I J cu hv hx hn
    obtain ⟨n, rfl⟩ : ∃ z, n = z + 1 := ⟨n - 1, by omega⟩
    have he : ¬ (c.2 = 0 ∧ (tok c.1).1 ≠ 0) := fun h9 => by
      have := (hv h9.1).2.2.2
      have := cu.2.2.2.1
      omega
    exact fin n x c Y I J cu (fun z => ⟨(hv z).1, (hv z).2.1⟩) he
  | succ k ih =>
    intro x n c Y I J cu hv hx hn
    obtain ⟨n, rfl⟩ : ∃ z, n = z + 1 := ⟨n - 1, by omega⟩
    by_cases he : c.2 = 0 ∧ (tok c.1).1 ≠ 0
    · obtain ⟨hv1, hP, hx1, hk1⟩ := hv he.1
      have cT' := cu.2.2.2.1
      have kb := (hT.2.2.1 c.1 cT').1
      obtain ⟨I1, J1, t1, t2, t3, t4⟩ := ev_readTell (d := d) (by omega) hT hV cu he.1 he.2 hv1
      have hpy := py_T hT hV cT' he.1 hP
      obtain ⟨I2, J2, u1, u2, u3, u4, u5⟩ := ih (x + 1) n (tlC tok Y c) (tlY tok Y c) I1 J1 t3 (fun z => ⟨t4 z, (hpy z).1, by have := (hpy z).2.1; omega, by have := (hpy z).2.1; omega⟩) (by omega) (by omega)
      have e0 : tlL tok (k + 1) (c, Y) = tlL tok k (tlC tok Y c, tlY tok Y c) := if_pos he
      rw [e0]
      refine ⟨I2, J2, ?_, ⟨t2.1.tr u2.1, t2.2.tr u2.2⟩, u3, u4, u5⟩
      rw [runS_s, s_X4_readText_57, if_neg (show ¬ (400 : Int32) < nI (x) from nI_nlt (a := 400) (b := x) (by omega) (by omega)), if_pos (show I 3 8 = 0 by rw [cu.2.2.1, he.1]; rfl), if_neg (show ¬ I 3 7 = 0 by rw [cu.2.1, eq0_nI (by omega)]; exact he.2), t1, p_cv_s, nI_1]
      exact u1
    · rw [tl_end he]
      exact fin n x c Y I J cu (fun z => ⟨(hv z).1, (hv z).2.1⟩) he
/-- the reference's loop -/
def exq (d n : Nat) (I : Nat → Nat → Int32) (J : Nat → Nat → Int64) (y : Int32) : Option Rs := runS (EV d) none 2 T0 C_X12_read k_X12_read rtI f_X12_read n 164 [.ref 192, un] [.int y, .ref 192] (I, J)
theorem lp_readM (hd : 10 ≤ d) (hT : TKS tok T) (hV : TKV tok T) {v : Nat} (hv2 : v < 2) : ∀ (k n : Nat) (c : Nat × Nat) (Y : DY) (I : Nat → Nat → Int32) (J : Nat → Nat → Int64), cuG I J tok T c → c.1 < T → (c.2 = 0 → RdM I J v c.1 Y ∧ PY tok c.1 Y ∧ 401 - c.1 ≤ k) → 2 * k + 1 < n →
    ∃ I' J' n', runS (EV d) none 2 T0 C_X12_read k_X12_read rtI f_X12_read n 112 [.ref 192, un] [] (I, J) = exq d n' I' J' (ansP tok (tlL tok k (c, Y))) ∧ n ≤ n' + 2 * k + 1 ∧ rmF I I' v ∧ kpJ [200] J J' ∧ cuG I' J' tok T (tlL tok k (c, Y)).1 ∧ ((tlL tok k (c, Y)).1.2 = 0 → RdM I' J' v (tlL tok k (c, Y)).1.1 (tlL tok k (c, Y)).2 ∧ PY tok (tlL tok k (c, Y)).1.1 (tlL tok k (c, Y)).2) := by
  have hTT := hT.2.1
  have fin : ∀ (n : Nat) (c : Nat × Nat) (Y : DY) (I : Nat → Nat → Int32) (J : Nat → Nat → Int64), cuG I J tok T c → (c.2 = 0 → RdM I J v c.1 Y) → ¬ (c.2 = 0 ∧ (tok c.1).1 ≠ 0) → runS (EV d) none 2 T0 C_X12_read k_X12_read rtI f_X12_read (n + 1) 112 [.ref 192, un] [] (I, J) = exq d n I J (ansP tok (c, Y)) := by
    intro n c Y I J cu hm he
    rw [runS_s, s_X12_read_112]
    unfold ansP exq
    by_cases z : c.2 = 0
    · have k0 : (tok c.1).1 = 0 := by
        by_cases h9 : (tok c.1).1 = 0
        · exact h9
        · exact absurd ⟨z, h9⟩ he
      have cu0 := cu.1 z
      have sf := (hm z).1.1
      have h6 := sf.2.1
      rw [if_pos (show I 192 13 = 0 by rw [cu0.2.1, z]; rfl), q_is' (by omega) hT cu0 0 0 (by decide) (by decide) (by decide), p_ci_s, if_neg (by rw [zI_t ⟨z, k0⟩]; decide)]
      dsimp only
      rw [if_pos (show I 192 13 ≤ 0 by rw [cu0.2.1, z]; decide), if_pos z]
      by_cases h0 : Y.1.1 = 0
      · rw [if_pos (show I 192 15 ≤ 0 by rw [sf.1, le0_nI (by omega)]; exact h0), if_pos h0]
      · rw [if_neg (show ¬ I 192 15 ≤ 0 by rw [sf.1, le0_nI (by omega)]; exact h0), if_neg h0, sf.2.2.1 h0]
    · have cf := cu.2 z
      rw [if_neg cf.nz, if_neg cf.nl, if_neg z, cf.2.1]
  intro k
  induction k with
  | zero =>
    intro n c Y I J cu cT' hm hn
    obtain ⟨n, rfl⟩ : ∃ z, n = z + 1 := ⟨n - 1, by omega⟩
    have he : ¬ (c.2 = 0 ∧ (tok c.1).1 ≠ 0) := fun h9 => by
      have := (hm h9.1).2.2
      omega
    exact ⟨I, J, n, fin n c Y I J cu (fun z => (hm z).1) he, by omega, rmF.rf, kpJ.rf, cu, fun z => ⟨(hm z).1, (hm z).2.1⟩⟩
  | succ k ih =>
    intro n c Y I J cu cT' hm hn
    by_cases he : c.2 = 0 ∧ (tok c.1).1 ≠ 0
    · obtain ⟨n, rfl⟩ : ∃ z, n = z + 1 + 1 := ⟨n - 2, by omega⟩
      obtain ⟨hm1, hP, hk1⟩ := hm he.1
      have cu0 := cu.1 he.1
      obtain ⟨I1, J1, t1, t2, t3, t4, t5⟩ := ev_tellOne (d := d) (by omega) hT hV cu0 he.1 hv2 hm1 hP
      have hpy := py_T hT hV cT' he.1 hP
      have hcT : (tlC tok Y c).1 < T := by
        by_cases z : (tlC tok Y c).2 = 0
        · exact (hpy z).2.2
        · exact tl_lt hT hV cT' he.1 he.2
      obtain ⟨I2, J2, n2, u1, u2, u3, u4, u5, u6⟩ := ih n (tlC tok Y c) (tlY tok Y c) I1 J1 t4 hcT (fun z => ⟨t5 z, (hpy z).1, by have := (hpy z).2.1; omega⟩) (by omega)
      have e0 : tlL tok (k + 1) (c, Y) = tlL tok k (tlC tok Y c, tlY tok Y c) := if_pos he
      rw [e0]
      refine ⟨I2, J2, n2, ?_, by omega, t2.tr u3, t3.tr u4, u5, u6⟩
      rw [runS_s, s_X12_read_112, if_pos (show I 192 13 = 0 by rw [cu0.2.1, he.1]; rfl), q_is' (by omega) hT cu0 0 0 (by decide) (by decide) (by decide), p_ci_s, if_pos (zI_f (fun h9 => he.2 h9.2)), t1, p_cv_s, runS_s, s_X12_read_131]
      exact u1
    · obtain ⟨n, rfl⟩ : ∃ z, n = z + 1 := ⟨n - 1, by omega⟩
      rw [tl_end he]
      exact ⟨I, J, n, fin n c Y I J cu (fun z => (hm z).1) he, by omega, rmF.rf, kpJ.rf, cu, fun z => ⟨(hm z).1, (hm z).2.1⟩⟩
end SW
