/-! ===== cartIn, year ===== -/
section QP
variable {P : PP} {I : Nat → Nat → Int32} {J : Nat → Nat → Int64} {d : Nat} {x : XS}
def ciQ (P : PP) (x : XS) (a b w : Int32) : Int32 := if oneOf a (xC P) = 0 then -1 else if zI (¬ b < 0 ∧ ¬ 60 < b) = 0 then -1 else if zI (¬ w < 0 ∧ ¬ 2 < w) = 0 then -1 else if w = 0 then (wkI P (xe P) b.toNatClampNeg x).2.2 a.toNatClampNeg 0 else if w = 1 then (wkI P (xe P) b.toNatClampNeg x).2.2 a.toNatClampNeg 2 - x.2.2 a.toNatClampNeg 2 else (wkI P (xe P) b.toNatClampNeg x).2.2 a.toNatClampNeg 3 - x.2.2 a.toNatClampNeg 3
theorem c_cartIn (hd : 11 ≤ d) (h : CX_39 P I x) (a b w : Int32) : CQ d 146 [.ref 0, .int a, .int b, .int w] I J (ciQ P x a b w) := by
  obtain ⟨d, rfl⟩ : ∃ z, d = z + 1 := ⟨d - 1, by omega⟩
  have h1 := h.1
  have hC := h1.C4
  unfold CQ ciQ
  rw [e_X11_cartIn, runS_M, s_X11_cartIn_0, q_cart (by omega) h1, p_ci_s]
  rcases oneOf_c (a := a) (N := xC P) (by omega) with e | ⟨e, c, hc, rfl⟩
  · rw [if_pos e, if_pos e]; exact ⟨I, rfl, kp.rf⟩
  have hne : ¬ oneOf (nI c) (xC P) = 0 := by rw [e]; decide
  rw [if_neg hne, if_neg hne, q_within (by omega), p_ci_s]
  rcases in_c (n := b) (lo := 0) (hi := 60) (l := 0) (h := 60) rfl rfl (by omega) (by omega) with e2 | ⟨e2, k, k1, k2, rfl⟩
  · rw [if_pos e2, if_pos e2]; exact ⟨I, rfl, kp.rf⟩
  have hne2 : ¬ zI (¬ nI k < (0 : Int32) ∧ ¬ (60 : Int32) < nI k) = 0 := by rw [e2]; decide
  rw [if_neg hne2, if_neg hne2, show (999999 : Nat) = 999997 + 1 + 1 from rfl, runS_s, s_X11_cartIn_18, q_within (by omega), p_ci_s]
  by_cases e3 : zI (¬ w < (0 : Int32) ∧ ¬ (2 : Int32) < w) = 0
  · rw [if_pos e3, if_pos e3]; exact ⟨I, rfl, kp.rf⟩
  obtain ⟨I1, t1, t2, t3⟩ := ev_lookAhead (d := d) (J := J) (by omega) h (k := k) (by omega)
  rw [if_neg e3, if_neg e3, t1, p_cv_s, runS_s, s_X11_cartIn_34, nI_clamp (by omega), nI_clamp (by omega)]
  refine ⟨I1, ?_, t2⟩
  have e41 : I1 41 = I 41 := t2 41 (by decide)
  by_cases w0 : w = 0
  · rw [if_pos w0, if_pos w0, q_cf_42 (x := 0) (by omega) (c := c) (f := 0) (by omega) (by omega) rfl, p_ci_s, t3.2.2.2.1 c hc 0 (by omega)]; rfl
  rw [if_neg w0, if_neg w0]
  by_cases w1 : w = 1
  · rw [if_pos w1, if_pos w1, q_cf_42 (x := 2) (by omega) (c := c) (f := 2) (by omega) (by omega) rfl, p_ci_s, q_cf_39 (x := 2) (by omega) (c := c) (f := 2) (by omega) (by omega) rfl, p_ci_s, t3.2.2.2.1 c hc 2 (by omega), e41, h.2.2.2.1 c hc 2 (by omega)]; rfl
  · rw [if_neg w1, if_neg w1, q_cf_42 (x := 3) (by omega) (c := c) (f := 3) (by omega) (by omega) rfl, p_ci_s, q_cf_39 (x := 3) (by omega) (c := c) (f := 3) (by omega) (by omega) rfl, p_ci_s, t3.2.2.2.1 c hc 3 (by omega), e41, h.2.2.2.1 c hc 3 (by omega)]; rfl
theorem m_cartIn (hd : 8 ≤ d) (h : NX P I x) (a b w : Int32) : MQq d 259 [.ref 192, .int a, .int b, .int w] I J (ciQ P x a b w) := by
  obtain ⟨d, rfl⟩ : ∃ z, d = z + 1 := ⟨d - 1, by omega⟩
  have h1 := h.1
  have hC := h1.C4
  unfold MQq ciQ
  rw [e_X12_cartIn, runS_M, s_X12_cartIn_0, q_cartR (by omega) h1, p_ci_s]
  rcases oneOf_c (a := a) (N := xC P) (by omega) with e | ⟨e, c, hc, rfl⟩
  · rw [if_pos e, if_pos e]; exact ⟨I, rfl, kp.rf, k567.rf⟩
  have hne : ¬ oneOf (nI c) (xC P) = 0 := by rw [e]; decide
  rw [if_neg hne, if_neg hne, q_isLong (by omega), p_ci_s]
  rcases in_c (n := b) (lo := 0) (hi := 60) (l := 0) (h := 60) rfl rfl (by omega) (by omega) with e2 | ⟨e2, k, k1, k2, rfl⟩
  · rw [if_pos e2, if_pos e2]; exact ⟨I, rfl, kp.rf, k567.rf⟩
  have hne2 : ¬ zI (¬ nI k < (0 : Int32) ∧ ¬ (60 : Int32) < nI k) = 0 := by rw [e2]; decide
  rw [if_neg hne2, if_neg hne2, show (999999 : Nat) = 999997 + 1 + 1 from rfl, runS_s, s_X12_cartIn_15, q_in (by omega), p_ci_s]
  rcases in_c (n := w) (lo := 0) (hi := 2) (l := 0) (h := 2) rfl rfl (by omega) (by omega) with e3 | ⟨e3, v, v1, v2, rfl⟩
  · rw [if_pos e3, if_pos e3]; exact ⟨I, rfl, kp.rf, k567.rf⟩
  have hne3 : ¬ zI (¬ nI v < (0 : Int32) ∧ ¬ (2 : Int32) < nI v) = 0 := by rw [e3]; decide
  obtain ⟨I1, t1, t2, t3, t4, t5, t6, -⟩ := h.row (d := d) (J := J) (by omega)
  obtain ⟨I2, u1, u2, u3, u4, -⟩ := ev_goes (d := d) (J := J) (by omega) t6 t5 (k := k) (by omega)
  rw [t4] at u4
  rw [if_neg hne3, if_neg hne3, t1, p_cv_s, runS_s, s_X12_cartIn_30, u1, p_cv_s, nI_clamp (by omega), nI_clamp (by omega)]
  refine ⟨I2, ?_, (t2.up (by decide)).tr (u2.up (by decide)), t3.tr (k567.of u3)⟩
  have e229 : I2 229 = I 229 := (u2 229 (by decide)).trans (t2 229 (by decide))
  have hv : v = 0 ∨ v = 1 ∨ v = 2 := by omega
  rcases hv with rfl | rfl | rfl
  · rw [if_pos (show nI 0 = 0 from rfl), if_pos (show nI 0 = 0 from rfl)]
    show p_chk (p_in (nI 10 + nI c) 32) _ = _
    rw [nI_add, chk_in (by omega) (by omega)]
    show rtI (some (.int (I2 230 ((nI 10 + nI c).toNatClampNeg)))) _ = _
    rw [nI_add, nI_clamp (by omega), show 10 + c = 10 + 4 * 0 + c from rfl, u4.2.2.2.1 c hc 0 (by omega)]; rfl
  · rw [if_neg (by decide), if_neg (by decide), if_pos (show nI 1 = 1 from rfl)]
    show p_chk (p_in (nI 18 + nI c) 32) (p_chk (p_in (nI 18 + nI c) 32) (rtI (some (.int (I2 230 ((nI 18 + nI c).toNatClampNeg) - I2 229 ((nI 18 + nI c).toNatClampNeg)))) (I2, J))) = _
    rw [nI_add, chk_in (by omega) (by omega), chk_in (by omega) (by omega), nI_clamp (by omega), e229, show 18 + c = 10 + 4 * 2 + c from rfl, u4.2.2.2.1 c hc 2 (by omega), h.2.2.2.1 c hc 2 (by omega)]; rfl
  · rw [if_neg (by decide), if_neg (by decide), if_neg (by decide)]
    show p_chk (p_in (nI 22 + nI c) 32) (p_chk (p_in (nI 22 + nI c) 32) (rtI (some (.int (I2 230 ((nI 22 + nI c).toNatClampNeg) - I2 229 ((nI 22 + nI c).toNatClampNeg)))) (I2, J))) = _
    rw [nI_add, chk_in (by omega) (by omega), chk_in (by omega) (by omega), nI_clamp (by omega), e229, show 22 + c = 10 + 4 * 3 + c from rfl, u4.2.2.2.1 c hc 3 (by omega), h.2.2.2.1 c hc 3 (by omega)]; rfl
/-! year -/
theorem jn_wk1 (h : PlR P I) {sd : Int32} {t u : Nat} (ht : t < xN P) (hj : dsP P (uW (whB (wk1 P sd x).1)) t u < 99999) : dsP P (uW (whB x.1)) t u < 99999 := by
  refine Nat.lt_of_le_of_lt (ds_mono (okP h uW_ok) (okP h uW_ok) ht (fun i hi hw => ?_) u) hj
  have h1 : whB (wk1 P sd x).1 i = true := by
    by_cases e : whB (wk1 P sd x).1 i = true
    · exact e
    · unfold uW at hw; rw [if_neg e] at hw; omega
  have h2 : whB x.1 i = true := by
    have h3 : 0 < x.1 i - (wearF P i (nI (x.1 i)) x.2.1 (zI (¬ xz P ≤ lotF sd x.2.1)) ((mvA P x.1 x.2.1 x.2.2).2 i)).toNatClampNeg := of_decide_eq_true h1
    exact decide_eq_true (by omega)
  unfold uW; rw [if_pos h1, if_pos h2]; omega
theorem jn_wkI (h : PlR P I) {sd : Int32} {t u : Nat} (ht : t < xN P) : ∀ (k : Nat) (x : XS), dsP P (uW (whB (wkI P sd k x).1)) t u < 99999 → dsP P (uW (whB x.1)) t u < 99999 := by
  intro k
  induction k with
  | zero => intro x hj; exact hj
  | succ k ih => intro x hj; exact jn_wk1 h ht (ih _ hj)
theorem lp_stays (hd : 10 ≤ d) {N t u : Nat} (ht : t < xN P) (hu : u < xN P) (hN : N ≤ 60) {sd : Int32} : ∀ (k i n : Nat) (y : XS) (I : Nat → Nat → Int32), CX_42 P I y → i + k = N → 2 * k < n →
    ∃ I', runS (EV d) none 7 T0 C_X11_staysJoined k_X11_staysJoined rtZ f_X11_staysJoined n 36 [.ref 0, .int (nI t), .int (nI u), .int (nI N), .int sd, .int (zI (dsP P (uW (whB y.1)) t u < 99999)), .int (nI i)] [] (I, J) = some (some (.int (zI (dsP P (uW (whB (wkI P sd k y).1)) t u < 99999))), (I', J)) ∧ kp scC I I' := by
  intro k
  induction k with
  | zero =>
    intro i n y I h hi hn
    obtain ⟨n, rfl⟩ : ∃ z, n = z + 1 := ⟨n - 1, by omega⟩
    rw [runS_s, s_X11_staysJoined_36, if_pos (nI_le (by omega) (by omega)), rtZ_z]
    exact ⟨I, rfl, kp.rf⟩
  | succ k ih =>
    intro i n y I h hi hn
    obtain ⟨n, rfl⟩ : ∃ z, n = z + 1 + 1 := ⟨n - 2, by omega⟩
    rw [runS_s, s_X11_staysJoined_36, if_neg (nI_ge (by omega) (by omega))]
    by_cases hj : dsP P (uW (whB y.1)) t u < 99999
    · obtain ⟨I1, t1, t2, t3, -⟩ := ev_pass_42 (d := d) (J := J) (by omega) h (k := 1) (by omega) sd
      obtain ⟨a, t4, t5⟩ := ev_whole_42 (d := d) (J := J) (by omega) t3.1 t3.2.1
      obtain ⟨I2, u1, u2⟩ := ih (i + 1) n _ I1 t3 (by omega) (by omega)
      refine ⟨I2, ?_, (t2.up (by decide)).tr u2⟩
      rw [if_neg (by rw [zI_t hj]; decide), show (1 : Int32) = nI 1 from rfl, t1, p_cv_s, t4, p_ci_s, q_joins (by omega) t3.1 a ht hu, p_ci_s, wh_cg t5, runS_s, s_X11_staysJoined_83, nI_1]
      exact u1
    · refine ⟨I, ?_, kp.rf⟩
      rw [if_pos (zI_f hj), rtZ_z, zI_f hj, zI_f (fun h9 => hj (jn_wkI h.1 ht (k + 1) y h9))]
theorem ev_stays (hd : 11 ≤ d) (h : CX_39 P I x) {t u k : Nat} (ht : t < xN P) (hu : u < xN P) (hk : k ≤ 60) (sd : Int32) : ∃ I', EV d T0 158 [.ref 0, .int (nI t), .int (nI u), .int (nI k), .int sd] (I, J) = some (some (.int (zI (dsP P (uW (whB (wkI P sd k x).1)) t u < 99999))), (I', J)) ∧ kp scC I I' := by
  obtain ⟨d, rfl⟩ : ∃ z, d = z + 1 := ⟨d - 1, by omega⟩
  obtain ⟨I1, t1, t2, t3, -⟩ := ev_later (d := d) (J := J) (by omega) h
  obtain ⟨a, t4, t5⟩ := ev_whole_42 (d := d) (J := J) (by omega) t3.1 t3.2.1
  obtain ⟨I2, u1, u2⟩ := lp_stays (d := d) (J := J) (by omega) ht hu hk (sd := sd) k 0 999998 x I1 t3 (by omega) (by omega)
  refine ⟨I2, ?_, (t2.up (by decide)).tr u2⟩
  rw [e_X11_staysJoined, runS_M, s_X11_staysJoined_0, t1, p_cv_s, t4, p_ci_s, q_joins (by omega) t3.1 a ht hu, p_ci_s, wh_cg t5, show (999999 : Nat) = 999998 + 1 from rfl, runS_s, s_X11_staysJoined_33]
  exact u1
/-- how many of the seeds keep the towns joined -/
def yrF (P : PP) (x : XS) (t u n : Nat) (m k : Nat) : Nat := if dsP P (uW (whB (wkI P (xe P + nI k) n x).1)) t u < 99999 then m + 1 else m
def yrN (P : PP) (x : XS) (t u n s : Nat) : Nat := (List.range' 0 s).foldl (yrF P x t u n) 0
theorem yr_le (P : PP) (x : XS) (t u n : Nat) : ∀ (l : List Nat) (m : Nat), l.foldl (yrF P x t u n) m ≤ m + l.length := by
  intro l
  induction l with
  | nil => intro m; exact Nat.le_refl _
  | cons a l ih =>
    intro m
    have h1 := ih (yrF P x t u n m a)
    have h2 : yrF P x t u n m a ≤ m + 1 := by unfold yrF; split <;> omega
    rw [List.foldl_cons, List.length_cons]; omega
def noCh (P : PP) : Prop := xz P ≤ 0 ∨ 100 ≤ xz P
theorem fz_no (h : PlR P I) (hn : noCh P) (sd sd' wk : Int32) : zI (¬ xz P ≤ lotF sd wk) = zI (¬ xz P ≤ lotF sd' wk) := by
  obtain ⟨m, hm, em⟩ := h.fz.2.2
  obtain ⟨a, ha, ea⟩ := lotF_nI sd wk
  obtain ⟨b, hb, eb⟩ := lotF_nI sd' wk
  apply z_cg
  rw [ea, eb, em, le_nI (by omega) (by omega), le_nI (by omega) (by omega)]
  unfold noCh at hn
  rw [em, le0_nI (by omega), show ((100 : Int32) ≤ nI m) = (100 ≤ m) from le_nI (a := 100) (by omega) (by omega)] at hn
  omega
theorem wkI_no (h : PlR P I) (hn : noCh P) (sd sd' : Int32) : ∀ (k : Nat) (x : XS), wkI P sd k x = wkI P sd' k x := by
  intro k
  induction k with
  | zero => intro x; rfl
  | succ k ih =>
    intro x
    show wkI P sd k (wk1 P sd x) = wkI P sd' k (wk1 P sd' x)
    rw [ih, show wk1 P sd x = wk1 P sd' x from by unfold wk1; rw [fz_no h hn sd sd' x.2.1]]
theorem yr_no (h : PlR P I) (hn : noCh P) (x : XS) (t u n : Nat) : ∀ (l : List Nat) (m : Nat), l.foldl (yrF P x t u n) m = if dsP P (uW (whB (wkI P (xe P) n x).1)) t u < 99999 then m + l.length else m := by
  intro l
  induction l with
  | nil => intro m; split <;> rfl
  | cons a l ih =>
    intro m
    rw [List.foldl_cons, ih, List.length_cons]
    unfold yrF
    rw [wkI_no h hn (xe P + nI a) (xe P)]
    split
    · omega
    · rfl
def yearQ (P : PP) (x : XS) (a b n s : Int32) : Int32 := if two P a b = 0 then -1 else if zI (¬ n < 0 ∧ ¬ 60 < n) = 0 then -1 else if zI (¬ s < 1 ∧ ¬ 20 < s) = 0 then -1 else nI (yrN P x a.toNatClampNeg b.toNatClampNeg n.toNatClampNeg s.toNatClampNeg)
theorem q_hasChance (hd : 1 ≤ d) (h : PlR P I) : EV d T0 76 [.ref 174] (I, J) = some (some (.int (zI (¬ (xz P ≤ 0) ∧ ¬ (100 ≤ xz P)))), (I, J)) := by
  obtain ⟨d, rfl⟩ : ∃ z, d = z + 1 := ⟨d - 1, by omega⟩
  rw [e_X7_hasChance, runS_M, s_X7_hasChance_0, h.fz.1]
  by_cases h1 : xz P ≤ 0
  · rw [if_pos h1, zI_f (fun h9 => h9.1 h1)]; rfl
  · rw [if_neg h1]
    by_cases h2 : 100 ≤ xz P
    · rw [if_pos h2, zI_f (fun h9 => h9.2 h2)]; rfl
    · rw [if_neg h2, zI_t ⟨h1, h2⟩]; rfl
theorem CX_39.go {I' : Nat → Nat → Int32} (h : CX_39 P I x) (hk : kp scC I I') : CX_39 P I' x :=
  ⟨plr_kx h.1 hk (by decide) (by rw [hk 192 (by decide)]), by rw [hk 40 (by decide)]; exact h.2.1, by rw [hk 39 (by decide)]; exact h.2.2.1, by rw [hk 41 (by decide)]; exact h.2.2.2.1, h.2.2.2.2⟩
theorem NX.go {I' : Nat → Nat → Int32} (h : NX P I x) (hk : kp scM I I') (h5 : k567 I I') : NX P I' x :=
  ⟨plr_kx h.1 hk (by decide) (h5 18 (by decide) (by decide) (by decide)), by rw [hk 229 (by decide)]; exact h.2.1, by rw [hk 229 (by decide)]; exact h.2.2.1, by rw [hk 229 (by decide)]; exact h.2.2.2.1, h.2.2.2.2⟩
theorem lp_year (hd : 11 ≤ d) {t u m s : Nat} (ht : t < xN P) (hu : u < xN P) (hm : m ≤ 60) (hs : s ≤ 20) : ∀ (k i n g : Nat) (I : Nat → Nat → Int32), CX_39 P I x → i + k = s → k < n → g ≤ i →
    ∃ I', runS (EV d) none 7 T0 C_X11_year k_X11_year rtI f_X11_year n 72 [.ref 0, .int (nI t), .int (nI u), .int (nI m), .int (nI s), .int (nI g), .int (nI i)] [] (I, J) = some (some (.int (nI ((List.range' i k).foldl (yrF P x t u m) g))), (I', J)) ∧ kp scC I I' := by
  intro k
  induction k with
  | zero =>
    intro i n g I h hi hn hg
    obtain ⟨n, rfl⟩ : ∃ z, n = z + 1 := ⟨n - 1, by omega⟩
    rw [runS_s, s_X11_year_72, if_pos (nI_le (by omega) (by omega))]
    exact ⟨I, rfl, kp.rf⟩
  | succ k ih =>
    intro i n g I h hi hn hg
    obtain ⟨n, rfl⟩ : ∃ z, n = z + 1 := ⟨n - 1, by omega⟩
    obtain ⟨I1, t1, t2⟩ := ev_stays (d := d) (J := J) hd h ht hu hm (xe P + nI i)
    rw [runS_s, s_X11_year_72, if_neg (nI_ge (by omega) (by omega)), h.1.sd.1, t1, p_ci_s]
    by_cases hj : dsP P (uW (whB (wkI P (xe P + nI i) m x).1)) t u < 99999
    · obtain ⟨I2, u1, u2⟩ := ih (i + 1) n (g + 1) I1 (h.go t2) (by omega) (by omega) (by omega)
      refine ⟨I2, ?_, t2.tr u2⟩
      rw [if_neg (by rw [zI_t hj]; decide), nI_1, nI_1, List.range'_succ, List.foldl_cons, show yrF P x t u m g i = g + 1 from if_pos hj]
      exact u1
    · obtain ⟨I2, u1, u2⟩ := ih (i + 1) n g I1 (h.go t2) (by omega) (by omega) (by omega)
      refine ⟨I2, ?_, t2.tr u2⟩
      rw [if_pos (zI_f hj), nI_1, List.range'_succ, List.foldl_cons, show yrF P x t u m g i = g from if_neg hj]
      exact u1
theorem c_year (hd : 12 ≤ d) (h : CX_39 P I x) (a b n s : Int32) : CQ d 147 [.ref 0, .int a, .int b, .int n, .int s] I J (yearQ P x a b n s) := by
  obtain ⟨d, rfl⟩ : ∃ z, d = z + 1 := ⟨d - 1, by omega⟩
  have h1 := h.1
  have h7 := h1.N7
  unfold CQ yearQ
  rw [e_X11_year, runS_M, s_X11_year_0, q_two (by omega) h1, p_ci_s]
  rcases two_c h1 (a := a) (b := b) with e | ⟨e, -, -, t, u, ht, hu, htu, rfl, rfl⟩
  · rw [if_pos e, if_pos e]; exact ⟨I, rfl, kp.rf⟩
  have hne : ¬ two P (nI t) (nI u) = 0 := by rw [e]; decide
  rw [if_neg hne, if_neg hne, q_within (by omega), p_ci_s]
  rcases in_c (n := n) (lo := 0) (hi := 60) (l := 0) (h := 60) rfl rfl (by omega) (by omega) with e2 | ⟨e2, m, m1, m2, rfl⟩
  · rw [if_pos e2, if_pos e2]; exact ⟨I, rfl, kp.rf⟩
  have hne2 : ¬ zI (¬ nI m < (0 : Int32) ∧ ¬ (60 : Int32) < nI m) = 0 := by rw [e2]; decide
  rw [if_neg hne2, if_neg hne2, show (999999 : Nat) = 999996 + 1 + 1 + 1 from rfl, runS_s, s_X11_year_19, q_within (by omega), p_ci_s]
  rcases in_c (n := s) (lo := 1) (hi := 20) (l := 1) (h := 20) rfl rfl (by omega) (by omega) with e3 | ⟨e3, q, q1, q2, rfl⟩
  · rw [if_pos e3, if_pos e3]; exact ⟨I, rfl, kp.rf⟩
  have hne3 : ¬ zI (¬ nI q < (1 : Int32) ∧ ¬ (20 : Int32) < nI q) = 0 := by rw [e3]; decide
  rw [if_neg hne3, if_neg hne3, q_hasChance (by omega) h1, p_ci_s, nI_clamp (by omega), nI_clamp (by omega), nI_clamp (by omega), nI_clamp (by omega)]
  by_cases hc : noCh P
  · obtain ⟨I1, t1, t2⟩ := ev_stays (d := d) (J := J) (by omega) h ht hu m2 (xe P)
    refine ⟨I1, ?_, t2⟩
    have hz : zI (¬ (xz P ≤ 0) ∧ ¬ (100 ≤ xz P)) = 0 := zI_f (fun h9 => hc.elim h9.1 h9.2)
    rw [if_pos hz, runS_s, s_X11_year_42, h1.sd.1, t1, p_ci_s]
    unfold yrN
    rw [yr_no h1 hc, List.length_range', Nat.zero_add]
    by_cases hj : dsP P (uW (whB (wkI P (xe P) m x).1)) t u < 99999
    · rw [if_pos hj, if_neg (by rw [zI_t hj]; decide)]; rfl
    · rw [if_neg hj, if_pos (zI_f hj)]; rfl
  · obtain ⟨I1, t1, t2⟩ := lp_year (x := x) (d := d) (J := J) (by omega) ht hu m2 q2 q 0 999997 0 I h (by omega) (by omega) (by omega)
    refine ⟨I1, ?_, t2⟩
    have hz : zI (¬ (xz P ≤ 0) ∧ ¬ (100 ≤ xz P)) = 1 := zI_t ⟨fun h9 => hc (Or.inl h9), fun h9 => hc (Or.inr h9)⟩
    rw [if_neg (by rw [hz]; decide), runS_s, s_X11_year_66]
    exact t1
theorem lp_yearR (hd : 7 ≤ d) {t u m s : Nat} (ht : t < xN P) (hu : u < xN P) (hm : m ≤ 60) (hs : s ≤ 20) : ∀ (k i n g : Nat) (I : Nat → Nat → Int32), NX P I x → i + k = s → 2 * k < n → g ≤ i →
    ∃ I', runS (EV d) none 7 T0 C_X12_year k_X12_year rtI f_X12_year n 47 [.ref 192, .int (nI t), .int (nI u), .int (nI m), .int (nI s), .int (nI g), .int (nI i)] [] (I, J) = some (some (.int (nI ((List.range' i k).foldl (yrF P x t u m) g))), (I', J)) ∧ kp scM I I' ∧ k567 I I' := by
  intro k
  induction k with
  | zero =>
    intro i n g I h hi hn hg
    obtain ⟨n, rfl⟩ : ∃ z, n = z + 1 := ⟨n - 1, by omega⟩
    rw [runS_s, s_X12_year_47, if_pos (nI_le (by omega) (by omega))]
    exact ⟨I, rfl, kp.rf, k567.rf⟩
  | succ k ih =>
    intro i n g I h hi hn hg
    obtain ⟨n, rfl⟩ : ∃ z, n = z + 1 + 1 := ⟨n - 2, by omega⟩
    obtain ⟨I1, t1, t2, t3, t4, t5, t6, -⟩ := h.row (d := d) (J := J) (by omega)
    have k2 : kp [230, 192] I1 (p_wr I1 192 56 (I1 192 56 + nI i)) := kp.rf.wr (by decide)
    have k3 : k567 I1 (p_wr I1 192 56 (I1 192 56 + nI i)) := fun j _ a _ => by rw [wr_eq, pk_un a]
    have hX : MX P (p_wr I1 192 56 (I1 192 56 + nI i)) x := ⟨plr_kx t6.1 k2 (by decide) (k3 18 (by decide) (by decide) (by decide)), by rw [wr_ne (by decide)]; exact t6.2.1, by rw [wr_ne (by decide)]; exact t6.2.2.1, by rw [wr_ne (by decide)]; exact t6.2.2.2.1, t6.2.2.2.2⟩
    obtain ⟨I2, u1, u2, u3, u4, -⟩ := ev_goes (d := d) (J := J) (by omega) hX (by rw [wr_eq, pk_un (by decide)]; exact t5) (k := m) (by omega)
    rw [wr_eq, pk_us, t4] at u4
    obtain ⟨I3, w1, w2, -⟩ := ev_arj (d := d) (J := J) (by omega) u4.1 u4.2.1 ht hu
    have k4 : kp scM I I3 := ((t2.up (by decide)).tr (k2.up (by decide))).tr ((u2.up (by decide)).tr (w2.up (by decide)))
    have k5 : k567 I I3 := (t3.tr k3).tr ((k567.of u3).tr (k567.kp w2 (by decide)))
    rw [runS_s, s_X12_year_47, if_neg (nI_ge (by omega) (by omega)), t1, p_cv_s]
    dsimp only
    rw [u1, p_cv_s, runS_s, s_X12_year_74, w1, p_ci_s]
    by_cases hj : dsP P (uW (whB (wkI P (xe P + nI i) m x).1)) t u < 99999
    · obtain ⟨I4, v1, v2, v3⟩ := ih (i + 1) n (g + 1) I3 (h.go k4 k5) (by omega) (by omega) (by omega)
      refine ⟨I4, ?_, k4.tr v2, k5.tr v3⟩
      rw [if_neg (by rw [zI_t hj]; decide), nI_1, nI_1, List.range'_succ, List.foldl_cons, show yrF P x t u m g i = g + 1 from if_pos hj]
      exact v1
    · obtain ⟨I4, v1, v2, v3⟩ := ih (i + 1) n g I3 (h.go k4 k5) (by omega) (by omega) (by omega)
      refine ⟨I4, ?_, k4.tr v2, k5.tr v3⟩
      rw [if_pos (zI_f hj), nI_1, List.range'_succ, List.foldl_cons, show yrF P x t u m g i = g from if_neg hj]
      exact v1
theorem two_1 {a b : Int32} (h : oneOf a (xN P) = 0) : two P a b = 0 := if_pos h
theorem two_2 {a b : Int32} (h : oneOf b (xN P) = 0) : two P a b = 0 := by unfold two; rw [if_pos h]; split <;> rfl
theorem two_3 {a b : Int32} (h : a = b) : two P a b = 0 := by unfold two; rw [if_pos h, ite_self, ite_self]
theorem two_4 {a b : Int32} (h : oneOf a (xN P) = 1) (h' : oneOf b (xN P) = 1) (hn : ¬ a = b) : two P a b = 1 := by unfold two; rw [if_neg (by rw [h]; decide), if_neg (by rw [h']; decide), if_neg hn]
theorem m_year (hd : 8 ≤ d) (h : NX P I x) (a b n s : Int32) : MQq d 260 [.ref 192, .int a, .int b, .int n, .int s] I J (yearQ P x a b n s) := by
  obtain ⟨d, rfl⟩ : ∃ z, d = z + 1 := ⟨d - 1, by omega⟩
  have h1 := h.1
  have h7 := h1.N7
  unfold MQq yearQ
  rw [e_X12_year, runS_M, s_X12_year_0, q_townR (by omega) h1, p_ci_s]
  rcases oneOf_c (a := a) (N := xN P) (by omega) with e | ⟨e, t, ht, rfl⟩
  · rw [if_pos e, if_pos (two_1 e)]; exact ⟨I, rfl, kp.rf, k567.rf⟩
  rw [if_neg (by rw [e]; decide), q_townR (by omega) h1, p_ci_s]
  rcases oneOf_c (a := b) (N := xN P) (by omega) with e' | ⟨e', u, hu, rfl⟩
  · rw [if_pos e', if_pos (two_2 e')]; exact ⟨I, rfl, kp.rf, k567.rf⟩
  rw [if_neg (by rw [e']; decide), show (999999 : Nat) = 999996 + 1 + 1 + 1 from rfl, runS_s, s_X12_year_16]
  by_cases htu : nI t = nI u
  · rw [if_pos htu, if_pos (two_3 htu)]; exact ⟨I, rfl, kp.rf, k567.rf⟩
  rw [if_neg htu, if_neg (by rw [two_4 e e' htu]; decide), q_isLong (by omega), p_ci_s]
  rcases in_c (n := n) (lo := 0) (hi := 60) (l := 0) (h := 60) rfl rfl (by omega) (by omega) with e2 | ⟨e2, m, m1, m2, rfl⟩
  · rw [if_pos e2, if_pos e2]; exact ⟨I, rfl, kp.rf, k567.rf⟩
  have hne2 : ¬ zI (¬ nI m < (0 : Int32) ∧ ¬ (60 : Int32) < nI m) = 0 := by rw [e2]; decide
  rw [if_neg hne2, if_neg hne2, q_in (by omega), p_ci_s]
  rcases in_c (n := s) (lo := 1) (hi := 20) (l := 1) (h := 20) rfl rfl (by omega) (by omega) with e3 | ⟨e3, q, q1, q2, rfl⟩
  · rw [if_pos e3, if_pos e3]; exact ⟨I, rfl, kp.rf, k567.rf⟩
  have hne3 : ¬ zI (¬ nI q < (1 : Int32) ∧ ¬ (20 : Int32) < nI q) = 0 := by rw [e3]; decide
  rw [if_neg hne3, if_neg hne3, nI_clamp (by omega), nI_clamp (by omega), nI_clamp (by omega), nI_clamp (by omega), runS_s, s_X12_year_41]
  exact lp_yearR (x := x) (d := d) (J := J) (by omega) ht hu m2 q2 q 0 999997 0 I h (by omega) (by omega) (by omega)
end QP
