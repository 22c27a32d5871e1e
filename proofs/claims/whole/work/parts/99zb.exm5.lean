/-! ===== read: expressions (reference), all ===== -/
section SG
variable {J : Nat → Nat → Int64} {d : Nat} {tok : Nat → TK} {T : Nat}
def hid (P : Prop) : Prop := P
theorem hid.mk {P : Prop} (h : P) : hid P := h
theorem hid.out {P : Prop} (h : hid P) : P := h
theorem map_len (pd : List Nat) : (pd.map sgO).length = pd.length := List.length_map ..
set_option maxHeartbeats 4000000 in
theorem mx_all (hd : 3 ≤ d) (hT : TKS tok T) (hV : TKV tok T) {B hi : Nat} (hB : hi = B + 420) (hh : hi ≤ 840) : ∀ (m md o cd n : Nat) (c : Nat × Nat) (ws pd : List Nat) (I : Nat → Nat → Int32), md ≤ 4 → o ≤ 6 → muG md m c → c.2 = 0 → (md ≤ 2 → pd = []) → isPd md pd → hdW md ws → (md = 4 → ¬ is4 (tok c.1).1) → mxS I J tok T (pd ++ ws) o cd c → ws.length ≤ 3 * o + (if md = 0 then 2 else if md = 1 ∨ md = 3 then 1 else 0) → cd + nsg (pd ++ ws) ≤ B + c.1 → 8 * (402 - c.1) ≤ n →
    mxR d n (if md ≤ 2 then 23 else 96) I J tok T ws o cd hi c md pd (gr tok m md o c) := by
  have hTT := hT.2.1
  intro m
  induction m with
  | zero => intro md o cd n c ws pd I _ _ h; exact absurd h.1 (by omega)
  | succ m ih =>
    intro md o cd n c ws pd I hm ho hmu e hp0 hpd hhd h44 h hwl hcd hn
    have hmu' := hmu.2 e
    have h1 := h.1.2.2.2.1
    have h2 := h.1.2.2.2.2.1
    obtain ⟨pg, pl⟩ := pd_go hm hpd
    have ens : nsg (pd ++ ws) = pd.length + nsg ws := by rw [nsg_app, nsg_go pg]
    have eln : (pd ++ ws).length = pd.length + ws.length := List.length_append
    have hmd : md = 0 ∨ md = 1 ∨ md = 2 ∨ md = 3 ∨ md = 4 := by omega
    rcases hmd with rfl | rfl | rfl | rfl | rfl
    · have ep : pd = [] := pd_0.mp hpd
      subst ep
      rw [List.nil_append] at h hcd
      have hmu'' : 5 * (401 - c.1) + 1 ≤ m + 1 := hmu'
      have hwl' : ws.length ≤ 3 * o + 2 := hwl
      show mxR d n 23 I J tok T ws o cd hi c 0 [] _
      by_cases k4 : (tok c.1).1 = 40
      · by_cases k6 : o < 6
        · have oab := hid.mk (open_step (d := d) (n := n) (hi := hi) hd hT h e k4 (by omega) (by omega) k6 (by omega))
          have g2 : ((tkS tok 40 c).1 < T ∧ (tkS tok 40 c).2 < 3) := tkS_lt hT (by omega) (by omega) h1 h2
          have g2 := gr_p hT hV m 2 (o + 1) (tkS tok 40 c) (by omega) g2.1 g2.2
          rw [gr_par e k4 k6]
          by_cases f : (tkS tok 40 c).2 = 0
          · obtain ⟨y1, y2, y3, y4⟩ := tk_z f
            obtain ⟨I1, n1, a1, a2, a3, a4⟩ := (hid.out oab).1 f
            have hR := ih 2 (o + 1) cd n1 (tkS tok 40 c) (40 :: ws) [] I1 (by omega) (by omega) ⟨by omega, fun _ => by rw [y4]; show 5 * (401 - (c.1 + 1)) + 3 ≤ m; omega⟩ f (fun _ => rfl) ((pd_2 (Or.inl rfl)).mpr ⟨trivial, by show 0 ≤ 2; omega⟩) ((hd_2 (Or.inl rfl)).mpr (Or.inl rfl)) (fun h9 => absurd h9 (by omega)) a4 (by show ws.length + 1 ≤ 3 * (o + 1) + 0; omega) (by
              rw [y4]; show cd + ((if (40 : Nat) = 40 then 0 else 1) + nsg ws) ≤ B + (c.1 + 1); rw [if_pos rfl]; omega) (by rw [y4]; show 8 * (402 - (c.1 + 1)) ≤ n1; omega)
            have hR : mxR d n1 23 I1 J tok T (40 :: ws) (o + 1) cd hi (tkS tok 40 c) 2 [] (gr tok m 2 (o + 1) (tkS tok 40 c)) := hR
            generalize gr tok m 2 (o + 1) (tkS tok 40 c) = r at g2 hR ⊢
            have hr3 := g2.2.1
            rw [y4] at hr3
            have hr3' : c.1 + 1 ≤ r.2.1 := hr3
            by_cases z : r.2.2 = 0
            · obtain ⟨I2, n2, pd2, es2, b1, b2, b3, b4, b5, b6, b7⟩ := hR.1 z
              obtain ⟨p2, l2⟩ := (pd_2 (Or.inl rfl)).mp b4
              obtain ⟨-, -, gl, -, gs4, -, gs3⟩ := g2.2.2 z
              rw [y4] at b2 gl
              have b2' : n1 ≤ n2 + 8 * (r.2.1 - (c.1 + 1)) := b2
              have gl' : c.1 + 1 + r.1.length ≤ r.2.1 := gl
              have hlen : es2.length + pd2.length = r.1.length := by
                have := congrArg List.length b7
                rw [List.length_append, map_len] at this
                exact this
              have hrT := g2.1.1
              have cab := hid.mk (close_step (d := d) (n := n2) (cd := cd + es2.length) (hi := hi) hd hT hh b5 k6 z (gs4 (Or.inr (Or.inl rfl))) (gs3 (Or.inl rfl)) p2 (by omega) (by omega) (by omega))
              constructor
              · intro hz
                obtain ⟨I3, n3, c1, c2, c3, c4, c5⟩ := (hid.out cab).1 hz
                obtain ⟨z1, z2, z3, z4⟩ := tk_z hz
                refine ⟨I3, n3, [], es2 ++ pd2.map sgO, (a1.trans b1).trans c1, ?_, (a3.tr b3 (Nat.le_refl _)).tr c3 (by omega), pd_0.mpr rfl, ?_, ?_, ?_⟩
                · rw [z4]; show n ≤ n3 + 8 * (r.2.1 + 1 - c.1); omega
                · rw [List.length_append, map_len, ← Nat.add_assoc]; exact c4
                · exact atR_app _ _ _ (atR_cg _ _ (fun j _ hj => c3.2.2 j (Or.inl hj)) b6) c5
                · rw [b7]; exact List.append_nil _
              · intro hz
                obtain ⟨I3, c1, c2⟩ := (hid.out cab).2 hz
                exact ⟨I3, (a1.trans b1).trans c1, edM.tr (a3.tr b3 (Nat.le_refl _)) c2 (by omega)⟩
            · have et : tkS tok 41 r.2 = r.2 := tk_f z
              refine ⟨fun h9 => absurd (show r.2.2 = 0 by rw [← et]; exact h9) z, fun _ => ?_⟩
              obtain ⟨I2, b1, b2⟩ := hR.2 z
              exact ⟨I2, a1.trans b1, by rw [et]; exact edM.tr a3 b2 (Nat.le_refl _)⟩
          · obtain ⟨m, rfl⟩ : ∃ z, m = z + 1 := ⟨m - 1, by omega⟩
            rw [gr_f f, tk_f f]
            exact ⟨fun h9 => absurd h9 f, fun _ => (hid.out oab).2 f⟩
        · have e6 : o = 6 := by omega
          subst e6
          rw [gr_deep e k4 k6]
          exact ⟨fun h9 => absurd (show 2 = 0 from h9) (by omega), fun _ => open_deep hd hT h e k4 (by omega) (by omega) (by omega)⟩
      · obtain ⟨cu, e12, e46, e50, hw⟩ := h
        obtain ⟨n, rfl⟩ : ∃ z, n = z + 1 + 1 := ⟨n - 2, by omega⟩
        obtain ⟨I2, u1, u2, u3, u4, u5, u6, u7⟩ := ev_unit (d := d) (I := I) (J := J) (m := m) (o := o) (hi := hi) hd hT hV cu e k4 hh e46 (by omega)
        have g0 := gr_p hT hV (m + 1) 0 o c (by omega) h1 h2
        generalize gr tok (m + 1) 0 o c = r at u5 u7 g0 ⊢
        have q6 := q_is' (d := d) (J := J) (by omega) hT cu 6 40 (by decide) (by decide) (by decide)
        have h23 : exP d (n + 1 + 1) 23 I J = runS (EV d) none 3 T0 C_X12_expression k_X12_expression rtV f_X12_expression (n + 1) 88 [.ref 192, .int (nI 0), un] [] (I2, J) := by
          unfold exP
          rw [runS_s, s_X12_expression_23, q6, p_ci_s, if_pos (zI_f (fun h9 => k4 h9.2)), u1, p_cv_s]
        rw [runS_s, s_X12_expression_88] at h23
        constructor
        · intro hz
          obtain ⟨v1, v2⟩ := u7 hz
          have hlt := (g0.2.2 hz).2.1 (by omega)
          refine ⟨I2, n, [], r.1, ?_, by omega, u2, pd_0.mpr rfl, ⟨u5, (u4 12 (by decide)).trans e12, v1, (u4 50 (by decide)).trans e50, by rw [u3]; exact hw⟩, v2, List.append_nil _⟩
          rw [h23, if_pos (by rw [u5.2.1, hz]; decide)]; rfl
        · intro hz
          exact ⟨I2, by rw [h23, if_neg (u5.f hz).nl]; rfl, u2, u5.f hz, u6⟩
    · have ep : pd = [] := hp0 (by omega)
      subst ep
      have hs1 : stL 1 ws := (hd_1 (Or.inl rfl)).mp hhd
      rw [List.nil_append] at h hcd
      have hmu'' : 5 * (401 - c.1) + 2 ≤ m + 1 := hmu'
      have hwl' : ws.length ≤ 3 * o + 1 := hwl
      show mxR d n 23 I J tok T ws o cd hi c 1 [] _
      have hR : mxR d n 23 I J tok T ws o cd hi c 0 [] (gr tok m 0 o c) := ih 0 o cd n c ws [] I (by omega) ho ⟨by omega, fun _ => by show 5 * (401 - c.1) + 1 ≤ m; omega⟩ e (fun _ => rfl) (pd_0.mpr rfl) trivial (fun h9 => absurd h9 (by omega)) h (by show ws.length ≤ 3 * o + 2; omega) hcd hn
      have g0 := gr_p hT hV m 0 o c (by omega) h1 h2
      rw [gr_1 e]
      generalize gr tok m 0 o c = r0 at hR g0 ⊢
      by_cases z : r0.2.2 = 0
      · obtain ⟨I1, n1, pd1, es1, b1, b2, b3, b4, b5, b6, b7⟩ := hR.1 z
        have ep : pd1 = [] := pd_0.mp b4
        subst ep
        have e7 : es1 = r0.1 := by
          have h9 : es1 ++ [] = r0.1 := b7
          rw [List.append_nil] at h9; exact h9
        obtain ⟨-, q2, q3, -⟩ := g0.2.2 z
        have q2' := q2 (by omega)
        have hlen : es1.length = r0.1.length := by rw [e7]
        have g3 := gr_p hT hV m 3 o r0.2 (by omega) g0.1.1 g0.1.2
        have hR2 : mxR d n1 96 I1 J tok T ws o (cd + es1.length) hi r0.2 3 [] (gr tok m 3 o r0.2) := ih 3 o (cd + es1.length) n1 r0.2 ws [] I1 (by omega) ho ⟨by omega, fun _ => by show 5 * (401 - r0.2.1) + 1 ≤ m; omega⟩ z (fun h9 => absurd h9 (by omega)) ((pd_1 (Or.inr rfl)).mpr ⟨trivial, by show 0 ≤ 1; omega⟩) ((hd_1 (Or.inr rfl)).mpr hs1) (fun h9 => absurd h9 (by omega)) b5 hwl (by rw [List.nil_append]; omega) (by omega)
        exact mxR_go b1 g0.2.1 b2 b3 b6 (l := r0.1) b7 hR2 g3.2.1 rfl rfl (fun p h9 => (pd_1 (Or.inl rfl)).mpr ((pd_1 (Or.inr rfl)).mp h9))
      · obtain ⟨m, rfl⟩ : ∃ z, m = z + 1 := ⟨m - 1, by omega⟩
        rw [gr_f z]
        exact ⟨fun h9 => absurd h9 z, fun _ => hR.2 z⟩
    · have ep : pd = [] := hp0 (by omega)
      subst ep
      have hs1 : stL 0 ws := (hd_2 (Or.inl rfl)).mp hhd
      rw [List.nil_append] at h hcd
      have hmu'' : 5 * (401 - c.1) + 3 ≤ m + 1 := hmu'
      have hwl' : ws.length ≤ 3 * o + 0 := hwl
      show mxR d n 23 I J tok T ws o cd hi c 2 [] _
      have hR : mxR d n 23 I J tok T ws o cd hi c 1 [] (gr tok m 1 o c) := ih 1 o cd n c ws [] I (by omega) ho ⟨by omega, fun _ => by show 5 * (401 - c.1) + 2 ≤ m; omega⟩ e (fun _ => rfl) ((pd_1 (Or.inl rfl)).mpr ⟨trivial, by show 0 ≤ 1; omega⟩) ((hd_1 (Or.inl rfl)).mpr (st_01 hs1)) (fun h9 => absurd h9 (by omega)) h (by show ws.length ≤ 3 * o + 1; omega) hcd hn
      have g0 := gr_p hT hV m 1 o c (by omega) h1 h2
      rw [gr_2 e]
      generalize gr tok m 1 o c = r0 at hR g0 ⊢
      by_cases z : r0.2.2 = 0
      · obtain ⟨I1, n1, pd1, es1, b1, b2, b3, b4, b5, b6, b7⟩ := hR.1 z
        obtain ⟨p1, l1⟩ := (pd_1 (Or.inl rfl)).mp b4
        have hlen : es1.length + pd1.length = r0.1.length := by
          have := congrArg List.length b7
          rw [List.length_append, map_len] at this
          exact this
        obtain ⟨-, q2, q3, -, q5, -⟩ := g0.2.2 z
        have q2' := q2 (by omega)
        have g3 := gr_p hT hV m 4 o r0.2 (by omega) g0.1.1 g0.1.2
        have hR2 : mxR d n1 96 I1 J tok T ws o (cd + es1.length) hi r0.2 4 pd1 (gr tok m 4 o r0.2) := ih 4 o (cd + es1.length) n1 r0.2 ws pd1 I1 (by omega) ho ⟨by omega, fun _ => by show 5 * (401 - r0.2.1) + 1 ≤ m; omega⟩ z (fun h9 => absurd h9 (by omega)) ((pd_2 (Or.inr rfl)).mpr ⟨go_10 p1, by omega⟩) ((hd_2 (Or.inr rfl)).mpr hs1) (fun _ => q5 (Or.inl rfl)) b5 hwl (by rw [nsg_app, nsg_go (go_10 p1)]; omega) (by omega)
        exact mxR_go b1 g0.2.1 b2 b3 b6 (l := r0.1) b7 hR2 g3.2.1 rfl rfl (fun p h9 => (pd_2 (Or.inl rfl)).mpr ((pd_2 (Or.inr rfl)).mp h9))
      · obtain ⟨m, rfl⟩ : ∃ z, m = z + 1 := ⟨m - 1, by omega⟩
        rw [gr_f z]
        exact ⟨fun h9 => absurd h9 z, fun _ => hR.2 z⟩
    · obtain ⟨hg1, hl1⟩ := (pd_1 (Or.inr rfl)).mp hpd
      have hs1 : stL 1 ws := (hd_1 (Or.inr rfl)).mp hhd
      have hmu'' : 5 * (401 - c.1) + 1 ≤ m + 1 := hmu'
      have hwl' : ws.length ≤ 3 * o + 1 := hwl
      show mxR d n 96 I J tok T ws o cd hi c 3 pd _
      by_cases ks : (tok c.1).1 = 42 ∨ (tok c.1).1 = 47
      · have sab := hid.mk (sgn_step (d := d) (n := n) (hi := hi) (k := (tok c.1).1) (a := 1) hd hT hh h e rfl (Or.inl ⟨ks, rfl⟩) hg1 hs1 (by omega) (by omega) (by omega) (by omega))
        have g1 : ((tkS tok (tok c.1).1 c).1 < T ∧ (tkS tok (tok c.1).1 c).2 < 3) := tkS_lt hT (by omega) (by omega) h1 h2
        have g0 := gr_p hT hV m 0 o (tkS tok (tok c.1).1 c) (by omega) g1.1 g1.2
        rw [gr_3 e ks]
        by_cases f : (tkS tok (tok c.1).1 c).2 = 0
        · obtain ⟨y1, y2, y3, y4⟩ := tk_z f
          obtain ⟨I1, n1, a1, a2, a3, a4, a5⟩ := (hid.out sab).1 f
          have nk : nsg ((tok c.1).1 :: ws) = 1 + nsg ws := by show (if (tok c.1).1 = 40 then 0 else 1) + nsg ws = _; rw [if_neg (by omega)]
          have hR : mxR d n1 23 I1 J tok T ((tok c.1).1 :: ws) o (cd + pd.length) hi (tkS tok (tok c.1).1 c) 0 [] (gr tok m 0 o (tkS tok (tok c.1).1 c)) := ih 0 o (cd + pd.length) n1 (tkS tok (tok c.1).1 c) ((tok c.1).1 :: ws) [] I1 (by omega) ho ⟨by omega, fun _ => by rw [y4]; show 5 * (401 - (c.1 + 1)) + 1 ≤ m; omega⟩ f (fun _ => rfl) (pd_0.mpr rfl) trivial (fun h9 => absurd h9 (by omega)) a4 (by show ws.length + 1 ≤ 3 * o + 2; omega) (by rw [List.nil_append, nk, y4]; show cd + pd.length + (1 + nsg ws) ≤ B + (c.1 + 1); omega) (by rw [y4]; show 8 * (402 - (c.1 + 1)) ≤ n1; omega)
          rw [y4] at hR g0
          rw [y4]
          generalize gr tok m 0 o (c.1 + 1, 0) = r0 at hR g0 ⊢
          have g01 : c.1 + 1 ≤ r0.2.1 := g0.2.1
          by_cases z : r0.2.2 = 0
          · obtain ⟨I2, n2, pd2, es2, b1, b2, b3, b4, b5, b6, b7⟩ := hR.1 z
            have ep : pd2 = [] := pd_0.mp b4
            subst ep
            have e7 : es2 = r0.1 := by
              have h9 : es2 ++ [] = r0.1 := b7
              rw [List.append_nil] at h9; exact h9
            obtain ⟨-, q2, q3, -⟩ := g0.2.2 z
            have q2' : c.1 + 1 < r0.2.1 := q2 (by omega)
            have q3' : c.1 + 1 + r0.1.length ≤ r0.2.1 := q3
            have b2' : n1 ≤ n2 + 8 * (r0.2.1 - (c.1 + 1)) := b2
            have hlen : es2.length = r0.1.length := by rw [e7]
            have g3 := gr_p hT hV m 3 o r0.2 (by omega) g0.1.1 g0.1.2
            have el : cd + (pd.map sgO ++ es2).length = cd + pd.length + es2.length := by rw [List.length_append, map_len]; omega
            have hR2 : mxR d n2 96 I2 J tok T ws o (cd + (pd.map sgO ++ es2).length) hi r0.2 3 [(tok c.1).1] (gr tok m 3 o r0.2) := by
              rw [el]
              exact ih 3 o (cd + pd.length + es2.length) n2 r0.2 ws [(tok c.1).1] I2 (by omega) ho ⟨by omega, fun _ => by show 5 * (401 - r0.2.1) + 1 ≤ m; omega⟩ z (fun h9 => absurd h9 (by omega)) ((pd_1 (Or.inr rfl)).mpr ⟨⟨⟨by unfold isW; omega, fun h9 => by unfold stW at h9; omega⟩, trivial⟩, Nat.le_refl _⟩) ((hd_1 (Or.inr rfl)).mpr hs1) (fun h9 => absurd h9 (by omega)) b5 hwl (by show cd + pd.length + es2.length + nsg ((tok c.1).1 :: ws) ≤ B + r0.2.1; rw [nk]; omega) (by omega)
            refine mxR_go (a1.trans b1) (by omega) (by omega) (a3.tr b3 (by omega)) (atR_app _ _ _ (atR_cg _ _ (fun j _ hj => b3.2.2 j (Or.inl (by rw [map_len] at hj; exact hj))) a5) (by rw [map_len]; exact b6)) rfl hR2 g3.2.1 ?_ rfl (fun p h9 => h9)
            rw [e7, List.append_assoc, List.append_assoc]; rfl
          · obtain ⟨m, rfl⟩ : ∃ z, m = z + 1 := ⟨m - 1, by omega⟩
            rw [gr_f z]
            refine ⟨fun h9 => absurd h9 z, fun _ => ?_⟩
            obtain ⟨I2, b1, b2⟩ := hR.2 z
            exact ⟨I2, a1.trans b1, edM.tr a3 b2 (by omega)⟩
        · obtain ⟨m, rfl⟩ : ∃ z, m = z + 1 := ⟨m - 1, by omega⟩
          rw [gr_f f, gr_f f]
          exact ⟨fun h9 => absurd h9 f, fun _ => (hid.out sab).2 f⟩
      · rw [gr_3n e ks]
        refine ⟨fun _ => ⟨I, n, pd, [], rfl, by omega, kM.rf, hpd, h, trivial, (List.append_nil _).symm⟩, fun h9 => absurd e h9⟩
    · obtain ⟨hg1, hl1⟩ := (pd_2 (Or.inr rfl)).mp hpd
      have hs1 : stL 0 ws := (hd_2 (Or.inr rfl)).mp hhd
      have hmu'' : 5 * (401 - c.1) + 1 ≤ m + 1 := hmu'
      have hwl' : ws.length ≤ 3 * o + 0 := hwl
      show mxR d n 96 I J tok T ws o cd hi c 4 pd _
      by_cases ks : (tok c.1).1 = 43 ∨ (tok c.1).1 = 45
      · have sab := hid.mk (sgn_step (d := d) (n := n) (hi := hi) (k := (tok c.1).1) (a := 0) hd hT hh h e rfl (Or.inr ⟨ks, rfl⟩) hg1 hs1 (by omega) (by omega) (by omega) (by omega))
        have g1 : ((tkS tok (tok c.1).1 c).1 < T ∧ (tkS tok (tok c.1).1 c).2 < 3) := tkS_lt hT (by omega) (by omega) h1 h2
        have g0 := gr_p hT hV m 1 o (tkS tok (tok c.1).1 c) (by omega) g1.1 g1.2
        rw [gr_4 e ks]
        by_cases f : (tkS tok (tok c.1).1 c).2 = 0
        · obtain ⟨y1, y2, y3, y4⟩ := tk_z f
          obtain ⟨I1, n1, a1, a2, a3, a4, a5⟩ := (hid.out sab).1 f
          have nk : nsg ((tok c.1).1 :: ws) = 1 + nsg ws := by show (if (tok c.1).1 = 40 then 0 else 1) + nsg ws = _; rw [if_neg (by omega)]
          have hR : mxR d n1 23 I1 J tok T ((tok c.1).1 :: ws) o (cd + pd.length) hi (tkS tok (tok c.1).1 c) 1 [] (gr tok m 1 o (tkS tok (tok c.1).1 c)) := ih 1 o (cd + pd.length) n1 (tkS tok (tok c.1).1 c) ((tok c.1).1 :: ws) [] I1 (by omega) ho ⟨by omega, fun _ => by rw [y4]; show 5 * (401 - (c.1 + 1)) + 2 ≤ m; omega⟩ f (fun _ => rfl) ((pd_1 (Or.inl rfl)).mpr ⟨trivial, by show 0 ≤ 1; omega⟩) ((hd_1 (Or.inl rfl)).mpr (Or.inr ⟨by decide, ks⟩)) (fun h9 => absurd h9 (by omega)) a4 (by show ws.length + 1 ≤ 3 * o + 1; omega) (by rw [List.nil_append, nk, y4]; show cd + pd.length + (1 + nsg ws) ≤ B + (c.1 + 1); omega) (by rw [y4]; show 8 * (402 - (c.1 + 1)) ≤ n1; omega)
          rw [y4] at hR g0
          rw [y4]
          generalize gr tok m 1 o (c.1 + 1, 0) = r0 at hR g0 ⊢
          have g01 : c.1 + 1 ≤ r0.2.1 := g0.2.1
          by_cases z : r0.2.2 = 0
          · obtain ⟨I2, n2, pd2, es2, b1, b2, b3, b4, b5, b6, b7⟩ := hR.1 z
            obtain ⟨p2, l2⟩ := (pd_1 (Or.inl rfl)).mp b4
            have hlen : es2.length + pd2.length = r0.1.length := by
              have := congrArg List.length b7
              rw [List.length_append, map_len] at this
              exact this
            obtain ⟨-, q2, q3, -, q5, -⟩ := g0.2.2 z
            have q2' : c.1 + 1 < r0.2.1 := q2 (by omega)
            have q3' : c.1 + 1 + r0.1.length ≤ r0.2.1 := q3
            have b2' : n1 ≤ n2 + 8 * (r0.2.1 - (c.1 + 1)) := b2
            have g3 := gr_p hT hV m 4 o r0.2 (by omega) g0.1.1 g0.1.2
            have el : cd + (pd.map sgO ++ es2).length = cd + pd.length + es2.length := by rw [List.length_append, map_len]; omega
            have ea : (pd2 ++ [(tok c.1).1]) ++ ws = pd2 ++ (tok c.1).1 :: ws := by rw [List.append_assoc]; rfl
            have hR2 : mxR d n2 96 I2 J tok T ws o (cd + (pd.map sgO ++ es2).length) hi r0.2 4 (pd2 ++ [(tok c.1).1]) (gr tok m 4 o r0.2) := by
              rw [el]
              exact ih 4 o (cd + pd.length + es2.length) n2 r0.2 ws (pd2 ++ [(tok c.1).1]) I2 (by omega) ho ⟨by omega, fun _ => by show 5 * (401 - r0.2.1) + 1 ≤ m; omega⟩ z (fun h9 => absurd h9 (by omega)) ((pd_2 (Or.inr rfl)).mpr ⟨go_app (go_10 p2) ⟨⟨by unfold isW; omega, fun h9 => h9.elim (fun h8 => by omega) (fun h8 => h8.1 rfl)⟩, trivial⟩, by rw [List.length_append]; show pd2.length + 1 ≤ 2; omega⟩) ((hd_2 (Or.inr rfl)).mpr hs1) (fun _ => q5 (Or.inl rfl)) (by rw [ea]; exact b5) hwl (by rw [ea, nsg_app, nk, nsg_go (go_10 p2)]; omega) (by omega)
            refine mxR_go (a1.trans b1) (by omega) (by omega) (a3.tr b3 (by omega)) (atR_app _ _ _ (atR_cg _ _ (fun j _ hj => b3.2.2 j (Or.inl (by rw [map_len] at hj; exact hj))) a5) (by rw [map_len]; exact b6)) rfl hR2 g3.2.1 ?_ rfl (fun p h9 => h9)
            have b7' : es2 ++ pd2.map sgO = r0.1 := b7
            rw [← b7', List.map_append]
            simp only [List.append_assoc, List.map_cons, List.map_nil, List.cons_append, List.nil_append]
          · obtain ⟨m, rfl⟩ : ∃ z, m = z + 1 := ⟨m - 1, by omega⟩
            rw [gr_f z]
            refine ⟨fun h9 => absurd h9 z, fun _ => ?_⟩
            obtain ⟨I2, b1, b2⟩ := hR.2 z
            exact ⟨I2, a1.trans b1, edM.tr a3 b2 (by omega)⟩
        · obtain ⟨m, rfl⟩ : ∃ z, m = z + 1 := ⟨m - 1, by omega⟩
          rw [gr_f f, gr_f f]
          exact ⟨fun h9 => absurd h9 f, fun _ => (hid.out sab).2 f⟩
      · rw [gr_4n e ks]
        refine ⟨fun _ => ⟨I, n, pd, [], rfl, by omega, kM.rf, hpd, h, trivial, (List.append_nil _).symm⟩, fun h9 => absurd e h9⟩
/-- a whole expression -/
def fuG : Nat := 2100
def sumG (tok : Nat → TK) (c : Nat × Nat) : List Op × (Nat × Nat) := gr tok fuG 2 0 c
theorem ev_expression (hd : 4 ≤ d) (hT : TKS tok T) (hV : TKV tok T) {I : Nat → Nat → Int32} {B hi cd : Nat} {c : Nat × Nat} (hB : hi = B + 420) (hh : hi ≤ 840) (cu : cuM I J tok T c) (hc : c.2 = 0) (e12 : I 192 12 = nI 0) (e46 : I 192 46 = nI cd) (hcd : cd ≤ B + c.1) :
    ∃ I', EV d T0 200 [.ref 192] (I, J) = some (none, (I', J)) ∧ kM I I' cd hi ∧ ((sumG tok c).2.2 = 0 → cuM I' J tok T (sumG tok c).2 ∧ I' 192 12 = nI 0 ∧ I' 192 46 = nI (cd + (sumG tok c).1.length) ∧ atR (I' 224) (I' 225) cd (sumG tok c).1) ∧ ((sumG tok c).2.2 ≠ 0 → cuF I' tok (sumG tok c).2 ∧ ∃ cd', I' 192 46 = nI cd' ∧ cd' ≤ hi) := by
  obtain ⟨d, rfl⟩ : ∃ z, d = z + 1 := ⟨d - 1, by omega⟩
  have hTT := hT.2.1
  have h1 := cu.2.2.2.1
  have x1 : kp [192] I (p_wr I 192 50 0) := kp.rf.wr (by decide)
  have f1 : ∀ j, j ≠ 50 → p_wr I 192 50 0 192 j = I 192 j := fun j hj => by rw [wr_eq, pk_un hj]
  have cu1 : cuM (p_wr I 192 50 0) J tok T c := cu.go x1 (by decide) (f1 11 (by decide)) (f1 13 (by decide)) (f1 14 (by decide))
  have km1 : kM I (p_wr I 192 50 0) cd hi := kM_o x1 (fun j hj => f1 j (fun e => hj (by rw [e]; decide)))
  have hs : mxS (p_wr I 192 50 0) J tok T ([] ++ []) 0 cd c := ⟨cu1, (f1 12 (by decide)).trans e12, (f1 46 (by decide)).trans e46, by rw [wr_eq, pk_us]; rfl, trivial⟩
  have hR : mxR d 999998 23 (p_wr I 192 50 0) J tok T [] 0 cd hi c 2 [] (gr tok fuG 2 0 c) := mx_all (by omega) hT hV hB hh fuG 2 0 cd 999998 c [] [] _ (by omega) (by omega) ⟨by show 1 ≤ 2100; omega, fun _ => by show 5 * (401 - c.1) + 3 ≤ 2100; omega⟩ hc (fun _ => rfl) ((pd_2 (Or.inl rfl)).mpr ⟨trivial, by show 0 ≤ 2; omega⟩) ((hd_2 (Or.inl rfl)).mpr trivial) (fun h9 => absurd h9 (by omega)) hs (by show 0 ≤ _; omega) (by show cd + 0 ≤ B + c.1; omega) (by omega)
  have g2 := gr_p hT hV fuG 2 0 c (by omega) h1 cu.2.2.2.2.1
  have hgo : EV (d + 1) T0 200 [.ref 192] (I, J) = exP d 999998 23 (p_wr I 192 50 0) J := by
    rw [e_X12_expression, runS_M, s_X12_expression_0, show (999999 : Nat) = 999998 + 1 from rfl, runS_s, s_X12_expression_12, if_neg (by decide), if_pos (by rw [f1 13 (by decide), cu.2.1, hc]; rfl), e12]; rfl
  rw [hgo]
  show ∃ I', _ ∧ _ ∧ ((gr tok fuG 2 0 c).2.2 = 0 → _) ∧ ((gr tok fuG 2 0 c).2.2 ≠ 0 → _)
  unfold sumG
  generalize gr tok fuG 2 0 c = r at hR g2 ⊢
  by_cases z : r.2.2 = 0
  · obtain ⟨I2, n2, pd2, es2, b1, b2, b3, b4, b5, b6, b7⟩ := hR.1 z
    obtain ⟨p2, l2⟩ := (pd_2 (Or.inl rfl)).mp b4
    obtain ⟨-, -, gl, -, gs4, -, gs3⟩ := g2.2.2 z
    have hrT := g2.1.1
    have hlen : es2.length + pd2.length = r.1.length := by
      have := congrArg List.length b7
      rw [List.length_append, map_len] at this
      exact this
    obtain ⟨cu2, k12, k46, k50, kw⟩ := b5
    obtain ⟨I3, u1, u2, u3, u4, u5, u6, u7⟩ := ev_out (d := d) (I := I2) (J := J) (by omega) hh p2 (show stL 0 [] from trivial) k46 (by omega) k50 kw (by rw [List.append_nil]; omega)
    obtain ⟨n2, rfl⟩ : ∃ z, n2 = z + 1 + 1 + 1 + 1 := ⟨n2 - 4, by omega⟩
    refine ⟨I3, ?_, (km1.tr b3 (Nat.le_refl _)).tr u3 (by omega), fun _ => ⟨cu2.go u2 (by decide) (u4 11 (by decide) (by decide)) (u4 13 (by decide) (by decide)) (u4 14 (by decide) (by decide)), (u4 12 (by decide) (by decide)).trans k12, ?_, ?_⟩, fun h9 => absurd z h9⟩
    · rw [b1, ns_step (n := n2 + 1) (by omega) hT cu2 k12 (by omega) (gs4 (Or.inr (Or.inl rfl))) (gs3 (Or.inl rfl)) (Or.inr rfl), runS_s, s_X12_expression_186, if_pos rfl, k12, if_pos (by decide), u1, p_cv_s]; rfl
    · rw [u5]; congr 1; omega
    · have b7' : es2 ++ pd2.map sgO = r.1 := b7
      rw [← b7']
      exact atR_app _ _ _ (atR_cg _ _ (fun j _ hj => u3.2.2 j (Or.inl hj)) b6) u7
  · obtain ⟨I2, b1, b2⟩ := hR.2 z
    exact ⟨I2, b1, km1.tr b2.1 (Nat.le_refl _), fun h9 => absurd h9 z, fun _ => b2.2⟩
end SG
