/-! ===== the world behind the constructors is T0, and all holds there with an empty plan ===== -/
section TF1
theorem ite_le {c : Prop} [Decidable c] {a b n : Nat} (ha : a ≤ n) (hb : b ≤ n) : (if c then a else b) ≤ n := by
  by_cases h : c
  · rw [if_pos h]; exact ha
  · rw [if_neg h]; exact hb
set_option maxRecDepth 100000 in
set_option maxHeartbeats 4000000 in
theorem t_rf_le (k j : Nat) : t_rf k j ≤ 243 := by
  unfold t_rf
  repeat' (first | apply ite_le | exact Nat.le_of_ble_eq_true rfl)
theorem arr_cg {cA : ClassId} {n : Nat} {f g : Nat → Value} (h : ∀ j, j < n → f j = g j) : arrV cA n f = arrV cA n g := by
  unfold arrV
  have e : (fun j : Fin n => f j.val) = fun j : Fin n => g j.val := funext (fun j => h j.val j.isLt)
  rw [e]
theorem ckW_1 {T : PT} (h : ckW T = true) : T.1 = 243 ∧ T.2.1 = 18462 ∧ ∀ k, k < 243 → ckK T k = true := by
  unfold ckW at h
  rw [Bool.and_eq_true, Bool.and_eq_true] at h
  exact ⟨Nat.eq_of_beq_eq_true h.1, Nat.eq_of_beq_eq_true h.2.1, fun k hk => List.all_eq_true.mp h.2.2 k (List.mem_range.mpr hk)⟩
theorem P_T0 {D : va_G} {aT : Nat → ClassId} {ad : Nat → Nat} {T : PT} {ij : IJ} {H : Heap} (h : ckW T = true) (hP : va_P D vwCl (p_ws aT ad T ij) H) : va_P D vwCl (p_ws aT ad T0 ij) H := by
  obtain ⟨h1, h2, h3⟩ := ckW_1 h
  intro k q hq
  by_cases hk : k < 243
  · rw [ws_get (T := T0) hk] at hq
    obtain rfl := Option.some.inj hq
    have p := hP k _ (ws_get (by rw [h1]; exact hk))
    have c := h3 k hk
    unfold ckK at c
    rw [Bool.and_eq_true] at c
    have c1 := of_decide_eq_true c.1
    have c2 : ∀ j, j < (t_sh k).2 → _ := fun j hj => List.all_eq_true.mp c.2 j (List.mem_range.mpr hj)
    have t0 : T0.2.2.1 k = t_sh k := rfl
    unfold p_cell at p ⊢
    rw [c1] at p
    rw [t0]
    by_cases d1 : (t_sh k).1 < 100
    · rw [if_pos d1] at p ⊢
      have e : p_obj ad T ij k (t_sh k).1 (t_sh k).2 = p_obj ad T0 ij k (t_sh k).1 (t_sh k).2 := by
        unfold p_obj
        apply List.map_congr_left
        intro j hj
        have c3 := c2 j (List.mem_range.mp hj)
        unfold p_fv
        by_cases d2 : p_fk (t_sh k).1 j = 2
        · rw [if_pos d2, if_pos d2]
          have b1 : Nat.blt (t_sh k).1 100 = true := by rw [Nat.blt_eq]; exact d1
          have b2 : Nat.beq (p_fk (t_sh k).1 j) 2 = true := by rw [d2]; rfl
          rw [b1, b2] at c3
          have c4 : T.2.2.2 k j = t_rf k j := Nat.eq_of_beq_eq_true c3
          rw [c4]; rfl
        · rw [if_neg d2, if_neg d2]
      rw [e] at p
      exact p
    · rw [if_neg d1] at p ⊢
      by_cases d3 : (t_sh k).1 = 103
      · rw [if_pos d3] at p ⊢; exact p
      · rw [if_neg d3] at p ⊢
        by_cases d4 : (t_sh k).1 = 104
        · rw [if_pos d4] at p ⊢
          have e : ∀ j, j < (t_sh k).2 → T.2.2.2 k j = t_rf k j := fun j hj => by
            have c3 := c2 j hj
            have b1 : Nat.blt (t_sh k).1 100 = false := by rw [d4]; rfl
            have b2 : Nat.beq (t_sh k).1 104 = true := by rw [d4]; rfl
            rw [b1, b2] at c3
            exact Nat.eq_of_beq_eq_true c3
          have p' : H[ad k]? = some (arrV (aT 104) (t_sh k).2 (fun j => va_rf (p_ro ad (T.2.2.2 k j)))) := p
          show H[ad k]? = some (arrV (aT 104) (t_sh k).2 (fun j => va_rf (p_ro ad (t_rf k j))))
          rw [p', arr_cg (fun j hj => by rw [e j hj])]
        · rw [if_neg d4] at p ⊢; exact p
  · rw [ws_out (T := T0) hk] at hq
    cases hq
theorem D_T0 {A : Nat → Prop} {aT : Nat → ClassId} {ad : Nat → Nat} {T : PT} {ij : IJ} (h : ckW T = true) (hD : va_D A (p_ws aT ad T ij)) : va_D A (p_ws aT ad T0 ij) := by
  obtain ⟨h1, -, -⟩ := ckW_1 h
  have g : ∀ (i : Nat) (p : Nat × va_E), (p_ws aT ad T0 ij)[i]? = some p → ∃ p', (p_ws aT ad T ij)[i]? = some p' ∧ p'.1 = p.1 := fun i p hp => by
    by_cases hi : i < 243
    · rw [ws_get (T := T0) hi] at hp
      obtain rfl := Option.some.inj hp
      exact ⟨_, ws_get (by rw [h1]; exact hi), rfl⟩
    · rw [ws_out (T := T0) hi] at hp; cases hp
  refine ⟨fun i j p q hp hq e => ?_, fun k q hq => ?_⟩
  · obtain ⟨p', a1, a2⟩ := g i p hp
    obtain ⟨q', b1, b2⟩ := g j q hq
    exact hD.1 i j p' q' a1 b1 (by rw [a2, b2]; exact e)
  · obtain ⟨q', a1, a2⟩ := g k q hq
    rw [← a2]; exact hD.2 k q' a1
theorem INV_0 {I : Nat → Nat → Int32} {J : Nat → Nat → Int64} (h : ckV (I, J) = true) : INV I J := by
  unfold ckV at h
  rw [Bool.and_eq_true] at h
  have hv : ∀ q ∈ vS, I q.1 q.2.1 = q.2.2 := fun q hq => of_decide_eq_true (List.all_eq_true.mp h.1 q hq)
  have hj : ∀ i, i < 23 → J 22 i = kyW i ∧ J 199 i = kyW i := fun i hi => by
    have := List.all_eq_true.mp h.2 i (List.mem_range.mpr hi)
    rw [Bool.and_eq_true] at this
    exact ⟨of_decide_eq_true this.1, of_decide_eq_true this.2⟩
  have e_192_18 : I 192 18 = 0 := hv _ (List.mem_of_getElem? (i := 0) rfl)
  have e_25_0 : I 25 0 = 0 := hv _ (List.mem_of_getElem? (i := 1) rfl)
  have e_202_0 : I 202 0 = 0 := hv _ (List.mem_of_getElem? (i := 2) rfl)
  have e_25_1 : I 25 1 = 0 := hv _ (List.mem_of_getElem? (i := 3) rfl)
  have e_203_0 : I 203 0 = 0 := hv _ (List.mem_of_getElem? (i := 4) rfl)
  have e_25_3 : I 25 3 = 0 := hv _ (List.mem_of_getElem? (i := 5) rfl)
  have e_210_0 : I 210 0 = 0 := hv _ (List.mem_of_getElem? (i := 6) rfl)
  have e_25_6 : I 25 6 = 0 := hv _ (List.mem_of_getElem? (i := 7) rfl)
  have e_215_0 : I 215 0 = 0 := hv _ (List.mem_of_getElem? (i := 8) rfl)
  have e_25_7 : I 25 7 = 0 := hv _ (List.mem_of_getElem? (i := 9) rfl)
  have e_216_0 : I 216 0 = 0 := hv _ (List.mem_of_getElem? (i := 10) rfl)
  have e_39_0 : I 39 0 = 0 := hv _ (List.mem_of_getElem? (i := 11) rfl)
  have e_229_31 : I 229 31 = 0 := hv _ (List.mem_of_getElem? (i := 12) rfl)
  have e_45_1 : I 45 1 = 0 := hv _ (List.mem_of_getElem? (i := 13) rfl)
  have e_45_2 : I 45 2 = 0 := hv _ (List.mem_of_getElem? (i := 14) rfl)
  have e_192_62 : I 192 62 = 0 := hv _ (List.mem_of_getElem? (i := 15) rfl)
  have e_178_6 : I 178 6 = 0 := hv _ (List.mem_of_getElem? (i := 16) rfl)
  have e_192_65 : I 192 65 = 0 := hv _ (List.mem_of_getElem? (i := 17) rfl)
  have e_1_1 : I 1 1 = 0 := hv _ (List.mem_of_getElem? (i := 18) rfl)
  have e_25_2 : I 25 2 = 0 := hv _ (List.mem_of_getElem? (i := 19) rfl)
  have e_25_4 : I 25 4 = 0 := hv _ (List.mem_of_getElem? (i := 20) rfl)
  have e_192_2 : I 192 2 = 0 := hv _ (List.mem_of_getElem? (i := 21) rfl)
  have e_208_0 : I 208 0 = 0 := hv _ (List.mem_of_getElem? (i := 22) rfl)
  have e_209_0 : I 209 0 = 0 := hv _ (List.mem_of_getElem? (i := 23) rfl)
  have e_36_0 : I 36 0 = 65 := hv _ (List.mem_of_getElem? (i := 24) rfl)
  have e_36_1 : I 36 1 = 4 := hv _ (List.mem_of_getElem? (i := 25) rfl)
  have e_36_2 : I 36 2 = 65 := hv _ (List.mem_of_getElem? (i := 26) rfl)
  have e_36_3 : I 36 3 = 4 := hv _ (List.mem_of_getElem? (i := 27) rfl)
  have e_36_4 : I 36 4 = 1 := hv _ (List.mem_of_getElem? (i := 28) rfl)
  have e_36_5 : I 36 5 = 4 := hv _ (List.mem_of_getElem? (i := 29) rfl)
  have e_36_6 : I 36 6 = 2 := hv _ (List.mem_of_getElem? (i := 30) rfl)
  have e_36_7 : I 36 7 = 4 := hv _ (List.mem_of_getElem? (i := 31) rfl)
  have e_38_0 : I 38 0 = 0 := hv _ (List.mem_of_getElem? (i := 32) rfl)
  have e_217_0 : I 217 0 = 0 := hv _ (List.mem_of_getElem? (i := 33) rfl)
  have e_218_0 : I 218 0 = 0 := hv _ (List.mem_of_getElem? (i := 34) rfl)
  have e_38_1 : I 38 1 = 2 := hv _ (List.mem_of_getElem? (i := 35) rfl)
  have e_217_1 : I 217 1 = 0 := hv _ (List.mem_of_getElem? (i := 36) rfl)
  have e_218_1 : I 218 1 = 0 := hv _ (List.mem_of_getElem? (i := 37) rfl)
  have e_38_2 : I 38 2 = 4 := hv _ (List.mem_of_getElem? (i := 38) rfl)
  have e_217_2 : I 217 2 = 0 := hv _ (List.mem_of_getElem? (i := 39) rfl)
  have e_218_2 : I 218 2 = 0 := hv _ (List.mem_of_getElem? (i := 40) rfl)
  have e_38_3 : I 38 3 = 6 := hv _ (List.mem_of_getElem? (i := 41) rfl)
  have e_217_3 : I 217 3 = 0 := hv _ (List.mem_of_getElem? (i := 42) rfl)
  have e_218_3 : I 218 3 = 0 := hv _ (List.mem_of_getElem? (i := 43) rfl)
  have e_168_0 : I 168 0 = 0 := hv _ (List.mem_of_getElem? (i := 44) rfl)
  have e_241_0 : I 241 0 = 0 := hv _ (List.mem_of_getElem? (i := 45) rfl)
  have e_168_1 : I 168 1 = 0 := hv _ (List.mem_of_getElem? (i := 46) rfl)
  have e_241_1 : I 241 1 = 0 := hv _ (List.mem_of_getElem? (i := 47) rfl)
  have e_168_2 : I 168 2 = 0 := hv _ (List.mem_of_getElem? (i := 48) rfl)
  have e_241_2 : I 241 2 = 0 := hv _ (List.mem_of_getElem? (i := 49) rfl)
  have e_35_3 : I 35 3 = 8 := hv _ (List.mem_of_getElem? (i := 50) rfl)
  have e_39_1 : I 39 1 = 100 := hv _ (List.mem_of_getElem? (i := 51) rfl)
  have e_229_30 : I 229 30 = 100 := hv _ (List.mem_of_getElem? (i := 52) rfl)
  have e_0_12 : I 0 12 = (-1) := hv _ (List.mem_of_getElem? (i := 53) rfl)
  have e_192_17 : I 192 17 = (-1) := hv _ (List.mem_of_getElem? (i := 54) rfl)
  have hok := (PZ_of (py_D (fun _ => (0, 0, 0, 0))) rfl).2.2.2.2.1
  have n0 : (0 : Int32) = nI 0 := rfl
  have lws : lwS I 0 (xL (nwP 0 yD)) := ⟨0, 0, by omega, by omega, fun k hk => Or.inl ⟨rfl, by
    have hk4 : k = 0 ∨ k = 1 ∨ k = 2 ∨ k = 3 := by omega
    rcases hk4 with rfl | rfl | rfl | rfl
    · exact e_218_0.trans e_217_0.symm
    · exact e_218_1.trans e_217_1.symm
    · exact e_218_2.trans e_217_2.symm
    · exact e_218_3.trans e_217_3.symm⟩⟩
  have cl : PlCl (nwP 0 yD) I := by
    refine ⟨⟨Nat.zero_le _, Nat.zero_le _, Nat.zero_le _, Nat.zero_lt_two⟩, ⟨e_25_0, e_25_1, e_25_3⟩, fun i hi => absurd hi (Nat.not_lt_zero _), fun i hi => absurd hi (Nat.not_lt_zero _), fun k hk => ⟨hok k hk, ?_⟩, ⟨e_25_6, 0, Nat.zero_le _, rfl⟩, e_25_7⟩
    have hk4 : k = 0 ∨ k = 1 ∨ k = 2 ∨ k = 3 := by omega
    rcases hk4 with rfl | rfl | rfl | rfl
    · exact ⟨8, 0, e_35_3, by omega, e_38_0, ⟨⟨e_36_0, trivial⟩, e_36_1⟩, by show 0 + 2 ≤ 8; omega⟩
    · exact ⟨8, 2, e_35_3, by omega, e_38_1, ⟨⟨e_36_2, trivial⟩, e_36_3⟩, by show 2 + 2 ≤ 8; omega⟩
    · exact ⟨8, 4, e_35_3, by omega, e_38_2, ⟨⟨e_36_4, trivial⟩, e_36_5⟩, by show 4 + 2 ≤ 8; omega⟩
    · exact ⟨8, 6, e_35_3, by omega, e_38_3, ⟨⟨e_36_6, trivial⟩, e_36_7⟩, by show 6 + 2 ≤ 8; omega⟩
  have md : PlMd (nwP 0 yD) I := ⟨e_192_18, ⟨e_202_0, e_203_0, e_210_0⟩, fun i hi => absurd hi (Nat.not_lt_zero _), fun i hi => absurd hi (Nat.not_lt_zero _), fun k hk => lwS_M (by omega) lws hk, e_215_0, e_216_0⟩
  have pr := PlR_of cl md
  have oy : okY (nwP 0 yD) (yB yD) := ⟨fun c hc => absurd hc (Nat.not_lt_zero _), 100, by omega, rfl⟩
  have s3 : ∀ (k : Nat), I k 0 = 0 → I k 1 = 0 → I k 2 = 0 → ∀ s, s < 3 → I k s = 0 := fun k a b c s hs => by
    have : s = 0 ∨ s = 1 ∨ s = 2 := by omega
    rcases this with rfl | rfl | rfl
    · exact a
    · exact b
    · exact c
  refine ⟨nwP 0 yD, (yB yD, (0, fun _ => yB yD), fun _ => none, (0, fun _ => (0, 0, 0))), (0, fun _ => 0, -1, 0, 0), ⟨pr, ⟨⟨fun i hi => absurd hi (Nat.not_lt_zero _), e_39_0, fun c hc => absurd hc (Nat.not_lt_zero _), e_39_1⟩, oy, ⟨0, by omega, e_45_1, e_45_2, Nat.zero_le _, fun k hk => absurd hk (Nat.not_lt_zero _)⟩, fun s hs => s3 168 e_168_0 e_168_1 e_168_2 s hs, ⟨e_178_6, Nat.zero_le _, fun j hj => absurd hj (Nat.not_lt_zero _)⟩⟩, e_1_1, Nat.zero_le _, fun j hj => absurd hj (Nat.not_lt_zero _), e_0_12, e_25_2, e_25_4, Nat.zero_le _⟩, ⟨pr, ⟨⟨fun i hi => absurd hi (Nat.not_lt_zero _), e_229_31, fun c hc => absurd hc (Nat.not_lt_zero _), e_229_30⟩, oy, ⟨e_192_62, Nat.zero_le _, fun k hk => absurd hk (Nat.not_lt_zero _)⟩, fun s hs => s3 241 e_241_0 e_241_1 e_241_2 s hs, ⟨e_192_65, Nat.zero_le _, fun j hj => absurd hj (Nat.not_lt_zero _)⟩⟩, e_192_2, Nat.zero_le _, fun j hj => absurd hj (Nat.not_lt_zero _), e_192_17, e_208_0, e_209_0, Nat.zero_le _⟩, fun i hi => (hj i hi).1, fun i hi => (hj i hi).2, lws⟩
end TF1
