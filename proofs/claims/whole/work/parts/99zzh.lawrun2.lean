theorem law_run {p : Program} {l : Launch} {e : Env} {s : State} {m : MethodId} {args : Array Value} {below : List Frame} {meth : Method} {c : Code} {Q : State → Prop} {D : va_G} {aT : Nat → ClassId} {ad : Nat → Nat} {N : Nat} {xs : Nat → Int32}
    (hx : p.tables.exec = Jvm.exec) (hb : c.code = code) (hml : c.maxLocals = 4) (hown : s.vm.findClass "SewnRoadsLaw" = some m.cls) (hts : ∀ w ∈ gtb, w.before args s = true) (hK : va_K D vwCl (p_tys aT) s) (hN : ∀ w ∈ nws, va_Nw w s) (hG : SG ad (fun q => s.heap.size ≤ q) s s.heap) (hAO : va_AO "SewnRoads$State" s)
    (hX : va_X (ad 100000) N xs s s.heap) (hbl : ad 100000 < s.heap.size) (hL : N ≤ 3072)
    (hret : ∀ (pc : Nat) (H : Heap) (locs : List Loc) (cells slots : Nat) (ls : Array Slot), decode code pc = .ok (.ireturn, 1) → va_S (fun q => s.heap.size ≤ q) s.heap H locs → cells ≤ 600000 → slots ≤ 7302250 → W p l e room_1 s m args below meth c H locs cells slots Q (F0 m pc ls [.int 1])) :
    W p l e room_1 s m args below meth c s.heap [] 0 0 Q (entryFrame m (([Value.ref 100000] : List Value).map (sv ad)).toArray 4) := by
  have st1 : ∀ {T : PT} {pc pc' : Nat} {L L' st st' : List Value} {ij ij' : IJ} (E : PE), C_L_law pc = some E → T.1 ≤ 600000 → T.2.1 ≤ 7302250 → stpS (fun _ _ _ _ => none) none 4 T E L st ij (fun pc L st ij => some (pc, L, st, ij)) (fun _ _ => none) = some (pc', L', st', ij') →
      GW (fun H locs cells slots g => W p l e room_1 s m args below meth c H locs cells slots Q g) m (p_ok D aT (fun q => s.heap.size ≤ q) s.heap ad 0 0) pc' L' st' T ij' → GW (fun H locs cells slots g => W p l e room_1 s m args below meth c H locs cells slots Q g) m (p_ok D aT (fun q => s.heap.size ≤ q) s.heap ad 0 0) pc L st T ij := by
    intro T pc pc' L L' st st' ij ij' E hE h1 h2 h hg
    refine stpS_sound (o := 13) (O := fun _ _ _ _ => none) (X := none) (d := 12) hx hb hml hown hts hK hN hG rfl (fun X' hX' => by cases hX') (fun q hq => hq) ⟨by decide, by decide⟩ ⟨by show T.1 ≤ 0 + 600000; omega, by show T.2.1 ≤ 0 + 7302250; omega⟩ (fun y as ij r0 h0 => by cases h0) (ck_L_law pc E hE) h (fun pc2 L2 st2 ij2 hk => ?_) (fun v ij2 hv => by cases hv)
    cases hk
    exact hg
  /- the loop -/
  have hrt : ∀ v ij', rtW v ij' = some () → RWr (fun H locs cells slots g => W p l e room_1 s m args below meth c H locs cells slots Q g) m code (p_ok D aT (fun q => s.heap.size ≤ q) s.heap ad 0 0) T0 v ij' := by
    intro v ij' hv pc hdec ad' H' locs' cells' slots' ls' hok
    unfold rtW at hv
    split at hv
    · rename_i x
      by_cases c1 : x = 1
      · subst c1
        have a1 : cells' + 0 = 243 := hok.2.2.2.2.1
        have a2 : slots' + 0 = 18462 := hok.2.2.2.2.2.1
        exact hret pc H' locs' cells' slots' ls' hdec hok.2.2.2.1 (by omega) (by omega)
      · rw [if_neg c1] at hv; cases hv
    · cases hv
  have loop : ∀ ij : IJ, ckV ij = true → GW (fun H locs cells slots g => W p l e room_1 s m args below meth c H locs cells slots Q g) m (p_ok D aT (fun q => s.heap.size ≤ q) s.heap ad 0 0) 16 L2w [] T0 ij := by
    intro ij hv
    obtain ⟨I, J⟩ := ij
    have hrun : runS (EV 40) (some (N, xs)) 4 T0 C_L_law k_L_law rtW f_L_law (3 * (N + 1) + 1 + 1) 16 L2w [] (I, J) = some () := by
      rw [runS_s]
      show blkS _ _ _ _ _ _ _ _ _ _ [.ref 100000, .ref 0, .ref 192, un] _ _ = _
      rw [s_L_law_16]
      exact lp_law (xs := xs) (d := 40) (by omega) hL (N + 1) 0 (3 * (N + 1) + 1) I J (by omega) (by omega) (by omega) (INV_0 hv)
    exact run_sound (o := 13) (X := some (N, xs)) (d := 40) hx hb hml hown hts hK hN hG rfl (fun X' hX' => by cases hX'; exact ⟨hX, hbl, fun h9 => absurd h9 (by omega), by show N < 100000; omega⟩) (fun q hq => hq) ⟨by decide, by decide⟩ ⟨by decide, by decide⟩ (fun y as ij r0 h0 => ev_sound 40 y as ij r0 h0) ck_L_law hrt _ 16 _ _ _ hrun
  have fin : ∀ (T : PT) (ij : IJ), p_bif (ckW T && ckV ij) (some ()) none = some () → GW (fun H locs cells slots g => W p l e room_1 s m args below meth c H locs cells slots Q g) m (p_ok D aT (fun q => s.heap.size ≤ q) s.heap ad 0 0) 16 L2w [] T ij := by
    intro T ij h
    have hh : ckW T = true ∧ ckV ij = true := by
      cases hb9 : (ckW T && ckV ij) with
      | true => exact (Bool.and_eq_true _ _).mp hb9
      | false => rw [hb9] at h; cases h
    obtain ⟨h1, h2⟩ := hh
    obtain ⟨w1, w2, -⟩ := ckW_1 h1
    intro ad' H locs cells slots ls ho hl
    exact loop ij h2 ad' H locs cells slots ls ⟨P_T0 h1 ho.1, D_T0 h1 ho.2.1, fun k j => t_rf_le k j, ho.2.2.2.1, ho.2.2.2.2.1.trans w1, ho.2.2.2.2.2.1.trans w2, ho.2.2.2.2.2.2⟩ hl
  have lk1 : iF 119 ∧ mP 119 (1 - 1) ∧ (Cond.methodLink "SewnRoadsLaw" 9 (mN 119) ∈ gtb ∨ ∃ host, Cond.methodLinkNest "SewnRoadsLaw" 9 (mN 119) host ∈ nws) := ⟨iF_at (i := 11) rfl, rfl, Or.inl lk_ini1⟩
  have lk2 : iF 166 ∧ mP 166 (1 - 1) ∧ (Cond.methodLink "SewnRoadsLaw" 12 (mN 166) ∈ gtb ∨ ∃ host, Cond.methodLinkNest "SewnRoadsLaw" 12 (mN 166) host ∈ nws) := ⟨iF_at (i := 12) rfl, rfl, Or.inl lk_ini2⟩
  have h := law1_t
  unfold law1 at h
  have g0 : GW (fun H locs cells slots g => W p l e room_1 s m args below meth c H locs cells slots Q g) m (p_ok D aT (fun q => s.heap.size ≤ q) s.heap ad 0 0) 0 L0w [] TE jE := by
    refine g_mk (pre := []) (E := .inr (11, p_dfl 11 13)) (lim := lmW) (fun _ => rfl) (Nat.le_refl _) (Nat.le_refl _) ⟨rfl, rfl⟩ (cell_obj (by omega)) (fun H locs cells slots ls rest ws hP hD hS h1 h2 _ kk => row_new (own := "SewnRoadsLaw") (ci := 11) hx hb hown hts hK (fun q hq => hq) (by decide) lk_new1 dl_0 H locs cells slots ls rest ws hP hD hS h1 h2 kk) h (fun T1 ij1 hh hT1 _ l1 l2 => ?_)
    refine st1 (pc' := 4) (L' := L0w) (st' := [.ref 0, .ref 0]) (ij' := ij1) (.dup, 4, 0, 0, 0, []) rfl l1 l2 rfl ?_
    refine g_spc (OD := EVD 12) (d := 12) (a := 119) (b := 1) (idx := 9) (own := "SewnRoadsLaw") (lim := lmW) hx hb hml hown hts hK hN hG hAO (fun q hq => hq) ⟨by decide, by decide⟩ ⟨rfl, rfl⟩ (Nat.zero_le _) (fun y as T ij T' ij' h0 => evd_sound 12 y as T ij T' ij' h0) (fun h9 => absurd h9 (by decide)) (fun _ => lk1) dl_4 hh (fun st2 T2 ij2 hh2 m1 m2 _ _ => ?_)
    have m1' : T2.1 ≤ 600000 := by
      rcases m1 with q | q
      · exact q
      · rw [q]; exact l1
    have m2' : T2.2.1 ≤ 7302250 := by
      rcases m2 with q | q
      · exact q
      · rw [q]; exact l2
    obtain ⟨es, hh2b⟩ := stk1_s hh2
    clear hh2
    subst es
    have hh2 := hh2b
    rw [p_bif_dec] at hh2
    split at hh2
    · rename_i e192
      refine st1 (pc' := 8) (L' := L1w) (st' := []) (ij' := ij2) (.astore_n 1, 8, 0, 0, 0, []) rfl m1' m2' rfl ?_
      refine g_mk (pre := []) (E := .inr (12, p_dfl 12 72)) (lim := lmW) (fun _ => rfl) (Nat.zero_le _) (Nat.zero_le _) ⟨rfl, rfl⟩ (cell_obj (by omega)) (fun H locs cells slots ls rest ws hP hD hS h1 h2 _ kk => row_new (own := "SewnRoadsLaw") (ci := 12) hx hb hown hts hK (fun q hq => hq) (by decide) lk_new2 dl_8 H locs cells slots ls rest ws hP hD hS h1 h2 kk) hh2 (fun T3 ij3 hh3 hT3 _ l3 l4 => ?_)
      rw [e192]
      refine st1 (pc' := 12) (L' := L1w) (st' := [.ref 192, .ref 192]) (ij' := ij3) (.dup, 12, 0, 0, 0, []) rfl l3 l4 rfl ?_
      refine g_spc (OD := EVD 12) (d := 12) (a := 166) (b := 1) (idx := 12) (own := "SewnRoadsLaw") (lim := lmW) hx hb hml hown hts hK hN hG hAO (fun q hq => hq) ⟨by decide, by decide⟩ ⟨rfl, rfl⟩ (Nat.zero_le _) (fun y as T ij T' ij' h0 => evd_sound 12 y as T ij T' ij' h0) (fun h9 => absurd h9 (by decide)) (fun _ => lk2) dl_12 hh3 (fun st4 T4 ij4 hh4 n1 n2 _ _ => ?_)
      have n1' : T4.1 ≤ 600000 := by
        rcases n1 with q | q
        · exact q
        · rw [q]; exact l3
      have n2' : T4.2.1 ≤ 7302250 := by
        rcases n2 with q | q
        · exact q
        · rw [q]; exact l4
      obtain ⟨es, hh4b⟩ := stk1_s hh4
      clear hh4
      subst es
      refine st1 (pc' := 16) (L' := L2w) (st' := []) (ij' := ij4) (.astore_n 2, 16, 0, 0, 0, []) rfl n1' n2' rfl ?_
      exact fin T4 ij4 hh4b
    · cases hh2
  rw [lg_entry_eq]
  exact g0 ad s.heap [] 0 0 _ ⟨fun k q hq => (by cases hq), ⟨fun i j p q hp hq _ => (by cases hp), fun k q hq => (by cases hq)⟩, fun _ _ => Nat.le_refl _, va_S.rf, rfl, rfl, fun _ _ => rfl⟩ (init_has (as := [Value.ref 100000]) (n := 4) (by decide))
