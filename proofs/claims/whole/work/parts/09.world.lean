/-! ===== the world of a pure state ===== -/
def p_rv (ad : Nat → Nat) (r : Nat) : Value := match r with
  | 0 => .null
  | r + 1 => .ref (ad r)
def p_ro (ad : Nat → Nat) (r : Nat) : Option Nat := match r with
  | 0 => none
  | r + 1 => some (ad r)
def p_fv (ad : Nat → Nat) (T : PT) (ij : IJ) (k ci j : Nat) : Value := if p_fk ci j = 2 then p_rv ad (T.2.2.2 k j) else .int (ij.1 k j)
def p_obj (ad : Nat → Nat) (T : PT) (ij : IJ) (k ci n : Nat) : List Value := (List.range n).map (p_fv ad T ij k ci)
def p_cell (aT : Nat → ClassId) (ad : Nat → Nat) (T : PT) (ij : IJ) (k : Nat) : va_E :=
  if (T.2.2.1 k).1 < 100 then .inr ((T.2.2.1 k).1, p_obj ad T ij k (T.2.2.1 k).1 (T.2.2.1 k).2)
  else if (T.2.2.1 k).1 = 103 then .inl (aT 103, (T.2.2.1 k).2, .inr (.inl (ij.2 k)))
  else if (T.2.2.1 k).1 = 104 then .inl (aT 104, (T.2.2.1 k).2, .inr (.inr (.inr (.inr (fun j => p_ro ad (T.2.2.2 k j))))))
  else .inl (aT (T.2.2.1 k).1, (T.2.2.1 k).2, .inl (ij.1 k))
def p_ws (aT : Nat → ClassId) (ad : Nat → Nat) (T : PT) (ij : IJ) : va_W := (List.range T.1).map (fun k => (ad k, p_cell aT ad T ij k))
def p_tys (aT : Nat → ClassId) : List (ClassId × FieldType) := [(aT 100, .int), (aT 101, .byte), (aT 102, .boolean), (aT 103, .long), (aT 104, .object "SewnRoads$State")]
theorem ws_get {aT : Nat → ClassId} {ad : Nat → Nat} {T : PT} {ij : IJ} {k : Nat} (h : k < T.1) : (p_ws aT ad T ij)[k]? = some (ad k, p_cell aT ad T ij k) := by
  unfold p_ws
  rw [List.getElem?_map, List.getElem?_range h]
  rfl
theorem ws_out {aT : Nat → ClassId} {ad : Nat → Nat} {T : PT} {ij : IJ} {k : Nat} (h : ¬ k < T.1) : (p_ws aT ad T ij)[k]? = none := by
  unfold p_ws
  rw [List.getElem?_map, List.getElem?_eq_none (by rw [List.length_range]; omega)]
  rfl
theorem kd_in {T : PT} {k n : Nat} (h : (p_kd T k).1 = n) (hn : n ≠ 999) : k < T.1 ∧ T.2.2.1 k = p_kd T k := by
  unfold p_kd at h ⊢
  by_cases hk : k < T.1 ∧ (T.2.2.1 k).2 < 100000
  · rw [if_pos hk] at h ⊢
    exact ⟨hk.1, rfl⟩
  · rw [if_neg hk] at h
    exact absurd h.symm hn
theorem kd_lt (T : PT) (k : Nat) : (p_kd T k).2 < 100000 := by
  unfold p_kd
  by_cases hk : k < T.1 ∧ (T.2.2.1 k).2 < 100000
  · rw [if_pos hk]; exact hk.2
  · rw [if_neg hk]; exact (by decide : 0 < 100000)
theorem ws_set {aT : Nat → ClassId} {ad : Nat → Nat} {T : PT} {ij ij' : IJ} {k : Nat} {E : va_E} (hk : k < T.1) (h1 : p_cell aT ad T ij' k = E) (h2 : ∀ j, j ≠ k → p_cell aT ad T ij' j = p_cell aT ad T ij j) : (p_ws aT ad T ij).set k (ad k, E) = p_ws aT ad T ij' := by
  apply List.ext_getElem?
  intro j
  by_cases hj : j < T.1
  · rw [ws_get hj]
    by_cases e : k = j
    · subst e
      rw [List.getElem?_set_self (by unfold p_ws; simpa using hk), h1]
    · rw [List.getElem?_set_ne e, ws_get hj, h2 j (fun q => e q.symm)]
  · rw [ws_out hj, List.getElem?_set_ne (by omega), ws_out hj]
theorem wr_ne {I : Nat → Nat → Int32} {k j : Nat} {x : Int32} {a : Nat} (h : a ≠ k) : p_wr I k j x a = I a := by unfold p_wr; rw [if_neg h]
theorem wr_eq {I : Nat → Nat → Int32} {k j : Nat} {x : Int32} : p_wr I k j x k = upd (I k) j x := by unfold p_wr; rw [if_pos rfl]
theorem wrJ_ne {I : Nat → Nat → Int64} {k j : Nat} {x : Int64} {a : Nat} (h : a ≠ k) : p_wrJ I k j x a = I a := by unfold p_wrJ; rw [if_neg h]
theorem wrJ_eq {I : Nat → Nat → Int64} {k j : Nat} {x : Int64} : p_wrJ I k j x k = vp_updL (I k) j x := by unfold p_wrJ; rw [if_pos rfl]
theorem cell_same {aT : Nat → ClassId} {ad : Nat → Nat} {T : PT} {ij ij' : IJ} {j : Nat} (h1 : ij'.1 j = ij.1 j) (h2 : ij'.2 j = ij.2 j) : p_cell aT ad T ij' j = p_cell aT ad T ij j := by
  unfold p_cell p_obj p_fv
  rw [h1, h2]
theorem small_toInt {i : Int32} (h : i.toUInt32.toNat < 2147483648) : i.toInt = (i.toUInt32.toNat : Int) := by
  show i.toBitVec.toInt = (i.toBitVec.toNat : Int)
  have h' : i.toBitVec.toNat < 2147483648 := h
  exact BitVec.toInt_eq_toNat_of_lt (by omega)
theorem in_lt {i : Int32} {n : Nat} (hn : n < 100000) (h : p_in i n = true) : vp_in i n := by
  unfold p_in at h
  rw [Nat.blt_eq] at h
  rw [vp_in_iff, small_toInt (by omega)]
  omega
theorem in_of {T : PT} {k : Nat} {i : Int32} (h : p_in i (p_kd T k).2 = true) : vp_in i (p_kd T k).2 := in_lt (kd_lt T k) h
theorem nz_ne {y : Int32} (h : p_nz y = true) : ¬ y = 0 := by
  intro e
  subst e
  revert h
  decide
theorem p01_or {x : Int32} (h : p_01 x = true) : x = 0 ∨ x = 1 := by
  unfold p_01 at h
  rw [Nat.blt_eq] at h
  have h2 := small_toInt (i := x) (by omega)
  have h3 : x.toUInt32.toNat = 0 ∨ x.toUInt32.toNat = 1 := by omega
  rcases h3 with h3 | h3
  · left
    apply Int32.toInt_inj.mp
    rw [h2, h3]
    rfl
  · right
    apply Int32.toInt_inj.mp
    rw [h2, h3]
    rfl
theorem p01_nar {x : Int32} (h : p_01 x = true) : vp_nar .boolean x = x := by
  rcases p01_or h with h | h <;> subst h <;> rfl
/-- all that holds at a pure state -/
def p_ok (D : va_G) (aT : Nat → ClassId) (A : Nat → Prop) (H0 : Heap) (ad0 : Nat → Nat) (N0 S0 : Nat) (T : PT) (ij : IJ) (ad : Nat → Nat) (H : Heap) (locs : List Loc) (cells slots : Nat) : Prop :=
  va_P D vwCl (p_ws aT ad T ij) H ∧ va_D A (p_ws aT ad T ij) ∧ (∀ k j, T.2.2.2 k j ≤ T.1) ∧ va_S A H0 H locs ∧ cells + N0 = T.1 ∧ slots + S0 = T.2.1 ∧ ∀ k, k < N0 ∨ 100000 ≤ k → ad k = ad0 k
section PW
variable {p : Program} {l : Launch} {e : Env} {R : Room} {s : State} {m : MethodId} {args : Array Value} {below : List Frame} {meth : Method} {c : Code} {Q : State → Prop} {cc : ByteArray} {own : String}
variable {D : va_G} {aT : Nat → ClassId} {A : Nat → Prop} {H0 : Heap} {ad0 : Nat → Nat} {N0 S0 : Nat} {pc : Nat} {L st : List Value} {T : PT} {ij : IJ} {α : Type} {r : α}
theorem g_ald {X : PX} {k : List Value → Option α} (hx : p.tables.exec = Jvm.exec) (hb : c.code = cc) (hK : va_K D vwCl (p_tys aT) s) (hX : ∀ X', X = some X' → va_X (ad0 100000) X'.1 X'.2 s H0 ∧ ad0 100000 < H0.size ∧ ¬ A (ad0 100000) ∧ X'.1 < 100000) (hd : decode cc pc = .ok (.iaload, 1))
    (h : p_ald X T ij st k = some r) (hk : ∀ st', k st' = some r → GW (fun H locs cells slots g => W p l e R s m args below meth c H locs cells slots Q g) m (p_ok D aT A H0 ad0 N0 S0) (pc + 1) L st' T ij) : GW (fun H locs cells slots g => W p l e R s m args below meth c H locs cells slots Q g) m (p_ok D aT A H0 ad0 N0 S0) pc L st T ij := by
  unfold p_ald at h
  simp only [p_bif_dec, p_chk_ite] at h
  split at h
  · rename_i i q r'
    split at h
    · rename_i hq
      split at h
      · rename_i X' hX'
        split at h
        · rename_i hin
          obtain ⟨x1, x2, x3, x4⟩ := hX _ rfl
          intro ad H locs cells slots ls ho hl
          have h1 := hk _ h ad H locs cells slots ls ho hl
          have he : ad q = ad0 100000 := by rw [hq]; exact ho.2.2.2.2.2.2 _ (Or.inr (Nat.le_refl _))
          show W p l e R s m args below meth c H locs cells slots Q (F0 m pc ls (.int i :: .ref (ad q) :: r'.map (sv ad)))
          rw [he]
          exact va_sld hx hb x1 x2 x3 ho.2.2.2.1 (in_lt x4 hin) hd h1
        · cases h
      · cases h
    · split at h
      · rename_i hq hkd
        split at h
        · rename_i hin
          intro ad H locs cells slots ls ho hl
          obtain ⟨k1, k2⟩ := kd_in hkd (by decide)
          have hc : (p_ws aT ad T ij)[q]? = some (ad q, .inl (aT 100, (p_kd T q).2, .inl (ij.1 q))) := by
            rw [ws_get k1]; unfold p_cell; rw [k2, hkd, if_neg (by decide), if_neg (by decide), if_neg (by decide)]
          exact va_iald hx hb hK ho.1 q 0 hc rfl (in_of hin) hd (hk _ h ad H locs cells slots ls ho hl)
        · cases h
      · cases h
  · cases h
theorem g_bld {k : List Value → Option α} (hx : p.tables.exec = Jvm.exec) (hb : c.code = cc) (hK : va_K D vwCl (p_tys aT) s) (hd : decode cc pc = .ok (.baload, 1))
    (h : p_bld T ij st k = some r) (hk : ∀ st', k st' = some r → GW (fun H locs cells slots g => W p l e R s m args below meth c H locs cells slots Q g) m (p_ok D aT A H0 ad0 N0 S0) (pc + 1) L st' T ij) : GW (fun H locs cells slots g => W p l e R s m args below meth c H locs cells slots Q g) m (p_ok D aT A H0 ad0 N0 S0) pc L st T ij := by
  unfold p_bld at h
  simp only [p_bif_dec, p_chk_ite] at h
  split at h
  · rename_i i q r'
    split at h
    · rename_i hkd
      split at h
      · rename_i hin
        intro ad H locs cells slots ls ho hl
        rcases hkd with hkd | hkd
        · obtain ⟨k1, k2⟩ := kd_in hkd (by decide)
          have hc : (p_ws aT ad T ij)[q]? = some (ad q, .inl (aT 101, (p_kd T q).2, .inl (ij.1 q))) := by
            rw [ws_get k1]; unfold p_cell; rw [k2, hkd, if_neg (by decide), if_neg (by decide), if_neg (by decide)]
          exact va_bald hx hb hK ho.1 q 1 hc rfl (in_of hin) hd (hk _ h ad H locs cells slots ls ho hl)
        · obtain ⟨k1, k2⟩ := kd_in hkd (by decide)
          have hc : (p_ws aT ad T ij)[q]? = some (ad q, .inl (aT 102, (p_kd T q).2, .inl (ij.1 q))) := by
            rw [ws_get k1]; unfold p_cell; rw [k2, hkd, if_neg (by decide), if_neg (by decide), if_neg (by decide)]
          exact va_zald hx hb hK ho.1 q 2 hc rfl (in_of hin) hd (hk _ h ad H locs cells slots ls ho hl)
      · cases h
    · cases h
  · cases h
theorem g_lld {k : List Value → Option α} (hx : p.tables.exec = Jvm.exec) (hb : c.code = cc) (hK : va_K D vwCl (p_tys aT) s) (hd : decode cc pc = .ok (.laload, 1))
    (h : p_lld T ij st k = some r) (hk : ∀ st', k st' = some r → GW (fun H locs cells slots g => W p l e R s m args below meth c H locs cells slots Q g) m (p_ok D aT A H0 ad0 N0 S0) (pc + 1) L st' T ij) : GW (fun H locs cells slots g => W p l e R s m args below meth c H locs cells slots Q g) m (p_ok D aT A H0 ad0 N0 S0) pc L st T ij := by
  unfold p_lld at h
  simp only [p_bif_dec, p_chk_ite] at h
  split at h
  · rename_i i q r'
    split at h
    · rename_i hkd
      split at h
      · rename_i hin
        intro ad H locs cells slots ls ho hl
        obtain ⟨k1, k2⟩ := kd_in hkd (by decide)
        have hc : (p_ws aT ad T ij)[q]? = some (ad q, .inl (aT 103, (p_kd T q).2, .inr (.inl (ij.2 q)))) := by
          rw [ws_get k1]; unfold p_cell; rw [k2, hkd, if_neg (by decide), if_pos rfl]
        exact va_lald hx hb hK ho.1 q 3 hc rfl (in_of hin) hd (hk _ h ad H locs cells slots ls ho hl)
      · cases h
    · cases h
  · cases h
theorem g_qld {k : List Value → Option α} (hx : p.tables.exec = Jvm.exec) (hb : c.code = cc) (hK : va_K D vwCl (p_tys aT) s) (hd : decode cc pc = .ok (.aaload, 1))
    (h : p_qld T st k = some r) (hk : ∀ st', k st' = some r → GW (fun H locs cells slots g => W p l e R s m args below meth c H locs cells slots Q g) m (p_ok D aT A H0 ad0 N0 S0) (pc + 1) L st' T ij) : GW (fun H locs cells slots g => W p l e R s m args below meth c H locs cells slots Q g) m (p_ok D aT A H0 ad0 N0 S0) pc L st T ij := by
  unfold p_qld p_rf at h
  simp only [p_bif_dec, p_chk_ite] at h
  split at h
  · rename_i i q r'
    split at h
    · rename_i hkd
      split at h
      · rename_i hin
        split at h
        · cases h
        · rename_i t ht
          intro ad H locs cells slots ls ho hl
          obtain ⟨k1, k2⟩ := kd_in hkd (by decide)
          have hc : (p_ws aT ad T ij)[q]? = some (ad q, .inl (aT 104, (p_kd T q).2, .inr (.inr (.inr (.inr (fun j => p_ro ad (T.2.2.2 q j))))))) := by
            rw [ws_get k1]; unfold p_cell; rw [k2, hkd, if_neg (by decide), if_neg (by decide), if_pos rfl]
          have h1 := hk _ h ad H locs cells slots ls ho hl
          refine va_aldq hx hb hK ho.1 q 4 hc rfl (in_of hin) hd ?_
          show W p l e R s m args below meth c H locs cells slots Q (F0 m (pc + 1) ls (va_rf (p_ro ad (T.2.2.2 q i.toNatClampNeg)) :: r'.map (sv ad)))
          rw [ht]
          exact h1
      · cases h
    · cases h
  · cases h
theorem g_ast {k : List Value → IJ → Option α} (hx : p.tables.exec = Jvm.exec) (hb : c.code = cc) (hK : va_K D vwCl (p_tys aT) s) (hd : decode cc pc = .ok (.iastore, 1))
    (h : p_ast T ij st k = some r) (hk : ∀ st' ij', k st' ij' = some r → GW (fun H locs cells slots g => W p l e R s m args below meth c H locs cells slots Q g) m (p_ok D aT A H0 ad0 N0 S0) (pc + 1) L st' T ij') : GW (fun H locs cells slots g => W p l e R s m args below meth c H locs cells slots Q g) m (p_ok D aT A H0 ad0 N0 S0) pc L st T ij := by
  unfold p_ast at h
  simp only [p_bif_dec, p_chk_ite] at h
  split at h
  · rename_i x i q r'
    split at h
    · rename_i hkd
      split at h
      · rename_i hin
        intro ad H locs cells slots ls ho hl
        obtain ⟨k1, k2⟩ := kd_in hkd (by decide)
        have hc : (p_ws aT ad T ij)[q]? = some (ad q, .inl (aT 100, (p_kd T q).2, .inl (ij.1 q))) := by
          rw [ws_get k1]; unfold p_cell; rw [k2, hkd, if_neg (by decide), if_neg (by decide), if_neg (by decide)]
        refine va_iast hx hb hK ho.1 ho.2.1 ho.2.2.2.1 q 0 hc rfl (in_of hin) hd (fun H1 locs1 hP hD hS => ?_)
        have he := ws_set (ij := ij) (aT := aT) (ad := ad) (ij' := (p_wr ij.1 q i.toNatClampNeg x, ij.2)) (E := .inl (aT 100, (p_kd T q).2, .inl (upd (ij.1 q) i.toNatClampNeg x))) k1 (by unfold p_cell; rw [k2, hkd, if_neg (by decide), if_neg (by decide), if_neg (by decide)]; simp only [wr_eq]) (fun j hj => cell_same (wr_ne hj) rfl)
        rw [he] at hP hD
        exact hk _ _ h ad H1 locs1 cells slots ls ⟨hP, hD, ho.2.2.1, hS, ho.2.2.2.2⟩ hl
      · cases h
    · cases h
  · cases h
theorem g_bst {k : List Value → IJ → Option α} (hx : p.tables.exec = Jvm.exec) (hb : c.code = cc) (hK : va_K D vwCl (p_tys aT) s) (hd : decode cc pc = .ok (.bastore, 1))
    (h : p_bst T ij st k = some r) (hk : ∀ st' ij', k st' ij' = some r → GW (fun H locs cells slots g => W p l e R s m args below meth c H locs cells slots Q g) m (p_ok D aT A H0 ad0 N0 S0) (pc + 1) L st' T ij') : GW (fun H locs cells slots g => W p l e R s m args below meth c H locs cells slots Q g) m (p_ok D aT A H0 ad0 N0 S0) pc L st T ij := by
  unfold p_bst at h
  simp only [p_bif_dec, p_chk_ite] at h
  split at h
  · rename_i x i q r'
    split at h
    · rename_i hkd
      split at h
      · rename_i hin
        intro ad H locs cells slots ls ho hl
        obtain ⟨k1, k2⟩ := kd_in hkd (by decide)
        have hc : (p_ws aT ad T ij)[q]? = some (ad q, .inl (aT 101, (p_kd T q).2, .inl (ij.1 q))) := by
          rw [ws_get k1]; unfold p_cell; rw [k2, hkd, if_neg (by decide), if_neg (by decide), if_neg (by decide)]
        refine va_bast hx hb hK ho.1 ho.2.1 ho.2.2.2.1 q 1 hc rfl (in_of hin) hd (fun H1 locs1 hP hD hS => ?_)
        have he := ws_set (ij := ij) (aT := aT) (ad := ad) (ij' := (p_wr ij.1 q i.toNatClampNeg (vp_nar .byte x), ij.2)) (E := .inl (aT 101, (p_kd T q).2, .inl (upd (ij.1 q) i.toNatClampNeg (vp_nar .byte x)))) k1 (by unfold p_cell; rw [k2, hkd, if_neg (by decide), if_neg (by decide), if_neg (by decide)]; simp only [wr_eq]) (fun j hj => cell_same (wr_ne hj) rfl)
        rw [he] at hP hD
        exact hk _ _ h ad H1 locs1 cells slots ls ⟨hP, hD, ho.2.2.1, hS, ho.2.2.2.2⟩ hl
      · cases h
    · split at h
      · rename_i hn hkd
        split at h
        · rename_i hin
          intro ad H locs cells slots ls ho hl
          obtain ⟨k1, k2⟩ := kd_in hkd (by decide)
          have hc : (p_ws aT ad T ij)[q]? = some (ad q, .inl (aT 102, (p_kd T q).2, .inl (ij.1 q))) := by
            rw [ws_get k1]; unfold p_cell; rw [k2, hkd, if_neg (by decide), if_neg (by decide), if_neg (by decide)]
          refine va_zast hx hb hK ho.1 ho.2.1 ho.2.2.2.1 q 2 hc rfl (in_of hin) hd (fun H1 locs1 hP hD hS => ?_)
          have he := ws_set (ij := ij) (aT := aT) (ad := ad) (ij' := (p_wr ij.1 q i.toNatClampNeg (vp_nar .boolean x), ij.2)) (E := .inl (aT 102, (p_kd T q).2, .inl (upd (ij.1 q) i.toNatClampNeg (vp_nar .boolean x)))) k1 (by unfold p_cell; rw [k2, hkd, if_neg (by decide), if_neg (by decide), if_neg (by decide)]; simp only [wr_eq]) (fun j hj => cell_same (wr_ne hj) rfl)
          rw [he] at hP hD
          exact hk _ _ h ad H1 locs1 cells slots ls ⟨hP, hD, ho.2.2.1, hS, ho.2.2.2.2⟩ hl
        · cases h
      · cases h
  · cases h
theorem g_lst {k : List Value → IJ → Option α} (hx : p.tables.exec = Jvm.exec) (hb : c.code = cc) (hK : va_K D vwCl (p_tys aT) s) (hd : decode cc pc = .ok (.lastore, 1))
    (h : p_lst T ij st k = some r) (hk : ∀ st' ij', k st' ij' = some r → GW (fun H locs cells slots g => W p l e R s m args below meth c H locs cells slots Q g) m (p_ok D aT A H0 ad0 N0 S0) (pc + 1) L st' T ij') : GW (fun H locs cells slots g => W p l e R s m args below meth c H locs cells slots Q g) m (p_ok D aT A H0 ad0 N0 S0) pc L st T ij := by
  unfold p_lst at h
  simp only [p_bif_dec, p_chk_ite] at h
  split at h
  · rename_i x i q r'
    split at h
    · rename_i hkd
      split at h
      · rename_i hin
        intro ad H locs cells slots ls ho hl
        obtain ⟨k1, k2⟩ := kd_in hkd (by decide)
        have hc : (p_ws aT ad T ij)[q]? = some (ad q, .inl (aT 103, (p_kd T q).2, .inr (.inl (ij.2 q)))) := by
          rw [ws_get k1]; unfold p_cell; rw [k2, hkd, if_neg (by decide), if_pos rfl]
        refine va_last hx hb hK ho.1 ho.2.1 ho.2.2.2.1 q 3 hc rfl (in_of hin) hd (fun H1 locs1 hP hD hS => ?_)
        have he := ws_set (ij := ij) (aT := aT) (ad := ad) (ij' := (ij.1, p_wrJ ij.2 q i.toNatClampNeg x)) (E := .inl (aT 103, (p_kd T q).2, .inr (.inl (vp_updL (ij.2 q) i.toNatClampNeg x)))) k1 (by unfold p_cell; rw [k2, hkd, if_neg (by decide), if_pos rfl]; simp only [wrJ_eq]) (fun j hj => cell_same rfl (wrJ_ne hj))
        rw [he] at hP hD
        exact hk _ _ h ad H1 locs1 cells slots ls ⟨hP, hD, ho.2.2.1, hS, ho.2.2.2.2⟩ hl
      · cases h
    · cases h
  · cases h
theorem g_len {X : PX} {k : List Value → Option α} (hx : p.tables.exec = Jvm.exec) (hb : c.code = cc) (hK : va_K D vwCl (p_tys aT) s) (hX : ∀ X', X = some X' → va_X (ad0 100000) X'.1 X'.2 s H0 ∧ ad0 100000 < H0.size ∧ ¬ A (ad0 100000) ∧ X'.1 < 100000) (hd : decode cc pc = .ok (.arraylength, 1))
    (h : p_len X T st k = some r) (hk : ∀ st', k st' = some r → GW (fun H locs cells slots g => W p l e R s m args below meth c H locs cells slots Q g) m (p_ok D aT A H0 ad0 N0 S0) (pc + 1) L st' T ij) : GW (fun H locs cells slots g => W p l e R s m args below meth c H locs cells slots Q g) m (p_ok D aT A H0 ad0 N0 S0) pc L st T ij := by
  unfold p_len at h
  simp only [p_bif_dec, p_chk_ite] at h
  split at h
  · rename_i q r'
    split at h
    · rename_i hq
      split at h
      · rename_i X' hX'
        obtain ⟨x1, x2, x3, x4⟩ := hX _ rfl
        intro ad H locs cells slots ls ho hl
        have h1 := hk _ h ad H locs cells slots ls ho hl
        have he : ad q = ad0 100000 := by rw [hq]; exact ho.2.2.2.2.2.2 _ (Or.inr (Nat.le_refl _))
        show W p l e R s m args below meth c H locs cells slots Q (F0 m pc ls (.ref (ad q) :: r'.map (sv ad)))
        rw [he]
        exact va_slen hx hb x1 x2 x3 ho.2.2.2.1 hd h1
      · cases h
    · split at h
      · rename_i hq hkd
        intro ad H locs cells slots ls ho hl
        have h1 := hk _ h ad H locs cells slots ls ho hl
        obtain ⟨k1, k2⟩ := kd_in (T := T) (k := q) rfl (by omega)
        have hj : (p_kd T q).1 = 100 ∨ (p_kd T q).1 = 101 ∨ (p_kd T q).1 = 102 ∨ (p_kd T q).1 = 103 := by omega
        rcases hj with hj | hj | hj | hj
        · have hc : (p_ws aT ad T ij)[q]? = some (ad q, .inl (aT 100, (p_kd T q).2, .inl (ij.1 q))) := by
            rw [ws_get k1]; unfold p_cell; rw [k2, hj, if_neg (by decide), if_neg (by decide), if_neg (by decide)]
          exact va_alen hx hb hK ho.1 q 0 hc rfl rfl hd h1
        · have hc : (p_ws aT ad T ij)[q]? = some (ad q, .inl (aT 101, (p_kd T q).2, .inl (ij.1 q))) := by
            rw [ws_get k1]; unfold p_cell; rw [k2, hj, if_neg (by decide), if_neg (by decide), if_neg (by decide)]
          exact va_alen hx hb hK ho.1 q 1 hc rfl rfl hd h1
        · have hc : (p_ws aT ad T ij)[q]? = some (ad q, .inl (aT 102, (p_kd T q).2, .inl (ij.1 q))) := by
            rw [ws_get k1]; unfold p_cell; rw [k2, hj, if_neg (by decide), if_neg (by decide), if_neg (by decide)]
          exact va_alen hx hb hK ho.1 q 2 hc rfl rfl hd h1
        · have hc : (p_ws aT ad T ij)[q]? = some (ad q, .inl (aT 103, (p_kd T q).2, .inr (.inl (ij.2 q)))) := by
            rw [ws_get k1]; unfold p_cell; rw [k2, hj, if_neg (by decide), if_pos rfl]
          exact va_alen hx hb hK ho.1 q 3 hc rfl rfl hd h1
      · cases h
  · cases h
end PW
