/-- one step in a world that grows: no more than lim cells and slots -/
def p_mk {α : Type} (lim : Nat × Nat) (T : PT) (ij : IJ) (kd n : Nat) (L st : List Value) (kk : PT → IJ → Option α) : Option α :=
  p_bif (decide (T.1 + 1 ≤ lim.1 ∧ T.2.1 + n ≤ lim.2 ∧ T.1 < 99999 ∧ n < 100000)) (p_bif (p_all T.1 L && p_all T.1 st) (kk (p_new T ij kd n).1 (p_new T ij kd n).2) none) none
def p_puR {α : Type} (T : PT) (ij : IJ) (a b : Nat) (st : List Value) (k : List Value → PT → IJ → Option α) (k2 : Option α) : Option α := match st with
  | .ref v :: .ref q :: r => p_bif (decide ((p_kd T q).1 = a ∧ b < (p_kd T q).2 ∧ p_fk a b = 2 ∧ v < T.1)) (k r (T.1, T.2.1, T.2.2.1, p_wp T.2.2.2 q b (v + 1)) ij) none
  | _ => k2
def p_qst {α : Type} (T : PT) (ij : IJ) (st : List Value) (k : List Value → PT → IJ → Option α) : Option α := match st with
  | .ref v :: .int i :: .ref q :: r => p_bif (decide ((p_kd T q).1 = 104 ∧ (p_kd T v).1 = 8)) (p_chk (p_in i (p_kd T q).2) (k r (T.1, T.2.1, T.2.2.1, p_wp T.2.2.2 q i.toNatClampNeg (v + 1)) ij)) none
  | _ => none
def p_spc {α : Type} (OD : OrD) (lim : Nat × Nat) (T : PT) (ij : IJ) (a b : Nat) (L st : List Value) (k : List Value → PT → IJ → Option α) : Option α :=
  p_bif (decide (a = 9001)) (match st with
    | .ref _ :: r => p_bif (decide (p_words r ≤ 8)) (k r T ij) none
    | _ => none)
  (p_bif (decide (b ≤ st.length ∧ p_words (st.drop b) ≤ 8 ∧ 1 ≤ b ∧ T.1 < 99999)) (match (st.take b).reverse with
    | .ref _ :: _ => (match OD a (st.take b).reverse T ij with
      | some (T', ij') => p_bif (decide (T'.1 ≤ lim.1 ∧ T'.2.1 ≤ lim.2 ∧ T.1 ≤ T'.1 ∧ T.2.1 ≤ T'.2.1)) (p_bif (p_all T.1 L && p_all T.1 (st.drop b)) (k (st.drop b) T' ij') none) none
      | none => none)
    | _ => none) none)
def stpD {α : Type} (O : Ora) (OD : OrD) (lim : Nat × Nat) (nL : Nat) (T : PT) (e : PE) (L st : List Value) (ij : IJ) (k : Nat → List Value → List Value → PT → IJ → Option α) (rt : PT → IJ → Option α) : Option α := match e.1 with
  | .new _ => p_mk lim T ij e.2.2.1 e.2.2.2.1 L st (fun T' ij' => k e.2.1 L (.ref T.1 :: st) T' ij')
  | .newarray _ => (match st with
    | .int n :: r => p_bif (decide (0 ≤ n)) (p_mk lim T ij e.2.2.1 n.toNatClampNeg L r (fun T' ij' => k e.2.1 L (.ref T.1 :: r) T' ij')) none
    | _ => none)
  | .anewarray _ => (match st with
    | .int n :: r => p_bif (decide (0 ≤ n)) (p_mk lim T ij 104 n.toNatClampNeg L r (fun T' ij' => k e.2.1 L (.ref T.1 :: r) T' ij')) none
    | _ => none)
  | .putfield _ => p_puR T ij e.2.2.1 e.2.2.2.1 st (fun st T' ij' => k e.2.1 L st T' ij') (stpS O none nL T e L st ij (fun pc L st ij => k pc L st T ij) (fun _ _ => none))
  | .aastore => p_qst T ij st (fun st T' ij' => k e.2.1 L st T' ij')
  | .invokespecial _ => p_bif (decide (L.length = nL)) (p_spc OD lim T ij e.2.2.1 e.2.2.2.1 L st (fun st T' ij' => k e.2.1 L st T' ij')) none
  | .return_ => (match st with
    | [] => rt T ij
    | _ => none)
  | _ => stpS O none nL T e L st ij (fun pc L st ij => k pc L st T ij) (fun _ _ => none)
def ckN (o pc : Nat) (E : PE) : Bool := match E.1 with
  | .new idx => decide (E.2.1 = pc + 3) && (decide (E.2.2.2.1 = (cT E.2.2.1).2.2) && (nwk o).any (fun q => decide (q.1 = idx ∧ q.2.1 = E.2.2.1)))
  | .newarray ty => decide (E.2.1 = pc + 2) && (match ty with
    | .int => decide (E.2.2.1 = 100)
    | .byte => decide (E.2.2.1 = 101)
    | .boolean => decide (E.2.2.1 = 102)
    | .long => decide (E.2.2.1 = 103)
    | _ => false)
  | .anewarray idx => decide (E.2.1 = pc + 3) && (ank o).any (fun q => decide (q.1 = idx))
  | .aastore => decide (E.2.1 = pc + 1)
  | .putfield _ => ck1 o pc E && (decide (p_fk E.2.2.1 E.2.2.2.1 ≠ 2) || decide ((cT E.2.2.1).1 = oN o))
  | .invokespecial idx => decide (E.2.1 = pc + 3) && (((obk o).any (fun q => decide (q.1 = idx ∧ E.2.2.1 = 9001))) || (decide (E.2.2.1 < 9000) && ((ikk o).any (fun q => decide (q.1 = idx ∧ q.2.1 = E.2.2.1 ∧ q.2.2.1 + 1 = E.2.2.2.1)) || (iNk o).any (fun q => decide (q.1 = idx ∧ q.2.1 = E.2.2.1 ∧ q.2.2.1 + 1 = E.2.2.2.1)))))
  | _ => ck1 o pc E
def ckJ (o : Nat) (cc : ByteArray) (pc : Nat) (E : PE) : Bool := decide (decode cc pc = .ok (E.1, E.2.1 - pc)) && ckN o pc E
/-- a constructor's contract: from the world T, ij it comes to T', ij' -/
def p_rmD (d mc ms : Nat) : Room := { frames := d + 4, cells := mc, slots := ms, locals := 64 * (d + 4) }
def p_BD (D : va_G) (aT : Nat → ClassId) (A1 : Nat → Prop) (T : PT) (ij : IJ) (ad : Nat → Nat) (t : State) : Prop := va_P D vwCl (p_ws aT ad T ij) t.heap ∧ va_D A1 (p_ws aT ad T ij) ∧ ∀ k j, T.2.2.2 k j ≤ T.1
def MetD (l : Launch) (d y : Nat) (T : PT) (as : List Value) (ij : IJ) (T' : PT) (ij' : IJ) : Prop := ∀ (D : va_G) (aT : Nat → ClassId) (ad : Nat → Nat) (sz : Nat),
  Met l (mN y) (Cond.code (mN y) (mB y) (mL y) none :: gtb) (p_rmD d (T'.1 - T.1) (T'.2.1 - T.2.1)) (va_Pc (as.map (sv ad)) (fun U => U.heap.size = sz ∧ p_wd D aT ad T ij U ∧ va_AO "SewnRoads$State" U))
    (va_Qv (fun ad' : Nat → Nat => ∀ k, k < T.1 ∨ 100000 ≤ k → ad' k = ad k) (p_BD D aT (va_A (p_ws aT ad T ij) sz) T' ij') (va_A (p_ws aT ad T ij) sz)) (T'.1 - T.1) (T'.2.1 - T.2.1) (va_A (p_ws aT ad T ij) sz)
section PD
variable {p : Program} {l : Launch} {e : Env} {R : Room} {s : State} {m : MethodId} {args : Array Value} {below : List Frame} {meth : Method} {c : Code} {Q : State → Prop} {cc : ByteArray} {own : String} {o : Nat}
variable {D : va_G} {aT : Nat → ClassId} {A : Nat → Prop} {H0 : Heap} {ad0 : Nat → Nat} {N0 S0 : Nat} {pc : Nat} {L st : List Value} {T : PT} {ij : IJ} {α : Type} {r : α} {d nL : Nat} {lim : Nat × Nat}
/-- a new cell -/
theorem g_mk {kd n : Nat} {pre : List Value} {nx : Nat} {E : va_E} {kk : PT → IJ → Option α} (hpre : ∀ ad, pre.map (sv ad) = pre) (hN0 : N0 ≤ T.1) (hS0 : S0 ≤ T.2.1) (hlim : lim.1 = N0 + R.cells ∧ lim.2 = S0 + R.slots)
    (hE : ∀ ad, p_cell aT ad (p_new T ij kd n).1 (p_new T ij kd n).2 T.1 = E)
    (hrow : ∀ (H : Heap) (locs : List Loc) (cells slots : Nat) (ls : Array Slot) (rest : List Value) (ws : va_W), va_P D vwCl ws H → va_D A ws → va_S A H0 H locs → cells + 1 ≤ R.cells → slots + n ≤ R.slots → n < 100000 → (∀ (q : Nat) (H1 : Heap), va_P D vwCl (ws ++ [(q, E)]) H1 → va_D A (ws ++ [(q, E)]) → va_S A H0 H1 locs → W p l e R s m args below meth c H1 locs (cells + 1) (slots + n) Q (F0 m nx ls (.ref q :: rest))) → W p l e R s m args below meth c H locs cells slots Q (F0 m pc ls (pre ++ rest)))
    (h : p_mk lim T ij kd n L st kk = some r) (hk : ∀ T' ij', kk T' ij' = some r → T' = (p_new T ij kd n).1 → ij' = (p_new T ij kd n).2 → T'.1 ≤ lim.1 → T'.2.1 ≤ lim.2 → GW (fun H locs cells slots g => W p l e R s m args below meth c H locs cells slots Q g) m (p_ok D aT A H0 ad0 N0 S0) nx L (.ref T.1 :: st) T' ij') : GW (fun H locs cells slots g => W p l e R s m args below meth c H locs cells slots Q g) m (p_ok D aT A H0 ad0 N0 S0) pc L (pre ++ st) T ij := by
  unfold p_mk at h
  rw [p_bif_dec] at h
  split at h
  · rename_i hc
    obtain ⟨c1, c2, c3, c4⟩ := hc
    have hall : (p_all T.1 L && p_all T.1 st) = true ∧ kk (p_new T ij kd n).1 (p_new T ij kd n).2 = some r := by
      cases hb : (p_all T.1 L && p_all T.1 st) with
      | true => rw [hb] at h; exact ⟨rfl, h⟩
      | false => rw [hb] at h; cases h
    obtain ⟨ha, h⟩ := hall
    rw [Bool.and_eq_true] at ha
    have hk' := hk _ _ h rfl rfl c1 c2
    intro ad H locs cells slots ls ho hl
    have h5 := ho.2.2.2.2.1
    have h6 := ho.2.2.2.2.2.1
    rw [List.map_append, hpre]
    refine hrow H locs cells slots ls (st.map (sv ad)) _ ho.1 ho.2.1 ho.2.2.2.1 (by omega) (by omega) c4 (fun q H1 hP hD hS => ?_)
    have hw := ws_new (aT := aT) (ad := ad) (T := T) (ij := ij) (kd := kd) (n := n) (q := q) ho.2.2.1
    rw [hE] at hw
    rw [← hw] at hP hD
    have h9 := hk' (p_ad ad T.1 q) H1 locs (cells + 1) (slots + n) ls ⟨hP, hD, new_le ho.2.2.1, hS, by show cells + 1 + N0 = T.1 + 1; omega, by show slots + n + S0 = T.2.1 + n; omega, fun k hk9 => by rw [ad_lt (by omega) c3]; exact ho.2.2.2.2.2.2 k hk9⟩ (all_has c3 ha.1 hl)
    rw [List.map_cons, all_sv c3 ha.2] at h9
    have e9 : sv (p_ad ad T.1 q) (.ref T.1) = .ref q := by show Value.ref (p_ad ad T.1 q T.1) = _; unfold p_ad; rw [if_pos rfl]
    rw [e9] at h9
    exact h9
  · cases h
end PD
