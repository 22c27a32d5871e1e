/-! ===== constructors: the pure machine in a world that grows ===== -/
abbrev OrD : Type := Nat → List Value → PT → IJ → Option (PT × IJ)
def p_okv (N : Nat) (v : Value) : Bool := match v with
  | .ref r => Nat.blt r N || Nat.ble 100000 r
  | _ => true
def p_all (N : Nat) (vs : List Value) : Bool := vs.all (p_okv N)
def p_new (T : PT) (ij : IJ) (kd n : Nat) : PT × IJ :=
  ((T.1 + 1, T.2.1 + n, (fun a => if a = T.1 then (kd, n) else T.2.2.1 a), (fun a j => if a = T.1 then 0 else T.2.2.2 a j)), ((fun a => if a = T.1 then (fun _ => 0) else ij.1 a), (fun a => if a = T.1 then (fun _ => 0) else ij.2 a)))
def p_wp (P : Nat → Nat → Nat) (k j r : Nat) : Nat → Nat → Nat := fun a b => if a = k ∧ b = j then r else P a b
def p_ad (ad : Nat → Nat) (N q : Nat) : Nat → Nat := fun r => if r = N then q else ad r
theorem ad_lt {ad : Nat → Nat} {N q r : Nat} (h : r < N ∨ 100000 ≤ r) (hN : N < 99999) : p_ad ad N q r = ad r := by
  unfold p_ad
  rw [if_neg (by omega)]
theorem okv_sv {ad : Nat → Nat} {N q : Nat} (hN : N < 99999) {v : Value} (h : p_okv N v = true) : sv (p_ad ad N q) v = sv ad v := by
  cases v with
  | ref r =>
    unfold p_okv at h
    simp only [Bool.or_eq_true, Nat.blt_eq] at h
    show Value.ref (p_ad ad N q r) = Value.ref (ad r)
    rw [ad_lt (h.imp id Nat.le_of_ble_eq_true) hN]
  | _ => rfl
theorem all_sv {ad : Nat → Nat} {N q : Nat} (hN : N < 99999) {vs : List Value} (h : p_all N vs = true) : vs.map (sv (p_ad ad N q)) = vs.map (sv ad) :=
  List.map_congr_left (fun v hv => okv_sv hN (List.all_eq_true.mp h v hv))
theorem all_has {ad : Nat → Nat} {N q : Nat} (hN : N < 99999) {L : List Value} {ls : Array Slot} (h : p_all N L = true) (hl : pl_has ad ls L) : pl_has (p_ad ad N q) ls L := by
  refine ⟨hl.1, hl.2.1, fun i v hi hv => ?_⟩
  rw [okv_sv hN (List.all_eq_true.mp h v (List.mem_of_getElem? hi))]
  exact hl.2.2 i v hi hv
/-- two maps of addresses that agree below N give one world -/
theorem ws_agree {aT : Nat → ClassId} {ad ad' : Nat → Nat} {T : PT} {ij : IJ} (hT : ∀ k j, T.2.2.2 k j ≤ T.1) (h2 : ∀ k, k < T.1 → ad' k = ad k) : p_ws aT ad' T ij = p_ws aT ad T ij := by
  unfold p_ws
  apply List.map_congr_left
  intro k hk
  have hk2 : k < T.1 := List.mem_range.mp hk
  rw [h2 k hk2]
  have h3 : ∀ k j, p_ro ad' (T.2.2.2 k j) = p_ro ad (T.2.2.2 k j) := by
    intro k j
    have h4 := hT k j
    unfold p_ro
    split
    · rfl
    · rename_i r9 hr9
      rw [h2 r9 (by omega)]
  have h5 : ∀ k j, p_rv ad' (T.2.2.2 k j) = p_rv ad (T.2.2.2 k j) := by
    intro k j
    have h4 := hT k j
    unfold p_rv
    split
    · rfl
    · rename_i r9 hr9
      rw [h2 r9 (by omega)]
  unfold p_cell p_obj p_fv
  simp only [h3, h5]
theorem ws_new {aT : Nat → ClassId} {ad : Nat → Nat} {T : PT} {ij : IJ} {kd n q : Nat} (hT : ∀ k j, T.2.2.2 k j ≤ T.1) :
    p_ws aT (p_ad ad T.1 q) (p_new T ij kd n).1 (p_new T ij kd n).2 = p_ws aT ad T ij ++ [(q, p_cell aT (p_ad ad T.1 q) (p_new T ij kd n).1 (p_new T ij kd n).2 T.1)] := by
  have e1 : p_ws aT ad T ij = p_ws aT (p_ad ad T.1 q) T ij := (ws_agree hT (fun k hk => by unfold p_ad; rw [if_neg (by omega)])).symm
  rw [e1]
  unfold p_ws
  show List.map _ (List.range (T.1 + 1)) = _
  rw [List.range_succ, List.map_append, List.map_singleton]
  congr 1
  · apply List.map_congr_left
    intro k hk
    have hk2 : k < T.1 := List.mem_range.mp hk
    have hne : ¬ k = T.1 := by omega
    congr 1
    unfold p_cell p_obj p_fv p_new
    simp only [if_neg hne]
  · have : p_ad ad T.1 q T.1 = q := by unfold p_ad; rw [if_pos rfl]
    rw [this]
theorem new_le {T : PT} {ij : IJ} {kd n : Nat} (hT : ∀ k j, T.2.2.2 k j ≤ T.1) : ∀ k j, (p_new T ij kd n).1.2.2.2 k j ≤ (p_new T ij kd n).1.1 := by
  intro k j
  show (if k = T.1 then 0 else T.2.2.2 k j) ≤ T.1 + 1
  split
  · omega
  · have := hT k j
    omega
theorem ra_eq {U : State} {c1 c2 : ClassId} {ty : FieldType} (h1 : va_RA U c1 ty) (h2 : va_RA U c2 ty) : c1 = c2 := by
  cases ty with
  | object C =>
    obtain ⟨_, _, _, _, _, a⟩ := h1
    obtain ⟨_, _, _, _, _, b⟩ := h2
    exact Option.some.inj (a.symm.trans b)
  | _ => exact Option.some.inj (Eq.trans (Eq.symm h1) h2)
/-- the blank fields of a class -/
def isRef : FieldType → Bool
  | .object _ => true
  | .array _ => true
  | _ => false
def bF (ci : Nat) (ty0 : Nat → FieldType) : Prop := cF ci ty0 ∧ (∀ k, k < (cT ci).2.2 → defaultValue (ty0 k) = if p_fk ci k = 2 then Value.null else .int 0) ∧ (∀ k, k < (cT ci).2.2 → p_fk ci k = 2 → isRef (ty0 k) = true ∧ ((cT ci).2.1 k).2.2.2 = true ∧ ((cT ci).2.1 k).1 = (cT ci).1)
theorem ref_nar {ty : FieldType} (h : isRef ty = true) (a : Nat) : narrow ty (.ref a) = .ref a ∧ fits ty (.ref a) = true := by
  cases ty <;> first | exact ⟨rfl, rfl⟩ | cases h
theorem wp_le {T : PT} {k j v : Nat} (hT : ∀ k j, T.2.2.2 k j ≤ T.1) (hv : v < T.1) : ∀ a b, p_wp T.2.2.2 k j (v + 1) a b ≤ T.1 := by
  intro a b
  unfold p_wp
  split
  · omega
  · exact hT a b
set_option maxRecDepth 100000 in
theorem bf_0 : bF 0 tyX0 := ⟨cf_0, by decide +kernel, by decide +kernel⟩
set_option maxRecDepth 100000 in
theorem bf_1 : bF 1 tyX1 := ⟨cf_1, by decide +kernel, by decide +kernel⟩
set_option maxRecDepth 100000 in
theorem bf_2 : bF 2 tyX2 := ⟨cf_2, by decide +kernel, by decide +kernel⟩
set_option maxRecDepth 100000 in
theorem bf_3 : bF 3 tyX3 := ⟨cf_3, by decide +kernel, by decide +kernel⟩
set_option maxRecDepth 100000 in
theorem bf_4 : bF 4 tyX4 := ⟨cf_4, by decide +kernel, by decide +kernel⟩
set_option maxRecDepth 100000 in
theorem bf_5 : bF 5 tyX5 := ⟨cf_5, by decide +kernel, by decide +kernel⟩
set_option maxRecDepth 100000 in
theorem bf_6 : bF 6 tyX6 := ⟨cf_6, by decide +kernel, by decide +kernel⟩
set_option maxRecDepth 100000 in
theorem bf_7 : bF 7 tyX7 := ⟨cf_7, by decide +kernel, by decide +kernel⟩
set_option maxRecDepth 100000 in
theorem bf_8 : bF 8 tyX8 := ⟨cf_8, by decide +kernel, by decide +kernel⟩
set_option maxRecDepth 100000 in
theorem bf_9 : bF 9 tyX9 := ⟨cf_9, by decide +kernel, by decide +kernel⟩
set_option maxRecDepth 100000 in
theorem bf_10 : bF 10 tyX10 := ⟨cf_10, by decide +kernel, by decide +kernel⟩
set_option maxRecDepth 100000 in
theorem bf_11 : bF 11 tyX11 := ⟨cf_11, by decide +kernel, by decide +kernel⟩
set_option maxRecDepth 100000 in
theorem bf_12 : bF 12 tyX12 := ⟨cf_12, by decide +kernel, by decide +kernel⟩
theorem bf_all : ∀ ci, ci < 13 → ∃ ty0, bF ci ty0 := by
  intro ci h
  match ci, h with
  | 0, _ => exact ⟨_, bf_0⟩
  | 1, _ => exact ⟨_, bf_1⟩
  | 2, _ => exact ⟨_, bf_2⟩
  | 3, _ => exact ⟨_, bf_3⟩
  | 4, _ => exact ⟨_, bf_4⟩
  | 5, _ => exact ⟨_, bf_5⟩
  | 6, _ => exact ⟨_, bf_6⟩
  | 7, _ => exact ⟨_, bf_7⟩
  | 8, _ => exact ⟨_, bf_8⟩
  | 9, _ => exact ⟨_, bf_9⟩
  | 10, _ => exact ⟨_, bf_10⟩
  | 11, _ => exact ⟨_, bf_11⟩
  | 12, _ => exact ⟨_, bf_12⟩
  | n + 13, h => exact absurd h (by omega)
