/-! ===== the pure machine stands for the machine: words ===== -/
def sv (ad : Nat → Nat) : Value → Value
  | .ref k => .ref (ad k)
  | v => v
theorem sv_cat (ad : Nat → Nat) (v : Value) : (sv ad v).category = v.category := by cases v <;> rfl
theorem sv_words (ad : Nat → Nat) (st : List Value) : ((st.map (sv ad)).map fun v => v.category).sum = p_words st := by
  unfold p_words
  rw [List.map_map]
  congr 1
  exact List.map_congr_left (fun v _ => sv_cat ad v)
def pl_has (ad : Nat → Nat) (ls : Array Slot) (L : List Value) : Prop := ls.size = L.length ∧ lv_wf ls ∧ ∀ (i : Nat) (v : Value), L[i]? = some v → (∀ n, v ≠ .retAddr n) → ls[i]? = some (.val (sv ad v))
def pl_one (ad : Nat → Nat) (i : Nat) : Option Value → Option (Nat × Value)
  | some (.retAddr _) => none
  | some v => some (i, sv ad v)
  | none => none
def pl_lv (ad : Nat → Nat) (L : List Value) : List (Nat × Value) := (List.range L.length).filterMap (fun i => pl_one ad i L[i]?)
theorem pl_one_some {ad : Nat → Nat} {i : Nat} {v : Value} (h : ∀ n, v ≠ .retAddr n) : pl_one ad i (some v) = some (i, sv ad v) := by
  cases v with
  | retAddr n => exact absurd rfl (h n)
  | _ => rfl
theorem pl_one_of {ad : Nat → Nat} {i : Nat} {o : Option Value} {q : Nat × Value} (h : pl_one ad i o = some q) : ∃ v, o = some v ∧ (∀ n, v ≠ .retAddr n) ∧ q = (i, sv ad v) := by
  cases o with
  | none => cases h
  | some v =>
    cases v with
    | retAddr n => cases h
    | _ => cases h; exact ⟨_, rfl, (fun n h => by cases h), rfl⟩
theorem pl_to {ad : Nat → Nat} {ls : Array Slot} {L : List Value} (h : pl_has ad ls L) : lv_has ls L.length (pl_lv ad L) := by
  refine ⟨h.1, h.2.1, fun q hq => ?_⟩
  obtain ⟨i, -, hi⟩ := List.mem_filterMap.mp hq
  obtain ⟨v, h1, h2, rfl⟩ := pl_one_of hi
  exact h.2.2 i v h1 h2
theorem pl_in {ad : Nat → Nat} {L : List Value} {i : Nat} {v : Value} (h : L[i]? = some v) (hv : ∀ n, v ≠ .retAddr n) : (i, sv ad v) ∈ pl_lv ad L := by
  have hi : i < L.length := (List.getElem?_eq_some_iff.mp h).1
  exact List.mem_filterMap.mpr ⟨i, List.mem_range.mpr hi, by rw [h]; exact pl_one_some hv⟩
theorem clr_len (L : List Value) (i : Nat) : (p_clr L i).length = L.length := by
  unfold p_clr
  split
  · rfl
  · split
    · split
      · simp
      · rfl
    · rfl
theorem clr_get {L : List Value} {i j : Nat} {w : Value} (h : (p_clr L i)[j]? = some w) (hw : ∀ n, w ≠ .retAddr n) : L[j]? = some w ∧ ¬ (j + 1 = i ∧ w.category = 2) := by
  unfold p_clr at h
  split at h
  · exact ⟨h, fun q => by omega⟩
  · rename_i j'
    split at h
    · rename_i v hv
      split at h
      · rename_i hc
        by_cases e : j' = j
        · subst e
          rw [List.getElem?_set_self (List.getElem?_eq_some_iff.mp hv).1] at h
          cases h
          exact absurd rfl (hw 0)
        · rw [List.getElem?_set_ne e] at h
          exact ⟨h, fun q => by omega⟩
      · rename_i hc
        refine ⟨h, fun q => ?_⟩
        have : j' = j := by omega
        subst this
        rw [hv] at h
        cases h
        exact hc q.2
    · rename_i hn
      refine ⟨h, fun q => ?_⟩
      have : j' = j := by omega
      subst this
      rw [hn] at h
      cases h
theorem pl_of1 {ad : Nat → Nat} {ls : Array Slot} {L : List Value} {i : Nat} {v : Value} (hi : i < L.length) (h : lv_has ls L.length ((i, sv ad v) :: (pl_lv ad L).filter (fun q => !(q.1 == i) && !(q.1 + 1 == i && q.2.category == 2)))) : pl_has ad ls (p_st1 L i v) := by
  refine ⟨by rw [h.1]; unfold p_st1; rw [List.length_set, clr_len], h.2.1, fun j w hj hw => ?_⟩
  unfold p_st1 at hj
  by_cases e : i = j
  · subst e
    rw [List.getElem?_set_self (by rw [clr_len]; exact hi)] at hj
    cases hj
    exact h.2.2 _ List.mem_cons_self
  · rw [List.getElem?_set_ne e] at hj
    obtain ⟨h1, h2⟩ := clr_get hj hw
    refine h.2.2 (j, sv ad w) (List.mem_cons_of_mem _ (List.mem_filter.mpr ⟨pl_in h1 hw, ?_⟩))
    simp only [Bool.and_eq_true, Bool.not_eq_true', beq_eq_false_iff_ne, ne_eq, Bool.and_eq_false_iff]
    refine ⟨fun q => e q.symm, ?_⟩
    by_cases q : j + 1 = i
    · right
      intro hc
      rw [sv_cat] at hc
      exact h2 ⟨q, hc⟩
    · left
      exact q
theorem pl_of2 {ad : Nat → Nat} {ls : Array Slot} {L : List Value} {i : Nat} {v : Value} (hi : i + 1 < L.length) (h : lv_has ls L.length ((i, sv ad v) :: (pl_lv ad L).filter (fun q => !(q.1 == i) && (!(q.1 == i + 1) && !(q.1 + 1 == i && q.2.category == 2))))) : pl_has ad ls (p_st2 L i v) := by
  refine ⟨by rw [h.1]; unfold p_st2; rw [List.length_set, List.length_set, clr_len], h.2.1, fun j w hj hw => ?_⟩
  unfold p_st2 at hj
  by_cases e : i = j
  · subst e
    rw [List.getElem?_set_self (by rw [List.length_set, clr_len]; omega)] at hj
    cases hj
    exact h.2.2 _ List.mem_cons_self
  · rw [List.getElem?_set_ne e] at hj
    by_cases e2 : i + 1 = j
    · subst e2
      rw [List.getElem?_set_self (by rw [clr_len]; exact hi)] at hj
      cases hj
      exact absurd rfl (hw 0)
    · rw [List.getElem?_set_ne e2] at hj
      obtain ⟨h1, h2⟩ := clr_get hj hw
      refine h.2.2 (j, sv ad w) (List.mem_cons_of_mem _ (List.mem_filter.mpr ⟨pl_in h1 hw, ?_⟩))
      simp only [Bool.and_eq_true, Bool.not_eq_true', beq_eq_false_iff_ne, ne_eq, Bool.and_eq_false_iff]
      refine ⟨fun q => e q.symm, fun q => e2 q.symm, ?_⟩
      by_cases q : j + 1 = i
      · right
        intro hc
        rw [sv_cat] at hc
        exact h2 ⟨q, hc⟩
      · left
        exact q
theorem pl_msk {ad : Nat → Nat} {ls : Array Slot} {L : List Value} {km : List Bool} (hk : km.length = L.length) (h : pl_has ad ls L) : pl_has ad ls (p_msk km L) := by
  refine ⟨by rw [h.1]; simp [p_msk, hk], h.2.1, fun j w hj hw => ?_⟩
  unfold p_msk at hj
  rw [List.getElem?_zipWith] at hj
  split at hj
  · rename_i b v hb hv
    cases hj
    cases b with
    | true => exact h.2.2 j v hv hw
    | false => exact absurd rfl (hw 0)
  · cases hj
/-! ===== goals: the machine at a pure state ===== -/
def GW (Wf : Heap → List Loc → Nat → Nat → JFrame → Prop) (m : MethodId) (okp : PT → IJ → (Nat → Nat) → Heap → List Loc → Nat → Nat → Prop) (pc : Nat) (L st : List Value) (T : PT) (ij : IJ) : Prop :=
  ∀ (ad : Nat → Nat) (H : Heap) (locs : List Loc) (cells slots : Nat) (ls : Array Slot), okp T ij ad H locs cells slots → pl_has ad ls L → Wf H locs cells slots (F0 m pc ls (st.map (sv ad)))
section PS
variable {Wf : Heap → List Loc → Nat → Nat → JFrame → Prop} {m : MethodId} {okp : PT → IJ → (Nat → Nat) → Heap → List Loc → Nat → Nat → Prop} {pc nx : Nat} {L st : List Value} {T : PT} {ij : IJ} {α : Type} {r : α}
theorem g_push {v : Value} (hv : ∀ ad, sv ad v = v) (hrow : ∀ H locs cells slots ls rest, Wf H locs cells slots (F0 m nx ls (v :: rest)) → Wf H locs cells slots (F0 m pc ls rest)) (hk : GW Wf m okp nx L (v :: st) T ij) : GW Wf m okp pc L st T ij := by
  intro ad H locs cells slots ls ho hl
  have h1 := hk ad H locs cells slots ls ho hl
  rw [List.map_cons, hv] at h1
  exact hrow _ _ _ _ _ _ h1
theorem g_b1 {f : Int32 → Value} {k : List Value → Option α} (hf : ∀ ad x, sv ad (f x) = f x) (hrow : ∀ H locs cells slots ls x rest, Wf H locs cells slots (F0 m nx ls (f x :: rest)) → Wf H locs cells slots (F0 m pc ls (.int x :: rest)))
    (h : p_b1 st f k = some r) (hk : ∀ st', k st' = some r → GW Wf m okp nx L st' T ij) : GW Wf m okp pc L st T ij := by
  unfold p_b1 at h
  split at h
  · intro ad H locs cells slots ls ho hl
    have h1 := hk _ h ad H locs cells slots ls ho hl
    rw [List.map_cons, hf] at h1
    exact hrow _ _ _ _ _ _ _ h1
  · cases h
theorem g_b2 {f : Int32 → Int32 → Value} {k : List Value → Option α} (hf : ∀ ad x y, sv ad (f x y) = f x y) (hrow : ∀ H locs cells slots ls x y rest, Wf H locs cells slots (F0 m nx ls (f x y :: rest)) → Wf H locs cells slots (F0 m pc ls (.int y :: .int x :: rest)))
    (h : p_b2 st f k = some r) (hk : ∀ st', k st' = some r → GW Wf m okp nx L st' T ij) : GW Wf m okp pc L st T ij := by
  unfold p_b2 at h
  split at h
  · intro ad H locs cells slots ls ho hl
    have h1 := hk _ h ad H locs cells slots ls ho hl
    rw [List.map_cons, hf] at h1
    exact hrow _ _ _ _ _ _ _ _ h1
  · cases h
theorem g_l1 {f : Int64 → Value} {k : List Value → Option α} (hf : ∀ ad x, sv ad (f x) = f x) (hrow : ∀ H locs cells slots ls x rest, Wf H locs cells slots (F0 m nx ls (f x :: rest)) → Wf H locs cells slots (F0 m pc ls (.long x :: rest)))
    (h : p_l1 st f k = some r) (hk : ∀ st', k st' = some r → GW Wf m okp nx L st' T ij) : GW Wf m okp pc L st T ij := by
  unfold p_l1 at h
  split at h
  · intro ad H locs cells slots ls ho hl
    have h1 := hk _ h ad H locs cells slots ls ho hl
    rw [List.map_cons, hf] at h1
    exact hrow _ _ _ _ _ _ _ h1
  · cases h
theorem g_l2 {f : Int64 → Int64 → Value} {k : List Value → Option α} (hf : ∀ ad x y, sv ad (f x y) = f x y) (hrow : ∀ H locs cells slots ls x y rest, Wf H locs cells slots (F0 m nx ls (f x y :: rest)) → Wf H locs cells slots (F0 m pc ls (.long y :: .long x :: rest)))
    (h : p_l2 st f k = some r) (hk : ∀ st', k st' = some r → GW Wf m okp nx L st' T ij) : GW Wf m okp pc L st T ij := by
  unfold p_l2 at h
  split at h
  · intro ad H locs cells slots ls ho hl
    have h1 := hk _ h ad H locs cells slots ls ho hl
    rw [List.map_cons, hf] at h1
    exact hrow _ _ _ _ _ _ _ _ h1
  · cases h
theorem g_ldi {i : Nat} {k : List Value → Option α} (hrow : ∀ H locs cells slots (ls : Array Slot) x rest, ls[i]? = some (.val (.int x)) → Wf H locs cells slots (F0 m nx ls (.int x :: rest)) → Wf H locs cells slots (F0 m pc ls rest))
    (h : p_ldi L i st k = some r) (hk : ∀ st', k st' = some r → GW Wf m okp nx L st' T ij) : GW Wf m okp pc L st T ij := by
  unfold p_ldi at h
  split at h
  · rename_i x hx
    intro ad H locs cells slots ls ho hl
    exact hrow _ _ _ _ _ x _ (hl.2.2 i _ hx (fun n q => by cases q)) (hk _ h ad H locs cells slots ls ho hl)
  · cases h
theorem g_ldl {i : Nat} {k : List Value → Option α} (hrow : ∀ H locs cells slots (ls : Array Slot) x rest, ls[i]? = some (.val (.long x)) → Wf H locs cells slots (F0 m nx ls (.long x :: rest)) → Wf H locs cells slots (F0 m pc ls rest))
    (h : p_ldl L i st k = some r) (hk : ∀ st', k st' = some r → GW Wf m okp nx L st' T ij) : GW Wf m okp pc L st T ij := by
  unfold p_ldl at h
  split at h
  · rename_i x hx
    intro ad H locs cells slots ls ho hl
    exact hrow _ _ _ _ _ x _ (hl.2.2 i _ hx (fun n q => by cases q)) (hk _ h ad H locs cells slots ls ho hl)
  · cases h
theorem g_lda {i : Nat} {k : List Value → Option α} (hrow : ∀ H locs cells slots (ls : Array Slot) x rest, ls[i]? = some (.val (.ref x)) → Wf H locs cells slots (F0 m nx ls (.ref x :: rest)) → Wf H locs cells slots (F0 m pc ls rest))
    (h : p_lda L i st k = some r) (hk : ∀ st', k st' = some r → GW Wf m okp nx L st' T ij) : GW Wf m okp pc L st T ij := by
  unfold p_lda at h
  split at h
  · rename_i x hx
    intro ad H locs cells slots ls ho hl
    exact hrow _ _ _ _ _ (ad x) _ (hl.2.2 i _ hx (fun n q => by cases q)) (hk _ h ad H locs cells slots ls ho hl)
  · cases h
theorem g_sti {i : Nat} {k : List Value → List Value → Option α} (hrow : ∀ H locs cells slots (ls : Array Slot) (nL : Nat) (lv : List (Nat × Value)) x rest, lv_has ls nL lv → i < nL → (∀ ls' : Array Slot, lv_has ls' nL ((i, Value.int x) :: lv.filter (fun q => !(q.1 == i) && !(q.1 + 1 == i && q.2.category == 2))) → Wf H locs cells slots (F0 m nx ls' rest)) → Wf H locs cells slots (F0 m pc ls (.int x :: rest)))
    (h : p_sti L i st k = some r) (hk : ∀ L' st', k L' st' = some r → GW Wf m okp nx L' st' T ij) : GW Wf m okp pc L st T ij := by
  unfold p_sti at h
  simp only [p_bif_dec] at h
  split at h
  · split at h
    · rename_i x r' hi
      intro ad H locs cells slots ls ho hl
      exact hrow _ _ _ _ _ _ _ x _ (pl_to hl) hi (fun ls' hl' => hk _ _ h ad H locs cells slots ls' ho (pl_of1 (ad := ad) (v := .int x) hi hl'))
    · cases h
  · cases h
theorem g_sta {i : Nat} {k : List Value → List Value → Option α} (hrow : ∀ H locs cells slots (ls : Array Slot) (nL : Nat) (lv : List (Nat × Value)) x rest, lv_has ls nL lv → i < nL → (∀ ls' : Array Slot, lv_has ls' nL ((i, Value.ref x) :: lv.filter (fun q => !(q.1 == i) && !(q.1 + 1 == i && q.2.category == 2))) → Wf H locs cells slots (F0 m nx ls' rest)) → Wf H locs cells slots (F0 m pc ls (.ref x :: rest)))
    (h : p_sta L i st k = some r) (hk : ∀ L' st', k L' st' = some r → GW Wf m okp nx L' st' T ij) : GW Wf m okp pc L st T ij := by
  unfold p_sta at h
  simp only [p_bif_dec] at h
  split at h
  · split at h
    · rename_i x r' hi
      intro ad H locs cells slots ls ho hl
      exact hrow _ _ _ _ _ _ _ (ad x) _ (pl_to hl) hi (fun ls' hl' => hk _ _ h ad H locs cells slots ls' ho (pl_of1 (ad := ad) (v := .ref x) hi hl'))
    · cases h
  · cases h
theorem g_stl {i : Nat} {k : List Value → List Value → Option α} (hrow : ∀ H locs cells slots (ls : Array Slot) (nL : Nat) (lv : List (Nat × Value)) x rest, lv_has ls nL lv → i + 1 < nL → (∀ ls' : Array Slot, lv_has ls' nL ((i, Value.long x) :: lv.filter (fun q => !(q.1 == i) && (!(q.1 == i + 1) && !(q.1 + 1 == i && q.2.category == 2)))) → Wf H locs cells slots (F0 m nx ls' rest)) → Wf H locs cells slots (F0 m pc ls (.long x :: rest)))
    (h : p_stl L i st k = some r) (hk : ∀ L' st', k L' st' = some r → GW Wf m okp nx L' st' T ij) : GW Wf m okp pc L st T ij := by
  unfold p_stl at h
  simp only [p_bif_dec] at h
  split at h
  · split at h
    · rename_i x r' hi
      intro ad H locs cells slots ls ho hl
      exact hrow _ _ _ _ _ _ _ x _ (pl_to hl) hi (fun ls' hl' => hk _ _ h ad H locs cells slots ls' ho (pl_of2 (ad := ad) (v := .long x) hi hl'))
    · cases h
  · cases h
theorem g_inc {i : Nat} {v : Int32} {k : List Value → Option α} (hrow : ∀ H locs cells slots (ls : Array Slot) (nL kk : Nat) (lv : List (Nat × Value)) x rest, lv_has ls nL lv → i < nL → lv[kk]? = some (i, .int x) → (∀ ls' : Array Slot, lv_has ls' nL ((i, Value.int (x + v)) :: lv.filter (fun q => !(q.1 == i) && !(q.1 + 1 == i && q.2.category == 2))) → Wf H locs cells slots (F0 m nx ls' rest)) → Wf H locs cells slots (F0 m pc ls rest))
    (h : p_inc L i v k = some r) (hk : ∀ L', k L' = some r → GW Wf m okp nx L' st T ij) : GW Wf m okp pc L st T ij := by
  unfold p_inc at h
  split at h
  · rename_i x hx
    intro ad H locs cells slots ls ho hl
    have hi : i < L.length := (List.getElem?_eq_some_iff.mp hx).1
    obtain ⟨kk, hkk⟩ := List.getElem?_of_mem (pl_in (ad := ad) hx (fun n q => by cases q))
    exact hrow _ _ _ _ _ _ kk _ x _ (pl_to hl) hi hkk (fun ls' hl' => hk _ h ad H locs cells slots ls' ho (pl_of1 (ad := ad) (v := .int (x + v)) hi hl'))
  · cases h
end PS
