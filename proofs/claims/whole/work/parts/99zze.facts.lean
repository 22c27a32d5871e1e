/-! ===== the law's entry: what is known of the machine ===== -/
set_option maxRecDepth 100000 in
theorem w_over : Cond.arrayOver (.object "SewnRoads$State") ∈ lw_tbl := by decide +kernel
set_option maxRecDepth 100000 in
theorem w_str1 : Cond.stringRef "SewnRoads$Tokens" 29 tx1 ∈ lw_tbl := by decide +kernel
set_option maxRecDepth 100000 in
theorem w_str2 : Cond.stringRef "SewnRoads$Tokens" 78 tx2 ∈ lw_tbl := by decide +kernel
set_option maxRecDepth 100000 in
theorem w_stc : Cond.laysStatic "java/lang/String" "COMPACT_STRINGS" "Z" ∈ lw_tbl ∧ Cond.initialized "java/lang/String" ∈ lw_tbl := by decide +kernel
set_option maxRecDepth 100000 in
theorem w_stf : Cond.laysStatic "jdk/internal/util/Preconditions" "SIOOBE_FORMATTER" "Ljava/util/function/BiFunction;" ∈ lw_tbl ∧ Cond.initialized "jdk/internal/util/Preconditions" ∈ lw_tbl := by decide +kernel
theorem K_of {s : State} {args : Array Value} (hts : ∀ w ∈ lw_tbl, w.before args s = true) : ∃ (D : va_G) (aT : Nat → ClassId), va_K D vwCl (p_tys aT) s := by
  have h0 : ∀ ci : Nat, ∃ q : ClassId × (Nat → Nat), ci < 13 → u_Kn s (cT ci).1 (cT ci).2.1 (cT ci).2.2 q.1 q.2 := by
    intro ci
    by_cases h : ci < 13
    · obtain ⟨ty0, f⟩ := cf_all ci h
      obtain ⟨cC, iS, k⟩ := u_known (C := (cT ci).1) (T := (cT ci).2.1) (N := (cT ci).2.2) (n := (cT ci).2.2) (ws := lw_tbl) hts (fun w hw => gtb_sub _ (f.2.1 w hw)) (hts _ (gtb_sub _ (in_all ci h).1))
      exact ⟨(cC, iS), fun _ => k⟩
    · exact ⟨(0, fun _ => 0), fun h9 => absurd h9 h⟩
  obtain ⟨q, hq⟩ := Classical.axiomOfChoice h0
  have ar : ∀ ty : FieldType, Cond.arrayClass ty ∈ gtb → ∃ cA, ArrOfT s cA ty ∧ s.vm.findClass ("[" ++ ty.toString) = some cA := by
    intro ty h
    obtain ⟨cA, kA, comp, h1, h2, h3⟩ := Cond.arrayClass_spec (hts _ (gtb_sub _ h))
    exact ⟨cA, fun n z => ⟨fun k h => (by cases h), kA, h2, comp, h3⟩, h1⟩
  obtain ⟨c0, a0, b0⟩ := ar .int w_aint
  obtain ⟨c1, a1, b1⟩ := ar .byte w_abyte
  obtain ⟨c2, a2, b2⟩ := ar .boolean w_aboolean
  obtain ⟨c3, a3, b3⟩ := ar .long w_along
  obtain ⟨comp, c4, k4, o1, o2, o3, o4, o5⟩ := Cond.arrayOver_spec (hts _ w_over)
  refine ⟨(fun i => (q i).1, fun i => (q i).2), fun k => if k = 100 then c0 else if k = 101 then c1 else if k = 102 then c2 else if k = 103 then c3 else c4, fun ci r hr => ?_, fun k r hr => ?_⟩
  · have hl : ci < 13 := (List.getElem?_eq_some_iff.mp hr).1
    obtain ⟨ty0, f⟩ := cf_all ci hl
    have e : r = cT ci := by rw [f.1] at hr; exact (Option.some.inj hr).symm
    subst e
    exact hq ci hl
  · match k, hr with
    | 0, hr => obtain rfl := Option.some.inj hr; exact ⟨a0, b0⟩
    | 1, hr => obtain rfl := Option.some.inj hr; exact ⟨a1, b1⟩
    | 2, hr => obtain rfl := Option.some.inj hr; exact ⟨a2, b2⟩
    | 3, hr => obtain rfl := Option.some.inj hr; exact ⟨a3, b3⟩
    | 4, hr => obtain rfl := Option.some.inj hr; exact ⟨fun n z => ⟨fun k h => (by cases h), k4, o3, comp, o4⟩, k4, comp, o3, o4, o1, o5⟩
    | k + 5, hr => cases hr
abbrev lwN : Cond := Jvm.Cond.and given_1 narrow_1
def tmS (i : Nat) : Term := Term.string "SewnRoads$Tokens" (if i = 0 then 29 else 78)
set_option maxRecDepth 100000 in
theorem wd1 : ∀ i, i < 2 → Cond.exactly (tmS i) "java/lang/String" ∈ flatC lwN := by decide +kernel
set_option maxRecDepth 100000 in
theorem wd2 : ∀ i, i < 2 → Cond.eq (.field (tmS i) "java/lang/String" "coder" "B") (.int 0) ∈ flatC lwN := by decide +kernel
set_option maxRecDepth 100000 in
theorem wd3 : ∀ i, i < 2 → Cond.arrayOf (.field (tmS i) "java/lang/String" "value" "[B") .byte ∈ flatC lwN := by decide +kernel
set_option maxRecDepth 100000 in
theorem wd4 : ∀ i, i < 2 → Cond.eq (.length (.field (tmS i) "java/lang/String" "value" "[B")) (.int (Int32.ofNat ([128, 9].getD i 0))) ∈ flatC lwN := by decide +kernel
set_option maxRecDepth 100000 in
theorem wd5 : ∀ i, i < 2 → ∀ j, j < [128, 9].getD i 0 → Cond.eq (.elem (.field (tmS i) "java/lang/String" "value" "[B") (.int (Int32.ofNat j))) (.int (([by1, by2].getD i []).getD j 0)) ∈ flatC lwN := by decide +kernel
set_option maxRecDepth 100000 in
theorem wd6 : Cond.not (Cond.eq (tmS 0) (tmS 1)) ∈ flatC lwN := by decide +kernel
set_option maxRecDepth 100000 in
theorem wd7 : Cond.eq (.static "java/lang/String" "COMPACT_STRINGS" "Z") (.int 1) ∈ flatC lwN := by decide +kernel
set_option maxRecDepth 100000 in
theorem wd8 : Cond.isRef (.static "jdk/internal/util/Preconditions" "SIOOBE_FORMATTER" "Ljava/util/function/BiFunction;") ∈ flatC lwN := by decide +kernel
theorem SG_of {s : State} {b : Nat} (hts : ∀ w ∈ lw_tbl, w.before #[Value.ref b] s = true) (hg : lwN.before #[Value.ref b] s = true) : ∃ ad : Nat → Nat, ad 100000 = b ∧ SG ad (fun q => s.heap.size ≤ q) s s.heap := by
  have hs := flat_of_before _ hg
  have hA : ∀ a : Nat, a < s.heap.size → ¬ s.heap.size ≤ a := fun a h => by omega
  obtain ⟨adK, adV, h1, h2⟩ := vk_Sof (args := #[Value.ref b]) (s := s) (N := 2) (tm := tmS) (len := [128, 9]) (byt := [by1, by2]) (A := fun q => s.heap.size ≤ q) (by decide) (fun i hi => hs _ (wd1 i hi)) (fun i hi => hs _ (wd2 i hi)) (fun i hi => hs _ (wd3 i hi)) (fun i hi => hs _ (wd4 i hi)) (fun i hi j hj => hs _ (wd5 i hi j hj)) (fun i j hi hj hij => by
    have : (i = 0 ∧ j = 1) ∨ (i = 1 ∧ j = 0) := by omega
    rcases this with ⟨rfl, rfl⟩ | ⟨rfl, rfl⟩
    · exact Or.inl (hs _ wd6)
    · exact Or.inr (hs _ wd6)) hA
  have e1 : (fun i => (fun k => if k = 100000 then b else if k % 2 = 1 then adK ((k - 100001) / 2) else adV ((k - 100002) / 2)) (100001 + 2 * i)) = adK := by
    funext i
    dsimp only
    rw [if_neg (by omega), if_pos (by omega)]
    congr 1; omega
  have e2 : (fun i => (fun k => if k = 100000 then b else if k % 2 = 1 then adK ((k - 100001) / 2) else adV ((k - 100002) / 2)) (100002 + 2 * i)) = adV := by
    funext i
    dsimp only
    rw [if_neg (by omega), if_neg (by omega)]
    congr 1; omega
  refine ⟨fun k => if k = 100000 then b else if k % 2 = 1 then adK ((k - 100001) / 2) else adV ((k - 100002) / 2), if_pos rfl, ⟨?_, va_Zof (hts _ w_stc.1) (hts _ w_stc.2) (va_eqt (hs _ wd7)) hA, va_Zqof (hts _ w_stf.1) (hts _ w_stf.2) (hs _ wd8) hA⟩, ?_, ?_⟩
  · rw [e1, e2]; exact h1
  · exact vk_R.of (A := #[Value.ref b]) (hts _ w_str1) (h2 0 (by decide))
  · exact vk_R.of (A := #[Value.ref b]) (hts _ w_str2) (h2 1 (by decide))
