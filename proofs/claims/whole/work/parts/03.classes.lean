/-! ===== the classes' facts, by their numbers ===== -/
def cT (ci : Nat) : vw_C := vwCl.getD ci ("", TX0, 0)
theorem mem_gtb {w : Cond} (h : w ∈ lw_tbl) (hg : goodWord w = true) : w ∈ gtb := List.mem_filter.mpr ⟨h, hg⟩
theorem gtb_good : GoodIn gtb gtb := fun w h => ⟨h, good_of_word (List.mem_filter.mp h).2⟩
theorem gtb_sub : ∀ w ∈ gtb, w ∈ lw_tbl := fun w h => (List.mem_filter.mp h).1
def cF (ci : Nat) (ty0 : Nat → FieldType) : Prop := vwCl[ci]? = some (cT ci) ∧ (∀ w ∈ u_ws (cT ci).1 (cT ci).2.1 (cT ci).2.2, w ∈ gtb) ∧ (∀ k, k < (cT ci).2.2 → parseFieldDescriptor ((cT ci).2.1 k).2.2.1 = some (ty0 k)) ∧ (∀ a, a < (cT ci).2.2 → ∀ b, b < (cT ci).2.2 → a ≠ b → ((cT ci).2.1 a).2.1 ≠ ((cT ci).2.1 b).2.1) ∧
  (∀ k, k < (cT ci).2.2 → p_fk ci k = 0 → ty0 k = .int ∧ ((cT ci).2.1 k).2.2.2 = false) ∧ (∀ k, k < (cT ci).2.2 → p_fk ci k = 1 → ty0 k = .boolean ∧ ((cT ci).2.1 k).2.2.2 = false)
theorem u_mem {ws : List Cond} (h : ws.all (fun w => decide (w ∈ lw_tbl) && goodWord w) = true) : ∀ w ∈ ws, w ∈ gtb := by
  intro w hw
  have h1 := List.all_eq_true.mp h w hw
  simp only [Bool.and_eq_true, decide_eq_true_eq] at h1
  exact mem_gtb h1.1 h1.2
set_option maxRecDepth 100000 in
theorem cf_0 : cF 0 tyX0 := ⟨rfl, u_mem (by decide +kernel), tyX0_ok, nmX0, by decide +kernel, by decide +kernel⟩
set_option maxRecDepth 100000 in
theorem cf_1 : cF 1 tyX1 := ⟨rfl, u_mem (by decide +kernel), tyX1_ok, nmX1, by decide +kernel, by decide +kernel⟩
set_option maxRecDepth 100000 in
theorem cf_2 : cF 2 tyX2 := ⟨rfl, u_mem (by decide +kernel), tyX2_ok, nmX2, by decide +kernel, by decide +kernel⟩
set_option maxRecDepth 100000 in
theorem cf_3 : cF 3 tyX3 := ⟨rfl, u_mem (by decide +kernel), tyX3_ok, nmX3, by decide +kernel, by decide +kernel⟩
set_option maxRecDepth 100000 in
theorem cf_4 : cF 4 tyX4 := ⟨rfl, u_mem (by decide +kernel), tyX4_ok, nmX4, by decide +kernel, by decide +kernel⟩
set_option maxRecDepth 100000 in
theorem cf_5 : cF 5 tyX5 := ⟨rfl, u_mem (by decide +kernel), tyX5_ok, nmX5, by decide +kernel, by decide +kernel⟩
set_option maxRecDepth 100000 in
theorem cf_6 : cF 6 tyX6 := ⟨rfl, u_mem (by decide +kernel), tyX6_ok, nmX6, by decide +kernel, by decide +kernel⟩
set_option maxRecDepth 100000 in
theorem cf_7 : cF 7 tyX7 := ⟨rfl, u_mem (by decide +kernel), tyX7_ok, nmX7, by decide +kernel, by decide +kernel⟩
set_option maxRecDepth 100000 in
theorem cf_8 : cF 8 tyX8 := ⟨rfl, u_mem (by decide +kernel), tyX8_ok, nmX8, by decide +kernel, by decide +kernel⟩
set_option maxRecDepth 100000 in
theorem cf_9 : cF 9 tyX9 := ⟨rfl, u_mem (by decide +kernel), tyX9_ok, nmX9, by decide +kernel, by decide +kernel⟩
set_option maxRecDepth 100000 in
theorem cf_10 : cF 10 tyX10 := ⟨rfl, u_mem (by decide +kernel), tyX10_ok, nmX10, by decide +kernel, by decide +kernel⟩
set_option maxRecDepth 100000 in
theorem cf_11 : cF 11 tyX11 := ⟨rfl, u_mem (by decide +kernel), tyX11_ok, nmX11, by decide +kernel, by decide +kernel⟩
set_option maxRecDepth 100000 in
theorem cf_12 : cF 12 tyX12 := ⟨rfl, u_mem (by decide +kernel), tyX12_ok, nmX12, by decide +kernel, by decide +kernel⟩
theorem cf_all : ∀ ci, ci < 13 → ∃ ty0, cF ci ty0 := by
  intro ci h
  match ci, h with
  | 0, _ => exact ⟨_, cf_0⟩
  | 1, _ => exact ⟨_, cf_1⟩
  | 2, _ => exact ⟨_, cf_2⟩
  | 3, _ => exact ⟨_, cf_3⟩
  | 4, _ => exact ⟨_, cf_4⟩
  | 5, _ => exact ⟨_, cf_5⟩
  | 6, _ => exact ⟨_, cf_6⟩
  | 7, _ => exact ⟨_, cf_7⟩
  | 8, _ => exact ⟨_, cf_8⟩
  | 9, _ => exact ⟨_, cf_9⟩
  | 10, _ => exact ⟨_, cf_10⟩
  | 11, _ => exact ⟨_, cf_11⟩
  | 12, _ => exact ⟨_, cf_12⟩
  | n + 13, h => exact absurd h (by omega)
