/-! ===== constants, and the three methods of the JDK that have rows of their own ===== -/
def cI_t : List (List (Nat × Int32 × Nat)) := [[], [(39, 1000000, 1010)], [], [], [], [], [], [(171, 1103515245, 1046)], [], [], [], [], [(348, 1103515245, 1797), (373, 99999, 1773)], [], [], [(265, 1431655765, 1176), (266, 858993459, 1177), (267, 252645135, 1178)]]
def cJ_t : List (List (Nat × Nat × Nat)) := [[], [], [], [], [], [], [], [], [], [], [(89, 10, 674), (91, 48, 675), (96, 27, 361)], [], [(193, 27, 1320)], [], [], []]
def sp_t : List (List (Nat × Nat × Nat)) := [[(32, 3, 855), (42, 1, 899)], [(69, 1, 1179)], [], [(75, 3, 850)], [], [(45, 1, 907), (77, 2, 906)], [(75, 1, 1281)], [(90, 2, 1199), (165, 1, 1052)], [(29, 3, 559), (61, 1, 1188)], [], [], [(189, 2, 962)], [], [], [], []]
def cIk (o : Nat) : List (Nat × Int32 × Nat) := cI_t.getD o []
def cJk (o : Nat) : List (Nat × Nat × Nat) := cJ_t.getD o []
def spk (o : Nat) : List (Nat × Nat × Nat) := sp_t.getD o []
def spN (k : Nat) : MethodName := if k = 1 then Lib.Math.max.name else if k = 2 then Lib.Math.min.name else arraycopyName
set_option maxRecDepth 100000 in
theorem cI_0 : (cIk 0).map (fun q => lw_tbl[q.2.2]?) = (cIk 0).map (fun q => some (Cond.constant (oN 0) q.1 q.2.1)) := rfl
set_option maxRecDepth 100000 in
theorem cJ_0 : (cJk 0).map (fun q => lw_tbl[q.2.2]?) = (cJk 0).map (fun q => some (Cond.constantLong (oN 0) q.1 (Int64.ofNat q.2.1))) := rfl
set_option maxRecDepth 100000 in
theorem sp_0 : (spk 0).map (fun q => lw_tbl[q.2.2]?) = (spk 0).map (fun q => some (Cond.methodLink (oN 0) q.1 (spN q.2.1))) := rfl
set_option maxRecDepth 100000 in
theorem cI_1 : (cIk 1).map (fun q => lw_tbl[q.2.2]?) = (cIk 1).map (fun q => some (Cond.constant (oN 1) q.1 q.2.1)) := rfl
set_option maxRecDepth 100000 in
theorem cJ_1 : (cJk 1).map (fun q => lw_tbl[q.2.2]?) = (cJk 1).map (fun q => some (Cond.constantLong (oN 1) q.1 (Int64.ofNat q.2.1))) := rfl
set_option maxRecDepth 100000 in
theorem sp_1 : (spk 1).map (fun q => lw_tbl[q.2.2]?) = (spk 1).map (fun q => some (Cond.methodLink (oN 1) q.1 (spN q.2.1))) := rfl
set_option maxRecDepth 100000 in
theorem cI_2 : (cIk 2).map (fun q => lw_tbl[q.2.2]?) = (cIk 2).map (fun q => some (Cond.constant (oN 2) q.1 q.2.1)) := rfl
set_option maxRecDepth 100000 in
theorem cJ_2 : (cJk 2).map (fun q => lw_tbl[q.2.2]?) = (cJk 2).map (fun q => some (Cond.constantLong (oN 2) q.1 (Int64.ofNat q.2.1))) := rfl
set_option maxRecDepth 100000 in
theorem sp_2 : (spk 2).map (fun q => lw_tbl[q.2.2]?) = (spk 2).map (fun q => some (Cond.methodLink (oN 2) q.1 (spN q.2.1))) := rfl
set_option maxRecDepth 100000 in
theorem cI_3 : (cIk 3).map (fun q => lw_tbl[q.2.2]?) = (cIk 3).map (fun q => some (Cond.constant (oN 3) q.1 q.2.1)) := rfl
set_option maxRecDepth 100000 in
theorem cJ_3 : (cJk 3).map (fun q => lw_tbl[q.2.2]?) = (cJk 3).map (fun q => some (Cond.constantLong (oN 3) q.1 (Int64.ofNat q.2.1))) := rfl
set_option maxRecDepth 100000 in
theorem sp_3 : (spk 3).map (fun q => lw_tbl[q.2.2]?) = (spk 3).map (fun q => some (Cond.methodLink (oN 3) q.1 (spN q.2.1))) := rfl
set_option maxRecDepth 100000 in
theorem cI_4 : (cIk 4).map (fun q => lw_tbl[q.2.2]?) = (cIk 4).map (fun q => some (Cond.constant (oN 4) q.1 q.2.1)) := rfl
set_option maxRecDepth 100000 in
theorem cJ_4 : (cJk 4).map (fun q => lw_tbl[q.2.2]?) = (cJk 4).map (fun q => some (Cond.constantLong (oN 4) q.1 (Int64.ofNat q.2.1))) := rfl
set_option maxRecDepth 100000 in
theorem sp_4 : (spk 4).map (fun q => lw_tbl[q.2.2]?) = (spk 4).map (fun q => some (Cond.methodLink (oN 4) q.1 (spN q.2.1))) := rfl
set_option maxRecDepth 100000 in
theorem cI_5 : (cIk 5).map (fun q => lw_tbl[q.2.2]?) = (cIk 5).map (fun q => some (Cond.constant (oN 5) q.1 q.2.1)) := rfl
set_option maxRecDepth 100000 in
theorem cJ_5 : (cJk 5).map (fun q => lw_tbl[q.2.2]?) = (cJk 5).map (fun q => some (Cond.constantLong (oN 5) q.1 (Int64.ofNat q.2.1))) := rfl
set_option maxRecDepth 100000 in
theorem sp_5 : (spk 5).map (fun q => lw_tbl[q.2.2]?) = (spk 5).map (fun q => some (Cond.methodLink (oN 5) q.1 (spN q.2.1))) := rfl
set_option maxRecDepth 100000 in
theorem cI_6 : (cIk 6).map (fun q => lw_tbl[q.2.2]?) = (cIk 6).map (fun q => some (Cond.constant (oN 6) q.1 q.2.1)) := rfl
set_option maxRecDepth 100000 in
theorem cJ_6 : (cJk 6).map (fun q => lw_tbl[q.2.2]?) = (cJk 6).map (fun q => some (Cond.constantLong (oN 6) q.1 (Int64.ofNat q.2.1))) := rfl
set_option maxRecDepth 100000 in
theorem sp_6 : (spk 6).map (fun q => lw_tbl[q.2.2]?) = (spk 6).map (fun q => some (Cond.methodLink (oN 6) q.1 (spN q.2.1))) := rfl
set_option maxRecDepth 100000 in
theorem cI_7 : (cIk 7).map (fun q => lw_tbl[q.2.2]?) = (cIk 7).map (fun q => some (Cond.constant (oN 7) q.1 q.2.1)) := rfl
set_option maxRecDepth 100000 in
theorem cJ_7 : (cJk 7).map (fun q => lw_tbl[q.2.2]?) = (cJk 7).map (fun q => some (Cond.constantLong (oN 7) q.1 (Int64.ofNat q.2.1))) := rfl
set_option maxRecDepth 100000 in
theorem sp_7 : (spk 7).map (fun q => lw_tbl[q.2.2]?) = (spk 7).map (fun q => some (Cond.methodLink (oN 7) q.1 (spN q.2.1))) := rfl
set_option maxRecDepth 100000 in
theorem cI_8 : (cIk 8).map (fun q => lw_tbl[q.2.2]?) = (cIk 8).map (fun q => some (Cond.constant (oN 8) q.1 q.2.1)) := rfl
set_option maxRecDepth 100000 in
theorem cJ_8 : (cJk 8).map (fun q => lw_tbl[q.2.2]?) = (cJk 8).map (fun q => some (Cond.constantLong (oN 8) q.1 (Int64.ofNat q.2.1))) := rfl
set_option maxRecDepth 100000 in
theorem sp_8 : (spk 8).map (fun q => lw_tbl[q.2.2]?) = (spk 8).map (fun q => some (Cond.methodLink (oN 8) q.1 (spN q.2.1))) := rfl
set_option maxRecDepth 100000 in
theorem cI_9 : (cIk 9).map (fun q => lw_tbl[q.2.2]?) = (cIk 9).map (fun q => some (Cond.constant (oN 9) q.1 q.2.1)) := rfl
set_option maxRecDepth 100000 in
theorem cJ_9 : (cJk 9).map (fun q => lw_tbl[q.2.2]?) = (cJk 9).map (fun q => some (Cond.constantLong (oN 9) q.1 (Int64.ofNat q.2.1))) := rfl
set_option maxRecDepth 100000 in
theorem sp_9 : (spk 9).map (fun q => lw_tbl[q.2.2]?) = (spk 9).map (fun q => some (Cond.methodLink (oN 9) q.1 (spN q.2.1))) := rfl
set_option maxRecDepth 100000 in
theorem cI_10 : (cIk 10).map (fun q => lw_tbl[q.2.2]?) = (cIk 10).map (fun q => some (Cond.constant (oN 10) q.1 q.2.1)) := rfl
set_option maxRecDepth 100000 in
theorem cJ_10 : (cJk 10).map (fun q => lw_tbl[q.2.2]?) = (cJk 10).map (fun q => some (Cond.constantLong (oN 10) q.1 (Int64.ofNat q.2.1))) := rfl
set_option maxRecDepth 100000 in
theorem sp_10 : (spk 10).map (fun q => lw_tbl[q.2.2]?) = (spk 10).map (fun q => some (Cond.methodLink (oN 10) q.1 (spN q.2.1))) := rfl
set_option maxRecDepth 100000 in
theorem cI_11 : (cIk 11).map (fun q => lw_tbl[q.2.2]?) = (cIk 11).map (fun q => some (Cond.constant (oN 11) q.1 q.2.1)) := rfl
set_option maxRecDepth 100000 in
theorem cJ_11 : (cJk 11).map (fun q => lw_tbl[q.2.2]?) = (cJk 11).map (fun q => some (Cond.constantLong (oN 11) q.1 (Int64.ofNat q.2.1))) := rfl
set_option maxRecDepth 100000 in
theorem sp_11 : (spk 11).map (fun q => lw_tbl[q.2.2]?) = (spk 11).map (fun q => some (Cond.methodLink (oN 11) q.1 (spN q.2.1))) := rfl
set_option maxRecDepth 100000 in
theorem cI_12 : (cIk 12).map (fun q => lw_tbl[q.2.2]?) = (cIk 12).map (fun q => some (Cond.constant (oN 12) q.1 q.2.1)) := rfl
set_option maxRecDepth 100000 in
theorem cJ_12 : (cJk 12).map (fun q => lw_tbl[q.2.2]?) = (cJk 12).map (fun q => some (Cond.constantLong (oN 12) q.1 (Int64.ofNat q.2.1))) := rfl
set_option maxRecDepth 100000 in
theorem sp_12 : (spk 12).map (fun q => lw_tbl[q.2.2]?) = (spk 12).map (fun q => some (Cond.methodLink (oN 12) q.1 (spN q.2.1))) := rfl
set_option maxRecDepth 100000 in
theorem cI_13 : (cIk 13).map (fun q => lw_tbl[q.2.2]?) = (cIk 13).map (fun q => some (Cond.constant (oN 13) q.1 q.2.1)) := rfl
set_option maxRecDepth 100000 in
theorem cJ_13 : (cJk 13).map (fun q => lw_tbl[q.2.2]?) = (cJk 13).map (fun q => some (Cond.constantLong (oN 13) q.1 (Int64.ofNat q.2.1))) := rfl
set_option maxRecDepth 100000 in
theorem sp_13 : (spk 13).map (fun q => lw_tbl[q.2.2]?) = (spk 13).map (fun q => some (Cond.methodLink (oN 13) q.1 (spN q.2.1))) := rfl
set_option maxRecDepth 100000 in
theorem cI_14 : (cIk 14).map (fun q => lw_tbl[q.2.2]?) = (cIk 14).map (fun q => some (Cond.constant (oN 14) q.1 q.2.1)) := rfl
set_option maxRecDepth 100000 in
theorem cJ_14 : (cJk 14).map (fun q => lw_tbl[q.2.2]?) = (cJk 14).map (fun q => some (Cond.constantLong (oN 14) q.1 (Int64.ofNat q.2.1))) := rfl
set_option maxRecDepth 100000 in
theorem sp_14 : (spk 14).map (fun q => lw_tbl[q.2.2]?) = (spk 14).map (fun q => some (Cond.methodLink (oN 14) q.1 (spN q.2.1))) := rfl
set_option maxRecDepth 100000 in
theorem cI_15 : (cIk 15).map (fun q => lw_tbl[q.2.2]?) = (cIk 15).map (fun q => some (Cond.constant (oN 15) q.1 q.2.1)) := rfl
set_option maxRecDepth 100000 in
theorem cJ_15 : (cJk 15).map (fun q => lw_tbl[q.2.2]?) = (cJk 15).map (fun q => some (Cond.constantLong (oN 15) q.1 (Int64.ofNat q.2.1))) := rfl
set_option maxRecDepth 100000 in
theorem sp_15 : (spk 15).map (fun q => lw_tbl[q.2.2]?) = (spk 15).map (fun q => some (Cond.methodLink (oN 15) q.1 (spN q.2.1))) := rfl
theorem cI_all : ∀ o, ∀ q ∈ cIk o, Cond.constant (oN o) q.1 q.2.1 ∈ gtb := by
  intro o q h
  match o, h with
  | 0, h => exact gats cI_0 (fun _ => rfl) q h
  | 1, h => exact gats cI_1 (fun _ => rfl) q h
  | 2, h => exact gats cI_2 (fun _ => rfl) q h
  | 3, h => exact gats cI_3 (fun _ => rfl) q h
  | 4, h => exact gats cI_4 (fun _ => rfl) q h
  | 5, h => exact gats cI_5 (fun _ => rfl) q h
  | 6, h => exact gats cI_6 (fun _ => rfl) q h
  | 7, h => exact gats cI_7 (fun _ => rfl) q h
  | 8, h => exact gats cI_8 (fun _ => rfl) q h
  | 9, h => exact gats cI_9 (fun _ => rfl) q h
  | 10, h => exact gats cI_10 (fun _ => rfl) q h
  | 11, h => exact gats cI_11 (fun _ => rfl) q h
  | 12, h => exact gats cI_12 (fun _ => rfl) q h
  | 13, h => exact gats cI_13 (fun _ => rfl) q h
  | 14, h => exact gats cI_14 (fun _ => rfl) q h
  | 15, h => exact gats cI_15 (fun _ => rfl) q h
  | n + 16, h => exact absurd h (by simp [cIk, cI_t])
theorem cJ_all : ∀ o, ∀ q ∈ cJk o, Cond.constantLong (oN o) q.1 (Int64.ofNat q.2.1) ∈ gtb := by
  intro o q h
  match o, h with
  | 0, h => exact gats cJ_0 (fun _ => rfl) q h
  | 1, h => exact gats cJ_1 (fun _ => rfl) q h
  | 2, h => exact gats cJ_2 (fun _ => rfl) q h
  | 3, h => exact gats cJ_3 (fun _ => rfl) q h
  | 4, h => exact gats cJ_4 (fun _ => rfl) q h
  | 5, h => exact gats cJ_5 (fun _ => rfl) q h
  | 6, h => exact gats cJ_6 (fun _ => rfl) q h
  | 7, h => exact gats cJ_7 (fun _ => rfl) q h
  | 8, h => exact gats cJ_8 (fun _ => rfl) q h
  | 9, h => exact gats cJ_9 (fun _ => rfl) q h
  | 10, h => exact gats cJ_10 (fun _ => rfl) q h
  | 11, h => exact gats cJ_11 (fun _ => rfl) q h
  | 12, h => exact gats cJ_12 (fun _ => rfl) q h
  | 13, h => exact gats cJ_13 (fun _ => rfl) q h
  | 14, h => exact gats cJ_14 (fun _ => rfl) q h
  | 15, h => exact gats cJ_15 (fun _ => rfl) q h
  | n + 16, h => exact absurd h (by simp [cJk, cJ_t])
theorem sp_all : ∀ o, ∀ q ∈ spk o, Cond.methodLink (oN o) q.1 (spN q.2.1) ∈ gtb := by
  intro o q h
  match o, h with
  | 0, h => exact gats sp_0 (fun _ => rfl) q h
  | 1, h => exact gats sp_1 (fun _ => rfl) q h
  | 2, h => exact gats sp_2 (fun _ => rfl) q h
  | 3, h => exact gats sp_3 (fun _ => rfl) q h
  | 4, h => exact gats sp_4 (fun _ => rfl) q h
  | 5, h => exact gats sp_5 (fun _ => rfl) q h
  | 6, h => exact gats sp_6 (fun _ => rfl) q h
  | 7, h => exact gats sp_7 (fun _ => rfl) q h
  | 8, h => exact gats sp_8 (fun _ => rfl) q h
  | 9, h => exact gats sp_9 (fun _ => rfl) q h
  | 10, h => exact gats sp_10 (fun _ => rfl) q h
  | 11, h => exact gats sp_11 (fun _ => rfl) q h
  | 12, h => exact gats sp_12 (fun _ => rfl) q h
  | 13, h => exact gats sp_13 (fun _ => rfl) q h
  | 14, h => exact gats sp_14 (fun _ => rfl) q h
  | 15, h => exact gats sp_15 (fun _ => rfl) q h
  | n + 16, h => exact absurd h (by simp [spk, sp_t])
set_option maxRecDepth 100000 in
theorem w_acn : Cond.native arraycopyName ∈ gtb := gat (i := 561) rfl rfl
set_option maxRecDepth 100000 in
theorem w_acs : Cond.static arraycopyName ∈ gtb := gat (i := 560) rfl rfl
set_option maxRecDepth 100000 in
theorem w_aci : Cond.initialized "java/lang/System" ∈ gtb := gat (i := 124) rfl rfl
set_option maxRecDepth 100000 in
theorem w_mxs : Cond.static Lib.Math.max.name ∈ gtb := gat (i := 693) rfl rfl
set_option maxRecDepth 100000 in
theorem w_mxc : Cond.code Lib.Math.max.name Lib.Math.max.code 2 (some .int) ∈ gtb := gat (i := 694) rfl rfl
set_option maxRecDepth 100000 in
theorem w_mis : Cond.static Lib.Math.min.name ∈ gtb := gat (i := 696) rfl rfl
set_option maxRecDepth 100000 in
theorem w_mic : Cond.code Lib.Math.min.name Lib.Math.min.code 2 (some .int) ∈ gtb := gat (i := 697) rfl rfl
set_option maxRecDepth 100000 in
theorem w_mai : Cond.initialized "java/lang/Math" ∈ gtb := gat (i := 127) rfl rfl
