set_option maxRecDepth 100000 in
theorem ckl_0 : (List.range 40).all (fun j => ckT 13 code C_L_law (0 + j)) = true := by decide +kernel
set_option maxRecDepth 100000 in
theorem ckl_1 : (List.range 40).all (fun j => ckT 13 code C_L_law (40 + j)) = true := by decide +kernel
set_option maxRecDepth 100000 in
theorem ckl_2 : (List.range 40).all (fun j => ckT 13 code C_L_law (80 + j)) = true := by decide +kernel
set_option maxRecDepth 100000 in
theorem ckl_3 : (List.range 40).all (fun j => ckT 13 code C_L_law (120 + j)) = true := by decide +kernel
set_option maxRecDepth 100000 in
theorem ckl_4 : (List.range 40).all (fun j => ckT 13 code C_L_law (160 + j)) = true := by decide +kernel
set_option maxRecDepth 100000 in
theorem ckl_5 : (List.range 40).all (fun j => ckT 13 code C_L_law (200 + j)) = true := by decide +kernel
set_option maxRecDepth 100000 in
theorem ckl_6 : (List.range 40).all (fun j => ckT 13 code C_L_law (240 + j)) = true := by decide +kernel
set_option maxRecDepth 100000 in
theorem ckl_7 : (List.range 40).all (fun j => ckT 13 code C_L_law (280 + j)) = true := by decide +kernel
set_option maxRecDepth 100000 in
theorem ckl_8 : (List.range 40).all (fun j => ckT 13 code C_L_law (320 + j)) = true := by decide +kernel
set_option maxRecDepth 100000 in
theorem ckl_9 : (List.range 40).all (fun j => ckT 13 code C_L_law (360 + j)) = true := by decide +kernel
set_option maxRecDepth 100000 in
theorem ckl_10 : (List.range 40).all (fun j => ckT 13 code C_L_law (400 + j)) = true := by decide +kernel
set_option maxRecDepth 100000 in
theorem ckl_11 : (List.range 40).all (fun j => ckT 13 code C_L_law (440 + j)) = true := by decide +kernel
set_option maxRecDepth 100000 in
theorem ckl_12 : (List.range 40).all (fun j => ckT 13 code C_L_law (480 + j)) = true := by decide +kernel
set_option maxRecDepth 100000 in
theorem ckl_13 : (List.range 40).all (fun j => ckT 13 code C_L_law (520 + j)) = true := by decide +kernel
set_option maxRecDepth 100000 in
theorem ckl_14 : (List.range 40).all (fun j => ckT 13 code C_L_law (560 + j)) = true := by decide +kernel
set_option maxRecDepth 100000 in
theorem ckl_15 : (List.range 40).all (fun j => ckT 13 code C_L_law (600 + j)) = true := by decide +kernel
set_option maxRecDepth 100000 in
theorem ckl_16 : (List.range 40).all (fun j => ckT 13 code C_L_law (640 + j)) = true := by decide +kernel
set_option maxRecDepth 100000 in
theorem ckl_17 : (List.range 40).all (fun j => ckT 13 code C_L_law (680 + j)) = true := by decide +kernel
set_option maxRecDepth 100000 in
theorem ckl_18 : (List.range 40).all (fun j => ckT 13 code C_L_law (720 + j)) = true := by decide +kernel
set_option maxRecDepth 100000 in
theorem ckl_19 : (List.range 40).all (fun j => ckT 13 code C_L_law (760 + j)) = true := by decide +kernel
set_option maxRecDepth 100000 in
theorem ckl_20 : (List.range 40).all (fun j => ckT 13 code C_L_law (800 + j)) = true := by decide +kernel
set_option maxRecDepth 100000 in
theorem ckl_21 : (List.range 40).all (fun j => ckT 13 code C_L_law (840 + j)) = true := by decide +kernel
set_option maxRecDepth 100000 in
theorem ckl_22 : (List.range 40).all (fun j => ckT 13 code C_L_law (880 + j)) = true := by decide +kernel
set_option maxRecDepth 100000 in
theorem ckl_23 : (List.range 40).all (fun j => ckT 13 code C_L_law (920 + j)) = true := by decide +kernel
set_option maxRecDepth 100000 in
theorem ckl_24 : (List.range 40).all (fun j => ckT 13 code C_L_law (960 + j)) = true := by decide +kernel
set_option maxRecDepth 100000 in
theorem ckl_25 : (List.range 40).all (fun j => ckT 13 code C_L_law (1000 + j)) = true := by decide +kernel
set_option maxRecDepth 100000 in
theorem ckl_26 : (List.range 40).all (fun j => ckT 13 code C_L_law (1040 + j)) = true := by decide +kernel
set_option maxRecDepth 100000 in
theorem ckl_27 : (List.range 40).all (fun j => ckT 13 code C_L_law (1080 + j)) = true := by decide +kernel
set_option maxRecDepth 100000 in
theorem ckl_28 : (List.range 40).all (fun j => ckT 13 code C_L_law (1120 + j)) = true := by decide +kernel
set_option maxRecDepth 100000 in
theorem ckl_29 : (List.range 40).all (fun j => ckT 13 code C_L_law (1160 + j)) = true := by decide +kernel
set_option maxRecDepth 100000 in
theorem ckl_30 : (List.range 40).all (fun j => ckT 13 code C_L_law (1200 + j)) = true := by decide +kernel
theorem ckl (k : Nat) (hk : k < 31) : (List.range 40).all (fun j => ckT 13 code C_L_law (40 * k + j)) = true := by
  have h9 : k = 0 ∨ k = 1 ∨ k = 2 ∨ k = 3 ∨ k = 4 ∨ k = 5 ∨ k = 6 ∨ k = 7 ∨ k = 8 ∨ k = 9 ∨ k = 10 ∨ k = 11 ∨ k = 12 ∨ k = 13 ∨ k = 14 ∨ k = 15 ∨ k = 16 ∨ k = 17 ∨ k = 18 ∨ k = 19 ∨ k = 20 ∨ k = 21 ∨ k = 22 ∨ k = 23 ∨ k = 24 ∨ k = 25 ∨ k = 26 ∨ k = 27 ∨ k = 28 ∨ k = 29 ∨ k = 30 := by omega
  rcases h9 with rfl | rfl | rfl | rfl | rfl | rfl | rfl | rfl | rfl | rfl | rfl | rfl | rfl | rfl | rfl | rfl | rfl | rfl | rfl | rfl | rfl | rfl | rfl | rfl | rfl | rfl | rfl | rfl | rfl | rfl | rfl
  · exact ckl_0
  · exact ckl_1
  · exact ckl_2
  · exact ckl_3
  · exact ckl_4
  · exact ckl_5
  · exact ckl_6
  · exact ckl_7
  · exact ckl_8
  · exact ckl_9
  · exact ckl_10
  · exact ckl_11
  · exact ckl_12
  · exact ckl_13
  · exact ckl_14
  · exact ckl_15
  · exact ckl_16
  · exact ckl_17
  · exact ckl_18
  · exact ckl_19
  · exact ckl_20
  · exact ckl_21
  · exact ckl_22
  · exact ckl_23
  · exact ckl_24
  · exact ckl_25
  · exact ckl_26
  · exact ckl_27
  · exact ckl_28
  · exact ckl_29
  · exact ckl_30
