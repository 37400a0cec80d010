theorem in_X1 : ∀ w ∈ u_ws RX1 TX1 5, w ∈ xw_all := by
  have h1 : ∀ w ∈ u_ws RX1 TX1 5, w ∈ lw_tbl := by decide +kernel
  have h2 : (u_ws RX1 TX1 5).all goodWord = true := by decide +kernel
  exact fun w hw => xw_of (h1 w hw) (List.all_eq_true.mp h2 w hw)
theorem in_X2 : ∀ w ∈ u_ws RX2 TX2 4, w ∈ xw_all := by
  have h1 : ∀ w ∈ u_ws RX2 TX2 4, w ∈ lw_tbl := by decide +kernel
  have h2 : (u_ws RX2 TX2 4).all goodWord = true := by decide +kernel
  exact fun w hw => xw_of (h1 w hw) (List.all_eq_true.mp h2 w hw)
theorem in_X3 : ∀ w ∈ u_ws RX3 TX3 5, w ∈ xw_all := by
  have h1 : ∀ w ∈ u_ws RX3 TX3 5, w ∈ lw_tbl := by decide +kernel
  have h2 : (u_ws RX3 TX3 5).all goodWord = true := by decide +kernel
  exact fun w hw => xw_of (h1 w hw) (List.all_eq_true.mp h2 w hw)
theorem in_X5 : ∀ w ∈ u_ws RX5 TX5 9, w ∈ xw_all := by
  have h1 : ∀ w ∈ u_ws RX5 TX5 9, w ∈ lw_tbl := by decide +kernel
  have h2 : (u_ws RX5 TX5 9).all goodWord = true := by decide +kernel
  exact fun w hw => xw_of (h1 w hw) (List.all_eq_true.mp h2 w hw)
theorem in_X6 : ∀ w ∈ u_ws RX6 TX6 5, w ∈ xw_all := by
  have h1 : ∀ w ∈ u_ws RX6 TX6 5, w ∈ lw_tbl := by decide +kernel
  have h2 : (u_ws RX6 TX6 5).all goodWord = true := by decide +kernel
  exact fun w hw => xw_of (h1 w hw) (List.all_eq_true.mp h2 w hw)
theorem in_X7 : ∀ w ∈ u_ws RX7 TX7 29, w ∈ xw_all := by
  have h1 : ∀ w ∈ u_ws RX7 TX7 29, w ∈ lw_tbl := by decide +kernel
  have h2 : (u_ws RX7 TX7 29).all goodWord = true := by decide +kernel
  exact fun w hw => xw_of (h1 w hw) (List.all_eq_true.mp h2 w hw)
theorem fd_X0_15 : xfd RX0 15 3 9 6 := ⟨RX5, TX5, rfl, in_X5, by decide, rfl, Or.inr ⟨"SaltSaints", xw_nof (xw_1 (List.mem_of_getElem? (i := 100) (by decide +kernel))) rfl⟩⟩
theorem fd_X0_33 : xfd RX0 33 3 9 0 := ⟨RX5, TX5, rfl, in_X5, by decide, rfl, Or.inr ⟨"SaltSaints", xw_nof (xw_1 (List.mem_of_getElem? (i := 89) (by decide +kernel))) rfl⟩⟩
theorem fd_X0_37 : xfd RX0 37 2 5 2 := ⟨RX3, TX3, rfl, in_X3, by decide, rfl, Or.inr ⟨"SaltSaints", xw_nof (xw_1 (List.mem_of_getElem? (i := 67) (by decide +kernel))) rfl⟩⟩
theorem fd_X0_49 : xfd RX0 49 2 5 3 := ⟨RX3, TX3, rfl, in_X3, by decide, rfl, Or.inr ⟨"SaltSaints", xw_nof (xw_1 (List.mem_of_getElem? (i := 72) (by decide +kernel))) rfl⟩⟩
theorem fd_X0_52 : xfd RX0 52 2 5 0 := ⟨RX3, TX3, rfl, in_X3, by decide, rfl, Or.inr ⟨"SaltSaints", xw_nof (xw_1 (List.mem_of_getElem? (i := 63) (by decide +kernel))) rfl⟩⟩
theorem fd_X0_56 : xfd RX0 56 3 9 1 := ⟨RX5, TX5, rfl, in_X5, by decide, rfl, Or.inr ⟨"SaltSaints", xw_nof (xw_1 (List.mem_of_getElem? (i := 91) (by decide +kernel))) rfl⟩⟩
theorem fd_X0_59 : xfd RX0 59 3 9 2 := ⟨RX5, TX5, rfl, in_X5, by decide, rfl, Or.inr ⟨"SaltSaints", xw_nof (xw_1 (List.mem_of_getElem? (i := 94) (by decide +kernel))) rfl⟩⟩
theorem fp_X1_24 : xfp RX1 24 0 5 4 .int := ⟨RX1, TX1, tyX1, rfl, in_X1, by decide, rfl, Or.inl (xw_of (xw_1 (List.mem_of_getElem? (i := 134) (by decide +kernel))) rfl), tyX1_ok, nmX1, rfl, tyX1_ok 4 (by decide)⟩
theorem fd_X1_24 : xfd RX1 24 0 5 4 := ⟨RX1, TX1, rfl, in_X1, by decide, rfl, Or.inl (xw_of (xw_1 (List.mem_of_getElem? (i := 134) (by decide +kernel))) rfl)⟩
theorem fd_X1_9 : xfd RX1 9 0 5 0 := ⟨RX1, TX1, rfl, in_X1, by decide, rfl, Or.inl (xw_of (xw_1 (List.mem_of_getElem? (i := 130) (by decide +kernel))) rfl)⟩
theorem fd_X1_15 : xfd RX1 15 0 5 1 := ⟨RX1, TX1, rfl, in_X1, by decide, rfl, Or.inl (xw_of (xw_1 (List.mem_of_getElem? (i := 131) (by decide +kernel))) rfl)⟩
theorem fd_X1_18 : xfd RX1 18 0 5 2 := ⟨RX1, TX1, rfl, in_X1, by decide, rfl, Or.inl (xw_of (xw_1 (List.mem_of_getElem? (i := 132) (by decide +kernel))) rfl)⟩
theorem fd_X1_21 : xfd RX1 21 0 5 3 := ⟨RX1, TX1, rfl, in_X1, by decide, rfl, Or.inl (xw_of (xw_1 (List.mem_of_getElem? (i := 133) (by decide +kernel))) rfl)⟩
theorem fp_X2_15 : xfp RX2 15 1 4 1 .boolean := ⟨RX2, TX2, tyX2, rfl, in_X2, by decide, rfl, Or.inl (xw_of (xw_1 (List.mem_of_getElem? (i := 32) (by decide +kernel))) rfl), tyX2_ok, nmX2, rfl, tyX2_ok 1 (by decide)⟩
theorem fp_X2_19 : xfp RX2 19 1 4 2 .int := ⟨RX2, TX2, tyX2, rfl, in_X2, by decide, rfl, Or.inl (xw_of (xw_1 (List.mem_of_getElem? (i := 34) (by decide +kernel))) rfl), tyX2_ok, nmX2, rfl, tyX2_ok 2 (by decide)⟩
theorem fp_X2_23 : xfp RX2 23 1 4 3 .int := ⟨RX2, TX2, tyX2, rfl, in_X2, by decide, rfl, Or.inl (xw_of (xw_1 (List.mem_of_getElem? (i := 36) (by decide +kernel))) rfl), tyX2_ok, nmX2, rfl, tyX2_ok 3 (by decide)⟩
theorem fd_X2_9 : xfd RX2 9 1 4 0 := ⟨RX2, TX2, rfl, in_X2, by decide, rfl, Or.inl (xw_of (xw_1 (List.mem_of_getElem? (i := 27) (by decide +kernel))) rfl)⟩
theorem fd_X2_15 : xfd RX2 15 1 4 1 := ⟨RX2, TX2, rfl, in_X2, by decide, rfl, Or.inl (xw_of (xw_1 (List.mem_of_getElem? (i := 32) (by decide +kernel))) rfl)⟩
theorem fd_X2_19 : xfd RX2 19 1 4 2 := ⟨RX2, TX2, rfl, in_X2, by decide, rfl, Or.inl (xw_of (xw_1 (List.mem_of_getElem? (i := 34) (by decide +kernel))) rfl)⟩
theorem fd_X2_23 : xfd RX2 23 1 4 3 := ⟨RX2, TX2, rfl, in_X2, by decide, rfl, Or.inl (xw_of (xw_1 (List.mem_of_getElem? (i := 36) (by decide +kernel))) rfl)⟩
theorem fp_X3_15 : xfp RX3 15 2 5 1 .int := ⟨RX3, TX3, tyX3, rfl, in_X3, by decide, rfl, Or.inl (xw_of (xw_1 (List.mem_of_getElem? (i := 64) (by decide +kernel))) rfl), tyX3_ok, nmX3, rfl, tyX3_ok 1 (by decide)⟩
theorem fp_X3_19 : xfp RX3 19 2 5 2 .int := ⟨RX3, TX3, tyX3, rfl, in_X3, by decide, rfl, Or.inl (xw_of (xw_1 (List.mem_of_getElem? (i := 66) (by decide +kernel))) rfl), tyX3_ok, nmX3, rfl, tyX3_ok 2 (by decide)⟩
theorem fp_X3_22 : xfp RX3 22 2 5 3 .int := ⟨RX3, TX3, tyX3, rfl, in_X3, by decide, rfl, Or.inl (xw_of (xw_1 (List.mem_of_getElem? (i := 70) (by decide +kernel))) rfl), tyX3_ok, nmX3, rfl, tyX3_ok 3 (by decide)⟩
theorem fp_X3_25 : xfp RX3 25 2 5 4 .boolean := ⟨RX3, TX3, tyX3, rfl, in_X3, by decide, rfl, Or.inl (xw_of (xw_1 (List.mem_of_getElem? (i := 74) (by decide +kernel))) rfl), tyX3_ok, nmX3, rfl, tyX3_ok 4 (by decide)⟩
theorem fd_X3_29 : xfd RX3 29 1 4 0 := ⟨RX2, TX2, rfl, in_X2, by decide, rfl, Or.inr ⟨"SaltSaints", xw_nof (xw_1 (List.mem_of_getElem? (i := 28) (by decide +kernel))) rfl⟩⟩
theorem fd_X3_9 : xfd RX3 9 2 5 0 := ⟨RX3, TX3, rfl, in_X3, by decide, rfl, Or.inl (xw_of (xw_1 (List.mem_of_getElem? (i := 60) (by decide +kernel))) rfl)⟩
theorem fd_X3_15 : xfd RX3 15 2 5 1 := ⟨RX3, TX3, rfl, in_X3, by decide, rfl, Or.inl (xw_of (xw_1 (List.mem_of_getElem? (i := 64) (by decide +kernel))) rfl)⟩
theorem fd_X3_25 : xfd RX3 25 2 5 4 := ⟨RX3, TX3, rfl, in_X3, by decide, rfl, Or.inl (xw_of (xw_1 (List.mem_of_getElem? (i := 74) (by decide +kernel))) rfl)⟩
theorem fd_X4_11 : xfd RX4 11 1 4 0 := ⟨RX2, TX2, rfl, in_X2, by decide, rfl, Or.inr ⟨"SaltSaints", xw_nof (xw_1 (List.mem_of_getElem? (i := 29) (by decide +kernel))) rfl⟩⟩
theorem fd_X5_11 : xfd RX5 11 3 9 0 := ⟨RX5, TX5, rfl, in_X5, by decide, rfl, Or.inl (xw_of (xw_1 (List.mem_of_getElem? (i := 87) (by decide +kernel))) rfl)⟩
theorem fp_X5_34 : xfp RX5 34 3 9 6 .int := ⟨RX5, TX5, tyX5, rfl, in_X5, by decide, rfl, Or.inl (xw_of (xw_1 (List.mem_of_getElem? (i := 99) (by decide +kernel))) rfl), tyX5_ok, nmX5, rfl, tyX5_ok 6 (by decide)⟩
theorem fp_X5_38 : xfp RX5 38 3 9 7 .int := ⟨RX5, TX5, tyX5, rfl, in_X5, by decide, rfl, Or.inl (xw_of (xw_1 (List.mem_of_getElem? (i := 102) (by decide +kernel))) rfl), tyX5_ok, nmX5, rfl, tyX5_ok 7 (by decide)⟩
theorem fp_X5_41 : xfp RX5 41 3 9 8 .int := ⟨RX5, TX5, tyX5, rfl, in_X5, by decide, rfl, Or.inl (xw_of (xw_1 (List.mem_of_getElem? (i := 104) (by decide +kernel))) rfl), tyX5_ok, nmX5, rfl, tyX5_ok 8 (by decide)⟩
theorem fd_X5_34 : xfd RX5 34 3 9 6 := ⟨RX5, TX5, rfl, in_X5, by decide, rfl, Or.inl (xw_of (xw_1 (List.mem_of_getElem? (i := 99) (by decide +kernel))) rfl)⟩
theorem fd_X5_50 : xfd RX5 50 2 5 0 := ⟨RX3, TX3, rfl, in_X3, by decide, rfl, Or.inr ⟨"SaltSaints", xw_nof (xw_1 (List.mem_of_getElem? (i := 61) (by decide +kernel))) rfl⟩⟩
theorem fd_X5_25 : xfd RX5 25 3 9 3 := ⟨RX5, TX5, rfl, in_X5, by decide, rfl, Or.inl (xw_of (xw_1 (List.mem_of_getElem? (i := 96) (by decide +kernel))) rfl)⟩
theorem fd_X5_18 : xfd RX5 18 3 9 1 := ⟨RX5, TX5, rfl, in_X5, by decide, rfl, Or.inl (xw_of (xw_1 (List.mem_of_getElem? (i := 90) (by decide +kernel))) rfl)⟩
theorem fd_X5_22 : xfd RX5 22 3 9 2 := ⟨RX5, TX5, rfl, in_X5, by decide, rfl, Or.inl (xw_of (xw_1 (List.mem_of_getElem? (i := 93) (by decide +kernel))) rfl)⟩
theorem fd_X5_41 : xfd RX5 41 3 9 8 := ⟨RX5, TX5, rfl, in_X5, by decide, rfl, Or.inl (xw_of (xw_1 (List.mem_of_getElem? (i := 104) (by decide +kernel))) rfl)⟩
theorem fd_X5_28 : xfd RX5 28 3 9 4 := ⟨RX5, TX5, rfl, in_X5, by decide, rfl, Or.inl (xw_of (xw_1 (List.mem_of_getElem? (i := 97) (by decide +kernel))) rfl)⟩
theorem fd_X5_82 : xfd RX5 82 2 5 2 := ⟨RX3, TX3, rfl, in_X3, by decide, rfl, Or.inr ⟨"SaltSaints", xw_nof (xw_1 (List.mem_of_getElem? (i := 69) (by decide +kernel))) rfl⟩⟩
theorem fd_X5_85 : xfd RX5 85 2 5 3 := ⟨RX3, TX3, rfl, in_X3, by decide, rfl, Or.inr ⟨"SaltSaints", xw_nof (xw_1 (List.mem_of_getElem? (i := 73) (by decide +kernel))) rfl⟩⟩
theorem fd_X5_31 : xfd RX5 31 3 9 5 := ⟨RX5, TX5, rfl, in_X5, by decide, rfl, Or.inl (xw_of (xw_1 (List.mem_of_getElem? (i := 98) (by decide +kernel))) rfl)⟩
theorem fd_X5_38 : xfd RX5 38 3 9 7 := ⟨RX5, TX5, rfl, in_X5, by decide, rfl, Or.inl (xw_of (xw_1 (List.mem_of_getElem? (i := 102) (by decide +kernel))) rfl)⟩
theorem fd_X5_119 : xfd RX5 119 1 4 0 := ⟨RX2, TX2, rfl, in_X2, by decide, rfl, Or.inr ⟨"SaltSaints", xw_nof (xw_1 (List.mem_of_getElem? (i := 31) (by decide +kernel))) rfl⟩⟩
theorem fd_X6_13 : xfd RX6 13 4 5 0 := ⟨RX6, TX6, rfl, in_X6, by decide, rfl, Or.inl (xw_of (xw_1 (List.mem_of_getElem? (i := 147) (by decide +kernel))) rfl)⟩
theorem fp_X6_32 : xfp RX6 32 4 5 3 .int := ⟨RX6, TX6, tyX6, rfl, in_X6, by decide, rfl, Or.inl (xw_of (xw_1 (List.mem_of_getElem? (i := 150) (by decide +kernel))) rfl), tyX6_ok, nmX6, rfl, tyX6_ok 3 (by decide)⟩
theorem fp_X6_36 : xfp RX6 36 4 5 4 .int := ⟨RX6, TX6, tyX6, rfl, in_X6, by decide, rfl, Or.inl (xw_of (xw_1 (List.mem_of_getElem? (i := 151) (by decide +kernel))) rfl), tyX6_ok, nmX6, rfl, tyX6_ok 4 (by decide)⟩
theorem fd_X6_21 : xfd RX6 21 4 5 1 := ⟨RX6, TX6, rfl, in_X6, by decide, rfl, Or.inl (xw_of (xw_1 (List.mem_of_getElem? (i := 148) (by decide +kernel))) rfl)⟩
theorem fd_X6_28 : xfd RX6 28 4 5 2 := ⟨RX6, TX6, rfl, in_X6, by decide, rfl, Or.inl (xw_of (xw_1 (List.mem_of_getElem? (i := 149) (by decide +kernel))) rfl)⟩
theorem fd_X6_71 : xfd RX6 71 3 9 6 := ⟨RX5, TX5, rfl, in_X5, by decide, rfl, Or.inr ⟨"SaltSaints", xw_nof (xw_1 (List.mem_of_getElem? (i := 101) (by decide +kernel))) rfl⟩⟩
theorem fd_X6_77 : xfd RX6 77 3 9 0 := ⟨RX5, TX5, rfl, in_X5, by decide, rfl, Or.inr ⟨"SaltSaints", xw_nof (xw_1 (List.mem_of_getElem? (i := 88) (by decide +kernel))) rfl⟩⟩
theorem fd_X6_81 : xfd RX6 81 2 5 0 := ⟨RX3, TX3, rfl, in_X3, by decide, rfl, Or.inr ⟨"SaltSaints", xw_nof (xw_1 (List.mem_of_getElem? (i := 62) (by decide +kernel))) rfl⟩⟩
theorem fd_X6_87 : xfd RX6 87 2 5 1 := ⟨RX3, TX3, rfl, in_X3, by decide, rfl, Or.inr ⟨"SaltSaints", xw_nof (xw_1 (List.mem_of_getElem? (i := 65) (by decide +kernel))) rfl⟩⟩
theorem fd_X6_90 : xfd RX6 90 2 5 2 := ⟨RX3, TX3, rfl, in_X3, by decide, rfl, Or.inr ⟨"SaltSaints", xw_nof (xw_1 (List.mem_of_getElem? (i := 68) (by decide +kernel))) rfl⟩⟩
theorem fd_X6_93 : xfd RX6 93 2 5 3 := ⟨RX3, TX3, rfl, in_X3, by decide, rfl, Or.inr ⟨"SaltSaints", xw_nof (xw_1 (List.mem_of_getElem? (i := 71) (by decide +kernel))) rfl⟩⟩
theorem fd_X6_96 : xfd RX6 96 2 5 4 := ⟨RX3, TX3, rfl, in_X3, by decide, rfl, Or.inr ⟨"SaltSaints", xw_nof (xw_1 (List.mem_of_getElem? (i := 75) (by decide +kernel))) rfl⟩⟩
theorem fp_X6_90 : xfp RX6 90 2 5 2 .int := ⟨RX3, TX3, tyX3, rfl, in_X3, by decide, rfl, Or.inr ⟨"SaltSaints", xw_nof (xw_1 (List.mem_of_getElem? (i := 68) (by decide +kernel))) rfl⟩, tyX3_ok, nmX3, rfl, tyX3_ok 2 (by decide)⟩
theorem fp_X6_93 : xfp RX6 93 2 5 3 .int := ⟨RX3, TX3, tyX3, rfl, in_X3, by decide, rfl, Or.inr ⟨"SaltSaints", xw_nof (xw_1 (List.mem_of_getElem? (i := 71) (by decide +kernel))) rfl⟩, tyX3_ok, nmX3, rfl, tyX3_ok 3 (by decide)⟩
theorem fp_X6_96 : xfp RX6 96 2 5 4 .boolean := ⟨RX3, TX3, tyX3, rfl, in_X3, by decide, rfl, Or.inr ⟨"SaltSaints", xw_nof (xw_1 (List.mem_of_getElem? (i := 75) (by decide +kernel))) rfl⟩, tyX3_ok, nmX3, rfl, tyX3_ok 4 (by decide)⟩
theorem fd_X6_106 : xfd RX6 106 3 9 1 := ⟨RX5, TX5, rfl, in_X5, by decide, rfl, Or.inr ⟨"SaltSaints", xw_nof (xw_1 (List.mem_of_getElem? (i := 92) (by decide +kernel))) rfl⟩⟩
theorem fd_X6_109 : xfd RX6 109 3 9 2 := ⟨RX5, TX5, rfl, in_X5, by decide, rfl, Or.inr ⟨"SaltSaints", xw_nof (xw_1 (List.mem_of_getElem? (i := 95) (by decide +kernel))) rfl⟩⟩
theorem fd_X6_116 : xfd RX6 116 3 9 7 := ⟨RX5, TX5, rfl, in_X5, by decide, rfl, Or.inr ⟨"SaltSaints", xw_nof (xw_1 (List.mem_of_getElem? (i := 103) (by decide +kernel))) rfl⟩⟩
theorem fp_X6_116 : xfp RX6 116 3 9 7 .int := ⟨RX5, TX5, tyX5, rfl, in_X5, by decide, rfl, Or.inr ⟨"SaltSaints", xw_nof (xw_1 (List.mem_of_getElem? (i := 103) (by decide +kernel))) rfl⟩, tyX5_ok, nmX5, rfl, tyX5_ok 7 (by decide)⟩
theorem fd_X6_172 : xfd RX6 172 1 4 0 := ⟨RX2, TX2, rfl, in_X2, by decide, rfl, Or.inr ⟨"SaltSaints", xw_nof (xw_1 (List.mem_of_getElem? (i := 30) (by decide +kernel))) rfl⟩⟩
theorem fd_X6_182 : xfd RX6 182 0 5 4 := ⟨RX1, TX1, rfl, in_X1, by decide, rfl, Or.inr ⟨"SaltSaints", xw_nof (xw_1 (List.mem_of_getElem? (i := 135) (by decide +kernel))) rfl⟩⟩
theorem fd_X6_194 : xfd RX6 194 1 4 1 := ⟨RX2, TX2, rfl, in_X2, by decide, rfl, Or.inr ⟨"SaltSaints", xw_nof (xw_1 (List.mem_of_getElem? (i := 33) (by decide +kernel))) rfl⟩⟩
theorem fp_X6_194 : xfp RX6 194 1 4 1 .boolean := ⟨RX2, TX2, tyX2, rfl, in_X2, by decide, rfl, Or.inr ⟨"SaltSaints", xw_nof (xw_1 (List.mem_of_getElem? (i := 33) (by decide +kernel))) rfl⟩, tyX2_ok, nmX2, rfl, tyX2_ok 1 (by decide)⟩
theorem fd_X6_200 : xfd RX6 200 1 4 2 := ⟨RX2, TX2, rfl, in_X2, by decide, rfl, Or.inr ⟨"SaltSaints", xw_nof (xw_1 (List.mem_of_getElem? (i := 35) (by decide +kernel))) rfl⟩⟩
theorem fd_X6_32 : xfd RX6 32 4 5 3 := ⟨RX6, TX6, rfl, in_X6, by decide, rfl, Or.inl (xw_of (xw_1 (List.mem_of_getElem? (i := 150) (by decide +kernel))) rfl)⟩
theorem fd_X6_36 : xfd RX6 36 4 5 4 := ⟨RX6, TX6, rfl, in_X6, by decide, rfl, Or.inl (xw_of (xw_1 (List.mem_of_getElem? (i := 151) (by decide +kernel))) rfl)⟩
theorem fd_X7_65 : xfd RX7 65 5 29 24 := ⟨RX7, TX7, rfl, in_X7, by decide, rfl, Or.inl (xw_of (xw_3 (List.mem_of_getElem? (i := 63) (by decide +kernel))) rfl)⟩
theorem fp_X7_79 : xfp RX7 79 5 29 0 .int := ⟨RX7, TX7, tyX7, rfl, in_X7, by decide, rfl, Or.inl (xw_of (xw_3 (List.mem_of_getElem? (i := 39) (by decide +kernel))) rfl), tyX7_ok, nmX7, rfl, tyX7_ok 0 (by decide)⟩
theorem fd_X7_68 : xfd RX7 68 5 29 25 := ⟨RX7, TX7, rfl, in_X7, by decide, rfl, Or.inl (xw_of (xw_3 (List.mem_of_getElem? (i := 64) (by decide +kernel))) rfl)⟩
theorem fd_X7_108 : xfd RX7 108 5 29 1 := ⟨RX7, TX7, rfl, in_X7, by decide, rfl, Or.inl (xw_of (xw_3 (List.mem_of_getElem? (i := 40) (by decide +kernel))) rfl)⟩
theorem fd_X7_113 : xfd RX7 113 5 29 7 := ⟨RX7, TX7, rfl, in_X7, by decide, rfl, Or.inl (xw_of (xw_3 (List.mem_of_getElem? (i := 46) (by decide +kernel))) rfl)⟩
theorem fd_X7_71 : xfd RX7 71 5 29 26 := ⟨RX7, TX7, rfl, in_X7, by decide, rfl, Or.inl (xw_of (xw_3 (List.mem_of_getElem? (i := 65) (by decide +kernel))) rfl)⟩
theorem fp_X7_113 : xfp RX7 113 5 29 7 .int := ⟨RX7, TX7, tyX7, rfl, in_X7, by decide, rfl, Or.inl (xw_of (xw_3 (List.mem_of_getElem? (i := 46) (by decide +kernel))) rfl), tyX7_ok, nmX7, rfl, tyX7_ok 7 (by decide)⟩
theorem fd_X7_120 : xfd RX7 120 5 29 8 := ⟨RX7, TX7, rfl, in_X7, by decide, rfl, Or.inl (xw_of (xw_3 (List.mem_of_getElem? (i := 47) (by decide +kernel))) rfl)⟩
theorem fd_X7_29 : xfd RX7 29 5 29 10 := ⟨RX7, TX7, rfl, in_X7, by decide, rfl, Or.inl (xw_of (xw_3 (List.mem_of_getElem? (i := 49) (by decide +kernel))) rfl)⟩
theorem fd_X7_32 : xfd RX7 32 5 29 11 := ⟨RX7, TX7, rfl, in_X7, by decide, rfl, Or.inl (xw_of (xw_3 (List.mem_of_getElem? (i := 50) (by decide +kernel))) rfl)⟩
theorem fd_X7_26 : xfd RX7 26 5 29 9 := ⟨RX7, TX7, rfl, in_X7, by decide, rfl, Or.inl (xw_of (xw_3 (List.mem_of_getElem? (i := 48) (by decide +kernel))) rfl)⟩
theorem fp_X7_120 : xfp RX7 120 5 29 8 .int := ⟨RX7, TX7, tyX7, rfl, in_X7, by decide, rfl, Or.inl (xw_of (xw_3 (List.mem_of_getElem? (i := 47) (by decide +kernel))) rfl), tyX7_ok, nmX7, rfl, tyX7_ok 8 (by decide)⟩
theorem fp_X7_108 : xfp RX7 108 5 29 1 .int := ⟨RX7, TX7, tyX7, rfl, in_X7, by decide, rfl, Or.inl (xw_of (xw_3 (List.mem_of_getElem? (i := 40) (by decide +kernel))) rfl), tyX7_ok, nmX7, rfl, tyX7_ok 1 (by decide)⟩
theorem fd_X7_7 : xfd RX7 7 5 29 2 := ⟨RX7, TX7, rfl, in_X7, by decide, rfl, Or.inl (xw_of (xw_3 (List.mem_of_getElem? (i := 41) (by decide +kernel))) rfl)⟩
theorem fd_X7_16 : xfd RX7 16 5 29 4 := ⟨RX7, TX7, rfl, in_X7, by decide, rfl, Or.inl (xw_of (xw_3 (List.mem_of_getElem? (i := 43) (by decide +kernel))) rfl)⟩
theorem fd_X7_19 : xfd RX7 19 5 29 5 := ⟨RX7, TX7, rfl, in_X7, by decide, rfl, Or.inl (xw_of (xw_3 (List.mem_of_getElem? (i := 44) (by decide +kernel))) rfl)⟩
theorem fd_X7_22 : xfd RX7 22 5 29 6 := ⟨RX7, TX7, rfl, in_X7, by decide, rfl, Or.inl (xw_of (xw_3 (List.mem_of_getElem? (i := 45) (by decide +kernel))) rfl)⟩
theorem fd_X7_13 : xfd RX7 13 5 29 3 := ⟨RX7, TX7, rfl, in_X7, by decide, rfl, Or.inl (xw_of (xw_3 (List.mem_of_getElem? (i := 42) (by decide +kernel))) rfl)⟩
theorem fd_X7_35 : xfd RX7 35 5 29 12 := ⟨RX7, TX7, rfl, in_X7, by decide, rfl, Or.inl (xw_of (xw_3 (List.mem_of_getElem? (i := 51) (by decide +kernel))) rfl)⟩
theorem fd_X7_38 : xfd RX7 38 5 29 13 := ⟨RX7, TX7, rfl, in_X7, by decide, rfl, Or.inl (xw_of (xw_3 (List.mem_of_getElem? (i := 52) (by decide +kernel))) rfl)⟩
theorem fp_X7_138 : xfp RX7 138 5 29 14 .int := ⟨RX7, TX7, tyX7, rfl, in_X7, by decide, rfl, Or.inl (xw_of (xw_3 (List.mem_of_getElem? (i := 53) (by decide +kernel))) rfl), tyX7_ok, nmX7, rfl, tyX7_ok 14 (by decide)⟩
theorem fp_X7_141 : xfp RX7 141 5 29 19 .int := ⟨RX7, TX7, tyX7, rfl, in_X7, by decide, rfl, Or.inl (xw_of (xw_3 (List.mem_of_getElem? (i := 58) (by decide +kernel))) rfl), tyX7_ok, nmX7, rfl, tyX7_ok 19 (by decide)⟩
theorem fd_X7_138 : xfd RX7 138 5 29 14 := ⟨RX7, TX7, rfl, in_X7, by decide, rfl, Or.inl (xw_of (xw_3 (List.mem_of_getElem? (i := 53) (by decide +kernel))) rfl)⟩
theorem fd_X7_41 : xfd RX7 41 5 29 15 := ⟨RX7, TX7, rfl, in_X7, by decide, rfl, Or.inl (xw_of (xw_3 (List.mem_of_getElem? (i := 54) (by decide +kernel))) rfl)⟩
theorem fd_X7_44 : xfd RX7 44 5 29 16 := ⟨RX7, TX7, rfl, in_X7, by decide, rfl, Or.inl (xw_of (xw_3 (List.mem_of_getElem? (i := 55) (by decide +kernel))) rfl)⟩
theorem fd_X7_47 : xfd RX7 47 5 29 17 := ⟨RX7, TX7, rfl, in_X7, by decide, rfl, Or.inl (xw_of (xw_3 (List.mem_of_getElem? (i := 56) (by decide +kernel))) rfl)⟩
theorem fd_X7_50 : xfd RX7 50 5 29 18 := ⟨RX7, TX7, rfl, in_X7, by decide, rfl, Or.inl (xw_of (xw_3 (List.mem_of_getElem? (i := 57) (by decide +kernel))) rfl)⟩
theorem fd_X7_141 : xfd RX7 141 5 29 19 := ⟨RX7, TX7, rfl, in_X7, by decide, rfl, Or.inl (xw_of (xw_3 (List.mem_of_getElem? (i := 58) (by decide +kernel))) rfl)⟩
theorem fd_X7_53 : xfd RX7 53 5 29 20 := ⟨RX7, TX7, rfl, in_X7, by decide, rfl, Or.inl (xw_of (xw_3 (List.mem_of_getElem? (i := 59) (by decide +kernel))) rfl)⟩
theorem fd_X7_56 : xfd RX7 56 5 29 21 := ⟨RX7, TX7, rfl, in_X7, by decide, rfl, Or.inl (xw_of (xw_3 (List.mem_of_getElem? (i := 60) (by decide +kernel))) rfl)⟩
theorem fd_X7_59 : xfd RX7 59 5 29 22 := ⟨RX7, TX7, rfl, in_X7, by decide, rfl, Or.inl (xw_of (xw_3 (List.mem_of_getElem? (i := 61) (by decide +kernel))) rfl)⟩
theorem fd_X7_62 : xfd RX7 62 5 29 23 := ⟨RX7, TX7, rfl, in_X7, by decide, rfl, Or.inl (xw_of (xw_3 (List.mem_of_getElem? (i := 62) (by decide +kernel))) rfl)⟩
theorem fd_X7_74 : xfd RX7 74 5 29 27 := ⟨RX7, TX7, rfl, in_X7, by decide, rfl, Or.inl (xw_of (xw_3 (List.mem_of_getElem? (i := 66) (by decide +kernel))) rfl)⟩
theorem fd_X7_229 : xfd RX7 229 5 29 28 := ⟨RX7, TX7, rfl, in_X7, by decide, rfl, Or.inl (xw_of (xw_3 (List.mem_of_getElem? (i := 67) (by decide +kernel))) rfl)⟩
theorem fp_X7_229 : xfp RX7 229 5 29 28 .int := ⟨RX7, TX7, tyX7, rfl, in_X7, by decide, rfl, Or.inl (xw_of (xw_3 (List.mem_of_getElem? (i := 67) (by decide +kernel))) rfl), tyX7_ok, nmX7, rfl, tyX7_ok 28 (by decide)⟩
theorem fd_X7_79 : xfd RX7 79 5 29 0 := ⟨RX7, TX7, rfl, in_X7, by decide, rfl, Or.inl (xw_of (xw_3 (List.mem_of_getElem? (i := 39) (by decide +kernel))) rfl)⟩
theorem mc_X0_giveUmbrellas : xcc yX0_giveUmbrellas cX0_giveUmbrellas 10 (some .int) := ⟨xw_of (xw_2 (List.mem_of_getElem? (i := 125) (by decide +kernel))) rfl, xw_of (xw_1 (List.mem_of_getElem? (i := 10) (by decide +kernel))) rfl, by decide, by decide⟩
theorem mn_X0_giveUmbrellas : xcn yX0_giveUmbrellas 3 := by unfold xcn; decide +kernel
theorem ms_X0_giveUmbrellas : Cond.static yX0_giveUmbrellas ∈ xw_all := xw_of (xw_2 (List.mem_of_getElem? (i := 124) (by decide +kernel))) rfl
theorem mc_X0_lastingUnder : xcc yX0_lastingUnder cX0_lastingUnder 4 (some .int) := ⟨xw_of (xw_2 (List.mem_of_getElem? (i := 128) (by decide +kernel))) rfl, xw_of (xw_1 (List.mem_of_getElem? (i := 10) (by decide +kernel))) rfl, by decide, by decide⟩
theorem mn_X0_lastingUnder : xcn yX0_lastingUnder 2 := by unfold xcn; decide +kernel
theorem ms_X0_lastingUnder : Cond.static yX0_lastingUnder ∈ xw_all := xw_of (xw_2 (List.mem_of_getElem? (i := 127) (by decide +kernel))) rfl
theorem mc_X0_turnOne : xcc yX0_turnOne cX0_turnOne 8 (some .int) := ⟨xw_of (xw_2 (List.mem_of_getElem? (i := 146) (by decide +kernel))) rfl, xw_of (xw_1 (List.mem_of_getElem? (i := 10) (by decide +kernel))) rfl, by decide, by decide⟩
theorem mn_X0_turnOne : xcn yX0_turnOne 2 := by unfold xcn; decide +kernel
theorem ms_X0_turnOne : Cond.static yX0_turnOne ∈ xw_all := xw_of (xw_2 (List.mem_of_getElem? (i := 145) (by decide +kernel))) rfl
theorem mc_X0_firstDawnOfOthers : xcc yX0_firstDawnOfOthers cX0_firstDawnOfOthers 5 (some .int) := ⟨xw_of (xw_2 (List.mem_of_getElem? (i := 149) (by decide +kernel))) rfl, xw_of (xw_1 (List.mem_of_getElem? (i := 10) (by decide +kernel))) rfl, by decide, by decide⟩
theorem mn_X0_firstDawnOfOthers : xcn yX0_firstDawnOfOthers 2 := by unfold xcn; decide +kernel
theorem ms_X0_firstDawnOfOthers : Cond.static yX0_firstDawnOfOthers ∈ xw_all := xw_of (xw_2 (List.mem_of_getElem? (i := 148) (by decide +kernel))) rfl
theorem mc_X0_dawnWithoutNose : xcc yX0_dawnWithoutNose cX0_dawnWithoutNose 7 (some .int) := ⟨xw_of (xw_2 (List.mem_of_getElem? (i := 131) (by decide +kernel))) rfl, xw_of (xw_1 (List.mem_of_getElem? (i := 10) (by decide +kernel))) rfl, by decide, by decide⟩
theorem mn_X0_dawnWithoutNose : xcn yX0_dawnWithoutNose 4 := by unfold xcn; decide +kernel
theorem ms_X0_dawnWithoutNose : Cond.static yX0_dawnWithoutNose ∈ xw_all := xw_of (xw_2 (List.mem_of_getElem? (i := 130) (by decide +kernel))) rfl
theorem mc_X0_nosesGone : xcc yX0_nosesGone cX0_nosesGone 4 (some .int) := ⟨xw_of (xw_2 (List.mem_of_getElem? (i := 156) (by decide +kernel))) rfl, xw_of (xw_1 (List.mem_of_getElem? (i := 10) (by decide +kernel))) rfl, by decide, by decide⟩
theorem mn_X0_nosesGone : xcn yX0_nosesGone 2 := by unfold xcn; decide +kernel
theorem ms_X0_nosesGone : Cond.static yX0_nosesGone ∈ xw_all := xw_of (xw_2 (List.mem_of_getElem? (i := 155) (by decide +kernel))) rfl
theorem mc_X1_init : xcc yX1_init cX1_init 1 none := ⟨xw_of (xw_1 (List.mem_of_getElem? (i := 128) (by decide +kernel))) rfl, xw_of (xw_1 (List.mem_of_getElem? (i := 5) (by decide +kernel))) rfl, by decide, by decide⟩
theorem mn_X1_init : xcn yX1_init 0 := by unfold xcn; decide +kernel
theorem mi_X1_init : Cond.instanceMethod yX1_init ∈ xw_all := xw_of (xw_1 (List.mem_of_getElem? (i := 127) (by decide +kernel))) rfl
theorem mc_X1_note : xcc yX1_note cX1_note 6 (some .int) := ⟨xw_of (xw_2 (List.mem_of_getElem? (i := 186) (by decide +kernel))) rfl, xw_of (xw_1 (List.mem_of_getElem? (i := 5) (by decide +kernel))) rfl, by decide, by decide⟩
theorem mn_X1_note : xcn yX1_note 4 := by unfold xcn; decide +kernel
theorem mv_X1_note : xcv yX1_note := ⟨xw_of (xw_2 (List.mem_of_getElem? (i := 185) (by decide +kernel))) rfl, xw_of (xw_s (List.mem_of_getElem? (i := 28) (by decide +kernel))) rfl⟩
theorem mc_X1_keep : xcc yX1_keep cX1_keep 2 none := ⟨xw_of (xw_1 (List.mem_of_getElem? (i := 215) (by decide +kernel))) rfl, xw_of (xw_1 (List.mem_of_getElem? (i := 5) (by decide +kernel))) rfl, by decide, by decide⟩
theorem mn_X1_keep : xcn yX1_keep 1 := by unfold xcn; decide +kernel
theorem mv_X1_keep : xcv yX1_keep := ⟨xw_of (xw_1 (List.mem_of_getElem? (i := 214) (by decide +kernel))) rfl, xw_of (xw_s (List.mem_of_getElem? (i := 5) (by decide +kernel))) rfl⟩
theorem mc_X1_allHold : xcc yX1_allHold cX1_allHold 3 (some .boolean) := ⟨xw_of (xw_2 (List.mem_of_getElem? (i := 198) (by decide +kernel))) rfl, xw_of (xw_1 (List.mem_of_getElem? (i := 5) (by decide +kernel))) rfl, by decide, by decide⟩
theorem mn_X1_allHold : xcn yX1_allHold 1 := by unfold xcn; decide +kernel
theorem mv_X1_allHold : xcv yX1_allHold := ⟨xw_of (xw_2 (List.mem_of_getElem? (i := 197) (by decide +kernel))) rfl, xw_of (xw_s (List.mem_of_getElem? (i := 29) (by decide +kernel))) rfl⟩
theorem mc_X2_init : xcc yX2_init cX2_init 1 none := ⟨xw_of (xw_1 (List.mem_of_getElem? (i := 25) (by decide +kernel))) rfl, xw_of (xw_1 (List.mem_of_getElem? (i := 2) (by decide +kernel))) rfl, by decide, by decide⟩
theorem mn_X2_init : xcn yX2_init 0 := by unfold xcn; decide +kernel
theorem mi_X2_init : Cond.instanceMethod yX2_init ∈ xw_all := xw_of (xw_1 (List.mem_of_getElem? (i := 24) (by decide +kernel))) rfl
theorem mc_X2_renew : xcc yX2_renew cX2_renew 4 none := ⟨xw_of (xw_2 (List.mem_of_getElem? (i := 211) (by decide +kernel))) rfl, xw_of (xw_1 (List.mem_of_getElem? (i := 2) (by decide +kernel))) rfl, by decide, by decide⟩
theorem mn_X2_renew : xcn yX2_renew 2 := by unfold xcn; decide +kernel
theorem mv_X2_renew : xcv yX2_renew := ⟨xw_of (xw_2 (List.mem_of_getElem? (i := 210) (by decide +kernel))) rfl, xw_of (xw_s (List.mem_of_getElem? (i := 30) (by decide +kernel))) rfl⟩
theorem mc_X2_faultAs : xcc yX2_faultAs cX2_faultAs 2 (some .int) := ⟨xw_of (xw_1 (List.mem_of_getElem? (i := 179) (by decide +kernel))) rfl, xw_of (xw_1 (List.mem_of_getElem? (i := 2) (by decide +kernel))) rfl, by decide, by decide⟩
theorem mn_X2_faultAs : xcn yX2_faultAs 1 := by unfold xcn; decide +kernel
theorem mv_X2_faultAs : xcv yX2_faultAs := ⟨xw_of (xw_1 (List.mem_of_getElem? (i := 178) (by decide +kernel))) rfl, xw_of (xw_s (List.mem_of_getElem? (i := 0) (by decide +kernel))) rfl⟩
theorem mc_X2_hasRun : xcc yX2_hasRun cX2_hasRun 3 (some .boolean) := ⟨xw_of (xw_1 (List.mem_of_getElem? (i := 183) (by decide +kernel))) rfl, xw_of (xw_1 (List.mem_of_getElem? (i := 2) (by decide +kernel))) rfl, by decide, by decide⟩
theorem mn_X2_hasRun : xcn yX2_hasRun 2 := by unfold xcn; decide +kernel
theorem mv_X2_hasRun : xcv yX2_hasRun := ⟨xw_of (xw_1 (List.mem_of_getElem? (i := 182) (by decide +kernel))) rfl, xw_of (xw_s (List.mem_of_getElem? (i := 1) (by decide +kernel))) rfl⟩
theorem mc_X2_cut : xcc yX2_cut cX2_cut 2 (some .int) := ⟨xw_of (xw_2 (List.mem_of_getElem? (i := 223) (by decide +kernel))) rfl, xw_of (xw_1 (List.mem_of_getElem? (i := 2) (by decide +kernel))) rfl, by decide, by decide⟩
theorem mn_X2_cut : xcn yX2_cut 1 := by unfold xcn; decide +kernel
theorem mv_X2_cut : xcv yX2_cut := ⟨xw_of (xw_2 (List.mem_of_getElem? (i := 222) (by decide +kernel))) rfl, xw_of (xw_s (List.mem_of_getElem? (i := 31) (by decide +kernel))) rfl⟩
theorem mc_X3_init : xcc yX3_init cX3_init 1 none := ⟨xw_of (xw_1 (List.mem_of_getElem? (i := 58) (by decide +kernel))) rfl, xw_of (xw_1 (List.mem_of_getElem? (i := 4) (by decide +kernel))) rfl, by decide, by decide⟩
theorem mn_X3_init : xcn yX3_init 0 := by unfold xcn; decide +kernel
theorem mi_X3_init : Cond.instanceMethod yX3_init ∈ xw_all := xw_of (xw_1 (List.mem_of_getElem? (i := 57) (by decide +kernel))) rfl
theorem mc_X3_carve : xcc yX3_carve cX3_carve 4 none := ⟨xw_of (xw_1 (List.mem_of_getElem? (i := 207) (by decide +kernel))) rfl, xw_of (xw_1 (List.mem_of_getElem? (i := 4) (by decide +kernel))) rfl, by decide, by decide⟩
theorem mn_X3_carve : xcn yX3_carve 2 := by unfold xcn; decide +kernel
theorem mv_X3_carve : xcv yX3_carve := ⟨xw_of (xw_1 (List.mem_of_getElem? (i := 206) (by decide +kernel))) rfl, xw_of (xw_s (List.mem_of_getElem? (i := 4) (by decide +kernel))) rfl⟩
theorem mc_X3_allAtFirst : xcc yX3_allAtFirst cX3_allAtFirst 1 (some .int) := ⟨xw_of (xw_2 (List.mem_of_getElem? (i := 68) (by decide +kernel))) rfl, xw_of (xw_1 (List.mem_of_getElem? (i := 4) (by decide +kernel))) rfl, by decide, by decide⟩
theorem mn_X3_allAtFirst : xcn yX3_allAtFirst 0 := by unfold xcn; decide +kernel
theorem mv_X3_allAtFirst : xcv yX3_allAtFirst := ⟨xw_of (xw_2 (List.mem_of_getElem? (i := 67) (by decide +kernel))) rfl, xw_of (xw_s (List.mem_of_getElem? (i := 17) (by decide +kernel))) rfl⟩
theorem mc_X3_washedOff : xcc yX3_washedOff cX3_washedOff 7 (some .int) := ⟨xw_of (xw_2 (List.mem_of_getElem? (i := 41) (by decide +kernel))) rfl, xw_of (xw_1 (List.mem_of_getElem? (i := 4) (by decide +kernel))) rfl, by decide, by decide⟩
theorem mn_X3_washedOff : xcn yX3_washedOff 5 := by unfold xcn; decide +kernel
theorem mv_X3_washedOff : xcv yX3_washedOff := ⟨xw_of (xw_2 (List.mem_of_getElem? (i := 40) (by decide +kernel))) rfl, xw_of (xw_s (List.mem_of_getElem? (i := 12) (by decide +kernel))) rfl⟩
theorem mc_X3_lickable : xcc yX3_lickable cX3_lickable 2 (some .boolean) := ⟨xw_of (xw_2 (List.mem_of_getElem? (i := 53) (by decide +kernel))) rfl, xw_of (xw_1 (List.mem_of_getElem? (i := 4) (by decide +kernel))) rfl, by decide, by decide⟩
theorem mn_X3_lickable : xcn yX3_lickable 1 := by unfold xcn; decide +kernel
theorem mv_X3_lickable : xcv yX3_lickable := ⟨xw_of (xw_2 (List.mem_of_getElem? (i := 52) (by decide +kernel))) rfl, xw_of (xw_s (List.mem_of_getElem? (i := 15) (by decide +kernel))) rfl⟩
theorem mc_X4_firstFault : xcc yX4_firstFault cX4_firstFault 4 (some .int) := ⟨xw_of (xw_1 (List.mem_of_getElem? (i := 190) (by decide +kernel))) rfl, xw_of (xw_1 (List.mem_of_getElem? (i := 7) (by decide +kernel))) rfl, by decide, by decide⟩
theorem mn_X4_firstFault : xcn yX4_firstFault 3 := by unfold xcn; decide +kernel
theorem ms_X4_firstFault : Cond.static yX4_firstFault ∈ xw_all := xw_of (xw_1 (List.mem_of_getElem? (i := 189) (by decide +kernel))) rfl
theorem mc_X4_goesOn : xcc yX4_goesOn cX4_goesOn 2 (some .boolean) := ⟨xw_of (xw_1 (List.mem_of_getElem? (i := 193) (by decide +kernel))) rfl, xw_of (xw_1 (List.mem_of_getElem? (i := 7) (by decide +kernel))) rfl, by decide, by decide⟩
theorem mn_X4_goesOn : xcn yX4_goesOn 2 := by unfold xcn; decide +kernel
theorem ms_X4_goesOn : Cond.static yX4_goesOn ∈ xw_all := xw_of (xw_1 (List.mem_of_getElem? (i := 192) (by decide +kernel))) rfl
theorem mc_X4_isWhole : xcc yX4_isWhole cX4_isWhole 1 (some .boolean) := ⟨xw_of (xw_1 (List.mem_of_getElem? (i := 199) (by decide +kernel))) rfl, xw_of (xw_1 (List.mem_of_getElem? (i := 7) (by decide +kernel))) rfl, by decide, by decide⟩
theorem mn_X4_isWhole : xcn yX4_isWhole 1 := by unfold xcn; decide +kernel
theorem ms_X4_isWhole : Cond.static yX4_isWhole ∈ xw_all := xw_of (xw_1 (List.mem_of_getElem? (i := 198) (by decide +kernel))) rfl
theorem mc_X4_kindOf : xcc yX4_kindOf cX4_kindOf 1 (some .int) := ⟨xw_of (xw_1 (List.mem_of_getElem? (i := 196) (by decide +kernel))) rfl, xw_of (xw_1 (List.mem_of_getElem? (i := 7) (by decide +kernel))) rfl, by decide, by decide⟩
theorem mn_X4_kindOf : xcn yX4_kindOf 1 := by unfold xcn; decide +kernel
theorem ms_X4_kindOf : Cond.static yX4_kindOf ∈ xw_all := xw_of (xw_1 (List.mem_of_getElem? (i := 195) (by decide +kernel))) rfl
theorem mc_X5_init : xcc yX5_init cX5_init 2 none := ⟨xw_of (xw_1 (List.mem_of_getElem? (i := 51) (by decide +kernel))) rfl, xw_of (xw_1 (List.mem_of_getElem? (i := 3) (by decide +kernel))) rfl, by decide, by decide⟩
theorem mn_X5_init : xcn yX5_init 0 := by unfold xcn; decide +kernel
theorem mi_X5_init : Cond.instanceMethod yX5_init ∈ xw_all := xw_of (xw_1 (List.mem_of_getElem? (i := 50) (by decide +kernel))) rfl
theorem mc_X5_settle : xcc yX5_settle cX5_settle 5 none := ⟨xw_of (xw_1 (List.mem_of_getElem? (i := 203) (by decide +kernel))) rfl, xw_of (xw_1 (List.mem_of_getElem? (i := 3) (by decide +kernel))) rfl, by decide, by decide⟩
theorem mn_X5_settle : xcn yX5_settle 3 := by unfold xcn; decide +kernel
theorem mv_X5_settle : xcv yX5_settle := ⟨xw_of (xw_1 (List.mem_of_getElem? (i := 202) (by decide +kernel))) rfl, xw_of (xw_s (List.mem_of_getElem? (i := 3) (by decide +kernel))) rfl⟩
theorem mc_X5_forgetFrom : xcc yX5_forgetFrom cX5_forgetFrom 2 none := ⟨xw_of (xw_1 (List.mem_of_getElem? (i := 231) (by decide +kernel))) rfl, xw_of (xw_1 (List.mem_of_getElem? (i := 3) (by decide +kernel))) rfl, by decide, by decide⟩
theorem mn_X5_forgetFrom : xcn yX5_forgetFrom 1 := by unfold xcn; decide +kernel
theorem mv_X5_forgetFrom : xcv yX5_forgetFrom := ⟨xw_of (xw_1 (List.mem_of_getElem? (i := 230) (by decide +kernel))) rfl, xw_of (xw_s (List.mem_of_getElem? (i := 7) (by decide +kernel))) rfl⟩
theorem mc_X5_letRain : xcc yX5_letRain cX5_letRain 3 none := ⟨xw_of (xw_2 (List.mem_of_getElem? (i := 10) (by decide +kernel))) rfl, xw_of (xw_1 (List.mem_of_getElem? (i := 3) (by decide +kernel))) rfl, by decide, by decide⟩
theorem mn_X5_letRain : xcn yX5_letRain 2 := by unfold xcn; decide +kernel
theorem mv_X5_letRain : xcv yX5_letRain := ⟨xw_of (xw_2 (List.mem_of_getElem? (i := 9) (by decide +kernel))) rfl, xw_of (xw_s (List.mem_of_getElem? (i := 8) (by decide +kernel))) rfl⟩
theorem mc_X5_workOut : xcc yX5_workOut cX5_workOut 3 none := ⟨xw_of (xw_2 (List.mem_of_getElem? (i := 30) (by decide +kernel))) rfl, xw_of (xw_1 (List.mem_of_getElem? (i := 3) (by decide +kernel))) rfl, by decide, by decide⟩
theorem mn_X5_workOut : xcn yX5_workOut 1 := by unfold xcn; decide +kernel
theorem mv_X5_workOut : xcv yX5_workOut := ⟨xw_of (xw_2 (List.mem_of_getElem? (i := 29) (by decide +kernel))) rfl, xw_of (xw_s (List.mem_of_getElem? (i := 10) (by decide +kernel))) rfl⟩
theorem mc_X5_pour : xcc yX5_pour cX5_pour 7 none := ⟨xw_of (xw_2 (List.mem_of_getElem? (i := 34) (by decide +kernel))) rfl, xw_of (xw_1 (List.mem_of_getElem? (i := 3) (by decide +kernel))) rfl, by decide, by decide⟩
theorem mn_X5_pour : xcn yX5_pour 1 := by unfold xcn; decide +kernel
theorem mv_X5_pour : xcv yX5_pour := ⟨xw_of (xw_2 (List.mem_of_getElem? (i := 33) (by decide +kernel))) rfl, xw_of (xw_s (List.mem_of_getElem? (i := 11) (by decide +kernel))) rfl⟩
theorem mc_X5_graze : xcc yX5_graze cX5_graze 6 none := ⟨xw_of (xw_2 (List.mem_of_getElem? (i := 45) (by decide +kernel))) rfl, xw_of (xw_1 (List.mem_of_getElem? (i := 3) (by decide +kernel))) rfl, by decide, by decide⟩
theorem mn_X5_graze : xcn yX5_graze 1 := by unfold xcn; decide +kernel
theorem mv_X5_graze : xcv yX5_graze := ⟨xw_of (xw_2 (List.mem_of_getElem? (i := 44) (by decide +kernel))) rfl, xw_of (xw_s (List.mem_of_getElem? (i := 13) (by decide +kernel))) rfl⟩
theorem mc_X5_likedBest : xcc yX5_likedBest cX5_likedBest 6 (some .int) := ⟨xw_of (xw_2 (List.mem_of_getElem? (i := 49) (by decide +kernel))) rfl, xw_of (xw_1 (List.mem_of_getElem? (i := 3) (by decide +kernel))) rfl, by decide, by decide⟩
theorem mn_X5_likedBest : xcn yX5_likedBest 1 := by unfold xcn; decide +kernel
theorem mv_X5_likedBest : xcv yX5_likedBest := ⟨xw_of (xw_2 (List.mem_of_getElem? (i := 48) (by decide +kernel))) rfl, xw_of (xw_s (List.mem_of_getElem? (i := 14) (by decide +kernel))) rfl⟩
theorem mc_X5_placeOf : xcc yX5_placeOf cX5_placeOf 3 (some .int) := ⟨xw_of (xw_2 (List.mem_of_getElem? (i := 37) (by decide +kernel))) rfl, xw_of (xw_1 (List.mem_of_getElem? (i := 3) (by decide +kernel))) rfl, by decide, by decide⟩
theorem mn_X5_placeOf : xcn yX5_placeOf 3 := by unfold xcn; decide +kernel
theorem ms_X5_placeOf : Cond.static yX5_placeOf ∈ xw_all := xw_of (xw_2 (List.mem_of_getElem? (i := 36) (by decide +kernel))) rfl
theorem mc_X5_leftOfPart : xcc yX5_leftOfPart cX5_leftOfPart 4 (some .int) := ⟨xw_of (xw_2 (List.mem_of_getElem? (i := 26) (by decide +kernel))) rfl, xw_of (xw_1 (List.mem_of_getElem? (i := 3) (by decide +kernel))) rfl, by decide, by decide⟩
theorem mn_X5_leftOfPart : xcn yX5_leftOfPart 3 := by unfold xcn; decide +kernel
theorem mv_X5_leftOfPart : xcv yX5_leftOfPart := ⟨xw_of (xw_2 (List.mem_of_getElem? (i := 25) (by decide +kernel))) rfl, xw_of (xw_s (List.mem_of_getElem? (i := 9) (by decide +kernel))) rfl⟩
theorem mc_X5_leftOf : xcc yX5_leftOf cX5_leftOf 3 (some .int) := ⟨xw_of (xw_2 (List.mem_of_getElem? (i := 72) (by decide +kernel))) rfl, xw_of (xw_1 (List.mem_of_getElem? (i := 3) (by decide +kernel))) rfl, by decide, by decide⟩
theorem mn_X5_leftOf : xcn yX5_leftOf 2 := by unfold xcn; decide +kernel
theorem mv_X5_leftOf : xcv yX5_leftOf := ⟨xw_of (xw_2 (List.mem_of_getElem? (i := 71) (by decide +kernel))) rfl, xw_of (xw_s (List.mem_of_getElem? (i := 18) (by decide +kernel))) rfl⟩
theorem mc_X5_sumOf : xcc yX5_sumOf cX5_sumOf 3 (some .int) := ⟨xw_of (xw_2 (List.mem_of_getElem? (i := 76) (by decide +kernel))) rfl, xw_of (xw_1 (List.mem_of_getElem? (i := 3) (by decide +kernel))) rfl, by decide, by decide⟩
theorem mn_X5_sumOf : xcn yX5_sumOf 2 := by unfold xcn; decide +kernel
theorem mv_X5_sumOf : xcv yX5_sumOf := ⟨xw_of (xw_2 (List.mem_of_getElem? (i := 75) (by decide +kernel))) rfl, xw_of (xw_s (List.mem_of_getElem? (i := 19) (by decide +kernel))) rfl⟩
theorem mc_X5_leftOfAll : xcc yX5_leftOfAll cX5_leftOfAll 4 (some .int) := ⟨xw_of (xw_2 (List.mem_of_getElem? (i := 115) (by decide +kernel))) rfl, xw_of (xw_1 (List.mem_of_getElem? (i := 3) (by decide +kernel))) rfl, by decide, by decide⟩
theorem mn_X5_leftOfAll : xcn yX5_leftOfAll 1 := by unfold xcn; decide +kernel
theorem mv_X5_leftOfAll : xcv yX5_leftOfAll := ⟨xw_of (xw_2 (List.mem_of_getElem? (i := 114) (by decide +kernel))) rfl, xw_of (xw_s (List.mem_of_getElem? (i := 25) (by decide +kernel))) rfl⟩
theorem mc_X5_lickedOff : xcc yX5_lickedOff cX5_lickedOff 3 (some .int) := ⟨xw_of (xw_2 (List.mem_of_getElem? (i := 80) (by decide +kernel))) rfl, xw_of (xw_1 (List.mem_of_getElem? (i := 3) (by decide +kernel))) rfl, by decide, by decide⟩
theorem mn_X5_lickedOff : xcn yX5_lickedOff 2 := by unfold xcn; decide +kernel
theorem mv_X5_lickedOff : xcv yX5_lickedOff := ⟨xw_of (xw_2 (List.mem_of_getElem? (i := 79) (by decide +kernel))) rfl, xw_of (xw_s (List.mem_of_getElem? (i := 20) (by decide +kernel))) rfl⟩
theorem mc_X5_inPuddle : xcc yX5_inPuddle cX5_inPuddle 3 (some .int) := ⟨xw_of (xw_2 (List.mem_of_getElem? (i := 64) (by decide +kernel))) rfl, xw_of (xw_1 (List.mem_of_getElem? (i := 3) (by decide +kernel))) rfl, by decide, by decide⟩
theorem mn_X5_inPuddle : xcn yX5_inPuddle 2 := by unfold xcn; decide +kernel
theorem mv_X5_inPuddle : xcv yX5_inPuddle := ⟨xw_of (xw_2 (List.mem_of_getElem? (i := 63) (by decide +kernel))) rfl, xw_of (xw_s (List.mem_of_getElem? (i := 16) (by decide +kernel))) rfl⟩
theorem mc_X5_dawnWithoutPart : xcc yX5_dawnWithoutPart cX5_dawnWithoutPart 4 (some .int) := ⟨xw_of (xw_2 (List.mem_of_getElem? (i := 89) (by decide +kernel))) rfl, xw_of (xw_1 (List.mem_of_getElem? (i := 3) (by decide +kernel))) rfl, by decide, by decide⟩
theorem mn_X5_dawnWithoutPart : xcn yX5_dawnWithoutPart 2 := by unfold xcn; decide +kernel
theorem mv_X5_dawnWithoutPart : xcv yX5_dawnWithoutPart := ⟨xw_of (xw_2 (List.mem_of_getElem? (i := 88) (by decide +kernel))) rfl, xw_of (xw_s (List.mem_of_getElem? (i := 21) (by decide +kernel))) rfl⟩
theorem mc_X5_dawnWithoutAny : xcc yX5_dawnWithoutAny cX5_dawnWithoutAny 3 (some .int) := ⟨xw_of (xw_2 (List.mem_of_getElem? (i := 93) (by decide +kernel))) rfl, xw_of (xw_1 (List.mem_of_getElem? (i := 3) (by decide +kernel))) rfl, by decide, by decide⟩
theorem mn_X5_dawnWithoutAny : xcn yX5_dawnWithoutAny 1 := by unfold xcn; decide +kernel
theorem mv_X5_dawnWithoutAny : xcv yX5_dawnWithoutAny := ⟨xw_of (xw_2 (List.mem_of_getElem? (i := 92) (by decide +kernel))) rfl, xw_of (xw_s (List.mem_of_getElem? (i := 22) (by decide +kernel))) rfl⟩
theorem mc_X5_likedFirst : xcc yX5_likedFirst cX5_likedFirst 2 (some .int) := ⟨xw_of (xw_2 (List.mem_of_getElem? (i := 101) (by decide +kernel))) rfl, xw_of (xw_1 (List.mem_of_getElem? (i := 3) (by decide +kernel))) rfl, by decide, by decide⟩
theorem mn_X5_likedFirst : xcn yX5_likedFirst 1 := by unfold xcn; decide +kernel
theorem mv_X5_likedFirst : xcv yX5_likedFirst := ⟨xw_of (xw_2 (List.mem_of_getElem? (i := 100) (by decide +kernel))) rfl, xw_of (xw_s (List.mem_of_getElem? (i := 23) (by decide +kernel))) rfl⟩
theorem mc_X5_longestLasting : xcc yX5_longestLasting cX5_longestLasting 5 (some .int) := ⟨xw_of (xw_2 (List.mem_of_getElem? (i := 110) (by decide +kernel))) rfl, xw_of (xw_1 (List.mem_of_getElem? (i := 3) (by decide +kernel))) rfl, by decide, by decide⟩
theorem mn_X5_longestLasting : xcn yX5_longestLasting 0 := by unfold xcn; decide +kernel
theorem mv_X5_longestLasting : xcv yX5_longestLasting := ⟨xw_of (xw_2 (List.mem_of_getElem? (i := 109) (by decide +kernel))) rfl, xw_of (xw_s (List.mem_of_getElem? (i := 24) (by decide +kernel))) rfl⟩
theorem mc_X5_apart : xcc yX5_apart cX5_apart 7 (some .int) := ⟨xw_of (xw_2 (List.mem_of_getElem? (i := 170) (by decide +kernel))) rfl, xw_of (xw_1 (List.mem_of_getElem? (i := 3) (by decide +kernel))) rfl, by decide, by decide⟩
theorem mn_X5_apart : xcn yX5_apart 4 := by unfold xcn; decide +kernel
theorem mv_X5_apart : xcv yX5_apart := ⟨xw_of (xw_2 (List.mem_of_getElem? (i := 169) (by decide +kernel))) rfl, xw_of (xw_s (List.mem_of_getElem? (i := 27) (by decide +kernel))) rfl⟩
theorem mc_X5_nearest : xcc yX5_nearest cX5_nearest 6 (some .int) := ⟨xw_of (xw_2 (List.mem_of_getElem? (i := 166) (by decide +kernel))) rfl, xw_of (xw_1 (List.mem_of_getElem? (i := 3) (by decide +kernel))) rfl, by decide, by decide⟩
theorem mn_X5_nearest : xcn yX5_nearest 3 := by unfold xcn; decide +kernel
theorem mv_X5_nearest : xcv yX5_nearest := ⟨xw_of (xw_2 (List.mem_of_getElem? (i := 165) (by decide +kernel))) rfl, xw_of (xw_s (List.mem_of_getElem? (i := 26) (by decide +kernel))) rfl⟩
theorem mc_X6_init : xcc yX6_init cX6_init 2 none := ⟨xw_of (xw_1 (List.mem_of_getElem? (i := 16) (by decide +kernel))) rfl, xw_of (xw_1 (List.mem_of_getElem? (i := 1) (by decide +kernel))) rfl, by decide, by decide⟩
theorem mn_X6_init : xcn yX6_init 0 := by unfold xcn; decide +kernel
theorem mi_X6_init : Cond.instanceMethod yX6_init ∈ xw_all := xw_of (xw_1 (List.mem_of_getElem? (i := 15) (by decide +kernel))) rfl
theorem mc_X6_statues : xcc yX6_statues cX6_statues 8 (some .int) := ⟨xw_of (xw_1 (List.mem_of_getElem? (i := 166) (by decide +kernel))) rfl, xw_of (xw_1 (List.mem_of_getElem? (i := 1) (by decide +kernel))) rfl, by decide, by decide⟩
theorem mn_X6_statues : xcn yX6_statues 4 := by unfold xcn; decide +kernel
theorem mv_X6_statues : xcv yX6_statues := ⟨xw_of (xw_1 (List.mem_of_getElem? (i := 164) (by decide +kernel))) rfl, xw_of (xw_1 (List.mem_of_getElem? (i := 165) (by decide +kernel))) rfl⟩
theorem mc_X6_ofStatue : xcc yX6_ofStatue cX6_ofStatue 4 (some .int) := ⟨xw_of (xw_1 (List.mem_of_getElem? (i := 219) (by decide +kernel))) rfl, xw_of (xw_1 (List.mem_of_getElem? (i := 1) (by decide +kernel))) rfl, by decide, by decide⟩
theorem mn_X6_ofStatue : xcn yX6_ofStatue 2 := by unfold xcn; decide +kernel
theorem mv_X6_ofStatue : xcv yX6_ofStatue := ⟨xw_of (xw_1 (List.mem_of_getElem? (i := 217) (by decide +kernel))) rfl, xw_of (xw_1 (List.mem_of_getElem? (i := 218) (by decide +kernel))) rfl⟩
theorem mc_X6_look : xcc yX6_look cX6_look 5 (some .int) := ⟨xw_of (xw_1 (List.mem_of_getElem? (i := 227) (by decide +kernel))) rfl, xw_of (xw_1 (List.mem_of_getElem? (i := 1) (by decide +kernel))) rfl, by decide, by decide⟩
theorem mn_X6_look : xcn yX6_look 2 := by unfold xcn; decide +kernel
theorem mv_X6_look : xcv yX6_look := ⟨xw_of (xw_1 (List.mem_of_getElem? (i := 225) (by decide +kernel))) rfl, xw_of (xw_1 (List.mem_of_getElem? (i := 226) (by decide +kernel))) rfl⟩
theorem mc_X6_over : xcc yX6_over cX6_over 5 (some .int) := ⟨xw_of (xw_1 (List.mem_of_getElem? (i := 238) (by decide +kernel))) rfl, xw_of (xw_1 (List.mem_of_getElem? (i := 1) (by decide +kernel))) rfl, by decide, by decide⟩
theorem mn_X6_over : xcn yX6_over 2 := by unfold xcn; decide +kernel
theorem mv_X6_over : xcv yX6_over := ⟨xw_of (xw_1 (List.mem_of_getElem? (i := 236) (by decide +kernel))) rfl, xw_of (xw_1 (List.mem_of_getElem? (i := 237) (by decide +kernel))) rfl⟩
theorem mc_X6_fence : xcc yX6_fence cX6_fence 4 (some .int) := ⟨xw_of (xw_2 (List.mem_of_getElem? (i := 2) (by decide +kernel))) rfl, xw_of (xw_1 (List.mem_of_getElem? (i := 1) (by decide +kernel))) rfl, by decide, by decide⟩
theorem mn_X6_fence : xcn yX6_fence 2 := by unfold xcn; decide +kernel
theorem mv_X6_fence : xcv yX6_fence := ⟨xw_of (xw_2 (List.mem_of_getElem? (i := 0) (by decide +kernel))) rfl, xw_of (xw_2 (List.mem_of_getElem? (i := 1) (by decide +kernel))) rfl⟩
theorem mc_X6_rain : xcc yX6_rain cX6_rain 5 (some .int) := ⟨xw_of (xw_2 (List.mem_of_getElem? (i := 6) (by decide +kernel))) rfl, xw_of (xw_1 (List.mem_of_getElem? (i := 1) (by decide +kernel))) rfl, by decide, by decide⟩
theorem mn_X6_rain : xcn yX6_rain 3 := by unfold xcn; decide +kernel
theorem mv_X6_rain : xcv yX6_rain := ⟨xw_of (xw_2 (List.mem_of_getElem? (i := 4) (by decide +kernel))) rfl, xw_of (xw_2 (List.mem_of_getElem? (i := 5) (by decide +kernel))) rfl⟩
theorem mc_X6_deer : xcc yX6_deer cX6_deer 3 (some .int) := ⟨xw_of (xw_2 (List.mem_of_getElem? (i := 15) (by decide +kernel))) rfl, xw_of (xw_1 (List.mem_of_getElem? (i := 1) (by decide +kernel))) rfl, by decide, by decide⟩
theorem mn_X6_deer : xcn yX6_deer 1 := by unfold xcn; decide +kernel
theorem mv_X6_deer : xcv yX6_deer := ⟨xw_of (xw_2 (List.mem_of_getElem? (i := 13) (by decide +kernel))) rfl, xw_of (xw_2 (List.mem_of_getElem? (i := 14) (by decide +kernel))) rfl⟩
theorem mc_X6_grains : xcc yX6_grains cX6_grains 4 (some .int) := ⟨xw_of (xw_2 (List.mem_of_getElem? (i := 19) (by decide +kernel))) rfl, xw_of (xw_1 (List.mem_of_getElem? (i := 1) (by decide +kernel))) rfl, by decide, by decide⟩
theorem mn_X6_grains : xcn yX6_grains 3 := by unfold xcn; decide +kernel
theorem mv_X6_grains : xcv yX6_grains := ⟨xw_of (xw_2 (List.mem_of_getElem? (i := 17) (by decide +kernel))) rfl, xw_of (xw_2 (List.mem_of_getElem? (i := 18) (by decide +kernel))) rfl⟩
theorem mc_X6_lost : xcc yX6_lost cX6_lost 4 (some .int) := ⟨xw_of (xw_2 (List.mem_of_getElem? (i := 60) (by decide +kernel))) rfl, xw_of (xw_1 (List.mem_of_getElem? (i := 1) (by decide +kernel))) rfl, by decide, by decide⟩
theorem mn_X6_lost : xcn yX6_lost 3 := by unfold xcn; decide +kernel
theorem mv_X6_lost : xcv yX6_lost := ⟨xw_of (xw_2 (List.mem_of_getElem? (i := 58) (by decide +kernel))) rfl, xw_of (xw_2 (List.mem_of_getElem? (i := 59) (by decide +kernel))) rfl⟩
theorem mc_X6_gone : xcc yX6_gone cX6_gone 4 (some .int) := ⟨xw_of (xw_2 (List.mem_of_getElem? (i := 85) (by decide +kernel))) rfl, xw_of (xw_1 (List.mem_of_getElem? (i := 1) (by decide +kernel))) rfl, by decide, by decide⟩
theorem mn_X6_gone : xcn yX6_gone 2 := by unfold xcn; decide +kernel
theorem mv_X6_gone : xcv yX6_gone := ⟨xw_of (xw_2 (List.mem_of_getElem? (i := 83) (by decide +kernel))) rfl, xw_of (xw_2 (List.mem_of_getElem? (i := 84) (by decide +kernel))) rfl⟩
theorem mc_X6_liked : xcc yX6_liked cX6_liked 2 (some .int) := ⟨xw_of (xw_2 (List.mem_of_getElem? (i := 97) (by decide +kernel))) rfl, xw_of (xw_1 (List.mem_of_getElem? (i := 1) (by decide +kernel))) rfl, by decide, by decide⟩
theorem mn_X6_liked : xcn yX6_liked 1 := by unfold xcn; decide +kernel
theorem mv_X6_liked : xcv yX6_liked := ⟨xw_of (xw_2 (List.mem_of_getElem? (i := 95) (by decide +kernel))) rfl, xw_of (xw_2 (List.mem_of_getElem? (i := 96) (by decide +kernel))) rfl⟩
theorem mc_X6_lasts : xcc yX6_lasts cX6_lasts 5 (some .long) := ⟨xw_of (xw_2 (List.mem_of_getElem? (i := 105) (by decide +kernel))) rfl, xw_of (xw_1 (List.mem_of_getElem? (i := 1) (by decide +kernel))) rfl, by decide, by decide⟩
theorem mn_X6_lasts : xcn yX6_lasts 1 := by unfold xcn; decide +kernel
theorem mv_X6_lasts : xcv yX6_lasts := ⟨xw_of (xw_2 (List.mem_of_getElem? (i := 103) (by decide +kernel))) rfl, xw_of (xw_2 (List.mem_of_getElem? (i := 104) (by decide +kernel))) rfl⟩
theorem mc_X6_umbrellas : xcc yX6_umbrellas cX6_umbrellas 3 (some .int) := ⟨xw_of (xw_2 (List.mem_of_getElem? (i := 122) (by decide +kernel))) rfl, xw_of (xw_1 (List.mem_of_getElem? (i := 1) (by decide +kernel))) rfl, by decide, by decide⟩
theorem mn_X6_umbrellas : xcn yX6_umbrellas 2 := by unfold xcn; decide +kernel
theorem mv_X6_umbrellas : xcv yX6_umbrellas := ⟨xw_of (xw_2 (List.mem_of_getElem? (i := 120) (by decide +kernel))) rfl, xw_of (xw_2 (List.mem_of_getElem? (i := 121) (by decide +kernel))) rfl⟩
theorem mc_X6_turn : xcc yX6_turn cX6_turn 2 (some .int) := ⟨xw_of (xw_2 (List.mem_of_getElem? (i := 143) (by decide +kernel))) rfl, xw_of (xw_1 (List.mem_of_getElem? (i := 1) (by decide +kernel))) rfl, by decide, by decide⟩
theorem mn_X6_turn : xcn yX6_turn 1 := by unfold xcn; decide +kernel
theorem mv_X6_turn : xcv yX6_turn := ⟨xw_of (xw_2 (List.mem_of_getElem? (i := 141) (by decide +kernel))) rfl, xw_of (xw_2 (List.mem_of_getElem? (i := 142) (by decide +kernel))) rfl⟩
theorem mc_X6_roofs : xcc yX6_roofs cX6_roofs 4 (some .int) := ⟨xw_of (xw_2 (List.mem_of_getElem? (i := 153) (by decide +kernel))) rfl, xw_of (xw_1 (List.mem_of_getElem? (i := 1) (by decide +kernel))) rfl, by decide, by decide⟩
theorem mn_X6_roofs : xcn yX6_roofs 2 := by unfold xcn; decide +kernel
theorem mv_X6_roofs : xcv yX6_roofs := ⟨xw_of (xw_2 (List.mem_of_getElem? (i := 151) (by decide +kernel))) rfl, xw_of (xw_2 (List.mem_of_getElem? (i := 152) (by decide +kernel))) rfl⟩
theorem mc_X6_takenFor : xcc yX6_takenFor cX6_takenFor 9 (some .int) := ⟨xw_of (xw_2 (List.mem_of_getElem? (i := 162) (by decide +kernel))) rfl, xw_of (xw_1 (List.mem_of_getElem? (i := 1) (by decide +kernel))) rfl, by decide, by decide⟩
theorem mn_X6_takenFor : xcn yX6_takenFor 5 := by unfold xcn; decide +kernel
theorem mv_X6_takenFor : xcv yX6_takenFor := ⟨xw_of (xw_2 (List.mem_of_getElem? (i := 160) (by decide +kernel))) rfl, xw_of (xw_2 (List.mem_of_getElem? (i := 161) (by decide +kernel))) rfl⟩
theorem mc_X6_whose : xcc yX6_whose cX6_whose 5 (some .int) := ⟨xw_of (xw_2 (List.mem_of_getElem? (i := 178) (by decide +kernel))) rfl, xw_of (xw_1 (List.mem_of_getElem? (i := 1) (by decide +kernel))) rfl, by decide, by decide⟩
theorem mn_X6_whose : xcn yX6_whose 2 := by unfold xcn; decide +kernel
theorem mv_X6_whose : xcv yX6_whose := ⟨xw_of (xw_2 (List.mem_of_getElem? (i := 176) (by decide +kernel))) rfl, xw_of (xw_2 (List.mem_of_getElem? (i := 177) (by decide +kernel))) rfl⟩
theorem mc_X6_reading : xcc yX6_reading cX6_reading 5 (some .int) := ⟨xw_of (xw_2 (List.mem_of_getElem? (i := 182) (by decide +kernel))) rfl, xw_of (xw_1 (List.mem_of_getElem? (i := 1) (by decide +kernel))) rfl, by decide, by decide⟩
theorem mn_X6_reading : xcn yX6_reading 4 := by unfold xcn; decide +kernel
theorem mv_X6_reading : xcv yX6_reading := ⟨xw_of (xw_2 (List.mem_of_getElem? (i := 180) (by decide +kernel))) rfl, xw_of (xw_2 (List.mem_of_getElem? (i := 181) (by decide +kernel))) rfl⟩
theorem mc_X6_back : xcc yX6_back cX6_back 2 (some .int) := ⟨xw_of (xw_2 (List.mem_of_getElem? (i := 190) (by decide +kernel))) rfl, xw_of (xw_1 (List.mem_of_getElem? (i := 1) (by decide +kernel))) rfl, by decide, by decide⟩
theorem mn_X6_back : xcn yX6_back 1 := by unfold xcn; decide +kernel
theorem mv_X6_back : xcv yX6_back := ⟨xw_of (xw_2 (List.mem_of_getElem? (i := 188) (by decide +kernel))) rfl, xw_of (xw_2 (List.mem_of_getElem? (i := 189) (by decide +kernel))) rfl⟩
theorem mc_X6_rains : xcc yX6_rains cX6_rains 5 (some .int) := ⟨xw_of (xw_2 (List.mem_of_getElem? (i := 194) (by decide +kernel))) rfl, xw_of (xw_1 (List.mem_of_getElem? (i := 1) (by decide +kernel))) rfl, by decide, by decide⟩
theorem mn_X6_rains : xcn yX6_rains 1 := by unfold xcn; decide +kernel
theorem mv_X6_rains : xcv yX6_rains := ⟨xw_of (xw_2 (List.mem_of_getElem? (i := 192) (by decide +kernel))) rfl, xw_of (xw_2 (List.mem_of_getElem? (i := 193) (by decide +kernel))) rfl⟩
theorem mc_X6_cast : xcc yX6_cast cX6_cast 5 (some .int) := ⟨xw_of (xw_2 (List.mem_of_getElem? (i := 203) (by decide +kernel))) rfl, xw_of (xw_1 (List.mem_of_getElem? (i := 1) (by decide +kernel))) rfl, by decide, by decide⟩
theorem mn_X6_cast : xcn yX6_cast 2 := by unfold xcn; decide +kernel
theorem mv_X6_cast : xcv yX6_cast := ⟨xw_of (xw_2 (List.mem_of_getElem? (i := 201) (by decide +kernel))) rfl, xw_of (xw_2 (List.mem_of_getElem? (i := 202) (by decide +kernel))) rfl⟩
theorem mc_X6_sheet : xcc yX6_sheet cX6_sheet 4 (some .int) := ⟨xw_of (xw_2 (List.mem_of_getElem? (i := 207) (by decide +kernel))) rfl, xw_of (xw_1 (List.mem_of_getElem? (i := 1) (by decide +kernel))) rfl, by decide, by decide⟩
theorem mn_X6_sheet : xcn yX6_sheet 3 := by unfold xcn; decide +kernel
theorem mv_X6_sheet : xcv yX6_sheet := ⟨xw_of (xw_2 (List.mem_of_getElem? (i := 205) (by decide +kernel))) rfl, xw_of (xw_2 (List.mem_of_getElem? (i := 206) (by decide +kernel))) rfl⟩
theorem mc_X6_lose : xcc yX6_lose cX6_lose 3 (some .int) := ⟨xw_of (xw_2 (List.mem_of_getElem? (i := 215) (by decide +kernel))) rfl, xw_of (xw_1 (List.mem_of_getElem? (i := 1) (by decide +kernel))) rfl, by decide, by decide⟩
theorem mn_X6_lose : xcn yX6_lose 1 := by unfold xcn; decide +kernel
theorem mv_X6_lose : xcv yX6_lose := ⟨xw_of (xw_2 (List.mem_of_getElem? (i := 213) (by decide +kernel))) rfl, xw_of (xw_2 (List.mem_of_getElem? (i := 214) (by decide +kernel))) rfl⟩
theorem mc_X6_put : xcc yX6_put cX6_put 5 (some .int) := ⟨xw_of (xw_2 (List.mem_of_getElem? (i := 219) (by decide +kernel))) rfl, xw_of (xw_1 (List.mem_of_getElem? (i := 1) (by decide +kernel))) rfl, by decide, by decide⟩
theorem mn_X6_put : xcn yX6_put 3 := by unfold xcn; decide +kernel
theorem mv_X6_put : xcv yX6_put := ⟨xw_of (xw_2 (List.mem_of_getElem? (i := 217) (by decide +kernel))) rfl, xw_of (xw_2 (List.mem_of_getElem? (i := 218) (by decide +kernel))) rfl⟩
theorem mc_X6_cell : xcc yX6_cell cX6_cell 6 (some .long) := ⟨xw_of (xw_2 (List.mem_of_getElem? (i := 227) (by decide +kernel))) rfl, xw_of (xw_1 (List.mem_of_getElem? (i := 1) (by decide +kernel))) rfl, by decide, by decide⟩
theorem mn_X6_cell : xcn yX6_cell 3 := by unfold xcn; decide +kernel
theorem mv_X6_cell : xcv yX6_cell := ⟨xw_of (xw_2 (List.mem_of_getElem? (i := 225) (by decide +kernel))) rfl, xw_of (xw_2 (List.mem_of_getElem? (i := 226) (by decide +kernel))) rfl⟩
theorem mc_X6_copy : xcc yX6_copy cX6_copy 8 (some .int) := ⟨xw_of (xw_2 (List.mem_of_getElem? (i := 231) (by decide +kernel))) rfl, xw_of (xw_1 (List.mem_of_getElem? (i := 1) (by decide +kernel))) rfl, by decide, by decide⟩
theorem mn_X6_copy : xcn yX6_copy 5 := by unfold xcn; decide +kernel
theorem mv_X6_copy : xcv yX6_copy := ⟨xw_of (xw_2 (List.mem_of_getElem? (i := 229) (by decide +kernel))) rfl, xw_of (xw_2 (List.mem_of_getElem? (i := 230) (by decide +kernel))) rfl⟩
theorem mc_X6_tell : xcc yX6_tell cX6_tell 3 (some .int) := ⟨xw_of (xw_2 (List.mem_of_getElem? (i := 236) (by decide +kernel))) rfl, xw_of (xw_1 (List.mem_of_getElem? (i := 1) (by decide +kernel))) rfl, by decide, by decide⟩
theorem mn_X6_tell : xcn yX6_tell 1 := by unfold xcn; decide +kernel
theorem mv_X6_tell : xcv yX6_tell := ⟨xw_of (xw_2 (List.mem_of_getElem? (i := 234) (by decide +kernel))) rfl, xw_of (xw_2 (List.mem_of_getElem? (i := 235) (by decide +kernel))) rfl⟩
theorem mc_X6_bow : xcc yX6_bow cX6_bow 2 (some .int) := ⟨xw_of (xw_3 (List.mem_of_getElem? (i := 16) (by decide +kernel))) rfl, xw_of (xw_1 (List.mem_of_getElem? (i := 1) (by decide +kernel))) rfl, by decide, by decide⟩
theorem mn_X6_bow : xcn yX6_bow 1 := by unfold xcn; decide +kernel
theorem mv_X6_bow : xcv yX6_bow := ⟨xw_of (xw_3 (List.mem_of_getElem? (i := 14) (by decide +kernel))) rfl, xw_of (xw_3 (List.mem_of_getElem? (i := 15) (by decide +kernel))) rfl⟩
theorem mc_X6_as : xcc yX6_as cX6_as 3 (some .int) := ⟨xw_of (xw_3 (List.mem_of_getElem? (i := 20) (by decide +kernel))) rfl, xw_of (xw_1 (List.mem_of_getElem? (i := 1) (by decide +kernel))) rfl, by decide, by decide⟩
theorem mn_X6_as : xcn yX6_as 2 := by unfold xcn; decide +kernel
theorem mv_X6_as : xcv yX6_as := ⟨xw_of (xw_3 (List.mem_of_getElem? (i := 18) (by decide +kernel))) rfl, xw_of (xw_3 (List.mem_of_getElem? (i := 19) (by decide +kernel))) rfl⟩
theorem mc_X6_trace : xcc yX6_trace cX6_trace 1 (some .int) := ⟨xw_of (xw_3 (List.mem_of_getElem? (i := 24) (by decide +kernel))) rfl, xw_of (xw_1 (List.mem_of_getElem? (i := 1) (by decide +kernel))) rfl, by decide, by decide⟩
theorem mn_X6_trace : xcn yX6_trace 0 := by unfold xcn; decide +kernel
theorem mv_X6_trace : xcv yX6_trace := ⟨xw_of (xw_3 (List.mem_of_getElem? (i := 22) (by decide +kernel))) rfl, xw_of (xw_3 (List.mem_of_getElem? (i := 23) (by decide +kernel))) rfl⟩
theorem mc_X6_fault : xcc yX6_fault cX6_fault 1 (some .int) := ⟨xw_of (xw_3 (List.mem_of_getElem? (i := 28) (by decide +kernel))) rfl, xw_of (xw_1 (List.mem_of_getElem? (i := 1) (by decide +kernel))) rfl, by decide, by decide⟩
theorem mn_X6_fault : xcn yX6_fault 0 := by unfold xcn; decide +kernel
theorem mv_X6_fault : xcv yX6_fault := ⟨xw_of (xw_3 (List.mem_of_getElem? (i := 26) (by decide +kernel))) rfl, xw_of (xw_3 (List.mem_of_getElem? (i := 27) (by decide +kernel))) rfl⟩
theorem mc_X6_many : xcc yX6_many cX6_many 2 (some .int) := ⟨xw_of (xw_3 (List.mem_of_getElem? (i := 32) (by decide +kernel))) rfl, xw_of (xw_1 (List.mem_of_getElem? (i := 1) (by decide +kernel))) rfl, by decide, by decide⟩
theorem mn_X6_many : xcn yX6_many 1 := by unfold xcn; decide +kernel
theorem mv_X6_many : xcv yX6_many := ⟨xw_of (xw_3 (List.mem_of_getElem? (i := 30) (by decide +kernel))) rfl, xw_of (xw_3 (List.mem_of_getElem? (i := 31) (by decide +kernel))) rfl⟩
theorem mc_X6_isBelow : xcc yX6_isBelow cX6_isBelow 2 (some .boolean) := ⟨xw_of (xw_1 (List.mem_of_getElem? (i := 172) (by decide +kernel))) rfl, xw_of (xw_1 (List.mem_of_getElem? (i := 1) (by decide +kernel))) rfl, by decide, by decide⟩
theorem mn_X6_isBelow : xcn yX6_isBelow 2 := by unfold xcn; decide +kernel
theorem ms_X6_isBelow : Cond.static yX6_isBelow ∈ xw_all := xw_of (xw_1 (List.mem_of_getElem? (i := 171) (by decide +kernel))) rfl
theorem mc_X6_isSheet : xcc yX6_isSheet cX6_isSheet 1 (some .boolean) := ⟨xw_of (xw_1 (List.mem_of_getElem? (i := 169) (by decide +kernel))) rfl, xw_of (xw_1 (List.mem_of_getElem? (i := 1) (by decide +kernel))) rfl, by decide, by decide⟩
theorem mn_X6_isSheet : xcn yX6_isSheet 1 := by unfold xcn; decide +kernel
theorem ms_X6_isSheet : Cond.static yX6_isSheet ∈ xw_all := xw_of (xw_1 (List.mem_of_getElem? (i := 168) (by decide +kernel))) rfl
theorem mc_X6_isLane : xcc yX6_isLane cX6_isLane 1 (some .boolean) := ⟨xw_of (xw_1 (List.mem_of_getElem? (i := 175) (by decide +kernel))) rfl, xw_of (xw_1 (List.mem_of_getElem? (i := 1) (by decide +kernel))) rfl, by decide, by decide⟩
theorem mn_X6_isLane : xcn yX6_isLane 1 := by unfold xcn; decide +kernel
theorem ms_X6_isLane : Cond.static yX6_isLane ∈ xw_all := xw_of (xw_1 (List.mem_of_getElem? (i := 174) (by decide +kernel))) rfl
theorem mc_X6_isDawn : xcc yX6_isDawn cX6_isDawn 1 (some .boolean) := ⟨xw_of (xw_2 (List.mem_of_getElem? (i := 22) (by decide +kernel))) rfl, xw_of (xw_1 (List.mem_of_getElem? (i := 1) (by decide +kernel))) rfl, by decide, by decide⟩
theorem mn_X6_isDawn : xcn yX6_isDawn 1 := by unfold xcn; decide +kernel
theorem ms_X6_isDawn : Cond.static yX6_isDawn ∈ xw_all := xw_of (xw_2 (List.mem_of_getElem? (i := 21) (by decide +kernel))) rfl
theorem mc_X6_isStatue : xcc yX6_isStatue cX6_isStatue 2 (some .boolean) := ⟨xw_of (xw_1 (List.mem_of_getElem? (i := 223) (by decide +kernel))) rfl, xw_of (xw_1 (List.mem_of_getElem? (i := 1) (by decide +kernel))) rfl, by decide, by decide⟩
theorem mn_X6_isStatue : xcn yX6_isStatue 1 := by unfold xcn; decide +kernel
theorem mv_X6_isStatue : xcv yX6_isStatue := ⟨xw_of (xw_1 (List.mem_of_getElem? (i := 222) (by decide +kernel))) rfl, xw_of (xw_s (List.mem_of_getElem? (i := 6) (by decide +kernel))) rfl⟩
theorem mc_X6_faulty : xcc yX6_faulty cX6_faulty 2 (some .int) := ⟨xw_of (xw_1 (List.mem_of_getElem? (i := 187) (by decide +kernel))) rfl, xw_of (xw_1 (List.mem_of_getElem? (i := 1) (by decide +kernel))) rfl, by decide, by decide⟩
theorem mn_X6_faulty : xcn yX6_faulty 1 := by unfold xcn; decide +kernel
theorem mv_X6_faulty : xcv yX6_faulty := ⟨xw_of (xw_1 (List.mem_of_getElem? (i := 186) (by decide +kernel))) rfl, xw_of (xw_s (List.mem_of_getElem? (i := 2) (by decide +kernel))) rfl⟩
theorem mc_X6_leave : xcc yX6_leave cX6_leave 2 none := ⟨xw_of (xw_3 (List.mem_of_getElem? (i := 4) (by decide +kernel))) rfl, xw_of (xw_1 (List.mem_of_getElem? (i := 1) (by decide +kernel))) rfl, by decide, by decide⟩
theorem mn_X6_leave : xcn yX6_leave 1 := by unfold xcn; decide +kernel
theorem mv_X6_leave : xcv yX6_leave := ⟨xw_of (xw_3 (List.mem_of_getElem? (i := 3) (by decide +kernel))) rfl, xw_of (xw_s (List.mem_of_getElem? (i := 33) (by decide +kernel))) rfl⟩
theorem mc_X6_saintTells : xcc yX6_saintTells cX6_saintTells 2 (some .int) := ⟨xw_of (xw_3 (List.mem_of_getElem? (i := 12) (by decide +kernel))) rfl, xw_of (xw_1 (List.mem_of_getElem? (i := 1) (by decide +kernel))) rfl, by decide, by decide⟩
theorem mn_X6_saintTells : xcn yX6_saintTells 1 := by unfold xcn; decide +kernel
theorem mv_X6_saintTells : xcv yX6_saintTells := ⟨xw_of (xw_3 (List.mem_of_getElem? (i := 11) (by decide +kernel))) rfl, xw_of (xw_s (List.mem_of_getElem? (i := 35) (by decide +kernel))) rfl⟩
theorem mc_X6_bishopTells : xcc yX6_bishopTells cX6_bishopTells 2 (some .int) := ⟨xw_of (xw_3 (List.mem_of_getElem? (i := 8) (by decide +kernel))) rfl, xw_of (xw_1 (List.mem_of_getElem? (i := 1) (by decide +kernel))) rfl, by decide, by decide⟩
theorem mn_X6_bishopTells : xcn yX6_bishopTells 1 := by unfold xcn; decide +kernel
theorem mv_X6_bishopTells : xcv yX6_bishopTells := ⟨xw_of (xw_3 (List.mem_of_getElem? (i := 7) (by decide +kernel))) rfl, xw_of (xw_s (List.mem_of_getElem? (i := 34) (by decide +kernel))) rfl⟩
theorem mc_X6_martyrTells : xcc yX6_martyrTells cX6_martyrTells 3 (some .int) := ⟨xw_of (xw_3 (List.mem_of_getElem? (i := 0) (by decide +kernel))) rfl, xw_of (xw_1 (List.mem_of_getElem? (i := 1) (by decide +kernel))) rfl, by decide, by decide⟩
theorem mn_X6_martyrTells : xcn yX6_martyrTells 1 := by unfold xcn; decide +kernel
theorem mv_X6_martyrTells : xcv yX6_martyrTells := ⟨xw_of (xw_2 (List.mem_of_getElem? (i := 239) (by decide +kernel))) rfl, xw_of (xw_s (List.mem_of_getElem? (i := 32) (by decide +kernel))) rfl⟩
theorem mc_X6_commonDivisor : xcc yX6_commonDivisor cX6_commonDivisor 6 (some .int) := ⟨xw_of (xw_2 (List.mem_of_getElem? (i := 118) (by decide +kernel))) rfl, xw_of (xw_1 (List.mem_of_getElem? (i := 1) (by decide +kernel))) rfl, by decide, by decide⟩
theorem mn_X6_commonDivisor : xcn yX6_commonDivisor 2 := by unfold xcn; decide +kernel
theorem ms_X6_commonDivisor : Cond.static yX6_commonDivisor ∈ xw_all := xw_of (xw_2 (List.mem_of_getElem? (i := 117) (by decide +kernel))) rfl
theorem mc_X7_init : xcc yX7_init cX7_init 2 none := ⟨xw_of (xw_3 (List.mem_of_getElem? (i := 37) (by decide +kernel))) rfl, xw_of (xw_1 (List.mem_of_getElem? (i := 6) (by decide +kernel))) rfl, by decide, by decide⟩
theorem mn_X7_init : xcn yX7_init 0 := by unfold xcn; decide +kernel
theorem mi_X7_init : Cond.instanceMethod yX7_init ∈ xw_all := xw_of (xw_3 (List.mem_of_getElem? (i := 36) (by decide +kernel))) rfl
theorem mc_X7_in : xcc yX7_in cX7_in 6 (some .boolean) := ⟨xw_of (xw_3 (List.mem_of_getElem? (i := 142) (by decide +kernel))) rfl, xw_of (xw_1 (List.mem_of_getElem? (i := 6) (by decide +kernel))) rfl, by decide, by decide⟩
theorem mn_X7_in : xcn yX7_in 3 := by unfold xcn; decide +kernel
theorem ms_X7_in : Cond.static yX7_in ∈ xw_all := xw_of (xw_3 (List.mem_of_getElem? (i := 141) (by decide +kernel))) rfl
theorem mc_X7_nothing : xcc yX7_nothing cX7_nothing 0 (some .long) := ⟨xw_of (xw_4 (List.mem_of_getElem? (i := 29) (by decide +kernel))) rfl, xw_of (xw_1 (List.mem_of_getElem? (i := 6) (by decide +kernel))) rfl, by decide, by decide⟩
theorem mn_X7_nothing : xcn yX7_nothing 0 := by unfold xcn; decide +kernel
theorem ms_X7_nothing : Cond.static yX7_nothing ∈ xw_all := xw_of (xw_4 (List.mem_of_getElem? (i := 28) (by decide +kernel))) rfl
theorem mc_X7_off : xcc yX7_off cX7_off 2 (some .int) := ⟨xw_of (xw_4 (List.mem_of_getElem? (i := 72) (by decide +kernel))) rfl, xw_of (xw_1 (List.mem_of_getElem? (i := 6) (by decide +kernel))) rfl, by decide, by decide⟩
theorem mn_X7_off : xcn yX7_off 2 := by unfold xcn; decide +kernel
theorem ms_X7_off : Cond.static yX7_off ∈ xw_all := xw_of (xw_4 (List.mem_of_getElem? (i := 71) (by decide +kernel))) rfl
theorem mc_X7_lesser : xcc yX7_lesser cX7_lesser 2 (some .int) := ⟨xw_of (xw_3 (List.mem_of_getElem? (i := 234) (by decide +kernel))) rfl, xw_of (xw_1 (List.mem_of_getElem? (i := 6) (by decide +kernel))) rfl, by decide, by decide⟩
theorem mn_X7_lesser : xcn yX7_lesser 2 := by unfold xcn; decide +kernel
theorem ms_X7_lesser : Cond.static yX7_lesser ∈ xw_all := xw_of (xw_3 (List.mem_of_getElem? (i := 233) (by decide +kernel))) rfl
theorem mc_X7_told : xcc yX7_told cX7_told 11 (some .long) := ⟨xw_of (xw_4 (List.mem_of_getElem? (i := 33) (by decide +kernel))) rfl, xw_of (xw_1 (List.mem_of_getElem? (i := 6) (by decide +kernel))) rfl, by decide, by decide⟩
theorem mn_X7_told : xcn yX7_told 3 := by unfold xcn; decide +kernel
theorem ms_X7_told : Cond.static yX7_told ∈ xw_all := xw_of (xw_4 (List.mem_of_getElem? (i := 32) (by decide +kernel))) rfl
theorem mc_X7_refused : xcc yX7_refused cX7_refused 2 (some .int) := ⟨xw_of (xw_3 (List.mem_of_getElem? (i := 146) (by decide +kernel))) rfl, xw_of (xw_1 (List.mem_of_getElem? (i := 6) (by decide +kernel))) rfl, by decide, by decide⟩
theorem mn_X7_refused : xcn yX7_refused 1 := by unfold xcn; decide +kernel
theorem mv_X7_refused : xcv yX7_refused := ⟨xw_of (xw_3 (List.mem_of_getElem? (i := 145) (by decide +kernel))) rfl, xw_of (xw_s (List.mem_of_getElem? (i := 37) (by decide +kernel))) rfl⟩
theorem mc_X7_failed : xcc yX7_failed cX7_failed 2 (some .int) := ⟨xw_of (xw_3 (List.mem_of_getElem? (i := 151) (by decide +kernel))) rfl, xw_of (xw_1 (List.mem_of_getElem? (i := 6) (by decide +kernel))) rfl, by decide, by decide⟩
theorem mn_X7_failed : xcn yX7_failed 1 := by unfold xcn; decide +kernel
theorem mv_X7_failed : xcv yX7_failed := ⟨xw_of (xw_3 (List.mem_of_getElem? (i := 150) (by decide +kernel))) rfl, xw_of (xw_s (List.mem_of_getElem? (i := 38) (by decide +kernel))) rfl⟩
theorem mc_X7_failedLong : xcc yX7_failedLong cX7_failedLong 2 (some .long) := ⟨xw_of (xw_4 (List.mem_of_getElem? (i := 121) (by decide +kernel))) rfl, xw_of (xw_1 (List.mem_of_getElem? (i := 6) (by decide +kernel))) rfl, by decide, by decide⟩
theorem mn_X7_failedLong : xcn yX7_failedLong 1 := by unfold xcn; decide +kernel
theorem mv_X7_failedLong : xcv yX7_failedLong := ⟨xw_of (xw_4 (List.mem_of_getElem? (i := 120) (by decide +kernel))) rfl, xw_of (xw_s (List.mem_of_getElem? (i := 59) (by decide +kernel))) rfl⟩
theorem mc_X7_barred : xcc yX7_barred cX7_barred 7 (some .int) := ⟨xw_of (xw_3 (List.mem_of_getElem? (i := 135) (by decide +kernel))) rfl, xw_of (xw_1 (List.mem_of_getElem? (i := 6) (by decide +kernel))) rfl, by decide, by decide⟩
theorem mn_X7_barred : xcn yX7_barred 5 := by unfold xcn; decide +kernel
theorem mv_X7_barred : xcv yX7_barred := ⟨xw_of (xw_3 (List.mem_of_getElem? (i := 134) (by decide +kernel))) rfl, xw_of (xw_s (List.mem_of_getElem? (i := 36) (by decide +kernel))) rfl⟩
theorem mc_X7_noOne : xcc yX7_noOne cX7_noOne 2 (some .boolean) := ⟨xw_of (xw_3 (List.mem_of_getElem? (i := 178) (by decide +kernel))) rfl, xw_of (xw_1 (List.mem_of_getElem? (i := 6) (by decide +kernel))) rfl, by decide, by decide⟩
theorem mn_X7_noOne : xcn yX7_noOne 1 := by unfold xcn; decide +kernel
theorem mv_X7_noOne : xcv yX7_noOne := ⟨xw_of (xw_3 (List.mem_of_getElem? (i := 177) (by decide +kernel))) rfl, xw_of (xw_s (List.mem_of_getElem? (i := 43) (by decide +kernel))) rfl⟩
theorem mc_X7_isDawn : xcc yX7_isDawn cX7_isDawn 1 (some .boolean) := ⟨xw_of (xw_3 (List.mem_of_getElem? (i := 210) (by decide +kernel))) rfl, xw_of (xw_1 (List.mem_of_getElem? (i := 6) (by decide +kernel))) rfl, by decide, by decide⟩
theorem mn_X7_isDawn : xcn yX7_isDawn 1 := by unfold xcn; decide +kernel
theorem ms_X7_isDawn : Cond.static yX7_isDawn ∈ xw_all := xw_of (xw_3 (List.mem_of_getElem? (i := 209) (by decide +kernel))) rfl
theorem mc_X7_codeAt : xcc yX7_codeAt cX7_codeAt 3 (some .int) := ⟨xw_of (xw_3 (List.mem_of_getElem? (i := 166) (by decide +kernel))) rfl, xw_of (xw_1 (List.mem_of_getElem? (i := 6) (by decide +kernel))) rfl, by decide, by decide⟩
theorem mn_X7_codeAt : xcn yX7_codeAt 2 := by unfold xcn; decide +kernel
theorem mv_X7_codeAt : xcv yX7_codeAt := ⟨xw_of (xw_3 (List.mem_of_getElem? (i := 165) (by decide +kernel))) rfl, xw_of (xw_s (List.mem_of_getElem? (i := 41) (by decide +kernel))) rfl⟩
theorem mc_X7_figure : xcc yX7_figure cX7_figure 7 (some .int) := ⟨xw_of (xw_3 (List.mem_of_getElem? (i := 170) (by decide +kernel))) rfl, xw_of (xw_1 (List.mem_of_getElem? (i := 6) (by decide +kernel))) rfl, by decide, by decide⟩
theorem mn_X7_figure : xcn yX7_figure 4 := by unfold xcn; decide +kernel
theorem mv_X7_figure : xcv yX7_figure := ⟨xw_of (xw_3 (List.mem_of_getElem? (i := 169) (by decide +kernel))) rfl, xw_of (xw_s (List.mem_of_getElem? (i := 42) (by decide +kernel))) rfl⟩
theorem mc_X7_readsOne : xcc yX7_readsOne cX7_readsOne 6 (some .boolean) := ⟨xw_of (xw_3 (List.mem_of_getElem? (i := 162) (by decide +kernel))) rfl, xw_of (xw_1 (List.mem_of_getElem? (i := 6) (by decide +kernel))) rfl, by decide, by decide⟩
theorem mn_X7_readsOne : xcn yX7_readsOne 2 := by unfold xcn; decide +kernel
theorem mv_X7_readsOne : xcv yX7_readsOne := ⟨xw_of (xw_3 (List.mem_of_getElem? (i := 161) (by decide +kernel))) rfl, xw_of (xw_s (List.mem_of_getElem? (i := 40) (by decide +kernel))) rfl⟩
theorem mc_X7_readsAll : xcc yX7_readsAll cX7_readsAll 4 (some .boolean) := ⟨xw_of (xw_3 (List.mem_of_getElem? (i := 158) (by decide +kernel))) rfl, xw_of (xw_1 (List.mem_of_getElem? (i := 6) (by decide +kernel))) rfl, by decide, by decide⟩
theorem mn_X7_readsAll : xcn yX7_readsAll 2 := by unfold xcn; decide +kernel
theorem mv_X7_readsAll : xcv yX7_readsAll := ⟨xw_of (xw_3 (List.mem_of_getElem? (i := 157) (by decide +kernel))) rfl, xw_of (xw_s (List.mem_of_getElem? (i := 39) (by decide +kernel))) rfl⟩
theorem mc_X7_statues : xcc yX7_statues cX7_statues 8 (some .int) := ⟨xw_of (xw_3 (List.mem_of_getElem? (i := 131) (by decide +kernel))) rfl, xw_of (xw_1 (List.mem_of_getElem? (i := 6) (by decide +kernel))) rfl, by decide, by decide⟩
theorem mn_X7_statues : xcn yX7_statues 4 := by unfold xcn; decide +kernel
theorem mv_X7_statues : xcv yX7_statues := ⟨xw_of (xw_3 (List.mem_of_getElem? (i := 129) (by decide +kernel))) rfl, xw_of (xw_3 (List.mem_of_getElem? (i := 130) (by decide +kernel))) rfl⟩
theorem mc_X7_ofStatue : xcc yX7_ofStatue cX7_ofStatue 3 (some .int) := ⟨xw_of (xw_3 (List.mem_of_getElem? (i := 174) (by decide +kernel))) rfl, xw_of (xw_1 (List.mem_of_getElem? (i := 6) (by decide +kernel))) rfl, by decide, by decide⟩
theorem mn_X7_ofStatue : xcn yX7_ofStatue 2 := by unfold xcn; decide +kernel
theorem mv_X7_ofStatue : xcv yX7_ofStatue := ⟨xw_of (xw_3 (List.mem_of_getElem? (i := 172) (by decide +kernel))) rfl, xw_of (xw_3 (List.mem_of_getElem? (i := 173) (by decide +kernel))) rfl⟩
theorem mc_X7_look : xcc yX7_look cX7_look 4 (some .int) := ⟨xw_of (xw_3 (List.mem_of_getElem? (i := 182) (by decide +kernel))) rfl, xw_of (xw_1 (List.mem_of_getElem? (i := 6) (by decide +kernel))) rfl, by decide, by decide⟩
theorem mn_X7_look : xcn yX7_look 2 := by unfold xcn; decide +kernel
theorem mv_X7_look : xcv yX7_look := ⟨xw_of (xw_3 (List.mem_of_getElem? (i := 180) (by decide +kernel))) rfl, xw_of (xw_3 (List.mem_of_getElem? (i := 181) (by decide +kernel))) rfl⟩
theorem mc_X7_over : xcc yX7_over cX7_over 4 (some .int) := ⟨xw_of (xw_3 (List.mem_of_getElem? (i := 186) (by decide +kernel))) rfl, xw_of (xw_1 (List.mem_of_getElem? (i := 6) (by decide +kernel))) rfl, by decide, by decide⟩
theorem mn_X7_over : xcn yX7_over 2 := by unfold xcn; decide +kernel
theorem mv_X7_over : xcv yX7_over := ⟨xw_of (xw_3 (List.mem_of_getElem? (i := 184) (by decide +kernel))) rfl, xw_of (xw_3 (List.mem_of_getElem? (i := 185) (by decide +kernel))) rfl⟩
theorem mc_X7_fence : xcc yX7_fence cX7_fence 4 (some .int) := ⟨xw_of (xw_3 (List.mem_of_getElem? (i := 190) (by decide +kernel))) rfl, xw_of (xw_1 (List.mem_of_getElem? (i := 6) (by decide +kernel))) rfl, by decide, by decide⟩
theorem mn_X7_fence : xcn yX7_fence 2 := by unfold xcn; decide +kernel
theorem mv_X7_fence : xcv yX7_fence := ⟨xw_of (xw_3 (List.mem_of_getElem? (i := 188) (by decide +kernel))) rfl, xw_of (xw_3 (List.mem_of_getElem? (i := 189) (by decide +kernel))) rfl⟩
theorem mc_X7_rain : xcc yX7_rain cX7_rain 5 (some .int) := ⟨xw_of (xw_3 (List.mem_of_getElem? (i := 194) (by decide +kernel))) rfl, xw_of (xw_1 (List.mem_of_getElem? (i := 6) (by decide +kernel))) rfl, by decide, by decide⟩
theorem mn_X7_rain : xcn yX7_rain 3 := by unfold xcn; decide +kernel
theorem mv_X7_rain : xcv yX7_rain := ⟨xw_of (xw_3 (List.mem_of_getElem? (i := 192) (by decide +kernel))) rfl, xw_of (xw_3 (List.mem_of_getElem? (i := 193) (by decide +kernel))) rfl⟩
theorem mc_X7_deer : xcc yX7_deer cX7_deer 3 (some .int) := ⟨xw_of (xw_3 (List.mem_of_getElem? (i := 200) (by decide +kernel))) rfl, xw_of (xw_1 (List.mem_of_getElem? (i := 6) (by decide +kernel))) rfl, by decide, by decide⟩
theorem mn_X7_deer : xcn yX7_deer 1 := by unfold xcn; decide +kernel
theorem mv_X7_deer : xcv yX7_deer := ⟨xw_of (xw_3 (List.mem_of_getElem? (i := 198) (by decide +kernel))) rfl, xw_of (xw_3 (List.mem_of_getElem? (i := 199) (by decide +kernel))) rfl⟩
theorem mc_X7_begin : xcc yX7_begin cX7_begin 2 none := ⟨xw_of (xw_3 (List.mem_of_getElem? (i := 219) (by decide +kernel))) rfl, xw_of (xw_1 (List.mem_of_getElem? (i := 6) (by decide +kernel))) rfl, by decide, by decide⟩
theorem mn_X7_begin : xcn yX7_begin 0 := by unfold xcn; decide +kernel
theorem mv_X7_begin : xcv yX7_begin := ⟨xw_of (xw_3 (List.mem_of_getElem? (i := 218) (by decide +kernel))) rfl, xw_of (xw_s (List.mem_of_getElem? (i := 45) (by decide +kernel))) rfl⟩
theorem mc_X7_losesBy : xcc yX7_losesBy cX7_losesBy 5 (some .int) := ⟨xw_of (xw_3 (List.mem_of_getElem? (i := 231) (by decide +kernel))) rfl, xw_of (xw_1 (List.mem_of_getElem? (i := 6) (by decide +kernel))) rfl, by decide, by decide⟩
theorem mn_X7_losesBy : xcn yX7_losesBy 3 := by unfold xcn; decide +kernel
theorem mv_X7_losesBy : xcv yX7_losesBy := ⟨xw_of (xw_3 (List.mem_of_getElem? (i := 230) (by decide +kernel))) rfl, xw_of (xw_s (List.mem_of_getElem? (i := 48) (by decide +kernel))) rfl⟩
theorem mc_X7_rainOn : xcc yX7_rainOn cX7_rainOn 5 none := ⟨xw_of (xw_3 (List.mem_of_getElem? (i := 227) (by decide +kernel))) rfl, xw_of (xw_1 (List.mem_of_getElem? (i := 6) (by decide +kernel))) rfl, by decide, by decide⟩
theorem mn_X7_rainOn : xcn yX7_rainOn 1 := by unfold xcn; decide +kernel
theorem mv_X7_rainOn : xcv yX7_rainOn := ⟨xw_of (xw_3 (List.mem_of_getElem? (i := 226) (by decide +kernel))) rfl, xw_of (xw_s (List.mem_of_getElem? (i := 47) (by decide +kernel))) rfl⟩
theorem mc_X7_canLick : xcc yX7_canLick cX7_canLick 3 (some .boolean) := ⟨xw_of (xw_4 (List.mem_of_getElem? (i := 2) (by decide +kernel))) rfl, xw_of (xw_1 (List.mem_of_getElem? (i := 6) (by decide +kernel))) rfl, by decide, by decide⟩
theorem mn_X7_canLick : xcn yX7_canLick 1 := by unfold xcn; decide +kernel
theorem mv_X7_canLick : xcv yX7_canLick := ⟨xw_of (xw_4 (List.mem_of_getElem? (i := 1) (by decide +kernel))) rfl, xw_of (xw_s (List.mem_of_getElem? (i := 50) (by decide +kernel))) rfl⟩
theorem mc_X7_likedNow : xcc yX7_likedNow cX7_likedNow 3 (some .int) := ⟨xw_of (xw_3 (List.mem_of_getElem? (i := 238) (by decide +kernel))) rfl, xw_of (xw_1 (List.mem_of_getElem? (i := 6) (by decide +kernel))) rfl, by decide, by decide⟩
theorem mn_X7_likedNow : xcn yX7_likedNow 0 := by unfold xcn; decide +kernel
theorem mv_X7_likedNow : xcv yX7_likedNow := ⟨xw_of (xw_3 (List.mem_of_getElem? (i := 237) (by decide +kernel))) rfl, xw_of (xw_s (List.mem_of_getElem? (i := 49) (by decide +kernel))) rfl⟩
theorem mc_X7_goDay : xcc yX7_goDay cX7_goDay 5 none := ⟨xw_of (xw_3 (List.mem_of_getElem? (i := 223) (by decide +kernel))) rfl, xw_of (xw_1 (List.mem_of_getElem? (i := 6) (by decide +kernel))) rfl, by decide, by decide⟩
theorem mn_X7_goDay : xcn yX7_goDay 1 := by unfold xcn; decide +kernel
theorem mv_X7_goDay : xcv yX7_goDay := ⟨xw_of (xw_3 (List.mem_of_getElem? (i := 222) (by decide +kernel))) rfl, xw_of (xw_s (List.mem_of_getElem? (i := 46) (by decide +kernel))) rfl⟩
theorem mc_X7_goTo : xcc yX7_goTo cX7_goTo 3 none := ⟨xw_of (xw_3 (List.mem_of_getElem? (i := 215) (by decide +kernel))) rfl, xw_of (xw_1 (List.mem_of_getElem? (i := 6) (by decide +kernel))) rfl, by decide, by decide⟩
theorem mn_X7_goTo : xcn yX7_goTo 1 := by unfold xcn; decide +kernel
theorem mv_X7_goTo : xcv yX7_goTo := ⟨xw_of (xw_3 (List.mem_of_getElem? (i := 214) (by decide +kernel))) rfl, xw_of (xw_s (List.mem_of_getElem? (i := 44) (by decide +kernel))) rfl⟩
theorem mc_X7_noPart : xcc yX7_noPart cX7_noPart 1 (some .boolean) := ⟨xw_of (xw_3 (List.mem_of_getElem? (i := 207) (by decide +kernel))) rfl, xw_of (xw_1 (List.mem_of_getElem? (i := 6) (by decide +kernel))) rfl, by decide, by decide⟩
theorem mn_X7_noPart : xcn yX7_noPart 1 := by unfold xcn; decide +kernel
theorem ms_X7_noPart : Cond.static yX7_noPart ∈ xw_all := xw_of (xw_3 (List.mem_of_getElem? (i := 206) (by decide +kernel))) rfl
theorem mc_X7_grains : xcc yX7_grains cX7_grains 4 (some .int) := ⟨xw_of (xw_3 (List.mem_of_getElem? (i := 204) (by decide +kernel))) rfl, xw_of (xw_1 (List.mem_of_getElem? (i := 6) (by decide +kernel))) rfl, by decide, by decide⟩
theorem mn_X7_grains : xcn yX7_grains 3 := by unfold xcn; decide +kernel
theorem mv_X7_grains : xcv yX7_grains := ⟨xw_of (xw_3 (List.mem_of_getElem? (i := 202) (by decide +kernel))) rfl, xw_of (xw_3 (List.mem_of_getElem? (i := 203) (by decide +kernel))) rfl⟩
theorem mc_X7_lost : xcc yX7_lost cX7_lost 4 (some .int) := ⟨xw_of (xw_4 (List.mem_of_getElem? (i := 6) (by decide +kernel))) rfl, xw_of (xw_1 (List.mem_of_getElem? (i := 6) (by decide +kernel))) rfl, by decide, by decide⟩
theorem mn_X7_lost : xcn yX7_lost 3 := by unfold xcn; decide +kernel
theorem mv_X7_lost : xcv yX7_lost := ⟨xw_of (xw_4 (List.mem_of_getElem? (i := 4) (by decide +kernel))) rfl, xw_of (xw_4 (List.mem_of_getElem? (i := 5) (by decide +kernel))) rfl⟩
theorem mc_X7_isGoneNow : xcc yX7_isGoneNow cX7_isGoneNow 3 (some .boolean) := ⟨xw_of (xw_4 (List.mem_of_getElem? (i := 18) (by decide +kernel))) rfl, xw_of (xw_1 (List.mem_of_getElem? (i := 6) (by decide +kernel))) rfl, by decide, by decide⟩
theorem mn_X7_isGoneNow : xcn yX7_isGoneNow 2 := by unfold xcn; decide +kernel
theorem mv_X7_isGoneNow : xcv yX7_isGoneNow := ⟨xw_of (xw_4 (List.mem_of_getElem? (i := 17) (by decide +kernel))) rfl, xw_of (xw_s (List.mem_of_getElem? (i := 52) (by decide +kernel))) rfl⟩
theorem mc_X7_goneAt : xcc yX7_goneAt cX7_goneAt 4 (some .int) := ⟨xw_of (xw_4 (List.mem_of_getElem? (i := 14) (by decide +kernel))) rfl, xw_of (xw_1 (List.mem_of_getElem? (i := 6) (by decide +kernel))) rfl, by decide, by decide⟩
theorem mn_X7_goneAt : xcn yX7_goneAt 2 := by unfold xcn; decide +kernel
theorem mv_X7_goneAt : xcv yX7_goneAt := ⟨xw_of (xw_4 (List.mem_of_getElem? (i := 13) (by decide +kernel))) rfl, xw_of (xw_s (List.mem_of_getElem? (i := 51) (by decide +kernel))) rfl⟩
theorem mc_X7_gone : xcc yX7_gone cX7_gone 3 (some .int) := ⟨xw_of (xw_4 (List.mem_of_getElem? (i := 10) (by decide +kernel))) rfl, xw_of (xw_1 (List.mem_of_getElem? (i := 6) (by decide +kernel))) rfl, by decide, by decide⟩
theorem mn_X7_gone : xcn yX7_gone 2 := by unfold xcn; decide +kernel
theorem mv_X7_gone : xcv yX7_gone := ⟨xw_of (xw_4 (List.mem_of_getElem? (i := 8) (by decide +kernel))) rfl, xw_of (xw_4 (List.mem_of_getElem? (i := 9) (by decide +kernel))) rfl⟩
theorem mc_X7_liked : xcc yX7_liked cX7_liked 2 (some .int) := ⟨xw_of (xw_4 (List.mem_of_getElem? (i := 22) (by decide +kernel))) rfl, xw_of (xw_1 (List.mem_of_getElem? (i := 6) (by decide +kernel))) rfl, by decide, by decide⟩
theorem mn_X7_liked : xcn yX7_liked 1 := by unfold xcn; decide +kernel
theorem mv_X7_liked : xcv yX7_liked := ⟨xw_of (xw_4 (List.mem_of_getElem? (i := 20) (by decide +kernel))) rfl, xw_of (xw_4 (List.mem_of_getElem? (i := 21) (by decide +kernel))) rfl⟩
theorem mc_X7_lasts : xcc yX7_lasts cX7_lasts 7 (some .long) := ⟨xw_of (xw_4 (List.mem_of_getElem? (i := 26) (by decide +kernel))) rfl, xw_of (xw_1 (List.mem_of_getElem? (i := 6) (by decide +kernel))) rfl, by decide, by decide⟩
theorem mn_X7_lasts : xcn yX7_lasts 1 := by unfold xcn; decide +kernel
theorem mv_X7_lasts : xcv yX7_lasts := ⟨xw_of (xw_4 (List.mem_of_getElem? (i := 24) (by decide +kernel))) rfl, xw_of (xw_4 (List.mem_of_getElem? (i := 25) (by decide +kernel))) rfl⟩
theorem mc_X7_keepOver : xcc yX7_keepOver cX7_keepOver 2 none := ⟨xw_of (xw_4 (List.mem_of_getElem? (i := 41) (by decide +kernel))) rfl, xw_of (xw_1 (List.mem_of_getElem? (i := 6) (by decide +kernel))) rfl, by decide, by decide⟩
theorem mn_X7_keepOver : xcn yX7_keepOver 0 := by unfold xcn; decide +kernel
theorem mv_X7_keepOver : xcv yX7_keepOver := ⟨xw_of (xw_4 (List.mem_of_getElem? (i := 40) (by decide +kernel))) rfl, xw_of (xw_s (List.mem_of_getElem? (i := 53) (by decide +kernel))) rfl⟩
theorem mc_X7_takeOver : xcc yX7_takeOver cX7_takeOver 2 none := ⟨xw_of (xw_4 (List.mem_of_getElem? (i := 52) (by decide +kernel))) rfl, xw_of (xw_1 (List.mem_of_getElem? (i := 6) (by decide +kernel))) rfl, by decide, by decide⟩
theorem mn_X7_takeOver : xcn yX7_takeOver 0 := by unfold xcn; decide +kernel
theorem mv_X7_takeOver : xcv yX7_takeOver := ⟨xw_of (xw_4 (List.mem_of_getElem? (i := 51) (by decide +kernel))) rfl, xw_of (xw_s (List.mem_of_getElem? (i := 55) (by decide +kernel))) rfl⟩
theorem mc_X7_nosesNow : xcc yX7_nosesNow cX7_nosesNow 3 (some .int) := ⟨xw_of (xw_4 (List.mem_of_getElem? (i := 48) (by decide +kernel))) rfl, xw_of (xw_1 (List.mem_of_getElem? (i := 6) (by decide +kernel))) rfl, by decide, by decide⟩
theorem mn_X7_nosesNow : xcn yX7_nosesNow 0 := by unfold xcn; decide +kernel
theorem mv_X7_nosesNow : xcv yX7_nosesNow := ⟨xw_of (xw_4 (List.mem_of_getElem? (i := 47) (by decide +kernel))) rfl, xw_of (xw_s (List.mem_of_getElem? (i := 54) (by decide +kernel))) rfl⟩
theorem mc_X7_bits : xcc yX7_bits cX7_bits 3 (some .int) := ⟨xw_of (xw_4 (List.mem_of_getElem? (i := 44) (by decide +kernel))) rfl, xw_of (xw_1 (List.mem_of_getElem? (i := 6) (by decide +kernel))) rfl, by decide, by decide⟩
theorem mn_X7_bits : xcn yX7_bits 1 := by unfold xcn; decide +kernel
theorem ms_X7_bits : Cond.static yX7_bits ∈ xw_all := xw_of (xw_4 (List.mem_of_getElem? (i := 43) (by decide +kernel))) rfl
theorem mc_X7_umbrellas : xcc yX7_umbrellas cX7_umbrellas 7 (some .int) := ⟨xw_of (xw_4 (List.mem_of_getElem? (i := 37) (by decide +kernel))) rfl, xw_of (xw_1 (List.mem_of_getElem? (i := 6) (by decide +kernel))) rfl, by decide, by decide⟩
theorem mn_X7_umbrellas : xcn yX7_umbrellas 2 := by unfold xcn; decide +kernel
theorem mv_X7_umbrellas : xcv yX7_umbrellas := ⟨xw_of (xw_4 (List.mem_of_getElem? (i := 35) (by decide +kernel))) rfl, xw_of (xw_4 (List.mem_of_getElem? (i := 36) (by decide +kernel))) rfl⟩
theorem mc_X7_firstNose : xcc yX7_firstNose cX7_firstNose 2 (some .int) := ⟨xw_of (xw_4 (List.mem_of_getElem? (i := 60) (by decide +kernel))) rfl, xw_of (xw_1 (List.mem_of_getElem? (i := 6) (by decide +kernel))) rfl, by decide, by decide⟩
theorem mn_X7_firstNose : xcn yX7_firstNose 0 := by unfold xcn; decide +kernel
theorem mv_X7_firstNose : xcv yX7_firstNose := ⟨xw_of (xw_4 (List.mem_of_getElem? (i := 59) (by decide +kernel))) rfl, xw_of (xw_s (List.mem_of_getElem? (i := 56) (by decide +kernel))) rfl⟩
theorem mc_X7_turn : xcc yX7_turn cX7_turn 8 (some .int) := ⟨xw_of (xw_4 (List.mem_of_getElem? (i := 56) (by decide +kernel))) rfl, xw_of (xw_1 (List.mem_of_getElem? (i := 6) (by decide +kernel))) rfl, by decide, by decide⟩
theorem mn_X7_turn : xcn yX7_turn 1 := by unfold xcn; decide +kernel
theorem mv_X7_turn : xcv yX7_turn := ⟨xw_of (xw_4 (List.mem_of_getElem? (i := 54) (by decide +kernel))) rfl, xw_of (xw_4 (List.mem_of_getElem? (i := 55) (by decide +kernel))) rfl⟩
theorem mc_X7_roofs : xcc yX7_roofs cX7_roofs 6 (some .int) := ⟨xw_of (xw_4 (List.mem_of_getElem? (i := 64) (by decide +kernel))) rfl, xw_of (xw_1 (List.mem_of_getElem? (i := 6) (by decide +kernel))) rfl, by decide, by decide⟩
theorem mn_X7_roofs : xcn yX7_roofs 2 := by unfold xcn; decide +kernel
theorem mv_X7_roofs : xcv yX7_roofs := ⟨xw_of (xw_4 (List.mem_of_getElem? (i := 62) (by decide +kernel))) rfl, xw_of (xw_4 (List.mem_of_getElem? (i := 63) (by decide +kernel))) rfl⟩
theorem mc_X7_takenFor : xcc yX7_takenFor cX7_takenFor 13 (some .int) := ⟨xw_of (xw_4 (List.mem_of_getElem? (i := 68) (by decide +kernel))) rfl, xw_of (xw_1 (List.mem_of_getElem? (i := 6) (by decide +kernel))) rfl, by decide, by decide⟩
theorem mn_X7_takenFor : xcn yX7_takenFor 5 := by unfold xcn; decide +kernel
theorem mv_X7_takenFor : xcv yX7_takenFor := ⟨xw_of (xw_4 (List.mem_of_getElem? (i := 66) (by decide +kernel))) rfl, xw_of (xw_4 (List.mem_of_getElem? (i := 67) (by decide +kernel))) rfl⟩
theorem mc_X7_whose : xcc yX7_whose cX7_whose 5 (some .int) := ⟨xw_of (xw_4 (List.mem_of_getElem? (i := 76) (by decide +kernel))) rfl, xw_of (xw_1 (List.mem_of_getElem? (i := 6) (by decide +kernel))) rfl, by decide, by decide⟩
theorem mn_X7_whose : xcn yX7_whose 2 := by unfold xcn; decide +kernel
theorem mv_X7_whose : xcv yX7_whose := ⟨xw_of (xw_4 (List.mem_of_getElem? (i := 74) (by decide +kernel))) rfl, xw_of (xw_4 (List.mem_of_getElem? (i := 75) (by decide +kernel))) rfl⟩
theorem mc_X7_reading : xcc yX7_reading cX7_reading 5 (some .int) := ⟨xw_of (xw_4 (List.mem_of_getElem? (i := 80) (by decide +kernel))) rfl, xw_of (xw_1 (List.mem_of_getElem? (i := 6) (by decide +kernel))) rfl, by decide, by decide⟩
theorem mn_X7_reading : xcn yX7_reading 4 := by unfold xcn; decide +kernel
theorem mv_X7_reading : xcv yX7_reading := ⟨xw_of (xw_4 (List.mem_of_getElem? (i := 78) (by decide +kernel))) rfl, xw_of (xw_4 (List.mem_of_getElem? (i := 79) (by decide +kernel))) rfl⟩
theorem mc_X7_back : xcc yX7_back cX7_back 2 (some .int) := ⟨xw_of (xw_4 (List.mem_of_getElem? (i := 85) (by decide +kernel))) rfl, xw_of (xw_1 (List.mem_of_getElem? (i := 6) (by decide +kernel))) rfl, by decide, by decide⟩
theorem mn_X7_back : xcn yX7_back 1 := by unfold xcn; decide +kernel
theorem mv_X7_back : xcv yX7_back := ⟨xw_of (xw_4 (List.mem_of_getElem? (i := 83) (by decide +kernel))) rfl, xw_of (xw_4 (List.mem_of_getElem? (i := 84) (by decide +kernel))) rfl⟩
theorem mc_X7_areSo : xcc yX7_areSo cX7_areSo 4 (some .boolean) := ⟨xw_of (xw_4 (List.mem_of_getElem? (i := 93) (by decide +kernel))) rfl, xw_of (xw_1 (List.mem_of_getElem? (i := 6) (by decide +kernel))) rfl, by decide, by decide⟩
theorem mn_X7_areSo : xcn yX7_areSo 0 := by unfold xcn; decide +kernel
theorem mv_X7_areSo : xcv yX7_areSo := ⟨xw_of (xw_4 (List.mem_of_getElem? (i := 92) (by decide +kernel))) rfl, xw_of (xw_s (List.mem_of_getElem? (i := 57) (by decide +kernel))) rfl⟩
theorem mc_X7_rains : xcc yX7_rains cX7_rains 5 (some .int) := ⟨xw_of (xw_4 (List.mem_of_getElem? (i := 89) (by decide +kernel))) rfl, xw_of (xw_1 (List.mem_of_getElem? (i := 6) (by decide +kernel))) rfl, by decide, by decide⟩
theorem mn_X7_rains : xcn yX7_rains 1 := by unfold xcn; decide +kernel
theorem mv_X7_rains : xcv yX7_rains := ⟨xw_of (xw_4 (List.mem_of_getElem? (i := 87) (by decide +kernel))) rfl, xw_of (xw_4 (List.mem_of_getElem? (i := 88) (by decide +kernel))) rfl⟩
theorem mc_X7_cast : xcc yX7_cast cX7_cast 5 (some .int) := ⟨xw_of (xw_4 (List.mem_of_getElem? (i := 97) (by decide +kernel))) rfl, xw_of (xw_1 (List.mem_of_getElem? (i := 6) (by decide +kernel))) rfl, by decide, by decide⟩
theorem mn_X7_cast : xcn yX7_cast 2 := by unfold xcn; decide +kernel
theorem mv_X7_cast : xcv yX7_cast := ⟨xw_of (xw_4 (List.mem_of_getElem? (i := 95) (by decide +kernel))) rfl, xw_of (xw_4 (List.mem_of_getElem? (i := 96) (by decide +kernel))) rfl⟩
theorem mc_X7_noSheet : xcc yX7_noSheet cX7_noSheet 1 (some .boolean) := ⟨xw_of (xw_3 (List.mem_of_getElem? (i := 138) (by decide +kernel))) rfl, xw_of (xw_1 (List.mem_of_getElem? (i := 6) (by decide +kernel))) rfl, by decide, by decide⟩
theorem mn_X7_noSheet : xcn yX7_noSheet 1 := by unfold xcn; decide +kernel
theorem ms_X7_noSheet : Cond.static yX7_noSheet ∈ xw_all := xw_of (xw_3 (List.mem_of_getElem? (i := 137) (by decide +kernel))) rfl
theorem mc_X7_sheet : xcc yX7_sheet cX7_sheet 5 (some .int) := ⟨xw_of (xw_4 (List.mem_of_getElem? (i := 101) (by decide +kernel))) rfl, xw_of (xw_1 (List.mem_of_getElem? (i := 6) (by decide +kernel))) rfl, by decide, by decide⟩
theorem mn_X7_sheet : xcn yX7_sheet 3 := by unfold xcn; decide +kernel
theorem mv_X7_sheet : xcv yX7_sheet := ⟨xw_of (xw_4 (List.mem_of_getElem? (i := 99) (by decide +kernel))) rfl, xw_of (xw_4 (List.mem_of_getElem? (i := 100) (by decide +kernel))) rfl⟩
theorem mc_X7_lose : xcc yX7_lose cX7_lose 3 (some .int) := ⟨xw_of (xw_4 (List.mem_of_getElem? (i := 105) (by decide +kernel))) rfl, xw_of (xw_1 (List.mem_of_getElem? (i := 6) (by decide +kernel))) rfl, by decide, by decide⟩
theorem mn_X7_lose : xcn yX7_lose 1 := by unfold xcn; decide +kernel
theorem mv_X7_lose : xcv yX7_lose := ⟨xw_of (xw_4 (List.mem_of_getElem? (i := 103) (by decide +kernel))) rfl, xw_of (xw_4 (List.mem_of_getElem? (i := 104) (by decide +kernel))) rfl⟩
theorem mc_X7_noCell : xcc yX7_noCell cX7_noCell 3 (some .int) := ⟨xw_of (xw_4 (List.mem_of_getElem? (i := 113) (by decide +kernel))) rfl, xw_of (xw_1 (List.mem_of_getElem? (i := 6) (by decide +kernel))) rfl, by decide, by decide⟩
theorem mn_X7_noCell : xcn yX7_noCell 2 := by unfold xcn; decide +kernel
theorem mv_X7_noCell : xcv yX7_noCell := ⟨xw_of (xw_4 (List.mem_of_getElem? (i := 112) (by decide +kernel))) rfl, xw_of (xw_s (List.mem_of_getElem? (i := 58) (by decide +kernel))) rfl⟩
theorem mc_X7_put : xcc yX7_put cX7_put 4 (some .int) := ⟨xw_of (xw_4 (List.mem_of_getElem? (i := 109) (by decide +kernel))) rfl, xw_of (xw_1 (List.mem_of_getElem? (i := 6) (by decide +kernel))) rfl, by decide, by decide⟩
theorem mn_X7_put : xcn yX7_put 3 := by unfold xcn; decide +kernel
theorem mv_X7_put : xcv yX7_put := ⟨xw_of (xw_4 (List.mem_of_getElem? (i := 107) (by decide +kernel))) rfl, xw_of (xw_4 (List.mem_of_getElem? (i := 108) (by decide +kernel))) rfl⟩
theorem mc_X7_cell : xcc yX7_cell cX7_cell 4 (some .long) := ⟨xw_of (xw_4 (List.mem_of_getElem? (i := 117) (by decide +kernel))) rfl, xw_of (xw_1 (List.mem_of_getElem? (i := 6) (by decide +kernel))) rfl, by decide, by decide⟩
theorem mn_X7_cell : xcn yX7_cell 3 := by unfold xcn; decide +kernel
theorem mv_X7_cell : xcv yX7_cell := ⟨xw_of (xw_4 (List.mem_of_getElem? (i := 115) (by decide +kernel))) rfl, xw_of (xw_4 (List.mem_of_getElem? (i := 116) (by decide +kernel))) rfl⟩
theorem mc_X7_isBeyond : xcc yX7_isBeyond cX7_isBeyond 4 (some .boolean) := ⟨xw_of (xw_3 (List.mem_of_getElem? (i := 154) (by decide +kernel))) rfl, xw_of (xw_1 (List.mem_of_getElem? (i := 6) (by decide +kernel))) rfl, by decide, by decide⟩
theorem mn_X7_isBeyond : xcn yX7_isBeyond 3 := by unfold xcn; decide +kernel
theorem ms_X7_isBeyond : Cond.static yX7_isBeyond ∈ xw_all := xw_of (xw_3 (List.mem_of_getElem? (i := 153) (by decide +kernel))) rfl
theorem mc_X7_copy : xcc yX7_copy cX7_copy 7 (some .int) := ⟨xw_of (xw_4 (List.mem_of_getElem? (i := 125) (by decide +kernel))) rfl, xw_of (xw_1 (List.mem_of_getElem? (i := 6) (by decide +kernel))) rfl, by decide, by decide⟩
theorem mn_X7_copy : xcn yX7_copy 5 := by unfold xcn; decide +kernel
theorem mv_X7_copy : xcv yX7_copy := ⟨xw_of (xw_4 (List.mem_of_getElem? (i := 123) (by decide +kernel))) rfl, xw_of (xw_4 (List.mem_of_getElem? (i := 124) (by decide +kernel))) rfl⟩
theorem mc_X7_traced : xcc yX7_traced cX7_traced 2 none := ⟨xw_of (xw_4 (List.mem_of_getElem? (i := 133) (by decide +kernel))) rfl, xw_of (xw_1 (List.mem_of_getElem? (i := 6) (by decide +kernel))) rfl, by decide, by decide⟩
theorem mn_X7_traced : xcn yX7_traced 1 := by unfold xcn; decide +kernel
theorem mv_X7_traced : xcv yX7_traced := ⟨xw_of (xw_4 (List.mem_of_getElem? (i := 132) (by decide +kernel))) rfl, xw_of (xw_s (List.mem_of_getElem? (i := 60) (by decide +kernel))) rfl⟩
theorem mc_X7_tell : xcc yX7_tell cX7_tell 4 (some .int) := ⟨xw_of (xw_4 (List.mem_of_getElem? (i := 129) (by decide +kernel))) rfl, xw_of (xw_1 (List.mem_of_getElem? (i := 6) (by decide +kernel))) rfl, by decide, by decide⟩
theorem mn_X7_tell : xcn yX7_tell 1 := by unfold xcn; decide +kernel
theorem mv_X7_tell : xcv yX7_tell := ⟨xw_of (xw_4 (List.mem_of_getElem? (i := 127) (by decide +kernel))) rfl, xw_of (xw_4 (List.mem_of_getElem? (i := 128) (by decide +kernel))) rfl⟩
theorem mc_X7_bow : xcc yX7_bow cX7_bow 2 (some .int) := ⟨xw_of (xw_4 (List.mem_of_getElem? (i := 137) (by decide +kernel))) rfl, xw_of (xw_1 (List.mem_of_getElem? (i := 6) (by decide +kernel))) rfl, by decide, by decide⟩
theorem mn_X7_bow : xcn yX7_bow 1 := by unfold xcn; decide +kernel
theorem mv_X7_bow : xcv yX7_bow := ⟨xw_of (xw_4 (List.mem_of_getElem? (i := 135) (by decide +kernel))) rfl, xw_of (xw_4 (List.mem_of_getElem? (i := 136) (by decide +kernel))) rfl⟩
theorem mc_X7_as : xcc yX7_as cX7_as 3 (some .int) := ⟨xw_of (xw_4 (List.mem_of_getElem? (i := 141) (by decide +kernel))) rfl, xw_of (xw_1 (List.mem_of_getElem? (i := 6) (by decide +kernel))) rfl, by decide, by decide⟩
theorem mn_X7_as : xcn yX7_as 2 := by unfold xcn; decide +kernel
theorem mv_X7_as : xcv yX7_as := ⟨xw_of (xw_4 (List.mem_of_getElem? (i := 139) (by decide +kernel))) rfl, xw_of (xw_4 (List.mem_of_getElem? (i := 140) (by decide +kernel))) rfl⟩
theorem mc_X7_trace : xcc yX7_trace cX7_trace 1 (some .int) := ⟨xw_of (xw_4 (List.mem_of_getElem? (i := 145) (by decide +kernel))) rfl, xw_of (xw_1 (List.mem_of_getElem? (i := 6) (by decide +kernel))) rfl, by decide, by decide⟩
theorem mn_X7_trace : xcn yX7_trace 0 := by unfold xcn; decide +kernel
theorem mv_X7_trace : xcv yX7_trace := ⟨xw_of (xw_4 (List.mem_of_getElem? (i := 143) (by decide +kernel))) rfl, xw_of (xw_4 (List.mem_of_getElem? (i := 144) (by decide +kernel))) rfl⟩
theorem mc_X7_fault : xcc yX7_fault cX7_fault 1 (some .int) := ⟨xw_of (xw_4 (List.mem_of_getElem? (i := 149) (by decide +kernel))) rfl, xw_of (xw_1 (List.mem_of_getElem? (i := 6) (by decide +kernel))) rfl, by decide, by decide⟩
theorem mn_X7_fault : xcn yX7_fault 0 := by unfold xcn; decide +kernel
theorem mv_X7_fault : xcv yX7_fault := ⟨xw_of (xw_4 (List.mem_of_getElem? (i := 147) (by decide +kernel))) rfl, xw_of (xw_4 (List.mem_of_getElem? (i := 148) (by decide +kernel))) rfl⟩
theorem mc_X7_many : xcc yX7_many cX7_many 2 (some .int) := ⟨xw_of (xw_4 (List.mem_of_getElem? (i := 153) (by decide +kernel))) rfl, xw_of (xw_1 (List.mem_of_getElem? (i := 6) (by decide +kernel))) rfl, by decide, by decide⟩
theorem mn_X7_many : xcn yX7_many 1 := by unfold xcn; decide +kernel
theorem mv_X7_many : xcv yX7_many := ⟨xw_of (xw_4 (List.mem_of_getElem? (i := 151) (by decide +kernel))) rfl, xw_of (xw_4 (List.mem_of_getElem? (i := 152) (by decide +kernel))) rfl⟩
theorem mc_J6_bitCount_0f7a4 : xcc yJ6_bitCount_0f7a4 cJ6_bitCount_0f7a4 1 (some .int) := ⟨xw_of (xw_2 (List.mem_of_getElem? (i := 136) (by decide +kernel))) rfl, xw_of (xw_1 (List.mem_of_getElem? (i := 11) (by decide +kernel))) rfl, by decide, by decide⟩
theorem mn_J6_bitCount_0f7a4 : xcn yJ6_bitCount_0f7a4 1 := by unfold xcn; decide +kernel
theorem ms_J6_bitCount_0f7a4 : Cond.static yJ6_bitCount_0f7a4 ∈ xw_all := xw_of (xw_2 (List.mem_of_getElem? (i := 135) (by decide +kernel))) rfl
theorem mc_J9_abs_0f7a4 : xcc yJ9_abs_0f7a4 cJ9_abs_0f7a4 1 (some .int) := ⟨xw_of (xw_2 (List.mem_of_getElem? (i := 173) (by decide +kernel))) rfl, xw_of (xw_1 (List.mem_of_getElem? (i := 9) (by decide +kernel))) rfl, by decide, by decide⟩
theorem mn_J9_abs_0f7a4 : xcn yJ9_abs_0f7a4 1 := by unfold xcn; decide +kernel
theorem ms_J9_abs_0f7a4 : Cond.static yJ9_abs_0f7a4 ∈ xw_all := xw_of (xw_2 (List.mem_of_getElem? (i := 172) (by decide +kernel))) rfl
theorem mc_J9_max_7cf53 : xcc yJ9_max_7cf53 cJ9_max_7cf53 2 (some .int) := ⟨xw_of (xw_2 (List.mem_of_getElem? (i := 56) (by decide +kernel))) rfl, xw_of (xw_1 (List.mem_of_getElem? (i := 9) (by decide +kernel))) rfl, by decide, by decide⟩
theorem mn_J9_max_7cf53 : xcn yJ9_max_7cf53 2 := by unfold xcn; decide +kernel
theorem ms_J9_max_7cf53 : Cond.static yJ9_max_7cf53 ∈ xw_all := xw_of (xw_2 (List.mem_of_getElem? (i := 55) (by decide +kernel))) rfl
theorem mc_J9_min_7cf53 : xcc yJ9_min_7cf53 cJ9_min_7cf53 2 (some .int) := ⟨xw_of (xw_1 (List.mem_of_getElem? (i := 234) (by decide +kernel))) rfl, xw_of (xw_1 (List.mem_of_getElem? (i := 9) (by decide +kernel))) rfl, by decide, by decide⟩
theorem mn_J9_min_7cf53 : xcn yJ9_min_7cf53 2 := by unfold xcn; decide +kernel
theorem ms_J9_min_7cf53 : Cond.static yJ9_min_7cf53 ∈ xw_all := xw_of (xw_1 (List.mem_of_getElem? (i := 233) (by decide +kernel))) rfl
theorem lk_X0_9 : xcl RX0 9 yX0_lastingUnder := xw_of (xw_2 (List.mem_of_getElem? (i := 126) (by decide +kernel))) rfl
theorem lk_X0_21 : xcl RX0 21 yJ9_min_7cf53 := xw_of (xw_2 (List.mem_of_getElem? (i := 133) (by decide +kernel))) rfl
theorem lk_X0_27 : xcl RX0 27 yJ6_bitCount_0f7a4 := xw_of (xw_2 (List.mem_of_getElem? (i := 134) (by decide +kernel))) rfl
theorem lk_X0_42 : xcl RX0 42 yX0_dawnWithoutNose := xw_of (xw_2 (List.mem_of_getElem? (i := 129) (by decide +kernel))) rfl
theorem lk_X0_46 : xcl RX0 46 yX0_firstDawnOfOthers := xw_of (xw_2 (List.mem_of_getElem? (i := 147) (by decide +kernel))) rfl
theorem ln_X0_62 : xcN RX0 62 yX3_washedOff := ⟨"SaltSaints", xw_nof (xw_2 (List.mem_of_getElem? (i := 132) (by decide +kernel))) rfl⟩
theorem ln_X0_66 : xcN RX0 66 yX5_leftOfPart := ⟨"SaltSaints", xw_nof (xw_2 (List.mem_of_getElem? (i := 157) (by decide +kernel))) rfl⟩
theorem lo_X1_3 : Cond.methodLink RX1 3 objectInit ∈ xw_all := xw_of (xw_1 (List.mem_of_getElem? (i := 129) (by decide +kernel))) rfl
theorem ln_X1_28 : xcN RX1 28 yX5_leftOfPart := ⟨"SaltSaints", xw_nof (xw_2 (List.mem_of_getElem? (i := 199) (by decide +kernel))) rfl⟩
theorem lo_X2_3 : Cond.methodLink RX2 3 objectInit ∈ xw_all := xw_of (xw_1 (List.mem_of_getElem? (i := 26) (by decide +kernel))) rfl
theorem lo_X3_3 : Cond.methodLink RX3 3 objectInit ∈ xw_all := xw_of (xw_1 (List.mem_of_getElem? (i := 59) (by decide +kernel))) rfl
theorem ln_X3_34 : xcN RX3 34 yX4_kindOf := ⟨"SaltSaints", xw_nof (xw_1 (List.mem_of_getElem? (i := 208) (by decide +kernel))) rfl⟩
theorem lk_X4_17 : xcl RX4 17 yX4_goesOn := xw_of (xw_1 (List.mem_of_getElem? (i := 191) (by decide +kernel))) rfl
theorem lk_X4_21 : xcl RX4 21 yX4_isWhole := xw_of (xw_1 (List.mem_of_getElem? (i := 197) (by decide +kernel))) rfl
theorem lk_X4_25 : xcl RX4 25 yX4_kindOf := xw_of (xw_1 (List.mem_of_getElem? (i := 194) (by decide +kernel))) rfl
theorem lo_X5_3 : Cond.methodLink RX5 3 objectInit ∈ xw_all := xw_of (xw_1 (List.mem_of_getElem? (i := 52) (by decide +kernel))) rfl
theorem ln_X5_17 : xcN RX5 17 yX3_init := ⟨"SaltSaints", xw_nof (xw_1 (List.mem_of_getElem? (i := 56) (by decide +kernel))) rfl⟩
theorem ln_X5_46 : xcN RX5 46 yX3_carve := ⟨"SaltSaints", xw_nof (xw_1 (List.mem_of_getElem? (i := 204) (by decide +kernel))) rfl⟩
theorem lk_X5_53 : Cond.methodLink RX5 53 arraycopyName ∈ xw_all := xw_of (xw_1 (List.mem_of_getElem? (i := 209) (by decide +kernel))) rfl
theorem lk_X5_59 : xcl RX5 59 yJ9_min_7cf53 := xw_of (xw_1 (List.mem_of_getElem? (i := 232) (by decide +kernel))) rfl
theorem lk_X5_65 : xcl RX5 65 yX5_forgetFrom := xw_of (xw_2 (List.mem_of_getElem? (i := 11) (by decide +kernel))) rfl
theorem lk_X5_69 : xcl RX5 69 yX5_pour := xw_of (xw_2 (List.mem_of_getElem? (i := 31) (by decide +kernel))) rfl
theorem lk_X5_72 : xcl RX5 72 yX5_graze := xw_of (xw_2 (List.mem_of_getElem? (i := 42) (by decide +kernel))) rfl
theorem lk_X5_75 : xcl RX5 75 yJ9_max_7cf53 := xw_of (xw_2 (List.mem_of_getElem? (i := 54) (by decide +kernel))) rfl
theorem lk_X5_78 : xcl RX5 78 yX5_placeOf := xw_of (xw_2 (List.mem_of_getElem? (i := 35) (by decide +kernel))) rfl
theorem ln_X5_88 : xcN RX5 88 yX3_washedOff := ⟨"SaltSaints", xw_nof (xw_2 (List.mem_of_getElem? (i := 38) (by decide +kernel))) rfl⟩
theorem lk_X5_92 : xcl RX5 92 yX5_likedBest := xw_of (xw_2 (List.mem_of_getElem? (i := 46) (by decide +kernel))) rfl
theorem ln_X5_96 : xcN RX5 96 yX3_lickable := ⟨"SaltSaints", xw_nof (xw_2 (List.mem_of_getElem? (i := 50) (by decide +kernel))) rfl⟩
theorem lk_X5_100 : xcl RX5 100 yX5_workOut := xw_of (xw_2 (List.mem_of_getElem? (i := 27) (by decide +kernel))) rfl
theorem lk_X5_103 : xcl RX5 103 yX5_sumOf := xw_of (xw_2 (List.mem_of_getElem? (i := 73) (by decide +kernel))) rfl
theorem lk_X5_106 : xcl RX5 106 yX5_leftOf := xw_of (xw_2 (List.mem_of_getElem? (i := 69) (by decide +kernel))) rfl
theorem ln_X5_109 : xcN RX5 109 yX3_allAtFirst := ⟨"SaltSaints", xw_nof (xw_2 (List.mem_of_getElem? (i := 65) (by decide +kernel))) rfl⟩
theorem lk_X5_113 : xcl RX5 113 yX5_lickedOff := xw_of (xw_2 (List.mem_of_getElem? (i := 77) (by decide +kernel))) rfl
theorem lk_X5_116 : xcl RX5 116 yX5_dawnWithoutAny := xw_of (xw_2 (List.mem_of_getElem? (i := 111) (by decide +kernel))) rfl
theorem lk_X5_124 : xcl RX5 124 yJ9_abs_0f7a4 := xw_of (xw_2 (List.mem_of_getElem? (i := 171) (by decide +kernel))) rfl
theorem lk_X5_127 : xcl RX5 127 yX5_apart := xw_of (xw_2 (List.mem_of_getElem? (i := 167) (by decide +kernel))) rfl
theorem lo_X6_3 : Cond.methodLink RX6 3 objectInit ∈ xw_all := xw_of (xw_1 (List.mem_of_getElem? (i := 17) (by decide +kernel))) rfl
theorem ln_X6_17 : xcN RX6 17 yX2_init := ⟨"SaltSaints", xw_nof (xw_1 (List.mem_of_getElem? (i := 23) (by decide +kernel))) rfl⟩
theorem ln_X6_20 : xcN RX6 20 yX5_init := ⟨"SaltSaints", xw_nof (xw_1 (List.mem_of_getElem? (i := 49) (by decide +kernel))) rfl⟩
theorem ln_X6_27 : xcN RX6 27 yX1_init := ⟨"SaltSaints", xw_nof (xw_1 (List.mem_of_getElem? (i := 126) (by decide +kernel))) rfl⟩
theorem lk_X6_39 : xcl RX6 39 yX6_isSheet := xw_of (xw_1 (List.mem_of_getElem? (i := 167) (by decide +kernel))) rfl
theorem lk_X6_43 : xcl RX6 43 yX6_isLane := xw_of (xw_1 (List.mem_of_getElem? (i := 173) (by decide +kernel))) rfl
theorem ln_X6_46 : xcN RX6 46 yX2_faultAs := ⟨"SaltSaints", xw_nof (xw_1 (List.mem_of_getElem? (i := 176) (by decide +kernel))) rfl⟩
theorem ln_X6_50 : xcN RX6 50 yX2_hasRun := ⟨"SaltSaints", xw_nof (xw_1 (List.mem_of_getElem? (i := 180) (by decide +kernel))) rfl⟩
theorem lk_X6_54 : xcl RX6 54 yX6_faulty := xw_of (xw_1 (List.mem_of_getElem? (i := 184) (by decide +kernel))) rfl
theorem ln_X6_57 : xcN RX6 57 yX4_firstFault := ⟨"SaltSaints", xw_nof (xw_1 (List.mem_of_getElem? (i := 188) (by decide +kernel))) rfl⟩
theorem ln_X6_63 : xcN RX6 63 yX5_settle := ⟨"SaltSaints", xw_nof (xw_1 (List.mem_of_getElem? (i := 200) (by decide +kernel))) rfl⟩
theorem ln_X6_67 : xcN RX6 67 yX1_keep := ⟨"SaltSaints", xw_nof (xw_1 (List.mem_of_getElem? (i := 212) (by decide +kernel))) rfl⟩
theorem lk_X6_74 : xcl RX6 74 yX6_isStatue := xw_of (xw_1 (List.mem_of_getElem? (i := 220) (by decide +kernel))) rfl
theorem lk_X6_100 : xcl RX6 100 yX6_isBelow := xw_of (xw_1 (List.mem_of_getElem? (i := 170) (by decide +kernel))) rfl
theorem ln_X6_103 : xcN RX6 103 yX5_forgetFrom := ⟨"SaltSaints", xw_nof (xw_1 (List.mem_of_getElem? (i := 228) (by decide +kernel))) rfl⟩
theorem ln_X6_112 : xcN RX6 112 yX5_letRain := ⟨"SaltSaints", xw_nof (xw_2 (List.mem_of_getElem? (i := 7) (by decide +kernel))) rfl⟩
theorem lk_X6_119 : xcl RX6 119 yX6_isDawn := xw_of (xw_2 (List.mem_of_getElem? (i := 20) (by decide +kernel))) rfl
theorem ln_X6_122 : xcN RX6 122 yX5_leftOfPart := ⟨"SaltSaints", xw_nof (xw_2 (List.mem_of_getElem? (i := 23) (by decide +kernel))) rfl⟩
theorem ln_X6_126 : xcN RX6 126 yX5_inPuddle := ⟨"SaltSaints", xw_nof (xw_2 (List.mem_of_getElem? (i := 61) (by decide +kernel))) rfl⟩
theorem ln_X6_130 : xcN RX6 130 yX5_lickedOff := ⟨"SaltSaints", xw_nof (xw_2 (List.mem_of_getElem? (i := 81) (by decide +kernel))) rfl⟩
theorem ln_X6_133 : xcN RX6 133 yX5_dawnWithoutPart := ⟨"SaltSaints", xw_nof (xw_2 (List.mem_of_getElem? (i := 86) (by decide +kernel))) rfl⟩
theorem ln_X6_136 : xcN RX6 136 yX5_dawnWithoutAny := ⟨"SaltSaints", xw_nof (xw_2 (List.mem_of_getElem? (i := 90) (by decide +kernel))) rfl⟩
theorem ln_X6_139 : xcN RX6 139 yX5_likedFirst := ⟨"SaltSaints", xw_nof (xw_2 (List.mem_of_getElem? (i := 98) (by decide +kernel))) rfl⟩
theorem ln_X6_144 : xcN RX6 144 yX5_longestLasting := ⟨"SaltSaints", xw_nof (xw_2 (List.mem_of_getElem? (i := 107) (by decide +kernel))) rfl⟩
theorem ln_X6_148 : xcN RX6 148 yX5_leftOfAll := ⟨"SaltSaints", xw_nof (xw_2 (List.mem_of_getElem? (i := 112) (by decide +kernel))) rfl⟩
theorem lk_X6_151 : xcl RX6 151 yX6_commonDivisor := xw_of (xw_2 (List.mem_of_getElem? (i := 116) (by decide +kernel))) rfl
theorem ln_X6_154 : xcN RX6 154 yX0_giveUmbrellas := ⟨"SaltSaints", xw_nof (xw_2 (List.mem_of_getElem? (i := 123) (by decide +kernel))) rfl⟩
theorem ln_X6_160 : xcN RX6 160 yX0_turnOne := ⟨"SaltSaints", xw_nof (xw_2 (List.mem_of_getElem? (i := 144) (by decide +kernel))) rfl⟩
theorem ln_X6_164 : xcN RX6 164 yX0_nosesGone := ⟨"SaltSaints", xw_nof (xw_2 (List.mem_of_getElem? (i := 154) (by decide +kernel))) rfl⟩
theorem lk_X6_167 : xcl RX6 167 yJ6_bitCount_0f7a4 := xw_of (xw_2 (List.mem_of_getElem? (i := 158) (by decide +kernel))) rfl
theorem ln_X6_175 : xcN RX6 175 yX5_nearest := ⟨"SaltSaints", xw_nof (xw_2 (List.mem_of_getElem? (i := 163) (by decide +kernel))) rfl⟩
theorem ln_X6_178 : xcN RX6 178 yX5_apart := ⟨"SaltSaints", xw_nof (xw_2 (List.mem_of_getElem? (i := 174) (by decide +kernel))) rfl⟩
theorem ln_X6_183 : xcN RX6 183 yX1_note := ⟨"SaltSaints", xw_nof (xw_2 (List.mem_of_getElem? (i := 183) (by decide +kernel))) rfl⟩
theorem ln_X6_187 : xcN RX6 187 yX1_allHold := ⟨"SaltSaints", xw_nof (xw_2 (List.mem_of_getElem? (i := 195) (by decide +kernel))) rfl⟩
theorem ln_X6_191 : xcN RX6 191 yX2_renew := ⟨"SaltSaints", xw_nof (xw_2 (List.mem_of_getElem? (i := 208) (by decide +kernel))) rfl⟩
theorem ln_X6_197 : xcN RX6 197 yX2_cut := ⟨"SaltSaints", xw_nof (xw_2 (List.mem_of_getElem? (i := 220) (by decide +kernel))) rfl⟩
theorem lk_X6_203 : Cond.methodLink RX6 203 arraycopyName ∈ xw_all := xw_of (xw_2 (List.mem_of_getElem? (i := 232) (by decide +kernel))) rfl
theorem lk_X6_209 : xcl RX6 209 yX6_martyrTells := xw_of (xw_2 (List.mem_of_getElem? (i := 237) (by decide +kernel))) rfl
theorem lk_X6_213 : xcl RX6 213 yX6_bishopTells := xw_of (xw_3 (List.mem_of_getElem? (i := 5) (by decide +kernel))) rfl
theorem lk_X6_216 : xcl RX6 216 yX6_saintTells := xw_of (xw_3 (List.mem_of_getElem? (i := 9) (by decide +kernel))) rfl
theorem lk_X6_219 : xcl RX6 219 yX6_leave := xw_of (xw_3 (List.mem_of_getElem? (i := 1) (by decide +kernel))) rfl
theorem lo_X7_1 : Cond.methodLink RX7 1 objectInit ∈ xw_all := xw_of (xw_3 (List.mem_of_getElem? (i := 38) (by decide +kernel))) rfl
theorem lk_X7_83 : xcl RX7 83 yX7_nothing := xw_of (xw_4 (List.mem_of_getElem? (i := 27) (by decide +kernel))) rfl
theorem lk_X7_87 : xcl RX7 87 yX7_noSheet := xw_of (xw_3 (List.mem_of_getElem? (i := 136) (by decide +kernel))) rfl
theorem lk_X7_91 : xcl RX7 91 yX7_refused := xw_of (xw_3 (List.mem_of_getElem? (i := 143) (by decide +kernel))) rfl
theorem lk_X7_97 : xcl RX7 97 yX7_in := xw_of (xw_3 (List.mem_of_getElem? (i := 140) (by decide +kernel))) rfl
theorem lk_X7_101 : xcl RX7 101 yX7_failed := xw_of (xw_3 (List.mem_of_getElem? (i := 148) (by decide +kernel))) rfl
theorem lk_X7_104 : xcl RX7 104 yX7_isBeyond := xw_of (xw_3 (List.mem_of_getElem? (i := 152) (by decide +kernel))) rfl
theorem lk_X7_116 : xcl RX7 116 yX7_codeAt := xw_of (xw_3 (List.mem_of_getElem? (i := 163) (by decide +kernel))) rfl
theorem lk_X7_123 : xcl RX7 123 yX7_figure := xw_of (xw_3 (List.mem_of_getElem? (i := 167) (by decide +kernel))) rfl
theorem lk_X7_127 : xcl RX7 127 yX7_readsOne := xw_of (xw_3 (List.mem_of_getElem? (i := 159) (by decide +kernel))) rfl
theorem lk_X7_131 : xcl RX7 131 yX7_barred := xw_of (xw_3 (List.mem_of_getElem? (i := 132) (by decide +kernel))) rfl
theorem lk_X7_135 : xcl RX7 135 yX7_readsAll := xw_of (xw_3 (List.mem_of_getElem? (i := 155) (by decide +kernel))) rfl
theorem lk_X7_144 : xcl RX7 144 yX7_noOne := xw_of (xw_3 (List.mem_of_getElem? (i := 175) (by decide +kernel))) rfl
theorem lk_X7_153 : xcl RX7 153 yX7_losesBy := xw_of (xw_3 (List.mem_of_getElem? (i := 228) (by decide +kernel))) rfl
theorem lk_X7_157 : xcl RX7 157 yX7_lesser := xw_of (xw_3 (List.mem_of_getElem? (i := 232) (by decide +kernel))) rfl
theorem lk_X7_160 : xcl RX7 160 yX7_canLick := xw_of (xw_3 (List.mem_of_getElem? (i := 239) (by decide +kernel))) rfl
theorem lk_X7_163 : xcl RX7 163 yX7_rainOn := xw_of (xw_3 (List.mem_of_getElem? (i := 224) (by decide +kernel))) rfl
theorem lk_X7_167 : xcl RX7 167 yX7_likedNow := xw_of (xw_3 (List.mem_of_getElem? (i := 235) (by decide +kernel))) rfl
theorem lk_X7_171 : xcl RX7 171 yX7_begin := xw_of (xw_3 (List.mem_of_getElem? (i := 216) (by decide +kernel))) rfl
theorem lk_X7_174 : xcl RX7 174 yX7_goDay := xw_of (xw_3 (List.mem_of_getElem? (i := 220) (by decide +kernel))) rfl
theorem lk_X7_177 : xcl RX7 177 yX7_noPart := xw_of (xw_3 (List.mem_of_getElem? (i := 205) (by decide +kernel))) rfl
theorem lk_X7_180 : xcl RX7 180 yX7_isDawn := xw_of (xw_3 (List.mem_of_getElem? (i := 208) (by decide +kernel))) rfl
theorem lk_X7_183 : xcl RX7 183 yX7_goTo := xw_of (xw_3 (List.mem_of_getElem? (i := 212) (by decide +kernel))) rfl
theorem lk_X7_186 : xcl RX7 186 yX7_isGoneNow := xw_of (xw_4 (List.mem_of_getElem? (i := 15) (by decide +kernel))) rfl
theorem lk_X7_189 : xcl RX7 189 yX7_goneAt := xw_of (xw_4 (List.mem_of_getElem? (i := 11) (by decide +kernel))) rfl
theorem lk_X7_192 : xcl RX7 192 yX7_told := xw_of (xw_4 (List.mem_of_getElem? (i := 31) (by decide +kernel))) rfl
theorem lk_X7_196 : xcl RX7 196 yX7_keepOver := xw_of (xw_4 (List.mem_of_getElem? (i := 38) (by decide +kernel))) rfl
theorem lk_X7_199 : xcl RX7 199 yX7_bits := xw_of (xw_4 (List.mem_of_getElem? (i := 42) (by decide +kernel))) rfl
theorem lk_X7_202 : xcl RX7 202 yX7_nosesNow := xw_of (xw_4 (List.mem_of_getElem? (i := 45) (by decide +kernel))) rfl
theorem lk_X7_205 : xcl RX7 205 yX7_takeOver := xw_of (xw_4 (List.mem_of_getElem? (i := 49) (by decide +kernel))) rfl
theorem lk_X7_208 : xcl RX7 208 yX7_firstNose := xw_of (xw_4 (List.mem_of_getElem? (i := 57) (by decide +kernel))) rfl
theorem lk_X7_213 : xcl RX7 213 yX7_off := xw_of (xw_4 (List.mem_of_getElem? (i := 70) (by decide +kernel))) rfl
theorem lk_X7_218 : xcl RX7 218 yX7_areSo := xw_of (xw_4 (List.mem_of_getElem? (i := 90) (by decide +kernel))) rfl
theorem lk_X7_222 : xcl RX7 222 yX7_noCell := xw_of (xw_4 (List.mem_of_getElem? (i := 110) (by decide +kernel))) rfl
theorem lk_X7_225 : xcl RX7 225 yX7_failedLong := xw_of (xw_4 (List.mem_of_getElem? (i := 118) (by decide +kernel))) rfl
theorem lk_X7_232 : xcl RX7 232 yX7_traced := xw_of (xw_4 (List.mem_of_getElem? (i := 130) (by decide +kernel))) rfl
theorem lk_L_9 : xcl RL 9 yX6_init := xw_of (xw_1 (List.mem_of_getElem? (i := 14) (by decide +kernel))) rfl
theorem lk_L_12 : xcl RL 12 yX7_init := xw_of (xw_3 (List.mem_of_getElem? (i := 35) (by decide +kernel))) rfl
theorem lk_L_13 : xcl RL 13 yX6_statues := xw_of (xw_1 (List.mem_of_getElem? (i := 163) (by decide +kernel))) rfl
theorem lk_L_17 : xcl RL 17 yX7_statues := xw_of (xw_3 (List.mem_of_getElem? (i := 128) (by decide +kernel))) rfl
theorem lk_L_18 : xcl RL 18 yX6_ofStatue := xw_of (xw_1 (List.mem_of_getElem? (i := 216) (by decide +kernel))) rfl
theorem lk_L_22 : xcl RL 22 yX7_ofStatue := xw_of (xw_3 (List.mem_of_getElem? (i := 171) (by decide +kernel))) rfl
theorem lk_L_23 : xcl RL 23 yX6_look := xw_of (xw_1 (List.mem_of_getElem? (i := 224) (by decide +kernel))) rfl
theorem lk_L_26 : xcl RL 26 yX7_look := xw_of (xw_3 (List.mem_of_getElem? (i := 179) (by decide +kernel))) rfl
theorem lk_L_27 : xcl RL 27 yX6_over := xw_of (xw_1 (List.mem_of_getElem? (i := 235) (by decide +kernel))) rfl
theorem lk_L_30 : xcl RL 30 yX7_over := xw_of (xw_3 (List.mem_of_getElem? (i := 183) (by decide +kernel))) rfl
theorem lk_L_31 : xcl RL 31 yX6_fence := xw_of (xw_1 (List.mem_of_getElem? (i := 239) (by decide +kernel))) rfl
theorem lk_L_35 : xcl RL 35 yX7_fence := xw_of (xw_3 (List.mem_of_getElem? (i := 187) (by decide +kernel))) rfl
theorem lk_L_36 : xcl RL 36 yX6_rain := xw_of (xw_2 (List.mem_of_getElem? (i := 3) (by decide +kernel))) rfl
theorem lk_L_40 : xcl RL 40 yX7_rain := xw_of (xw_3 (List.mem_of_getElem? (i := 191) (by decide +kernel))) rfl
theorem lk_L_41 : xcl RL 41 yX6_deer := xw_of (xw_2 (List.mem_of_getElem? (i := 12) (by decide +kernel))) rfl
theorem lk_L_45 : xcl RL 45 yX7_deer := xw_of (xw_3 (List.mem_of_getElem? (i := 197) (by decide +kernel))) rfl
theorem lk_L_46 : xcl RL 46 yX6_grains := xw_of (xw_2 (List.mem_of_getElem? (i := 16) (by decide +kernel))) rfl
theorem lk_L_49 : xcl RL 49 yX7_grains := xw_of (xw_3 (List.mem_of_getElem? (i := 201) (by decide +kernel))) rfl
theorem lk_L_50 : xcl RL 50 yX6_lost := xw_of (xw_2 (List.mem_of_getElem? (i := 57) (by decide +kernel))) rfl
theorem lk_L_53 : xcl RL 53 yX7_lost := xw_of (xw_4 (List.mem_of_getElem? (i := 3) (by decide +kernel))) rfl
theorem lk_L_54 : xcl RL 54 yX6_gone := xw_of (xw_2 (List.mem_of_getElem? (i := 82) (by decide +kernel))) rfl
theorem lk_L_57 : xcl RL 57 yX7_gone := xw_of (xw_4 (List.mem_of_getElem? (i := 7) (by decide +kernel))) rfl
theorem lk_L_58 : xcl RL 58 yX6_liked := xw_of (xw_2 (List.mem_of_getElem? (i := 94) (by decide +kernel))) rfl
theorem lk_L_61 : xcl RL 61 yX7_liked := xw_of (xw_4 (List.mem_of_getElem? (i := 19) (by decide +kernel))) rfl
theorem lk_L_62 : xcl RL 62 yX6_lasts := xw_of (xw_2 (List.mem_of_getElem? (i := 102) (by decide +kernel))) rfl
theorem lk_L_66 : xcl RL 66 yX7_lasts := xw_of (xw_4 (List.mem_of_getElem? (i := 23) (by decide +kernel))) rfl
theorem lk_L_67 : xcl RL 67 yX6_umbrellas := xw_of (xw_2 (List.mem_of_getElem? (i := 119) (by decide +kernel))) rfl
theorem lk_L_70 : xcl RL 70 yX7_umbrellas := xw_of (xw_4 (List.mem_of_getElem? (i := 34) (by decide +kernel))) rfl
theorem lk_L_71 : xcl RL 71 yX6_turn := xw_of (xw_2 (List.mem_of_getElem? (i := 140) (by decide +kernel))) rfl
theorem lk_L_74 : xcl RL 74 yX7_turn := xw_of (xw_4 (List.mem_of_getElem? (i := 53) (by decide +kernel))) rfl
theorem lk_L_75 : xcl RL 75 yX6_roofs := xw_of (xw_2 (List.mem_of_getElem? (i := 150) (by decide +kernel))) rfl
theorem lk_L_78 : xcl RL 78 yX7_roofs := xw_of (xw_4 (List.mem_of_getElem? (i := 61) (by decide +kernel))) rfl
theorem lk_L_79 : xcl RL 79 yX6_takenFor := xw_of (xw_2 (List.mem_of_getElem? (i := 159) (by decide +kernel))) rfl
theorem lk_L_83 : xcl RL 83 yX7_takenFor := xw_of (xw_4 (List.mem_of_getElem? (i := 65) (by decide +kernel))) rfl
theorem lk_L_84 : xcl RL 84 yX6_whose := xw_of (xw_2 (List.mem_of_getElem? (i := 175) (by decide +kernel))) rfl
theorem lk_L_87 : xcl RL 87 yX7_whose := xw_of (xw_4 (List.mem_of_getElem? (i := 73) (by decide +kernel))) rfl
theorem lk_L_88 : xcl RL 88 yX6_reading := xw_of (xw_2 (List.mem_of_getElem? (i := 179) (by decide +kernel))) rfl
theorem lk_L_91 : xcl RL 91 yX7_reading := xw_of (xw_4 (List.mem_of_getElem? (i := 77) (by decide +kernel))) rfl
theorem lk_L_92 : xcl RL 92 yX6_back := xw_of (xw_2 (List.mem_of_getElem? (i := 187) (by decide +kernel))) rfl
theorem lk_L_95 : xcl RL 95 yX7_back := xw_of (xw_4 (List.mem_of_getElem? (i := 82) (by decide +kernel))) rfl
theorem lk_L_96 : xcl RL 96 yX6_rains := xw_of (xw_2 (List.mem_of_getElem? (i := 191) (by decide +kernel))) rfl
theorem lk_L_99 : xcl RL 99 yX7_rains := xw_of (xw_4 (List.mem_of_getElem? (i := 86) (by decide +kernel))) rfl
theorem lk_L_100 : xcl RL 100 yX6_cast := xw_of (xw_2 (List.mem_of_getElem? (i := 200) (by decide +kernel))) rfl
theorem lk_L_103 : xcl RL 103 yX7_cast := xw_of (xw_4 (List.mem_of_getElem? (i := 94) (by decide +kernel))) rfl
theorem lk_L_104 : xcl RL 104 yX6_sheet := xw_of (xw_2 (List.mem_of_getElem? (i := 204) (by decide +kernel))) rfl
theorem lk_L_107 : xcl RL 107 yX7_sheet := xw_of (xw_4 (List.mem_of_getElem? (i := 98) (by decide +kernel))) rfl
theorem lk_L_108 : xcl RL 108 yX6_lose := xw_of (xw_2 (List.mem_of_getElem? (i := 212) (by decide +kernel))) rfl
theorem lk_L_111 : xcl RL 111 yX7_lose := xw_of (xw_4 (List.mem_of_getElem? (i := 102) (by decide +kernel))) rfl
theorem lk_L_112 : xcl RL 112 yX6_put := xw_of (xw_2 (List.mem_of_getElem? (i := 216) (by decide +kernel))) rfl
theorem lk_L_115 : xcl RL 115 yX7_put := xw_of (xw_4 (List.mem_of_getElem? (i := 106) (by decide +kernel))) rfl
theorem lk_L_116 : xcl RL 116 yX6_cell := xw_of (xw_2 (List.mem_of_getElem? (i := 224) (by decide +kernel))) rfl
theorem lk_L_120 : xcl RL 120 yX7_cell := xw_of (xw_4 (List.mem_of_getElem? (i := 114) (by decide +kernel))) rfl
theorem lk_L_121 : xcl RL 121 yX6_copy := xw_of (xw_2 (List.mem_of_getElem? (i := 228) (by decide +kernel))) rfl
theorem lk_L_124 : xcl RL 124 yX7_copy := xw_of (xw_4 (List.mem_of_getElem? (i := 122) (by decide +kernel))) rfl
theorem lk_L_125 : xcl RL 125 yX6_tell := xw_of (xw_2 (List.mem_of_getElem? (i := 233) (by decide +kernel))) rfl
theorem lk_L_128 : xcl RL 128 yX7_tell := xw_of (xw_4 (List.mem_of_getElem? (i := 126) (by decide +kernel))) rfl
theorem lk_L_129 : xcl RL 129 yX6_bow := xw_of (xw_3 (List.mem_of_getElem? (i := 13) (by decide +kernel))) rfl
theorem lk_L_132 : xcl RL 132 yX7_bow := xw_of (xw_4 (List.mem_of_getElem? (i := 134) (by decide +kernel))) rfl
theorem lk_L_133 : xcl RL 133 yX6_as := xw_of (xw_3 (List.mem_of_getElem? (i := 17) (by decide +kernel))) rfl
theorem lk_L_136 : xcl RL 136 yX7_as := xw_of (xw_4 (List.mem_of_getElem? (i := 138) (by decide +kernel))) rfl
theorem lk_L_137 : xcl RL 137 yX6_trace := xw_of (xw_3 (List.mem_of_getElem? (i := 21) (by decide +kernel))) rfl
theorem lk_L_141 : xcl RL 141 yX7_trace := xw_of (xw_4 (List.mem_of_getElem? (i := 142) (by decide +kernel))) rfl
theorem lk_L_142 : xcl RL 142 yX6_fault := xw_of (xw_3 (List.mem_of_getElem? (i := 25) (by decide +kernel))) rfl
theorem lk_L_145 : xcl RL 145 yX7_fault := xw_of (xw_4 (List.mem_of_getElem? (i := 146) (by decide +kernel))) rfl
theorem lk_L_146 : xcl RL 146 yX6_many := xw_of (xw_3 (List.mem_of_getElem? (i := 29) (by decide +kernel))) rfl
theorem lk_L_149 : xcl RL 149 yX7_many := xw_of (xw_4 (List.mem_of_getElem? (i := 150) (by decide +kernel))) rfl
theorem cy_ok : xcy := ⟨xw_of (xw_1 (List.mem_of_getElem? (i := 211) (by decide +kernel))) rfl, xw_of (xw_1 (List.mem_of_getElem? (i := 210) (by decide +kernel))) rfl, xw_of (xw_1 (List.mem_of_getElem? (i := 8) (by decide +kernel))) rfl⟩
theorem kc_X6_142 : Cond.constantLong RX6 142 (-9223372036854775808 : Int64) ∈ xw_all := xw_of (xw_2 (List.mem_of_getElem? (i := 106) (by decide +kernel))) rfl
theorem kc_J6_265 : Cond.constant RJ6 265 (1431655765 : Int32) ∈ xw_all := xw_of (xw_2 (List.mem_of_getElem? (i := 137) (by decide +kernel))) rfl
theorem kc_J6_266 : Cond.constant RJ6 266 (858993459 : Int32) ∈ xw_all := xw_of (xw_2 (List.mem_of_getElem? (i := 138) (by decide +kernel))) rfl
theorem kc_J6_267 : Cond.constant RJ6 267 (252645135 : Int32) ∈ xw_all := xw_of (xw_2 (List.mem_of_getElem? (i := 139) (by decide +kernel))) rfl
theorem kc_X7_147 : Cond.constantLong RX7 147 (3 : Int64) ∈ xw_all := xw_of (xw_3 (List.mem_of_getElem? (i := 139) (by decide +kernel))) rfl
theorem kc_X7_95 : Cond.constantLong RX7 95 (2 : Int64) ∈ xw_all := xw_of (xw_3 (List.mem_of_getElem? (i := 147) (by decide +kernel))) rfl
theorem kc_X7_149 : Cond.constantLong RX7 149 (59 : Int64) ∈ xw_all := xw_of (xw_3 (List.mem_of_getElem? (i := 195) (by decide +kernel))) rfl
theorem kc_X7_151 : Cond.constantLong RX7 151 (9 : Int64) ∈ xw_all := xw_of (xw_3 (List.mem_of_getElem? (i := 196) (by decide +kernel))) rfl
theorem kc_X7_111 : Cond.constantLong RX7 111 (60 : Int64) ∈ xw_all := xw_of (xw_3 (List.mem_of_getElem? (i := 211) (by decide +kernel))) rfl
theorem kc_X7_77 : Cond.constantLong RX7 77 (-9223372036854775808 : Int64) ∈ xw_all := xw_of (xw_4 (List.mem_of_getElem? (i := 30) (by decide +kernel))) rfl
theorem kc_X7_211 : Cond.constantLong RX7 211 (999 : Int64) ∈ xw_all := xw_of (xw_4 (List.mem_of_getElem? (i := 69) (by decide +kernel))) rfl
theorem kc_X7_216 : Cond.constantLong RX7 216 (99 : Int64) ∈ xw_all := xw_of (xw_4 (List.mem_of_getElem? (i := 81) (by decide +kernel))) rfl
theorem oi_in : Cond.instanceMethod objectInit ∈ xw_all := xw_of (xw_1 (List.mem_of_getElem? (i := 18) (by decide +kernel))) rfl
theorem oi_co : Cond.code objectInit ⟨#[0xb1]⟩ 1 none ∈ xw_all := xw_of (xw_1 (List.mem_of_getElem? (i := 19) (by decide +kernel))) rfl
theorem kn_L : Cond.initialized RL ∈ xw_all := xw_of (xw_1 (List.mem_of_getElem? (i := 0) (by decide +kernel))) rfl
theorem kn_X6 : Cond.initialized RX6 ∈ xw_all := xw_of (xw_1 (List.mem_of_getElem? (i := 1) (by decide +kernel))) rfl
theorem kn_X2 : Cond.initialized RX2 ∈ xw_all := xw_of (xw_1 (List.mem_of_getElem? (i := 2) (by decide +kernel))) rfl
theorem kn_X5 : Cond.initialized RX5 ∈ xw_all := xw_of (xw_1 (List.mem_of_getElem? (i := 3) (by decide +kernel))) rfl
theorem kn_X3 : Cond.initialized RX3 ∈ xw_all := xw_of (xw_1 (List.mem_of_getElem? (i := 4) (by decide +kernel))) rfl
theorem kn_X1 : Cond.initialized RX1 ∈ xw_all := xw_of (xw_1 (List.mem_of_getElem? (i := 5) (by decide +kernel))) rfl
theorem kn_X7 : Cond.initialized RX7 ∈ xw_all := xw_of (xw_1 (List.mem_of_getElem? (i := 6) (by decide +kernel))) rfl
theorem kn_X4 : Cond.initialized RX4 ∈ xw_all := xw_of (xw_1 (List.mem_of_getElem? (i := 7) (by decide +kernel))) rfl
theorem kn_J10 : Cond.initialized RJ10 ∈ xw_all := xw_of (xw_1 (List.mem_of_getElem? (i := 8) (by decide +kernel))) rfl
theorem kn_J9 : Cond.initialized RJ9 ∈ xw_all := xw_of (xw_1 (List.mem_of_getElem? (i := 9) (by decide +kernel))) rfl
theorem kn_X0 : Cond.initialized RX0 ∈ xw_all := xw_of (xw_1 (List.mem_of_getElem? (i := 10) (by decide +kernel))) rfl
theorem kn_J6 : Cond.initialized RJ6 ∈ xw_all := xw_of (xw_1 (List.mem_of_getElem? (i := 11) (by decide +kernel))) rfl
theorem kl_L_7 : Cond.classLink RL 7 RX6 ∈ xw_all := xw_of (xw_1 (List.mem_of_getElem? (i := 12) (by decide +kernel))) rfl
theorem ki_X6 : Cond.instantiable RX6 5 ∈ xw_all := xw_of (xw_1 (List.mem_of_getElem? (i := 13) (by decide +kernel))) rfl
theorem kl_X6_11 : Cond.classLink RX6 11 RX2 ∈ xw_all := xw_of (xw_1 (List.mem_of_getElem? (i := 20) (by decide +kernel))) rfl
theorem ko_X2 : Cond.arrayOver (.object RX2) ∈ lw_tbl := xw_1 (List.mem_of_getElem? (i := 21) (by decide +kernel))
theorem ki_X2 : Cond.instantiable RX2 4 ∈ xw_all := xw_of (xw_1 (List.mem_of_getElem? (i := 22) (by decide +kernel))) rfl
theorem ka_int : Cond.arrayClass .int ∈ xw_all := xw_of (xw_1 (List.mem_of_getElem? (i := 46) (by decide +kernel))) rfl
theorem kl_X6_18 : Cond.classLink RX6 18 RX5 ∈ xw_all := xw_of (xw_1 (List.mem_of_getElem? (i := 47) (by decide +kernel))) rfl
theorem ki_X5 : Cond.instantiable RX5 9 ∈ xw_all := xw_of (xw_1 (List.mem_of_getElem? (i := 48) (by decide +kernel))) rfl
theorem kl_X5_9 : Cond.classLink RX5 9 RX3 ∈ xw_all := xw_of (xw_1 (List.mem_of_getElem? (i := 53) (by decide +kernel))) rfl
theorem ko_X3 : Cond.arrayOver (.object RX3) ∈ lw_tbl := xw_1 (List.mem_of_getElem? (i := 54) (by decide +kernel))
theorem ki_X3 : Cond.instantiable RX3 5 ∈ xw_all := xw_of (xw_1 (List.mem_of_getElem? (i := 55) (by decide +kernel))) rfl
theorem kl_X6_25 : Cond.classLink RX6 25 RX1 ∈ xw_all := xw_of (xw_1 (List.mem_of_getElem? (i := 124) (by decide +kernel))) rfl
theorem ki_X1 : Cond.instantiable RX1 5 ∈ xw_all := xw_of (xw_1 (List.mem_of_getElem? (i := 125) (by decide +kernel))) rfl
theorem kl_L_10 : Cond.classLink RL 10 RX7 ∈ xw_all := xw_of (xw_3 (List.mem_of_getElem? (i := 33) (by decide +kernel))) rfl
theorem ki_X7 : Cond.instantiable RX7 29 ∈ xw_all := xw_of (xw_3 (List.mem_of_getElem? (i := 34) (by decide +kernel))) rfl
theorem ka_boolean : Cond.arrayClass .boolean ∈ xw_all := xw_of (xw_3 (List.mem_of_getElem? (i := 127) (by decide +kernel))) rfl
