def wp_X7_lost (n : Nat) (a1 : Int32) (a2 : Int32) (a3 : Int32) (μ : xM) (K : Int32 → xM → Prop) : Prop :=
  wp_X7_noOne n a1 μ (fun r_2 : Int32 => ((r_2 = 0 → wp_X7_isDawn n a2 μ (fun r_11 : Int32 => ((r_11 = 0 → K ((-2) : Int32) μ) ∧ (¬ r_11 = 0 → wp_X7_in n (a3.toInt64) (0 : Int64) (1 : Int64) μ (fun r_21 : Int32 => ((¬ r_21 = 0 → wp_X7_goTo n a2 μ (fun m_32 : xM => ((¬ a3 = 0 → (vp_in a1 7 ∧ K (m_32 13 a1.toNatClampNeg) m_32)) ∧ (a3 = 0 → (vp_in a1 7 ∧ K (m_32 12 a1.toNatClampNeg) m_32))))) ∧ (r_21 = 0 → K ((-2) : Int32) μ))))))) ∧ (¬ r_2 = 0 → K ((-1) : Int32) μ)))
set_option maxHeartbeats 4000000 in
set_option maxRecDepth 100000 in
theorem cm_X7_lost (l : Launch) (G : xG) (ad : Nat → Nat) (hI : xI 23 ad) (n : Nat) (a1 : Int32) (a2 : Int32) (a3 : Int32) (μ : xM) (K : Int32 → xM → Prop) (hf : wp_X7_lost n a1 a2 a3 μ K) : Met l yX7_lost (Cond.code yX7_lost cX7_lost 4 (some .int) :: xw_all) (rmo 4 94) (va_Pc [.ref (ad 0), .int a1, .int a2, .int a3] (xPre mS 23 G ad μ)) (xQi mS 23 G ad K) 0 0 (xR 23 ad) := by
  refine x_ent (nL := 4) (own := RX7) (by decide) rfl hI (Nat.le_of_ble_eq_true rfl) ?_
  intro p e s m args below meth c H locs ls Q X hr hlk hQ M hl
  have hx := X.1.1
  have hb := X.1.2.1
  have hown := X.1.2.2.2.1
  have hts := X.1.2.2.2.2
  have hl : lv_has ls 4 [(0, .ref (ad 0)), (1, .int a1), (2, .int a2), (3, .int a3)] := hl
  unfold wp_X7_lost at hf
  refine lv_aload_n hx hb dX7_lost_0 rfl (lv_at hl 0 rfl) ?_
  refine lv_iload_n hx hb dX7_lost_1 rfl (lv_at hl 1 rfl) ?_
  refine x_ciP (x_rV (As := [.int a1]) (rest := []) X M (cm_X7_noOne l G ad hI n a1 μ _ hf) mc_X7_noOne mv_X7_noOne lk_X7_144 mn_X7_noOne rgm_0 rfl hl ⟨⟨Nat.le_of_ble_eq_true rfl, Nat.le_of_ble_eq_true rfl⟩, rfl, Nat.le_of_ble_eq_true rfl, Nat.zero_le _, Nat.zero_le _⟩ rfl dX7_lost_2) M (fun r_2 H locs hf M => ?_)
  try dsimp only at hf
  refine lv_if_eq (tgt := 10) hx hb dX7_lost_5 (by decide) (fun c_5 => ?_) (fun c_5 => ?_)
  · replace hf := hf.1 c_5
    refine lv_iload_n hx hb dX7_lost_10 rfl (lv_at hl 2 rfl) ?_
    refine x_ciP (x_rS (As := [.int a2]) (rest := []) X M (cm_X7_isDawn l G ad hI n a2 μ _ hf) mc_X7_isDawn ms_X7_isDawn lk_X7_180 mn_X7_isDawn hl ⟨⟨Nat.le_of_ble_eq_true rfl, Nat.le_of_ble_eq_true rfl⟩, rfl, Nat.le_of_ble_eq_true rfl, Nat.zero_le _, Nat.zero_le _⟩ rfl dX7_lost_11) M (fun r_11 H locs hf M => ?_)
    try dsimp only at hf
    refine lv_if_eq (tgt := 27) hx hb dX7_lost_14 (by decide) (fun c_14 => ?_) (fun c_14 => ?_)
    · replace hf := hf.1 c_14
      refine lv_bipush (v := ((-2) : Int32)) hx hb dX7_lost_27 (by decide) ?_
      rw [hQ]
      exact x_iret X M hr hlk dX7_lost_29 hf
    · replace hf := hf.2 c_14
      refine lv_iload_n hx hb dX7_lost_17 rfl (lv_at hl 3 rfl) ?_
      refine lv_i2l hx hb dX7_lost_18 rfl ?_
      refine lv_lconst (v := (0 : Int64)) hx hb dX7_lost_19 (by decide) ?_
      refine lv_lconst (v := (1 : Int64)) hx hb dX7_lost_20 (by decide) ?_
      refine x_ciP (x_rS (As := [.long (a3.toInt64), .long (0 : Int64), .long (1 : Int64)]) (rest := []) X M (cm_X7_in l G ad hI n (a3.toInt64) (0 : Int64) (1 : Int64) μ _ hf) mc_X7_in ms_X7_in lk_X7_97 mn_X7_in hl ⟨⟨Nat.le_of_ble_eq_true rfl, Nat.le_of_ble_eq_true rfl⟩, rfl, Nat.le_of_ble_eq_true rfl, Nat.zero_le _, Nat.zero_le _⟩ rfl dX7_lost_21) M (fun r_21 H locs hf M => ?_)
      try dsimp only at hf
      refine lv_if_ne (tgt := 30) hx hb dX7_lost_24 (by decide) (fun c_24 => ?_) (fun c_24 => ?_)
      · replace hf := hf.1 c_24
        refine lv_aload_n hx hb dX7_lost_30 rfl (lv_at hl 0 rfl) ?_
        refine lv_iload_n hx hb dX7_lost_31 rfl (lv_at hl 2 rfl) ?_
        refine x_cv (x_rV (As := [.int a2]) (rest := []) X M (cm_X7_goTo l G ad hI n a2 μ _ hf) mc_X7_goTo mv_X7_goTo lk_X7_183 mn_X7_goTo rgm_0 rfl hl ⟨⟨Nat.le_of_ble_eq_true rfl, Nat.le_of_ble_eq_true rfl⟩, rfl, Nat.le_of_ble_eq_true rfl, Nat.zero_le _, Nat.zero_le _⟩ rfl dX7_lost_32) M (fun m_32 H locs hf M => ?_)
        try dsimp only at hf
        refine lv_iload_n hx hb dX7_lost_35 rfl (lv_at hl 3 rfl) ?_
        refine lv_if_ne (tgt := 48) hx hb dX7_lost_36 (by decide) (fun c_36 => ?_) (fun c_36 => ?_)
        · replace hf := hf.1 c_36
          refine lv_aload_n hx hb dX7_lost_48 rfl (lv_at hl 0 rfl) ?_
          refine x_getR (r := 13) X M rgm_0 fd_X7_47 rfl dX7_lost_49 ?_
          refine lv_iload_n hx hb dX7_lost_52 rfl (lv_at hl 1 rfl) ?_
          obtain ⟨g_53, hf⟩ := hf
          refine x_ild X M rgm_13 g_53 dX7_lost_53 ?_
          rw [hQ]
          exact x_iret X M hr hlk dX7_lost_54 hf
        · replace hf := hf.2 c_36
          refine lv_aload_n hx hb dX7_lost_39 rfl (lv_at hl 0 rfl) ?_
          refine x_getR (r := 12) X M rgm_0 fd_X7_44 rfl dX7_lost_40 ?_
          refine lv_iload_n hx hb dX7_lost_43 rfl (lv_at hl 1 rfl) ?_
          obtain ⟨g_44, hf⟩ := hf
          refine x_ild X M rgm_12 g_44 dX7_lost_44 ?_
          refine lv_goto (tgt := 54) hx hb dX7_lost_45 (by decide) ?_
          rw [hQ]
          exact x_iret X M hr hlk dX7_lost_54 hf
      · replace hf := hf.2 c_24
        refine lv_bipush (v := ((-2) : Int32)) hx hb dX7_lost_27 (by decide) ?_
        rw [hQ]
        exact x_iret X M hr hlk dX7_lost_29 hf
  · replace hf := hf.2 c_5
    refine lv_iconst (v := ((-1) : Int32)) hx hb dX7_lost_8 (by decide) ?_
    rw [hQ]
    exact x_iret X M hr hlk dX7_lost_9 hf
def wp_X7_isGoneNow (n : Nat) (a1 : Int32) (a2 : Int32) (μ : xM) (K : Int32 → Prop) : Prop :=
  (((3 : Int32) ≤ a2 → (vp_in ((3 : Int32) * a1) 21 ∧ (vp_in (((3 : Int32) * a1) + (1 : Int32)) 21 ∧ (vp_in (((3 : Int32) * a1) + (2 : Int32)) 21 ∧ ((¬ (((μ 11 ((3 : Int32) * a1).toNatClampNeg) + (μ 11 (((3 : Int32) * a1) + (1 : Int32)).toNatClampNeg)) + (μ 11 (((3 : Int32) * a1) + (2 : Int32)).toNatClampNeg)) = 0 → K (0 : Int32)) ∧ ((((μ 11 ((3 : Int32) * a1).toNatClampNeg) + (μ 11 (((3 : Int32) * a1) + (1 : Int32)).toNatClampNeg)) + (μ 11 (((3 : Int32) * a1) + (2 : Int32)).toNatClampNeg)) = 0 → K (1 : Int32))))))) ∧ (¬ (3 : Int32) ≤ a2 → (vp_in (((3 : Int32) * a1) + a2) 21 ∧ ((¬ (μ 11 (((3 : Int32) * a1) + a2).toNatClampNeg) = 0 → K (0 : Int32)) ∧ ((μ 11 (((3 : Int32) * a1) + a2).toNatClampNeg) = 0 → K (1 : Int32))))))
set_option maxHeartbeats 4000000 in
set_option maxRecDepth 100000 in
theorem cm_X7_isGoneNow (l : Launch) (G : xG) (ad : Nat → Nat) (hI : xI 23 ad) (n : Nat) (a1 : Int32) (a2 : Int32) (μ : xM) (K : Int32 → Prop) (hf : wp_X7_isGoneNow n a1 a2 μ K) : Met l yX7_isGoneNow (Cond.code yX7_isGoneNow cX7_isGoneNow 3 (some .boolean) :: xw_all) (rmo 0 0) (va_Pc [.ref (ad 0), .int a1, .int a2] (xPre mS 23 G ad μ)) (xQi mS 23 G ad (fun r u => K r ∧ u = μ)) 0 0 (xR 23 ad) := by
  refine x_ent (nL := 3) (own := RX7) (by decide) rfl hI (Nat.le_of_ble_eq_true rfl) ?_
  intro p e s m args below meth c H locs ls Q X hr hlk hQ M hl
  have hx := X.1.1
  have hb := X.1.2.1
  have hown := X.1.2.2.2.1
  have hts := X.1.2.2.2.2
  have hl : lv_has ls 3 [(0, .ref (ad 0)), (1, .int a1), (2, .int a2)] := hl
  unfold wp_X7_isGoneNow at hf
  refine lv_iload_n hx hb dX7_isGoneNow_0 rfl (lv_at hl 2 rfl) ?_
  refine lv_iconst (v := (3 : Int32)) hx hb dX7_isGoneNow_1 (by decide) ?_
  refine lv_icmp_ge (tgt := 26) hx hb dX7_isGoneNow_2 (by decide) (fun c_2 => ?_) (fun c_2 => ?_)
  · replace hf := hf.1 c_2
    refine lv_aload_n hx hb dX7_isGoneNow_26 rfl (lv_at hl 0 rfl) ?_
    refine x_getR (r := 11) X M rgm_0 fd_X7_41 rfl dX7_isGoneNow_27 ?_
    refine lv_iconst (v := (3 : Int32)) hx hb dX7_isGoneNow_30 (by decide) ?_
    refine lv_iload_n hx hb dX7_isGoneNow_31 rfl (lv_at hl 1 rfl) ?_
    refine lv_imul hx hb dX7_isGoneNow_32 ?_
    obtain ⟨g_33, hf⟩ := hf
    refine x_ild X M rgm_11 g_33 dX7_isGoneNow_33 ?_
    refine lv_aload_n hx hb dX7_isGoneNow_34 rfl (lv_at hl 0 rfl) ?_
    refine x_getR (r := 11) X M rgm_0 fd_X7_41 rfl dX7_isGoneNow_35 ?_
    refine lv_iconst (v := (3 : Int32)) hx hb dX7_isGoneNow_38 (by decide) ?_
    refine lv_iload_n hx hb dX7_isGoneNow_39 rfl (lv_at hl 1 rfl) ?_
    refine lv_imul hx hb dX7_isGoneNow_40 ?_
    refine lv_iconst (v := (1 : Int32)) hx hb dX7_isGoneNow_41 (by decide) ?_
    refine lv_iadd hx hb dX7_isGoneNow_42 ?_
    obtain ⟨g_43, hf⟩ := hf
    refine x_ild X M rgm_11 g_43 dX7_isGoneNow_43 ?_
    refine lv_iadd hx hb dX7_isGoneNow_44 ?_
    refine lv_aload_n hx hb dX7_isGoneNow_45 rfl (lv_at hl 0 rfl) ?_
    refine x_getR (r := 11) X M rgm_0 fd_X7_41 rfl dX7_isGoneNow_46 ?_
    refine lv_iconst (v := (3 : Int32)) hx hb dX7_isGoneNow_49 (by decide) ?_
    refine lv_iload_n hx hb dX7_isGoneNow_50 rfl (lv_at hl 1 rfl) ?_
    refine lv_imul hx hb dX7_isGoneNow_51 ?_
    refine lv_iconst (v := (2 : Int32)) hx hb dX7_isGoneNow_52 (by decide) ?_
    refine lv_iadd hx hb dX7_isGoneNow_53 ?_
    obtain ⟨g_54, hf⟩ := hf
    refine x_ild X M rgm_11 g_54 dX7_isGoneNow_54 ?_
    refine lv_iadd hx hb dX7_isGoneNow_55 ?_
    refine lv_if_ne (tgt := 63) hx hb dX7_isGoneNow_56 (by decide) (fun c_56 => ?_) (fun c_56 => ?_)
    · replace hf := hf.1 c_56
      refine lv_iconst (v := (0 : Int32)) hx hb dX7_isGoneNow_63 (by decide) ?_
      rw [hQ]
      exact x_zret X M hr hlk xb_0 dX7_isGoneNow_64 ⟨hf, rfl⟩
    · replace hf := hf.2 c_56
      refine lv_iconst (v := (1 : Int32)) hx hb dX7_isGoneNow_59 (by decide) ?_
      refine lv_goto (tgt := 64) hx hb dX7_isGoneNow_60 (by decide) ?_
      rw [hQ]
      exact x_zret X M hr hlk xb_1 dX7_isGoneNow_64 ⟨hf, rfl⟩
  · replace hf := hf.2 c_2
    refine lv_aload_n hx hb dX7_isGoneNow_5 rfl (lv_at hl 0 rfl) ?_
    refine x_getR (r := 11) X M rgm_0 fd_X7_41 rfl dX7_isGoneNow_6 ?_
    refine lv_iconst (v := (3 : Int32)) hx hb dX7_isGoneNow_9 (by decide) ?_
    refine lv_iload_n hx hb dX7_isGoneNow_10 rfl (lv_at hl 1 rfl) ?_
    refine lv_imul hx hb dX7_isGoneNow_11 ?_
    refine lv_iload_n hx hb dX7_isGoneNow_12 rfl (lv_at hl 2 rfl) ?_
    refine lv_iadd hx hb dX7_isGoneNow_13 ?_
    obtain ⟨g_14, hf⟩ := hf
    refine x_ild X M rgm_11 g_14 dX7_isGoneNow_14 ?_
    refine lv_if_ne (tgt := 22) hx hb dX7_isGoneNow_15 (by decide) (fun c_15 => ?_) (fun c_15 => ?_)
    · replace hf := hf.1 c_15
      refine lv_iconst (v := (0 : Int32)) hx hb dX7_isGoneNow_22 (by decide) ?_
      refine lv_goto (tgt := 64) hx hb dX7_isGoneNow_23 (by decide) ?_
      rw [hQ]
      exact x_zret X M hr hlk xb_0 dX7_isGoneNow_64 ⟨hf, rfl⟩
    · replace hf := hf.2 c_15
      refine lv_iconst (v := (1 : Int32)) hx hb dX7_isGoneNow_18 (by decide) ?_
      refine lv_goto (tgt := 64) hx hb dX7_isGoneNow_19 (by decide) ?_
      rw [hQ]
      exact x_zret X M hr hlk xb_1 dX7_isGoneNow_64 ⟨hf, rfl⟩
def wp_X7_goneAt (n : Nat) (a1 : Int32) (a2 : Int32) (μ : xM) (K : Int32 → xM → Prop) : Prop :=
  wp_X7_begin n μ (fun m_1 : xM => xlp (fun (again6 : (Int32 × xM) → Prop) => fun (s_ : Int32 × xM) => match s_ with | (x3_6, m_6) => (((60 : Int32) ≤ x3_6 → K ((-9) : Int32) m_6) ∧ (¬ (60 : Int32) ≤ x3_6 → wp_X7_goDay n x3_6 m_6 (fun m_14 : xM => wp_X7_isGoneNow n a1 a2 m_14 (fun r_20 : Int32 => ((r_20 = 0 → (∀ x3_30 : Int32, x3_30 = x3_6 + 1 → again6 (x3_30, m_14))) ∧ (¬ r_20 = 0 → K (x3_6 + (1 : Int32)) m_14))))))) n ((0 : Int32), m_1))
set_option maxHeartbeats 4000000 in
set_option maxRecDepth 100000 in
theorem cm_X7_goneAt (l : Launch) (G : xG) (ad : Nat → Nat) (hI : xI 23 ad) (n : Nat) (a1 : Int32) (a2 : Int32) (μ : xM) (K : Int32 → xM → Prop) (hf : wp_X7_goneAt n a1 a2 μ K) : Met l yX7_goneAt (Cond.code yX7_goneAt cX7_goneAt 4 (some .int) :: xw_all) (rmo 3 72) (va_Pc [.ref (ad 0), .int a1, .int a2] (xPre mS 23 G ad μ)) (xQi mS 23 G ad K) 0 0 (xR 23 ad) := by
  refine x_ent (nL := 4) (own := RX7) (by decide) rfl hI (Nat.le_of_ble_eq_true rfl) ?_
  intro p e s m args below meth c H locs ls Q X hr hlk hQ M hl
  have hx := X.1.1
  have hb := X.1.2.1
  have hown := X.1.2.2.2.1
  have hts := X.1.2.2.2.2
  have hl : lv_has ls 4 [(0, .ref (ad 0)), (1, .int a1), (2, .int a2)] := hl
  unfold wp_X7_goneAt at hf
  refine lv_aload_n hx hb dX7_goneAt_0 rfl (lv_at hl 0 rfl) ?_
  refine x_cv (x_rV (As := []) (rest := []) X M (cm_X7_begin l G ad hI n μ _ hf) mc_X7_begin mv_X7_begin lk_X7_171 mn_X7_begin rgm_0 rfl hl ⟨⟨Nat.le_of_ble_eq_true rfl, Nat.le_of_ble_eq_true rfl⟩, rfl, Nat.le_of_ble_eq_true rfl, Nat.zero_le _, Nat.zero_le _⟩ rfl dX7_goneAt_1) M (fun m_1 H locs hf M => ?_)
  try dsimp only at hf
  refine lv_iconst (v := (0 : Int32)) hx hb dX7_goneAt_4 (by decide) ?_
  refine lv_istore_n (lv' := [(3, .int (0 : Int32)), (0, .ref (ad 0)), (1, .int a1), (2, .int a2)]) hx hb dX7_goneAt_5 rfl hl (by decide) rfl (fun ls hl => ?_)
  refine xlp_w hf (fun (s_ : Int32 × xM) => match s_ with | (x3_6, m_6) => ∀ (H : Heap) (locs : List Loc) (ls : Array Slot), xS mS 23 G ad s m_6 H locs → lv_has ls 4 [(3, .int x3_6), (0, .ref (ad 0)), (1, .int a1), (2, .int a2)] → W p l e (rmo 3 72) s m args below meth c H locs 0 0 Q (F0 m 6 ls [])) ?_ _ _ _ M (lv_sub hl [0, 1, 2, 3] rfl)
  intro again6 hagain6 s_ hf
  obtain ⟨x3_6, m_6⟩ := s_
  try dsimp only at hf ⊢
  intro H locs ls M hl
  refine lv_iload_n hx hb dX7_goneAt_6 rfl (lv_at hl 0 rfl) ?_
  refine lv_bipush (v := (60 : Int32)) hx hb dX7_goneAt_7 (by decide) ?_
  refine lv_icmp_ge (tgt := 36) hx hb dX7_goneAt_9 (by decide) (fun c_9 => ?_) (fun c_9 => ?_)
  · replace hf := hf.1 c_9
    refine lv_bipush (v := ((-9) : Int32)) hx hb dX7_goneAt_36 (by decide) ?_
    rw [hQ]
    exact x_iret X M hr hlk dX7_goneAt_38 hf
  · replace hf := hf.2 c_9
    refine lv_aload_n hx hb dX7_goneAt_12 rfl (lv_at hl 1 rfl) ?_
    refine lv_iload_n hx hb dX7_goneAt_13 rfl (lv_at hl 0 rfl) ?_
    refine x_cv (x_rV (As := [.int x3_6]) (rest := []) X M (cm_X7_goDay l G ad hI n x3_6 m_6 _ hf) mc_X7_goDay mv_X7_goDay lk_X7_174 mn_X7_goDay rgm_0 rfl hl ⟨⟨Nat.le_of_ble_eq_true rfl, Nat.le_of_ble_eq_true rfl⟩, rfl, Nat.le_of_ble_eq_true rfl, Nat.zero_le _, Nat.zero_le _⟩ rfl dX7_goneAt_14) M (fun m_14 H locs hf M => ?_)
    try dsimp only at hf
    refine lv_aload_n hx hb dX7_goneAt_17 rfl (lv_at hl 1 rfl) ?_
    refine lv_iload_n hx hb dX7_goneAt_18 rfl (lv_at hl 2 rfl) ?_
    refine lv_iload_n hx hb dX7_goneAt_19 rfl (lv_at hl 3 rfl) ?_
    refine x_ciP (x_rV (As := [.int a1, .int a2]) (rest := []) X M (cm_X7_isGoneNow l G ad hI n a1 a2 m_14 _ hf) mc_X7_isGoneNow mv_X7_isGoneNow lk_X7_186 mn_X7_isGoneNow rgm_0 rfl hl ⟨⟨Nat.le_of_ble_eq_true rfl, Nat.le_of_ble_eq_true rfl⟩, rfl, Nat.le_of_ble_eq_true rfl, Nat.zero_le _, Nat.zero_le _⟩ rfl dX7_goneAt_20) M (fun r_20 H locs hf M => ?_)
    try dsimp only at hf
    refine lv_if_eq (tgt := 30) hx hb dX7_goneAt_23 (by decide) (fun c_23 => ?_) (fun c_23 => ?_)
    · replace hf := hf.1 c_23
      obtain ⟨x3_30, ex3_30⟩ : ∃ y : Int32, y = x3_6 + 1 := ⟨_, rfl⟩
      replace hf := hf x3_30 ex3_30
      refine lv_iinc (v := x3_30) (lv' := [(3, .int x3_30), (0, .ref (ad 0)), (1, .int a1), (2, .int a2)]) hx hb dX7_goneAt_30 hl (k := 0) rfl (by rw [ex3_30]; rfl) (by decide) rfl (fun ls hl => ?_)
      refine lv_goto (tgt := 6) hx hb dX7_goneAt_33 (by decide) ?_
      exact hagain6 (x3_30, m_14) hf _ _ _ M (lv_sub hl [0, 1, 2, 3] rfl)
    · replace hf := hf.2 c_23
      refine lv_iload_n hx hb dX7_goneAt_26 rfl (lv_at hl 0 rfl) ?_
      refine lv_iconst (v := (1 : Int32)) hx hb dX7_goneAt_27 (by decide) ?_
      refine lv_iadd hx hb dX7_goneAt_28 ?_
      rw [hQ]
      exact x_iret X M hr hlk dX7_goneAt_29 hf
def wp_X7_gone (n : Nat) (a1 : Int32) (a2 : Int32) (μ : xM) (K : Int32 → xM → Prop) : Prop :=
  wp_X7_noOne n a1 μ (fun r_2 : Int32 => ((¬ r_2 = 0 → K ((-1) : Int32) μ) ∧ (r_2 = 0 → wp_X7_in n (a2.toInt64) (0 : Int64) (3 : Int64) μ (fun r_14 : Int32 => ((¬ r_14 = 0 → wp_X7_goneAt n a1 a2 μ (fun (r_27 : Int32) (m_27 : xM) => K r_27 m_27)) ∧ (r_14 = 0 → K ((-1) : Int32) μ))))))
set_option maxHeartbeats 4000000 in
set_option maxRecDepth 100000 in
theorem cm_X7_gone (l : Launch) (G : xG) (ad : Nat → Nat) (hI : xI 23 ad) (n : Nat) (a1 : Int32) (a2 : Int32) (μ : xM) (K : Int32 → xM → Prop) (hf : wp_X7_gone n a1 a2 μ K) : Met l yX7_gone (Cond.code yX7_gone cX7_gone 3 (some .int) :: xw_all) (rmo 4 95) (va_Pc [.ref (ad 0), .int a1, .int a2] (xPre mS 23 G ad μ)) (xQi mS 23 G ad K) 0 0 (xR 23 ad) := by
  refine x_ent (nL := 3) (own := RX7) (by decide) rfl hI (Nat.le_of_ble_eq_true rfl) ?_
  intro p e s m args below meth c H locs ls Q X hr hlk hQ M hl
  have hx := X.1.1
  have hb := X.1.2.1
  have hown := X.1.2.2.2.1
  have hts := X.1.2.2.2.2
  have hl : lv_has ls 3 [(0, .ref (ad 0)), (1, .int a1), (2, .int a2)] := hl
  unfold wp_X7_gone at hf
  refine lv_aload_n hx hb dX7_gone_0 rfl (lv_at hl 0 rfl) ?_
  refine lv_iload_n hx hb dX7_gone_1 rfl (lv_at hl 1 rfl) ?_
  refine x_ciP (x_rV (As := [.int a1]) (rest := []) X M (cm_X7_noOne l G ad hI n a1 μ _ hf) mc_X7_noOne mv_X7_noOne lk_X7_144 mn_X7_noOne rgm_0 rfl hl ⟨⟨Nat.le_of_ble_eq_true rfl, Nat.le_of_ble_eq_true rfl⟩, rfl, Nat.le_of_ble_eq_true rfl, Nat.zero_le _, Nat.zero_le _⟩ rfl dX7_gone_2) M (fun r_2 H locs hf M => ?_)
  try dsimp only at hf
  refine lv_if_ne (tgt := 20) hx hb dX7_gone_5 (by decide) (fun c_5 => ?_) (fun c_5 => ?_)
  · replace hf := hf.1 c_5
    refine lv_iconst (v := ((-1) : Int32)) hx hb dX7_gone_20 (by decide) ?_
    refine lv_goto (tgt := 30) hx hb dX7_gone_21 (by decide) ?_
    rw [hQ]
    exact x_iret X M hr hlk dX7_gone_30 hf
  · replace hf := hf.2 c_5
    refine lv_iload_n hx hb dX7_gone_8 rfl (lv_at hl 2 rfl) ?_
    refine lv_i2l hx hb dX7_gone_9 rfl ?_
    refine lv_lconst (v := (0 : Int64)) hx hb dX7_gone_10 (by decide) ?_
    refine lv_ldc2 (v := (3 : Int64)) hx hb hown (hts _ kc_X7_147) dX7_gone_11 ?_
    refine x_ciP (x_rS (As := [.long (a2.toInt64), .long (0 : Int64), .long (3 : Int64)]) (rest := []) X M (cm_X7_in l G ad hI n (a2.toInt64) (0 : Int64) (3 : Int64) μ _ hf) mc_X7_in ms_X7_in lk_X7_97 mn_X7_in hl ⟨⟨Nat.le_of_ble_eq_true rfl, Nat.le_of_ble_eq_true rfl⟩, rfl, Nat.le_of_ble_eq_true rfl, Nat.zero_le _, Nat.zero_le _⟩ rfl dX7_gone_14) M (fun r_14 H locs hf M => ?_)
    try dsimp only at hf
    refine lv_if_ne (tgt := 24) hx hb dX7_gone_17 (by decide) (fun c_17 => ?_) (fun c_17 => ?_)
    · replace hf := hf.1 c_17
      refine lv_aload_n hx hb dX7_gone_24 rfl (lv_at hl 0 rfl) ?_
      refine lv_iload_n hx hb dX7_gone_25 rfl (lv_at hl 1 rfl) ?_
      refine lv_iload_n hx hb dX7_gone_26 rfl (lv_at hl 2 rfl) ?_
      refine x_ci (x_rV (As := [.int a1, .int a2]) (rest := []) X M (cm_X7_goneAt l G ad hI n a1 a2 μ _ hf) mc_X7_goneAt mv_X7_goneAt lk_X7_189 mn_X7_goneAt rgm_0 rfl hl ⟨⟨Nat.le_of_ble_eq_true rfl, Nat.le_of_ble_eq_true rfl⟩, rfl, Nat.le_of_ble_eq_true rfl, Nat.zero_le _, Nat.zero_le _⟩ rfl dX7_gone_27) M (fun r_27 m_27 H locs hf M => ?_)
      try dsimp only at hf
      rw [hQ]
      exact x_iret X M hr hlk dX7_gone_30 hf
    · replace hf := hf.2 c_17
      refine lv_iconst (v := ((-1) : Int32)) hx hb dX7_gone_20 (by decide) ?_
      refine lv_goto (tgt := 30) hx hb dX7_gone_21 (by decide) ?_
      rw [hQ]
      exact x_iret X M hr hlk dX7_gone_30 hf
def wp_X7_liked (n : Nat) (a1 : Int32) (μ : xM) (K : Int32 → xM → Prop) : Prop :=
  wp_X7_in n (a1.toInt64) (0 : Int64) (59 : Int64) μ (fun r_6 : Int32 => ((¬ r_6 = 0 → ((¬ (μ 0 1) = 0 → wp_X7_goTo n a1 μ (fun m_27 : xM => wp_X7_rainOn n a1 m_27 (fun m_32 : xM => ((¬ (m_32 0 14) = 0 → wp_X7_likedNow n m_32 (fun r_48 : Int32 => K r_48 m_32)) ∧ ((m_32 0 14) = 0 → K ((-9) : Int32) m_32))))) ∧ ((μ 0 1) = 0 → K ((-3) : Int32) μ))) ∧ (r_6 = 0 → K ((-2) : Int32) μ)))
set_option maxHeartbeats 4000000 in
set_option maxRecDepth 100000 in
theorem cm_X7_liked (l : Launch) (G : xG) (ad : Nat → Nat) (hI : xI 23 ad) (n : Nat) (a1 : Int32) (μ : xM) (K : Int32 → xM → Prop) (hf : wp_X7_liked n a1 μ K) : Met l yX7_liked (Cond.code yX7_liked cX7_liked 2 (some .int) :: xw_all) (rmo 4 94) (va_Pc [.ref (ad 0), .int a1] (xPre mS 23 G ad μ)) (xQi mS 23 G ad K) 0 0 (xR 23 ad) := by
  refine x_ent (nL := 2) (own := RX7) (by decide) rfl hI (Nat.le_of_ble_eq_true rfl) ?_
  intro p e s m args below meth c H locs ls Q X hr hlk hQ M hl
  have hx := X.1.1
  have hb := X.1.2.1
  have hown := X.1.2.2.2.1
  have hts := X.1.2.2.2.2
  have hl : lv_has ls 2 [(0, .ref (ad 0)), (1, .int a1)] := hl
  unfold wp_X7_liked at hf
  refine lv_iload_n hx hb dX7_liked_0 rfl (lv_at hl 1 rfl) ?_
  refine lv_i2l hx hb dX7_liked_1 rfl ?_
  refine lv_lconst (v := (0 : Int64)) hx hb dX7_liked_2 (by decide) ?_
  refine lv_ldc2 (v := (59 : Int64)) hx hb hown (hts _ kc_X7_149) dX7_liked_3 ?_
  refine x_ciP (x_rS (As := [.long (a1.toInt64), .long (0 : Int64), .long (59 : Int64)]) (rest := []) X M (cm_X7_in l G ad hI n (a1.toInt64) (0 : Int64) (59 : Int64) μ _ hf) mc_X7_in ms_X7_in lk_X7_97 mn_X7_in hl ⟨⟨Nat.le_of_ble_eq_true rfl, Nat.le_of_ble_eq_true rfl⟩, rfl, Nat.le_of_ble_eq_true rfl, Nat.zero_le _, Nat.zero_le _⟩ rfl dX7_liked_6) M (fun r_6 H locs hf M => ?_)
  try dsimp only at hf
  refine lv_if_ne (tgt := 15) hx hb dX7_liked_9 (by decide) (fun c_9 => ?_) (fun c_9 => ?_)
  · replace hf := hf.1 c_9
    refine lv_aload_n hx hb dX7_liked_15 rfl (lv_at hl 0 rfl) ?_
    refine x_getI X M rgm_0 fd_X7_108 rfl dX7_liked_16 ?_
    refine lv_if_ne (tgt := 25) hx hb dX7_liked_19 (by decide) (fun c_19 => ?_) (fun c_19 => ?_)
    · replace hf := hf.1 c_19
      refine lv_aload_n hx hb dX7_liked_25 rfl (lv_at hl 0 rfl) ?_
      refine lv_iload_n hx hb dX7_liked_26 rfl (lv_at hl 1 rfl) ?_
      refine x_cv (x_rV (As := [.int a1]) (rest := []) X M (cm_X7_goTo l G ad hI n a1 μ _ hf) mc_X7_goTo mv_X7_goTo lk_X7_183 mn_X7_goTo rgm_0 rfl hl ⟨⟨Nat.le_of_ble_eq_true rfl, Nat.le_of_ble_eq_true rfl⟩, rfl, Nat.le_of_ble_eq_true rfl, Nat.zero_le _, Nat.zero_le _⟩ rfl dX7_liked_27) M (fun m_27 H locs hf M => ?_)
      try dsimp only at hf
      refine lv_aload_n hx hb dX7_liked_30 rfl (lv_at hl 0 rfl) ?_
      refine lv_iload_n hx hb dX7_liked_31 rfl (lv_at hl 1 rfl) ?_
      refine x_cv (x_rV (As := [.int a1]) (rest := []) X M (cm_X7_rainOn l G ad hI n a1 m_27 _ hf) mc_X7_rainOn mv_X7_rainOn lk_X7_163 mn_X7_rainOn rgm_0 rfl hl ⟨⟨Nat.le_of_ble_eq_true rfl, Nat.le_of_ble_eq_true rfl⟩, rfl, Nat.le_of_ble_eq_true rfl, Nat.zero_le _, Nat.zero_le _⟩ rfl dX7_liked_32) M (fun m_32 H locs hf M => ?_)
      try dsimp only at hf
      refine lv_aload_n hx hb dX7_liked_35 rfl (lv_at hl 0 rfl) ?_
      refine x_getI X M rgm_0 fd_X7_138 rfl dX7_liked_36 ?_
      refine lv_if_ne (tgt := 47) hx hb dX7_liked_39 (by decide) (fun c_39 => ?_) (fun c_39 => ?_)
      · replace hf := hf.1 c_39
        refine lv_aload_n hx hb dX7_liked_47 rfl (lv_at hl 0 rfl) ?_
        refine x_ciP (x_rV (As := []) (rest := []) X M (cm_X7_likedNow l G ad hI n m_32 _ hf) mc_X7_likedNow mv_X7_likedNow lk_X7_167 mn_X7_likedNow rgm_0 rfl hl ⟨⟨Nat.le_of_ble_eq_true rfl, Nat.le_of_ble_eq_true rfl⟩, rfl, Nat.le_of_ble_eq_true rfl, Nat.zero_le _, Nat.zero_le _⟩ rfl dX7_liked_48) M (fun r_48 H locs hf M => ?_)
        try dsimp only at hf
        rw [hQ]
        exact x_iret X M hr hlk dX7_liked_51 hf
      · replace hf := hf.2 c_39
        refine lv_bipush (v := ((-9) : Int32)) hx hb dX7_liked_42 (by decide) ?_
        refine lv_goto (tgt := 51) hx hb dX7_liked_44 (by decide) ?_
        rw [hQ]
        exact x_iret X M hr hlk dX7_liked_51 hf
    · replace hf := hf.2 c_19
      refine lv_bipush (v := ((-3) : Int32)) hx hb dX7_liked_22 (by decide) ?_
      rw [hQ]
      exact x_iret X M hr hlk dX7_liked_24 hf
  · replace hf := hf.2 c_9
    refine lv_bipush (v := ((-2) : Int32)) hx hb dX7_liked_12 (by decide) ?_
    rw [hQ]
    exact x_iret X M hr hlk dX7_liked_14 hf
def wp_X7_lasts (n : Nat) (a1 : Int32) (μ : xM) (K : Int64 → xM → Prop) : Prop :=
  wp_X7_in n (a1.toInt64) (0 : Int64) (2 : Int64) μ (fun r_6 : Int32 => ((r_6 = 0 → wp_X7_nothing n μ (fun r_19 : Int64 => K r_19 μ)) ∧ (¬ r_6 = 0 → ((¬ (μ 0 1) = 0 → ((¬ a1 = 0 → wp_X7_goTo n (60 : Int32) μ (fun m_90 : xM => xjn (fun (s_ : Int64 × Int64) => match s_ with | (x4_142, x2_142) => wp_X7_told n x2_142 x4_142 (a1 - (1 : Int32)) m_90 (fun r_148 : Int64 => K r_148 m_90)) (fun J142 : (Int64 × Int64) → Prop => xlp (fun (again101 : (Int32 × Int64 × Int64) → Prop) => fun (s_ : Int32 × Int64 × Int64) => match s_ with | (x6_101, x4_101, x2_101) => ((((3 : Int32) * (m_90 0 1)) ≤ x6_101 → J142 (x4_101, x2_101)) ∧ (¬ ((3 : Int32) * (m_90 0 1)) ≤ x6_101 → (vp_in x6_101 21 ∧ (∀ x2_122 : Int64, x2_122 = x2_101 + ((m_90 11 x6_101.toNatClampNeg).toInt64) → (vp_in x6_101 21 ∧ (∀ x4_134 : Int64, x4_134 = x4_101 + ((m_90 2 x6_101.toNatClampNeg).toInt64) → (∀ x6_136 : Int32, x6_136 = x6_101 + 1 → again101 (x6_136, x4_134, x2_122))))))))) n ((0 : Int32), (0 : Int64), (0 : Int64))))) ∧ (a1 = 0 → xlp (fun (again34 : (Int32 × Int32 × Int32 × xM) → Prop) => fun (s_ : Int32 × Int32 × Int32 × xM) => match s_ with | (x4_34, x3_34, x2_34, m_34) => (((m_34 0 1) ≤ x4_34 → K (x2_34.toInt64) m_34) ∧ (¬ (m_34 0 1) ≤ x4_34 → wp_X7_goneAt n x4_34 (3 : Int32) m_34 (fun (r_47 : Int32) (m_47 : xM) => xjn (fun (v0_64 : Int32) => ((v0_64 ≤ x3_34 → (∀ x4_78 : Int32, x4_78 = x4_34 + 1 → again34 (x4_78, x3_34, x2_34, m_47))) ∧ (¬ v0_64 ≤ x3_34 → (∀ x4_78 : Int32, x4_78 = x4_34 + 1 → again34 (x4_78, v0_64, x4_34, m_47))))) (fun J64 : Int32 → Prop => ((0 ≤ r_47 → J64 r_47) ∧ (¬ 0 ≤ r_47 → J64 (61 : Int32)))))))) n ((0 : Int32), ((-1) : Int32), (0 : Int32), μ)))) ∧ ((μ 0 1) = 0 → wp_X7_nothing n μ (fun r_19 : Int64 => K r_19 μ))))))
set_option maxHeartbeats 4000000 in
set_option maxRecDepth 100000 in
theorem cm_X7_lasts (l : Launch) (G : xG) (ad : Nat → Nat) (hI : xI 23 ad) (n : Nat) (a1 : Int32) (μ : xM) (K : Int64 → xM → Prop) (hf : wp_X7_lasts n a1 μ K) : Met l yX7_lasts (Cond.code yX7_lasts cX7_lasts 7 (some .long) :: xw_all) (rmo 4 95) (va_Pc [.ref (ad 0), .int a1] (xPre mS 23 G ad μ)) (xQl mS 23 G ad K) 0 0 (xR 23 ad) := by
  refine x_ent (nL := 7) (own := RX7) (by decide) rfl hI (Nat.le_of_ble_eq_true rfl) ?_
  intro p e s m args below meth c H locs ls Q X hr hlk hQ M hl
  have hx := X.1.1
  have hb := X.1.2.1
  have hown := X.1.2.2.2.1
  have hts := X.1.2.2.2.2
  have hl : lv_has ls 7 [(0, .ref (ad 0)), (1, .int a1)] := hl
  unfold wp_X7_lasts at hf
  refine lv_iload_n hx hb dX7_lasts_0 rfl (lv_at hl 1 rfl) ?_
  refine lv_i2l hx hb dX7_lasts_1 rfl ?_
  refine lv_lconst (v := (0 : Int64)) hx hb dX7_lasts_2 (by decide) ?_
  refine lv_ldc2 (v := (2 : Int64)) hx hb hown (hts _ kc_X7_95) dX7_lasts_3 ?_
  refine x_ciP (x_rS (As := [.long (a1.toInt64), .long (0 : Int64), .long (2 : Int64)]) (rest := []) X M (cm_X7_in l G ad hI n (a1.toInt64) (0 : Int64) (2 : Int64) μ _ hf) mc_X7_in ms_X7_in lk_X7_97 mn_X7_in hl ⟨⟨Nat.le_of_ble_eq_true rfl, Nat.le_of_ble_eq_true rfl⟩, rfl, Nat.le_of_ble_eq_true rfl, Nat.zero_le _, Nat.zero_le _⟩ rfl dX7_lasts_6) M (fun r_6 H locs hf M => ?_)
  try dsimp only at hf
  refine lv_if_eq (tgt := 19) hx hb dX7_lasts_9 (by decide) (fun c_9 => ?_) (fun c_9 => ?_)
  · replace hf := hf.1 c_9
    refine x_clP (x_rS (As := []) (rest := []) X M (cm_X7_nothing l G ad hI n μ _ hf) mc_X7_nothing ms_X7_nothing lk_X7_83 mn_X7_nothing hl ⟨⟨Nat.le_of_ble_eq_true rfl, Nat.le_of_ble_eq_true rfl⟩, rfl, Nat.le_of_ble_eq_true rfl, Nat.zero_le _, Nat.zero_le _⟩ rfl dX7_lasts_19) M (fun r_19 H locs hf M => ?_)
    try dsimp only at hf
    rw [hQ]
    exact x_lret X M hr hlk dX7_lasts_22 hf
  · replace hf := hf.2 c_9
    refine lv_aload_n hx hb dX7_lasts_12 rfl (lv_at hl 0 rfl) ?_
    refine x_getI X M rgm_0 fd_X7_108 rfl dX7_lasts_13 ?_
    refine lv_if_ne (tgt := 23) hx hb dX7_lasts_16 (by decide) (fun c_16 => ?_) (fun c_16 => ?_)
    · replace hf := hf.1 c_16
      refine lv_iload_n hx hb dX7_lasts_23 rfl (lv_at hl 1 rfl) ?_
      refine lv_if_ne (tgt := 87) hx hb dX7_lasts_24 (by decide) (fun c_24 => ?_) (fun c_24 => ?_)
      · replace hf := hf.1 c_24
        refine lv_aload_n hx hb dX7_lasts_87 rfl (lv_at hl 0 rfl) ?_
        refine lv_bipush (v := (60 : Int32)) hx hb dX7_lasts_88 (by decide) ?_
        refine x_cv (x_rV (As := [.int (60 : Int32)]) (rest := []) X M (cm_X7_goTo l G ad hI n (60 : Int32) μ _ hf) mc_X7_goTo mv_X7_goTo lk_X7_183 mn_X7_goTo rgm_0 rfl hl ⟨⟨Nat.le_of_ble_eq_true rfl, Nat.le_of_ble_eq_true rfl⟩, rfl, Nat.le_of_ble_eq_true rfl, Nat.zero_le _, Nat.zero_le _⟩ rfl dX7_lasts_90) M (fun m_90 H locs hf M => ?_)
        try dsimp only at hf
        refine lv_lconst (v := (0 : Int64)) hx hb dX7_lasts_93 (by decide) ?_
        refine lv_lstore_n (lv' := [(2, .long (0 : Int64)), (0, .ref (ad 0)), (1, .int a1)]) hx hb dX7_lasts_94 rfl hl (by decide) rfl (fun ls hl => ?_)
        refine lv_lconst (v := (0 : Int64)) hx hb dX7_lasts_95 (by decide) ?_
        refine lv_lstore (lv' := [(4, .long (0 : Int64)), (2, .long (0 : Int64)), (0, .ref (ad 0)), (1, .int a1)]) hx hb dX7_lasts_96 hl (by decide) rfl (fun ls hl => ?_)
        refine lv_iconst (v := (0 : Int32)) hx hb dX7_lasts_98 (by decide) ?_
        refine lv_istore (lv' := [(6, .int (0 : Int32)), (4, .long (0 : Int64)), (2, .long (0 : Int64)), (0, .ref (ad 0)), (1, .int a1)]) hx hb dX7_lasts_99 hl (by decide) rfl (fun ls hl => ?_)
        refine xjn_w hf (fun (s_ : Int64 × Int64) => match s_ with | (x4_142, x2_142) => ∀ (H : Heap) (locs : List Loc) (ls : Array Slot), xS mS 23 G ad s m_90 H locs → lv_has ls 7 [(4, .long x4_142), (2, .long x2_142), (1, .int a1)] → W p l e (rmo 4 95) s m args below meth c H locs 0 0 Q (F0 m 142 ls [])) ?_ ?_
        · intro s_ hf
          obtain ⟨x4_142, x2_142⟩ := s_
          try dsimp only at hf ⊢
          intro H locs ls M hl
          refine lv_lload_n hx hb dX7_lasts_142 rfl (lv_at hl 1 rfl) ?_
          refine lv_lload hx hb dX7_lasts_143 (lv_at hl 0 rfl) ?_
          refine lv_iload_n hx hb dX7_lasts_145 rfl (lv_at hl 2 rfl) ?_
          refine lv_iconst (v := (1 : Int32)) hx hb dX7_lasts_146 (by decide) ?_
          refine lv_isub hx hb dX7_lasts_147 ?_
          refine x_clP (x_rS (As := [.long x2_142, .long x4_142, .int (a1 - (1 : Int32))]) (rest := []) X M (cm_X7_told l G ad hI n x2_142 x4_142 (a1 - (1 : Int32)) m_90 _ hf) mc_X7_told ms_X7_told lk_X7_192 mn_X7_told hl ⟨⟨Nat.le_of_ble_eq_true rfl, Nat.le_of_ble_eq_true rfl⟩, rfl, Nat.le_of_ble_eq_true rfl, Nat.zero_le _, Nat.zero_le _⟩ rfl dX7_lasts_148) M (fun r_148 H locs hf M => ?_)
          try dsimp only at hf
          rw [hQ]
          exact x_lret X M hr hlk dX7_lasts_151 hf
        · intro J142 hJ142 hf
          refine xlp_w hf (fun (s_ : Int32 × Int64 × Int64) => match s_ with | (x6_101, x4_101, x2_101) => ∀ (H : Heap) (locs : List Loc) (ls : Array Slot), xS mS 23 G ad s m_90 H locs → lv_has ls 7 [(6, .int x6_101), (4, .long x4_101), (2, .long x2_101), (0, .ref (ad 0)), (1, .int a1)] → W p l e (rmo 4 95) s m args below meth c H locs 0 0 Q (F0 m 101 ls [])) ?_ _ _ _ M (lv_sub hl [0, 1, 2, 3, 4] rfl)
          intro again101 hagain101 s_ hf
          obtain ⟨x6_101, x4_101, x2_101⟩ := s_
          try dsimp only at hf ⊢
          intro H locs ls M hl
          refine lv_iload hx hb dX7_lasts_101 (lv_at hl 0 rfl) ?_
          refine lv_iconst (v := (3 : Int32)) hx hb dX7_lasts_103 (by decide) ?_
          refine lv_aload_n hx hb dX7_lasts_104 rfl (lv_at hl 3 rfl) ?_
          refine x_getI X M rgm_0 fd_X7_108 rfl dX7_lasts_105 ?_
          refine lv_imul hx hb dX7_lasts_108 ?_
          refine lv_icmp_ge (tgt := 142) hx hb dX7_lasts_109 (by decide) (fun c_109 => ?_) (fun c_109 => ?_)
          · replace hf := hf.1 c_109
            exact hJ142 (x4_101, x2_101) hf _ _ _ M (lv_sub hl [1, 2, 4] rfl)
          · replace hf := hf.2 c_109
            refine lv_lload_n hx hb dX7_lasts_112 rfl (lv_at hl 2 rfl) ?_
            refine lv_aload_n hx hb dX7_lasts_113 rfl (lv_at hl 3 rfl) ?_
            refine x_getR (r := 11) X M rgm_0 fd_X7_41 rfl dX7_lasts_114 ?_
            refine lv_iload hx hb dX7_lasts_117 (lv_at hl 0 rfl) ?_
            obtain ⟨g_119, hf⟩ := hf
            refine x_ild X M rgm_11 g_119 dX7_lasts_119 ?_
            refine lv_i2l hx hb dX7_lasts_120 rfl ?_
            refine lv_ladd hx hb dX7_lasts_121 ?_
            refine lv_topl (fun x2_122 ex2_122 => ?_)
            replace hf := hf x2_122 ex2_122
            refine lv_lstore_n (lv' := [(2, .long x2_122), (6, .int x6_101), (4, .long x4_101), (0, .ref (ad 0)), (1, .int a1)]) hx hb dX7_lasts_122 rfl hl (by decide) rfl (fun ls hl => ?_)
            refine lv_lload hx hb dX7_lasts_123 (lv_at hl 2 rfl) ?_
            refine lv_aload_n hx hb dX7_lasts_125 rfl (lv_at hl 3 rfl) ?_
            refine x_getR (r := 2) X M rgm_0 fd_X7_13 rfl dX7_lasts_126 ?_
            refine lv_iload hx hb dX7_lasts_129 (lv_at hl 1 rfl) ?_
            obtain ⟨g_131, hf⟩ := hf
            refine x_ild X M rgm_2 g_131 dX7_lasts_131 ?_
            refine lv_i2l hx hb dX7_lasts_132 rfl ?_
            refine lv_ladd hx hb dX7_lasts_133 ?_
            refine lv_topl (fun x4_134 ex4_134 => ?_)
            replace hf := hf x4_134 ex4_134
            refine lv_lstore (lv' := [(4, .long x4_134), (2, .long x2_122), (6, .int x6_101), (0, .ref (ad 0)), (1, .int a1)]) hx hb dX7_lasts_134 hl (by decide) rfl (fun ls hl => ?_)
            obtain ⟨x6_136, ex6_136⟩ : ∃ y : Int32, y = x6_101 + 1 := ⟨_, rfl⟩
            replace hf := hf x6_136 ex6_136
            refine lv_iinc (v := x6_136) (lv' := [(6, .int x6_136), (4, .long x4_134), (2, .long x2_122), (0, .ref (ad 0)), (1, .int a1)]) hx hb dX7_lasts_136 hl (k := 2) rfl (by rw [ex6_136]; rfl) (by decide) rfl (fun ls hl => ?_)
            refine lv_goto (tgt := 101) hx hb dX7_lasts_139 (by decide) ?_
            exact hagain101 (x6_136, x4_134, x2_122) hf _ _ _ M (lv_sub hl [0, 1, 2, 3, 4] rfl)
      · replace hf := hf.2 c_24
        refine lv_iconst (v := (0 : Int32)) hx hb dX7_lasts_27 (by decide) ?_
        refine lv_istore_n (lv' := [(2, .int (0 : Int32)), (0, .ref (ad 0)), (1, .int a1)]) hx hb dX7_lasts_28 rfl hl (by decide) rfl (fun ls hl => ?_)
        refine lv_iconst (v := ((-1) : Int32)) hx hb dX7_lasts_29 (by decide) ?_
        refine lv_istore_n (lv' := [(3, .int ((-1) : Int32)), (2, .int (0 : Int32)), (0, .ref (ad 0)), (1, .int a1)]) hx hb dX7_lasts_30 rfl hl (by decide) rfl (fun ls hl => ?_)
        refine lv_iconst (v := (0 : Int32)) hx hb dX7_lasts_31 (by decide) ?_
        refine lv_istore (lv' := [(4, .int (0 : Int32)), (3, .int ((-1) : Int32)), (2, .int (0 : Int32)), (0, .ref (ad 0)), (1, .int a1)]) hx hb dX7_lasts_32 hl (by decide) rfl (fun ls hl => ?_)
        refine xlp_w hf (fun (s_ : Int32 × Int32 × Int32 × xM) => match s_ with | (x4_34, x3_34, x2_34, m_34) => ∀ (H : Heap) (locs : List Loc) (ls : Array Slot), xS mS 23 G ad s m_34 H locs → lv_has ls 7 [(4, .int x4_34), (3, .int x3_34), (2, .int x2_34), (0, .ref (ad 0))] → W p l e (rmo 4 95) s m args below meth c H locs 0 0 Q (F0 m 34 ls [])) ?_ _ _ _ M (lv_sub hl [0, 1, 2, 3] rfl)
        intro again34 hagain34 s_ hf
        obtain ⟨x4_34, x3_34, x2_34, m_34⟩ := s_
        try dsimp only at hf ⊢
        intro H locs ls M hl
        refine lv_iload hx hb dX7_lasts_34 (lv_at hl 0 rfl) ?_
        refine lv_aload_n hx hb dX7_lasts_36 rfl (lv_at hl 3 rfl) ?_
        refine x_getI X M rgm_0 fd_X7_108 rfl dX7_lasts_37 ?_
        refine lv_icmp_ge (tgt := 84) hx hb dX7_lasts_40 (by decide) (fun c_40 => ?_) (fun c_40 => ?_)
        · replace hf := hf.1 c_40
          refine lv_iload_n hx hb dX7_lasts_84 rfl (lv_at hl 2 rfl) ?_
          refine lv_i2l hx hb dX7_lasts_85 rfl ?_
          rw [hQ]
          exact x_lret X M hr hlk dX7_lasts_86 hf
        · replace hf := hf.2 c_40
          refine lv_aload_n hx hb dX7_lasts_43 rfl (lv_at hl 3 rfl) ?_
          refine lv_iload hx hb dX7_lasts_44 (lv_at hl 0 rfl) ?_
          refine lv_iconst (v := (3 : Int32)) hx hb dX7_lasts_46 (by decide) ?_
          refine x_ci (x_rV (As := [.int x4_34, .int (3 : Int32)]) (rest := []) X M (cm_X7_goneAt l G ad hI n x4_34 (3 : Int32) m_34 _ hf) mc_X7_goneAt mv_X7_goneAt lk_X7_189 mn_X7_goneAt rgm_0 rfl hl ⟨⟨Nat.le_of_ble_eq_true rfl, Nat.le_of_ble_eq_true rfl⟩, rfl, Nat.le_of_ble_eq_true rfl, Nat.zero_le _, Nat.zero_le _⟩ rfl dX7_lasts_47) M (fun r_47 m_47 H locs hf M => ?_)
          try dsimp only at hf
          refine lv_istore (lv' := [(5, .int r_47), (4, .int x4_34), (3, .int x3_34), (2, .int x2_34), (0, .ref (ad 0))]) hx hb dX7_lasts_50 hl (by decide) rfl (fun ls hl => ?_)
          refine lv_iload hx hb dX7_lasts_52 (lv_at hl 0 rfl) ?_
          refine xjn_w hf (fun (v0_64 : Int32) => ∀ (H : Heap) (locs : List Loc) (ls : Array Slot), xS mS 23 G ad s m_47 H locs → lv_has ls 7 [(4, .int x4_34), (3, .int x3_34), (2, .int x2_34), (0, .ref (ad 0))] → W p l e (rmo 4 95) s m args below meth c H locs 0 0 Q (F0 m 64 ls [.int v0_64])) ?_ ?_
          · intro v0_64 hf
            intro H locs ls M hl
            refine lv_istore (lv' := [(5, .int v0_64), (4, .int x4_34), (3, .int x3_34), (2, .int x2_34), (0, .ref (ad 0))]) hx hb dX7_lasts_64 hl (by decide) rfl (fun ls hl => ?_)
            refine lv_iload hx hb dX7_lasts_66 (lv_at hl 0 rfl) ?_
            refine lv_iload_n hx hb dX7_lasts_68 rfl (lv_at hl 2 rfl) ?_
            refine lv_icmp_le (tgt := 78) hx hb dX7_lasts_69 (by decide) (fun c_69 => ?_) (fun c_69 => ?_)
            · replace hf := hf.1 c_69
              obtain ⟨x4_78, ex4_78⟩ : ∃ y : Int32, y = x4_34 + 1 := ⟨_, rfl⟩
              replace hf := hf x4_78 ex4_78
              refine lv_iinc (v := x4_78) (lv' := [(4, .int x4_78), (5, .int v0_64), (3, .int x3_34), (2, .int x2_34), (0, .ref (ad 0))]) hx hb dX7_lasts_78 hl (k := 1) rfl (by rw [ex4_78]; rfl) (by decide) rfl (fun ls hl => ?_)
              refine lv_goto (tgt := 34) hx hb dX7_lasts_81 (by decide) ?_
              exact hagain34 (x4_78, x3_34, x2_34, m_47) hf _ _ _ M (lv_sub hl [0, 2, 3, 4] rfl)
            · replace hf := hf.2 c_69
              refine lv_iload hx hb dX7_lasts_72 (lv_at hl 1 rfl) ?_
              refine lv_istore_n (lv' := [(2, .int x4_34), (5, .int v0_64), (4, .int x4_34), (3, .int x3_34), (0, .ref (ad 0))]) hx hb dX7_lasts_74 rfl hl (by decide) rfl (fun ls hl => ?_)
              refine lv_iload hx hb dX7_lasts_75 (lv_at hl 1 rfl) ?_
              refine lv_istore_n (lv' := [(3, .int v0_64), (2, .int x4_34), (5, .int v0_64), (4, .int x4_34), (0, .ref (ad 0))]) hx hb dX7_lasts_77 rfl hl (by decide) rfl (fun ls hl => ?_)
              obtain ⟨x4_78, ex4_78⟩ : ∃ y : Int32, y = x4_34 + 1 := ⟨_, rfl⟩
              replace hf := hf x4_78 ex4_78
              refine lv_iinc (v := x4_78) (lv' := [(4, .int x4_78), (3, .int v0_64), (2, .int x4_34), (5, .int v0_64), (0, .ref (ad 0))]) hx hb dX7_lasts_78 hl (k := 3) rfl (by rw [ex4_78]; rfl) (by decide) rfl (fun ls hl => ?_)
              refine lv_goto (tgt := 34) hx hb dX7_lasts_81 (by decide) ?_
              exact hagain34 (x4_78, v0_64, x4_34, m_47) hf _ _ _ M (lv_sub hl [0, 1, 2, 4] rfl)
          · intro J64 hJ64 hf
            refine lv_if_ge (tgt := 62) hx hb dX7_lasts_54 (by decide) (fun c_54 => ?_) (fun c_54 => ?_)
            · replace hf := hf.1 c_54
              refine lv_iload hx hb dX7_lasts_62 (lv_at hl 0 rfl) ?_
              exact hJ64 r_47 hf _ _ _ M (lv_sub hl [1, 2, 3, 4] rfl)
            · replace hf := hf.2 c_54
              refine lv_bipush (v := (61 : Int32)) hx hb dX7_lasts_57 (by decide) ?_
              refine lv_goto (tgt := 64) hx hb dX7_lasts_59 (by decide) ?_
              exact hJ64 (61 : Int32) hf _ _ _ M (lv_sub hl [1, 2, 3, 4] rfl)
    · replace hf := hf.2 c_16
      refine x_clP (x_rS (As := []) (rest := []) X M (cm_X7_nothing l G ad hI n μ _ hf) mc_X7_nothing ms_X7_nothing lk_X7_83 mn_X7_nothing hl ⟨⟨Nat.le_of_ble_eq_true rfl, Nat.le_of_ble_eq_true rfl⟩, rfl, Nat.le_of_ble_eq_true rfl, Nat.zero_le _, Nat.zero_le _⟩ rfl dX7_lasts_19) M (fun r_19 H locs hf M => ?_)
      try dsimp only at hf
      rw [hQ]
      exact x_lret X M hr hlk dX7_lasts_22 hf
def wp_X7_keepOver (n : Nat)  (μ : xM) (K : xM → Prop) : Prop :=
  xlp (fun (again2 : (Int32 × xM) → Prop) => fun (s_ : Int32 × xM) => match s_ with | (x1_2, m_2) => (((7 : Int32) ≤ x1_2 → K m_2) ∧ (¬ (7 : Int32) ≤ x1_2 → (vp_in x1_2 7 ∧ (vp_in x1_2 7 ∧ (∀ m_19 : xM, m_19 = xu m_2 14 x1_2.toNatClampNeg (m_2 4 x1_2.toNatClampNeg) → (∀ x1_20 : Int32, x1_20 = x1_2 + 1 → again2 (x1_20, m_19)))))))) n ((0 : Int32), μ)
set_option maxHeartbeats 4000000 in
set_option maxRecDepth 100000 in
theorem cm_X7_keepOver (l : Launch) (G : xG) (ad : Nat → Nat) (hI : xI 23 ad) (n : Nat)  (μ : xM) (K : xM → Prop) (hf : wp_X7_keepOver n μ K) : Met l yX7_keepOver (Cond.code yX7_keepOver cX7_keepOver 2 none :: xw_all) (rmo 0 0) (va_Pc [.ref (ad 0)] (xPre mS 23 G ad μ)) (xQv mS 23 G ad K) 0 0 (xR 23 ad) := by
  refine x_ent (nL := 2) (own := RX7) (by decide) rfl hI (Nat.le_of_ble_eq_true rfl) ?_
  intro p e s m args below meth c H locs ls Q X hr hlk hQ M hl
  have hx := X.1.1
  have hb := X.1.2.1
  have hown := X.1.2.2.2.1
  have hts := X.1.2.2.2.2
  have hl : lv_has ls 2 [(0, .ref (ad 0))] := hl
  unfold wp_X7_keepOver at hf
  refine lv_iconst (v := (0 : Int32)) hx hb dX7_keepOver_0 (by decide) ?_
  refine lv_istore_n (lv' := [(1, .int (0 : Int32)), (0, .ref (ad 0))]) hx hb dX7_keepOver_1 rfl hl (by decide) rfl (fun ls hl => ?_)
  refine xlp_w hf (fun (s_ : Int32 × xM) => match s_ with | (x1_2, m_2) => ∀ (H : Heap) (locs : List Loc) (ls : Array Slot), xS mS 23 G ad s m_2 H locs → lv_has ls 2 [(1, .int x1_2), (0, .ref (ad 0))] → W p l e (rmo 0 0) s m args below meth c H locs 0 0 Q (F0 m 2 ls [])) ?_ _ _ _ M (lv_sub hl [0, 1] rfl)
  intro again2 hagain2 s_ hf
  obtain ⟨x1_2, m_2⟩ := s_
  try dsimp only at hf ⊢
  intro H locs ls M hl
  refine lv_iload_n hx hb dX7_keepOver_2 rfl (lv_at hl 0 rfl) ?_
  refine lv_bipush (v := (7 : Int32)) hx hb dX7_keepOver_3 (by decide) ?_
  refine lv_icmp_ge (tgt := 26) hx hb dX7_keepOver_5 (by decide) (fun c_5 => ?_) (fun c_5 => ?_)
  · replace hf := hf.1 c_5
    rw [hQ]
    exact x_vret X M hr hlk dX7_keepOver_26 hf
  · replace hf := hf.2 c_5
    refine lv_aload_n hx hb dX7_keepOver_8 rfl (lv_at hl 1 rfl) ?_
    refine x_getR (r := 14) X M rgm_0 fd_X7_50 rfl dX7_keepOver_9 ?_
    refine lv_iload_n hx hb dX7_keepOver_12 rfl (lv_at hl 0 rfl) ?_
    refine lv_aload_n hx hb dX7_keepOver_13 rfl (lv_at hl 1 rfl) ?_
    refine x_getR (r := 4) X M rgm_0 fd_X7_19 rfl dX7_keepOver_14 ?_
    refine lv_iload_n hx hb dX7_keepOver_17 rfl (lv_at hl 0 rfl) ?_
    obtain ⟨g_18, hf⟩ := hf
    refine x_ild X M rgm_4 g_18 dX7_keepOver_18 ?_
    obtain ⟨g_19, hf⟩ := hf
    refine x_ist X M rgm_14 g_19 dX7_keepOver_19 (fun m_19 H locs em_19 M => ?_)
    replace hf := hf m_19 em_19
    obtain ⟨x1_20, ex1_20⟩ : ∃ y : Int32, y = x1_2 + 1 := ⟨_, rfl⟩
    replace hf := hf x1_20 ex1_20
    refine lv_iinc (v := x1_20) (lv' := [(1, .int x1_20), (0, .ref (ad 0))]) hx hb dX7_keepOver_20 hl (k := 0) rfl (by rw [ex1_20]; rfl) (by decide) rfl (fun ls hl => ?_)
    refine lv_goto (tgt := 2) hx hb dX7_keepOver_23 (by decide) ?_
    exact hagain2 (x1_20, m_19) hf _ _ _ M (lv_sub hl [0, 1] rfl)
def wp_X7_takeOver (n : Nat)  (μ : xM) (K : xM → Prop) : Prop :=
  xlp (fun (again2 : (Int32 × xM) → Prop) => fun (s_ : Int32 × xM) => match s_ with | (x1_2, m_2) => (((7 : Int32) ≤ x1_2 → K m_2) ∧ (¬ (7 : Int32) ≤ x1_2 → (vp_in x1_2 7 ∧ (vp_in x1_2 7 ∧ (∀ m_19 : xM, m_19 = xu m_2 4 x1_2.toNatClampNeg (m_2 14 x1_2.toNatClampNeg) → (∀ x1_20 : Int32, x1_20 = x1_2 + 1 → again2 (x1_20, m_19)))))))) n ((0 : Int32), μ)
set_option maxHeartbeats 4000000 in
set_option maxRecDepth 100000 in
theorem cm_X7_takeOver (l : Launch) (G : xG) (ad : Nat → Nat) (hI : xI 23 ad) (n : Nat)  (μ : xM) (K : xM → Prop) (hf : wp_X7_takeOver n μ K) : Met l yX7_takeOver (Cond.code yX7_takeOver cX7_takeOver 2 none :: xw_all) (rmo 0 0) (va_Pc [.ref (ad 0)] (xPre mS 23 G ad μ)) (xQv mS 23 G ad K) 0 0 (xR 23 ad) := by
  refine x_ent (nL := 2) (own := RX7) (by decide) rfl hI (Nat.le_of_ble_eq_true rfl) ?_
  intro p e s m args below meth c H locs ls Q X hr hlk hQ M hl
  have hx := X.1.1
  have hb := X.1.2.1
  have hown := X.1.2.2.2.1
  have hts := X.1.2.2.2.2
  have hl : lv_has ls 2 [(0, .ref (ad 0))] := hl
  unfold wp_X7_takeOver at hf
  refine lv_iconst (v := (0 : Int32)) hx hb dX7_takeOver_0 (by decide) ?_
  refine lv_istore_n (lv' := [(1, .int (0 : Int32)), (0, .ref (ad 0))]) hx hb dX7_takeOver_1 rfl hl (by decide) rfl (fun ls hl => ?_)
  refine xlp_w hf (fun (s_ : Int32 × xM) => match s_ with | (x1_2, m_2) => ∀ (H : Heap) (locs : List Loc) (ls : Array Slot), xS mS 23 G ad s m_2 H locs → lv_has ls 2 [(1, .int x1_2), (0, .ref (ad 0))] → W p l e (rmo 0 0) s m args below meth c H locs 0 0 Q (F0 m 2 ls [])) ?_ _ _ _ M (lv_sub hl [0, 1] rfl)
  intro again2 hagain2 s_ hf
  obtain ⟨x1_2, m_2⟩ := s_
  try dsimp only at hf ⊢
  intro H locs ls M hl
  refine lv_iload_n hx hb dX7_takeOver_2 rfl (lv_at hl 0 rfl) ?_
  refine lv_bipush (v := (7 : Int32)) hx hb dX7_takeOver_3 (by decide) ?_
  refine lv_icmp_ge (tgt := 26) hx hb dX7_takeOver_5 (by decide) (fun c_5 => ?_) (fun c_5 => ?_)
  · replace hf := hf.1 c_5
    rw [hQ]
    exact x_vret X M hr hlk dX7_takeOver_26 hf
  · replace hf := hf.2 c_5
    refine lv_aload_n hx hb dX7_takeOver_8 rfl (lv_at hl 1 rfl) ?_
    refine x_getR (r := 4) X M rgm_0 fd_X7_19 rfl dX7_takeOver_9 ?_
    refine lv_iload_n hx hb dX7_takeOver_12 rfl (lv_at hl 0 rfl) ?_
    refine lv_aload_n hx hb dX7_takeOver_13 rfl (lv_at hl 1 rfl) ?_
    refine x_getR (r := 14) X M rgm_0 fd_X7_50 rfl dX7_takeOver_14 ?_
    refine lv_iload_n hx hb dX7_takeOver_17 rfl (lv_at hl 0 rfl) ?_
    obtain ⟨g_18, hf⟩ := hf
    refine x_ild X M rgm_14 g_18 dX7_takeOver_18 ?_
    obtain ⟨g_19, hf⟩ := hf
    refine x_ist X M rgm_4 g_19 dX7_takeOver_19 (fun m_19 H locs em_19 M => ?_)
    replace hf := hf m_19 em_19
    obtain ⟨x1_20, ex1_20⟩ : ∃ y : Int32, y = x1_2 + 1 := ⟨_, rfl⟩
    replace hf := hf x1_20 ex1_20
    refine lv_iinc (v := x1_20) (lv' := [(1, .int x1_20), (0, .ref (ad 0))]) hx hb dX7_takeOver_20 hl (k := 0) rfl (by rw [ex1_20]; rfl) (by decide) rfl (fun ls hl => ?_)
    refine lv_goto (tgt := 2) hx hb dX7_takeOver_23 (by decide) ?_
    exact hagain2 (x1_20, m_19) hf _ _ _ M (lv_sub hl [0, 1] rfl)
def wp_X7_nosesNow (n : Nat)  (μ : xM) (K : Int32 → Prop) : Prop :=
  xlp (fun (again4 : (Int32 × Int32) → Prop) => fun (s_ : Int32 × Int32) => match s_ with | (x2_4, x1_4) => (((μ 0 1) ≤ x2_4 → K x1_4) ∧ (¬ (μ 0 1) ≤ x2_4 → (vp_in ((3 : Int32) * x2_4) 21 ∧ (((μ 11 ((3 : Int32) * x2_4).toNatClampNeg) ≤ 0 → (∀ x1_30 : Int32, x1_30 = x1_4 + (0 : Int32) → (∀ x2_31 : Int32, x2_31 = x2_4 + 1 → again4 (x2_31, x1_30)))) ∧ (¬ (μ 11 ((3 : Int32) * x2_4).toNatClampNeg) ≤ 0 → (∀ x1_30 : Int32, x1_30 = x1_4 + (1 : Int32) → (∀ x2_31 : Int32, x2_31 = x2_4 + 1 → again4 (x2_31, x1_30))))))))) n ((0 : Int32), (0 : Int32))
set_option maxHeartbeats 4000000 in
set_option maxRecDepth 100000 in
theorem cm_X7_nosesNow (l : Launch) (G : xG) (ad : Nat → Nat) (hI : xI 23 ad) (n : Nat)  (μ : xM) (K : Int32 → Prop) (hf : wp_X7_nosesNow n μ K) : Met l yX7_nosesNow (Cond.code yX7_nosesNow cX7_nosesNow 3 (some .int) :: xw_all) (rmo 0 0) (va_Pc [.ref (ad 0)] (xPre mS 23 G ad μ)) (xQi mS 23 G ad (fun r u => K r ∧ u = μ)) 0 0 (xR 23 ad) := by
  refine x_ent (nL := 3) (own := RX7) (by decide) rfl hI (Nat.le_of_ble_eq_true rfl) ?_
  intro p e s m args below meth c H locs ls Q X hr hlk hQ M hl
  have hx := X.1.1
  have hb := X.1.2.1
  have hown := X.1.2.2.2.1
  have hts := X.1.2.2.2.2
  have hl : lv_has ls 3 [(0, .ref (ad 0))] := hl
  unfold wp_X7_nosesNow at hf
  refine lv_iconst (v := (0 : Int32)) hx hb dX7_nosesNow_0 (by decide) ?_
  refine lv_istore_n (lv' := [(1, .int (0 : Int32)), (0, .ref (ad 0))]) hx hb dX7_nosesNow_1 rfl hl (by decide) rfl (fun ls hl => ?_)
  refine lv_iconst (v := (0 : Int32)) hx hb dX7_nosesNow_2 (by decide) ?_
  refine lv_istore_n (lv' := [(2, .int (0 : Int32)), (1, .int (0 : Int32)), (0, .ref (ad 0))]) hx hb dX7_nosesNow_3 rfl hl (by decide) rfl (fun ls hl => ?_)
  refine xlp_w hf (fun (s_ : Int32 × Int32) => match s_ with | (x2_4, x1_4) => ∀ (H : Heap) (locs : List Loc) (ls : Array Slot), xS mS 23 G ad s μ H locs → lv_has ls 3 [(2, .int x2_4), (1, .int x1_4), (0, .ref (ad 0))] → W p l e (rmo 0 0) s m args below meth c H locs 0 0 Q (F0 m 4 ls [])) ?_ _ _ _ M (lv_sub hl [0, 1, 2] rfl)
  intro again4 hagain4 s_ hf
  obtain ⟨x2_4, x1_4⟩ := s_
  try dsimp only at hf ⊢
  intro H locs ls M hl
  refine lv_iload_n hx hb dX7_nosesNow_4 rfl (lv_at hl 0 rfl) ?_
  refine lv_aload_n hx hb dX7_nosesNow_5 rfl (lv_at hl 2 rfl) ?_
  refine x_getI X M rgm_0 fd_X7_108 rfl dX7_nosesNow_6 ?_
  refine lv_icmp_ge (tgt := 37) hx hb dX7_nosesNow_9 (by decide) (fun c_9 => ?_) (fun c_9 => ?_)
  · replace hf := hf.1 c_9
    refine lv_iload_n hx hb dX7_nosesNow_37 rfl (lv_at hl 1 rfl) ?_
    rw [hQ]
    exact x_iret X M hr hlk dX7_nosesNow_38 ⟨hf, rfl⟩
  · replace hf := hf.2 c_9
    refine lv_iload_n hx hb dX7_nosesNow_12 rfl (lv_at hl 1 rfl) ?_
    refine lv_aload_n hx hb dX7_nosesNow_13 rfl (lv_at hl 2 rfl) ?_
    refine x_getR (r := 11) X M rgm_0 fd_X7_41 rfl dX7_nosesNow_14 ?_
    refine lv_iconst (v := (3 : Int32)) hx hb dX7_nosesNow_17 (by decide) ?_
    refine lv_iload_n hx hb dX7_nosesNow_18 rfl (lv_at hl 0 rfl) ?_
    refine lv_imul hx hb dX7_nosesNow_19 ?_
    obtain ⟨g_20, hf⟩ := hf
    refine x_ild X M rgm_11 g_20 dX7_nosesNow_20 ?_
    refine lv_if_le (tgt := 28) hx hb dX7_nosesNow_21 (by decide) (fun c_21 => ?_) (fun c_21 => ?_)
    · replace hf := hf.1 c_21
      refine lv_iconst (v := (0 : Int32)) hx hb dX7_nosesNow_28 (by decide) ?_
      refine lv_iadd hx hb dX7_nosesNow_29 ?_
      refine lv_topi (fun x1_30 ex1_30 => ?_)
      replace hf := hf x1_30 ex1_30
      refine lv_istore_n (lv' := [(1, .int x1_30), (2, .int x2_4), (0, .ref (ad 0))]) hx hb dX7_nosesNow_30 rfl hl (by decide) rfl (fun ls hl => ?_)
      obtain ⟨x2_31, ex2_31⟩ : ∃ y : Int32, y = x2_4 + 1 := ⟨_, rfl⟩
      replace hf := hf x2_31 ex2_31
      refine lv_iinc (v := x2_31) (lv' := [(2, .int x2_31), (1, .int x1_30), (0, .ref (ad 0))]) hx hb dX7_nosesNow_31 hl (k := 1) rfl (by rw [ex2_31]; rfl) (by decide) rfl (fun ls hl => ?_)
      refine lv_goto (tgt := 4) hx hb dX7_nosesNow_34 (by decide) ?_
      exact hagain4 (x2_31, x1_30) hf _ _ _ M (lv_sub hl [0, 1, 2] rfl)
    · replace hf := hf.2 c_21
      refine lv_iconst (v := (1 : Int32)) hx hb dX7_nosesNow_24 (by decide) ?_
      refine lv_goto (tgt := 29) hx hb dX7_nosesNow_25 (by decide) ?_
      refine lv_iadd hx hb dX7_nosesNow_29 ?_
      refine lv_topi (fun x1_30 ex1_30 => ?_)
      replace hf := hf x1_30 ex1_30
      refine lv_istore_n (lv' := [(1, .int x1_30), (2, .int x2_4), (0, .ref (ad 0))]) hx hb dX7_nosesNow_30 rfl hl (by decide) rfl (fun ls hl => ?_)
      obtain ⟨x2_31, ex2_31⟩ : ∃ y : Int32, y = x2_4 + 1 := ⟨_, rfl⟩
      replace hf := hf x2_31 ex2_31
      refine lv_iinc (v := x2_31) (lv' := [(2, .int x2_31), (1, .int x1_30), (0, .ref (ad 0))]) hx hb dX7_nosesNow_31 hl (k := 1) rfl (by rw [ex2_31]; rfl) (by decide) rfl (fun ls hl => ?_)
      refine lv_goto (tgt := 4) hx hb dX7_nosesNow_34 (by decide) ?_
      exact hagain4 (x2_31, x1_30) hf _ _ _ M (lv_sub hl [0, 1, 2] rfl)
def wp_X7_bits (n : Nat) (a0 : Int32) (μ : xM) (K : Int32 → Prop) : Prop :=
  xlp (fun (again4 : (Int32 × Int32) → Prop) => fun (s_ : Int32 × Int32) => match s_ with | (x2_4, x1_4) => ((x2_4 ≤ 0 → K x1_4) ∧ (¬ x2_4 ≤ 0 → (∀ x1_13 : Int32, x1_13 = x1_4 + (x2_4 &&& (1 : Int32)) → (∀ x2_17 : Int32, x2_17 = x2_4 >>> ((1 : Int32) &&& 31) → again4 (x2_17, x1_13)))))) n (a0, (0 : Int32))
set_option maxHeartbeats 4000000 in
set_option maxRecDepth 100000 in
theorem cm_X7_bits (l : Launch) (G : xG) (ad : Nat → Nat) (hI : xI 23 ad) (n : Nat) (a0 : Int32) (μ : xM) (K : Int32 → Prop) (hf : wp_X7_bits n a0 μ K) : Met l yX7_bits (Cond.code yX7_bits cX7_bits 3 (some .int) :: xw_all) (rmo 0 0) (va_Pc [.int a0] (xPre mS 23 G ad μ)) (xQi mS 23 G ad (fun r u => K r ∧ u = μ)) 0 0 (xR 23 ad) := by
  refine x_ent (nL := 3) (own := RX7) (by decide) rfl hI (Nat.le_of_ble_eq_true rfl) ?_
  intro p e s m args below meth c H locs ls Q X hr hlk hQ M hl
  have hx := X.1.1
  have hb := X.1.2.1
  have hown := X.1.2.2.2.1
  have hts := X.1.2.2.2.2
  have hl : lv_has ls 3 [(0, .int a0)] := hl
  unfold wp_X7_bits at hf
  refine lv_iconst (v := (0 : Int32)) hx hb dX7_bits_0 (by decide) ?_
  refine lv_istore_n (lv' := [(1, .int (0 : Int32)), (0, .int a0)]) hx hb dX7_bits_1 rfl hl (by decide) rfl (fun ls hl => ?_)
  refine lv_iload_n hx hb dX7_bits_2 rfl (lv_at hl 1 rfl) ?_
  refine lv_istore_n (lv' := [(2, .int a0), (1, .int (0 : Int32)), (0, .int a0)]) hx hb dX7_bits_3 rfl hl (by decide) rfl (fun ls hl => ?_)
  refine xlp_w hf (fun (s_ : Int32 × Int32) => match s_ with | (x2_4, x1_4) => ∀ (H : Heap) (locs : List Loc) (ls : Array Slot), xS mS 23 G ad s μ H locs → lv_has ls 3 [(2, .int x2_4), (1, .int x1_4)] → W p l e (rmo 0 0) s m args below meth c H locs 0 0 Q (F0 m 4 ls [])) ?_ _ _ _ M (lv_sub hl [0, 1] rfl)
  intro again4 hagain4 s_ hf
  obtain ⟨x2_4, x1_4⟩ := s_
  try dsimp only at hf ⊢
  intro H locs ls M hl
  refine lv_iload_n hx hb dX7_bits_4 rfl (lv_at hl 0 rfl) ?_
  refine lv_if_le (tgt := 21) hx hb dX7_bits_5 (by decide) (fun c_5 => ?_) (fun c_5 => ?_)
  · replace hf := hf.1 c_5
    refine lv_iload_n hx hb dX7_bits_21 rfl (lv_at hl 1 rfl) ?_
    rw [hQ]
    exact x_iret X M hr hlk dX7_bits_22 ⟨hf, rfl⟩
  · replace hf := hf.2 c_5
    refine lv_iload_n hx hb dX7_bits_8 rfl (lv_at hl 1 rfl) ?_
    refine lv_iload_n hx hb dX7_bits_9 rfl (lv_at hl 0 rfl) ?_
    refine lv_iconst (v := (1 : Int32)) hx hb dX7_bits_10 (by decide) ?_
    refine lv_iand hx hb dX7_bits_11 ?_
    refine lv_iadd hx hb dX7_bits_12 ?_
    refine lv_topi (fun x1_13 ex1_13 => ?_)
    replace hf := hf x1_13 ex1_13
    refine lv_istore_n (lv' := [(1, .int x1_13), (2, .int x2_4)]) hx hb dX7_bits_13 rfl hl (by decide) rfl (fun ls hl => ?_)
    refine lv_iload_n hx hb dX7_bits_14 rfl (lv_at hl 1 rfl) ?_
    refine lv_iconst (v := (1 : Int32)) hx hb dX7_bits_15 (by decide) ?_
    refine lv_ishr hx hb dX7_bits_16 ?_
    refine lv_topi (fun x2_17 ex2_17 => ?_)
    replace hf := hf x2_17 ex2_17
    refine lv_istore_n (lv' := [(2, .int x2_17), (1, .int x1_13)]) hx hb dX7_bits_17 rfl hl (by decide) rfl (fun ls hl => ?_)
    refine lv_goto (tgt := 4) hx hb dX7_bits_18 (by decide) ?_
    exact hagain4 (x2_17, x1_13) hf _ _ _ M (lv_sub hl [0, 1] rfl)
def wp_X7_umbrellas (n : Nat) (a1 : Int32) (a2 : Int32) (μ : xM) (K : Int32 → xM → Prop) : Prop :=
  wp_X7_in n (a1.toInt64) (0 : Int64) (3 : Int64) μ (fun r_6 : Int32 => ((r_6 = 0 → K ((-2) : Int32) μ) ∧ (¬ r_6 = 0 → wp_X7_in n (a2.toInt64) (0 : Int64) (1 : Int64) μ (fun r_16 : Int32 => ((¬ r_16 = 0 → ((¬ (μ 0 1) = 0 → wp_X7_keepOver n μ (fun m_36 : xM => xjn (fun (s_ : Int32 × Int32 × xM) => match s_ with | (x4_135, x3_135, m_135) => wp_X7_takeOver n m_135 (fun m_136 : xM => ((¬ a2 = 0 → K x3_135 m_136) ∧ (a2 = 0 → K x4_135 m_136)))) (fun J135 : (Int32 × Int32 × xM) → Prop => xlp (fun (again47 : (Int32 × Int32 × Int32 × xM) → Prop) => fun (s_ : Int32 × Int32 × Int32 × xM) => match s_ with | (x5_47, x4_47, x3_47, m_47) => ((((1 : Int32) <<< ((m_47 0 1) &&& 31)) ≤ x5_47 → J135 (x4_47, x3_47, m_47)) ∧ (¬ ((1 : Int32) <<< ((m_47 0 1) &&& 31)) ≤ x5_47 → wp_X7_bits n x5_47 m_47 (fun r_60 : Int32 => wp_X7_lesser n a1 (m_47 0 1) m_47 (fun r_68 : Int32 => ((¬ r_60 = r_68 → (∀ x5_129 : Int32, x5_129 = x5_47 + 1 → again47 (x5_129, x4_47, x3_47, m_47))) ∧ (r_60 = r_68 → xjn (fun (m_106 : xM) => wp_X7_goTo n (60 : Int32) m_106 (fun m_109 : xM => wp_X7_nosesNow n m_109 (fun r_113 : Int32 => ((r_113 ≤ x3_47 → (∀ x5_129 : Int32, x5_129 = x5_47 + 1 → again47 (x5_129, x4_47, x3_47, m_109))) ∧ (¬ r_113 ≤ x3_47 → wp_X7_nosesNow n m_109 (fun r_121 : Int32 => (∀ x5_129 : Int32, x5_129 = x5_47 + 1 → again47 (x5_129, x5_47, r_121, m_109)))))))) (fun J106 : xM → Prop => xlp (fun (again77 : (Int32 × xM) → Prop) => fun (s_ : Int32 × xM) => match s_ with | (x6_77, m_77) => (((m_77 0 1) ≤ x6_77 → J106 m_77) ∧ (¬ (m_77 0 1) ≤ x6_77 → (vp_in x6_77 7 ∧ (∀ m_99 : xM, m_99 = xu m_77 4 x6_77.toNatClampNeg ((x5_47 >>> (x6_77 &&& 31)) &&& (1 : Int32)) → (∀ x6_100 : Int32, x6_100 = x6_77 + 1 → again77 (x6_100, m_99))))))) n ((0 : Int32), m_47))))))))) n ((0 : Int32), (0 : Int32), ((-1) : Int32), m_36)))) ∧ ((μ 0 1) = 0 → K ((-3) : Int32) μ))) ∧ (r_16 = 0 → K ((-2) : Int32) μ))))))
set_option maxHeartbeats 4000000 in
set_option maxRecDepth 100000 in
theorem cm_X7_umbrellas (l : Launch) (G : xG) (ad : Nat → Nat) (hI : xI 23 ad) (n : Nat) (a1 : Int32) (a2 : Int32) (μ : xM) (K : Int32 → xM → Prop) (hf : wp_X7_umbrellas n a1 a2 μ K) : Met l yX7_umbrellas (Cond.code yX7_umbrellas cX7_umbrellas 7 (some .int) :: xw_all) (rmo 4 94) (va_Pc [.ref (ad 0), .int a1, .int a2] (xPre mS 23 G ad μ)) (xQi mS 23 G ad K) 0 0 (xR 23 ad) := by
  refine x_ent (nL := 7) (own := RX7) (by decide) rfl hI (Nat.le_of_ble_eq_true rfl) ?_
  intro p e s m args below meth c H locs ls Q X hr hlk hQ M hl
  have hx := X.1.1
  have hb := X.1.2.1
  have hown := X.1.2.2.2.1
  have hts := X.1.2.2.2.2
  have hl : lv_has ls 7 [(0, .ref (ad 0)), (1, .int a1), (2, .int a2)] := hl
  unfold wp_X7_umbrellas at hf
  refine lv_iload_n hx hb dX7_umbrellas_0 rfl (lv_at hl 1 rfl) ?_
  refine lv_i2l hx hb dX7_umbrellas_1 rfl ?_
  refine lv_lconst (v := (0 : Int64)) hx hb dX7_umbrellas_2 (by decide) ?_
  refine lv_ldc2 (v := (3 : Int64)) hx hb hown (hts _ kc_X7_147) dX7_umbrellas_3 ?_
  refine x_ciP (x_rS (As := [.long (a1.toInt64), .long (0 : Int64), .long (3 : Int64)]) (rest := []) X M (cm_X7_in l G ad hI n (a1.toInt64) (0 : Int64) (3 : Int64) μ _ hf) mc_X7_in ms_X7_in lk_X7_97 mn_X7_in hl ⟨⟨Nat.le_of_ble_eq_true rfl, Nat.le_of_ble_eq_true rfl⟩, rfl, Nat.le_of_ble_eq_true rfl, Nat.zero_le _, Nat.zero_le _⟩ rfl dX7_umbrellas_6) M (fun r_6 H locs hf M => ?_)
  try dsimp only at hf
  refine lv_if_eq (tgt := 22) hx hb dX7_umbrellas_9 (by decide) (fun c_9 => ?_) (fun c_9 => ?_)
  · replace hf := hf.1 c_9
    refine lv_bipush (v := ((-2) : Int32)) hx hb dX7_umbrellas_22 (by decide) ?_
    rw [hQ]
    exact x_iret X M hr hlk dX7_umbrellas_24 hf
  · replace hf := hf.2 c_9
    refine lv_iload_n hx hb dX7_umbrellas_12 rfl (lv_at hl 2 rfl) ?_
    refine lv_i2l hx hb dX7_umbrellas_13 rfl ?_
    refine lv_lconst (v := (0 : Int64)) hx hb dX7_umbrellas_14 (by decide) ?_
    refine lv_lconst (v := (1 : Int64)) hx hb dX7_umbrellas_15 (by decide) ?_
    refine x_ciP (x_rS (As := [.long (a2.toInt64), .long (0 : Int64), .long (1 : Int64)]) (rest := []) X M (cm_X7_in l G ad hI n (a2.toInt64) (0 : Int64) (1 : Int64) μ _ hf) mc_X7_in ms_X7_in lk_X7_97 mn_X7_in hl ⟨⟨Nat.le_of_ble_eq_true rfl, Nat.le_of_ble_eq_true rfl⟩, rfl, Nat.le_of_ble_eq_true rfl, Nat.zero_le _, Nat.zero_le _⟩ rfl dX7_umbrellas_16) M (fun r_16 H locs hf M => ?_)
    try dsimp only at hf
    refine lv_if_ne (tgt := 25) hx hb dX7_umbrellas_19 (by decide) (fun c_19 => ?_) (fun c_19 => ?_)
    · replace hf := hf.1 c_19
      refine lv_aload_n hx hb dX7_umbrellas_25 rfl (lv_at hl 0 rfl) ?_
      refine x_getI X M rgm_0 fd_X7_108 rfl dX7_umbrellas_26 ?_
      refine lv_if_ne (tgt := 35) hx hb dX7_umbrellas_29 (by decide) (fun c_29 => ?_) (fun c_29 => ?_)
      · replace hf := hf.1 c_29
        refine lv_aload_n hx hb dX7_umbrellas_35 rfl (lv_at hl 0 rfl) ?_
        refine x_cv (x_rV (As := []) (rest := []) X M (cm_X7_keepOver l G ad hI n μ _ hf) mc_X7_keepOver mv_X7_keepOver lk_X7_196 mn_X7_keepOver rgm_0 rfl hl ⟨⟨Nat.le_of_ble_eq_true rfl, Nat.le_of_ble_eq_true rfl⟩, rfl, Nat.le_of_ble_eq_true rfl, Nat.zero_le _, Nat.zero_le _⟩ rfl dX7_umbrellas_36) M (fun m_36 H locs hf M => ?_)
        try dsimp only at hf
        refine lv_iconst (v := ((-1) : Int32)) hx hb dX7_umbrellas_39 (by decide) ?_
        refine lv_istore_n (lv' := [(3, .int ((-1) : Int32)), (0, .ref (ad 0)), (1, .int a1), (2, .int a2)]) hx hb dX7_umbrellas_40 rfl hl (by decide) rfl (fun ls hl => ?_)
        refine lv_iconst (v := (0 : Int32)) hx hb dX7_umbrellas_41 (by decide) ?_
        refine lv_istore (lv' := [(4, .int (0 : Int32)), (3, .int ((-1) : Int32)), (0, .ref (ad 0)), (1, .int a1), (2, .int a2)]) hx hb dX7_umbrellas_42 hl (by decide) rfl (fun ls hl => ?_)
        refine lv_iconst (v := (0 : Int32)) hx hb dX7_umbrellas_44 (by decide) ?_
        refine lv_istore (lv' := [(5, .int (0 : Int32)), (4, .int (0 : Int32)), (3, .int ((-1) : Int32)), (0, .ref (ad 0)), (1, .int a1), (2, .int a2)]) hx hb dX7_umbrellas_45 hl (by decide) rfl (fun ls hl => ?_)
        refine xjn_w hf (fun (s_ : Int32 × Int32 × xM) => match s_ with | (x4_135, x3_135, m_135) => ∀ (H : Heap) (locs : List Loc) (ls : Array Slot), xS mS 23 G ad s m_135 H locs → lv_has ls 7 [(4, .int x4_135), (3, .int x3_135), (0, .ref (ad 0)), (2, .int a2)] → W p l e (rmo 4 94) s m args below meth c H locs 0 0 Q (F0 m 135 ls [])) ?_ ?_
        · intro s_ hf
          obtain ⟨x4_135, x3_135, m_135⟩ := s_
          try dsimp only at hf ⊢
          intro H locs ls M hl
          refine lv_aload_n hx hb dX7_umbrellas_135 rfl (lv_at hl 2 rfl) ?_
          refine x_cv (x_rV (As := []) (rest := []) X M (cm_X7_takeOver l G ad hI n m_135 _ hf) mc_X7_takeOver mv_X7_takeOver lk_X7_205 mn_X7_takeOver rgm_0 rfl hl ⟨⟨Nat.le_of_ble_eq_true rfl, Nat.le_of_ble_eq_true rfl⟩, rfl, Nat.le_of_ble_eq_true rfl, Nat.zero_le _, Nat.zero_le _⟩ rfl dX7_umbrellas_136) M (fun m_136 H locs hf M => ?_)
          try dsimp only at hf
          refine lv_iload_n hx hb dX7_umbrellas_139 rfl (lv_at hl 3 rfl) ?_
          refine lv_if_ne (tgt := 148) hx hb dX7_umbrellas_140 (by decide) (fun c_140 => ?_) (fun c_140 => ?_)
          · replace hf := hf.1 c_140
            refine lv_iload_n hx hb dX7_umbrellas_148 rfl (lv_at hl 1 rfl) ?_
            rw [hQ]
            exact x_iret X M hr hlk dX7_umbrellas_149 hf
          · replace hf := hf.2 c_140
            refine lv_iload hx hb dX7_umbrellas_143 (lv_at hl 0 rfl) ?_
            refine lv_goto (tgt := 149) hx hb dX7_umbrellas_145 (by decide) ?_
            rw [hQ]
            exact x_iret X M hr hlk dX7_umbrellas_149 hf
        · intro J135 hJ135 hf
          refine xlp_w hf (fun (s_ : Int32 × Int32 × Int32 × xM) => match s_ with | (x5_47, x4_47, x3_47, m_47) => ∀ (H : Heap) (locs : List Loc) (ls : Array Slot), xS mS 23 G ad s m_47 H locs → lv_has ls 7 [(5, .int x5_47), (4, .int x4_47), (3, .int x3_47), (0, .ref (ad 0)), (1, .int a1), (2, .int a2)] → W p l e (rmo 4 94) s m args below meth c H locs 0 0 Q (F0 m 47 ls [])) ?_ _ _ _ M (lv_sub hl [0, 1, 2, 3, 4, 5] rfl)
          intro again47 hagain47 s_ hf
          obtain ⟨x5_47, x4_47, x3_47, m_47⟩ := s_
          try dsimp only at hf ⊢
          intro H locs ls M hl
          refine lv_iload hx hb dX7_umbrellas_47 (lv_at hl 0 rfl) ?_
          refine lv_iconst (v := (1 : Int32)) hx hb dX7_umbrellas_49 (by decide) ?_
          refine lv_aload_n hx hb dX7_umbrellas_50 rfl (lv_at hl 3 rfl) ?_
          refine x_getI X M rgm_0 fd_X7_108 rfl dX7_umbrellas_51 ?_
          refine lv_ishl hx hb dX7_umbrellas_54 ?_
          refine lv_icmp_ge (tgt := 135) hx hb dX7_umbrellas_55 (by decide) (fun c_55 => ?_) (fun c_55 => ?_)
          · replace hf := hf.1 c_55
            exact hJ135 (x4_47, x3_47, m_47) hf _ _ _ M (lv_sub hl [1, 2, 3, 5] rfl)
          · replace hf := hf.2 c_55
            refine lv_iload hx hb dX7_umbrellas_58 (lv_at hl 0 rfl) ?_
            refine x_ciP (x_rS (As := [.int x5_47]) (rest := []) X M (cm_X7_bits l G ad hI n x5_47 m_47 _ hf) mc_X7_bits ms_X7_bits lk_X7_199 mn_X7_bits hl ⟨⟨Nat.le_of_ble_eq_true rfl, Nat.le_of_ble_eq_true rfl⟩, rfl, Nat.le_of_ble_eq_true rfl, Nat.zero_le _, Nat.zero_le _⟩ rfl dX7_umbrellas_60) M (fun r_60 H locs hf M => ?_)
            try dsimp only at hf
            refine lv_iload_n hx hb dX7_umbrellas_63 rfl (lv_at hl 4 rfl) ?_
            refine lv_aload_n hx hb dX7_umbrellas_64 rfl (lv_at hl 3 rfl) ?_
            refine x_getI X M rgm_0 fd_X7_108 rfl dX7_umbrellas_65 ?_
            refine x_ciP (x_rS (As := [.int a1, .int (m_47 0 1)]) (rest := [.int r_60]) X M (cm_X7_lesser l G ad hI n a1 (m_47 0 1) m_47 _ hf) mc_X7_lesser ms_X7_lesser lk_X7_157 mn_X7_lesser hl ⟨⟨Nat.le_of_ble_eq_true rfl, Nat.le_of_ble_eq_true rfl⟩, rfl, Nat.le_of_ble_eq_true rfl, Nat.zero_le _, Nat.zero_le _⟩ rfl dX7_umbrellas_68) M (fun r_68 H locs hf M => ?_)
            try dsimp only at hf
            refine lv_icmp_ne (tgt := 129) hx hb dX7_umbrellas_71 (by decide) (fun c_71 => ?_) (fun c_71 => ?_)
            · replace hf := hf.1 c_71
              obtain ⟨x5_129, ex5_129⟩ : ∃ y : Int32, y = x5_47 + 1 := ⟨_, rfl⟩
              replace hf := hf x5_129 ex5_129
              refine lv_iinc (v := x5_129) (lv' := [(5, .int x5_129), (4, .int x4_47), (3, .int x3_47), (0, .ref (ad 0)), (1, .int a1), (2, .int a2)]) hx hb dX7_umbrellas_129 hl (k := 0) rfl (by rw [ex5_129]; rfl) (by decide) rfl (fun ls hl => ?_)
              refine lv_goto (tgt := 47) hx hb dX7_umbrellas_132 (by decide) ?_
              exact hagain47 (x5_129, x4_47, x3_47, m_47) hf _ _ _ M (lv_sub hl [0, 1, 2, 3, 4, 5] rfl)
            · replace hf := hf.2 c_71
              refine lv_iconst (v := (0 : Int32)) hx hb dX7_umbrellas_74 (by decide) ?_
              refine lv_istore (lv' := [(6, .int (0 : Int32)), (5, .int x5_47), (4, .int x4_47), (3, .int x3_47), (0, .ref (ad 0)), (1, .int a1), (2, .int a2)]) hx hb dX7_umbrellas_75 hl (by decide) rfl (fun ls hl => ?_)
              refine xjn_w hf (fun (m_106 : xM) => ∀ (H : Heap) (locs : List Loc) (ls : Array Slot), xS mS 23 G ad s m_106 H locs → lv_has ls 7 [(5, .int x5_47), (4, .int x4_47), (3, .int x3_47), (0, .ref (ad 0)), (1, .int a1), (2, .int a2)] → W p l e (rmo 4 94) s m args below meth c H locs 0 0 Q (F0 m 106 ls [])) ?_ ?_
              · intro m_106 hf
                intro H locs ls M hl
                refine lv_aload_n hx hb dX7_umbrellas_106 rfl (lv_at hl 3 rfl) ?_
                refine lv_bipush (v := (60 : Int32)) hx hb dX7_umbrellas_107 (by decide) ?_
                refine x_cv (x_rV (As := [.int (60 : Int32)]) (rest := []) X M (cm_X7_goTo l G ad hI n (60 : Int32) m_106 _ hf) mc_X7_goTo mv_X7_goTo lk_X7_183 mn_X7_goTo rgm_0 rfl hl ⟨⟨Nat.le_of_ble_eq_true rfl, Nat.le_of_ble_eq_true rfl⟩, rfl, Nat.le_of_ble_eq_true rfl, Nat.zero_le _, Nat.zero_le _⟩ rfl dX7_umbrellas_109) M (fun m_109 H locs hf M => ?_)
                try dsimp only at hf
                refine lv_aload_n hx hb dX7_umbrellas_112 rfl (lv_at hl 3 rfl) ?_
                refine x_ciP (x_rV (As := []) (rest := []) X M (cm_X7_nosesNow l G ad hI n m_109 _ hf) mc_X7_nosesNow mv_X7_nosesNow lk_X7_202 mn_X7_nosesNow rgm_0 rfl hl ⟨⟨Nat.le_of_ble_eq_true rfl, Nat.le_of_ble_eq_true rfl⟩, rfl, Nat.le_of_ble_eq_true rfl, Nat.zero_le _, Nat.zero_le _⟩ rfl dX7_umbrellas_113) M (fun r_113 H locs hf M => ?_)
                try dsimp only at hf
                refine lv_iload_n hx hb dX7_umbrellas_116 rfl (lv_at hl 2 rfl) ?_
                refine lv_icmp_le (tgt := 129) hx hb dX7_umbrellas_117 (by decide) (fun c_117 => ?_) (fun c_117 => ?_)
                · replace hf := hf.1 c_117
                  obtain ⟨x5_129, ex5_129⟩ : ∃ y : Int32, y = x5_47 + 1 := ⟨_, rfl⟩
                  replace hf := hf x5_129 ex5_129
                  refine lv_iinc (v := x5_129) (lv' := [(5, .int x5_129), (4, .int x4_47), (3, .int x3_47), (0, .ref (ad 0)), (1, .int a1), (2, .int a2)]) hx hb dX7_umbrellas_129 hl (k := 0) rfl (by rw [ex5_129]; rfl) (by decide) rfl (fun ls hl => ?_)
                  refine lv_goto (tgt := 47) hx hb dX7_umbrellas_132 (by decide) ?_
                  exact hagain47 (x5_129, x4_47, x3_47, m_109) hf _ _ _ M (lv_sub hl [0, 1, 2, 3, 4, 5] rfl)
                · replace hf := hf.2 c_117
                  refine lv_aload_n hx hb dX7_umbrellas_120 rfl (lv_at hl 3 rfl) ?_
                  refine x_ciP (x_rV (As := []) (rest := []) X M (cm_X7_nosesNow l G ad hI n m_109 _ hf) mc_X7_nosesNow mv_X7_nosesNow lk_X7_202 mn_X7_nosesNow rgm_0 rfl hl ⟨⟨Nat.le_of_ble_eq_true rfl, Nat.le_of_ble_eq_true rfl⟩, rfl, Nat.le_of_ble_eq_true rfl, Nat.zero_le _, Nat.zero_le _⟩ rfl dX7_umbrellas_121) M (fun r_121 H locs hf M => ?_)
                  try dsimp only at hf
                  refine lv_istore_n (lv' := [(3, .int r_121), (5, .int x5_47), (4, .int x4_47), (0, .ref (ad 0)), (1, .int a1), (2, .int a2)]) hx hb dX7_umbrellas_124 rfl hl (by decide) rfl (fun ls hl => ?_)
                  refine lv_iload hx hb dX7_umbrellas_125 (lv_at hl 1 rfl) ?_
                  refine lv_istore (lv' := [(4, .int x5_47), (3, .int r_121), (5, .int x5_47), (0, .ref (ad 0)), (1, .int a1), (2, .int a2)]) hx hb dX7_umbrellas_127 hl (by decide) rfl (fun ls hl => ?_)
                  obtain ⟨x5_129, ex5_129⟩ : ∃ y : Int32, y = x5_47 + 1 := ⟨_, rfl⟩
                  replace hf := hf x5_129 ex5_129
                  refine lv_iinc (v := x5_129) (lv' := [(5, .int x5_129), (4, .int x5_47), (3, .int r_121), (0, .ref (ad 0)), (1, .int a1), (2, .int a2)]) hx hb dX7_umbrellas_129 hl (k := 2) rfl (by rw [ex5_129]; rfl) (by decide) rfl (fun ls hl => ?_)
                  refine lv_goto (tgt := 47) hx hb dX7_umbrellas_132 (by decide) ?_
                  exact hagain47 (x5_129, x5_47, r_121, m_109) hf _ _ _ M (lv_sub hl [0, 1, 2, 3, 4, 5] rfl)
              · intro J106 hJ106 hf
                refine xlp_w hf (fun (s_ : Int32 × xM) => match s_ with | (x6_77, m_77) => ∀ (H : Heap) (locs : List Loc) (ls : Array Slot), xS mS 23 G ad s m_77 H locs → lv_has ls 7 [(6, .int x6_77), (5, .int x5_47), (4, .int x4_47), (3, .int x3_47), (0, .ref (ad 0)), (1, .int a1), (2, .int a2)] → W p l e (rmo 4 94) s m args below meth c H locs 0 0 Q (F0 m 77 ls [])) ?_ _ _ _ M (lv_sub hl [0, 1, 2, 3, 4, 5, 6] rfl)
                intro again77 hagain77 s_ hf
                obtain ⟨x6_77, m_77⟩ := s_
                try dsimp only at hf ⊢
                intro H locs ls M hl
                refine lv_iload hx hb dX7_umbrellas_77 (lv_at hl 0 rfl) ?_
                refine lv_aload_n hx hb dX7_umbrellas_79 rfl (lv_at hl 4 rfl) ?_
                refine x_getI X M rgm_0 fd_X7_108 rfl dX7_umbrellas_80 ?_
                refine lv_icmp_ge (tgt := 106) hx hb dX7_umbrellas_83 (by decide) (fun c_83 => ?_) (fun c_83 => ?_)
                · replace hf := hf.1 c_83
                  exact hJ106 m_77 hf _ _ _ M (lv_sub hl [1, 2, 3, 4, 5, 6] rfl)
                · replace hf := hf.2 c_83
                  refine lv_aload_n hx hb dX7_umbrellas_86 rfl (lv_at hl 4 rfl) ?_
                  refine x_getR (r := 4) X M rgm_0 fd_X7_19 rfl dX7_umbrellas_87 ?_
                  refine lv_iload hx hb dX7_umbrellas_90 (lv_at hl 0 rfl) ?_
                  refine lv_iload hx hb dX7_umbrellas_92 (lv_at hl 1 rfl) ?_
                  refine lv_iload hx hb dX7_umbrellas_94 (lv_at hl 0 rfl) ?_
                  refine lv_ishr hx hb dX7_umbrellas_96 ?_
                  refine lv_iconst (v := (1 : Int32)) hx hb dX7_umbrellas_97 (by decide) ?_
                  refine lv_iand hx hb dX7_umbrellas_98 ?_
                  obtain ⟨g_99, hf⟩ := hf
                  refine x_ist X M rgm_4 g_99 dX7_umbrellas_99 (fun m_99 H locs em_99 M => ?_)
                  replace hf := hf m_99 em_99
                  obtain ⟨x6_100, ex6_100⟩ : ∃ y : Int32, y = x6_77 + 1 := ⟨_, rfl⟩
                  replace hf := hf x6_100 ex6_100
                  refine lv_iinc (v := x6_100) (lv' := [(6, .int x6_100), (5, .int x5_47), (4, .int x4_47), (3, .int x3_47), (0, .ref (ad 0)), (1, .int a1), (2, .int a2)]) hx hb dX7_umbrellas_100 hl (k := 0) rfl (by rw [ex6_100]; rfl) (by decide) rfl (fun ls hl => ?_)
                  refine lv_goto (tgt := 77) hx hb dX7_umbrellas_103 (by decide) ?_
                  exact hagain77 (x6_100, m_99) hf _ _ _ M (lv_sub hl [0, 1, 2, 3, 4, 5, 6] rfl)
      · replace hf := hf.2 c_29
        refine lv_bipush (v := ((-3) : Int32)) hx hb dX7_umbrellas_32 (by decide) ?_
        rw [hQ]
        exact x_iret X M hr hlk dX7_umbrellas_34 hf
    · replace hf := hf.2 c_19
      refine lv_bipush (v := ((-2) : Int32)) hx hb dX7_umbrellas_22 (by decide) ?_
      rw [hQ]
      exact x_iret X M hr hlk dX7_umbrellas_24 hf
def wp_X7_firstNose (n : Nat)  (μ : xM) (K : Int32 → xM → Prop) : Prop :=
  wp_X7_begin n μ (fun m_1 : xM => xlp (fun (again6 : (Int32 × xM) → Prop) => fun (s_ : Int32 × xM) => match s_ with | (x1_6, m_6) => (((60 : Int32) ≤ x1_6 → K (61 : Int32) m_6) ∧ (¬ (60 : Int32) ≤ x1_6 → wp_X7_goDay n x1_6 m_6 (fun m_14 : xM => wp_X7_nosesNow n m_14 (fun r_18 : Int32 => (((m_14 0 1) ≤ r_18 → (∀ x1_32 : Int32, x1_32 = x1_6 + 1 → again6 (x1_32, m_14))) ∧ (¬ (m_14 0 1) ≤ r_18 → K (x1_6 + (1 : Int32)) m_14))))))) n ((0 : Int32), m_1))
set_option maxHeartbeats 4000000 in
set_option maxRecDepth 100000 in
theorem cm_X7_firstNose (l : Launch) (G : xG) (ad : Nat → Nat) (hI : xI 23 ad) (n : Nat)  (μ : xM) (K : Int32 → xM → Prop) (hf : wp_X7_firstNose n μ K) : Met l yX7_firstNose (Cond.code yX7_firstNose cX7_firstNose 2 (some .int) :: xw_all) (rmo 3 72) (va_Pc [.ref (ad 0)] (xPre mS 23 G ad μ)) (xQi mS 23 G ad K) 0 0 (xR 23 ad) := by
  refine x_ent (nL := 2) (own := RX7) (by decide) rfl hI (Nat.le_of_ble_eq_true rfl) ?_
  intro p e s m args below meth c H locs ls Q X hr hlk hQ M hl
  have hx := X.1.1
  have hb := X.1.2.1
  have hown := X.1.2.2.2.1
  have hts := X.1.2.2.2.2
  have hl : lv_has ls 2 [(0, .ref (ad 0))] := hl
  unfold wp_X7_firstNose at hf
  refine lv_aload_n hx hb dX7_firstNose_0 rfl (lv_at hl 0 rfl) ?_
  refine x_cv (x_rV (As := []) (rest := []) X M (cm_X7_begin l G ad hI n μ _ hf) mc_X7_begin mv_X7_begin lk_X7_171 mn_X7_begin rgm_0 rfl hl ⟨⟨Nat.le_of_ble_eq_true rfl, Nat.le_of_ble_eq_true rfl⟩, rfl, Nat.le_of_ble_eq_true rfl, Nat.zero_le _, Nat.zero_le _⟩ rfl dX7_firstNose_1) M (fun m_1 H locs hf M => ?_)
  try dsimp only at hf
  refine lv_iconst (v := (0 : Int32)) hx hb dX7_firstNose_4 (by decide) ?_
  refine lv_istore_n (lv' := [(1, .int (0 : Int32)), (0, .ref (ad 0))]) hx hb dX7_firstNose_5 rfl hl (by decide) rfl (fun ls hl => ?_)
  refine xlp_w hf (fun (s_ : Int32 × xM) => match s_ with | (x1_6, m_6) => ∀ (H : Heap) (locs : List Loc) (ls : Array Slot), xS mS 23 G ad s m_6 H locs → lv_has ls 2 [(1, .int x1_6), (0, .ref (ad 0))] → W p l e (rmo 3 72) s m args below meth c H locs 0 0 Q (F0 m 6 ls [])) ?_ _ _ _ M (lv_sub hl [0, 1] rfl)
  intro again6 hagain6 s_ hf
  obtain ⟨x1_6, m_6⟩ := s_
  try dsimp only at hf ⊢
  intro H locs ls M hl
  refine lv_iload_n hx hb dX7_firstNose_6 rfl (lv_at hl 0 rfl) ?_
  refine lv_bipush (v := (60 : Int32)) hx hb dX7_firstNose_7 (by decide) ?_
  refine lv_icmp_ge (tgt := 38) hx hb dX7_firstNose_9 (by decide) (fun c_9 => ?_) (fun c_9 => ?_)
  · replace hf := hf.1 c_9
    refine lv_bipush (v := (61 : Int32)) hx hb dX7_firstNose_38 (by decide) ?_
    rw [hQ]
    exact x_iret X M hr hlk dX7_firstNose_40 hf
  · replace hf := hf.2 c_9
    refine lv_aload_n hx hb dX7_firstNose_12 rfl (lv_at hl 1 rfl) ?_
    refine lv_iload_n hx hb dX7_firstNose_13 rfl (lv_at hl 0 rfl) ?_
    refine x_cv (x_rV (As := [.int x1_6]) (rest := []) X M (cm_X7_goDay l G ad hI n x1_6 m_6 _ hf) mc_X7_goDay mv_X7_goDay lk_X7_174 mn_X7_goDay rgm_0 rfl hl ⟨⟨Nat.le_of_ble_eq_true rfl, Nat.le_of_ble_eq_true rfl⟩, rfl, Nat.le_of_ble_eq_true rfl, Nat.zero_le _, Nat.zero_le _⟩ rfl dX7_firstNose_14) M (fun m_14 H locs hf M => ?_)
    try dsimp only at hf
    refine lv_aload_n hx hb dX7_firstNose_17 rfl (lv_at hl 1 rfl) ?_
    refine x_ciP (x_rV (As := []) (rest := []) X M (cm_X7_nosesNow l G ad hI n m_14 _ hf) mc_X7_nosesNow mv_X7_nosesNow lk_X7_202 mn_X7_nosesNow rgm_0 rfl hl ⟨⟨Nat.le_of_ble_eq_true rfl, Nat.le_of_ble_eq_true rfl⟩, rfl, Nat.le_of_ble_eq_true rfl, Nat.zero_le _, Nat.zero_le _⟩ rfl dX7_firstNose_18) M (fun r_18 H locs hf M => ?_)
    try dsimp only at hf
    refine lv_aload_n hx hb dX7_firstNose_21 rfl (lv_at hl 1 rfl) ?_
    refine x_getI X M rgm_0 fd_X7_108 rfl dX7_firstNose_22 ?_
    refine lv_icmp_ge (tgt := 32) hx hb dX7_firstNose_25 (by decide) (fun c_25 => ?_) (fun c_25 => ?_)
    · replace hf := hf.1 c_25
      obtain ⟨x1_32, ex1_32⟩ : ∃ y : Int32, y = x1_6 + 1 := ⟨_, rfl⟩
      replace hf := hf x1_32 ex1_32
      refine lv_iinc (v := x1_32) (lv' := [(1, .int x1_32), (0, .ref (ad 0))]) hx hb dX7_firstNose_32 hl (k := 0) rfl (by rw [ex1_32]; rfl) (by decide) rfl (fun ls hl => ?_)
      refine lv_goto (tgt := 6) hx hb dX7_firstNose_35 (by decide) ?_
      exact hagain6 (x1_32, m_14) hf _ _ _ M (lv_sub hl [0, 1] rfl)
    · replace hf := hf.2 c_25
      refine lv_iload_n hx hb dX7_firstNose_28 rfl (lv_at hl 0 rfl) ?_
      refine lv_iconst (v := (1 : Int32)) hx hb dX7_firstNose_29 (by decide) ?_
      refine lv_iadd hx hb dX7_firstNose_30 ?_
      rw [hQ]
      exact x_iret X M hr hlk dX7_firstNose_31 hf
def wp_X7_turn (n : Nat) (a1 : Int32) (μ : xM) (K : Int32 → xM → Prop) : Prop :=
  wp_X7_in n (a1.toInt64) (0 : Int64) (1 : Int64) μ (fun r_4 : Int32 => ((¬ r_4 = 0 → ((¬ (μ 0 1) = 0 → xlp (fun (again30 : (Int32 × Int32 × Int32 × xM) → Prop) => fun (s_ : Int32 × Int32 × Int32 × xM) => match s_ with | (x4_30, x3_30, x2_30, m_30) => (((m_30 0 1) ≤ x4_30 → ((¬ a1 = 0 → K x3_30 m_30) ∧ (a1 = 0 → K x2_30 m_30))) ∧ (¬ (m_30 0 1) ≤ x4_30 → (vp_in x4_30 7 ∧ (∀ x5_46 : Int32, x5_46 = m_30 3 x4_30.toNatClampNeg → xlp (fun (again51 : (Int32 × Int32 × Int32 × xM) → Prop) => fun (s_ : Int32 × Int32 × Int32 × xM) => match s_ with | (x6_51, x3_51, x2_51, m_51) => (((4 : Int32) ≤ x6_51 → (vp_in x4_30 7 ∧ (∀ m_104 : xM, m_104 = xu m_51 3 x4_30.toNatClampNeg x5_46 → (∀ x4_105 : Int32, x4_105 = x4_30 + 1 → again30 (x4_105, x3_51, x2_51, m_104))))) ∧ (¬ (4 : Int32) ≤ x6_51 → (vp_in x4_30 7 ∧ (∀ m_65 : xM, m_65 = xu m_51 3 x4_30.toNatClampNeg x6_51 → wp_X7_firstNose n m_65 (fun (r_67 : Int32) (m_67 : xM) => ((r_67 ≤ x3_51 → (∀ x6_90 : Int32, x6_90 = x6_51 + 1 → again51 (x6_90, x3_51, x2_51, m_67))) ∧ (¬ r_67 ≤ x3_51 → (∀ x2_86 : Int32, x2_86 = ((10 : Int32) * x4_30) + x6_51 → (∀ x6_90 : Int32, x6_90 = x6_51 + 1 → again51 (x6_90, r_67, x2_86, m_67))))))))))) n ((0 : Int32), x3_30, x2_30, m_30)))))) n ((0 : Int32), ((-1) : Int32), (0 : Int32), μ)) ∧ ((μ 0 1) = 0 → K ((-3) : Int32) μ))) ∧ (r_4 = 0 → K ((-2) : Int32) μ)))
set_option maxHeartbeats 4000000 in
set_option maxRecDepth 100000 in
theorem cm_X7_turn (l : Launch) (G : xG) (ad : Nat → Nat) (hI : xI 23 ad) (n : Nat) (a1 : Int32) (μ : xM) (K : Int32 → xM → Prop) (hf : wp_X7_turn n a1 μ K) : Met l yX7_turn (Cond.code yX7_turn cX7_turn 8 (some .int) :: xw_all) (rmo 4 93) (va_Pc [.ref (ad 0), .int a1] (xPre mS 23 G ad μ)) (xQi mS 23 G ad K) 0 0 (xR 23 ad) := by
  refine x_ent (nL := 8) (own := RX7) (by decide) rfl hI (Nat.le_of_ble_eq_true rfl) ?_
  intro p e s m args below meth c H locs ls Q X hr hlk hQ M hl
  have hx := X.1.1
  have hb := X.1.2.1
  have hown := X.1.2.2.2.1
  have hts := X.1.2.2.2.2
  have hl : lv_has ls 8 [(0, .ref (ad 0)), (1, .int a1)] := hl
  unfold wp_X7_turn at hf
  refine lv_iload_n hx hb dX7_turn_0 rfl (lv_at hl 1 rfl) ?_
  refine lv_i2l hx hb dX7_turn_1 rfl ?_
  refine lv_lconst (v := (0 : Int64)) hx hb dX7_turn_2 (by decide) ?_
  refine lv_lconst (v := (1 : Int64)) hx hb dX7_turn_3 (by decide) ?_
  refine x_ciP (x_rS (As := [.long (a1.toInt64), .long (0 : Int64), .long (1 : Int64)]) (rest := []) X M (cm_X7_in l G ad hI n (a1.toInt64) (0 : Int64) (1 : Int64) μ _ hf) mc_X7_in ms_X7_in lk_X7_97 mn_X7_in hl ⟨⟨Nat.le_of_ble_eq_true rfl, Nat.le_of_ble_eq_true rfl⟩, rfl, Nat.le_of_ble_eq_true rfl, Nat.zero_le _, Nat.zero_le _⟩ rfl dX7_turn_4) M (fun r_4 H locs hf M => ?_)
  try dsimp only at hf
  refine lv_if_ne (tgt := 13) hx hb dX7_turn_7 (by decide) (fun c_7 => ?_) (fun c_7 => ?_)
  · replace hf := hf.1 c_7
    refine lv_aload_n hx hb dX7_turn_13 rfl (lv_at hl 0 rfl) ?_
    refine x_getI X M rgm_0 fd_X7_108 rfl dX7_turn_14 ?_
    refine lv_if_ne (tgt := 23) hx hb dX7_turn_17 (by decide) (fun c_17 => ?_) (fun c_17 => ?_)
    · replace hf := hf.1 c_17
      refine lv_iconst (v := (0 : Int32)) hx hb dX7_turn_23 (by decide) ?_
      refine lv_istore_n (lv' := [(2, .int (0 : Int32)), (0, .ref (ad 0)), (1, .int a1)]) hx hb dX7_turn_24 rfl hl (by decide) rfl (fun ls hl => ?_)
      refine lv_iconst (v := ((-1) : Int32)) hx hb dX7_turn_25 (by decide) ?_
      refine lv_istore_n (lv' := [(3, .int ((-1) : Int32)), (2, .int (0 : Int32)), (0, .ref (ad 0)), (1, .int a1)]) hx hb dX7_turn_26 rfl hl (by decide) rfl (fun ls hl => ?_)
      refine lv_iconst (v := (0 : Int32)) hx hb dX7_turn_27 (by decide) ?_
      refine lv_istore (lv' := [(4, .int (0 : Int32)), (3, .int ((-1) : Int32)), (2, .int (0 : Int32)), (0, .ref (ad 0)), (1, .int a1)]) hx hb dX7_turn_28 hl (by decide) rfl (fun ls hl => ?_)
      refine xlp_w hf (fun (s_ : Int32 × Int32 × Int32 × xM) => match s_ with | (x4_30, x3_30, x2_30, m_30) => ∀ (H : Heap) (locs : List Loc) (ls : Array Slot), xS mS 23 G ad s m_30 H locs → lv_has ls 8 [(4, .int x4_30), (3, .int x3_30), (2, .int x2_30), (0, .ref (ad 0)), (1, .int a1)] → W p l e (rmo 4 93) s m args below meth c H locs 0 0 Q (F0 m 30 ls [])) ?_ _ _ _ M (lv_sub hl [0, 1, 2, 3, 4] rfl)
      intro again30 hagain30 s_ hf
      obtain ⟨x4_30, x3_30, x2_30, m_30⟩ := s_
      try dsimp only at hf ⊢
      intro H locs ls M hl
      refine lv_iload hx hb dX7_turn_30 (lv_at hl 0 rfl) ?_
      refine lv_aload_n hx hb dX7_turn_32 rfl (lv_at hl 3 rfl) ?_
      refine x_getI X M rgm_0 fd_X7_108 rfl dX7_turn_33 ?_
      refine lv_icmp_ge (tgt := 111) hx hb dX7_turn_36 (by decide) (fun c_36 => ?_) (fun c_36 => ?_)
      · replace hf := hf.1 c_36
        refine lv_iload_n hx hb dX7_turn_111 rfl (lv_at hl 4 rfl) ?_
        refine lv_if_ne (tgt := 119) hx hb dX7_turn_112 (by decide) (fun c_112 => ?_) (fun c_112 => ?_)
        · replace hf := hf.1 c_112
          refine lv_iload_n hx hb dX7_turn_119 rfl (lv_at hl 1 rfl) ?_
          rw [hQ]
          exact x_iret X M hr hlk dX7_turn_120 hf
        · replace hf := hf.2 c_112
          refine lv_iload_n hx hb dX7_turn_115 rfl (lv_at hl 2 rfl) ?_
          refine lv_goto (tgt := 120) hx hb dX7_turn_116 (by decide) ?_
          rw [hQ]
          exact x_iret X M hr hlk dX7_turn_120 hf
      · replace hf := hf.2 c_36
        refine lv_aload_n hx hb dX7_turn_39 rfl (lv_at hl 3 rfl) ?_
        refine x_getR (r := 3) X M rgm_0 fd_X7_16 rfl dX7_turn_40 ?_
        refine lv_iload hx hb dX7_turn_43 (lv_at hl 0 rfl) ?_
        obtain ⟨g_45, hf⟩ := hf
        refine x_ild X M rgm_3 g_45 dX7_turn_45 ?_
        refine lv_topi (fun x5_46 ex5_46 => ?_)
        replace hf := hf x5_46 ex5_46
        refine lv_istore (lv' := [(5, .int x5_46), (4, .int x4_30), (3, .int x3_30), (2, .int x2_30), (0, .ref (ad 0)), (1, .int a1)]) hx hb dX7_turn_46 hl (by decide) rfl (fun ls hl => ?_)
        refine lv_iconst (v := (0 : Int32)) hx hb dX7_turn_48 (by decide) ?_
        refine lv_istore (lv' := [(6, .int (0 : Int32)), (5, .int x5_46), (4, .int x4_30), (3, .int x3_30), (2, .int x2_30), (0, .ref (ad 0)), (1, .int a1)]) hx hb dX7_turn_49 hl (by decide) rfl (fun ls hl => ?_)
        refine xlp_w hf (fun (s_ : Int32 × Int32 × Int32 × xM) => match s_ with | (x6_51, x3_51, x2_51, m_51) => ∀ (H : Heap) (locs : List Loc) (ls : Array Slot), xS mS 23 G ad s m_51 H locs → lv_has ls 8 [(6, .int x6_51), (5, .int x5_46), (4, .int x4_30), (3, .int x3_51), (2, .int x2_51), (0, .ref (ad 0)), (1, .int a1)] → W p l e (rmo 4 93) s m args below meth c H locs 0 0 Q (F0 m 51 ls [])) ?_ _ _ _ M (lv_sub hl [0, 1, 2, 3, 4, 5, 6] rfl)
        intro again51 hagain51 s_ hf
        obtain ⟨x6_51, x3_51, x2_51, m_51⟩ := s_
        try dsimp only at hf ⊢
        intro H locs ls M hl
        refine lv_iload hx hb dX7_turn_51 (lv_at hl 0 rfl) ?_
        refine lv_iconst (v := (4 : Int32)) hx hb dX7_turn_53 (by decide) ?_
        refine lv_icmp_ge (tgt := 96) hx hb dX7_turn_54 (by decide) (fun c_54 => ?_) (fun c_54 => ?_)
        · replace hf := hf.1 c_54
          refine lv_aload_n hx hb dX7_turn_96 rfl (lv_at hl 5 rfl) ?_
          refine x_getR (r := 3) X M rgm_0 fd_X7_16 rfl dX7_turn_97 ?_
          refine lv_iload hx hb dX7_turn_100 (lv_at hl 2 rfl) ?_
          refine lv_iload hx hb dX7_turn_102 (lv_at hl 1 rfl) ?_
          obtain ⟨g_104, hf⟩ := hf
          refine x_ist X M rgm_3 g_104 dX7_turn_104 (fun m_104 H locs em_104 M => ?_)
          replace hf := hf m_104 em_104
          obtain ⟨x4_105, ex4_105⟩ : ∃ y : Int32, y = x4_30 + 1 := ⟨_, rfl⟩
          replace hf := hf x4_105 ex4_105
          refine lv_iinc (v := x4_105) (lv' := [(4, .int x4_105), (6, .int x6_51), (5, .int x5_46), (3, .int x3_51), (2, .int x2_51), (0, .ref (ad 0)), (1, .int a1)]) hx hb dX7_turn_105 hl (k := 2) rfl (by rw [ex4_105]; rfl) (by decide) rfl (fun ls hl => ?_)
          refine lv_goto (tgt := 30) hx hb dX7_turn_108 (by decide) ?_
          exact hagain30 (x4_105, x3_51, x2_51, m_104) hf _ _ _ M (lv_sub hl [0, 3, 4, 5, 6] rfl)
        · replace hf := hf.2 c_54
          refine lv_aload_n hx hb dX7_turn_57 rfl (lv_at hl 5 rfl) ?_
          refine x_getR (r := 3) X M rgm_0 fd_X7_16 rfl dX7_turn_58 ?_
          refine lv_iload hx hb dX7_turn_61 (lv_at hl 2 rfl) ?_
          refine lv_iload hx hb dX7_turn_63 (lv_at hl 0 rfl) ?_
          obtain ⟨g_65, hf⟩ := hf
          refine x_ist X M rgm_3 g_65 dX7_turn_65 (fun m_65 H locs em_65 M => ?_)
          replace hf := hf m_65 em_65
          refine lv_aload_n hx hb dX7_turn_66 rfl (lv_at hl 5 rfl) ?_
          refine x_ci (x_rV (As := []) (rest := []) X M (cm_X7_firstNose l G ad hI n m_65 _ hf) mc_X7_firstNose mv_X7_firstNose lk_X7_208 mn_X7_firstNose rgm_0 rfl hl ⟨⟨Nat.le_of_ble_eq_true rfl, Nat.le_of_ble_eq_true rfl⟩, rfl, Nat.le_of_ble_eq_true rfl, Nat.zero_le _, Nat.zero_le _⟩ rfl dX7_turn_67) M (fun r_67 m_67 H locs hf M => ?_)
          try dsimp only at hf
          refine lv_istore (lv' := [(7, .int r_67), (6, .int x6_51), (5, .int x5_46), (4, .int x4_30), (3, .int x3_51), (2, .int x2_51), (0, .ref (ad 0)), (1, .int a1)]) hx hb dX7_turn_70 hl (by decide) rfl (fun ls hl => ?_)
          refine lv_iload hx hb dX7_turn_72 (lv_at hl 0 rfl) ?_
          refine lv_iload_n hx hb dX7_turn_74 rfl (lv_at hl 4 rfl) ?_
          refine lv_icmp_le (tgt := 90) hx hb dX7_turn_75 (by decide) (fun c_75 => ?_) (fun c_75 => ?_)
          · replace hf := hf.1 c_75
            obtain ⟨x6_90, ex6_90⟩ : ∃ y : Int32, y = x6_51 + 1 := ⟨_, rfl⟩
            replace hf := hf x6_90 ex6_90
            refine lv_iinc (v := x6_90) (lv' := [(6, .int x6_90), (7, .int r_67), (5, .int x5_46), (4, .int x4_30), (3, .int x3_51), (2, .int x2_51), (0, .ref (ad 0)), (1, .int a1)]) hx hb dX7_turn_90 hl (k := 1) rfl (by rw [ex6_90]; rfl) (by decide) rfl (fun ls hl => ?_)
            refine lv_goto (tgt := 51) hx hb dX7_turn_93 (by decide) ?_
            exact hagain51 (x6_90, x3_51, x2_51, m_67) hf _ _ _ M (lv_sub hl [0, 2, 3, 4, 5, 6, 7] rfl)
          · replace hf := hf.2 c_75
            refine lv_bipush (v := (10 : Int32)) hx hb dX7_turn_78 (by decide) ?_
            refine lv_iload hx hb dX7_turn_80 (lv_at hl 3 rfl) ?_
            refine lv_imul hx hb dX7_turn_82 ?_
            refine lv_iload hx hb dX7_turn_83 (lv_at hl 1 rfl) ?_
            refine lv_iadd hx hb dX7_turn_85 ?_
            refine lv_topi (fun x2_86 ex2_86 => ?_)
            replace hf := hf x2_86 ex2_86
            refine lv_istore_n (lv' := [(2, .int x2_86), (7, .int r_67), (6, .int x6_51), (5, .int x5_46), (4, .int x4_30), (3, .int x3_51), (0, .ref (ad 0)), (1, .int a1)]) hx hb dX7_turn_86 rfl hl (by decide) rfl (fun ls hl => ?_)
            refine lv_iload hx hb dX7_turn_87 (lv_at hl 1 rfl) ?_
            refine lv_istore_n (lv' := [(3, .int r_67), (2, .int x2_86), (7, .int r_67), (6, .int x6_51), (5, .int x5_46), (4, .int x4_30), (0, .ref (ad 0)), (1, .int a1)]) hx hb dX7_turn_89 rfl hl (by decide) rfl (fun ls hl => ?_)
            obtain ⟨x6_90, ex6_90⟩ : ∃ y : Int32, y = x6_51 + 1 := ⟨_, rfl⟩
            replace hf := hf x6_90 ex6_90
            refine lv_iinc (v := x6_90) (lv' := [(6, .int x6_90), (3, .int r_67), (2, .int x2_86), (7, .int r_67), (5, .int x5_46), (4, .int x4_30), (0, .ref (ad 0)), (1, .int a1)]) hx hb dX7_turn_90 hl (k := 3) rfl (by rw [ex6_90]; rfl) (by decide) rfl (fun ls hl => ?_)
            refine lv_goto (tgt := 51) hx hb dX7_turn_93 (by decide) ?_
            exact hagain51 (x6_90, r_67, x2_86, m_67) hf _ _ _ M (lv_sub hl [0, 4, 5, 1, 2, 6, 7] rfl)
    · replace hf := hf.2 c_17
      refine lv_bipush (v := ((-3) : Int32)) hx hb dX7_turn_20 (by decide) ?_
      rw [hQ]
      exact x_iret X M hr hlk dX7_turn_22 hf
  · replace hf := hf.2 c_7
    refine lv_bipush (v := ((-2) : Int32)) hx hb dX7_turn_10 (by decide) ?_
    rw [hQ]
    exact x_iret X M hr hlk dX7_turn_12 hf
def wp_X7_roofs (n : Nat) (a1 : Int32) (a2 : Int32) (μ : xM) (K : Int32 → xM → Prop) : Prop :=
  wp_X7_isDawn n a1 μ (fun r_1 : Int32 => ((r_1 = 0 → K ((-2) : Int32) μ) ∧ (¬ r_1 = 0 → wp_X7_in n (a2.toInt64) (0 : Int64) (1 : Int64) μ (fun r_11 : Int32 => ((¬ r_11 = 0 → ((¬ (μ 0 1) = 0 → wp_X7_keepOver n μ (fun m_31 : xM => xjn (fun (s_ : Int32 × xM) => match s_ with | (x3_143, m_143) => wp_X7_takeOver n m_143 (fun m_144 : xM => ((x3_143 < 0 → K x3_143 m_144) ∧ (¬ x3_143 < 0 → ((¬ a2 = 0 → wp_X7_bits n x3_143 m_144 (fun r_160 : Int32 => K r_160 m_144)) ∧ (a2 = 0 → K x3_143 m_144)))))) (fun J143 : (Int32 × xM) → Prop => xlp (fun (again40 : (Int32 × Int32 × xM) → Prop) => fun (s_ : Int32 × Int32 × xM) => match s_ with | (x4_40, x3_40, m_40) => ((((1 : Int32) <<< ((m_40 0 1) &&& 31)) ≤ x4_40 → J143 (x3_40, m_40)) ∧ (¬ ((1 : Int32) <<< ((m_40 0 1) &&& 31)) ≤ x4_40 → xjn (fun (x4_67 : Int32) => xjn (fun (m_114 : xM) => wp_X7_goTo n a1 m_114 (fun m_116 : xM => wp_X7_nosesNow n m_116 (fun r_120 : Int32 => ((¬ r_120 = (m_116 0 1) → (∀ x4_137 : Int32, x4_137 = x4_67 + 1 → again40 (x4_137, x3_40, m_116))) ∧ (r_120 = (m_116 0 1) → (∀ x4_137 : Int32, x4_137 = x4_67 + 1 → again40 (x4_137, x4_67, m_116))))))) (fun J114 : xM → Prop => xlp (fun (again70 : (Int32 × xM) → Prop) => fun (s_ : Int32 × xM) => match s_ with | (x5_70, m_70) => (((m_70 0 1) ≤ x5_70 → J114 m_70) ∧ (¬ (m_70 0 1) ≤ x5_70 → ((¬ ((x4_67 >>> (x5_70 &&& 31)) &&& (1 : Int32)) = (1 : Int32) → (vp_in x5_70 7 ∧ (vp_in x5_70 7 ∧ (∀ m_107 : xM, m_107 = xu m_70 4 x5_70.toNatClampNeg (m_70 14 x5_70.toNatClampNeg) → (∀ x5_108 : Int32, x5_108 = x5_70 + 1 → again70 (x5_108, m_107)))))) ∧ (((x4_67 >>> (x5_70 &&& 31)) &&& (1 : Int32)) = (1 : Int32) → (vp_in x5_70 7 ∧ (∀ m_107 : xM, m_107 = xu m_70 4 x5_70.toNatClampNeg (2 : Int32) → (∀ x5_108 : Int32, x5_108 = x5_70 + 1 → again70 (x5_108, m_107))))))))) n ((0 : Int32), m_40))) (fun J67 : Int32 → Prop => ((x3_40 < 0 → J67 x4_40) ∧ (¬ x3_40 < 0 → wp_X7_bits n x4_40 m_40 (fun r_57 : Int32 => wp_X7_bits n x3_40 m_40 (fun r_61 : Int32 => ((r_61 ≤ r_57 → (∀ x4_137 : Int32, x4_137 = x4_40 + 1 → again40 (x4_137, x3_40, m_40))) ∧ (¬ r_61 ≤ r_57 → J67 x4_40)))))))))) n ((0 : Int32), ((-9) : Int32), m_31)))) ∧ ((μ 0 1) = 0 → K ((-3) : Int32) μ))) ∧ (r_11 = 0 → K ((-2) : Int32) μ))))))
set_option maxHeartbeats 4000000 in
set_option maxRecDepth 100000 in
theorem cm_X7_roofs (l : Launch) (G : xG) (ad : Nat → Nat) (hI : xI 23 ad) (n : Nat) (a1 : Int32) (a2 : Int32) (μ : xM) (K : Int32 → xM → Prop) (hf : wp_X7_roofs n a1 a2 μ K) : Met l yX7_roofs (Cond.code yX7_roofs cX7_roofs 6 (some .int) :: xw_all) (rmo 4 94) (va_Pc [.ref (ad 0), .int a1, .int a2] (xPre mS 23 G ad μ)) (xQi mS 23 G ad K) 0 0 (xR 23 ad) := by
  refine x_ent (nL := 6) (own := RX7) (by decide) rfl hI (Nat.le_of_ble_eq_true rfl) ?_
  intro p e s m args below meth c H locs ls Q X hr hlk hQ M hl
  have hx := X.1.1
  have hb := X.1.2.1
  have hown := X.1.2.2.2.1
  have hts := X.1.2.2.2.2
  have hl : lv_has ls 6 [(0, .ref (ad 0)), (1, .int a1), (2, .int a2)] := hl
  unfold wp_X7_roofs at hf
  refine lv_iload_n hx hb dX7_roofs_0 rfl (lv_at hl 1 rfl) ?_
  refine x_ciP (x_rS (As := [.int a1]) (rest := []) X M (cm_X7_isDawn l G ad hI n a1 μ _ hf) mc_X7_isDawn ms_X7_isDawn lk_X7_180 mn_X7_isDawn hl ⟨⟨Nat.le_of_ble_eq_true rfl, Nat.le_of_ble_eq_true rfl⟩, rfl, Nat.le_of_ble_eq_true rfl, Nat.zero_le _, Nat.zero_le _⟩ rfl dX7_roofs_1) M (fun r_1 H locs hf M => ?_)
  try dsimp only at hf
  refine lv_if_eq (tgt := 17) hx hb dX7_roofs_4 (by decide) (fun c_4 => ?_) (fun c_4 => ?_)
  · replace hf := hf.1 c_4
    refine lv_bipush (v := ((-2) : Int32)) hx hb dX7_roofs_17 (by decide) ?_
    rw [hQ]
    exact x_iret X M hr hlk dX7_roofs_19 hf
  · replace hf := hf.2 c_4
    refine lv_iload_n hx hb dX7_roofs_7 rfl (lv_at hl 2 rfl) ?_
    refine lv_i2l hx hb dX7_roofs_8 rfl ?_
    refine lv_lconst (v := (0 : Int64)) hx hb dX7_roofs_9 (by decide) ?_
    refine lv_lconst (v := (1 : Int64)) hx hb dX7_roofs_10 (by decide) ?_
    refine x_ciP (x_rS (As := [.long (a2.toInt64), .long (0 : Int64), .long (1 : Int64)]) (rest := []) X M (cm_X7_in l G ad hI n (a2.toInt64) (0 : Int64) (1 : Int64) μ _ hf) mc_X7_in ms_X7_in lk_X7_97 mn_X7_in hl ⟨⟨Nat.le_of_ble_eq_true rfl, Nat.le_of_ble_eq_true rfl⟩, rfl, Nat.le_of_ble_eq_true rfl, Nat.zero_le _, Nat.zero_le _⟩ rfl dX7_roofs_11) M (fun r_11 H locs hf M => ?_)
    try dsimp only at hf
    refine lv_if_ne (tgt := 20) hx hb dX7_roofs_14 (by decide) (fun c_14 => ?_) (fun c_14 => ?_)
    · replace hf := hf.1 c_14
      refine lv_aload_n hx hb dX7_roofs_20 rfl (lv_at hl 0 rfl) ?_
      refine x_getI X M rgm_0 fd_X7_108 rfl dX7_roofs_21 ?_
      refine lv_if_ne (tgt := 30) hx hb dX7_roofs_24 (by decide) (fun c_24 => ?_) (fun c_24 => ?_)
      · replace hf := hf.1 c_24
        refine lv_aload_n hx hb dX7_roofs_30 rfl (lv_at hl 0 rfl) ?_
        refine x_cv (x_rV (As := []) (rest := []) X M (cm_X7_keepOver l G ad hI n μ _ hf) mc_X7_keepOver mv_X7_keepOver lk_X7_196 mn_X7_keepOver rgm_0 rfl hl ⟨⟨Nat.le_of_ble_eq_true rfl, Nat.le_of_ble_eq_true rfl⟩, rfl, Nat.le_of_ble_eq_true rfl, Nat.zero_le _, Nat.zero_le _⟩ rfl dX7_roofs_31) M (fun m_31 H locs hf M => ?_)
        try dsimp only at hf
        refine lv_bipush (v := ((-9) : Int32)) hx hb dX7_roofs_34 (by decide) ?_
        refine lv_istore_n (lv' := [(3, .int ((-9) : Int32)), (0, .ref (ad 0)), (1, .int a1), (2, .int a2)]) hx hb dX7_roofs_36 rfl hl (by decide) rfl (fun ls hl => ?_)
        refine lv_iconst (v := (0 : Int32)) hx hb dX7_roofs_37 (by decide) ?_
        refine lv_istore (lv' := [(4, .int (0 : Int32)), (3, .int ((-9) : Int32)), (0, .ref (ad 0)), (1, .int a1), (2, .int a2)]) hx hb dX7_roofs_38 hl (by decide) rfl (fun ls hl => ?_)
        refine xjn_w hf (fun (s_ : Int32 × xM) => match s_ with | (x3_143, m_143) => ∀ (H : Heap) (locs : List Loc) (ls : Array Slot), xS mS 23 G ad s m_143 H locs → lv_has ls 6 [(3, .int x3_143), (0, .ref (ad 0)), (2, .int a2)] → W p l e (rmo 4 94) s m args below meth c H locs 0 0 Q (F0 m 143 ls [])) ?_ ?_
        · intro s_ hf
          obtain ⟨x3_143, m_143⟩ := s_
          try dsimp only at hf ⊢
          intro H locs ls M hl
          refine lv_aload_n hx hb dX7_roofs_143 rfl (lv_at hl 1 rfl) ?_
          refine x_cv (x_rV (As := []) (rest := []) X M (cm_X7_takeOver l G ad hI n m_143 _ hf) mc_X7_takeOver mv_X7_takeOver lk_X7_205 mn_X7_takeOver rgm_0 rfl hl ⟨⟨Nat.le_of_ble_eq_true rfl, Nat.le_of_ble_eq_true rfl⟩, rfl, Nat.le_of_ble_eq_true rfl, Nat.zero_le _, Nat.zero_le _⟩ rfl dX7_roofs_144) M (fun m_144 H locs hf M => ?_)
          try dsimp only at hf
          refine lv_iload_n hx hb dX7_roofs_147 rfl (lv_at hl 0 rfl) ?_
          refine lv_if_lt (tgt := 155) hx hb dX7_roofs_148 (by decide) (fun c_148 => ?_) (fun c_148 => ?_)
          · replace hf := hf.1 c_148
            refine lv_iload_n hx hb dX7_roofs_155 rfl (lv_at hl 0 rfl) ?_
            refine lv_goto (tgt := 163) hx hb dX7_roofs_156 (by decide) ?_
            rw [hQ]
            exact x_iret X M hr hlk dX7_roofs_163 hf
          · replace hf := hf.2 c_148
            refine lv_iload_n hx hb dX7_roofs_151 rfl (lv_at hl 2 rfl) ?_
            refine lv_if_ne (tgt := 159) hx hb dX7_roofs_152 (by decide) (fun c_152 => ?_) (fun c_152 => ?_)
            · replace hf := hf.1 c_152
              refine lv_iload_n hx hb dX7_roofs_159 rfl (lv_at hl 0 rfl) ?_
              refine x_ciP (x_rS (As := [.int x3_143]) (rest := []) X M (cm_X7_bits l G ad hI n x3_143 m_144 _ hf) mc_X7_bits ms_X7_bits lk_X7_199 mn_X7_bits hl ⟨⟨Nat.le_of_ble_eq_true rfl, Nat.le_of_ble_eq_true rfl⟩, rfl, Nat.le_of_ble_eq_true rfl, Nat.zero_le _, Nat.zero_le _⟩ rfl dX7_roofs_160) M (fun r_160 H locs hf M => ?_)
              try dsimp only at hf
              rw [hQ]
              exact x_iret X M hr hlk dX7_roofs_163 hf
            · replace hf := hf.2 c_152
              refine lv_iload_n hx hb dX7_roofs_155 rfl (lv_at hl 0 rfl) ?_
              refine lv_goto (tgt := 163) hx hb dX7_roofs_156 (by decide) ?_
              rw [hQ]
              exact x_iret X M hr hlk dX7_roofs_163 hf
        · intro J143 hJ143 hf
          refine xlp_w hf (fun (s_ : Int32 × Int32 × xM) => match s_ with | (x4_40, x3_40, m_40) => ∀ (H : Heap) (locs : List Loc) (ls : Array Slot), xS mS 23 G ad s m_40 H locs → lv_has ls 6 [(4, .int x4_40), (3, .int x3_40), (0, .ref (ad 0)), (1, .int a1), (2, .int a2)] → W p l e (rmo 4 94) s m args below meth c H locs 0 0 Q (F0 m 40 ls [])) ?_ _ _ _ M (lv_sub hl [0, 1, 2, 3, 4] rfl)
          intro again40 hagain40 s_ hf
          obtain ⟨x4_40, x3_40, m_40⟩ := s_
          try dsimp only at hf ⊢
          intro H locs ls M hl
          refine lv_iload hx hb dX7_roofs_40 (lv_at hl 0 rfl) ?_
          refine lv_iconst (v := (1 : Int32)) hx hb dX7_roofs_42 (by decide) ?_
          refine lv_aload_n hx hb dX7_roofs_43 rfl (lv_at hl 2 rfl) ?_
          refine x_getI X M rgm_0 fd_X7_108 rfl dX7_roofs_44 ?_
          refine lv_ishl hx hb dX7_roofs_47 ?_
          refine lv_icmp_ge (tgt := 143) hx hb dX7_roofs_48 (by decide) (fun c_48 => ?_) (fun c_48 => ?_)
          · replace hf := hf.1 c_48
            exact hJ143 (x3_40, m_40) hf _ _ _ M (lv_sub hl [1, 2, 4] rfl)
          · replace hf := hf.2 c_48
            refine lv_iload_n hx hb dX7_roofs_51 rfl (lv_at hl 1 rfl) ?_
            refine xjn_w hf (fun (x4_67 : Int32) => ∀ (H : Heap) (locs : List Loc) (ls : Array Slot), xS mS 23 G ad s m_40 H locs → lv_has ls 6 [(4, .int x4_67), (3, .int x3_40), (0, .ref (ad 0)), (1, .int a1), (2, .int a2)] → W p l e (rmo 4 94) s m args below meth c H locs 0 0 Q (F0 m 67 ls [])) ?_ ?_
            · intro x4_67 hf
              intro H locs ls M hl
              refine lv_iconst (v := (0 : Int32)) hx hb dX7_roofs_67 (by decide) ?_
              refine lv_istore (lv' := [(5, .int (0 : Int32)), (4, .int x4_67), (3, .int x3_40), (0, .ref (ad 0)), (1, .int a1), (2, .int a2)]) hx hb dX7_roofs_68 hl (by decide) rfl (fun ls hl => ?_)
              refine xjn_w hf (fun (m_114 : xM) => ∀ (H : Heap) (locs : List Loc) (ls : Array Slot), xS mS 23 G ad s m_114 H locs → lv_has ls 6 [(4, .int x4_67), (3, .int x3_40), (0, .ref (ad 0)), (1, .int a1), (2, .int a2)] → W p l e (rmo 4 94) s m args below meth c H locs 0 0 Q (F0 m 114 ls [])) ?_ ?_
              · intro m_114 hf
                intro H locs ls M hl
                refine lv_aload_n hx hb dX7_roofs_114 rfl (lv_at hl 2 rfl) ?_
                refine lv_iload_n hx hb dX7_roofs_115 rfl (lv_at hl 3 rfl) ?_
                refine x_cv (x_rV (As := [.int a1]) (rest := []) X M (cm_X7_goTo l G ad hI n a1 m_114 _ hf) mc_X7_goTo mv_X7_goTo lk_X7_183 mn_X7_goTo rgm_0 rfl hl ⟨⟨Nat.le_of_ble_eq_true rfl, Nat.le_of_ble_eq_true rfl⟩, rfl, Nat.le_of_ble_eq_true rfl, Nat.zero_le _, Nat.zero_le _⟩ rfl dX7_roofs_116) M (fun m_116 H locs hf M => ?_)
                try dsimp only at hf
                refine lv_aload_n hx hb dX7_roofs_119 rfl (lv_at hl 2 rfl) ?_
                refine x_ciP (x_rV (As := []) (rest := []) X M (cm_X7_nosesNow l G ad hI n m_116 _ hf) mc_X7_nosesNow mv_X7_nosesNow lk_X7_202 mn_X7_nosesNow rgm_0 rfl hl ⟨⟨Nat.le_of_ble_eq_true rfl, Nat.le_of_ble_eq_true rfl⟩, rfl, Nat.le_of_ble_eq_true rfl, Nat.zero_le _, Nat.zero_le _⟩ rfl dX7_roofs_120) M (fun r_120 H locs hf M => ?_)
                try dsimp only at hf
                refine lv_aload_n hx hb dX7_roofs_123 rfl (lv_at hl 2 rfl) ?_
                refine x_getI X M rgm_0 fd_X7_108 rfl dX7_roofs_124 ?_
                refine lv_icmp_ne (tgt := 135) hx hb dX7_roofs_127 (by decide) (fun c_127 => ?_) (fun c_127 => ?_)
                · replace hf := hf.1 c_127
                  refine lv_iload_n hx hb dX7_roofs_135 rfl (lv_at hl 1 rfl) ?_
                  refine lv_istore_n (lv' := [(3, .int x3_40), (4, .int x4_67), (0, .ref (ad 0)), (1, .int a1), (2, .int a2)]) hx hb dX7_roofs_136 rfl hl (by decide) rfl (fun ls hl => ?_)
                  obtain ⟨x4_137, ex4_137⟩ : ∃ y : Int32, y = x4_67 + 1 := ⟨_, rfl⟩
                  replace hf := hf x4_137 ex4_137
                  refine lv_iinc (v := x4_137) (lv' := [(4, .int x4_137), (3, .int x3_40), (0, .ref (ad 0)), (1, .int a1), (2, .int a2)]) hx hb dX7_roofs_137 hl (k := 1) rfl (by rw [ex4_137]; rfl) (by decide) rfl (fun ls hl => ?_)
                  refine lv_goto (tgt := 40) hx hb dX7_roofs_140 (by decide) ?_
                  exact hagain40 (x4_137, x3_40, m_116) hf _ _ _ M (lv_sub hl [0, 1, 2, 3, 4] rfl)
                · replace hf := hf.2 c_127
                  refine lv_iload hx hb dX7_roofs_130 (lv_at hl 0 rfl) ?_
                  refine lv_goto (tgt := 136) hx hb dX7_roofs_132 (by decide) ?_
                  refine lv_istore_n (lv' := [(3, .int x4_67), (4, .int x4_67), (0, .ref (ad 0)), (1, .int a1), (2, .int a2)]) hx hb dX7_roofs_136 rfl hl (by decide) rfl (fun ls hl => ?_)
                  obtain ⟨x4_137, ex4_137⟩ : ∃ y : Int32, y = x4_67 + 1 := ⟨_, rfl⟩
                  replace hf := hf x4_137 ex4_137
                  refine lv_iinc (v := x4_137) (lv' := [(4, .int x4_137), (3, .int x4_67), (0, .ref (ad 0)), (1, .int a1), (2, .int a2)]) hx hb dX7_roofs_137 hl (k := 1) rfl (by rw [ex4_137]; rfl) (by decide) rfl (fun ls hl => ?_)
                  refine lv_goto (tgt := 40) hx hb dX7_roofs_140 (by decide) ?_
                  exact hagain40 (x4_137, x4_67, m_116) hf _ _ _ M (lv_sub hl [0, 1, 2, 3, 4] rfl)
              · intro J114 hJ114 hf
                refine xlp_w hf (fun (s_ : Int32 × xM) => match s_ with | (x5_70, m_70) => ∀ (H : Heap) (locs : List Loc) (ls : Array Slot), xS mS 23 G ad s m_70 H locs → lv_has ls 6 [(5, .int x5_70), (4, .int x4_67), (3, .int x3_40), (0, .ref (ad 0)), (1, .int a1), (2, .int a2)] → W p l e (rmo 4 94) s m args below meth c H locs 0 0 Q (F0 m 70 ls [])) ?_ _ _ _ M (lv_sub hl [0, 1, 2, 3, 4, 5] rfl)
                intro again70 hagain70 s_ hf
                obtain ⟨x5_70, m_70⟩ := s_
                try dsimp only at hf ⊢
                intro H locs ls M hl
                refine lv_iload hx hb dX7_roofs_70 (lv_at hl 0 rfl) ?_
                refine lv_aload_n hx hb dX7_roofs_72 rfl (lv_at hl 3 rfl) ?_
                refine x_getI X M rgm_0 fd_X7_108 rfl dX7_roofs_73 ?_
                refine lv_icmp_ge (tgt := 114) hx hb dX7_roofs_76 (by decide) (fun c_76 => ?_) (fun c_76 => ?_)
                · replace hf := hf.1 c_76
                  exact hJ114 m_70 hf _ _ _ M (lv_sub hl [1, 2, 3, 4, 5] rfl)
                · replace hf := hf.2 c_76
                  refine lv_aload_n hx hb dX7_roofs_79 rfl (lv_at hl 3 rfl) ?_
                  refine x_getR (r := 4) X M rgm_0 fd_X7_19 rfl dX7_roofs_80 ?_
                  refine lv_iload hx hb dX7_roofs_83 (lv_at hl 0 rfl) ?_
                  refine lv_iload hx hb dX7_roofs_85 (lv_at hl 1 rfl) ?_
                  refine lv_iload hx hb dX7_roofs_87 (lv_at hl 0 rfl) ?_
                  refine lv_ishr hx hb dX7_roofs_89 ?_
                  refine lv_iconst (v := (1 : Int32)) hx hb dX7_roofs_90 (by decide) ?_
                  refine lv_iand hx hb dX7_roofs_91 ?_
                  refine lv_iconst (v := (1 : Int32)) hx hb dX7_roofs_92 (by decide) ?_
                  refine lv_icmp_ne (tgt := 100) hx hb dX7_roofs_93 (by decide) (fun c_93 => ?_) (fun c_93 => ?_)
                  · replace hf := hf.1 c_93
                    refine lv_aload_n hx hb dX7_roofs_100 rfl (lv_at hl 3 rfl) ?_
                    refine x_getR (r := 14) X M rgm_0 fd_X7_50 rfl dX7_roofs_101 ?_
                    refine lv_iload hx hb dX7_roofs_104 (lv_at hl 0 rfl) ?_
                    obtain ⟨g_106, hf⟩ := hf
                    refine x_ild X M rgm_14 g_106 dX7_roofs_106 ?_
                    obtain ⟨g_107, hf⟩ := hf
                    refine x_ist X M rgm_4 g_107 dX7_roofs_107 (fun m_107 H locs em_107 M => ?_)
                    replace hf := hf m_107 em_107
                    obtain ⟨x5_108, ex5_108⟩ : ∃ y : Int32, y = x5_70 + 1 := ⟨_, rfl⟩
                    replace hf := hf x5_108 ex5_108
                    refine lv_iinc (v := x5_108) (lv' := [(5, .int x5_108), (4, .int x4_67), (3, .int x3_40), (0, .ref (ad 0)), (1, .int a1), (2, .int a2)]) hx hb dX7_roofs_108 hl (k := 0) rfl (by rw [ex5_108]; rfl) (by decide) rfl (fun ls hl => ?_)
                    refine lv_goto (tgt := 70) hx hb dX7_roofs_111 (by decide) ?_
                    exact hagain70 (x5_108, m_107) hf _ _ _ M (lv_sub hl [0, 1, 2, 3, 4, 5] rfl)
                  · replace hf := hf.2 c_93
                    refine lv_iconst (v := (2 : Int32)) hx hb dX7_roofs_96 (by decide) ?_
                    refine lv_goto (tgt := 107) hx hb dX7_roofs_97 (by decide) ?_
                    obtain ⟨g_107, hf⟩ := hf
                    refine x_ist X M rgm_4 g_107 dX7_roofs_107 (fun m_107 H locs em_107 M => ?_)
                    replace hf := hf m_107 em_107
                    obtain ⟨x5_108, ex5_108⟩ : ∃ y : Int32, y = x5_70 + 1 := ⟨_, rfl⟩
                    replace hf := hf x5_108 ex5_108
                    refine lv_iinc (v := x5_108) (lv' := [(5, .int x5_108), (4, .int x4_67), (3, .int x3_40), (0, .ref (ad 0)), (1, .int a1), (2, .int a2)]) hx hb dX7_roofs_108 hl (k := 0) rfl (by rw [ex5_108]; rfl) (by decide) rfl (fun ls hl => ?_)
                    refine lv_goto (tgt := 70) hx hb dX7_roofs_111 (by decide) ?_
                    exact hagain70 (x5_108, m_107) hf _ _ _ M (lv_sub hl [0, 1, 2, 3, 4, 5] rfl)
            · intro J67 hJ67 hf
              refine lv_if_lt (tgt := 67) hx hb dX7_roofs_52 (by decide) (fun c_52 => ?_) (fun c_52 => ?_)
              · replace hf := hf.1 c_52
                exact hJ67 x4_40 hf _ _ _ M (lv_sub hl [0, 1, 2, 3, 4] rfl)
              · replace hf := hf.2 c_52
                refine lv_iload hx hb dX7_roofs_55 (lv_at hl 0 rfl) ?_
                refine x_ciP (x_rS (As := [.int x4_40]) (rest := []) X M (cm_X7_bits l G ad hI n x4_40 m_40 _ hf) mc_X7_bits ms_X7_bits lk_X7_199 mn_X7_bits hl ⟨⟨Nat.le_of_ble_eq_true rfl, Nat.le_of_ble_eq_true rfl⟩, rfl, Nat.le_of_ble_eq_true rfl, Nat.zero_le _, Nat.zero_le _⟩ rfl dX7_roofs_57) M (fun r_57 H locs hf M => ?_)
                try dsimp only at hf
                refine lv_iload_n hx hb dX7_roofs_60 rfl (lv_at hl 1 rfl) ?_
                refine x_ciP (x_rS (As := [.int x3_40]) (rest := [.int r_57]) X M (cm_X7_bits l G ad hI n x3_40 m_40 _ hf) mc_X7_bits ms_X7_bits lk_X7_199 mn_X7_bits hl ⟨⟨Nat.le_of_ble_eq_true rfl, Nat.le_of_ble_eq_true rfl⟩, rfl, Nat.le_of_ble_eq_true rfl, Nat.zero_le _, Nat.zero_le _⟩ rfl dX7_roofs_61) M (fun r_61 H locs hf M => ?_)
                try dsimp only at hf
                refine lv_icmp_ge (tgt := 137) hx hb dX7_roofs_64 (by decide) (fun c_64 => ?_) (fun c_64 => ?_)
                · replace hf := hf.1 c_64
                  obtain ⟨x4_137, ex4_137⟩ : ∃ y : Int32, y = x4_40 + 1 := ⟨_, rfl⟩
                  replace hf := hf x4_137 ex4_137
                  refine lv_iinc (v := x4_137) (lv' := [(4, .int x4_137), (3, .int x3_40), (0, .ref (ad 0)), (1, .int a1), (2, .int a2)]) hx hb dX7_roofs_137 hl (k := 0) rfl (by rw [ex4_137]; rfl) (by decide) rfl (fun ls hl => ?_)
                  refine lv_goto (tgt := 40) hx hb dX7_roofs_140 (by decide) ?_
                  exact hagain40 (x4_137, x3_40, m_40) hf _ _ _ M (lv_sub hl [0, 1, 2, 3, 4] rfl)
                · replace hf := hf.2 c_64
                  exact hJ67 x4_40 hf _ _ _ M (lv_sub hl [0, 1, 2, 3, 4] rfl)
      · replace hf := hf.2 c_24
        refine lv_bipush (v := ((-3) : Int32)) hx hb dX7_roofs_27 (by decide) ?_
        rw [hQ]
        exact x_iret X M hr hlk dX7_roofs_29 hf
    · replace hf := hf.2 c_14
      refine lv_bipush (v := ((-2) : Int32)) hx hb dX7_roofs_17 (by decide) ?_
      rw [hQ]
      exact x_iret X M hr hlk dX7_roofs_19 hf
def wp_X7_takenFor (n : Nat) (a1 : Int32) (a2 : Int32) (a3 : Int32) (a4 : Int32) (a5 : Int32) (μ : xM) (K : Int32 → xM → Prop) : Prop :=
  wp_X7_isDawn n a1 μ (fun r_9 : Int32 => xjn (fun (v0_31 : Int32) => wp_X7_barred n a2 a3 a4 (3 : Int64) v0_31 μ (fun (r_31 : Int32) (m_31 : xM) => ((0 ≤ r_31 → ((¬ (m_31 0 1) = 0 → (∀ x7_65 : Int32, x7_65 = ((60 : Int32) * a2) + a4 → xjn (fun (_ : Unit) => wp_X7_goTo n a1 m_31 (fun m_112 : xM => xjn (fun (s_ : Int32 × Int32) => match s_ with | (x9_208, x8_208) => ((¬ a5 = 0 → wp_X7_refused n x9_208 m_112 (fun (r_221 : Int32) (m_221 : xM) => K r_221 m_221)) ∧ (a5 = 0 → wp_X7_refused n x8_208 m_112 (fun (r_221 : Int32) (m_221 : xM) => K r_221 m_221)))) (fun J208 : (Int32 × Int32) → Prop => xlp (fun (again125 : (Int32 × Int32 × Int32) → Prop) => fun (s_ : Int32 × Int32 × Int32) => match s_ with | (x10_125, x9_125, x8_125) => (((m_112 0 1) ≤ x10_125 → J208 (x9_125, x8_125)) ∧ (¬ (m_112 0 1) ≤ x10_125 → xjn (fun (x11_182 : Int32) => ((x8_125 < 0 → (∀ x10_202 : Int32, x10_202 = x10_125 + 1 → again125 (x10_202, x11_182, x10_125))) ∧ (¬ x8_125 < 0 → ((x9_125 ≤ x11_182 → (∀ x10_202 : Int32, x10_202 = x10_125 + 1 → again125 (x10_202, x9_125, x8_125))) ∧ (¬ x9_125 ≤ x11_182 → (∀ x10_202 : Int32, x10_202 = x10_125 + 1 → again125 (x10_202, x11_182, x10_125))))))) (fun J182 : Int32 → Prop => xlp (fun (again140 : (Int32 × Int32) → Prop) => fun (s_ : Int32 × Int32) => match s_ with | (x12_140, x11_140) => (((3 : Int32) ≤ x12_140 → J182 x11_140) ∧ (¬ (3 : Int32) ≤ x12_140 → (vp_in (((3 : Int32) * x10_125) + x12_140) 21 ∧ (vp_in (x7_65 + x12_140) 240 ∧ wp_X7_off n (m_112 11 (((3 : Int32) * x10_125) + x12_140).toNatClampNeg) (m_112 21 (x7_65 + x12_140).toNatClampNeg) m_112 (fun r_170 : Int32 => (∀ x11_174 : Int32, x11_174 = x11_140 + r_170 → (∀ x12_176 : Int32, x12_176 = x12_140 + 1 → again140 (x12_176, x11_174))))))))) n ((0 : Int32), (0 : Int32)))))) n ((0 : Int32), (0 : Int32), ((-9) : Int32))))) (fun J110 : Unit → Prop => xlp (fun (again70 : Int32 → Prop) => fun (x8_70 : Int32) => (((3 : Int32) ≤ x8_70 → J110 ()) ∧ (¬ (3 : Int32) ≤ x8_70 → (vp_in (x7_65 + x8_70) 240 ∧ wp_X7_in n ((m_31 21 (x7_65 + x8_70).toNatClampNeg).toInt64) (0 : Int64) (999 : Int64) m_31 (fun r_91 : Int32 => ((¬ r_91 = 0 → (∀ x8_104 : Int32, x8_104 = x8_70 + 1 → again70 x8_104)) ∧ (r_91 = 0 → wp_X7_refused n ((-2) : Int32) m_31 (fun (r_100 : Int32) (m_100 : xM) => K r_100 m_100)))))))) n (0 : Int32)))) ∧ ((m_31 0 1) = 0 → wp_X7_refused n ((-3) : Int32) m_31 (fun (r_54 : Int32) (m_54 : xM) => K r_54 m_54)))) ∧ (¬ 0 ≤ r_31 → K r_31 m_31)))) (fun J31 : Int32 → Prop => xjn (fun (_ : Unit) => J31 (0 : Int32)) (fun J30 : Unit → Prop => ((r_9 = 0 → J30 ()) ∧ (¬ r_9 = 0 → wp_X7_in n (a5.toInt64) (0 : Int64) (1 : Int64) μ (fun r_20 : Int32 => ((r_20 = 0 → J30 ()) ∧ (¬ r_20 = 0 → J31 (1 : Int32)))))))))
set_option maxHeartbeats 4000000 in
set_option maxRecDepth 100000 in
theorem cm_X7_takenFor (l : Launch) (G : xG) (ad : Nat → Nat) (hI : xI 23 ad) (n : Nat) (a1 : Int32) (a2 : Int32) (a3 : Int32) (a4 : Int32) (a5 : Int32) (μ : xM) (K : Int32 → xM → Prop) (hf : wp_X7_takenFor n a1 a2 a3 a4 a5 μ K) : Met l yX7_takenFor (Cond.code yX7_takenFor cX7_takenFor 13 (some .int) :: xw_all) (rmo 4 94) (va_Pc [.ref (ad 0), .int a1, .int a2, .int a3, .int a4, .int a5] (xPre mS 23 G ad μ)) (xQi mS 23 G ad K) 0 0 (xR 23 ad) := by
  refine x_ent (nL := 13) (own := RX7) (by decide) rfl hI (Nat.le_of_ble_eq_true rfl) ?_
  intro p e s m args below meth c H locs ls Q X hr hlk hQ M hl
  have hx := X.1.1
  have hb := X.1.2.1
  have hown := X.1.2.2.2.1
  have hts := X.1.2.2.2.2
  have hl : lv_has ls 13 [(0, .ref (ad 0)), (1, .int a1), (2, .int a2), (3, .int a3), (4, .int a4), (5, .int a5)] := hl
  unfold wp_X7_takenFor at hf
  refine lv_aload_n hx hb dX7_takenFor_0 rfl (lv_at hl 0 rfl) ?_
  refine lv_iload_n hx hb dX7_takenFor_1 rfl (lv_at hl 2 rfl) ?_
  refine lv_iload_n hx hb dX7_takenFor_2 rfl (lv_at hl 3 rfl) ?_
  refine lv_iload hx hb dX7_takenFor_3 (lv_at hl 4 rfl) ?_
  refine lv_ldc2 (v := (3 : Int64)) hx hb hown (hts _ kc_X7_147) dX7_takenFor_5 ?_
  refine lv_iload_n hx hb dX7_takenFor_8 rfl (lv_at hl 1 rfl) ?_
  refine x_ciP (x_rS (As := [.int a1]) (rest := [.long (3 : Int64), .int a4, .int a3, .int a2, .ref (ad 0)]) X M (cm_X7_isDawn l G ad hI n a1 μ _ hf) mc_X7_isDawn ms_X7_isDawn lk_X7_180 mn_X7_isDawn hl ⟨⟨Nat.le_of_ble_eq_true rfl, Nat.le_of_ble_eq_true rfl⟩, rfl, Nat.le_of_ble_eq_true rfl, Nat.zero_le _, Nat.zero_le _⟩ rfl dX7_takenFor_9) M (fun r_9 H locs hf M => ?_)
  try dsimp only at hf
  refine xjn_w hf (fun (v0_31 : Int32) => ∀ (H : Heap) (locs : List Loc) (ls : Array Slot), xS mS 23 G ad s μ H locs → lv_has ls 13 [(0, .ref (ad 0)), (1, .int a1), (2, .int a2), (4, .int a4), (5, .int a5)] → W p l e (rmo 4 94) s m args below meth c H locs 0 0 Q (F0 m 31 ls [.int v0_31, .long (3 : Int64), .int a4, .int a3, .int a2, .ref (ad 0)])) ?_ ?_
  · intro v0_31 hf
    intro H locs ls M hl
    refine x_ci (x_rV (As := [.int a2, .int a3, .int a4, .long (3 : Int64), .int v0_31]) (rest := []) X M (cm_X7_barred l G ad hI n a2 a3 a4 (3 : Int64) v0_31 μ _ hf) mc_X7_barred mv_X7_barred lk_X7_131 mn_X7_barred rgm_0 rfl hl ⟨⟨Nat.le_of_ble_eq_true rfl, Nat.le_of_ble_eq_true rfl⟩, rfl, Nat.le_of_ble_eq_true rfl, Nat.zero_le _, Nat.zero_le _⟩ rfl dX7_takenFor_31) M (fun r_31 m_31 H locs hf M => ?_)
    try dsimp only at hf
    refine lv_istore (lv' := [(6, .int r_31), (0, .ref (ad 0)), (1, .int a1), (2, .int a2), (4, .int a4), (5, .int a5)]) hx hb dX7_takenFor_34 hl (by decide) rfl (fun ls hl => ?_)
    refine lv_iload hx hb dX7_takenFor_36 (lv_at hl 0 rfl) ?_
    refine lv_if_ge (tgt := 44) hx hb dX7_takenFor_38 (by decide) (fun c_38 => ?_) (fun c_38 => ?_)
    · replace hf := hf.1 c_38
      refine lv_aload_n hx hb dX7_takenFor_44 rfl (lv_at hl 1 rfl) ?_
      refine x_getI X M rgm_0 fd_X7_108 rfl dX7_takenFor_45 ?_
      refine lv_if_ne (tgt := 58) hx hb dX7_takenFor_48 (by decide) (fun c_48 => ?_) (fun c_48 => ?_)
      · replace hf := hf.1 c_48
        refine lv_bipush (v := (60 : Int32)) hx hb dX7_takenFor_58 (by decide) ?_
        refine lv_iload_n hx hb dX7_takenFor_60 rfl (lv_at hl 3 rfl) ?_
        refine lv_imul hx hb dX7_takenFor_61 ?_
        refine lv_iload hx hb dX7_takenFor_62 (lv_at hl 4 rfl) ?_
        refine lv_iadd hx hb dX7_takenFor_64 ?_
        refine lv_topi (fun x7_65 ex7_65 => ?_)
        replace hf := hf x7_65 ex7_65
        refine lv_istore (lv' := [(7, .int x7_65), (6, .int r_31), (0, .ref (ad 0)), (1, .int a1), (2, .int a2), (4, .int a4), (5, .int a5)]) hx hb dX7_takenFor_65 hl (by decide) rfl (fun ls hl => ?_)
        refine lv_iconst (v := (0 : Int32)) hx hb dX7_takenFor_67 (by decide) ?_
        refine lv_istore (lv' := [(8, .int (0 : Int32)), (7, .int x7_65), (6, .int r_31), (0, .ref (ad 0)), (1, .int a1), (2, .int a2), (4, .int a4), (5, .int a5)]) hx hb dX7_takenFor_68 hl (by decide) rfl (fun ls hl => ?_)
        refine xjn_w hf (fun (_ : Unit) => ∀ (H : Heap) (locs : List Loc) (ls : Array Slot), xS mS 23 G ad s m_31 H locs → lv_has ls 13 [(7, .int x7_65), (0, .ref (ad 0)), (1, .int a1), (5, .int a5)] → W p l e (rmo 4 94) s m args below meth c H locs 0 0 Q (F0 m 110 ls [])) ?_ ?_
        · intro s_ hf
          intro H locs ls M hl
          refine lv_aload_n hx hb dX7_takenFor_110 rfl (lv_at hl 1 rfl) ?_
          refine lv_iload_n hx hb dX7_takenFor_111 rfl (lv_at hl 2 rfl) ?_
          refine x_cv (x_rV (As := [.int a1]) (rest := []) X M (cm_X7_goTo l G ad hI n a1 m_31 _ hf) mc_X7_goTo mv_X7_goTo lk_X7_183 mn_X7_goTo rgm_0 rfl hl ⟨⟨Nat.le_of_ble_eq_true rfl, Nat.le_of_ble_eq_true rfl⟩, rfl, Nat.le_of_ble_eq_true rfl, Nat.zero_le _, Nat.zero_le _⟩ rfl dX7_takenFor_112) M (fun m_112 H locs hf M => ?_)
          try dsimp only at hf
          refine lv_bipush (v := ((-9) : Int32)) hx hb dX7_takenFor_115 (by decide) ?_
          refine lv_istore (lv' := [(8, .int ((-9) : Int32)), (7, .int x7_65), (0, .ref (ad 0)), (1, .int a1), (5, .int a5)]) hx hb dX7_takenFor_117 hl (by decide) rfl (fun ls hl => ?_)
          refine lv_iconst (v := (0 : Int32)) hx hb dX7_takenFor_119 (by decide) ?_
          refine lv_istore (lv' := [(9, .int (0 : Int32)), (8, .int ((-9) : Int32)), (7, .int x7_65), (0, .ref (ad 0)), (1, .int a1), (5, .int a5)]) hx hb dX7_takenFor_120 hl (by decide) rfl (fun ls hl => ?_)
          refine lv_iconst (v := (0 : Int32)) hx hb dX7_takenFor_122 (by decide) ?_
          refine lv_istore (lv' := [(10, .int (0 : Int32)), (9, .int (0 : Int32)), (8, .int ((-9) : Int32)), (7, .int x7_65), (0, .ref (ad 0)), (1, .int a1), (5, .int a5)]) hx hb dX7_takenFor_123 hl (by decide) rfl (fun ls hl => ?_)
          refine xjn_w hf (fun (s_ : Int32 × Int32) => match s_ with | (x9_208, x8_208) => ∀ (H : Heap) (locs : List Loc) (ls : Array Slot), xS mS 23 G ad s m_112 H locs → lv_has ls 13 [(9, .int x9_208), (8, .int x8_208), (0, .ref (ad 0)), (5, .int a5)] → W p l e (rmo 4 94) s m args below meth c H locs 0 0 Q (F0 m 208 ls [])) ?_ ?_
          · intro s_ hf
            obtain ⟨x9_208, x8_208⟩ := s_
            try dsimp only at hf ⊢
            intro H locs ls M hl
            refine lv_aload_n hx hb dX7_takenFor_208 rfl (lv_at hl 2 rfl) ?_
            refine lv_iload hx hb dX7_takenFor_209 (lv_at hl 3 rfl) ?_
            refine lv_if_ne (tgt := 219) hx hb dX7_takenFor_211 (by decide) (fun c_211 => ?_) (fun c_211 => ?_)
            · replace hf := hf.1 c_211
              refine lv_iload hx hb dX7_takenFor_219 (lv_at hl 0 rfl) ?_
              refine x_ci (x_rV (As := [.int x9_208]) (rest := []) X M (cm_X7_refused l G ad hI n x9_208 m_112 _ hf) mc_X7_refused mv_X7_refused lk_X7_91 mn_X7_refused rgm_0 rfl hl ⟨⟨Nat.le_of_ble_eq_true rfl, Nat.le_of_ble_eq_true rfl⟩, rfl, Nat.le_of_ble_eq_true rfl, Nat.zero_le _, Nat.zero_le _⟩ rfl dX7_takenFor_221) M (fun r_221 m_221 H locs hf M => ?_)
              try dsimp only at hf
              rw [hQ]
              exact x_iret X M hr hlk dX7_takenFor_224 hf
            · replace hf := hf.2 c_211
              refine lv_iload hx hb dX7_takenFor_214 (lv_at hl 1 rfl) ?_
              refine lv_goto (tgt := 221) hx hb dX7_takenFor_216 (by decide) ?_
              refine x_ci (x_rV (As := [.int x8_208]) (rest := []) X M (cm_X7_refused l G ad hI n x8_208 m_112 _ hf) mc_X7_refused mv_X7_refused lk_X7_91 mn_X7_refused rgm_0 rfl hl ⟨⟨Nat.le_of_ble_eq_true rfl, Nat.le_of_ble_eq_true rfl⟩, rfl, Nat.le_of_ble_eq_true rfl, Nat.zero_le _, Nat.zero_le _⟩ rfl dX7_takenFor_221) M (fun r_221 m_221 H locs hf M => ?_)
              try dsimp only at hf
              rw [hQ]
              exact x_iret X M hr hlk dX7_takenFor_224 hf
          · intro J208 hJ208 hf
            refine xlp_w hf (fun (s_ : Int32 × Int32 × Int32) => match s_ with | (x10_125, x9_125, x8_125) => ∀ (H : Heap) (locs : List Loc) (ls : Array Slot), xS mS 23 G ad s m_112 H locs → lv_has ls 13 [(10, .int x10_125), (9, .int x9_125), (8, .int x8_125), (7, .int x7_65), (0, .ref (ad 0)), (5, .int a5)] → W p l e (rmo 4 94) s m args below meth c H locs 0 0 Q (F0 m 125 ls [])) ?_ _ _ _ M (lv_sub hl [0, 1, 2, 3, 4, 6] rfl)
            intro again125 hagain125 s_ hf
            obtain ⟨x10_125, x9_125, x8_125⟩ := s_
            try dsimp only at hf ⊢
            intro H locs ls M hl
            refine lv_iload hx hb dX7_takenFor_125 (lv_at hl 0 rfl) ?_
            refine lv_aload_n hx hb dX7_takenFor_127 rfl (lv_at hl 4 rfl) ?_
            refine x_getI X M rgm_0 fd_X7_108 rfl dX7_takenFor_128 ?_
            refine lv_icmp_ge (tgt := 208) hx hb dX7_takenFor_131 (by decide) (fun c_131 => ?_) (fun c_131 => ?_)
            · replace hf := hf.1 c_131
              exact hJ208 (x9_125, x8_125) hf _ _ _ M (lv_sub hl [1, 2, 4, 5] rfl)
            · replace hf := hf.2 c_131
              refine lv_iconst (v := (0 : Int32)) hx hb dX7_takenFor_134 (by decide) ?_
              refine lv_istore (lv' := [(11, .int (0 : Int32)), (10, .int x10_125), (9, .int x9_125), (8, .int x8_125), (7, .int x7_65), (0, .ref (ad 0)), (5, .int a5)]) hx hb dX7_takenFor_135 hl (by decide) rfl (fun ls hl => ?_)
              refine lv_iconst (v := (0 : Int32)) hx hb dX7_takenFor_137 (by decide) ?_
              refine lv_istore (lv' := [(12, .int (0 : Int32)), (11, .int (0 : Int32)), (10, .int x10_125), (9, .int x9_125), (8, .int x8_125), (7, .int x7_65), (0, .ref (ad 0)), (5, .int a5)]) hx hb dX7_takenFor_138 hl (by decide) rfl (fun ls hl => ?_)
              refine xjn_w hf (fun (x11_182 : Int32) => ∀ (H : Heap) (locs : List Loc) (ls : Array Slot), xS mS 23 G ad s m_112 H locs → lv_has ls 13 [(11, .int x11_182), (10, .int x10_125), (9, .int x9_125), (8, .int x8_125), (7, .int x7_65), (0, .ref (ad 0)), (5, .int a5)] → W p l e (rmo 4 94) s m args below meth c H locs 0 0 Q (F0 m 182 ls [])) ?_ ?_
              · intro x11_182 hf
                intro H locs ls M hl
                refine lv_iload hx hb dX7_takenFor_182 (lv_at hl 3 rfl) ?_
                refine lv_if_lt (tgt := 194) hx hb dX7_takenFor_184 (by decide) (fun c_184 => ?_) (fun c_184 => ?_)
                · replace hf := hf.1 c_184
                  refine lv_iload hx hb dX7_takenFor_194 (lv_at hl 1 rfl) ?_
                  refine lv_istore (lv' := [(8, .int x10_125), (11, .int x11_182), (10, .int x10_125), (9, .int x9_125), (7, .int x7_65), (0, .ref (ad 0)), (5, .int a5)]) hx hb dX7_takenFor_196 hl (by decide) rfl (fun ls hl => ?_)
                  refine lv_iload hx hb dX7_takenFor_198 (lv_at hl 1 rfl) ?_
                  refine lv_istore (lv' := [(9, .int x11_182), (8, .int x10_125), (11, .int x11_182), (10, .int x10_125), (7, .int x7_65), (0, .ref (ad 0)), (5, .int a5)]) hx hb dX7_takenFor_200 hl (by decide) rfl (fun ls hl => ?_)
                  obtain ⟨x10_202, ex10_202⟩ : ∃ y : Int32, y = x10_125 + 1 := ⟨_, rfl⟩
                  replace hf := hf x10_202 ex10_202
                  refine lv_iinc (v := x10_202) (lv' := [(10, .int x10_202), (9, .int x11_182), (8, .int x10_125), (11, .int x11_182), (7, .int x7_65), (0, .ref (ad 0)), (5, .int a5)]) hx hb dX7_takenFor_202 hl (k := 3) rfl (by rw [ex10_202]; rfl) (by decide) rfl (fun ls hl => ?_)
                  refine lv_goto (tgt := 125) hx hb dX7_takenFor_205 (by decide) ?_
                  exact hagain125 (x10_202, x11_182, x10_125) hf _ _ _ M (lv_sub hl [0, 1, 2, 4, 5, 6] rfl)
                · replace hf := hf.2 c_184
                  refine lv_iload hx hb dX7_takenFor_187 (lv_at hl 0 rfl) ?_
                  refine lv_iload hx hb dX7_takenFor_189 (lv_at hl 2 rfl) ?_
                  refine lv_icmp_ge (tgt := 202) hx hb dX7_takenFor_191 (by decide) (fun c_191 => ?_) (fun c_191 => ?_)
                  · replace hf := hf.1 c_191
                    obtain ⟨x10_202, ex10_202⟩ : ∃ y : Int32, y = x10_125 + 1 := ⟨_, rfl⟩
                    replace hf := hf x10_202 ex10_202
                    refine lv_iinc (v := x10_202) (lv' := [(10, .int x10_202), (11, .int x11_182), (9, .int x9_125), (8, .int x8_125), (7, .int x7_65), (0, .ref (ad 0)), (5, .int a5)]) hx hb dX7_takenFor_202 hl (k := 1) rfl (by rw [ex10_202]; rfl) (by decide) rfl (fun ls hl => ?_)
                    refine lv_goto (tgt := 125) hx hb dX7_takenFor_205 (by decide) ?_
                    exact hagain125 (x10_202, x9_125, x8_125) hf _ _ _ M (lv_sub hl [0, 2, 3, 4, 5, 6] rfl)
                  · replace hf := hf.2 c_191
                    refine lv_iload hx hb dX7_takenFor_194 (lv_at hl 1 rfl) ?_
                    refine lv_istore (lv' := [(8, .int x10_125), (11, .int x11_182), (10, .int x10_125), (9, .int x9_125), (7, .int x7_65), (0, .ref (ad 0)), (5, .int a5)]) hx hb dX7_takenFor_196 hl (by decide) rfl (fun ls hl => ?_)
                    refine lv_iload hx hb dX7_takenFor_198 (lv_at hl 1 rfl) ?_
                    refine lv_istore (lv' := [(9, .int x11_182), (8, .int x10_125), (11, .int x11_182), (10, .int x10_125), (7, .int x7_65), (0, .ref (ad 0)), (5, .int a5)]) hx hb dX7_takenFor_200 hl (by decide) rfl (fun ls hl => ?_)
                    obtain ⟨x10_202, ex10_202⟩ : ∃ y : Int32, y = x10_125 + 1 := ⟨_, rfl⟩
                    replace hf := hf x10_202 ex10_202
                    refine lv_iinc (v := x10_202) (lv' := [(10, .int x10_202), (9, .int x11_182), (8, .int x10_125), (11, .int x11_182), (7, .int x7_65), (0, .ref (ad 0)), (5, .int a5)]) hx hb dX7_takenFor_202 hl (k := 3) rfl (by rw [ex10_202]; rfl) (by decide) rfl (fun ls hl => ?_)
                    refine lv_goto (tgt := 125) hx hb dX7_takenFor_205 (by decide) ?_
                    exact hagain125 (x10_202, x11_182, x10_125) hf _ _ _ M (lv_sub hl [0, 1, 2, 4, 5, 6] rfl)
              · intro J182 hJ182 hf
                refine xlp_w hf (fun (s_ : Int32 × Int32) => match s_ with | (x12_140, x11_140) => ∀ (H : Heap) (locs : List Loc) (ls : Array Slot), xS mS 23 G ad s m_112 H locs → lv_has ls 13 [(12, .int x12_140), (11, .int x11_140), (10, .int x10_125), (9, .int x9_125), (8, .int x8_125), (7, .int x7_65), (0, .ref (ad 0)), (5, .int a5)] → W p l e (rmo 4 94) s m args below meth c H locs 0 0 Q (F0 m 140 ls [])) ?_ _ _ _ M (lv_sub hl [0, 1, 2, 3, 4, 5, 6, 7] rfl)
                intro again140 hagain140 s_ hf
                obtain ⟨x12_140, x11_140⟩ := s_
                try dsimp only at hf ⊢
                intro H locs ls M hl
                refine lv_iload hx hb dX7_takenFor_140 (lv_at hl 0 rfl) ?_
                refine lv_iconst (v := (3 : Int32)) hx hb dX7_takenFor_142 (by decide) ?_
                refine lv_icmp_ge (tgt := 182) hx hb dX7_takenFor_143 (by decide) (fun c_143 => ?_) (fun c_143 => ?_)
                · replace hf := hf.1 c_143
                  exact hJ182 x11_140 hf _ _ _ M (lv_sub hl [1, 2, 3, 4, 5, 6, 7] rfl)
                · replace hf := hf.2 c_143
                  refine lv_iload hx hb dX7_takenFor_146 (lv_at hl 1 rfl) ?_
                  refine lv_aload_n hx hb dX7_takenFor_148 rfl (lv_at hl 6 rfl) ?_
                  refine x_getR (r := 11) X M rgm_0 fd_X7_41 rfl dX7_takenFor_149 ?_
                  refine lv_iconst (v := (3 : Int32)) hx hb dX7_takenFor_152 (by decide) ?_
                  refine lv_iload hx hb dX7_takenFor_153 (lv_at hl 2 rfl) ?_
                  refine lv_imul hx hb dX7_takenFor_155 ?_
                  refine lv_iload hx hb dX7_takenFor_156 (lv_at hl 0 rfl) ?_
                  refine lv_iadd hx hb dX7_takenFor_158 ?_
                  obtain ⟨g_159, hf⟩ := hf
                  refine x_ild X M rgm_11 g_159 dX7_takenFor_159 ?_
                  refine lv_aload_n hx hb dX7_takenFor_160 rfl (lv_at hl 6 rfl) ?_
                  refine x_getR (r := 21) X M rgm_0 fd_X7_71 rfl dX7_takenFor_161 ?_
                  refine lv_iload hx hb dX7_takenFor_164 (lv_at hl 5 rfl) ?_
                  refine lv_iload hx hb dX7_takenFor_166 (lv_at hl 0 rfl) ?_
                  refine lv_iadd hx hb dX7_takenFor_168 ?_
                  obtain ⟨g_169, hf⟩ := hf
                  refine x_ild X M rgm_21 g_169 dX7_takenFor_169 ?_
                  refine x_ciP (x_rS (As := [.int (m_112 11 (((3 : Int32) * x10_125) + x12_140).toNatClampNeg), .int (m_112 21 (x7_65 + x12_140).toNatClampNeg)]) (rest := [.int x11_140]) X M (cm_X7_off l G ad hI n (m_112 11 (((3 : Int32) * x10_125) + x12_140).toNatClampNeg) (m_112 21 (x7_65 + x12_140).toNatClampNeg) m_112 _ hf) mc_X7_off ms_X7_off lk_X7_213 mn_X7_off hl ⟨⟨Nat.le_of_ble_eq_true rfl, Nat.le_of_ble_eq_true rfl⟩, rfl, Nat.le_of_ble_eq_true rfl, Nat.zero_le _, Nat.zero_le _⟩ rfl dX7_takenFor_170) M (fun r_170 H locs hf M => ?_)
                  try dsimp only at hf
                  refine lv_iadd hx hb dX7_takenFor_173 ?_
                  refine lv_topi (fun x11_174 ex11_174 => ?_)
                  replace hf := hf x11_174 ex11_174
                  refine lv_istore (lv' := [(11, .int x11_174), (12, .int x12_140), (10, .int x10_125), (9, .int x9_125), (8, .int x8_125), (7, .int x7_65), (0, .ref (ad 0)), (5, .int a5)]) hx hb dX7_takenFor_174 hl (by decide) rfl (fun ls hl => ?_)
                  obtain ⟨x12_176, ex12_176⟩ : ∃ y : Int32, y = x12_140 + 1 := ⟨_, rfl⟩
                  replace hf := hf x12_176 ex12_176
                  refine lv_iinc (v := x12_176) (lv' := [(12, .int x12_176), (11, .int x11_174), (10, .int x10_125), (9, .int x9_125), (8, .int x8_125), (7, .int x7_65), (0, .ref (ad 0)), (5, .int a5)]) hx hb dX7_takenFor_176 hl (k := 1) rfl (by rw [ex12_176]; rfl) (by decide) rfl (fun ls hl => ?_)
                  refine lv_goto (tgt := 140) hx hb dX7_takenFor_179 (by decide) ?_
                  exact hagain140 (x12_176, x11_174) hf _ _ _ M (lv_sub hl [0, 1, 2, 3, 4, 5, 6, 7] rfl)
        · intro J110 hJ110 hf
          refine xlp_w hf (fun (x8_70 : Int32) => ∀ (H : Heap) (locs : List Loc) (ls : Array Slot), xS mS 23 G ad s m_31 H locs → lv_has ls 13 [(8, .int x8_70), (7, .int x7_65), (0, .ref (ad 0)), (1, .int a1), (5, .int a5)] → W p l e (rmo 4 94) s m args below meth c H locs 0 0 Q (F0 m 70 ls [])) ?_ _ _ _ M (lv_sub hl [0, 1, 3, 4, 7] rfl)
          intro again70 hagain70 x8_70 hf
          intro H locs ls M hl
          refine lv_iload hx hb dX7_takenFor_70 (lv_at hl 0 rfl) ?_
          refine lv_iconst (v := (3 : Int32)) hx hb dX7_takenFor_72 (by decide) ?_
          refine lv_icmp_ge (tgt := 110) hx hb dX7_takenFor_73 (by decide) (fun c_73 => ?_) (fun c_73 => ?_)
          · replace hf := hf.1 c_73
            exact hJ110 () hf _ _ _ M (lv_sub hl [1, 2, 3, 4] rfl)
          · replace hf := hf.2 c_73
            refine lv_aload_n hx hb dX7_takenFor_76 rfl (lv_at hl 2 rfl) ?_
            refine x_getR (r := 21) X M rgm_0 fd_X7_71 rfl dX7_takenFor_77 ?_
            refine lv_iload hx hb dX7_takenFor_80 (lv_at hl 1 rfl) ?_
            refine lv_iload hx hb dX7_takenFor_82 (lv_at hl 0 rfl) ?_
            refine lv_iadd hx hb dX7_takenFor_84 ?_
            obtain ⟨g_85, hf⟩ := hf
            refine x_ild X M rgm_21 g_85 dX7_takenFor_85 ?_
            refine lv_i2l hx hb dX7_takenFor_86 rfl ?_
            refine lv_lconst (v := (0 : Int64)) hx hb dX7_takenFor_87 (by decide) ?_
            refine lv_ldc2 (v := (999 : Int64)) hx hb hown (hts _ kc_X7_211) dX7_takenFor_88 ?_
            refine x_ciP (x_rS (As := [.long ((m_31 21 (x7_65 + x8_70).toNatClampNeg).toInt64), .long (0 : Int64), .long (999 : Int64)]) (rest := []) X M (cm_X7_in l G ad hI n ((m_31 21 (x7_65 + x8_70).toNatClampNeg).toInt64) (0 : Int64) (999 : Int64) m_31 _ hf) mc_X7_in ms_X7_in lk_X7_97 mn_X7_in hl ⟨⟨Nat.le_of_ble_eq_true rfl, Nat.le_of_ble_eq_true rfl⟩, rfl, Nat.le_of_ble_eq_true rfl, Nat.zero_le _, Nat.zero_le _⟩ rfl dX7_takenFor_91) M (fun r_91 H locs hf M => ?_)
            try dsimp only at hf
            refine lv_if_ne (tgt := 104) hx hb dX7_takenFor_94 (by decide) (fun c_94 => ?_) (fun c_94 => ?_)
            · replace hf := hf.1 c_94
              obtain ⟨x8_104, ex8_104⟩ : ∃ y : Int32, y = x8_70 + 1 := ⟨_, rfl⟩
              replace hf := hf x8_104 ex8_104
              refine lv_iinc (v := x8_104) (lv' := [(8, .int x8_104), (7, .int x7_65), (0, .ref (ad 0)), (1, .int a1), (5, .int a5)]) hx hb dX7_takenFor_104 hl (k := 0) rfl (by rw [ex8_104]; rfl) (by decide) rfl (fun ls hl => ?_)
              refine lv_goto (tgt := 70) hx hb dX7_takenFor_107 (by decide) ?_
              exact hagain70 x8_104 hf _ _ _ M (lv_sub hl [0, 1, 2, 3, 4] rfl)
            · replace hf := hf.2 c_94
              refine lv_aload_n hx hb dX7_takenFor_97 rfl (lv_at hl 2 rfl) ?_
              refine lv_bipush (v := ((-2) : Int32)) hx hb dX7_takenFor_98 (by decide) ?_
              refine x_ci (x_rV (As := [.int ((-2) : Int32)]) (rest := []) X M (cm_X7_refused l G ad hI n ((-2) : Int32) m_31 _ hf) mc_X7_refused mv_X7_refused lk_X7_91 mn_X7_refused rgm_0 rfl hl ⟨⟨Nat.le_of_ble_eq_true rfl, Nat.le_of_ble_eq_true rfl⟩, rfl, Nat.le_of_ble_eq_true rfl, Nat.zero_le _, Nat.zero_le _⟩ rfl dX7_takenFor_100) M (fun r_100 m_100 H locs hf M => ?_)
              try dsimp only at hf
              rw [hQ]
              exact x_iret X M hr hlk dX7_takenFor_103 hf
      · replace hf := hf.2 c_48
        refine lv_aload_n hx hb dX7_takenFor_51 rfl (lv_at hl 1 rfl) ?_
        refine lv_bipush (v := ((-3) : Int32)) hx hb dX7_takenFor_52 (by decide) ?_
        refine x_ci (x_rV (As := [.int ((-3) : Int32)]) (rest := []) X M (cm_X7_refused l G ad hI n ((-3) : Int32) m_31 _ hf) mc_X7_refused mv_X7_refused lk_X7_91 mn_X7_refused rgm_0 rfl hl ⟨⟨Nat.le_of_ble_eq_true rfl, Nat.le_of_ble_eq_true rfl⟩, rfl, Nat.le_of_ble_eq_true rfl, Nat.zero_le _, Nat.zero_le _⟩ rfl dX7_takenFor_54) M (fun r_54 m_54 H locs hf M => ?_)
        try dsimp only at hf
        rw [hQ]
        exact x_iret X M hr hlk dX7_takenFor_57 hf
    · replace hf := hf.2 c_38
      refine lv_iload hx hb dX7_takenFor_41 (lv_at hl 0 rfl) ?_
      rw [hQ]
      exact x_iret X M hr hlk dX7_takenFor_43 hf
  · intro J31 hJ31 hf
    refine xjn_w hf (fun (_ : Unit) => ∀ (H : Heap) (locs : List Loc) (ls : Array Slot), xS mS 23 G ad s μ H locs → lv_has ls 13 [(0, .ref (ad 0)), (1, .int a1), (2, .int a2), (4, .int a4), (5, .int a5)] → W p l e (rmo 4 94) s m args below meth c H locs 0 0 Q (F0 m 30 ls [.long (3 : Int64), .int a4, .int a3, .int a2, .ref (ad 0)])) ?_ ?_
    · intro s_ hf
      intro H locs ls M hl
      refine lv_iconst (v := (0 : Int32)) hx hb dX7_takenFor_30 (by decide) ?_
      exact hJ31 (0 : Int32) hf _ _ _ M (lv_sub hl [0, 1, 2, 3, 4] rfl)
    · intro J30 hJ30 hf
      refine lv_if_eq (tgt := 30) hx hb dX7_takenFor_12 (by decide) (fun c_12 => ?_) (fun c_12 => ?_)
      · replace hf := hf.1 c_12
        exact hJ30 () hf _ _ _ M (lv_sub hl [0, 1, 2, 4, 5] rfl)
      · replace hf := hf.2 c_12
        refine lv_iload hx hb dX7_takenFor_15 (lv_at hl 5 rfl) ?_
        refine lv_i2l hx hb dX7_takenFor_17 rfl ?_
        refine lv_lconst (v := (0 : Int64)) hx hb dX7_takenFor_18 (by decide) ?_
        refine lv_lconst (v := (1 : Int64)) hx hb dX7_takenFor_19 (by decide) ?_
        refine x_ciP (x_rS (As := [.long (a5.toInt64), .long (0 : Int64), .long (1 : Int64)]) (rest := [.long (3 : Int64), .int a4, .int a3, .int a2, .ref (ad 0)]) X M (cm_X7_in l G ad hI n (a5.toInt64) (0 : Int64) (1 : Int64) μ _ hf) mc_X7_in ms_X7_in lk_X7_97 mn_X7_in hl ⟨⟨Nat.le_of_ble_eq_true rfl, Nat.le_of_ble_eq_true rfl⟩, rfl, Nat.le_of_ble_eq_true rfl, Nat.zero_le _, Nat.zero_le _⟩ rfl dX7_takenFor_20) M (fun r_20 H locs hf M => ?_)
        try dsimp only at hf
        refine lv_if_eq (tgt := 30) hx hb dX7_takenFor_23 (by decide) (fun c_23 => ?_) (fun c_23 => ?_)
        · replace hf := hf.1 c_23
          exact hJ30 () hf _ _ _ M (lv_sub hl [0, 1, 2, 4, 5] rfl)
        · replace hf := hf.2 c_23
          refine lv_iconst (v := (1 : Int32)) hx hb dX7_takenFor_26 (by decide) ?_
          refine lv_goto (tgt := 31) hx hb dX7_takenFor_27 (by decide) ?_
          exact hJ31 (1 : Int32) hf _ _ _ M (lv_sub hl [0, 1, 2, 4, 5] rfl)
def wp_X7_whose (n : Nat) (a1 : Int32) (a2 : Int32) (μ : xM) (K : Int32 → xM → Prop) : Prop :=
  wp_X7_isDawn n a2 μ (fun r_1 : Int32 => ((¬ r_1 = 0 → wp_X7_goTo n a2 μ (fun m_12 : xM => xlp (fun (again20 : (Int32 × Int32) → Prop) => fun (s_ : Int32 × Int32) => match s_ with | (x4_20, x3_20) => (((m_12 0 1) ≤ x4_20 → K x3_20 m_12) ∧ (¬ (m_12 0 1) ≤ x4_20 → (vp_in x4_20 7 ∧ ((¬ (m_12 12 x4_20.toNatClampNeg) = a1 → (∀ x3_50 : Int32, x3_50 = x3_20 ||| (0 : Int32) → (∀ x4_51 : Int32, x4_51 = x4_20 + 1 → again20 (x4_51, x3_50)))) ∧ ((m_12 12 x4_20.toNatClampNeg) = a1 → (∀ x3_50 : Int32, x3_50 = x3_20 ||| ((1 : Int32) <<< (x4_20 &&& 31)) → (∀ x4_51 : Int32, x4_51 = x4_20 + 1 → again20 (x4_51, x3_50))))))))) n ((0 : Int32), (0 : Int32)))) ∧ (r_1 = 0 → K ((-2) : Int32) μ)))
set_option maxHeartbeats 4000000 in
set_option maxRecDepth 100000 in
theorem cm_X7_whose (l : Launch) (G : xG) (ad : Nat → Nat) (hI : xI 23 ad) (n : Nat) (a1 : Int32) (a2 : Int32) (μ : xM) (K : Int32 → xM → Prop) (hf : wp_X7_whose n a1 a2 μ K) : Met l yX7_whose (Cond.code yX7_whose cX7_whose 5 (some .int) :: xw_all) (rmo 4 94) (va_Pc [.ref (ad 0), .int a1, .int a2] (xPre mS 23 G ad μ)) (xQi mS 23 G ad K) 0 0 (xR 23 ad) := by
  refine x_ent (nL := 5) (own := RX7) (by decide) rfl hI (Nat.le_of_ble_eq_true rfl) ?_
  intro p e s m args below meth c H locs ls Q X hr hlk hQ M hl
  have hx := X.1.1
  have hb := X.1.2.1
  have hown := X.1.2.2.2.1
  have hts := X.1.2.2.2.2
  have hl : lv_has ls 5 [(0, .ref (ad 0)), (1, .int a1), (2, .int a2)] := hl
  unfold wp_X7_whose at hf
  refine lv_iload_n hx hb dX7_whose_0 rfl (lv_at hl 2 rfl) ?_
  refine x_ciP (x_rS (As := [.int a2]) (rest := []) X M (cm_X7_isDawn l G ad hI n a2 μ _ hf) mc_X7_isDawn ms_X7_isDawn lk_X7_180 mn_X7_isDawn hl ⟨⟨Nat.le_of_ble_eq_true rfl, Nat.le_of_ble_eq_true rfl⟩, rfl, Nat.le_of_ble_eq_true rfl, Nat.zero_le _, Nat.zero_le _⟩ rfl dX7_whose_1) M (fun r_1 H locs hf M => ?_)
  try dsimp only at hf
  refine lv_if_ne (tgt := 10) hx hb dX7_whose_4 (by decide) (fun c_4 => ?_) (fun c_4 => ?_)
  · replace hf := hf.1 c_4
    refine lv_aload_n hx hb dX7_whose_10 rfl (lv_at hl 0 rfl) ?_
    refine lv_iload_n hx hb dX7_whose_11 rfl (lv_at hl 2 rfl) ?_
    refine x_cv (x_rV (As := [.int a2]) (rest := []) X M (cm_X7_goTo l G ad hI n a2 μ _ hf) mc_X7_goTo mv_X7_goTo lk_X7_183 mn_X7_goTo rgm_0 rfl hl ⟨⟨Nat.le_of_ble_eq_true rfl, Nat.le_of_ble_eq_true rfl⟩, rfl, Nat.le_of_ble_eq_true rfl, Nat.zero_le _, Nat.zero_le _⟩ rfl dX7_whose_12) M (fun m_12 H locs hf M => ?_)
    try dsimp only at hf
    refine lv_iconst (v := (0 : Int32)) hx hb dX7_whose_15 (by decide) ?_
    refine lv_istore_n (lv' := [(3, .int (0 : Int32)), (0, .ref (ad 0)), (1, .int a1), (2, .int a2)]) hx hb dX7_whose_16 rfl hl (by decide) rfl (fun ls hl => ?_)
    refine lv_iconst (v := (0 : Int32)) hx hb dX7_whose_17 (by decide) ?_
    refine lv_istore (lv' := [(4, .int (0 : Int32)), (3, .int (0 : Int32)), (0, .ref (ad 0)), (1, .int a1), (2, .int a2)]) hx hb dX7_whose_18 hl (by decide) rfl (fun ls hl => ?_)
    refine xlp_w hf (fun (s_ : Int32 × Int32) => match s_ with | (x4_20, x3_20) => ∀ (H : Heap) (locs : List Loc) (ls : Array Slot), xS mS 23 G ad s m_12 H locs → lv_has ls 5 [(4, .int x4_20), (3, .int x3_20), (0, .ref (ad 0)), (1, .int a1)] → W p l e (rmo 4 94) s m args below meth c H locs 0 0 Q (F0 m 20 ls [])) ?_ _ _ _ M (lv_sub hl [0, 1, 2, 3] rfl)
    intro again20 hagain20 s_ hf
    obtain ⟨x4_20, x3_20⟩ := s_
    try dsimp only at hf ⊢
    intro H locs ls M hl
    refine lv_iload hx hb dX7_whose_20 (lv_at hl 0 rfl) ?_
    refine lv_aload_n hx hb dX7_whose_22 rfl (lv_at hl 2 rfl) ?_
    refine x_getI X M rgm_0 fd_X7_108 rfl dX7_whose_23 ?_
    refine lv_icmp_ge (tgt := 57) hx hb dX7_whose_26 (by decide) (fun c_26 => ?_) (fun c_26 => ?_)
    · replace hf := hf.1 c_26
      refine lv_iload_n hx hb dX7_whose_57 rfl (lv_at hl 1 rfl) ?_
      rw [hQ]
      exact x_iret X M hr hlk dX7_whose_58 hf
    · replace hf := hf.2 c_26
      refine lv_iload_n hx hb dX7_whose_29 rfl (lv_at hl 1 rfl) ?_
      refine lv_aload_n hx hb dX7_whose_30 rfl (lv_at hl 2 rfl) ?_
      refine x_getR (r := 12) X M rgm_0 fd_X7_44 rfl dX7_whose_31 ?_
      refine lv_iload hx hb dX7_whose_34 (lv_at hl 0 rfl) ?_
      obtain ⟨g_36, hf⟩ := hf
      refine x_ild X M rgm_12 g_36 dX7_whose_36 ?_
      refine lv_iload_n hx hb dX7_whose_37 rfl (lv_at hl 3 rfl) ?_
      refine lv_icmp_ne (tgt := 48) hx hb dX7_whose_38 (by decide) (fun c_38 => ?_) (fun c_38 => ?_)
      · replace hf := hf.1 c_38
        refine lv_iconst (v := (0 : Int32)) hx hb dX7_whose_48 (by decide) ?_
        refine lv_ior hx hb dX7_whose_49 ?_
        refine lv_topi (fun x3_50 ex3_50 => ?_)
        replace hf := hf x3_50 ex3_50
        refine lv_istore_n (lv' := [(3, .int x3_50), (4, .int x4_20), (0, .ref (ad 0)), (1, .int a1)]) hx hb dX7_whose_50 rfl hl (by decide) rfl (fun ls hl => ?_)
        obtain ⟨x4_51, ex4_51⟩ : ∃ y : Int32, y = x4_20 + 1 := ⟨_, rfl⟩
        replace hf := hf x4_51 ex4_51
        refine lv_iinc (v := x4_51) (lv' := [(4, .int x4_51), (3, .int x3_50), (0, .ref (ad 0)), (1, .int a1)]) hx hb dX7_whose_51 hl (k := 1) rfl (by rw [ex4_51]; rfl) (by decide) rfl (fun ls hl => ?_)
        refine lv_goto (tgt := 20) hx hb dX7_whose_54 (by decide) ?_
        exact hagain20 (x4_51, x3_50) hf _ _ _ M (lv_sub hl [0, 1, 2, 3] rfl)
      · replace hf := hf.2 c_38
        refine lv_iconst (v := (1 : Int32)) hx hb dX7_whose_41 (by decide) ?_
        refine lv_iload hx hb dX7_whose_42 (lv_at hl 0 rfl) ?_
        refine lv_ishl hx hb dX7_whose_44 ?_
        refine lv_goto (tgt := 49) hx hb dX7_whose_45 (by decide) ?_
        refine lv_ior hx hb dX7_whose_49 ?_
        refine lv_topi (fun x3_50 ex3_50 => ?_)
        replace hf := hf x3_50 ex3_50
        refine lv_istore_n (lv' := [(3, .int x3_50), (4, .int x4_20), (0, .ref (ad 0)), (1, .int a1)]) hx hb dX7_whose_50 rfl hl (by decide) rfl (fun ls hl => ?_)
        obtain ⟨x4_51, ex4_51⟩ : ∃ y : Int32, y = x4_20 + 1 := ⟨_, rfl⟩
        replace hf := hf x4_51 ex4_51
        refine lv_iinc (v := x4_51) (lv' := [(4, .int x4_51), (3, .int x3_50), (0, .ref (ad 0)), (1, .int a1)]) hx hb dX7_whose_51 hl (k := 1) rfl (by rw [ex4_51]; rfl) (by decide) rfl (fun ls hl => ?_)
        refine lv_goto (tgt := 20) hx hb dX7_whose_54 (by decide) ?_
        exact hagain20 (x4_51, x3_50) hf _ _ _ M (lv_sub hl [0, 1, 2, 3] rfl)
  · replace hf := hf.2 c_4
    refine lv_bipush (v := ((-2) : Int32)) hx hb dX7_whose_7 (by decide) ?_
    rw [hQ]
    exact x_iret X M hr hlk dX7_whose_9 hf
def wp_X7_reading (n : Nat) (a1 : Int32) (a2 : Int32) (a3 : Int32) (a4 : Int32) (μ : xM) (K : Int32 → xM → Prop) : Prop :=
  wp_X7_noOne n a1 μ (fun r_2 : Int32 => ((¬ r_2 = 0 → K ((-1) : Int32) μ) ∧ (r_2 = 0 → wp_X7_noPart n a2 μ (fun r_9 : Int32 => ((r_9 = 0 → wp_X7_isDawn n a3 μ (fun r_18 : Int32 => ((r_18 = 0 → K ((-2) : Int32) μ) ∧ (¬ r_18 = 0 → wp_X7_in n (a4.toInt64) (0 : Int64) (99 : Int64) μ (fun r_31 : Int32 => ((¬ r_31 = 0 → ((¬ (μ 0 19) = (8 : Int32) → (vp_in (μ 0 19) 8 ∧ (∀ m_61 : xM, m_61 = xu μ 15 (μ 0 19).toNatClampNeg a1 → (vp_in (m_61 0 19) 8 ∧ (∀ m_71 : xM, m_71 = xu m_61 16 (m_61 0 19).toNatClampNeg a2 → (vp_in (m_71 0 19) 8 ∧ (∀ m_81 : xM, m_81 = xu m_71 17 (m_71 0 19).toNatClampNeg a3 → (vp_in (m_81 0 19) 8 ∧ (∀ m_92 : xM, m_92 = xu m_81 18 (m_81 0 19).toNatClampNeg a4 → (∀ m_100 : xM, m_100 = xu m_92 0 19 ((m_92 0 19) + (1 : Int32)) → K ((m_100 0 19) - (1 : Int32)) m_100)))))))))) ∧ ((μ 0 19) = (8 : Int32) → K ((-4) : Int32) μ))) ∧ (r_31 = 0 → K ((-2) : Int32) μ))))))) ∧ (¬ r_9 = 0 → K ((-1) : Int32) μ))))))
set_option maxHeartbeats 4000000 in
set_option maxRecDepth 100000 in
theorem cm_X7_reading (l : Launch) (G : xG) (ad : Nat → Nat) (hI : xI 23 ad) (n : Nat) (a1 : Int32) (a2 : Int32) (a3 : Int32) (a4 : Int32) (μ : xM) (K : Int32 → xM → Prop) (hf : wp_X7_reading n a1 a2 a3 a4 μ K) : Met l yX7_reading (Cond.code yX7_reading cX7_reading 5 (some .int) :: xw_all) (rmo 2 46) (va_Pc [.ref (ad 0), .int a1, .int a2, .int a3, .int a4] (xPre mS 23 G ad μ)) (xQi mS 23 G ad K) 0 0 (xR 23 ad) := by
  refine x_ent (nL := 5) (own := RX7) (by decide) rfl hI (Nat.le_of_ble_eq_true rfl) ?_
  intro p e s m args below meth c H locs ls Q X hr hlk hQ M hl
  have hx := X.1.1
  have hb := X.1.2.1
  have hown := X.1.2.2.2.1
  have hts := X.1.2.2.2.2
  have hl : lv_has ls 5 [(0, .ref (ad 0)), (1, .int a1), (2, .int a2), (3, .int a3), (4, .int a4)] := hl
  unfold wp_X7_reading at hf
  refine lv_aload_n hx hb dX7_reading_0 rfl (lv_at hl 0 rfl) ?_
  refine lv_iload_n hx hb dX7_reading_1 rfl (lv_at hl 1 rfl) ?_
  refine x_ciP (x_rV (As := [.int a1]) (rest := []) X M (cm_X7_noOne l G ad hI n a1 μ _ hf) mc_X7_noOne mv_X7_noOne lk_X7_144 mn_X7_noOne rgm_0 rfl hl ⟨⟨Nat.le_of_ble_eq_true rfl, Nat.le_of_ble_eq_true rfl⟩, rfl, Nat.le_of_ble_eq_true rfl, Nat.zero_le _, Nat.zero_le _⟩ rfl dX7_reading_2) M (fun r_2 H locs hf M => ?_)
  try dsimp only at hf
  refine lv_if_ne (tgt := 15) hx hb dX7_reading_5 (by decide) (fun c_5 => ?_) (fun c_5 => ?_)
  · replace hf := hf.1 c_5
    refine lv_iconst (v := ((-1) : Int32)) hx hb dX7_reading_15 (by decide) ?_
    rw [hQ]
    exact x_iret X M hr hlk dX7_reading_16 hf
  · replace hf := hf.2 c_5
    refine lv_iload_n hx hb dX7_reading_8 rfl (lv_at hl 2 rfl) ?_
    refine x_ciP (x_rS (As := [.int a2]) (rest := []) X M (cm_X7_noPart l G ad hI n a2 μ _ hf) mc_X7_noPart ms_X7_noPart lk_X7_177 mn_X7_noPart hl ⟨⟨Nat.le_of_ble_eq_true rfl, Nat.le_of_ble_eq_true rfl⟩, rfl, Nat.le_of_ble_eq_true rfl, Nat.zero_le _, Nat.zero_le _⟩ rfl dX7_reading_9) M (fun r_9 H locs hf M => ?_)
    try dsimp only at hf
    refine lv_if_eq (tgt := 17) hx hb dX7_reading_12 (by decide) (fun c_12 => ?_) (fun c_12 => ?_)
    · replace hf := hf.1 c_12
      refine lv_iload_n hx hb dX7_reading_17 rfl (lv_at hl 3 rfl) ?_
      refine x_ciP (x_rS (As := [.int a3]) (rest := []) X M (cm_X7_isDawn l G ad hI n a3 μ _ hf) mc_X7_isDawn ms_X7_isDawn lk_X7_180 mn_X7_isDawn hl ⟨⟨Nat.le_of_ble_eq_true rfl, Nat.le_of_ble_eq_true rfl⟩, rfl, Nat.le_of_ble_eq_true rfl, Nat.zero_le _, Nat.zero_le _⟩ rfl dX7_reading_18) M (fun r_18 H locs hf M => ?_)
      try dsimp only at hf
      refine lv_if_eq (tgt := 37) hx hb dX7_reading_21 (by decide) (fun c_21 => ?_) (fun c_21 => ?_)
      · replace hf := hf.1 c_21
        refine lv_bipush (v := ((-2) : Int32)) hx hb dX7_reading_37 (by decide) ?_
        rw [hQ]
        exact x_iret X M hr hlk dX7_reading_39 hf
      · replace hf := hf.2 c_21
        refine lv_iload hx hb dX7_reading_24 (lv_at hl 4 rfl) ?_
        refine lv_i2l hx hb dX7_reading_26 rfl ?_
        refine lv_lconst (v := (0 : Int64)) hx hb dX7_reading_27 (by decide) ?_
        refine lv_ldc2 (v := (99 : Int64)) hx hb hown (hts _ kc_X7_216) dX7_reading_28 ?_
        refine x_ciP (x_rS (As := [.long (a4.toInt64), .long (0 : Int64), .long (99 : Int64)]) (rest := []) X M (cm_X7_in l G ad hI n (a4.toInt64) (0 : Int64) (99 : Int64) μ _ hf) mc_X7_in ms_X7_in lk_X7_97 mn_X7_in hl ⟨⟨Nat.le_of_ble_eq_true rfl, Nat.le_of_ble_eq_true rfl⟩, rfl, Nat.le_of_ble_eq_true rfl, Nat.zero_le _, Nat.zero_le _⟩ rfl dX7_reading_31) M (fun r_31 H locs hf M => ?_)
        try dsimp only at hf
        refine lv_if_ne (tgt := 40) hx hb dX7_reading_34 (by decide) (fun c_34 => ?_) (fun c_34 => ?_)
        · replace hf := hf.1 c_34
          refine lv_aload_n hx hb dX7_reading_40 rfl (lv_at hl 0 rfl) ?_
          refine x_getI X M rgm_0 fd_X7_141 rfl dX7_reading_41 ?_
          refine lv_bipush (v := (8 : Int32)) hx hb dX7_reading_44 (by decide) ?_
          refine lv_icmp_ne (tgt := 52) hx hb dX7_reading_46 (by decide) (fun c_46 => ?_) (fun c_46 => ?_)
          · replace hf := hf.1 c_46
            refine lv_aload_n hx hb dX7_reading_52 rfl (lv_at hl 0 rfl) ?_
            refine x_getR (r := 15) X M rgm_0 fd_X7_53 rfl dX7_reading_53 ?_
            refine lv_aload_n hx hb dX7_reading_56 rfl (lv_at hl 0 rfl) ?_
            refine x_getI X M rgm_0 fd_X7_141 rfl dX7_reading_57 ?_
            refine lv_iload_n hx hb dX7_reading_60 rfl (lv_at hl 1 rfl) ?_
            obtain ⟨g_61, hf⟩ := hf
            refine x_ist X M rgm_15 g_61 dX7_reading_61 (fun m_61 H locs em_61 M => ?_)
            replace hf := hf m_61 em_61
            refine lv_aload_n hx hb dX7_reading_62 rfl (lv_at hl 0 rfl) ?_
            refine x_getR (r := 16) X M rgm_0 fd_X7_56 rfl dX7_reading_63 ?_
            refine lv_aload_n hx hb dX7_reading_66 rfl (lv_at hl 0 rfl) ?_
            refine x_getI X M rgm_0 fd_X7_141 rfl dX7_reading_67 ?_
            refine lv_iload_n hx hb dX7_reading_70 rfl (lv_at hl 2 rfl) ?_
            obtain ⟨g_71, hf⟩ := hf
            refine x_ist X M rgm_16 g_71 dX7_reading_71 (fun m_71 H locs em_71 M => ?_)
            replace hf := hf m_71 em_71
            refine lv_aload_n hx hb dX7_reading_72 rfl (lv_at hl 0 rfl) ?_
            refine x_getR (r := 17) X M rgm_0 fd_X7_59 rfl dX7_reading_73 ?_
            refine lv_aload_n hx hb dX7_reading_76 rfl (lv_at hl 0 rfl) ?_
            refine x_getI X M rgm_0 fd_X7_141 rfl dX7_reading_77 ?_
            refine lv_iload_n hx hb dX7_reading_80 rfl (lv_at hl 3 rfl) ?_
            obtain ⟨g_81, hf⟩ := hf
            refine x_ist X M rgm_17 g_81 dX7_reading_81 (fun m_81 H locs em_81 M => ?_)
            replace hf := hf m_81 em_81
            refine lv_aload_n hx hb dX7_reading_82 rfl (lv_at hl 0 rfl) ?_
            refine x_getR (r := 18) X M rgm_0 fd_X7_62 rfl dX7_reading_83 ?_
            refine lv_aload_n hx hb dX7_reading_86 rfl (lv_at hl 0 rfl) ?_
            refine x_getI X M rgm_0 fd_X7_141 rfl dX7_reading_87 ?_
            refine lv_iload hx hb dX7_reading_90 (lv_at hl 4 rfl) ?_
            obtain ⟨g_92, hf⟩ := hf
            refine x_ist X M rgm_18 g_92 dX7_reading_92 (fun m_92 H locs em_92 M => ?_)
            replace hf := hf m_92 em_92
            refine lv_aload_n hx hb dX7_reading_93 rfl (lv_at hl 0 rfl) ?_
            refine lv_dup hx hb dX7_reading_94 rfl ?_
            refine x_getI X M rgm_0 fd_X7_141 rfl dX7_reading_95 ?_
            refine lv_iconst (v := (1 : Int32)) hx hb dX7_reading_98 (by decide) ?_
            refine lv_iadd hx hb dX7_reading_99 ?_
            refine x_putI X M rgm_0 fp_X7_141 rfl dX7_reading_100 (fun m_100 H locs em_100 M => ?_)
            replace hf := hf m_100 em_100
            refine lv_aload_n hx hb dX7_reading_103 rfl (lv_at hl 0 rfl) ?_
            refine x_getI X M rgm_0 fd_X7_141 rfl dX7_reading_104 ?_
            refine lv_iconst (v := (1 : Int32)) hx hb dX7_reading_107 (by decide) ?_
            refine lv_isub hx hb dX7_reading_108 ?_
            rw [hQ]
            exact x_iret X M hr hlk dX7_reading_109 hf
          · replace hf := hf.2 c_46
            refine lv_bipush (v := ((-4) : Int32)) hx hb dX7_reading_49 (by decide) ?_
            rw [hQ]
            exact x_iret X M hr hlk dX7_reading_51 hf
        · replace hf := hf.2 c_34
          refine lv_bipush (v := ((-2) : Int32)) hx hb dX7_reading_37 (by decide) ?_
          rw [hQ]
          exact x_iret X M hr hlk dX7_reading_39 hf
    · replace hf := hf.2 c_12
      refine lv_iconst (v := ((-1) : Int32)) hx hb dX7_reading_15 (by decide) ?_
      rw [hQ]
      exact x_iret X M hr hlk dX7_reading_16 hf
def wp_X7_back (n : Nat) (a1 : Int32) (μ : xM) (K : Int32 → xM → Prop) : Prop :=
  wp_X7_in n (a1.toInt64) (0 : Int64) ((μ 0 19).toInt64) μ (fun r_8 : Int32 => ((¬ r_8 = 0 → (∀ m_24 : xM, m_24 = xu μ 0 19 ((μ 0 19) - a1) → K (m_24 0 19) m_24)) ∧ (r_8 = 0 → K ((-2) : Int32) μ)))
set_option maxHeartbeats 4000000 in
set_option maxRecDepth 100000 in
theorem cm_X7_back (l : Launch) (G : xG) (ad : Nat → Nat) (hI : xI 23 ad) (n : Nat) (a1 : Int32) (μ : xM) (K : Int32 → xM → Prop) (hf : wp_X7_back n a1 μ K) : Met l yX7_back (Cond.code yX7_back cX7_back 2 (some .int) :: xw_all) (rmo 1 25) (va_Pc [.ref (ad 0), .int a1] (xPre mS 23 G ad μ)) (xQi mS 23 G ad K) 0 0 (xR 23 ad) := by
  refine x_ent (nL := 2) (own := RX7) (by decide) rfl hI (Nat.le_of_ble_eq_true rfl) ?_
  intro p e s m args below meth c H locs ls Q X hr hlk hQ M hl
  have hx := X.1.1
  have hb := X.1.2.1
  have hown := X.1.2.2.2.1
  have hts := X.1.2.2.2.2
  have hl : lv_has ls 2 [(0, .ref (ad 0)), (1, .int a1)] := hl
  unfold wp_X7_back at hf
  refine lv_iload_n hx hb dX7_back_0 rfl (lv_at hl 1 rfl) ?_
  refine lv_i2l hx hb dX7_back_1 rfl ?_
  refine lv_lconst (v := (0 : Int64)) hx hb dX7_back_2 (by decide) ?_
  refine lv_aload_n hx hb dX7_back_3 rfl (lv_at hl 0 rfl) ?_
  refine x_getI X M rgm_0 fd_X7_141 rfl dX7_back_4 ?_
  refine lv_i2l hx hb dX7_back_7 rfl ?_
  refine x_ciP (x_rS (As := [.long (a1.toInt64), .long (0 : Int64), .long ((μ 0 19).toInt64)]) (rest := []) X M (cm_X7_in l G ad hI n (a1.toInt64) (0 : Int64) ((μ 0 19).toInt64) μ _ hf) mc_X7_in ms_X7_in lk_X7_97 mn_X7_in hl ⟨⟨Nat.le_of_ble_eq_true rfl, Nat.le_of_ble_eq_true rfl⟩, rfl, Nat.le_of_ble_eq_true rfl, Nat.zero_le _, Nat.zero_le _⟩ rfl dX7_back_8) M (fun r_8 H locs hf M => ?_)
  try dsimp only at hf
  refine lv_if_ne (tgt := 17) hx hb dX7_back_11 (by decide) (fun c_11 => ?_) (fun c_11 => ?_)
  · replace hf := hf.1 c_11
    refine lv_aload_n hx hb dX7_back_17 rfl (lv_at hl 0 rfl) ?_
    refine lv_dup hx hb dX7_back_18 rfl ?_
    refine x_getI X M rgm_0 fd_X7_141 rfl dX7_back_19 ?_
    refine lv_iload_n hx hb dX7_back_22 rfl (lv_at hl 1 rfl) ?_
    refine lv_isub hx hb dX7_back_23 ?_
    refine x_putI X M rgm_0 fp_X7_141 rfl dX7_back_24 (fun m_24 H locs em_24 M => ?_)
    replace hf := hf m_24 em_24
    refine lv_aload_n hx hb dX7_back_27 rfl (lv_at hl 0 rfl) ?_
    refine x_getI X M rgm_0 fd_X7_141 rfl dX7_back_28 ?_
    rw [hQ]
    exact x_iret X M hr hlk dX7_back_31 hf
  · replace hf := hf.2 c_11
    refine lv_bipush (v := ((-2) : Int32)) hx hb dX7_back_14 (by decide) ?_
    rw [hQ]
    exact x_iret X M hr hlk dX7_back_16 hf
def wp_X7_areSo (n : Nat)  (μ : xM) (K : Int32 → xM → Prop) : Prop :=
  wp_X7_begin n μ (fun m_1 : xM => xlp (fun (again8 : (Int32 × Int32 × xM) → Prop) => fun (s_ : Int32 × Int32 × xM) => match s_ with | (x2_8, x1_8, m_8) => (((60 : Int32) < x2_8 → xb x1_8 ∧ K x1_8 m_8) ∧ (¬ (60 : Int32) < x2_8 → xjn (fun (x1_79 : Int32) => (((60 : Int32) ≤ x2_8 → (∀ x2_90 : Int32, x2_90 = x2_8 + 1 → again8 (x2_90, x1_79, m_8))) ∧ (¬ (60 : Int32) ≤ x2_8 → wp_X7_goDay n x2_8 m_8 (fun m_87 : xM => (∀ x2_90 : Int32, x2_90 = x2_8 + 1 → again8 (x2_90, x1_79, m_87)))))) (fun J79 : Int32 → Prop => xlp (fun (again16 : (Int32 × Int32) → Prop) => fun (s_ : Int32 × Int32) => match s_ with | (x3_16, x1_16) => (((m_8 0 19) ≤ x3_16 → J79 x1_16) ∧ (¬ (m_8 0 19) ≤ x3_16 → ((x1_16 = 0 → (∀ x3_73 : Int32, x3_73 = x3_16 + 1 → again16 (x3_73, (0 : Int32)))) ∧ (¬ x1_16 = 0 → (vp_in x3_16 8 ∧ ((¬ (m_8 17 x3_16.toNatClampNeg) = x2_8 → (∀ x3_73 : Int32, x3_73 = x3_16 + 1 → again16 (x3_73, (1 : Int32)))) ∧ ((m_8 17 x3_16.toNatClampNeg) = x2_8 → (vp_in x3_16 8 ∧ (vp_in x3_16 8 ∧ (vp_in (((3 : Int32) * (m_8 15 x3_16.toNatClampNeg)) + (m_8 16 x3_16.toNatClampNeg)) 21 ∧ (vp_in x3_16 8 ∧ ((¬ (m_8 11 (((3 : Int32) * (m_8 15 x3_16.toNatClampNeg)) + (m_8 16 x3_16.toNatClampNeg)).toNatClampNeg) = (m_8 18 x3_16.toNatClampNeg) → (∀ x3_73 : Int32, x3_73 = x3_16 + 1 → again16 (x3_73, (0 : Int32)))) ∧ ((m_8 11 (((3 : Int32) * (m_8 15 x3_16.toNatClampNeg)) + (m_8 16 x3_16.toNatClampNeg)).toNatClampNeg) = (m_8 18 x3_16.toNatClampNeg) → (∀ x3_73 : Int32, x3_73 = x3_16 + 1 → again16 (x3_73, (1 : Int32))))))))))))))))) n ((0 : Int32), x1_8))))) n ((0 : Int32), (1 : Int32), m_1))
set_option maxHeartbeats 4000000 in
set_option maxRecDepth 100000 in
theorem cm_X7_areSo (l : Launch) (G : xG) (ad : Nat → Nat) (hI : xI 23 ad) (n : Nat)  (μ : xM) (K : Int32 → xM → Prop) (hf : wp_X7_areSo n μ K) : Met l yX7_areSo (Cond.code yX7_areSo cX7_areSo 4 (some .boolean) :: xw_all) (rmo 3 72) (va_Pc [.ref (ad 0)] (xPre mS 23 G ad μ)) (xQi mS 23 G ad K) 0 0 (xR 23 ad) := by
  refine x_ent (nL := 4) (own := RX7) (by decide) rfl hI (Nat.le_of_ble_eq_true rfl) ?_
  intro p e s m args below meth c H locs ls Q X hr hlk hQ M hl
  have hx := X.1.1
  have hb := X.1.2.1
  have hown := X.1.2.2.2.1
  have hts := X.1.2.2.2.2
  have hl : lv_has ls 4 [(0, .ref (ad 0))] := hl
  unfold wp_X7_areSo at hf
  refine lv_aload_n hx hb dX7_areSo_0 rfl (lv_at hl 0 rfl) ?_
  refine x_cv (x_rV (As := []) (rest := []) X M (cm_X7_begin l G ad hI n μ _ hf) mc_X7_begin mv_X7_begin lk_X7_171 mn_X7_begin rgm_0 rfl hl ⟨⟨Nat.le_of_ble_eq_true rfl, Nat.le_of_ble_eq_true rfl⟩, rfl, Nat.le_of_ble_eq_true rfl, Nat.zero_le _, Nat.zero_le _⟩ rfl dX7_areSo_1) M (fun m_1 H locs hf M => ?_)
  try dsimp only at hf
  refine lv_iconst (v := (1 : Int32)) hx hb dX7_areSo_4 (by decide) ?_
  refine lv_istore_n (lv' := [(1, .int (1 : Int32)), (0, .ref (ad 0))]) hx hb dX7_areSo_5 rfl hl (by decide) rfl (fun ls hl => ?_)
  refine lv_iconst (v := (0 : Int32)) hx hb dX7_areSo_6 (by decide) ?_
  refine lv_istore_n (lv' := [(2, .int (0 : Int32)), (1, .int (1 : Int32)), (0, .ref (ad 0))]) hx hb dX7_areSo_7 rfl hl (by decide) rfl (fun ls hl => ?_)
  refine xlp_w hf (fun (s_ : Int32 × Int32 × xM) => match s_ with | (x2_8, x1_8, m_8) => ∀ (H : Heap) (locs : List Loc) (ls : Array Slot), xS mS 23 G ad s m_8 H locs → lv_has ls 4 [(2, .int x2_8), (1, .int x1_8), (0, .ref (ad 0))] → W p l e (rmo 3 72) s m args below meth c H locs 0 0 Q (F0 m 8 ls [])) ?_ _ _ _ M (lv_sub hl [0, 1, 2] rfl)
  intro again8 hagain8 s_ hf
  obtain ⟨x2_8, x1_8, m_8⟩ := s_
  try dsimp only at hf ⊢
  intro H locs ls M hl
  refine lv_iload_n hx hb dX7_areSo_8 rfl (lv_at hl 0 rfl) ?_
  refine lv_bipush (v := (60 : Int32)) hx hb dX7_areSo_9 (by decide) ?_
  refine lv_icmp_gt (tgt := 96) hx hb dX7_areSo_11 (by decide) (fun c_11 => ?_) (fun c_11 => ?_)
  · replace hf := hf.1 c_11
    refine lv_iload_n hx hb dX7_areSo_96 rfl (lv_at hl 1 rfl) ?_
    obtain ⟨g_97, hf⟩ := hf
    rw [hQ]
    exact x_zret X M hr hlk g_97 dX7_areSo_97 hf
  · replace hf := hf.2 c_11
    refine lv_iconst (v := (0 : Int32)) hx hb dX7_areSo_14 (by decide) ?_
    refine lv_istore_n (lv' := [(3, .int (0 : Int32)), (2, .int x2_8), (1, .int x1_8), (0, .ref (ad 0))]) hx hb dX7_areSo_15 rfl hl (by decide) rfl (fun ls hl => ?_)
    refine xjn_w hf (fun (x1_79 : Int32) => ∀ (H : Heap) (locs : List Loc) (ls : Array Slot), xS mS 23 G ad s m_8 H locs → lv_has ls 4 [(2, .int x2_8), (1, .int x1_79), (0, .ref (ad 0))] → W p l e (rmo 3 72) s m args below meth c H locs 0 0 Q (F0 m 79 ls [])) ?_ ?_
    · intro x1_79 hf
      intro H locs ls M hl
      refine lv_iload_n hx hb dX7_areSo_79 rfl (lv_at hl 0 rfl) ?_
      refine lv_bipush (v := (60 : Int32)) hx hb dX7_areSo_80 (by decide) ?_
      refine lv_icmp_ge (tgt := 90) hx hb dX7_areSo_82 (by decide) (fun c_82 => ?_) (fun c_82 => ?_)
      · replace hf := hf.1 c_82
        obtain ⟨x2_90, ex2_90⟩ : ∃ y : Int32, y = x2_8 + 1 := ⟨_, rfl⟩
        replace hf := hf x2_90 ex2_90
        refine lv_iinc (v := x2_90) (lv' := [(2, .int x2_90), (1, .int x1_79), (0, .ref (ad 0))]) hx hb dX7_areSo_90 hl (k := 0) rfl (by rw [ex2_90]; rfl) (by decide) rfl (fun ls hl => ?_)
        refine lv_goto (tgt := 8) hx hb dX7_areSo_93 (by decide) ?_
        exact hagain8 (x2_90, x1_79, m_8) hf _ _ _ M (lv_sub hl [0, 1, 2] rfl)
      · replace hf := hf.2 c_82
        refine lv_aload_n hx hb dX7_areSo_85 rfl (lv_at hl 2 rfl) ?_
        refine lv_iload_n hx hb dX7_areSo_86 rfl (lv_at hl 0 rfl) ?_
        refine x_cv (x_rV (As := [.int x2_8]) (rest := []) X M (cm_X7_goDay l G ad hI n x2_8 m_8 _ hf) mc_X7_goDay mv_X7_goDay lk_X7_174 mn_X7_goDay rgm_0 rfl hl ⟨⟨Nat.le_of_ble_eq_true rfl, Nat.le_of_ble_eq_true rfl⟩, rfl, Nat.le_of_ble_eq_true rfl, Nat.zero_le _, Nat.zero_le _⟩ rfl dX7_areSo_87) M (fun m_87 H locs hf M => ?_)
        try dsimp only at hf
        obtain ⟨x2_90, ex2_90⟩ : ∃ y : Int32, y = x2_8 + 1 := ⟨_, rfl⟩
        replace hf := hf x2_90 ex2_90
        refine lv_iinc (v := x2_90) (lv' := [(2, .int x2_90), (1, .int x1_79), (0, .ref (ad 0))]) hx hb dX7_areSo_90 hl (k := 0) rfl (by rw [ex2_90]; rfl) (by decide) rfl (fun ls hl => ?_)
        refine lv_goto (tgt := 8) hx hb dX7_areSo_93 (by decide) ?_
        exact hagain8 (x2_90, x1_79, m_87) hf _ _ _ M (lv_sub hl [0, 1, 2] rfl)
    · intro J79 hJ79 hf
      refine xlp_w hf (fun (s_ : Int32 × Int32) => match s_ with | (x3_16, x1_16) => ∀ (H : Heap) (locs : List Loc) (ls : Array Slot), xS mS 23 G ad s m_8 H locs → lv_has ls 4 [(3, .int x3_16), (2, .int x2_8), (1, .int x1_16), (0, .ref (ad 0))] → W p l e (rmo 3 72) s m args below meth c H locs 0 0 Q (F0 m 16 ls [])) ?_ _ _ _ M (lv_sub hl [0, 1, 2, 3] rfl)
      intro again16 hagain16 s_ hf
      obtain ⟨x3_16, x1_16⟩ := s_
      try dsimp only at hf ⊢
      intro H locs ls M hl
      refine lv_iload_n hx hb dX7_areSo_16 rfl (lv_at hl 0 rfl) ?_
      refine lv_aload_n hx hb dX7_areSo_17 rfl (lv_at hl 3 rfl) ?_
      refine x_getI X M rgm_0 fd_X7_141 rfl dX7_areSo_18 ?_
      refine lv_icmp_ge (tgt := 79) hx hb dX7_areSo_21 (by decide) (fun c_21 => ?_) (fun c_21 => ?_)
      · replace hf := hf.1 c_21
        exact hJ79 x1_16 hf _ _ _ M (lv_sub hl [1, 2, 3] rfl)
      · replace hf := hf.2 c_21
        refine lv_iload_n hx hb dX7_areSo_24 rfl (lv_at hl 2 rfl) ?_
        refine lv_if_eq (tgt := 71) hx hb dX7_areSo_25 (by decide) (fun c_25 => ?_) (fun c_25 => ?_)
        · replace hf := hf.1 c_25
          refine lv_iconst (v := (0 : Int32)) hx hb dX7_areSo_71 (by decide) ?_
          refine lv_istore_n (lv' := [(1, .int (0 : Int32)), (3, .int x3_16), (2, .int x2_8), (0, .ref (ad 0))]) hx hb dX7_areSo_72 rfl hl (by decide) rfl (fun ls hl => ?_)
          obtain ⟨x3_73, ex3_73⟩ : ∃ y : Int32, y = x3_16 + 1 := ⟨_, rfl⟩
          replace hf := hf x3_73 ex3_73
          refine lv_iinc (v := x3_73) (lv' := [(3, .int x3_73), (1, .int (0 : Int32)), (2, .int x2_8), (0, .ref (ad 0))]) hx hb dX7_areSo_73 hl (k := 1) rfl (by rw [ex3_73]; rfl) (by decide) rfl (fun ls hl => ?_)
          refine lv_goto (tgt := 16) hx hb dX7_areSo_76 (by decide) ?_
          exact hagain16 (x3_73, (0 : Int32)) hf _ _ _ M (lv_sub hl [0, 2, 1, 3] rfl)
        · replace hf := hf.2 c_25
          refine lv_aload_n hx hb dX7_areSo_28 rfl (lv_at hl 3 rfl) ?_
          refine x_getR (r := 17) X M rgm_0 fd_X7_59 rfl dX7_areSo_29 ?_
          refine lv_iload_n hx hb dX7_areSo_32 rfl (lv_at hl 0 rfl) ?_
          obtain ⟨g_33, hf⟩ := hf
          refine x_ild X M rgm_17 g_33 dX7_areSo_33 ?_
          refine lv_iload_n hx hb dX7_areSo_34 rfl (lv_at hl 1 rfl) ?_
          refine lv_icmp_ne (tgt := 67) hx hb dX7_areSo_35 (by decide) (fun c_35 => ?_) (fun c_35 => ?_)
          · replace hf := hf.1 c_35
            refine lv_iconst (v := (1 : Int32)) hx hb dX7_areSo_67 (by decide) ?_
            refine lv_goto (tgt := 72) hx hb dX7_areSo_68 (by decide) ?_
            refine lv_istore_n (lv' := [(1, .int (1 : Int32)), (3, .int x3_16), (2, .int x2_8), (0, .ref (ad 0))]) hx hb dX7_areSo_72 rfl hl (by decide) rfl (fun ls hl => ?_)
            obtain ⟨x3_73, ex3_73⟩ : ∃ y : Int32, y = x3_16 + 1 := ⟨_, rfl⟩
            replace hf := hf x3_73 ex3_73
            refine lv_iinc (v := x3_73) (lv' := [(3, .int x3_73), (1, .int (1 : Int32)), (2, .int x2_8), (0, .ref (ad 0))]) hx hb dX7_areSo_73 hl (k := 1) rfl (by rw [ex3_73]; rfl) (by decide) rfl (fun ls hl => ?_)
            refine lv_goto (tgt := 16) hx hb dX7_areSo_76 (by decide) ?_
            exact hagain16 (x3_73, (1 : Int32)) hf _ _ _ M (lv_sub hl [0, 2, 1, 3] rfl)
          · replace hf := hf.2 c_35
            refine lv_aload_n hx hb dX7_areSo_38 rfl (lv_at hl 3 rfl) ?_
            refine x_getR (r := 11) X M rgm_0 fd_X7_41 rfl dX7_areSo_39 ?_
            refine lv_iconst (v := (3 : Int32)) hx hb dX7_areSo_42 (by decide) ?_
            refine lv_aload_n hx hb dX7_areSo_43 rfl (lv_at hl 3 rfl) ?_
            refine x_getR (r := 15) X M rgm_0 fd_X7_53 rfl dX7_areSo_44 ?_
            refine lv_iload_n hx hb dX7_areSo_47 rfl (lv_at hl 0 rfl) ?_
            obtain ⟨g_48, hf⟩ := hf
            refine x_ild X M rgm_15 g_48 dX7_areSo_48 ?_
            refine lv_imul hx hb dX7_areSo_49 ?_
            refine lv_aload_n hx hb dX7_areSo_50 rfl (lv_at hl 3 rfl) ?_
            refine x_getR (r := 16) X M rgm_0 fd_X7_56 rfl dX7_areSo_51 ?_
            refine lv_iload_n hx hb dX7_areSo_54 rfl (lv_at hl 0 rfl) ?_
            obtain ⟨g_55, hf⟩ := hf
            refine x_ild X M rgm_16 g_55 dX7_areSo_55 ?_
            refine lv_iadd hx hb dX7_areSo_56 ?_
            obtain ⟨g_57, hf⟩ := hf
            refine x_ild X M rgm_11 g_57 dX7_areSo_57 ?_
            refine lv_aload_n hx hb dX7_areSo_58 rfl (lv_at hl 3 rfl) ?_
            refine x_getR (r := 18) X M rgm_0 fd_X7_62 rfl dX7_areSo_59 ?_
            refine lv_iload_n hx hb dX7_areSo_62 rfl (lv_at hl 0 rfl) ?_
            obtain ⟨g_63, hf⟩ := hf
            refine x_ild X M rgm_18 g_63 dX7_areSo_63 ?_
            refine lv_icmp_ne (tgt := 71) hx hb dX7_areSo_64 (by decide) (fun c_64 => ?_) (fun c_64 => ?_)
            · replace hf := hf.1 c_64
              refine lv_iconst (v := (0 : Int32)) hx hb dX7_areSo_71 (by decide) ?_
              refine lv_istore_n (lv' := [(1, .int (0 : Int32)), (3, .int x3_16), (2, .int x2_8), (0, .ref (ad 0))]) hx hb dX7_areSo_72 rfl hl (by decide) rfl (fun ls hl => ?_)
              obtain ⟨x3_73, ex3_73⟩ : ∃ y : Int32, y = x3_16 + 1 := ⟨_, rfl⟩
              replace hf := hf x3_73 ex3_73
              refine lv_iinc (v := x3_73) (lv' := [(3, .int x3_73), (1, .int (0 : Int32)), (2, .int x2_8), (0, .ref (ad 0))]) hx hb dX7_areSo_73 hl (k := 1) rfl (by rw [ex3_73]; rfl) (by decide) rfl (fun ls hl => ?_)
              refine lv_goto (tgt := 16) hx hb dX7_areSo_76 (by decide) ?_
              exact hagain16 (x3_73, (0 : Int32)) hf _ _ _ M (lv_sub hl [0, 2, 1, 3] rfl)
            · replace hf := hf.2 c_64
              refine lv_iconst (v := (1 : Int32)) hx hb dX7_areSo_67 (by decide) ?_
              refine lv_goto (tgt := 72) hx hb dX7_areSo_68 (by decide) ?_
              refine lv_istore_n (lv' := [(1, .int (1 : Int32)), (3, .int x3_16), (2, .int x2_8), (0, .ref (ad 0))]) hx hb dX7_areSo_72 rfl hl (by decide) rfl (fun ls hl => ?_)
              obtain ⟨x3_73, ex3_73⟩ : ∃ y : Int32, y = x3_16 + 1 := ⟨_, rfl⟩
              replace hf := hf x3_73 ex3_73
              refine lv_iinc (v := x3_73) (lv' := [(3, .int x3_73), (1, .int (1 : Int32)), (2, .int x2_8), (0, .ref (ad 0))]) hx hb dX7_areSo_73 hl (k := 1) rfl (by rw [ex3_73]; rfl) (by decide) rfl (fun ls hl => ?_)
              refine lv_goto (tgt := 16) hx hb dX7_areSo_76 (by decide) ?_
              exact hagain16 (x3_73, (1 : Int32)) hf _ _ _ M (lv_sub hl [0, 2, 1, 3] rfl)
def wp_X7_rains (n : Nat) (a1 : Int32) (μ : xM) (K : Int32 → xM → Prop) : Prop :=
  wp_X7_in n (a1.toInt64) (0 : Int64) (59 : Int64) μ (fun r_6 : Int32 => ((¬ r_6 = 0 → ((¬ (μ 0 1) = 0 → (vp_in a1 60 ∧ (∀ x2_31 : Int32, x2_31 = μ 9 a1.toNatClampNeg → xlp (fun (again37 : (Int32 × Int32 × xM) → Prop) => fun (s_ : Int32 × Int32 × xM) => match s_ with | (x4_37, x3_37, m_37) => (((10 : Int32) ≤ x4_37 → (vp_in a1 60 ∧ (∀ m_82 : xM, m_82 = xu m_37 9 a1.toNatClampNeg x2_31 → K x3_37 m_82))) ∧ (¬ (10 : Int32) ≤ x4_37 → (vp_in a1 60 ∧ (∀ m_51 : xM, m_51 = xu m_37 9 a1.toNatClampNeg x4_37 → wp_X7_areSo n m_51 (fun (r_54 : Int32) (m_54 : xM) => ((r_54 = 0 → (∀ x3_69 : Int32, x3_69 = x3_37 ||| (0 : Int32) → (∀ x4_70 : Int32, x4_70 = x4_37 + 1 → again37 (x4_70, x3_69, m_54)))) ∧ (¬ r_54 = 0 → (∀ x3_69 : Int32, x3_69 = x3_37 ||| ((1 : Int32) <<< (x4_37 &&& 31)) → (∀ x4_70 : Int32, x4_70 = x4_37 + 1 → again37 (x4_70, x3_69, m_54))))))))))) n ((0 : Int32), (0 : Int32), μ)))) ∧ ((μ 0 1) = 0 → K ((-3) : Int32) μ))) ∧ (r_6 = 0 → K ((-2) : Int32) μ)))
set_option maxHeartbeats 4000000 in
set_option maxRecDepth 100000 in
theorem cm_X7_rains (l : Launch) (G : xG) (ad : Nat → Nat) (hI : xI 23 ad) (n : Nat) (a1 : Int32) (μ : xM) (K : Int32 → xM → Prop) (hf : wp_X7_rains n a1 μ K) : Met l yX7_rains (Cond.code yX7_rains cX7_rains 5 (some .int) :: xw_all) (rmo 4 95) (va_Pc [.ref (ad 0), .int a1] (xPre mS 23 G ad μ)) (xQi mS 23 G ad K) 0 0 (xR 23 ad) := by
  refine x_ent (nL := 5) (own := RX7) (by decide) rfl hI (Nat.le_of_ble_eq_true rfl) ?_
  intro p e s m args below meth c H locs ls Q X hr hlk hQ M hl
  have hx := X.1.1
  have hb := X.1.2.1
  have hown := X.1.2.2.2.1
  have hts := X.1.2.2.2.2
  have hl : lv_has ls 5 [(0, .ref (ad 0)), (1, .int a1)] := hl
  unfold wp_X7_rains at hf
  refine lv_iload_n hx hb dX7_rains_0 rfl (lv_at hl 1 rfl) ?_
  refine lv_i2l hx hb dX7_rains_1 rfl ?_
  refine lv_lconst (v := (0 : Int64)) hx hb dX7_rains_2 (by decide) ?_
  refine lv_ldc2 (v := (59 : Int64)) hx hb hown (hts _ kc_X7_149) dX7_rains_3 ?_
  refine x_ciP (x_rS (As := [.long (a1.toInt64), .long (0 : Int64), .long (59 : Int64)]) (rest := []) X M (cm_X7_in l G ad hI n (a1.toInt64) (0 : Int64) (59 : Int64) μ _ hf) mc_X7_in ms_X7_in lk_X7_97 mn_X7_in hl ⟨⟨Nat.le_of_ble_eq_true rfl, Nat.le_of_ble_eq_true rfl⟩, rfl, Nat.le_of_ble_eq_true rfl, Nat.zero_le _, Nat.zero_le _⟩ rfl dX7_rains_6) M (fun r_6 H locs hf M => ?_)
  try dsimp only at hf
  refine lv_if_ne (tgt := 15) hx hb dX7_rains_9 (by decide) (fun c_9 => ?_) (fun c_9 => ?_)
  · replace hf := hf.1 c_9
    refine lv_aload_n hx hb dX7_rains_15 rfl (lv_at hl 0 rfl) ?_
    refine x_getI X M rgm_0 fd_X7_108 rfl dX7_rains_16 ?_
    refine lv_if_ne (tgt := 25) hx hb dX7_rains_19 (by decide) (fun c_19 => ?_) (fun c_19 => ?_)
    · replace hf := hf.1 c_19
      refine lv_aload_n hx hb dX7_rains_25 rfl (lv_at hl 0 rfl) ?_
      refine x_getR (r := 9) X M rgm_0 fd_X7_35 rfl dX7_rains_26 ?_
      refine lv_iload_n hx hb dX7_rains_29 rfl (lv_at hl 1 rfl) ?_
      obtain ⟨g_30, hf⟩ := hf
      refine x_ild X M rgm_9 g_30 dX7_rains_30 ?_
      refine lv_topi (fun x2_31 ex2_31 => ?_)
      replace hf := hf x2_31 ex2_31
      refine lv_istore_n (lv' := [(2, .int x2_31), (0, .ref (ad 0)), (1, .int a1)]) hx hb dX7_rains_31 rfl hl (by decide) rfl (fun ls hl => ?_)
      refine lv_iconst (v := (0 : Int32)) hx hb dX7_rains_32 (by decide) ?_
      refine lv_istore_n (lv' := [(3, .int (0 : Int32)), (2, .int x2_31), (0, .ref (ad 0)), (1, .int a1)]) hx hb dX7_rains_33 rfl hl (by decide) rfl (fun ls hl => ?_)
      refine lv_iconst (v := (0 : Int32)) hx hb dX7_rains_34 (by decide) ?_
      refine lv_istore (lv' := [(4, .int (0 : Int32)), (3, .int (0 : Int32)), (2, .int x2_31), (0, .ref (ad 0)), (1, .int a1)]) hx hb dX7_rains_35 hl (by decide) rfl (fun ls hl => ?_)
      refine xlp_w hf (fun (s_ : Int32 × Int32 × xM) => match s_ with | (x4_37, x3_37, m_37) => ∀ (H : Heap) (locs : List Loc) (ls : Array Slot), xS mS 23 G ad s m_37 H locs → lv_has ls 5 [(4, .int x4_37), (3, .int x3_37), (2, .int x2_31), (0, .ref (ad 0)), (1, .int a1)] → W p l e (rmo 4 95) s m args below meth c H locs 0 0 Q (F0 m 37 ls [])) ?_ _ _ _ M (lv_sub hl [0, 1, 2, 3, 4] rfl)
      intro again37 hagain37 s_ hf
      obtain ⟨x4_37, x3_37, m_37⟩ := s_
      try dsimp only at hf ⊢
      intro H locs ls M hl
      refine lv_iload hx hb dX7_rains_37 (lv_at hl 0 rfl) ?_
      refine lv_bipush (v := (10 : Int32)) hx hb dX7_rains_39 (by decide) ?_
      refine lv_icmp_ge (tgt := 76) hx hb dX7_rains_41 (by decide) (fun c_41 => ?_) (fun c_41 => ?_)
      · replace hf := hf.1 c_41
        refine lv_aload_n hx hb dX7_rains_76 rfl (lv_at hl 3 rfl) ?_
        refine x_getR (r := 9) X M rgm_0 fd_X7_35 rfl dX7_rains_77 ?_
        refine lv_iload_n hx hb dX7_rains_80 rfl (lv_at hl 4 rfl) ?_
        refine lv_iload_n hx hb dX7_rains_81 rfl (lv_at hl 2 rfl) ?_
        obtain ⟨g_82, hf⟩ := hf
        refine x_ist X M rgm_9 g_82 dX7_rains_82 (fun m_82 H locs em_82 M => ?_)
        replace hf := hf m_82 em_82
        refine lv_iload_n hx hb dX7_rains_83 rfl (lv_at hl 1 rfl) ?_
        rw [hQ]
        exact x_iret X M hr hlk dX7_rains_84 hf
      · replace hf := hf.2 c_41
        refine lv_aload_n hx hb dX7_rains_44 rfl (lv_at hl 3 rfl) ?_
        refine x_getR (r := 9) X M rgm_0 fd_X7_35 rfl dX7_rains_45 ?_
        refine lv_iload_n hx hb dX7_rains_48 rfl (lv_at hl 4 rfl) ?_
        refine lv_iload hx hb dX7_rains_49 (lv_at hl 0 rfl) ?_
        obtain ⟨g_51, hf⟩ := hf
        refine x_ist X M rgm_9 g_51 dX7_rains_51 (fun m_51 H locs em_51 M => ?_)
        replace hf := hf m_51 em_51
        refine lv_iload_n hx hb dX7_rains_52 rfl (lv_at hl 1 rfl) ?_
        refine lv_aload_n hx hb dX7_rains_53 rfl (lv_at hl 3 rfl) ?_
        refine x_ci (x_rV (As := []) (rest := [.int x3_37]) X M (cm_X7_areSo l G ad hI n m_51 _ hf) mc_X7_areSo mv_X7_areSo lk_X7_218 mn_X7_areSo rgm_0 rfl hl ⟨⟨Nat.le_of_ble_eq_true rfl, Nat.le_of_ble_eq_true rfl⟩, rfl, Nat.le_of_ble_eq_true rfl, Nat.zero_le _, Nat.zero_le _⟩ rfl dX7_rains_54) M (fun r_54 m_54 H locs hf M => ?_)
        try dsimp only at hf
        refine lv_if_eq (tgt := 67) hx hb dX7_rains_57 (by decide) (fun c_57 => ?_) (fun c_57 => ?_)
        · replace hf := hf.1 c_57
          refine lv_iconst (v := (0 : Int32)) hx hb dX7_rains_67 (by decide) ?_
          refine lv_ior hx hb dX7_rains_68 ?_
          refine lv_topi (fun x3_69 ex3_69 => ?_)
          replace hf := hf x3_69 ex3_69
          refine lv_istore_n (lv' := [(3, .int x3_69), (4, .int x4_37), (2, .int x2_31), (0, .ref (ad 0)), (1, .int a1)]) hx hb dX7_rains_69 rfl hl (by decide) rfl (fun ls hl => ?_)
          obtain ⟨x4_70, ex4_70⟩ : ∃ y : Int32, y = x4_37 + 1 := ⟨_, rfl⟩
          replace hf := hf x4_70 ex4_70
          refine lv_iinc (v := x4_70) (lv' := [(4, .int x4_70), (3, .int x3_69), (2, .int x2_31), (0, .ref (ad 0)), (1, .int a1)]) hx hb dX7_rains_70 hl (k := 1) rfl (by rw [ex4_70]; rfl) (by decide) rfl (fun ls hl => ?_)
          refine lv_goto (tgt := 37) hx hb dX7_rains_73 (by decide) ?_
          exact hagain37 (x4_70, x3_69, m_54) hf _ _ _ M (lv_sub hl [0, 1, 2, 3, 4] rfl)
        · replace hf := hf.2 c_57
          refine lv_iconst (v := (1 : Int32)) hx hb dX7_rains_60 (by decide) ?_
          refine lv_iload hx hb dX7_rains_61 (lv_at hl 0 rfl) ?_
          refine lv_ishl hx hb dX7_rains_63 ?_
          refine lv_goto (tgt := 68) hx hb dX7_rains_64 (by decide) ?_
          refine lv_ior hx hb dX7_rains_68 ?_
          refine lv_topi (fun x3_69 ex3_69 => ?_)
          replace hf := hf x3_69 ex3_69
          refine lv_istore_n (lv' := [(3, .int x3_69), (4, .int x4_37), (2, .int x2_31), (0, .ref (ad 0)), (1, .int a1)]) hx hb dX7_rains_69 rfl hl (by decide) rfl (fun ls hl => ?_)
          obtain ⟨x4_70, ex4_70⟩ : ∃ y : Int32, y = x4_37 + 1 := ⟨_, rfl⟩
          replace hf := hf x4_70 ex4_70
          refine lv_iinc (v := x4_70) (lv' := [(4, .int x4_70), (3, .int x3_69), (2, .int x2_31), (0, .ref (ad 0)), (1, .int a1)]) hx hb dX7_rains_70 hl (k := 1) rfl (by rw [ex4_70]; rfl) (by decide) rfl (fun ls hl => ?_)
          refine lv_goto (tgt := 37) hx hb dX7_rains_73 (by decide) ?_
          exact hagain37 (x4_70, x3_69, m_54) hf _ _ _ M (lv_sub hl [0, 1, 2, 3, 4] rfl)
    · replace hf := hf.2 c_19
      refine lv_bipush (v := ((-3) : Int32)) hx hb dX7_rains_22 (by decide) ?_
      rw [hQ]
      exact x_iret X M hr hlk dX7_rains_24 hf
  · replace hf := hf.2 c_9
    refine lv_bipush (v := ((-2) : Int32)) hx hb dX7_rains_12 (by decide) ?_
    rw [hQ]
    exact x_iret X M hr hlk dX7_rains_14 hf
def wp_X7_cast (n : Nat) (a1 : Int32) (a2 : Int32) (μ : xM) (K : Int32 → xM → Prop) : Prop :=
  wp_X7_isDawn n a1 μ (fun r_1 : Int32 => ((r_1 = 0 → K ((-2) : Int32) μ) ∧ (¬ r_1 = 0 → wp_X7_in n (a2.toInt64) (1 : Int64) (999 : Int64) μ (fun r_13 : Int32 => ((¬ r_13 = 0 → wp_X7_goTo n a1 μ (fun m_24 : xM => xlp (fun (again32 : (Int32 × Int32) → Prop) => fun (s_ : Int32 × Int32) => match s_ with | (x4_32, x3_32) => (((m_24 0 1) ≤ x4_32 → (¬ (10 : Int32) = 0 ∧ (¬ a2 = 0 ∧ K ((((9 : Int32) * x3_32) / (10 : Int32)) / a2) m_24))) ∧ (¬ (m_24 0 1) ≤ x4_32 → (vp_in x4_32 7 ∧ (∀ x3_50 : Int32, x3_50 = x3_32 + (m_24 12 x4_32.toNatClampNeg) → (∀ x4_51 : Int32, x4_51 = x4_32 + 1 → again32 (x4_51, x3_50))))))) n ((0 : Int32), (0 : Int32)))) ∧ (r_13 = 0 → K ((-2) : Int32) μ))))))
set_option maxHeartbeats 4000000 in
set_option maxRecDepth 100000 in
theorem cm_X7_cast (l : Launch) (G : xG) (ad : Nat → Nat) (hI : xI 23 ad) (n : Nat) (a1 : Int32) (a2 : Int32) (μ : xM) (K : Int32 → xM → Prop) (hf : wp_X7_cast n a1 a2 μ K) : Met l yX7_cast (Cond.code yX7_cast cX7_cast 5 (some .int) :: xw_all) (rmo 4 94) (va_Pc [.ref (ad 0), .int a1, .int a2] (xPre mS 23 G ad μ)) (xQi mS 23 G ad K) 0 0 (xR 23 ad) := by
  refine x_ent (nL := 5) (own := RX7) (by decide) rfl hI (Nat.le_of_ble_eq_true rfl) ?_
  intro p e s m args below meth c H locs ls Q X hr hlk hQ M hl
  have hx := X.1.1
  have hb := X.1.2.1
  have hown := X.1.2.2.2.1
  have hts := X.1.2.2.2.2
  have hl : lv_has ls 5 [(0, .ref (ad 0)), (1, .int a1), (2, .int a2)] := hl
  unfold wp_X7_cast at hf
  refine lv_iload_n hx hb dX7_cast_0 rfl (lv_at hl 1 rfl) ?_
  refine x_ciP (x_rS (As := [.int a1]) (rest := []) X M (cm_X7_isDawn l G ad hI n a1 μ _ hf) mc_X7_isDawn ms_X7_isDawn lk_X7_180 mn_X7_isDawn hl ⟨⟨Nat.le_of_ble_eq_true rfl, Nat.le_of_ble_eq_true rfl⟩, rfl, Nat.le_of_ble_eq_true rfl, Nat.zero_le _, Nat.zero_le _⟩ rfl dX7_cast_1) M (fun r_1 H locs hf M => ?_)
  try dsimp only at hf
  refine lv_if_eq (tgt := 19) hx hb dX7_cast_4 (by decide) (fun c_4 => ?_) (fun c_4 => ?_)
  · replace hf := hf.1 c_4
    refine lv_bipush (v := ((-2) : Int32)) hx hb dX7_cast_19 (by decide) ?_
    rw [hQ]
    exact x_iret X M hr hlk dX7_cast_21 hf
  · replace hf := hf.2 c_4
    refine lv_iload_n hx hb dX7_cast_7 rfl (lv_at hl 2 rfl) ?_
    refine lv_i2l hx hb dX7_cast_8 rfl ?_
    refine lv_lconst (v := (1 : Int64)) hx hb dX7_cast_9 (by decide) ?_
    refine lv_ldc2 (v := (999 : Int64)) hx hb hown (hts _ kc_X7_211) dX7_cast_10 ?_
    refine x_ciP (x_rS (As := [.long (a2.toInt64), .long (1 : Int64), .long (999 : Int64)]) (rest := []) X M (cm_X7_in l G ad hI n (a2.toInt64) (1 : Int64) (999 : Int64) μ _ hf) mc_X7_in ms_X7_in lk_X7_97 mn_X7_in hl ⟨⟨Nat.le_of_ble_eq_true rfl, Nat.le_of_ble_eq_true rfl⟩, rfl, Nat.le_of_ble_eq_true rfl, Nat.zero_le _, Nat.zero_le _⟩ rfl dX7_cast_13) M (fun r_13 H locs hf M => ?_)
    try dsimp only at hf
    refine lv_if_ne (tgt := 22) hx hb dX7_cast_16 (by decide) (fun c_16 => ?_) (fun c_16 => ?_)
    · replace hf := hf.1 c_16
      refine lv_aload_n hx hb dX7_cast_22 rfl (lv_at hl 0 rfl) ?_
      refine lv_iload_n hx hb dX7_cast_23 rfl (lv_at hl 1 rfl) ?_
      refine x_cv (x_rV (As := [.int a1]) (rest := []) X M (cm_X7_goTo l G ad hI n a1 μ _ hf) mc_X7_goTo mv_X7_goTo lk_X7_183 mn_X7_goTo rgm_0 rfl hl ⟨⟨Nat.le_of_ble_eq_true rfl, Nat.le_of_ble_eq_true rfl⟩, rfl, Nat.le_of_ble_eq_true rfl, Nat.zero_le _, Nat.zero_le _⟩ rfl dX7_cast_24) M (fun m_24 H locs hf M => ?_)
      try dsimp only at hf
      refine lv_iconst (v := (0 : Int32)) hx hb dX7_cast_27 (by decide) ?_
      refine lv_istore_n (lv' := [(3, .int (0 : Int32)), (0, .ref (ad 0)), (1, .int a1), (2, .int a2)]) hx hb dX7_cast_28 rfl hl (by decide) rfl (fun ls hl => ?_)
      refine lv_iconst (v := (0 : Int32)) hx hb dX7_cast_29 (by decide) ?_
      refine lv_istore (lv' := [(4, .int (0 : Int32)), (3, .int (0 : Int32)), (0, .ref (ad 0)), (1, .int a1), (2, .int a2)]) hx hb dX7_cast_30 hl (by decide) rfl (fun ls hl => ?_)
      refine xlp_w hf (fun (s_ : Int32 × Int32) => match s_ with | (x4_32, x3_32) => ∀ (H : Heap) (locs : List Loc) (ls : Array Slot), xS mS 23 G ad s m_24 H locs → lv_has ls 5 [(4, .int x4_32), (3, .int x3_32), (0, .ref (ad 0)), (2, .int a2)] → W p l e (rmo 4 94) s m args below meth c H locs 0 0 Q (F0 m 32 ls [])) ?_ _ _ _ M (lv_sub hl [0, 1, 2, 4] rfl)
      intro again32 hagain32 s_ hf
      obtain ⟨x4_32, x3_32⟩ := s_
      try dsimp only at hf ⊢
      intro H locs ls M hl
      refine lv_iload hx hb dX7_cast_32 (lv_at hl 0 rfl) ?_
      refine lv_aload_n hx hb dX7_cast_34 rfl (lv_at hl 2 rfl) ?_
      refine x_getI X M rgm_0 fd_X7_108 rfl dX7_cast_35 ?_
      refine lv_icmp_ge (tgt := 57) hx hb dX7_cast_38 (by decide) (fun c_38 => ?_) (fun c_38 => ?_)
      · replace hf := hf.1 c_38
        refine lv_bipush (v := (9 : Int32)) hx hb dX7_cast_57 (by decide) ?_
        refine lv_iload_n hx hb dX7_cast_59 rfl (lv_at hl 1 rfl) ?_
        refine lv_imul hx hb dX7_cast_60 ?_
        refine lv_bipush (v := (10 : Int32)) hx hb dX7_cast_61 (by decide) ?_
        obtain ⟨g_63, hf⟩ := hf
        refine lv_idiv hx hb dX7_cast_63 g_63 ?_
        refine lv_iload_n hx hb dX7_cast_64 rfl (lv_at hl 3 rfl) ?_
        obtain ⟨g_65, hf⟩ := hf
        refine lv_idiv hx hb dX7_cast_65 g_65 ?_
        rw [hQ]
        exact x_iret X M hr hlk dX7_cast_66 hf
      · replace hf := hf.2 c_38
        refine lv_iload_n hx hb dX7_cast_41 rfl (lv_at hl 1 rfl) ?_
        refine lv_aload_n hx hb dX7_cast_42 rfl (lv_at hl 2 rfl) ?_
        refine x_getR (r := 12) X M rgm_0 fd_X7_44 rfl dX7_cast_43 ?_
        refine lv_iload hx hb dX7_cast_46 (lv_at hl 0 rfl) ?_
        obtain ⟨g_48, hf⟩ := hf
        refine x_ild X M rgm_12 g_48 dX7_cast_48 ?_
        refine lv_iadd hx hb dX7_cast_49 ?_
        refine lv_topi (fun x3_50 ex3_50 => ?_)
        replace hf := hf x3_50 ex3_50
        refine lv_istore_n (lv' := [(3, .int x3_50), (4, .int x4_32), (0, .ref (ad 0)), (2, .int a2)]) hx hb dX7_cast_50 rfl hl (by decide) rfl (fun ls hl => ?_)
        obtain ⟨x4_51, ex4_51⟩ : ∃ y : Int32, y = x4_32 + 1 := ⟨_, rfl⟩
        replace hf := hf x4_51 ex4_51
        refine lv_iinc (v := x4_51) (lv' := [(4, .int x4_51), (3, .int x3_50), (0, .ref (ad 0)), (2, .int a2)]) hx hb dX7_cast_51 hl (k := 1) rfl (by rw [ex4_51]; rfl) (by decide) rfl (fun ls hl => ?_)
        refine lv_goto (tgt := 32) hx hb dX7_cast_54 (by decide) ?_
        exact hagain32 (x4_51, x3_50) hf _ _ _ M (lv_sub hl [0, 1, 2, 3] rfl)
    · replace hf := hf.2 c_16
      refine lv_bipush (v := ((-2) : Int32)) hx hb dX7_cast_19 (by decide) ?_
      rw [hQ]
      exact x_iret X M hr hlk dX7_cast_21 hf
def wp_X7_sheet (n : Nat) (a1 : Int32) (a2 : Int32) (a3 : Int32) (μ : xM) (K : Int32 → xM → Prop) : Prop :=
  wp_X7_noSheet n a1 μ (fun r_1 : Int32 => ((r_1 = 0 → wp_X7_in n (a2.toInt64) (0 : Int64) (2 : Int64) μ (fun r_19 : Int32 => ((r_19 = 0 → wp_X7_refused n ((-2) : Int32) μ (fun (r_34 : Int32) (m_34 : xM) => K r_34 m_34)) ∧ (¬ r_19 = 0 → ((a3 ≤ (60 : Int32) → ((0 ≤ a3 → (vp_in a1 4 ∧ (∀ m_54 : xM, m_54 = xu μ 19 a1.toNatClampNeg a3 → (vp_in a1 4 ∧ (∀ m_61 : xM, m_61 = xu m_54 20 a1.toNatClampNeg a2 → xlp (fun (again65 : (Int32 × xM) → Prop) => fun (s_ : Int32 × xM) => match s_ with | (x4_65, m_65) => ((a3 ≤ x4_65 → wp_X7_refused n (1 : Int32) m_65 (fun (r_92 : Int32) (m_92 : xM) => K r_92 m_92)) ∧ (¬ a3 ≤ x4_65 → (vp_in (((60 : Int32) * a1) + x4_65) 240 ∧ (∀ m_83 : xM, m_83 = xu m_65 21 (((60 : Int32) * a1) + x4_65).toNatClampNeg (0 : Int32) → (∀ x4_84 : Int32, x4_84 = x4_65 + 1 → again65 (x4_84, m_83))))))) n ((0 : Int32), m_61)))))) ∧ (¬ 0 ≤ a3 → wp_X7_failed n (4 : Int32) μ (fun (r_44 : Int32) (m_44 : xM) => K r_44 m_44)))) ∧ (¬ a3 ≤ (60 : Int32) → wp_X7_refused n ((-2) : Int32) μ (fun (r_34 : Int32) (m_34 : xM) => K r_34 m_34))))))) ∧ (¬ r_1 = 0 → wp_X7_refused n ((-1) : Int32) μ (fun (r_9 : Int32) (m_9 : xM) => K r_9 m_9))))
set_option maxHeartbeats 4000000 in
set_option maxRecDepth 100000 in
theorem cm_X7_sheet (l : Launch) (G : xG) (ad : Nat → Nat) (hI : xI 23 ad) (n : Nat) (a1 : Int32) (a2 : Int32) (a3 : Int32) (μ : xM) (K : Int32 → xM → Prop) (hf : wp_X7_sheet n a1 a2 a3 μ K) : Met l yX7_sheet (Cond.code yX7_sheet cX7_sheet 5 (some .int) :: xw_all) (rmo 2 45) (va_Pc [.ref (ad 0), .int a1, .int a2, .int a3] (xPre mS 23 G ad μ)) (xQi mS 23 G ad K) 0 0 (xR 23 ad) := by
  refine x_ent (nL := 5) (own := RX7) (by decide) rfl hI (Nat.le_of_ble_eq_true rfl) ?_
  intro p e s m args below meth c H locs ls Q X hr hlk hQ M hl
  have hx := X.1.1
  have hb := X.1.2.1
  have hown := X.1.2.2.2.1
  have hts := X.1.2.2.2.2
  have hl : lv_has ls 5 [(0, .ref (ad 0)), (1, .int a1), (2, .int a2), (3, .int a3)] := hl
  unfold wp_X7_sheet at hf
  refine lv_iload_n hx hb dX7_sheet_0 rfl (lv_at hl 1 rfl) ?_
  refine x_ciP (x_rS (As := [.int a1]) (rest := []) X M (cm_X7_noSheet l G ad hI n a1 μ _ hf) mc_X7_noSheet ms_X7_noSheet lk_X7_87 mn_X7_noSheet hl ⟨⟨Nat.le_of_ble_eq_true rfl, Nat.le_of_ble_eq_true rfl⟩, rfl, Nat.le_of_ble_eq_true rfl, Nat.zero_le _, Nat.zero_le _⟩ rfl dX7_sheet_1) M (fun r_1 H locs hf M => ?_)
  try dsimp only at hf
  refine lv_if_eq (tgt := 13) hx hb dX7_sheet_4 (by decide) (fun c_4 => ?_) (fun c_4 => ?_)
  · replace hf := hf.1 c_4
    refine lv_iload_n hx hb dX7_sheet_13 rfl (lv_at hl 2 rfl) ?_
    refine lv_i2l hx hb dX7_sheet_14 rfl ?_
    refine lv_lconst (v := (0 : Int64)) hx hb dX7_sheet_15 (by decide) ?_
    refine lv_ldc2 (v := (2 : Int64)) hx hb hown (hts _ kc_X7_95) dX7_sheet_16 ?_
    refine x_ciP (x_rS (As := [.long (a2.toInt64), .long (0 : Int64), .long (2 : Int64)]) (rest := []) X M (cm_X7_in l G ad hI n (a2.toInt64) (0 : Int64) (2 : Int64) μ _ hf) mc_X7_in ms_X7_in lk_X7_97 mn_X7_in hl ⟨⟨Nat.le_of_ble_eq_true rfl, Nat.le_of_ble_eq_true rfl⟩, rfl, Nat.le_of_ble_eq_true rfl, Nat.zero_le _, Nat.zero_le _⟩ rfl dX7_sheet_19) M (fun r_19 H locs hf M => ?_)
    try dsimp only at hf
    refine lv_if_eq (tgt := 31) hx hb dX7_sheet_22 (by decide) (fun c_22 => ?_) (fun c_22 => ?_)
    · replace hf := hf.1 c_22
      refine lv_aload_n hx hb dX7_sheet_31 rfl (lv_at hl 0 rfl) ?_
      refine lv_bipush (v := ((-2) : Int32)) hx hb dX7_sheet_32 (by decide) ?_
      refine x_ci (x_rV (As := [.int ((-2) : Int32)]) (rest := []) X M (cm_X7_refused l G ad hI n ((-2) : Int32) μ _ hf) mc_X7_refused mv_X7_refused lk_X7_91 mn_X7_refused rgm_0 rfl hl ⟨⟨Nat.le_of_ble_eq_true rfl, Nat.le_of_ble_eq_true rfl⟩, rfl, Nat.le_of_ble_eq_true rfl, Nat.zero_le _, Nat.zero_le _⟩ rfl dX7_sheet_34) M (fun r_34 m_34 H locs hf M => ?_)
      try dsimp only at hf
      rw [hQ]
      exact x_iret X M hr hlk dX7_sheet_37 hf
    · replace hf := hf.2 c_22
      refine lv_iload_n hx hb dX7_sheet_25 rfl (lv_at hl 3 rfl) ?_
      refine lv_bipush (v := (60 : Int32)) hx hb dX7_sheet_26 (by decide) ?_
      refine lv_icmp_le (tgt := 38) hx hb dX7_sheet_28 (by decide) (fun c_28 => ?_) (fun c_28 => ?_)
      · replace hf := hf.1 c_28
        refine lv_iload_n hx hb dX7_sheet_38 rfl (lv_at hl 3 rfl) ?_
        refine lv_if_ge (tgt := 48) hx hb dX7_sheet_39 (by decide) (fun c_39 => ?_) (fun c_39 => ?_)
        · replace hf := hf.1 c_39
          refine lv_aload_n hx hb dX7_sheet_48 rfl (lv_at hl 0 rfl) ?_
          refine x_getR (r := 19) X M rgm_0 fd_X7_65 rfl dX7_sheet_49 ?_
          refine lv_iload_n hx hb dX7_sheet_52 rfl (lv_at hl 1 rfl) ?_
          refine lv_iload_n hx hb dX7_sheet_53 rfl (lv_at hl 3 rfl) ?_
          obtain ⟨g_54, hf⟩ := hf
          refine x_ist X M rgm_19 g_54 dX7_sheet_54 (fun m_54 H locs em_54 M => ?_)
          replace hf := hf m_54 em_54
          refine lv_aload_n hx hb dX7_sheet_55 rfl (lv_at hl 0 rfl) ?_
          refine x_getR (r := 20) X M rgm_0 fd_X7_68 rfl dX7_sheet_56 ?_
          refine lv_iload_n hx hb dX7_sheet_59 rfl (lv_at hl 1 rfl) ?_
          refine lv_iload_n hx hb dX7_sheet_60 rfl (lv_at hl 2 rfl) ?_
          obtain ⟨g_61, hf⟩ := hf
          refine x_ist X M rgm_20 g_61 dX7_sheet_61 (fun m_61 H locs em_61 M => ?_)
          replace hf := hf m_61 em_61
          refine lv_iconst (v := (0 : Int32)) hx hb dX7_sheet_62 (by decide) ?_
          refine lv_istore (lv' := [(4, .int (0 : Int32)), (0, .ref (ad 0)), (1, .int a1), (2, .int a2), (3, .int a3)]) hx hb dX7_sheet_63 hl (by decide) rfl (fun ls hl => ?_)
          refine xlp_w hf (fun (s_ : Int32 × xM) => match s_ with | (x4_65, m_65) => ∀ (H : Heap) (locs : List Loc) (ls : Array Slot), xS mS 23 G ad s m_65 H locs → lv_has ls 5 [(4, .int x4_65), (0, .ref (ad 0)), (1, .int a1), (3, .int a3)] → W p l e (rmo 2 45) s m args below meth c H locs 0 0 Q (F0 m 65 ls [])) ?_ _ _ _ M (lv_sub hl [0, 1, 2, 4] rfl)
          intro again65 hagain65 s_ hf
          obtain ⟨x4_65, m_65⟩ := s_
          try dsimp only at hf ⊢
          intro H locs ls M hl
          refine lv_iload hx hb dX7_sheet_65 (lv_at hl 0 rfl) ?_
          refine lv_iload_n hx hb dX7_sheet_67 rfl (lv_at hl 3 rfl) ?_
          refine lv_icmp_ge (tgt := 90) hx hb dX7_sheet_68 (by decide) (fun c_68 => ?_) (fun c_68 => ?_)
          · replace hf := hf.1 c_68
            refine lv_aload_n hx hb dX7_sheet_90 rfl (lv_at hl 1 rfl) ?_
            refine lv_iconst (v := (1 : Int32)) hx hb dX7_sheet_91 (by decide) ?_
            refine x_ci (x_rV (As := [.int (1 : Int32)]) (rest := []) X M (cm_X7_refused l G ad hI n (1 : Int32) m_65 _ hf) mc_X7_refused mv_X7_refused lk_X7_91 mn_X7_refused rgm_0 rfl hl ⟨⟨Nat.le_of_ble_eq_true rfl, Nat.le_of_ble_eq_true rfl⟩, rfl, Nat.le_of_ble_eq_true rfl, Nat.zero_le _, Nat.zero_le _⟩ rfl dX7_sheet_92) M (fun r_92 m_92 H locs hf M => ?_)
            try dsimp only at hf
            rw [hQ]
            exact x_iret X M hr hlk dX7_sheet_95 hf
          · replace hf := hf.2 c_68
            refine lv_aload_n hx hb dX7_sheet_71 rfl (lv_at hl 1 rfl) ?_
            refine x_getR (r := 21) X M rgm_0 fd_X7_71 rfl dX7_sheet_72 ?_
            refine lv_bipush (v := (60 : Int32)) hx hb dX7_sheet_75 (by decide) ?_
            refine lv_iload_n hx hb dX7_sheet_77 rfl (lv_at hl 2 rfl) ?_
            refine lv_imul hx hb dX7_sheet_78 ?_
            refine lv_iload hx hb dX7_sheet_79 (lv_at hl 0 rfl) ?_
            refine lv_iadd hx hb dX7_sheet_81 ?_
            refine lv_iconst (v := (0 : Int32)) hx hb dX7_sheet_82 (by decide) ?_
            obtain ⟨g_83, hf⟩ := hf
            refine x_ist X M rgm_21 g_83 dX7_sheet_83 (fun m_83 H locs em_83 M => ?_)
            replace hf := hf m_83 em_83
            obtain ⟨x4_84, ex4_84⟩ : ∃ y : Int32, y = x4_65 + 1 := ⟨_, rfl⟩
            replace hf := hf x4_84 ex4_84
            refine lv_iinc (v := x4_84) (lv' := [(4, .int x4_84), (0, .ref (ad 0)), (1, .int a1), (3, .int a3)]) hx hb dX7_sheet_84 hl (k := 0) rfl (by rw [ex4_84]; rfl) (by decide) rfl (fun ls hl => ?_)
            refine lv_goto (tgt := 65) hx hb dX7_sheet_87 (by decide) ?_
            exact hagain65 (x4_84, m_83) hf _ _ _ M (lv_sub hl [0, 1, 2, 3] rfl)
        · replace hf := hf.2 c_39
          refine lv_aload_n hx hb dX7_sheet_42 rfl (lv_at hl 0 rfl) ?_
          refine lv_iconst (v := (4 : Int32)) hx hb dX7_sheet_43 (by decide) ?_
          refine x_ci (x_rV (As := [.int (4 : Int32)]) (rest := []) X M (cm_X7_failed l G ad hI n (4 : Int32) μ _ hf) mc_X7_failed mv_X7_failed lk_X7_101 mn_X7_failed rgm_0 rfl hl ⟨⟨Nat.le_of_ble_eq_true rfl, Nat.le_of_ble_eq_true rfl⟩, rfl, Nat.le_of_ble_eq_true rfl, Nat.zero_le _, Nat.zero_le _⟩ rfl dX7_sheet_44) M (fun r_44 m_44 H locs hf M => ?_)
          try dsimp only at hf
          rw [hQ]
          exact x_iret X M hr hlk dX7_sheet_47 hf
      · replace hf := hf.2 c_28
        refine lv_aload_n hx hb dX7_sheet_31 rfl (lv_at hl 0 rfl) ?_
        refine lv_bipush (v := ((-2) : Int32)) hx hb dX7_sheet_32 (by decide) ?_
        refine x_ci (x_rV (As := [.int ((-2) : Int32)]) (rest := []) X M (cm_X7_refused l G ad hI n ((-2) : Int32) μ _ hf) mc_X7_refused mv_X7_refused lk_X7_91 mn_X7_refused rgm_0 rfl hl ⟨⟨Nat.le_of_ble_eq_true rfl, Nat.le_of_ble_eq_true rfl⟩, rfl, Nat.le_of_ble_eq_true rfl, Nat.zero_le _, Nat.zero_le _⟩ rfl dX7_sheet_34) M (fun r_34 m_34 H locs hf M => ?_)
        try dsimp only at hf
        rw [hQ]
        exact x_iret X M hr hlk dX7_sheet_37 hf
  · replace hf := hf.2 c_4
    refine lv_aload_n hx hb dX7_sheet_7 rfl (lv_at hl 0 rfl) ?_
    refine lv_iconst (v := ((-1) : Int32)) hx hb dX7_sheet_8 (by decide) ?_
    refine x_ci (x_rV (As := [.int ((-1) : Int32)]) (rest := []) X M (cm_X7_refused l G ad hI n ((-1) : Int32) μ _ hf) mc_X7_refused mv_X7_refused lk_X7_91 mn_X7_refused rgm_0 rfl hl ⟨⟨Nat.le_of_ble_eq_true rfl, Nat.le_of_ble_eq_true rfl⟩, rfl, Nat.le_of_ble_eq_true rfl, Nat.zero_le _, Nat.zero_le _⟩ rfl dX7_sheet_9) M (fun r_9 m_9 H locs hf M => ?_)
    try dsimp only at hf
    rw [hQ]
    exact x_iret X M hr hlk dX7_sheet_12 hf
def wp_X7_lose (n : Nat) (a1 : Int32) (μ : xM) (K : Int32 → xM → Prop) : Prop :=
  wp_X7_noSheet n a1 μ (fun r_1 : Int32 => ((r_1 = 0 → (vp_in a1 4 ∧ ((0 ≤ (μ 19 a1.toNatClampNeg) → (vp_in a1 4 ∧ (∀ m_30 : xM, m_30 = xu μ 19 a1.toNatClampNeg ((-1) : Int32) → K (1 : Int32) m_30))) ∧ (¬ 0 ≤ (μ 19 a1.toNatClampNeg) → (vp_in a1 4 ∧ (∀ m_30 : xM, m_30 = xu μ 19 a1.toNatClampNeg ((-1) : Int32) → K (0 : Int32) m_30)))))) ∧ (¬ r_1 = 0 → K ((-1) : Int32) μ)))
set_option maxHeartbeats 4000000 in
set_option maxRecDepth 100000 in
theorem cm_X7_lose (l : Launch) (G : xG) (ad : Nat → Nat) (hI : xI 23 ad) (n : Nat) (a1 : Int32) (μ : xM) (K : Int32 → xM → Prop) (hf : wp_X7_lose n a1 μ K) : Met l yX7_lose (Cond.code yX7_lose cX7_lose 3 (some .int) :: xw_all) (rmo 2 45) (va_Pc [.ref (ad 0), .int a1] (xPre mS 23 G ad μ)) (xQi mS 23 G ad K) 0 0 (xR 23 ad) := by
  refine x_ent (nL := 3) (own := RX7) (by decide) rfl hI (Nat.le_of_ble_eq_true rfl) ?_
  intro p e s m args below meth c H locs ls Q X hr hlk hQ M hl
  have hx := X.1.1
  have hb := X.1.2.1
  have hown := X.1.2.2.2.1
  have hts := X.1.2.2.2.2
  have hl : lv_has ls 3 [(0, .ref (ad 0)), (1, .int a1)] := hl
  unfold wp_X7_lose at hf
  refine lv_iload_n hx hb dX7_lose_0 rfl (lv_at hl 1 rfl) ?_
  refine x_ciP (x_rS (As := [.int a1]) (rest := []) X M (cm_X7_noSheet l G ad hI n a1 μ _ hf) mc_X7_noSheet ms_X7_noSheet lk_X7_87 mn_X7_noSheet hl ⟨⟨Nat.le_of_ble_eq_true rfl, Nat.le_of_ble_eq_true rfl⟩, rfl, Nat.le_of_ble_eq_true rfl, Nat.zero_le _, Nat.zero_le _⟩ rfl dX7_lose_1) M (fun r_1 H locs hf M => ?_)
  try dsimp only at hf
  refine lv_if_eq (tgt := 9) hx hb dX7_lose_4 (by decide) (fun c_4 => ?_) (fun c_4 => ?_)
  · replace hf := hf.1 c_4
    refine lv_aload_n hx hb dX7_lose_9 rfl (lv_at hl 0 rfl) ?_
    refine x_getR (r := 19) X M rgm_0 fd_X7_65 rfl dX7_lose_10 ?_
    refine lv_iload_n hx hb dX7_lose_13 rfl (lv_at hl 1 rfl) ?_
    obtain ⟨g_14, hf⟩ := hf
    refine x_ild X M rgm_19 g_14 dX7_lose_14 ?_
    refine lv_if_ge (tgt := 22) hx hb dX7_lose_15 (by decide) (fun c_15 => ?_) (fun c_15 => ?_)
    · replace hf := hf.1 c_15
      refine lv_iconst (v := (1 : Int32)) hx hb dX7_lose_22 (by decide) ?_
      refine lv_istore_n (lv' := [(2, .int (1 : Int32)), (0, .ref (ad 0)), (1, .int a1)]) hx hb dX7_lose_23 rfl hl (by decide) rfl (fun ls hl => ?_)
      refine lv_aload_n hx hb dX7_lose_24 rfl (lv_at hl 1 rfl) ?_
      refine x_getR (r := 19) X M rgm_0 fd_X7_65 rfl dX7_lose_25 ?_
      refine lv_iload_n hx hb dX7_lose_28 rfl (lv_at hl 2 rfl) ?_
      refine lv_iconst (v := ((-1) : Int32)) hx hb dX7_lose_29 (by decide) ?_
      obtain ⟨g_30, hf⟩ := hf
      refine x_ist X M rgm_19 g_30 dX7_lose_30 (fun m_30 H locs em_30 M => ?_)
      replace hf := hf m_30 em_30
      refine lv_iload_n hx hb dX7_lose_31 rfl (lv_at hl 0 rfl) ?_
      rw [hQ]
      exact x_iret X M hr hlk dX7_lose_32 hf
    · replace hf := hf.2 c_15
      refine lv_iconst (v := (0 : Int32)) hx hb dX7_lose_18 (by decide) ?_
      refine lv_goto (tgt := 23) hx hb dX7_lose_19 (by decide) ?_
      refine lv_istore_n (lv' := [(2, .int (0 : Int32)), (0, .ref (ad 0)), (1, .int a1)]) hx hb dX7_lose_23 rfl hl (by decide) rfl (fun ls hl => ?_)
      refine lv_aload_n hx hb dX7_lose_24 rfl (lv_at hl 1 rfl) ?_
      refine x_getR (r := 19) X M rgm_0 fd_X7_65 rfl dX7_lose_25 ?_
      refine lv_iload_n hx hb dX7_lose_28 rfl (lv_at hl 2 rfl) ?_
      refine lv_iconst (v := ((-1) : Int32)) hx hb dX7_lose_29 (by decide) ?_
      obtain ⟨g_30, hf⟩ := hf
      refine x_ist X M rgm_19 g_30 dX7_lose_30 (fun m_30 H locs em_30 M => ?_)
      replace hf := hf m_30 em_30
      refine lv_iload_n hx hb dX7_lose_31 rfl (lv_at hl 0 rfl) ?_
      rw [hQ]
      exact x_iret X M hr hlk dX7_lose_32 hf
  · replace hf := hf.2 c_4
    refine lv_iconst (v := ((-1) : Int32)) hx hb dX7_lose_7 (by decide) ?_
    rw [hQ]
    exact x_iret X M hr hlk dX7_lose_8 hf
def wp_X7_noCell (n : Nat) (a1 : Int32) (a2 : Int32) (μ : xM) (K : Int32 → Prop) : Prop :=
  (vp_in a1 4 ∧ ((0 ≤ (μ 19 a1.toNatClampNeg) → (vp_in a1 4 ∧ wp_X7_in n (a2.toInt64) (0 : Int64) (((μ 19 a1.toNatClampNeg).toInt64) - (1 : Int64)) μ (fun r_25 : Int32 => ((r_25 = 0 → K (3 : Int32)) ∧ (¬ r_25 = 0 → K (0 : Int32)))))) ∧ (¬ 0 ≤ (μ 19 a1.toNatClampNeg) → K (1 : Int32))))
set_option maxHeartbeats 4000000 in
set_option maxRecDepth 100000 in
theorem cm_X7_noCell (l : Launch) (G : xG) (ad : Nat → Nat) (hI : xI 23 ad) (n : Nat) (a1 : Int32) (a2 : Int32) (μ : xM) (K : Int32 → Prop) (hf : wp_X7_noCell n a1 a2 μ K) : Met l yX7_noCell (Cond.code yX7_noCell cX7_noCell 3 (some .int) :: xw_all) (rmo 1 25) (va_Pc [.ref (ad 0), .int a1, .int a2] (xPre mS 23 G ad μ)) (xQi mS 23 G ad (fun r u => K r ∧ u = μ)) 0 0 (xR 23 ad) := by
  refine x_ent (nL := 3) (own := RX7) (by decide) rfl hI (Nat.le_of_ble_eq_true rfl) ?_
  intro p e s m args below meth c H locs ls Q X hr hlk hQ M hl
  have hx := X.1.1
  have hb := X.1.2.1
  have hown := X.1.2.2.2.1
  have hts := X.1.2.2.2.2
  have hl : lv_has ls 3 [(0, .ref (ad 0)), (1, .int a1), (2, .int a2)] := hl
  unfold wp_X7_noCell at hf
  refine lv_aload_n hx hb dX7_noCell_0 rfl (lv_at hl 0 rfl) ?_
  refine x_getR (r := 19) X M rgm_0 fd_X7_65 rfl dX7_noCell_1 ?_
  refine lv_iload_n hx hb dX7_noCell_4 rfl (lv_at hl 1 rfl) ?_
  obtain ⟨g_5, hf⟩ := hf
  refine x_ild X M rgm_19 g_5 dX7_noCell_5 ?_
  refine lv_if_ge (tgt := 13) hx hb dX7_noCell_6 (by decide) (fun c_6 => ?_) (fun c_6 => ?_)
  · replace hf := hf.1 c_6
    refine lv_iload_n hx hb dX7_noCell_13 rfl (lv_at hl 2 rfl) ?_
    refine lv_i2l hx hb dX7_noCell_14 rfl ?_
    refine lv_lconst (v := (0 : Int64)) hx hb dX7_noCell_15 (by decide) ?_
    refine lv_aload_n hx hb dX7_noCell_16 rfl (lv_at hl 0 rfl) ?_
    refine x_getR (r := 19) X M rgm_0 fd_X7_65 rfl dX7_noCell_17 ?_
    refine lv_iload_n hx hb dX7_noCell_20 rfl (lv_at hl 1 rfl) ?_
    obtain ⟨g_21, hf⟩ := hf
    refine x_ild X M rgm_19 g_21 dX7_noCell_21 ?_
    refine lv_i2l hx hb dX7_noCell_22 rfl ?_
    refine lv_lconst (v := (1 : Int64)) hx hb dX7_noCell_23 (by decide) ?_
    refine lv_lsub hx hb dX7_noCell_24 ?_
    refine x_ciP (x_rS (As := [.long (a2.toInt64), .long (0 : Int64), .long (((μ 19 a1.toNatClampNeg).toInt64) - (1 : Int64))]) (rest := []) X M (cm_X7_in l G ad hI n (a2.toInt64) (0 : Int64) (((μ 19 a1.toNatClampNeg).toInt64) - (1 : Int64)) μ _ hf) mc_X7_in ms_X7_in lk_X7_97 mn_X7_in hl ⟨⟨Nat.le_of_ble_eq_true rfl, Nat.le_of_ble_eq_true rfl⟩, rfl, Nat.le_of_ble_eq_true rfl, Nat.zero_le _, Nat.zero_le _⟩ rfl dX7_noCell_25) M (fun r_25 H locs hf M => ?_)
    try dsimp only at hf
    refine lv_if_eq (tgt := 35) hx hb dX7_noCell_28 (by decide) (fun c_28 => ?_) (fun c_28 => ?_)
    · replace hf := hf.1 c_28
      refine lv_iconst (v := (3 : Int32)) hx hb dX7_noCell_35 (by decide) ?_
      rw [hQ]
      exact x_iret X M hr hlk dX7_noCell_36 ⟨hf, rfl⟩
    · replace hf := hf.2 c_28
      refine lv_iconst (v := (0 : Int32)) hx hb dX7_noCell_31 (by decide) ?_
      refine lv_goto (tgt := 36) hx hb dX7_noCell_32 (by decide) ?_
      rw [hQ]
      exact x_iret X M hr hlk dX7_noCell_36 ⟨hf, rfl⟩
  · replace hf := hf.2 c_6
    refine lv_iconst (v := (1 : Int32)) hx hb dX7_noCell_9 (by decide) ?_
    refine lv_goto (tgt := 36) hx hb dX7_noCell_10 (by decide) ?_
    rw [hQ]
    exact x_iret X M hr hlk dX7_noCell_36 ⟨hf, rfl⟩
def wp_X7_put (n : Nat) (a1 : Int32) (a2 : Int32) (a3 : Int32) (μ : xM) (K : Int32 → xM → Prop) : Prop :=
  wp_X7_noSheet n a1 μ (fun r_1 : Int32 => ((r_1 = 0 → wp_X7_noCell n a1 a2 μ (fun r_16 : Int32 => ((r_16 ≤ 0 → (vp_in a1 4 ∧ ((¬ (μ 20 a1.toNatClampNeg) = 0 → (vp_in a1 4 ∧ ((¬ (μ 20 a1.toNatClampNeg) = (1 : Int32) → (vp_in (((60 : Int32) * a1) + a2) 240 ∧ (∀ m_73 : xM, m_73 = xu μ 21 (((60 : Int32) * a1) + a2).toNatClampNeg a3 → wp_X7_refused n (1 : Int32) m_73 (fun (r_76 : Int32) (m_76 : xM) => K r_76 m_76)))) ∧ ((μ 20 a1.toNatClampNeg) = (1 : Int32) → (vp_in (((60 : Int32) * a1) + a2) 240 ∧ (∀ m_73 : xM, m_73 = xu μ 21 (((60 : Int32) * a1) + a2).toNatClampNeg (a3.toInt16.toInt32) → wp_X7_refused n (1 : Int32) m_73 (fun (r_76 : Int32) (m_76 : xM) => K r_76 m_76))))))) ∧ ((μ 20 a1.toNatClampNeg) = 0 → (vp_in (((60 : Int32) * a1) + a2) 240 ∧ (∀ m_73 : xM, m_73 = xu μ 21 (((60 : Int32) * a1) + a2).toNatClampNeg (a3.toInt8.toInt32) → wp_X7_refused n (1 : Int32) m_73 (fun (r_76 : Int32) (m_76 : xM) => K r_76 m_76))))))) ∧ (¬ r_16 ≤ 0 → wp_X7_noCell n a1 a2 μ (fun r_26 : Int32 => wp_X7_failed n r_26 μ (fun (r_29 : Int32) (m_29 : xM) => K r_29 m_29)))))) ∧ (¬ r_1 = 0 → wp_X7_refused n ((-1) : Int32) μ (fun (r_9 : Int32) (m_9 : xM) => K r_9 m_9))))
set_option maxHeartbeats 4000000 in
set_option maxRecDepth 100000 in
theorem cm_X7_put (l : Launch) (G : xG) (ad : Nat → Nat) (hI : xI 23 ad) (n : Nat) (a1 : Int32) (a2 : Int32) (a3 : Int32) (μ : xM) (K : Int32 → xM → Prop) (hf : wp_X7_put n a1 a2 a3 μ K) : Met l yX7_put (Cond.code yX7_put cX7_put 4 (some .int) :: xw_all) (rmo 2 47) (va_Pc [.ref (ad 0), .int a1, .int a2, .int a3] (xPre mS 23 G ad μ)) (xQi mS 23 G ad K) 0 0 (xR 23 ad) := by
  refine x_ent (nL := 4) (own := RX7) (by decide) rfl hI (Nat.le_of_ble_eq_true rfl) ?_
  intro p e s m args below meth c H locs ls Q X hr hlk hQ M hl
  have hx := X.1.1
  have hb := X.1.2.1
  have hown := X.1.2.2.2.1
  have hts := X.1.2.2.2.2
  have hl : lv_has ls 4 [(0, .ref (ad 0)), (1, .int a1), (2, .int a2), (3, .int a3)] := hl
  unfold wp_X7_put at hf
  refine lv_iload_n hx hb dX7_put_0 rfl (lv_at hl 1 rfl) ?_
  refine x_ciP (x_rS (As := [.int a1]) (rest := []) X M (cm_X7_noSheet l G ad hI n a1 μ _ hf) mc_X7_noSheet ms_X7_noSheet lk_X7_87 mn_X7_noSheet hl ⟨⟨Nat.le_of_ble_eq_true rfl, Nat.le_of_ble_eq_true rfl⟩, rfl, Nat.le_of_ble_eq_true rfl, Nat.zero_le _, Nat.zero_le _⟩ rfl dX7_put_1) M (fun r_1 H locs hf M => ?_)
  try dsimp only at hf
  refine lv_if_eq (tgt := 13) hx hb dX7_put_4 (by decide) (fun c_4 => ?_) (fun c_4 => ?_)
  · replace hf := hf.1 c_4
    refine lv_aload_n hx hb dX7_put_13 rfl (lv_at hl 0 rfl) ?_
    refine lv_iload_n hx hb dX7_put_14 rfl (lv_at hl 1 rfl) ?_
    refine lv_iload_n hx hb dX7_put_15 rfl (lv_at hl 2 rfl) ?_
    refine x_ciP (x_rV (As := [.int a1, .int a2]) (rest := []) X M (cm_X7_noCell l G ad hI n a1 a2 μ _ hf) mc_X7_noCell mv_X7_noCell lk_X7_222 mn_X7_noCell rgm_0 rfl hl ⟨⟨Nat.le_of_ble_eq_true rfl, Nat.le_of_ble_eq_true rfl⟩, rfl, Nat.le_of_ble_eq_true rfl, Nat.zero_le _, Nat.zero_le _⟩ rfl dX7_put_16) M (fun r_16 H locs hf M => ?_)
    try dsimp only at hf
    refine lv_if_le (tgt := 33) hx hb dX7_put_19 (by decide) (fun c_19 => ?_) (fun c_19 => ?_)
    · replace hf := hf.1 c_19
      refine lv_aload_n hx hb dX7_put_33 rfl (lv_at hl 0 rfl) ?_
      refine x_getR (r := 21) X M rgm_0 fd_X7_71 rfl dX7_put_34 ?_
      refine lv_bipush (v := (60 : Int32)) hx hb dX7_put_37 (by decide) ?_
      refine lv_iload_n hx hb dX7_put_39 rfl (lv_at hl 1 rfl) ?_
      refine lv_imul hx hb dX7_put_40 ?_
      refine lv_iload_n hx hb dX7_put_41 rfl (lv_at hl 2 rfl) ?_
      refine lv_iadd hx hb dX7_put_42 ?_
      refine lv_aload_n hx hb dX7_put_43 rfl (lv_at hl 0 rfl) ?_
      refine x_getR (r := 20) X M rgm_0 fd_X7_68 rfl dX7_put_44 ?_
      refine lv_iload_n hx hb dX7_put_47 rfl (lv_at hl 1 rfl) ?_
      obtain ⟨g_48, hf⟩ := hf
      refine x_ild X M rgm_20 g_48 dX7_put_48 ?_
      refine lv_if_ne (tgt := 57) hx hb dX7_put_49 (by decide) (fun c_49 => ?_) (fun c_49 => ?_)
      · replace hf := hf.1 c_49
        refine lv_aload_n hx hb dX7_put_57 rfl (lv_at hl 0 rfl) ?_
        refine x_getR (r := 20) X M rgm_0 fd_X7_68 rfl dX7_put_58 ?_
        refine lv_iload_n hx hb dX7_put_61 rfl (lv_at hl 1 rfl) ?_
        obtain ⟨g_62, hf⟩ := hf
        refine x_ild X M rgm_20 g_62 dX7_put_62 ?_
        refine lv_iconst (v := (1 : Int32)) hx hb dX7_put_63 (by decide) ?_
        refine lv_icmp_ne (tgt := 72) hx hb dX7_put_64 (by decide) (fun c_64 => ?_) (fun c_64 => ?_)
        · replace hf := hf.1 c_64
          refine lv_iload_n hx hb dX7_put_72 rfl (lv_at hl 3 rfl) ?_
          obtain ⟨g_73, hf⟩ := hf
          refine x_ist X M rgm_21 g_73 dX7_put_73 (fun m_73 H locs em_73 M => ?_)
          replace hf := hf m_73 em_73
          refine lv_aload_n hx hb dX7_put_74 rfl (lv_at hl 0 rfl) ?_
          refine lv_iconst (v := (1 : Int32)) hx hb dX7_put_75 (by decide) ?_
          refine x_ci (x_rV (As := [.int (1 : Int32)]) (rest := []) X M (cm_X7_refused l G ad hI n (1 : Int32) m_73 _ hf) mc_X7_refused mv_X7_refused lk_X7_91 mn_X7_refused rgm_0 rfl hl ⟨⟨Nat.le_of_ble_eq_true rfl, Nat.le_of_ble_eq_true rfl⟩, rfl, Nat.le_of_ble_eq_true rfl, Nat.zero_le _, Nat.zero_le _⟩ rfl dX7_put_76) M (fun r_76 m_76 H locs hf M => ?_)
          try dsimp only at hf
          rw [hQ]
          exact x_iret X M hr hlk dX7_put_79 hf
        · replace hf := hf.2 c_64
          refine lv_iload_n hx hb dX7_put_67 rfl (lv_at hl 3 rfl) ?_
          refine lv_i2s hx hb dX7_put_68 rfl ?_
          refine lv_goto (tgt := 73) hx hb dX7_put_69 (by decide) ?_
          obtain ⟨g_73, hf⟩ := hf
          refine x_ist X M rgm_21 g_73 dX7_put_73 (fun m_73 H locs em_73 M => ?_)
          replace hf := hf m_73 em_73
          refine lv_aload_n hx hb dX7_put_74 rfl (lv_at hl 0 rfl) ?_
          refine lv_iconst (v := (1 : Int32)) hx hb dX7_put_75 (by decide) ?_
          refine x_ci (x_rV (As := [.int (1 : Int32)]) (rest := []) X M (cm_X7_refused l G ad hI n (1 : Int32) m_73 _ hf) mc_X7_refused mv_X7_refused lk_X7_91 mn_X7_refused rgm_0 rfl hl ⟨⟨Nat.le_of_ble_eq_true rfl, Nat.le_of_ble_eq_true rfl⟩, rfl, Nat.le_of_ble_eq_true rfl, Nat.zero_le _, Nat.zero_le _⟩ rfl dX7_put_76) M (fun r_76 m_76 H locs hf M => ?_)
          try dsimp only at hf
          rw [hQ]
          exact x_iret X M hr hlk dX7_put_79 hf
      · replace hf := hf.2 c_49
        refine lv_iload_n hx hb dX7_put_52 rfl (lv_at hl 3 rfl) ?_
        refine lv_i2b hx hb dX7_put_53 rfl ?_
        refine lv_goto (tgt := 73) hx hb dX7_put_54 (by decide) ?_
        obtain ⟨g_73, hf⟩ := hf
        refine x_ist X M rgm_21 g_73 dX7_put_73 (fun m_73 H locs em_73 M => ?_)
        replace hf := hf m_73 em_73
        refine lv_aload_n hx hb dX7_put_74 rfl (lv_at hl 0 rfl) ?_
        refine lv_iconst (v := (1 : Int32)) hx hb dX7_put_75 (by decide) ?_
        refine x_ci (x_rV (As := [.int (1 : Int32)]) (rest := []) X M (cm_X7_refused l G ad hI n (1 : Int32) m_73 _ hf) mc_X7_refused mv_X7_refused lk_X7_91 mn_X7_refused rgm_0 rfl hl ⟨⟨Nat.le_of_ble_eq_true rfl, Nat.le_of_ble_eq_true rfl⟩, rfl, Nat.le_of_ble_eq_true rfl, Nat.zero_le _, Nat.zero_le _⟩ rfl dX7_put_76) M (fun r_76 m_76 H locs hf M => ?_)
        try dsimp only at hf
        rw [hQ]
        exact x_iret X M hr hlk dX7_put_79 hf
    · replace hf := hf.2 c_19
      refine lv_aload_n hx hb dX7_put_22 rfl (lv_at hl 0 rfl) ?_
      refine lv_aload_n hx hb dX7_put_23 rfl (lv_at hl 0 rfl) ?_
      refine lv_iload_n hx hb dX7_put_24 rfl (lv_at hl 1 rfl) ?_
      refine lv_iload_n hx hb dX7_put_25 rfl (lv_at hl 2 rfl) ?_
      refine x_ciP (x_rV (As := [.int a1, .int a2]) (rest := [.ref (ad 0)]) X M (cm_X7_noCell l G ad hI n a1 a2 μ _ hf) mc_X7_noCell mv_X7_noCell lk_X7_222 mn_X7_noCell rgm_0 rfl hl ⟨⟨Nat.le_of_ble_eq_true rfl, Nat.le_of_ble_eq_true rfl⟩, rfl, Nat.le_of_ble_eq_true rfl, Nat.zero_le _, Nat.zero_le _⟩ rfl dX7_put_26) M (fun r_26 H locs hf M => ?_)
      try dsimp only at hf
      refine x_ci (x_rV (As := [.int r_26]) (rest := []) X M (cm_X7_failed l G ad hI n r_26 μ _ hf) mc_X7_failed mv_X7_failed lk_X7_101 mn_X7_failed rgm_0 rfl hl ⟨⟨Nat.le_of_ble_eq_true rfl, Nat.le_of_ble_eq_true rfl⟩, rfl, Nat.le_of_ble_eq_true rfl, Nat.zero_le _, Nat.zero_le _⟩ rfl dX7_put_29) M (fun r_29 m_29 H locs hf M => ?_)
      try dsimp only at hf
      rw [hQ]
      exact x_iret X M hr hlk dX7_put_32 hf
  · replace hf := hf.2 c_4
    refine lv_aload_n hx hb dX7_put_7 rfl (lv_at hl 0 rfl) ?_
    refine lv_iconst (v := ((-1) : Int32)) hx hb dX7_put_8 (by decide) ?_
    refine x_ci (x_rV (As := [.int ((-1) : Int32)]) (rest := []) X M (cm_X7_refused l G ad hI n ((-1) : Int32) μ _ hf) mc_X7_refused mv_X7_refused lk_X7_91 mn_X7_refused rgm_0 rfl hl ⟨⟨Nat.le_of_ble_eq_true rfl, Nat.le_of_ble_eq_true rfl⟩, rfl, Nat.le_of_ble_eq_true rfl, Nat.zero_le _, Nat.zero_le _⟩ rfl dX7_put_9) M (fun r_9 m_9 H locs hf M => ?_)
    try dsimp only at hf
    rw [hQ]
    exact x_iret X M hr hlk dX7_put_12 hf
def wp_X7_cell (n : Nat) (a1 : Int32) (a2 : Int32) (a3 : Int32) (μ : xM) (K : Int64 → xM → Prop) : Prop :=
  (∀ m_2 : xM, m_2 = xu μ 0 0 (0 : Int32) → wp_X7_noSheet n a1 m_2 (fun r_6 : Int32 => ((¬ r_6 = 0 → wp_X7_nothing n m_2 (fun r_24 : Int64 => K r_24 m_2)) ∧ (r_6 = 0 → wp_X7_in n (a3.toInt64) (0 : Int64) (2 : Int64) m_2 (fun r_18 : Int32 => ((¬ r_18 = 0 → (vp_in a1 4 ∧ xjn (fun (_ : Unit) => wp_X7_noCell n a1 a2 m_2 (fun r_56 : Int32 => ((r_56 ≤ 0 → (vp_in (((60 : Int32) * a1) + a2) 240 ∧ K ((m_2 21 (((60 : Int32) * a1) + a2).toNatClampNeg).toInt64) m_2)) ∧ (¬ r_56 ≤ 0 → wp_X7_noCell n a1 a2 m_2 (fun r_66 : Int32 => wp_X7_failedLong n r_66 m_2 (fun (r_69 : Int64) (m_69 : xM) => K r_69 m_69)))))) (fun J53 : Unit → Prop => (((m_2 19 a1.toNatClampNeg) < 0 → J53 ()) ∧ (¬ (m_2 19 a1.toNatClampNeg) < 0 → (vp_in a1 4 ∧ (((m_2 20 a1.toNatClampNeg) = a3 → J53 ()) ∧ (¬ (m_2 20 a1.toNatClampNeg) = a3 → wp_X7_failedLong n (2 : Int32) m_2 (fun (r_49 : Int64) (m_49 : xM) => K r_49 m_49))))))))) ∧ (r_18 = 0 → wp_X7_nothing n m_2 (fun r_24 : Int64 => K r_24 m_2))))))))
set_option maxHeartbeats 4000000 in
set_option maxRecDepth 100000 in
theorem cm_X7_cell (l : Launch) (G : xG) (ad : Nat → Nat) (hI : xI 23 ad) (n : Nat) (a1 : Int32) (a2 : Int32) (a3 : Int32) (μ : xM) (K : Int64 → xM → Prop) (hf : wp_X7_cell n a1 a2 a3 μ K) : Met l yX7_cell (Cond.code yX7_cell cX7_cell 4 (some .long) :: xw_all) (rmo 2 47) (va_Pc [.ref (ad 0), .int a1, .int a2, .int a3] (xPre mS 23 G ad μ)) (xQl mS 23 G ad K) 0 0 (xR 23 ad) := by
  refine x_ent (nL := 4) (own := RX7) (by decide) rfl hI (Nat.le_of_ble_eq_true rfl) ?_
  intro p e s m args below meth c H locs ls Q X hr hlk hQ M hl
  have hx := X.1.1
  have hb := X.1.2.1
  have hown := X.1.2.2.2.1
  have hts := X.1.2.2.2.2
  have hl : lv_has ls 4 [(0, .ref (ad 0)), (1, .int a1), (2, .int a2), (3, .int a3)] := hl
  unfold wp_X7_cell at hf
  refine lv_aload_n hx hb dX7_cell_0 rfl (lv_at hl 0 rfl) ?_
  refine lv_iconst (v := (0 : Int32)) hx hb dX7_cell_1 (by decide) ?_
  refine x_putI X M rgm_0 fp_X7_79 rfl dX7_cell_2 (fun m_2 H locs em_2 M => ?_)
  replace hf := hf m_2 em_2
  refine lv_iload_n hx hb dX7_cell_5 rfl (lv_at hl 1 rfl) ?_
  refine x_ciP (x_rS (As := [.int a1]) (rest := []) X M (cm_X7_noSheet l G ad hI n a1 m_2 _ hf) mc_X7_noSheet ms_X7_noSheet lk_X7_87 mn_X7_noSheet hl ⟨⟨Nat.le_of_ble_eq_true rfl, Nat.le_of_ble_eq_true rfl⟩, rfl, Nat.le_of_ble_eq_true rfl, Nat.zero_le _, Nat.zero_le _⟩ rfl dX7_cell_6) M (fun r_6 H locs hf M => ?_)
  try dsimp only at hf
  refine lv_if_ne (tgt := 24) hx hb dX7_cell_9 (by decide) (fun c_9 => ?_) (fun c_9 => ?_)
  · replace hf := hf.1 c_9
    refine x_clP (x_rS (As := []) (rest := []) X M (cm_X7_nothing l G ad hI n m_2 _ hf) mc_X7_nothing ms_X7_nothing lk_X7_83 mn_X7_nothing hl ⟨⟨Nat.le_of_ble_eq_true rfl, Nat.le_of_ble_eq_true rfl⟩, rfl, Nat.le_of_ble_eq_true rfl, Nat.zero_le _, Nat.zero_le _⟩ rfl dX7_cell_24) M (fun r_24 H locs hf M => ?_)
    try dsimp only at hf
    rw [hQ]
    exact x_lret X M hr hlk dX7_cell_27 hf
  · replace hf := hf.2 c_9
    refine lv_iload_n hx hb dX7_cell_12 rfl (lv_at hl 3 rfl) ?_
    refine lv_i2l hx hb dX7_cell_13 rfl ?_
    refine lv_lconst (v := (0 : Int64)) hx hb dX7_cell_14 (by decide) ?_
    refine lv_ldc2 (v := (2 : Int64)) hx hb hown (hts _ kc_X7_95) dX7_cell_15 ?_
    refine x_ciP (x_rS (As := [.long (a3.toInt64), .long (0 : Int64), .long (2 : Int64)]) (rest := []) X M (cm_X7_in l G ad hI n (a3.toInt64) (0 : Int64) (2 : Int64) m_2 _ hf) mc_X7_in ms_X7_in lk_X7_97 mn_X7_in hl ⟨⟨Nat.le_of_ble_eq_true rfl, Nat.le_of_ble_eq_true rfl⟩, rfl, Nat.le_of_ble_eq_true rfl, Nat.zero_le _, Nat.zero_le _⟩ rfl dX7_cell_18) M (fun r_18 H locs hf M => ?_)
    try dsimp only at hf
    refine lv_if_ne (tgt := 28) hx hb dX7_cell_21 (by decide) (fun c_21 => ?_) (fun c_21 => ?_)
    · replace hf := hf.1 c_21
      refine lv_aload_n hx hb dX7_cell_28 rfl (lv_at hl 0 rfl) ?_
      refine x_getR (r := 19) X M rgm_0 fd_X7_65 rfl dX7_cell_29 ?_
      refine lv_iload_n hx hb dX7_cell_32 rfl (lv_at hl 1 rfl) ?_
      obtain ⟨g_33, hf⟩ := hf
      refine x_ild X M rgm_19 g_33 dX7_cell_33 ?_
      refine xjn_w hf (fun (_ : Unit) => ∀ (H : Heap) (locs : List Loc) (ls : Array Slot), xS mS 23 G ad s m_2 H locs → lv_has ls 4 [(0, .ref (ad 0)), (1, .int a1), (2, .int a2)] → W p l e (rmo 2 47) s m args below meth c H locs 0 0 Q (F0 m 53 ls [])) ?_ ?_
      · intro s_ hf
        intro H locs ls M hl
        refine lv_aload_n hx hb dX7_cell_53 rfl (lv_at hl 0 rfl) ?_
        refine lv_iload_n hx hb dX7_cell_54 rfl (lv_at hl 1 rfl) ?_
        refine lv_iload_n hx hb dX7_cell_55 rfl (lv_at hl 2 rfl) ?_
        refine x_ciP (x_rV (As := [.int a1, .int a2]) (rest := []) X M (cm_X7_noCell l G ad hI n a1 a2 m_2 _ hf) mc_X7_noCell mv_X7_noCell lk_X7_222 mn_X7_noCell rgm_0 rfl hl ⟨⟨Nat.le_of_ble_eq_true rfl, Nat.le_of_ble_eq_true rfl⟩, rfl, Nat.le_of_ble_eq_true rfl, Nat.zero_le _, Nat.zero_le _⟩ rfl dX7_cell_56) M (fun r_56 H locs hf M => ?_)
        try dsimp only at hf
        refine lv_if_le (tgt := 75) hx hb dX7_cell_59 (by decide) (fun c_59 => ?_) (fun c_59 => ?_)
        · replace hf := hf.1 c_59
          refine lv_aload_n hx hb dX7_cell_75 rfl (lv_at hl 0 rfl) ?_
          refine x_getR (r := 21) X M rgm_0 fd_X7_71 rfl dX7_cell_76 ?_
          refine lv_bipush (v := (60 : Int32)) hx hb dX7_cell_79 (by decide) ?_
          refine lv_iload_n hx hb dX7_cell_81 rfl (lv_at hl 1 rfl) ?_
          refine lv_imul hx hb dX7_cell_82 ?_
          refine lv_iload_n hx hb dX7_cell_83 rfl (lv_at hl 2 rfl) ?_
          refine lv_iadd hx hb dX7_cell_84 ?_
          obtain ⟨g_85, hf⟩ := hf
          refine x_ild X M rgm_21 g_85 dX7_cell_85 ?_
          refine lv_i2l hx hb dX7_cell_86 rfl ?_
          rw [hQ]
          exact x_lret X M hr hlk dX7_cell_87 hf
        · replace hf := hf.2 c_59
          refine lv_aload_n hx hb dX7_cell_62 rfl (lv_at hl 0 rfl) ?_
          refine lv_aload_n hx hb dX7_cell_63 rfl (lv_at hl 0 rfl) ?_
          refine lv_iload_n hx hb dX7_cell_64 rfl (lv_at hl 1 rfl) ?_
          refine lv_iload_n hx hb dX7_cell_65 rfl (lv_at hl 2 rfl) ?_
          refine x_ciP (x_rV (As := [.int a1, .int a2]) (rest := [.ref (ad 0)]) X M (cm_X7_noCell l G ad hI n a1 a2 m_2 _ hf) mc_X7_noCell mv_X7_noCell lk_X7_222 mn_X7_noCell rgm_0 rfl hl ⟨⟨Nat.le_of_ble_eq_true rfl, Nat.le_of_ble_eq_true rfl⟩, rfl, Nat.le_of_ble_eq_true rfl, Nat.zero_le _, Nat.zero_le _⟩ rfl dX7_cell_66) M (fun r_66 H locs hf M => ?_)
          try dsimp only at hf
          refine x_cl (x_rV (As := [.int r_66]) (rest := []) X M (cm_X7_failedLong l G ad hI n r_66 m_2 _ hf) mc_X7_failedLong mv_X7_failedLong lk_X7_225 mn_X7_failedLong rgm_0 rfl hl ⟨⟨Nat.le_of_ble_eq_true rfl, Nat.le_of_ble_eq_true rfl⟩, rfl, Nat.le_of_ble_eq_true rfl, Nat.zero_le _, Nat.zero_le _⟩ rfl dX7_cell_69) M (fun r_69 m_69 H locs hf M => ?_)
          try dsimp only at hf
          refine lv_goto (tgt := 87) hx hb dX7_cell_72 (by decide) ?_
          rw [hQ]
          exact x_lret X M hr hlk dX7_cell_87 hf
      · intro J53 hJ53 hf
        refine lv_if_lt (tgt := 53) hx hb dX7_cell_34 (by decide) (fun c_34 => ?_) (fun c_34 => ?_)
        · replace hf := hf.1 c_34
          exact hJ53 () hf _ _ _ M (lv_sub hl [0, 1, 2] rfl)
        · replace hf := hf.2 c_34
          refine lv_aload_n hx hb dX7_cell_37 rfl (lv_at hl 0 rfl) ?_
          refine x_getR (r := 20) X M rgm_0 fd_X7_68 rfl dX7_cell_38 ?_
          refine lv_iload_n hx hb dX7_cell_41 rfl (lv_at hl 1 rfl) ?_
          obtain ⟨g_42, hf⟩ := hf
          refine x_ild X M rgm_20 g_42 dX7_cell_42 ?_
          refine lv_iload_n hx hb dX7_cell_43 rfl (lv_at hl 3 rfl) ?_
          refine lv_icmp_eq (tgt := 53) hx hb dX7_cell_44 (by decide) (fun c_44 => ?_) (fun c_44 => ?_)
          · replace hf := hf.1 c_44
            exact hJ53 () hf _ _ _ M (lv_sub hl [0, 1, 2] rfl)
          · replace hf := hf.2 c_44
            refine lv_aload_n hx hb dX7_cell_47 rfl (lv_at hl 0 rfl) ?_
            refine lv_iconst (v := (2 : Int32)) hx hb dX7_cell_48 (by decide) ?_
            refine x_cl (x_rV (As := [.int (2 : Int32)]) (rest := []) X M (cm_X7_failedLong l G ad hI n (2 : Int32) m_2 _ hf) mc_X7_failedLong mv_X7_failedLong lk_X7_225 mn_X7_failedLong rgm_0 rfl hl ⟨⟨Nat.le_of_ble_eq_true rfl, Nat.le_of_ble_eq_true rfl⟩, rfl, Nat.le_of_ble_eq_true rfl, Nat.zero_le _, Nat.zero_le _⟩ rfl dX7_cell_49) M (fun r_49 m_49 H locs hf M => ?_)
            try dsimp only at hf
            rw [hQ]
            exact x_lret X M hr hlk dX7_cell_52 hf
    · replace hf := hf.2 c_21
      refine x_clP (x_rS (As := []) (rest := []) X M (cm_X7_nothing l G ad hI n m_2 _ hf) mc_X7_nothing ms_X7_nothing lk_X7_83 mn_X7_nothing hl ⟨⟨Nat.le_of_ble_eq_true rfl, Nat.le_of_ble_eq_true rfl⟩, rfl, Nat.le_of_ble_eq_true rfl, Nat.zero_le _, Nat.zero_le _⟩ rfl dX7_cell_24) M (fun r_24 H locs hf M => ?_)
      try dsimp only at hf
      rw [hQ]
      exact x_lret X M hr hlk dX7_cell_27 hf
def wp_X7_copy (n : Nat) (a1 : Int32) (a2 : Int32) (a3 : Int32) (a4 : Int32) (a5 : Int32) (μ : xM) (K : Int32 → xM → Prop) : Prop :=
  wp_X7_noSheet n a1 μ (fun r_1 : Int32 => ((¬ r_1 = 0 → wp_X7_refused n ((-1) : Int32) μ (fun (r_16 : Int32) (m_16 : xM) => K r_16 m_16)) ∧ (r_1 = 0 → wp_X7_noSheet n a3 μ (fun r_8 : Int32 => ((r_8 = 0 → (vp_in a1 4 ∧ (((μ 19 a1.toNatClampNeg) < 0 → wp_X7_failed n (1 : Int32) μ (fun (r_40 : Int32) (m_40 : xM) => K r_40 m_40)) ∧ (¬ (μ 19 a1.toNatClampNeg) < 0 → (vp_in a3 4 ∧ ((0 ≤ (μ 19 a3.toNatClampNeg) → (vp_in a1 4 ∧ (vp_in a3 4 ∧ (((μ 20 a1.toNatClampNeg) = (μ 20 a3.toNatClampNeg) → (vp_in a1 4 ∧ wp_X7_isBeyond n a2 (a5.toInt64) (μ 19 a1.toNatClampNeg) μ (fun r_75 : Int32 => ((¬ r_75 = 0 → wp_X7_failed n (3 : Int32) μ (fun (r_100 : Int32) (m_100 : xM) => K r_100 m_100)) ∧ (r_75 = 0 → (vp_in a3 4 ∧ wp_X7_isBeyond n a4 (a5.toInt64) (μ 19 a3.toNatClampNeg) μ (fun r_92 : Int32 => ((r_92 = 0 → xjn (fun (m_141 : xM) => xlp (fun (again144 : (Int32 × xM) → Prop) => fun (s_ : Int32 × xM) => match s_ with | (x6_144, m_144) => ((a5 ≤ x6_144 → wp_X7_refused n a5 m_144 (fun (r_182 : Int32) (m_182 : xM) => K r_182 m_182)) ∧ (¬ a5 ≤ x6_144 → (vp_in x6_144 60 ∧ (vp_in ((((60 : Int32) * a3) + a4) + x6_144) 240 ∧ (∀ m_172 : xM, m_172 = xu m_144 21 ((((60 : Int32) * a3) + a4) + x6_144).toNatClampNeg (m_144 22 x6_144.toNatClampNeg) → (∀ x6_173 : Int32, x6_173 = x6_144 + 1 → again144 (x6_173, m_172)))))))) n ((0 : Int32), m_141)) (fun J141 : xM → Prop => xlp (fun (again107 : (Int32 × xM) → Prop) => fun (s_ : Int32 × xM) => match s_ with | (x6_107, m_107) => ((a5 ≤ x6_107 → J141 m_107) ∧ (¬ a5 ≤ x6_107 → (vp_in ((((60 : Int32) * a1) + a2) + x6_107) 240 ∧ (vp_in x6_107 60 ∧ (∀ m_134 : xM, m_134 = xu m_107 22 x6_107.toNatClampNeg (m_107 21 ((((60 : Int32) * a1) + a2) + x6_107).toNatClampNeg) → (∀ x6_135 : Int32, x6_135 = x6_107 + 1 → again107 (x6_135, m_134)))))))) n ((0 : Int32), μ))) ∧ (¬ r_92 = 0 → wp_X7_failed n (3 : Int32) μ (fun (r_100 : Int32) (m_100 : xM) => K r_100 m_100)))))))))) ∧ (¬ (μ 20 a1.toNatClampNeg) = (μ 20 a3.toNatClampNeg) → wp_X7_failed n (2 : Int32) μ (fun (r_61 : Int32) (m_61 : xM) => K r_61 m_61)))))) ∧ (¬ 0 ≤ (μ 19 a3.toNatClampNeg) → wp_X7_failed n (1 : Int32) μ (fun (r_40 : Int32) (m_40 : xM) => K r_40 m_40)))))))) ∧ (¬ r_8 = 0 → wp_X7_refused n ((-1) : Int32) μ (fun (r_16 : Int32) (m_16 : xM) => K r_16 m_16)))))))
set_option maxHeartbeats 4000000 in
set_option maxRecDepth 100000 in
theorem cm_X7_copy (l : Launch) (G : xG) (ad : Nat → Nat) (hI : xI 23 ad) (n : Nat) (a1 : Int32) (a2 : Int32) (a3 : Int32) (a4 : Int32) (a5 : Int32) (μ : xM) (K : Int32 → xM → Prop) (hf : wp_X7_copy n a1 a2 a3 a4 a5 μ K) : Met l yX7_copy (Cond.code yX7_copy cX7_copy 7 (some .int) :: xw_all) (rmo 2 45) (va_Pc [.ref (ad 0), .int a1, .int a2, .int a3, .int a4, .int a5] (xPre mS 23 G ad μ)) (xQi mS 23 G ad K) 0 0 (xR 23 ad) := by
  refine x_ent (nL := 7) (own := RX7) (by decide) rfl hI (Nat.le_of_ble_eq_true rfl) ?_
  intro p e s m args below meth c H locs ls Q X hr hlk hQ M hl
  have hx := X.1.1
  have hb := X.1.2.1
  have hown := X.1.2.2.2.1
  have hts := X.1.2.2.2.2
  have hl : lv_has ls 7 [(0, .ref (ad 0)), (1, .int a1), (2, .int a2), (3, .int a3), (4, .int a4), (5, .int a5)] := hl
  unfold wp_X7_copy at hf
  refine lv_iload_n hx hb dX7_copy_0 rfl (lv_at hl 1 rfl) ?_
  refine x_ciP (x_rS (As := [.int a1]) (rest := []) X M (cm_X7_noSheet l G ad hI n a1 μ _ hf) mc_X7_noSheet ms_X7_noSheet lk_X7_87 mn_X7_noSheet hl ⟨⟨Nat.le_of_ble_eq_true rfl, Nat.le_of_ble_eq_true rfl⟩, rfl, Nat.le_of_ble_eq_true rfl, Nat.zero_le _, Nat.zero_le _⟩ rfl dX7_copy_1) M (fun r_1 H locs hf M => ?_)
  try dsimp only at hf
  refine lv_if_ne (tgt := 14) hx hb dX7_copy_4 (by decide) (fun c_4 => ?_) (fun c_4 => ?_)
  · replace hf := hf.1 c_4
    refine lv_aload_n hx hb dX7_copy_14 rfl (lv_at hl 0 rfl) ?_
    refine lv_iconst (v := ((-1) : Int32)) hx hb dX7_copy_15 (by decide) ?_
    refine x_ci (x_rV (As := [.int ((-1) : Int32)]) (rest := []) X M (cm_X7_refused l G ad hI n ((-1) : Int32) μ _ hf) mc_X7_refused mv_X7_refused lk_X7_91 mn_X7_refused rgm_0 rfl hl ⟨⟨Nat.le_of_ble_eq_true rfl, Nat.le_of_ble_eq_true rfl⟩, rfl, Nat.le_of_ble_eq_true rfl, Nat.zero_le _, Nat.zero_le _⟩ rfl dX7_copy_16) M (fun r_16 m_16 H locs hf M => ?_)
    try dsimp only at hf
    rw [hQ]
    exact x_iret X M hr hlk dX7_copy_19 hf
  · replace hf := hf.2 c_4
    refine lv_iload_n hx hb dX7_copy_7 rfl (lv_at hl 3 rfl) ?_
    refine x_ciP (x_rS (As := [.int a3]) (rest := []) X M (cm_X7_noSheet l G ad hI n a3 μ _ hf) mc_X7_noSheet ms_X7_noSheet lk_X7_87 mn_X7_noSheet hl ⟨⟨Nat.le_of_ble_eq_true rfl, Nat.le_of_ble_eq_true rfl⟩, rfl, Nat.le_of_ble_eq_true rfl, Nat.zero_le _, Nat.zero_le _⟩ rfl dX7_copy_8) M (fun r_8 H locs hf M => ?_)
    try dsimp only at hf
    refine lv_if_eq (tgt := 20) hx hb dX7_copy_11 (by decide) (fun c_11 => ?_) (fun c_11 => ?_)
    · replace hf := hf.1 c_11
      refine lv_aload_n hx hb dX7_copy_20 rfl (lv_at hl 0 rfl) ?_
      refine x_getR (r := 19) X M rgm_0 fd_X7_65 rfl dX7_copy_21 ?_
      refine lv_iload_n hx hb dX7_copy_24 rfl (lv_at hl 1 rfl) ?_
      obtain ⟨g_25, hf⟩ := hf
      refine x_ild X M rgm_19 g_25 dX7_copy_25 ?_
      refine lv_if_lt (tgt := 38) hx hb dX7_copy_26 (by decide) (fun c_26 => ?_) (fun c_26 => ?_)
      · replace hf := hf.1 c_26
        refine lv_aload_n hx hb dX7_copy_38 rfl (lv_at hl 0 rfl) ?_
        refine lv_iconst (v := (1 : Int32)) hx hb dX7_copy_39 (by decide) ?_
        refine x_ci (x_rV (As := [.int (1 : Int32)]) (rest := []) X M (cm_X7_failed l G ad hI n (1 : Int32) μ _ hf) mc_X7_failed mv_X7_failed lk_X7_101 mn_X7_failed rgm_0 rfl hl ⟨⟨Nat.le_of_ble_eq_true rfl, Nat.le_of_ble_eq_true rfl⟩, rfl, Nat.le_of_ble_eq_true rfl, Nat.zero_le _, Nat.zero_le _⟩ rfl dX7_copy_40) M (fun r_40 m_40 H locs hf M => ?_)
        try dsimp only at hf
        rw [hQ]
        exact x_iret X M hr hlk dX7_copy_43 hf
      · replace hf := hf.2 c_26
        refine lv_aload_n hx hb dX7_copy_29 rfl (lv_at hl 0 rfl) ?_
        refine x_getR (r := 19) X M rgm_0 fd_X7_65 rfl dX7_copy_30 ?_
        refine lv_iload_n hx hb dX7_copy_33 rfl (lv_at hl 3 rfl) ?_
        obtain ⟨g_34, hf⟩ := hf
        refine x_ild X M rgm_19 g_34 dX7_copy_34 ?_
        refine lv_if_ge (tgt := 44) hx hb dX7_copy_35 (by decide) (fun c_35 => ?_) (fun c_35 => ?_)
        · replace hf := hf.1 c_35
          refine lv_aload_n hx hb dX7_copy_44 rfl (lv_at hl 0 rfl) ?_
          refine x_getR (r := 20) X M rgm_0 fd_X7_68 rfl dX7_copy_45 ?_
          refine lv_iload_n hx hb dX7_copy_48 rfl (lv_at hl 1 rfl) ?_
          obtain ⟨g_49, hf⟩ := hf
          refine x_ild X M rgm_20 g_49 dX7_copy_49 ?_
          refine lv_aload_n hx hb dX7_copy_50 rfl (lv_at hl 0 rfl) ?_
          refine x_getR (r := 20) X M rgm_0 fd_X7_68 rfl dX7_copy_51 ?_
          refine lv_iload_n hx hb dX7_copy_54 rfl (lv_at hl 3 rfl) ?_
          obtain ⟨g_55, hf⟩ := hf
          refine x_ild X M rgm_20 g_55 dX7_copy_55 ?_
          refine lv_icmp_eq (tgt := 65) hx hb dX7_copy_56 (by decide) (fun c_56 => ?_) (fun c_56 => ?_)
          · replace hf := hf.1 c_56
            refine lv_iload_n hx hb dX7_copy_65 rfl (lv_at hl 2 rfl) ?_
            refine lv_iload hx hb dX7_copy_66 (lv_at hl 5 rfl) ?_
            refine lv_i2l hx hb dX7_copy_68 rfl ?_
            refine lv_aload_n hx hb dX7_copy_69 rfl (lv_at hl 0 rfl) ?_
            refine x_getR (r := 19) X M rgm_0 fd_X7_65 rfl dX7_copy_70 ?_
            refine lv_iload_n hx hb dX7_copy_73 rfl (lv_at hl 1 rfl) ?_
            obtain ⟨g_74, hf⟩ := hf
            refine x_ild X M rgm_19 g_74 dX7_copy_74 ?_
            refine x_ciP (x_rS (As := [.int a2, .long (a5.toInt64), .int (μ 19 a1.toNatClampNeg)]) (rest := []) X M (cm_X7_isBeyond l G ad hI n a2 (a5.toInt64) (μ 19 a1.toNatClampNeg) μ _ hf) mc_X7_isBeyond ms_X7_isBeyond lk_X7_104 mn_X7_isBeyond hl ⟨⟨Nat.le_of_ble_eq_true rfl, Nat.le_of_ble_eq_true rfl⟩, rfl, Nat.le_of_ble_eq_true rfl, Nat.zero_le _, Nat.zero_le _⟩ rfl dX7_copy_75) M (fun r_75 H locs hf M => ?_)
            try dsimp only at hf
            refine lv_if_ne (tgt := 98) hx hb dX7_copy_78 (by decide) (fun c_78 => ?_) (fun c_78 => ?_)
            · replace hf := hf.1 c_78
              refine lv_aload_n hx hb dX7_copy_98 rfl (lv_at hl 0 rfl) ?_
              refine lv_iconst (v := (3 : Int32)) hx hb dX7_copy_99 (by decide) ?_
              refine x_ci (x_rV (As := [.int (3 : Int32)]) (rest := []) X M (cm_X7_failed l G ad hI n (3 : Int32) μ _ hf) mc_X7_failed mv_X7_failed lk_X7_101 mn_X7_failed rgm_0 rfl hl ⟨⟨Nat.le_of_ble_eq_true rfl, Nat.le_of_ble_eq_true rfl⟩, rfl, Nat.le_of_ble_eq_true rfl, Nat.zero_le _, Nat.zero_le _⟩ rfl dX7_copy_100) M (fun r_100 m_100 H locs hf M => ?_)
              try dsimp only at hf
              rw [hQ]
              exact x_iret X M hr hlk dX7_copy_103 hf
            · replace hf := hf.2 c_78
              refine lv_iload hx hb dX7_copy_81 (lv_at hl 4 rfl) ?_
              refine lv_iload hx hb dX7_copy_83 (lv_at hl 5 rfl) ?_
              refine lv_i2l hx hb dX7_copy_85 rfl ?_
              refine lv_aload_n hx hb dX7_copy_86 rfl (lv_at hl 0 rfl) ?_
              refine x_getR (r := 19) X M rgm_0 fd_X7_65 rfl dX7_copy_87 ?_
              refine lv_iload_n hx hb dX7_copy_90 rfl (lv_at hl 3 rfl) ?_
              obtain ⟨g_91, hf⟩ := hf
              refine x_ild X M rgm_19 g_91 dX7_copy_91 ?_
              refine x_ciP (x_rS (As := [.int a4, .long (a5.toInt64), .int (μ 19 a3.toNatClampNeg)]) (rest := []) X M (cm_X7_isBeyond l G ad hI n a4 (a5.toInt64) (μ 19 a3.toNatClampNeg) μ _ hf) mc_X7_isBeyond ms_X7_isBeyond lk_X7_104 mn_X7_isBeyond hl ⟨⟨Nat.le_of_ble_eq_true rfl, Nat.le_of_ble_eq_true rfl⟩, rfl, Nat.le_of_ble_eq_true rfl, Nat.zero_le _, Nat.zero_le _⟩ rfl dX7_copy_92) M (fun r_92 H locs hf M => ?_)
              try dsimp only at hf
              refine lv_if_eq (tgt := 104) hx hb dX7_copy_95 (by decide) (fun c_95 => ?_) (fun c_95 => ?_)
              · replace hf := hf.1 c_95
                refine lv_iconst (v := (0 : Int32)) hx hb dX7_copy_104 (by decide) ?_
                refine lv_istore (lv' := [(6, .int (0 : Int32)), (0, .ref (ad 0)), (1, .int a1), (2, .int a2), (3, .int a3), (4, .int a4), (5, .int a5)]) hx hb dX7_copy_105 hl (by decide) rfl (fun ls hl => ?_)
                refine xjn_w hf (fun (m_141 : xM) => ∀ (H : Heap) (locs : List Loc) (ls : Array Slot), xS mS 23 G ad s m_141 H locs → lv_has ls 7 [(0, .ref (ad 0)), (3, .int a3), (4, .int a4), (5, .int a5)] → W p l e (rmo 2 45) s m args below meth c H locs 0 0 Q (F0 m 141 ls [])) ?_ ?_
                · intro m_141 hf
                  intro H locs ls M hl
                  refine lv_iconst (v := (0 : Int32)) hx hb dX7_copy_141 (by decide) ?_
                  refine lv_istore (lv' := [(6, .int (0 : Int32)), (0, .ref (ad 0)), (3, .int a3), (4, .int a4), (5, .int a5)]) hx hb dX7_copy_142 hl (by decide) rfl (fun ls hl => ?_)
                  refine xlp_w hf (fun (s_ : Int32 × xM) => match s_ with | (x6_144, m_144) => ∀ (H : Heap) (locs : List Loc) (ls : Array Slot), xS mS 23 G ad s m_144 H locs → lv_has ls 7 [(6, .int x6_144), (0, .ref (ad 0)), (3, .int a3), (4, .int a4), (5, .int a5)] → W p l e (rmo 2 45) s m args below meth c H locs 0 0 Q (F0 m 144 ls [])) ?_ _ _ _ M (lv_sub hl [0, 1, 2, 3, 4] rfl)
                  intro again144 hagain144 s_ hf
                  obtain ⟨x6_144, m_144⟩ := s_
                  try dsimp only at hf ⊢
                  intro H locs ls M hl
                  refine lv_iload hx hb dX7_copy_144 (lv_at hl 0 rfl) ?_
                  refine lv_iload hx hb dX7_copy_146 (lv_at hl 4 rfl) ?_
                  refine lv_icmp_ge (tgt := 179) hx hb dX7_copy_148 (by decide) (fun c_148 => ?_) (fun c_148 => ?_)
                  · replace hf := hf.1 c_148
                    refine lv_aload_n hx hb dX7_copy_179 rfl (lv_at hl 1 rfl) ?_
                    refine lv_iload hx hb dX7_copy_180 (lv_at hl 4 rfl) ?_
                    refine x_ci (x_rV (As := [.int a5]) (rest := []) X M (cm_X7_refused l G ad hI n a5 m_144 _ hf) mc_X7_refused mv_X7_refused lk_X7_91 mn_X7_refused rgm_0 rfl hl ⟨⟨Nat.le_of_ble_eq_true rfl, Nat.le_of_ble_eq_true rfl⟩, rfl, Nat.le_of_ble_eq_true rfl, Nat.zero_le _, Nat.zero_le _⟩ rfl dX7_copy_182) M (fun r_182 m_182 H locs hf M => ?_)
                    try dsimp only at hf
                    rw [hQ]
                    exact x_iret X M hr hlk dX7_copy_185 hf
                  · replace hf := hf.2 c_148
                    refine lv_aload_n hx hb dX7_copy_151 rfl (lv_at hl 1 rfl) ?_
                    refine x_getR (r := 21) X M rgm_0 fd_X7_71 rfl dX7_copy_152 ?_
                    refine lv_bipush (v := (60 : Int32)) hx hb dX7_copy_155 (by decide) ?_
                    refine lv_iload_n hx hb dX7_copy_157 rfl (lv_at hl 2 rfl) ?_
                    refine lv_imul hx hb dX7_copy_158 ?_
                    refine lv_iload hx hb dX7_copy_159 (lv_at hl 3 rfl) ?_
                    refine lv_iadd hx hb dX7_copy_161 ?_
                    refine lv_iload hx hb dX7_copy_162 (lv_at hl 0 rfl) ?_
                    refine lv_iadd hx hb dX7_copy_164 ?_
                    refine lv_aload_n hx hb dX7_copy_165 rfl (lv_at hl 1 rfl) ?_
                    refine x_getR (r := 22) X M rgm_0 fd_X7_74 rfl dX7_copy_166 ?_
                    refine lv_iload hx hb dX7_copy_169 (lv_at hl 0 rfl) ?_
                    obtain ⟨g_171, hf⟩ := hf
                    refine x_ild X M rgm_22 g_171 dX7_copy_171 ?_
                    obtain ⟨g_172, hf⟩ := hf
                    refine x_ist X M rgm_21 g_172 dX7_copy_172 (fun m_172 H locs em_172 M => ?_)
                    replace hf := hf m_172 em_172
                    obtain ⟨x6_173, ex6_173⟩ : ∃ y : Int32, y = x6_144 + 1 := ⟨_, rfl⟩
                    replace hf := hf x6_173 ex6_173
                    refine lv_iinc (v := x6_173) (lv' := [(6, .int x6_173), (0, .ref (ad 0)), (3, .int a3), (4, .int a4), (5, .int a5)]) hx hb dX7_copy_173 hl (k := 0) rfl (by rw [ex6_173]; rfl) (by decide) rfl (fun ls hl => ?_)
                    refine lv_goto (tgt := 144) hx hb dX7_copy_176 (by decide) ?_
                    exact hagain144 (x6_173, m_172) hf _ _ _ M (lv_sub hl [0, 1, 2, 3, 4] rfl)
                · intro J141 hJ141 hf
                  refine xlp_w hf (fun (s_ : Int32 × xM) => match s_ with | (x6_107, m_107) => ∀ (H : Heap) (locs : List Loc) (ls : Array Slot), xS mS 23 G ad s m_107 H locs → lv_has ls 7 [(6, .int x6_107), (0, .ref (ad 0)), (1, .int a1), (2, .int a2), (3, .int a3), (4, .int a4), (5, .int a5)] → W p l e (rmo 2 45) s m args below meth c H locs 0 0 Q (F0 m 107 ls [])) ?_ _ _ _ M (lv_sub hl [0, 1, 2, 3, 4, 5, 6] rfl)
                  intro again107 hagain107 s_ hf
                  obtain ⟨x6_107, m_107⟩ := s_
                  try dsimp only at hf ⊢
                  intro H locs ls M hl
                  refine lv_iload hx hb dX7_copy_107 (lv_at hl 0 rfl) ?_
                  refine lv_iload hx hb dX7_copy_109 (lv_at hl 6 rfl) ?_
                  refine lv_icmp_ge (tgt := 141) hx hb dX7_copy_111 (by decide) (fun c_111 => ?_) (fun c_111 => ?_)
                  · replace hf := hf.1 c_111
                    exact hJ141 m_107 hf _ _ _ M (lv_sub hl [1, 4, 5, 6] rfl)
                  · replace hf := hf.2 c_111
                    refine lv_aload_n hx hb dX7_copy_114 rfl (lv_at hl 1 rfl) ?_
                    refine x_getR (r := 22) X M rgm_0 fd_X7_74 rfl dX7_copy_115 ?_
                    refine lv_iload hx hb dX7_copy_118 (lv_at hl 0 rfl) ?_
                    refine lv_aload_n hx hb dX7_copy_120 rfl (lv_at hl 1 rfl) ?_
                    refine x_getR (r := 21) X M rgm_0 fd_X7_71 rfl dX7_copy_121 ?_
                    refine lv_bipush (v := (60 : Int32)) hx hb dX7_copy_124 (by decide) ?_
                    refine lv_iload_n hx hb dX7_copy_126 rfl (lv_at hl 2 rfl) ?_
                    refine lv_imul hx hb dX7_copy_127 ?_
                    refine lv_iload_n hx hb dX7_copy_128 rfl (lv_at hl 3 rfl) ?_
                    refine lv_iadd hx hb dX7_copy_129 ?_
                    refine lv_iload hx hb dX7_copy_130 (lv_at hl 0 rfl) ?_
                    refine lv_iadd hx hb dX7_copy_132 ?_
                    obtain ⟨g_133, hf⟩ := hf
                    refine x_ild X M rgm_21 g_133 dX7_copy_133 ?_
                    obtain ⟨g_134, hf⟩ := hf
                    refine x_ist X M rgm_22 g_134 dX7_copy_134 (fun m_134 H locs em_134 M => ?_)
                    replace hf := hf m_134 em_134
                    obtain ⟨x6_135, ex6_135⟩ : ∃ y : Int32, y = x6_107 + 1 := ⟨_, rfl⟩
                    replace hf := hf x6_135 ex6_135
                    refine lv_iinc (v := x6_135) (lv' := [(6, .int x6_135), (0, .ref (ad 0)), (1, .int a1), (2, .int a2), (3, .int a3), (4, .int a4), (5, .int a5)]) hx hb dX7_copy_135 hl (k := 0) rfl (by rw [ex6_135]; rfl) (by decide) rfl (fun ls hl => ?_)
                    refine lv_goto (tgt := 107) hx hb dX7_copy_138 (by decide) ?_
                    exact hagain107 (x6_135, m_134) hf _ _ _ M (lv_sub hl [0, 1, 2, 3, 4, 5, 6] rfl)
              · replace hf := hf.2 c_95
                refine lv_aload_n hx hb dX7_copy_98 rfl (lv_at hl 0 rfl) ?_
                refine lv_iconst (v := (3 : Int32)) hx hb dX7_copy_99 (by decide) ?_
                refine x_ci (x_rV (As := [.int (3 : Int32)]) (rest := []) X M (cm_X7_failed l G ad hI n (3 : Int32) μ _ hf) mc_X7_failed mv_X7_failed lk_X7_101 mn_X7_failed rgm_0 rfl hl ⟨⟨Nat.le_of_ble_eq_true rfl, Nat.le_of_ble_eq_true rfl⟩, rfl, Nat.le_of_ble_eq_true rfl, Nat.zero_le _, Nat.zero_le _⟩ rfl dX7_copy_100) M (fun r_100 m_100 H locs hf M => ?_)
                try dsimp only at hf
                rw [hQ]
                exact x_iret X M hr hlk dX7_copy_103 hf
          · replace hf := hf.2 c_56
            refine lv_aload_n hx hb dX7_copy_59 rfl (lv_at hl 0 rfl) ?_
            refine lv_iconst (v := (2 : Int32)) hx hb dX7_copy_60 (by decide) ?_
            refine x_ci (x_rV (As := [.int (2 : Int32)]) (rest := []) X M (cm_X7_failed l G ad hI n (2 : Int32) μ _ hf) mc_X7_failed mv_X7_failed lk_X7_101 mn_X7_failed rgm_0 rfl hl ⟨⟨Nat.le_of_ble_eq_true rfl, Nat.le_of_ble_eq_true rfl⟩, rfl, Nat.le_of_ble_eq_true rfl, Nat.zero_le _, Nat.zero_le _⟩ rfl dX7_copy_61) M (fun r_61 m_61 H locs hf M => ?_)
            try dsimp only at hf
            rw [hQ]
            exact x_iret X M hr hlk dX7_copy_64 hf
        · replace hf := hf.2 c_35
          refine lv_aload_n hx hb dX7_copy_38 rfl (lv_at hl 0 rfl) ?_
          refine lv_iconst (v := (1 : Int32)) hx hb dX7_copy_39 (by decide) ?_
          refine x_ci (x_rV (As := [.int (1 : Int32)]) (rest := []) X M (cm_X7_failed l G ad hI n (1 : Int32) μ _ hf) mc_X7_failed mv_X7_failed lk_X7_101 mn_X7_failed rgm_0 rfl hl ⟨⟨Nat.le_of_ble_eq_true rfl, Nat.le_of_ble_eq_true rfl⟩, rfl, Nat.le_of_ble_eq_true rfl, Nat.zero_le _, Nat.zero_le _⟩ rfl dX7_copy_40) M (fun r_40 m_40 H locs hf M => ?_)
          try dsimp only at hf
          rw [hQ]
          exact x_iret X M hr hlk dX7_copy_43 hf
    · replace hf := hf.2 c_11
      refine lv_aload_n hx hb dX7_copy_14 rfl (lv_at hl 0 rfl) ?_
      refine lv_iconst (v := ((-1) : Int32)) hx hb dX7_copy_15 (by decide) ?_
      refine x_ci (x_rV (As := [.int ((-1) : Int32)]) (rest := []) X M (cm_X7_refused l G ad hI n ((-1) : Int32) μ _ hf) mc_X7_refused mv_X7_refused lk_X7_91 mn_X7_refused rgm_0 rfl hl ⟨⟨Nat.le_of_ble_eq_true rfl, Nat.le_of_ble_eq_true rfl⟩, rfl, Nat.le_of_ble_eq_true rfl, Nat.zero_le _, Nat.zero_le _⟩ rfl dX7_copy_16) M (fun r_16 m_16 H locs hf M => ?_)
      try dsimp only at hf
      rw [hQ]
      exact x_iret X M hr hlk dX7_copy_19 hf
def wp_X7_traced (n : Nat) (a1 : Int32) (μ : xM) (K : xM → Prop) : Prop :=
  (∀ m_10 : xM, m_10 = xu μ 0 28 (((31 : Int32) * (μ 0 28)) + a1) → K m_10)
set_option maxHeartbeats 4000000 in
set_option maxRecDepth 100000 in
theorem cm_X7_traced (l : Launch) (G : xG) (ad : Nat → Nat) (hI : xI 23 ad) (n : Nat) (a1 : Int32) (μ : xM) (K : xM → Prop) (hf : wp_X7_traced n a1 μ K) : Met l yX7_traced (Cond.code yX7_traced cX7_traced 2 none :: xw_all) (rmo 0 0) (va_Pc [.ref (ad 0), .int a1] (xPre mS 23 G ad μ)) (xQv mS 23 G ad K) 0 0 (xR 23 ad) := by
  refine x_ent (nL := 2) (own := RX7) (by decide) rfl hI (Nat.le_of_ble_eq_true rfl) ?_
  intro p e s m args below meth c H locs ls Q X hr hlk hQ M hl
  have hx := X.1.1
  have hb := X.1.2.1
  have hown := X.1.2.2.2.1
  have hts := X.1.2.2.2.2
  have hl : lv_has ls 2 [(0, .ref (ad 0)), (1, .int a1)] := hl
  unfold wp_X7_traced at hf
  refine lv_aload_n hx hb dX7_traced_0 rfl (lv_at hl 0 rfl) ?_
  refine lv_bipush (v := (31 : Int32)) hx hb dX7_traced_1 (by decide) ?_
  refine lv_aload_n hx hb dX7_traced_3 rfl (lv_at hl 0 rfl) ?_
  refine x_getI X M rgm_0 fd_X7_229 rfl dX7_traced_4 ?_
  refine lv_imul hx hb dX7_traced_7 ?_
  refine lv_iload_n hx hb dX7_traced_8 rfl (lv_at hl 1 rfl) ?_
  refine lv_iadd hx hb dX7_traced_9 ?_
  refine x_putI X M rgm_0 fp_X7_229 rfl dX7_traced_10 (fun m_10 H locs em_10 M => ?_)
  replace hf := hf m_10 em_10
  rw [hQ]
  exact x_vret X M hr hlk dX7_traced_13 hf
def wp_X7_tell (n : Nat) (a1 : Int32) (μ : xM) (K : Int32 → xM → Prop) : Prop :=
  wp_X7_noOne n a1 μ (fun r_2 : Int32 => ((r_2 = 0 → (vp_in a1 7 ∧ (∀ x2_16 : Int32, x2_16 = μ 1 a1.toNatClampNeg → xjn (fun (m_27 : xM) => xjn (fun (m_36 : xM) => wp_X7_traced n (1 : Int32) m_36 (fun m_38 : xM => xjn (fun (m_51 : xM) => (vp_in ((3 : Int32) * a1) 21 ∧ (∀ x3_59 : Int32, x3_59 = m_51 2 ((3 : Int32) * a1).toNatClampNeg → ((¬ x2_16 = 0 → ((¬ x2_16 = (1 : Int32) → K (((2 : Int32) * x3_59) + (100 : Int32)) m_51) ∧ (x2_16 = (1 : Int32) → K (x3_59 + (100 : Int32)) m_51))) ∧ (x2_16 = 0 → K x3_59 m_51))))) (fun J51 : xM → Prop => ((¬ x2_16 = (2 : Int32) → J51 m_38) ∧ (x2_16 = (2 : Int32) → wp_X7_traced n (1 : Int32) m_38 (fun m_48 : xM => J51 m_48)))))) (fun J36 : xM → Prop => ((x2_16 ≤ 0 → J36 m_27) ∧ (¬ x2_16 ≤ 0 → wp_X7_traced n (2 : Int32) m_27 (fun m_33 : xM => J36 m_33))))) (fun J27 : xM → Prop => ((¬ x2_16 = (2 : Int32) → J27 μ) ∧ (x2_16 = (2 : Int32) → wp_X7_traced n (3 : Int32) μ (fun m_24 : xM => J27 m_24))))))) ∧ (¬ r_2 = 0 → K ((-1) : Int32) μ)))
set_option maxHeartbeats 4000000 in
set_option maxRecDepth 100000 in
theorem cm_X7_tell (l : Launch) (G : xG) (ad : Nat → Nat) (hI : xI 23 ad) (n : Nat) (a1 : Int32) (μ : xM) (K : Int32 → xM → Prop) (hf : wp_X7_tell n a1 μ K) : Met l yX7_tell (Cond.code yX7_tell cX7_tell 4 (some .int) :: xw_all) (rmo 2 46) (va_Pc [.ref (ad 0), .int a1] (xPre mS 23 G ad μ)) (xQi mS 23 G ad K) 0 0 (xR 23 ad) := by
  refine x_ent (nL := 4) (own := RX7) (by decide) rfl hI (Nat.le_of_ble_eq_true rfl) ?_
  intro p e s m args below meth c H locs ls Q X hr hlk hQ M hl
  have hx := X.1.1
  have hb := X.1.2.1
  have hown := X.1.2.2.2.1
  have hts := X.1.2.2.2.2
  have hl : lv_has ls 4 [(0, .ref (ad 0)), (1, .int a1)] := hl
  unfold wp_X7_tell at hf
  refine lv_aload_n hx hb dX7_tell_0 rfl (lv_at hl 0 rfl) ?_
  refine lv_iload_n hx hb dX7_tell_1 rfl (lv_at hl 1 rfl) ?_
  refine x_ciP (x_rV (As := [.int a1]) (rest := []) X M (cm_X7_noOne l G ad hI n a1 μ _ hf) mc_X7_noOne mv_X7_noOne lk_X7_144 mn_X7_noOne rgm_0 rfl hl ⟨⟨Nat.le_of_ble_eq_true rfl, Nat.le_of_ble_eq_true rfl⟩, rfl, Nat.le_of_ble_eq_true rfl, Nat.zero_le _, Nat.zero_le _⟩ rfl dX7_tell_2) M (fun r_2 H locs hf M => ?_)
  try dsimp only at hf
  refine lv_if_eq (tgt := 10) hx hb dX7_tell_5 (by decide) (fun c_5 => ?_) (fun c_5 => ?_)
  · replace hf := hf.1 c_5
    refine lv_aload_n hx hb dX7_tell_10 rfl (lv_at hl 0 rfl) ?_
    refine x_getR (r := 1) X M rgm_0 fd_X7_7 rfl dX7_tell_11 ?_
    refine lv_iload_n hx hb dX7_tell_14 rfl (lv_at hl 1 rfl) ?_
    obtain ⟨g_15, hf⟩ := hf
    refine x_ild X M rgm_1 g_15 dX7_tell_15 ?_
    refine lv_topi (fun x2_16 ex2_16 => ?_)
    replace hf := hf x2_16 ex2_16
    refine lv_istore_n (lv' := [(2, .int x2_16), (0, .ref (ad 0)), (1, .int a1)]) hx hb dX7_tell_16 rfl hl (by decide) rfl (fun ls hl => ?_)
    refine lv_iload_n hx hb dX7_tell_17 rfl (lv_at hl 0 rfl) ?_
    refine lv_iconst (v := (2 : Int32)) hx hb dX7_tell_18 (by decide) ?_
    refine xjn_w hf (fun (m_27 : xM) => ∀ (H : Heap) (locs : List Loc) (ls : Array Slot), xS mS 23 G ad s m_27 H locs → lv_has ls 4 [(2, .int x2_16), (0, .ref (ad 0)), (1, .int a1)] → W p l e (rmo 2 46) s m args below meth c H locs 0 0 Q (F0 m 27 ls [])) ?_ ?_
    · intro m_27 hf
      intro H locs ls M hl
      refine lv_iload_n hx hb dX7_tell_27 rfl (lv_at hl 0 rfl) ?_
      refine xjn_w hf (fun (m_36 : xM) => ∀ (H : Heap) (locs : List Loc) (ls : Array Slot), xS mS 23 G ad s m_36 H locs → lv_has ls 4 [(2, .int x2_16), (0, .ref (ad 0)), (1, .int a1)] → W p l e (rmo 2 46) s m args below meth c H locs 0 0 Q (F0 m 36 ls [])) ?_ ?_
      · intro m_36 hf
        intro H locs ls M hl
        refine lv_aload_n hx hb dX7_tell_36 rfl (lv_at hl 1 rfl) ?_
        refine lv_iconst (v := (1 : Int32)) hx hb dX7_tell_37 (by decide) ?_
        refine x_cv (x_rV (As := [.int (1 : Int32)]) (rest := []) X M (cm_X7_traced l G ad hI n (1 : Int32) m_36 _ hf) mc_X7_traced mv_X7_traced lk_X7_232 mn_X7_traced rgm_0 rfl hl ⟨⟨Nat.le_of_ble_eq_true rfl, Nat.le_of_ble_eq_true rfl⟩, rfl, Nat.le_of_ble_eq_true rfl, Nat.zero_le _, Nat.zero_le _⟩ rfl dX7_tell_38) M (fun m_38 H locs hf M => ?_)
        try dsimp only at hf
        refine lv_iload_n hx hb dX7_tell_41 rfl (lv_at hl 0 rfl) ?_
        refine lv_iconst (v := (2 : Int32)) hx hb dX7_tell_42 (by decide) ?_
        refine xjn_w hf (fun (m_51 : xM) => ∀ (H : Heap) (locs : List Loc) (ls : Array Slot), xS mS 23 G ad s m_51 H locs → lv_has ls 4 [(2, .int x2_16), (0, .ref (ad 0)), (1, .int a1)] → W p l e (rmo 2 46) s m args below meth c H locs 0 0 Q (F0 m 51 ls [])) ?_ ?_
        · intro m_51 hf
          intro H locs ls M hl
          refine lv_aload_n hx hb dX7_tell_51 rfl (lv_at hl 1 rfl) ?_
          refine x_getR (r := 2) X M rgm_0 fd_X7_13 rfl dX7_tell_52 ?_
          refine lv_iconst (v := (3 : Int32)) hx hb dX7_tell_55 (by decide) ?_
          refine lv_iload_n hx hb dX7_tell_56 rfl (lv_at hl 2 rfl) ?_
          refine lv_imul hx hb dX7_tell_57 ?_
          obtain ⟨g_58, hf⟩ := hf
          refine x_ild X M rgm_2 g_58 dX7_tell_58 ?_
          refine lv_topi (fun x3_59 ex3_59 => ?_)
          replace hf := hf x3_59 ex3_59
          refine lv_istore_n (lv' := [(3, .int x3_59), (2, .int x2_16), (0, .ref (ad 0)), (1, .int a1)]) hx hb dX7_tell_59 rfl hl (by decide) rfl (fun ls hl => ?_)
          refine lv_iload_n hx hb dX7_tell_60 rfl (lv_at hl 1 rfl) ?_
          refine lv_if_ne (tgt := 68) hx hb dX7_tell_61 (by decide) (fun c_61 => ?_) (fun c_61 => ?_)
          · replace hf := hf.1 c_61
            refine lv_iload_n hx hb dX7_tell_68 rfl (lv_at hl 1 rfl) ?_
            refine lv_iconst (v := (1 : Int32)) hx hb dX7_tell_69 (by decide) ?_
            refine lv_icmp_ne (tgt := 80) hx hb dX7_tell_70 (by decide) (fun c_70 => ?_) (fun c_70 => ?_)
            · replace hf := hf.1 c_70
              refine lv_iconst (v := (2 : Int32)) hx hb dX7_tell_80 (by decide) ?_
              refine lv_iload_n hx hb dX7_tell_81 rfl (lv_at hl 0 rfl) ?_
              refine lv_imul hx hb dX7_tell_82 ?_
              refine lv_bipush (v := (100 : Int32)) hx hb dX7_tell_83 (by decide) ?_
              refine lv_iadd hx hb dX7_tell_85 ?_
              rw [hQ]
              exact x_iret X M hr hlk dX7_tell_86 hf
            · replace hf := hf.2 c_70
              refine lv_iload_n hx hb dX7_tell_73 rfl (lv_at hl 0 rfl) ?_
              refine lv_bipush (v := (100 : Int32)) hx hb dX7_tell_74 (by decide) ?_
              refine lv_iadd hx hb dX7_tell_76 ?_
              refine lv_goto (tgt := 86) hx hb dX7_tell_77 (by decide) ?_
              rw [hQ]
              exact x_iret X M hr hlk dX7_tell_86 hf
          · replace hf := hf.2 c_61
            refine lv_iload_n hx hb dX7_tell_64 rfl (lv_at hl 0 rfl) ?_
            refine lv_goto (tgt := 86) hx hb dX7_tell_65 (by decide) ?_
            rw [hQ]
            exact x_iret X M hr hlk dX7_tell_86 hf
        · intro J51 hJ51 hf
          refine lv_icmp_ne (tgt := 51) hx hb dX7_tell_43 (by decide) (fun c_43 => ?_) (fun c_43 => ?_)
          · replace hf := hf.1 c_43
            exact hJ51 m_38 hf _ _ _ M (lv_sub hl [0, 1, 2] rfl)
          · replace hf := hf.2 c_43
            refine lv_aload_n hx hb dX7_tell_46 rfl (lv_at hl 1 rfl) ?_
            refine lv_iconst (v := (1 : Int32)) hx hb dX7_tell_47 (by decide) ?_
            refine x_cv (x_rV (As := [.int (1 : Int32)]) (rest := []) X M (cm_X7_traced l G ad hI n (1 : Int32) m_38 _ hf) mc_X7_traced mv_X7_traced lk_X7_232 mn_X7_traced rgm_0 rfl hl ⟨⟨Nat.le_of_ble_eq_true rfl, Nat.le_of_ble_eq_true rfl⟩, rfl, Nat.le_of_ble_eq_true rfl, Nat.zero_le _, Nat.zero_le _⟩ rfl dX7_tell_48) M (fun m_48 H locs hf M => ?_)
            try dsimp only at hf
            exact hJ51 m_48 hf _ _ _ M (lv_sub hl [0, 1, 2] rfl)
      · intro J36 hJ36 hf
        refine lv_if_le (tgt := 36) hx hb dX7_tell_28 (by decide) (fun c_28 => ?_) (fun c_28 => ?_)
        · replace hf := hf.1 c_28
          exact hJ36 m_27 hf _ _ _ M (lv_sub hl [0, 1, 2] rfl)
        · replace hf := hf.2 c_28
          refine lv_aload_n hx hb dX7_tell_31 rfl (lv_at hl 1 rfl) ?_
          refine lv_iconst (v := (2 : Int32)) hx hb dX7_tell_32 (by decide) ?_
          refine x_cv (x_rV (As := [.int (2 : Int32)]) (rest := []) X M (cm_X7_traced l G ad hI n (2 : Int32) m_27 _ hf) mc_X7_traced mv_X7_traced lk_X7_232 mn_X7_traced rgm_0 rfl hl ⟨⟨Nat.le_of_ble_eq_true rfl, Nat.le_of_ble_eq_true rfl⟩, rfl, Nat.le_of_ble_eq_true rfl, Nat.zero_le _, Nat.zero_le _⟩ rfl dX7_tell_33) M (fun m_33 H locs hf M => ?_)
          try dsimp only at hf
          exact hJ36 m_33 hf _ _ _ M (lv_sub hl [0, 1, 2] rfl)
    · intro J27 hJ27 hf
      refine lv_icmp_ne (tgt := 27) hx hb dX7_tell_19 (by decide) (fun c_19 => ?_) (fun c_19 => ?_)
      · replace hf := hf.1 c_19
        exact hJ27 μ hf _ _ _ M (lv_sub hl [0, 1, 2] rfl)
      · replace hf := hf.2 c_19
        refine lv_aload_n hx hb dX7_tell_22 rfl (lv_at hl 1 rfl) ?_
        refine lv_iconst (v := (3 : Int32)) hx hb dX7_tell_23 (by decide) ?_
        refine x_cv (x_rV (As := [.int (3 : Int32)]) (rest := []) X M (cm_X7_traced l G ad hI n (3 : Int32) μ _ hf) mc_X7_traced mv_X7_traced lk_X7_232 mn_X7_traced rgm_0 rfl hl ⟨⟨Nat.le_of_ble_eq_true rfl, Nat.le_of_ble_eq_true rfl⟩, rfl, Nat.le_of_ble_eq_true rfl, Nat.zero_le _, Nat.zero_le _⟩ rfl dX7_tell_24) M (fun m_24 H locs hf M => ?_)
        try dsimp only at hf
        exact hJ27 m_24 hf _ _ _ M (lv_sub hl [0, 1, 2] rfl)
  · replace hf := hf.2 c_5
    refine lv_iconst (v := ((-1) : Int32)) hx hb dX7_tell_8 (by decide) ?_
    rw [hQ]
    exact x_iret X M hr hlk dX7_tell_9 hf
def wp_X7_bow (n : Nat) (a1 : Int32) (μ : xM) (K : Int32 → xM → Prop) : Prop :=
  wp_X7_noOne n a1 μ (fun r_2 : Int32 => ((r_2 = 0 → (vp_in a1 7 ∧ xjn (fun (v0_26 : Int32) => wp_X7_traced n v0_26 μ (fun m_26 : xM => (vp_in a1 7 ∧ ((¬ (m_26 1 a1.toNatClampNeg) = (2 : Int32) → K a1 m_26) ∧ ((m_26 1 a1.toNatClampNeg) = (2 : Int32) → K (70 : Int32) m_26))))) (fun J26 : Int32 → Prop => ((¬ (μ 1 a1.toNatClampNeg) = (2 : Int32) → J26 (4 : Int32)) ∧ ((μ 1 a1.toNatClampNeg) = (2 : Int32) → J26 (5 : Int32)))))) ∧ (¬ r_2 = 0 → K ((-1) : Int32) μ)))
set_option maxHeartbeats 4000000 in
set_option maxRecDepth 100000 in
theorem cm_X7_bow (l : Launch) (G : xG) (ad : Nat → Nat) (hI : xI 23 ad) (n : Nat) (a1 : Int32) (μ : xM) (K : Int32 → xM → Prop) (hf : wp_X7_bow n a1 μ K) : Met l yX7_bow (Cond.code yX7_bow cX7_bow 2 (some .int) :: xw_all) (rmo 2 46) (va_Pc [.ref (ad 0), .int a1] (xPre mS 23 G ad μ)) (xQi mS 23 G ad K) 0 0 (xR 23 ad) := by
  refine x_ent (nL := 2) (own := RX7) (by decide) rfl hI (Nat.le_of_ble_eq_true rfl) ?_
  intro p e s m args below meth c H locs ls Q X hr hlk hQ M hl
  have hx := X.1.1
  have hb := X.1.2.1
  have hown := X.1.2.2.2.1
  have hts := X.1.2.2.2.2
  have hl : lv_has ls 2 [(0, .ref (ad 0)), (1, .int a1)] := hl
  unfold wp_X7_bow at hf
  refine lv_aload_n hx hb dX7_bow_0 rfl (lv_at hl 0 rfl) ?_
  refine lv_iload_n hx hb dX7_bow_1 rfl (lv_at hl 1 rfl) ?_
  refine x_ciP (x_rV (As := [.int a1]) (rest := []) X M (cm_X7_noOne l G ad hI n a1 μ _ hf) mc_X7_noOne mv_X7_noOne lk_X7_144 mn_X7_noOne rgm_0 rfl hl ⟨⟨Nat.le_of_ble_eq_true rfl, Nat.le_of_ble_eq_true rfl⟩, rfl, Nat.le_of_ble_eq_true rfl, Nat.zero_le _, Nat.zero_le _⟩ rfl dX7_bow_2) M (fun r_2 H locs hf M => ?_)
  try dsimp only at hf
  refine lv_if_eq (tgt := 10) hx hb dX7_bow_5 (by decide) (fun c_5 => ?_) (fun c_5 => ?_)
  · replace hf := hf.1 c_5
    refine lv_aload_n hx hb dX7_bow_10 rfl (lv_at hl 0 rfl) ?_
    refine lv_aload_n hx hb dX7_bow_11 rfl (lv_at hl 0 rfl) ?_
    refine x_getR (r := 1) X M rgm_0 fd_X7_7 rfl dX7_bow_12 ?_
    refine lv_iload_n hx hb dX7_bow_15 rfl (lv_at hl 1 rfl) ?_
    obtain ⟨g_16, hf⟩ := hf
    refine x_ild X M rgm_1 g_16 dX7_bow_16 ?_
    refine lv_iconst (v := (2 : Int32)) hx hb dX7_bow_17 (by decide) ?_
    refine xjn_w hf (fun (v0_26 : Int32) => ∀ (H : Heap) (locs : List Loc) (ls : Array Slot), xS mS 23 G ad s μ H locs → lv_has ls 2 [(0, .ref (ad 0)), (1, .int a1)] → W p l e (rmo 2 46) s m args below meth c H locs 0 0 Q (F0 m 26 ls [.int v0_26, .ref (ad 0)])) ?_ ?_
    · intro v0_26 hf
      intro H locs ls M hl
      refine x_cv (x_rV (As := [.int v0_26]) (rest := []) X M (cm_X7_traced l G ad hI n v0_26 μ _ hf) mc_X7_traced mv_X7_traced lk_X7_232 mn_X7_traced rgm_0 rfl hl ⟨⟨Nat.le_of_ble_eq_true rfl, Nat.le_of_ble_eq_true rfl⟩, rfl, Nat.le_of_ble_eq_true rfl, Nat.zero_le _, Nat.zero_le _⟩ rfl dX7_bow_26) M (fun m_26 H locs hf M => ?_)
      try dsimp only at hf
      refine lv_aload_n hx hb dX7_bow_29 rfl (lv_at hl 0 rfl) ?_
      refine x_getR (r := 1) X M rgm_0 fd_X7_7 rfl dX7_bow_30 ?_
      refine lv_iload_n hx hb dX7_bow_33 rfl (lv_at hl 1 rfl) ?_
      obtain ⟨g_34, hf⟩ := hf
      refine x_ild X M rgm_1 g_34 dX7_bow_34 ?_
      refine lv_iconst (v := (2 : Int32)) hx hb dX7_bow_35 (by decide) ?_
      refine lv_icmp_ne (tgt := 44) hx hb dX7_bow_36 (by decide) (fun c_36 => ?_) (fun c_36 => ?_)
      · replace hf := hf.1 c_36
        refine lv_iload_n hx hb dX7_bow_44 rfl (lv_at hl 1 rfl) ?_
        rw [hQ]
        exact x_iret X M hr hlk dX7_bow_45 hf
      · replace hf := hf.2 c_36
        refine lv_bipush (v := (70 : Int32)) hx hb dX7_bow_39 (by decide) ?_
        refine lv_goto (tgt := 45) hx hb dX7_bow_41 (by decide) ?_
        rw [hQ]
        exact x_iret X M hr hlk dX7_bow_45 hf
    · intro J26 hJ26 hf
      refine lv_icmp_ne (tgt := 25) hx hb dX7_bow_18 (by decide) (fun c_18 => ?_) (fun c_18 => ?_)
      · replace hf := hf.1 c_18
        refine lv_iconst (v := (4 : Int32)) hx hb dX7_bow_25 (by decide) ?_
        exact hJ26 (4 : Int32) hf _ _ _ M (lv_sub hl [0, 1] rfl)
      · replace hf := hf.2 c_18
        refine lv_iconst (v := (5 : Int32)) hx hb dX7_bow_21 (by decide) ?_
        refine lv_goto (tgt := 26) hx hb dX7_bow_22 (by decide) ?_
        exact hJ26 (5 : Int32) hf _ _ _ M (lv_sub hl [0, 1] rfl)
  · replace hf := hf.2 c_5
    refine lv_iconst (v := ((-1) : Int32)) hx hb dX7_bow_8 (by decide) ?_
    rw [hQ]
    exact x_iret X M hr hlk dX7_bow_9 hf
def wp_X7_as (n : Nat) (a1 : Int32) (a2 : Int32) (μ : xM) (K : Int32 → xM → Prop) : Prop :=
  wp_X7_noOne n a1 μ (fun r_2 : Int32 => ((r_2 = 0 → wp_X7_in n (a2.toInt64) (0 : Int64) (2 : Int64) μ (fun r_20 : Int32 => ((¬ r_20 = 0 → (vp_in a1 7 ∧ (((μ 1 a1.toNatClampNeg) < a2 → wp_X7_failed n (2 : Int32) μ (fun (r_53 : Int32) (m_53 : xM) => K r_53 m_53)) ∧ (¬ (μ 1 a1.toNatClampNeg) < a2 → wp_X7_refused n (1 : Int32) μ (fun (r_45 : Int32) (m_45 : xM) => K r_45 m_45))))) ∧ (r_20 = 0 → wp_X7_refused n ((-2) : Int32) μ (fun (r_29 : Int32) (m_29 : xM) => K r_29 m_29))))) ∧ (¬ r_2 = 0 → wp_X7_refused n ((-1) : Int32) μ (fun (r_10 : Int32) (m_10 : xM) => K r_10 m_10))))
set_option maxHeartbeats 4000000 in
set_option maxRecDepth 100000 in
theorem cm_X7_as (l : Launch) (G : xG) (ad : Nat → Nat) (hI : xI 23 ad) (n : Nat) (a1 : Int32) (a2 : Int32) (μ : xM) (K : Int32 → xM → Prop) (hf : wp_X7_as n a1 a2 μ K) : Met l yX7_as (Cond.code yX7_as cX7_as 3 (some .int) :: xw_all) (rmo 2 46) (va_Pc [.ref (ad 0), .int a1, .int a2] (xPre mS 23 G ad μ)) (xQi mS 23 G ad K) 0 0 (xR 23 ad) := by
  refine x_ent (nL := 3) (own := RX7) (by decide) rfl hI (Nat.le_of_ble_eq_true rfl) ?_
  intro p e s m args below meth c H locs ls Q X hr hlk hQ M hl
  have hx := X.1.1
  have hb := X.1.2.1
  have hown := X.1.2.2.2.1
  have hts := X.1.2.2.2.2
  have hl : lv_has ls 3 [(0, .ref (ad 0)), (1, .int a1), (2, .int a2)] := hl
  unfold wp_X7_as at hf
  refine lv_aload_n hx hb dX7_as_0 rfl (lv_at hl 0 rfl) ?_
  refine lv_iload_n hx hb dX7_as_1 rfl (lv_at hl 1 rfl) ?_
  refine x_ciP (x_rV (As := [.int a1]) (rest := []) X M (cm_X7_noOne l G ad hI n a1 μ _ hf) mc_X7_noOne mv_X7_noOne lk_X7_144 mn_X7_noOne rgm_0 rfl hl ⟨⟨Nat.le_of_ble_eq_true rfl, Nat.le_of_ble_eq_true rfl⟩, rfl, Nat.le_of_ble_eq_true rfl, Nat.zero_le _, Nat.zero_le _⟩ rfl dX7_as_2) M (fun r_2 H locs hf M => ?_)
  try dsimp only at hf
  refine lv_if_eq (tgt := 14) hx hb dX7_as_5 (by decide) (fun c_5 => ?_) (fun c_5 => ?_)
  · replace hf := hf.1 c_5
    refine lv_iload_n hx hb dX7_as_14 rfl (lv_at hl 2 rfl) ?_
    refine lv_i2l hx hb dX7_as_15 rfl ?_
    refine lv_lconst (v := (0 : Int64)) hx hb dX7_as_16 (by decide) ?_
    refine lv_ldc2 (v := (2 : Int64)) hx hb hown (hts _ kc_X7_95) dX7_as_17 ?_
    refine x_ciP (x_rS (As := [.long (a2.toInt64), .long (0 : Int64), .long (2 : Int64)]) (rest := []) X M (cm_X7_in l G ad hI n (a2.toInt64) (0 : Int64) (2 : Int64) μ _ hf) mc_X7_in ms_X7_in lk_X7_97 mn_X7_in hl ⟨⟨Nat.le_of_ble_eq_true rfl, Nat.le_of_ble_eq_true rfl⟩, rfl, Nat.le_of_ble_eq_true rfl, Nat.zero_le _, Nat.zero_le _⟩ rfl dX7_as_20) M (fun r_20 H locs hf M => ?_)
    try dsimp only at hf
    refine lv_if_ne (tgt := 33) hx hb dX7_as_23 (by decide) (fun c_23 => ?_) (fun c_23 => ?_)
    · replace hf := hf.1 c_23
      refine lv_aload_n hx hb dX7_as_33 rfl (lv_at hl 0 rfl) ?_
      refine x_getR (r := 1) X M rgm_0 fd_X7_7 rfl dX7_as_34 ?_
      refine lv_iload_n hx hb dX7_as_37 rfl (lv_at hl 1 rfl) ?_
      obtain ⟨g_38, hf⟩ := hf
      refine x_ild X M rgm_1 g_38 dX7_as_38 ?_
      refine lv_iload_n hx hb dX7_as_39 rfl (lv_at hl 2 rfl) ?_
      refine lv_icmp_lt (tgt := 51) hx hb dX7_as_40 (by decide) (fun c_40 => ?_) (fun c_40 => ?_)
      · replace hf := hf.1 c_40
        refine lv_aload_n hx hb dX7_as_51 rfl (lv_at hl 0 rfl) ?_
        refine lv_iconst (v := (2 : Int32)) hx hb dX7_as_52 (by decide) ?_
        refine x_ci (x_rV (As := [.int (2 : Int32)]) (rest := []) X M (cm_X7_failed l G ad hI n (2 : Int32) μ _ hf) mc_X7_failed mv_X7_failed lk_X7_101 mn_X7_failed rgm_0 rfl hl ⟨⟨Nat.le_of_ble_eq_true rfl, Nat.le_of_ble_eq_true rfl⟩, rfl, Nat.le_of_ble_eq_true rfl, Nat.zero_le _, Nat.zero_le _⟩ rfl dX7_as_53) M (fun r_53 m_53 H locs hf M => ?_)
        try dsimp only at hf
        rw [hQ]
        exact x_iret X M hr hlk dX7_as_56 hf
      · replace hf := hf.2 c_40
        refine lv_aload_n hx hb dX7_as_43 rfl (lv_at hl 0 rfl) ?_
        refine lv_iconst (v := (1 : Int32)) hx hb dX7_as_44 (by decide) ?_
        refine x_ci (x_rV (As := [.int (1 : Int32)]) (rest := []) X M (cm_X7_refused l G ad hI n (1 : Int32) μ _ hf) mc_X7_refused mv_X7_refused lk_X7_91 mn_X7_refused rgm_0 rfl hl ⟨⟨Nat.le_of_ble_eq_true rfl, Nat.le_of_ble_eq_true rfl⟩, rfl, Nat.le_of_ble_eq_true rfl, Nat.zero_le _, Nat.zero_le _⟩ rfl dX7_as_45) M (fun r_45 m_45 H locs hf M => ?_)
        try dsimp only at hf
        refine lv_goto (tgt := 56) hx hb dX7_as_48 (by decide) ?_
        rw [hQ]
        exact x_iret X M hr hlk dX7_as_56 hf
    · replace hf := hf.2 c_23
      refine lv_aload_n hx hb dX7_as_26 rfl (lv_at hl 0 rfl) ?_
      refine lv_bipush (v := ((-2) : Int32)) hx hb dX7_as_27 (by decide) ?_
      refine x_ci (x_rV (As := [.int ((-2) : Int32)]) (rest := []) X M (cm_X7_refused l G ad hI n ((-2) : Int32) μ _ hf) mc_X7_refused mv_X7_refused lk_X7_91 mn_X7_refused rgm_0 rfl hl ⟨⟨Nat.le_of_ble_eq_true rfl, Nat.le_of_ble_eq_true rfl⟩, rfl, Nat.le_of_ble_eq_true rfl, Nat.zero_le _, Nat.zero_le _⟩ rfl dX7_as_29) M (fun r_29 m_29 H locs hf M => ?_)
      try dsimp only at hf
      rw [hQ]
      exact x_iret X M hr hlk dX7_as_32 hf
  · replace hf := hf.2 c_5
    refine lv_aload_n hx hb dX7_as_8 rfl (lv_at hl 0 rfl) ?_
    refine lv_iconst (v := ((-1) : Int32)) hx hb dX7_as_9 (by decide) ?_
    refine x_ci (x_rV (As := [.int ((-1) : Int32)]) (rest := []) X M (cm_X7_refused l G ad hI n ((-1) : Int32) μ _ hf) mc_X7_refused mv_X7_refused lk_X7_91 mn_X7_refused rgm_0 rfl hl ⟨⟨Nat.le_of_ble_eq_true rfl, Nat.le_of_ble_eq_true rfl⟩, rfl, Nat.le_of_ble_eq_true rfl, Nat.zero_le _, Nat.zero_le _⟩ rfl dX7_as_10) M (fun r_10 m_10 H locs hf M => ?_)
    try dsimp only at hf
    rw [hQ]
    exact x_iret X M hr hlk dX7_as_13 hf
def wp_X7_trace (n : Nat)  (μ : xM) (K : Int32 → Prop) : Prop :=
  K (μ 0 28)
set_option maxHeartbeats 4000000 in
set_option maxRecDepth 100000 in
theorem cm_X7_trace (l : Launch) (G : xG) (ad : Nat → Nat) (hI : xI 23 ad) (n : Nat)  (μ : xM) (K : Int32 → Prop) (hf : wp_X7_trace n μ K) : Met l yX7_trace (Cond.code yX7_trace cX7_trace 1 (some .int) :: xw_all) (rmo 0 0) (va_Pc [.ref (ad 0)] (xPre mS 23 G ad μ)) (xQi mS 23 G ad (fun r u => K r ∧ u = μ)) 0 0 (xR 23 ad) := by
  refine x_ent (nL := 1) (own := RX7) (by decide) rfl hI (Nat.le_of_ble_eq_true rfl) ?_
  intro p e s m args below meth c H locs ls Q X hr hlk hQ M hl
  have hx := X.1.1
  have hb := X.1.2.1
  have hown := X.1.2.2.2.1
  have hts := X.1.2.2.2.2
  have hl : lv_has ls 1 [(0, .ref (ad 0))] := hl
  unfold wp_X7_trace at hf
  refine lv_aload_n hx hb dX7_trace_0 rfl (lv_at hl 0 rfl) ?_
  refine x_getI X M rgm_0 fd_X7_229 rfl dX7_trace_1 ?_
  rw [hQ]
  exact x_iret X M hr hlk dX7_trace_4 ⟨hf, rfl⟩
def wp_X7_fault (n : Nat)  (μ : xM) (K : Int32 → Prop) : Prop :=
  K (μ 0 0)
set_option maxHeartbeats 4000000 in
set_option maxRecDepth 100000 in
theorem cm_X7_fault (l : Launch) (G : xG) (ad : Nat → Nat) (hI : xI 23 ad) (n : Nat)  (μ : xM) (K : Int32 → Prop) (hf : wp_X7_fault n μ K) : Met l yX7_fault (Cond.code yX7_fault cX7_fault 1 (some .int) :: xw_all) (rmo 0 0) (va_Pc [.ref (ad 0)] (xPre mS 23 G ad μ)) (xQi mS 23 G ad (fun r u => K r ∧ u = μ)) 0 0 (xR 23 ad) := by
  refine x_ent (nL := 1) (own := RX7) (by decide) rfl hI (Nat.le_of_ble_eq_true rfl) ?_
  intro p e s m args below meth c H locs ls Q X hr hlk hQ M hl
  have hx := X.1.1
  have hb := X.1.2.1
  have hown := X.1.2.2.2.1
  have hts := X.1.2.2.2.2
  have hl : lv_has ls 1 [(0, .ref (ad 0))] := hl
  unfold wp_X7_fault at hf
  refine lv_aload_n hx hb dX7_fault_0 rfl (lv_at hl 0 rfl) ?_
  refine x_getI X M rgm_0 fd_X7_79 rfl dX7_fault_1 ?_
  rw [hQ]
  exact x_iret X M hr hlk dX7_fault_4 ⟨hf, rfl⟩
def wp_X7_many (n : Nat) (a1 : Int32) (μ : xM) (K : Int32 → Prop) : Prop :=
  (((a1 = 0) → K (μ 0 1)) ∧ (¬ (a1 = 0) → (((a1 = 1) → K (μ 0 14)) ∧ (¬ (a1 = 1) → (((a1 = 2) → K (μ 0 19)) ∧ (¬ (a1 = 2) → K ((-2) : Int32)))))))
set_option maxHeartbeats 4000000 in
set_option maxRecDepth 100000 in
theorem cm_X7_many (l : Launch) (G : xG) (ad : Nat → Nat) (hI : xI 23 ad) (n : Nat) (a1 : Int32) (μ : xM) (K : Int32 → Prop) (hf : wp_X7_many n a1 μ K) : Met l yX7_many (Cond.code yX7_many cX7_many 2 (some .int) :: xw_all) (rmo 0 0) (va_Pc [.ref (ad 0), .int a1] (xPre mS 23 G ad μ)) (xQi mS 23 G ad (fun r u => K r ∧ u = μ)) 0 0 (xR 23 ad) := by
  refine x_ent (nL := 2) (own := RX7) (by decide) rfl hI (Nat.le_of_ble_eq_true rfl) ?_
  intro p e s m args below meth c H locs ls Q X hr hlk hQ M hl
  have hx := X.1.1
  have hb := X.1.2.1
  have hown := X.1.2.2.2.1
  have hts := X.1.2.2.2.2
  have hl : lv_has ls 2 [(0, .ref (ad 0)), (1, .int a1)] := hl
  unfold wp_X7_many at hf
  refine lv_iload_n hx hb dX7_many_0 rfl (lv_at hl 1 rfl) ?_
  by_cases c_1_0 : a1 = 0
  · replace hf := hf.1 c_1_0
    refine lv_tableIn (off := 27) (tgt := 28) hx hb dX7_many_1 (by have q := c_1_0; (rw [q] <;> decide)) (by have q := c_1_0; (rw [q] <;> decide)) (by have q := c_1_0; (rw [q] <;> rfl)) (by decide) ?_
    refine lv_aload_n hx hb dX7_many_28 rfl (lv_at hl 0 rfl) ?_
    refine x_getI X M rgm_0 fd_X7_108 rfl dX7_many_29 ?_
    rw [hQ]
    exact x_iret X M hr hlk dX7_many_32 ⟨hf, rfl⟩
  · replace hf := hf.2 c_1_0
    by_cases c_1_1 : a1 = 1
    · replace hf := hf.1 c_1_1
      refine lv_tableIn (off := 32) (tgt := 33) hx hb dX7_many_1 (by have q := c_1_1; (rw [q] <;> decide)) (by have q := c_1_1; (rw [q] <;> decide)) (by have q := c_1_1; (rw [q] <;> rfl)) (by decide) ?_
      refine lv_aload_n hx hb dX7_many_33 rfl (lv_at hl 0 rfl) ?_
      refine x_getI X M rgm_0 fd_X7_138 rfl dX7_many_34 ?_
      rw [hQ]
      exact x_iret X M hr hlk dX7_many_37 ⟨hf, rfl⟩
    · replace hf := hf.2 c_1_1
      by_cases c_1_2 : a1 = 2
      · replace hf := hf.1 c_1_2
        refine lv_tableIn (off := 37) (tgt := 38) hx hb dX7_many_1 (by have q := c_1_2; (rw [q] <;> decide)) (by have q := c_1_2; (rw [q] <;> decide)) (by have q := c_1_2; (rw [q] <;> rfl)) (by decide) ?_
        refine lv_aload_n hx hb dX7_many_38 rfl (lv_at hl 0 rfl) ?_
        refine x_getI X M rgm_0 fd_X7_141 rfl dX7_many_39 ?_
        rw [hQ]
        exact x_iret X M hr hlk dX7_many_42 ⟨hf, rfl⟩
      · replace hf := hf.2 c_1_2
        have n_1_0 : ¬ a1.toInt = 0 := fun q => c_1_0 (by rw [Int32.toInt_inj.mp (q.trans (show (0 : Int) = (0 : Int32).toInt from rfl))] <;> decide)
        have n_1_1 : ¬ a1.toInt = 1 := fun q => c_1_1 (by rw [Int32.toInt_inj.mp (q.trans (show (1 : Int) = (1 : Int32).toInt from rfl))] <;> decide)
        have n_1_2 : ¬ a1.toInt = 2 := fun q => c_1_2 (by rw [Int32.toInt_inj.mp (q.trans (show (2 : Int) = (2 : Int32).toInt from rfl))] <;> decide)
        refine lv_tableOut (tgt := 43) hx hb dX7_many_1 (by omega) (by decide) ?_
        refine lv_bipush (v := ((-2) : Int32)) hx hb dX7_many_43 (by decide) ?_
        rw [hQ]
        exact x_iret X M hr hlk dX7_many_45 ⟨hf, rfl⟩
