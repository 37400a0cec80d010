def wp_X6_isBelow (n : Nat) (a0 : Int32) (a1 : Int32) (μ : xM) (K : Int32 → Prop) : Prop :=
  ((a0 < 0 → K (0 : Int32)) ∧ (¬ a0 < 0 → ((a1 ≤ a0 → K (0 : Int32)) ∧ (¬ a1 ≤ a0 → K (1 : Int32)))))
set_option maxHeartbeats 4000000 in
set_option maxRecDepth 100000 in
theorem cm_X6_isBelow (l : Launch) (G : xG) (ad : Nat → Nat) (hI : xI 36 ad) (n : Nat) (a0 : Int32) (a1 : Int32) (μ : xM) (K : Int32 → Prop) (hf : wp_X6_isBelow n a0 a1 μ K) : Met l yX6_isBelow (Cond.code yX6_isBelow cX6_isBelow 2 (some .boolean) :: xw_all) (rmo 0 0) (va_Pc [.int a0, .int a1] (xPre cS 36 G ad μ)) (xQi cS 36 G ad (fun r u => K r ∧ u = μ)) 0 0 (xR 36 ad) := by
  refine x_ent (nL := 2) (own := RX6) (by decide) rfl hI (Nat.le_of_ble_eq_true rfl) ?_
  intro p e s m args below meth c H locs ls Q X hr hlk hQ M hl
  have hx := X.1.1
  have hb := X.1.2.1
  have hown := X.1.2.2.2.1
  have hts := X.1.2.2.2.2
  have hl : lv_has ls 2 [(0, .int a0), (1, .int a1)] := hl
  unfold wp_X6_isBelow at hf
  refine lv_iload_n hx hb dX6_isBelow_0 rfl (lv_at hl 0 rfl) ?_
  refine lv_if_lt (tgt := 13) hx hb dX6_isBelow_1 (by decide) (fun c_1 => ?_) (fun c_1 => ?_)
  · replace hf := hf.1 c_1
    refine lv_iconst (v := (0 : Int32)) hx hb dX6_isBelow_13 (by decide) ?_
    rw [hQ]
    exact x_zret X M hr hlk xb_0 dX6_isBelow_14 ⟨hf, rfl⟩
  · replace hf := hf.2 c_1
    refine lv_iload_n hx hb dX6_isBelow_4 rfl (lv_at hl 0 rfl) ?_
    refine lv_iload_n hx hb dX6_isBelow_5 rfl (lv_at hl 1 rfl) ?_
    refine lv_icmp_ge (tgt := 13) hx hb dX6_isBelow_6 (by decide) (fun c_6 => ?_) (fun c_6 => ?_)
    · replace hf := hf.1 c_6
      refine lv_iconst (v := (0 : Int32)) hx hb dX6_isBelow_13 (by decide) ?_
      rw [hQ]
      exact x_zret X M hr hlk xb_0 dX6_isBelow_14 ⟨hf, rfl⟩
    · replace hf := hf.2 c_6
      refine lv_iconst (v := (1 : Int32)) hx hb dX6_isBelow_9 (by decide) ?_
      refine lv_goto (tgt := 14) hx hb dX6_isBelow_10 (by decide) ?_
      rw [hQ]
      exact x_zret X M hr hlk xb_1 dX6_isBelow_14 ⟨hf, rfl⟩
def wp_X6_isSheet (n : Nat) (a0 : Int32) (μ : xM) (K : Int32 → Prop) : Prop :=
  wp_X6_isBelow n a0 (4 : Int32) μ (fun r_2 : Int32 => xb r_2 ∧ K r_2)
set_option maxHeartbeats 4000000 in
set_option maxRecDepth 100000 in
theorem cm_X6_isSheet (l : Launch) (G : xG) (ad : Nat → Nat) (hI : xI 36 ad) (n : Nat) (a0 : Int32) (μ : xM) (K : Int32 → Prop) (hf : wp_X6_isSheet n a0 μ K) : Met l yX6_isSheet (Cond.code yX6_isSheet cX6_isSheet 1 (some .boolean) :: xw_all) (rmo 1 21) (va_Pc [.int a0] (xPre cS 36 G ad μ)) (xQi cS 36 G ad (fun r u => K r ∧ u = μ)) 0 0 (xR 36 ad) := by
  refine x_ent (nL := 1) (own := RX6) (by decide) rfl hI (Nat.le_of_ble_eq_true rfl) ?_
  intro p e s m args below meth c H locs ls Q X hr hlk hQ M hl
  have hx := X.1.1
  have hb := X.1.2.1
  have hown := X.1.2.2.2.1
  have hts := X.1.2.2.2.2
  have hl : lv_has ls 1 [(0, .int a0)] := hl
  unfold wp_X6_isSheet at hf
  refine lv_iload_n hx hb dX6_isSheet_0 rfl (lv_at hl 0 rfl) ?_
  refine lv_iconst (v := (4 : Int32)) hx hb dX6_isSheet_1 (by decide) ?_
  refine x_ciP (x_rS (As := [.int a0, .int (4 : Int32)]) (rest := []) X M (cm_X6_isBelow l G ad hI n a0 (4 : Int32) μ _ hf) mc_X6_isBelow ms_X6_isBelow lk_X6_100 mn_X6_isBelow hl ⟨⟨Nat.le_of_ble_eq_true rfl, Nat.le_of_ble_eq_true rfl⟩, rfl, Nat.le_of_ble_eq_true rfl, Nat.zero_le _, Nat.zero_le _⟩ rfl dX6_isSheet_2) M (fun r_2 H locs hf M => ?_)
  try dsimp only at hf
  obtain ⟨g_5, hf⟩ := hf
  rw [hQ]
  exact x_zret X M hr hlk g_5 dX6_isSheet_5 ⟨hf, rfl⟩
def wp_X6_isLane (n : Nat) (a0 : Int32) (μ : xM) (K : Int32 → Prop) : Prop :=
  wp_X6_isBelow n a0 (3 : Int32) μ (fun r_2 : Int32 => xb r_2 ∧ K r_2)
set_option maxHeartbeats 4000000 in
set_option maxRecDepth 100000 in
theorem cm_X6_isLane (l : Launch) (G : xG) (ad : Nat → Nat) (hI : xI 36 ad) (n : Nat) (a0 : Int32) (μ : xM) (K : Int32 → Prop) (hf : wp_X6_isLane n a0 μ K) : Met l yX6_isLane (Cond.code yX6_isLane cX6_isLane 1 (some .boolean) :: xw_all) (rmo 1 21) (va_Pc [.int a0] (xPre cS 36 G ad μ)) (xQi cS 36 G ad (fun r u => K r ∧ u = μ)) 0 0 (xR 36 ad) := by
  refine x_ent (nL := 1) (own := RX6) (by decide) rfl hI (Nat.le_of_ble_eq_true rfl) ?_
  intro p e s m args below meth c H locs ls Q X hr hlk hQ M hl
  have hx := X.1.1
  have hb := X.1.2.1
  have hown := X.1.2.2.2.1
  have hts := X.1.2.2.2.2
  have hl : lv_has ls 1 [(0, .int a0)] := hl
  unfold wp_X6_isLane at hf
  refine lv_iload_n hx hb dX6_isLane_0 rfl (lv_at hl 0 rfl) ?_
  refine lv_iconst (v := (3 : Int32)) hx hb dX6_isLane_1 (by decide) ?_
  refine x_ciP (x_rS (As := [.int a0, .int (3 : Int32)]) (rest := []) X M (cm_X6_isBelow l G ad hI n a0 (3 : Int32) μ _ hf) mc_X6_isBelow ms_X6_isBelow lk_X6_100 mn_X6_isBelow hl ⟨⟨Nat.le_of_ble_eq_true rfl, Nat.le_of_ble_eq_true rfl⟩, rfl, Nat.le_of_ble_eq_true rfl, Nat.zero_le _, Nat.zero_le _⟩ rfl dX6_isLane_2) M (fun r_2 H locs hf M => ?_)
  try dsimp only at hf
  obtain ⟨g_5, hf⟩ := hf
  rw [hQ]
  exact x_zret X M hr hlk g_5 dX6_isLane_5 ⟨hf, rfl⟩
def wp_X6_faulty (n : Nat) (a1 : Int32) (μ : xM) (K : Int32 → xM → Prop) : Prop :=
  (∀ m_2 : xM, m_2 = xu μ 0 4 a1 → K (((-10) : Int32) - a1) m_2)
set_option maxHeartbeats 4000000 in
set_option maxRecDepth 100000 in
theorem cm_X6_faulty (l : Launch) (G : xG) (ad : Nat → Nat) (hI : xI 36 ad) (n : Nat) (a1 : Int32) (μ : xM) (K : Int32 → xM → Prop) (hf : wp_X6_faulty n a1 μ K) : Met l yX6_faulty (Cond.code yX6_faulty cX6_faulty 2 (some .int) :: xw_all) (rmo 0 0) (va_Pc [.ref (ad 0), .int a1] (xPre cS 36 G ad μ)) (xQi cS 36 G ad K) 0 0 (xR 36 ad) := by
  refine x_ent (nL := 2) (own := RX6) (by decide) rfl hI (Nat.le_of_ble_eq_true rfl) ?_
  intro p e s m args below meth c H locs ls Q X hr hlk hQ M hl
  have hx := X.1.1
  have hb := X.1.2.1
  have hown := X.1.2.2.2.1
  have hts := X.1.2.2.2.2
  have hl : lv_has ls 2 [(0, .ref (ad 0)), (1, .int a1)] := hl
  unfold wp_X6_faulty at hf
  refine lv_aload_n hx hb dX6_faulty_0 rfl (lv_at hl 0 rfl) ?_
  refine lv_iload_n hx hb dX6_faulty_1 rfl (lv_at hl 1 rfl) ?_
  refine x_putI X M rgc_0 fp_X6_36 rfl dX6_faulty_2 (fun m_2 H locs em_2 M => ?_)
  replace hf := hf m_2 em_2
  refine lv_bipush (v := ((-10) : Int32)) hx hb dX6_faulty_5 (by decide) ?_
  refine lv_iload_n hx hb dX6_faulty_7 rfl (lv_at hl 1 rfl) ?_
  refine lv_isub hx hb dX6_faulty_8 ?_
  rw [hQ]
  exact x_iret X M hr hlk dX6_faulty_9 hf
def wp_X6_statues (n : Nat) (a1 : Int32) (a2 : Int32) (a3 : Int32) (a4 : Int32) (μ : xM) (K : Int32 → xM → Prop) : Prop :=
  (∀ m_2 : xM, m_2 = xu μ 0 4 (0 : Int32) → wp_X6_isSheet n a1 m_2 (fun r_6 : Int32 => ((¬ r_6 = 0 → wp_X6_isLane n a2 m_2 (fun r_15 : Int32 => ((¬ r_15 = 0 → (vp_in a1 4 ∧ wp_X2_faultAs n (a1.toNatClampNeg) a2 m_2 (fun r_35 : Int32 => xjn (fun (x6_53 : Int32) => xjn (fun (x6_72 : Int32) => ((x6_72 = 0 → wp_X4_firstFault n (a1.toNatClampNeg) a3 a4 m_2 (fun r_89 : Int32 => ((r_89 = ((-1) : Int32) → wp_X5_settle n (a1.toNatClampNeg) a3 a4 m_2 (fun m_115 : xM => wp_X1_keep n (0 : Int32) m_115 (fun m_123 : xM => K (m_123 10 6) m_123))) ∧ (¬ r_89 = ((-1) : Int32) → K (((-100) : Int32) - r_89) m_2)))) ∧ (¬ x6_72 = 0 → wp_X6_faulty n x6_72 m_2 (fun (r_80 : Int32) (m_80 : xM) => K r_80 m_80)))) (fun J72 : Int32 → Prop => ((¬ x6_53 = 0 → J72 x6_53) ∧ (x6_53 = 0 → wp_X2_hasRun n (a1.toNatClampNeg) a3 a4 m_2 (fun r_63 : Int32 => ((¬ r_63 = 0 → J72 x6_53) ∧ (r_63 = 0 → J72 (3 : Int32)))))))) (fun J53 : Int32 → Prop => ((¬ r_35 = 0 → J53 r_35) ∧ (r_35 = 0 → ((0 ≤ a4 → J53 r_35) ∧ (¬ 0 ≤ a4 → J53 (4 : Int32))))))))) ∧ (r_15 = 0 → K ((-2) : Int32) m_2)))) ∧ (r_6 = 0 → K ((-1) : Int32) m_2))))
set_option maxHeartbeats 4000000 in
set_option maxRecDepth 100000 in
theorem cm_X6_statues (l : Launch) (G : xG) (ad : Nat → Nat) (hI : xI 36 ad) (n : Nat) (a1 : Int32) (a2 : Int32) (a3 : Int32) (a4 : Int32) (μ : xM) (K : Int32 → xM → Prop) (hf : wp_X6_statues n a1 a2 a3 a4 μ K) : Met l yX6_statues (Cond.code yX6_statues cX6_statues 8 (some .int) :: xw_all) (rmo 3 67) (va_Pc [.ref (ad 0), .int a1, .int a2, .int a3, .int a4] (xPre cS 36 G ad μ)) (xQi cS 36 G ad K) 0 0 (xR 36 ad) := by
  refine x_ent (nL := 8) (own := RX6) (by decide) rfl hI (Nat.le_of_ble_eq_true rfl) ?_
  intro p e s m args below meth c H locs ls Q X hr hlk hQ M hl
  have hx := X.1.1
  have hb := X.1.2.1
  have hown := X.1.2.2.2.1
  have hts := X.1.2.2.2.2
  have hl : lv_has ls 8 [(0, .ref (ad 0)), (1, .int a1), (2, .int a2), (3, .int a3), (4, .int a4)] := hl
  unfold wp_X6_statues at hf
  refine lv_aload_n hx hb dX6_statues_0 rfl (lv_at hl 0 rfl) ?_
  refine lv_iconst (v := (0 : Int32)) hx hb dX6_statues_1 (by decide) ?_
  refine x_putI X M rgc_0 fp_X6_36 rfl dX6_statues_2 (fun m_2 H locs em_2 M => ?_)
  replace hf := hf m_2 em_2
  refine lv_iload_n hx hb dX6_statues_5 rfl (lv_at hl 1 rfl) ?_
  refine x_ciP (x_rS (As := [.int a1]) (rest := []) X M (cm_X6_isSheet l G ad hI n a1 m_2 _ hf) mc_X6_isSheet ms_X6_isSheet lk_X6_39 mn_X6_isSheet hl ⟨⟨Nat.le_of_ble_eq_true rfl, Nat.le_of_ble_eq_true rfl⟩, rfl, Nat.le_of_ble_eq_true rfl, Nat.zero_le _, Nat.zero_le _⟩ rfl dX6_statues_6) M (fun r_6 H locs hf M => ?_)
  try dsimp only at hf
  refine lv_if_ne (tgt := 14) hx hb dX6_statues_9 (by decide) (fun c_9 => ?_) (fun c_9 => ?_)
  · replace hf := hf.1 c_9
    refine lv_iload_n hx hb dX6_statues_14 rfl (lv_at hl 2 rfl) ?_
    refine x_ciP (x_rS (As := [.int a2]) (rest := []) X M (cm_X6_isLane l G ad hI n a2 m_2 _ hf) mc_X6_isLane ms_X6_isLane lk_X6_43 mn_X6_isLane hl ⟨⟨Nat.le_of_ble_eq_true rfl, Nat.le_of_ble_eq_true rfl⟩, rfl, Nat.le_of_ble_eq_true rfl, Nat.zero_le _, Nat.zero_le _⟩ rfl dX6_statues_15) M (fun r_15 H locs hf M => ?_)
    try dsimp only at hf
    refine lv_if_ne (tgt := 24) hx hb dX6_statues_18 (by decide) (fun c_18 => ?_) (fun c_18 => ?_)
    · replace hf := hf.1 c_18
      refine lv_aload_n hx hb dX6_statues_24 rfl (lv_at hl 0 rfl) ?_
      refine x_getR (r := 1) X M rgc_0 fd_X6_13 rfl dX6_statues_25 ?_
      refine lv_iload_n hx hb dX6_statues_28 rfl (lv_at hl 1 rfl) ?_
      obtain ⟨g_29, hf⟩ := hf
      refine x_ald X M rgc_1 rfl g_29 dX6_statues_29 ?_
      refine lv_astore (lv' := [(5, .ref (ad (2 + a1.toNatClampNeg))), (0, .ref (ad 0)), (1, .int a1), (2, .int a2), (3, .int a3), (4, .int a4)]) hx hb dX6_statues_30 hl (by decide) rfl (fun ls hl => ?_)
      refine lv_aload hx hb dX6_statues_32 (lv_at hl 0 rfl) ?_
      refine lv_iload_n hx hb dX6_statues_34 rfl (lv_at hl 3 rfl) ?_
      refine x_ciP (x_rVN (As := [.int a2]) (rest := []) X M (cm_X2_faultAs l G ad hI n (a1.toNatClampNeg) (vp_lt g_29) a2 m_2 _ hf) mc_X2_faultAs mv_X2_faultAs ln_X6_46 mn_X2_faultAs (rgc_2 (vp_lt g_29)) rfl hl ⟨⟨Nat.le_of_ble_eq_true rfl, Nat.le_of_ble_eq_true rfl⟩, rfl, Nat.le_of_ble_eq_true rfl, Nat.zero_le _, Nat.zero_le _⟩ rfl dX6_statues_35) M (fun r_35 H locs hf M => ?_)
      try dsimp only at hf
      refine lv_istore (lv' := [(6, .int r_35), (5, .ref (ad (2 + a1.toNatClampNeg))), (0, .ref (ad 0)), (1, .int a1), (2, .int a2), (3, .int a3), (4, .int a4)]) hx hb dX6_statues_38 hl (by decide) rfl (fun ls hl => ?_)
      refine lv_iload hx hb dX6_statues_40 (lv_at hl 0 rfl) ?_
      refine xjn_w hf (fun (x6_53 : Int32) => ∀ (H : Heap) (locs : List Loc) (ls : Array Slot), xS cS 36 G ad s m_2 H locs → lv_has ls 8 [(6, .int x6_53), (5, .ref (ad (2 + a1.toNatClampNeg))), (0, .ref (ad 0)), (3, .int a3), (4, .int a4)] → W p l e (rmo 3 67) s m args below meth c H locs 0 0 Q (F0 m 53 ls [])) ?_ ?_
      · intro x6_53 hf
        intro H locs ls M hl
        refine lv_iload hx hb dX6_statues_53 (lv_at hl 0 rfl) ?_
        refine xjn_w hf (fun (x6_72 : Int32) => ∀ (H : Heap) (locs : List Loc) (ls : Array Slot), xS cS 36 G ad s m_2 H locs → lv_has ls 8 [(6, .int x6_72), (5, .ref (ad (2 + a1.toNatClampNeg))), (0, .ref (ad 0)), (3, .int a3), (4, .int a4)] → W p l e (rmo 3 67) s m args below meth c H locs 0 0 Q (F0 m 72 ls [])) ?_ ?_
        · intro x6_72 hf
          intro H locs ls M hl
          refine lv_iload hx hb dX6_statues_72 (lv_at hl 0 rfl) ?_
          refine lv_if_eq (tgt := 84) hx hb dX6_statues_74 (by decide) (fun c_74 => ?_) (fun c_74 => ?_)
          · replace hf := hf.1 c_74
            refine lv_aload hx hb dX6_statues_84 (lv_at hl 1 rfl) ?_
            refine lv_iload_n hx hb dX6_statues_86 rfl (lv_at hl 3 rfl) ?_
            refine lv_iload hx hb dX6_statues_87 (lv_at hl 4 rfl) ?_
            refine x_ciP (x_rSN (As := [.ref (ad (2 + a1.toNatClampNeg)), .int a3, .int a4]) (rest := []) X M (cm_X4_firstFault l G ad hI n (a1.toNatClampNeg) (vp_lt g_29) a3 a4 m_2 _ hf) mc_X4_firstFault ms_X4_firstFault ln_X6_57 mn_X4_firstFault hl ⟨⟨Nat.le_of_ble_eq_true rfl, Nat.le_of_ble_eq_true rfl⟩, rfl, Nat.le_of_ble_eq_true rfl, Nat.zero_le _, Nat.zero_le _⟩ rfl dX6_statues_89) M (fun r_89 H locs hf M => ?_)
            try dsimp only at hf
            refine lv_istore (lv' := [(7, .int r_89), (6, .int x6_72), (5, .ref (ad (2 + a1.toNatClampNeg))), (0, .ref (ad 0)), (3, .int a3), (4, .int a4)]) hx hb dX6_statues_92 hl (by decide) rfl (fun ls hl => ?_)
            refine lv_iload hx hb dX6_statues_94 (lv_at hl 0 rfl) ?_
            refine lv_iconst (v := ((-1) : Int32)) hx hb dX6_statues_96 (by decide) ?_
            refine lv_icmp_eq (tgt := 106) hx hb dX6_statues_97 (by decide) (fun c_97 => ?_) (fun c_97 => ?_)
            · replace hf := hf.1 c_97
              refine lv_aload_n hx hb dX6_statues_106 rfl (lv_at hl 3 rfl) ?_
              refine x_getR (r := 10) X M rgc_0 fd_X6_21 rfl dX6_statues_107 ?_
              refine lv_aload hx hb dX6_statues_110 (lv_at hl 2 rfl) ?_
              refine lv_iload_n hx hb dX6_statues_112 rfl (lv_at hl 4 rfl) ?_
              refine lv_iload hx hb dX6_statues_113 (lv_at hl 5 rfl) ?_
              refine x_cv (x_rVN (As := [.ref (ad (2 + a1.toNatClampNeg)), .int a3, .int a4]) (rest := []) X M (cm_X5_settle l G ad hI n (a1.toNatClampNeg) (vp_lt g_29) a3 a4 m_2 _ hf) mc_X5_settle mv_X5_settle ln_X6_63 mn_X5_settle rgc_10 rfl hl ⟨⟨Nat.le_of_ble_eq_true rfl, Nat.le_of_ble_eq_true rfl⟩, rfl, Nat.le_of_ble_eq_true rfl, Nat.zero_le _, Nat.zero_le _⟩ rfl dX6_statues_115) M (fun m_115 H locs hf M => ?_)
              try dsimp only at hf
              refine lv_aload_n hx hb dX6_statues_118 rfl (lv_at hl 3 rfl) ?_
              refine x_getR (r := 31) X M rgc_0 fd_X6_28 rfl dX6_statues_119 ?_
              refine lv_iconst (v := (0 : Int32)) hx hb dX6_statues_122 (by decide) ?_
              refine x_cv (x_rVN (As := [.int (0 : Int32)]) (rest := []) X M (cm_X1_keep l G ad hI n (0 : Int32) m_115 _ hf) mc_X1_keep mv_X1_keep ln_X6_67 mn_X1_keep rgc_31 rfl hl ⟨⟨Nat.le_of_ble_eq_true rfl, Nat.le_of_ble_eq_true rfl⟩, rfl, Nat.le_of_ble_eq_true rfl, Nat.zero_le _, Nat.zero_le _⟩ rfl dX6_statues_123) M (fun m_123 H locs hf M => ?_)
              try dsimp only at hf
              refine lv_aload_n hx hb dX6_statues_126 rfl (lv_at hl 3 rfl) ?_
              refine x_getR (r := 10) X M rgc_0 fd_X6_21 rfl dX6_statues_127 ?_
              refine x_getI X M rgc_10 fd_X6_71 rfl dX6_statues_130 ?_
              rw [hQ]
              exact x_iret X M hr hlk dX6_statues_133 hf
            · replace hf := hf.2 c_97
              refine lv_bipush (v := ((-100) : Int32)) hx hb dX6_statues_100 (by decide) ?_
              refine lv_iload hx hb dX6_statues_102 (lv_at hl 0 rfl) ?_
              refine lv_isub hx hb dX6_statues_104 ?_
              rw [hQ]
              exact x_iret X M hr hlk dX6_statues_105 hf
          · replace hf := hf.2 c_74
            refine lv_aload_n hx hb dX6_statues_77 rfl (lv_at hl 2 rfl) ?_
            refine lv_iload hx hb dX6_statues_78 (lv_at hl 0 rfl) ?_
            refine x_ci (x_rV (As := [.int x6_72]) (rest := []) X M (cm_X6_faulty l G ad hI n x6_72 m_2 _ hf) mc_X6_faulty mv_X6_faulty lk_X6_54 mn_X6_faulty rgc_0 rfl hl ⟨⟨Nat.le_of_ble_eq_true rfl, Nat.le_of_ble_eq_true rfl⟩, rfl, Nat.le_of_ble_eq_true rfl, Nat.zero_le _, Nat.zero_le _⟩ rfl dX6_statues_80) M (fun r_80 m_80 H locs hf M => ?_)
            try dsimp only at hf
            rw [hQ]
            exact x_iret X M hr hlk dX6_statues_83 hf
        · intro J72 hJ72 hf
          refine lv_if_ne (tgt := 72) hx hb dX6_statues_55 (by decide) (fun c_55 => ?_) (fun c_55 => ?_)
          · replace hf := hf.1 c_55
            exact hJ72 x6_53 hf _ _ _ M (lv_sub hl [0, 1, 2, 3, 4] rfl)
          · replace hf := hf.2 c_55
            refine lv_aload hx hb dX6_statues_58 (lv_at hl 1 rfl) ?_
            refine lv_iload_n hx hb dX6_statues_60 rfl (lv_at hl 3 rfl) ?_
            refine lv_iload hx hb dX6_statues_61 (lv_at hl 4 rfl) ?_
            refine x_ciP (x_rVN (As := [.int a3, .int a4]) (rest := []) X M (cm_X2_hasRun l G ad hI n (a1.toNatClampNeg) (vp_lt g_29) a3 a4 m_2 _ hf) mc_X2_hasRun mv_X2_hasRun ln_X6_50 mn_X2_hasRun (rgc_2 (vp_lt g_29)) rfl hl ⟨⟨Nat.le_of_ble_eq_true rfl, Nat.le_of_ble_eq_true rfl⟩, rfl, Nat.le_of_ble_eq_true rfl, Nat.zero_le _, Nat.zero_le _⟩ rfl dX6_statues_63) M (fun r_63 H locs hf M => ?_)
            try dsimp only at hf
            refine lv_if_ne (tgt := 72) hx hb dX6_statues_66 (by decide) (fun c_66 => ?_) (fun c_66 => ?_)
            · replace hf := hf.1 c_66
              exact hJ72 x6_53 hf _ _ _ M (lv_sub hl [0, 1, 2, 3, 4] rfl)
            · replace hf := hf.2 c_66
              refine lv_iconst (v := (3 : Int32)) hx hb dX6_statues_69 (by decide) ?_
              refine lv_istore (lv' := [(6, .int (3 : Int32)), (5, .ref (ad (2 + a1.toNatClampNeg))), (0, .ref (ad 0)), (3, .int a3), (4, .int a4)]) hx hb dX6_statues_70 hl (by decide) rfl (fun ls hl => ?_)
              exact hJ72 (3 : Int32) hf _ _ _ M (lv_sub hl [0, 1, 2, 3, 4] rfl)
      · intro J53 hJ53 hf
        refine lv_if_ne (tgt := 53) hx hb dX6_statues_42 (by decide) (fun c_42 => ?_) (fun c_42 => ?_)
        · replace hf := hf.1 c_42
          exact hJ53 r_35 hf _ _ _ M (lv_sub hl [0, 1, 2, 5, 6] rfl)
        · replace hf := hf.2 c_42
          refine lv_iload hx hb dX6_statues_45 (lv_at hl 6 rfl) ?_
          refine lv_if_ge (tgt := 53) hx hb dX6_statues_47 (by decide) (fun c_47 => ?_) (fun c_47 => ?_)
          · replace hf := hf.1 c_47
            exact hJ53 r_35 hf _ _ _ M (lv_sub hl [0, 1, 2, 5, 6] rfl)
          · replace hf := hf.2 c_47
            refine lv_iconst (v := (4 : Int32)) hx hb dX6_statues_50 (by decide) ?_
            refine lv_istore (lv' := [(6, .int (4 : Int32)), (5, .ref (ad (2 + a1.toNatClampNeg))), (0, .ref (ad 0)), (1, .int a1), (2, .int a2), (3, .int a3), (4, .int a4)]) hx hb dX6_statues_51 hl (by decide) rfl (fun ls hl => ?_)
            exact hJ53 (4 : Int32) hf _ _ _ M (lv_sub hl [0, 1, 2, 5, 6] rfl)
    · replace hf := hf.2 c_18
      refine lv_bipush (v := ((-2) : Int32)) hx hb dX6_statues_21 (by decide) ?_
      rw [hQ]
      exact x_iret X M hr hlk dX6_statues_23 hf
  · replace hf := hf.2 c_9
    refine lv_iconst (v := ((-1) : Int32)) hx hb dX6_statues_12 (by decide) ?_
    rw [hQ]
    exact x_iret X M hr hlk dX6_statues_13 hf
def wp_X6_isStatue (n : Nat) (a1 : Int32) (μ : xM) (K : Int32 → Prop) : Prop :=
  wp_X6_isBelow n a1 (μ 10 6) μ (fun r_8 : Int32 => xb r_8 ∧ K r_8)
set_option maxHeartbeats 4000000 in
set_option maxRecDepth 100000 in
theorem cm_X6_isStatue (l : Launch) (G : xG) (ad : Nat → Nat) (hI : xI 36 ad) (n : Nat) (a1 : Int32) (μ : xM) (K : Int32 → Prop) (hf : wp_X6_isStatue n a1 μ K) : Met l yX6_isStatue (Cond.code yX6_isStatue cX6_isStatue 2 (some .boolean) :: xw_all) (rmo 1 21) (va_Pc [.ref (ad 0), .int a1] (xPre cS 36 G ad μ)) (xQi cS 36 G ad (fun r u => K r ∧ u = μ)) 0 0 (xR 36 ad) := by
  refine x_ent (nL := 2) (own := RX6) (by decide) rfl hI (Nat.le_of_ble_eq_true rfl) ?_
  intro p e s m args below meth c H locs ls Q X hr hlk hQ M hl
  have hx := X.1.1
  have hb := X.1.2.1
  have hown := X.1.2.2.2.1
  have hts := X.1.2.2.2.2
  have hl : lv_has ls 2 [(0, .ref (ad 0)), (1, .int a1)] := hl
  unfold wp_X6_isStatue at hf
  refine lv_iload_n hx hb dX6_isStatue_0 rfl (lv_at hl 1 rfl) ?_
  refine lv_aload_n hx hb dX6_isStatue_1 rfl (lv_at hl 0 rfl) ?_
  refine x_getR (r := 10) X M rgc_0 fd_X6_21 rfl dX6_isStatue_2 ?_
  refine x_getI X M rgc_10 fd_X6_71 rfl dX6_isStatue_5 ?_
  refine x_ciP (x_rS (As := [.int a1, .int (μ 10 6)]) (rest := []) X M (cm_X6_isBelow l G ad hI n a1 (μ 10 6) μ _ hf) mc_X6_isBelow ms_X6_isBelow lk_X6_100 mn_X6_isBelow hl ⟨⟨Nat.le_of_ble_eq_true rfl, Nat.le_of_ble_eq_true rfl⟩, rfl, Nat.le_of_ble_eq_true rfl, Nat.zero_le _, Nat.zero_le _⟩ rfl dX6_isStatue_8) M (fun r_8 H locs hf M => ?_)
  try dsimp only at hf
  obtain ⟨g_11, hf⟩ := hf
  rw [hQ]
  exact x_zret X M hr hlk g_11 dX6_isStatue_11 ⟨hf, rfl⟩
def wp_X6_ofStatue (n : Nat) (a1 : Int32) (a2 : Int32) (μ : xM) (K : Int32 → Prop) : Prop :=
  wp_X6_isStatue n a1 μ (fun r_2 : Int32 => ((¬ r_2 = 0 → (vp_in a1 7 ∧ (((a2 = 0 ∨ a2 = 1 ∨ a2 = 2) → (vp_in a2 3 ∧ K (μ (24 + a1.toNatClampNeg) a2.toNatClampNeg))) ∧ (¬ (a2 = 0 ∨ a2 = 1 ∨ a2 = 2) → (((a2 = 3) → K (μ (17 + a1.toNatClampNeg) 1)) ∧ (¬ (a2 = 3) → (((a2 = 4) → K (μ (17 + a1.toNatClampNeg) 2)) ∧ (¬ (a2 = 4) → (((a2 = 5) → K (μ (17 + a1.toNatClampNeg) 3)) ∧ (¬ (a2 = 5) → (((a2 = 6) → (((μ (17 + a1.toNatClampNeg) 4) = 0 → K (0 : Int32)) ∧ (¬ (μ (17 + a1.toNatClampNeg) 4) = 0 → K (1 : Int32)))) ∧ (¬ (a2 = 6) → K ((-2) : Int32))))))))))))) ∧ (r_2 = 0 → K ((-1) : Int32))))
set_option maxHeartbeats 4000000 in
set_option maxRecDepth 100000 in
theorem cm_X6_ofStatue (l : Launch) (G : xG) (ad : Nat → Nat) (hI : xI 36 ad) (n : Nat) (a1 : Int32) (a2 : Int32) (μ : xM) (K : Int32 → Prop) (hf : wp_X6_ofStatue n a1 a2 μ K) : Met l yX6_ofStatue (Cond.code yX6_ofStatue cX6_ofStatue 4 (some .int) :: xw_all) (rmo 2 42) (va_Pc [.ref (ad 0), .int a1, .int a2] (xPre cS 36 G ad μ)) (xQi cS 36 G ad (fun r u => K r ∧ u = μ)) 0 0 (xR 36 ad) := by
  refine x_ent (nL := 4) (own := RX6) (by decide) rfl hI (Nat.le_of_ble_eq_true rfl) ?_
  intro p e s m args below meth c H locs ls Q X hr hlk hQ M hl
  have hx := X.1.1
  have hb := X.1.2.1
  have hown := X.1.2.2.2.1
  have hts := X.1.2.2.2.2
  have hl : lv_has ls 4 [(0, .ref (ad 0)), (1, .int a1), (2, .int a2)] := hl
  unfold wp_X6_ofStatue at hf
  refine lv_aload_n hx hb dX6_ofStatue_0 rfl (lv_at hl 0 rfl) ?_
  refine lv_iload_n hx hb dX6_ofStatue_1 rfl (lv_at hl 1 rfl) ?_
  refine x_ciP (x_rV (As := [.int a1]) (rest := []) X M (cm_X6_isStatue l G ad hI n a1 μ _ hf) mc_X6_isStatue mv_X6_isStatue lk_X6_74 mn_X6_isStatue rgc_0 rfl hl ⟨⟨Nat.le_of_ble_eq_true rfl, Nat.le_of_ble_eq_true rfl⟩, rfl, Nat.le_of_ble_eq_true rfl, Nat.zero_le _, Nat.zero_le _⟩ rfl dX6_ofStatue_2) M (fun r_2 H locs hf M => ?_)
  try dsimp only at hf
  refine lv_if_ne (tgt := 10) hx hb dX6_ofStatue_5 (by decide) (fun c_5 => ?_) (fun c_5 => ?_)
  · replace hf := hf.1 c_5
    refine lv_aload_n hx hb dX6_ofStatue_10 rfl (lv_at hl 0 rfl) ?_
    refine x_getR (r := 10) X M rgc_0 fd_X6_21 rfl dX6_ofStatue_11 ?_
    refine x_getR (r := 11) X M rgc_10 fd_X6_77 rfl dX6_ofStatue_14 ?_
    refine lv_iload_n hx hb dX6_ofStatue_17 rfl (lv_at hl 1 rfl) ?_
    obtain ⟨g_18, hf⟩ := hf
    refine x_ald X M rgc_11 rfl g_18 dX6_ofStatue_18 ?_
    refine lv_astore_n (lv' := [(3, .ref (ad (17 + a1.toNatClampNeg))), (0, .ref (ad 0)), (1, .int a1), (2, .int a2)]) hx hb dX6_ofStatue_19 rfl hl (by decide) rfl (fun ls hl => ?_)
    refine lv_iload_n hx hb dX6_ofStatue_20 rfl (lv_at hl 3 rfl) ?_
    by_cases c_21_0 : a2 = 0 ∨ a2 = 1 ∨ a2 = 2
    · replace hf := hf.1 c_21_0
      refine lv_tableIn (off := 43) (tgt := 64) hx hb dX6_ofStatue_21 (by rcases c_21_0 with q | q | q <;> (rw [q] <;> decide)) (by rcases c_21_0 with q | q | q <;> (rw [q] <;> decide)) (by rcases c_21_0 with q | q | q <;> (rw [q] <;> rfl)) (by decide) ?_
      refine lv_aload_n hx hb dX6_ofStatue_64 rfl (lv_at hl 0 rfl) ?_
      refine x_getR (r := (24 + a1.toNatClampNeg)) X M (rgc_17 (vp_lt g_18)) fd_X6_81 rfl dX6_ofStatue_65 ?_
      refine lv_iload_n hx hb dX6_ofStatue_68 rfl (lv_at hl 3 rfl) ?_
      obtain ⟨g_69, hf⟩ := hf
      refine x_ild X M (rgc_24 (vp_lt g_18)) g_69 dX6_ofStatue_69 ?_
      rw [hQ]
      exact x_iret X M hr hlk dX6_ofStatue_70 ⟨hf, rfl⟩
    · replace hf := hf.2 c_21_0
      by_cases c_21_1 : a2 = 3
      · replace hf := hf.1 c_21_1
        refine lv_tableIn (off := 50) (tgt := 71) hx hb dX6_ofStatue_21 (by have q := c_21_1; (rw [q] <;> decide)) (by have q := c_21_1; (rw [q] <;> decide)) (by have q := c_21_1; (rw [q] <;> rfl)) (by decide) ?_
        refine lv_aload_n hx hb dX6_ofStatue_71 rfl (lv_at hl 0 rfl) ?_
        refine x_getI X M (rgc_17 (vp_lt g_18)) fd_X6_87 rfl dX6_ofStatue_72 ?_
        rw [hQ]
        exact x_iret X M hr hlk dX6_ofStatue_75 ⟨hf, rfl⟩
      · replace hf := hf.2 c_21_1
        by_cases c_21_2 : a2 = 4
        · replace hf := hf.1 c_21_2
          refine lv_tableIn (off := 55) (tgt := 76) hx hb dX6_ofStatue_21 (by have q := c_21_2; (rw [q] <;> decide)) (by have q := c_21_2; (rw [q] <;> decide)) (by have q := c_21_2; (rw [q] <;> rfl)) (by decide) ?_
          refine lv_aload_n hx hb dX6_ofStatue_76 rfl (lv_at hl 0 rfl) ?_
          refine x_getI X M (rgc_17 (vp_lt g_18)) fd_X6_90 rfl dX6_ofStatue_77 ?_
          rw [hQ]
          exact x_iret X M hr hlk dX6_ofStatue_80 ⟨hf, rfl⟩
        · replace hf := hf.2 c_21_2
          by_cases c_21_3 : a2 = 5
          · replace hf := hf.1 c_21_3
            refine lv_tableIn (off := 60) (tgt := 81) hx hb dX6_ofStatue_21 (by have q := c_21_3; (rw [q] <;> decide)) (by have q := c_21_3; (rw [q] <;> decide)) (by have q := c_21_3; (rw [q] <;> rfl)) (by decide) ?_
            refine lv_aload_n hx hb dX6_ofStatue_81 rfl (lv_at hl 0 rfl) ?_
            refine x_getI X M (rgc_17 (vp_lt g_18)) fd_X6_93 rfl dX6_ofStatue_82 ?_
            rw [hQ]
            exact x_iret X M hr hlk dX6_ofStatue_85 ⟨hf, rfl⟩
          · replace hf := hf.2 c_21_3
            by_cases c_21_4 : a2 = 6
            · replace hf := hf.1 c_21_4
              refine lv_tableIn (off := 65) (tgt := 86) hx hb dX6_ofStatue_21 (by have q := c_21_4; (rw [q] <;> decide)) (by have q := c_21_4; (rw [q] <;> decide)) (by have q := c_21_4; (rw [q] <;> rfl)) (by decide) ?_
              refine lv_aload_n hx hb dX6_ofStatue_86 rfl (lv_at hl 0 rfl) ?_
              refine x_getI X M (rgc_17 (vp_lt g_18)) fd_X6_96 rfl dX6_ofStatue_87 ?_
              refine lv_if_eq (tgt := 97) hx hb dX6_ofStatue_90 (by decide) (fun c_90 => ?_) (fun c_90 => ?_)
              · replace hf := hf.1 c_90
                refine lv_iconst (v := (0 : Int32)) hx hb dX6_ofStatue_97 (by decide) ?_
                rw [hQ]
                exact x_iret X M hr hlk dX6_ofStatue_98 ⟨hf, rfl⟩
              · replace hf := hf.2 c_90
                refine lv_iconst (v := (1 : Int32)) hx hb dX6_ofStatue_93 (by decide) ?_
                refine lv_goto (tgt := 98) hx hb dX6_ofStatue_94 (by decide) ?_
                rw [hQ]
                exact x_iret X M hr hlk dX6_ofStatue_98 ⟨hf, rfl⟩
            · replace hf := hf.2 c_21_4
              have n_21_0 : ¬ a2.toInt = 0 := fun q => c_21_0 (by rw [Int32.toInt_inj.mp (q.trans (show (0 : Int) = (0 : Int32).toInt from rfl))] <;> decide)
              have n_21_1 : ¬ a2.toInt = 1 := fun q => c_21_0 (by rw [Int32.toInt_inj.mp (q.trans (show (1 : Int) = (1 : Int32).toInt from rfl))] <;> decide)
              have n_21_2 : ¬ a2.toInt = 2 := fun q => c_21_0 (by rw [Int32.toInt_inj.mp (q.trans (show (2 : Int) = (2 : Int32).toInt from rfl))] <;> decide)
              have n_21_3 : ¬ a2.toInt = 3 := fun q => c_21_1 (by rw [Int32.toInt_inj.mp (q.trans (show (3 : Int) = (3 : Int32).toInt from rfl))] <;> decide)
              have n_21_4 : ¬ a2.toInt = 4 := fun q => c_21_2 (by rw [Int32.toInt_inj.mp (q.trans (show (4 : Int) = (4 : Int32).toInt from rfl))] <;> decide)
              have n_21_5 : ¬ a2.toInt = 5 := fun q => c_21_3 (by rw [Int32.toInt_inj.mp (q.trans (show (5 : Int) = (5 : Int32).toInt from rfl))] <;> decide)
              have n_21_6 : ¬ a2.toInt = 6 := fun q => c_21_4 (by rw [Int32.toInt_inj.mp (q.trans (show (6 : Int) = (6 : Int32).toInt from rfl))] <;> decide)
              refine lv_tableOut (tgt := 99) hx hb dX6_ofStatue_21 (by omega) (by decide) ?_
              refine lv_bipush (v := ((-2) : Int32)) hx hb dX6_ofStatue_99 (by decide) ?_
              rw [hQ]
              exact x_iret X M hr hlk dX6_ofStatue_101 ⟨hf, rfl⟩
  · replace hf := hf.2 c_5
    refine lv_iconst (v := ((-1) : Int32)) hx hb dX6_ofStatue_8 (by decide) ?_
    rw [hQ]
    exact x_iret X M hr hlk dX6_ofStatue_9 ⟨hf, rfl⟩
def wp_X6_look (n : Nat) (a1 : Int32) (a2 : Int32) (μ : xM) (K : Int32 → xM → Prop) : Prop :=
  wp_X6_isStatue n a1 μ (fun r_2 : Int32 => ((¬ r_2 = 0 → wp_X6_isBelow n a2 (4 : Int32) μ (fun r_12 : Int32 => ((¬ r_12 = 0 → (vp_in a1 7 ∧ (∀ x4_35 : Int32, x4_35 = μ (17 + a1.toNatClampNeg) 2 → (∀ m_39 : xM, m_39 = xu μ (17 + a1.toNatClampNeg) 2 a2 → wp_X5_forgetFrom n (0 : Int32) m_39 (fun m_47 : xM => K x4_35 m_47))))) ∧ (r_12 = 0 → K ((-2) : Int32) μ)))) ∧ (r_2 = 0 → K ((-1) : Int32) μ)))
set_option maxHeartbeats 4000000 in
set_option maxRecDepth 100000 in
theorem cm_X6_look (l : Launch) (G : xG) (ad : Nat → Nat) (hI : xI 36 ad) (n : Nat) (a1 : Int32) (a2 : Int32) (μ : xM) (K : Int32 → xM → Prop) (hf : wp_X6_look n a1 a2 μ K) : Met l yX6_look (Cond.code yX6_look cX6_look 5 (some .int) :: xw_all) (rmo 2 42) (va_Pc [.ref (ad 0), .int a1, .int a2] (xPre cS 36 G ad μ)) (xQi cS 36 G ad K) 0 0 (xR 36 ad) := by
  refine x_ent (nL := 5) (own := RX6) (by decide) rfl hI (Nat.le_of_ble_eq_true rfl) ?_
  intro p e s m args below meth c H locs ls Q X hr hlk hQ M hl
  have hx := X.1.1
  have hb := X.1.2.1
  have hown := X.1.2.2.2.1
  have hts := X.1.2.2.2.2
  have hl : lv_has ls 5 [(0, .ref (ad 0)), (1, .int a1), (2, .int a2)] := hl
  unfold wp_X6_look at hf
  refine lv_aload_n hx hb dX6_look_0 rfl (lv_at hl 0 rfl) ?_
  refine lv_iload_n hx hb dX6_look_1 rfl (lv_at hl 1 rfl) ?_
  refine x_ciP (x_rV (As := [.int a1]) (rest := []) X M (cm_X6_isStatue l G ad hI n a1 μ _ hf) mc_X6_isStatue mv_X6_isStatue lk_X6_74 mn_X6_isStatue rgc_0 rfl hl ⟨⟨Nat.le_of_ble_eq_true rfl, Nat.le_of_ble_eq_true rfl⟩, rfl, Nat.le_of_ble_eq_true rfl, Nat.zero_le _, Nat.zero_le _⟩ rfl dX6_look_2) M (fun r_2 H locs hf M => ?_)
  try dsimp only at hf
  refine lv_if_ne (tgt := 10) hx hb dX6_look_5 (by decide) (fun c_5 => ?_) (fun c_5 => ?_)
  · replace hf := hf.1 c_5
    refine lv_iload_n hx hb dX6_look_10 rfl (lv_at hl 2 rfl) ?_
    refine lv_iconst (v := (4 : Int32)) hx hb dX6_look_11 (by decide) ?_
    refine x_ciP (x_rS (As := [.int a2, .int (4 : Int32)]) (rest := []) X M (cm_X6_isBelow l G ad hI n a2 (4 : Int32) μ _ hf) mc_X6_isBelow ms_X6_isBelow lk_X6_100 mn_X6_isBelow hl ⟨⟨Nat.le_of_ble_eq_true rfl, Nat.le_of_ble_eq_true rfl⟩, rfl, Nat.le_of_ble_eq_true rfl, Nat.zero_le _, Nat.zero_le _⟩ rfl dX6_look_12) M (fun r_12 H locs hf M => ?_)
    try dsimp only at hf
    refine lv_if_ne (tgt := 21) hx hb dX6_look_15 (by decide) (fun c_15 => ?_) (fun c_15 => ?_)
    · replace hf := hf.1 c_15
      refine lv_aload_n hx hb dX6_look_21 rfl (lv_at hl 0 rfl) ?_
      refine x_getR (r := 10) X M rgc_0 fd_X6_21 rfl dX6_look_22 ?_
      refine x_getR (r := 11) X M rgc_10 fd_X6_77 rfl dX6_look_25 ?_
      refine lv_iload_n hx hb dX6_look_28 rfl (lv_at hl 1 rfl) ?_
      obtain ⟨g_29, hf⟩ := hf
      refine x_ald X M rgc_11 rfl g_29 dX6_look_29 ?_
      refine lv_astore_n (lv' := [(3, .ref (ad (17 + a1.toNatClampNeg))), (0, .ref (ad 0)), (1, .int a1), (2, .int a2)]) hx hb dX6_look_30 rfl hl (by decide) rfl (fun ls hl => ?_)
      refine lv_aload_n hx hb dX6_look_31 rfl (lv_at hl 0 rfl) ?_
      refine x_getI X M (rgc_17 (vp_lt g_29)) fd_X6_90 rfl dX6_look_32 ?_
      refine lv_topi (fun x4_35 ex4_35 => ?_)
      replace hf := hf x4_35 ex4_35
      refine lv_istore (lv' := [(4, .int x4_35), (3, .ref (ad (17 + a1.toNatClampNeg))), (0, .ref (ad 0)), (1, .int a1), (2, .int a2)]) hx hb dX6_look_35 hl (by decide) rfl (fun ls hl => ?_)
      refine lv_aload_n hx hb dX6_look_37 rfl (lv_at hl 1 rfl) ?_
      refine lv_iload_n hx hb dX6_look_38 rfl (lv_at hl 4 rfl) ?_
      refine x_putI X M (rgc_17 (vp_lt g_29)) fp_X6_90 rfl dX6_look_39 (fun m_39 H locs em_39 M => ?_)
      replace hf := hf m_39 em_39
      refine lv_aload_n hx hb dX6_look_42 rfl (lv_at hl 2 rfl) ?_
      refine x_getR (r := 10) X M rgc_0 fd_X6_21 rfl dX6_look_43 ?_
      refine lv_iconst (v := (0 : Int32)) hx hb dX6_look_46 (by decide) ?_
      refine x_cv (x_rVN (As := [.int (0 : Int32)]) (rest := []) X M (cm_X5_forgetFrom l G ad hI n (0 : Int32) m_39 _ hf) mc_X5_forgetFrom mv_X5_forgetFrom ln_X6_103 mn_X5_forgetFrom rgc_10 rfl hl ⟨⟨Nat.le_of_ble_eq_true rfl, Nat.le_of_ble_eq_true rfl⟩, rfl, Nat.le_of_ble_eq_true rfl, Nat.zero_le _, Nat.zero_le _⟩ rfl dX6_look_47) M (fun m_47 H locs hf M => ?_)
      try dsimp only at hf
      refine lv_iload hx hb dX6_look_50 (lv_at hl 0 rfl) ?_
      rw [hQ]
      exact x_iret X M hr hlk dX6_look_52 hf
    · replace hf := hf.2 c_15
      refine lv_bipush (v := ((-2) : Int32)) hx hb dX6_look_18 (by decide) ?_
      rw [hQ]
      exact x_iret X M hr hlk dX6_look_20 hf
  · replace hf := hf.2 c_5
    refine lv_iconst (v := ((-1) : Int32)) hx hb dX6_look_8 (by decide) ?_
    rw [hQ]
    exact x_iret X M hr hlk dX6_look_9 hf
def wp_X6_over (n : Nat) (a1 : Int32) (a2 : Int32) (μ : xM) (K : Int32 → xM → Prop) : Prop :=
  wp_X6_isStatue n a1 μ (fun r_2 : Int32 => ((¬ r_2 = 0 → wp_X6_isBelow n a2 (3 : Int32) μ (fun r_12 : Int32 => ((¬ r_12 = 0 → (vp_in a1 7 ∧ (∀ x4_35 : Int32, x4_35 = μ (17 + a1.toNatClampNeg) 3 → (∀ m_39 : xM, m_39 = xu μ (17 + a1.toNatClampNeg) 3 a2 → wp_X5_forgetFrom n (0 : Int32) m_39 (fun m_47 : xM => K x4_35 m_47))))) ∧ (r_12 = 0 → K ((-2) : Int32) μ)))) ∧ (r_2 = 0 → K ((-1) : Int32) μ)))
set_option maxHeartbeats 4000000 in
set_option maxRecDepth 100000 in
theorem cm_X6_over (l : Launch) (G : xG) (ad : Nat → Nat) (hI : xI 36 ad) (n : Nat) (a1 : Int32) (a2 : Int32) (μ : xM) (K : Int32 → xM → Prop) (hf : wp_X6_over n a1 a2 μ K) : Met l yX6_over (Cond.code yX6_over cX6_over 5 (some .int) :: xw_all) (rmo 2 42) (va_Pc [.ref (ad 0), .int a1, .int a2] (xPre cS 36 G ad μ)) (xQi cS 36 G ad K) 0 0 (xR 36 ad) := by
  refine x_ent (nL := 5) (own := RX6) (by decide) rfl hI (Nat.le_of_ble_eq_true rfl) ?_
  intro p e s m args below meth c H locs ls Q X hr hlk hQ M hl
  have hx := X.1.1
  have hb := X.1.2.1
  have hown := X.1.2.2.2.1
  have hts := X.1.2.2.2.2
  have hl : lv_has ls 5 [(0, .ref (ad 0)), (1, .int a1), (2, .int a2)] := hl
  unfold wp_X6_over at hf
  refine lv_aload_n hx hb dX6_over_0 rfl (lv_at hl 0 rfl) ?_
  refine lv_iload_n hx hb dX6_over_1 rfl (lv_at hl 1 rfl) ?_
  refine x_ciP (x_rV (As := [.int a1]) (rest := []) X M (cm_X6_isStatue l G ad hI n a1 μ _ hf) mc_X6_isStatue mv_X6_isStatue lk_X6_74 mn_X6_isStatue rgc_0 rfl hl ⟨⟨Nat.le_of_ble_eq_true rfl, Nat.le_of_ble_eq_true rfl⟩, rfl, Nat.le_of_ble_eq_true rfl, Nat.zero_le _, Nat.zero_le _⟩ rfl dX6_over_2) M (fun r_2 H locs hf M => ?_)
  try dsimp only at hf
  refine lv_if_ne (tgt := 10) hx hb dX6_over_5 (by decide) (fun c_5 => ?_) (fun c_5 => ?_)
  · replace hf := hf.1 c_5
    refine lv_iload_n hx hb dX6_over_10 rfl (lv_at hl 2 rfl) ?_
    refine lv_iconst (v := (3 : Int32)) hx hb dX6_over_11 (by decide) ?_
    refine x_ciP (x_rS (As := [.int a2, .int (3 : Int32)]) (rest := []) X M (cm_X6_isBelow l G ad hI n a2 (3 : Int32) μ _ hf) mc_X6_isBelow ms_X6_isBelow lk_X6_100 mn_X6_isBelow hl ⟨⟨Nat.le_of_ble_eq_true rfl, Nat.le_of_ble_eq_true rfl⟩, rfl, Nat.le_of_ble_eq_true rfl, Nat.zero_le _, Nat.zero_le _⟩ rfl dX6_over_12) M (fun r_12 H locs hf M => ?_)
    try dsimp only at hf
    refine lv_if_ne (tgt := 21) hx hb dX6_over_15 (by decide) (fun c_15 => ?_) (fun c_15 => ?_)
    · replace hf := hf.1 c_15
      refine lv_aload_n hx hb dX6_over_21 rfl (lv_at hl 0 rfl) ?_
      refine x_getR (r := 10) X M rgc_0 fd_X6_21 rfl dX6_over_22 ?_
      refine x_getR (r := 11) X M rgc_10 fd_X6_77 rfl dX6_over_25 ?_
      refine lv_iload_n hx hb dX6_over_28 rfl (lv_at hl 1 rfl) ?_
      obtain ⟨g_29, hf⟩ := hf
      refine x_ald X M rgc_11 rfl g_29 dX6_over_29 ?_
      refine lv_astore_n (lv' := [(3, .ref (ad (17 + a1.toNatClampNeg))), (0, .ref (ad 0)), (1, .int a1), (2, .int a2)]) hx hb dX6_over_30 rfl hl (by decide) rfl (fun ls hl => ?_)
      refine lv_aload_n hx hb dX6_over_31 rfl (lv_at hl 0 rfl) ?_
      refine x_getI X M (rgc_17 (vp_lt g_29)) fd_X6_93 rfl dX6_over_32 ?_
      refine lv_topi (fun x4_35 ex4_35 => ?_)
      replace hf := hf x4_35 ex4_35
      refine lv_istore (lv' := [(4, .int x4_35), (3, .ref (ad (17 + a1.toNatClampNeg))), (0, .ref (ad 0)), (1, .int a1), (2, .int a2)]) hx hb dX6_over_35 hl (by decide) rfl (fun ls hl => ?_)
      refine lv_aload_n hx hb dX6_over_37 rfl (lv_at hl 1 rfl) ?_
      refine lv_iload_n hx hb dX6_over_38 rfl (lv_at hl 4 rfl) ?_
      refine x_putI X M (rgc_17 (vp_lt g_29)) fp_X6_93 rfl dX6_over_39 (fun m_39 H locs em_39 M => ?_)
      replace hf := hf m_39 em_39
      refine lv_aload_n hx hb dX6_over_42 rfl (lv_at hl 2 rfl) ?_
      refine x_getR (r := 10) X M rgc_0 fd_X6_21 rfl dX6_over_43 ?_
      refine lv_iconst (v := (0 : Int32)) hx hb dX6_over_46 (by decide) ?_
      refine x_cv (x_rVN (As := [.int (0 : Int32)]) (rest := []) X M (cm_X5_forgetFrom l G ad hI n (0 : Int32) m_39 _ hf) mc_X5_forgetFrom mv_X5_forgetFrom ln_X6_103 mn_X5_forgetFrom rgc_10 rfl hl ⟨⟨Nat.le_of_ble_eq_true rfl, Nat.le_of_ble_eq_true rfl⟩, rfl, Nat.le_of_ble_eq_true rfl, Nat.zero_le _, Nat.zero_le _⟩ rfl dX6_over_47) M (fun m_47 H locs hf M => ?_)
      try dsimp only at hf
      refine lv_iload hx hb dX6_over_50 (lv_at hl 0 rfl) ?_
      rw [hQ]
      exact x_iret X M hr hlk dX6_over_52 hf
    · replace hf := hf.2 c_15
      refine lv_bipush (v := ((-2) : Int32)) hx hb dX6_over_18 (by decide) ?_
      rw [hQ]
      exact x_iret X M hr hlk dX6_over_20 hf
  · replace hf := hf.2 c_5
    refine lv_iconst (v := ((-1) : Int32)) hx hb dX6_over_8 (by decide) ?_
    rw [hQ]
    exact x_iret X M hr hlk dX6_over_9 hf
def wp_X6_fence (n : Nat) (a1 : Int32) (a2 : Int32) (μ : xM) (K : Int32 → xM → Prop) : Prop :=
  wp_X6_isStatue n a1 μ (fun r_2 : Int32 => ((¬ r_2 = 0 → (vp_in a1 7 ∧ ((¬ (μ (17 + a1.toNatClampNeg) 4) = a2 → (xb a2 ∧ (∀ m_32 : xM, m_32 = xu μ (17 + a1.toNatClampNeg) 4 a2 → wp_X5_forgetFrom n (0 : Int32) m_32 (fun m_40 : xM => K (1 : Int32) m_40)))) ∧ ((μ (17 + a1.toNatClampNeg) 4) = a2 → K (0 : Int32) μ)))) ∧ (r_2 = 0 → K ((-1) : Int32) μ)))
set_option maxHeartbeats 4000000 in
set_option maxRecDepth 100000 in
theorem cm_X6_fence (l : Launch) (G : xG) (ad : Nat → Nat) (hI : xI 36 ad) (n : Nat) (a1 : Int32) (a2 : Int32) (μ : xM) (K : Int32 → xM → Prop) (hf : wp_X6_fence n a1 a2 μ K) : Met l yX6_fence (Cond.code yX6_fence cX6_fence 4 (some .int) :: xw_all) (rmo 2 42) (va_Pc [.ref (ad 0), .int a1, .int a2] (xPre cS 36 G ad μ)) (xQi cS 36 G ad K) 0 0 (xR 36 ad) := by
  refine x_ent (nL := 4) (own := RX6) (by decide) rfl hI (Nat.le_of_ble_eq_true rfl) ?_
  intro p e s m args below meth c H locs ls Q X hr hlk hQ M hl
  have hx := X.1.1
  have hb := X.1.2.1
  have hown := X.1.2.2.2.1
  have hts := X.1.2.2.2.2
  have hl : lv_has ls 4 [(0, .ref (ad 0)), (1, .int a1), (2, .int a2)] := hl
  unfold wp_X6_fence at hf
  refine lv_aload_n hx hb dX6_fence_0 rfl (lv_at hl 0 rfl) ?_
  refine lv_iload_n hx hb dX6_fence_1 rfl (lv_at hl 1 rfl) ?_
  refine x_ciP (x_rV (As := [.int a1]) (rest := []) X M (cm_X6_isStatue l G ad hI n a1 μ _ hf) mc_X6_isStatue mv_X6_isStatue lk_X6_74 mn_X6_isStatue rgc_0 rfl hl ⟨⟨Nat.le_of_ble_eq_true rfl, Nat.le_of_ble_eq_true rfl⟩, rfl, Nat.le_of_ble_eq_true rfl, Nat.zero_le _, Nat.zero_le _⟩ rfl dX6_fence_2) M (fun r_2 H locs hf M => ?_)
  try dsimp only at hf
  refine lv_if_ne (tgt := 10) hx hb dX6_fence_5 (by decide) (fun c_5 => ?_) (fun c_5 => ?_)
  · replace hf := hf.1 c_5
    refine lv_aload_n hx hb dX6_fence_10 rfl (lv_at hl 0 rfl) ?_
    refine x_getR (r := 10) X M rgc_0 fd_X6_21 rfl dX6_fence_11 ?_
    refine x_getR (r := 11) X M rgc_10 fd_X6_77 rfl dX6_fence_14 ?_
    refine lv_iload_n hx hb dX6_fence_17 rfl (lv_at hl 1 rfl) ?_
    obtain ⟨g_18, hf⟩ := hf
    refine x_ald X M rgc_11 rfl g_18 dX6_fence_18 ?_
    refine lv_astore_n (lv' := [(3, .ref (ad (17 + a1.toNatClampNeg))), (0, .ref (ad 0)), (1, .int a1), (2, .int a2)]) hx hb dX6_fence_19 rfl hl (by decide) rfl (fun ls hl => ?_)
    refine lv_aload_n hx hb dX6_fence_20 rfl (lv_at hl 0 rfl) ?_
    refine x_getI X M (rgc_17 (vp_lt g_18)) fd_X6_96 rfl dX6_fence_21 ?_
    refine lv_iload_n hx hb dX6_fence_24 rfl (lv_at hl 3 rfl) ?_
    refine lv_icmp_ne (tgt := 30) hx hb dX6_fence_25 (by decide) (fun c_25 => ?_) (fun c_25 => ?_)
    · replace hf := hf.1 c_25
      refine lv_aload_n hx hb dX6_fence_30 rfl (lv_at hl 0 rfl) ?_
      refine lv_iload_n hx hb dX6_fence_31 rfl (lv_at hl 3 rfl) ?_
      obtain ⟨g_32, hf⟩ := hf
      refine x_putZ X M (rgc_17 (vp_lt g_18)) fp_X6_96 rfl g_32 dX6_fence_32 (fun m_32 H locs em_32 M => ?_)
      replace hf := hf m_32 em_32
      refine lv_aload_n hx hb dX6_fence_35 rfl (lv_at hl 1 rfl) ?_
      refine x_getR (r := 10) X M rgc_0 fd_X6_21 rfl dX6_fence_36 ?_
      refine lv_iconst (v := (0 : Int32)) hx hb dX6_fence_39 (by decide) ?_
      refine x_cv (x_rVN (As := [.int (0 : Int32)]) (rest := []) X M (cm_X5_forgetFrom l G ad hI n (0 : Int32) m_32 _ hf) mc_X5_forgetFrom mv_X5_forgetFrom ln_X6_103 mn_X5_forgetFrom rgc_10 rfl hl ⟨⟨Nat.le_of_ble_eq_true rfl, Nat.le_of_ble_eq_true rfl⟩, rfl, Nat.le_of_ble_eq_true rfl, Nat.zero_le _, Nat.zero_le _⟩ rfl dX6_fence_40) M (fun m_40 H locs hf M => ?_)
      try dsimp only at hf
      refine lv_iconst (v := (1 : Int32)) hx hb dX6_fence_43 (by decide) ?_
      rw [hQ]
      exact x_iret X M hr hlk dX6_fence_44 hf
    · replace hf := hf.2 c_25
      refine lv_iconst (v := (0 : Int32)) hx hb dX6_fence_28 (by decide) ?_
      rw [hQ]
      exact x_iret X M hr hlk dX6_fence_29 hf
  · replace hf := hf.2 c_5
    refine lv_iconst (v := ((-1) : Int32)) hx hb dX6_fence_8 (by decide) ?_
    rw [hQ]
    exact x_iret X M hr hlk dX6_fence_9 hf
def wp_X6_rain (n : Nat) (a1 : Int32) (a2 : Int32) (a3 : Int32) (μ : xM) (K : Int32 → xM → Prop) : Prop :=
  wp_X6_isBelow n a1 (60 : Int32) μ (fun r_3 : Int32 => ((r_3 = 0 → K ((-2) : Int32) μ) ∧ (¬ r_3 = 0 → wp_X6_isBelow n a2 (10 : Int32) μ (fun r_12 : Int32 => ((r_12 = 0 → K ((-2) : Int32) μ) ∧ (¬ r_12 = 0 → wp_X6_isBelow n a3 (4 : Int32) μ (fun r_20 : Int32 => ((¬ r_20 = 0 → ((¬ (μ 10 6) = 0 → (vp_in a1 60 ∧ (vp_in a1 60 ∧ (∀ x4_64 : Int32, x4_64 = ((10 : Int32) * (μ 12 a1.toNatClampNeg)) + (μ 13 a1.toNatClampNeg) → wp_X5_letRain n a1 a2 μ (fun m_72 : xM => (vp_in a1 60 ∧ (∀ m_84 : xM, m_84 = xu m_72 13 a1.toNatClampNeg a3 → K x4_64 m_84))))))) ∧ ((μ 10 6) = 0 → K ((-3) : Int32) μ))) ∧ (r_20 = 0 → K ((-2) : Int32) μ)))))))))
set_option maxHeartbeats 4000000 in
set_option maxRecDepth 100000 in
theorem cm_X6_rain (l : Launch) (G : xG) (ad : Nat → Nat) (hI : xI 36 ad) (n : Nat) (a1 : Int32) (a2 : Int32) (a3 : Int32) (μ : xM) (K : Int32 → xM → Prop) (hf : wp_X6_rain n a1 a2 a3 μ K) : Met l yX6_rain (Cond.code yX6_rain cX6_rain 5 (some .int) :: xw_all) (rmo 3 64) (va_Pc [.ref (ad 0), .int a1, .int a2, .int a3] (xPre cS 36 G ad μ)) (xQi cS 36 G ad K) 0 0 (xR 36 ad) := by
  refine x_ent (nL := 5) (own := RX6) (by decide) rfl hI (Nat.le_of_ble_eq_true rfl) ?_
  intro p e s m args below meth c H locs ls Q X hr hlk hQ M hl
  have hx := X.1.1
  have hb := X.1.2.1
  have hown := X.1.2.2.2.1
  have hts := X.1.2.2.2.2
  have hl : lv_has ls 5 [(0, .ref (ad 0)), (1, .int a1), (2, .int a2), (3, .int a3)] := hl
  unfold wp_X6_rain at hf
  refine lv_iload_n hx hb dX6_rain_0 rfl (lv_at hl 1 rfl) ?_
  refine lv_bipush (v := (60 : Int32)) hx hb dX6_rain_1 (by decide) ?_
  refine x_ciP (x_rS (As := [.int a1, .int (60 : Int32)]) (rest := []) X M (cm_X6_isBelow l G ad hI n a1 (60 : Int32) μ _ hf) mc_X6_isBelow ms_X6_isBelow lk_X6_100 mn_X6_isBelow hl ⟨⟨Nat.le_of_ble_eq_true rfl, Nat.le_of_ble_eq_true rfl⟩, rfl, Nat.le_of_ble_eq_true rfl, Nat.zero_le _, Nat.zero_le _⟩ rfl dX6_rain_3) M (fun r_3 H locs hf M => ?_)
  try dsimp only at hf
  refine lv_if_eq (tgt := 26) hx hb dX6_rain_6 (by decide) (fun c_6 => ?_) (fun c_6 => ?_)
  · replace hf := hf.1 c_6
    refine lv_bipush (v := ((-2) : Int32)) hx hb dX6_rain_26 (by decide) ?_
    rw [hQ]
    exact x_iret X M hr hlk dX6_rain_28 hf
  · replace hf := hf.2 c_6
    refine lv_iload_n hx hb dX6_rain_9 rfl (lv_at hl 2 rfl) ?_
    refine lv_bipush (v := (10 : Int32)) hx hb dX6_rain_10 (by decide) ?_
    refine x_ciP (x_rS (As := [.int a2, .int (10 : Int32)]) (rest := []) X M (cm_X6_isBelow l G ad hI n a2 (10 : Int32) μ _ hf) mc_X6_isBelow ms_X6_isBelow lk_X6_100 mn_X6_isBelow hl ⟨⟨Nat.le_of_ble_eq_true rfl, Nat.le_of_ble_eq_true rfl⟩, rfl, Nat.le_of_ble_eq_true rfl, Nat.zero_le _, Nat.zero_le _⟩ rfl dX6_rain_12) M (fun r_12 H locs hf M => ?_)
    try dsimp only at hf
    refine lv_if_eq (tgt := 26) hx hb dX6_rain_15 (by decide) (fun c_15 => ?_) (fun c_15 => ?_)
    · replace hf := hf.1 c_15
      refine lv_bipush (v := ((-2) : Int32)) hx hb dX6_rain_26 (by decide) ?_
      rw [hQ]
      exact x_iret X M hr hlk dX6_rain_28 hf
    · replace hf := hf.2 c_15
      refine lv_iload_n hx hb dX6_rain_18 rfl (lv_at hl 3 rfl) ?_
      refine lv_iconst (v := (4 : Int32)) hx hb dX6_rain_19 (by decide) ?_
      refine x_ciP (x_rS (As := [.int a3, .int (4 : Int32)]) (rest := []) X M (cm_X6_isBelow l G ad hI n a3 (4 : Int32) μ _ hf) mc_X6_isBelow ms_X6_isBelow lk_X6_100 mn_X6_isBelow hl ⟨⟨Nat.le_of_ble_eq_true rfl, Nat.le_of_ble_eq_true rfl⟩, rfl, Nat.le_of_ble_eq_true rfl, Nat.zero_le _, Nat.zero_le _⟩ rfl dX6_rain_20) M (fun r_20 H locs hf M => ?_)
      try dsimp only at hf
      refine lv_if_ne (tgt := 29) hx hb dX6_rain_23 (by decide) (fun c_23 => ?_) (fun c_23 => ?_)
      · replace hf := hf.1 c_23
        refine lv_aload_n hx hb dX6_rain_29 rfl (lv_at hl 0 rfl) ?_
        refine x_getR (r := 10) X M rgc_0 fd_X6_21 rfl dX6_rain_30 ?_
        refine x_getI X M rgc_10 fd_X6_71 rfl dX6_rain_33 ?_
        refine lv_if_ne (tgt := 42) hx hb dX6_rain_36 (by decide) (fun c_36 => ?_) (fun c_36 => ?_)
        · replace hf := hf.1 c_36
          refine lv_bipush (v := (10 : Int32)) hx hb dX6_rain_42 (by decide) ?_
          refine lv_aload_n hx hb dX6_rain_44 rfl (lv_at hl 0 rfl) ?_
          refine x_getR (r := 10) X M rgc_0 fd_X6_21 rfl dX6_rain_45 ?_
          refine x_getR (r := 12) X M rgc_10 fd_X6_106 rfl dX6_rain_48 ?_
          refine lv_iload_n hx hb dX6_rain_51 rfl (lv_at hl 1 rfl) ?_
          obtain ⟨g_52, hf⟩ := hf
          refine x_ild X M rgc_12 g_52 dX6_rain_52 ?_
          refine lv_imul hx hb dX6_rain_53 ?_
          refine lv_aload_n hx hb dX6_rain_54 rfl (lv_at hl 0 rfl) ?_
          refine x_getR (r := 10) X M rgc_0 fd_X6_21 rfl dX6_rain_55 ?_
          refine x_getR (r := 13) X M rgc_10 fd_X6_109 rfl dX6_rain_58 ?_
          refine lv_iload_n hx hb dX6_rain_61 rfl (lv_at hl 1 rfl) ?_
          obtain ⟨g_62, hf⟩ := hf
          refine x_ild X M rgc_13 g_62 dX6_rain_62 ?_
          refine lv_iadd hx hb dX6_rain_63 ?_
          refine lv_topi (fun x4_64 ex4_64 => ?_)
          replace hf := hf x4_64 ex4_64
          refine lv_istore (lv' := [(4, .int x4_64), (0, .ref (ad 0)), (1, .int a1), (2, .int a2), (3, .int a3)]) hx hb dX6_rain_64 hl (by decide) rfl (fun ls hl => ?_)
          refine lv_aload_n hx hb dX6_rain_66 rfl (lv_at hl 1 rfl) ?_
          refine x_getR (r := 10) X M rgc_0 fd_X6_21 rfl dX6_rain_67 ?_
          refine lv_iload_n hx hb dX6_rain_70 rfl (lv_at hl 2 rfl) ?_
          refine lv_iload_n hx hb dX6_rain_71 rfl (lv_at hl 3 rfl) ?_
          refine x_cv (x_rVN (As := [.int a1, .int a2]) (rest := []) X M (cm_X5_letRain l G ad hI n a1 a2 μ _ hf) mc_X5_letRain mv_X5_letRain ln_X6_112 mn_X5_letRain rgc_10 rfl hl ⟨⟨Nat.le_of_ble_eq_true rfl, Nat.le_of_ble_eq_true rfl⟩, rfl, Nat.le_of_ble_eq_true rfl, Nat.zero_le _, Nat.zero_le _⟩ rfl dX6_rain_72) M (fun m_72 H locs hf M => ?_)
          try dsimp only at hf
          refine lv_aload_n hx hb dX6_rain_75 rfl (lv_at hl 1 rfl) ?_
          refine x_getR (r := 10) X M rgc_0 fd_X6_21 rfl dX6_rain_76 ?_
          refine x_getR (r := 13) X M rgc_10 fd_X6_109 rfl dX6_rain_79 ?_
          refine lv_iload_n hx hb dX6_rain_82 rfl (lv_at hl 2 rfl) ?_
          refine lv_iload_n hx hb dX6_rain_83 rfl (lv_at hl 4 rfl) ?_
          obtain ⟨g_84, hf⟩ := hf
          refine x_ist X M rgc_13 g_84 dX6_rain_84 (fun m_84 H locs em_84 M => ?_)
          replace hf := hf m_84 em_84
          refine lv_iload hx hb dX6_rain_85 (lv_at hl 0 rfl) ?_
          rw [hQ]
          exact x_iret X M hr hlk dX6_rain_87 hf
        · replace hf := hf.2 c_36
          refine lv_bipush (v := ((-3) : Int32)) hx hb dX6_rain_39 (by decide) ?_
          rw [hQ]
          exact x_iret X M hr hlk dX6_rain_41 hf
      · replace hf := hf.2 c_23
        refine lv_bipush (v := ((-2) : Int32)) hx hb dX6_rain_26 (by decide) ?_
        rw [hQ]
        exact x_iret X M hr hlk dX6_rain_28 hf
def wp_X6_deer (n : Nat) (a1 : Int32) (μ : xM) (K : Int32 → xM → Prop) : Prop :=
  wp_X6_isBelow n a1 (10 : Int32) μ (fun r_3 : Int32 => ((¬ r_3 = 0 → ((¬ (μ 10 6) = 0 → (∀ x2_32 : Int32, x2_32 = μ 10 7 → (∀ m_38 : xM, m_38 = xu μ 10 7 a1 → wp_X5_forgetFrom n (0 : Int32) m_38 (fun m_46 : xM => K x2_32 m_46)))) ∧ ((μ 10 6) = 0 → K ((-3) : Int32) μ))) ∧ (r_3 = 0 → K ((-2) : Int32) μ)))
set_option maxHeartbeats 4000000 in
set_option maxRecDepth 100000 in
theorem cm_X6_deer (l : Launch) (G : xG) (ad : Nat → Nat) (hI : xI 36 ad) (n : Nat) (a1 : Int32) (μ : xM) (K : Int32 → xM → Prop) (hf : wp_X6_deer n a1 μ K) : Met l yX6_deer (Cond.code yX6_deer cX6_deer 3 (some .int) :: xw_all) (rmo 2 42) (va_Pc [.ref (ad 0), .int a1] (xPre cS 36 G ad μ)) (xQi cS 36 G ad K) 0 0 (xR 36 ad) := by
  refine x_ent (nL := 3) (own := RX6) (by decide) rfl hI (Nat.le_of_ble_eq_true rfl) ?_
  intro p e s m args below meth c H locs ls Q X hr hlk hQ M hl
  have hx := X.1.1
  have hb := X.1.2.1
  have hown := X.1.2.2.2.1
  have hts := X.1.2.2.2.2
  have hl : lv_has ls 3 [(0, .ref (ad 0)), (1, .int a1)] := hl
  unfold wp_X6_deer at hf
  refine lv_iload_n hx hb dX6_deer_0 rfl (lv_at hl 1 rfl) ?_
  refine lv_bipush (v := (10 : Int32)) hx hb dX6_deer_1 (by decide) ?_
  refine x_ciP (x_rS (As := [.int a1, .int (10 : Int32)]) (rest := []) X M (cm_X6_isBelow l G ad hI n a1 (10 : Int32) μ _ hf) mc_X6_isBelow ms_X6_isBelow lk_X6_100 mn_X6_isBelow hl ⟨⟨Nat.le_of_ble_eq_true rfl, Nat.le_of_ble_eq_true rfl⟩, rfl, Nat.le_of_ble_eq_true rfl, Nat.zero_le _, Nat.zero_le _⟩ rfl dX6_deer_3) M (fun r_3 H locs hf M => ?_)
  try dsimp only at hf
  refine lv_if_ne (tgt := 12) hx hb dX6_deer_6 (by decide) (fun c_6 => ?_) (fun c_6 => ?_)
  · replace hf := hf.1 c_6
    refine lv_aload_n hx hb dX6_deer_12 rfl (lv_at hl 0 rfl) ?_
    refine x_getR (r := 10) X M rgc_0 fd_X6_21 rfl dX6_deer_13 ?_
    refine x_getI X M rgc_10 fd_X6_71 rfl dX6_deer_16 ?_
    refine lv_if_ne (tgt := 25) hx hb dX6_deer_19 (by decide) (fun c_19 => ?_) (fun c_19 => ?_)
    · replace hf := hf.1 c_19
      refine lv_aload_n hx hb dX6_deer_25 rfl (lv_at hl 0 rfl) ?_
      refine x_getR (r := 10) X M rgc_0 fd_X6_21 rfl dX6_deer_26 ?_
      refine x_getI X M rgc_10 fd_X6_116 rfl dX6_deer_29 ?_
      refine lv_topi (fun x2_32 ex2_32 => ?_)
      replace hf := hf x2_32 ex2_32
      refine lv_istore_n (lv' := [(2, .int x2_32), (0, .ref (ad 0)), (1, .int a1)]) hx hb dX6_deer_32 rfl hl (by decide) rfl (fun ls hl => ?_)
      refine lv_aload_n hx hb dX6_deer_33 rfl (lv_at hl 1 rfl) ?_
      refine x_getR (r := 10) X M rgc_0 fd_X6_21 rfl dX6_deer_34 ?_
      refine lv_iload_n hx hb dX6_deer_37 rfl (lv_at hl 2 rfl) ?_
      refine x_putI X M rgc_10 fp_X6_116 rfl dX6_deer_38 (fun m_38 H locs em_38 M => ?_)
      replace hf := hf m_38 em_38
      refine lv_aload_n hx hb dX6_deer_41 rfl (lv_at hl 1 rfl) ?_
      refine x_getR (r := 10) X M rgc_0 fd_X6_21 rfl dX6_deer_42 ?_
      refine lv_iconst (v := (0 : Int32)) hx hb dX6_deer_45 (by decide) ?_
      refine x_cv (x_rVN (As := [.int (0 : Int32)]) (rest := []) X M (cm_X5_forgetFrom l G ad hI n (0 : Int32) m_38 _ hf) mc_X5_forgetFrom mv_X5_forgetFrom ln_X6_103 mn_X5_forgetFrom rgc_10 rfl hl ⟨⟨Nat.le_of_ble_eq_true rfl, Nat.le_of_ble_eq_true rfl⟩, rfl, Nat.le_of_ble_eq_true rfl, Nat.zero_le _, Nat.zero_le _⟩ rfl dX6_deer_46) M (fun m_46 H locs hf M => ?_)
      try dsimp only at hf
      refine lv_iload_n hx hb dX6_deer_49 rfl (lv_at hl 0 rfl) ?_
      rw [hQ]
      exact x_iret X M hr hlk dX6_deer_50 hf
    · replace hf := hf.2 c_19
      refine lv_bipush (v := ((-3) : Int32)) hx hb dX6_deer_22 (by decide) ?_
      rw [hQ]
      exact x_iret X M hr hlk dX6_deer_24 hf
  · replace hf := hf.2 c_6
    refine lv_bipush (v := ((-2) : Int32)) hx hb dX6_deer_9 (by decide) ?_
    rw [hQ]
    exact x_iret X M hr hlk dX6_deer_11 hf
def wp_X6_isDawn (n : Nat) (a0 : Int32) (μ : xM) (K : Int32 → Prop) : Prop :=
  wp_X6_isBelow n a0 (61 : Int32) μ (fun r_3 : Int32 => xb r_3 ∧ K r_3)
set_option maxHeartbeats 4000000 in
set_option maxRecDepth 100000 in
theorem cm_X6_isDawn (l : Launch) (G : xG) (ad : Nat → Nat) (hI : xI 36 ad) (n : Nat) (a0 : Int32) (μ : xM) (K : Int32 → Prop) (hf : wp_X6_isDawn n a0 μ K) : Met l yX6_isDawn (Cond.code yX6_isDawn cX6_isDawn 1 (some .boolean) :: xw_all) (rmo 1 21) (va_Pc [.int a0] (xPre cS 36 G ad μ)) (xQi cS 36 G ad (fun r u => K r ∧ u = μ)) 0 0 (xR 36 ad) := by
  refine x_ent (nL := 1) (own := RX6) (by decide) rfl hI (Nat.le_of_ble_eq_true rfl) ?_
  intro p e s m args below meth c H locs ls Q X hr hlk hQ M hl
  have hx := X.1.1
  have hb := X.1.2.1
  have hown := X.1.2.2.2.1
  have hts := X.1.2.2.2.2
  have hl : lv_has ls 1 [(0, .int a0)] := hl
  unfold wp_X6_isDawn at hf
  refine lv_iload_n hx hb dX6_isDawn_0 rfl (lv_at hl 0 rfl) ?_
  refine lv_bipush (v := (61 : Int32)) hx hb dX6_isDawn_1 (by decide) ?_
  refine x_ciP (x_rS (As := [.int a0, .int (61 : Int32)]) (rest := []) X M (cm_X6_isBelow l G ad hI n a0 (61 : Int32) μ _ hf) mc_X6_isBelow ms_X6_isBelow lk_X6_100 mn_X6_isBelow hl ⟨⟨Nat.le_of_ble_eq_true rfl, Nat.le_of_ble_eq_true rfl⟩, rfl, Nat.le_of_ble_eq_true rfl, Nat.zero_le _, Nat.zero_le _⟩ rfl dX6_isDawn_3) M (fun r_3 H locs hf M => ?_)
  try dsimp only at hf
  obtain ⟨g_6, hf⟩ := hf
  rw [hQ]
  exact x_zret X M hr hlk g_6 dX6_isDawn_6 ⟨hf, rfl⟩
def wp_X6_grains (n : Nat) (a1 : Int32) (a2 : Int32) (a3 : Int32) (μ : xM) (K : Int32 → xM → Prop) : Prop :=
  wp_X6_isStatue n a1 μ (fun r_2 : Int32 => ((r_2 = 0 → K ((-1) : Int32) μ) ∧ (¬ r_2 = 0 → wp_X6_isBelow n a2 (3 : Int32) μ (fun r_10 : Int32 => ((¬ r_10 = 0 → wp_X6_isDawn n a3 μ (fun r_19 : Int32 => ((¬ r_19 = 0 → wp_X5_leftOfPart n a1 a2 a3 μ (fun (r_35 : Int32) (m_35 : xM) => K r_35 m_35)) ∧ (r_19 = 0 → K ((-2) : Int32) μ)))) ∧ (r_10 = 0 → K ((-1) : Int32) μ))))))
set_option maxHeartbeats 4000000 in
set_option maxRecDepth 100000 in
theorem cm_X6_grains (l : Launch) (G : xG) (ad : Nat → Nat) (hI : xI 36 ad) (n : Nat) (a1 : Int32) (a2 : Int32) (a3 : Int32) (μ : xM) (K : Int32 → xM → Prop) (hf : wp_X6_grains n a1 a2 a3 μ K) : Met l yX6_grains (Cond.code yX6_grains cX6_grains 4 (some .int) :: xw_all) (rmo 5 117) (va_Pc [.ref (ad 0), .int a1, .int a2, .int a3] (xPre cS 36 G ad μ)) (xQi cS 36 G ad K) 0 0 (xR 36 ad) := by
  refine x_ent (nL := 4) (own := RX6) (by decide) rfl hI (Nat.le_of_ble_eq_true rfl) ?_
  intro p e s m args below meth c H locs ls Q X hr hlk hQ M hl
  have hx := X.1.1
  have hb := X.1.2.1
  have hown := X.1.2.2.2.1
  have hts := X.1.2.2.2.2
  have hl : lv_has ls 4 [(0, .ref (ad 0)), (1, .int a1), (2, .int a2), (3, .int a3)] := hl
  unfold wp_X6_grains at hf
  refine lv_aload_n hx hb dX6_grains_0 rfl (lv_at hl 0 rfl) ?_
  refine lv_iload_n hx hb dX6_grains_1 rfl (lv_at hl 1 rfl) ?_
  refine x_ciP (x_rV (As := [.int a1]) (rest := []) X M (cm_X6_isStatue l G ad hI n a1 μ _ hf) mc_X6_isStatue mv_X6_isStatue lk_X6_74 mn_X6_isStatue rgc_0 rfl hl ⟨⟨Nat.le_of_ble_eq_true rfl, Nat.le_of_ble_eq_true rfl⟩, rfl, Nat.le_of_ble_eq_true rfl, Nat.zero_le _, Nat.zero_le _⟩ rfl dX6_grains_2) M (fun r_2 H locs hf M => ?_)
  try dsimp only at hf
  refine lv_if_eq (tgt := 16) hx hb dX6_grains_5 (by decide) (fun c_5 => ?_) (fun c_5 => ?_)
  · replace hf := hf.1 c_5
    refine lv_iconst (v := ((-1) : Int32)) hx hb dX6_grains_16 (by decide) ?_
    rw [hQ]
    exact x_iret X M hr hlk dX6_grains_17 hf
  · replace hf := hf.2 c_5
    refine lv_iload_n hx hb dX6_grains_8 rfl (lv_at hl 2 rfl) ?_
    refine lv_iconst (v := (3 : Int32)) hx hb dX6_grains_9 (by decide) ?_
    refine x_ciP (x_rS (As := [.int a2, .int (3 : Int32)]) (rest := []) X M (cm_X6_isBelow l G ad hI n a2 (3 : Int32) μ _ hf) mc_X6_isBelow ms_X6_isBelow lk_X6_100 mn_X6_isBelow hl ⟨⟨Nat.le_of_ble_eq_true rfl, Nat.le_of_ble_eq_true rfl⟩, rfl, Nat.le_of_ble_eq_true rfl, Nat.zero_le _, Nat.zero_le _⟩ rfl dX6_grains_10) M (fun r_10 H locs hf M => ?_)
    try dsimp only at hf
    refine lv_if_ne (tgt := 18) hx hb dX6_grains_13 (by decide) (fun c_13 => ?_) (fun c_13 => ?_)
    · replace hf := hf.1 c_13
      refine lv_iload_n hx hb dX6_grains_18 rfl (lv_at hl 3 rfl) ?_
      refine x_ciP (x_rS (As := [.int a3]) (rest := []) X M (cm_X6_isDawn l G ad hI n a3 μ _ hf) mc_X6_isDawn ms_X6_isDawn lk_X6_119 mn_X6_isDawn hl ⟨⟨Nat.le_of_ble_eq_true rfl, Nat.le_of_ble_eq_true rfl⟩, rfl, Nat.le_of_ble_eq_true rfl, Nat.zero_le _, Nat.zero_le _⟩ rfl dX6_grains_19) M (fun r_19 H locs hf M => ?_)
      try dsimp only at hf
      refine lv_if_ne (tgt := 28) hx hb dX6_grains_22 (by decide) (fun c_22 => ?_) (fun c_22 => ?_)
      · replace hf := hf.1 c_22
        refine lv_aload_n hx hb dX6_grains_28 rfl (lv_at hl 0 rfl) ?_
        refine x_getR (r := 10) X M rgc_0 fd_X6_21 rfl dX6_grains_29 ?_
        refine lv_iload_n hx hb dX6_grains_32 rfl (lv_at hl 1 rfl) ?_
        refine lv_iload_n hx hb dX6_grains_33 rfl (lv_at hl 2 rfl) ?_
        refine lv_iload_n hx hb dX6_grains_34 rfl (lv_at hl 3 rfl) ?_
        refine x_ci (x_rVN (As := [.int a1, .int a2, .int a3]) (rest := []) X M (cm_X5_leftOfPart l G ad hI n a1 a2 a3 μ _ hf) mc_X5_leftOfPart mv_X5_leftOfPart ln_X6_122 mn_X5_leftOfPart rgc_10 rfl hl ⟨⟨Nat.le_of_ble_eq_true rfl, Nat.le_of_ble_eq_true rfl⟩, rfl, Nat.le_of_ble_eq_true rfl, Nat.zero_le _, Nat.zero_le _⟩ rfl dX6_grains_35) M (fun r_35 m_35 H locs hf M => ?_)
        try dsimp only at hf
        rw [hQ]
        exact x_iret X M hr hlk dX6_grains_38 hf
      · replace hf := hf.2 c_22
        refine lv_bipush (v := ((-2) : Int32)) hx hb dX6_grains_25 (by decide) ?_
        rw [hQ]
        exact x_iret X M hr hlk dX6_grains_27 hf
    · replace hf := hf.2 c_13
      refine lv_iconst (v := ((-1) : Int32)) hx hb dX6_grains_16 (by decide) ?_
      rw [hQ]
      exact x_iret X M hr hlk dX6_grains_17 hf
def wp_X6_lost (n : Nat) (a1 : Int32) (a2 : Int32) (a3 : Int32) (μ : xM) (K : Int32 → xM → Prop) : Prop :=
  wp_X6_isStatue n a1 μ (fun r_2 : Int32 => ((¬ r_2 = 0 → wp_X6_isDawn n a2 μ (fun r_11 : Int32 => ((r_11 = 0 → K ((-2) : Int32) μ) ∧ (¬ r_11 = 0 → wp_X6_isBelow n a3 (2 : Int32) μ (fun r_19 : Int32 => ((¬ r_19 = 0 → ((¬ a3 = 0 → wp_X5_lickedOff n a1 a2 μ (fun (r_50 : Int32) (m_50 : xM) => K r_50 m_50)) ∧ (a3 = 0 → wp_X5_inPuddle n a1 a2 μ (fun (r_38 : Int32) (m_38 : xM) => K r_38 m_38)))) ∧ (r_19 = 0 → K ((-2) : Int32) μ))))))) ∧ (r_2 = 0 → K ((-1) : Int32) μ)))
set_option maxHeartbeats 4000000 in
set_option maxRecDepth 100000 in
theorem cm_X6_lost (l : Launch) (G : xG) (ad : Nat → Nat) (hI : xI 36 ad) (n : Nat) (a1 : Int32) (a2 : Int32) (a3 : Int32) (μ : xM) (K : Int32 → xM → Prop) (hf : wp_X6_lost n a1 a2 a3 μ K) : Met l yX6_lost (Cond.code yX6_lost cX6_lost 4 (some .int) :: xw_all) (rmo 6 138) (va_Pc [.ref (ad 0), .int a1, .int a2, .int a3] (xPre cS 36 G ad μ)) (xQi cS 36 G ad K) 0 0 (xR 36 ad) := by
  refine x_ent (nL := 4) (own := RX6) (by decide) rfl hI (Nat.le_of_ble_eq_true rfl) ?_
  intro p e s m args below meth c H locs ls Q X hr hlk hQ M hl
  have hx := X.1.1
  have hb := X.1.2.1
  have hown := X.1.2.2.2.1
  have hts := X.1.2.2.2.2
  have hl : lv_has ls 4 [(0, .ref (ad 0)), (1, .int a1), (2, .int a2), (3, .int a3)] := hl
  unfold wp_X6_lost at hf
  refine lv_aload_n hx hb dX6_lost_0 rfl (lv_at hl 0 rfl) ?_
  refine lv_iload_n hx hb dX6_lost_1 rfl (lv_at hl 1 rfl) ?_
  refine x_ciP (x_rV (As := [.int a1]) (rest := []) X M (cm_X6_isStatue l G ad hI n a1 μ _ hf) mc_X6_isStatue mv_X6_isStatue lk_X6_74 mn_X6_isStatue rgc_0 rfl hl ⟨⟨Nat.le_of_ble_eq_true rfl, Nat.le_of_ble_eq_true rfl⟩, rfl, Nat.le_of_ble_eq_true rfl, Nat.zero_le _, Nat.zero_le _⟩ rfl dX6_lost_2) M (fun r_2 H locs hf M => ?_)
  try dsimp only at hf
  refine lv_if_ne (tgt := 10) hx hb dX6_lost_5 (by decide) (fun c_5 => ?_) (fun c_5 => ?_)
  · replace hf := hf.1 c_5
    refine lv_iload_n hx hb dX6_lost_10 rfl (lv_at hl 2 rfl) ?_
    refine x_ciP (x_rS (As := [.int a2]) (rest := []) X M (cm_X6_isDawn l G ad hI n a2 μ _ hf) mc_X6_isDawn ms_X6_isDawn lk_X6_119 mn_X6_isDawn hl ⟨⟨Nat.le_of_ble_eq_true rfl, Nat.le_of_ble_eq_true rfl⟩, rfl, Nat.le_of_ble_eq_true rfl, Nat.zero_le _, Nat.zero_le _⟩ rfl dX6_lost_11) M (fun r_11 H locs hf M => ?_)
    try dsimp only at hf
    refine lv_if_eq (tgt := 25) hx hb dX6_lost_14 (by decide) (fun c_14 => ?_) (fun c_14 => ?_)
    · replace hf := hf.1 c_14
      refine lv_bipush (v := ((-2) : Int32)) hx hb dX6_lost_25 (by decide) ?_
      rw [hQ]
      exact x_iret X M hr hlk dX6_lost_27 hf
    · replace hf := hf.2 c_14
      refine lv_iload_n hx hb dX6_lost_17 rfl (lv_at hl 3 rfl) ?_
      refine lv_iconst (v := (2 : Int32)) hx hb dX6_lost_18 (by decide) ?_
      refine x_ciP (x_rS (As := [.int a3, .int (2 : Int32)]) (rest := []) X M (cm_X6_isBelow l G ad hI n a3 (2 : Int32) μ _ hf) mc_X6_isBelow ms_X6_isBelow lk_X6_100 mn_X6_isBelow hl ⟨⟨Nat.le_of_ble_eq_true rfl, Nat.le_of_ble_eq_true rfl⟩, rfl, Nat.le_of_ble_eq_true rfl, Nat.zero_le _, Nat.zero_le _⟩ rfl dX6_lost_19) M (fun r_19 H locs hf M => ?_)
      try dsimp only at hf
      refine lv_if_ne (tgt := 28) hx hb dX6_lost_22 (by decide) (fun c_22 => ?_) (fun c_22 => ?_)
      · replace hf := hf.1 c_22
        refine lv_iload_n hx hb dX6_lost_28 rfl (lv_at hl 3 rfl) ?_
        refine lv_if_ne (tgt := 44) hx hb dX6_lost_29 (by decide) (fun c_29 => ?_) (fun c_29 => ?_)
        · replace hf := hf.1 c_29
          refine lv_aload_n hx hb dX6_lost_44 rfl (lv_at hl 0 rfl) ?_
          refine x_getR (r := 10) X M rgc_0 fd_X6_21 rfl dX6_lost_45 ?_
          refine lv_iload_n hx hb dX6_lost_48 rfl (lv_at hl 1 rfl) ?_
          refine lv_iload_n hx hb dX6_lost_49 rfl (lv_at hl 2 rfl) ?_
          refine x_ci (x_rVN (As := [.int a1, .int a2]) (rest := []) X M (cm_X5_lickedOff l G ad hI n a1 a2 μ _ hf) mc_X5_lickedOff mv_X5_lickedOff ln_X6_130 mn_X5_lickedOff rgc_10 rfl hl ⟨⟨Nat.le_of_ble_eq_true rfl, Nat.le_of_ble_eq_true rfl⟩, rfl, Nat.le_of_ble_eq_true rfl, Nat.zero_le _, Nat.zero_le _⟩ rfl dX6_lost_50) M (fun r_50 m_50 H locs hf M => ?_)
          try dsimp only at hf
          rw [hQ]
          exact x_iret X M hr hlk dX6_lost_53 hf
        · replace hf := hf.2 c_29
          refine lv_aload_n hx hb dX6_lost_32 rfl (lv_at hl 0 rfl) ?_
          refine x_getR (r := 10) X M rgc_0 fd_X6_21 rfl dX6_lost_33 ?_
          refine lv_iload_n hx hb dX6_lost_36 rfl (lv_at hl 1 rfl) ?_
          refine lv_iload_n hx hb dX6_lost_37 rfl (lv_at hl 2 rfl) ?_
          refine x_ci (x_rVN (As := [.int a1, .int a2]) (rest := []) X M (cm_X5_inPuddle l G ad hI n a1 a2 μ _ hf) mc_X5_inPuddle mv_X5_inPuddle ln_X6_126 mn_X5_inPuddle rgc_10 rfl hl ⟨⟨Nat.le_of_ble_eq_true rfl, Nat.le_of_ble_eq_true rfl⟩, rfl, Nat.le_of_ble_eq_true rfl, Nat.zero_le _, Nat.zero_le _⟩ rfl dX6_lost_38) M (fun r_38 m_38 H locs hf M => ?_)
          try dsimp only at hf
          refine lv_goto (tgt := 53) hx hb dX6_lost_41 (by decide) ?_
          rw [hQ]
          exact x_iret X M hr hlk dX6_lost_53 hf
      · replace hf := hf.2 c_22
        refine lv_bipush (v := ((-2) : Int32)) hx hb dX6_lost_25 (by decide) ?_
        rw [hQ]
        exact x_iret X M hr hlk dX6_lost_27 hf
  · replace hf := hf.2 c_5
    refine lv_iconst (v := ((-1) : Int32)) hx hb dX6_lost_8 (by decide) ?_
    rw [hQ]
    exact x_iret X M hr hlk dX6_lost_9 hf
def wp_X6_gone (n : Nat) (a1 : Int32) (a2 : Int32) (μ : xM) (K : Int32 → xM → Prop) : Prop :=
  wp_X6_isStatue n a1 μ (fun r_2 : Int32 => ((r_2 = 0 → K ((-1) : Int32) μ) ∧ (¬ r_2 = 0 → wp_X6_isBelow n a2 (4 : Int32) μ (fun r_10 : Int32 => ((¬ r_10 = 0 → (((3 : Int32) ≤ a2 → wp_X5_dawnWithoutAny n a1 μ (fun (r_40 : Int32) (m_40 : xM) => ((¬ r_40 = (61 : Int32) → K r_40 m_40) ∧ (r_40 = (61 : Int32) → K ((-9) : Int32) m_40)))) ∧ (¬ (3 : Int32) ≤ a2 → wp_X5_dawnWithoutPart n a1 a2 μ (fun (r_29 : Int32) (m_29 : xM) => ((¬ r_29 = (61 : Int32) → K r_29 m_29) ∧ (r_29 = (61 : Int32) → K ((-9) : Int32) m_29)))))) ∧ (r_10 = 0 → K ((-1) : Int32) μ))))))
set_option maxHeartbeats 4000000 in
set_option maxRecDepth 100000 in
theorem cm_X6_gone (l : Launch) (G : xG) (ad : Nat → Nat) (hI : xI 36 ad) (n : Nat) (a1 : Int32) (a2 : Int32) (μ : xM) (K : Int32 → xM → Prop) (hf : wp_X6_gone n a1 a2 μ K) : Met l yX6_gone (Cond.code yX6_gone cX6_gone 4 (some .int) :: xw_all) (rmo 5 117) (va_Pc [.ref (ad 0), .int a1, .int a2] (xPre cS 36 G ad μ)) (xQi cS 36 G ad K) 0 0 (xR 36 ad) := by
  refine x_ent (nL := 4) (own := RX6) (by decide) rfl hI (Nat.le_of_ble_eq_true rfl) ?_
  intro p e s m args below meth c H locs ls Q X hr hlk hQ M hl
  have hx := X.1.1
  have hb := X.1.2.1
  have hown := X.1.2.2.2.1
  have hts := X.1.2.2.2.2
  have hl : lv_has ls 4 [(0, .ref (ad 0)), (1, .int a1), (2, .int a2)] := hl
  unfold wp_X6_gone at hf
  refine lv_aload_n hx hb dX6_gone_0 rfl (lv_at hl 0 rfl) ?_
  refine lv_iload_n hx hb dX6_gone_1 rfl (lv_at hl 1 rfl) ?_
  refine x_ciP (x_rV (As := [.int a1]) (rest := []) X M (cm_X6_isStatue l G ad hI n a1 μ _ hf) mc_X6_isStatue mv_X6_isStatue lk_X6_74 mn_X6_isStatue rgc_0 rfl hl ⟨⟨Nat.le_of_ble_eq_true rfl, Nat.le_of_ble_eq_true rfl⟩, rfl, Nat.le_of_ble_eq_true rfl, Nat.zero_le _, Nat.zero_le _⟩ rfl dX6_gone_2) M (fun r_2 H locs hf M => ?_)
  try dsimp only at hf
  refine lv_if_eq (tgt := 16) hx hb dX6_gone_5 (by decide) (fun c_5 => ?_) (fun c_5 => ?_)
  · replace hf := hf.1 c_5
    refine lv_iconst (v := ((-1) : Int32)) hx hb dX6_gone_16 (by decide) ?_
    rw [hQ]
    exact x_iret X M hr hlk dX6_gone_17 hf
  · replace hf := hf.2 c_5
    refine lv_iload_n hx hb dX6_gone_8 rfl (lv_at hl 2 rfl) ?_
    refine lv_iconst (v := (4 : Int32)) hx hb dX6_gone_9 (by decide) ?_
    refine x_ciP (x_rS (As := [.int a2, .int (4 : Int32)]) (rest := []) X M (cm_X6_isBelow l G ad hI n a2 (4 : Int32) μ _ hf) mc_X6_isBelow ms_X6_isBelow lk_X6_100 mn_X6_isBelow hl ⟨⟨Nat.le_of_ble_eq_true rfl, Nat.le_of_ble_eq_true rfl⟩, rfl, Nat.le_of_ble_eq_true rfl, Nat.zero_le _, Nat.zero_le _⟩ rfl dX6_gone_10) M (fun r_10 H locs hf M => ?_)
    try dsimp only at hf
    refine lv_if_ne (tgt := 18) hx hb dX6_gone_13 (by decide) (fun c_13 => ?_) (fun c_13 => ?_)
    · replace hf := hf.1 c_13
      refine lv_iload_n hx hb dX6_gone_18 rfl (lv_at hl 2 rfl) ?_
      refine lv_iconst (v := (3 : Int32)) hx hb dX6_gone_19 (by decide) ?_
      refine lv_icmp_ge (tgt := 35) hx hb dX6_gone_20 (by decide) (fun c_20 => ?_) (fun c_20 => ?_)
      · replace hf := hf.1 c_20
        refine lv_aload_n hx hb dX6_gone_35 rfl (lv_at hl 0 rfl) ?_
        refine x_getR (r := 10) X M rgc_0 fd_X6_21 rfl dX6_gone_36 ?_
        refine lv_iload_n hx hb dX6_gone_39 rfl (lv_at hl 1 rfl) ?_
        refine x_ci (x_rVN (As := [.int a1]) (rest := []) X M (cm_X5_dawnWithoutAny l G ad hI n a1 μ _ hf) mc_X5_dawnWithoutAny mv_X5_dawnWithoutAny ln_X6_136 mn_X5_dawnWithoutAny rgc_10 rfl hl ⟨⟨Nat.le_of_ble_eq_true rfl, Nat.le_of_ble_eq_true rfl⟩, rfl, Nat.le_of_ble_eq_true rfl, Nat.zero_le _, Nat.zero_le _⟩ rfl dX6_gone_40) M (fun r_40 m_40 H locs hf M => ?_)
        try dsimp only at hf
        refine lv_istore_n (lv' := [(3, .int r_40), (0, .ref (ad 0)), (1, .int a1), (2, .int a2)]) hx hb dX6_gone_43 rfl hl (by decide) rfl (fun ls hl => ?_)
        refine lv_iload_n hx hb dX6_gone_44 rfl (lv_at hl 0 rfl) ?_
        refine lv_bipush (v := (61 : Int32)) hx hb dX6_gone_45 (by decide) ?_
        refine lv_icmp_ne (tgt := 55) hx hb dX6_gone_47 (by decide) (fun c_47 => ?_) (fun c_47 => ?_)
        · replace hf := hf.1 c_47
          refine lv_iload_n hx hb dX6_gone_55 rfl (lv_at hl 0 rfl) ?_
          rw [hQ]
          exact x_iret X M hr hlk dX6_gone_56 hf
        · replace hf := hf.2 c_47
          refine lv_bipush (v := ((-9) : Int32)) hx hb dX6_gone_50 (by decide) ?_
          refine lv_goto (tgt := 56) hx hb dX6_gone_52 (by decide) ?_
          rw [hQ]
          exact x_iret X M hr hlk dX6_gone_56 hf
      · replace hf := hf.2 c_20
        refine lv_aload_n hx hb dX6_gone_23 rfl (lv_at hl 0 rfl) ?_
        refine x_getR (r := 10) X M rgc_0 fd_X6_21 rfl dX6_gone_24 ?_
        refine lv_iload_n hx hb dX6_gone_27 rfl (lv_at hl 1 rfl) ?_
        refine lv_iload_n hx hb dX6_gone_28 rfl (lv_at hl 2 rfl) ?_
        refine x_ci (x_rVN (As := [.int a1, .int a2]) (rest := []) X M (cm_X5_dawnWithoutPart l G ad hI n a1 a2 μ _ hf) mc_X5_dawnWithoutPart mv_X5_dawnWithoutPart ln_X6_133 mn_X5_dawnWithoutPart rgc_10 rfl hl ⟨⟨Nat.le_of_ble_eq_true rfl, Nat.le_of_ble_eq_true rfl⟩, rfl, Nat.le_of_ble_eq_true rfl, Nat.zero_le _, Nat.zero_le _⟩ rfl dX6_gone_29) M (fun r_29 m_29 H locs hf M => ?_)
        try dsimp only at hf
        refine lv_goto (tgt := 43) hx hb dX6_gone_32 (by decide) ?_
        refine lv_istore_n (lv' := [(3, .int r_29), (0, .ref (ad 0)), (1, .int a1), (2, .int a2)]) hx hb dX6_gone_43 rfl hl (by decide) rfl (fun ls hl => ?_)
        refine lv_iload_n hx hb dX6_gone_44 rfl (lv_at hl 0 rfl) ?_
        refine lv_bipush (v := (61 : Int32)) hx hb dX6_gone_45 (by decide) ?_
        refine lv_icmp_ne (tgt := 55) hx hb dX6_gone_47 (by decide) (fun c_47 => ?_) (fun c_47 => ?_)
        · replace hf := hf.1 c_47
          refine lv_iload_n hx hb dX6_gone_55 rfl (lv_at hl 0 rfl) ?_
          rw [hQ]
          exact x_iret X M hr hlk dX6_gone_56 hf
        · replace hf := hf.2 c_47
          refine lv_bipush (v := ((-9) : Int32)) hx hb dX6_gone_50 (by decide) ?_
          refine lv_goto (tgt := 56) hx hb dX6_gone_52 (by decide) ?_
          rw [hQ]
          exact x_iret X M hr hlk dX6_gone_56 hf
    · replace hf := hf.2 c_13
      refine lv_iconst (v := ((-1) : Int32)) hx hb dX6_gone_16 (by decide) ?_
      rw [hQ]
      exact x_iret X M hr hlk dX6_gone_17 hf
def wp_X6_liked (n : Nat) (a1 : Int32) (μ : xM) (K : Int32 → xM → Prop) : Prop :=
  wp_X6_isBelow n a1 (60 : Int32) μ (fun r_3 : Int32 => ((¬ r_3 = 0 → ((¬ (μ 10 6) = 0 → wp_X5_likedFirst n a1 μ (fun (r_30 : Int32) (m_30 : xM) => K r_30 m_30)) ∧ ((μ 10 6) = 0 → K ((-3) : Int32) μ))) ∧ (r_3 = 0 → K ((-2) : Int32) μ)))
set_option maxHeartbeats 4000000 in
set_option maxRecDepth 100000 in
theorem cm_X6_liked (l : Launch) (G : xG) (ad : Nat → Nat) (hI : xI 36 ad) (n : Nat) (a1 : Int32) (μ : xM) (K : Int32 → xM → Prop) (hf : wp_X6_liked n a1 μ K) : Met l yX6_liked (Cond.code yX6_liked cX6_liked 2 (some .int) :: xw_all) (rmo 5 115) (va_Pc [.ref (ad 0), .int a1] (xPre cS 36 G ad μ)) (xQi cS 36 G ad K) 0 0 (xR 36 ad) := by
  refine x_ent (nL := 2) (own := RX6) (by decide) rfl hI (Nat.le_of_ble_eq_true rfl) ?_
  intro p e s m args below meth c H locs ls Q X hr hlk hQ M hl
  have hx := X.1.1
  have hb := X.1.2.1
  have hown := X.1.2.2.2.1
  have hts := X.1.2.2.2.2
  have hl : lv_has ls 2 [(0, .ref (ad 0)), (1, .int a1)] := hl
  unfold wp_X6_liked at hf
  refine lv_iload_n hx hb dX6_liked_0 rfl (lv_at hl 1 rfl) ?_
  refine lv_bipush (v := (60 : Int32)) hx hb dX6_liked_1 (by decide) ?_
  refine x_ciP (x_rS (As := [.int a1, .int (60 : Int32)]) (rest := []) X M (cm_X6_isBelow l G ad hI n a1 (60 : Int32) μ _ hf) mc_X6_isBelow ms_X6_isBelow lk_X6_100 mn_X6_isBelow hl ⟨⟨Nat.le_of_ble_eq_true rfl, Nat.le_of_ble_eq_true rfl⟩, rfl, Nat.le_of_ble_eq_true rfl, Nat.zero_le _, Nat.zero_le _⟩ rfl dX6_liked_3) M (fun r_3 H locs hf M => ?_)
  try dsimp only at hf
  refine lv_if_ne (tgt := 12) hx hb dX6_liked_6 (by decide) (fun c_6 => ?_) (fun c_6 => ?_)
  · replace hf := hf.1 c_6
    refine lv_aload_n hx hb dX6_liked_12 rfl (lv_at hl 0 rfl) ?_
    refine x_getR (r := 10) X M rgc_0 fd_X6_21 rfl dX6_liked_13 ?_
    refine x_getI X M rgc_10 fd_X6_71 rfl dX6_liked_16 ?_
    refine lv_if_ne (tgt := 25) hx hb dX6_liked_19 (by decide) (fun c_19 => ?_) (fun c_19 => ?_)
    · replace hf := hf.1 c_19
      refine lv_aload_n hx hb dX6_liked_25 rfl (lv_at hl 0 rfl) ?_
      refine x_getR (r := 10) X M rgc_0 fd_X6_21 rfl dX6_liked_26 ?_
      refine lv_iload_n hx hb dX6_liked_29 rfl (lv_at hl 1 rfl) ?_
      refine x_ci (x_rVN (As := [.int a1]) (rest := []) X M (cm_X5_likedFirst l G ad hI n a1 μ _ hf) mc_X5_likedFirst mv_X5_likedFirst ln_X6_139 mn_X5_likedFirst rgc_10 rfl hl ⟨⟨Nat.le_of_ble_eq_true rfl, Nat.le_of_ble_eq_true rfl⟩, rfl, Nat.le_of_ble_eq_true rfl, Nat.zero_le _, Nat.zero_le _⟩ rfl dX6_liked_30) M (fun r_30 m_30 H locs hf M => ?_)
      try dsimp only at hf
      rw [hQ]
      exact x_iret X M hr hlk dX6_liked_33 hf
    · replace hf := hf.2 c_19
      refine lv_bipush (v := ((-3) : Int32)) hx hb dX6_liked_22 (by decide) ?_
      rw [hQ]
      exact x_iret X M hr hlk dX6_liked_24 hf
  · replace hf := hf.2 c_6
    refine lv_bipush (v := ((-2) : Int32)) hx hb dX6_liked_9 (by decide) ?_
    rw [hQ]
    exact x_iret X M hr hlk dX6_liked_11 hf
def wp_X6_commonDivisor (n : Nat) (a0 : Int32) (a1 : Int32) (μ : xM) (K : Int32 → Prop) : Prop :=
  xlp (fun (again7 : (Int32 × Int32 × Int32) → Prop) => fun (s_ : Int32 × Int32 × Int32) => match s_ with | (x4_7, x3_7, x2_7) => (((100 : Int32) ≤ x4_7 → K x2_7) ∧ (¬ (100 : Int32) ≤ x4_7 → ((x3_7 = 0 → K x2_7) ∧ (¬ x3_7 = 0 → (¬ x3_7 = 0 ∧ (∀ x5_21 : Int32, x5_21 = x2_7 - x2_7 / x3_7 * x3_7 → (∀ x4_28 : Int32, x4_28 = x4_7 + 1 → again7 (x4_28, x5_21, x3_7))))))))) n ((0 : Int32), a1, a0)
set_option maxHeartbeats 4000000 in
set_option maxRecDepth 100000 in
theorem cm_X6_commonDivisor (l : Launch) (G : xG) (ad : Nat → Nat) (hI : xI 36 ad) (n : Nat) (a0 : Int32) (a1 : Int32) (μ : xM) (K : Int32 → Prop) (hf : wp_X6_commonDivisor n a0 a1 μ K) : Met l yX6_commonDivisor (Cond.code yX6_commonDivisor cX6_commonDivisor 6 (some .int) :: xw_all) (rmo 0 0) (va_Pc [.int a0, .int a1] (xPre cS 36 G ad μ)) (xQi cS 36 G ad (fun r u => K r ∧ u = μ)) 0 0 (xR 36 ad) := by
  refine x_ent (nL := 6) (own := RX6) (by decide) rfl hI (Nat.le_of_ble_eq_true rfl) ?_
  intro p e s m args below meth c H locs ls Q X hr hlk hQ M hl
  have hx := X.1.1
  have hb := X.1.2.1
  have hown := X.1.2.2.2.1
  have hts := X.1.2.2.2.2
  have hl : lv_has ls 6 [(0, .int a0), (1, .int a1)] := hl
  unfold wp_X6_commonDivisor at hf
  refine lv_iload_n hx hb dX6_commonDivisor_0 rfl (lv_at hl 0 rfl) ?_
  refine lv_istore_n (lv' := [(2, .int a0), (0, .int a0), (1, .int a1)]) hx hb dX6_commonDivisor_1 rfl hl (by decide) rfl (fun ls hl => ?_)
  refine lv_iload_n hx hb dX6_commonDivisor_2 rfl (lv_at hl 2 rfl) ?_
  refine lv_istore_n (lv' := [(3, .int a1), (2, .int a0), (0, .int a0), (1, .int a1)]) hx hb dX6_commonDivisor_3 rfl hl (by decide) rfl (fun ls hl => ?_)
  refine lv_iconst (v := (0 : Int32)) hx hb dX6_commonDivisor_4 (by decide) ?_
  refine lv_istore (lv' := [(4, .int (0 : Int32)), (3, .int a1), (2, .int a0), (0, .int a0), (1, .int a1)]) hx hb dX6_commonDivisor_5 hl (by decide) rfl (fun ls hl => ?_)
  refine xlp_w hf (fun (s_ : Int32 × Int32 × Int32) => match s_ with | (x4_7, x3_7, x2_7) => ∀ (H : Heap) (locs : List Loc) (ls : Array Slot), xS cS 36 G ad s μ H locs → lv_has ls 6 [(4, .int x4_7), (3, .int x3_7), (2, .int x2_7)] → W p l e (rmo 0 0) s m args below meth c H locs 0 0 Q (F0 m 7 ls [])) ?_ _ _ _ M (lv_sub hl [0, 1, 2] rfl)
  intro again7 hagain7 s_ hf
  obtain ⟨x4_7, x3_7, x2_7⟩ := s_
  try dsimp only at hf ⊢
  intro H locs ls M hl
  refine lv_iload hx hb dX6_commonDivisor_7 (lv_at hl 0 rfl) ?_
  refine lv_bipush (v := (100 : Int32)) hx hb dX6_commonDivisor_9 (by decide) ?_
  refine lv_icmp_ge (tgt := 34) hx hb dX6_commonDivisor_11 (by decide) (fun c_11 => ?_) (fun c_11 => ?_)
  · replace hf := hf.1 c_11
    refine lv_iload_n hx hb dX6_commonDivisor_34 rfl (lv_at hl 2 rfl) ?_
    rw [hQ]
    exact x_iret X M hr hlk dX6_commonDivisor_35 ⟨hf, rfl⟩
  · replace hf := hf.2 c_11
    refine lv_iload_n hx hb dX6_commonDivisor_14 rfl (lv_at hl 1 rfl) ?_
    refine lv_if_eq (tgt := 34) hx hb dX6_commonDivisor_15 (by decide) (fun c_15 => ?_) (fun c_15 => ?_)
    · replace hf := hf.1 c_15
      refine lv_iload_n hx hb dX6_commonDivisor_34 rfl (lv_at hl 2 rfl) ?_
      rw [hQ]
      exact x_iret X M hr hlk dX6_commonDivisor_35 ⟨hf, rfl⟩
    · replace hf := hf.2 c_15
      refine lv_iload_n hx hb dX6_commonDivisor_18 rfl (lv_at hl 2 rfl) ?_
      refine lv_iload_n hx hb dX6_commonDivisor_19 rfl (lv_at hl 1 rfl) ?_
      obtain ⟨g_20, hf⟩ := hf
      refine lv_irem hx hb dX6_commonDivisor_20 g_20 ?_
      refine lv_topi (fun x5_21 ex5_21 => ?_)
      replace hf := hf x5_21 ex5_21
      refine lv_istore (lv' := [(5, .int x5_21), (4, .int x4_7), (3, .int x3_7), (2, .int x2_7)]) hx hb dX6_commonDivisor_21 hl (by decide) rfl (fun ls hl => ?_)
      refine lv_iload_n hx hb dX6_commonDivisor_23 rfl (lv_at hl 2 rfl) ?_
      refine lv_istore_n (lv' := [(2, .int x3_7), (5, .int x5_21), (4, .int x4_7), (3, .int x3_7)]) hx hb dX6_commonDivisor_24 rfl hl (by decide) rfl (fun ls hl => ?_)
      refine lv_iload hx hb dX6_commonDivisor_25 (lv_at hl 1 rfl) ?_
      refine lv_istore_n (lv' := [(3, .int x5_21), (2, .int x3_7), (5, .int x5_21), (4, .int x4_7)]) hx hb dX6_commonDivisor_27 rfl hl (by decide) rfl (fun ls hl => ?_)
      obtain ⟨x4_28, ex4_28⟩ : ∃ y : Int32, y = x4_7 + 1 := ⟨_, rfl⟩
      replace hf := hf x4_28 ex4_28
      refine lv_iinc (v := x4_28) (lv' := [(4, .int x4_28), (3, .int x5_21), (2, .int x3_7), (5, .int x5_21)]) hx hb dX6_commonDivisor_28 hl (k := 3) rfl (by rw [ex4_28]; rfl) (by decide) rfl (fun ls hl => ?_)
      refine lv_goto (tgt := 7) hx hb dX6_commonDivisor_31 (by decide) ?_
      exact hagain7 (x4_28, x5_21, x3_7) hf _ _ _ M (lv_sub hl [0, 1, 2] rfl)
def wp_X6_lasts (n : Nat) (a1 : Int32) (μ : xM) (K : Int64 → xM → Prop) : Prop :=
  wp_X6_isBelow n a1 (3 : Int32) μ (fun r_2 : Int32 => ((r_2 = 0 → K ((-9223372036854775808) : Int64) μ) ∧ (¬ r_2 = 0 → ((¬ (μ 10 6) = 0 → ((¬ a1 = 0 → wp_X5_leftOfAll n (60 : Int32) μ (fun (r_41 : Int32) (m_41 : xM) => wp_X5_leftOfAll n (0 : Int32) m_41 (fun (r_50 : Int32) (m_50 : xM) => wp_X6_commonDivisor n r_50 r_41 m_50 (fun r_56 : Int32 => (((1 : Int32) ≤ r_56 → ((¬ a1 = (1 : Int32) → (¬ r_56 = 0 ∧ K ((r_50 / r_56).toInt64) m_50)) ∧ (a1 = (1 : Int32) → (¬ r_56 = 0 ∧ K ((r_41 / r_56).toInt64) m_50)))) ∧ (¬ (1 : Int32) ≤ r_56 → K ((-9223372036854775808) : Int64) m_50)))))) ∧ (a1 = 0 → wp_X5_longestLasting n μ (fun (r_30 : Int32) (m_30 : xM) => K (r_30.toInt64) m_30)))) ∧ ((μ 10 6) = 0 → K ((-9223372036854775808) : Int64) μ)))))
set_option maxHeartbeats 4000000 in
set_option maxRecDepth 100000 in
theorem cm_X6_lasts (l : Launch) (G : xG) (ad : Nat → Nat) (hI : xI 36 ad) (n : Nat) (a1 : Int32) (μ : xM) (K : Int64 → xM → Prop) (hf : wp_X6_lasts n a1 μ K) : Met l yX6_lasts (Cond.code yX6_lasts cX6_lasts 5 (some .long) :: xw_all) (rmo 6 140) (va_Pc [.ref (ad 0), .int a1] (xPre cS 36 G ad μ)) (xQl cS 36 G ad K) 0 0 (xR 36 ad) := by
  refine x_ent (nL := 5) (own := RX6) (by decide) rfl hI (Nat.le_of_ble_eq_true rfl) ?_
  intro p e s m args below meth c H locs ls Q X hr hlk hQ M hl
  have hx := X.1.1
  have hb := X.1.2.1
  have hown := X.1.2.2.2.1
  have hts := X.1.2.2.2.2
  have hl : lv_has ls 5 [(0, .ref (ad 0)), (1, .int a1)] := hl
  unfold wp_X6_lasts at hf
  refine lv_iload_n hx hb dX6_lasts_0 rfl (lv_at hl 1 rfl) ?_
  refine lv_iconst (v := (3 : Int32)) hx hb dX6_lasts_1 (by decide) ?_
  refine x_ciP (x_rS (As := [.int a1, .int (3 : Int32)]) (rest := []) X M (cm_X6_isBelow l G ad hI n a1 (3 : Int32) μ _ hf) mc_X6_isBelow ms_X6_isBelow lk_X6_100 mn_X6_isBelow hl ⟨⟨Nat.le_of_ble_eq_true rfl, Nat.le_of_ble_eq_true rfl⟩, rfl, Nat.le_of_ble_eq_true rfl, Nat.zero_le _, Nat.zero_le _⟩ rfl dX6_lasts_2) M (fun r_2 H locs hf M => ?_)
  try dsimp only at hf
  refine lv_if_eq (tgt := 18) hx hb dX6_lasts_5 (by decide) (fun c_5 => ?_) (fun c_5 => ?_)
  · replace hf := hf.1 c_5
    refine lv_ldc2 (v := ((-9223372036854775808) : Int64)) hx hb hown (hts _ kc_X6_142) dX6_lasts_18 ?_
    rw [hQ]
    exact x_lret X M hr hlk dX6_lasts_21 hf
  · replace hf := hf.2 c_5
    refine lv_aload_n hx hb dX6_lasts_8 rfl (lv_at hl 0 rfl) ?_
    refine x_getR (r := 10) X M rgc_0 fd_X6_21 rfl dX6_lasts_9 ?_
    refine x_getI X M rgc_10 fd_X6_71 rfl dX6_lasts_12 ?_
    refine lv_if_ne (tgt := 22) hx hb dX6_lasts_15 (by decide) (fun c_15 => ?_) (fun c_15 => ?_)
    · replace hf := hf.1 c_15
      refine lv_iload_n hx hb dX6_lasts_22 rfl (lv_at hl 1 rfl) ?_
      refine lv_if_ne (tgt := 35) hx hb dX6_lasts_23 (by decide) (fun c_23 => ?_) (fun c_23 => ?_)
      · replace hf := hf.1 c_23
        refine lv_aload_n hx hb dX6_lasts_35 rfl (lv_at hl 0 rfl) ?_
        refine x_getR (r := 10) X M rgc_0 fd_X6_21 rfl dX6_lasts_36 ?_
        refine lv_bipush (v := (60 : Int32)) hx hb dX6_lasts_39 (by decide) ?_
        refine x_ci (x_rVN (As := [.int (60 : Int32)]) (rest := []) X M (cm_X5_leftOfAll l G ad hI n (60 : Int32) μ _ hf) mc_X5_leftOfAll mv_X5_leftOfAll ln_X6_148 mn_X5_leftOfAll rgc_10 rfl hl ⟨⟨Nat.le_of_ble_eq_true rfl, Nat.le_of_ble_eq_true rfl⟩, rfl, Nat.le_of_ble_eq_true rfl, Nat.zero_le _, Nat.zero_le _⟩ rfl dX6_lasts_41) M (fun r_41 m_41 H locs hf M => ?_)
        try dsimp only at hf
        refine lv_istore_n (lv' := [(2, .int r_41), (0, .ref (ad 0)), (1, .int a1)]) hx hb dX6_lasts_44 rfl hl (by decide) rfl (fun ls hl => ?_)
        refine lv_aload_n hx hb dX6_lasts_45 rfl (lv_at hl 1 rfl) ?_
        refine x_getR (r := 10) X M rgc_0 fd_X6_21 rfl dX6_lasts_46 ?_
        refine lv_iconst (v := (0 : Int32)) hx hb dX6_lasts_49 (by decide) ?_
        refine x_ci (x_rVN (As := [.int (0 : Int32)]) (rest := []) X M (cm_X5_leftOfAll l G ad hI n (0 : Int32) m_41 _ hf) mc_X5_leftOfAll mv_X5_leftOfAll ln_X6_148 mn_X5_leftOfAll rgc_10 rfl hl ⟨⟨Nat.le_of_ble_eq_true rfl, Nat.le_of_ble_eq_true rfl⟩, rfl, Nat.le_of_ble_eq_true rfl, Nat.zero_le _, Nat.zero_le _⟩ rfl dX6_lasts_50) M (fun r_50 m_50 H locs hf M => ?_)
        try dsimp only at hf
        refine lv_istore_n (lv' := [(3, .int r_50), (2, .int r_41), (0, .ref (ad 0)), (1, .int a1)]) hx hb dX6_lasts_53 rfl hl (by decide) rfl (fun ls hl => ?_)
        refine lv_iload_n hx hb dX6_lasts_54 rfl (lv_at hl 0 rfl) ?_
        refine lv_iload_n hx hb dX6_lasts_55 rfl (lv_at hl 1 rfl) ?_
        refine x_ciP (x_rS (As := [.int r_50, .int r_41]) (rest := []) X M (cm_X6_commonDivisor l G ad hI n r_50 r_41 m_50 _ hf) mc_X6_commonDivisor ms_X6_commonDivisor lk_X6_151 mn_X6_commonDivisor hl ⟨⟨Nat.le_of_ble_eq_true rfl, Nat.le_of_ble_eq_true rfl⟩, rfl, Nat.le_of_ble_eq_true rfl, Nat.zero_le _, Nat.zero_le _⟩ rfl dX6_lasts_56) M (fun r_56 H locs hf M => ?_)
        try dsimp only at hf
        refine lv_istore (lv' := [(4, .int r_56), (3, .int r_50), (2, .int r_41), (0, .ref (ad 0)), (1, .int a1)]) hx hb dX6_lasts_59 hl (by decide) rfl (fun ls hl => ?_)
        refine lv_iload hx hb dX6_lasts_61 (lv_at hl 0 rfl) ?_
        refine lv_iconst (v := (1 : Int32)) hx hb dX6_lasts_63 (by decide) ?_
        refine lv_icmp_ge (tgt := 71) hx hb dX6_lasts_64 (by decide) (fun c_64 => ?_) (fun c_64 => ?_)
        · replace hf := hf.1 c_64
          refine lv_iload_n hx hb dX6_lasts_71 rfl (lv_at hl 4 rfl) ?_
          refine lv_iconst (v := (1 : Int32)) hx hb dX6_lasts_72 (by decide) ?_
          refine lv_icmp_ne (tgt := 84) hx hb dX6_lasts_73 (by decide) (fun c_73 => ?_) (fun c_73 => ?_)
          · replace hf := hf.1 c_73
            refine lv_iload_n hx hb dX6_lasts_84 rfl (lv_at hl 1 rfl) ?_
            refine lv_iload hx hb dX6_lasts_85 (lv_at hl 0 rfl) ?_
            obtain ⟨g_87, hf⟩ := hf
            refine lv_idiv hx hb dX6_lasts_87 g_87 ?_
            refine lv_i2l hx hb dX6_lasts_88 rfl ?_
            rw [hQ]
            exact x_lret X M hr hlk dX6_lasts_89 hf
          · replace hf := hf.2 c_73
            refine lv_iload_n hx hb dX6_lasts_76 rfl (lv_at hl 2 rfl) ?_
            refine lv_iload hx hb dX6_lasts_77 (lv_at hl 0 rfl) ?_
            obtain ⟨g_79, hf⟩ := hf
            refine lv_idiv hx hb dX6_lasts_79 g_79 ?_
            refine lv_i2l hx hb dX6_lasts_80 rfl ?_
            refine lv_goto (tgt := 89) hx hb dX6_lasts_81 (by decide) ?_
            rw [hQ]
            exact x_lret X M hr hlk dX6_lasts_89 hf
        · replace hf := hf.2 c_64
          refine lv_ldc2 (v := ((-9223372036854775808) : Int64)) hx hb hown (hts _ kc_X6_142) dX6_lasts_67 ?_
          rw [hQ]
          exact x_lret X M hr hlk dX6_lasts_70 hf
      · replace hf := hf.2 c_23
        refine lv_aload_n hx hb dX6_lasts_26 rfl (lv_at hl 0 rfl) ?_
        refine x_getR (r := 10) X M rgc_0 fd_X6_21 rfl dX6_lasts_27 ?_
        refine x_ci (x_rVN (As := []) (rest := []) X M (cm_X5_longestLasting l G ad hI n μ _ hf) mc_X5_longestLasting mv_X5_longestLasting ln_X6_144 mn_X5_longestLasting rgc_10 rfl hl ⟨⟨Nat.le_of_ble_eq_true rfl, Nat.le_of_ble_eq_true rfl⟩, rfl, Nat.le_of_ble_eq_true rfl, Nat.zero_le _, Nat.zero_le _⟩ rfl dX6_lasts_30) M (fun r_30 m_30 H locs hf M => ?_)
        try dsimp only at hf
        refine lv_i2l hx hb dX6_lasts_33 rfl ?_
        rw [hQ]
        exact x_lret X M hr hlk dX6_lasts_34 hf
    · replace hf := hf.2 c_15
      refine lv_ldc2 (v := ((-9223372036854775808) : Int64)) hx hb hown (hts _ kc_X6_142) dX6_lasts_18 ?_
      rw [hQ]
      exact x_lret X M hr hlk dX6_lasts_21 hf
def wp_X6_umbrellas (n : Nat) (a1 : Int32) (a2 : Int32) (μ : xM) (K : Int32 → Prop) : Prop :=
  wp_X6_isBelow n a1 (4 : Int32) μ (fun r_2 : Int32 => ((r_2 = 0 → K ((-2) : Int32)) ∧ (¬ r_2 = 0 → wp_X6_isBelow n a2 (2 : Int32) μ (fun r_10 : Int32 => ((¬ r_10 = 0 → ((¬ (μ 10 6) = 0 → wp_X0_giveUmbrellas n a1 a2 μ (fun r_38 : Int32 => K r_38)) ∧ ((μ 10 6) = 0 → K ((-3) : Int32)))) ∧ (r_10 = 0 → K ((-2) : Int32)))))))
set_option maxHeartbeats 4000000 in
set_option maxRecDepth 100000 in
theorem cm_X6_umbrellas (l : Launch) (G : xG) (ad : Nat → Nat) (hI : xI 36 ad) (n : Nat) (a1 : Int32) (a2 : Int32) (μ : xM) (K : Int32 → Prop) (hf : wp_X6_umbrellas n a1 a2 μ K) : Met l yX6_umbrellas (Cond.code yX6_umbrellas cX6_umbrellas 3 (some .int) :: xw_all) (rmo 4 104) (va_Pc [.ref (ad 0), .int a1, .int a2] (xPre cS 36 G ad μ)) (xQi cS 36 G ad (fun r u => K r ∧ u = μ)) 0 0 (xR 36 ad) := by
  refine x_ent (nL := 3) (own := RX6) (by decide) rfl hI (Nat.le_of_ble_eq_true rfl) ?_
  intro p e s m args below meth c H locs ls Q X hr hlk hQ M hl
  have hx := X.1.1
  have hb := X.1.2.1
  have hown := X.1.2.2.2.1
  have hts := X.1.2.2.2.2
  have hl : lv_has ls 3 [(0, .ref (ad 0)), (1, .int a1), (2, .int a2)] := hl
  unfold wp_X6_umbrellas at hf
  refine lv_iload_n hx hb dX6_umbrellas_0 rfl (lv_at hl 1 rfl) ?_
  refine lv_iconst (v := (4 : Int32)) hx hb dX6_umbrellas_1 (by decide) ?_
  refine x_ciP (x_rS (As := [.int a1, .int (4 : Int32)]) (rest := []) X M (cm_X6_isBelow l G ad hI n a1 (4 : Int32) μ _ hf) mc_X6_isBelow ms_X6_isBelow lk_X6_100 mn_X6_isBelow hl ⟨⟨Nat.le_of_ble_eq_true rfl, Nat.le_of_ble_eq_true rfl⟩, rfl, Nat.le_of_ble_eq_true rfl, Nat.zero_le _, Nat.zero_le _⟩ rfl dX6_umbrellas_2) M (fun r_2 H locs hf M => ?_)
  try dsimp only at hf
  refine lv_if_eq (tgt := 16) hx hb dX6_umbrellas_5 (by decide) (fun c_5 => ?_) (fun c_5 => ?_)
  · replace hf := hf.1 c_5
    refine lv_bipush (v := ((-2) : Int32)) hx hb dX6_umbrellas_16 (by decide) ?_
    rw [hQ]
    exact x_iret X M hr hlk dX6_umbrellas_18 ⟨hf, rfl⟩
  · replace hf := hf.2 c_5
    refine lv_iload_n hx hb dX6_umbrellas_8 rfl (lv_at hl 2 rfl) ?_
    refine lv_iconst (v := (2 : Int32)) hx hb dX6_umbrellas_9 (by decide) ?_
    refine x_ciP (x_rS (As := [.int a2, .int (2 : Int32)]) (rest := []) X M (cm_X6_isBelow l G ad hI n a2 (2 : Int32) μ _ hf) mc_X6_isBelow ms_X6_isBelow lk_X6_100 mn_X6_isBelow hl ⟨⟨Nat.le_of_ble_eq_true rfl, Nat.le_of_ble_eq_true rfl⟩, rfl, Nat.le_of_ble_eq_true rfl, Nat.zero_le _, Nat.zero_le _⟩ rfl dX6_umbrellas_10) M (fun r_10 H locs hf M => ?_)
    try dsimp only at hf
    refine lv_if_ne (tgt := 19) hx hb dX6_umbrellas_13 (by decide) (fun c_13 => ?_) (fun c_13 => ?_)
    · replace hf := hf.1 c_13
      refine lv_aload_n hx hb dX6_umbrellas_19 rfl (lv_at hl 0 rfl) ?_
      refine x_getR (r := 10) X M rgc_0 fd_X6_21 rfl dX6_umbrellas_20 ?_
      refine x_getI X M rgc_10 fd_X6_71 rfl dX6_umbrellas_23 ?_
      refine lv_if_ne (tgt := 32) hx hb dX6_umbrellas_26 (by decide) (fun c_26 => ?_) (fun c_26 => ?_)
      · replace hf := hf.1 c_26
        refine lv_aload_n hx hb dX6_umbrellas_32 rfl (lv_at hl 0 rfl) ?_
        refine x_getR (r := 10) X M rgc_0 fd_X6_21 rfl dX6_umbrellas_33 ?_
        refine lv_iload_n hx hb dX6_umbrellas_36 rfl (lv_at hl 1 rfl) ?_
        refine lv_iload_n hx hb dX6_umbrellas_37 rfl (lv_at hl 2 rfl) ?_
        refine x_ciP (x_rSN (As := [.ref (ad 10), .int a1, .int a2]) (rest := []) X M (cm_X0_giveUmbrellas l G ad hI n a1 a2 μ _ hf) mc_X0_giveUmbrellas ms_X0_giveUmbrellas ln_X6_154 mn_X0_giveUmbrellas hl ⟨⟨Nat.le_of_ble_eq_true rfl, Nat.le_of_ble_eq_true rfl⟩, rfl, Nat.le_of_ble_eq_true rfl, Nat.zero_le _, Nat.zero_le _⟩ rfl dX6_umbrellas_38) M (fun r_38 H locs hf M => ?_)
        try dsimp only at hf
        rw [hQ]
        exact x_iret X M hr hlk dX6_umbrellas_41 ⟨hf, rfl⟩
      · replace hf := hf.2 c_26
        refine lv_bipush (v := ((-3) : Int32)) hx hb dX6_umbrellas_29 (by decide) ?_
        rw [hQ]
        exact x_iret X M hr hlk dX6_umbrellas_31 ⟨hf, rfl⟩
    · replace hf := hf.2 c_13
      refine lv_bipush (v := ((-2) : Int32)) hx hb dX6_umbrellas_16 (by decide) ?_
      rw [hQ]
      exact x_iret X M hr hlk dX6_umbrellas_18 ⟨hf, rfl⟩
def wp_X6_turn (n : Nat) (a1 : Int32) (μ : xM) (K : Int32 → Prop) : Prop :=
  wp_X6_isBelow n a1 (2 : Int32) μ (fun r_2 : Int32 => ((¬ r_2 = 0 → ((¬ (μ 10 6) = 0 → wp_X0_turnOne n a1 μ (fun r_29 : Int32 => K r_29)) ∧ ((μ 10 6) = 0 → K ((-3) : Int32)))) ∧ (r_2 = 0 → K ((-2) : Int32))))
set_option maxHeartbeats 4000000 in
set_option maxRecDepth 100000 in
theorem cm_X6_turn (l : Launch) (G : xG) (ad : Nat → Nat) (hI : xI 36 ad) (n : Nat) (a1 : Int32) (μ : xM) (K : Int32 → Prop) (hf : wp_X6_turn n a1 μ K) : Met l yX6_turn (Cond.code yX6_turn cX6_turn 2 (some .int) :: xw_all) (rmo 4 103) (va_Pc [.ref (ad 0), .int a1] (xPre cS 36 G ad μ)) (xQi cS 36 G ad (fun r u => K r ∧ u = μ)) 0 0 (xR 36 ad) := by
  refine x_ent (nL := 2) (own := RX6) (by decide) rfl hI (Nat.le_of_ble_eq_true rfl) ?_
  intro p e s m args below meth c H locs ls Q X hr hlk hQ M hl
  have hx := X.1.1
  have hb := X.1.2.1
  have hown := X.1.2.2.2.1
  have hts := X.1.2.2.2.2
  have hl : lv_has ls 2 [(0, .ref (ad 0)), (1, .int a1)] := hl
  unfold wp_X6_turn at hf
  refine lv_iload_n hx hb dX6_turn_0 rfl (lv_at hl 1 rfl) ?_
  refine lv_iconst (v := (2 : Int32)) hx hb dX6_turn_1 (by decide) ?_
  refine x_ciP (x_rS (As := [.int a1, .int (2 : Int32)]) (rest := []) X M (cm_X6_isBelow l G ad hI n a1 (2 : Int32) μ _ hf) mc_X6_isBelow ms_X6_isBelow lk_X6_100 mn_X6_isBelow hl ⟨⟨Nat.le_of_ble_eq_true rfl, Nat.le_of_ble_eq_true rfl⟩, rfl, Nat.le_of_ble_eq_true rfl, Nat.zero_le _, Nat.zero_le _⟩ rfl dX6_turn_2) M (fun r_2 H locs hf M => ?_)
  try dsimp only at hf
  refine lv_if_ne (tgt := 11) hx hb dX6_turn_5 (by decide) (fun c_5 => ?_) (fun c_5 => ?_)
  · replace hf := hf.1 c_5
    refine lv_aload_n hx hb dX6_turn_11 rfl (lv_at hl 0 rfl) ?_
    refine x_getR (r := 10) X M rgc_0 fd_X6_21 rfl dX6_turn_12 ?_
    refine x_getI X M rgc_10 fd_X6_71 rfl dX6_turn_15 ?_
    refine lv_if_ne (tgt := 24) hx hb dX6_turn_18 (by decide) (fun c_18 => ?_) (fun c_18 => ?_)
    · replace hf := hf.1 c_18
      refine lv_aload_n hx hb dX6_turn_24 rfl (lv_at hl 0 rfl) ?_
      refine x_getR (r := 10) X M rgc_0 fd_X6_21 rfl dX6_turn_25 ?_
      refine lv_iload_n hx hb dX6_turn_28 rfl (lv_at hl 1 rfl) ?_
      refine x_ciP (x_rSN (As := [.ref (ad 10), .int a1]) (rest := []) X M (cm_X0_turnOne l G ad hI n a1 μ _ hf) mc_X0_turnOne ms_X0_turnOne ln_X6_160 mn_X0_turnOne hl ⟨⟨Nat.le_of_ble_eq_true rfl, Nat.le_of_ble_eq_true rfl⟩, rfl, Nat.le_of_ble_eq_true rfl, Nat.zero_le _, Nat.zero_le _⟩ rfl dX6_turn_29) M (fun r_29 H locs hf M => ?_)
      try dsimp only at hf
      rw [hQ]
      exact x_iret X M hr hlk dX6_turn_32 ⟨hf, rfl⟩
    · replace hf := hf.2 c_18
      refine lv_bipush (v := ((-3) : Int32)) hx hb dX6_turn_21 (by decide) ?_
      rw [hQ]
      exact x_iret X M hr hlk dX6_turn_23 ⟨hf, rfl⟩
  · replace hf := hf.2 c_5
    refine lv_bipush (v := ((-2) : Int32)) hx hb dX6_turn_8 (by decide) ?_
    rw [hQ]
    exact x_iret X M hr hlk dX6_turn_10 ⟨hf, rfl⟩
def wp_X6_roofs (n : Nat) (a1 : Int32) (a2 : Int32) (μ : xM) (K : Int32 → xM → Prop) : Prop :=
  wp_X6_isDawn n a1 μ (fun r_1 : Int32 => ((r_1 = 0 → K ((-2) : Int32) μ) ∧ (¬ r_1 = 0 → wp_X6_isBelow n a2 (2 : Int32) μ (fun r_9 : Int32 => ((¬ r_9 = 0 → ((¬ (μ 10 6) = 0 → wp_X0_nosesGone n a1 μ (fun (r_36 : Int32) (m_36 : xM) => ((¬ a2 = 0 → wp_J6_bitCount_0f7a4 n r_36 m_36 (fun r_49 : Int32 => K r_49 m_36)) ∧ (a2 = 0 → K r_36 m_36)))) ∧ ((μ 10 6) = 0 → K ((-3) : Int32) μ))) ∧ (r_9 = 0 → K ((-2) : Int32) μ))))))
set_option maxHeartbeats 4000000 in
set_option maxRecDepth 100000 in
theorem cm_X6_roofs (l : Launch) (G : xG) (ad : Nat → Nat) (hI : xI 36 ad) (n : Nat) (a1 : Int32) (a2 : Int32) (μ : xM) (K : Int32 → xM → Prop) (hf : wp_X6_roofs n a1 a2 μ K) : Met l yX6_roofs (Cond.code yX6_roofs cX6_roofs 4 (some .int) :: xw_all) (rmo 6 140) (va_Pc [.ref (ad 0), .int a1, .int a2] (xPre cS 36 G ad μ)) (xQi cS 36 G ad K) 0 0 (xR 36 ad) := by
  refine x_ent (nL := 4) (own := RX6) (by decide) rfl hI (Nat.le_of_ble_eq_true rfl) ?_
  intro p e s m args below meth c H locs ls Q X hr hlk hQ M hl
  have hx := X.1.1
  have hb := X.1.2.1
  have hown := X.1.2.2.2.1
  have hts := X.1.2.2.2.2
  have hl : lv_has ls 4 [(0, .ref (ad 0)), (1, .int a1), (2, .int a2)] := hl
  unfold wp_X6_roofs at hf
  refine lv_iload_n hx hb dX6_roofs_0 rfl (lv_at hl 1 rfl) ?_
  refine x_ciP (x_rS (As := [.int a1]) (rest := []) X M (cm_X6_isDawn l G ad hI n a1 μ _ hf) mc_X6_isDawn ms_X6_isDawn lk_X6_119 mn_X6_isDawn hl ⟨⟨Nat.le_of_ble_eq_true rfl, Nat.le_of_ble_eq_true rfl⟩, rfl, Nat.le_of_ble_eq_true rfl, Nat.zero_le _, Nat.zero_le _⟩ rfl dX6_roofs_1) M (fun r_1 H locs hf M => ?_)
  try dsimp only at hf
  refine lv_if_eq (tgt := 15) hx hb dX6_roofs_4 (by decide) (fun c_4 => ?_) (fun c_4 => ?_)
  · replace hf := hf.1 c_4
    refine lv_bipush (v := ((-2) : Int32)) hx hb dX6_roofs_15 (by decide) ?_
    rw [hQ]
    exact x_iret X M hr hlk dX6_roofs_17 hf
  · replace hf := hf.2 c_4
    refine lv_iload_n hx hb dX6_roofs_7 rfl (lv_at hl 2 rfl) ?_
    refine lv_iconst (v := (2 : Int32)) hx hb dX6_roofs_8 (by decide) ?_
    refine x_ciP (x_rS (As := [.int a2, .int (2 : Int32)]) (rest := []) X M (cm_X6_isBelow l G ad hI n a2 (2 : Int32) μ _ hf) mc_X6_isBelow ms_X6_isBelow lk_X6_100 mn_X6_isBelow hl ⟨⟨Nat.le_of_ble_eq_true rfl, Nat.le_of_ble_eq_true rfl⟩, rfl, Nat.le_of_ble_eq_true rfl, Nat.zero_le _, Nat.zero_le _⟩ rfl dX6_roofs_9) M (fun r_9 H locs hf M => ?_)
    try dsimp only at hf
    refine lv_if_ne (tgt := 18) hx hb dX6_roofs_12 (by decide) (fun c_12 => ?_) (fun c_12 => ?_)
    · replace hf := hf.1 c_12
      refine lv_aload_n hx hb dX6_roofs_18 rfl (lv_at hl 0 rfl) ?_
      refine x_getR (r := 10) X M rgc_0 fd_X6_21 rfl dX6_roofs_19 ?_
      refine x_getI X M rgc_10 fd_X6_71 rfl dX6_roofs_22 ?_
      refine lv_if_ne (tgt := 31) hx hb dX6_roofs_25 (by decide) (fun c_25 => ?_) (fun c_25 => ?_)
      · replace hf := hf.1 c_25
        refine lv_aload_n hx hb dX6_roofs_31 rfl (lv_at hl 0 rfl) ?_
        refine x_getR (r := 10) X M rgc_0 fd_X6_21 rfl dX6_roofs_32 ?_
        refine lv_iload_n hx hb dX6_roofs_35 rfl (lv_at hl 1 rfl) ?_
        refine x_ci (x_rSN (As := [.ref (ad 10), .int a1]) (rest := []) X M (cm_X0_nosesGone l G ad hI n a1 μ _ hf) mc_X0_nosesGone ms_X0_nosesGone ln_X6_164 mn_X0_nosesGone hl ⟨⟨Nat.le_of_ble_eq_true rfl, Nat.le_of_ble_eq_true rfl⟩, rfl, Nat.le_of_ble_eq_true rfl, Nat.zero_le _, Nat.zero_le _⟩ rfl dX6_roofs_36) M (fun r_36 m_36 H locs hf M => ?_)
        try dsimp only at hf
        refine lv_istore_n (lv' := [(3, .int r_36), (0, .ref (ad 0)), (1, .int a1), (2, .int a2)]) hx hb dX6_roofs_39 rfl hl (by decide) rfl (fun ls hl => ?_)
        refine lv_iload_n hx hb dX6_roofs_40 rfl (lv_at hl 3 rfl) ?_
        refine lv_if_ne (tgt := 48) hx hb dX6_roofs_41 (by decide) (fun c_41 => ?_) (fun c_41 => ?_)
        · replace hf := hf.1 c_41
          refine lv_iload_n hx hb dX6_roofs_48 rfl (lv_at hl 0 rfl) ?_
          refine x_ciP (x_rS (As := [.int r_36]) (rest := []) X M (cm_J6_bitCount_0f7a4 l G ad hI n r_36 m_36 _ hf) mc_J6_bitCount_0f7a4 ms_J6_bitCount_0f7a4 lk_X6_167 mn_J6_bitCount_0f7a4 hl ⟨⟨Nat.le_of_ble_eq_true rfl, Nat.le_of_ble_eq_true rfl⟩, rfl, Nat.le_of_ble_eq_true rfl, Nat.zero_le _, Nat.zero_le _⟩ rfl dX6_roofs_49) M (fun r_49 H locs hf M => ?_)
          try dsimp only at hf
          rw [hQ]
          exact x_iret X M hr hlk dX6_roofs_52 hf
        · replace hf := hf.2 c_41
          refine lv_iload_n hx hb dX6_roofs_44 rfl (lv_at hl 0 rfl) ?_
          refine lv_goto (tgt := 52) hx hb dX6_roofs_45 (by decide) ?_
          rw [hQ]
          exact x_iret X M hr hlk dX6_roofs_52 hf
      · replace hf := hf.2 c_25
        refine lv_bipush (v := ((-3) : Int32)) hx hb dX6_roofs_28 (by decide) ?_
        rw [hQ]
        exact x_iret X M hr hlk dX6_roofs_30 hf
    · replace hf := hf.2 c_12
      refine lv_bipush (v := ((-2) : Int32)) hx hb dX6_roofs_15 (by decide) ?_
      rw [hQ]
      exact x_iret X M hr hlk dX6_roofs_17 hf
def wp_X6_takenFor (n : Nat) (a1 : Int32) (a2 : Int32) (a3 : Int32) (a4 : Int32) (a5 : Int32) (μ : xM) (K : Int32 → xM → Prop) : Prop :=
  (∀ m_2 : xM, m_2 = xu μ 0 4 (0 : Int32) → wp_X6_isSheet n a2 m_2 (fun r_6 : Int32 => ((¬ r_6 = 0 → wp_X6_isDawn n a1 m_2 (fun r_15 : Int32 => ((r_15 = 0 → K ((-2) : Int32) m_2) ∧ (¬ r_15 = 0 → wp_X6_isBelow n a5 (2 : Int32) m_2 (fun r_24 : Int32 => ((r_24 = 0 → K ((-2) : Int32) m_2) ∧ (¬ r_24 = 0 → wp_X6_isLane n a3 m_2 (fun r_31 : Int32 => ((¬ r_31 = 0 → (vp_in a2 4 ∧ wp_X2_faultAs n (a2.toNatClampNeg) a3 m_2 (fun r_51 : Int32 => xjn (fun (x7_75 : Int32) => ((x7_75 = 0 → ((¬ (m_2 10 6) = 0 → xjn (fun (_ : Unit) => wp_X5_nearest n (a2.toNatClampNeg) a4 a1 m_2 (fun (r_147 : Int32) (m_147 : xM) => ((¬ a5 = 0 → wp_X5_apart n r_147 (a2.toNatClampNeg) a4 a1 m_147 (fun (r_173 : Int32) (m_173 : xM) => K r_173 m_173)) ∧ (a5 = 0 → K r_147 m_147)))) (fun J138 : Unit → Prop => xlp (fun (again103 : Int32 → Prop) => fun (x8_103 : Int32) => (((3 : Int32) ≤ x8_103 → J138 ()) ∧ (¬ (3 : Int32) ≤ x8_103 → (vp_in (a4 + x8_103) 60 ∧ wp_X6_isBelow n (m_2 (6 + a2.toNatClampNeg) (a4 + x8_103).toNatClampNeg) (1000 : Int32) m_2 (fun r_123 : Int32 => ((¬ r_123 = 0 → (∀ x8_132 : Int32, x8_132 = x8_103 + 1 → again103 x8_132)) ∧ (r_123 = 0 → K ((-2) : Int32) m_2))))))) n (0 : Int32))) ∧ ((m_2 10 6) = 0 → K ((-3) : Int32) m_2))) ∧ (¬ x7_75 = 0 → wp_X6_faulty n x7_75 m_2 (fun (r_83 : Int32) (m_83 : xM) => K r_83 m_83)))) (fun J75 : Int32 → Prop => ((¬ r_51 = 0 → J75 r_51) ∧ (r_51 = 0 → wp_X2_hasRun n (a2.toNatClampNeg) a4 (3 : Int32) m_2 (fun r_66 : Int32 => ((¬ r_66 = 0 → J75 r_51) ∧ (r_66 = 0 → J75 (3 : Int32)))))))))) ∧ (r_31 = 0 → K ((-2) : Int32) m_2)))))))))) ∧ (r_6 = 0 → K ((-1) : Int32) m_2))))
set_option maxHeartbeats 4000000 in
set_option maxRecDepth 100000 in
theorem cm_X6_takenFor (l : Launch) (G : xG) (ad : Nat → Nat) (hI : xI 36 ad) (n : Nat) (a1 : Int32) (a2 : Int32) (a3 : Int32) (a4 : Int32) (a5 : Int32) (μ : xM) (K : Int32 → xM → Prop) (hf : wp_X6_takenFor n a1 a2 a3 a4 a5 μ K) : Met l yX6_takenFor (Cond.code yX6_takenFor cX6_takenFor 9 (some .int) :: xw_all) (rmo 6 145) (va_Pc [.ref (ad 0), .int a1, .int a2, .int a3, .int a4, .int a5] (xPre cS 36 G ad μ)) (xQi cS 36 G ad K) 0 0 (xR 36 ad) := by
  refine x_ent (nL := 9) (own := RX6) (by decide) rfl hI (Nat.le_of_ble_eq_true rfl) ?_
  intro p e s m args below meth c H locs ls Q X hr hlk hQ M hl
  have hx := X.1.1
  have hb := X.1.2.1
  have hown := X.1.2.2.2.1
  have hts := X.1.2.2.2.2
  have hl : lv_has ls 9 [(0, .ref (ad 0)), (1, .int a1), (2, .int a2), (3, .int a3), (4, .int a4), (5, .int a5)] := hl
  unfold wp_X6_takenFor at hf
  refine lv_aload_n hx hb dX6_takenFor_0 rfl (lv_at hl 0 rfl) ?_
  refine lv_iconst (v := (0 : Int32)) hx hb dX6_takenFor_1 (by decide) ?_
  refine x_putI X M rgc_0 fp_X6_36 rfl dX6_takenFor_2 (fun m_2 H locs em_2 M => ?_)
  replace hf := hf m_2 em_2
  refine lv_iload_n hx hb dX6_takenFor_5 rfl (lv_at hl 2 rfl) ?_
  refine x_ciP (x_rS (As := [.int a2]) (rest := []) X M (cm_X6_isSheet l G ad hI n a2 m_2 _ hf) mc_X6_isSheet ms_X6_isSheet lk_X6_39 mn_X6_isSheet hl ⟨⟨Nat.le_of_ble_eq_true rfl, Nat.le_of_ble_eq_true rfl⟩, rfl, Nat.le_of_ble_eq_true rfl, Nat.zero_le _, Nat.zero_le _⟩ rfl dX6_takenFor_6) M (fun r_6 H locs hf M => ?_)
  try dsimp only at hf
  refine lv_if_ne (tgt := 14) hx hb dX6_takenFor_9 (by decide) (fun c_9 => ?_) (fun c_9 => ?_)
  · replace hf := hf.1 c_9
    refine lv_iload_n hx hb dX6_takenFor_14 rfl (lv_at hl 1 rfl) ?_
    refine x_ciP (x_rS (As := [.int a1]) (rest := []) X M (cm_X6_isDawn l G ad hI n a1 m_2 _ hf) mc_X6_isDawn ms_X6_isDawn lk_X6_119 mn_X6_isDawn hl ⟨⟨Nat.le_of_ble_eq_true rfl, Nat.le_of_ble_eq_true rfl⟩, rfl, Nat.le_of_ble_eq_true rfl, Nat.zero_le _, Nat.zero_le _⟩ rfl dX6_takenFor_15) M (fun r_15 H locs hf M => ?_)
    try dsimp only at hf
    refine lv_if_eq (tgt := 37) hx hb dX6_takenFor_18 (by decide) (fun c_18 => ?_) (fun c_18 => ?_)
    · replace hf := hf.1 c_18
      refine lv_bipush (v := ((-2) : Int32)) hx hb dX6_takenFor_37 (by decide) ?_
      rw [hQ]
      exact x_iret X M hr hlk dX6_takenFor_39 hf
    · replace hf := hf.2 c_18
      refine lv_iload hx hb dX6_takenFor_21 (lv_at hl 5 rfl) ?_
      refine lv_iconst (v := (2 : Int32)) hx hb dX6_takenFor_23 (by decide) ?_
      refine x_ciP (x_rS (As := [.int a5, .int (2 : Int32)]) (rest := []) X M (cm_X6_isBelow l G ad hI n a5 (2 : Int32) m_2 _ hf) mc_X6_isBelow ms_X6_isBelow lk_X6_100 mn_X6_isBelow hl ⟨⟨Nat.le_of_ble_eq_true rfl, Nat.le_of_ble_eq_true rfl⟩, rfl, Nat.le_of_ble_eq_true rfl, Nat.zero_le _, Nat.zero_le _⟩ rfl dX6_takenFor_24) M (fun r_24 H locs hf M => ?_)
      try dsimp only at hf
      refine lv_if_eq (tgt := 37) hx hb dX6_takenFor_27 (by decide) (fun c_27 => ?_) (fun c_27 => ?_)
      · replace hf := hf.1 c_27
        refine lv_bipush (v := ((-2) : Int32)) hx hb dX6_takenFor_37 (by decide) ?_
        rw [hQ]
        exact x_iret X M hr hlk dX6_takenFor_39 hf
      · replace hf := hf.2 c_27
        refine lv_iload_n hx hb dX6_takenFor_30 rfl (lv_at hl 3 rfl) ?_
        refine x_ciP (x_rS (As := [.int a3]) (rest := []) X M (cm_X6_isLane l G ad hI n a3 m_2 _ hf) mc_X6_isLane ms_X6_isLane lk_X6_43 mn_X6_isLane hl ⟨⟨Nat.le_of_ble_eq_true rfl, Nat.le_of_ble_eq_true rfl⟩, rfl, Nat.le_of_ble_eq_true rfl, Nat.zero_le _, Nat.zero_le _⟩ rfl dX6_takenFor_31) M (fun r_31 H locs hf M => ?_)
        try dsimp only at hf
        refine lv_if_ne (tgt := 40) hx hb dX6_takenFor_34 (by decide) (fun c_34 => ?_) (fun c_34 => ?_)
        · replace hf := hf.1 c_34
          refine lv_aload_n hx hb dX6_takenFor_40 rfl (lv_at hl 0 rfl) ?_
          refine x_getR (r := 1) X M rgc_0 fd_X6_13 rfl dX6_takenFor_41 ?_
          refine lv_iload_n hx hb dX6_takenFor_44 rfl (lv_at hl 2 rfl) ?_
          obtain ⟨g_45, hf⟩ := hf
          refine x_ald X M rgc_1 rfl g_45 dX6_takenFor_45 ?_
          refine lv_astore (lv' := [(6, .ref (ad (2 + a2.toNatClampNeg))), (0, .ref (ad 0)), (1, .int a1), (2, .int a2), (3, .int a3), (4, .int a4), (5, .int a5)]) hx hb dX6_takenFor_46 hl (by decide) rfl (fun ls hl => ?_)
          refine lv_aload hx hb dX6_takenFor_48 (lv_at hl 0 rfl) ?_
          refine lv_iload_n hx hb dX6_takenFor_50 rfl (lv_at hl 4 rfl) ?_
          refine x_ciP (x_rVN (As := [.int a3]) (rest := []) X M (cm_X2_faultAs l G ad hI n (a2.toNatClampNeg) (vp_lt g_45) a3 m_2 _ hf) mc_X2_faultAs mv_X2_faultAs ln_X6_46 mn_X2_faultAs (rgc_2 (vp_lt g_45)) rfl hl ⟨⟨Nat.le_of_ble_eq_true rfl, Nat.le_of_ble_eq_true rfl⟩, rfl, Nat.le_of_ble_eq_true rfl, Nat.zero_le _, Nat.zero_le _⟩ rfl dX6_takenFor_51) M (fun r_51 H locs hf M => ?_)
          try dsimp only at hf
          refine lv_istore (lv' := [(7, .int r_51), (6, .ref (ad (2 + a2.toNatClampNeg))), (0, .ref (ad 0)), (1, .int a1), (2, .int a2), (3, .int a3), (4, .int a4), (5, .int a5)]) hx hb dX6_takenFor_54 hl (by decide) rfl (fun ls hl => ?_)
          refine lv_iload hx hb dX6_takenFor_56 (lv_at hl 0 rfl) ?_
          refine xjn_w hf (fun (x7_75 : Int32) => ∀ (H : Heap) (locs : List Loc) (ls : Array Slot), xS cS 36 G ad s m_2 H locs → lv_has ls 9 [(7, .int x7_75), (6, .ref (ad (2 + a2.toNatClampNeg))), (0, .ref (ad 0)), (1, .int a1), (4, .int a4), (5, .int a5)] → W p l e (rmo 6 145) s m args below meth c H locs 0 0 Q (F0 m 75 ls [])) ?_ ?_
          · intro x7_75 hf
            intro H locs ls M hl
            refine lv_iload hx hb dX6_takenFor_75 (lv_at hl 0 rfl) ?_
            refine lv_if_eq (tgt := 87) hx hb dX6_takenFor_77 (by decide) (fun c_77 => ?_) (fun c_77 => ?_)
            · replace hf := hf.1 c_77
              refine lv_aload_n hx hb dX6_takenFor_87 rfl (lv_at hl 2 rfl) ?_
              refine x_getR (r := 10) X M rgc_0 fd_X6_21 rfl dX6_takenFor_88 ?_
              refine x_getI X M rgc_10 fd_X6_71 rfl dX6_takenFor_91 ?_
              refine lv_if_ne (tgt := 100) hx hb dX6_takenFor_94 (by decide) (fun c_94 => ?_) (fun c_94 => ?_)
              · replace hf := hf.1 c_94
                refine lv_iconst (v := (0 : Int32)) hx hb dX6_takenFor_100 (by decide) ?_
                refine lv_istore (lv' := [(8, .int (0 : Int32)), (7, .int x7_75), (6, .ref (ad (2 + a2.toNatClampNeg))), (0, .ref (ad 0)), (1, .int a1), (4, .int a4), (5, .int a5)]) hx hb dX6_takenFor_101 hl (by decide) rfl (fun ls hl => ?_)
                refine xjn_w hf (fun (_ : Unit) => ∀ (H : Heap) (locs : List Loc) (ls : Array Slot), xS cS 36 G ad s m_2 H locs → lv_has ls 9 [(6, .ref (ad (2 + a2.toNatClampNeg))), (0, .ref (ad 0)), (1, .int a1), (4, .int a4), (5, .int a5)] → W p l e (rmo 6 145) s m args below meth c H locs 0 0 Q (F0 m 138 ls [])) ?_ ?_
                · intro s_ hf
                  intro H locs ls M hl
                  refine lv_aload_n hx hb dX6_takenFor_138 rfl (lv_at hl 1 rfl) ?_
                  refine x_getR (r := 10) X M rgc_0 fd_X6_21 rfl dX6_takenFor_139 ?_
                  refine lv_aload hx hb dX6_takenFor_142 (lv_at hl 0 rfl) ?_
                  refine lv_iload hx hb dX6_takenFor_144 (lv_at hl 3 rfl) ?_
                  refine lv_iload_n hx hb dX6_takenFor_146 rfl (lv_at hl 2 rfl) ?_
                  refine x_ci (x_rVN (As := [.ref (ad (2 + a2.toNatClampNeg)), .int a4, .int a1]) (rest := []) X M (cm_X5_nearest l G ad hI n (a2.toNatClampNeg) (vp_lt g_45) a4 a1 m_2 _ hf) mc_X5_nearest mv_X5_nearest ln_X6_175 mn_X5_nearest rgc_10 rfl hl ⟨⟨Nat.le_of_ble_eq_true rfl, Nat.le_of_ble_eq_true rfl⟩, rfl, Nat.le_of_ble_eq_true rfl, Nat.zero_le _, Nat.zero_le _⟩ rfl dX6_takenFor_147) M (fun r_147 m_147 H locs hf M => ?_)
                  try dsimp only at hf
                  refine lv_istore (lv' := [(8, .int r_147), (6, .ref (ad (2 + a2.toNatClampNeg))), (0, .ref (ad 0)), (1, .int a1), (4, .int a4), (5, .int a5)]) hx hb dX6_takenFor_150 hl (by decide) rfl (fun ls hl => ?_)
                  refine lv_iload hx hb dX6_takenFor_152 (lv_at hl 5 rfl) ?_
                  refine lv_if_ne (tgt := 162) hx hb dX6_takenFor_154 (by decide) (fun c_154 => ?_) (fun c_154 => ?_)
                  · replace hf := hf.1 c_154
                    refine lv_aload_n hx hb dX6_takenFor_162 rfl (lv_at hl 2 rfl) ?_
                    refine x_getR (r := 10) X M rgc_0 fd_X6_21 rfl dX6_takenFor_163 ?_
                    refine lv_iload hx hb dX6_takenFor_166 (lv_at hl 0 rfl) ?_
                    refine lv_aload hx hb dX6_takenFor_168 (lv_at hl 1 rfl) ?_
                    refine lv_iload hx hb dX6_takenFor_170 (lv_at hl 4 rfl) ?_
                    refine lv_iload_n hx hb dX6_takenFor_172 rfl (lv_at hl 3 rfl) ?_
                    refine x_ci (x_rVN (As := [.int r_147, .ref (ad (2 + a2.toNatClampNeg)), .int a4, .int a1]) (rest := []) X M (cm_X5_apart l G ad hI n r_147 (a2.toNatClampNeg) (vp_lt g_45) a4 a1 m_147 _ hf) mc_X5_apart mv_X5_apart ln_X6_178 mn_X5_apart rgc_10 rfl hl ⟨⟨Nat.le_of_ble_eq_true rfl, Nat.le_of_ble_eq_true rfl⟩, rfl, Nat.le_of_ble_eq_true rfl, Nat.zero_le _, Nat.zero_le _⟩ rfl dX6_takenFor_173) M (fun r_173 m_173 H locs hf M => ?_)
                    try dsimp only at hf
                    rw [hQ]
                    exact x_iret X M hr hlk dX6_takenFor_176 hf
                  · replace hf := hf.2 c_154
                    refine lv_iload hx hb dX6_takenFor_157 (lv_at hl 0 rfl) ?_
                    refine lv_goto (tgt := 176) hx hb dX6_takenFor_159 (by decide) ?_
                    rw [hQ]
                    exact x_iret X M hr hlk dX6_takenFor_176 hf
                · intro J138 hJ138 hf
                  refine xlp_w hf (fun (x8_103 : Int32) => ∀ (H : Heap) (locs : List Loc) (ls : Array Slot), xS cS 36 G ad s m_2 H locs → lv_has ls 9 [(8, .int x8_103), (6, .ref (ad (2 + a2.toNatClampNeg))), (0, .ref (ad 0)), (1, .int a1), (4, .int a4), (5, .int a5)] → W p l e (rmo 6 145) s m args below meth c H locs 0 0 Q (F0 m 103 ls [])) ?_ _ _ _ M (lv_sub hl [0, 2, 3, 4, 5, 6] rfl)
                  intro again103 hagain103 x8_103 hf
                  intro H locs ls M hl
                  refine lv_iload hx hb dX6_takenFor_103 (lv_at hl 0 rfl) ?_
                  refine lv_iconst (v := (3 : Int32)) hx hb dX6_takenFor_105 (by decide) ?_
                  refine lv_icmp_ge (tgt := 138) hx hb dX6_takenFor_106 (by decide) (fun c_106 => ?_) (fun c_106 => ?_)
                  · replace hf := hf.1 c_106
                    exact hJ138 () hf _ _ _ M (lv_sub hl [1, 2, 3, 4, 5] rfl)
                  · replace hf := hf.2 c_106
                    refine lv_aload hx hb dX6_takenFor_109 (lv_at hl 1 rfl) ?_
                    refine x_getR (r := (6 + a2.toNatClampNeg)) X M (rgc_2 (vp_lt g_45)) fd_X6_172 rfl dX6_takenFor_111 ?_
                    refine lv_iload hx hb dX6_takenFor_114 (lv_at hl 4 rfl) ?_
                    refine lv_iload hx hb dX6_takenFor_116 (lv_at hl 0 rfl) ?_
                    refine lv_iadd hx hb dX6_takenFor_118 ?_
                    obtain ⟨g_119, hf⟩ := hf
                    refine x_ild X M (rgc_6 (vp_lt g_45)) g_119 dX6_takenFor_119 ?_
                    refine lv_sipush (v := (1000 : Int32)) hx hb dX6_takenFor_120 (by decide) ?_
                    refine x_ciP (x_rS (As := [.int (m_2 (6 + a2.toNatClampNeg) (a4 + x8_103).toNatClampNeg), .int (1000 : Int32)]) (rest := []) X M (cm_X6_isBelow l G ad hI n (m_2 (6 + a2.toNatClampNeg) (a4 + x8_103).toNatClampNeg) (1000 : Int32) m_2 _ hf) mc_X6_isBelow ms_X6_isBelow lk_X6_100 mn_X6_isBelow hl ⟨⟨Nat.le_of_ble_eq_true rfl, Nat.le_of_ble_eq_true rfl⟩, rfl, Nat.le_of_ble_eq_true rfl, Nat.zero_le _, Nat.zero_le _⟩ rfl dX6_takenFor_123) M (fun r_123 H locs hf M => ?_)
                    try dsimp only at hf
                    refine lv_if_ne (tgt := 132) hx hb dX6_takenFor_126 (by decide) (fun c_126 => ?_) (fun c_126 => ?_)
                    · replace hf := hf.1 c_126
                      obtain ⟨x8_132, ex8_132⟩ : ∃ y : Int32, y = x8_103 + 1 := ⟨_, rfl⟩
                      replace hf := hf x8_132 ex8_132
                      refine lv_iinc (v := x8_132) (lv' := [(8, .int x8_132), (6, .ref (ad (2 + a2.toNatClampNeg))), (0, .ref (ad 0)), (1, .int a1), (4, .int a4), (5, .int a5)]) hx hb dX6_takenFor_132 hl (k := 0) rfl (by rw [ex8_132]; rfl) (by decide) rfl (fun ls hl => ?_)
                      refine lv_goto (tgt := 103) hx hb dX6_takenFor_135 (by decide) ?_
                      exact hagain103 x8_132 hf _ _ _ M (lv_sub hl [0, 1, 2, 3, 4, 5] rfl)
                    · replace hf := hf.2 c_126
                      refine lv_bipush (v := ((-2) : Int32)) hx hb dX6_takenFor_129 (by decide) ?_
                      rw [hQ]
                      exact x_iret X M hr hlk dX6_takenFor_131 hf
              · replace hf := hf.2 c_94
                refine lv_bipush (v := ((-3) : Int32)) hx hb dX6_takenFor_97 (by decide) ?_
                rw [hQ]
                exact x_iret X M hr hlk dX6_takenFor_99 hf
            · replace hf := hf.2 c_77
              refine lv_aload_n hx hb dX6_takenFor_80 rfl (lv_at hl 2 rfl) ?_
              refine lv_iload hx hb dX6_takenFor_81 (lv_at hl 0 rfl) ?_
              refine x_ci (x_rV (As := [.int x7_75]) (rest := []) X M (cm_X6_faulty l G ad hI n x7_75 m_2 _ hf) mc_X6_faulty mv_X6_faulty lk_X6_54 mn_X6_faulty rgc_0 rfl hl ⟨⟨Nat.le_of_ble_eq_true rfl, Nat.le_of_ble_eq_true rfl⟩, rfl, Nat.le_of_ble_eq_true rfl, Nat.zero_le _, Nat.zero_le _⟩ rfl dX6_takenFor_83) M (fun r_83 m_83 H locs hf M => ?_)
              try dsimp only at hf
              rw [hQ]
              exact x_iret X M hr hlk dX6_takenFor_86 hf
          · intro J75 hJ75 hf
            refine lv_if_ne (tgt := 75) hx hb dX6_takenFor_58 (by decide) (fun c_58 => ?_) (fun c_58 => ?_)
            · replace hf := hf.1 c_58
              exact hJ75 r_51 hf _ _ _ M (lv_sub hl [0, 1, 2, 3, 6, 7] rfl)
            · replace hf := hf.2 c_58
              refine lv_aload hx hb dX6_takenFor_61 (lv_at hl 1 rfl) ?_
              refine lv_iload hx hb dX6_takenFor_63 (lv_at hl 6 rfl) ?_
              refine lv_iconst (v := (3 : Int32)) hx hb dX6_takenFor_65 (by decide) ?_
              refine x_ciP (x_rVN (As := [.int a4, .int (3 : Int32)]) (rest := []) X M (cm_X2_hasRun l G ad hI n (a2.toNatClampNeg) (vp_lt g_45) a4 (3 : Int32) m_2 _ hf) mc_X2_hasRun mv_X2_hasRun ln_X6_50 mn_X2_hasRun (rgc_2 (vp_lt g_45)) rfl hl ⟨⟨Nat.le_of_ble_eq_true rfl, Nat.le_of_ble_eq_true rfl⟩, rfl, Nat.le_of_ble_eq_true rfl, Nat.zero_le _, Nat.zero_le _⟩ rfl dX6_takenFor_66) M (fun r_66 H locs hf M => ?_)
              try dsimp only at hf
              refine lv_if_ne (tgt := 75) hx hb dX6_takenFor_69 (by decide) (fun c_69 => ?_) (fun c_69 => ?_)
              · replace hf := hf.1 c_69
                exact hJ75 r_51 hf _ _ _ M (lv_sub hl [0, 1, 2, 3, 6, 7] rfl)
              · replace hf := hf.2 c_69
                refine lv_iconst (v := (3 : Int32)) hx hb dX6_takenFor_72 (by decide) ?_
                refine lv_istore (lv' := [(7, .int (3 : Int32)), (6, .ref (ad (2 + a2.toNatClampNeg))), (0, .ref (ad 0)), (1, .int a1), (2, .int a2), (3, .int a3), (4, .int a4), (5, .int a5)]) hx hb dX6_takenFor_73 hl (by decide) rfl (fun ls hl => ?_)
                exact hJ75 (3 : Int32) hf _ _ _ M (lv_sub hl [0, 1, 2, 3, 6, 7] rfl)
        · replace hf := hf.2 c_34
          refine lv_bipush (v := ((-2) : Int32)) hx hb dX6_takenFor_37 (by decide) ?_
          rw [hQ]
          exact x_iret X M hr hlk dX6_takenFor_39 hf
  · replace hf := hf.2 c_9
    refine lv_iconst (v := ((-1) : Int32)) hx hb dX6_takenFor_12 (by decide) ?_
    rw [hQ]
    exact x_iret X M hr hlk dX6_takenFor_13 hf
def wp_X6_whose (n : Nat) (a1 : Int32) (a2 : Int32) (μ : xM) (K : Int32 → xM → Prop) : Prop :=
  wp_X6_isDawn n a2 μ (fun r_1 : Int32 => ((¬ r_1 = 0 → xlp (fun (again15 : (Int32 × Int32 × xM) → Prop) => fun (s_ : Int32 × Int32 × xM) => match s_ with | (x4_15, x3_15, m_15) => (((m_15 10 6) ≤ x4_15 → K x3_15 m_15) ∧ (¬ (m_15 10 6) ≤ x4_15 → wp_X5_inPuddle n x4_15 a2 m_15 (fun (r_34 : Int32) (m_34 : xM) => ((¬ r_34 = a1 → (∀ x4_48 : Int32, x4_48 = x4_15 + 1 → again15 (x4_48, x3_15, m_34))) ∧ (r_34 = a1 → (∀ x3_47 : Int32, x3_47 = x3_15 ||| ((1 : Int32) <<< (x4_15 &&& 31)) → (∀ x4_48 : Int32, x4_48 = x4_15 + 1 → again15 (x4_48, x3_47, m_34))))))))) n ((0 : Int32), (0 : Int32), μ)) ∧ (r_1 = 0 → K ((-2) : Int32) μ)))
set_option maxHeartbeats 4000000 in
set_option maxRecDepth 100000 in
theorem cm_X6_whose (l : Launch) (G : xG) (ad : Nat → Nat) (hI : xI 36 ad) (n : Nat) (a1 : Int32) (a2 : Int32) (μ : xM) (K : Int32 → xM → Prop) (hf : wp_X6_whose n a1 a2 μ K) : Met l yX6_whose (Cond.code yX6_whose cX6_whose 5 (some .int) :: xw_all) (rmo 6 138) (va_Pc [.ref (ad 0), .int a1, .int a2] (xPre cS 36 G ad μ)) (xQi cS 36 G ad K) 0 0 (xR 36 ad) := by
  refine x_ent (nL := 5) (own := RX6) (by decide) rfl hI (Nat.le_of_ble_eq_true rfl) ?_
  intro p e s m args below meth c H locs ls Q X hr hlk hQ M hl
  have hx := X.1.1
  have hb := X.1.2.1
  have hown := X.1.2.2.2.1
  have hts := X.1.2.2.2.2
  have hl : lv_has ls 5 [(0, .ref (ad 0)), (1, .int a1), (2, .int a2)] := hl
  unfold wp_X6_whose at hf
  refine lv_iload_n hx hb dX6_whose_0 rfl (lv_at hl 2 rfl) ?_
  refine x_ciP (x_rS (As := [.int a2]) (rest := []) X M (cm_X6_isDawn l G ad hI n a2 μ _ hf) mc_X6_isDawn ms_X6_isDawn lk_X6_119 mn_X6_isDawn hl ⟨⟨Nat.le_of_ble_eq_true rfl, Nat.le_of_ble_eq_true rfl⟩, rfl, Nat.le_of_ble_eq_true rfl, Nat.zero_le _, Nat.zero_le _⟩ rfl dX6_whose_1) M (fun r_1 H locs hf M => ?_)
  try dsimp only at hf
  refine lv_if_ne (tgt := 10) hx hb dX6_whose_4 (by decide) (fun c_4 => ?_) (fun c_4 => ?_)
  · replace hf := hf.1 c_4
    refine lv_iconst (v := (0 : Int32)) hx hb dX6_whose_10 (by decide) ?_
    refine lv_istore_n (lv' := [(3, .int (0 : Int32)), (0, .ref (ad 0)), (1, .int a1), (2, .int a2)]) hx hb dX6_whose_11 rfl hl (by decide) rfl (fun ls hl => ?_)
    refine lv_iconst (v := (0 : Int32)) hx hb dX6_whose_12 (by decide) ?_
    refine lv_istore (lv' := [(4, .int (0 : Int32)), (3, .int (0 : Int32)), (0, .ref (ad 0)), (1, .int a1), (2, .int a2)]) hx hb dX6_whose_13 hl (by decide) rfl (fun ls hl => ?_)
    refine xlp_w hf (fun (s_ : Int32 × Int32 × xM) => match s_ with | (x4_15, x3_15, m_15) => ∀ (H : Heap) (locs : List Loc) (ls : Array Slot), xS cS 36 G ad s m_15 H locs → lv_has ls 5 [(4, .int x4_15), (3, .int x3_15), (0, .ref (ad 0)), (1, .int a1), (2, .int a2)] → W p l e (rmo 6 138) s m args below meth c H locs 0 0 Q (F0 m 15 ls [])) ?_ _ _ _ M (lv_sub hl [0, 1, 2, 3, 4] rfl)
    intro again15 hagain15 s_ hf
    obtain ⟨x4_15, x3_15, m_15⟩ := s_
    try dsimp only at hf ⊢
    intro H locs ls M hl
    refine lv_iload hx hb dX6_whose_15 (lv_at hl 0 rfl) ?_
    refine lv_aload_n hx hb dX6_whose_17 rfl (lv_at hl 2 rfl) ?_
    refine x_getR (r := 10) X M rgc_0 fd_X6_21 rfl dX6_whose_18 ?_
    refine x_getI X M rgc_10 fd_X6_71 rfl dX6_whose_21 ?_
    refine lv_icmp_ge (tgt := 54) hx hb dX6_whose_24 (by decide) (fun c_24 => ?_) (fun c_24 => ?_)
    · replace hf := hf.1 c_24
      refine lv_iload_n hx hb dX6_whose_54 rfl (lv_at hl 1 rfl) ?_
      rw [hQ]
      exact x_iret X M hr hlk dX6_whose_55 hf
    · replace hf := hf.2 c_24
      refine lv_aload_n hx hb dX6_whose_27 rfl (lv_at hl 2 rfl) ?_
      refine x_getR (r := 10) X M rgc_0 fd_X6_21 rfl dX6_whose_28 ?_
      refine lv_iload hx hb dX6_whose_31 (lv_at hl 0 rfl) ?_
      refine lv_iload_n hx hb dX6_whose_33 rfl (lv_at hl 4 rfl) ?_
      refine x_ci (x_rVN (As := [.int x4_15, .int a2]) (rest := []) X M (cm_X5_inPuddle l G ad hI n x4_15 a2 m_15 _ hf) mc_X5_inPuddle mv_X5_inPuddle ln_X6_126 mn_X5_inPuddle rgc_10 rfl hl ⟨⟨Nat.le_of_ble_eq_true rfl, Nat.le_of_ble_eq_true rfl⟩, rfl, Nat.le_of_ble_eq_true rfl, Nat.zero_le _, Nat.zero_le _⟩ rfl dX6_whose_34) M (fun r_34 m_34 H locs hf M => ?_)
      try dsimp only at hf
      refine lv_iload_n hx hb dX6_whose_37 rfl (lv_at hl 3 rfl) ?_
      refine lv_icmp_ne (tgt := 48) hx hb dX6_whose_38 (by decide) (fun c_38 => ?_) (fun c_38 => ?_)
      · replace hf := hf.1 c_38
        obtain ⟨x4_48, ex4_48⟩ : ∃ y : Int32, y = x4_15 + 1 := ⟨_, rfl⟩
        replace hf := hf x4_48 ex4_48
        refine lv_iinc (v := x4_48) (lv' := [(4, .int x4_48), (3, .int x3_15), (0, .ref (ad 0)), (1, .int a1), (2, .int a2)]) hx hb dX6_whose_48 hl (k := 0) rfl (by rw [ex4_48]; rfl) (by decide) rfl (fun ls hl => ?_)
        refine lv_goto (tgt := 15) hx hb dX6_whose_51 (by decide) ?_
        exact hagain15 (x4_48, x3_15, m_34) hf _ _ _ M (lv_sub hl [0, 1, 2, 3, 4] rfl)
      · replace hf := hf.2 c_38
        refine lv_iload_n hx hb dX6_whose_41 rfl (lv_at hl 1 rfl) ?_
        refine lv_iconst (v := (1 : Int32)) hx hb dX6_whose_42 (by decide) ?_
        refine lv_iload hx hb dX6_whose_43 (lv_at hl 0 rfl) ?_
        refine lv_ishl hx hb dX6_whose_45 ?_
        refine lv_ior hx hb dX6_whose_46 ?_
        refine lv_topi (fun x3_47 ex3_47 => ?_)
        replace hf := hf x3_47 ex3_47
        refine lv_istore_n (lv' := [(3, .int x3_47), (4, .int x4_15), (0, .ref (ad 0)), (1, .int a1), (2, .int a2)]) hx hb dX6_whose_47 rfl hl (by decide) rfl (fun ls hl => ?_)
        obtain ⟨x4_48, ex4_48⟩ : ∃ y : Int32, y = x4_15 + 1 := ⟨_, rfl⟩
        replace hf := hf x4_48 ex4_48
        refine lv_iinc (v := x4_48) (lv' := [(4, .int x4_48), (3, .int x3_47), (0, .ref (ad 0)), (1, .int a1), (2, .int a2)]) hx hb dX6_whose_48 hl (k := 1) rfl (by rw [ex4_48]; rfl) (by decide) rfl (fun ls hl => ?_)
        refine lv_goto (tgt := 15) hx hb dX6_whose_51 (by decide) ?_
        exact hagain15 (x4_48, x3_47, m_34) hf _ _ _ M (lv_sub hl [0, 1, 2, 3, 4] rfl)
  · replace hf := hf.2 c_4
    refine lv_bipush (v := ((-2) : Int32)) hx hb dX6_whose_7 (by decide) ?_
    rw [hQ]
    exact x_iret X M hr hlk dX6_whose_9 hf
def wp_X6_reading (n : Nat) (a1 : Int32) (a2 : Int32) (a3 : Int32) (a4 : Int32) (μ : xM) (K : Int32 → xM → Prop) : Prop :=
  wp_X6_isStatue n a1 μ (fun r_2 : Int32 => ((r_2 = 0 → K ((-1) : Int32) μ) ∧ (¬ r_2 = 0 → wp_X6_isBelow n a2 (3 : Int32) μ (fun r_10 : Int32 => ((¬ r_10 = 0 → wp_X6_isDawn n a3 μ (fun r_19 : Int32 => ((r_19 = 0 → K ((-2) : Int32) μ) ∧ (¬ r_19 = 0 → wp_X6_isBelow n a4 (100 : Int32) μ (fun r_29 : Int32 => ((¬ r_29 = 0 → (((μ 31 4) < (8 : Int32) → wp_X1_note n a1 a2 a3 a4 μ (fun (r_62 : Int32) (m_62 : xM) => K r_62 m_62)) ∧ (¬ (μ 31 4) < (8 : Int32) → K ((-4) : Int32) μ))) ∧ (r_29 = 0 → K ((-2) : Int32) μ))))))) ∧ (r_10 = 0 → K ((-1) : Int32) μ))))))
set_option maxHeartbeats 4000000 in
set_option maxRecDepth 100000 in
theorem cm_X6_reading (l : Launch) (G : xG) (ad : Nat → Nat) (hI : xI 36 ad) (n : Nat) (a1 : Int32) (a2 : Int32) (a3 : Int32) (a4 : Int32) (μ : xM) (K : Int32 → xM → Prop) (hf : wp_X6_reading n a1 a2 a3 a4 μ K) : Met l yX6_reading (Cond.code yX6_reading cX6_reading 5 (some .int) :: xw_all) (rmo 2 42) (va_Pc [.ref (ad 0), .int a1, .int a2, .int a3, .int a4] (xPre cS 36 G ad μ)) (xQi cS 36 G ad K) 0 0 (xR 36 ad) := by
  refine x_ent (nL := 5) (own := RX6) (by decide) rfl hI (Nat.le_of_ble_eq_true rfl) ?_
  intro p e s m args below meth c H locs ls Q X hr hlk hQ M hl
  have hx := X.1.1
  have hb := X.1.2.1
  have hown := X.1.2.2.2.1
  have hts := X.1.2.2.2.2
  have hl : lv_has ls 5 [(0, .ref (ad 0)), (1, .int a1), (2, .int a2), (3, .int a3), (4, .int a4)] := hl
  unfold wp_X6_reading at hf
  refine lv_aload_n hx hb dX6_reading_0 rfl (lv_at hl 0 rfl) ?_
  refine lv_iload_n hx hb dX6_reading_1 rfl (lv_at hl 1 rfl) ?_
  refine x_ciP (x_rV (As := [.int a1]) (rest := []) X M (cm_X6_isStatue l G ad hI n a1 μ _ hf) mc_X6_isStatue mv_X6_isStatue lk_X6_74 mn_X6_isStatue rgc_0 rfl hl ⟨⟨Nat.le_of_ble_eq_true rfl, Nat.le_of_ble_eq_true rfl⟩, rfl, Nat.le_of_ble_eq_true rfl, Nat.zero_le _, Nat.zero_le _⟩ rfl dX6_reading_2) M (fun r_2 H locs hf M => ?_)
  try dsimp only at hf
  refine lv_if_eq (tgt := 16) hx hb dX6_reading_5 (by decide) (fun c_5 => ?_) (fun c_5 => ?_)
  · replace hf := hf.1 c_5
    refine lv_iconst (v := ((-1) : Int32)) hx hb dX6_reading_16 (by decide) ?_
    rw [hQ]
    exact x_iret X M hr hlk dX6_reading_17 hf
  · replace hf := hf.2 c_5
    refine lv_iload_n hx hb dX6_reading_8 rfl (lv_at hl 2 rfl) ?_
    refine lv_iconst (v := (3 : Int32)) hx hb dX6_reading_9 (by decide) ?_
    refine x_ciP (x_rS (As := [.int a2, .int (3 : Int32)]) (rest := []) X M (cm_X6_isBelow l G ad hI n a2 (3 : Int32) μ _ hf) mc_X6_isBelow ms_X6_isBelow lk_X6_100 mn_X6_isBelow hl ⟨⟨Nat.le_of_ble_eq_true rfl, Nat.le_of_ble_eq_true rfl⟩, rfl, Nat.le_of_ble_eq_true rfl, Nat.zero_le _, Nat.zero_le _⟩ rfl dX6_reading_10) M (fun r_10 H locs hf M => ?_)
    try dsimp only at hf
    refine lv_if_ne (tgt := 18) hx hb dX6_reading_13 (by decide) (fun c_13 => ?_) (fun c_13 => ?_)
    · replace hf := hf.1 c_13
      refine lv_iload_n hx hb dX6_reading_18 rfl (lv_at hl 3 rfl) ?_
      refine x_ciP (x_rS (As := [.int a3]) (rest := []) X M (cm_X6_isDawn l G ad hI n a3 μ _ hf) mc_X6_isDawn ms_X6_isDawn lk_X6_119 mn_X6_isDawn hl ⟨⟨Nat.le_of_ble_eq_true rfl, Nat.le_of_ble_eq_true rfl⟩, rfl, Nat.le_of_ble_eq_true rfl, Nat.zero_le _, Nat.zero_le _⟩ rfl dX6_reading_19) M (fun r_19 H locs hf M => ?_)
      try dsimp only at hf
      refine lv_if_eq (tgt := 35) hx hb dX6_reading_22 (by decide) (fun c_22 => ?_) (fun c_22 => ?_)
      · replace hf := hf.1 c_22
        refine lv_bipush (v := ((-2) : Int32)) hx hb dX6_reading_35 (by decide) ?_
        rw [hQ]
        exact x_iret X M hr hlk dX6_reading_37 hf
      · replace hf := hf.2 c_22
        refine lv_iload hx hb dX6_reading_25 (lv_at hl 4 rfl) ?_
        refine lv_bipush (v := (100 : Int32)) hx hb dX6_reading_27 (by decide) ?_
        refine x_ciP (x_rS (As := [.int a4, .int (100 : Int32)]) (rest := []) X M (cm_X6_isBelow l G ad hI n a4 (100 : Int32) μ _ hf) mc_X6_isBelow ms_X6_isBelow lk_X6_100 mn_X6_isBelow hl ⟨⟨Nat.le_of_ble_eq_true rfl, Nat.le_of_ble_eq_true rfl⟩, rfl, Nat.le_of_ble_eq_true rfl, Nat.zero_le _, Nat.zero_le _⟩ rfl dX6_reading_29) M (fun r_29 H locs hf M => ?_)
        try dsimp only at hf
        refine lv_if_ne (tgt := 38) hx hb dX6_reading_32 (by decide) (fun c_32 => ?_) (fun c_32 => ?_)
        · replace hf := hf.1 c_32
          refine lv_aload_n hx hb dX6_reading_38 rfl (lv_at hl 0 rfl) ?_
          refine x_getR (r := 31) X M rgc_0 fd_X6_28 rfl dX6_reading_39 ?_
          refine x_getI X M rgc_31 fd_X6_182 rfl dX6_reading_42 ?_
          refine lv_bipush (v := (8 : Int32)) hx hb dX6_reading_45 (by decide) ?_
          refine lv_icmp_lt (tgt := 53) hx hb dX6_reading_47 (by decide) (fun c_47 => ?_) (fun c_47 => ?_)
          · replace hf := hf.1 c_47
            refine lv_aload_n hx hb dX6_reading_53 rfl (lv_at hl 0 rfl) ?_
            refine x_getR (r := 31) X M rgc_0 fd_X6_28 rfl dX6_reading_54 ?_
            refine lv_iload_n hx hb dX6_reading_57 rfl (lv_at hl 1 rfl) ?_
            refine lv_iload_n hx hb dX6_reading_58 rfl (lv_at hl 2 rfl) ?_
            refine lv_iload_n hx hb dX6_reading_59 rfl (lv_at hl 3 rfl) ?_
            refine lv_iload hx hb dX6_reading_60 (lv_at hl 4 rfl) ?_
            refine x_ci (x_rVN (As := [.int a1, .int a2, .int a3, .int a4]) (rest := []) X M (cm_X1_note l G ad hI n a1 a2 a3 a4 μ _ hf) mc_X1_note mv_X1_note ln_X6_183 mn_X1_note rgc_31 rfl hl ⟨⟨Nat.le_of_ble_eq_true rfl, Nat.le_of_ble_eq_true rfl⟩, rfl, Nat.le_of_ble_eq_true rfl, Nat.zero_le _, Nat.zero_le _⟩ rfl dX6_reading_62) M (fun r_62 m_62 H locs hf M => ?_)
            try dsimp only at hf
            rw [hQ]
            exact x_iret X M hr hlk dX6_reading_65 hf
          · replace hf := hf.2 c_47
            refine lv_bipush (v := ((-4) : Int32)) hx hb dX6_reading_50 (by decide) ?_
            rw [hQ]
            exact x_iret X M hr hlk dX6_reading_52 hf
        · replace hf := hf.2 c_32
          refine lv_bipush (v := ((-2) : Int32)) hx hb dX6_reading_35 (by decide) ?_
          rw [hQ]
          exact x_iret X M hr hlk dX6_reading_37 hf
    · replace hf := hf.2 c_13
      refine lv_iconst (v := ((-1) : Int32)) hx hb dX6_reading_16 (by decide) ?_
      rw [hQ]
      exact x_iret X M hr hlk dX6_reading_17 hf
def wp_X6_back (n : Nat) (a1 : Int32) (μ : xM) (K : Int32 → xM → Prop) : Prop :=
  wp_X6_isBelow n a1 ((μ 31 4) + (1 : Int32)) μ (fun r_10 : Int32 => ((¬ r_10 = 0 → wp_X1_keep n ((μ 31 4) - a1) μ (fun m_32 : xM => K (m_32 31 4) m_32)) ∧ (r_10 = 0 → K ((-2) : Int32) μ)))
set_option maxHeartbeats 4000000 in
set_option maxRecDepth 100000 in
theorem cm_X6_back (l : Launch) (G : xG) (ad : Nat → Nat) (hI : xI 36 ad) (n : Nat) (a1 : Int32) (μ : xM) (K : Int32 → xM → Prop) (hf : wp_X6_back n a1 μ K) : Met l yX6_back (Cond.code yX6_back cX6_back 2 (some .int) :: xw_all) (rmo 1 21) (va_Pc [.ref (ad 0), .int a1] (xPre cS 36 G ad μ)) (xQi cS 36 G ad K) 0 0 (xR 36 ad) := by
  refine x_ent (nL := 2) (own := RX6) (by decide) rfl hI (Nat.le_of_ble_eq_true rfl) ?_
  intro p e s m args below meth c H locs ls Q X hr hlk hQ M hl
  have hx := X.1.1
  have hb := X.1.2.1
  have hown := X.1.2.2.2.1
  have hts := X.1.2.2.2.2
  have hl : lv_has ls 2 [(0, .ref (ad 0)), (1, .int a1)] := hl
  unfold wp_X6_back at hf
  refine lv_iload_n hx hb dX6_back_0 rfl (lv_at hl 1 rfl) ?_
  refine lv_aload_n hx hb dX6_back_1 rfl (lv_at hl 0 rfl) ?_
  refine x_getR (r := 31) X M rgc_0 fd_X6_28 rfl dX6_back_2 ?_
  refine x_getI X M rgc_31 fd_X6_182 rfl dX6_back_5 ?_
  refine lv_iconst (v := (1 : Int32)) hx hb dX6_back_8 (by decide) ?_
  refine lv_iadd hx hb dX6_back_9 ?_
  refine x_ciP (x_rS (As := [.int a1, .int ((μ 31 4) + (1 : Int32))]) (rest := []) X M (cm_X6_isBelow l G ad hI n a1 ((μ 31 4) + (1 : Int32)) μ _ hf) mc_X6_isBelow ms_X6_isBelow lk_X6_100 mn_X6_isBelow hl ⟨⟨Nat.le_of_ble_eq_true rfl, Nat.le_of_ble_eq_true rfl⟩, rfl, Nat.le_of_ble_eq_true rfl, Nat.zero_le _, Nat.zero_le _⟩ rfl dX6_back_10) M (fun r_10 H locs hf M => ?_)
  try dsimp only at hf
  refine lv_if_ne (tgt := 19) hx hb dX6_back_13 (by decide) (fun c_13 => ?_) (fun c_13 => ?_)
  · replace hf := hf.1 c_13
    refine lv_aload_n hx hb dX6_back_19 rfl (lv_at hl 0 rfl) ?_
    refine x_getR (r := 31) X M rgc_0 fd_X6_28 rfl dX6_back_20 ?_
    refine lv_aload_n hx hb dX6_back_23 rfl (lv_at hl 0 rfl) ?_
    refine x_getR (r := 31) X M rgc_0 fd_X6_28 rfl dX6_back_24 ?_
    refine x_getI X M rgc_31 fd_X6_182 rfl dX6_back_27 ?_
    refine lv_iload_n hx hb dX6_back_30 rfl (lv_at hl 1 rfl) ?_
    refine lv_isub hx hb dX6_back_31 ?_
    refine x_cv (x_rVN (As := [.int ((μ 31 4) - a1)]) (rest := []) X M (cm_X1_keep l G ad hI n ((μ 31 4) - a1) μ _ hf) mc_X1_keep mv_X1_keep ln_X6_67 mn_X1_keep rgc_31 rfl hl ⟨⟨Nat.le_of_ble_eq_true rfl, Nat.le_of_ble_eq_true rfl⟩, rfl, Nat.le_of_ble_eq_true rfl, Nat.zero_le _, Nat.zero_le _⟩ rfl dX6_back_32) M (fun m_32 H locs hf M => ?_)
    try dsimp only at hf
    refine lv_aload_n hx hb dX6_back_35 rfl (lv_at hl 0 rfl) ?_
    refine x_getR (r := 31) X M rgc_0 fd_X6_28 rfl dX6_back_36 ?_
    refine x_getI X M rgc_31 fd_X6_182 rfl dX6_back_39 ?_
    rw [hQ]
    exact x_iret X M hr hlk dX6_back_42 hf
  · replace hf := hf.2 c_13
    refine lv_bipush (v := ((-2) : Int32)) hx hb dX6_back_16 (by decide) ?_
    rw [hQ]
    exact x_iret X M hr hlk dX6_back_18 hf
def wp_X6_rains (n : Nat) (a1 : Int32) (μ : xM) (K : Int32 → xM → Prop) : Prop :=
  wp_X6_isBelow n a1 (60 : Int32) μ (fun r_3 : Int32 => ((¬ r_3 = 0 → ((¬ (μ 10 6) = 0 → (vp_in a1 60 ∧ (∀ x2_34 : Int32, x2_34 = μ 12 a1.toNatClampNeg → xjn (fun (s_ : Int32 × xM) => match s_ with | (x3_84, m_84) => wp_X5_letRain n a1 x2_34 m_84 (fun m_90 : xM => K x3_84 m_90)) (fun J84 : (Int32 × xM) → Prop => xlp (fun (again40 : (Int32 × Int32 × xM) → Prop) => fun (s_ : Int32 × Int32 × xM) => match s_ with | (x4_40, x3_40, m_40) => (((9 : Int32) < x4_40 → J84 (x3_40, m_40)) ∧ (¬ (9 : Int32) < x4_40 → wp_X5_letRain n a1 x4_40 m_40 (fun m_54 : xM => wp_X1_allHold n m_54 (fun (r_65 : Int32) (m_65 : xM) => ((r_65 = 0 → (∀ x4_78 : Int32, x4_78 = x4_40 + 1 → again40 (x4_78, x3_40, m_65))) ∧ (¬ r_65 = 0 → (∀ x3_77 : Int32, x3_77 = x3_40 ||| ((1 : Int32) <<< (x4_40 &&& 31)) → (∀ x4_78 : Int32, x4_78 = x4_40 + 1 → again40 (x4_78, x3_77, m_65)))))))))) n ((0 : Int32), (0 : Int32), μ))))) ∧ ((μ 10 6) = 0 → K ((-3) : Int32) μ))) ∧ (r_3 = 0 → K ((-2) : Int32) μ)))
set_option maxHeartbeats 4000000 in
set_option maxRecDepth 100000 in
theorem cm_X6_rains (l : Launch) (G : xG) (ad : Nat → Nat) (hI : xI 36 ad) (n : Nat) (a1 : Int32) (μ : xM) (K : Int32 → xM → Prop) (hf : wp_X6_rains n a1 μ K) : Met l yX6_rains (Cond.code yX6_rains cX6_rains 5 (some .int) :: xw_all) (rmo 6 139) (va_Pc [.ref (ad 0), .int a1] (xPre cS 36 G ad μ)) (xQi cS 36 G ad K) 0 0 (xR 36 ad) := by
  refine x_ent (nL := 5) (own := RX6) (by decide) rfl hI (Nat.le_of_ble_eq_true rfl) ?_
  intro p e s m args below meth c H locs ls Q X hr hlk hQ M hl
  have hx := X.1.1
  have hb := X.1.2.1
  have hown := X.1.2.2.2.1
  have hts := X.1.2.2.2.2
  have hl : lv_has ls 5 [(0, .ref (ad 0)), (1, .int a1)] := hl
  unfold wp_X6_rains at hf
  refine lv_iload_n hx hb dX6_rains_0 rfl (lv_at hl 1 rfl) ?_
  refine lv_bipush (v := (60 : Int32)) hx hb dX6_rains_1 (by decide) ?_
  refine x_ciP (x_rS (As := [.int a1, .int (60 : Int32)]) (rest := []) X M (cm_X6_isBelow l G ad hI n a1 (60 : Int32) μ _ hf) mc_X6_isBelow ms_X6_isBelow lk_X6_100 mn_X6_isBelow hl ⟨⟨Nat.le_of_ble_eq_true rfl, Nat.le_of_ble_eq_true rfl⟩, rfl, Nat.le_of_ble_eq_true rfl, Nat.zero_le _, Nat.zero_le _⟩ rfl dX6_rains_3) M (fun r_3 H locs hf M => ?_)
  try dsimp only at hf
  refine lv_if_ne (tgt := 12) hx hb dX6_rains_6 (by decide) (fun c_6 => ?_) (fun c_6 => ?_)
  · replace hf := hf.1 c_6
    refine lv_aload_n hx hb dX6_rains_12 rfl (lv_at hl 0 rfl) ?_
    refine x_getR (r := 10) X M rgc_0 fd_X6_21 rfl dX6_rains_13 ?_
    refine x_getI X M rgc_10 fd_X6_71 rfl dX6_rains_16 ?_
    refine lv_if_ne (tgt := 25) hx hb dX6_rains_19 (by decide) (fun c_19 => ?_) (fun c_19 => ?_)
    · replace hf := hf.1 c_19
      refine lv_aload_n hx hb dX6_rains_25 rfl (lv_at hl 0 rfl) ?_
      refine x_getR (r := 10) X M rgc_0 fd_X6_21 rfl dX6_rains_26 ?_
      refine x_getR (r := 12) X M rgc_10 fd_X6_106 rfl dX6_rains_29 ?_
      refine lv_iload_n hx hb dX6_rains_32 rfl (lv_at hl 1 rfl) ?_
      obtain ⟨g_33, hf⟩ := hf
      refine x_ild X M rgc_12 g_33 dX6_rains_33 ?_
      refine lv_topi (fun x2_34 ex2_34 => ?_)
      replace hf := hf x2_34 ex2_34
      refine lv_istore_n (lv' := [(2, .int x2_34), (0, .ref (ad 0)), (1, .int a1)]) hx hb dX6_rains_34 rfl hl (by decide) rfl (fun ls hl => ?_)
      refine lv_iconst (v := (0 : Int32)) hx hb dX6_rains_35 (by decide) ?_
      refine lv_istore_n (lv' := [(3, .int (0 : Int32)), (2, .int x2_34), (0, .ref (ad 0)), (1, .int a1)]) hx hb dX6_rains_36 rfl hl (by decide) rfl (fun ls hl => ?_)
      refine lv_iconst (v := (0 : Int32)) hx hb dX6_rains_37 (by decide) ?_
      refine lv_istore (lv' := [(4, .int (0 : Int32)), (3, .int (0 : Int32)), (2, .int x2_34), (0, .ref (ad 0)), (1, .int a1)]) hx hb dX6_rains_38 hl (by decide) rfl (fun ls hl => ?_)
      refine xjn_w hf (fun (s_ : Int32 × xM) => match s_ with | (x3_84, m_84) => ∀ (H : Heap) (locs : List Loc) (ls : Array Slot), xS cS 36 G ad s m_84 H locs → lv_has ls 5 [(3, .int x3_84), (2, .int x2_34), (0, .ref (ad 0)), (1, .int a1)] → W p l e (rmo 6 139) s m args below meth c H locs 0 0 Q (F0 m 84 ls [])) ?_ ?_
      · intro s_ hf
        obtain ⟨x3_84, m_84⟩ := s_
        try dsimp only at hf ⊢
        intro H locs ls M hl
        refine lv_aload_n hx hb dX6_rains_84 rfl (lv_at hl 2 rfl) ?_
        refine x_getR (r := 10) X M rgc_0 fd_X6_21 rfl dX6_rains_85 ?_
        refine lv_iload_n hx hb dX6_rains_88 rfl (lv_at hl 3 rfl) ?_
        refine lv_iload_n hx hb dX6_rains_89 rfl (lv_at hl 1 rfl) ?_
        refine x_cv (x_rVN (As := [.int a1, .int x2_34]) (rest := []) X M (cm_X5_letRain l G ad hI n a1 x2_34 m_84 _ hf) mc_X5_letRain mv_X5_letRain ln_X6_112 mn_X5_letRain rgc_10 rfl hl ⟨⟨Nat.le_of_ble_eq_true rfl, Nat.le_of_ble_eq_true rfl⟩, rfl, Nat.le_of_ble_eq_true rfl, Nat.zero_le _, Nat.zero_le _⟩ rfl dX6_rains_90) M (fun m_90 H locs hf M => ?_)
        try dsimp only at hf
        refine lv_iload_n hx hb dX6_rains_93 rfl (lv_at hl 0 rfl) ?_
        rw [hQ]
        exact x_iret X M hr hlk dX6_rains_94 hf
      · intro J84 hJ84 hf
        refine xlp_w hf (fun (s_ : Int32 × Int32 × xM) => match s_ with | (x4_40, x3_40, m_40) => ∀ (H : Heap) (locs : List Loc) (ls : Array Slot), xS cS 36 G ad s m_40 H locs → lv_has ls 5 [(4, .int x4_40), (3, .int x3_40), (2, .int x2_34), (0, .ref (ad 0)), (1, .int a1)] → W p l e (rmo 6 139) s m args below meth c H locs 0 0 Q (F0 m 40 ls [])) ?_ _ _ _ M (lv_sub hl [0, 1, 2, 3, 4] rfl)
        intro again40 hagain40 s_ hf
        obtain ⟨x4_40, x3_40, m_40⟩ := s_
        try dsimp only at hf ⊢
        intro H locs ls M hl
        refine lv_iload hx hb dX6_rains_40 (lv_at hl 0 rfl) ?_
        refine lv_bipush (v := (9 : Int32)) hx hb dX6_rains_42 (by decide) ?_
        refine lv_icmp_gt (tgt := 84) hx hb dX6_rains_44 (by decide) (fun c_44 => ?_) (fun c_44 => ?_)
        · replace hf := hf.1 c_44
          exact hJ84 (x3_40, m_40) hf _ _ _ M (lv_sub hl [1, 2, 3, 4] rfl)
        · replace hf := hf.2 c_44
          refine lv_aload_n hx hb dX6_rains_47 rfl (lv_at hl 3 rfl) ?_
          refine x_getR (r := 10) X M rgc_0 fd_X6_21 rfl dX6_rains_48 ?_
          refine lv_iload_n hx hb dX6_rains_51 rfl (lv_at hl 4 rfl) ?_
          refine lv_iload hx hb dX6_rains_52 (lv_at hl 0 rfl) ?_
          refine x_cv (x_rVN (As := [.int a1, .int x4_40]) (rest := []) X M (cm_X5_letRain l G ad hI n a1 x4_40 m_40 _ hf) mc_X5_letRain mv_X5_letRain ln_X6_112 mn_X5_letRain rgc_10 rfl hl ⟨⟨Nat.le_of_ble_eq_true rfl, Nat.le_of_ble_eq_true rfl⟩, rfl, Nat.le_of_ble_eq_true rfl, Nat.zero_le _, Nat.zero_le _⟩ rfl dX6_rains_54) M (fun m_54 H locs hf M => ?_)
          try dsimp only at hf
          refine lv_aload_n hx hb dX6_rains_57 rfl (lv_at hl 3 rfl) ?_
          refine x_getR (r := 31) X M rgc_0 fd_X6_28 rfl dX6_rains_58 ?_
          refine lv_aload_n hx hb dX6_rains_61 rfl (lv_at hl 3 rfl) ?_
          refine x_getR (r := 10) X M rgc_0 fd_X6_21 rfl dX6_rains_62 ?_
          refine x_ci (x_rVN (As := [.ref (ad 10)]) (rest := []) X M (cm_X1_allHold l G ad hI n m_54 _ hf) mc_X1_allHold mv_X1_allHold ln_X6_187 mn_X1_allHold rgc_31 rfl hl ⟨⟨Nat.le_of_ble_eq_true rfl, Nat.le_of_ble_eq_true rfl⟩, rfl, Nat.le_of_ble_eq_true rfl, Nat.zero_le _, Nat.zero_le _⟩ rfl dX6_rains_65) M (fun r_65 m_65 H locs hf M => ?_)
          try dsimp only at hf
          refine lv_if_eq (tgt := 78) hx hb dX6_rains_68 (by decide) (fun c_68 => ?_) (fun c_68 => ?_)
          · replace hf := hf.1 c_68
            obtain ⟨x4_78, ex4_78⟩ : ∃ y : Int32, y = x4_40 + 1 := ⟨_, rfl⟩
            replace hf := hf x4_78 ex4_78
            refine lv_iinc (v := x4_78) (lv' := [(4, .int x4_78), (3, .int x3_40), (2, .int x2_34), (0, .ref (ad 0)), (1, .int a1)]) hx hb dX6_rains_78 hl (k := 0) rfl (by rw [ex4_78]; rfl) (by decide) rfl (fun ls hl => ?_)
            refine lv_goto (tgt := 40) hx hb dX6_rains_81 (by decide) ?_
            exact hagain40 (x4_78, x3_40, m_65) hf _ _ _ M (lv_sub hl [0, 1, 2, 3, 4] rfl)
          · replace hf := hf.2 c_68
            refine lv_iload_n hx hb dX6_rains_71 rfl (lv_at hl 1 rfl) ?_
            refine lv_iconst (v := (1 : Int32)) hx hb dX6_rains_72 (by decide) ?_
            refine lv_iload hx hb dX6_rains_73 (lv_at hl 0 rfl) ?_
            refine lv_ishl hx hb dX6_rains_75 ?_
            refine lv_ior hx hb dX6_rains_76 ?_
            refine lv_topi (fun x3_77 ex3_77 => ?_)
            replace hf := hf x3_77 ex3_77
            refine lv_istore_n (lv' := [(3, .int x3_77), (4, .int x4_40), (2, .int x2_34), (0, .ref (ad 0)), (1, .int a1)]) hx hb dX6_rains_77 rfl hl (by decide) rfl (fun ls hl => ?_)
            obtain ⟨x4_78, ex4_78⟩ : ∃ y : Int32, y = x4_40 + 1 := ⟨_, rfl⟩
            replace hf := hf x4_78 ex4_78
            refine lv_iinc (v := x4_78) (lv' := [(4, .int x4_78), (3, .int x3_77), (2, .int x2_34), (0, .ref (ad 0)), (1, .int a1)]) hx hb dX6_rains_78 hl (k := 1) rfl (by rw [ex4_78]; rfl) (by decide) rfl (fun ls hl => ?_)
            refine lv_goto (tgt := 40) hx hb dX6_rains_81 (by decide) ?_
            exact hagain40 (x4_78, x3_77, m_65) hf _ _ _ M (lv_sub hl [0, 1, 2, 3, 4] rfl)
    · replace hf := hf.2 c_19
      refine lv_bipush (v := ((-3) : Int32)) hx hb dX6_rains_22 (by decide) ?_
      rw [hQ]
      exact x_iret X M hr hlk dX6_rains_24 hf
  · replace hf := hf.2 c_6
    refine lv_bipush (v := ((-2) : Int32)) hx hb dX6_rains_9 (by decide) ?_
    rw [hQ]
    exact x_iret X M hr hlk dX6_rains_11 hf
def wp_X6_cast (n : Nat) (a1 : Int32) (a2 : Int32) (μ : xM) (K : Int32 → xM → Prop) : Prop :=
  wp_X6_isDawn n a1 μ (fun r_1 : Int32 => ((r_1 = 0 → K ((-2) : Int32) μ) ∧ (¬ r_1 = 0 → ((a2 < (1 : Int32) → K ((-2) : Int32) μ) ∧ (¬ a2 < (1 : Int32) → ((a2 ≤ (999 : Int32) → xlp (fun (again27 : (Int32 × Int32 × xM) → Prop) => fun (s_ : Int32 × Int32 × xM) => match s_ with | (x4_27, x3_27, m_27) => (((m_27 10 6) ≤ x4_27 → (¬ (10 : Int32) = 0 ∧ (¬ a2 = 0 ∧ K (((x3_27 * (9 : Int32)) / (10 : Int32)) / a2) m_27))) ∧ (¬ (m_27 10 6) ≤ x4_27 → wp_X5_inPuddle n x4_27 a1 m_27 (fun (r_47 : Int32) (m_47 : xM) => (∀ x3_51 : Int32, x3_51 = x3_27 + r_47 → (∀ x4_52 : Int32, x4_52 = x4_27 + 1 → again27 (x4_52, x3_51, m_47))))))) n ((0 : Int32), (0 : Int32), μ)) ∧ (¬ a2 ≤ (999 : Int32) → K ((-2) : Int32) μ)))))))
set_option maxHeartbeats 4000000 in
set_option maxRecDepth 100000 in
theorem cm_X6_cast (l : Launch) (G : xG) (ad : Nat → Nat) (hI : xI 36 ad) (n : Nat) (a1 : Int32) (a2 : Int32) (μ : xM) (K : Int32 → xM → Prop) (hf : wp_X6_cast n a1 a2 μ K) : Met l yX6_cast (Cond.code yX6_cast cX6_cast 5 (some .int) :: xw_all) (rmo 6 138) (va_Pc [.ref (ad 0), .int a1, .int a2] (xPre cS 36 G ad μ)) (xQi cS 36 G ad K) 0 0 (xR 36 ad) := by
  refine x_ent (nL := 5) (own := RX6) (by decide) rfl hI (Nat.le_of_ble_eq_true rfl) ?_
  intro p e s m args below meth c H locs ls Q X hr hlk hQ M hl
  have hx := X.1.1
  have hb := X.1.2.1
  have hown := X.1.2.2.2.1
  have hts := X.1.2.2.2.2
  have hl : lv_has ls 5 [(0, .ref (ad 0)), (1, .int a1), (2, .int a2)] := hl
  unfold wp_X6_cast at hf
  refine lv_iload_n hx hb dX6_cast_0 rfl (lv_at hl 1 rfl) ?_
  refine x_ciP (x_rS (As := [.int a1]) (rest := []) X M (cm_X6_isDawn l G ad hI n a1 μ _ hf) mc_X6_isDawn ms_X6_isDawn lk_X6_119 mn_X6_isDawn hl ⟨⟨Nat.le_of_ble_eq_true rfl, Nat.le_of_ble_eq_true rfl⟩, rfl, Nat.le_of_ble_eq_true rfl, Nat.zero_le _, Nat.zero_le _⟩ rfl dX6_cast_1) M (fun r_1 H locs hf M => ?_)
  try dsimp only at hf
  refine lv_if_eq (tgt := 19) hx hb dX6_cast_4 (by decide) (fun c_4 => ?_) (fun c_4 => ?_)
  · replace hf := hf.1 c_4
    refine lv_bipush (v := ((-2) : Int32)) hx hb dX6_cast_19 (by decide) ?_
    rw [hQ]
    exact x_iret X M hr hlk dX6_cast_21 hf
  · replace hf := hf.2 c_4
    refine lv_iload_n hx hb dX6_cast_7 rfl (lv_at hl 2 rfl) ?_
    refine lv_iconst (v := (1 : Int32)) hx hb dX6_cast_8 (by decide) ?_
    refine lv_icmp_lt (tgt := 19) hx hb dX6_cast_9 (by decide) (fun c_9 => ?_) (fun c_9 => ?_)
    · replace hf := hf.1 c_9
      refine lv_bipush (v := ((-2) : Int32)) hx hb dX6_cast_19 (by decide) ?_
      rw [hQ]
      exact x_iret X M hr hlk dX6_cast_21 hf
    · replace hf := hf.2 c_9
      refine lv_iload_n hx hb dX6_cast_12 rfl (lv_at hl 2 rfl) ?_
      refine lv_sipush (v := (999 : Int32)) hx hb dX6_cast_13 (by decide) ?_
      refine lv_icmp_le (tgt := 22) hx hb dX6_cast_16 (by decide) (fun c_16 => ?_) (fun c_16 => ?_)
      · replace hf := hf.1 c_16
        refine lv_iconst (v := (0 : Int32)) hx hb dX6_cast_22 (by decide) ?_
        refine lv_istore_n (lv' := [(3, .int (0 : Int32)), (0, .ref (ad 0)), (1, .int a1), (2, .int a2)]) hx hb dX6_cast_23 rfl hl (by decide) rfl (fun ls hl => ?_)
        refine lv_iconst (v := (0 : Int32)) hx hb dX6_cast_24 (by decide) ?_
        refine lv_istore (lv' := [(4, .int (0 : Int32)), (3, .int (0 : Int32)), (0, .ref (ad 0)), (1, .int a1), (2, .int a2)]) hx hb dX6_cast_25 hl (by decide) rfl (fun ls hl => ?_)
        refine xlp_w hf (fun (s_ : Int32 × Int32 × xM) => match s_ with | (x4_27, x3_27, m_27) => ∀ (H : Heap) (locs : List Loc) (ls : Array Slot), xS cS 36 G ad s m_27 H locs → lv_has ls 5 [(4, .int x4_27), (3, .int x3_27), (0, .ref (ad 0)), (1, .int a1), (2, .int a2)] → W p l e (rmo 6 138) s m args below meth c H locs 0 0 Q (F0 m 27 ls [])) ?_ _ _ _ M (lv_sub hl [0, 1, 2, 3, 4] rfl)
        intro again27 hagain27 s_ hf
        obtain ⟨x4_27, x3_27, m_27⟩ := s_
        try dsimp only at hf ⊢
        intro H locs ls M hl
        refine lv_iload hx hb dX6_cast_27 (lv_at hl 0 rfl) ?_
        refine lv_aload_n hx hb dX6_cast_29 rfl (lv_at hl 2 rfl) ?_
        refine x_getR (r := 10) X M rgc_0 fd_X6_21 rfl dX6_cast_30 ?_
        refine x_getI X M rgc_10 fd_X6_71 rfl dX6_cast_33 ?_
        refine lv_icmp_ge (tgt := 58) hx hb dX6_cast_36 (by decide) (fun c_36 => ?_) (fun c_36 => ?_)
        · replace hf := hf.1 c_36
          refine lv_iload_n hx hb dX6_cast_58 rfl (lv_at hl 1 rfl) ?_
          refine lv_bipush (v := (9 : Int32)) hx hb dX6_cast_59 (by decide) ?_
          refine lv_imul hx hb dX6_cast_61 ?_
          refine lv_bipush (v := (10 : Int32)) hx hb dX6_cast_62 (by decide) ?_
          obtain ⟨g_64, hf⟩ := hf
          refine lv_idiv hx hb dX6_cast_64 g_64 ?_
          refine lv_iload_n hx hb dX6_cast_65 rfl (lv_at hl 4 rfl) ?_
          obtain ⟨g_66, hf⟩ := hf
          refine lv_idiv hx hb dX6_cast_66 g_66 ?_
          rw [hQ]
          exact x_iret X M hr hlk dX6_cast_67 hf
        · replace hf := hf.2 c_36
          refine lv_iload_n hx hb dX6_cast_39 rfl (lv_at hl 1 rfl) ?_
          refine lv_aload_n hx hb dX6_cast_40 rfl (lv_at hl 2 rfl) ?_
          refine x_getR (r := 10) X M rgc_0 fd_X6_21 rfl dX6_cast_41 ?_
          refine lv_iload hx hb dX6_cast_44 (lv_at hl 0 rfl) ?_
          refine lv_iload_n hx hb dX6_cast_46 rfl (lv_at hl 3 rfl) ?_
          refine x_ci (x_rVN (As := [.int x4_27, .int a1]) (rest := [.int x3_27]) X M (cm_X5_inPuddle l G ad hI n x4_27 a1 m_27 _ hf) mc_X5_inPuddle mv_X5_inPuddle ln_X6_126 mn_X5_inPuddle rgc_10 rfl hl ⟨⟨Nat.le_of_ble_eq_true rfl, Nat.le_of_ble_eq_true rfl⟩, rfl, Nat.le_of_ble_eq_true rfl, Nat.zero_le _, Nat.zero_le _⟩ rfl dX6_cast_47) M (fun r_47 m_47 H locs hf M => ?_)
          try dsimp only at hf
          refine lv_iadd hx hb dX6_cast_50 ?_
          refine lv_topi (fun x3_51 ex3_51 => ?_)
          replace hf := hf x3_51 ex3_51
          refine lv_istore_n (lv' := [(3, .int x3_51), (4, .int x4_27), (0, .ref (ad 0)), (1, .int a1), (2, .int a2)]) hx hb dX6_cast_51 rfl hl (by decide) rfl (fun ls hl => ?_)
          obtain ⟨x4_52, ex4_52⟩ : ∃ y : Int32, y = x4_27 + 1 := ⟨_, rfl⟩
          replace hf := hf x4_52 ex4_52
          refine lv_iinc (v := x4_52) (lv' := [(4, .int x4_52), (3, .int x3_51), (0, .ref (ad 0)), (1, .int a1), (2, .int a2)]) hx hb dX6_cast_52 hl (k := 1) rfl (by rw [ex4_52]; rfl) (by decide) rfl (fun ls hl => ?_)
          refine lv_goto (tgt := 27) hx hb dX6_cast_55 (by decide) ?_
          exact hagain27 (x4_52, x3_51, m_47) hf _ _ _ M (lv_sub hl [0, 1, 2, 3, 4] rfl)
      · replace hf := hf.2 c_16
        refine lv_bipush (v := ((-2) : Int32)) hx hb dX6_cast_19 (by decide) ?_
        rw [hQ]
        exact x_iret X M hr hlk dX6_cast_21 hf
def wp_X6_sheet (n : Nat) (a1 : Int32) (a2 : Int32) (a3 : Int32) (μ : xM) (K : Int32 → xM → Prop) : Prop :=
  (∀ m_2 : xM, m_2 = xu μ 0 4 (0 : Int32) → wp_X6_isSheet n a1 m_2 (fun r_6 : Int32 => ((¬ r_6 = 0 → wp_X6_isLane n a2 m_2 (fun r_15 : Int32 => ((r_15 = 0 → K ((-2) : Int32) m_2) ∧ (¬ r_15 = 0 → ((a3 ≤ (60 : Int32) → ((0 ≤ a3 → (vp_in a1 4 ∧ wp_X2_renew n (a1.toNatClampNeg) a2 a3 m_2 (fun m_48 : xM => K (1 : Int32) m_48))) ∧ (¬ 0 ≤ a3 → wp_X6_faulty n (4 : Int32) m_2 (fun (r_36 : Int32) (m_36 : xM) => K r_36 m_36)))) ∧ (¬ a3 ≤ (60 : Int32) → K ((-2) : Int32) m_2)))))) ∧ (r_6 = 0 → K ((-1) : Int32) m_2))))
set_option maxHeartbeats 4000000 in
set_option maxRecDepth 100000 in
theorem cm_X6_sheet (l : Launch) (G : xG) (ad : Nat → Nat) (hI : xI 36 ad) (n : Nat) (a1 : Int32) (a2 : Int32) (a3 : Int32) (μ : xM) (K : Int32 → xM → Prop) (hf : wp_X6_sheet n a1 a2 a3 μ K) : Met l yX6_sheet (Cond.code yX6_sheet cX6_sheet 4 (some .int) :: xw_all) (rmo 2 41) (va_Pc [.ref (ad 0), .int a1, .int a2, .int a3] (xPre cS 36 G ad μ)) (xQi cS 36 G ad K) 0 0 (xR 36 ad) := by
  refine x_ent (nL := 4) (own := RX6) (by decide) rfl hI (Nat.le_of_ble_eq_true rfl) ?_
  intro p e s m args below meth c H locs ls Q X hr hlk hQ M hl
  have hx := X.1.1
  have hb := X.1.2.1
  have hown := X.1.2.2.2.1
  have hts := X.1.2.2.2.2
  have hl : lv_has ls 4 [(0, .ref (ad 0)), (1, .int a1), (2, .int a2), (3, .int a3)] := hl
  unfold wp_X6_sheet at hf
  refine lv_aload_n hx hb dX6_sheet_0 rfl (lv_at hl 0 rfl) ?_
  refine lv_iconst (v := (0 : Int32)) hx hb dX6_sheet_1 (by decide) ?_
  refine x_putI X M rgc_0 fp_X6_36 rfl dX6_sheet_2 (fun m_2 H locs em_2 M => ?_)
  replace hf := hf m_2 em_2
  refine lv_iload_n hx hb dX6_sheet_5 rfl (lv_at hl 1 rfl) ?_
  refine x_ciP (x_rS (As := [.int a1]) (rest := []) X M (cm_X6_isSheet l G ad hI n a1 m_2 _ hf) mc_X6_isSheet ms_X6_isSheet lk_X6_39 mn_X6_isSheet hl ⟨⟨Nat.le_of_ble_eq_true rfl, Nat.le_of_ble_eq_true rfl⟩, rfl, Nat.le_of_ble_eq_true rfl, Nat.zero_le _, Nat.zero_le _⟩ rfl dX6_sheet_6) M (fun r_6 H locs hf M => ?_)
  try dsimp only at hf
  refine lv_if_ne (tgt := 14) hx hb dX6_sheet_9 (by decide) (fun c_9 => ?_) (fun c_9 => ?_)
  · replace hf := hf.1 c_9
    refine lv_iload_n hx hb dX6_sheet_14 rfl (lv_at hl 2 rfl) ?_
    refine x_ciP (x_rS (As := [.int a2]) (rest := []) X M (cm_X6_isLane l G ad hI n a2 m_2 _ hf) mc_X6_isLane ms_X6_isLane lk_X6_43 mn_X6_isLane hl ⟨⟨Nat.le_of_ble_eq_true rfl, Nat.le_of_ble_eq_true rfl⟩, rfl, Nat.le_of_ble_eq_true rfl, Nat.zero_le _, Nat.zero_le _⟩ rfl dX6_sheet_15) M (fun r_15 H locs hf M => ?_)
    try dsimp only at hf
    refine lv_if_eq (tgt := 27) hx hb dX6_sheet_18 (by decide) (fun c_18 => ?_) (fun c_18 => ?_)
    · replace hf := hf.1 c_18
      refine lv_bipush (v := ((-2) : Int32)) hx hb dX6_sheet_27 (by decide) ?_
      rw [hQ]
      exact x_iret X M hr hlk dX6_sheet_29 hf
    · replace hf := hf.2 c_18
      refine lv_iload_n hx hb dX6_sheet_21 rfl (lv_at hl 3 rfl) ?_
      refine lv_bipush (v := (60 : Int32)) hx hb dX6_sheet_22 (by decide) ?_
      refine lv_icmp_le (tgt := 30) hx hb dX6_sheet_24 (by decide) (fun c_24 => ?_) (fun c_24 => ?_)
      · replace hf := hf.1 c_24
        refine lv_iload_n hx hb dX6_sheet_30 rfl (lv_at hl 3 rfl) ?_
        refine lv_if_ge (tgt := 40) hx hb dX6_sheet_31 (by decide) (fun c_31 => ?_) (fun c_31 => ?_)
        · replace hf := hf.1 c_31
          refine lv_aload_n hx hb dX6_sheet_40 rfl (lv_at hl 0 rfl) ?_
          refine x_getR (r := 1) X M rgc_0 fd_X6_13 rfl dX6_sheet_41 ?_
          refine lv_iload_n hx hb dX6_sheet_44 rfl (lv_at hl 1 rfl) ?_
          obtain ⟨g_45, hf⟩ := hf
          refine x_ald X M rgc_1 rfl g_45 dX6_sheet_45 ?_
          refine lv_iload_n hx hb dX6_sheet_46 rfl (lv_at hl 2 rfl) ?_
          refine lv_iload_n hx hb dX6_sheet_47 rfl (lv_at hl 3 rfl) ?_
          refine x_cv (x_rVN (As := [.int a2, .int a3]) (rest := []) X M (cm_X2_renew l G ad hI n (a1.toNatClampNeg) (vp_lt g_45) a2 a3 m_2 _ hf) mc_X2_renew mv_X2_renew ln_X6_191 mn_X2_renew (rgc_2 (vp_lt g_45)) rfl hl ⟨⟨Nat.le_of_ble_eq_true rfl, Nat.le_of_ble_eq_true rfl⟩, rfl, Nat.le_of_ble_eq_true rfl, Nat.zero_le _, Nat.zero_le _⟩ rfl dX6_sheet_48) M (fun m_48 H locs hf M => ?_)
          try dsimp only at hf
          refine lv_iconst (v := (1 : Int32)) hx hb dX6_sheet_51 (by decide) ?_
          rw [hQ]
          exact x_iret X M hr hlk dX6_sheet_52 hf
        · replace hf := hf.2 c_31
          refine lv_aload_n hx hb dX6_sheet_34 rfl (lv_at hl 0 rfl) ?_
          refine lv_iconst (v := (4 : Int32)) hx hb dX6_sheet_35 (by decide) ?_
          refine x_ci (x_rV (As := [.int (4 : Int32)]) (rest := []) X M (cm_X6_faulty l G ad hI n (4 : Int32) m_2 _ hf) mc_X6_faulty mv_X6_faulty lk_X6_54 mn_X6_faulty rgc_0 rfl hl ⟨⟨Nat.le_of_ble_eq_true rfl, Nat.le_of_ble_eq_true rfl⟩, rfl, Nat.le_of_ble_eq_true rfl, Nat.zero_le _, Nat.zero_le _⟩ rfl dX6_sheet_36) M (fun r_36 m_36 H locs hf M => ?_)
          try dsimp only at hf
          rw [hQ]
          exact x_iret X M hr hlk dX6_sheet_39 hf
      · replace hf := hf.2 c_24
        refine lv_bipush (v := ((-2) : Int32)) hx hb dX6_sheet_27 (by decide) ?_
        rw [hQ]
        exact x_iret X M hr hlk dX6_sheet_29 hf
  · replace hf := hf.2 c_9
    refine lv_iconst (v := ((-1) : Int32)) hx hb dX6_sheet_12 (by decide) ?_
    rw [hQ]
    exact x_iret X M hr hlk dX6_sheet_13 hf
def wp_X6_lose (n : Nat) (a1 : Int32) (μ : xM) (K : Int32 → xM → Prop) : Prop :=
  wp_X6_isSheet n a1 μ (fun r_1 : Int32 => ((¬ r_1 = 0 → (vp_in a1 4 ∧ xjn (fun (v0_26 : Int32) => (vp_in a1 4 ∧ (∀ m_34 : xM, m_34 = xu μ (2 + a1.toNatClampNeg) 1 (0 : Int32) → K v0_26 m_34))) (fun J26 : Int32 → Prop => (((μ (2 + a1.toNatClampNeg) 1) = 0 → J26 (0 : Int32)) ∧ (¬ (μ (2 + a1.toNatClampNeg) 1) = 0 → J26 (1 : Int32)))))) ∧ (r_1 = 0 → K ((-1) : Int32) μ)))
set_option maxHeartbeats 4000000 in
set_option maxRecDepth 100000 in
theorem cm_X6_lose (l : Launch) (G : xG) (ad : Nat → Nat) (hI : xI 36 ad) (n : Nat) (a1 : Int32) (μ : xM) (K : Int32 → xM → Prop) (hf : wp_X6_lose n a1 μ K) : Met l yX6_lose (Cond.code yX6_lose cX6_lose 3 (some .int) :: xw_all) (rmo 2 41) (va_Pc [.ref (ad 0), .int a1] (xPre cS 36 G ad μ)) (xQi cS 36 G ad K) 0 0 (xR 36 ad) := by
  refine x_ent (nL := 3) (own := RX6) (by decide) rfl hI (Nat.le_of_ble_eq_true rfl) ?_
  intro p e s m args below meth c H locs ls Q X hr hlk hQ M hl
  have hx := X.1.1
  have hb := X.1.2.1
  have hown := X.1.2.2.2.1
  have hts := X.1.2.2.2.2
  have hl : lv_has ls 3 [(0, .ref (ad 0)), (1, .int a1)] := hl
  unfold wp_X6_lose at hf
  refine lv_iload_n hx hb dX6_lose_0 rfl (lv_at hl 1 rfl) ?_
  refine x_ciP (x_rS (As := [.int a1]) (rest := []) X M (cm_X6_isSheet l G ad hI n a1 μ _ hf) mc_X6_isSheet ms_X6_isSheet lk_X6_39 mn_X6_isSheet hl ⟨⟨Nat.le_of_ble_eq_true rfl, Nat.le_of_ble_eq_true rfl⟩, rfl, Nat.le_of_ble_eq_true rfl, Nat.zero_le _, Nat.zero_le _⟩ rfl dX6_lose_1) M (fun r_1 H locs hf M => ?_)
  try dsimp only at hf
  refine lv_if_ne (tgt := 9) hx hb dX6_lose_4 (by decide) (fun c_4 => ?_) (fun c_4 => ?_)
  · replace hf := hf.1 c_4
    refine lv_aload_n hx hb dX6_lose_9 rfl (lv_at hl 0 rfl) ?_
    refine x_getR (r := 1) X M rgc_0 fd_X6_13 rfl dX6_lose_10 ?_
    refine lv_iload_n hx hb dX6_lose_13 rfl (lv_at hl 1 rfl) ?_
    obtain ⟨g_14, hf⟩ := hf
    refine x_ald X M rgc_1 rfl g_14 dX6_lose_14 ?_
    refine x_getI X M (rgc_2 (vp_lt g_14)) fd_X6_194 rfl dX6_lose_15 ?_
    refine xjn_w hf (fun (v0_26 : Int32) => ∀ (H : Heap) (locs : List Loc) (ls : Array Slot), xS cS 36 G ad s μ H locs → lv_has ls 3 [(0, .ref (ad 0)), (1, .int a1)] → W p l e (rmo 2 41) s m args below meth c H locs 0 0 Q (F0 m 26 ls [.int v0_26])) ?_ ?_
    · intro v0_26 hf
      intro H locs ls M hl
      refine lv_istore_n (lv' := [(2, .int v0_26), (0, .ref (ad 0)), (1, .int a1)]) hx hb dX6_lose_26 rfl hl (by decide) rfl (fun ls hl => ?_)
      refine lv_aload_n hx hb dX6_lose_27 rfl (lv_at hl 1 rfl) ?_
      refine x_getR (r := 1) X M rgc_0 fd_X6_13 rfl dX6_lose_28 ?_
      refine lv_iload_n hx hb dX6_lose_31 rfl (lv_at hl 2 rfl) ?_
      obtain ⟨g_32, hf⟩ := hf
      refine x_ald X M rgc_1 rfl g_32 dX6_lose_32 ?_
      refine lv_iconst (v := (0 : Int32)) hx hb dX6_lose_33 (by decide) ?_
      refine x_putZ X M (rgc_2 (vp_lt g_32)) fp_X6_194 rfl xb_0 dX6_lose_34 (fun m_34 H locs em_34 M => ?_)
      replace hf := hf m_34 em_34
      refine lv_iload_n hx hb dX6_lose_37 rfl (lv_at hl 0 rfl) ?_
      rw [hQ]
      exact x_iret X M hr hlk dX6_lose_38 hf
    · intro J26 hJ26 hf
      refine lv_if_eq (tgt := 25) hx hb dX6_lose_18 (by decide) (fun c_18 => ?_) (fun c_18 => ?_)
      · replace hf := hf.1 c_18
        refine lv_iconst (v := (0 : Int32)) hx hb dX6_lose_25 (by decide) ?_
        exact hJ26 (0 : Int32) hf _ _ _ M (lv_sub hl [0, 1] rfl)
      · replace hf := hf.2 c_18
        refine lv_iconst (v := (1 : Int32)) hx hb dX6_lose_21 (by decide) ?_
        refine lv_goto (tgt := 26) hx hb dX6_lose_22 (by decide) ?_
        exact hJ26 (1 : Int32) hf _ _ _ M (lv_sub hl [0, 1] rfl)
  · replace hf := hf.2 c_4
    refine lv_iconst (v := ((-1) : Int32)) hx hb dX6_lose_7 (by decide) ?_
    rw [hQ]
    exact x_iret X M hr hlk dX6_lose_8 hf
def wp_X6_put (n : Nat) (a1 : Int32) (a2 : Int32) (a3 : Int32) (μ : xM) (K : Int32 → xM → Prop) : Prop :=
  (∀ m_2 : xM, m_2 = xu μ 0 4 (0 : Int32) → wp_X6_isSheet n a1 m_2 (fun r_6 : Int32 => ((¬ r_6 = 0 → (vp_in a1 4 ∧ ((¬ (m_2 (2 + a1.toNatClampNeg) 1) = 0 → wp_X2_hasRun n (a1.toNatClampNeg) a2 (1 : Int32) m_2 (fun r_40 : Int32 => ((¬ r_40 = 0 → wp_X2_cut n (a1.toNatClampNeg) a3 m_2 (fun r_61 : Int32 => (vp_in a2 60 ∧ (∀ m_64 : xM, m_64 = xu m_2 (6 + a1.toNatClampNeg) a2.toNatClampNeg r_61 → K (1 : Int32) m_64)))) ∧ (r_40 = 0 → wp_X6_faulty n (3 : Int32) m_2 (fun (r_48 : Int32) (m_48 : xM) => K r_48 m_48))))) ∧ ((m_2 (2 + a1.toNatClampNeg) 1) = 0 → wp_X6_faulty n (1 : Int32) m_2 (fun (r_32 : Int32) (m_32 : xM) => K r_32 m_32))))) ∧ (r_6 = 0 → K ((-1) : Int32) m_2))))
set_option maxHeartbeats 4000000 in
set_option maxRecDepth 100000 in
theorem cm_X6_put (l : Launch) (G : xG) (ad : Nat → Nat) (hI : xI 36 ad) (n : Nat) (a1 : Int32) (a2 : Int32) (a3 : Int32) (μ : xM) (K : Int32 → xM → Prop) (hf : wp_X6_put n a1 a2 a3 μ K) : Met l yX6_put (Cond.code yX6_put cX6_put 5 (some .int) :: xw_all) (rmo 2 41) (va_Pc [.ref (ad 0), .int a1, .int a2, .int a3] (xPre cS 36 G ad μ)) (xQi cS 36 G ad K) 0 0 (xR 36 ad) := by
  refine x_ent (nL := 5) (own := RX6) (by decide) rfl hI (Nat.le_of_ble_eq_true rfl) ?_
  intro p e s m args below meth c H locs ls Q X hr hlk hQ M hl
  have hx := X.1.1
  have hb := X.1.2.1
  have hown := X.1.2.2.2.1
  have hts := X.1.2.2.2.2
  have hl : lv_has ls 5 [(0, .ref (ad 0)), (1, .int a1), (2, .int a2), (3, .int a3)] := hl
  unfold wp_X6_put at hf
  refine lv_aload_n hx hb dX6_put_0 rfl (lv_at hl 0 rfl) ?_
  refine lv_iconst (v := (0 : Int32)) hx hb dX6_put_1 (by decide) ?_
  refine x_putI X M rgc_0 fp_X6_36 rfl dX6_put_2 (fun m_2 H locs em_2 M => ?_)
  replace hf := hf m_2 em_2
  refine lv_iload_n hx hb dX6_put_5 rfl (lv_at hl 1 rfl) ?_
  refine x_ciP (x_rS (As := [.int a1]) (rest := []) X M (cm_X6_isSheet l G ad hI n a1 m_2 _ hf) mc_X6_isSheet ms_X6_isSheet lk_X6_39 mn_X6_isSheet hl ⟨⟨Nat.le_of_ble_eq_true rfl, Nat.le_of_ble_eq_true rfl⟩, rfl, Nat.le_of_ble_eq_true rfl, Nat.zero_le _, Nat.zero_le _⟩ rfl dX6_put_6) M (fun r_6 H locs hf M => ?_)
  try dsimp only at hf
  refine lv_if_ne (tgt := 14) hx hb dX6_put_9 (by decide) (fun c_9 => ?_) (fun c_9 => ?_)
  · replace hf := hf.1 c_9
    refine lv_aload_n hx hb dX6_put_14 rfl (lv_at hl 0 rfl) ?_
    refine x_getR (r := 1) X M rgc_0 fd_X6_13 rfl dX6_put_15 ?_
    refine lv_iload_n hx hb dX6_put_18 rfl (lv_at hl 1 rfl) ?_
    obtain ⟨g_19, hf⟩ := hf
    refine x_ald X M rgc_1 rfl g_19 dX6_put_19 ?_
    refine lv_astore (lv' := [(4, .ref (ad (2 + a1.toNatClampNeg))), (0, .ref (ad 0)), (1, .int a1), (2, .int a2), (3, .int a3)]) hx hb dX6_put_20 hl (by decide) rfl (fun ls hl => ?_)
    refine lv_aload hx hb dX6_put_22 (lv_at hl 0 rfl) ?_
    refine x_getI X M (rgc_2 (vp_lt g_19)) fd_X6_194 rfl dX6_put_24 ?_
    refine lv_if_ne (tgt := 36) hx hb dX6_put_27 (by decide) (fun c_27 => ?_) (fun c_27 => ?_)
    · replace hf := hf.1 c_27
      refine lv_aload hx hb dX6_put_36 (lv_at hl 0 rfl) ?_
      refine lv_iload_n hx hb dX6_put_38 rfl (lv_at hl 3 rfl) ?_
      refine lv_iconst (v := (1 : Int32)) hx hb dX6_put_39 (by decide) ?_
      refine x_ciP (x_rVN (As := [.int a2, .int (1 : Int32)]) (rest := []) X M (cm_X2_hasRun l G ad hI n (a1.toNatClampNeg) (vp_lt g_19) a2 (1 : Int32) m_2 _ hf) mc_X2_hasRun mv_X2_hasRun ln_X6_50 mn_X2_hasRun (rgc_2 (vp_lt g_19)) rfl hl ⟨⟨Nat.le_of_ble_eq_true rfl, Nat.le_of_ble_eq_true rfl⟩, rfl, Nat.le_of_ble_eq_true rfl, Nat.zero_le _, Nat.zero_le _⟩ rfl dX6_put_40) M (fun r_40 H locs hf M => ?_)
      try dsimp only at hf
      refine lv_if_ne (tgt := 52) hx hb dX6_put_43 (by decide) (fun c_43 => ?_) (fun c_43 => ?_)
      · replace hf := hf.1 c_43
        refine lv_aload hx hb dX6_put_52 (lv_at hl 0 rfl) ?_
        refine x_getR (r := (6 + a1.toNatClampNeg)) X M (rgc_2 (vp_lt g_19)) fd_X6_172 rfl dX6_put_54 ?_
        refine lv_iload_n hx hb dX6_put_57 rfl (lv_at hl 3 rfl) ?_
        refine lv_aload hx hb dX6_put_58 (lv_at hl 0 rfl) ?_
        refine lv_iload_n hx hb dX6_put_60 rfl (lv_at hl 4 rfl) ?_
        refine x_ciP (x_rVN (As := [.int a3]) (rest := [.int a2, .ref (ad (6 + a1.toNatClampNeg))]) X M (cm_X2_cut l G ad hI n (a1.toNatClampNeg) (vp_lt g_19) a3 m_2 _ hf) mc_X2_cut mv_X2_cut ln_X6_197 mn_X2_cut (rgc_2 (vp_lt g_19)) rfl hl ⟨⟨Nat.le_of_ble_eq_true rfl, Nat.le_of_ble_eq_true rfl⟩, rfl, Nat.le_of_ble_eq_true rfl, Nat.zero_le _, Nat.zero_le _⟩ rfl dX6_put_61) M (fun r_61 H locs hf M => ?_)
        try dsimp only at hf
        obtain ⟨g_64, hf⟩ := hf
        refine x_ist X M (rgc_6 (vp_lt g_19)) g_64 dX6_put_64 (fun m_64 H locs em_64 M => ?_)
        replace hf := hf m_64 em_64
        refine lv_iconst (v := (1 : Int32)) hx hb dX6_put_65 (by decide) ?_
        rw [hQ]
        exact x_iret X M hr hlk dX6_put_66 hf
      · replace hf := hf.2 c_43
        refine lv_aload_n hx hb dX6_put_46 rfl (lv_at hl 1 rfl) ?_
        refine lv_iconst (v := (3 : Int32)) hx hb dX6_put_47 (by decide) ?_
        refine x_ci (x_rV (As := [.int (3 : Int32)]) (rest := []) X M (cm_X6_faulty l G ad hI n (3 : Int32) m_2 _ hf) mc_X6_faulty mv_X6_faulty lk_X6_54 mn_X6_faulty rgc_0 rfl hl ⟨⟨Nat.le_of_ble_eq_true rfl, Nat.le_of_ble_eq_true rfl⟩, rfl, Nat.le_of_ble_eq_true rfl, Nat.zero_le _, Nat.zero_le _⟩ rfl dX6_put_48) M (fun r_48 m_48 H locs hf M => ?_)
        try dsimp only at hf
        rw [hQ]
        exact x_iret X M hr hlk dX6_put_51 hf
    · replace hf := hf.2 c_27
      refine lv_aload_n hx hb dX6_put_30 rfl (lv_at hl 1 rfl) ?_
      refine lv_iconst (v := (1 : Int32)) hx hb dX6_put_31 (by decide) ?_
      refine x_ci (x_rV (As := [.int (1 : Int32)]) (rest := []) X M (cm_X6_faulty l G ad hI n (1 : Int32) m_2 _ hf) mc_X6_faulty mv_X6_faulty lk_X6_54 mn_X6_faulty rgc_0 rfl hl ⟨⟨Nat.le_of_ble_eq_true rfl, Nat.le_of_ble_eq_true rfl⟩, rfl, Nat.le_of_ble_eq_true rfl, Nat.zero_le _, Nat.zero_le _⟩ rfl dX6_put_32) M (fun r_32 m_32 H locs hf M => ?_)
      try dsimp only at hf
      rw [hQ]
      exact x_iret X M hr hlk dX6_put_35 hf
  · replace hf := hf.2 c_9
    refine lv_iconst (v := ((-1) : Int32)) hx hb dX6_put_12 (by decide) ?_
    rw [hQ]
    exact x_iret X M hr hlk dX6_put_13 hf
def wp_X6_cell (n : Nat) (a1 : Int32) (a2 : Int32) (a3 : Int32) (μ : xM) (K : Int64 → xM → Prop) : Prop :=
  (∀ m_2 : xM, m_2 = xu μ 0 4 (0 : Int32) → wp_X6_isSheet n a1 m_2 (fun r_6 : Int32 => ((r_6 = 0 → K ((-9223372036854775808) : Int64) m_2) ∧ (¬ r_6 = 0 → wp_X6_isLane n a3 m_2 (fun r_13 : Int32 => ((¬ r_13 = 0 → (vp_in a1 4 ∧ wp_X2_faultAs n (a1.toNatClampNeg) a3 m_2 (fun r_34 : Int32 => xjn (fun (x5_57 : Int32) => ((x5_57 = 0 → (vp_in a2 60 ∧ K ((m_2 (6 + a1.toNatClampNeg) a2.toNatClampNeg).toInt64) m_2)) ∧ (¬ x5_57 = 0 → (∀ m_65 : xM, m_65 = xu m_2 0 4 x5_57 → K ((-9223372036854775808) : Int64) m_65)))) (fun J57 : Int32 → Prop => ((¬ r_34 = 0 → J57 r_34) ∧ (r_34 = 0 → wp_X2_hasRun n (a1.toNatClampNeg) a2 (1 : Int32) m_2 (fun r_48 : Int32 => ((¬ r_48 = 0 → J57 r_34) ∧ (r_48 = 0 → J57 (3 : Int32)))))))))) ∧ (r_13 = 0 → K ((-9223372036854775808) : Int64) m_2)))))))
set_option maxHeartbeats 4000000 in
set_option maxRecDepth 100000 in
theorem cm_X6_cell (l : Launch) (G : xG) (ad : Nat → Nat) (hI : xI 36 ad) (n : Nat) (a1 : Int32) (a2 : Int32) (a3 : Int32) (μ : xM) (K : Int64 → xM → Prop) (hf : wp_X6_cell n a1 a2 a3 μ K) : Met l yX6_cell (Cond.code yX6_cell cX6_cell 6 (some .long) :: xw_all) (rmo 2 41) (va_Pc [.ref (ad 0), .int a1, .int a2, .int a3] (xPre cS 36 G ad μ)) (xQl cS 36 G ad K) 0 0 (xR 36 ad) := by
  refine x_ent (nL := 6) (own := RX6) (by decide) rfl hI (Nat.le_of_ble_eq_true rfl) ?_
  intro p e s m args below meth c H locs ls Q X hr hlk hQ M hl
  have hx := X.1.1
  have hb := X.1.2.1
  have hown := X.1.2.2.2.1
  have hts := X.1.2.2.2.2
  have hl : lv_has ls 6 [(0, .ref (ad 0)), (1, .int a1), (2, .int a2), (3, .int a3)] := hl
  unfold wp_X6_cell at hf
  refine lv_aload_n hx hb dX6_cell_0 rfl (lv_at hl 0 rfl) ?_
  refine lv_iconst (v := (0 : Int32)) hx hb dX6_cell_1 (by decide) ?_
  refine x_putI X M rgc_0 fp_X6_36 rfl dX6_cell_2 (fun m_2 H locs em_2 M => ?_)
  replace hf := hf m_2 em_2
  refine lv_iload_n hx hb dX6_cell_5 rfl (lv_at hl 1 rfl) ?_
  refine x_ciP (x_rS (As := [.int a1]) (rest := []) X M (cm_X6_isSheet l G ad hI n a1 m_2 _ hf) mc_X6_isSheet ms_X6_isSheet lk_X6_39 mn_X6_isSheet hl ⟨⟨Nat.le_of_ble_eq_true rfl, Nat.le_of_ble_eq_true rfl⟩, rfl, Nat.le_of_ble_eq_true rfl, Nat.zero_le _, Nat.zero_le _⟩ rfl dX6_cell_6) M (fun r_6 H locs hf M => ?_)
  try dsimp only at hf
  refine lv_if_eq (tgt := 19) hx hb dX6_cell_9 (by decide) (fun c_9 => ?_) (fun c_9 => ?_)
  · replace hf := hf.1 c_9
    refine lv_ldc2 (v := ((-9223372036854775808) : Int64)) hx hb hown (hts _ kc_X6_142) dX6_cell_19 ?_
    rw [hQ]
    exact x_lret X M hr hlk dX6_cell_22 hf
  · replace hf := hf.2 c_9
    refine lv_iload_n hx hb dX6_cell_12 rfl (lv_at hl 3 rfl) ?_
    refine x_ciP (x_rS (As := [.int a3]) (rest := []) X M (cm_X6_isLane l G ad hI n a3 m_2 _ hf) mc_X6_isLane ms_X6_isLane lk_X6_43 mn_X6_isLane hl ⟨⟨Nat.le_of_ble_eq_true rfl, Nat.le_of_ble_eq_true rfl⟩, rfl, Nat.le_of_ble_eq_true rfl, Nat.zero_le _, Nat.zero_le _⟩ rfl dX6_cell_13) M (fun r_13 H locs hf M => ?_)
    try dsimp only at hf
    refine lv_if_ne (tgt := 23) hx hb dX6_cell_16 (by decide) (fun c_16 => ?_) (fun c_16 => ?_)
    · replace hf := hf.1 c_16
      refine lv_aload_n hx hb dX6_cell_23 rfl (lv_at hl 0 rfl) ?_
      refine x_getR (r := 1) X M rgc_0 fd_X6_13 rfl dX6_cell_24 ?_
      refine lv_iload_n hx hb dX6_cell_27 rfl (lv_at hl 1 rfl) ?_
      obtain ⟨g_28, hf⟩ := hf
      refine x_ald X M rgc_1 rfl g_28 dX6_cell_28 ?_
      refine lv_astore (lv' := [(4, .ref (ad (2 + a1.toNatClampNeg))), (0, .ref (ad 0)), (1, .int a1), (2, .int a2), (3, .int a3)]) hx hb dX6_cell_29 hl (by decide) rfl (fun ls hl => ?_)
      refine lv_aload hx hb dX6_cell_31 (lv_at hl 0 rfl) ?_
      refine lv_iload_n hx hb dX6_cell_33 rfl (lv_at hl 4 rfl) ?_
      refine x_ciP (x_rVN (As := [.int a3]) (rest := []) X M (cm_X2_faultAs l G ad hI n (a1.toNatClampNeg) (vp_lt g_28) a3 m_2 _ hf) mc_X2_faultAs mv_X2_faultAs ln_X6_46 mn_X2_faultAs (rgc_2 (vp_lt g_28)) rfl hl ⟨⟨Nat.le_of_ble_eq_true rfl, Nat.le_of_ble_eq_true rfl⟩, rfl, Nat.le_of_ble_eq_true rfl, Nat.zero_le _, Nat.zero_le _⟩ rfl dX6_cell_34) M (fun r_34 H locs hf M => ?_)
      try dsimp only at hf
      refine lv_istore (lv' := [(5, .int r_34), (4, .ref (ad (2 + a1.toNatClampNeg))), (0, .ref (ad 0)), (1, .int a1), (2, .int a2), (3, .int a3)]) hx hb dX6_cell_37 hl (by decide) rfl (fun ls hl => ?_)
      refine lv_iload hx hb dX6_cell_39 (lv_at hl 0 rfl) ?_
      refine xjn_w hf (fun (x5_57 : Int32) => ∀ (H : Heap) (locs : List Loc) (ls : Array Slot), xS cS 36 G ad s m_2 H locs → lv_has ls 6 [(5, .int x5_57), (4, .ref (ad (2 + a1.toNatClampNeg))), (0, .ref (ad 0)), (2, .int a2)] → W p l e (rmo 2 41) s m args below meth c H locs 0 0 Q (F0 m 57 ls [])) ?_ ?_
      · intro x5_57 hf
        intro H locs ls M hl
        refine lv_iload hx hb dX6_cell_57 (lv_at hl 0 rfl) ?_
        refine lv_if_eq (tgt := 72) hx hb dX6_cell_59 (by decide) (fun c_59 => ?_) (fun c_59 => ?_)
        · replace hf := hf.1 c_59
          refine lv_aload hx hb dX6_cell_72 (lv_at hl 1 rfl) ?_
          refine x_getR (r := (6 + a1.toNatClampNeg)) X M (rgc_2 (vp_lt g_28)) fd_X6_172 rfl dX6_cell_74 ?_
          refine lv_iload_n hx hb dX6_cell_77 rfl (lv_at hl 3 rfl) ?_
          obtain ⟨g_78, hf⟩ := hf
          refine x_ild X M (rgc_6 (vp_lt g_28)) g_78 dX6_cell_78 ?_
          refine lv_i2l hx hb dX6_cell_79 rfl ?_
          rw [hQ]
          exact x_lret X M hr hlk dX6_cell_80 hf
        · replace hf := hf.2 c_59
          refine lv_aload_n hx hb dX6_cell_62 rfl (lv_at hl 2 rfl) ?_
          refine lv_iload hx hb dX6_cell_63 (lv_at hl 0 rfl) ?_
          refine x_putI X M rgc_0 fp_X6_36 rfl dX6_cell_65 (fun m_65 H locs em_65 M => ?_)
          replace hf := hf m_65 em_65
          refine lv_ldc2 (v := ((-9223372036854775808) : Int64)) hx hb hown (hts _ kc_X6_142) dX6_cell_68 ?_
          rw [hQ]
          exact x_lret X M hr hlk dX6_cell_71 hf
      · intro J57 hJ57 hf
        refine lv_if_ne (tgt := 57) hx hb dX6_cell_41 (by decide) (fun c_41 => ?_) (fun c_41 => ?_)
        · replace hf := hf.1 c_41
          exact hJ57 r_34 hf _ _ _ M (lv_sub hl [0, 1, 2, 4] rfl)
        · replace hf := hf.2 c_41
          refine lv_aload hx hb dX6_cell_44 (lv_at hl 1 rfl) ?_
          refine lv_iload_n hx hb dX6_cell_46 rfl (lv_at hl 4 rfl) ?_
          refine lv_iconst (v := (1 : Int32)) hx hb dX6_cell_47 (by decide) ?_
          refine x_ciP (x_rVN (As := [.int a2, .int (1 : Int32)]) (rest := []) X M (cm_X2_hasRun l G ad hI n (a1.toNatClampNeg) (vp_lt g_28) a2 (1 : Int32) m_2 _ hf) mc_X2_hasRun mv_X2_hasRun ln_X6_50 mn_X2_hasRun (rgc_2 (vp_lt g_28)) rfl hl ⟨⟨Nat.le_of_ble_eq_true rfl, Nat.le_of_ble_eq_true rfl⟩, rfl, Nat.le_of_ble_eq_true rfl, Nat.zero_le _, Nat.zero_le _⟩ rfl dX6_cell_48) M (fun r_48 H locs hf M => ?_)
          try dsimp only at hf
          refine lv_if_ne (tgt := 57) hx hb dX6_cell_51 (by decide) (fun c_51 => ?_) (fun c_51 => ?_)
          · replace hf := hf.1 c_51
            exact hJ57 r_34 hf _ _ _ M (lv_sub hl [0, 1, 2, 4] rfl)
          · replace hf := hf.2 c_51
            refine lv_iconst (v := (3 : Int32)) hx hb dX6_cell_54 (by decide) ?_
            refine lv_istore (lv' := [(5, .int (3 : Int32)), (4, .ref (ad (2 + a1.toNatClampNeg))), (0, .ref (ad 0)), (1, .int a1), (2, .int a2), (3, .int a3)]) hx hb dX6_cell_55 hl (by decide) rfl (fun ls hl => ?_)
            exact hJ57 (3 : Int32) hf _ _ _ M (lv_sub hl [0, 1, 2, 4] rfl)
    · replace hf := hf.2 c_16
      refine lv_ldc2 (v := ((-9223372036854775808) : Int64)) hx hb hown (hts _ kc_X6_142) dX6_cell_19 ?_
      rw [hQ]
      exact x_lret X M hr hlk dX6_cell_22 hf
def wp_X6_copy (n : Nat) (a1 : Int32) (a2 : Int32) (a3 : Int32) (a4 : Int32) (a5 : Int32) (μ : xM) (K : Int32 → xM → Prop) : Prop :=
  (∀ m_2 : xM, m_2 = xu μ 0 4 (0 : Int32) → wp_X6_isSheet n a1 m_2 (fun r_6 : Int32 => ((r_6 = 0 → K ((-1) : Int32) m_2) ∧ (¬ r_6 = 0 → wp_X6_isSheet n a3 m_2 (fun r_13 : Int32 => ((¬ r_13 = 0 → (vp_in a1 4 ∧ (vp_in a3 4 ∧ (((m_2 (2 + a1.toNatClampNeg) 1) = 0 → wp_X6_faulty n (1 : Int32) m_2 (fun (r_55 : Int32) (m_55 : xM) => K r_55 m_55)) ∧ (¬ (m_2 (2 + a1.toNatClampNeg) 1) = 0 → ((¬ (m_2 (2 + a3.toNatClampNeg) 1) = 0 → (((m_2 (2 + a1.toNatClampNeg) 2) = (m_2 (2 + a3.toNatClampNeg) 2) → wp_X2_hasRun n (a1.toNatClampNeg) a2 a5 m_2 (fun r_83 : Int32 => ((r_83 = 0 → wp_X6_faulty n (3 : Int32) m_2 (fun (r_103 : Int32) (m_103 : xM) => K r_103 m_103)) ∧ (¬ r_83 = 0 → wp_X2_hasRun n (a3.toNatClampNeg) a4 a5 m_2 (fun r_95 : Int32 => ((¬ r_95 = 0 → ((¬ a2 < 0 ∧ ¬ a4 < 0 ∧ ¬ a5 < 0 ∧ a2.toNatClampNeg + a5.toNatClampNeg ≤ 60 ∧ a4.toNatClampNeg + a5.toNatClampNeg ≤ 60) ∧ (∀ m_122 : xM, m_122 = xcp m_2 (6 + a1.toNatClampNeg) (6 + a3.toNatClampNeg) a2.toNatClampNeg a4.toNatClampNeg a5.toNatClampNeg → K a5 m_122))) ∧ (r_95 = 0 → wp_X6_faulty n (3 : Int32) m_2 (fun (r_103 : Int32) (m_103 : xM) => K r_103 m_103)))))))) ∧ (¬ (m_2 (2 + a1.toNatClampNeg) 2) = (m_2 (2 + a3.toNatClampNeg) 2) → wp_X6_faulty n (2 : Int32) m_2 (fun (r_74 : Int32) (m_74 : xM) => K r_74 m_74)))) ∧ ((m_2 (2 + a3.toNatClampNeg) 1) = 0 → wp_X6_faulty n (1 : Int32) m_2 (fun (r_55 : Int32) (m_55 : xM) => K r_55 m_55)))))))) ∧ (r_13 = 0 → K ((-1) : Int32) m_2)))))))
set_option maxHeartbeats 4000000 in
set_option maxRecDepth 100000 in
theorem cm_X6_copy (l : Launch) (G : xG) (ad : Nat → Nat) (hI : xI 36 ad) (n : Nat) (a1 : Int32) (a2 : Int32) (a3 : Int32) (a4 : Int32) (a5 : Int32) (μ : xM) (K : Int32 → xM → Prop) (hf : wp_X6_copy n a1 a2 a3 a4 a5 μ K) : Met l yX6_copy (Cond.code yX6_copy cX6_copy 8 (some .int) :: xw_all) (rmo 2 41) (va_Pc [.ref (ad 0), .int a1, .int a2, .int a3, .int a4, .int a5] (xPre cS 36 G ad μ)) (xQi cS 36 G ad K) 0 0 (xR 36 ad) := by
  refine x_ent (nL := 8) (own := RX6) (by decide) rfl hI (Nat.le_of_ble_eq_true rfl) ?_
  intro p e s m args below meth c H locs ls Q X hr hlk hQ M hl
  have hx := X.1.1
  have hb := X.1.2.1
  have hown := X.1.2.2.2.1
  have hts := X.1.2.2.2.2
  have hl : lv_has ls 8 [(0, .ref (ad 0)), (1, .int a1), (2, .int a2), (3, .int a3), (4, .int a4), (5, .int a5)] := hl
  unfold wp_X6_copy at hf
  refine lv_aload_n hx hb dX6_copy_0 rfl (lv_at hl 0 rfl) ?_
  refine lv_iconst (v := (0 : Int32)) hx hb dX6_copy_1 (by decide) ?_
  refine x_putI X M rgc_0 fp_X6_36 rfl dX6_copy_2 (fun m_2 H locs em_2 M => ?_)
  replace hf := hf m_2 em_2
  refine lv_iload_n hx hb dX6_copy_5 rfl (lv_at hl 1 rfl) ?_
  refine x_ciP (x_rS (As := [.int a1]) (rest := []) X M (cm_X6_isSheet l G ad hI n a1 m_2 _ hf) mc_X6_isSheet ms_X6_isSheet lk_X6_39 mn_X6_isSheet hl ⟨⟨Nat.le_of_ble_eq_true rfl, Nat.le_of_ble_eq_true rfl⟩, rfl, Nat.le_of_ble_eq_true rfl, Nat.zero_le _, Nat.zero_le _⟩ rfl dX6_copy_6) M (fun r_6 H locs hf M => ?_)
  try dsimp only at hf
  refine lv_if_eq (tgt := 19) hx hb dX6_copy_9 (by decide) (fun c_9 => ?_) (fun c_9 => ?_)
  · replace hf := hf.1 c_9
    refine lv_iconst (v := ((-1) : Int32)) hx hb dX6_copy_19 (by decide) ?_
    rw [hQ]
    exact x_iret X M hr hlk dX6_copy_20 hf
  · replace hf := hf.2 c_9
    refine lv_iload_n hx hb dX6_copy_12 rfl (lv_at hl 3 rfl) ?_
    refine x_ciP (x_rS (As := [.int a3]) (rest := []) X M (cm_X6_isSheet l G ad hI n a3 m_2 _ hf) mc_X6_isSheet ms_X6_isSheet lk_X6_39 mn_X6_isSheet hl ⟨⟨Nat.le_of_ble_eq_true rfl, Nat.le_of_ble_eq_true rfl⟩, rfl, Nat.le_of_ble_eq_true rfl, Nat.zero_le _, Nat.zero_le _⟩ rfl dX6_copy_13) M (fun r_13 H locs hf M => ?_)
    try dsimp only at hf
    refine lv_if_ne (tgt := 21) hx hb dX6_copy_16 (by decide) (fun c_16 => ?_) (fun c_16 => ?_)
    · replace hf := hf.1 c_16
      refine lv_aload_n hx hb dX6_copy_21 rfl (lv_at hl 0 rfl) ?_
      refine x_getR (r := 1) X M rgc_0 fd_X6_13 rfl dX6_copy_22 ?_
      refine lv_iload_n hx hb dX6_copy_25 rfl (lv_at hl 1 rfl) ?_
      obtain ⟨g_26, hf⟩ := hf
      refine x_ald X M rgc_1 rfl g_26 dX6_copy_26 ?_
      refine lv_astore (lv' := [(6, .ref (ad (2 + a1.toNatClampNeg))), (0, .ref (ad 0)), (1, .int a1), (2, .int a2), (3, .int a3), (4, .int a4), (5, .int a5)]) hx hb dX6_copy_27 hl (by decide) rfl (fun ls hl => ?_)
      refine lv_aload_n hx hb dX6_copy_29 rfl (lv_at hl 1 rfl) ?_
      refine x_getR (r := 1) X M rgc_0 fd_X6_13 rfl dX6_copy_30 ?_
      refine lv_iload_n hx hb dX6_copy_33 rfl (lv_at hl 4 rfl) ?_
      obtain ⟨g_34, hf⟩ := hf
      refine x_ald X M rgc_1 rfl g_34 dX6_copy_34 ?_
      refine lv_astore (lv' := [(7, .ref (ad (2 + a3.toNatClampNeg))), (6, .ref (ad (2 + a1.toNatClampNeg))), (0, .ref (ad 0)), (1, .int a1), (2, .int a2), (3, .int a3), (4, .int a4), (5, .int a5)]) hx hb dX6_copy_35 hl (by decide) rfl (fun ls hl => ?_)
      refine lv_aload hx hb dX6_copy_37 (lv_at hl 1 rfl) ?_
      refine x_getI X M (rgc_2 (vp_lt g_26)) fd_X6_194 rfl dX6_copy_39 ?_
      refine lv_if_eq (tgt := 53) hx hb dX6_copy_42 (by decide) (fun c_42 => ?_) (fun c_42 => ?_)
      · replace hf := hf.1 c_42
        refine lv_aload_n hx hb dX6_copy_53 rfl (lv_at hl 2 rfl) ?_
        refine lv_iconst (v := (1 : Int32)) hx hb dX6_copy_54 (by decide) ?_
        refine x_ci (x_rV (As := [.int (1 : Int32)]) (rest := []) X M (cm_X6_faulty l G ad hI n (1 : Int32) m_2 _ hf) mc_X6_faulty mv_X6_faulty lk_X6_54 mn_X6_faulty rgc_0 rfl hl ⟨⟨Nat.le_of_ble_eq_true rfl, Nat.le_of_ble_eq_true rfl⟩, rfl, Nat.le_of_ble_eq_true rfl, Nat.zero_le _, Nat.zero_le _⟩ rfl dX6_copy_55) M (fun r_55 m_55 H locs hf M => ?_)
        try dsimp only at hf
        rw [hQ]
        exact x_iret X M hr hlk dX6_copy_58 hf
      · replace hf := hf.2 c_42
        refine lv_aload hx hb dX6_copy_45 (lv_at hl 0 rfl) ?_
        refine x_getI X M (rgc_2 (vp_lt g_34)) fd_X6_194 rfl dX6_copy_47 ?_
        refine lv_if_ne (tgt := 59) hx hb dX6_copy_50 (by decide) (fun c_50 => ?_) (fun c_50 => ?_)
        · replace hf := hf.1 c_50
          refine lv_aload hx hb dX6_copy_59 (lv_at hl 1 rfl) ?_
          refine x_getI X M (rgc_2 (vp_lt g_26)) fd_X6_200 rfl dX6_copy_61 ?_
          refine lv_aload hx hb dX6_copy_64 (lv_at hl 0 rfl) ?_
          refine x_getI X M (rgc_2 (vp_lt g_34)) fd_X6_200 rfl dX6_copy_66 ?_
          refine lv_icmp_eq (tgt := 78) hx hb dX6_copy_69 (by decide) (fun c_69 => ?_) (fun c_69 => ?_)
          · replace hf := hf.1 c_69
            refine lv_aload hx hb dX6_copy_78 (lv_at hl 1 rfl) ?_
            refine lv_iload_n hx hb dX6_copy_80 rfl (lv_at hl 4 rfl) ?_
            refine lv_iload hx hb dX6_copy_81 (lv_at hl 7 rfl) ?_
            refine x_ciP (x_rVN (As := [.int a2, .int a5]) (rest := []) X M (cm_X2_hasRun l G ad hI n (a1.toNatClampNeg) (vp_lt g_26) a2 a5 m_2 _ hf) mc_X2_hasRun mv_X2_hasRun ln_X6_50 mn_X2_hasRun (rgc_2 (vp_lt g_26)) rfl hl ⟨⟨Nat.le_of_ble_eq_true rfl, Nat.le_of_ble_eq_true rfl⟩, rfl, Nat.le_of_ble_eq_true rfl, Nat.zero_le _, Nat.zero_le _⟩ rfl dX6_copy_83) M (fun r_83 H locs hf M => ?_)
            try dsimp only at hf
            refine lv_if_eq (tgt := 101) hx hb dX6_copy_86 (by decide) (fun c_86 => ?_) (fun c_86 => ?_)
            · replace hf := hf.1 c_86
              refine lv_aload_n hx hb dX6_copy_101 rfl (lv_at hl 2 rfl) ?_
              refine lv_iconst (v := (3 : Int32)) hx hb dX6_copy_102 (by decide) ?_
              refine x_ci (x_rV (As := [.int (3 : Int32)]) (rest := []) X M (cm_X6_faulty l G ad hI n (3 : Int32) m_2 _ hf) mc_X6_faulty mv_X6_faulty lk_X6_54 mn_X6_faulty rgc_0 rfl hl ⟨⟨Nat.le_of_ble_eq_true rfl, Nat.le_of_ble_eq_true rfl⟩, rfl, Nat.le_of_ble_eq_true rfl, Nat.zero_le _, Nat.zero_le _⟩ rfl dX6_copy_103) M (fun r_103 m_103 H locs hf M => ?_)
              try dsimp only at hf
              rw [hQ]
              exact x_iret X M hr hlk dX6_copy_106 hf
            · replace hf := hf.2 c_86
              refine lv_aload hx hb dX6_copy_89 (lv_at hl 0 rfl) ?_
              refine lv_iload hx hb dX6_copy_91 (lv_at hl 6 rfl) ?_
              refine lv_iload hx hb dX6_copy_93 (lv_at hl 7 rfl) ?_
              refine x_ciP (x_rVN (As := [.int a4, .int a5]) (rest := []) X M (cm_X2_hasRun l G ad hI n (a3.toNatClampNeg) (vp_lt g_34) a4 a5 m_2 _ hf) mc_X2_hasRun mv_X2_hasRun ln_X6_50 mn_X2_hasRun (rgc_2 (vp_lt g_34)) rfl hl ⟨⟨Nat.le_of_ble_eq_true rfl, Nat.le_of_ble_eq_true rfl⟩, rfl, Nat.le_of_ble_eq_true rfl, Nat.zero_le _, Nat.zero_le _⟩ rfl dX6_copy_95) M (fun r_95 H locs hf M => ?_)
              try dsimp only at hf
              refine lv_if_ne (tgt := 107) hx hb dX6_copy_98 (by decide) (fun c_98 => ?_) (fun c_98 => ?_)
              · replace hf := hf.1 c_98
                refine lv_aload hx hb dX6_copy_107 (lv_at hl 1 rfl) ?_
                refine x_getR (r := (6 + a1.toNatClampNeg)) X M (rgc_2 (vp_lt g_26)) fd_X6_172 rfl dX6_copy_109 ?_
                refine lv_iload_n hx hb dX6_copy_112 rfl (lv_at hl 4 rfl) ?_
                refine lv_aload hx hb dX6_copy_113 (lv_at hl 0 rfl) ?_
                refine x_getR (r := (6 + a3.toNatClampNeg)) X M (rgc_2 (vp_lt g_34)) fd_X6_172 rfl dX6_copy_115 ?_
                refine lv_iload hx hb dX6_copy_118 (lv_at hl 6 rfl) ?_
                refine lv_iload hx hb dX6_copy_120 (lv_at hl 7 rfl) ?_
                obtain ⟨g_122, hf⟩ := hf
                refine x_cpy X M hl lk_X6_203 cy_ok (rgc_6 (vp_lt g_26)) (rgc_6 (vp_lt g_34)) g_122.1 g_122.2.1 g_122.2.2.1 g_122.2.2.2.1 g_122.2.2.2.2 (Nat.le_of_ble_eq_true rfl) (Nat.le_of_ble_eq_true rfl) dX6_copy_122 (fun m_122 H locs em_122 M => ?_)
                replace hf := hf m_122 em_122
                refine lv_iload hx hb dX6_copy_125 (lv_at hl 7 rfl) ?_
                rw [hQ]
                exact x_iret X M hr hlk dX6_copy_127 hf
              · replace hf := hf.2 c_98
                refine lv_aload_n hx hb dX6_copy_101 rfl (lv_at hl 2 rfl) ?_
                refine lv_iconst (v := (3 : Int32)) hx hb dX6_copy_102 (by decide) ?_
                refine x_ci (x_rV (As := [.int (3 : Int32)]) (rest := []) X M (cm_X6_faulty l G ad hI n (3 : Int32) m_2 _ hf) mc_X6_faulty mv_X6_faulty lk_X6_54 mn_X6_faulty rgc_0 rfl hl ⟨⟨Nat.le_of_ble_eq_true rfl, Nat.le_of_ble_eq_true rfl⟩, rfl, Nat.le_of_ble_eq_true rfl, Nat.zero_le _, Nat.zero_le _⟩ rfl dX6_copy_103) M (fun r_103 m_103 H locs hf M => ?_)
                try dsimp only at hf
                rw [hQ]
                exact x_iret X M hr hlk dX6_copy_106 hf
          · replace hf := hf.2 c_69
            refine lv_aload_n hx hb dX6_copy_72 rfl (lv_at hl 2 rfl) ?_
            refine lv_iconst (v := (2 : Int32)) hx hb dX6_copy_73 (by decide) ?_
            refine x_ci (x_rV (As := [.int (2 : Int32)]) (rest := []) X M (cm_X6_faulty l G ad hI n (2 : Int32) m_2 _ hf) mc_X6_faulty mv_X6_faulty lk_X6_54 mn_X6_faulty rgc_0 rfl hl ⟨⟨Nat.le_of_ble_eq_true rfl, Nat.le_of_ble_eq_true rfl⟩, rfl, Nat.le_of_ble_eq_true rfl, Nat.zero_le _, Nat.zero_le _⟩ rfl dX6_copy_74) M (fun r_74 m_74 H locs hf M => ?_)
            try dsimp only at hf
            rw [hQ]
            exact x_iret X M hr hlk dX6_copy_77 hf
        · replace hf := hf.2 c_50
          refine lv_aload_n hx hb dX6_copy_53 rfl (lv_at hl 2 rfl) ?_
          refine lv_iconst (v := (1 : Int32)) hx hb dX6_copy_54 (by decide) ?_
          refine x_ci (x_rV (As := [.int (1 : Int32)]) (rest := []) X M (cm_X6_faulty l G ad hI n (1 : Int32) m_2 _ hf) mc_X6_faulty mv_X6_faulty lk_X6_54 mn_X6_faulty rgc_0 rfl hl ⟨⟨Nat.le_of_ble_eq_true rfl, Nat.le_of_ble_eq_true rfl⟩, rfl, Nat.le_of_ble_eq_true rfl, Nat.zero_le _, Nat.zero_le _⟩ rfl dX6_copy_55) M (fun r_55 m_55 H locs hf M => ?_)
          try dsimp only at hf
          rw [hQ]
          exact x_iret X M hr hlk dX6_copy_58 hf
    · replace hf := hf.2 c_16
      refine lv_iconst (v := ((-1) : Int32)) hx hb dX6_copy_19 (by decide) ?_
      rw [hQ]
      exact x_iret X M hr hlk dX6_copy_20 hf
def wp_X6_leave (n : Nat) (a1 : Int32) (μ : xM) (K : xM → Prop) : Prop :=
  (∀ m_10 : xM, m_10 = xu μ 0 3 (((31 : Int32) * (μ 0 3)) + a1) → K m_10)
set_option maxHeartbeats 4000000 in
set_option maxRecDepth 100000 in
theorem cm_X6_leave (l : Launch) (G : xG) (ad : Nat → Nat) (hI : xI 36 ad) (n : Nat) (a1 : Int32) (μ : xM) (K : xM → Prop) (hf : wp_X6_leave n a1 μ K) : Met l yX6_leave (Cond.code yX6_leave cX6_leave 2 none :: xw_all) (rmo 0 0) (va_Pc [.ref (ad 0), .int a1] (xPre cS 36 G ad μ)) (xQv cS 36 G ad K) 0 0 (xR 36 ad) := by
  refine x_ent (nL := 2) (own := RX6) (by decide) rfl hI (Nat.le_of_ble_eq_true rfl) ?_
  intro p e s m args below meth c H locs ls Q X hr hlk hQ M hl
  have hx := X.1.1
  have hb := X.1.2.1
  have hown := X.1.2.2.2.1
  have hts := X.1.2.2.2.2
  have hl : lv_has ls 2 [(0, .ref (ad 0)), (1, .int a1)] := hl
  unfold wp_X6_leave at hf
  refine lv_aload_n hx hb dX6_leave_0 rfl (lv_at hl 0 rfl) ?_
  refine lv_bipush (v := (31 : Int32)) hx hb dX6_leave_1 (by decide) ?_
  refine lv_aload_n hx hb dX6_leave_3 rfl (lv_at hl 0 rfl) ?_
  refine x_getI X M rgc_0 fd_X6_32 rfl dX6_leave_4 ?_
  refine lv_imul hx hb dX6_leave_7 ?_
  refine lv_iload_n hx hb dX6_leave_8 rfl (lv_at hl 1 rfl) ?_
  refine lv_iadd hx hb dX6_leave_9 ?_
  refine x_putI X M rgc_0 fp_X6_32 rfl dX6_leave_10 (fun m_10 H locs em_10 M => ?_)
  replace hf := hf m_10 em_10
  rw [hQ]
  exact x_vret X M hr hlk dX6_leave_13 hf
def wp_X6_saintTells (n : Nat) (k1 : Nat) (μ : xM) (K : Int32 → xM → Prop) : Prop :=
  wp_X6_leave n (1 : Int32) μ (fun m_2 : xM => (vp_in (0 : Int32) 3 ∧ K (m_2 (24 + k1) (0 : Int32).toNatClampNeg) m_2))
set_option maxHeartbeats 4000000 in
set_option maxRecDepth 100000 in
theorem cm_X6_saintTells (l : Launch) (G : xG) (ad : Nat → Nat) (hI : xI 36 ad) (n : Nat) (k1 : Nat) (hk1 : k1 < 7) (μ : xM) (K : Int32 → xM → Prop) (hf : wp_X6_saintTells n k1 μ K) : Met l yX6_saintTells (Cond.code yX6_saintTells cX6_saintTells 2 (some .int) :: xw_all) (rmo 1 21) (va_Pc [.ref (ad 0), .ref (ad (17 + k1))] (xPre cS 36 G ad μ)) (xQi cS 36 G ad K) 0 0 (xR 36 ad) := by
  refine x_ent (nL := 2) (own := RX6) (by decide) rfl hI (Nat.le_of_ble_eq_true rfl) ?_
  intro p e s m args below meth c H locs ls Q X hr hlk hQ M hl
  have hx := X.1.1
  have hb := X.1.2.1
  have hown := X.1.2.2.2.1
  have hts := X.1.2.2.2.2
  have hl : lv_has ls 2 [(0, .ref (ad 0)), (1, .ref (ad (17 + k1)))] := hl
  unfold wp_X6_saintTells at hf
  refine lv_aload_n hx hb dX6_saintTells_0 rfl (lv_at hl 0 rfl) ?_
  refine lv_iconst (v := (1 : Int32)) hx hb dX6_saintTells_1 (by decide) ?_
  refine x_cv (x_rV (As := [.int (1 : Int32)]) (rest := []) X M (cm_X6_leave l G ad hI n (1 : Int32) μ _ hf) mc_X6_leave mv_X6_leave lk_X6_219 mn_X6_leave rgc_0 rfl hl ⟨⟨Nat.le_of_ble_eq_true rfl, Nat.le_of_ble_eq_true rfl⟩, rfl, Nat.le_of_ble_eq_true rfl, Nat.zero_le _, Nat.zero_le _⟩ rfl dX6_saintTells_2) M (fun m_2 H locs hf M => ?_)
  try dsimp only at hf
  refine lv_aload_n hx hb dX6_saintTells_5 rfl (lv_at hl 1 rfl) ?_
  refine x_getR (r := (24 + k1)) X M (rgc_17 hk1) fd_X6_81 rfl dX6_saintTells_6 ?_
  refine lv_iconst (v := (0 : Int32)) hx hb dX6_saintTells_9 (by decide) ?_
  obtain ⟨g_10, hf⟩ := hf
  refine x_ild X M (rgc_24 hk1) g_10 dX6_saintTells_10 ?_
  rw [hQ]
  exact x_iret X M hr hlk dX6_saintTells_11 hf
def wp_X6_bishopTells (n : Nat) (k1 : Nat) (μ : xM) (K : Int32 → xM → Prop) : Prop :=
  wp_X6_leave n (2 : Int32) μ (fun m_2 : xM => wp_X6_saintTells n k1 m_2 (fun (r_7 : Int32) (m_7 : xM) => K (r_7 + (100 : Int32)) m_7))
set_option maxHeartbeats 4000000 in
set_option maxRecDepth 100000 in
theorem cm_X6_bishopTells (l : Launch) (G : xG) (ad : Nat → Nat) (hI : xI 36 ad) (n : Nat) (k1 : Nat) (hk1 : k1 < 7) (μ : xM) (K : Int32 → xM → Prop) (hf : wp_X6_bishopTells n k1 μ K) : Met l yX6_bishopTells (Cond.code yX6_bishopTells cX6_bishopTells 2 (some .int) :: xw_all) (rmo 2 42) (va_Pc [.ref (ad 0), .ref (ad (17 + k1))] (xPre cS 36 G ad μ)) (xQi cS 36 G ad K) 0 0 (xR 36 ad) := by
  refine x_ent (nL := 2) (own := RX6) (by decide) rfl hI (Nat.le_of_ble_eq_true rfl) ?_
  intro p e s m args below meth c H locs ls Q X hr hlk hQ M hl
  have hx := X.1.1
  have hb := X.1.2.1
  have hown := X.1.2.2.2.1
  have hts := X.1.2.2.2.2
  have hl : lv_has ls 2 [(0, .ref (ad 0)), (1, .ref (ad (17 + k1)))] := hl
  unfold wp_X6_bishopTells at hf
  refine lv_aload_n hx hb dX6_bishopTells_0 rfl (lv_at hl 0 rfl) ?_
  refine lv_iconst (v := (2 : Int32)) hx hb dX6_bishopTells_1 (by decide) ?_
  refine x_cv (x_rV (As := [.int (2 : Int32)]) (rest := []) X M (cm_X6_leave l G ad hI n (2 : Int32) μ _ hf) mc_X6_leave mv_X6_leave lk_X6_219 mn_X6_leave rgc_0 rfl hl ⟨⟨Nat.le_of_ble_eq_true rfl, Nat.le_of_ble_eq_true rfl⟩, rfl, Nat.le_of_ble_eq_true rfl, Nat.zero_le _, Nat.zero_le _⟩ rfl dX6_bishopTells_2) M (fun m_2 H locs hf M => ?_)
  try dsimp only at hf
  refine lv_aload_n hx hb dX6_bishopTells_5 rfl (lv_at hl 0 rfl) ?_
  refine lv_aload_n hx hb dX6_bishopTells_6 rfl (lv_at hl 1 rfl) ?_
  refine x_ci (x_rV (As := [.ref (ad (17 + k1))]) (rest := []) X M (cm_X6_saintTells l G ad hI n k1 hk1 m_2 _ hf) mc_X6_saintTells mv_X6_saintTells lk_X6_216 mn_X6_saintTells rgc_0 rfl hl ⟨⟨Nat.le_of_ble_eq_true rfl, Nat.le_of_ble_eq_true rfl⟩, rfl, Nat.le_of_ble_eq_true rfl, Nat.zero_le _, Nat.zero_le _⟩ rfl dX6_bishopTells_7) M (fun r_7 m_7 H locs hf M => ?_)
  try dsimp only at hf
  refine lv_bipush (v := (100 : Int32)) hx hb dX6_bishopTells_10 (by decide) ?_
  refine lv_iadd hx hb dX6_bishopTells_12 ?_
  rw [hQ]
  exact x_iret X M hr hlk dX6_bishopTells_13 hf
def wp_X6_martyrTells (n : Nat) (k1 : Nat) (μ : xM) (K : Int32 → xM → Prop) : Prop :=
  wp_X6_leave n (3 : Int32) μ (fun m_2 : xM => wp_X6_bishopTells n k1 m_2 (fun (r_7 : Int32) (m_7 : xM) => wp_X6_saintTells n k1 m_7 (fun (r_14 : Int32) (m_14 : xM) => K (r_7 + r_14) m_14)))
set_option maxHeartbeats 4000000 in
set_option maxRecDepth 100000 in
theorem cm_X6_martyrTells (l : Launch) (G : xG) (ad : Nat → Nat) (hI : xI 36 ad) (n : Nat) (k1 : Nat) (hk1 : k1 < 7) (μ : xM) (K : Int32 → xM → Prop) (hf : wp_X6_martyrTells n k1 μ K) : Met l yX6_martyrTells (Cond.code yX6_martyrTells cX6_martyrTells 3 (some .int) :: xw_all) (rmo 3 63) (va_Pc [.ref (ad 0), .ref (ad (17 + k1))] (xPre cS 36 G ad μ)) (xQi cS 36 G ad K) 0 0 (xR 36 ad) := by
  refine x_ent (nL := 3) (own := RX6) (by decide) rfl hI (Nat.le_of_ble_eq_true rfl) ?_
  intro p e s m args below meth c H locs ls Q X hr hlk hQ M hl
  have hx := X.1.1
  have hb := X.1.2.1
  have hown := X.1.2.2.2.1
  have hts := X.1.2.2.2.2
  have hl : lv_has ls 3 [(0, .ref (ad 0)), (1, .ref (ad (17 + k1)))] := hl
  unfold wp_X6_martyrTells at hf
  refine lv_aload_n hx hb dX6_martyrTells_0 rfl (lv_at hl 0 rfl) ?_
  refine lv_iconst (v := (3 : Int32)) hx hb dX6_martyrTells_1 (by decide) ?_
  refine x_cv (x_rV (As := [.int (3 : Int32)]) (rest := []) X M (cm_X6_leave l G ad hI n (3 : Int32) μ _ hf) mc_X6_leave mv_X6_leave lk_X6_219 mn_X6_leave rgc_0 rfl hl ⟨⟨Nat.le_of_ble_eq_true rfl, Nat.le_of_ble_eq_true rfl⟩, rfl, Nat.le_of_ble_eq_true rfl, Nat.zero_le _, Nat.zero_le _⟩ rfl dX6_martyrTells_2) M (fun m_2 H locs hf M => ?_)
  try dsimp only at hf
  refine lv_aload_n hx hb dX6_martyrTells_5 rfl (lv_at hl 0 rfl) ?_
  refine lv_aload_n hx hb dX6_martyrTells_6 rfl (lv_at hl 1 rfl) ?_
  refine x_ci (x_rV (As := [.ref (ad (17 + k1))]) (rest := []) X M (cm_X6_bishopTells l G ad hI n k1 hk1 m_2 _ hf) mc_X6_bishopTells mv_X6_bishopTells lk_X6_213 mn_X6_bishopTells rgc_0 rfl hl ⟨⟨Nat.le_of_ble_eq_true rfl, Nat.le_of_ble_eq_true rfl⟩, rfl, Nat.le_of_ble_eq_true rfl, Nat.zero_le _, Nat.zero_le _⟩ rfl dX6_martyrTells_7) M (fun r_7 m_7 H locs hf M => ?_)
  try dsimp only at hf
  refine lv_istore_n (lv' := [(2, .int r_7), (0, .ref (ad 0)), (1, .ref (ad (17 + k1)))]) hx hb dX6_martyrTells_10 rfl hl (by decide) rfl (fun ls hl => ?_)
  refine lv_iload_n hx hb dX6_martyrTells_11 rfl (lv_at hl 0 rfl) ?_
  refine lv_aload_n hx hb dX6_martyrTells_12 rfl (lv_at hl 1 rfl) ?_
  refine lv_aload_n hx hb dX6_martyrTells_13 rfl (lv_at hl 2 rfl) ?_
  refine x_ci (x_rV (As := [.ref (ad (17 + k1))]) (rest := [.int r_7]) X M (cm_X6_saintTells l G ad hI n k1 hk1 m_7 _ hf) mc_X6_saintTells mv_X6_saintTells lk_X6_216 mn_X6_saintTells rgc_0 rfl hl ⟨⟨Nat.le_of_ble_eq_true rfl, Nat.le_of_ble_eq_true rfl⟩, rfl, Nat.le_of_ble_eq_true rfl, Nat.zero_le _, Nat.zero_le _⟩ rfl dX6_martyrTells_14) M (fun r_14 m_14 H locs hf M => ?_)
  try dsimp only at hf
  refine lv_iadd hx hb dX6_martyrTells_17 ?_
  rw [hQ]
  exact x_iret X M hr hlk dX6_martyrTells_18 hf
def wp_X6_tell (n : Nat) (a1 : Int32) (μ : xM) (K : Int32 → xM → Prop) : Prop :=
  wp_X6_isStatue n a1 μ (fun r_2 : Int32 => ((¬ r_2 = 0 → (vp_in a1 7 ∧ ((((μ (17 + a1.toNatClampNeg) 1) = 1) → wp_X6_bishopTells n (a1.toNatClampNeg) μ (fun (r_60 : Int32) (m_60 : xM) => K r_60 m_60)) ∧ (¬ ((μ (17 + a1.toNatClampNeg) 1) = 1) → ((((μ (17 + a1.toNatClampNeg) 1) = 2) → wp_X6_martyrTells n (a1.toNatClampNeg) μ (fun (r_54 : Int32) (m_54 : xM) => K r_54 m_54)) ∧ (¬ ((μ (17 + a1.toNatClampNeg) 1) = 2) → wp_X6_saintTells n (a1.toNatClampNeg) μ (fun (r_66 : Int32) (m_66 : xM) => K r_66 m_66))))))) ∧ (r_2 = 0 → K ((-1) : Int32) μ)))
set_option maxHeartbeats 4000000 in
set_option maxRecDepth 100000 in
theorem cm_X6_tell (l : Launch) (G : xG) (ad : Nat → Nat) (hI : xI 36 ad) (n : Nat) (a1 : Int32) (μ : xM) (K : Int32 → xM → Prop) (hf : wp_X6_tell n a1 μ K) : Met l yX6_tell (Cond.code yX6_tell cX6_tell 3 (some .int) :: xw_all) (rmo 4 85) (va_Pc [.ref (ad 0), .int a1] (xPre cS 36 G ad μ)) (xQi cS 36 G ad K) 0 0 (xR 36 ad) := by
  refine x_ent (nL := 3) (own := RX6) (by decide) rfl hI (Nat.le_of_ble_eq_true rfl) ?_
  intro p e s m args below meth c H locs ls Q X hr hlk hQ M hl
  have hx := X.1.1
  have hb := X.1.2.1
  have hown := X.1.2.2.2.1
  have hts := X.1.2.2.2.2
  have hl : lv_has ls 3 [(0, .ref (ad 0)), (1, .int a1)] := hl
  unfold wp_X6_tell at hf
  refine lv_aload_n hx hb dX6_tell_0 rfl (lv_at hl 0 rfl) ?_
  refine lv_iload_n hx hb dX6_tell_1 rfl (lv_at hl 1 rfl) ?_
  refine x_ciP (x_rV (As := [.int a1]) (rest := []) X M (cm_X6_isStatue l G ad hI n a1 μ _ hf) mc_X6_isStatue mv_X6_isStatue lk_X6_74 mn_X6_isStatue rgc_0 rfl hl ⟨⟨Nat.le_of_ble_eq_true rfl, Nat.le_of_ble_eq_true rfl⟩, rfl, Nat.le_of_ble_eq_true rfl, Nat.zero_le _, Nat.zero_le _⟩ rfl dX6_tell_2) M (fun r_2 H locs hf M => ?_)
  try dsimp only at hf
  refine lv_if_ne (tgt := 10) hx hb dX6_tell_5 (by decide) (fun c_5 => ?_) (fun c_5 => ?_)
  · replace hf := hf.1 c_5
    refine lv_aload_n hx hb dX6_tell_10 rfl (lv_at hl 0 rfl) ?_
    refine x_getR (r := 10) X M rgc_0 fd_X6_21 rfl dX6_tell_11 ?_
    refine x_getR (r := 11) X M rgc_10 fd_X6_77 rfl dX6_tell_14 ?_
    refine lv_iload_n hx hb dX6_tell_17 rfl (lv_at hl 1 rfl) ?_
    obtain ⟨g_18, hf⟩ := hf
    refine x_ald X M rgc_11 rfl g_18 dX6_tell_18 ?_
    refine lv_astore_n (lv' := [(2, .ref (ad (17 + a1.toNatClampNeg))), (0, .ref (ad 0)), (1, .int a1)]) hx hb dX6_tell_19 rfl hl (by decide) rfl (fun ls hl => ?_)
    refine lv_aload_n hx hb dX6_tell_20 rfl (lv_at hl 0 rfl) ?_
    refine x_getI X M (rgc_17 (vp_lt g_18)) fd_X6_87 rfl dX6_tell_21 ?_
    by_cases c_24_0 : (μ (17 + a1.toNatClampNeg) 1) = 1
    · replace hf := hf.1 c_24_0
      refine lv_lookup (off := 34) (tgt := 58) hx hb dX6_tell_24 (by decide) (by have q := c_24_0; (rw [q] <;> decide)) (by decide) ?_
      refine lv_aload_n hx hb dX6_tell_58 rfl (lv_at hl 1 rfl) ?_
      refine lv_aload_n hx hb dX6_tell_59 rfl (lv_at hl 0 rfl) ?_
      refine x_ci (x_rV (As := [.ref (ad (17 + a1.toNatClampNeg))]) (rest := []) X M (cm_X6_bishopTells l G ad hI n (a1.toNatClampNeg) (vp_lt g_18) μ _ hf) mc_X6_bishopTells mv_X6_bishopTells lk_X6_213 mn_X6_bishopTells rgc_0 rfl hl ⟨⟨Nat.le_of_ble_eq_true rfl, Nat.le_of_ble_eq_true rfl⟩, rfl, Nat.le_of_ble_eq_true rfl, Nat.zero_le _, Nat.zero_le _⟩ rfl dX6_tell_60) M (fun r_60 m_60 H locs hf M => ?_)
      try dsimp only at hf
      rw [hQ]
      exact x_iret X M hr hlk dX6_tell_63 hf
    · replace hf := hf.2 c_24_0
      by_cases c_24_1 : (μ (17 + a1.toNatClampNeg) 1) = 2
      · replace hf := hf.1 c_24_1
        refine lv_lookup (off := 28) (tgt := 52) hx hb dX6_tell_24 (by decide) (by have q := c_24_1; (rw [q] <;> decide)) (by decide) ?_
        refine lv_aload_n hx hb dX6_tell_52 rfl (lv_at hl 1 rfl) ?_
        refine lv_aload_n hx hb dX6_tell_53 rfl (lv_at hl 0 rfl) ?_
        refine x_ci (x_rV (As := [.ref (ad (17 + a1.toNatClampNeg))]) (rest := []) X M (cm_X6_martyrTells l G ad hI n (a1.toNatClampNeg) (vp_lt g_18) μ _ hf) mc_X6_martyrTells mv_X6_martyrTells lk_X6_209 mn_X6_martyrTells rgc_0 rfl hl ⟨⟨Nat.le_of_ble_eq_true rfl, Nat.le_of_ble_eq_true rfl⟩, rfl, Nat.le_of_ble_eq_true rfl, Nat.zero_le _, Nat.zero_le _⟩ rfl dX6_tell_54) M (fun r_54 m_54 H locs hf M => ?_)
        try dsimp only at hf
        rw [hQ]
        exact x_iret X M hr hlk dX6_tell_57 hf
      · replace hf := hf.2 c_24_1
        have n_24_1 : ¬ (μ (17 + a1.toNatClampNeg) 1).toInt = 1 := fun q => c_24_0 (by rw [Int32.toInt_inj.mp (q.trans (show (1 : Int) = (1 : Int32).toInt from rfl))] <;> decide)
        have n_24_2 : ¬ (μ (17 + a1.toNatClampNeg) 1).toInt = 2 := fun q => c_24_1 (by rw [Int32.toInt_inj.mp (q.trans (show (2 : Int) = (2 : Int32).toInt from rfl))] <;> decide)
        refine lv_lookup (off := 40) (tgt := 64) hx hb dX6_tell_24 (by decide) (by simp [Op.lookupswitch.offset]; (repeat' split) <;> omega) (by decide) ?_
        refine lv_aload_n hx hb dX6_tell_64 rfl (lv_at hl 1 rfl) ?_
        refine lv_aload_n hx hb dX6_tell_65 rfl (lv_at hl 0 rfl) ?_
        refine x_ci (x_rV (As := [.ref (ad (17 + a1.toNatClampNeg))]) (rest := []) X M (cm_X6_saintTells l G ad hI n (a1.toNatClampNeg) (vp_lt g_18) μ _ hf) mc_X6_saintTells mv_X6_saintTells lk_X6_216 mn_X6_saintTells rgc_0 rfl hl ⟨⟨Nat.le_of_ble_eq_true rfl, Nat.le_of_ble_eq_true rfl⟩, rfl, Nat.le_of_ble_eq_true rfl, Nat.zero_le _, Nat.zero_le _⟩ rfl dX6_tell_66) M (fun r_66 m_66 H locs hf M => ?_)
        try dsimp only at hf
        rw [hQ]
        exact x_iret X M hr hlk dX6_tell_69 hf
  · replace hf := hf.2 c_5
    refine lv_iconst (v := ((-1) : Int32)) hx hb dX6_tell_8 (by decide) ?_
    rw [hQ]
    exact x_iret X M hr hlk dX6_tell_9 hf
def wp_X6_bow (n : Nat) (a1 : Int32) (μ : xM) (K : Int32 → xM → Prop) : Prop :=
  wp_X6_isStatue n a1 μ (fun r_2 : Int32 => ((¬ r_2 = 0 → (vp_in a1 7 ∧ ((¬ (μ (17 + a1.toNatClampNeg) 1) = (2 : Int32) → wp_X6_leave n (4 : Int32) μ (fun m_36 : xM => K a1 m_36)) ∧ ((μ (17 + a1.toNatClampNeg) 1) = (2 : Int32) → wp_X6_leave n (5 : Int32) μ (fun m_28 : xM => K (70 : Int32) m_28))))) ∧ (r_2 = 0 → K ((-1) : Int32) μ)))
set_option maxHeartbeats 4000000 in
set_option maxRecDepth 100000 in
theorem cm_X6_bow (l : Launch) (G : xG) (ad : Nat → Nat) (hI : xI 36 ad) (n : Nat) (a1 : Int32) (μ : xM) (K : Int32 → xM → Prop) (hf : wp_X6_bow n a1 μ K) : Met l yX6_bow (Cond.code yX6_bow cX6_bow 2 (some .int) :: xw_all) (rmo 2 42) (va_Pc [.ref (ad 0), .int a1] (xPre cS 36 G ad μ)) (xQi cS 36 G ad K) 0 0 (xR 36 ad) := by
  refine x_ent (nL := 2) (own := RX6) (by decide) rfl hI (Nat.le_of_ble_eq_true rfl) ?_
  intro p e s m args below meth c H locs ls Q X hr hlk hQ M hl
  have hx := X.1.1
  have hb := X.1.2.1
  have hown := X.1.2.2.2.1
  have hts := X.1.2.2.2.2
  have hl : lv_has ls 2 [(0, .ref (ad 0)), (1, .int a1)] := hl
  unfold wp_X6_bow at hf
  refine lv_aload_n hx hb dX6_bow_0 rfl (lv_at hl 0 rfl) ?_
  refine lv_iload_n hx hb dX6_bow_1 rfl (lv_at hl 1 rfl) ?_
  refine x_ciP (x_rV (As := [.int a1]) (rest := []) X M (cm_X6_isStatue l G ad hI n a1 μ _ hf) mc_X6_isStatue mv_X6_isStatue lk_X6_74 mn_X6_isStatue rgc_0 rfl hl ⟨⟨Nat.le_of_ble_eq_true rfl, Nat.le_of_ble_eq_true rfl⟩, rfl, Nat.le_of_ble_eq_true rfl, Nat.zero_le _, Nat.zero_le _⟩ rfl dX6_bow_2) M (fun r_2 H locs hf M => ?_)
  try dsimp only at hf
  refine lv_if_ne (tgt := 10) hx hb dX6_bow_5 (by decide) (fun c_5 => ?_) (fun c_5 => ?_)
  · replace hf := hf.1 c_5
    refine lv_aload_n hx hb dX6_bow_10 rfl (lv_at hl 0 rfl) ?_
    refine x_getR (r := 10) X M rgc_0 fd_X6_21 rfl dX6_bow_11 ?_
    refine x_getR (r := 11) X M rgc_10 fd_X6_77 rfl dX6_bow_14 ?_
    refine lv_iload_n hx hb dX6_bow_17 rfl (lv_at hl 1 rfl) ?_
    obtain ⟨g_18, hf⟩ := hf
    refine x_ald X M rgc_11 rfl g_18 dX6_bow_18 ?_
    refine x_getI X M (rgc_17 (vp_lt g_18)) fd_X6_87 rfl dX6_bow_19 ?_
    refine lv_iconst (v := (2 : Int32)) hx hb dX6_bow_22 (by decide) ?_
    refine lv_icmp_ne (tgt := 34) hx hb dX6_bow_23 (by decide) (fun c_23 => ?_) (fun c_23 => ?_)
    · replace hf := hf.1 c_23
      refine lv_aload_n hx hb dX6_bow_34 rfl (lv_at hl 0 rfl) ?_
      refine lv_iconst (v := (4 : Int32)) hx hb dX6_bow_35 (by decide) ?_
      refine x_cv (x_rV (As := [.int (4 : Int32)]) (rest := []) X M (cm_X6_leave l G ad hI n (4 : Int32) μ _ hf) mc_X6_leave mv_X6_leave lk_X6_219 mn_X6_leave rgc_0 rfl hl ⟨⟨Nat.le_of_ble_eq_true rfl, Nat.le_of_ble_eq_true rfl⟩, rfl, Nat.le_of_ble_eq_true rfl, Nat.zero_le _, Nat.zero_le _⟩ rfl dX6_bow_36) M (fun m_36 H locs hf M => ?_)
      try dsimp only at hf
      refine lv_iload_n hx hb dX6_bow_39 rfl (lv_at hl 1 rfl) ?_
      rw [hQ]
      exact x_iret X M hr hlk dX6_bow_40 hf
    · replace hf := hf.2 c_23
      refine lv_aload_n hx hb dX6_bow_26 rfl (lv_at hl 0 rfl) ?_
      refine lv_iconst (v := (5 : Int32)) hx hb dX6_bow_27 (by decide) ?_
      refine x_cv (x_rV (As := [.int (5 : Int32)]) (rest := []) X M (cm_X6_leave l G ad hI n (5 : Int32) μ _ hf) mc_X6_leave mv_X6_leave lk_X6_219 mn_X6_leave rgc_0 rfl hl ⟨⟨Nat.le_of_ble_eq_true rfl, Nat.le_of_ble_eq_true rfl⟩, rfl, Nat.le_of_ble_eq_true rfl, Nat.zero_le _, Nat.zero_le _⟩ rfl dX6_bow_28) M (fun m_28 H locs hf M => ?_)
      try dsimp only at hf
      refine lv_bipush (v := (70 : Int32)) hx hb dX6_bow_31 (by decide) ?_
      rw [hQ]
      exact x_iret X M hr hlk dX6_bow_33 hf
  · replace hf := hf.2 c_5
    refine lv_iconst (v := ((-1) : Int32)) hx hb dX6_bow_8 (by decide) ?_
    rw [hQ]
    exact x_iret X M hr hlk dX6_bow_9 hf
def wp_X6_as (n : Nat) (a1 : Int32) (a2 : Int32) (μ : xM) (K : Int32 → xM → Prop) : Prop :=
  (∀ m_2 : xM, m_2 = xu μ 0 4 (0 : Int32) → wp_X6_isStatue n a1 m_2 (fun r_7 : Int32 => ((¬ r_7 = 0 → wp_X6_isBelow n a2 (3 : Int32) m_2 (fun r_17 : Int32 => ((¬ r_17 = 0 → (vp_in a1 7 ∧ ((a2 ≤ (m_2 (17 + a1.toNatClampNeg) 1) → K (1 : Int32) m_2) ∧ (¬ a2 ≤ (m_2 (17 + a1.toNatClampNeg) 1) → wp_X6_faulty n (2 : Int32) m_2 (fun (r_44 : Int32) (m_44 : xM) => K r_44 m_44))))) ∧ (r_17 = 0 → K ((-2) : Int32) m_2)))) ∧ (r_7 = 0 → K ((-1) : Int32) m_2))))
set_option maxHeartbeats 4000000 in
set_option maxRecDepth 100000 in
theorem cm_X6_as (l : Launch) (G : xG) (ad : Nat → Nat) (hI : xI 36 ad) (n : Nat) (a1 : Int32) (a2 : Int32) (μ : xM) (K : Int32 → xM → Prop) (hf : wp_X6_as n a1 a2 μ K) : Met l yX6_as (Cond.code yX6_as cX6_as 3 (some .int) :: xw_all) (rmo 2 42) (va_Pc [.ref (ad 0), .int a1, .int a2] (xPre cS 36 G ad μ)) (xQi cS 36 G ad K) 0 0 (xR 36 ad) := by
  refine x_ent (nL := 3) (own := RX6) (by decide) rfl hI (Nat.le_of_ble_eq_true rfl) ?_
  intro p e s m args below meth c H locs ls Q X hr hlk hQ M hl
  have hx := X.1.1
  have hb := X.1.2.1
  have hown := X.1.2.2.2.1
  have hts := X.1.2.2.2.2
  have hl : lv_has ls 3 [(0, .ref (ad 0)), (1, .int a1), (2, .int a2)] := hl
  unfold wp_X6_as at hf
  refine lv_aload_n hx hb dX6_as_0 rfl (lv_at hl 0 rfl) ?_
  refine lv_iconst (v := (0 : Int32)) hx hb dX6_as_1 (by decide) ?_
  refine x_putI X M rgc_0 fp_X6_36 rfl dX6_as_2 (fun m_2 H locs em_2 M => ?_)
  replace hf := hf m_2 em_2
  refine lv_aload_n hx hb dX6_as_5 rfl (lv_at hl 0 rfl) ?_
  refine lv_iload_n hx hb dX6_as_6 rfl (lv_at hl 1 rfl) ?_
  refine x_ciP (x_rV (As := [.int a1]) (rest := []) X M (cm_X6_isStatue l G ad hI n a1 m_2 _ hf) mc_X6_isStatue mv_X6_isStatue lk_X6_74 mn_X6_isStatue rgc_0 rfl hl ⟨⟨Nat.le_of_ble_eq_true rfl, Nat.le_of_ble_eq_true rfl⟩, rfl, Nat.le_of_ble_eq_true rfl, Nat.zero_le _, Nat.zero_le _⟩ rfl dX6_as_7) M (fun r_7 H locs hf M => ?_)
  try dsimp only at hf
  refine lv_if_ne (tgt := 15) hx hb dX6_as_10 (by decide) (fun c_10 => ?_) (fun c_10 => ?_)
  · replace hf := hf.1 c_10
    refine lv_iload_n hx hb dX6_as_15 rfl (lv_at hl 2 rfl) ?_
    refine lv_iconst (v := (3 : Int32)) hx hb dX6_as_16 (by decide) ?_
    refine x_ciP (x_rS (As := [.int a2, .int (3 : Int32)]) (rest := []) X M (cm_X6_isBelow l G ad hI n a2 (3 : Int32) m_2 _ hf) mc_X6_isBelow ms_X6_isBelow lk_X6_100 mn_X6_isBelow hl ⟨⟨Nat.le_of_ble_eq_true rfl, Nat.le_of_ble_eq_true rfl⟩, rfl, Nat.le_of_ble_eq_true rfl, Nat.zero_le _, Nat.zero_le _⟩ rfl dX6_as_17) M (fun r_17 H locs hf M => ?_)
    try dsimp only at hf
    refine lv_if_ne (tgt := 26) hx hb dX6_as_20 (by decide) (fun c_20 => ?_) (fun c_20 => ?_)
    · replace hf := hf.1 c_20
      refine lv_aload_n hx hb dX6_as_26 rfl (lv_at hl 0 rfl) ?_
      refine x_getR (r := 10) X M rgc_0 fd_X6_21 rfl dX6_as_27 ?_
      refine x_getR (r := 11) X M rgc_10 fd_X6_77 rfl dX6_as_30 ?_
      refine lv_iload_n hx hb dX6_as_33 rfl (lv_at hl 1 rfl) ?_
      obtain ⟨g_34, hf⟩ := hf
      refine x_ald X M rgc_11 rfl g_34 dX6_as_34 ?_
      refine x_getI X M (rgc_17 (vp_lt g_34)) fd_X6_87 rfl dX6_as_35 ?_
      refine lv_iload_n hx hb dX6_as_38 rfl (lv_at hl 2 rfl) ?_
      refine lv_icmp_ge (tgt := 48) hx hb dX6_as_39 (by decide) (fun c_39 => ?_) (fun c_39 => ?_)
      · replace hf := hf.1 c_39
        refine lv_iconst (v := (1 : Int32)) hx hb dX6_as_48 (by decide) ?_
        rw [hQ]
        exact x_iret X M hr hlk dX6_as_49 hf
      · replace hf := hf.2 c_39
        refine lv_aload_n hx hb dX6_as_42 rfl (lv_at hl 0 rfl) ?_
        refine lv_iconst (v := (2 : Int32)) hx hb dX6_as_43 (by decide) ?_
        refine x_ci (x_rV (As := [.int (2 : Int32)]) (rest := []) X M (cm_X6_faulty l G ad hI n (2 : Int32) m_2 _ hf) mc_X6_faulty mv_X6_faulty lk_X6_54 mn_X6_faulty rgc_0 rfl hl ⟨⟨Nat.le_of_ble_eq_true rfl, Nat.le_of_ble_eq_true rfl⟩, rfl, Nat.le_of_ble_eq_true rfl, Nat.zero_le _, Nat.zero_le _⟩ rfl dX6_as_44) M (fun r_44 m_44 H locs hf M => ?_)
        try dsimp only at hf
        rw [hQ]
        exact x_iret X M hr hlk dX6_as_47 hf
    · replace hf := hf.2 c_20
      refine lv_bipush (v := ((-2) : Int32)) hx hb dX6_as_23 (by decide) ?_
      rw [hQ]
      exact x_iret X M hr hlk dX6_as_25 hf
  · replace hf := hf.2 c_10
    refine lv_iconst (v := ((-1) : Int32)) hx hb dX6_as_13 (by decide) ?_
    rw [hQ]
    exact x_iret X M hr hlk dX6_as_14 hf
def wp_X6_trace (n : Nat)  (μ : xM) (K : Int32 → Prop) : Prop :=
  K (μ 0 3)
set_option maxHeartbeats 4000000 in
set_option maxRecDepth 100000 in
theorem cm_X6_trace (l : Launch) (G : xG) (ad : Nat → Nat) (hI : xI 36 ad) (n : Nat)  (μ : xM) (K : Int32 → Prop) (hf : wp_X6_trace n μ K) : Met l yX6_trace (Cond.code yX6_trace cX6_trace 1 (some .int) :: xw_all) (rmo 0 0) (va_Pc [.ref (ad 0)] (xPre cS 36 G ad μ)) (xQi cS 36 G ad (fun r u => K r ∧ u = μ)) 0 0 (xR 36 ad) := by
  refine x_ent (nL := 1) (own := RX6) (by decide) rfl hI (Nat.le_of_ble_eq_true rfl) ?_
  intro p e s m args below meth c H locs ls Q X hr hlk hQ M hl
  have hx := X.1.1
  have hb := X.1.2.1
  have hown := X.1.2.2.2.1
  have hts := X.1.2.2.2.2
  have hl : lv_has ls 1 [(0, .ref (ad 0))] := hl
  unfold wp_X6_trace at hf
  refine lv_aload_n hx hb dX6_trace_0 rfl (lv_at hl 0 rfl) ?_
  refine x_getI X M rgc_0 fd_X6_32 rfl dX6_trace_1 ?_
  rw [hQ]
  exact x_iret X M hr hlk dX6_trace_4 ⟨hf, rfl⟩
def wp_X6_fault (n : Nat)  (μ : xM) (K : Int32 → Prop) : Prop :=
  K (μ 0 4)
set_option maxHeartbeats 4000000 in
set_option maxRecDepth 100000 in
theorem cm_X6_fault (l : Launch) (G : xG) (ad : Nat → Nat) (hI : xI 36 ad) (n : Nat)  (μ : xM) (K : Int32 → Prop) (hf : wp_X6_fault n μ K) : Met l yX6_fault (Cond.code yX6_fault cX6_fault 1 (some .int) :: xw_all) (rmo 0 0) (va_Pc [.ref (ad 0)] (xPre cS 36 G ad μ)) (xQi cS 36 G ad (fun r u => K r ∧ u = μ)) 0 0 (xR 36 ad) := by
  refine x_ent (nL := 1) (own := RX6) (by decide) rfl hI (Nat.le_of_ble_eq_true rfl) ?_
  intro p e s m args below meth c H locs ls Q X hr hlk hQ M hl
  have hx := X.1.1
  have hb := X.1.2.1
  have hown := X.1.2.2.2.1
  have hts := X.1.2.2.2.2
  have hl : lv_has ls 1 [(0, .ref (ad 0))] := hl
  unfold wp_X6_fault at hf
  refine lv_aload_n hx hb dX6_fault_0 rfl (lv_at hl 0 rfl) ?_
  refine x_getI X M rgc_0 fd_X6_36 rfl dX6_fault_1 ?_
  rw [hQ]
  exact x_iret X M hr hlk dX6_fault_4 ⟨hf, rfl⟩
def wp_X6_many (n : Nat) (a1 : Int32) (μ : xM) (K : Int32 → Prop) : Prop :=
  (((a1 = 0) → K (μ 10 6)) ∧ (¬ (a1 = 0) → (((a1 = 1) → K (μ 10 7)) ∧ (¬ (a1 = 1) → (((a1 = 2) → K (μ 31 4)) ∧ (¬ (a1 = 2) → K ((-2) : Int32)))))))
set_option maxHeartbeats 4000000 in
set_option maxRecDepth 100000 in
theorem cm_X6_many (l : Launch) (G : xG) (ad : Nat → Nat) (hI : xI 36 ad) (n : Nat) (a1 : Int32) (μ : xM) (K : Int32 → Prop) (hf : wp_X6_many n a1 μ K) : Met l yX6_many (Cond.code yX6_many cX6_many 2 (some .int) :: xw_all) (rmo 0 0) (va_Pc [.ref (ad 0), .int a1] (xPre cS 36 G ad μ)) (xQi cS 36 G ad (fun r u => K r ∧ u = μ)) 0 0 (xR 36 ad) := by
  refine x_ent (nL := 2) (own := RX6) (by decide) rfl hI (Nat.le_of_ble_eq_true rfl) ?_
  intro p e s m args below meth c H locs ls Q X hr hlk hQ M hl
  have hx := X.1.1
  have hb := X.1.2.1
  have hown := X.1.2.2.2.1
  have hts := X.1.2.2.2.2
  have hl : lv_has ls 2 [(0, .ref (ad 0)), (1, .int a1)] := hl
  unfold wp_X6_many at hf
  refine lv_iload_n hx hb dX6_many_0 rfl (lv_at hl 1 rfl) ?_
  by_cases c_1_0 : a1 = 0
  · replace hf := hf.1 c_1_0
    refine lv_tableIn (off := 27) (tgt := 28) hx hb dX6_many_1 (by have q := c_1_0; (rw [q] <;> decide)) (by have q := c_1_0; (rw [q] <;> decide)) (by have q := c_1_0; (rw [q] <;> rfl)) (by decide) ?_
    refine lv_aload_n hx hb dX6_many_28 rfl (lv_at hl 0 rfl) ?_
    refine x_getR (r := 10) X M rgc_0 fd_X6_21 rfl dX6_many_29 ?_
    refine x_getI X M rgc_10 fd_X6_71 rfl dX6_many_32 ?_
    rw [hQ]
    exact x_iret X M hr hlk dX6_many_35 ⟨hf, rfl⟩
  · replace hf := hf.2 c_1_0
    by_cases c_1_1 : a1 = 1
    · replace hf := hf.1 c_1_1
      refine lv_tableIn (off := 35) (tgt := 36) hx hb dX6_many_1 (by have q := c_1_1; (rw [q] <;> decide)) (by have q := c_1_1; (rw [q] <;> decide)) (by have q := c_1_1; (rw [q] <;> rfl)) (by decide) ?_
      refine lv_aload_n hx hb dX6_many_36 rfl (lv_at hl 0 rfl) ?_
      refine x_getR (r := 10) X M rgc_0 fd_X6_21 rfl dX6_many_37 ?_
      refine x_getI X M rgc_10 fd_X6_116 rfl dX6_many_40 ?_
      rw [hQ]
      exact x_iret X M hr hlk dX6_many_43 ⟨hf, rfl⟩
    · replace hf := hf.2 c_1_1
      by_cases c_1_2 : a1 = 2
      · replace hf := hf.1 c_1_2
        refine lv_tableIn (off := 43) (tgt := 44) hx hb dX6_many_1 (by have q := c_1_2; (rw [q] <;> decide)) (by have q := c_1_2; (rw [q] <;> decide)) (by have q := c_1_2; (rw [q] <;> rfl)) (by decide) ?_
        refine lv_aload_n hx hb dX6_many_44 rfl (lv_at hl 0 rfl) ?_
        refine x_getR (r := 31) X M rgc_0 fd_X6_28 rfl dX6_many_45 ?_
        refine x_getI X M rgc_31 fd_X6_182 rfl dX6_many_48 ?_
        rw [hQ]
        exact x_iret X M hr hlk dX6_many_51 ⟨hf, rfl⟩
      · replace hf := hf.2 c_1_2
        have n_1_0 : ¬ a1.toInt = 0 := fun q => c_1_0 (by rw [Int32.toInt_inj.mp (q.trans (show (0 : Int) = (0 : Int32).toInt from rfl))] <;> decide)
        have n_1_1 : ¬ a1.toInt = 1 := fun q => c_1_1 (by rw [Int32.toInt_inj.mp (q.trans (show (1 : Int) = (1 : Int32).toInt from rfl))] <;> decide)
        have n_1_2 : ¬ a1.toInt = 2 := fun q => c_1_2 (by rw [Int32.toInt_inj.mp (q.trans (show (2 : Int) = (2 : Int32).toInt from rfl))] <;> decide)
        refine lv_tableOut (tgt := 52) hx hb dX6_many_1 (by omega) (by decide) ?_
        refine lv_bipush (v := ((-2) : Int32)) hx hb dX6_many_52 (by decide) ?_
        rw [hQ]
        exact x_iret X M hr hlk dX6_many_54 ⟨hf, rfl⟩
