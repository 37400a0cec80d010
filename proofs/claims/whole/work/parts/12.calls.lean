def wp_X5_placeOf (n : Nat) (a0 : Int32) (a1 : Int32) (a2 : Int32) (μ : xM) (K : Int32 → Prop) : Prop :=
  K (((a2 * (21 : Int32)) + (a0 * (3 : Int32))) + a1)
set_option maxHeartbeats 4000000 in
set_option maxRecDepth 100000 in
theorem cm_X5_placeOf (l : Launch) (G : xG) (ad : Nat → Nat) (hI : xI 36 ad) (n : Nat) (a0 : Int32) (a1 : Int32) (a2 : Int32) (μ : xM) (K : Int32 → Prop) (hf : wp_X5_placeOf n a0 a1 a2 μ K) : Met l yX5_placeOf (Cond.code yX5_placeOf cX5_placeOf 3 (some .int) :: xw_all) (rmo 0 0) (va_Pc [.int a0, .int a1, .int a2] (xPre cS 36 G ad μ)) (xQi cS 36 G ad (fun r u => K r ∧ u = μ)) 0 0 (xR 36 ad) := by
  refine x_ent (nL := 3) (own := RX5) (by decide) rfl hI (Nat.le_of_ble_eq_true rfl) ?_
  intro p e s m args below meth c H locs ls Q X hr hlk hQ M hl
  have hx := X.1.1
  have hb := X.1.2.1
  have hown := X.1.2.2.2.1
  have hts := X.1.2.2.2.2
  have hl : lv_has ls 3 [(0, .int a0), (1, .int a1), (2, .int a2)] := hl
  unfold wp_X5_placeOf at hf
  refine lv_iload_n hx hb dX5_placeOf_0 rfl (lv_at hl 2 rfl) ?_
  refine lv_bipush (v := (21 : Int32)) hx hb dX5_placeOf_1 (by decide) ?_
  refine lv_imul hx hb dX5_placeOf_3 ?_
  refine lv_iload_n hx hb dX5_placeOf_4 rfl (lv_at hl 0 rfl) ?_
  refine lv_iconst (v := (3 : Int32)) hx hb dX5_placeOf_5 (by decide) ?_
  refine lv_imul hx hb dX5_placeOf_6 ?_
  refine lv_iadd hx hb dX5_placeOf_7 ?_
  refine lv_iload_n hx hb dX5_placeOf_8 rfl (lv_at hl 1 rfl) ?_
  refine lv_iadd hx hb dX5_placeOf_9 ?_
  rw [hQ]
  exact x_iret X M hr hlk dX5_placeOf_10 ⟨hf, rfl⟩
def wp_X5_pour (n : Nat) (a1 : Int32) (μ : xM) (K : xM → Prop) : Prop :=
  (vp_in a1 60 ∧ ((¬ (μ 12 a1.toNatClampNeg) = 0 → xlp (fun (again12 : (Int32 × xM) → Prop) => fun (s_ : Int32 × xM) => match s_ with | (x2_12, m_12) => (((m_12 10 6) ≤ x2_12 → K m_12) ∧ (¬ (m_12 10 6) ≤ x2_12 → (vp_in x2_12 7 ∧ xlp (fun (again30 : (Int32 × xM) → Prop) => fun (s_ : Int32 × xM) => match s_ with | (x4_30, m_30) => (((3 : Int32) ≤ x4_30 → (∀ x2_103 : Int32, x2_103 = x2_12 + 1 → again12 (x2_103, m_30))) ∧ (¬ (3 : Int32) ≤ x4_30 → wp_X5_placeOf n x2_12 x4_30 (a1 + (1 : Int32)) m_30 (fun r_42 : Int32 => (vp_in a1 60 ∧ (vp_in a1 60 ∧ wp_X3_washedOff n (x2_12.toNatClampNeg) x4_30 (m_30 12 a1.toNatClampNeg) (m_30 13 a1.toNatClampNeg) (m_30 (17 + x2_12.toNatClampNeg) 2) (m_30 (17 + x2_12.toNatClampNeg) 3) m_30 (fun r_70 : Int32 => (vp_in r_42 1281 ∧ (vp_in r_42 1281 ∧ (∀ r_92 : Int32, r_92 = (if (m_30 14 r_42.toNatClampNeg) < r_70 then (m_30 14 r_42.toNatClampNeg) else r_70) → (vp_in r_42 1281 ∧ (∀ m_96 : xM, m_96 = xu m_30 14 r_42.toNatClampNeg ((m_30 14 r_42.toNatClampNeg) - r_92) → (∀ x4_97 : Int32, x4_97 = x4_30 + 1 → again30 (x4_97, m_96)))))))))))))) n ((0 : Int32), m_12))))) n ((0 : Int32), μ)) ∧ ((μ 12 a1.toNatClampNeg) = 0 → K μ)))
set_option maxHeartbeats 4000000 in
set_option maxRecDepth 100000 in
theorem cm_X5_pour (l : Launch) (G : xG) (ad : Nat → Nat) (hI : xI 36 ad) (n : Nat) (a1 : Int32) (μ : xM) (K : xM → Prop) (hf : wp_X5_pour n a1 μ K) : Met l yX5_pour (Cond.code yX5_pour cX5_pour 7 none :: xw_all) (rmo 1 26) (va_Pc [.ref (ad 10), .int a1] (xPre cS 36 G ad μ)) (xQv cS 36 G ad K) 0 0 (xR 36 ad) := by
  refine x_ent (nL := 7) (own := RX5) (by decide) rfl hI (Nat.le_of_ble_eq_true rfl) ?_
  intro p e s m args below meth c H locs ls Q X hr hlk hQ M hl
  have hx := X.1.1
  have hb := X.1.2.1
  have hown := X.1.2.2.2.1
  have hts := X.1.2.2.2.2
  have hl : lv_has ls 7 [(0, .ref (ad 10)), (1, .int a1)] := hl
  unfold wp_X5_pour at hf
  refine lv_aload_n hx hb dX5_pour_0 rfl (lv_at hl 0 rfl) ?_
  refine x_getR (r := 12) X M rgc_10 fd_X5_18 rfl dX5_pour_1 ?_
  refine lv_iload_n hx hb dX5_pour_4 rfl (lv_at hl 1 rfl) ?_
  obtain ⟨g_5, hf⟩ := hf
  refine x_ild X M rgc_12 g_5 dX5_pour_5 ?_
  refine lv_if_ne (tgt := 10) hx hb dX5_pour_6 (by decide) (fun c_6 => ?_) (fun c_6 => ?_)
  · replace hf := hf.1 c_6
    refine lv_iconst (v := (0 : Int32)) hx hb dX5_pour_10 (by decide) ?_
    refine lv_istore_n (lv' := [(2, .int (0 : Int32)), (0, .ref (ad 10)), (1, .int a1)]) hx hb dX5_pour_11 rfl hl (by decide) rfl (fun ls hl => ?_)
    refine xlp_w hf (fun (s_ : Int32 × xM) => match s_ with | (x2_12, m_12) => ∀ (H : Heap) (locs : List Loc) (ls : Array Slot), xS cS 36 G ad s m_12 H locs → lv_has ls 7 [(2, .int x2_12), (0, .ref (ad 10)), (1, .int a1)] → W p l e (rmo 1 26) s m args below meth c H locs 0 0 Q (F0 m 12 ls [])) ?_ _ _ _ M (lv_sub hl [0, 1, 2] rfl)
    intro again12 hagain12 s_ hf
    obtain ⟨x2_12, m_12⟩ := s_
    try dsimp only at hf ⊢
    intro H locs ls M hl
    refine lv_iload_n hx hb dX5_pour_12 rfl (lv_at hl 0 rfl) ?_
    refine lv_aload_n hx hb dX5_pour_13 rfl (lv_at hl 1 rfl) ?_
    refine x_getI X M rgc_10 fd_X5_34 rfl dX5_pour_14 ?_
    refine lv_icmp_ge (tgt := 109) hx hb dX5_pour_17 (by decide) (fun c_17 => ?_) (fun c_17 => ?_)
    · replace hf := hf.1 c_17
      rw [hQ]
      exact x_vret X M hr hlk dX5_pour_109 hf
    · replace hf := hf.2 c_17
      refine lv_aload_n hx hb dX5_pour_20 rfl (lv_at hl 1 rfl) ?_
      refine x_getR (r := 11) X M rgc_10 fd_X5_11 rfl dX5_pour_21 ?_
      refine lv_iload_n hx hb dX5_pour_24 rfl (lv_at hl 0 rfl) ?_
      obtain ⟨g_25, hf⟩ := hf
      refine x_ald X M rgc_11 rfl g_25 dX5_pour_25 ?_
      refine lv_astore_n (lv' := [(3, .ref (ad (17 + x2_12.toNatClampNeg))), (2, .int x2_12), (0, .ref (ad 10)), (1, .int a1)]) hx hb dX5_pour_26 rfl hl (by decide) rfl (fun ls hl => ?_)
      refine lv_iconst (v := (0 : Int32)) hx hb dX5_pour_27 (by decide) ?_
      refine lv_istore (lv' := [(4, .int (0 : Int32)), (3, .ref (ad (17 + x2_12.toNatClampNeg))), (2, .int x2_12), (0, .ref (ad 10)), (1, .int a1)]) hx hb dX5_pour_28 hl (by decide) rfl (fun ls hl => ?_)
      refine xlp_w hf (fun (s_ : Int32 × xM) => match s_ with | (x4_30, m_30) => ∀ (H : Heap) (locs : List Loc) (ls : Array Slot), xS cS 36 G ad s m_30 H locs → lv_has ls 7 [(4, .int x4_30), (3, .ref (ad (17 + x2_12.toNatClampNeg))), (2, .int x2_12), (0, .ref (ad 10)), (1, .int a1)] → W p l e (rmo 1 26) s m args below meth c H locs 0 0 Q (F0 m 30 ls [])) ?_ _ _ _ M (lv_sub hl [0, 1, 2, 3, 4] rfl)
      intro again30 hagain30 s_ hf
      obtain ⟨x4_30, m_30⟩ := s_
      try dsimp only at hf ⊢
      intro H locs ls M hl
      refine lv_iload hx hb dX5_pour_30 (lv_at hl 0 rfl) ?_
      refine lv_iconst (v := (3 : Int32)) hx hb dX5_pour_32 (by decide) ?_
      refine lv_icmp_ge (tgt := 103) hx hb dX5_pour_33 (by decide) (fun c_33 => ?_) (fun c_33 => ?_)
      · replace hf := hf.1 c_33
        obtain ⟨x2_103, ex2_103⟩ : ∃ y : Int32, y = x2_12 + 1 := ⟨_, rfl⟩
        replace hf := hf x2_103 ex2_103
        refine lv_iinc (v := x2_103) (lv' := [(2, .int x2_103), (4, .int x4_30), (3, .ref (ad (17 + x2_12.toNatClampNeg))), (0, .ref (ad 10)), (1, .int a1)]) hx hb dX5_pour_103 hl (k := 2) rfl (by rw [ex2_103]; rfl) (by decide) rfl (fun ls hl => ?_)
        refine lv_goto (tgt := 12) hx hb dX5_pour_106 (by decide) ?_
        exact hagain12 (x2_103, m_30) hf _ _ _ M (lv_sub hl [0, 3, 4] rfl)
      · replace hf := hf.2 c_33
        refine lv_iload_n hx hb dX5_pour_36 rfl (lv_at hl 2 rfl) ?_
        refine lv_iload hx hb dX5_pour_37 (lv_at hl 0 rfl) ?_
        refine lv_iload_n hx hb dX5_pour_39 rfl (lv_at hl 4 rfl) ?_
        refine lv_iconst (v := (1 : Int32)) hx hb dX5_pour_40 (by decide) ?_
        refine lv_iadd hx hb dX5_pour_41 ?_
        refine x_ciP (x_rS (As := [.int x2_12, .int x4_30, .int (a1 + (1 : Int32))]) (rest := []) X M (cm_X5_placeOf l G ad hI n x2_12 x4_30 (a1 + (1 : Int32)) m_30 _ hf) mc_X5_placeOf ms_X5_placeOf lk_X5_78 mn_X5_placeOf hl ⟨⟨Nat.le_of_ble_eq_true rfl, Nat.le_of_ble_eq_true rfl⟩, rfl, Nat.le_of_ble_eq_true rfl, Nat.zero_le _, Nat.zero_le _⟩ rfl dX5_pour_42) M (fun r_42 H locs hf M => ?_)
        try dsimp only at hf
        refine lv_istore (lv' := [(5, .int r_42), (4, .int x4_30), (3, .ref (ad (17 + x2_12.toNatClampNeg))), (2, .int x2_12), (0, .ref (ad 10)), (1, .int a1)]) hx hb dX5_pour_45 hl (by decide) rfl (fun ls hl => ?_)
        refine lv_aload_n hx hb dX5_pour_47 rfl (lv_at hl 2 rfl) ?_
        refine lv_iload hx hb dX5_pour_48 (lv_at hl 1 rfl) ?_
        refine lv_aload_n hx hb dX5_pour_50 rfl (lv_at hl 4 rfl) ?_
        refine x_getR (r := 12) X M rgc_10 fd_X5_18 rfl dX5_pour_51 ?_
        refine lv_iload_n hx hb dX5_pour_54 rfl (lv_at hl 5 rfl) ?_
        obtain ⟨g_55, hf⟩ := hf
        refine x_ild X M rgc_12 g_55 dX5_pour_55 ?_
        refine lv_aload_n hx hb dX5_pour_56 rfl (lv_at hl 4 rfl) ?_
        refine x_getR (r := 13) X M rgc_10 fd_X5_22 rfl dX5_pour_57 ?_
        refine lv_iload_n hx hb dX5_pour_60 rfl (lv_at hl 5 rfl) ?_
        obtain ⟨g_61, hf⟩ := hf
        refine x_ild X M rgc_13 g_61 dX5_pour_61 ?_
        refine lv_aload_n hx hb dX5_pour_62 rfl (lv_at hl 2 rfl) ?_
        refine x_getI X M (rgc_17 (vp_lt g_25)) fd_X5_82 rfl dX5_pour_63 ?_
        refine lv_aload_n hx hb dX5_pour_66 rfl (lv_at hl 2 rfl) ?_
        refine x_getI X M (rgc_17 (vp_lt g_25)) fd_X5_85 rfl dX5_pour_67 ?_
        refine x_ciP (x_rVN (As := [.int x4_30, .int (m_30 12 a1.toNatClampNeg), .int (m_30 13 a1.toNatClampNeg), .int (m_30 (17 + x2_12.toNatClampNeg) 2), .int (m_30 (17 + x2_12.toNatClampNeg) 3)]) (rest := []) X M (cm_X3_washedOff l G ad hI n (x2_12.toNatClampNeg) (vp_lt g_25) x4_30 (m_30 12 a1.toNatClampNeg) (m_30 13 a1.toNatClampNeg) (m_30 (17 + x2_12.toNatClampNeg) 2) (m_30 (17 + x2_12.toNatClampNeg) 3) m_30 _ hf) mc_X3_washedOff mv_X3_washedOff ln_X5_88 mn_X3_washedOff (rgc_17 (vp_lt g_25)) rfl hl ⟨⟨Nat.le_of_ble_eq_true rfl, Nat.le_of_ble_eq_true rfl⟩, rfl, Nat.le_of_ble_eq_true rfl, Nat.zero_le _, Nat.zero_le _⟩ rfl dX5_pour_70) M (fun r_70 H locs hf M => ?_)
        try dsimp only at hf
        refine lv_istore (lv' := [(6, .int r_70), (5, .int r_42), (4, .int x4_30), (3, .ref (ad (17 + x2_12.toNatClampNeg))), (2, .int x2_12), (0, .ref (ad 10)), (1, .int a1)]) hx hb dX5_pour_73 hl (by decide) rfl (fun ls hl => ?_)
        refine lv_aload_n hx hb dX5_pour_75 rfl (lv_at hl 5 rfl) ?_
        refine x_getR (r := 14) X M rgc_10 fd_X5_25 rfl dX5_pour_76 ?_
        refine lv_iload hx hb dX5_pour_79 (lv_at hl 1 rfl) ?_
        refine lv_dup2_11 hx hb dX5_pour_81 rfl rfl ?_
        obtain ⟨g_82, hf⟩ := hf
        refine x_ild X M rgc_14 g_82 dX5_pour_82 ?_
        refine lv_iload hx hb dX5_pour_83 (lv_at hl 0 rfl) ?_
        refine lv_aload_n hx hb dX5_pour_85 rfl (lv_at hl 5 rfl) ?_
        refine x_getR (r := 14) X M rgc_10 fd_X5_25 rfl dX5_pour_86 ?_
        refine lv_iload hx hb dX5_pour_89 (lv_at hl 1 rfl) ?_
        obtain ⟨g_91, hf⟩ := hf
        refine x_ild X M rgc_14 g_91 dX5_pour_91 ?_
        refine x_min X hl lm_X5_59 ⟨Nat.le_of_ble_eq_true rfl, Nat.le_of_ble_eq_true rfl, Nat.zero_le _, Nat.zero_le _⟩ dX5_pour_92 ?_
        refine lv_topi (fun r_92 er_92 => ?_)
        replace hf := hf r_92 er_92
        refine lv_isub hx hb dX5_pour_95 ?_
        obtain ⟨g_96, hf⟩ := hf
        refine x_ist X M rgc_14 g_96 dX5_pour_96 (fun m_96 H locs em_96 M => ?_)
        replace hf := hf m_96 em_96
        obtain ⟨x4_97, ex4_97⟩ : ∃ y : Int32, y = x4_30 + 1 := ⟨_, rfl⟩
        replace hf := hf x4_97 ex4_97
        refine lv_iinc (v := x4_97) (lv' := [(4, .int x4_97), (6, .int r_70), (5, .int r_42), (3, .ref (ad (17 + x2_12.toNatClampNeg))), (2, .int x2_12), (0, .ref (ad 10)), (1, .int a1)]) hx hb dX5_pour_97 hl (k := 2) rfl (by rw [ex4_97]; rfl) (by decide) rfl (fun ls hl => ?_)
        refine lv_goto (tgt := 30) hx hb dX5_pour_100 (by decide) ?_
        exact hagain30 (x4_97, m_96) hf _ _ _ M (lv_sub hl [0, 3, 4, 5, 6] rfl)
  · replace hf := hf.2 c_6
    rw [hQ]
    exact x_vret X M hr hlk dX5_pour_9 hf
def wp_X5_likedBest (n : Nat) (a1 : Int32) (μ : xM) (K : Int32 → Prop) : Prop :=
  xlp (fun (again8 : (Int32 × Int32 × Int32) → Prop) => fun (s_ : Int32 × Int32 × Int32) => match s_ with | (x4_8, x3_8, x2_8) => (((μ 10 6) ≤ x4_8 → K x2_8) ∧ (¬ (μ 10 6) ≤ x4_8 → wp_X5_placeOf n x4_8 (2 : Int32) a1 μ (fun r_25 : Int32 => (vp_in r_25 1281 ∧ (∀ x5_29 : Int32, x5_29 = μ 14 r_25.toNatClampNeg → ((x5_29 ≤ x3_8 → (∀ x4_58 : Int32, x4_58 = x4_8 + 1 → again8 (x4_58, x3_8, x2_8))) ∧ (¬ x5_29 ≤ x3_8 → (vp_in x4_8 7 ∧ wp_X3_lickable n (x4_8.toNatClampNeg) x5_29 μ (fun r_46 : Int32 => ((r_46 = 0 → (∀ x4_58 : Int32, x4_58 = x4_8 + 1 → again8 (x4_58, x3_8, x2_8))) ∧ (¬ r_46 = 0 → (∀ x4_58 : Int32, x4_58 = x4_8 + 1 → again8 (x4_58, x5_29, x4_8)))))))))))))) n ((0 : Int32), (0 : Int32), ((-9) : Int32))
set_option maxHeartbeats 4000000 in
set_option maxRecDepth 100000 in
theorem cm_X5_likedBest (l : Launch) (G : xG) (ad : Nat → Nat) (hI : xI 36 ad) (n : Nat) (a1 : Int32) (μ : xM) (K : Int32 → Prop) (hf : wp_X5_likedBest n a1 μ K) : Met l yX5_likedBest (Cond.code yX5_likedBest cX5_likedBest 6 (some .int) :: xw_all) (rmo 1 22) (va_Pc [.ref (ad 10), .int a1] (xPre cS 36 G ad μ)) (xQi cS 36 G ad (fun r u => K r ∧ u = μ)) 0 0 (xR 36 ad) := by
  refine x_ent (nL := 6) (own := RX5) (by decide) rfl hI (Nat.le_of_ble_eq_true rfl) ?_
  intro p e s m args below meth c H locs ls Q X hr hlk hQ M hl
  have hx := X.1.1
  have hb := X.1.2.1
  have hown := X.1.2.2.2.1
  have hts := X.1.2.2.2.2
  have hl : lv_has ls 6 [(0, .ref (ad 10)), (1, .int a1)] := hl
  unfold wp_X5_likedBest at hf
  refine lv_bipush (v := ((-9) : Int32)) hx hb dX5_likedBest_0 (by decide) ?_
  refine lv_istore_n (lv' := [(2, .int ((-9) : Int32)), (0, .ref (ad 10)), (1, .int a1)]) hx hb dX5_likedBest_2 rfl hl (by decide) rfl (fun ls hl => ?_)
  refine lv_iconst (v := (0 : Int32)) hx hb dX5_likedBest_3 (by decide) ?_
  refine lv_istore_n (lv' := [(3, .int (0 : Int32)), (2, .int ((-9) : Int32)), (0, .ref (ad 10)), (1, .int a1)]) hx hb dX5_likedBest_4 rfl hl (by decide) rfl (fun ls hl => ?_)
  refine lv_iconst (v := (0 : Int32)) hx hb dX5_likedBest_5 (by decide) ?_
  refine lv_istore (lv' := [(4, .int (0 : Int32)), (3, .int (0 : Int32)), (2, .int ((-9) : Int32)), (0, .ref (ad 10)), (1, .int a1)]) hx hb dX5_likedBest_6 hl (by decide) rfl (fun ls hl => ?_)
  refine xlp_w hf (fun (s_ : Int32 × Int32 × Int32) => match s_ with | (x4_8, x3_8, x2_8) => ∀ (H : Heap) (locs : List Loc) (ls : Array Slot), xS cS 36 G ad s μ H locs → lv_has ls 6 [(4, .int x4_8), (3, .int x3_8), (2, .int x2_8), (0, .ref (ad 10)), (1, .int a1)] → W p l e (rmo 1 22) s m args below meth c H locs 0 0 Q (F0 m 8 ls [])) ?_ _ _ _ M (lv_sub hl [0, 1, 2, 3, 4] rfl)
  intro again8 hagain8 s_ hf
  obtain ⟨x4_8, x3_8, x2_8⟩ := s_
  try dsimp only at hf ⊢
  intro H locs ls M hl
  refine lv_iload hx hb dX5_likedBest_8 (lv_at hl 0 rfl) ?_
  refine lv_aload_n hx hb dX5_likedBest_10 rfl (lv_at hl 3 rfl) ?_
  refine x_getI X M rgc_10 fd_X5_34 rfl dX5_likedBest_11 ?_
  refine lv_icmp_ge (tgt := 64) hx hb dX5_likedBest_14 (by decide) (fun c_14 => ?_) (fun c_14 => ?_)
  · replace hf := hf.1 c_14
    refine lv_iload_n hx hb dX5_likedBest_64 rfl (lv_at hl 2 rfl) ?_
    rw [hQ]
    exact x_iret X M hr hlk dX5_likedBest_65 ⟨hf, rfl⟩
  · replace hf := hf.2 c_14
    refine lv_aload_n hx hb dX5_likedBest_17 rfl (lv_at hl 3 rfl) ?_
    refine x_getR (r := 14) X M rgc_10 fd_X5_25 rfl dX5_likedBest_18 ?_
    refine lv_iload hx hb dX5_likedBest_21 (lv_at hl 0 rfl) ?_
    refine lv_iconst (v := (2 : Int32)) hx hb dX5_likedBest_23 (by decide) ?_
    refine lv_iload_n hx hb dX5_likedBest_24 rfl (lv_at hl 4 rfl) ?_
    refine x_ciP (x_rS (As := [.int x4_8, .int (2 : Int32), .int a1]) (rest := [.ref (ad 14)]) X M (cm_X5_placeOf l G ad hI n x4_8 (2 : Int32) a1 μ _ hf) mc_X5_placeOf ms_X5_placeOf lk_X5_78 mn_X5_placeOf hl ⟨⟨Nat.le_of_ble_eq_true rfl, Nat.le_of_ble_eq_true rfl⟩, rfl, Nat.le_of_ble_eq_true rfl, Nat.zero_le _, Nat.zero_le _⟩ rfl dX5_likedBest_25) M (fun r_25 H locs hf M => ?_)
    try dsimp only at hf
    obtain ⟨g_28, hf⟩ := hf
    refine x_ild X M rgc_14 g_28 dX5_likedBest_28 ?_
    refine lv_topi (fun x5_29 ex5_29 => ?_)
    replace hf := hf x5_29 ex5_29
    refine lv_istore (lv' := [(5, .int x5_29), (4, .int x4_8), (3, .int x3_8), (2, .int x2_8), (0, .ref (ad 10)), (1, .int a1)]) hx hb dX5_likedBest_29 hl (by decide) rfl (fun ls hl => ?_)
    refine lv_iload hx hb dX5_likedBest_31 (lv_at hl 0 rfl) ?_
    refine lv_iload_n hx hb dX5_likedBest_33 rfl (lv_at hl 2 rfl) ?_
    refine lv_icmp_le (tgt := 58) hx hb dX5_likedBest_34 (by decide) (fun c_34 => ?_) (fun c_34 => ?_)
    · replace hf := hf.1 c_34
      obtain ⟨x4_58, ex4_58⟩ : ∃ y : Int32, y = x4_8 + 1 := ⟨_, rfl⟩
      replace hf := hf x4_58 ex4_58
      refine lv_iinc (v := x4_58) (lv' := [(4, .int x4_58), (5, .int x5_29), (3, .int x3_8), (2, .int x2_8), (0, .ref (ad 10)), (1, .int a1)]) hx hb dX5_likedBest_58 hl (k := 1) rfl (by rw [ex4_58]; rfl) (by decide) rfl (fun ls hl => ?_)
      refine lv_goto (tgt := 8) hx hb dX5_likedBest_61 (by decide) ?_
      exact hagain8 (x4_58, x3_8, x2_8) hf _ _ _ M (lv_sub hl [0, 2, 3, 4, 5] rfl)
    · replace hf := hf.2 c_34
      refine lv_aload_n hx hb dX5_likedBest_37 rfl (lv_at hl 4 rfl) ?_
      refine x_getR (r := 11) X M rgc_10 fd_X5_11 rfl dX5_likedBest_38 ?_
      refine lv_iload hx hb dX5_likedBest_41 (lv_at hl 1 rfl) ?_
      obtain ⟨g_43, hf⟩ := hf
      refine x_ald X M rgc_11 rfl g_43 dX5_likedBest_43 ?_
      refine lv_iload hx hb dX5_likedBest_44 (lv_at hl 0 rfl) ?_
      refine x_ciP (x_rVN (As := [.int x5_29]) (rest := []) X M (cm_X3_lickable l G ad hI n (x4_8.toNatClampNeg) (vp_lt g_43) x5_29 μ _ hf) mc_X3_lickable mv_X3_lickable ln_X5_96 mn_X3_lickable (rgc_17 (vp_lt g_43)) rfl hl ⟨⟨Nat.le_of_ble_eq_true rfl, Nat.le_of_ble_eq_true rfl⟩, rfl, Nat.le_of_ble_eq_true rfl, Nat.zero_le _, Nat.zero_le _⟩ rfl dX5_likedBest_46) M (fun r_46 H locs hf M => ?_)
      try dsimp only at hf
      refine lv_if_eq (tgt := 58) hx hb dX5_likedBest_49 (by decide) (fun c_49 => ?_) (fun c_49 => ?_)
      · replace hf := hf.1 c_49
        obtain ⟨x4_58, ex4_58⟩ : ∃ y : Int32, y = x4_8 + 1 := ⟨_, rfl⟩
        replace hf := hf x4_58 ex4_58
        refine lv_iinc (v := x4_58) (lv' := [(4, .int x4_58), (5, .int x5_29), (3, .int x3_8), (2, .int x2_8), (0, .ref (ad 10)), (1, .int a1)]) hx hb dX5_likedBest_58 hl (k := 1) rfl (by rw [ex4_58]; rfl) (by decide) rfl (fun ls hl => ?_)
        refine lv_goto (tgt := 8) hx hb dX5_likedBest_61 (by decide) ?_
        exact hagain8 (x4_58, x3_8, x2_8) hf _ _ _ M (lv_sub hl [0, 2, 3, 4, 5] rfl)
      · replace hf := hf.2 c_49
        refine lv_iload hx hb dX5_likedBest_52 (lv_at hl 1 rfl) ?_
        refine lv_istore_n (lv' := [(2, .int x4_8), (5, .int x5_29), (4, .int x4_8), (3, .int x3_8), (0, .ref (ad 10)), (1, .int a1)]) hx hb dX5_likedBest_54 rfl hl (by decide) rfl (fun ls hl => ?_)
        refine lv_iload hx hb dX5_likedBest_55 (lv_at hl 1 rfl) ?_
        refine lv_istore_n (lv' := [(3, .int x5_29), (2, .int x4_8), (5, .int x5_29), (4, .int x4_8), (0, .ref (ad 10)), (1, .int a1)]) hx hb dX5_likedBest_57 rfl hl (by decide) rfl (fun ls hl => ?_)
        obtain ⟨x4_58, ex4_58⟩ : ∃ y : Int32, y = x4_8 + 1 := ⟨_, rfl⟩
        replace hf := hf x4_58 ex4_58
        refine lv_iinc (v := x4_58) (lv' := [(4, .int x4_58), (3, .int x5_29), (2, .int x4_8), (5, .int x5_29), (0, .ref (ad 10)), (1, .int a1)]) hx hb dX5_likedBest_58 hl (k := 3) rfl (by rw [ex4_58]; rfl) (by decide) rfl (fun ls hl => ?_)
        refine lv_goto (tgt := 8) hx hb dX5_likedBest_61 (by decide) ?_
        exact hagain8 (x4_58, x5_29, x4_8) hf _ _ _ M (lv_sub hl [0, 1, 2, 4, 5] rfl)
def wp_X5_graze (n : Nat) (a1 : Int32) (μ : xM) (K : xM → Prop) : Prop :=
  (vp_in a1 60 ∧ (∀ m_7 : xM, m_7 = xu μ 16 a1.toNatClampNeg ((-9) : Int32) → xlp (fun (again10 : (Int32 × xM) → Prop) => fun (s_ : Int32 × xM) => match s_ with | (x2_10, m_10) => (((m_10 10 7) ≤ x2_10 → K m_10) ∧ (¬ (m_10 10 7) ≤ x2_10 → wp_X5_likedBest n (a1 + (1 : Int32)) m_10 (fun r_22 : Int32 => xjn (fun (m_37 : xM) => ((¬ r_22 = ((-9) : Int32) → wp_X5_placeOf n r_22 (2 : Int32) (a1 + (1 : Int32)) m_37 (fun r_49 : Int32 => (vp_in r_49 1281 ∧ (∀ r_62 : Int32, r_62 = (if (m_37 14 r_49.toNatClampNeg) < (2 : Int32) then (m_37 14 r_49.toNatClampNeg) else (2 : Int32)) → (vp_in r_49 1281 ∧ (vp_in r_49 1281 ∧ (∀ m_78 : xM, m_78 = xu m_37 14 r_49.toNatClampNeg ((m_37 14 r_49.toNatClampNeg) - r_62) → (vp_in (((a1 + (1 : Int32)) * (7 : Int32)) + r_22) 427 ∧ (vp_in (((a1 + (1 : Int32)) * (7 : Int32)) + r_22) 427 ∧ (∀ m_96 : xM, m_96 = xu m_78 15 (((a1 + (1 : Int32)) * (7 : Int32)) + r_22).toNatClampNeg ((m_78 15 (((a1 + (1 : Int32)) * (7 : Int32)) + r_22).toNatClampNeg) + r_62) → (∀ x2_97 : Int32, x2_97 = x2_10 + 1 → again10 (x2_97, m_96)))))))))))) ∧ (r_22 = ((-9) : Int32) → K m_37))) (fun J37 : xM → Prop => ((¬ x2_10 = 0 → J37 m_10) ∧ (x2_10 = 0 → (vp_in a1 60 ∧ (∀ m_36 : xM, m_36 = xu m_10 16 a1.toNatClampNeg r_22 → J37 m_36))))))))) n ((0 : Int32), m_7)))
set_option maxHeartbeats 4000000 in
set_option maxRecDepth 100000 in
theorem cm_X5_graze (l : Launch) (G : xG) (ad : Nat → Nat) (hI : xI 36 ad) (n : Nat) (a1 : Int32) (μ : xM) (K : xM → Prop) (hf : wp_X5_graze n a1 μ K) : Met l yX5_graze (Cond.code yX5_graze cX5_graze 6 none :: xw_all) (rmo 2 47) (va_Pc [.ref (ad 10), .int a1] (xPre cS 36 G ad μ)) (xQv cS 36 G ad K) 0 0 (xR 36 ad) := by
  refine x_ent (nL := 6) (own := RX5) (by decide) rfl hI (Nat.le_of_ble_eq_true rfl) ?_
  intro p e s m args below meth c H locs ls Q X hr hlk hQ M hl
  have hx := X.1.1
  have hb := X.1.2.1
  have hown := X.1.2.2.2.1
  have hts := X.1.2.2.2.2
  have hl : lv_has ls 6 [(0, .ref (ad 10)), (1, .int a1)] := hl
  unfold wp_X5_graze at hf
  refine lv_aload_n hx hb dX5_graze_0 rfl (lv_at hl 0 rfl) ?_
  refine x_getR (r := 16) X M rgc_10 fd_X5_31 rfl dX5_graze_1 ?_
  refine lv_iload_n hx hb dX5_graze_4 rfl (lv_at hl 1 rfl) ?_
  refine lv_bipush (v := ((-9) : Int32)) hx hb dX5_graze_5 (by decide) ?_
  obtain ⟨g_7, hf⟩ := hf
  refine x_ist X M rgc_16 g_7 dX5_graze_7 (fun m_7 H locs em_7 M => ?_)
  replace hf := hf m_7 em_7
  refine lv_iconst (v := (0 : Int32)) hx hb dX5_graze_8 (by decide) ?_
  refine lv_istore_n (lv' := [(2, .int (0 : Int32)), (0, .ref (ad 10)), (1, .int a1)]) hx hb dX5_graze_9 rfl hl (by decide) rfl (fun ls hl => ?_)
  refine xlp_w hf (fun (s_ : Int32 × xM) => match s_ with | (x2_10, m_10) => ∀ (H : Heap) (locs : List Loc) (ls : Array Slot), xS cS 36 G ad s m_10 H locs → lv_has ls 6 [(2, .int x2_10), (0, .ref (ad 10)), (1, .int a1)] → W p l e (rmo 2 47) s m args below meth c H locs 0 0 Q (F0 m 10 ls [])) ?_ _ _ _ M (lv_sub hl [0, 1, 2] rfl)
  intro again10 hagain10 s_ hf
  obtain ⟨x2_10, m_10⟩ := s_
  try dsimp only at hf ⊢
  intro H locs ls M hl
  refine lv_iload_n hx hb dX5_graze_10 rfl (lv_at hl 0 rfl) ?_
  refine lv_aload_n hx hb dX5_graze_11 rfl (lv_at hl 1 rfl) ?_
  refine x_getI X M rgc_10 fd_X5_38 rfl dX5_graze_12 ?_
  refine lv_icmp_ge (tgt := 103) hx hb dX5_graze_15 (by decide) (fun c_15 => ?_) (fun c_15 => ?_)
  · replace hf := hf.1 c_15
    rw [hQ]
    exact x_vret X M hr hlk dX5_graze_103 hf
  · replace hf := hf.2 c_15
    refine lv_aload_n hx hb dX5_graze_18 rfl (lv_at hl 1 rfl) ?_
    refine lv_iload_n hx hb dX5_graze_19 rfl (lv_at hl 2 rfl) ?_
    refine lv_iconst (v := (1 : Int32)) hx hb dX5_graze_20 (by decide) ?_
    refine lv_iadd hx hb dX5_graze_21 ?_
    refine x_ciP (x_rV (As := [.int (a1 + (1 : Int32))]) (rest := []) X M (cm_X5_likedBest l G ad hI n (a1 + (1 : Int32)) m_10 _ hf) mc_X5_likedBest mv_X5_likedBest lk_X5_92 mn_X5_likedBest rgc_10 rfl hl ⟨⟨Nat.le_of_ble_eq_true rfl, Nat.le_of_ble_eq_true rfl⟩, rfl, Nat.le_of_ble_eq_true rfl, Nat.zero_le _, Nat.zero_le _⟩ rfl dX5_graze_22) M (fun r_22 H locs hf M => ?_)
    try dsimp only at hf
    refine lv_istore_n (lv' := [(3, .int r_22), (2, .int x2_10), (0, .ref (ad 10)), (1, .int a1)]) hx hb dX5_graze_25 rfl hl (by decide) rfl (fun ls hl => ?_)
    refine lv_iload_n hx hb dX5_graze_26 rfl (lv_at hl 1 rfl) ?_
    refine xjn_w hf (fun (m_37 : xM) => ∀ (H : Heap) (locs : List Loc) (ls : Array Slot), xS cS 36 G ad s m_37 H locs → lv_has ls 6 [(3, .int r_22), (2, .int x2_10), (0, .ref (ad 10)), (1, .int a1)] → W p l e (rmo 2 47) s m args below meth c H locs 0 0 Q (F0 m 37 ls [])) ?_ ?_
    · intro m_37 hf
      intro H locs ls M hl
      refine lv_iload_n hx hb dX5_graze_37 rfl (lv_at hl 0 rfl) ?_
      refine lv_bipush (v := ((-9) : Int32)) hx hb dX5_graze_38 (by decide) ?_
      refine lv_icmp_ne (tgt := 44) hx hb dX5_graze_40 (by decide) (fun c_40 => ?_) (fun c_40 => ?_)
      · replace hf := hf.1 c_40
        refine lv_iload_n hx hb dX5_graze_44 rfl (lv_at hl 0 rfl) ?_
        refine lv_iconst (v := (2 : Int32)) hx hb dX5_graze_45 (by decide) ?_
        refine lv_iload_n hx hb dX5_graze_46 rfl (lv_at hl 3 rfl) ?_
        refine lv_iconst (v := (1 : Int32)) hx hb dX5_graze_47 (by decide) ?_
        refine lv_iadd hx hb dX5_graze_48 ?_
        refine x_ciP (x_rS (As := [.int r_22, .int (2 : Int32), .int (a1 + (1 : Int32))]) (rest := []) X M (cm_X5_placeOf l G ad hI n r_22 (2 : Int32) (a1 + (1 : Int32)) m_37 _ hf) mc_X5_placeOf ms_X5_placeOf lk_X5_78 mn_X5_placeOf hl ⟨⟨Nat.le_of_ble_eq_true rfl, Nat.le_of_ble_eq_true rfl⟩, rfl, Nat.le_of_ble_eq_true rfl, Nat.zero_le _, Nat.zero_le _⟩ rfl dX5_graze_49) M (fun r_49 H locs hf M => ?_)
        try dsimp only at hf
        refine lv_istore (lv' := [(4, .int r_49), (3, .int r_22), (2, .int x2_10), (0, .ref (ad 10)), (1, .int a1)]) hx hb dX5_graze_52 hl (by decide) rfl (fun ls hl => ?_)
        refine lv_iconst (v := (2 : Int32)) hx hb dX5_graze_54 (by decide) ?_
        refine lv_aload_n hx hb dX5_graze_55 rfl (lv_at hl 3 rfl) ?_
        refine x_getR (r := 14) X M rgc_10 fd_X5_25 rfl dX5_graze_56 ?_
        refine lv_iload hx hb dX5_graze_59 (lv_at hl 0 rfl) ?_
        obtain ⟨g_61, hf⟩ := hf
        refine x_ild X M rgc_14 g_61 dX5_graze_61 ?_
        refine x_min X hl lm_X5_59 ⟨Nat.le_of_ble_eq_true rfl, Nat.le_of_ble_eq_true rfl, Nat.zero_le _, Nat.zero_le _⟩ dX5_graze_62 ?_
        refine lv_topi (fun r_62 er_62 => ?_)
        replace hf := hf r_62 er_62
        refine lv_istore (lv' := [(5, .int r_62), (4, .int r_49), (3, .int r_22), (2, .int x2_10), (0, .ref (ad 10)), (1, .int a1)]) hx hb dX5_graze_65 hl (by decide) rfl (fun ls hl => ?_)
        refine lv_aload_n hx hb dX5_graze_67 rfl (lv_at hl 4 rfl) ?_
        refine x_getR (r := 14) X M rgc_10 fd_X5_25 rfl dX5_graze_68 ?_
        refine lv_iload hx hb dX5_graze_71 (lv_at hl 1 rfl) ?_
        refine lv_dup2_11 hx hb dX5_graze_73 rfl rfl ?_
        obtain ⟨g_74, hf⟩ := hf
        refine x_ild X M rgc_14 g_74 dX5_graze_74 ?_
        refine lv_iload hx hb dX5_graze_75 (lv_at hl 0 rfl) ?_
        refine lv_isub hx hb dX5_graze_77 ?_
        obtain ⟨g_78, hf⟩ := hf
        refine x_ist X M rgc_14 g_78 dX5_graze_78 (fun m_78 H locs em_78 M => ?_)
        replace hf := hf m_78 em_78
        refine lv_aload_n hx hb dX5_graze_79 rfl (lv_at hl 4 rfl) ?_
        refine x_getR (r := 15) X M rgc_10 fd_X5_28 rfl dX5_graze_80 ?_
        refine lv_iload_n hx hb dX5_graze_83 rfl (lv_at hl 5 rfl) ?_
        refine lv_iconst (v := (1 : Int32)) hx hb dX5_graze_84 (by decide) ?_
        refine lv_iadd hx hb dX5_graze_85 ?_
        refine lv_bipush (v := (7 : Int32)) hx hb dX5_graze_86 (by decide) ?_
        refine lv_imul hx hb dX5_graze_88 ?_
        refine lv_iload_n hx hb dX5_graze_89 rfl (lv_at hl 2 rfl) ?_
        refine lv_iadd hx hb dX5_graze_90 ?_
        refine lv_dup2_11 hx hb dX5_graze_91 rfl rfl ?_
        obtain ⟨g_92, hf⟩ := hf
        refine x_ild X M rgc_15 g_92 dX5_graze_92 ?_
        refine lv_iload hx hb dX5_graze_93 (lv_at hl 0 rfl) ?_
        refine lv_iadd hx hb dX5_graze_95 ?_
        obtain ⟨g_96, hf⟩ := hf
        refine x_ist X M rgc_15 g_96 dX5_graze_96 (fun m_96 H locs em_96 M => ?_)
        replace hf := hf m_96 em_96
        obtain ⟨x2_97, ex2_97⟩ : ∃ y : Int32, y = x2_10 + 1 := ⟨_, rfl⟩
        replace hf := hf x2_97 ex2_97
        refine lv_iinc (v := x2_97) (lv' := [(2, .int x2_97), (5, .int r_62), (4, .int r_49), (3, .int r_22), (0, .ref (ad 10)), (1, .int a1)]) hx hb dX5_graze_97 hl (k := 3) rfl (by rw [ex2_97]; rfl) (by decide) rfl (fun ls hl => ?_)
        refine lv_goto (tgt := 10) hx hb dX5_graze_100 (by decide) ?_
        exact hagain10 (x2_97, m_96) hf _ _ _ M (lv_sub hl [0, 4, 5] rfl)
      · replace hf := hf.2 c_40
        rw [hQ]
        exact x_vret X M hr hlk dX5_graze_43 hf
    · intro J37 hJ37 hf
      refine lv_if_ne (tgt := 37) hx hb dX5_graze_27 (by decide) (fun c_27 => ?_) (fun c_27 => ?_)
      · replace hf := hf.1 c_27
        exact hJ37 m_10 hf _ _ _ M (lv_sub hl [0, 1, 2, 3] rfl)
      · replace hf := hf.2 c_27
        refine lv_aload_n hx hb dX5_graze_30 rfl (lv_at hl 2 rfl) ?_
        refine x_getR (r := 16) X M rgc_10 fd_X5_31 rfl dX5_graze_31 ?_
        refine lv_iload_n hx hb dX5_graze_34 rfl (lv_at hl 3 rfl) ?_
        refine lv_iload_n hx hb dX5_graze_35 rfl (lv_at hl 0 rfl) ?_
        obtain ⟨g_36, hf⟩ := hf
        refine x_ist X M rgc_16 g_36 dX5_graze_36 (fun m_36 H locs em_36 M => ?_)
        replace hf := hf m_36 em_36
        exact hJ37 m_36 hf _ _ _ M (lv_sub hl [0, 1, 2, 3] rfl)
def wp_X5_workOut (n : Nat) (a1 : Int32) (μ : xM) (K : xM → Prop) : Prop :=
  (∀ x2_4 : Int32, x2_4 = μ 10 8 → xjn (fun (m_72 : xM) => (∀ r_78 : Int32, r_78 = (if (m_72 10 8) < a1 then a1 else (m_72 10 8)) → (∀ m_81 : xM, m_81 = xu m_72 10 8 r_78 → K m_81))) (fun J72 : xM → Prop => xlp (fun (again5 : (Int32 × xM) → Prop) => fun (s_ : Int32 × xM) => match s_ with | (x2_5, m_5) => ((a1 ≤ x2_5 → J72 m_5) ∧ (¬ a1 ≤ x2_5 → ((¬ (x2_5 * (21 : Int32)) < 0 ∧ ¬ ((x2_5 + (1 : Int32)) * (21 : Int32)) < 0 ∧ ¬ (21 : Int32) < 0 ∧ (x2_5 * (21 : Int32)).toNatClampNeg + (21 : Int32).toNatClampNeg ≤ 1281 ∧ ((x2_5 + (1 : Int32)) * (21 : Int32)).toNatClampNeg + (21 : Int32).toNatClampNeg ≤ 1281) ∧ (∀ m_30 : xM, m_30 = xcp m_5 14 14 (x2_5 * (21 : Int32)).toNatClampNeg ((x2_5 + (1 : Int32)) * (21 : Int32)).toNatClampNeg (21 : Int32).toNatClampNeg → ((¬ (x2_5 * (7 : Int32)) < 0 ∧ ¬ ((x2_5 + (1 : Int32)) * (7 : Int32)) < 0 ∧ ¬ (7 : Int32) < 0 ∧ (x2_5 * (7 : Int32)).toNatClampNeg + (7 : Int32).toNatClampNeg ≤ 427 ∧ ((x2_5 + (1 : Int32)) * (7 : Int32)).toNatClampNeg + (7 : Int32).toNatClampNeg ≤ 427) ∧ (∀ m_53 : xM, m_53 = xcp m_30 15 15 (x2_5 * (7 : Int32)).toNatClampNeg ((x2_5 + (1 : Int32)) * (7 : Int32)).toNatClampNeg (7 : Int32).toNatClampNeg → wp_X5_pour n x2_5 m_53 (fun m_58 : xM => wp_X5_graze n x2_5 m_58 (fun m_63 : xM => (∀ x2_66 : Int32, x2_66 = x2_5 + 1 → again5 (x2_66, m_63))))))))))) n (x2_4, μ)))
set_option maxHeartbeats 4000000 in
set_option maxRecDepth 100000 in
theorem cm_X5_workOut (l : Launch) (G : xG) (ad : Nat → Nat) (hI : xI 36 ad) (n : Nat) (a1 : Int32) (μ : xM) (K : xM → Prop) (hf : wp_X5_workOut n a1 μ K) : Met l yX5_workOut (Cond.code yX5_workOut cX5_workOut 3 none :: xw_all) (rmo 3 72) (va_Pc [.ref (ad 10), .int a1] (xPre cS 36 G ad μ)) (xQv cS 36 G ad K) 0 0 (xR 36 ad) := by
  refine x_ent (nL := 3) (own := RX5) (by decide) rfl hI (Nat.le_of_ble_eq_true rfl) ?_
  intro p e s m args below meth c H locs ls Q X hr hlk hQ M hl
  have hx := X.1.1
  have hb := X.1.2.1
  have hown := X.1.2.2.2.1
  have hts := X.1.2.2.2.2
  have hl : lv_has ls 3 [(0, .ref (ad 10)), (1, .int a1)] := hl
  unfold wp_X5_workOut at hf
  refine lv_aload_n hx hb dX5_workOut_0 rfl (lv_at hl 0 rfl) ?_
  refine x_getI X M rgc_10 fd_X5_41 rfl dX5_workOut_1 ?_
  refine lv_topi (fun x2_4 ex2_4 => ?_)
  replace hf := hf x2_4 ex2_4
  refine lv_istore_n (lv' := [(2, .int x2_4), (0, .ref (ad 10)), (1, .int a1)]) hx hb dX5_workOut_4 rfl hl (by decide) rfl (fun ls hl => ?_)
  refine xjn_w hf (fun (m_72 : xM) => ∀ (H : Heap) (locs : List Loc) (ls : Array Slot), xS cS 36 G ad s m_72 H locs → lv_has ls 3 [(0, .ref (ad 10)), (1, .int a1)] → W p l e (rmo 3 72) s m args below meth c H locs 0 0 Q (F0 m 72 ls [])) ?_ ?_
  · intro m_72 hf
    intro H locs ls M hl
    refine lv_aload_n hx hb dX5_workOut_72 rfl (lv_at hl 0 rfl) ?_
    refine lv_aload_n hx hb dX5_workOut_73 rfl (lv_at hl 0 rfl) ?_
    refine x_getI X M rgc_10 fd_X5_41 rfl dX5_workOut_74 ?_
    refine lv_iload_n hx hb dX5_workOut_77 rfl (lv_at hl 1 rfl) ?_
    refine x_max X hl lm_X5_75 ⟨Nat.le_of_ble_eq_true rfl, Nat.le_of_ble_eq_true rfl, Nat.zero_le _, Nat.zero_le _⟩ dX5_workOut_78 ?_
    refine lv_topi (fun r_78 er_78 => ?_)
    replace hf := hf r_78 er_78
    refine x_putI X M rgc_10 fp_X5_41 rfl dX5_workOut_81 (fun m_81 H locs em_81 M => ?_)
    replace hf := hf m_81 em_81
    rw [hQ]
    exact x_vret X M hr hlk dX5_workOut_84 hf
  · intro J72 hJ72 hf
    refine xlp_w hf (fun (s_ : Int32 × xM) => match s_ with | (x2_5, m_5) => ∀ (H : Heap) (locs : List Loc) (ls : Array Slot), xS cS 36 G ad s m_5 H locs → lv_has ls 3 [(2, .int x2_5), (0, .ref (ad 10)), (1, .int a1)] → W p l e (rmo 3 72) s m args below meth c H locs 0 0 Q (F0 m 5 ls [])) ?_ _ _ _ M (lv_sub hl [0, 1, 2] rfl)
    intro again5 hagain5 s_ hf
    obtain ⟨x2_5, m_5⟩ := s_
    try dsimp only at hf ⊢
    intro H locs ls M hl
    refine lv_iload_n hx hb dX5_workOut_5 rfl (lv_at hl 0 rfl) ?_
    refine lv_iload_n hx hb dX5_workOut_6 rfl (lv_at hl 2 rfl) ?_
    refine lv_icmp_ge (tgt := 72) hx hb dX5_workOut_7 (by decide) (fun c_7 => ?_) (fun c_7 => ?_)
    · replace hf := hf.1 c_7
      exact hJ72 m_5 hf _ _ _ M (lv_sub hl [1, 2] rfl)
    · replace hf := hf.2 c_7
      refine lv_aload_n hx hb dX5_workOut_10 rfl (lv_at hl 1 rfl) ?_
      refine x_getR (r := 14) X M rgc_10 fd_X5_25 rfl dX5_workOut_11 ?_
      refine lv_iload_n hx hb dX5_workOut_14 rfl (lv_at hl 0 rfl) ?_
      refine lv_bipush (v := (21 : Int32)) hx hb dX5_workOut_15 (by decide) ?_
      refine lv_imul hx hb dX5_workOut_17 ?_
      refine lv_aload_n hx hb dX5_workOut_18 rfl (lv_at hl 1 rfl) ?_
      refine x_getR (r := 14) X M rgc_10 fd_X5_25 rfl dX5_workOut_19 ?_
      refine lv_iload_n hx hb dX5_workOut_22 rfl (lv_at hl 0 rfl) ?_
      refine lv_iconst (v := (1 : Int32)) hx hb dX5_workOut_23 (by decide) ?_
      refine lv_iadd hx hb dX5_workOut_24 ?_
      refine lv_bipush (v := (21 : Int32)) hx hb dX5_workOut_25 (by decide) ?_
      refine lv_imul hx hb dX5_workOut_27 ?_
      refine lv_bipush (v := (21 : Int32)) hx hb dX5_workOut_28 (by decide) ?_
      obtain ⟨g_30, hf⟩ := hf
      refine x_cpy X M hl lk_X5_53 cy_ok rgc_14 rgc_14 g_30.1 g_30.2.1 g_30.2.2.1 g_30.2.2.2.1 g_30.2.2.2.2 (Nat.le_of_ble_eq_true rfl) (Nat.le_of_ble_eq_true rfl) dX5_workOut_30 (fun m_30 H locs em_30 M => ?_)
      replace hf := hf m_30 em_30
      refine lv_aload_n hx hb dX5_workOut_33 rfl (lv_at hl 1 rfl) ?_
      refine x_getR (r := 15) X M rgc_10 fd_X5_28 rfl dX5_workOut_34 ?_
      refine lv_iload_n hx hb dX5_workOut_37 rfl (lv_at hl 0 rfl) ?_
      refine lv_bipush (v := (7 : Int32)) hx hb dX5_workOut_38 (by decide) ?_
      refine lv_imul hx hb dX5_workOut_40 ?_
      refine lv_aload_n hx hb dX5_workOut_41 rfl (lv_at hl 1 rfl) ?_
      refine x_getR (r := 15) X M rgc_10 fd_X5_28 rfl dX5_workOut_42 ?_
      refine lv_iload_n hx hb dX5_workOut_45 rfl (lv_at hl 0 rfl) ?_
      refine lv_iconst (v := (1 : Int32)) hx hb dX5_workOut_46 (by decide) ?_
      refine lv_iadd hx hb dX5_workOut_47 ?_
      refine lv_bipush (v := (7 : Int32)) hx hb dX5_workOut_48 (by decide) ?_
      refine lv_imul hx hb dX5_workOut_50 ?_
      refine lv_bipush (v := (7 : Int32)) hx hb dX5_workOut_51 (by decide) ?_
      obtain ⟨g_53, hf⟩ := hf
      refine x_cpy X M hl lk_X5_53 cy_ok rgc_15 rgc_15 g_53.1 g_53.2.1 g_53.2.2.1 g_53.2.2.2.1 g_53.2.2.2.2 (Nat.le_of_ble_eq_true rfl) (Nat.le_of_ble_eq_true rfl) dX5_workOut_53 (fun m_53 H locs em_53 M => ?_)
      replace hf := hf m_53 em_53
      refine lv_aload_n hx hb dX5_workOut_56 rfl (lv_at hl 1 rfl) ?_
      refine lv_iload_n hx hb dX5_workOut_57 rfl (lv_at hl 0 rfl) ?_
      refine x_cv (x_rV (As := [.int x2_5]) (rest := []) X M (cm_X5_pour l G ad hI n x2_5 m_53 _ hf) mc_X5_pour mv_X5_pour lk_X5_69 mn_X5_pour rgc_10 rfl hl ⟨⟨Nat.le_of_ble_eq_true rfl, Nat.le_of_ble_eq_true rfl⟩, rfl, Nat.le_of_ble_eq_true rfl, Nat.zero_le _, Nat.zero_le _⟩ rfl dX5_workOut_58) M (fun m_58 H locs hf M => ?_)
      try dsimp only at hf
      refine lv_aload_n hx hb dX5_workOut_61 rfl (lv_at hl 1 rfl) ?_
      refine lv_iload_n hx hb dX5_workOut_62 rfl (lv_at hl 0 rfl) ?_
      refine x_cv (x_rV (As := [.int x2_5]) (rest := []) X M (cm_X5_graze l G ad hI n x2_5 m_58 _ hf) mc_X5_graze mv_X5_graze lk_X5_72 mn_X5_graze rgc_10 rfl hl ⟨⟨Nat.le_of_ble_eq_true rfl, Nat.le_of_ble_eq_true rfl⟩, rfl, Nat.le_of_ble_eq_true rfl, Nat.zero_le _, Nat.zero_le _⟩ rfl dX5_workOut_63) M (fun m_63 H locs hf M => ?_)
      try dsimp only at hf
      obtain ⟨x2_66, ex2_66⟩ : ∃ y : Int32, y = x2_5 + 1 := ⟨_, rfl⟩
      replace hf := hf x2_66 ex2_66
      refine lv_iinc (v := x2_66) (lv' := [(2, .int x2_66), (0, .ref (ad 10)), (1, .int a1)]) hx hb dX5_workOut_66 hl (k := 0) rfl (by rw [ex2_66]; rfl) (by decide) rfl (fun ls hl => ?_)
      refine lv_goto (tgt := 5) hx hb dX5_workOut_69 (by decide) ?_
      exact hagain5 (x2_66, m_63) hf _ _ _ M (lv_sub hl [0, 1, 2] rfl)
def wp_X5_leftOfPart (n : Nat) (a1 : Int32) (a2 : Int32) (a3 : Int32) (μ : xM) (K : Int32 → xM → Prop) : Prop :=
  wp_X5_workOut n a3 μ (fun m_2 : xM => wp_X5_placeOf n a1 a2 a3 m_2 (fun r_12 : Int32 => (vp_in r_12 1281 ∧ K (m_2 14 r_12.toNatClampNeg) m_2)))
set_option maxHeartbeats 4000000 in
set_option maxRecDepth 100000 in
theorem cm_X5_leftOfPart (l : Launch) (G : xG) (ad : Nat → Nat) (hI : xI 36 ad) (n : Nat) (a1 : Int32) (a2 : Int32) (a3 : Int32) (μ : xM) (K : Int32 → xM → Prop) (hf : wp_X5_leftOfPart n a1 a2 a3 μ K) : Met l yX5_leftOfPart (Cond.code yX5_leftOfPart cX5_leftOfPart 4 (some .int) :: xw_all) (rmo 4 94) (va_Pc [.ref (ad 10), .int a1, .int a2, .int a3] (xPre cS 36 G ad μ)) (xQi cS 36 G ad K) 0 0 (xR 36 ad) := by
  refine x_ent (nL := 4) (own := RX5) (by decide) rfl hI (Nat.le_of_ble_eq_true rfl) ?_
  intro p e s m args below meth c H locs ls Q X hr hlk hQ M hl
  have hx := X.1.1
  have hb := X.1.2.1
  have hown := X.1.2.2.2.1
  have hts := X.1.2.2.2.2
  have hl : lv_has ls 4 [(0, .ref (ad 10)), (1, .int a1), (2, .int a2), (3, .int a3)] := hl
  unfold wp_X5_leftOfPart at hf
  refine lv_aload_n hx hb dX5_leftOfPart_0 rfl (lv_at hl 0 rfl) ?_
  refine lv_iload_n hx hb dX5_leftOfPart_1 rfl (lv_at hl 3 rfl) ?_
  refine x_cv (x_rV (As := [.int a3]) (rest := []) X M (cm_X5_workOut l G ad hI n a3 μ _ hf) mc_X5_workOut mv_X5_workOut lk_X5_100 mn_X5_workOut rgc_10 rfl hl ⟨⟨Nat.le_of_ble_eq_true rfl, Nat.le_of_ble_eq_true rfl⟩, rfl, Nat.le_of_ble_eq_true rfl, Nat.zero_le _, Nat.zero_le _⟩ rfl dX5_leftOfPart_2) M (fun m_2 H locs hf M => ?_)
  try dsimp only at hf
  refine lv_aload_n hx hb dX5_leftOfPart_5 rfl (lv_at hl 0 rfl) ?_
  refine x_getR (r := 14) X M rgc_10 fd_X5_25 rfl dX5_leftOfPart_6 ?_
  refine lv_iload_n hx hb dX5_leftOfPart_9 rfl (lv_at hl 1 rfl) ?_
  refine lv_iload_n hx hb dX5_leftOfPart_10 rfl (lv_at hl 2 rfl) ?_
  refine lv_iload_n hx hb dX5_leftOfPart_11 rfl (lv_at hl 3 rfl) ?_
  refine x_ciP (x_rS (As := [.int a1, .int a2, .int a3]) (rest := [.ref (ad 14)]) X M (cm_X5_placeOf l G ad hI n a1 a2 a3 m_2 _ hf) mc_X5_placeOf ms_X5_placeOf lk_X5_78 mn_X5_placeOf hl ⟨⟨Nat.le_of_ble_eq_true rfl, Nat.le_of_ble_eq_true rfl⟩, rfl, Nat.le_of_ble_eq_true rfl, Nat.zero_le _, Nat.zero_le _⟩ rfl dX5_leftOfPart_12) M (fun r_12 H locs hf M => ?_)
  try dsimp only at hf
  obtain ⟨g_15, hf⟩ := hf
  refine x_ild X M rgc_14 g_15 dX5_leftOfPart_15 ?_
  rw [hQ]
  exact x_iret X M hr hlk dX5_leftOfPart_16 hf
def wp_X5_settle (n : Nat) (k1 : Nat) (a2 : Int32) (a3 : Int32) (μ : xM) (K : xM → Prop) : Prop :=
  (¬ (6 : Int32) = 0 ∧ (∀ m_7 : xM, m_7 = xu μ 10 6 ((a3 + (1 : Int32)) / (6 : Int32)) → xjn (fun (m_69 : xM) => xlp (fun (again72 : (Int32 × xM) → Prop) => fun (s_ : Int32 × xM) => match s_ with | (x4_72, m_72) => (((60 : Int32) ≤ x4_72 → (∀ m_103 : xM, m_103 = xu m_72 10 7 (0 : Int32) → (∀ m_108 : xM, m_108 = xu m_103 10 8 (0 : Int32) → K m_108))) ∧ (¬ (60 : Int32) ≤ x4_72 → (vp_in x4_72 60 ∧ (∀ m_86 : xM, m_86 = xu m_72 12 x4_72.toNatClampNeg (0 : Int32) → (vp_in x4_72 60 ∧ (∀ m_94 : xM, m_94 = xu m_86 13 x4_72.toNatClampNeg (0 : Int32) → (∀ x4_95 : Int32, x4_95 = x4_72 + 1 → again72 (x4_95, m_94))))))))) n ((0 : Int32), m_69)) (fun J69 : xM → Prop => xlp (fun (again13 : (Int32 × xM) → Prop) => fun (s_ : Int32 × xM) => match s_ with | (x4_13, m_13) => (((m_13 10 6) ≤ x4_13 → J69 m_13) ∧ (¬ (m_13 10 6) ≤ x4_13 → (vp_in x4_13 7 ∧ wp_X3_carve n (x4_13.toNatClampNeg) k1 (a2 + ((6 : Int32) * x4_13)) m_13 (fun m_37 : xM => (vp_in x4_13 7 ∧ ((¬ (0 : Int32) < 0 ∧ ¬ ((3 : Int32) * x4_13) < 0 ∧ ¬ (3 : Int32) < 0 ∧ (0 : Int32).toNatClampNeg + (3 : Int32).toNatClampNeg ≤ 3 ∧ ((3 : Int32) * x4_13).toNatClampNeg + (3 : Int32).toNatClampNeg ≤ 1281) ∧ (∀ m_60 : xM, m_60 = xcp m_37 (24 + x4_13.toNatClampNeg) 14 (0 : Int32).toNatClampNeg ((3 : Int32) * x4_13).toNatClampNeg (3 : Int32).toNatClampNeg → (∀ x4_63 : Int32, x4_63 = x4_13 + 1 → again13 (x4_63, m_60)))))))))) n ((0 : Int32), m_7))))
set_option maxHeartbeats 4000000 in
set_option maxRecDepth 100000 in
theorem cm_X5_settle (l : Launch) (G : xG) (ad : Nat → Nat) (hI : xI 36 ad) (n : Nat) (k1 : Nat) (hk1 : k1 < 4) (a2 : Int32) (a3 : Int32) (μ : xM) (K : xM → Prop) (hf : wp_X5_settle n k1 a2 a3 μ K) : Met l yX5_settle (Cond.code yX5_settle cX5_settle 5 none :: xw_all) (rmo 2 43) (va_Pc [.ref (ad 10), .ref (ad (2 + k1)), .int a2, .int a3] (xPre cS 36 G ad μ)) (xQv cS 36 G ad K) 0 0 (xR 36 ad) := by
  refine x_ent (nL := 5) (own := RX5) (by decide) rfl hI (Nat.le_of_ble_eq_true rfl) ?_
  intro p e s m args below meth c H locs ls Q X hr hlk hQ M hl
  have hx := X.1.1
  have hb := X.1.2.1
  have hown := X.1.2.2.2.1
  have hts := X.1.2.2.2.2
  have hl : lv_has ls 5 [(0, .ref (ad 10)), (1, .ref (ad (2 + k1))), (2, .int a2), (3, .int a3)] := hl
  unfold wp_X5_settle at hf
  refine lv_aload_n hx hb dX5_settle_0 rfl (lv_at hl 0 rfl) ?_
  refine lv_iload_n hx hb dX5_settle_1 rfl (lv_at hl 3 rfl) ?_
  refine lv_iconst (v := (1 : Int32)) hx hb dX5_settle_2 (by decide) ?_
  refine lv_iadd hx hb dX5_settle_3 ?_
  refine lv_bipush (v := (6 : Int32)) hx hb dX5_settle_4 (by decide) ?_
  obtain ⟨g_6, hf⟩ := hf
  refine lv_idiv hx hb dX5_settle_6 g_6 ?_
  refine x_putI X M rgc_10 fp_X5_34 rfl dX5_settle_7 (fun m_7 H locs em_7 M => ?_)
  replace hf := hf m_7 em_7
  refine lv_iconst (v := (0 : Int32)) hx hb dX5_settle_10 (by decide) ?_
  refine lv_istore (lv' := [(4, .int (0 : Int32)), (0, .ref (ad 10)), (1, .ref (ad (2 + k1))), (2, .int a2), (3, .int a3)]) hx hb dX5_settle_11 hl (by decide) rfl (fun ls hl => ?_)
  refine xjn_w hf (fun (m_69 : xM) => ∀ (H : Heap) (locs : List Loc) (ls : Array Slot), xS cS 36 G ad s m_69 H locs → lv_has ls 5 [(0, .ref (ad 10))] → W p l e (rmo 2 43) s m args below meth c H locs 0 0 Q (F0 m 69 ls [])) ?_ ?_
  · intro m_69 hf
    intro H locs ls M hl
    refine lv_iconst (v := (0 : Int32)) hx hb dX5_settle_69 (by decide) ?_
    refine lv_istore (lv' := [(4, .int (0 : Int32)), (0, .ref (ad 10))]) hx hb dX5_settle_70 hl (by decide) rfl (fun ls hl => ?_)
    refine xlp_w hf (fun (s_ : Int32 × xM) => match s_ with | (x4_72, m_72) => ∀ (H : Heap) (locs : List Loc) (ls : Array Slot), xS cS 36 G ad s m_72 H locs → lv_has ls 5 [(4, .int x4_72), (0, .ref (ad 10))] → W p l e (rmo 2 43) s m args below meth c H locs 0 0 Q (F0 m 72 ls [])) ?_ _ _ _ M (lv_sub hl [0, 1] rfl)
    intro again72 hagain72 s_ hf
    obtain ⟨x4_72, m_72⟩ := s_
    try dsimp only at hf ⊢
    intro H locs ls M hl
    refine lv_iload hx hb dX5_settle_72 (lv_at hl 0 rfl) ?_
    refine lv_bipush (v := (60 : Int32)) hx hb dX5_settle_74 (by decide) ?_
    refine lv_icmp_ge (tgt := 101) hx hb dX5_settle_76 (by decide) (fun c_76 => ?_) (fun c_76 => ?_)
    · replace hf := hf.1 c_76
      refine lv_aload_n hx hb dX5_settle_101 rfl (lv_at hl 1 rfl) ?_
      refine lv_iconst (v := (0 : Int32)) hx hb dX5_settle_102 (by decide) ?_
      refine x_putI X M rgc_10 fp_X5_38 rfl dX5_settle_103 (fun m_103 H locs em_103 M => ?_)
      replace hf := hf m_103 em_103
      refine lv_aload_n hx hb dX5_settle_106 rfl (lv_at hl 1 rfl) ?_
      refine lv_iconst (v := (0 : Int32)) hx hb dX5_settle_107 (by decide) ?_
      refine x_putI X M rgc_10 fp_X5_41 rfl dX5_settle_108 (fun m_108 H locs em_108 M => ?_)
      replace hf := hf m_108 em_108
      rw [hQ]
      exact x_vret X M hr hlk dX5_settle_111 hf
    · replace hf := hf.2 c_76
      refine lv_aload_n hx hb dX5_settle_79 rfl (lv_at hl 1 rfl) ?_
      refine x_getR (r := 12) X M rgc_10 fd_X5_18 rfl dX5_settle_80 ?_
      refine lv_iload hx hb dX5_settle_83 (lv_at hl 0 rfl) ?_
      refine lv_iconst (v := (0 : Int32)) hx hb dX5_settle_85 (by decide) ?_
      obtain ⟨g_86, hf⟩ := hf
      refine x_ist X M rgc_12 g_86 dX5_settle_86 (fun m_86 H locs em_86 M => ?_)
      replace hf := hf m_86 em_86
      refine lv_aload_n hx hb dX5_settle_87 rfl (lv_at hl 1 rfl) ?_
      refine x_getR (r := 13) X M rgc_10 fd_X5_22 rfl dX5_settle_88 ?_
      refine lv_iload hx hb dX5_settle_91 (lv_at hl 0 rfl) ?_
      refine lv_iconst (v := (0 : Int32)) hx hb dX5_settle_93 (by decide) ?_
      obtain ⟨g_94, hf⟩ := hf
      refine x_ist X M rgc_13 g_94 dX5_settle_94 (fun m_94 H locs em_94 M => ?_)
      replace hf := hf m_94 em_94
      obtain ⟨x4_95, ex4_95⟩ : ∃ y : Int32, y = x4_72 + 1 := ⟨_, rfl⟩
      replace hf := hf x4_95 ex4_95
      refine lv_iinc (v := x4_95) (lv' := [(4, .int x4_95), (0, .ref (ad 10))]) hx hb dX5_settle_95 hl (k := 0) rfl (by rw [ex4_95]; rfl) (by decide) rfl (fun ls hl => ?_)
      refine lv_goto (tgt := 72) hx hb dX5_settle_98 (by decide) ?_
      exact hagain72 (x4_95, m_94) hf _ _ _ M (lv_sub hl [0, 1] rfl)
  · intro J69 hJ69 hf
    refine xlp_w hf (fun (s_ : Int32 × xM) => match s_ with | (x4_13, m_13) => ∀ (H : Heap) (locs : List Loc) (ls : Array Slot), xS cS 36 G ad s m_13 H locs → lv_has ls 5 [(4, .int x4_13), (0, .ref (ad 10)), (1, .ref (ad (2 + k1))), (2, .int a2)] → W p l e (rmo 2 43) s m args below meth c H locs 0 0 Q (F0 m 13 ls [])) ?_ _ _ _ M (lv_sub hl [0, 1, 2, 3] rfl)
    intro again13 hagain13 s_ hf
    obtain ⟨x4_13, m_13⟩ := s_
    try dsimp only at hf ⊢
    intro H locs ls M hl
    refine lv_iload hx hb dX5_settle_13 (lv_at hl 0 rfl) ?_
    refine lv_aload_n hx hb dX5_settle_15 rfl (lv_at hl 1 rfl) ?_
    refine x_getI X M rgc_10 fd_X5_34 rfl dX5_settle_16 ?_
    refine lv_icmp_ge (tgt := 69) hx hb dX5_settle_19 (by decide) (fun c_19 => ?_) (fun c_19 => ?_)
    · replace hf := hf.1 c_19
      exact hJ69 m_13 hf _ _ _ M (lv_sub hl [1] rfl)
    · replace hf := hf.2 c_19
      refine lv_aload_n hx hb dX5_settle_22 rfl (lv_at hl 1 rfl) ?_
      refine x_getR (r := 11) X M rgc_10 fd_X5_11 rfl dX5_settle_23 ?_
      refine lv_iload hx hb dX5_settle_26 (lv_at hl 0 rfl) ?_
      obtain ⟨g_28, hf⟩ := hf
      refine x_ald X M rgc_11 rfl g_28 dX5_settle_28 ?_
      refine lv_aload_n hx hb dX5_settle_29 rfl (lv_at hl 2 rfl) ?_
      refine lv_iload_n hx hb dX5_settle_30 rfl (lv_at hl 3 rfl) ?_
      refine lv_bipush (v := (6 : Int32)) hx hb dX5_settle_31 (by decide) ?_
      refine lv_iload hx hb dX5_settle_33 (lv_at hl 0 rfl) ?_
      refine lv_imul hx hb dX5_settle_35 ?_
      refine lv_iadd hx hb dX5_settle_36 ?_
      refine x_cv (x_rVN (As := [.ref (ad (2 + k1)), .int (a2 + ((6 : Int32) * x4_13))]) (rest := []) X M (cm_X3_carve l G ad hI n (x4_13.toNatClampNeg) (vp_lt g_28) k1 hk1 (a2 + ((6 : Int32) * x4_13)) m_13 _ hf) mc_X3_carve mv_X3_carve ln_X5_46 mn_X3_carve (rgc_17 (vp_lt g_28)) rfl hl ⟨⟨Nat.le_of_ble_eq_true rfl, Nat.le_of_ble_eq_true rfl⟩, rfl, Nat.le_of_ble_eq_true rfl, Nat.zero_le _, Nat.zero_le _⟩ rfl dX5_settle_37) M (fun m_37 H locs hf M => ?_)
      try dsimp only at hf
      refine lv_aload_n hx hb dX5_settle_40 rfl (lv_at hl 1 rfl) ?_
      refine x_getR (r := 11) X M rgc_10 fd_X5_11 rfl dX5_settle_41 ?_
      refine lv_iload hx hb dX5_settle_44 (lv_at hl 0 rfl) ?_
      obtain ⟨g_46, hf⟩ := hf
      refine x_ald X M rgc_11 rfl g_46 dX5_settle_46 ?_
      refine x_getR (r := (24 + x4_13.toNatClampNeg)) X M (rgc_17 (vp_lt g_46)) fd_X5_50 rfl dX5_settle_47 ?_
      refine lv_iconst (v := (0 : Int32)) hx hb dX5_settle_50 (by decide) ?_
      refine lv_aload_n hx hb dX5_settle_51 rfl (lv_at hl 1 rfl) ?_
      refine x_getR (r := 14) X M rgc_10 fd_X5_25 rfl dX5_settle_52 ?_
      refine lv_iconst (v := (3 : Int32)) hx hb dX5_settle_55 (by decide) ?_
      refine lv_iload hx hb dX5_settle_56 (lv_at hl 0 rfl) ?_
      refine lv_imul hx hb dX5_settle_58 ?_
      refine lv_iconst (v := (3 : Int32)) hx hb dX5_settle_59 (by decide) ?_
      obtain ⟨g_60, hf⟩ := hf
      refine x_cpy X M hl lk_X5_53 cy_ok (rgc_24 (vp_lt g_46)) rgc_14 g_60.1 g_60.2.1 g_60.2.2.1 g_60.2.2.2.1 g_60.2.2.2.2 (Nat.le_of_ble_eq_true rfl) (Nat.le_of_ble_eq_true rfl) dX5_settle_60 (fun m_60 H locs em_60 M => ?_)
      replace hf := hf m_60 em_60
      obtain ⟨x4_63, ex4_63⟩ : ∃ y : Int32, y = x4_13 + 1 := ⟨_, rfl⟩
      replace hf := hf x4_63 ex4_63
      refine lv_iinc (v := x4_63) (lv' := [(4, .int x4_63), (0, .ref (ad 10)), (1, .ref (ad (2 + k1))), (2, .int a2)]) hx hb dX5_settle_63 hl (k := 0) rfl (by rw [ex4_63]; rfl) (by decide) rfl (fun ls hl => ?_)
      refine lv_goto (tgt := 13) hx hb dX5_settle_66 (by decide) ?_
      exact hagain13 (x4_63, m_60) hf _ _ _ M (lv_sub hl [0, 1, 2, 3] rfl)
def wp_X5_forgetFrom (n : Nat) (a1 : Int32) (μ : xM) (K : xM → Prop) : Prop :=
  (∀ r_6 : Int32, r_6 = (if a1 < (μ 10 8) then a1 else (μ 10 8)) → (∀ m_9 : xM, m_9 = xu μ 10 8 r_6 → K m_9))
set_option maxHeartbeats 4000000 in
set_option maxRecDepth 100000 in
theorem cm_X5_forgetFrom (l : Launch) (G : xG) (ad : Nat → Nat) (hI : xI 36 ad) (n : Nat) (a1 : Int32) (μ : xM) (K : xM → Prop) (hf : wp_X5_forgetFrom n a1 μ K) : Met l yX5_forgetFrom (Cond.code yX5_forgetFrom cX5_forgetFrom 2 none :: xw_all) (rmo 1 21) (va_Pc [.ref (ad 10), .int a1] (xPre cS 36 G ad μ)) (xQv cS 36 G ad K) 0 0 (xR 36 ad) := by
  refine x_ent (nL := 2) (own := RX5) (by decide) rfl hI (Nat.le_of_ble_eq_true rfl) ?_
  intro p e s m args below meth c H locs ls Q X hr hlk hQ M hl
  have hx := X.1.1
  have hb := X.1.2.1
  have hown := X.1.2.2.2.1
  have hts := X.1.2.2.2.2
  have hl : lv_has ls 2 [(0, .ref (ad 10)), (1, .int a1)] := hl
  unfold wp_X5_forgetFrom at hf
  refine lv_aload_n hx hb dX5_forgetFrom_0 rfl (lv_at hl 0 rfl) ?_
  refine lv_aload_n hx hb dX5_forgetFrom_1 rfl (lv_at hl 0 rfl) ?_
  refine x_getI X M rgc_10 fd_X5_41 rfl dX5_forgetFrom_2 ?_
  refine lv_iload_n hx hb dX5_forgetFrom_5 rfl (lv_at hl 1 rfl) ?_
  refine x_min X hl lm_X5_59 ⟨Nat.le_of_ble_eq_true rfl, Nat.le_of_ble_eq_true rfl, Nat.zero_le _, Nat.zero_le _⟩ dX5_forgetFrom_6 ?_
  refine lv_topi (fun r_6 er_6 => ?_)
  replace hf := hf r_6 er_6
  refine x_putI X M rgc_10 fp_X5_41 rfl dX5_forgetFrom_9 (fun m_9 H locs em_9 M => ?_)
  replace hf := hf m_9 em_9
  rw [hQ]
  exact x_vret X M hr hlk dX5_forgetFrom_12 hf
def wp_X5_letRain (n : Nat) (a1 : Int32) (a2 : Int32) (μ : xM) (K : xM → Prop) : Prop :=
  (vp_in a1 60 ∧ (∀ m_6 : xM, m_6 = xu μ 12 a1.toNatClampNeg a2 → wp_X5_forgetFrom n a1 m_6 (fun m_9 : xM => K m_9)))
set_option maxHeartbeats 4000000 in
set_option maxRecDepth 100000 in
theorem cm_X5_letRain (l : Launch) (G : xG) (ad : Nat → Nat) (hI : xI 36 ad) (n : Nat) (a1 : Int32) (a2 : Int32) (μ : xM) (K : xM → Prop) (hf : wp_X5_letRain n a1 a2 μ K) : Met l yX5_letRain (Cond.code yX5_letRain cX5_letRain 3 none :: xw_all) (rmo 2 42) (va_Pc [.ref (ad 10), .int a1, .int a2] (xPre cS 36 G ad μ)) (xQv cS 36 G ad K) 0 0 (xR 36 ad) := by
  refine x_ent (nL := 3) (own := RX5) (by decide) rfl hI (Nat.le_of_ble_eq_true rfl) ?_
  intro p e s m args below meth c H locs ls Q X hr hlk hQ M hl
  have hx := X.1.1
  have hb := X.1.2.1
  have hown := X.1.2.2.2.1
  have hts := X.1.2.2.2.2
  have hl : lv_has ls 3 [(0, .ref (ad 10)), (1, .int a1), (2, .int a2)] := hl
  unfold wp_X5_letRain at hf
  refine lv_aload_n hx hb dX5_letRain_0 rfl (lv_at hl 0 rfl) ?_
  refine x_getR (r := 12) X M rgc_10 fd_X5_18 rfl dX5_letRain_1 ?_
  refine lv_iload_n hx hb dX5_letRain_4 rfl (lv_at hl 1 rfl) ?_
  refine lv_iload_n hx hb dX5_letRain_5 rfl (lv_at hl 2 rfl) ?_
  obtain ⟨g_6, hf⟩ := hf
  refine x_ist X M rgc_12 g_6 dX5_letRain_6 (fun m_6 H locs em_6 M => ?_)
  replace hf := hf m_6 em_6
  refine lv_aload_n hx hb dX5_letRain_7 rfl (lv_at hl 0 rfl) ?_
  refine lv_iload_n hx hb dX5_letRain_8 rfl (lv_at hl 1 rfl) ?_
  refine x_cv (x_rV (As := [.int a1]) (rest := []) X M (cm_X5_forgetFrom l G ad hI n a1 m_6 _ hf) mc_X5_forgetFrom mv_X5_forgetFrom lk_X5_65 mn_X5_forgetFrom rgc_10 rfl hl ⟨⟨Nat.le_of_ble_eq_true rfl, Nat.le_of_ble_eq_true rfl⟩, rfl, Nat.le_of_ble_eq_true rfl, Nat.zero_le _, Nat.zero_le _⟩ rfl dX5_letRain_9) M (fun m_9 H locs hf M => ?_)
  try dsimp only at hf
  rw [hQ]
  exact x_vret X M hr hlk dX5_letRain_12 hf
def wp_X5_sumOf (n : Nat) (a1 : Int32) (a2 : Int32) (μ : xM) (K : Int32 → Prop) : Prop :=
  wp_X5_placeOf n a1 (0 : Int32) a2 μ (fun r_7 : Int32 => (vp_in r_7 1281 ∧ wp_X5_placeOf n a1 (1 : Int32) a2 μ (fun r_18 : Int32 => (vp_in r_18 1281 ∧ wp_X5_placeOf n a1 (2 : Int32) a2 μ (fun r_30 : Int32 => (vp_in r_30 1281 ∧ K (((μ 14 r_7.toNatClampNeg) + (μ 14 r_18.toNatClampNeg)) + (μ 14 r_30.toNatClampNeg))))))))
set_option maxHeartbeats 4000000 in
set_option maxRecDepth 100000 in
theorem cm_X5_sumOf (l : Launch) (G : xG) (ad : Nat → Nat) (hI : xI 36 ad) (n : Nat) (a1 : Int32) (a2 : Int32) (μ : xM) (K : Int32 → Prop) (hf : wp_X5_sumOf n a1 a2 μ K) : Met l yX5_sumOf (Cond.code yX5_sumOf cX5_sumOf 3 (some .int) :: xw_all) (rmo 1 22) (va_Pc [.ref (ad 10), .int a1, .int a2] (xPre cS 36 G ad μ)) (xQi cS 36 G ad (fun r u => K r ∧ u = μ)) 0 0 (xR 36 ad) := by
  refine x_ent (nL := 3) (own := RX5) (by decide) rfl hI (Nat.le_of_ble_eq_true rfl) ?_
  intro p e s m args below meth c H locs ls Q X hr hlk hQ M hl
  have hx := X.1.1
  have hb := X.1.2.1
  have hown := X.1.2.2.2.1
  have hts := X.1.2.2.2.2
  have hl : lv_has ls 3 [(0, .ref (ad 10)), (1, .int a1), (2, .int a2)] := hl
  unfold wp_X5_sumOf at hf
  refine lv_aload_n hx hb dX5_sumOf_0 rfl (lv_at hl 0 rfl) ?_
  refine x_getR (r := 14) X M rgc_10 fd_X5_25 rfl dX5_sumOf_1 ?_
  refine lv_iload_n hx hb dX5_sumOf_4 rfl (lv_at hl 1 rfl) ?_
  refine lv_iconst (v := (0 : Int32)) hx hb dX5_sumOf_5 (by decide) ?_
  refine lv_iload_n hx hb dX5_sumOf_6 rfl (lv_at hl 2 rfl) ?_
  refine x_ciP (x_rS (As := [.int a1, .int (0 : Int32), .int a2]) (rest := [.ref (ad 14)]) X M (cm_X5_placeOf l G ad hI n a1 (0 : Int32) a2 μ _ hf) mc_X5_placeOf ms_X5_placeOf lk_X5_78 mn_X5_placeOf hl ⟨⟨Nat.le_of_ble_eq_true rfl, Nat.le_of_ble_eq_true rfl⟩, rfl, Nat.le_of_ble_eq_true rfl, Nat.zero_le _, Nat.zero_le _⟩ rfl dX5_sumOf_7) M (fun r_7 H locs hf M => ?_)
  try dsimp only at hf
  obtain ⟨g_10, hf⟩ := hf
  refine x_ild X M rgc_14 g_10 dX5_sumOf_10 ?_
  refine lv_aload_n hx hb dX5_sumOf_11 rfl (lv_at hl 0 rfl) ?_
  refine x_getR (r := 14) X M rgc_10 fd_X5_25 rfl dX5_sumOf_12 ?_
  refine lv_iload_n hx hb dX5_sumOf_15 rfl (lv_at hl 1 rfl) ?_
  refine lv_iconst (v := (1 : Int32)) hx hb dX5_sumOf_16 (by decide) ?_
  refine lv_iload_n hx hb dX5_sumOf_17 rfl (lv_at hl 2 rfl) ?_
  refine x_ciP (x_rS (As := [.int a1, .int (1 : Int32), .int a2]) (rest := [.ref (ad 14), .int (μ 14 r_7.toNatClampNeg)]) X M (cm_X5_placeOf l G ad hI n a1 (1 : Int32) a2 μ _ hf) mc_X5_placeOf ms_X5_placeOf lk_X5_78 mn_X5_placeOf hl ⟨⟨Nat.le_of_ble_eq_true rfl, Nat.le_of_ble_eq_true rfl⟩, rfl, Nat.le_of_ble_eq_true rfl, Nat.zero_le _, Nat.zero_le _⟩ rfl dX5_sumOf_18) M (fun r_18 H locs hf M => ?_)
  try dsimp only at hf
  obtain ⟨g_21, hf⟩ := hf
  refine x_ild X M rgc_14 g_21 dX5_sumOf_21 ?_
  refine lv_iadd hx hb dX5_sumOf_22 ?_
  refine lv_aload_n hx hb dX5_sumOf_23 rfl (lv_at hl 0 rfl) ?_
  refine x_getR (r := 14) X M rgc_10 fd_X5_25 rfl dX5_sumOf_24 ?_
  refine lv_iload_n hx hb dX5_sumOf_27 rfl (lv_at hl 1 rfl) ?_
  refine lv_iconst (v := (2 : Int32)) hx hb dX5_sumOf_28 (by decide) ?_
  refine lv_iload_n hx hb dX5_sumOf_29 rfl (lv_at hl 2 rfl) ?_
  refine x_ciP (x_rS (As := [.int a1, .int (2 : Int32), .int a2]) (rest := [.ref (ad 14), .int ((μ 14 r_7.toNatClampNeg) + (μ 14 r_18.toNatClampNeg))]) X M (cm_X5_placeOf l G ad hI n a1 (2 : Int32) a2 μ _ hf) mc_X5_placeOf ms_X5_placeOf lk_X5_78 mn_X5_placeOf hl ⟨⟨Nat.le_of_ble_eq_true rfl, Nat.le_of_ble_eq_true rfl⟩, rfl, Nat.le_of_ble_eq_true rfl, Nat.zero_le _, Nat.zero_le _⟩ rfl dX5_sumOf_30) M (fun r_30 H locs hf M => ?_)
  try dsimp only at hf
  obtain ⟨g_33, hf⟩ := hf
  refine x_ild X M rgc_14 g_33 dX5_sumOf_33 ?_
  refine lv_iadd hx hb dX5_sumOf_34 ?_
  rw [hQ]
  exact x_iret X M hr hlk dX5_sumOf_35 ⟨hf, rfl⟩
def wp_X5_leftOf (n : Nat) (a1 : Int32) (a2 : Int32) (μ : xM) (K : Int32 → xM → Prop) : Prop :=
  wp_X5_workOut n a2 μ (fun m_2 : xM => wp_X5_sumOf n a1 a2 m_2 (fun r_8 : Int32 => K r_8 m_2))
set_option maxHeartbeats 4000000 in
set_option maxRecDepth 100000 in
theorem cm_X5_leftOf (l : Launch) (G : xG) (ad : Nat → Nat) (hI : xI 36 ad) (n : Nat) (a1 : Int32) (a2 : Int32) (μ : xM) (K : Int32 → xM → Prop) (hf : wp_X5_leftOf n a1 a2 μ K) : Met l yX5_leftOf (Cond.code yX5_leftOf cX5_leftOf 3 (some .int) :: xw_all) (rmo 4 94) (va_Pc [.ref (ad 10), .int a1, .int a2] (xPre cS 36 G ad μ)) (xQi cS 36 G ad K) 0 0 (xR 36 ad) := by
  refine x_ent (nL := 3) (own := RX5) (by decide) rfl hI (Nat.le_of_ble_eq_true rfl) ?_
  intro p e s m args below meth c H locs ls Q X hr hlk hQ M hl
  have hx := X.1.1
  have hb := X.1.2.1
  have hown := X.1.2.2.2.1
  have hts := X.1.2.2.2.2
  have hl : lv_has ls 3 [(0, .ref (ad 10)), (1, .int a1), (2, .int a2)] := hl
  unfold wp_X5_leftOf at hf
  refine lv_aload_n hx hb dX5_leftOf_0 rfl (lv_at hl 0 rfl) ?_
  refine lv_iload_n hx hb dX5_leftOf_1 rfl (lv_at hl 2 rfl) ?_
  refine x_cv (x_rV (As := [.int a2]) (rest := []) X M (cm_X5_workOut l G ad hI n a2 μ _ hf) mc_X5_workOut mv_X5_workOut lk_X5_100 mn_X5_workOut rgc_10 rfl hl ⟨⟨Nat.le_of_ble_eq_true rfl, Nat.le_of_ble_eq_true rfl⟩, rfl, Nat.le_of_ble_eq_true rfl, Nat.zero_le _, Nat.zero_le _⟩ rfl dX5_leftOf_2) M (fun m_2 H locs hf M => ?_)
  try dsimp only at hf
  refine lv_aload_n hx hb dX5_leftOf_5 rfl (lv_at hl 0 rfl) ?_
  refine lv_iload_n hx hb dX5_leftOf_6 rfl (lv_at hl 1 rfl) ?_
  refine lv_iload_n hx hb dX5_leftOf_7 rfl (lv_at hl 2 rfl) ?_
  refine x_ciP (x_rV (As := [.int a1, .int a2]) (rest := []) X M (cm_X5_sumOf l G ad hI n a1 a2 m_2 _ hf) mc_X5_sumOf mv_X5_sumOf lk_X5_103 mn_X5_sumOf rgc_10 rfl hl ⟨⟨Nat.le_of_ble_eq_true rfl, Nat.le_of_ble_eq_true rfl⟩, rfl, Nat.le_of_ble_eq_true rfl, Nat.zero_le _, Nat.zero_le _⟩ rfl dX5_leftOf_8) M (fun r_8 H locs hf M => ?_)
  try dsimp only at hf
  rw [hQ]
  exact x_iret X M hr hlk dX5_leftOf_11 hf
def wp_X5_leftOfAll (n : Nat) (a1 : Int32) (μ : xM) (K : Int32 → xM → Prop) : Prop :=
  xlp (fun (again4 : (Int32 × Int32 × xM) → Prop) => fun (s_ : Int32 × Int32 × xM) => match s_ with | (x3_4, x2_4, m_4) => (((m_4 10 6) ≤ x3_4 → K x2_4 m_4) ∧ (¬ (m_4 10 6) ≤ x3_4 → wp_X5_leftOf n x3_4 a1 m_4 (fun (r_16 : Int32) (m_16 : xM) => (∀ x2_20 : Int32, x2_20 = x2_4 + r_16 → (∀ x3_21 : Int32, x3_21 = x3_4 + 1 → again4 (x3_21, x2_20, m_16))))))) n ((0 : Int32), (0 : Int32), μ)
set_option maxHeartbeats 4000000 in
set_option maxRecDepth 100000 in
theorem cm_X5_leftOfAll (l : Launch) (G : xG) (ad : Nat → Nat) (hI : xI 36 ad) (n : Nat) (a1 : Int32) (μ : xM) (K : Int32 → xM → Prop) (hf : wp_X5_leftOfAll n a1 μ K) : Met l yX5_leftOfAll (Cond.code yX5_leftOfAll cX5_leftOfAll 4 (some .int) :: xw_all) (rmo 5 116) (va_Pc [.ref (ad 10), .int a1] (xPre cS 36 G ad μ)) (xQi cS 36 G ad K) 0 0 (xR 36 ad) := by
  refine x_ent (nL := 4) (own := RX5) (by decide) rfl hI (Nat.le_of_ble_eq_true rfl) ?_
  intro p e s m args below meth c H locs ls Q X hr hlk hQ M hl
  have hx := X.1.1
  have hb := X.1.2.1
  have hown := X.1.2.2.2.1
  have hts := X.1.2.2.2.2
  have hl : lv_has ls 4 [(0, .ref (ad 10)), (1, .int a1)] := hl
  unfold wp_X5_leftOfAll at hf
  refine lv_iconst (v := (0 : Int32)) hx hb dX5_leftOfAll_0 (by decide) ?_
  refine lv_istore_n (lv' := [(2, .int (0 : Int32)), (0, .ref (ad 10)), (1, .int a1)]) hx hb dX5_leftOfAll_1 rfl hl (by decide) rfl (fun ls hl => ?_)
  refine lv_iconst (v := (0 : Int32)) hx hb dX5_leftOfAll_2 (by decide) ?_
  refine lv_istore_n (lv' := [(3, .int (0 : Int32)), (2, .int (0 : Int32)), (0, .ref (ad 10)), (1, .int a1)]) hx hb dX5_leftOfAll_3 rfl hl (by decide) rfl (fun ls hl => ?_)
  refine xlp_w hf (fun (s_ : Int32 × Int32 × xM) => match s_ with | (x3_4, x2_4, m_4) => ∀ (H : Heap) (locs : List Loc) (ls : Array Slot), xS cS 36 G ad s m_4 H locs → lv_has ls 4 [(3, .int x3_4), (2, .int x2_4), (0, .ref (ad 10)), (1, .int a1)] → W p l e (rmo 5 116) s m args below meth c H locs 0 0 Q (F0 m 4 ls [])) ?_ _ _ _ M (lv_sub hl [0, 1, 2, 3] rfl)
  intro again4 hagain4 s_ hf
  obtain ⟨x3_4, x2_4, m_4⟩ := s_
  try dsimp only at hf ⊢
  intro H locs ls M hl
  refine lv_iload_n hx hb dX5_leftOfAll_4 rfl (lv_at hl 0 rfl) ?_
  refine lv_aload_n hx hb dX5_leftOfAll_5 rfl (lv_at hl 2 rfl) ?_
  refine x_getI X M rgc_10 fd_X5_34 rfl dX5_leftOfAll_6 ?_
  refine lv_icmp_ge (tgt := 27) hx hb dX5_leftOfAll_9 (by decide) (fun c_9 => ?_) (fun c_9 => ?_)
  · replace hf := hf.1 c_9
    refine lv_iload_n hx hb dX5_leftOfAll_27 rfl (lv_at hl 1 rfl) ?_
    rw [hQ]
    exact x_iret X M hr hlk dX5_leftOfAll_28 hf
  · replace hf := hf.2 c_9
    refine lv_iload_n hx hb dX5_leftOfAll_12 rfl (lv_at hl 1 rfl) ?_
    refine lv_aload_n hx hb dX5_leftOfAll_13 rfl (lv_at hl 2 rfl) ?_
    refine lv_iload_n hx hb dX5_leftOfAll_14 rfl (lv_at hl 0 rfl) ?_
    refine lv_iload_n hx hb dX5_leftOfAll_15 rfl (lv_at hl 3 rfl) ?_
    refine x_ci (x_rV (As := [.int x3_4, .int a1]) (rest := [.int x2_4]) X M (cm_X5_leftOf l G ad hI n x3_4 a1 m_4 _ hf) mc_X5_leftOf mv_X5_leftOf lk_X5_106 mn_X5_leftOf rgc_10 rfl hl ⟨⟨Nat.le_of_ble_eq_true rfl, Nat.le_of_ble_eq_true rfl⟩, rfl, Nat.le_of_ble_eq_true rfl, Nat.zero_le _, Nat.zero_le _⟩ rfl dX5_leftOfAll_16) M (fun r_16 m_16 H locs hf M => ?_)
    try dsimp only at hf
    refine lv_iadd hx hb dX5_leftOfAll_19 ?_
    refine lv_topi (fun x2_20 ex2_20 => ?_)
    replace hf := hf x2_20 ex2_20
    refine lv_istore_n (lv' := [(2, .int x2_20), (3, .int x3_4), (0, .ref (ad 10)), (1, .int a1)]) hx hb dX5_leftOfAll_20 rfl hl (by decide) rfl (fun ls hl => ?_)
    obtain ⟨x3_21, ex3_21⟩ : ∃ y : Int32, y = x3_4 + 1 := ⟨_, rfl⟩
    replace hf := hf x3_21 ex3_21
    refine lv_iinc (v := x3_21) (lv' := [(3, .int x3_21), (2, .int x2_20), (0, .ref (ad 10)), (1, .int a1)]) hx hb dX5_leftOfAll_21 hl (k := 1) rfl (by rw [ex3_21]; rfl) (by decide) rfl (fun ls hl => ?_)
    refine lv_goto (tgt := 4) hx hb dX5_leftOfAll_24 (by decide) ?_
    exact hagain4 (x3_21, x2_20, m_16) hf _ _ _ M (lv_sub hl [0, 1, 2, 3] rfl)
def wp_X5_lickedOff (n : Nat) (a1 : Int32) (a2 : Int32) (μ : xM) (K : Int32 → xM → Prop) : Prop :=
  wp_X5_workOut n a2 μ (fun m_2 : xM => (vp_in ((a2 * (7 : Int32)) + a1) 427 ∧ K (m_2 15 ((a2 * (7 : Int32)) + a1).toNatClampNeg) m_2))
set_option maxHeartbeats 4000000 in
set_option maxRecDepth 100000 in
theorem cm_X5_lickedOff (l : Launch) (G : xG) (ad : Nat → Nat) (hI : xI 36 ad) (n : Nat) (a1 : Int32) (a2 : Int32) (μ : xM) (K : Int32 → xM → Prop) (hf : wp_X5_lickedOff n a1 a2 μ K) : Met l yX5_lickedOff (Cond.code yX5_lickedOff cX5_lickedOff 3 (some .int) :: xw_all) (rmo 4 94) (va_Pc [.ref (ad 10), .int a1, .int a2] (xPre cS 36 G ad μ)) (xQi cS 36 G ad K) 0 0 (xR 36 ad) := by
  refine x_ent (nL := 3) (own := RX5) (by decide) rfl hI (Nat.le_of_ble_eq_true rfl) ?_
  intro p e s m args below meth c H locs ls Q X hr hlk hQ M hl
  have hx := X.1.1
  have hb := X.1.2.1
  have hown := X.1.2.2.2.1
  have hts := X.1.2.2.2.2
  have hl : lv_has ls 3 [(0, .ref (ad 10)), (1, .int a1), (2, .int a2)] := hl
  unfold wp_X5_lickedOff at hf
  refine lv_aload_n hx hb dX5_lickedOff_0 rfl (lv_at hl 0 rfl) ?_
  refine lv_iload_n hx hb dX5_lickedOff_1 rfl (lv_at hl 2 rfl) ?_
  refine x_cv (x_rV (As := [.int a2]) (rest := []) X M (cm_X5_workOut l G ad hI n a2 μ _ hf) mc_X5_workOut mv_X5_workOut lk_X5_100 mn_X5_workOut rgc_10 rfl hl ⟨⟨Nat.le_of_ble_eq_true rfl, Nat.le_of_ble_eq_true rfl⟩, rfl, Nat.le_of_ble_eq_true rfl, Nat.zero_le _, Nat.zero_le _⟩ rfl dX5_lickedOff_2) M (fun m_2 H locs hf M => ?_)
  try dsimp only at hf
  refine lv_aload_n hx hb dX5_lickedOff_5 rfl (lv_at hl 0 rfl) ?_
  refine x_getR (r := 15) X M rgc_10 fd_X5_28 rfl dX5_lickedOff_6 ?_
  refine lv_iload_n hx hb dX5_lickedOff_9 rfl (lv_at hl 2 rfl) ?_
  refine lv_bipush (v := (7 : Int32)) hx hb dX5_lickedOff_10 (by decide) ?_
  refine lv_imul hx hb dX5_lickedOff_12 ?_
  refine lv_iload_n hx hb dX5_lickedOff_13 rfl (lv_at hl 1 rfl) ?_
  refine lv_iadd hx hb dX5_lickedOff_14 ?_
  obtain ⟨g_15, hf⟩ := hf
  refine x_ild X M rgc_15 g_15 dX5_lickedOff_15 ?_
  rw [hQ]
  exact x_iret X M hr hlk dX5_lickedOff_16 hf
def wp_X5_inPuddle (n : Nat) (a1 : Int32) (a2 : Int32) (μ : xM) (K : Int32 → xM → Prop) : Prop :=
  (vp_in a1 7 ∧ wp_X3_allAtFirst n (a1.toNatClampNeg) μ (fun r_6 : Int32 => wp_X5_leftOf n a1 a2 μ (fun (r_12 : Int32) (m_12 : xM) => wp_X5_lickedOff n a1 a2 m_12 (fun (r_19 : Int32) (m_19 : xM) => K ((r_6 - r_12) - r_19) m_19))))
set_option maxHeartbeats 4000000 in
set_option maxRecDepth 100000 in
theorem cm_X5_inPuddle (l : Launch) (G : xG) (ad : Nat → Nat) (hI : xI 36 ad) (n : Nat) (a1 : Int32) (a2 : Int32) (μ : xM) (K : Int32 → xM → Prop) (hf : wp_X5_inPuddle n a1 a2 μ K) : Met l yX5_inPuddle (Cond.code yX5_inPuddle cX5_inPuddle 3 (some .int) :: xw_all) (rmo 5 116) (va_Pc [.ref (ad 10), .int a1, .int a2] (xPre cS 36 G ad μ)) (xQi cS 36 G ad K) 0 0 (xR 36 ad) := by
  refine x_ent (nL := 3) (own := RX5) (by decide) rfl hI (Nat.le_of_ble_eq_true rfl) ?_
  intro p e s m args below meth c H locs ls Q X hr hlk hQ M hl
  have hx := X.1.1
  have hb := X.1.2.1
  have hown := X.1.2.2.2.1
  have hts := X.1.2.2.2.2
  have hl : lv_has ls 3 [(0, .ref (ad 10)), (1, .int a1), (2, .int a2)] := hl
  unfold wp_X5_inPuddle at hf
  refine lv_aload_n hx hb dX5_inPuddle_0 rfl (lv_at hl 0 rfl) ?_
  refine x_getR (r := 11) X M rgc_10 fd_X5_11 rfl dX5_inPuddle_1 ?_
  refine lv_iload_n hx hb dX5_inPuddle_4 rfl (lv_at hl 1 rfl) ?_
  obtain ⟨g_5, hf⟩ := hf
  refine x_ald X M rgc_11 rfl g_5 dX5_inPuddle_5 ?_
  refine x_ciP (x_rVN (As := []) (rest := []) X M (cm_X3_allAtFirst l G ad hI n (a1.toNatClampNeg) (vp_lt g_5) μ _ hf) mc_X3_allAtFirst mv_X3_allAtFirst ln_X5_109 mn_X3_allAtFirst (rgc_17 (vp_lt g_5)) rfl hl ⟨⟨Nat.le_of_ble_eq_true rfl, Nat.le_of_ble_eq_true rfl⟩, rfl, Nat.le_of_ble_eq_true rfl, Nat.zero_le _, Nat.zero_le _⟩ rfl dX5_inPuddle_6) M (fun r_6 H locs hf M => ?_)
  try dsimp only at hf
  refine lv_aload_n hx hb dX5_inPuddle_9 rfl (lv_at hl 0 rfl) ?_
  refine lv_iload_n hx hb dX5_inPuddle_10 rfl (lv_at hl 1 rfl) ?_
  refine lv_iload_n hx hb dX5_inPuddle_11 rfl (lv_at hl 2 rfl) ?_
  refine x_ci (x_rV (As := [.int a1, .int a2]) (rest := [.int r_6]) X M (cm_X5_leftOf l G ad hI n a1 a2 μ _ hf) mc_X5_leftOf mv_X5_leftOf lk_X5_106 mn_X5_leftOf rgc_10 rfl hl ⟨⟨Nat.le_of_ble_eq_true rfl, Nat.le_of_ble_eq_true rfl⟩, rfl, Nat.le_of_ble_eq_true rfl, Nat.zero_le _, Nat.zero_le _⟩ rfl dX5_inPuddle_12) M (fun r_12 m_12 H locs hf M => ?_)
  try dsimp only at hf
  refine lv_isub hx hb dX5_inPuddle_15 ?_
  refine lv_aload_n hx hb dX5_inPuddle_16 rfl (lv_at hl 0 rfl) ?_
  refine lv_iload_n hx hb dX5_inPuddle_17 rfl (lv_at hl 1 rfl) ?_
  refine lv_iload_n hx hb dX5_inPuddle_18 rfl (lv_at hl 2 rfl) ?_
  refine x_ci (x_rV (As := [.int a1, .int a2]) (rest := [.int (r_6 - r_12)]) X M (cm_X5_lickedOff l G ad hI n a1 a2 m_12 _ hf) mc_X5_lickedOff mv_X5_lickedOff lk_X5_113 mn_X5_lickedOff rgc_10 rfl hl ⟨⟨Nat.le_of_ble_eq_true rfl, Nat.le_of_ble_eq_true rfl⟩, rfl, Nat.le_of_ble_eq_true rfl, Nat.zero_le _, Nat.zero_le _⟩ rfl dX5_inPuddle_19) M (fun r_19 m_19 H locs hf M => ?_)
  try dsimp only at hf
  refine lv_isub hx hb dX5_inPuddle_22 ?_
  rw [hQ]
  exact x_iret X M hr hlk dX5_inPuddle_23 hf
def wp_X5_dawnWithoutPart (n : Nat) (a1 : Int32) (a2 : Int32) (μ : xM) (K : Int32 → xM → Prop) : Prop :=
  wp_X5_workOut n (60 : Int32) μ (fun m_3 : xM => xlp (fun (again8 : Int32 → Prop) => fun (x3_8 : Int32) => (((60 : Int32) < x3_8 → K (61 : Int32) m_3) ∧ (¬ (60 : Int32) < x3_8 → wp_X5_placeOf n a1 a2 x3_8 m_3 (fun r_21 : Int32 => (vp_in r_21 1281 ∧ ((¬ (m_3 14 r_21.toNatClampNeg) = 0 → (∀ x3_30 : Int32, x3_30 = x3_8 + 1 → again8 x3_30)) ∧ ((m_3 14 r_21.toNatClampNeg) = 0 → K x3_8 m_3))))))) n (0 : Int32))
set_option maxHeartbeats 4000000 in
set_option maxRecDepth 100000 in
theorem cm_X5_dawnWithoutPart (l : Launch) (G : xG) (ad : Nat → Nat) (hI : xI 36 ad) (n : Nat) (a1 : Int32) (a2 : Int32) (μ : xM) (K : Int32 → xM → Prop) (hf : wp_X5_dawnWithoutPart n a1 a2 μ K) : Met l yX5_dawnWithoutPart (Cond.code yX5_dawnWithoutPart cX5_dawnWithoutPart 4 (some .int) :: xw_all) (rmo 4 94) (va_Pc [.ref (ad 10), .int a1, .int a2] (xPre cS 36 G ad μ)) (xQi cS 36 G ad K) 0 0 (xR 36 ad) := by
  refine x_ent (nL := 4) (own := RX5) (by decide) rfl hI (Nat.le_of_ble_eq_true rfl) ?_
  intro p e s m args below meth c H locs ls Q X hr hlk hQ M hl
  have hx := X.1.1
  have hb := X.1.2.1
  have hown := X.1.2.2.2.1
  have hts := X.1.2.2.2.2
  have hl : lv_has ls 4 [(0, .ref (ad 10)), (1, .int a1), (2, .int a2)] := hl
  unfold wp_X5_dawnWithoutPart at hf
  refine lv_aload_n hx hb dX5_dawnWithoutPart_0 rfl (lv_at hl 0 rfl) ?_
  refine lv_bipush (v := (60 : Int32)) hx hb dX5_dawnWithoutPart_1 (by decide) ?_
  refine x_cv (x_rV (As := [.int (60 : Int32)]) (rest := []) X M (cm_X5_workOut l G ad hI n (60 : Int32) μ _ hf) mc_X5_workOut mv_X5_workOut lk_X5_100 mn_X5_workOut rgc_10 rfl hl ⟨⟨Nat.le_of_ble_eq_true rfl, Nat.le_of_ble_eq_true rfl⟩, rfl, Nat.le_of_ble_eq_true rfl, Nat.zero_le _, Nat.zero_le _⟩ rfl dX5_dawnWithoutPart_3) M (fun m_3 H locs hf M => ?_)
  try dsimp only at hf
  refine lv_iconst (v := (0 : Int32)) hx hb dX5_dawnWithoutPart_6 (by decide) ?_
  refine lv_istore_n (lv' := [(3, .int (0 : Int32)), (0, .ref (ad 10)), (1, .int a1), (2, .int a2)]) hx hb dX5_dawnWithoutPart_7 rfl hl (by decide) rfl (fun ls hl => ?_)
  refine xlp_w hf (fun (x3_8 : Int32) => ∀ (H : Heap) (locs : List Loc) (ls : Array Slot), xS cS 36 G ad s m_3 H locs → lv_has ls 4 [(3, .int x3_8), (0, .ref (ad 10)), (1, .int a1), (2, .int a2)] → W p l e (rmo 4 94) s m args below meth c H locs 0 0 Q (F0 m 8 ls [])) ?_ _ _ _ M (lv_sub hl [0, 1, 2, 3] rfl)
  intro again8 hagain8 x3_8 hf
  intro H locs ls M hl
  refine lv_iload_n hx hb dX5_dawnWithoutPart_8 rfl (lv_at hl 0 rfl) ?_
  refine lv_bipush (v := (60 : Int32)) hx hb dX5_dawnWithoutPart_9 (by decide) ?_
  refine lv_icmp_gt (tgt := 36) hx hb dX5_dawnWithoutPart_11 (by decide) (fun c_11 => ?_) (fun c_11 => ?_)
  · replace hf := hf.1 c_11
    refine lv_bipush (v := (61 : Int32)) hx hb dX5_dawnWithoutPart_36 (by decide) ?_
    rw [hQ]
    exact x_iret X M hr hlk dX5_dawnWithoutPart_38 hf
  · replace hf := hf.2 c_11
    refine lv_aload_n hx hb dX5_dawnWithoutPart_14 rfl (lv_at hl 1 rfl) ?_
    refine x_getR (r := 14) X M rgc_10 fd_X5_25 rfl dX5_dawnWithoutPart_15 ?_
    refine lv_iload_n hx hb dX5_dawnWithoutPart_18 rfl (lv_at hl 2 rfl) ?_
    refine lv_iload_n hx hb dX5_dawnWithoutPart_19 rfl (lv_at hl 3 rfl) ?_
    refine lv_iload_n hx hb dX5_dawnWithoutPart_20 rfl (lv_at hl 0 rfl) ?_
    refine x_ciP (x_rS (As := [.int a1, .int a2, .int x3_8]) (rest := [.ref (ad 14)]) X M (cm_X5_placeOf l G ad hI n a1 a2 x3_8 m_3 _ hf) mc_X5_placeOf ms_X5_placeOf lk_X5_78 mn_X5_placeOf hl ⟨⟨Nat.le_of_ble_eq_true rfl, Nat.le_of_ble_eq_true rfl⟩, rfl, Nat.le_of_ble_eq_true rfl, Nat.zero_le _, Nat.zero_le _⟩ rfl dX5_dawnWithoutPart_21) M (fun r_21 H locs hf M => ?_)
    try dsimp only at hf
    obtain ⟨g_24, hf⟩ := hf
    refine x_ild X M rgc_14 g_24 dX5_dawnWithoutPart_24 ?_
    refine lv_if_ne (tgt := 30) hx hb dX5_dawnWithoutPart_25 (by decide) (fun c_25 => ?_) (fun c_25 => ?_)
    · replace hf := hf.1 c_25
      obtain ⟨x3_30, ex3_30⟩ : ∃ y : Int32, y = x3_8 + 1 := ⟨_, rfl⟩
      replace hf := hf x3_30 ex3_30
      refine lv_iinc (v := x3_30) (lv' := [(3, .int x3_30), (0, .ref (ad 10)), (1, .int a1), (2, .int a2)]) hx hb dX5_dawnWithoutPart_30 hl (k := 0) rfl (by rw [ex3_30]; rfl) (by decide) rfl (fun ls hl => ?_)
      refine lv_goto (tgt := 8) hx hb dX5_dawnWithoutPart_33 (by decide) ?_
      exact hagain8 x3_30 hf _ _ _ M (lv_sub hl [0, 1, 2, 3] rfl)
    · replace hf := hf.2 c_25
      refine lv_iload_n hx hb dX5_dawnWithoutPart_28 rfl (lv_at hl 0 rfl) ?_
      rw [hQ]
      exact x_iret X M hr hlk dX5_dawnWithoutPart_29 hf
def wp_X5_dawnWithoutAny (n : Nat) (a1 : Int32) (μ : xM) (K : Int32 → xM → Prop) : Prop :=
  wp_X5_workOut n (60 : Int32) μ (fun m_3 : xM => xlp (fun (again8 : Int32 → Prop) => fun (x2_8 : Int32) => (((60 : Int32) < x2_8 → K (61 : Int32) m_3) ∧ (¬ (60 : Int32) < x2_8 → wp_X5_sumOf n a1 x2_8 m_3 (fun r_17 : Int32 => ((¬ r_17 = 0 → (∀ x2_25 : Int32, x2_25 = x2_8 + 1 → again8 x2_25)) ∧ (r_17 = 0 → K x2_8 m_3)))))) n (0 : Int32))
set_option maxHeartbeats 4000000 in
set_option maxRecDepth 100000 in
theorem cm_X5_dawnWithoutAny (l : Launch) (G : xG) (ad : Nat → Nat) (hI : xI 36 ad) (n : Nat) (a1 : Int32) (μ : xM) (K : Int32 → xM → Prop) (hf : wp_X5_dawnWithoutAny n a1 μ K) : Met l yX5_dawnWithoutAny (Cond.code yX5_dawnWithoutAny cX5_dawnWithoutAny 3 (some .int) :: xw_all) (rmo 4 94) (va_Pc [.ref (ad 10), .int a1] (xPre cS 36 G ad μ)) (xQi cS 36 G ad K) 0 0 (xR 36 ad) := by
  refine x_ent (nL := 3) (own := RX5) (by decide) rfl hI (Nat.le_of_ble_eq_true rfl) ?_
  intro p e s m args below meth c H locs ls Q X hr hlk hQ M hl
  have hx := X.1.1
  have hb := X.1.2.1
  have hown := X.1.2.2.2.1
  have hts := X.1.2.2.2.2
  have hl : lv_has ls 3 [(0, .ref (ad 10)), (1, .int a1)] := hl
  unfold wp_X5_dawnWithoutAny at hf
  refine lv_aload_n hx hb dX5_dawnWithoutAny_0 rfl (lv_at hl 0 rfl) ?_
  refine lv_bipush (v := (60 : Int32)) hx hb dX5_dawnWithoutAny_1 (by decide) ?_
  refine x_cv (x_rV (As := [.int (60 : Int32)]) (rest := []) X M (cm_X5_workOut l G ad hI n (60 : Int32) μ _ hf) mc_X5_workOut mv_X5_workOut lk_X5_100 mn_X5_workOut rgc_10 rfl hl ⟨⟨Nat.le_of_ble_eq_true rfl, Nat.le_of_ble_eq_true rfl⟩, rfl, Nat.le_of_ble_eq_true rfl, Nat.zero_le _, Nat.zero_le _⟩ rfl dX5_dawnWithoutAny_3) M (fun m_3 H locs hf M => ?_)
  try dsimp only at hf
  refine lv_iconst (v := (0 : Int32)) hx hb dX5_dawnWithoutAny_6 (by decide) ?_
  refine lv_istore_n (lv' := [(2, .int (0 : Int32)), (0, .ref (ad 10)), (1, .int a1)]) hx hb dX5_dawnWithoutAny_7 rfl hl (by decide) rfl (fun ls hl => ?_)
  refine xlp_w hf (fun (x2_8 : Int32) => ∀ (H : Heap) (locs : List Loc) (ls : Array Slot), xS cS 36 G ad s m_3 H locs → lv_has ls 3 [(2, .int x2_8), (0, .ref (ad 10)), (1, .int a1)] → W p l e (rmo 4 94) s m args below meth c H locs 0 0 Q (F0 m 8 ls [])) ?_ _ _ _ M (lv_sub hl [0, 1, 2] rfl)
  intro again8 hagain8 x2_8 hf
  intro H locs ls M hl
  refine lv_iload_n hx hb dX5_dawnWithoutAny_8 rfl (lv_at hl 0 rfl) ?_
  refine lv_bipush (v := (60 : Int32)) hx hb dX5_dawnWithoutAny_9 (by decide) ?_
  refine lv_icmp_gt (tgt := 31) hx hb dX5_dawnWithoutAny_11 (by decide) (fun c_11 => ?_) (fun c_11 => ?_)
  · replace hf := hf.1 c_11
    refine lv_bipush (v := (61 : Int32)) hx hb dX5_dawnWithoutAny_31 (by decide) ?_
    rw [hQ]
    exact x_iret X M hr hlk dX5_dawnWithoutAny_33 hf
  · replace hf := hf.2 c_11
    refine lv_aload_n hx hb dX5_dawnWithoutAny_14 rfl (lv_at hl 1 rfl) ?_
    refine lv_iload_n hx hb dX5_dawnWithoutAny_15 rfl (lv_at hl 2 rfl) ?_
    refine lv_iload_n hx hb dX5_dawnWithoutAny_16 rfl (lv_at hl 0 rfl) ?_
    refine x_ciP (x_rV (As := [.int a1, .int x2_8]) (rest := []) X M (cm_X5_sumOf l G ad hI n a1 x2_8 m_3 _ hf) mc_X5_sumOf mv_X5_sumOf lk_X5_103 mn_X5_sumOf rgc_10 rfl hl ⟨⟨Nat.le_of_ble_eq_true rfl, Nat.le_of_ble_eq_true rfl⟩, rfl, Nat.le_of_ble_eq_true rfl, Nat.zero_le _, Nat.zero_le _⟩ rfl dX5_dawnWithoutAny_17) M (fun r_17 H locs hf M => ?_)
    try dsimp only at hf
    refine lv_if_ne (tgt := 25) hx hb dX5_dawnWithoutAny_20 (by decide) (fun c_20 => ?_) (fun c_20 => ?_)
    · replace hf := hf.1 c_20
      obtain ⟨x2_25, ex2_25⟩ : ∃ y : Int32, y = x2_8 + 1 := ⟨_, rfl⟩
      replace hf := hf x2_25 ex2_25
      refine lv_iinc (v := x2_25) (lv' := [(2, .int x2_25), (0, .ref (ad 10)), (1, .int a1)]) hx hb dX5_dawnWithoutAny_25 hl (k := 0) rfl (by rw [ex2_25]; rfl) (by decide) rfl (fun ls hl => ?_)
      refine lv_goto (tgt := 8) hx hb dX5_dawnWithoutAny_28 (by decide) ?_
      exact hagain8 x2_25 hf _ _ _ M (lv_sub hl [0, 1, 2] rfl)
    · replace hf := hf.2 c_20
      refine lv_iload_n hx hb dX5_dawnWithoutAny_23 rfl (lv_at hl 0 rfl) ?_
      rw [hQ]
      exact x_iret X M hr hlk dX5_dawnWithoutAny_24 hf
def wp_X5_likedFirst (n : Nat) (a1 : Int32) (μ : xM) (K : Int32 → xM → Prop) : Prop :=
  wp_X5_workOut n (a1 + (1 : Int32)) μ (fun m_4 : xM => (vp_in a1 60 ∧ K (m_4 16 a1.toNatClampNeg) m_4))
set_option maxHeartbeats 4000000 in
set_option maxRecDepth 100000 in
theorem cm_X5_likedFirst (l : Launch) (G : xG) (ad : Nat → Nat) (hI : xI 36 ad) (n : Nat) (a1 : Int32) (μ : xM) (K : Int32 → xM → Prop) (hf : wp_X5_likedFirst n a1 μ K) : Met l yX5_likedFirst (Cond.code yX5_likedFirst cX5_likedFirst 2 (some .int) :: xw_all) (rmo 4 94) (va_Pc [.ref (ad 10), .int a1] (xPre cS 36 G ad μ)) (xQi cS 36 G ad K) 0 0 (xR 36 ad) := by
  refine x_ent (nL := 2) (own := RX5) (by decide) rfl hI (Nat.le_of_ble_eq_true rfl) ?_
  intro p e s m args below meth c H locs ls Q X hr hlk hQ M hl
  have hx := X.1.1
  have hb := X.1.2.1
  have hown := X.1.2.2.2.1
  have hts := X.1.2.2.2.2
  have hl : lv_has ls 2 [(0, .ref (ad 10)), (1, .int a1)] := hl
  unfold wp_X5_likedFirst at hf
  refine lv_aload_n hx hb dX5_likedFirst_0 rfl (lv_at hl 0 rfl) ?_
  refine lv_iload_n hx hb dX5_likedFirst_1 rfl (lv_at hl 1 rfl) ?_
  refine lv_iconst (v := (1 : Int32)) hx hb dX5_likedFirst_2 (by decide) ?_
  refine lv_iadd hx hb dX5_likedFirst_3 ?_
  refine x_cv (x_rV (As := [.int (a1 + (1 : Int32))]) (rest := []) X M (cm_X5_workOut l G ad hI n (a1 + (1 : Int32)) μ _ hf) mc_X5_workOut mv_X5_workOut lk_X5_100 mn_X5_workOut rgc_10 rfl hl ⟨⟨Nat.le_of_ble_eq_true rfl, Nat.le_of_ble_eq_true rfl⟩, rfl, Nat.le_of_ble_eq_true rfl, Nat.zero_le _, Nat.zero_le _⟩ rfl dX5_likedFirst_4) M (fun m_4 H locs hf M => ?_)
  try dsimp only at hf
  refine lv_aload_n hx hb dX5_likedFirst_7 rfl (lv_at hl 0 rfl) ?_
  refine x_getR (r := 16) X M rgc_10 fd_X5_31 rfl dX5_likedFirst_8 ?_
  refine lv_iload_n hx hb dX5_likedFirst_11 rfl (lv_at hl 1 rfl) ?_
  obtain ⟨g_12, hf⟩ := hf
  refine x_ild X M rgc_16 g_12 dX5_likedFirst_12 ?_
  rw [hQ]
  exact x_iret X M hr hlk dX5_likedFirst_13 hf
def wp_X5_longestLasting (n : Nat)  (μ : xM) (K : Int32 → xM → Prop) : Prop :=
  xlp (fun (again6 : (Int32 × Int32 × Int32 × xM) → Prop) => fun (s_ : Int32 × Int32 × Int32 × xM) => match s_ with | (x3_6, x2_6, x1_6, m_6) => (((m_6 10 6) ≤ x3_6 → K x1_6 m_6) ∧ (¬ (m_6 10 6) ≤ x3_6 → wp_X5_dawnWithoutAny n x3_6 m_6 (fun (r_16 : Int32) (m_16 : xM) => ((r_16 ≤ x2_6 → (∀ x3_32 : Int32, x3_32 = x3_6 + 1 → again6 (x3_32, x2_6, x1_6, m_16))) ∧ (¬ r_16 ≤ x2_6 → (∀ x3_32 : Int32, x3_32 = x3_6 + 1 → again6 (x3_32, r_16, x3_6, m_16)))))))) n ((0 : Int32), (0 : Int32), (0 : Int32), μ)
set_option maxHeartbeats 4000000 in
set_option maxRecDepth 100000 in
theorem cm_X5_longestLasting (l : Launch) (G : xG) (ad : Nat → Nat) (hI : xI 36 ad) (n : Nat)  (μ : xM) (K : Int32 → xM → Prop) (hf : wp_X5_longestLasting n μ K) : Met l yX5_longestLasting (Cond.code yX5_longestLasting cX5_longestLasting 5 (some .int) :: xw_all) (rmo 5 116) (va_Pc [.ref (ad 10)] (xPre cS 36 G ad μ)) (xQi cS 36 G ad K) 0 0 (xR 36 ad) := by
  refine x_ent (nL := 5) (own := RX5) (by decide) rfl hI (Nat.le_of_ble_eq_true rfl) ?_
  intro p e s m args below meth c H locs ls Q X hr hlk hQ M hl
  have hx := X.1.1
  have hb := X.1.2.1
  have hown := X.1.2.2.2.1
  have hts := X.1.2.2.2.2
  have hl : lv_has ls 5 [(0, .ref (ad 10))] := hl
  unfold wp_X5_longestLasting at hf
  refine lv_iconst (v := (0 : Int32)) hx hb dX5_longestLasting_0 (by decide) ?_
  refine lv_istore_n (lv' := [(1, .int (0 : Int32)), (0, .ref (ad 10))]) hx hb dX5_longestLasting_1 rfl hl (by decide) rfl (fun ls hl => ?_)
  refine lv_iconst (v := (0 : Int32)) hx hb dX5_longestLasting_2 (by decide) ?_
  refine lv_istore_n (lv' := [(2, .int (0 : Int32)), (1, .int (0 : Int32)), (0, .ref (ad 10))]) hx hb dX5_longestLasting_3 rfl hl (by decide) rfl (fun ls hl => ?_)
  refine lv_iconst (v := (0 : Int32)) hx hb dX5_longestLasting_4 (by decide) ?_
  refine lv_istore_n (lv' := [(3, .int (0 : Int32)), (2, .int (0 : Int32)), (1, .int (0 : Int32)), (0, .ref (ad 10))]) hx hb dX5_longestLasting_5 rfl hl (by decide) rfl (fun ls hl => ?_)
  refine xlp_w hf (fun (s_ : Int32 × Int32 × Int32 × xM) => match s_ with | (x3_6, x2_6, x1_6, m_6) => ∀ (H : Heap) (locs : List Loc) (ls : Array Slot), xS cS 36 G ad s m_6 H locs → lv_has ls 5 [(3, .int x3_6), (2, .int x2_6), (1, .int x1_6), (0, .ref (ad 10))] → W p l e (rmo 5 116) s m args below meth c H locs 0 0 Q (F0 m 6 ls [])) ?_ _ _ _ M (lv_sub hl [0, 1, 2, 3] rfl)
  intro again6 hagain6 s_ hf
  obtain ⟨x3_6, x2_6, x1_6, m_6⟩ := s_
  try dsimp only at hf ⊢
  intro H locs ls M hl
  refine lv_iload_n hx hb dX5_longestLasting_6 rfl (lv_at hl 0 rfl) ?_
  refine lv_aload_n hx hb dX5_longestLasting_7 rfl (lv_at hl 3 rfl) ?_
  refine x_getI X M rgc_10 fd_X5_34 rfl dX5_longestLasting_8 ?_
  refine lv_icmp_ge (tgt := 38) hx hb dX5_longestLasting_11 (by decide) (fun c_11 => ?_) (fun c_11 => ?_)
  · replace hf := hf.1 c_11
    refine lv_iload_n hx hb dX5_longestLasting_38 rfl (lv_at hl 2 rfl) ?_
    rw [hQ]
    exact x_iret X M hr hlk dX5_longestLasting_39 hf
  · replace hf := hf.2 c_11
    refine lv_aload_n hx hb dX5_longestLasting_14 rfl (lv_at hl 3 rfl) ?_
    refine lv_iload_n hx hb dX5_longestLasting_15 rfl (lv_at hl 0 rfl) ?_
    refine x_ci (x_rV (As := [.int x3_6]) (rest := []) X M (cm_X5_dawnWithoutAny l G ad hI n x3_6 m_6 _ hf) mc_X5_dawnWithoutAny mv_X5_dawnWithoutAny lk_X5_116 mn_X5_dawnWithoutAny rgc_10 rfl hl ⟨⟨Nat.le_of_ble_eq_true rfl, Nat.le_of_ble_eq_true rfl⟩, rfl, Nat.le_of_ble_eq_true rfl, Nat.zero_le _, Nat.zero_le _⟩ rfl dX5_longestLasting_16) M (fun r_16 m_16 H locs hf M => ?_)
    try dsimp only at hf
    refine lv_istore (lv' := [(4, .int r_16), (3, .int x3_6), (2, .int x2_6), (1, .int x1_6), (0, .ref (ad 10))]) hx hb dX5_longestLasting_19 hl (by decide) rfl (fun ls hl => ?_)
    refine lv_iload hx hb dX5_longestLasting_21 (lv_at hl 0 rfl) ?_
    refine lv_iload_n hx hb dX5_longestLasting_23 rfl (lv_at hl 2 rfl) ?_
    refine lv_icmp_le (tgt := 32) hx hb dX5_longestLasting_24 (by decide) (fun c_24 => ?_) (fun c_24 => ?_)
    · replace hf := hf.1 c_24
      obtain ⟨x3_32, ex3_32⟩ : ∃ y : Int32, y = x3_6 + 1 := ⟨_, rfl⟩
      replace hf := hf x3_32 ex3_32
      refine lv_iinc (v := x3_32) (lv' := [(3, .int x3_32), (4, .int r_16), (2, .int x2_6), (1, .int x1_6), (0, .ref (ad 10))]) hx hb dX5_longestLasting_32 hl (k := 1) rfl (by rw [ex3_32]; rfl) (by decide) rfl (fun ls hl => ?_)
      refine lv_goto (tgt := 6) hx hb dX5_longestLasting_35 (by decide) ?_
      exact hagain6 (x3_32, x2_6, x1_6, m_16) hf _ _ _ M (lv_sub hl [0, 2, 3, 4] rfl)
    · replace hf := hf.2 c_24
      refine lv_iload_n hx hb dX5_longestLasting_27 rfl (lv_at hl 1 rfl) ?_
      refine lv_istore_n (lv' := [(1, .int x3_6), (4, .int r_16), (3, .int x3_6), (2, .int x2_6), (0, .ref (ad 10))]) hx hb dX5_longestLasting_28 rfl hl (by decide) rfl (fun ls hl => ?_)
      refine lv_iload hx hb dX5_longestLasting_29 (lv_at hl 1 rfl) ?_
      refine lv_istore_n (lv' := [(2, .int r_16), (1, .int x3_6), (4, .int r_16), (3, .int x3_6), (0, .ref (ad 10))]) hx hb dX5_longestLasting_31 rfl hl (by decide) rfl (fun ls hl => ?_)
      obtain ⟨x3_32, ex3_32⟩ : ∃ y : Int32, y = x3_6 + 1 := ⟨_, rfl⟩
      replace hf := hf x3_32 ex3_32
      refine lv_iinc (v := x3_32) (lv' := [(3, .int x3_32), (2, .int r_16), (1, .int x3_6), (4, .int r_16), (0, .ref (ad 10))]) hx hb dX5_longestLasting_32 hl (k := 3) rfl (by rw [ex3_32]; rfl) (by decide) rfl (fun ls hl => ?_)
      refine lv_goto (tgt := 6) hx hb dX5_longestLasting_35 (by decide) ?_
      exact hagain6 (x3_32, r_16, x3_6, m_16) hf _ _ _ M (lv_sub hl [0, 1, 2, 4] rfl)
def wp_X5_apart (n : Nat) (a1 : Int32) (k2 : Nat) (a3 : Int32) (a4 : Int32) (μ : xM) (K : Int32 → xM → Prop) : Prop :=
  wp_X5_workOut n a4 μ (fun m_3 : xM => xlp (fun (again12 : (Int32 × Int32) → Prop) => fun (s_ : Int32 × Int32) => match s_ with | (x6_12, x5_12) => (((3 : Int32) ≤ x6_12 → K x5_12 m_3) ∧ (¬ (3 : Int32) ≤ x6_12 → wp_X5_placeOf n a1 x6_12 a4 m_3 (fun r_29 : Int32 => (vp_in r_29 1281 ∧ (vp_in (a3 + x6_12) 60 ∧ (∀ r_43 : Int32, r_43 = (if 0 ≤ ((m_3 14 r_29.toNatClampNeg) - (m_3 (6 + k2) (a3 + x6_12).toNatClampNeg)) then ((m_3 14 r_29.toNatClampNeg) - (m_3 (6 + k2) (a3 + x6_12).toNatClampNeg)) else 0 - ((m_3 14 r_29.toNatClampNeg) - (m_3 (6 + k2) (a3 + x6_12).toNatClampNeg))) → (∀ x5_47 : Int32, x5_47 = x5_12 + r_43 → (∀ x6_49 : Int32, x6_49 = x6_12 + 1 → again12 (x6_49, x5_47)))))))))) n ((0 : Int32), (0 : Int32)))
set_option maxHeartbeats 4000000 in
set_option maxRecDepth 100000 in
theorem cm_X5_apart (l : Launch) (G : xG) (ad : Nat → Nat) (hI : xI 36 ad) (n : Nat) (a1 : Int32) (k2 : Nat) (hk2 : k2 < 4) (a3 : Int32) (a4 : Int32) (μ : xM) (K : Int32 → xM → Prop) (hf : wp_X5_apart n a1 k2 a3 a4 μ K) : Met l yX5_apart (Cond.code yX5_apart cX5_apart 7 (some .int) :: xw_all) (rmo 4 94) (va_Pc [.ref (ad 10), .int a1, .ref (ad (2 + k2)), .int a3, .int a4] (xPre cS 36 G ad μ)) (xQi cS 36 G ad K) 0 0 (xR 36 ad) := by
  refine x_ent (nL := 7) (own := RX5) (by decide) rfl hI (Nat.le_of_ble_eq_true rfl) ?_
  intro p e s m args below meth c H locs ls Q X hr hlk hQ M hl
  have hx := X.1.1
  have hb := X.1.2.1
  have hown := X.1.2.2.2.1
  have hts := X.1.2.2.2.2
  have hl : lv_has ls 7 [(0, .ref (ad 10)), (1, .int a1), (2, .ref (ad (2 + k2))), (3, .int a3), (4, .int a4)] := hl
  unfold wp_X5_apart at hf
  refine lv_aload_n hx hb dX5_apart_0 rfl (lv_at hl 0 rfl) ?_
  refine lv_iload hx hb dX5_apart_1 (lv_at hl 4 rfl) ?_
  refine x_cv (x_rV (As := [.int a4]) (rest := []) X M (cm_X5_workOut l G ad hI n a4 μ _ hf) mc_X5_workOut mv_X5_workOut lk_X5_100 mn_X5_workOut rgc_10 rfl hl ⟨⟨Nat.le_of_ble_eq_true rfl, Nat.le_of_ble_eq_true rfl⟩, rfl, Nat.le_of_ble_eq_true rfl, Nat.zero_le _, Nat.zero_le _⟩ rfl dX5_apart_3) M (fun m_3 H locs hf M => ?_)
  try dsimp only at hf
  refine lv_iconst (v := (0 : Int32)) hx hb dX5_apart_6 (by decide) ?_
  refine lv_istore (lv' := [(5, .int (0 : Int32)), (0, .ref (ad 10)), (1, .int a1), (2, .ref (ad (2 + k2))), (3, .int a3), (4, .int a4)]) hx hb dX5_apart_7 hl (by decide) rfl (fun ls hl => ?_)
  refine lv_iconst (v := (0 : Int32)) hx hb dX5_apart_9 (by decide) ?_
  refine lv_istore (lv' := [(6, .int (0 : Int32)), (5, .int (0 : Int32)), (0, .ref (ad 10)), (1, .int a1), (2, .ref (ad (2 + k2))), (3, .int a3), (4, .int a4)]) hx hb dX5_apart_10 hl (by decide) rfl (fun ls hl => ?_)
  refine xlp_w hf (fun (s_ : Int32 × Int32) => match s_ with | (x6_12, x5_12) => ∀ (H : Heap) (locs : List Loc) (ls : Array Slot), xS cS 36 G ad s m_3 H locs → lv_has ls 7 [(6, .int x6_12), (5, .int x5_12), (0, .ref (ad 10)), (1, .int a1), (2, .ref (ad (2 + k2))), (3, .int a3), (4, .int a4)] → W p l e (rmo 4 94) s m args below meth c H locs 0 0 Q (F0 m 12 ls [])) ?_ _ _ _ M (lv_sub hl [0, 1, 2, 3, 4, 5, 6] rfl)
  intro again12 hagain12 s_ hf
  obtain ⟨x6_12, x5_12⟩ := s_
  try dsimp only at hf ⊢
  intro H locs ls M hl
  refine lv_iload hx hb dX5_apart_12 (lv_at hl 0 rfl) ?_
  refine lv_iconst (v := (3 : Int32)) hx hb dX5_apart_14 (by decide) ?_
  refine lv_icmp_ge (tgt := 55) hx hb dX5_apart_15 (by decide) (fun c_15 => ?_) (fun c_15 => ?_)
  · replace hf := hf.1 c_15
    refine lv_iload hx hb dX5_apart_55 (lv_at hl 1 rfl) ?_
    rw [hQ]
    exact x_iret X M hr hlk dX5_apart_57 hf
  · replace hf := hf.2 c_15
    refine lv_iload hx hb dX5_apart_18 (lv_at hl 1 rfl) ?_
    refine lv_aload_n hx hb dX5_apart_20 rfl (lv_at hl 2 rfl) ?_
    refine x_getR (r := 14) X M rgc_10 fd_X5_25 rfl dX5_apart_21 ?_
    refine lv_iload_n hx hb dX5_apart_24 rfl (lv_at hl 3 rfl) ?_
    refine lv_iload hx hb dX5_apart_25 (lv_at hl 0 rfl) ?_
    refine lv_iload hx hb dX5_apart_27 (lv_at hl 6 rfl) ?_
    refine x_ciP (x_rS (As := [.int a1, .int x6_12, .int a4]) (rest := [.ref (ad 14), .int x5_12]) X M (cm_X5_placeOf l G ad hI n a1 x6_12 a4 m_3 _ hf) mc_X5_placeOf ms_X5_placeOf lk_X5_78 mn_X5_placeOf hl ⟨⟨Nat.le_of_ble_eq_true rfl, Nat.le_of_ble_eq_true rfl⟩, rfl, Nat.le_of_ble_eq_true rfl, Nat.zero_le _, Nat.zero_le _⟩ rfl dX5_apart_29) M (fun r_29 H locs hf M => ?_)
    try dsimp only at hf
    obtain ⟨g_32, hf⟩ := hf
    refine x_ild X M rgc_14 g_32 dX5_apart_32 ?_
    refine lv_aload_n hx hb dX5_apart_33 rfl (lv_at hl 4 rfl) ?_
    refine x_getR (r := (6 + k2)) X M (rgc_2 hk2) fd_X5_119 rfl dX5_apart_34 ?_
    refine lv_iload_n hx hb dX5_apart_37 rfl (lv_at hl 5 rfl) ?_
    refine lv_iload hx hb dX5_apart_38 (lv_at hl 0 rfl) ?_
    refine lv_iadd hx hb dX5_apart_40 ?_
    obtain ⟨g_41, hf⟩ := hf
    refine x_ild X M (rgc_6 hk2) g_41 dX5_apart_41 ?_
    refine lv_isub hx hb dX5_apart_42 ?_
    refine x_abs X hl lm_X5_124 ⟨Nat.le_of_ble_eq_true rfl, Nat.le_of_ble_eq_true rfl, Nat.zero_le _, Nat.zero_le _⟩ dX5_apart_43 ?_
    refine lv_topi (fun r_43 er_43 => ?_)
    replace hf := hf r_43 er_43
    refine lv_iadd hx hb dX5_apart_46 ?_
    refine lv_topi (fun x5_47 ex5_47 => ?_)
    replace hf := hf x5_47 ex5_47
    refine lv_istore (lv' := [(5, .int x5_47), (6, .int x6_12), (0, .ref (ad 10)), (1, .int a1), (2, .ref (ad (2 + k2))), (3, .int a3), (4, .int a4)]) hx hb dX5_apart_47 hl (by decide) rfl (fun ls hl => ?_)
    obtain ⟨x6_49, ex6_49⟩ : ∃ y : Int32, y = x6_12 + 1 := ⟨_, rfl⟩
    replace hf := hf x6_49 ex6_49
    refine lv_iinc (v := x6_49) (lv' := [(6, .int x6_49), (5, .int x5_47), (0, .ref (ad 10)), (1, .int a1), (2, .ref (ad (2 + k2))), (3, .int a3), (4, .int a4)]) hx hb dX5_apart_49 hl (k := 1) rfl (by rw [ex6_49]; rfl) (by decide) rfl (fun ls hl => ?_)
    refine lv_goto (tgt := 12) hx hb dX5_apart_52 (by decide) ?_
    exact hagain12 (x6_49, x5_47) hf _ _ _ M (lv_sub hl [0, 1, 2, 3, 4, 5, 6] rfl)
def wp_X5_nearest (n : Nat) (k1 : Nat) (a2 : Int32) (a3 : Int32) (μ : xM) (K : Int32 → xM → Prop) : Prop :=
  xlp (fun (again6 : (Int32 × Int32 × xM) → Prop) => fun (s_ : Int32 × Int32 × xM) => match s_ with | (x5_6, x4_6, m_6) => (((m_6 10 6) ≤ x5_6 → K x4_6 m_6) ∧ (¬ (m_6 10 6) ≤ x5_6 → wp_X5_apart n x5_6 k1 a2 a3 m_6 (fun (r_21 : Int32) (m_21 : xM) => wp_X5_apart n x4_6 k1 a2 a3 m_21 (fun (r_30 : Int32) (m_30 : xM) => ((r_30 ≤ r_21 → (∀ x5_40 : Int32, x5_40 = x5_6 + 1 → again6 (x5_40, x4_6, m_30))) ∧ (¬ r_30 ≤ r_21 → (∀ x5_40 : Int32, x5_40 = x5_6 + 1 → again6 (x5_40, x5_6, m_30))))))))) n ((1 : Int32), (0 : Int32), μ)
set_option maxHeartbeats 4000000 in
set_option maxRecDepth 100000 in
theorem cm_X5_nearest (l : Launch) (G : xG) (ad : Nat → Nat) (hI : xI 36 ad) (n : Nat) (k1 : Nat) (hk1 : k1 < 4) (a2 : Int32) (a3 : Int32) (μ : xM) (K : Int32 → xM → Prop) (hf : wp_X5_nearest n k1 a2 a3 μ K) : Met l yX5_nearest (Cond.code yX5_nearest cX5_nearest 6 (some .int) :: xw_all) (rmo 5 120) (va_Pc [.ref (ad 10), .ref (ad (2 + k1)), .int a2, .int a3] (xPre cS 36 G ad μ)) (xQi cS 36 G ad K) 0 0 (xR 36 ad) := by
  refine x_ent (nL := 6) (own := RX5) (by decide) rfl hI (Nat.le_of_ble_eq_true rfl) ?_
  intro p e s m args below meth c H locs ls Q X hr hlk hQ M hl
  have hx := X.1.1
  have hb := X.1.2.1
  have hown := X.1.2.2.2.1
  have hts := X.1.2.2.2.2
  have hl : lv_has ls 6 [(0, .ref (ad 10)), (1, .ref (ad (2 + k1))), (2, .int a2), (3, .int a3)] := hl
  unfold wp_X5_nearest at hf
  refine lv_iconst (v := (0 : Int32)) hx hb dX5_nearest_0 (by decide) ?_
  refine lv_istore (lv' := [(4, .int (0 : Int32)), (0, .ref (ad 10)), (1, .ref (ad (2 + k1))), (2, .int a2), (3, .int a3)]) hx hb dX5_nearest_1 hl (by decide) rfl (fun ls hl => ?_)
  refine lv_iconst (v := (1 : Int32)) hx hb dX5_nearest_3 (by decide) ?_
  refine lv_istore (lv' := [(5, .int (1 : Int32)), (4, .int (0 : Int32)), (0, .ref (ad 10)), (1, .ref (ad (2 + k1))), (2, .int a2), (3, .int a3)]) hx hb dX5_nearest_4 hl (by decide) rfl (fun ls hl => ?_)
  refine xlp_w hf (fun (s_ : Int32 × Int32 × xM) => match s_ with | (x5_6, x4_6, m_6) => ∀ (H : Heap) (locs : List Loc) (ls : Array Slot), xS cS 36 G ad s m_6 H locs → lv_has ls 6 [(5, .int x5_6), (4, .int x4_6), (0, .ref (ad 10)), (1, .ref (ad (2 + k1))), (2, .int a2), (3, .int a3)] → W p l e (rmo 5 120) s m args below meth c H locs 0 0 Q (F0 m 6 ls [])) ?_ _ _ _ M (lv_sub hl [0, 1, 2, 3, 4, 5] rfl)
  intro again6 hagain6 s_ hf
  obtain ⟨x5_6, x4_6, m_6⟩ := s_
  try dsimp only at hf ⊢
  intro H locs ls M hl
  refine lv_iload hx hb dX5_nearest_6 (lv_at hl 0 rfl) ?_
  refine lv_aload_n hx hb dX5_nearest_8 rfl (lv_at hl 2 rfl) ?_
  refine x_getI X M rgc_10 fd_X5_34 rfl dX5_nearest_9 ?_
  refine lv_icmp_ge (tgt := 46) hx hb dX5_nearest_12 (by decide) (fun c_12 => ?_) (fun c_12 => ?_)
  · replace hf := hf.1 c_12
    refine lv_iload hx hb dX5_nearest_46 (lv_at hl 1 rfl) ?_
    rw [hQ]
    exact x_iret X M hr hlk dX5_nearest_48 hf
  · replace hf := hf.2 c_12
    refine lv_aload_n hx hb dX5_nearest_15 rfl (lv_at hl 2 rfl) ?_
    refine lv_iload hx hb dX5_nearest_16 (lv_at hl 0 rfl) ?_
    refine lv_aload_n hx hb dX5_nearest_18 rfl (lv_at hl 3 rfl) ?_
    refine lv_iload_n hx hb dX5_nearest_19 rfl (lv_at hl 4 rfl) ?_
    refine lv_iload_n hx hb dX5_nearest_20 rfl (lv_at hl 5 rfl) ?_
    refine x_ci (x_rV (As := [.int x5_6, .ref (ad (2 + k1)), .int a2, .int a3]) (rest := []) X M (cm_X5_apart l G ad hI n x5_6 k1 hk1 a2 a3 m_6 _ hf) mc_X5_apart mv_X5_apart lk_X5_127 mn_X5_apart rgc_10 rfl hl ⟨⟨Nat.le_of_ble_eq_true rfl, Nat.le_of_ble_eq_true rfl⟩, rfl, Nat.le_of_ble_eq_true rfl, Nat.zero_le _, Nat.zero_le _⟩ rfl dX5_nearest_21) M (fun r_21 m_21 H locs hf M => ?_)
    try dsimp only at hf
    refine lv_aload_n hx hb dX5_nearest_24 rfl (lv_at hl 2 rfl) ?_
    refine lv_iload hx hb dX5_nearest_25 (lv_at hl 1 rfl) ?_
    refine lv_aload_n hx hb dX5_nearest_27 rfl (lv_at hl 3 rfl) ?_
    refine lv_iload_n hx hb dX5_nearest_28 rfl (lv_at hl 4 rfl) ?_
    refine lv_iload_n hx hb dX5_nearest_29 rfl (lv_at hl 5 rfl) ?_
    refine x_ci (x_rV (As := [.int x4_6, .ref (ad (2 + k1)), .int a2, .int a3]) (rest := [.int r_21]) X M (cm_X5_apart l G ad hI n x4_6 k1 hk1 a2 a3 m_21 _ hf) mc_X5_apart mv_X5_apart lk_X5_127 mn_X5_apart rgc_10 rfl hl ⟨⟨Nat.le_of_ble_eq_true rfl, Nat.le_of_ble_eq_true rfl⟩, rfl, Nat.le_of_ble_eq_true rfl, Nat.zero_le _, Nat.zero_le _⟩ rfl dX5_nearest_30) M (fun r_30 m_30 H locs hf M => ?_)
    try dsimp only at hf
    refine lv_icmp_ge (tgt := 40) hx hb dX5_nearest_33 (by decide) (fun c_33 => ?_) (fun c_33 => ?_)
    · replace hf := hf.1 c_33
      obtain ⟨x5_40, ex5_40⟩ : ∃ y : Int32, y = x5_6 + 1 := ⟨_, rfl⟩
      replace hf := hf x5_40 ex5_40
      refine lv_iinc (v := x5_40) (lv' := [(5, .int x5_40), (4, .int x4_6), (0, .ref (ad 10)), (1, .ref (ad (2 + k1))), (2, .int a2), (3, .int a3)]) hx hb dX5_nearest_40 hl (k := 0) rfl (by rw [ex5_40]; rfl) (by decide) rfl (fun ls hl => ?_)
      refine lv_goto (tgt := 6) hx hb dX5_nearest_43 (by decide) ?_
      exact hagain6 (x5_40, x4_6, m_30) hf _ _ _ M (lv_sub hl [0, 1, 2, 3, 4, 5] rfl)
    · replace hf := hf.2 c_33
      refine lv_iload hx hb dX5_nearest_36 (lv_at hl 0 rfl) ?_
      refine lv_istore (lv' := [(4, .int x5_6), (5, .int x5_6), (0, .ref (ad 10)), (1, .ref (ad (2 + k1))), (2, .int a2), (3, .int a3)]) hx hb dX5_nearest_38 hl (by decide) rfl (fun ls hl => ?_)
      obtain ⟨x5_40, ex5_40⟩ : ∃ y : Int32, y = x5_6 + 1 := ⟨_, rfl⟩
      replace hf := hf x5_40 ex5_40
      refine lv_iinc (v := x5_40) (lv' := [(5, .int x5_40), (4, .int x5_6), (0, .ref (ad 10)), (1, .ref (ad (2 + k1))), (2, .int a2), (3, .int a3)]) hx hb dX5_nearest_40 hl (k := 1) rfl (by rw [ex5_40]; rfl) (by decide) rfl (fun ls hl => ?_)
      refine lv_goto (tgt := 6) hx hb dX5_nearest_43 (by decide) ?_
      exact hagain6 (x5_40, x5_6, m_30) hf _ _ _ M (lv_sub hl [0, 1, 2, 3, 4, 5] rfl)
