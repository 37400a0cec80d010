def wp_X0_dawnWithoutNose (n : Nat) (a1 : Int32) (a2 : Int32) (a3 : Int32) (μ : xM) (K : Int32 → Prop) : Prop :=
  (vp_in a1 7 ∧ (vp_in (0 : Int32) 3 ∧ (∀ x5_15 : Int32, x5_15 = μ (24 + a1.toNatClampNeg) (0 : Int32).toNatClampNeg → xlp (fun (again20 : (Int32 × Int32) → Prop) => fun (s_ : Int32 × Int32) => match s_ with | (x6_20, x5_20) => (((60 : Int32) ≤ x6_20 → K (61 : Int32)) ∧ (¬ (60 : Int32) ≤ x6_20 → (vp_in x6_20 60 ∧ (vp_in x6_20 60 ∧ wp_X3_washedOff n (a1.toNatClampNeg) (0 : Int32) (μ 12 x6_20.toNatClampNeg) (μ 13 x6_20.toNatClampNeg) a2 a3 μ (fun r_48 : Int32 => (∀ x5_52 : Int32, x5_52 = x5_20 - r_48 → ((0 < x5_52 → (∀ x6_64 : Int32, x6_64 = x6_20 + 1 → again20 (x6_64, x5_52))) ∧ (¬ 0 < x5_52 → K (x6_20 + (1 : Int32))))))))))) n ((0 : Int32), x5_15))))
set_option maxHeartbeats 4000000 in
set_option maxRecDepth 100000 in
theorem cm_X0_dawnWithoutNose (l : Launch) (G : xG) (ad : Nat → Nat) (hI : xI 36 ad) (n : Nat) (a1 : Int32) (a2 : Int32) (a3 : Int32) (μ : xM) (K : Int32 → Prop) (hf : wp_X0_dawnWithoutNose n a1 a2 a3 μ K) : Met l yX0_dawnWithoutNose (Cond.code yX0_dawnWithoutNose cX0_dawnWithoutNose 7 (some .int) :: xw_all) (rmo 1 26) (va_Pc [.ref (ad 10), .int a1, .int a2, .int a3] (xPre cS 36 G ad μ)) (xQi cS 36 G ad (fun r u => K r ∧ u = μ)) 0 0 (xR 36 ad) := by
  refine x_ent (nL := 7) (own := RX0) (by decide) rfl hI (Nat.le_of_ble_eq_true rfl) ?_
  intro p e s m args below meth c H locs ls Q X hr hlk hQ M hl
  have hx := X.1.1
  have hb := X.1.2.1
  have hown := X.1.2.2.2.1
  have hts := X.1.2.2.2.2
  have hl : lv_has ls 7 [(0, .ref (ad 10)), (1, .int a1), (2, .int a2), (3, .int a3)] := hl
  unfold wp_X0_dawnWithoutNose at hf
  refine lv_aload_n hx hb dX0_dawnWithoutNose_0 rfl (lv_at hl 0 rfl) ?_
  refine x_getR (r := 11) X M rgc_10 fd_X0_33 rfl dX0_dawnWithoutNose_1 ?_
  refine lv_iload_n hx hb dX0_dawnWithoutNose_4 rfl (lv_at hl 1 rfl) ?_
  obtain ⟨g_5, hf⟩ := hf
  refine x_ald X M rgc_11 rfl g_5 dX0_dawnWithoutNose_5 ?_
  refine lv_astore (lv' := [(4, .ref (ad (17 + a1.toNatClampNeg))), (0, .ref (ad 10)), (1, .int a1), (2, .int a2), (3, .int a3)]) hx hb dX0_dawnWithoutNose_6 hl (by decide) rfl (fun ls hl => ?_)
  refine lv_aload hx hb dX0_dawnWithoutNose_8 (lv_at hl 0 rfl) ?_
  refine x_getR (r := (24 + a1.toNatClampNeg)) X M (rgc_17 (vp_lt g_5)) fd_X0_52 rfl dX0_dawnWithoutNose_10 ?_
  refine lv_iconst (v := (0 : Int32)) hx hb dX0_dawnWithoutNose_13 (by decide) ?_
  obtain ⟨g_14, hf⟩ := hf
  refine x_ild X M (rgc_24 (vp_lt g_5)) g_14 dX0_dawnWithoutNose_14 ?_
  refine lv_topi (fun x5_15 ex5_15 => ?_)
  replace hf := hf x5_15 ex5_15
  refine lv_istore (lv' := [(5, .int x5_15), (4, .ref (ad (17 + a1.toNatClampNeg))), (0, .ref (ad 10)), (1, .int a1), (2, .int a2), (3, .int a3)]) hx hb dX0_dawnWithoutNose_15 hl (by decide) rfl (fun ls hl => ?_)
  refine lv_iconst (v := (0 : Int32)) hx hb dX0_dawnWithoutNose_17 (by decide) ?_
  refine lv_istore (lv' := [(6, .int (0 : Int32)), (5, .int x5_15), (4, .ref (ad (17 + a1.toNatClampNeg))), (0, .ref (ad 10)), (1, .int a1), (2, .int a2), (3, .int a3)]) hx hb dX0_dawnWithoutNose_18 hl (by decide) rfl (fun ls hl => ?_)
  refine xlp_w hf (fun (s_ : Int32 × Int32) => match s_ with | (x6_20, x5_20) => ∀ (H : Heap) (locs : List Loc) (ls : Array Slot), xS cS 36 G ad s μ H locs → lv_has ls 7 [(6, .int x6_20), (5, .int x5_20), (4, .ref (ad (17 + a1.toNatClampNeg))), (0, .ref (ad 10)), (2, .int a2), (3, .int a3)] → W p l e (rmo 1 26) s m args below meth c H locs 0 0 Q (F0 m 20 ls [])) ?_ _ _ _ M (lv_sub hl [0, 1, 2, 3, 5, 6] rfl)
  intro again20 hagain20 s_ hf
  obtain ⟨x6_20, x5_20⟩ := s_
  try dsimp only at hf ⊢
  intro H locs ls M hl
  refine lv_iload hx hb dX0_dawnWithoutNose_20 (lv_at hl 0 rfl) ?_
  refine lv_bipush (v := (60 : Int32)) hx hb dX0_dawnWithoutNose_22 (by decide) ?_
  refine lv_icmp_ge (tgt := 70) hx hb dX0_dawnWithoutNose_24 (by decide) (fun c_24 => ?_) (fun c_24 => ?_)
  · replace hf := hf.1 c_24
    refine lv_bipush (v := (61 : Int32)) hx hb dX0_dawnWithoutNose_70 (by decide) ?_
    rw [hQ]
    exact x_iret X M hr hlk dX0_dawnWithoutNose_72 ⟨hf, rfl⟩
  · replace hf := hf.2 c_24
    refine lv_iload hx hb dX0_dawnWithoutNose_27 (lv_at hl 1 rfl) ?_
    refine lv_aload hx hb dX0_dawnWithoutNose_29 (lv_at hl 2 rfl) ?_
    refine lv_iconst (v := (0 : Int32)) hx hb dX0_dawnWithoutNose_31 (by decide) ?_
    refine lv_aload_n hx hb dX0_dawnWithoutNose_32 rfl (lv_at hl 3 rfl) ?_
    refine x_getR (r := 12) X M rgc_10 fd_X0_56 rfl dX0_dawnWithoutNose_33 ?_
    refine lv_iload hx hb dX0_dawnWithoutNose_36 (lv_at hl 0 rfl) ?_
    obtain ⟨g_38, hf⟩ := hf
    refine x_ild X M rgc_12 g_38 dX0_dawnWithoutNose_38 ?_
    refine lv_aload_n hx hb dX0_dawnWithoutNose_39 rfl (lv_at hl 3 rfl) ?_
    refine x_getR (r := 13) X M rgc_10 fd_X0_59 rfl dX0_dawnWithoutNose_40 ?_
    refine lv_iload hx hb dX0_dawnWithoutNose_43 (lv_at hl 0 rfl) ?_
    obtain ⟨g_45, hf⟩ := hf
    refine x_ild X M rgc_13 g_45 dX0_dawnWithoutNose_45 ?_
    refine lv_iload_n hx hb dX0_dawnWithoutNose_46 rfl (lv_at hl 4 rfl) ?_
    refine lv_iload_n hx hb dX0_dawnWithoutNose_47 rfl (lv_at hl 5 rfl) ?_
    refine x_ciP (x_rVN (As := [.int (0 : Int32), .int (μ 12 x6_20.toNatClampNeg), .int (μ 13 x6_20.toNatClampNeg), .int a2, .int a3]) (rest := [.int x5_20]) X M (cm_X3_washedOff l G ad hI n (a1.toNatClampNeg) (vp_lt g_5) (0 : Int32) (μ 12 x6_20.toNatClampNeg) (μ 13 x6_20.toNatClampNeg) a2 a3 μ _ hf) mc_X3_washedOff mv_X3_washedOff ln_X0_62 mn_X3_washedOff (rgc_17 (vp_lt g_5)) rfl hl ⟨⟨Nat.le_of_ble_eq_true rfl, Nat.le_of_ble_eq_true rfl⟩, rfl, Nat.le_of_ble_eq_true rfl, Nat.zero_le _, Nat.zero_le _⟩ rfl dX0_dawnWithoutNose_48) M (fun r_48 H locs hf M => ?_)
    try dsimp only at hf
    refine lv_isub hx hb dX0_dawnWithoutNose_51 ?_
    refine lv_topi (fun x5_52 ex5_52 => ?_)
    replace hf := hf x5_52 ex5_52
    refine lv_istore (lv' := [(5, .int x5_52), (6, .int x6_20), (4, .ref (ad (17 + a1.toNatClampNeg))), (0, .ref (ad 10)), (2, .int a2), (3, .int a3)]) hx hb dX0_dawnWithoutNose_52 hl (by decide) rfl (fun ls hl => ?_)
    refine lv_iload hx hb dX0_dawnWithoutNose_54 (lv_at hl 0 rfl) ?_
    refine lv_if_gt (tgt := 64) hx hb dX0_dawnWithoutNose_56 (by decide) (fun c_56 => ?_) (fun c_56 => ?_)
    · replace hf := hf.1 c_56
      obtain ⟨x6_64, ex6_64⟩ : ∃ y : Int32, y = x6_20 + 1 := ⟨_, rfl⟩
      replace hf := hf x6_64 ex6_64
      refine lv_iinc (v := x6_64) (lv' := [(6, .int x6_64), (5, .int x5_52), (4, .ref (ad (17 + a1.toNatClampNeg))), (0, .ref (ad 10)), (2, .int a2), (3, .int a3)]) hx hb dX0_dawnWithoutNose_64 hl (k := 1) rfl (by rw [ex6_64]; rfl) (by decide) rfl (fun ls hl => ?_)
      refine lv_goto (tgt := 20) hx hb dX0_dawnWithoutNose_67 (by decide) ?_
      exact hagain20 (x6_64, x5_52) hf _ _ _ M (lv_sub hl [0, 1, 2, 3, 4, 5] rfl)
    · replace hf := hf.2 c_56
      refine lv_iload hx hb dX0_dawnWithoutNose_59 (lv_at hl 1 rfl) ?_
      refine lv_iconst (v := (1 : Int32)) hx hb dX0_dawnWithoutNose_61 (by decide) ?_
      refine lv_iadd hx hb dX0_dawnWithoutNose_62 ?_
      rw [hQ]
      exact x_iret X M hr hlk dX0_dawnWithoutNose_63 ⟨hf, rfl⟩
def wp_X0_lastingUnder (n : Nat) (a1 : Int32) (μ : xM) (K : Int32 → Prop) : Prop :=
  xlp (fun (again4 : (Int32 × Int32) → Prop) => fun (s_ : Int32 × Int32) => match s_ with | (x3_4, x2_4) => (((μ 10 6) ≤ x3_4 → K x2_4) ∧ (¬ (μ 10 6) ≤ x3_4 → (vp_in x3_4 7 ∧ wp_X0_dawnWithoutNose n x3_4 (μ (17 + x3_4.toNatClampNeg) 2) a1 μ (fun r_24 : Int32 => ((¬ r_24 = (61 : Int32) → (∀ x3_38 : Int32, x3_38 = x3_4 + 1 → again4 (x3_38, x2_4))) ∧ (r_24 = (61 : Int32) → (∀ x2_37 : Int32, x2_37 = x2_4 ||| ((1 : Int32) <<< (x3_4 &&& 31)) → (∀ x3_38 : Int32, x3_38 = x3_4 + 1 → again4 (x3_38, x2_37)))))))))) n ((0 : Int32), (0 : Int32))
set_option maxHeartbeats 4000000 in
set_option maxRecDepth 100000 in
theorem cm_X0_lastingUnder (l : Launch) (G : xG) (ad : Nat → Nat) (hI : xI 36 ad) (n : Nat) (a1 : Int32) (μ : xM) (K : Int32 → Prop) (hf : wp_X0_lastingUnder n a1 μ K) : Met l yX0_lastingUnder (Cond.code yX0_lastingUnder cX0_lastingUnder 4 (some .int) :: xw_all) (rmo 2 52) (va_Pc [.ref (ad 10), .int a1] (xPre cS 36 G ad μ)) (xQi cS 36 G ad (fun r u => K r ∧ u = μ)) 0 0 (xR 36 ad) := by
  refine x_ent (nL := 4) (own := RX0) (by decide) rfl hI (Nat.le_of_ble_eq_true rfl) ?_
  intro p e s m args below meth c H locs ls Q X hr hlk hQ M hl
  have hx := X.1.1
  have hb := X.1.2.1
  have hown := X.1.2.2.2.1
  have hts := X.1.2.2.2.2
  have hl : lv_has ls 4 [(0, .ref (ad 10)), (1, .int a1)] := hl
  unfold wp_X0_lastingUnder at hf
  refine lv_iconst (v := (0 : Int32)) hx hb dX0_lastingUnder_0 (by decide) ?_
  refine lv_istore_n (lv' := [(2, .int (0 : Int32)), (0, .ref (ad 10)), (1, .int a1)]) hx hb dX0_lastingUnder_1 rfl hl (by decide) rfl (fun ls hl => ?_)
  refine lv_iconst (v := (0 : Int32)) hx hb dX0_lastingUnder_2 (by decide) ?_
  refine lv_istore_n (lv' := [(3, .int (0 : Int32)), (2, .int (0 : Int32)), (0, .ref (ad 10)), (1, .int a1)]) hx hb dX0_lastingUnder_3 rfl hl (by decide) rfl (fun ls hl => ?_)
  refine xlp_w hf (fun (s_ : Int32 × Int32) => match s_ with | (x3_4, x2_4) => ∀ (H : Heap) (locs : List Loc) (ls : Array Slot), xS cS 36 G ad s μ H locs → lv_has ls 4 [(3, .int x3_4), (2, .int x2_4), (0, .ref (ad 10)), (1, .int a1)] → W p l e (rmo 2 52) s m args below meth c H locs 0 0 Q (F0 m 4 ls [])) ?_ _ _ _ M (lv_sub hl [0, 1, 2, 3] rfl)
  intro again4 hagain4 s_ hf
  obtain ⟨x3_4, x2_4⟩ := s_
  try dsimp only at hf ⊢
  intro H locs ls M hl
  refine lv_iload_n hx hb dX0_lastingUnder_4 rfl (lv_at hl 0 rfl) ?_
  refine lv_aload_n hx hb dX0_lastingUnder_5 rfl (lv_at hl 2 rfl) ?_
  refine x_getI X M rgc_10 fd_X0_15 rfl dX0_lastingUnder_6 ?_
  refine lv_icmp_ge (tgt := 44) hx hb dX0_lastingUnder_9 (by decide) (fun c_9 => ?_) (fun c_9 => ?_)
  · replace hf := hf.1 c_9
    refine lv_iload_n hx hb dX0_lastingUnder_44 rfl (lv_at hl 1 rfl) ?_
    rw [hQ]
    exact x_iret X M hr hlk dX0_lastingUnder_45 ⟨hf, rfl⟩
  · replace hf := hf.2 c_9
    refine lv_aload_n hx hb dX0_lastingUnder_12 rfl (lv_at hl 2 rfl) ?_
    refine lv_iload_n hx hb dX0_lastingUnder_13 rfl (lv_at hl 0 rfl) ?_
    refine lv_aload_n hx hb dX0_lastingUnder_14 rfl (lv_at hl 2 rfl) ?_
    refine x_getR (r := 11) X M rgc_10 fd_X0_33 rfl dX0_lastingUnder_15 ?_
    refine lv_iload_n hx hb dX0_lastingUnder_18 rfl (lv_at hl 0 rfl) ?_
    obtain ⟨g_19, hf⟩ := hf
    refine x_ald X M rgc_11 rfl g_19 dX0_lastingUnder_19 ?_
    refine x_getI X M (rgc_17 (vp_lt g_19)) fd_X0_37 rfl dX0_lastingUnder_20 ?_
    refine lv_iload_n hx hb dX0_lastingUnder_23 rfl (lv_at hl 3 rfl) ?_
    refine x_ciP (x_rS (As := [.ref (ad 10), .int x3_4, .int (μ (17 + x3_4.toNatClampNeg) 2), .int a1]) (rest := []) X M (cm_X0_dawnWithoutNose l G ad hI n x3_4 (μ (17 + x3_4.toNatClampNeg) 2) a1 μ _ hf) mc_X0_dawnWithoutNose ms_X0_dawnWithoutNose lk_X0_42 mn_X0_dawnWithoutNose hl ⟨⟨Nat.le_of_ble_eq_true rfl, Nat.le_of_ble_eq_true rfl⟩, rfl, Nat.le_of_ble_eq_true rfl, Nat.zero_le _, Nat.zero_le _⟩ rfl dX0_lastingUnder_24) M (fun r_24 H locs hf M => ?_)
    try dsimp only at hf
    refine lv_bipush (v := (61 : Int32)) hx hb dX0_lastingUnder_27 (by decide) ?_
    refine lv_icmp_ne (tgt := 38) hx hb dX0_lastingUnder_29 (by decide) (fun c_29 => ?_) (fun c_29 => ?_)
    · replace hf := hf.1 c_29
      obtain ⟨x3_38, ex3_38⟩ : ∃ y : Int32, y = x3_4 + 1 := ⟨_, rfl⟩
      replace hf := hf x3_38 ex3_38
      refine lv_iinc (v := x3_38) (lv' := [(3, .int x3_38), (2, .int x2_4), (0, .ref (ad 10)), (1, .int a1)]) hx hb dX0_lastingUnder_38 hl (k := 0) rfl (by rw [ex3_38]; rfl) (by decide) rfl (fun ls hl => ?_)
      refine lv_goto (tgt := 4) hx hb dX0_lastingUnder_41 (by decide) ?_
      exact hagain4 (x3_38, x2_4) hf _ _ _ M (lv_sub hl [0, 1, 2, 3] rfl)
    · replace hf := hf.2 c_29
      refine lv_iload_n hx hb dX0_lastingUnder_32 rfl (lv_at hl 1 rfl) ?_
      refine lv_iconst (v := (1 : Int32)) hx hb dX0_lastingUnder_33 (by decide) ?_
      refine lv_iload_n hx hb dX0_lastingUnder_34 rfl (lv_at hl 0 rfl) ?_
      refine lv_ishl hx hb dX0_lastingUnder_35 ?_
      refine lv_ior hx hb dX0_lastingUnder_36 ?_
      refine lv_topi (fun x2_37 ex2_37 => ?_)
      replace hf := hf x2_37 ex2_37
      refine lv_istore_n (lv' := [(2, .int x2_37), (3, .int x3_4), (0, .ref (ad 10)), (1, .int a1)]) hx hb dX0_lastingUnder_37 rfl hl (by decide) rfl (fun ls hl => ?_)
      obtain ⟨x3_38, ex3_38⟩ : ∃ y : Int32, y = x3_4 + 1 := ⟨_, rfl⟩
      replace hf := hf x3_38 ex3_38
      refine lv_iinc (v := x3_38) (lv' := [(3, .int x3_38), (2, .int x2_37), (0, .ref (ad 10)), (1, .int a1)]) hx hb dX0_lastingUnder_38 hl (k := 1) rfl (by rw [ex3_38]; rfl) (by decide) rfl (fun ls hl => ?_)
      refine lv_goto (tgt := 4) hx hb dX0_lastingUnder_41 (by decide) ?_
      exact hagain4 (x3_38, x2_37) hf _ _ _ M (lv_sub hl [0, 1, 2, 3] rfl)
def wp_X0_giveUmbrellas (n : Nat) (a1 : Int32) (a2 : Int32) (μ : xM) (K : Int32 → Prop) : Prop :=
  wp_X0_lastingUnder n (0 : Int32) μ (fun r_2 : Int32 => wp_X0_lastingUnder n (1 : Int32) μ (fun r_8 : Int32 => (∀ r_18 : Int32, r_18 = (if (μ 10 6) < a1 then (μ 10 6) else a1) → xlp (fun (again32 : (Int32 × Int32 × Int32) → Prop) => fun (s_ : Int32 × Int32 × Int32) => match s_ with | (x8_32, x7_32, x6_32) => ((((1 : Int32) <<< ((μ 10 6) &&& 31)) ≤ x8_32 → ((¬ a2 = 0 → K x7_32) ∧ (a2 = 0 → K x6_32))) ∧ (¬ ((1 : Int32) <<< ((μ 10 6) &&& 31)) ≤ x8_32 → wp_J6_bitCount_0f7a4 n ((x8_32 &&& r_8) ||| (r_2 &&& (x8_32 ^^^ ((-1) : Int32)))) μ (fun r_55 : Int32 => wp_J6_bitCount_0f7a4 n x8_32 μ (fun r_62 : Int32 => ((¬ r_62 = r_18 → (∀ x8_85 : Int32, x8_85 = x8_32 + 1 → again32 (x8_85, x7_32, x6_32))) ∧ (r_62 = r_18 → ((r_55 ≤ x7_32 → (∀ x8_85 : Int32, x8_85 = x8_32 + 1 → again32 (x8_85, x7_32, x6_32))) ∧ (¬ r_55 ≤ x7_32 → (∀ x8_85 : Int32, x8_85 = x8_32 + 1 → again32 (x8_85, r_55, x8_32))))))))))) n ((0 : Int32), ((-1) : Int32), (0 : Int32)))))
set_option maxHeartbeats 4000000 in
set_option maxRecDepth 100000 in
theorem cm_X0_giveUmbrellas (l : Launch) (G : xG) (ad : Nat → Nat) (hI : xI 36 ad) (n : Nat) (a1 : Int32) (a2 : Int32) (μ : xM) (K : Int32 → Prop) (hf : wp_X0_giveUmbrellas n a1 a2 μ K) : Met l yX0_giveUmbrellas (Cond.code yX0_giveUmbrellas cX0_giveUmbrellas 10 (some .int) :: xw_all) (rmo 3 75) (va_Pc [.ref (ad 10), .int a1, .int a2] (xPre cS 36 G ad μ)) (xQi cS 36 G ad (fun r u => K r ∧ u = μ)) 0 0 (xR 36 ad) := by
  refine x_ent (nL := 10) (own := RX0) (by decide) rfl hI (Nat.le_of_ble_eq_true rfl) ?_
  intro p e s m args below meth c H locs ls Q X hr hlk hQ M hl
  have hx := X.1.1
  have hb := X.1.2.1
  have hown := X.1.2.2.2.1
  have hts := X.1.2.2.2.2
  have hl : lv_has ls 10 [(0, .ref (ad 10)), (1, .int a1), (2, .int a2)] := hl
  unfold wp_X0_giveUmbrellas at hf
  refine lv_aload_n hx hb dX0_giveUmbrellas_0 rfl (lv_at hl 0 rfl) ?_
  refine lv_iconst (v := (0 : Int32)) hx hb dX0_giveUmbrellas_1 (by decide) ?_
  refine x_ciP (x_rS (As := [.ref (ad 10), .int (0 : Int32)]) (rest := []) X M (cm_X0_lastingUnder l G ad hI n (0 : Int32) μ _ hf) mc_X0_lastingUnder ms_X0_lastingUnder lk_X0_9 mn_X0_lastingUnder hl ⟨⟨Nat.le_of_ble_eq_true rfl, Nat.le_of_ble_eq_true rfl⟩, rfl, Nat.le_of_ble_eq_true rfl, Nat.zero_le _, Nat.zero_le _⟩ rfl dX0_giveUmbrellas_2) M (fun r_2 H locs hf M => ?_)
  try dsimp only at hf
  refine lv_istore_n (lv' := [(3, .int r_2), (0, .ref (ad 10)), (1, .int a1), (2, .int a2)]) hx hb dX0_giveUmbrellas_5 rfl hl (by decide) rfl (fun ls hl => ?_)
  refine lv_aload_n hx hb dX0_giveUmbrellas_6 rfl (lv_at hl 1 rfl) ?_
  refine lv_iconst (v := (1 : Int32)) hx hb dX0_giveUmbrellas_7 (by decide) ?_
  refine x_ciP (x_rS (As := [.ref (ad 10), .int (1 : Int32)]) (rest := []) X M (cm_X0_lastingUnder l G ad hI n (1 : Int32) μ _ hf) mc_X0_lastingUnder ms_X0_lastingUnder lk_X0_9 mn_X0_lastingUnder hl ⟨⟨Nat.le_of_ble_eq_true rfl, Nat.le_of_ble_eq_true rfl⟩, rfl, Nat.le_of_ble_eq_true rfl, Nat.zero_le _, Nat.zero_le _⟩ rfl dX0_giveUmbrellas_8) M (fun r_8 H locs hf M => ?_)
  try dsimp only at hf
  refine lv_istore (lv' := [(4, .int r_8), (3, .int r_2), (0, .ref (ad 10)), (1, .int a1), (2, .int a2)]) hx hb dX0_giveUmbrellas_11 hl (by decide) rfl (fun ls hl => ?_)
  refine lv_iload_n hx hb dX0_giveUmbrellas_13 rfl (lv_at hl 3 rfl) ?_
  refine lv_aload_n hx hb dX0_giveUmbrellas_14 rfl (lv_at hl 2 rfl) ?_
  refine x_getI X M rgc_10 fd_X0_15 rfl dX0_giveUmbrellas_15 ?_
  refine x_min X hl lm_X0_21 ⟨Nat.le_of_ble_eq_true rfl, Nat.le_of_ble_eq_true rfl, Nat.zero_le _, Nat.zero_le _⟩ dX0_giveUmbrellas_18 ?_
  refine lv_topi (fun r_18 er_18 => ?_)
  replace hf := hf r_18 er_18
  refine lv_istore (lv' := [(5, .int r_18), (4, .int r_8), (3, .int r_2), (0, .ref (ad 10)), (1, .int a1), (2, .int a2)]) hx hb dX0_giveUmbrellas_21 hl (by decide) rfl (fun ls hl => ?_)
  refine lv_iconst (v := (0 : Int32)) hx hb dX0_giveUmbrellas_23 (by decide) ?_
  refine lv_istore (lv' := [(6, .int (0 : Int32)), (5, .int r_18), (4, .int r_8), (3, .int r_2), (0, .ref (ad 10)), (1, .int a1), (2, .int a2)]) hx hb dX0_giveUmbrellas_24 hl (by decide) rfl (fun ls hl => ?_)
  refine lv_iconst (v := ((-1) : Int32)) hx hb dX0_giveUmbrellas_26 (by decide) ?_
  refine lv_istore (lv' := [(7, .int ((-1) : Int32)), (6, .int (0 : Int32)), (5, .int r_18), (4, .int r_8), (3, .int r_2), (0, .ref (ad 10)), (1, .int a1), (2, .int a2)]) hx hb dX0_giveUmbrellas_27 hl (by decide) rfl (fun ls hl => ?_)
  refine lv_iconst (v := (0 : Int32)) hx hb dX0_giveUmbrellas_29 (by decide) ?_
  refine lv_istore (lv' := [(8, .int (0 : Int32)), (7, .int ((-1) : Int32)), (6, .int (0 : Int32)), (5, .int r_18), (4, .int r_8), (3, .int r_2), (0, .ref (ad 10)), (1, .int a1), (2, .int a2)]) hx hb dX0_giveUmbrellas_30 hl (by decide) rfl (fun ls hl => ?_)
  refine xlp_w hf (fun (s_ : Int32 × Int32 × Int32) => match s_ with | (x8_32, x7_32, x6_32) => ∀ (H : Heap) (locs : List Loc) (ls : Array Slot), xS cS 36 G ad s μ H locs → lv_has ls 10 [(8, .int x8_32), (7, .int x7_32), (6, .int x6_32), (5, .int r_18), (4, .int r_8), (3, .int r_2), (0, .ref (ad 10)), (2, .int a2)] → W p l e (rmo 3 75) s m args below meth c H locs 0 0 Q (F0 m 32 ls [])) ?_ _ _ _ M (lv_sub hl [0, 1, 2, 3, 4, 5, 6, 8] rfl)
  intro again32 hagain32 s_ hf
  obtain ⟨x8_32, x7_32, x6_32⟩ := s_
  try dsimp only at hf ⊢
  intro H locs ls M hl
  refine lv_iload hx hb dX0_giveUmbrellas_32 (lv_at hl 0 rfl) ?_
  refine lv_iconst (v := (1 : Int32)) hx hb dX0_giveUmbrellas_34 (by decide) ?_
  refine lv_aload_n hx hb dX0_giveUmbrellas_35 rfl (lv_at hl 6 rfl) ?_
  refine x_getI X M rgc_10 fd_X0_15 rfl dX0_giveUmbrellas_36 ?_
  refine lv_ishl hx hb dX0_giveUmbrellas_39 ?_
  refine lv_icmp_ge (tgt := 91) hx hb dX0_giveUmbrellas_40 (by decide) (fun c_40 => ?_) (fun c_40 => ?_)
  · replace hf := hf.1 c_40
    refine lv_iload_n hx hb dX0_giveUmbrellas_91 rfl (lv_at hl 7 rfl) ?_
    refine lv_if_ne (tgt := 100) hx hb dX0_giveUmbrellas_92 (by decide) (fun c_92 => ?_) (fun c_92 => ?_)
    · replace hf := hf.1 c_92
      refine lv_iload hx hb dX0_giveUmbrellas_100 (lv_at hl 1 rfl) ?_
      rw [hQ]
      exact x_iret X M hr hlk dX0_giveUmbrellas_102 ⟨hf, rfl⟩
    · replace hf := hf.2 c_92
      refine lv_iload hx hb dX0_giveUmbrellas_95 (lv_at hl 2 rfl) ?_
      refine lv_goto (tgt := 102) hx hb dX0_giveUmbrellas_97 (by decide) ?_
      rw [hQ]
      exact x_iret X M hr hlk dX0_giveUmbrellas_102 ⟨hf, rfl⟩
  · replace hf := hf.2 c_40
    refine lv_iload hx hb dX0_giveUmbrellas_43 (lv_at hl 0 rfl) ?_
    refine lv_iload hx hb dX0_giveUmbrellas_45 (lv_at hl 4 rfl) ?_
    refine lv_iand hx hb dX0_giveUmbrellas_47 ?_
    refine lv_iload_n hx hb dX0_giveUmbrellas_48 rfl (lv_at hl 5 rfl) ?_
    refine lv_iload hx hb dX0_giveUmbrellas_49 (lv_at hl 0 rfl) ?_
    refine lv_iconst (v := ((-1) : Int32)) hx hb dX0_giveUmbrellas_51 (by decide) ?_
    refine lv_ixor hx hb dX0_giveUmbrellas_52 ?_
    refine lv_iand hx hb dX0_giveUmbrellas_53 ?_
    refine lv_ior hx hb dX0_giveUmbrellas_54 ?_
    refine x_ciP (x_rS (As := [.int ((x8_32 &&& r_8) ||| (r_2 &&& (x8_32 ^^^ ((-1) : Int32))))]) (rest := []) X M (cm_J6_bitCount_0f7a4 l G ad hI n ((x8_32 &&& r_8) ||| (r_2 &&& (x8_32 ^^^ ((-1) : Int32)))) μ _ hf) mc_J6_bitCount_0f7a4 ms_J6_bitCount_0f7a4 lk_X0_27 mn_J6_bitCount_0f7a4 hl ⟨⟨Nat.le_of_ble_eq_true rfl, Nat.le_of_ble_eq_true rfl⟩, rfl, Nat.le_of_ble_eq_true rfl, Nat.zero_le _, Nat.zero_le _⟩ rfl dX0_giveUmbrellas_55) M (fun r_55 H locs hf M => ?_)
    try dsimp only at hf
    refine lv_istore (lv' := [(9, .int r_55), (8, .int x8_32), (7, .int x7_32), (6, .int x6_32), (5, .int r_18), (4, .int r_8), (3, .int r_2), (0, .ref (ad 10)), (2, .int a2)]) hx hb dX0_giveUmbrellas_58 hl (by decide) rfl (fun ls hl => ?_)
    refine lv_iload hx hb dX0_giveUmbrellas_60 (lv_at hl 1 rfl) ?_
    refine x_ciP (x_rS (As := [.int x8_32]) (rest := []) X M (cm_J6_bitCount_0f7a4 l G ad hI n x8_32 μ _ hf) mc_J6_bitCount_0f7a4 ms_J6_bitCount_0f7a4 lk_X0_27 mn_J6_bitCount_0f7a4 hl ⟨⟨Nat.le_of_ble_eq_true rfl, Nat.le_of_ble_eq_true rfl⟩, rfl, Nat.le_of_ble_eq_true rfl, Nat.zero_le _, Nat.zero_le _⟩ rfl dX0_giveUmbrellas_62) M (fun r_62 H locs hf M => ?_)
    try dsimp only at hf
    refine lv_iload hx hb dX0_giveUmbrellas_65 (lv_at hl 4 rfl) ?_
    refine lv_icmp_ne (tgt := 85) hx hb dX0_giveUmbrellas_67 (by decide) (fun c_67 => ?_) (fun c_67 => ?_)
    · replace hf := hf.1 c_67
      obtain ⟨x8_85, ex8_85⟩ : ∃ y : Int32, y = x8_32 + 1 := ⟨_, rfl⟩
      replace hf := hf x8_85 ex8_85
      refine lv_iinc (v := x8_85) (lv' := [(8, .int x8_85), (9, .int r_55), (7, .int x7_32), (6, .int x6_32), (5, .int r_18), (4, .int r_8), (3, .int r_2), (0, .ref (ad 10)), (2, .int a2)]) hx hb dX0_giveUmbrellas_85 hl (k := 1) rfl (by rw [ex8_85]; rfl) (by decide) rfl (fun ls hl => ?_)
      refine lv_goto (tgt := 32) hx hb dX0_giveUmbrellas_88 (by decide) ?_
      exact hagain32 (x8_85, x7_32, x6_32) hf _ _ _ M (lv_sub hl [0, 2, 3, 4, 5, 6, 7, 8] rfl)
    · replace hf := hf.2 c_67
      refine lv_iload hx hb dX0_giveUmbrellas_70 (lv_at hl 0 rfl) ?_
      refine lv_iload hx hb dX0_giveUmbrellas_72 (lv_at hl 2 rfl) ?_
      refine lv_icmp_le (tgt := 85) hx hb dX0_giveUmbrellas_74 (by decide) (fun c_74 => ?_) (fun c_74 => ?_)
      · replace hf := hf.1 c_74
        obtain ⟨x8_85, ex8_85⟩ : ∃ y : Int32, y = x8_32 + 1 := ⟨_, rfl⟩
        replace hf := hf x8_85 ex8_85
        refine lv_iinc (v := x8_85) (lv' := [(8, .int x8_85), (9, .int r_55), (7, .int x7_32), (6, .int x6_32), (5, .int r_18), (4, .int r_8), (3, .int r_2), (0, .ref (ad 10)), (2, .int a2)]) hx hb dX0_giveUmbrellas_85 hl (k := 1) rfl (by rw [ex8_85]; rfl) (by decide) rfl (fun ls hl => ?_)
        refine lv_goto (tgt := 32) hx hb dX0_giveUmbrellas_88 (by decide) ?_
        exact hagain32 (x8_85, x7_32, x6_32) hf _ _ _ M (lv_sub hl [0, 2, 3, 4, 5, 6, 7, 8] rfl)
      · replace hf := hf.2 c_74
        refine lv_iload hx hb dX0_giveUmbrellas_77 (lv_at hl 1 rfl) ?_
        refine lv_istore (lv' := [(6, .int x8_32), (9, .int r_55), (8, .int x8_32), (7, .int x7_32), (5, .int r_18), (4, .int r_8), (3, .int r_2), (0, .ref (ad 10)), (2, .int a2)]) hx hb dX0_giveUmbrellas_79 hl (by decide) rfl (fun ls hl => ?_)
        refine lv_iload hx hb dX0_giveUmbrellas_81 (lv_at hl 1 rfl) ?_
        refine lv_istore (lv' := [(7, .int r_55), (6, .int x8_32), (9, .int r_55), (8, .int x8_32), (5, .int r_18), (4, .int r_8), (3, .int r_2), (0, .ref (ad 10)), (2, .int a2)]) hx hb dX0_giveUmbrellas_83 hl (by decide) rfl (fun ls hl => ?_)
        obtain ⟨x8_85, ex8_85⟩ : ∃ y : Int32, y = x8_32 + 1 := ⟨_, rfl⟩
        replace hf := hf x8_85 ex8_85
        refine lv_iinc (v := x8_85) (lv' := [(8, .int x8_85), (7, .int r_55), (6, .int x8_32), (9, .int r_55), (5, .int r_18), (4, .int r_8), (3, .int r_2), (0, .ref (ad 10)), (2, .int a2)]) hx hb dX0_giveUmbrellas_85 hl (k := 3) rfl (by rw [ex8_85]; rfl) (by decide) rfl (fun ls hl => ?_)
        refine lv_goto (tgt := 32) hx hb dX0_giveUmbrellas_88 (by decide) ?_
        exact hagain32 (x8_85, r_55, x8_32) hf _ _ _ M (lv_sub hl [0, 1, 2, 4, 5, 6, 7, 8] rfl)
def wp_X0_firstDawnOfOthers (n : Nat) (a1 : Int32) (μ : xM) (K : Int32 → Prop) : Prop :=
  xlp (fun (again5 : (Int32 × Int32) → Prop) => fun (s_ : Int32 × Int32) => match s_ with | (x3_5, x2_5) => (((μ 10 6) ≤ x3_5 → K x2_5) ∧ (¬ (μ 10 6) ≤ x3_5 → ((x3_5 = a1 → (∀ x3_46 : Int32, x3_46 = x3_5 + 1 → again5 (x3_46, x2_5))) ∧ (¬ x3_5 = a1 → (vp_in x3_5 7 ∧ wp_X0_dawnWithoutNose n x3_5 (μ (17 + x3_5.toNatClampNeg) 2) (μ (17 + x3_5.toNatClampNeg) 3) μ (fun r_39 : Int32 => (∀ r_42 : Int32, r_42 = (if r_39 < x2_5 then r_39 else x2_5) → (∀ x3_46 : Int32, x3_46 = x3_5 + 1 → again5 (x3_46, r_42)))))))))) n ((0 : Int32), (61 : Int32))
set_option maxHeartbeats 4000000 in
set_option maxRecDepth 100000 in
theorem cm_X0_firstDawnOfOthers (l : Launch) (G : xG) (ad : Nat → Nat) (hI : xI 36 ad) (n : Nat) (a1 : Int32) (μ : xM) (K : Int32 → Prop) (hf : wp_X0_firstDawnOfOthers n a1 μ K) : Met l yX0_firstDawnOfOthers (Cond.code yX0_firstDawnOfOthers cX0_firstDawnOfOthers 5 (some .int) :: xw_all) (rmo 2 52) (va_Pc [.ref (ad 10), .int a1] (xPre cS 36 G ad μ)) (xQi cS 36 G ad (fun r u => K r ∧ u = μ)) 0 0 (xR 36 ad) := by
  refine x_ent (nL := 5) (own := RX0) (by decide) rfl hI (Nat.le_of_ble_eq_true rfl) ?_
  intro p e s m args below meth c H locs ls Q X hr hlk hQ M hl
  have hx := X.1.1
  have hb := X.1.2.1
  have hown := X.1.2.2.2.1
  have hts := X.1.2.2.2.2
  have hl : lv_has ls 5 [(0, .ref (ad 10)), (1, .int a1)] := hl
  unfold wp_X0_firstDawnOfOthers at hf
  refine lv_bipush (v := (61 : Int32)) hx hb dX0_firstDawnOfOthers_0 (by decide) ?_
  refine lv_istore_n (lv' := [(2, .int (61 : Int32)), (0, .ref (ad 10)), (1, .int a1)]) hx hb dX0_firstDawnOfOthers_2 rfl hl (by decide) rfl (fun ls hl => ?_)
  refine lv_iconst (v := (0 : Int32)) hx hb dX0_firstDawnOfOthers_3 (by decide) ?_
  refine lv_istore_n (lv' := [(3, .int (0 : Int32)), (2, .int (61 : Int32)), (0, .ref (ad 10)), (1, .int a1)]) hx hb dX0_firstDawnOfOthers_4 rfl hl (by decide) rfl (fun ls hl => ?_)
  refine xlp_w hf (fun (s_ : Int32 × Int32) => match s_ with | (x3_5, x2_5) => ∀ (H : Heap) (locs : List Loc) (ls : Array Slot), xS cS 36 G ad s μ H locs → lv_has ls 5 [(3, .int x3_5), (2, .int x2_5), (0, .ref (ad 10)), (1, .int a1)] → W p l e (rmo 2 52) s m args below meth c H locs 0 0 Q (F0 m 5 ls [])) ?_ _ _ _ M (lv_sub hl [0, 1, 2, 3] rfl)
  intro again5 hagain5 s_ hf
  obtain ⟨x3_5, x2_5⟩ := s_
  try dsimp only at hf ⊢
  intro H locs ls M hl
  refine lv_iload_n hx hb dX0_firstDawnOfOthers_5 rfl (lv_at hl 0 rfl) ?_
  refine lv_aload_n hx hb dX0_firstDawnOfOthers_6 rfl (lv_at hl 2 rfl) ?_
  refine x_getI X M rgc_10 fd_X0_15 rfl dX0_firstDawnOfOthers_7 ?_
  refine lv_icmp_ge (tgt := 52) hx hb dX0_firstDawnOfOthers_10 (by decide) (fun c_10 => ?_) (fun c_10 => ?_)
  · replace hf := hf.1 c_10
    refine lv_iload_n hx hb dX0_firstDawnOfOthers_52 rfl (lv_at hl 1 rfl) ?_
    rw [hQ]
    exact x_iret X M hr hlk dX0_firstDawnOfOthers_53 ⟨hf, rfl⟩
  · replace hf := hf.2 c_10
    refine lv_iload_n hx hb dX0_firstDawnOfOthers_13 rfl (lv_at hl 0 rfl) ?_
    refine lv_iload_n hx hb dX0_firstDawnOfOthers_14 rfl (lv_at hl 3 rfl) ?_
    refine lv_icmp_eq (tgt := 46) hx hb dX0_firstDawnOfOthers_15 (by decide) (fun c_15 => ?_) (fun c_15 => ?_)
    · replace hf := hf.1 c_15
      obtain ⟨x3_46, ex3_46⟩ : ∃ y : Int32, y = x3_5 + 1 := ⟨_, rfl⟩
      replace hf := hf x3_46 ex3_46
      refine lv_iinc (v := x3_46) (lv' := [(3, .int x3_46), (2, .int x2_5), (0, .ref (ad 10)), (1, .int a1)]) hx hb dX0_firstDawnOfOthers_46 hl (k := 0) rfl (by rw [ex3_46]; rfl) (by decide) rfl (fun ls hl => ?_)
      refine lv_goto (tgt := 5) hx hb dX0_firstDawnOfOthers_49 (by decide) ?_
      exact hagain5 (x3_46, x2_5) hf _ _ _ M (lv_sub hl [0, 1, 2, 3] rfl)
    · replace hf := hf.2 c_15
      refine lv_aload_n hx hb dX0_firstDawnOfOthers_18 rfl (lv_at hl 2 rfl) ?_
      refine x_getR (r := 11) X M rgc_10 fd_X0_33 rfl dX0_firstDawnOfOthers_19 ?_
      refine lv_iload_n hx hb dX0_firstDawnOfOthers_22 rfl (lv_at hl 0 rfl) ?_
      obtain ⟨g_23, hf⟩ := hf
      refine x_ald X M rgc_11 rfl g_23 dX0_firstDawnOfOthers_23 ?_
      refine lv_astore (lv' := [(4, .ref (ad (17 + x3_5.toNatClampNeg))), (3, .int x3_5), (2, .int x2_5), (0, .ref (ad 10)), (1, .int a1)]) hx hb dX0_firstDawnOfOthers_24 hl (by decide) rfl (fun ls hl => ?_)
      refine lv_iload_n hx hb dX0_firstDawnOfOthers_26 rfl (lv_at hl 2 rfl) ?_
      refine lv_aload_n hx hb dX0_firstDawnOfOthers_27 rfl (lv_at hl 3 rfl) ?_
      refine lv_iload_n hx hb dX0_firstDawnOfOthers_28 rfl (lv_at hl 1 rfl) ?_
      refine lv_aload hx hb dX0_firstDawnOfOthers_29 (lv_at hl 0 rfl) ?_
      refine x_getI X M (rgc_17 (vp_lt g_23)) fd_X0_37 rfl dX0_firstDawnOfOthers_31 ?_
      refine lv_aload hx hb dX0_firstDawnOfOthers_34 (lv_at hl 0 rfl) ?_
      refine x_getI X M (rgc_17 (vp_lt g_23)) fd_X0_49 rfl dX0_firstDawnOfOthers_36 ?_
      refine x_ciP (x_rS (As := [.ref (ad 10), .int x3_5, .int (μ (17 + x3_5.toNatClampNeg) 2), .int (μ (17 + x3_5.toNatClampNeg) 3)]) (rest := [.int x2_5]) X M (cm_X0_dawnWithoutNose l G ad hI n x3_5 (μ (17 + x3_5.toNatClampNeg) 2) (μ (17 + x3_5.toNatClampNeg) 3) μ _ hf) mc_X0_dawnWithoutNose ms_X0_dawnWithoutNose lk_X0_42 mn_X0_dawnWithoutNose hl ⟨⟨Nat.le_of_ble_eq_true rfl, Nat.le_of_ble_eq_true rfl⟩, rfl, Nat.le_of_ble_eq_true rfl, Nat.zero_le _, Nat.zero_le _⟩ rfl dX0_firstDawnOfOthers_39) M (fun r_39 H locs hf M => ?_)
      try dsimp only at hf
      refine x_min X hl lm_X0_21 ⟨Nat.le_of_ble_eq_true rfl, Nat.le_of_ble_eq_true rfl, Nat.zero_le _, Nat.zero_le _⟩ dX0_firstDawnOfOthers_42 ?_
      refine lv_topi (fun r_42 er_42 => ?_)
      replace hf := hf r_42 er_42
      refine lv_istore_n (lv' := [(2, .int r_42), (4, .ref (ad (17 + x3_5.toNatClampNeg))), (3, .int x3_5), (0, .ref (ad 10)), (1, .int a1)]) hx hb dX0_firstDawnOfOthers_45 rfl hl (by decide) rfl (fun ls hl => ?_)
      obtain ⟨x3_46, ex3_46⟩ : ∃ y : Int32, y = x3_5 + 1 := ⟨_, rfl⟩
      replace hf := hf x3_46 ex3_46
      refine lv_iinc (v := x3_46) (lv' := [(3, .int x3_46), (2, .int r_42), (4, .ref (ad (17 + x3_5.toNatClampNeg))), (0, .ref (ad 10)), (1, .int a1)]) hx hb dX0_firstDawnOfOthers_46 hl (k := 2) rfl (by rw [ex3_46]; rfl) (by decide) rfl (fun ls hl => ?_)
      refine lv_goto (tgt := 5) hx hb dX0_firstDawnOfOthers_49 (by decide) ?_
      exact hagain5 (x3_46, r_42) hf _ _ _ M (lv_sub hl [0, 1, 3, 4] rfl)
def wp_X0_turnOne (n : Nat) (a1 : Int32) (μ : xM) (K : Int32 → Prop) : Prop :=
  xlp (fun (again7 : (Int32 × Int32 × Int32) → Prop) => fun (s_ : Int32 × Int32 × Int32) => match s_ with | (x4_7, x3_7, x2_7) => (((μ 10 6) ≤ x4_7 → ((¬ a1 = 0 → K x3_7) ∧ (a1 = 0 → K x2_7))) ∧ (¬ (μ 10 6) ≤ x4_7 → wp_X0_firstDawnOfOthers n x4_7 μ (fun r_19 : Int32 => xlp (fun (again27 : (Int32 × Int32 × Int32) → Prop) => fun (s_ : Int32 × Int32 × Int32) => match s_ with | (x6_27, x3_27, x2_27) => (((4 : Int32) ≤ x6_27 → (∀ x4_82 : Int32, x4_82 = x4_7 + 1 → again7 (x4_82, x3_27, x2_27))) ∧ (¬ (4 : Int32) ≤ x6_27 → (vp_in x4_7 7 ∧ wp_X0_dawnWithoutNose n x4_7 x6_27 (μ (17 + x4_7.toNatClampNeg) 3) μ (fun r_50 : Int32 => (∀ r_53 : Int32, r_53 = (if r_50 < r_19 then r_50 else r_19) → ((r_53 ≤ x3_27 → (∀ x6_76 : Int32, x6_76 = x6_27 + 1 → again27 (x6_76, x3_27, x2_27))) ∧ (¬ r_53 ≤ x3_27 → (∀ x2_72 : Int32, x2_72 = ((10 : Int32) * x4_7) + x6_27 → (∀ x6_76 : Int32, x6_76 = x6_27 + 1 → again27 (x6_76, r_53, x2_72))))))))))) n ((0 : Int32), x3_7, x2_7))))) n ((0 : Int32), (0 : Int32), (0 : Int32))
set_option maxHeartbeats 4000000 in
set_option maxRecDepth 100000 in
theorem cm_X0_turnOne (l : Launch) (G : xG) (ad : Nat → Nat) (hI : xI 36 ad) (n : Nat) (a1 : Int32) (μ : xM) (K : Int32 → Prop) (hf : wp_X0_turnOne n a1 μ K) : Met l yX0_turnOne (Cond.code yX0_turnOne cX0_turnOne 8 (some .int) :: xw_all) (rmo 3 76) (va_Pc [.ref (ad 10), .int a1] (xPre cS 36 G ad μ)) (xQi cS 36 G ad (fun r u => K r ∧ u = μ)) 0 0 (xR 36 ad) := by
  refine x_ent (nL := 8) (own := RX0) (by decide) rfl hI (Nat.le_of_ble_eq_true rfl) ?_
  intro p e s m args below meth c H locs ls Q X hr hlk hQ M hl
  have hx := X.1.1
  have hb := X.1.2.1
  have hown := X.1.2.2.2.1
  have hts := X.1.2.2.2.2
  have hl : lv_has ls 8 [(0, .ref (ad 10)), (1, .int a1)] := hl
  unfold wp_X0_turnOne at hf
  refine lv_iconst (v := (0 : Int32)) hx hb dX0_turnOne_0 (by decide) ?_
  refine lv_istore_n (lv' := [(2, .int (0 : Int32)), (0, .ref (ad 10)), (1, .int a1)]) hx hb dX0_turnOne_1 rfl hl (by decide) rfl (fun ls hl => ?_)
  refine lv_iconst (v := (0 : Int32)) hx hb dX0_turnOne_2 (by decide) ?_
  refine lv_istore_n (lv' := [(3, .int (0 : Int32)), (2, .int (0 : Int32)), (0, .ref (ad 10)), (1, .int a1)]) hx hb dX0_turnOne_3 rfl hl (by decide) rfl (fun ls hl => ?_)
  refine lv_iconst (v := (0 : Int32)) hx hb dX0_turnOne_4 (by decide) ?_
  refine lv_istore (lv' := [(4, .int (0 : Int32)), (3, .int (0 : Int32)), (2, .int (0 : Int32)), (0, .ref (ad 10)), (1, .int a1)]) hx hb dX0_turnOne_5 hl (by decide) rfl (fun ls hl => ?_)
  refine xlp_w hf (fun (s_ : Int32 × Int32 × Int32) => match s_ with | (x4_7, x3_7, x2_7) => ∀ (H : Heap) (locs : List Loc) (ls : Array Slot), xS cS 36 G ad s μ H locs → lv_has ls 8 [(4, .int x4_7), (3, .int x3_7), (2, .int x2_7), (0, .ref (ad 10)), (1, .int a1)] → W p l e (rmo 3 76) s m args below meth c H locs 0 0 Q (F0 m 7 ls [])) ?_ _ _ _ M (lv_sub hl [0, 1, 2, 3, 4] rfl)
  intro again7 hagain7 s_ hf
  obtain ⟨x4_7, x3_7, x2_7⟩ := s_
  try dsimp only at hf ⊢
  intro H locs ls M hl
  refine lv_iload hx hb dX0_turnOne_7 (lv_at hl 0 rfl) ?_
  refine lv_aload_n hx hb dX0_turnOne_9 rfl (lv_at hl 3 rfl) ?_
  refine x_getI X M rgc_10 fd_X0_15 rfl dX0_turnOne_10 ?_
  refine lv_icmp_ge (tgt := 88) hx hb dX0_turnOne_13 (by decide) (fun c_13 => ?_) (fun c_13 => ?_)
  · replace hf := hf.1 c_13
    refine lv_iload_n hx hb dX0_turnOne_88 rfl (lv_at hl 4 rfl) ?_
    refine lv_if_ne (tgt := 96) hx hb dX0_turnOne_89 (by decide) (fun c_89 => ?_) (fun c_89 => ?_)
    · replace hf := hf.1 c_89
      refine lv_iload_n hx hb dX0_turnOne_96 rfl (lv_at hl 1 rfl) ?_
      rw [hQ]
      exact x_iret X M hr hlk dX0_turnOne_97 ⟨hf, rfl⟩
    · replace hf := hf.2 c_89
      refine lv_iload_n hx hb dX0_turnOne_92 rfl (lv_at hl 2 rfl) ?_
      refine lv_goto (tgt := 97) hx hb dX0_turnOne_93 (by decide) ?_
      rw [hQ]
      exact x_iret X M hr hlk dX0_turnOne_97 ⟨hf, rfl⟩
  · replace hf := hf.2 c_13
    refine lv_aload_n hx hb dX0_turnOne_16 rfl (lv_at hl 3 rfl) ?_
    refine lv_iload hx hb dX0_turnOne_17 (lv_at hl 0 rfl) ?_
    refine x_ciP (x_rS (As := [.ref (ad 10), .int x4_7]) (rest := []) X M (cm_X0_firstDawnOfOthers l G ad hI n x4_7 μ _ hf) mc_X0_firstDawnOfOthers ms_X0_firstDawnOfOthers lk_X0_46 mn_X0_firstDawnOfOthers hl ⟨⟨Nat.le_of_ble_eq_true rfl, Nat.le_of_ble_eq_true rfl⟩, rfl, Nat.le_of_ble_eq_true rfl, Nat.zero_le _, Nat.zero_le _⟩ rfl dX0_turnOne_19) M (fun r_19 H locs hf M => ?_)
    try dsimp only at hf
    refine lv_istore (lv' := [(5, .int r_19), (4, .int x4_7), (3, .int x3_7), (2, .int x2_7), (0, .ref (ad 10)), (1, .int a1)]) hx hb dX0_turnOne_22 hl (by decide) rfl (fun ls hl => ?_)
    refine lv_iconst (v := (0 : Int32)) hx hb dX0_turnOne_24 (by decide) ?_
    refine lv_istore (lv' := [(6, .int (0 : Int32)), (5, .int r_19), (4, .int x4_7), (3, .int x3_7), (2, .int x2_7), (0, .ref (ad 10)), (1, .int a1)]) hx hb dX0_turnOne_25 hl (by decide) rfl (fun ls hl => ?_)
    refine xlp_w hf (fun (s_ : Int32 × Int32 × Int32) => match s_ with | (x6_27, x3_27, x2_27) => ∀ (H : Heap) (locs : List Loc) (ls : Array Slot), xS cS 36 G ad s μ H locs → lv_has ls 8 [(6, .int x6_27), (5, .int r_19), (4, .int x4_7), (3, .int x3_27), (2, .int x2_27), (0, .ref (ad 10)), (1, .int a1)] → W p l e (rmo 3 76) s m args below meth c H locs 0 0 Q (F0 m 27 ls [])) ?_ _ _ _ M (lv_sub hl [0, 1, 2, 3, 4, 5, 6] rfl)
    intro again27 hagain27 s_ hf
    obtain ⟨x6_27, x3_27, x2_27⟩ := s_
    try dsimp only at hf ⊢
    intro H locs ls M hl
    refine lv_iload hx hb dX0_turnOne_27 (lv_at hl 0 rfl) ?_
    refine lv_iconst (v := (4 : Int32)) hx hb dX0_turnOne_29 (by decide) ?_
    refine lv_icmp_ge (tgt := 82) hx hb dX0_turnOne_30 (by decide) (fun c_30 => ?_) (fun c_30 => ?_)
    · replace hf := hf.1 c_30
      obtain ⟨x4_82, ex4_82⟩ : ∃ y : Int32, y = x4_7 + 1 := ⟨_, rfl⟩
      replace hf := hf x4_82 ex4_82
      refine lv_iinc (v := x4_82) (lv' := [(4, .int x4_82), (6, .int x6_27), (5, .int r_19), (3, .int x3_27), (2, .int x2_27), (0, .ref (ad 10)), (1, .int a1)]) hx hb dX0_turnOne_82 hl (k := 2) rfl (by rw [ex4_82]; rfl) (by decide) rfl (fun ls hl => ?_)
      refine lv_goto (tgt := 7) hx hb dX0_turnOne_85 (by decide) ?_
      exact hagain7 (x4_82, x3_27, x2_27) hf _ _ _ M (lv_sub hl [0, 3, 4, 5, 6] rfl)
    · replace hf := hf.2 c_30
      refine lv_iload hx hb dX0_turnOne_33 (lv_at hl 1 rfl) ?_
      refine lv_aload_n hx hb dX0_turnOne_35 rfl (lv_at hl 5 rfl) ?_
      refine lv_iload hx hb dX0_turnOne_36 (lv_at hl 2 rfl) ?_
      refine lv_iload hx hb dX0_turnOne_38 (lv_at hl 0 rfl) ?_
      refine lv_aload_n hx hb dX0_turnOne_40 rfl (lv_at hl 5 rfl) ?_
      refine x_getR (r := 11) X M rgc_10 fd_X0_33 rfl dX0_turnOne_41 ?_
      refine lv_iload hx hb dX0_turnOne_44 (lv_at hl 2 rfl) ?_
      obtain ⟨g_46, hf⟩ := hf
      refine x_ald X M rgc_11 rfl g_46 dX0_turnOne_46 ?_
      refine x_getI X M (rgc_17 (vp_lt g_46)) fd_X0_49 rfl dX0_turnOne_47 ?_
      refine x_ciP (x_rS (As := [.ref (ad 10), .int x4_7, .int x6_27, .int (μ (17 + x4_7.toNatClampNeg) 3)]) (rest := [.int r_19]) X M (cm_X0_dawnWithoutNose l G ad hI n x4_7 x6_27 (μ (17 + x4_7.toNatClampNeg) 3) μ _ hf) mc_X0_dawnWithoutNose ms_X0_dawnWithoutNose lk_X0_42 mn_X0_dawnWithoutNose hl ⟨⟨Nat.le_of_ble_eq_true rfl, Nat.le_of_ble_eq_true rfl⟩, rfl, Nat.le_of_ble_eq_true rfl, Nat.zero_le _, Nat.zero_le _⟩ rfl dX0_turnOne_50) M (fun r_50 H locs hf M => ?_)
      try dsimp only at hf
      refine x_min X hl lm_X0_21 ⟨Nat.le_of_ble_eq_true rfl, Nat.le_of_ble_eq_true rfl, Nat.zero_le _, Nat.zero_le _⟩ dX0_turnOne_53 ?_
      refine lv_topi (fun r_53 er_53 => ?_)
      replace hf := hf r_53 er_53
      refine lv_istore (lv' := [(7, .int r_53), (6, .int x6_27), (5, .int r_19), (4, .int x4_7), (3, .int x3_27), (2, .int x2_27), (0, .ref (ad 10)), (1, .int a1)]) hx hb dX0_turnOne_56 hl (by decide) rfl (fun ls hl => ?_)
      refine lv_iload hx hb dX0_turnOne_58 (lv_at hl 0 rfl) ?_
      refine lv_iload_n hx hb dX0_turnOne_60 rfl (lv_at hl 4 rfl) ?_
      refine lv_icmp_le (tgt := 76) hx hb dX0_turnOne_61 (by decide) (fun c_61 => ?_) (fun c_61 => ?_)
      · replace hf := hf.1 c_61
        obtain ⟨x6_76, ex6_76⟩ : ∃ y : Int32, y = x6_27 + 1 := ⟨_, rfl⟩
        replace hf := hf x6_76 ex6_76
        refine lv_iinc (v := x6_76) (lv' := [(6, .int x6_76), (7, .int r_53), (5, .int r_19), (4, .int x4_7), (3, .int x3_27), (2, .int x2_27), (0, .ref (ad 10)), (1, .int a1)]) hx hb dX0_turnOne_76 hl (k := 1) rfl (by rw [ex6_76]; rfl) (by decide) rfl (fun ls hl => ?_)
        refine lv_goto (tgt := 27) hx hb dX0_turnOne_79 (by decide) ?_
        exact hagain27 (x6_76, x3_27, x2_27) hf _ _ _ M (lv_sub hl [0, 2, 3, 4, 5, 6, 7] rfl)
      · replace hf := hf.2 c_61
        refine lv_bipush (v := (10 : Int32)) hx hb dX0_turnOne_64 (by decide) ?_
        refine lv_iload hx hb dX0_turnOne_66 (lv_at hl 3 rfl) ?_
        refine lv_imul hx hb dX0_turnOne_68 ?_
        refine lv_iload hx hb dX0_turnOne_69 (lv_at hl 1 rfl) ?_
        refine lv_iadd hx hb dX0_turnOne_71 ?_
        refine lv_topi (fun x2_72 ex2_72 => ?_)
        replace hf := hf x2_72 ex2_72
        refine lv_istore_n (lv' := [(2, .int x2_72), (7, .int r_53), (6, .int x6_27), (5, .int r_19), (4, .int x4_7), (3, .int x3_27), (0, .ref (ad 10)), (1, .int a1)]) hx hb dX0_turnOne_72 rfl hl (by decide) rfl (fun ls hl => ?_)
        refine lv_iload hx hb dX0_turnOne_73 (lv_at hl 1 rfl) ?_
        refine lv_istore_n (lv' := [(3, .int r_53), (2, .int x2_72), (7, .int r_53), (6, .int x6_27), (5, .int r_19), (4, .int x4_7), (0, .ref (ad 10)), (1, .int a1)]) hx hb dX0_turnOne_75 rfl hl (by decide) rfl (fun ls hl => ?_)
        obtain ⟨x6_76, ex6_76⟩ : ∃ y : Int32, y = x6_27 + 1 := ⟨_, rfl⟩
        replace hf := hf x6_76 ex6_76
        refine lv_iinc (v := x6_76) (lv' := [(6, .int x6_76), (3, .int r_53), (2, .int x2_72), (7, .int r_53), (5, .int r_19), (4, .int x4_7), (0, .ref (ad 10)), (1, .int a1)]) hx hb dX0_turnOne_76 hl (k := 3) rfl (by rw [ex6_76]; rfl) (by decide) rfl (fun ls hl => ?_)
        refine lv_goto (tgt := 27) hx hb dX0_turnOne_79 (by decide) ?_
        exact hagain27 (x6_76, r_53, x2_72) hf _ _ _ M (lv_sub hl [0, 4, 5, 1, 2, 6, 7] rfl)
def wp_X0_nosesGone (n : Nat) (a1 : Int32) (μ : xM) (K : Int32 → xM → Prop) : Prop :=
  xlp (fun (again4 : (Int32 × Int32 × xM) → Prop) => fun (s_ : Int32 × Int32 × xM) => match s_ with | (x3_4, x2_4, m_4) => (((m_4 10 6) ≤ x3_4 → K x2_4 m_4) ∧ (¬ (m_4 10 6) ≤ x3_4 → wp_X5_leftOfPart n x3_4 (0 : Int32) a1 m_4 (fun (r_16 : Int32) (m_16 : xM) => ((¬ r_16 = 0 → (∀ x3_28 : Int32, x3_28 = x3_4 + 1 → again4 (x3_28, x2_4, m_16))) ∧ (r_16 = 0 → (∀ x2_27 : Int32, x2_27 = x2_4 ||| ((1 : Int32) <<< (x3_4 &&& 31)) → (∀ x3_28 : Int32, x3_28 = x3_4 + 1 → again4 (x3_28, x2_27, m_16))))))))) n ((0 : Int32), (0 : Int32), μ)
set_option maxHeartbeats 4000000 in
set_option maxRecDepth 100000 in
theorem cm_X0_nosesGone (l : Launch) (G : xG) (ad : Nat → Nat) (hI : xI 36 ad) (n : Nat) (a1 : Int32) (μ : xM) (K : Int32 → xM → Prop) (hf : wp_X0_nosesGone n a1 μ K) : Met l yX0_nosesGone (Cond.code yX0_nosesGone cX0_nosesGone 4 (some .int) :: xw_all) (rmo 5 117) (va_Pc [.ref (ad 10), .int a1] (xPre cS 36 G ad μ)) (xQi cS 36 G ad K) 0 0 (xR 36 ad) := by
  refine x_ent (nL := 4) (own := RX0) (by decide) rfl hI (Nat.le_of_ble_eq_true rfl) ?_
  intro p e s m args below meth c H locs ls Q X hr hlk hQ M hl
  have hx := X.1.1
  have hb := X.1.2.1
  have hown := X.1.2.2.2.1
  have hts := X.1.2.2.2.2
  have hl : lv_has ls 4 [(0, .ref (ad 10)), (1, .int a1)] := hl
  unfold wp_X0_nosesGone at hf
  refine lv_iconst (v := (0 : Int32)) hx hb dX0_nosesGone_0 (by decide) ?_
  refine lv_istore_n (lv' := [(2, .int (0 : Int32)), (0, .ref (ad 10)), (1, .int a1)]) hx hb dX0_nosesGone_1 rfl hl (by decide) rfl (fun ls hl => ?_)
  refine lv_iconst (v := (0 : Int32)) hx hb dX0_nosesGone_2 (by decide) ?_
  refine lv_istore_n (lv' := [(3, .int (0 : Int32)), (2, .int (0 : Int32)), (0, .ref (ad 10)), (1, .int a1)]) hx hb dX0_nosesGone_3 rfl hl (by decide) rfl (fun ls hl => ?_)
  refine xlp_w hf (fun (s_ : Int32 × Int32 × xM) => match s_ with | (x3_4, x2_4, m_4) => ∀ (H : Heap) (locs : List Loc) (ls : Array Slot), xS cS 36 G ad s m_4 H locs → lv_has ls 4 [(3, .int x3_4), (2, .int x2_4), (0, .ref (ad 10)), (1, .int a1)] → W p l e (rmo 5 117) s m args below meth c H locs 0 0 Q (F0 m 4 ls [])) ?_ _ _ _ M (lv_sub hl [0, 1, 2, 3] rfl)
  intro again4 hagain4 s_ hf
  obtain ⟨x3_4, x2_4, m_4⟩ := s_
  try dsimp only at hf ⊢
  intro H locs ls M hl
  refine lv_iload_n hx hb dX0_nosesGone_4 rfl (lv_at hl 0 rfl) ?_
  refine lv_aload_n hx hb dX0_nosesGone_5 rfl (lv_at hl 2 rfl) ?_
  refine x_getI X M rgc_10 fd_X0_15 rfl dX0_nosesGone_6 ?_
  refine lv_icmp_ge (tgt := 34) hx hb dX0_nosesGone_9 (by decide) (fun c_9 => ?_) (fun c_9 => ?_)
  · replace hf := hf.1 c_9
    refine lv_iload_n hx hb dX0_nosesGone_34 rfl (lv_at hl 1 rfl) ?_
    rw [hQ]
    exact x_iret X M hr hlk dX0_nosesGone_35 hf
  · replace hf := hf.2 c_9
    refine lv_aload_n hx hb dX0_nosesGone_12 rfl (lv_at hl 2 rfl) ?_
    refine lv_iload_n hx hb dX0_nosesGone_13 rfl (lv_at hl 0 rfl) ?_
    refine lv_iconst (v := (0 : Int32)) hx hb dX0_nosesGone_14 (by decide) ?_
    refine lv_iload_n hx hb dX0_nosesGone_15 rfl (lv_at hl 3 rfl) ?_
    refine x_ci (x_rVN (As := [.int x3_4, .int (0 : Int32), .int a1]) (rest := []) X M (cm_X5_leftOfPart l G ad hI n x3_4 (0 : Int32) a1 m_4 _ hf) mc_X5_leftOfPart mv_X5_leftOfPart ln_X0_66 mn_X5_leftOfPart rgc_10 rfl hl ⟨⟨Nat.le_of_ble_eq_true rfl, Nat.le_of_ble_eq_true rfl⟩, rfl, Nat.le_of_ble_eq_true rfl, Nat.zero_le _, Nat.zero_le _⟩ rfl dX0_nosesGone_16) M (fun r_16 m_16 H locs hf M => ?_)
    try dsimp only at hf
    refine lv_if_ne (tgt := 28) hx hb dX0_nosesGone_19 (by decide) (fun c_19 => ?_) (fun c_19 => ?_)
    · replace hf := hf.1 c_19
      obtain ⟨x3_28, ex3_28⟩ : ∃ y : Int32, y = x3_4 + 1 := ⟨_, rfl⟩
      replace hf := hf x3_28 ex3_28
      refine lv_iinc (v := x3_28) (lv' := [(3, .int x3_28), (2, .int x2_4), (0, .ref (ad 10)), (1, .int a1)]) hx hb dX0_nosesGone_28 hl (k := 0) rfl (by rw [ex3_28]; rfl) (by decide) rfl (fun ls hl => ?_)
      refine lv_goto (tgt := 4) hx hb dX0_nosesGone_31 (by decide) ?_
      exact hagain4 (x3_28, x2_4, m_16) hf _ _ _ M (lv_sub hl [0, 1, 2, 3] rfl)
    · replace hf := hf.2 c_19
      refine lv_iload_n hx hb dX0_nosesGone_22 rfl (lv_at hl 1 rfl) ?_
      refine lv_iconst (v := (1 : Int32)) hx hb dX0_nosesGone_23 (by decide) ?_
      refine lv_iload_n hx hb dX0_nosesGone_24 rfl (lv_at hl 0 rfl) ?_
      refine lv_ishl hx hb dX0_nosesGone_25 ?_
      refine lv_ior hx hb dX0_nosesGone_26 ?_
      refine lv_topi (fun x2_27 ex2_27 => ?_)
      replace hf := hf x2_27 ex2_27
      refine lv_istore_n (lv' := [(2, .int x2_27), (3, .int x3_4), (0, .ref (ad 10)), (1, .int a1)]) hx hb dX0_nosesGone_27 rfl hl (by decide) rfl (fun ls hl => ?_)
      obtain ⟨x3_28, ex3_28⟩ : ∃ y : Int32, y = x3_4 + 1 := ⟨_, rfl⟩
      replace hf := hf x3_28 ex3_28
      refine lv_iinc (v := x3_28) (lv' := [(3, .int x3_28), (2, .int x2_27), (0, .ref (ad 10)), (1, .int a1)]) hx hb dX0_nosesGone_28 hl (k := 1) rfl (by rw [ex3_28]; rfl) (by decide) rfl (fun ls hl => ?_)
      refine lv_goto (tgt := 4) hx hb dX0_nosesGone_31 (by decide) ?_
      exact hagain4 (x3_28, x2_27, m_16) hf _ _ _ M (lv_sub hl [0, 1, 2, 3] rfl)
def wp_X1_note (n : Nat) (a1 : Int32) (a2 : Int32) (a3 : Int32) (a4 : Int32) (μ : xM) (K : Int32 → xM → Prop) : Prop :=
  (∀ x5_4 : Int32, x5_4 = μ 31 4 → (vp_in x5_4 8 ∧ (∀ m_13 : xM, m_13 = xu μ 32 x5_4.toNatClampNeg a1 → (vp_in x5_4 8 ∧ (∀ m_21 : xM, m_21 = xu m_13 33 x5_4.toNatClampNeg a2 → (vp_in x5_4 8 ∧ (∀ m_29 : xM, m_29 = xu m_21 34 x5_4.toNatClampNeg a3 → (vp_in x5_4 8 ∧ (∀ m_38 : xM, m_38 = xu m_29 35 x5_4.toNatClampNeg a4 → (∀ m_44 : xM, m_44 = xu m_38 31 4 (x5_4 + (1 : Int32)) → K x5_4 m_44))))))))))
set_option maxHeartbeats 4000000 in
set_option maxRecDepth 100000 in
theorem cm_X1_note (l : Launch) (G : xG) (ad : Nat → Nat) (hI : xI 36 ad) (n : Nat) (a1 : Int32) (a2 : Int32) (a3 : Int32) (a4 : Int32) (μ : xM) (K : Int32 → xM → Prop) (hf : wp_X1_note n a1 a2 a3 a4 μ K) : Met l yX1_note (Cond.code yX1_note cX1_note 6 (some .int) :: xw_all) (rmo 0 0) (va_Pc [.ref (ad 31), .int a1, .int a2, .int a3, .int a4] (xPre cS 36 G ad μ)) (xQi cS 36 G ad K) 0 0 (xR 36 ad) := by
  refine x_ent (nL := 6) (own := RX1) (by decide) rfl hI (Nat.le_of_ble_eq_true rfl) ?_
  intro p e s m args below meth c H locs ls Q X hr hlk hQ M hl
  have hx := X.1.1
  have hb := X.1.2.1
  have hown := X.1.2.2.2.1
  have hts := X.1.2.2.2.2
  have hl : lv_has ls 6 [(0, .ref (ad 31)), (1, .int a1), (2, .int a2), (3, .int a3), (4, .int a4)] := hl
  unfold wp_X1_note at hf
  refine lv_aload_n hx hb dX1_note_0 rfl (lv_at hl 0 rfl) ?_
  refine x_getI X M rgc_31 fd_X1_24 rfl dX1_note_1 ?_
  refine lv_topi (fun x5_4 ex5_4 => ?_)
  replace hf := hf x5_4 ex5_4
  refine lv_istore (lv' := [(5, .int x5_4), (0, .ref (ad 31)), (1, .int a1), (2, .int a2), (3, .int a3), (4, .int a4)]) hx hb dX1_note_4 hl (by decide) rfl (fun ls hl => ?_)
  refine lv_aload_n hx hb dX1_note_6 rfl (lv_at hl 1 rfl) ?_
  refine x_getR (r := 32) X M rgc_31 fd_X1_9 rfl dX1_note_7 ?_
  refine lv_iload hx hb dX1_note_10 (lv_at hl 0 rfl) ?_
  refine lv_iload_n hx hb dX1_note_12 rfl (lv_at hl 2 rfl) ?_
  obtain ⟨g_13, hf⟩ := hf
  refine x_ist X M rgc_32 g_13 dX1_note_13 (fun m_13 H locs em_13 M => ?_)
  replace hf := hf m_13 em_13
  refine lv_aload_n hx hb dX1_note_14 rfl (lv_at hl 1 rfl) ?_
  refine x_getR (r := 33) X M rgc_31 fd_X1_15 rfl dX1_note_15 ?_
  refine lv_iload hx hb dX1_note_18 (lv_at hl 0 rfl) ?_
  refine lv_iload_n hx hb dX1_note_20 rfl (lv_at hl 3 rfl) ?_
  obtain ⟨g_21, hf⟩ := hf
  refine x_ist X M rgc_33 g_21 dX1_note_21 (fun m_21 H locs em_21 M => ?_)
  replace hf := hf m_21 em_21
  refine lv_aload_n hx hb dX1_note_22 rfl (lv_at hl 1 rfl) ?_
  refine x_getR (r := 34) X M rgc_31 fd_X1_18 rfl dX1_note_23 ?_
  refine lv_iload hx hb dX1_note_26 (lv_at hl 0 rfl) ?_
  refine lv_iload_n hx hb dX1_note_28 rfl (lv_at hl 4 rfl) ?_
  obtain ⟨g_29, hf⟩ := hf
  refine x_ist X M rgc_34 g_29 dX1_note_29 (fun m_29 H locs em_29 M => ?_)
  replace hf := hf m_29 em_29
  refine lv_aload_n hx hb dX1_note_30 rfl (lv_at hl 1 rfl) ?_
  refine x_getR (r := 35) X M rgc_31 fd_X1_21 rfl dX1_note_31 ?_
  refine lv_iload hx hb dX1_note_34 (lv_at hl 0 rfl) ?_
  refine lv_iload hx hb dX1_note_36 (lv_at hl 5 rfl) ?_
  obtain ⟨g_38, hf⟩ := hf
  refine x_ist X M rgc_35 g_38 dX1_note_38 (fun m_38 H locs em_38 M => ?_)
  replace hf := hf m_38 em_38
  refine lv_aload_n hx hb dX1_note_39 rfl (lv_at hl 1 rfl) ?_
  refine lv_iload hx hb dX1_note_40 (lv_at hl 0 rfl) ?_
  refine lv_iconst (v := (1 : Int32)) hx hb dX1_note_42 (by decide) ?_
  refine lv_iadd hx hb dX1_note_43 ?_
  refine x_putI X M rgc_31 fp_X1_24 rfl dX1_note_44 (fun m_44 H locs em_44 M => ?_)
  replace hf := hf m_44 em_44
  refine lv_iload hx hb dX1_note_47 (lv_at hl 0 rfl) ?_
  rw [hQ]
  exact x_iret X M hr hlk dX1_note_49 hf
def wp_X1_keep (n : Nat) (a1 : Int32) (μ : xM) (K : xM → Prop) : Prop :=
  (∀ m_2 : xM, m_2 = xu μ 31 4 a1 → K m_2)
set_option maxHeartbeats 4000000 in
set_option maxRecDepth 100000 in
theorem cm_X1_keep (l : Launch) (G : xG) (ad : Nat → Nat) (hI : xI 36 ad) (n : Nat) (a1 : Int32) (μ : xM) (K : xM → Prop) (hf : wp_X1_keep n a1 μ K) : Met l yX1_keep (Cond.code yX1_keep cX1_keep 2 none :: xw_all) (rmo 0 0) (va_Pc [.ref (ad 31), .int a1] (xPre cS 36 G ad μ)) (xQv cS 36 G ad K) 0 0 (xR 36 ad) := by
  refine x_ent (nL := 2) (own := RX1) (by decide) rfl hI (Nat.le_of_ble_eq_true rfl) ?_
  intro p e s m args below meth c H locs ls Q X hr hlk hQ M hl
  have hx := X.1.1
  have hb := X.1.2.1
  have hown := X.1.2.2.2.1
  have hts := X.1.2.2.2.2
  have hl : lv_has ls 2 [(0, .ref (ad 31)), (1, .int a1)] := hl
  unfold wp_X1_keep at hf
  refine lv_aload_n hx hb dX1_keep_0 rfl (lv_at hl 0 rfl) ?_
  refine lv_iload_n hx hb dX1_keep_1 rfl (lv_at hl 1 rfl) ?_
  refine x_putI X M rgc_31 fp_X1_24 rfl dX1_keep_2 (fun m_2 H locs em_2 M => ?_)
  replace hf := hf m_2 em_2
  rw [hQ]
  exact x_vret X M hr hlk dX1_keep_5 hf
def wp_X1_allHold (n : Nat)  (μ : xM) (K : Int32 → xM → Prop) : Prop :=
  xlp (fun (again2 : (Int32 × xM) → Prop) => fun (s_ : Int32 × xM) => match s_ with | (x2_2, m_2) => (((m_2 31 4) ≤ x2_2 → K (1 : Int32) m_2) ∧ (¬ (m_2 31 4) ≤ x2_2 → (vp_in x2_2 8 ∧ (vp_in x2_2 8 ∧ (vp_in x2_2 8 ∧ wp_X5_leftOfPart n (m_2 32 x2_2.toNatClampNeg) (m_2 33 x2_2.toNatClampNeg) (m_2 34 x2_2.toNatClampNeg) m_2 (fun (r_29 : Int32) (m_29 : xM) => (vp_in x2_2 8 ∧ ((r_29 = (m_29 35 x2_2.toNatClampNeg) → (∀ x2_43 : Int32, x2_43 = x2_2 + 1 → again2 (x2_43, m_29))) ∧ (¬ r_29 = (m_29 35 x2_2.toNatClampNeg) → K (0 : Int32) m_29)))))))))) n ((0 : Int32), μ)
set_option maxHeartbeats 4000000 in
set_option maxRecDepth 100000 in
theorem cm_X1_allHold (l : Launch) (G : xG) (ad : Nat → Nat) (hI : xI 36 ad) (n : Nat)  (μ : xM) (K : Int32 → xM → Prop) (hf : wp_X1_allHold n μ K) : Met l yX1_allHold (Cond.code yX1_allHold cX1_allHold 3 (some .boolean) :: xw_all) (rmo 5 117) (va_Pc [.ref (ad 31), .ref (ad 10)] (xPre cS 36 G ad μ)) (xQi cS 36 G ad K) 0 0 (xR 36 ad) := by
  refine x_ent (nL := 3) (own := RX1) (by decide) rfl hI (Nat.le_of_ble_eq_true rfl) ?_
  intro p e s m args below meth c H locs ls Q X hr hlk hQ M hl
  have hx := X.1.1
  have hb := X.1.2.1
  have hown := X.1.2.2.2.1
  have hts := X.1.2.2.2.2
  have hl : lv_has ls 3 [(0, .ref (ad 31)), (1, .ref (ad 10))] := hl
  unfold wp_X1_allHold at hf
  refine lv_iconst (v := (0 : Int32)) hx hb dX1_allHold_0 (by decide) ?_
  refine lv_istore_n (lv' := [(2, .int (0 : Int32)), (0, .ref (ad 31)), (1, .ref (ad 10))]) hx hb dX1_allHold_1 rfl hl (by decide) rfl (fun ls hl => ?_)
  refine xlp_w hf (fun (s_ : Int32 × xM) => match s_ with | (x2_2, m_2) => ∀ (H : Heap) (locs : List Loc) (ls : Array Slot), xS cS 36 G ad s m_2 H locs → lv_has ls 3 [(2, .int x2_2), (0, .ref (ad 31)), (1, .ref (ad 10))] → W p l e (rmo 5 117) s m args below meth c H locs 0 0 Q (F0 m 2 ls [])) ?_ _ _ _ M (lv_sub hl [0, 1, 2] rfl)
  intro again2 hagain2 s_ hf
  obtain ⟨x2_2, m_2⟩ := s_
  try dsimp only at hf ⊢
  intro H locs ls M hl
  refine lv_iload_n hx hb dX1_allHold_2 rfl (lv_at hl 0 rfl) ?_
  refine lv_aload_n hx hb dX1_allHold_3 rfl (lv_at hl 1 rfl) ?_
  refine x_getI X M rgc_31 fd_X1_24 rfl dX1_allHold_4 ?_
  refine lv_icmp_ge (tgt := 49) hx hb dX1_allHold_7 (by decide) (fun c_7 => ?_) (fun c_7 => ?_)
  · replace hf := hf.1 c_7
    refine lv_iconst (v := (1 : Int32)) hx hb dX1_allHold_49 (by decide) ?_
    rw [hQ]
    exact x_zret X M hr hlk xb_1 dX1_allHold_50 hf
  · replace hf := hf.2 c_7
    refine lv_aload_n hx hb dX1_allHold_10 rfl (lv_at hl 2 rfl) ?_
    refine lv_aload_n hx hb dX1_allHold_11 rfl (lv_at hl 1 rfl) ?_
    refine x_getR (r := 32) X M rgc_31 fd_X1_9 rfl dX1_allHold_12 ?_
    refine lv_iload_n hx hb dX1_allHold_15 rfl (lv_at hl 0 rfl) ?_
    obtain ⟨g_16, hf⟩ := hf
    refine x_ild X M rgc_32 g_16 dX1_allHold_16 ?_
    refine lv_aload_n hx hb dX1_allHold_17 rfl (lv_at hl 1 rfl) ?_
    refine x_getR (r := 33) X M rgc_31 fd_X1_15 rfl dX1_allHold_18 ?_
    refine lv_iload_n hx hb dX1_allHold_21 rfl (lv_at hl 0 rfl) ?_
    obtain ⟨g_22, hf⟩ := hf
    refine x_ild X M rgc_33 g_22 dX1_allHold_22 ?_
    refine lv_aload_n hx hb dX1_allHold_23 rfl (lv_at hl 1 rfl) ?_
    refine x_getR (r := 34) X M rgc_31 fd_X1_18 rfl dX1_allHold_24 ?_
    refine lv_iload_n hx hb dX1_allHold_27 rfl (lv_at hl 0 rfl) ?_
    obtain ⟨g_28, hf⟩ := hf
    refine x_ild X M rgc_34 g_28 dX1_allHold_28 ?_
    refine x_ci (x_rVN (As := [.int (m_2 32 x2_2.toNatClampNeg), .int (m_2 33 x2_2.toNatClampNeg), .int (m_2 34 x2_2.toNatClampNeg)]) (rest := []) X M (cm_X5_leftOfPart l G ad hI n (m_2 32 x2_2.toNatClampNeg) (m_2 33 x2_2.toNatClampNeg) (m_2 34 x2_2.toNatClampNeg) m_2 _ hf) mc_X5_leftOfPart mv_X5_leftOfPart ln_X1_28 mn_X5_leftOfPart rgc_10 rfl hl ⟨⟨Nat.le_of_ble_eq_true rfl, Nat.le_of_ble_eq_true rfl⟩, rfl, Nat.le_of_ble_eq_true rfl, Nat.zero_le _, Nat.zero_le _⟩ rfl dX1_allHold_29) M (fun r_29 m_29 H locs hf M => ?_)
    try dsimp only at hf
    refine lv_aload_n hx hb dX1_allHold_32 rfl (lv_at hl 1 rfl) ?_
    refine x_getR (r := 35) X M rgc_31 fd_X1_21 rfl dX1_allHold_33 ?_
    refine lv_iload_n hx hb dX1_allHold_36 rfl (lv_at hl 0 rfl) ?_
    obtain ⟨g_37, hf⟩ := hf
    refine x_ild X M rgc_35 g_37 dX1_allHold_37 ?_
    refine lv_icmp_eq (tgt := 43) hx hb dX1_allHold_38 (by decide) (fun c_38 => ?_) (fun c_38 => ?_)
    · replace hf := hf.1 c_38
      obtain ⟨x2_43, ex2_43⟩ : ∃ y : Int32, y = x2_2 + 1 := ⟨_, rfl⟩
      replace hf := hf x2_43 ex2_43
      refine lv_iinc (v := x2_43) (lv' := [(2, .int x2_43), (0, .ref (ad 31)), (1, .ref (ad 10))]) hx hb dX1_allHold_43 hl (k := 0) rfl (by rw [ex2_43]; rfl) (by decide) rfl (fun ls hl => ?_)
      refine lv_goto (tgt := 2) hx hb dX1_allHold_46 (by decide) ?_
      exact hagain2 (x2_43, m_29) hf _ _ _ M (lv_sub hl [0, 1, 2] rfl)
    · replace hf := hf.2 c_38
      refine lv_iconst (v := (0 : Int32)) hx hb dX1_allHold_41 (by decide) ?_
      rw [hQ]
      exact x_zret X M hr hlk xb_0 dX1_allHold_42 hf
