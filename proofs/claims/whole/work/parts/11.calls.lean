def wp_X3_washedOff (n : Nat) (k0 : Nat) (a1 : Int32) (a2 : Int32) (a3 : Int32) (a4 : Int32) (a5 : Int32) (μ : xM) (K : Int32 → Prop) : Prop :=
  xjn (fun (x6_18 : Int32) => xjn (fun (x6_28 : Int32) => xjn (fun (x6_42 : Int32) => ((¬ a5 = (1 : Int32) → ((¬ a5 = (2 : Int32) → K x6_42) ∧ (a5 = (2 : Int32) → K (0 : Int32)))) ∧ (a5 = (1 : Int32) → (¬ (2 : Int32) = 0 ∧ (∀ x6_52 : Int32, x6_52 = x6_42 / (2 : Int32) → ((¬ a5 = (2 : Int32) → K x6_52) ∧ (a5 = (2 : Int32) → K (0 : Int32)))))))) (fun J42 : Int32 → Prop => ((¬ (μ (17 + k0) 1) = (2 : Int32) → J42 x6_28) ∧ ((μ (17 + k0) 1) = (2 : Int32) → (¬ (2 : Int32) = 0 ∧ (∀ x6_40 : Int32, x6_40 = x6_28 / (2 : Int32) → J42 x6_40)))))) (fun J28 : Int32 → Prop => ((¬ a1 = (1 : Int32) → J28 x6_18) ∧ (a1 = (1 : Int32) → (∀ x6_26 : Int32, x6_26 = (2 : Int32) * a2 → J28 x6_26))))) (fun J18 : Int32 → Prop => ((¬ a1 = 0 → J18 a2) ∧ (a1 = 0 → ((¬ a3 = a4 → J18 a2) ∧ (a3 = a4 → (∀ x6_16 : Int32, x6_16 = (3 : Int32) * a2 → J18 x6_16))))))
set_option maxHeartbeats 4000000 in
set_option maxRecDepth 100000 in
theorem cm_X3_washedOff (l : Launch) (G : xG) (ad : Nat → Nat) (hI : xI 36 ad) (n : Nat) (k0 : Nat) (hk0 : k0 < 7) (a1 : Int32) (a2 : Int32) (a3 : Int32) (a4 : Int32) (a5 : Int32) (μ : xM) (K : Int32 → Prop) (hf : wp_X3_washedOff n k0 a1 a2 a3 a4 a5 μ K) : Met l yX3_washedOff (Cond.code yX3_washedOff cX3_washedOff 7 (some .int) :: xw_all) (rmo 0 0) (va_Pc [.ref (ad (17 + k0)), .int a1, .int a2, .int a3, .int a4, .int a5] (xPre cS 36 G ad μ)) (xQi cS 36 G ad (fun r u => K r ∧ u = μ)) 0 0 (xR 36 ad) := by
  refine x_ent (nL := 7) (own := RX3) (by decide) rfl hI (Nat.le_of_ble_eq_true rfl) ?_
  intro p e s m args below meth c H locs ls Q X hr hlk hQ M hl
  have hx := X.1.1
  have hb := X.1.2.1
  have hown := X.1.2.2.2.1
  have hts := X.1.2.2.2.2
  have hl : lv_has ls 7 [(0, .ref (ad (17 + k0))), (1, .int a1), (2, .int a2), (3, .int a3), (4, .int a4), (5, .int a5)] := hl
  unfold wp_X3_washedOff at hf
  refine lv_iload_n hx hb dX3_washedOff_0 rfl (lv_at hl 2 rfl) ?_
  refine lv_istore (lv' := [(6, .int a2), (0, .ref (ad (17 + k0))), (1, .int a1), (2, .int a2), (3, .int a3), (4, .int a4), (5, .int a5)]) hx hb dX3_washedOff_1 hl (by decide) rfl (fun ls hl => ?_)
  refine lv_iload_n hx hb dX3_washedOff_3 rfl (lv_at hl 2 rfl) ?_
  refine xjn_w hf (fun (x6_18 : Int32) => ∀ (H : Heap) (locs : List Loc) (ls : Array Slot), xS cS 36 G ad s μ H locs → lv_has ls 7 [(6, .int x6_18), (0, .ref (ad (17 + k0))), (1, .int a1), (2, .int a2), (5, .int a5)] → W p l e (rmo 0 0) s m args below meth c H locs 0 0 Q (F0 m 18 ls [])) ?_ ?_
  · intro x6_18 hf
    intro H locs ls M hl
    refine lv_iload_n hx hb dX3_washedOff_18 rfl (lv_at hl 2 rfl) ?_
    refine lv_iconst (v := (1 : Int32)) hx hb dX3_washedOff_19 (by decide) ?_
    refine xjn_w hf (fun (x6_28 : Int32) => ∀ (H : Heap) (locs : List Loc) (ls : Array Slot), xS cS 36 G ad s μ H locs → lv_has ls 7 [(6, .int x6_28), (0, .ref (ad (17 + k0))), (5, .int a5)] → W p l e (rmo 0 0) s m args below meth c H locs 0 0 Q (F0 m 28 ls [])) ?_ ?_
    · intro x6_28 hf
      intro H locs ls M hl
      refine lv_aload_n hx hb dX3_washedOff_28 rfl (lv_at hl 1 rfl) ?_
      refine x_getI X M (rgc_17 hk0) fd_X3_15 rfl dX3_washedOff_29 ?_
      refine lv_iconst (v := (2 : Int32)) hx hb dX3_washedOff_32 (by decide) ?_
      refine xjn_w hf (fun (x6_42 : Int32) => ∀ (H : Heap) (locs : List Loc) (ls : Array Slot), xS cS 36 G ad s μ H locs → lv_has ls 7 [(6, .int x6_42), (5, .int a5)] → W p l e (rmo 0 0) s m args below meth c H locs 0 0 Q (F0 m 42 ls [])) ?_ ?_
      · intro x6_42 hf
        intro H locs ls M hl
        refine lv_iload hx hb dX3_washedOff_42 (lv_at hl 1 rfl) ?_
        refine lv_iconst (v := (1 : Int32)) hx hb dX3_washedOff_44 (by decide) ?_
        refine lv_icmp_ne (tgt := 54) hx hb dX3_washedOff_45 (by decide) (fun c_45 => ?_) (fun c_45 => ?_)
        · replace hf := hf.1 c_45
          refine lv_iload hx hb dX3_washedOff_54 (lv_at hl 1 rfl) ?_
          refine lv_iconst (v := (2 : Int32)) hx hb dX3_washedOff_56 (by decide) ?_
          refine lv_icmp_ne (tgt := 64) hx hb dX3_washedOff_57 (by decide) (fun c_57 => ?_) (fun c_57 => ?_)
          · replace hf := hf.1 c_57
            refine lv_iload hx hb dX3_washedOff_64 (lv_at hl 0 rfl) ?_
            rw [hQ]
            exact x_iret X M hr hlk dX3_washedOff_66 ⟨hf, rfl⟩
          · replace hf := hf.2 c_57
            refine lv_iconst (v := (0 : Int32)) hx hb dX3_washedOff_60 (by decide) ?_
            refine lv_goto (tgt := 66) hx hb dX3_washedOff_61 (by decide) ?_
            rw [hQ]
            exact x_iret X M hr hlk dX3_washedOff_66 ⟨hf, rfl⟩
        · replace hf := hf.2 c_45
          refine lv_iload hx hb dX3_washedOff_48 (lv_at hl 0 rfl) ?_
          refine lv_iconst (v := (2 : Int32)) hx hb dX3_washedOff_50 (by decide) ?_
          obtain ⟨g_51, hf⟩ := hf
          refine lv_idiv hx hb dX3_washedOff_51 g_51 ?_
          refine lv_topi (fun x6_52 ex6_52 => ?_)
          replace hf := hf x6_52 ex6_52
          refine lv_istore (lv' := [(6, .int x6_52), (5, .int a5)]) hx hb dX3_washedOff_52 hl (by decide) rfl (fun ls hl => ?_)
          refine lv_iload hx hb dX3_washedOff_54 (lv_at hl 1 rfl) ?_
          refine lv_iconst (v := (2 : Int32)) hx hb dX3_washedOff_56 (by decide) ?_
          refine lv_icmp_ne (tgt := 64) hx hb dX3_washedOff_57 (by decide) (fun c_57 => ?_) (fun c_57 => ?_)
          · replace hf := hf.1 c_57
            refine lv_iload hx hb dX3_washedOff_64 (lv_at hl 0 rfl) ?_
            rw [hQ]
            exact x_iret X M hr hlk dX3_washedOff_66 ⟨hf, rfl⟩
          · replace hf := hf.2 c_57
            refine lv_iconst (v := (0 : Int32)) hx hb dX3_washedOff_60 (by decide) ?_
            refine lv_goto (tgt := 66) hx hb dX3_washedOff_61 (by decide) ?_
            rw [hQ]
            exact x_iret X M hr hlk dX3_washedOff_66 ⟨hf, rfl⟩
      · intro J42 hJ42 hf
        refine lv_icmp_ne (tgt := 42) hx hb dX3_washedOff_33 (by decide) (fun c_33 => ?_) (fun c_33 => ?_)
        · replace hf := hf.1 c_33
          exact hJ42 x6_28 hf _ _ _ M (lv_sub hl [0, 2] rfl)
        · replace hf := hf.2 c_33
          refine lv_iload hx hb dX3_washedOff_36 (lv_at hl 0 rfl) ?_
          refine lv_iconst (v := (2 : Int32)) hx hb dX3_washedOff_38 (by decide) ?_
          obtain ⟨g_39, hf⟩ := hf
          refine lv_idiv hx hb dX3_washedOff_39 g_39 ?_
          refine lv_topi (fun x6_40 ex6_40 => ?_)
          replace hf := hf x6_40 ex6_40
          refine lv_istore (lv' := [(6, .int x6_40), (0, .ref (ad (17 + k0))), (5, .int a5)]) hx hb dX3_washedOff_40 hl (by decide) rfl (fun ls hl => ?_)
          exact hJ42 x6_40 hf _ _ _ M (lv_sub hl [0, 2] rfl)
    · intro J28 hJ28 hf
      refine lv_icmp_ne (tgt := 28) hx hb dX3_washedOff_20 (by decide) (fun c_20 => ?_) (fun c_20 => ?_)
      · replace hf := hf.1 c_20
        exact hJ28 x6_18 hf _ _ _ M (lv_sub hl [0, 1, 4] rfl)
      · replace hf := hf.2 c_20
        refine lv_iconst (v := (2 : Int32)) hx hb dX3_washedOff_23 (by decide) ?_
        refine lv_iload_n hx hb dX3_washedOff_24 rfl (lv_at hl 3 rfl) ?_
        refine lv_imul hx hb dX3_washedOff_25 ?_
        refine lv_topi (fun x6_26 ex6_26 => ?_)
        replace hf := hf x6_26 ex6_26
        refine lv_istore (lv' := [(6, .int x6_26), (0, .ref (ad (17 + k0))), (1, .int a1), (2, .int a2), (5, .int a5)]) hx hb dX3_washedOff_26 hl (by decide) rfl (fun ls hl => ?_)
        exact hJ28 x6_26 hf _ _ _ M (lv_sub hl [0, 1, 4] rfl)
  · intro J18 hJ18 hf
    refine lv_if_ne (tgt := 18) hx hb dX3_washedOff_4 (by decide) (fun c_4 => ?_) (fun c_4 => ?_)
    · replace hf := hf.1 c_4
      exact hJ18 a2 hf _ _ _ M (lv_sub hl [0, 1, 2, 3, 6] rfl)
    · replace hf := hf.2 c_4
      refine lv_iload_n hx hb dX3_washedOff_7 rfl (lv_at hl 4 rfl) ?_
      refine lv_iload hx hb dX3_washedOff_8 (lv_at hl 5 rfl) ?_
      refine lv_icmp_ne (tgt := 18) hx hb dX3_washedOff_10 (by decide) (fun c_10 => ?_) (fun c_10 => ?_)
      · replace hf := hf.1 c_10
        exact hJ18 a2 hf _ _ _ M (lv_sub hl [0, 1, 2, 3, 6] rfl)
      · replace hf := hf.2 c_10
        refine lv_iconst (v := (3 : Int32)) hx hb dX3_washedOff_13 (by decide) ?_
        refine lv_iload_n hx hb dX3_washedOff_14 rfl (lv_at hl 3 rfl) ?_
        refine lv_imul hx hb dX3_washedOff_15 ?_
        refine lv_topi (fun x6_16 ex6_16 => ?_)
        replace hf := hf x6_16 ex6_16
        refine lv_istore (lv' := [(6, .int x6_16), (0, .ref (ad (17 + k0))), (1, .int a1), (2, .int a2), (3, .int a3), (4, .int a4), (5, .int a5)]) hx hb dX3_washedOff_16 hl (by decide) rfl (fun ls hl => ?_)
        exact hJ18 x6_16 hf _ _ _ M (lv_sub hl [0, 1, 2, 3, 6] rfl)
def wp_J6_bitCount_0f7a4 (n : Nat) (a0 : Int32) (μ : xM) (K : Int32 → Prop) : Prop :=
  (∀ x0_9 : Int32, x0_9 = a0 - (((a0.toUInt32 >>> ((1 : Int32).toUInt32 &&& Int32.toUInt32 31)).toInt32) &&& (1431655765 : Int32)) → (∀ x0_23 : Int32, x0_23 = (x0_9 &&& (858993459 : Int32)) + (((x0_9.toUInt32 >>> ((2 : Int32).toUInt32 &&& Int32.toUInt32 31)).toInt32) &&& (858993459 : Int32)) → (∀ x0_33 : Int32, x0_33 = (x0_23 + ((x0_23.toUInt32 >>> ((4 : Int32).toUInt32 &&& Int32.toUInt32 31)).toInt32)) &&& (252645135 : Int32) → (∀ x0_40 : Int32, x0_40 = x0_33 + ((x0_33.toUInt32 >>> ((8 : Int32).toUInt32 &&& Int32.toUInt32 31)).toInt32) → (∀ x0_47 : Int32, x0_47 = x0_40 + ((x0_40.toUInt32 >>> ((16 : Int32).toUInt32 &&& Int32.toUInt32 31)).toInt32) → K (x0_47 &&& (63 : Int32)))))))
set_option maxHeartbeats 4000000 in
set_option maxRecDepth 100000 in
theorem cm_J6_bitCount_0f7a4 (l : Launch) (G : xG) (ad : Nat → Nat) (hI : xI 36 ad) (n : Nat) (a0 : Int32) (μ : xM) (K : Int32 → Prop) (hf : wp_J6_bitCount_0f7a4 n a0 μ K) : Met l yJ6_bitCount_0f7a4 (Cond.code yJ6_bitCount_0f7a4 cJ6_bitCount_0f7a4 1 (some .int) :: xw_all) (rmo 0 0) (va_Pc [.int a0] (xPre cS 36 G ad μ)) (xQi cS 36 G ad (fun r u => K r ∧ u = μ)) 0 0 (xR 36 ad) := by
  refine x_ent (nL := 1) (own := RJ6) (by decide) rfl hI (Nat.le_of_ble_eq_true rfl) ?_
  intro p e s m args below meth c H locs ls Q X hr hlk hQ M hl
  have hx := X.1.1
  have hb := X.1.2.1
  have hown := X.1.2.2.2.1
  have hts := X.1.2.2.2.2
  have hl : lv_has ls 1 [(0, .int a0)] := hl
  unfold wp_J6_bitCount_0f7a4 at hf
  refine lv_iload_n hx hb dJ6_bitCount_0f7a4_0 rfl (lv_at hl 0 rfl) ?_
  refine lv_iload_n hx hb dJ6_bitCount_0f7a4_1 rfl (lv_at hl 0 rfl) ?_
  refine lv_iconst (v := (1 : Int32)) hx hb dJ6_bitCount_0f7a4_2 (by decide) ?_
  refine lv_iushr hx hb dJ6_bitCount_0f7a4_3 rfl ?_
  refine lv_ldcw (v := (1431655765 : Int32)) hx hb hown (hts _ kc_J6_265) dJ6_bitCount_0f7a4_4 ?_
  refine lv_iand hx hb dJ6_bitCount_0f7a4_7 ?_
  refine lv_isub hx hb dJ6_bitCount_0f7a4_8 ?_
  refine lv_topi (fun x0_9 ex0_9 => ?_)
  replace hf := hf x0_9 ex0_9
  refine lv_istore_n (lv' := [(0, .int x0_9)]) hx hb dJ6_bitCount_0f7a4_9 rfl hl (by decide) rfl (fun ls hl => ?_)
  refine lv_iload_n hx hb dJ6_bitCount_0f7a4_10 rfl (lv_at hl 0 rfl) ?_
  refine lv_ldcw (v := (858993459 : Int32)) hx hb hown (hts _ kc_J6_266) dJ6_bitCount_0f7a4_11 ?_
  refine lv_iand hx hb dJ6_bitCount_0f7a4_14 ?_
  refine lv_iload_n hx hb dJ6_bitCount_0f7a4_15 rfl (lv_at hl 0 rfl) ?_
  refine lv_iconst (v := (2 : Int32)) hx hb dJ6_bitCount_0f7a4_16 (by decide) ?_
  refine lv_iushr hx hb dJ6_bitCount_0f7a4_17 rfl ?_
  refine lv_ldcw (v := (858993459 : Int32)) hx hb hown (hts _ kc_J6_266) dJ6_bitCount_0f7a4_18 ?_
  refine lv_iand hx hb dJ6_bitCount_0f7a4_21 ?_
  refine lv_iadd hx hb dJ6_bitCount_0f7a4_22 ?_
  refine lv_topi (fun x0_23 ex0_23 => ?_)
  replace hf := hf x0_23 ex0_23
  refine lv_istore_n (lv' := [(0, .int x0_23)]) hx hb dJ6_bitCount_0f7a4_23 rfl hl (by decide) rfl (fun ls hl => ?_)
  refine lv_iload_n hx hb dJ6_bitCount_0f7a4_24 rfl (lv_at hl 0 rfl) ?_
  refine lv_iload_n hx hb dJ6_bitCount_0f7a4_25 rfl (lv_at hl 0 rfl) ?_
  refine lv_iconst (v := (4 : Int32)) hx hb dJ6_bitCount_0f7a4_26 (by decide) ?_
  refine lv_iushr hx hb dJ6_bitCount_0f7a4_27 rfl ?_
  refine lv_iadd hx hb dJ6_bitCount_0f7a4_28 ?_
  refine lv_ldcw (v := (252645135 : Int32)) hx hb hown (hts _ kc_J6_267) dJ6_bitCount_0f7a4_29 ?_
  refine lv_iand hx hb dJ6_bitCount_0f7a4_32 ?_
  refine lv_topi (fun x0_33 ex0_33 => ?_)
  replace hf := hf x0_33 ex0_33
  refine lv_istore_n (lv' := [(0, .int x0_33)]) hx hb dJ6_bitCount_0f7a4_33 rfl hl (by decide) rfl (fun ls hl => ?_)
  refine lv_iload_n hx hb dJ6_bitCount_0f7a4_34 rfl (lv_at hl 0 rfl) ?_
  refine lv_iload_n hx hb dJ6_bitCount_0f7a4_35 rfl (lv_at hl 0 rfl) ?_
  refine lv_bipush (v := (8 : Int32)) hx hb dJ6_bitCount_0f7a4_36 (by decide) ?_
  refine lv_iushr hx hb dJ6_bitCount_0f7a4_38 rfl ?_
  refine lv_iadd hx hb dJ6_bitCount_0f7a4_39 ?_
  refine lv_topi (fun x0_40 ex0_40 => ?_)
  replace hf := hf x0_40 ex0_40
  refine lv_istore_n (lv' := [(0, .int x0_40)]) hx hb dJ6_bitCount_0f7a4_40 rfl hl (by decide) rfl (fun ls hl => ?_)
  refine lv_iload_n hx hb dJ6_bitCount_0f7a4_41 rfl (lv_at hl 0 rfl) ?_
  refine lv_iload_n hx hb dJ6_bitCount_0f7a4_42 rfl (lv_at hl 0 rfl) ?_
  refine lv_bipush (v := (16 : Int32)) hx hb dJ6_bitCount_0f7a4_43 (by decide) ?_
  refine lv_iushr hx hb dJ6_bitCount_0f7a4_45 rfl ?_
  refine lv_iadd hx hb dJ6_bitCount_0f7a4_46 ?_
  refine lv_topi (fun x0_47 ex0_47 => ?_)
  replace hf := hf x0_47 ex0_47
  refine lv_istore_n (lv' := [(0, .int x0_47)]) hx hb dJ6_bitCount_0f7a4_47 rfl hl (by decide) rfl (fun ls hl => ?_)
  refine lv_iload_n hx hb dJ6_bitCount_0f7a4_48 rfl (lv_at hl 0 rfl) ?_
  refine lv_bipush (v := (63 : Int32)) hx hb dJ6_bitCount_0f7a4_49 (by decide) ?_
  refine lv_iand hx hb dJ6_bitCount_0f7a4_51 ?_
  rw [hQ]
  exact x_iret X M hr hlk dJ6_bitCount_0f7a4_52 ⟨hf, rfl⟩
def wp_X3_lickable (n : Nat) (k0 : Nat) (a1 : Int32) (μ : xM) (K : Int32 → Prop) : Prop :=
  (((μ (17 + k0) 4) = 0 → ((¬ (μ (17 + k0) 1) = 0 → (vp_in (2 : Int32) 3 ∧ ((((2 : Int32) * a1) ≤ (μ (24 + k0) (2 : Int32).toNatClampNeg) → K (0 : Int32)) ∧ (¬ ((2 : Int32) * a1) ≤ (μ (24 + k0) (2 : Int32).toNatClampNeg) → K (1 : Int32))))) ∧ ((μ (17 + k0) 1) = 0 → ((a1 ≤ 0 → K (0 : Int32)) ∧ (¬ a1 ≤ 0 → K (1 : Int32)))))) ∧ (¬ (μ (17 + k0) 4) = 0 → K (0 : Int32)))
set_option maxHeartbeats 4000000 in
set_option maxRecDepth 100000 in
theorem cm_X3_lickable (l : Launch) (G : xG) (ad : Nat → Nat) (hI : xI 36 ad) (n : Nat) (k0 : Nat) (hk0 : k0 < 7) (a1 : Int32) (μ : xM) (K : Int32 → Prop) (hf : wp_X3_lickable n k0 a1 μ K) : Met l yX3_lickable (Cond.code yX3_lickable cX3_lickable 2 (some .boolean) :: xw_all) (rmo 0 0) (va_Pc [.ref (ad (17 + k0)), .int a1] (xPre cS 36 G ad μ)) (xQi cS 36 G ad (fun r u => K r ∧ u = μ)) 0 0 (xR 36 ad) := by
  refine x_ent (nL := 2) (own := RX3) (by decide) rfl hI (Nat.le_of_ble_eq_true rfl) ?_
  intro p e s m args below meth c H locs ls Q X hr hlk hQ M hl
  have hx := X.1.1
  have hb := X.1.2.1
  have hown := X.1.2.2.2.1
  have hts := X.1.2.2.2.2
  have hl : lv_has ls 2 [(0, .ref (ad (17 + k0))), (1, .int a1)] := hl
  unfold wp_X3_lickable at hf
  refine lv_aload_n hx hb dX3_lickable_0 rfl (lv_at hl 0 rfl) ?_
  refine x_getI X M (rgc_17 hk0) fd_X3_25 rfl dX3_lickable_1 ?_
  refine lv_if_eq (tgt := 9) hx hb dX3_lickable_4 (by decide) (fun c_4 => ?_) (fun c_4 => ?_)
  · replace hf := hf.1 c_4
    refine lv_aload_n hx hb dX3_lickable_9 rfl (lv_at hl 0 rfl) ?_
    refine x_getI X M (rgc_17 hk0) fd_X3_15 rfl dX3_lickable_10 ?_
    refine lv_if_ne (tgt := 26) hx hb dX3_lickable_13 (by decide) (fun c_13 => ?_) (fun c_13 => ?_)
    · replace hf := hf.1 c_13
      refine lv_iconst (v := (2 : Int32)) hx hb dX3_lickable_26 (by decide) ?_
      refine lv_iload_n hx hb dX3_lickable_27 rfl (lv_at hl 1 rfl) ?_
      refine lv_imul hx hb dX3_lickable_28 ?_
      refine lv_aload_n hx hb dX3_lickable_29 rfl (lv_at hl 0 rfl) ?_
      refine x_getR (r := (24 + k0)) X M (rgc_17 hk0) fd_X3_9 rfl dX3_lickable_30 ?_
      refine lv_iconst (v := (2 : Int32)) hx hb dX3_lickable_33 (by decide) ?_
      obtain ⟨g_34, hf⟩ := hf
      refine x_ild X M (rgc_24 hk0) g_34 dX3_lickable_34 ?_
      refine lv_icmp_le (tgt := 42) hx hb dX3_lickable_35 (by decide) (fun c_35 => ?_) (fun c_35 => ?_)
      · replace hf := hf.1 c_35
        refine lv_iconst (v := (0 : Int32)) hx hb dX3_lickable_42 (by decide) ?_
        rw [hQ]
        exact x_zret X M hr hlk xb_0 dX3_lickable_43 ⟨hf, rfl⟩
      · replace hf := hf.2 c_35
        refine lv_iconst (v := (1 : Int32)) hx hb dX3_lickable_38 (by decide) ?_
        refine lv_goto (tgt := 43) hx hb dX3_lickable_39 (by decide) ?_
        rw [hQ]
        exact x_zret X M hr hlk xb_1 dX3_lickable_43 ⟨hf, rfl⟩
    · replace hf := hf.2 c_13
      refine lv_iload_n hx hb dX3_lickable_16 rfl (lv_at hl 1 rfl) ?_
      refine lv_if_le (tgt := 24) hx hb dX3_lickable_17 (by decide) (fun c_17 => ?_) (fun c_17 => ?_)
      · replace hf := hf.1 c_17
        refine lv_iconst (v := (0 : Int32)) hx hb dX3_lickable_24 (by decide) ?_
        rw [hQ]
        exact x_zret X M hr hlk xb_0 dX3_lickable_25 ⟨hf, rfl⟩
      · replace hf := hf.2 c_17
        refine lv_iconst (v := (1 : Int32)) hx hb dX3_lickable_20 (by decide) ?_
        refine lv_goto (tgt := 25) hx hb dX3_lickable_21 (by decide) ?_
        rw [hQ]
        exact x_zret X M hr hlk xb_1 dX3_lickable_25 ⟨hf, rfl⟩
  · replace hf := hf.2 c_4
    refine lv_iconst (v := (0 : Int32)) hx hb dX3_lickable_7 (by decide) ?_
    rw [hQ]
    exact x_zret X M hr hlk xb_0 dX3_lickable_8 ⟨hf, rfl⟩
def wp_X2_renew (n : Nat) (k0 : Nat) (a1 : Int32) (a2 : Int32) (μ : xM) (K : xM → Prop) : Prop :=
  (∀ m_2 : xM, m_2 = xu μ (2 + k0) 1 (1 : Int32) → (∀ m_7 : xM, m_7 = xu m_2 (2 + k0) 2 a1 → (∀ m_12 : xM, m_12 = xu m_7 (2 + k0) 3 a2 → xlp (fun (again17 : (Int32 × xM) → Prop) => fun (s_ : Int32 × xM) => match s_ with | (x3_17, m_17) => (((60 : Int32) ≤ x3_17 → K m_17) ∧ (¬ (60 : Int32) ≤ x3_17 → (vp_in x3_17 60 ∧ (∀ m_29 : xM, m_29 = xu m_17 (6 + k0) x3_17.toNatClampNeg (0 : Int32) → (∀ x3_30 : Int32, x3_30 = x3_17 + 1 → again17 (x3_30, m_29))))))) n ((0 : Int32), m_12))))
set_option maxHeartbeats 4000000 in
set_option maxRecDepth 100000 in
theorem cm_X2_renew (l : Launch) (G : xG) (ad : Nat → Nat) (hI : xI 36 ad) (n : Nat) (k0 : Nat) (hk0 : k0 < 4) (a1 : Int32) (a2 : Int32) (μ : xM) (K : xM → Prop) (hf : wp_X2_renew n k0 a1 a2 μ K) : Met l yX2_renew (Cond.code yX2_renew cX2_renew 4 none :: xw_all) (rmo 0 0) (va_Pc [.ref (ad (2 + k0)), .int a1, .int a2] (xPre cS 36 G ad μ)) (xQv cS 36 G ad K) 0 0 (xR 36 ad) := by
  refine x_ent (nL := 4) (own := RX2) (by decide) rfl hI (Nat.le_of_ble_eq_true rfl) ?_
  intro p e s m args below meth c H locs ls Q X hr hlk hQ M hl
  have hx := X.1.1
  have hb := X.1.2.1
  have hown := X.1.2.2.2.1
  have hts := X.1.2.2.2.2
  have hl : lv_has ls 4 [(0, .ref (ad (2 + k0))), (1, .int a1), (2, .int a2)] := hl
  unfold wp_X2_renew at hf
  refine lv_aload_n hx hb dX2_renew_0 rfl (lv_at hl 0 rfl) ?_
  refine lv_iconst (v := (1 : Int32)) hx hb dX2_renew_1 (by decide) ?_
  refine x_putZ X M (rgc_2 hk0) fp_X2_15 rfl xb_1 dX2_renew_2 (fun m_2 H locs em_2 M => ?_)
  replace hf := hf m_2 em_2
  refine lv_aload_n hx hb dX2_renew_5 rfl (lv_at hl 0 rfl) ?_
  refine lv_iload_n hx hb dX2_renew_6 rfl (lv_at hl 1 rfl) ?_
  refine x_putI X M (rgc_2 hk0) fp_X2_19 rfl dX2_renew_7 (fun m_7 H locs em_7 M => ?_)
  replace hf := hf m_7 em_7
  refine lv_aload_n hx hb dX2_renew_10 rfl (lv_at hl 0 rfl) ?_
  refine lv_iload_n hx hb dX2_renew_11 rfl (lv_at hl 2 rfl) ?_
  refine x_putI X M (rgc_2 hk0) fp_X2_23 rfl dX2_renew_12 (fun m_12 H locs em_12 M => ?_)
  replace hf := hf m_12 em_12
  refine lv_iconst (v := (0 : Int32)) hx hb dX2_renew_15 (by decide) ?_
  refine lv_istore_n (lv' := [(3, .int (0 : Int32)), (0, .ref (ad (2 + k0))), (1, .int a1), (2, .int a2)]) hx hb dX2_renew_16 rfl hl (by decide) rfl (fun ls hl => ?_)
  refine xlp_w hf (fun (s_ : Int32 × xM) => match s_ with | (x3_17, m_17) => ∀ (H : Heap) (locs : List Loc) (ls : Array Slot), xS cS 36 G ad s m_17 H locs → lv_has ls 4 [(3, .int x3_17), (0, .ref (ad (2 + k0)))] → W p l e (rmo 0 0) s m args below meth c H locs 0 0 Q (F0 m 17 ls [])) ?_ _ _ _ M (lv_sub hl [0, 1] rfl)
  intro again17 hagain17 s_ hf
  obtain ⟨x3_17, m_17⟩ := s_
  try dsimp only at hf ⊢
  intro H locs ls M hl
  refine lv_iload_n hx hb dX2_renew_17 rfl (lv_at hl 0 rfl) ?_
  refine lv_bipush (v := (60 : Int32)) hx hb dX2_renew_18 (by decide) ?_
  refine lv_icmp_ge (tgt := 36) hx hb dX2_renew_20 (by decide) (fun c_20 => ?_) (fun c_20 => ?_)
  · replace hf := hf.1 c_20
    rw [hQ]
    exact x_vret X M hr hlk dX2_renew_36 hf
  · replace hf := hf.2 c_20
    refine lv_aload_n hx hb dX2_renew_23 rfl (lv_at hl 1 rfl) ?_
    refine x_getR (r := (6 + k0)) X M (rgc_2 hk0) fd_X2_9 rfl dX2_renew_24 ?_
    refine lv_iload_n hx hb dX2_renew_27 rfl (lv_at hl 0 rfl) ?_
    refine lv_iconst (v := (0 : Int32)) hx hb dX2_renew_28 (by decide) ?_
    obtain ⟨g_29, hf⟩ := hf
    refine x_ist X M (rgc_6 hk0) g_29 dX2_renew_29 (fun m_29 H locs em_29 M => ?_)
    replace hf := hf m_29 em_29
    obtain ⟨x3_30, ex3_30⟩ : ∃ y : Int32, y = x3_17 + 1 := ⟨_, rfl⟩
    replace hf := hf x3_30 ex3_30
    refine lv_iinc (v := x3_30) (lv' := [(3, .int x3_30), (0, .ref (ad (2 + k0)))]) hx hb dX2_renew_30 hl (k := 0) rfl (by rw [ex3_30]; rfl) (by decide) rfl (fun ls hl => ?_)
    refine lv_goto (tgt := 17) hx hb dX2_renew_33 (by decide) ?_
    exact hagain17 (x3_30, m_29) hf _ _ _ M (lv_sub hl [0, 1] rfl)
def wp_X2_faultAs (n : Nat) (k0 : Nat) (a1 : Int32) (μ : xM) (K : Int32 → Prop) : Prop :=
  ((¬ (μ (2 + k0) 1) = 0 → ((¬ (μ (2 + k0) 2) = a1 → K (2 : Int32)) ∧ ((μ (2 + k0) 2) = a1 → K (0 : Int32)))) ∧ ((μ (2 + k0) 1) = 0 → K (1 : Int32)))
set_option maxHeartbeats 4000000 in
set_option maxRecDepth 100000 in
theorem cm_X2_faultAs (l : Launch) (G : xG) (ad : Nat → Nat) (hI : xI 36 ad) (n : Nat) (k0 : Nat) (hk0 : k0 < 4) (a1 : Int32) (μ : xM) (K : Int32 → Prop) (hf : wp_X2_faultAs n k0 a1 μ K) : Met l yX2_faultAs (Cond.code yX2_faultAs cX2_faultAs 2 (some .int) :: xw_all) (rmo 0 0) (va_Pc [.ref (ad (2 + k0)), .int a1] (xPre cS 36 G ad μ)) (xQi cS 36 G ad (fun r u => K r ∧ u = μ)) 0 0 (xR 36 ad) := by
  refine x_ent (nL := 2) (own := RX2) (by decide) rfl hI (Nat.le_of_ble_eq_true rfl) ?_
  intro p e s m args below meth c H locs ls Q X hr hlk hQ M hl
  have hx := X.1.1
  have hb := X.1.2.1
  have hown := X.1.2.2.2.1
  have hts := X.1.2.2.2.2
  have hl : lv_has ls 2 [(0, .ref (ad (2 + k0))), (1, .int a1)] := hl
  unfold wp_X2_faultAs at hf
  refine lv_aload_n hx hb dX2_faultAs_0 rfl (lv_at hl 0 rfl) ?_
  refine x_getI X M (rgc_2 hk0) fd_X2_15 rfl dX2_faultAs_1 ?_
  refine lv_if_ne (tgt := 9) hx hb dX2_faultAs_4 (by decide) (fun c_4 => ?_) (fun c_4 => ?_)
  · replace hf := hf.1 c_4
    refine lv_aload_n hx hb dX2_faultAs_9 rfl (lv_at hl 0 rfl) ?_
    refine x_getI X M (rgc_2 hk0) fd_X2_19 rfl dX2_faultAs_10 ?_
    refine lv_iload_n hx hb dX2_faultAs_13 rfl (lv_at hl 1 rfl) ?_
    refine lv_icmp_ne (tgt := 21) hx hb dX2_faultAs_14 (by decide) (fun c_14 => ?_) (fun c_14 => ?_)
    · replace hf := hf.1 c_14
      refine lv_iconst (v := (2 : Int32)) hx hb dX2_faultAs_21 (by decide) ?_
      rw [hQ]
      exact x_iret X M hr hlk dX2_faultAs_22 ⟨hf, rfl⟩
    · replace hf := hf.2 c_14
      refine lv_iconst (v := (0 : Int32)) hx hb dX2_faultAs_17 (by decide) ?_
      refine lv_goto (tgt := 22) hx hb dX2_faultAs_18 (by decide) ?_
      rw [hQ]
      exact x_iret X M hr hlk dX2_faultAs_22 ⟨hf, rfl⟩
  · replace hf := hf.2 c_4
    refine lv_iconst (v := (1 : Int32)) hx hb dX2_faultAs_7 (by decide) ?_
    rw [hQ]
    exact x_iret X M hr hlk dX2_faultAs_8 ⟨hf, rfl⟩
def wp_X2_hasRun (n : Nat) (k0 : Nat) (a1 : Int32) (a2 : Int32) (μ : xM) (K : Int32 → Prop) : Prop :=
  ((a1 < 0 → K (0 : Int32)) ∧ (¬ a1 < 0 → (((μ (2 + k0) 3) < a1 → K (0 : Int32)) ∧ (¬ (μ (2 + k0) 3) < a1 → ((a2 < 0 → K (0 : Int32)) ∧ (¬ a2 < 0 → ((((μ (2 + k0) 3) - a1) < a2 → K (0 : Int32)) ∧ (¬ ((μ (2 + k0) 3) - a1) < a2 → K (1 : Int32)))))))))
set_option maxHeartbeats 4000000 in
set_option maxRecDepth 100000 in
theorem cm_X2_hasRun (l : Launch) (G : xG) (ad : Nat → Nat) (hI : xI 36 ad) (n : Nat) (k0 : Nat) (hk0 : k0 < 4) (a1 : Int32) (a2 : Int32) (μ : xM) (K : Int32 → Prop) (hf : wp_X2_hasRun n k0 a1 a2 μ K) : Met l yX2_hasRun (Cond.code yX2_hasRun cX2_hasRun 3 (some .boolean) :: xw_all) (rmo 0 0) (va_Pc [.ref (ad (2 + k0)), .int a1, .int a2] (xPre cS 36 G ad μ)) (xQi cS 36 G ad (fun r u => K r ∧ u = μ)) 0 0 (xR 36 ad) := by
  refine x_ent (nL := 3) (own := RX2) (by decide) rfl hI (Nat.le_of_ble_eq_true rfl) ?_
  intro p e s m args below meth c H locs ls Q X hr hlk hQ M hl
  have hx := X.1.1
  have hb := X.1.2.1
  have hown := X.1.2.2.2.1
  have hts := X.1.2.2.2.2
  have hl : lv_has ls 3 [(0, .ref (ad (2 + k0))), (1, .int a1), (2, .int a2)] := hl
  unfold wp_X2_hasRun at hf
  refine lv_iload_n hx hb dX2_hasRun_0 rfl (lv_at hl 1 rfl) ?_
  refine lv_if_lt (tgt := 30) hx hb dX2_hasRun_1 (by decide) (fun c_1 => ?_) (fun c_1 => ?_)
  · replace hf := hf.1 c_1
    refine lv_iconst (v := (0 : Int32)) hx hb dX2_hasRun_30 (by decide) ?_
    rw [hQ]
    exact x_zret X M hr hlk xb_0 dX2_hasRun_31 ⟨hf, rfl⟩
  · replace hf := hf.2 c_1
    refine lv_iload_n hx hb dX2_hasRun_4 rfl (lv_at hl 1 rfl) ?_
    refine lv_aload_n hx hb dX2_hasRun_5 rfl (lv_at hl 0 rfl) ?_
    refine x_getI X M (rgc_2 hk0) fd_X2_23 rfl dX2_hasRun_6 ?_
    refine lv_icmp_gt (tgt := 30) hx hb dX2_hasRun_9 (by decide) (fun c_9 => ?_) (fun c_9 => ?_)
    · replace hf := hf.1 c_9
      refine lv_iconst (v := (0 : Int32)) hx hb dX2_hasRun_30 (by decide) ?_
      rw [hQ]
      exact x_zret X M hr hlk xb_0 dX2_hasRun_31 ⟨hf, rfl⟩
    · replace hf := hf.2 c_9
      refine lv_iload_n hx hb dX2_hasRun_12 rfl (lv_at hl 2 rfl) ?_
      refine lv_if_lt (tgt := 30) hx hb dX2_hasRun_13 (by decide) (fun c_13 => ?_) (fun c_13 => ?_)
      · replace hf := hf.1 c_13
        refine lv_iconst (v := (0 : Int32)) hx hb dX2_hasRun_30 (by decide) ?_
        rw [hQ]
        exact x_zret X M hr hlk xb_0 dX2_hasRun_31 ⟨hf, rfl⟩
      · replace hf := hf.2 c_13
        refine lv_iload_n hx hb dX2_hasRun_16 rfl (lv_at hl 2 rfl) ?_
        refine lv_aload_n hx hb dX2_hasRun_17 rfl (lv_at hl 0 rfl) ?_
        refine x_getI X M (rgc_2 hk0) fd_X2_23 rfl dX2_hasRun_18 ?_
        refine lv_iload_n hx hb dX2_hasRun_21 rfl (lv_at hl 1 rfl) ?_
        refine lv_isub hx hb dX2_hasRun_22 ?_
        refine lv_icmp_gt (tgt := 30) hx hb dX2_hasRun_23 (by decide) (fun c_23 => ?_) (fun c_23 => ?_)
        · replace hf := hf.1 c_23
          refine lv_iconst (v := (0 : Int32)) hx hb dX2_hasRun_30 (by decide) ?_
          rw [hQ]
          exact x_zret X M hr hlk xb_0 dX2_hasRun_31 ⟨hf, rfl⟩
        · replace hf := hf.2 c_23
          refine lv_iconst (v := (1 : Int32)) hx hb dX2_hasRun_26 (by decide) ?_
          refine lv_goto (tgt := 31) hx hb dX2_hasRun_27 (by decide) ?_
          rw [hQ]
          exact x_zret X M hr hlk xb_1 dX2_hasRun_31 ⟨hf, rfl⟩
def wp_X2_cut (n : Nat) (k0 : Nat) (a1 : Int32) (μ : xM) (K : Int32 → Prop) : Prop :=
  ((¬ (μ (2 + k0) 2) = 0 → ((¬ (μ (2 + k0) 2) = (1 : Int32) → K a1) ∧ ((μ (2 + k0) 2) = (1 : Int32) → K (a1.toInt16.toInt32)))) ∧ ((μ (2 + k0) 2) = 0 → K (a1.toInt8.toInt32)))
set_option maxHeartbeats 4000000 in
set_option maxRecDepth 100000 in
theorem cm_X2_cut (l : Launch) (G : xG) (ad : Nat → Nat) (hI : xI 36 ad) (n : Nat) (k0 : Nat) (hk0 : k0 < 4) (a1 : Int32) (μ : xM) (K : Int32 → Prop) (hf : wp_X2_cut n k0 a1 μ K) : Met l yX2_cut (Cond.code yX2_cut cX2_cut 2 (some .int) :: xw_all) (rmo 0 0) (va_Pc [.ref (ad (2 + k0)), .int a1] (xPre cS 36 G ad μ)) (xQi cS 36 G ad (fun r u => K r ∧ u = μ)) 0 0 (xR 36 ad) := by
  refine x_ent (nL := 2) (own := RX2) (by decide) rfl hI (Nat.le_of_ble_eq_true rfl) ?_
  intro p e s m args below meth c H locs ls Q X hr hlk hQ M hl
  have hx := X.1.1
  have hb := X.1.2.1
  have hown := X.1.2.2.2.1
  have hts := X.1.2.2.2.2
  have hl : lv_has ls 2 [(0, .ref (ad (2 + k0))), (1, .int a1)] := hl
  unfold wp_X2_cut at hf
  refine lv_aload_n hx hb dX2_cut_0 rfl (lv_at hl 0 rfl) ?_
  refine x_getI X M (rgc_2 hk0) fd_X2_19 rfl dX2_cut_1 ?_
  refine lv_if_ne (tgt := 10) hx hb dX2_cut_4 (by decide) (fun c_4 => ?_) (fun c_4 => ?_)
  · replace hf := hf.1 c_4
    refine lv_aload_n hx hb dX2_cut_10 rfl (lv_at hl 0 rfl) ?_
    refine x_getI X M (rgc_2 hk0) fd_X2_19 rfl dX2_cut_11 ?_
    refine lv_iconst (v := (1 : Int32)) hx hb dX2_cut_14 (by decide) ?_
    refine lv_icmp_ne (tgt := 23) hx hb dX2_cut_15 (by decide) (fun c_15 => ?_) (fun c_15 => ?_)
    · replace hf := hf.1 c_15
      refine lv_iload_n hx hb dX2_cut_23 rfl (lv_at hl 1 rfl) ?_
      rw [hQ]
      exact x_iret X M hr hlk dX2_cut_24 ⟨hf, rfl⟩
    · replace hf := hf.2 c_15
      refine lv_iload_n hx hb dX2_cut_18 rfl (lv_at hl 1 rfl) ?_
      refine lv_i2s hx hb dX2_cut_19 rfl ?_
      refine lv_goto (tgt := 24) hx hb dX2_cut_20 (by decide) ?_
      rw [hQ]
      exact x_iret X M hr hlk dX2_cut_24 ⟨hf, rfl⟩
  · replace hf := hf.2 c_4
    refine lv_iload_n hx hb dX2_cut_7 rfl (lv_at hl 1 rfl) ?_
    refine lv_i2b hx hb dX2_cut_8 rfl ?_
    rw [hQ]
    exact x_iret X M hr hlk dX2_cut_9 ⟨hf, rfl⟩
def wp_X4_kindOf (n : Nat) (a0 : Int32) (μ : xM) (K : Int32 → Prop) : Prop :=
  (((a0 = 98) → K (1 : Int32)) ∧ (¬ (a0 = 98) → (((a0 = 109) → K (2 : Int32)) ∧ (¬ (a0 = 109) → (((a0 = 115) → K (0 : Int32)) ∧ (¬ (a0 = 115) → K ((-9) : Int32)))))))
set_option maxHeartbeats 4000000 in
set_option maxRecDepth 100000 in
theorem cm_X4_kindOf (l : Launch) (G : xG) (ad : Nat → Nat) (hI : xI 36 ad) (n : Nat) (a0 : Int32) (μ : xM) (K : Int32 → Prop) (hf : wp_X4_kindOf n a0 μ K) : Met l yX4_kindOf (Cond.code yX4_kindOf cX4_kindOf 1 (some .int) :: xw_all) (rmo 0 0) (va_Pc [.int a0] (xPre cS 36 G ad μ)) (xQi cS 36 G ad (fun r u => K r ∧ u = μ)) 0 0 (xR 36 ad) := by
  refine x_ent (nL := 1) (own := RX4) (by decide) rfl hI (Nat.le_of_ble_eq_true rfl) ?_
  intro p e s m args below meth c H locs ls Q X hr hlk hQ M hl
  have hx := X.1.1
  have hb := X.1.2.1
  have hown := X.1.2.2.2.1
  have hts := X.1.2.2.2.2
  have hl : lv_has ls 1 [(0, .int a0)] := hl
  unfold wp_X4_kindOf at hf
  refine lv_iload_n hx hb dX4_kindOf_0 rfl (lv_at hl 0 rfl) ?_
  by_cases c_1_0 : a0 = 98
  · replace hf := hf.1 c_1_0
    refine lv_lookup (off := 37) (tgt := 38) hx hb dX4_kindOf_1 (by decide) (by have q := c_1_0; (rw [q] <;> decide)) (by decide) ?_
    refine lv_iconst (v := (1 : Int32)) hx hb dX4_kindOf_38 (by decide) ?_
    rw [hQ]
    exact x_iret X M hr hlk dX4_kindOf_39 ⟨hf, rfl⟩
  · replace hf := hf.2 c_1_0
    by_cases c_1_1 : a0 = 109
    · replace hf := hf.1 c_1_1
      refine lv_lookup (off := 39) (tgt := 40) hx hb dX4_kindOf_1 (by decide) (by have q := c_1_1; (rw [q] <;> decide)) (by decide) ?_
      refine lv_iconst (v := (2 : Int32)) hx hb dX4_kindOf_40 (by decide) ?_
      rw [hQ]
      exact x_iret X M hr hlk dX4_kindOf_41 ⟨hf, rfl⟩
    · replace hf := hf.2 c_1_1
      by_cases c_1_2 : a0 = 115
      · replace hf := hf.1 c_1_2
        refine lv_lookup (off := 35) (tgt := 36) hx hb dX4_kindOf_1 (by decide) (by have q := c_1_2; (rw [q] <;> decide)) (by decide) ?_
        refine lv_iconst (v := (0 : Int32)) hx hb dX4_kindOf_36 (by decide) ?_
        rw [hQ]
        exact x_iret X M hr hlk dX4_kindOf_37 ⟨hf, rfl⟩
      · replace hf := hf.2 c_1_2
        have n_1_98 : ¬ a0.toInt = 98 := fun q => c_1_0 (by rw [Int32.toInt_inj.mp (q.trans (show (98 : Int) = (98 : Int32).toInt from rfl))] <;> decide)
        have n_1_109 : ¬ a0.toInt = 109 := fun q => c_1_1 (by rw [Int32.toInt_inj.mp (q.trans (show (109 : Int) = (109 : Int32).toInt from rfl))] <;> decide)
        have n_1_115 : ¬ a0.toInt = 115 := fun q => c_1_2 (by rw [Int32.toInt_inj.mp (q.trans (show (115 : Int) = (115 : Int32).toInt from rfl))] <;> decide)
        refine lv_lookup (off := 41) (tgt := 42) hx hb dX4_kindOf_1 (by decide) (by simp [Op.lookupswitch.offset]; (repeat' split) <;> omega) (by decide) ?_
        refine lv_bipush (v := ((-9) : Int32)) hx hb dX4_kindOf_42 (by decide) ?_
        rw [hQ]
        exact x_iret X M hr hlk dX4_kindOf_44 ⟨hf, rfl⟩
def wp_X3_carve (n : Nat) (k0 : Nat) (k1 : Nat) (a2 : Int32) (μ : xM) (K : xM → Prop) : Prop :=
  (vp_in a2 60 ∧ wp_X4_kindOf n (μ (6 + k1) a2.toNatClampNeg) μ (fun r_7 : Int32 => (∀ m_10 : xM, m_10 = xu μ (17 + k0) 1 r_7 → xjn (fun (m_48 : xM) => (vp_in ((a2 + (1 : Int32)) + (3 : Int32)) 60 ∧ (∀ m_62 : xM, m_62 = xu m_48 (17 + k0) 2 ((m_48 (6 + k1) ((a2 + (1 : Int32)) + (3 : Int32)).toNatClampNeg) - (48 : Int32)) → (∀ m_67 : xM, m_67 = xu m_62 (17 + k0) 3 (0 : Int32) → (∀ m_72 : xM, m_72 = xu m_67 (17 + k0) 4 (0 : Int32) → K m_72))))) (fun J48 : xM → Prop => xlp (fun (again15 : (Int32 × xM) → Prop) => fun (s_ : Int32 × xM) => match s_ with | (x3_15, m_15) => (((3 : Int32) ≤ x3_15 → J48 m_15) ∧ (¬ (3 : Int32) ≤ x3_15 → (vp_in ((a2 + (1 : Int32)) + x3_15) 60 ∧ (vp_in x3_15 3 ∧ (∀ m_41 : xM, m_41 = xu m_15 (24 + k0) x3_15.toNatClampNeg ((10 : Int32) * ((m_15 (6 + k1) ((a2 + (1 : Int32)) + x3_15).toNatClampNeg) - (48 : Int32))) → (∀ x3_42 : Int32, x3_42 = x3_15 + 1 → again15 (x3_42, m_41)))))))) n ((0 : Int32), m_10)))))
set_option maxHeartbeats 4000000 in
set_option maxRecDepth 100000 in
theorem cm_X3_carve (l : Launch) (G : xG) (ad : Nat → Nat) (hI : xI 36 ad) (n : Nat) (k0 : Nat) (hk0 : k0 < 7) (k1 : Nat) (hk1 : k1 < 4) (a2 : Int32) (μ : xM) (K : xM → Prop) (hf : wp_X3_carve n k0 k1 a2 μ K) : Met l yX3_carve (Cond.code yX3_carve cX3_carve 4 none :: xw_all) (rmo 1 20) (va_Pc [.ref (ad (17 + k0)), .ref (ad (2 + k1)), .int a2] (xPre cS 36 G ad μ)) (xQv cS 36 G ad K) 0 0 (xR 36 ad) := by
  refine x_ent (nL := 4) (own := RX3) (by decide) rfl hI (Nat.le_of_ble_eq_true rfl) ?_
  intro p e s m args below meth c H locs ls Q X hr hlk hQ M hl
  have hx := X.1.1
  have hb := X.1.2.1
  have hown := X.1.2.2.2.1
  have hts := X.1.2.2.2.2
  have hl : lv_has ls 4 [(0, .ref (ad (17 + k0))), (1, .ref (ad (2 + k1))), (2, .int a2)] := hl
  unfold wp_X3_carve at hf
  refine lv_aload_n hx hb dX3_carve_0 rfl (lv_at hl 0 rfl) ?_
  refine lv_aload_n hx hb dX3_carve_1 rfl (lv_at hl 1 rfl) ?_
  refine x_getR (r := (6 + k1)) X M (rgc_2 hk1) fd_X3_29 rfl dX3_carve_2 ?_
  refine lv_iload_n hx hb dX3_carve_5 rfl (lv_at hl 2 rfl) ?_
  obtain ⟨g_6, hf⟩ := hf
  refine x_ild X M (rgc_6 hk1) g_6 dX3_carve_6 ?_
  refine x_ciP (x_rSN (As := [.int (μ (6 + k1) a2.toNatClampNeg)]) (rest := [.ref (ad (17 + k0))]) X M (cm_X4_kindOf l G ad hI n (μ (6 + k1) a2.toNatClampNeg) μ _ hf) mc_X4_kindOf ms_X4_kindOf ln_X3_34 mn_X4_kindOf hl ⟨⟨Nat.le_of_ble_eq_true rfl, Nat.le_of_ble_eq_true rfl⟩, rfl, Nat.le_of_ble_eq_true rfl, Nat.zero_le _, Nat.zero_le _⟩ rfl dX3_carve_7) M (fun r_7 H locs hf M => ?_)
  try dsimp only at hf
  refine x_putI X M (rgc_17 hk0) fp_X3_15 rfl dX3_carve_10 (fun m_10 H locs em_10 M => ?_)
  replace hf := hf m_10 em_10
  refine lv_iconst (v := (0 : Int32)) hx hb dX3_carve_13 (by decide) ?_
  refine lv_istore_n (lv' := [(3, .int (0 : Int32)), (0, .ref (ad (17 + k0))), (1, .ref (ad (2 + k1))), (2, .int a2)]) hx hb dX3_carve_14 rfl hl (by decide) rfl (fun ls hl => ?_)
  refine xjn_w hf (fun (m_48 : xM) => ∀ (H : Heap) (locs : List Loc) (ls : Array Slot), xS cS 36 G ad s m_48 H locs → lv_has ls 4 [(0, .ref (ad (17 + k0))), (1, .ref (ad (2 + k1))), (2, .int a2)] → W p l e (rmo 1 20) s m args below meth c H locs 0 0 Q (F0 m 48 ls [])) ?_ ?_
  · intro m_48 hf
    intro H locs ls M hl
    refine lv_aload_n hx hb dX3_carve_48 rfl (lv_at hl 0 rfl) ?_
    refine lv_aload_n hx hb dX3_carve_49 rfl (lv_at hl 1 rfl) ?_
    refine x_getR (r := (6 + k1)) X M (rgc_2 hk1) fd_X3_29 rfl dX3_carve_50 ?_
    refine lv_iload_n hx hb dX3_carve_53 rfl (lv_at hl 2 rfl) ?_
    refine lv_iconst (v := (1 : Int32)) hx hb dX3_carve_54 (by decide) ?_
    refine lv_iadd hx hb dX3_carve_55 ?_
    refine lv_iconst (v := (3 : Int32)) hx hb dX3_carve_56 (by decide) ?_
    refine lv_iadd hx hb dX3_carve_57 ?_
    obtain ⟨g_58, hf⟩ := hf
    refine x_ild X M (rgc_6 hk1) g_58 dX3_carve_58 ?_
    refine lv_bipush (v := (48 : Int32)) hx hb dX3_carve_59 (by decide) ?_
    refine lv_isub hx hb dX3_carve_61 ?_
    refine x_putI X M (rgc_17 hk0) fp_X3_19 rfl dX3_carve_62 (fun m_62 H locs em_62 M => ?_)
    replace hf := hf m_62 em_62
    refine lv_aload_n hx hb dX3_carve_65 rfl (lv_at hl 0 rfl) ?_
    refine lv_iconst (v := (0 : Int32)) hx hb dX3_carve_66 (by decide) ?_
    refine x_putI X M (rgc_17 hk0) fp_X3_22 rfl dX3_carve_67 (fun m_67 H locs em_67 M => ?_)
    replace hf := hf m_67 em_67
    refine lv_aload_n hx hb dX3_carve_70 rfl (lv_at hl 0 rfl) ?_
    refine lv_iconst (v := (0 : Int32)) hx hb dX3_carve_71 (by decide) ?_
    refine x_putZ X M (rgc_17 hk0) fp_X3_25 rfl xb_0 dX3_carve_72 (fun m_72 H locs em_72 M => ?_)
    replace hf := hf m_72 em_72
    rw [hQ]
    exact x_vret X M hr hlk dX3_carve_75 hf
  · intro J48 hJ48 hf
    refine xlp_w hf (fun (s_ : Int32 × xM) => match s_ with | (x3_15, m_15) => ∀ (H : Heap) (locs : List Loc) (ls : Array Slot), xS cS 36 G ad s m_15 H locs → lv_has ls 4 [(3, .int x3_15), (0, .ref (ad (17 + k0))), (1, .ref (ad (2 + k1))), (2, .int a2)] → W p l e (rmo 1 20) s m args below meth c H locs 0 0 Q (F0 m 15 ls [])) ?_ _ _ _ M (lv_sub hl [0, 1, 2, 3] rfl)
    intro again15 hagain15 s_ hf
    obtain ⟨x3_15, m_15⟩ := s_
    try dsimp only at hf ⊢
    intro H locs ls M hl
    refine lv_iload_n hx hb dX3_carve_15 rfl (lv_at hl 0 rfl) ?_
    refine lv_iconst (v := (3 : Int32)) hx hb dX3_carve_16 (by decide) ?_
    refine lv_icmp_ge (tgt := 48) hx hb dX3_carve_17 (by decide) (fun c_17 => ?_) (fun c_17 => ?_)
    · replace hf := hf.1 c_17
      exact hJ48 m_15 hf _ _ _ M (lv_sub hl [1, 2, 3] rfl)
    · replace hf := hf.2 c_17
      refine lv_aload_n hx hb dX3_carve_20 rfl (lv_at hl 1 rfl) ?_
      refine x_getR (r := (24 + k0)) X M (rgc_17 hk0) fd_X3_9 rfl dX3_carve_21 ?_
      refine lv_iload_n hx hb dX3_carve_24 rfl (lv_at hl 0 rfl) ?_
      refine lv_bipush (v := (10 : Int32)) hx hb dX3_carve_25 (by decide) ?_
      refine lv_aload_n hx hb dX3_carve_27 rfl (lv_at hl 2 rfl) ?_
      refine x_getR (r := (6 + k1)) X M (rgc_2 hk1) fd_X3_29 rfl dX3_carve_28 ?_
      refine lv_iload_n hx hb dX3_carve_31 rfl (lv_at hl 3 rfl) ?_
      refine lv_iconst (v := (1 : Int32)) hx hb dX3_carve_32 (by decide) ?_
      refine lv_iadd hx hb dX3_carve_33 ?_
      refine lv_iload_n hx hb dX3_carve_34 rfl (lv_at hl 0 rfl) ?_
      refine lv_iadd hx hb dX3_carve_35 ?_
      obtain ⟨g_36, hf⟩ := hf
      refine x_ild X M (rgc_6 hk1) g_36 dX3_carve_36 ?_
      refine lv_bipush (v := (48 : Int32)) hx hb dX3_carve_37 (by decide) ?_
      refine lv_isub hx hb dX3_carve_39 ?_
      refine lv_imul hx hb dX3_carve_40 ?_
      obtain ⟨g_41, hf⟩ := hf
      refine x_ist X M (rgc_24 hk0) g_41 dX3_carve_41 (fun m_41 H locs em_41 M => ?_)
      replace hf := hf m_41 em_41
      obtain ⟨x3_42, ex3_42⟩ : ∃ y : Int32, y = x3_15 + 1 := ⟨_, rfl⟩
      replace hf := hf x3_42 ex3_42
      refine lv_iinc (v := x3_42) (lv' := [(3, .int x3_42), (0, .ref (ad (17 + k0))), (1, .ref (ad (2 + k1))), (2, .int a2)]) hx hb dX3_carve_42 hl (k := 0) rfl (by rw [ex3_42]; rfl) (by decide) rfl (fun ls hl => ?_)
      refine lv_goto (tgt := 15) hx hb dX3_carve_45 (by decide) ?_
      exact hagain15 (x3_42, m_41) hf _ _ _ M (lv_sub hl [0, 1, 2, 3] rfl)
def wp_X3_allAtFirst (n : Nat) (k0 : Nat) (μ : xM) (K : Int32 → Prop) : Prop :=
  (vp_in (0 : Int32) 3 ∧ (vp_in (1 : Int32) 3 ∧ (vp_in (2 : Int32) 3 ∧ K (((μ (24 + k0) (0 : Int32).toNatClampNeg) + (μ (24 + k0) (1 : Int32).toNatClampNeg)) + (μ (24 + k0) (2 : Int32).toNatClampNeg)))))
set_option maxHeartbeats 4000000 in
set_option maxRecDepth 100000 in
theorem cm_X3_allAtFirst (l : Launch) (G : xG) (ad : Nat → Nat) (hI : xI 36 ad) (n : Nat) (k0 : Nat) (hk0 : k0 < 7) (μ : xM) (K : Int32 → Prop) (hf : wp_X3_allAtFirst n k0 μ K) : Met l yX3_allAtFirst (Cond.code yX3_allAtFirst cX3_allAtFirst 1 (some .int) :: xw_all) (rmo 0 0) (va_Pc [.ref (ad (17 + k0))] (xPre cS 36 G ad μ)) (xQi cS 36 G ad (fun r u => K r ∧ u = μ)) 0 0 (xR 36 ad) := by
  refine x_ent (nL := 1) (own := RX3) (by decide) rfl hI (Nat.le_of_ble_eq_true rfl) ?_
  intro p e s m args below meth c H locs ls Q X hr hlk hQ M hl
  have hx := X.1.1
  have hb := X.1.2.1
  have hown := X.1.2.2.2.1
  have hts := X.1.2.2.2.2
  have hl : lv_has ls 1 [(0, .ref (ad (17 + k0)))] := hl
  unfold wp_X3_allAtFirst at hf
  refine lv_aload_n hx hb dX3_allAtFirst_0 rfl (lv_at hl 0 rfl) ?_
  refine x_getR (r := (24 + k0)) X M (rgc_17 hk0) fd_X3_9 rfl dX3_allAtFirst_1 ?_
  refine lv_iconst (v := (0 : Int32)) hx hb dX3_allAtFirst_4 (by decide) ?_
  obtain ⟨g_5, hf⟩ := hf
  refine x_ild X M (rgc_24 hk0) g_5 dX3_allAtFirst_5 ?_
  refine lv_aload_n hx hb dX3_allAtFirst_6 rfl (lv_at hl 0 rfl) ?_
  refine x_getR (r := (24 + k0)) X M (rgc_17 hk0) fd_X3_9 rfl dX3_allAtFirst_7 ?_
  refine lv_iconst (v := (1 : Int32)) hx hb dX3_allAtFirst_10 (by decide) ?_
  obtain ⟨g_11, hf⟩ := hf
  refine x_ild X M (rgc_24 hk0) g_11 dX3_allAtFirst_11 ?_
  refine lv_iadd hx hb dX3_allAtFirst_12 ?_
  refine lv_aload_n hx hb dX3_allAtFirst_13 rfl (lv_at hl 0 rfl) ?_
  refine x_getR (r := (24 + k0)) X M (rgc_17 hk0) fd_X3_9 rfl dX3_allAtFirst_14 ?_
  refine lv_iconst (v := (2 : Int32)) hx hb dX3_allAtFirst_17 (by decide) ?_
  obtain ⟨g_18, hf⟩ := hf
  refine x_ild X M (rgc_24 hk0) g_18 dX3_allAtFirst_18 ?_
  refine lv_iadd hx hb dX3_allAtFirst_19 ?_
  rw [hQ]
  exact x_iret X M hr hlk dX3_allAtFirst_20 ⟨hf, rfl⟩
def wp_X4_goesOn (n : Nat) (a0 : Int32) (a1 : Int32) (μ : xM) (K : Int32 → Prop) : Prop :=
  (¬ (6 : Int32) = 0 ∧ ((((a0 - a0 / (6 : Int32) * (6 : Int32)) = 0) → wp_X4_kindOf n a1 μ (fun r_41 : Int32 => ((r_41 = ((-9) : Int32) → K (0 : Int32)) ∧ (¬ r_41 = ((-9) : Int32) → K (1 : Int32))))) ∧ (¬ ((a0 - a0 / (6 : Int32) * (6 : Int32)) = 0) → ((((a0 - a0 / (6 : Int32) * (6 : Int32)) = 1 ∨ (a0 - a0 / (6 : Int32) * (6 : Int32)) = 2 ∨ (a0 - a0 / (6 : Int32) * (6 : Int32)) = 3) → ((a1 < (49 : Int32) → K (0 : Int32)) ∧ (¬ a1 < (49 : Int32) → (((57 : Int32) < a1 → K (0 : Int32)) ∧ (¬ (57 : Int32) < a1 → K (1 : Int32)))))) ∧ (¬ ((a0 - a0 / (6 : Int32) * (6 : Int32)) = 1 ∨ (a0 - a0 / (6 : Int32) * (6 : Int32)) = 2 ∨ (a0 - a0 / (6 : Int32) * (6 : Int32)) = 3) → ((((a0 - a0 / (6 : Int32) * (6 : Int32)) = 4) → ((a1 < (48 : Int32) → K (0 : Int32)) ∧ (¬ a1 < (48 : Int32) → (((51 : Int32) < a1 → K (0 : Int32)) ∧ (¬ (51 : Int32) < a1 → K (1 : Int32)))))) ∧ (¬ ((a0 - a0 / (6 : Int32) * (6 : Int32)) = 4) → ((¬ a1 = (59 : Int32) → K (0 : Int32)) ∧ (a1 = (59 : Int32) → (((41 : Int32) ≤ a0 → K (0 : Int32)) ∧ (¬ (41 : Int32) ≤ a0 → K (1 : Int32))))))))))))
set_option maxHeartbeats 4000000 in
set_option maxRecDepth 100000 in
theorem cm_X4_goesOn (l : Launch) (G : xG) (ad : Nat → Nat) (hI : xI 36 ad) (n : Nat) (a0 : Int32) (a1 : Int32) (μ : xM) (K : Int32 → Prop) (hf : wp_X4_goesOn n a0 a1 μ K) : Met l yX4_goesOn (Cond.code yX4_goesOn cX4_goesOn 2 (some .boolean) :: xw_all) (rmo 1 20) (va_Pc [.int a0, .int a1] (xPre cS 36 G ad μ)) (xQi cS 36 G ad (fun r u => K r ∧ u = μ)) 0 0 (xR 36 ad) := by
  refine x_ent (nL := 2) (own := RX4) (by decide) rfl hI (Nat.le_of_ble_eq_true rfl) ?_
  intro p e s m args below meth c H locs ls Q X hr hlk hQ M hl
  have hx := X.1.1
  have hb := X.1.2.1
  have hown := X.1.2.2.2.1
  have hts := X.1.2.2.2.2
  have hl : lv_has ls 2 [(0, .int a0), (1, .int a1)] := hl
  unfold wp_X4_goesOn at hf
  refine lv_iload_n hx hb dX4_goesOn_0 rfl (lv_at hl 0 rfl) ?_
  refine lv_bipush (v := (6 : Int32)) hx hb dX4_goesOn_1 (by decide) ?_
  obtain ⟨g_3, hf⟩ := hf
  refine lv_irem hx hb dX4_goesOn_3 g_3 ?_
  by_cases c_4_0 : (a0 - a0 / (6 : Int32) * (6 : Int32)) = 0
  · replace hf := hf.1 c_4_0
    refine lv_tableIn (off := 36) (tgt := 40) hx hb dX4_goesOn_4 (by have q := c_4_0; (rw [q] <;> decide)) (by have q := c_4_0; (rw [q] <;> decide)) (by have q := c_4_0; (rw [q] <;> rfl)) (by decide) ?_
    refine lv_iload_n hx hb dX4_goesOn_40 rfl (lv_at hl 1 rfl) ?_
    refine x_ciP (x_rS (As := [.int a1]) (rest := []) X M (cm_X4_kindOf l G ad hI n a1 μ _ hf) mc_X4_kindOf ms_X4_kindOf lk_X4_25 mn_X4_kindOf hl ⟨⟨Nat.le_of_ble_eq_true rfl, Nat.le_of_ble_eq_true rfl⟩, rfl, Nat.le_of_ble_eq_true rfl, Nat.zero_le _, Nat.zero_le _⟩ rfl dX4_goesOn_41) M (fun r_41 H locs hf M => ?_)
    try dsimp only at hf
    refine lv_bipush (v := ((-9) : Int32)) hx hb dX4_goesOn_44 (by decide) ?_
    refine lv_icmp_eq (tgt := 53) hx hb dX4_goesOn_46 (by decide) (fun c_46 => ?_) (fun c_46 => ?_)
    · replace hf := hf.1 c_46
      refine lv_iconst (v := (0 : Int32)) hx hb dX4_goesOn_53 (by decide) ?_
      rw [hQ]
      exact x_zret X M hr hlk xb_0 dX4_goesOn_54 ⟨hf, rfl⟩
    · replace hf := hf.2 c_46
      refine lv_iconst (v := (1 : Int32)) hx hb dX4_goesOn_49 (by decide) ?_
      refine lv_goto (tgt := 54) hx hb dX4_goesOn_50 (by decide) ?_
      rw [hQ]
      exact x_zret X M hr hlk xb_1 dX4_goesOn_54 ⟨hf, rfl⟩
  · replace hf := hf.2 c_4_0
    by_cases c_4_1 : (a0 - a0 / (6 : Int32) * (6 : Int32)) = 1 ∨ (a0 - a0 / (6 : Int32) * (6 : Int32)) = 2 ∨ (a0 - a0 / (6 : Int32) * (6 : Int32)) = 3
    · replace hf := hf.1 c_4_1
      refine lv_tableIn (off := 51) (tgt := 55) hx hb dX4_goesOn_4 (by rcases c_4_1 with q | q | q <;> (rw [q] <;> decide)) (by rcases c_4_1 with q | q | q <;> (rw [q] <;> decide)) (by rcases c_4_1 with q | q | q <;> (rw [q] <;> rfl)) (by decide) ?_
      refine lv_iload_n hx hb dX4_goesOn_55 rfl (lv_at hl 1 rfl) ?_
      refine lv_bipush (v := (49 : Int32)) hx hb dX4_goesOn_56 (by decide) ?_
      refine lv_icmp_lt (tgt := 71) hx hb dX4_goesOn_58 (by decide) (fun c_58 => ?_) (fun c_58 => ?_)
      · replace hf := hf.1 c_58
        refine lv_iconst (v := (0 : Int32)) hx hb dX4_goesOn_71 (by decide) ?_
        rw [hQ]
        exact x_zret X M hr hlk xb_0 dX4_goesOn_72 ⟨hf, rfl⟩
      · replace hf := hf.2 c_58
        refine lv_iload_n hx hb dX4_goesOn_61 rfl (lv_at hl 1 rfl) ?_
        refine lv_bipush (v := (57 : Int32)) hx hb dX4_goesOn_62 (by decide) ?_
        refine lv_icmp_gt (tgt := 71) hx hb dX4_goesOn_64 (by decide) (fun c_64 => ?_) (fun c_64 => ?_)
        · replace hf := hf.1 c_64
          refine lv_iconst (v := (0 : Int32)) hx hb dX4_goesOn_71 (by decide) ?_
          rw [hQ]
          exact x_zret X M hr hlk xb_0 dX4_goesOn_72 ⟨hf, rfl⟩
        · replace hf := hf.2 c_64
          refine lv_iconst (v := (1 : Int32)) hx hb dX4_goesOn_67 (by decide) ?_
          refine lv_goto (tgt := 72) hx hb dX4_goesOn_68 (by decide) ?_
          rw [hQ]
          exact x_zret X M hr hlk xb_1 dX4_goesOn_72 ⟨hf, rfl⟩
    · replace hf := hf.2 c_4_1
      by_cases c_4_2 : (a0 - a0 / (6 : Int32) * (6 : Int32)) = 4
      · replace hf := hf.1 c_4_2
        refine lv_tableIn (off := 69) (tgt := 73) hx hb dX4_goesOn_4 (by have q := c_4_2; (rw [q] <;> decide)) (by have q := c_4_2; (rw [q] <;> decide)) (by have q := c_4_2; (rw [q] <;> rfl)) (by decide) ?_
        refine lv_iload_n hx hb dX4_goesOn_73 rfl (lv_at hl 1 rfl) ?_
        refine lv_bipush (v := (48 : Int32)) hx hb dX4_goesOn_74 (by decide) ?_
        refine lv_icmp_lt (tgt := 89) hx hb dX4_goesOn_76 (by decide) (fun c_76 => ?_) (fun c_76 => ?_)
        · replace hf := hf.1 c_76
          refine lv_iconst (v := (0 : Int32)) hx hb dX4_goesOn_89 (by decide) ?_
          rw [hQ]
          exact x_zret X M hr hlk xb_0 dX4_goesOn_90 ⟨hf, rfl⟩
        · replace hf := hf.2 c_76
          refine lv_iload_n hx hb dX4_goesOn_79 rfl (lv_at hl 1 rfl) ?_
          refine lv_bipush (v := (51 : Int32)) hx hb dX4_goesOn_80 (by decide) ?_
          refine lv_icmp_gt (tgt := 89) hx hb dX4_goesOn_82 (by decide) (fun c_82 => ?_) (fun c_82 => ?_)
          · replace hf := hf.1 c_82
            refine lv_iconst (v := (0 : Int32)) hx hb dX4_goesOn_89 (by decide) ?_
            rw [hQ]
            exact x_zret X M hr hlk xb_0 dX4_goesOn_90 ⟨hf, rfl⟩
          · replace hf := hf.2 c_82
            refine lv_iconst (v := (1 : Int32)) hx hb dX4_goesOn_85 (by decide) ?_
            refine lv_goto (tgt := 90) hx hb dX4_goesOn_86 (by decide) ?_
            rw [hQ]
            exact x_zret X M hr hlk xb_1 dX4_goesOn_90 ⟨hf, rfl⟩
      · replace hf := hf.2 c_4_2
        have n_4_0 : ¬ (a0 - a0 / (6 : Int32) * (6 : Int32)).toInt = 0 := fun q => c_4_0 (by rw [Int32.toInt_inj.mp (q.trans (show (0 : Int) = (0 : Int32).toInt from rfl))] <;> decide)
        have n_4_1 : ¬ (a0 - a0 / (6 : Int32) * (6 : Int32)).toInt = 1 := fun q => c_4_1 (by rw [Int32.toInt_inj.mp (q.trans (show (1 : Int) = (1 : Int32).toInt from rfl))] <;> decide)
        have n_4_2 : ¬ (a0 - a0 / (6 : Int32) * (6 : Int32)).toInt = 2 := fun q => c_4_1 (by rw [Int32.toInt_inj.mp (q.trans (show (2 : Int) = (2 : Int32).toInt from rfl))] <;> decide)
        have n_4_3 : ¬ (a0 - a0 / (6 : Int32) * (6 : Int32)).toInt = 3 := fun q => c_4_1 (by rw [Int32.toInt_inj.mp (q.trans (show (3 : Int) = (3 : Int32).toInt from rfl))] <;> decide)
        have n_4_4 : ¬ (a0 - a0 / (6 : Int32) * (6 : Int32)).toInt = 4 := fun q => c_4_2 (by rw [Int32.toInt_inj.mp (q.trans (show (4 : Int) = (4 : Int32).toInt from rfl))] <;> decide)
        refine lv_tableOut (tgt := 91) hx hb dX4_goesOn_4 (by omega) (by decide) ?_
        refine lv_iload_n hx hb dX4_goesOn_91 rfl (lv_at hl 1 rfl) ?_
        refine lv_bipush (v := (59 : Int32)) hx hb dX4_goesOn_92 (by decide) ?_
        refine lv_icmp_ne (tgt := 107) hx hb dX4_goesOn_94 (by decide) (fun c_94 => ?_) (fun c_94 => ?_)
        · replace hf := hf.1 c_94
          refine lv_iconst (v := (0 : Int32)) hx hb dX4_goesOn_107 (by decide) ?_
          rw [hQ]
          exact x_zret X M hr hlk xb_0 dX4_goesOn_108 ⟨hf, rfl⟩
        · replace hf := hf.2 c_94
          refine lv_iload_n hx hb dX4_goesOn_97 rfl (lv_at hl 0 rfl) ?_
          refine lv_bipush (v := (41 : Int32)) hx hb dX4_goesOn_98 (by decide) ?_
          refine lv_icmp_ge (tgt := 107) hx hb dX4_goesOn_100 (by decide) (fun c_100 => ?_) (fun c_100 => ?_)
          · replace hf := hf.1 c_100
            refine lv_iconst (v := (0 : Int32)) hx hb dX4_goesOn_107 (by decide) ?_
            rw [hQ]
            exact x_zret X M hr hlk xb_0 dX4_goesOn_108 ⟨hf, rfl⟩
          · replace hf := hf.2 c_100
            refine lv_iconst (v := (1 : Int32)) hx hb dX4_goesOn_103 (by decide) ?_
            refine lv_goto (tgt := 108) hx hb dX4_goesOn_104 (by decide) ?_
            rw [hQ]
            exact x_zret X M hr hlk xb_1 dX4_goesOn_108 ⟨hf, rfl⟩
def wp_X4_isWhole (n : Nat) (a0 : Int32) (μ : xM) (K : Int32 → Prop) : Prop :=
  (¬ (6 : Int32) = 0 ∧ ((¬ (a0 - a0 / (6 : Int32) * (6 : Int32)) = (5 : Int32) → K (0 : Int32)) ∧ ((a0 - a0 / (6 : Int32) * (6 : Int32)) = (5 : Int32) → K (1 : Int32))))
set_option maxHeartbeats 4000000 in
set_option maxRecDepth 100000 in
theorem cm_X4_isWhole (l : Launch) (G : xG) (ad : Nat → Nat) (hI : xI 36 ad) (n : Nat) (a0 : Int32) (μ : xM) (K : Int32 → Prop) (hf : wp_X4_isWhole n a0 μ K) : Met l yX4_isWhole (Cond.code yX4_isWhole cX4_isWhole 1 (some .boolean) :: xw_all) (rmo 0 0) (va_Pc [.int a0] (xPre cS 36 G ad μ)) (xQi cS 36 G ad (fun r u => K r ∧ u = μ)) 0 0 (xR 36 ad) := by
  refine x_ent (nL := 1) (own := RX4) (by decide) rfl hI (Nat.le_of_ble_eq_true rfl) ?_
  intro p e s m args below meth c H locs ls Q X hr hlk hQ M hl
  have hx := X.1.1
  have hb := X.1.2.1
  have hown := X.1.2.2.2.1
  have hts := X.1.2.2.2.2
  have hl : lv_has ls 1 [(0, .int a0)] := hl
  unfold wp_X4_isWhole at hf
  refine lv_iload_n hx hb dX4_isWhole_0 rfl (lv_at hl 0 rfl) ?_
  refine lv_bipush (v := (6 : Int32)) hx hb dX4_isWhole_1 (by decide) ?_
  obtain ⟨g_3, hf⟩ := hf
  refine lv_irem hx hb dX4_isWhole_3 g_3 ?_
  refine lv_iconst (v := (5 : Int32)) hx hb dX4_isWhole_4 (by decide) ?_
  refine lv_icmp_ne (tgt := 12) hx hb dX4_isWhole_5 (by decide) (fun c_5 => ?_) (fun c_5 => ?_)
  · replace hf := hf.1 c_5
    refine lv_iconst (v := (0 : Int32)) hx hb dX4_isWhole_12 (by decide) ?_
    rw [hQ]
    exact x_zret X M hr hlk xb_0 dX4_isWhole_13 ⟨hf, rfl⟩
  · replace hf := hf.2 c_5
    refine lv_iconst (v := (1 : Int32)) hx hb dX4_isWhole_8 (by decide) ?_
    refine lv_goto (tgt := 13) hx hb dX4_isWhole_9 (by decide) ?_
    rw [hQ]
    exact x_zret X M hr hlk xb_1 dX4_isWhole_13 ⟨hf, rfl⟩
def wp_X4_firstFault (n : Nat) (k0 : Nat) (a1 : Int32) (a2 : Int32) (μ : xM) (K : Int32 → Prop) : Prop :=
  xjn (fun (_ : Unit) => wp_X4_isWhole n a2 μ (fun r_31 : Int32 => ((r_31 = 0 → K a2) ∧ (¬ r_31 = 0 → K ((-1) : Int32))))) (fun J30 : Unit → Prop => xlp (fun (again2 : Int32 → Prop) => fun (x3_2 : Int32) => ((a2 ≤ x3_2 → J30 ()) ∧ (¬ a2 ≤ x3_2 → (vp_in (a1 + x3_2) 60 ∧ wp_X4_goesOn n x3_2 (μ (6 + k0) (a1 + x3_2).toNatClampNeg) μ (fun r_16 : Int32 => ((¬ r_16 = 0 → (∀ x3_24 : Int32, x3_24 = x3_2 + 1 → again2 x3_24)) ∧ (r_16 = 0 → K x3_2))))))) n (0 : Int32))
set_option maxHeartbeats 4000000 in
set_option maxRecDepth 100000 in
theorem cm_X4_firstFault (l : Launch) (G : xG) (ad : Nat → Nat) (hI : xI 36 ad) (n : Nat) (k0 : Nat) (hk0 : k0 < 4) (a1 : Int32) (a2 : Int32) (μ : xM) (K : Int32 → Prop) (hf : wp_X4_firstFault n k0 a1 a2 μ K) : Met l yX4_firstFault (Cond.code yX4_firstFault cX4_firstFault 4 (some .int) :: xw_all) (rmo 2 41) (va_Pc [.ref (ad (2 + k0)), .int a1, .int a2] (xPre cS 36 G ad μ)) (xQi cS 36 G ad (fun r u => K r ∧ u = μ)) 0 0 (xR 36 ad) := by
  refine x_ent (nL := 4) (own := RX4) (by decide) rfl hI (Nat.le_of_ble_eq_true rfl) ?_
  intro p e s m args below meth c H locs ls Q X hr hlk hQ M hl
  have hx := X.1.1
  have hb := X.1.2.1
  have hown := X.1.2.2.2.1
  have hts := X.1.2.2.2.2
  have hl : lv_has ls 4 [(0, .ref (ad (2 + k0))), (1, .int a1), (2, .int a2)] := hl
  unfold wp_X4_firstFault at hf
  refine lv_iconst (v := (0 : Int32)) hx hb dX4_firstFault_0 (by decide) ?_
  refine lv_istore_n (lv' := [(3, .int (0 : Int32)), (0, .ref (ad (2 + k0))), (1, .int a1), (2, .int a2)]) hx hb dX4_firstFault_1 rfl hl (by decide) rfl (fun ls hl => ?_)
  refine xjn_w hf (fun (_ : Unit) => ∀ (H : Heap) (locs : List Loc) (ls : Array Slot), xS cS 36 G ad s μ H locs → lv_has ls 4 [(2, .int a2)] → W p l e (rmo 2 41) s m args below meth c H locs 0 0 Q (F0 m 30 ls [])) ?_ ?_
  · intro s_ hf
    intro H locs ls M hl
    refine lv_iload_n hx hb dX4_firstFault_30 rfl (lv_at hl 0 rfl) ?_
    refine x_ciP (x_rS (As := [.int a2]) (rest := []) X M (cm_X4_isWhole l G ad hI n a2 μ _ hf) mc_X4_isWhole ms_X4_isWhole lk_X4_21 mn_X4_isWhole hl ⟨⟨Nat.le_of_ble_eq_true rfl, Nat.le_of_ble_eq_true rfl⟩, rfl, Nat.le_of_ble_eq_true rfl, Nat.zero_le _, Nat.zero_le _⟩ rfl dX4_firstFault_31) M (fun r_31 H locs hf M => ?_)
    try dsimp only at hf
    refine lv_if_eq (tgt := 41) hx hb dX4_firstFault_34 (by decide) (fun c_34 => ?_) (fun c_34 => ?_)
    · replace hf := hf.1 c_34
      refine lv_iload_n hx hb dX4_firstFault_41 rfl (lv_at hl 0 rfl) ?_
      rw [hQ]
      exact x_iret X M hr hlk dX4_firstFault_42 ⟨hf, rfl⟩
    · replace hf := hf.2 c_34
      refine lv_iconst (v := ((-1) : Int32)) hx hb dX4_firstFault_37 (by decide) ?_
      refine lv_goto (tgt := 42) hx hb dX4_firstFault_38 (by decide) ?_
      rw [hQ]
      exact x_iret X M hr hlk dX4_firstFault_42 ⟨hf, rfl⟩
  · intro J30 hJ30 hf
    refine xlp_w hf (fun (x3_2 : Int32) => ∀ (H : Heap) (locs : List Loc) (ls : Array Slot), xS cS 36 G ad s μ H locs → lv_has ls 4 [(3, .int x3_2), (0, .ref (ad (2 + k0))), (1, .int a1), (2, .int a2)] → W p l e (rmo 2 41) s m args below meth c H locs 0 0 Q (F0 m 2 ls [])) ?_ _ _ _ M (lv_sub hl [0, 1, 2, 3] rfl)
    intro again2 hagain2 x3_2 hf
    intro H locs ls M hl
    refine lv_iload_n hx hb dX4_firstFault_2 rfl (lv_at hl 0 rfl) ?_
    refine lv_iload_n hx hb dX4_firstFault_3 rfl (lv_at hl 3 rfl) ?_
    refine lv_icmp_ge (tgt := 30) hx hb dX4_firstFault_4 (by decide) (fun c_4 => ?_) (fun c_4 => ?_)
    · replace hf := hf.1 c_4
      exact hJ30 () hf _ _ _ M (lv_sub hl [3] rfl)
    · replace hf := hf.2 c_4
      refine lv_iload_n hx hb dX4_firstFault_7 rfl (lv_at hl 0 rfl) ?_
      refine lv_aload_n hx hb dX4_firstFault_8 rfl (lv_at hl 1 rfl) ?_
      refine x_getR (r := (6 + k0)) X M (rgc_2 hk0) fd_X4_11 rfl dX4_firstFault_9 ?_
      refine lv_iload_n hx hb dX4_firstFault_12 rfl (lv_at hl 2 rfl) ?_
      refine lv_iload_n hx hb dX4_firstFault_13 rfl (lv_at hl 0 rfl) ?_
      refine lv_iadd hx hb dX4_firstFault_14 ?_
      obtain ⟨g_15, hf⟩ := hf
      refine x_ild X M (rgc_6 hk0) g_15 dX4_firstFault_15 ?_
      refine x_ciP (x_rS (As := [.int x3_2, .int (μ (6 + k0) (a1 + x3_2).toNatClampNeg)]) (rest := []) X M (cm_X4_goesOn l G ad hI n x3_2 (μ (6 + k0) (a1 + x3_2).toNatClampNeg) μ _ hf) mc_X4_goesOn ms_X4_goesOn lk_X4_17 mn_X4_goesOn hl ⟨⟨Nat.le_of_ble_eq_true rfl, Nat.le_of_ble_eq_true rfl⟩, rfl, Nat.le_of_ble_eq_true rfl, Nat.zero_le _, Nat.zero_le _⟩ rfl dX4_firstFault_16) M (fun r_16 H locs hf M => ?_)
      try dsimp only at hf
      refine lv_if_ne (tgt := 24) hx hb dX4_firstFault_19 (by decide) (fun c_19 => ?_) (fun c_19 => ?_)
      · replace hf := hf.1 c_19
        obtain ⟨x3_24, ex3_24⟩ : ∃ y : Int32, y = x3_2 + 1 := ⟨_, rfl⟩
        replace hf := hf x3_24 ex3_24
        refine lv_iinc (v := x3_24) (lv' := [(3, .int x3_24), (0, .ref (ad (2 + k0))), (1, .int a1), (2, .int a2)]) hx hb dX4_firstFault_24 hl (k := 0) rfl (by rw [ex3_24]; rfl) (by decide) rfl (fun ls hl => ?_)
        refine lv_goto (tgt := 2) hx hb dX4_firstFault_27 (by decide) ?_
        exact hagain2 x3_24 hf _ _ _ M (lv_sub hl [0, 1, 2, 3] rfl)
      · replace hf := hf.2 c_19
        refine lv_iload_n hx hb dX4_firstFault_22 rfl (lv_at hl 0 rfl) ?_
        rw [hQ]
        exact x_iret X M hr hlk dX4_firstFault_23 ⟨hf, rfl⟩
