theorem ff_X1_9 : xff RX1 9 0 5 0 (tyX1 0) := ⟨RX1, TX1, tyX1, rfl, in_X1, by decide, rfl, xw_of (xw_1 (List.mem_of_getElem? (i := 130) (by decide +kernel))) rfl, tyX1_ok, nmX1, rfl, rfl, tyX1_ok 0 (by decide)⟩
theorem ff_X1_15 : xff RX1 15 0 5 1 (tyX1 1) := ⟨RX1, TX1, tyX1, rfl, in_X1, by decide, rfl, xw_of (xw_1 (List.mem_of_getElem? (i := 131) (by decide +kernel))) rfl, tyX1_ok, nmX1, rfl, rfl, tyX1_ok 1 (by decide)⟩
theorem ff_X1_18 : xff RX1 18 0 5 2 (tyX1 2) := ⟨RX1, TX1, tyX1, rfl, in_X1, by decide, rfl, xw_of (xw_1 (List.mem_of_getElem? (i := 132) (by decide +kernel))) rfl, tyX1_ok, nmX1, rfl, rfl, tyX1_ok 2 (by decide)⟩
theorem ff_X1_21 : xff RX1 21 0 5 3 (tyX1 3) := ⟨RX1, TX1, tyX1, rfl, in_X1, by decide, rfl, xw_of (xw_1 (List.mem_of_getElem? (i := 133) (by decide +kernel))) rfl, tyX1_ok, nmX1, rfl, rfl, tyX1_ok 3 (by decide)⟩
theorem ff_X2_9 : xff RX2 9 1 4 0 (tyX2 0) := ⟨RX2, TX2, tyX2, rfl, in_X2, by decide, rfl, xw_of (xw_1 (List.mem_of_getElem? (i := 27) (by decide +kernel))) rfl, tyX2_ok, nmX2, rfl, rfl, tyX2_ok 0 (by decide)⟩
theorem ff_X3_9 : xff RX3 9 2 5 0 (tyX3 0) := ⟨RX3, TX3, tyX3, rfl, in_X3, by decide, rfl, xw_of (xw_1 (List.mem_of_getElem? (i := 60) (by decide +kernel))) rfl, tyX3_ok, nmX3, rfl, rfl, tyX3_ok 0 (by decide)⟩
theorem ff_X5_11 : xff RX5 11 3 9 0 (tyX5 0) := ⟨RX5, TX5, tyX5, rfl, in_X5, by decide, rfl, xw_of (xw_1 (List.mem_of_getElem? (i := 87) (by decide +kernel))) rfl, tyX5_ok, nmX5, rfl, rfl, tyX5_ok 0 (by decide)⟩
theorem ff_X5_18 : xff RX5 18 3 9 1 (tyX5 1) := ⟨RX5, TX5, tyX5, rfl, in_X5, by decide, rfl, xw_of (xw_1 (List.mem_of_getElem? (i := 90) (by decide +kernel))) rfl, tyX5_ok, nmX5, rfl, rfl, tyX5_ok 1 (by decide)⟩
theorem ff_X5_22 : xff RX5 22 3 9 2 (tyX5 2) := ⟨RX5, TX5, tyX5, rfl, in_X5, by decide, rfl, xw_of (xw_1 (List.mem_of_getElem? (i := 93) (by decide +kernel))) rfl, tyX5_ok, nmX5, rfl, rfl, tyX5_ok 2 (by decide)⟩
theorem ff_X5_25 : xff RX5 25 3 9 3 (tyX5 3) := ⟨RX5, TX5, tyX5, rfl, in_X5, by decide, rfl, xw_of (xw_1 (List.mem_of_getElem? (i := 96) (by decide +kernel))) rfl, tyX5_ok, nmX5, rfl, rfl, tyX5_ok 3 (by decide)⟩
theorem ff_X5_28 : xff RX5 28 3 9 4 (tyX5 4) := ⟨RX5, TX5, tyX5, rfl, in_X5, by decide, rfl, xw_of (xw_1 (List.mem_of_getElem? (i := 97) (by decide +kernel))) rfl, tyX5_ok, nmX5, rfl, rfl, tyX5_ok 4 (by decide)⟩
theorem ff_X5_31 : xff RX5 31 3 9 5 (tyX5 5) := ⟨RX5, TX5, tyX5, rfl, in_X5, by decide, rfl, xw_of (xw_1 (List.mem_of_getElem? (i := 98) (by decide +kernel))) rfl, tyX5_ok, nmX5, rfl, rfl, tyX5_ok 5 (by decide)⟩
theorem ff_X6_13 : xff RX6 13 4 5 0 (tyX6 0) := ⟨RX6, TX6, tyX6, rfl, in_X6, by decide, rfl, xw_of (xw_1 (List.mem_of_getElem? (i := 147) (by decide +kernel))) rfl, tyX6_ok, nmX6, rfl, rfl, tyX6_ok 0 (by decide)⟩
theorem ff_X6_21 : xff RX6 21 4 5 1 (tyX6 1) := ⟨RX6, TX6, tyX6, rfl, in_X6, by decide, rfl, xw_of (xw_1 (List.mem_of_getElem? (i := 148) (by decide +kernel))) rfl, tyX6_ok, nmX6, rfl, rfl, tyX6_ok 1 (by decide)⟩
theorem ff_X6_28 : xff RX6 28 4 5 2 (tyX6 2) := ⟨RX6, TX6, tyX6, rfl, in_X6, by decide, rfl, xw_of (xw_1 (List.mem_of_getElem? (i := 149) (by decide +kernel))) rfl, tyX6_ok, nmX6, rfl, rfl, tyX6_ok 2 (by decide)⟩
theorem ff_X7_7 : xff RX7 7 5 29 2 (tyX7 2) := ⟨RX7, TX7, tyX7, rfl, in_X7, by decide, rfl, xw_of (xw_3 (List.mem_of_getElem? (i := 41) (by decide +kernel))) rfl, tyX7_ok, nmX7, rfl, rfl, tyX7_ok 2 (by decide)⟩
theorem ff_X7_13 : xff RX7 13 5 29 3 (tyX7 3) := ⟨RX7, TX7, tyX7, rfl, in_X7, by decide, rfl, xw_of (xw_3 (List.mem_of_getElem? (i := 42) (by decide +kernel))) rfl, tyX7_ok, nmX7, rfl, rfl, tyX7_ok 3 (by decide)⟩
theorem ff_X7_16 : xff RX7 16 5 29 4 (tyX7 4) := ⟨RX7, TX7, tyX7, rfl, in_X7, by decide, rfl, xw_of (xw_3 (List.mem_of_getElem? (i := 43) (by decide +kernel))) rfl, tyX7_ok, nmX7, rfl, rfl, tyX7_ok 4 (by decide)⟩
theorem ff_X7_19 : xff RX7 19 5 29 5 (tyX7 5) := ⟨RX7, TX7, tyX7, rfl, in_X7, by decide, rfl, xw_of (xw_3 (List.mem_of_getElem? (i := 44) (by decide +kernel))) rfl, tyX7_ok, nmX7, rfl, rfl, tyX7_ok 5 (by decide)⟩
theorem ff_X7_22 : xff RX7 22 5 29 6 (tyX7 6) := ⟨RX7, TX7, tyX7, rfl, in_X7, by decide, rfl, xw_of (xw_3 (List.mem_of_getElem? (i := 45) (by decide +kernel))) rfl, tyX7_ok, nmX7, rfl, rfl, tyX7_ok 6 (by decide)⟩
theorem ff_X7_26 : xff RX7 26 5 29 9 (tyX7 9) := ⟨RX7, TX7, tyX7, rfl, in_X7, by decide, rfl, xw_of (xw_3 (List.mem_of_getElem? (i := 48) (by decide +kernel))) rfl, tyX7_ok, nmX7, rfl, rfl, tyX7_ok 9 (by decide)⟩
theorem ff_X7_29 : xff RX7 29 5 29 10 (tyX7 10) := ⟨RX7, TX7, tyX7, rfl, in_X7, by decide, rfl, xw_of (xw_3 (List.mem_of_getElem? (i := 49) (by decide +kernel))) rfl, tyX7_ok, nmX7, rfl, rfl, tyX7_ok 10 (by decide)⟩
theorem ff_X7_32 : xff RX7 32 5 29 11 (tyX7 11) := ⟨RX7, TX7, tyX7, rfl, in_X7, by decide, rfl, xw_of (xw_3 (List.mem_of_getElem? (i := 50) (by decide +kernel))) rfl, tyX7_ok, nmX7, rfl, rfl, tyX7_ok 11 (by decide)⟩
theorem ff_X7_35 : xff RX7 35 5 29 12 (tyX7 12) := ⟨RX7, TX7, tyX7, rfl, in_X7, by decide, rfl, xw_of (xw_3 (List.mem_of_getElem? (i := 51) (by decide +kernel))) rfl, tyX7_ok, nmX7, rfl, rfl, tyX7_ok 12 (by decide)⟩
theorem ff_X7_38 : xff RX7 38 5 29 13 (tyX7 13) := ⟨RX7, TX7, tyX7, rfl, in_X7, by decide, rfl, xw_of (xw_3 (List.mem_of_getElem? (i := 52) (by decide +kernel))) rfl, tyX7_ok, nmX7, rfl, rfl, tyX7_ok 13 (by decide)⟩
theorem ff_X7_41 : xff RX7 41 5 29 15 (tyX7 15) := ⟨RX7, TX7, tyX7, rfl, in_X7, by decide, rfl, xw_of (xw_3 (List.mem_of_getElem? (i := 54) (by decide +kernel))) rfl, tyX7_ok, nmX7, rfl, rfl, tyX7_ok 15 (by decide)⟩
theorem ff_X7_44 : xff RX7 44 5 29 16 (tyX7 16) := ⟨RX7, TX7, tyX7, rfl, in_X7, by decide, rfl, xw_of (xw_3 (List.mem_of_getElem? (i := 55) (by decide +kernel))) rfl, tyX7_ok, nmX7, rfl, rfl, tyX7_ok 16 (by decide)⟩
theorem ff_X7_47 : xff RX7 47 5 29 17 (tyX7 17) := ⟨RX7, TX7, tyX7, rfl, in_X7, by decide, rfl, xw_of (xw_3 (List.mem_of_getElem? (i := 56) (by decide +kernel))) rfl, tyX7_ok, nmX7, rfl, rfl, tyX7_ok 17 (by decide)⟩
theorem ff_X7_50 : xff RX7 50 5 29 18 (tyX7 18) := ⟨RX7, TX7, tyX7, rfl, in_X7, by decide, rfl, xw_of (xw_3 (List.mem_of_getElem? (i := 57) (by decide +kernel))) rfl, tyX7_ok, nmX7, rfl, rfl, tyX7_ok 18 (by decide)⟩
theorem ff_X7_53 : xff RX7 53 5 29 20 (tyX7 20) := ⟨RX7, TX7, tyX7, rfl, in_X7, by decide, rfl, xw_of (xw_3 (List.mem_of_getElem? (i := 59) (by decide +kernel))) rfl, tyX7_ok, nmX7, rfl, rfl, tyX7_ok 20 (by decide)⟩
theorem ff_X7_56 : xff RX7 56 5 29 21 (tyX7 21) := ⟨RX7, TX7, tyX7, rfl, in_X7, by decide, rfl, xw_of (xw_3 (List.mem_of_getElem? (i := 60) (by decide +kernel))) rfl, tyX7_ok, nmX7, rfl, rfl, tyX7_ok 21 (by decide)⟩
theorem ff_X7_59 : xff RX7 59 5 29 22 (tyX7 22) := ⟨RX7, TX7, tyX7, rfl, in_X7, by decide, rfl, xw_of (xw_3 (List.mem_of_getElem? (i := 61) (by decide +kernel))) rfl, tyX7_ok, nmX7, rfl, rfl, tyX7_ok 22 (by decide)⟩
theorem ff_X7_62 : xff RX7 62 5 29 23 (tyX7 23) := ⟨RX7, TX7, tyX7, rfl, in_X7, by decide, rfl, xw_of (xw_3 (List.mem_of_getElem? (i := 62) (by decide +kernel))) rfl, tyX7_ok, nmX7, rfl, rfl, tyX7_ok 23 (by decide)⟩
theorem ff_X7_65 : xff RX7 65 5 29 24 (tyX7 24) := ⟨RX7, TX7, tyX7, rfl, in_X7, by decide, rfl, xw_of (xw_3 (List.mem_of_getElem? (i := 63) (by decide +kernel))) rfl, tyX7_ok, nmX7, rfl, rfl, tyX7_ok 24 (by decide)⟩
theorem ff_X7_68 : xff RX7 68 5 29 25 (tyX7 25) := ⟨RX7, TX7, tyX7, rfl, in_X7, by decide, rfl, xw_of (xw_3 (List.mem_of_getElem? (i := 64) (by decide +kernel))) rfl, tyX7_ok, nmX7, rfl, rfl, tyX7_ok 25 (by decide)⟩
theorem ff_X7_71 : xff RX7 71 5 29 26 (tyX7 26) := ⟨RX7, TX7, tyX7, rfl, in_X7, by decide, rfl, xw_of (xw_3 (List.mem_of_getElem? (i := 65) (by decide +kernel))) rfl, tyX7_ok, nmX7, rfl, rfl, tyX7_ok 26 (by decide)⟩
theorem ff_X7_74 : xff RX7 74 5 29 27 (tyX7 27) := ⟨RX7, TX7, tyX7, rfl, in_X7, by decide, rfl, xw_of (xw_3 (List.mem_of_getElem? (i := 66) (by decide +kernel))) rfl, tyX7_ok, nmX7, rfl, rfl, tyX7_ok 27 (by decide)⟩
theorem vp_dec {i : Int32} {n : Nat} (h : ¬ (i < 0 ∨ n ≤ i.toNatClampNeg)) : vp_in i n := h
def mS_0 : xM := fun k => if k = 19 then upd (upd (upd (upd (fun _ => 0) 0 ((-1) : Int32)) 1 ((-1) : Int32)) 2 ((-1) : Int32)) 3 ((-1) : Int32) else fun _ => 0
set_option maxHeartbeats 4000000 in
set_option maxRecDepth 100000 in
theorem cm_X2_init (l : Launch) (G : xG) (h0 sz : Nat) : Met l yX2_init (Cond.code yX2_init cX2_init 1 none :: xw_all) { frames := 1, cells := 1, slots := 60, locals := 20 } (va_Pc [.ref h0] (yPre G sz [(h0, .inr (1, [.null, .int 0, .int 0, .int 0]))])) (va_Qv (fun _ : Nat → Nat => True) (fun (u : Nat → Nat) t => va_P G.1 vwCl [(h0, .inr (1, [.ref (u 0), .int 0, .int 0, .int 0])), ((u 0), .inl (G.2 0, 60, .inl (fun _ => 0)))] t.heap ∧ va_D (va_A [(h0, .inr (1, [.null, .int 0, .int 0, .int 0]))] sz) [(h0, .inr (1, [.ref (u 0), .int 0, .int 0, .int 0])), ((u 0), .inl (G.2 0, 60, .inl (fun _ => 0)))]) (va_A [(h0, .inr (1, [.null, .int 0, .int 0, .int 0]))] sz)) 1 60 (va_A [(h0, .inr (1, [.null, .int 0, .int 0, .int 0]))] sz) := by
  refine y_ent (nL := 1) (own := RX2) (by decide) rfl rfl (by decide) ?_
  intro p e s m args below meth c H locs ls A Q Y hr hlk hAe hQ hP hD hS hA hl
  have hx := Y.1.1
  have hb := Y.1.2.1
  refine lv_aload_n hx hb dX2_init_0 rfl (lv_at hl 0 rfl) ?_
  refine y_obj Y hl lo_X2_3 dX2_init_1 ⟨(Nat.le_of_ble_eq_true rfl), (Nat.le_of_ble_eq_true rfl)⟩ ?_
  refine lv_aload_n hx hb dX2_init_4 rfl (lv_at hl 0 rfl) ?_
  refine lv_bipush (v := (60 : Int32)) hx hb dX2_init_5 (by decide) ?_
  refine y_newI Y hP hD hS hA (N' := 60) (by decide) (by decide) (by decide) (Nat.le_of_ble_eq_true rfl) (Nat.le_of_ble_eq_true rfl) dX2_init_7 (fun q0_ H hP hD hS => ?_)
  have hP : va_P G.1 vwCl [(h0, .inr (1, [.null, .int 0, .int 0, .int 0])), (q0_, .inl (G.2 0, 60, .inl (fun _ => 0)))] H := hP
  have hD : va_D A [(h0, .inr (1, [.null, .int 0, .int 0, .int 0])), (q0_, .inl (G.2 0, 60, .inl (fun _ => 0)))] := hD
  refine y_putF Y hP hD hS 0 rfl ff_X2_9 rfl rfl (Nat.le_of_ble_eq_true rfl) dX2_init_9 (fun H locs hP hD hS => ?_)
  have hP : va_P G.1 vwCl [(h0, .inr (1, [.ref q0_, .int 0, .int 0, .int 0])), (q0_, .inl (G.2 0, 60, .inl (fun _ => 0)))] H := hP
  have hD : va_D A [(h0, .inr (1, [.ref q0_, .int 0, .int 0, .int 0])), (q0_, .inl (G.2 0, 60, .inl (fun _ => 0)))] := hD
  refine lv_aload_n hx hb dX2_init_12 rfl (lv_at hl 0 rfl) ?_
  refine lv_iconst (v := (0 : Int32)) hx hb dX2_init_13 (by decide) ?_
  refine y_put Y hP hD hS 0 rfl fp_X2_15 rfl rfl (Nat.le_of_ble_eq_true rfl) dX2_init_14 (fun H locs hP hD hS => ?_)
  have hP : va_P G.1 vwCl [(h0, .inr (1, [.ref q0_, .int 0, .int 0, .int 0])), (q0_, .inl (G.2 0, 60, .inl (fun _ => 0)))] H := hP
  have hD : va_D A [(h0, .inr (1, [.ref q0_, .int 0, .int 0, .int 0])), (q0_, .inl (G.2 0, 60, .inl (fun _ => 0)))] := hD
  refine lv_aload_n hx hb dX2_init_17 rfl (lv_at hl 0 rfl) ?_
  refine lv_iconst (v := (0 : Int32)) hx hb dX2_init_18 (by decide) ?_
  refine y_put Y hP hD hS 0 rfl fp_X2_19 rfl rfl (Nat.le_of_ble_eq_true rfl) dX2_init_19 (fun H locs hP hD hS => ?_)
  have hP : va_P G.1 vwCl [(h0, .inr (1, [.ref q0_, .int 0, .int 0, .int 0])), (q0_, .inl (G.2 0, 60, .inl (fun _ => 0)))] H := hP
  have hD : va_D A [(h0, .inr (1, [.ref q0_, .int 0, .int 0, .int 0])), (q0_, .inl (G.2 0, 60, .inl (fun _ => 0)))] := hD
  refine lv_aload_n hx hb dX2_init_22 rfl (lv_at hl 0 rfl) ?_
  refine lv_iconst (v := (0 : Int32)) hx hb dX2_init_23 (by decide) ?_
  refine y_put Y hP hD hS 0 rfl fp_X2_23 rfl rfl (Nat.le_of_ble_eq_true rfl) dX2_init_24 (fun H locs hP hD hS => ?_)
  have hP : va_P G.1 vwCl [(h0, .inr (1, [.ref q0_, .int 0, .int 0, .int 0])), (q0_, .inl (G.2 0, 60, .inl (fun _ => 0)))] H := hP
  have hD : va_D A [(h0, .inr (1, [.ref q0_, .int 0, .int 0, .int 0])), (q0_, .inl (G.2 0, 60, .inl (fun _ => 0)))] := hD
  subst hAe
  rw [hQ]
  exact W.vret hx hb hr (fun t ht _ => ⟨⟨fun k => ([q0_] : List Nat).getD k 0, rfl, trivial, by rw [ht]; exact hP, hD⟩, hS.F ht⟩) hS.2.2 dX2_init_27 hlk
set_option maxHeartbeats 4000000 in
set_option maxRecDepth 100000 in
theorem cm_X3_init (l : Launch) (G : xG) (h0 sz : Nat) : Met l yX3_init (Cond.code yX3_init cX3_init 1 none :: xw_all) { frames := 1, cells := 1, slots := 3, locals := 20 } (va_Pc [.ref h0] (yPre G sz [(h0, .inr (2, [.null, .int 0, .int 0, .int 0, .int 0]))])) (va_Qv (fun _ : Nat → Nat => True) (fun (u : Nat → Nat) t => va_P G.1 vwCl [(h0, .inr (2, [.ref (u 0), .int 0, .int 0, .int 0, .int 0])), ((u 0), .inl (G.2 0, 3, .inl (fun _ => 0)))] t.heap ∧ va_D (va_A [(h0, .inr (2, [.null, .int 0, .int 0, .int 0, .int 0]))] sz) [(h0, .inr (2, [.ref (u 0), .int 0, .int 0, .int 0, .int 0])), ((u 0), .inl (G.2 0, 3, .inl (fun _ => 0)))]) (va_A [(h0, .inr (2, [.null, .int 0, .int 0, .int 0, .int 0]))] sz)) 1 3 (va_A [(h0, .inr (2, [.null, .int 0, .int 0, .int 0, .int 0]))] sz) := by
  refine y_ent (nL := 1) (own := RX3) (by decide) rfl rfl (by decide) ?_
  intro p e s m args below meth c H locs ls A Q Y hr hlk hAe hQ hP hD hS hA hl
  have hx := Y.1.1
  have hb := Y.1.2.1
  refine lv_aload_n hx hb dX3_init_0 rfl (lv_at hl 0 rfl) ?_
  refine y_obj Y hl lo_X3_3 dX3_init_1 ⟨(Nat.le_of_ble_eq_true rfl), (Nat.le_of_ble_eq_true rfl)⟩ ?_
  refine lv_aload_n hx hb dX3_init_4 rfl (lv_at hl 0 rfl) ?_
  refine lv_iconst (v := (3 : Int32)) hx hb dX3_init_5 (by decide) ?_
  refine y_newI Y hP hD hS hA (N' := 3) (by decide) (by decide) (by decide) (Nat.le_of_ble_eq_true rfl) (Nat.le_of_ble_eq_true rfl) dX3_init_6 (fun q0_ H hP hD hS => ?_)
  have hP : va_P G.1 vwCl [(h0, .inr (2, [.null, .int 0, .int 0, .int 0, .int 0])), (q0_, .inl (G.2 0, 3, .inl (fun _ => 0)))] H := hP
  have hD : va_D A [(h0, .inr (2, [.null, .int 0, .int 0, .int 0, .int 0])), (q0_, .inl (G.2 0, 3, .inl (fun _ => 0)))] := hD
  refine y_putF Y hP hD hS 0 rfl ff_X3_9 rfl rfl (Nat.le_of_ble_eq_true rfl) dX3_init_8 (fun H locs hP hD hS => ?_)
  have hP : va_P G.1 vwCl [(h0, .inr (2, [.ref q0_, .int 0, .int 0, .int 0, .int 0])), (q0_, .inl (G.2 0, 3, .inl (fun _ => 0)))] H := hP
  have hD : va_D A [(h0, .inr (2, [.ref q0_, .int 0, .int 0, .int 0, .int 0])), (q0_, .inl (G.2 0, 3, .inl (fun _ => 0)))] := hD
  refine lv_aload_n hx hb dX3_init_11 rfl (lv_at hl 0 rfl) ?_
  refine lv_iconst (v := (0 : Int32)) hx hb dX3_init_12 (by decide) ?_
  refine y_put Y hP hD hS 0 rfl fp_X3_15 rfl rfl (Nat.le_of_ble_eq_true rfl) dX3_init_13 (fun H locs hP hD hS => ?_)
  have hP : va_P G.1 vwCl [(h0, .inr (2, [.ref q0_, .int 0, .int 0, .int 0, .int 0])), (q0_, .inl (G.2 0, 3, .inl (fun _ => 0)))] H := hP
  have hD : va_D A [(h0, .inr (2, [.ref q0_, .int 0, .int 0, .int 0, .int 0])), (q0_, .inl (G.2 0, 3, .inl (fun _ => 0)))] := hD
  refine lv_aload_n hx hb dX3_init_16 rfl (lv_at hl 0 rfl) ?_
  refine lv_iconst (v := (0 : Int32)) hx hb dX3_init_17 (by decide) ?_
  refine y_put Y hP hD hS 0 rfl fp_X3_19 rfl rfl (Nat.le_of_ble_eq_true rfl) dX3_init_18 (fun H locs hP hD hS => ?_)
  have hP : va_P G.1 vwCl [(h0, .inr (2, [.ref q0_, .int 0, .int 0, .int 0, .int 0])), (q0_, .inl (G.2 0, 3, .inl (fun _ => 0)))] H := hP
  have hD : va_D A [(h0, .inr (2, [.ref q0_, .int 0, .int 0, .int 0, .int 0])), (q0_, .inl (G.2 0, 3, .inl (fun _ => 0)))] := hD
  refine lv_aload_n hx hb dX3_init_21 rfl (lv_at hl 0 rfl) ?_
  refine lv_iconst (v := (0 : Int32)) hx hb dX3_init_22 (by decide) ?_
  refine y_put Y hP hD hS 0 rfl fp_X3_22 rfl rfl (Nat.le_of_ble_eq_true rfl) dX3_init_23 (fun H locs hP hD hS => ?_)
  have hP : va_P G.1 vwCl [(h0, .inr (2, [.ref q0_, .int 0, .int 0, .int 0, .int 0])), (q0_, .inl (G.2 0, 3, .inl (fun _ => 0)))] H := hP
  have hD : va_D A [(h0, .inr (2, [.ref q0_, .int 0, .int 0, .int 0, .int 0])), (q0_, .inl (G.2 0, 3, .inl (fun _ => 0)))] := hD
  refine lv_aload_n hx hb dX3_init_26 rfl (lv_at hl 0 rfl) ?_
  refine lv_iconst (v := (0 : Int32)) hx hb dX3_init_27 (by decide) ?_
  refine y_put Y hP hD hS 0 rfl fp_X3_25 rfl rfl (Nat.le_of_ble_eq_true rfl) dX3_init_28 (fun H locs hP hD hS => ?_)
  have hP : va_P G.1 vwCl [(h0, .inr (2, [.ref q0_, .int 0, .int 0, .int 0, .int 0])), (q0_, .inl (G.2 0, 3, .inl (fun _ => 0)))] H := hP
  have hD : va_D A [(h0, .inr (2, [.ref q0_, .int 0, .int 0, .int 0, .int 0])), (q0_, .inl (G.2 0, 3, .inl (fun _ => 0)))] := hD
  subst hAe
  rw [hQ]
  exact W.vret hx hb hr (fun t ht _ => ⟨⟨fun k => ([q0_] : List Nat).getD k 0, rfl, trivial, by rw [ht]; exact hP, hD⟩, hS.F ht⟩) hS.2.2 dX3_init_31 hlk
set_option maxHeartbeats 4000000 in
set_option maxRecDepth 100000 in
theorem cm_X1_init (l : Launch) (G : xG) (h0 sz : Nat) : Met l yX1_init (Cond.code yX1_init cX1_init 1 none :: xw_all) { frames := 1, cells := 4, slots := 32, locals := 20 } (va_Pc [.ref h0] (yPre G sz [(h0, .inr (0, [.null, .null, .null, .null, .int 0]))])) (va_Qv (fun _ : Nat → Nat => True) (fun (u : Nat → Nat) t => va_P G.1 vwCl [(h0, .inr (0, [.ref (u 0), .ref (u 1), .ref (u 2), .ref (u 3), .int 0])), ((u 0), .inl (G.2 0, 8, .inl (fun _ => 0))), ((u 1), .inl (G.2 0, 8, .inl (fun _ => 0))), ((u 2), .inl (G.2 0, 8, .inl (fun _ => 0))), ((u 3), .inl (G.2 0, 8, .inl (fun _ => 0)))] t.heap ∧ va_D (va_A [(h0, .inr (0, [.null, .null, .null, .null, .int 0]))] sz) [(h0, .inr (0, [.ref (u 0), .ref (u 1), .ref (u 2), .ref (u 3), .int 0])), ((u 0), .inl (G.2 0, 8, .inl (fun _ => 0))), ((u 1), .inl (G.2 0, 8, .inl (fun _ => 0))), ((u 2), .inl (G.2 0, 8, .inl (fun _ => 0))), ((u 3), .inl (G.2 0, 8, .inl (fun _ => 0)))]) (va_A [(h0, .inr (0, [.null, .null, .null, .null, .int 0]))] sz)) 4 32 (va_A [(h0, .inr (0, [.null, .null, .null, .null, .int 0]))] sz) := by
  refine y_ent (nL := 1) (own := RX1) (by decide) rfl rfl (by decide) ?_
  intro p e s m args below meth c H locs ls A Q Y hr hlk hAe hQ hP hD hS hA hl
  have hx := Y.1.1
  have hb := Y.1.2.1
  refine lv_aload_n hx hb dX1_init_0 rfl (lv_at hl 0 rfl) ?_
  refine y_obj Y hl lo_X1_3 dX1_init_1 ⟨(Nat.le_of_ble_eq_true rfl), (Nat.le_of_ble_eq_true rfl)⟩ ?_
  refine lv_aload_n hx hb dX1_init_4 rfl (lv_at hl 0 rfl) ?_
  refine lv_bipush (v := (8 : Int32)) hx hb dX1_init_5 (by decide) ?_
  refine y_newI Y hP hD hS hA (N' := 8) (by decide) (by decide) (by decide) (Nat.le_of_ble_eq_true rfl) (Nat.le_of_ble_eq_true rfl) dX1_init_7 (fun q0_ H hP hD hS => ?_)
  have hP : va_P G.1 vwCl [(h0, .inr (0, [.null, .null, .null, .null, .int 0])), (q0_, .inl (G.2 0, 8, .inl (fun _ => 0)))] H := hP
  have hD : va_D A [(h0, .inr (0, [.null, .null, .null, .null, .int 0])), (q0_, .inl (G.2 0, 8, .inl (fun _ => 0)))] := hD
  refine y_putF Y hP hD hS 0 rfl ff_X1_9 rfl rfl (Nat.le_of_ble_eq_true rfl) dX1_init_9 (fun H locs hP hD hS => ?_)
  have hP : va_P G.1 vwCl [(h0, .inr (0, [.ref q0_, .null, .null, .null, .int 0])), (q0_, .inl (G.2 0, 8, .inl (fun _ => 0)))] H := hP
  have hD : va_D A [(h0, .inr (0, [.ref q0_, .null, .null, .null, .int 0])), (q0_, .inl (G.2 0, 8, .inl (fun _ => 0)))] := hD
  refine lv_aload_n hx hb dX1_init_12 rfl (lv_at hl 0 rfl) ?_
  refine lv_bipush (v := (8 : Int32)) hx hb dX1_init_13 (by decide) ?_
  refine y_newI Y hP hD hS hA (N' := 8) (by decide) (by decide) (by decide) (Nat.le_of_ble_eq_true rfl) (Nat.le_of_ble_eq_true rfl) dX1_init_15 (fun q1_ H hP hD hS => ?_)
  have hP : va_P G.1 vwCl [(h0, .inr (0, [.ref q0_, .null, .null, .null, .int 0])), (q0_, .inl (G.2 0, 8, .inl (fun _ => 0))), (q1_, .inl (G.2 0, 8, .inl (fun _ => 0)))] H := hP
  have hD : va_D A [(h0, .inr (0, [.ref q0_, .null, .null, .null, .int 0])), (q0_, .inl (G.2 0, 8, .inl (fun _ => 0))), (q1_, .inl (G.2 0, 8, .inl (fun _ => 0)))] := hD
  refine y_putF Y hP hD hS 0 rfl ff_X1_15 rfl rfl (Nat.le_of_ble_eq_true rfl) dX1_init_17 (fun H locs hP hD hS => ?_)
  have hP : va_P G.1 vwCl [(h0, .inr (0, [.ref q0_, .ref q1_, .null, .null, .int 0])), (q0_, .inl (G.2 0, 8, .inl (fun _ => 0))), (q1_, .inl (G.2 0, 8, .inl (fun _ => 0)))] H := hP
  have hD : va_D A [(h0, .inr (0, [.ref q0_, .ref q1_, .null, .null, .int 0])), (q0_, .inl (G.2 0, 8, .inl (fun _ => 0))), (q1_, .inl (G.2 0, 8, .inl (fun _ => 0)))] := hD
  refine lv_aload_n hx hb dX1_init_20 rfl (lv_at hl 0 rfl) ?_
  refine lv_bipush (v := (8 : Int32)) hx hb dX1_init_21 (by decide) ?_
  refine y_newI Y hP hD hS hA (N' := 8) (by decide) (by decide) (by decide) (Nat.le_of_ble_eq_true rfl) (Nat.le_of_ble_eq_true rfl) dX1_init_23 (fun q2_ H hP hD hS => ?_)
  have hP : va_P G.1 vwCl [(h0, .inr (0, [.ref q0_, .ref q1_, .null, .null, .int 0])), (q0_, .inl (G.2 0, 8, .inl (fun _ => 0))), (q1_, .inl (G.2 0, 8, .inl (fun _ => 0))), (q2_, .inl (G.2 0, 8, .inl (fun _ => 0)))] H := hP
  have hD : va_D A [(h0, .inr (0, [.ref q0_, .ref q1_, .null, .null, .int 0])), (q0_, .inl (G.2 0, 8, .inl (fun _ => 0))), (q1_, .inl (G.2 0, 8, .inl (fun _ => 0))), (q2_, .inl (G.2 0, 8, .inl (fun _ => 0)))] := hD
  refine y_putF Y hP hD hS 0 rfl ff_X1_18 rfl rfl (Nat.le_of_ble_eq_true rfl) dX1_init_25 (fun H locs hP hD hS => ?_)
  have hP : va_P G.1 vwCl [(h0, .inr (0, [.ref q0_, .ref q1_, .ref q2_, .null, .int 0])), (q0_, .inl (G.2 0, 8, .inl (fun _ => 0))), (q1_, .inl (G.2 0, 8, .inl (fun _ => 0))), (q2_, .inl (G.2 0, 8, .inl (fun _ => 0)))] H := hP
  have hD : va_D A [(h0, .inr (0, [.ref q0_, .ref q1_, .ref q2_, .null, .int 0])), (q0_, .inl (G.2 0, 8, .inl (fun _ => 0))), (q1_, .inl (G.2 0, 8, .inl (fun _ => 0))), (q2_, .inl (G.2 0, 8, .inl (fun _ => 0)))] := hD
  refine lv_aload_n hx hb dX1_init_28 rfl (lv_at hl 0 rfl) ?_
  refine lv_bipush (v := (8 : Int32)) hx hb dX1_init_29 (by decide) ?_
  refine y_newI Y hP hD hS hA (N' := 8) (by decide) (by decide) (by decide) (Nat.le_of_ble_eq_true rfl) (Nat.le_of_ble_eq_true rfl) dX1_init_31 (fun q3_ H hP hD hS => ?_)
  have hP : va_P G.1 vwCl [(h0, .inr (0, [.ref q0_, .ref q1_, .ref q2_, .null, .int 0])), (q0_, .inl (G.2 0, 8, .inl (fun _ => 0))), (q1_, .inl (G.2 0, 8, .inl (fun _ => 0))), (q2_, .inl (G.2 0, 8, .inl (fun _ => 0))), (q3_, .inl (G.2 0, 8, .inl (fun _ => 0)))] H := hP
  have hD : va_D A [(h0, .inr (0, [.ref q0_, .ref q1_, .ref q2_, .null, .int 0])), (q0_, .inl (G.2 0, 8, .inl (fun _ => 0))), (q1_, .inl (G.2 0, 8, .inl (fun _ => 0))), (q2_, .inl (G.2 0, 8, .inl (fun _ => 0))), (q3_, .inl (G.2 0, 8, .inl (fun _ => 0)))] := hD
  refine y_putF Y hP hD hS 0 rfl ff_X1_21 rfl rfl (Nat.le_of_ble_eq_true rfl) dX1_init_33 (fun H locs hP hD hS => ?_)
  have hP : va_P G.1 vwCl [(h0, .inr (0, [.ref q0_, .ref q1_, .ref q2_, .ref q3_, .int 0])), (q0_, .inl (G.2 0, 8, .inl (fun _ => 0))), (q1_, .inl (G.2 0, 8, .inl (fun _ => 0))), (q2_, .inl (G.2 0, 8, .inl (fun _ => 0))), (q3_, .inl (G.2 0, 8, .inl (fun _ => 0)))] H := hP
  have hD : va_D A [(h0, .inr (0, [.ref q0_, .ref q1_, .ref q2_, .ref q3_, .int 0])), (q0_, .inl (G.2 0, 8, .inl (fun _ => 0))), (q1_, .inl (G.2 0, 8, .inl (fun _ => 0))), (q2_, .inl (G.2 0, 8, .inl (fun _ => 0))), (q3_, .inl (G.2 0, 8, .inl (fun _ => 0)))] := hD
  refine lv_aload_n hx hb dX1_init_36 rfl (lv_at hl 0 rfl) ?_
  refine lv_iconst (v := (0 : Int32)) hx hb dX1_init_37 (by decide) ?_
  refine y_put Y hP hD hS 0 rfl fp_X1_24 rfl rfl (Nat.le_of_ble_eq_true rfl) dX1_init_38 (fun H locs hP hD hS => ?_)
  have hP : va_P G.1 vwCl [(h0, .inr (0, [.ref q0_, .ref q1_, .ref q2_, .ref q3_, .int 0])), (q0_, .inl (G.2 0, 8, .inl (fun _ => 0))), (q1_, .inl (G.2 0, 8, .inl (fun _ => 0))), (q2_, .inl (G.2 0, 8, .inl (fun _ => 0))), (q3_, .inl (G.2 0, 8, .inl (fun _ => 0)))] H := hP
  have hD : va_D A [(h0, .inr (0, [.ref q0_, .ref q1_, .ref q2_, .ref q3_, .int 0])), (q0_, .inl (G.2 0, 8, .inl (fun _ => 0))), (q1_, .inl (G.2 0, 8, .inl (fun _ => 0))), (q2_, .inl (G.2 0, 8, .inl (fun _ => 0))), (q3_, .inl (G.2 0, 8, .inl (fun _ => 0)))] := hD
  subst hAe
  rw [hQ]
  exact W.vret hx hb hr (fun t ht _ => ⟨⟨fun k => ([q0_, q1_, q2_, q3_] : List Nat).getD k 0, rfl, trivial, by rw [ht]; exact hP, hD⟩, hS.F ht⟩) hS.2.2 dX1_init_41 hlk
