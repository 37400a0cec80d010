def wp_X7_in (n : Nat) (a0 : Int64) (a2 : Int64) (a4 : Int64) (μ : xM) (K : Int32 → Prop) : Prop :=
  (((lg_cmp a0 a2) < 0 → K (0 : Int32)) ∧ (¬ (lg_cmp a0 a2) < 0 → ((0 < (lg_cmp a0 a4) → K (0 : Int32)) ∧ (¬ 0 < (lg_cmp a0 a4) → K (1 : Int32)))))
set_option maxHeartbeats 4000000 in
set_option maxRecDepth 100000 in
theorem cm_X7_in (l : Launch) (G : xG) (ad : Nat → Nat) (hI : xI 23 ad) (n : Nat) (a0 : Int64) (a2 : Int64) (a4 : Int64) (μ : xM) (K : Int32 → Prop) (hf : wp_X7_in n a0 a2 a4 μ K) : Met l yX7_in (Cond.code yX7_in cX7_in 6 (some .boolean) :: xw_all) (rmo 0 0) (va_Pc [.long a0, .long a2, .long a4] (xPre mS 23 G ad μ)) (xQi mS 23 G ad (fun r u => K r ∧ u = μ)) 0 0 (xR 23 ad) := by
  refine x_ent (nL := 6) (own := RX7) (by decide) rfl hI (Nat.le_of_ble_eq_true rfl) ?_
  intro p e s m args below meth c H locs ls Q X hr hlk hQ M hl
  have hx := X.1.1
  have hb := X.1.2.1
  have hown := X.1.2.2.2.1
  have hts := X.1.2.2.2.2
  have hl : lv_has ls 6 [(0, .long a0), (2, .long a2), (4, .long a4)] := hl
  unfold wp_X7_in at hf
  refine lv_lload_n hx hb dX7_in_0 rfl (lv_at hl 0 rfl) ?_
  refine lv_lload_n hx hb dX7_in_1 rfl (lv_at hl 1 rfl) ?_
  refine W.lcmp hx hb dX7_in_2 ?_
  refine lv_if_lt (tgt := 17) hx hb dX7_in_3 (by decide) (fun c_3 => ?_) (fun c_3 => ?_)
  · replace hf := hf.1 c_3
    refine lv_iconst (v := (0 : Int32)) hx hb dX7_in_17 (by decide) ?_
    rw [hQ]
    exact x_zret X M hr hlk xb_0 dX7_in_18 ⟨hf, rfl⟩
  · replace hf := hf.2 c_3
    refine lv_lload_n hx hb dX7_in_6 rfl (lv_at hl 0 rfl) ?_
    refine lv_lload hx hb dX7_in_7 (lv_at hl 2 rfl) ?_
    refine W.lcmp hx hb dX7_in_9 ?_
    refine lv_if_gt (tgt := 17) hx hb dX7_in_10 (by decide) (fun c_10 => ?_) (fun c_10 => ?_)
    · replace hf := hf.1 c_10
      refine lv_iconst (v := (0 : Int32)) hx hb dX7_in_17 (by decide) ?_
      rw [hQ]
      exact x_zret X M hr hlk xb_0 dX7_in_18 ⟨hf, rfl⟩
    · replace hf := hf.2 c_10
      refine lv_iconst (v := (1 : Int32)) hx hb dX7_in_13 (by decide) ?_
      refine lv_goto (tgt := 18) hx hb dX7_in_14 (by decide) ?_
      rw [hQ]
      exact x_zret X M hr hlk xb_1 dX7_in_18 ⟨hf, rfl⟩
def wp_X7_nothing (n : Nat)  (μ : xM) (K : Int64 → Prop) : Prop :=
  K ((-9223372036854775808) : Int64)
set_option maxHeartbeats 4000000 in
set_option maxRecDepth 100000 in
theorem cm_X7_nothing (l : Launch) (G : xG) (ad : Nat → Nat) (hI : xI 23 ad) (n : Nat)  (μ : xM) (K : Int64 → Prop) (hf : wp_X7_nothing n μ K) : Met l yX7_nothing (Cond.code yX7_nothing cX7_nothing 0 (some .long) :: xw_all) (rmo 0 0) (va_Pc [] (xPre mS 23 G ad μ)) (xQl mS 23 G ad (fun r u => K r ∧ u = μ)) 0 0 (xR 23 ad) := by
  refine x_ent (nL := 0) (own := RX7) (by decide) rfl hI (Nat.le_of_ble_eq_true rfl) ?_
  intro p e s m args below meth c H locs ls Q X hr hlk hQ M hl
  have hx := X.1.1
  have hb := X.1.2.1
  have hown := X.1.2.2.2.1
  have hts := X.1.2.2.2.2
  have hl : lv_has ls 0 [] := hl
  unfold wp_X7_nothing at hf
  refine lv_ldc2 (v := ((-9223372036854775808) : Int64)) hx hb hown (hts _ kc_X7_77) dX7_nothing_0 ?_
  rw [hQ]
  exact x_lret X M hr hlk dX7_nothing_3 ⟨hf, rfl⟩
def wp_X7_off (n : Nat) (a0 : Int32) (a1 : Int32) (μ : xM) (K : Int32 → Prop) : Prop :=
  ((a1 ≤ a0 → K (a0 - a1)) ∧ (¬ a1 ≤ a0 → K (a1 - a0)))
set_option maxHeartbeats 4000000 in
set_option maxRecDepth 100000 in
theorem cm_X7_off (l : Launch) (G : xG) (ad : Nat → Nat) (hI : xI 23 ad) (n : Nat) (a0 : Int32) (a1 : Int32) (μ : xM) (K : Int32 → Prop) (hf : wp_X7_off n a0 a1 μ K) : Met l yX7_off (Cond.code yX7_off cX7_off 2 (some .int) :: xw_all) (rmo 0 0) (va_Pc [.int a0, .int a1] (xPre mS 23 G ad μ)) (xQi mS 23 G ad (fun r u => K r ∧ u = μ)) 0 0 (xR 23 ad) := by
  refine x_ent (nL := 2) (own := RX7) (by decide) rfl hI (Nat.le_of_ble_eq_true rfl) ?_
  intro p e s m args below meth c H locs ls Q X hr hlk hQ M hl
  have hx := X.1.1
  have hb := X.1.2.1
  have hown := X.1.2.2.2.1
  have hts := X.1.2.2.2.2
  have hl : lv_has ls 2 [(0, .int a0), (1, .int a1)] := hl
  unfold wp_X7_off at hf
  refine lv_iload_n hx hb dX7_off_0 rfl (lv_at hl 0 rfl) ?_
  refine lv_iload_n hx hb dX7_off_1 rfl (lv_at hl 1 rfl) ?_
  refine lv_icmp_ge (tgt := 11) hx hb dX7_off_2 (by decide) (fun c_2 => ?_) (fun c_2 => ?_)
  · replace hf := hf.1 c_2
    refine lv_iload_n hx hb dX7_off_11 rfl (lv_at hl 0 rfl) ?_
    refine lv_iload_n hx hb dX7_off_12 rfl (lv_at hl 1 rfl) ?_
    refine lv_isub hx hb dX7_off_13 ?_
    rw [hQ]
    exact x_iret X M hr hlk dX7_off_14 ⟨hf, rfl⟩
  · replace hf := hf.2 c_2
    refine lv_iload_n hx hb dX7_off_5 rfl (lv_at hl 1 rfl) ?_
    refine lv_iload_n hx hb dX7_off_6 rfl (lv_at hl 0 rfl) ?_
    refine lv_isub hx hb dX7_off_7 ?_
    refine lv_goto (tgt := 14) hx hb dX7_off_8 (by decide) ?_
    rw [hQ]
    exact x_iret X M hr hlk dX7_off_14 ⟨hf, rfl⟩
def wp_X7_lesser (n : Nat) (a0 : Int32) (a1 : Int32) (μ : xM) (K : Int32 → Prop) : Prop :=
  ((a1 ≤ a0 → K a1) ∧ (¬ a1 ≤ a0 → K a0))
set_option maxHeartbeats 4000000 in
set_option maxRecDepth 100000 in
theorem cm_X7_lesser (l : Launch) (G : xG) (ad : Nat → Nat) (hI : xI 23 ad) (n : Nat) (a0 : Int32) (a1 : Int32) (μ : xM) (K : Int32 → Prop) (hf : wp_X7_lesser n a0 a1 μ K) : Met l yX7_lesser (Cond.code yX7_lesser cX7_lesser 2 (some .int) :: xw_all) (rmo 0 0) (va_Pc [.int a0, .int a1] (xPre mS 23 G ad μ)) (xQi mS 23 G ad (fun r u => K r ∧ u = μ)) 0 0 (xR 23 ad) := by
  refine x_ent (nL := 2) (own := RX7) (by decide) rfl hI (Nat.le_of_ble_eq_true rfl) ?_
  intro p e s m args below meth c H locs ls Q X hr hlk hQ M hl
  have hx := X.1.1
  have hb := X.1.2.1
  have hown := X.1.2.2.2.1
  have hts := X.1.2.2.2.2
  have hl : lv_has ls 2 [(0, .int a0), (1, .int a1)] := hl
  unfold wp_X7_lesser at hf
  refine lv_iload_n hx hb dX7_lesser_0 rfl (lv_at hl 0 rfl) ?_
  refine lv_iload_n hx hb dX7_lesser_1 rfl (lv_at hl 1 rfl) ?_
  refine lv_icmp_ge (tgt := 9) hx hb dX7_lesser_2 (by decide) (fun c_2 => ?_) (fun c_2 => ?_)
  · replace hf := hf.1 c_2
    refine lv_iload_n hx hb dX7_lesser_9 rfl (lv_at hl 1 rfl) ?_
    rw [hQ]
    exact x_iret X M hr hlk dX7_lesser_10 ⟨hf, rfl⟩
  · replace hf := hf.2 c_2
    refine lv_iload_n hx hb dX7_lesser_5 rfl (lv_at hl 0 rfl) ?_
    refine lv_goto (tgt := 10) hx hb dX7_lesser_6 (by decide) ?_
    rw [hQ]
    exact x_iret X M hr hlk dX7_lesser_10 ⟨hf, rfl⟩
def wp_X7_told (n : Nat) (a0 : Int64) (a2 : Int64) (a4 : Int32) (μ : xM) (K : Int64 → Prop) : Prop :=
  xlp (fun (again6 : (Int64 × Int64) → Prop) => fun (s_ : Int64 × Int64) => match s_ with | (x7_6, x5_6) => (((lg_cmp x7_6 (0 : Int64)) = 0 → ((¬ a4 = 0 → (¬ x5_6 = 0 ∧ K (a2 / x5_6))) ∧ (a4 = 0 → (¬ x5_6 = 0 ∧ K (a0 / x5_6))))) ∧ (¬ (lg_cmp x7_6 (0 : Int64)) = 0 → (¬ x7_6 = 0 ∧ (∀ x9_18 : Int64, x9_18 = x5_6 - x5_6 / x7_6 * x7_6 → again6 (x9_18, x7_6)))))) n (a2, a0)
set_option maxHeartbeats 4000000 in
set_option maxRecDepth 100000 in
theorem cm_X7_told (l : Launch) (G : xG) (ad : Nat → Nat) (hI : xI 23 ad) (n : Nat) (a0 : Int64) (a2 : Int64) (a4 : Int32) (μ : xM) (K : Int64 → Prop) (hf : wp_X7_told n a0 a2 a4 μ K) : Met l yX7_told (Cond.code yX7_told cX7_told 11 (some .long) :: xw_all) (rmo 0 0) (va_Pc [.long a0, .long a2, .int a4] (xPre mS 23 G ad μ)) (xQl mS 23 G ad (fun r u => K r ∧ u = μ)) 0 0 (xR 23 ad) := by
  refine x_ent (nL := 11) (own := RX7) (by decide) rfl hI (Nat.le_of_ble_eq_true rfl) ?_
  intro p e s m args below meth c H locs ls Q X hr hlk hQ M hl
  have hx := X.1.1
  have hb := X.1.2.1
  have hown := X.1.2.2.2.1
  have hts := X.1.2.2.2.2
  have hl : lv_has ls 11 [(0, .long a0), (2, .long a2), (4, .int a4)] := hl
  unfold wp_X7_told at hf
  refine lv_lload_n hx hb dX7_told_0 rfl (lv_at hl 0 rfl) ?_
  refine lv_lstore (lv' := [(5, .long a0), (0, .long a0), (2, .long a2), (4, .int a4)]) hx hb dX7_told_1 hl (by decide) rfl (fun ls hl => ?_)
  refine lv_lload_n hx hb dX7_told_3 rfl (lv_at hl 2 rfl) ?_
  refine lv_lstore (lv' := [(7, .long a2), (5, .long a0), (0, .long a0), (2, .long a2), (4, .int a4)]) hx hb dX7_told_4 hl (by decide) rfl (fun ls hl => ?_)
  refine xlp_w hf (fun (s_ : Int64 × Int64) => match s_ with | (x7_6, x5_6) => ∀ (H : Heap) (locs : List Loc) (ls : Array Slot), xS mS 23 G ad s μ H locs → lv_has ls 11 [(7, .long x7_6), (5, .long x5_6), (0, .long a0), (2, .long a2), (4, .int a4)] → W p l e (rmo 0 0) s m args below meth c H locs 0 0 Q (F0 m 6 ls [])) ?_ _ _ _ M (lv_sub hl [0, 1, 2, 3, 4] rfl)
  intro again6 hagain6 s_ hf
  obtain ⟨x7_6, x5_6⟩ := s_
  try dsimp only at hf ⊢
  intro H locs ls M hl
  refine lv_lload hx hb dX7_told_6 (lv_at hl 0 rfl) ?_
  refine lv_lconst (v := (0 : Int64)) hx hb dX7_told_8 (by decide) ?_
  refine W.lcmp hx hb dX7_told_9 ?_
  refine lv_if_eq (tgt := 31) hx hb dX7_told_10 (by decide) (fun c_10 => ?_) (fun c_10 => ?_)
  · replace hf := hf.1 c_10
    refine lv_iload hx hb dX7_told_31 (lv_at hl 4 rfl) ?_
    refine lv_if_ne (tgt := 40) hx hb dX7_told_33 (by decide) (fun c_33 => ?_) (fun c_33 => ?_)
    · replace hf := hf.1 c_33
      refine lv_lload_n hx hb dX7_told_40 rfl (lv_at hl 3 rfl) ?_
      refine lv_lload hx hb dX7_told_41 (lv_at hl 1 rfl) ?_
      obtain ⟨g_43, hf⟩ := hf
      refine lv_ldiv hx hb dX7_told_43 g_43 ?_
      rw [hQ]
      exact x_lret X M hr hlk dX7_told_44 ⟨hf, rfl⟩
    · replace hf := hf.2 c_33
      refine lv_lload_n hx hb dX7_told_36 rfl (lv_at hl 2 rfl) ?_
      refine lv_goto (tgt := 41) hx hb dX7_told_37 (by decide) ?_
      refine lv_lload hx hb dX7_told_41 (lv_at hl 1 rfl) ?_
      obtain ⟨g_43, hf⟩ := hf
      refine lv_ldiv hx hb dX7_told_43 g_43 ?_
      rw [hQ]
      exact x_lret X M hr hlk dX7_told_44 ⟨hf, rfl⟩
  · replace hf := hf.2 c_10
    refine lv_lload hx hb dX7_told_13 (lv_at hl 1 rfl) ?_
    refine lv_lload hx hb dX7_told_15 (lv_at hl 0 rfl) ?_
    obtain ⟨g_17, hf⟩ := hf
    refine lv_lrem hx hb dX7_told_17 g_17 ?_
    refine lv_topl (fun x9_18 ex9_18 => ?_)
    replace hf := hf x9_18 ex9_18
    refine lv_lstore (lv' := [(9, .long x9_18), (7, .long x7_6), (5, .long x5_6), (0, .long a0), (2, .long a2), (4, .int a4)]) hx hb dX7_told_18 hl (by decide) rfl (fun ls hl => ?_)
    refine lv_lload hx hb dX7_told_20 (lv_at hl 1 rfl) ?_
    refine lv_lstore (lv' := [(5, .long x7_6), (9, .long x9_18), (7, .long x7_6), (0, .long a0), (2, .long a2), (4, .int a4)]) hx hb dX7_told_22 hl (by decide) rfl (fun ls hl => ?_)
    refine lv_lload hx hb dX7_told_24 (lv_at hl 1 rfl) ?_
    refine lv_lstore (lv' := [(7, .long x9_18), (5, .long x7_6), (9, .long x9_18), (0, .long a0), (2, .long a2), (4, .int a4)]) hx hb dX7_told_26 hl (by decide) rfl (fun ls hl => ?_)
    refine lv_goto (tgt := 6) hx hb dX7_told_28 (by decide) ?_
    exact hagain6 (x9_18, x7_6) hf _ _ _ M (lv_sub hl [0, 1, 3, 4, 5] rfl)
def wp_X7_refused (n : Nat) (a1 : Int32) (μ : xM) (K : Int32 → xM → Prop) : Prop :=
  (∀ m_2 : xM, m_2 = xu μ 0 0 (0 : Int32) → K a1 m_2)
set_option maxHeartbeats 4000000 in
set_option maxRecDepth 100000 in
theorem cm_X7_refused (l : Launch) (G : xG) (ad : Nat → Nat) (hI : xI 23 ad) (n : Nat) (a1 : Int32) (μ : xM) (K : Int32 → xM → Prop) (hf : wp_X7_refused n a1 μ K) : Met l yX7_refused (Cond.code yX7_refused cX7_refused 2 (some .int) :: xw_all) (rmo 0 0) (va_Pc [.ref (ad 0), .int a1] (xPre mS 23 G ad μ)) (xQi mS 23 G ad K) 0 0 (xR 23 ad) := by
  refine x_ent (nL := 2) (own := RX7) (by decide) rfl hI (Nat.le_of_ble_eq_true rfl) ?_
  intro p e s m args below meth c H locs ls Q X hr hlk hQ M hl
  have hx := X.1.1
  have hb := X.1.2.1
  have hown := X.1.2.2.2.1
  have hts := X.1.2.2.2.2
  have hl : lv_has ls 2 [(0, .ref (ad 0)), (1, .int a1)] := hl
  unfold wp_X7_refused at hf
  refine lv_aload_n hx hb dX7_refused_0 rfl (lv_at hl 0 rfl) ?_
  refine lv_iconst (v := (0 : Int32)) hx hb dX7_refused_1 (by decide) ?_
  refine x_putI X M rgm_0 fp_X7_79 rfl dX7_refused_2 (fun m_2 H locs em_2 M => ?_)
  replace hf := hf m_2 em_2
  refine lv_iload_n hx hb dX7_refused_5 rfl (lv_at hl 1 rfl) ?_
  rw [hQ]
  exact x_iret X M hr hlk dX7_refused_6 hf
def wp_X7_failed (n : Nat) (a1 : Int32) (μ : xM) (K : Int32 → xM → Prop) : Prop :=
  (∀ m_2 : xM, m_2 = xu μ 0 0 a1 → K (((-10) : Int32) - a1) m_2)
set_option maxHeartbeats 4000000 in
set_option maxRecDepth 100000 in
theorem cm_X7_failed (l : Launch) (G : xG) (ad : Nat → Nat) (hI : xI 23 ad) (n : Nat) (a1 : Int32) (μ : xM) (K : Int32 → xM → Prop) (hf : wp_X7_failed n a1 μ K) : Met l yX7_failed (Cond.code yX7_failed cX7_failed 2 (some .int) :: xw_all) (rmo 0 0) (va_Pc [.ref (ad 0), .int a1] (xPre mS 23 G ad μ)) (xQi mS 23 G ad K) 0 0 (xR 23 ad) := by
  refine x_ent (nL := 2) (own := RX7) (by decide) rfl hI (Nat.le_of_ble_eq_true rfl) ?_
  intro p e s m args below meth c H locs ls Q X hr hlk hQ M hl
  have hx := X.1.1
  have hb := X.1.2.1
  have hown := X.1.2.2.2.1
  have hts := X.1.2.2.2.2
  have hl : lv_has ls 2 [(0, .ref (ad 0)), (1, .int a1)] := hl
  unfold wp_X7_failed at hf
  refine lv_aload_n hx hb dX7_failed_0 rfl (lv_at hl 0 rfl) ?_
  refine lv_iload_n hx hb dX7_failed_1 rfl (lv_at hl 1 rfl) ?_
  refine x_putI X M rgm_0 fp_X7_79 rfl dX7_failed_2 (fun m_2 H locs em_2 M => ?_)
  replace hf := hf m_2 em_2
  refine lv_bipush (v := ((-10) : Int32)) hx hb dX7_failed_5 (by decide) ?_
  refine lv_iload_n hx hb dX7_failed_7 rfl (lv_at hl 1 rfl) ?_
  refine lv_isub hx hb dX7_failed_8 ?_
  rw [hQ]
  exact x_iret X M hr hlk dX7_failed_9 hf
def wp_X7_failedLong (n : Nat) (a1 : Int32) (μ : xM) (K : Int64 → xM → Prop) : Prop :=
  (∀ m_2 : xM, m_2 = xu μ 0 0 a1 → wp_X7_nothing n m_2 (fun r_5 : Int64 => K r_5 m_2))
set_option maxHeartbeats 4000000 in
set_option maxRecDepth 100000 in
theorem cm_X7_failedLong (l : Launch) (G : xG) (ad : Nat → Nat) (hI : xI 23 ad) (n : Nat) (a1 : Int32) (μ : xM) (K : Int64 → xM → Prop) (hf : wp_X7_failedLong n a1 μ K) : Met l yX7_failedLong (Cond.code yX7_failedLong cX7_failedLong 2 (some .long) :: xw_all) (rmo 1 19) (va_Pc [.ref (ad 0), .int a1] (xPre mS 23 G ad μ)) (xQl mS 23 G ad K) 0 0 (xR 23 ad) := by
  refine x_ent (nL := 2) (own := RX7) (by decide) rfl hI (Nat.le_of_ble_eq_true rfl) ?_
  intro p e s m args below meth c H locs ls Q X hr hlk hQ M hl
  have hx := X.1.1
  have hb := X.1.2.1
  have hown := X.1.2.2.2.1
  have hts := X.1.2.2.2.2
  have hl : lv_has ls 2 [(0, .ref (ad 0)), (1, .int a1)] := hl
  unfold wp_X7_failedLong at hf
  refine lv_aload_n hx hb dX7_failedLong_0 rfl (lv_at hl 0 rfl) ?_
  refine lv_iload_n hx hb dX7_failedLong_1 rfl (lv_at hl 1 rfl) ?_
  refine x_putI X M rgm_0 fp_X7_79 rfl dX7_failedLong_2 (fun m_2 H locs em_2 M => ?_)
  replace hf := hf m_2 em_2
  refine x_clP (x_rS (As := []) (rest := []) X M (cm_X7_nothing l G ad hI n m_2 _ hf) mc_X7_nothing ms_X7_nothing lk_X7_83 mn_X7_nothing hl ⟨⟨Nat.le_of_ble_eq_true rfl, Nat.le_of_ble_eq_true rfl⟩, rfl, Nat.le_of_ble_eq_true rfl, Nat.zero_le _, Nat.zero_le _⟩ rfl dX7_failedLong_5) M (fun r_5 H locs hf M => ?_)
  try dsimp only at hf
  rw [hQ]
  exact x_lret X M hr hlk dX7_failedLong_8 hf
def wp_X7_noSheet (n : Nat) (a0 : Int32) (μ : xM) (K : Int32 → Prop) : Prop :=
  wp_X7_in n (a0.toInt64) (0 : Int64) (3 : Int64) μ (fun r_6 : Int32 => ((¬ r_6 = 0 → K (0 : Int32)) ∧ (r_6 = 0 → K (1 : Int32))))
set_option maxHeartbeats 4000000 in
set_option maxRecDepth 100000 in
theorem cm_X7_noSheet (l : Launch) (G : xG) (ad : Nat → Nat) (hI : xI 23 ad) (n : Nat) (a0 : Int32) (μ : xM) (K : Int32 → Prop) (hf : wp_X7_noSheet n a0 μ K) : Met l yX7_noSheet (Cond.code yX7_noSheet cX7_noSheet 1 (some .boolean) :: xw_all) (rmo 1 25) (va_Pc [.int a0] (xPre mS 23 G ad μ)) (xQi mS 23 G ad (fun r u => K r ∧ u = μ)) 0 0 (xR 23 ad) := by
  refine x_ent (nL := 1) (own := RX7) (by decide) rfl hI (Nat.le_of_ble_eq_true rfl) ?_
  intro p e s m args below meth c H locs ls Q X hr hlk hQ M hl
  have hx := X.1.1
  have hb := X.1.2.1
  have hown := X.1.2.2.2.1
  have hts := X.1.2.2.2.2
  have hl : lv_has ls 1 [(0, .int a0)] := hl
  unfold wp_X7_noSheet at hf
  refine lv_iload_n hx hb dX7_noSheet_0 rfl (lv_at hl 0 rfl) ?_
  refine lv_i2l hx hb dX7_noSheet_1 rfl ?_
  refine lv_lconst (v := (0 : Int64)) hx hb dX7_noSheet_2 (by decide) ?_
  refine lv_ldc2 (v := (3 : Int64)) hx hb hown (hts _ kc_X7_147) dX7_noSheet_3 ?_
  refine x_ciP (x_rS (As := [.long (a0.toInt64), .long (0 : Int64), .long (3 : Int64)]) (rest := []) X M (cm_X7_in l G ad hI n (a0.toInt64) (0 : Int64) (3 : Int64) μ _ hf) mc_X7_in ms_X7_in lk_X7_97 mn_X7_in hl ⟨⟨Nat.le_of_ble_eq_true rfl, Nat.le_of_ble_eq_true rfl⟩, rfl, Nat.le_of_ble_eq_true rfl, Nat.zero_le _, Nat.zero_le _⟩ rfl dX7_noSheet_6) M (fun r_6 H locs hf M => ?_)
  try dsimp only at hf
  refine lv_if_ne (tgt := 16) hx hb dX7_noSheet_9 (by decide) (fun c_9 => ?_) (fun c_9 => ?_)
  · replace hf := hf.1 c_9
    refine lv_iconst (v := (0 : Int32)) hx hb dX7_noSheet_16 (by decide) ?_
    rw [hQ]
    exact x_zret X M hr hlk xb_0 dX7_noSheet_17 ⟨hf, rfl⟩
  · replace hf := hf.2 c_9
    refine lv_iconst (v := (1 : Int32)) hx hb dX7_noSheet_12 (by decide) ?_
    refine lv_goto (tgt := 17) hx hb dX7_noSheet_13 (by decide) ?_
    rw [hQ]
    exact x_zret X M hr hlk xb_1 dX7_noSheet_17 ⟨hf, rfl⟩
def wp_X7_isBeyond (n : Nat) (a0 : Int32) (a1 : Int64) (a3 : Int32) (μ : xM) (K : Int32 → Prop) : Prop :=
  ((a0 < 0 → K (1 : Int32)) ∧ (¬ a0 < 0 → (((lg_cmp a1 (0 : Int64)) < 0 → K (1 : Int32)) ∧ (¬ (lg_cmp a1 (0 : Int64)) < 0 → (((lg_cmp ((a0.toInt64) + a1) (a3.toInt64)) ≤ 0 → K (0 : Int32)) ∧ (¬ (lg_cmp ((a0.toInt64) + a1) (a3.toInt64)) ≤ 0 → K (1 : Int32)))))))
set_option maxHeartbeats 4000000 in
set_option maxRecDepth 100000 in
theorem cm_X7_isBeyond (l : Launch) (G : xG) (ad : Nat → Nat) (hI : xI 23 ad) (n : Nat) (a0 : Int32) (a1 : Int64) (a3 : Int32) (μ : xM) (K : Int32 → Prop) (hf : wp_X7_isBeyond n a0 a1 a3 μ K) : Met l yX7_isBeyond (Cond.code yX7_isBeyond cX7_isBeyond 4 (some .boolean) :: xw_all) (rmo 0 0) (va_Pc [.int a0, .long a1, .int a3] (xPre mS 23 G ad μ)) (xQi mS 23 G ad (fun r u => K r ∧ u = μ)) 0 0 (xR 23 ad) := by
  refine x_ent (nL := 4) (own := RX7) (by decide) rfl hI (Nat.le_of_ble_eq_true rfl) ?_
  intro p e s m args below meth c H locs ls Q X hr hlk hQ M hl
  have hx := X.1.1
  have hb := X.1.2.1
  have hown := X.1.2.2.2.1
  have hts := X.1.2.2.2.2
  have hl : lv_has ls 4 [(0, .int a0), (1, .long a1), (3, .int a3)] := hl
  unfold wp_X7_isBeyond at hf
  refine lv_iload_n hx hb dX7_isBeyond_0 rfl (lv_at hl 0 rfl) ?_
  refine lv_if_lt (tgt := 20) hx hb dX7_isBeyond_1 (by decide) (fun c_1 => ?_) (fun c_1 => ?_)
  · replace hf := hf.1 c_1
    refine lv_iconst (v := (1 : Int32)) hx hb dX7_isBeyond_20 (by decide) ?_
    refine lv_goto (tgt := 25) hx hb dX7_isBeyond_21 (by decide) ?_
    rw [hQ]
    exact x_zret X M hr hlk xb_1 dX7_isBeyond_25 ⟨hf, rfl⟩
  · replace hf := hf.2 c_1
    refine lv_lload_n hx hb dX7_isBeyond_4 rfl (lv_at hl 1 rfl) ?_
    refine lv_lconst (v := (0 : Int64)) hx hb dX7_isBeyond_5 (by decide) ?_
    refine W.lcmp hx hb dX7_isBeyond_6 ?_
    refine lv_if_lt (tgt := 20) hx hb dX7_isBeyond_7 (by decide) (fun c_7 => ?_) (fun c_7 => ?_)
    · replace hf := hf.1 c_7
      refine lv_iconst (v := (1 : Int32)) hx hb dX7_isBeyond_20 (by decide) ?_
      refine lv_goto (tgt := 25) hx hb dX7_isBeyond_21 (by decide) ?_
      rw [hQ]
      exact x_zret X M hr hlk xb_1 dX7_isBeyond_25 ⟨hf, rfl⟩
    · replace hf := hf.2 c_7
      refine lv_iload_n hx hb dX7_isBeyond_10 rfl (lv_at hl 0 rfl) ?_
      refine lv_i2l hx hb dX7_isBeyond_11 rfl ?_
      refine lv_lload_n hx hb dX7_isBeyond_12 rfl (lv_at hl 1 rfl) ?_
      refine lv_ladd hx hb dX7_isBeyond_13 ?_
      refine lv_iload_n hx hb dX7_isBeyond_14 rfl (lv_at hl 2 rfl) ?_
      refine lv_i2l hx hb dX7_isBeyond_15 rfl ?_
      refine W.lcmp hx hb dX7_isBeyond_16 ?_
      refine lv_if_le (tgt := 24) hx hb dX7_isBeyond_17 (by decide) (fun c_17 => ?_) (fun c_17 => ?_)
      · replace hf := hf.1 c_17
        refine lv_iconst (v := (0 : Int32)) hx hb dX7_isBeyond_24 (by decide) ?_
        rw [hQ]
        exact x_zret X M hr hlk xb_0 dX7_isBeyond_25 ⟨hf, rfl⟩
      · replace hf := hf.2 c_17
        refine lv_iconst (v := (1 : Int32)) hx hb dX7_isBeyond_20 (by decide) ?_
        refine lv_goto (tgt := 25) hx hb dX7_isBeyond_21 (by decide) ?_
        rw [hQ]
        exact x_zret X M hr hlk xb_1 dX7_isBeyond_25 ⟨hf, rfl⟩
def wp_X7_barred (n : Nat) (a1 : Int32) (a2 : Int32) (a3 : Int32) (a4 : Int64) (a6 : Int32) (μ : xM) (K : Int32 → xM → Prop) : Prop :=
  wp_X7_noSheet n a1 μ (fun r_1 : Int32 => ((r_1 = 0 → wp_X7_in n (a2.toInt64) (0 : Int64) (2 : Int64) μ (fun r_19 : Int32 => ((r_19 = 0 → wp_X7_refused n ((-2) : Int32) μ (fun (r_33 : Int32) (m_33 : xM) => K r_33 m_33)) ∧ (¬ r_19 = 0 → ((¬ a6 = 0 → (vp_in a1 4 ∧ xjn (fun (_ : Unit) => (vp_in a1 4 ∧ ((0 ≤ (μ 19 a1.toNatClampNeg) → ((0 ≤ (lg_cmp a4 (0 : Int64)) → (vp_in a1 4 ∧ wp_X7_isBeyond n a3 a4 (μ 19 a1.toNatClampNeg) μ (fun r_99 : Int32 => ((r_99 = 0 → K (0 : Int32) μ) ∧ (¬ r_99 = 0 → wp_X7_failed n (3 : Int32) μ (fun (r_107 : Int32) (m_107 : xM) => K r_107 m_107)))))) ∧ (¬ 0 ≤ (lg_cmp a4 (0 : Int64)) → wp_X7_failed n (4 : Int32) μ (fun (r_86 : Int32) (m_86 : xM) => K r_86 m_86)))) ∧ (¬ 0 ≤ (μ 19 a1.toNatClampNeg) → wp_X7_failed n (1 : Int32) μ (fun (r_73 : Int32) (m_73 : xM) => K r_73 m_73))))) (fun J62 : Unit → Prop => (((μ 19 a1.toNatClampNeg) < 0 → J62 ()) ∧ (¬ (μ 19 a1.toNatClampNeg) < 0 → (vp_in a1 4 ∧ (((μ 20 a1.toNatClampNeg) = a2 → J62 ()) ∧ (¬ (μ 20 a1.toNatClampNeg) = a2 → wp_X7_failed n (2 : Int32) μ (fun (r_58 : Int32) (m_58 : xM) => K r_58 m_58))))))))) ∧ (a6 = 0 → wp_X7_refused n ((-2) : Int32) μ (fun (r_33 : Int32) (m_33 : xM) => K r_33 m_33))))))) ∧ (¬ r_1 = 0 → wp_X7_refused n ((-1) : Int32) μ (fun (r_9 : Int32) (m_9 : xM) => K r_9 m_9))))
set_option maxHeartbeats 4000000 in
set_option maxRecDepth 100000 in
theorem cm_X7_barred (l : Launch) (G : xG) (ad : Nat → Nat) (hI : xI 23 ad) (n : Nat) (a1 : Int32) (a2 : Int32) (a3 : Int32) (a4 : Int64) (a6 : Int32) (μ : xM) (K : Int32 → xM → Prop) (hf : wp_X7_barred n a1 a2 a3 a4 a6 μ K) : Met l yX7_barred (Cond.code yX7_barred cX7_barred 7 (some .int) :: xw_all) (rmo 2 45) (va_Pc [.ref (ad 0), .int a1, .int a2, .int a3, .long a4, .int a6] (xPre mS 23 G ad μ)) (xQi mS 23 G ad K) 0 0 (xR 23 ad) := by
  refine x_ent (nL := 7) (own := RX7) (by decide) rfl hI (Nat.le_of_ble_eq_true rfl) ?_
  intro p e s m args below meth c H locs ls Q X hr hlk hQ M hl
  have hx := X.1.1
  have hb := X.1.2.1
  have hown := X.1.2.2.2.1
  have hts := X.1.2.2.2.2
  have hl : lv_has ls 7 [(0, .ref (ad 0)), (1, .int a1), (2, .int a2), (3, .int a3), (4, .long a4), (6, .int a6)] := hl
  unfold wp_X7_barred at hf
  refine lv_iload_n hx hb dX7_barred_0 rfl (lv_at hl 1 rfl) ?_
  refine x_ciP (x_rS (As := [.int a1]) (rest := []) X M (cm_X7_noSheet l G ad hI n a1 μ _ hf) mc_X7_noSheet ms_X7_noSheet lk_X7_87 mn_X7_noSheet hl ⟨⟨Nat.le_of_ble_eq_true rfl, Nat.le_of_ble_eq_true rfl⟩, rfl, Nat.le_of_ble_eq_true rfl, Nat.zero_le _, Nat.zero_le _⟩ rfl dX7_barred_1) M (fun r_1 H locs hf M => ?_)
  try dsimp only at hf
  refine lv_if_eq (tgt := 13) hx hb dX7_barred_4 (by decide) (fun c_4 => ?_) (fun c_4 => ?_)
  · replace hf := hf.1 c_4
    refine lv_iload_n hx hb dX7_barred_13 rfl (lv_at hl 2 rfl) ?_
    refine lv_i2l hx hb dX7_barred_14 rfl ?_
    refine lv_lconst (v := (0 : Int64)) hx hb dX7_barred_15 (by decide) ?_
    refine lv_ldc2 (v := (2 : Int64)) hx hb hown (hts _ kc_X7_95) dX7_barred_16 ?_
    refine x_ciP (x_rS (As := [.long (a2.toInt64), .long (0 : Int64), .long (2 : Int64)]) (rest := []) X M (cm_X7_in l G ad hI n (a2.toInt64) (0 : Int64) (2 : Int64) μ _ hf) mc_X7_in ms_X7_in lk_X7_97 mn_X7_in hl ⟨⟨Nat.le_of_ble_eq_true rfl, Nat.le_of_ble_eq_true rfl⟩, rfl, Nat.le_of_ble_eq_true rfl, Nat.zero_le _, Nat.zero_le _⟩ rfl dX7_barred_19) M (fun r_19 H locs hf M => ?_)
    try dsimp only at hf
    refine lv_if_eq (tgt := 30) hx hb dX7_barred_22 (by decide) (fun c_22 => ?_) (fun c_22 => ?_)
    · replace hf := hf.1 c_22
      refine lv_aload_n hx hb dX7_barred_30 rfl (lv_at hl 0 rfl) ?_
      refine lv_bipush (v := ((-2) : Int32)) hx hb dX7_barred_31 (by decide) ?_
      refine x_ci (x_rV (As := [.int ((-2) : Int32)]) (rest := []) X M (cm_X7_refused l G ad hI n ((-2) : Int32) μ _ hf) mc_X7_refused mv_X7_refused lk_X7_91 mn_X7_refused rgm_0 rfl hl ⟨⟨Nat.le_of_ble_eq_true rfl, Nat.le_of_ble_eq_true rfl⟩, rfl, Nat.le_of_ble_eq_true rfl, Nat.zero_le _, Nat.zero_le _⟩ rfl dX7_barred_33) M (fun r_33 m_33 H locs hf M => ?_)
      try dsimp only at hf
      rw [hQ]
      exact x_iret X M hr hlk dX7_barred_36 hf
    · replace hf := hf.2 c_22
      refine lv_iload hx hb dX7_barred_25 (lv_at hl 5 rfl) ?_
      refine lv_if_ne (tgt := 37) hx hb dX7_barred_27 (by decide) (fun c_27 => ?_) (fun c_27 => ?_)
      · replace hf := hf.1 c_27
        refine lv_aload_n hx hb dX7_barred_37 rfl (lv_at hl 0 rfl) ?_
        refine x_getR (r := 19) X M rgm_0 fd_X7_65 rfl dX7_barred_38 ?_
        refine lv_iload_n hx hb dX7_barred_41 rfl (lv_at hl 1 rfl) ?_
        obtain ⟨g_42, hf⟩ := hf
        refine x_ild X M rgm_19 g_42 dX7_barred_42 ?_
        refine xjn_w hf (fun (_ : Unit) => ∀ (H : Heap) (locs : List Loc) (ls : Array Slot), xS mS 23 G ad s μ H locs → lv_has ls 7 [(0, .ref (ad 0)), (1, .int a1), (3, .int a3), (4, .long a4)] → W p l e (rmo 2 45) s m args below meth c H locs 0 0 Q (F0 m 62 ls [])) ?_ ?_
        · intro s_ hf
          intro H locs ls M hl
          refine lv_aload_n hx hb dX7_barred_62 rfl (lv_at hl 0 rfl) ?_
          refine x_getR (r := 19) X M rgm_0 fd_X7_65 rfl dX7_barred_63 ?_
          refine lv_iload_n hx hb dX7_barred_66 rfl (lv_at hl 1 rfl) ?_
          obtain ⟨g_67, hf⟩ := hf
          refine x_ild X M rgm_19 g_67 dX7_barred_67 ?_
          refine lv_if_ge (tgt := 77) hx hb dX7_barred_68 (by decide) (fun c_68 => ?_) (fun c_68 => ?_)
          · replace hf := hf.1 c_68
            refine lv_lload hx hb dX7_barred_77 (lv_at hl 3 rfl) ?_
            refine lv_lconst (v := (0 : Int64)) hx hb dX7_barred_79 (by decide) ?_
            refine W.lcmp hx hb dX7_barred_80 ?_
            refine lv_if_ge (tgt := 90) hx hb dX7_barred_81 (by decide) (fun c_81 => ?_) (fun c_81 => ?_)
            · replace hf := hf.1 c_81
              refine lv_iload_n hx hb dX7_barred_90 rfl (lv_at hl 2 rfl) ?_
              refine lv_lload hx hb dX7_barred_91 (lv_at hl 3 rfl) ?_
              refine lv_aload_n hx hb dX7_barred_93 rfl (lv_at hl 0 rfl) ?_
              refine x_getR (r := 19) X M rgm_0 fd_X7_65 rfl dX7_barred_94 ?_
              refine lv_iload_n hx hb dX7_barred_97 rfl (lv_at hl 1 rfl) ?_
              obtain ⟨g_98, hf⟩ := hf
              refine x_ild X M rgm_19 g_98 dX7_barred_98 ?_
              refine x_ciP (x_rS (As := [.int a3, .long a4, .int (μ 19 a1.toNatClampNeg)]) (rest := []) X M (cm_X7_isBeyond l G ad hI n a3 a4 (μ 19 a1.toNatClampNeg) μ _ hf) mc_X7_isBeyond ms_X7_isBeyond lk_X7_104 mn_X7_isBeyond hl ⟨⟨Nat.le_of_ble_eq_true rfl, Nat.le_of_ble_eq_true rfl⟩, rfl, Nat.le_of_ble_eq_true rfl, Nat.zero_le _, Nat.zero_le _⟩ rfl dX7_barred_99) M (fun r_99 H locs hf M => ?_)
              try dsimp only at hf
              refine lv_if_eq (tgt := 113) hx hb dX7_barred_102 (by decide) (fun c_102 => ?_) (fun c_102 => ?_)
              · replace hf := hf.1 c_102
                refine lv_iconst (v := (0 : Int32)) hx hb dX7_barred_113 (by decide) ?_
                rw [hQ]
                exact x_iret X M hr hlk dX7_barred_114 hf
              · replace hf := hf.2 c_102
                refine lv_aload_n hx hb dX7_barred_105 rfl (lv_at hl 0 rfl) ?_
                refine lv_iconst (v := (3 : Int32)) hx hb dX7_barred_106 (by decide) ?_
                refine x_ci (x_rV (As := [.int (3 : Int32)]) (rest := []) X M (cm_X7_failed l G ad hI n (3 : Int32) μ _ hf) mc_X7_failed mv_X7_failed lk_X7_101 mn_X7_failed rgm_0 rfl hl ⟨⟨Nat.le_of_ble_eq_true rfl, Nat.le_of_ble_eq_true rfl⟩, rfl, Nat.le_of_ble_eq_true rfl, Nat.zero_le _, Nat.zero_le _⟩ rfl dX7_barred_107) M (fun r_107 m_107 H locs hf M => ?_)
                try dsimp only at hf
                refine lv_goto (tgt := 114) hx hb dX7_barred_110 (by decide) ?_
                rw [hQ]
                exact x_iret X M hr hlk dX7_barred_114 hf
            · replace hf := hf.2 c_81
              refine lv_aload_n hx hb dX7_barred_84 rfl (lv_at hl 0 rfl) ?_
              refine lv_iconst (v := (4 : Int32)) hx hb dX7_barred_85 (by decide) ?_
              refine x_ci (x_rV (As := [.int (4 : Int32)]) (rest := []) X M (cm_X7_failed l G ad hI n (4 : Int32) μ _ hf) mc_X7_failed mv_X7_failed lk_X7_101 mn_X7_failed rgm_0 rfl hl ⟨⟨Nat.le_of_ble_eq_true rfl, Nat.le_of_ble_eq_true rfl⟩, rfl, Nat.le_of_ble_eq_true rfl, Nat.zero_le _, Nat.zero_le _⟩ rfl dX7_barred_86) M (fun r_86 m_86 H locs hf M => ?_)
              try dsimp only at hf
              rw [hQ]
              exact x_iret X M hr hlk dX7_barred_89 hf
          · replace hf := hf.2 c_68
            refine lv_aload_n hx hb dX7_barred_71 rfl (lv_at hl 0 rfl) ?_
            refine lv_iconst (v := (1 : Int32)) hx hb dX7_barred_72 (by decide) ?_
            refine x_ci (x_rV (As := [.int (1 : Int32)]) (rest := []) X M (cm_X7_failed l G ad hI n (1 : Int32) μ _ hf) mc_X7_failed mv_X7_failed lk_X7_101 mn_X7_failed rgm_0 rfl hl ⟨⟨Nat.le_of_ble_eq_true rfl, Nat.le_of_ble_eq_true rfl⟩, rfl, Nat.le_of_ble_eq_true rfl, Nat.zero_le _, Nat.zero_le _⟩ rfl dX7_barred_73) M (fun r_73 m_73 H locs hf M => ?_)
            try dsimp only at hf
            rw [hQ]
            exact x_iret X M hr hlk dX7_barred_76 hf
        · intro J62 hJ62 hf
          refine lv_if_lt (tgt := 62) hx hb dX7_barred_43 (by decide) (fun c_43 => ?_) (fun c_43 => ?_)
          · replace hf := hf.1 c_43
            exact hJ62 () hf _ _ _ M (lv_sub hl [0, 1, 3, 4] rfl)
          · replace hf := hf.2 c_43
            refine lv_aload_n hx hb dX7_barred_46 rfl (lv_at hl 0 rfl) ?_
            refine x_getR (r := 20) X M rgm_0 fd_X7_68 rfl dX7_barred_47 ?_
            refine lv_iload_n hx hb dX7_barred_50 rfl (lv_at hl 1 rfl) ?_
            obtain ⟨g_51, hf⟩ := hf
            refine x_ild X M rgm_20 g_51 dX7_barred_51 ?_
            refine lv_iload_n hx hb dX7_barred_52 rfl (lv_at hl 2 rfl) ?_
            refine lv_icmp_eq (tgt := 62) hx hb dX7_barred_53 (by decide) (fun c_53 => ?_) (fun c_53 => ?_)
            · replace hf := hf.1 c_53
              exact hJ62 () hf _ _ _ M (lv_sub hl [0, 1, 3, 4] rfl)
            · replace hf := hf.2 c_53
              refine lv_aload_n hx hb dX7_barred_56 rfl (lv_at hl 0 rfl) ?_
              refine lv_iconst (v := (2 : Int32)) hx hb dX7_barred_57 (by decide) ?_
              refine x_ci (x_rV (As := [.int (2 : Int32)]) (rest := []) X M (cm_X7_failed l G ad hI n (2 : Int32) μ _ hf) mc_X7_failed mv_X7_failed lk_X7_101 mn_X7_failed rgm_0 rfl hl ⟨⟨Nat.le_of_ble_eq_true rfl, Nat.le_of_ble_eq_true rfl⟩, rfl, Nat.le_of_ble_eq_true rfl, Nat.zero_le _, Nat.zero_le _⟩ rfl dX7_barred_58) M (fun r_58 m_58 H locs hf M => ?_)
              try dsimp only at hf
              rw [hQ]
              exact x_iret X M hr hlk dX7_barred_61 hf
      · replace hf := hf.2 c_27
        refine lv_aload_n hx hb dX7_barred_30 rfl (lv_at hl 0 rfl) ?_
        refine lv_bipush (v := ((-2) : Int32)) hx hb dX7_barred_31 (by decide) ?_
        refine x_ci (x_rV (As := [.int ((-2) : Int32)]) (rest := []) X M (cm_X7_refused l G ad hI n ((-2) : Int32) μ _ hf) mc_X7_refused mv_X7_refused lk_X7_91 mn_X7_refused rgm_0 rfl hl ⟨⟨Nat.le_of_ble_eq_true rfl, Nat.le_of_ble_eq_true rfl⟩, rfl, Nat.le_of_ble_eq_true rfl, Nat.zero_le _, Nat.zero_le _⟩ rfl dX7_barred_33) M (fun r_33 m_33 H locs hf M => ?_)
        try dsimp only at hf
        rw [hQ]
        exact x_iret X M hr hlk dX7_barred_36 hf
  · replace hf := hf.2 c_4
    refine lv_aload_n hx hb dX7_barred_7 rfl (lv_at hl 0 rfl) ?_
    refine lv_iconst (v := ((-1) : Int32)) hx hb dX7_barred_8 (by decide) ?_
    refine x_ci (x_rV (As := [.int ((-1) : Int32)]) (rest := []) X M (cm_X7_refused l G ad hI n ((-1) : Int32) μ _ hf) mc_X7_refused mv_X7_refused lk_X7_91 mn_X7_refused rgm_0 rfl hl ⟨⟨Nat.le_of_ble_eq_true rfl, Nat.le_of_ble_eq_true rfl⟩, rfl, Nat.le_of_ble_eq_true rfl, Nat.zero_le _, Nat.zero_le _⟩ rfl dX7_barred_9) M (fun r_9 m_9 H locs hf M => ?_)
    try dsimp only at hf
    rw [hQ]
    exact x_iret X M hr hlk dX7_barred_12 hf
def wp_X7_noOne (n : Nat) (a1 : Int32) (μ : xM) (K : Int32 → Prop) : Prop :=
  wp_X7_in n (a1.toInt64) (0 : Int64) (((μ 0 1).toInt64) - (1 : Int64)) μ (fun r_10 : Int32 => ((¬ r_10 = 0 → K (0 : Int32)) ∧ (r_10 = 0 → K (1 : Int32))))
set_option maxHeartbeats 4000000 in
set_option maxRecDepth 100000 in
theorem cm_X7_noOne (l : Launch) (G : xG) (ad : Nat → Nat) (hI : xI 23 ad) (n : Nat) (a1 : Int32) (μ : xM) (K : Int32 → Prop) (hf : wp_X7_noOne n a1 μ K) : Met l yX7_noOne (Cond.code yX7_noOne cX7_noOne 2 (some .boolean) :: xw_all) (rmo 1 25) (va_Pc [.ref (ad 0), .int a1] (xPre mS 23 G ad μ)) (xQi mS 23 G ad (fun r u => K r ∧ u = μ)) 0 0 (xR 23 ad) := by
  refine x_ent (nL := 2) (own := RX7) (by decide) rfl hI (Nat.le_of_ble_eq_true rfl) ?_
  intro p e s m args below meth c H locs ls Q X hr hlk hQ M hl
  have hx := X.1.1
  have hb := X.1.2.1
  have hown := X.1.2.2.2.1
  have hts := X.1.2.2.2.2
  have hl : lv_has ls 2 [(0, .ref (ad 0)), (1, .int a1)] := hl
  unfold wp_X7_noOne at hf
  refine lv_iload_n hx hb dX7_noOne_0 rfl (lv_at hl 1 rfl) ?_
  refine lv_i2l hx hb dX7_noOne_1 rfl ?_
  refine lv_lconst (v := (0 : Int64)) hx hb dX7_noOne_2 (by decide) ?_
  refine lv_aload_n hx hb dX7_noOne_3 rfl (lv_at hl 0 rfl) ?_
  refine x_getI X M rgm_0 fd_X7_108 rfl dX7_noOne_4 ?_
  refine lv_i2l hx hb dX7_noOne_7 rfl ?_
  refine lv_lconst (v := (1 : Int64)) hx hb dX7_noOne_8 (by decide) ?_
  refine lv_lsub hx hb dX7_noOne_9 ?_
  refine x_ciP (x_rS (As := [.long (a1.toInt64), .long (0 : Int64), .long (((μ 0 1).toInt64) - (1 : Int64))]) (rest := []) X M (cm_X7_in l G ad hI n (a1.toInt64) (0 : Int64) (((μ 0 1).toInt64) - (1 : Int64)) μ _ hf) mc_X7_in ms_X7_in lk_X7_97 mn_X7_in hl ⟨⟨Nat.le_of_ble_eq_true rfl, Nat.le_of_ble_eq_true rfl⟩, rfl, Nat.le_of_ble_eq_true rfl, Nat.zero_le _, Nat.zero_le _⟩ rfl dX7_noOne_10) M (fun r_10 H locs hf M => ?_)
  try dsimp only at hf
  refine lv_if_ne (tgt := 20) hx hb dX7_noOne_13 (by decide) (fun c_13 => ?_) (fun c_13 => ?_)
  · replace hf := hf.1 c_13
    refine lv_iconst (v := (0 : Int32)) hx hb dX7_noOne_20 (by decide) ?_
    rw [hQ]
    exact x_zret X M hr hlk xb_0 dX7_noOne_21 ⟨hf, rfl⟩
  · replace hf := hf.2 c_13
    refine lv_iconst (v := (1 : Int32)) hx hb dX7_noOne_16 (by decide) ?_
    refine lv_goto (tgt := 21) hx hb dX7_noOne_17 (by decide) ?_
    rw [hQ]
    exact x_zret X M hr hlk xb_1 dX7_noOne_21 ⟨hf, rfl⟩
def wp_X7_isDawn (n : Nat) (a0 : Int32) (μ : xM) (K : Int32 → Prop) : Prop :=
  wp_X7_in n (a0.toInt64) (0 : Int64) (60 : Int64) μ (fun r_6 : Int32 => xb r_6 ∧ K r_6)
set_option maxHeartbeats 4000000 in
set_option maxRecDepth 100000 in
theorem cm_X7_isDawn (l : Launch) (G : xG) (ad : Nat → Nat) (hI : xI 23 ad) (n : Nat) (a0 : Int32) (μ : xM) (K : Int32 → Prop) (hf : wp_X7_isDawn n a0 μ K) : Met l yX7_isDawn (Cond.code yX7_isDawn cX7_isDawn 1 (some .boolean) :: xw_all) (rmo 1 25) (va_Pc [.int a0] (xPre mS 23 G ad μ)) (xQi mS 23 G ad (fun r u => K r ∧ u = μ)) 0 0 (xR 23 ad) := by
  refine x_ent (nL := 1) (own := RX7) (by decide) rfl hI (Nat.le_of_ble_eq_true rfl) ?_
  intro p e s m args below meth c H locs ls Q X hr hlk hQ M hl
  have hx := X.1.1
  have hb := X.1.2.1
  have hown := X.1.2.2.2.1
  have hts := X.1.2.2.2.2
  have hl : lv_has ls 1 [(0, .int a0)] := hl
  unfold wp_X7_isDawn at hf
  refine lv_iload_n hx hb dX7_isDawn_0 rfl (lv_at hl 0 rfl) ?_
  refine lv_i2l hx hb dX7_isDawn_1 rfl ?_
  refine lv_lconst (v := (0 : Int64)) hx hb dX7_isDawn_2 (by decide) ?_
  refine lv_ldc2 (v := (60 : Int64)) hx hb hown (hts _ kc_X7_111) dX7_isDawn_3 ?_
  refine x_ciP (x_rS (As := [.long (a0.toInt64), .long (0 : Int64), .long (60 : Int64)]) (rest := []) X M (cm_X7_in l G ad hI n (a0.toInt64) (0 : Int64) (60 : Int64) μ _ hf) mc_X7_in ms_X7_in lk_X7_97 mn_X7_in hl ⟨⟨Nat.le_of_ble_eq_true rfl, Nat.le_of_ble_eq_true rfl⟩, rfl, Nat.le_of_ble_eq_true rfl, Nat.zero_le _, Nat.zero_le _⟩ rfl dX7_isDawn_6) M (fun r_6 H locs hf M => ?_)
  try dsimp only at hf
  obtain ⟨g_9, hf⟩ := hf
  rw [hQ]
  exact x_zret X M hr hlk g_9 dX7_isDawn_9 ⟨hf, rfl⟩
def wp_X7_codeAt (n : Nat) (a1 : Int32) (a2 : Int32) (μ : xM) (K : Int32 → Prop) : Prop :=
  ((a2 ≤ (μ 0 7) → K ((-9) : Int32)) ∧ (¬ a2 ≤ (μ 0 7) → (vp_in (a1 + (μ 0 7)) 240 ∧ K (μ 21 (a1 + (μ 0 7)).toNatClampNeg))))
set_option maxHeartbeats 4000000 in
set_option maxRecDepth 100000 in
theorem cm_X7_codeAt (l : Launch) (G : xG) (ad : Nat → Nat) (hI : xI 23 ad) (n : Nat) (a1 : Int32) (a2 : Int32) (μ : xM) (K : Int32 → Prop) (hf : wp_X7_codeAt n a1 a2 μ K) : Met l yX7_codeAt (Cond.code yX7_codeAt cX7_codeAt 3 (some .int) :: xw_all) (rmo 0 0) (va_Pc [.ref (ad 0), .int a1, .int a2] (xPre mS 23 G ad μ)) (xQi mS 23 G ad (fun r u => K r ∧ u = μ)) 0 0 (xR 23 ad) := by
  refine x_ent (nL := 3) (own := RX7) (by decide) rfl hI (Nat.le_of_ble_eq_true rfl) ?_
  intro p e s m args below meth c H locs ls Q X hr hlk hQ M hl
  have hx := X.1.1
  have hb := X.1.2.1
  have hown := X.1.2.2.2.1
  have hts := X.1.2.2.2.2
  have hl : lv_has ls 3 [(0, .ref (ad 0)), (1, .int a1), (2, .int a2)] := hl
  unfold wp_X7_codeAt at hf
  refine lv_aload_n hx hb dX7_codeAt_0 rfl (lv_at hl 0 rfl) ?_
  refine x_getI X M rgm_0 fd_X7_113 rfl dX7_codeAt_1 ?_
  refine lv_iload_n hx hb dX7_codeAt_4 rfl (lv_at hl 2 rfl) ?_
  refine lv_icmp_ge (tgt := 22) hx hb dX7_codeAt_5 (by decide) (fun c_5 => ?_) (fun c_5 => ?_)
  · replace hf := hf.1 c_5
    refine lv_bipush (v := ((-9) : Int32)) hx hb dX7_codeAt_22 (by decide) ?_
    rw [hQ]
    exact x_iret X M hr hlk dX7_codeAt_24 ⟨hf, rfl⟩
  · replace hf := hf.2 c_5
    refine lv_aload_n hx hb dX7_codeAt_8 rfl (lv_at hl 0 rfl) ?_
    refine x_getR (r := 21) X M rgm_0 fd_X7_71 rfl dX7_codeAt_9 ?_
    refine lv_iload_n hx hb dX7_codeAt_12 rfl (lv_at hl 1 rfl) ?_
    refine lv_aload_n hx hb dX7_codeAt_13 rfl (lv_at hl 0 rfl) ?_
    refine x_getI X M rgm_0 fd_X7_113 rfl dX7_codeAt_14 ?_
    refine lv_iadd hx hb dX7_codeAt_17 ?_
    obtain ⟨g_18, hf⟩ := hf
    refine x_ild X M rgm_21 g_18 dX7_codeAt_18 ?_
    refine lv_goto (tgt := 24) hx hb dX7_codeAt_19 (by decide) ?_
    rw [hQ]
    exact x_iret X M hr hlk dX7_codeAt_24 ⟨hf, rfl⟩
def wp_X7_figure (n : Nat) (a1 : Int32) (a2 : Int32) (a3 : Int32) (a4 : Int32) (μ : xM) (K : Int32 → xM → Prop) : Prop :=
  wp_X7_codeAt n a1 a2 μ (fun r_3 : Int32 => (∀ x5_9 : Int32, x5_9 = r_3 - (48 : Int32) → wp_X7_in n (x5_9.toInt64) (a3.toInt64) (a4.toInt64) μ (fun r_19 : Int32 => ((r_19 = 0 → (∀ m_40 : xM, m_40 = xu μ 0 7 ((μ 0 7) + (0 : Int32)) → ((r_19 = 0 → K ((-9) : Int32) m_40) ∧ (¬ r_19 = 0 → K x5_9 m_40)))) ∧ (¬ r_19 = 0 → (∀ m_40 : xM, m_40 = xu μ 0 7 ((μ 0 7) + (1 : Int32)) → ((r_19 = 0 → K ((-9) : Int32) m_40) ∧ (¬ r_19 = 0 → K x5_9 m_40))))))))
set_option maxHeartbeats 4000000 in
set_option maxRecDepth 100000 in
theorem cm_X7_figure (l : Launch) (G : xG) (ad : Nat → Nat) (hI : xI 23 ad) (n : Nat) (a1 : Int32) (a2 : Int32) (a3 : Int32) (a4 : Int32) (μ : xM) (K : Int32 → xM → Prop) (hf : wp_X7_figure n a1 a2 a3 a4 μ K) : Met l yX7_figure (Cond.code yX7_figure cX7_figure 7 (some .int) :: xw_all) (rmo 1 25) (va_Pc [.ref (ad 0), .int a1, .int a2, .int a3, .int a4] (xPre mS 23 G ad μ)) (xQi mS 23 G ad K) 0 0 (xR 23 ad) := by
  refine x_ent (nL := 7) (own := RX7) (by decide) rfl hI (Nat.le_of_ble_eq_true rfl) ?_
  intro p e s m args below meth c H locs ls Q X hr hlk hQ M hl
  have hx := X.1.1
  have hb := X.1.2.1
  have hown := X.1.2.2.2.1
  have hts := X.1.2.2.2.2
  have hl : lv_has ls 7 [(0, .ref (ad 0)), (1, .int a1), (2, .int a2), (3, .int a3), (4, .int a4)] := hl
  unfold wp_X7_figure at hf
  refine lv_aload_n hx hb dX7_figure_0 rfl (lv_at hl 0 rfl) ?_
  refine lv_iload_n hx hb dX7_figure_1 rfl (lv_at hl 1 rfl) ?_
  refine lv_iload_n hx hb dX7_figure_2 rfl (lv_at hl 2 rfl) ?_
  refine x_ciP (x_rV (As := [.int a1, .int a2]) (rest := []) X M (cm_X7_codeAt l G ad hI n a1 a2 μ _ hf) mc_X7_codeAt mv_X7_codeAt lk_X7_116 mn_X7_codeAt rgm_0 rfl hl ⟨⟨Nat.le_of_ble_eq_true rfl, Nat.le_of_ble_eq_true rfl⟩, rfl, Nat.le_of_ble_eq_true rfl, Nat.zero_le _, Nat.zero_le _⟩ rfl dX7_figure_3) M (fun r_3 H locs hf M => ?_)
  try dsimp only at hf
  refine lv_bipush (v := (48 : Int32)) hx hb dX7_figure_6 (by decide) ?_
  refine lv_isub hx hb dX7_figure_8 ?_
  refine lv_topi (fun x5_9 ex5_9 => ?_)
  replace hf := hf x5_9 ex5_9
  refine lv_istore (lv' := [(5, .int x5_9), (0, .ref (ad 0)), (1, .int a1), (2, .int a2), (3, .int a3), (4, .int a4)]) hx hb dX7_figure_9 hl (by decide) rfl (fun ls hl => ?_)
  refine lv_iload hx hb dX7_figure_11 (lv_at hl 0 rfl) ?_
  refine lv_i2l hx hb dX7_figure_13 rfl ?_
  refine lv_iload_n hx hb dX7_figure_14 rfl (lv_at hl 4 rfl) ?_
  refine lv_i2l hx hb dX7_figure_15 rfl ?_
  refine lv_iload hx hb dX7_figure_16 (lv_at hl 5 rfl) ?_
  refine lv_i2l hx hb dX7_figure_18 rfl ?_
  refine x_ciP (x_rS (As := [.long (x5_9.toInt64), .long (a3.toInt64), .long (a4.toInt64)]) (rest := []) X M (cm_X7_in l G ad hI n (x5_9.toInt64) (a3.toInt64) (a4.toInt64) μ _ hf) mc_X7_in ms_X7_in lk_X7_97 mn_X7_in hl ⟨⟨Nat.le_of_ble_eq_true rfl, Nat.le_of_ble_eq_true rfl⟩, rfl, Nat.le_of_ble_eq_true rfl, Nat.zero_le _, Nat.zero_le _⟩ rfl dX7_figure_19) M (fun r_19 H locs hf M => ?_)
  try dsimp only at hf
  refine lv_istore (lv' := [(6, .int r_19), (5, .int x5_9), (0, .ref (ad 0)), (1, .int a1), (2, .int a2), (3, .int a3), (4, .int a4)]) hx hb dX7_figure_22 hl (by decide) rfl (fun ls hl => ?_)
  refine lv_aload_n hx hb dX7_figure_24 rfl (lv_at hl 2 rfl) ?_
  refine lv_dup hx hb dX7_figure_25 rfl ?_
  refine x_getI X M rgm_0 fd_X7_113 rfl dX7_figure_26 ?_
  refine lv_iload hx hb dX7_figure_29 (lv_at hl 0 rfl) ?_
  refine lv_if_eq (tgt := 38) hx hb dX7_figure_31 (by decide) (fun c_31 => ?_) (fun c_31 => ?_)
  · replace hf := hf.1 c_31
    refine lv_iconst (v := (0 : Int32)) hx hb dX7_figure_38 (by decide) ?_
    refine lv_iadd hx hb dX7_figure_39 ?_
    refine x_putI X M rgm_0 fp_X7_113 rfl dX7_figure_40 (fun m_40 H locs em_40 M => ?_)
    replace hf := hf m_40 em_40
    refine lv_iload hx hb dX7_figure_43 (lv_at hl 0 rfl) ?_
    refine lv_if_eq (tgt := 53) hx hb dX7_figure_45 (by decide) (fun c_45 => ?_) (fun c_45 => ?_)
    · replace hf := hf.1 c_45
      refine lv_bipush (v := ((-9) : Int32)) hx hb dX7_figure_53 (by decide) ?_
      rw [hQ]
      exact x_iret X M hr hlk dX7_figure_55 hf
    · replace hf := hf.2 c_45
      refine lv_iload hx hb dX7_figure_48 (lv_at hl 1 rfl) ?_
      refine lv_goto (tgt := 55) hx hb dX7_figure_50 (by decide) ?_
      rw [hQ]
      exact x_iret X M hr hlk dX7_figure_55 hf
  · replace hf := hf.2 c_31
    refine lv_iconst (v := (1 : Int32)) hx hb dX7_figure_34 (by decide) ?_
    refine lv_goto (tgt := 39) hx hb dX7_figure_35 (by decide) ?_
    refine lv_iadd hx hb dX7_figure_39 ?_
    refine x_putI X M rgm_0 fp_X7_113 rfl dX7_figure_40 (fun m_40 H locs em_40 M => ?_)
    replace hf := hf m_40 em_40
    refine lv_iload hx hb dX7_figure_43 (lv_at hl 0 rfl) ?_
    refine lv_if_eq (tgt := 53) hx hb dX7_figure_45 (by decide) (fun c_45 => ?_) (fun c_45 => ?_)
    · replace hf := hf.1 c_45
      refine lv_bipush (v := ((-9) : Int32)) hx hb dX7_figure_53 (by decide) ?_
      rw [hQ]
      exact x_iret X M hr hlk dX7_figure_55 hf
    · replace hf := hf.2 c_45
      refine lv_iload hx hb dX7_figure_48 (lv_at hl 1 rfl) ?_
      refine lv_goto (tgt := 55) hx hb dX7_figure_50 (by decide) ?_
      rw [hQ]
      exact x_iret X M hr hlk dX7_figure_55 hf
def wp_X7_readsOne (n : Nat) (a1 : Int32) (a2 : Int32) (μ : xM) (K : Int32 → xM → Prop) : Prop :=
  xjn (fun (m_39 : xM) => wp_X7_codeAt n a1 a2 m_39 (fun r_42 : Int32 => xjn (fun (_ : Unit) => (∀ m_73 : xM, m_73 = xu m_39 0 7 ((m_39 0 7) + (1 : Int32)) → xjn (fun (m_128 : xM) => wp_X7_figure n a1 a2 (0 : Int32) (3 : Int32) m_128 (fun (r_133 : Int32) (m_133 : xM) => ((0 ≤ r_133 → (vp_in (m_133 0 8) 7 ∧ (∀ m_155 : xM, m_155 = xu m_133 8 (m_133 0 8).toNatClampNeg r_133 → xjn (fun (v0_185 : Int32) => (vp_in (m_155 0 8) 7 ∧ (∀ m_185 : xM, m_185 = xu m_155 6 (m_155 0 8).toNatClampNeg v0_185 → (∀ m_193 : xM, m_193 = xu m_185 0 8 ((m_185 0 8) + (1 : Int32)) → K (1 : Int32) m_193)))) (fun J185 : Int32 → Prop => ((¬ r_42 = (115 : Int32) → ((¬ r_42 = (98 : Int32) → J185 (2 : Int32)) ∧ (r_42 = (98 : Int32) → J185 (1 : Int32)))) ∧ (r_42 = (115 : Int32) → J185 (0 : Int32))))))) ∧ (¬ 0 ≤ r_133 → K (0 : Int32) m_133)))) (fun J128 : xM → Prop => xlp (fun (again79 : (Int32 × xM) → Prop) => fun (s_ : Int32 × xM) => match s_ with | (x4_79, m_79) => (((3 : Int32) ≤ x4_79 → J128 m_79) ∧ (¬ (3 : Int32) ≤ x4_79 → wp_X7_figure n a1 a2 (1 : Int32) (9 : Int32) m_79 (fun (r_91 : Int32) (m_91 : xM) => ((0 ≤ r_91 → (vp_in (((3 : Int32) * (m_91 0 8)) + x4_79) 21 ∧ (∀ m_121 : xM, m_121 = xu m_91 7 (((3 : Int32) * (m_91 0 8)) + x4_79).toNatClampNeg ((10 : Int32) * r_91) → (∀ x4_122 : Int32, x4_122 = x4_79 + 1 → again79 (x4_122, m_121))))) ∧ (¬ 0 ≤ r_91 → K (0 : Int32) m_91)))))) n ((0 : Int32), m_73)))) (fun J66 : Unit → Prop => ((r_42 = (115 : Int32) → J66 ()) ∧ (¬ r_42 = (115 : Int32) → ((r_42 = (98 : Int32) → J66 ()) ∧ (¬ r_42 = (98 : Int32) → ((r_42 = (109 : Int32) → J66 ()) ∧ (¬ r_42 = (109 : Int32) → K (0 : Int32) m_39))))))))) (fun J39 : xM → Prop => (((μ 0 8) ≤ 0 → J39 μ) ∧ (¬ (μ 0 8) ≤ 0 → (((μ 0 8) = (7 : Int32) → K (0 : Int32) μ) ∧ (¬ (μ 0 8) = (7 : Int32) → wp_X7_codeAt n a1 a2 μ (fun r_19 : Int32 => ((r_19 = (59 : Int32) → (∀ m_36 : xM, m_36 = xu μ 0 7 ((μ 0 7) + (1 : Int32)) → J39 m_36)) ∧ (¬ r_19 = (59 : Int32) → K (0 : Int32) μ))))))))
set_option maxHeartbeats 4000000 in
set_option maxRecDepth 100000 in
theorem cm_X7_readsOne (l : Launch) (G : xG) (ad : Nat → Nat) (hI : xI 23 ad) (n : Nat) (a1 : Int32) (a2 : Int32) (μ : xM) (K : Int32 → xM → Prop) (hf : wp_X7_readsOne n a1 a2 μ K) : Met l yX7_readsOne (Cond.code yX7_readsOne cX7_readsOne 6 (some .boolean) :: xw_all) (rmo 2 51) (va_Pc [.ref (ad 0), .int a1, .int a2] (xPre mS 23 G ad μ)) (xQi mS 23 G ad K) 0 0 (xR 23 ad) := by
  refine x_ent (nL := 6) (own := RX7) (by decide) rfl hI (Nat.le_of_ble_eq_true rfl) ?_
  intro p e s m args below meth c H locs ls Q X hr hlk hQ M hl
  have hx := X.1.1
  have hb := X.1.2.1
  have hown := X.1.2.2.2.1
  have hts := X.1.2.2.2.2
  have hl : lv_has ls 6 [(0, .ref (ad 0)), (1, .int a1), (2, .int a2)] := hl
  unfold wp_X7_readsOne at hf
  refine lv_aload_n hx hb dX7_readsOne_0 rfl (lv_at hl 0 rfl) ?_
  refine x_getI X M rgm_0 fd_X7_120 rfl dX7_readsOne_1 ?_
  refine xjn_w hf (fun (m_39 : xM) => ∀ (H : Heap) (locs : List Loc) (ls : Array Slot), xS mS 23 G ad s m_39 H locs → lv_has ls 6 [(0, .ref (ad 0)), (1, .int a1), (2, .int a2)] → W p l e (rmo 2 51) s m args below meth c H locs 0 0 Q (F0 m 39 ls [])) ?_ ?_
  · intro m_39 hf
    intro H locs ls M hl
    refine lv_aload_n hx hb dX7_readsOne_39 rfl (lv_at hl 0 rfl) ?_
    refine lv_iload_n hx hb dX7_readsOne_40 rfl (lv_at hl 1 rfl) ?_
    refine lv_iload_n hx hb dX7_readsOne_41 rfl (lv_at hl 2 rfl) ?_
    refine x_ciP (x_rV (As := [.int a1, .int a2]) (rest := []) X M (cm_X7_codeAt l G ad hI n a1 a2 m_39 _ hf) mc_X7_codeAt mv_X7_codeAt lk_X7_116 mn_X7_codeAt rgm_0 rfl hl ⟨⟨Nat.le_of_ble_eq_true rfl, Nat.le_of_ble_eq_true rfl⟩, rfl, Nat.le_of_ble_eq_true rfl, Nat.zero_le _, Nat.zero_le _⟩ rfl dX7_readsOne_42) M (fun r_42 H locs hf M => ?_)
    try dsimp only at hf
    refine lv_istore_n (lv' := [(3, .int r_42), (0, .ref (ad 0)), (1, .int a1), (2, .int a2)]) hx hb dX7_readsOne_45 rfl hl (by decide) rfl (fun ls hl => ?_)
    refine lv_iload_n hx hb dX7_readsOne_46 rfl (lv_at hl 0 rfl) ?_
    refine lv_bipush (v := (115 : Int32)) hx hb dX7_readsOne_47 (by decide) ?_
    refine xjn_w hf (fun (_ : Unit) => ∀ (H : Heap) (locs : List Loc) (ls : Array Slot), xS mS 23 G ad s m_39 H locs → lv_has ls 6 [(3, .int r_42), (0, .ref (ad 0)), (1, .int a1), (2, .int a2)] → W p l e (rmo 2 51) s m args below meth c H locs 0 0 Q (F0 m 66 ls [])) ?_ ?_
    · intro s_ hf
      intro H locs ls M hl
      refine lv_aload_n hx hb dX7_readsOne_66 rfl (lv_at hl 1 rfl) ?_
      refine lv_dup hx hb dX7_readsOne_67 rfl ?_
      refine x_getI X M rgm_0 fd_X7_113 rfl dX7_readsOne_68 ?_
      refine lv_iconst (v := (1 : Int32)) hx hb dX7_readsOne_71 (by decide) ?_
      refine lv_iadd hx hb dX7_readsOne_72 ?_
      refine x_putI X M rgm_0 fp_X7_113 rfl dX7_readsOne_73 (fun m_73 H locs em_73 M => ?_)
      replace hf := hf m_73 em_73
      refine lv_iconst (v := (0 : Int32)) hx hb dX7_readsOne_76 (by decide) ?_
      refine lv_istore (lv' := [(4, .int (0 : Int32)), (3, .int r_42), (0, .ref (ad 0)), (1, .int a1), (2, .int a2)]) hx hb dX7_readsOne_77 hl (by decide) rfl (fun ls hl => ?_)
      refine xjn_w hf (fun (m_128 : xM) => ∀ (H : Heap) (locs : List Loc) (ls : Array Slot), xS mS 23 G ad s m_128 H locs → lv_has ls 6 [(3, .int r_42), (0, .ref (ad 0)), (1, .int a1), (2, .int a2)] → W p l e (rmo 2 51) s m args below meth c H locs 0 0 Q (F0 m 128 ls [])) ?_ ?_
      · intro m_128 hf
        intro H locs ls M hl
        refine lv_aload_n hx hb dX7_readsOne_128 rfl (lv_at hl 1 rfl) ?_
        refine lv_iload_n hx hb dX7_readsOne_129 rfl (lv_at hl 2 rfl) ?_
        refine lv_iload_n hx hb dX7_readsOne_130 rfl (lv_at hl 3 rfl) ?_
        refine lv_iconst (v := (0 : Int32)) hx hb dX7_readsOne_131 (by decide) ?_
        refine lv_iconst (v := (3 : Int32)) hx hb dX7_readsOne_132 (by decide) ?_
        refine x_ci (x_rV (As := [.int a1, .int a2, .int (0 : Int32), .int (3 : Int32)]) (rest := []) X M (cm_X7_figure l G ad hI n a1 a2 (0 : Int32) (3 : Int32) m_128 _ hf) mc_X7_figure mv_X7_figure lk_X7_123 mn_X7_figure rgm_0 rfl hl ⟨⟨Nat.le_of_ble_eq_true rfl, Nat.le_of_ble_eq_true rfl⟩, rfl, Nat.le_of_ble_eq_true rfl, Nat.zero_le _, Nat.zero_le _⟩ rfl dX7_readsOne_133) M (fun r_133 m_133 H locs hf M => ?_)
        try dsimp only at hf
        refine lv_istore (lv' := [(4, .int r_133), (3, .int r_42), (0, .ref (ad 0)), (1, .int a1), (2, .int a2)]) hx hb dX7_readsOne_136 hl (by decide) rfl (fun ls hl => ?_)
        refine lv_iload hx hb dX7_readsOne_138 (lv_at hl 0 rfl) ?_
        refine lv_if_ge (tgt := 145) hx hb dX7_readsOne_140 (by decide) (fun c_140 => ?_) (fun c_140 => ?_)
        · replace hf := hf.1 c_140
          refine lv_aload_n hx hb dX7_readsOne_145 rfl (lv_at hl 2 rfl) ?_
          refine x_getR (r := 8) X M rgm_0 fd_X7_32 rfl dX7_readsOne_146 ?_
          refine lv_aload_n hx hb dX7_readsOne_149 rfl (lv_at hl 2 rfl) ?_
          refine x_getI X M rgm_0 fd_X7_120 rfl dX7_readsOne_150 ?_
          refine lv_iload hx hb dX7_readsOne_153 (lv_at hl 0 rfl) ?_
          obtain ⟨g_155, hf⟩ := hf
          refine x_ist X M rgm_8 g_155 dX7_readsOne_155 (fun m_155 H locs em_155 M => ?_)
          replace hf := hf m_155 em_155
          refine lv_aload_n hx hb dX7_readsOne_156 rfl (lv_at hl 2 rfl) ?_
          refine x_getR (r := 6) X M rgm_0 fd_X7_26 rfl dX7_readsOne_157 ?_
          refine lv_aload_n hx hb dX7_readsOne_160 rfl (lv_at hl 2 rfl) ?_
          refine x_getI X M rgm_0 fd_X7_120 rfl dX7_readsOne_161 ?_
          refine lv_iload_n hx hb dX7_readsOne_164 rfl (lv_at hl 1 rfl) ?_
          refine lv_bipush (v := (115 : Int32)) hx hb dX7_readsOne_165 (by decide) ?_
          refine xjn_w hf (fun (v0_185 : Int32) => ∀ (H : Heap) (locs : List Loc) (ls : Array Slot), xS mS 23 G ad s m_155 H locs → lv_has ls 6 [(0, .ref (ad 0))] → W p l e (rmo 2 51) s m args below meth c H locs 0 0 Q (F0 m 185 ls [.int v0_185, .int (m_155 0 8), .ref (ad 6)])) ?_ ?_
          · intro v0_185 hf
            intro H locs ls M hl
            obtain ⟨g_185, hf⟩ := hf
            refine x_ist X M rgm_6 g_185 dX7_readsOne_185 (fun m_185 H locs em_185 M => ?_)
            replace hf := hf m_185 em_185
            refine lv_aload_n hx hb dX7_readsOne_186 rfl (lv_at hl 0 rfl) ?_
            refine lv_dup hx hb dX7_readsOne_187 rfl ?_
            refine x_getI X M rgm_0 fd_X7_120 rfl dX7_readsOne_188 ?_
            refine lv_iconst (v := (1 : Int32)) hx hb dX7_readsOne_191 (by decide) ?_
            refine lv_iadd hx hb dX7_readsOne_192 ?_
            refine x_putI X M rgm_0 fp_X7_120 rfl dX7_readsOne_193 (fun m_193 H locs em_193 M => ?_)
            replace hf := hf m_193 em_193
            refine lv_iconst (v := (1 : Int32)) hx hb dX7_readsOne_196 (by decide) ?_
            rw [hQ]
            exact x_zret X M hr hlk xb_1 dX7_readsOne_197 hf
          · intro J185 hJ185 hf
            refine lv_icmp_ne (tgt := 174) hx hb dX7_readsOne_167 (by decide) (fun c_167 => ?_) (fun c_167 => ?_)
            · replace hf := hf.1 c_167
              refine lv_iload_n hx hb dX7_readsOne_174 rfl (lv_at hl 1 rfl) ?_
              refine lv_bipush (v := (98 : Int32)) hx hb dX7_readsOne_175 (by decide) ?_
              refine lv_icmp_ne (tgt := 184) hx hb dX7_readsOne_177 (by decide) (fun c_177 => ?_) (fun c_177 => ?_)
              · replace hf := hf.1 c_177
                refine lv_iconst (v := (2 : Int32)) hx hb dX7_readsOne_184 (by decide) ?_
                exact hJ185 (2 : Int32) hf _ _ _ M (lv_sub hl [2] rfl)
              · replace hf := hf.2 c_177
                refine lv_iconst (v := (1 : Int32)) hx hb dX7_readsOne_180 (by decide) ?_
                refine lv_goto (tgt := 185) hx hb dX7_readsOne_181 (by decide) ?_
                exact hJ185 (1 : Int32) hf _ _ _ M (lv_sub hl [2] rfl)
            · replace hf := hf.2 c_167
              refine lv_iconst (v := (0 : Int32)) hx hb dX7_readsOne_170 (by decide) ?_
              refine lv_goto (tgt := 185) hx hb dX7_readsOne_171 (by decide) ?_
              exact hJ185 (0 : Int32) hf _ _ _ M (lv_sub hl [2] rfl)
        · replace hf := hf.2 c_140
          refine lv_iconst (v := (0 : Int32)) hx hb dX7_readsOne_143 (by decide) ?_
          rw [hQ]
          exact x_zret X M hr hlk xb_0 dX7_readsOne_144 hf
      · intro J128 hJ128 hf
        refine xlp_w hf (fun (s_ : Int32 × xM) => match s_ with | (x4_79, m_79) => ∀ (H : Heap) (locs : List Loc) (ls : Array Slot), xS mS 23 G ad s m_79 H locs → lv_has ls 6 [(4, .int x4_79), (3, .int r_42), (0, .ref (ad 0)), (1, .int a1), (2, .int a2)] → W p l e (rmo 2 51) s m args below meth c H locs 0 0 Q (F0 m 79 ls [])) ?_ _ _ _ M (lv_sub hl [0, 1, 2, 3, 4] rfl)
        intro again79 hagain79 s_ hf
        obtain ⟨x4_79, m_79⟩ := s_
        try dsimp only at hf ⊢
        intro H locs ls M hl
        refine lv_iload hx hb dX7_readsOne_79 (lv_at hl 0 rfl) ?_
        refine lv_iconst (v := (3 : Int32)) hx hb dX7_readsOne_81 (by decide) ?_
        refine lv_icmp_ge (tgt := 128) hx hb dX7_readsOne_82 (by decide) (fun c_82 => ?_) (fun c_82 => ?_)
        · replace hf := hf.1 c_82
          exact hJ128 m_79 hf _ _ _ M (lv_sub hl [1, 2, 3, 4] rfl)
        · replace hf := hf.2 c_82
          refine lv_aload_n hx hb dX7_readsOne_85 rfl (lv_at hl 2 rfl) ?_
          refine lv_iload_n hx hb dX7_readsOne_86 rfl (lv_at hl 3 rfl) ?_
          refine lv_iload_n hx hb dX7_readsOne_87 rfl (lv_at hl 4 rfl) ?_
          refine lv_iconst (v := (1 : Int32)) hx hb dX7_readsOne_88 (by decide) ?_
          refine lv_bipush (v := (9 : Int32)) hx hb dX7_readsOne_89 (by decide) ?_
          refine x_ci (x_rV (As := [.int a1, .int a2, .int (1 : Int32), .int (9 : Int32)]) (rest := []) X M (cm_X7_figure l G ad hI n a1 a2 (1 : Int32) (9 : Int32) m_79 _ hf) mc_X7_figure mv_X7_figure lk_X7_123 mn_X7_figure rgm_0 rfl hl ⟨⟨Nat.le_of_ble_eq_true rfl, Nat.le_of_ble_eq_true rfl⟩, rfl, Nat.le_of_ble_eq_true rfl, Nat.zero_le _, Nat.zero_le _⟩ rfl dX7_readsOne_91) M (fun r_91 m_91 H locs hf M => ?_)
          try dsimp only at hf
          refine lv_istore (lv' := [(5, .int r_91), (4, .int x4_79), (3, .int r_42), (0, .ref (ad 0)), (1, .int a1), (2, .int a2)]) hx hb dX7_readsOne_94 hl (by decide) rfl (fun ls hl => ?_)
          refine lv_iload hx hb dX7_readsOne_96 (lv_at hl 0 rfl) ?_
          refine lv_if_ge (tgt := 103) hx hb dX7_readsOne_98 (by decide) (fun c_98 => ?_) (fun c_98 => ?_)
          · replace hf := hf.1 c_98
            refine lv_aload_n hx hb dX7_readsOne_103 rfl (lv_at hl 3 rfl) ?_
            refine x_getR (r := 7) X M rgm_0 fd_X7_29 rfl dX7_readsOne_104 ?_
            refine lv_iconst (v := (3 : Int32)) hx hb dX7_readsOne_107 (by decide) ?_
            refine lv_aload_n hx hb dX7_readsOne_108 rfl (lv_at hl 3 rfl) ?_
            refine x_getI X M rgm_0 fd_X7_120 rfl dX7_readsOne_109 ?_
            refine lv_imul hx hb dX7_readsOne_112 ?_
            refine lv_iload hx hb dX7_readsOne_113 (lv_at hl 1 rfl) ?_
            refine lv_iadd hx hb dX7_readsOne_115 ?_
            refine lv_bipush (v := (10 : Int32)) hx hb dX7_readsOne_116 (by decide) ?_
            refine lv_iload hx hb dX7_readsOne_118 (lv_at hl 0 rfl) ?_
            refine lv_imul hx hb dX7_readsOne_120 ?_
            obtain ⟨g_121, hf⟩ := hf
            refine x_ist X M rgm_7 g_121 dX7_readsOne_121 (fun m_121 H locs em_121 M => ?_)
            replace hf := hf m_121 em_121
            obtain ⟨x4_122, ex4_122⟩ : ∃ y : Int32, y = x4_79 + 1 := ⟨_, rfl⟩
            replace hf := hf x4_122 ex4_122
            refine lv_iinc (v := x4_122) (lv' := [(4, .int x4_122), (5, .int r_91), (3, .int r_42), (0, .ref (ad 0)), (1, .int a1), (2, .int a2)]) hx hb dX7_readsOne_122 hl (k := 1) rfl (by rw [ex4_122]; rfl) (by decide) rfl (fun ls hl => ?_)
            refine lv_goto (tgt := 79) hx hb dX7_readsOne_125 (by decide) ?_
            exact hagain79 (x4_122, m_121) hf _ _ _ M (lv_sub hl [0, 2, 3, 4, 5] rfl)
          · replace hf := hf.2 c_98
            refine lv_iconst (v := (0 : Int32)) hx hb dX7_readsOne_101 (by decide) ?_
            rw [hQ]
            exact x_zret X M hr hlk xb_0 dX7_readsOne_102 hf
    · intro J66 hJ66 hf
      refine lv_icmp_eq (tgt := 66) hx hb dX7_readsOne_49 (by decide) (fun c_49 => ?_) (fun c_49 => ?_)
      · replace hf := hf.1 c_49
        exact hJ66 () hf _ _ _ M (lv_sub hl [0, 1, 2, 3] rfl)
      · replace hf := hf.2 c_49
        refine lv_iload_n hx hb dX7_readsOne_52 rfl (lv_at hl 0 rfl) ?_
        refine lv_bipush (v := (98 : Int32)) hx hb dX7_readsOne_53 (by decide) ?_
        refine lv_icmp_eq (tgt := 66) hx hb dX7_readsOne_55 (by decide) (fun c_55 => ?_) (fun c_55 => ?_)
        · replace hf := hf.1 c_55
          exact hJ66 () hf _ _ _ M (lv_sub hl [0, 1, 2, 3] rfl)
        · replace hf := hf.2 c_55
          refine lv_iload_n hx hb dX7_readsOne_58 rfl (lv_at hl 0 rfl) ?_
          refine lv_bipush (v := (109 : Int32)) hx hb dX7_readsOne_59 (by decide) ?_
          refine lv_icmp_eq (tgt := 66) hx hb dX7_readsOne_61 (by decide) (fun c_61 => ?_) (fun c_61 => ?_)
          · replace hf := hf.1 c_61
            exact hJ66 () hf _ _ _ M (lv_sub hl [0, 1, 2, 3] rfl)
          · replace hf := hf.2 c_61
            refine lv_iconst (v := (0 : Int32)) hx hb dX7_readsOne_64 (by decide) ?_
            rw [hQ]
            exact x_zret X M hr hlk xb_0 dX7_readsOne_65 hf
  · intro J39 hJ39 hf
    refine lv_if_le (tgt := 39) hx hb dX7_readsOne_4 (by decide) (fun c_4 => ?_) (fun c_4 => ?_)
    · replace hf := hf.1 c_4
      exact hJ39 μ hf _ _ _ M (lv_sub hl [0, 1, 2] rfl)
    · replace hf := hf.2 c_4
      refine lv_aload_n hx hb dX7_readsOne_7 rfl (lv_at hl 0 rfl) ?_
      refine x_getI X M rgm_0 fd_X7_120 rfl dX7_readsOne_8 ?_
      refine lv_bipush (v := (7 : Int32)) hx hb dX7_readsOne_11 (by decide) ?_
      refine lv_icmp_eq (tgt := 27) hx hb dX7_readsOne_13 (by decide) (fun c_13 => ?_) (fun c_13 => ?_)
      · replace hf := hf.1 c_13
        refine lv_iconst (v := (0 : Int32)) hx hb dX7_readsOne_27 (by decide) ?_
        rw [hQ]
        exact x_zret X M hr hlk xb_0 dX7_readsOne_28 hf
      · replace hf := hf.2 c_13
        refine lv_aload_n hx hb dX7_readsOne_16 rfl (lv_at hl 0 rfl) ?_
        refine lv_iload_n hx hb dX7_readsOne_17 rfl (lv_at hl 1 rfl) ?_
        refine lv_iload_n hx hb dX7_readsOne_18 rfl (lv_at hl 2 rfl) ?_
        refine x_ciP (x_rV (As := [.int a1, .int a2]) (rest := []) X M (cm_X7_codeAt l G ad hI n a1 a2 μ _ hf) mc_X7_codeAt mv_X7_codeAt lk_X7_116 mn_X7_codeAt rgm_0 rfl hl ⟨⟨Nat.le_of_ble_eq_true rfl, Nat.le_of_ble_eq_true rfl⟩, rfl, Nat.le_of_ble_eq_true rfl, Nat.zero_le _, Nat.zero_le _⟩ rfl dX7_readsOne_19) M (fun r_19 H locs hf M => ?_)
        try dsimp only at hf
        refine lv_bipush (v := (59 : Int32)) hx hb dX7_readsOne_22 (by decide) ?_
        refine lv_icmp_eq (tgt := 29) hx hb dX7_readsOne_24 (by decide) (fun c_24 => ?_) (fun c_24 => ?_)
        · replace hf := hf.1 c_24
          refine lv_aload_n hx hb dX7_readsOne_29 rfl (lv_at hl 0 rfl) ?_
          refine lv_dup hx hb dX7_readsOne_30 rfl ?_
          refine x_getI X M rgm_0 fd_X7_113 rfl dX7_readsOne_31 ?_
          refine lv_iconst (v := (1 : Int32)) hx hb dX7_readsOne_34 (by decide) ?_
          refine lv_iadd hx hb dX7_readsOne_35 ?_
          refine x_putI X M rgm_0 fp_X7_113 rfl dX7_readsOne_36 (fun m_36 H locs em_36 M => ?_)
          replace hf := hf m_36 em_36
          exact hJ39 m_36 hf _ _ _ M (lv_sub hl [0, 1, 2] rfl)
        · replace hf := hf.2 c_24
          refine lv_iconst (v := (0 : Int32)) hx hb dX7_readsOne_27 (by decide) ?_
          rw [hQ]
          exact x_zret X M hr hlk xb_0 dX7_readsOne_28 hf
def wp_X7_readsAll (n : Nat) (a1 : Int32) (a2 : Int32) (μ : xM) (K : Int32 → xM → Prop) : Prop :=
  (∀ m_2 : xM, m_2 = xu μ 0 7 (0 : Int32) → (∀ m_7 : xM, m_7 = xu m_2 0 8 (0 : Int32) → wp_X7_readsOne n a1 a2 m_7 (fun (r_13 : Int32) (m_13 : xM) => xlp (fun (again17 : (Int32 × xM) → Prop) => fun (s_ : Int32 × xM) => match s_ with | (x3_17, m_17) => ((x3_17 = 0 → xb x3_17 ∧ K x3_17 m_17) ∧ (¬ x3_17 = 0 → ((a2 ≤ (m_17 0 7) → xb x3_17 ∧ K x3_17 m_17) ∧ (¬ a2 ≤ (m_17 0 7) → wp_X7_readsOne n a1 a2 m_17 (fun (r_32 : Int32) (m_32 : xM) => again17 (r_32, m_32))))))) n (r_13, m_13))))
set_option maxHeartbeats 4000000 in
set_option maxRecDepth 100000 in
theorem cm_X7_readsAll (l : Launch) (G : xG) (ad : Nat → Nat) (hI : xI 23 ad) (n : Nat) (a1 : Int32) (a2 : Int32) (μ : xM) (K : Int32 → xM → Prop) (hf : wp_X7_readsAll n a1 a2 μ K) : Met l yX7_readsAll (Cond.code yX7_readsAll cX7_readsAll 4 (some .boolean) :: xw_all) (rmo 3 76) (va_Pc [.ref (ad 0), .int a1, .int a2] (xPre mS 23 G ad μ)) (xQi mS 23 G ad K) 0 0 (xR 23 ad) := by
  refine x_ent (nL := 4) (own := RX7) (by decide) rfl hI (Nat.le_of_ble_eq_true rfl) ?_
  intro p e s m args below meth c H locs ls Q X hr hlk hQ M hl
  have hx := X.1.1
  have hb := X.1.2.1
  have hown := X.1.2.2.2.1
  have hts := X.1.2.2.2.2
  have hl : lv_has ls 4 [(0, .ref (ad 0)), (1, .int a1), (2, .int a2)] := hl
  unfold wp_X7_readsAll at hf
  refine lv_aload_n hx hb dX7_readsAll_0 rfl (lv_at hl 0 rfl) ?_
  refine lv_iconst (v := (0 : Int32)) hx hb dX7_readsAll_1 (by decide) ?_
  refine x_putI X M rgm_0 fp_X7_113 rfl dX7_readsAll_2 (fun m_2 H locs em_2 M => ?_)
  replace hf := hf m_2 em_2
  refine lv_aload_n hx hb dX7_readsAll_5 rfl (lv_at hl 0 rfl) ?_
  refine lv_iconst (v := (0 : Int32)) hx hb dX7_readsAll_6 (by decide) ?_
  refine x_putI X M rgm_0 fp_X7_120 rfl dX7_readsAll_7 (fun m_7 H locs em_7 M => ?_)
  replace hf := hf m_7 em_7
  refine lv_aload_n hx hb dX7_readsAll_10 rfl (lv_at hl 0 rfl) ?_
  refine lv_iload_n hx hb dX7_readsAll_11 rfl (lv_at hl 1 rfl) ?_
  refine lv_iload_n hx hb dX7_readsAll_12 rfl (lv_at hl 2 rfl) ?_
  refine x_ci (x_rV (As := [.int a1, .int a2]) (rest := []) X M (cm_X7_readsOne l G ad hI n a1 a2 m_7 _ hf) mc_X7_readsOne mv_X7_readsOne lk_X7_127 mn_X7_readsOne rgm_0 rfl hl ⟨⟨Nat.le_of_ble_eq_true rfl, Nat.le_of_ble_eq_true rfl⟩, rfl, Nat.le_of_ble_eq_true rfl, Nat.zero_le _, Nat.zero_le _⟩ rfl dX7_readsAll_13) M (fun r_13 m_13 H locs hf M => ?_)
  try dsimp only at hf
  refine lv_istore_n (lv' := [(3, .int r_13), (0, .ref (ad 0)), (1, .int a1), (2, .int a2)]) hx hb dX7_readsAll_16 rfl hl (by decide) rfl (fun ls hl => ?_)
  refine xlp_w hf (fun (s_ : Int32 × xM) => match s_ with | (x3_17, m_17) => ∀ (H : Heap) (locs : List Loc) (ls : Array Slot), xS mS 23 G ad s m_17 H locs → lv_has ls 4 [(3, .int x3_17), (0, .ref (ad 0)), (1, .int a1), (2, .int a2)] → W p l e (rmo 3 76) s m args below meth c H locs 0 0 Q (F0 m 17 ls [])) ?_ _ _ _ M (lv_sub hl [0, 1, 2, 3] rfl)
  intro again17 hagain17 s_ hf
  obtain ⟨x3_17, m_17⟩ := s_
  try dsimp only at hf ⊢
  intro H locs ls M hl
  refine lv_iload_n hx hb dX7_readsAll_17 rfl (lv_at hl 0 rfl) ?_
  refine lv_if_eq (tgt := 39) hx hb dX7_readsAll_18 (by decide) (fun c_18 => ?_) (fun c_18 => ?_)
  · replace hf := hf.1 c_18
    refine lv_iload_n hx hb dX7_readsAll_39 rfl (lv_at hl 0 rfl) ?_
    obtain ⟨g_40, hf⟩ := hf
    rw [hQ]
    exact x_zret X M hr hlk g_40 dX7_readsAll_40 hf
  · replace hf := hf.2 c_18
    refine lv_aload_n hx hb dX7_readsAll_21 rfl (lv_at hl 1 rfl) ?_
    refine x_getI X M rgm_0 fd_X7_113 rfl dX7_readsAll_22 ?_
    refine lv_iload_n hx hb dX7_readsAll_25 rfl (lv_at hl 3 rfl) ?_
    refine lv_icmp_ge (tgt := 39) hx hb dX7_readsAll_26 (by decide) (fun c_26 => ?_) (fun c_26 => ?_)
    · replace hf := hf.1 c_26
      refine lv_iload_n hx hb dX7_readsAll_39 rfl (lv_at hl 0 rfl) ?_
      obtain ⟨g_40, hf⟩ := hf
      rw [hQ]
      exact x_zret X M hr hlk g_40 dX7_readsAll_40 hf
    · replace hf := hf.2 c_26
      refine lv_aload_n hx hb dX7_readsAll_29 rfl (lv_at hl 1 rfl) ?_
      refine lv_iload_n hx hb dX7_readsAll_30 rfl (lv_at hl 2 rfl) ?_
      refine lv_iload_n hx hb dX7_readsAll_31 rfl (lv_at hl 3 rfl) ?_
      refine x_ci (x_rV (As := [.int a1, .int a2]) (rest := []) X M (cm_X7_readsOne l G ad hI n a1 a2 m_17 _ hf) mc_X7_readsOne mv_X7_readsOne lk_X7_127 mn_X7_readsOne rgm_0 rfl hl ⟨⟨Nat.le_of_ble_eq_true rfl, Nat.le_of_ble_eq_true rfl⟩, rfl, Nat.le_of_ble_eq_true rfl, Nat.zero_le _, Nat.zero_le _⟩ rfl dX7_readsAll_32) M (fun r_32 m_32 H locs hf M => ?_)
      try dsimp only at hf
      refine lv_istore_n (lv' := [(3, .int r_32), (0, .ref (ad 0)), (1, .int a1), (2, .int a2)]) hx hb dX7_readsAll_35 rfl hl (by decide) rfl (fun ls hl => ?_)
      refine lv_goto (tgt := 17) hx hb dX7_readsAll_36 (by decide) ?_
      exact hagain17 (r_32, m_32) hf _ _ _ M (lv_sub hl [0, 1, 2, 3] rfl)
def wp_X7_statues (n : Nat) (a1 : Int32) (a2 : Int32) (a3 : Int32) (a4 : Int32) (μ : xM) (K : Int32 → xM → Prop) : Prop :=
  wp_X7_barred n a1 a2 a3 (a4.toInt64) (1 : Int32) μ (fun (r_8 : Int32) (m_8 : xM) => ((0 ≤ r_8 → wp_X7_readsAll n (((60 : Int32) * a1) + a3) a4 m_8 (fun (r_30 : Int32) (m_30 : xM) => ((¬ r_30 = 0 → (∀ m_53 : xM, m_53 = xu m_30 0 1 (m_30 0 8) → xjn (fun (m_155 : xM) => xjn (fun (m_187 : xM) => (∀ m_189 : xM, m_189 = xu m_187 0 14 (0 : Int32) → (∀ m_194 : xM, m_194 = xu m_189 0 19 (0 : Int32) → wp_X7_refused n (m_194 0 1) m_194 (fun (r_202 : Int32) (m_202 : xM) => K r_202 m_202)))) (fun J187 : xM → Prop => xlp (fun (again158 : (Int32 × xM) → Prop) => fun (s_ : Int32 × xM) => match s_ with | (x6_158, m_158) => (((60 : Int32) ≤ x6_158 → J187 m_158) ∧ (¬ (60 : Int32) ≤ x6_158 → (vp_in x6_158 60 ∧ (∀ m_172 : xM, m_172 = xu m_158 9 x6_158.toNatClampNeg (0 : Int32) → (vp_in x6_158 60 ∧ (∀ m_180 : xM, m_180 = xu m_172 10 x6_158.toNatClampNeg (0 : Int32) → (∀ x6_181 : Int32, x6_181 = x6_158 + 1 → again158 (x6_181, m_180))))))))) n ((0 : Int32), m_155))) (fun J155 : xM → Prop => xlp (fun (again59 : (Int32 × xM) → Prop) => fun (s_ : Int32 × xM) => match s_ with | (x6_59, m_59) => (((7 : Int32) ≤ x6_59 → J155 m_59) ∧ (¬ (7 : Int32) ≤ x6_59 → (vp_in x6_59 7 ∧ (vp_in x6_59 7 ∧ (∀ m_79 : xM, m_79 = xu m_59 1 x6_59.toNatClampNeg (m_59 6 x6_59.toNatClampNeg) → (vp_in x6_59 7 ∧ (vp_in x6_59 7 ∧ (∀ m_93 : xM, m_93 = xu m_79 3 x6_59.toNatClampNeg (m_79 8 x6_59.toNatClampNeg) → (vp_in x6_59 7 ∧ (∀ m_101 : xM, m_101 = xu m_93 4 x6_59.toNatClampNeg (0 : Int32) → (vp_in x6_59 7 ∧ (∀ m_109 : xM, m_109 = xu m_101 5 x6_59.toNatClampNeg (0 : Int32) → xlp (fun (again113 : (Int32 × xM) → Prop) => fun (s_ : Int32 × xM) => match s_ with | (x7_113, m_113) => (((3 : Int32) ≤ x7_113 → (∀ x6_149 : Int32, x6_149 = x6_59 + 1 → again59 (x6_149, m_113))) ∧ (¬ (3 : Int32) ≤ x7_113 → (vp_in (((3 : Int32) * x6_59) + x7_113) 21 ∧ (vp_in (((3 : Int32) * x6_59) + x7_113) 21 ∧ (∀ m_142 : xM, m_142 = xu m_113 2 (((3 : Int32) * x6_59) + x7_113).toNatClampNeg (m_113 7 (((3 : Int32) * x6_59) + x7_113).toNatClampNeg) → (∀ x7_143 : Int32, x7_143 = x7_113 + 1 → again113 (x7_143, m_142)))))))) n ((0 : Int32), m_109)))))))))))))) n ((0 : Int32), m_53)))) ∧ (r_30 = 0 → wp_X7_refused n (((-100) : Int32) - (m_30 0 7)) m_30 (fun (r_44 : Int32) (m_44 : xM) => K r_44 m_44))))) ∧ (¬ 0 ≤ r_8 → K r_8 m_8)))
set_option maxHeartbeats 4000000 in
set_option maxRecDepth 100000 in
theorem cm_X7_statues (l : Launch) (G : xG) (ad : Nat → Nat) (hI : xI 23 ad) (n : Nat) (a1 : Int32) (a2 : Int32) (a3 : Int32) (a4 : Int32) (μ : xM) (K : Int32 → xM → Prop) (hf : wp_X7_statues n a1 a2 a3 a4 μ K) : Met l yX7_statues (Cond.code yX7_statues cX7_statues 8 (some .int) :: xw_all) (rmo 4 99) (va_Pc [.ref (ad 0), .int a1, .int a2, .int a3, .int a4] (xPre mS 23 G ad μ)) (xQi mS 23 G ad K) 0 0 (xR 23 ad) := by
  refine x_ent (nL := 8) (own := RX7) (by decide) rfl hI (Nat.le_of_ble_eq_true rfl) ?_
  intro p e s m args below meth c H locs ls Q X hr hlk hQ M hl
  have hx := X.1.1
  have hb := X.1.2.1
  have hown := X.1.2.2.2.1
  have hts := X.1.2.2.2.2
  have hl : lv_has ls 8 [(0, .ref (ad 0)), (1, .int a1), (2, .int a2), (3, .int a3), (4, .int a4)] := hl
  unfold wp_X7_statues at hf
  refine lv_aload_n hx hb dX7_statues_0 rfl (lv_at hl 0 rfl) ?_
  refine lv_iload_n hx hb dX7_statues_1 rfl (lv_at hl 1 rfl) ?_
  refine lv_iload_n hx hb dX7_statues_2 rfl (lv_at hl 2 rfl) ?_
  refine lv_iload_n hx hb dX7_statues_3 rfl (lv_at hl 3 rfl) ?_
  refine lv_iload hx hb dX7_statues_4 (lv_at hl 4 rfl) ?_
  refine lv_i2l hx hb dX7_statues_6 rfl ?_
  refine lv_iconst (v := (1 : Int32)) hx hb dX7_statues_7 (by decide) ?_
  refine x_ci (x_rV (As := [.int a1, .int a2, .int a3, .long (a4.toInt64), .int (1 : Int32)]) (rest := []) X M (cm_X7_barred l G ad hI n a1 a2 a3 (a4.toInt64) (1 : Int32) μ _ hf) mc_X7_barred mv_X7_barred lk_X7_131 mn_X7_barred rgm_0 rfl hl ⟨⟨Nat.le_of_ble_eq_true rfl, Nat.le_of_ble_eq_true rfl⟩, rfl, Nat.le_of_ble_eq_true rfl, Nat.zero_le _, Nat.zero_le _⟩ rfl dX7_statues_8) M (fun r_8 m_8 H locs hf M => ?_)
  try dsimp only at hf
  refine lv_istore (lv' := [(5, .int r_8), (0, .ref (ad 0)), (1, .int a1), (2, .int a2), (3, .int a3), (4, .int a4)]) hx hb dX7_statues_11 hl (by decide) rfl (fun ls hl => ?_)
  refine lv_iload hx hb dX7_statues_13 (lv_at hl 0 rfl) ?_
  refine lv_if_ge (tgt := 21) hx hb dX7_statues_15 (by decide) (fun c_15 => ?_) (fun c_15 => ?_)
  · replace hf := hf.1 c_15
    refine lv_aload_n hx hb dX7_statues_21 rfl (lv_at hl 1 rfl) ?_
    refine lv_bipush (v := (60 : Int32)) hx hb dX7_statues_22 (by decide) ?_
    refine lv_iload_n hx hb dX7_statues_24 rfl (lv_at hl 2 rfl) ?_
    refine lv_imul hx hb dX7_statues_25 ?_
    refine lv_iload_n hx hb dX7_statues_26 rfl (lv_at hl 4 rfl) ?_
    refine lv_iadd hx hb dX7_statues_27 ?_
    refine lv_iload hx hb dX7_statues_28 (lv_at hl 5 rfl) ?_
    refine x_ci (x_rV (As := [.int (((60 : Int32) * a1) + a3), .int a4]) (rest := []) X M (cm_X7_readsAll l G ad hI n (((60 : Int32) * a1) + a3) a4 m_8 _ hf) mc_X7_readsAll mv_X7_readsAll lk_X7_135 mn_X7_readsAll rgm_0 rfl hl ⟨⟨Nat.le_of_ble_eq_true rfl, Nat.le_of_ble_eq_true rfl⟩, rfl, Nat.le_of_ble_eq_true rfl, Nat.zero_le _, Nat.zero_le _⟩ rfl dX7_statues_30) M (fun r_30 m_30 H locs hf M => ?_)
    try dsimp only at hf
    refine lv_if_ne (tgt := 48) hx hb dX7_statues_33 (by decide) (fun c_33 => ?_) (fun c_33 => ?_)
    · replace hf := hf.1 c_33
      refine lv_aload_n hx hb dX7_statues_48 rfl (lv_at hl 1 rfl) ?_
      refine lv_aload_n hx hb dX7_statues_49 rfl (lv_at hl 1 rfl) ?_
      refine x_getI X M rgm_0 fd_X7_120 rfl dX7_statues_50 ?_
      refine x_putI X M rgm_0 fp_X7_108 rfl dX7_statues_53 (fun m_53 H locs em_53 M => ?_)
      replace hf := hf m_53 em_53
      refine lv_iconst (v := (0 : Int32)) hx hb dX7_statues_56 (by decide) ?_
      refine lv_istore (lv' := [(6, .int (0 : Int32)), (5, .int r_8), (0, .ref (ad 0)), (1, .int a1), (2, .int a2), (3, .int a3), (4, .int a4)]) hx hb dX7_statues_57 hl (by decide) rfl (fun ls hl => ?_)
      refine xjn_w hf (fun (m_155 : xM) => ∀ (H : Heap) (locs : List Loc) (ls : Array Slot), xS mS 23 G ad s m_155 H locs → lv_has ls 8 [(0, .ref (ad 0))] → W p l e (rmo 4 99) s m args below meth c H locs 0 0 Q (F0 m 155 ls [])) ?_ ?_
      · intro m_155 hf
        intro H locs ls M hl
        refine lv_iconst (v := (0 : Int32)) hx hb dX7_statues_155 (by decide) ?_
        refine lv_istore (lv' := [(6, .int (0 : Int32)), (0, .ref (ad 0))]) hx hb dX7_statues_156 hl (by decide) rfl (fun ls hl => ?_)
        refine xjn_w hf (fun (m_187 : xM) => ∀ (H : Heap) (locs : List Loc) (ls : Array Slot), xS mS 23 G ad s m_187 H locs → lv_has ls 8 [(0, .ref (ad 0))] → W p l e (rmo 4 99) s m args below meth c H locs 0 0 Q (F0 m 187 ls [])) ?_ ?_
        · intro m_187 hf
          intro H locs ls M hl
          refine lv_aload_n hx hb dX7_statues_187 rfl (lv_at hl 0 rfl) ?_
          refine lv_iconst (v := (0 : Int32)) hx hb dX7_statues_188 (by decide) ?_
          refine x_putI X M rgm_0 fp_X7_138 rfl dX7_statues_189 (fun m_189 H locs em_189 M => ?_)
          replace hf := hf m_189 em_189
          refine lv_aload_n hx hb dX7_statues_192 rfl (lv_at hl 0 rfl) ?_
          refine lv_iconst (v := (0 : Int32)) hx hb dX7_statues_193 (by decide) ?_
          refine x_putI X M rgm_0 fp_X7_141 rfl dX7_statues_194 (fun m_194 H locs em_194 M => ?_)
          replace hf := hf m_194 em_194
          refine lv_aload_n hx hb dX7_statues_197 rfl (lv_at hl 0 rfl) ?_
          refine lv_aload_n hx hb dX7_statues_198 rfl (lv_at hl 0 rfl) ?_
          refine x_getI X M rgm_0 fd_X7_108 rfl dX7_statues_199 ?_
          refine x_ci (x_rV (As := [.int (m_194 0 1)]) (rest := []) X M (cm_X7_refused l G ad hI n (m_194 0 1) m_194 _ hf) mc_X7_refused mv_X7_refused lk_X7_91 mn_X7_refused rgm_0 rfl hl ⟨⟨Nat.le_of_ble_eq_true rfl, Nat.le_of_ble_eq_true rfl⟩, rfl, Nat.le_of_ble_eq_true rfl, Nat.zero_le _, Nat.zero_le _⟩ rfl dX7_statues_202) M (fun r_202 m_202 H locs hf M => ?_)
          try dsimp only at hf
          rw [hQ]
          exact x_iret X M hr hlk dX7_statues_205 hf
        · intro J187 hJ187 hf
          refine xlp_w hf (fun (s_ : Int32 × xM) => match s_ with | (x6_158, m_158) => ∀ (H : Heap) (locs : List Loc) (ls : Array Slot), xS mS 23 G ad s m_158 H locs → lv_has ls 8 [(6, .int x6_158), (0, .ref (ad 0))] → W p l e (rmo 4 99) s m args below meth c H locs 0 0 Q (F0 m 158 ls [])) ?_ _ _ _ M (lv_sub hl [0, 1] rfl)
          intro again158 hagain158 s_ hf
          obtain ⟨x6_158, m_158⟩ := s_
          try dsimp only at hf ⊢
          intro H locs ls M hl
          refine lv_iload hx hb dX7_statues_158 (lv_at hl 0 rfl) ?_
          refine lv_bipush (v := (60 : Int32)) hx hb dX7_statues_160 (by decide) ?_
          refine lv_icmp_ge (tgt := 187) hx hb dX7_statues_162 (by decide) (fun c_162 => ?_) (fun c_162 => ?_)
          · replace hf := hf.1 c_162
            exact hJ187 m_158 hf _ _ _ M (lv_sub hl [1] rfl)
          · replace hf := hf.2 c_162
            refine lv_aload_n hx hb dX7_statues_165 rfl (lv_at hl 1 rfl) ?_
            refine x_getR (r := 9) X M rgm_0 fd_X7_35 rfl dX7_statues_166 ?_
            refine lv_iload hx hb dX7_statues_169 (lv_at hl 0 rfl) ?_
            refine lv_iconst (v := (0 : Int32)) hx hb dX7_statues_171 (by decide) ?_
            obtain ⟨g_172, hf⟩ := hf
            refine x_ist X M rgm_9 g_172 dX7_statues_172 (fun m_172 H locs em_172 M => ?_)
            replace hf := hf m_172 em_172
            refine lv_aload_n hx hb dX7_statues_173 rfl (lv_at hl 1 rfl) ?_
            refine x_getR (r := 10) X M rgm_0 fd_X7_38 rfl dX7_statues_174 ?_
            refine lv_iload hx hb dX7_statues_177 (lv_at hl 0 rfl) ?_
            refine lv_iconst (v := (0 : Int32)) hx hb dX7_statues_179 (by decide) ?_
            obtain ⟨g_180, hf⟩ := hf
            refine x_ist X M rgm_10 g_180 dX7_statues_180 (fun m_180 H locs em_180 M => ?_)
            replace hf := hf m_180 em_180
            obtain ⟨x6_181, ex6_181⟩ : ∃ y : Int32, y = x6_158 + 1 := ⟨_, rfl⟩
            replace hf := hf x6_181 ex6_181
            refine lv_iinc (v := x6_181) (lv' := [(6, .int x6_181), (0, .ref (ad 0))]) hx hb dX7_statues_181 hl (k := 0) rfl (by rw [ex6_181]; rfl) (by decide) rfl (fun ls hl => ?_)
            refine lv_goto (tgt := 158) hx hb dX7_statues_184 (by decide) ?_
            exact hagain158 (x6_181, m_180) hf _ _ _ M (lv_sub hl [0, 1] rfl)
      · intro J155 hJ155 hf
        refine xlp_w hf (fun (s_ : Int32 × xM) => match s_ with | (x6_59, m_59) => ∀ (H : Heap) (locs : List Loc) (ls : Array Slot), xS mS 23 G ad s m_59 H locs → lv_has ls 8 [(6, .int x6_59), (0, .ref (ad 0))] → W p l e (rmo 4 99) s m args below meth c H locs 0 0 Q (F0 m 59 ls [])) ?_ _ _ _ M (lv_sub hl [0, 2] rfl)
        intro again59 hagain59 s_ hf
        obtain ⟨x6_59, m_59⟩ := s_
        try dsimp only at hf ⊢
        intro H locs ls M hl
        refine lv_iload hx hb dX7_statues_59 (lv_at hl 0 rfl) ?_
        refine lv_bipush (v := (7 : Int32)) hx hb dX7_statues_61 (by decide) ?_
        refine lv_icmp_ge (tgt := 155) hx hb dX7_statues_63 (by decide) (fun c_63 => ?_) (fun c_63 => ?_)
        · replace hf := hf.1 c_63
          exact hJ155 m_59 hf _ _ _ M (lv_sub hl [1] rfl)
        · replace hf := hf.2 c_63
          refine lv_aload_n hx hb dX7_statues_66 rfl (lv_at hl 1 rfl) ?_
          refine x_getR (r := 1) X M rgm_0 fd_X7_7 rfl dX7_statues_67 ?_
          refine lv_iload hx hb dX7_statues_70 (lv_at hl 0 rfl) ?_
          refine lv_aload_n hx hb dX7_statues_72 rfl (lv_at hl 1 rfl) ?_
          refine x_getR (r := 6) X M rgm_0 fd_X7_26 rfl dX7_statues_73 ?_
          refine lv_iload hx hb dX7_statues_76 (lv_at hl 0 rfl) ?_
          obtain ⟨g_78, hf⟩ := hf
          refine x_ild X M rgm_6 g_78 dX7_statues_78 ?_
          obtain ⟨g_79, hf⟩ := hf
          refine x_ist X M rgm_1 g_79 dX7_statues_79 (fun m_79 H locs em_79 M => ?_)
          replace hf := hf m_79 em_79
          refine lv_aload_n hx hb dX7_statues_80 rfl (lv_at hl 1 rfl) ?_
          refine x_getR (r := 3) X M rgm_0 fd_X7_16 rfl dX7_statues_81 ?_
          refine lv_iload hx hb dX7_statues_84 (lv_at hl 0 rfl) ?_
          refine lv_aload_n hx hb dX7_statues_86 rfl (lv_at hl 1 rfl) ?_
          refine x_getR (r := 8) X M rgm_0 fd_X7_32 rfl dX7_statues_87 ?_
          refine lv_iload hx hb dX7_statues_90 (lv_at hl 0 rfl) ?_
          obtain ⟨g_92, hf⟩ := hf
          refine x_ild X M rgm_8 g_92 dX7_statues_92 ?_
          obtain ⟨g_93, hf⟩ := hf
          refine x_ist X M rgm_3 g_93 dX7_statues_93 (fun m_93 H locs em_93 M => ?_)
          replace hf := hf m_93 em_93
          refine lv_aload_n hx hb dX7_statues_94 rfl (lv_at hl 1 rfl) ?_
          refine x_getR (r := 4) X M rgm_0 fd_X7_19 rfl dX7_statues_95 ?_
          refine lv_iload hx hb dX7_statues_98 (lv_at hl 0 rfl) ?_
          refine lv_iconst (v := (0 : Int32)) hx hb dX7_statues_100 (by decide) ?_
          obtain ⟨g_101, hf⟩ := hf
          refine x_ist X M rgm_4 g_101 dX7_statues_101 (fun m_101 H locs em_101 M => ?_)
          replace hf := hf m_101 em_101
          refine lv_aload_n hx hb dX7_statues_102 rfl (lv_at hl 1 rfl) ?_
          refine x_getR (r := 5) X M rgm_0 fd_X7_22 rfl dX7_statues_103 ?_
          refine lv_iload hx hb dX7_statues_106 (lv_at hl 0 rfl) ?_
          refine lv_iconst (v := (0 : Int32)) hx hb dX7_statues_108 (by decide) ?_
          obtain ⟨g_109, hf⟩ := hf
          refine x_zst X M rgm_5 g_109 xb_0 dX7_statues_109 (fun m_109 H locs em_109 M => ?_)
          replace hf := hf m_109 em_109
          refine lv_iconst (v := (0 : Int32)) hx hb dX7_statues_110 (by decide) ?_
          refine lv_istore (lv' := [(7, .int (0 : Int32)), (6, .int x6_59), (0, .ref (ad 0))]) hx hb dX7_statues_111 hl (by decide) rfl (fun ls hl => ?_)
          refine xlp_w hf (fun (s_ : Int32 × xM) => match s_ with | (x7_113, m_113) => ∀ (H : Heap) (locs : List Loc) (ls : Array Slot), xS mS 23 G ad s m_113 H locs → lv_has ls 8 [(7, .int x7_113), (6, .int x6_59), (0, .ref (ad 0))] → W p l e (rmo 4 99) s m args below meth c H locs 0 0 Q (F0 m 113 ls [])) ?_ _ _ _ M (lv_sub hl [0, 1, 2] rfl)
          intro again113 hagain113 s_ hf
          obtain ⟨x7_113, m_113⟩ := s_
          try dsimp only at hf ⊢
          intro H locs ls M hl
          refine lv_iload hx hb dX7_statues_113 (lv_at hl 0 rfl) ?_
          refine lv_iconst (v := (3 : Int32)) hx hb dX7_statues_115 (by decide) ?_
          refine lv_icmp_ge (tgt := 149) hx hb dX7_statues_116 (by decide) (fun c_116 => ?_) (fun c_116 => ?_)
          · replace hf := hf.1 c_116
            obtain ⟨x6_149, ex6_149⟩ : ∃ y : Int32, y = x6_59 + 1 := ⟨_, rfl⟩
            replace hf := hf x6_149 ex6_149
            refine lv_iinc (v := x6_149) (lv' := [(6, .int x6_149), (7, .int x7_113), (0, .ref (ad 0))]) hx hb dX7_statues_149 hl (k := 1) rfl (by rw [ex6_149]; rfl) (by decide) rfl (fun ls hl => ?_)
            refine lv_goto (tgt := 59) hx hb dX7_statues_152 (by decide) ?_
            exact hagain59 (x6_149, m_113) hf _ _ _ M (lv_sub hl [0, 2] rfl)
          · replace hf := hf.2 c_116
            refine lv_aload_n hx hb dX7_statues_119 rfl (lv_at hl 2 rfl) ?_
            refine x_getR (r := 2) X M rgm_0 fd_X7_13 rfl dX7_statues_120 ?_
            refine lv_iconst (v := (3 : Int32)) hx hb dX7_statues_123 (by decide) ?_
            refine lv_iload hx hb dX7_statues_124 (lv_at hl 1 rfl) ?_
            refine lv_imul hx hb dX7_statues_126 ?_
            refine lv_iload hx hb dX7_statues_127 (lv_at hl 0 rfl) ?_
            refine lv_iadd hx hb dX7_statues_129 ?_
            refine lv_aload_n hx hb dX7_statues_130 rfl (lv_at hl 2 rfl) ?_
            refine x_getR (r := 7) X M rgm_0 fd_X7_29 rfl dX7_statues_131 ?_
            refine lv_iconst (v := (3 : Int32)) hx hb dX7_statues_134 (by decide) ?_
            refine lv_iload hx hb dX7_statues_135 (lv_at hl 1 rfl) ?_
            refine lv_imul hx hb dX7_statues_137 ?_
            refine lv_iload hx hb dX7_statues_138 (lv_at hl 0 rfl) ?_
            refine lv_iadd hx hb dX7_statues_140 ?_
            obtain ⟨g_141, hf⟩ := hf
            refine x_ild X M rgm_7 g_141 dX7_statues_141 ?_
            obtain ⟨g_142, hf⟩ := hf
            refine x_ist X M rgm_2 g_142 dX7_statues_142 (fun m_142 H locs em_142 M => ?_)
            replace hf := hf m_142 em_142
            obtain ⟨x7_143, ex7_143⟩ : ∃ y : Int32, y = x7_113 + 1 := ⟨_, rfl⟩
            replace hf := hf x7_143 ex7_143
            refine lv_iinc (v := x7_143) (lv' := [(7, .int x7_143), (6, .int x6_59), (0, .ref (ad 0))]) hx hb dX7_statues_143 hl (k := 0) rfl (by rw [ex7_143]; rfl) (by decide) rfl (fun ls hl => ?_)
            refine lv_goto (tgt := 113) hx hb dX7_statues_146 (by decide) ?_
            exact hagain113 (x7_143, m_142) hf _ _ _ M (lv_sub hl [0, 1, 2] rfl)
    · replace hf := hf.2 c_33
      refine lv_aload_n hx hb dX7_statues_36 rfl (lv_at hl 1 rfl) ?_
      refine lv_bipush (v := ((-100) : Int32)) hx hb dX7_statues_37 (by decide) ?_
      refine lv_aload_n hx hb dX7_statues_39 rfl (lv_at hl 1 rfl) ?_
      refine x_getI X M rgm_0 fd_X7_113 rfl dX7_statues_40 ?_
      refine lv_isub hx hb dX7_statues_43 ?_
      refine x_ci (x_rV (As := [.int (((-100) : Int32) - (m_30 0 7))]) (rest := []) X M (cm_X7_refused l G ad hI n (((-100) : Int32) - (m_30 0 7)) m_30 _ hf) mc_X7_refused mv_X7_refused lk_X7_91 mn_X7_refused rgm_0 rfl hl ⟨⟨Nat.le_of_ble_eq_true rfl, Nat.le_of_ble_eq_true rfl⟩, rfl, Nat.le_of_ble_eq_true rfl, Nat.zero_le _, Nat.zero_le _⟩ rfl dX7_statues_44) M (fun r_44 m_44 H locs hf M => ?_)
      try dsimp only at hf
      rw [hQ]
      exact x_iret X M hr hlk dX7_statues_47 hf
  · replace hf := hf.2 c_15
    refine lv_iload hx hb dX7_statues_18 (lv_at hl 0 rfl) ?_
    rw [hQ]
    exact x_iret X M hr hlk dX7_statues_20 hf
def wp_X7_ofStatue (n : Nat) (a1 : Int32) (a2 : Int32) (μ : xM) (K : Int32 → Prop) : Prop :=
  wp_X7_noOne n a1 μ (fun r_2 : Int32 => ((r_2 = 0 → (((a2 = 0 ∨ a2 = 1 ∨ a2 = 2) → (vp_in (((3 : Int32) * a1) + a2) 21 ∧ K (μ 2 (((3 : Int32) * a1) + a2).toNatClampNeg))) ∧ (¬ (a2 = 0 ∨ a2 = 1 ∨ a2 = 2) → (((a2 = 3) → (vp_in a1 7 ∧ K (μ 1 a1.toNatClampNeg))) ∧ (¬ (a2 = 3) → (((a2 = 4) → (vp_in a1 7 ∧ K (μ 3 a1.toNatClampNeg))) ∧ (¬ (a2 = 4) → (((a2 = 5) → (vp_in a1 7 ∧ K (μ 4 a1.toNatClampNeg))) ∧ (¬ (a2 = 5) → (((a2 = 6) → (vp_in a1 7 ∧ (((μ 5 a1.toNatClampNeg) = 0 → K (0 : Int32)) ∧ (¬ (μ 5 a1.toNatClampNeg) = 0 → K (1 : Int32))))) ∧ (¬ (a2 = 6) → K ((-2) : Int32)))))))))))) ∧ (¬ r_2 = 0 → K ((-1) : Int32))))
set_option maxHeartbeats 4000000 in
set_option maxRecDepth 100000 in
theorem cm_X7_ofStatue (l : Launch) (G : xG) (ad : Nat → Nat) (hI : xI 23 ad) (n : Nat) (a1 : Int32) (a2 : Int32) (μ : xM) (K : Int32 → Prop) (hf : wp_X7_ofStatue n a1 a2 μ K) : Met l yX7_ofStatue (Cond.code yX7_ofStatue cX7_ofStatue 3 (some .int) :: xw_all) (rmo 2 46) (va_Pc [.ref (ad 0), .int a1, .int a2] (xPre mS 23 G ad μ)) (xQi mS 23 G ad (fun r u => K r ∧ u = μ)) 0 0 (xR 23 ad) := by
  refine x_ent (nL := 3) (own := RX7) (by decide) rfl hI (Nat.le_of_ble_eq_true rfl) ?_
  intro p e s m args below meth c H locs ls Q X hr hlk hQ M hl
  have hx := X.1.1
  have hb := X.1.2.1
  have hown := X.1.2.2.2.1
  have hts := X.1.2.2.2.2
  have hl : lv_has ls 3 [(0, .ref (ad 0)), (1, .int a1), (2, .int a2)] := hl
  unfold wp_X7_ofStatue at hf
  refine lv_aload_n hx hb dX7_ofStatue_0 rfl (lv_at hl 0 rfl) ?_
  refine lv_iload_n hx hb dX7_ofStatue_1 rfl (lv_at hl 1 rfl) ?_
  refine x_ciP (x_rV (As := [.int a1]) (rest := []) X M (cm_X7_noOne l G ad hI n a1 μ _ hf) mc_X7_noOne mv_X7_noOne lk_X7_144 mn_X7_noOne rgm_0 rfl hl ⟨⟨Nat.le_of_ble_eq_true rfl, Nat.le_of_ble_eq_true rfl⟩, rfl, Nat.le_of_ble_eq_true rfl, Nat.zero_le _, Nat.zero_le _⟩ rfl dX7_ofStatue_2) M (fun r_2 H locs hf M => ?_)
  try dsimp only at hf
  refine lv_if_eq (tgt := 10) hx hb dX7_ofStatue_5 (by decide) (fun c_5 => ?_) (fun c_5 => ?_)
  · replace hf := hf.1 c_5
    refine lv_iload_n hx hb dX7_ofStatue_10 rfl (lv_at hl 2 rfl) ?_
    by_cases c_11_0 : a2 = 0 ∨ a2 = 1 ∨ a2 = 2
    · replace hf := hf.1 c_11_0
      refine lv_tableIn (off := 41) (tgt := 52) hx hb dX7_ofStatue_11 (by rcases c_11_0 with q | q | q <;> (rw [q] <;> decide)) (by rcases c_11_0 with q | q | q <;> (rw [q] <;> decide)) (by rcases c_11_0 with q | q | q <;> (rw [q] <;> rfl)) (by decide) ?_
      refine lv_aload_n hx hb dX7_ofStatue_52 rfl (lv_at hl 0 rfl) ?_
      refine x_getR (r := 2) X M rgm_0 fd_X7_13 rfl dX7_ofStatue_53 ?_
      refine lv_iconst (v := (3 : Int32)) hx hb dX7_ofStatue_56 (by decide) ?_
      refine lv_iload_n hx hb dX7_ofStatue_57 rfl (lv_at hl 1 rfl) ?_
      refine lv_imul hx hb dX7_ofStatue_58 ?_
      refine lv_iload_n hx hb dX7_ofStatue_59 rfl (lv_at hl 2 rfl) ?_
      refine lv_iadd hx hb dX7_ofStatue_60 ?_
      obtain ⟨g_61, hf⟩ := hf
      refine x_ild X M rgm_2 g_61 dX7_ofStatue_61 ?_
      rw [hQ]
      exact x_iret X M hr hlk dX7_ofStatue_62 ⟨hf, rfl⟩
    · replace hf := hf.2 c_11_0
      by_cases c_11_1 : a2 = 3
      · replace hf := hf.1 c_11_1
        refine lv_tableIn (off := 52) (tgt := 63) hx hb dX7_ofStatue_11 (by have q := c_11_1; (rw [q] <;> decide)) (by have q := c_11_1; (rw [q] <;> decide)) (by have q := c_11_1; (rw [q] <;> rfl)) (by decide) ?_
        refine lv_aload_n hx hb dX7_ofStatue_63 rfl (lv_at hl 0 rfl) ?_
        refine x_getR (r := 1) X M rgm_0 fd_X7_7 rfl dX7_ofStatue_64 ?_
        refine lv_iload_n hx hb dX7_ofStatue_67 rfl (lv_at hl 1 rfl) ?_
        obtain ⟨g_68, hf⟩ := hf
        refine x_ild X M rgm_1 g_68 dX7_ofStatue_68 ?_
        rw [hQ]
        exact x_iret X M hr hlk dX7_ofStatue_69 ⟨hf, rfl⟩
      · replace hf := hf.2 c_11_1
        by_cases c_11_2 : a2 = 4
        · replace hf := hf.1 c_11_2
          refine lv_tableIn (off := 59) (tgt := 70) hx hb dX7_ofStatue_11 (by have q := c_11_2; (rw [q] <;> decide)) (by have q := c_11_2; (rw [q] <;> decide)) (by have q := c_11_2; (rw [q] <;> rfl)) (by decide) ?_
          refine lv_aload_n hx hb dX7_ofStatue_70 rfl (lv_at hl 0 rfl) ?_
          refine x_getR (r := 3) X M rgm_0 fd_X7_16 rfl dX7_ofStatue_71 ?_
          refine lv_iload_n hx hb dX7_ofStatue_74 rfl (lv_at hl 1 rfl) ?_
          obtain ⟨g_75, hf⟩ := hf
          refine x_ild X M rgm_3 g_75 dX7_ofStatue_75 ?_
          rw [hQ]
          exact x_iret X M hr hlk dX7_ofStatue_76 ⟨hf, rfl⟩
        · replace hf := hf.2 c_11_2
          by_cases c_11_3 : a2 = 5
          · replace hf := hf.1 c_11_3
            refine lv_tableIn (off := 66) (tgt := 77) hx hb dX7_ofStatue_11 (by have q := c_11_3; (rw [q] <;> decide)) (by have q := c_11_3; (rw [q] <;> decide)) (by have q := c_11_3; (rw [q] <;> rfl)) (by decide) ?_
            refine lv_aload_n hx hb dX7_ofStatue_77 rfl (lv_at hl 0 rfl) ?_
            refine x_getR (r := 4) X M rgm_0 fd_X7_19 rfl dX7_ofStatue_78 ?_
            refine lv_iload_n hx hb dX7_ofStatue_81 rfl (lv_at hl 1 rfl) ?_
            obtain ⟨g_82, hf⟩ := hf
            refine x_ild X M rgm_4 g_82 dX7_ofStatue_82 ?_
            rw [hQ]
            exact x_iret X M hr hlk dX7_ofStatue_83 ⟨hf, rfl⟩
          · replace hf := hf.2 c_11_3
            by_cases c_11_4 : a2 = 6
            · replace hf := hf.1 c_11_4
              refine lv_tableIn (off := 73) (tgt := 84) hx hb dX7_ofStatue_11 (by have q := c_11_4; (rw [q] <;> decide)) (by have q := c_11_4; (rw [q] <;> decide)) (by have q := c_11_4; (rw [q] <;> rfl)) (by decide) ?_
              refine lv_aload_n hx hb dX7_ofStatue_84 rfl (lv_at hl 0 rfl) ?_
              refine x_getR (r := 5) X M rgm_0 fd_X7_22 rfl dX7_ofStatue_85 ?_
              refine lv_iload_n hx hb dX7_ofStatue_88 rfl (lv_at hl 1 rfl) ?_
              obtain ⟨g_89, hf⟩ := hf
              refine x_zld X M rgm_5 g_89 dX7_ofStatue_89 ?_
              refine lv_if_eq (tgt := 97) hx hb dX7_ofStatue_90 (by decide) (fun c_90 => ?_) (fun c_90 => ?_)
              · replace hf := hf.1 c_90
                refine lv_iconst (v := (0 : Int32)) hx hb dX7_ofStatue_97 (by decide) ?_
                rw [hQ]
                exact x_iret X M hr hlk dX7_ofStatue_98 ⟨hf, rfl⟩
              · replace hf := hf.2 c_90
                refine lv_iconst (v := (1 : Int32)) hx hb dX7_ofStatue_93 (by decide) ?_
                refine lv_goto (tgt := 98) hx hb dX7_ofStatue_94 (by decide) ?_
                rw [hQ]
                exact x_iret X M hr hlk dX7_ofStatue_98 ⟨hf, rfl⟩
            · replace hf := hf.2 c_11_4
              have n_11_0 : ¬ a2.toInt = 0 := fun q => c_11_0 (by rw [Int32.toInt_inj.mp (q.trans (show (0 : Int) = (0 : Int32).toInt from rfl))] <;> decide)
              have n_11_1 : ¬ a2.toInt = 1 := fun q => c_11_0 (by rw [Int32.toInt_inj.mp (q.trans (show (1 : Int) = (1 : Int32).toInt from rfl))] <;> decide)
              have n_11_2 : ¬ a2.toInt = 2 := fun q => c_11_0 (by rw [Int32.toInt_inj.mp (q.trans (show (2 : Int) = (2 : Int32).toInt from rfl))] <;> decide)
              have n_11_3 : ¬ a2.toInt = 3 := fun q => c_11_1 (by rw [Int32.toInt_inj.mp (q.trans (show (3 : Int) = (3 : Int32).toInt from rfl))] <;> decide)
              have n_11_4 : ¬ a2.toInt = 4 := fun q => c_11_2 (by rw [Int32.toInt_inj.mp (q.trans (show (4 : Int) = (4 : Int32).toInt from rfl))] <;> decide)
              have n_11_5 : ¬ a2.toInt = 5 := fun q => c_11_3 (by rw [Int32.toInt_inj.mp (q.trans (show (5 : Int) = (5 : Int32).toInt from rfl))] <;> decide)
              have n_11_6 : ¬ a2.toInt = 6 := fun q => c_11_4 (by rw [Int32.toInt_inj.mp (q.trans (show (6 : Int) = (6 : Int32).toInt from rfl))] <;> decide)
              refine lv_tableOut (tgt := 99) hx hb dX7_ofStatue_11 (by omega) (by decide) ?_
              refine lv_bipush (v := ((-2) : Int32)) hx hb dX7_ofStatue_99 (by decide) ?_
              rw [hQ]
              exact x_iret X M hr hlk dX7_ofStatue_101 ⟨hf, rfl⟩
  · replace hf := hf.2 c_5
    refine lv_iconst (v := ((-1) : Int32)) hx hb dX7_ofStatue_8 (by decide) ?_
    rw [hQ]
    exact x_iret X M hr hlk dX7_ofStatue_9 ⟨hf, rfl⟩
def wp_X7_look (n : Nat) (a1 : Int32) (a2 : Int32) (μ : xM) (K : Int32 → xM → Prop) : Prop :=
  wp_X7_noOne n a1 μ (fun r_2 : Int32 => ((r_2 = 0 → wp_X7_in n (a2.toInt64) (0 : Int64) (3 : Int64) μ (fun r_16 : Int32 => ((¬ r_16 = 0 → (vp_in a1 7 ∧ (∀ x3_31 : Int32, x3_31 = μ 3 a1.toNatClampNeg → (vp_in a1 7 ∧ (∀ m_38 : xM, m_38 = xu μ 3 a1.toNatClampNeg a2 → K x3_31 m_38))))) ∧ (r_16 = 0 → K ((-2) : Int32) μ)))) ∧ (¬ r_2 = 0 → K ((-1) : Int32) μ)))
set_option maxHeartbeats 4000000 in
set_option maxRecDepth 100000 in
theorem cm_X7_look (l : Launch) (G : xG) (ad : Nat → Nat) (hI : xI 23 ad) (n : Nat) (a1 : Int32) (a2 : Int32) (μ : xM) (K : Int32 → xM → Prop) (hf : wp_X7_look n a1 a2 μ K) : Met l yX7_look (Cond.code yX7_look cX7_look 4 (some .int) :: xw_all) (rmo 2 46) (va_Pc [.ref (ad 0), .int a1, .int a2] (xPre mS 23 G ad μ)) (xQi mS 23 G ad K) 0 0 (xR 23 ad) := by
  refine x_ent (nL := 4) (own := RX7) (by decide) rfl hI (Nat.le_of_ble_eq_true rfl) ?_
  intro p e s m args below meth c H locs ls Q X hr hlk hQ M hl
  have hx := X.1.1
  have hb := X.1.2.1
  have hown := X.1.2.2.2.1
  have hts := X.1.2.2.2.2
  have hl : lv_has ls 4 [(0, .ref (ad 0)), (1, .int a1), (2, .int a2)] := hl
  unfold wp_X7_look at hf
  refine lv_aload_n hx hb dX7_look_0 rfl (lv_at hl 0 rfl) ?_
  refine lv_iload_n hx hb dX7_look_1 rfl (lv_at hl 1 rfl) ?_
  refine x_ciP (x_rV (As := [.int a1]) (rest := []) X M (cm_X7_noOne l G ad hI n a1 μ _ hf) mc_X7_noOne mv_X7_noOne lk_X7_144 mn_X7_noOne rgm_0 rfl hl ⟨⟨Nat.le_of_ble_eq_true rfl, Nat.le_of_ble_eq_true rfl⟩, rfl, Nat.le_of_ble_eq_true rfl, Nat.zero_le _, Nat.zero_le _⟩ rfl dX7_look_2) M (fun r_2 H locs hf M => ?_)
  try dsimp only at hf
  refine lv_if_eq (tgt := 10) hx hb dX7_look_5 (by decide) (fun c_5 => ?_) (fun c_5 => ?_)
  · replace hf := hf.1 c_5
    refine lv_iload_n hx hb dX7_look_10 rfl (lv_at hl 2 rfl) ?_
    refine lv_i2l hx hb dX7_look_11 rfl ?_
    refine lv_lconst (v := (0 : Int64)) hx hb dX7_look_12 (by decide) ?_
    refine lv_ldc2 (v := (3 : Int64)) hx hb hown (hts _ kc_X7_147) dX7_look_13 ?_
    refine x_ciP (x_rS (As := [.long (a2.toInt64), .long (0 : Int64), .long (3 : Int64)]) (rest := []) X M (cm_X7_in l G ad hI n (a2.toInt64) (0 : Int64) (3 : Int64) μ _ hf) mc_X7_in ms_X7_in lk_X7_97 mn_X7_in hl ⟨⟨Nat.le_of_ble_eq_true rfl, Nat.le_of_ble_eq_true rfl⟩, rfl, Nat.le_of_ble_eq_true rfl, Nat.zero_le _, Nat.zero_le _⟩ rfl dX7_look_16) M (fun r_16 H locs hf M => ?_)
    try dsimp only at hf
    refine lv_if_ne (tgt := 25) hx hb dX7_look_19 (by decide) (fun c_19 => ?_) (fun c_19 => ?_)
    · replace hf := hf.1 c_19
      refine lv_aload_n hx hb dX7_look_25 rfl (lv_at hl 0 rfl) ?_
      refine x_getR (r := 3) X M rgm_0 fd_X7_16 rfl dX7_look_26 ?_
      refine lv_iload_n hx hb dX7_look_29 rfl (lv_at hl 1 rfl) ?_
      obtain ⟨g_30, hf⟩ := hf
      refine x_ild X M rgm_3 g_30 dX7_look_30 ?_
      refine lv_topi (fun x3_31 ex3_31 => ?_)
      replace hf := hf x3_31 ex3_31
      refine lv_istore_n (lv' := [(3, .int x3_31), (0, .ref (ad 0)), (1, .int a1), (2, .int a2)]) hx hb dX7_look_31 rfl hl (by decide) rfl (fun ls hl => ?_)
      refine lv_aload_n hx hb dX7_look_32 rfl (lv_at hl 1 rfl) ?_
      refine x_getR (r := 3) X M rgm_0 fd_X7_16 rfl dX7_look_33 ?_
      refine lv_iload_n hx hb dX7_look_36 rfl (lv_at hl 2 rfl) ?_
      refine lv_iload_n hx hb dX7_look_37 rfl (lv_at hl 3 rfl) ?_
      obtain ⟨g_38, hf⟩ := hf
      refine x_ist X M rgm_3 g_38 dX7_look_38 (fun m_38 H locs em_38 M => ?_)
      replace hf := hf m_38 em_38
      refine lv_iload_n hx hb dX7_look_39 rfl (lv_at hl 0 rfl) ?_
      rw [hQ]
      exact x_iret X M hr hlk dX7_look_40 hf
    · replace hf := hf.2 c_19
      refine lv_bipush (v := ((-2) : Int32)) hx hb dX7_look_22 (by decide) ?_
      rw [hQ]
      exact x_iret X M hr hlk dX7_look_24 hf
  · replace hf := hf.2 c_5
    refine lv_iconst (v := ((-1) : Int32)) hx hb dX7_look_8 (by decide) ?_
    rw [hQ]
    exact x_iret X M hr hlk dX7_look_9 hf
def wp_X7_over (n : Nat) (a1 : Int32) (a2 : Int32) (μ : xM) (K : Int32 → xM → Prop) : Prop :=
  wp_X7_noOne n a1 μ (fun r_2 : Int32 => ((r_2 = 0 → wp_X7_in n (a2.toInt64) (0 : Int64) (2 : Int64) μ (fun r_16 : Int32 => ((¬ r_16 = 0 → (vp_in a1 7 ∧ (∀ x3_31 : Int32, x3_31 = μ 4 a1.toNatClampNeg → (vp_in a1 7 ∧ (∀ m_38 : xM, m_38 = xu μ 4 a1.toNatClampNeg a2 → K x3_31 m_38))))) ∧ (r_16 = 0 → K ((-2) : Int32) μ)))) ∧ (¬ r_2 = 0 → K ((-1) : Int32) μ)))
set_option maxHeartbeats 4000000 in
set_option maxRecDepth 100000 in
theorem cm_X7_over (l : Launch) (G : xG) (ad : Nat → Nat) (hI : xI 23 ad) (n : Nat) (a1 : Int32) (a2 : Int32) (μ : xM) (K : Int32 → xM → Prop) (hf : wp_X7_over n a1 a2 μ K) : Met l yX7_over (Cond.code yX7_over cX7_over 4 (some .int) :: xw_all) (rmo 2 46) (va_Pc [.ref (ad 0), .int a1, .int a2] (xPre mS 23 G ad μ)) (xQi mS 23 G ad K) 0 0 (xR 23 ad) := by
  refine x_ent (nL := 4) (own := RX7) (by decide) rfl hI (Nat.le_of_ble_eq_true rfl) ?_
  intro p e s m args below meth c H locs ls Q X hr hlk hQ M hl
  have hx := X.1.1
  have hb := X.1.2.1
  have hown := X.1.2.2.2.1
  have hts := X.1.2.2.2.2
  have hl : lv_has ls 4 [(0, .ref (ad 0)), (1, .int a1), (2, .int a2)] := hl
  unfold wp_X7_over at hf
  refine lv_aload_n hx hb dX7_over_0 rfl (lv_at hl 0 rfl) ?_
  refine lv_iload_n hx hb dX7_over_1 rfl (lv_at hl 1 rfl) ?_
  refine x_ciP (x_rV (As := [.int a1]) (rest := []) X M (cm_X7_noOne l G ad hI n a1 μ _ hf) mc_X7_noOne mv_X7_noOne lk_X7_144 mn_X7_noOne rgm_0 rfl hl ⟨⟨Nat.le_of_ble_eq_true rfl, Nat.le_of_ble_eq_true rfl⟩, rfl, Nat.le_of_ble_eq_true rfl, Nat.zero_le _, Nat.zero_le _⟩ rfl dX7_over_2) M (fun r_2 H locs hf M => ?_)
  try dsimp only at hf
  refine lv_if_eq (tgt := 10) hx hb dX7_over_5 (by decide) (fun c_5 => ?_) (fun c_5 => ?_)
  · replace hf := hf.1 c_5
    refine lv_iload_n hx hb dX7_over_10 rfl (lv_at hl 2 rfl) ?_
    refine lv_i2l hx hb dX7_over_11 rfl ?_
    refine lv_lconst (v := (0 : Int64)) hx hb dX7_over_12 (by decide) ?_
    refine lv_ldc2 (v := (2 : Int64)) hx hb hown (hts _ kc_X7_95) dX7_over_13 ?_
    refine x_ciP (x_rS (As := [.long (a2.toInt64), .long (0 : Int64), .long (2 : Int64)]) (rest := []) X M (cm_X7_in l G ad hI n (a2.toInt64) (0 : Int64) (2 : Int64) μ _ hf) mc_X7_in ms_X7_in lk_X7_97 mn_X7_in hl ⟨⟨Nat.le_of_ble_eq_true rfl, Nat.le_of_ble_eq_true rfl⟩, rfl, Nat.le_of_ble_eq_true rfl, Nat.zero_le _, Nat.zero_le _⟩ rfl dX7_over_16) M (fun r_16 H locs hf M => ?_)
    try dsimp only at hf
    refine lv_if_ne (tgt := 25) hx hb dX7_over_19 (by decide) (fun c_19 => ?_) (fun c_19 => ?_)
    · replace hf := hf.1 c_19
      refine lv_aload_n hx hb dX7_over_25 rfl (lv_at hl 0 rfl) ?_
      refine x_getR (r := 4) X M rgm_0 fd_X7_19 rfl dX7_over_26 ?_
      refine lv_iload_n hx hb dX7_over_29 rfl (lv_at hl 1 rfl) ?_
      obtain ⟨g_30, hf⟩ := hf
      refine x_ild X M rgm_4 g_30 dX7_over_30 ?_
      refine lv_topi (fun x3_31 ex3_31 => ?_)
      replace hf := hf x3_31 ex3_31
      refine lv_istore_n (lv' := [(3, .int x3_31), (0, .ref (ad 0)), (1, .int a1), (2, .int a2)]) hx hb dX7_over_31 rfl hl (by decide) rfl (fun ls hl => ?_)
      refine lv_aload_n hx hb dX7_over_32 rfl (lv_at hl 1 rfl) ?_
      refine x_getR (r := 4) X M rgm_0 fd_X7_19 rfl dX7_over_33 ?_
      refine lv_iload_n hx hb dX7_over_36 rfl (lv_at hl 2 rfl) ?_
      refine lv_iload_n hx hb dX7_over_37 rfl (lv_at hl 3 rfl) ?_
      obtain ⟨g_38, hf⟩ := hf
      refine x_ist X M rgm_4 g_38 dX7_over_38 (fun m_38 H locs em_38 M => ?_)
      replace hf := hf m_38 em_38
      refine lv_iload_n hx hb dX7_over_39 rfl (lv_at hl 0 rfl) ?_
      rw [hQ]
      exact x_iret X M hr hlk dX7_over_40 hf
    · replace hf := hf.2 c_19
      refine lv_bipush (v := ((-2) : Int32)) hx hb dX7_over_22 (by decide) ?_
      rw [hQ]
      exact x_iret X M hr hlk dX7_over_24 hf
  · replace hf := hf.2 c_5
    refine lv_iconst (v := ((-1) : Int32)) hx hb dX7_over_8 (by decide) ?_
    rw [hQ]
    exact x_iret X M hr hlk dX7_over_9 hf
def wp_X7_fence (n : Nat) (a1 : Int32) (a2 : Int32) (μ : xM) (K : Int32 → xM → Prop) : Prop :=
  wp_X7_noOne n a1 μ (fun r_2 : Int32 => ((r_2 = 0 → (vp_in a1 7 ∧ (∀ x3_16 : Int32, x3_16 = μ 5 a1.toNatClampNeg → (vp_in a1 7 ∧ (xb a2 ∧ (∀ m_23 : xM, m_23 = xu μ 5 a1.toNatClampNeg a2 → ((¬ x3_16 = a2 → K (1 : Int32) m_23) ∧ (x3_16 = a2 → K (0 : Int32) m_23)))))))) ∧ (¬ r_2 = 0 → K ((-1) : Int32) μ)))
set_option maxHeartbeats 4000000 in
set_option maxRecDepth 100000 in
theorem cm_X7_fence (l : Launch) (G : xG) (ad : Nat → Nat) (hI : xI 23 ad) (n : Nat) (a1 : Int32) (a2 : Int32) (μ : xM) (K : Int32 → xM → Prop) (hf : wp_X7_fence n a1 a2 μ K) : Met l yX7_fence (Cond.code yX7_fence cX7_fence 4 (some .int) :: xw_all) (rmo 2 46) (va_Pc [.ref (ad 0), .int a1, .int a2] (xPre mS 23 G ad μ)) (xQi mS 23 G ad K) 0 0 (xR 23 ad) := by
  refine x_ent (nL := 4) (own := RX7) (by decide) rfl hI (Nat.le_of_ble_eq_true rfl) ?_
  intro p e s m args below meth c H locs ls Q X hr hlk hQ M hl
  have hx := X.1.1
  have hb := X.1.2.1
  have hown := X.1.2.2.2.1
  have hts := X.1.2.2.2.2
  have hl : lv_has ls 4 [(0, .ref (ad 0)), (1, .int a1), (2, .int a2)] := hl
  unfold wp_X7_fence at hf
  refine lv_aload_n hx hb dX7_fence_0 rfl (lv_at hl 0 rfl) ?_
  refine lv_iload_n hx hb dX7_fence_1 rfl (lv_at hl 1 rfl) ?_
  refine x_ciP (x_rV (As := [.int a1]) (rest := []) X M (cm_X7_noOne l G ad hI n a1 μ _ hf) mc_X7_noOne mv_X7_noOne lk_X7_144 mn_X7_noOne rgm_0 rfl hl ⟨⟨Nat.le_of_ble_eq_true rfl, Nat.le_of_ble_eq_true rfl⟩, rfl, Nat.le_of_ble_eq_true rfl, Nat.zero_le _, Nat.zero_le _⟩ rfl dX7_fence_2) M (fun r_2 H locs hf M => ?_)
  try dsimp only at hf
  refine lv_if_eq (tgt := 10) hx hb dX7_fence_5 (by decide) (fun c_5 => ?_) (fun c_5 => ?_)
  · replace hf := hf.1 c_5
    refine lv_aload_n hx hb dX7_fence_10 rfl (lv_at hl 0 rfl) ?_
    refine x_getR (r := 5) X M rgm_0 fd_X7_22 rfl dX7_fence_11 ?_
    refine lv_iload_n hx hb dX7_fence_14 rfl (lv_at hl 1 rfl) ?_
    obtain ⟨g_15, hf⟩ := hf
    refine x_zld X M rgm_5 g_15 dX7_fence_15 ?_
    refine lv_topi (fun x3_16 ex3_16 => ?_)
    replace hf := hf x3_16 ex3_16
    refine lv_istore_n (lv' := [(3, .int x3_16), (0, .ref (ad 0)), (1, .int a1), (2, .int a2)]) hx hb dX7_fence_16 rfl hl (by decide) rfl (fun ls hl => ?_)
    refine lv_aload_n hx hb dX7_fence_17 rfl (lv_at hl 1 rfl) ?_
    refine x_getR (r := 5) X M rgm_0 fd_X7_22 rfl dX7_fence_18 ?_
    refine lv_iload_n hx hb dX7_fence_21 rfl (lv_at hl 2 rfl) ?_
    refine lv_iload_n hx hb dX7_fence_22 rfl (lv_at hl 3 rfl) ?_
    obtain ⟨g_23, hf⟩ := hf
    obtain ⟨b_23, hf⟩ := hf
    refine x_zst X M rgm_5 g_23 b_23 dX7_fence_23 (fun m_23 H locs em_23 M => ?_)
    replace hf := hf m_23 em_23
    refine lv_iload_n hx hb dX7_fence_24 rfl (lv_at hl 0 rfl) ?_
    refine lv_iload_n hx hb dX7_fence_25 rfl (lv_at hl 3 rfl) ?_
    refine lv_icmp_ne (tgt := 33) hx hb dX7_fence_26 (by decide) (fun c_26 => ?_) (fun c_26 => ?_)
    · replace hf := hf.1 c_26
      refine lv_iconst (v := (1 : Int32)) hx hb dX7_fence_33 (by decide) ?_
      rw [hQ]
      exact x_iret X M hr hlk dX7_fence_34 hf
    · replace hf := hf.2 c_26
      refine lv_iconst (v := (0 : Int32)) hx hb dX7_fence_29 (by decide) ?_
      refine lv_goto (tgt := 34) hx hb dX7_fence_30 (by decide) ?_
      rw [hQ]
      exact x_iret X M hr hlk dX7_fence_34 hf
  · replace hf := hf.2 c_5
    refine lv_iconst (v := ((-1) : Int32)) hx hb dX7_fence_8 (by decide) ?_
    rw [hQ]
    exact x_iret X M hr hlk dX7_fence_9 hf
def wp_X7_rain (n : Nat) (a1 : Int32) (a2 : Int32) (a3 : Int32) (μ : xM) (K : Int32 → xM → Prop) : Prop :=
  wp_X7_in n (a1.toInt64) (0 : Int64) (59 : Int64) μ (fun r_6 : Int32 => ((r_6 = 0 → K ((-2) : Int32) μ) ∧ (¬ r_6 = 0 → wp_X7_in n (a2.toInt64) (0 : Int64) (9 : Int64) μ (fun r_18 : Int32 => ((r_18 = 0 → K ((-2) : Int32) μ) ∧ (¬ r_18 = 0 → wp_X7_in n (a3.toInt64) (0 : Int64) (3 : Int64) μ (fun r_30 : Int32 => ((¬ r_30 = 0 → ((¬ (μ 0 1) = 0 → (vp_in a1 60 ∧ (vp_in a1 60 ∧ (∀ x4_65 : Int32, x4_65 = ((10 : Int32) * (μ 9 a1.toNatClampNeg)) + (μ 10 a1.toNatClampNeg) → (vp_in a1 60 ∧ (∀ m_73 : xM, m_73 = xu μ 9 a1.toNatClampNeg a2 → (vp_in a1 60 ∧ (∀ m_80 : xM, m_80 = xu m_73 10 a1.toNatClampNeg a3 → K x4_65 m_80)))))))) ∧ ((μ 0 1) = 0 → K ((-3) : Int32) μ))) ∧ (r_30 = 0 → K ((-2) : Int32) μ)))))))))
set_option maxHeartbeats 4000000 in
set_option maxRecDepth 100000 in
theorem cm_X7_rain (l : Launch) (G : xG) (ad : Nat → Nat) (hI : xI 23 ad) (n : Nat) (a1 : Int32) (a2 : Int32) (a3 : Int32) (μ : xM) (K : Int32 → xM → Prop) (hf : wp_X7_rain n a1 a2 a3 μ K) : Met l yX7_rain (Cond.code yX7_rain cX7_rain 5 (some .int) :: xw_all) (rmo 1 25) (va_Pc [.ref (ad 0), .int a1, .int a2, .int a3] (xPre mS 23 G ad μ)) (xQi mS 23 G ad K) 0 0 (xR 23 ad) := by
  refine x_ent (nL := 5) (own := RX7) (by decide) rfl hI (Nat.le_of_ble_eq_true rfl) ?_
  intro p e s m args below meth c H locs ls Q X hr hlk hQ M hl
  have hx := X.1.1
  have hb := X.1.2.1
  have hown := X.1.2.2.2.1
  have hts := X.1.2.2.2.2
  have hl : lv_has ls 5 [(0, .ref (ad 0)), (1, .int a1), (2, .int a2), (3, .int a3)] := hl
  unfold wp_X7_rain at hf
  refine lv_iload_n hx hb dX7_rain_0 rfl (lv_at hl 1 rfl) ?_
  refine lv_i2l hx hb dX7_rain_1 rfl ?_
  refine lv_lconst (v := (0 : Int64)) hx hb dX7_rain_2 (by decide) ?_
  refine lv_ldc2 (v := (59 : Int64)) hx hb hown (hts _ kc_X7_149) dX7_rain_3 ?_
  refine x_ciP (x_rS (As := [.long (a1.toInt64), .long (0 : Int64), .long (59 : Int64)]) (rest := []) X M (cm_X7_in l G ad hI n (a1.toInt64) (0 : Int64) (59 : Int64) μ _ hf) mc_X7_in ms_X7_in lk_X7_97 mn_X7_in hl ⟨⟨Nat.le_of_ble_eq_true rfl, Nat.le_of_ble_eq_true rfl⟩, rfl, Nat.le_of_ble_eq_true rfl, Nat.zero_le _, Nat.zero_le _⟩ rfl dX7_rain_6) M (fun r_6 H locs hf M => ?_)
  try dsimp only at hf
  refine lv_if_eq (tgt := 36) hx hb dX7_rain_9 (by decide) (fun c_9 => ?_) (fun c_9 => ?_)
  · replace hf := hf.1 c_9
    refine lv_bipush (v := ((-2) : Int32)) hx hb dX7_rain_36 (by decide) ?_
    rw [hQ]
    exact x_iret X M hr hlk dX7_rain_38 hf
  · replace hf := hf.2 c_9
    refine lv_iload_n hx hb dX7_rain_12 rfl (lv_at hl 2 rfl) ?_
    refine lv_i2l hx hb dX7_rain_13 rfl ?_
    refine lv_lconst (v := (0 : Int64)) hx hb dX7_rain_14 (by decide) ?_
    refine lv_ldc2 (v := (9 : Int64)) hx hb hown (hts _ kc_X7_151) dX7_rain_15 ?_
    refine x_ciP (x_rS (As := [.long (a2.toInt64), .long (0 : Int64), .long (9 : Int64)]) (rest := []) X M (cm_X7_in l G ad hI n (a2.toInt64) (0 : Int64) (9 : Int64) μ _ hf) mc_X7_in ms_X7_in lk_X7_97 mn_X7_in hl ⟨⟨Nat.le_of_ble_eq_true rfl, Nat.le_of_ble_eq_true rfl⟩, rfl, Nat.le_of_ble_eq_true rfl, Nat.zero_le _, Nat.zero_le _⟩ rfl dX7_rain_18) M (fun r_18 H locs hf M => ?_)
    try dsimp only at hf
    refine lv_if_eq (tgt := 36) hx hb dX7_rain_21 (by decide) (fun c_21 => ?_) (fun c_21 => ?_)
    · replace hf := hf.1 c_21
      refine lv_bipush (v := ((-2) : Int32)) hx hb dX7_rain_36 (by decide) ?_
      rw [hQ]
      exact x_iret X M hr hlk dX7_rain_38 hf
    · replace hf := hf.2 c_21
      refine lv_iload_n hx hb dX7_rain_24 rfl (lv_at hl 3 rfl) ?_
      refine lv_i2l hx hb dX7_rain_25 rfl ?_
      refine lv_lconst (v := (0 : Int64)) hx hb dX7_rain_26 (by decide) ?_
      refine lv_ldc2 (v := (3 : Int64)) hx hb hown (hts _ kc_X7_147) dX7_rain_27 ?_
      refine x_ciP (x_rS (As := [.long (a3.toInt64), .long (0 : Int64), .long (3 : Int64)]) (rest := []) X M (cm_X7_in l G ad hI n (a3.toInt64) (0 : Int64) (3 : Int64) μ _ hf) mc_X7_in ms_X7_in lk_X7_97 mn_X7_in hl ⟨⟨Nat.le_of_ble_eq_true rfl, Nat.le_of_ble_eq_true rfl⟩, rfl, Nat.le_of_ble_eq_true rfl, Nat.zero_le _, Nat.zero_le _⟩ rfl dX7_rain_30) M (fun r_30 H locs hf M => ?_)
      try dsimp only at hf
      refine lv_if_ne (tgt := 39) hx hb dX7_rain_33 (by decide) (fun c_33 => ?_) (fun c_33 => ?_)
      · replace hf := hf.1 c_33
        refine lv_aload_n hx hb dX7_rain_39 rfl (lv_at hl 0 rfl) ?_
        refine x_getI X M rgm_0 fd_X7_108 rfl dX7_rain_40 ?_
        refine lv_if_ne (tgt := 49) hx hb dX7_rain_43 (by decide) (fun c_43 => ?_) (fun c_43 => ?_)
        · replace hf := hf.1 c_43
          refine lv_bipush (v := (10 : Int32)) hx hb dX7_rain_49 (by decide) ?_
          refine lv_aload_n hx hb dX7_rain_51 rfl (lv_at hl 0 rfl) ?_
          refine x_getR (r := 9) X M rgm_0 fd_X7_35 rfl dX7_rain_52 ?_
          refine lv_iload_n hx hb dX7_rain_55 rfl (lv_at hl 1 rfl) ?_
          obtain ⟨g_56, hf⟩ := hf
          refine x_ild X M rgm_9 g_56 dX7_rain_56 ?_
          refine lv_imul hx hb dX7_rain_57 ?_
          refine lv_aload_n hx hb dX7_rain_58 rfl (lv_at hl 0 rfl) ?_
          refine x_getR (r := 10) X M rgm_0 fd_X7_38 rfl dX7_rain_59 ?_
          refine lv_iload_n hx hb dX7_rain_62 rfl (lv_at hl 1 rfl) ?_
          obtain ⟨g_63, hf⟩ := hf
          refine x_ild X M rgm_10 g_63 dX7_rain_63 ?_
          refine lv_iadd hx hb dX7_rain_64 ?_
          refine lv_topi (fun x4_65 ex4_65 => ?_)
          replace hf := hf x4_65 ex4_65
          refine lv_istore (lv' := [(4, .int x4_65), (0, .ref (ad 0)), (1, .int a1), (2, .int a2), (3, .int a3)]) hx hb dX7_rain_65 hl (by decide) rfl (fun ls hl => ?_)
          refine lv_aload_n hx hb dX7_rain_67 rfl (lv_at hl 1 rfl) ?_
          refine x_getR (r := 9) X M rgm_0 fd_X7_35 rfl dX7_rain_68 ?_
          refine lv_iload_n hx hb dX7_rain_71 rfl (lv_at hl 2 rfl) ?_
          refine lv_iload_n hx hb dX7_rain_72 rfl (lv_at hl 3 rfl) ?_
          obtain ⟨g_73, hf⟩ := hf
          refine x_ist X M rgm_9 g_73 dX7_rain_73 (fun m_73 H locs em_73 M => ?_)
          replace hf := hf m_73 em_73
          refine lv_aload_n hx hb dX7_rain_74 rfl (lv_at hl 1 rfl) ?_
          refine x_getR (r := 10) X M rgm_0 fd_X7_38 rfl dX7_rain_75 ?_
          refine lv_iload_n hx hb dX7_rain_78 rfl (lv_at hl 2 rfl) ?_
          refine lv_iload_n hx hb dX7_rain_79 rfl (lv_at hl 4 rfl) ?_
          obtain ⟨g_80, hf⟩ := hf
          refine x_ist X M rgm_10 g_80 dX7_rain_80 (fun m_80 H locs em_80 M => ?_)
          replace hf := hf m_80 em_80
          refine lv_iload hx hb dX7_rain_81 (lv_at hl 0 rfl) ?_
          rw [hQ]
          exact x_iret X M hr hlk dX7_rain_83 hf
        · replace hf := hf.2 c_43
          refine lv_bipush (v := ((-3) : Int32)) hx hb dX7_rain_46 (by decide) ?_
          rw [hQ]
          exact x_iret X M hr hlk dX7_rain_48 hf
      · replace hf := hf.2 c_33
        refine lv_bipush (v := ((-2) : Int32)) hx hb dX7_rain_36 (by decide) ?_
        rw [hQ]
        exact x_iret X M hr hlk dX7_rain_38 hf
def wp_X7_deer (n : Nat) (a1 : Int32) (μ : xM) (K : Int32 → xM → Prop) : Prop :=
  wp_X7_in n (a1.toInt64) (0 : Int64) (9 : Int64) μ (fun r_6 : Int32 => ((¬ r_6 = 0 → ((¬ (μ 0 1) = 0 → (∀ x2_29 : Int32, x2_29 = μ 0 14 → (∀ m_32 : xM, m_32 = xu μ 0 14 a1 → K x2_29 m_32))) ∧ ((μ 0 1) = 0 → K ((-3) : Int32) μ))) ∧ (r_6 = 0 → K ((-2) : Int32) μ)))
set_option maxHeartbeats 4000000 in
set_option maxRecDepth 100000 in
theorem cm_X7_deer (l : Launch) (G : xG) (ad : Nat → Nat) (hI : xI 23 ad) (n : Nat) (a1 : Int32) (μ : xM) (K : Int32 → xM → Prop) (hf : wp_X7_deer n a1 μ K) : Met l yX7_deer (Cond.code yX7_deer cX7_deer 3 (some .int) :: xw_all) (rmo 1 25) (va_Pc [.ref (ad 0), .int a1] (xPre mS 23 G ad μ)) (xQi mS 23 G ad K) 0 0 (xR 23 ad) := by
  refine x_ent (nL := 3) (own := RX7) (by decide) rfl hI (Nat.le_of_ble_eq_true rfl) ?_
  intro p e s m args below meth c H locs ls Q X hr hlk hQ M hl
  have hx := X.1.1
  have hb := X.1.2.1
  have hown := X.1.2.2.2.1
  have hts := X.1.2.2.2.2
  have hl : lv_has ls 3 [(0, .ref (ad 0)), (1, .int a1)] := hl
  unfold wp_X7_deer at hf
  refine lv_iload_n hx hb dX7_deer_0 rfl (lv_at hl 1 rfl) ?_
  refine lv_i2l hx hb dX7_deer_1 rfl ?_
  refine lv_lconst (v := (0 : Int64)) hx hb dX7_deer_2 (by decide) ?_
  refine lv_ldc2 (v := (9 : Int64)) hx hb hown (hts _ kc_X7_151) dX7_deer_3 ?_
  refine x_ciP (x_rS (As := [.long (a1.toInt64), .long (0 : Int64), .long (9 : Int64)]) (rest := []) X M (cm_X7_in l G ad hI n (a1.toInt64) (0 : Int64) (9 : Int64) μ _ hf) mc_X7_in ms_X7_in lk_X7_97 mn_X7_in hl ⟨⟨Nat.le_of_ble_eq_true rfl, Nat.le_of_ble_eq_true rfl⟩, rfl, Nat.le_of_ble_eq_true rfl, Nat.zero_le _, Nat.zero_le _⟩ rfl dX7_deer_6) M (fun r_6 H locs hf M => ?_)
  try dsimp only at hf
  refine lv_if_ne (tgt := 15) hx hb dX7_deer_9 (by decide) (fun c_9 => ?_) (fun c_9 => ?_)
  · replace hf := hf.1 c_9
    refine lv_aload_n hx hb dX7_deer_15 rfl (lv_at hl 0 rfl) ?_
    refine x_getI X M rgm_0 fd_X7_108 rfl dX7_deer_16 ?_
    refine lv_if_ne (tgt := 25) hx hb dX7_deer_19 (by decide) (fun c_19 => ?_) (fun c_19 => ?_)
    · replace hf := hf.1 c_19
      refine lv_aload_n hx hb dX7_deer_25 rfl (lv_at hl 0 rfl) ?_
      refine x_getI X M rgm_0 fd_X7_138 rfl dX7_deer_26 ?_
      refine lv_topi (fun x2_29 ex2_29 => ?_)
      replace hf := hf x2_29 ex2_29
      refine lv_istore_n (lv' := [(2, .int x2_29), (0, .ref (ad 0)), (1, .int a1)]) hx hb dX7_deer_29 rfl hl (by decide) rfl (fun ls hl => ?_)
      refine lv_aload_n hx hb dX7_deer_30 rfl (lv_at hl 1 rfl) ?_
      refine lv_iload_n hx hb dX7_deer_31 rfl (lv_at hl 2 rfl) ?_
      refine x_putI X M rgm_0 fp_X7_138 rfl dX7_deer_32 (fun m_32 H locs em_32 M => ?_)
      replace hf := hf m_32 em_32
      refine lv_iload_n hx hb dX7_deer_35 rfl (lv_at hl 0 rfl) ?_
      rw [hQ]
      exact x_iret X M hr hlk dX7_deer_36 hf
    · replace hf := hf.2 c_19
      refine lv_bipush (v := ((-3) : Int32)) hx hb dX7_deer_22 (by decide) ?_
      rw [hQ]
      exact x_iret X M hr hlk dX7_deer_24 hf
  · replace hf := hf.2 c_9
    refine lv_bipush (v := ((-2) : Int32)) hx hb dX7_deer_12 (by decide) ?_
    rw [hQ]
    exact x_iret X M hr hlk dX7_deer_14 hf
def wp_X7_begin (n : Nat)  (μ : xM) (K : xM → Prop) : Prop :=
  xjn (fun (m_26 : xM) => xlp (fun (again28 : (Int32 × xM) → Prop) => fun (s_ : Int32 × xM) => match s_ with | (x1_28, m_28) => (((7 : Int32) ≤ x1_28 → K m_28) ∧ (¬ (7 : Int32) ≤ x1_28 → (vp_in x1_28 7 ∧ (∀ m_40 : xM, m_40 = xu m_28 12 x1_28.toNatClampNeg (0 : Int32) → (vp_in x1_28 7 ∧ (∀ m_47 : xM, m_47 = xu m_40 13 x1_28.toNatClampNeg (0 : Int32) → (∀ x1_48 : Int32, x1_48 = x1_28 + 1 → again28 (x1_48, m_47))))))))) n ((0 : Int32), m_26)) (fun J26 : xM → Prop => xlp (fun (again2 : (Int32 × xM) → Prop) => fun (s_ : Int32 × xM) => match s_ with | (x1_2, m_2) => (((21 : Int32) ≤ x1_2 → J26 m_2) ∧ (¬ (21 : Int32) ≤ x1_2 → (vp_in x1_2 21 ∧ (vp_in x1_2 21 ∧ (∀ m_19 : xM, m_19 = xu m_2 11 x1_2.toNatClampNeg (m_2 2 x1_2.toNatClampNeg) → (∀ x1_20 : Int32, x1_20 = x1_2 + 1 → again2 (x1_20, m_19)))))))) n ((0 : Int32), μ))
set_option maxHeartbeats 4000000 in
set_option maxRecDepth 100000 in
theorem cm_X7_begin (l : Launch) (G : xG) (ad : Nat → Nat) (hI : xI 23 ad) (n : Nat)  (μ : xM) (K : xM → Prop) (hf : wp_X7_begin n μ K) : Met l yX7_begin (Cond.code yX7_begin cX7_begin 2 none :: xw_all) (rmo 0 0) (va_Pc [.ref (ad 0)] (xPre mS 23 G ad μ)) (xQv mS 23 G ad K) 0 0 (xR 23 ad) := by
  refine x_ent (nL := 2) (own := RX7) (by decide) rfl hI (Nat.le_of_ble_eq_true rfl) ?_
  intro p e s m args below meth c H locs ls Q X hr hlk hQ M hl
  have hx := X.1.1
  have hb := X.1.2.1
  have hown := X.1.2.2.2.1
  have hts := X.1.2.2.2.2
  have hl : lv_has ls 2 [(0, .ref (ad 0))] := hl
  unfold wp_X7_begin at hf
  refine lv_iconst (v := (0 : Int32)) hx hb dX7_begin_0 (by decide) ?_
  refine lv_istore_n (lv' := [(1, .int (0 : Int32)), (0, .ref (ad 0))]) hx hb dX7_begin_1 rfl hl (by decide) rfl (fun ls hl => ?_)
  refine xjn_w hf (fun (m_26 : xM) => ∀ (H : Heap) (locs : List Loc) (ls : Array Slot), xS mS 23 G ad s m_26 H locs → lv_has ls 2 [(0, .ref (ad 0))] → W p l e (rmo 0 0) s m args below meth c H locs 0 0 Q (F0 m 26 ls [])) ?_ ?_
  · intro m_26 hf
    intro H locs ls M hl
    refine lv_iconst (v := (0 : Int32)) hx hb dX7_begin_26 (by decide) ?_
    refine lv_istore_n (lv' := [(1, .int (0 : Int32)), (0, .ref (ad 0))]) hx hb dX7_begin_27 rfl hl (by decide) rfl (fun ls hl => ?_)
    refine xlp_w hf (fun (s_ : Int32 × xM) => match s_ with | (x1_28, m_28) => ∀ (H : Heap) (locs : List Loc) (ls : Array Slot), xS mS 23 G ad s m_28 H locs → lv_has ls 2 [(1, .int x1_28), (0, .ref (ad 0))] → W p l e (rmo 0 0) s m args below meth c H locs 0 0 Q (F0 m 28 ls [])) ?_ _ _ _ M (lv_sub hl [0, 1] rfl)
    intro again28 hagain28 s_ hf
    obtain ⟨x1_28, m_28⟩ := s_
    try dsimp only at hf ⊢
    intro H locs ls M hl
    refine lv_iload_n hx hb dX7_begin_28 rfl (lv_at hl 0 rfl) ?_
    refine lv_bipush (v := (7 : Int32)) hx hb dX7_begin_29 (by decide) ?_
    refine lv_icmp_ge (tgt := 54) hx hb dX7_begin_31 (by decide) (fun c_31 => ?_) (fun c_31 => ?_)
    · replace hf := hf.1 c_31
      rw [hQ]
      exact x_vret X M hr hlk dX7_begin_54 hf
    · replace hf := hf.2 c_31
      refine lv_aload_n hx hb dX7_begin_34 rfl (lv_at hl 1 rfl) ?_
      refine x_getR (r := 12) X M rgm_0 fd_X7_44 rfl dX7_begin_35 ?_
      refine lv_iload_n hx hb dX7_begin_38 rfl (lv_at hl 0 rfl) ?_
      refine lv_iconst (v := (0 : Int32)) hx hb dX7_begin_39 (by decide) ?_
      obtain ⟨g_40, hf⟩ := hf
      refine x_ist X M rgm_12 g_40 dX7_begin_40 (fun m_40 H locs em_40 M => ?_)
      replace hf := hf m_40 em_40
      refine lv_aload_n hx hb dX7_begin_41 rfl (lv_at hl 1 rfl) ?_
      refine x_getR (r := 13) X M rgm_0 fd_X7_47 rfl dX7_begin_42 ?_
      refine lv_iload_n hx hb dX7_begin_45 rfl (lv_at hl 0 rfl) ?_
      refine lv_iconst (v := (0 : Int32)) hx hb dX7_begin_46 (by decide) ?_
      obtain ⟨g_47, hf⟩ := hf
      refine x_ist X M rgm_13 g_47 dX7_begin_47 (fun m_47 H locs em_47 M => ?_)
      replace hf := hf m_47 em_47
      obtain ⟨x1_48, ex1_48⟩ : ∃ y : Int32, y = x1_28 + 1 := ⟨_, rfl⟩
      replace hf := hf x1_48 ex1_48
      refine lv_iinc (v := x1_48) (lv' := [(1, .int x1_48), (0, .ref (ad 0))]) hx hb dX7_begin_48 hl (k := 0) rfl (by rw [ex1_48]; rfl) (by decide) rfl (fun ls hl => ?_)
      refine lv_goto (tgt := 28) hx hb dX7_begin_51 (by decide) ?_
      exact hagain28 (x1_48, m_47) hf _ _ _ M (lv_sub hl [0, 1] rfl)
  · intro J26 hJ26 hf
    refine xlp_w hf (fun (s_ : Int32 × xM) => match s_ with | (x1_2, m_2) => ∀ (H : Heap) (locs : List Loc) (ls : Array Slot), xS mS 23 G ad s m_2 H locs → lv_has ls 2 [(1, .int x1_2), (0, .ref (ad 0))] → W p l e (rmo 0 0) s m args below meth c H locs 0 0 Q (F0 m 2 ls [])) ?_ _ _ _ M (lv_sub hl [0, 1] rfl)
    intro again2 hagain2 s_ hf
    obtain ⟨x1_2, m_2⟩ := s_
    try dsimp only at hf ⊢
    intro H locs ls M hl
    refine lv_iload_n hx hb dX7_begin_2 rfl (lv_at hl 0 rfl) ?_
    refine lv_bipush (v := (21 : Int32)) hx hb dX7_begin_3 (by decide) ?_
    refine lv_icmp_ge (tgt := 26) hx hb dX7_begin_5 (by decide) (fun c_5 => ?_) (fun c_5 => ?_)
    · replace hf := hf.1 c_5
      exact hJ26 m_2 hf _ _ _ M (lv_sub hl [1] rfl)
    · replace hf := hf.2 c_5
      refine lv_aload_n hx hb dX7_begin_8 rfl (lv_at hl 1 rfl) ?_
      refine x_getR (r := 11) X M rgm_0 fd_X7_41 rfl dX7_begin_9 ?_
      refine lv_iload_n hx hb dX7_begin_12 rfl (lv_at hl 0 rfl) ?_
      refine lv_aload_n hx hb dX7_begin_13 rfl (lv_at hl 1 rfl) ?_
      refine x_getR (r := 2) X M rgm_0 fd_X7_13 rfl dX7_begin_14 ?_
      refine lv_iload_n hx hb dX7_begin_17 rfl (lv_at hl 0 rfl) ?_
      obtain ⟨g_18, hf⟩ := hf
      refine x_ild X M rgm_2 g_18 dX7_begin_18 ?_
      obtain ⟨g_19, hf⟩ := hf
      refine x_ist X M rgm_11 g_19 dX7_begin_19 (fun m_19 H locs em_19 M => ?_)
      replace hf := hf m_19 em_19
      obtain ⟨x1_20, ex1_20⟩ : ∃ y : Int32, y = x1_2 + 1 := ⟨_, rfl⟩
      replace hf := hf x1_20 ex1_20
      refine lv_iinc (v := x1_20) (lv' := [(1, .int x1_20), (0, .ref (ad 0))]) hx hb dX7_begin_20 hl (k := 0) rfl (by rw [ex1_20]; rfl) (by decide) rfl (fun ls hl => ?_)
      refine lv_goto (tgt := 2) hx hb dX7_begin_23 (by decide) ?_
      exact hagain2 (x1_20, m_19) hf _ _ _ M (lv_sub hl [0, 1] rfl)
def wp_X7_losesBy (n : Nat) (a1 : Int32) (a2 : Int32) (a3 : Int32) (μ : xM) (K : Int32 → Prop) : Prop :=
  (vp_in a3 60 ∧ (∀ x4_6 : Int32, x4_6 = μ 9 a3.toNatClampNeg → xjn (fun (x4_33 : Int32) => xjn (fun (x4_44 : Int32) => (vp_in a1 7 ∧ xjn (fun (x4_60 : Int32) => (vp_in a1 7 ∧ ((¬ (μ 4 a1.toNatClampNeg) = (2 : Int32) → (vp_in a1 7 ∧ ((¬ (μ 4 a1.toNatClampNeg) = (1 : Int32) → K x4_60) ∧ ((μ 4 a1.toNatClampNeg) = (1 : Int32) → (¬ (2 : Int32) = 0 ∧ K (x4_60 / (2 : Int32))))))) ∧ ((μ 4 a1.toNatClampNeg) = (2 : Int32) → K (0 : Int32))))) (fun J60 : Int32 → Prop => ((¬ (μ 1 a1.toNatClampNeg) = (2 : Int32) → J60 x4_44) ∧ ((μ 1 a1.toNatClampNeg) = (2 : Int32) → (¬ (2 : Int32) = 0 ∧ (∀ x4_58 : Int32, x4_58 = x4_44 / (2 : Int32) → J60 x4_58))))))) (fun J44 : Int32 → Prop => ((¬ a2 = (1 : Int32) → J44 x4_33) ∧ (a2 = (1 : Int32) → (∀ x4_42 : Int32, x4_42 = (2 : Int32) * x4_33 → J44 x4_42))))) (fun J33 : Int32 → Prop => ((¬ a2 = 0 → J33 x4_6) ∧ (a2 = 0 → (vp_in a3 60 ∧ (vp_in a1 7 ∧ ((¬ (μ 10 a3.toNatClampNeg) = (μ 3 a1.toNatClampNeg) → J33 x4_6) ∧ ((μ 10 a3.toNatClampNeg) = (μ 3 a1.toNatClampNeg) → (∀ x4_31 : Int32, x4_31 = (3 : Int32) * x4_6 → J33 x4_31))))))))))
set_option maxHeartbeats 4000000 in
set_option maxRecDepth 100000 in
theorem cm_X7_losesBy (l : Launch) (G : xG) (ad : Nat → Nat) (hI : xI 23 ad) (n : Nat) (a1 : Int32) (a2 : Int32) (a3 : Int32) (μ : xM) (K : Int32 → Prop) (hf : wp_X7_losesBy n a1 a2 a3 μ K) : Met l yX7_losesBy (Cond.code yX7_losesBy cX7_losesBy 5 (some .int) :: xw_all) (rmo 0 0) (va_Pc [.ref (ad 0), .int a1, .int a2, .int a3] (xPre mS 23 G ad μ)) (xQi mS 23 G ad (fun r u => K r ∧ u = μ)) 0 0 (xR 23 ad) := by
  refine x_ent (nL := 5) (own := RX7) (by decide) rfl hI (Nat.le_of_ble_eq_true rfl) ?_
  intro p e s m args below meth c H locs ls Q X hr hlk hQ M hl
  have hx := X.1.1
  have hb := X.1.2.1
  have hown := X.1.2.2.2.1
  have hts := X.1.2.2.2.2
  have hl : lv_has ls 5 [(0, .ref (ad 0)), (1, .int a1), (2, .int a2), (3, .int a3)] := hl
  unfold wp_X7_losesBy at hf
  refine lv_aload_n hx hb dX7_losesBy_0 rfl (lv_at hl 0 rfl) ?_
  refine x_getR (r := 9) X M rgm_0 fd_X7_35 rfl dX7_losesBy_1 ?_
  refine lv_iload_n hx hb dX7_losesBy_4 rfl (lv_at hl 3 rfl) ?_
  obtain ⟨g_5, hf⟩ := hf
  refine x_ild X M rgm_9 g_5 dX7_losesBy_5 ?_
  refine lv_topi (fun x4_6 ex4_6 => ?_)
  replace hf := hf x4_6 ex4_6
  refine lv_istore (lv' := [(4, .int x4_6), (0, .ref (ad 0)), (1, .int a1), (2, .int a2), (3, .int a3)]) hx hb dX7_losesBy_6 hl (by decide) rfl (fun ls hl => ?_)
  refine lv_iload_n hx hb dX7_losesBy_8 rfl (lv_at hl 3 rfl) ?_
  refine xjn_w hf (fun (x4_33 : Int32) => ∀ (H : Heap) (locs : List Loc) (ls : Array Slot), xS mS 23 G ad s μ H locs → lv_has ls 5 [(4, .int x4_33), (0, .ref (ad 0)), (1, .int a1), (2, .int a2)] → W p l e (rmo 0 0) s m args below meth c H locs 0 0 Q (F0 m 33 ls [])) ?_ ?_
  · intro x4_33 hf
    intro H locs ls M hl
    refine lv_iload_n hx hb dX7_losesBy_33 rfl (lv_at hl 3 rfl) ?_
    refine lv_iconst (v := (1 : Int32)) hx hb dX7_losesBy_34 (by decide) ?_
    refine xjn_w hf (fun (x4_44 : Int32) => ∀ (H : Heap) (locs : List Loc) (ls : Array Slot), xS mS 23 G ad s μ H locs → lv_has ls 5 [(4, .int x4_44), (0, .ref (ad 0)), (1, .int a1)] → W p l e (rmo 0 0) s m args below meth c H locs 0 0 Q (F0 m 44 ls [])) ?_ ?_
    · intro x4_44 hf
      intro H locs ls M hl
      refine lv_aload_n hx hb dX7_losesBy_44 rfl (lv_at hl 1 rfl) ?_
      refine x_getR (r := 1) X M rgm_0 fd_X7_7 rfl dX7_losesBy_45 ?_
      refine lv_iload_n hx hb dX7_losesBy_48 rfl (lv_at hl 2 rfl) ?_
      obtain ⟨g_49, hf⟩ := hf
      refine x_ild X M rgm_1 g_49 dX7_losesBy_49 ?_
      refine lv_iconst (v := (2 : Int32)) hx hb dX7_losesBy_50 (by decide) ?_
      refine xjn_w hf (fun (x4_60 : Int32) => ∀ (H : Heap) (locs : List Loc) (ls : Array Slot), xS mS 23 G ad s μ H locs → lv_has ls 5 [(4, .int x4_60), (0, .ref (ad 0)), (1, .int a1)] → W p l e (rmo 0 0) s m args below meth c H locs 0 0 Q (F0 m 60 ls [])) ?_ ?_
      · intro x4_60 hf
        intro H locs ls M hl
        refine lv_aload_n hx hb dX7_losesBy_60 rfl (lv_at hl 1 rfl) ?_
        refine x_getR (r := 4) X M rgm_0 fd_X7_19 rfl dX7_losesBy_61 ?_
        refine lv_iload_n hx hb dX7_losesBy_64 rfl (lv_at hl 2 rfl) ?_
        obtain ⟨g_65, hf⟩ := hf
        refine x_ild X M rgm_4 g_65 dX7_losesBy_65 ?_
        refine lv_iconst (v := (2 : Int32)) hx hb dX7_losesBy_66 (by decide) ?_
        refine lv_icmp_ne (tgt := 74) hx hb dX7_losesBy_67 (by decide) (fun c_67 => ?_) (fun c_67 => ?_)
        · replace hf := hf.1 c_67
          refine lv_aload_n hx hb dX7_losesBy_74 rfl (lv_at hl 1 rfl) ?_
          refine x_getR (r := 4) X M rgm_0 fd_X7_19 rfl dX7_losesBy_75 ?_
          refine lv_iload_n hx hb dX7_losesBy_78 rfl (lv_at hl 2 rfl) ?_
          obtain ⟨g_79, hf⟩ := hf
          refine x_ild X M rgm_4 g_79 dX7_losesBy_79 ?_
          refine lv_iconst (v := (1 : Int32)) hx hb dX7_losesBy_80 (by decide) ?_
          refine lv_icmp_ne (tgt := 91) hx hb dX7_losesBy_81 (by decide) (fun c_81 => ?_) (fun c_81 => ?_)
          · replace hf := hf.1 c_81
            refine lv_iload hx hb dX7_losesBy_91 (lv_at hl 0 rfl) ?_
            rw [hQ]
            exact x_iret X M hr hlk dX7_losesBy_93 ⟨hf, rfl⟩
          · replace hf := hf.2 c_81
            refine lv_iload hx hb dX7_losesBy_84 (lv_at hl 0 rfl) ?_
            refine lv_iconst (v := (2 : Int32)) hx hb dX7_losesBy_86 (by decide) ?_
            obtain ⟨g_87, hf⟩ := hf
            refine lv_idiv hx hb dX7_losesBy_87 g_87 ?_
            refine lv_goto (tgt := 93) hx hb dX7_losesBy_88 (by decide) ?_
            rw [hQ]
            exact x_iret X M hr hlk dX7_losesBy_93 ⟨hf, rfl⟩
        · replace hf := hf.2 c_67
          refine lv_iconst (v := (0 : Int32)) hx hb dX7_losesBy_70 (by decide) ?_
          refine lv_goto (tgt := 93) hx hb dX7_losesBy_71 (by decide) ?_
          rw [hQ]
          exact x_iret X M hr hlk dX7_losesBy_93 ⟨hf, rfl⟩
      · intro J60 hJ60 hf
        refine lv_icmp_ne (tgt := 60) hx hb dX7_losesBy_51 (by decide) (fun c_51 => ?_) (fun c_51 => ?_)
        · replace hf := hf.1 c_51
          exact hJ60 x4_44 hf _ _ _ M (lv_sub hl [0, 1, 2] rfl)
        · replace hf := hf.2 c_51
          refine lv_iload hx hb dX7_losesBy_54 (lv_at hl 0 rfl) ?_
          refine lv_iconst (v := (2 : Int32)) hx hb dX7_losesBy_56 (by decide) ?_
          obtain ⟨g_57, hf⟩ := hf
          refine lv_idiv hx hb dX7_losesBy_57 g_57 ?_
          refine lv_topi (fun x4_58 ex4_58 => ?_)
          replace hf := hf x4_58 ex4_58
          refine lv_istore (lv' := [(4, .int x4_58), (0, .ref (ad 0)), (1, .int a1)]) hx hb dX7_losesBy_58 hl (by decide) rfl (fun ls hl => ?_)
          exact hJ60 x4_58 hf _ _ _ M (lv_sub hl [0, 1, 2] rfl)
    · intro J44 hJ44 hf
      refine lv_icmp_ne (tgt := 44) hx hb dX7_losesBy_35 (by decide) (fun c_35 => ?_) (fun c_35 => ?_)
      · replace hf := hf.1 c_35
        exact hJ44 x4_33 hf _ _ _ M (lv_sub hl [0, 1, 2] rfl)
      · replace hf := hf.2 c_35
        refine lv_iconst (v := (2 : Int32)) hx hb dX7_losesBy_38 (by decide) ?_
        refine lv_iload hx hb dX7_losesBy_39 (lv_at hl 0 rfl) ?_
        refine lv_imul hx hb dX7_losesBy_41 ?_
        refine lv_topi (fun x4_42 ex4_42 => ?_)
        replace hf := hf x4_42 ex4_42
        refine lv_istore (lv' := [(4, .int x4_42), (0, .ref (ad 0)), (1, .int a1), (2, .int a2)]) hx hb dX7_losesBy_42 hl (by decide) rfl (fun ls hl => ?_)
        exact hJ44 x4_42 hf _ _ _ M (lv_sub hl [0, 1, 2] rfl)
  · intro J33 hJ33 hf
    refine lv_if_ne (tgt := 33) hx hb dX7_losesBy_9 (by decide) (fun c_9 => ?_) (fun c_9 => ?_)
    · replace hf := hf.1 c_9
      exact hJ33 x4_6 hf _ _ _ M (lv_sub hl [0, 1, 2, 3] rfl)
    · replace hf := hf.2 c_9
      refine lv_aload_n hx hb dX7_losesBy_12 rfl (lv_at hl 1 rfl) ?_
      refine x_getR (r := 10) X M rgm_0 fd_X7_38 rfl dX7_losesBy_13 ?_
      refine lv_iload_n hx hb dX7_losesBy_16 rfl (lv_at hl 4 rfl) ?_
      obtain ⟨g_17, hf⟩ := hf
      refine x_ild X M rgm_10 g_17 dX7_losesBy_17 ?_
      refine lv_aload_n hx hb dX7_losesBy_18 rfl (lv_at hl 1 rfl) ?_
      refine x_getR (r := 3) X M rgm_0 fd_X7_16 rfl dX7_losesBy_19 ?_
      refine lv_iload_n hx hb dX7_losesBy_22 rfl (lv_at hl 2 rfl) ?_
      obtain ⟨g_23, hf⟩ := hf
      refine x_ild X M rgm_3 g_23 dX7_losesBy_23 ?_
      refine lv_icmp_ne (tgt := 33) hx hb dX7_losesBy_24 (by decide) (fun c_24 => ?_) (fun c_24 => ?_)
      · replace hf := hf.1 c_24
        exact hJ33 x4_6 hf _ _ _ M (lv_sub hl [0, 1, 2, 3] rfl)
      · replace hf := hf.2 c_24
        refine lv_iconst (v := (3 : Int32)) hx hb dX7_losesBy_27 (by decide) ?_
        refine lv_iload hx hb dX7_losesBy_28 (lv_at hl 0 rfl) ?_
        refine lv_imul hx hb dX7_losesBy_30 ?_
        refine lv_topi (fun x4_31 ex4_31 => ?_)
        replace hf := hf x4_31 ex4_31
        refine lv_istore (lv' := [(4, .int x4_31), (0, .ref (ad 0)), (1, .int a1), (2, .int a2), (3, .int a3)]) hx hb dX7_losesBy_31 hl (by decide) rfl (fun ls hl => ?_)
        exact hJ33 x4_31 hf _ _ _ M (lv_sub hl [0, 1, 2, 3] rfl)
def wp_X7_rainOn (n : Nat) (a1 : Int32) (μ : xM) (K : xM → Prop) : Prop :=
  xlp (fun (again2 : (Int32 × xM) → Prop) => fun (s_ : Int32 × xM) => match s_ with | (x2_2, m_2) => (((m_2 0 1) ≤ x2_2 → K m_2) ∧ (¬ (m_2 0 1) ≤ x2_2 → xlp (fun (again12 : (Int32 × xM) → Prop) => fun (s_ : Int32 × xM) => match s_ with | (x3_12, m_12) => (((3 : Int32) ≤ x3_12 → (∀ x2_71 : Int32, x2_71 = x2_2 + 1 → again2 (x2_71, m_12))) ∧ (¬ (3 : Int32) ≤ x3_12 → (vp_in (((3 : Int32) * x2_2) + x3_12) 21 ∧ wp_X7_losesBy n x2_2 x3_12 a1 m_12 (fun r_31 : Int32 => wp_X7_lesser n (m_12 11 (((3 : Int32) * x2_2) + x3_12).toNatClampNeg) r_31 m_12 (fun r_34 : Int32 => (vp_in (((3 : Int32) * x2_2) + x3_12) 21 ∧ (vp_in (((3 : Int32) * x2_2) + x3_12) 21 ∧ (∀ m_53 : xM, m_53 = xu m_12 11 (((3 : Int32) * x2_2) + x3_12).toNatClampNeg ((m_12 11 (((3 : Int32) * x2_2) + x3_12).toNatClampNeg) - r_34) → (vp_in x2_2 7 ∧ (vp_in x2_2 7 ∧ (∀ m_64 : xM, m_64 = xu m_53 12 x2_2.toNatClampNeg ((m_53 12 x2_2.toNatClampNeg) + r_34) → (∀ x3_65 : Int32, x3_65 = x3_12 + 1 → again12 (x3_65, m_64)))))))))))))) n ((0 : Int32), m_2)))) n ((0 : Int32), μ)
set_option maxHeartbeats 4000000 in
set_option maxRecDepth 100000 in
theorem cm_X7_rainOn (l : Launch) (G : xG) (ad : Nat → Nat) (hI : xI 23 ad) (n : Nat) (a1 : Int32) (μ : xM) (K : xM → Prop) (hf : wp_X7_rainOn n a1 μ K) : Met l yX7_rainOn (Cond.code yX7_rainOn cX7_rainOn 5 none :: xw_all) (rmo 1 24) (va_Pc [.ref (ad 0), .int a1] (xPre mS 23 G ad μ)) (xQv mS 23 G ad K) 0 0 (xR 23 ad) := by
  refine x_ent (nL := 5) (own := RX7) (by decide) rfl hI (Nat.le_of_ble_eq_true rfl) ?_
  intro p e s m args below meth c H locs ls Q X hr hlk hQ M hl
  have hx := X.1.1
  have hb := X.1.2.1
  have hown := X.1.2.2.2.1
  have hts := X.1.2.2.2.2
  have hl : lv_has ls 5 [(0, .ref (ad 0)), (1, .int a1)] := hl
  unfold wp_X7_rainOn at hf
  refine lv_iconst (v := (0 : Int32)) hx hb dX7_rainOn_0 (by decide) ?_
  refine lv_istore_n (lv' := [(2, .int (0 : Int32)), (0, .ref (ad 0)), (1, .int a1)]) hx hb dX7_rainOn_1 rfl hl (by decide) rfl (fun ls hl => ?_)
  refine xlp_w hf (fun (s_ : Int32 × xM) => match s_ with | (x2_2, m_2) => ∀ (H : Heap) (locs : List Loc) (ls : Array Slot), xS mS 23 G ad s m_2 H locs → lv_has ls 5 [(2, .int x2_2), (0, .ref (ad 0)), (1, .int a1)] → W p l e (rmo 1 24) s m args below meth c H locs 0 0 Q (F0 m 2 ls [])) ?_ _ _ _ M (lv_sub hl [0, 1, 2] rfl)
  intro again2 hagain2 s_ hf
  obtain ⟨x2_2, m_2⟩ := s_
  try dsimp only at hf ⊢
  intro H locs ls M hl
  refine lv_iload_n hx hb dX7_rainOn_2 rfl (lv_at hl 0 rfl) ?_
  refine lv_aload_n hx hb dX7_rainOn_3 rfl (lv_at hl 1 rfl) ?_
  refine x_getI X M rgm_0 fd_X7_108 rfl dX7_rainOn_4 ?_
  refine lv_icmp_ge (tgt := 77) hx hb dX7_rainOn_7 (by decide) (fun c_7 => ?_) (fun c_7 => ?_)
  · replace hf := hf.1 c_7
    rw [hQ]
    exact x_vret X M hr hlk dX7_rainOn_77 hf
  · replace hf := hf.2 c_7
    refine lv_iconst (v := (0 : Int32)) hx hb dX7_rainOn_10 (by decide) ?_
    refine lv_istore_n (lv' := [(3, .int (0 : Int32)), (2, .int x2_2), (0, .ref (ad 0)), (1, .int a1)]) hx hb dX7_rainOn_11 rfl hl (by decide) rfl (fun ls hl => ?_)
    refine xlp_w hf (fun (s_ : Int32 × xM) => match s_ with | (x3_12, m_12) => ∀ (H : Heap) (locs : List Loc) (ls : Array Slot), xS mS 23 G ad s m_12 H locs → lv_has ls 5 [(3, .int x3_12), (2, .int x2_2), (0, .ref (ad 0)), (1, .int a1)] → W p l e (rmo 1 24) s m args below meth c H locs 0 0 Q (F0 m 12 ls [])) ?_ _ _ _ M (lv_sub hl [0, 1, 2, 3] rfl)
    intro again12 hagain12 s_ hf
    obtain ⟨x3_12, m_12⟩ := s_
    try dsimp only at hf ⊢
    intro H locs ls M hl
    refine lv_iload_n hx hb dX7_rainOn_12 rfl (lv_at hl 0 rfl) ?_
    refine lv_iconst (v := (3 : Int32)) hx hb dX7_rainOn_13 (by decide) ?_
    refine lv_icmp_ge (tgt := 71) hx hb dX7_rainOn_14 (by decide) (fun c_14 => ?_) (fun c_14 => ?_)
    · replace hf := hf.1 c_14
      obtain ⟨x2_71, ex2_71⟩ : ∃ y : Int32, y = x2_2 + 1 := ⟨_, rfl⟩
      replace hf := hf x2_71 ex2_71
      refine lv_iinc (v := x2_71) (lv' := [(2, .int x2_71), (3, .int x3_12), (0, .ref (ad 0)), (1, .int a1)]) hx hb dX7_rainOn_71 hl (k := 1) rfl (by rw [ex2_71]; rfl) (by decide) rfl (fun ls hl => ?_)
      refine lv_goto (tgt := 2) hx hb dX7_rainOn_74 (by decide) ?_
      exact hagain2 (x2_71, m_12) hf _ _ _ M (lv_sub hl [0, 2, 3] rfl)
    · replace hf := hf.2 c_14
      refine lv_aload_n hx hb dX7_rainOn_17 rfl (lv_at hl 2 rfl) ?_
      refine x_getR (r := 11) X M rgm_0 fd_X7_41 rfl dX7_rainOn_18 ?_
      refine lv_iconst (v := (3 : Int32)) hx hb dX7_rainOn_21 (by decide) ?_
      refine lv_iload_n hx hb dX7_rainOn_22 rfl (lv_at hl 1 rfl) ?_
      refine lv_imul hx hb dX7_rainOn_23 ?_
      refine lv_iload_n hx hb dX7_rainOn_24 rfl (lv_at hl 0 rfl) ?_
      refine lv_iadd hx hb dX7_rainOn_25 ?_
      obtain ⟨g_26, hf⟩ := hf
      refine x_ild X M rgm_11 g_26 dX7_rainOn_26 ?_
      refine lv_aload_n hx hb dX7_rainOn_27 rfl (lv_at hl 2 rfl) ?_
      refine lv_iload_n hx hb dX7_rainOn_28 rfl (lv_at hl 1 rfl) ?_
      refine lv_iload_n hx hb dX7_rainOn_29 rfl (lv_at hl 0 rfl) ?_
      refine lv_iload_n hx hb dX7_rainOn_30 rfl (lv_at hl 3 rfl) ?_
      refine x_ciP (x_rV (As := [.int x2_2, .int x3_12, .int a1]) (rest := [.int (m_12 11 (((3 : Int32) * x2_2) + x3_12).toNatClampNeg)]) X M (cm_X7_losesBy l G ad hI n x2_2 x3_12 a1 m_12 _ hf) mc_X7_losesBy mv_X7_losesBy lk_X7_153 mn_X7_losesBy rgm_0 rfl hl ⟨⟨Nat.le_of_ble_eq_true rfl, Nat.le_of_ble_eq_true rfl⟩, rfl, Nat.le_of_ble_eq_true rfl, Nat.zero_le _, Nat.zero_le _⟩ rfl dX7_rainOn_31) M (fun r_31 H locs hf M => ?_)
      try dsimp only at hf
      refine x_ciP (x_rS (As := [.int (m_12 11 (((3 : Int32) * x2_2) + x3_12).toNatClampNeg), .int r_31]) (rest := []) X M (cm_X7_lesser l G ad hI n (m_12 11 (((3 : Int32) * x2_2) + x3_12).toNatClampNeg) r_31 m_12 _ hf) mc_X7_lesser ms_X7_lesser lk_X7_157 mn_X7_lesser hl ⟨⟨Nat.le_of_ble_eq_true rfl, Nat.le_of_ble_eq_true rfl⟩, rfl, Nat.le_of_ble_eq_true rfl, Nat.zero_le _, Nat.zero_le _⟩ rfl dX7_rainOn_34) M (fun r_34 H locs hf M => ?_)
      try dsimp only at hf
      refine lv_istore (lv' := [(4, .int r_34), (3, .int x3_12), (2, .int x2_2), (0, .ref (ad 0)), (1, .int a1)]) hx hb dX7_rainOn_37 hl (by decide) rfl (fun ls hl => ?_)
      refine lv_aload_n hx hb dX7_rainOn_39 rfl (lv_at hl 3 rfl) ?_
      refine x_getR (r := 11) X M rgm_0 fd_X7_41 rfl dX7_rainOn_40 ?_
      refine lv_iconst (v := (3 : Int32)) hx hb dX7_rainOn_43 (by decide) ?_
      refine lv_iload_n hx hb dX7_rainOn_44 rfl (lv_at hl 2 rfl) ?_
      refine lv_imul hx hb dX7_rainOn_45 ?_
      refine lv_iload_n hx hb dX7_rainOn_46 rfl (lv_at hl 1 rfl) ?_
      refine lv_iadd hx hb dX7_rainOn_47 ?_
      refine lv_dup2_11 hx hb dX7_rainOn_48 rfl rfl ?_
      obtain ⟨g_49, hf⟩ := hf
      refine x_ild X M rgm_11 g_49 dX7_rainOn_49 ?_
      refine lv_iload hx hb dX7_rainOn_50 (lv_at hl 0 rfl) ?_
      refine lv_isub hx hb dX7_rainOn_52 ?_
      obtain ⟨g_53, hf⟩ := hf
      refine x_ist X M rgm_11 g_53 dX7_rainOn_53 (fun m_53 H locs em_53 M => ?_)
      replace hf := hf m_53 em_53
      refine lv_aload_n hx hb dX7_rainOn_54 rfl (lv_at hl 3 rfl) ?_
      refine x_getR (r := 12) X M rgm_0 fd_X7_44 rfl dX7_rainOn_55 ?_
      refine lv_iload_n hx hb dX7_rainOn_58 rfl (lv_at hl 2 rfl) ?_
      refine lv_dup2_11 hx hb dX7_rainOn_59 rfl rfl ?_
      obtain ⟨g_60, hf⟩ := hf
      refine x_ild X M rgm_12 g_60 dX7_rainOn_60 ?_
      refine lv_iload hx hb dX7_rainOn_61 (lv_at hl 0 rfl) ?_
      refine lv_iadd hx hb dX7_rainOn_63 ?_
      obtain ⟨g_64, hf⟩ := hf
      refine x_ist X M rgm_12 g_64 dX7_rainOn_64 (fun m_64 H locs em_64 M => ?_)
      replace hf := hf m_64 em_64
      obtain ⟨x3_65, ex3_65⟩ : ∃ y : Int32, y = x3_12 + 1 := ⟨_, rfl⟩
      replace hf := hf x3_65 ex3_65
      refine lv_iinc (v := x3_65) (lv' := [(3, .int x3_65), (4, .int r_34), (2, .int x2_2), (0, .ref (ad 0)), (1, .int a1)]) hx hb dX7_rainOn_65 hl (k := 1) rfl (by rw [ex3_65]; rfl) (by decide) rfl (fun ls hl => ?_)
      refine lv_goto (tgt := 12) hx hb dX7_rainOn_68 (by decide) ?_
      exact hagain12 (x3_65, m_64) hf _ _ _ M (lv_sub hl [0, 2, 3, 4] rfl)
def wp_X7_canLick (n : Nat) (a1 : Int32) (μ : xM) (K : Int32 → Prop) : Prop :=
  (vp_in (((3 : Int32) * a1) + (2 : Int32)) 21 ∧ (∀ x2_10 : Int32, x2_10 = μ 11 (((3 : Int32) * a1) + (2 : Int32)).toNatClampNeg → (vp_in a1 7 ∧ ((¬ (μ 5 a1.toNatClampNeg) = 0 → K (0 : Int32)) ∧ ((μ 5 a1.toNatClampNeg) = 0 → (vp_in a1 7 ∧ ((¬ (μ 1 a1.toNatClampNeg) = 0 → (vp_in (((3 : Int32) * a1) + (2 : Int32)) 21 ∧ ((((2 : Int32) * x2_10) ≤ (μ 2 (((3 : Int32) * a1) + (2 : Int32)).toNatClampNeg) → K (0 : Int32)) ∧ (¬ ((2 : Int32) * x2_10) ≤ (μ 2 (((3 : Int32) * a1) + (2 : Int32)).toNatClampNeg) → K (1 : Int32))))) ∧ ((μ 1 a1.toNatClampNeg) = 0 → ((x2_10 ≤ 0 → K (0 : Int32)) ∧ (¬ x2_10 ≤ 0 → K (1 : Int32)))))))))))
set_option maxHeartbeats 4000000 in
set_option maxRecDepth 100000 in
theorem cm_X7_canLick (l : Launch) (G : xG) (ad : Nat → Nat) (hI : xI 23 ad) (n : Nat) (a1 : Int32) (μ : xM) (K : Int32 → Prop) (hf : wp_X7_canLick n a1 μ K) : Met l yX7_canLick (Cond.code yX7_canLick cX7_canLick 3 (some .boolean) :: xw_all) (rmo 0 0) (va_Pc [.ref (ad 0), .int a1] (xPre mS 23 G ad μ)) (xQi mS 23 G ad (fun r u => K r ∧ u = μ)) 0 0 (xR 23 ad) := by
  refine x_ent (nL := 3) (own := RX7) (by decide) rfl hI (Nat.le_of_ble_eq_true rfl) ?_
  intro p e s m args below meth c H locs ls Q X hr hlk hQ M hl
  have hx := X.1.1
  have hb := X.1.2.1
  have hown := X.1.2.2.2.1
  have hts := X.1.2.2.2.2
  have hl : lv_has ls 3 [(0, .ref (ad 0)), (1, .int a1)] := hl
  unfold wp_X7_canLick at hf
  refine lv_aload_n hx hb dX7_canLick_0 rfl (lv_at hl 0 rfl) ?_
  refine x_getR (r := 11) X M rgm_0 fd_X7_41 rfl dX7_canLick_1 ?_
  refine lv_iconst (v := (3 : Int32)) hx hb dX7_canLick_4 (by decide) ?_
  refine lv_iload_n hx hb dX7_canLick_5 rfl (lv_at hl 1 rfl) ?_
  refine lv_imul hx hb dX7_canLick_6 ?_
  refine lv_iconst (v := (2 : Int32)) hx hb dX7_canLick_7 (by decide) ?_
  refine lv_iadd hx hb dX7_canLick_8 ?_
  obtain ⟨g_9, hf⟩ := hf
  refine x_ild X M rgm_11 g_9 dX7_canLick_9 ?_
  refine lv_topi (fun x2_10 ex2_10 => ?_)
  replace hf := hf x2_10 ex2_10
  refine lv_istore_n (lv' := [(2, .int x2_10), (0, .ref (ad 0)), (1, .int a1)]) hx hb dX7_canLick_10 rfl hl (by decide) rfl (fun ls hl => ?_)
  refine lv_aload_n hx hb dX7_canLick_11 rfl (lv_at hl 1 rfl) ?_
  refine x_getR (r := 5) X M rgm_0 fd_X7_22 rfl dX7_canLick_12 ?_
  refine lv_iload_n hx hb dX7_canLick_15 rfl (lv_at hl 2 rfl) ?_
  obtain ⟨g_16, hf⟩ := hf
  refine x_zld X M rgm_5 g_16 dX7_canLick_16 ?_
  refine lv_if_ne (tgt := 56) hx hb dX7_canLick_17 (by decide) (fun c_17 => ?_) (fun c_17 => ?_)
  · replace hf := hf.1 c_17
    refine lv_iconst (v := (0 : Int32)) hx hb dX7_canLick_56 (by decide) ?_
    rw [hQ]
    exact x_zret X M hr hlk xb_0 dX7_canLick_57 ⟨hf, rfl⟩
  · replace hf := hf.2 c_17
    refine lv_aload_n hx hb dX7_canLick_20 rfl (lv_at hl 1 rfl) ?_
    refine x_getR (r := 1) X M rgm_0 fd_X7_7 rfl dX7_canLick_21 ?_
    refine lv_iload_n hx hb dX7_canLick_24 rfl (lv_at hl 2 rfl) ?_
    obtain ⟨g_25, hf⟩ := hf
    refine x_ild X M rgm_1 g_25 dX7_canLick_25 ?_
    refine lv_if_ne (tgt := 36) hx hb dX7_canLick_26 (by decide) (fun c_26 => ?_) (fun c_26 => ?_)
    · replace hf := hf.1 c_26
      refine lv_iconst (v := (2 : Int32)) hx hb dX7_canLick_36 (by decide) ?_
      refine lv_iload_n hx hb dX7_canLick_37 rfl (lv_at hl 0 rfl) ?_
      refine lv_imul hx hb dX7_canLick_38 ?_
      refine lv_aload_n hx hb dX7_canLick_39 rfl (lv_at hl 1 rfl) ?_
      refine x_getR (r := 2) X M rgm_0 fd_X7_13 rfl dX7_canLick_40 ?_
      refine lv_iconst (v := (3 : Int32)) hx hb dX7_canLick_43 (by decide) ?_
      refine lv_iload_n hx hb dX7_canLick_44 rfl (lv_at hl 2 rfl) ?_
      refine lv_imul hx hb dX7_canLick_45 ?_
      refine lv_iconst (v := (2 : Int32)) hx hb dX7_canLick_46 (by decide) ?_
      refine lv_iadd hx hb dX7_canLick_47 ?_
      obtain ⟨g_48, hf⟩ := hf
      refine x_ild X M rgm_2 g_48 dX7_canLick_48 ?_
      refine lv_icmp_le (tgt := 56) hx hb dX7_canLick_49 (by decide) (fun c_49 => ?_) (fun c_49 => ?_)
      · replace hf := hf.1 c_49
        refine lv_iconst (v := (0 : Int32)) hx hb dX7_canLick_56 (by decide) ?_
        rw [hQ]
        exact x_zret X M hr hlk xb_0 dX7_canLick_57 ⟨hf, rfl⟩
      · replace hf := hf.2 c_49
        refine lv_iconst (v := (1 : Int32)) hx hb dX7_canLick_52 (by decide) ?_
        refine lv_goto (tgt := 57) hx hb dX7_canLick_53 (by decide) ?_
        rw [hQ]
        exact x_zret X M hr hlk xb_1 dX7_canLick_57 ⟨hf, rfl⟩
    · replace hf := hf.2 c_26
      refine lv_iload_n hx hb dX7_canLick_29 rfl (lv_at hl 0 rfl) ?_
      refine lv_if_le (tgt := 56) hx hb dX7_canLick_30 (by decide) (fun c_30 => ?_) (fun c_30 => ?_)
      · replace hf := hf.1 c_30
        refine lv_iconst (v := (0 : Int32)) hx hb dX7_canLick_56 (by decide) ?_
        rw [hQ]
        exact x_zret X M hr hlk xb_0 dX7_canLick_57 ⟨hf, rfl⟩
      · replace hf := hf.2 c_30
        refine lv_goto (tgt := 52) hx hb dX7_canLick_33 (by decide) ?_
        refine lv_iconst (v := (1 : Int32)) hx hb dX7_canLick_52 (by decide) ?_
        refine lv_goto (tgt := 57) hx hb dX7_canLick_53 (by decide) ?_
        rw [hQ]
        exact x_zret X M hr hlk xb_1 dX7_canLick_57 ⟨hf, rfl⟩
def wp_X7_likedNow (n : Nat)  (μ : xM) (K : Int32 → Prop) : Prop :=
  xlp (fun (again5 : (Int32 × Int32) → Prop) => fun (s_ : Int32 × Int32) => match s_ with | (x2_5, x1_5) => (((μ 0 1) ≤ x2_5 → K x1_5) ∧ (¬ (μ 0 1) ≤ x2_5 → wp_X7_canLick n x2_5 μ (fun r_15 : Int32 => ((r_15 = 0 → (∀ x2_50 : Int32, x2_50 = x2_5 + 1 → again5 (x2_50, x1_5))) ∧ (¬ r_15 = 0 → ((x1_5 < 0 → (∀ x2_50 : Int32, x2_50 = x2_5 + 1 → again5 (x2_50, x2_5))) ∧ (¬ x1_5 < 0 → (vp_in (((3 : Int32) * x2_5) + (2 : Int32)) 21 ∧ (vp_in (((3 : Int32) * x1_5) + (2 : Int32)) 21 ∧ (((μ 11 (((3 : Int32) * x2_5) + (2 : Int32)).toNatClampNeg) ≤ (μ 11 (((3 : Int32) * x1_5) + (2 : Int32)).toNatClampNeg) → (∀ x2_50 : Int32, x2_50 = x2_5 + 1 → again5 (x2_50, x1_5))) ∧ (¬ (μ 11 (((3 : Int32) * x2_5) + (2 : Int32)).toNatClampNeg) ≤ (μ 11 (((3 : Int32) * x1_5) + (2 : Int32)).toNatClampNeg) → (∀ x2_50 : Int32, x2_50 = x2_5 + 1 → again5 (x2_50, x2_5)))))))))))))) n ((0 : Int32), ((-9) : Int32))
set_option maxHeartbeats 4000000 in
set_option maxRecDepth 100000 in
theorem cm_X7_likedNow (l : Launch) (G : xG) (ad : Nat → Nat) (hI : xI 23 ad) (n : Nat)  (μ : xM) (K : Int32 → Prop) (hf : wp_X7_likedNow n μ K) : Met l yX7_likedNow (Cond.code yX7_likedNow cX7_likedNow 3 (some .int) :: xw_all) (rmo 1 22) (va_Pc [.ref (ad 0)] (xPre mS 23 G ad μ)) (xQi mS 23 G ad (fun r u => K r ∧ u = μ)) 0 0 (xR 23 ad) := by
  refine x_ent (nL := 3) (own := RX7) (by decide) rfl hI (Nat.le_of_ble_eq_true rfl) ?_
  intro p e s m args below meth c H locs ls Q X hr hlk hQ M hl
  have hx := X.1.1
  have hb := X.1.2.1
  have hown := X.1.2.2.2.1
  have hts := X.1.2.2.2.2
  have hl : lv_has ls 3 [(0, .ref (ad 0))] := hl
  unfold wp_X7_likedNow at hf
  refine lv_bipush (v := ((-9) : Int32)) hx hb dX7_likedNow_0 (by decide) ?_
  refine lv_istore_n (lv' := [(1, .int ((-9) : Int32)), (0, .ref (ad 0))]) hx hb dX7_likedNow_2 rfl hl (by decide) rfl (fun ls hl => ?_)
  refine lv_iconst (v := (0 : Int32)) hx hb dX7_likedNow_3 (by decide) ?_
  refine lv_istore_n (lv' := [(2, .int (0 : Int32)), (1, .int ((-9) : Int32)), (0, .ref (ad 0))]) hx hb dX7_likedNow_4 rfl hl (by decide) rfl (fun ls hl => ?_)
  refine xlp_w hf (fun (s_ : Int32 × Int32) => match s_ with | (x2_5, x1_5) => ∀ (H : Heap) (locs : List Loc) (ls : Array Slot), xS mS 23 G ad s μ H locs → lv_has ls 3 [(2, .int x2_5), (1, .int x1_5), (0, .ref (ad 0))] → W p l e (rmo 1 22) s m args below meth c H locs 0 0 Q (F0 m 5 ls [])) ?_ _ _ _ M (lv_sub hl [0, 1, 2] rfl)
  intro again5 hagain5 s_ hf
  obtain ⟨x2_5, x1_5⟩ := s_
  try dsimp only at hf ⊢
  intro H locs ls M hl
  refine lv_iload_n hx hb dX7_likedNow_5 rfl (lv_at hl 0 rfl) ?_
  refine lv_aload_n hx hb dX7_likedNow_6 rfl (lv_at hl 2 rfl) ?_
  refine x_getI X M rgm_0 fd_X7_108 rfl dX7_likedNow_7 ?_
  refine lv_icmp_ge (tgt := 56) hx hb dX7_likedNow_10 (by decide) (fun c_10 => ?_) (fun c_10 => ?_)
  · replace hf := hf.1 c_10
    refine lv_iload_n hx hb dX7_likedNow_56 rfl (lv_at hl 1 rfl) ?_
    rw [hQ]
    exact x_iret X M hr hlk dX7_likedNow_57 ⟨hf, rfl⟩
  · replace hf := hf.2 c_10
    refine lv_aload_n hx hb dX7_likedNow_13 rfl (lv_at hl 2 rfl) ?_
    refine lv_iload_n hx hb dX7_likedNow_14 rfl (lv_at hl 0 rfl) ?_
    refine x_ciP (x_rV (As := [.int x2_5]) (rest := []) X M (cm_X7_canLick l G ad hI n x2_5 μ _ hf) mc_X7_canLick mv_X7_canLick lk_X7_160 mn_X7_canLick rgm_0 rfl hl ⟨⟨Nat.le_of_ble_eq_true rfl, Nat.le_of_ble_eq_true rfl⟩, rfl, Nat.le_of_ble_eq_true rfl, Nat.zero_le _, Nat.zero_le _⟩ rfl dX7_likedNow_15) M (fun r_15 H locs hf M => ?_)
    try dsimp only at hf
    refine lv_if_eq (tgt := 50) hx hb dX7_likedNow_18 (by decide) (fun c_18 => ?_) (fun c_18 => ?_)
    · replace hf := hf.1 c_18
      obtain ⟨x2_50, ex2_50⟩ : ∃ y : Int32, y = x2_5 + 1 := ⟨_, rfl⟩
      replace hf := hf x2_50 ex2_50
      refine lv_iinc (v := x2_50) (lv' := [(2, .int x2_50), (1, .int x1_5), (0, .ref (ad 0))]) hx hb dX7_likedNow_50 hl (k := 0) rfl (by rw [ex2_50]; rfl) (by decide) rfl (fun ls hl => ?_)
      refine lv_goto (tgt := 5) hx hb dX7_likedNow_53 (by decide) ?_
      exact hagain5 (x2_50, x1_5) hf _ _ _ M (lv_sub hl [0, 1, 2] rfl)
    · replace hf := hf.2 c_18
      refine lv_iload_n hx hb dX7_likedNow_21 rfl (lv_at hl 1 rfl) ?_
      refine lv_if_lt (tgt := 48) hx hb dX7_likedNow_22 (by decide) (fun c_22 => ?_) (fun c_22 => ?_)
      · replace hf := hf.1 c_22
        refine lv_iload_n hx hb dX7_likedNow_48 rfl (lv_at hl 0 rfl) ?_
        refine lv_istore_n (lv' := [(1, .int x2_5), (2, .int x2_5), (0, .ref (ad 0))]) hx hb dX7_likedNow_49 rfl hl (by decide) rfl (fun ls hl => ?_)
        obtain ⟨x2_50, ex2_50⟩ : ∃ y : Int32, y = x2_5 + 1 := ⟨_, rfl⟩
        replace hf := hf x2_50 ex2_50
        refine lv_iinc (v := x2_50) (lv' := [(2, .int x2_50), (1, .int x2_5), (0, .ref (ad 0))]) hx hb dX7_likedNow_50 hl (k := 1) rfl (by rw [ex2_50]; rfl) (by decide) rfl (fun ls hl => ?_)
        refine lv_goto (tgt := 5) hx hb dX7_likedNow_53 (by decide) ?_
        exact hagain5 (x2_50, x2_5) hf _ _ _ M (lv_sub hl [0, 1, 2] rfl)
      · replace hf := hf.2 c_22
        refine lv_aload_n hx hb dX7_likedNow_25 rfl (lv_at hl 2 rfl) ?_
        refine x_getR (r := 11) X M rgm_0 fd_X7_41 rfl dX7_likedNow_26 ?_
        refine lv_iconst (v := (3 : Int32)) hx hb dX7_likedNow_29 (by decide) ?_
        refine lv_iload_n hx hb dX7_likedNow_30 rfl (lv_at hl 0 rfl) ?_
        refine lv_imul hx hb dX7_likedNow_31 ?_
        refine lv_iconst (v := (2 : Int32)) hx hb dX7_likedNow_32 (by decide) ?_
        refine lv_iadd hx hb dX7_likedNow_33 ?_
        obtain ⟨g_34, hf⟩ := hf
        refine x_ild X M rgm_11 g_34 dX7_likedNow_34 ?_
        refine lv_aload_n hx hb dX7_likedNow_35 rfl (lv_at hl 2 rfl) ?_
        refine x_getR (r := 11) X M rgm_0 fd_X7_41 rfl dX7_likedNow_36 ?_
        refine lv_iconst (v := (3 : Int32)) hx hb dX7_likedNow_39 (by decide) ?_
        refine lv_iload_n hx hb dX7_likedNow_40 rfl (lv_at hl 1 rfl) ?_
        refine lv_imul hx hb dX7_likedNow_41 ?_
        refine lv_iconst (v := (2 : Int32)) hx hb dX7_likedNow_42 (by decide) ?_
        refine lv_iadd hx hb dX7_likedNow_43 ?_
        obtain ⟨g_44, hf⟩ := hf
        refine x_ild X M rgm_11 g_44 dX7_likedNow_44 ?_
        refine lv_icmp_le (tgt := 50) hx hb dX7_likedNow_45 (by decide) (fun c_45 => ?_) (fun c_45 => ?_)
        · replace hf := hf.1 c_45
          obtain ⟨x2_50, ex2_50⟩ : ∃ y : Int32, y = x2_5 + 1 := ⟨_, rfl⟩
          replace hf := hf x2_50 ex2_50
          refine lv_iinc (v := x2_50) (lv' := [(2, .int x2_50), (1, .int x1_5), (0, .ref (ad 0))]) hx hb dX7_likedNow_50 hl (k := 0) rfl (by rw [ex2_50]; rfl) (by decide) rfl (fun ls hl => ?_)
          refine lv_goto (tgt := 5) hx hb dX7_likedNow_53 (by decide) ?_
          exact hagain5 (x2_50, x1_5) hf _ _ _ M (lv_sub hl [0, 1, 2] rfl)
        · replace hf := hf.2 c_45
          refine lv_iload_n hx hb dX7_likedNow_48 rfl (lv_at hl 0 rfl) ?_
          refine lv_istore_n (lv' := [(1, .int x2_5), (2, .int x2_5), (0, .ref (ad 0))]) hx hb dX7_likedNow_49 rfl hl (by decide) rfl (fun ls hl => ?_)
          obtain ⟨x2_50, ex2_50⟩ : ∃ y : Int32, y = x2_5 + 1 := ⟨_, rfl⟩
          replace hf := hf x2_50 ex2_50
          refine lv_iinc (v := x2_50) (lv' := [(2, .int x2_50), (1, .int x2_5), (0, .ref (ad 0))]) hx hb dX7_likedNow_50 hl (k := 1) rfl (by rw [ex2_50]; rfl) (by decide) rfl (fun ls hl => ?_)
          refine lv_goto (tgt := 5) hx hb dX7_likedNow_53 (by decide) ?_
          exact hagain5 (x2_50, x2_5) hf _ _ _ M (lv_sub hl [0, 1, 2] rfl)
def wp_X7_goDay (n : Nat) (a1 : Int32) (μ : xM) (K : xM → Prop) : Prop :=
  wp_X7_rainOn n a1 μ (fun m_2 : xM => xlp (fun (again7 : (Int32 × xM) → Prop) => fun (s_ : Int32 × xM) => match s_ with | (x2_7, m_7) => (((m_7 0 14) ≤ x2_7 → K m_7) ∧ (¬ (m_7 0 14) ≤ x2_7 → wp_X7_likedNow n m_7 (fun r_16 : Int32 => ((r_16 < 0 → (∀ x2_66 : Int32, x2_66 = x2_7 + 1 → again7 (x2_66, m_7))) ∧ (¬ r_16 < 0 → (vp_in (((3 : Int32) * r_16) + (2 : Int32)) 21 ∧ wp_X7_lesser n (2 : Int32) (m_7 11 (((3 : Int32) * r_16) + (2 : Int32)).toNatClampNeg) m_7 (fun r_35 : Int32 => (vp_in (((3 : Int32) * r_16) + (2 : Int32)) 21 ∧ (vp_in (((3 : Int32) * r_16) + (2 : Int32)) 21 ∧ (∀ m_54 : xM, m_54 = xu m_7 11 (((3 : Int32) * r_16) + (2 : Int32)).toNatClampNeg ((m_7 11 (((3 : Int32) * r_16) + (2 : Int32)).toNatClampNeg) - r_35) → (vp_in r_16 7 ∧ (vp_in r_16 7 ∧ (∀ m_65 : xM, m_65 = xu m_54 13 r_16.toNatClampNeg ((m_54 13 r_16.toNatClampNeg) + r_35) → (∀ x2_66 : Int32, x2_66 = x2_7 + 1 → again7 (x2_66, m_65)))))))))))))))) n ((0 : Int32), m_2))
set_option maxHeartbeats 4000000 in
set_option maxRecDepth 100000 in
theorem cm_X7_goDay (l : Launch) (G : xG) (ad : Nat → Nat) (hI : xI 23 ad) (n : Nat) (a1 : Int32) (μ : xM) (K : xM → Prop) (hf : wp_X7_goDay n a1 μ K) : Met l yX7_goDay (Cond.code yX7_goDay cX7_goDay 5 none :: xw_all) (rmo 2 48) (va_Pc [.ref (ad 0), .int a1] (xPre mS 23 G ad μ)) (xQv mS 23 G ad K) 0 0 (xR 23 ad) := by
  refine x_ent (nL := 5) (own := RX7) (by decide) rfl hI (Nat.le_of_ble_eq_true rfl) ?_
  intro p e s m args below meth c H locs ls Q X hr hlk hQ M hl
  have hx := X.1.1
  have hb := X.1.2.1
  have hown := X.1.2.2.2.1
  have hts := X.1.2.2.2.2
  have hl : lv_has ls 5 [(0, .ref (ad 0)), (1, .int a1)] := hl
  unfold wp_X7_goDay at hf
  refine lv_aload_n hx hb dX7_goDay_0 rfl (lv_at hl 0 rfl) ?_
  refine lv_iload_n hx hb dX7_goDay_1 rfl (lv_at hl 1 rfl) ?_
  refine x_cv (x_rV (As := [.int a1]) (rest := []) X M (cm_X7_rainOn l G ad hI n a1 μ _ hf) mc_X7_rainOn mv_X7_rainOn lk_X7_163 mn_X7_rainOn rgm_0 rfl hl ⟨⟨Nat.le_of_ble_eq_true rfl, Nat.le_of_ble_eq_true rfl⟩, rfl, Nat.le_of_ble_eq_true rfl, Nat.zero_le _, Nat.zero_le _⟩ rfl dX7_goDay_2) M (fun m_2 H locs hf M => ?_)
  try dsimp only at hf
  refine lv_iconst (v := (0 : Int32)) hx hb dX7_goDay_5 (by decide) ?_
  refine lv_istore_n (lv' := [(2, .int (0 : Int32)), (0, .ref (ad 0)), (1, .int a1)]) hx hb dX7_goDay_6 rfl hl (by decide) rfl (fun ls hl => ?_)
  refine xlp_w hf (fun (s_ : Int32 × xM) => match s_ with | (x2_7, m_7) => ∀ (H : Heap) (locs : List Loc) (ls : Array Slot), xS mS 23 G ad s m_7 H locs → lv_has ls 5 [(2, .int x2_7), (0, .ref (ad 0))] → W p l e (rmo 2 48) s m args below meth c H locs 0 0 Q (F0 m 7 ls [])) ?_ _ _ _ M (lv_sub hl [0, 1] rfl)
  intro again7 hagain7 s_ hf
  obtain ⟨x2_7, m_7⟩ := s_
  try dsimp only at hf ⊢
  intro H locs ls M hl
  refine lv_iload_n hx hb dX7_goDay_7 rfl (lv_at hl 0 rfl) ?_
  refine lv_aload_n hx hb dX7_goDay_8 rfl (lv_at hl 1 rfl) ?_
  refine x_getI X M rgm_0 fd_X7_138 rfl dX7_goDay_9 ?_
  refine lv_icmp_ge (tgt := 72) hx hb dX7_goDay_12 (by decide) (fun c_12 => ?_) (fun c_12 => ?_)
  · replace hf := hf.1 c_12
    rw [hQ]
    exact x_vret X M hr hlk dX7_goDay_72 hf
  · replace hf := hf.2 c_12
    refine lv_aload_n hx hb dX7_goDay_15 rfl (lv_at hl 1 rfl) ?_
    refine x_ciP (x_rV (As := []) (rest := []) X M (cm_X7_likedNow l G ad hI n m_7 _ hf) mc_X7_likedNow mv_X7_likedNow lk_X7_167 mn_X7_likedNow rgm_0 rfl hl ⟨⟨Nat.le_of_ble_eq_true rfl, Nat.le_of_ble_eq_true rfl⟩, rfl, Nat.le_of_ble_eq_true rfl, Nat.zero_le _, Nat.zero_le _⟩ rfl dX7_goDay_16) M (fun r_16 H locs hf M => ?_)
    try dsimp only at hf
    refine lv_istore_n (lv' := [(3, .int r_16), (2, .int x2_7), (0, .ref (ad 0))]) hx hb dX7_goDay_19 rfl hl (by decide) rfl (fun ls hl => ?_)
    refine lv_iload_n hx hb dX7_goDay_20 rfl (lv_at hl 0 rfl) ?_
    refine lv_if_lt (tgt := 66) hx hb dX7_goDay_21 (by decide) (fun c_21 => ?_) (fun c_21 => ?_)
    · replace hf := hf.1 c_21
      obtain ⟨x2_66, ex2_66⟩ : ∃ y : Int32, y = x2_7 + 1 := ⟨_, rfl⟩
      replace hf := hf x2_66 ex2_66
      refine lv_iinc (v := x2_66) (lv' := [(2, .int x2_66), (3, .int r_16), (0, .ref (ad 0))]) hx hb dX7_goDay_66 hl (k := 1) rfl (by rw [ex2_66]; rfl) (by decide) rfl (fun ls hl => ?_)
      refine lv_goto (tgt := 7) hx hb dX7_goDay_69 (by decide) ?_
      exact hagain7 (x2_66, m_7) hf _ _ _ M (lv_sub hl [0, 2] rfl)
    · replace hf := hf.2 c_21
      refine lv_iconst (v := (2 : Int32)) hx hb dX7_goDay_24 (by decide) ?_
      refine lv_aload_n hx hb dX7_goDay_25 rfl (lv_at hl 2 rfl) ?_
      refine x_getR (r := 11) X M rgm_0 fd_X7_41 rfl dX7_goDay_26 ?_
      refine lv_iconst (v := (3 : Int32)) hx hb dX7_goDay_29 (by decide) ?_
      refine lv_iload_n hx hb dX7_goDay_30 rfl (lv_at hl 0 rfl) ?_
      refine lv_imul hx hb dX7_goDay_31 ?_
      refine lv_iconst (v := (2 : Int32)) hx hb dX7_goDay_32 (by decide) ?_
      refine lv_iadd hx hb dX7_goDay_33 ?_
      obtain ⟨g_34, hf⟩ := hf
      refine x_ild X M rgm_11 g_34 dX7_goDay_34 ?_
      refine x_ciP (x_rS (As := [.int (2 : Int32), .int (m_7 11 (((3 : Int32) * r_16) + (2 : Int32)).toNatClampNeg)]) (rest := []) X M (cm_X7_lesser l G ad hI n (2 : Int32) (m_7 11 (((3 : Int32) * r_16) + (2 : Int32)).toNatClampNeg) m_7 _ hf) mc_X7_lesser ms_X7_lesser lk_X7_157 mn_X7_lesser hl ⟨⟨Nat.le_of_ble_eq_true rfl, Nat.le_of_ble_eq_true rfl⟩, rfl, Nat.le_of_ble_eq_true rfl, Nat.zero_le _, Nat.zero_le _⟩ rfl dX7_goDay_35) M (fun r_35 H locs hf M => ?_)
      try dsimp only at hf
      refine lv_istore (lv' := [(4, .int r_35), (3, .int r_16), (2, .int x2_7), (0, .ref (ad 0))]) hx hb dX7_goDay_38 hl (by decide) rfl (fun ls hl => ?_)
      refine lv_aload_n hx hb dX7_goDay_40 rfl (lv_at hl 3 rfl) ?_
      refine x_getR (r := 11) X M rgm_0 fd_X7_41 rfl dX7_goDay_41 ?_
      refine lv_iconst (v := (3 : Int32)) hx hb dX7_goDay_44 (by decide) ?_
      refine lv_iload_n hx hb dX7_goDay_45 rfl (lv_at hl 1 rfl) ?_
      refine lv_imul hx hb dX7_goDay_46 ?_
      refine lv_iconst (v := (2 : Int32)) hx hb dX7_goDay_47 (by decide) ?_
      refine lv_iadd hx hb dX7_goDay_48 ?_
      refine lv_dup2_11 hx hb dX7_goDay_49 rfl rfl ?_
      obtain ⟨g_50, hf⟩ := hf
      refine x_ild X M rgm_11 g_50 dX7_goDay_50 ?_
      refine lv_iload hx hb dX7_goDay_51 (lv_at hl 0 rfl) ?_
      refine lv_isub hx hb dX7_goDay_53 ?_
      obtain ⟨g_54, hf⟩ := hf
      refine x_ist X M rgm_11 g_54 dX7_goDay_54 (fun m_54 H locs em_54 M => ?_)
      replace hf := hf m_54 em_54
      refine lv_aload_n hx hb dX7_goDay_55 rfl (lv_at hl 3 rfl) ?_
      refine x_getR (r := 13) X M rgm_0 fd_X7_47 rfl dX7_goDay_56 ?_
      refine lv_iload_n hx hb dX7_goDay_59 rfl (lv_at hl 1 rfl) ?_
      refine lv_dup2_11 hx hb dX7_goDay_60 rfl rfl ?_
      obtain ⟨g_61, hf⟩ := hf
      refine x_ild X M rgm_13 g_61 dX7_goDay_61 ?_
      refine lv_iload hx hb dX7_goDay_62 (lv_at hl 0 rfl) ?_
      refine lv_iadd hx hb dX7_goDay_64 ?_
      obtain ⟨g_65, hf⟩ := hf
      refine x_ist X M rgm_13 g_65 dX7_goDay_65 (fun m_65 H locs em_65 M => ?_)
      replace hf := hf m_65 em_65
      obtain ⟨x2_66, ex2_66⟩ : ∃ y : Int32, y = x2_7 + 1 := ⟨_, rfl⟩
      replace hf := hf x2_66 ex2_66
      refine lv_iinc (v := x2_66) (lv' := [(2, .int x2_66), (4, .int r_35), (3, .int r_16), (0, .ref (ad 0))]) hx hb dX7_goDay_66 hl (k := 2) rfl (by rw [ex2_66]; rfl) (by decide) rfl (fun ls hl => ?_)
      refine lv_goto (tgt := 7) hx hb dX7_goDay_69 (by decide) ?_
      exact hagain7 (x2_66, m_65) hf _ _ _ M (lv_sub hl [0, 3] rfl)
def wp_X7_goTo (n : Nat) (a1 : Int32) (μ : xM) (K : xM → Prop) : Prop :=
  wp_X7_begin n μ (fun m_1 : xM => xlp (fun (again6 : (Int32 × xM) → Prop) => fun (s_ : Int32 × xM) => match s_ with | (x2_6, m_6) => ((a1 ≤ x2_6 → K m_6) ∧ (¬ a1 ≤ x2_6 → wp_X7_goDay n x2_6 m_6 (fun m_13 : xM => (∀ x2_16 : Int32, x2_16 = x2_6 + 1 → again6 (x2_16, m_13)))))) n ((0 : Int32), m_1))
set_option maxHeartbeats 4000000 in
set_option maxRecDepth 100000 in
theorem cm_X7_goTo (l : Launch) (G : xG) (ad : Nat → Nat) (hI : xI 23 ad) (n : Nat) (a1 : Int32) (μ : xM) (K : xM → Prop) (hf : wp_X7_goTo n a1 μ K) : Met l yX7_goTo (Cond.code yX7_goTo cX7_goTo 3 none :: xw_all) (rmo 3 72) (va_Pc [.ref (ad 0), .int a1] (xPre mS 23 G ad μ)) (xQv mS 23 G ad K) 0 0 (xR 23 ad) := by
  refine x_ent (nL := 3) (own := RX7) (by decide) rfl hI (Nat.le_of_ble_eq_true rfl) ?_
  intro p e s m args below meth c H locs ls Q X hr hlk hQ M hl
  have hx := X.1.1
  have hb := X.1.2.1
  have hown := X.1.2.2.2.1
  have hts := X.1.2.2.2.2
  have hl : lv_has ls 3 [(0, .ref (ad 0)), (1, .int a1)] := hl
  unfold wp_X7_goTo at hf
  refine lv_aload_n hx hb dX7_goTo_0 rfl (lv_at hl 0 rfl) ?_
  refine x_cv (x_rV (As := []) (rest := []) X M (cm_X7_begin l G ad hI n μ _ hf) mc_X7_begin mv_X7_begin lk_X7_171 mn_X7_begin rgm_0 rfl hl ⟨⟨Nat.le_of_ble_eq_true rfl, Nat.le_of_ble_eq_true rfl⟩, rfl, Nat.le_of_ble_eq_true rfl, Nat.zero_le _, Nat.zero_le _⟩ rfl dX7_goTo_1) M (fun m_1 H locs hf M => ?_)
  try dsimp only at hf
  refine lv_iconst (v := (0 : Int32)) hx hb dX7_goTo_4 (by decide) ?_
  refine lv_istore_n (lv' := [(2, .int (0 : Int32)), (0, .ref (ad 0)), (1, .int a1)]) hx hb dX7_goTo_5 rfl hl (by decide) rfl (fun ls hl => ?_)
  refine xlp_w hf (fun (s_ : Int32 × xM) => match s_ with | (x2_6, m_6) => ∀ (H : Heap) (locs : List Loc) (ls : Array Slot), xS mS 23 G ad s m_6 H locs → lv_has ls 3 [(2, .int x2_6), (0, .ref (ad 0)), (1, .int a1)] → W p l e (rmo 3 72) s m args below meth c H locs 0 0 Q (F0 m 6 ls [])) ?_ _ _ _ M (lv_sub hl [0, 1, 2] rfl)
  intro again6 hagain6 s_ hf
  obtain ⟨x2_6, m_6⟩ := s_
  try dsimp only at hf ⊢
  intro H locs ls M hl
  refine lv_iload_n hx hb dX7_goTo_6 rfl (lv_at hl 0 rfl) ?_
  refine lv_iload_n hx hb dX7_goTo_7 rfl (lv_at hl 2 rfl) ?_
  refine lv_icmp_ge (tgt := 22) hx hb dX7_goTo_8 (by decide) (fun c_8 => ?_) (fun c_8 => ?_)
  · replace hf := hf.1 c_8
    rw [hQ]
    exact x_vret X M hr hlk dX7_goTo_22 hf
  · replace hf := hf.2 c_8
    refine lv_aload_n hx hb dX7_goTo_11 rfl (lv_at hl 1 rfl) ?_
    refine lv_iload_n hx hb dX7_goTo_12 rfl (lv_at hl 0 rfl) ?_
    refine x_cv (x_rV (As := [.int x2_6]) (rest := []) X M (cm_X7_goDay l G ad hI n x2_6 m_6 _ hf) mc_X7_goDay mv_X7_goDay lk_X7_174 mn_X7_goDay rgm_0 rfl hl ⟨⟨Nat.le_of_ble_eq_true rfl, Nat.le_of_ble_eq_true rfl⟩, rfl, Nat.le_of_ble_eq_true rfl, Nat.zero_le _, Nat.zero_le _⟩ rfl dX7_goTo_13) M (fun m_13 H locs hf M => ?_)
    try dsimp only at hf
    obtain ⟨x2_16, ex2_16⟩ : ∃ y : Int32, y = x2_6 + 1 := ⟨_, rfl⟩
    replace hf := hf x2_16 ex2_16
    refine lv_iinc (v := x2_16) (lv' := [(2, .int x2_16), (0, .ref (ad 0)), (1, .int a1)]) hx hb dX7_goTo_16 hl (k := 0) rfl (by rw [ex2_16]; rfl) (by decide) rfl (fun ls hl => ?_)
    refine lv_goto (tgt := 6) hx hb dX7_goTo_19 (by decide) ?_
    exact hagain6 (x2_16, m_13) hf _ _ _ M (lv_sub hl [0, 1, 2] rfl)
def wp_X7_noPart (n : Nat) (a0 : Int32) (μ : xM) (K : Int32 → Prop) : Prop :=
  wp_X7_in n (a0.toInt64) (0 : Int64) (2 : Int64) μ (fun r_6 : Int32 => ((¬ r_6 = 0 → K (0 : Int32)) ∧ (r_6 = 0 → K (1 : Int32))))
set_option maxHeartbeats 4000000 in
set_option maxRecDepth 100000 in
theorem cm_X7_noPart (l : Launch) (G : xG) (ad : Nat → Nat) (hI : xI 23 ad) (n : Nat) (a0 : Int32) (μ : xM) (K : Int32 → Prop) (hf : wp_X7_noPart n a0 μ K) : Met l yX7_noPart (Cond.code yX7_noPart cX7_noPart 1 (some .boolean) :: xw_all) (rmo 1 25) (va_Pc [.int a0] (xPre mS 23 G ad μ)) (xQi mS 23 G ad (fun r u => K r ∧ u = μ)) 0 0 (xR 23 ad) := by
  refine x_ent (nL := 1) (own := RX7) (by decide) rfl hI (Nat.le_of_ble_eq_true rfl) ?_
  intro p e s m args below meth c H locs ls Q X hr hlk hQ M hl
  have hx := X.1.1
  have hb := X.1.2.1
  have hown := X.1.2.2.2.1
  have hts := X.1.2.2.2.2
  have hl : lv_has ls 1 [(0, .int a0)] := hl
  unfold wp_X7_noPart at hf
  refine lv_iload_n hx hb dX7_noPart_0 rfl (lv_at hl 0 rfl) ?_
  refine lv_i2l hx hb dX7_noPart_1 rfl ?_
  refine lv_lconst (v := (0 : Int64)) hx hb dX7_noPart_2 (by decide) ?_
  refine lv_ldc2 (v := (2 : Int64)) hx hb hown (hts _ kc_X7_95) dX7_noPart_3 ?_
  refine x_ciP (x_rS (As := [.long (a0.toInt64), .long (0 : Int64), .long (2 : Int64)]) (rest := []) X M (cm_X7_in l G ad hI n (a0.toInt64) (0 : Int64) (2 : Int64) μ _ hf) mc_X7_in ms_X7_in lk_X7_97 mn_X7_in hl ⟨⟨Nat.le_of_ble_eq_true rfl, Nat.le_of_ble_eq_true rfl⟩, rfl, Nat.le_of_ble_eq_true rfl, Nat.zero_le _, Nat.zero_le _⟩ rfl dX7_noPart_6) M (fun r_6 H locs hf M => ?_)
  try dsimp only at hf
  refine lv_if_ne (tgt := 16) hx hb dX7_noPart_9 (by decide) (fun c_9 => ?_) (fun c_9 => ?_)
  · replace hf := hf.1 c_9
    refine lv_iconst (v := (0 : Int32)) hx hb dX7_noPart_16 (by decide) ?_
    rw [hQ]
    exact x_zret X M hr hlk xb_0 dX7_noPart_17 ⟨hf, rfl⟩
  · replace hf := hf.2 c_9
    refine lv_iconst (v := (1 : Int32)) hx hb dX7_noPart_12 (by decide) ?_
    refine lv_goto (tgt := 17) hx hb dX7_noPart_13 (by decide) ?_
    rw [hQ]
    exact x_zret X M hr hlk xb_1 dX7_noPart_17 ⟨hf, rfl⟩
def wp_X7_grains (n : Nat) (a1 : Int32) (a2 : Int32) (a3 : Int32) (μ : xM) (K : Int32 → xM → Prop) : Prop :=
  wp_X7_noOne n a1 μ (fun r_2 : Int32 => ((¬ r_2 = 0 → K ((-1) : Int32) μ) ∧ (r_2 = 0 → wp_X7_noPart n a2 μ (fun r_9 : Int32 => ((r_9 = 0 → wp_X7_isDawn n a3 μ (fun r_18 : Int32 => ((¬ r_18 = 0 → wp_X7_goTo n a3 μ (fun m_29 : xM => (vp_in (((3 : Int32) * a1) + a2) 21 ∧ K (m_29 11 (((3 : Int32) * a1) + a2).toNatClampNeg) m_29))) ∧ (r_18 = 0 → K ((-2) : Int32) μ)))) ∧ (¬ r_9 = 0 → K ((-1) : Int32) μ))))))
set_option maxHeartbeats 4000000 in
set_option maxRecDepth 100000 in
theorem cm_X7_grains (l : Launch) (G : xG) (ad : Nat → Nat) (hI : xI 23 ad) (n : Nat) (a1 : Int32) (a2 : Int32) (a3 : Int32) (μ : xM) (K : Int32 → xM → Prop) (hf : wp_X7_grains n a1 a2 a3 μ K) : Met l yX7_grains (Cond.code yX7_grains cX7_grains 4 (some .int) :: xw_all) (rmo 4 94) (va_Pc [.ref (ad 0), .int a1, .int a2, .int a3] (xPre mS 23 G ad μ)) (xQi mS 23 G ad K) 0 0 (xR 23 ad) := by
  refine x_ent (nL := 4) (own := RX7) (by decide) rfl hI (Nat.le_of_ble_eq_true rfl) ?_
  intro p e s m args below meth c H locs ls Q X hr hlk hQ M hl
  have hx := X.1.1
  have hb := X.1.2.1
  have hown := X.1.2.2.2.1
  have hts := X.1.2.2.2.2
  have hl : lv_has ls 4 [(0, .ref (ad 0)), (1, .int a1), (2, .int a2), (3, .int a3)] := hl
  unfold wp_X7_grains at hf
  refine lv_aload_n hx hb dX7_grains_0 rfl (lv_at hl 0 rfl) ?_
  refine lv_iload_n hx hb dX7_grains_1 rfl (lv_at hl 1 rfl) ?_
  refine x_ciP (x_rV (As := [.int a1]) (rest := []) X M (cm_X7_noOne l G ad hI n a1 μ _ hf) mc_X7_noOne mv_X7_noOne lk_X7_144 mn_X7_noOne rgm_0 rfl hl ⟨⟨Nat.le_of_ble_eq_true rfl, Nat.le_of_ble_eq_true rfl⟩, rfl, Nat.le_of_ble_eq_true rfl, Nat.zero_le _, Nat.zero_le _⟩ rfl dX7_grains_2) M (fun r_2 H locs hf M => ?_)
  try dsimp only at hf
  refine lv_if_ne (tgt := 15) hx hb dX7_grains_5 (by decide) (fun c_5 => ?_) (fun c_5 => ?_)
  · replace hf := hf.1 c_5
    refine lv_iconst (v := ((-1) : Int32)) hx hb dX7_grains_15 (by decide) ?_
    rw [hQ]
    exact x_iret X M hr hlk dX7_grains_16 hf
  · replace hf := hf.2 c_5
    refine lv_iload_n hx hb dX7_grains_8 rfl (lv_at hl 2 rfl) ?_
    refine x_ciP (x_rS (As := [.int a2]) (rest := []) X M (cm_X7_noPart l G ad hI n a2 μ _ hf) mc_X7_noPart ms_X7_noPart lk_X7_177 mn_X7_noPart hl ⟨⟨Nat.le_of_ble_eq_true rfl, Nat.le_of_ble_eq_true rfl⟩, rfl, Nat.le_of_ble_eq_true rfl, Nat.zero_le _, Nat.zero_le _⟩ rfl dX7_grains_9) M (fun r_9 H locs hf M => ?_)
    try dsimp only at hf
    refine lv_if_eq (tgt := 17) hx hb dX7_grains_12 (by decide) (fun c_12 => ?_) (fun c_12 => ?_)
    · replace hf := hf.1 c_12
      refine lv_iload_n hx hb dX7_grains_17 rfl (lv_at hl 3 rfl) ?_
      refine x_ciP (x_rS (As := [.int a3]) (rest := []) X M (cm_X7_isDawn l G ad hI n a3 μ _ hf) mc_X7_isDawn ms_X7_isDawn lk_X7_180 mn_X7_isDawn hl ⟨⟨Nat.le_of_ble_eq_true rfl, Nat.le_of_ble_eq_true rfl⟩, rfl, Nat.le_of_ble_eq_true rfl, Nat.zero_le _, Nat.zero_le _⟩ rfl dX7_grains_18) M (fun r_18 H locs hf M => ?_)
      try dsimp only at hf
      refine lv_if_ne (tgt := 27) hx hb dX7_grains_21 (by decide) (fun c_21 => ?_) (fun c_21 => ?_)
      · replace hf := hf.1 c_21
        refine lv_aload_n hx hb dX7_grains_27 rfl (lv_at hl 0 rfl) ?_
        refine lv_iload_n hx hb dX7_grains_28 rfl (lv_at hl 3 rfl) ?_
        refine x_cv (x_rV (As := [.int a3]) (rest := []) X M (cm_X7_goTo l G ad hI n a3 μ _ hf) mc_X7_goTo mv_X7_goTo lk_X7_183 mn_X7_goTo rgm_0 rfl hl ⟨⟨Nat.le_of_ble_eq_true rfl, Nat.le_of_ble_eq_true rfl⟩, rfl, Nat.le_of_ble_eq_true rfl, Nat.zero_le _, Nat.zero_le _⟩ rfl dX7_grains_29) M (fun m_29 H locs hf M => ?_)
        try dsimp only at hf
        refine lv_aload_n hx hb dX7_grains_32 rfl (lv_at hl 0 rfl) ?_
        refine x_getR (r := 11) X M rgm_0 fd_X7_41 rfl dX7_grains_33 ?_
        refine lv_iconst (v := (3 : Int32)) hx hb dX7_grains_36 (by decide) ?_
        refine lv_iload_n hx hb dX7_grains_37 rfl (lv_at hl 1 rfl) ?_
        refine lv_imul hx hb dX7_grains_38 ?_
        refine lv_iload_n hx hb dX7_grains_39 rfl (lv_at hl 2 rfl) ?_
        refine lv_iadd hx hb dX7_grains_40 ?_
        obtain ⟨g_41, hf⟩ := hf
        refine x_ild X M rgm_11 g_41 dX7_grains_41 ?_
        rw [hQ]
        exact x_iret X M hr hlk dX7_grains_42 hf
      · replace hf := hf.2 c_21
        refine lv_bipush (v := ((-2) : Int32)) hx hb dX7_grains_24 (by decide) ?_
        rw [hQ]
        exact x_iret X M hr hlk dX7_grains_26 hf
    · replace hf := hf.2 c_12
      refine lv_iconst (v := ((-1) : Int32)) hx hb dX7_grains_15 (by decide) ?_
      rw [hQ]
      exact x_iret X M hr hlk dX7_grains_16 hf
