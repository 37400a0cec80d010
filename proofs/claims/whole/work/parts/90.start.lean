theorem zl_exit {i L : Nat} (hL : L ≤ 384) (h : ¬ (Int32.ofNat L - (6 : Int32) < nI i)) (hi : i ≤ L) : i + 6 ≤ L := by
  have e : (nI L - nI 6).toInt = (L : Int) - (6 : Nat) := pk_sub_toInt (by omega) (by decide)
  have e2 : (nI i).toInt = (i : Int) := nI_toInt (by omega)
  have h2 : ¬ ((nI L - nI 6).toInt < (nI i).toInt) := fun q => h (Int32.lt_iff_toInt_lt.mpr q)
  rw [e, e2] at h2
  omega
set_option maxHeartbeats 4000000 in
set_option maxRecDepth 100000 in
theorem law_loop {p : Program} {l : Launch} {e : Env} {s : State} {m : MethodId} {below : List Frame} {meth : Method} {c : Code} {b L : Nat} {xs : Nat → Int32} {G : xG} {adC adM : Nat → Nat} (hL : L ≤ 384) (C0 : lw_At p s m meth c b L xs) (Z : zC G adC adM p m c s b) :
    ∀ (n i : Nat), i ≤ L → L < i + n → ∀ (μC μM : xM) (H : Heap) (locs : List Loc) (ls : Array Slot), rl μC μM → zS G adC adM s μC μM H locs → lv_has ls 4 [(3, .int (nI i)), (2, .ref (adM 0)), (1, .ref (adC 0)), (0, .ref b)] → W p l e room_1 s m #[Value.ref b] below meth c H locs 600000 7302249 (lw_Z below #[Value.ref b] s) (F0 m 18 ls []) := by
  obtain ⟨hx, hb, hr0, hml, hown, hts, hX, hbl, hlocks, hgv⟩ := id C0
  have hbA : ¬ (fun q : Nat => s.heap.size ≤ q) b := Nat.not_le.mpr hbl
  intro n
  induction n with
  | zero => intro i h1 h2; exact absurd h2 (by omega)
  | succ n ih =>
    intro i hi hin μC μM H locs ls hr M hl
    refine lv_iload_n hx hb dL_law_18 rfl (lv_at hl 0 rfl) ?_
    refine lv_aload_n hx hb dL_law_19 rfl (lv_at hl 3 rfl) ?_
    refine va_slen hx hb hX hbl hbA M.2.2 dL_law_20 ?_
    refine lv_bipush (v := (6 : Int32)) hx hb dL_law_21 (by decide) ?_
    refine lv_isub hx hb dL_law_23 ?_
    refine lv_icmp_gt (tgt := 1276) hx hb dL_law_24 (by decide) (fun _ => ?_) (fun c_24 => ?_)
    · refine lv_iconst (v := 1) hx hb dL_law_1276 (by decide) ?_
      refine va_forget (fun q hq => M.2.2.2.2 q hq) ?_
      exact lw_ret hx hb hr0 hlocks dL_law_1277
    · have h6 : i + 6 ≤ L := zl_exit hL c_24 hi
      refine lv_aload_n hx hb dL_law_27 rfl (lv_at hl 3 rfl) ?_
      refine lv_iload_n hx hb dL_law_28 rfl (lv_at hl 0 rfl) ?_
      refine va_sld hx hb hX hbl hbA M.2.2 (vp_in_nI (by omega) (by omega)) dL_law_29 ?_
      refine lv_bipush (v := (31 : Int32)) hx hb dL_law_30 (by decide) ?_
      refine lv_iand hx hb dL_law_32 ?_
      obtain ⟨j, hj, ej⟩ := pk_andE (xs (nI i).toNatClampNeg) (m := (31 : Int32)) 5 (by decide)
      rw [ej]
      have again : zA p l e s m below meth c b i G adC adM (lw_Z below #[Value.ref b] s) := fun μC μM H locs ls hr M hl => ih (i + 6) h6 (by omega) μC μM H locs ls hr M hl
      match j, hj with
      | 0, _ => exact lv_tableIn (off := 143) (tgt := 176) hx hb dL_law_33 (by decide) (by decide) (by rfl) (by decide) (lc_statues hL C0 Z h6 again hr M hl)
      | 1, _ => exact lv_tableIn (off := 196) (tgt := 229) hx hb dL_law_33 (by decide) (by decide) (by rfl) (by decide) (lc_ofStatue hL C0 Z h6 again hr M hl)
      | 2, _ => exact lv_tableIn (off := 229) (tgt := 262) hx hb dL_law_33 (by decide) (by decide) (by rfl) (by decide) (lc_look hL C0 Z h6 again hr M hl)
      | 3, _ => exact lv_tableIn (off := 262) (tgt := 295) hx hb dL_law_33 (by decide) (by decide) (by rfl) (by decide) (lc_over hL C0 Z h6 again hr M hl)
      | 4, _ => exact lv_tableIn (off := 295) (tgt := 328) hx hb dL_law_33 (by decide) (by decide) (by rfl) (by decide) (lc_fence hL C0 Z h6 again hr M hl)
      | 5, _ => exact lv_tableIn (off := 344) (tgt := 377) hx hb dL_law_33 (by decide) (by decide) (by rfl) (by decide) (lc_rain hL C0 Z h6 again hr M hl)
      | 6, _ => exact lv_tableIn (off := 387) (tgt := 420) hx hb dL_law_33 (by decide) (by decide) (by rfl) (by decide) (lc_deer hL C0 Z h6 again hr M hl)
      | 7, _ => exact lv_tableIn (off := 410) (tgt := 443) hx hb dL_law_33 (by decide) (by decide) (by rfl) (by decide) (lc_grains hL C0 Z h6 again hr M hl)
      | 8, _ => exact lv_tableIn (off := 453) (tgt := 486) hx hb dL_law_33 (by decide) (by decide) (by rfl) (by decide) (lc_lost hL C0 Z h6 again hr M hl)
      | 9, _ => exact lv_tableIn (off := 496) (tgt := 529) hx hb dL_law_33 (by decide) (by decide) (by rfl) (by decide) (lc_gone hL C0 Z h6 again hr M hl)
      | 10, _ => exact lv_tableIn (off := 529) (tgt := 562) hx hb dL_law_33 (by decide) (by decide) (by rfl) (by decide) (lc_liked hL C0 Z h6 again hr M hl)
      | 11, _ => exact lv_tableIn (off := 552) (tgt := 585) hx hb dL_law_33 (by decide) (by decide) (by rfl) (by decide) (lc_lasts hL C0 Z h6 again hr M hl)
      | 12, _ => exact lv_tableIn (off := 576) (tgt := 609) hx hb dL_law_33 (by decide) (by decide) (by rfl) (by decide) (lc_umbrellas hL C0 Z h6 again hr M hl)
      | 13, _ => exact lv_tableIn (off := 609) (tgt := 642) hx hb dL_law_33 (by decide) (by decide) (by rfl) (by decide) (lc_turn hL C0 Z h6 again hr M hl)
      | 14, _ => exact lv_tableIn (off := 632) (tgt := 665) hx hb dL_law_33 (by decide) (by decide) (by rfl) (by decide) (lc_roofs hL C0 Z h6 again hr M hl)
      | 15, _ => exact lv_tableIn (off := 665) (tgt := 698) hx hb dL_law_33 (by decide) (by decide) (by rfl) (by decide) (lc_takenFor hL C0 Z h6 again hr M hl)
      | 16, _ => exact lv_tableIn (off := 728) (tgt := 761) hx hb dL_law_33 (by decide) (by decide) (by rfl) (by decide) (lc_whose hL C0 Z h6 again hr M hl)
      | 17, _ => exact lv_tableIn (off := 761) (tgt := 794) hx hb dL_law_33 (by decide) (by decide) (by rfl) (by decide) (lc_reading hL C0 Z h6 again hr M hl)
      | 18, _ => exact lv_tableIn (off := 814) (tgt := 847) hx hb dL_law_33 (by decide) (by decide) (by rfl) (by decide) (lc_back hL C0 Z h6 again hr M hl)
      | 19, _ => exact lv_tableIn (off := 837) (tgt := 870) hx hb dL_law_33 (by decide) (by decide) (by rfl) (by decide) (lc_rains hL C0 Z h6 again hr M hl)
      | 20, _ => exact lv_tableIn (off := 860) (tgt := 893) hx hb dL_law_33 (by decide) (by decide) (by rfl) (by decide) (lc_cast hL C0 Z h6 again hr M hl)
      | 21, _ => exact lv_tableIn (off := 893) (tgt := 926) hx hb dL_law_33 (by decide) (by decide) (by rfl) (by decide) (lc_sheet hL C0 Z h6 again hr M hl)
      | 22, _ => exact lv_tableIn (off := 936) (tgt := 969) hx hb dL_law_33 (by decide) (by decide) (by rfl) (by decide) (lc_lose hL C0 Z h6 again hr M hl)
      | 23, _ => exact lv_tableIn (off := 959) (tgt := 992) hx hb dL_law_33 (by decide) (by decide) (by rfl) (by decide) (lc_put hL C0 Z h6 again hr M hl)
      | 24, _ => exact lv_tableIn (off := 1002) (tgt := 1035) hx hb dL_law_33 (by decide) (by decide) (by rfl) (by decide) (lc_cell hL C0 Z h6 again hr M hl)
      | 25, _ => exact lv_tableIn (off := 1046) (tgt := 1079) hx hb dL_law_33 (by decide) (by decide) (by rfl) (by decide) (lc_copy hL C0 Z h6 again hr M hl)
      | 26, _ => exact lv_tableIn (off := 1109) (tgt := 1142) hx hb dL_law_33 (by decide) (by decide) (by rfl) (by decide) (lc_tell hL C0 Z h6 again hr M hl)
      | 27, _ => exact lv_tableIn (off := 1132) (tgt := 1165) hx hb dL_law_33 (by decide) (by decide) (by rfl) (by decide) (lc_bow hL C0 Z h6 again hr M hl)
      | 28, _ => exact lv_tableIn (off := 1155) (tgt := 1188) hx hb dL_law_33 (by decide) (by decide) (by rfl) (by decide) (lc_as hL C0 Z h6 again hr M hl)
      | 29, _ => exact lv_tableIn (off := 1188) (tgt := 1221) hx hb dL_law_33 (by decide) (by decide) (by rfl) (by decide) (lc_trace hL C0 Z h6 again hr M hl)
      | 30, _ => exact lv_tableIn (off := 1201) (tgt := 1234) hx hb dL_law_33 (by decide) (by decide) (by rfl) (by decide) (lc_fault hL C0 Z h6 again hr M hl)
      | 31, _ => exact lv_tableIn (off := 1214) (tgt := 1247) hx hb dL_law_33 (by decide) (by decide) (by rfl) (by decide) (lc_many hL C0 Z h6 again hr M hl)
      | j + 32, h => exact absurd h (by omega)
theorem zw_one {D : va_G} {cl : List vw_C} {H : Heap} {x : Nat × va_E} (h : va_at D cl x H) : va_P D cl [x] H := by
  intro k q hk
  have hz : k < 1 := (List.getElem?_eq_some_iff.mp hk).1
  rw [show k = 0 by omega] at hk
  cases hk
  exact h
theorem zd_one {A : Nat → Prop} {x : Nat × va_E} (h : A x.1) : va_D A [x] := by
  refine ⟨fun i j p q hi hj _ => ?_, fun k q hk => ?_⟩
  · have h1 : i < 1 := (List.getElem?_eq_some_iff.mp hi).1
    have h2 : j < 1 := (List.getElem?_eq_some_iff.mp hj).1
    omega
  · have hz : k < 1 := (List.getElem?_eq_some_iff.mp hk).1
    rw [show k = 0 by omega] at hk
    cases hk
    exact h
theorem va_A_one {q a sz : Nat} {e0 : va_E} (h : va_A [(a, e0)] sz q) : q = a ∨ sz ≤ q := by
  rcases h with ⟨k, e, hk⟩ | h
  · have hz : k < 1 := (List.getElem?_eq_some_iff.mp hk).1
    rw [show k = 0 by omega] at hk
    cases hk
    exact Or.inl rfl
  · exact Or.inr h
set_option maxHeartbeats 4000000 in
set_option maxRecDepth 100000 in
/-- YOUR PART: from the entry, for every script of at most 384 ints, the law comes to its end with true -/
theorem whole_start {p : Program} {e : Env} {s : State} {m : MethodId} {below : List Frame} {meth : Method} {c : Code} (l : Launch) (hflags : l.flags = flags0) {b L : Nat} {xs : Nat → Int32} (hL : L ≤ 384) (C0 : lw_At p s m meth c b L xs) : W p l e room_1 s m #[Value.ref b] below meth c s.heap [] 0 0 (lw_Z below #[Value.ref b] s) (entryFrame m ([Value.ref b] : List Value).toArray 4) := by
  obtain ⟨hx, hb, hr0, hml, hown, hts, hX, hbl, hlocks, hgv⟩ := id C0
  have htA : ∀ w ∈ xw_all, w.before #[Value.ref b] s = true := fun w h => hts w (List.mem_filter.mp h).1
  have hNW : xw_NW s := xw_NW.of hts
  have hA : ∀ q : Nat, s.heap.size ≤ q → (fun q : Nat => s.heap.size ≤ q) q := fun _ h => h
  have hbA : ¬ (fun q : Nat => s.heap.size ≤ q) b := Nat.not_le.mpr hbl
  obtain ⟨c0, i0, hKn0⟩ := u_known (C := RX1) (T := TX1) (N := 5) (n := 5) htA in_X1 (htA _ ki_X1)
  obtain ⟨c1, i1, hKn1⟩ := u_known (C := RX2) (T := TX2) (N := 4) (n := 4) htA in_X2 (htA _ ki_X2)
  obtain ⟨c2, i2, hKn2⟩ := u_known (C := RX3) (T := TX3) (N := 5) (n := 5) htA in_X3 (htA _ ki_X3)
  obtain ⟨c3, i3, hKn3⟩ := u_known (C := RX5) (T := TX5) (N := 9) (n := 9) htA in_X5 (htA _ ki_X5)
  obtain ⟨c4, i4, hKn4⟩ := u_known (C := RX6) (T := TX6) (N := 5) (n := 5) htA in_X6 (htA _ ki_X6)
  obtain ⟨c5, i5, hKn5⟩ := u_known (C := RX7) (T := TX7) (N := 29) (n := 29) htA in_X7 (htA _ ki_X7)
  obtain ⟨cI, kI, pI, fI1, fI2, fI3⟩ := Cond.arrayClass_spec (htA _ ka_int)
  obtain ⟨cZ, kZ, pZ, fZ1, fZ2, fZ3⟩ := Cond.arrayClass_spec (htA _ ka_boolean)
  obtain ⟨pS, cS', kS, fS1, -, fS3, fS4, fS5⟩ := Cond.arrayOver_spec (hts _ ko_X2)
  obtain ⟨pT, cT, kT, fT1, -, fT3, fT4, fT5⟩ := Cond.arrayOver_spec (hts _ ko_X3)
  obtain ⟨G, hK⟩ : ∃ G : xG, va_K G.1 vwCl (xT G) s := by
    refine ⟨((fun k => if k = 0 then c0 else if k = 1 then c1 else if k = 2 then c2 else if k = 3 then c3 else if k = 4 then c4 else c5, fun k => if k = 0 then i0 else if k = 1 then i1 else if k = 2 then i2 else if k = 3 then i3 else if k = 4 then i4 else i5), fun k => if k = 0 then cI else if k = 1 then cZ else if k = 2 then cS' else cT), ?_, ?_⟩
    · intro k q hq
      match k, hq with
      | 0, hq => cases hq; exact hKn0
      | 1, hq => cases hq; exact hKn1
      | 2, hq => cases hq; exact hKn2
      | 3, hq => cases hq; exact hKn3
      | 4, hq => cases hq; exact hKn4
      | 5, hq => cases hq; exact hKn5
      | k + 6, hq => simp [vwCl] at hq
    · intro k q hq
      match k, hq with
      | 0, hq => cases hq; exact ⟨fun N z => ⟨fun k h => (by cases h), kI, fI2, pI, fI3⟩, fI1⟩
      | 1, hq => cases hq; exact ⟨fun N z => ⟨fun k h => (by cases h), kZ, fZ2, pZ, fZ3⟩, fZ1⟩
      | 2, hq => cases hq; exact ⟨fun N z => ⟨fun k h => (by cases h), kS, fS3, pS, fS4⟩, kS, pS, fS3, fS4, fS1, fS5⟩
      | 3, hq => cases hq; exact ⟨fun N z => ⟨fun k h => (by cases h), kT, fT3, pT, fT4⟩, kT, pT, fT3, fT4, fT1, fT5⟩
      | k + 4, hq => simp [xT] at hq
  have hyK : yK G s := ⟨hK, hNW, hts _ ko_X2, hts _ ko_X3⟩
  have hyK : yK G s := hyK
  have hS : va_S (fun q : Nat => s.heap.size ≤ q) s.heap s.heap [] := va_S.rf
  have hP : va_P G.1 vwCl [] s.heap := fun k q h => by simp at h
  have hD : va_D (fun q : Nat => s.heap.size ≤ q) [] := ⟨fun i j p q h => by simp at h, fun k q h => by simp at h⟩
  have hl := lv_entry ([.ref b]) (n := 4) (Nat.le_of_ble_eq_true rfl)
  rw [lg_entry_eq]
  generalize (lg_sl ([.ref b]) ++ List.replicate (4 - (lg_sl ([.ref b])).length) Slot.unset).toArray = ls at hl ⊢
  have hl : lv_has ls 4 [(0, .ref b)] := hl
  refine va_new (ci := 4) (fs := [.null, .null, .null, .int 0, .int 0]) (C := RX6) (T := TX6) (N := 5) hx hb htA in_X6 tyX6 tyX6_ok hown (htA _ kl_L_7) (htA _ ki_X6) (htA _ kn_X6) hK hP hD hS hA rfl (fun j hj => by rcases (show j = 0 ∨ j = 1 ∨ j = 2 ∨ j = 3 ∨ j = 4 by omega) with rfl | rfl | rfl | rfl | rfl <;> rfl) (Nat.le_of_ble_eq_true rfl) (Nat.le_of_ble_eq_true rfl) dL_law_0 (fun q0 H hP hD hS => ?_)
  have hP : va_P G.1 vwCl [(q0, .inr (4, [.null, .null, .null, .int 0, .int 0]))] H := hP
  have hD : va_D (fun q : Nat => s.heap.size ≤ q) [(q0, .inr (4, [.null, .null, .null, .int 0, .int 0]))] := hD
  refine lv_dup hx hb dL_law_3 rfl ?_
  have hF := va_free (wc := [(q0, .inr (4, [.null, .null, .null, .int 0, .int 0]))]) hD hS hA [0] rfl
  refine va_callv (va_runI (As := []) (rest := [.ref q0]) ⟨hx, hb, hml, hown, htA⟩ (cm_X6_init l G q0 H.size) (cwI 0 htA (x_gw mc_X6_init) rfl rfl rfl (htA _ mc_X6_init.2.1) (htA _ lk_L_9) (htA _ mi_X6_init) rfl ⟨mc_X6_init.2.2.1, mc_X6_init.2.2.2, mn_X6_init⟩ ⟨Nat.le_of_ble_eq_true rfl, Nat.le_of_ble_eq_true rfl⟩) ⟨yPre_blind, fun U hU hW => ⟨rfl, by rw [hU], by rw [hU]; exact hP, hyK.warm hW, hD.weaken (fun _ _ _ _ => trivial)⟩⟩ rfl rfl hl.1 rfl (lv_room (Nat.le_of_ble_eq_true rfl)) dL_law_4 ⟨Nat.le_of_ble_eq_true rfl, Nat.le_of_ble_eq_true rfl⟩) hS (fun q _ h => hF q h) hF (fun adC t H1 locs ht hvm hw hB hz1 hk1 hS => ?_)
  obtain ⟨hIC, hAC, hC0⟩ := hw
  rw [ht] at hB
  have hfC : ∀ i, i < 36 → s.heap.size ≤ adC i := fun i hi => hF _ (hAC i hi)
  refine lv_astore_n (lv' := [(1, .ref q0), (0, .ref b)]) hx hb dL_law_7 rfl hl (by decide) rfl (fun ls hl => ?_)
  have hDC : va_D (fun q : Nat => s.heap.size ≤ q) (xW cS 36 G adC (fun _ _ => 0)) := (xW_D hIC).weaken (fun k q hq _ => by obtain ⟨h1, h2⟩ := xW_lt hq; rw [h2]; exact hfC k h1)
  refine va_new (ci := 5) (fs := [.int 0, .int 0, .null, .null, .null, .null, .null, .int 0, .int 0, .null, .null, .null, .null, .null, .int 0, .null, .null, .null, .null, .int 0, .null, .null, .null, .null, .null, .null, .null, .null, .int 0]) (C := RX7) (T := TX7) (N := 29) hx hb htA in_X7 tyX7 tyX7_ok hown (htA _ kl_L_10) (htA _ ki_X7) (htA _ kn_X7) hK hB hDC hS hA rfl (fun j hj => by rcases (show j = 0 ∨ j = 1 ∨ j = 2 ∨ j = 3 ∨ j = 4 ∨ j = 5 ∨ j = 6 ∨ j = 7 ∨ j = 8 ∨ j = 9 ∨ j = 10 ∨ j = 11 ∨ j = 12 ∨ j = 13 ∨ j = 14 ∨ j = 15 ∨ j = 16 ∨ j = 17 ∨ j = 18 ∨ j = 19 ∨ j = 20 ∨ j = 21 ∨ j = 22 ∨ j = 23 ∨ j = 24 ∨ j = 25 ∨ j = 26 ∨ j = 27 ∨ j = 28 by omega) with rfl | rfl | rfl | rfl | rfl | rfl | rfl | rfl | rfl | rfl | rfl | rfl | rfl | rfl | rfl | rfl | rfl | rfl | rfl | rfl | rfl | rfl | rfl | rfl | rfl | rfl | rfl | rfl | rfl <;> rfl) (Nat.le_of_ble_eq_true rfl) (Nat.le_of_ble_eq_true rfl) dL_law_8 (fun q1 H2 hP2 hD2 hS => ?_)
  have hPC : va_P G.1 vwCl (xW cS 36 G adC (fun _ _ => 0)) H2 := fun k q hq => hP2 k q (by rw [List.getElem?_append_left (List.getElem?_eq_some_iff.mp hq).1]; exact hq)
  have h36 : (xW cS 36 G adC (fun _ _ => 0)).length = 36 := by simp [xW]
  have e36 : (xW cS 36 G adC (fun _ _ => 0) ++ [(q1, .inr (5, [.int 0, .int 0, .null, .null, .null, .null, .null, .int 0, .int 0, .null, .null, .null, .null, .null, .int 0, .null, .null, .null, .null, .int 0, .null, .null, .null, .null, .null, .null, .null, .null, .int 0]))])[36]? = some (q1, .inr (5, [.int 0, .int 0, .null, .null, .null, .null, .null, .int 0, .int 0, .null, .null, .null, .null, .null, .int 0, .null, .null, .null, .null, .int 0, .null, .null, .null, .null, .null, .null, .null, .null, .int 0])) := by rw [List.getElem?_append_right (by omega), h36]; rfl
  have hPm : va_P G.1 vwCl [(q1, .inr (5, [.int 0, .int 0, .null, .null, .null, .null, .null, .int 0, .int 0, .null, .null, .null, .null, .null, .int 0, .null, .null, .null, .null, .int 0, .null, .null, .null, .null, .null, .null, .null, .null, .int 0]))] H2 := zw_one (hP2 36 _ e36)
  have hq1 : s.heap.size ≤ q1 := hD2.2 36 _ e36
  have hne : ∀ i, i < 36 → adC i ≠ q1 := by
    intro i hi h
    have e1 : (xW cS 36 G adC (fun _ _ => 0) ++ [(q1, .inr (5, [.int 0, .int 0, .null, .null, .null, .null, .null, .int 0, .int 0, .null, .null, .null, .null, .null, .int 0, .null, .null, .null, .null, .int 0, .null, .null, .null, .null, .null, .null, .null, .null, .int 0]))])[i]? = some (adC i, xe cS G adC (fun _ _ => 0) i) := by rw [List.getElem?_append_left (by omega)]; exact xW_get hi
    have := hD2.1 _ _ _ _ e1 e36 h
    omega
  have hltC : ∀ i, i < 36 → adC i < H2.size := fun i hi => (hPC i _ (xW_get hi)).lt
  refine lv_dup hx hb dL_law_11 rfl ?_
  have hDm : va_D (fun q : Nat => s.heap.size ≤ q) [(q1, .inr (5, [.int 0, .int 0, .null, .null, .null, .null, .null, .int 0, .int 0, .null, .null, .null, .null, .null, .int 0, .null, .null, .null, .null, .int 0, .null, .null, .null, .null, .null, .null, .null, .null, .int 0]))] := zd_one hq1
  have hFm := va_free (wc := [(q1, .inr (5, [.int 0, .int 0, .null, .null, .null, .null, .null, .int 0, .int 0, .null, .null, .null, .null, .null, .int 0, .null, .null, .null, .null, .int 0, .null, .null, .null, .null, .null, .null, .null, .null, .int 0]))]) hDm hS hA [0] rfl
  refine va_callv (va_runI (As := []) (rest := [.ref q1]) ⟨hx, hb, hml, hown, htA⟩ (cm_X7_init l G q1 H2.size) (cwI 0 htA (x_gw mc_X7_init) rfl rfl rfl (htA _ mc_X7_init.2.1) (htA _ lk_L_12) (htA _ mi_X7_init) rfl ⟨mc_X7_init.2.2.1, mc_X7_init.2.2.2, mn_X7_init⟩ ⟨Nat.le_of_ble_eq_true rfl, Nat.le_of_ble_eq_true rfl⟩) ⟨yPre_blind, fun U hU hW => ⟨rfl, by rw [hU], by rw [hU]; exact hPm, hyK.warm hW, hDm.weaken (fun _ _ _ _ => trivial)⟩⟩ rfl rfl hl.1 rfl (lv_room (Nat.le_of_ble_eq_true rfl)) dL_law_12 ⟨Nat.le_of_ble_eq_true rfl, Nat.le_of_ble_eq_true rfl⟩) hS (fun q _ h => hFm q h) hFm (fun adM t2 H3 locs ht2 hvm2 hw2 hB2 hz2 hk2 hS => ?_)
  obtain ⟨hIM, hAM, hM0⟩ := hw2
  rw [ht2] at hB2
  have hfM : ∀ i, i < 23 → s.heap.size ≤ adM i := fun i hi => hFm _ (hAM i hi)
  have hCM : ∀ i j, i < 36 → j < 23 → adC i ≠ adM j := by
    intro i j hi hj h
    have h1 := hltC i hi
    rcases va_A_one (hAM j hj) with h2 | h2
    · exact hne i hi (h.trans h2)
    · omega
  have hPC3 : va_P G.1 vwCl (xW cS 36 G adC (fun _ _ => 0)) H3 := by
    refine hPC.kept (fun k q hq => hk2 q.1 (hPC k q hq).lt (fun h => ?_))
    obtain ⟨h1, h2⟩ := xW_lt hq
    have h3 := hltC k h1
    rcases va_A_one h with h4 | h4
    · exact hne k h1 (h2.symm.trans h4)
    · omega
  have Z : zC G adC adM p m c s b := ⟨⟨hx, hb, hml, hown, htA⟩, hK, hNW, hIC, hIM, hCM, hfC, hfM⟩
  subst hC0
  subst hM0
  refine lv_astore_n (lv' := [(2, .ref (adM 0)), (1, .ref (adC 0)), (0, .ref b)]) hx hb dL_law_15 rfl hl (by decide) rfl (fun ls hl => ?_)
  refine lv_iconst (v := nI 0) hx hb dL_law_16 (by decide) ?_
  refine lv_istore_n (lv' := [(3, .int (nI 0)), (2, .ref (adM 0)), (1, .ref (adC 0)), (0, .ref b)]) hx hb dL_law_17 rfl hl (by decide) rfl (fun ls hl => ?_)
  refine W.widen (k := 600000) (n := 7302249) (Nat.le_of_ble_eq_true rfl) (Nat.le_of_ble_eq_true rfl) ?_
  exact law_loop hL C0 Z (L + 1) 0 (Nat.zero_le L) (by omega) _ _ _ _ _ rl_0 ⟨hPC3, hB2, hS⟩ hl
-- ===== YOUR PART ENDS =====
set_option maxHeartbeats 4000000 in
theorem lw_walk (l : Launch) (hflags : l.flags = flags0) (b : Addr) (xs : List Int32) : MetFree l x (headSpec (Jvm.Cond.code x code maxLocals ret :: tables_1) room_1) (lw_P b xs) (fun _ _ _ _ _ => True) lw_Q := by
  refine MetFree.of_bodyS (code := code) (maxLocals := maxLocals) (ret := ret) (by decide) ?_ ?_
  · intro args s m h hn
    obtain ⟨meth, c, h1, h2, h3, h4, h5, h6, -, -⟩ := Cond.code_spec hn (atoms_spec (ws := Jvm.Cond.code x code maxLocals ret :: tables_1) h _ List.mem_cons_self)
    exact ⟨meth, c, h1, h2, h3, h4, h5, h6⟩
  · intro p e s m args below meth c s₁ B hml0 hP _
    obtain ⟨rfl, hx, hbd, hgv⟩ := hP
    obtain ⟨scr, harrAt, hlist, hof, hsmall⟩ := hx
    obtain ⟨hcb, hkn, -, -⟩ := State.arrayAt?_spec harrAt
    have hown : s.vm.findClass R_law = some m.cls := findClass_of_methodNamed B.named
    have hts0 : ∀ c ∈ (Jvm.Cond.code x code maxLocals ret :: tables_1), c.before #[Value.ref b] s = true := atoms_spec (ws := Jvm.Cond.code x code maxLocals ret :: tables_1) B.pre
    have hts : ∀ w ∈ lw_tbl, w.before #[Value.ref b] s = true := k2_hts_sels lw_privs (fun w hw => hts0 w (List.mem_cons_of_mem _ hw)) lw_privs_ok
    have hml : c.maxLocals = 4 := B.maxLocals_eq (hts0 _ List.mem_cons_self)
    have X₀ : Stand p l e room_1 s m #[Value.ref b] below meth c s₁ [] 0 0 := Stand.of_body B
    have hh0 : s₁.heap = s.heap := by rw [B.state]; rfl
    have hsz : scr.slots.size = xs.length := by rw [← Array.length_toList, hlist, List.length_map]
    have hval : ∀ j : Nat, j < xs.length → scr.slots[j]? = some (.int (xs.getD j 0)) := fun j hj => by
      rw [← Array.getElem?_toList, hlist]
      simp [hj]
    have hbl : b < s.heap.size := (Array.getElem?_eq_some_iff.mp hcb).1
    have hX : va_X b xs.length (fun j => xs.getD j 0) s s.heap := ⟨scr, hcb, hof, hkn, hsz, hval⟩
    have K : W p l e room_1 s m #[Value.ref b] below meth c s₁.heap [] 0 0 (lw_Z below #[Value.ref b] s) (entryFrame m ([Value.ref b] : List Value).toArray 4) := by
      rw [hh0]
      exact whole_start l hflags hbd ⟨B.exec, B.bytes, B.returns, hml, hown, hts, hX, hbl, B.notSynchronized, hgv⟩
    obtain ⟨t, a1, o, b1, b2, b3⟩ := K s₁ rfl X₀
    exact ⟨t, o, a1, b1, b2, b3⟩
theorem lw_pre_spec {args : Array Value} {s : State} (h : (Jvm.Cond.and given_1 narrow_1).before args s = true) (hr : rest_1_c.before args s = true) : ∃ (b : Addr) (xs : List Int32), lw_P b xs args s := by
  have hs := flat_of_before _ h
  have hq := flat_of_before _ hr
  have hc : (Cond.count 1).before args s = true := hs _ (by decide +kernel)
  have harr : (Cond.arrayOf (.arg 0) .int).before args s = true := hs _ (by decide +kernel)
  have hle : (Cond.le (.length (.arg 0)) (.int 384)).before args s = true := hs _ (by decide +kernel)
  have hlen : (Cond.isInt (.length (.arg 0))).before args s = true := hq _ (by decide +kernel)
  have hall : (Cond.all (.arg 0) (.isInt (.elem (.arg 0) (.index 0)))).before args s = true := hq _ (by decide +kernel)
  obtain ⟨b, xs, hb, hx⟩ := State.ints_of_pre rfl harr hlen hall
  have hsm : xs.length < 2 ^ 31 := hx.choose_spec.2.2.2
  have hev : (Term.length (.arg 0)).eval args s none [] s = some (.int xs.length.toInt32) := hx.length_eval hb
  have hv := Cond.le_ints hev (show (Term.int 384).eval args s none [] s = some (.int 384) from rfl)
  have hd : xs.length.toInt32 ≤ 384 := by
    simpa [Cond.before, Cond.holds, hv] using hle
  have hN : xs.length ≤ 384 := (Int32.ofNat_le_ofNat hsm (by decide)).mp (show Int32.ofNat xs.length ≤ Int32.ofNat 384 from hd)
  exact ⟨b, xs, Cond.one_arg hc (show args[0]? = some (.ref b) from hb), hx, hN, h⟩
theorem lw_comes (l : Launch) (hflags : l.flags = flags0) : Comes l x (Jvm.Cond.code x code maxLocals ret :: tables_1) room_1 (fun tb e args s => Calls_1 tb e args s ∧ rest_1 tb e args s ∧ Pre_1 tb e args s)
    (fun _ _ args s o t => lw_Q args s o t) := by
  intro p e ha hc hk s m args below hf hfit hheap happ hpre
  obtain ⟨b, xs, hP⟩ := lw_pre_spec hpre.2.2 hpre.2.1
  obtain ⟨k, o, h1, h2, h3, hQ⟩ := lw_walk l hflags b xs p e ha hc hk s m args below hf ((Spec.applies_iff_loose hf).mp happ).1 hP trivial
  exact ⟨k, o, h1, h2, h3, hQ⟩
theorem lw_frame {s t : State} {o : Outcome} {args : Array Value} (h : Framed s o t [] 600000 7302249) :
    Framed s o t (fieldLocs frame_1_writes args s ++ arrayLocs frame_1_arrays args s ++ staticLocs frame_1_statics s) 600000 7302249 := h
theorem lw_limb (L : Cond) (hL : ∀ (args : Array Value) (s t : State), L.after args s (.returned (some (.int 1))) t = true) :
    ArmFor flags0 classFile x code maxLocals ret World_1 tables_1 room_1 Calls_1 rest_1 Pre_1
      (fun tb e a s o t => postC L tb e a s o t ∧ Framed s o t (fieldLocs frame_1_writes a s ++ arrayLocs frame_1_arrays a s ++ staticLocs frame_1_statics s) 600000 7302249) := by
  intro l hflags _ _ p e ha hc hk s m args below hf hfit hheap happ hpre
  obtain ⟨k, o, h1, h2, h3, rfl, hF⟩ := lw_comes l hflags p e ha hc hk s m args below hf hfit hheap happ hpre
  exact ⟨k, _, h1, h2, h3, hL args s _, lw_frame hF⟩
theorem i_vc : Claimed_1_1 ∧ Claimed_1_2 := ⟨lw_limb limb_1_1 (fun args s t => by simp [limb_1_1, Cond.after, Cond.holds, Cond.value]), lw_limb limb_1_2 (fun args s t => Cond.after_iff.mpr (by
  first | (rw [show limb_1_2 = Cond.eq .result (.int 1) from rfl, Cond.eq_ints (x := 1) (y := 1) rfl rfl]; simp; done) | (simp [limb_1_2, Cond.value, Term.eval]; done)))⟩

