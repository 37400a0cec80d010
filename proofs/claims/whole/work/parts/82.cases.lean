set_option maxHeartbeats 4000000 in
set_option maxRecDepth 100000 in
theorem lc_statues {p : Program} {l : Launch} {e : Env} {s : State} {m : MethodId} {below : List Frame} {meth : Method} {c : Code} {b L i : Nat} {xs : Nat → Int32} {G : xG} {adC adM : Nat → Nat} {Q : State → Prop} {μC μM : xM} {H : Heap} {locs : List Loc} {ls : Array Slot} (hL : L ≤ 384) (C0 : lw_At p s m meth c b L xs) (Z : zC G adC adM p m c s b) (hi : i + 6 ≤ L) (again : zA p l e s m below meth c b i G adC adM Q) (hr : rl μC μM) (M : zS G adC adM s μC μM H locs) (hl : lv_has ls 4 [(3, .int (nI i)), (2, .ref (adM 0)), (1, .ref (adC 0)), (0, .ref b)]) : W p l e room_1 s m #[Value.ref b] below meth c H locs 600000 7302249 Q (F0 m 176 ls []) := by
  obtain ⟨hx, hb, -, -, -, -, hX, hbl, -, -⟩ := id C0
  have hbA : ¬ (fun q : Nat => s.heap.size ≤ q) b := Nat.not_le.mpr hbl
  have hf := st_statues hr (xs (nI i + (1 : Int32)).toNatClampNeg) (xs (nI i + (2 : Int32)).toNatClampNeg) (xs (nI i + (3 : Int32)).toNatClampNeg) (xs (nI i + (4 : Int32)).toNatClampNeg)
  refine lv_aload_n hx hb dL_law_176 rfl (lv_at hl 2 rfl) ?_
  refine lv_aload_n hx hb dL_law_177 rfl (lv_at hl 3 rfl) ?_
  refine lv_iload_n hx hb dL_law_178 rfl (lv_at hl 0 rfl) ?_
  refine lv_iconst (v := (1 : Int32)) hx hb dL_law_179 (by decide) ?_
  refine lv_iadd hx hb dL_law_180 ?_
  refine va_sld hx hb hX hbl hbA M.2.2 (zi (c := 1) hi (by decide) hL) dL_law_181 ?_
  refine lv_aload_n hx hb dL_law_182 rfl (lv_at hl 3 rfl) ?_
  refine lv_iload_n hx hb dL_law_183 rfl (lv_at hl 0 rfl) ?_
  refine lv_iconst (v := (2 : Int32)) hx hb dL_law_184 (by decide) ?_
  refine lv_iadd hx hb dL_law_185 ?_
  refine va_sld hx hb hX hbl hbA M.2.2 (zi (c := 2) hi (by decide) hL) dL_law_186 ?_
  refine lv_aload_n hx hb dL_law_187 rfl (lv_at hl 3 rfl) ?_
  refine lv_iload_n hx hb dL_law_188 rfl (lv_at hl 0 rfl) ?_
  refine lv_iconst (v := (3 : Int32)) hx hb dL_law_189 (by decide) ?_
  refine lv_iadd hx hb dL_law_190 ?_
  refine va_sld hx hb hX hbl hbA M.2.2 (zi (c := 3) hi (by decide) hL) dL_law_191 ?_
  refine lv_aload_n hx hb dL_law_192 rfl (lv_at hl 3 rfl) ?_
  refine lv_iload_n hx hb dL_law_193 rfl (lv_at hl 0 rfl) ?_
  refine lv_iconst (v := (4 : Int32)) hx hb dL_law_194 (by decide) ?_
  refine lv_iadd hx hb dL_law_195 ?_
  refine va_sld hx hb hX hbl hbA M.2.2 (zi (c := 4) hi (by decide) hL) dL_law_196 ?_
  refine z_ciC (z_rV (As := [.int (xs (nI i + (1 : Int32)).toNatClampNeg), .int (xs (nI i + (2 : Int32)).toNatClampNeg), .int (xs (nI i + (3 : Int32)).toNatClampNeg), .int (xs (nI i + (4 : Int32)).toNatClampNeg)]) (rest := []) Z M.1 (cm_X6_statues l G adC Z.2.2.2.1 2000 (xs (nI i + (1 : Int32)).toNatClampNeg) (xs (nI i + (2 : Int32)).toNatClampNeg) (xs (nI i + (3 : Int32)).toNatClampNeg) (xs (nI i + (4 : Int32)).toNatClampNeg) μC _ hf) mc_X6_statues mv_X6_statues lk_L_13 mn_X6_statues rgc_0 rfl hl ⟨⟨Nat.le_of_ble_eq_true rfl, Nat.le_of_ble_eq_true rfl⟩, rfl, Nat.le_of_ble_eq_true rfl, Nat.le_of_ble_eq_true rfl, Nat.le_of_ble_eq_true rfl⟩ rfl dL_law_197) Z M (fun r1_ uC_ H locs hf M => ?_)
  try dsimp only at hf
  refine lv_aload_n hx hb dL_law_200 rfl (lv_at hl 1 rfl) ?_
  refine lv_aload_n hx hb dL_law_201 rfl (lv_at hl 3 rfl) ?_
  refine lv_iload_n hx hb dL_law_202 rfl (lv_at hl 0 rfl) ?_
  refine lv_iconst (v := (1 : Int32)) hx hb dL_law_203 (by decide) ?_
  refine lv_iadd hx hb dL_law_204 ?_
  refine va_sld hx hb hX hbl hbA M.2.2 (zi (c := 1) hi (by decide) hL) dL_law_205 ?_
  refine lv_aload_n hx hb dL_law_206 rfl (lv_at hl 3 rfl) ?_
  refine lv_iload_n hx hb dL_law_207 rfl (lv_at hl 0 rfl) ?_
  refine lv_iconst (v := (2 : Int32)) hx hb dL_law_208 (by decide) ?_
  refine lv_iadd hx hb dL_law_209 ?_
  refine va_sld hx hb hX hbl hbA M.2.2 (zi (c := 2) hi (by decide) hL) dL_law_210 ?_
  refine lv_aload_n hx hb dL_law_211 rfl (lv_at hl 3 rfl) ?_
  refine lv_iload_n hx hb dL_law_212 rfl (lv_at hl 0 rfl) ?_
  refine lv_iconst (v := (3 : Int32)) hx hb dL_law_213 (by decide) ?_
  refine lv_iadd hx hb dL_law_214 ?_
  refine va_sld hx hb hX hbl hbA M.2.2 (zi (c := 3) hi (by decide) hL) dL_law_215 ?_
  refine lv_aload_n hx hb dL_law_216 rfl (lv_at hl 3 rfl) ?_
  refine lv_iload_n hx hb dL_law_217 rfl (lv_at hl 0 rfl) ?_
  refine lv_iconst (v := (4 : Int32)) hx hb dL_law_218 (by decide) ?_
  refine lv_iadd hx hb dL_law_219 ?_
  refine va_sld hx hb hX hbl hbA M.2.2 (zi (c := 4) hi (by decide) hL) dL_law_220 ?_
  refine z_ciM (z_rV (As := [.int (xs (nI i + (1 : Int32)).toNatClampNeg), .int (xs (nI i + (2 : Int32)).toNatClampNeg), .int (xs (nI i + (3 : Int32)).toNatClampNeg), .int (xs (nI i + (4 : Int32)).toNatClampNeg)]) (rest := [.int r1_]) Z M.2.1 (cm_X7_statues l G adM Z.2.2.2.2.1 2000 (xs (nI i + (1 : Int32)).toNatClampNeg) (xs (nI i + (2 : Int32)).toNatClampNeg) (xs (nI i + (3 : Int32)).toNatClampNeg) (xs (nI i + (4 : Int32)).toNatClampNeg) μM _ hf) mc_X7_statues mv_X7_statues lk_L_17 mn_X7_statues rgm_0 rfl hl ⟨⟨Nat.le_of_ble_eq_true rfl, Nat.le_of_ble_eq_true rfl⟩, rfl, Nat.le_of_ble_eq_true rfl, Nat.le_of_ble_eq_true rfl, Nat.le_of_ble_eq_true rfl⟩ rfl dL_law_221) Z M (fun r2_ uM_ H locs hf M => ?_)
  try dsimp only at hf
  refine lv_icmp_eq (tgt := 1270) hx hb dL_law_224 (by decide) (fun _ => ?_) (fun c_ => absurd hf.1 c_)
  refine lv_iinc (v := nI (i + 6)) (lv' := [(3, .int (nI (i + 6))), (2, .ref (adM 0)), (1, .ref (adC 0)), (0, .ref b)]) hx hb dL_law_1270 hl (k := 0) rfl (nI_add i 6) (by decide) rfl (fun ls hl => ?_)
  refine lv_goto (tgt := 18) hx hb dL_law_1273 (by decide) ?_
  exact again uC_ uM_ _ _ _ hf.2 M hl
set_option maxHeartbeats 4000000 in
set_option maxRecDepth 100000 in
theorem lc_ofStatue {p : Program} {l : Launch} {e : Env} {s : State} {m : MethodId} {below : List Frame} {meth : Method} {c : Code} {b L i : Nat} {xs : Nat → Int32} {G : xG} {adC adM : Nat → Nat} {Q : State → Prop} {μC μM : xM} {H : Heap} {locs : List Loc} {ls : Array Slot} (hL : L ≤ 384) (C0 : lw_At p s m meth c b L xs) (Z : zC G adC adM p m c s b) (hi : i + 6 ≤ L) (again : zA p l e s m below meth c b i G adC adM Q) (hr : rl μC μM) (M : zS G adC adM s μC μM H locs) (hl : lv_has ls 4 [(3, .int (nI i)), (2, .ref (adM 0)), (1, .ref (adC 0)), (0, .ref b)]) : W p l e room_1 s m #[Value.ref b] below meth c H locs 600000 7302249 Q (F0 m 229 ls []) := by
  obtain ⟨hx, hb, -, -, -, -, hX, hbl, -, -⟩ := id C0
  have hbA : ¬ (fun q : Nat => s.heap.size ≤ q) b := Nat.not_le.mpr hbl
  have hf := st_ofStatue hr (xs (nI i + (1 : Int32)).toNatClampNeg) (xs (nI i + (2 : Int32)).toNatClampNeg)
  refine lv_aload_n hx hb dL_law_229 rfl (lv_at hl 2 rfl) ?_
  refine lv_aload_n hx hb dL_law_230 rfl (lv_at hl 3 rfl) ?_
  refine lv_iload_n hx hb dL_law_231 rfl (lv_at hl 0 rfl) ?_
  refine lv_iconst (v := (1 : Int32)) hx hb dL_law_232 (by decide) ?_
  refine lv_iadd hx hb dL_law_233 ?_
  refine va_sld hx hb hX hbl hbA M.2.2 (zi (c := 1) hi (by decide) hL) dL_law_234 ?_
  refine lv_aload_n hx hb dL_law_235 rfl (lv_at hl 3 rfl) ?_
  refine lv_iload_n hx hb dL_law_236 rfl (lv_at hl 0 rfl) ?_
  refine lv_iconst (v := (2 : Int32)) hx hb dL_law_237 (by decide) ?_
  refine lv_iadd hx hb dL_law_238 ?_
  refine va_sld hx hb hX hbl hbA M.2.2 (zi (c := 2) hi (by decide) hL) dL_law_239 ?_
  refine z_ciCP (z_rV (As := [.int (xs (nI i + (1 : Int32)).toNatClampNeg), .int (xs (nI i + (2 : Int32)).toNatClampNeg)]) (rest := []) Z M.1 (cm_X6_ofStatue l G adC Z.2.2.2.1 2000 (xs (nI i + (1 : Int32)).toNatClampNeg) (xs (nI i + (2 : Int32)).toNatClampNeg) μC _ hf) mc_X6_ofStatue mv_X6_ofStatue lk_L_18 mn_X6_ofStatue rgc_0 rfl hl ⟨⟨Nat.le_of_ble_eq_true rfl, Nat.le_of_ble_eq_true rfl⟩, rfl, Nat.le_of_ble_eq_true rfl, Nat.le_of_ble_eq_true rfl, Nat.le_of_ble_eq_true rfl⟩ rfl dL_law_240) Z M (fun r1_ H locs hf M => ?_)
  try dsimp only at hf
  refine lv_aload_n hx hb dL_law_243 rfl (lv_at hl 1 rfl) ?_
  refine lv_aload_n hx hb dL_law_244 rfl (lv_at hl 3 rfl) ?_
  refine lv_iload_n hx hb dL_law_245 rfl (lv_at hl 0 rfl) ?_
  refine lv_iconst (v := (1 : Int32)) hx hb dL_law_246 (by decide) ?_
  refine lv_iadd hx hb dL_law_247 ?_
  refine va_sld hx hb hX hbl hbA M.2.2 (zi (c := 1) hi (by decide) hL) dL_law_248 ?_
  refine lv_aload_n hx hb dL_law_249 rfl (lv_at hl 3 rfl) ?_
  refine lv_iload_n hx hb dL_law_250 rfl (lv_at hl 0 rfl) ?_
  refine lv_iconst (v := (2 : Int32)) hx hb dL_law_251 (by decide) ?_
  refine lv_iadd hx hb dL_law_252 ?_
  refine va_sld hx hb hX hbl hbA M.2.2 (zi (c := 2) hi (by decide) hL) dL_law_253 ?_
  refine z_ciMP (z_rV (As := [.int (xs (nI i + (1 : Int32)).toNatClampNeg), .int (xs (nI i + (2 : Int32)).toNatClampNeg)]) (rest := [.int r1_]) Z M.2.1 (cm_X7_ofStatue l G adM Z.2.2.2.2.1 2000 (xs (nI i + (1 : Int32)).toNatClampNeg) (xs (nI i + (2 : Int32)).toNatClampNeg) μM _ hf) mc_X7_ofStatue mv_X7_ofStatue lk_L_22 mn_X7_ofStatue rgm_0 rfl hl ⟨⟨Nat.le_of_ble_eq_true rfl, Nat.le_of_ble_eq_true rfl⟩, rfl, Nat.le_of_ble_eq_true rfl, Nat.le_of_ble_eq_true rfl, Nat.le_of_ble_eq_true rfl⟩ rfl dL_law_254) Z M (fun r2_ H locs hf M => ?_)
  try dsimp only at hf
  refine lv_icmp_eq (tgt := 1270) hx hb dL_law_257 (by decide) (fun _ => ?_) (fun c_ => absurd hf.1 c_)
  refine lv_iinc (v := nI (i + 6)) (lv' := [(3, .int (nI (i + 6))), (2, .ref (adM 0)), (1, .ref (adC 0)), (0, .ref b)]) hx hb dL_law_1270 hl (k := 0) rfl (nI_add i 6) (by decide) rfl (fun ls hl => ?_)
  refine lv_goto (tgt := 18) hx hb dL_law_1273 (by decide) ?_
  exact again μC μM _ _ _ hf.2 M hl
set_option maxHeartbeats 4000000 in
set_option maxRecDepth 100000 in
theorem lc_look {p : Program} {l : Launch} {e : Env} {s : State} {m : MethodId} {below : List Frame} {meth : Method} {c : Code} {b L i : Nat} {xs : Nat → Int32} {G : xG} {adC adM : Nat → Nat} {Q : State → Prop} {μC μM : xM} {H : Heap} {locs : List Loc} {ls : Array Slot} (hL : L ≤ 384) (C0 : lw_At p s m meth c b L xs) (Z : zC G adC adM p m c s b) (hi : i + 6 ≤ L) (again : zA p l e s m below meth c b i G adC adM Q) (hr : rl μC μM) (M : zS G adC adM s μC μM H locs) (hl : lv_has ls 4 [(3, .int (nI i)), (2, .ref (adM 0)), (1, .ref (adC 0)), (0, .ref b)]) : W p l e room_1 s m #[Value.ref b] below meth c H locs 600000 7302249 Q (F0 m 262 ls []) := by
  obtain ⟨hx, hb, -, -, -, -, hX, hbl, -, -⟩ := id C0
  have hbA : ¬ (fun q : Nat => s.heap.size ≤ q) b := Nat.not_le.mpr hbl
  have hf := st_look hr (xs (nI i + (1 : Int32)).toNatClampNeg) (xs (nI i + (2 : Int32)).toNatClampNeg)
  refine lv_aload_n hx hb dL_law_262 rfl (lv_at hl 2 rfl) ?_
  refine lv_aload_n hx hb dL_law_263 rfl (lv_at hl 3 rfl) ?_
  refine lv_iload_n hx hb dL_law_264 rfl (lv_at hl 0 rfl) ?_
  refine lv_iconst (v := (1 : Int32)) hx hb dL_law_265 (by decide) ?_
  refine lv_iadd hx hb dL_law_266 ?_
  refine va_sld hx hb hX hbl hbA M.2.2 (zi (c := 1) hi (by decide) hL) dL_law_267 ?_
  refine lv_aload_n hx hb dL_law_268 rfl (lv_at hl 3 rfl) ?_
  refine lv_iload_n hx hb dL_law_269 rfl (lv_at hl 0 rfl) ?_
  refine lv_iconst (v := (2 : Int32)) hx hb dL_law_270 (by decide) ?_
  refine lv_iadd hx hb dL_law_271 ?_
  refine va_sld hx hb hX hbl hbA M.2.2 (zi (c := 2) hi (by decide) hL) dL_law_272 ?_
  refine z_ciC (z_rV (As := [.int (xs (nI i + (1 : Int32)).toNatClampNeg), .int (xs (nI i + (2 : Int32)).toNatClampNeg)]) (rest := []) Z M.1 (cm_X6_look l G adC Z.2.2.2.1 2000 (xs (nI i + (1 : Int32)).toNatClampNeg) (xs (nI i + (2 : Int32)).toNatClampNeg) μC _ hf) mc_X6_look mv_X6_look lk_L_23 mn_X6_look rgc_0 rfl hl ⟨⟨Nat.le_of_ble_eq_true rfl, Nat.le_of_ble_eq_true rfl⟩, rfl, Nat.le_of_ble_eq_true rfl, Nat.le_of_ble_eq_true rfl, Nat.le_of_ble_eq_true rfl⟩ rfl dL_law_273) Z M (fun r1_ uC_ H locs hf M => ?_)
  try dsimp only at hf
  refine lv_aload_n hx hb dL_law_276 rfl (lv_at hl 1 rfl) ?_
  refine lv_aload_n hx hb dL_law_277 rfl (lv_at hl 3 rfl) ?_
  refine lv_iload_n hx hb dL_law_278 rfl (lv_at hl 0 rfl) ?_
  refine lv_iconst (v := (1 : Int32)) hx hb dL_law_279 (by decide) ?_
  refine lv_iadd hx hb dL_law_280 ?_
  refine va_sld hx hb hX hbl hbA M.2.2 (zi (c := 1) hi (by decide) hL) dL_law_281 ?_
  refine lv_aload_n hx hb dL_law_282 rfl (lv_at hl 3 rfl) ?_
  refine lv_iload_n hx hb dL_law_283 rfl (lv_at hl 0 rfl) ?_
  refine lv_iconst (v := (2 : Int32)) hx hb dL_law_284 (by decide) ?_
  refine lv_iadd hx hb dL_law_285 ?_
  refine va_sld hx hb hX hbl hbA M.2.2 (zi (c := 2) hi (by decide) hL) dL_law_286 ?_
  refine z_ciM (z_rV (As := [.int (xs (nI i + (1 : Int32)).toNatClampNeg), .int (xs (nI i + (2 : Int32)).toNatClampNeg)]) (rest := [.int r1_]) Z M.2.1 (cm_X7_look l G adM Z.2.2.2.2.1 2000 (xs (nI i + (1 : Int32)).toNatClampNeg) (xs (nI i + (2 : Int32)).toNatClampNeg) μM _ hf) mc_X7_look mv_X7_look lk_L_26 mn_X7_look rgm_0 rfl hl ⟨⟨Nat.le_of_ble_eq_true rfl, Nat.le_of_ble_eq_true rfl⟩, rfl, Nat.le_of_ble_eq_true rfl, Nat.le_of_ble_eq_true rfl, Nat.le_of_ble_eq_true rfl⟩ rfl dL_law_287) Z M (fun r2_ uM_ H locs hf M => ?_)
  try dsimp only at hf
  refine lv_icmp_eq (tgt := 1270) hx hb dL_law_290 (by decide) (fun _ => ?_) (fun c_ => absurd hf.1 c_)
  refine lv_iinc (v := nI (i + 6)) (lv' := [(3, .int (nI (i + 6))), (2, .ref (adM 0)), (1, .ref (adC 0)), (0, .ref b)]) hx hb dL_law_1270 hl (k := 0) rfl (nI_add i 6) (by decide) rfl (fun ls hl => ?_)
  refine lv_goto (tgt := 18) hx hb dL_law_1273 (by decide) ?_
  exact again uC_ uM_ _ _ _ hf.2 M hl
set_option maxHeartbeats 4000000 in
set_option maxRecDepth 100000 in
theorem lc_over {p : Program} {l : Launch} {e : Env} {s : State} {m : MethodId} {below : List Frame} {meth : Method} {c : Code} {b L i : Nat} {xs : Nat → Int32} {G : xG} {adC adM : Nat → Nat} {Q : State → Prop} {μC μM : xM} {H : Heap} {locs : List Loc} {ls : Array Slot} (hL : L ≤ 384) (C0 : lw_At p s m meth c b L xs) (Z : zC G adC adM p m c s b) (hi : i + 6 ≤ L) (again : zA p l e s m below meth c b i G adC adM Q) (hr : rl μC μM) (M : zS G adC adM s μC μM H locs) (hl : lv_has ls 4 [(3, .int (nI i)), (2, .ref (adM 0)), (1, .ref (adC 0)), (0, .ref b)]) : W p l e room_1 s m #[Value.ref b] below meth c H locs 600000 7302249 Q (F0 m 295 ls []) := by
  obtain ⟨hx, hb, -, -, -, -, hX, hbl, -, -⟩ := id C0
  have hbA : ¬ (fun q : Nat => s.heap.size ≤ q) b := Nat.not_le.mpr hbl
  have hf := st_over hr (xs (nI i + (1 : Int32)).toNatClampNeg) (xs (nI i + (2 : Int32)).toNatClampNeg)
  refine lv_aload_n hx hb dL_law_295 rfl (lv_at hl 2 rfl) ?_
  refine lv_aload_n hx hb dL_law_296 rfl (lv_at hl 3 rfl) ?_
  refine lv_iload_n hx hb dL_law_297 rfl (lv_at hl 0 rfl) ?_
  refine lv_iconst (v := (1 : Int32)) hx hb dL_law_298 (by decide) ?_
  refine lv_iadd hx hb dL_law_299 ?_
  refine va_sld hx hb hX hbl hbA M.2.2 (zi (c := 1) hi (by decide) hL) dL_law_300 ?_
  refine lv_aload_n hx hb dL_law_301 rfl (lv_at hl 3 rfl) ?_
  refine lv_iload_n hx hb dL_law_302 rfl (lv_at hl 0 rfl) ?_
  refine lv_iconst (v := (2 : Int32)) hx hb dL_law_303 (by decide) ?_
  refine lv_iadd hx hb dL_law_304 ?_
  refine va_sld hx hb hX hbl hbA M.2.2 (zi (c := 2) hi (by decide) hL) dL_law_305 ?_
  refine z_ciC (z_rV (As := [.int (xs (nI i + (1 : Int32)).toNatClampNeg), .int (xs (nI i + (2 : Int32)).toNatClampNeg)]) (rest := []) Z M.1 (cm_X6_over l G adC Z.2.2.2.1 2000 (xs (nI i + (1 : Int32)).toNatClampNeg) (xs (nI i + (2 : Int32)).toNatClampNeg) μC _ hf) mc_X6_over mv_X6_over lk_L_27 mn_X6_over rgc_0 rfl hl ⟨⟨Nat.le_of_ble_eq_true rfl, Nat.le_of_ble_eq_true rfl⟩, rfl, Nat.le_of_ble_eq_true rfl, Nat.le_of_ble_eq_true rfl, Nat.le_of_ble_eq_true rfl⟩ rfl dL_law_306) Z M (fun r1_ uC_ H locs hf M => ?_)
  try dsimp only at hf
  refine lv_aload_n hx hb dL_law_309 rfl (lv_at hl 1 rfl) ?_
  refine lv_aload_n hx hb dL_law_310 rfl (lv_at hl 3 rfl) ?_
  refine lv_iload_n hx hb dL_law_311 rfl (lv_at hl 0 rfl) ?_
  refine lv_iconst (v := (1 : Int32)) hx hb dL_law_312 (by decide) ?_
  refine lv_iadd hx hb dL_law_313 ?_
  refine va_sld hx hb hX hbl hbA M.2.2 (zi (c := 1) hi (by decide) hL) dL_law_314 ?_
  refine lv_aload_n hx hb dL_law_315 rfl (lv_at hl 3 rfl) ?_
  refine lv_iload_n hx hb dL_law_316 rfl (lv_at hl 0 rfl) ?_
  refine lv_iconst (v := (2 : Int32)) hx hb dL_law_317 (by decide) ?_
  refine lv_iadd hx hb dL_law_318 ?_
  refine va_sld hx hb hX hbl hbA M.2.2 (zi (c := 2) hi (by decide) hL) dL_law_319 ?_
  refine z_ciM (z_rV (As := [.int (xs (nI i + (1 : Int32)).toNatClampNeg), .int (xs (nI i + (2 : Int32)).toNatClampNeg)]) (rest := [.int r1_]) Z M.2.1 (cm_X7_over l G adM Z.2.2.2.2.1 2000 (xs (nI i + (1 : Int32)).toNatClampNeg) (xs (nI i + (2 : Int32)).toNatClampNeg) μM _ hf) mc_X7_over mv_X7_over lk_L_30 mn_X7_over rgm_0 rfl hl ⟨⟨Nat.le_of_ble_eq_true rfl, Nat.le_of_ble_eq_true rfl⟩, rfl, Nat.le_of_ble_eq_true rfl, Nat.le_of_ble_eq_true rfl, Nat.le_of_ble_eq_true rfl⟩ rfl dL_law_320) Z M (fun r2_ uM_ H locs hf M => ?_)
  try dsimp only at hf
  refine lv_icmp_eq (tgt := 1270) hx hb dL_law_323 (by decide) (fun _ => ?_) (fun c_ => absurd hf.1 c_)
  refine lv_iinc (v := nI (i + 6)) (lv' := [(3, .int (nI (i + 6))), (2, .ref (adM 0)), (1, .ref (adC 0)), (0, .ref b)]) hx hb dL_law_1270 hl (k := 0) rfl (nI_add i 6) (by decide) rfl (fun ls hl => ?_)
  refine lv_goto (tgt := 18) hx hb dL_law_1273 (by decide) ?_
  exact again uC_ uM_ _ _ _ hf.2 M hl
set_option maxHeartbeats 4000000 in
set_option maxRecDepth 100000 in
theorem lc_fence {p : Program} {l : Launch} {e : Env} {s : State} {m : MethodId} {below : List Frame} {meth : Method} {c : Code} {b L i : Nat} {xs : Nat → Int32} {G : xG} {adC adM : Nat → Nat} {Q : State → Prop} {μC μM : xM} {H : Heap} {locs : List Loc} {ls : Array Slot} (hL : L ≤ 384) (C0 : lw_At p s m meth c b L xs) (Z : zC G adC adM p m c s b) (hi : i + 6 ≤ L) (again : zA p l e s m below meth c b i G adC adM Q) (hr : rl μC μM) (M : zS G adC adM s μC μM H locs) (hl : lv_has ls 4 [(3, .int (nI i)), (2, .ref (adM 0)), (1, .ref (adC 0)), (0, .ref b)]) : W p l e room_1 s m #[Value.ref b] below meth c H locs 600000 7302249 Q (F0 m 328 ls []) := by
  obtain ⟨hx, hb, -, -, -, -, hX, hbl, -, -⟩ := id C0
  have hbA : ¬ (fun q : Nat => s.heap.size ≤ q) b := Nat.not_le.mpr hbl
  refine lv_aload_n hx hb dL_law_328 rfl (lv_at hl 2 rfl) ?_
  refine lv_aload_n hx hb dL_law_329 rfl (lv_at hl 3 rfl) ?_
  refine lv_iload_n hx hb dL_law_330 rfl (lv_at hl 0 rfl) ?_
  refine lv_iconst (v := (1 : Int32)) hx hb dL_law_331 (by decide) ?_
  refine lv_iadd hx hb dL_law_332 ?_
  refine va_sld hx hb hX hbl hbA M.2.2 (zi (c := 1) hi (by decide) hL) dL_law_333 ?_
  refine lv_aload_n hx hb dL_law_334 rfl (lv_at hl 3 rfl) ?_
  refine lv_iload_n hx hb dL_law_335 rfl (lv_at hl 0 rfl) ?_
  refine lv_iconst (v := (2 : Int32)) hx hb dL_law_336 (by decide) ?_
  refine lv_iadd hx hb dL_law_337 ?_
  refine va_sld hx hb hX hbl hbA M.2.2 (zi (c := 2) hi (by decide) hL) dL_law_338 ?_
  refine lv_if_eq (tgt := 346) hx hb dL_law_339 (by decide) (fun c_z => ?_) (fun c_z => ?_)
  · have hf := st_fence hr (xs (nI i + (1 : Int32)).toNatClampNeg) (0 : Int32) xb_0
    refine lv_iconst (v := (0 : Int32)) hx hb dL_law_346 (by decide) ?_
    refine z_ciC (z_rV (As := [.int (xs (nI i + (1 : Int32)).toNatClampNeg), .int (0 : Int32)]) (rest := []) Z M.1 (cm_X6_fence l G adC Z.2.2.2.1 2000 (xs (nI i + (1 : Int32)).toNatClampNeg) (0 : Int32) μC _ hf) mc_X6_fence mv_X6_fence lk_L_31 mn_X6_fence rgc_0 rfl hl ⟨⟨Nat.le_of_ble_eq_true rfl, Nat.le_of_ble_eq_true rfl⟩, rfl, Nat.le_of_ble_eq_true rfl, Nat.le_of_ble_eq_true rfl, Nat.le_of_ble_eq_true rfl⟩ rfl dL_law_347) Z M (fun r1_ uC_ H locs hf M => ?_)
    try dsimp only at hf
    refine lv_aload_n hx hb dL_law_350 rfl (lv_at hl 1 rfl) ?_
    refine lv_aload_n hx hb dL_law_351 rfl (lv_at hl 3 rfl) ?_
    refine lv_iload_n hx hb dL_law_352 rfl (lv_at hl 0 rfl) ?_
    refine lv_iconst (v := (1 : Int32)) hx hb dL_law_353 (by decide) ?_
    refine lv_iadd hx hb dL_law_354 ?_
    refine va_sld hx hb hX hbl hbA M.2.2 (zi (c := 1) hi (by decide) hL) dL_law_355 ?_
    refine lv_aload_n hx hb dL_law_356 rfl (lv_at hl 3 rfl) ?_
    refine lv_iload_n hx hb dL_law_357 rfl (lv_at hl 0 rfl) ?_
    refine lv_iconst (v := (2 : Int32)) hx hb dL_law_358 (by decide) ?_
    refine lv_iadd hx hb dL_law_359 ?_
    refine va_sld hx hb hX hbl hbA M.2.2 (zi (c := 2) hi (by decide) hL) dL_law_360 ?_
    refine lv_if_eq (tgt := 368) hx hb dL_law_361 (by decide) (fun _ => ?_) (fun c_ => absurd c_z c_)
    refine lv_iconst (v := (0 : Int32)) hx hb dL_law_368 (by decide) ?_
    refine z_ciM (z_rV (As := [.int (xs (nI i + (1 : Int32)).toNatClampNeg), .int (0 : Int32)]) (rest := [.int r1_]) Z M.2.1 (cm_X7_fence l G adM Z.2.2.2.2.1 2000 (xs (nI i + (1 : Int32)).toNatClampNeg) (0 : Int32) μM _ hf) mc_X7_fence mv_X7_fence lk_L_35 mn_X7_fence rgm_0 rfl hl ⟨⟨Nat.le_of_ble_eq_true rfl, Nat.le_of_ble_eq_true rfl⟩, rfl, Nat.le_of_ble_eq_true rfl, Nat.le_of_ble_eq_true rfl, Nat.le_of_ble_eq_true rfl⟩ rfl dL_law_369) Z M (fun r2_ uM_ H locs hf M => ?_)
    try dsimp only at hf
    refine lv_icmp_eq (tgt := 1270) hx hb dL_law_372 (by decide) (fun _ => ?_) (fun c_ => absurd hf.1 c_)
    refine lv_iinc (v := nI (i + 6)) (lv' := [(3, .int (nI (i + 6))), (2, .ref (adM 0)), (1, .ref (adC 0)), (0, .ref b)]) hx hb dL_law_1270 hl (k := 0) rfl (nI_add i 6) (by decide) rfl (fun ls hl => ?_)
    refine lv_goto (tgt := 18) hx hb dL_law_1273 (by decide) ?_
    exact again uC_ uM_ _ _ _ hf.2 M hl
  · have hf := st_fence hr (xs (nI i + (1 : Int32)).toNatClampNeg) (1 : Int32) xb_1
    refine lv_iconst (v := (1 : Int32)) hx hb dL_law_342 (by decide) ?_
    refine lv_goto (tgt := 347) hx hb dL_law_343 (by decide) ?_
    refine z_ciC (z_rV (As := [.int (xs (nI i + (1 : Int32)).toNatClampNeg), .int (1 : Int32)]) (rest := []) Z M.1 (cm_X6_fence l G adC Z.2.2.2.1 2000 (xs (nI i + (1 : Int32)).toNatClampNeg) (1 : Int32) μC _ hf) mc_X6_fence mv_X6_fence lk_L_31 mn_X6_fence rgc_0 rfl hl ⟨⟨Nat.le_of_ble_eq_true rfl, Nat.le_of_ble_eq_true rfl⟩, rfl, Nat.le_of_ble_eq_true rfl, Nat.le_of_ble_eq_true rfl, Nat.le_of_ble_eq_true rfl⟩ rfl dL_law_347) Z M (fun r1_ uC_ H locs hf M => ?_)
    try dsimp only at hf
    refine lv_aload_n hx hb dL_law_350 rfl (lv_at hl 1 rfl) ?_
    refine lv_aload_n hx hb dL_law_351 rfl (lv_at hl 3 rfl) ?_
    refine lv_iload_n hx hb dL_law_352 rfl (lv_at hl 0 rfl) ?_
    refine lv_iconst (v := (1 : Int32)) hx hb dL_law_353 (by decide) ?_
    refine lv_iadd hx hb dL_law_354 ?_
    refine va_sld hx hb hX hbl hbA M.2.2 (zi (c := 1) hi (by decide) hL) dL_law_355 ?_
    refine lv_aload_n hx hb dL_law_356 rfl (lv_at hl 3 rfl) ?_
    refine lv_iload_n hx hb dL_law_357 rfl (lv_at hl 0 rfl) ?_
    refine lv_iconst (v := (2 : Int32)) hx hb dL_law_358 (by decide) ?_
    refine lv_iadd hx hb dL_law_359 ?_
    refine va_sld hx hb hX hbl hbA M.2.2 (zi (c := 2) hi (by decide) hL) dL_law_360 ?_
    refine lv_if_eq (tgt := 368) hx hb dL_law_361 (by decide) (fun c_ => absurd c_ c_z) (fun _ => ?_)
    refine lv_iconst (v := (1 : Int32)) hx hb dL_law_364 (by decide) ?_
    refine lv_goto (tgt := 369) hx hb dL_law_365 (by decide) ?_
    refine z_ciM (z_rV (As := [.int (xs (nI i + (1 : Int32)).toNatClampNeg), .int (1 : Int32)]) (rest := [.int r1_]) Z M.2.1 (cm_X7_fence l G adM Z.2.2.2.2.1 2000 (xs (nI i + (1 : Int32)).toNatClampNeg) (1 : Int32) μM _ hf) mc_X7_fence mv_X7_fence lk_L_35 mn_X7_fence rgm_0 rfl hl ⟨⟨Nat.le_of_ble_eq_true rfl, Nat.le_of_ble_eq_true rfl⟩, rfl, Nat.le_of_ble_eq_true rfl, Nat.le_of_ble_eq_true rfl, Nat.le_of_ble_eq_true rfl⟩ rfl dL_law_369) Z M (fun r2_ uM_ H locs hf M => ?_)
    try dsimp only at hf
    refine lv_icmp_eq (tgt := 1270) hx hb dL_law_372 (by decide) (fun _ => ?_) (fun c_ => absurd hf.1 c_)
    refine lv_iinc (v := nI (i + 6)) (lv' := [(3, .int (nI (i + 6))), (2, .ref (adM 0)), (1, .ref (adC 0)), (0, .ref b)]) hx hb dL_law_1270 hl (k := 0) rfl (nI_add i 6) (by decide) rfl (fun ls hl => ?_)
    refine lv_goto (tgt := 18) hx hb dL_law_1273 (by decide) ?_
    exact again uC_ uM_ _ _ _ hf.2 M hl
set_option maxHeartbeats 4000000 in
set_option maxRecDepth 100000 in
theorem lc_rain {p : Program} {l : Launch} {e : Env} {s : State} {m : MethodId} {below : List Frame} {meth : Method} {c : Code} {b L i : Nat} {xs : Nat → Int32} {G : xG} {adC adM : Nat → Nat} {Q : State → Prop} {μC μM : xM} {H : Heap} {locs : List Loc} {ls : Array Slot} (hL : L ≤ 384) (C0 : lw_At p s m meth c b L xs) (Z : zC G adC adM p m c s b) (hi : i + 6 ≤ L) (again : zA p l e s m below meth c b i G adC adM Q) (hr : rl μC μM) (M : zS G adC adM s μC μM H locs) (hl : lv_has ls 4 [(3, .int (nI i)), (2, .ref (adM 0)), (1, .ref (adC 0)), (0, .ref b)]) : W p l e room_1 s m #[Value.ref b] below meth c H locs 600000 7302249 Q (F0 m 377 ls []) := by
  obtain ⟨hx, hb, -, -, -, -, hX, hbl, -, -⟩ := id C0
  have hbA : ¬ (fun q : Nat => s.heap.size ≤ q) b := Nat.not_le.mpr hbl
  have hf := st_rain hr (xs (nI i + (1 : Int32)).toNatClampNeg) (xs (nI i + (2 : Int32)).toNatClampNeg) (xs (nI i + (3 : Int32)).toNatClampNeg)
  refine lv_aload_n hx hb dL_law_377 rfl (lv_at hl 2 rfl) ?_
  refine lv_aload_n hx hb dL_law_378 rfl (lv_at hl 3 rfl) ?_
  refine lv_iload_n hx hb dL_law_379 rfl (lv_at hl 0 rfl) ?_
  refine lv_iconst (v := (1 : Int32)) hx hb dL_law_380 (by decide) ?_
  refine lv_iadd hx hb dL_law_381 ?_
  refine va_sld hx hb hX hbl hbA M.2.2 (zi (c := 1) hi (by decide) hL) dL_law_382 ?_
  refine lv_aload_n hx hb dL_law_383 rfl (lv_at hl 3 rfl) ?_
  refine lv_iload_n hx hb dL_law_384 rfl (lv_at hl 0 rfl) ?_
  refine lv_iconst (v := (2 : Int32)) hx hb dL_law_385 (by decide) ?_
  refine lv_iadd hx hb dL_law_386 ?_
  refine va_sld hx hb hX hbl hbA M.2.2 (zi (c := 2) hi (by decide) hL) dL_law_387 ?_
  refine lv_aload_n hx hb dL_law_388 rfl (lv_at hl 3 rfl) ?_
  refine lv_iload_n hx hb dL_law_389 rfl (lv_at hl 0 rfl) ?_
  refine lv_iconst (v := (3 : Int32)) hx hb dL_law_390 (by decide) ?_
  refine lv_iadd hx hb dL_law_391 ?_
  refine va_sld hx hb hX hbl hbA M.2.2 (zi (c := 3) hi (by decide) hL) dL_law_392 ?_
  refine z_ciC (z_rV (As := [.int (xs (nI i + (1 : Int32)).toNatClampNeg), .int (xs (nI i + (2 : Int32)).toNatClampNeg), .int (xs (nI i + (3 : Int32)).toNatClampNeg)]) (rest := []) Z M.1 (cm_X6_rain l G adC Z.2.2.2.1 2000 (xs (nI i + (1 : Int32)).toNatClampNeg) (xs (nI i + (2 : Int32)).toNatClampNeg) (xs (nI i + (3 : Int32)).toNatClampNeg) μC _ hf) mc_X6_rain mv_X6_rain lk_L_36 mn_X6_rain rgc_0 rfl hl ⟨⟨Nat.le_of_ble_eq_true rfl, Nat.le_of_ble_eq_true rfl⟩, rfl, Nat.le_of_ble_eq_true rfl, Nat.le_of_ble_eq_true rfl, Nat.le_of_ble_eq_true rfl⟩ rfl dL_law_393) Z M (fun r1_ uC_ H locs hf M => ?_)
  try dsimp only at hf
  refine lv_aload_n hx hb dL_law_396 rfl (lv_at hl 1 rfl) ?_
  refine lv_aload_n hx hb dL_law_397 rfl (lv_at hl 3 rfl) ?_
  refine lv_iload_n hx hb dL_law_398 rfl (lv_at hl 0 rfl) ?_
  refine lv_iconst (v := (1 : Int32)) hx hb dL_law_399 (by decide) ?_
  refine lv_iadd hx hb dL_law_400 ?_
  refine va_sld hx hb hX hbl hbA M.2.2 (zi (c := 1) hi (by decide) hL) dL_law_401 ?_
  refine lv_aload_n hx hb dL_law_402 rfl (lv_at hl 3 rfl) ?_
  refine lv_iload_n hx hb dL_law_403 rfl (lv_at hl 0 rfl) ?_
  refine lv_iconst (v := (2 : Int32)) hx hb dL_law_404 (by decide) ?_
  refine lv_iadd hx hb dL_law_405 ?_
  refine va_sld hx hb hX hbl hbA M.2.2 (zi (c := 2) hi (by decide) hL) dL_law_406 ?_
  refine lv_aload_n hx hb dL_law_407 rfl (lv_at hl 3 rfl) ?_
  refine lv_iload_n hx hb dL_law_408 rfl (lv_at hl 0 rfl) ?_
  refine lv_iconst (v := (3 : Int32)) hx hb dL_law_409 (by decide) ?_
  refine lv_iadd hx hb dL_law_410 ?_
  refine va_sld hx hb hX hbl hbA M.2.2 (zi (c := 3) hi (by decide) hL) dL_law_411 ?_
  refine z_ciM (z_rV (As := [.int (xs (nI i + (1 : Int32)).toNatClampNeg), .int (xs (nI i + (2 : Int32)).toNatClampNeg), .int (xs (nI i + (3 : Int32)).toNatClampNeg)]) (rest := [.int r1_]) Z M.2.1 (cm_X7_rain l G adM Z.2.2.2.2.1 2000 (xs (nI i + (1 : Int32)).toNatClampNeg) (xs (nI i + (2 : Int32)).toNatClampNeg) (xs (nI i + (3 : Int32)).toNatClampNeg) μM _ hf) mc_X7_rain mv_X7_rain lk_L_40 mn_X7_rain rgm_0 rfl hl ⟨⟨Nat.le_of_ble_eq_true rfl, Nat.le_of_ble_eq_true rfl⟩, rfl, Nat.le_of_ble_eq_true rfl, Nat.le_of_ble_eq_true rfl, Nat.le_of_ble_eq_true rfl⟩ rfl dL_law_412) Z M (fun r2_ uM_ H locs hf M => ?_)
  try dsimp only at hf
  refine lv_icmp_eq (tgt := 1270) hx hb dL_law_415 (by decide) (fun _ => ?_) (fun c_ => absurd hf.1 c_)
  refine lv_iinc (v := nI (i + 6)) (lv' := [(3, .int (nI (i + 6))), (2, .ref (adM 0)), (1, .ref (adC 0)), (0, .ref b)]) hx hb dL_law_1270 hl (k := 0) rfl (nI_add i 6) (by decide) rfl (fun ls hl => ?_)
  refine lv_goto (tgt := 18) hx hb dL_law_1273 (by decide) ?_
  exact again uC_ uM_ _ _ _ hf.2 M hl
set_option maxHeartbeats 4000000 in
set_option maxRecDepth 100000 in
theorem lc_deer {p : Program} {l : Launch} {e : Env} {s : State} {m : MethodId} {below : List Frame} {meth : Method} {c : Code} {b L i : Nat} {xs : Nat → Int32} {G : xG} {adC adM : Nat → Nat} {Q : State → Prop} {μC μM : xM} {H : Heap} {locs : List Loc} {ls : Array Slot} (hL : L ≤ 384) (C0 : lw_At p s m meth c b L xs) (Z : zC G adC adM p m c s b) (hi : i + 6 ≤ L) (again : zA p l e s m below meth c b i G adC adM Q) (hr : rl μC μM) (M : zS G adC adM s μC μM H locs) (hl : lv_has ls 4 [(3, .int (nI i)), (2, .ref (adM 0)), (1, .ref (adC 0)), (0, .ref b)]) : W p l e room_1 s m #[Value.ref b] below meth c H locs 600000 7302249 Q (F0 m 420 ls []) := by
  obtain ⟨hx, hb, -, -, -, -, hX, hbl, -, -⟩ := id C0
  have hbA : ¬ (fun q : Nat => s.heap.size ≤ q) b := Nat.not_le.mpr hbl
  have hf := st_deer hr (xs (nI i + (1 : Int32)).toNatClampNeg)
  refine lv_aload_n hx hb dL_law_420 rfl (lv_at hl 2 rfl) ?_
  refine lv_aload_n hx hb dL_law_421 rfl (lv_at hl 3 rfl) ?_
  refine lv_iload_n hx hb dL_law_422 rfl (lv_at hl 0 rfl) ?_
  refine lv_iconst (v := (1 : Int32)) hx hb dL_law_423 (by decide) ?_
  refine lv_iadd hx hb dL_law_424 ?_
  refine va_sld hx hb hX hbl hbA M.2.2 (zi (c := 1) hi (by decide) hL) dL_law_425 ?_
  refine z_ciC (z_rV (As := [.int (xs (nI i + (1 : Int32)).toNatClampNeg)]) (rest := []) Z M.1 (cm_X6_deer l G adC Z.2.2.2.1 2000 (xs (nI i + (1 : Int32)).toNatClampNeg) μC _ hf) mc_X6_deer mv_X6_deer lk_L_41 mn_X6_deer rgc_0 rfl hl ⟨⟨Nat.le_of_ble_eq_true rfl, Nat.le_of_ble_eq_true rfl⟩, rfl, Nat.le_of_ble_eq_true rfl, Nat.le_of_ble_eq_true rfl, Nat.le_of_ble_eq_true rfl⟩ rfl dL_law_426) Z M (fun r1_ uC_ H locs hf M => ?_)
  try dsimp only at hf
  refine lv_aload_n hx hb dL_law_429 rfl (lv_at hl 1 rfl) ?_
  refine lv_aload_n hx hb dL_law_430 rfl (lv_at hl 3 rfl) ?_
  refine lv_iload_n hx hb dL_law_431 rfl (lv_at hl 0 rfl) ?_
  refine lv_iconst (v := (1 : Int32)) hx hb dL_law_432 (by decide) ?_
  refine lv_iadd hx hb dL_law_433 ?_
  refine va_sld hx hb hX hbl hbA M.2.2 (zi (c := 1) hi (by decide) hL) dL_law_434 ?_
  refine z_ciM (z_rV (As := [.int (xs (nI i + (1 : Int32)).toNatClampNeg)]) (rest := [.int r1_]) Z M.2.1 (cm_X7_deer l G adM Z.2.2.2.2.1 2000 (xs (nI i + (1 : Int32)).toNatClampNeg) μM _ hf) mc_X7_deer mv_X7_deer lk_L_45 mn_X7_deer rgm_0 rfl hl ⟨⟨Nat.le_of_ble_eq_true rfl, Nat.le_of_ble_eq_true rfl⟩, rfl, Nat.le_of_ble_eq_true rfl, Nat.le_of_ble_eq_true rfl, Nat.le_of_ble_eq_true rfl⟩ rfl dL_law_435) Z M (fun r2_ uM_ H locs hf M => ?_)
  try dsimp only at hf
  refine lv_icmp_eq (tgt := 1270) hx hb dL_law_438 (by decide) (fun _ => ?_) (fun c_ => absurd hf.1 c_)
  refine lv_iinc (v := nI (i + 6)) (lv' := [(3, .int (nI (i + 6))), (2, .ref (adM 0)), (1, .ref (adC 0)), (0, .ref b)]) hx hb dL_law_1270 hl (k := 0) rfl (nI_add i 6) (by decide) rfl (fun ls hl => ?_)
  refine lv_goto (tgt := 18) hx hb dL_law_1273 (by decide) ?_
  exact again uC_ uM_ _ _ _ hf.2 M hl
set_option maxHeartbeats 4000000 in
set_option maxRecDepth 100000 in
theorem lc_grains {p : Program} {l : Launch} {e : Env} {s : State} {m : MethodId} {below : List Frame} {meth : Method} {c : Code} {b L i : Nat} {xs : Nat → Int32} {G : xG} {adC adM : Nat → Nat} {Q : State → Prop} {μC μM : xM} {H : Heap} {locs : List Loc} {ls : Array Slot} (hL : L ≤ 384) (C0 : lw_At p s m meth c b L xs) (Z : zC G adC adM p m c s b) (hi : i + 6 ≤ L) (again : zA p l e s m below meth c b i G adC adM Q) (hr : rl μC μM) (M : zS G adC adM s μC μM H locs) (hl : lv_has ls 4 [(3, .int (nI i)), (2, .ref (adM 0)), (1, .ref (adC 0)), (0, .ref b)]) : W p l e room_1 s m #[Value.ref b] below meth c H locs 600000 7302249 Q (F0 m 443 ls []) := by
  obtain ⟨hx, hb, -, -, -, -, hX, hbl, -, -⟩ := id C0
  have hbA : ¬ (fun q : Nat => s.heap.size ≤ q) b := Nat.not_le.mpr hbl
  have hf := st_grains hr (xs (nI i + (1 : Int32)).toNatClampNeg) (xs (nI i + (2 : Int32)).toNatClampNeg) (xs (nI i + (3 : Int32)).toNatClampNeg)
  refine lv_aload_n hx hb dL_law_443 rfl (lv_at hl 2 rfl) ?_
  refine lv_aload_n hx hb dL_law_444 rfl (lv_at hl 3 rfl) ?_
  refine lv_iload_n hx hb dL_law_445 rfl (lv_at hl 0 rfl) ?_
  refine lv_iconst (v := (1 : Int32)) hx hb dL_law_446 (by decide) ?_
  refine lv_iadd hx hb dL_law_447 ?_
  refine va_sld hx hb hX hbl hbA M.2.2 (zi (c := 1) hi (by decide) hL) dL_law_448 ?_
  refine lv_aload_n hx hb dL_law_449 rfl (lv_at hl 3 rfl) ?_
  refine lv_iload_n hx hb dL_law_450 rfl (lv_at hl 0 rfl) ?_
  refine lv_iconst (v := (2 : Int32)) hx hb dL_law_451 (by decide) ?_
  refine lv_iadd hx hb dL_law_452 ?_
  refine va_sld hx hb hX hbl hbA M.2.2 (zi (c := 2) hi (by decide) hL) dL_law_453 ?_
  refine lv_aload_n hx hb dL_law_454 rfl (lv_at hl 3 rfl) ?_
  refine lv_iload_n hx hb dL_law_455 rfl (lv_at hl 0 rfl) ?_
  refine lv_iconst (v := (3 : Int32)) hx hb dL_law_456 (by decide) ?_
  refine lv_iadd hx hb dL_law_457 ?_
  refine va_sld hx hb hX hbl hbA M.2.2 (zi (c := 3) hi (by decide) hL) dL_law_458 ?_
  refine z_ciC (z_rV (As := [.int (xs (nI i + (1 : Int32)).toNatClampNeg), .int (xs (nI i + (2 : Int32)).toNatClampNeg), .int (xs (nI i + (3 : Int32)).toNatClampNeg)]) (rest := []) Z M.1 (cm_X6_grains l G adC Z.2.2.2.1 2000 (xs (nI i + (1 : Int32)).toNatClampNeg) (xs (nI i + (2 : Int32)).toNatClampNeg) (xs (nI i + (3 : Int32)).toNatClampNeg) μC _ hf) mc_X6_grains mv_X6_grains lk_L_46 mn_X6_grains rgc_0 rfl hl ⟨⟨Nat.le_of_ble_eq_true rfl, Nat.le_of_ble_eq_true rfl⟩, rfl, Nat.le_of_ble_eq_true rfl, Nat.le_of_ble_eq_true rfl, Nat.le_of_ble_eq_true rfl⟩ rfl dL_law_459) Z M (fun r1_ uC_ H locs hf M => ?_)
  try dsimp only at hf
  refine lv_aload_n hx hb dL_law_462 rfl (lv_at hl 1 rfl) ?_
  refine lv_aload_n hx hb dL_law_463 rfl (lv_at hl 3 rfl) ?_
  refine lv_iload_n hx hb dL_law_464 rfl (lv_at hl 0 rfl) ?_
  refine lv_iconst (v := (1 : Int32)) hx hb dL_law_465 (by decide) ?_
  refine lv_iadd hx hb dL_law_466 ?_
  refine va_sld hx hb hX hbl hbA M.2.2 (zi (c := 1) hi (by decide) hL) dL_law_467 ?_
  refine lv_aload_n hx hb dL_law_468 rfl (lv_at hl 3 rfl) ?_
  refine lv_iload_n hx hb dL_law_469 rfl (lv_at hl 0 rfl) ?_
  refine lv_iconst (v := (2 : Int32)) hx hb dL_law_470 (by decide) ?_
  refine lv_iadd hx hb dL_law_471 ?_
  refine va_sld hx hb hX hbl hbA M.2.2 (zi (c := 2) hi (by decide) hL) dL_law_472 ?_
  refine lv_aload_n hx hb dL_law_473 rfl (lv_at hl 3 rfl) ?_
  refine lv_iload_n hx hb dL_law_474 rfl (lv_at hl 0 rfl) ?_
  refine lv_iconst (v := (3 : Int32)) hx hb dL_law_475 (by decide) ?_
  refine lv_iadd hx hb dL_law_476 ?_
  refine va_sld hx hb hX hbl hbA M.2.2 (zi (c := 3) hi (by decide) hL) dL_law_477 ?_
  refine z_ciM (z_rV (As := [.int (xs (nI i + (1 : Int32)).toNatClampNeg), .int (xs (nI i + (2 : Int32)).toNatClampNeg), .int (xs (nI i + (3 : Int32)).toNatClampNeg)]) (rest := [.int r1_]) Z M.2.1 (cm_X7_grains l G adM Z.2.2.2.2.1 2000 (xs (nI i + (1 : Int32)).toNatClampNeg) (xs (nI i + (2 : Int32)).toNatClampNeg) (xs (nI i + (3 : Int32)).toNatClampNeg) μM _ hf) mc_X7_grains mv_X7_grains lk_L_49 mn_X7_grains rgm_0 rfl hl ⟨⟨Nat.le_of_ble_eq_true rfl, Nat.le_of_ble_eq_true rfl⟩, rfl, Nat.le_of_ble_eq_true rfl, Nat.le_of_ble_eq_true rfl, Nat.le_of_ble_eq_true rfl⟩ rfl dL_law_478) Z M (fun r2_ uM_ H locs hf M => ?_)
  try dsimp only at hf
  refine lv_icmp_eq (tgt := 1270) hx hb dL_law_481 (by decide) (fun _ => ?_) (fun c_ => absurd hf.1 c_)
  refine lv_iinc (v := nI (i + 6)) (lv' := [(3, .int (nI (i + 6))), (2, .ref (adM 0)), (1, .ref (adC 0)), (0, .ref b)]) hx hb dL_law_1270 hl (k := 0) rfl (nI_add i 6) (by decide) rfl (fun ls hl => ?_)
  refine lv_goto (tgt := 18) hx hb dL_law_1273 (by decide) ?_
  exact again uC_ uM_ _ _ _ hf.2 M hl
set_option maxHeartbeats 4000000 in
set_option maxRecDepth 100000 in
theorem lc_lost {p : Program} {l : Launch} {e : Env} {s : State} {m : MethodId} {below : List Frame} {meth : Method} {c : Code} {b L i : Nat} {xs : Nat → Int32} {G : xG} {adC adM : Nat → Nat} {Q : State → Prop} {μC μM : xM} {H : Heap} {locs : List Loc} {ls : Array Slot} (hL : L ≤ 384) (C0 : lw_At p s m meth c b L xs) (Z : zC G adC adM p m c s b) (hi : i + 6 ≤ L) (again : zA p l e s m below meth c b i G adC adM Q) (hr : rl μC μM) (M : zS G adC adM s μC μM H locs) (hl : lv_has ls 4 [(3, .int (nI i)), (2, .ref (adM 0)), (1, .ref (adC 0)), (0, .ref b)]) : W p l e room_1 s m #[Value.ref b] below meth c H locs 600000 7302249 Q (F0 m 486 ls []) := by
  obtain ⟨hx, hb, -, -, -, -, hX, hbl, -, -⟩ := id C0
  have hbA : ¬ (fun q : Nat => s.heap.size ≤ q) b := Nat.not_le.mpr hbl
  have hf := st_lost hr (xs (nI i + (1 : Int32)).toNatClampNeg) (xs (nI i + (2 : Int32)).toNatClampNeg) (xs (nI i + (3 : Int32)).toNatClampNeg)
  refine lv_aload_n hx hb dL_law_486 rfl (lv_at hl 2 rfl) ?_
  refine lv_aload_n hx hb dL_law_487 rfl (lv_at hl 3 rfl) ?_
  refine lv_iload_n hx hb dL_law_488 rfl (lv_at hl 0 rfl) ?_
  refine lv_iconst (v := (1 : Int32)) hx hb dL_law_489 (by decide) ?_
  refine lv_iadd hx hb dL_law_490 ?_
  refine va_sld hx hb hX hbl hbA M.2.2 (zi (c := 1) hi (by decide) hL) dL_law_491 ?_
  refine lv_aload_n hx hb dL_law_492 rfl (lv_at hl 3 rfl) ?_
  refine lv_iload_n hx hb dL_law_493 rfl (lv_at hl 0 rfl) ?_
  refine lv_iconst (v := (2 : Int32)) hx hb dL_law_494 (by decide) ?_
  refine lv_iadd hx hb dL_law_495 ?_
  refine va_sld hx hb hX hbl hbA M.2.2 (zi (c := 2) hi (by decide) hL) dL_law_496 ?_
  refine lv_aload_n hx hb dL_law_497 rfl (lv_at hl 3 rfl) ?_
  refine lv_iload_n hx hb dL_law_498 rfl (lv_at hl 0 rfl) ?_
  refine lv_iconst (v := (3 : Int32)) hx hb dL_law_499 (by decide) ?_
  refine lv_iadd hx hb dL_law_500 ?_
  refine va_sld hx hb hX hbl hbA M.2.2 (zi (c := 3) hi (by decide) hL) dL_law_501 ?_
  refine z_ciC (z_rV (As := [.int (xs (nI i + (1 : Int32)).toNatClampNeg), .int (xs (nI i + (2 : Int32)).toNatClampNeg), .int (xs (nI i + (3 : Int32)).toNatClampNeg)]) (rest := []) Z M.1 (cm_X6_lost l G adC Z.2.2.2.1 2000 (xs (nI i + (1 : Int32)).toNatClampNeg) (xs (nI i + (2 : Int32)).toNatClampNeg) (xs (nI i + (3 : Int32)).toNatClampNeg) μC _ hf) mc_X6_lost mv_X6_lost lk_L_50 mn_X6_lost rgc_0 rfl hl ⟨⟨Nat.le_of_ble_eq_true rfl, Nat.le_of_ble_eq_true rfl⟩, rfl, Nat.le_of_ble_eq_true rfl, Nat.le_of_ble_eq_true rfl, Nat.le_of_ble_eq_true rfl⟩ rfl dL_law_502) Z M (fun r1_ uC_ H locs hf M => ?_)
  try dsimp only at hf
  refine lv_aload_n hx hb dL_law_505 rfl (lv_at hl 1 rfl) ?_
  refine lv_aload_n hx hb dL_law_506 rfl (lv_at hl 3 rfl) ?_
  refine lv_iload_n hx hb dL_law_507 rfl (lv_at hl 0 rfl) ?_
  refine lv_iconst (v := (1 : Int32)) hx hb dL_law_508 (by decide) ?_
  refine lv_iadd hx hb dL_law_509 ?_
  refine va_sld hx hb hX hbl hbA M.2.2 (zi (c := 1) hi (by decide) hL) dL_law_510 ?_
  refine lv_aload_n hx hb dL_law_511 rfl (lv_at hl 3 rfl) ?_
  refine lv_iload_n hx hb dL_law_512 rfl (lv_at hl 0 rfl) ?_
  refine lv_iconst (v := (2 : Int32)) hx hb dL_law_513 (by decide) ?_
  refine lv_iadd hx hb dL_law_514 ?_
  refine va_sld hx hb hX hbl hbA M.2.2 (zi (c := 2) hi (by decide) hL) dL_law_515 ?_
  refine lv_aload_n hx hb dL_law_516 rfl (lv_at hl 3 rfl) ?_
  refine lv_iload_n hx hb dL_law_517 rfl (lv_at hl 0 rfl) ?_
  refine lv_iconst (v := (3 : Int32)) hx hb dL_law_518 (by decide) ?_
  refine lv_iadd hx hb dL_law_519 ?_
  refine va_sld hx hb hX hbl hbA M.2.2 (zi (c := 3) hi (by decide) hL) dL_law_520 ?_
  refine z_ciM (z_rV (As := [.int (xs (nI i + (1 : Int32)).toNatClampNeg), .int (xs (nI i + (2 : Int32)).toNatClampNeg), .int (xs (nI i + (3 : Int32)).toNatClampNeg)]) (rest := [.int r1_]) Z M.2.1 (cm_X7_lost l G adM Z.2.2.2.2.1 2000 (xs (nI i + (1 : Int32)).toNatClampNeg) (xs (nI i + (2 : Int32)).toNatClampNeg) (xs (nI i + (3 : Int32)).toNatClampNeg) μM _ hf) mc_X7_lost mv_X7_lost lk_L_53 mn_X7_lost rgm_0 rfl hl ⟨⟨Nat.le_of_ble_eq_true rfl, Nat.le_of_ble_eq_true rfl⟩, rfl, Nat.le_of_ble_eq_true rfl, Nat.le_of_ble_eq_true rfl, Nat.le_of_ble_eq_true rfl⟩ rfl dL_law_521) Z M (fun r2_ uM_ H locs hf M => ?_)
  try dsimp only at hf
  refine lv_icmp_eq (tgt := 1270) hx hb dL_law_524 (by decide) (fun _ => ?_) (fun c_ => absurd hf.1 c_)
  refine lv_iinc (v := nI (i + 6)) (lv' := [(3, .int (nI (i + 6))), (2, .ref (adM 0)), (1, .ref (adC 0)), (0, .ref b)]) hx hb dL_law_1270 hl (k := 0) rfl (nI_add i 6) (by decide) rfl (fun ls hl => ?_)
  refine lv_goto (tgt := 18) hx hb dL_law_1273 (by decide) ?_
  exact again uC_ uM_ _ _ _ hf.2 M hl
set_option maxHeartbeats 4000000 in
set_option maxRecDepth 100000 in
theorem lc_gone {p : Program} {l : Launch} {e : Env} {s : State} {m : MethodId} {below : List Frame} {meth : Method} {c : Code} {b L i : Nat} {xs : Nat → Int32} {G : xG} {adC adM : Nat → Nat} {Q : State → Prop} {μC μM : xM} {H : Heap} {locs : List Loc} {ls : Array Slot} (hL : L ≤ 384) (C0 : lw_At p s m meth c b L xs) (Z : zC G adC adM p m c s b) (hi : i + 6 ≤ L) (again : zA p l e s m below meth c b i G adC adM Q) (hr : rl μC μM) (M : zS G adC adM s μC μM H locs) (hl : lv_has ls 4 [(3, .int (nI i)), (2, .ref (adM 0)), (1, .ref (adC 0)), (0, .ref b)]) : W p l e room_1 s m #[Value.ref b] below meth c H locs 600000 7302249 Q (F0 m 529 ls []) := by
  obtain ⟨hx, hb, -, -, -, -, hX, hbl, -, -⟩ := id C0
  have hbA : ¬ (fun q : Nat => s.heap.size ≤ q) b := Nat.not_le.mpr hbl
  have hf := st_gone hr (xs (nI i + (1 : Int32)).toNatClampNeg) (xs (nI i + (2 : Int32)).toNatClampNeg)
  refine lv_aload_n hx hb dL_law_529 rfl (lv_at hl 2 rfl) ?_
  refine lv_aload_n hx hb dL_law_530 rfl (lv_at hl 3 rfl) ?_
  refine lv_iload_n hx hb dL_law_531 rfl (lv_at hl 0 rfl) ?_
  refine lv_iconst (v := (1 : Int32)) hx hb dL_law_532 (by decide) ?_
  refine lv_iadd hx hb dL_law_533 ?_
  refine va_sld hx hb hX hbl hbA M.2.2 (zi (c := 1) hi (by decide) hL) dL_law_534 ?_
  refine lv_aload_n hx hb dL_law_535 rfl (lv_at hl 3 rfl) ?_
  refine lv_iload_n hx hb dL_law_536 rfl (lv_at hl 0 rfl) ?_
  refine lv_iconst (v := (2 : Int32)) hx hb dL_law_537 (by decide) ?_
  refine lv_iadd hx hb dL_law_538 ?_
  refine va_sld hx hb hX hbl hbA M.2.2 (zi (c := 2) hi (by decide) hL) dL_law_539 ?_
  refine z_ciC (z_rV (As := [.int (xs (nI i + (1 : Int32)).toNatClampNeg), .int (xs (nI i + (2 : Int32)).toNatClampNeg)]) (rest := []) Z M.1 (cm_X6_gone l G adC Z.2.2.2.1 2000 (xs (nI i + (1 : Int32)).toNatClampNeg) (xs (nI i + (2 : Int32)).toNatClampNeg) μC _ hf) mc_X6_gone mv_X6_gone lk_L_54 mn_X6_gone rgc_0 rfl hl ⟨⟨Nat.le_of_ble_eq_true rfl, Nat.le_of_ble_eq_true rfl⟩, rfl, Nat.le_of_ble_eq_true rfl, Nat.le_of_ble_eq_true rfl, Nat.le_of_ble_eq_true rfl⟩ rfl dL_law_540) Z M (fun r1_ uC_ H locs hf M => ?_)
  try dsimp only at hf
  refine lv_aload_n hx hb dL_law_543 rfl (lv_at hl 1 rfl) ?_
  refine lv_aload_n hx hb dL_law_544 rfl (lv_at hl 3 rfl) ?_
  refine lv_iload_n hx hb dL_law_545 rfl (lv_at hl 0 rfl) ?_
  refine lv_iconst (v := (1 : Int32)) hx hb dL_law_546 (by decide) ?_
  refine lv_iadd hx hb dL_law_547 ?_
  refine va_sld hx hb hX hbl hbA M.2.2 (zi (c := 1) hi (by decide) hL) dL_law_548 ?_
  refine lv_aload_n hx hb dL_law_549 rfl (lv_at hl 3 rfl) ?_
  refine lv_iload_n hx hb dL_law_550 rfl (lv_at hl 0 rfl) ?_
  refine lv_iconst (v := (2 : Int32)) hx hb dL_law_551 (by decide) ?_
  refine lv_iadd hx hb dL_law_552 ?_
  refine va_sld hx hb hX hbl hbA M.2.2 (zi (c := 2) hi (by decide) hL) dL_law_553 ?_
  refine z_ciM (z_rV (As := [.int (xs (nI i + (1 : Int32)).toNatClampNeg), .int (xs (nI i + (2 : Int32)).toNatClampNeg)]) (rest := [.int r1_]) Z M.2.1 (cm_X7_gone l G adM Z.2.2.2.2.1 2000 (xs (nI i + (1 : Int32)).toNatClampNeg) (xs (nI i + (2 : Int32)).toNatClampNeg) μM _ hf) mc_X7_gone mv_X7_gone lk_L_57 mn_X7_gone rgm_0 rfl hl ⟨⟨Nat.le_of_ble_eq_true rfl, Nat.le_of_ble_eq_true rfl⟩, rfl, Nat.le_of_ble_eq_true rfl, Nat.le_of_ble_eq_true rfl, Nat.le_of_ble_eq_true rfl⟩ rfl dL_law_554) Z M (fun r2_ uM_ H locs hf M => ?_)
  try dsimp only at hf
  refine lv_icmp_eq (tgt := 1270) hx hb dL_law_557 (by decide) (fun _ => ?_) (fun c_ => absurd hf.1 c_)
  refine lv_iinc (v := nI (i + 6)) (lv' := [(3, .int (nI (i + 6))), (2, .ref (adM 0)), (1, .ref (adC 0)), (0, .ref b)]) hx hb dL_law_1270 hl (k := 0) rfl (nI_add i 6) (by decide) rfl (fun ls hl => ?_)
  refine lv_goto (tgt := 18) hx hb dL_law_1273 (by decide) ?_
  exact again uC_ uM_ _ _ _ hf.2 M hl
set_option maxHeartbeats 4000000 in
set_option maxRecDepth 100000 in
theorem lc_liked {p : Program} {l : Launch} {e : Env} {s : State} {m : MethodId} {below : List Frame} {meth : Method} {c : Code} {b L i : Nat} {xs : Nat → Int32} {G : xG} {adC adM : Nat → Nat} {Q : State → Prop} {μC μM : xM} {H : Heap} {locs : List Loc} {ls : Array Slot} (hL : L ≤ 384) (C0 : lw_At p s m meth c b L xs) (Z : zC G adC adM p m c s b) (hi : i + 6 ≤ L) (again : zA p l e s m below meth c b i G adC adM Q) (hr : rl μC μM) (M : zS G adC adM s μC μM H locs) (hl : lv_has ls 4 [(3, .int (nI i)), (2, .ref (adM 0)), (1, .ref (adC 0)), (0, .ref b)]) : W p l e room_1 s m #[Value.ref b] below meth c H locs 600000 7302249 Q (F0 m 562 ls []) := by
  obtain ⟨hx, hb, -, -, -, -, hX, hbl, -, -⟩ := id C0
  have hbA : ¬ (fun q : Nat => s.heap.size ≤ q) b := Nat.not_le.mpr hbl
  have hf := st_liked hr (xs (nI i + (1 : Int32)).toNatClampNeg)
  refine lv_aload_n hx hb dL_law_562 rfl (lv_at hl 2 rfl) ?_
  refine lv_aload_n hx hb dL_law_563 rfl (lv_at hl 3 rfl) ?_
  refine lv_iload_n hx hb dL_law_564 rfl (lv_at hl 0 rfl) ?_
  refine lv_iconst (v := (1 : Int32)) hx hb dL_law_565 (by decide) ?_
  refine lv_iadd hx hb dL_law_566 ?_
  refine va_sld hx hb hX hbl hbA M.2.2 (zi (c := 1) hi (by decide) hL) dL_law_567 ?_
  refine z_ciC (z_rV (As := [.int (xs (nI i + (1 : Int32)).toNatClampNeg)]) (rest := []) Z M.1 (cm_X6_liked l G adC Z.2.2.2.1 2000 (xs (nI i + (1 : Int32)).toNatClampNeg) μC _ hf) mc_X6_liked mv_X6_liked lk_L_58 mn_X6_liked rgc_0 rfl hl ⟨⟨Nat.le_of_ble_eq_true rfl, Nat.le_of_ble_eq_true rfl⟩, rfl, Nat.le_of_ble_eq_true rfl, Nat.le_of_ble_eq_true rfl, Nat.le_of_ble_eq_true rfl⟩ rfl dL_law_568) Z M (fun r1_ uC_ H locs hf M => ?_)
  try dsimp only at hf
  refine lv_aload_n hx hb dL_law_571 rfl (lv_at hl 1 rfl) ?_
  refine lv_aload_n hx hb dL_law_572 rfl (lv_at hl 3 rfl) ?_
  refine lv_iload_n hx hb dL_law_573 rfl (lv_at hl 0 rfl) ?_
  refine lv_iconst (v := (1 : Int32)) hx hb dL_law_574 (by decide) ?_
  refine lv_iadd hx hb dL_law_575 ?_
  refine va_sld hx hb hX hbl hbA M.2.2 (zi (c := 1) hi (by decide) hL) dL_law_576 ?_
  refine z_ciM (z_rV (As := [.int (xs (nI i + (1 : Int32)).toNatClampNeg)]) (rest := [.int r1_]) Z M.2.1 (cm_X7_liked l G adM Z.2.2.2.2.1 2000 (xs (nI i + (1 : Int32)).toNatClampNeg) μM _ hf) mc_X7_liked mv_X7_liked lk_L_61 mn_X7_liked rgm_0 rfl hl ⟨⟨Nat.le_of_ble_eq_true rfl, Nat.le_of_ble_eq_true rfl⟩, rfl, Nat.le_of_ble_eq_true rfl, Nat.le_of_ble_eq_true rfl, Nat.le_of_ble_eq_true rfl⟩ rfl dL_law_577) Z M (fun r2_ uM_ H locs hf M => ?_)
  try dsimp only at hf
  refine lv_icmp_eq (tgt := 1270) hx hb dL_law_580 (by decide) (fun _ => ?_) (fun c_ => absurd hf.1 c_)
  refine lv_iinc (v := nI (i + 6)) (lv' := [(3, .int (nI (i + 6))), (2, .ref (adM 0)), (1, .ref (adC 0)), (0, .ref b)]) hx hb dL_law_1270 hl (k := 0) rfl (nI_add i 6) (by decide) rfl (fun ls hl => ?_)
  refine lv_goto (tgt := 18) hx hb dL_law_1273 (by decide) ?_
  exact again uC_ uM_ _ _ _ hf.2 M hl
set_option maxHeartbeats 4000000 in
set_option maxRecDepth 100000 in
theorem lc_lasts {p : Program} {l : Launch} {e : Env} {s : State} {m : MethodId} {below : List Frame} {meth : Method} {c : Code} {b L i : Nat} {xs : Nat → Int32} {G : xG} {adC adM : Nat → Nat} {Q : State → Prop} {μC μM : xM} {H : Heap} {locs : List Loc} {ls : Array Slot} (hL : L ≤ 384) (C0 : lw_At p s m meth c b L xs) (Z : zC G adC adM p m c s b) (hi : i + 6 ≤ L) (again : zA p l e s m below meth c b i G adC adM Q) (hr : rl μC μM) (M : zS G adC adM s μC μM H locs) (hl : lv_has ls 4 [(3, .int (nI i)), (2, .ref (adM 0)), (1, .ref (adC 0)), (0, .ref b)]) : W p l e room_1 s m #[Value.ref b] below meth c H locs 600000 7302249 Q (F0 m 585 ls []) := by
  obtain ⟨hx, hb, -, -, -, -, hX, hbl, -, -⟩ := id C0
  have hbA : ¬ (fun q : Nat => s.heap.size ≤ q) b := Nat.not_le.mpr hbl
  have hf := st_lasts hr (xs (nI i + (1 : Int32)).toNatClampNeg)
  refine lv_aload_n hx hb dL_law_585 rfl (lv_at hl 2 rfl) ?_
  refine lv_aload_n hx hb dL_law_586 rfl (lv_at hl 3 rfl) ?_
  refine lv_iload_n hx hb dL_law_587 rfl (lv_at hl 0 rfl) ?_
  refine lv_iconst (v := (1 : Int32)) hx hb dL_law_588 (by decide) ?_
  refine lv_iadd hx hb dL_law_589 ?_
  refine va_sld hx hb hX hbl hbA M.2.2 (zi (c := 1) hi (by decide) hL) dL_law_590 ?_
  refine z_clC (z_rV (As := [.int (xs (nI i + (1 : Int32)).toNatClampNeg)]) (rest := []) Z M.1 (cm_X6_lasts l G adC Z.2.2.2.1 2000 (xs (nI i + (1 : Int32)).toNatClampNeg) μC _ hf) mc_X6_lasts mv_X6_lasts lk_L_62 mn_X6_lasts rgc_0 rfl hl ⟨⟨Nat.le_of_ble_eq_true rfl, Nat.le_of_ble_eq_true rfl⟩, rfl, Nat.le_of_ble_eq_true rfl, Nat.le_of_ble_eq_true rfl, Nat.le_of_ble_eq_true rfl⟩ rfl dL_law_591) Z M (fun r1_ uC_ H locs hf M => ?_)
  try dsimp only at hf
  refine lv_aload_n hx hb dL_law_594 rfl (lv_at hl 1 rfl) ?_
  refine lv_aload_n hx hb dL_law_595 rfl (lv_at hl 3 rfl) ?_
  refine lv_iload_n hx hb dL_law_596 rfl (lv_at hl 0 rfl) ?_
  refine lv_iconst (v := (1 : Int32)) hx hb dL_law_597 (by decide) ?_
  refine lv_iadd hx hb dL_law_598 ?_
  refine va_sld hx hb hX hbl hbA M.2.2 (zi (c := 1) hi (by decide) hL) dL_law_599 ?_
  refine z_clM (z_rV (As := [.int (xs (nI i + (1 : Int32)).toNatClampNeg)]) (rest := [.long r1_]) Z M.2.1 (cm_X7_lasts l G adM Z.2.2.2.2.1 2000 (xs (nI i + (1 : Int32)).toNatClampNeg) μM _ hf) mc_X7_lasts mv_X7_lasts lk_L_66 mn_X7_lasts rgm_0 rfl hl ⟨⟨Nat.le_of_ble_eq_true rfl, Nat.le_of_ble_eq_true rfl⟩, rfl, Nat.le_of_ble_eq_true rfl, Nat.le_of_ble_eq_true rfl, Nat.le_of_ble_eq_true rfl⟩ rfl dL_law_600) Z M (fun r2_ uM_ H locs hf M => ?_)
  try dsimp only at hf
  refine W.lcmp hx hb dL_law_603 ?_
  refine lv_if_eq (tgt := 1270) hx hb dL_law_604 (by decide) (fun _ => ?_) (fun c_ => absurd (by rw [hf.1]; exact lg_self _) c_)
  refine lv_iinc (v := nI (i + 6)) (lv' := [(3, .int (nI (i + 6))), (2, .ref (adM 0)), (1, .ref (adC 0)), (0, .ref b)]) hx hb dL_law_1270 hl (k := 0) rfl (nI_add i 6) (by decide) rfl (fun ls hl => ?_)
  refine lv_goto (tgt := 18) hx hb dL_law_1273 (by decide) ?_
  exact again uC_ uM_ _ _ _ hf.2 M hl
set_option maxHeartbeats 4000000 in
set_option maxRecDepth 100000 in
theorem lc_umbrellas {p : Program} {l : Launch} {e : Env} {s : State} {m : MethodId} {below : List Frame} {meth : Method} {c : Code} {b L i : Nat} {xs : Nat → Int32} {G : xG} {adC adM : Nat → Nat} {Q : State → Prop} {μC μM : xM} {H : Heap} {locs : List Loc} {ls : Array Slot} (hL : L ≤ 384) (C0 : lw_At p s m meth c b L xs) (Z : zC G adC adM p m c s b) (hi : i + 6 ≤ L) (again : zA p l e s m below meth c b i G adC adM Q) (hr : rl μC μM) (M : zS G adC adM s μC μM H locs) (hl : lv_has ls 4 [(3, .int (nI i)), (2, .ref (adM 0)), (1, .ref (adC 0)), (0, .ref b)]) : W p l e room_1 s m #[Value.ref b] below meth c H locs 600000 7302249 Q (F0 m 609 ls []) := by
  obtain ⟨hx, hb, -, -, -, -, hX, hbl, -, -⟩ := id C0
  have hbA : ¬ (fun q : Nat => s.heap.size ≤ q) b := Nat.not_le.mpr hbl
  have hf := st_umbrellas hr (xs (nI i + (1 : Int32)).toNatClampNeg) (xs (nI i + (2 : Int32)).toNatClampNeg)
  refine lv_aload_n hx hb dL_law_609 rfl (lv_at hl 2 rfl) ?_
  refine lv_aload_n hx hb dL_law_610 rfl (lv_at hl 3 rfl) ?_
  refine lv_iload_n hx hb dL_law_611 rfl (lv_at hl 0 rfl) ?_
  refine lv_iconst (v := (1 : Int32)) hx hb dL_law_612 (by decide) ?_
  refine lv_iadd hx hb dL_law_613 ?_
  refine va_sld hx hb hX hbl hbA M.2.2 (zi (c := 1) hi (by decide) hL) dL_law_614 ?_
  refine lv_aload_n hx hb dL_law_615 rfl (lv_at hl 3 rfl) ?_
  refine lv_iload_n hx hb dL_law_616 rfl (lv_at hl 0 rfl) ?_
  refine lv_iconst (v := (2 : Int32)) hx hb dL_law_617 (by decide) ?_
  refine lv_iadd hx hb dL_law_618 ?_
  refine va_sld hx hb hX hbl hbA M.2.2 (zi (c := 2) hi (by decide) hL) dL_law_619 ?_
  refine z_ciCP (z_rV (As := [.int (xs (nI i + (1 : Int32)).toNatClampNeg), .int (xs (nI i + (2 : Int32)).toNatClampNeg)]) (rest := []) Z M.1 (cm_X6_umbrellas l G adC Z.2.2.2.1 2000 (xs (nI i + (1 : Int32)).toNatClampNeg) (xs (nI i + (2 : Int32)).toNatClampNeg) μC _ hf) mc_X6_umbrellas mv_X6_umbrellas lk_L_67 mn_X6_umbrellas rgc_0 rfl hl ⟨⟨Nat.le_of_ble_eq_true rfl, Nat.le_of_ble_eq_true rfl⟩, rfl, Nat.le_of_ble_eq_true rfl, Nat.le_of_ble_eq_true rfl, Nat.le_of_ble_eq_true rfl⟩ rfl dL_law_620) Z M (fun r1_ H locs hf M => ?_)
  try dsimp only at hf
  refine lv_aload_n hx hb dL_law_623 rfl (lv_at hl 1 rfl) ?_
  refine lv_aload_n hx hb dL_law_624 rfl (lv_at hl 3 rfl) ?_
  refine lv_iload_n hx hb dL_law_625 rfl (lv_at hl 0 rfl) ?_
  refine lv_iconst (v := (1 : Int32)) hx hb dL_law_626 (by decide) ?_
  refine lv_iadd hx hb dL_law_627 ?_
  refine va_sld hx hb hX hbl hbA M.2.2 (zi (c := 1) hi (by decide) hL) dL_law_628 ?_
  refine lv_aload_n hx hb dL_law_629 rfl (lv_at hl 3 rfl) ?_
  refine lv_iload_n hx hb dL_law_630 rfl (lv_at hl 0 rfl) ?_
  refine lv_iconst (v := (2 : Int32)) hx hb dL_law_631 (by decide) ?_
  refine lv_iadd hx hb dL_law_632 ?_
  refine va_sld hx hb hX hbl hbA M.2.2 (zi (c := 2) hi (by decide) hL) dL_law_633 ?_
  refine z_ciM (z_rV (As := [.int (xs (nI i + (1 : Int32)).toNatClampNeg), .int (xs (nI i + (2 : Int32)).toNatClampNeg)]) (rest := [.int r1_]) Z M.2.1 (cm_X7_umbrellas l G adM Z.2.2.2.2.1 2000 (xs (nI i + (1 : Int32)).toNatClampNeg) (xs (nI i + (2 : Int32)).toNatClampNeg) μM _ hf) mc_X7_umbrellas mv_X7_umbrellas lk_L_70 mn_X7_umbrellas rgm_0 rfl hl ⟨⟨Nat.le_of_ble_eq_true rfl, Nat.le_of_ble_eq_true rfl⟩, rfl, Nat.le_of_ble_eq_true rfl, Nat.le_of_ble_eq_true rfl, Nat.le_of_ble_eq_true rfl⟩ rfl dL_law_634) Z M (fun r2_ uM_ H locs hf M => ?_)
  try dsimp only at hf
  refine lv_icmp_eq (tgt := 1270) hx hb dL_law_637 (by decide) (fun _ => ?_) (fun c_ => absurd hf.1 c_)
  refine lv_iinc (v := nI (i + 6)) (lv' := [(3, .int (nI (i + 6))), (2, .ref (adM 0)), (1, .ref (adC 0)), (0, .ref b)]) hx hb dL_law_1270 hl (k := 0) rfl (nI_add i 6) (by decide) rfl (fun ls hl => ?_)
  refine lv_goto (tgt := 18) hx hb dL_law_1273 (by decide) ?_
  exact again μC uM_ _ _ _ hf.2 M hl
set_option maxHeartbeats 4000000 in
set_option maxRecDepth 100000 in
theorem lc_turn {p : Program} {l : Launch} {e : Env} {s : State} {m : MethodId} {below : List Frame} {meth : Method} {c : Code} {b L i : Nat} {xs : Nat → Int32} {G : xG} {adC adM : Nat → Nat} {Q : State → Prop} {μC μM : xM} {H : Heap} {locs : List Loc} {ls : Array Slot} (hL : L ≤ 384) (C0 : lw_At p s m meth c b L xs) (Z : zC G adC adM p m c s b) (hi : i + 6 ≤ L) (again : zA p l e s m below meth c b i G adC adM Q) (hr : rl μC μM) (M : zS G adC adM s μC μM H locs) (hl : lv_has ls 4 [(3, .int (nI i)), (2, .ref (adM 0)), (1, .ref (adC 0)), (0, .ref b)]) : W p l e room_1 s m #[Value.ref b] below meth c H locs 600000 7302249 Q (F0 m 642 ls []) := by
  obtain ⟨hx, hb, -, -, -, -, hX, hbl, -, -⟩ := id C0
  have hbA : ¬ (fun q : Nat => s.heap.size ≤ q) b := Nat.not_le.mpr hbl
  have hf := st_turn hr (xs (nI i + (1 : Int32)).toNatClampNeg)
  refine lv_aload_n hx hb dL_law_642 rfl (lv_at hl 2 rfl) ?_
  refine lv_aload_n hx hb dL_law_643 rfl (lv_at hl 3 rfl) ?_
  refine lv_iload_n hx hb dL_law_644 rfl (lv_at hl 0 rfl) ?_
  refine lv_iconst (v := (1 : Int32)) hx hb dL_law_645 (by decide) ?_
  refine lv_iadd hx hb dL_law_646 ?_
  refine va_sld hx hb hX hbl hbA M.2.2 (zi (c := 1) hi (by decide) hL) dL_law_647 ?_
  refine z_ciCP (z_rV (As := [.int (xs (nI i + (1 : Int32)).toNatClampNeg)]) (rest := []) Z M.1 (cm_X6_turn l G adC Z.2.2.2.1 2000 (xs (nI i + (1 : Int32)).toNatClampNeg) μC _ hf) mc_X6_turn mv_X6_turn lk_L_71 mn_X6_turn rgc_0 rfl hl ⟨⟨Nat.le_of_ble_eq_true rfl, Nat.le_of_ble_eq_true rfl⟩, rfl, Nat.le_of_ble_eq_true rfl, Nat.le_of_ble_eq_true rfl, Nat.le_of_ble_eq_true rfl⟩ rfl dL_law_648) Z M (fun r1_ H locs hf M => ?_)
  try dsimp only at hf
  refine lv_aload_n hx hb dL_law_651 rfl (lv_at hl 1 rfl) ?_
  refine lv_aload_n hx hb dL_law_652 rfl (lv_at hl 3 rfl) ?_
  refine lv_iload_n hx hb dL_law_653 rfl (lv_at hl 0 rfl) ?_
  refine lv_iconst (v := (1 : Int32)) hx hb dL_law_654 (by decide) ?_
  refine lv_iadd hx hb dL_law_655 ?_
  refine va_sld hx hb hX hbl hbA M.2.2 (zi (c := 1) hi (by decide) hL) dL_law_656 ?_
  refine z_ciM (z_rV (As := [.int (xs (nI i + (1 : Int32)).toNatClampNeg)]) (rest := [.int r1_]) Z M.2.1 (cm_X7_turn l G adM Z.2.2.2.2.1 2000 (xs (nI i + (1 : Int32)).toNatClampNeg) μM _ hf) mc_X7_turn mv_X7_turn lk_L_74 mn_X7_turn rgm_0 rfl hl ⟨⟨Nat.le_of_ble_eq_true rfl, Nat.le_of_ble_eq_true rfl⟩, rfl, Nat.le_of_ble_eq_true rfl, Nat.le_of_ble_eq_true rfl, Nat.le_of_ble_eq_true rfl⟩ rfl dL_law_657) Z M (fun r2_ uM_ H locs hf M => ?_)
  try dsimp only at hf
  refine lv_icmp_eq (tgt := 1270) hx hb dL_law_660 (by decide) (fun _ => ?_) (fun c_ => absurd hf.1 c_)
  refine lv_iinc (v := nI (i + 6)) (lv' := [(3, .int (nI (i + 6))), (2, .ref (adM 0)), (1, .ref (adC 0)), (0, .ref b)]) hx hb dL_law_1270 hl (k := 0) rfl (nI_add i 6) (by decide) rfl (fun ls hl => ?_)
  refine lv_goto (tgt := 18) hx hb dL_law_1273 (by decide) ?_
  exact again μC uM_ _ _ _ hf.2 M hl
set_option maxHeartbeats 4000000 in
set_option maxRecDepth 100000 in
theorem lc_roofs {p : Program} {l : Launch} {e : Env} {s : State} {m : MethodId} {below : List Frame} {meth : Method} {c : Code} {b L i : Nat} {xs : Nat → Int32} {G : xG} {adC adM : Nat → Nat} {Q : State → Prop} {μC μM : xM} {H : Heap} {locs : List Loc} {ls : Array Slot} (hL : L ≤ 384) (C0 : lw_At p s m meth c b L xs) (Z : zC G adC adM p m c s b) (hi : i + 6 ≤ L) (again : zA p l e s m below meth c b i G adC adM Q) (hr : rl μC μM) (M : zS G adC adM s μC μM H locs) (hl : lv_has ls 4 [(3, .int (nI i)), (2, .ref (adM 0)), (1, .ref (adC 0)), (0, .ref b)]) : W p l e room_1 s m #[Value.ref b] below meth c H locs 600000 7302249 Q (F0 m 665 ls []) := by
  obtain ⟨hx, hb, -, -, -, -, hX, hbl, -, -⟩ := id C0
  have hbA : ¬ (fun q : Nat => s.heap.size ≤ q) b := Nat.not_le.mpr hbl
  have hf := st_roofs hr (xs (nI i + (1 : Int32)).toNatClampNeg) (xs (nI i + (2 : Int32)).toNatClampNeg)
  refine lv_aload_n hx hb dL_law_665 rfl (lv_at hl 2 rfl) ?_
  refine lv_aload_n hx hb dL_law_666 rfl (lv_at hl 3 rfl) ?_
  refine lv_iload_n hx hb dL_law_667 rfl (lv_at hl 0 rfl) ?_
  refine lv_iconst (v := (1 : Int32)) hx hb dL_law_668 (by decide) ?_
  refine lv_iadd hx hb dL_law_669 ?_
  refine va_sld hx hb hX hbl hbA M.2.2 (zi (c := 1) hi (by decide) hL) dL_law_670 ?_
  refine lv_aload_n hx hb dL_law_671 rfl (lv_at hl 3 rfl) ?_
  refine lv_iload_n hx hb dL_law_672 rfl (lv_at hl 0 rfl) ?_
  refine lv_iconst (v := (2 : Int32)) hx hb dL_law_673 (by decide) ?_
  refine lv_iadd hx hb dL_law_674 ?_
  refine va_sld hx hb hX hbl hbA M.2.2 (zi (c := 2) hi (by decide) hL) dL_law_675 ?_
  refine z_ciC (z_rV (As := [.int (xs (nI i + (1 : Int32)).toNatClampNeg), .int (xs (nI i + (2 : Int32)).toNatClampNeg)]) (rest := []) Z M.1 (cm_X6_roofs l G adC Z.2.2.2.1 2000 (xs (nI i + (1 : Int32)).toNatClampNeg) (xs (nI i + (2 : Int32)).toNatClampNeg) μC _ hf) mc_X6_roofs mv_X6_roofs lk_L_75 mn_X6_roofs rgc_0 rfl hl ⟨⟨Nat.le_of_ble_eq_true rfl, Nat.le_of_ble_eq_true rfl⟩, rfl, Nat.le_of_ble_eq_true rfl, Nat.le_of_ble_eq_true rfl, Nat.le_of_ble_eq_true rfl⟩ rfl dL_law_676) Z M (fun r1_ uC_ H locs hf M => ?_)
  try dsimp only at hf
  refine lv_aload_n hx hb dL_law_679 rfl (lv_at hl 1 rfl) ?_
  refine lv_aload_n hx hb dL_law_680 rfl (lv_at hl 3 rfl) ?_
  refine lv_iload_n hx hb dL_law_681 rfl (lv_at hl 0 rfl) ?_
  refine lv_iconst (v := (1 : Int32)) hx hb dL_law_682 (by decide) ?_
  refine lv_iadd hx hb dL_law_683 ?_
  refine va_sld hx hb hX hbl hbA M.2.2 (zi (c := 1) hi (by decide) hL) dL_law_684 ?_
  refine lv_aload_n hx hb dL_law_685 rfl (lv_at hl 3 rfl) ?_
  refine lv_iload_n hx hb dL_law_686 rfl (lv_at hl 0 rfl) ?_
  refine lv_iconst (v := (2 : Int32)) hx hb dL_law_687 (by decide) ?_
  refine lv_iadd hx hb dL_law_688 ?_
  refine va_sld hx hb hX hbl hbA M.2.2 (zi (c := 2) hi (by decide) hL) dL_law_689 ?_
  refine z_ciM (z_rV (As := [.int (xs (nI i + (1 : Int32)).toNatClampNeg), .int (xs (nI i + (2 : Int32)).toNatClampNeg)]) (rest := [.int r1_]) Z M.2.1 (cm_X7_roofs l G adM Z.2.2.2.2.1 2000 (xs (nI i + (1 : Int32)).toNatClampNeg) (xs (nI i + (2 : Int32)).toNatClampNeg) μM _ hf) mc_X7_roofs mv_X7_roofs lk_L_78 mn_X7_roofs rgm_0 rfl hl ⟨⟨Nat.le_of_ble_eq_true rfl, Nat.le_of_ble_eq_true rfl⟩, rfl, Nat.le_of_ble_eq_true rfl, Nat.le_of_ble_eq_true rfl, Nat.le_of_ble_eq_true rfl⟩ rfl dL_law_690) Z M (fun r2_ uM_ H locs hf M => ?_)
  try dsimp only at hf
  refine lv_icmp_eq (tgt := 1270) hx hb dL_law_693 (by decide) (fun _ => ?_) (fun c_ => absurd hf.1 c_)
  refine lv_iinc (v := nI (i + 6)) (lv' := [(3, .int (nI (i + 6))), (2, .ref (adM 0)), (1, .ref (adC 0)), (0, .ref b)]) hx hb dL_law_1270 hl (k := 0) rfl (nI_add i 6) (by decide) rfl (fun ls hl => ?_)
  refine lv_goto (tgt := 18) hx hb dL_law_1273 (by decide) ?_
  exact again uC_ uM_ _ _ _ hf.2 M hl
set_option maxHeartbeats 4000000 in
set_option maxRecDepth 100000 in
theorem lc_takenFor {p : Program} {l : Launch} {e : Env} {s : State} {m : MethodId} {below : List Frame} {meth : Method} {c : Code} {b L i : Nat} {xs : Nat → Int32} {G : xG} {adC adM : Nat → Nat} {Q : State → Prop} {μC μM : xM} {H : Heap} {locs : List Loc} {ls : Array Slot} (hL : L ≤ 384) (C0 : lw_At p s m meth c b L xs) (Z : zC G adC adM p m c s b) (hi : i + 6 ≤ L) (again : zA p l e s m below meth c b i G adC adM Q) (hr : rl μC μM) (M : zS G adC adM s μC μM H locs) (hl : lv_has ls 4 [(3, .int (nI i)), (2, .ref (adM 0)), (1, .ref (adC 0)), (0, .ref b)]) : W p l e room_1 s m #[Value.ref b] below meth c H locs 600000 7302249 Q (F0 m 698 ls []) := by
  obtain ⟨hx, hb, -, -, -, -, hX, hbl, -, -⟩ := id C0
  have hbA : ¬ (fun q : Nat => s.heap.size ≤ q) b := Nat.not_le.mpr hbl
  have hf := st_takenFor hr (xs (nI i + (1 : Int32)).toNatClampNeg) (xs (nI i + (2 : Int32)).toNatClampNeg) (xs (nI i + (3 : Int32)).toNatClampNeg) (xs (nI i + (4 : Int32)).toNatClampNeg) (xs (nI i + (5 : Int32)).toNatClampNeg)
  refine lv_aload_n hx hb dL_law_698 rfl (lv_at hl 2 rfl) ?_
  refine lv_aload_n hx hb dL_law_699 rfl (lv_at hl 3 rfl) ?_
  refine lv_iload_n hx hb dL_law_700 rfl (lv_at hl 0 rfl) ?_
  refine lv_iconst (v := (1 : Int32)) hx hb dL_law_701 (by decide) ?_
  refine lv_iadd hx hb dL_law_702 ?_
  refine va_sld hx hb hX hbl hbA M.2.2 (zi (c := 1) hi (by decide) hL) dL_law_703 ?_
  refine lv_aload_n hx hb dL_law_704 rfl (lv_at hl 3 rfl) ?_
  refine lv_iload_n hx hb dL_law_705 rfl (lv_at hl 0 rfl) ?_
  refine lv_iconst (v := (2 : Int32)) hx hb dL_law_706 (by decide) ?_
  refine lv_iadd hx hb dL_law_707 ?_
  refine va_sld hx hb hX hbl hbA M.2.2 (zi (c := 2) hi (by decide) hL) dL_law_708 ?_
  refine lv_aload_n hx hb dL_law_709 rfl (lv_at hl 3 rfl) ?_
  refine lv_iload_n hx hb dL_law_710 rfl (lv_at hl 0 rfl) ?_
  refine lv_iconst (v := (3 : Int32)) hx hb dL_law_711 (by decide) ?_
  refine lv_iadd hx hb dL_law_712 ?_
  refine va_sld hx hb hX hbl hbA M.2.2 (zi (c := 3) hi (by decide) hL) dL_law_713 ?_
  refine lv_aload_n hx hb dL_law_714 rfl (lv_at hl 3 rfl) ?_
  refine lv_iload_n hx hb dL_law_715 rfl (lv_at hl 0 rfl) ?_
  refine lv_iconst (v := (4 : Int32)) hx hb dL_law_716 (by decide) ?_
  refine lv_iadd hx hb dL_law_717 ?_
  refine va_sld hx hb hX hbl hbA M.2.2 (zi (c := 4) hi (by decide) hL) dL_law_718 ?_
  refine lv_aload_n hx hb dL_law_719 rfl (lv_at hl 3 rfl) ?_
  refine lv_iload_n hx hb dL_law_720 rfl (lv_at hl 0 rfl) ?_
  refine lv_iconst (v := (5 : Int32)) hx hb dL_law_721 (by decide) ?_
  refine lv_iadd hx hb dL_law_722 ?_
  refine va_sld hx hb hX hbl hbA M.2.2 (zi (c := 5) hi (by decide) hL) dL_law_723 ?_
  refine z_ciC (z_rV (As := [.int (xs (nI i + (1 : Int32)).toNatClampNeg), .int (xs (nI i + (2 : Int32)).toNatClampNeg), .int (xs (nI i + (3 : Int32)).toNatClampNeg), .int (xs (nI i + (4 : Int32)).toNatClampNeg), .int (xs (nI i + (5 : Int32)).toNatClampNeg)]) (rest := []) Z M.1 (cm_X6_takenFor l G adC Z.2.2.2.1 2000 (xs (nI i + (1 : Int32)).toNatClampNeg) (xs (nI i + (2 : Int32)).toNatClampNeg) (xs (nI i + (3 : Int32)).toNatClampNeg) (xs (nI i + (4 : Int32)).toNatClampNeg) (xs (nI i + (5 : Int32)).toNatClampNeg) μC _ hf) mc_X6_takenFor mv_X6_takenFor lk_L_79 mn_X6_takenFor rgc_0 rfl hl ⟨⟨Nat.le_of_ble_eq_true rfl, Nat.le_of_ble_eq_true rfl⟩, rfl, Nat.le_of_ble_eq_true rfl, Nat.le_of_ble_eq_true rfl, Nat.le_of_ble_eq_true rfl⟩ rfl dL_law_724) Z M (fun r1_ uC_ H locs hf M => ?_)
  try dsimp only at hf
  refine lv_aload_n hx hb dL_law_727 rfl (lv_at hl 1 rfl) ?_
  refine lv_aload_n hx hb dL_law_728 rfl (lv_at hl 3 rfl) ?_
  refine lv_iload_n hx hb dL_law_729 rfl (lv_at hl 0 rfl) ?_
  refine lv_iconst (v := (1 : Int32)) hx hb dL_law_730 (by decide) ?_
  refine lv_iadd hx hb dL_law_731 ?_
  refine va_sld hx hb hX hbl hbA M.2.2 (zi (c := 1) hi (by decide) hL) dL_law_732 ?_
  refine lv_aload_n hx hb dL_law_733 rfl (lv_at hl 3 rfl) ?_
  refine lv_iload_n hx hb dL_law_734 rfl (lv_at hl 0 rfl) ?_
  refine lv_iconst (v := (2 : Int32)) hx hb dL_law_735 (by decide) ?_
  refine lv_iadd hx hb dL_law_736 ?_
  refine va_sld hx hb hX hbl hbA M.2.2 (zi (c := 2) hi (by decide) hL) dL_law_737 ?_
  refine lv_aload_n hx hb dL_law_738 rfl (lv_at hl 3 rfl) ?_
  refine lv_iload_n hx hb dL_law_739 rfl (lv_at hl 0 rfl) ?_
  refine lv_iconst (v := (3 : Int32)) hx hb dL_law_740 (by decide) ?_
  refine lv_iadd hx hb dL_law_741 ?_
  refine va_sld hx hb hX hbl hbA M.2.2 (zi (c := 3) hi (by decide) hL) dL_law_742 ?_
  refine lv_aload_n hx hb dL_law_743 rfl (lv_at hl 3 rfl) ?_
  refine lv_iload_n hx hb dL_law_744 rfl (lv_at hl 0 rfl) ?_
  refine lv_iconst (v := (4 : Int32)) hx hb dL_law_745 (by decide) ?_
  refine lv_iadd hx hb dL_law_746 ?_
  refine va_sld hx hb hX hbl hbA M.2.2 (zi (c := 4) hi (by decide) hL) dL_law_747 ?_
  refine lv_aload_n hx hb dL_law_748 rfl (lv_at hl 3 rfl) ?_
  refine lv_iload_n hx hb dL_law_749 rfl (lv_at hl 0 rfl) ?_
  refine lv_iconst (v := (5 : Int32)) hx hb dL_law_750 (by decide) ?_
  refine lv_iadd hx hb dL_law_751 ?_
  refine va_sld hx hb hX hbl hbA M.2.2 (zi (c := 5) hi (by decide) hL) dL_law_752 ?_
  refine z_ciM (z_rV (As := [.int (xs (nI i + (1 : Int32)).toNatClampNeg), .int (xs (nI i + (2 : Int32)).toNatClampNeg), .int (xs (nI i + (3 : Int32)).toNatClampNeg), .int (xs (nI i + (4 : Int32)).toNatClampNeg), .int (xs (nI i + (5 : Int32)).toNatClampNeg)]) (rest := [.int r1_]) Z M.2.1 (cm_X7_takenFor l G adM Z.2.2.2.2.1 2000 (xs (nI i + (1 : Int32)).toNatClampNeg) (xs (nI i + (2 : Int32)).toNatClampNeg) (xs (nI i + (3 : Int32)).toNatClampNeg) (xs (nI i + (4 : Int32)).toNatClampNeg) (xs (nI i + (5 : Int32)).toNatClampNeg) μM _ hf) mc_X7_takenFor mv_X7_takenFor lk_L_83 mn_X7_takenFor rgm_0 rfl hl ⟨⟨Nat.le_of_ble_eq_true rfl, Nat.le_of_ble_eq_true rfl⟩, rfl, Nat.le_of_ble_eq_true rfl, Nat.le_of_ble_eq_true rfl, Nat.le_of_ble_eq_true rfl⟩ rfl dL_law_753) Z M (fun r2_ uM_ H locs hf M => ?_)
  try dsimp only at hf
  refine lv_icmp_eq (tgt := 1270) hx hb dL_law_756 (by decide) (fun _ => ?_) (fun c_ => absurd hf.1 c_)
  refine lv_iinc (v := nI (i + 6)) (lv' := [(3, .int (nI (i + 6))), (2, .ref (adM 0)), (1, .ref (adC 0)), (0, .ref b)]) hx hb dL_law_1270 hl (k := 0) rfl (nI_add i 6) (by decide) rfl (fun ls hl => ?_)
  refine lv_goto (tgt := 18) hx hb dL_law_1273 (by decide) ?_
  exact again uC_ uM_ _ _ _ hf.2 M hl
set_option maxHeartbeats 4000000 in
set_option maxRecDepth 100000 in
theorem lc_whose {p : Program} {l : Launch} {e : Env} {s : State} {m : MethodId} {below : List Frame} {meth : Method} {c : Code} {b L i : Nat} {xs : Nat → Int32} {G : xG} {adC adM : Nat → Nat} {Q : State → Prop} {μC μM : xM} {H : Heap} {locs : List Loc} {ls : Array Slot} (hL : L ≤ 384) (C0 : lw_At p s m meth c b L xs) (Z : zC G adC adM p m c s b) (hi : i + 6 ≤ L) (again : zA p l e s m below meth c b i G adC adM Q) (hr : rl μC μM) (M : zS G adC adM s μC μM H locs) (hl : lv_has ls 4 [(3, .int (nI i)), (2, .ref (adM 0)), (1, .ref (adC 0)), (0, .ref b)]) : W p l e room_1 s m #[Value.ref b] below meth c H locs 600000 7302249 Q (F0 m 761 ls []) := by
  obtain ⟨hx, hb, -, -, -, -, hX, hbl, -, -⟩ := id C0
  have hbA : ¬ (fun q : Nat => s.heap.size ≤ q) b := Nat.not_le.mpr hbl
  have hf := st_whose hr (xs (nI i + (1 : Int32)).toNatClampNeg) (xs (nI i + (2 : Int32)).toNatClampNeg)
  refine lv_aload_n hx hb dL_law_761 rfl (lv_at hl 2 rfl) ?_
  refine lv_aload_n hx hb dL_law_762 rfl (lv_at hl 3 rfl) ?_
  refine lv_iload_n hx hb dL_law_763 rfl (lv_at hl 0 rfl) ?_
  refine lv_iconst (v := (1 : Int32)) hx hb dL_law_764 (by decide) ?_
  refine lv_iadd hx hb dL_law_765 ?_
  refine va_sld hx hb hX hbl hbA M.2.2 (zi (c := 1) hi (by decide) hL) dL_law_766 ?_
  refine lv_aload_n hx hb dL_law_767 rfl (lv_at hl 3 rfl) ?_
  refine lv_iload_n hx hb dL_law_768 rfl (lv_at hl 0 rfl) ?_
  refine lv_iconst (v := (2 : Int32)) hx hb dL_law_769 (by decide) ?_
  refine lv_iadd hx hb dL_law_770 ?_
  refine va_sld hx hb hX hbl hbA M.2.2 (zi (c := 2) hi (by decide) hL) dL_law_771 ?_
  refine z_ciC (z_rV (As := [.int (xs (nI i + (1 : Int32)).toNatClampNeg), .int (xs (nI i + (2 : Int32)).toNatClampNeg)]) (rest := []) Z M.1 (cm_X6_whose l G adC Z.2.2.2.1 2000 (xs (nI i + (1 : Int32)).toNatClampNeg) (xs (nI i + (2 : Int32)).toNatClampNeg) μC _ hf) mc_X6_whose mv_X6_whose lk_L_84 mn_X6_whose rgc_0 rfl hl ⟨⟨Nat.le_of_ble_eq_true rfl, Nat.le_of_ble_eq_true rfl⟩, rfl, Nat.le_of_ble_eq_true rfl, Nat.le_of_ble_eq_true rfl, Nat.le_of_ble_eq_true rfl⟩ rfl dL_law_772) Z M (fun r1_ uC_ H locs hf M => ?_)
  try dsimp only at hf
  refine lv_aload_n hx hb dL_law_775 rfl (lv_at hl 1 rfl) ?_
  refine lv_aload_n hx hb dL_law_776 rfl (lv_at hl 3 rfl) ?_
  refine lv_iload_n hx hb dL_law_777 rfl (lv_at hl 0 rfl) ?_
  refine lv_iconst (v := (1 : Int32)) hx hb dL_law_778 (by decide) ?_
  refine lv_iadd hx hb dL_law_779 ?_
  refine va_sld hx hb hX hbl hbA M.2.2 (zi (c := 1) hi (by decide) hL) dL_law_780 ?_
  refine lv_aload_n hx hb dL_law_781 rfl (lv_at hl 3 rfl) ?_
  refine lv_iload_n hx hb dL_law_782 rfl (lv_at hl 0 rfl) ?_
  refine lv_iconst (v := (2 : Int32)) hx hb dL_law_783 (by decide) ?_
  refine lv_iadd hx hb dL_law_784 ?_
  refine va_sld hx hb hX hbl hbA M.2.2 (zi (c := 2) hi (by decide) hL) dL_law_785 ?_
  refine z_ciM (z_rV (As := [.int (xs (nI i + (1 : Int32)).toNatClampNeg), .int (xs (nI i + (2 : Int32)).toNatClampNeg)]) (rest := [.int r1_]) Z M.2.1 (cm_X7_whose l G adM Z.2.2.2.2.1 2000 (xs (nI i + (1 : Int32)).toNatClampNeg) (xs (nI i + (2 : Int32)).toNatClampNeg) μM _ hf) mc_X7_whose mv_X7_whose lk_L_87 mn_X7_whose rgm_0 rfl hl ⟨⟨Nat.le_of_ble_eq_true rfl, Nat.le_of_ble_eq_true rfl⟩, rfl, Nat.le_of_ble_eq_true rfl, Nat.le_of_ble_eq_true rfl, Nat.le_of_ble_eq_true rfl⟩ rfl dL_law_786) Z M (fun r2_ uM_ H locs hf M => ?_)
  try dsimp only at hf
  refine lv_icmp_eq (tgt := 1270) hx hb dL_law_789 (by decide) (fun _ => ?_) (fun c_ => absurd hf.1 c_)
  refine lv_iinc (v := nI (i + 6)) (lv' := [(3, .int (nI (i + 6))), (2, .ref (adM 0)), (1, .ref (adC 0)), (0, .ref b)]) hx hb dL_law_1270 hl (k := 0) rfl (nI_add i 6) (by decide) rfl (fun ls hl => ?_)
  refine lv_goto (tgt := 18) hx hb dL_law_1273 (by decide) ?_
  exact again uC_ uM_ _ _ _ hf.2 M hl
set_option maxHeartbeats 4000000 in
set_option maxRecDepth 100000 in
theorem lc_reading {p : Program} {l : Launch} {e : Env} {s : State} {m : MethodId} {below : List Frame} {meth : Method} {c : Code} {b L i : Nat} {xs : Nat → Int32} {G : xG} {adC adM : Nat → Nat} {Q : State → Prop} {μC μM : xM} {H : Heap} {locs : List Loc} {ls : Array Slot} (hL : L ≤ 384) (C0 : lw_At p s m meth c b L xs) (Z : zC G adC adM p m c s b) (hi : i + 6 ≤ L) (again : zA p l e s m below meth c b i G adC adM Q) (hr : rl μC μM) (M : zS G adC adM s μC μM H locs) (hl : lv_has ls 4 [(3, .int (nI i)), (2, .ref (adM 0)), (1, .ref (adC 0)), (0, .ref b)]) : W p l e room_1 s m #[Value.ref b] below meth c H locs 600000 7302249 Q (F0 m 794 ls []) := by
  obtain ⟨hx, hb, -, -, -, -, hX, hbl, -, -⟩ := id C0
  have hbA : ¬ (fun q : Nat => s.heap.size ≤ q) b := Nat.not_le.mpr hbl
  have hf := st_reading hr (xs (nI i + (1 : Int32)).toNatClampNeg) (xs (nI i + (2 : Int32)).toNatClampNeg) (xs (nI i + (3 : Int32)).toNatClampNeg) (xs (nI i + (4 : Int32)).toNatClampNeg)
  refine lv_aload_n hx hb dL_law_794 rfl (lv_at hl 2 rfl) ?_
  refine lv_aload_n hx hb dL_law_795 rfl (lv_at hl 3 rfl) ?_
  refine lv_iload_n hx hb dL_law_796 rfl (lv_at hl 0 rfl) ?_
  refine lv_iconst (v := (1 : Int32)) hx hb dL_law_797 (by decide) ?_
  refine lv_iadd hx hb dL_law_798 ?_
  refine va_sld hx hb hX hbl hbA M.2.2 (zi (c := 1) hi (by decide) hL) dL_law_799 ?_
  refine lv_aload_n hx hb dL_law_800 rfl (lv_at hl 3 rfl) ?_
  refine lv_iload_n hx hb dL_law_801 rfl (lv_at hl 0 rfl) ?_
  refine lv_iconst (v := (2 : Int32)) hx hb dL_law_802 (by decide) ?_
  refine lv_iadd hx hb dL_law_803 ?_
  refine va_sld hx hb hX hbl hbA M.2.2 (zi (c := 2) hi (by decide) hL) dL_law_804 ?_
  refine lv_aload_n hx hb dL_law_805 rfl (lv_at hl 3 rfl) ?_
  refine lv_iload_n hx hb dL_law_806 rfl (lv_at hl 0 rfl) ?_
  refine lv_iconst (v := (3 : Int32)) hx hb dL_law_807 (by decide) ?_
  refine lv_iadd hx hb dL_law_808 ?_
  refine va_sld hx hb hX hbl hbA M.2.2 (zi (c := 3) hi (by decide) hL) dL_law_809 ?_
  refine lv_aload_n hx hb dL_law_810 rfl (lv_at hl 3 rfl) ?_
  refine lv_iload_n hx hb dL_law_811 rfl (lv_at hl 0 rfl) ?_
  refine lv_iconst (v := (4 : Int32)) hx hb dL_law_812 (by decide) ?_
  refine lv_iadd hx hb dL_law_813 ?_
  refine va_sld hx hb hX hbl hbA M.2.2 (zi (c := 4) hi (by decide) hL) dL_law_814 ?_
  refine z_ciC (z_rV (As := [.int (xs (nI i + (1 : Int32)).toNatClampNeg), .int (xs (nI i + (2 : Int32)).toNatClampNeg), .int (xs (nI i + (3 : Int32)).toNatClampNeg), .int (xs (nI i + (4 : Int32)).toNatClampNeg)]) (rest := []) Z M.1 (cm_X6_reading l G adC Z.2.2.2.1 2000 (xs (nI i + (1 : Int32)).toNatClampNeg) (xs (nI i + (2 : Int32)).toNatClampNeg) (xs (nI i + (3 : Int32)).toNatClampNeg) (xs (nI i + (4 : Int32)).toNatClampNeg) μC _ hf) mc_X6_reading mv_X6_reading lk_L_88 mn_X6_reading rgc_0 rfl hl ⟨⟨Nat.le_of_ble_eq_true rfl, Nat.le_of_ble_eq_true rfl⟩, rfl, Nat.le_of_ble_eq_true rfl, Nat.le_of_ble_eq_true rfl, Nat.le_of_ble_eq_true rfl⟩ rfl dL_law_815) Z M (fun r1_ uC_ H locs hf M => ?_)
  try dsimp only at hf
  refine lv_aload_n hx hb dL_law_818 rfl (lv_at hl 1 rfl) ?_
  refine lv_aload_n hx hb dL_law_819 rfl (lv_at hl 3 rfl) ?_
  refine lv_iload_n hx hb dL_law_820 rfl (lv_at hl 0 rfl) ?_
  refine lv_iconst (v := (1 : Int32)) hx hb dL_law_821 (by decide) ?_
  refine lv_iadd hx hb dL_law_822 ?_
  refine va_sld hx hb hX hbl hbA M.2.2 (zi (c := 1) hi (by decide) hL) dL_law_823 ?_
  refine lv_aload_n hx hb dL_law_824 rfl (lv_at hl 3 rfl) ?_
  refine lv_iload_n hx hb dL_law_825 rfl (lv_at hl 0 rfl) ?_
  refine lv_iconst (v := (2 : Int32)) hx hb dL_law_826 (by decide) ?_
  refine lv_iadd hx hb dL_law_827 ?_
  refine va_sld hx hb hX hbl hbA M.2.2 (zi (c := 2) hi (by decide) hL) dL_law_828 ?_
  refine lv_aload_n hx hb dL_law_829 rfl (lv_at hl 3 rfl) ?_
  refine lv_iload_n hx hb dL_law_830 rfl (lv_at hl 0 rfl) ?_
  refine lv_iconst (v := (3 : Int32)) hx hb dL_law_831 (by decide) ?_
  refine lv_iadd hx hb dL_law_832 ?_
  refine va_sld hx hb hX hbl hbA M.2.2 (zi (c := 3) hi (by decide) hL) dL_law_833 ?_
  refine lv_aload_n hx hb dL_law_834 rfl (lv_at hl 3 rfl) ?_
  refine lv_iload_n hx hb dL_law_835 rfl (lv_at hl 0 rfl) ?_
  refine lv_iconst (v := (4 : Int32)) hx hb dL_law_836 (by decide) ?_
  refine lv_iadd hx hb dL_law_837 ?_
  refine va_sld hx hb hX hbl hbA M.2.2 (zi (c := 4) hi (by decide) hL) dL_law_838 ?_
  refine z_ciM (z_rV (As := [.int (xs (nI i + (1 : Int32)).toNatClampNeg), .int (xs (nI i + (2 : Int32)).toNatClampNeg), .int (xs (nI i + (3 : Int32)).toNatClampNeg), .int (xs (nI i + (4 : Int32)).toNatClampNeg)]) (rest := [.int r1_]) Z M.2.1 (cm_X7_reading l G adM Z.2.2.2.2.1 2000 (xs (nI i + (1 : Int32)).toNatClampNeg) (xs (nI i + (2 : Int32)).toNatClampNeg) (xs (nI i + (3 : Int32)).toNatClampNeg) (xs (nI i + (4 : Int32)).toNatClampNeg) μM _ hf) mc_X7_reading mv_X7_reading lk_L_91 mn_X7_reading rgm_0 rfl hl ⟨⟨Nat.le_of_ble_eq_true rfl, Nat.le_of_ble_eq_true rfl⟩, rfl, Nat.le_of_ble_eq_true rfl, Nat.le_of_ble_eq_true rfl, Nat.le_of_ble_eq_true rfl⟩ rfl dL_law_839) Z M (fun r2_ uM_ H locs hf M => ?_)
  try dsimp only at hf
  refine lv_icmp_eq (tgt := 1270) hx hb dL_law_842 (by decide) (fun _ => ?_) (fun c_ => absurd hf.1 c_)
  refine lv_iinc (v := nI (i + 6)) (lv' := [(3, .int (nI (i + 6))), (2, .ref (adM 0)), (1, .ref (adC 0)), (0, .ref b)]) hx hb dL_law_1270 hl (k := 0) rfl (nI_add i 6) (by decide) rfl (fun ls hl => ?_)
  refine lv_goto (tgt := 18) hx hb dL_law_1273 (by decide) ?_
  exact again uC_ uM_ _ _ _ hf.2 M hl
set_option maxHeartbeats 4000000 in
set_option maxRecDepth 100000 in
theorem lc_back {p : Program} {l : Launch} {e : Env} {s : State} {m : MethodId} {below : List Frame} {meth : Method} {c : Code} {b L i : Nat} {xs : Nat → Int32} {G : xG} {adC adM : Nat → Nat} {Q : State → Prop} {μC μM : xM} {H : Heap} {locs : List Loc} {ls : Array Slot} (hL : L ≤ 384) (C0 : lw_At p s m meth c b L xs) (Z : zC G adC adM p m c s b) (hi : i + 6 ≤ L) (again : zA p l e s m below meth c b i G adC adM Q) (hr : rl μC μM) (M : zS G adC adM s μC μM H locs) (hl : lv_has ls 4 [(3, .int (nI i)), (2, .ref (adM 0)), (1, .ref (adC 0)), (0, .ref b)]) : W p l e room_1 s m #[Value.ref b] below meth c H locs 600000 7302249 Q (F0 m 847 ls []) := by
  obtain ⟨hx, hb, -, -, -, -, hX, hbl, -, -⟩ := id C0
  have hbA : ¬ (fun q : Nat => s.heap.size ≤ q) b := Nat.not_le.mpr hbl
  have hf := st_back hr (xs (nI i + (1 : Int32)).toNatClampNeg)
  refine lv_aload_n hx hb dL_law_847 rfl (lv_at hl 2 rfl) ?_
  refine lv_aload_n hx hb dL_law_848 rfl (lv_at hl 3 rfl) ?_
  refine lv_iload_n hx hb dL_law_849 rfl (lv_at hl 0 rfl) ?_
  refine lv_iconst (v := (1 : Int32)) hx hb dL_law_850 (by decide) ?_
  refine lv_iadd hx hb dL_law_851 ?_
  refine va_sld hx hb hX hbl hbA M.2.2 (zi (c := 1) hi (by decide) hL) dL_law_852 ?_
  refine z_ciC (z_rV (As := [.int (xs (nI i + (1 : Int32)).toNatClampNeg)]) (rest := []) Z M.1 (cm_X6_back l G adC Z.2.2.2.1 2000 (xs (nI i + (1 : Int32)).toNatClampNeg) μC _ hf) mc_X6_back mv_X6_back lk_L_92 mn_X6_back rgc_0 rfl hl ⟨⟨Nat.le_of_ble_eq_true rfl, Nat.le_of_ble_eq_true rfl⟩, rfl, Nat.le_of_ble_eq_true rfl, Nat.le_of_ble_eq_true rfl, Nat.le_of_ble_eq_true rfl⟩ rfl dL_law_853) Z M (fun r1_ uC_ H locs hf M => ?_)
  try dsimp only at hf
  refine lv_aload_n hx hb dL_law_856 rfl (lv_at hl 1 rfl) ?_
  refine lv_aload_n hx hb dL_law_857 rfl (lv_at hl 3 rfl) ?_
  refine lv_iload_n hx hb dL_law_858 rfl (lv_at hl 0 rfl) ?_
  refine lv_iconst (v := (1 : Int32)) hx hb dL_law_859 (by decide) ?_
  refine lv_iadd hx hb dL_law_860 ?_
  refine va_sld hx hb hX hbl hbA M.2.2 (zi (c := 1) hi (by decide) hL) dL_law_861 ?_
  refine z_ciM (z_rV (As := [.int (xs (nI i + (1 : Int32)).toNatClampNeg)]) (rest := [.int r1_]) Z M.2.1 (cm_X7_back l G adM Z.2.2.2.2.1 2000 (xs (nI i + (1 : Int32)).toNatClampNeg) μM _ hf) mc_X7_back mv_X7_back lk_L_95 mn_X7_back rgm_0 rfl hl ⟨⟨Nat.le_of_ble_eq_true rfl, Nat.le_of_ble_eq_true rfl⟩, rfl, Nat.le_of_ble_eq_true rfl, Nat.le_of_ble_eq_true rfl, Nat.le_of_ble_eq_true rfl⟩ rfl dL_law_862) Z M (fun r2_ uM_ H locs hf M => ?_)
  try dsimp only at hf
  refine lv_icmp_eq (tgt := 1270) hx hb dL_law_865 (by decide) (fun _ => ?_) (fun c_ => absurd hf.1 c_)
  refine lv_iinc (v := nI (i + 6)) (lv' := [(3, .int (nI (i + 6))), (2, .ref (adM 0)), (1, .ref (adC 0)), (0, .ref b)]) hx hb dL_law_1270 hl (k := 0) rfl (nI_add i 6) (by decide) rfl (fun ls hl => ?_)
  refine lv_goto (tgt := 18) hx hb dL_law_1273 (by decide) ?_
  exact again uC_ uM_ _ _ _ hf.2 M hl
set_option maxHeartbeats 4000000 in
set_option maxRecDepth 100000 in
theorem lc_rains {p : Program} {l : Launch} {e : Env} {s : State} {m : MethodId} {below : List Frame} {meth : Method} {c : Code} {b L i : Nat} {xs : Nat → Int32} {G : xG} {adC adM : Nat → Nat} {Q : State → Prop} {μC μM : xM} {H : Heap} {locs : List Loc} {ls : Array Slot} (hL : L ≤ 384) (C0 : lw_At p s m meth c b L xs) (Z : zC G adC adM p m c s b) (hi : i + 6 ≤ L) (again : zA p l e s m below meth c b i G adC adM Q) (hr : rl μC μM) (M : zS G adC adM s μC μM H locs) (hl : lv_has ls 4 [(3, .int (nI i)), (2, .ref (adM 0)), (1, .ref (adC 0)), (0, .ref b)]) : W p l e room_1 s m #[Value.ref b] below meth c H locs 600000 7302249 Q (F0 m 870 ls []) := by
  obtain ⟨hx, hb, -, -, -, -, hX, hbl, -, -⟩ := id C0
  have hbA : ¬ (fun q : Nat => s.heap.size ≤ q) b := Nat.not_le.mpr hbl
  have hf := st_rains hr (xs (nI i + (1 : Int32)).toNatClampNeg)
  refine lv_aload_n hx hb dL_law_870 rfl (lv_at hl 2 rfl) ?_
  refine lv_aload_n hx hb dL_law_871 rfl (lv_at hl 3 rfl) ?_
  refine lv_iload_n hx hb dL_law_872 rfl (lv_at hl 0 rfl) ?_
  refine lv_iconst (v := (1 : Int32)) hx hb dL_law_873 (by decide) ?_
  refine lv_iadd hx hb dL_law_874 ?_
  refine va_sld hx hb hX hbl hbA M.2.2 (zi (c := 1) hi (by decide) hL) dL_law_875 ?_
  refine z_ciC (z_rV (As := [.int (xs (nI i + (1 : Int32)).toNatClampNeg)]) (rest := []) Z M.1 (cm_X6_rains l G adC Z.2.2.2.1 2000 (xs (nI i + (1 : Int32)).toNatClampNeg) μC _ hf) mc_X6_rains mv_X6_rains lk_L_96 mn_X6_rains rgc_0 rfl hl ⟨⟨Nat.le_of_ble_eq_true rfl, Nat.le_of_ble_eq_true rfl⟩, rfl, Nat.le_of_ble_eq_true rfl, Nat.le_of_ble_eq_true rfl, Nat.le_of_ble_eq_true rfl⟩ rfl dL_law_876) Z M (fun r1_ uC_ H locs hf M => ?_)
  try dsimp only at hf
  refine lv_aload_n hx hb dL_law_879 rfl (lv_at hl 1 rfl) ?_
  refine lv_aload_n hx hb dL_law_880 rfl (lv_at hl 3 rfl) ?_
  refine lv_iload_n hx hb dL_law_881 rfl (lv_at hl 0 rfl) ?_
  refine lv_iconst (v := (1 : Int32)) hx hb dL_law_882 (by decide) ?_
  refine lv_iadd hx hb dL_law_883 ?_
  refine va_sld hx hb hX hbl hbA M.2.2 (zi (c := 1) hi (by decide) hL) dL_law_884 ?_
  refine z_ciM (z_rV (As := [.int (xs (nI i + (1 : Int32)).toNatClampNeg)]) (rest := [.int r1_]) Z M.2.1 (cm_X7_rains l G adM Z.2.2.2.2.1 2000 (xs (nI i + (1 : Int32)).toNatClampNeg) μM _ hf) mc_X7_rains mv_X7_rains lk_L_99 mn_X7_rains rgm_0 rfl hl ⟨⟨Nat.le_of_ble_eq_true rfl, Nat.le_of_ble_eq_true rfl⟩, rfl, Nat.le_of_ble_eq_true rfl, Nat.le_of_ble_eq_true rfl, Nat.le_of_ble_eq_true rfl⟩ rfl dL_law_885) Z M (fun r2_ uM_ H locs hf M => ?_)
  try dsimp only at hf
  refine lv_icmp_eq (tgt := 1270) hx hb dL_law_888 (by decide) (fun _ => ?_) (fun c_ => absurd hf.1 c_)
  refine lv_iinc (v := nI (i + 6)) (lv' := [(3, .int (nI (i + 6))), (2, .ref (adM 0)), (1, .ref (adC 0)), (0, .ref b)]) hx hb dL_law_1270 hl (k := 0) rfl (nI_add i 6) (by decide) rfl (fun ls hl => ?_)
  refine lv_goto (tgt := 18) hx hb dL_law_1273 (by decide) ?_
  exact again uC_ uM_ _ _ _ hf.2 M hl
set_option maxHeartbeats 4000000 in
set_option maxRecDepth 100000 in
theorem lc_cast {p : Program} {l : Launch} {e : Env} {s : State} {m : MethodId} {below : List Frame} {meth : Method} {c : Code} {b L i : Nat} {xs : Nat → Int32} {G : xG} {adC adM : Nat → Nat} {Q : State → Prop} {μC μM : xM} {H : Heap} {locs : List Loc} {ls : Array Slot} (hL : L ≤ 384) (C0 : lw_At p s m meth c b L xs) (Z : zC G adC adM p m c s b) (hi : i + 6 ≤ L) (again : zA p l e s m below meth c b i G adC adM Q) (hr : rl μC μM) (M : zS G adC adM s μC μM H locs) (hl : lv_has ls 4 [(3, .int (nI i)), (2, .ref (adM 0)), (1, .ref (adC 0)), (0, .ref b)]) : W p l e room_1 s m #[Value.ref b] below meth c H locs 600000 7302249 Q (F0 m 893 ls []) := by
  obtain ⟨hx, hb, -, -, -, -, hX, hbl, -, -⟩ := id C0
  have hbA : ¬ (fun q : Nat => s.heap.size ≤ q) b := Nat.not_le.mpr hbl
  have hf := st_cast hr (xs (nI i + (1 : Int32)).toNatClampNeg) (xs (nI i + (2 : Int32)).toNatClampNeg)
  refine lv_aload_n hx hb dL_law_893 rfl (lv_at hl 2 rfl) ?_
  refine lv_aload_n hx hb dL_law_894 rfl (lv_at hl 3 rfl) ?_
  refine lv_iload_n hx hb dL_law_895 rfl (lv_at hl 0 rfl) ?_
  refine lv_iconst (v := (1 : Int32)) hx hb dL_law_896 (by decide) ?_
  refine lv_iadd hx hb dL_law_897 ?_
  refine va_sld hx hb hX hbl hbA M.2.2 (zi (c := 1) hi (by decide) hL) dL_law_898 ?_
  refine lv_aload_n hx hb dL_law_899 rfl (lv_at hl 3 rfl) ?_
  refine lv_iload_n hx hb dL_law_900 rfl (lv_at hl 0 rfl) ?_
  refine lv_iconst (v := (2 : Int32)) hx hb dL_law_901 (by decide) ?_
  refine lv_iadd hx hb dL_law_902 ?_
  refine va_sld hx hb hX hbl hbA M.2.2 (zi (c := 2) hi (by decide) hL) dL_law_903 ?_
  refine z_ciC (z_rV (As := [.int (xs (nI i + (1 : Int32)).toNatClampNeg), .int (xs (nI i + (2 : Int32)).toNatClampNeg)]) (rest := []) Z M.1 (cm_X6_cast l G adC Z.2.2.2.1 2000 (xs (nI i + (1 : Int32)).toNatClampNeg) (xs (nI i + (2 : Int32)).toNatClampNeg) μC _ hf) mc_X6_cast mv_X6_cast lk_L_100 mn_X6_cast rgc_0 rfl hl ⟨⟨Nat.le_of_ble_eq_true rfl, Nat.le_of_ble_eq_true rfl⟩, rfl, Nat.le_of_ble_eq_true rfl, Nat.le_of_ble_eq_true rfl, Nat.le_of_ble_eq_true rfl⟩ rfl dL_law_904) Z M (fun r1_ uC_ H locs hf M => ?_)
  try dsimp only at hf
  refine lv_aload_n hx hb dL_law_907 rfl (lv_at hl 1 rfl) ?_
  refine lv_aload_n hx hb dL_law_908 rfl (lv_at hl 3 rfl) ?_
  refine lv_iload_n hx hb dL_law_909 rfl (lv_at hl 0 rfl) ?_
  refine lv_iconst (v := (1 : Int32)) hx hb dL_law_910 (by decide) ?_
  refine lv_iadd hx hb dL_law_911 ?_
  refine va_sld hx hb hX hbl hbA M.2.2 (zi (c := 1) hi (by decide) hL) dL_law_912 ?_
  refine lv_aload_n hx hb dL_law_913 rfl (lv_at hl 3 rfl) ?_
  refine lv_iload_n hx hb dL_law_914 rfl (lv_at hl 0 rfl) ?_
  refine lv_iconst (v := (2 : Int32)) hx hb dL_law_915 (by decide) ?_
  refine lv_iadd hx hb dL_law_916 ?_
  refine va_sld hx hb hX hbl hbA M.2.2 (zi (c := 2) hi (by decide) hL) dL_law_917 ?_
  refine z_ciM (z_rV (As := [.int (xs (nI i + (1 : Int32)).toNatClampNeg), .int (xs (nI i + (2 : Int32)).toNatClampNeg)]) (rest := [.int r1_]) Z M.2.1 (cm_X7_cast l G adM Z.2.2.2.2.1 2000 (xs (nI i + (1 : Int32)).toNatClampNeg) (xs (nI i + (2 : Int32)).toNatClampNeg) μM _ hf) mc_X7_cast mv_X7_cast lk_L_103 mn_X7_cast rgm_0 rfl hl ⟨⟨Nat.le_of_ble_eq_true rfl, Nat.le_of_ble_eq_true rfl⟩, rfl, Nat.le_of_ble_eq_true rfl, Nat.le_of_ble_eq_true rfl, Nat.le_of_ble_eq_true rfl⟩ rfl dL_law_918) Z M (fun r2_ uM_ H locs hf M => ?_)
  try dsimp only at hf
  refine lv_icmp_eq (tgt := 1270) hx hb dL_law_921 (by decide) (fun _ => ?_) (fun c_ => absurd hf.1 c_)
  refine lv_iinc (v := nI (i + 6)) (lv' := [(3, .int (nI (i + 6))), (2, .ref (adM 0)), (1, .ref (adC 0)), (0, .ref b)]) hx hb dL_law_1270 hl (k := 0) rfl (nI_add i 6) (by decide) rfl (fun ls hl => ?_)
  refine lv_goto (tgt := 18) hx hb dL_law_1273 (by decide) ?_
  exact again uC_ uM_ _ _ _ hf.2 M hl
set_option maxHeartbeats 4000000 in
set_option maxRecDepth 100000 in
theorem lc_sheet {p : Program} {l : Launch} {e : Env} {s : State} {m : MethodId} {below : List Frame} {meth : Method} {c : Code} {b L i : Nat} {xs : Nat → Int32} {G : xG} {adC adM : Nat → Nat} {Q : State → Prop} {μC μM : xM} {H : Heap} {locs : List Loc} {ls : Array Slot} (hL : L ≤ 384) (C0 : lw_At p s m meth c b L xs) (Z : zC G adC adM p m c s b) (hi : i + 6 ≤ L) (again : zA p l e s m below meth c b i G adC adM Q) (hr : rl μC μM) (M : zS G adC adM s μC μM H locs) (hl : lv_has ls 4 [(3, .int (nI i)), (2, .ref (adM 0)), (1, .ref (adC 0)), (0, .ref b)]) : W p l e room_1 s m #[Value.ref b] below meth c H locs 600000 7302249 Q (F0 m 926 ls []) := by
  obtain ⟨hx, hb, -, -, -, -, hX, hbl, -, -⟩ := id C0
  have hbA : ¬ (fun q : Nat => s.heap.size ≤ q) b := Nat.not_le.mpr hbl
  have hf := st_sheet hr (xs (nI i + (1 : Int32)).toNatClampNeg) (xs (nI i + (2 : Int32)).toNatClampNeg) (xs (nI i + (3 : Int32)).toNatClampNeg)
  refine lv_aload_n hx hb dL_law_926 rfl (lv_at hl 2 rfl) ?_
  refine lv_aload_n hx hb dL_law_927 rfl (lv_at hl 3 rfl) ?_
  refine lv_iload_n hx hb dL_law_928 rfl (lv_at hl 0 rfl) ?_
  refine lv_iconst (v := (1 : Int32)) hx hb dL_law_929 (by decide) ?_
  refine lv_iadd hx hb dL_law_930 ?_
  refine va_sld hx hb hX hbl hbA M.2.2 (zi (c := 1) hi (by decide) hL) dL_law_931 ?_
  refine lv_aload_n hx hb dL_law_932 rfl (lv_at hl 3 rfl) ?_
  refine lv_iload_n hx hb dL_law_933 rfl (lv_at hl 0 rfl) ?_
  refine lv_iconst (v := (2 : Int32)) hx hb dL_law_934 (by decide) ?_
  refine lv_iadd hx hb dL_law_935 ?_
  refine va_sld hx hb hX hbl hbA M.2.2 (zi (c := 2) hi (by decide) hL) dL_law_936 ?_
  refine lv_aload_n hx hb dL_law_937 rfl (lv_at hl 3 rfl) ?_
  refine lv_iload_n hx hb dL_law_938 rfl (lv_at hl 0 rfl) ?_
  refine lv_iconst (v := (3 : Int32)) hx hb dL_law_939 (by decide) ?_
  refine lv_iadd hx hb dL_law_940 ?_
  refine va_sld hx hb hX hbl hbA M.2.2 (zi (c := 3) hi (by decide) hL) dL_law_941 ?_
  refine z_ciC (z_rV (As := [.int (xs (nI i + (1 : Int32)).toNatClampNeg), .int (xs (nI i + (2 : Int32)).toNatClampNeg), .int (xs (nI i + (3 : Int32)).toNatClampNeg)]) (rest := []) Z M.1 (cm_X6_sheet l G adC Z.2.2.2.1 2000 (xs (nI i + (1 : Int32)).toNatClampNeg) (xs (nI i + (2 : Int32)).toNatClampNeg) (xs (nI i + (3 : Int32)).toNatClampNeg) μC _ hf) mc_X6_sheet mv_X6_sheet lk_L_104 mn_X6_sheet rgc_0 rfl hl ⟨⟨Nat.le_of_ble_eq_true rfl, Nat.le_of_ble_eq_true rfl⟩, rfl, Nat.le_of_ble_eq_true rfl, Nat.le_of_ble_eq_true rfl, Nat.le_of_ble_eq_true rfl⟩ rfl dL_law_942) Z M (fun r1_ uC_ H locs hf M => ?_)
  try dsimp only at hf
  refine lv_aload_n hx hb dL_law_945 rfl (lv_at hl 1 rfl) ?_
  refine lv_aload_n hx hb dL_law_946 rfl (lv_at hl 3 rfl) ?_
  refine lv_iload_n hx hb dL_law_947 rfl (lv_at hl 0 rfl) ?_
  refine lv_iconst (v := (1 : Int32)) hx hb dL_law_948 (by decide) ?_
  refine lv_iadd hx hb dL_law_949 ?_
  refine va_sld hx hb hX hbl hbA M.2.2 (zi (c := 1) hi (by decide) hL) dL_law_950 ?_
  refine lv_aload_n hx hb dL_law_951 rfl (lv_at hl 3 rfl) ?_
  refine lv_iload_n hx hb dL_law_952 rfl (lv_at hl 0 rfl) ?_
  refine lv_iconst (v := (2 : Int32)) hx hb dL_law_953 (by decide) ?_
  refine lv_iadd hx hb dL_law_954 ?_
  refine va_sld hx hb hX hbl hbA M.2.2 (zi (c := 2) hi (by decide) hL) dL_law_955 ?_
  refine lv_aload_n hx hb dL_law_956 rfl (lv_at hl 3 rfl) ?_
  refine lv_iload_n hx hb dL_law_957 rfl (lv_at hl 0 rfl) ?_
  refine lv_iconst (v := (3 : Int32)) hx hb dL_law_958 (by decide) ?_
  refine lv_iadd hx hb dL_law_959 ?_
  refine va_sld hx hb hX hbl hbA M.2.2 (zi (c := 3) hi (by decide) hL) dL_law_960 ?_
  refine z_ciM (z_rV (As := [.int (xs (nI i + (1 : Int32)).toNatClampNeg), .int (xs (nI i + (2 : Int32)).toNatClampNeg), .int (xs (nI i + (3 : Int32)).toNatClampNeg)]) (rest := [.int r1_]) Z M.2.1 (cm_X7_sheet l G adM Z.2.2.2.2.1 2000 (xs (nI i + (1 : Int32)).toNatClampNeg) (xs (nI i + (2 : Int32)).toNatClampNeg) (xs (nI i + (3 : Int32)).toNatClampNeg) μM _ hf) mc_X7_sheet mv_X7_sheet lk_L_107 mn_X7_sheet rgm_0 rfl hl ⟨⟨Nat.le_of_ble_eq_true rfl, Nat.le_of_ble_eq_true rfl⟩, rfl, Nat.le_of_ble_eq_true rfl, Nat.le_of_ble_eq_true rfl, Nat.le_of_ble_eq_true rfl⟩ rfl dL_law_961) Z M (fun r2_ uM_ H locs hf M => ?_)
  try dsimp only at hf
  refine lv_icmp_eq (tgt := 1270) hx hb dL_law_964 (by decide) (fun _ => ?_) (fun c_ => absurd hf.1 c_)
  refine lv_iinc (v := nI (i + 6)) (lv' := [(3, .int (nI (i + 6))), (2, .ref (adM 0)), (1, .ref (adC 0)), (0, .ref b)]) hx hb dL_law_1270 hl (k := 0) rfl (nI_add i 6) (by decide) rfl (fun ls hl => ?_)
  refine lv_goto (tgt := 18) hx hb dL_law_1273 (by decide) ?_
  exact again uC_ uM_ _ _ _ hf.2 M hl
set_option maxHeartbeats 4000000 in
set_option maxRecDepth 100000 in
theorem lc_lose {p : Program} {l : Launch} {e : Env} {s : State} {m : MethodId} {below : List Frame} {meth : Method} {c : Code} {b L i : Nat} {xs : Nat → Int32} {G : xG} {adC adM : Nat → Nat} {Q : State → Prop} {μC μM : xM} {H : Heap} {locs : List Loc} {ls : Array Slot} (hL : L ≤ 384) (C0 : lw_At p s m meth c b L xs) (Z : zC G adC adM p m c s b) (hi : i + 6 ≤ L) (again : zA p l e s m below meth c b i G adC adM Q) (hr : rl μC μM) (M : zS G adC adM s μC μM H locs) (hl : lv_has ls 4 [(3, .int (nI i)), (2, .ref (adM 0)), (1, .ref (adC 0)), (0, .ref b)]) : W p l e room_1 s m #[Value.ref b] below meth c H locs 600000 7302249 Q (F0 m 969 ls []) := by
  obtain ⟨hx, hb, -, -, -, -, hX, hbl, -, -⟩ := id C0
  have hbA : ¬ (fun q : Nat => s.heap.size ≤ q) b := Nat.not_le.mpr hbl
  have hf := st_lose hr (xs (nI i + (1 : Int32)).toNatClampNeg)
  refine lv_aload_n hx hb dL_law_969 rfl (lv_at hl 2 rfl) ?_
  refine lv_aload_n hx hb dL_law_970 rfl (lv_at hl 3 rfl) ?_
  refine lv_iload_n hx hb dL_law_971 rfl (lv_at hl 0 rfl) ?_
  refine lv_iconst (v := (1 : Int32)) hx hb dL_law_972 (by decide) ?_
  refine lv_iadd hx hb dL_law_973 ?_
  refine va_sld hx hb hX hbl hbA M.2.2 (zi (c := 1) hi (by decide) hL) dL_law_974 ?_
  refine z_ciC (z_rV (As := [.int (xs (nI i + (1 : Int32)).toNatClampNeg)]) (rest := []) Z M.1 (cm_X6_lose l G adC Z.2.2.2.1 2000 (xs (nI i + (1 : Int32)).toNatClampNeg) μC _ hf) mc_X6_lose mv_X6_lose lk_L_108 mn_X6_lose rgc_0 rfl hl ⟨⟨Nat.le_of_ble_eq_true rfl, Nat.le_of_ble_eq_true rfl⟩, rfl, Nat.le_of_ble_eq_true rfl, Nat.le_of_ble_eq_true rfl, Nat.le_of_ble_eq_true rfl⟩ rfl dL_law_975) Z M (fun r1_ uC_ H locs hf M => ?_)
  try dsimp only at hf
  refine lv_aload_n hx hb dL_law_978 rfl (lv_at hl 1 rfl) ?_
  refine lv_aload_n hx hb dL_law_979 rfl (lv_at hl 3 rfl) ?_
  refine lv_iload_n hx hb dL_law_980 rfl (lv_at hl 0 rfl) ?_
  refine lv_iconst (v := (1 : Int32)) hx hb dL_law_981 (by decide) ?_
  refine lv_iadd hx hb dL_law_982 ?_
  refine va_sld hx hb hX hbl hbA M.2.2 (zi (c := 1) hi (by decide) hL) dL_law_983 ?_
  refine z_ciM (z_rV (As := [.int (xs (nI i + (1 : Int32)).toNatClampNeg)]) (rest := [.int r1_]) Z M.2.1 (cm_X7_lose l G adM Z.2.2.2.2.1 2000 (xs (nI i + (1 : Int32)).toNatClampNeg) μM _ hf) mc_X7_lose mv_X7_lose lk_L_111 mn_X7_lose rgm_0 rfl hl ⟨⟨Nat.le_of_ble_eq_true rfl, Nat.le_of_ble_eq_true rfl⟩, rfl, Nat.le_of_ble_eq_true rfl, Nat.le_of_ble_eq_true rfl, Nat.le_of_ble_eq_true rfl⟩ rfl dL_law_984) Z M (fun r2_ uM_ H locs hf M => ?_)
  try dsimp only at hf
  refine lv_icmp_eq (tgt := 1270) hx hb dL_law_987 (by decide) (fun _ => ?_) (fun c_ => absurd hf.1 c_)
  refine lv_iinc (v := nI (i + 6)) (lv' := [(3, .int (nI (i + 6))), (2, .ref (adM 0)), (1, .ref (adC 0)), (0, .ref b)]) hx hb dL_law_1270 hl (k := 0) rfl (nI_add i 6) (by decide) rfl (fun ls hl => ?_)
  refine lv_goto (tgt := 18) hx hb dL_law_1273 (by decide) ?_
  exact again uC_ uM_ _ _ _ hf.2 M hl
set_option maxHeartbeats 4000000 in
set_option maxRecDepth 100000 in
theorem lc_put {p : Program} {l : Launch} {e : Env} {s : State} {m : MethodId} {below : List Frame} {meth : Method} {c : Code} {b L i : Nat} {xs : Nat → Int32} {G : xG} {adC adM : Nat → Nat} {Q : State → Prop} {μC μM : xM} {H : Heap} {locs : List Loc} {ls : Array Slot} (hL : L ≤ 384) (C0 : lw_At p s m meth c b L xs) (Z : zC G adC adM p m c s b) (hi : i + 6 ≤ L) (again : zA p l e s m below meth c b i G adC adM Q) (hr : rl μC μM) (M : zS G adC adM s μC μM H locs) (hl : lv_has ls 4 [(3, .int (nI i)), (2, .ref (adM 0)), (1, .ref (adC 0)), (0, .ref b)]) : W p l e room_1 s m #[Value.ref b] below meth c H locs 600000 7302249 Q (F0 m 992 ls []) := by
  obtain ⟨hx, hb, -, -, -, -, hX, hbl, -, -⟩ := id C0
  have hbA : ¬ (fun q : Nat => s.heap.size ≤ q) b := Nat.not_le.mpr hbl
  have hf := st_put hr (xs (nI i + (1 : Int32)).toNatClampNeg) (xs (nI i + (2 : Int32)).toNatClampNeg) (xs (nI i + (3 : Int32)).toNatClampNeg)
  refine lv_aload_n hx hb dL_law_992 rfl (lv_at hl 2 rfl) ?_
  refine lv_aload_n hx hb dL_law_993 rfl (lv_at hl 3 rfl) ?_
  refine lv_iload_n hx hb dL_law_994 rfl (lv_at hl 0 rfl) ?_
  refine lv_iconst (v := (1 : Int32)) hx hb dL_law_995 (by decide) ?_
  refine lv_iadd hx hb dL_law_996 ?_
  refine va_sld hx hb hX hbl hbA M.2.2 (zi (c := 1) hi (by decide) hL) dL_law_997 ?_
  refine lv_aload_n hx hb dL_law_998 rfl (lv_at hl 3 rfl) ?_
  refine lv_iload_n hx hb dL_law_999 rfl (lv_at hl 0 rfl) ?_
  refine lv_iconst (v := (2 : Int32)) hx hb dL_law_1000 (by decide) ?_
  refine lv_iadd hx hb dL_law_1001 ?_
  refine va_sld hx hb hX hbl hbA M.2.2 (zi (c := 2) hi (by decide) hL) dL_law_1002 ?_
  refine lv_aload_n hx hb dL_law_1003 rfl (lv_at hl 3 rfl) ?_
  refine lv_iload_n hx hb dL_law_1004 rfl (lv_at hl 0 rfl) ?_
  refine lv_iconst (v := (3 : Int32)) hx hb dL_law_1005 (by decide) ?_
  refine lv_iadd hx hb dL_law_1006 ?_
  refine va_sld hx hb hX hbl hbA M.2.2 (zi (c := 3) hi (by decide) hL) dL_law_1007 ?_
  refine z_ciC (z_rV (As := [.int (xs (nI i + (1 : Int32)).toNatClampNeg), .int (xs (nI i + (2 : Int32)).toNatClampNeg), .int (xs (nI i + (3 : Int32)).toNatClampNeg)]) (rest := []) Z M.1 (cm_X6_put l G adC Z.2.2.2.1 2000 (xs (nI i + (1 : Int32)).toNatClampNeg) (xs (nI i + (2 : Int32)).toNatClampNeg) (xs (nI i + (3 : Int32)).toNatClampNeg) μC _ hf) mc_X6_put mv_X6_put lk_L_112 mn_X6_put rgc_0 rfl hl ⟨⟨Nat.le_of_ble_eq_true rfl, Nat.le_of_ble_eq_true rfl⟩, rfl, Nat.le_of_ble_eq_true rfl, Nat.le_of_ble_eq_true rfl, Nat.le_of_ble_eq_true rfl⟩ rfl dL_law_1008) Z M (fun r1_ uC_ H locs hf M => ?_)
  try dsimp only at hf
  refine lv_aload_n hx hb dL_law_1011 rfl (lv_at hl 1 rfl) ?_
  refine lv_aload_n hx hb dL_law_1012 rfl (lv_at hl 3 rfl) ?_
  refine lv_iload_n hx hb dL_law_1013 rfl (lv_at hl 0 rfl) ?_
  refine lv_iconst (v := (1 : Int32)) hx hb dL_law_1014 (by decide) ?_
  refine lv_iadd hx hb dL_law_1015 ?_
  refine va_sld hx hb hX hbl hbA M.2.2 (zi (c := 1) hi (by decide) hL) dL_law_1016 ?_
  refine lv_aload_n hx hb dL_law_1017 rfl (lv_at hl 3 rfl) ?_
  refine lv_iload_n hx hb dL_law_1018 rfl (lv_at hl 0 rfl) ?_
  refine lv_iconst (v := (2 : Int32)) hx hb dL_law_1019 (by decide) ?_
  refine lv_iadd hx hb dL_law_1020 ?_
  refine va_sld hx hb hX hbl hbA M.2.2 (zi (c := 2) hi (by decide) hL) dL_law_1021 ?_
  refine lv_aload_n hx hb dL_law_1022 rfl (lv_at hl 3 rfl) ?_
  refine lv_iload_n hx hb dL_law_1023 rfl (lv_at hl 0 rfl) ?_
  refine lv_iconst (v := (3 : Int32)) hx hb dL_law_1024 (by decide) ?_
  refine lv_iadd hx hb dL_law_1025 ?_
  refine va_sld hx hb hX hbl hbA M.2.2 (zi (c := 3) hi (by decide) hL) dL_law_1026 ?_
  refine z_ciM (z_rV (As := [.int (xs (nI i + (1 : Int32)).toNatClampNeg), .int (xs (nI i + (2 : Int32)).toNatClampNeg), .int (xs (nI i + (3 : Int32)).toNatClampNeg)]) (rest := [.int r1_]) Z M.2.1 (cm_X7_put l G adM Z.2.2.2.2.1 2000 (xs (nI i + (1 : Int32)).toNatClampNeg) (xs (nI i + (2 : Int32)).toNatClampNeg) (xs (nI i + (3 : Int32)).toNatClampNeg) μM _ hf) mc_X7_put mv_X7_put lk_L_115 mn_X7_put rgm_0 rfl hl ⟨⟨Nat.le_of_ble_eq_true rfl, Nat.le_of_ble_eq_true rfl⟩, rfl, Nat.le_of_ble_eq_true rfl, Nat.le_of_ble_eq_true rfl, Nat.le_of_ble_eq_true rfl⟩ rfl dL_law_1027) Z M (fun r2_ uM_ H locs hf M => ?_)
  try dsimp only at hf
  refine lv_icmp_eq (tgt := 1270) hx hb dL_law_1030 (by decide) (fun _ => ?_) (fun c_ => absurd hf.1 c_)
  refine lv_iinc (v := nI (i + 6)) (lv' := [(3, .int (nI (i + 6))), (2, .ref (adM 0)), (1, .ref (adC 0)), (0, .ref b)]) hx hb dL_law_1270 hl (k := 0) rfl (nI_add i 6) (by decide) rfl (fun ls hl => ?_)
  refine lv_goto (tgt := 18) hx hb dL_law_1273 (by decide) ?_
  exact again uC_ uM_ _ _ _ hf.2 M hl
set_option maxHeartbeats 4000000 in
set_option maxRecDepth 100000 in
theorem lc_cell {p : Program} {l : Launch} {e : Env} {s : State} {m : MethodId} {below : List Frame} {meth : Method} {c : Code} {b L i : Nat} {xs : Nat → Int32} {G : xG} {adC adM : Nat → Nat} {Q : State → Prop} {μC μM : xM} {H : Heap} {locs : List Loc} {ls : Array Slot} (hL : L ≤ 384) (C0 : lw_At p s m meth c b L xs) (Z : zC G adC adM p m c s b) (hi : i + 6 ≤ L) (again : zA p l e s m below meth c b i G adC adM Q) (hr : rl μC μM) (M : zS G adC adM s μC μM H locs) (hl : lv_has ls 4 [(3, .int (nI i)), (2, .ref (adM 0)), (1, .ref (adC 0)), (0, .ref b)]) : W p l e room_1 s m #[Value.ref b] below meth c H locs 600000 7302249 Q (F0 m 1035 ls []) := by
  obtain ⟨hx, hb, -, -, -, -, hX, hbl, -, -⟩ := id C0
  have hbA : ¬ (fun q : Nat => s.heap.size ≤ q) b := Nat.not_le.mpr hbl
  have hf := st_cell hr (xs (nI i + (1 : Int32)).toNatClampNeg) (xs (nI i + (2 : Int32)).toNatClampNeg) (xs (nI i + (3 : Int32)).toNatClampNeg)
  refine lv_aload_n hx hb dL_law_1035 rfl (lv_at hl 2 rfl) ?_
  refine lv_aload_n hx hb dL_law_1036 rfl (lv_at hl 3 rfl) ?_
  refine lv_iload_n hx hb dL_law_1037 rfl (lv_at hl 0 rfl) ?_
  refine lv_iconst (v := (1 : Int32)) hx hb dL_law_1038 (by decide) ?_
  refine lv_iadd hx hb dL_law_1039 ?_
  refine va_sld hx hb hX hbl hbA M.2.2 (zi (c := 1) hi (by decide) hL) dL_law_1040 ?_
  refine lv_aload_n hx hb dL_law_1041 rfl (lv_at hl 3 rfl) ?_
  refine lv_iload_n hx hb dL_law_1042 rfl (lv_at hl 0 rfl) ?_
  refine lv_iconst (v := (2 : Int32)) hx hb dL_law_1043 (by decide) ?_
  refine lv_iadd hx hb dL_law_1044 ?_
  refine va_sld hx hb hX hbl hbA M.2.2 (zi (c := 2) hi (by decide) hL) dL_law_1045 ?_
  refine lv_aload_n hx hb dL_law_1046 rfl (lv_at hl 3 rfl) ?_
  refine lv_iload_n hx hb dL_law_1047 rfl (lv_at hl 0 rfl) ?_
  refine lv_iconst (v := (3 : Int32)) hx hb dL_law_1048 (by decide) ?_
  refine lv_iadd hx hb dL_law_1049 ?_
  refine va_sld hx hb hX hbl hbA M.2.2 (zi (c := 3) hi (by decide) hL) dL_law_1050 ?_
  refine z_clC (z_rV (As := [.int (xs (nI i + (1 : Int32)).toNatClampNeg), .int (xs (nI i + (2 : Int32)).toNatClampNeg), .int (xs (nI i + (3 : Int32)).toNatClampNeg)]) (rest := []) Z M.1 (cm_X6_cell l G adC Z.2.2.2.1 2000 (xs (nI i + (1 : Int32)).toNatClampNeg) (xs (nI i + (2 : Int32)).toNatClampNeg) (xs (nI i + (3 : Int32)).toNatClampNeg) μC _ hf) mc_X6_cell mv_X6_cell lk_L_116 mn_X6_cell rgc_0 rfl hl ⟨⟨Nat.le_of_ble_eq_true rfl, Nat.le_of_ble_eq_true rfl⟩, rfl, Nat.le_of_ble_eq_true rfl, Nat.le_of_ble_eq_true rfl, Nat.le_of_ble_eq_true rfl⟩ rfl dL_law_1051) Z M (fun r1_ uC_ H locs hf M => ?_)
  try dsimp only at hf
  refine lv_aload_n hx hb dL_law_1054 rfl (lv_at hl 1 rfl) ?_
  refine lv_aload_n hx hb dL_law_1055 rfl (lv_at hl 3 rfl) ?_
  refine lv_iload_n hx hb dL_law_1056 rfl (lv_at hl 0 rfl) ?_
  refine lv_iconst (v := (1 : Int32)) hx hb dL_law_1057 (by decide) ?_
  refine lv_iadd hx hb dL_law_1058 ?_
  refine va_sld hx hb hX hbl hbA M.2.2 (zi (c := 1) hi (by decide) hL) dL_law_1059 ?_
  refine lv_aload_n hx hb dL_law_1060 rfl (lv_at hl 3 rfl) ?_
  refine lv_iload_n hx hb dL_law_1061 rfl (lv_at hl 0 rfl) ?_
  refine lv_iconst (v := (2 : Int32)) hx hb dL_law_1062 (by decide) ?_
  refine lv_iadd hx hb dL_law_1063 ?_
  refine va_sld hx hb hX hbl hbA M.2.2 (zi (c := 2) hi (by decide) hL) dL_law_1064 ?_
  refine lv_aload_n hx hb dL_law_1065 rfl (lv_at hl 3 rfl) ?_
  refine lv_iload_n hx hb dL_law_1066 rfl (lv_at hl 0 rfl) ?_
  refine lv_iconst (v := (3 : Int32)) hx hb dL_law_1067 (by decide) ?_
  refine lv_iadd hx hb dL_law_1068 ?_
  refine va_sld hx hb hX hbl hbA M.2.2 (zi (c := 3) hi (by decide) hL) dL_law_1069 ?_
  refine z_clM (z_rV (As := [.int (xs (nI i + (1 : Int32)).toNatClampNeg), .int (xs (nI i + (2 : Int32)).toNatClampNeg), .int (xs (nI i + (3 : Int32)).toNatClampNeg)]) (rest := [.long r1_]) Z M.2.1 (cm_X7_cell l G adM Z.2.2.2.2.1 2000 (xs (nI i + (1 : Int32)).toNatClampNeg) (xs (nI i + (2 : Int32)).toNatClampNeg) (xs (nI i + (3 : Int32)).toNatClampNeg) μM _ hf) mc_X7_cell mv_X7_cell lk_L_120 mn_X7_cell rgm_0 rfl hl ⟨⟨Nat.le_of_ble_eq_true rfl, Nat.le_of_ble_eq_true rfl⟩, rfl, Nat.le_of_ble_eq_true rfl, Nat.le_of_ble_eq_true rfl, Nat.le_of_ble_eq_true rfl⟩ rfl dL_law_1070) Z M (fun r2_ uM_ H locs hf M => ?_)
  try dsimp only at hf
  refine W.lcmp hx hb dL_law_1073 ?_
  refine lv_if_eq (tgt := 1270) hx hb dL_law_1074 (by decide) (fun _ => ?_) (fun c_ => absurd (by rw [hf.1]; exact lg_self _) c_)
  refine lv_iinc (v := nI (i + 6)) (lv' := [(3, .int (nI (i + 6))), (2, .ref (adM 0)), (1, .ref (adC 0)), (0, .ref b)]) hx hb dL_law_1270 hl (k := 0) rfl (nI_add i 6) (by decide) rfl (fun ls hl => ?_)
  refine lv_goto (tgt := 18) hx hb dL_law_1273 (by decide) ?_
  exact again uC_ uM_ _ _ _ hf.2 M hl
set_option maxHeartbeats 4000000 in
set_option maxRecDepth 100000 in
theorem lc_copy {p : Program} {l : Launch} {e : Env} {s : State} {m : MethodId} {below : List Frame} {meth : Method} {c : Code} {b L i : Nat} {xs : Nat → Int32} {G : xG} {adC adM : Nat → Nat} {Q : State → Prop} {μC μM : xM} {H : Heap} {locs : List Loc} {ls : Array Slot} (hL : L ≤ 384) (C0 : lw_At p s m meth c b L xs) (Z : zC G adC adM p m c s b) (hi : i + 6 ≤ L) (again : zA p l e s m below meth c b i G adC adM Q) (hr : rl μC μM) (M : zS G adC adM s μC μM H locs) (hl : lv_has ls 4 [(3, .int (nI i)), (2, .ref (adM 0)), (1, .ref (adC 0)), (0, .ref b)]) : W p l e room_1 s m #[Value.ref b] below meth c H locs 600000 7302249 Q (F0 m 1079 ls []) := by
  obtain ⟨hx, hb, -, -, -, -, hX, hbl, -, -⟩ := id C0
  have hbA : ¬ (fun q : Nat => s.heap.size ≤ q) b := Nat.not_le.mpr hbl
  have hf := st_copy hr (xs (nI i + (1 : Int32)).toNatClampNeg) (xs (nI i + (2 : Int32)).toNatClampNeg) (xs (nI i + (3 : Int32)).toNatClampNeg) (xs (nI i + (4 : Int32)).toNatClampNeg) (xs (nI i + (5 : Int32)).toNatClampNeg)
  refine lv_aload_n hx hb dL_law_1079 rfl (lv_at hl 2 rfl) ?_
  refine lv_aload_n hx hb dL_law_1080 rfl (lv_at hl 3 rfl) ?_
  refine lv_iload_n hx hb dL_law_1081 rfl (lv_at hl 0 rfl) ?_
  refine lv_iconst (v := (1 : Int32)) hx hb dL_law_1082 (by decide) ?_
  refine lv_iadd hx hb dL_law_1083 ?_
  refine va_sld hx hb hX hbl hbA M.2.2 (zi (c := 1) hi (by decide) hL) dL_law_1084 ?_
  refine lv_aload_n hx hb dL_law_1085 rfl (lv_at hl 3 rfl) ?_
  refine lv_iload_n hx hb dL_law_1086 rfl (lv_at hl 0 rfl) ?_
  refine lv_iconst (v := (2 : Int32)) hx hb dL_law_1087 (by decide) ?_
  refine lv_iadd hx hb dL_law_1088 ?_
  refine va_sld hx hb hX hbl hbA M.2.2 (zi (c := 2) hi (by decide) hL) dL_law_1089 ?_
  refine lv_aload_n hx hb dL_law_1090 rfl (lv_at hl 3 rfl) ?_
  refine lv_iload_n hx hb dL_law_1091 rfl (lv_at hl 0 rfl) ?_
  refine lv_iconst (v := (3 : Int32)) hx hb dL_law_1092 (by decide) ?_
  refine lv_iadd hx hb dL_law_1093 ?_
  refine va_sld hx hb hX hbl hbA M.2.2 (zi (c := 3) hi (by decide) hL) dL_law_1094 ?_
  refine lv_aload_n hx hb dL_law_1095 rfl (lv_at hl 3 rfl) ?_
  refine lv_iload_n hx hb dL_law_1096 rfl (lv_at hl 0 rfl) ?_
  refine lv_iconst (v := (4 : Int32)) hx hb dL_law_1097 (by decide) ?_
  refine lv_iadd hx hb dL_law_1098 ?_
  refine va_sld hx hb hX hbl hbA M.2.2 (zi (c := 4) hi (by decide) hL) dL_law_1099 ?_
  refine lv_aload_n hx hb dL_law_1100 rfl (lv_at hl 3 rfl) ?_
  refine lv_iload_n hx hb dL_law_1101 rfl (lv_at hl 0 rfl) ?_
  refine lv_iconst (v := (5 : Int32)) hx hb dL_law_1102 (by decide) ?_
  refine lv_iadd hx hb dL_law_1103 ?_
  refine va_sld hx hb hX hbl hbA M.2.2 (zi (c := 5) hi (by decide) hL) dL_law_1104 ?_
  refine z_ciC (z_rV (As := [.int (xs (nI i + (1 : Int32)).toNatClampNeg), .int (xs (nI i + (2 : Int32)).toNatClampNeg), .int (xs (nI i + (3 : Int32)).toNatClampNeg), .int (xs (nI i + (4 : Int32)).toNatClampNeg), .int (xs (nI i + (5 : Int32)).toNatClampNeg)]) (rest := []) Z M.1 (cm_X6_copy l G adC Z.2.2.2.1 2000 (xs (nI i + (1 : Int32)).toNatClampNeg) (xs (nI i + (2 : Int32)).toNatClampNeg) (xs (nI i + (3 : Int32)).toNatClampNeg) (xs (nI i + (4 : Int32)).toNatClampNeg) (xs (nI i + (5 : Int32)).toNatClampNeg) μC _ hf) mc_X6_copy mv_X6_copy lk_L_121 mn_X6_copy rgc_0 rfl hl ⟨⟨Nat.le_of_ble_eq_true rfl, Nat.le_of_ble_eq_true rfl⟩, rfl, Nat.le_of_ble_eq_true rfl, Nat.le_of_ble_eq_true rfl, Nat.le_of_ble_eq_true rfl⟩ rfl dL_law_1105) Z M (fun r1_ uC_ H locs hf M => ?_)
  try dsimp only at hf
  refine lv_aload_n hx hb dL_law_1108 rfl (lv_at hl 1 rfl) ?_
  refine lv_aload_n hx hb dL_law_1109 rfl (lv_at hl 3 rfl) ?_
  refine lv_iload_n hx hb dL_law_1110 rfl (lv_at hl 0 rfl) ?_
  refine lv_iconst (v := (1 : Int32)) hx hb dL_law_1111 (by decide) ?_
  refine lv_iadd hx hb dL_law_1112 ?_
  refine va_sld hx hb hX hbl hbA M.2.2 (zi (c := 1) hi (by decide) hL) dL_law_1113 ?_
  refine lv_aload_n hx hb dL_law_1114 rfl (lv_at hl 3 rfl) ?_
  refine lv_iload_n hx hb dL_law_1115 rfl (lv_at hl 0 rfl) ?_
  refine lv_iconst (v := (2 : Int32)) hx hb dL_law_1116 (by decide) ?_
  refine lv_iadd hx hb dL_law_1117 ?_
  refine va_sld hx hb hX hbl hbA M.2.2 (zi (c := 2) hi (by decide) hL) dL_law_1118 ?_
  refine lv_aload_n hx hb dL_law_1119 rfl (lv_at hl 3 rfl) ?_
  refine lv_iload_n hx hb dL_law_1120 rfl (lv_at hl 0 rfl) ?_
  refine lv_iconst (v := (3 : Int32)) hx hb dL_law_1121 (by decide) ?_
  refine lv_iadd hx hb dL_law_1122 ?_
  refine va_sld hx hb hX hbl hbA M.2.2 (zi (c := 3) hi (by decide) hL) dL_law_1123 ?_
  refine lv_aload_n hx hb dL_law_1124 rfl (lv_at hl 3 rfl) ?_
  refine lv_iload_n hx hb dL_law_1125 rfl (lv_at hl 0 rfl) ?_
  refine lv_iconst (v := (4 : Int32)) hx hb dL_law_1126 (by decide) ?_
  refine lv_iadd hx hb dL_law_1127 ?_
  refine va_sld hx hb hX hbl hbA M.2.2 (zi (c := 4) hi (by decide) hL) dL_law_1128 ?_
  refine lv_aload_n hx hb dL_law_1129 rfl (lv_at hl 3 rfl) ?_
  refine lv_iload_n hx hb dL_law_1130 rfl (lv_at hl 0 rfl) ?_
  refine lv_iconst (v := (5 : Int32)) hx hb dL_law_1131 (by decide) ?_
  refine lv_iadd hx hb dL_law_1132 ?_
  refine va_sld hx hb hX hbl hbA M.2.2 (zi (c := 5) hi (by decide) hL) dL_law_1133 ?_
  refine z_ciM (z_rV (As := [.int (xs (nI i + (1 : Int32)).toNatClampNeg), .int (xs (nI i + (2 : Int32)).toNatClampNeg), .int (xs (nI i + (3 : Int32)).toNatClampNeg), .int (xs (nI i + (4 : Int32)).toNatClampNeg), .int (xs (nI i + (5 : Int32)).toNatClampNeg)]) (rest := [.int r1_]) Z M.2.1 (cm_X7_copy l G adM Z.2.2.2.2.1 2000 (xs (nI i + (1 : Int32)).toNatClampNeg) (xs (nI i + (2 : Int32)).toNatClampNeg) (xs (nI i + (3 : Int32)).toNatClampNeg) (xs (nI i + (4 : Int32)).toNatClampNeg) (xs (nI i + (5 : Int32)).toNatClampNeg) μM _ hf) mc_X7_copy mv_X7_copy lk_L_124 mn_X7_copy rgm_0 rfl hl ⟨⟨Nat.le_of_ble_eq_true rfl, Nat.le_of_ble_eq_true rfl⟩, rfl, Nat.le_of_ble_eq_true rfl, Nat.le_of_ble_eq_true rfl, Nat.le_of_ble_eq_true rfl⟩ rfl dL_law_1134) Z M (fun r2_ uM_ H locs hf M => ?_)
  try dsimp only at hf
  refine lv_icmp_eq (tgt := 1270) hx hb dL_law_1137 (by decide) (fun _ => ?_) (fun c_ => absurd hf.1 c_)
  refine lv_iinc (v := nI (i + 6)) (lv' := [(3, .int (nI (i + 6))), (2, .ref (adM 0)), (1, .ref (adC 0)), (0, .ref b)]) hx hb dL_law_1270 hl (k := 0) rfl (nI_add i 6) (by decide) rfl (fun ls hl => ?_)
  refine lv_goto (tgt := 18) hx hb dL_law_1273 (by decide) ?_
  exact again uC_ uM_ _ _ _ hf.2 M hl
set_option maxHeartbeats 4000000 in
set_option maxRecDepth 100000 in
theorem lc_tell {p : Program} {l : Launch} {e : Env} {s : State} {m : MethodId} {below : List Frame} {meth : Method} {c : Code} {b L i : Nat} {xs : Nat → Int32} {G : xG} {adC adM : Nat → Nat} {Q : State → Prop} {μC μM : xM} {H : Heap} {locs : List Loc} {ls : Array Slot} (hL : L ≤ 384) (C0 : lw_At p s m meth c b L xs) (Z : zC G adC adM p m c s b) (hi : i + 6 ≤ L) (again : zA p l e s m below meth c b i G adC adM Q) (hr : rl μC μM) (M : zS G adC adM s μC μM H locs) (hl : lv_has ls 4 [(3, .int (nI i)), (2, .ref (adM 0)), (1, .ref (adC 0)), (0, .ref b)]) : W p l e room_1 s m #[Value.ref b] below meth c H locs 600000 7302249 Q (F0 m 1142 ls []) := by
  obtain ⟨hx, hb, -, -, -, -, hX, hbl, -, -⟩ := id C0
  have hbA : ¬ (fun q : Nat => s.heap.size ≤ q) b := Nat.not_le.mpr hbl
  have hf := st_tell hr (xs (nI i + (1 : Int32)).toNatClampNeg)
  refine lv_aload_n hx hb dL_law_1142 rfl (lv_at hl 2 rfl) ?_
  refine lv_aload_n hx hb dL_law_1143 rfl (lv_at hl 3 rfl) ?_
  refine lv_iload_n hx hb dL_law_1144 rfl (lv_at hl 0 rfl) ?_
  refine lv_iconst (v := (1 : Int32)) hx hb dL_law_1145 (by decide) ?_
  refine lv_iadd hx hb dL_law_1146 ?_
  refine va_sld hx hb hX hbl hbA M.2.2 (zi (c := 1) hi (by decide) hL) dL_law_1147 ?_
  refine z_ciC (z_rV (As := [.int (xs (nI i + (1 : Int32)).toNatClampNeg)]) (rest := []) Z M.1 (cm_X6_tell l G adC Z.2.2.2.1 2000 (xs (nI i + (1 : Int32)).toNatClampNeg) μC _ hf) mc_X6_tell mv_X6_tell lk_L_125 mn_X6_tell rgc_0 rfl hl ⟨⟨Nat.le_of_ble_eq_true rfl, Nat.le_of_ble_eq_true rfl⟩, rfl, Nat.le_of_ble_eq_true rfl, Nat.le_of_ble_eq_true rfl, Nat.le_of_ble_eq_true rfl⟩ rfl dL_law_1148) Z M (fun r1_ uC_ H locs hf M => ?_)
  try dsimp only at hf
  refine lv_aload_n hx hb dL_law_1151 rfl (lv_at hl 1 rfl) ?_
  refine lv_aload_n hx hb dL_law_1152 rfl (lv_at hl 3 rfl) ?_
  refine lv_iload_n hx hb dL_law_1153 rfl (lv_at hl 0 rfl) ?_
  refine lv_iconst (v := (1 : Int32)) hx hb dL_law_1154 (by decide) ?_
  refine lv_iadd hx hb dL_law_1155 ?_
  refine va_sld hx hb hX hbl hbA M.2.2 (zi (c := 1) hi (by decide) hL) dL_law_1156 ?_
  refine z_ciM (z_rV (As := [.int (xs (nI i + (1 : Int32)).toNatClampNeg)]) (rest := [.int r1_]) Z M.2.1 (cm_X7_tell l G adM Z.2.2.2.2.1 2000 (xs (nI i + (1 : Int32)).toNatClampNeg) μM _ hf) mc_X7_tell mv_X7_tell lk_L_128 mn_X7_tell rgm_0 rfl hl ⟨⟨Nat.le_of_ble_eq_true rfl, Nat.le_of_ble_eq_true rfl⟩, rfl, Nat.le_of_ble_eq_true rfl, Nat.le_of_ble_eq_true rfl, Nat.le_of_ble_eq_true rfl⟩ rfl dL_law_1157) Z M (fun r2_ uM_ H locs hf M => ?_)
  try dsimp only at hf
  refine lv_icmp_eq (tgt := 1270) hx hb dL_law_1160 (by decide) (fun _ => ?_) (fun c_ => absurd hf.1 c_)
  refine lv_iinc (v := nI (i + 6)) (lv' := [(3, .int (nI (i + 6))), (2, .ref (adM 0)), (1, .ref (adC 0)), (0, .ref b)]) hx hb dL_law_1270 hl (k := 0) rfl (nI_add i 6) (by decide) rfl (fun ls hl => ?_)
  refine lv_goto (tgt := 18) hx hb dL_law_1273 (by decide) ?_
  exact again uC_ uM_ _ _ _ hf.2 M hl
set_option maxHeartbeats 4000000 in
set_option maxRecDepth 100000 in
theorem lc_bow {p : Program} {l : Launch} {e : Env} {s : State} {m : MethodId} {below : List Frame} {meth : Method} {c : Code} {b L i : Nat} {xs : Nat → Int32} {G : xG} {adC adM : Nat → Nat} {Q : State → Prop} {μC μM : xM} {H : Heap} {locs : List Loc} {ls : Array Slot} (hL : L ≤ 384) (C0 : lw_At p s m meth c b L xs) (Z : zC G adC adM p m c s b) (hi : i + 6 ≤ L) (again : zA p l e s m below meth c b i G adC adM Q) (hr : rl μC μM) (M : zS G adC adM s μC μM H locs) (hl : lv_has ls 4 [(3, .int (nI i)), (2, .ref (adM 0)), (1, .ref (adC 0)), (0, .ref b)]) : W p l e room_1 s m #[Value.ref b] below meth c H locs 600000 7302249 Q (F0 m 1165 ls []) := by
  obtain ⟨hx, hb, -, -, -, -, hX, hbl, -, -⟩ := id C0
  have hbA : ¬ (fun q : Nat => s.heap.size ≤ q) b := Nat.not_le.mpr hbl
  have hf := st_bow hr (xs (nI i + (1 : Int32)).toNatClampNeg)
  refine lv_aload_n hx hb dL_law_1165 rfl (lv_at hl 2 rfl) ?_
  refine lv_aload_n hx hb dL_law_1166 rfl (lv_at hl 3 rfl) ?_
  refine lv_iload_n hx hb dL_law_1167 rfl (lv_at hl 0 rfl) ?_
  refine lv_iconst (v := (1 : Int32)) hx hb dL_law_1168 (by decide) ?_
  refine lv_iadd hx hb dL_law_1169 ?_
  refine va_sld hx hb hX hbl hbA M.2.2 (zi (c := 1) hi (by decide) hL) dL_law_1170 ?_
  refine z_ciC (z_rV (As := [.int (xs (nI i + (1 : Int32)).toNatClampNeg)]) (rest := []) Z M.1 (cm_X6_bow l G adC Z.2.2.2.1 2000 (xs (nI i + (1 : Int32)).toNatClampNeg) μC _ hf) mc_X6_bow mv_X6_bow lk_L_129 mn_X6_bow rgc_0 rfl hl ⟨⟨Nat.le_of_ble_eq_true rfl, Nat.le_of_ble_eq_true rfl⟩, rfl, Nat.le_of_ble_eq_true rfl, Nat.le_of_ble_eq_true rfl, Nat.le_of_ble_eq_true rfl⟩ rfl dL_law_1171) Z M (fun r1_ uC_ H locs hf M => ?_)
  try dsimp only at hf
  refine lv_aload_n hx hb dL_law_1174 rfl (lv_at hl 1 rfl) ?_
  refine lv_aload_n hx hb dL_law_1175 rfl (lv_at hl 3 rfl) ?_
  refine lv_iload_n hx hb dL_law_1176 rfl (lv_at hl 0 rfl) ?_
  refine lv_iconst (v := (1 : Int32)) hx hb dL_law_1177 (by decide) ?_
  refine lv_iadd hx hb dL_law_1178 ?_
  refine va_sld hx hb hX hbl hbA M.2.2 (zi (c := 1) hi (by decide) hL) dL_law_1179 ?_
  refine z_ciM (z_rV (As := [.int (xs (nI i + (1 : Int32)).toNatClampNeg)]) (rest := [.int r1_]) Z M.2.1 (cm_X7_bow l G adM Z.2.2.2.2.1 2000 (xs (nI i + (1 : Int32)).toNatClampNeg) μM _ hf) mc_X7_bow mv_X7_bow lk_L_132 mn_X7_bow rgm_0 rfl hl ⟨⟨Nat.le_of_ble_eq_true rfl, Nat.le_of_ble_eq_true rfl⟩, rfl, Nat.le_of_ble_eq_true rfl, Nat.le_of_ble_eq_true rfl, Nat.le_of_ble_eq_true rfl⟩ rfl dL_law_1180) Z M (fun r2_ uM_ H locs hf M => ?_)
  try dsimp only at hf
  refine lv_icmp_eq (tgt := 1270) hx hb dL_law_1183 (by decide) (fun _ => ?_) (fun c_ => absurd hf.1 c_)
  refine lv_iinc (v := nI (i + 6)) (lv' := [(3, .int (nI (i + 6))), (2, .ref (adM 0)), (1, .ref (adC 0)), (0, .ref b)]) hx hb dL_law_1270 hl (k := 0) rfl (nI_add i 6) (by decide) rfl (fun ls hl => ?_)
  refine lv_goto (tgt := 18) hx hb dL_law_1273 (by decide) ?_
  exact again uC_ uM_ _ _ _ hf.2 M hl
set_option maxHeartbeats 4000000 in
set_option maxRecDepth 100000 in
theorem lc_as {p : Program} {l : Launch} {e : Env} {s : State} {m : MethodId} {below : List Frame} {meth : Method} {c : Code} {b L i : Nat} {xs : Nat → Int32} {G : xG} {adC adM : Nat → Nat} {Q : State → Prop} {μC μM : xM} {H : Heap} {locs : List Loc} {ls : Array Slot} (hL : L ≤ 384) (C0 : lw_At p s m meth c b L xs) (Z : zC G adC adM p m c s b) (hi : i + 6 ≤ L) (again : zA p l e s m below meth c b i G adC adM Q) (hr : rl μC μM) (M : zS G adC adM s μC μM H locs) (hl : lv_has ls 4 [(3, .int (nI i)), (2, .ref (adM 0)), (1, .ref (adC 0)), (0, .ref b)]) : W p l e room_1 s m #[Value.ref b] below meth c H locs 600000 7302249 Q (F0 m 1188 ls []) := by
  obtain ⟨hx, hb, -, -, -, -, hX, hbl, -, -⟩ := id C0
  have hbA : ¬ (fun q : Nat => s.heap.size ≤ q) b := Nat.not_le.mpr hbl
  have hf := st_as hr (xs (nI i + (1 : Int32)).toNatClampNeg) (xs (nI i + (2 : Int32)).toNatClampNeg)
  refine lv_aload_n hx hb dL_law_1188 rfl (lv_at hl 2 rfl) ?_
  refine lv_aload_n hx hb dL_law_1189 rfl (lv_at hl 3 rfl) ?_
  refine lv_iload_n hx hb dL_law_1190 rfl (lv_at hl 0 rfl) ?_
  refine lv_iconst (v := (1 : Int32)) hx hb dL_law_1191 (by decide) ?_
  refine lv_iadd hx hb dL_law_1192 ?_
  refine va_sld hx hb hX hbl hbA M.2.2 (zi (c := 1) hi (by decide) hL) dL_law_1193 ?_
  refine lv_aload_n hx hb dL_law_1194 rfl (lv_at hl 3 rfl) ?_
  refine lv_iload_n hx hb dL_law_1195 rfl (lv_at hl 0 rfl) ?_
  refine lv_iconst (v := (2 : Int32)) hx hb dL_law_1196 (by decide) ?_
  refine lv_iadd hx hb dL_law_1197 ?_
  refine va_sld hx hb hX hbl hbA M.2.2 (zi (c := 2) hi (by decide) hL) dL_law_1198 ?_
  refine z_ciC (z_rV (As := [.int (xs (nI i + (1 : Int32)).toNatClampNeg), .int (xs (nI i + (2 : Int32)).toNatClampNeg)]) (rest := []) Z M.1 (cm_X6_as l G adC Z.2.2.2.1 2000 (xs (nI i + (1 : Int32)).toNatClampNeg) (xs (nI i + (2 : Int32)).toNatClampNeg) μC _ hf) mc_X6_as mv_X6_as lk_L_133 mn_X6_as rgc_0 rfl hl ⟨⟨Nat.le_of_ble_eq_true rfl, Nat.le_of_ble_eq_true rfl⟩, rfl, Nat.le_of_ble_eq_true rfl, Nat.le_of_ble_eq_true rfl, Nat.le_of_ble_eq_true rfl⟩ rfl dL_law_1199) Z M (fun r1_ uC_ H locs hf M => ?_)
  try dsimp only at hf
  refine lv_aload_n hx hb dL_law_1202 rfl (lv_at hl 1 rfl) ?_
  refine lv_aload_n hx hb dL_law_1203 rfl (lv_at hl 3 rfl) ?_
  refine lv_iload_n hx hb dL_law_1204 rfl (lv_at hl 0 rfl) ?_
  refine lv_iconst (v := (1 : Int32)) hx hb dL_law_1205 (by decide) ?_
  refine lv_iadd hx hb dL_law_1206 ?_
  refine va_sld hx hb hX hbl hbA M.2.2 (zi (c := 1) hi (by decide) hL) dL_law_1207 ?_
  refine lv_aload_n hx hb dL_law_1208 rfl (lv_at hl 3 rfl) ?_
  refine lv_iload_n hx hb dL_law_1209 rfl (lv_at hl 0 rfl) ?_
  refine lv_iconst (v := (2 : Int32)) hx hb dL_law_1210 (by decide) ?_
  refine lv_iadd hx hb dL_law_1211 ?_
  refine va_sld hx hb hX hbl hbA M.2.2 (zi (c := 2) hi (by decide) hL) dL_law_1212 ?_
  refine z_ciM (z_rV (As := [.int (xs (nI i + (1 : Int32)).toNatClampNeg), .int (xs (nI i + (2 : Int32)).toNatClampNeg)]) (rest := [.int r1_]) Z M.2.1 (cm_X7_as l G adM Z.2.2.2.2.1 2000 (xs (nI i + (1 : Int32)).toNatClampNeg) (xs (nI i + (2 : Int32)).toNatClampNeg) μM _ hf) mc_X7_as mv_X7_as lk_L_136 mn_X7_as rgm_0 rfl hl ⟨⟨Nat.le_of_ble_eq_true rfl, Nat.le_of_ble_eq_true rfl⟩, rfl, Nat.le_of_ble_eq_true rfl, Nat.le_of_ble_eq_true rfl, Nat.le_of_ble_eq_true rfl⟩ rfl dL_law_1213) Z M (fun r2_ uM_ H locs hf M => ?_)
  try dsimp only at hf
  refine lv_icmp_eq (tgt := 1270) hx hb dL_law_1216 (by decide) (fun _ => ?_) (fun c_ => absurd hf.1 c_)
  refine lv_iinc (v := nI (i + 6)) (lv' := [(3, .int (nI (i + 6))), (2, .ref (adM 0)), (1, .ref (adC 0)), (0, .ref b)]) hx hb dL_law_1270 hl (k := 0) rfl (nI_add i 6) (by decide) rfl (fun ls hl => ?_)
  refine lv_goto (tgt := 18) hx hb dL_law_1273 (by decide) ?_
  exact again uC_ uM_ _ _ _ hf.2 M hl
set_option maxHeartbeats 4000000 in
set_option maxRecDepth 100000 in
theorem lc_trace {p : Program} {l : Launch} {e : Env} {s : State} {m : MethodId} {below : List Frame} {meth : Method} {c : Code} {b L i : Nat} {xs : Nat → Int32} {G : xG} {adC adM : Nat → Nat} {Q : State → Prop} {μC μM : xM} {H : Heap} {locs : List Loc} {ls : Array Slot} (hL : L ≤ 384) (C0 : lw_At p s m meth c b L xs) (Z : zC G adC adM p m c s b) (hi : i + 6 ≤ L) (again : zA p l e s m below meth c b i G adC adM Q) (hr : rl μC μM) (M : zS G adC adM s μC μM H locs) (hl : lv_has ls 4 [(3, .int (nI i)), (2, .ref (adM 0)), (1, .ref (adC 0)), (0, .ref b)]) : W p l e room_1 s m #[Value.ref b] below meth c H locs 600000 7302249 Q (F0 m 1221 ls []) := by
  obtain ⟨hx, hb, -, -, -, -, hX, hbl, -, -⟩ := id C0
  have hbA : ¬ (fun q : Nat => s.heap.size ≤ q) b := Nat.not_le.mpr hbl
  have hf := st_trace hr 
  refine lv_aload_n hx hb dL_law_1221 rfl (lv_at hl 2 rfl) ?_
  refine z_ciCP (z_rV (As := []) (rest := []) Z M.1 (cm_X6_trace l G adC Z.2.2.2.1 2000  μC _ hf) mc_X6_trace mv_X6_trace lk_L_137 mn_X6_trace rgc_0 rfl hl ⟨⟨Nat.le_of_ble_eq_true rfl, Nat.le_of_ble_eq_true rfl⟩, rfl, Nat.le_of_ble_eq_true rfl, Nat.le_of_ble_eq_true rfl, Nat.le_of_ble_eq_true rfl⟩ rfl dL_law_1222) Z M (fun r1_ H locs hf M => ?_)
  try dsimp only at hf
  refine lv_aload_n hx hb dL_law_1225 rfl (lv_at hl 1 rfl) ?_
  refine z_ciMP (z_rV (As := []) (rest := [.int r1_]) Z M.2.1 (cm_X7_trace l G adM Z.2.2.2.2.1 2000  μM _ hf) mc_X7_trace mv_X7_trace lk_L_141 mn_X7_trace rgm_0 rfl hl ⟨⟨Nat.le_of_ble_eq_true rfl, Nat.le_of_ble_eq_true rfl⟩, rfl, Nat.le_of_ble_eq_true rfl, Nat.le_of_ble_eq_true rfl, Nat.le_of_ble_eq_true rfl⟩ rfl dL_law_1226) Z M (fun r2_ H locs hf M => ?_)
  try dsimp only at hf
  refine lv_icmp_eq (tgt := 1270) hx hb dL_law_1229 (by decide) (fun _ => ?_) (fun c_ => absurd hf.1 c_)
  refine lv_iinc (v := nI (i + 6)) (lv' := [(3, .int (nI (i + 6))), (2, .ref (adM 0)), (1, .ref (adC 0)), (0, .ref b)]) hx hb dL_law_1270 hl (k := 0) rfl (nI_add i 6) (by decide) rfl (fun ls hl => ?_)
  refine lv_goto (tgt := 18) hx hb dL_law_1273 (by decide) ?_
  exact again μC μM _ _ _ hf.2 M hl
set_option maxHeartbeats 4000000 in
set_option maxRecDepth 100000 in
theorem lc_fault {p : Program} {l : Launch} {e : Env} {s : State} {m : MethodId} {below : List Frame} {meth : Method} {c : Code} {b L i : Nat} {xs : Nat → Int32} {G : xG} {adC adM : Nat → Nat} {Q : State → Prop} {μC μM : xM} {H : Heap} {locs : List Loc} {ls : Array Slot} (hL : L ≤ 384) (C0 : lw_At p s m meth c b L xs) (Z : zC G adC adM p m c s b) (hi : i + 6 ≤ L) (again : zA p l e s m below meth c b i G adC adM Q) (hr : rl μC μM) (M : zS G adC adM s μC μM H locs) (hl : lv_has ls 4 [(3, .int (nI i)), (2, .ref (adM 0)), (1, .ref (adC 0)), (0, .ref b)]) : W p l e room_1 s m #[Value.ref b] below meth c H locs 600000 7302249 Q (F0 m 1234 ls []) := by
  obtain ⟨hx, hb, -, -, -, -, hX, hbl, -, -⟩ := id C0
  have hbA : ¬ (fun q : Nat => s.heap.size ≤ q) b := Nat.not_le.mpr hbl
  have hf := st_fault hr 
  refine lv_aload_n hx hb dL_law_1234 rfl (lv_at hl 2 rfl) ?_
  refine z_ciCP (z_rV (As := []) (rest := []) Z M.1 (cm_X6_fault l G adC Z.2.2.2.1 2000  μC _ hf) mc_X6_fault mv_X6_fault lk_L_142 mn_X6_fault rgc_0 rfl hl ⟨⟨Nat.le_of_ble_eq_true rfl, Nat.le_of_ble_eq_true rfl⟩, rfl, Nat.le_of_ble_eq_true rfl, Nat.le_of_ble_eq_true rfl, Nat.le_of_ble_eq_true rfl⟩ rfl dL_law_1235) Z M (fun r1_ H locs hf M => ?_)
  try dsimp only at hf
  refine lv_aload_n hx hb dL_law_1238 rfl (lv_at hl 1 rfl) ?_
  refine z_ciMP (z_rV (As := []) (rest := [.int r1_]) Z M.2.1 (cm_X7_fault l G adM Z.2.2.2.2.1 2000  μM _ hf) mc_X7_fault mv_X7_fault lk_L_145 mn_X7_fault rgm_0 rfl hl ⟨⟨Nat.le_of_ble_eq_true rfl, Nat.le_of_ble_eq_true rfl⟩, rfl, Nat.le_of_ble_eq_true rfl, Nat.le_of_ble_eq_true rfl, Nat.le_of_ble_eq_true rfl⟩ rfl dL_law_1239) Z M (fun r2_ H locs hf M => ?_)
  try dsimp only at hf
  refine lv_icmp_eq (tgt := 1270) hx hb dL_law_1242 (by decide) (fun _ => ?_) (fun c_ => absurd hf.1 c_)
  refine lv_iinc (v := nI (i + 6)) (lv' := [(3, .int (nI (i + 6))), (2, .ref (adM 0)), (1, .ref (adC 0)), (0, .ref b)]) hx hb dL_law_1270 hl (k := 0) rfl (nI_add i 6) (by decide) rfl (fun ls hl => ?_)
  refine lv_goto (tgt := 18) hx hb dL_law_1273 (by decide) ?_
  exact again μC μM _ _ _ hf.2 M hl
set_option maxHeartbeats 4000000 in
set_option maxRecDepth 100000 in
theorem lc_many {p : Program} {l : Launch} {e : Env} {s : State} {m : MethodId} {below : List Frame} {meth : Method} {c : Code} {b L i : Nat} {xs : Nat → Int32} {G : xG} {adC adM : Nat → Nat} {Q : State → Prop} {μC μM : xM} {H : Heap} {locs : List Loc} {ls : Array Slot} (hL : L ≤ 384) (C0 : lw_At p s m meth c b L xs) (Z : zC G adC adM p m c s b) (hi : i + 6 ≤ L) (again : zA p l e s m below meth c b i G adC adM Q) (hr : rl μC μM) (M : zS G adC adM s μC μM H locs) (hl : lv_has ls 4 [(3, .int (nI i)), (2, .ref (adM 0)), (1, .ref (adC 0)), (0, .ref b)]) : W p l e room_1 s m #[Value.ref b] below meth c H locs 600000 7302249 Q (F0 m 1247 ls []) := by
  obtain ⟨hx, hb, -, -, -, -, hX, hbl, -, -⟩ := id C0
  have hbA : ¬ (fun q : Nat => s.heap.size ≤ q) b := Nat.not_le.mpr hbl
  have hf := st_many hr (xs (nI i + (1 : Int32)).toNatClampNeg)
  refine lv_aload_n hx hb dL_law_1247 rfl (lv_at hl 2 rfl) ?_
  refine lv_aload_n hx hb dL_law_1248 rfl (lv_at hl 3 rfl) ?_
  refine lv_iload_n hx hb dL_law_1249 rfl (lv_at hl 0 rfl) ?_
  refine lv_iconst (v := (1 : Int32)) hx hb dL_law_1250 (by decide) ?_
  refine lv_iadd hx hb dL_law_1251 ?_
  refine va_sld hx hb hX hbl hbA M.2.2 (zi (c := 1) hi (by decide) hL) dL_law_1252 ?_
  refine z_ciCP (z_rV (As := [.int (xs (nI i + (1 : Int32)).toNatClampNeg)]) (rest := []) Z M.1 (cm_X6_many l G adC Z.2.2.2.1 2000 (xs (nI i + (1 : Int32)).toNatClampNeg) μC _ hf) mc_X6_many mv_X6_many lk_L_146 mn_X6_many rgc_0 rfl hl ⟨⟨Nat.le_of_ble_eq_true rfl, Nat.le_of_ble_eq_true rfl⟩, rfl, Nat.le_of_ble_eq_true rfl, Nat.le_of_ble_eq_true rfl, Nat.le_of_ble_eq_true rfl⟩ rfl dL_law_1253) Z M (fun r1_ H locs hf M => ?_)
  try dsimp only at hf
  refine lv_aload_n hx hb dL_law_1256 rfl (lv_at hl 1 rfl) ?_
  refine lv_aload_n hx hb dL_law_1257 rfl (lv_at hl 3 rfl) ?_
  refine lv_iload_n hx hb dL_law_1258 rfl (lv_at hl 0 rfl) ?_
  refine lv_iconst (v := (1 : Int32)) hx hb dL_law_1259 (by decide) ?_
  refine lv_iadd hx hb dL_law_1260 ?_
  refine va_sld hx hb hX hbl hbA M.2.2 (zi (c := 1) hi (by decide) hL) dL_law_1261 ?_
  refine z_ciMP (z_rV (As := [.int (xs (nI i + (1 : Int32)).toNatClampNeg)]) (rest := [.int r1_]) Z M.2.1 (cm_X7_many l G adM Z.2.2.2.2.1 2000 (xs (nI i + (1 : Int32)).toNatClampNeg) μM _ hf) mc_X7_many mv_X7_many lk_L_149 mn_X7_many rgm_0 rfl hl ⟨⟨Nat.le_of_ble_eq_true rfl, Nat.le_of_ble_eq_true rfl⟩, rfl, Nat.le_of_ble_eq_true rfl, Nat.le_of_ble_eq_true rfl, Nat.le_of_ble_eq_true rfl⟩ rfl dL_law_1262) Z M (fun r2_ H locs hf M => ?_)
  try dsimp only at hf
  refine lv_icmp_eq (tgt := 1270) hx hb dL_law_1265 (by decide) (fun _ => ?_) (fun c_ => absurd hf.1 c_)
  refine lv_iinc (v := nI (i + 6)) (lv' := [(3, .int (nI (i + 6))), (2, .ref (adM 0)), (1, .ref (adC 0)), (0, .ref b)]) hx hb dL_law_1270 hl (k := 0) rfl (nI_add i 6) (by decide) rfl (fun ls hl => ?_)
  refine lv_goto (tgt := 18) hx hb dL_law_1273 (by decide) ?_
  exact again μC μM _ _ _ hf.2 M hl
