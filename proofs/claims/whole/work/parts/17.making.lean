/-! ===== MAKING: rows of constructors over lists of cells ===== -/
/-- what holds of the machine all through a constructor's body -/
def yK (G : xG) (s : State) : Prop := va_K G.1 vwCl (xT G) s ∧ xw_NW s ∧ va_AO RX2 s ∧ va_AO RX3 s
def yC (G : xG) (own : String) (cc : ByteArray) (nL : Nat) (p : Program) (m : MethodId) (c : Code) (s : State) (args : Array Value) (meth : Method) : Prop :=
  CallFix p m c cc nL s args xw_all own ∧ yK G s ∧ meth.name = "<init>"
theorem yK.warm {G : xG} {s U : State} (hW : s.WarmedH U.vm) (h : yK G s) : yK G U := ⟨va_K.moved hW.alike h.1, h.2.1.warm hW, h.2.2.1.moved hW.alike, h.2.2.2.moved hW.alike⟩
theorem va_AO.same {C : String} {u U : State} (hvm : u.vm = U.vm) (h : va_AO C u) : va_AO C U := h.moved (by rw [hvm]; exact Vm.Alike.refl U.vm)
theorem yK.same {G : xG} {s U : State} (h0 : s.vm = U.vm) (h : yK G s) : yK G U := ⟨va_K.moved (by rw [h0]; exact Vm.Alike.refl U.vm) h.1, h.2.1.same h0, h.2.2.1.same h0, h.2.2.2.same h0⟩
def yPre (G : xG) (sz : Nat) (ws : va_W) : State → Prop := fun U => U.heap.size = sz ∧ va_P G.1 vwCl ws U.heap ∧ yK G U ∧ va_D (fun _ => True) ws
theorem yPre_blind {G : xG} {sz : Nat} {ws : va_W} {av : List Value} : FrameBlind (va_Pc av (yPre G sz ws)) := by
  intro a U g mk h
  obtain ⟨h1, hz, hP, hK, hD⟩ := h
  exact ⟨h1, hz, hP, hK.same (s := U) (U := U.calling g mk a) rfl, hD⟩
def xff (own : String) (index ci n j : Nat) (ty : FieldType) : Prop := ∃ (C : String) (T : u_T) (ty0 : Nat → FieldType), vwCl[ci]? = some (C, T, n) ∧ (∀ w ∈ u_ws C T n, w ∈ xw_all) ∧ j < n ∧ (T j).1 = C ∧ Cond.fieldLink own index C (T j).2.1 (T j).2.2.1 ∈ xw_all ∧
  (∀ k, k < n → parseFieldDescriptor (T k).2.2.1 = some (ty0 k)) ∧ (∀ a, a < n → ∀ b, b < n → a ≠ b → (T a).2.1 ≠ (T b).2.1) ∧ (T j).2.2.2 = true ∧ C = own ∧ parseFieldDescriptor (T j).2.2.1 = some ty
section YR
variable {p : Program} {l : Launch} {e : Env} {R : Room} {s : State} {m : MethodId} {args : Array Value} {below : List Frame} {meth : Method} {c : Code} {H : Heap} {locs : List Loc} {cells slots : Nat} {Q : State → Prop}
variable {cc : ByteArray} {pc : Nat} {ls : Array Slot} {rest : List Value} {G : xG} {own : String} {nL : Nat} {A : Nat → Prop} {ws : va_W}
theorem y_get (Y : yC G own cc nL p m c s args meth) (hP : va_P G.1 vwCl ws H) (q0 : Nat) {a ci n j index : Nat} {fs : List Value} {v : Value} (he : ws[q0]? = some (a, .inr (ci, fs))) (hf : xfd own index ci n j) (hv : fs[j]? = some v) (hdg : decode cc pc = .ok (.getfield index, 3))
    (kk : W p l e R s m args below meth c H locs cells slots Q (F0 m (pc + 3) ls (v :: rest))) : W p l e R s m args below meth c H locs cells slots Q (F0 m pc ls (.ref a :: rest)) := by
  obtain ⟨C, T, h1, hin, hj, hT, hl⟩ := hf
  rcases hl with hl | ⟨host, hl⟩
  · exact va_get Y.1.1 Y.1.2.1 Y.1.2.2.2.2 hin Y.1.2.2.2.1 Y.2.1.1 hP q0 he h1 j hj (Y.1.2.2.2.2 _ hl) (fun x h9 => by rw [hT] at h9; exact h9) hv hdg kk
  · exact va_getN Y.1.1 Y.1.2.1 Y.1.2.2.2.2 hin Y.1.2.2.2.1 Y.2.1.1 hP q0 he h1 j hj (va_Nw.use rfl (Y.2.1.2.1 _ hl)) (fun x h9 => by rw [hT] at h9; exact h9) hv hdg kk
theorem y_putF (Y : yC G own cc nL p m c s args meth) (hP : va_P G.1 vwCl ws H) (hD : va_D A ws) (hS : va_S A s.heap H locs) (q0 : Nat) {a ci n j index : Nat} {fs : List Value} {v : Value} {ty : FieldType} (he : ws[q0]? = some (a, .inr (ci, fs))) (hf : xff own index ci n j ty) (hn : narrow ty v = v) (hfit : fits ty v = true) (hlen : j < fs.length) (hdg : decode cc pc = .ok (.putfield index, 3))
    (kk : ∀ (H1 : Heap) (locs1 : List Loc), va_P G.1 vwCl (ws.set q0 (a, .inr (ci, fs.set j v))) H1 → va_D A (ws.set q0 (a, .inr (ci, fs.set j v))) → va_S A s.heap H1 locs1 → W p l e R s m args below meth c H1 locs1 cells slots Q (F0 m (pc + 3) ls rest)) : W p l e R s m args below meth c H locs cells slots Q (F0 m pc ls (v :: .ref a :: rest)) := by
  obtain ⟨C, T, ty0, h1, hin, hj, hT, hl, hty, hnm, hfin, hC, hd⟩ := hf
  exact va_putF Y.1.1 Y.1.2.1 Y.1.2.2.2.2 hin ty0 hty hnm Y.1.2.2.2.1 Y.2.1.1 hP hD hS q0 he h1 j hj (Y.1.2.2.2.2 _ hl) (fun x h9 => by rw [hT] at h9; exact h9) hfin Y.2.2 (hT.trans hC) hd hn hfit hlen hdg kk
theorem y_put (Y : yC G own cc nL p m c s args meth) (hP : va_P G.1 vwCl ws H) (hD : va_D A ws) (hS : va_S A s.heap H locs) (q0 : Nat) {a ci n j index : Nat} {fs : List Value} {v : Value} {ty : FieldType} (he : ws[q0]? = some (a, .inr (ci, fs))) (hf : xfp own index ci n j ty) (hn : narrow ty v = v) (hfit : fits ty v = true) (hlen : j < fs.length) (hdg : decode cc pc = .ok (.putfield index, 3))
    (kk : ∀ (H1 : Heap) (locs1 : List Loc), va_P G.1 vwCl (ws.set q0 (a, .inr (ci, fs.set j v))) H1 → va_D A (ws.set q0 (a, .inr (ci, fs.set j v))) → va_S A s.heap H1 locs1 → W p l e R s m args below meth c H1 locs1 cells slots Q (F0 m (pc + 3) ls rest)) : W p l e R s m args below meth c H locs cells slots Q (F0 m pc ls (v :: .ref a :: rest)) := by
  obtain ⟨C, T, ty0, h1, hin, hj, hT, hl, hty, hnm, hfin, hd⟩ := hf
  rcases hl with hl | ⟨host, hl⟩
  · exact va_put Y.1.1 Y.1.2.1 Y.1.2.2.2.2 hin ty0 hty hnm Y.1.2.2.2.1 Y.2.1.1 hP hD hS q0 he h1 j hj (Y.1.2.2.2.2 _ hl) (fun x h9 => by rw [hT] at h9; exact h9) hfin hd hn hfit hlen hdg kk
  · exact va_putN Y.1.1 Y.1.2.1 Y.1.2.2.2.2 hin ty0 hty hnm Y.1.2.2.2.1 Y.2.1.1 hP hD hS q0 he h1 j hj (va_Nw.use rfl (Y.2.1.2.1 _ hl)) (fun x h9 => by rw [hT] at h9; exact h9) hfin hd hn hfit hlen hdg kk
theorem y_newI (Y : yC G own cc nL p m c s args meth) (hP : va_P G.1 vwCl ws H) (hD : va_D A ws) (hS : va_S A s.heap H locs) (hA : ∀ q, s.heap.size ≤ q → A q) {n : Int32} {N' : Nat} (hn : ¬ n < 0) (hN : n.toNatClampNeg = N') (hbytes : N' * 4 ≤ 536870912) (hcells : cells + 1 ≤ R.cells) (hslots : slots + N' ≤ R.slots) (hdg : decode cc pc = .ok (.newarray .int, 2))
    (kk : ∀ (q : Nat) (H1 : Heap), va_P G.1 vwCl (ws ++ [(q, .inl (G.2 0, N', .inl (fun _ => 0)))]) H1 → va_D A (ws ++ [(q, .inl (G.2 0, N', .inl (fun _ => 0)))]) → va_S A s.heap H1 locs → W p l e R s m args below meth c H1 locs (cells + 1) (slots + N') Q (F0 m (pc + 2) ls (.ref q :: rest))) : W p l e R s m args below meth c H locs cells slots Q (F0 m pc ls (.int n :: rest)) := by
  refine va_newa (atype := .int) (ty := .int) Y.1.1 Y.1.2.1 (Y.1.2.2.2.2 _ ka_int) rfl Y.2.1.1 hP hD hS hA (a0 := (N', .inl (fun _ => 0))) (fun _ => rfl) hn hN hbytes hcells hslots hdg (fun q cA H1 hK hP1 hD1 hS1 => ?_)
  have e1 : s.vm.findClass ("[" ++ FieldType.int.toString) = some cA := (hK.2 4 (cA, .int) rfl).2
  have e2 : s.vm.findClass ("[" ++ FieldType.int.toString) = some (G.2 0) := (hK.2 0 (G.2 0, .int) rfl).2
  have e3 : cA = G.2 0 := Option.some.inj (e1.symm.trans e2)
  subst e3
  exact kk q H1 hP1 hD1 hS1
theorem y_newZ (Y : yC G own cc nL p m c s args meth) (hP : va_P G.1 vwCl ws H) (hD : va_D A ws) (hS : va_S A s.heap H locs) (hA : ∀ q, s.heap.size ≤ q → A q) {n : Int32} {N' : Nat} (hn : ¬ n < 0) (hN : n.toNatClampNeg = N') (hbytes : N' * 1 ≤ 536870912) (hcells : cells + 1 ≤ R.cells) (hslots : slots + N' ≤ R.slots) (hdg : decode cc pc = .ok (.newarray .boolean, 2))
    (kk : ∀ (q : Nat) (H1 : Heap), va_P G.1 vwCl (ws ++ [(q, .inl (G.2 1, N', .inl (fun _ => 0)))]) H1 → va_D A (ws ++ [(q, .inl (G.2 1, N', .inl (fun _ => 0)))]) → va_S A s.heap H1 locs → W p l e R s m args below meth c H1 locs (cells + 1) (slots + N') Q (F0 m (pc + 2) ls (.ref q :: rest))) : W p l e R s m args below meth c H locs cells slots Q (F0 m pc ls (.int n :: rest)) := by
  refine va_newa (atype := .boolean) (ty := .boolean) Y.1.1 Y.1.2.1 (Y.1.2.2.2.2 _ ka_boolean) rfl Y.2.1.1 hP hD hS hA (a0 := (N', .inl (fun _ => 0))) (fun _ => rfl) hn hN hbytes hcells hslots hdg (fun q cA H1 hK hP1 hD1 hS1 => ?_)
  have e1 : s.vm.findClass ("[" ++ FieldType.boolean.toString) = some cA := (hK.2 4 (cA, .boolean) rfl).2
  have e2 : s.vm.findClass ("[" ++ FieldType.boolean.toString) = some (G.2 1) := (hK.2 1 (G.2 1, .boolean) rfl).2
  have e3 : cA = G.2 1 := Option.some.inj (e1.symm.trans e2)
  subst e3
  exact kk q H1 hP1 hD1 hS1
theorem y_newR (Y : yC G own cc nL p m c s args meth) (hP : va_P G.1 vwCl ws H) (hD : va_D A ws) (hS : va_S A s.heap H locs) (hA : ∀ q, s.heap.size ≤ q → A q) (t : Nat) {C : String} {index : Nat} (ht : (xT G)[t]? = some (G.2 t, .object C)) (hover : va_AO C s) (hlink : Cond.classLink own index C ∈ xw_all) {n : Int32} {N' : Nat} (hn : ¬ n < 0) (hN : n.toNatClampNeg = N') (hbytes : N' * 4 ≤ 536870912) (hcells : cells + 1 ≤ R.cells) (hslots : slots + N' ≤ R.slots) (hdg : decode cc pc = .ok (.anewarray index, 3))
    (kk : ∀ (q : Nat) (H1 : Heap), va_P G.1 vwCl (ws ++ [(q, .inl (G.2 t, N', .inr (.inr (.inr (.inr (fun _ => none))))))]) H1 → va_D A (ws ++ [(q, .inl (G.2 t, N', .inr (.inr (.inr (.inr (fun _ => none))))))]) → va_S A s.heap H1 locs → W p l e R s m args below meth c H1 locs (cells + 1) (slots + N') Q (F0 m (pc + 3) ls (.ref q :: rest))) : W p l e R s m args below meth c H locs cells slots Q (F0 m pc ls (.int n :: rest)) := by
  refine va_newq Y.1.1 Y.1.2.1 Y.1.2.2.2.1 (Y.1.2.2.2.2 _ hlink) hover Y.2.1.1 hP hD hS hA hn hN hbytes hcells hslots hdg (fun q cA H1 hK hP1 hD1 hS1 => ?_)
  obtain ⟨_, _, _, _, _, e1⟩ := (hK.2 4 (cA, .object C) rfl).2
  have h2 := (Y.2.1.1.2 t _ ht).2
  obtain ⟨_, _, _, _, _, e2⟩ := h2
  have e3 : cA = G.2 t := Option.some.inj (e1.symm.trans e2)
  subst e3
  exact kk q H1 hP1 hD1 hS1
theorem y_new (Y : yC G own cc nL p m c s args meth) (hP : va_P G.1 vwCl ws H) (hD : va_D A ws) (hS : va_S A s.heap H locs) (hA : ∀ q, s.heap.size ≤ q → A q) {C : String} {T : u_T} {n ci index : Nat} (hin : ∀ w ∈ u_ws C T n, w ∈ xw_all) (ty : Nat → FieldType) (hty : ∀ k, k < n → parseFieldDescriptor (T k).2.2.1 = some (ty k)) (hlink : Cond.classLink own index C ∈ xw_all) (hinst : Cond.instantiable C n ∈ xw_all) (hini : Cond.initialized C ∈ xw_all) (hc : vwCl[ci]? = some (C, T, n)) {fs : List Value} (hfs : ∀ j, j < n → defaultValue (ty j) = vp_V fs j) (hcells : cells + 1 ≤ R.cells) (hslots : slots + n ≤ R.slots) (hdg : decode cc pc = .ok (.new index, 3))
    (kk : ∀ (q : Nat) (H1 : Heap), va_P G.1 vwCl (ws ++ [(q, .inr (ci, fs))]) H1 → va_D A (ws ++ [(q, .inr (ci, fs))]) → va_S A s.heap H1 locs → W p l e R s m args below meth c H1 locs (cells + 1) (slots + n) Q (F0 m (pc + 3) ls (.ref q :: rest))) : W p l e R s m args below meth c H locs cells slots Q (F0 m pc ls rest) :=
  va_new Y.1.1 Y.1.2.1 Y.1.2.2.2.2 hin ty hty Y.1.2.2.2.1 (Y.1.2.2.2.2 _ hlink) (Y.1.2.2.2.2 _ hinst) (Y.1.2.2.2.2 _ hini) Y.2.1.1 hP hD hS hA hc hfs hcells hslots hdg kk
theorem y_obj (Y : yC G own cc nL p m c s args meth) {lv : List (Nat × Value)} (hl : lv_has ls nL lv) {index a : Nat} (hlink : Cond.methodLink own index objectInit ∈ xw_all) (hdg : decode cc pc = .ok (.invokespecial index, 3)) (hR : 1 ≤ R.frames ∧ (rest.map fun v => v.category).sum + 12 ≤ R.locals)
    (kk : W p l e R s m args below meth c H locs cells slots Q (F0 m (pc + 3) ls rest)) : W p l e R s m args below meth c H locs cells slots Q (F0 m pc ls (.ref a :: rest)) := by
  refine W.objInit Y.1.1 Y.1.2.1 Y.1.2.2.2.1 (Y.1.2.2.2.2 _ hlink) (Y.1.2.2.2.2 _ oi_in) (Y.1.2.2.2.2 _ oi_co) rfl (by rw [Y.1.2.2.1]; exact hl.1) rfl hdg hR.1 (by show 2 * 0 + _ + 12 ≤ _; rw [Nat.mul_zero, Nat.zero_add]; exact hR.2) ?_
  exact kk
theorem y_aset (Y : yC G own cc nL p m c s args meth) (hP : va_P G.1 vwCl ws H) (hD : va_D A ws) (hS : va_S A s.heap H locs) (q0 qk t : Nat) {ci n a v : Nat} {r : vw_C} {vs : List Value} {f : Nat → Option Nat} (ht : (xT G)[t]? = some (G.2 t, .object r.1)) (ha : ws[q0]? = some (a, .inl (G.2 t, n, .inr (.inr (.inr (.inr f)))))) (hv : ws[qk]? = some (v, .inr (ci, vs))) (hc : vwCl[ci]? = some r) {i : Int32} (hin : vp_in i n) (hdg : decode cc pc = .ok (.aastore, 1))
    (kk : ∀ (H1 : Heap) (locs1 : List Loc), va_P G.1 vwCl (ws.set q0 (a, .inl (G.2 t, n, .inr (.inr (.inr (.inr (va_up f i.toNatClampNeg (some v)))))))) H1 → va_D A (ws.set q0 (a, .inl (G.2 t, n, .inr (.inr (.inr (.inr (va_up f i.toNatClampNeg (some v)))))))) → va_S A s.heap H1 locs1 → W p l e R s m args below meth c H1 locs1 cells slots Q (F0 m (pc + 1) ls rest)) : W p l e R s m args below meth c H locs cells slots Q (F0 m pc ls (.ref v :: .int i :: .ref a :: rest)) :=
  va_astq Y.1.1 Y.1.2.1 Y.2.1.1 hP hD hS q0 t qk ci ha ht hv hc hin hdg kk
theorem y_iset (Y : yC G own cc nL p m c s args meth) (hP : va_P G.1 vwCl ws H) (hD : va_D A ws) (hS : va_S A s.heap H locs) (q0 : Nat) {n a : Nat} {f : Nat → Int32} (ha : ws[q0]? = some (a, .inl (G.2 0, n, .inl f))) {i x : Int32} (hin : vp_in i n) (hdg : decode cc pc = .ok (.iastore, 1))
    (kk : ∀ (H1 : Heap) (locs1 : List Loc), va_P G.1 vwCl (ws.set q0 (a, .inl (G.2 0, n, .inl (upd f i.toNatClampNeg x)))) H1 → va_D A (ws.set q0 (a, .inl (G.2 0, n, .inl (upd f i.toNatClampNeg x)))) → va_S A s.heap H1 locs1 → W p l e R s m args below meth c H1 locs1 cells slots Q (F0 m (pc + 1) ls rest)) : W p l e R s m args below meth c H locs cells slots Q (F0 m pc ls (.int x :: .int i :: .ref a :: rest)) :=
  va_iast Y.1.1 Y.1.2.1 Y.2.1.1 hP hD hS q0 0 ha rfl hin hdg kk
/-- a constructor of a nest mate, over the cell of its object alone -/
theorem y_call {S : Type} (Y : yC G own cc nL p m c s args meth) (hP : va_P G.1 vwCl ws H) (hD : va_D A ws) (hS : va_S A s.heap H locs) (hA : ∀ q, s.heap.size ≤ q → A q) {y : MethodName} {bytes : ByteArray} {maxL index mc ms fr lo : Nat} {a : Nat} {e0 : va_E} {post : S → Prop} {cw : S → va_W} (qc : Nat) (isR : List Nat) {wr : va_W}
    (hM : Met l y (Cond.code y bytes maxL none :: xw_all) { frames := fr, cells := mc, slots := ms, locals := lo } (va_Pc [.ref a] (yPre G H.size [(a, e0)])) (va_Qv post (fun u t => va_P G.1 vwCl (cw u) t.heap ∧ va_D (va_A [(a, e0)] H.size) (cw u)) (va_A [(a, e0)] H.size)) mc ms (va_A [(a, e0)] H.size))
    (hk : xcc y bytes maxL none) (hi : Cond.instanceMethod y ∈ xw_all) (hy : y.name = "<init>") (hl : xcN own index y) (hn : xcn y 0) {lv : List (Nat × Value)} (hL : lv_has ls nL lv) (hR : (fr + 1 ≤ R.frames ∧ 8 + (maxL + 11) + lo ≤ R.locals) ∧ (rest.map fun v => v.category).sum ≤ 8 ∧ cells + mc ≤ R.cells ∧ slots + ms ≤ R.slots)
    (hqc : ws[qc]? = some (a, e0)) (hqr : isR.map (fun i => ws[i]?) = wr.map some) (hnd : va_nd isR = true) (hdis : ∀ i ∈ isR, i ∉ [qc]) (hdg : decode cc pc = .ok (.invokespecial index, 3))
    (kk : ∀ (u : S) (H1 : Heap) (locs1 : List Loc), post u → va_P G.1 vwCl (wr ++ cw u) H1 → va_D A (wr ++ cw u) → va_S A s.heap H1 locs1 → W p l e R s m args below meth c H1 locs1 (cells + mc) (slots + ms) Q (F0 m (pc + 3) ls rest)) : W p l e R s m args below meth c H locs cells slots Q (F0 m pc ls (.ref a :: rest)) := by
  obtain ⟨host, hl⟩ := hl
  have hPc : va_P G.1 vwCl [(a, e0)] H := hP.sub [qc] (by simp [hqc])
  have hDc : va_D A [(a, e0)] := hD.sub [qc] (by simp [va_nd]) (by simp [hqc])
  have hFc := va_free (wc := [(a, e0)]) hD hS hA [qc] (by simp [hqc])
  refine va_callv (va_runIN (As := []) (rest := rest) Y.1 hM ⟨va_cnB 0 Y.1.2.2.2.2 (x_gw hk) rfl rfl rfl (Y.2.1.2.1 _ hl) (Y.1.2.2.2.2 _ hk.2.1) ⟨hk.2.2.1, hk.2.2.2, hn⟩ hR.1, hy, Y.1.2.2.2.2 _ hi⟩ ⟨yPre_blind, fun U hU hW => ⟨rfl, by rw [hU], by rw [hU]; exact hPc, Y.2.1.warm hW, hDc.weaken (fun _ _ _ _ => trivial)⟩⟩ rfl rfl hL.1 rfl (lv_room hR.2.1) hdg hR.2.2) hS (fun q _ h => hFc q h) hFc (fun u t H1 locs1 ht hvm hw hB hz1 hk1 hS1 => ?_)
  obtain ⟨hP1, hD1⟩ := hB
  rw [ht] at hP1
  obtain ⟨hP2, hD2⟩ := va_join (wr := wr) (w1 := cw u) hP hD [qc] isR (by simp [hqc]) hqr hnd hdis hk1 hFc hP1 hD1
  exact kk u H1 locs1 hw hP2 hD2 hS1
end YR
/-- a constructor's beginning -/
theorem y_ent {l : Launch} {G : xG} {y : MethodName} {own : String} {cc : ByteArray} {nL fr lo mc ms sz h0 : Nat} {e0 : va_E} {Qc : Array Value → State → Outcome → State → Prop} (hy : plainName y.cls = true) (ho : y.cls = own) (hi : y.name = "<init>") (hn : 1 ≤ nL)
    (body : ∀ (p : Program) (e : Env) (s : State) (m : MethodId) (args : Array Value) (below : List Frame) (meth : Method) (c : Code) (H : Heap) (locs : List Loc) (ls : Array Slot) (A : Nat → Prop) (Q : State → Prop), yC G own cc nL p m c s args meth → meth.sig.returnType = none → meth.locks = false → A = va_A [(h0, e0)] sz → Q = MQ below Qc args s mc ms A → va_P G.1 vwCl [(h0, e0)] H → va_D A [(h0, e0)] → va_S A s.heap H locs → (∀ q, s.heap.size ≤ q → A q) → lv_has ls nL [(0, .ref h0)] → W p l e { frames := fr, cells := mc, slots := ms, locals := lo } s m args below meth c H locs 0 0 Q (F0 m 0 ls [])) :
    Met l y (Cond.code y cc nL none :: xw_all) { frames := fr, cells := mc, slots := ms, locals := lo } (va_Pc [.ref h0] (yPre G sz [(h0, e0)])) Qc mc ms (va_A [(h0, e0)] sz) := by
  refine Met.ofW (cc := cc) (maxL := nL) (ret := none) hy rfl ?_
  intro p e s m args below meth c s₁ B hml hv
  obtain ⟨rfl, hsz, hP, hK, hD0⟩ := hv
  have hts := atoms_spec (ws := Cond.code y cc nL none :: xw_all) B.pre
  have hown : s.vm.findClass own = some m.cls := by rw [← ho]; exact findClass_of_methodNamed B.named
  have hin : meth.name = "<init>" := (name_of_methodNamed B.named B.method).1.trans hi
  subst hsz
  have hl := lv_entry ([.ref h0]) (n := nL) (by show 1 ≤ nL; exact hn)
  rw [lg_entry_eq]
  exact body p e s m _ below meth c s.heap [] _ _ _ ⟨⟨B.exec, B.bytes, hml, hown, fun w h => hts w (List.mem_cons_of_mem _ h)⟩, hK, hin⟩ B.returns B.notSynchronized rfl rfl hP (hD0.self (sz := s.heap.size)) va_S.rf (fun q h => Or.inr h) hl
/-- a list of cells, each at its place, as regions -/
theorem y_reg {A : Nat → Prop} {ws : va_W} {N : Nat} {pi ad : Nat → Nat} (hpi : ∀ k, k < N → ∃ e, ws[pi k]? = some (ad k, e)) (hinj : ∀ i j, i < N → j < N → pi i = pi j → i = j) (hD : va_D A ws) : xI N ad ∧ ∀ k, k < N → A (ad k) := by
  refine ⟨fun i j hi hj h => ?_, fun k hk => ?_⟩
  · obtain ⟨e1, h1⟩ := hpi i hi
    obtain ⟨e2, h2⟩ := hpi j hj
    exact hinj i j hi hj (hD.1 _ _ _ _ h1 h2 h)
  · obtain ⟨e1, h1⟩ := hpi k hk
    exact hD.2 _ _ h1
theorem y_row {D : va_G} {cl : List vw_C} {H : Heap} {a : Nat} {cA : ClassId} {n : Nat} {f g : Nat → Option Nat} (h : va_at D cl (a, .inl (cA, n, .inr (.inr (.inr (.inr f))))) H) (hfg : ∀ j, j < n → f j = g j) : va_at D cl (a, .inl (cA, n, .inr (.inr (.inr (.inr g))))) H := by
  have e : vp_cell cA (n, .inr (.inr (.inr (.inr f)))) = vp_cell cA (n, .inr (.inr (.inr (.inr g)))) := by
    unfold vp_cell arrV
    simp only
    congr 1
    apply Array.ext
    · simp
    · intro i h1 h2
      simp only [Array.getElem_ofFn]
      rw [hfg i (by simpa using h1)]
  unfold va_at at h ⊢
  simp only at h ⊢
  rw [← e]
  exact h
theorem y_rowI {D : va_G} {cl : List vw_C} {H : Heap} {a : Nat} {cA : ClassId} {n : Nat} {f g : Nat → Int32} (h : va_at D cl (a, .inl (cA, n, .inl f)) H) (hfg : ∀ j, j < n → f j = g j) : va_at D cl (a, .inl (cA, n, .inl g)) H := by
  have e : vp_cell cA (n, .inl f) = vp_cell cA (n, .inl g) := by
    unfold vp_cell arrV
    simp only
    congr 1
    apply Array.ext
    · simp
    · intro i h1 h2
      simp only [Array.getElem_ofFn]
      rw [hfg i (by simpa using h1)]
  unfold va_at at h ⊢
  simp only at h ⊢
  rw [← e]
  exact h
