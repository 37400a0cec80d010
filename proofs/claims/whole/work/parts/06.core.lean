/-! ===== CORE: a world as a memory of ints: regions, rows of the machine over it, calls, ends ===== -/
abbrev xM : Type := Nat → Nat → Int32
def xu (μ : xM) (k j : Nat) (v : Int32) : xM := fun a => if a = k then upd (μ a) j v else μ a
theorem xu_at (μ : xM) (k j : Nat) (v : Int32) : xu μ k j v k = upd (μ k) j v := by simp [xu]
theorem xu_ne {μ : xM} {k j a : Nat} {v : Int32} (h : a ≠ k) : xu μ k j v a = μ a := by simp [xu, h]
def xcp (μ : xM) (k0 k1 sp dp n : Nat) : xM := fun a => if a = k1 then va_cpy (μ k0) (μ k1) sp dp n else μ a
abbrev xG : Type := va_G × (Nat → ClassId)
abbrev xQ : Type := (Nat × Nat) ⊕ ((Nat × Nat × (Nat → Nat)) ⊕ (Nat × Nat × (Nat → Option Nat)))
abbrev xH : Type := Nat → xQ
def xf (ptr : Nat → Option Nat) (ad : Nat → Nat) (r : Nat → Int32) (j : Nat) : Value := match ptr j with
  | some k => .ref (ad k)
  | none => .int (r j)
def xfs (ptr : Nat → Option Nat) (ad : Nat → Nat) (r : Nat → Int32) (n : Nat) : List Value := (List.range n).map (xf ptr ad r)
def xe (S : xH) (G : xG) (ad : Nat → Nat) (μ : xM) (k : Nat) : va_E := match S k with
  | .inl a => .inl (G.2 a.1, a.2, .inl (μ k))
  | .inr (.inl a) => .inl (G.2 a.1, a.2.1, .inr (.inr (.inr (.inr (fun i => some (ad (a.2.2 i)))))))
  | .inr (.inr a) => .inr (a.1, xfs a.2.2 ad (μ k) a.2.1)
def xW (S : xH) (N : Nat) (G : xG) (ad : Nat → Nat) (μ : xM) : va_W := (List.range N).map fun k => (ad k, xe S G ad μ k)
theorem xW_get {S : xH} {N : Nat} {G : xG} {ad : Nat → Nat} {μ : xM} {k : Nat} (hk : k < N) : (xW S N G ad μ)[k]? = some (ad k, xe S G ad μ k) := by
  simp [xW, hk]
theorem xe_same {S : xH} {G : xG} {ad : Nat → Nat} {μ μ' : xM} {k : Nat} (h : μ k = μ' k) : xe S G ad μ k = xe S G ad μ' k := by
  unfold xe
  rw [h]
theorem xW_set {S : xH} {N : Nat} {G : xG} {ad : Nat → Nat} {μ μ' : xM} {k : Nat} {e : va_E} (hk : k < N) (he : xe S G ad μ' k = e) (ho : ∀ a, a ≠ k → μ' a = μ a) : (xW S N G ad μ).set k (ad k, e) = xW S N G ad μ' := by
  apply List.ext_getElem?
  intro i
  rw [List.getElem?_set]
  by_cases hi : k = i
  · subst hi
    rw [if_pos rfl, xW_get hk, he, if_pos (by simp [xW, hk])]
  · rw [if_neg hi]
    by_cases h2 : i < N
    · rw [xW_get h2, xW_get h2, xe_same (ho i (fun q => hi q.symm)).symm]
    · rw [List.getElem?_eq_none (by simp [xW]; omega), List.getElem?_eq_none (by simp [xW]; omega)]
theorem xf_i {ptr : Nat → Option Nat} {ad : Nat → Nat} {r : Nat → Int32} {j : Nat} (h : ptr j = none) : xf ptr ad r j = .int (r j) := by
  unfold xf
  rw [h]
theorem xf_r {ptr : Nat → Option Nat} {ad : Nat → Nat} {r : Nat → Int32} {j k : Nat} (h : ptr j = some k) : xf ptr ad r j = .ref (ad k) := by
  unfold xf
  rw [h]
theorem xfs_get {ptr : Nat → Option Nat} {ad : Nat → Nat} {r : Nat → Int32} {n j : Nat} (h : j < n) : (xfs ptr ad r n)[j]? = some (xf ptr ad r j) := by
  simp [xfs, h]
theorem xfs_set {ptr : Nat → Option Nat} {ad : Nat → Nat} {r : Nat → Int32} {n j : Nat} {v : Int32} (h : ptr j = none) : (xfs ptr ad r n).set j (.int v) = xfs ptr ad (upd r j v) n := by
  apply List.ext_getElem?
  intro i
  rw [List.getElem?_set]
  by_cases hi : j = i
  · subst hi
    rw [if_pos rfl]
    by_cases h2 : j < n
    · rw [if_pos (by simp [xfs, h2]), xfs_get h2, xf_i h]
      simp [upd]
    · rw [if_neg (by simp [xfs]; omega), List.getElem?_eq_none (by simp [xfs]; omega)]
  · rw [if_neg hi]
    by_cases h2 : i < n
    · rw [xfs_get h2, xfs_get h2]
      unfold xf
      cases ptr i with
      | some k => rfl
      | none =>
        show some (Value.int (r i)) = some (Value.int (upd r j v i))
        unfold upd
        rw [if_neg (fun q => hi (Eq.symm q))]
    · rw [List.getElem?_eq_none (by simp [xfs]; omega), List.getElem?_eq_none (by simp [xfs]; omega)]
def xR (N : Nat) (ad : Nat → Nat) : Nat → Prop := fun q => ∃ k, k < N ∧ ad k = q
def xI (N : Nat) (ad : Nat → Nat) : Prop := ∀ i j, i < N → j < N → ad i = ad j → i = j
theorem xW_lt {S : xH} {N : Nat} {G : xG} {ad : Nat → Nat} {μ : xM} {i : Nat} {q : Nat × va_E} (h : (xW S N G ad μ)[i]? = some q) : i < N ∧ q.1 = ad i := by
  have h1 : i < N := by
    have := (List.getElem?_eq_some_iff.mp h).1
    simpa [xW] using this
  rw [xW_get h1] at h
  exact ⟨h1, by rw [← Option.some.inj h]⟩
theorem xW_D {S : xH} {N : Nat} {G : xG} {ad : Nat → Nat} {μ : xM} (h : xI N ad) : va_D (xR N ad) (xW S N G ad μ) := by
  refine ⟨fun i j p q hi hj e => ?_, fun k q hk => ?_⟩
  · obtain ⟨h1, e1⟩ := xW_lt hi
    obtain ⟨h2, e2⟩ := xW_lt hj
    exact h i j h1 h2 (by rw [← e1, ← e2, e])
  · obtain ⟨h1, e1⟩ := xW_lt hk
    exact ⟨k, h1, e1.symm⟩
def xT (G : xG) : List (ClassId × FieldType) := [(G.2 0, .int), (G.2 1, .boolean), (G.2 2, .object RX2), (G.2 3, .object RX3)]
/-- what holds of the machine all through a method's body -/
def xC (S : xH) (N : Nat) (G : xG) (ad : Nat → Nat) (own : String) (cc : ByteArray) (nL : Nat) (p : Program) (m : MethodId) (c : Code) (s : State) (args : Array Value) : Prop :=
  CallFix p m c cc nL s args xw_all own ∧ va_K G.1 vwCl (xT G) s ∧ xw_NW s ∧ xI N ad
/-- what the heap holds -/
def xS (S : xH) (N : Nat) (G : xG) (ad : Nat → Nat) (s : State) (μ : xM) (H : Heap) (locs : List Loc) : Prop :=
  va_P G.1 vwCl (xW S N G ad μ) H ∧ va_S (xR N ad) s.heap H locs
def xfd (own : String) (index ci n j : Nat) : Prop := ∃ (C : String) (T : u_T), vwCl[ci]? = some (C, T, n) ∧ (∀ w ∈ u_ws C T n, w ∈ xw_all) ∧ j < n ∧ (T j).1 = C ∧ (Cond.fieldLink own index C (T j).2.1 (T j).2.2.1 ∈ xw_all ∨ ∃ host, Cond.fieldLinkNest own index C (T j).2.1 (T j).2.2.1 host ∈ xw_nest)
def xfp (own : String) (index ci n j : Nat) (ty : FieldType) : Prop := ∃ (C : String) (T : u_T) (ty0 : Nat → FieldType), vwCl[ci]? = some (C, T, n) ∧ (∀ w ∈ u_ws C T n, w ∈ xw_all) ∧ j < n ∧ (T j).1 = C ∧ (Cond.fieldLink own index C (T j).2.1 (T j).2.2.1 ∈ xw_all ∨ ∃ host, Cond.fieldLinkNest own index C (T j).2.1 (T j).2.2.1 host ∈ xw_nest) ∧
  (∀ k, k < n → parseFieldDescriptor (T k).2.2.1 = some (ty0 k)) ∧ (∀ a, a < n → ∀ b, b < n → a ≠ b → (T a).2.1 ≠ (T b).2.1) ∧ (T j).2.2.2 = false ∧ parseFieldDescriptor (T j).2.2.1 = some ty
def xb (v : Int32) : Prop := v = 0 ∨ v = 1
theorem xb_0 : xb 0 := Or.inl rfl
theorem xb_1 : xb 1 := Or.inr rfl
theorem xb_n {v : Int32} (h : xb v) : narrow .boolean (.int v) = .int v := by
  rcases h with rfl | rfl <;> decide
theorem xb_f {v : Int32} (h : xb v) : fits .boolean (.int v) = true := by
  rcases h with rfl | rfl <;> decide
theorem xb_v {v : Int32} (h : xb v) : vp_nar .boolean v = v := by
  unfold vp_nar
  rw [xb_n h]
theorem vp_lt {i : Int32} {n : Nat} (h : vp_in i n) : i.toNatClampNeg < n := by
  unfold vp_in at h
  rcases Nat.lt_or_ge i.toNatClampNeg n with q | q
  · exact q
  · exact absurd (Or.inr q) h
def rmo (f lo : Nat) : Room := { frames := f, cells := 0, slots := 0, locals := lo }
def xPre (S : xH) (N : Nat) (G : xG) (ad : Nat → Nat) (μ : xM) : State → Prop := fun U => va_P G.1 vwCl (xW S N G ad μ) U.heap ∧ va_K G.1 vwCl (xT G) U ∧ xw_NW U
def xB (S : xH) (N : Nat) (G : xG) (ad : Nat → Nat) (u : xM) (t : State) : Prop := va_P G.1 vwCl (xW S N G ad u) t.heap
def xQi (S : xH) (N : Nat) (G : xG) (ad : Nat → Nat) (K : Int32 → xM → Prop) : Array Value → State → Outcome → State → Prop := va_Qi K (xB S N G ad) (xR N ad)
def xQl (S : xH) (N : Nat) (G : xG) (ad : Nat → Nat) (K : Int64 → xM → Prop) : Array Value → State → Outcome → State → Prop := va_Ql K (xB S N G ad) (xR N ad)
def xQv (S : xH) (N : Nat) (G : xG) (ad : Nat → Nat) (K : xM → Prop) : Array Value → State → Outcome → State → Prop := va_Qv K (xB S N G ad) (xR N ad)
theorem xw_NW.same {u U : State} (h : u.vm = U.vm) (hN : xw_NW u) : xw_NW U := by
  intro w hw
  have h1 := hN w hw
  have h2 := (List.mem_filter.mp hw).2
  cases w <;> first
    | exact va_Nw.same rfl h h1
    | (exfalso; revert h2; simp [xw_isN]; done)
theorem xPre_blind {S : xH} {N : Nat} {G : xG} {ad : Nat → Nat} {μ : xM} {av : List Value} : FrameBlind (va_Pc av (xPre S N G ad μ)) := by
  intro a U g mk h
  obtain ⟨h1, hP, hK, hN⟩ := h
  exact ⟨h1, hP, va_K.moved (u := U) (U := U.calling g mk a) (Vm.Alike.refl U.vm) hK, hN.same (u := U) (U := U.calling g mk a) rfl⟩
section XR
variable {p : Program} {l : Launch} {e : Env} {R : Room} {s : State} {m : MethodId} {args : Array Value} {below : List Frame} {meth : Method} {c : Code} {H : Heap} {locs : List Loc} {cells slots : Nat} {Q : State → Prop}
variable {cc : ByteArray} {pc : Nat} {ls : Array Slot} {rest : List Value} {S : xH} {N : Nat} {G : xG} {ad : Nat → Nat} {μ : xM} {own : String} {nL : Nat}
theorem x_obj {k ci n : Nat} {ptr : Nat → Option Nat} (hs : k < N ∧ S k = .inr (.inr (ci, n, ptr))) : (xW S N G ad μ)[k]? = some (ad k, .inr (ci, xfs ptr ad (μ k) n)) := by
  rw [xW_get hs.1]
  unfold xe
  rw [hs.2]
theorem x_arr {k t n : Nat} (hs : k < N ∧ S k = .inl (t, n)) : (xW S N G ad μ)[k]? = some (ad k, .inl (G.2 t, n, .inl (μ k))) := by
  rw [xW_get hs.1]
  unfold xe
  rw [hs.2]
theorem x_refs {k t n : Nat} {f : Nat → Nat} (hs : k < N ∧ S k = .inr (.inl (t, n, f))) : (xW S N G ad μ)[k]? = some (ad k, .inl (G.2 t, n, .inr (.inr (.inr (.inr (fun i => some (ad (f i)))))))) := by
  rw [xW_get hs.1]
  unfold xe
  rw [hs.2]
theorem x_get (X : xC S N G ad own cc nL p m c s args) (M : xS S N G ad s μ H locs) {k ci n : Nat} {ptr : Nat → Option Nat} (hs : k < N ∧ S k = .inr (.inr (ci, n, ptr))) {index j : Nat} (hf : xfd own index ci n j) (hdg : decode cc pc = .ok (.getfield index, 3))
    (kk : W p l e R s m args below meth c H locs cells slots Q (F0 m (pc + 3) ls (xf ptr ad (μ k) j :: rest))) : W p l e R s m args below meth c H locs cells slots Q (F0 m pc ls (.ref (ad k) :: rest)) := by
  obtain ⟨C, T, h1, hin, hj, hT, hl⟩ := hf
  rcases hl with hl | ⟨host, hl⟩
  · exact va_get X.1.1 X.1.2.1 X.1.2.2.2.2 hin X.1.2.2.2.1 X.2.1 M.1 k (x_obj hs) h1 j hj (X.1.2.2.2.2 _ hl) (fun x h9 => by rw [← hT]; rw [hT] at h9 ⊢; exact h9) (xfs_get hj) hdg kk
  · exact va_getN X.1.1 X.1.2.1 X.1.2.2.2.2 hin X.1.2.2.2.1 X.2.1 M.1 k (x_obj hs) h1 j hj (va_Nw.use rfl (X.2.2.1 _ hl)) (fun x h9 => by rw [← hT]; rw [hT] at h9 ⊢; exact h9) (xfs_get hj) hdg kk
theorem x_getI (X : xC S N G ad own cc nL p m c s args) (M : xS S N G ad s μ H locs) {k ci n : Nat} {ptr : Nat → Option Nat} (hs : k < N ∧ S k = .inr (.inr (ci, n, ptr))) {index j : Nat} (hf : xfd own index ci n j) (hp : ptr j = none) (hdg : decode cc pc = .ok (.getfield index, 3))
    (kk : W p l e R s m args below meth c H locs cells slots Q (F0 m (pc + 3) ls (.int (μ k j) :: rest))) : W p l e R s m args below meth c H locs cells slots Q (F0 m pc ls (.ref (ad k) :: rest)) :=
  x_get X M hs hf hdg (by rw [xf_i hp]; exact kk)
theorem x_getR (X : xC S N G ad own cc nL p m c s args) (M : xS S N G ad s μ H locs) {k ci n : Nat} {ptr : Nat → Option Nat} (hs : k < N ∧ S k = .inr (.inr (ci, n, ptr))) {index j r : Nat} (hf : xfd own index ci n j) (hp : ptr j = some r) (hdg : decode cc pc = .ok (.getfield index, 3))
    (kk : W p l e R s m args below meth c H locs cells slots Q (F0 m (pc + 3) ls (.ref (ad r) :: rest))) : W p l e R s m args below meth c H locs cells slots Q (F0 m pc ls (.ref (ad k) :: rest)) :=
  x_get X M hs hf hdg (by rw [xf_r hp]; exact kk)
theorem x_put (X : xC S N G ad own cc nL p m c s args) (M : xS S N G ad s μ H locs) {k ci n : Nat} {ptr : Nat → Option Nat} (hs : k < N ∧ S k = .inr (.inr (ci, n, ptr))) {index j : Nat} {ty : FieldType} (hf : xfp own index ci n j ty) (hp : ptr j = none) {v : Int32} (hn : narrow ty (.int v) = .int v) (hfit : fits ty (.int v) = true) (hdg : decode cc pc = .ok (.putfield index, 3))
    (kk : ∀ (u : xM) (H1 : Heap) (locs1 : List Loc), u = xu μ k j v → xS S N G ad s u H1 locs1 → W p l e R s m args below meth c H1 locs1 cells slots Q (F0 m (pc + 3) ls rest)) : W p l e R s m args below meth c H locs cells slots Q (F0 m pc ls (.int v :: .ref (ad k) :: rest)) := by
  obtain ⟨C, T, ty0, h1, hin, hj, hT, hl, hty, hnm, hfin, hd⟩ := hf
  have hlen : j < (xfs ptr ad (μ k) n).length := by simpa [xfs] using hj
  have hW : (xW S N G ad μ).set k (ad k, .inr (ci, (xfs ptr ad (μ k) n).set j (.int v))) = xW S N G ad (xu μ k j v) := by
    refine xW_set hs.1 ?_ (fun a ha => xu_ne ha)
    unfold xe
    rw [hs.2, xfs_set hp, xu_at]
  rcases hl with hl | ⟨host, hl⟩
  · refine va_put X.1.1 X.1.2.1 X.1.2.2.2.2 hin ty0 hty hnm X.1.2.2.2.1 X.2.1 M.1 (xW_D X.2.2.2) M.2 k (x_obj hs) h1 j hj (X.1.2.2.2.2 _ hl) (fun x h9 => by rw [hT] at h9; exact h9) hfin hd hn hfit hlen hdg (fun H1 locs1 hP hD hS => ?_)
    rw [hW] at hP
    exact kk _ H1 locs1 rfl ⟨hP, hS⟩
  · refine va_putN X.1.1 X.1.2.1 X.1.2.2.2.2 hin ty0 hty hnm X.1.2.2.2.1 X.2.1 M.1 (xW_D X.2.2.2) M.2 k (x_obj hs) h1 j hj (va_Nw.use rfl (X.2.2.1 _ hl)) (fun x h9 => by rw [hT] at h9; exact h9) hfin hd hn hfit hlen hdg (fun H1 locs1 hP hD hS => ?_)
    rw [hW] at hP
    exact kk _ H1 locs1 rfl ⟨hP, hS⟩
theorem x_putI (X : xC S N G ad own cc nL p m c s args) (M : xS S N G ad s μ H locs) {k ci n : Nat} {ptr : Nat → Option Nat} (hs : k < N ∧ S k = .inr (.inr (ci, n, ptr))) {index j : Nat} (hf : xfp own index ci n j .int) (hp : ptr j = none) {v : Int32} (hdg : decode cc pc = .ok (.putfield index, 3))
    (kk : ∀ (u : xM) (H1 : Heap) (locs1 : List Loc), u = xu μ k j v → xS S N G ad s u H1 locs1 → W p l e R s m args below meth c H1 locs1 cells slots Q (F0 m (pc + 3) ls rest)) : W p l e R s m args below meth c H locs cells slots Q (F0 m pc ls (.int v :: .ref (ad k) :: rest)) :=
  x_put X M hs hf hp rfl rfl hdg kk
theorem x_putZ (X : xC S N G ad own cc nL p m c s args) (M : xS S N G ad s μ H locs) {k ci n : Nat} {ptr : Nat → Option Nat} (hs : k < N ∧ S k = .inr (.inr (ci, n, ptr))) {index j : Nat} (hf : xfp own index ci n j .boolean) (hp : ptr j = none) {v : Int32} (hv : xb v) (hdg : decode cc pc = .ok (.putfield index, 3))
    (kk : ∀ (u : xM) (H1 : Heap) (locs1 : List Loc), u = xu μ k j v → xS S N G ad s u H1 locs1 → W p l e R s m args below meth c H1 locs1 cells slots Q (F0 m (pc + 3) ls rest)) : W p l e R s m args below meth c H locs cells slots Q (F0 m pc ls (.int v :: .ref (ad k) :: rest)) :=
  x_put X M hs hf hp (xb_n hv) (xb_f hv) hdg kk
theorem x_ild (X : xC S N G ad own cc nL p m c s args) (M : xS S N G ad s μ H locs) {k n : Nat} (hs : k < N ∧ S k = .inl (0, n)) {i : Int32} (hi : vp_in i n) (hdg : decode cc pc = .ok (.iaload, 1))
    (kk : W p l e R s m args below meth c H locs cells slots Q (F0 m (pc + 1) ls (.int (μ k i.toNatClampNeg) :: rest))) : W p l e R s m args below meth c H locs cells slots Q (F0 m pc ls (.int i :: .ref (ad k) :: rest)) :=
  va_iald X.1.1 X.1.2.1 X.2.1 M.1 k 0 (x_arr hs) rfl hi hdg kk
theorem x_zld (X : xC S N G ad own cc nL p m c s args) (M : xS S N G ad s μ H locs) {k n : Nat} (hs : k < N ∧ S k = .inl (1, n)) {i : Int32} (hi : vp_in i n) (hdg : decode cc pc = .ok (.baload, 1))
    (kk : W p l e R s m args below meth c H locs cells slots Q (F0 m (pc + 1) ls (.int (μ k i.toNatClampNeg) :: rest))) : W p l e R s m args below meth c H locs cells slots Q (F0 m pc ls (.int i :: .ref (ad k) :: rest)) :=
  va_zald X.1.1 X.1.2.1 X.2.1 M.1 k 1 (x_arr hs) rfl hi hdg kk
theorem x_aset {k t n j : Nat} {v : Int32} (hs : k < N ∧ S k = .inl (t, n)) : (xW S N G ad μ).set k (ad k, .inl (G.2 t, n, .inl (upd (μ k) j v))) = xW S N G ad (xu μ k j v) := by
  refine xW_set hs.1 ?_ (fun a ha => xu_ne ha)
  unfold xe
  rw [hs.2, xu_at]
theorem x_ist (X : xC S N G ad own cc nL p m c s args) (M : xS S N G ad s μ H locs) {k n : Nat} (hs : k < N ∧ S k = .inl (0, n)) {i v : Int32} (hi : vp_in i n) (hdg : decode cc pc = .ok (.iastore, 1))
    (kk : ∀ (u : xM) (H1 : Heap) (locs1 : List Loc), u = xu μ k i.toNatClampNeg v → xS S N G ad s u H1 locs1 → W p l e R s m args below meth c H1 locs1 cells slots Q (F0 m (pc + 1) ls rest)) : W p l e R s m args below meth c H locs cells slots Q (F0 m pc ls (.int v :: .int i :: .ref (ad k) :: rest)) := by
  refine va_iast X.1.1 X.1.2.1 X.2.1 M.1 (xW_D X.2.2.2) M.2 k 0 (x_arr hs) rfl hi hdg (fun H1 locs1 hP hD hS => ?_)
  rw [x_aset hs] at hP
  exact kk _ H1 locs1 rfl ⟨hP, hS⟩
theorem x_zst (X : xC S N G ad own cc nL p m c s args) (M : xS S N G ad s μ H locs) {k n : Nat} (hs : k < N ∧ S k = .inl (1, n)) {i v : Int32} (hi : vp_in i n) (hv : xb v) (hdg : decode cc pc = .ok (.bastore, 1))
    (kk : ∀ (u : xM) (H1 : Heap) (locs1 : List Loc), u = xu μ k i.toNatClampNeg v → xS S N G ad s u H1 locs1 → W p l e R s m args below meth c H1 locs1 cells slots Q (F0 m (pc + 1) ls rest)) : W p l e R s m args below meth c H locs cells slots Q (F0 m pc ls (.int v :: .int i :: .ref (ad k) :: rest)) := by
  refine va_zast X.1.1 X.1.2.1 X.2.1 M.1 (xW_D X.2.2.2) M.2 k 1 (x_arr hs) rfl hi hdg (fun H1 locs1 hP hD hS => ?_)
  rw [xb_v hv, x_aset hs] at hP
  exact kk _ H1 locs1 rfl ⟨hP, hS⟩
theorem x_ald (X : xC S N G ad own cc nL p m c s args) (M : xS S N G ad s μ H locs) {k t n : Nat} {f : Nat → Nat} {C : String} (hs : k < N ∧ S k = .inr (.inl (t, n, f))) (ht : (xT G)[t]? = some (G.2 t, .object C)) {i : Int32} (hi : vp_in i n) (hdg : decode cc pc = .ok (.aaload, 1))
    (kk : W p l e R s m args below meth c H locs cells slots Q (F0 m (pc + 1) ls (.ref (ad (f i.toNatClampNeg)) :: rest))) : W p l e R s m args below meth c H locs cells slots Q (F0 m pc ls (.int i :: .ref (ad k) :: rest)) :=
  va_aldq X.1.1 X.1.2.1 X.2.1 M.1 k t (x_refs hs) ht hi hdg kk
def xcy : Prop := Cond.native arraycopyName ∈ xw_all ∧ Cond.static arraycopyName ∈ xw_all ∧ Cond.initialized "java/lang/System" ∈ xw_all
theorem x_cpy {lv : List (Nat × Value)} (X : xC S N G ad own cc nL p m c s args) (M : xS S N G ad s μ H locs) (hl : lv_has ls nL lv) {index k0 k1 n0 n1 : Nat} (hlink : Cond.methodLink own index arraycopyName ∈ xw_all) (hcy : xcy) (hs0 : k0 < N ∧ S k0 = .inl (0, n0)) (hs1 : k1 < N ∧ S k1 = .inl (0, n1))
    {sp dp n : Int32} (h1 : ¬ sp < 0) (h2 : ¬ dp < 0) (h3 : ¬ n < 0) (h4 : sp.toNatClampNeg + n.toNatClampNeg ≤ n0) (h5 : dp.toNatClampNeg + n.toNatClampNeg ≤ n1)
    (hframes : 1 ≤ R.frames) (hlocals : (rest.map fun v => v.category).sum + (nativeFrameWords "java/lang/System" "arraycopy" 5 + 11) ≤ R.locals) (hdg : decode cc pc = .ok (.invokestatic index, 3))
    (kk : ∀ (u : xM) (H1 : Heap) (locs1 : List Loc), u = xcp μ k0 k1 sp.toNatClampNeg dp.toNatClampNeg n.toNatClampNeg → xS S N G ad s u H1 locs1 → W p l e R s m args below meth c H1 locs1 cells slots Q (F0 m (pc + 3) ls rest)) : W p l e R s m args below meth c H locs cells slots Q (F0 m pc ls (.int n :: .int dp :: .ref (ad k1) :: .int sp :: .ref (ad k0) :: rest)) := by
  refine va_copyi X.1.1 X.1.2.1 (X.1.2.2.1.trans hl.1.symm) X.1.2.2.2.1 (X.1.2.2.2.2 _ hlink) (X.1.2.2.2.2 _ hcy.1) (X.1.2.2.2.2 _ hcy.2.1) (X.1.2.2.2.2 _ hcy.2.2) X.2.1 M.1 (xW_D X.2.2.2) M.2 k0 k1 0 0 (x_arr hs0) (x_arr hs1) rfl rfl rfl h1 h2 h3 h4 h5 (fun i _ => rfl) hframes hlocals hdg (fun H1 locs1 hP hD hS => ?_)
  have hW : (xW S N G ad μ).set k1 (ad k1, .inl (G.2 0, n1, .inl (va_cpy (μ k0) (μ k1) sp.toNatClampNeg dp.toNatClampNeg n.toNatClampNeg))) = xW S N G ad (xcp μ k0 k1 sp.toNatClampNeg dp.toNatClampNeg n.toNatClampNeg) := by
    refine xW_set hs1.1 ?_ (fun a ha => by simp [xcp, ha])
    unfold xe
    rw [hs1.2]
    simp [xcp]
  rw [hW] at hP
  exact kk _ H1 locs1 rfl ⟨hP, hS⟩
/-! calls -/
def xcc (y : MethodName) (bytes : ByteArray) (maxL : Nat) (ret : Option FieldType) : Prop := Cond.code y bytes maxL ret ∈ xw_all ∧ Cond.initialized y.cls ∈ xw_all ∧ (y.cls ≠ "java/lang/invoke/MethodHandle" ∧ y.cls ≠ "java/lang/invoke/VarHandle")
def xcn (y : MethodName) (n : Nat) : Prop := (parseMethodDescriptor y.desc).map (fun d => d.parameters.length) = some n
def xcv (y : MethodName) : Prop := Cond.instanceMethod y ∈ xw_all ∧ Cond.selects y.cls y y ∈ xw_all
def xcl (own : String) (index : Nat) (y : MethodName) : Prop := Cond.methodLink own index y ∈ xw_all
def xcN (own : String) (index : Nat) (y : MethodName) : Prop := ∃ host, Cond.methodLinkNest own index y host ∈ xw_nest
theorem x_gw {y : MethodName} {bytes : ByteArray} {maxL : Nat} {ret : Option FieldType} (h : xcc y bytes maxL ret) : GoodIn xw_all (Cond.code y bytes maxL ret :: xw_all) :=
  xw_good [Cond.code y bytes maxL ret] rfl (fun w hw => by rw [List.mem_singleton.mp hw]; exact h.1)
theorem x_pre (X : xC S N G ad own cc nL p m c s args) (M : xS S N G ad s μ H locs) (av : List Value) : PreS s H (va_Pc av (xPre S N G ad μ)) av :=
  ⟨xPre_blind, fun U hU hW => ⟨rfl, by rw [hU]; exact M.1, va_K.moved hW.alike X.2.1, X.2.2.1.warm hW⟩⟩
theorem x_preV (X : xC S N G ad own cc nL p m c s args) (M : xS S N G ad s μ H locs) {k ci n : Nat} {ptr : Nat → Option Nat} {C : String} {T : u_T} (hs : k < N ∧ S k = .inr (.inr (ci, n, ptr))) (hc : vwCl[ci]? = some (C, T, n)) (As : List Value) : PreV s H C (ad k) (va_Pc (.ref (ad k) :: As) (xPre S N G ad μ)) As :=
  ⟨xPre_blind, va_recv X.2.1 M.1 hc (x_obj hs), fun U hU hW => ⟨rfl, by rw [hU]; exact M.1, va_K.moved hW.alike X.2.1, X.2.2.1.warm hW⟩⟩
variable {y : MethodName} {bytes : ByteArray} {maxL index n0 fr lo : Nat} {ret : Option FieldType} {Qc : Array Value → State → Outcome → State → Prop} {free : Addr → Prop} {As st : List Value} {lv : List (Nat × Value)}
/-- a nest mate's method of an object -/
theorem x_rVN (X : xC S N G ad own cc nL p m c s args) (M : xS S N G ad s μ H locs) {k ci n : Nat} {ptr : Nat → Option Nat} {T : u_T} (hM : Met l y (Cond.code y bytes maxL ret :: xw_all) (rmo fr lo) (va_Pc (.ref (ad k) :: As) (xPre S N G ad μ)) Qc 0 0 free) (hk : xcc y bytes maxL ret) (hv : xcv y) (hl : xcN own index y) (hn : xcn y n0)
    (hs : k < N ∧ S k = .inr (.inr (ci, n, ptr))) (hc : vwCl[ci]? = some (y.cls, T, n)) (hL : lv_has ls nL lv) (hR : (fr + 1 ≤ R.frames ∧ 8 + (maxL + 11) + lo ≤ R.locals) ∧ As.length = n0 ∧ (rest.map fun v => v.category).sum ≤ 8 ∧ cells ≤ R.cells ∧ slots ≤ R.slots) (hst : st = As.reverse ++ .ref (ad k) :: rest) (hdg : decode cc pc = .ok (.invokevirtual index, 3)) :
    va_Run p l e R s m args below meth c H locs cells slots 0 0 (F0 m pc ls st) rest (Qc (Value.ref (ad k) :: As).toArray) free := by
  obtain ⟨host, hl⟩ := hl
  exact va_runVN X.1 hM ⟨va_cnB n0 X.1.2.2.2.2 (x_gw hk) rfl rfl rfl (X.2.2.1 _ hl) (X.1.2.2.2.2 _ hk.2.1) ⟨hk.2.2.1, hk.2.2.2, hn⟩ hR.1, X.1.2.2.2.2 _ hv.1, X.1.2.2.2.2 _ hv.2⟩ (x_preV X M hs hc As) rfl hR.2.1 hL.1 hst (lv_room hR.2.2.1) hdg hR.2.2.2
/-- a method of an object of the own class, or a public one -/
theorem x_rV (X : xC S N G ad own cc nL p m c s args) (M : xS S N G ad s μ H locs) {k ci n : Nat} {ptr : Nat → Option Nat} {T : u_T} (hM : Met l y (Cond.code y bytes maxL ret :: xw_all) (rmo fr lo) (va_Pc (.ref (ad k) :: As) (xPre S N G ad μ)) Qc 0 0 free) (hk : xcc y bytes maxL ret) (hv : xcv y) (hl : xcl own index y) (hn : xcn y n0)
    (hs : k < N ∧ S k = .inr (.inr (ci, n, ptr))) (hc : vwCl[ci]? = some (y.cls, T, n)) (hL : lv_has ls nL lv) (hR : (fr + 1 ≤ R.frames ∧ 8 + (maxL + 11) + lo ≤ R.locals) ∧ As.length = n0 ∧ (rest.map fun v => v.category).sum ≤ 8 ∧ cells ≤ R.cells ∧ slots ≤ R.slots) (hst : st = As.reverse ++ .ref (ad k) :: rest) (hdg : decode cc pc = .ok (.invokevirtual index, 3)) :
    va_Run p l e R s m args below meth c H locs cells slots 0 0 (F0 m pc ls st) rest (Qc (Value.ref (ad k) :: As).toArray) free :=
  va_runV X.1 hM ⟨callB_of n0 X.1.2.2.2.2 (x_gw hk) rfl rfl rfl (X.1.2.2.2.2 _ hk.2.1) (X.1.2.2.2.2 _ hl) ⟨hk.2.2.1, hk.2.2.2, hn⟩ hR.1, X.1.2.2.2.2 _ hv.1, X.1.2.2.2.2 _ hv.2⟩ (x_preV X M hs hc As) rfl hR.2.1 hL.1 hst (lv_room hR.2.2.1) hdg hR.2.2.2
theorem x_rSN (X : xC S N G ad own cc nL p m c s args) (M : xS S N G ad s μ H locs) (hM : Met l y (Cond.code y bytes maxL ret :: xw_all) (rmo fr lo) (va_Pc As (xPre S N G ad μ)) Qc 0 0 free) (hk : xcc y bytes maxL ret) (hv : Cond.static y ∈ xw_all) (hl : xcN own index y) (hn : xcn y n0)
    (hL : lv_has ls nL lv) (hR : (fr + 1 ≤ R.frames ∧ 8 + (maxL + 11) + lo ≤ R.locals) ∧ As.length = n0 ∧ (rest.map fun v => v.category).sum ≤ 8 ∧ cells ≤ R.cells ∧ slots ≤ R.slots) (hst : st = As.reverse ++ rest) (hdg : decode cc pc = .ok (.invokestatic index, 3)) :
    va_Run p l e R s m args below meth c H locs cells slots 0 0 (F0 m pc ls st) rest (Qc As.toArray) free := by
  obtain ⟨host, hl⟩ := hl
  exact va_runSN X.1 hM ⟨va_cnB n0 X.1.2.2.2.2 (x_gw hk) rfl rfl rfl (X.2.2.1 _ hl) (X.1.2.2.2.2 _ hk.2.1) ⟨hk.2.2.1, hk.2.2.2, hn⟩ hR.1, X.1.2.2.2.2 _ hv, trivial⟩ (x_pre X M As) rfl hR.2.1 hL.1 hst (lv_room hR.2.2.1) hdg hR.2.2.2
theorem x_rS (X : xC S N G ad own cc nL p m c s args) (M : xS S N G ad s μ H locs) (hM : Met l y (Cond.code y bytes maxL ret :: xw_all) (rmo fr lo) (va_Pc As (xPre S N G ad μ)) Qc 0 0 free) (hk : xcc y bytes maxL ret) (hv : Cond.static y ∈ xw_all) (hl : xcl own index y) (hn : xcn y n0)
    (hL : lv_has ls nL lv) (hR : (fr + 1 ≤ R.frames ∧ 8 + (maxL + 11) + lo ≤ R.locals) ∧ As.length = n0 ∧ (rest.map fun v => v.category).sum ≤ 8 ∧ cells ≤ R.cells ∧ slots ≤ R.slots) (hst : st = As.reverse ++ rest) (hdg : decode cc pc = .ok (.invokestatic index, 3)) :
    va_Run p l e R s m args below meth c H locs cells slots 0 0 (F0 m pc ls st) rest (Qc As.toArray) free :=
  va_runS X.1 hM ⟨callB_of n0 X.1.2.2.2.2 (x_gw hk) rfl rfl rfl (X.1.2.2.2.2 _ hk.2.1) (X.1.2.2.2.2 _ hl) ⟨hk.2.2.1, hk.2.2.2, hn⟩ hR.1, X.1.2.2.2.2 _ hv⟩ (x_pre X M As) rfl hR.2.1 hL.1 hst (lv_room hR.2.2.1) hdg hR.2.2.2
variable {a : Array Value}
theorem x_ci {K : Int32 → xM → Prop} (hr : va_Run p l e R s m args below meth c H locs cells slots 0 0 (F0 m pc ls st) rest (xQi S N G ad K a) (xR N ad)) (M : xS S N G ad s μ H locs)
    (kk : ∀ (r : Int32) (u : xM) (H1 : Heap) (locs1 : List Loc), K r u → xS S N G ad s u H1 locs1 → W p l e R s m args below meth c H1 locs1 cells slots Q (F0 m (pc + 3) ls (.int r :: rest))) : W p l e R s m args below meth c H locs cells slots Q (F0 m pc ls st) :=
  va_calli hr M.2 (fun _ _ h => h) (fun _ h => h) (fun r u t H1 locs1 ht _ hw hB _ _ hS => kk r u H1 locs1 hw ⟨by rw [← ht]; exact hB, hS⟩)
theorem x_ciP {K : Int32 → Prop} (hr : va_Run p l e R s m args below meth c H locs cells slots 0 0 (F0 m pc ls st) rest (xQi S N G ad (fun r u => K r ∧ u = μ) a) (xR N ad)) (M : xS S N G ad s μ H locs)
    (kk : ∀ (r : Int32) (H1 : Heap) (locs1 : List Loc), K r → xS S N G ad s μ H1 locs1 → W p l e R s m args below meth c H1 locs1 cells slots Q (F0 m (pc + 3) ls (.int r :: rest))) : W p l e R s m args below meth c H locs cells slots Q (F0 m pc ls st) :=
  x_ci hr M (fun r u H1 locs1 h hM => kk r H1 locs1 h.1 (by rw [← h.2]; exact hM))
theorem x_cl {K : Int64 → xM → Prop} (hr : va_Run p l e R s m args below meth c H locs cells slots 0 0 (F0 m pc ls st) rest (xQl S N G ad K a) (xR N ad)) (M : xS S N G ad s μ H locs)
    (kk : ∀ (r : Int64) (u : xM) (H1 : Heap) (locs1 : List Loc), K r u → xS S N G ad s u H1 locs1 → W p l e R s m args below meth c H1 locs1 cells slots Q (F0 m (pc + 3) ls (.long r :: rest))) : W p l e R s m args below meth c H locs cells slots Q (F0 m pc ls st) :=
  va_calll hr M.2 (fun _ _ h => h) (fun _ h => h) (fun r u t H1 locs1 ht _ hw hB _ _ hS => kk r u H1 locs1 hw ⟨by rw [← ht]; exact hB, hS⟩)
theorem x_clP {K : Int64 → Prop} (hr : va_Run p l e R s m args below meth c H locs cells slots 0 0 (F0 m pc ls st) rest (xQl S N G ad (fun r u => K r ∧ u = μ) a) (xR N ad)) (M : xS S N G ad s μ H locs)
    (kk : ∀ (r : Int64) (H1 : Heap) (locs1 : List Loc), K r → xS S N G ad s μ H1 locs1 → W p l e R s m args below meth c H1 locs1 cells slots Q (F0 m (pc + 3) ls (.long r :: rest))) : W p l e R s m args below meth c H locs cells slots Q (F0 m pc ls st) :=
  x_cl hr M (fun r u H1 locs1 h hM => kk r H1 locs1 h.1 (by rw [← h.2]; exact hM))
theorem x_cv {K : xM → Prop} (hr : va_Run p l e R s m args below meth c H locs cells slots 0 0 (F0 m pc ls st) rest (xQv S N G ad K a) (xR N ad)) (M : xS S N G ad s μ H locs)
    (kk : ∀ (u : xM) (H1 : Heap) (locs1 : List Loc), K u → xS S N G ad s u H1 locs1 → W p l e R s m args below meth c H1 locs1 cells slots Q (F0 m (pc + 3) ls rest)) : W p l e R s m args below meth c H locs cells slots Q (F0 m pc ls st) :=
  va_callv hr M.2 (fun _ _ h => h) (fun _ h => h) (fun u t H1 locs1 ht _ hw hB _ _ hS => kk u H1 locs1 hw ⟨by rw [← ht]; exact hB, hS⟩)
/-! ends -/
theorem x_iret {K : Int32 → xM → Prop} (X : xC S N G ad own cc nL p m c s args) (M : xS S N G ad s μ H locs) (hr : meth.sig.returnType = some .int) (hlk : meth.locks = false) {v : Int32} (hdg : decode cc pc = .ok (.ireturn, 1)) (hq : K v μ) :
    W p l e R s m args below meth c H locs cells slots (MQ below (xQi S N G ad K) args s cells slots (xR N ad)) (F0 m pc ls [.int v]) :=
  W.iret X.1.1 X.1.2.1 hr (fun t ht _ => ⟨⟨v, μ, rfl, hq, by show va_P _ _ _ t.heap; rw [ht]; exact M.1⟩, M.2.F ht⟩) M.2.2.2 hdg hlk
theorem x_zret {K : Int32 → xM → Prop} (X : xC S N G ad own cc nL p m c s args) (M : xS S N G ad s μ H locs) (hr : meth.sig.returnType = some .boolean) (hlk : meth.locks = false) {v : Int32} (hv : xb v) (hdg : decode cc pc = .ok (.ireturn, 1)) (hq : K v μ) :
    W p l e R s m args below meth c H locs cells slots (MQ below (xQi S N G ad K) args s cells slots (xR N ad)) (F0 m pc ls [.int v]) :=
  W.zret X.1.1 X.1.2.1 hr (xb_n hv) (fun t ht _ => ⟨⟨v, μ, rfl, hq, by show va_P _ _ _ t.heap; rw [ht]; exact M.1⟩, M.2.F ht⟩) M.2.2.2 hdg hlk
theorem x_lret {K : Int64 → xM → Prop} (X : xC S N G ad own cc nL p m c s args) (M : xS S N G ad s μ H locs) (hr : meth.sig.returnType = some .long) (hlk : meth.locks = false) {v : Int64} (hdg : decode cc pc = .ok (.lreturn, 1)) (hq : K v μ) :
    W p l e R s m args below meth c H locs cells slots (MQ below (xQl S N G ad K) args s cells slots (xR N ad)) (F0 m pc ls [.long v]) :=
  W.lret X.1.1 X.1.2.1 hr (fun t ht _ => ⟨⟨v, μ, rfl, hq, by show va_P _ _ _ t.heap; rw [ht]; exact M.1⟩, M.2.F ht⟩) M.2.2.2 hdg hlk
theorem x_vret {K : xM → Prop} (X : xC S N G ad own cc nL p m c s args) (M : xS S N G ad s μ H locs) (hr : meth.sig.returnType = none) (hlk : meth.locks = false) (hdg : decode cc pc = .ok (.return_, 1)) (hq : K μ) :
    W p l e R s m args below meth c H locs cells slots (MQ below (xQv S N G ad K) args s cells slots (xR N ad)) (F0 m pc ls []) :=
  W.vret X.1.1 X.1.2.1 hr (fun t ht _ => ⟨⟨μ, rfl, hq, by show va_P _ _ _ t.heap; rw [ht]; exact M.1⟩, M.2.F ht⟩) M.2.2.2 hdg hlk
end XR
/-! a method's beginning -/
theorem x_ent {l : Launch} {S : xH} {N : Nat} {G : xG} {ad : Nat → Nat} {μ : xM} {y : MethodName} {own : String} {cc : ByteArray} {nL fr lo : Nat} {ret : Option FieldType} {av : List Value} {Qc : Array Value → State → Outcome → State → Prop} (hy : plainName y.cls = true) (ho : y.cls = own) (hI : xI N ad) (hlen : (lg_sl av).length ≤ nL)
    (body : ∀ (p : Program) (e : Env) (s : State) (m : MethodId) (args : Array Value) (below : List Frame) (meth : Method) (c : Code) (H : Heap) (locs : List Loc) (ls : Array Slot) (Q : State → Prop), xC S N G ad own cc nL p m c s args → meth.sig.returnType = ret → meth.locks = false → Q = MQ below Qc args s 0 0 (xR N ad) → xS S N G ad s μ H locs → lv_has ls nL (lv_args 0 av) → W p l e (rmo fr lo) s m args below meth c H locs 0 0 Q (F0 m 0 ls [])) :
    Met l y (Cond.code y cc nL ret :: xw_all) (rmo fr lo) (va_Pc av (xPre S N G ad μ)) Qc 0 0 (xR N ad) := by
  refine Met.ofW (cc := cc) (maxL := nL) (ret := ret) hy rfl ?_
  intro p e s m args below meth c s₁ B hml hv
  obtain ⟨rfl, hP, hK, hN⟩ := hv
  have hts := atoms_spec (ws := Cond.code y cc nL ret :: xw_all) B.pre
  have hown : s.vm.findClass own = some m.cls := by rw [← ho]; exact findClass_of_methodNamed B.named
  rw [lg_entry_eq]
  exact body p e s m _ below meth c s.heap [] _ _ ⟨⟨B.exec, B.bytes, hml, hown, fun w h => hts w (List.mem_cons_of_mem _ h)⟩, hK, hN, hI⟩ B.returns B.notSynchronized rfl ⟨hP, va_S.rf⟩ (lv_entry av hlen)
/-! loops and joints in the wp's own words -/
def xlp {σ : Type} (F : (σ → Prop) → σ → Prop) : Nat → σ → Prop
  | 0 => fun _ => False
  | n + 1 => F (xlp F n)
theorem xlp_w {σ : Type} {F : (σ → Prop) → σ → Prop} {n : Nat} {s : σ} (hf : xlp F n s) (P : σ → Prop) (h : ∀ again : σ → Prop, (∀ s, again s → P s) → ∀ s, F again s → P s) : P s := by
  have : ∀ n s, xlp F n s → P s := by
    intro n
    induction n with
    | zero => intro s h; exact h.elim
    | succ n ih => intro s hs; exact h _ ih s hs
  exact this n s hf
def xjn {α : Type} (J : α → Prop) (B : (α → Prop) → Prop) : Prop := B J
theorem xjn_w {α : Type} {J : α → Prop} {B : (α → Prop) → Prop} {goal : Prop} (hf : xjn J B) (P : α → Prop) (h1 : ∀ a, J a → P a) (h2 : ∀ J : α → Prop, (∀ a, J a → P a) → B J → goal) : goal := h2 J h1 hf
/-- a loop's law for the reckoning: d falls at each turn -/
theorem xlp_i {σ : Type} {F : (σ → Prop) → σ → Prop} (I : Nat → σ → Prop) (h : ∀ (d : Nat) (s : σ) (again : σ → Prop), I d s → (∀ (d' : Nat) (s' : σ), d' < d → I d' s' → again s') → F again s) : ∀ {n d : Nat} {s : σ}, I d s → d < n → xlp F n s := by
  intro n
  induction n with
  | zero => intro d s _ h2; exact absurd h2 (Nat.not_lt_zero _)
  | succ n ih =>
    intro d s h1 h2
    exact h d s _ h1 (fun d' s' hd hI => ih hI (by omega))
theorem xjn_i {α : Type} {J : α → Prop} {B : (α → Prop) → Prop} (P : α → Prop) (h1 : ∀ a, P a → J a) (h2 : ∀ J : α → Prop, (∀ a, P a → J a) → B J) : xjn J B := h2 J h1
