/-! THE CLAIM OUT OF ONE WALK OF THE LAW'S BODY. Your part is whole_start (and what it stands on); all else here is the same for every law, but numbers. -/
def R_law : String := "SaltSaintsLaw"
def lw_P (b : Addr) (xs : List Int32) (args : Array Value) (s : State) : Prop := args = #[.ref b] ∧ s.IntsAt b xs ∧ xs.length ≤ 384 ∧ (Jvm.Cond.and given_1 narrow_1).before args s = true
def lw_Q (_ : Array Value) (s : State) (o : Outcome) (t : State) : Prop := o = .returned (some (.int 1)) ∧ Framed s o t [] 600000 7302249
def lw_Z (below : List Frame) (a : Array Value) (s : State) : State → Prop := fun t => ∃ o, t.status = .running ∧ Ended t below o ∧ lw_Q a s o t
/-- the law's own end, with 1 on the stack, nothing written that was there before, its room as the claim has it -/
theorem lw_ret {p : Program} {l : Launch} {e : Env} {s : State} {m : MethodId} {below : List Frame} {meth : Method} {c : Code} {b : Nat} (hx : p.tables.exec = Jvm.exec) (hb : c.code = code) (hr : meth.sig.returnType = ret) (hlocks : meth.locks = false) {pc : Nat} {H : Heap} {ls : Array Slot} (hdg : decode code pc = .ok (.ireturn, 1)) : W p l e room_1 s m #[Value.ref b] below meth c H [] 600000 7302249 (lw_Z below #[Value.ref b] s) (F0 m pc ls [.int 1]) := by
  intro T hT X
  obtain ⟨fs, hret, hrun, hended, hW, hframe⟩ := X.leave (v := some (.int 1)) (hlocks := hlocks) (fun h => by rw [hr] at h; cases h)
  have hmeth' : T.vm.method? m = some meth := X.method'
  refine ⟨T.setFrames fs, ?_, .returned (some (.int 1)), hrun, hended, rfl, ⟨_, rfl⟩, hW, hframe⟩
  jvm_step X.here [X.here.top, hx, hb, hdg, hmeth', hr, ret, narrow_b1]
  (try refine ⟨rfl, ?_⟩); (try refine ⟨rfl, ?_⟩)
  first | (intro acts; rw [hret _ acts rfl rfl rfl]) | rw [hret _ _ rfl rfl rfl]
  exact Steps.refl _
/-- what holds at the law's entry: the machine, the code, the tables' words (any of lw_tbl by 'hts w (by decide +kernel)'), the script of L ints xs at the cell b, what the Statement gives of the start (any of its parts by flat_of_before) -/
def lw_At (p : Program) (s : State) (m : MethodId) (meth : Method) (c : Code) (b L : Nat) (xs : Nat → Int32) : Prop :=
  p.tables.exec = Jvm.exec ∧ c.code = code ∧ meth.sig.returnType = ret ∧ c.maxLocals = 4 ∧ s.vm.findClass R_law = some m.cls ∧ (∀ w ∈ lw_tbl, w.before #[Value.ref b] s = true) ∧ va_X b L xs s s.heap ∧ b < s.heap.size ∧ meth.locks = false ∧ (Jvm.Cond.and given_1 narrow_1).before #[Value.ref b] s = true
/-! ===== THE LAW over both worlds ===== -/
def zC (G : xG) (adC adM : Nat → Nat) (p : Program) (m : MethodId) (c : Code) (s : State) (b : Nat) : Prop :=
  CallFix p m c code 4 s #[Value.ref b] xw_all RL ∧ va_K G.1 vwCl (xT G) s ∧ xw_NW s ∧ xI 36 adC ∧ xI 23 adM ∧ (∀ i j, i < 36 → j < 23 → adC i ≠ adM j) ∧ (∀ i, i < 36 → s.heap.size ≤ adC i) ∧ ∀ j, j < 23 → s.heap.size ≤ adM j
def zS (G : xG) (adC adM : Nat → Nat) (s : State) (μC μM : xM) (H : Heap) (locs : List Loc) : Prop :=
  va_P G.1 vwCl (xW cS 36 G adC μC) H ∧ va_P G.1 vwCl (xW mS 23 G adM μM) H ∧ va_S (fun q : Nat => s.heap.size ≤ q) s.heap H locs
def zA (p : Program) (l : Launch) (e : Env) (s : State) (m : MethodId) (below : List Frame) (meth : Method) (c : Code) (b i : Nat) (G : xG) (adC adM : Nat → Nat) (Q : State → Prop) : Prop :=
  ∀ (μC μM : xM) (H : Heap) (locs : List Loc) (ls : Array Slot), rl μC μM → zS G adC adM s μC μM H locs → lv_has ls 4 [(3, .int (nI (i + 6))), (2, .ref (adM 0)), (1, .ref (adC 0)), (0, .ref b)] → W p l e room_1 s m #[Value.ref b] below meth c H locs 600000 7302249 Q (F0 m 18 ls [])
theorem zi {i L c : Nat} (hi : i + 6 ≤ L) (hc : c < 6) (hL : L ≤ 384) : vp_in (nI i + nI c) L := by
  rw [nI_add]
  exact vp_in_nI (by omega) (by omega)
theorem lg_self (x : Int64) : lg_cmp x x = 0 := by
  unfold lg_cmp
  rw [if_neg (by simp), if_pos rfl]
section ZR
variable {p : Program} {l : Launch} {e : Env} {R : Room} {s : State} {m : MethodId} {below : List Frame} {meth : Method} {c : Code} {H : Heap} {locs : List Loc} {cells slots : Nat} {Q : State → Prop}
variable {pc b : Nat} {ls : Array Slot} {rest : List Value} {G : xG} {adC adM : Nat → Nat} {μC μM : xM}
theorem z_rV {S : xH} {N : Nat} {ad : Nat → Nat} {μ : xM} {y : MethodName} {bytes : ByteArray} {maxL index n0 fr lo : Nat} {ret : Option FieldType} {Qc : Array Value → State → Outcome → State → Prop} {free : Addr → Prop} {As st : List Value} {lv : List (Nat × Value)} {k ci n : Nat} {ptr : Nat → Option Nat} {T : u_T}
    (Z : zC G adC adM p m c s b) (hP : va_P G.1 vwCl (xW S N G ad μ) H) (hM : Met l y (Cond.code y bytes maxL ret :: xw_all) (rmo fr lo) (va_Pc (.ref (ad k) :: As) (xPre S N G ad μ)) Qc 0 0 free) (hk : xcc y bytes maxL ret) (hv : xcv y) (hl : xcl RL index y) (hn : xcn y n0)
    (hs : k < N ∧ S k = .inr (.inr (ci, n, ptr))) (hc : vwCl[ci]? = some (y.cls, T, n)) (hL : lv_has ls 4 lv) (hR : (fr + 1 ≤ R.frames ∧ 8 + (maxL + 11) + lo ≤ R.locals) ∧ As.length = n0 ∧ (rest.map fun v => v.category).sum ≤ 8 ∧ cells ≤ R.cells ∧ slots ≤ R.slots) (hst : st = As.reverse ++ .ref (ad k) :: rest) (hdg : decode code pc = .ok (.invokevirtual index, 3)) :
    va_Run p l e R s m #[Value.ref b] below meth c H locs cells slots 0 0 (F0 m pc ls st) rest (Qc (Value.ref (ad k) :: As).toArray) free :=
  va_runV Z.1 hM ⟨callB_of n0 Z.1.2.2.2.2 (x_gw hk) rfl rfl rfl (Z.1.2.2.2.2 _ hk.2.1) (Z.1.2.2.2.2 _ hl) ⟨hk.2.2.1, hk.2.2.2, hn⟩ hR.1, Z.1.2.2.2.2 _ hv.1, Z.1.2.2.2.2 _ hv.2⟩ ⟨xPre_blind, va_recv Z.2.1 hP hc (x_obj hs), fun U hU hW => ⟨rfl, by rw [hU]; exact hP, va_K.moved hW.alike Z.2.1, Z.2.2.1.warm hW⟩⟩ rfl hR.2.1 hL.1 hst (lv_room hR.2.2.1) hdg hR.2.2.2
theorem z_keepM (Z : zC G adC adM p m c s b) (hP : va_P G.1 vwCl (xW mS 23 G adM μM) H) {H1 : Heap} (hk : ∀ q : Nat, q < H.size → ¬ xR 36 adC q → H1[q]? = H[q]?) : va_P G.1 vwCl (xW mS 23 G adM μM) H1 := by
  refine hP.kept (fun k q hq => hk q.1 (hP k q hq).lt ?_)
  obtain ⟨h1, h2⟩ := xW_lt hq
  rintro ⟨j, hj, h3⟩
  exact Z.2.2.2.2.2.1 j k hj h1 (h3.trans h2)
theorem z_keepC (Z : zC G adC adM p m c s b) (hP : va_P G.1 vwCl (xW cS 36 G adC μC) H) {H1 : Heap} (hk : ∀ q : Nat, q < H.size → ¬ xR 23 adM q → H1[q]? = H[q]?) : va_P G.1 vwCl (xW cS 36 G adC μC) H1 := by
  refine hP.kept (fun k q hq => hk q.1 (hP k q hq).lt ?_)
  obtain ⟨h1, h2⟩ := xW_lt hq
  rintro ⟨j, hj, h3⟩
  exact Z.2.2.2.2.2.1 k j h1 hj (h2.symm.trans h3.symm)
theorem z_frC (Z : zC G adC adM p m c s b) : ∀ q, xR 36 adC q → s.heap.size ≤ q := by
  rintro q ⟨k, hk, rfl⟩
  exact Z.2.2.2.2.2.2.1 k hk
theorem z_frM (Z : zC G adC adM p m c s b) : ∀ q, xR 23 adM q → s.heap.size ≤ q := by
  rintro q ⟨k, hk, rfl⟩
  exact Z.2.2.2.2.2.2.2 k hk
variable {a : Array Value} {st : List Value}
theorem z_ciC {K : Int32 → xM → Prop} (hr : va_Run p l e R s m #[Value.ref b] below meth c H locs cells slots 0 0 (F0 m pc ls st) rest (xQi cS 36 G adC K a) (xR 36 adC)) (Z : zC G adC adM p m c s b) (M : zS G adC adM s μC μM H locs)
    (kk : ∀ (r : Int32) (u : xM) (H1 : Heap) (locs1 : List Loc), K r u → zS G adC adM s u μM H1 locs1 → W p l e R s m #[Value.ref b] below meth c H1 locs1 cells slots Q (F0 m (pc + 3) ls (.int r :: rest))) : W p l e R s m #[Value.ref b] below meth c H locs cells slots Q (F0 m pc ls st) :=
  va_calli hr M.2.2 (fun q _ h => z_frC Z q h) (z_frC Z) (fun r u t H1 locs1 ht _ hw hB _ hk hS => kk r u H1 locs1 hw ⟨by rw [← ht]; exact hB, z_keepM Z M.2.1 hk, hS⟩)
theorem z_ciCP {K : Int32 → Prop} (hr : va_Run p l e R s m #[Value.ref b] below meth c H locs cells slots 0 0 (F0 m pc ls st) rest (xQi cS 36 G adC (fun r u => K r ∧ u = μC) a) (xR 36 adC)) (Z : zC G adC adM p m c s b) (M : zS G adC adM s μC μM H locs)
    (kk : ∀ (r : Int32) (H1 : Heap) (locs1 : List Loc), K r → zS G adC adM s μC μM H1 locs1 → W p l e R s m #[Value.ref b] below meth c H1 locs1 cells slots Q (F0 m (pc + 3) ls (.int r :: rest))) : W p l e R s m #[Value.ref b] below meth c H locs cells slots Q (F0 m pc ls st) :=
  z_ciC hr Z M (fun r u H1 locs1 h hM => kk r H1 locs1 h.1 (by rw [← h.2]; exact hM))
theorem z_clC {K : Int64 → xM → Prop} (hr : va_Run p l e R s m #[Value.ref b] below meth c H locs cells slots 0 0 (F0 m pc ls st) rest (xQl cS 36 G adC K a) (xR 36 adC)) (Z : zC G adC adM p m c s b) (M : zS G adC adM s μC μM H locs)
    (kk : ∀ (r : Int64) (u : xM) (H1 : Heap) (locs1 : List Loc), K r u → zS G adC adM s u μM H1 locs1 → W p l e R s m #[Value.ref b] below meth c H1 locs1 cells slots Q (F0 m (pc + 3) ls (.long r :: rest))) : W p l e R s m #[Value.ref b] below meth c H locs cells slots Q (F0 m pc ls st) :=
  va_calll hr M.2.2 (fun q _ h => z_frC Z q h) (z_frC Z) (fun r u t H1 locs1 ht _ hw hB _ hk hS => kk r u H1 locs1 hw ⟨by rw [← ht]; exact hB, z_keepM Z M.2.1 hk, hS⟩)
theorem z_ciM {K : Int32 → xM → Prop} (hr : va_Run p l e R s m #[Value.ref b] below meth c H locs cells slots 0 0 (F0 m pc ls st) rest (xQi mS 23 G adM K a) (xR 23 adM)) (Z : zC G adC adM p m c s b) (M : zS G adC adM s μC μM H locs)
    (kk : ∀ (r : Int32) (u : xM) (H1 : Heap) (locs1 : List Loc), K r u → zS G adC adM s μC u H1 locs1 → W p l e R s m #[Value.ref b] below meth c H1 locs1 cells slots Q (F0 m (pc + 3) ls (.int r :: rest))) : W p l e R s m #[Value.ref b] below meth c H locs cells slots Q (F0 m pc ls st) :=
  va_calli hr M.2.2 (fun q _ h => z_frM Z q h) (z_frM Z) (fun r u t H1 locs1 ht _ hw hB _ hk hS => kk r u H1 locs1 hw ⟨z_keepC Z M.1 hk, by rw [← ht]; exact hB, hS⟩)
theorem z_ciMP {K : Int32 → Prop} (hr : va_Run p l e R s m #[Value.ref b] below meth c H locs cells slots 0 0 (F0 m pc ls st) rest (xQi mS 23 G adM (fun r u => K r ∧ u = μM) a) (xR 23 adM)) (Z : zC G adC adM p m c s b) (M : zS G adC adM s μC μM H locs)
    (kk : ∀ (r : Int32) (H1 : Heap) (locs1 : List Loc), K r → zS G adC adM s μC μM H1 locs1 → W p l e R s m #[Value.ref b] below meth c H1 locs1 cells slots Q (F0 m (pc + 3) ls (.int r :: rest))) : W p l e R s m #[Value.ref b] below meth c H locs cells slots Q (F0 m pc ls st) :=
  z_ciM hr Z M (fun r u H1 locs1 h hM => kk r H1 locs1 h.1 (by rw [← h.2]; exact hM))
theorem z_clM {K : Int64 → xM → Prop} (hr : va_Run p l e R s m #[Value.ref b] below meth c H locs cells slots 0 0 (F0 m pc ls st) rest (xQl mS 23 G adM K a) (xR 23 adM)) (Z : zC G adC adM p m c s b) (M : zS G adC adM s μC μM H locs)
    (kk : ∀ (r : Int64) (u : xM) (H1 : Heap) (locs1 : List Loc), K r u → zS G adC adM s μC u H1 locs1 → W p l e R s m #[Value.ref b] below meth c H1 locs1 cells slots Q (F0 m (pc + 3) ls (.long r :: rest))) : W p l e R s m #[Value.ref b] below meth c H locs cells slots Q (F0 m pc ls st) :=
  va_calll hr M.2.2 (fun q _ h => z_frM Z q h) (z_frM Z) (fun r u t H1 locs1 ht _ hw hB _ hk hS => kk r u H1 locs1 hw ⟨z_keepC Z M.1 hk, by rw [← ht]; exact hB, hS⟩)
end ZR
