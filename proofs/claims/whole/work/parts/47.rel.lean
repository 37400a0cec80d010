/-! ===== class and reference agree ===== -/
def rd (c m : xM) (g : gN) : Prop := ∃ q, q ≤ 8 ∧ c 31 4 = nI q ∧ m 0 19 = nI q ∧ ∀ x, x < q → ∃ k p d v, k < g 0 1 ∧ p < 3 ∧ d ≤ 60 ∧ v < 100 ∧ c 32 x = nI k ∧ m 15 x = nI k ∧ c 33 x = nI p ∧ m 16 x = nI p ∧ c 34 x = nI d ∧ m 17 x = nI d ∧ c 35 x = nI v ∧ m 18 x = nI v
def sh (c m : xM) : Prop := ∀ k, k < 4 → (c (2 + k) 1 = 0 ∧ m 19 k = (-1)) ∨ (c (2 + k) 1 = 1 ∧ ∃ z l, z ≤ 60 ∧ l < 3 ∧ m 19 k = nI z ∧ c (2 + k) 3 = nI z ∧ c (2 + k) 2 = nI l ∧ m 20 k = nI l ∧ ∀ j, j < z → c (6 + k) j = m 21 (60 * k + j))
def rl (c m : xM) : Prop := (∃ g, okG g ∧ mr m g ∧ cs c g ∧ rd c m g) ∧ sh c m ∧ c 0 4 = m 0 0 ∧ c 0 3 = m 0 28 ∧ ∀ j, j < 7 → c 15 j = 0
theorem rd.same {c m c' m' : xM} {g g' : gN} (h : rd c m g) (hN : g' 0 1 = g 0 1) (hc : ∀ a, a = 31 ∨ a = 32 ∨ a = 33 ∨ a = 34 ∨ a = 35 → c' a = c a) (h0 : m' 0 19 = m 0 19) (hm : ∀ a, a = 15 ∨ a = 16 ∨ a = 17 ∨ a = 18 → m' a = m a) : rd c' m' g' := by
  unfold rd at h ⊢
  rw [hN, h0, hc 31 (by omega), hc 32 (by omega), hc 33 (by omega), hc 34 (by omega), hc 35 (by omega), hm 15 (by omega), hm 16 (by omega), hm 17 (by omega), hm 18 (by omega)]
  exact h
theorem sh.same {c m c' m' : xM} (h : sh c m) (hc : ∀ a, 2 ≤ a → a < 10 → c' a = c a) (hm : ∀ a, a = 19 ∨ a = 20 ∨ a = 21 → m' a = m a) : sh c' m' := by
  intro k hk
  have h1 := h k hk
  rw [hc (2 + k) (by omega) (by omega), hc (6 + k) (by omega) (by omega), hm 19 (by omega), hm 20 (by omega), hm 21 (by omega)]
  exact h1
theorem rl_keep {c m c' m' : xM} {g : gN} (hg : okG g) (hm : mr m g) (hr : rd c m g) (hs : sh c m) (hf : c 0 4 = m 0 0) (ht : c 0 3 = m 0 28) (h0 : ∀ j, j < 7 → c 15 j = 0) (fc : frW c c') (hc : cs c' g) (fm : fr3 m m') : rl c' m' := by
  have f0 := fm 0 (by decide) (by decide) (by decide)
  have c0 := fc.1 0 (by decide) (by decide) (by decide) (by decide)
  refine ⟨⟨g, hg, hm.fr fm, hc, hr.same rfl (fun a ha => fc.1 a (by omega) (by omega) (by omega) (by omega)) (by rw [f0]) (fun a ha => fm a (by omega) (by omega) (by omega))⟩, hs.same (fun a h1 h2 => fc.1 a (by omega) (by omega) (by omega) (by omega)) (fun a ha => fm a (by omega) (by omega) (by omega)), by rw [f0, c0]; exact hf, by rw [f0, c0]; exact ht, fun j hj => (fc.2.2 j hj).trans (h0 j hj)⟩
/-! range tests -/
theorem u_isStatue_y {n k N : Nat} {c : xM} {K : Int32 → Prop} (hc : c 10 6 = nI N) (hk : k < N) (hN : N ≤ 7) (hK : K 1) : wp_X6_isStatue n (nI k) c K :=
  w_bl_y hk (by omega) hc ⟨xb_1, hK⟩
theorem u_isStatue_n {n N : Nat} {a : Int32} {c : xM} {K : Int32 → Prop} (hc : c 10 6 = nI N) (hk : nin a N) (hN : N ≤ 7) (hK : K 0) : wp_X6_isStatue n a c K :=
  w_bl_n hk (by omega) hc ⟨xb_0, hK⟩
theorem u_isDawn_y {n k : Nat} {c : xM} {K : Int32 → Prop} (hk : k ≤ 60) (hK : K 1) : wp_X6_isDawn n (nI k) c K :=
  w_bl_y (B := 61) (by omega) (by omega) rfl ⟨xb_1, hK⟩
theorem u_isDawn_n {n : Nat} {a : Int32} {c : xM} {K : Int32 → Prop} (hk : nin a 61) (hK : K 0) : wp_X6_isDawn n a c K :=
  w_bl_n hk (by omega) rfl ⟨xb_0, hK⟩
theorem t_noOne_y {n k N : Nat} {m : xM} {K : Int32 → Prop} (hm : m 0 1 = nI N) (hk : k < N) (hN : N ≤ 7) (hK : K 0) : wp_X7_noOne n (nI k) m K := by
  unfold wp_X7_noOne
  rw [hm]
  exact w_in_y hk (by omega) (lNt N (by omega)) ⟨fun _ => hK, fun h => absurd h (by decide)⟩
theorem t_noOne_n {n N : Nat} {a : Int32} {m : xM} {K : Int32 → Prop} (hm : m 0 1 = nI N) (hk : nin a N) (hN : N ≤ 7) (hK : K 1) : wp_X7_noOne n a m K := by
  unfold wp_X7_noOne
  rw [hm]
  exact w_in_n hk (by omega) (lNt N (by omega)) ⟨fun h => absurd rfl h, fun _ => hK⟩
theorem t_isDawn_y {n k : Nat} {m : xM} {K : Int32 → Prop} (hk : k ≤ 60) (hK : K 1) : wp_X7_isDawn n (nI k) m K :=
  w_in_y (B := 61) (by omega) (by omega) rfl ⟨xb_1, hK⟩
theorem t_isDawn_n {n : Nat} {a : Int32} {m : xM} {K : Int32 → Prop} (hk : nin a 61) (hK : K 0) : wp_X7_isDawn n a m K :=
  w_in_n hk (by omega) rfl ⟨xb_0, hK⟩
theorem t_noPart_y {n k : Nat} {m : xM} {K : Int32 → Prop} (hk : k < 3) (hK : K 0) : wp_X7_noPart n (nI k) m K :=
  w_in_y (B := 3) hk (by omega) rfl ⟨fun _ => hK, fun h => absurd h (by decide)⟩
theorem t_noPart_n {n : Nat} {a : Int32} {m : xM} {K : Int32 → Prop} (hk : nin a 3) (hK : K 1) : wp_X7_noPart n a m K :=
  w_in_n hk (by omega) rfl ⟨fun h => absurd rfl h, fun _ => hK⟩
theorem b1 {A B : Prop} (h : A) : (¬ (1 : Int32) = 0 → A) ∧ ((1 : Int32) = 0 → B) := ⟨fun _ => h, fun q => absurd q (by decide)⟩
theorem b1' {A B : Prop} (h : A) : ((1 : Int32) = 0 → B) ∧ (¬ (1 : Int32) = 0 → A) := ⟨fun q => absurd q (by decide), fun _ => h⟩
theorem b0 {A B : Prop} (h : B) : (¬ (0 : Int32) = 0 → A) ∧ ((0 : Int32) = 0 → B) := ⟨fun q => absurd rfl q, fun _ => h⟩
theorem b0' {A B : Prop} (h : B) : ((0 : Int32) = 0 → B) ∧ (¬ (0 : Int32) = 0 → A) := ⟨fun _ => h, fun q => absurd rfl q⟩
/-! the numbers changed at one place -/
def gs (g : gN) (a k v : Nat) : gN := fun b => if b = a then su (g b) k v else g b
theorem gs_n {g : gN} {a k v b : Nat} (h : b ≠ a) : gs g a k v b = g b := by simp [gs, h]
theorem gs_s (g : gN) (a k v : Nat) : gs g a k v a = su (g a) k v := by simp [gs]
theorem gs_ss (g : gN) (a k v : Nat) : gs g a k v a k = v := by rw [gs_s, su_s]
theorem gs_sn {g : gN} {a k v j : Nat} (h : j ≠ k) : gs g a k v a j = g a j := by rw [gs_s, su_n h]
theorem gs_at (g : gN) (a k v j : Nat) : gs g a k v a j = if j = k then v else g a j := by rw [gs_s]; rfl
theorem sat_congr {g g' : gN} (h1 : g' 0 1 = g 0 1) (h2 : g' 0 14 = g 0 14) (h3 : ∀ a, 1 ≤ a → a ≤ 5 → g' a = g a) : ∀ d, (∀ e, e < d → g' 9 e = g 9 e ∧ g' 10 e = g 10 e) → sat g' d = sat g d
  | 0, _ => by unfold sat; rw [h3 2 (by decide) (by decide)]
  | d + 1, h => by
    have ih := sat_congr h1 h2 h3 d (fun e he => h e (by omega))
    have e1 : ∀ x, scn g' x = scn g x := fun x => by funext k; unfold scn; rw [h3 1 (by decide) (by decide), h3 2 (by decide) (by decide), h3 5 (by decide) (by decide)]
    have e2 : ∀ x n, sbt g' x n = sbt g x n := by
      intro x n
      induction n with
      | zero => rfl
      | succ n ihn => unfold sbt; rw [ihn, e1 x]
    have e3 : ∀ t, slk g' t = slk g t := fun t => by unfold slk; rw [e2, h1]
    have e4 : ∀ t n, slks g' n t = slks g n t := by
      intro t n
      induction n with
      | zero => rfl
      | succ n ihn => show slk g' (slks g' n t) = slk g (slks g n t); rw [ihn, e3]
    have e5 : ∀ k p, sK g' k p d = sK g k p d := fun k p => by
      unfold sK
      rw [h3 1 (by decide) (by decide), h3 3 (by decide) (by decide), h3 4 (by decide) (by decide), (h d (by omega)).1, (h d (by omega)).2]
    show slks g' (g' 0 14) (srn g' d (sat g' d)) = slks g (g 0 14) (srn g d (sat g d))
    rw [ih, h2, e4]
    unfold srn
    simp only [e5]
theorem slkd_congr {g g' : gN} (h1 : g' 0 1 = g 0 1) (h2 : g' 0 14 = g 0 14) (h3 : ∀ a, 1 ≤ a → a ≤ 5 → g' a = g a) {d : Nat} (h : ∀ e, e < d + 1 → g' 9 e = g 9 e ∧ g' 10 e = g 10 e) : slkd g' d = slkd g d := by
  have ih := sat_congr h1 h2 h3 d (fun e he => h e (by omega))
  have e1 : ∀ x, scn g' x = scn g x := fun x => by funext k; unfold scn; rw [h3 1 (by decide) (by decide), h3 2 (by decide) (by decide), h3 5 (by decide) (by decide)]
  have e2 : ∀ x n, sbt g' x n = sbt g x n := by
    intro x n
    induction n with
    | zero => rfl
    | succ n ihn => unfold sbt; rw [ihn, e1 x]
  have e5 : ∀ k p, sK g' k p d = sK g k p d := fun k p => by
    unfold sK
    rw [h3 1 (by decide) (by decide), h3 3 (by decide) (by decide), h3 4 (by decide) (by decide), (h d (by omega)).1, (h d (by omega)).2]
  unfold slkd
  rw [h1, h2, ih, e2]
  unfold srn
  simp only [e5]
theorem ch_0 {c : xM} {g : gN} (hk : c 10 8 = nI 0) (h14 : ∀ k, k < g 0 1 → ∀ p, p < 3 → c 14 (k * 3 + p) = nI (g 2 (3 * k + p))) (h15 : ∀ j, j < 7 → c 15 j = 0) (hN : g 0 1 ≤ 7) : ch c g 0 := by
  refine ⟨hk, by omega, fun d hd => ?_, fun d hd => absurd hd (by omega)⟩
  rw [show d = 0 by omega]
  intro k hkN
  refine ⟨fun p hp => ?_, ?_⟩
  · rw [show 0 * 21 + k * 3 + p = k * 3 + p by omega]; exact h14 k hkN p hp
  · rw [show 0 * 7 + k = k by omega]; exact h15 k (by omega)
theorem ch_row0 {c : xM} {g : gN} {kn : Nat} (h : ch c g kn) {k : Nat} (hk : k < g 0 1) {p : Nat} (hp : p < 3) : c 14 (k * 3 + p) = nI (g 2 (3 * k + p)) := by
  have h1 := (h.2.2.1 0 (by omega) k hk).1 p hp
  rw [show 0 * 21 + k * 3 + p = k * 3 + p by omega] at h1
  exact h1
theorem u_forget0 {n kn : Nat} {c : xM} {K : xM → Prop} (hk : c 10 8 = nI kn) (hkn : kn ≤ 60) (hK : K (xu c 10 8 (nI 0))) : wp_X5_forgetFrom n (0 : Int32) c K := by
  unfold wp_X5_forgetFrom
  rw [hk]
  rintro _ rfl _ rfl
  have e : (if (0 : Int32) < nI kn then (0 : Int32) else nI kn) = nI 0 := (imin (a := kn) (b := 0) (by omega) (by omega)).trans (by rw [show min kn 0 = 0 by omega])
  rw [e]
  exact hK
