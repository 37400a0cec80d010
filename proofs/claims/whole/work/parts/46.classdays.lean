def ch (c : xM) (g : gN) (kn : Nat) : Prop := c 10 8 = nI kn ∧ kn ≤ 60 ∧ (∀ d, d ≤ kn → cd c g d (sat g d)) ∧ ∀ d, d < kn → c 16 d = sbi (slkd g d)
/-- what a reckoning of days leaves as it is -/
def frW (c c' : xM) : Prop := (∀ a, a ≠ 10 → a ≠ 14 → a ≠ 15 → a ≠ 16 → c' a = c a) ∧ (∀ j, j ≠ 8 → c' 10 j = c 10 j) ∧ ∀ j, j < 7 → c' 15 j = c 15 j
theorem frW.rf (c : xM) : frW c c := ⟨fun _ _ _ _ _ => rfl, fun _ _ => rfl, fun _ _ => rfl⟩
theorem frW.tr {c c1 c2 : xM} (h : frW c c1) (h2 : frW c1 c2) : frW c c2 :=
  ⟨fun a x y z w => (h2.1 a x y z w).trans (h.1 a x y z w), fun x q => (h2.2.1 x q).trans (h.2.1 x q), fun x q => (h2.2.2 x q).trans (h.2.2 x q)⟩
theorem cr.frW {c c' : xM} {g : gN} (h : cr c g) (hg : okG g) (hf : frW c c') : cr c' g := by
  have f := hf.1
  have hN := hg.1
  obtain ⟨h1, h2, h3, h4⟩ := h
  refine ⟨by rw [hf.2.1 6 (by decide)]; exact h1, by rw [hf.2.1 7 (by decide)]; exact h2, fun k hk => ?_, fun e he => ?_⟩
  · rw [f (17 + k) (by omega) (by omega) (by omega) (by omega), f (24 + k) (by omega) (by omega) (by omega) (by omega)]
    exact h3 k hk
  · rw [f 12 (by decide) (by decide) (by decide) (by decide), f 13 (by decide) (by decide) (by decide) (by decide)]
    exact h4 e he
theorem u_workOut {n d kn : Nat} {c : xM} {g : gN} {K : xM → Prop} (hc : cr c g) (hg : okG g) (hk : ch c g kn) (hd : d ≤ 60) (hn : 100 ≤ n) (hK : ∀ c' kn', frW c c' → ch c' g kn' → d ≤ kn' → K c') : wp_X5_workOut n (nI d) c K := by
  obtain ⟨k1, k2, k3, k4⟩ := hk
  have hN := hg.1
  unfold wp_X5_workOut
  rintro _ rfl
  rw [k1]
  refine xjn_i (fun x => (∀ a, a ≠ 14 → a ≠ 15 → a ≠ 16 → x a = c a) ∧ (∀ j, j < 7 → x 15 j = c 15 j) ∧ (∀ e, e ≤ max kn d → cd x g e (sat g e)) ∧ ∀ e, e < max kn d → x 16 e = sbi (slkd g e)) ?_ ?_
  · rintro x ⟨p1, p2, p3, p4⟩
    rw [p1 10 (by decide) (by decide) (by decide), k1, imax (by omega) (by omega)]
    rintro _ rfl _ rfl
    refine hK _ (max kn d) ⟨fun a h1 h2 h3 h4 => (xu_ne h1).trans (p1 a h2 h3 h4), fun j hj => ?_, fun j hj => ?_⟩ ⟨xu_s _ _ _ _, by omega, fun e he => ?_, fun e he => ?_⟩ (by omega)
    · rw [xu_j hj, p1 10 (by decide) (by decide) (by decide)]
    · rw [xu_a (by decide)]; exact p2 j hj
    · intro k hk
      obtain ⟨q1, q2⟩ := p3 e he k hk
      exact ⟨fun p hp => by rw [xu_a (by decide)]; exact q1 p hp, by rw [xu_a (by decide)]; exact q2⟩
    · rw [xu_a (by decide)]; exact p4 e he
  · intro J hJ
    refine lpg (fun i (x : xM) => (nI i, x)) (max kn d) (fun i x => kn ≤ i ∧ (∀ a, a ≠ 14 → a ≠ 15 → a ≠ 16 → x a = c a) ∧ (∀ j, j < 7 → x 15 j = c 15 j) ∧ (∀ e, e ≤ i → cd x g e (sat g e)) ∧ ∀ e, e < i → x 16 e = sbi (slkd g e)) ?_ (i := kn) (t := c) ⟨Nat.le_refl _, fun _ _ _ _ => rfl, fun _ _ => rfl, k3, k4⟩ (by omega) (by omega)
    intro i x again hi ⟨p0, p1, p2, p3, p4⟩ hag
    dsimp only
    refine pk_le d i (fun h => ?_) (fun h => ?_)
    · exact hJ x ⟨p1, p2, fun e he => p3 e (by omega), fun e he => p4 e (by omega)⟩
    · have c21 : (21 : Int32).toNatClampNeg = 21 := rfl
      have c7 : (7 : Int32).toNatClampNeg = 7 := rfl
      simp only [nI_1, mul21r, mul7r, nI_clamp (show i * 21 < 2 ^ 31 by omega), nI_clamp (show (i + 1) * 21 < 2 ^ 31 by omega), nI_clamp (show i * 7 < 2 ^ 31 by omega), nI_clamp (show (i + 1) * 7 < 2 ^ 31 by omega), c21, c7]
      refine ⟨⟨nI_pos (by omega), nI_pos (by omega), by decide, by omega, by omega⟩, ?_⟩
      rintro _ rfl
      refine ⟨⟨nI_pos (by omega), nI_pos (by omega), by decide, by omega, by omega⟩, ?_⟩
      rintro _ rfl
      generalize hy : xcp (xcp x 14 14 (i * 21) ((i + 1) * 21) 21) 15 15 (i * 7) ((i + 1) * 7) 7 = y
      have y14 : ∀ z, y 14 z = if (i + 1) * 21 ≤ z ∧ z < (i + 1) * 21 + 21 then x 14 (i * 21 + (z - (i + 1) * 21)) else x 14 z := fun z => by rw [← hy, xcp_a (by decide), xcp_at]
      have y15 : ∀ z, y 15 z = if (i + 1) * 7 ≤ z ∧ z < (i + 1) * 7 + 7 then x 15 (i * 7 + (z - (i + 1) * 7)) else x 15 z := fun z => by rw [← hy, xcp_at, xcp_a (by decide), xcp_a (by decide)]
      have ya : ∀ a, a ≠ 14 → a ≠ 15 → y a = x a := fun a h1 h2 => by rw [← hy]; funext j; rw [xcp_a h2, xcp_a h1]
      have fy : frD (i + 1) x y := ⟨fun a h1 h2 h3 => ya a h1 h2, fun z hz => by rw [y14, if_neg (by omega)], fun z hz => by rw [y15, if_neg (by omega)], fun z hz => by rw [ya 16 (by decide) (by decide)]⟩
      have hx : cr x g := by
        refine hc.frW hg ⟨fun a h1 h2 h3 h4 => p1 a h2 h3 h4, fun j _ => by rw [p1 10 (by decide) (by decide) (by decide)], p2⟩
      have hy1 : cr y g := hx.fr hg fy
      have ci : cd y g (i + 1) (sat g i) := by
        intro k hk
        obtain ⟨q1, q2⟩ := p3 i (Nat.le_refl i) k hk
        refine ⟨fun p hp => ?_, ?_⟩
        · rw [y14, if_pos (by omega), show i * 21 + ((i + 1) * 21 + k * 3 + p - (i + 1) * 21) = i * 21 + k * 3 + p by omega]
          exact q1 p hp
        · rw [y15, if_pos (by omega), show i * 7 + ((i + 1) * 7 + k - (i + 1) * 7) = i * 7 + k by omega]
          exact q2
      refine u_pour hy1 hg ci (sat_ok g i) (by omega) hn (fun z fz sz => ?_)
      refine u_graze (hy1.fr hg fz) hg sz (srn_ok (sat_ok g i)) (by omega) hn (fun w fw sw lw => ?_)
      rintro _ rfl
      have ft := (fy.tr fz).tr fw
      refine hag w (by omega) ⟨by omega, fun a h1 h2 h3 => (ft.1 a h1 h2 h3).trans (p1 a h1 h2 h3), fun j hj => (ft.2.2.1 j (by omega)).trans (p2 j hj), fun e he => ?_, fun e he => ?_⟩
      · by_cases e1 : e = i + 1
        · subst e1; exact sw
        · intro k hk
          obtain ⟨q1, q2⟩ := p3 e (by omega) k hk
          exact ⟨fun p hp => (ft.2.1 _ (by omega)).trans (q1 p hp), (ft.2.2.1 _ (by omega)).trans q2⟩
      · by_cases e1 : e = i
        · subst e1; exact lw
        · exact (ft.2.2.2 e (by omega)).trans (p4 e (by omega))
/-- the class's memory: the numbers, and some days reckoned -/
def cs (c : xM) (g : gN) : Prop := cr c g ∧ ∃ kn, ch c g kn
theorem u_wo {n d : Nat} {c : xM} {g : gN} {K : xM → Prop} (hc : cs c g) (hg : okG g) (hd : d ≤ 60) (hn : 100 ≤ n) (hK : ∀ c', frW c c' → cs c' g → (∀ e, e ≤ d → cd c' g e (sat g e)) → (∀ e, e < d → c' 16 e = sbi (slkd g e)) → K c') : wp_X5_workOut n (nI d) c K := by
  obtain ⟨h1, kn, h2⟩ := hc
  exact u_workOut h1 hg h2 hd hn (fun c' kn' f h3 h4 => hK c' f ⟨h1.frW hg f, kn', h3⟩ (fun e he => h3.2.2.1 e (by omega)) (fun e he => h3.2.2.2 e (by omega)))
theorem u_leftOfPart {n k p d : Nat} {c : xM} {g : gN} {K : Int32 → xM → Prop} (hc : cs c g) (hg : okG g) (hk : k < g 0 1) (hp : p < 3) (hd : d ≤ 60) (hn : 100 ≤ n) (hK : ∀ c', frW c c' → cs c' g → K (nI ((sat g d).1 (3 * k + p))) c') : wp_X5_leftOfPart n (nI k) (nI p) (nI d) c K := by
  have hN := hg.1
  unfold wp_X5_leftOfPart
  refine u_wo hc hg hd hn (fun c' f h1 h2 _ => u_placeOf ⟨pk_in (d * 21 + k * 3 + p) 1281 (by omega), ?_⟩)
  rw [nI_clamp (by omega), (h2 d (Nat.le_refl d) k hk).1 p hp]
  exact hK c' f h1
def sm3 (h : Nat → Nat) (k : Nat) : Nat := h (3 * k) + h (3 * k + 1) + h (3 * k + 2)
theorem u_sumOf {n k d : Nat} {c : xM} {g : gN} {t : sT} {K : Int32 → Prop} (hg : okG g) (hk : k < g 0 1) (hs : cd c g d t) (hd : d ≤ 60) (hK : K (nI (sm3 t.1 k))) : wp_X5_sumOf n (nI k) (nI d) c K := by
  have hN := hg.1
  obtain ⟨h1, -⟩ := hs k hk
  have e0 := h1 0 (by decide)
  have e1 := h1 1 (by decide)
  have e2 := h1 2 (by decide)
  unfold wp_X5_sumOf
  refine u_placeOf (p := 0) ⟨pk_in (d * 21 + k * 3 + 0) 1281 (by omega), u_placeOf (p := 1) ⟨pk_in (d * 21 + k * 3 + 1) 1281 (by omega), u_placeOf (p := 2) ⟨pk_in (d * 21 + k * 3 + 2) 1281 (by omega), ?_⟩⟩⟩
  rw [nI_clamp (by omega), nI_clamp (by omega), nI_clamp (by omega), e0, e1, e2, nI_add, nI_add]
  exact hK
theorem u_leftOf {n k d : Nat} {c : xM} {g : gN} {K : Int32 → xM → Prop} (hc : cs c g) (hg : okG g) (hk : k < g 0 1) (hd : d ≤ 60) (hn : 100 ≤ n) (hK : ∀ c', frW c c' → cs c' g → K (nI (sm3 (sat g d).1 k)) c') : wp_X5_leftOf n (nI k) (nI d) c K := by
  unfold wp_X5_leftOf
  exact u_wo hc hg hd hn (fun c' f h1 h2 _ => u_sumOf hg hk (h2 d (Nat.le_refl d)) hd (hK c' f h1))
def smA (h : Nat → Nat) : Nat → Nat
  | 0 => 0
  | k + 1 => smA h k + sm3 h k
theorem sm3_le {g : gN} {t : sT} (hg : okG g) (ht : okS g t) {k : Nat} (hk : k < g 0 1) : sm3 t.1 k ≤ 270 := by
  have h := (okS_b hg ht hk).1
  have h0 := h 0 (by decide)
  have h1 := h 1 (by decide)
  have h2 := h 2 (by decide)
  simp only [Nat.add_zero] at h0
  unfold sm3
  omega
theorem u_leftOfAll {n d : Nat} {c : xM} {g : gN} {K : Int32 → xM → Prop} (hc : cs c g) (hg : okG g) (hd : d ≤ 60) (hn : 100 ≤ n) (hK : ∀ c', frW c c' → cs c' g → K (nI (smA (sat g d).1 (g 0 1))) c') : wp_X5_leftOfAll n (nI d) c K := by
  have hN := hg.1
  unfold wp_X5_leftOfAll
  refine lpg (fun i (x : xM) => (nI i, nI (smA (sat g d).1 i), x)) (g 0 1) (fun i x => frW c x ∧ cs x g) ?_ (i := 0) (t := c) ⟨frW.rf c, hc⟩ (by omega) (by omega)
  intro i x again hi ⟨p1, p2⟩ hag
  dsimp only
  rw [p2.1.1]
  refine pk_le (g 0 1) i (fun h => ?_) (fun h => ?_)
  · rw [show g 0 1 = i by omega] at hK
    exact hK x p1 p2
  · refine u_leftOf p2 hg h hd hn (fun y f q => ?_)
    rintro _ rfl _ rfl
    rw [nI_1, nI_add]
    exact hag y h ⟨p1.tr f, q⟩
theorem u_lickedOff {n k d : Nat} {c : xM} {g : gN} {K : Int32 → xM → Prop} (hc : cs c g) (hg : okG g) (hk : k < g 0 1) (hd : d ≤ 60) (hn : 100 ≤ n) (hK : ∀ c', frW c c' → cs c' g → K (nI ((sat g d).2.2 k)) c') : wp_X5_lickedOff n (nI k) (nI d) c K := by
  have hN := hg.1
  unfold wp_X5_lickedOff
  refine u_wo hc hg hd hn (fun c' f h1 h2 _ => ?_)
  rw [mul7r, nI_add, nI_clamp (by omega), (h2 d (Nat.le_refl d) k hk).2]
  exact ⟨pk_in (d * 7 + k) 427 (by omega), hK c' f h1⟩
theorem u_inPuddle {n k d : Nat} {c : xM} {g : gN} {K : Int32 → xM → Prop} (hc : cs c g) (hg : okG g) (hk : k < g 0 1) (hd : d ≤ 60) (hn : 100 ≤ n) (hK : ∀ c', frW c c' → cs c' g → K (nI ((sat g d).2.1 k)) c') : wp_X5_inPuddle n (nI k) (nI d) c K := by
  have hN := hg.1
  have h5 := (hc.1.2.2.1 k hk).2.2.2.2
  have f0 := h5 0 (by decide)
  have f1 := h5 1 (by decide)
  have f2 := h5 2 (by decide)
  have b5 := (hg.2.2.1 k hk).2.2.2.2
  have b0 := b5 0 (by decide)
  have b1 := b5 1 (by decide)
  have b2 := b5 2 (by decide)
  have cons := (sat_ok g d k hk).2
  simp only [Nat.add_zero] at f0 b0
  unfold wp_X5_inPuddle wp_X3_allAtFirst
  rw [nI_clamp (by omega)]
  refine ⟨pk_in k 7 (by omega), pk_in 0 3 (by omega), pk_in 1 3 (by omega), pk_in 2 3 (by omega), ?_⟩
  refine u_leftOf hc hg hk hd hn (fun c1 g1 s1 => u_lickedOff s1 hg hk hd hn (fun c2 g2 s2 => ?_))
  rw [show (0 : Int32).toNatClampNeg = 0 from rfl, show (1 : Int32).toNatClampNeg = 1 from rfl, show (2 : Int32).toNatClampNeg = 2 from rfl, f0, f1, f2, nI_add, nI_add]
  have e : nI (g 2 (3 * k) + g 2 (3 * k + 1) + g 2 (3 * k + 2)) - nI (sm3 (sat g d).1 k) - nI ((sat g d).2.2 k) = nI ((sat g d).2.1 k) := by
    unfold sm3
    rw [pk_sub (by omega), pk_sub (by omega)]
    congr 1
    omega
  rw [e]
  exact hK c2 (g1.tr g2) s2
/-- the first number below B of which P holds; B, if there is none -/
def sfs (P : Nat → Bool) : Nat → Nat
  | 0 => 0
  | b + 1 => if sfs P b < b then sfs P b else if P b = true then b else b + 1
theorem sfs_no {P : Nat → Bool} {B : Nat} (h : ∀ e, e < B → P e = false) : sfs P B = B := by
  induction B with
  | zero => rfl
  | succ b ih =>
    unfold sfs
    rw [ih (fun e he => h e (by omega)), if_neg (by omega), h b (by omega)]
    simp
theorem sfs_yes {P : Nat → Bool} {d : Nat} (h1 : P d = true) (h2 : ∀ e, e < d → P e = false) {B : Nat} (hB : d < B) : sfs P B = d := by
  induction B with
  | zero => exact absurd hB (by omega)
  | succ b ih =>
    unfold sfs
    by_cases e : d < b
    · rw [ih e, if_pos e]
    · have e2 : d = b := by omega
      subst e2
      rw [sfs_no h2, if_neg (by omega), if_pos h1]
theorem u_dawnWithoutPart {n k p : Nat} {c : xM} {g : gN} {K : Int32 → xM → Prop} (hc : cs c g) (hg : okG g) (hk : k < g 0 1) (hp : p < 3) (hn : 100 ≤ n) (hK : ∀ c', frW c c' → cs c' g → K (nI (sfs (fun d => decide ((sat g d).1 (3 * k + p) = 0)) 61)) c') : wp_X5_dawnWithoutPart n (nI k) (nI p) c K := by
  have hN := hg.1
  unfold wp_X5_dawnWithoutPart
  refine u_wo (d := 60) hc hg (by omega) hn (fun c' f h1 h2 _ => ?_)
  have hK := hK c' f h1
  refine lpg (fun i (_ : Unit) => nI i) 61 (fun i _ => ∀ e, e < i → decide ((sat g e).1 (3 * k + p) = 0) = false) ?_ (i := 0) (t := ()) (fun e he => absurd he (by omega)) (by omega) (by omega)
  intro i _ again hi hP hag
  try dsimp only
  refine pk_lt 60 i (fun h => ?_) (fun h => ?_)
  · rw [sfs_no (fun e he => hP e (by omega))] at hK
    exact hK
  · refine u_placeOf ⟨pk_in (i * 21 + k * 3 + p) 1281 (by omega), ?_⟩
    rw [nI_clamp (by omega), (h2 i h k hk).1 p hp]
    have ob := (okS_b hg (sat_ok g i) hk).1 p hp
    refine pk_ne ((sat g i).1 (3 * k + p)) 0 (fun h0 => ?_) (fun h0 => ?_)
    · rintro _ rfl
      rw [nI_1]
      refine hag () (by omega) (fun e he => ?_)
      by_cases e1 : e = i
      · subst e1; simp [h0]
      · exact hP e (by omega)
    · rw [sfs_yes (d := i) (by simp [h0]) hP (by omega)] at hK
      exact hK
theorem u_dawnWithoutAny {n k : Nat} {c : xM} {g : gN} {K : Int32 → xM → Prop} (hc : cs c g) (hg : okG g) (hk : k < g 0 1) (hn : 100 ≤ n) (hK : ∀ c', frW c c' → cs c' g → K (nI (sfs (fun d => decide (sm3 (sat g d).1 k = 0)) 61)) c') : wp_X5_dawnWithoutAny n (nI k) c K := by
  have hN := hg.1
  unfold wp_X5_dawnWithoutAny
  refine u_wo (d := 60) hc hg (by omega) hn (fun c' f h1 h2 _ => ?_)
  have hK := hK c' f h1
  refine lpg (fun i (_ : Unit) => nI i) 61 (fun i _ => ∀ e, e < i → decide (sm3 (sat g e).1 k = 0) = false) ?_ (i := 0) (t := ()) (fun e he => absurd he (by omega)) (by omega) (by omega)
  intro i _ again hi hP hag
  try dsimp only
  refine pk_lt 60 i (fun h => ?_) (fun h => ?_)
  · rw [sfs_no (fun e he => hP e (by omega))] at hK
    exact hK
  · refine u_sumOf hg hk (h2 i h) h ?_
    have ob := sm3_le hg (sat_ok g i) hk
    refine pk_ne (sm3 (sat g i).1 k) 0 (fun h0 => ?_) (fun h0 => ?_)
    · rintro _ rfl
      rw [nI_1]
      refine hag () (by omega) (fun e he => ?_)
      by_cases e1 : e = i
      · subst e1; simp [h0]
      · exact hP e (by omega)
    · rw [sfs_yes (d := i) (by simp [h0]) hP (by omega)] at hK
      exact hK
theorem u_likedFirst {n d : Nat} {c : xM} {g : gN} {K : Int32 → xM → Prop} (hc : cs c g) (hg : okG g) (hd : d < 60) (hn : 100 ≤ n) (hK : ∀ c', frW c c' → cs c' g → K (sbi (slkd g d)) c') : wp_X5_likedFirst n (nI d) c K := by
  unfold wp_X5_likedFirst
  rw [add1]
  refine u_wo hc hg (by omega) hn (fun c' f h1 _ h3 => ⟨pk_in d 60 hd, ?_⟩)
  rw [nI_clamp (by omega), h3 d (by omega)]
  exact hK c' f h1
