def run (a b : Int32) (z : Nat) : Prop := ∃ i l, i + l ≤ z ∧ a = nI i ∧ b = nI l
theorem run_1 {a : Int32} {z : Nat} (hz : z ≤ 60) (h : nin a z) : ¬ run a (1 : Int32) z := by
  rintro ⟨i, l, h1, rfl, e⟩
  have e2 : l = 1 := ((nI_eq (a := 1) (b := l) (by omega) (by omega)).1 e).symm
  exact h i (by omega) rfl
theorem u_hasRun_y {n k z : Nat} {a b : Int32} {c : xM} {K : Int32 → Prop} (hz : c (2 + k) 3 = nI z) (hz2 : z ≤ 60) (h : run a b z) (hK : K 1) : wp_X2_hasRun n k a b c K := by
  obtain ⟨i, l, h1, rfl, rfl⟩ := h
  unfold wp_X2_hasRun
  rw [hz, pk_sub (by omega)]
  refine ⟨fun q => absurd q (nI_pos (by omega)), fun _ => pk_lt z i (fun e => absurd e (by omega)) (fun _ => ⟨fun q => absurd q (nI_pos (by omega)), fun _ => pk_lt (z - i) l (fun e => absurd e (by omega)) (fun _ => hK)⟩)⟩
theorem u_hasRun_n {n k z : Nat} {a b : Int32} {c : xM} {K : Int32 → Prop} (hz : c (2 + k) 3 = nI z) (hz2 : z ≤ 60) (h : ¬ run a b z) (hK : K 0) : wp_X2_hasRun n k a b c K := by
  unfold wp_X2_hasRun
  rw [hz]
  refine ⟨fun _ => hK, fun q => ?_⟩
  obtain ⟨i, hi, rfl⟩ := nI_of q
  refine pk_lt z i (fun _ => hK) (fun e => ⟨fun _ => hK, fun q2 => ?_⟩)
  obtain ⟨l, hl, rfl⟩ := nI_of q2
  rw [pk_sub e]
  exact pk_lt (z - i) l (fun _ => hK) (fun e2 => absurd ⟨i, l, by omega, rfl, rfl⟩ h)
theorem i64_add {a b : Int64} {x y : Int} (ha : a.toInt = x) (hb : b.toInt = y) (h1 : -2 ^ 40 ≤ x) (h2 : x ≤ 2 ^ 40) (h3 : -2 ^ 40 ≤ y) (h4 : y ≤ 2 ^ 40) : (a + b).toInt = x + y := by
  rw [Int64.toInt_add, ha, hb]
  exact Int.bmod_eq_of_le (by omega) (by omega)
theorem t_isBeyond_y {n z : Nat} {a b : Int32} {m : xM} {K : Int32 → Prop} (hz2 : z ≤ 60) (h : run a b z) (hK : K 0) : wp_X7_isBeyond n a b.toInt64 (nI z) m K := by
  obtain ⟨i, l, h1, rfl, rfl⟩ := h
  unfold wp_X7_isBeyond
  have h0 : (0 : Int64).toInt = 0 := rfl
  refine ⟨fun q => absurd q (nI_pos (by omega)), fun _ => ⟨fun q => ?_, fun _ => ⟨fun _ => hK, fun q => ?_⟩⟩⟩
  · rw [lgc_lt, Int64.lt_iff_toInt_lt, toI64, nI_toInt (by omega), h0] at q
    omega
  · exfalso
    rw [Int32.not_le, lgc_gt, Int64.lt_iff_toInt_lt, toI64, nI_toInt (by omega), i64_add (x := (i : Int)) (y := (l : Int)) (by rw [toI64, nI_toInt (by omega)]) (by rw [toI64, nI_toInt (by omega)]) (by omega) (by omega) (by omega) (by omega)] at q
    omega
theorem t_isBeyond_n {n z : Nat} {a b : Int32} {m : xM} {K : Int32 → Prop} (hz2 : z ≤ 60) (h : ¬ run a b z) (hK : K 1) : wp_X7_isBeyond n a b.toInt64 (nI z) m K := by
  unfold wp_X7_isBeyond
  have h0 : (0 : Int64).toInt = 0 := rfl
  refine ⟨fun _ => hK, fun q => ⟨fun _ => hK, fun q2 => ⟨fun q3 => ?_, fun _ => hK⟩⟩⟩
  exfalso
  obtain ⟨i, hi, rfl⟩ := nI_of q
  have q4 : ¬ b < 0 := by
    intro e
    apply q2
    rw [lgc_lt, Int64.lt_iff_toInt_lt, toI64, h0]
    rw [Int32.lt_iff_toInt_lt] at e
    exact e
  obtain ⟨l, hl, rfl⟩ := nI_of q4
  have q5 := Int32.not_lt.2 q3
  rw [lgc_gt, Int64.lt_iff_toInt_lt, toI64, nI_toInt (by omega), i64_add (x := (i : Int)) (y := (l : Int)) (by rw [toI64, nI_toInt (by omega)]) (by rw [toI64, nI_toInt (by omega)]) (by omega) (by omega) (by omega) (by omega)] at q5
  exact h ⟨i, l, by omega, rfl, rfl⟩
theorem u_isSheet_y {n k : Nat} {c : xM} {K : Int32 → Prop} (hk : k < 4) (hK : K 1) : wp_X6_isSheet n (nI k) c K :=
  w_bl_y (B := 4) hk (by omega) rfl ⟨xb_1, hK⟩
theorem u_isSheet_n {n : Nat} {a : Int32} {c : xM} {K : Int32 → Prop} (hk : nin a 4) (hK : K 0) : wp_X6_isSheet n a c K :=
  w_bl_n hk (by omega) rfl ⟨xb_0, hK⟩
theorem u_isLane_y {n k : Nat} {c : xM} {K : Int32 → Prop} (hk : k < 3) (hK : K 1) : wp_X6_isLane n (nI k) c K :=
  w_bl_y (B := 3) hk (by omega) rfl ⟨xb_1, hK⟩
theorem u_isLane_n {n : Nat} {a : Int32} {c : xM} {K : Int32 → Prop} (hk : nin a 3) (hK : K 0) : wp_X6_isLane n a c K :=
  w_bl_n hk (by omega) rfl ⟨xb_0, hK⟩
theorem t_noSheet_y {n k : Nat} {m : xM} {K : Int32 → Prop} (hk : k < 4) (hK : K 0) : wp_X7_noSheet n (nI k) m K :=
  w_in_y (B := 4) hk (by omega) rfl ⟨fun _ => hK, fun h => absurd h (by decide)⟩
theorem t_noSheet_n {n : Nat} {a : Int32} {m : xM} {K : Int32 → Prop} (hk : nin a 4) (hK : K 1) : wp_X7_noSheet n a m K :=
  w_in_n hk (by omega) rfl ⟨fun h => absurd rfl h, fun _ => hK⟩
theorem t_noCell_n {n k : Nat} {a : Int32} {m : xM} {K : Int32 → Prop} (hk : k < 4) (h : m 19 k = (-1)) (hK : K 1) : wp_X7_noCell n (nI k) a m K := by
  unfold wp_X7_noCell
  rw [nI_clamp (by omega), h]
  exact ⟨pk_in k 4 (by omega), fun q => absurd q (by decide), fun _ => hK⟩
theorem t_noCell_y {n k z i : Nat} {m : xM} {K : Int32 → Prop} (hk : k < 4) (h : m 19 k = nI z) (hz : z ≤ 60) (hi : i < z) (hK : K 0) : wp_X7_noCell n (nI k) (nI i) m K := by
  unfold wp_X7_noCell
  rw [nI_clamp (by omega), h]
  exact ⟨pk_in k 4 (by omega), fun _ => ⟨pk_in k 4 (by omega), w_in_y hi (by omega) (lNt z (by omega)) (b1' hK)⟩, fun q => absurd (nI_pos' (by omega)) q⟩
theorem t_noCell_o {n k z : Nat} {a : Int32} {m : xM} {K : Int32 → Prop} (hk : k < 4) (h : m 19 k = nI z) (hz : z ≤ 60) (hi : nin a z) (hK : K 3) : wp_X7_noCell n (nI k) a m K := by
  unfold wp_X7_noCell
  rw [nI_clamp (by omega), h]
  exact ⟨pk_in k 4 (by omega), fun _ => ⟨pk_in k 4 (by omega), w_in_n hi (by omega) (lNt z (by omega)) (b0' hK)⟩, fun q => absurd (nI_pos' (by omega)) q⟩
theorem u_renew {n k z l : Nat} {c : xM} {K : xM → Prop} (hn : 100 ≤ n) (hK : ∀ c', (∀ b, b ≠ 2 + k → b ≠ 6 + k → c' b = c b) → c' (2 + k) 1 = 1 → c' (2 + k) 2 = nI l → c' (2 + k) 3 = nI z → (∀ j, j < 60 → c' (6 + k) j = 0) → K c') : wp_X2_renew n k (nI l) (nI z) c K := by
  unfold wp_X2_renew
  rintro _ rfl _ rfl _ rfl
  refine lpg (fun i (x : xM) => (nI i, x)) 60 (fun i x => (∀ b, b ≠ 6 + k → x b = xu (xu (xu c (2 + k) 1 1) (2 + k) 2 (nI l)) (2 + k) 3 (nI z) b) ∧ ∀ j, j < i → x (6 + k) j = 0) ?_ (i := 0) (t := xu (xu (xu c (2 + k) 1 1) (2 + k) 2 (nI l)) (2 + k) 3 (nI z)) ⟨fun _ _ => rfl, fun j hj => absurd hj (by omega)⟩ (by omega) (by omega)
  intro i x again hi ⟨p1, p2⟩ hag
  dsimp only
  refine pk_le 60 i (fun h => ?_) (fun h => ⟨pk_in i 60 h, ?_⟩)
  · have q := p1 (2 + k) (by omega)
    refine hK x (fun b h1 h2 => ?_) ?_ ?_ ?_ (fun j hj => p2 j (by omega))
    · rw [p1 b h2, xu_ne h1, xu_ne h1, xu_ne h1]
    · rw [q, xu_j (by omega), xu_j (by omega), xu_s]
    · rw [q, xu_j (by omega), xu_s]
    · rw [q, xu_s]
  · rw [nI_clamp (by omega)]
    rintro _ rfl _ rfl
    rw [nI_1]
    refine hag _ h ⟨fun b hb => ?_, fun j hj => ?_⟩
    · rw [xu_ne hb]; exact p1 b hb
    · rw [xu_if]
      split
      · rfl
      · exact p2 j (by omega)
theorem sh_upd {c m c' m' : xM} {k : Nat} (h : sh c m) (fc : ∀ j, j < 4 → j ≠ k → c' (2 + j) = c (2 + j) ∧ c' (6 + j) = c (6 + j)) (fm : ∀ j, j < 4 → j ≠ k → m' 19 j = m 19 j ∧ m' 20 j = m 20 j ∧ ∀ x, x < 60 → m' 21 (60 * j + x) = m 21 (60 * j + x)) (hk : (c' (2 + k) 1 = 0 ∧ m' 19 k = (-1)) ∨ (c' (2 + k) 1 = 1 ∧ ∃ z l, z ≤ 60 ∧ l < 3 ∧ m' 19 k = nI z ∧ c' (2 + k) 3 = nI z ∧ c' (2 + k) 2 = nI l ∧ m' 20 k = nI l ∧ ∀ j, j < z → c' (6 + k) j = m' 21 (60 * k + j))) : sh c' m' := by
  intro j hj
  by_cases e : j = k
  · subst e; exact hk
  · obtain ⟨f1, f2⟩ := fc j hj e
    obtain ⟨g1, g2, g3⟩ := fm j hj e
    rw [f1, f2, g1, g2]
    rcases h j hj with h1 | ⟨h1, z, l, h2, h3, h4, h5, h6, h7, h8⟩
    · exact Or.inl h1
    · exact Or.inr ⟨h1, z, l, h2, h3, h4, h5, h6, h7, fun x hx => (h8 x hx).trans (g3 x (by omega)).symm⟩
theorem st_sheet {μC μM : xM} (h : rl μC μM) (a1 : Int32) (a2 : Int32) (a3 : Int32) : wp_X6_sheet 2000 a1 a2 a3 μC (fun (r1 : Int32) (uC : xM) => wp_X7_sheet 2000 a1 a2 a3 μM (fun (r2 : Int32) (uM : xM) => r1 = r2 ∧ rl uC uM)) := by
  unfold wp_X6_sheet wp_X7_sheet wp_X6_faulty wp_X7_failed wp_X7_refused
  rintro _ rfl
  rcases in_or a1 4 with ⟨k, hk, rfl⟩ | hk
  · refine u_isSheet_y hk (b1 ?_)
    rcases in_or a2 3 with ⟨l, hl, rfl⟩ | hl
    · refine u_isLane_y hl (b1' ⟨fun e60 => ⟨fun e0 => ⟨pk_in k 4 hk, ?_⟩, fun e0 => ?_⟩, fun e60 => ?_⟩)
      · obtain ⟨z, hz, rfl⟩ := nI_of (x := a3) (by rw [Int32.not_lt]; exact e0)
        have hz : z ≤ 60 := (nI_leI hz (by omega)).1 e60
        rw [nI_clamp (by omega)]
        refine u_renew (by omega) (fun c' f1 f2 f3 f4 f5 => ?_)
        refine t_noSheet_y hk (b0' (w_in_y hl (by omega) rfl (b1' ⟨fun _ => ⟨fun _ => ⟨pk_in k 4 hk, ?_⟩, fun q => absurd e0 q⟩, fun q => absurd e60 q⟩)))
        rintro _ rfl
        refine ⟨pk_in k 4 hk, ?_⟩
        rintro _ rfl
        refine lpg (fun i (x : xM) => (nI i, x)) z (fun i x => (∀ b, b ≠ 21 → x b = xu (xu μM 19 k (nI z)) 20 k (nI l) b) ∧ (∀ y, y < 60 * k ∨ 60 * k + 60 ≤ y → x 21 y = μM 21 y) ∧ ∀ j, j < i → x 21 (60 * k + j) = 0) ?_ (i := 0) (t := xu (xu μM 19 k (nI z)) 20 k (nI l)) ⟨fun _ _ => rfl, fun _ _ => rfl, fun j hj => absurd hj (by omega)⟩ (by omega) (by omega)
        intro i x again hi ⟨p1, p2, p3⟩ hag
        dsimp only
        refine pk_le z i (fun hh => ?_) (fun hh => ?_)
        · rintro _ rfl
          refine ⟨rfl, rl_o h (fun b hb => ?_) (fun b h1 h2 => ?_) (fun j h1 h2 => ?_) (sh_upd (k := k) h.2.1 (fun j hj hne => ⟨?_, ?_⟩) (fun j hj hne => ⟨?_, ?_, fun y hy => ?_⟩) (Or.inr ⟨f2, z, l, hz, hl, ?_, f4, f3, ?_, fun j hj => ?_⟩)) ?_ ?_⟩
          · rw [f1 b (by omega) (by omega), xu_ne (by omega)]
          · rw [xu_ne h1, p1 b (by omega), xu_ne (by omega), xu_ne (by omega)]
          · rw [xu_j h1, p1 0 (by omega), xu_ne (by omega), xu_ne (by omega)]
          · rw [f1 (2 + j) (by omega) (by omega), xu_ne (by omega)]
          · rw [f1 (6 + j) (by omega) (by omega), xu_ne (by omega)]
          · rw [xu_ne (by omega), p1 19 (by omega), xu_ne (by omega), xu_j hne]
          · rw [xu_ne (by omega), p1 20 (by omega), xu_j hne, xu_ne (by omega)]
          · rw [xu_ne (by omega)]
            refine p2 _ ?_
            rcases Nat.lt_or_gt_of_ne hne with q | q
            · exact Or.inl (by omega)
            · exact Or.inr (by omega)
          · rw [xu_ne (by omega), p1 19 (by omega), xu_ne (by omega), xu_s]
          · rw [xu_ne (by omega), p1 20 (by omega), xu_s]
          · rw [f5 j (by omega), xu_ne (by omega), p3 j (by omega)]
          · rw [f1 0 (by omega) (by omega), xu_s, xu_s]
          · rw [f1 0 (by omega) (by omega), xu_j (by omega), xu_j (by omega), p1 0 (by omega), xu_ne (by omega), xu_ne (by omega)]
            exact h.2.2.2.1
        · rw [mul60, nI_add, nI_clamp (by omega)]
          refine ⟨pk_in (60 * k + i) 240 (by omega), ?_⟩
          rintro _ rfl _ rfl
          rw [nI_1]
          refine hag _ hh ⟨fun b hb => ?_, fun y hy => ?_, fun j hj => ?_⟩
          · rw [xu_ne hb]; exact p1 b hb
          · rw [xu_j (by omega)]; exact p2 y hy
          · rw [xu_if]
            split
            · rfl
            · exact p3 j (by omega)
      · rintro _ rfl
        refine t_noSheet_y hk (b0' (w_in_y hl (by omega) rfl (b1' ⟨fun _ => ⟨fun q => absurd q e0, fun _ => ?_⟩, fun q => absurd e60 q⟩)))
        rintro _ rfl
        rw [xu_xu]
        exact ⟨rfl, rl_f h 4⟩
      · refine t_noSheet_y hk (b0' (w_in_y hl (by omega) rfl (b1' ⟨fun q => absurd q e60, fun _ => ?_⟩)))
        rintro _ rfl
        exact ⟨rfl, rl_f h 0⟩
    · refine u_isLane_n hl (b0' ?_)
      refine t_noSheet_y hk (b0' (w_in_n hl (by omega) rfl (b0' ?_)))
      rintro _ rfl
      exact ⟨rfl, rl_f h 0⟩
  · refine u_isSheet_n hk (b0 ?_)
    refine t_noSheet_n hk (b1' ?_)
    rintro _ rfl
    exact ⟨rfl, rl_f h 0⟩
theorem st_lose {μC μM : xM} (h : rl μC μM) (a1 : Int32) : wp_X6_lose 2000 a1 μC (fun (r1 : Int32) (uC : xM) => wp_X7_lose 2000 a1 μM (fun (r2 : Int32) (uM : xM) => r1 = r2 ∧ rl uC uM)) := by
  unfold wp_X6_lose wp_X7_lose
  rcases in_or a1 4 with ⟨k, hk, rfl⟩ | hk
  · refine u_isSheet_y hk (b1 ⟨pk_in k 4 hk, ?_⟩)
    rw [nI_clamp (by omega)]
    have fin : rl (xu μC (2 + k) 1 0) (xu μM 19 k (-1)) := by
      refine rl_o h (fun b hb => xu_ne (by omega)) (fun b h1 h2 => xu_ne (by omega)) (fun j h1 h2 => xu_a (by omega)) (sh_upd (k := k) h.2.1 (fun j hj hne => ⟨xu_ne (by omega), xu_ne (by omega)⟩) (fun j hj hne => ⟨xu_j hne, xu_a (by omega), fun y hy => xu_a (by omega)⟩) (Or.inl ⟨xu_s _ _ _ _, xu_s _ _ _ _⟩)) ?_ ?_
      · rw [xu_a (by omega), xu_a (by omega)]; exact h.2.2.1
      · rw [xu_a (by omega), xu_a (by omega)]; exact h.2.2.2.1
    refine xjn_i (fun v => v = if μC (2 + k) 1 = 0 then (0 : Int32) else 1) ?_ (fun J hJ => ⟨fun e => hJ _ (by rw [if_pos e]), fun e => hJ _ (by rw [if_neg e])⟩)
    rintro _ rfl
    refine ⟨pk_in k 4 hk, ?_⟩
    rintro _ rfl
    refine t_noSheet_y hk (b0' ⟨pk_in k 4 hk, ?_⟩)
    rcases h.2.1 k hk with ⟨c1, m1⟩ | ⟨c1, z, l, hz, hl, m1, c3, c2, m2, hcell⟩
    · rw [m1, c1]
      refine ⟨fun q => absurd q (by decide), fun _ => ⟨pk_in k 4 hk, ?_⟩⟩
      rintro _ rfl
      exact ⟨if_pos rfl, fin⟩
    · rw [m1, c1]
      refine ⟨fun _ => ⟨pk_in k 4 hk, ?_⟩, fun q => absurd (nI_pos' (by omega)) q⟩
      rintro _ rfl
      exact ⟨if_neg (by decide), fin⟩
  · exact u_isSheet_n hk (b0 (t_noSheet_n hk (b1' ⟨rfl, h⟩)))
