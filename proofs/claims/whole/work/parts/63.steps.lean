theorem dg_s {c : Int32} {lo hi : Nat} (h : dgt c lo hi) (hh : hi ≤ 9) : c - (48 : Int32) = nI (dg c) ∧ lo ≤ dg c ∧ dg c ≤ hi := by
  obtain ⟨v, h1, h2, rfl⟩ := h
  have e : dg (nI (48 + v)) = v := by
    unfold dg
    rw [nI_clamp (by omega)]
    omega
  rw [e]
  refine ⟨?_, h1, h2⟩
  have := pk_sub (a := 48 + v) (b := 48) (by omega)
  rw [show 48 + v - 48 = v by omega] at this
  exact this
theorem u_carve {n k0 k1 s : Nat} {μ : xM} {K : xM → Prop} (hn : 100 ≤ n) (hs : s + 5 ≤ 60) (hk : k1 < 4) (hL : μ (6 + k1) s = 115 ∨ μ (6 + k1) s = 98 ∨ μ (6 + k1) s = 109) (hD : ∀ p, p < 3 → dgt (μ (6 + k1) (s + 1 + p)) 1 9) (hW : dgt (μ (6 + k1) (s + 4)) 0 3) (hK : ∀ c', (∀ b, b ≠ 17 + k0 → b ≠ 24 + k0 → c' b = μ b) → c' (17 + k0) 1 = nI (kd (μ (6 + k1) s)) → c' (17 + k0) 2 = nI (dg (μ (6 + k1) (s + 4))) → c' (17 + k0) 3 = 0 → c' (17 + k0) 4 = 0 → (∀ p, p < 3 → c' (24 + k0) p = nI (10 * dg (μ (6 + k1) (s + 1 + p)))) → K c') : wp_X3_carve n k0 k1 (nI s) μ K := by
  unfold wp_X3_carve
  rw [nI_clamp (by omega)]
  refine ⟨pk_in s 60 (by omega), u_kindOf_y hL ?_⟩
  rintro _ rfl
  refine xjn_i (fun x => (∀ b, b ≠ 24 + k0 → x b = xu μ (17 + k0) 1 (nI (kd (μ (6 + k1) s))) b) ∧ ∀ p, p < 3 → x (24 + k0) p = nI (10 * dg (μ (6 + k1) (s + 1 + p)))) ?_ ?_
  · rintro x ⟨p1, p2⟩
    rw [add1, add3, nI_clamp (by omega)]
    refine ⟨pk_in (s + 1 + 3) 60 (by omega), ?_⟩
    rw [p1 (6 + k1) (by omega), xu_a (by omega), show s + 1 + 3 = s + 4 by omega, (dg_s hW (by omega)).1]
    rintro _ rfl _ rfl _ rfl
    refine hK _ (fun b b1 b2 => ?_) ?_ ?_ ?_ ?_ (fun p hp => ?_)
    · rw [xu_ne b1, xu_ne b1, xu_ne b1, p1 b b2, xu_ne b1]
    · rw [xu_j (by omega), xu_j (by omega), xu_j (by omega), p1 (17 + k0) (by omega), xu_s]
    · rw [xu_j (by omega), xu_j (by omega), xu_s]
    · rw [xu_j (by omega), xu_s]
    · rw [xu_s]
    · rw [xu_a (by omega), xu_a (by omega), xu_a (by omega), p2 p hp]
  · intro J hJ
    refine lpg (fun p (x : xM) => (nI p, x)) 3 (fun p x => (∀ b, b ≠ 24 + k0 → x b = xu μ (17 + k0) 1 (nI (kd (μ (6 + k1) s))) b) ∧ ∀ y, y < p → x (24 + k0) y = nI (10 * dg (μ (6 + k1) (s + 1 + y)))) ?_ (i := 0) (t := xu μ (17 + k0) 1 (nI (kd (μ (6 + k1) s)))) ⟨fun _ _ => rfl, fun y hy => absurd hy (by omega)⟩ (by omega) (by omega)
    intro p x again hp ⟨p1, p2⟩ hag
    dsimp only
    refine pk_le 3 p (fun hh => hJ x ⟨p1, fun y hy => p2 y (by omega)⟩) (fun hh => ?_)
    rw [add1, nI_add, nI_clamp (by omega), nI_clamp (by omega), p1 (6 + k1) (by omega), xu_a (by omega), (dg_s (hD p hh) (by omega)).1, mul10]
    refine ⟨pk_in (s + 1 + p) 60 (by omega), pk_in p 3 hh, ?_⟩
    rintro _ rfl _ rfl
    rw [nI_1]
    refine hag _ hh ⟨fun b hb => ?_, fun y hy => ?_⟩
    · rw [xu_ne hb]; exact p1 b hb
    · by_cases e : y = p
      · rw [e, xu_s]
      · rw [xu_j e]; exact p2 y (by omega)
theorem u_settle {n k i l : Nat} {x : Nat → Int32} {μ : xM} {K : xM → Prop} (hn : 100 ≤ n) (hk : k < 4) (hl : i + l ≤ 60) (hl2 : l ≤ 41) (hl3 : l % 6 = 5) (hx : ∀ j, j < l → μ (6 + k) (i + j) = x j) (hp : ∀ j, j < l → gd (x j) j) (hK : ∀ c', (∀ b, b ≠ 10 → b ≠ 12 → b ≠ 13 → b ≠ 14 → (b < 17 ∨ 31 ≤ b) → c' b = μ b) → c' 10 6 = nI ((l + 1) / 6) → c' 10 7 = 0 → c' 10 8 = 0 → (∀ q, q < (l + 1) / 6 → c' (17 + q) 1 = nI (kd (x (6 * q))) ∧ c' (17 + q) 2 = nI (dg (x (6 * q + 4))) ∧ c' (17 + q) 3 = 0 ∧ c' (17 + q) 4 = 0 ∧ ∀ p, p < 3 → c' (24 + q) p = nI (10 * dg (x (6 * q + 1 + p))) ∧ c' 14 (3 * q + p) = nI (10 * dg (x (6 * q + 1 + p)))) → (∀ e, e < 60 → c' 12 e = 0 ∧ c' 13 e = 0) → K c') : wp_X5_settle n k (nI i) (nI l) μ K := by
  unfold wp_X5_settle
  have eN : (nI l + (1 : Int32)) / (6 : Int32) = nI ((l + 1) / 6) := by rw [add1]; exact pk_div (by omega) (by decide) (by decide)
  have hN : (l + 1) / 6 ≤ 7 := by omega
  rw [eN]
  generalize hNN : (l + 1) / 6 = N at *
  refine ⟨by decide, ?_⟩
  rintro _ rfl
  refine xjn_i (fun m => (∀ b, b ≠ 10 → b ≠ 14 → (b < 17 ∨ 31 ≤ b) → m b = μ b) ∧ m 10 6 = nI N ∧ ∀ q, q < N → m (17 + q) 1 = nI (kd (x (6 * q))) ∧ m (17 + q) 2 = nI (dg (x (6 * q + 4))) ∧ m (17 + q) 3 = 0 ∧ m (17 + q) 4 = 0 ∧ ∀ p, p < 3 → m (24 + q) p = nI (10 * dg (x (6 * q + 1 + p))) ∧ m 14 (3 * q + p) = nI (10 * dg (x (6 * q + 1 + p)))) ?_ ?_
  · rintro m ⟨f1, f2, f3⟩
    refine lpg (fun j (y : xM) => (nI j, y)) 60 (fun j y => (∀ b, b ≠ 12 → b ≠ 13 → y b = m b) ∧ ∀ e, e < j → y 12 e = 0 ∧ y 13 e = 0) ?_ (i := 0) (t := m) ⟨fun _ _ _ => rfl, fun e he => absurd he (by omega)⟩ (by omega) (by omega)
    intro j y again hj ⟨p1, p2⟩ hag
    dsimp only
    refine pk_le 60 j (fun hh => ?_) (fun hh => ⟨pk_in j 60 hh, ?_⟩)
    · rintro _ rfl _ rfl
      refine hK _ (fun b b1 b2 b3 b4 b5 => ?_) ?_ ?_ ?_ (fun q hq => ?_) (fun e he => ?_)
      · rw [xu_ne b1, xu_ne b1, p1 b b2 b3]; exact f1 b b1 b4 b5
      · rw [xu_j (by omega), xu_j (by omega), p1 10 (by omega) (by omega)]; exact f2
      · rw [xu_j (by omega), xu_s]
      · rw [xu_s]
      · have eq : ∀ b, b ≠ 10 → b ≠ 12 → b ≠ 13 → xu (xu y 10 7 0) 10 8 0 b = m b := fun b b1 b2 b3 => by rw [xu_ne b1, xu_ne b1, p1 b b2 b3]
        rw [eq (17 + q) (by omega) (by omega) (by omega), eq (24 + q) (by omega) (by omega) (by omega), eq 14 (by omega) (by omega) (by omega)]
        exact f3 q hq
      · rw [xu_a (by omega), xu_a (by omega), xu_a (by omega), xu_a (by omega)]; exact p2 e (by omega)
    · rw [nI_clamp (by omega)]
      rintro _ rfl
      refine ⟨pk_in j 60 hh, ?_⟩
      rintro _ rfl _ rfl
      rw [nI_1]
      refine hag _ hh ⟨fun b b1 b2 => ?_, fun e he => ?_⟩
      · rw [xu_ne b2, xu_ne b1]; exact p1 b b1 b2
      · by_cases q : e = j
        · subst q; rw [xu_a (by omega), xu_s, xu_s]; exact ⟨rfl, rfl⟩
        · rw [xu_a (a := 13) (b := 12) (by omega), xu_j q, xu_j q, xu_a (by omega)]; exact p2 e (by omega)
  · intro J hJ
    refine lpg (fun j (y : xM) => (nI j, y)) N (fun j m => (∀ b, b ≠ 10 → b ≠ 14 → (b < 17 ∨ 31 ≤ b) → m b = μ b) ∧ m 10 6 = nI N ∧ ∀ q, q < j → m (17 + q) 1 = nI (kd (x (6 * q))) ∧ m (17 + q) 2 = nI (dg (x (6 * q + 4))) ∧ m (17 + q) 3 = 0 ∧ m (17 + q) 4 = 0 ∧ ∀ p, p < 3 → m (24 + q) p = nI (10 * dg (x (6 * q + 1 + p))) ∧ m 14 (3 * q + p) = nI (10 * dg (x (6 * q + 1 + p)))) ?_ (i := 0) (t := xu μ 10 6 (nI N)) ⟨fun b b1 _ _ => xu_ne b1, xu_s _ _ _ _, fun q hq => absurd hq (by omega)⟩ (by omega) (by omega)
    intro j y again hj ⟨p1, p2, p3⟩ hag
    dsimp only
    rw [p2]
    refine pk_le N j (fun hh => ?_) (fun hh => ⟨pk_in j 7 (by omega), ?_⟩)
    · rw [show j = N by omega] at p3
      exact hJ y ⟨p1, p2, p3⟩
    · have hj5 : 6 * j + 5 ≤ l := by omega
      rw [mul6, nI_add, mul3, nI_clamp (n := j) (by omega), nI_clamp (n := 3 * j) (by omega)]
      have cell : ∀ t, t < 6 → 6 * j + t < l → y (6 + k) (i + 6 * j + t) = x (6 * j + t) := fun t ht h2 => by rw [p1 (6 + k) (by omega) (by omega) (by omega), Nat.add_assoc, hx _ h2]
      have c0 : y (6 + k) (i + 6 * j) = x (6 * j) := cell 0 (by omega) (by omega)
      have c4 : y (6 + k) (i + 6 * j + 4) = x (6 * j + 4) := cell 4 (by omega) (by omega)
      have c1 : ∀ p, p < 3 → y (6 + k) (i + 6 * j + 1 + p) = x (6 * j + 1 + p) := fun p hp => by
        have := cell (1 + p) (by omega) (by omega)
        rw [← Nat.add_assoc, ← Nat.add_assoc] at this
        exact this
      have g0 := hp (6 * j) (by omega)
      have g4 := hp (6 * j + 4) (by omega)
      refine u_carve hn (by omega) hk ?_ (fun p hp3 => ?_) ?_ (fun c' f1 r1 r2 r3 r4 r5 => ⟨pk_in j 7 (by omega), ⟨by decide, nI_pos (by omega), by decide, by decide, ?_⟩, ?_⟩)
      · rw [c0]
        rcases g0 with ⟨_, q⟩ | ⟨q, _⟩ | ⟨q, _⟩ | ⟨q, _⟩
        · exact q
        · omega
        · omega
        · omega
      · rw [c1 p hp3]
        rcases hp (6 * j + 1 + p) (by omega) with ⟨q, _⟩ | ⟨_, q⟩ | ⟨q, _⟩ | ⟨q, _⟩
        · omega
        · exact q
        · omega
        · omega
      · rw [c4]
        rcases g4 with ⟨q, _⟩ | ⟨q, _⟩ | ⟨_, q⟩ | ⟨q, _⟩
        · omega
        · omega
        · exact q
        · omega
      · show 3 * j + 3 ≤ 1281
        omega
      · rintro _ rfl _ rfl
        rw [nI_1]
        have i0 : (0 : Int32).toNatClampNeg = 0 := rfl
        have i3 : (3 : Int32).toNatClampNeg = 3 := rfl
        rw [i0, i3]
        rw [c0] at r1
        rw [c4] at r2
        refine hag _ hh ⟨fun b b1 b2 b3 => ?_, ?_, fun q hq => ?_⟩
        · funext z
          rw [xcp_a b2, f1 b (by omega) (by omega), p1 b b1 b2 b3]
        · rw [xcp_a (by omega), f1 10 (by omega) (by omega)]; exact p2
        · rw [xcp_a (by omega), xcp_a (by omega), xcp_a (by omega), xcp_a (by omega)]
          by_cases e : q = j
          · subst e
            refine ⟨r1, r2, r3, r4, fun p hp3 => ?_⟩
            rw [xcp_a (by omega), xcp_at, if_pos (by omega), show 0 + (3 * q + p - 3 * q) = p by omega, r5 p hp3, c1 p hp3]
            exact ⟨rfl, rfl⟩
          · rw [f1 (17 + q) (by omega) (by omega)]
            obtain ⟨z1, z2, z3, z4, z5⟩ := p3 q (by omega)
            refine ⟨z1, z2, z3, z4, fun p hp3 => ?_⟩
            rw [xcp_a (by omega), xcp_at, if_neg (by omega), f1 (24 + q) (by omega) (by omega), f1 14 (by omega) (by omega)]
            exact z5 p hp3
