theorem t_readsAll {n l w p : Nat} {x : Nat → Int32} {m : xM} {K : Int32 → xM → Prop} (hn : 100 ≤ n) (hl : w + l ≤ 240) (hl2 : l ≤ 60) (hp : fp x l p) (hx : ∀ j, j < l → m 21 (w + j) = x j) (h0 : (p < l ∨ l % 6 ≠ 5) → ∀ m', frZ m m' → m' 0 7 = nI p → K 0 m') (h1 : p = l → l % 6 = 5 → ∀ m', frZ m m' → m' 0 8 = nI ((l + 1) / 6) → (∀ q, q < (l + 1) / 6 → rwz m' x q) → K 1 m') : wp_X7_readsAll n (nI w) (nI l) m K := by
  unfold wp_X7_readsAll
  rintro _ rfl _ rfl
  have f0 : frZ m (xu (xu m 0 7 0) 0 8 0) := ((frZ.rf m).u (by omega)).u (by omega)
  have hxz : ∀ m', frZ m m' → ∀ j, j < l → m' 21 (w + j) = x j := fun m' f j hj => by rw [f.1 21 (by omega) (by omega) (by omega) (by omega)]; exact hx j hj
  have fin : ∀ (r : Int32) (y : xM) (d : Nat), ((r = 0 ∧ d = 0 ∧ (p < l ∨ l % 6 ≠ 5) ∧ frZ m y ∧ y 0 7 = nI p) ∨ (r = 1 ∧ ∃ s, 1 ≤ s ∧ s ≤ 7 ∧ d = 8 - s ∧ y 0 7 = nI (6 * s - 1) ∧ y 0 8 = nI s ∧ 6 * s - 1 ≤ p ∧ frZ m y ∧ ∀ q, q < s → rwz y x q)) → d < n → xlp (fun (again17 : (Int32 × xM) → Prop) => fun (s_ : Int32 × xM) => match s_ with | (x3_17, m_17) => ((x3_17 = 0 → xb x3_17 ∧ K x3_17 m_17) ∧ (¬ x3_17 = 0 → ((nI l ≤ (m_17 0 7) → xb x3_17 ∧ K x3_17 m_17) ∧ (¬ nI l ≤ (m_17 0 7) → wp_X7_readsOne n (nI w) (nI l) m_17 (fun (r_32 : Int32) (m_32 : xM) => again17 (r_32, m_32))))))) n (r, y) := by
    intro r y d hd hdn
    refine xlp_i (fun (d : Nat) (t : Int32 × xM) => (t.1 = 0 ∧ d = 0 ∧ (p < l ∨ l % 6 ≠ 5) ∧ frZ m t.2 ∧ t.2 0 7 = nI p) ∨ (t.1 = 1 ∧ ∃ s, 1 ≤ s ∧ s ≤ 7 ∧ d = 8 - s ∧ t.2 0 7 = nI (6 * s - 1) ∧ t.2 0 8 = nI s ∧ 6 * s - 1 ≤ p ∧ frZ m t.2 ∧ ∀ q, q < s → rwz t.2 x q)) ?_ hd hdn
    rintro d ⟨r, y⟩ again hI hag
    dsimp only at hI ⊢
    rcases hI with ⟨rfl, e1, e2, e3, e4⟩ | ⟨rfl, s, s1, s7, ds, y7, y8, yp, fz, rows⟩
    · exact ⟨fun _ => ⟨xb_0, h0 e2 y e3 e4⟩, fun q => absurd rfl q⟩
    · refine ⟨fun q => absurd q (by decide), fun _ => ?_⟩
      rw [y7]
      have pl := hp.1
      refine pk_le l (6 * s - 1) (fun e => ?_) (fun e => ?_)
      · refine ⟨xb_1, h1 (by omega) (by omega) y fz ?_ ?_⟩
        · rw [y8, show (l + 1) / 6 = s by omega]
        · rw [show (l + 1) / 6 = s by omega]; exact rows
      · refine t_readsOne hn hl hl2 s7 y7 y8 (Or.inr ⟨by omega, by omega, e⟩) yp hp (hxz y fz) (fun q m' f e7 => ?_) (fun q q2 m' f e7 e8 rw1 rw2 => ?_)
        · exact hag 0 (0, m') (by omega) (Or.inl ⟨rfl, rfl, q, fz.tr f, e7⟩)
        · refine hag (8 - (s + 1)) (1, m') (by omega) (Or.inr ⟨rfl, s + 1, by omega, by omega, rfl, e7.trans (by rw [show 6 * (s + 1) - 1 = 6 * s + 5 by omega]), e8, by omega, fz.tr f, fun q hq => ?_⟩)
          by_cases e5 : q = s
          · rw [e5]; exact rw1
          · obtain ⟨z1, z2, z3⟩ := rows q (by omega)
            obtain ⟨v1, v2, v3⟩ := rw2 q (by omega)
            exact ⟨v1.trans z1, v2.trans z2, fun t ht => (v3 t ht).trans (z3 t ht)⟩
  refine t_readsOne (s := 0) (r := 0) hn hl hl2 (by omega) ?_ (xu_s _ _ _ _) (Or.inl ⟨rfl, rfl⟩) (by omega) hp (hxz _ f0) (fun q m' f e7 => ?_) (fun q q2 m' f e7 e8 rw1 rw2 => ?_)
  · rw [xu_j (by omega), xu_s]; rfl
  · exact fin 0 m' 0 (Or.inl ⟨rfl, rfl, q, f0.tr f, e7⟩) (by omega)
  · refine fin 1 m' 7 (Or.inr ⟨rfl, 1, by omega, by omega, rfl, e7, e8, by omega, f0.tr f, fun q hq => ?_⟩) (by omega)
    rw [show q = 0 by omega]; exact rw1
def gT (x : Nat → Int32) (l : Nat) : gN := fun a j => if a = 0 then (if j = 1 then (l + 1) / 6 else 0) else if a = 1 then kd (x (6 * j)) else if a = 2 then 10 * dg (x (6 * (j / 3) + 1 + j % 3)) else if a = 3 then dg (x (6 * j + 4)) else 0
theorem gT_2 (x : Nat → Int32) (l q p : Nat) (hp : p < 3) : gT x l 2 (3 * q + p) = 10 * dg (x (6 * q + 1 + p)) := by
  show 10 * dg (x (6 * ((3 * q + p) / 3) + 1 + (3 * q + p) % 3)) = _
  rw [show (3 * q + p) / 3 = q by omega, show (3 * q + p) % 3 = p by omega]
theorem gT_ok {x : Nat → Int32} {l : Nat} (hl : l ≤ 41) (h5 : l % 6 = 5) (hp : ∀ j, j < l → gd (x j) j) : okG (gT x l) := by
  refine ⟨?_, Nat.zero_le _, fun k hk => ⟨kd_lt _, ?_, Nat.zero_lt_succ _, Nat.zero_lt_succ _, fun p hp3 => ?_⟩, fun d hd => ⟨Nat.zero_le _, Nat.zero_lt_succ _⟩⟩
  · show (l + 1) / 6 ≤ 7
    omega
  · have hk' : k < (l + 1) / 6 := hk
    show dg (x (6 * k + 4)) < 4
    rcases hp (6 * k + 4) (by omega) with ⟨q, _⟩ | ⟨q, _⟩ | ⟨_, q⟩ | ⟨q, _⟩
    · omega
    · omega
    · have := (dg_s q (by omega)).2.2
      omega
    · omega
  · have hk' : k < (l + 1) / 6 := hk
    rw [gT_2 x l k p hp3]
    rcases hp (6 * k + 1 + p) (by omega) with ⟨q, _⟩ | ⟨_, q⟩ | ⟨q, _⟩ | ⟨q, _⟩
    · omega
    · have := (dg_s q (by omega)).2
      omega
    · omega
    · omega
theorem t_copies {n l : Nat} {x : Nat → Int32} {m : xM} {K : xM → Prop} (hn : 100 ≤ n) (hl : l ≤ 41) (h5 : l % 6 = 5) (h8 : m 0 8 = nI ((l + 1) / 6)) (hr : ∀ q, q < (l + 1) / 6 → rwz m x q) (hK : ∀ m', (∀ b, b ≠ 0 → b ≠ 1 → b ≠ 2 → b ≠ 3 → b ≠ 4 → b ≠ 5 → b ≠ 9 → b ≠ 10 → m' b = m b) → (∀ j, j ≠ 1 → j ≠ 14 → j ≠ 19 → m' 0 j = m 0 j) → m' 0 19 = 0 → mr m' (gT x l) → m' 0 1 = nI ((l + 1) / 6) → K m') : (∀ m_53 : xM, m_53 = xu m 0 1 (m 0 8) → xjn (fun (m_155 : xM) => xjn (fun (m_187 : xM) => (∀ m_189 : xM, m_189 = xu m_187 0 14 (0 : Int32) → (∀ m_194 : xM, m_194 = xu m_189 0 19 (0 : Int32) → K m_194))) (fun J187 : xM → Prop => xlp (fun (again158 : (Int32 × xM) → Prop) => fun (s_ : Int32 × xM) => match s_ with | (x6_158, m_158) => (((60 : Int32) ≤ x6_158 → J187 m_158) ∧ (¬ (60 : Int32) ≤ x6_158 → (vp_in x6_158 60 ∧ (∀ m_172 : xM, m_172 = xu m_158 9 x6_158.toNatClampNeg (0 : Int32) → (vp_in x6_158 60 ∧ (∀ m_180 : xM, m_180 = xu m_172 10 x6_158.toNatClampNeg (0 : Int32) → (∀ x6_181 : Int32, x6_181 = x6_158 + 1 → again158 (x6_181, m_180))))))))) n ((0 : Int32), m_155))) (fun J155 : xM → Prop => xlp (fun (again59 : (Int32 × xM) → Prop) => fun (s_ : Int32 × xM) => match s_ with | (x6_59, m_59) => (((7 : Int32) ≤ x6_59 → J155 m_59) ∧ (¬ (7 : Int32) ≤ x6_59 → (vp_in x6_59 7 ∧ (vp_in x6_59 7 ∧ (∀ m_79 : xM, m_79 = xu m_59 1 x6_59.toNatClampNeg (m_59 6 x6_59.toNatClampNeg) → (vp_in x6_59 7 ∧ (vp_in x6_59 7 ∧ (∀ m_93 : xM, m_93 = xu m_79 3 x6_59.toNatClampNeg (m_79 8 x6_59.toNatClampNeg) → (vp_in x6_59 7 ∧ (∀ m_101 : xM, m_101 = xu m_93 4 x6_59.toNatClampNeg (0 : Int32) → (vp_in x6_59 7 ∧ (∀ m_109 : xM, m_109 = xu m_101 5 x6_59.toNatClampNeg (0 : Int32) → xlp (fun (again113 : (Int32 × xM) → Prop) => fun (s_ : Int32 × xM) => match s_ with | (x7_113, m_113) => (((3 : Int32) ≤ x7_113 → (∀ x6_149 : Int32, x6_149 = x6_59 + 1 → again59 (x6_149, m_113))) ∧ (¬ (3 : Int32) ≤ x7_113 → (vp_in (((3 : Int32) * x6_59) + x7_113) 21 ∧ (vp_in (((3 : Int32) * x6_59) + x7_113) 21 ∧ (∀ m_142 : xM, m_142 = xu m_113 2 (((3 : Int32) * x6_59) + x7_113).toNatClampNeg (m_113 7 (((3 : Int32) * x6_59) + x7_113).toNatClampNeg) → (∀ x7_143 : Int32, x7_143 = x7_113 + 1 → again113 (x7_143, m_142)))))))) n ((0 : Int32), m_109)))))))))))))) n ((0 : Int32), m_53))) := by
  rintro _ rfl
  rw [h8]
  refine xjn_i (fun y => (∀ b, b ≠ 0 → b ≠ 1 → b ≠ 2 → b ≠ 3 → b ≠ 4 → b ≠ 5 → y b = m b) ∧ (∀ j, j ≠ 1 → y 0 j = m 0 j) ∧ y 0 1 = nI ((l + 1) / 6) ∧ ∀ q, q < 7 → y 1 q = m 6 q ∧ y 3 q = m 8 q ∧ y 4 q = 0 ∧ y 5 q = 0 ∧ ∀ t, t < 3 → y 2 (3 * q + t) = m 7 (3 * q + t)) ?_ (fun J hJ => ?_)
  · rintro y ⟨p1, p2, p3, p4⟩
    refine xjn_i (fun z => (∀ b, b ≠ 9 → b ≠ 10 → z b = y b) ∧ ∀ e, e < 60 → z 9 e = 0 ∧ z 10 e = 0) ?_ (fun J hJ => ?_)
    · rintro z ⟨z1, z2⟩
      rintro _ rfl _ rfl
      have zb : ∀ b, b ≠ 0 → xu (xu z 0 14 0) 0 19 0 b = z b := fun b hb => by rw [xu_ne hb, xu_ne hb]
      refine hK _ (fun b b1 b2 b3 b4 b5 b6 b7 b8 => ?_) (fun j j1 j2 j3 => ?_) (xu_s _ _ _ _) ⟨?_, ?_, fun k hk => ?_, fun d hd => ?_⟩ ?_
      · rw [zb b b1, z1 b b7 b8]; exact p1 b b1 b2 b3 b4 b5 b6
      · rw [xu_j j3, xu_j j2, z1 0 (by omega) (by omega)]; exact p2 j j1
      · rw [xu_j (by omega), xu_j (by omega), z1 0 (by omega) (by omega)]; exact p3
      · rw [xu_j (by omega), xu_s]; rfl
      · have hk' : k < (l + 1) / 6 := hk
        rw [zb 1 (by omega), zb 2 (by omega), zb 3 (by omega), zb 4 (by omega), zb 5 (by omega), z1 1 (by omega) (by omega), z1 2 (by omega) (by omega), z1 3 (by omega) (by omega), z1 4 (by omega) (by omega), z1 5 (by omega) (by omega)]
        obtain ⟨v1, v2, v3, v4, v5⟩ := p4 k (by omega)
        obtain ⟨u1, u2, u3⟩ := hr k hk'
        refine ⟨v1.trans u1, v2.trans u2, v3, v4, fun p hp => ?_⟩
        rw [gT_2 x l k p hp]
        exact (v5 p hp).trans (u3 p hp)
      · rw [zb 9 (by omega), zb 10 (by omega)]; exact z2 d hd
      · rw [xu_j (by omega), xu_j (by omega), z1 0 (by omega) (by omega)]; exact p3
    · refine lpg (fun j (z : xM) => (nI j, z)) 60 (fun j z => (∀ b, b ≠ 9 → b ≠ 10 → z b = y b) ∧ ∀ e, e < j → z 9 e = 0 ∧ z 10 e = 0) ?_ (i := 0) (t := y) ⟨fun _ _ _ => rfl, fun e he => absurd he (by omega)⟩ (by omega) (by omega)
      intro j z again hj ⟨z1, z2⟩ hag
      dsimp only
      refine pk_le 60 j (fun hh => hJ z ⟨z1, fun e he => z2 e (by omega)⟩) (fun hh => ⟨pk_in j 60 hh, ?_⟩)
      rw [nI_clamp (by omega)]
      rintro _ rfl
      refine ⟨pk_in j 60 hh, ?_⟩
      rintro _ rfl _ rfl
      rw [nI_1]
      refine hag _ hh ⟨fun b b1 b2 => ?_, fun e he => ?_⟩
      · rw [xu_ne b2, xu_ne b1]; exact z1 b b1 b2
      · by_cases q : e = j
        · subst q; rw [xu_a (by omega), xu_s, xu_s]; exact ⟨rfl, rfl⟩
        · rw [xu_a (a := 10) (b := 9) (by omega), xu_j q, xu_j q, xu_a (by omega)]; exact z2 e (by omega)
  · refine lpg (fun j (y : xM) => (nI j, y)) 7 (fun j y => (∀ b, b ≠ 0 → b ≠ 1 → b ≠ 2 → b ≠ 3 → b ≠ 4 → b ≠ 5 → y b = m b) ∧ (∀ j, j ≠ 1 → y 0 j = m 0 j) ∧ y 0 1 = nI ((l + 1) / 6) ∧ ∀ q, q < j → y 1 q = m 6 q ∧ y 3 q = m 8 q ∧ y 4 q = 0 ∧ y 5 q = 0 ∧ ∀ t, t < 3 → y 2 (3 * q + t) = m 7 (3 * q + t)) ?_ (i := 0) (t := xu m 0 1 (nI ((l + 1) / 6))) ⟨fun b b1 _ _ _ _ _ => xu_ne b1, fun j hj => xu_j hj, xu_s _ _ _ _, fun q hq => absurd hq (by omega)⟩ (by omega) (by omega)
    intro j y again hj ⟨p1, p2, p3, p4⟩ hag
    dsimp only
    refine pk_le 7 j (fun hh => ?_) (fun hh => ⟨pk_in j 7 hh, pk_in j 7 hh, ?_⟩)
    · rw [show j = 7 by omega] at p4
      exact hJ y ⟨p1, p2, p3, p4⟩
    · rw [nI_clamp (by omega), mul3]
      rintro _ rfl
      refine ⟨pk_in j 7 hh, pk_in j 7 hh, ?_⟩
      rintro _ rfl
      refine ⟨pk_in j 7 hh, ?_⟩
      rintro _ rfl
      refine ⟨pk_in j 7 hh, ?_⟩
      rintro _ rfl
      generalize hc : xu (xu (xu (xu y 1 j (y 6 j)) 3 j (xu y 1 j (y 6 j) 8 j)) 4 j 0) 5 j 0 = c
      have c2 : ∀ b, b ≠ 1 → b ≠ 3 → b ≠ 4 → b ≠ 5 → c b = y b := fun b b1 b2 b3 b4 => by rw [← hc, xu_ne b4, xu_ne b3, xu_ne b2, xu_ne b1]
      refine lpg (fun t (z : xM) => (nI t, z)) 3 (fun t z => (∀ b, b ≠ 2 → z b = c b) ∧ (∀ v, v < 3 * j → z 2 v = y 2 v) ∧ ∀ v, v < t → z 2 (3 * j + v) = m 7 (3 * j + v)) ?_ (i := 0) (t := c) ⟨fun _ _ => rfl, fun v _ => by rw [c2 2 (by omega) (by omega) (by omega) (by omega)], fun v hv => absurd hv (by omega)⟩ (by omega) (by omega)
      intro t z ag ht ⟨z1, z2, z3⟩ hag2
      dsimp only
      rw [nI_add, nI_clamp (by omega)]
      refine pk_le 3 t (fun h3 => ?_) (fun h3 => ⟨pk_in (3 * j + t) 21 (by omega), pk_in (3 * j + t) 21 (by omega), ?_⟩)
      · rintro _ rfl
        rw [nI_1]
        refine hag _ hh ⟨fun b b1 b2 b3 b4 b5 b6 => ?_, fun i hi => ?_, ?_, fun q hq => ?_⟩
        · rw [z1 b b3, c2 b b2 b4 b5 b6]; exact p1 b b1 b2 b3 b4 b5 b6
        · rw [z1 0 (by omega), c2 0 (by omega) (by omega) (by omega) (by omega)]; exact p2 i hi
        · rw [z1 0 (by omega), c2 0 (by omega) (by omega) (by omega) (by omega)]; exact p3
        · rw [z1 1 (by omega), z1 3 (by omega), z1 4 (by omega), z1 5 (by omega), ← hc]
          by_cases e : q = j
          · subst e
            rw [xu_a (by omega), xu_a (by omega), xu_a (by omega), xu_s, xu_a (by omega), xu_a (by omega), xu_s, xu_a (by omega), xu_s, xu_a (by omega), xu_s]
            refine ⟨by rw [p1 6 (by omega) (by omega) (by omega) (by omega) (by omega) (by omega)], by rw [p1 8 (by omega) (by omega) (by omega) (by omega) (by omega) (by omega)], rfl, rfl, fun v hv => z3 v (by omega)⟩
          · rw [xu_a (by omega), xu_a (by omega), xu_a (by omega), xu_j e, xu_a (by omega), xu_a (by omega), xu_j e, xu_a (by omega), xu_a (by omega), xu_j e, xu_a (by omega), xu_a (by omega), xu_j e, xu_a (by omega), xu_a (by omega), xu_a (by omega)]
            obtain ⟨v1, v2, v3, v4, v5⟩ := p4 q (by omega)
            refine ⟨v1, v2, v3, v4, fun v hv => ?_⟩
            rw [z2 (3 * q + v) (by omega)]; exact v5 v hv
      · rintro _ rfl _ rfl
        rw [nI_1]
        refine hag2 _ h3 ⟨fun b hb => ?_, fun v hv => ?_, fun v hv => ?_⟩
        · rw [xu_ne hb]; exact z1 b hb
        · rw [xu_j (by omega)]; exact z2 v hv
        · by_cases e : v = t
          · rw [e, xu_s, z1 7 (by omega), c2 7 (by omega) (by omega) (by omega) (by omega), p1 7 (by omega) (by omega) (by omega) (by omega) (by omega) (by omega)]
          · rw [xu_j (by omega)]; exact z3 v (by omega)
