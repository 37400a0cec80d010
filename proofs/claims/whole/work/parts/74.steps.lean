theorem tvl_e (g : gN) (k t : Nat) (ht : t < 4) : tvl g (4 * k + t) = min (mno (dnF g) k (g 0 1)) (dnn g k t (g 4 k)) := by
  unfold tvl
  rw [show (4 * k + t) / 4 = k by omega, show (4 * k + t) % 4 = t by omega]
theorem u_turnOne {n w : Nat} {c : xM} {g : gN} {K : Int32 → Prop} (hc : cr c g) (hg : okG g) (hw : w < 2) (hn : 100 ≤ n) (hK : K (if w = 0 then nI (tz (tvl g) (4 * g 0 1)).1 else nI (tz (tvl g) (4 * g 0 1)).2)) : wp_X0_turnOne n (nI w) c K := by
  have hN := hg.1
  have bv : ∀ j, tvl g j ≤ 61 := fun j => Nat.le_trans (Nat.min_le_right _ _) (dnn_le _ _ _ _)
  unfold wp_X0_turnOne
  refine lpg (fun k (_ : Unit) => (nI k, nI (tz (tvl g) (4 * k)).2, nI (tz (tvl g) (4 * k)).1)) (g 0 1) (fun _ _ => True) ?_ (i := 0) (t := ()) trivial (by omega) (by omega)
  intro k _ again hk _ hag
  dsimp only
  rw [hc.1]
  refine pk_le (g 0 1) k (fun hh => ?_) (fun hh => ?_)
  · rw [show k = g 0 1 by omega]
    refine pk_ne w 0 (fun q => ?_) (fun q => ?_)
    · rw [if_neg q] at hK; exact hK
    · rw [if_pos q] at hK; exact hK
  · refine u_others hc hg hh hn ?_
    refine lpg (fun t (_ : Unit) => (nI t, nI (tz (tvl g) (4 * k + t)).2, nI (tz (tvl g) (4 * k + t)).1)) 4 (fun _ _ => True) ?_ (i := 0) (t := ()) trivial (by omega) (by omega)
    intro t _ ag ht _ hag2
    dsimp only
    refine pk_le 4 t (fun h4 => ?_) (fun h4 => ⟨pk_in k 7 (by omega), ?_⟩)
    · rintro _ rfl
      rw [nI_1, show t = 4 by omega]
      exact hag () hh trivial
    · have hh2 := hg.2.2.1 k hh
      rw [nI_clamp (by omega), (hc.2.2.1 k hh).2.2.1]
      refine u_dawnNose hc hg hh h4 hh2.2.2.1 hn ?_
      have b1 := dnn_le g k t (g 4 k)
      have b2 := (mno_b (F := dnF g) (k := k) (N := g 0 1) (fun o ho => dnn_pos hg (by omega))).1
      have b3 := tz_b bv (4 * k + t)
      rw [imin (by omega) (by omega), ← tvl_e g k t h4]
      rintro _ rfl
      have b4 := bv (4 * k + t)
      have hag2 := hag2 () h4 trivial
      refine pk_le (tvl g (4 * k + t)) (tz (tvl g) (4 * k + t)).2 (fun e => ?_) (fun e => ?_)
      · rw [show 4 * k + (t + 1) = (4 * k + t) + 1 from rfl, tz_n (by omega)] at hag2
        rintro _ rfl
        rw [nI_1]; exact hag2
      · rw [show 4 * k + (t + 1) = (4 * k + t) + 1 from rfl, tz_y e, show (4 * k + t) / 4 = k by omega, show (4 * k + t) % 4 = t by omega] at hag2
        rw [mul10, nI_add]
        rintro _ rfl _ rfl
        rw [nI_1]; exact hag2
theorem gs3_ok {g : gN} {k t : Nat} (hg : okG g) (ht : t < 4) : okG (gs g 3 k t) := by
  obtain ⟨q1, q2, q3, q4⟩ := hg
  refine ⟨?_, ?_, fun j hj => ?_, fun d hd => ?_⟩
  · rw [gs_n (by decide)]; exact q1
  · rw [gs_n (by decide)]; exact q2
  · rw [gs_n (by decide)] at hj
    rw [gs_n (b := 1) (by decide), gs_n (b := 2) (by decide), gs_at, gs_n (b := 4) (by decide), gs_n (b := 5) (by decide)]
    obtain ⟨z1, z2, z3, z4, z5⟩ := q3 j hj
    refine ⟨z1, ?_, z3, z4, z5⟩
    split
    · exact ht
    · exact z2
  · rw [gs_n (by decide), gs_n (by decide)]; exact q4 d hd
theorem gs3_mr {m m' : xM} {g : gN} {k t : Nat} (hm : mr m g) (h1 : ∀ a, a ≠ 3 → a ≠ 11 → a ≠ 12 → a ≠ 13 → m' a = m a) (h2 : m' 3 k = nI t) (h3 : ∀ j, j ≠ k → m' 3 j = m 3 j) : mr m' (gs g 3 k t) := by
  obtain ⟨q1, q2, q3, q4⟩ := hm
  have r : ∀ a, a < 11 → a ≠ 3 → m' a = m a := fun a h h' => h1 a h' (by omega) (by omega) (by omega)
  refine ⟨?_, ?_, fun j hj => ?_, fun d hd => ?_⟩
  · rw [gs_n (by decide), r 0 (by omega) (by omega)]; exact q1
  · rw [gs_n (by decide), r 0 (by omega) (by omega)]; exact q2
  · rw [gs_n (by decide)] at hj
    rw [gs_n (b := 1) (by decide), gs_n (b := 2) (by decide), gs_at, gs_n (b := 4) (by decide), gs_n (b := 5) (by decide), r 1 (by omega) (by omega), r 2 (by omega) (by omega), r 4 (by omega) (by omega), r 5 (by omega) (by omega)]
    obtain ⟨z1, z2, z3, z4, z5⟩ := q3 j hj
    refine ⟨z1, ?_, z3, z4, z5⟩
    by_cases e : j = k
    · rw [if_pos e, e]; exact h2
    · rw [if_neg e, h3 j e]; exact z2
  · rw [gs_n (by decide), gs_n (by decide), r 9 (by omega) (by omega), r 10 (by omega) (by omega)]; exact q4 d hd
theorem st_turn {μC μM : xM} (h : rl μC μM) (a1 : Int32) : wp_X6_turn 2000 a1 μC (fun (r1 : Int32) => wp_X7_turn 2000 a1 μM (fun (r2 : Int32) (uM : xM) => r1 = r2 ∧ rl μC uM)) := by
  obtain ⟨⟨g, hg, hm, hc, hr⟩, hs, hf, ht, h0⟩ := id h
  have hN := hg.1
  have bv : ∀ j, tvl g j ≤ 61 := fun j => Nat.le_trans (Nat.min_le_right _ _) (dnn_le _ _ _ _)
  have pv : ∀ j, j < 4 * g 0 1 → 0 < tvl g j := fun j hj => by
    have b1 := dnn_pos hg (k := j / 4) (lk := j % 4) (ov := g 4 (j / 4)) (by omega)
    have b2 := (mno_b (F := dnF g) (k := j / 4) (N := g 0 1) (fun o ho => dnn_pos hg (by omega))).2
    unfold tvl
    omega
  unfold wp_X6_turn wp_X7_turn
  rcases in_or a1 2 with ⟨w, hw, rfl⟩ | hw
  · refine w_bl_y hw (by omega) rfl (b1 ?_)
    rw [hc.1.1]
    refine pk_ne (g 0 1) 0 (fun e => ?_) (fun e => ?_)
    · refine u_turnOne hc.1 hg hw (by omega) ?_
      refine w_in_y hw (by omega) rfl (b1 ?_)
      rw [hm.1]
      refine pk_ne (g 0 1) 0 (fun _ => ?_) (fun q => absurd q e)
      refine lpg (fun k (t : Int32 × Int32 × xM) => (nI k, t.1, t.2.1, t.2.2)) (g 0 1) (fun k t => fr3 μM t.2.2 ∧ ((k = 0 ∧ t.1 = -1 ∧ t.2.1 = 0) ∨ (0 < k ∧ t.1 = nI (tz (tvl g) (4 * k)).2 ∧ t.2.1 = nI (tz (tvl g) (4 * k)).1))) ?_ (i := 0) (t := ((-1 : Int32), (0 : Int32), μM)) ⟨fr3.rf μM, Or.inl ⟨rfl, rfl, rfl⟩⟩ (by omega) (by omega)
      rintro k ⟨t1, t2, x⟩ again hk ⟨p1, p2⟩ hag
      dsimp only at p1 p2 ⊢
      rw [(hm.fr p1).1]
      refine pk_le (g 0 1) k (fun hh => ?_) (fun hh => ⟨pk_in k 7 (by omega), ?_⟩)
      · have fin : rl μC x := rl_keep hg hm hr hs hf ht h0 (frW.rf μC) hc p1
        rcases p2 with ⟨q, _⟩ | ⟨_, q1, q2⟩
        · exact absurd q (by omega)
        · rw [q1, q2, show k = g 0 1 by omega]
          refine pk_ne w 0 (fun q => ?_) (fun q => ?_)
          · rw [if_neg q]; exact ⟨rfl, fin⟩
          · rw [if_pos q]; exact ⟨rfl, fin⟩
      · have x3 : x 3 = μM 3 := p1 3 (by omega) (by omega) (by omega)
        rw [nI_clamp (by omega), x3]
        rintro _ rfl
        refine lpg (fun t (z : Int32 × Int32 × xM) => (nI t, z.1, z.2.1, z.2.2)) 4 (fun t z => (∀ a, a ≠ 3 → a ≠ 11 → a ≠ 12 → a ≠ 13 → z.2.2 a = μM a) ∧ (∀ j, j ≠ k → z.2.2 3 j = μM 3 j) ∧ ((4 * k + t = 0 ∧ z.1 = -1 ∧ z.2.1 = 0) ∨ (0 < 4 * k + t ∧ z.1 = nI (tz (tvl g) (4 * k + t)).2 ∧ z.2.1 = nI (tz (tvl g) (4 * k + t)).1))) ?_ (i := 0) (t := (t1, t2, x)) ⟨fun a _ a1 a2 a3 => p1 a a1 a2 a3, fun j _ => by show x 3 j = _; rw [x3], ?_⟩ (by omega) (by omega)
        · rintro t ⟨z1, z2, y⟩ ag ht ⟨v1, v2, v3⟩ hag2
          dsimp only at v1 v2 v3 ⊢
          refine pk_le 4 t (fun h4 => ⟨pk_in k 7 (by omega), ?_⟩) (fun h4 => ⟨pk_in k 7 (by omega), ?_⟩)
          · have e4 : t = 4 := by omega
            subst e4
            rintro _ rfl _ rfl
            rw [nI_1]
            refine hag (z1, z2, xu y 3 k (μM 3 k)) hh ⟨fun a a1 a2 a3 => ?_, Or.inr ?_⟩
            · dsimp only
              by_cases e3 : a = 3
              · subst e3
                funext j
                by_cases e5 : j = k
                · rw [e5, xu_s]
                · rw [xu_j e5]; exact v2 j e5
              · rw [xu_ne e3]; exact v1 a e3 a1 a2 a3
            · rcases v3 with ⟨q, _⟩ | ⟨_, q1, q2⟩
              · exact absurd q (by omega)
              · exact ⟨by omega, q1, q2⟩
          · rintro _ rfl
            have ym : mr (xu y 3 k (nI t)) (gs g 3 k t) := gs3_mr hm (fun a a0 a1 a2 a3 => by rw [xu_ne a0]; exact v1 a a0 a1 a2 a3) (xu_s _ _ _ _) (fun j hj => by rw [xu_j hj]; exact v2 j hj)
            refine t_firstNose ym (gs3_ok hg h4) (by omega) (fun m2 f2 => ?_)
            have e01 : gs g 3 k t 0 1 = g 0 1 := by rw [gs_n (by decide)]
            rw [e01, tvl_m hh, ← tvl_e g k t h4]
            have w1 : ∀ a, a ≠ 3 → a ≠ 11 → a ≠ 12 → a ≠ 13 → m2 a = μM a := fun a a0 a1 a2 a3 => by rw [f2 a a1 a2 a3, xu_ne a0]; exact v1 a a0 a1 a2 a3
            have w2 : ∀ j, j ≠ k → m2 3 j = μM 3 j := fun j hj => by rw [f2 3 (by omega) (by omega) (by omega), xu_j hj]; exact v2 j hj
            have b3 := tz_b bv (4 * k + t)
            have b4 := bv (4 * k + t)
            have b5 := pv (4 * k + t) (by omega)
            rcases v3 with ⟨q, rfl, rfl⟩ | ⟨q, rfl, rfl⟩
            · refine ⟨fun z => absurd z ?_, fun _ => ?_⟩
              · rw [Int32.le_iff_toInt_le, nI_toInt (by omega), show (-1 : Int32).toInt = -1 from rfl]
                omega
              · rw [mul10, nI_add]
                rintro _ rfl _ rfl
                rw [nI_1]
                refine hag2 (_, _, m2) h4 ⟨w1, w2, Or.inr ⟨by omega, ?_⟩⟩
                rw [show 4 * k + (t + 1) = (4 * k + t) + 1 from rfl, tz_y (v := tvl g) (j := 4 * k + t) (by rw [q]; show 0 < tvl g 0; rw [q] at b5; exact b5), show (4 * k + t) / 4 = k by omega, show (4 * k + t) % 4 = t by omega]
                exact ⟨rfl, rfl⟩
            · refine pk_le (tvl g (4 * k + t)) (tz (tvl g) (4 * k + t)).2 (fun e6 => ?_) (fun e6 => ?_)
              · rintro _ rfl
                rw [nI_1]
                refine hag2 (_, _, m2) h4 ⟨w1, w2, Or.inr ⟨by omega, ?_⟩⟩
                rw [show 4 * k + (t + 1) = (4 * k + t) + 1 from rfl, tz_n (v := tvl g) (j := 4 * k + t) (by omega)]
                exact ⟨rfl, rfl⟩
              · rw [mul10, nI_add]
                rintro _ rfl _ rfl
                rw [nI_1]
                refine hag2 (_, _, m2) h4 ⟨w1, w2, Or.inr ⟨by omega, ?_⟩⟩
                rw [show 4 * k + (t + 1) = (4 * k + t) + 1 from rfl, tz_y (v := tvl g) (j := 4 * k + t) e6, show (4 * k + t) / 4 = k by omega, show (4 * k + t) % 4 = t by omega]
                exact ⟨rfl, rfl⟩
        · rcases p2 with ⟨q, q1, q2⟩ | ⟨q, q1, q2⟩
          · exact Or.inl ⟨by omega, q1, q2⟩
          · exact Or.inr ⟨by omega, q1, q2⟩
    · refine w_in_y hw (by omega) rfl (b1 ?_)
      rw [hm.1]
      exact pk_ne (g 0 1) 0 (fun q => absurd e q) (fun _ => ⟨rfl, h⟩)
  · exact w_bl_n hw (by omega) rfl (b0 (w_in_n hw (by omega) rfl (b0 ⟨rfl, h⟩)))
theorem rl_0 : rl (fun _ _ => 0) mS_0 := by
  have m0 : ∀ a, a ≠ 19 → mS_0 a = fun _ => 0 := fun a ha => if_neg ha
  refine ⟨⟨fun _ _ => 0, ⟨Nat.zero_le _, Nat.zero_le _, fun k hk => absurd hk (Nat.not_lt_zero _), fun d _ => ⟨Nat.zero_le _, Nat.zero_lt_succ _⟩⟩, ⟨?_, ?_, fun k hk => absurd hk (Nat.not_lt_zero _), fun d _ => ⟨?_, ?_⟩⟩, ⟨⟨rfl, rfl, fun k hk => absurd hk (Nat.not_lt_zero _), fun d _ => ⟨rfl, rfl⟩⟩, 0, ch_0 rfl (fun k hk => absurd hk (Nat.not_lt_zero _)) (fun j _ => rfl) (Nat.zero_le _)⟩, ⟨0, by omega, rfl, ?_, fun x hx => absurd hx (Nat.not_lt_zero _)⟩⟩, fun k hk => Or.inl ⟨rfl, ?_⟩, ?_, ?_, fun j _ => rfl⟩
  · rw [m0 0 (by omega)]; rfl
  · rw [m0 0 (by omega)]; rfl
  · rw [m0 9 (by omega)]; rfl
  · rw [m0 10 (by omega)]; rfl
  · rw [m0 0 (by omega)]; rfl
  · show upd (upd (upd (upd (fun _ => 0) 0 ((-1) : Int32)) 1 ((-1) : Int32)) 2 ((-1) : Int32)) 3 ((-1) : Int32) k = -1
    by_cases e3 : k = 3
    · subst e3; rw [upd_s]
    · rw [upd_n e3]
      by_cases e2 : k = 2
      · subst e2; rw [upd_s]
      · rw [upd_n e2]
        by_cases e1 : k = 1
        · subst e1; rw [upd_s]
        · rw [upd_n e1, show k = 0 by omega, upd_s]
  · rw [m0 0 (by omega)]
  · rw [m0 0 (by omega)]
