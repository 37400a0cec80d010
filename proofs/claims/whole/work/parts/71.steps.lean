def gU (g : gN) (f : Nat → Nat) : gN := fun a => if a = 4 then f else g a
theorem gU_n {g : gN} {f : Nat → Nat} {a : Nat} (h : a ≠ 4) : gU g f a = g a := if_neg h
theorem gU_4 (g : gN) (f : Nat → Nat) : gU g f 4 = f := rfl
theorem gU_ok {g : gN} {f : Nat → Nat} (hg : okG g) (hf : ∀ k, k < g 0 1 → f k < 3) : okG (gU g f) := by
  obtain ⟨q1, q2, q3, q4⟩ := hg
  refine ⟨?_, ?_, fun k hk => ?_, fun d hd => ?_⟩
  · rw [gU_n (by decide)]; exact q1
  · rw [gU_n (by decide)]; exact q2
  · rw [gU_n (by decide)] at hk
    rw [gU_n (a := 1) (by decide), gU_n (a := 2) (by decide), gU_n (a := 3) (by decide), gU_4, gU_n (a := 5) (by decide)]
    obtain ⟨z1, z2, z3, z4, z5⟩ := q3 k hk
    exact ⟨z1, z2, hf k hk, z4, z5⟩
  · rw [gU_n (by decide), gU_n (by decide)]; exact q4 d hd
theorem gU_mr {m m' : xM} {g : gN} {f : Nat → Nat} (hm : mr m g) (h1 : ∀ a, a ≠ 4 → a ≠ 11 → a ≠ 12 → a ≠ 13 → a ≠ 14 → m' a = m a) (h2 : ∀ k, k < g 0 1 → m' 4 k = nI (f k)) : mr m' (gU g f) := by
  obtain ⟨q1, q2, q3, q4⟩ := hm
  have r : ∀ a, a < 11 → a ≠ 4 → m' a = m a := fun a h h' => h1 a h' (by omega) (by omega) (by omega) (by omega)
  refine ⟨?_, ?_, fun k hk => ?_, fun d hd => ?_⟩
  · rw [gU_n (by decide), r 0 (by omega) (by omega)]; exact q1
  · rw [gU_n (by decide), r 0 (by omega) (by omega)]; exact q2
  · rw [gU_n (by decide)] at hk
    rw [gU_n (a := 1) (by decide), gU_n (a := 2) (by decide), gU_n (a := 3) (by decide), gU_4, gU_n (a := 5) (by decide), r 1 (by omega) (by omega), r 2 (by omega) (by omega), r 3 (by omega) (by omega), r 5 (by omega) (by omega)]
    obtain ⟨z1, z2, z3, z4, z5⟩ := q3 k hk
    exact ⟨z1, z2, h2 k hk, z4, z5⟩
  · rw [gU_n (by decide), gU_n (by decide), r 9 (by omega) (by omega), r 10 (by omega) (by omega)]; exact q4 d hd
theorem gU_nose (g : gN) (f : Nat → Nat) (k d : Nat) : (sat (gU g f) d).1 (3 * k) = g 2 (3 * k) - sL (g 1 k) (g 3 k) (f k) (g 9) (g 10) d := sat_nose (gU g f) k d
theorem rl_keep4 {c m c' m' : xM} {g : gN} (hg : okG g) (hm : mr m g) (hr : rd c m g) (hs : sh c m) (hf : c 0 4 = m 0 0) (ht : c 0 3 = m 0 28) (h0 : ∀ j, j < 7 → c 15 j = 0) (fc : frW c c') (hc : cs c' g) (f1 : ∀ a, a ≠ 4 → a ≠ 11 → a ≠ 12 → a ≠ 13 → a ≠ 14 → m' a = m a) (f2 : ∀ j, j < 7 → m' 4 j = m 4 j) : rl c' m' := by
  have hN := hg.1
  have f0 := f1 0 (by omega) (by omega) (by omega) (by omega) (by omega)
  have hm' : mr m' (gU g (g 4)) := gU_mr hm f1 (fun k hk => by rw [f2 k (by omega)]; exact (hm.2.2.1 k hk).2.2.1)
  have eg : gU g (g 4) = g := by
    funext a
    by_cases e : a = 4
    · rw [e]; rfl
    · rw [gU_n e]
  rw [eg] at hm'
  refine ⟨⟨g, hg, hm', hc, hr.same rfl (fun a ha => fc.1 a (by omega) (by omega) (by omega) (by omega)) (by rw [f0]) (fun a ha => f1 a (by omega) (by omega) (by omega) (by omega) (by omega))⟩, hs.same (fun a h1 h2 => fc.1 a (by omega) (by omega) (by omega) (by omega)) (fun a ha => f1 a (by omega) (by omega) (by omega) (by omega) (by omega)), ?_, ?_, fun j hj => ?_⟩
  · rw [fc.1 0 (by omega) (by omega) (by omega) (by omega), f0]; exact hf
  · rw [fc.1 0 (by omega) (by omega) (by omega) (by omega), f0]; exact ht
  · rw [fc.2.2 j hj]; exact h0 j hj
theorem nos_m {g : gN} {s : Nat} : cnt (fun k => decide (0 < (sat (gU g (fun k => s / 2 ^ k % 2)) 60).1 (3 * k))) (g 0 1) = nos g s := by
  unfold nos
  refine cnt_congr (fun k _ => ?_)
  rw [decide_eq_decide, gU_nose, dnn_61]
  omega
theorem st_umbrellas {μC μM : xM} (h : rl μC μM) (a1 : Int32) (a2 : Int32) : wp_X6_umbrellas 2000 a1 a2 μC (fun (r1 : Int32) => wp_X7_umbrellas 2000 a1 a2 μM (fun (r2 : Int32) (uM : xM) => r1 = r2 ∧ rl μC uM)) := by
  obtain ⟨⟨g, hg, hm, hc, hr⟩, hs, hf, ht, h0⟩ := id h
  have hN := hg.1
  unfold wp_X6_umbrellas wp_X7_umbrellas
  rcases in_or a1 4 with ⟨u, hu, rfl⟩ | hu
  · refine w_bl_y hu (by omega) rfl (b1' ?_)
    rcases in_or a2 2 with ⟨w, hw, rfl⟩ | hw
    · refine w_bl_y hw (by omega) rfl (b1 ?_)
      rw [hc.1.1]
      refine pk_ne (g 0 1) 0 (fun e => ?_) (fun e => ?_)
      · refine u_give hc.1 hg hu (by omega) ?_ hw
        refine w_in_y hu (by omega) rfl (b1' (w_in_y hw (by omega) rfl (b1 ?_)))
        rw [hm.1]
        refine pk_ne (g 0 1) 0 (fun _ => ?_) (fun q => absurd q e)
        refine t_keepOver (by omega) (fun m1 k1 k2 => ?_)
        have e2 : 2 ^ g 0 1 ≤ 2 ^ 7 := Nat.pow_le_pow_right (by omega) hN
        refine xjn_i (fun (t : Int32 × Int32 × xM) => t.1 = (umz (nos g) bcn (min u (g 0 1)) (2 ^ g 0 1)).1 ∧ t.2.1 = (umz (nos g) bcn (min u (g 0 1)) (2 ^ g 0 1)).2 ∧ ∀ a, a ≠ 4 → a ≠ 11 → a ≠ 12 → a ≠ 13 → t.2.2 a = m1 a) ?_ (fun J hJ => ?_)
        · rintro ⟨t1, t2, y⟩ ⟨p1, p2, p3⟩
          dsimp only at p1 p2 p3 ⊢
          refine t_takeOver (by omega) (fun m2 v1 v2 => ?_)
          have fin : rl μC m2 := by
            refine rl_keep4 hg hm hr hs hf ht h0 (frW.rf μC) hc (fun a a1 a2 a3 a4 a5 => ?_) (fun j hj => ?_)
            · rw [v1 a a1, p3 a a1 a2 a3 a4, k1 a a5]
            · rw [v2 j hj, p3 14 (by omega) (by omega) (by omega) (by omega), k2 j hj]
          refine pk_ne w 0 (fun q => ?_) (fun q => ?_)
          · rw [if_neg q, p2]; exact ⟨rfl, fin⟩
          · rw [if_pos q, p1]; exact ⟨rfl, fin⟩
        · have bw : min u (g 0 1) ≤ 7 := by omega
          refine lpg (fun s (t : Int32 × Int32 × xM) => (nI s, t.1, t.2.1, t.2.2)) (2 ^ g 0 1) (fun s t => t.1 = (umz (nos g) bcn (min u (g 0 1)) s).1 ∧ t.2.1 = (umz (nos g) bcn (min u (g 0 1)) s).2 ∧ ∀ a, a ≠ 4 → a ≠ 11 → a ≠ 12 → a ≠ 13 → t.2.2 a = m1 a) ?_ (i := 0) (t := ((0 : Int32), (-1 : Int32), m1)) ⟨rfl, rfl, fun _ _ _ _ _ => rfl⟩ (Nat.zero_le _) (by have := Nat.zero_le (2 ^ g 0 1); omega)
          rintro s ⟨t1, t2, y⟩ again hs2 ⟨p1, p2, p3⟩ hag
          dsimp only at p1 p2 p3 ⊢
          have yb : ∀ a, a ≠ 4 → a ≠ 11 → a ≠ 12 → a ≠ 13 → a ≠ 14 → y a = μM a := fun a a1 a2 a3 a4 a5 => by rw [p3 a a1 a2 a3 a4, k1 a a5]
          have y01 : y 0 1 = nI (g 0 1) := by rw [yb 0 (by omega) (by omega) (by omega) (by omega) (by omega)]; exact hm.1
          have bs128 : s < 2 ^ g 0 1 → s < 128 := fun q => Nat.lt_of_lt_of_le q e2
          rw [y01, ishl (by omega)]
          refine pk_le (2 ^ g 0 1) s (fun hh => ?_) (fun hh => ?_) (ha := Nat.lt_of_le_of_lt e2 (by decide)) (hb := Nat.lt_of_le_of_lt (Nat.le_trans hs2 e2) (by decide))
          · rw [Nat.le_antisymm hs2 hh] at p1 p2
            exact hJ _ ⟨p1, p2, p3⟩
          · have s128 := bs128 hh
            refine t_bcn (by omega) s128 (t_lesser (by omega) (by omega) ?_)
            have b1 := bcn_le s
            refine pk_ne (bcn s) (min u (g 0 1)) (fun q => ?_) (fun q => ?_)
            · rintro _ rfl
              rw [nI_1]
              exact hag (t1, t2, y) hh ⟨by rw [umz_n1 q]; exact p1, by rw [umz_n1 q]; exact p2, p3⟩
            · refine xjn_i (fun z => (∀ a, a ≠ 4 → z a = y a) ∧ ∀ k, k < g 0 1 → z 4 k = nI (s / 2 ^ k % 2)) ?_ (fun J2 hJ2 => ?_)
              · rintro z ⟨z1, z2⟩
                have zm : mr z (gU g (fun k => s / 2 ^ k % 2)) := gU_mr hm (fun a a1 a2 a3 a4 a5 => by rw [z1 a a1]; exact yb a a1 a2 a3 a4 a5) z2
                have zg : okG (gU g (fun k => s / 2 ^ k % 2)) := gU_ok hg (fun k _ => by show s / 2 ^ k % 2 < 3; omega)
                refine t_goTo (d := 60) zm zg (by omega) (by omega) (fun m3 f3 s3 => ?_)
                have fr : ∀ a, a ≠ 4 → a ≠ 11 → a ≠ 12 → a ≠ 13 → m3 a = m1 a := fun a a1 a2 a3 a4 => by rw [f3 a a2 a3 a4, z1 a a1]; exact p3 a a1 a2 a3 a4
                refine t_nosesNow (zm.fr f3) zg s3 (sat_ok _ 60) (by omega) ?_
                have en : cnt (fun k => decide (0 < (sat (gU g (fun k => s / 2 ^ k % 2)) 60).1 (3 * k))) (gU g (fun k => s / 2 ^ k % 2) 0 1) = nos g s := nos_m
                rw [en]
                refine ⟨fun q2 => ?_, fun q2 => ?_⟩
                · rintro _ rfl
                  rw [nI_1]
                  rw [p2] at q2
                  exact hag (t1, t2, m3) hh ⟨by rw [umz_n2 q2]; exact p1, by rw [umz_n2 q2]; exact p2, fr⟩
                · refine t_nosesNow (zm.fr f3) zg s3 (sat_ok _ 60) (by omega) ?_
                  rw [en]
                  rintro _ rfl
                  rw [nI_1]
                  rw [p2] at q2
                  exact hag (nI s, nI (nos g s), m3) hh ⟨by rw [umz_y q q2], by rw [umz_y q q2], fr⟩
              · refine lpg (fun k (z : xM) => (nI k, z)) (g 0 1) (fun k z => (∀ a, a ≠ 4 → z a = y a) ∧ ∀ j, j < k → z 4 j = nI (s / 2 ^ j % 2)) ?_ (i := 0) (t := y) ⟨fun _ _ => rfl, fun j hj => absurd hj (by omega)⟩ (by omega) (by omega)
                intro k z ag hk ⟨z1, z2⟩ hag2
                dsimp only
                rw [z1 0 (by omega), y01]
                refine pk_le (g 0 1) k (fun h2 => ?_) (fun h2 => ⟨pk_in k 7 (by omega), ?_⟩)
                · exact hJ2 z ⟨z1, fun j hj => z2 j (by omega)⟩
                · have dl : s / 2 ^ k ≤ s := Nat.div_le_self _ _
                  rw [nI_clamp (by omega), ishr (by omega) (by omega), iand1 (by omega)]
                  rintro _ rfl _ rfl
                  rw [nI_1]
                  refine hag2 _ h2 ⟨fun a ha => by rw [xu_ne ha]; exact z1 a ha, fun j hj => ?_⟩
                  by_cases e3 : j = k
                  · rw [e3, xu_s]
                  · rw [xu_j e3]; exact z2 j (by omega)
      · refine w_in_y hu (by omega) rfl (b1' (w_in_y hw (by omega) rfl (b1 ?_)))
        rw [hm.1]
        exact pk_ne (g 0 1) 0 (fun q => absurd e q) (fun _ => ⟨rfl, h⟩)
    · exact w_bl_n hw (by omega) rfl (b0 (w_in_y hu (by omega) rfl (b1' (w_in_n hw (by omega) rfl (b0 ⟨rfl, h⟩)))))
  · exact w_bl_n hu (by omega) rfl (b0' (w_in_n hu (by omega) rfl (b0' ⟨rfl, h⟩)))
