theorem cs_day {c c' : xM} {g g' : gN} {kn kn' : Nat} (hg : okG g) (hc : cr c g) (hk : ch c g kn) (h1 : ∀ b, b ≠ 10 → b ≠ 12 → b ≠ 13 → c' b = c b) (h2 : ∀ j, j ≠ 8 → c' 10 j = c 10 j) (h3 : c' 10 8 = nI kn') (h4 : kn' ≤ kn) (gO : ∀ b, b ≠ 9 → b ≠ 10 → g' b = g b) (hd : ∀ d, d < 60 → c' 12 d = nI (g' 9 d) ∧ c' 13 d = nI (g' 10 d)) (he : ∀ e, e < kn' → g' 9 e = g 9 e ∧ g' 10 e = g 10 e) : cr c' g' ∧ ch c' g' kn' := by
  have hN := hg.1
  have e0 := gO 0 (by decide) (by decide)
  obtain ⟨q1, q2, q3, q4⟩ := hc
  obtain ⟨k1, k2, k3, k4⟩ := hk
  refine ⟨⟨?_, ?_, fun k hk => ?_, hd⟩, h3, by omega, fun d hd2 => ?_, fun d hd2 => ?_⟩
  · rw [h2 6 (by decide), e0]; exact q1
  · rw [h2 7 (by decide), e0]; exact q2
  · rw [e0] at hk
    rw [h1 (17 + k) (by omega) (by omega) (by omega), h1 (24 + k) (by omega) (by omega) (by omega), gO 1 (by decide) (by decide), gO 2 (by decide) (by decide), gO 3 (by decide) (by decide), gO 4 (by decide) (by decide), gO 5 (by decide) (by decide)]
    exact q3 k hk
  · intro k hk
    rw [e0] at hk
    rw [sat_congr (congrFun e0 1) (congrFun e0 14) (fun a a1 a2 => gO a (by omega) (by omega)) d (fun e he2 => he e (by omega)), h1 14 (by decide) (by decide) (by decide), h1 15 (by decide) (by decide) (by decide)]
    exact k3 d (by omega) k hk
  · rw [slkd_congr (congrFun e0 1) (congrFun e0 14) (fun a a1 a2 => gO a (by omega) (by omega)) (d := d) (fun e he2 => he e (by omega)), h1 16 (by decide) (by decide) (by decide)]
    exact k4 d (by omega)
theorem okG_day {g g' : gN} (hg : okG g) (gO : ∀ b, b ≠ 9 → b ≠ 10 → g' b = g b) (hd : ∀ d, d < 60 → g' 9 d ≤ 9 ∧ g' 10 d < 4) : okG g' := by
  obtain ⟨q1, q2, q3, q4⟩ := hg
  refine ⟨?_, ?_, fun k hk => ?_, hd⟩
  · rw [gO 0 (by decide) (by decide)]; exact q1
  · rw [gO 0 (by decide) (by decide)]; exact q2
  · rw [gO 0 (by decide) (by decide)] at hk
    rw [gO 1 (by decide) (by decide), gO 2 (by decide) (by decide), gO 3 (by decide) (by decide), gO 4 (by decide) (by decide), gO 5 (by decide) (by decide)]
    exact q3 k hk
theorem mr_day {m m' : xM} {g g' : gN} (hm : mr m g) (gO : ∀ b, b ≠ 9 → b ≠ 10 → g' b = g b) (mO : ∀ b, b ≠ 9 → b ≠ 10 → m' b = m b) (hd : ∀ d, d < 60 → m' 9 d = nI (g' 9 d) ∧ m' 10 d = nI (g' 10 d)) : mr m' g' := by
  obtain ⟨q1, q2, q3, q4⟩ := hm
  refine ⟨?_, ?_, fun k hk => ?_, hd⟩
  · rw [gO 0 (by decide) (by decide), mO 0 (by decide) (by decide)]; exact q1
  · rw [gO 0 (by decide) (by decide), mO 0 (by decide) (by decide)]; exact q2
  · rw [gO 0 (by decide) (by decide)] at hk
    rw [gO 1 (by decide) (by decide), gO 2 (by decide) (by decide), gO 3 (by decide) (by decide), gO 4 (by decide) (by decide), gO 5 (by decide) (by decide), mO 1 (by decide) (by decide), mO 2 (by decide) (by decide), mO 3 (by decide) (by decide), mO 4 (by decide) (by decide), mO 5 (by decide) (by decide)]
    exact q3 k hk
theorem u_letRain {n d r kn : Nat} {c : xM} {g g' : gN} {K : xM → Prop} (hg : okG g) (hc : cr c g) (hk : ch c g kn) (hd : d < 60) (gO : ∀ b, b ≠ 9 → g' b = g b) (gd : ∀ e, e ≠ d → g' 9 e = g 9 e) (gr : g' 9 d = r) (hK : ∀ c', (∀ b, b ≠ 10 → b ≠ 12 → c' b = c b) → (∀ j, j ≠ 8 → c' 10 j = c 10 j) → cr c' g' → ch c' g' (min kn d) → K c') : wp_X5_letRain n (nI d) (nI r) c K := by
  unfold wp_X5_letRain wp_X5_forgetFrom
  have hk1 := hk.1
  have hk2 := hk.2.1
  rw [nI_clamp (by omega)]
  refine ⟨pk_in d 60 hd, ?_⟩
  rintro _ rfl
  rw [xu_a (by omega), hk1, imin (by omega) (by omega)]
  rintro _ rfl _ rfl
  refine (fun z => hK _ (fun b b1 b2 => ?_) (fun j hj => ?_) z.1 z.2) (cs_day hg hc hk (fun b b1 b2 b3 => ?_) (fun j hj => ?_) (xu_s _ _ _ _) (Nat.min_le_left _ _) (fun b b1 b2 => gO b b1) (fun e he => ?_) (fun e he => ⟨gd e (by omega), by rw [gO 10 (by decide)]⟩))
  · rw [xu_ne b1, xu_ne b2]
  · rw [xu_j hj, xu_a (by omega)]
  · rw [xu_ne b1, xu_ne b2]
  · rw [xu_j hj, xu_a (by omega)]
  · rw [xu_a (a := 10) (b := 12) (by omega), xu_a (a := 10) (b := 13) (by omega), xu_a (a := 12) (b := 13) (by omega), gO 10 (by decide)]
    refine ⟨?_, (hc.2.2.2 e he).2⟩
    by_cases q : e = d
    · subst q; rw [xu_s, gr]
    · rw [xu_j q, gd e q]; exact (hc.2.2.2 e he).1
theorem st_rain {μC μM : xM} (h : rl μC μM) (a1 : Int32) (a2 : Int32) (a3 : Int32) : wp_X6_rain 2000 a1 a2 a3 μC (fun (r1 : Int32) (uC : xM) => wp_X7_rain 2000 a1 a2 a3 μM (fun (r2 : Int32) (uM : xM) => r1 = r2 ∧ rl uC uM)) := by
  obtain ⟨⟨g, hg, hm, ⟨hc, kn, hk⟩, hr⟩, hs, hf, ht, h0⟩ := id h
  have hN := hg.1
  unfold wp_X6_rain wp_X7_rain
  rcases in_or a1 60 with ⟨d, hd, rfl⟩ | hd
  · refine w_bl_y hd (by omega) rfl (b1' ?_)
    rcases in_or a2 10 with ⟨r, hr2, rfl⟩ | hr2
    · refine w_bl_y hr2 (by omega) rfl (b1' ?_)
      rcases in_or a3 4 with ⟨w, hw, rfl⟩ | hw
      · refine w_bl_y hw (by omega) rfl (b1 ?_)
        rw [hc.1]
        refine pk_ne (g 0 1) 0 (fun e => ⟨pk_in d 60 hd, pk_in d 60 hd, ?_⟩) (fun e => ?_)
        · rintro _ rfl
          rw [nI_clamp (n := d) (by omega)]
          refine u_letRain (g' := gs g 9 d r) hg hc hk hd (fun b hb => gs_n hb) (fun e he => gs_sn he) (gs_ss _ _ _ _) (fun c1 f1 f2 hc1 hk1 => ⟨pk_in d 60 hd, ?_⟩)
          rintro _ rfl
          refine w_in_y hd (by omega) rfl (b1' (w_in_y hr2 (by omega) rfl (b1' (w_in_y hw (by omega) rfl (b1 ?_)))))
          rw [hm.1]
          refine pk_ne (g 0 1) 0 (fun _ => ⟨pk_in d 60 hd, pk_in d 60 hd, ?_⟩) (fun q => absurd q e)
          rintro _ rfl
          refine ⟨pk_in d 60 hd, ?_⟩
          rintro _ rfl
          refine ⟨pk_in d 60 hd, ?_⟩
          rintro _ rfl
          refine ⟨by rw [(hc.2.2.2 d hd).1, (hc.2.2.2 d hd).2, (hm.2.2.2 d hd).1, (hm.2.2.2 d hd).2], ?_⟩
          have hg1 : okG (gs g 9 d r) := okG_day hg (fun b b1 _ => gs_n b1) (fun e he => ⟨by rw [gs_at]; split; exact Nat.le_of_lt_succ hr2; exact (hg.2.2.2 e he).1, by rw [gs_n (by decide)]; exact (hg.2.2.2 e he).2⟩)
          have hg2 : okG (gs (gs g 9 d r) 10 d w) := okG_day hg1 (fun b b1 b2 => gs_n b2) (fun e he => ⟨by rw [gs_n (by decide)]; exact (hg1.2.2.2 e he).1, by rw [gs_at]; split; exact hw; exact (hg1.2.2.2 e he).2⟩)
          have hwd : ∀ e, e < 60 → xu c1 13 d (nI w) 13 e = nI (gs (gs g 9 d r) 10 d w 10 e) := by
            intro e he
            rw [xu_if, gs_at]
            by_cases q : e = d
            · rw [if_pos ⟨rfl, q⟩, if_pos q]
            · rw [if_neg (fun z => q z.2), if_neg q]; exact (hc1.2.2.2 e he).2
          have hcw := cs_day (c' := xu c1 13 d (nI w)) (g' := gs (gs g 9 d r) 10 d w) hg1 hc1 hk1 (fun b b1 b2 b3 => xu_ne b3) (fun j hj => xu_a (by omega)) (by rw [xu_a (by omega)]; exact hk1.1) (Nat.le_refl _) (fun b b1 b2 => gs_n b2) (fun e he => ⟨by rw [xu_a (by omega), gs_n (b := 9) (by decide)]; exact (hc1.2.2.2 e he).1, hwd e he⟩) (fun e he => ⟨by rw [gs_n (by decide)], gs_sn (by omega)⟩)
          refine ⟨⟨gs (gs g 9 d r) 10 d w, hg2, mr_day hm (fun b b1 b2 => by rw [gs_n b2, gs_n b1]) (fun b b1 b2 => by rw [xu_ne b2, xu_ne b1]) (fun e he => ⟨?_, ?_⟩), ⟨hcw.1, _, hcw.2⟩, hr.same (by rw [gs_n (by decide), gs_n (by decide)]) (fun b hb => ?_) (by rw [xu_a (by omega), xu_a (by omega)]) (fun b hb => by rw [xu_ne (by omega), xu_ne (by omega)])⟩, hs.same (fun b b1 b2 => ?_) (fun b hb => by rw [xu_ne (by omega), xu_ne (by omega)]), ?_, ?_, fun y hy => ?_⟩
          · rw [xu_a (by omega)]
            exact (xu_gs (hm.2.2.2 e he).1).trans (by rw [gs_n (a := 10) (by decide)])
          · exact xu_gs (by rw [xu_a (by omega), gs_n (by decide)]; exact (hm.2.2.2 e he).2)
          · rw [xu_ne (by omega), f1 b (by omega) (by omega)]
          · rw [xu_ne (by omega), f1 b (by omega) (by omega)]
          · rw [xu_a (by omega), f1 0 (by omega) (by omega), xu_a (by omega), xu_a (by omega)]; exact hf
          · rw [xu_a (by omega), f1 0 (by omega) (by omega), xu_a (by omega), xu_a (by omega)]; exact ht
          · rw [xu_a (by omega), f1 15 (by omega) (by omega)]; exact h0 y hy
        · refine w_in_y hd (by omega) rfl (b1' (w_in_y hr2 (by omega) rfl (b1' (w_in_y hw (by omega) rfl (b1 ?_)))))
          rw [hm.1]
          exact pk_ne (g 0 1) 0 (fun q => absurd e q) (fun _ => ⟨rfl, h⟩)
      · exact w_bl_n hw (by omega) rfl (b0 (w_in_y hd (by omega) rfl (b1' (w_in_y hr2 (by omega) rfl (b1' (w_in_n hw (by omega) rfl (b0 ⟨rfl, h⟩)))))))
    · exact w_bl_n hr2 (by omega) rfl (b0' (w_in_y hd (by omega) rfl (b1' (w_in_n hr2 (by omega) rfl (b0' ⟨rfl, h⟩)))))
  · exact w_bl_n hd (by omega) rfl (b0' (w_in_n hd (by omega) rfl (b0' ⟨rfl, h⟩)))
