theorem xu_id {m : xM} {a k : Nat} {v : Int32} (h : m a k = v) : xu m a k v = m := by
  funext b x
  rw [xu_if]
  by_cases e : b = a ∧ x = k
  · rw [if_pos e, e.1, e.2, h]
  · rw [if_neg e]
theorem xu_comm {m : xM} {a k b x : Nat} {v w : Int32} (h : a ≠ b) : xu (xu m a k v) b x w = xu (xu m b x w) a k v := by
  funext y z
  rw [xu_if, xu_if, xu_if, xu_if]
  by_cases e1 : y = b ∧ z = x
  · rw [if_pos e1]
    by_cases e2 : y = a ∧ z = k
    · exact absurd (e2.1.symm.trans e1.1) h
    · rw [if_neg e2, if_pos e1]
  · rw [if_neg e1]
    by_cases e2 : y = a ∧ z = k
    · rw [if_pos e2, if_pos e2]
    · rw [if_neg e2, if_neg e2, if_neg e1]
theorem st_fence {μC μM : xM} (h : rl μC μM) (a1 : Int32) (a2 : Int32) (hb : xb a2) : wp_X6_fence 2000 a1 a2 μC (fun (r1 : Int32) (uC : xM) => wp_X7_fence 2000 a1 a2 μM (fun (r2 : Int32) (uM : xM) => r1 = r2 ∧ rl uC uM)) := by
  obtain ⟨⟨g, hg, hm, ⟨hc, kn, hk⟩, hr⟩, hs, hf, ht, h0⟩ := id h
  have hN := hg.1
  unfold wp_X6_fence wp_X7_fence
  rcases in_or a1 (g 0 1) with ⟨k, hkN, rfl⟩ | hkN
  · obtain ⟨v, hv, rfl⟩ : ∃ v, v < 2 ∧ a2 = nI v := by
      rcases hb with rfl | rfl
      · exact ⟨0, by omega, rfl⟩
      · exact ⟨1, by omega, rfl⟩
    have b4 := (hg.2.2.1 k hkN).2.2.2.1
    have c4 := (hc.2.2.1 k hkN).2.2.2.1
    have m5 := (hm.2.2.1 k hkN).2.2.2.1
    refine u_isStatue_y hc.1 hkN hN (b1 ⟨pk_in k 7 (by omega), ?_⟩)
    rw [nI_clamp (by omega), c4]
    refine pk_ne (g 5 k) v (fun e => ⟨hb, ?_⟩) (fun e => ?_)
    · rintro _ rfl
      refine u_forget0 (kn := kn) (by rw [xu_a (by omega)]; exact hk.1) hk.2.1 ?_
      refine t_noOne_y hm.1 hkN hN ⟨fun _ => ⟨pk_in k 7 (by omega), ?_⟩, fun q => absurd rfl q⟩
      rintro _ rfl
      refine ⟨pk_in k 7 (by omega), hb, ?_⟩
      rintro _ rfl
      rw [m5]
      exact pk_ne (g 5 k) v (fun _ => ⟨rfl, rl_attr hg hm hc hk hr hs hf ht h0 hkN (Or.inr (Or.inr ⟨rfl, rfl, hv⟩))⟩) (fun q => absurd q e)
    · refine t_noOne_y hm.1 hkN hN ⟨fun _ => ⟨pk_in k 7 (by omega), ?_⟩, fun q => absurd rfl q⟩
      rintro _ rfl
      refine ⟨pk_in k 7 (by omega), hb, ?_⟩
      rintro _ rfl
      rw [m5, xu_id (by rw [m5, e])]
      exact pk_ne (g 5 k) v (fun q => absurd e q) (fun _ => ⟨rfl, h⟩)
  · refine u_isStatue_n hc.1 hkN hN (b0 ?_)
    exact t_noOne_n hm.1 hkN hN (b1' ⟨rfl, h⟩)
theorem st_deer {μC μM : xM} (h : rl μC μM) (a1 : Int32) : wp_X6_deer 2000 a1 μC (fun (r1 : Int32) (uC : xM) => wp_X7_deer 2000 a1 μM (fun (r2 : Int32) (uM : xM) => r1 = r2 ∧ rl uC uM)) := by
  obtain ⟨⟨g, hg, hm, ⟨hc, kn, hk⟩, hr⟩, hs, hf, ht, h0⟩ := id h
  have hN := hg.1
  unfold wp_X6_deer wp_X7_deer
  rcases in_or a1 10 with ⟨v, hv, rfl⟩ | hv
  · refine w_bl_y hv (by omega) rfl (b1 ?_)
    rw [hc.1]
    refine pk_ne (g 0 1) 0 (fun e => ?_) (fun e => ?_)
    · rintro _ rfl _ rfl
      refine u_forget0 (kn := kn) (by rw [xu_j (by omega)]; exact hk.1) hk.2.1 ?_
      refine w_in_y hv (by omega) rfl (b1 ?_)
      rw [hm.1]
      refine pk_ne (g 0 1) 0 (fun _ => ?_) (fun q => absurd q e)
      rintro _ rfl _ rfl
      refine ⟨by rw [hc.2.1, hm.2.1], ?_⟩
      have g1 : gs g 0 14 v 0 1 = g 0 1 := gs_sn (by decide)
      have gO : ∀ b, b ≠ 0 → gs g 0 14 v b = g b := fun b hb => gs_n hb
      generalize hcc : xu (xu μC 10 7 (nI v)) 10 8 (nI 0) = c'
      have cO : ∀ b, b ≠ 10 → c' b = μC b := fun b hb => by rw [← hcc, xu_ne hb, xu_ne hb]
      refine ⟨⟨gs g 0 14 v, ⟨by rw [g1]; exact hN, by rw [gs_ss]; omega, fun x hx => ?_, fun d hd => ?_⟩, ⟨xu_gs hm.1, xu_gs hm.2.1, fun x hx => ?_, fun d hd => ?_⟩, ⟨⟨?_, ?_, fun x hx => ?_, fun d hd => ?_⟩, 0, ch_0 ?_ (fun x hx p hp => ?_) (fun y hy => ?_) (by rw [g1]; exact hN)⟩, hr.same g1 (fun b hb => cO b (by omega)) (xu_j (by decide)) (fun b hb => xu_ne (by omega))⟩, hs.same (fun b h1 h2 => cO b (by omega)) (fun b hb => xu_ne (by omega)), ?_, ?_, fun y hy => ?_⟩
      · rw [g1] at hx; rw [gO 1 (by decide), gO 2 (by decide), gO 3 (by decide), gO 4 (by decide), gO 5 (by decide)]; exact hg.2.2.1 x hx
      · rw [gO 9 (by decide), gO 10 (by decide)]; exact hg.2.2.2 d hd
      · rw [g1] at hx; rw [gO 1 (by decide), gO 2 (by decide), gO 3 (by decide), gO 4 (by decide), gO 5 (by decide), xu_ne (a := 1) (by decide), xu_ne (a := 2) (by decide), xu_ne (a := 3) (by decide), xu_ne (a := 4) (by decide), xu_ne (a := 5) (by decide)]; exact hm.2.2.1 x hx
      · rw [gO 9 (by decide), gO 10 (by decide), xu_ne (a := 9) (by decide), xu_ne (a := 10) (by decide)]; exact hm.2.2.2 d hd
      · rw [← hcc, xu_j (by decide), xu_j (by decide), g1]; exact hc.1
      · rw [← hcc, xu_j (by decide), xu_s, gs_ss]
      · rw [g1] at hx; rw [gO 1 (by decide), gO 2 (by decide), gO 3 (by decide), gO 4 (by decide), gO 5 (by decide), cO (17 + x) (by omega), cO (24 + x) (by omega)]; exact hc.2.2.1 x hx
      · rw [gO 9 (by decide), gO 10 (by decide), cO 12 (by decide), cO 13 (by decide)]; exact hc.2.2.2 d hd
      · rw [← hcc, xu_s]
      · rw [g1] at hx; rw [cO 14 (by decide), gO 2 (by decide)]; exact ch_row0 hk hx hp
      · rw [cO 15 (by decide)]; exact h0 y hy
      · rw [cO 0 (by decide), xu_j (by decide)]; exact hf
      · rw [cO 0 (by decide), xu_j (by decide)]; exact ht
      · rw [cO 15 (by decide)]; exact h0 y hy
    · refine w_in_y hv (by omega) rfl (b1 ?_)
      rw [hm.1]
      exact pk_ne (g 0 1) 0 (fun q => absurd e q) (fun _ => ⟨rfl, h⟩)
  · exact w_bl_n hv (by omega) rfl (b0 (w_in_n hv (by omega) rfl (b0 ⟨rfl, h⟩)))
theorem st_many {μC μM : xM} (h : rl μC μM) (a1 : Int32) : wp_X6_many 2000 a1 μC (fun (r1 : Int32) => wp_X7_many 2000 a1 μM (fun (r2 : Int32) => r1 = r2 ∧ rl μC μM)) := by
  obtain ⟨⟨g, hg, hm, ⟨hc, kn, hk⟩, hr⟩, hs, hf, ht, h0⟩ := id h
  obtain ⟨q, hq, c1, m1, -⟩ := hr
  unfold wp_X6_many wp_X7_many
  refine ⟨fun e => ⟨fun _ => ⟨by rw [hc.1, hm.1], h⟩, fun z => absurd e z⟩, fun e1 => ⟨fun e => ⟨fun z => absurd z e1, fun _ => ⟨fun _ => ⟨by rw [hc.2.1, hm.2.1], h⟩, fun z => absurd e z⟩⟩, fun e2 => ⟨fun e => ⟨fun z => absurd z e1, fun _ => ⟨fun z => absurd z e2, fun _ => ⟨fun _ => ⟨by rw [c1, m1], h⟩, fun z => absurd e z⟩⟩⟩, fun e3 => ⟨fun z => absurd z e1, fun _ => ⟨fun z => absurd z e2, fun _ => ⟨fun z => absurd z e3, fun _ => ⟨rfl, h⟩⟩⟩⟩⟩⟩⟩
theorem st_ofStatue {μC μM : xM} (h : rl μC μM) (a1 : Int32) (a2 : Int32) : wp_X6_ofStatue 2000 a1 a2 μC (fun (r1 : Int32) => wp_X7_ofStatue 2000 a1 a2 μM (fun (r2 : Int32) => r1 = r2 ∧ rl μC μM)) := by
  obtain ⟨⟨g, hg, hm, ⟨hc, kn, hk⟩, hr⟩, hs, hf, ht, h0⟩ := id h
  have hN := hg.1
  unfold wp_X6_ofStatue wp_X7_ofStatue
  rcases in_or a1 (g 0 1) with ⟨k, hkN, rfl⟩ | hkN
  · obtain ⟨d1, d2, d3, d4, d5⟩ := hc.2.2.1 k hkN
    obtain ⟨e1, e2, e3, e4, e5⟩ := hm.2.2.1 k hkN
    obtain ⟨f1, f2, f3, f4, f5⟩ := hg.2.2.1 k hkN
    refine u_isStatue_y hc.1 hkN hN (b1 ⟨pk_in k 7 (by omega), ?_⟩)
    rw [nI_clamp (by omega)]
    refine ⟨fun q => ?_, fun q => ?_⟩
    · obtain ⟨p, hp, rfl⟩ : ∃ p, p < 3 ∧ a2 = nI p := by
        rcases q with rfl | rfl | rfl
        · exact ⟨0, by omega, rfl⟩
        · exact ⟨1, by omega, rfl⟩
        · exact ⟨2, by omega, rfl⟩
      refine ⟨pk_in p 3 hp, ?_⟩
      refine t_noOne_y hm.1 hkN hN ⟨fun _ => ⟨fun _ => ?_, fun q2 => absurd q q2⟩, fun q => absurd rfl q⟩
      rw [mul3, nI_add, nI_clamp (by omega), nI_clamp (by omega), d5 p hp, e5 p hp]
      exact ⟨pk_in (3 * k + p) 21 (by omega), rfl, h⟩
    · refine ⟨fun q3 => ?_, fun q3 => ⟨fun q4 => ?_, fun q4 => ⟨fun q5 => ?_, fun q5 => ⟨fun q6 => ?_, fun q6 => ?_⟩⟩⟩⟩
      · refine t_noOne_y hm.1 hkN hN ⟨fun _ => ⟨fun z => absurd z q, fun _ => ⟨fun _ => ?_, fun z => absurd q3 z⟩⟩, fun q => absurd rfl q⟩
        exact ⟨pk_in k 7 (by omega), d1.trans e1.symm, h⟩
      · refine t_noOne_y hm.1 hkN hN ⟨fun _ => ⟨fun z => absurd z q, fun _ => ⟨fun z => absurd z q3, fun _ => ⟨fun _ => ?_, fun z => absurd q4 z⟩⟩⟩, fun q => absurd rfl q⟩
        exact ⟨pk_in k 7 (by omega), d2.trans e2.symm, h⟩
      · refine t_noOne_y hm.1 hkN hN ⟨fun _ => ⟨fun z => absurd z q, fun _ => ⟨fun z => absurd z q3, fun _ => ⟨fun z => absurd z q4, fun _ => ⟨fun _ => ?_, fun z => absurd q5 z⟩⟩⟩⟩, fun q => absurd rfl q⟩
        exact ⟨pk_in k 7 (by omega), d3.trans e3.symm, h⟩
      · rw [d4]
        refine pk_eq (g 5 k) 0 (fun z0 => ?_) (fun z0 => ?_)
        · refine t_noOne_y hm.1 hkN hN ⟨fun _ => ⟨fun z => absurd z q, fun _ => ⟨fun z => absurd z q3, fun _ => ⟨fun z => absurd z q4, fun _ => ⟨fun z => absurd z q5, fun _ => ⟨fun _ => ?_, fun z => absurd q6 z⟩⟩⟩⟩⟩, fun q => absurd rfl q⟩
          rw [e4]
          exact ⟨pk_in k 7 (by omega), pk_eq (g 5 k) 0 (fun _ => ⟨rfl, h⟩) (fun z => absurd z0 z)⟩
        · refine t_noOne_y hm.1 hkN hN ⟨fun _ => ⟨fun z => absurd z q, fun _ => ⟨fun z => absurd z q3, fun _ => ⟨fun z => absurd z q4, fun _ => ⟨fun z => absurd z q5, fun _ => ⟨fun _ => ?_, fun z => absurd q6 z⟩⟩⟩⟩⟩, fun q => absurd rfl q⟩
          rw [e4]
          exact ⟨pk_in k 7 (by omega), pk_eq (g 5 k) 0 (fun z => absurd z z0) (fun _ => ⟨rfl, h⟩)⟩
      · exact t_noOne_y hm.1 hkN hN ⟨fun _ => ⟨fun z => absurd z q, fun _ => ⟨fun z => absurd z q3, fun _ => ⟨fun z => absurd z q4, fun _ => ⟨fun z => absurd z q5, fun _ => ⟨fun z => absurd z q6, fun _ => ⟨rfl, h⟩⟩⟩⟩⟩⟩, fun q => absurd rfl q⟩
  · refine u_isStatue_n hc.1 hkN hN (b0 ?_)
    exact t_noOne_n hm.1 hkN hN (b1' ⟨rfl, h⟩)
