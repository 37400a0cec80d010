theorem gs_lt {g : gN} {a k v b x B : Nat} (h : g b x < B) (hv : a = b → v < B) : gs g a k v b x < B := by
  by_cases e : b = a
  · subst e
    rw [gs_at]
    by_cases e2 : x = k
    · rw [if_pos e2]; exact hv rfl
    · rw [if_neg e2]; exact h
  · rw [gs_n e]; exact h
theorem xu_gs {m : xM} {g : gN} {a k v b x : Nat} (h : m b x = nI (g b x)) : xu m a k (nI v) b x = nI (gs g a k v b x) := by
  by_cases e : b = a
  · subst e
    rw [gs_at]
    by_cases e2 : x = k
    · subst e2; rw [if_pos rfl, xu_s]
    · rw [if_neg e2, xu_j e2]; exact h
  · rw [gs_n e, xu_a e]; exact h
theorem rl_attr {c m : xM} {g : gN} {kn k v a j : Nat} (hg : okG g) (hm : mr m g) (hc : cr c g) (hk : ch c g kn) (hr : rd c m g) (hs : sh c m) (hf : c 0 4 = m 0 0) (ht : c 0 3 = m 0 28) (h0 : ∀ j, j < 7 → c 15 j = 0) (hkN : k < g 0 1) (haj : (a = 3 ∧ j = 2 ∧ v < 4) ∨ (a = 4 ∧ j = 3 ∧ v < 3) ∨ (a = 5 ∧ j = 4 ∧ v < 2)) : rl (xu (xu c (17 + k) j (nI v)) 10 8 (nI 0)) (xu m a k (nI v)) := by
  have hN := hg.1
  have ha : 3 ≤ a ∧ a ≤ 5 := by omega
  have e0 : gs g a k v 0 = g 0 := gs_n (by omega)
  have hg' : okG (gs g a k v) := by
    refine ⟨by rw [e0]; exact hg.1, by rw [e0]; exact hg.2.1, fun x hx => ?_, fun d hd => ?_⟩
    · rw [e0] at hx
      obtain ⟨b1, b2, b3, b4, b5⟩ := hg.2.2.1 x hx
      exact ⟨gs_lt b1 (by omega), gs_lt b2 (by omega), gs_lt b3 (by omega), gs_lt b4 (by omega), by rw [gs_n (b := 2) (by omega)]; exact b5⟩
    · rw [gs_n (b := 9) (by omega), gs_n (b := 10) (by omega)]; exact hg.2.2.2 d hd
  have hm' : mr (xu m a k (nI v)) (gs g a k v) := by
    refine ⟨xu_gs hm.1, xu_gs hm.2.1, fun x hx => ?_, fun d hd => ⟨xu_gs (hm.2.2.2 d hd).1, xu_gs (hm.2.2.2 d hd).2⟩⟩
    rw [e0] at hx
    obtain ⟨b1, b2, b3, b4, b5⟩ := hm.2.2.1 x hx
    exact ⟨xu_gs b1, xu_gs b2, xu_gs b3, xu_gs b4, fun p hp => xu_gs (b5 p hp)⟩
  generalize hcc : xu (xu c (17 + k) j (nI v)) 10 8 (nI 0) = c'
  have c10 : ∀ y, y ≠ 8 → c' 10 y = c 10 y := fun y hy => by rw [← hcc, xu_j hy, xu_a (by omega)]
  have cO : ∀ b, b ≠ 10 → b ≠ 17 + k → c' b = c b := fun b h1 h2 => by rw [← hcc, xu_ne h1, xu_ne h2]
  have cK : ∀ b, c' (17 + k) b = if b = j then nI v else c (17 + k) b := fun b => by
    rw [← hcc, xu_a (by omega)]
    by_cases e : b = j
    · subst e; rw [if_pos rfl, xu_s]
    · rw [if_neg e, xu_j e]
  have hc' : cr c' (gs g a k v) := by
    refine ⟨by rw [c10 6 (by decide), e0]; exact hc.1, by rw [c10 7 (by decide), e0]; exact hc.2.1, fun x hx => ?_, fun d hd => ?_⟩
    · rw [e0] at hx
      obtain ⟨b1, b2, b3, b4, b5⟩ := hc.2.2.1 x hx
      by_cases ex : x = k
      · subst ex
        rw [cK, cK, cK, cK, cO (24 + x) (by omega) (by omega), gs_n (b := 1) (by omega), gs_n (b := 2) (by omega)]
        rcases haj with ⟨rfl, rfl, hv⟩ | ⟨rfl, rfl, hv⟩ | ⟨rfl, rfl, hv⟩
        · exact ⟨b1, by rw [gs_ss]; rfl, by rw [gs_n (by decide)]; exact b3, by rw [gs_n (by decide)]; exact b4, b5⟩
        · exact ⟨b1, by rw [gs_n (by decide)]; exact b2, by rw [gs_ss]; rfl, by rw [gs_n (by decide)]; exact b4, b5⟩
        · exact ⟨b1, by rw [gs_n (by decide)]; exact b2, by rw [gs_n (by decide)]; exact b3, by rw [gs_ss]; rfl, b5⟩
      · have eg : ∀ b, gs g a k v b x = g b x := fun b => by
          by_cases e : b = a
          · subst e; rw [gs_sn ex]
          · rw [gs_n e]
        rw [cO (17 + x) (by omega) (by omega), cO (24 + x) (by omega) (by omega), eg 1, eg 3, eg 4, eg 5, gs_n (b := 2) (by omega)]
        exact ⟨b1, b2, b3, b4, b5⟩
    · rw [cO 12 (by decide) (by omega), cO 13 (by decide) (by omega), gs_n (b := 9) (by omega), gs_n (b := 10) (by omega)]
      exact hc.2.2.2 d hd
  have hch : ch c' (gs g a k v) 0 := by
    refine ch_0 (by rw [← hcc, xu_s]) (fun x hx p hp => ?_) (fun y hy => ?_) (by rw [e0]; exact hg.1)
    · rw [e0] at hx
      rw [cO 14 (by decide) (by omega), gs_n (b := 2) (by omega)]
      exact ch_row0 hk hx hp
    · rw [cO 15 (by decide) (by omega)]; exact h0 y hy
  refine ⟨⟨gs g a k v, hg', hm', ⟨hc', 0, hch⟩, hr.same (by rw [e0]) (fun b hb => cO b (by omega) (by omega)) (xu_a (by omega)) (fun b hb => xu_ne (by omega))⟩, hs.same (fun b h1 h2 => cO b (by omega) (by omega)) (fun b hb => xu_ne (by omega)), ?_, ?_, fun y hy => ?_⟩
  · rw [cO 0 (by decide) (by omega), xu_a (by omega)]; exact hf
  · rw [cO 0 (by decide) (by omega), xu_a (by omega)]; exact ht
  · rw [cO 15 (by decide) (by omega)]; exact h0 y hy
theorem st_look {μC μM : xM} (h : rl μC μM) (a1 : Int32) (a2 : Int32) : wp_X6_look 2000 a1 a2 μC (fun (r1 : Int32) (uC : xM) => wp_X7_look 2000 a1 a2 μM (fun (r2 : Int32) (uM : xM) => r1 = r2 ∧ rl uC uM)) := by
  obtain ⟨⟨g, hg, hm, ⟨hc, kn, hk⟩, hr⟩, hs, hf, ht, h0⟩ := id h
  have hN := hg.1
  unfold wp_X6_look wp_X7_look
  rcases in_or a1 (g 0 1) with ⟨k, hkN, rfl⟩ | hkN
  · refine u_isStatue_y hc.1 hkN hN (b1 ?_)
    rcases in_or a2 4 with ⟨v, hv, rfl⟩ | hv
    · refine w_bl_y hv (by omega) rfl (b1 ⟨pk_in k 7 (by omega), ?_⟩)
      rw [nI_clamp (by omega)]
      rintro _ rfl _ rfl
      refine u_forget0 (kn := kn) (by rw [xu_a (by omega)]; exact hk.1) hk.2.1 ?_
      refine t_noOne_y hm.1 hkN hN ⟨fun _ => ?_, fun q => absurd rfl q⟩
      refine w_in_y hv (by omega) rfl (b1 ⟨pk_in k 7 (by omega), ?_⟩)
      rintro _ rfl
      refine ⟨pk_in k 7 (by omega), ?_⟩
      rintro _ rfl
      exact ⟨by rw [(hc.2.2.1 k hkN).2.1, (hm.2.2.1 k hkN).2.1], rl_attr hg hm hc hk hr hs hf ht h0 hkN (Or.inl ⟨rfl, rfl, hv⟩)⟩
    · refine w_bl_n hv (by omega) rfl (b0 ?_)
      exact t_noOne_y hm.1 hkN hN ⟨fun _ => w_in_n hv (by omega) rfl (b0 ⟨rfl, h⟩), fun q => absurd rfl q⟩
  · refine u_isStatue_n hc.1 hkN hN (b0 ?_)
    exact t_noOne_n hm.1 hkN hN (b1' ⟨rfl, h⟩)
theorem st_over {μC μM : xM} (h : rl μC μM) (a1 : Int32) (a2 : Int32) : wp_X6_over 2000 a1 a2 μC (fun (r1 : Int32) (uC : xM) => wp_X7_over 2000 a1 a2 μM (fun (r2 : Int32) (uM : xM) => r1 = r2 ∧ rl uC uM)) := by
  obtain ⟨⟨g, hg, hm, ⟨hc, kn, hk⟩, hr⟩, hs, hf, ht, h0⟩ := id h
  have hN := hg.1
  unfold wp_X6_over wp_X7_over
  rcases in_or a1 (g 0 1) with ⟨k, hkN, rfl⟩ | hkN
  · refine u_isStatue_y hc.1 hkN hN (b1 ?_)
    rcases in_or a2 3 with ⟨v, hv, rfl⟩ | hv
    · refine w_bl_y hv (by omega) rfl (b1 ⟨pk_in k 7 (by omega), ?_⟩)
      rw [nI_clamp (by omega)]
      rintro _ rfl _ rfl
      refine u_forget0 (kn := kn) (by rw [xu_a (by omega)]; exact hk.1) hk.2.1 ?_
      refine t_noOne_y hm.1 hkN hN ⟨fun _ => ?_, fun q => absurd rfl q⟩
      refine w_in_y hv (by omega) rfl (b1 ⟨pk_in k 7 (by omega), ?_⟩)
      rintro _ rfl
      refine ⟨pk_in k 7 (by omega), ?_⟩
      rintro _ rfl
      exact ⟨by rw [(hc.2.2.1 k hkN).2.2.1, (hm.2.2.1 k hkN).2.2.1], rl_attr hg hm hc hk hr hs hf ht h0 hkN (Or.inr (Or.inl ⟨rfl, rfl, hv⟩))⟩
    · refine w_bl_n hv (by omega) rfl (b0 ?_)
      exact t_noOne_y hm.1 hkN hN ⟨fun _ => w_in_n hv (by omega) rfl (b0 ⟨rfl, h⟩), fun q => absurd rfl q⟩
  · refine u_isStatue_n hc.1 hkN hN (b0 ?_)
    exact t_noOne_n hm.1 hkN hN (b1' ⟨rfl, h⟩)
theorem st_trace {μC μM : xM} (h : rl μC μM)  : wp_X6_trace 2000  μC (fun (r1 : Int32) => wp_X7_trace 2000  μM (fun (r2 : Int32) => r1 = r2 ∧ rl μC μM)) := ⟨h.2.2.2.1, h⟩
theorem st_fault {μC μM : xM} (h : rl μC μM)  : wp_X6_fault 2000  μC (fun (r1 : Int32) => wp_X7_fault 2000  μM (fun (r2 : Int32) => r1 = r2 ∧ rl μC μM)) := ⟨h.2.2.1, h⟩
