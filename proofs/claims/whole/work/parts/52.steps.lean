theorem rl_o {c m c' m' : xM} (h : rl c m) (fc : ∀ b, 10 ≤ b → c' b = c b) (fm : ∀ b, b ≠ 0 → b < 19 → m' b = m b) (fm0 : ∀ j, j ≠ 0 → j ≠ 28 → m' 0 j = m 0 j) (hs : sh c' m') (hf : c' 0 4 = m' 0 0) (ht : c' 0 3 = m' 0 28) : rl c' m' := by
  obtain ⟨⟨g, hg, hm, hc, hr⟩, -, -, -, h0⟩ := h
  have hN := hg.1
  refine ⟨⟨g, hg, ?_, ?_, hr.same rfl (fun a ha => fc a (by omega)) (fm0 19 (by omega) (by omega)) (fun a ha => fm a (by omega) (by omega))⟩, hs, hf, ht, fun j hj => by rw [fc 15 (by omega)]; exact h0 j hj⟩
  · unfold mr
    rw [fm0 1 (by omega) (by omega), fm0 14 (by omega) (by omega), fm 1 (by omega) (by omega), fm 2 (by omega) (by omega), fm 3 (by omega) (by omega), fm 4 (by omega) (by omega), fm 5 (by omega) (by omega), fm 9 (by omega) (by omega), fm 10 (by omega) (by omega)]
    exact hm
  · obtain ⟨⟨h1, h2, h3, h4⟩, kn, k1, k2, k3, k4⟩ := hc
    refine ⟨⟨by rw [fc 10 (by omega)]; exact h1, by rw [fc 10 (by omega)]; exact h2, fun k hk => ?_, fun d hd => ?_⟩, kn, by rw [fc 10 (by omega)]; exact k1, k2, fun d hd => ?_, fun d hd => ?_⟩
    · rw [fc (17 + k) (by omega), fc (24 + k) (by omega)]; exact h3 k hk
    · rw [fc 12 (by omega), fc 13 (by omega)]; exact h4 d hd
    · intro k hk
      rw [fc 14 (by omega), fc 15 (by omega)]; exact k3 d hd k hk
    · rw [fc 16 (by omega)]; exact k4 d hd
/-- the FAULT is told alike -/
theorem rl_f {c m : xM} (h : rl c m) (v : Int32) : rl (xu c 0 4 v) (xu m 0 0 v) := by
  refine rl_o h (fun b hb => xu_ne (by omega)) (fun b h1 _ => xu_ne h1) (fun j h1 _ => xu_j h1) (h.2.1.same (fun a h1 _ => xu_ne (by omega)) (fun a ha => xu_ne (by omega))) (by rw [xu_s, xu_s]) ?_
  rw [xu_j (by omega), xu_j (by omega)]
  exact h.2.2.2.1
theorem xu_xu (m : xM) (a k : Nat) (v w : Int32) : xu (xu m a k v) a k w = xu m a k w := by
  funext b x
  simp only [xu_if]
  by_cases e : b = a ∧ x = k
  · simp only [if_pos e]
  · simp only [if_neg e]
theorem rl_t {c m c' m' : xM} (h : rl c m) (fc : ∀ b, b ≠ 0 → c' b = c b) (fm : ∀ b, b ≠ 0 → m' b = m b) (fc0 : ∀ j, j ≠ 3 → c' 0 j = c 0 j) (fm0 : ∀ j, j ≠ 28 → m' 0 j = m 0 j) (ht : c' 0 3 = m' 0 28) : rl c' m' := by
  refine rl_o h (fun b hb => fc b (by omega)) (fun b h1 _ => fm b h1) (fun j _ h2 => fm0 j h2) (h.2.1.same (fun a h1 _ => fc a (by omega)) (fun a ha => fm a (by omega))) ?_ ht
  rw [fc0 4 (by omega), fm0 0 (by omega)]
  exact h.2.2.1
theorem st_bow {μC μM : xM} (h : rl μC μM) (a1 : Int32) : wp_X6_bow 2000 a1 μC (fun (r1 : Int32) (uC : xM) => wp_X7_bow 2000 a1 μM (fun (r2 : Int32) (uM : xM) => r1 = r2 ∧ rl uC uM)) := by
  obtain ⟨⟨g, hg, hm, hc, hr⟩, hs, hf, ht, h0⟩ := id h
  have hN := hg.1
  unfold wp_X6_bow wp_X7_bow wp_X6_leave wp_X7_traced
  rcases in_or a1 (g 0 1) with ⟨k, hk, rfl⟩ | hk
  · have hb := (hg.2.2.1 k hk).1
    have c1 := (hc.1.2.2.1 k hk).1
    have m1 := (hm.2.2.1 k hk).1
    refine u_isStatue_y hc.1.1 hk hN (b1 ⟨pk_in k 7 (by omega), ?_⟩)
    rw [nI_clamp (by omega), c1]
    have fin : ∀ v : Int32, rl (xu μC 0 3 ((31 : Int32) * μC 0 3 + v)) (xu μM 0 28 ((31 : Int32) * μM 0 28 + v)) := fun v =>
      rl_t h (fun b hb => xu_ne hb) (fun b hb => xu_ne hb) (fun j hj => xu_j hj) (fun j hj => xu_j hj) (by rw [xu_s, xu_s, ht])
    refine pk_ne (g 1 k) 2 (fun e => ?_) (fun e => ?_)
    · rintro _ rfl
      refine t_noOne_y hm.1 hk hN ⟨fun _ => ⟨pk_in k 7 (by omega), ?_⟩, fun q => absurd rfl q⟩
      rw [m1]
      refine xjn_i (fun v => v = (4 : Int32)) ?_ (fun J hJ => pk_ne (g 1 k) 2 (fun _ => hJ _ rfl) (fun q => absurd q e))
      rintro _ rfl _ rfl
      rw [xu_a (by omega), m1]
      exact ⟨pk_in k 7 (by omega), pk_ne (g 1 k) 2 (fun _ => ⟨rfl, fin 4⟩) (fun q => absurd q e)⟩
    · rintro _ rfl
      refine t_noOne_y hm.1 hk hN ⟨fun _ => ⟨pk_in k 7 (by omega), ?_⟩, fun q => absurd rfl q⟩
      rw [m1]
      refine xjn_i (fun v => v = (5 : Int32)) ?_ (fun J hJ => pk_ne (g 1 k) 2 (fun q => absurd e q) (fun _ => hJ _ rfl))
      rintro _ rfl _ rfl
      rw [xu_a (by omega), m1]
      exact ⟨pk_in k 7 (by omega), pk_ne (g 1 k) 2 (fun q => absurd e q) (fun _ => ⟨rfl, fin 5⟩)⟩
  · refine u_isStatue_n hc.1.1 hk hN (b0 ?_)
    exact t_noOne_n hm.1 hk hN (b1' ⟨rfl, h⟩)
theorem st_tell {μC μM : xM} (h : rl μC μM) (a1 : Int32) : wp_X6_tell 2000 a1 μC (fun (r1 : Int32) (uC : xM) => wp_X7_tell 2000 a1 μM (fun (r2 : Int32) (uM : xM) => r1 = r2 ∧ rl uC uM)) := by
  obtain ⟨⟨g, hg, hm, hc, hr⟩, hs, hf, ht, h0⟩ := id h
  have hN := hg.1
  unfold wp_X6_tell wp_X7_tell
  rcases in_or a1 (g 0 1) with ⟨k, hk, rfl⟩ | hk
  · have hb := (hg.2.2.1 k hk).1
    have c1 := (hc.1.2.2.1 k hk).1
    have cF := (hc.1.2.2.1 k hk).2.2.2.2 0 (by decide)
    have m1 := (hm.2.2.1 k hk).1
    have mF := (hm.2.2.1 k hk).2.2.2.2 0 (by decide)
    simp only [Nat.add_zero] at cF mF
    have i0 : (0 : Int32).toNatClampNeg = 0 := rfl
    refine u_isStatue_y hc.1.1 hk hN (b1 ⟨pk_in k 7 (by omega), ?_⟩)
    unfold wp_X6_martyrTells wp_X6_bishopTells wp_X6_saintTells wp_X6_leave wp_X7_traced
    rw [nI_clamp (by omega), c1, i0]
    refine pk_eq (g 1 k) 1 (fun e => ?_) (fun e => pk_eq (g 1 k) 2 (fun e2 => ?_) (fun e2 => ?_))
    · rintro _ rfl _ rfl
      refine ⟨pk_in 0 3 (by omega), ?_⟩
      refine t_noOne_y hm.1 hk hN ⟨fun _ => ⟨pk_in k 7 (by omega), ?_⟩, fun q => absurd rfl q⟩
      rw [m1]
      rintro _ rfl
      rw [e]
      refine xjn_i (fun x => μM = x) ?_ (fun J hJ => ⟨fun _ => hJ _ rfl, fun q => absurd q (by decide)⟩)
      rintro _ rfl
      refine xjn_i (fun x => x = xu μM 0 28 ((31 : Int32) * μM 0 28 + 2)) ?_ (fun J hJ => ⟨fun q => absurd q (by decide), fun _ => ?_⟩)
      · rintro _ rfl _ rfl
        refine xjn_i (fun x => x = xu (xu μM 0 28 ((31 : Int32) * μM 0 28 + 2)) 0 28 ((31 : Int32) * (xu μM 0 28 ((31 : Int32) * μM 0 28 + 2) 0 28) + 1)) ?_ (fun J hJ => ⟨fun _ => hJ _ rfl, fun q => absurd q (by decide)⟩)
        rintro _ rfl
        rw [mul3, nI_clamp (by omega)]
        refine ⟨pk_in (3 * k) 21 (by omega), ?_⟩
        rintro _ rfl
        refine ⟨fun _ => ⟨fun q => absurd rfl q, fun _ => ⟨?_, ?_⟩⟩, fun q => absurd q (by decide)⟩
        · rw [xu_a (by omega), xu_a (by omega), xu_a (by omega), xu_a (by omega), cF, mF]
        · rw [xu_xu, xu_xu, xu_s, xu_s, ht]
          exact rl_t h (fun b hb => xu_ne hb) (fun b hb => xu_ne hb) (fun j hj => xu_j hj) (fun j hj => xu_j hj) (by rw [xu_s, xu_s])
      · rintro _ rfl
        exact hJ _ rfl
    · rintro _ rfl _ rfl _ rfl
      refine ⟨pk_in 0 3 (by omega), ?_⟩
      rintro _ rfl
      refine ⟨pk_in 0 3 (by omega), ?_⟩
      refine t_noOne_y hm.1 hk hN ⟨fun _ => ⟨pk_in k 7 (by omega), ?_⟩, fun q => absurd rfl q⟩
      rw [m1]
      rintro _ rfl
      rw [e2]
      refine xjn_i (fun x => x = xu μM 0 28 ((31 : Int32) * μM 0 28 + 3)) ?_ (fun J hJ => ⟨fun q => absurd rfl q, fun _ => ?_⟩)
      · rintro _ rfl
        refine xjn_i (fun x => x = xu (xu μM 0 28 ((31 : Int32) * μM 0 28 + 3)) 0 28 ((31 : Int32) * (xu μM 0 28 ((31 : Int32) * μM 0 28 + 3) 0 28) + 2)) ?_ (fun J hJ => ⟨fun q => absurd q (by decide), fun _ => ?_⟩)
        · rintro _ rfl _ rfl
          refine xjn_i (fun x => ∃ t, x = xu μM 0 28 t ∧ t = (31 : Int32) * ((31 : Int32) * ((31 : Int32) * ((31 : Int32) * μM 0 28 + 3) + 2) + 1) + 1) ?_ (fun J hJ => ⟨fun q => absurd rfl q, fun _ => ?_⟩)
          · rintro _ ⟨t, rfl, et⟩
            rw [mul3, nI_clamp (by omega)]
            refine ⟨pk_in (3 * k) 21 (by omega), ?_⟩
            rintro _ rfl
            refine ⟨fun _ => ⟨fun _ => ⟨?_, ?_⟩, fun q => absurd q (by decide)⟩, fun q => absurd q (by decide)⟩
            · rw [xu_a (by omega), xu_a (by omega), xu_a (by omega), xu_a (by omega), xu_a (by omega), xu_a (by omega), xu_a (by omega), xu_a (by omega), cF, mF, mul2]
              show nI _ + nI 100 + nI _ = nI _ + nI 100
              rw [nI_add, nI_add, nI_add]
              congr 1
              omega
            · rw [xu_xu, xu_xu, xu_xu, xu_s, xu_s, xu_s, ht]
              exact rl_t h (fun b hb => xu_ne hb) (fun b hb => xu_ne hb) (fun j hj => xu_j hj) (fun j hj => xu_j hj) (by rw [xu_s, xu_s, et])
          · rintro _ rfl
            refine hJ _ ⟨_, ?_, rfl⟩
            rw [xu_xu, xu_xu, xu_xu, xu_s, xu_s, xu_s]
        · rintro _ rfl
          exact hJ _ rfl
      · rintro _ rfl
        exact hJ _ rfl
    · rintro _ rfl
      refine ⟨pk_in 0 3 (by omega), ?_⟩
      refine t_noOne_y hm.1 hk hN ⟨fun _ => ⟨pk_in k 7 (by omega), ?_⟩, fun q => absurd rfl q⟩
      rw [m1]
      rintro _ rfl
      rw [show g 1 k = 0 by omega]
      refine xjn_i (fun x => μM = x) ?_ (fun J hJ => ⟨fun _ => hJ _ rfl, fun q => absurd q (by decide)⟩)
      rintro _ rfl
      refine xjn_i (fun x => μM = x) ?_ (fun J hJ => ⟨fun _ => hJ _ rfl, fun q => absurd (by decide) q⟩)
      rintro _ rfl _ rfl
      refine xjn_i (fun x => x = xu μM 0 28 ((31 : Int32) * μM 0 28 + 1)) ?_ (fun J hJ => ⟨fun _ => hJ _ rfl, fun q => absurd q (by decide)⟩)
      rintro _ rfl
      rw [mul3, nI_clamp (by omega)]
      refine ⟨pk_in (3 * k) 21 (by omega), ?_⟩
      rintro _ rfl
      refine ⟨fun q => absurd rfl q, fun _ => ⟨?_, ?_⟩⟩
      · rw [xu_a (by omega), xu_a (by omega), cF, mF]
      · exact rl_t h (fun b hb => xu_ne hb) (fun b hb => xu_ne hb) (fun j hj => xu_j hj) (fun j hj => xu_j hj) (by rw [xu_s, xu_s, ht])
  · refine u_isStatue_n hc.1.1 hk hN (b0 ?_)
    exact t_noOne_n hm.1 hk hN (b1' ⟨rfl, h⟩)
theorem st_as {μC μM : xM} (h : rl μC μM) (a1 : Int32) (a2 : Int32) : wp_X6_as 2000 a1 a2 μC (fun (r1 : Int32) (uC : xM) => wp_X7_as 2000 a1 a2 μM (fun (r2 : Int32) (uM : xM) => r1 = r2 ∧ rl uC uM)) := by
  obtain ⟨⟨g, hg, hm, hc, hr⟩, hs, hf, ht, h0⟩ := id h
  have hN := hg.1
  unfold wp_X6_as wp_X7_as wp_X6_faulty wp_X7_failed wp_X7_refused
  rintro _ rfl
  have c6 : xu μC 0 4 0 10 6 = nI (g 0 1) := by rw [xu_a (by omega)]; exact hc.1.1
  rcases in_or a1 (g 0 1) with ⟨k, hk, rfl⟩ | hk
  · have hb := (hg.2.2.1 k hk).1
    have c1 := (hc.1.2.2.1 k hk).1
    have m1 := (hm.2.2.1 k hk).1
    refine u_isStatue_y c6 hk hN (b1 ?_)
    rcases in_or a2 3 with ⟨v, hv, rfl⟩ | hv
    · refine w_bl_y hv (by omega) rfl (b1 ⟨pk_in k 7 (by omega), ?_⟩)
      rw [nI_clamp (by omega), xu_a (by omega), c1]
      refine pk_le v (g 1 k) (fun e => ?_) (fun e => ?_)
      · refine t_noOne_y hm.1 hk hN ⟨fun _ => w_in_y hv (by omega) rfl (b1 ⟨pk_in k 7 (by omega), ?_⟩), fun q => absurd rfl q⟩
        rw [m1]
        refine pk_lt (g 1 k) v (fun q => absurd q (by omega)) (fun _ => ?_)
        rintro _ rfl
        exact ⟨rfl, rl_f h 0⟩
      · rintro _ rfl
        refine t_noOne_y hm.1 hk hN ⟨fun _ => w_in_y hv (by omega) rfl (b1 ⟨pk_in k 7 (by omega), ?_⟩), fun q => absurd rfl q⟩
        rw [m1]
        refine pk_lt (g 1 k) v (fun _ => ?_) (fun q => absurd q (by omega))
        rintro _ rfl
        rw [xu_xu]
        exact ⟨rfl, rl_f h 2⟩
    · refine w_bl_n hv (by omega) rfl (b0 ?_)
      refine t_noOne_y hm.1 hk hN ⟨fun _ => w_in_n hv (by omega) rfl (b0 ?_), fun q => absurd rfl q⟩
      rintro _ rfl
      exact ⟨rfl, rl_f h 0⟩
  · refine u_isStatue_n c6 hk hN (b0 ?_)
    refine t_noOne_n hm.1 hk hN (b1' ?_)
    rintro _ rfl
    exact ⟨rfl, rl_f h 0⟩
