def sws (f : Nat → Nat) (v : Int32) : Nat → Int32
  | 0 => 0
  | i + 1 => if nI (f i) = v then sws f v i ||| ((1 : Int32) <<< (nI i &&& 31)) else sws f v i
theorem or_0 (x : Int32) : x ||| (0 : Int32) = x := by simp
theorem u_whose {n d : Nat} {v : Int32} {c : xM} {g : gN} {K : Int32 → xM → Prop} (hc : cs c g) (hg : okG g) (hd : d ≤ 60) (hn : 100 ≤ n) (hK : ∀ c', frW c c' → cs c' g → K (sws (sat g d).2.1 v (g 0 1)) c') : wp_X6_whose n v (nI d) c K := by
  have hN := hg.1
  unfold wp_X6_whose
  refine u_isDawn_y hd (b1 ?_)
  refine lpg (fun i (x : xM) => (nI i, sws (sat g d).2.1 v i, x)) (g 0 1) (fun i x => frW c x ∧ cs x g) ?_ (i := 0) (t := c) ⟨frW.rf c, hc⟩ (by omega) (by omega)
  intro i x again hi ⟨p1, p2⟩ hag
  dsimp only
  rw [p2.1.1]
  refine pk_le (g 0 1) i (fun h => ?_) (fun h => ?_)
  · rw [show g 0 1 = i by omega] at hK
    exact hK x p1 p2
  · refine u_inPuddle p2 hg h hd hn (fun y f q => ?_)
    have hag := hag y h ⟨p1.tr f, q⟩
    unfold sws at hag
    refine ⟨fun e => ?_, fun e => ?_⟩
    · rintro _ rfl
      rw [if_neg e] at hag
      rw [nI_1]; exact hag
    · rintro _ rfl _ rfl
      rw [if_pos e] at hag
      rw [nI_1]; exact hag
theorem st_whose {μC μM : xM} (h : rl μC μM) (a1 : Int32) (a2 : Int32) : wp_X6_whose 2000 a1 a2 μC (fun (r1 : Int32) (uC : xM) => wp_X7_whose 2000 a1 a2 μM (fun (r2 : Int32) (uM : xM) => r1 = r2 ∧ rl uC uM)) := by
  obtain ⟨⟨g, hg, hm, hc, hr⟩, hs, hf, ht, h0⟩ := id h
  have hN := hg.1
  rcases in_or a2 61 with ⟨d, hd, rfl⟩ | hd
  · refine u_whose hc hg (by omega) (by omega) (fun c' fc s' => ?_)
    unfold wp_X7_whose
    refine t_isDawn_y (by omega) (b1 (t_goTo hm hg (by omega) (by omega) (fun m' fm sm => ?_)))
    refine lpg (fun i (_ : Unit) => (nI i, sws (sat g d).2.1 a1 i)) (g 0 1) (fun _ _ => True) ?_ (i := 0) (t := ()) trivial (by omega) (by omega)
    intro i _ again hi _ hag
    dsimp only
    rw [(hm.fr fm).1]
    refine pk_le (g 0 1) i (fun h => ?_) (fun h => ?_)
    · rw [show g 0 1 = i by omega]
      exact ⟨rfl, rl_keep hg hm hr hs hf ht h0 fc s' fm⟩
    · have hag := hag () h trivial
      unfold sws at hag
      rw [nI_clamp (by omega), (sm i h).2.1]
      refine ⟨pk_in i 7 (by omega), fun e => ?_, fun e => ?_⟩
      · rintro _ rfl _ rfl
        rw [if_neg e] at hag
        rw [nI_1, or_0]; exact hag
      · rintro _ rfl _ rfl
        rw [if_pos e] at hag
        rw [nI_1]; exact hag
  · unfold wp_X6_whose wp_X7_whose
    exact u_isDawn_n hd (b0 (t_isDawn_n hd (b0 ⟨rfl, h⟩)))
def smF (f : Nat → Nat) : Nat → Nat
  | 0 => 0
  | k + 1 => smF f k + f k
theorem smF_le {g : gN} (hg : okG g) (d : Nat) : ∀ k, k ≤ g 0 1 → smF (sat g d).2.1 k ≤ 270 * k
  | 0, _ => Nat.le_refl _
  | k + 1, hk => by
    have h1 := smF_le hg d k (by omega)
    have h2 := (okS_b hg (sat_ok g d) (show k < g 0 1 by omega)).2.1
    show smF _ k + _ ≤ _
    omega
theorem st_cast {μC μM : xM} (h : rl μC μM) (a1 : Int32) (a2 : Int32) : wp_X6_cast 2000 a1 a2 μC (fun (r1 : Int32) (uC : xM) => wp_X7_cast 2000 a1 a2 μM (fun (r2 : Int32) (uM : xM) => r1 = r2 ∧ rl uC uM)) := by
  obtain ⟨⟨g, hg, hm, hc, hr⟩, hs, hf, ht, h0⟩ := id h
  have hN := hg.1
  unfold wp_X6_cast wp_X7_cast
  rcases in_or a1 61 with ⟨d, hd, rfl⟩ | hd
  · refine u_isDawn_y (by omega) (b1' ?_)
    have hout : (a2.toInt < 1 ∨ 999 < a2.toInt) → wp_X7_isDawn 2000 (nI d) μM (fun r_1 : Int32 => ((r_1 = 0 → ((-2) : Int32) = ((-2) : Int32) ∧ rl μC μM) ∧ (¬ r_1 = 0 → wp_X7_in 2000 (a2.toInt64) (1 : Int64) (999 : Int64) μM (fun r_13 : Int32 => ((¬ r_13 = 0 → wp_X7_goTo 2000 (nI d) μM (fun m_24 : xM => xlp (fun (again32 : (Int32 × Int32) → Prop) => fun (s_ : Int32 × Int32) => match s_ with | (x4_32, x3_32) => (((m_24 0 1) ≤ x4_32 → (¬ (10 : Int32) = 0 ∧ (¬ a2 = 0 ∧ (((-2) : Int32) = ((((9 : Int32) * x3_32) / (10 : Int32)) / a2) ∧ rl μC m_24)))) ∧ (¬ (m_24 0 1) ≤ x4_32 → (vp_in x4_32 7 ∧ (∀ x3_50 : Int32, x3_50 = x3_32 + (m_24 12 x4_32.toNatClampNeg) → (∀ x4_51 : Int32, x4_51 = x4_32 + 1 → again32 (x4_51, x3_50))))))) 2000 ((0 : Int32), (0 : Int32)))) ∧ (r_13 = 0 → ((-2) : Int32) = ((-2) : Int32) ∧ rl μC μM)))))) :=
      fun q => t_isDawn_y (by omega) (b1' (w_inL_n rfl rfl q (b0 ⟨rfl, h⟩)))
    have i1 : (1 : Int32).toInt = 1 := rfl
    have i999 : (999 : Int32).toInt = 999 := rfl
    by_cases c1 : a2 < (1 : Int32)
    · refine ⟨fun _ => hout (Or.inl ?_), fun q => absurd c1 q⟩
      rw [Int32.lt_iff_toInt_lt, i1] at c1; exact c1
    · refine ⟨fun q => absurd q c1, fun _ => ?_⟩
      rw [Int32.lt_iff_toInt_lt, i1] at c1
      by_cases c2 : a2 ≤ (999 : Int32)
      · refine ⟨fun _ => ?_, fun q => absurd c2 q⟩
        rw [Int32.le_iff_toInt_le, i999] at c2
        have hz : ¬ a2 < 0 := by rw [Int32.lt_iff_toInt_lt]; have : (0 : Int32).toInt = 0 := rfl; omega
        obtain ⟨v, hv, rfl⟩ := nI_of hz
        rw [nI_toInt hv] at c1 c2
        have hv0 : ¬ nI v = 0 := fun q => by have := (nI_eq (b := 0) hv (by omega)).mp q; omega
        refine lpg (fun i (x : xM) => (nI i, nI (smF (sat g d).2.1 i), x)) (g 0 1) (fun i x => frW μC x ∧ cs x g) ?_ (i := 0) (t := μC) ⟨frW.rf μC, hc⟩ (by omega) (by omega)
        intro i x again hi ⟨p1, p2⟩ hag
        dsimp only
        rw [p2.1.1]
        refine pk_le (g 0 1) i (fun hh => ?_) (fun hh => ?_)
        · refine ⟨by decide, hv0, ?_⟩
          refine t_isDawn_y (by omega) (b1' (w_inL_y (lo := 1) (hi := 999) rfl rfl (by omega) (by omega) hv (b1 (t_goTo hm hg (by omega) (by omega) (fun m' fm sm => ?_)))))
          refine lpg (fun j (_ : Unit) => (nI j, nI (smF (sat g d).2.1 j))) (g 0 1) (fun _ _ => True) ?_ (i := 0) (t := ()) trivial (by omega) (by omega)
          intro j _ ag hj _ hag2
          dsimp only
          rw [(hm.fr fm).1]
          refine pk_le (g 0 1) j (fun h2 => ⟨by decide, hv0, ?_⟩) (fun h2 => ⟨pk_in j 7 (by omega), ?_⟩)
          · rw [show j = i by omega, mul9r, mul9, Nat.mul_comm]
            exact ⟨rfl, rl_keep hg hm hr hs hf ht h0 p1 p2 fm⟩
          · rw [nI_clamp (by omega), (sm j h2).2.1]
            rintro _ rfl _ rfl
            rw [nI_1, nI_add]
            exact hag2 () h2 trivial
        · refine u_inPuddle p2 hg hh (by omega) (by omega) (fun y f q => ?_)
          rintro _ rfl _ rfl
          rw [nI_1, nI_add]
          exact hag y hh ⟨p1.tr f, q⟩
      · refine ⟨fun q => absurd q c2, fun _ => hout (Or.inr ?_)⟩
        rw [Int32.le_iff_toInt_le, i999] at c2; omega
  · exact u_isDawn_n hd (b0' (t_isDawn_n hd (b0' ⟨rfl, h⟩)))
theorem cs_same {c c' : xM} {g : gN} (hg : okG g) (h : ∀ b, b < 31 → c' b = c b) (hc : cs c g) : cs c' g := by
  have hN := hg.1
  obtain ⟨⟨h1, h2, h3, h4⟩, kn, k1, k2, k3, k4⟩ := hc
  refine ⟨⟨by rw [h 10 (by omega)]; exact h1, by rw [h 10 (by omega)]; exact h2, fun k hk => ?_, fun d hd => ?_⟩, kn, by rw [h 10 (by omega)]; exact k1, k2, fun d hd => ?_, fun d hd => ?_⟩
  · rw [h (17 + k) (by omega), h (24 + k) (by omega)]; exact h3 k hk
  · rw [h 12 (by omega), h 13 (by omega)]; exact h4 d hd
  · intro k hk
    rw [h 14 (by omega), h 15 (by omega)]; exact k3 d hd k hk
  · rw [h 16 (by omega)]; exact k4 d hd
theorem rl_rd {c m c' m' : xM} {g : gN} (hg : okG g) (hm : mr m g) (hc : cs c g) (hs : sh c m) (hf : c 0 4 = m 0 0) (ht : c 0 3 = m 0 28) (h0 : ∀ j, j < 7 → c 15 j = 0) (fc : ∀ b, b < 31 → c' b = c b) (fm : ∀ b, b ≠ 0 → b ≠ 15 → b ≠ 16 → b ≠ 17 → b ≠ 18 → m' b = m b) (fm0 : ∀ j, j ≠ 19 → m' 0 j = m 0 j) (hr : rd c' m' g) : rl c' m' := by
  refine ⟨⟨g, hg, ?_, cs_same hg fc hc, hr⟩, hs.same (fun a h1 h2 => fc a (by omega)) (fun a ha => fm a (by omega) (by omega) (by omega) (by omega) (by omega)), by rw [fc 0 (by omega), fm0 0 (by omega)]; exact hf, by rw [fc 0 (by omega), fm0 28 (by omega)]; exact ht, fun j hj => by rw [fc 15 (by omega)]; exact h0 j hj⟩
  unfold mr
  rw [fm0 1 (by omega), fm0 14 (by omega), fm 1 (by omega) (by omega) (by omega) (by omega) (by omega), fm 2 (by omega) (by omega) (by omega) (by omega) (by omega), fm 3 (by omega) (by omega) (by omega) (by omega) (by omega), fm 4 (by omega) (by omega) (by omega) (by omega) (by omega), fm 5 (by omega) (by omega) (by omega) (by omega) (by omega), fm 9 (by omega) (by omega) (by omega) (by omega) (by omega), fm 10 (by omega) (by omega) (by omega) (by omega) (by omega)]
  exact hm
theorem st_back {μC μM : xM} (h : rl μC μM) (a1 : Int32) : wp_X6_back 2000 a1 μC (fun (r1 : Int32) (uC : xM) => wp_X7_back 2000 a1 μM (fun (r2 : Int32) (uM : xM) => r1 = r2 ∧ rl uC uM)) := by
  obtain ⟨⟨g, hg, hm, hc, hr⟩, hs, hf, ht, h0⟩ := id h
  obtain ⟨q, hq, c1, m1, hx⟩ := id hr
  unfold wp_X6_back wp_X7_back wp_X1_keep
  rw [c1, m1, add1]
  have eq : (nI q).toInt64.toInt = ((q + 1 : Nat) : Int) - 1 := by rw [toI64, nI_toInt (by omega)]; omega
  rcases in_or a1 (q + 1) with ⟨k, hk, rfl⟩ | hk
  · refine w_bl_y hk (by omega) rfl (b1 ?_)
    rintro _ rfl
    refine w_in_y hk (by omega) eq (b1 ?_)
    rintro _ rfl
    rw [xu_s, xu_s, pk_sub (by omega)]
    refine ⟨rfl, rl_rd hg hm hc hs hf ht h0 (fun b hb => xu_ne (by omega)) (fun b h1 _ _ _ _ => xu_ne h1) (fun j hj => xu_j hj) ⟨q - k, by omega, xu_s _ _ _ _, xu_s _ _ _ _, fun x hxq => ?_⟩⟩
    rw [xu_ne (a := 32) (by omega), xu_ne (a := 33) (by omega), xu_ne (a := 34) (by omega), xu_ne (a := 35) (by omega), xu_ne (a := 15) (by omega), xu_ne (a := 16) (by omega), xu_ne (a := 17) (by omega), xu_ne (a := 18) (by omega)]
    exact hx x (by omega)
  · exact w_bl_n hk (by omega) rfl (b0 (w_in_n hk (by omega) eq (b0 ⟨rfl, h⟩)))
theorem st_reading {μC μM : xM} (h : rl μC μM) (a1 : Int32) (a2 : Int32) (a3 : Int32) (a4 : Int32) : wp_X6_reading 2000 a1 a2 a3 a4 μC (fun (r1 : Int32) (uC : xM) => wp_X7_reading 2000 a1 a2 a3 a4 μM (fun (r2 : Int32) (uM : xM) => r1 = r2 ∧ rl uC uM)) := by
  obtain ⟨⟨g, hg, hm, hc, hr⟩, hs, hf, ht, h0⟩ := id h
  have hN := hg.1
  obtain ⟨q, hq, c1, m1, hx⟩ := id hr
  unfold wp_X6_reading wp_X7_reading wp_X1_note
  rcases in_or a1 (g 0 1) with ⟨k, hk, rfl⟩ | hk
  · refine u_isStatue_y hc.1.1 hk hN (b1' ?_)
    rcases in_or a2 3 with ⟨p, hp, rfl⟩ | hp
    · refine w_bl_y hp (by omega) rfl (b1 ?_)
      rcases in_or a3 61 with ⟨d, hd, rfl⟩ | hd
      · refine u_isDawn_y (by omega) (b1' ?_)
        rcases in_or a4 100 with ⟨v, hv, rfl⟩ | hv
        · refine w_bl_y hv (by omega) rfl (b1 ?_)
          rw [c1]
          refine pk_lt q 8 (fun e => ?_) (fun e => ?_)
          · rintro _ rfl
            rw [nI_clamp (by omega)]
            refine ⟨pk_in q 8 (by omega), ?_⟩
            rintro _ rfl
            refine ⟨pk_in q 8 (by omega), ?_⟩
            rintro _ rfl
            refine ⟨pk_in q 8 (by omega), ?_⟩
            rintro _ rfl
            refine ⟨pk_in q 8 (by omega), ?_⟩
            rintro _ rfl _ rfl
            refine t_noOne_y hm.1 hk hN ⟨fun z => absurd rfl z, fun _ => t_noPart_y hp ⟨fun _ => t_isDawn_y (by omega) (b1' (w_in_y hv (by omega) rfl (b1 ?_))), fun z => absurd rfl z⟩⟩
            rw [m1]
            refine pk_ne q 8 (fun _ => ?_) (fun z => absurd z (by omega))
            rw [nI_clamp (by omega)]
            refine ⟨pk_in q 8 (by omega), ?_⟩
            rintro _ rfl
            rw [xu_a (by omega), m1, nI_clamp (by omega)]
            refine ⟨pk_in q 8 (by omega), ?_⟩
            rintro _ rfl
            rw [xu_a (by omega), xu_a (by omega), m1, nI_clamp (by omega)]
            refine ⟨pk_in q 8 (by omega), ?_⟩
            rintro _ rfl
            rw [xu_a (by omega), xu_a (by omega), xu_a (by omega), m1, nI_clamp (by omega)]
            refine ⟨pk_in q 8 (by omega), ?_⟩
            rintro _ rfl _ rfl
            rw [xu_s, xu_a (by omega), xu_a (by omega), xu_a (by omega), xu_a (by omega), m1, add1]
            refine ⟨(pk_sub (a := q + 1) (b := 1) (by omega)).symm, rl_rd hg hm hc hs hf ht h0 (fun b hb => ?_) (fun b h1 h2 h3 h4 h5 => ?_) (fun j hj => ?_) ⟨q + 1, by omega, xu_s _ _ _ _, xu_s _ _ _ _, fun x hxq => ?_⟩⟩
            · rw [xu_ne (by omega), xu_ne (by omega), xu_ne (by omega), xu_ne (by omega), xu_ne (by omega)]
            · rw [xu_ne h1, xu_ne h5, xu_ne h4, xu_ne h3, xu_ne h2]
            · rw [xu_j hj, xu_a (by omega), xu_a (by omega), xu_a (by omega), xu_a (by omega)]
            · by_cases ex : x = q
              · subst ex
                refine ⟨k, p, d, v, hk, hp, by omega, hv, ?_⟩
                simp [xu, upd]
              · obtain ⟨k', p', d', v', h1, h2, h3, h4, h5⟩ := hx x (by omega)
                refine ⟨k', p', d', v', h1, h2, h3, h4, ?_⟩
                simp [xu, upd, ex]
                exact h5
          · exact t_noOne_y hm.1 hk hN ⟨fun z => absurd rfl z, fun _ => t_noPart_y hp ⟨fun _ => t_isDawn_y (by omega) (b1' (w_in_y hv (by omega) rfl (b1 (by rw [m1]; exact pk_ne q 8 (fun z => absurd (show q = 8 by omega) z) (fun _ => ⟨rfl, h⟩))))), fun z => absurd rfl z⟩⟩
        · refine w_bl_n hv (by omega) rfl (b0 ?_)
          exact t_noOne_y hm.1 hk hN ⟨fun z => absurd rfl z, fun _ => t_noPart_y hp ⟨fun _ => t_isDawn_y (by omega) (b1' (w_in_n hv (by omega) rfl (b0 ⟨rfl, h⟩))), fun z => absurd rfl z⟩⟩
      · refine u_isDawn_n hd (b0' ?_)
        exact t_noOne_y hm.1 hk hN ⟨fun z => absurd rfl z, fun _ => t_noPart_y hp ⟨fun _ => t_isDawn_n hd (b0' ⟨rfl, h⟩), fun z => absurd rfl z⟩⟩
    · refine w_bl_n hp (by omega) rfl (b0 ?_)
      exact t_noOne_y hm.1 hk hN ⟨fun z => absurd rfl z, fun _ => t_noPart_n hp (b1' ⟨rfl, h⟩)⟩
  · refine u_isStatue_n hc.1.1 hk hN (b0' ?_)
    exact t_noOne_n hm.1 hk hN (b1 ⟨rfl, h⟩)
