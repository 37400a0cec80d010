theorem st_takenFor {μC μM : xM} (h : rl μC μM) (a1 : Int32) (a2 : Int32) (a3 : Int32) (a4 : Int32) (a5 : Int32) : wp_X6_takenFor 2000 a1 a2 a3 a4 a5 μC (fun (r1 : Int32) (uC : xM) => wp_X7_takenFor 2000 a1 a2 a3 a4 a5 μM (fun (r2 : Int32) (uM : xM) => r1 = r2 ∧ rl uC uM)) := by
  obtain ⟨⟨g, hg, hm, hc, hr⟩, hs, hf, ht, h0⟩ := id h
  have hN := hg.1
  have nn : ∀ z : Int32, z < 0 → ¬ 0 ≤ z := fun z q => by rw [Int32.not_le]; exact q
  unfold wp_X6_takenFor wp_X7_takenFor wp_X6_faulty
  rintro _ rfl
  rcases in_or a2 4 with ⟨k, hk, rfl⟩ | hk
  · refine u_isSheet_y hk (b1 ?_)
    have bad : (nin a1 61 ∨ nin a5 2 ∨ nin a3 3) → wp_X7_takenFor 2000 a1 (nI k) a3 a4 a5 μM (fun (r2 : Int32) (uM : xM) => -2 = r2 ∧ rl (xu μC 0 4 0) uM) := by
      intro hbad
      unfold wp_X7_takenFor
      have go : ∀ fl : Int32, (fl = 0 ∨ nin a3 3) → ∀ K : Int32 → xM → Prop, K (-2) (xu μM 0 0 0) → wp_X7_barred 2000 (nI k) a3 a4 (3 : Int64) fl μM K := by
        intro fl e K hK
        rcases in_or a3 3 with ⟨l, hl, rfl⟩ | hl
        · rcases e with rfl | e
          · exact t_bar_f hk hl hK
          · exact absurd rfl (e l hl)
        · exact t_bar_l hk hl hK
      refine t_flag (fun d w hd hw e1 e2 => ?_) (fun q => ?_)
      · have e3 : nin a3 3 := by
          rcases hbad with q | q | q
          · exact absurd e1 (q d (by omega))
          · exact absurd e2 (q w hw)
          · exact q
        exact go _ (Or.inr e3) _ ⟨fun q => absurd q (by decide), fun _ => ⟨rfl, rl_f h 0⟩⟩
      · exact go _ (Or.inl rfl) _ ⟨fun q => absurd q (by decide), fun _ => ⟨rfl, rl_f h 0⟩⟩
    rcases in_or a1 61 with ⟨d, hd, rfl⟩ | hd
    · refine u_isDawn_y (by omega) (b1' ?_)
      rcases in_or a5 2 with ⟨w, hw, rfl⟩ | hw
      · refine w_bl_y hw (by omega) rfl (b1' ?_)
        rcases in_or a3 3 with ⟨l, hl, rfl⟩ | hl
        · refine u_isLane_y hl (b1 ⟨pk_in k 4 hk, ?_⟩)
          clear bad
          rw [nI_clamp (n := k) (by omega)]
          unfold wp_X2_faultAs
          rw [xu_a (b := 2 + k) (by omega), xu_a (b := 2 + k) (by omega)]
          have flg : ∀ J : Int32 → Prop, J 1 → wp_X7_isDawn 2000 (nI d) μM (fun r_9 : Int32 => xjn J (fun J31 : Int32 → Prop => xjn (fun (_ : Unit) => J31 (0 : Int32)) (fun J30 : Unit → Prop => ((r_9 = 0 → J30 ()) ∧ (¬ r_9 = 0 → wp_X7_in 2000 ((nI w).toInt64) (0 : Int64) (1 : Int64) μM (fun r_20 : Int32 => ((r_20 = 0 → J30 ()) ∧ (¬ r_20 = 0 → J31 (1 : Int32))))))))) := fun J hJ => t_flag (fun _ _ _ _ _ _ => hJ) (fun q => by rcases q with q | q; exact absurd rfl (q d hd); exact absurd rfl (q w hw))
          rcases hs k hk with ⟨c1, m1⟩ | ⟨c1, z, l', hz, hl', m1, c3, c2, m2, hcell⟩
          · rw [c1]
            refine b0 (xjn_i (fun x => x = (1 : Int32)) ?_ (fun J hJ => b1 (hJ _ rfl)))
            rintro _ rfl
            refine b1' ?_
            rintro _ rfl
            refine flg _ (t_bar_1 hk hl m1 ⟨fun q => absurd q (by decide), fun _ => ⟨rfl, ?_⟩⟩)
            rw [xu_xu]
            exact rl_f h 1
          · rw [c1, c2]
            have c3' : xu μC 0 4 0 (2 + k) 3 = nI z := by rw [xu_a (by omega)]; exact c3
            refine b1 (pk_ne l' l (fun e => ?_) (fun e => ?_))
            · refine xjn_i (fun x => x = (2 : Int32)) ?_ (fun J hJ => ⟨fun _ => hJ _ rfl, fun q => absurd q (by decide)⟩)
              rintro _ rfl
              refine ⟨fun q => absurd q (by decide), fun _ => ?_⟩
              rintro _ rfl
              refine flg _ (t_bar_2 hk hl hz m1 m2 hl' e ⟨fun q => absurd q (by decide), fun _ => ⟨rfl, ?_⟩⟩)
              rw [xu_xu]
              exact rl_f h 2
            · subst e
              have bx := fun (K : Int32 → xM → Prop) => t_bar_x (n := 2000) (a3 := a4) (b := (3 : Int32)) (m := μM) (K := K) hk hl hz m1 m2 (fun q => absurd q (by decide))
              by_cases r : run a4 (3 : Int32) z
              · refine xjn_i (fun x => x = (0 : Int32)) ?_ (fun J hJ => b0 (u_hasRun_y c3' hz r (b1 (hJ _ rfl))))
                rintro _ rfl
                refine b0' ?_
                have c10 : xu μC 0 4 0 10 6 = nI (g 0 1) := by rw [xu_a (by omega)]; exact hc.1.1
                rw [c10]
                refine pk_ne (g 0 1) 0 (fun e => ?_) (fun e => ?_)
                · have r' := r
                  obtain ⟨i, x, e1, rfl, e3⟩ := r'
                  have e4 : x = 3 := ((nI_eq (a := 3) (b := x) (by omega) (by omega)).1 e3).symm
                  subst e4
                  have e60 : (60 : Int32) * nI k + nI i = nI (60 * k + i) := by rw [mul60, nI_add]
                  have cc : ∀ p, p < 3 → xu μC 0 4 0 (6 + k) (i + p) = μM 21 (60 * k + i + p) := fun p hp => by rw [xu_a (by omega), hcell _ (by omega)]; congr 1; omega
                  by_cases H : ∀ p, p < 3 → ∃ v, v < 1000 ∧ μM 21 (60 * k + i + p) = nI v
                  · have hvv : ∃ v : Nat → Nat, ∀ p, p < 3 → v p < 1000 ∧ μM 21 (60 * k + i + p) = nI (v p) := ⟨fun p => (μM 21 (60 * k + i + p)).toNatClampNeg, fun p hp => by
                      obtain ⟨v, v1, v2⟩ := H p hp
                      dsimp only
                      rw [v2, nI_clamp (by omega)]
                      exact ⟨v1, rfl⟩⟩
                    obtain ⟨v, hv⟩ := hvv
                    have hv1 : ∀ p, p < 3 → v p < 1000 := fun p hp => (hv p hp).1
                    refine xjn_i (fun _ => True) ?_ (fun J hJ => ?_)
                    · rintro _ _
                      refine uz_nearest (v := v) (cs_10 hg (fun b hb => xu_ne (by omega)) hc) hg (by omega) hk (by omega) (by omega) (by omega) hv1 (fun p hp => by rw [cc p hp]; exact (hv p hp).2) (fun c1 f1 s1 => ?_)
                      have hrN := nr_lt (fun k => ap (sat g d).1 v k 3) (i := g 0 1) (B := g 0 1) (by omega) (by omega)
                      have hb : ∀ k, k < g 0 1 → ap (sat g d).1 v k 3 ≤ 6000 := fun k hk => ap_le _ v k (fun p hp => sat_b hg hk hp d) hv1 3 (by omega)
                      have mdl : ∀ (uC : xM), frW (xu μC 0 4 0) uC → cs uC g → wp_X7_takenFor 2000 (nI d) (nI k) (nI l') (nI i) (nI w) μM (fun (r2 : Int32) (uM : xM) => nI (if w = 0 then nr (fun k => ap (sat g d).1 v k 3) (g 0 1) else ap (sat g d).1 v (nr (fun k => ap (sat g d).1 v k 3) (g 0 1)) 3) = r2 ∧ rl uC uM) := by
                        intro uC fC sC
                        unfold wp_X7_takenFor wp_X7_refused
                        refine flg _ (bx _ (fun _ q => absurd r q) (fun _ => ⟨fun _ => ?_, fun q => absurd (by decide) q⟩))
                        rw [hm.1]
                        refine pk_ne (g 0 1) 0 (fun _ => ?_) (fun q => absurd q e)
                        rintro _ rfl
                        rw [e60]
                        refine xjn_i (fun _ => True) ?_ (fun J hJ => ?_)
                        · rintro _ _
                          refine t_goTo hm hg (by omega) (by omega) (fun m1 fm sm => ?_)
                          refine xjn_i (fun (t : Int32 × Int32) => t = (nI (ap (sat g d).1 v (nr (fun k => ap (sat g d).1 v k 3) (g 0 1)) 3), nI (nr (fun k => ap (sat g d).1 v k 3) (g 0 1)))) ?_ (fun J hJ => ?_)
                          · rintro _ rfl
                            have q2 := hb _ hrN
                            refine pk_ne w 0 (fun q => ?_) (fun q => ?_)
                            · rintro _ rfl
                              rw [if_neg q]
                              exact ⟨rfl, rl_keepf 0 hg hm hr hs ht h0 fC sC fm⟩
                            · rintro _ rfl
                              rw [if_pos q]
                              exact ⟨rfl, rl_keepf 0 hg hm hr hs ht h0 fC sC fm⟩
                          · refine lpg (fun j (t : Int32 × Int32) => (nI j, t.1, t.2)) (g 0 1) (fun j t => (j = 0 ∧ t = (0, -9)) ∨ (0 < j ∧ t = (nI (ap (sat g d).1 v (nr (fun k => ap (sat g d).1 v k 3) j) 3), nI (nr (fun k => ap (sat g d).1 v k 3) j)))) ?_ (i := 0) (t := ((0 : Int32), (-9 : Int32))) (Or.inl ⟨rfl, rfl⟩) (by omega) (by omega)
                            rintro j ⟨t1, t2⟩ again hj hp hag
                            dsimp only at hp ⊢
                            rw [(hm.fr fm).1]
                            refine pk_le (g 0 1) j (fun hh => ?_) (fun hh => ?_)
                            · rcases hp with ⟨q, _⟩ | ⟨_, q⟩
                              · exact absurd q (by omega)
                              · rw [show j = g 0 1 by omega] at q
                                exact hJ _ q
                            · have q1 := hb j hh
                              refine xjn_i (fun x => x = nI (ap (sat g d).1 v j 3)) ?_ (fun J2 hJ2 => ?_)
                              · rintro _ rfl
                                rcases hp with ⟨e1, e2⟩ | ⟨e1, e2⟩
                                · obtain ⟨rfl, rfl⟩ := Prod.mk.inj e2
                                  subst e1
                                  refine ⟨fun _ => ?_, fun q => absurd (by decide) q⟩
                                  rintro _ rfl
                                  have e0 : nr (fun k => ap (sat g d).1 v k 3) 1 = 0 := if_neg (by show ¬ ap (sat g d).1 v 0 3 < ap (sat g d).1 v 0 3; omega)
                                  exact hag (_, _) hh (Or.inr ⟨by omega, by rw [e0]; rfl⟩)
                                · obtain ⟨rfl, rfl⟩ := Prod.mk.inj e2
                                  have hr2 := nr_lt (fun k => ap (sat g d).1 v k 3) (i := j) (B := g 0 1) (by omega) (by omega)
                                  have q3 := hb _ hr2
                                  have hag := fun t => hag t hh
                                  unfold nr at hag
                                  refine ⟨fun q => absurd q (nI_pos (by omega)), fun _ => pk_le (ap (sat g d).1 v (nr (fun k => ap (sat g d).1 v k 3) j) 3) (ap (sat g d).1 v j 3) (fun e5 => ?_) (fun e5 => ?_)⟩
                                  · rintro _ rfl
                                    rw [nI_1]
                                    exact hag (nI (ap (sat g d).1 v (nr (fun k => ap (sat g d).1 v k 3) j) 3), nI (nr (fun k => ap (sat g d).1 v k 3) j)) (Or.inr ⟨by omega, by rw [if_neg (by omega)]⟩)
                                  · rintro _ rfl
                                    rw [nI_1]
                                    exact hag (nI (ap (sat g d).1 v j 3), nI j) (Or.inr ⟨by omega, by rw [if_pos (by omega)]⟩)
                              · refine lpg (fun p (_ : Unit) => (nI p, nI (ap (sat g d).1 v j p))) 3 (fun _ _ => True) ?_ (i := 0) (t := ()) trivial (by omega) (by omega)
                                intro p _ ag hp3 _ hag3
                                dsimp only
                                refine pk_le 3 p (fun h3 => ?_) (fun h3 => ?_)
                                · rw [show p = 3 by omega]; exact hJ2 _ rfl
                                · have z1 := sat_b hg hh h3 d
                                  have z2 := hv1 p h3
                                  rw [mul3, nI_add, nI_add, nI_clamp (by omega), nI_clamp (by omega), (sm j hh).1 p h3, fm 21 (by omega) (by omega) (by omega), (hv p h3).2]
                                  refine ⟨pk_in (3 * j + p) 21 (by omega), pk_in (60 * k + i + p) 240 (by omega), t_off (by omega) (by omega) ?_⟩
                                  rintro _ rfl _ rfl
                                  rw [nI_add, nI_1]
                                  exact hag3 () h3 trivial
                        · refine lpg (fun p (_ : Unit) => nI p) 3 (fun _ _ => True) ?_ (i := 0) (t := ()) trivial (by omega) (by omega)
                          intro p _ ag hp3 _ hag3
                          dsimp only
                          refine pk_le 3 p (fun h3 => hJ _ trivial) (fun h3 => ?_)
                          rw [nI_add, nI_clamp (by omega), (hv p h3).2]
                          refine ⟨pk_in (60 * k + i + p) 240 (by omega), w_in_y (hv p h3).1 (by omega) rfl (b1 ?_)⟩
                          rintro _ rfl
                          rw [nI_1]
                          exact hag3 () h3 trivial
                      refine pk_ne w 0 (fun q => ?_) (fun q => ?_)
                      · refine uz_apart (v := v) s1 hg hrN hk (by omega) (by omega) (by omega) hv1 (fun p hp => by rw [f1.1 (6 + k) (by omega) (by omega) (by omega) (by omega), cc p hp]; exact (hv p hp).2) (fun c2 f2 s2 => ?_)
                        have := mdl c2 (f1.tr f2) s2
                        rw [if_neg q] at this
                        exact this
                      · have := mdl c1 f1 s1
                        rw [if_pos q] at this
                        exact this
                    · refine lpg (fun p (_ : Unit) => nI p) 3 (fun _ _ => True) ?_ (i := 0) (t := ()) trivial (by omega) (by omega)
                      intro p _ ag hp3 _ hag3
                      dsimp only
                      refine pk_le 3 p (fun h3 => hJ _ trivial) (fun h3 => ?_)
                      rw [nI_add, nI_clamp (n := i + p) (by omega), cc p h3, (hv p h3).2]
                      refine ⟨pk_in (i + p) 60 (by omega), w_bl_y (hv p h3).1 (by omega) rfl (b1 ?_)⟩
                      rintro _ rfl
                      rw [nI_1]
                      exact hag3 () h3 trivial
                  · have mdl : wp_X7_takenFor 2000 (nI d) (nI k) (nI l') (nI i) (nI w) μM (fun (r2 : Int32) (uM : xM) => -2 = r2 ∧ rl (xu μC 0 4 0) uM) := by
                      unfold wp_X7_takenFor wp_X7_refused
                      refine flg _ (bx _ (fun _ q => absurd r q) (fun _ => ⟨fun _ => ?_, fun q => absurd (by decide) q⟩))
                      rw [hm.1]
                      refine pk_ne (g 0 1) 0 (fun _ => ?_) (fun q => absurd q e)
                      rintro _ rfl
                      rw [e60]
                      refine xjn_i (fun _ => False) (fun _ q => absurd q id) (fun J hJ => ?_)
                      refine lpg (fun p (_ : Unit) => nI p) 3 (fun p _ => ∀ y, y < p → ∃ v, v < 1000 ∧ μM 21 (60 * k + i + y) = nI v) ?_ (i := 0) (t := ()) (fun y hy => absurd hy (by omega)) (by omega) (by omega)
                      intro p _ ag hp3 hpp hag3
                      dsimp only
                      refine pk_le 3 p (fun h3 => ?_) (fun h3 => ?_)
                      · exact absurd (fun y hy => hpp y (by omega)) H
                      · rw [nI_add, nI_clamp (by omega)]
                        refine ⟨pk_in (60 * k + i + p) 240 (by omega), ?_⟩
                        rcases in_or (μM 21 (60 * k + i + p)) 1000 with ⟨v, v1, v2⟩ | v1
                        · rw [v2]
                          refine w_in_y v1 (by omega) rfl (b1 ?_)
                          rintro _ rfl
                          rw [nI_1]
                          refine hag3 () h3 (fun y hy => ?_)
                          by_cases e : y = p
                          · subst e; exact ⟨v, v1, v2⟩
                          · exact hpp y (by omega)
                        · refine w_in_n v1 (by omega) rfl (b0 ?_)
                          rintro _ rfl
                          exact ⟨rfl, rl_f h 0⟩
                    refine xjn_i (fun _ => False) (fun _ q => absurd q id) (fun J hJ => ?_)
                    refine lpg (fun p (_ : Unit) => nI p) 3 (fun p _ => ∀ y, y < p → ∃ v, v < 1000 ∧ μM 21 (60 * k + i + y) = nI v) ?_ (i := 0) (t := ()) (fun y hy => absurd hy (by omega)) (by omega) (by omega)
                    intro p _ ag hp3 hpp hag3
                    dsimp only
                    refine pk_le 3 p (fun h3 => ?_) (fun h3 => ?_)
                    · exact absurd (fun y hy => hpp y (by omega)) H
                    · rw [nI_add, nI_clamp (n := i + p) (by omega), cc p h3]
                      refine ⟨pk_in (i + p) 60 (by omega), ?_⟩
                      rcases in_or (μM 21 (60 * k + i + p)) 1000 with ⟨v, v1, v2⟩ | v1
                      · rw [v2]
                        refine w_bl_y v1 (by omega) rfl (b1 ?_)
                        rintro _ rfl
                        rw [nI_1]
                        refine hag3 () h3 (fun y hy => ?_)
                        by_cases e : y = p
                        · subst e; exact ⟨v, v1, v2⟩
                        · exact hpp y (by omega)
                      · exact w_bl_n v1 (by omega) rfl (b0 mdl)
                · refine flg _ (bx _ (fun _ q => absurd r q) (fun _ => ⟨fun _ => ?_, fun q => absurd (by decide) q⟩))
                  rw [hm.1]
                  refine pk_ne (g 0 1) 0 (fun q => absurd e q) (fun _ => ?_)
                  unfold wp_X7_refused
                  rintro _ rfl
                  exact ⟨rfl, rl_f h 0⟩
              · refine xjn_i (fun x => x = (3 : Int32)) ?_ (fun J hJ => b0 (u_hasRun_n c3' hz r (b0 (hJ _ rfl))))
                rintro _ rfl
                refine ⟨fun q => absurd q (by decide), fun _ => ?_⟩
                rintro _ rfl
                refine flg _ (bx _ (fun _ _ => ⟨fun q => absurd q (by decide), fun _ => ⟨rfl, ?_⟩⟩) (fun q => absurd q r))
                rw [xu_xu]
                exact rl_f h 3
        · exact u_isLane_n hl (b0 (bad (Or.inr (Or.inr hl))))
      · exact w_bl_n hw (by omega) rfl (b0' (bad (Or.inr (Or.inl hw))))
    · exact u_isDawn_n hd (b0' (bad (Or.inl hd)))
  · refine u_isSheet_n hk (b0 ?_)
    exact t_flag (fun d w _ _ _ _ => t_bar_s hk ⟨fun q => absurd q (by decide), fun _ => ⟨rfl, rl_f h 0⟩⟩) (fun _ => t_bar_s hk ⟨fun q => absurd q (by decide), fun _ => ⟨rfl, rl_f h 0⟩⟩)
