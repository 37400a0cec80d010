theorem rl_z {c m m' : xM} (h : rl c m) (f : frZ m m') : rl (xu c 0 4 0) (xu m' 0 0 0) := by
  obtain ⟨⟨g, hg, hm, hc, hr⟩, hs, hf, ht, h0⟩ := h
  refine ⟨⟨g, hg, ?_, cs_10 hg (fun b hb => xu_ne (by omega)) hc, hr.same rfl (fun a ha => xu_ne (by omega)) ?_ (fun a ha => ?_)⟩, hs.same (fun a h1 h2 => xu_ne (by omega)) (fun a ha => ?_), by rw [xu_s, xu_s], ?_, fun j hj => by rw [xu_a (by omega)]; exact h0 j hj⟩
  · unfold mr
    rw [xu_j (by omega), xu_j (by omega), xu_ne (by omega), xu_ne (by omega), xu_ne (by omega), xu_ne (by omega), xu_ne (by omega), xu_ne (by omega), xu_ne (by omega), f.2 1 (by omega) (by omega), f.2 14 (by omega) (by omega), f.1 1 (by omega) (by omega) (by omega) (by omega), f.1 2 (by omega) (by omega) (by omega) (by omega), f.1 3 (by omega) (by omega) (by omega) (by omega), f.1 4 (by omega) (by omega) (by omega) (by omega), f.1 5 (by omega) (by omega) (by omega) (by omega), f.1 9 (by omega) (by omega) (by omega) (by omega), f.1 10 (by omega) (by omega) (by omega) (by omega)]
    exact hm
  · rw [xu_j (by omega)]; exact f.2 19 (by omega) (by omega)
  · rw [xu_ne (by omega)]; exact f.1 a (by omega) (by omega) (by omega) (by omega)
  · rw [xu_ne (by omega)]; exact f.1 a (by omega) (by omega) (by omega) (by omega)
  · rw [xu_j (by omega), xu_j (by omega), f.2 28 (by omega) (by omega)]; exact ht
theorem st_statues {μC μM : xM} (h : rl μC μM) (a1 : Int32) (a2 : Int32) (a3 : Int32) (a4 : Int32) : wp_X6_statues 2000 a1 a2 a3 a4 μC (fun (r1 : Int32) (uC : xM) => wp_X7_statues 2000 a1 a2 a3 a4 μM (fun (r2 : Int32) (uM : xM) => r1 = r2 ∧ rl uC uM)) := by
  obtain ⟨⟨g, hg, hm, hc, hr⟩, hs, hf, ht, h0⟩ := id h
  unfold wp_X6_statues wp_X7_statues wp_X6_faulty
  rintro _ rfl
  rcases in_or a1 4 with ⟨k, hk, rfl⟩ | hk
  · refine u_isSheet_y hk (b1 ?_)
    rcases in_or a2 3 with ⟨l, hl, rfl⟩ | hl
    · refine u_isLane_y hl (b1 ⟨pk_in k 4 hk, ?_⟩)
      rw [nI_clamp (n := k) (by omega)]
      unfold wp_X2_faultAs
      rw [xu_a (b := 2 + k) (by omega), xu_a (b := 2 + k) (by omega)]
      rcases hs k hk with ⟨c1, m1⟩ | ⟨c1, z, l', hz, hl', m1, c3, c2, m2, hcell⟩
      · rw [c1]
        refine b0 (xjn_i (fun x => x = (1 : Int32)) ?_ (fun J hJ => b1 (hJ _ rfl)))
        rintro _ rfl
        refine xjn_i (fun x => x = (1 : Int32)) ?_ (fun J hJ => b1 (hJ _ rfl))
        rintro _ rfl
        refine b1' ?_
        rintro _ rfl
        refine t_bar_1 hk hl m1 ⟨fun q => absurd q (by decide), fun _ => ⟨rfl, ?_⟩⟩
        rw [xu_xu]
        exact rl_f h 1
      · rw [c1, c2]
        have c3' : xu μC 0 4 0 (2 + k) 3 = nI z := by rw [xu_a (by omega)]; exact c3
        refine b1 (pk_ne l' l (fun e => ?_) (fun e => ?_))
        · refine xjn_i (fun x => x = (2 : Int32)) ?_ (fun J hJ => ⟨fun _ => hJ _ rfl, fun q => absurd q (by decide)⟩)
          rintro _ rfl
          refine xjn_i (fun x => x = (2 : Int32)) ?_ (fun J hJ => ⟨fun _ => hJ _ rfl, fun q => absurd q (by decide)⟩)
          rintro _ rfl
          refine ⟨fun q => absurd q (by decide), fun _ => ?_⟩
          rintro _ rfl
          refine t_bar_2 hk hl hz m1 m2 hl' e ⟨fun q => absurd q (by decide), fun _ => ⟨rfl, ?_⟩⟩
          rw [xu_xu]
          exact rl_f h 2
        · subst e
          by_cases n0 : a4 < 0
          · refine xjn_i (fun x => x = (4 : Int32)) ?_ (fun J hJ => b0 ⟨fun q => absurd n0 (by rw [Int32.not_lt]; exact q), fun _ => hJ _ rfl⟩)
            rintro _ rfl
            refine xjn_i (fun x => x = (4 : Int32)) ?_ (fun J hJ => ⟨fun _ => hJ _ rfl, fun q => absurd q (by decide)⟩)
            rintro _ rfl
            refine ⟨fun q => absurd q (by decide), fun _ => ?_⟩
            rintro _ rfl
            refine t_bar_x hk hl hz m1 m2 (fun _ => ⟨fun q => absurd q (by decide), fun _ => ⟨rfl, ?_⟩⟩) (fun q => absurd n0 q) (fun r => ?_)
            · rw [xu_xu]
              exact rl_f h 4
            · obtain ⟨i, w, e1, e2, e3⟩ := r
              rw [e3] at n0
              exact absurd n0 (nI_pos (by omega))
          · refine xjn_i (fun x => x = (0 : Int32)) ?_ (fun J hJ => b0 ⟨fun _ => hJ _ rfl, fun q => absurd (by rw [Int32.not_lt] at n0; exact n0) q⟩)
            rintro _ rfl
            by_cases r : run a3 a4 z
            · refine xjn_i (fun x => x = (0 : Int32)) ?_ (fun J hJ => b0 (u_hasRun_y c3' hz r (b1 (hJ _ rfl))))
              rintro _ rfl
              refine b0' ?_
              have r' := r
              obtain ⟨i, w, e1, rfl, rfl⟩ := r'
              have e60 : (60 : Int32) * nI k + nI i = nI (60 * k + i) := by rw [mul60, nI_add]
              have bx := fun (K : Int32 → xM → Prop) => t_bar_x (n := 2000) (a3 := nI i) (b := nI w) (m := μM) (K := K) hk hl hz m1 m2 (fun q => absurd q n0) (fun _ q => absurd r q)
              obtain ⟨p, hp⟩ := fp_ex (fun j => μM 21 (60 * k + i + j)) w
              have pw := hp.1
              have cc : ∀ j, j < w → xu μC 0 4 0 (6 + k) (i + j) = (fun j => μM 21 (60 * k + i + j)) j := fun j hj => by
                rw [xu_a (by omega), hcell _ (by omega)]
                show _ = μM 21 (60 * k + i + j)
                congr 1
                omega
              rw [e60]
              refine u_firstFault (x := fun j => μM 21 (60 * k + i + j)) (by omega) (by omega) cc hp (fun e2 e3 => ⟨fun _ => ?_, fun q => absurd rfl q⟩) (fun e2 => ⟨fun q => ?_, fun _ => ?_⟩)
              · have hgd := hp.2.1
                rw [e2] at hgd
                have w41 : w ≤ 41 := by
                  by_cases q : w ≤ 41
                  · exact q
                  · exfalso
                    rcases hgd 41 (by omega) with ⟨z, _⟩ | ⟨z, _⟩ | ⟨z, _⟩ | ⟨_, _, z⟩ <;> omega
                refine u_settle (x := fun j => μM 21 (60 * k + i + j)) (by omega) hk (by omega) w41 e3 cc hgd (fun c' f1 f2 f3 f4 f5 f6 => ?_)
                unfold wp_X1_keep
                rintro _ rfl
                refine bx _ (fun _ => ⟨fun _ => ?_, fun q => absurd (by decide) q⟩)
                refine t_readsAll (x := fun j => μM 21 (60 * k + i + j)) (by omega) (by omega) (by omega) hp (fun j _ => rfl) (fun q => absurd q (by omega)) (fun _ _ m' fz r8 rows => b1 ?_)
                refine t_copies (x := fun j => μM 21 (60 * k + i + j)) (by omega) w41 e3 r8 rows (fun m2 v1 v2 v3 v4 v5 => ?_)
                unfold wp_X7_refused
                rintro _ rfl
                have eb : ∀ b, b ≠ 0 → b ≠ 1 → b ≠ 2 → b ≠ 3 → b ≠ 4 → b ≠ 5 → b ≠ 6 → b ≠ 7 → b ≠ 8 → b ≠ 9 → b ≠ 10 → xu m2 0 0 0 b = μM b := fun b b0 b1 b2 b3 b4 b5 b6 b7 b8 b9 b10 => by
                  rw [xu_ne b0, v1 b b0 b1 b2 b3 b4 b5 b9 b10, fz.1 b b0 b6 b7 b8]
                have ec : ∀ b, b ≠ 10 → b ≠ 12 → b ≠ 13 → b ≠ 14 → (b < 17 ∨ 31 < b) → b ≠ 0 → xu c' 31 4 0 b = μC b := fun b b1 b2 b3 b4 b5 b6 => by
                  rw [xu_ne (by omega), f1 b b1 b2 b3 b4 (by omega), xu_ne b6]
                have hN : (w + 1) / 6 ≤ 7 := by omega
                refine ⟨by rw [xu_a (by omega), f2, v5], ⟨gT (fun j => μM 21 (60 * k + i + j)) w, gT_ok w41 e3 hgd, mr_f v4 0, ⟨⟨?_, ?_, fun q hq => ?_, fun d hd => ?_⟩, 0, ch_0 ?_ (fun q hq t ht => ?_) (fun j hj => ?_) hN⟩, 0, by omega, xu_s _ _ _ _, by rw [xu_j (by omega)]; exact v3, fun x hx => absurd hx (by omega)⟩, hs.same (fun b b1 b2 => ec b (by omega) (by omega) (by omega) (by omega) (by omega) (by omega)) (fun b hb => eb b (by omega) (by omega) (by omega) (by omega) (by omega) (by omega) (by omega) (by omega) (by omega) (by omega) (by omega)), ?_, ?_, fun j hj => ?_⟩
                · rw [xu_a (by omega)]; exact f2
                · rw [xu_a (by omega)]; exact f3
                · have hq' : q < (w + 1) / 6 := hq
                  obtain ⟨q1, q2, q3, q4, q5⟩ := f5 q hq
                  rw [xu_ne (by omega), xu_ne (by omega)]
                  refine ⟨q1, q2, q3, q4, fun t ht => ?_⟩
                  rw [gT_2 _ _ _ _ ht]
                  exact (q5 t ht).1
                · rw [xu_a (by omega), xu_a (by omega)]; exact f6 d hd
                · rw [xu_a (by omega)]; exact f4
                · rw [xu_a (by omega), gT_2 _ _ _ _ ht, Nat.mul_comm q 3]
                  exact ((f5 q hq).2.2.2.2 t ht).2
                · rw [ec 15 (by omega) (by omega) (by omega) (by omega) (by omega) (by omega)]; exact h0 j hj
                · rw [xu_s, xu_a (by omega), f1 0 (by omega) (by omega) (by omega) (by omega) (by omega), xu_s]
                · rw [xu_a (by omega), f1 0 (by omega) (by omega) (by omega) (by omega) (by omega), xu_j (by omega), xu_j (by omega), v2 28 (by omega) (by omega) (by omega), fz.2 28 (by omega) (by omega)]
                  exact ht
                · rw [ec 15 (by omega) (by omega) (by omega) (by omega) (by omega) (by omega)]; exact h0 j hj
              · exfalso
                have := congrArg Int32.toInt q
                rw [nI_toInt (by omega)] at this
                have t1 : (-1 : Int32).toInt = -1 := rfl
                rw [t1] at this
                omega
              · refine bx _ (fun _ => ⟨fun _ => ?_, fun q => absurd (by decide) q⟩)
                refine t_readsAll (x := fun j => μM 21 (60 * k + i + j)) (by omega) (by omega) (by omega) hp (fun j _ => rfl) (fun _ m' fz r7 => b0 ?_) (fun q q2 => ?_)
                · unfold wp_X7_refused
                  rintro _ rfl
                  rw [r7]
                  exact ⟨rfl, rl_z h fz⟩
                · omega
            · refine xjn_i (fun x => x = (3 : Int32)) ?_ (fun J hJ => b0 (u_hasRun_n c3' hz r (b0 (hJ _ rfl))))
              rintro _ rfl
              refine ⟨fun q => absurd q (by decide), fun _ => ?_⟩
              rintro _ rfl
              refine t_bar_x hk hl hz m1 m2 (fun q => absurd q n0) (fun _ _ => ⟨fun q => absurd q (by decide), fun _ => ⟨rfl, ?_⟩⟩) (fun q => absurd q r)
              rw [xu_xu]
              exact rl_f h 3
    · exact u_isLane_n hl (b0 (t_bar_l hk hl ⟨fun q => absurd q (by decide), fun _ => ⟨rfl, rl_f h 0⟩⟩))
  · exact u_isSheet_n hk (b0 (t_bar_s hk ⟨fun q => absurd q (by decide), fun _ => ⟨rfl, rl_f h 0⟩⟩))
