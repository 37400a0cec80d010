theorem t_hands {k o i j l z1 z2 : Nat} {m : xM} {K : xM → Prop} (hk : k < 4) (ho : o < 4) (h1 : i + l ≤ z1) (hz1 : z1 ≤ 60) (h2 : j + l ≤ z2) (hz2 : z2 ≤ 60) {n : Nat} (hn : 100 ≤ n) (hK : ∀ m', (∀ b, b ≠ 21 → b ≠ 22 → m' b = m b) → (∀ w, ¬ (60 * o + j ≤ w ∧ w < 60 * o + j + l) → m' 21 w = m 21 w) → (∀ t, t < l → m' 21 (60 * o + j + t) = m 21 (60 * k + i + t)) → K m') : xjn (fun (m_141 : xM) => xlp (fun (again144 : (Int32 × xM) → Prop) => fun (s_ : Int32 × xM) => match s_ with | (x6_144, m_144) => ((nI l ≤ x6_144 → K m_144) ∧ (¬ nI l ≤ x6_144 → (vp_in x6_144 60 ∧ (vp_in ((((60 : Int32) * nI o) + nI j) + x6_144) 240 ∧ (∀ m_172 : xM, m_172 = xu m_144 21 ((((60 : Int32) * nI o) + nI j) + x6_144).toNatClampNeg (m_144 22 x6_144.toNatClampNeg) → (∀ x6_173 : Int32, x6_173 = x6_144 + 1 → again144 (x6_173, m_172)))))))) n ((0 : Int32), m_141)) (fun J141 : xM → Prop => xlp (fun (again107 : (Int32 × xM) → Prop) => fun (s_ : Int32 × xM) => match s_ with | (x6_107, m_107) => ((nI l ≤ x6_107 → J141 m_107) ∧ (¬ nI l ≤ x6_107 → (vp_in ((((60 : Int32) * nI k) + nI i) + x6_107) 240 ∧ (vp_in x6_107 60 ∧ (∀ m_134 : xM, m_134 = xu m_107 22 x6_107.toNatClampNeg (m_107 21 ((((60 : Int32) * nI k) + nI i) + x6_107).toNatClampNeg) → (∀ x6_135 : Int32, x6_135 = x6_107 + 1 → again107 (x6_135, m_134)))))))) n ((0 : Int32), m)) := by
  refine xjn_i (fun m1 => (∀ b, b ≠ 22 → m1 b = m b) ∧ ∀ x, x < l → m1 22 x = m 21 (60 * k + i + x)) ?_ ?_
  · rintro m1 ⟨q1, q2⟩
    refine lpg (fun y (x : xM) => (nI y, x)) l (fun y x => (∀ b, b ≠ 21 → x b = m1 b) ∧ (∀ w, ¬ (60 * o + j ≤ w ∧ w < 60 * o + j + y) → x 21 w = m 21 w) ∧ ∀ t, t < y → x 21 (60 * o + j + t) = m 21 (60 * k + i + t)) ?_ (i := 0) (t := m1) ⟨fun _ _ => rfl, fun w _ => by rw [q1 21 (by omega)], fun t ht => absurd ht (by omega)⟩ (by omega) (by omega)
    intro y x again hy ⟨p1, p2, p3⟩ hag
    dsimp only
    refine pk_le l y (fun hh => ?_) (fun hh => ⟨pk_in y 60 (by omega), ?_⟩)
    · rw [show y = l by omega] at p2 p3
      exact hK x (fun b e1 e2 => by rw [p1 b e1, q1 b e2]) p2 p3
    · rw [mul60, nI_add, nI_add]
      refine ⟨pk_in (60 * o + j + y) 240 (by omega), ?_⟩
      rw [nI_clamp (by omega), nI_clamp (by omega)]
      rintro _ rfl _ rfl
      rw [nI_1]
      refine hag _ hh ⟨fun b hb => ?_, fun w hw => ?_, fun t ht => ?_⟩
      · rw [xu_ne hb]; exact p1 b hb
      · rw [xu_j (by omega)]; exact p2 w (by omega)
      · rw [xu_if]
        split
        · rename_i e
          rw [p1 22 (by omega), q2 y hh]
          congr 1
          omega
        · exact p3 t (by omega)
  · intro J hJ
    refine lpg (fun y (x : xM) => (nI y, x)) l (fun y x => (∀ b, b ≠ 22 → x b = m b) ∧ ∀ t, t < y → x 22 t = m 21 (60 * k + i + t)) ?_ (i := 0) (t := m) ⟨fun _ _ => rfl, fun t ht => absurd ht (by omega)⟩ (by omega) (by omega)
    intro y x again hy ⟨p1, p3⟩ hag
    dsimp only
    refine pk_le l y (fun hh => ?_) (fun hh => ?_)
    · rw [show y = l by omega] at p3
      exact hJ x ⟨p1, p3⟩
    · rw [mul60, nI_add, nI_add]
      refine ⟨pk_in (60 * k + i + y) 240 (by omega), pk_in y 60 (by omega), ?_⟩
      rw [nI_clamp (by omega), nI_clamp (by omega)]
      rintro _ rfl _ rfl
      rw [nI_1]
      refine hag _ hh ⟨fun b hb => ?_, fun t ht => ?_⟩
      · rw [xu_ne hb]; exact p1 b hb
      · rw [xu_if]
        split
        · rename_i e
          rw [p1 21 (by omega), e.2]
        · exact p3 t (by omega)
theorem st_copy {μC μM : xM} (h : rl μC μM) (a1 : Int32) (a2 : Int32) (a3 : Int32) (a4 : Int32) (a5 : Int32) : wp_X6_copy 2000 a1 a2 a3 a4 a5 μC (fun (r1 : Int32) (uC : xM) => wp_X7_copy 2000 a1 a2 a3 a4 a5 μM (fun (r2 : Int32) (uM : xM) => r1 = r2 ∧ rl uC uM)) := by
  unfold wp_X6_copy wp_X7_copy wp_X6_faulty wp_X7_failed wp_X7_refused
  rintro _ rfl
  rcases in_or a1 4 with ⟨k, hk, rfl⟩ | hk
  · rcases in_or a3 4 with ⟨o, ho, rfl⟩ | ho
    · refine u_isSheet_y hk (b1' (u_isSheet_y ho (b1 ⟨pk_in k 4 hk, pk_in o 4 ho, ?_⟩)))
      rw [nI_clamp (n := k) (by omega), nI_clamp (n := o) (by omega), xu_a (by omega), xu_a (by omega), xu_a (by omega), xu_a (by omega)]
      rcases h.2.1 k hk with ⟨c1, m1⟩ | ⟨c1, z, l, hz, hl, m1, c3, c2, m2, hcell⟩
      · rw [c1]
        refine ⟨fun _ => ?_, fun q => absurd rfl q⟩
        rintro _ rfl
        refine t_noSheet_y hk (b0 (t_noSheet_y ho (b0' ⟨pk_in k 4 hk, ?_⟩)))
        rw [m1]
        refine ⟨fun _ => ?_, fun q => absurd (by decide) q⟩
        rintro _ rfl
        rw [xu_xu]
        exact ⟨rfl, rl_f h 1⟩
      · have n0 : ¬ nI z < 0 := nI_pos (by omega)
        rw [c1, c2]
        rcases h.2.1 o ho with ⟨d1, n1⟩ | ⟨d1, z', l', hz', hl', n1, d3, d2, n2, hcell'⟩
        · rw [d1]
          refine b1' (b0 ?_)
          rintro _ rfl
          refine t_noSheet_y hk (b0 (t_noSheet_y ho (b0' ⟨pk_in k 4 hk, ?_⟩)))
          rw [m1, n1]
          refine ⟨fun q => absurd q n0, fun _ => ⟨pk_in o 4 ho, fun q => absurd q (by decide), fun _ => ?_⟩⟩
          rintro _ rfl
          rw [xu_xu]
          exact ⟨rfl, rl_f h 1⟩
        · rw [d1, d2]
          refine b1' (b1 ?_)
          have c3' : xu μC 0 4 0 (2 + k) 3 = nI z := by rw [xu_a (by omega)]; exact c3
          have d3' : xu μC 0 4 0 (2 + o) 3 = nI z' := by rw [xu_a (by omega)]; exact d3
          refine pk_eq l l' (fun e => ?_) (fun e => ?_)
          · by_cases r1 : run a2 a5 z
            · refine u_hasRun_y c3' hz r1 (b1' ?_)
              by_cases r2 : run a4 a5 z'
              · refine u_hasRun_y d3' hz' r2 (b1 ?_)
                have r1' := r1
                have r2' := r2
                obtain ⟨i, w, e1, rfl, rfl⟩ := r1'
                obtain ⟨j, w', e2, rfl, e3⟩ := r2'
                have e4 : w' = w := ((nI_eq (a := w) (b := w') (by omega) (by omega)).1 e3).symm
                subst e4
                rw [nI_clamp (n := i) (by omega), nI_clamp (n := j) (by omega), nI_clamp (n := w') (by omega)]
                refine ⟨⟨nI_pos (by omega), nI_pos (by omega), nI_pos (by omega), by omega, by omega⟩, ?_⟩
                rintro _ rfl
                refine t_noSheet_y hk (b0 (t_noSheet_y ho (b0' ⟨pk_in k 4 hk, ?_⟩)))
                rw [m1, n1, m2, n2]
                refine ⟨fun q => absurd q n0, fun _ => ⟨pk_in o 4 ho, fun _ => ⟨pk_in k 4 hk, pk_in o 4 ho, pk_eq l l' (fun _ => ⟨pk_in k 4 hk, ?_⟩) (fun q => absurd e q)⟩, fun q => absurd (nI_pos' (by omega)) q⟩⟩
                refine t_isBeyond_y hz r1 (b0 ⟨pk_in o 4 ho, t_isBeyond_y hz' r2 (b0' ?_)⟩)
                refine t_hands (n := 2000) hk ho e1 hz e2 hz' (by omega) (fun m' f1 f2 f3 => ?_)
                rintro _ rfl
                refine ⟨rfl, rl_o h (fun b hb => ?_) (fun b g1 g2 => ?_) (fun x g1 g2 => ?_) (sh_upd (k := o) h.2.1 (fun x hx hne => ⟨?_, ?_⟩) (fun x hx hne => ⟨?_, ?_, fun y hy => ?_⟩) (Or.inr ⟨?_, z', l', hz', hl', ?_, ?_, ?_, ?_, fun x hx => ?_⟩)) ?_ ?_⟩
                · funext x
                  rw [xcp_a (by omega), xu_a (by omega)]
                · rw [xu_ne g1, f1 b (by omega) (by omega)]
                · rw [xu_j g1, f1 0 (by omega) (by omega)]
                · funext y
                  rw [xcp_a (by omega), xu_a (by omega)]
                · funext y
                  rw [xcp_a (by omega), xu_a (by omega)]
                · rw [xu_ne (by omega), f1 19 (by omega) (by omega)]
                · rw [xu_ne (by omega), f1 20 (by omega) (by omega)]
                · rw [xu_a (by omega)]
                  refine f2 _ ?_
                  rcases Nat.lt_or_gt_of_ne hne with q | q
                  · intro q2; omega
                  · intro q2; omega
                · rw [xcp_a (by omega), xu_a (by omega)]; exact d1
                · rw [xu_a (by omega), f1 19 (by omega) (by omega)]; exact n1
                · rw [xcp_a (by omega), xu_a (by omega)]; exact d3
                · rw [xcp_a (by omega), xu_a (by omega)]; exact d2
                · rw [xu_a (by omega), f1 20 (by omega) (by omega)]; exact n2
                · rw [xcp_at, xu_a (b := 21) (by omega)]
                  split
                  · rename_i q
                    rw [xu_a (by omega), hcell _ (by omega), show 60 * o + x = 60 * o + j + (x - j) by omega, f3 _ (by omega)]
                    congr 1
                    omega
                  · rename_i q
                    rw [xu_a (by omega), hcell' x hx, f2 _ (by omega)]
                · rw [xcp_a (by omega), xu_s, xu_s]
                · rw [xcp_a (by omega), xu_j (by omega), xu_j (by omega), f1 0 (by omega) (by omega)]
                  exact h.2.2.2.1
              · refine u_hasRun_n d3' hz' r2 (b0 ?_)
                rintro _ rfl
                refine t_noSheet_y hk (b0 (t_noSheet_y ho (b0' ⟨pk_in k 4 hk, ?_⟩)))
                rw [m1, n1, m2, n2]
                refine ⟨fun q => absurd q n0, fun _ => ⟨pk_in o 4 ho, fun _ => ⟨pk_in k 4 hk, pk_in o 4 ho, pk_eq l l' (fun _ => ⟨pk_in k 4 hk, ?_⟩) (fun q => absurd e q)⟩, fun q => absurd (nI_pos' (by omega)) q⟩⟩
                refine t_isBeyond_y hz r1 (b0 ⟨pk_in o 4 ho, t_isBeyond_n hz' r2 (b1' ?_)⟩)
                rintro _ rfl
                rw [xu_xu]
                exact ⟨rfl, rl_f h 3⟩
            · refine u_hasRun_n c3' hz r1 (b0' ?_)
              rintro _ rfl
              refine t_noSheet_y hk (b0 (t_noSheet_y ho (b0' ⟨pk_in k 4 hk, ?_⟩)))
              rw [m1, n1, m2, n2]
              refine ⟨fun q => absurd q n0, fun _ => ⟨pk_in o 4 ho, fun _ => ⟨pk_in k 4 hk, pk_in o 4 ho, pk_eq l l' (fun _ => ⟨pk_in k 4 hk, ?_⟩) (fun q => absurd e q)⟩, fun q => absurd (nI_pos' (by omega)) q⟩⟩
              refine t_isBeyond_n hz r1 (b1 ?_)
              rintro _ rfl
              rw [xu_xu]
              exact ⟨rfl, rl_f h 3⟩
          · rintro _ rfl
            refine t_noSheet_y hk (b0 (t_noSheet_y ho (b0' ⟨pk_in k 4 hk, ?_⟩)))
            rw [m1, n1, m2, n2]
            refine ⟨fun q => absurd q n0, fun _ => ⟨pk_in o 4 ho, fun _ => ⟨pk_in k 4 hk, pk_in o 4 ho, pk_eq l l' (fun q => absurd q e) (fun _ => ?_)⟩, fun q => absurd (nI_pos' (by omega)) q⟩⟩
            rintro _ rfl
            rw [xu_xu]
            exact ⟨rfl, rl_f h 2⟩
    · refine u_isSheet_y hk (b1' (u_isSheet_n ho (b0 ?_)))
      refine t_noSheet_y hk (b0 (t_noSheet_n ho (b1' ?_)))
      rintro _ rfl
      exact ⟨rfl, rl_f h 0⟩
  · refine u_isSheet_n hk (b0' ?_)
    refine t_noSheet_n hk (b1 ?_)
    rintro _ rfl
    exact ⟨rfl, rl_f h 0⟩
