theorem st_put {μC μM : xM} (h : rl μC μM) (a1 : Int32) (a2 : Int32) (a3 : Int32) : wp_X6_put 2000 a1 a2 a3 μC (fun (r1 : Int32) (uC : xM) => wp_X7_put 2000 a1 a2 a3 μM (fun (r2 : Int32) (uM : xM) => r1 = r2 ∧ rl uC uM)) := by
  unfold wp_X6_put wp_X7_put wp_X6_faulty wp_X7_failed wp_X7_refused
  rintro _ rfl
  rcases in_or a1 4 with ⟨k, hk, rfl⟩ | hk
  · refine u_isSheet_y hk (b1 ⟨pk_in k 4 hk, ?_⟩)
    rw [nI_clamp (by omega), xu_a (by omega)]
    rcases h.2.1 k hk with ⟨c1, m1⟩ | ⟨c1, z, l, hz, hl, m1, c3, c2, m2, hcell⟩
    · rw [c1]
      refine b0 ?_
      rintro _ rfl
      refine t_noSheet_y hk (b0' (t_noCell_n hk m1 ⟨fun q => absurd q (by decide), fun _ => t_noCell_n hk m1 ?_⟩))
      rintro _ rfl
      rw [xu_xu]
      exact ⟨rfl, rl_f h 1⟩
    · rw [c1]
      refine b1 ?_
      have c3' : xu μC 0 4 0 (2 + k) 3 = nI z := by rw [xu_a (by omega)]; exact c3
      rcases in_or a2 z with ⟨i, hi, rfl⟩ | hi
      · refine u_hasRun_y c3' hz ⟨i, 1, by omega, rfl, rfl⟩ (b1 ?_)
        unfold wp_X2_cut
        rw [xu_a (by omega), c2]
        have fin : ∀ v : Int32, rl (xu (xu μC 0 4 0) (6 + k) i v) (xu (xu μM 21 (60 * k + i) v) 0 0 0) := by
          intro v
          refine rl_o h (fun b hb => ?_) (fun b h1 h2 => ?_) (fun j h1 h2 => ?_) (sh_upd (k := k) h.2.1 (fun j hj hne => ⟨?_, ?_⟩) (fun j hj hne => ⟨?_, ?_, fun y hy => ?_⟩) (Or.inr ⟨?_, z, l, hz, hl, ?_, ?_, ?_, ?_, fun j hj => ?_⟩)) ?_ ?_
          · rw [xu_ne (by omega), xu_ne (by omega)]
          · rw [xu_ne h1, xu_ne (by omega)]
          · rw [xu_j h1, xu_a (by omega)]
          · rw [xu_ne (by omega), xu_ne (by omega)]
          · rw [xu_ne (by omega), xu_ne (by omega)]
          · rw [xu_a (by omega), xu_a (by omega)]
          · rw [xu_a (by omega), xu_a (by omega)]
          · rw [xu_a (by omega), xu_j]
            rcases Nat.lt_or_gt_of_ne hne with q | q <;> omega
          · rw [xu_a (by omega), xu_a (by omega)]; exact c1
          · rw [xu_a (by omega), xu_a (by omega)]; exact m1
          · rw [xu_a (by omega), xu_a (by omega)]; exact c3
          · rw [xu_a (by omega), xu_a (by omega)]; exact c2
          · rw [xu_a (by omega), xu_a (by omega)]; exact m2
          · rw [xu_a (a := 0) (by omega)]
            by_cases e : j = i
            · subst e; rw [xu_s, xu_s]
            · rw [xu_j e, xu_j (by omega), xu_a (by omega)]
              exact hcell j hj
          · rw [xu_a (by omega), xu_s, xu_s]
          · rw [xu_a (by omega), xu_j (by omega), xu_j (by omega), xu_a (by omega)]
            exact h.2.2.2.1
        have e60 : (60 : Int32) * nI k + nI i = nI (60 * k + i) := by rw [mul60, nI_add]
        rw [e60]
        refine pk_ne l 0 (fun e => pk_ne l 1 (fun e1 => ?_) (fun e1 => ?_)) (fun e => ?_)
        all_goals
          refine ⟨pk_in i 60 (by omega), ?_⟩
          rw [nI_clamp (by omega)]
          rintro _ rfl
          refine t_noSheet_y hk (b0' (t_noCell_y hk m1 hz hi ⟨fun _ => ⟨pk_in k 4 hk, ?_⟩, fun q => absurd (by decide) q⟩))
          rw [m2]
        · refine pk_ne l 0 (fun _ => ⟨pk_in k 4 hk, pk_ne l 1 (fun _ => ⟨pk_in (60 * k + i) 240 (by omega), ?_⟩) (fun q => absurd q e1)⟩) (fun q => absurd q e)
          rw [nI_clamp (by omega)]
          rintro _ rfl _ rfl
          exact ⟨rfl, fin _⟩
        · refine pk_ne l 0 (fun _ => ⟨pk_in k 4 hk, pk_ne l 1 (fun q => absurd e1 q) (fun _ => ⟨pk_in (60 * k + i) 240 (by omega), ?_⟩)⟩) (fun q => absurd q e)
          rw [nI_clamp (by omega)]
          rintro _ rfl _ rfl
          exact ⟨rfl, fin _⟩
        · refine pk_ne l 0 (fun q => absurd e q) (fun _ => ⟨pk_in (60 * k + i) 240 (by omega), ?_⟩)
          rw [nI_clamp (by omega)]
          rintro _ rfl _ rfl
          exact ⟨rfl, fin _⟩
      · refine u_hasRun_n c3' hz (run_1 hz hi) (b0 ?_)
        rintro _ rfl
        refine t_noSheet_y hk (b0' (t_noCell_o hk m1 hz hi ⟨fun q => absurd q (by decide), fun _ => t_noCell_o hk m1 hz hi ?_⟩))
        rintro _ rfl
        rw [xu_xu]
        exact ⟨rfl, rl_f h 3⟩
  · refine u_isSheet_n hk (b0 ?_)
    refine t_noSheet_n hk (b1' ?_)
    rintro _ rfl
    exact ⟨rfl, rl_f h 0⟩
theorem st_cell {μC μM : xM} (h : rl μC μM) (a1 : Int32) (a2 : Int32) (a3 : Int32) : wp_X6_cell 2000 a1 a2 a3 μC (fun (r1 : Int64) (uC : xM) => wp_X7_cell 2000 a1 a2 a3 μM (fun (r2 : Int64) (uM : xM) => r1 = r2 ∧ rl uC uM)) := by
  unfold wp_X6_cell wp_X7_cell wp_X7_failedLong wp_X7_nothing wp_X2_faultAs
  rintro _ rfl
  rcases in_or a1 4 with ⟨k, hk, rfl⟩ | hk
  · refine u_isSheet_y hk (b1' ?_)
    rcases in_or a3 3 with ⟨w, hw, rfl⟩ | hw
    · refine u_isLane_y hw (b1 ⟨pk_in k 4 hk, ?_⟩)
      rw [nI_clamp (by omega), xu_a (by omega), xu_a (by omega)]
      rcases h.2.1 k hk with ⟨c1, m1⟩ | ⟨c1, z, l, hz, hl, m1, c3, c2, m2, hcell⟩
      · have m1' : xu μM 0 0 0 19 k = (-1) := by rw [xu_a (by omega)]; exact m1
        rw [c1]
        refine b0 (xjn_i (fun x => x = (1 : Int32)) ?_ (fun J hJ => b1 (hJ _ rfl)))
        rintro _ rfl
        refine b1' ?_
        rintro _ rfl _ rfl
        refine t_noSheet_y hk (b0 (w_in_y hw (by omega) rfl (b1 ⟨pk_in k 4 hk, ?_⟩)))
        rw [m1']
        refine xjn_i (fun _ => True) ?_ (fun J hJ => ⟨fun _ => hJ _ trivial, fun q => absurd (by decide) q⟩)
        rintro _ _
        refine t_noCell_n hk m1' ⟨fun q => absurd q (by decide), fun _ => t_noCell_n hk m1' ?_⟩
        rintro _ rfl
        rw [xu_xu, xu_xu]
        exact ⟨rfl, rl_f h 1⟩
      · have m1' : xu μM 0 0 0 19 k = nI z := by rw [xu_a (by omega)]; exact m1
        have m2' : xu μM 0 0 0 20 k = nI l := by rw [xu_a (by omega)]; exact m2
        have c3' : xu μC 0 4 0 (2 + k) 3 = nI z := by rw [xu_a (by omega)]; exact c3
        have n0 : ¬ nI z < 0 := nI_pos (by omega)
        rw [c1, c2]
        refine b1 (pk_ne l w (fun e => ?_) (fun e => ?_))
        · refine xjn_i (fun x => x = (2 : Int32)) ?_ (fun J hJ => ⟨fun _ => hJ _ rfl, fun q => absurd q (by decide)⟩)
          rintro _ rfl
          refine ⟨fun q => absurd q (by decide), fun _ => ?_⟩
          rintro _ rfl _ rfl
          refine t_noSheet_y hk (b0 (w_in_y hw (by omega) rfl (b1 ⟨pk_in k 4 hk, ?_⟩)))
          rw [m1', m2']
          refine xjn_i (fun _ => False) (fun _ q => absurd q id) (fun J hJ => ⟨fun q => absurd q n0, fun _ => ⟨pk_in k 4 hk, pk_eq l w (fun q => absurd q e) (fun _ => ?_)⟩⟩)
          rintro _ rfl
          rw [xu_xu, xu_xu]
          exact ⟨rfl, rl_f h 2⟩
        · subst e
          rcases in_or a2 z with ⟨i, hi, rfl⟩ | hi
          · refine xjn_i (fun x => x = (0 : Int32)) ?_ (fun J hJ => b0 (u_hasRun_y c3' hz ⟨i, 1, by omega, rfl, rfl⟩ (b1 (hJ _ rfl))))
            rintro _ rfl
            refine b0' ⟨pk_in i 60 (by omega), ?_⟩
            rw [nI_clamp (by omega)]
            rintro _ rfl
            refine t_noSheet_y hk (b0 (w_in_y hw (by omega) rfl (b1 ⟨pk_in k 4 hk, ?_⟩)))
            rw [m1', m2']
            refine xjn_i (fun _ => True) ?_ (fun J hJ => ⟨fun q => absurd q n0, fun _ => ⟨pk_in k 4 hk, pk_eq l l (fun _ => hJ _ trivial) (fun q => absurd rfl q)⟩⟩)
            rintro _ _
            have e60 : (60 : Int32) * nI k + nI i = nI (60 * k + i) := by rw [mul60, nI_add]
            rw [e60]
            refine t_noCell_y hk m1' hz hi ⟨fun _ => ⟨pk_in (60 * k + i) 240 (by omega), ?_⟩, fun q => absurd (by decide) q⟩
            rw [nI_clamp (by omega), xu_a (by omega), xu_a (by omega), hcell i hi]
            exact ⟨rfl, rl_f h 0⟩
          · refine xjn_i (fun x => x = (3 : Int32)) ?_ (fun J hJ => b0 (u_hasRun_n c3' hz (run_1 hz hi) (b0 (hJ _ rfl))))
            rintro _ rfl
            refine ⟨fun q => absurd q (by decide), fun _ => ?_⟩
            rintro _ rfl _ rfl
            refine t_noSheet_y hk (b0 (w_in_y hw (by omega) rfl (b1 ⟨pk_in k 4 hk, ?_⟩)))
            rw [m1', m2']
            refine xjn_i (fun _ => True) ?_ (fun J hJ => ⟨fun q => absurd q n0, fun _ => ⟨pk_in k 4 hk, pk_eq l l (fun _ => hJ _ trivial) (fun q => absurd rfl q)⟩⟩)
            rintro _ _
            refine t_noCell_o hk m1' hz hi ⟨fun q => absurd q (by decide), fun _ => t_noCell_o hk m1' hz hi ?_⟩
            rintro _ rfl
            rw [xu_xu, xu_xu]
            exact ⟨rfl, rl_f h 3⟩
    · refine u_isLane_n hw (b0 ?_)
      rintro _ rfl
      exact t_noSheet_y hk (b0 (w_in_n hw (by omega) rfl (b0 ⟨rfl, rl_f h 0⟩)))
  · refine u_isSheet_n hk (b0' ?_)
    rintro _ rfl
    exact t_noSheet_n hk (b1 ⟨rfl, rl_f h 0⟩)
