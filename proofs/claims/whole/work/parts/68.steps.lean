theorem lld_y {f : Nat → Nat} {i : Nat} (h : (lld f i).2 < f i) : lld f (i + 1) = (i, f i) := if_pos h
theorem lld_n {f : Nat → Nat} {i : Nat} (h : ¬ (lld f i).2 < f i) : lld f (i + 1) = lld f i := if_neg h
theorem st_lasts {μC μM : xM} (h : rl μC μM) (a1 : Int32) : wp_X6_lasts 2000 a1 μC (fun (r1 : Int64) (uC : xM) => wp_X7_lasts 2000 a1 μM (fun (r2 : Int64) (uM : xM) => r1 = r2 ∧ rl uC uM)) := by
  obtain ⟨⟨g, hg, hm, hc, hr⟩, hs, hf, ht, h0⟩ := id h
  have hN := hg.1
  unfold wp_X6_lasts wp_X7_lasts wp_X7_nothing
  rcases in_or a1 3 with ⟨v, hv, rfl⟩ | hv
  · refine w_bl_y hv (by omega) rfl (b1' ?_)
    rw [hc.1.1]
    refine pk_ne (g 0 1) 0 (fun e => pk_ne v 0 (fun e1 => ?_) (fun e1 => ?_)) (fun e => ?_)
    · have d60 : ∀ k, k ≤ g 0 1 → smA (sat g 60).1 k ≤ 270 * k := by
        intro k
        induction k with
        | zero => intro _; exact Nat.le_refl _
        | succ k ih =>
          intro hk
          have := ih (by omega)
          have := sm3_le hg (sat_ok g 60) (k := k) (by omega)
          show smA _ k + sm3 _ k ≤ _
          omega
      have d0 : ∀ k, k ≤ g 0 1 → smA (sat g 0).1 k ≤ 270 * k := by
        intro k
        induction k with
        | zero => intro _; exact Nat.le_refl _
        | succ k ih =>
          intro hk
          have := ih (by omega)
          have := sm3_le hg (sat_ok g 0) (k := k) (by omega)
          show smA _ k + sm3 _ k ≤ _
          omega
      have m60 := d60 (g 0 1) (Nat.le_refl _)
      have m0 := d0 (g 0 1) (Nat.le_refl _)
      have mm := smA_mono (g := g) (k := g 0 1) (Nat.le_refl _)
      have pos : 0 < smA (sat g 0).1 (g 0 1) := by
        have q : ∀ k, 0 < k → k ≤ g 0 1 → 0 < smA (sat g 0).1 k := by
          intro k
          cases k with
          | zero => intro z; omega
          | succ k =>
            intro _ hk
            have z := firstA_pos hg (k := k) (by omega)
            have z2 : sm3 (sat g 0).1 k ≠ 0 := of_decide_eq_false z
            show 0 < smA _ k + sm3 _ k
            omega
        exact q _ (by omega) (Nat.le_refl _)
      refine u_leftOfAll (d := 60) hc hg (by omega) (by omega) (fun c1 f1 s1 => ?_)
      refine u_leftOfAll (d := 0) s1 hg (by omega) (by omega) (fun c2 f2 s2 => ?_)
      generalize hA : smA (sat g 0).1 (g 0 1) = A at *
      generalize hB : smA (sat g 60).1 (g 0 1) = B at *
      have hG : 0 < Nat.gcd B A := Nat.gcd_pos_of_pos_right _ pos
      have hG2 : Nat.gcd B A ≤ A := Nat.gcd_le_right _ pos
      refine u_gcd (by omega) mm pos (by omega) ⟨fun _ => ?_, fun q => ?_⟩
      · have nz : ¬ nI (Nat.gcd B A) = 0 := fun z => by
          have := (nI_eq (b := 0) (by omega) (by omega)).1 z
          omega
        have mdl : wp_X7_lasts 2000 (nI v) μM (fun (r2 : Int64) (uM : xM) => (if v = 1 then lN (B / Nat.gcd B A) else lN (A / Nat.gcd B A)) = r2 ∧ rl c2 uM) := by
          unfold wp_X7_lasts
          refine w_in_y hv (by omega) rfl (b1' ?_)
          rw [hm.1]
          refine pk_ne (g 0 1) 0 (fun _ => pk_ne v 0 (fun _ => ?_) (fun q => absurd q e1)) (fun q => absurd q e)
          refine t_goTo (d := 60) hm hg (by omega) (by omega) (fun m1 fm sm => ?_)
          refine xjn_i (fun (t : Int64 × Int64) => t = (lN A, lN B)) ?_ (fun J hJ => ?_)
          · rintro _ rfl
            dsimp only
            rw [show nI v - (1 : Int32) = nI (v - 1) from pk_sub (a := v) (b := 1) (by omega)]
            refine t_told (by omega) pos (by omega) (by omega) ⟨?_, rl_keep hg hm hr hs hf ht h0 (f1.tr f2) s2 fm⟩
            rw [Nat.gcd_comm A B]
            by_cases q : v = 1
            · rw [if_pos q, if_pos (by rw [q]; rfl)]
            · rw [if_neg q, if_neg (fun z => by have := (nI_eq (b := 0) (by omega) (by omega)).1 z; omega)]
          · refine lpg (fun j (_ : Unit) => (nI j, lN (fsm (fun x => g 2 x) j), lN (fsm (sat g 60).1 j))) (3 * g 0 1) (fun _ _ => True) ?_ (i := 0) (t := ()) trivial (by omega) (by omega)
            intro j _ again hj _ hag
            dsimp only
            rw [(hm.fr fm).1, mul3]
            refine pk_le (3 * g 0 1) j (fun hh => ?_) (fun hh => ⟨pk_in j 21 (by omega), ?_⟩)
            · have ej : j = 3 * g 0 1 := by omega
              rw [ej, fsm_3, fsm_3]
              refine hJ _ ?_
              have hA' : smA (fun x => g 2 x) (g 0 1) = A := hA
              rw [hB, hA']
            · have ej : j = 3 * (j / 3) + j % 3 := by omega
              have hk : j / 3 < g 0 1 := by omega
              have hp : j % 3 < 3 := by omega
              have q11 : m1 11 j = nI ((sat g 60).1 j) := by
                have := (sm (j / 3) hk).1 (j % 3) hp
                rw [← ej] at this
                exact this
              have q2 : m1 2 j = nI (g 2 j) := by
                have := ((hm.fr fm).2.2.1 (j / 3) hk).2.2.2.2 (j % 3) hp
                rw [← ej] at this
                exact this
              have b11 := sat_b hg hk hp 60
              rw [← ej] at b11
              have b2 := ((hg.2.2.1 (j / 3) hk).2.2.2.2 (j % 3) hp).2
              rw [← ej] at b2
              rw [nI_clamp (by omega), q11, q2, nI_l (by omega), nI_l (by omega)]
              rintro _ rfl
              refine ⟨pk_in j 21 (by omega), ?_⟩
              rintro _ rfl _ rfl
              rw [lN_add, lN_add, nI_1]
              exact hag () hh trivial
        have dA : A / Nat.gcd B A ≤ A := Nat.div_le_self _ _
        have dB : B / Nat.gcd B A ≤ B := Nat.div_le_self _ _
        refine pk_ne v 1 (fun q => ⟨nz, ?_⟩) (fun q => ⟨nz, ?_⟩)
        · rw [pk_div (by omega) hG (by omega)]
          rw [if_neg q, ← nI_l (by omega)] at mdl
          exact mdl
        · rw [pk_div (by omega) hG (by omega)]
          rw [if_pos q, ← nI_l (by omega)] at mdl
          exact mdl
      · exact absurd (nI_le (a := 1) (by omega) (by omega)) q
    · subst e1
      refine u_longest hc hg (by omega) (fun c' f1 s1 => ?_)
      refine w_in_y hv (by omega) rfl (b1' ?_)
      rw [hm.1]
      refine pk_ne (g 0 1) 0 (fun _ => pk_ne 0 0 (fun q => absurd rfl q) (fun _ => ?_)) (fun q => absurd q e)
      have bl : ∀ i, (lld (fun k => sfs (fun d => decide (sm3 (sat g d).1 k = 0)) 61) i).2 ≤ 61 := fun i => (lld_le (f := fun k => sfs (fun d => decide (sm3 (sat g d).1 k = 0)) 61) (B := 61) (i := i) (fun k _ => sfs_le _ 61)).1
      refine lpg (fun i (t : Int32 × Int32 × xM) => (nI i, t.1, t.2.1, t.2.2)) (g 0 1) (fun i t => fr3 μM t.2.2 ∧ ((i = 0 ∧ t.1 = -1 ∧ t.2.1 = 0) ∨ (0 < i ∧ t.1 = nI (lld (fun k => sfs (fun d => decide (sm3 (sat g d).1 k = 0)) 61) i).2 ∧ t.2.1 = nI (lld (fun k => sfs (fun d => decide (sm3 (sat g d).1 k = 0)) 61) i).1))) ?_ (i := 0) (t := ((-1 : Int32), (0 : Int32), μM)) ⟨fr3.rf μM, Or.inl ⟨rfl, rfl, rfl⟩⟩ (by omega) (by omega)
      rintro i ⟨t1, t2, x⟩ again hi ⟨p1, p2⟩ hag
      dsimp only at p1 p2 ⊢
      rw [(hm.fr p1).1]
      refine pk_le (g 0 1) i (fun hh => ?_) (fun hh => ?_)
      · rcases p2 with ⟨q, _⟩ | ⟨_, _, q⟩
        · exact absurd q (by omega)
        · rw [q, show i = g 0 1 by omega]
          exact ⟨rfl, rl_keep hg hm hr hs hf ht h0 f1 s1 p1⟩
      · refine t_goneAt (hm.fr p1) hg (by omega) (fun d m' K hm' hK => t_goneAll hg hh hm' hK) (firstA_pos hg hh) (fun m' fm => ?_)
        have fz := sfs_pos (P := fun d => decide (sm3 (sat g d).1 i = 0)) (B := 61) (firstA_pos hg hh) (by omega)
        have fl := sfs_le (fun d => decide (sm3 (sat g d).1 i = 0)) 61
        refine xjn_i (fun z => z = nI (sfs (fun d => decide (sm3 (sat g d).1 i = 0)) 61)) ?_ (fun J hJ => ?_)
        · rintro _ rfl
          rcases p2 with ⟨rfl, rfl, rfl⟩ | ⟨i0, rfl, rfl⟩
          · refine ⟨fun q => absurd q ?_, fun _ => ?_⟩
            · rw [Int32.le_iff_toInt_le, nI_toInt (by omega), show (-1 : Int32).toInt = -1 from rfl]
              omega
            · rintro _ rfl
              refine hag (_, _, m') hh ⟨p1.tr fm, Or.inr ⟨by omega, ?_⟩⟩
              rw [lld_y (f := fun k => sfs (fun d => decide (sm3 (sat g d).1 k = 0)) 61) (i := 0) fz]
              dsimp only
              exact ⟨rfl, rfl⟩
          · have b2 := bl i
            refine pk_le _ _ (fun e4 => ?_) (fun e4 => ?_)
            · rintro _ rfl
              rw [nI_1]
              refine hag (_, _, m') hh ⟨p1.tr fm, Or.inr ⟨by omega, ?_⟩⟩
              rw [lld_n (f := fun k => sfs (fun d => decide (sm3 (sat g d).1 k = 0)) 61) (i := i) (by omega)]
              exact ⟨rfl, rfl⟩
            · rintro _ rfl
              rw [nI_1]
              refine hag (_, _, m') hh ⟨p1.tr fm, Or.inr ⟨by omega, ?_⟩⟩
              rw [lld_y (f := fun k => sfs (fun d => decide (sm3 (sat g d).1 k = 0)) 61) (i := i) e4]
              dsimp only
              exact ⟨rfl, rfl⟩
        · unfold gon
          by_cases e61 : sfs (fun d => decide (sm3 (sat g d).1 i = 0)) 61 = 61
          · rw [if_pos e61]
            exact ⟨fun q => absurd q (by decide), fun _ => hJ _ (by rw [e61]; rfl)⟩
          · rw [if_neg e61]
            exact ⟨fun _ => hJ _ rfl, fun q => absurd (nI_pos' (by omega)) q⟩
    · refine w_in_y hv (by omega) rfl (b1' ?_)
      rw [hm.1]
      exact pk_ne (g 0 1) 0 (fun q => absurd e q) (fun _ => ⟨rfl, h⟩)
  · exact w_bl_n hv (by omega) rfl (b0' (w_in_n hv (by omega) rfl (b0' ⟨rfl, h⟩)))
