theorem sKK_2 (kd lk r w p : Nat) : sKK kd lk 2 r w p = 0 := by
  unfold sKK
  rw [if_pos rfl]
theorem sL_2 (kd lk : Nat) (r w : Nat → Nat) : ∀ d, sL kd lk 2 r w d = 0
  | 0 => rfl
  | d + 1 => by
    show sL kd lk 2 r w d + sKK kd lk 2 (r d) (w d) 0 = 0
    rw [sL_2 kd lk r w d, sKK_2]
def gno (g : gN) (d : Nat) : Nat := bset (fun k => decide ((sat g d).1 (3 * k) = 0)) (g 0 1)
theorem u_nosesGone {n d : Nat} {c : xM} {g : gN} {K : Int32 → xM → Prop} (hc : cs c g) (hg : okG g) (hd : d ≤ 60) (hn : 100 ≤ n) (hK : ∀ c', frW c c' → cs c' g → K (nI (gno g d)) c') : wp_X0_nosesGone n (nI d) c K := by
  have hN := hg.1
  unfold wp_X0_nosesGone
  refine lpg (fun i (x : xM) => (nI i, nI (bset (fun k => decide ((sat g d).1 (3 * k) = 0)) i), x)) (g 0 1) (fun i x => frW c x ∧ cs x g) ?_ (i := 0) (t := c) ⟨frW.rf c, hc⟩ (by omega) (by omega)
  intro i x again hi ⟨p1, p2⟩ hag
  dsimp only
  rw [p2.1.1]
  refine pk_le (g 0 1) i (fun hh => ?_) (fun hh => ?_)
  · have := hK x p1 p2
    unfold gno at this
    rw [show i = g 0 1 by omega]; exact this
  · refine u_leftOfPart (p := 0) p2 hg hh (by omega) hd hn (fun y f s => ?_)
    have hb := sat_b hg hh (p := 0) (by omega) d
    simp only [Nat.add_zero] at hb ⊢
    have hag := hag y hh ⟨p1.tr f, s⟩
    unfold bset at hag
    refine pk_ne ((sat g d).1 (3 * i)) 0 (fun e => ?_) (fun e => ?_)
    · rintro _ rfl
      rw [if_neg (by rw [decide_eq_true_iff]; exact e)] at hag
      rw [nI_1]; exact hag
    · rw [ishl (by omega), ior]
      rintro _ rfl _ rfl
      rw [if_pos (by rw [decide_eq_true_iff]; exact e)] at hag
      rw [nI_1]; exact hag
def gRf (g : gN) (s : Nat) : Nat → Nat := fun k => if s / 2 ^ k % 2 = 1 then 2 else g 4 k
theorem rf_alive {g : gN} (hg : okG g) {s d : Nat} : cnt (fun k => decide (0 < (sat (gU g (gRf g s)) d).1 (3 * k))) (g 0 1) = g 0 1 ↔ ∀ k, k < g 0 1 → (sat g d).1 (3 * k) = 0 → s.testBit k = true := by
  have key : ∀ k, k < g 0 1 → (decide (0 < (sat (gU g (gRf g s)) d).1 (3 * k)) = true ↔ ((sat g d).1 (3 * k) = 0 → s.testBit k = true)) := by
    intro k hk
    have bF := ((hg.2.2.1 k hk).2.2.2.2 0 (by omega)).1
    simp only [Nat.add_zero] at bF
    rw [decide_eq_true_iff, gU_nose]
    have tm := tb_mod s k
    unfold gRf
    by_cases q : s.testBit k = true
    · rw [if_pos q] at tm
      rw [if_pos tm, sL_2]
      exact ⟨fun _ _ => q, fun _ => by omega⟩
    · rw [if_neg q] at tm
      rw [if_neg (by omega), sat_nose]
      constructor
      · intro h1 h2; omega
      · intro h1
        by_cases e : g 2 (3 * k) - sL (g 1 k) (g 3 k) (g 4 k) (g 9) (g 10) d = 0
        · exact absurd (h1 e) q
        · omega
  constructor
  · intro h k hk
    exact (key k hk).1 (cnt_all h k hk)
  · intro h
    exact cnt_full (fun k hk => (key k hk).2 (h k hk))
theorem gno_t {g : gN} {d k : Nat} : (gno g d).testBit k = (decide (k < g 0 1) && decide ((sat g d).1 (3 * k) = 0)) := bset_t _ k (g 0 1)
theorem rf_up {g : gN} {s d : Nat} (h : ∀ k, k < g 0 1 → (sat g d).1 (3 * k) = 0 → s.testBit k = true) : gno g d ≤ s ∧ bcn (gno g d) ≤ bcn s := by
  have sub : ∀ k, (gno g d).testBit k = true → s.testBit k = true := by
    intro k hk
    rw [gno_t, Bool.and_eq_true, decide_eq_true_iff, decide_eq_true_iff] at hk
    exact h k hk.1 hk.2
  refine ⟨?_, cnt_mono (fun k _ => sub k)⟩
  have e : gno g d &&& s = gno g d := by
    refine Nat.eq_of_testBit_eq (fun k => ?_)
    rw [Nat.testBit_and]
    cases q : (gno g d).testBit k
    · rfl
    · rw [sub k q]; rfl
  rw [← e]
  exact Nat.and_le_right
theorem rf_self {g : gN} {d : Nat} : ∀ k, k < g 0 1 → (sat g d).1 (3 * k) = 0 → (gno g d).testBit k = true := by
  intro k hk h
  rw [gno_t, decide_eq_true hk, decide_eq_true h]
  rfl
theorem st_roofs {μC μM : xM} (h : rl μC μM) (a1 : Int32) (a2 : Int32) : wp_X6_roofs 2000 a1 a2 μC (fun (r1 : Int32) (uC : xM) => wp_X7_roofs 2000 a1 a2 μM (fun (r2 : Int32) (uM : xM) => r1 = r2 ∧ rl uC uM)) := by
  obtain ⟨⟨g, hg, hm, hc, hr⟩, hs, hf, ht, h0⟩ := id h
  have hN := hg.1
  unfold wp_X6_roofs wp_X7_roofs
  rcases in_or a1 61 with ⟨d, hd, rfl⟩ | hd
  · refine u_isDawn_y (by omega) (b1' ?_)
    rcases in_or a2 2 with ⟨w, hw, rfl⟩ | hw
    · refine w_bl_y hw (by omega) rfl (b1 ?_)
      rw [hc.1.1]
      refine pk_ne (g 0 1) 0 (fun e => ?_) (fun e => ?_)
      · refine u_nosesGone hc hg (by omega) (by omega) (fun c1 fc s1 => ?_)
        have e2 : 2 ^ g 0 1 ≤ 2 ^ 7 := Nat.pow_le_pow_right (by omega) hN
        have gl : gno g d < 2 ^ g 0 1 := bset_lt _ _
        have gl7 : gno g d < 128 := Nat.lt_of_lt_of_le gl e2
        have mdl : wp_X7_roofs 2000 (nI d) (nI w) μM (fun (r2 : Int32) (uM : xM) => (if w = 0 then nI (gno g d) else nI (bcn (gno g d))) = r2 ∧ rl c1 uM) := by
          unfold wp_X7_roofs
          refine t_isDawn_y (by omega) (b1' (w_in_y hw (by omega) rfl (b1 ?_)))
          rw [hm.1]
          refine pk_ne (g 0 1) 0 (fun _ => ?_) (fun q => absurd q e)
          refine t_keepOver (by omega) (fun m1 k1 k2 => ?_)
          refine xjn_i (fun (t : Int32 × xM) => t.1 = nI (gno g d) ∧ ∀ a, a ≠ 4 → a ≠ 11 → a ≠ 12 → a ≠ 13 → t.2 a = m1 a) ?_ (fun J hJ => ?_)
          · rintro ⟨t1, y⟩ ⟨p1, p3⟩
            dsimp only at p1 p3 ⊢
            subst p1
            refine t_takeOver (by omega) (fun m2 v1 v2 => ?_)
            have fin : rl c1 m2 := by
              refine rl_keep4 hg hm hr hs hf ht h0 fc s1 (fun a a1 a2 a3 a4 a5 => ?_) (fun j hj => ?_)
              · rw [v1 a a1, p3 a a1 a2 a3 a4, k1 a a5]
              · rw [v2 j hj, p3 14 (by omega) (by omega) (by omega) (by omega), k2 j hj]
            refine ⟨fun q => absurd q (nI_pos (by omega)), fun _ => pk_ne w 0 (fun q => ?_) (fun q => ?_)⟩
            · refine t_bcn (by omega) gl7 ?_
              rw [if_neg q]; exact ⟨rfl, fin⟩
            · rw [if_pos q]; exact ⟨rfl, fin⟩
          · refine lpg (fun s (t : Int32 × xM) => (nI s, t.1, t.2)) (2 ^ g 0 1) (fun s t => ((s ≤ gno g d ∧ t.1 = -9) ∨ (gno g d < s ∧ t.1 = nI (gno g d))) ∧ ∀ a, a ≠ 4 → a ≠ 11 → a ≠ 12 → a ≠ 13 → t.2 a = m1 a) ?_ (i := 0) (t := ((-9 : Int32), m1)) ⟨Or.inl ⟨Nat.zero_le _, rfl⟩, fun _ _ _ _ _ => rfl⟩ (Nat.zero_le _) (by have := Nat.zero_le (2 ^ g 0 1); omega)
            rintro s ⟨t1, y⟩ again hs2 ⟨p1, p3⟩ hag
            dsimp only at p1 p3 ⊢
            have yb : ∀ a, a ≠ 4 → a ≠ 11 → a ≠ 12 → a ≠ 13 → a ≠ 14 → y a = μM a := fun a a1 a2 a3 a4 a5 => by rw [p3 a a1 a2 a3 a4, k1 a a5]
            have y01 : y 0 1 = nI (g 0 1) := by rw [yb 0 (by omega) (by omega) (by omega) (by omega) (by omega)]; exact hm.1
            have y14 : ∀ k, k < g 0 1 → y 14 k = nI (g 4 k) := fun k hk => by rw [p3 14 (by omega) (by omega) (by omega) (by omega), k2 k (by omega)]; exact (hm.2.2.1 k hk).2.2.1
            rw [y01, ishl (by omega)]
            refine pk_le (2 ^ g 0 1) s (fun hh => ?_) (fun hh => ?_) (ha := Nat.lt_of_le_of_lt e2 (by decide)) (hb := Nat.lt_of_le_of_lt (Nat.le_trans hs2 e2) (by decide))
            · have e3 := Nat.le_antisymm hs2 hh
              rcases p1 with ⟨q, _⟩ | ⟨_, q⟩
              · exact absurd (Nat.lt_of_lt_of_le gl hh) (Nat.not_lt.2 q)
              · exact hJ _ ⟨q, p3⟩
            · have s128 : s < 128 := Nat.lt_of_lt_of_le hh e2
              refine xjn_i (fun v => v = nI s ∧ ((s ≤ gno g d ∧ t1 = -9) ∨ (gno g d < s ∧ t1 = nI (gno g d) ∧ bcn s < bcn (gno g d)))) ?_ (fun J2 hJ2 => ?_)
              · rintro _ ⟨rfl, hc2⟩
                refine xjn_i (fun z => (∀ a, a ≠ 4 → z a = y a) ∧ ∀ k, k < g 0 1 → z 4 k = nI (gRf g s k)) ?_ (fun J3 hJ3 => ?_)
                · rintro z ⟨z1, z2⟩
                  have zm : mr z (gU g (gRf g s)) := gU_mr hm (fun a a1 a2 a3 a4 a5 => by rw [z1 a a1]; exact yb a a1 a2 a3 a4 a5) z2
                  have zg : okG (gU g (gRf g s)) := gU_ok hg (fun k hk => by
                    show (if s / 2 ^ k % 2 = 1 then 2 else g 4 k) < 3
                    split
                    · omega
                    · exact (hg.2.2.1 k hk).2.2.1)
                  refine t_goTo (d := d) zm zg (by omega) (by omega) (fun m3 f3 s3 => ?_)
                  have fr : ∀ a, a ≠ 4 → a ≠ 11 → a ≠ 12 → a ≠ 13 → m3 a = m1 a := fun a a1 a2 a3 a4 => by rw [f3 a a2 a3 a4, z1 a a1]; exact p3 a a1 a2 a3 a4
                  refine t_nosesNow (zm.fr f3) zg s3 (sat_ok _ d) (by omega) ?_
                  have e01 : gU g (gRf g s) 0 1 = g 0 1 := rfl
                  rw [(zm.fr f3).1, e01]
                  have bc := cnt_le (fun k => decide (0 < (sat (gU g (gRf g s)) d).1 (3 * k))) (g 0 1)
                  refine pk_ne (cnt (fun k => decide (0 < (sat (gU g (gRf g s)) d).1 (3 * k))) (g 0 1)) (g 0 1) (fun q => ?_) (fun q => ?_)
                  · rintro _ rfl
                    rw [nI_1]
                    refine hag (t1, m3) hh ⟨?_, fr⟩
                    rcases hc2 with ⟨q1, q2⟩ | ⟨q1, q2, _⟩
                    · refine Or.inl ⟨?_, q2⟩
                      by_cases e4 : s = gno g d
                      · exfalso
                        apply q
                        rw [rf_alive hg, e4]
                        exact rf_self
                      · show s + 1 ≤ gno g d
                        omega
                    · exact Or.inr ⟨Nat.lt_succ_of_lt q1, q2⟩
                  · rintro _ rfl
                    rw [nI_1]
                    have up := rf_up ((rf_alive hg).1 q)
                    refine hag (nI s, m3) hh ⟨Or.inr ?_, fr⟩
                    rcases hc2 with ⟨q1, q2⟩ | ⟨q1, q2, q3⟩
                    · have e4 : s = gno g d := by omega
                      exact ⟨by show gno g d < s + 1; omega, by show nI s = _; rw [e4]⟩
                    · omega
                · refine lpg (fun k (z : xM) => (nI k, z)) (g 0 1) (fun k z => (∀ a, a ≠ 4 → z a = y a) ∧ ∀ j, j < k → z 4 j = nI (gRf g s j)) ?_ (i := 0) (t := y) ⟨fun _ _ => rfl, fun j hj => absurd hj (by omega)⟩ (by omega) (by omega)
                  intro k z ag hk ⟨z1, z2⟩ hag2
                  dsimp only
                  rw [z1 0 (by omega), y01]
                  refine pk_le (g 0 1) k (fun h2 => ?_) (fun h2 => ?_)
                  · exact hJ3 z ⟨z1, fun j hj => z2 j (by omega)⟩
                  · have dl : s / 2 ^ k ≤ s := Nat.div_le_self _ _
                    rw [nI_clamp (by omega), ishr (by omega) (by omega), iand1 (by omega)]
                    have nxt : ∀ v : Int32, v = nI (gRf g s k) → ∀ m_107 : xM, m_107 = xu z 4 k v → ∀ x5_108 : Int32, x5_108 = nI k + 1 → ag (x5_108, m_107) := by
                      rintro v ev _ rfl _ rfl
                      rw [nI_1]
                      refine hag2 _ h2 ⟨fun a ha => by rw [xu_ne ha]; exact z1 a ha, fun j hj => ?_⟩
                      by_cases e3 : j = k
                      · rw [e3, xu_s, ev]
                      · rw [xu_j e3]; exact z2 j (by omega)
                    refine pk_ne (s / 2 ^ k % 2) 1 (fun q => ⟨pk_in k 7 (by omega), pk_in k 7 (by omega), ?_⟩) (fun q => ⟨pk_in k 7 (by omega), ?_⟩)
                    · refine nxt _ ?_
                      rw [z1 14 (by omega), y14 k h2]
                      unfold gRf
                      rw [if_neg q]
                    · refine nxt _ ?_
                      unfold gRf
                      rw [if_pos q]
                      rfl
              · rcases p1 with ⟨q1, q2⟩ | ⟨q1, q2⟩
                · rw [q2]
                  exact ⟨fun _ => hJ2 _ ⟨rfl, Or.inl ⟨q1, q2⟩⟩, fun z => absurd (by decide) z⟩
                · have p1' : (s + 1 ≤ gno g d ∧ t1 = -9) ∨ (gno g d < s + 1 ∧ t1 = nI (gno g d)) := Or.inr ⟨Nat.lt_succ_of_lt q1, q2⟩
                  have hJ3 := hJ2
                  rw [q2]
                  refine ⟨fun z => absurd z (nI_pos (by omega)), fun _ => ?_⟩
                  refine t_bcn (by omega) s128 (t_bcn (by omega) gl7 ?_)
                  have w1 := bcn_le s
                  have w2 := bcn_le (gno g d)
                  refine pk_le (bcn (gno g d)) (bcn s) (fun q => ?_) (fun q => ?_)
                  · rintro _ rfl
                    rw [nI_1, ← q2]
                    exact hag (t1, y) hh ⟨p1', p3⟩
                  · exact hJ3 _ ⟨rfl, Or.inr ⟨q1, q2, q⟩⟩
        refine pk_ne w 0 (fun q => ?_) (fun q => ?_)
        · refine u_bcn gl7 ?_
          rw [if_neg q] at mdl
          exact mdl
        · rw [if_pos q] at mdl
          exact mdl
      · refine t_isDawn_y (by omega) (b1' (w_in_y hw (by omega) rfl (b1 ?_)))
        rw [hm.1]
        exact pk_ne (g 0 1) 0 (fun q => absurd e q) (fun _ => ⟨rfl, h⟩)
    · exact w_bl_n hw (by omega) rfl (b0 (t_isDawn_y (by omega) (b1' (w_in_n hw (by omega) rfl (b0 ⟨rfl, h⟩)))))
  · exact u_isDawn_n hd (b0' (t_isDawn_n hd (b0' ⟨rfl, h⟩)))
