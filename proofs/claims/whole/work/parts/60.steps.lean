theorem t_flag {n : Nat} {a1 a5 : Int32} {m : xM} {J : Int32 → Prop} (h1 : ∀ d w, d ≤ 60 → w < 2 → a1 = nI d → a5 = nI w → J 1) (h0 : (nin a1 61 ∨ nin a5 2) → J 0) : wp_X7_isDawn n a1 m (fun r_9 : Int32 => xjn J (fun J31 : Int32 → Prop => xjn (fun (_ : Unit) => J31 (0 : Int32)) (fun J30 : Unit → Prop => ((r_9 = 0 → J30 ()) ∧ (¬ r_9 = 0 → wp_X7_in n (a5.toInt64) (0 : Int64) (1 : Int64) m (fun r_20 : Int32 => ((r_20 = 0 → J30 ()) ∧ (¬ r_20 = 0 → J31 (1 : Int32))))))))) := by
  rcases in_or a1 61 with ⟨d, hd, rfl⟩ | hd
  · refine t_isDawn_y (by omega) ?_
    rcases in_or a5 2 with ⟨w, hw, rfl⟩ | hw
    · exact xjn_i (fun v => v = (1 : Int32)) (fun _ e => by rw [e]; exact h1 d w (by omega) hw rfl rfl) (fun J31 hJ => xjn_i (fun _ => False) (fun _ q => absurd q id) (fun J30 hJ0 => b1' (w_in_y hw (by omega) rfl (b1' (hJ _ rfl)))))
    · exact xjn_i (fun v => v = (0 : Int32)) (fun _ e => by rw [e]; exact h0 (Or.inr hw)) (fun J31 hJ => xjn_i (fun _ => True) (fun _ _ => hJ _ rfl) (fun J30 hJ0 => b1' (w_in_n hw (by omega) rfl (b0' (hJ0 _ trivial)))))
  · refine t_isDawn_n hd ?_
    exact xjn_i (fun v => v = (0 : Int32)) (fun _ e => by rw [e]; exact h0 (Or.inl hd)) (fun J31 hJ => xjn_i (fun _ => True) (fun _ _ => hJ _ rfl) (fun J30 hJ0 => b0' (hJ0 _ trivial)))
theorem uz_apart {n k k2 i d : Nat} {v : Nat → Nat} {c : xM} {g : gN} {K : Int32 → xM → Prop} (hc : cs c g) (hg : okG g) (hk : k < g 0 1) (hk2 : k2 < 4) (hi : i + 3 ≤ 60) (hd : d ≤ 60) (hn : 100 ≤ n) (hv : ∀ p, p < 3 → v p < 1000) (hx : ∀ p, p < 3 → c (6 + k2) (i + p) = nI (v p)) (hK : ∀ c', frW c c' → cs c' g → K (nI (ap (sat g d).1 v k 3)) c') : wp_X5_apart n (nI k) k2 (nI i) (nI d) c K := by
  have hN := hg.1
  unfold wp_X5_apart
  refine u_wo hc hg hd hn (fun c' f s r _ => ?_)
  have hb : ∀ p, p < 3 → (sat g d).1 (3 * k + p) ≤ 90 := fun p hp => sat_b hg hk hp d
  refine lpg (fun p (_ : Unit) => (nI p, nI (ap (sat g d).1 v k p))) 3 (fun _ _ => True) ?_ (i := 0) (t := ()) trivial (by omega) (by omega)
  intro p _ again hp _ hag
  dsimp only
  refine pk_le 3 p (fun hh => ?_) (fun hh => u_placeOf ⟨pk_in (d * 21 + k * 3 + p) 1281 (by omega), ?_⟩)
  · rw [show p = 3 by omega]; exact hK c' f s
  · have q1 := hb p hh
    have q2 := hv p hh
    rw [nI_add, nI_clamp (by omega), nI_clamp (by omega), (r d (by omega) k hk).1 p hh, f.1 (6 + k2) (by omega) (by omega) (by omega) (by omega), hx p hh, i_abs (by omega) (by omega)]
    refine ⟨pk_in (i + p) 60 (by omega), ?_⟩
    rintro _ rfl _ rfl _ rfl
    rw [nI_add, nI_1]
    exact hag () hh trivial
theorem uz_nearest {n k2 i d : Nat} {v : Nat → Nat} {c : xM} {g : gN} {K : Int32 → xM → Prop} (hc : cs c g) (hg : okG g) (h0 : 0 < g 0 1) (hk2 : k2 < 4) (hi : i + 3 ≤ 60) (hd : d ≤ 60) (hn : 100 ≤ n) (hv : ∀ p, p < 3 → v p < 1000) (hx : ∀ p, p < 3 → c (6 + k2) (i + p) = nI (v p)) (hK : ∀ c', frW c c' → cs c' g → K (nI (nr (fun k => ap (sat g d).1 v k 3) (g 0 1))) c') : wp_X5_nearest n k2 (nI i) (nI d) c K := by
  have hN := hg.1
  unfold wp_X5_nearest
  have hb : ∀ k, k < g 0 1 → ap (sat g d).1 v k 3 ≤ 6000 := fun k hk => ap_le _ v k (fun p hp => sat_b hg hk hp d) hv 3 (by omega)
  have e0 : nr (fun k => ap (sat g d).1 v k 3) 1 = 0 := if_neg (by show ¬ ap (sat g d).1 v 0 3 < ap (sat g d).1 v 0 3; omega)
  refine (fun (z : ∀ s : Int32, s = nI (nr (fun k => ap (sat g d).1 v k 3) 1) → xlp _ n ((1 : Int32), s, c)) => z 0 (by rw [e0]; rfl)) ?_
  rintro _ rfl
  refine lpg (fun j (x : xM) => (nI j, nI (nr (fun k => ap (sat g d).1 v k 3) j), x)) (g 0 1) (fun j x => 1 ≤ j ∧ frW c x ∧ cs x g) ?_ (i := 1) (t := c) ⟨by omega, frW.rf c, hc⟩ (by omega) (by omega)
  intro j x again hj ⟨p0, p1, p2⟩ hag
  dsimp only
  rw [p2.1.1]
  refine pk_le (g 0 1) j (fun hh => ?_) (fun hh => ?_)
  · rw [show j = g 0 1 by omega]; exact hK x p1 p2
  · have hx' : ∀ y, frW c y → ∀ p, p < 3 → y (6 + k2) (i + p) = nI (v p) := fun y f p hp => by rw [f.1 (6 + k2) (by omega) (by omega) (by omega) (by omega)]; exact hx p hp
    have hr := nr_lt (fun k => ap (sat g d).1 v k 3) (i := j) (B := g 0 1) (by omega) (by omega)
    refine uz_apart p2 hg hh hk2 hi hd hn hv (hx' x p1) (fun y f2 s2 => ?_)
    refine uz_apart s2 hg hr hk2 hi hd hn hv (hx' y (p1.tr f2)) (fun z f3 s3 => ?_)
    have q1 := hb j hh
    have q2 := hb _ hr
    have hag := hag z hh ⟨by omega, (p1.tr f2).tr f3, s3⟩
    unfold nr at hag
    refine pk_le (ap (sat g d).1 v (nr (fun k => ap (sat g d).1 v k 3) j) 3) (ap (sat g d).1 v j 3) (fun e => ?_) (fun e => ?_)
    · rw [if_neg (by omega)] at hag
      rintro _ rfl
      rw [nI_1]; exact hag
    · rw [if_pos (by omega)] at hag
      rintro _ rfl
      rw [nI_1]; exact hag
