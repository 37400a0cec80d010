theorem mul2 (a : Nat) : (2 : Int32) * nI a = nI (2 * a) := pk_mul 2 a
theorem mul2r (a : Nat) : nI a * (2 : Int32) = nI (a * 2) := pk_mul a 2
theorem mul3 (a : Nat) : (3 : Int32) * nI a = nI (3 * a) := pk_mul 3 a
theorem mul3r (a : Nat) : nI a * (3 : Int32) = nI (a * 3) := pk_mul a 3
theorem mul6 (a : Nat) : (6 : Int32) * nI a = nI (6 * a) := pk_mul 6 a
theorem mul6r (a : Nat) : nI a * (6 : Int32) = nI (a * 6) := pk_mul a 6
theorem mul7 (a : Nat) : (7 : Int32) * nI a = nI (7 * a) := pk_mul 7 a
theorem mul7r (a : Nat) : nI a * (7 : Int32) = nI (a * 7) := pk_mul a 7
theorem mul9 (a : Nat) : (9 : Int32) * nI a = nI (9 * a) := pk_mul 9 a
theorem mul9r (a : Nat) : nI a * (9 : Int32) = nI (a * 9) := pk_mul a 9
theorem mul10 (a : Nat) : (10 : Int32) * nI a = nI (10 * a) := pk_mul 10 a
theorem mul10r (a : Nat) : nI a * (10 : Int32) = nI (a * 10) := pk_mul a 10
theorem mul21 (a : Nat) : (21 : Int32) * nI a = nI (21 * a) := pk_mul 21 a
theorem mul21r (a : Nat) : nI a * (21 : Int32) = nI (a * 21) := pk_mul a 21
theorem mul60 (a : Nat) : (60 : Int32) * nI a = nI (60 * a) := pk_mul 60 a
theorem mul60r (a : Nat) : nI a * (60 : Int32) = nI (a * 60) := pk_mul a 60
theorem add1 (a : Nat) : nI a + (1 : Int32) = nI (a + 1) := nI_add a 1
theorem add2 (a : Nat) : nI a + (2 : Int32) = nI (a + 2) := nI_add a 2
theorem add3 (a : Nat) : nI a + (3 : Int32) = nI (a + 3) := nI_add a 3
theorem add6 (a : Nat) : nI a + (6 : Int32) = nI (a + 6) := nI_add a 6
theorem okS_b {g : gN} {t : sT} (hg : okG g) (h : okS g t) {k : Nat} (hk : k < g 0 1) : (∀ p, p < 3 → t.1 (3 * k + p) ≤ 90) ∧ t.2.1 k ≤ 270 ∧ t.2.2 k ≤ 270 := by
  obtain ⟨h1, h2⟩ := h k hk
  have b := (hg.2.2.1 k hk).2.2.2.2
  have b0 := b 0 (by decide)
  have b1 := b 1 (by decide)
  have b2 := b 2 (by decide)
  simp only [Nat.add_zero] at b0
  refine ⟨fun p hp => ?_, by omega, by omega⟩
  have := h1 p hp
  have := b p hp
  omega
/-- what flows off the first p parts of a statue -/
def spf (g : gN) (t : sT) (k d : Nat) : Nat → Nat
  | 0 => 0
  | p + 1 => spf g t k d p + min (t.1 (3 * k + p)) (sK g k p d)
theorem spf_le (g : gN) (t : sT) (k d : Nat) (h : ∀ p, p < 3 → t.1 (3 * k + p) ≤ 90) : ∀ p, p ≤ 3 → spf g t k d p ≤ 90 * p
  | 0, _ => Nat.le_refl _
  | p + 1, hp => by
    have h1 := spf_le g t k d h p (by omega)
    have h2 := h p (by omega)
    show spf g t k d p + _ ≤ _
    omega
theorem srn_f (g : gN) (d : Nat) (t : sT) (k : Nat) : (srn g d t).2.1 k = t.2.1 k + spf g t k d 3 := by
  show t.2.1 k + min (t.1 (3 * k)) (sK g k 0 d) + min (t.1 (3 * k + 1)) (sK g k 1 d) + min (t.1 (3 * k + 2)) (sK g k 2 d) = t.2.1 k + (0 + min (t.1 (3 * k + 0)) (sK g k 0 d) + min (t.1 (3 * k + 1)) (sK g k 1 d) + min (t.1 (3 * k + 2)) (sK g k 2 d))
  simp only [Nat.add_zero, Nat.zero_add]
  omega
theorem t_rainOn {n d : Nat} {m : xM} {g : gN} {t : sT} {K : xM → Prop} (hm : mr m g) (hg : okG g) (hs : ms m g t) (ht : okS g t) (hd : d < 60) (hn : 100 ≤ n) (hK : ∀ m', fr3 m m' → ms m' g (srn g d t) → K m') : wp_X7_rainOn n (nI d) m K := by
  have hN := hg.1
  unfold wp_X7_rainOn
  refine lpg (fun i (x : xM) => (nI i, x)) (g 0 1) (fun i x => fr3 m x ∧ ∀ k, k < g 0 1 → (∀ p, p < 3 → x 11 (3 * k + p) = nI (if k < i then (srn g d t).1 (3 * k + p) else t.1 (3 * k + p))) ∧ x 12 k = nI (if k < i then (srn g d t).2.1 k else t.2.1 k) ∧ x 13 k = nI (t.2.2 k)) ?_ (i := 0) (t := m) ⟨fr3.rf m, fun k hk => hs k hk⟩ (by omega) (by omega)
  intro i x again hi ⟨p1, p2⟩ hag
  have hx := hm.fr p1
  dsimp only
  rw [hx.1]
  refine pk_le (g 0 1) i (fun h => ?_) (fun h => ?_)
  · refine hK x p1 (fun k hk => ?_)
    obtain ⟨q1, q2, q3⟩ := p2 k hk
    refine ⟨fun p hp => ?_, ?_, q3⟩
    · rw [q1 p hp, if_pos (by omega)]
    · rw [q2, if_pos (by omega)]
  · obtain ⟨ob1, ob2, ob3⟩ := okS_b hg ht h
    refine lpg (fun j (y : xM) => (nI j, y)) 3 (fun j y => fr3 m y ∧ (∀ k, k < g 0 1 → k ≠ i → (∀ p, p < 3 → y 11 (3 * k + p) = nI (if k < i then (srn g d t).1 (3 * k + p) else t.1 (3 * k + p))) ∧ y 12 k = nI (if k < i then (srn g d t).2.1 k else t.2.1 k) ∧ y 13 k = nI (t.2.2 k)) ∧ (∀ p, p < 3 → y 11 (3 * i + p) = nI (if p < j then t.1 (3 * i + p) - sK g i p d else t.1 (3 * i + p))) ∧ y 12 i = nI (t.2.1 i + spf g t i d j) ∧ y 13 i = nI (t.2.2 i)) ?_ (i := 0) (t := x) ⟨p1, fun k hk _ => p2 k hk, fun p hp => ?_, ?_, (p2 i h).2.2⟩ (by omega) (by omega)
    · intro j y ag hj ⟨q1, q2, q3, q4, q5⟩ hag2
      have hy := hm.fr q1
      dsimp only
      refine pk_le 3 j (fun h3 => ?_) (fun h3 => ?_)
      · rintro _ rfl
        rw [nI_1]
        refine hag _ h ⟨q1, fun k hk => ?_⟩
        by_cases e : k = i
        · subst e
          refine ⟨fun p hp => ?_, ?_, q5⟩
          · rw [q3 p hp, if_pos (by omega), if_pos (by omega), srn_h g d t k p hp]
          · rw [q4, if_pos (by omega), srn_f, show j = 3 by omega]
        · obtain ⟨r1, r2, r3⟩ := q2 k hk e
          refine ⟨fun p hp => ?_, ?_, r3⟩
          · rw [r1 p hp]
            by_cases e2 : k < i
            · rw [if_pos e2, if_pos (by omega)]
            · rw [if_neg e2, if_neg (by omega)]
          · rw [r2]
            by_cases e2 : k < i
            · rw [if_pos e2, if_pos (by omega)]
            · rw [if_neg e2, if_neg (by omega)]
      · have e1 : (3 : Int32) * nI i + nI j = nI (3 * i + j) := by rw [mul3, nI_add]
        simp only [e1, nI_clamp (show 3 * i + j < 2 ^ 31 by omega), nI_clamp (show i < 2 ^ 31 by omega)]
        have hsK := sK_le (k := i) (p := j) hg hd
        have ha := q3 j h3
        rw [if_neg (by omega)] at ha
        have hob := ob1 j h3
        refine ⟨pk_in (3 * i + j) 21 (by omega), t_losesBy hy hg h h3 hd ?_⟩
        rw [ha]
        refine t_lesser (by omega) (by omega) ⟨pk_in (3 * i + j) 21 (by omega), pk_in (3 * i + j) 21 (by omega), ?_⟩
        rintro _ rfl
        refine ⟨pk_in i 7 (by omega), pk_in i 7 (by omega), ?_⟩
        rintro _ rfl _ rfl
        rw [nI_1, xu_a (by decide), q4, nI_add, pk_sub (by omega)]
        refine hag2 _ h3 ⟨(q1.u (by omega)).u (by omega), fun k hk e => ?_, fun p hp => ?_, ?_, ?_⟩
        · obtain ⟨r1, r2, r3⟩ := q2 k hk e
          refine ⟨fun p hp => ?_, ?_, ?_⟩
          · rw [xu_a (by decide), xu_j (by omega)]; exact r1 p hp
          · rw [xu_j e, xu_a (by decide)]; exact r2
          · rw [xu_a (by decide), xu_a (by decide)]; exact r3
        · rw [xu_a (by decide)]
          by_cases e : p = j
          · subst e
            rw [xu_s, if_pos (by omega), show t.1 (3 * i + p) - min (t.1 (3 * i + p)) (sK g i p d) = t.1 (3 * i + p) - sK g i p d by omega]
          · rw [xu_j (by omega), q3 p hp]
            by_cases e2 : p < j
            · rw [if_pos e2, if_pos (by omega)]
            · rw [if_neg e2, if_neg (by omega)]
        · rw [xu_s, Nat.add_assoc]
          rfl
        · rw [xu_a (by decide), xu_a (by decide)]; exact q5
    · rw [(p2 i h).1 p hp, if_neg (by omega), if_neg (by omega)]
    · rw [(p2 i h).2.1, if_neg (by omega)]; rfl
theorem t_canLick {n k : Nat} {m : xM} {g : gN} {t : sT} {K : Int32 → Prop} (hm : mr m g) (hg : okG g) (hs : ms m g t) (ht : okS g t) (hk : k < g 0 1) (hK : K (if scn g t.1 k = true then 1 else 0)) : wp_X7_canLick n (nI k) m K := by
  have hN := hg.1
  obtain ⟨b1, b2, b3, b4, b5⟩ := hg.2.2.1 k hk
  have b52 := b5 2 (by decide)
  obtain ⟨ob1, -, -⟩ := okS_b hg ht hk
  have ob12 := ob1 2 (by decide)
  obtain ⟨e1, e2, e3, e4, e5⟩ := hm.2.2.1 k hk
  have e52 := e5 2 (by decide)
  have s2 := (hs k hk).1 2 (by decide)
  unfold wp_X7_canLick
  have ei : (3 : Int32) * nI k + 2 = nI (3 * k + 2) := by rw [mul3, add2]
  simp only [ei, nI_clamp (show 3 * k + 2 < 2 ^ 31 by omega), nI_clamp (show k < 2 ^ 31 by omega)]
  refine ⟨pk_in (3 * k + 2) 21 (by omega), ?_⟩
  rintro _ rfl
  rw [s2, e4, e1, e52, mul2]
  refine ⟨pk_in k 7 (by omega), pk_ne (g 5 k) 0 (fun h => ?_) (fun h => ⟨pk_in k 7 (by omega), pk_ne (g 1 k) 0 (fun h1 => ⟨pk_in (3 * k + 2) 21 (by omega), pk_le (2 * t.1 (3 * k + 2)) (g 2 (3 * k + 2)) (fun h2 => ?_) (fun h2 => ?_)⟩) (fun h1 => pk_le (t.1 (3 * k + 2)) 0 (fun h2 => ?_) (fun h2 => ?_))⟩)⟩
  all_goals simp [scn, h] at hK
  · exact hK
  all_goals simp [h1] at hK
  · rw [if_neg (by omega)] at hK; exact hK
  · rw [if_pos (by omega)] at hK; exact hK
  · rw [if_neg (by omega)] at hK; exact hK
  · rw [if_pos (by omega)] at hK; exact hK
theorem t_likedNow {n : Nat} {m : xM} {g : gN} {t : sT} {K : Int32 → Prop} (hm : mr m g) (hg : okG g) (hs : ms m g t) (ht : okS g t) (hn : 100 ≤ n) (hK : K (sbi (sbt g t.1 (g 0 1)))) : wp_X7_likedNow n m K := by
  have hN := hg.1
  unfold wp_X7_likedNow
  refine lpg (fun i (_ : Unit) => (nI i, sbi (sbt g t.1 i))) (g 0 1) (fun _ _ => True) ?_ (i := 0) (t := ()) trivial (by omega) (by omega)
  intro i _ again hi _ hag
  dsimp only
  rw [hm.1]
  refine pk_le (g 0 1) i (fun h => ?_) (fun h => ?_)
  · rw [show i = g 0 1 by omega]; exact hK
  · have hag := hag () h trivial
    have ob := (okS_b hg ht h).1 2 (by decide)
    have s2 := (hs i h).1 2 (by decide)
    have eb : sbt g t.1 (i + 1) = match sbt g t.1 i with
      | none => if scn g t.1 i = true then some i else none
      | some j => if scn g t.1 i = true ∧ t.1 (3 * j + 2) < t.1 (3 * i + 2) then some i else some j := rfl
    rw [eb] at hag
    refine t_canLick hm hg hs ht h ?_
    have ei : (3 : Int32) * nI i + 2 = nI (3 * i + 2) := by rw [mul3, add2]
    by_cases hc : scn g t.1 i = true
    · rw [if_pos hc]
      refine ⟨fun h0 => absurd h0 (by decide), fun _ => ?_⟩
      cases hb : sbt g t.1 i with
      | none =>
        rw [hb] at hag
        simp only [hc, if_true, sbi] at hag ⊢
        refine ⟨fun _ => ?_, fun h0 => absurd (by decide) h0⟩
        rintro _ rfl
        rw [nI_1]; exact hag
      | some j =>
        have hj := (sbt_lt hb).1
        have obj := (okS_b hg ht (show j < g 0 1 by omega)).1 2 (by decide)
        have sj := (hs j (by omega)).1 2 (by decide)
        have ej : (3 : Int32) * nI j + 2 = nI (3 * j + 2) := by rw [mul3, add2]
        rw [hb] at hag
        simp only [hc, true_and, sbi] at hag ⊢
        refine ⟨fun h0 => absurd h0 (nI_pos (by omega)), fun _ => ?_⟩
        simp only [ei, ej, nI_clamp (show 3 * i + 2 < 2 ^ 31 by omega), nI_clamp (show 3 * j + 2 < 2 ^ 31 by omega)]
        refine ⟨pk_in (3 * i + 2) 21 (by omega), pk_in (3 * j + 2) 21 (by omega), ?_⟩
        rw [s2, sj]
        refine pk_le (t.1 (3 * i + 2)) (t.1 (3 * j + 2)) (fun h2 => ?_) (fun h2 => ?_)
        · rintro _ rfl
          rw [if_neg (by omega)] at hag
          rw [nI_1]; exact hag
        · rintro _ rfl
          rw [if_pos h2] at hag
          rw [nI_1]; exact hag
    · rw [if_neg hc]
      refine ⟨fun _ => ?_, fun h0 => absurd rfl h0⟩
      rintro _ rfl
      rw [nI_1]
      cases hb : sbt g t.1 i with
      | none =>
        rw [hb] at hag
        simp only [hc] at hag
        exact hag
      | some j =>
        rw [hb] at hag
        simp only [hc, false_and, if_false] at hag
        exact hag
theorem t_lickDay {n D : Nat} {m : xM} {g : gN} {t : sT} {again : Int32 × xM → Prop} {K : xM → Prop} (hm : mr m g) (hg : okG g) (hs : ms m g t) (ht : okS g t) (hn : 100 ≤ n) (hK : ∀ m', fr3 m m' → ms m' g (slk g t) → K m') :
    wp_X7_likedNow n m (fun r_16 : Int32 => ((r_16 < 0 → K m) ∧ (¬ r_16 < 0 → (vp_in (((3 : Int32) * r_16) + (2 : Int32)) 21 ∧ wp_X7_lesser n (2 : Int32) (m 11 (((3 : Int32) * r_16) + (2 : Int32)).toNatClampNeg) m (fun r_35 : Int32 => (vp_in (((3 : Int32) * r_16) + (2 : Int32)) 21 ∧ (vp_in (((3 : Int32) * r_16) + (2 : Int32)) 21 ∧ (∀ m_54 : xM, m_54 = xu m 11 (((3 : Int32) * r_16) + (2 : Int32)).toNatClampNeg ((m 11 (((3 : Int32) * r_16) + (2 : Int32)).toNatClampNeg) - r_35) → (vp_in r_16 7 ∧ (vp_in r_16 7 ∧ (∀ m_65 : xM, m_65 = xu m_54 13 r_16.toNatClampNeg ((m_54 13 r_16.toNatClampNeg) + r_35) → K m_65))))))))))) := by
  have hN := hg.1
  refine t_likedNow hm hg hs ht hn ?_
  cases hb : sbt g t.1 (g 0 1) with
  | none =>
    refine ⟨fun _ => hK m (fr3.rf m) ?_, fun h0 => absurd (by decide) h0⟩
    unfold slk
    rw [hb]
    exact hs
  | some j =>
    have hj := (sbt_lt hb).1
    obtain ⟨o1, -, o3⟩ := okS_b hg ht hj
    have obj := o1 2 (by decide)
    have sj := (hs j hj).1 2 (by decide)
    have ej : (3 : Int32) * nI j + 2 = nI (3 * j + 2) := by rw [mul3, add2]
    refine ⟨fun h0 => absurd h0 (nI_pos (by omega)), fun _ => ?_⟩
    simp only [sbi, ej, nI_clamp (show 3 * j + 2 < 2 ^ 31 by omega), nI_clamp (show j < 2 ^ 31 by omega), sj]
    refine ⟨pk_in (3 * j + 2) 21 (by omega), t_lesser (a := 2) (by omega) (by omega) ⟨pk_in (3 * j + 2) 21 (by omega), pk_in (3 * j + 2) 21 (by omega), ?_⟩⟩
    rintro _ rfl
    refine ⟨pk_in j 7 (by omega), pk_in j 7 (by omega), ?_⟩
    rintro _ rfl
    rw [xu_a (by decide), (hs j hj).2.2, nI_add, pk_sub (by omega)]
    refine hK _ ((fr3.rf m).u (by omega) |>.u (by omega)) ?_
    unfold slk
    rw [hb]
    intro k hk
    obtain ⟨r1, r2, r3⟩ := hs k hk
    refine ⟨fun p hp => ?_, ?_, ?_⟩
    · rw [xu_a (by decide)]
      show _ = nI (su t.1 (3 * j + 2) _ (3 * k + p))
      by_cases e : 3 * k + p = 3 * j + 2
      · rw [e, xu_s, su_s]
      · rw [xu_j e, su_n e]; exact r1 p hp
    · rw [xu_a (by decide), xu_a (by decide)]; exact r2
    · show _ = nI (su t.2.2 j _ k)
      by_cases e : k = j
      · subst e; rw [xu_s, su_s]
      · rw [xu_j e, su_n e, xu_a (by decide)]; exact r3
theorem t_goDay {n d : Nat} {m : xM} {g : gN} {t : sT} {K : xM → Prop} (hm : mr m g) (hg : okG g) (hs : ms m g t) (ht : okS g t) (hd : d < 60) (hn : 100 ≤ n) (hK : ∀ m', fr3 m m' → ms m' g (sdy g d t) → K m') : wp_X7_goDay n (nI d) m K := by
  unfold wp_X7_goDay
  refine t_rainOn hm hg hs ht hd hn (fun m1 f1 s1 => ?_)
  have hD := hg.2.1
  refine lpg (fun i (x : xM) => (nI i, x)) (g 0 14) (fun i x => fr3 m x ∧ ms x g (slks g i (srn g d t))) ?_ (i := 0) (t := m1) ⟨f1, s1⟩ (by omega) (by omega)
  intro i x again hi ⟨p1, p2⟩ hag
  dsimp only
  rw [(hm.fr p1).2.1]
  refine pk_le (g 0 14) i (fun h => ?_) (fun h => ?_)
  · refine hK x p1 ?_
    unfold sdy
    rw [show g 0 14 = i by omega]
    exact p2
  · refine t_lickDay (D := 0) (again := again) (K := fun y => ∀ x2_66 : Int32, x2_66 = nI i + 1 → again (x2_66, y)) (hm.fr p1) hg p2 (slks_ok (srn_ok ht) i) hn (fun y fy sy => ?_)
    rintro _ rfl
    rw [nI_1]
    exact hag y h ⟨p1.tr fy, sy⟩
theorem t_goTo {n d : Nat} {m : xM} {g : gN} {K : xM → Prop} (hm : mr m g) (hg : okG g) (hd : d ≤ 60) (hn : 100 ≤ n) (hK : ∀ m', fr3 m m' → ms m' g (sat g d) → K m') : wp_X7_goTo n (nI d) m K := by
  unfold wp_X7_goTo
  refine t_begin hm hg hn (fun m1 f1 s1 => ?_)
  refine lpg (fun i (x : xM) => (nI i, x)) d (fun i x => fr3 m x ∧ ms x g (sat g i)) ?_ (i := 0) (t := m1) ⟨f1, s1⟩ (by omega) (by omega)
  intro i x again hi ⟨p1, p2⟩ hag
  dsimp only
  refine pk_le d i (fun h => ?_) (fun h => ?_)
  · rw [show d = i by omega] at hK
    exact hK x p1 p2
  · refine t_goDay (hm.fr p1) hg p2 (sat_ok g i) (by omega) hn (fun y fy sy => ?_)
    rintro _ rfl
    rw [nI_1]
    exact hag y h ⟨p1.tr fy, sy⟩
