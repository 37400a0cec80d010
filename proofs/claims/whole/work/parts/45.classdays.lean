theorem imin {a b : Nat} (ha : a < 2 ^ 31) (hb : b < 2 ^ 31) : (if nI b < nI a then nI b else nI a) = nI (min a b) := by
  by_cases h : b < a
  · rw [if_pos ((nI_ltI hb ha).mpr h), show min a b = b by omega]
  · rw [if_neg (fun z => h ((nI_ltI hb ha).mp z)), show min a b = a by omega]
theorem imax {a b : Nat} (ha : a < 2 ^ 31) (hb : b < 2 ^ 31) : (if nI a < nI b then nI b else nI a) = nI (max a b) := by
  by_cases h : a < b
  · rw [if_pos ((nI_ltI ha hb).mpr h), show max a b = b by omega]
  · rw [if_neg (fun z => h ((nI_ltI ha hb).mp z)), show max a b = a by omega]
theorem imin2 {b : Nat} (hb : b < 2 ^ 31) : (if nI b < (2 : Int32) then nI b else (2 : Int32)) = nI (min 2 b) := imin (a := 2) (by decide) hb
theorem sKK_0 (kd lk ov w p : Nat) : sKK kd lk ov 0 w p = 0 := by
  unfold sKK
  repeat' split
  all_goals omega
theorem slks_add (g : gN) (t : sT) (a : Nat) : ∀ b, slks g (a + b) t = slks g b (slks g a t)
  | 0 => rfl
  | b + 1 => by
    show slk g (slks g (a + b) t) = slk g (slks g b (slks g a t))
    rw [slks_add g t a b]
theorem frD.u14 {d x : Nat} {c c' : xM} {v : Int32} (h : frD d c c') (hx : d * 21 ≤ x) : frD d c (xu c' 14 x v) :=
  ⟨fun a h1 h2 h3 => (xu_ne h1).trans (h.1 a h1 h2 h3), fun y hy => (xu_j (by omega)).trans (h.2.1 y hy), fun y hy => (xu_a (by decide)).trans (h.2.2.1 y hy), fun y hy => (xu_a (by decide)).trans (h.2.2.2 y hy)⟩
theorem frD.u15 {d x : Nat} {c c' : xM} {v : Int32} (h : frD d c c') (hx : d * 7 ≤ x) : frD d c (xu c' 15 x v) :=
  ⟨fun a h1 h2 h3 => (xu_ne h2).trans (h.1 a h1 h2 h3), fun y hy => (xu_a (by decide)).trans (h.2.1 y hy), fun y hy => (xu_j (by omega)).trans (h.2.2.1 y hy), fun y hy => (xu_a (by decide)).trans (h.2.2.2 y hy)⟩
theorem frD.u16 {d x : Nat} {c c' : xM} {v : Int32} (h : frD d c c') (hx : d ≤ x + 1) : frD d c (xu c' 16 x v) :=
  ⟨fun a h1 h2 h3 => (xu_ne h3).trans (h.1 a h1 h2 h3), fun y hy => (xu_a (by decide)).trans (h.2.1 y hy), fun y hy => (xu_a (by decide)).trans (h.2.2.1 y hy), fun y hy => (xu_j (by omega)).trans (h.2.2.2 y hy)⟩
theorem u_pour {n d : Nat} {c : xM} {g : gN} {t : sT} {K : xM → Prop} (hc : cr c g) (hg : okG g) (hs : cd c g (d + 1) t) (ht : okS g t) (hd : d < 60) (hn : 100 ≤ n) (hK : ∀ c', frD (d + 1) c c' → cd c' g (d + 1) (srn g d t) → K c') : wp_X5_pour n (nI d) c K := by
  have hN := hg.1
  obtain ⟨r1, r2⟩ := hc.2.2.2 d hd
  obtain ⟨gr, gw⟩ := hg.2.2.2 d hd
  unfold wp_X5_pour
  simp only [nI_clamp (show d < 2 ^ 31 by omega), r1]
  refine ⟨pk_in d 60 hd, pk_ne (g 9 d) 0 (fun h0 => ?_) (fun h0 => ?_)⟩
  · refine lpg (fun i (x : xM) => (nI i, x)) (g 0 1) (fun i x => frD (d + 1) c x ∧ ∀ k, k < g 0 1 → (∀ p, p < 3 → x 14 ((d + 1) * 21 + k * 3 + p) = nI (if k < i then t.1 (3 * k + p) - sK g k p d else t.1 (3 * k + p))) ∧ x 15 ((d + 1) * 7 + k) = nI (t.2.2 k)) ?_ (i := 0) (t := c) ⟨frD.rf _ c, fun k hk => hs k hk⟩ (by omega) (by omega)
    intro i x again hi ⟨p1, p2⟩ hag
    have hx := hc.fr hg p1
    dsimp only
    rw [hx.1]
    refine pk_le (g 0 1) i (fun h => ?_) (fun h => ?_)
    · refine hK x p1 (fun k hk => ⟨fun p hp => ?_, (p2 k hk).2⟩)
      rw [(p2 k hk).1 p hp, if_pos (by omega), srn_h g d t k p hp]
    · refine ⟨pk_in i 7 (by omega), ?_⟩
      rw [nI_clamp (by omega)]
      refine lpg (fun j (y : xM) => (nI j, y)) 3 (fun j y => frD (d + 1) c y ∧ ∀ k, k < g 0 1 → (∀ p, p < 3 → y 14 ((d + 1) * 21 + k * 3 + p) = nI (if k < i ∨ (k = i ∧ p < j) then t.1 (3 * k + p) - sK g k p d else t.1 (3 * k + p))) ∧ y 15 ((d + 1) * 7 + k) = nI (t.2.2 k)) ?_ (i := 0) (t := x) ⟨p1, fun k hk => ⟨fun p hp => ?_, (p2 k hk).2⟩⟩ (by omega) (by omega)
      · intro j y ag hj ⟨q1, q2⟩ hag2
        have hy := hc.fr hg q1
        obtain ⟨y1, y2⟩ := hy.2.2.2 d hd
        obtain ⟨z1, z2, z3, z4, z5⟩ := hy.2.2.1 i h
        obtain ⟨b1, b2, b3, b4, b5⟩ := hg.2.2.1 i h
        dsimp only
        refine pk_le 3 j (fun h3 => ?_) (fun h3 => ?_)
        · rintro _ rfl
          rw [nI_1]
          refine hag _ h ⟨q1, fun k hk => ⟨fun p hp => ?_, (q2 k hk).2⟩⟩
          rw [(q2 k hk).1 p hp]
          by_cases e : k < i + 1
          · rw [if_pos e, if_pos (by omega)]
          · rw [if_neg e, if_neg (by omega)]
        · have ob := (okS_b hg ht h).1 j h3
          have hsK := sK_le (k := i) (p := j) hg hd
          have ha := (q2 i h).1 j h3
          rw [if_neg (by omega)] at ha
          rw [add1]
          refine u_placeOf ?_
          have hi21 : (d + 1) * 21 + i * 3 + j < 1281 := by omega
          simp only [nI_clamp (show (d + 1) * 21 + i * 3 + j < 2 ^ 31 by omega), y1, y2, z2, z3, ha]
          refine ⟨pk_in d 60 hd, pk_in d 60 hd, u_washedOff z1 b1 b2 b3 gr gw h3 ⟨pk_in _ 1281 hi21, pk_in _ 1281 hi21, ?_⟩⟩
          rintro _ rfl
          refine ⟨pk_in _ 1281 hi21, ?_⟩
          rintro _ rfl _ rfl
          rw [nI_1]
          have e1 : (nI (t.1 (3 * i + j)) - if nI (t.1 (3 * i + j)) < nI (sKK (g 1 i) (g 3 i) (g 4 i) (g 9 d) (g 10 d) j) then nI (t.1 (3 * i + j)) else nI (sKK (g 1 i) (g 3 i) (g 4 i) (g 9 d) (g 10 d) j)) = nI (t.1 (3 * i + j) - sK g i j d) := by
            unfold sK at hsK ⊢
            by_cases e2 : t.1 (3 * i + j) < sKK (g 1 i) (g 3 i) (g 4 i) (g 9 d) (g 10 d) j
            · rw [if_pos ((nI_ltI (by omega) (by omega)).mpr e2), pk_sub (Nat.le_refl _)]
              congr 1
              omega
            · rw [if_neg (fun z => e2 ((nI_ltI (by omega) (by omega)).mp z)), pk_sub (by omega)]
          rw [e1]
          refine hag2 _ h3 ⟨q1.u14 (by omega), fun k hk => ⟨fun p hp => ?_, ?_⟩⟩
          · by_cases e : k = i ∧ p = j
            · obtain ⟨rfl, rfl⟩ := e
              rw [xu_s, if_pos (by omega)]
            · rw [xu_j (by omega), (q2 k hk).1 p hp]
              by_cases e2 : k < i ∨ (k = i ∧ p < j)
              · rw [if_pos e2, if_pos (by omega)]
              · rw [if_neg e2, if_neg (by omega)]
          · rw [xu_a (by decide)]; exact (q2 k hk).2
      · rw [(p2 k hk).1 p hp]
        by_cases e : k < i
        · rw [if_pos e, if_pos (Or.inl e)]
        · rw [if_neg e, if_neg (by omega)]
  · refine hK c (frD.rf _ c) (fun k hk => ⟨fun p hp => ?_, (hs k hk).2⟩)
    rw [(hs k hk).1 p hp, srn_h g d t k p hp]
    have e : sK g k p d = 0 := by unfold sK; rw [h0]; exact sKK_0 _ _ _ _ _
    rw [e, Nat.sub_zero]
theorem u_graze {n d : Nat} {c : xM} {g : gN} {t : sT} {K : xM → Prop} (hc : cr c g) (hg : okG g) (hs : cd c g (d + 1) t) (ht : okS g t) (hd : d < 60) (hn : 100 ≤ n) (hK : ∀ c', frD (d + 1) c c' → cd c' g (d + 1) (slks g (g 0 14) t) → c' 16 d = sbi (if g 0 14 = 0 then none else sbt g t.1 (g 0 1)) → K c') : wp_X5_graze n (nI d) c K := by
  have hN := hg.1
  have hD := hg.2.1
  unfold wp_X5_graze
  simp only [nI_clamp (show d < 2 ^ 31 by omega)]
  refine ⟨pk_in d 60 hd, ?_⟩
  rintro _ rfl
  refine lpg (fun i (x : xM) => (nI i, x)) (g 0 14) (fun i x => frD (d + 1) c x ∧ cd x g (d + 1) (slks g i t) ∧ x 16 d = sbi (if i = 0 then none else sbt g t.1 (g 0 1))) ?_ (i := 0) (t := xu c 16 d (-9)) ⟨(frD.rf _ c).u16 (by omega), fun k hk => ?_, xu_s _ _ _ _⟩ (by omega) (by omega)
  · intro i x again hi ⟨p1, p2, p3⟩ hag
    have hx := hc.fr hg p1
    dsimp only
    rw [hx.2.1]
    refine pk_le (g 0 14) i (fun h => ?_) (fun h => ?_)
    · refine hK x p1 ?_ ?_
      · rw [show g 0 14 = i by omega]; exact p2
      · rw [show g 0 14 = i by omega]; exact p3
    · rw [add1]
      have ht' := slks_ok ht i
      refine u_likedBest hx hg p2 ht' (by omega) hn ?_
      refine xjn_i (fun y => frD (d + 1) c y ∧ cd y g (d + 1) (slks g i t) ∧ y 16 d = sbi (sbt g t.1 (g 0 1))) ?_ ?_
      · rintro y ⟨q1, q2, q3⟩
        cases hb : sbt g (slks g i t).1 (g 0 1) with
        | none =>
          refine ⟨fun h0 => absurd rfl h0, fun _ => ?_⟩
          refine hK y q1 ?_ ?_
          · have e : slks g (g 0 14) t = slks g i t := by
              rw [show g 0 14 = i + (g 0 14 - i) by omega, slks_add, slks_none hb]
            rw [e]; exact q2
          · rw [if_neg (by omega)]; exact q3
        | some j =>
          have hj := (sbt_lt hb).1
          obtain ⟨o1, -, o3⟩ := okS_b hg ht' hj
          have obj := o1 2 (by decide)
          have sj := (q2 j hj).1 2 (by decide)
          have lj := (q2 j hj).2
          refine ⟨fun _ => ?_, fun h0 => absurd h0 (fun z => nI_pos (show j < 2 ^ 31 by omega) (by show nI j < 0; rw [show nI j = ((-9) : Int32) from z]; decide))⟩
          refine u_placeOf (p := 2) ?_
          have hi21 : (d + 1) * 21 + j * 3 + 2 < 1281 := by omega
          have e7 : nI (d + 1) * (7 : Int32) + nI j = nI ((d + 1) * 7 + j) := by rw [mul7r, nI_add]
          show _ ∧ _
          simp only [sbi, nI_clamp (show (d + 1) * 21 + j * 3 + 2 < 2 ^ 31 by omega), sj, e7, nI_clamp (show (d + 1) * 7 + j < 2 ^ 31 by omega)]
          refine ⟨pk_in _ 1281 hi21, ?_⟩
          rw [imin2 (by omega)]
          rintro _ rfl
          refine ⟨pk_in _ 1281 hi21, pk_in _ 1281 hi21, ?_⟩
          rintro _ rfl
          refine ⟨pk_in ((d + 1) * 7 + j) 427 (by omega), pk_in ((d + 1) * 7 + j) 427 (by omega), ?_⟩
          rintro _ rfl _ rfl
          rw [nI_1, xu_a (by decide), lj, nI_add, pk_sub (by omega)]
          refine hag _ h ⟨(q1.u14 (by omega)).u15 (by omega), ?_, ?_⟩
          · show cd _ g (d + 1) (slk g (slks g i t))
            unfold slk
            rw [hb]
            intro k hk
            refine ⟨fun p hp => ?_, ?_⟩
            · rw [xu_a (by decide)]
              show _ = nI (su (slks g i t).1 (3 * j + 2) _ (3 * k + p))
              by_cases e : 3 * k + p = 3 * j + 2
              · rw [e, su_s, show (d + 1) * 21 + k * 3 + p = (d + 1) * 21 + j * 3 + 2 by omega, xu_s]
              · rw [su_n e, xu_j (by omega)]; exact (q2 k hk).1 p hp
            · show _ = nI (su (slks g i t).2.2 j _ k)
              by_cases e : k = j
              · subst e; rw [xu_s, su_s]
              · rw [xu_j (by omega), su_n e, xu_a (by decide)]; exact (q2 k hk).2
          · rw [xu_a (by decide), xu_a (by decide), q3, if_neg (by omega)]
      · intro J hJ
        refine pk_ne i 0 (fun h0 => ?_) (fun h0 => ⟨pk_in d 60 hd, ?_⟩)
        · refine hJ x ⟨p1, p2, ?_⟩
          rw [p3, if_neg h0]
        · rintro _ rfl
          refine hJ _ ⟨p1.u16 (by omega), fun k hk => ⟨fun p hp => ?_, ?_⟩, ?_⟩
          · rw [xu_a (by decide)]; exact (p2 k hk).1 p hp
          · rw [xu_a (by decide)]; exact (p2 k hk).2
          · rw [xu_s, h0]
            rfl
  · obtain ⟨h1, h2⟩ := hs k hk
    exact ⟨fun p hp => by rw [xu_a (by decide)]; exact h1 p hp, by rw [xu_a (by decide)]; exact h2⟩
