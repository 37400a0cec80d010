def hol (g : gN) (kk pp dd vv : Nat → Nat) : Nat → Bool
  | 0 => true
  | q + 1 => hol g kk pp dd vv q && decide ((sat g (dd q)).1 (3 * kk q + pp q) = vv q)
theorem hol_y {g : gN} {kk pp dd vv : Nat → Nat} : ∀ {q : Nat}, (∀ x, x < q → (sat g (dd x)).1 (3 * kk x + pp x) = vv x) → hol g kk pp dd vv q = true
  | 0, _ => rfl
  | q + 1, h => by
    unfold hol
    rw [hol_y (q := q) (fun x hx => h x (by omega)), decide_eq_true (h q (by omega))]
    rfl
theorem hol_n {g : gN} {kk pp dd vv : Nat → Nat} : ∀ {q : Nat}, hol g kk pp dd vv q = true → ∀ x, x < q → (sat g (dd x)).1 (3 * kk x + pp x) = vv x
  | 0, _, x, hx => absurd hx (by omega)
  | q + 1, h, x, hx => by
    unfold hol at h
    rw [Bool.and_eq_true] at h
    by_cases e : x = q
    · subst e; exact of_decide_eq_true h.2
    · exact hol_n h.1 x (by omega)
theorem rd_fun {c m : xM} {g : gN} (h : rd c m g) : ∃ (q : Nat) (kk pp dd vv : Nat → Nat), q ≤ 8 ∧ c 31 4 = nI q ∧ m 0 19 = nI q ∧ (∀ x, x < q → kk x < g 0 1 ∧ pp x < 3 ∧ dd x ≤ 60 ∧ vv x < 100 ∧ c 32 x = nI (kk x) ∧ c 33 x = nI (pp x) ∧ c 34 x = nI (dd x) ∧ c 35 x = nI (vv x)) ∧ ∀ x, x < q → m 15 x = nI (kk x) ∧ m 16 x = nI (pp x) ∧ m 17 x = nI (dd x) ∧ m 18 x = nI (vv x) := by
  obtain ⟨q, hq, h1, h2, h3⟩ := h
  refine ⟨q, fun x => if h : x < q then (h3 x h).choose else 0, fun x => if h : x < q then (h3 x h).choose_spec.choose else 0, fun x => if h : x < q then (h3 x h).choose_spec.choose_spec.choose else 0, fun x => if h : x < q then (h3 x h).choose_spec.choose_spec.choose_spec.choose else 0, hq, h1, h2, fun x hx => ?_, fun x hx => ?_⟩
  · dsimp only
    rw [dif_pos hx, dif_pos hx, dif_pos hx, dif_pos hx]
    obtain ⟨a1, a2, a3, a4, a5, a6, a7, a8, a9, a10, a11, a12⟩ := (h3 x hx).choose_spec.choose_spec.choose_spec.choose_spec
    exact ⟨a1, a2, a3, a4, a5, a7, a9, a11⟩
  · dsimp only
    rw [dif_pos hx, dif_pos hx, dif_pos hx, dif_pos hx]
    obtain ⟨a1, a2, a3, a4, a5, a6, a7, a8, a9, a10, a11, a12⟩ := (h3 x hx).choose_spec.choose_spec.choose_spec.choose_spec
    exact ⟨a6, a8, a10, a12⟩
theorem sat_b {g : gN} (hg : okG g) {k p : Nat} (hk : k < g 0 1) (hp : p < 3) (d : Nat) : (sat g d).1 (3 * k + p) ≤ 90 := (okS_b hg (sat_ok g d) hk).1 p hp
theorem u_allHold {n q : Nat} {kk pp dd vv : Nat → Nat} {c : xM} {g : gN} {K : Int32 → xM → Prop} (hc : cs c g) (hg : okG g) (hq : q ≤ 8) (hn : 100 ≤ n) (h31 : c 31 4 = nI q) (hx : ∀ x, x < q → kk x < g 0 1 ∧ pp x < 3 ∧ dd x ≤ 60 ∧ vv x < 100 ∧ c 32 x = nI (kk x) ∧ c 33 x = nI (pp x) ∧ c 34 x = nI (dd x) ∧ c 35 x = nI (vv x)) (hK : ∀ c', frW c c' → cs c' g → K (if hol g kk pp dd vv q = true then 1 else 0) c') : wp_X1_allHold n c K := by
  unfold wp_X1_allHold
  refine lpg (fun i (x : xM) => (nI i, x)) q (fun i x => frW c x ∧ cs x g ∧ ∀ y, y < i → (sat g (dd y)).1 (3 * kk y + pp y) = vv y) ?_ (i := 0) (t := c) ⟨frW.rf c, hc, fun y hy => absurd hy (by omega)⟩ (by omega) (by omega)
  intro i x again hi ⟨p1, p2, p3⟩ hag
  dsimp only
  have fR : ∀ a, 31 ≤ a → x a = c a := fun a ha => p1.1 a (by omega) (by omega) (by omega) (by omega)
  rw [fR 31 (by omega), h31]
  refine pk_le q i (fun hh => ?_) (fun hh => ?_)
  · have := hK x p1 p2
    rw [if_pos (hol_y (fun y hy => p3 y (by omega)))] at this
    exact this
  · obtain ⟨a1, a2, a3, a4, a5, a6, a7, a8⟩ := hx i hh
    rw [nI_clamp (by omega), fR 32 (by omega), fR 33 (by omega), fR 34 (by omega), a5, a6, a7]
    refine ⟨pk_in i 8 (by omega), pk_in i 8 (by omega), pk_in i 8 (by omega), u_leftOfPart p2 hg a1 a2 a3 hn (fun y f s => ⟨pk_in i 8 (by omega), ?_⟩)⟩
    have hb := sat_b hg a1 a2 (dd i)
    rw [(p1.tr f).1 35 (by omega) (by omega) (by omega) (by omega), a8]
    refine pk_eq ((sat g (dd i)).1 (3 * kk i + pp i)) (vv i) (fun e => ?_) (fun e => ?_)
    · rintro _ rfl
      rw [nI_1]
      refine hag y hh ⟨p1.tr f, s, fun z hz => ?_⟩
      by_cases e2 : z = i
      · subst e2; exact e
      · exact p3 z (by omega)
    · have := hK y (p1.tr f) s
      rw [if_neg (fun z => e (hol_n z i hh))] at this
      exact this
theorem t_areSo {n q : Nat} {kk pp dd vv : Nat → Nat} {m : xM} {g : gN} {K : Int32 → xM → Prop} (hm : mr m g) (hg : okG g) (hq : q ≤ 8) (hn : 100 ≤ n) (h19 : m 0 19 = nI q) (hb : ∀ x, x < q → kk x < g 0 1 ∧ pp x < 3 ∧ dd x ≤ 60 ∧ vv x < 100) (hx : ∀ x, x < q → m 15 x = nI (kk x) ∧ m 16 x = nI (pp x) ∧ m 17 x = nI (dd x) ∧ m 18 x = nI (vv x)) (hK : ∀ m', fr3 m m' → K (if hol g kk pp dd vv q = true then 1 else 0) m') : wp_X7_areSo n m K := by
  unfold wp_X7_areSo
  have hN := hg.1
  refine t_begin hm hg hn (fun m0 f0 s0 => ?_)
  refine lpg (fun i (t : Int32 × xM) => (nI i, t.1, t.2)) 61 (fun i t => fr3 m t.2 ∧ (i ≤ 60 → ms t.2 g (sat g i)) ∧ ((t.1 = 1 ∧ ∀ x, x < q → dd x < i → (sat g (dd x)).1 (3 * kk x + pp x) = vv x) ∨ (t.1 = 0 ∧ ¬ ∀ x, x < q → dd x < i → (sat g (dd x)).1 (3 * kk x + pp x) = vv x))) ?_ (i := 0) (t := ((1 : Int32), m0)) ⟨f0, fun _ => s0, Or.inl ⟨rfl, fun x _ hd => absurd hd (by omega)⟩⟩ (by omega) (by omega)
  rintro i ⟨fl, x⟩ again hi ⟨p1, p2, p3⟩ hag
  dsimp only at p1 p2 p3 ⊢
  refine pk_lt 60 i (fun hh => ?_) (fun hh => ?_)
  · have hR := hK x p1
    rcases p3 with ⟨e, p3⟩ | ⟨e, p3⟩
    · rw [if_pos (hol_y (fun y hy => p3 y hy (by have := (hb y hy).2.2.1; omega)))] at hR
      rw [e]
      exact ⟨xb_1, hR⟩
    · rw [if_neg (fun z => p3 (fun y hy _ => hol_n z y hy))] at hR
      rw [e]
      exact ⟨xb_0, hR⟩
  · have s := p2 hh
    refine xjn_i (fun v => (v = 1 ∧ ∀ x, x < q → dd x < i + 1 → (sat g (dd x)).1 (3 * kk x + pp x) = vv x) ∨ (v = 0 ∧ ¬ ∀ x, x < q → dd x < i + 1 → (sat g (dd x)).1 (3 * kk x + pp x) = vv x)) ?_ ?_
    · intro v hv
      refine pk_le 60 i (fun h60 => ?_) (fun h60 => ?_)
      · rintro _ rfl
        rw [nI_1]
        exact hag (v, x) (by omega) ⟨p1, fun z => absurd z (by omega), hv⟩
      · refine t_goDay (hm.fr p1) hg s (sat_ok g i) (by omega) hn (fun y f sy => ?_)
        rintro _ rfl
        rw [nI_1]
        exact hag (v, y) (by omega) ⟨p1.tr f, fun _ => sy, hv⟩
    · intro J hJ
      refine lpg (fun y (v : Int32) => (nI y, v)) q (fun y v => (v = 1 ∧ (∀ x, x < q → dd x < i → (sat g (dd x)).1 (3 * kk x + pp x) = vv x) ∧ ∀ x, x < y → dd x = i → (sat g (dd x)).1 (3 * kk x + pp x) = vv x) ∨ (v = 0 ∧ ¬ ∀ x, x < q → dd x < i + 1 → (sat g (dd x)).1 (3 * kk x + pp x) = vv x)) ?_ (i := 0) (t := fl) ?_ (by omega) (by omega)
      · rintro y v ag hy hv hag2
        dsimp only
        rw [p1 0 (by omega) (by omega) (by omega), h19]
        refine pk_le q y (fun h2 => ?_) (fun h2 => ?_)
        · refine hJ v ?_
          rcases hv with ⟨e, b1, b2⟩ | ⟨e, b1⟩
          · refine Or.inl ⟨e, fun z hz hd => ?_⟩
            by_cases e2 : dd z = i
            · exact b2 z (by omega) e2
            · exact b1 z hz (by omega)
          · exact Or.inr ⟨e, b1⟩
        · rcases hv with ⟨e, b1, b2⟩ | ⟨e, b1⟩
          · rw [e]
            obtain ⟨a1, a2, a3, a4⟩ := hb y h2
            obtain ⟨c1, c2, c3, c4⟩ := hx y h2
            rw [nI_clamp (by omega), p1 17 (by omega) (by omega) (by omega), p1 15 (by omega) (by omega) (by omega), p1 16 (by omega) (by omega) (by omega), p1 18 (by omega) (by omega) (by omega), c1, c2, c3, c4, mul3, nI_add, nI_clamp (by omega)]
            refine ⟨fun q => absurd q (by decide), fun _ => ⟨pk_in y 8 (by omega), pk_ne (dd y) i (fun e2 => ?_) (fun e2 => ⟨pk_in y 8 (by omega), pk_in y 8 (by omega), pk_in (3 * kk y + pp y) 21 (by omega), pk_in y 8 (by omega), ?_⟩)⟩⟩
            · rintro _ rfl
              rw [nI_1]
              refine hag2 1 h2 (Or.inl ⟨rfl, b1, fun z hz hd => ?_⟩)
              by_cases e3 : z = y
              · subst e3; exact absurd hd e2
              · exact b2 z (by omega) hd
            · have hb := sat_b hg a1 a2 i
              rw [(s (kk y) a1).1 (pp y) a2]
              refine pk_ne ((sat g i).1 (3 * kk y + pp y)) (vv y) (fun e3 => ?_) (fun e3 => ?_)
              · rintro _ rfl
                rw [nI_1]
                refine hag2 0 h2 (Or.inr ⟨rfl, fun z => e3 ?_⟩)
                have := z y h2 (by omega)
                rw [e2] at this
                exact this
              · rintro _ rfl
                rw [nI_1]
                refine hag2 1 h2 (Or.inl ⟨rfl, b1, fun z hz hd => ?_⟩)
                by_cases e4 : z = y
                · subst e4; rw [e2]; exact e3
                · exact b2 z (by omega) hd
          · rw [e]
            refine ⟨fun _ => ?_, fun q => absurd rfl q⟩
            rintro _ rfl
            rw [nI_1]
            exact hag2 0 h2 (Or.inr ⟨rfl, b1⟩)
      · rcases p3 with ⟨e, p3⟩ | ⟨e, p3⟩
        · exact Or.inl ⟨e, p3, fun z hz => absurd hz (by omega)⟩
        · exact Or.inr ⟨e, fun z => p3 (fun w hw hd => z w hw (by omega))⟩
