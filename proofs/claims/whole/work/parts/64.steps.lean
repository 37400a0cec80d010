def frZ (m m' : xM) : Prop := (∀ b, b ≠ 0 → b ≠ 6 → b ≠ 7 → b ≠ 8 → m' b = m b) ∧ ∀ j, j ≠ 7 → j ≠ 8 → m' 0 j = m 0 j
theorem frZ.rf (m : xM) : frZ m m := ⟨fun _ _ _ _ _ => rfl, fun _ _ _ => rfl⟩
theorem frZ.tr {m m1 m2 : xM} (h : frZ m m1) (h2 : frZ m1 m2) : frZ m m2 := ⟨fun b b1 b2 b3 b4 => (h2.1 b b1 b2 b3 b4).trans (h.1 b b1 b2 b3 b4), fun j j1 j2 => (h2.2 j j1 j2).trans (h.2 j j1 j2)⟩
theorem frZ.u {m m1 : xM} {a j : Nat} {v : Int32} (h : frZ m m1) (ha : (a = 0 ∧ (j = 7 ∨ j = 8)) ∨ a = 6 ∨ a = 7 ∨ a = 8) : frZ m (xu m1 a j v) := by
  refine ⟨fun b b1 b2 b3 b4 => ?_, fun i i1 i2 => ?_⟩
  · rw [xu_ne (by omega)]; exact h.1 b b1 b2 b3 b4
  · rw [xu_if, if_neg (by omega)]; exact h.2 i i1 i2
theorem t_codeAt {n l w j : Nat} {x : Nat → Int32} {m : xM} {K : Int32 → Prop} (hl : w + l ≤ 240) (hj : j ≤ l) (h7 : m 0 7 = nI j) (hx : ∀ j, j < l → m 21 (w + j) = x j) (h1 : j < l → K (x j)) (h0 : j = l → K (-9)) : wp_X7_codeAt n (nI w) (nI l) m K := by
  unfold wp_X7_codeAt
  rw [h7]
  refine pk_le l j (fun e => h0 (by omega)) (fun e => ?_)
  rw [nI_add, nI_clamp (by omega), hx j e]
  exact ⟨pk_in (w + j) 240 (by omega), h1 e⟩
theorem t_fig {n lo hi : Nat} {c a b : Int32} {m : xM} {K : Int32 → Prop} (hh : hi ≤ 9) (hlo : lo ≤ hi) (ea : a = nI lo) (eb : b = nI hi) (h1 : dgt c lo hi → K 1) (h0 : ¬ dgt c lo hi → K 0) : wp_X7_in n (c - (48 : Int32)).toInt64 a.toInt64 b.toInt64 m K := by
  subst ea eb
  have t1 : (nI lo).toInt64.toInt = (lo : Int) := by rw [toI64, nI_toInt (by omega)]
  have t2 : (nI hi).toInt64.toInt = (hi : Int) := by rw [toI64, nI_toInt (by omega)]
  by_cases q : dgt c lo hi
  · obtain ⟨e1, e2, e3⟩ := dg_s q hh
    rw [e1]
    exact w_inL_y t1 t2 e2 e3 (by omega) (h1 q)
  · refine w_inL_n t1 t2 ?_ (h0 q)
    by_cases e : (c - (48 : Int32)).toInt < (lo : Int) ∨ (hi : Int) < (c - (48 : Int32)).toInt
    · exact e
    · exfalso
      apply q
      have t0 : (0 : Int32).toInt = 0 := rfl
      obtain ⟨v, hv, ev⟩ := nI_of (x := c - (48 : Int32)) (by rw [Int32.lt_iff_toInt_lt, t0]; omega)
      rw [ev, nI_toInt hv] at e
      refine ⟨v, by omega, by omega, ?_⟩
      have := congrArg (fun z => z + (48 : Int32)) ev
      rw [Int32.sub_add_cancel] at this
      rw [this, Nat.add_comm]
      exact nI_add v 48
theorem t_figure {n l w j lo hi : Nat} {x : Nat → Int32} {a b : Int32} {m : xM} {K : Int32 → xM → Prop} (hl : w + l ≤ 240) (hj : j ≤ l) (h7 : m 0 7 = nI j) (hx : ∀ j, j < l → m 21 (w + j) = x j) (hh : hi ≤ 9) (hlo : lo ≤ hi) (ea : a = nI lo) (eb : b = nI hi) (h1 : j < l → dgt (x j) lo hi → K (nI (dg (x j))) (xu m 0 7 (nI (j + 1)))) (h0 : (j < l → ¬ dgt (x j) lo hi) → K (-9) m) : wp_X7_figure n (nI w) (nI l) a b m K := by
  unfold wp_X7_figure
  refine t_codeAt hl hj h7 hx (fun e => ?_) (fun e => ?_)
  · rintro _ rfl
    refine t_fig hh hlo ea eb (fun q => b1' ?_) (fun q => b0' ?_)
    · rw [h7, nI_1]
      rintro _ rfl
      refine b1' ?_
      rw [(dg_s q hh).1]
      exact h1 e q
    · rw [h7, show nI j + (0 : Int32) = nI j from nI_add j 0, xu_id h7]
      rintro _ rfl
      exact b0' (h0 (fun _ => q))
  · rintro _ rfl
    have q : ¬ dgt (-9) lo hi := by
      rw [dgt_iff hh]
      have t9 : (-9 : Int32).toInt = -9 := rfl
      rw [t9]
      omega
    refine t_fig hh hlo ea eb (fun z => absurd z q) (fun _ => b0' ?_)
    rw [h7, show nI j + (0 : Int32) = nI j from nI_add j 0, xu_id h7]
    rintro _ rfl
    exact b0' (h0 (fun z => absurd z (by omega)))
def rwz (m : xM) (x : Nat → Int32) (q : Nat) : Prop := m 6 q = nI (kd (x (6 * q))) ∧ m 8 q = nI (dg (x (6 * q + 4))) ∧ ∀ t, t < 3 → m 7 (3 * q + t) = nI (10 * dg (x (6 * q + 1 + t)))
theorem t_readsOne {n l w p r s : Nat} {x : Nat → Int32} {m : xM} {K : Int32 → xM → Prop} (hn : 100 ≤ n) (hl : w + l ≤ 240) (hl2 : l ≤ 60) (hs : s ≤ 7) (h7 : m 0 7 = nI r) (h8 : m 0 8 = nI s) (hr : (s = 0 ∧ r = 0) ∨ (0 < s ∧ r + 1 = 6 * s ∧ r < l)) (hrp : r ≤ p) (hp : fp x l p) (hx : ∀ j, j < l → m 21 (w + j) = x j) (hf : (p < l ∨ l % 6 ≠ 5) → ∀ m', frZ m m' → m' 0 7 = nI p → K 0 m') (hok : s < 7 → 6 * s + 5 ≤ p → ∀ m', frZ m m' → m' 0 7 = nI (6 * s + 5) → m' 0 8 = nI (s + 1) → rwz m' x s → (∀ q, q < s → m' 6 q = m 6 q ∧ m' 8 q = m 8 q ∧ ∀ t, t < 3 → m' 7 (3 * q + t) = m 7 (3 * q + t)) → K 1 m') : wp_X7_readsOne n (nI w) (nI l) m K := by
  unfold wp_X7_readsOne
  obtain ⟨p1, p2, p3⟩ := hp
  have bad : ∀ j, j ≤ p → ¬ (j < l ∧ gd (x j) j) → j = p := by
    intro j h1 h2
    by_cases e : j = p
    · exact e
    · exact absurd ⟨by omega, p2 j (by omega)⟩ h2
  have hxz : ∀ m', frZ m m' → ∀ j, j < l → m' 21 (w + j) = x j := fun m' f j hj => by rw [f.1 21 (by omega) (by omega) (by omega) (by omega)]; exact hx j hj
  refine xjn_i (fun y => y = xu m 0 7 (nI (6 * s)) ∧ s < 7 ∧ 6 * s ≤ p) ?_ ?_
  · rintro _ ⟨rfl, s7, sp⟩
    have f1 : frZ m (xu m 0 7 (nI (6 * s))) := (frZ.rf m).u (by omega)
    have lt5 : ∀ t, t < 5 → 6 * s + t = p → (p < l ∨ l % 6 ≠ 5) := fun t ht e => by omega
    refine t_codeAt hl (by omega) (xu_s _ _ _ _) (hxz _ f1) (fun e => ?_) (fun e => ?_)
    · by_cases g : gd (x (6 * s)) (6 * s)
      · have hp1 : 6 * s + 1 ≤ p := by
          by_cases q : 6 * s = p
          · exact absurd (q ▸ g) (p3 (by omega))
          · omega
        have g' : x (6 * s) = 115 ∨ x (6 * s) = 98 ∨ x (6 * s) = 109 := by
          rcases g with ⟨_, q⟩ | ⟨q, _⟩ | ⟨q, _⟩ | ⟨q, _⟩
          · exact q
          · omega
          · omega
          · omega
        refine xjn_i (fun _ => True) ?_ (fun J hJ => ⟨fun _ => hJ _ trivial, fun n1 => ⟨fun _ => hJ _ trivial, fun n2 => ⟨fun _ => hJ _ trivial, fun n3 => ?_⟩⟩⟩)
        · rintro _ _
          rw [xu_s, nI_1, xu_xu]
          rintro _ rfl
          refine xjn_i (fun y => frZ m y ∧ y 0 7 = nI (6 * s + 4) ∧ y 0 8 = nI s ∧ 6 * s + 4 ≤ p ∧ y 6 = m 6 ∧ y 8 = m 8 ∧ (∀ t, t < 3 → y 7 (3 * s + t) = nI (10 * dg (x (6 * s + 1 + t)))) ∧ ∀ q, q < s → ∀ t, t < 3 → y 7 (3 * q + t) = m 7 (3 * q + t)) ?_ (fun J hJ => ?_)
          · rintro y ⟨fz, y7, y8, yp, y6, yy8, yr, yo⟩
            refine t_figure hl (by omega) y7 (hxz y fz) (lo := 0) (hi := 3) (by omega) (by omega) rfl rfl (fun e2 d2 => ?_) (fun q => ?_)
            · have e5 : 6 * s + 5 ≤ p := by
                by_cases q : 6 * s + 4 = p
                · exact absurd (q ▸ Or.inr (Or.inr (Or.inl ⟨by omega, d2⟩))) (p3 (by omega))
                · omega
              have dv := dg_s d2 (by omega)
              refine ⟨fun _ => ?_, fun z => absurd (nI_pos' (by omega)) z⟩
              rw [xu_j (by omega), y8, nI_clamp (by omega)]
              refine ⟨pk_in s 7 s7, ?_⟩
              rintro _ rfl
              refine xjn_i (fun v => v = nI (kd (x (6 * s)))) ?_ (fun J hJ => ?_)
              · rintro _ rfl
                rw [xu_a (by omega), xu_j (by omega), y8, nI_clamp (by omega)]
                refine ⟨pk_in s 7 s7, ?_⟩
                rintro _ rfl
                rw [xu_a (by omega), xu_a (by omega), xu_j (by omega), y8, nI_1]
                rintro _ rfl
                refine hok s7 e5 _ ((((fz.u (by omega)).u (by omega)).u (by omega)).u (by omega)) ?_ (xu_s _ _ _ _) ⟨?_, ?_, fun t ht => ?_⟩ (fun q hq => ⟨?_, ?_, fun t ht => ?_⟩)
                · rw [xu_j (by omega), xu_a (by omega), xu_a (by omega), xu_s]
                · rw [xu_a (by omega), xu_s]
                · rw [xu_a (by omega), xu_a (by omega), xu_s]
                · rw [xu_a (by omega), xu_a (by omega), xu_a (by omega), xu_a (by omega)]; exact yr t ht
                · rw [xu_a (by omega), xu_j (by omega), xu_a (by omega), xu_a (by omega), y6]
                · rw [xu_a (by omega), xu_a (by omega), xu_j (by omega), xu_a (by omega), yy8]
                · rw [xu_a (by omega), xu_a (by omega), xu_a (by omega), xu_a (by omega)]; exact yo q hq t ht
              · unfold kd at hJ
                rcases g' with z | z | z
                · rw [z] at hJ ⊢
                  exact ⟨fun q => absurd rfl q, fun _ => hJ _ rfl⟩
                · rw [z] at hJ ⊢
                  exact ⟨fun _ => ⟨fun q => absurd rfl q, fun _ => hJ _ rfl⟩, fun q => absurd q (by decide)⟩
                · rw [z] at hJ ⊢
                  exact ⟨fun _ => ⟨fun _ => hJ _ rfl, fun q => absurd q (by decide)⟩, fun q => absurd q (by decide)⟩
            · have ep : 6 * s + 4 = p := by
                refine bad _ yp ?_
                rintro ⟨a1, a2⟩
                rcases a2 with ⟨z, _⟩ | ⟨z, _⟩ | ⟨_, z⟩ | ⟨z, _⟩
                · omega
                · omega
                · exact q a1 z
                · omega
              refine ⟨fun z => absurd z (by decide), fun _ => ?_⟩
              exact hf (lt5 4 (by omega) ep) y fz (by rw [y7, ep])
          · refine lpg (fun t (y : xM) => (nI t, y)) 3 (fun t y => frZ m y ∧ y 0 7 = nI (6 * s + 1 + t) ∧ y 0 8 = nI s ∧ 6 * s + 1 + t ≤ p ∧ y 6 = m 6 ∧ y 8 = m 8 ∧ (∀ z, z < t → y 7 (3 * s + z) = nI (10 * dg (x (6 * s + 1 + z)))) ∧ ∀ q, q < s → ∀ t, t < 3 → y 7 (3 * q + t) = m 7 (3 * q + t)) ?_ (i := 0) (t := xu m 0 7 (nI (6 * s + 1))) ⟨(frZ.rf m).u (by omega), xu_s _ _ _ _, by rw [xu_j (by omega)]; exact h8, hp1, xu_ne (by omega), xu_ne (by omega), fun z hz => absurd hz (by omega), fun q _ t _ => xu_a (by omega)⟩ (by omega) (by omega)
            rintro t y again ht ⟨fz, y7, y8, yp, y6, yy8, yr, yo⟩ hag
            dsimp only
            refine pk_le 3 t (fun hh => ?_) (fun hh => ?_)
            · have e3 : t = 3 := by omega
              subst e3
              exact hJ y ⟨fz, y7, y8, yp, y6, yy8, yr, yo⟩
            · refine t_figure hl (by omega) y7 (hxz y fz) (lo := 1) (hi := 9) (by omega) (by omega) rfl rfl (fun e2 d2 => ?_) (fun q => ?_)
              · have e5 : 6 * s + 1 + (t + 1) ≤ p := by
                  by_cases q : 6 * s + 1 + t = p
                  · exact absurd (q ▸ Or.inr (Or.inl ⟨by omega, d2⟩)) (p3 (by omega))
                  · omega
                have dv := dg_s d2 (by omega)
                refine ⟨fun _ => ?_, fun z => absurd (nI_pos' (by omega)) z⟩
                rw [xu_j (by omega), y8, mul3, nI_add, nI_clamp (by omega), mul10]
                refine ⟨pk_in (3 * s + t) 21 (by omega), ?_⟩
                rintro _ rfl _ rfl
                rw [nI_1]
                refine hag _ hh ⟨(fz.u (by omega)).u (by omega), ?_, ?_, e5, ?_, ?_, fun z hz => ?_, fun q hq z hz => ?_⟩
                · rw [xu_a (by omega), xu_s]; rfl
                · rw [xu_a (by omega), xu_j (by omega)]; exact y8
                · rw [xu_ne (by omega), xu_ne (by omega)]; exact y6
                · rw [xu_ne (by omega), xu_ne (by omega)]; exact yy8
                · by_cases e6 : z = t
                  · rw [e6, xu_s]
                  · rw [xu_j (by omega), xu_a (by omega)]; exact yr z (by omega)
                · rw [xu_j (by omega), xu_a (by omega)]; exact yo q hq z hz
              · have ep : 6 * s + 1 + t = p := by
                  refine bad _ yp ?_
                  rintro ⟨a1, a2⟩
                  rcases a2 with ⟨z, _⟩ | ⟨_, z⟩ | ⟨z, _⟩ | ⟨z, _⟩
                  · omega
                  · exact q a1 z
                  · omega
                  · omega
                refine ⟨fun z => absurd z (by decide), fun _ => ?_⟩
                exact hf (lt5 (1 + t) (by omega) (by omega)) y fz (by rw [y7, ep])
        · rcases g' with z | z | z
          · exact absurd z n1
          · exact absurd z n2
          · exact absurd z n3
      · have ep : 6 * s = p := bad _ sp (fun z => g z.2)
        have ng : ¬ (x (6 * s) = 115 ∨ x (6 * s) = 98 ∨ x (6 * s) = 109) := fun z => g (Or.inl ⟨by omega, z⟩)
        refine xjn_i (fun _ => False) (fun _ q => absurd q id) (fun J hJ => ⟨fun z => absurd (Or.inl z) ng, fun _ => ⟨fun z => absurd (Or.inr (Or.inl z)) ng, fun _ => ⟨fun z => absurd (Or.inr (Or.inr z)) ng, fun _ => ?_⟩⟩⟩)
        exact hf (lt5 0 (by omega) ep) _ f1 (by rw [xu_s, ep])
    · refine xjn_i (fun _ => False) (fun _ q => absurd q id) (fun J hJ => ⟨fun z => absurd z (by decide), fun _ => ⟨fun z => absurd z (by decide), fun _ => ⟨fun z => absurd z (by decide), fun _ => ?_⟩⟩⟩)
      have ep : 6 * s = p := by omega
      exact hf (lt5 0 (by omega) ep) _ f1 (by rw [xu_s, ep])
  · intro J hJ
    rw [h8]
    rcases hr with ⟨rfl, rfl⟩ | ⟨s0, rs, rl⟩
    · refine ⟨fun _ => hJ _ ⟨(xu_id h7).symm, by omega, by omega⟩, fun q => absurd (by decide) q⟩
    · refine pk_le s 0 (fun e => absurd e (by omega)) (fun _ => pk_eq s 7 (fun e => ?_) (fun e => ?_))
      · have ep : r = p := by
          refine bad r hrp ?_
          rintro ⟨_, a2⟩
          rcases a2 with ⟨z, _⟩ | ⟨z, _⟩ | ⟨z, _⟩ | ⟨_, _, z⟩ <;> omega
        exact hf (Or.inl (by omega)) m (frZ.rf m) (by rw [h7, ep])
      · refine t_codeAt hl (by omega) h7 hx (fun _ => ⟨fun q => ?_, fun q => ?_⟩) (fun q => absurd q (by omega))
        · rw [h7, nI_1, rs]
          rintro _ rfl
          refine hJ _ ⟨rfl, by omega, ?_⟩
          by_cases ep : r = p
          · exact absurd (ep ▸ Or.inr (Or.inr (Or.inr ⟨by omega, q, by omega⟩))) (p3 (by omega))
          · omega
        · have ep : r = p := by
            refine bad r hrp ?_
            rintro ⟨_, a2⟩
            rcases a2 with ⟨z, _⟩ | ⟨z, _⟩ | ⟨z, _⟩ | ⟨_, z, _⟩
            · omega
            · omega
            · omega
            · exact q z
          exact hf (Or.inl (by omega)) m (frZ.rf m) (by rw [h7, ep])
