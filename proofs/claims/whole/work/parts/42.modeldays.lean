/-! ===== the reference's days ===== -/
def mr (m : xM) (g : gN) : Prop := m 0 1 = nI (g 0 1) ∧ m 0 14 = nI (g 0 14) ∧ (∀ k, k < g 0 1 → m 1 k = nI (g 1 k) ∧ m 3 k = nI (g 3 k) ∧ m 4 k = nI (g 4 k) ∧ m 5 k = nI (g 5 k) ∧ ∀ p, p < 3 → m 2 (3 * k + p) = nI (g 2 (3 * k + p))) ∧ ∀ d, d < 60 → m 9 d = nI (g 9 d) ∧ m 10 d = nI (g 10 d)
def ms (m : xM) (g : gN) (t : sT) : Prop := ∀ k, k < g 0 1 → (∀ p, p < 3 → m 11 (3 * k + p) = nI (t.1 (3 * k + p))) ∧ m 12 k = nI (t.2.1 k) ∧ m 13 k = nI (t.2.2 k)
def fr3 (m m' : xM) : Prop := ∀ a, a ≠ 11 → a ≠ 12 → a ≠ 13 → m' a = m a
theorem fr3.rf (m : xM) : fr3 m m := fun _ _ _ _ => rfl
theorem fr3.tr {m m' m2 : xM} (h : fr3 m m') (h2 : fr3 m' m2) : fr3 m m2 := fun a h1 h3 h4 => (h2 a h1 h3 h4).trans (h a h1 h3 h4)
theorem fr3.u {m m' : xM} {a j : Nat} {v : Int32} (h : fr3 m m') (ha : a = 11 ∨ a = 12 ∨ a = 13) : fr3 m (xu m' a j v) := fun b h1 h2 h3 => (xu_ne (by omega)).trans (h b h1 h2 h3)
theorem mr.fr {m m' : xM} {g : gN} (h : mr m g) (hf : fr3 m m') : mr m' g := by
  unfold mr at h ⊢
  rw [hf 0 (by decide) (by decide) (by decide), hf 1 (by decide) (by decide) (by decide), hf 2 (by decide) (by decide) (by decide), hf 3 (by decide) (by decide) (by decide), hf 4 (by decide) (by decide) (by decide), hf 5 (by decide) (by decide) (by decide), hf 9 (by decide) (by decide) (by decide), hf 10 (by decide) (by decide) (by decide)]
  exact h
theorem pk_ne {x y : Int32} {A B : Prop} (a b : Nat) (f : a ≠ b → A) (g : a = b → B) (hx : x = nI a := by rfl) (hy : y = nI b := by rfl) (ha : a < 2 ^ 31 := by omega) (hb : b < 2 ^ 31 := by omega) : (¬ x = y → A) ∧ (x = y → B) := by
  subst hx hy
  rw [nI_eq ha hb]
  exact ⟨f, g⟩
theorem div2 {a : Nat} (h : a < 2 ^ 31) : nI a / (2 : Int32) = nI (a / 2) := pk_div h (by decide) (by decide)
theorem mulL (c a : Nat) {x : Int32} (h : x = nI c) : x * nI a = nI (c * a) := by rw [h, pk_mul]
theorem t_lesser {n a b : Nat} {m : xM} {K : Int32 → Prop} (ha : a < 2 ^ 31) (hb : b < 2 ^ 31) (hK : K (nI (min a b))) : wp_X7_lesser n (nI a) (nI b) m K := by
  unfold wp_X7_lesser
  refine pk_le b a (fun h => ?_) (fun h => ?_)
  · rw [show min a b = b by omega] at hK; exact hK
  · rw [show min a b = a by omega] at hK; exact hK
theorem t_losesBy {n k p d : Nat} {m : xM} {g : gN} {K : Int32 → Prop} (hm : mr m g) (hg : okG g) (hk : k < g 0 1) (hp : p < 3) (hd : d < 60) (hK : K (nI (sK g k p d))) : wp_X7_losesBy n (nI k) (nI p) (nI d) m K := by
  obtain ⟨g1, g2, g3, g4⟩ := hg
  obtain ⟨b1, b2, b3, b4, b5⟩ := g3 k hk
  obtain ⟨c1, c2⟩ := g4 d hd
  obtain ⟨-, -, m3, m4⟩ := hm
  obtain ⟨e1, e2, e3, e4, -⟩ := m3 k hk
  obtain ⟨f1, f2⟩ := m4 d hd
  unfold wp_X7_losesBy
  simp only [nI_clamp (show k < 2 ^ 31 by omega), nI_clamp (show d < 2 ^ 31 by omega), e1, e2, e3, f1, f2]
  refine ⟨pk_in d 60 hd, ?_⟩
  rintro x rfl
  unfold sK at hK
  generalize g 9 d = r at *
  generalize g 10 d = w at *
  generalize g 1 k = kd at *
  generalize g 3 k = lk at *
  generalize g 4 k = ov at *
  refine xjn_i (fun x => x = nI (if p = 0 ∧ w = lk then 3 * r else r)) ?_ ?_
  · rintro _ rfl
    refine xjn_i (fun x => x = nI (if p = 0 ∧ w = lk then 3 * r else if p = 1 then 2 * r else r)) ?_ ?_
    · rintro _ rfl
      have hA : (if p = 0 ∧ w = lk then 3 * r else if p = 1 then 2 * r else r) ≤ 27 := by (repeat' split) <;> omega
      unfold sKK at hK
      generalize (if p = 0 ∧ w = lk then 3 * r else if p = 1 then 2 * r else r) = A at hA hK ⊢
      refine ⟨pk_in k 7 (by omega), xjn_i (fun x => x = nI (if kd = 2 then A / 2 else A)) ?_ ?_⟩
      · rintro _ rfl
        have hB : (if kd = 2 then A / 2 else A) ≤ 27 := by (repeat' split) <;> omega
        generalize (if kd = 2 then A / 2 else A) = B at hB hK ⊢
        refine ⟨pk_in k 7 (by omega), pk_ne ov 2 (fun h => ⟨pk_in k 7 (by omega), pk_ne ov 1 (fun h1 => ?_) (fun h1 => ⟨by decide, ?_⟩)⟩) (fun h => ?_)⟩
        · rw [if_neg h, if_neg h1] at hK; exact hK
        · rw [if_neg h, if_pos h1] at hK; rw [div2 (by omega)]; exact hK
        · rw [if_pos h] at hK; exact hK
      · intro J hJ
        refine pk_ne kd 2 (fun h => ?_) (fun h => ⟨by decide, ?_⟩)
        · exact hJ _ (by rw [if_neg h])
        · rintro _ rfl
          exact hJ _ (by rw [if_pos h, div2 (by omega)])
    · intro J hJ
      refine pk_ne p 1 (fun h => ?_) (fun h => ?_)
      · refine hJ _ ?_
        by_cases h0 : p = 0 ∧ w = lk
        · rw [if_pos h0, if_pos h0]
        · rw [if_neg h0, if_neg h0, if_neg h]
      · rintro _ rfl
        refine hJ _ ?_
        rw [if_neg (by omega), if_neg (by omega), if_pos h]
        exact mulL 2 r rfl
  · intro J hJ
    refine pk_ne p 0 (fun h => ?_) (fun h => ⟨pk_in d 60 hd, pk_in k 7 (by omega), pk_ne w lk (fun h1 => ?_) (fun h1 => ?_)⟩)
    · exact hJ _ (by rw [if_neg (by omega)])
    · exact hJ _ (by rw [if_neg (by omega)])
    · rintro _ rfl
      refine hJ _ ?_
      rw [if_pos ⟨h, h1⟩]
      exact mulL 3 r rfl
theorem t_begin {n : Nat} {m : xM} {g : gN} {K : xM → Prop} (hm : mr m g) (hg : okG g) (hn : 100 ≤ n) (hK : ∀ m', fr3 m m' → ms m' g (sat g 0) → K m') : wp_X7_begin n m K := by
  unfold wp_X7_begin
  refine xjn_i (fun m' => fr3 m m' ∧ ∀ x, x < 21 → m' 11 x = m 2 x) ?_ ?_
  · rintro m1 ⟨h1, h2⟩
    refine lpg (fun i (t : xM) => (nI i, t)) 7 (fun i t => fr3 m t ∧ (∀ x, x < 21 → t 11 x = m 2 x) ∧ ∀ k, k < i → t 12 k = 0 ∧ t 13 k = 0) ?_ (i := 0) (t := m1) ⟨h1, h2, fun k hk => absurd hk (by omega)⟩ (by omega) (by omega)
    intro i t again hi ⟨p1, p2, p3⟩ hag
    dsimp only
    refine pk_le 7 i (fun h => ?_) (fun h => ?_)
    · refine hK t p1 (fun k hk => ⟨fun p hp => ?_, ?_, ?_⟩)
      · have := hg.1
        rw [p2 _ (by omega)]
        exact (hm.2.2.1 k hk).2.2.2.2 p hp
      · have := hg.1
        exact (p3 k (by omega)).1
      · have := hg.1
        exact (p3 k (by omega)).2
    · refine ⟨pk_in i 7 h, ?_⟩
      rintro _ rfl
      refine ⟨pk_in i 7 h, ?_⟩
      rintro _ rfl _ rfl
      rw [nI_1, nI_clamp (by omega)]
      refine hag _ h ⟨(p1.u (by omega)).u (by omega), fun x hx => ?_, fun k hk => ?_⟩
      · rw [xu_a (by decide), xu_a (by decide)]; exact p2 x hx
      · by_cases e : k = i
        · subst e
          exact ⟨by rw [xu_a (by decide), xu_s], by rw [xu_s]⟩
        · exact ⟨by rw [xu_a (by decide), xu_j e]; exact (p3 k (by omega)).1, by rw [xu_j e, xu_a (by decide)]; exact (p3 k (by omega)).2⟩
  · intro J hJ
    refine lpg (fun i (t : xM) => (nI i, t)) 21 (fun i t => fr3 m t ∧ ∀ x, x < i → t 11 x = m 2 x) ?_ (i := 0) (t := m) ⟨fr3.rf m, fun k hk => absurd hk (by omega)⟩ (by omega) (by omega)
    intro i t again hi ⟨p1, p2⟩ hag
    dsimp only
    refine pk_le 21 i (fun h => ?_) (fun h => ?_)
    · exact hJ t ⟨p1, fun x hx => p2 x (by omega)⟩
    · refine ⟨pk_in i 21 h, pk_in i 21 h, ?_⟩
      rintro _ rfl _ rfl
      rw [nI_1, nI_clamp (by omega)]
      refine hag _ h ⟨p1.u (by omega), fun x hx => ?_⟩
      by_cases e : x = i
      · subst e
        rw [xu_s, p1 2 (by decide) (by decide) (by decide)]
      · rw [xu_j e]; exact p2 x (by omega)
