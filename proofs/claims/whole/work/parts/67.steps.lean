theorem sfs_sp (P : Nat → Bool) : ∀ B, (sfs P B = B ∧ ∀ e, e < B → P e = false) ∨ (sfs P B < B ∧ P (sfs P B) = true ∧ ∀ e, e < sfs P B → P e = false)
  | 0 => Or.inl ⟨rfl, fun e he => absurd he (by omega)⟩
  | B + 1 => by
    rcases sfs_sp P B with ⟨h1, h2⟩ | ⟨h1, h2, h3⟩
    · by_cases q : P B = true
      · have e : sfs P (B + 1) = B := sfs_yes q h2 (by omega)
        rw [e]
        exact Or.inr ⟨by omega, q, h2⟩
      · refine Or.inl ?_
        have h4 : ∀ e, e < B + 1 → P e = false := fun e he => by
          by_cases e2 : e = B
          · rw [e2]; exact Bool.not_eq_true _ ▸ q
          · exact h2 e (by omega)
        exact ⟨sfs_no h4, h4⟩
    · have e : sfs P (B + 1) = sfs P B := sfs_yes h2 h3 (by omega)
      rw [e]
      exact Or.inr ⟨by omega, h2, h3⟩
theorem sfs_pos {P : Nat → Bool} {B : Nat} (h : P 0 = false) (hB : 0 < B) : 0 < sfs P B := by
  rcases sfs_sp P B with ⟨h1, h2⟩ | ⟨h1, h2, h3⟩
  · omega
  · by_cases e : sfs P B = 0
    · rw [e, h] at h2; exact absurd h2 (by decide)
    · omega
def lld (f : Nat → Nat) : Nat → Nat × Nat
  | 0 => (0, 0)
  | i + 1 => if (lld f i).2 < f i then (i, f i) else lld f i
theorem lld_le {f : Nat → Nat} {B : Nat} : ∀ {i : Nat}, (∀ k, k < i → f k ≤ B) → (lld f i).2 ≤ B ∧ (lld f i).1 ≤ i
  | 0, _ => ⟨Nat.zero_le _, Nat.zero_le _⟩
  | i + 1, h => by
    have ih := lld_le (f := f) (B := B) (i := i) (fun k hk => h k (by omega))
    unfold lld
    split
    · exact ⟨h i (by omega), Nat.le_succ _⟩
    · exact ⟨ih.1, Nat.le_succ_of_le ih.2⟩
theorem u_longest {n : Nat} {c : xM} {g : gN} {K : Int32 → xM → Prop} (hc : cs c g) (hg : okG g) (hn : 100 ≤ n) (hK : ∀ c', frW c c' → cs c' g → K (nI (lld (fun k => sfs (fun d => decide (sm3 (sat g d).1 k = 0)) 61) (g 0 1)).1) c') : wp_X5_longestLasting n c K := by
  have hN := hg.1
  unfold wp_X5_longestLasting
  refine lpg (fun i (x : xM) => (nI i, nI (lld (fun k => sfs (fun d => decide (sm3 (sat g d).1 k = 0)) 61) i).2, nI (lld (fun k => sfs (fun d => decide (sm3 (sat g d).1 k = 0)) 61) i).1, x)) (g 0 1) (fun i x => frW c x ∧ cs x g) ?_ (i := 0) (t := c) ⟨frW.rf c, hc⟩ (by omega) (by omega)
  intro i x again hi ⟨p1, p2⟩ hag
  dsimp only
  rw [p2.1.1]
  refine pk_le (g 0 1) i (fun hh => ?_) (fun hh => ?_)
  · rw [show i = g 0 1 by omega]; exact hK x p1 p2
  · refine u_dawnWithoutAny p2 hg hh hn (fun y f s => ?_)
    have b1 := sfs_le (fun d => decide (sm3 (sat g d).1 i = 0)) 61
    have b2 := (lld_le (f := fun k => sfs (fun d => decide (sm3 (sat g d).1 k = 0)) 61) (B := 61) (i := i) (fun k _ => sfs_le _ 61)).1
    have hag := hag y hh ⟨p1.tr f, s⟩
    unfold lld at hag
    refine pk_le _ _ (fun e => ?_) (fun e => ?_)
    · rw [if_neg (by omega)] at hag
      rintro _ rfl
      rw [nI_1]; exact hag
    · rw [if_pos e] at hag
      dsimp only at hag
      rintro _ rfl
      rw [nI_1]; exact hag
theorem u_gcd {n a b : Nat} {μ : xM} {K : Int32 → Prop} (hn : 101 ≤ n) (hab : b ≤ a) (ha : 0 < a) (hb : a ≤ 2000) (hK : K (nI (Nat.gcd b a))) : wp_X6_commonDivisor n (nI a) (nI b) μ K := by
  unfold wp_X6_commonDivisor
  refine lpg (fun i (t : Nat × Nat) => (nI i, nI t.1, nI t.2)) 100 (fun i t => t.1 ≤ t.2 ∧ 0 < t.2 ∧ t.2 ≤ 2000 ∧ Nat.gcd t.1 t.2 = Nat.gcd b a ∧ t.2 * t.1 * 2 ^ i ≤ 2000 * 2000) ?_ (i := 0) (t := (b, a)) ⟨hab, ha, hb, rfl, by rw [Nat.pow_zero, Nat.mul_one]; exact Nat.mul_le_mul hb (by omega)⟩ (by omega) (by omega)
  rintro i ⟨y, x⟩ again hi ⟨p1, p2, p3, p4, p5⟩ hag
  dsimp only at p1 p2 p3 p4 p5 ⊢
  have fin : y = 0 → K (nI x) := by
    intro e
    subst e
    rw [Nat.gcd_zero_left] at p4
    rw [p4]; exact hK
  refine pk_le 100 i (fun hh => fin ?_) (fun hh => pk_eq y 0 fin (fun e => ?_))
  · rw [show i = 100 by omega] at p5
    by_cases e : y = 0
    · exact e
    · exfalso
      have h1 : 1 ≤ x * y := Nat.mul_pos p2 (by omega)
      have h2 : 1 * 2 ^ 100 ≤ x * y * 2 ^ 100 := Nat.mul_le_mul_right _ h1
      have h3 : ¬ (1 * 2 ^ 100 ≤ 2000 * 2000) := by decide
      exact h3 (Nat.le_trans h2 p5)
  · have hy : 0 < y := by omega
    refine ⟨fun q => e ((nI_eq (b := 0) (by omega) (by omega)).1 q), ?_⟩
    rw [pk_rem (by omega) hy (by omega)]
    rintro _ rfl _ rfl
    rw [nI_1]
    have hlt := Nat.mod_lt x hy
    have hh2 : 2 * (x % y) ≤ x := by
      have e1 := Nat.div_add_mod x y
      have e2 : 1 ≤ x / y := Nat.div_pos p1 hy
      have e3 : y * 1 ≤ y * (x / y) := Nat.mul_le_mul_left _ e2
      omega
    refine hag (x % y, y) hh ⟨by omega, hy, by omega, ?_, ?_⟩
    · rw [← Nat.gcd_rec]; exact p4
    · refine Nat.le_trans ?_ p5
      show y * (x % y) * 2 ^ (i + 1) ≤ x * y * 2 ^ i
      rw [Nat.pow_succ, Nat.mul_comm (2 ^ i) 2, ← Nat.mul_assoc]
      refine Nat.mul_le_mul_right _ ?_
      rw [Nat.mul_assoc, Nat.mul_comm (x % y) 2, Nat.mul_comm x y]
      exact Nat.mul_le_mul_left _ hh2
theorem t_told {n a b : Nat} {w : Int32} {μ : xM} {K : Int64 → Prop} (hn : 2000 ≤ n) (ha : 0 < a) (hb : a < 2000) (hb2 : b < 2000) (hK : K (if w = 0 then lN (b / Nat.gcd a b) else lN (a / Nat.gcd a b))) : wp_X7_told n (lN b) (lN a) w μ K := by
  unfold wp_X7_told
  refine xlp_i (fun (d : Nat) (t : Int64 × Int64) => ∃ x, d < 2000 ∧ x < 2000 ∧ 0 < d + x ∧ t = (lN d, lN x) ∧ Nat.gcd d x = Nat.gcd a b) ?_ (d := a) ⟨b, hb, hb2, by omega, rfl, rfl⟩ (by omega)
  rintro d ⟨t1, t2⟩ again ⟨x, h1, h2, h3, h4, h5⟩ hag
  obtain ⟨rfl, rfl⟩ := Prod.mk.inj h4
  dsimp only
  have ez : lg_cmp (lN d) (0 : Int64) = 0 ↔ d = 0 := by
    rw [lgc_eq]
    exact lN_eq (b := 0) (by omega) (by omega)
  refine ⟨fun q => ?_, fun q => ?_⟩
  · have e := ez.1 q
    subst e
    rw [Nat.gcd_zero_left] at h5
    have nz : ¬ lN x = 0 := fun z => by
      have := (lN_eq (b := 0) (by omega) (by omega)).1 z
      omega
    rw [pk_lDiv (by omega) (by omega) (by omega), pk_lDiv (by omega) (by omega) (by omega), h5]
    rw [h5] at nz
    refine ⟨fun z => ⟨nz, ?_⟩, fun z => ⟨nz, ?_⟩⟩
    · rw [if_neg z] at hK; exact hK
    · rw [if_pos z] at hK; exact hK
  · have e : d ≠ 0 := fun z => q (ez.2 z)
    have hd : 0 < d := by omega
    refine ⟨fun z => q (by rw [lgc_eq]; exact z), ?_⟩
    rw [pk_lRem (by omega) hd (by omega)]
    rintro _ rfl
    have hlt := Nat.mod_lt x hd
    exact hag (x % d) (lN (x % d), lN d) hlt ⟨d, by omega, h1, by omega, rfl, by rw [← Nat.gcd_rec]; exact h5⟩
def fsm (h : Nat → Nat) : Nat → Nat
  | 0 => 0
  | j + 1 => fsm h j + h j
theorem fsm_3 (h : Nat → Nat) : ∀ k, fsm h (3 * k) = smA h k
  | 0 => rfl
  | k + 1 => by
    show fsm h (3 * k) + h (3 * k) + h (3 * k + 1) + h (3 * k + 2) = smA h k + sm3 h k
    rw [fsm_3 h k]
    unfold sm3
    omega
theorem fsm_le {h : Nat → Nat} {B : Nat} : ∀ {j : Nat}, (∀ x, x < j → h x ≤ B) → fsm h j ≤ B * j
  | 0, _ => Nat.le_refl _
  | j + 1, hh => by
    have := fsm_le (h := h) (B := B) (j := j) (fun x hx => hh x (by omega))
    have := hh j (by omega)
    show fsm h j + h j ≤ B * (j + 1)
    rw [Nat.mul_succ]
    omega
theorem smA_mono {g : gN} : ∀ {k : Nat}, k ≤ g 0 1 → smA (sat g 60).1 k ≤ smA (sat g 0).1 k
  | 0, _ => Nat.le_refl _
  | k + 1, h => by
    have ih := smA_mono (g := g) (k := k) (by omega)
    have q := sat_ok g 60 k (by omega)
    have q0 := sat_ok g 0 k (by omega)
    show smA _ k + sm3 _ k ≤ smA _ k + sm3 _ k
    have e0 : sm3 (sat g 0).1 k = g 2 (3 * k) + g 2 (3 * k + 1) + g 2 (3 * k + 2) := rfl
    have e1 : sm3 (sat g 60).1 k = (sat g 60).1 (3 * k) + (sat g 60).1 (3 * k + 1) + (sat g 60).1 (3 * k + 2) := rfl
    have a0 := q.1 0 (by omega)
    have a1 := q.1 1 (by omega)
    have a2 := q.1 2 (by omega)
    rw [e0, e1]
    simp only [Nat.add_zero] at a0
    omega
