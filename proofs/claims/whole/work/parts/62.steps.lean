def kd (c : Int32) : Nat := if c = 115 then 0 else if c = 98 then 1 else 2
def dg (c : Int32) : Nat := c.toNatClampNeg - 48
def dgt (c : Int32) (lo hi : Nat) : Prop := ∃ v, lo ≤ v ∧ v ≤ hi ∧ c = nI (48 + v)
def gd (c : Int32) (j : Nat) : Prop := (j % 6 = 0 ∧ (c = 115 ∨ c = 98 ∨ c = 109)) ∨ ((j % 6 = 1 ∨ j % 6 = 2 ∨ j % 6 = 3) ∧ dgt c 1 9) ∨ (j % 6 = 4 ∧ dgt c 0 3) ∨ (j % 6 = 5 ∧ c = 59 ∧ j < 41)
def fp (x : Nat → Int32) (n p : Nat) : Prop := p ≤ n ∧ (∀ j, j < p → gd (x j) j) ∧ (p < n → ¬ gd (x p) p)
theorem fp_ex (x : Nat → Int32) : ∀ n, ∃ p, fp x n p
  | 0 => ⟨0, by omega, fun j hj => absurd hj (by omega), fun h => absurd h (by omega)⟩
  | n + 1 => by
    obtain ⟨p, h1, h2, h3⟩ := fp_ex x n
    by_cases e : p < n
    · exact ⟨p, by omega, h2, fun _ => h3 e⟩
    · have e2 : p = n := by omega
      subst e2
      by_cases q : gd (x p) p
      · refine ⟨p + 1, by omega, fun j hj => ?_, fun h => absurd h (by omega)⟩
        by_cases e3 : j = p
        · rw [e3]; exact q
        · exact h2 j (by omega)
      · exact ⟨p, by omega, h2, fun _ => q⟩
theorem dgt_iff {c : Int32} {lo hi : Nat} (hh : hi ≤ 9) : dgt c lo hi ↔ 48 + (lo : Int) ≤ c.toInt ∧ c.toInt ≤ 48 + (hi : Int) := by
  constructor
  · rintro ⟨v, h1, h2, rfl⟩
    rw [nI_toInt (by omega)]
    omega
  · rintro ⟨h1, h2⟩
    have h0 : ¬ c < 0 := by
      have e0 : (0 : Int32).toInt = 0 := rfl
      rw [Int32.lt_iff_toInt_lt, e0]; omega
    obtain ⟨w, hw, rfl⟩ := nI_of h0
    rw [nI_toInt hw] at h1 h2
    exact ⟨w - 48, by omega, by omega, by rw [show 48 + (w - 48) = w by omega]⟩
theorem u_kindOf_y {n : Nat} {c : Int32} {μ : xM} {K : Int32 → Prop} (h : c = 115 ∨ c = 98 ∨ c = 109) (hK : K (nI (kd c))) : wp_X4_kindOf n c μ K := by
  unfold wp_X4_kindOf
  rcases h with rfl | rfl | rfl
  · exact ⟨fun q => absurd q (by decide), fun _ => ⟨fun q => absurd q (by decide), fun _ => ⟨fun _ => hK, fun q => absurd rfl q⟩⟩⟩
  · exact ⟨fun _ => hK, fun q => absurd rfl q⟩
  · exact ⟨fun q => absurd q (by decide), fun _ => ⟨fun _ => hK, fun q => absurd rfl q⟩⟩
theorem u_kindOf_n {n : Nat} {c : Int32} {μ : xM} {K : Int32 → Prop} (h : ¬ (c = 115 ∨ c = 98 ∨ c = 109)) (hK : K (-9)) : wp_X4_kindOf n c μ K := by
  unfold wp_X4_kindOf
  exact ⟨fun q => absurd (Or.inr (Or.inl q)) h, fun _ => ⟨fun q => absurd (Or.inr (Or.inr q)) h, fun _ => ⟨fun q => absurd (Or.inl q) h, fun _ => hK⟩⟩⟩
theorem kd_lt (c : Int32) : kd c < 3 := by
  unfold kd
  split
  · omega
  · split <;> omega
theorem u_goesOn {n j : Nat} {c : Int32} {μ : xM} {K : Int32 → Prop} (hj : j < 60) (h1 : gd c j → K 1) (h0 : ¬ gd c j → K 0) : wp_X4_goesOn n (nI j) c μ K := by
  unfold wp_X4_goesOn
  have e : nI j - nI j / (6 : Int32) * (6 : Int32) = nI (j % 6) := pk_rem (by omega) (by decide) (by decide)
  have t0 : (0 : Int32).toInt = 0 := rfl
  have t48 : (48 : Int32).toInt = 48 := rfl
  have t49 : (49 : Int32).toInt = 49 := rfl
  have t51 : (51 : Int32).toInt = 51 := rfl
  have t57 : (57 : Int32).toInt = 57 := rfl
  rw [e]
  have hm : j % 6 < 6 := Nat.mod_lt _ (by omega)
  have dig : ∀ lo hi : Nat, hi ≤ 9 → ((dgt c lo hi → K 1) → (¬ dgt c lo hi → K 0) → ∀ a b : Int32, a.toInt = 48 + lo → b.toInt = 48 + hi → ((c < a → K 0) ∧ (¬ c < a → ((b < c → K 0) ∧ (¬ b < c → K 1))))) := by
    intro lo hi hh k1 k0 a b ea eb
    rw [dgt_iff hh] at k1 k0
    refine ⟨fun q => k0 ?_, fun q => ⟨fun q2 => k0 ?_, fun q2 => k1 ?_⟩⟩
    · rw [Int32.lt_iff_toInt_lt, ea] at q; omega
    · rw [Int32.lt_iff_toInt_lt, eb] at q2; omega
    · rw [Int32.lt_iff_toInt_lt, ea] at q
      rw [Int32.lt_iff_toInt_lt, eb] at q2; omega
  refine ⟨by decide, pk_eq (j % 6) 0 (fun e0 => ?_) (fun e0 => ⟨fun e1 => ?_, fun e1 => ?_⟩)⟩
  · by_cases q : c = 115 ∨ c = 98 ∨ c = 109
    · refine u_kindOf_y q ⟨fun z => ?_, fun _ => h1 (Or.inl ⟨e0, q⟩)⟩
      exfalso
      have k3 := kd_lt c
      have tt : (-9 : Int32).toInt = -9 := rfl
      have := congrArg Int32.toInt z
      rw [nI_toInt (by omega), tt] at this
      omega
    · refine u_kindOf_n q ⟨fun _ => h0 ?_, fun z => absurd rfl z⟩
      rintro (⟨_, z⟩ | ⟨z, _⟩ | ⟨z, _⟩ | ⟨z, _⟩)
      · exact q z
      · omega
      · omega
      · omega
  · have e2 : j % 6 = 1 ∨ j % 6 = 2 ∨ j % 6 = 3 := by
      rcases e1 with z | z | z
      · exact Or.inl ((nI_eq (b := 1) (by omega) (by omega)).1 z)
      · exact Or.inr (Or.inl ((nI_eq (b := 2) (by omega) (by omega)).1 z))
      · exact Or.inr (Or.inr ((nI_eq (b := 3) (by omega) (by omega)).1 z))
    refine dig 1 9 (by omega) (fun z => h1 (Or.inr (Or.inl ⟨e2, z⟩))) (fun z => h0 ?_) 49 57 rfl rfl
    rintro (⟨y, _⟩ | ⟨_, y⟩ | ⟨y, _⟩ | ⟨y, _⟩)
    · omega
    · exact z y
    · omega
    · omega
  · have e2 : j % 6 ≠ 1 ∧ j % 6 ≠ 2 ∧ j % 6 ≠ 3 := ⟨fun z => e1 (Or.inl (by rw [z]; rfl)), fun z => e1 (Or.inr (Or.inl (by rw [z]; rfl))), fun z => e1 (Or.inr (Or.inr (by rw [z]; rfl)))⟩
    refine pk_eq (j % 6) 4 (fun e4 => ?_) (fun e4 => ⟨fun z => h0 ?_, fun z => pk_le 41 j (fun y => h0 ?_) (fun y => h1 (Or.inr (Or.inr (Or.inr ⟨by omega, z, y⟩))))⟩)
    · refine dig 0 3 (by omega) (fun z => h1 (Or.inr (Or.inr (Or.inl ⟨e4, z⟩)))) (fun z => h0 ?_) 48 51 rfl rfl
      rintro (⟨y, _⟩ | ⟨y, _⟩ | ⟨_, y⟩ | ⟨y, _⟩)
      · omega
      · omega
      · exact z y
      · omega
    · rintro (⟨y, _⟩ | ⟨y, _⟩ | ⟨y, _⟩ | ⟨_, y, _⟩)
      · omega
      · omega
      · omega
      · exact z y
    · rintro (⟨y2, _⟩ | ⟨y2, _⟩ | ⟨y2, _⟩ | ⟨_, _, y2⟩)
      · omega
      · omega
      · omega
      · omega
theorem u_firstFault {n k i l p : Nat} {x : Nat → Int32} {μ : xM} {K : Int32 → Prop} (hn : 100 ≤ n) (hl : i + l ≤ 60) (hx : ∀ j, j < l → μ (6 + k) (i + j) = x j) (hp : fp x l p) (h1 : p = l → l % 6 = 5 → K (-1)) (h0 : (p < l ∨ l % 6 ≠ 5) → K (nI p)) : wp_X4_firstFault n k (nI i) (nI l) μ K := by
  unfold wp_X4_firstFault
  obtain ⟨p1, p2, p3⟩ := hp
  refine xjn_i (fun _ => p = l) (fun _ e => ?_) (fun J hJ => ?_)
  · subst e
    unfold wp_X4_isWhole
    have e : nI p - nI p / (6 : Int32) * (6 : Int32) = nI (p % 6) := pk_rem (by omega) (by decide) (by decide)
    rw [e]
    have hm : p % 6 < 6 := Nat.mod_lt _ (by omega)
    exact ⟨by decide, pk_ne (p % 6) 5 (fun z => b0' (h0 (Or.inr z))) (fun z => b1' (h1 rfl z))⟩
  · refine lpg (fun j (_ : Unit) => nI j) l (fun j _ => j ≤ p) ?_ (i := 0) (t := ()) (by omega) (by omega) (by omega)
    intro j _ again hj hjp hag
    refine pk_le l j (fun hh => hJ () (by omega)) (fun hh => ?_)
    rw [nI_add, nI_clamp (by omega), hx j hh]
    refine ⟨pk_in (i + j) 60 (by omega), u_goesOn (by omega) (fun z => b1 ?_) (fun z => b0 ?_)⟩
    · rintro _ rfl
      rw [nI_1]
      refine hag () hh ?_
      by_cases e : j = p
      · subst e; exact absurd z (p3 hh)
      · omega
    · have e : j = p := by
        by_cases e : j = p
        · exact e
        · exact absurd (p2 j (by omega)) z
      subst e
      exact h0 (Or.inl hh)
