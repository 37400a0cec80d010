/-! ===== NUMBERS: a bounded Int32 is nI of a natural ===== -/
def nin (a : Int32) (B : Nat) : Prop := ∀ j, j < B → a ≠ nI j
theorem in_or (a : Int32) (B : Nat) : (∃ j, j < B ∧ a = nI j) ∨ nin a B := by
  by_cases h : ∃ j, j < B ∧ a = nI j
  · exact Or.inl h
  · exact Or.inr (fun j hj e => h ⟨j, hj, e⟩)
theorem nin_int {a : Int32} {B : Nat} (h : nin a B) (hB : B < 2 ^ 31) : a.toInt < 0 ∨ (B : Int) ≤ a.toInt := by
  by_cases h0 : a < 0
  · exact Or.inl (Int32.lt_iff_toInt_lt.mp h0)
  · obtain ⟨j, hj, rfl⟩ := nI_of h0
    rw [nI_toInt hj]
    by_cases h1 : j < B
    · exact absurd rfl (h j h1)
    · exact Or.inr (by omega)
theorem lgc_lt (x y : Int64) : lg_cmp x y < 0 ↔ x < y := by
  unfold lg_cmp
  by_cases h1 : x > y
  · rw [if_pos h1]
    have h2 : ¬ x < y := by rw [Int64.lt_iff_toInt_lt]; have h3 := Int64.lt_iff_toInt_lt.mp h1; omega
    exact ⟨fun h => absurd h (by decide), fun h => absurd h h2⟩
  · rw [if_neg h1]
    by_cases h2 : x = y
    · rw [if_pos h2]
      subst h2
      exact ⟨fun h => absurd h (by decide), fun h => absurd h (by rw [Int64.lt_iff_toInt_lt]; omega)⟩
    · rw [if_neg h2]
      refine ⟨fun _ => ?_, fun _ => by decide⟩
      rw [Int64.lt_iff_toInt_lt]
      have h3 : ¬ (y.toInt < x.toInt) := fun h => h1 (Int64.lt_iff_toInt_lt.mpr h)
      have h4 : ¬ (x.toInt = y.toInt) := fun h => h2 (Int64.toInt_inj.mp h)
      omega
theorem lgc_gt (x y : Int64) : 0 < lg_cmp x y ↔ y < x := by
  unfold lg_cmp
  by_cases h1 : x > y
  · rw [if_pos h1]
    exact ⟨fun _ => h1, fun _ => by decide⟩
  · rw [if_neg h1]
    refine ⟨fun h => ?_, fun h => absurd h h1⟩
    by_cases h2 : x = y
    · rw [if_pos h2] at h; exact absurd h (by decide)
    · rw [if_neg h2] at h; exact absurd h (by decide)
theorem lgc_eq (x y : Int64) : lg_cmp x y = 0 ↔ x = y := by
  unfold lg_cmp
  by_cases h1 : x > y
  · rw [if_pos h1]
    refine ⟨fun h => absurd h (by decide), fun h => ?_⟩
    subst h
    exact absurd (Int64.lt_iff_toInt_lt.mp h1) (by omega)
  · rw [if_neg h1]
    by_cases h2 : x = y
    · rw [if_pos h2]; exact ⟨fun _ => h2, fun _ => rfl⟩
    · rw [if_neg h2]; exact ⟨fun h => absurd h (by decide), fun h => absurd h h2⟩
theorem toI64 (a : Int32) : a.toInt64.toInt = a.toInt := Int32.toInt_toInt64 a
/-- the reference's range test, inside -/
theorem w_in_y {n : Nat} {j B : Nat} {hh : Int64} {μ : xM} {K : Int32 → Prop} (hj : j < B) (hB : B < 2 ^ 31) (e : hh.toInt = (B : Int) - 1) (hK : K 1) : wp_X7_in n (nI j).toInt64 (0 : Int64) hh μ K := by
  unfold wp_X7_in
  have h0 : (0 : Int64).toInt = 0 := rfl
  have h1 : ¬ lg_cmp (nI j).toInt64 (0 : Int64) < 0 := by
    rw [lgc_lt, Int64.lt_iff_toInt_lt, toI64, nI_toInt (by omega), h0]; omega
  have h2 : ¬ 0 < lg_cmp (nI j).toInt64 hh := by
    rw [lgc_gt, Int64.lt_iff_toInt_lt, toI64, nI_toInt (by omega), e]; omega
  exact ⟨fun h => absurd h h1, fun _ => ⟨fun h => absurd h h2, fun _ => hK⟩⟩
theorem w_in_n {n : Nat} {a : Int32} {B : Nat} {hh : Int64} {μ : xM} {K : Int32 → Prop} (h : nin a B) (hB : B < 2 ^ 31) (e : hh.toInt = (B : Int) - 1) (hK : K 0) : wp_X7_in n a.toInt64 (0 : Int64) hh μ K := by
  unfold wp_X7_in
  have h0 : (0 : Int64).toInt = 0 := rfl
  refine ⟨fun _ => hK, fun h1 => ⟨fun _ => hK, fun h2 => ?_⟩⟩
  rw [lgc_lt, Int64.lt_iff_toInt_lt, toI64, h0] at h1
  rw [lgc_gt, Int64.lt_iff_toInt_lt, toI64, e] at h2
  have := nin_int h hB
  omega
/-- the class's range test -/
theorem w_bl_y {n : Nat} {j B : Nat} {b : Int32} {μ : xM} {K : Int32 → Prop} (hj : j < B) (hB : B < 2 ^ 31) (e : b = nI B) (hK : K 1) : wp_X6_isBelow n (nI j) b μ K := by
  unfold wp_X6_isBelow
  subst e
  exact ⟨fun h => absurd h (nI_pos (by omega)), fun _ => ⟨fun h => absurd ((nI_leI hB (by omega)).mp h) (by omega), fun _ => hK⟩⟩
theorem w_bl_n {n : Nat} {a : Int32} {B : Nat} {b : Int32} {μ : xM} {K : Int32 → Prop} (h : nin a B) (hB : B < 2 ^ 31) (e : b = nI B) (hK : K 0) : wp_X6_isBelow n a b μ K := by
  unfold wp_X6_isBelow
  subst e
  refine ⟨fun _ => hK, fun h1 => ⟨fun _ => hK, fun h2 => ?_⟩⟩
  rw [Int32.lt_iff_toInt_lt] at h1
  rw [Int32.le_iff_toInt_le, nI_toInt hB] at h2
  have h0 : (0 : Int32).toInt = 0 := rfl
  have := nin_int h hB
  omega
theorem lNt (b : Nat) (h : b < 2 ^ 31) : ((nI b).toInt64 - (1 : Int64)).toInt = (b : Int) - 1 := by
  have e1 : (nI b).toInt64 = lN b := nI_l h
  rw [e1]
  rcases Nat.eq_zero_or_pos b with h0 | h0
  · subst h0; rfl
  · have e2 : lN b - (1 : Int64) = lN (b - 1) := lN_sub (a := b) (b := 1) h0
    rw [e2, lN_toInt (by omega)]
    omega
theorem upd_s (f : Nat → Int32) (k : Nat) (x : Int32) : upd f k x k = x := by simp [upd]
theorem upd_n {f : Nat → Int32} {k j : Nat} {x : Int32} (h : j ≠ k) : upd f k x j = f j := by simp [upd, h]
theorem xu_s (μ : xM) (a j : Nat) (v : Int32) : xu μ a j v a j = v := by simp [xu, upd]
theorem xu_j {μ : xM} {a j i : Nat} {v : Int32} (h : i ≠ j) : xu μ a j v a i = μ a i := by simp [xu, upd, h]
theorem xu_a {μ : xM} {a j b i : Nat} {v : Int32} (h : b ≠ a) : xu μ a j v b i = μ b i := by simp [xu, h]
theorem xu_if (μ : xM) (a j b i : Nat) (v : Int32) : xu μ a j v b i = if b = a ∧ i = j then v else μ b i := by
  by_cases h1 : b = a
  · subst h1
    by_cases h2 : i = j
    · subst h2; simp [xu_s]
    · simp [xu_j h2, h2]
  · simp [xu_a h1, h1]
/-- a counted loop: mk i t is its state at turn i -/
theorem lpg {σ τ : Type} {F : (σ → Prop) → σ → Prop} (mk : Nat → τ → σ) (B : Nat) (P : Nat → τ → Prop)
    (hs : ∀ (i : Nat) (t : τ) (again : σ → Prop), i ≤ B → P i t → (∀ t', i < B → P (i + 1) t' → again (mk (i + 1) t')) → F again (mk i t)) {n i : Nat} {t : τ} (h : P i t) (hi : i ≤ B) (hn : B < i + n) : xlp F n (mk i t) := by
  have key : ∀ (n i : Nat) (t : τ), P i t → i ≤ B → B < i + n → xlp F n (mk i t) := by
    intro n
    induction n with
    | zero => intro i t _ h1 h2; exact absurd h2 (by omega)
    | succ n ih =>
      intro i t h0 h1 h2
      exact hs i t _ h1 h0 (fun t' h3 h4 => ih (i + 1) t' h4 h3 (by omega))
  exact key n i t h hi hn
theorem xcp_at (μ : xM) (k0 k1 sp dp n j : Nat) : xcp μ k0 k1 sp dp n k1 j = if dp ≤ j ∧ j < dp + n then μ k0 (sp + (j - dp)) else μ k1 j := by
  simp [xcp, va_cpy]
theorem xcp_a {μ : xM} {k0 k1 sp dp n a j : Nat} (h : a ≠ k1) : xcp μ k0 k1 sp dp n a j = μ a j := by
  simp [xcp, h]
