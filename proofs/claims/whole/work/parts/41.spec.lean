/-! ===== THE DAYS, on naturals ===== -/
abbrev gN : Type := Nat → Nat → Nat
abbrev sT : Type := (Nat → Nat) × (Nat → Nat) × (Nat → Nat)
def su (f : Nat → Nat) (k v : Nat) : Nat → Nat := fun j => if j = k then v else f j
def sKK (kd lk ov r w p : Nat) : Nat :=
  if ov = 2 then 0 else if ov = 1 then (if kd = 2 then (if p = 0 ∧ w = lk then 3 * r else if p = 1 then 2 * r else r) / 2 else (if p = 0 ∧ w = lk then 3 * r else if p = 1 then 2 * r else r)) / 2 else (if kd = 2 then (if p = 0 ∧ w = lk then 3 * r else if p = 1 then 2 * r else r) / 2 else (if p = 0 ∧ w = lk then 3 * r else if p = 1 then 2 * r else r))
def sK (g : gN) (k p d : Nat) : Nat := sKK (g 1 k) (g 3 k) (g 4 k) (g 9 d) (g 10 d) p
def srn (g : gN) (d : Nat) (t : sT) : sT := (fun x => t.1 x - sK g (x / 3) (x % 3) d, fun k => t.2.1 k + min (t.1 (3 * k)) (sK g k 0 d) + min (t.1 (3 * k + 1)) (sK g k 1 d) + min (t.1 (3 * k + 2)) (sK g k 2 d), t.2.2)
def scn (g : gN) (h : Nat → Nat) (k : Nat) : Bool := decide (g 5 k = 0) && (if g 1 k = 0 then decide (0 < h (3 * k + 2)) else decide (g 2 (3 * k + 2) < 2 * h (3 * k + 2)))
def sbt (g : gN) (h : Nat → Nat) : Nat → Option Nat
  | 0 => none
  | k + 1 => match sbt g h k with
    | none => if scn g h k = true then some k else none
    | some j => if scn g h k = true ∧ h (3 * j + 2) < h (3 * k + 2) then some k else some j
def sbi : Option Nat → Int32
  | none => (-9)
  | some k => nI k
def slk (g : gN) (t : sT) : sT := match sbt g t.1 (g 0 1) with
  | none => t
  | some k => (su t.1 (3 * k + 2) (t.1 (3 * k + 2) - min 2 (t.1 (3 * k + 2))), t.2.1, su t.2.2 k (t.2.2 k + min 2 (t.1 (3 * k + 2))))
def slks (g : gN) : Nat → sT → sT
  | 0, t => t
  | n + 1, t => slk g (slks g n t)
def sdy (g : gN) (d : Nat) (t : sT) : sT := slks g (g 0 14) (srn g d t)
def sat (g : gN) : Nat → sT
  | 0 => (g 2, fun _ => 0, fun _ => 0)
  | d + 1 => sdy g d (sat g d)
/-- the numbers are in their bounds -/
def okG (g : gN) : Prop := g 0 1 ≤ 7 ∧ g 0 14 ≤ 9 ∧ (∀ k, k < g 0 1 → g 1 k < 3 ∧ g 3 k < 4 ∧ g 4 k < 3 ∧ g 5 k < 2 ∧ ∀ p, p < 3 → 10 ≤ g 2 (3 * k + p) ∧ g 2 (3 * k + p) ≤ 90) ∧ ∀ d, d < 60 → g 9 d ≤ 9 ∧ g 10 d < 4
def okS (g : gN) (t : sT) : Prop := ∀ k, k < g 0 1 → (∀ p, p < 3 → t.1 (3 * k + p) ≤ g 2 (3 * k + p)) ∧ t.1 (3 * k) + t.1 (3 * k + 1) + t.1 (3 * k + 2) + t.2.1 k + t.2.2 k = g 2 (3 * k) + g 2 (3 * k + 1) + g 2 (3 * k + 2)
theorem sKK_le {kd lk ov r w p : Nat} (h : r ≤ 9) : sKK kd lk ov r w p ≤ 27 := by
  unfold sKK
  repeat' split
  all_goals omega
theorem sK_le {g : gN} {k p d : Nat} (hg : okG g) (hd : d < 60) : sK g k p d ≤ 27 := sKK_le (hg.2.2.2 d hd).1
theorem srn_h (g : gN) (d : Nat) (t : sT) (k p : Nat) (hp : p < 3) : (srn g d t).1 (3 * k + p) = t.1 (3 * k + p) - sK g k p d := by
  show t.1 (3 * k + p) - sK g ((3 * k + p) / 3) ((3 * k + p) % 3) d = _
  rw [show (3 * k + p) / 3 = k by omega, show (3 * k + p) % 3 = p by omega]
theorem srn_ok {g : gN} {d : Nat} {t : sT} (h : okS g t) : okS g (srn g d t) := by
  intro k hk
  obtain ⟨h1, h2⟩ := h k hk
  have e0 := srn_h g d t k 0 (by decide)
  have e1 := srn_h g d t k 1 (by decide)
  have e2 := srn_h g d t k 2 (by decide)
  have ef : (srn g d t).2.1 k = t.2.1 k + min (t.1 (3 * k)) (sK g k 0 d) + min (t.1 (3 * k + 1)) (sK g k 1 d) + min (t.1 (3 * k + 2)) (sK g k 2 d) := rfl
  have eq : (srn g d t).2.2 k = t.2.2 k := rfl
  simp only [Nat.add_zero] at e0
  refine ⟨fun p hp => ?_, ?_⟩
  · rw [srn_h g d t k p hp]
    have := h1 p hp
    omega
  · rw [e0, e1, e2, ef, eq]
    omega
theorem su_s (f : Nat → Nat) (k v : Nat) : su f k v k = v := by simp [su]
theorem su_n {f : Nat → Nat} {k j v : Nat} (h : j ≠ k) : su f k v j = f j := by simp [su, h]
theorem sbt_lt {g : gN} {h : Nat → Nat} : ∀ {n k : Nat}, sbt g h n = some k → k < n ∧ scn g h k = true := by
  intro n
  induction n with
  | zero => intro k e; cases e
  | succ n ih =>
    intro k e
    unfold sbt at e
    cases hb : sbt g h n with
    | none =>
      rw [hb] at e
      by_cases hs : scn g h n = true
      · simp [hs] at e; subst e; exact ⟨by omega, hs⟩
      · simp [hs] at e
    | some j =>
      rw [hb] at e
      by_cases hs : scn g h n = true ∧ h (3 * j + 2) < h (3 * n + 2)
      · simp [hs] at e; subst e; exact ⟨by omega, hs.1⟩
      · simp only [hs, if_false] at e
        have e2 : j = k := Option.some.inj e
        subst e2
        have := ih hb
        exact ⟨by omega, this.2⟩
theorem slk_ok {g : gN} {t : sT} (h : okS g t) : okS g (slk g t) := by
  unfold slk
  cases hb : sbt g t.1 (g 0 1) with
  | none => exact h
  | some j =>
    intro k hk
    obtain ⟨h1, h2⟩ := h k hk
    by_cases e : k = j
    · subst e
      refine ⟨fun p hp => ?_, ?_⟩
      · show su t.1 (3 * k + 2) _ (3 * k + p) ≤ _
        by_cases e2 : p = 2
        · subst e2; rw [su_s]; have := h1 2 hp; omega
        · rw [su_n (by omega)]; exact h1 p hp
      · show su t.1 (3 * k + 2) _ (3 * k) + su t.1 (3 * k + 2) _ (3 * k + 1) + su t.1 (3 * k + 2) _ (3 * k + 2) + t.2.1 k + su t.2.2 k _ k = _
        rw [su_n (by omega), su_n (by omega), su_s, su_s]
        omega
    · refine ⟨fun p hp => ?_, ?_⟩
      · show su t.1 (3 * j + 2) _ (3 * k + p) ≤ _
        rw [su_n (by omega)]; exact h1 p hp
      · show su t.1 (3 * j + 2) _ (3 * k) + su t.1 (3 * j + 2) _ (3 * k + 1) + su t.1 (3 * j + 2) _ (3 * k + 2) + t.2.1 k + su t.2.2 j _ k = _
        rw [su_n (by omega), su_n (by omega), su_n (by omega), su_n e]
        exact h2
theorem slks_ok {g : gN} {t : sT} (h : okS g t) : ∀ n, okS g (slks g n t)
  | 0 => h
  | n + 1 => slk_ok (slks_ok h n)
theorem sat_ok (g : gN) : ∀ d, okS g (sat g d)
  | 0 => fun k _ => ⟨fun p _ => Nat.le_refl _, rfl⟩
  | d + 1 => slks_ok (srn_ok (sat_ok g d)) _
theorem slks_none {g : gN} {t : sT} (h : sbt g t.1 (g 0 1) = none) : ∀ n, slks g n t = t
  | 0 => rfl
  | n + 1 => by
    show slk g (slks g n t) = t
    rw [slks_none h n]
    unfold slk
    rw [h]
theorem slks_succ (g : gN) (t : sT) : ∀ n, slks g (n + 1) t = slks g n (slk g t)
  | 0 => rfl
  | n + 1 => by
    show slk g (slks g (n + 1) t) = slk g (slks g n (slk g t))
    rw [slks_succ g t n]
/-- noses: no deer licks one -/
theorem slk_nose {g : gN} {t : sT} (x : Nat) (hx : x % 3 ≠ 2) : (slk g t).1 x = t.1 x := by
  unfold slk
  cases hb : sbt g t.1 (g 0 1) with
  | none => rfl
  | some j => exact su_n (by omega)
theorem slks_nose {g : gN} {t : sT} (x : Nat) (hx : x % 3 ≠ 2) : ∀ n, (slks g n t).1 x = t.1 x
  | 0 => rfl
  | n + 1 => (slk_nose x hx).trans (slks_nose x hx n)
/-- what rain takes of a nose up to a dawn -/
def sL (kd lk ov : Nat) (r w : Nat → Nat) : Nat → Nat
  | 0 => 0
  | d + 1 => sL kd lk ov r w d + sKK kd lk ov (r d) (w d) 0
theorem sL_mono {kd lk ov : Nat} {r w : Nat → Nat} {a b : Nat} (h : a ≤ b) : sL kd lk ov r w a ≤ sL kd lk ov r w b := by
  induction b with
  | zero => rw [show a = 0 by omega]; exact Nat.le_refl _
  | succ b ih =>
    by_cases e : a = b + 1
    · rw [e]; exact Nat.le_refl _
    · exact Nat.le_trans (ih (by omega)) (Nat.le_add_right _ _)
theorem sL_le {kd lk ov : Nat} {r w : Nat → Nat} {d : Nat} (h : ∀ e, e < d → r e ≤ 9) : sL kd lk ov r w d ≤ 27 * d := by
  induction d with
  | zero => exact Nat.le_refl _
  | succ d ih =>
    have h1 := ih (fun e he => h e (by omega))
    have h2 := sKK_le (kd := kd) (lk := lk) (ov := ov) (w := w d) (p := 0) (h d (by omega))
    show sL kd lk ov r w d + _ ≤ _
    omega
theorem sat_nose (g : gN) (k : Nat) : ∀ d, (sat g d).1 (3 * k) = g 2 (3 * k) - sL (g 1 k) (g 3 k) (g 4 k) (g 9) (g 10) d
  | 0 => rfl
  | d + 1 => by
    show (slks g (g 0 14) (srn g d (sat g d))).1 (3 * k) = _
    rw [slks_nose (3 * k) (by omega)]
    have e := srn_h g d (sat g d) k 0 (by decide)
    simp only [Nat.add_zero] at e
    rw [e, sat_nose g k d]
    show _ - sKK _ _ _ _ _ _ = g 2 (3 * k) - (sL _ _ _ _ _ d + _)
    omega
