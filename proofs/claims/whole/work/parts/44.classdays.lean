/-! ===== the class's days ===== -/
def cr (c : xM) (g : gN) : Prop := c 10 6 = nI (g 0 1) ∧ c 10 7 = nI (g 0 14) ∧ (∀ k, k < g 0 1 → c (17 + k) 1 = nI (g 1 k) ∧ c (17 + k) 2 = nI (g 3 k) ∧ c (17 + k) 3 = nI (g 4 k) ∧ c (17 + k) 4 = nI (g 5 k) ∧ ∀ p, p < 3 → c (24 + k) p = nI (g 2 (3 * k + p))) ∧ ∀ d, d < 60 → c 12 d = nI (g 9 d) ∧ c 13 d = nI (g 10 d)
def cd (c : xM) (g : gN) (d : Nat) (t : sT) : Prop := ∀ k, k < g 0 1 → (∀ p, p < 3 → c 14 (d * 21 + k * 3 + p) = nI (t.1 (3 * k + p))) ∧ c 15 (d * 7 + k) = nI (t.2.2 k)
def slkd (g : gN) (d : Nat) : Option Nat := if g 0 14 = 0 then none else sbt g (srn g d (sat g d)).1 (g 0 1)
/-- nothing up to DAWN d (rows below d) and nothing else than the rows is changed -/
def frD (d : Nat) (c c' : xM) : Prop := (∀ a, a ≠ 14 → a ≠ 15 → a ≠ 16 → c' a = c a) ∧ (∀ x, x < d * 21 → c' 14 x = c 14 x) ∧ (∀ x, x < d * 7 → c' 15 x = c 15 x) ∧ ∀ x, x + 1 < d → c' 16 x = c 16 x
theorem frD.rf (d : Nat) (c : xM) : frD d c c := ⟨fun _ _ _ _ => rfl, fun _ _ => rfl, fun _ _ => rfl, fun _ _ => rfl⟩
theorem frD.tr {d : Nat} {c c1 c2 : xM} (h : frD d c c1) (h2 : frD d c1 c2) : frD d c c2 :=
  ⟨fun a x y z => (h2.1 a x y z).trans (h.1 a x y z), fun x q => (h2.2.1 x q).trans (h.2.1 x q), fun x q => (h2.2.2.1 x q).trans (h.2.2.1 x q), fun x q => (h2.2.2.2 x q).trans (h.2.2.2 x q)⟩
theorem frD.dn {d e : Nat} {c c1 : xM} (h : frD d c c1) (he : e ≤ d) : frD e c c1 :=
  ⟨h.1, fun x q => h.2.1 x (by omega), fun x q => h.2.2.1 x (by omega), fun x q => h.2.2.2 x (by omega)⟩
theorem cr.fr {d : Nat} {c c' : xM} {g : gN} (h : cr c g) (hg : okG g) (hf : frD d c c') : cr c' g := by
  have f := hf.1
  have hN := hg.1
  obtain ⟨h1, h2, h3, h4⟩ := h
  refine ⟨by rw [f 10 (by decide) (by decide) (by decide)]; exact h1, by rw [f 10 (by decide) (by decide) (by decide)]; exact h2, fun k hk => ?_, fun e he => ?_⟩
  · rw [f (17 + k) (by omega) (by omega) (by omega), f (24 + k) (by omega) (by omega) (by omega)]
    exact h3 k hk
  · rw [f 12 (by decide) (by decide) (by decide), f 13 (by decide) (by decide) (by decide)]
    exact h4 e he
theorem u_washedOff {n k p r w kd lk ov : Nat} {c : xM} {K : Int32 → Prop} (h1 : c (17 + k) 1 = nI kd) (hkd : kd < 3) (hlk : lk < 4) (hov : ov < 3) (hr : r ≤ 9) (hw : w < 4) (hp : p < 3) (hK : K (nI (sKK kd lk ov r w p))) : wp_X3_washedOff n k (nI p) (nI r) (nI w) (nI lk) (nI ov) c K := by
  unfold wp_X3_washedOff
  rw [h1]
  unfold sKK at hK
  refine xjn_i (fun x => x = nI (if p = 0 ∧ w = lk then 3 * r else r)) ?_ ?_
  · rintro _ rfl
    refine xjn_i (fun x => x = nI (if p = 0 ∧ w = lk then 3 * r else if p = 1 then 2 * r else r)) ?_ ?_
    · rintro _ rfl
      have hA : (if p = 0 ∧ w = lk then 3 * r else if p = 1 then 2 * r else r) ≤ 27 := by (repeat' split) <;> omega
      generalize (if p = 0 ∧ w = lk then 3 * r else if p = 1 then 2 * r else r) = A at hA hK ⊢
      refine xjn_i (fun x => x = nI (if kd = 2 then A / 2 else A)) ?_ ?_
      · rintro _ rfl
        have hB : (if kd = 2 then A / 2 else A) ≤ 27 := by (repeat' split) <;> omega
        generalize (if kd = 2 then A / 2 else A) = B at hB hK ⊢
        refine pk_ne ov 1 (fun h => pk_ne ov 2 (fun h1 => ?_) (fun h1 => ?_)) (fun h => ⟨by decide, ?_⟩)
        · rw [if_neg h1, if_neg h] at hK; exact hK
        · rw [if_pos h1] at hK; exact hK
        · rintro _ rfl
          refine pk_ne ov 2 (fun h1 => ?_) (fun h1 => absurd h1 (by omega))
          rw [if_neg h1, if_pos h] at hK
          rw [div2 (by omega)]; exact hK
      · intro J hJ
        refine pk_ne kd 2 (fun h => ?_) (fun h => ⟨by decide, ?_⟩)
        · exact hJ _ (by rw [if_neg h])
        · rintro _ rfl
          exact hJ _ (by rw [if_pos h, div2 (by omega)])
    · intro J hJ
      refine pk_ne p 1 (fun h => ?_) (fun h => ?_)
      · refine hJ _ ?_
        by_cases h0 : p = 0 ∧ w = lk
        · rw [if_pos h0, if_pos h0]
        · rw [if_neg h0, if_neg h0, if_neg h]
      · rintro _ rfl
        refine hJ _ ?_
        rw [if_neg (by omega), if_pos h, mul2]
  · intro J hJ
    refine pk_ne p 0 (fun h => ?_) (fun h => pk_ne w lk (fun h1 => ?_) (fun h1 => ?_))
    · exact hJ _ (by rw [if_neg (by omega)])
    · exact hJ _ (by rw [if_neg (by omega)])
    · rintro _ rfl
      refine hJ _ ?_
      rw [if_pos ⟨h, h1⟩, mul3]
theorem u_placeOf {n k p d : Nat} {c : xM} {K : Int32 → Prop} (hK : K (nI (d * 21 + k * 3 + p))) : wp_X5_placeOf n (nI k) (nI p) (nI d) c K := by
  unfold wp_X5_placeOf
  rw [mul21r, mul3r, nI_add, nI_add]
  exact hK
theorem u_lickable {n k : Nat} {c : xM} {g : gN} {t : sT} {K : Int32 → Prop} (hc : cr c g) (hg : okG g) (ht : okS g t) (hk : k < g 0 1) (hK : K (if scn g t.1 k = true then 1 else 0)) : wp_X3_lickable n k (nI (t.1 (3 * k + 2))) c K := by
  have hN := hg.1
  obtain ⟨b1, b2, b3, b4, b5⟩ := hg.2.2.1 k hk
  have b52 := b5 2 (by decide)
  have ob12 := (okS_b hg ht hk).1 2 (by decide)
  obtain ⟨e1, e2, e3, e4, e5⟩ := hc.2.2.1 k hk
  have e52 := e5 2 (by decide)
  unfold wp_X3_lickable
  rw [show (2 : Int32).toNatClampNeg = 2 from rfl, e1, e4, e52, mul2]
  refine pk_eq (g 5 k) 0 (fun h => pk_ne (g 1 k) 0 (fun h1 => ⟨pk_in 2 3 (by omega), pk_le (2 * t.1 (3 * k + 2)) (g 2 (3 * k + 2)) (fun h2 => ?_) (fun h2 => ?_)⟩) (fun h1 => pk_le (t.1 (3 * k + 2)) 0 (fun h2 => ?_) (fun h2 => ?_))) (fun h => ?_)
  all_goals simp [scn, h] at hK
  · simp [h1] at hK; rw [if_neg (by omega)] at hK; exact hK
  · simp [h1] at hK; rw [if_pos (by omega)] at hK; exact hK
  · simp [h1] at hK; rw [if_neg (by omega)] at hK; exact hK
  · simp [h1] at hK; rw [if_pos (by omega)] at hK; exact hK
  · exact hK
theorem scn_pos {g : gN} {h : Nat → Nat} {k : Nat} (hg : okG g) (hk : k < g 0 1) (hs : scn g h k = true) : 0 < h (3 * k + 2) := by
  have b := (hg.2.2.1 k hk).2.2.2.2 2 (by decide)
  unfold scn at hs
  by_cases h1 : g 1 k = 0
  · simp [h1] at hs; omega
  · simp [h1] at hs; omega
theorem u_likedBest {n d : Nat} {c : xM} {g : gN} {t : sT} {K : Int32 → Prop} (hc : cr c g) (hg : okG g) (hs : cd c g d t) (ht : okS g t) (hd : d ≤ 60) (hn : 100 ≤ n) (hK : K (sbi (sbt g t.1 (g 0 1)))) : wp_X5_likedBest n (nI d) c K := by
  have hN := hg.1
  unfold wp_X5_likedBest
  refine lpg (fun i (_ : Unit) => (nI i, nI (match sbt g t.1 i with | none => 0 | some j => t.1 (3 * j + 2)), sbi (sbt g t.1 i))) (g 0 1) (fun _ _ => True) ?_ (i := 0) (t := ()) trivial (by omega) (by omega)
  intro i _ again hi _ hag
  dsimp only
  rw [hc.1]
  refine pk_le (g 0 1) i (fun h => ?_) (fun h => ?_)
  · rw [show i = g 0 1 by omega]; exact hK
  · have hag := hag () h trivial
    have ob := (okS_b hg ht h).1 2 (by decide)
    have s2 := (hs i h).1 2 (by decide)
    have eb : sbt g t.1 (i + 1) = match sbt g t.1 i with
      | none => if scn g t.1 i = true then some i else none
      | some j => if scn g t.1 i = true ∧ t.1 (3 * j + 2) < t.1 (3 * i + 2) then some i else some j := rfl
    rw [eb] at hag
    refine u_placeOf (p := 2) ⟨pk_in (d * 21 + i * 3 + 2) 1281 (by omega), ?_⟩
    rw [nI_clamp (by omega), s2]
    rintro _ rfl
    cases hb : sbt g t.1 i with
    | none =>
      rw [hb] at hag
      dsimp only at hag ⊢
      refine pk_le (t.1 (3 * i + 2)) 0 (fun h2 => ?_) (fun h2 => ⟨pk_in i 7 (by omega), ?_⟩)
      · rintro _ rfl
        have hns : ¬ scn g t.1 i = true := fun q => by have := scn_pos hg h q; omega
        rw [if_neg hns] at hag
        rw [nI_1]; exact hag
      · rw [nI_clamp (by omega)]
        refine u_lickable hc hg ht h ?_
        by_cases hq : scn g t.1 i = true
        · rw [if_pos hq]
          rw [if_pos hq] at hag
          refine ⟨fun h0 => absurd h0 (by decide), fun _ => ?_⟩
          rintro _ rfl
          rw [nI_1]; exact hag
        · rw [if_neg hq]
          rw [if_neg hq] at hag
          refine ⟨fun _ => ?_, fun h0 => absurd rfl h0⟩
          rintro _ rfl
          rw [nI_1]; exact hag
    | some j =>
      have hj := (sbt_lt hb).1
      have obj := (okS_b hg ht (show j < g 0 1 by omega)).1 2 (by decide)
      rw [hb] at hag
      dsimp only at hag ⊢
      refine pk_le (t.1 (3 * i + 2)) (t.1 (3 * j + 2)) (fun h2 => ?_) (fun h2 => ⟨pk_in i 7 (by omega), ?_⟩)
      · rintro _ rfl
        rw [if_neg (by omega)] at hag
        rw [nI_1]; exact hag
      · rw [nI_clamp (by omega)]
        refine u_lickable hc hg ht h ?_
        by_cases hq : scn g t.1 i = true
        · rw [if_pos hq]
          rw [if_pos ⟨hq, h2⟩] at hag
          refine ⟨fun h0 => absurd h0 (by decide), fun _ => ?_⟩
          rintro _ rfl
          rw [nI_1]; exact hag
        · rw [if_neg hq]
          rw [if_neg (fun z => hq z.1)] at hag
          refine ⟨fun _ => ?_, fun h0 => absurd rfl h0⟩
          rintro _ rfl
          rw [nI_1]; exact hag
