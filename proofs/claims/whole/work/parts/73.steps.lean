theorem dnn_lt {g : gN} {k lk ov e : Nat} (he : e ≤ 60) : e < dnn g k lk ov ↔ sL (g 1 k) lk ov (g 9) (g 10) e < g 2 (3 * k) := by
  unfold dnn
  constructor
  · intro h
    rcases sfs_sp (fun d => decide (g 2 (3 * k) ≤ sL (g 1 k) lk ov (g 9) (g 10) d)) 61 with ⟨h1, h2⟩ | ⟨h1, h2, h3⟩
    · have := of_decide_eq_false (h2 e (by omega))
      omega
    · have := of_decide_eq_false (h3 e h)
      omega
  · intro h
    rcases sfs_sp (fun d => decide (g 2 (3 * k) ≤ sL (g 1 k) lk ov (g 9) (g 10) d)) 61 with ⟨h1, h2⟩ | ⟨h1, h2, h3⟩
    · omega
    · by_cases q : e < sfs (fun d => decide (g 2 (3 * k) ≤ sL (g 1 k) lk ov (g 9) (g 10) d)) 61
      · exact q
      · exfalso
        have z := of_decide_eq_true h2
        have := sL_mono (kd := g 1 k) (lk := lk) (ov := ov) (r := g 9) (w := g 10) (a := sfs (fun d => decide (g 2 (3 * k) ≤ sL (g 1 k) lk ov (g 9) (g 10) d)) 61) (b := e) (by omega)
        omega
theorem dnn_le (g : gN) (k lk ov : Nat) : dnn g k lk ov ≤ 61 := sfs_le _ 61
theorem dnn_pos {g : gN} (hg : okG g) {k lk ov : Nat} (hk : k < g 0 1) : 0 < dnn g k lk ov := by
  have bF := ((hg.2.2.1 k hk).2.2.2.2 0 (by omega)).1
  simp only [Nat.add_zero] at bF
  rw [dnn_lt (by omega)]
  show 0 < g 2 (3 * k)
  omega
def mnf (F : Nat → Nat) : Nat → Nat
  | 0 => 61
  | k + 1 => min (mnf F k) (F k)
def mno (F : Nat → Nat) (k : Nat) : Nat → Nat
  | 0 => 61
  | o + 1 => if o = k then mno F k o else min (mno F k o) (F o)
theorem mnf_le {F : Nat → Nat} : ∀ {N k : Nat}, k < N → mnf F N ≤ F k
  | 0, _, h => absurd h (by omega)
  | N + 1, k, h => by
    show min (mnf F N) (F N) ≤ F k
    by_cases e : k = N
    · rw [e]; exact Nat.min_le_right _ _
    · exact Nat.le_trans (Nat.min_le_left _ _) (mnf_le (by omega))
theorem mnf_ge {F : Nat → Nat} {v : Nat} (hv : v ≤ 61) : ∀ {N : Nat}, (∀ k, k < N → v ≤ F k) → v ≤ mnf F N
  | 0, _ => hv
  | N + 1, h => by
    show v ≤ min (mnf F N) (F N)
    have := mnf_ge hv (N := N) (fun k hk => h k (by omega))
    have := h N (by omega)
    omega
theorem mnf_61 (F : Nat → Nat) : ∀ N, mnf F N ≤ 61
  | 0 => Nat.le_refl _
  | N + 1 => Nat.le_trans (Nat.min_le_left _ _) (mnf_61 F N)
theorem mno_b {F : Nat → Nat} {k : Nat} : ∀ {N : Nat}, (∀ o, o < N → 0 < F o) → mno F k N ≤ 61 ∧ 0 < mno F k N
  | 0, _ => ⟨Nat.le_refl _, by show 0 < 61; omega⟩
  | N + 1, h => by
    have ih := mno_b (F := F) (k := k) (N := N) (fun o ho => h o (by omega))
    have := h N (by omega)
    unfold mno
    split
    · exact ih
    · omega
theorem mnf_upd {F F' : Nat → Nat} {k : Nat} (h : ∀ o, o ≠ k → F' o = F o) : ∀ N, (N ≤ k → mnf F' N = mno F k N) ∧ (k < N → mnf F' N = min (mno F k N) (F' k))
  | 0 => ⟨fun _ => rfl, fun q => absurd q (by omega)⟩
  | N + 1 => by
    have ih := mnf_upd h N
    have e1 : mnf F' (N + 1) = min (mnf F' N) (F' N) := rfl
    constructor
    · intro q
      have e2 : mno F k (N + 1) = min (mno F k N) (F N) := if_neg (by omega)
      rw [e1, e2, ih.1 (by omega), h N (by omega)]
    · intro q
      by_cases e : N = k
      · have e2 : mno F k (N + 1) = mno F k N := if_pos e
        rw [e1, e2, ih.1 (by omega), e]
      · have e2 : mno F k (N + 1) = min (mno F k N) (F N) := if_neg e
        rw [e1, e2, ih.2 (by omega), h N e]
        omega
def dnF (g : gN) (o : Nat) : Nat := dnn g o (g 3 o) (g 4 o)
theorem t_firstNose {n : Nat} {m : xM} {g : gN} {K : Int32 → xM → Prop} (hm : mr m g) (hg : okG g) (hn : 100 ≤ n) (hK : ∀ m', fr3 m m' → K (nI (mnf (dnF g) (g 0 1))) m') : wp_X7_firstNose n m K := by
  have hN := hg.1
  unfold wp_X7_firstNose
  refine t_begin hm hg hn (fun m0 f0 s0 => ?_)
  refine lpg (fun i (x : xM) => (nI i, x)) 60 (fun i x => fr3 m x ∧ ms x g (sat g i) ∧ ∀ o, o < g 0 1 → i < dnF g o) ?_ (i := 0) (t := m0) ⟨f0, s0, fun o ho => dnn_pos hg ho⟩ (by omega) (by omega)
  intro i x again hi ⟨p1, p2, p3⟩ hag
  dsimp only
  refine pk_le 60 i (fun hh => ?_) (fun hh => ?_)
  · have := hK x p1
    have e : mnf (dnF g) (g 0 1) = 61 := Nat.le_antisymm (mnf_61 _ _) (mnf_ge (by omega) (fun k hk => by have := p3 k hk; omega))
    rw [e] at this
    exact this
  · refine t_goDay (hm.fr p1) hg p2 (sat_ok g i) hh hn (fun y f sy => ?_)
    have sy' : ms y g (sat g (i + 1)) := sy
    refine t_nosesNow (hm.fr (p1.tr f)) hg sy' (sat_ok g (i + 1)) hn ?_
    rw [(hm.fr (p1.tr f)).1]
    have bc := cnt_le (fun k => decide (0 < (sat g (i + 1)).1 (3 * k))) (g 0 1)
    have al : ∀ o, o < g 0 1 → (decide (0 < (sat g (i + 1)).1 (3 * o)) = true ↔ i + 1 < dnF g o) := fun o ho => by
      unfold dnF
      rw [decide_eq_true_iff, sat_nose, dnn_lt (by omega)]
      omega
    refine pk_le (g 0 1) _ (fun q => ?_) (fun q => ?_)
    · rintro _ rfl
      rw [nI_1]
      refine hag y hh ⟨p1.tr f, sy', fun o ho => (al o ho).1 ?_⟩
      exact cnt_all (Nat.le_antisymm bc q) o ho
    · have ex : ∃ o, o < g 0 1 ∧ ¬ i + 1 < dnF g o := by
        by_cases z : ∃ o, o < g 0 1 ∧ ¬ i + 1 < dnF g o
        · exact z
        · exfalso
          have := cnt_full (P := fun k => decide (0 < (sat g (i + 1)).1 (3 * k))) (k := g 0 1) (fun o ho => (al o ho).2 (by
            by_cases w : i + 1 < dnF g o
            · exact w
            · exact absurd ⟨o, ho, w⟩ z))
          omega
      obtain ⟨o, ho, hno⟩ := ex
      have e : mnf (dnF g) (g 0 1) = i + 1 := by
        have h1 := mnf_le (F := dnF g) ho
        have h2 := mnf_ge (F := dnF g) (v := i + 1) (by omega) (N := g 0 1) (fun k hk => p3 k hk)
        omega
      have := hK y (p1.tr f)
      rw [e] at this
      rw [nI_1]
      exact this
def tvl (g : gN) (j : Nat) : Nat := min (mno (dnF g) (j / 4) (g 0 1)) (dnn g (j / 4) (j % 4) (g 4 (j / 4)))
def tz (v : Nat → Nat) : Nat → Nat × Nat
  | 0 => (0, 0)
  | j + 1 => if (tz v j).2 < v j then (10 * (j / 4) + j % 4, v j) else tz v j
theorem tz_y {v : Nat → Nat} {j : Nat} (h : (tz v j).2 < v j) : tz v (j + 1) = (10 * (j / 4) + j % 4, v j) := if_pos h
theorem tz_n {v : Nat → Nat} {j : Nat} (h : ¬ (tz v j).2 < v j) : tz v (j + 1) = tz v j := if_neg h
theorem tz_b {v : Nat → Nat} {B : Nat} (h : ∀ j, v j ≤ B) : ∀ j, (tz v j).2 ≤ B ∧ (tz v j).1 ≤ 10 * j
  | 0 => ⟨Nat.zero_le _, Nat.zero_le _⟩
  | j + 1 => by
    have ih := tz_b h j
    unfold tz
    split
    · refine ⟨h j, ?_⟩
      show 10 * (j / 4) + j % 4 ≤ 10 * (j + 1)
      omega
    · omega
theorem tvl_m {g : gN} {k t : Nat} (hk : k < g 0 1) : mnf (dnF (gs g 3 k t)) (g 0 1) = min (mno (dnF g) k (g 0 1)) (dnn g k t (g 4 k)) := by
  have ed : ∀ o lk ov, dnn (gs g 3 k t) o lk ov = dnn g o lk ov := fun o lk ov => by
    unfold dnn
    rw [gs_n (b := 2) (by decide), gs_n (b := 1) (by decide), gs_n (b := 9) (by decide), gs_n (b := 10) (by decide)]
  have h1 : ∀ o, o ≠ k → dnF (gs g 3 k t) o = dnF g o := fun o ho => by
    unfold dnF
    rw [ed, gs_sn ho, gs_n (by decide)]
  have h2 : dnF (gs g 3 k t) k = dnn g k t (g 4 k) := by
    unfold dnF
    rw [ed, gs_ss, gs_n (by decide)]
  rw [← h2]
  exact (mnf_upd h1 (g 0 1)).2 hk
theorem u_others {n k : Nat} {c : xM} {g : gN} {K : Int32 → Prop} (hc : cr c g) (hg : okG g) (hk : k < g 0 1) (hn : 100 ≤ n) (hK : K (nI (mno (dnF g) k (g 0 1)))) : wp_X0_firstDawnOfOthers n (nI k) c K := by
  have hN := hg.1
  unfold wp_X0_firstDawnOfOthers
  refine lpg (fun i (_ : Unit) => (nI i, nI (mno (dnF g) k i))) (g 0 1) (fun _ _ => True) ?_ (i := 0) (t := ()) trivial (by omega) (by omega)
  intro i _ again hi _ hag
  dsimp only
  rw [hc.1]
  refine pk_le (g 0 1) i (fun hh => ?_) (fun hh => ?_)
  · rw [show i = g 0 1 by omega]; exact hK
  · have hag := hag () hh trivial
    unfold mno at hag
    refine pk_eq i k (fun e => ?_) (fun e => ⟨pk_in i 7 (by omega), ?_⟩)
    · rw [if_pos e] at hag
      rintro _ rfl
      rw [nI_1]; exact hag
    · rw [if_neg e] at hag
      have hh2 := hg.2.2.1 i hh
      rw [nI_clamp (by omega), (hc.2.2.1 i hh).2.1, (hc.2.2.1 i hh).2.2.1]
      refine u_dawnNose hc hg hh hh2.2.1 hh2.2.2.1 hn ?_
      have b1 : dnn g i (g 3 i) (g 4 i) ≤ 61 := dnn_le g i (g 3 i) (g 4 i)
      have b2 := (mno_b (F := dnF g) (k := k) (N := i) (fun o ho => dnn_pos hg (by omega))).1
      rw [imin (by omega) (by omega)]
      rintro _ rfl _ rfl
      rw [nI_1]; exact hag
