theorem t_keepOver {n : Nat} {m : xM} {K : xM → Prop} (hn : 100 ≤ n) (hK : ∀ m', (∀ a, a ≠ 14 → m' a = m a) → (∀ j, j < 7 → m' 14 j = m 4 j) → K m') : wp_X7_keepOver n m K := by
  unfold wp_X7_keepOver
  refine lpg (fun i (x : xM) => (nI i, x)) 7 (fun i x => (∀ a, a ≠ 14 → x a = m a) ∧ ∀ j, j < i → x 14 j = m 4 j) ?_ (i := 0) (t := m) ⟨fun _ _ => rfl, fun j hj => absurd hj (by omega)⟩ (by omega) (by omega)
  intro i x again hi ⟨p1, p2⟩ hag
  dsimp only
  refine pk_le 7 i (fun hh => hK x p1 (fun j hj => p2 j (by omega))) (fun hh => ⟨pk_in i 7 hh, pk_in i 7 hh, ?_⟩)
  rw [nI_clamp (by omega)]
  rintro _ rfl _ rfl
  rw [nI_1]
  refine hag _ hh ⟨fun a ha => by rw [xu_ne ha]; exact p1 a ha, fun j hj => ?_⟩
  by_cases e : j = i
  · rw [e, xu_s, p1 4 (by omega)]
  · rw [xu_j e]; exact p2 j (by omega)
theorem t_takeOver {n : Nat} {m : xM} {K : xM → Prop} (hn : 100 ≤ n) (hK : ∀ m', (∀ a, a ≠ 4 → m' a = m a) → (∀ j, j < 7 → m' 4 j = m 14 j) → K m') : wp_X7_takeOver n m K := by
  unfold wp_X7_takeOver
  refine lpg (fun i (x : xM) => (nI i, x)) 7 (fun i x => (∀ a, a ≠ 4 → x a = m a) ∧ ∀ j, j < i → x 4 j = m 14 j) ?_ (i := 0) (t := m) ⟨fun _ _ => rfl, fun j hj => absurd hj (by omega)⟩ (by omega) (by omega)
  intro i x again hi ⟨p1, p2⟩ hag
  dsimp only
  refine pk_le 7 i (fun hh => hK x p1 (fun j hj => p2 j (by omega))) (fun hh => ⟨pk_in i 7 hh, pk_in i 7 hh, ?_⟩)
  rw [nI_clamp (by omega)]
  rintro _ rfl _ rfl
  rw [nI_1]
  refine hag _ hh ⟨fun a ha => by rw [xu_ne ha]; exact p1 a ha, fun j hj => ?_⟩
  by_cases e : j = i
  · rw [e, xu_s, p1 14 (by omega)]
  · rw [xu_j e]; exact p2 j (by omega)
def bset (P : Nat → Bool) : Nat → Nat
  | 0 => 0
  | k + 1 => if P k = true then bset P k ||| 2 ^ k else bset P k
theorem bset_lt (P : Nat → Bool) : ∀ N, bset P N < 2 ^ N
  | 0 => Nat.one_pos
  | k + 1 => by
    have ih := bset_lt P k
    have e : 2 ^ k < 2 ^ (k + 1) := Nat.pow_lt_pow_right (by omega) (by omega)
    unfold bset
    split
    · exact Nat.or_lt_two_pow (by omega) e
    · omega
theorem bset_t (P : Nat → Bool) (j : Nat) : ∀ N, (bset P N).testBit j = (decide (j < N) && P j)
  | 0 => by
    show (0 : Nat).testBit j = _
    rw [Nat.zero_testBit, decide_eq_false (by omega)]
    rfl
  | k + 1 => by
    have ih := bset_t P j k
    unfold bset
    by_cases e : j = k
    · subst e
      rw [decide_eq_false (by omega), Bool.false_and] at ih
      rw [decide_eq_true (by omega), Bool.true_and]
      by_cases q : P j = true
      · rw [if_pos q, Nat.testBit_or, Nat.testBit_two_pow_self, Bool.or_true, q]
      · rw [if_neg q, ih]
        exact (Bool.not_eq_true _ ▸ q : P j = false).symm
    · have e2 : decide (j < k + 1) = decide (j < k) := by
        by_cases z : j < k
        · rw [decide_eq_true z, decide_eq_true (by omega)]
        · rw [decide_eq_false z, decide_eq_false (by omega)]
      rw [e2]
      split
      · rw [Nat.testBit_or, ih, Nat.testBit_two_pow_of_ne (fun z => e z.symm), Bool.or_false]
      · exact ih
theorem dnn_61 {g : gN} {k lk ov : Nat} : dnn g k lk ov = 61 ↔ sL (g 1 k) lk ov (g 9) (g 10) 60 < g 2 (3 * k) := by
  unfold dnn
  constructor
  · intro h
    rcases sfs_sp (fun d => decide (g 2 (3 * k) ≤ sL (g 1 k) lk ov (g 9) (g 10) d)) 61 with ⟨h1, h2⟩ | ⟨h1, h2, h3⟩
    · have := of_decide_eq_false (h2 60 (by omega))
      omega
    · omega
  · intro h
    refine sfs_no (fun e he => decide_eq_false ?_)
    have := sL_mono (kd := g 1 k) (lk := lk) (ov := ov) (r := g 9) (w := g 10) (a := e) (b := 60) (by omega)
    omega
theorem u_lasting {n ov : Nat} {c : xM} {g : gN} {K : Int32 → Prop} (hc : cr c g) (hg : okG g) (hov : ov < 3) (hn : 100 ≤ n) (hK : K (nI (bset (fun k => decide (dnn g k (g 3 k) ov = 61)) (g 0 1)))) : wp_X0_lastingUnder n (nI ov) c K := by
  have hN := hg.1
  unfold wp_X0_lastingUnder
  refine lpg (fun i (_ : Unit) => (nI i, nI (bset (fun k => decide (dnn g k (g 3 k) ov = 61)) i))) (g 0 1) (fun _ _ => True) ?_ (i := 0) (t := ()) trivial (by omega) (by omega)
  intro i _ again hi _ hag
  dsimp only
  rw [hc.1]
  refine pk_le (g 0 1) i (fun hh => ?_) (fun hh => ⟨pk_in i 7 (by omega), ?_⟩)
  · rw [show i = g 0 1 by omega]; exact hK
  · have hlk := (hg.2.2.1 i hh).2.1
    have hag := hag () hh trivial
    unfold bset at hag
    rw [nI_clamp (by omega), (hc.2.2.1 i hh).2.1]
    refine u_dawnNose hc hg hh hlk hov hn ?_
    have hd : dnn g i (g 3 i) ov ≤ 61 := sfs_le _ 61
    refine pk_ne (dnn g i (g 3 i) ov) 61 (fun e => ?_) (fun e => ?_)
    · rintro _ rfl
      rw [if_neg (by rw [decide_eq_true_iff]; exact e)] at hag
      rw [nI_1]; exact hag
    · rw [ishl (by omega), ior]
      rintro _ rfl _ rfl
      rw [if_pos (by rw [decide_eq_true_iff]; exact e)] at hag
      rw [nI_1]; exact hag
def bcn (s : Nat) : Nat := cnt (fun k => s.testBit k) 7
theorem u_bcn {n v : Nat} {m : xM} {K : Int32 → Prop} (hv : v < 128) (hK : K (nI (bcn v))) : wp_J6_bitCount_0f7a4 n (nI v) m K := u_bitCount hv hK
theorem t_bcn {n s : Nat} {m : xM} {K : Int32 → Prop} (hn : 100 ≤ n) (hs : s < 128) (hK : K (nI (bcn s))) : wp_X7_bits n (nI s) m K := t_bits hn hs hK
theorem bcn_le (s : Nat) : bcn s ≤ 7 := cnt_le _ 7
def umz (f c : Nat → Nat) (w : Nat) : Nat → Int32 × Int32
  | 0 => (0, -1)
  | s + 1 => if c s = w ∧ ¬ nI (f s) ≤ (umz f c w s).2 then (nI s, nI (f s)) else umz f c w s
theorem umz_y {f c : Nat → Nat} {w s : Nat} (h1 : c s = w) (h2 : ¬ nI (f s) ≤ (umz f c w s).2) : umz f c w (s + 1) = (nI s, nI (f s)) := if_pos ⟨h1, h2⟩
theorem umz_n1 {f c : Nat → Nat} {w s : Nat} (h1 : c s ≠ w) : umz f c w (s + 1) = umz f c w s := if_neg (fun z => h1 z.1)
theorem umz_n2 {f c : Nat → Nat} {w s : Nat} (h2 : nI (f s) ≤ (umz f c w s).2) : umz f c w (s + 1) = umz f c w s := if_neg (fun z => z.2 h2)
def nos (g : gN) (s : Nat) : Nat := cnt (fun k => decide (dnn g k (g 3 k) (s / 2 ^ k % 2) = 61)) (g 0 1)
theorem nos_c {g : gN} (hN : g 0 1 ≤ 7) {s : Nat} : bcn ((s &&& bset (fun k => decide (dnn g k (g 3 k) 1 = 61)) (g 0 1)) ||| (bset (fun k => decide (dnn g k (g 3 k) 0 = 61)) (g 0 1) &&& (s ^^^ 4294967295))) = nos g s := by
  unfold bcn
  have tb : ∀ j, j < 32 → (4294967295 : Nat).testBit j = true := fun j hj => by
    have := Nat.testBit_two_pow_sub_one 32 j
    rw [decide_eq_true hj] at this
    exact this
  rw [cnt_out (N := g 0 1) hN (fun j hj => ?_)]
  · unfold nos
    refine cnt_congr (fun j hj => ?_)
    show Nat.testBit _ j = _
    rw [Nat.testBit_or, Nat.testBit_and, Nat.testBit_and, Nat.testBit_xor, bset_t, bset_t, tb j (by omega), decide_eq_true hj, Bool.true_and, Bool.true_and, Bool.xor_true, tb_mod]
    cases s.testBit j
    · simp
    · simp
  · show Nat.testBit _ j = false
    rw [Nat.testBit_or, Nat.testBit_and, Nat.testBit_and, bset_t, bset_t, decide_eq_false (by omega), Bool.false_and, Bool.false_and, Bool.and_false, Bool.false_and]
    rfl
theorem u_give {n u w : Nat} {c : xM} {g : gN} {K : Int32 → Prop} (hc : cr c g) (hg : okG g) (hu : u < 4) (hn : 200 ≤ n) (hK : K (if w = 0 then (umz (nos g) bcn (min u (g 0 1)) (2 ^ g 0 1)).1 else (umz (nos g) bcn (min u (g 0 1)) (2 ^ g 0 1)).2)) (hw : w < 2) : wp_X0_giveUmbrellas n (nI u) (nI w) c K := by
  have hN := hg.1
  have e2 : 2 ^ g 0 1 ≤ 2 ^ 7 := Nat.pow_le_pow_right (by omega) hN
  unfold wp_X0_giveUmbrellas
  refine u_lasting (ov := 0) hc hg (by omega) (by omega) ?_
  refine u_lasting (ov := 1) hc hg (by omega) (by omega) ?_
  rw [hc.1, imin (by omega) (by omega), ishl (by omega)]
  rintro _ rfl
  have bS := bset_lt (fun k => decide (dnn g k (g 3 k) 1 = 61)) (g 0 1)
  have bB := bset_lt (fun k => decide (dnn g k (g 3 k) 0 = 61)) (g 0 1)
  have bw : min u (g 0 1) ≤ 7 := by omega
  generalize 2 ^ g 0 1 = M at *
  generalize min u (g 0 1) = W at *
  refine lpg (fun s (_ : Unit) => (nI s, (umz (nos g) bcn W s).2, (umz (nos g) bcn W s).1)) M (fun _ _ => True) ?_ (i := 0) (t := ()) trivial (by omega) (by omega)
  intro s _ again hs _ hag
  dsimp only
  refine pk_le M s (fun hh => ?_) (fun hh => ?_)
  · rw [show s = M by omega]
    refine pk_ne w 0 (fun q => ?_) (fun q => ?_)
    · rw [if_neg q] at hK; exact hK
    · rw [if_pos q] at hK; exact hK
  · have hag := hag () hh trivial
    rw [show (-1 : Int32) = nI 4294967295 from rfl, ixor, iand, iand, ior]
    refine u_bcn (Nat.or_lt_two_pow (n := 7) (Nat.lt_of_le_of_lt Nat.and_le_left (by omega)) (Nat.lt_of_le_of_lt Nat.and_le_left (by omega))) (u_bcn (by omega) ?_)
    rw [nos_c hN]
    have b1 := bcn_le s
    refine pk_ne (bcn s) W (fun q => ?_) (fun q => ⟨fun q2 => ?_, fun q2 => ?_⟩)
    · rw [umz_n1 q] at hag
      rintro _ rfl
      rw [nI_1]; exact hag
    · rw [umz_n2 q2] at hag
      rintro _ rfl
      rw [nI_1]; exact hag
    · rw [umz_y q q2] at hag
      rintro _ rfl
      rw [nI_1]; exact hag
