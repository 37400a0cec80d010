def cnt (P : Nat → Bool) : Nat → Nat
  | 0 => 0
  | k + 1 => cnt P k + if P k = true then 1 else 0
theorem cnt_le (P : Nat → Bool) : ∀ k, cnt P k ≤ k
  | 0 => Nat.le_refl _
  | k + 1 => by
    have := cnt_le P k
    unfold cnt
    split <;> omega
theorem cnt_congr {P Q : Nat → Bool} : ∀ {k : Nat}, (∀ j, j < k → P j = Q j) → cnt P k = cnt Q k
  | 0, _ => rfl
  | k + 1, h => by
    unfold cnt
    rw [cnt_congr (k := k) (fun j hj => h j (by omega)), h k (by omega)]
theorem cnt_mono {P Q : Nat → Bool} : ∀ {k : Nat}, (∀ j, j < k → P j = true → Q j = true) → cnt P k ≤ cnt Q k
  | 0, _ => Nat.le_refl _
  | k + 1, h => by
    have ih := cnt_mono (k := k) (fun j hj => h j (by omega))
    unfold cnt
    by_cases e : P k = true
    · rw [if_pos e, if_pos (h k (by omega) e)]; omega
    · rw [if_neg e]; omega
theorem cnt_all {P : Nat → Bool} : ∀ {k : Nat}, cnt P k = k → ∀ j, j < k → P j = true
  | 0, _, j, hj => absurd hj (by omega)
  | k + 1, h, j, hj => by
    have h1 := cnt_le P k
    unfold cnt at h
    by_cases e : P k = true
    · rw [if_pos e] at h
      by_cases e2 : j = k
      · rw [e2]; exact e
      · exact cnt_all (k := k) (by omega) j (by omega)
    · rw [if_neg e] at h; omega
theorem cnt_full {P : Nat → Bool} : ∀ {k : Nat}, (∀ j, j < k → P j = true) → cnt P k = k
  | 0, _ => rfl
  | k + 1, h => by
    unfold cnt
    rw [cnt_full (k := k) (fun j hj => h j (by omega)), if_pos (h k (by omega))]
theorem cnt_out {P : Nat → Bool} {N : Nat} : ∀ {k : Nat}, N ≤ k → (∀ j, N ≤ j → P j = false) → cnt P k = cnt P N
  | 0, h, _ => by rw [show N = 0 by omega]
  | k + 1, h, hP => by
    by_cases e : N = k + 1
    · rw [e]
    · have ih := cnt_out (k := k) (N := N) (by omega) hP
      show cnt P k + (if P k = true then 1 else 0) = _
      rw [ih, hP k (by omega)]
      rfl
theorem iand (a b : Nat) : nI a &&& nI b = nI (a &&& b) := by
  apply Int32.toBitVec_inj.1
  show BitVec.ofNat 32 a &&& BitVec.ofNat 32 b = BitVec.ofNat 32 (a &&& b)
  rw [BitVec.ofNat_and]
theorem ior (a b : Nat) : nI a ||| nI b = nI (a ||| b) := by
  apply Int32.toBitVec_inj.1
  show BitVec.ofNat 32 a ||| BitVec.ofNat 32 b = BitVec.ofNat 32 (a ||| b)
  rw [BitVec.ofNat_or]
theorem ixor (a b : Nat) : nI a ^^^ nI b = nI (a ^^^ b) := by
  apply Int32.toBitVec_inj.1
  show BitVec.ofNat 32 a ^^^ BitVec.ofNat 32 b = BitVec.ofNat 32 (a ^^^ b)
  rw [BitVec.ofNat_xor]
theorem ish : ∀ N, N < 8 → ((nI N &&& 31).toBitVec.smod 32).toNat = N := by decide
theorem ishl {N : Nat} (h : N < 8) : (1 : Int32) <<< (nI N &&& 31) = nI (2 ^ N) := by
  have e2 : 2 ^ N ≤ 2 ^ 8 := Nat.pow_le_pow_right (by omega) (by omega)
  have := pk_shlN (n := 1) (nI N &&& 31) N (ish N h) (by omega)
  rw [Nat.one_mul] at this
  exact this
theorem ishr {s j : Nat} (h : j < 8) (hs : s < 2 ^ 31) : nI s >>> (nI j &&& 31) = nI (s / 2 ^ j) := pk_shrN hs _ j (ish j h)
theorem iand1 {s : Nat} (hs : s < 2 ^ 31) : nI s &&& (1 : Int32) = nI (s % 2) := pk_andN (by omega) 1 (by decide)
theorem tb_mod (s j : Nat) : s / 2 ^ j % 2 = if s.testBit j = true then 1 else 0 := by
  rw [Nat.testBit_eq_decide_div_mod_eq]
  by_cases e : s / 2 ^ j % 2 = 1
  · rw [e]; rfl
  · rw [if_neg (by rw [decide_eq_true_iff]; exact e)]; omega
theorem t_bits {n s : Nat} {m : xM} {K : Int32 → Prop} (hn : 100 ≤ n) (hs : s < 128) (hK : K (nI (cnt (fun k => s.testBit k) 7))) : wp_X7_bits n (nI s) m K := by
  unfold wp_X7_bits
  refine lpg (fun i (t : Int32) => (t, nI (cnt (fun k => s.testBit k) i))) 7 (fun i t => t = nI (s / 2 ^ i)) ?_ (i := 0) (t := nI s) (by rw [Nat.pow_zero, Nat.div_one]) (by omega) (by omega)
  rintro i _ again hi rfl hag
  dsimp only
  have b1 : s / 2 ^ i ≤ s := Nat.div_le_self _ _
  have bc := cnt_le (fun k => s.testBit k) i
  refine pk_le (s / 2 ^ i) 0 (fun e => ?_) (fun e => ?_)
  · rw [cnt_out hi (fun j hj => ?_)] at hK
    · exact hK
    · rw [Nat.testBit_eq_decide_div_mod_eq, decide_eq_false_iff_not]
      have : s / 2 ^ j ≤ s / 2 ^ i := Nat.div_le_div_left (Nat.pow_le_pow_right (by omega) hj) (Nat.two_pow_pos i)
      have e3 : s / 2 ^ j = 0 := Nat.le_zero.1 (Nat.le_trans this e)
      rw [e3]
      decide
  · have hi7 : i < 7 := by
      by_cases q : i = 7
      · rw [q] at e
        have : s / 2 ^ 7 = 0 := Nat.div_eq_of_lt hs
        omega
      · omega
    rw [iand1 (by omega), nI_add, show (1 : Int32) &&& 31 = nI 1 &&& 31 from rfl, ishr (by omega) (by omega)]
    rintro _ rfl _ rfl
    have := hag (nI (s / 2 ^ (i + 1))) hi7 rfl
    rw [show s / 2 ^ i / 2 ^ 1 = s / 2 ^ (i + 1) by rw [Nat.div_div_eq_div_mul, ← Nat.pow_add], tb_mod]
    exact this
theorem bc_n : ∀ v, v < 128 → (v / 2 ^ 1 &&& 1431655765) ≤ v ∧ v - (v / 2 ^ 1 &&& 1431655765) < 256 ∧ ((v - (v / 2 ^ 1 &&& 1431655765)) &&& 858993459) + ((v - (v / 2 ^ 1 &&& 1431655765)) / 2 ^ 2 &&& 858993459) < 256 ∧ ∃ x, x < 256 ∧ ((((v - (v / 2 ^ 1 &&& 1431655765)) &&& 858993459) + ((v - (v / 2 ^ 1 &&& 1431655765)) / 2 ^ 2 &&& 858993459)) + (((v - (v / 2 ^ 1 &&& 1431655765)) &&& 858993459) + ((v - (v / 2 ^ 1 &&& 1431655765)) / 2 ^ 2 &&& 858993459)) / 2 ^ 4) &&& 252645135 = x ∧ (x &&& 63) = cnt (fun k => v.testBit k) 7 := by
  intro v hv
  have key : ∀ v, v < 128 → (v / 2 ^ 1 &&& 1431655765) ≤ v ∧ v - (v / 2 ^ 1 &&& 1431655765) < 256 ∧ ((v - (v / 2 ^ 1 &&& 1431655765)) &&& 858993459) + ((v - (v / 2 ^ 1 &&& 1431655765)) / 2 ^ 2 &&& 858993459) < 256 ∧ ((((v - (v / 2 ^ 1 &&& 1431655765)) &&& 858993459) + ((v - (v / 2 ^ 1 &&& 1431655765)) / 2 ^ 2 &&& 858993459)) + (((v - (v / 2 ^ 1 &&& 1431655765)) &&& 858993459) + ((v - (v / 2 ^ 1 &&& 1431655765)) / 2 ^ 2 &&& 858993459)) / 2 ^ 4) &&& 252645135 < 256 ∧ ((((((v - (v / 2 ^ 1 &&& 1431655765)) &&& 858993459) + ((v - (v / 2 ^ 1 &&& 1431655765)) / 2 ^ 2 &&& 858993459)) + (((v - (v / 2 ^ 1 &&& 1431655765)) &&& 858993459) + ((v - (v / 2 ^ 1 &&& 1431655765)) / 2 ^ 2 &&& 858993459)) / 2 ^ 4) &&& 252645135) &&& 63) = cnt (fun k => v.testBit k) 7 := by decide
  obtain ⟨k1, k2, k3, k4, k5⟩ := key v hv
  exact ⟨k1, k2, k3, _, k4, rfl, k5⟩
theorem u_bitCount {n v : Nat} {m : xM} {K : Int32 → Prop} (hv : v < 128) (hK : K (nI (cnt (fun k => v.testBit k) 7))) : wp_J6_bitCount_0f7a4 n (nI v) m K := by
  unfold wp_J6_bitCount_0f7a4
  obtain ⟨k1, k2, k3, x, k4, k5, k6⟩ := bc_n v hv
  rw [pk_ushrN (n := v) (by omega) (1 : Int32) 1 (by decide), show (1431655765 : Int32) = nI 1431655765 from rfl, show (858993459 : Int32) = nI 858993459 from rfl, show (252645135 : Int32) = nI 252645135 from rfl, iand, pk_sub k1]
  generalize v - (v / 2 ^ 1 &&& 1431655765) = c1 at *
  rintro _ rfl
  rw [pk_ushrN (n := c1) (by omega) (2 : Int32) 2 (by decide), iand, iand, nI_add]
  generalize (c1 &&& 858993459) + (c1 / 2 ^ 2 &&& 858993459) = c2 at *
  rintro _ rfl
  rw [pk_ushrN (n := c2) (by omega) (4 : Int32) 4 (by decide), nI_add, iand, k5]
  rintro _ rfl
  rw [pk_ushrN (n := x) (by omega) (8 : Int32) 8 (by decide), nI_add, show x / 2 ^ 8 = 0 from Nat.div_eq_of_lt k4, Nat.add_zero]
  rintro _ rfl
  rw [pk_ushrN (n := x) (by omega) (16 : Int32) 16 (by decide), nI_add, show x / 2 ^ 16 = 0 from Nat.div_eq_of_lt (by omega), Nat.add_zero]
  rintro _ rfl
  rw [show (63 : Int32) = nI 63 from rfl, iand, k6]
  exact hK
def dnn (g : gN) (k lk ov : Nat) : Nat := sfs (fun d => decide (g 2 (3 * k) ≤ sL (g 1 k) lk ov (g 9) (g 10) d)) 61
theorem u_dawnNose {n k lk ov : Nat} {c : xM} {g : gN} {K : Int32 → Prop} (hc : cr c g) (hg : okG g) (hk : k < g 0 1) (hlk : lk < 4) (hov : ov < 3) (hn : 100 ≤ n) (hK : K (nI (dnn g k lk ov))) : wp_X0_dawnWithoutNose n (nI k) (nI lk) (nI ov) c K := by
  have hN := hg.1
  unfold wp_X0_dawnWithoutNose
  have i0 : (0 : Int32).toNatClampNeg = 0 := rfl
  have c1 := (hc.2.2.1 k hk).1
  have cF := (hc.2.2.1 k hk).2.2.2.2 0 (by decide)
  have bF := (hg.2.2.1 k hk).2.2.2.2 0 (by decide)
  have kdl := (hg.2.2.1 k hk).1
  simp only [Nat.add_zero] at cF bF
  rw [nI_clamp (n := k) (by omega), i0, cF]
  refine ⟨pk_in k 7 (by omega), pk_in 0 3 (by omega), ?_⟩
  rintro _ rfl
  refine lpg (fun i (_ : Unit) => (nI i, nI (g 2 (3 * k) - sL (g 1 k) lk ov (g 9) (g 10) i))) 60 (fun i _ => sL (g 1 k) lk ov (g 9) (g 10) i < g 2 (3 * k)) ?_ (i := 0) (t := ()) (by show 0 < g 2 (3 * k); omega) (by omega) (by omega)
  intro i _ again hi p hag
  dsimp only
  have no : ∀ e, e < i + 1 → decide (g 2 (3 * k) ≤ sL (g 1 k) lk ov (g 9) (g 10) e) = false := fun e he => by
    rw [decide_eq_false_iff_not]
    have := sL_mono (kd := g 1 k) (lk := lk) (ov := ov) (r := g 9) (w := g 10) (a := e) (b := i) (by omega)
    omega
  refine pk_le 60 i (fun hh => ?_) (fun hh => ⟨pk_in i 60 hh, pk_in i 60 hh, ?_⟩)
  · have e60 : i = 60 := by omega
    subst e60
    have : dnn g k lk ov = 61 := sfs_no no
    rw [this] at hK
    exact hK
  · have ok := hg.2.2.2 i hh
    rw [nI_clamp (by omega), (hc.2.2.2 i hh).1, (hc.2.2.2 i hh).2]
    refine u_washedOff c1 kdl hlk hov ok.1 ok.2 (p := 0) (by omega) ?_
    rintro _ rfl
    have bK := sKK_le (kd := g 1 k) (lk := lk) (ov := ov) (r := g 9 i) (w := g 10 i) (p := 0) ok.1
    have es : sL (g 1 k) lk ov (g 9) (g 10) (i + 1) = sL (g 1 k) lk ov (g 9) (g 10) i + sKK (g 1 k) lk ov (g 9 i) (g 10 i) 0 := rfl
    have hag := hag () hh
    rw [es] at hag
    have yes : g 2 (3 * k) ≤ sL (g 1 k) lk ov (g 9) (g 10) i + sKK (g 1 k) lk ov (g 9 i) (g 10 i) 0 → dnn g k lk ov = i + 1 := fun q => sfs_yes (decide_eq_true (by rw [es]; exact q)) no (by omega)
    generalize sL (g 1 k) lk ov (g 9) (g 10) i = A at *
    generalize sKK (g 1 k) lk ov (g 9 i) (g 10 i) 0 = B at *
    by_cases q : g 2 (3 * k) ≤ A + B
    · rw [yes q] at hK
      refine ⟨fun z => ?_, fun _ => ?_⟩
      · exfalso
        rw [Int32.lt_iff_toInt_lt, pk_sub_toInt (by omega) (by omega), show (0 : Int32).toInt = 0 from rfl] at z
        omega
      · rw [nI_1]; exact hK
    · have hag := hag (by omega)
      rw [pk_sub (by omega)]
      rw [show g 2 (3 * k) - A - B = g 2 (3 * k) - (A + B) by omega]
      refine ⟨fun _ => ?_, fun z => absurd (nI_lt (a := 0) (by omega) (by omega)) z⟩
      rintro _ rfl
      rw [nI_1]; exact hag
theorem t_nosesNow {n : Nat} {m : xM} {g : gN} {t : sT} {K : Int32 → Prop} (hm : mr m g) (hg : okG g) (hs : ms m g t) (ht : okS g t) (hn : 100 ≤ n) (hK : K (nI (cnt (fun k => decide (0 < t.1 (3 * k))) (g 0 1)))) : wp_X7_nosesNow n m K := by
  have hN := hg.1
  unfold wp_X7_nosesNow
  refine lpg (fun i (_ : Unit) => (nI i, nI (cnt (fun k => decide (0 < t.1 (3 * k))) i))) (g 0 1) (fun _ _ => True) ?_ (i := 0) (t := ()) trivial (by omega) (by omega)
  intro i _ again hi _ hag
  dsimp only
  rw [hm.1]
  refine pk_le (g 0 1) i (fun hh => ?_) (fun hh => ?_)
  · rw [show i = g 0 1 by omega]; exact hK
  · have q := (hs i hh).1 0 (by omega)
    have b := (okS_b hg ht hh).1 0 (by omega)
    simp only [Nat.add_zero] at q b
    rw [mul3, nI_clamp (by omega), q]
    have hag := hag () hh trivial
    unfold cnt at hag
    refine ⟨pk_in (3 * i) 21 (by omega), pk_le (t.1 (3 * i)) 0 (fun e => ?_) (fun e => ?_)⟩
    · rintro _ rfl _ rfl
      rw [if_neg (by rw [decide_eq_true_iff]; omega)] at hag
      rw [nI_1, show ∀ x : Nat, nI x + (0 : Int32) = nI (x + 0) from fun x => nI_add x 0]; exact hag
    · rintro _ rfl _ rfl
      rw [if_pos (by rw [decide_eq_true_iff]; omega)] at hag
      rw [nI_1, nI_1]; exact hag
