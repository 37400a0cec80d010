theorem t_bar_s {n : Nat} {a1 a2 a3 a6 : Int32} {a4 : Int64} {m : xM} {K : Int32 → xM → Prop} (h : nin a1 4) (hK : K (-1) (xu m 0 0 0)) : wp_X7_barred n a1 a2 a3 a4 a6 m K := by
  unfold wp_X7_barred wp_X7_refused
  refine t_noSheet_n h (b1' ?_)
  rintro _ rfl
  exact hK
theorem t_bar_l {n k : Nat} {a2 a3 a6 : Int32} {a4 : Int64} {m : xM} {K : Int32 → xM → Prop} (hk : k < 4) (h : nin a2 3) (hK : K (-2) (xu m 0 0 0)) : wp_X7_barred n (nI k) a2 a3 a4 a6 m K := by
  unfold wp_X7_barred wp_X7_refused
  refine t_noSheet_y hk (b0' (w_in_n h (by omega) rfl (b0' ?_)))
  rintro _ rfl
  exact hK
theorem t_bar_f {n k l : Nat} {a3 : Int32} {a4 : Int64} {m : xM} {K : Int32 → xM → Prop} (hk : k < 4) (hl : l < 3) (hK : K (-2) (xu m 0 0 0)) : wp_X7_barred n (nI k) (nI l) a3 a4 (0 : Int32) m K := by
  unfold wp_X7_barred wp_X7_refused
  refine t_noSheet_y hk (b0' (w_in_y hl (by omega) rfl (b1' (b0 ?_))))
  rintro _ rfl
  exact hK
theorem t_bar_1 {n k l : Nat} {a3 : Int32} {a4 : Int64} {m : xM} {K : Int32 → xM → Prop} (hk : k < 4) (hl : l < 3) (h1 : m 19 k = (-1)) (hK : K ((-10) - 1) (xu m 0 0 1)) : wp_X7_barred n (nI k) (nI l) a3 a4 (1 : Int32) m K := by
  unfold wp_X7_barred wp_X7_failed
  rw [nI_clamp (by omega), h1]
  refine t_noSheet_y hk (b0' (w_in_y hl (by omega) rfl (b1' (b1 ⟨pk_in k 4 hk, xjn_i (fun _ => True) (fun _ _ => ⟨pk_in k 4 hk, fun q => absurd q (by decide), fun _ => ?_⟩) (fun J hJ => ⟨fun _ => hJ _ trivial, fun q => absurd (by decide) q⟩)⟩))))
  rintro _ rfl
  exact hK
theorem t_bar_2 {n k l l' z : Nat} {a3 : Int32} {a4 : Int64} {m : xM} {K : Int32 → xM → Prop} (hk : k < 4) (hl : l < 3) (hz : z ≤ 60) (h1 : m 19 k = nI z) (h2 : m 20 k = nI l') (hl' : l' < 3) (hne : l' ≠ l) (hK : K ((-10) - 2) (xu m 0 0 2)) : wp_X7_barred n (nI k) (nI l) a3 a4 (1 : Int32) m K := by
  unfold wp_X7_barred wp_X7_failed
  rw [nI_clamp (by omega), h1, h2]
  refine t_noSheet_y hk (b0' (w_in_y hl (by omega) rfl (b1' (b1 ⟨pk_in k 4 hk, xjn_i (fun _ => False) (fun _ q => absurd q id) (fun J hJ => ⟨fun q => absurd q (nI_pos (by omega)), fun _ => ⟨pk_in k 4 hk, pk_eq l' l (fun q => absurd q hne) (fun _ => ?_)⟩⟩)⟩))))
  rintro _ rfl
  exact hK
theorem lg_nn (b : Int32) : 0 ≤ lg_cmp b.toInt64 (0 : Int64) ↔ ¬ b < 0 := by
  have h0 : (0 : Int64).toInt = 0 := rfl
  have h1 : (0 : Int32).toInt = 0 := rfl
  rw [← Int32.not_lt, lgc_lt, Int64.lt_iff_toInt_lt, toI64, h0, Int32.lt_iff_toInt_lt, h1]
theorem t_bar_x {n k l z : Nat} {a3 b : Int32} {m : xM} {K : Int32 → xM → Prop} (hk : k < 4) (hl : l < 3) (hz : z ≤ 60) (h1 : m 19 k = nI z) (h2 : m 20 k = nI l) (k4 : b < 0 → K ((-10) - 4) (xu m 0 0 4)) (k3 : ¬ b < 0 → ¬ run a3 b z → K ((-10) - 3) (xu m 0 0 3)) (k0 : run a3 b z → K 0 m) : wp_X7_barred n (nI k) (nI l) a3 b.toInt64 (1 : Int32) m K := by
  unfold wp_X7_barred wp_X7_failed
  rw [nI_clamp (by omega), h1, h2]
  refine t_noSheet_y hk (b0' (w_in_y hl (by omega) rfl (b1' (b1 ⟨pk_in k 4 hk, xjn_i (fun _ => True) (fun _ _ => ⟨pk_in k 4 hk, fun _ => ⟨fun q => ⟨pk_in k 4 hk, ?_⟩, fun q => ?_⟩, fun q => absurd (nI_pos' (by omega)) q⟩) (fun J hJ => ⟨fun q => absurd q (nI_pos (by omega)), fun _ => ⟨pk_in k 4 hk, pk_eq l l (fun _ => hJ _ trivial) (fun q => absurd rfl q)⟩⟩)⟩))))
  · rw [lg_nn] at q
    by_cases r : run a3 b z
    · exact t_isBeyond_y hz r (b0' (k0 r))
    · refine t_isBeyond_n hz r (b1' ?_)
      rintro _ rfl
      exact k3 q r
  · rw [lg_nn] at q
    rintro _ rfl
    exact k4 (Classical.not_not.1 q)
theorem cs_10 {c c' : xM} {g : gN} (hg : okG g) (fc : ∀ b, 10 ≤ b → c' b = c b) (hc : cs c g) : cs c' g := by
  have hN := hg.1
  obtain ⟨⟨h1, h2, h3, h4⟩, kn, k1, k2, k3, k4⟩ := hc
  refine ⟨⟨by rw [fc 10 (by omega)]; exact h1, by rw [fc 10 (by omega)]; exact h2, fun k hk => ?_, fun d hd => ?_⟩, kn, by rw [fc 10 (by omega)]; exact k1, k2, fun d hd => ?_, fun d hd => ?_⟩
  · rw [fc (17 + k) (by omega), fc (24 + k) (by omega)]; exact h3 k hk
  · rw [fc 12 (by omega), fc 13 (by omega)]; exact h4 d hd
  · intro k hk
    rw [fc 14 (by omega), fc 15 (by omega)]; exact k3 d hd k hk
  · rw [fc 16 (by omega)]; exact k4 d hd
theorem mr_f {m : xM} {g : gN} (hm : mr m g) (v : Int32) : mr (xu m 0 0 v) g := by
  unfold mr
  rw [xu_j (by omega), xu_j (by omega), xu_ne (by omega), xu_ne (by omega), xu_ne (by omega), xu_ne (by omega), xu_ne (by omega), xu_ne (by omega), xu_ne (by omega)]
  exact hm
theorem rl_keepf {c m c' m1 : xM} {g : gN} (v : Int32) (hg : okG g) (hm : mr m g) (hr : rd c m g) (hs : sh c m) (ht : c 0 3 = m 0 28) (h0 : ∀ j, j < 7 → c 15 j = 0) (fc : frW (xu c 0 4 v) c') (hc : cs c' g) (fm : fr3 m m1) : rl c' (xu m1 0 0 v) := by
  refine rl_keep (c := xu c 0 4 v) (m := xu m 0 0 v) hg (mr_f hm v) (hr.same rfl (fun b hb => xu_ne (by omega)) (xu_j (by omega)) (fun b hb => xu_ne (by omega))) (hs.same (fun b b1 b2 => xu_ne (by omega)) (fun b hb => xu_ne (by omega))) (by rw [xu_s, xu_s]) (by rw [xu_j (by omega), xu_j (by omega)]; exact ht) (fun j hj => by rw [xu_a (by omega)]; exact h0 j hj) fc hc (fun b b1 b2 b3 => ?_)
  by_cases e : b = 0
  · subst e
    funext x
    rw [xu_if, xu_if, fm 0 b1 b2 b3]
  · rw [xu_ne e, xu_ne e]; exact fm b b1 b2 b3
def dst (a b : Nat) : Nat := (a - b) + (b - a)
def ap (h v : Nat → Nat) (k : Nat) : Nat → Nat
  | 0 => 0
  | p + 1 => ap h v k p + dst (h (3 * k + p)) (v p)
def nr (f : Nat → Nat) : Nat → Nat
  | 0 => 0
  | i + 1 => if f i < f (nr f i) then i else nr f i
theorem nr_lt (f : Nat → Nat) : ∀ {i B : Nat}, i ≤ B → 0 < B → nr f i < B
  | 0, _, _, h => h
  | i + 1, B, h, h2 => by
    unfold nr
    split
    · omega
    · exact nr_lt f (by omega) h2
theorem ap_le (h v : Nat → Nat) (k : Nat) (hh : ∀ p, p < 3 → h (3 * k + p) ≤ 90) (hv : ∀ p, p < 3 → v p < 1000) : ∀ p, p ≤ 3 → ap h v k p ≤ 2000 * p
  | 0, _ => by unfold ap; omega
  | p + 1, hp => by
    have := ap_le h v k hh hv p (by omega)
    have := hh p (by omega)
    have := hv p (by omega)
    unfold ap dst
    omega
theorem t_off {n a b : Nat} {m : xM} {K : Int32 → Prop} (ha : a < 2 ^ 30) (hb : b < 2 ^ 30) (hK : K (nI (dst a b))) : wp_X7_off n (nI a) (nI b) m K := by
  unfold wp_X7_off
  unfold dst at hK
  refine pk_le b a (fun e => ?_) (fun e => ?_)
  · rw [pk_sub e]
    rw [show a - b + (b - a) = a - b by omega] at hK
    exact hK
  · rw [pk_sub (by omega)]
    rw [show a - b + (b - a) = b - a by omega] at hK
    exact hK
theorem i_abs {a b : Nat} (ha : a < 2 ^ 30) (hb : b < 2 ^ 30) : (if 0 ≤ nI a - nI b then nI a - nI b else 0 - (nI a - nI b)) = nI (dst a b) := by
  unfold dst
  by_cases e : b ≤ a
  · rw [pk_sub e, if_pos (nI_pos' (by omega)), show a - b + (b - a) = a - b by omega]
  · rw [if_neg (by rw [Int32.not_le]; exact pk_sneg hb (by omega)), show a - b + (b - a) = b - a by omega, ← pk_sub (a := b) (b := a) (by omega)]
    rw [Int32.zero_sub, Int32.neg_sub]
