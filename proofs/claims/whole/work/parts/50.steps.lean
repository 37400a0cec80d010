theorem w_inL_y {n v lo hi : Nat} {ll hh : Int64} {μ : xM} {K : Int32 → Prop} (e1 : ll.toInt = (lo : Int)) (e2 : hh.toInt = (hi : Int)) (h1 : lo ≤ v) (h2 : v ≤ hi) (hv : v < 2 ^ 31) (hK : K 1) : wp_X7_in n (nI v).toInt64 ll hh μ K := by
  unfold wp_X7_in
  have q1 : ¬ lg_cmp (nI v).toInt64 ll < 0 := by
    rw [lgc_lt, Int64.lt_iff_toInt_lt, toI64, nI_toInt hv, e1]; omega
  have q2 : ¬ 0 < lg_cmp (nI v).toInt64 hh := by
    rw [lgc_gt, Int64.lt_iff_toInt_lt, toI64, nI_toInt hv, e2]; omega
  exact ⟨fun h => absurd h q1, fun _ => ⟨fun h => absurd h q2, fun _ => hK⟩⟩
theorem w_inL_n {n : Nat} {lo hi : Int} {a : Int32} {ll hh : Int64} {μ : xM} {K : Int32 → Prop} (e1 : ll.toInt = lo) (e2 : hh.toInt = hi) (h : a.toInt < lo ∨ hi < a.toInt) (hK : K 0) : wp_X7_in n a.toInt64 ll hh μ K := by
  unfold wp_X7_in
  refine ⟨fun _ => hK, fun h1 => ⟨fun _ => hK, fun h2 => ?_⟩⟩
  rw [lgc_lt, Int64.lt_iff_toInt_lt, toI64, e1] at h1
  rw [lgc_gt, Int64.lt_iff_toInt_lt, toI64, e2] at h2
  omega
theorem st_grains {μC μM : xM} (h : rl μC μM) (a1 : Int32) (a2 : Int32) (a3 : Int32) : wp_X6_grains 2000 a1 a2 a3 μC (fun (r1 : Int32) (uC : xM) => wp_X7_grains 2000 a1 a2 a3 μM (fun (r2 : Int32) (uM : xM) => r1 = r2 ∧ rl uC uM)) := by
  obtain ⟨⟨g, hg, hm, hc, hr⟩, hs, hf, ht, h0⟩ := id h
  have hN := hg.1
  unfold wp_X6_grains wp_X7_grains
  rcases in_or a1 (g 0 1) with ⟨k, hk, rfl⟩ | hk
  · refine u_isStatue_y hc.1.1 hk hN (b1' ?_)
    rcases in_or a2 3 with ⟨p, hp, rfl⟩ | hp
    · refine w_bl_y hp (by omega) rfl (b1 ?_)
      rcases in_or a3 61 with ⟨d, hd, rfl⟩ | hd
      · refine u_isDawn_y (by omega) (b1 (u_leftOfPart hc hg hk hp (by omega) (by omega) (fun c' fc s' => ?_)))
        refine t_noOne_y hm.1 hk hN ⟨fun q => absurd rfl q, fun _ => t_noPart_y hp ⟨fun _ => t_isDawn_y (by omega) (b1 (t_goTo hm hg (by omega) (by omega) (fun m' fm sm => ?_))), fun q => absurd rfl q⟩⟩
        rw [mul3, nI_add, nI_clamp (by omega)]
        exact ⟨pk_in (3 * k + p) 21 (by omega), ((sm k hk).1 p hp).symm, rl_keep hg hm hr hs hf ht h0 fc s' fm⟩
      · refine u_isDawn_n hd (b0 ?_)
        exact t_noOne_y hm.1 hk hN ⟨fun q => absurd rfl q, fun _ => t_noPart_y hp ⟨fun _ => t_isDawn_n hd (b0 ⟨rfl, h⟩), fun q => absurd rfl q⟩⟩
    · refine w_bl_n hp (by omega) rfl (b0 ?_)
      exact t_noOne_y hm.1 hk hN ⟨fun q => absurd rfl q, fun _ => t_noPart_n hp (b1' ⟨rfl, h⟩)⟩
  · refine u_isStatue_n hc.1.1 hk hN (b0' ?_)
    exact t_noOne_n hm.1 hk hN (b1 ⟨rfl, h⟩)
theorem st_lost {μC μM : xM} (h : rl μC μM) (a1 : Int32) (a2 : Int32) (a3 : Int32) : wp_X6_lost 2000 a1 a2 a3 μC (fun (r1 : Int32) (uC : xM) => wp_X7_lost 2000 a1 a2 a3 μM (fun (r2 : Int32) (uM : xM) => r1 = r2 ∧ rl uC uM)) := by
  obtain ⟨⟨g, hg, hm, hc, hr⟩, hs, hf, ht, h0⟩ := id h
  have hN := hg.1
  unfold wp_X6_lost wp_X7_lost
  rcases in_or a1 (g 0 1) with ⟨k, hk, rfl⟩ | hk
  · refine u_isStatue_y hc.1.1 hk hN (b1 ?_)
    rcases in_or a2 61 with ⟨d, hd, rfl⟩ | hd
    · refine u_isDawn_y (by omega) (b1' ?_)
      rcases in_or a3 2 with ⟨w, hw, rfl⟩ | hw
      · refine w_bl_y hw (by omega) rfl (b1 (pk_ne w 0 (fun e => ?_) (fun e => ?_)))
        · refine u_lickedOff hc hg hk (by omega) (by omega) (fun c' fc s' => ?_)
          refine t_noOne_y hm.1 hk hN ⟨fun _ => t_isDawn_y (by omega) (b1' (w_in_y hw (by omega) rfl (b1 (t_goTo hm hg (by omega) (by omega) (fun m' fm sm => ?_))))), fun q => absurd rfl q⟩
          refine pk_ne w 0 (fun _ => ⟨pk_in k 7 (by omega), ?_⟩) (fun q => absurd q e)
          rw [nI_clamp (by omega)]
          exact ⟨(sm k hk).2.2.symm, rl_keep hg hm hr hs hf ht h0 fc s' fm⟩
        · refine u_inPuddle hc hg hk (by omega) (by omega) (fun c' fc s' => ?_)
          refine t_noOne_y hm.1 hk hN ⟨fun _ => t_isDawn_y (by omega) (b1' (w_in_y hw (by omega) rfl (b1 (t_goTo hm hg (by omega) (by omega) (fun m' fm sm => ?_))))), fun q => absurd rfl q⟩
          refine pk_ne w 0 (fun q => absurd e q) (fun _ => ⟨pk_in k 7 (by omega), ?_⟩)
          rw [nI_clamp (by omega)]
          exact ⟨(sm k hk).2.1.symm, rl_keep hg hm hr hs hf ht h0 fc s' fm⟩
      · refine w_bl_n hw (by omega) rfl (b0 ?_)
        exact t_noOne_y hm.1 hk hN ⟨fun _ => t_isDawn_y (by omega) (b1' (w_in_n hw (by omega) rfl (b0 ⟨rfl, h⟩))), fun q => absurd rfl q⟩
    · refine u_isDawn_n hd (b0' ?_)
      exact t_noOne_y hm.1 hk hN ⟨fun _ => t_isDawn_n hd (b0' ⟨rfl, h⟩), fun q => absurd rfl q⟩
  · refine u_isStatue_n hc.1.1 hk hN (b0 ?_)
    exact t_noOne_n hm.1 hk hN (b1' ⟨rfl, h⟩)
/-! gone -/
theorem sfs_le (P : Nat → Bool) : ∀ B, sfs P B ≤ B
  | 0 => Nat.le_refl 0
  | b + 1 => by
    have := sfs_le P b
    unfold sfs
    repeat' split
    all_goals omega
def gon (v : Nat) : Int32 := if v = 61 then (-9) else nI v
theorem t_goneAt {n k : Nat} {a2 : Int32} {m : xM} {g : gN} {P : Nat → Bool} {K : Int32 → xM → Prop} (hm : mr m g) (hg : okG g) (hn : 100 ≤ n)
    (hP : ∀ (d : Nat) (m' : xM) (K : Int32 → Prop), ms m' g (sat g d) → K (if P d = true then 1 else 0) → wp_X7_isGoneNow n (nI k) a2 m' K) (hP0 : P 0 = false) (hK : ∀ m', fr3 m m' → K (gon (sfs P 61)) m') : wp_X7_goneAt n (nI k) a2 m K := by
  unfold wp_X7_goneAt
  refine t_begin hm hg hn (fun m1 f1 s1 => ?_)
  refine lpg (fun i (x : xM) => (nI i, x)) 60 (fun i x => fr3 m x ∧ ms x g (sat g i) ∧ ∀ e, e ≤ i → P e = false) ?_ (i := 0) (t := m1) ⟨f1, s1, fun e he => by rw [show e = 0 by omega]; exact hP0⟩ (by omega) (by omega)
  intro i x again hi ⟨p1, p2, p3⟩ hag
  dsimp only
  refine pk_le 60 i (fun h => ?_) (fun h => ?_)
  · have hK := hK x p1
    rw [sfs_no (fun e he => p3 e (by omega))] at hK
    exact hK
  · refine t_goDay (hm.fr p1) hg p2 (sat_ok g i) h hn (fun y fy sy => ?_)
    refine hP (i + 1) y _ sy ?_
    by_cases e : P (i + 1) = true
    · rw [if_pos e]
      refine b1' ?_
      have hK := hK y (p1.tr fy)
      rw [sfs_yes e (fun z hz => p3 z (by omega)) (by omega)] at hK
      unfold gon at hK
      rw [if_neg (by omega)] at hK
      rw [add1]; exact hK
    · rw [if_neg e]
      refine b0' ?_
      rintro _ rfl
      rw [nI_1]
      refine hag y h ⟨p1.tr fy, sy, fun z hz => ?_⟩
      by_cases e2 : z = i + 1
      · rw [e2]; exact Bool.not_eq_true _ ▸ e
      · exact p3 z (by omega)
theorem t_gonePart {n k p d : Nat} {m : xM} {g : gN} {K : Int32 → Prop} (hg : okG g) (hk : k < g 0 1) (hp : p < 3) (hs : ms m g (sat g d)) (hK : K (if decide ((sat g d).1 (3 * k + p) = 0) = true then 1 else 0)) : wp_X7_isGoneNow n (nI k) (nI p) m K := by
  have hN := hg.1
  have ob := (okS_b hg (sat_ok g d) hk).1 p hp
  unfold wp_X7_isGoneNow
  rw [mul3, nI_add, nI_clamp (show 3 * k + p < 2 ^ 31 by omega), (hs k hk).1 p hp]
  refine pk_le 3 p (fun q => absurd q (by omega)) (fun _ => ⟨pk_in (3 * k + p) 21 (by omega), pk_ne ((sat g d).1 (3 * k + p)) 0 (fun e => ?_) (fun e => ?_)⟩)
  · simp [e] at hK; exact hK
  · simp [e] at hK; exact hK
theorem t_goneAll {n k d : Nat} {m : xM} {g : gN} {K : Int32 → Prop} (hg : okG g) (hk : k < g 0 1) (hs : ms m g (sat g d)) (hK : K (if decide (sm3 (sat g d).1 k = 0) = true then 1 else 0)) : wp_X7_isGoneNow n (nI k) (nI 3) m K := by
  have hN := hg.1
  have ob := sm3_le hg (sat_ok g d) hk
  obtain ⟨h1, -⟩ := hs k hk
  have e0 := h1 0 (by decide)
  have e1 := h1 1 (by decide)
  have e2 := h1 2 (by decide)
  simp only [Nat.add_zero] at e0
  unfold wp_X7_isGoneNow
  rw [mul3, add1, add2, nI_clamp (show 3 * k < 2 ^ 31 by omega), nI_clamp (show 3 * k + 1 < 2 ^ 31 by omega), nI_clamp (show 3 * k + 2 < 2 ^ 31 by omega), e0, e1, e2, nI_add, nI_add]
  refine pk_le 3 3 (fun _ => ⟨pk_in (3 * k) 21 (by omega), pk_in (3 * k + 1) 21 (by omega), pk_in (3 * k + 2) 21 (by omega), ?_⟩) (fun q => absurd q (by omega))
  unfold sm3 at hK ob
  refine pk_ne _ 0 (fun e => ?_) (fun e => ?_)
  · rw [if_neg (by simpa using e)] at hK; exact hK
  · rw [if_pos (by simpa using e)] at hK; exact hK
theorem first_pos {g : gN} (hg : okG g) {k p : Nat} (hk : k < g 0 1) (hp : p < 3) : decide ((sat g 0).1 (3 * k + p) = 0) = false := by
  have := (hg.2.2.1 k hk).2.2.2.2 p hp
  have e : (sat g 0).1 (3 * k + p) = g 2 (3 * k + p) := rfl
  rw [e]
  simp; omega
theorem firstA_pos {g : gN} (hg : okG g) {k : Nat} (hk : k < g 0 1) : decide (sm3 (sat g 0).1 k = 0) = false := by
  have := (hg.2.2.1 k hk).2.2.2.2 2 (by decide)
  have e : sm3 (sat g 0).1 k = g 2 (3 * k) + g 2 (3 * k + 1) + g 2 (3 * k + 2) := rfl
  rw [e]
  simp; omega
theorem st_gone {μC μM : xM} (h : rl μC μM) (a1 : Int32) (a2 : Int32) : wp_X6_gone 2000 a1 a2 μC (fun (r1 : Int32) (uC : xM) => wp_X7_gone 2000 a1 a2 μM (fun (r2 : Int32) (uM : xM) => r1 = r2 ∧ rl uC uM)) := by
  obtain ⟨⟨g, hg, hm, hc, hr⟩, hs, hf, ht, h0⟩ := id h
  have hN := hg.1
  unfold wp_X6_gone wp_X7_gone
  rcases in_or a1 (g 0 1) with ⟨k, hk, rfl⟩ | hk
  · refine u_isStatue_y hc.1.1 hk hN (b1' ?_)
    rcases in_or a2 4 with ⟨p, hp, rfl⟩ | hp
    · refine w_bl_y hp (by omega) rfl (b1 (pk_le 3 p (fun e => ?_) (fun e => ?_)))
      · have e3 : p = 3 := by omega
        subst e3
        refine u_dawnWithoutAny hc hg hk (by omega) (fun c' fc s' => ?_)
        have key : ∀ r1 : Int32, r1 = gon (sfs (fun d => decide (sm3 (sat g d).1 k = 0)) 61) → wp_X7_noOne 2000 (nI k) μM (fun r_2 : Int32 => ((¬ r_2 = 0 → r1 = ((-1) : Int32) ∧ rl c' μM) ∧ (r_2 = 0 → wp_X7_in 2000 ((nI 3).toInt64) (0 : Int64) (3 : Int64) μM (fun r_14 : Int32 => ((¬ r_14 = 0 → wp_X7_goneAt 2000 (nI k) (nI 3) μM (fun (r_27 : Int32) (m_27 : xM) => r1 = r_27 ∧ rl c' m_27)) ∧ (r_14 = 0 → r1 = ((-1) : Int32) ∧ rl c' μM)))))) := fun r1 hr1 =>
          t_noOne_y hm.1 hk hN ⟨fun q => absurd rfl q, fun _ => w_in_y hp (by omega) rfl (b1 (t_goneAt hm hg (by omega) (fun d m' K hm' hK => t_goneAll hg hk hm' hK) (firstA_pos hg hk) (fun m' fm => ⟨hr1, rl_keep hg hm hr hs hf ht h0 fc s' fm⟩)))⟩
        have hle := sfs_le (fun d => decide (sm3 (sat g d).1 k = 0)) 61
        refine pk_ne _ 61 (fun e2 => key _ ?_) (fun e2 => key _ ?_)
        · unfold gon; rw [if_neg e2]
        · unfold gon; rw [if_pos e2]
      · refine u_dawnWithoutPart hc hg hk e (by omega) (fun c' fc s' => ?_)
        have key : ∀ r1 : Int32, r1 = gon (sfs (fun d => decide ((sat g d).1 (3 * k + p) = 0)) 61) → wp_X7_noOne 2000 (nI k) μM (fun r_2 : Int32 => ((¬ r_2 = 0 → r1 = ((-1) : Int32) ∧ rl c' μM) ∧ (r_2 = 0 → wp_X7_in 2000 ((nI p).toInt64) (0 : Int64) (3 : Int64) μM (fun r_14 : Int32 => ((¬ r_14 = 0 → wp_X7_goneAt 2000 (nI k) (nI p) μM (fun (r_27 : Int32) (m_27 : xM) => r1 = r_27 ∧ rl c' m_27)) ∧ (r_14 = 0 → r1 = ((-1) : Int32) ∧ rl c' μM)))))) := fun r1 hr1 =>
          t_noOne_y hm.1 hk hN ⟨fun q => absurd rfl q, fun _ => w_in_y hp (by omega) rfl (b1 (t_goneAt hm hg (by omega) (fun d m' K hm' hK => t_gonePart hg hk e hm' hK) (first_pos hg hk e) (fun m' fm => ⟨hr1, rl_keep hg hm hr hs hf ht h0 fc s' fm⟩)))⟩
        have hle := sfs_le (fun d => decide ((sat g d).1 (3 * k + p) = 0)) 61
        refine pk_ne _ 61 (fun e2 => key _ ?_) (fun e2 => key _ ?_)
        · unfold gon; rw [if_neg e2]
        · unfold gon; rw [if_pos e2]
    · refine w_bl_n hp (by omega) rfl (b0 ?_)
      exact t_noOne_y hm.1 hk hN ⟨fun q => absurd rfl q, fun _ => w_in_n hp (by omega) rfl (b0 ⟨rfl, h⟩)⟩
  · refine u_isStatue_n hc.1.1 hk hN (b0' ?_)
    exact t_noOne_n hm.1 hk hN (b1 ⟨rfl, h⟩)
theorem st_liked {μC μM : xM} (h : rl μC μM) (a1 : Int32) : wp_X6_liked 2000 a1 μC (fun (r1 : Int32) (uC : xM) => wp_X7_liked 2000 a1 μM (fun (r2 : Int32) (uM : xM) => r1 = r2 ∧ rl uC uM)) := by
  obtain ⟨⟨g, hg, hm, hc, hr⟩, hs, hf, ht, h0⟩ := id h
  have hN := hg.1
  have hD := hg.2.1
  unfold wp_X6_liked wp_X7_liked
  rcases in_or a1 60 with ⟨d, hd, rfl⟩ | hd
  · refine w_bl_y hd (by omega) rfl (b1 ?_)
    rw [hc.1.1]
    refine pk_ne (g 0 1) 0 (fun e => ?_) (fun e => ?_)
    · refine u_likedFirst hc hg hd (by omega) (fun c' fc s' => ?_)
      refine w_in_y hd (by omega) rfl (b1 ?_)
      rw [hm.1]
      refine pk_ne (g 0 1) 0 (fun _ => ?_) (fun q => absurd q e)
      refine t_goTo hm hg (by omega) (by omega) (fun m1 f1 s1 => t_rainOn (hm.fr f1) hg s1 (sat_ok g d) hd (by omega) (fun m2 f2 s2 => ?_))
      have f12 := f1.tr f2
      rw [(hm.fr f12).2.1]
      have hrl := rl_keep hg hm hr hs hf ht h0 fc s' f12
      refine pk_ne (g 0 14) 0 (fun z => ?_) (fun z => ?_)
      · refine t_likedNow (hm.fr f12) hg s2 (srn_ok (sat_ok g d)) (by omega) ⟨?_, hrl⟩
        unfold slkd; rw [if_neg z]
      · refine ⟨?_, hrl⟩
        unfold slkd; rw [if_pos z]; rfl
    · refine w_in_y hd (by omega) rfl (b1 ?_)
      rw [hm.1]
      exact pk_ne (g 0 1) 0 (fun q => absurd e q) (fun _ => ⟨rfl, h⟩)
  · exact w_bl_n hd (by omega) rfl (b0 (w_in_n hd (by omega) rfl (b0 ⟨rfl, h⟩)))
