theorem gs_id (g : gN) (a k : Nat) : gs g a k (g a k) = g := by
  funext b x
  by_cases e : b = a
  · subst e
    rw [gs_at]
    split
    · rename_i q; rw [q]
    · rfl
  · rw [gs_n e]
def srs (g : gN) (d : Nat) (kk pp dd vv : Nat → Nat) (q : Nat) : Nat → Int32
  | 0 => 0
  | i + 1 => if hol (gs g 9 d i) kk pp dd vv q = true then srs g d kk pp dd vv q i ||| ((1 : Int32) <<< (nI i &&& 31)) else srs g d kk pp dd vv q i
theorem okG_r {g : gN} (hg : okG g) {d r : Nat} (hr : r ≤ 9) : okG (gs g 9 d r) :=
  okG_day hg (fun b b1 _ => gs_n b1) (fun e he => ⟨by rw [gs_at]; split; exact hr; exact (hg.2.2.2 e he).1, by rw [gs_n (by decide)]; exact (hg.2.2.2 e he).2⟩)
def frR (c x : xM) : Prop := (∀ b, b ≠ 10 → b ≠ 12 → b ≠ 14 → b ≠ 15 → b ≠ 16 → x b = c b) ∧ ∀ j, j < 7 → x 15 j = c 15 j
theorem u_let9 {n d r i : Nat} {c0 c : xM} {g : gN} {K : xM → Prop} (hg : okG g) (hr : r ≤ 9) (hc : cs c (gs g 9 d r)) (hf : frR c0 c) (hd : d < 60) (hK : ∀ c', frR c0 c' → cs c' (gs g 9 d i) → K c') : wp_X5_letRain n (nI d) (nI i) c K := by
  obtain ⟨hc, kn, hk⟩ := hc
  refine u_letRain (g' := gs g 9 d i) (okG_r hg hr) hc hk hd (fun b hb => by rw [gs_n hb, gs_n hb]) (fun e he => by rw [gs_sn he, gs_sn he]) (gs_ss _ _ _ _) (fun c' f1 f2 a b => hK c' ⟨fun x b1 b2 b3 b4 b5 => ?_, fun j hj => ?_⟩ ⟨a, _, b⟩)
  · rw [f1 x b1 b2]; exact hf.1 x b1 b2 b3 b4 b5
  · rw [f1 15 (by decide) (by decide)]; exact hf.2 j hj
theorem st_rains {μC μM : xM} (h : rl μC μM) (a1 : Int32) : wp_X6_rains 2000 a1 μC (fun (r1 : Int32) (uC : xM) => wp_X7_rains 2000 a1 μM (fun (r2 : Int32) (uM : xM) => r1 = r2 ∧ rl uC uM)) := by
  obtain ⟨⟨g, hg, hm, hc, hr⟩, hs, hf, ht, h0⟩ := id h
  have hN := hg.1
  unfold wp_X6_rains wp_X7_rains
  rcases in_or a1 60 with ⟨d, hd, rfl⟩ | hd
  · refine w_bl_y hd (by omega) rfl (b1 ?_)
    rw [hc.1.1]
    refine pk_ne (g 0 1) 0 (fun e => ⟨pk_in d 60 hd, ?_⟩) (fun e => ?_)
    · rw [nI_clamp (n := d) (by omega), (hc.1.2.2.2 d hd).1]
      rintro _ rfl
      obtain ⟨q, kk, pp, dd, vv, hq, q1, q2, hx, hy⟩ := rd_fun hr
      have hb : ∀ x, x < q → kk x < g 0 1 ∧ pp x < 3 ∧ dd x ≤ 60 ∧ vv x < 100 := fun x h => ⟨(hx x h).1, (hx x h).2.1, (hx x h).2.2.1, (hx x h).2.2.2.1⟩
      have g01 : ∀ i, gs g 9 d i 0 1 = g 0 1 := fun i => by rw [gs_n (by decide)]
      have hr9 := (hg.2.2.2 d hd).1
      refine xjn_i (fun (t : Int32 × xM) => t.1 = srs g d kk pp dd vv q 10 ∧ frR μC t.2 ∧ ∃ r, r ≤ 9 ∧ cs t.2 (gs g 9 d r)) ?_ ?_
      · rintro ⟨s, x⟩ ⟨p1, p2, r, p3, p4⟩
        dsimp only at p1 p2 p4 ⊢
        refine u_let9 hg p3 p4 p2 hd (fun c' f1 f2 => ?_)
        rw [gs_id] at f2
        refine w_in_y hd (by omega) rfl (b1 ?_)
        rw [hm.1]
        refine pk_ne (g 0 1) 0 (fun _ => ⟨pk_in d 60 hd, ?_⟩) (fun z => absurd z e)
        rw [(hm.2.2.2 d hd).1]
        rintro _ rfl
        have mrI : ∀ (i : Nat) (y : xM), (∀ b, b ≠ 9 → b ≠ 11 → b ≠ 12 → b ≠ 13 → y b = μM b) → (∀ e, e ≠ d → y 9 e = μM 9 e) → mr (xu y 9 d (nI i)) (gs g 9 d i) := by
          intro i y f1 f2
          obtain ⟨z1, z2, z3, z4⟩ := hm
          refine ⟨?_, ?_, fun k hk => ?_, fun e he => ⟨?_, ?_⟩⟩
          · rw [xu_ne (by omega), f1 0 (by omega) (by omega) (by omega) (by omega), gs_n (by decide)]; exact z1
          · rw [xu_ne (by omega), f1 0 (by omega) (by omega) (by omega) (by omega), gs_n (by decide)]; exact z2
          · rw [g01] at hk
            rw [xu_ne (by omega), xu_ne (by omega), xu_ne (by omega), xu_ne (by omega), xu_ne (by omega), f1 1 (by omega) (by omega) (by omega) (by omega), f1 2 (by omega) (by omega) (by omega) (by omega), f1 3 (by omega) (by omega) (by omega) (by omega), f1 4 (by omega) (by omega) (by omega) (by omega), f1 5 (by omega) (by omega) (by omega) (by omega), gs_n (by decide), gs_n (by decide), gs_n (by decide), gs_n (by decide), gs_n (by decide)]
            exact z3 k hk
          · rw [xu_if, gs_at]
            by_cases q : e = d
            · rw [if_pos ⟨rfl, q⟩, if_pos q]
            · rw [if_neg (fun z => q z.2), if_neg q, f2 e q]; exact (z4 e he).1
          · rw [xu_ne (by omega), f1 10 (by omega) (by omega) (by omega) (by omega), gs_n (by decide)]
            exact (z4 e he).2
        refine lpg (fun i (t : Int32 × xM) => (nI i, t.1, t.2)) 10 (fun i t => t.1 = srs g d kk pp dd vv q i ∧ (∀ b, b ≠ 9 → b ≠ 11 → b ≠ 12 → b ≠ 13 → t.2 b = μM b) ∧ ∀ e, e ≠ d → t.2 9 e = μM 9 e) ?_ (i := 0) (t := ((0 : Int32), μM)) ⟨rfl, fun _ _ _ _ _ => rfl, fun _ _ => rfl⟩ (by omega) (by omega)
        rintro i ⟨s2, y⟩ again hi ⟨w1, w2, w3⟩ hag
        dsimp only at w1 w2 w3 ⊢
        refine pk_le 10 i (fun hh => ⟨pk_in d 60 hd, ?_⟩) (fun hh => ⟨pk_in d 60 hd, ?_⟩)
        · rintro _ rfl
          have hmr := mrI (g 9 d) y w2 w3
          rw [gs_id] at hmr
          refine ⟨by rw [p1, w1, show i = 10 by omega], ⟨g, hg, hmr, f2, hr.same rfl (fun b hb => f1.1 b (by omega) (by omega) (by omega) (by omega) (by omega)) ?_ (fun b hb => ?_)⟩, hs.same (fun b b1 b2 => f1.1 b (by omega) (by omega) (by omega) (by omega) (by omega)) (fun b hb => ?_), ?_, ?_, fun j hj => ?_⟩
          · rw [xu_a (by omega), w2 0 (by omega) (by omega) (by omega) (by omega)]
          · rw [xu_ne (by omega), w2 b (by omega) (by omega) (by omega) (by omega)]
          · rw [xu_ne (by omega), w2 b (by omega) (by omega) (by omega) (by omega)]
          · rw [xu_a (by omega), w2 0 (by omega) (by omega) (by omega) (by omega), f1.1 0 (by omega) (by omega) (by omega) (by omega) (by omega)]; exact hf
          · rw [xu_a (by omega), w2 0 (by omega) (by omega) (by omega) (by omega), f1.1 0 (by omega) (by omega) (by omega) (by omega) (by omega)]; exact ht
          · rw [f1.2 j hj]; exact h0 j hj
        · rintro _ rfl
          have hmr := mrI i y w2 w3
          have hy' : ∀ b, b ≠ 9 → b ≠ 11 → b ≠ 12 → b ≠ 13 → xu y 9 d (nI i) b = μM b := fun b b1 b2 b3 b4 => by rw [xu_ne b1]; exact w2 b b1 b2 b3 b4
          refine t_areSo (kk := kk) (pp := pp) (dd := dd) (vv := vv) hmr (okG_r hg (by omega)) hq (by omega) (by rw [hy' 0 (by omega) (by omega) (by omega) (by omega)]; exact q2) (fun x hxq => by rw [g01]; exact hb x hxq) (fun x hxq => by rw [hy' 15 (by omega) (by omega) (by omega) (by omega), hy' 16 (by omega) (by omega) (by omega) (by omega), hy' 17 (by omega) (by omega) (by omega) (by omega), hy' 18 (by omega) (by omega) (by omega) (by omega)]; exact hy x hxq) (fun m' fm => ?_)
          have fin : ∀ b, b ≠ 9 → b ≠ 11 → b ≠ 12 → b ≠ 13 → m' b = μM b := fun b b1 b2 b3 b4 => by rw [fm b b2 b3 b4]; exact hy' b b1 b2 b3 b4
          have fin2 : ∀ e, e ≠ d → m' 9 e = μM 9 e := fun e he => by rw [fm 9 (by omega) (by omega) (by omega), xu_j he]; exact w3 e he
          by_cases hh2 : hol (gs g 9 d i) kk pp dd vv q = true
          · rw [if_pos hh2]
            refine b1' ?_
            rintro _ rfl _ rfl
            rw [nI_1]
            exact hag (_, m') hh ⟨by unfold srs; rw [if_pos hh2, w1], fin, fin2⟩
          · rw [if_neg hh2]
            refine b0' ?_
            rintro _ rfl _ rfl
            rw [nI_1, or_0]
            exact hag (_, m') hh ⟨by unfold srs; rw [if_neg hh2, w1], fin, fin2⟩
      · intro J hJ
        refine lpg (fun i (t : Int32 × xM) => (nI i, t.1, t.2)) 10 (fun i t => t.1 = srs g d kk pp dd vv q i ∧ frR μC t.2 ∧ ∃ r, r ≤ 9 ∧ cs t.2 (gs g 9 d r)) ?_ (i := 0) (t := ((0 : Int32), μC)) ⟨rfl, ⟨fun _ _ _ _ _ _ => rfl, fun _ _ => rfl⟩, g 9 d, hr9, by rw [gs_id]; exact hc⟩ (by omega) (by omega)
        rintro i ⟨s, x⟩ again hi ⟨p1, p2, r, p3, p4⟩ hag
        dsimp only at p1 p2 p4 ⊢
        refine pk_lt 9 i (fun hh => ?_) (fun hh => ?_)
        · exact hJ (s, x) ⟨by rw [show 10 = i by omega]; exact p1, p2, r, p3, p4⟩
        · refine u_let9 hg p3 p4 p2 hd (fun c' f1 f2 => ?_)
          have fR : ∀ a, 31 ≤ a → c' a = μC a := fun a ha => f1.1 a (by omega) (by omega) (by omega) (by omega) (by omega)
          refine u_allHold (kk := kk) (pp := pp) (dd := dd) (vv := vv) f2 (okG_r hg (by omega)) hq (by omega) (by rw [fR 31 (by omega)]; exact q1) (fun y hy => by rw [g01, fR 32 (by omega), fR 33 (by omega), fR 34 (by omega), fR 35 (by omega)]; exact hx y hy) (fun c2 fw s2 => ?_)
          have f3 : frR μC c2 := ⟨fun b b1 b2 b3 b4 b5 => by rw [fw.1 b b1 b3 b4 b5]; exact f1.1 b b1 b2 b3 b4 b5, fun j hj => by rw [fw.2.2 j hj]; exact f1.2 j hj⟩
          by_cases hh2 : hol (gs g 9 d i) kk pp dd vv q = true
          · rw [if_pos hh2]
            refine b1' ?_
            rintro _ rfl _ rfl
            rw [nI_1]
            exact hag (_, c2) (by omega) ⟨by unfold srs; rw [if_pos hh2, p1], f3, i, hh, s2⟩
          · rw [if_neg hh2]
            refine b0' ?_
            rintro _ rfl
            rw [nI_1]
            exact hag (_, c2) (by omega) ⟨by unfold srs; rw [if_neg hh2, p1], f3, i, hh, s2⟩
    · refine w_in_y hd (by omega) rfl (b1 ?_)
      rw [hm.1]
      exact pk_ne (g 0 1) 0 (fun z => absurd e z) (fun _ => ⟨rfl, h⟩)
  · exact w_bl_n hd (by omega) rfl (b0 (w_in_n hd (by omega) rfl (b0 ⟨rfl, h⟩)))
