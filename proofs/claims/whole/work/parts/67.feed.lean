/-! feed -/
def tpB (G : zH) (b : Int) : zH := zset (zset G 1 (G 0 0) b) 0 0 (G 0 0 + 1)
def tpN (G : zH) (x : Int) : zH := tpB (tpB (tpB (tpB G (x / 16777216 % 256)) (x / 65536 % 256)) (x / 256 % 256)) (x / 1 % 256)
theorem tpB_l {G : zH} {b : Int} : tpB G b 0 0 = G 0 0 + 1 := by unfold tpB; rw [zset_e]
theorem tpN_l {G : zH} {x : Int} : tpN G x 0 0 = G 0 0 + 4 := by unfold tpN; rw [tpB_l, tpB_l, tpB_l, tpB_l]; omega
theorem CI.tp {σ st : zH} {D : zDR} {K : zKp} {Λ : zLw} {G h : zH} (c : CI σ st D K Λ G h) (hl : 0 ≤ G 0 0 ∧ G 0 0 < 1600) {b : Int} : CI σ st D K Λ (tpB G b) (zset (zset h 1 (h 0 1) b) 0 1 (w32 (zset h 1 (h 0 1) b 0 1 + 1))) := by
  have cg := c.2.2.1
  refine c.g ?_ ?_ ?_ (fun r z => ?_)
  · unfold CG at cg ⊢
    obtain ⟨⟨a1, a2⟩, ⟨a3, a4⟩, a5, a6, a7, a8⟩ := cg
    have e1 : ∀ k, ¬ k = 0 → tpB G b 0 k = G 0 k := fun k hk => by unfold tpB; rw [zset_j hk, zset_o (by decide)]
    have e2 : ∀ r j, ¬ r = 0 → ¬ r = 1 → tpB G b r j = G r j := fun r j h0 h1 => by unfold tpB; rw [zset_o h0, zset_o h1]
    refine ⟨⟨?_, fun j j1 j2 => ?_⟩, ⟨?_, fun j j1 j2 => ?_⟩, fun i i1 i2 => ?_, ?_, ?_, ?_⟩
    · rw [zset_e, zset_o (by decide), a1, tpB_l, w32_i (by omega)]
    · rw [tpB_l] at j2
      unfold tpB
      rw [zset_o (by decide), zset_g, zset_o (by decide), zset_g, a1]
      by_cases e : j = G 0 0
      · rw [if_pos e, if_pos e]
      · rw [if_neg e, if_neg e]; exact a2 j j1 (by omega)
    · rw [zset_j (by decide), zset_o (by decide), e1 1 (by decide)]; exact a3
    · rw [e1 1 (by decide)] at j2
      rw [zset_o (by decide), zset_o (by decide), e2 2 j (by decide) (by decide)]; exact a4 j j1 j2
    · rw [zset_o (by decide), zset_o (by decide), e2 3 i (by decide) (by decide)]; exact a5 i i1 i2
    · rw [zset_j (by decide), zset_o (by decide), e1 2 (by decide)]; exact a6
    · rw [zset_o (by decide), zset_o (by decide), e1 3 (by decide)]; exact a7
    · rw [zset_o (by decide), zset_o (by decide), e1 4 (by decide)]; exact a8
  · rw [zset_j (by decide), zset_o (by decide)]
  · rw [zset_j (by decide), zset_o (by decide)]
  · unfold crC at z
    rw [zset_n (by omega), zset_n (by omega)]
theorem RI.tp {σ st : zH} {D : zDR} {K : zKp} {Λ : zLw} {G h : zH} (c : RI σ st D K Λ G h) (hl : 0 ≤ G 0 0 ∧ G 0 0 < 1600) {b : Int} : RI σ st D K Λ (tpB G b) (zset (zset h 404 (h 403 1) b) 403 1 (w32 (zset h 404 (h 403 1) b 403 1 + 1))) := by
  have cg := c.2.1
  refine c.g ?_ (fun q z => ?_) (fun r z => ?_)
  · unfold RG at cg ⊢
    obtain ⟨⟨a1, a2⟩, ⟨a3, a4⟩, a5, a6, a7, a8⟩ := cg
    have e1 : ∀ k, ¬ k = 0 → tpB G b 0 k = G 0 k := fun k hk => by unfold tpB; rw [zset_j hk, zset_o (by decide)]
    have e2 : ∀ r j, ¬ r = 0 → ¬ r = 1 → tpB G b r j = G r j := fun r j h0 h1 => by unfold tpB; rw [zset_o h0, zset_o h1]
    refine ⟨⟨?_, fun j j1 j2 => ?_⟩, ⟨?_, fun j j1 j2 => ?_⟩, fun i i1 i2 => ?_, ?_, ?_, ?_⟩
    · rw [zset_e, zset_o (by decide), a1, tpB_l, w32_i (by omega)]
    · rw [tpB_l] at j2
      unfold tpB
      rw [zset_o (by decide), zset_g, zset_o (by decide), zset_g, a1]
      by_cases e : j = G 0 0
      · rw [if_pos e, if_pos e]
      · rw [if_neg e, if_neg e]; exact a2 j j1 (by omega)
    · rw [zset_j (by decide), zset_o (by decide), e1 1 (by decide)]; exact a3
    · rw [e1 1 (by decide)] at j2
      rw [zset_o (by decide), zset_o (by decide), e2 2 j (by decide) (by decide)]; exact a4 j j1 j2
    · rw [zset_o (by decide), zset_o (by decide), e2 3 i (by decide) (by decide)]; exact a5 i i1 i2
    · rw [zset_j (by decide), zset_o (by decide), e1 2 (by decide)]; exact a6
    · rw [zset_j (by decide), zset_o (by decide), e1 3 (by decide)]; exact a7
    · rw [zset_j (by decide), zset_o (by decide), e1 4 (by decide)]; exact a8
  · rw [zset_j (by omega), zset_o (by decide)]
  · rw [zset_n (by omega), zset_n (by omega)]
theorem WG.tp {G : zH} (w : WG G) (hl : G 0 0 < 1600) {b : Int} (hb : 0 ≤ b ∧ b ≤ 255) : WG (tpB G b) := by
  obtain ⟨w1, w2, w3, w4⟩ := w
  have e1 : ∀ k, ¬ k = 0 → tpB G b 0 k = G 0 k := fun k hk => by unfold tpB; rw [zset_j hk, zset_o (by decide)]
  refine ⟨by rw [tpB_l]; omega, fun j j1 j2 => ?_, by rw [e1 1 (by decide)]; exact w3, by rw [e1 2 (by decide)]; exact w4⟩
  rw [tpB_l] at j2
  unfold tpB
  rw [zset_o (by decide), zset_g]
  by_cases e : j = G 0 0
  · rw [if_pos e]; exact hb
  · rw [if_neg e]; exact w2 j j1 (by omega)
theorem WG.tn {G : zH} (w : WG G) (hl : G 0 0 + 4 ≤ 1600) {x : Int} : WG (tpN G x) := by
  unfold tpN
  exact (((w.tp (by omega) (by omega)).tp (by rw [tpB_l]; omega) (by omega)).tp (by rw [tpB_l, tpB_l]; omega) (by omega)).tp (by rw [tpB_l, tpB_l, tpB_l]; omega) (by omega)
theorem byt_u {x : Int} (hx : zI32 x) {k : Nat} (hk : k = 24 ∨ k = 16 ∨ k = 8 ∨ k = 0) : zand (zushr x k) 255 = x / ((2 ^ k : Nat) : Int) % 256 := by
  unfold zI32 at hx
  rw [zand_255, zushr_g x (by omega)]
  unfold w32
  rcases hk with rfl | rfl | rfl | rfl
  · rw [show ((2 ^ 24 : Nat) : Int) = 16777216 from rfl]; omega
  · rw [show ((2 ^ 16 : Nat) : Int) = 65536 from rfl]; omega
  · rw [show ((2 ^ 8 : Nat) : Int) = 256 from rfl]; omega
  · rw [show ((2 ^ 0 : Nat) : Int) = 1 from rfl]; omega
theorem byt_s {x : Int} (hx : zI32 x) {k : Nat} (hk : k = 24 ∨ k = 16 ∨ k = 8 ∨ k = 0) : zand (zshr x k) 255 = x / ((2 ^ k : Nat) : Int) % 256 := by
  rw [zand_255, zshr_g hx (by omega)]
theorem q_tape1 {d k : Nat} {x : Int} {σ st : zH} {D : zDR} {K : zKp} {Λ : zLw} {G h : zH} (hx : zI32 x) (hk : k = 24 ∨ k = 16 ∨ k = 8 ∨ k = 0) (c : CI σ st D K Λ G h) (hl : 0 ≤ G 0 0 ∧ G 0 0 < 1600) {Q : zV → zH → Prop} (N : ∀ h', CI σ st D K Λ (tpB G (x / ((2 ^ k : Nat) : Int) % 256)) h' → fr403 h h' → zWp (l_B_putOnTape_3 d x ((k : Int) - 8) h') Q) : zWp (l_B_putOnTape_3 d x k h) Q := by
  have ec := c.2.2.1.1.1
  rw [el_B_putOnTape_3, byt_u hx hk, w32_i (x := (k : Int) + (-8)) (by omega)]
  refine zWp_nt (by omega) (zWp_it (by omega) (zWp_it (by omega) (zWp_lt fun h1 e1 => zWp_lt fun h2 e2 => ?_)))
  refine N h2 ?_ (fun r hr => by rw [e2, zset_n (by omega), e1, zset_n (by omega)])
  rw [e2, e1]
  exact c.tp hl
theorem q_putOnTape {d : Nat} {x : Int} {σ st : zH} {D : zDR} {K : zKp} {Λ : zLw} {G h : zH} (hx : zI32 x) (c : CI σ st D K Λ G h) (hl : 0 ≤ G 0 0 ∧ G 0 0 + 4 ≤ 1600) : zWp (m_B_putOnTape (d + 1) x h) (fun _ h' => CI σ st D K Λ (tpN G x) h' ∧ fr403 h h') := by
  rw [em_B_putOnTape]
  refine q_tape1 (k := 24) hx (by decide) c (by omega) (fun h1 c1 f1 => ?_)
  refine q_tape1 (k := 16) hx (by decide) c1 (by rw [tpB_l]; omega) (fun h2 c2 f2 => ?_)
  refine q_tape1 (k := 8) hx (by decide) c2 (by rw [tpB_l, tpB_l]; omega) (fun h3 c3 f3 => ?_)
  refine q_tape1 (k := 0) hx (by decide) c3 (by rw [tpB_l, tpB_l, tpB_l]; omega) (fun h4 c4 f4 => ?_)
  rw [el_B_putOnTape_3]
  exact zWp_it (by decide) (zWp_s ⟨c4, ((f1.t f2).t f3).t f4⟩)
theorem q_R_tape1 {d k : Nat} {x : Int} {σ st : zH} {D : zDR} {K : zKp} {Λ : zLw} {G h : zH} (hx : zI32 x) (hk : k = 24 ∨ k = 16 ∨ k = 8 ∨ k = 0) (c : RI σ st D K Λ G h) (hl : 0 ≤ G 0 0 ∧ G 0 0 < 1600) {Q : zV → zH → Prop} (N : ∀ h', RI σ st D K Λ (tpB G (x / ((2 ^ k : Nat) : Int) % 256)) h' → frLo h h' → zWp (l_R_put_3 d x ((k : Int) - 8) h') Q) : zWp (l_R_put_3 d x k h) Q := by
  have ec := c.2.1.1.1
  rw [el_R_put_3, byt_s hx hk, w32_i (x := (k : Int) + (-8)) (by omega)]
  refine zWp_nt (by omega) (zWp_it (by omega) (zWp_lt fun h1 e1 => zWp_lt fun h2 e2 => ?_))
  refine N h2 ?_ (fun r hr => by rw [e2, zset_n (by omega), e1, zset_n (by omega)])
  rw [e2, e1]
  exact c.tp hl
theorem q_R_put {d : Nat} {x : Int} {σ st : zH} {D : zDR} {K : zKp} {Λ : zLw} {G h : zH} (hx : zI32 x) (c : RI σ st D K Λ G h) (hl : 0 ≤ G 0 0 ∧ G 0 0 + 4 ≤ 1600) : zWp (m_R_put (d + 1) x h) (fun _ h' => RI σ st D K Λ (tpN G x) h' ∧ frLo h h') := by
  rw [em_R_put]
  refine q_R_tape1 (k := 24) hx (by decide) c (by omega) (fun h1 c1 f1 => ?_)
  refine q_R_tape1 (k := 16) hx (by decide) c1 (by rw [tpB_l]; omega) (fun h2 c2 f2 => ?_)
  refine q_R_tape1 (k := 8) hx (by decide) c2 (by rw [tpB_l, tpB_l]; omega) (fun h3 c3 f3 => ?_)
  refine q_R_tape1 (k := 0) hx (by decide) c3 (by rw [tpB_l, tpB_l, tpB_l]; omega) (fun h4 c4 f4 => ?_)
  rw [el_R_put_3]
  exact zWp_it (by decide) (zWp_s ⟨c4, ((f1.t f2).t f3).t f4⟩)
theorem a_feed {d : Nat} {x1 x2 x3 x4 x5 : Int} {h : zH} (i : INV h) (i1 : zI32 x1) (i2 : zI32 x2) (i3 : zI32 x3) (i4 : zI32 x4) (i5 : zI32 x5) : Alike (m_B_feed (d + 3) x1 x2 x3 x4 x5 h) (m_R_feed (d + 3) x1 x2 x3 x4 x5) := by
  obtain ⟨σ, st, D, K, Λ, G, c, r, wk, wg⟩ := i
  have ec := c.2.2.1.1.1
  have w1 := wg.1
  by_cases c1 : 1600 < G 0 0 + 20
  · refine alike_ref c r wk wg (V := .inl (-1)) (k := 0) (by decide) ?_ (fun h' r' => ?_)
    · rw [em_B_feed, ec, w32_i (by omega)]
      exact zWp_it c1 (zWp_qi (q_refuse (by decide)) (zWp_s ⟨rfl, rfl⟩))
    · rw [em_R_feed, r'.2.1.1.1, w32_i (by omega)]
      exact zWp_it c1 (zWp_qi (q_R_refuses (by decide)) (zWp_s ⟨rfl, rfl⟩))
  · have g1 := wg.tn (x := x1) (by omega)
    have g2 := g1.tn (x := x2) (by rw [tpN_l]; omega)
    have g3 := g2.tn (x := x3) (by rw [tpN_l, tpN_l]; omega)
    have g4 := g3.tn (x := x4) (by rw [tpN_l, tpN_l, tpN_l]; omega)
    have g5 := g4.tn (x := x5) (by rw [tpN_l, tpN_l, tpN_l, tpN_l]; omega)
    refine alike wk g5 (V := .inl (G 0 0 + 20)) (st := st) (Λ := Λ) (h := h) (fun h' f => ?_) ?_
    · have r' := r.hi f
      rw [em_R_feed, r'.2.1.1.1, w32_i (by omega)]
      obtain ⟨v1, h1, e1, k1, f1⟩ := q_R_put (d := d + 1) i1 r' (by omega)
      obtain ⟨v2, h2, e2, k2, f2⟩ := q_R_put (d := d + 1) i2 k1 (by rw [tpN_l]; omega)
      obtain ⟨v3, h3, e3, k3, f3⟩ := q_R_put (d := d + 1) i3 k2 (by rw [tpN_l, tpN_l]; omega)
      obtain ⟨v4, h4, e4, k4, f4⟩ := q_R_put (d := d + 1) i4 k3 (by rw [tpN_l, tpN_l, tpN_l]; omega)
      obtain ⟨v5, h5, e5, k5, f5⟩ := q_R_put (d := d + 1) i5 k4 (by rw [tpN_l, tpN_l, tpN_l, tpN_l]; omega)
      refine zWp_nt c1 (zWp_qv e1 (zWp_qv e2 (zWp_qv e3 (zWp_qv e4 (zWp_qv e5 (zWp_s ⟨?_, k5, (((f1.t f2).t f3).t f4).t f5⟩))))))
      rw [k5.2.1.1.1, tpN_l, tpN_l, tpN_l, tpN_l, tpN_l, show G 0 0 + 4 + 4 + 4 + 4 + 4 = G 0 0 + 20 by omega]
    · rw [em_B_feed, ec, w32_i (by omega)]
      obtain ⟨v1, h1, e1, k1, f1⟩ := q_putOnTape (d := d + 1) i1 c (by omega)
      obtain ⟨v2, h2, e2, k2, f2⟩ := q_putOnTape (d := d + 1) i2 k1 (by rw [tpN_l]; omega)
      obtain ⟨v3, h3, e3, k3, f3⟩ := q_putOnTape (d := d + 1) i3 k2 (by rw [tpN_l, tpN_l]; omega)
      obtain ⟨v4, h4, e4, k4, f4⟩ := q_putOnTape (d := d + 1) i4 k3 (by rw [tpN_l, tpN_l, tpN_l]; omega)
      obtain ⟨v5, h5, e5, k5, f5⟩ := q_putOnTape (d := d + 1) i5 k4 (by rw [tpN_l, tpN_l, tpN_l, tpN_l]; omega)
      refine zWp_nt c1 (zWp_qv e1 (zWp_qv e2 (zWp_qv e3 (zWp_qv e4 (zWp_qv e5 (zWp_s ⟨?_, k5, (((f1.t f2).t f3).t f4).t f5⟩))))))
      rw [k5.2.2.1.1.1, tpN_l, tpN_l, tpN_l, tpN_l, tpN_l, show G 0 0 + 4 + 4 + 4 + 4 + 4 = G 0 0 + 20 by omega]
