/-! goOn: both alike -/
theorem zland_m31 (a : Int) : zland a 2147483647 = a % 2147483648 := by
  unfold zland
  rw [zl_nat a, show (2147483647 : Int) = ((2147483647 : Nat) : Int) from rfl, zn64, wx_and, show (2147483647 : Nat) = 2 ^ 31 - 1 from rfl, Nat.and_two_pow_sub_one_eq_mod, zlNI (by omega)]
  omega
def drS (x : Int) : Int := (1103515245 * x + 12345) % 2147483648
theorem drS_b {x : Int} : 0 ≤ drS x ∧ drS x < 2147483648 := by unfold drS; omega
theorem q_draw {d : Nat} {m x : Int} {h : zH} (hx : 0 ≤ x ∧ x < 2147483648) (e : h 0 5 = x) (hm : 1 ≤ m) : m_B_draw (d + 1) m h = some (.inl (drS x / 64 % m), zset h 0 5 (drS x)) := by
  have hb := drS_b (x := x)
  have es : w32 (zland (w64 (w64 (1103515245 * x) + 12345)) 2147483647) = drS x := by
    rw [w64_i (x := 1103515245 * x) (by omega), w64_i (by omega), zland_m31]
    exact w32_i (show -2147483648 ≤ drS x ∧ drS x < 2147483648 by omega)
  rw [em_B_draw, e, es, zlt_e, zset_e, zit_t (by omega), zdz_t (by omega), Int.tdiv_eq_ediv_of_nonneg hb.1, w32_i (by omega), Int.tmod_eq_emod_of_nonneg (by omega)]
theorem q_R_draw {d : Nat} {m x : Int} {h : zH} (hx : 0 ≤ x ∧ x < 2147483648) (e : h 403 70 = x) (hm : 1 ≤ m ∧ m ≤ 594) : m_R_draw (d + 1) m h = some (.inl (drS x / 64 % m), zset h 403 70 (drS x)) := by
  have hb := drS_b (x := x)
  have es : Int.tmod (w64 (w64 (1103515245 * x) + 12345)) 2147483648 = drS x := by
    rw [w64_i (x := 1103515245 * x) (by omega), w64_i (by omega), Int.tmod_eq_emod_of_nonneg (by omega)]
    rfl
  have h1 := Int.emod_nonneg (drS x / 64) (show m ≠ 0 by omega)
  have h2 := Int.emod_lt_of_pos (drS x / 64) (show 0 < m by omega)
  rw [em_R_draw, e, es, zlt_e, zset_e, zdz_t (by omega), Int.tdiv_eq_ediv_of_nonneg hb.1, w64_i (by omega), Int.tmod_eq_emod_of_nonneg (by omega), w32_i (by omega)]
def pickA (σ : zH) : Nat → Int → Int → Int
  | 0, i, _ => i
  | n + 1, i, l => if l < σ 19 i then i else pickA σ n (i + 1) (l - σ 19 i)
theorem pickA_b {σ : zH} : ∀ (n : Nat) (i l : Int), 0 ≤ l → l < isum (σ 19) n i → i ≤ pickA σ n i l ∧ pickA σ n i l < i + n
  | 0, i, l, h1, h2 => by
    have h2 : l < 0 := h2
    omega
  | n + 1, i, l, h1, h2 => by
    have h2 : l < σ 19 i + isum (σ 19) n (i + 1) := h2
    unfold pickA
    by_cases c : l < σ 19 i
    · rw [if_pos c]; omega
    · rw [if_neg c]
      have := pickA_b (σ := σ) n (i + 1) (l - σ 19 i) (by omega) (by omega)
      omega
theorem q_drawn16 {d : Nat} {σ : zH} {a x : Int} {h : zH} (e7 : h 0 7 = a) (g : CS σ a h) (w : WS σ) : ∀ (n : Nat) {i acc : Int}, 0 ≤ i → i + n = nT σ → 0 ≤ acc ∧ acc ≤ 99 * i → acc ≤ x → x < acc + isum (σ 19) n i → l_B_drawnThaw_16 d x acc i h = some (.inl (pickA σ n i (x - acc)), h) := by
  intro n
  have ha := g.a
  have hT6 : nT σ ≤ 6 := w.2.1.2.2.2.2.2.2.2.1
  have eT : h (a + 8) 13 = nT σ := g.g 8 (by decide)
  induction n with
  | zero =>
    intro i acc hi hh ha2 h1 h2
    have h2 : x < acc + 0 := h2
    omega
  | succ n ih =>
    intro i acc hi hh ha2 h1 h2
    have h2 : x < acc + (σ 19 i + isum (σ 19) n (i + 1)) := h2
    have ho := w.2.2.2.2.2.2.1 i hi (by omega)
    have e19 : h (a + 19) i = σ 19 i := g.g 19 (by decide)
    rw [el_B_drawnThaw_16, e7, eT, e19, w32_i (x := acc + σ 19 i) (by omega), w32_i (x := i + 1) (by omega), zpo_t (by omega), zpo_t (by omega), zit_t (by decide), zit_t (by omega), zpo_t (by omega), zpo_t (by omega), zit_t (by omega)]
    unfold pickA
    by_cases c : x < acc + σ 19 i
    · rw [zit_t c, if_pos (by omega)]
    · rw [zit_f c, if_neg (by omega), ih (by omega) (by omega) (by omega) (by omega) (by omega), show x - (acc + σ 19 i) = x - acc - σ 19 i by omega]
/-- which thaw comes by a seed -/
def thawA (σ : zH) (x : Int) : Int := pickA σ (nT σ).toNat 0 (drS x / 64 % oddsA σ)
theorem thawA_b {σ : zH} (w : WS σ) (hT : ¬ nT σ = 0) {x : Int} : 0 ≤ thawA σ x ∧ thawA σ x < nT σ := by
  have hT0 : 0 ≤ nT σ := w.2.1.2.2.2.2.2.2.1
  have ho := odds_p w hT
  have h1 := Int.emod_nonneg (drS x / 64) (show oddsA σ ≠ 0 by omega)
  have h2 := Int.emod_lt_of_pos (drS x / 64) (show 0 < oddsA σ by omega)
  have := pickA_b (σ := σ) (nT σ).toNat 0 _ h1 h2
  unfold thawA
  omega
theorem q_drawnThaw {d : Nat} {σ st : zH} {D : zDR} {K : zKp} {Λ : zLw} {G h : zH} (c : CI σ st D K Λ G h) (wg : WG G) (hT : ¬ nT σ = 0) : m_B_drawnThaw (d + 2) h = some (.inl (thawA σ (G 0 2)), zset h 0 5 (drS (G 0 2))) := by
  have b := c.1
  have w := b.2.2.2.1
  have ha := b.2.1.a
  have hT0 : 0 ≤ nT σ := w.2.1.2.2.2.2.2.2.1
  have ho := odds_p w hT
  have hx := wg.2.2.2
  have e5 := c.2.2.1.2.2.2.1
  have h1 := Int.emod_nonneg (drS (G 0 2) / 64) (show oddsA σ ≠ 0 by omega)
  have h2 := Int.emod_lt_of_pos (drS (G 0 2) / 64) (show 0 < oddsA σ by omega)
  have cs := c.sd (x := drS (G 0 2))
  have ed : m_B_draw (d + 1) (oddsA σ) h = some (.inl (drS (G 0 2) / 64 % oddsA σ), zset h 0 5 (drS (G 0 2))) := q_draw hx e5 (by omega)
  rw [em_B_drawnThaw, zpo_t (by omega), q_oddsOfAll b.2.1 w, zqi_s, ed, zqi_s]
  have := q_drawn16 (d := d + 1) (x := drS (G 0 2) / 64 % oddsA σ) rfl cs.1.2.1 w (nT σ).toNat (i := 0) (acc := 0) (by omega) (by omega) (by omega) h1 (by rw [Int.zero_add]; exact h2)
  rw [this, Int.sub_zero]
  rfl
/-- the reference looks for the thaw, and goes on -/
theorem q_R_go50 {d : Nat} {σ st : zH} {D : zDR} {K : zKp} {Λ : zLw} {G : zH} {x1 x2 x3 : Int} {Q : zV → zH → Prop} : ∀ (n : Nat) {i l : Int} {h : zH}, RI σ st D K Λ G h → 0 ≤ i → i + n = nT σ → 0 ≤ l ∧ l ≤ 600 → l < isum (σ 19) n i →
    (∀ h3, RI σ (stD (spr σ (σ 18 (pickA σ n i l)) st).1 (duT Λ σ st D (spr σ (σ 18 (pickA σ n i l)) st).2)) (duT Λ σ st D (spr σ (σ 18 (pickA σ n i l)) st).2).2 (kp st D K) Λ G h3 → frLo h h3 → zWp (l_R_goOn_32 (d + 12) x1 (w32 (x2 + w32 ((spr σ (σ 18 (pickA σ n i l)) st).2.length : Int))) (w32 (x3 + 1)) h3) Q) → zWp (l_R_goOn_50 (d + 12) x1 x2 x3 l i h) Q := by
  intro n
  induction n with
  | zero =>
    intro i l h r hi hh h1 h2
    have h2 : l < 0 := h2
    omega
  | succ n ih =>
    intro i l h r hi hh h1 h2 k
    have w := r.1.2.2.1
    have hb := r.1.1.b
    have h2 : l < σ 19 i + isum (σ 19) n (i + 1) := h2
    have hT6 : nT σ ≤ 6 := w.2.1.2.2.2.2.2.2.2.1
    have ho := w.2.2.2.2.2.2.1 i hi (by omega)
    have ix : w32 (w32 (6 * h 403 12) + i) = 6 * h 403 12 + i := ixw (by omega) (by omega)
    have e19 : h 426 (6 * h 403 12 + i) = σ 19 i := (r.1.1.2.2.2.2.2.2.1 i hi (by omega)).2
    rw [el_R_goOn_50, ix, e19]
    unfold pickA at k
    refine zWp_it (by omega) ?_
    by_cases c : l < σ 19 i
    · rw [if_pos c] at k
      refine zWp_it c (q_R_kf (d := d + 10) r (fun h2 k1 k2 k3 k4 => ?_))
      have hb2 := k1.1.1.b
      have ix2 : w32 (w32 (6 * h2 403 12) + i) = 6 * h2 403 12 + i := ixw (by omega) (by omega)
      have e18 : h2 425 (6 * h2 403 12 + i) = σ 18 i := (k1.1.1.2.2.2.2.2.2.1 i hi (by omega)).1
      obtain ⟨v3, h3, e3, q1, q2, q3⟩ := q_R_spr0 (d := d) k1 k2 k3 ⟨ho.1, ho.2.1⟩
      rw [ix2, e18]
      refine zWp_it (by omega) (zWp_qv e3 ?_)
      rw [q1]
      exact k h3 q2 (k4.t q3)
    · rw [if_neg c] at k
      refine zWp_nt c (zWp_it (by omega) ?_)
      rw [w32_i (x := l - σ 19 i) (by omega), w32_i (x := i + 1) (by omega)]
      exact ih r (by omega) (by omega) (by omega) (by omega) k
theorem go_loop {d : Nat} {σ : zH} {Λ : zLw} (w : WS σ) (hT : ¬ nT σ = 0) : ∀ (n : Nat) {i acc x1 : Int} {st : zH} {D : zDR} {K : zKp} {G : zH}, 0 ≤ i → i + n = x1 → x1 ≤ 20 → WT σ st → WK σ D K → WG G → ∃ st' D' K' G' V, WK σ D' K' ∧ WG G' ∧ (∀ h, CI σ st D K Λ G h → zWp (l_B_goOn_33 (d + 12) x1 acc i h) (fun v h' => v = .inl V ∧ CI σ st' D' K' Λ G' h' ∧ fr403 h h')) ∧ (∀ h, RI σ st D K Λ G h → zWp (l_R_goOn_32 (d + 12) x1 acc i h) (fun v h' => v = .inl V ∧ RI σ st' D' K' Λ G' h' ∧ frLo h h')) := by
  intro n
  have hT0 : 0 ≤ nT σ := w.2.1.2.2.2.2.2.2.1
  have hT6 : nT σ ≤ 6 := w.2.1.2.2.2.2.2.2.2.1
  have hS0 : 0 ≤ nS σ := w.2.1.2.2.1
  have ho := odds_p w hT
  have hob := odds_b w
  induction n with
  | zero =>
    intro i acc x1 st D K G hi hn hx wt wk wg
    refine ⟨st, D, K, G, acc, wk, wg, fun h c => ?_, fun h r => ?_⟩
    · rw [el_B_goOn_33]
      exact zWp_nt (by omega) (zWp_s ⟨rfl, c, fr403.rf h⟩)
    · rw [el_R_goOn_32]
      exact zWp_nt (by omega) (zWp_s ⟨rfl, r, frLo.rf h⟩)
  | succ n ih =>
    intro i acc x1 st D K G hi hn hx wt wk wg
    have ht := thawA_b w hT (x := G 0 2)
    have h18 := w.2.2.2.2.2.2.1 (thawA σ (G 0 2)) ht.1 ht.2
    have hx2 := wg.2.2.2
    have h1 := Int.emod_nonneg (drS (G 0 2) / 64) (show oddsA σ ≠ 0 by omega)
    have h2 := Int.emod_lt_of_pos (drS (G 0 2) / 64) (show 0 < oddsA σ by omega)
    have dok := sprF_ok w (p := σ 18 (thawA σ (G 0 2))) (b := false) (nS σ).toNat (i := 0) wt (by omega) (by omega)
    obtain ⟨st', D', K', G', V, a1, a2, a3, a4⟩ := ih (i := i + 1) (acc := w32 (acc + w32 ((spr σ (σ 18 (thawA σ (G 0 2))) st).2.length : Int))) (x1 := x1) (st := stD (spr σ (σ 18 (thawA σ (G 0 2))) st).1 (duT Λ σ st D (spr σ (σ 18 (thawA σ (G 0 2))) st).2)) (D := (duT Λ σ st D (spr σ (σ 18 (thawA σ (G 0 2))) st).2).2) (K := kp st D K) (G := zset G 0 2 (drS (G 0 2))) (by omega) (by omega) hx dok.1.sd ((wk.kp wt).ap (dueF_pre (Λ := Λ) (σ := σ) (ecl σ (trEv σ (spr σ (σ 18 (thawA σ (G 0 2))) st).2)) (st 7, D))) (wg.sd drS_b)
    refine ⟨st', D', K', G', V, a1, a2, fun h c => ?_, fun h r => ?_⟩
    · have b := c.1
      have ha := b.2.1.a
      have cs := c.sd (x := drS (G 0 2))
      have e18 : zset h 0 5 (drS (G 0 2)) (h 0 7 + 18) (thawA σ (G 0 2)) = σ 18 (thawA σ (G 0 2)) := cs.1.2.1.g 18 (by decide)
      obtain ⟨v, h3, e3, u1, u2, u3⟩ := q_springNow (d := d + 2) cs (p := σ 18 (thawA σ (G 0 2))) ⟨h18.1, h18.2.1⟩
      rw [u1] at e3
      rw [el_B_goOn_33]
      refine zWp_it (by omega) (zWp_po (by omega) (zWp_qi (q_drawnThaw c wg hT) (zWp_po (by omega) (zWp_it (by omega) ?_))))
      rw [e18]
      refine zWp_qi e3 ?_
      rw [w32_i (x := i + 1) (by omega)]
      refine zWp_m (a3 h3 u2) ?_
      rintro v' h' ⟨q1, q2, q3⟩
      exact ⟨q1, q2, fun r z => by rw [q3 r z, u3 r z, zset_n (by omega)]⟩
    · rw [el_R_goOn_32]
      have ed : m_R_draw (d + 12) (oddsA σ) h = some (.inl (drS (G 0 2) / 64 % oddsA σ), zset h 403 70 (drS (G 0 2))) := q_R_draw hx2 r.2.1.2.2.2.1 (by omega)
      refine zWp_it (by omega) (zWp_qi (q_R_oddsAll r.1.1 w) (zWp_qi ed ?_))
      refine q_R_go50 (d := d) (nT σ).toNat (i := 0) r.sd (by omega) (by omega) ⟨h1, by omega⟩ h2 (fun h3 u1 u2 => ?_)
      rw [w32_i (x := i + 1) (by omega)]
      refine zWp_m (a4 h3 u1) ?_
      rintro v' h' ⟨q1, q2, q3⟩
      exact ⟨q1, q2, fun r z => by rw [q3 r z, u2 r z, zset_n (by omega)]⟩
theorem a_goOn {d : Nat} {x : Int} {h : zH} (i : INV h) : Alike (m_B_goOn (d + 13) x h) (m_R_goOn (d + 13) x) := by
  obtain ⟨σ, st, D, K, Λ, G, c, r, wk, wg⟩ := i
  have b := c.1
  have w := b.2.2.2.1
  have wt := b.2.2.2.2
  have ha := b.2.1.a
  have eT : h (h 0 7 + 8) 13 = nT σ := b.2.1.g 8 (by decide)
  by_cases c2 : 1 ≤ x ∧ x ≤ 20
  case neg =>
    refine alike_ref c r wk wg (V := .inl (-1)) (k := 2) (by decide) ?_ (fun h' r' => ?_)
    · rw [em_B_goOn]
      refine zWp_qi q_between ?_
      rw [if_neg c2]
      exact zWp_it rfl (zWp_qi (q_refuse (by decide)) (zWp_s ⟨rfl, rfl⟩))
    · rw [em_R_goOn]
      refine zWp_qi q_R_is ?_
      rw [if_neg c2]
      exact zWp_it rfl (zWp_qi (q_R_refuses (by decide)) (zWp_s ⟨rfl, rfl⟩))
  by_cases hT : nT σ = 0
  · refine alike_ref c r wk wg (V := .inl (-1)) (k := 2) (by decide) ?_ (fun h' r' => ?_)
    · rw [em_B_goOn]
      refine zWp_qi q_between ?_
      rw [if_pos c2, eT]
      exact zWp_nt (by decide) (zWp_po (by omega) (zWp_po (by omega) (zWp_it (by decide) (zWp_it hT (zWp_qi (q_refuse (by decide)) (zWp_s ⟨rfl, rfl⟩))))))
    · have hb := r'.1.1.b
      rw [em_R_goOn]
      refine zWp_qi q_R_is ?_
      rw [if_pos c2, r'.1.1.2.2.2.1.2.2.2.1]
      exact zWp_nt (by decide) (zWp_it (by omega) (zWp_it hT (zWp_qi (q_R_refuses (by decide)) (zWp_s ⟨rfl, rfl⟩))))
  obtain ⟨st', D', K', G', V, a1, a2, a3, a4⟩ := go_loop (d := d) (Λ := Λ) w hT x.toNat (i := 0) (acc := 0) (x1 := x) (by omega) (by omega) (by omega) wt wk wg
  refine alike2 a1 a2 (V := .inl V) (st := st') (Λ := Λ) (h := h) ?_ (fun h' f => ?_)
  · rw [em_B_goOn]
    refine zWp_qi q_between ?_
    rw [if_pos c2, eT]
    exact zWp_nt (by decide) (zWp_po (by omega) (zWp_po (by omega) (zWp_it (by decide) (zWp_nt hT (a3 h c)))))
  · have r' := r.hi f
    have hb := r'.1.1.b
    rw [em_R_goOn]
    refine zWp_qi q_R_is ?_
    rw [if_pos c2, r'.1.1.2.2.2.1.2.2.2.1]
    exact zWp_nt (by decide) (zWp_it (by omega) (zWp_nt hT (a4 h' r')))
