/-! rolls of the class, one behind another -/
theorem zset_2st {σ st : zH} {s v : Int} (hS : 0 ≤ nS σ) {c : Int} : sAt σ (zset st 2 s v) c = sAt σ st c := sAt_5 (by decide) hS
theorem WT.h2 {σ st : zH} (wt : WT σ st) {s v : Int} : WT σ (zset st 2 s v) := by
  refine ⟨fun i i1 i2 => ?_, fun c c1 c2 => ?_, fun i i1 i2 => ?_⟩
  · refine ⟨?_, fun j j1 j2 j3 => ?_⟩
    · rw [zset_o (by decide)]; exact (wt.1 i i1 i2).1
    · rw [zset_o (by decide), zset_o (by decide)] at j3
      rw [zset_o (by decide)]; exact (wt.1 i i1 i2).2 j j1 j2 j3
  · rw [zset_o (by decide), zset_o (by decide), zset_o (by decide), zset_o (by decide)]; exact wt.2.1 c c1 c2
  · rw [zset_o (by decide)]; exact wt.2.2 i i1 i2
theorem CT.h2 {σ st : zH} (w : WS σ) {T : Int} {h : zH} (t : CT σ st T h) {s : Int} (hs : 0 ≤ s ∧ s < 10) : CT σ (zset st 2 s (st 2 s + 1)) T (zset h (T + 2) s (w32 (h (T + 2) s + 1))) := by
  have e2 := t.rl hs
  obtain ⟨c0, c1, c2, c3, c4, c5, c6, c7⟩ := t
  refine ⟨c0, fun i a b => ?_, fun i a b => ?_, fun i a b => ?_, fun i a b => ?_, ?_, ?_, ?_⟩
  · have := c1 i a b
    refine ⟨?_, ?_, ?_⟩
    · rw [zset_o (by omega), zset_o (by decide)]; exact this.1
    · rw [zset_g, zset_g]
      split
      · rw [e2, w32_a]
      · exact this.2.1
    · rw [zset_o (by omega), zset_o (by decide)]; exact this.2.2
  · rw [zset_o (by omega), zset_2st w.2.1.2.2.1]; exact c2 i a b
  · refine ⟨?_, ?_⟩
    · rw [zset_o (by omega), zset_o (by decide)]; exact (c3 i a b).1
    · rw [zset_o (by omega), zset_o (by decide)]; exact (c3 i a b).2
  · rw [zset_o (by omega), zset_o (by decide)]; exact c4 i a b
  · rw [zset_o (by omega)]
    obtain ⟨N, a1, a2, a3⟩ := c5
    exact ⟨N, a1, a2, fun i => by rw [zset_o (by decide)]; exact a3 i⟩
  · rw [zset_o (by omega)]
    obtain ⟨N, a1, a2, a3⟩ := c6
    exact ⟨N, a1, a2, fun i => by rw [zset_o (by decide)]; exact a3 i⟩
  · rw [zset_o (by omega), zset_o (by decide)]; exact c7
theorem rem_2 {σ st : zH} {s v : Int} : rem σ (zset st 2 s v) = rem σ st := by
  unfold rem
  rw [zct_cg (f := fun c => decide (0 < zset st 2 s v 5 c)) (g := fun c => decide (0 < st 5 c)) _ _ (fun j _ _ => by rw [zset_o (by decide)]), zct_cg (f := fun i => decide (zset st 2 s v 9 i ≠ 1)) (g := fun i => decide (st 9 i ≠ 1)) _ _ (fun j _ _ => by rw [zset_o (by decide)])]
theorem q_rollOnce {d : Nat} {σ st : zH} {a T m s R : Int} {h : zH} {E : List zEv} {P : List Int} (w : WS σ) (hm : MA m) (hs : 0 ≤ s ∧ s < nS σ) (g : CS σ a h) (t : CT σ st T h) (wt : WT σ st) (ea : h m 11 = a) (eT : h m 12 = T) (hl : st 1 s ≠ -1) (hP : okL h m P 0) (mv : MV σ E R P m h) (hcl : ((ecl σ E).length : Int) + rem σ st ≤ 68) :
    zWp (m_Mover_rollOnce (d + 3) m s h) (RollPost σ (rollS σ st s) s (σ 6 (st 1 s)) E (R + 1) P a T m h) := by
  have hT := t.1.low
  have hap := hm.ap t.1
  have hml := hm.low
  have ha := g.a
  have hnn := w.n
  have hS10 : nS σ ≤ 10 := w.2.1.2.2.2.1
  have hc : 0 ≤ st 1 s ∧ st 1 s < nC σ := by
    rcases (wt.1 s hs.1 hs.2).1 with q | q
    · exact absurd q hl
    · exact q
  rw [em_Mover_rollOnce]
  refine zWp_po (by omega) (zWp_lt fun h1 e1 => zWp_po (by omega) (zWp_lt fun h2 e2 => zWp_po (by omega) (zWp_lt fun h3 e3 => ?_)))
  have m3 : ∀ q, ¬ (q = 14 ∨ q = 15 ∨ q = 16) → h3 m q = h m q := fun q hq => by rw [e3, zset_j (by omega), e2, zset_j (by omega), e1, zset_j (by omega)]
  have r3 : ∀ r, ¬ r = m → h3 r = h r := fun r hr => by rw [e3, zset_n hr, e2, zset_n hr, e1, zset_n hr]
  have f14 : h3 m 14 = s := by rw [e3, zset_j (by decide), e2, zset_j (by decide), e1, zset_e]
  have f15 : h3 m 15 = 0 := by rw [e3, zset_j (by decide), e2, zset_e]
  have f16 : h3 m 16 = 0 := by rw [e3, zset_e]
  have g3 : CS σ a h3 := g.fr (fun r _ _ => r3 r (by omega))
  have t3 : CT σ st T h3 := t.fr (fun r _ _ => r3 r (by omega))
  have ea3 : h3 m 11 = a := (m3 11 (by decide)).trans ea
  have eT3 : h3 m 12 = T := (m3 12 (by decide)).trans eT
  have eP : h3 (T + 1) s = st 1 s := t3.pl (by omega)
  rw [ea3, eT3, eP]
  repeat first | with_reducible refine zWp_po ?_ ?_; (· omega) | with_reducible refine zWp_it ?_ ?_; (· omega)
  refine zWp_qi (q_ownerOf g3 w) (zWp_po (by omega) (zWp_lt fun h4 e4 => zWp_po (by omega) (zWp_po (by omega) (zWp_lt fun h5 e5 => ?_))))
  rw [if_pos hc] at e4
  have m4 : ∀ q, ¬ q = 17 → h4 m q = h3 m q := fun q hq => by rw [e4, zset_j hq]
  have m5 : ∀ q, ¬ (q = 17 ∨ q = 2) → h5 m q = h3 m q := fun q hq => by rw [e5, zset_j (by omega), m4 q (by omega)]
  have f17 : h5 m 17 = σ 6 (st 1 s) := by rw [e5, zset_j (by decide), e4, zset_e]
  have f2 : h5 m 2 = w32 (R + 1) := by rw [e5, zset_e, m4 2 (by decide), m3 2 (by decide), mv.1, w32_a]
  have r5 : ∀ r, ¬ r = m → h5 r = h r := fun r hr => by rw [e5, zset_n hr, e4, zset_n hr, r3 r hr]
  have eT5 : h5 m 12 = T := (m5 12 (by decide)).trans eT3
  rw [eT5]
  repeat first | with_reducible refine zWp_po ?_ ?_; (· omega) | with_reducible refine zWp_it ?_ ?_; (· omega)
  refine zWp_lt fun h6 e6 => ?_
  have m6 : ∀ q, h6 m q = h5 m q := fun q => by rw [e6, zset_o (by omega)]
  have r6 : ∀ r, ¬ (r = m ∨ r = T + 2) → h6 r = h r := fun r hr => by rw [e6, zset_n (by omega), r5 r (by omega)]
  have t6 : CT σ (zset st 2 s (st 2 s + 1)) T h6 := by
    rw [e6]; exact CT.h2 w (t.fr (fun r _ _ => r5 r (by omega))) (by omega)
  have g6 : CS σ a h6 := g.fr (fun r _ _ => r6 r (by omega))
  have M : ∀ q, ¬ (q = 2 ∨ 14 ≤ q) → h6 m q = h m q := fun q hq => by rw [m6, m5 q (by omega), m3 q (by omega)]
  have mv6 : MV σ E (R + 1) P m h6 := by
    unfold MV at mv ⊢
    rw [m6 2, f2, M 3 (by decide), M 4 (by decide), M 5 (by decide), M 6 (by decide), M 8 (by decide), M 1 (by decide), M 10 (by decide), r6 (m + 1) (by omega), r6 (m + 2) (by omega)]
    exact ⟨rfl, mv.2⟩
  have hH := (w.2.2.1 _ hc.1 hc.2)
  have hH1 : σ 1 (st 1 s) ≤ 999 := hH.2.1
  clear hH
  refine zWp_m (q_roll65 w (d := d) (R := R + 1) (k := 0) (sp := 0) hm hs 60 (by decide) g6 t6 (wt.h2) ((m6 11).trans ((m5 11 (by decide)).trans ea3)) ((m6 12).trans eT5) (by rw [m6, m5 14 (by decide), f14]) (by rw [m6, m5 15 (by decide), f15]) (by rw [m6, m5 16 (by decide), f16]) (by rw [m6, f17]) (zset_o (by decide)) hc (by omega) (by omega) (by rcases hP with z | z; exact Or.inl ((M 13 (by decide)).trans z); exact Or.inr (by omega)) mv6 (by rw [rem_2]; exact hcl)) ?_
  rintro v h' ⟨u1, u2, u3, u4, u5, u6, u7, u8, u9, u10, u11⟩
  rw [M 13 (by decide)] at u5
  rw [M 7 (by decide)] at u6
  exact ⟨u1, u2, u3, u4, u5, u6, u7, u8, u9, fun r hr => by rw [u10 r hr, r6 r (by omega)], u11⟩
