theorem q_R_wh28 {d : Nat} {σ st : zH} {s k : Int} (hs : 0 ≤ s ∧ s < nS σ) (hl : ¬ st 1 s = -1) : ∀ (n : Nat) {c x : Int} {h : zH}, RC σ st h → 0 ≤ c → c + n = nC σ → 0 ≤ x ∧ x ≤ c → -1 ≤ k → zWp (l_R_whence_28 (d + 3) s k (st 1 s) x c h) (fun v h' => v = .inl (whA σ st s k n c x) ∧ frQR h h') := by
  intro n
  induction n with
  | zero =>
    intro c x h b hc hn hx hk
    rw [el_R_whence_28]
    refine zWp_qi (q_R_cells b.2.2.1 b.1) (zWp_nt (by omega) ?_)
    rw [whA]
    exact zWp_if (fun z => zWp_s ⟨by rw [if_pos z], frQR.rf h⟩) (fun z => zWp_s ⟨by rw [if_neg z], frQR.rf h⟩)
  | succ n ih =>
    intro c x h b hc hn hx hk
    have w := b.2.2.1
    have hnn := w.n
    have hS10 : nS σ ≤ 10 := w.2.1.2.2.2.1
    have hS0 : 0 ≤ nS σ := w.2.1.2.2.1
    have hcc : 0 ≤ c ∧ c < nC σ := by omega
    have h5p : 0 ≤ st 5 c := (b.2.2.2.2.1 c hcc.1 hcc.2).1
    rw [el_R_whence_28, w32_i (x := c + 1) (by omega), w32_i (x := 10 + s) (by omega)]
    refine zWp_qi (q_R_cells w b.1) (zWp_it (by omega) ?_)
    have skip : ∀ h', frQR h h' → wcF σ st s c = false → zWp (l_R_whence_28 (d + 3) s k (st 1 s) x (c + 1) h') (fun v h' => v = .inl (whA σ st s k (n + 1) c x) ∧ frQR h h') := fun h' f e => by
      rw [whA_f e]
      refine zWp_m (ih (b.q f) (by omega) (by omega) (by omega) hk) ?_
      rintro v h9 ⟨u1, u2⟩
      exact ⟨u1, f.t u2⟩
    by_cases c0 : c = st 1 s
    · exact zWp_it c0 (skip h (frQR.rf h) (wcF_f (fun z => sAt_free hS0 z.1.1 hs c0.symm)))
    refine zWp_nt c0 (zWp_qi (q_R_isFree b hcc) ?_)
    by_cases c1 : sAt σ st c = -1 ∧ ¬ (σ 7 c ≠ -1 ∧ st 9 (σ 7 c) ≠ 1) ∧ st 5 c = 0
    case neg =>
      rw [if_neg c1]
      exact zWp_it rfl (skip h (frQR.rf h) (wcF_f (fun z => c1 ⟨z.1.1, z.1.2.2.1, by have := z.1.2.1; omega⟩)))
    rw [if_pos c1]
    have e8 : h 450 c = st 8 c := by
      have := (b.2.1.2.2.2 c hcc.1 hcc.2).2.2
      rwa [show 60 * 0 + c = c by omega] at this
    refine zWp_nt (by decide) (zWp_it (by omega) ?_)
    rw [e8]
    by_cases c2 : st 8 c = 1
    · exact zWp_it c2 (skip h (frQR.rf h) (wcF_f (fun z => z.1.2.2.2 c2)))
    have hB : wcB σ st c := ⟨c1.1, by omega, c1.2.1, c2⟩
    have wt1 : WT σ (zset st 1 s c) := WT_mv b.2.2.2 hcc (fun i i1 i2 => sAt_free hS0 c1.1 ⟨i1, i2⟩)
    have p1 : zset st 1 s c 1 s = c := zset_e
    have hl1 : zset st 1 s c 1 s ≠ -1 := by rw [p1]; omega
    obtain ⟨v, h5, e5, k1, k2⟩ := q_copiesT (d := d + 2) (t := 1) (f := 0) (h := h) (by decide) (by decide) (by decide)
    obtain ⟨v6, h6, e6, u1, u2, u3, u4⟩ := q_R_forgets (d := d + 2) (h := h5)
    have f6 : frQR h h6 := (k1.q (by decide) k2).t (frQR.fg u3 u4)
    have t6 : RT σ st 1 h6 := (k1.t w (by decide) b.2.1).fr (fun r a b => u3 r (by omega))
    refine zWp_nt c2 (zWp_qv e5 (zWp_qv e6 (zWp_it (by omega) (zWp_lt fun h7 q7 => ?_))))
    have t7 : RT σ (zset st 1 s c) 1 h7 := by
      have := RT_h1 (s := s) (x := c) t6
      rw [show 10 * 1 + s = 10 + s by omega] at this
      rw [q7]; exact this
    have f67 : frR 1 h6 h7 := by rw [q7]; exact frR.s (Or.inr (Or.inl ⟨Or.inl rfl, by omega⟩))
    have f7 : frQR h h7 := f6.t (f67.q (by decide))
    have rv7 : RV [] 0 h7 := by
      have m : ∀ q, h7 403 q = h6 403 q := fun q => by rw [q7, zset_o (by decide)]
      obtain ⟨a1, a2, a3, a4, a5⟩ := u1
      exact ⟨by rw [m, a1], by rw [m, a2], by rw [m, a3], by rw [m, a4], by rw [m, a5]⟩
    have rw7 : RW [] h7 := u2.fr (by rw [q7, zset_o (by decide)]) (by rw [q7, zset_n (by decide)])
    obtain ⟨a9, h8, e8, rfl, y1, y2, y3, y4, y5, y6, y7⟩ := q_R_rolling (d := d) (Λ := noLw) (h0 := h7) (Δ := noDu) w (b.1.q f7) t7 wt1 hs hl1 rv7 rw7 (by decide) (noDR (by decide))
    have ok := rollS_ok w wt1 hs hl1
    have f8 : frQR h h8 := f7.t (y3.q (by decide))
    have r5 := rollA_5 w hs 60 wt1.h2 (show zset (zset st 1 s c) 2 s (zset st 1 s c 2 s + 1) 1 s = c by rw [zset_o (by decide)]; exact p1) hcc (show 0 ≤ (0 : Int) ∧ 0 + σ 1 c ≤ 999 by have := (w.2.2.1 c hcc.1 hcc.2).2.1; omega) (k := 0)
    have eq5 : zset (zset st 1 s c) 2 s (zset st 1 s c 2 s + 1) 5 = st 5 := by rw [zset_n (by decide), zset_n (by decide)]
    have er : rollS σ (zset st 1 s c) s = rollA σ 60 (zset (zset st 1 s c) 2 s (zset st 1 s c 2 s + 1)) s c 0 0 := by unfold rollS; rw [p1]
    rw [← er, eq5] at r5
    have hru := ru_evs (s := s) (y := σ 6 (zset st 1 s c 1 s)) (rollS σ (zset st 1 s c) s).2.1
    have hrem := rem_le (st := (rollS σ (zset st 1 s c) s).1) w
    have hrem2 := rem_le (st := zset (zset st 1 s c) 2 s (zset st 1 s c 2 s + 1)) w
    have hok2 := ok.2.1
    have e74 : h8 403 74 = esum eRu (evs 0 0 (rollS σ (zset st 1 s c) s).2.1) := by
      rw [y4.2.1, List.nil_append, w32_i (by omega)]; exact evs_ru _
    have e444 : h8 444 (10 + s) = (rollS σ (zset st 1 s c) s).1 1 s := by
      have := (y1.2.1 s hs.1 hs.2).1
      rwa [show 10 * 1 + s = 10 + s by omega] at this
    have g8 : ∀ y, 0 ≤ y → y < nC σ → (h8 448 (60 + y) = h8 448 y ↔ (rollS σ (zset st 1 s c) s).1 5 y = st 5 y) := fun y a1 a2 => by
      have q1 := (y1.2.2.2 y a1 a2).1
      have q2 := ((b.q f8).2.1.2.2.2 y a1 a2).1
      rw [show 60 * 1 + y = 60 + y by omega] at q1
      rw [show 60 * 0 + y = y by omega] at q2
      rw [q1, q2]
    have fin : ∀ x7 : Int, (x7 ≠ 0 ↔ (pushed σ (rollS σ (zset st 1 s c) s) = -1 ∧ esum eRu (evs 0 0 (rollS σ (zset st 1 s c) s).2.1) = 0 ∧ (rollS σ (zset st 1 s c) s).1 1 s = st 1 s)) → zWp (l_R_whence_146 (d + 3) s k (st 1 s) x c x7 0 h8) (fun v h' => v = .inl (whA σ st s k (n + 1) c x) ∧ frQR h h') := fun x7 hx7 => by
      refine q_R_wh146 (d := d + 2) w y2 (nC σ).toNat (Int.le_refl 0) (by omega) (fun z1 z2 => ?_) (fun z => ?_)
      · have m0 : esum eMt (evs 0 0 (rollS σ (zset st 1 s c) s).2.1) = 0 := Classical.byContradiction fun q => by
          obtain ⟨y, yy, yz⟩ := r5.2.2 q
          have := (g8 y yy.1 yy.2).1 (z2 y yy.1 yy.2)
          omega
        have G := hx7.1 z1
        rw [whA_t (wcF_t ⟨hB, ⟨G.1, m0, G.2.1⟩, G.2.2⟩), w32_i (x := x + 1) (by omega), w32_i (x := c + 1) (by omega)]
        refine zWp_if (fun q => zWp_s ⟨by rw [if_pos q], f8⟩) (fun q => ?_)
        rw [if_neg q]
        refine zWp_m (ih (b.q f8) (by omega) (by omega) (by omega) hk) ?_
        rintro v h9 ⟨u1, u2⟩
        exact ⟨u1, f8.t u2⟩
      · rw [w32_i (x := c + 1) (by omega)]
        refine skip h8 f8 (wcF_f (fun q => z ⟨hx7.2 ⟨q.2.1.1, q.2.1.2.2, q.2.2⟩, fun y a1 a2 => (g8 y a1 a2).2 ?_⟩))
        rw [r5.2.1 q.2.1.2.1]
    refine zWp_qi e8 (zWp_it (by omega) ?_)
    rw [e444, e74]
    by_cases c5 : (rollS σ (zset st 1 s c) s).1 1 s = st 1 s
    case neg => exact zWp_nt c5 (fin 0 ⟨fun z => absurd rfl z, fun z => absurd z.2.2 c5⟩)
    refine zWp_it c5 ?_
    by_cases c6 : esum eRu (evs 0 0 (rollS σ (zset st 1 s c) s).2.1) = 0
    case neg => exact zWp_nt c6 (fin 0 ⟨fun z => absurd rfl z, fun z => absurd z.2.1 c6⟩)
    refine zWp_it c6 ?_
    by_cases c7 : (rollS σ (zset st 1 s c) s).2.2.1 = -1
    · have hp : pushed σ (rollS σ (zset st 1 s c) s) = -1 := by unfold pushed; exact if_neg (fun z => z.1 c7)
      exact zWp_it c7 (fin 1 ⟨fun _ => ⟨hp, c6, c5⟩, fun _ => by decide⟩)
    · obtain ⟨o1, o2⟩ : (0 ≤ (rollS σ (zset st 1 s c) s).2.2.1 ∧ (rollS σ (zset st 1 s c) s).2.2.1 < nS σ) ∧ (0 ≤ (rollS σ (zset st 1 s c) s).2.2.2 ∧ (rollS σ (zset st 1 s c) s).2.2.2 ≤ 998001) := by
        rcases ok.2.2.2.2.2.1 with q | q
        · exact absurd q c7
        · exact ⟨q.1, q.2.2.2.2.2⟩
      rw [y6 c7]
      refine zWp_nt c7 (zWp_qi (q_R_starts w y2 y1 ok.1 o1 (by omega)) ?_)
      by_cases c8 : (rollS σ (zset st 1 s c) s).1 1 (rollS σ (zset st 1 s c) s).2.2.1 ≠ -1 ∧ σ 2 ((rollS σ (zset st 1 s c) s).1 1 (rollS σ (zset st 1 s c) s).2.2.1) ≠ -1 ∧ σ 14 (rollS σ (zset st 1 s c) s).2.2.1 < (rollS σ (zset st 1 s c) s).2.2.2 + σ 3 ((rollS σ (zset st 1 s c) s).1 1 (rollS σ (zset st 1 s c) s).2.2.1)
      · have hp : pushed σ (rollS σ (zset st 1 s c) s) = (rollS σ (zset st 1 s c) s).2.2.1 := by unfold pushed; exact if_pos ⟨c7, c8⟩
        rw [if_pos c8]
        exact zWp_nt (by decide) (fin 0 ⟨fun z => absurd rfl z, fun z => absurd (hp.symm.trans z.1) c7⟩)
      · have hp : pushed σ (rollS σ (zset st 1 s c) s) = -1 := by unfold pushed; exact if_neg (fun z => c8 z.2)
        rw [if_neg c8]
        exact zWp_it rfl (fin 1 ⟨fun _ => ⟨hp, c6, c5⟩, fun _ => by decide⟩)
theorem q_R_whence {d : Nat} {σ st : zH} {s k : Int} {h : zH} (b : RC σ st h) : zWp (m_R_whence (d + 4) s k h) (fun v h' => v = .inl (vWhence σ st s k) ∧ frQR h h') := by
  have hn := b.2.2.1.n
  have hS10 : nS σ ≤ 10 := b.2.2.1.2.1.2.2.2.1
  rw [em_R_whence]
  refine zWp_qi (q_R_isThere b) ?_
  by_cases c1 : (0 ≤ s ∧ s < nS σ) ∧ st 1 s ≠ -1
  · have ev : vWhence σ st s k = whA σ st s k (nC σ).toNat 0 0 := by unfold vWhence; exact if_pos c1
    rw [if_pos c1, ev]
    refine zWp_nt (by decide) (zWp_if (fun z => zWp_s ⟨by rw [whA_no z _ (Int.le_refl 0)], frQR.rf h⟩) (fun z => zWp_it (by omega) ?_))
    have e1 : h 444 s = st 1 s := by
      have := (b.2.1.2.1 s c1.1.1 c1.1.2).1
      rwa [show 10 * 0 + s = s by omega] at this
    rw [e1]
    exact q_R_wh28 (d := d) c1.1 c1.2 (nC σ).toNat b (Int.le_refl 0) (by omega) (by omega) (by omega)
  · have ev : vWhence σ st s k = -1 := by unfold vWhence; exact if_neg c1
    rw [if_neg c1, ev]
    exact zWp_it rfl (zWp_s ⟨rfl, frQR.rf h⟩)
