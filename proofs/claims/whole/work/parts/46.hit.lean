/-! hit, worst -/
theorem q_hit49 {d : Nat} {σ st : zH} {a u : Int} (hu : 0 ≤ u ∧ u < nHo σ) (hr : ¬ st 9 u = 1) (hT : ¬ nT σ = 0) : ∀ (n : Nat) {i x : Int} {h : zH}, BC σ st a h → 0 ≤ i → i + n = nT σ → 0 ≤ x ∧ x ≤ 99 * i → zWp (l_B_hit_49 (d + 6) u x i h) (fun v h' => v = .inl (Int.tdiv (1000 * (x + isum (hitF σ st u) n i)) (oddsA σ)) ∧ frQ h h') := by
  intro n
  induction n with
  | zero =>
    intro i x h b hi hn hx
    have ha := b.2.1.a
    have hT6 : nT σ ≤ 6 := b.2.2.2.1.2.1.2.2.2.2.2.2.2.1
    have e : h (a + 8) 13 = nT σ := b.2.1.g 8 (by decide)
    rw [el_B_hit_49, b.1, e]
    refine zWp_po (by omega) (zWp_po (by omega) (zWp_it (by decide) (zWp_nt (by omega) (zWp_qi (q_thous b hT (by omega)) (zWp_s ⟨?_, frQ.rf h⟩)))))
    show _ = Sum.inl (Int.tdiv (1000 * (x + 0)) (oddsA σ))
    rw [Int.add_zero]
  | succ n ih =>
    intro i x h b hi hn hx
    have ha := b.2.1.a
    have hT6 : nT σ ≤ 6 := b.2.2.2.1.2.1.2.2.2.2.2.2.2.1
    have hH8 : nHo σ ≤ 8 := b.2.2.2.1.2.1.2.2.2.2.2.1
    have e : h (a + 8) 13 = nT σ := b.2.1.g 8 (by decide)
    have hit : 0 ≤ i ∧ i < nT σ := by omega
    rw [el_B_hit_49, b.1, e]
    refine zWp_po (by omega) (zWp_po (by omega) (zWp_it (by decide) (zWp_it (by omega) ?_)))
    obtain ⟨v, h3, e3, k1, k2⟩ := q_tryThaw (d := d) b hit
    refine zWp_qv e3 (zWp_qi (q_isRuin k1.2.1 (by omega)) ?_)
    have b3 := b.q k2
    have e19 : h3 (a + 19) i = σ 19 i := b3.2.1.g 19 (by decide)
    rw [b3.1, e19, w32_i (x := i + 1) (by omega)]
    have eS : isum (hitF σ st u) (n + 1) i = hitF σ st u i + isum (hitF σ st u) n (i + 1) := rfl
    have fin : ∀ y, y = hitF σ st u i → zWp (l_B_hit_49 (d + 6) u (w32 (x + y)) (i + 1) h3) (fun v h' => v = .inl (Int.tdiv (1000 * (x + isum (hitF σ st u) (n + 1) i)) (oddsA σ)) ∧ frQ h h') := by
      intro y hy
      have hb := hitF_b (st := st) (u := u) b.2.2.2.1 hit
      rw [w32_i (by omega)]
      refine zWp_m (ih b3 (by omega) (by omega) (by omega)) ?_
      rintro v h' ⟨u1, u2⟩
      refine ⟨?_, k2.t u2⟩
      rw [u1, eS, hy, Int.add_assoc]
    by_cases z : (spr σ (σ 18 i) st).1 9 u = 1
    · rw [if_pos z]
      exact zWp_nt (by decide) (zWp_po (by omega) (zWp_po (by omega) (zWp_it (by omega) (fin (σ 19 i) (by unfold hitF; rw [if_pos ⟨hr, z⟩])))))
    · rw [if_neg z]
      exact zWp_it rfl (fin 0 (by unfold hitF; rw [if_neg (fun y => z y.2)]))
theorem hit_0 {σ st : zH} {u : Int} (hr : st 9 u = 1) (n : Nat) (i : Int) : isum (hitF σ st u) n i = 0 := by
  rw [isum_cg (g := fun _ => 0) _ _ (fun j _ _ => ?_), isum_0]
  unfold hitF
  rw [if_neg (fun z => z.1 hr)]
theorem q_hit {d : Nat} {σ st : zH} {a u : Int} {h : zH} (b : BC σ st a h) : zWp (m_B_hit (d + 7) u h) (fun v h' => v = .inl (vHit σ st u) ∧ frQ h h') := by
  have ha := b.2.1.a
  have hH8 : nHo σ ≤ 8 := b.2.2.2.1.2.1.2.2.2.2.2.1
  have hT0 : 0 ≤ nT σ := b.2.2.2.1.2.1.2.2.2.2.2.2.1
  have e : h (a + 8) 13 = nT σ := b.2.1.g 8 (by decide)
  have e10 : h (a + 8) 10 = nHo σ := b.2.1.g 8 (by decide)
  rw [em_B_hit, b.1, e10]
  refine zWp_po (by omega) (zWp_po (by omega) (zWp_it (by decide) (zWp_qi q_within ?_)))
  by_cases c1 : 0 ≤ u ∧ u < nHo σ
  · rw [if_pos c1, b.1, e]
    refine zWp_nt (by decide) (zWp_po (by omega) (zWp_po (by omega) (zWp_it (by decide) ?_)))
    by_cases c2 : nT σ = 0
    · have ev : vHit σ st u = -1 := by unfold vHit; exact if_neg (fun z => z.2 c2)
      rw [ev]
      exact zWp_it c2 (zWp_s ⟨rfl, frQ.rf h⟩)
    · have ev : vHit σ st u = Int.tdiv (1000 * isum (hitF σ st u) (nT σ).toNat 0) (oddsA σ) := by unfold vHit; exact if_pos ⟨c1, c2⟩
      rw [ev]
      refine zWp_nt c2 (zWp_qi (q_isRuin b.2.2.1 (by omega)) ?_)
      by_cases c3 : st 9 u = 1
      · rw [if_pos c3, hit_0 c3]
        exact zWp_nt (by decide) (zWp_s ⟨by simp, frQ.rf h⟩)
      · rw [if_neg c3]
        refine zWp_it rfl (zWp_m (q_hit49 (d := d) c1 c3 c2 (nT σ).toNat b (Int.le_refl 0) (by omega) (by omega)) ?_)
        rintro v h' ⟨u1, u2⟩
        exact ⟨by rw [u1, Int.zero_add], u2⟩
  · have ev : vHit σ st u = -1 := by unfold vHit; exact if_neg (fun z => c1 z.1)
    rw [if_neg c1, ev]
    exact zWp_it rfl (zWp_s ⟨rfl, frQ.rf h⟩)
theorem q_R_hit26 {d : Nat} {σ st : zH} {u : Int} (hu : 0 ≤ u ∧ u < nHo σ) (hT : ¬ nT σ = 0) : ∀ (n : Nat) {i x : Int} {h : zH}, RC σ st h → 0 ≤ i → i + n = nT σ → 0 ≤ x ∧ x ≤ 99 * i → zWp (l_R_hit_26 (d + 6) u x i h) (fun v h' => v = .inl (Int.tdiv (1000 * (x + isum (hitF σ st u) n i)) (oddsA σ)) ∧ frQR h h') := by
  intro n
  induction n with
  | zero =>
    intro i x h b hi hn hx
    have hb := b.1.b
    have hT6 : nT σ ≤ 6 := b.2.2.1.2.1.2.2.2.2.2.2.2.1
    have e : h 424 (h 403 12) = nT σ := b.1.2.2.2.1.2.2.2.1
    rw [el_R_hit_26, e]
    refine zWp_it (by omega) (zWp_nt (by omega) (q_R_div b.2.2.1 b.1 hT (by omega) ⟨?_, frQR.rf h⟩))
    show _ = Sum.inl (Int.tdiv (1000 * (x + 0)) (oddsA σ))
    rw [Int.add_zero]
  | succ n ih =>
    intro i x h b hi hn hx
    have hb := b.1.b
    have hT6 : nT σ ≤ 6 := b.2.2.1.2.1.2.2.2.2.2.2.2.1
    have hH8 : nHo σ ≤ 8 := b.2.2.1.2.1.2.2.2.2.2.1
    have e : h 424 (h 403 12) = nT σ := b.1.2.2.2.1.2.2.2.1
    have hit : 0 ≤ i ∧ i < nT σ := by omega
    rw [el_R_hit_26, e]
    refine zWp_it (by omega) (zWp_it (by omega) ?_)
    obtain ⟨v, h3, e3, ⟨s1, s2, s3, s4⟩, k2, -⟩ := q_R_thaws (d := d) (t := 1) (f := 0) b.2.2.1 b.1 b.2.1 b.2.2.2 hit (by decide) (by decide) (by decide)
    refine zWp_qv e3 ?_
    have b3 := b.q k2
    have hb3 := b3.1.b
    have ep : h3 447 (8 + u) = (spr σ (σ 18 i) st).1 9 u := s1.2.2.1 u hu.1 hu.2
    have ep0 : h3 447 u = st 9 u := by
      have := b3.2.1.2.2.1 u hu.1 hu.2
      rwa [show 8 * 0 + u = u by omega] at this
    have e19 : h3 426 (6 * h3 403 12 + i) = σ 19 i := (b3.1.2.2.2.2.2.2.1 i hit.1 hit.2).2
    have h01 := b.2.2.2.2.2 u hu.1 hu.2
    rw [ep0, w32_i (x := 8 + u) (by omega), ep, ixw (by omega) (by omega), e19, w32_i (x := i + 1) (by omega)]
    have eS : isum (hitF σ st u) (n + 1) i = hitF σ st u i + isum (hitF σ st u) n (i + 1) := rfl
    have fin : ∀ y, y = hitF σ st u i → zWp (l_R_hit_26 (d + 6) u (w32 (x + y)) (i + 1) h3) (fun v h' => v = .inl (Int.tdiv (1000 * (x + isum (hitF σ st u) (n + 1) i)) (oddsA σ)) ∧ frQR h h') := by
      intro y hy
      have hbb := hitF_b (st := st) (u := u) b.2.2.1 hit
      rw [w32_i (by omega)]
      refine zWp_m (ih b3 (by omega) (by omega) (by omega)) ?_
      rintro v h' ⟨u1, u2⟩
      refine ⟨?_, k2.t u2⟩
      rw [u1, eS, hy, Int.add_assoc]
    refine zWp_it (by omega) ?_
    by_cases z0 : st 9 u = 0
    · refine zWp_it z0 (zWp_it (by omega) ?_)
      by_cases z : (spr σ (σ 18 i) st).1 9 u = 1
      · exact zWp_it z (zWp_it (by omega) (fin (σ 19 i) (by unfold hitF; rw [if_pos ⟨by omega, z⟩])))
      · exact zWp_nt z (fin 0 (by unfold hitF; rw [if_neg (fun y => z y.2)]))
    · exact zWp_nt z0 (fin 0 (by unfold hitF; rw [if_neg (fun y => y.1 (by omega))]))
theorem q_R_hit {d : Nat} {σ st h : zH} {u : Int} (b : RC σ st h) : zWp (m_R_hit (d + 7) u h) (fun v h' => v = .inl (vHit σ st u) ∧ frQR h h') := by
  have hb := b.1.b
  have hT0 : 0 ≤ nT σ := b.2.2.1.2.1.2.2.2.2.2.2.1
  have e : h 424 (h 403 12) = nT σ := b.1.2.2.2.1.2.2.2.1
  rw [em_R_hit]
  refine zWp_qi (q_R_isHouse b.1) ?_
  by_cases c1 : 0 ≤ u ∧ u < nHo σ
  · rw [if_pos c1, e]
    refine zWp_nt (by decide) (zWp_it (by omega) ?_)
    by_cases c2 : nT σ = 0
    · have ev : vHit σ st u = -1 := by unfold vHit; exact if_neg (fun z => z.2 c2)
      rw [ev]
      exact zWp_it c2 (zWp_s ⟨rfl, frQR.rf h⟩)
    · have ev : vHit σ st u = Int.tdiv (1000 * isum (hitF σ st u) (nT σ).toNat 0) (oddsA σ) := by unfold vHit; exact if_pos ⟨c1, c2⟩
      rw [ev]
      refine zWp_nt c2 (zWp_m (q_R_hit26 (d := d) c1 c2 (nT σ).toNat b (Int.le_refl 0) (by omega) (by omega)) ?_)
      rintro v h' ⟨u1, u2⟩
      exact ⟨by rw [u1, Int.zero_add], u2⟩
  · have ev : vHit σ st u = -1 := by unfold vHit; exact if_neg (fun z => c1 z.1)
    rw [if_neg c1, ev]
    exact zWp_it rfl (zWp_s ⟨rfl, frQR.rf h⟩)
/-- the worst thaw so far and its worth -/
def wstW (σ st : zH) (t : Int) : Int := w32 (esum eWo (trEv σ (spr σ (σ 18 t) st).2))
def wst (σ st : zH) : Nat → Int → Int → Int → Int × Int
  | 0, _, x, y => (x, y)
  | n + 1, i, x, y => if y < wstW σ st i then wst σ st n (i + 1) i (wstW σ st i) else wst σ st n (i + 1) x y
def vWorst (σ st : zH) (k : Int) : Int := if ¬ nT σ = 0 ∧ (0 ≤ k ∧ k < 2) then (if k = 0 then (wst σ st (nT σ).toNat 0 0 (-1)).1 else (wst σ st (nT σ).toNat 0 0 (-1)).2) else -1
theorem q_worst30 {d : Nat} {σ st : zH} {a k : Int} : ∀ (n : Nat) {i x y : Int} {h : zH}, BC σ st a h → 0 ≤ i → i + n = nT σ → zWp (l_B_worst_30 (d + 6) k x y i h) (fun v h' => v = .inl (if k = 0 then (wst σ st n i x y).1 else (wst σ st n i x y).2) ∧ frQ h h') := by
  intro n
  induction n with
  | zero =>
    intro i x y h b hi hn
    have ha := b.2.1.a
    have e : h (a + 8) 13 = nT σ := b.2.1.g 8 (by decide)
    rw [el_B_worst_30, b.1, e]
    exact zWp_po (by omega) (zWp_po (by omega) (zWp_it (by decide) (zWp_nt (by omega) (zWp_if (fun z => zWp_s ⟨by rw [if_pos z]; rfl, frQ.rf h⟩) (fun z => zWp_s ⟨by rw [if_neg z]; rfl, frQ.rf h⟩)))))
  | succ n ih =>
    intro i x y h b hi hn
    have ha := b.2.1.a
    have hT6 : nT σ ≤ 6 := b.2.2.2.1.2.1.2.2.2.2.2.2.2.1
    have e : h (a + 8) 13 = nT σ := b.2.1.g 8 (by decide)
    have hit : 0 ≤ i ∧ i < nT σ := by omega
    rw [el_B_worst_30, b.1, e]
    refine zWp_po (by omega) (zWp_po (by omega) (zWp_it (by decide) (zWp_it (by omega) ?_)))
    obtain ⟨v, h3, e3, k1, k2⟩ := q_tryThaw (d := d) b hit
    refine zWp_qv e3 ?_
    have e4 : h3 328 4 = wstW σ st i := k1.2.2.2.1.2.2.1
    rw [e4, w32_i (x := i + 1) (by omega)]
    by_cases z : y < wstW σ st i
    · have eW : wst σ st (n + 1) i x y = wst σ st n (i + 1) i (wstW σ st i) := by rw [wst, if_pos z]
      rw [eW]
      refine zWp_it z (zWp_m (ih (b.q k2) (by omega) (by omega)) ?_)
      rintro v h' ⟨u1, u2⟩
      exact ⟨u1, k2.t u2⟩
    · have eW : wst σ st (n + 1) i x y = wst σ st n (i + 1) x y := by rw [wst, if_neg z]
      rw [eW]
      refine zWp_nt z (zWp_m (ih (b.q k2) (by omega) (by omega)) ?_)
      rintro v h' ⟨u1, u2⟩
      exact ⟨u1, k2.t u2⟩
theorem q_worst {d : Nat} {σ st : zH} {a k : Int} {h : zH} (b : BC σ st a h) : zWp (m_B_worst (d + 7) k h) (fun v h' => v = .inl (vWorst σ st k) ∧ frQ h h') := by
  have ha := b.2.1.a
  have hT0 : 0 ≤ nT σ := b.2.2.2.1.2.1.2.2.2.2.2.2.1
  have e : h (a + 8) 13 = nT σ := b.2.1.g 8 (by decide)
  rw [em_B_worst]
  refine zWp_qi q_within ?_
  by_cases c1 : 0 ≤ k ∧ k < 2
  · rw [if_pos c1, b.1, e]
    refine zWp_nt (by decide) (zWp_po (by omega) (zWp_po (by omega) (zWp_it (by decide) ?_)))
    by_cases c2 : nT σ = 0
    · have ev : vWorst σ st k = -1 := by unfold vWorst; exact if_neg (fun z => z.1 c2)
      rw [ev]
      exact zWp_it c2 (zWp_s ⟨rfl, frQ.rf h⟩)
    · have ev : vWorst σ st k = (if k = 0 then (wst σ st (nT σ).toNat 0 0 (-1)).1 else (wst σ st (nT σ).toNat 0 0 (-1)).2) := by unfold vWorst; exact if_pos ⟨c2, c1⟩
      rw [ev]
      exact zWp_nt c2 (q_worst30 (d := d) (nT σ).toNat b (Int.le_refl 0) (by omega))
  · have ev : vWorst σ st k = -1 := by unfold vWorst; exact if_neg (fun z => c1 z.2)
    rw [if_neg c1, ev]
    exact zWp_it rfl (zWp_s ⟨rfl, frQ.rf h⟩)
theorem q_R_worst30 {d : Nat} {σ st : zH} {k : Int} : ∀ (n : Nat) {i x y : Int} {h : zH}, RC σ st h → 0 ≤ i → i + n = nT σ → zWp (l_R_worst_30 (d + 6) k x y i h) (fun v h' => v = .inl (if k = 0 then (wst σ st n i x y).1 else (wst σ st n i x y).2) ∧ frQR h h') := by
  intro n
  induction n with
  | zero =>
    intro i x y h b hi hn
    have hb := b.1.b
    have e : h 424 (h 403 12) = nT σ := b.1.2.2.2.1.2.2.2.1
    rw [el_R_worst_30, e]
    exact zWp_it (by omega) (zWp_nt (by omega) (zWp_if (fun z => zWp_s ⟨by rw [if_pos z]; rfl, frQR.rf h⟩) (fun z => zWp_s ⟨by rw [if_neg z]; rfl, frQR.rf h⟩)))
  | succ n ih =>
    intro i x y h b hi hn
    have hb := b.1.b
    have hT6 : nT σ ≤ 6 := b.2.2.1.2.1.2.2.2.2.2.2.2.1
    have e : h 424 (h 403 12) = nT σ := b.1.2.2.2.1.2.2.2.1
    have hit : 0 ≤ i ∧ i < nT σ := by omega
    rw [el_R_worst_30, e]
    refine zWp_it (by omega) (zWp_it (by omega) ?_)
    obtain ⟨v, h3, e3, ⟨s1, s2, s3, s4⟩, k2, -⟩ := q_R_thaws (d := d) (t := 1) (f := 0) b.2.2.1 b.1 b.2.1 b.2.2.2 hit (by decide) (by decide) (by decide)
    refine zWp_qv e3 ?_
    have e4 : h3 403 76 = wstW σ st i := s3.2.2.2.1
    rw [e4, w32_i (x := i + 1) (by omega)]
    by_cases z : y < wstW σ st i
    · have eW : wst σ st (n + 1) i x y = wst σ st n (i + 1) i (wstW σ st i) := by rw [wst, if_pos z]
      rw [eW]
      refine zWp_it z (zWp_m (ih (b.q k2) (by omega) (by omega)) ?_)
      rintro v h' ⟨u1, u2⟩
      exact ⟨u1, k2.t u2⟩
    · have eW : wst σ st (n + 1) i x y = wst σ st n (i + 1) x y := by rw [wst, if_neg z]
      rw [eW]
      refine zWp_nt z (zWp_m (ih (b.q k2) (by omega) (by omega)) ?_)
      rintro v h' ⟨u1, u2⟩
      exact ⟨u1, k2.t u2⟩
theorem q_R_worst {d : Nat} {σ st h : zH} {k : Int} (b : RC σ st h) : zWp (m_R_worst (d + 7) k h) (fun v h' => v = .inl (vWorst σ st k) ∧ frQR h h') := by
  have hb := b.1.b
  have hT0 : 0 ≤ nT σ := b.2.2.1.2.1.2.2.2.2.2.2.1
  have e : h 424 (h 403 12) = nT σ := b.1.2.2.2.1.2.2.2.1
  rw [em_R_worst, e]
  refine zWp_it (by omega) ?_
  by_cases c2 : nT σ = 0
  · have ev : vWorst σ st k = -1 := by unfold vWorst; exact if_neg (fun z => z.1 c2)
    rw [ev]
    exact zWp_it c2 (zWp_s ⟨rfl, frQR.rf h⟩)
  · refine zWp_nt c2 (zWp_qi q_R_is ?_)
    by_cases c1 : 0 ≤ k ∧ k < 2
    · have ev : vWorst σ st k = (if k = 0 then (wst σ st (nT σ).toNat 0 0 (-1)).1 else (wst σ st (nT σ).toNat 0 0 (-1)).2) := by unfold vWorst; exact if_pos ⟨c2, c1⟩
      rw [if_pos (show 0 ≤ k ∧ k ≤ 1 by omega), ev]
      exact zWp_nt (by decide) (q_R_worst30 (d := d) (nT σ).toNat b (Int.le_refl 0) (by omega))
    · have ev : vWorst σ st k = -1 := by unfold vWorst; exact if_neg (fun z => c1 z.2)
      rw [if_neg (show ¬ (0 ≤ k ∧ k ≤ 1) by omega), ev]
      exact zWp_it rfl (zWp_s ⟨rfl, frQR.rf h⟩)
