/-! the slope that is read is in order; what begins behind it -/
def fnS (σ : zH) : zH := fnF σ (nC σ).toNat 0 σ
theorem fn_o {σ : zH} {k : Int} (h2 : k ≠ 2) (h3 : k ≠ 3) : fnS σ k = σ k := (fn_k (σ := σ) (nC σ).toNat 0 σ).1 k h2 h3
theorem fn_c {σ : zH} {j : Int} (h : 0 ≤ j ∧ j < nC σ) : fnS σ 2 j = (if nx4 σ j = j then -1 else nx4 σ j) ∧ fnS σ 3 j = σ 1 j - σ 1 (nx4 σ j) := ((fn_k (σ := σ) (nC σ).toNat 0 σ).2 j).1 (by omega)
theorem fn_n {σ : zH} : nC (fnS σ) = nC σ := by unfold nC; rw [fn_o (by decide) (by decide)]
theorem fn_w {σ : zH} (w : WP σ) (w1 : 1 ≤ σ 0 0) : WS (fnS σ) := by
  obtain ⟨⟨a1, a2⟩, b, c, e, s, t, u, v⟩ := w
  have o : ∀ k, k ≠ 2 → k ≠ 3 → fnS σ k = σ k := fun k => fn_o
  have n := @fn_n σ
  have m : ∀ j, fnS σ 8 j = σ 8 j := fun j => by rw [o 8 (by decide) (by decide)]
  unfold WS
  rw [show nO (fnS σ) = nO σ from m 4, show nS (fnS σ) = nS σ from m 7, show nHo (fnS σ) = nHo σ from m 10, show nT (fnS σ) = nT σ from m 13, show nRo (fnS σ) = nRo σ from m 15, show nLa (fnS σ) = nLa σ from m 16, n, o 0 (by decide) (by decide), o 1 (by decide) (by decide), o 4 (by decide) (by decide), o 5 (by decide) (by decide), o 6 (by decide) (by decide), o 7 (by decide) (by decide), o 13 (by decide) (by decide), o 14 (by decide) (by decide), o 15 (by decide) (by decide), o 16 (by decide) (by decide), o 17 (by decide) (by decide), o 18 (by decide) (by decide), o 19 (by decide) (by decide), o 20 (by decide) (by decide)]
  have N60 := a1.2.2.2.2
  refine ⟨a1, a2, fun j j1 j2 => ?_, fun j j1 j2 => ?_, s, t, u, v⟩
  · have q := c j j1 (by omega)
    have i := (nx_in w1 ⟨j1, j2⟩).2.2.2
    have g := fn_c (σ := σ) ⟨j1, j2⟩
    refine ⟨q.1, q.2.1, ?_⟩
    rw [g.1, g.2]
    by_cases z : nx4 σ j = j
    · rw [if_pos z, z]
      exact Or.inl ⟨rfl, by omega⟩
    · rw [if_neg z]
      refine Or.inr ⟨i.1.1, i.1.2, rfl, ?_⟩
      rcases i.2 with y | y
      · exact absurd y z
      · omega
  · have q := c j j1 (by omega)
    have r := e j j1 (by omega)
    exact ⟨q.2.2.1, q.2.2.2.1, q.2.2.2.2.1, q.2.2.2.2.2.1, q.2.2.2.2.2.2.1, q.2.2.2.2.2.2.2, r.1, r.2.1, r.2.2.1, r.2.2.2⟩
theorem q_R_begins {d : Nat} {σ h : zH} (w : WP σ) (w1 : 1 ≤ σ 0 0) (p : PR σ h) (eb : h 403 12 = h 403 44) : zWp (m_R_begins (d + 3) h) (fun _ h' => (RS (fnS σ) h' ∧ RT (fnS σ) (stB (fnS σ) 0 (nS σ)) 0 h' ∧ RNm (fnS σ) h') ∧ ((∀ o, 0 ≤ o → o < 6 → h' 451 o = 0) ∧ h' 452 0 = 0 ∧ h' 403 69 = 0) ∧ (∀ r, ¬ (r = 403 ∨ 444 ≤ r ∧ r ≤ 452 ∨ r = 454 ∨ r = 455) → h' r = h r) ∧ ∀ q, ¬ q = 69 → h' 403 q = h 403 q) := by
  have w0 := w
  obtain ⟨⟨a1, a2⟩, b, c, _⟩ := w
  obtain ⟨⟨p0, p1, p2⟩, ⟨p3, p4, p5, p6⟩, pk, po, ps, ph, pt, pr⟩ := p
  rw [← eb] at p0 p1 p2
  have bnk : Bnk σ h := ⟨p0, ⟨p1, p2⟩, fun j j1 j2 => by have := p3 j j1 j2; rw [← eb] at this; exact this⟩
  have hH : ∀ c', 0 ≤ c' → c' < 60 → 0 ≤ σ 1 c' ∧ σ 1 c' ≤ 999 := fun j j1 j2 => ⟨(c j j1 j2).1, (c j j1 j2).2.1⟩
  have n0 : 0 ≤ nC σ := Int.mul_nonneg a1.1 a1.2.2.1
  rw [em_R_begins]
  refine q_R_bg2 (d := d) w1 ⟨⟨a1.1, a1.2.1⟩, ⟨a1.2.2.1, a1.2.2.2.1⟩, a1.2.2.2.2⟩ hH (nC σ).toNat 0 h (by omega) (Int.le_refl _) ⟨bnk, fun j j1 j2 => ?_, fun j j1 j2 => by omega⟩ (fun h1 u1 f1 => ?_)
  · have q5 := p5 j j1 j2
    have q4 := p4 j j1 j2
    rw [← eb] at q5 q4
    exact ⟨q5, q4⟩
  have e12 : h1 403 = h 403 := f1.1 403 (by decide)
  refine q_R_bg139 (σ := σ) (d := d + 2) ⟨a2.2.2.1, a2.2.2.2.1⟩ (nS σ).toNat 0 h1 (by omega) (Int.le_refl _) (by rw [e12]; exact p0) ?_ (fun i i1 i2 => ?_) (fun i i1 i2 => by omega) (fun h2 u2 f2 g2 => ?_)
  · have q := pk.2.2.2.1
    rw [← eb] at q
    rw [f1.1 415 (by decide), e12]
    exact q
  · have q := (ps i i1 i2).2.2.2
    rw [← eb] at q
    rw [f1.1 419 (by decide), e12]
    exact q
  refine q_R_bg180 (d := d + 2) 8 0 h2 rfl (Int.le_refl _) (fun i i1 i2 => by omega) (fun h3 u3 f3 g3 => ?_)
  rw [em_R_cleans]
  refine zWp_bv (q_Rcl2 (d := d + 1) 10 (Int.le_refl _) rfl) (fun _ h4 u4 => zWp_s ?_)
  obtain ⟨v1, v2, v3, v4, v5, v6, v7⟩ := u4
  have R : ∀ r, ¬ (r = 403 ∨ 444 ≤ r ∧ r ≤ 452 ∨ r = 454 ∨ r = 455) → h4 r = h r := fun r hr => by rw [v7 r (by omega), f3 r (by omega), f2 r (by omega), f1.1 r (by omega)]
  have S : ∀ q, ¬ q = 69 → h4 403 q = h 403 q := fun q hq => by rw [v6.2 q hq, f3 403 (by decide), f2 403 (by decide), e12]
  have s12 : h4 403 12 = h 403 12 := S 12 (by decide)
  have C : ∀ r, (448 ≤ r ∧ r ≤ 450) ∨ r = 454 ∨ r = 455 → h4 r = h1 r := fun r hr => by rw [v7 r (by omega), f3 r (by omega), f2 r (by omega)]
  have o : ∀ k, k ≠ 2 → k ≠ 3 → fnS σ k = σ k := fun k => fn_o
  have m : ∀ j, fnS σ 8 j = σ 8 j := fun j => by rw [o 8 (by decide) (by decide)]
  have nn := @fn_n σ
  refine ⟨⟨?_, ?_, ?_⟩, ⟨v3, v5.1, v6.1⟩, R, S⟩
  · unfold RS
    rw [s12, nn, show nO (fnS σ) = nO σ from m 4, show nS (fnS σ) = nS σ from m 7, show nHo (fnS σ) = nHo σ from m 10, show nT (fnS σ) = nT σ from m 13, show nRo (fnS σ) = nRo σ from m 15, show nLa (fnS σ) = nLa σ from m 16, o 0 (by decide) (by decide), o 1 (by decide) (by decide), o 4 (by decide) (by decide), o 5 (by decide) (by decide), o 6 (by decide) (by decide), o 13 (by decide) (by decide), o 14 (by decide) (by decide), o 15 (by decide) (by decide), o 16 (by decide) (by decide), o 17 (by decide) (by decide), o 18 (by decide) (by decide), o 19 (by decide) (by decide), o 20 (by decide) (by decide)]
    have bb : ∀ r, 405 ≤ r → r ≤ 429 → h4 r = h r := fun r r1 r2 => R r (by omega)
    rw [bb 405 (by decide) (by decide), bb 406 (by decide) (by decide), bb 408 (by decide) (by decide), bb 409 (by decide) (by decide), bb 411 (by decide) (by decide), bb 410 (by decide) (by decide), bb 413 (by decide) (by decide), bb 415 (by decide) (by decide), bb 420 (by decide) (by decide), bb 424 (by decide) (by decide), bb 427 (by decide) (by decide), bb 429 (by decide) (by decide), bb 417 (by decide) (by decide), bb 418 (by decide) (by decide), bb 419 (by decide) (by decide), bb 422 (by decide) (by decide), bb 423 (by decide) (by decide), bb 425 (by decide) (by decide), bb 426 (by decide) (by decide), bb 428 (by decide) (by decide)]
    rw [C 454 (by decide), C 455 (by decide)]
    obtain ⟨_, _, k3, k4, k5, k6, k7, k8⟩ := pk
    rw [← eb] at k3 k4 k5 k6 k7 k8
    refine ⟨p0, ⟨p1, p2⟩, fun j j1 j2 => ?_, ⟨k3, k4, k5, k6, k7, k8⟩, fun i i1 i2 => ?_, fun i i1 i2 => ?_, fun i i1 i2 => ?_, fun i i1 i2 => ?_⟩
    · have q3 := p3 j j1 (by omega)
      have q4 := p4 j j1 (by omega)
      have q5 := p5 j j1 (by omega)
      have q6 := p6 j j1 (by omega)
      rw [← eb] at q3 q4 q5 q6
      have nx := (u1.2.2 j j1 j2).1
      have g := fn_c (σ := σ) ⟨j1, j2⟩
      exact ⟨q3, by rw [nx.1, g.1], by rw [nx.2, g.2], q4, q5, q6⟩
    · have q := ps i i1 i2
      rw [← eb] at q
      exact q.2
    · have q := ph i i1 i2
      rw [← eb] at q
      exact q.2
    · have q := pt i i1 i2
      rw [← eb] at q
      exact q
    · have q := pr i i1 i2
      rw [← eb] at q
      exact q
  · refine ⟨by decide, fun i i1 i2 => ?_, fun i i1 i2 => ?_, fun j j1 j2 => ?_⟩
    · rw [show nS (fnS σ) = nS σ from m 7] at i2
      have q := v1 i i1 (by omega)
      rw [show (10 : Int) * 0 + i = i by omega, q.1, q.2, v7 444 (by decide), f3 444 (by decide), u2 i i1 i2]
      unfold stB
      refine ⟨?_, rfl, rfl⟩
      rw [if_pos rfl, if_pos ⟨i1, i2⟩, o 15 (by decide) (by decide)]
    · rw [show nHo (fnS σ) = nHo σ from m 10] at i2
      rw [show (8 : Int) * 0 + i = i by omega, v7 447 (by decide), u3 i i1 (by omega)]
      rfl
    · rw [nn] at j2
      have q := (u1.2.2 j j1 j2).2
      rw [show (60 : Int) * 0 + j = j by omega, C 448 (by decide), C 449 (by decide), C 450 (by decide), q.1, q.2.1, q.2.2]
      unfold stB
      refine ⟨?_, ?_, rfl⟩
      · rw [if_neg (by decide), if_pos rfl, o 5 (by decide) (by decide)]
      · rw [if_neg (by decide), if_neg (by decide), if_pos rfl, o 4 (by decide) (by decide)]
  · unfold RNm
    rw [s12, show nO (fnS σ) = nO σ from m 4, show nS (fnS σ) = nS σ from m 7, show nHo (fnS σ) = nHo σ from m 10, o 9 (by decide) (by decide), o 10 (by decide) (by decide), o 11 (by decide) (by decide), R 414 (by decide), R 416 (by decide), R 421 (by decide)]
    refine ⟨fun i i1 i2 => ?_, fun i i1 i2 => ?_, fun i i1 i2 => ?_⟩
    · have q := po i i1 i2
      rw [← eb] at q
      exact q
    · have q := (ps i i1 i2).1
      rw [← eb] at q
      exact q
    · have q := (ph i i1 i2).1
      rw [← eb] at q
      exact q
