/-! the reference clears the bank that it reads into -/
theorem q_R_cl93 {d : Nat} {β : Int} (hb : 0 ≤ β ∧ β ≤ 1) : ∀ (n : Nat) {x : Int} {h : zH}, h 403 44 = β → 60 * β ≤ x → x + n = 60 * β + 60 → zWp (l_R_clears_93 d x h) (fun _ h' => (∀ i, x ≤ i → i < 60 * β + 60 → h' 408 i = 0 ∧ h' 409 i = 0 ∧ h' 410 i = -1 ∧ h' 411 i = 0) ∧ (∀ r i, ¬ (x ≤ i ∧ i < 60 * β + 60) → h' r i = h r i) ∧ ∀ r, ¬ (408 ≤ r ∧ r ≤ 411) → h' r = h r) := by
  intro n
  induction n with
  | zero =>
    intro x h e hx hn
    have hn' : x + 0 = 60 * β + 60 := hn
    rw [el_R_clears_93, e, ixw (k := 60) (v := β) (i := 60) (by omega) (by omega)]
    exact zWp_nt (by omega) (zWp_s ⟨fun i i0 i1 => by omega, fun _ _ _ => rfl, fun _ _ => rfl⟩)
  | succ n ih =>
    intro x h e hx hn
    rw [el_R_clears_93, e, ixw (k := 60) (v := β) (i := 60) (by omega) (by omega), w32_i (x := x + 1) (by omega)]
    refine zWp_it (by omega) (zWp_it (by omega) (zWp_lt fun h1 e1 => zWp_it (by omega) (zWp_lt fun h2 e2 => zWp_it (by omega) (zWp_lt fun h3 e3 => zWp_it (by omega) (zWp_lt fun h4 e4 => ?_)))))
    have e44 : h4 403 44 = β := by rw [e4, zset_o (by decide), e3, zset_o (by decide), e2, zset_o (by decide), e1, zset_o (by decide)]; exact e
    have v4 : h4 408 x = 0 ∧ h4 409 x = 0 ∧ h4 410 x = -1 ∧ h4 411 x = 0 := by
      refine ⟨?_, ?_, ?_, ?_⟩
      · rw [e4, zset_o (by decide), e3, zset_o (by decide), e2, zset_o (by decide), e1, zset_e]
      · rw [e4, zset_o (by decide), e3, zset_o (by decide), e2, zset_e]
      · rw [e4, zset_o (by decide), e3, zset_e]
      · rw [e4, zset_e]
    have o4 : ∀ r i, i ≠ x → h4 r i = h r i := fun r i hi => by rw [e4, zset_2 (fun z => hi z.2), e3, zset_2 (fun z => hi z.2), e2, zset_2 (fun z => hi z.2), e1, zset_2 (fun z => hi z.2)]
    have r4 : ∀ r, ¬ (408 ≤ r ∧ r ≤ 411) → h4 r = h r := fun r hr => by rw [e4, zset_n (by omega), e3, zset_n (by omega), e2, zset_n (by omega), e1, zset_n (by omega)]
    refine zWp_m (ih e44 (by omega) (by omega)) (fun _ h' u => ⟨fun i i0 i1 => ?_, fun r i hi => ?_, fun r hr => (u.2.2 r hr).trans (r4 r hr)⟩)
    · by_cases q : i = x
      · rw [q, u.2.1 408 x (by omega), u.2.1 409 x (by omega), u.2.1 410 x (by omega), u.2.1 411 x (by omega)]
        exact v4
      · exact u.1 i (by omega) i1
    · rw [u.2.1 r i (by omega)]
      exact o4 r i (by omega)
theorem q_R_clears {d : Nat} {σ h : zH} (hb : h 403 44 = 0 ∨ h 403 44 = 1) (z : Z0 σ) : zWp (m_R_clears (d + 1) h) (fun _ h' => PR0 σ h' ∧ frBw h h' ∧ h' 403 43 = 0 ∧ ∀ q, q ≠ 43 → h' 403 q = h 403 q) := by
  have b : 0 ≤ h 403 44 ∧ h 403 44 < ((2 : Nat) : Int) := by omega
  have one : ∀ {r : Int} {g : zH}, 405 ≤ r → r ≤ 434 → rsz r = 1 → g 403 44 = h 403 44 → frBw g (zset g r (h 403 44) 0) ∧ (zset g r (h 403 44) 0) 403 = g 403 := fun {r g} h1 h2 h3 h4 => ⟨frBw.st ⟨h1, h2⟩ (by rw [h3, h4]; omega), by rw [zset_n (by omega)]⟩
  rw [em_R_clears]
  refine zWp_it b (zWp_lt fun h1 e1 => ?_)
  have t1 : h1 403 = h 403 := by rw [e1, zset_n (by decide)]
  rw [t1]
  refine zWp_it b (zWp_lt fun h2 e2 => ?_)
  have t2 : h2 403 = h 403 := by rw [e2, zset_n (by decide), t1]
  rw [t2]
  refine zWp_it b (zWp_lt fun h3 e3 => ?_)
  have t3 : h3 403 = h 403 := by rw [e3, zset_n (by decide), t2]
  rw [t3]
  refine zWp_it b (zWp_lt fun h4 e4 => ?_)
  have t4 : h4 403 = h 403 := by rw [e4, zset_n (by decide), t3]
  rw [t4]
  refine zWp_it b (zWp_lt fun h5 e5 => ?_)
  have t5 : h5 403 = h 403 := by rw [e5, zset_n (by decide), t4]
  rw [t5]
  refine zWp_it b (zWp_lt fun h6 e6 => ?_)
  have t6 : h6 403 = h 403 := by rw [e6, zset_n (by decide), t5]
  rw [t6]
  refine zWp_it b (zWp_lt fun h7 e7 => ?_)
  have t7 : h7 403 = h 403 := by rw [e7, zset_n (by decide), t6]
  rw [t7]
  refine zWp_it b (zWp_lt fun h8 e8 => ?_)
  have t8 : h8 403 = h 403 := by rw [e8, zset_n (by decide), t7]
  refine zWp_lt fun h9 e9 => ?_
  have t9 : h9 403 44 = h 403 44 := by rw [e9, zset_j (by decide), t8]
  have q8 : frBw h h8 := by
    have a1 := one (r := 407) (g := h) (by decide) (by decide) (by decide) rfl
    have a2 := one (r := 412) (g := h1) (by decide) (by decide) (by decide) (by rw [t1])
    have a3 := one (r := 413) (g := h2) (by decide) (by decide) (by decide) (by rw [t2])
    have a4 := one (r := 415) (g := h3) (by decide) (by decide) (by decide) (by rw [t3])
    have a5 := one (r := 420) (g := h4) (by decide) (by decide) (by decide) (by rw [t4])
    have a6 := one (r := 424) (g := h5) (by decide) (by decide) (by decide) (by rw [t5])
    have a7 := one (r := 427) (g := h6) (by decide) (by decide) (by decide) (by rw [t6])
    have a8 := one (r := 429) (g := h7) (by decide) (by decide) (by decide) (by rw [t7])
    rw [← e1] at a1
    rw [← e2] at a2
    rw [← e3] at a3
    rw [← e4] at a4
    rw [← e5] at a5
    rw [← e6] at a6
    rw [← e7] at a7
    rw [← e8] at a8
    exact (((a1.1.t a2.1).t (a3.1.t a4.1)).t ((a5.1.t a6.1).t (a7.1.t a8.1)))
  have q9 : frBw h8 h9 := by
    rw [e9]
    exact ⟨fun r hr => by rw [zset_n (by omega)], fun q hq => by rw [zset_j (by omega)], fun r i r1 r2 _ => by rw [zset_o (by omega)]⟩
  rw [t9, w32_i (x := 60 * h 403 44) (by omega)]
  refine zWp_m (q_R_cl93 (β := h 403 44) (by omega) 60 t9 (Int.le_refl _) rfl) (fun _ h' u => ?_)
  obtain ⟨u1, u2, u3⟩ := u
  have k403 : h' 403 = h9 403 := u3 403 (by decide)
  have e44 : h' 403 44 = h 403 44 := by rw [k403]; exact t9
  have cz : ∀ r, r = 407 ∨ r = 412 ∨ r = 413 ∨ r = 415 ∨ r = 420 ∨ r = 424 ∨ r = 427 ∨ r = 429 → h' r (h 403 44) = 0 := by
    intro r hr
    rw [u3 r (by omega), e9, zset_o (by omega), e8, zset_x, e7, zset_x, e6, zset_x, e5, zset_x, e4, zset_x, e3, zset_x, e2, zset_x, e1, zset_x]
    rcases hr with q | q | q | q | q | q | q | q <;> (rw [q]; simp)
  have c8 := z.2.1
  have n4 : nO σ = 0 := c8 4 (by decide) (by decide)
  have n7 : nS σ = 0 := c8 7 (by decide) (by decide)
  have n10 : nHo σ = 0 := c8 10 (by decide) (by decide)
  have n13 : nT σ = 0 := c8 13 (by decide) (by decide)
  have n15 : nRo σ = 0 := c8 15 (by decide) (by decide)
  have n16 : nLa σ = 0 := c8 16 (by decide) (by decide)
  refine ⟨⟨by rw [e44]; exact hb, ⟨?_, ?_, ?_, ?_⟩, ?_, ?_, ?_, ?_, ?_, ?_⟩, ?_, by rw [k403, e9, zset_e], fun q hq => by rw [k403, e9, zset_j hq, t8]⟩
  · intro c c0 c1; rw [e44, (u1 _ (by omega) (by omega)).1, (z.2.2 c c0 c1).1]
  · intro c c0 c1; rw [e44, (u1 _ (by omega) (by omega)).2.1, (z.2.2 c c0 c1).2.1]
  · intro c c0 c1; rw [e44, (u1 _ (by omega) (by omega)).2.2.2, (z.2.2 c c0 c1).2.2.1]
  · intro c c0 c1; rw [e44, (u1 _ (by omega) (by omega)).2.2.1, (z.2.2 c c0 c1).2.2.2.1]
  · unfold gK
    rw [e44, n4, n7, n10, n13, n15, n16, c8 1 (by decide) (by decide), c8 12 (by decide) (by decide)]
    exact ⟨cz _ (by decide), cz _ (by decide), cz _ (by decide), cz _ (by decide), cz _ (by decide), cz _ (by decide), cz _ (by decide), cz _ (by decide)⟩
  · rw [n4]; intro i i0 i1; omega
  · rw [n7]; intro i i0 i1; omega
  · rw [n10]; intro i i0 i1; omega
  · rw [n13]; intro i i0 i1; omega
  · rw [n15]; intro i i0 i1; omega
  · refine (q8.t q9).t ⟨fun r hr => u3 r (by omega), fun q _ => by rw [k403], fun r i r1 r2 x => ?_⟩
    by_cases q : 408 ≤ r ∧ r ≤ 411
    · refine u2 r i (fun y => x ?_)
      have hz : rsz r = 60 := by unfold rsz; rw [if_pos (by omega)]
      rw [hz, t9]
      exact y
    · rw [u3 r q]
