/-! has: what is counted -/
def waF (st : zH) (c : Int) : Int := if 0 < st 5 c then 1 else 0
def lyF (st : zH) (i : Int) : Int := if st 1 i = -1 then 0 else 1
theorem q_wallsNow4 {d : Nat} {σ st : zH} {a : Int} {h : zH} (b : BC σ st a h) : ∀ (n : Nat) {c x : Int}, 0 ≤ c → c + n = nC σ → 0 ≤ x ∧ x ≤ c → zWp (l_B_wallsNow_4 (d + 1) x c h) (fun v h' => v = .inl (x + isum (waF st) n c) ∧ h' = h) := by
  intro n
  have ha := b.2.1.a
  have hn := b.2.2.2.1.n
  induction n with
  | zero =>
    intro c x hc hh hx
    rw [el_B_wallsNow_4, b.1]
    exact zWp_po (by omega) (zWp_qi (q_cells b.2.1 b.2.2.2.1) (zWp_nt (by omega) (zWp_s ⟨by show _ = Sum.inl (x + 0); rw [Int.add_zero], rfl⟩)))
  | succ n ih =>
    intro c x hc hh hx
    have e5 : h 72 c = st 5 c := (b.2.2.1.2.2.2.1 c hc (by omega)).1
    rw [el_B_wallsNow_4, b.1, show isum (waF st) (n + 1) c = waF st c + isum (waF st) n (c + 1) from rfl]
    refine zWp_po (by omega) (zWp_qi (q_cells b.2.1 b.2.2.2.1) (zWp_it (by omega) (zWp_it (by omega) ?_)))
    rw [e5, w32_i (x := c + 1) (by omega)]
    by_cases e : 0 < st 5 c
    · have ev : waF st c = 1 := by unfold waF; exact if_pos e
      refine zWp_it e (zWp_qi q_one1 ?_)
      rw [ev, w32_i (x := x + 1) (by omega), ← Int.add_assoc]
      exact ih (by omega) (by omega) (by omega)
    · have ev : waF st c = 0 := by unfold waF; exact if_neg e
      refine zWp_nt e (zWp_qi q_one0 ?_)
      rw [ev, w32_i (x := x + 0) (by omega), ← Int.add_assoc]
      exact ih (by omega) (by omega) (by omega)
theorem q_stonesNow4 {d : Nat} {σ st : zH} {a : Int} {h : zH} (b : BC σ st a h) : ∀ (n : Nat) {i x : Int}, 0 ≤ i → i + n = nS σ → 0 ≤ x ∧ x ≤ i → zWp (l_B_stonesNow_4 (d + 1) x i h) (fun v h' => v = .inl (x + isum (lyF st) n i) ∧ h' = h) := by
  intro n
  have ha := b.2.1.a
  have hS10 : nS σ ≤ 10 := b.2.2.2.1.2.1.2.2.2.1
  have eS : h (a + 8) 7 = nS σ := b.2.1.g 8 (by decide)
  induction n with
  | zero =>
    intro i x hi hh hx
    rw [el_B_stonesNow_4, b.1, eS]
    exact zWp_po (by omega) (zWp_po (by omega) (zWp_it (by decide) (zWp_nt (by omega) (zWp_s ⟨by show _ = Sum.inl (x + 0); rw [Int.add_zero], rfl⟩))))
  | succ n ih =>
    intro i x hi hh hx
    have e1 : h 68 i = st 1 i := b.2.2.1.pl (by omega)
    rw [el_B_stonesNow_4, b.1, eS, e1, w32_i (x := i + 1) (by omega), show isum (lyF st) (n + 1) i = lyF st i + isum (lyF st) n (i + 1) from rfl]
    refine zWp_po (by omega) (zWp_po (by omega) (zWp_it (by decide) (zWp_it (by omega) (zWp_it (by omega) ?_))))
    by_cases e : st 1 i = -1
    · have ev : lyF st i = 0 := by unfold lyF; exact if_pos e
      refine zWp_it e (zWp_qi q_one0 ?_)
      rw [ev, w32_i (x := x + 0) (by omega), ← Int.add_assoc]
      exact ih (by omega) (by omega) (by omega)
    · have ev : lyF st i = 1 := by unfold lyF; exact if_neg e
      refine zWp_nt e (zWp_qi q_one1 ?_)
      rw [ev, w32_i (x := x + 1) (by omega), ← Int.add_assoc]
      exact ih (by omega) (by omega) (by omega)
theorem q_R_has104 {d : Nat} {σ st : zH} {h : zH} (b : RC σ st h) : ∀ (n : Nat) {c x : Int}, 0 ≤ c → c + n = nC σ → 0 ≤ x ∧ x ≤ c → zWp (l_R_has_104 (d + 1) x c h) (fun v h' => v = .inl (x + isum (waF st) n c) ∧ h' = h) := by
  intro n
  have hn := b.2.2.1.n
  induction n with
  | zero =>
    intro c x hc hh hx
    rw [el_R_has_104]
    exact zWp_qi (q_R_cells b.2.2.1 b.1) (zWp_nt (by omega) (zWp_s ⟨by show _ = Sum.inl (x + 0); rw [Int.add_zero], rfl⟩))
  | succ n ih =>
    intro c x hc hh hx
    have e5 : h 448 c = st 5 c := by
      have := (b.2.1.2.2.2 c hc (by omega)).1
      rwa [show 60 * 0 + c = c by omega] at this
    rw [el_R_has_104, show isum (waF st) (n + 1) c = waF st c + isum (waF st) n (c + 1) from rfl]
    refine zWp_qi (q_R_cells b.2.2.1 b.1) (zWp_it (by omega) (zWp_it (by omega) ?_))
    rw [e5, w32_i (x := c + 1) (by omega)]
    by_cases e : 0 < st 5 c
    · have ev : waF st c = 1 := by unfold waF; exact if_pos e
      refine zWp_it e ?_
      rw [ev, w32_i (x := x + 1) (by omega), ← Int.add_assoc]
      exact ih (by omega) (by omega) (by omega)
    · have ev : waF st c = 0 := by unfold waF; exact if_neg e
      refine zWp_nt e ?_
      rw [ev, w32_i (x := x + 0) (by omega), ← Int.add_assoc]
      exact ih (by omega) (by omega) (by omega)
theorem q_R_has189 {d : Nat} {σ st : zH} {h : zH} (b : RC σ st h) : ∀ (n : Nat) {i x : Int}, 0 ≤ i → i + n = nS σ → 0 ≤ x ∧ x ≤ i → zWp (l_R_has_189 d x i h) (fun v h' => v = .inl (x + isum (lyF st) n i) ∧ h' = h) := by
  intro n
  have hb := b.1.b
  have hS10 : nS σ ≤ 10 := b.2.2.1.2.1.2.2.2.1
  have eS : h 415 (h 403 12) = nS σ := b.1.2.2.2.1.2.1
  induction n with
  | zero =>
    intro i x hi hh hx
    rw [el_R_has_189, eS]
    exact zWp_it (by omega) (zWp_nt (by omega) (zWp_s ⟨by show _ = Sum.inl (x + 0); rw [Int.add_zero], rfl⟩))
  | succ n ih =>
    intro i x hi hh hx
    have e1 : h 444 i = st 1 i := by
      have := (b.2.1.2.1 i hi (by omega)).1
      rwa [show 10 * 0 + i = i by omega] at this
    rw [el_R_has_189, eS, e1, w32_i (x := i + 1) (by omega), show isum (lyF st) (n + 1) i = lyF st i + isum (lyF st) n (i + 1) from rfl]
    refine zWp_it (by omega) (zWp_it (by omega) (zWp_it (by omega) ?_))
    by_cases e : st 1 i = -1
    · have ev : lyF st i = 0 := by unfold lyF; exact if_pos e
      refine zWp_it e ?_
      rw [ev, w32_i (x := x + 0) (by omega), ← Int.add_assoc]
      exact ih (by omega) (by omega) (by omega)
    · have ev : lyF st i = 1 := by unfold lyF; exact if_neg e
      refine zWp_nt e ?_
      rw [ev, w32_i (x := x + 1) (by omega), ← Int.add_assoc]
      exact ih (by omega) (by omega) (by omega)
theorem q_R_has230 {d : Nat} {σ st : zH} {h : zH} (b : RC σ st h) : ∀ (n : Nat) {c x : Int}, 0 ≤ c → c + n = nC σ → 0 ≤ x ∧ x ≤ c → zWp (l_R_has_230 (d + 1) x c h) (fun v h' => v = .inl (x + isum (st 8) n c) ∧ h' = h) := by
  intro n
  have hn := b.2.2.1.n
  induction n with
  | zero =>
    intro c x hc hh hx
    rw [el_R_has_230]
    exact zWp_qi (q_R_cells b.2.2.1 b.1) (zWp_nt (by omega) (zWp_s ⟨by show _ = Sum.inl (x + 0); rw [Int.add_zero], rfl⟩))
  | succ n ih =>
    intro c x hc hh hx
    have e8 : h 450 c = st 8 c := by
      have := (b.2.1.2.2.2 c hc (by omega)).2.2
      rwa [show 60 * 0 + c = c by omega] at this
    have b8 : 0 ≤ st 8 c ∧ st 8 c ≤ 1 := by
      rcases (b.2.2.2.2.1 c hc (by omega)).2.2.2.2.1 with q | q <;> omega
    rw [el_R_has_230, show isum (st 8) (n + 1) c = st 8 c + isum (st 8) n (c + 1) from rfl]
    refine zWp_qi (q_R_cells b.2.2.1 b.1) (zWp_it (by omega) (zWp_it (by omega) ?_))
    rw [e8, w32_i (x := c + 1) (by omega), w32_i (x := x + st 8 c) (by omega), ← Int.add_assoc]
    exact ih (by omega) (by omega) (by omega)
