/-! what begins behind a slope, in the reference: stones, houses -/
theorem q_R_bg139 {d : Nat} {σ : zH} {Q : zV → zH → Prop} (hS : 0 ≤ nS σ ∧ nS σ ≤ 10) : ∀ (f : Nat) (k : Int) (h : zH), k + f = nS σ → 0 ≤ k → (h 403 12 = 0 ∨ h 403 12 = 1) → h 415 (h 403 12) = nS σ → (∀ i, 0 ≤ i → i < nS σ → h 419 (10 * h 403 12 + i) = σ 15 i) → (∀ i, 0 ≤ i → i < k → h 444 i = σ 15 i) → (∀ h', (∀ i, 0 ≤ i → i < nS σ → h' 444 i = σ 15 i) → (∀ r, r ≠ 444 → h' r = h r) → (∀ i, ¬ (0 ≤ i ∧ i < 10) → h' 444 i = h 444 i) → zWp (l_R_begins_180 d 0 h') Q) → zWp (l_R_begins_139 d k h) Q := by
  intro f
  induction f with
  | zero =>
    intro k h hk h0 hb e5 e9 g K
    rw [el_R_begins_139, e5]
    exact zWp_it (by omega) (zWp_nt (by omega) (K h (fun i i1 i2 => g i i1 (by omega)) (fun _ _ => rfl) (fun _ _ => rfl)))
  | succ f ih =>
    intro k h hk h0 hb e5 e9 g K
    rw [el_R_begins_139, e5, w32_i (x := 10 * h 403 12) (by omega), w32_i (x := 10 * h 403 12 + k) (by omega), e9 k h0 (by omega)]
    refine zWp_it (by omega) (zWp_it (by omega) (zWp_it (by omega) (zWp_it (by omega) (zWp_lt fun h1 e1 => ?_))))
    have r1 : ∀ r, r ≠ 444 → h1 r = h r := fun r hr => by rw [e1, zset_n hr]
    rw [w32_i (x := k + 1) (by omega)]
    refine ih (k + 1) h1 (by omega) (by omega) (by rw [r1 403 (by decide)]; exact hb) (by rw [r1 415 (by decide), r1 403 (by decide)]; exact e5) (by rw [r1 419 (by decide), r1 403 (by decide)]; exact e9) (fun i i1 i2 => ?_) (fun h' q1 q2 q3 => K h' q1 (fun r hr => (q2 r hr).trans (r1 r hr)) (fun i hi => by rw [q3 i hi, e1, zset_j (by omega)]))
    rw [e1, zset_g]
    by_cases z : i = k
    · rw [if_pos z, z]
    · rw [if_neg z]; exact g i i1 (by omega)
theorem q_R_bg180 {d : Nat} {Q : zV → zH → Prop} : ∀ (f : Nat) (k : Int) (h : zH), k + f = 8 → 0 ≤ k → (∀ i, 0 ≤ i → i < k → h 447 i = 0) → (∀ h', (∀ i, 0 ≤ i → i < 8 → h' 447 i = 0) → (∀ r, r ≠ 447 → h' r = h r) → (∀ i, ¬ (0 ≤ i ∧ i < 8) → h' 447 i = h 447 i) → zWp (zqv (m_R_cleans d 0 h') fun h1 => some (.inl 0, h1)) Q) → zWp (l_R_begins_180 d k h) Q := by
  intro f
  induction f with
  | zero =>
    intro k h hk h0 g K
    rw [el_R_begins_180]
    exact zWp_nt (by omega) (K h (fun i i1 i2 => g i i1 (by omega)) (fun _ _ => rfl) (fun _ _ => rfl))
  | succ f ih =>
    intro k h hk h0 g K
    rw [el_R_begins_180]
    refine zWp_it (by omega) (zWp_it (by omega) (zWp_lt fun h1 e1 => ?_))
    rw [w32_i (x := k + 1) (by omega)]
    refine ih (k + 1) h1 (by omega) (by omega) (fun i i1 i2 => ?_) (fun h' q1 q2 q3 => K h' q1 (fun r hr => by rw [q2 r hr, e1, zset_n hr]) (fun i hi => by rw [q3 i hi, e1, zset_j (by omega)]))
    rw [e1, zset_g]
    by_cases z : i = k
    · rw [if_pos z]
    · rw [if_neg z]; exact g i i1 (by omega)
