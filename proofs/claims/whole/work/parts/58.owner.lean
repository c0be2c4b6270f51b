def rcF (σ st : zH) (o k c : Int) : Int := if k = 0 then clF σ o c else if k = 1 then ceF σ st o (gW σ 0) c else if k = 2 then ceF σ st o (gW σ 1) c else hcF σ st o c
theorem rc_0 {σ st : zH} {o k c : Int} (h : k = 0) : rcF σ st o k c = clF σ o c := by subst h; rfl
theorem rc_1 {σ st : zH} {o k c : Int} (h : k = 1) : rcF σ st o k c = ceF σ st o (gW σ 0) c := by subst h; rfl
theorem rc_2 {σ st : zH} {o k c : Int} (h : k = 2) : rcF σ st o k c = ceF σ st o (gW σ 1) c := by subst h; rfl
theorem rc_3 {σ st : zH} {o k c : Int} (h0 : ¬ k = 0) (h1 : ¬ k = 1) (h2 : ¬ k = 2) : rcF σ st o k c = hcF σ st o c := by unfold rcF; rw [if_neg h0, if_neg h1, if_neg h2]
theorem rc_n {σ st : zH} {o k c : Int} (h : ¬ σ 6 c = o) : rcF σ st o k c = 0 := by
  have a1 : clF σ o c = 0 := by unfold clF; exact if_neg h
  have a2 : ∀ g, ceF σ st o g c = 0 := fun g => by unfold ceF; exact if_neg (fun z => h z.1)
  have a3 : hcF σ st o c = 0 := by unfold hcF; exact if_neg (fun z => h z.1)
  unfold rcF
  rw [a1, a2, a2, a3]
  repeat' split
  all_goals rfl
theorem rc_own {σ st : zH} (w : WS σ) (wt : WT σ st) {o k : Int} (ho : 0 ≤ o) (hk : 0 ≤ k ∧ k ≤ 3) : isum (rcF σ st o k) (nC σ).toNat 0 = ownV σ st o k := by
  by_cases k0 : k = 0
  · rw [own_0 k0]; exact isum_cg _ _ (fun c _ _ => rc_0 k0)
  by_cases k1 : k = 1
  · rw [own_1 k1, ← ce_st w wt ho]; exact isum_cg _ _ (fun c _ _ => rc_1 k1)
  by_cases k2 : k = 2
  · rw [own_2 k2, ← ce_st w wt ho]; exact isum_cg _ _ (fun c _ _ => rc_2 k2)
  · rw [own_3 (show k = 3 by omega), ← hc_ho w]; exact isum_cg _ _ (fun c _ _ => rc_3 k0 k1 k2)
theorem q_R_owner39 {d : Nat} {σ st : zH} {o k : Int} {h : zH} (b : RC σ st h) : ∀ (n : Nat) {c x : Int}, 0 ≤ c → c + n = nC σ → 0 ≤ x ∧ x ≤ 999 * c → zWp (l_R_owner_39 (d + 2) o k x c h) (fun v h' => v = .inl (x + isum (rcF σ st o k) n c) ∧ h' = h) := by
  intro n
  have w := b.2.2.1
  have hn := w.n
  have hb := b.1.b
  have hS0 : 0 ≤ nS σ := w.2.1.2.2.1
  have hS10 : nS σ ≤ 10 := w.2.1.2.2.2.1
  induction n with
  | zero =>
    intro c x hc hh hx
    rw [el_R_owner_39]
    exact zWp_qi (q_R_cells w b.1) (zWp_nt (by omega) (zWp_s ⟨by show _ = Sum.inl (x + 0); rw [Int.add_zero], rfl⟩))
  | succ n ih =>
    intro c x hc hh hx
    have hcc : 0 ≤ c ∧ c < nC σ := by omega
    rw [el_R_owner_39, show isum (rcF σ st o k) (n + 1) c = rcF σ st o k c + isum (rcF σ st o k) n (c + 1) from rfl, w32_i (x := c + 1) (by omega), w32_i (x := x + 0) (by omega), w32_i (x := x + 1) (by omega)]
    refine zWp_qi (q_R_cells w b.1) (zWp_it (by omega) (zWp_qi (q_R_ownerOf w b.1 hcc) ?_))
    by_cases e : σ 6 c = o
    case neg =>
      refine zWp_nt e ?_
      rw [rc_n e, Int.zero_add]
      exact ih (by omega) (by omega) (by omega)
    refine zWp_it e (zWp_qi (q_R_stoneAt w b.1 b.2.1) ?_)
    by_cases k0 : k = 0
    · have ev : clF σ o c = 1 := by unfold clF; exact if_pos e
      refine zWp_it k0 ?_
      rw [rc_0 k0, ev, ← Int.add_assoc]
      exact ih (by omega) (by omega) (by omega)
    refine zWp_nt k0 ?_
    by_cases k1 : k = 1
    · refine zWp_it k1 ?_
      rw [rc_1 k1]
      by_cases q : sAt σ st c = -1
      · have ev : ceF σ st o (gW σ 0) c = 0 := by unfold ceF; exact if_neg (fun z => z.2 q)
        refine zWp_it q ?_
        rw [ev, ← Int.add_assoc]
        exact ih (by omega) (by omega) (by omega)
      · have ev : ceF σ st o (gW σ 0) c = 1 := by unfold ceF; exact if_pos ⟨e, q⟩
        refine zWp_nt q ?_
        rw [ev, ← Int.add_assoc]
        exact ih (by omega) (by omega) (by omega)
    refine zWp_nt k1 ?_
    by_cases k2 : k = 2
    · refine zWp_it k2 ?_
      rw [rc_2 k2]
      by_cases q : sAt σ st c = -1
      · have ev : ceF σ st o (gW σ 1) c = 0 := by unfold ceF; exact if_neg (fun z => z.2 q)
        refine zWp_it q ?_
        rw [ev, ← Int.add_assoc]
        exact ih (by omega) (by omega) (by omega)
      · have ev : ceF σ st o (gW σ 1) c = σ 13 (sAt σ st c) := by unfold ceF; exact if_pos ⟨e, q⟩
        obtain ⟨s1, s2, s3⟩ := sAt_in hS0 q
        have w13 := w.2.2.2.2.1 _ s1 s2
        have e13 := (b.1.2.2.2.2.1 _ s1 s2).1
        have ix : w32 (w32 (10 * h 403 12) + sAt σ st c) = 10 * h 403 12 + sAt σ st c := ixw (by omega) (by omega)
        rw [ix, e13]
        refine zWp_nt q (zWp_it (by omega) ?_)
        rw [ev, w32_i (x := x + σ 13 (sAt σ st c)) (by omega), ← Int.add_assoc]
        exact ih (by omega) (by omega) (by omega)
    refine zWp_nt k2 (zWp_qi (q_R_wholeAt w b.1 b.2.1 hcc) ?_)
    rw [rc_3 k0 k1 k2]
    by_cases q : σ 7 c ≠ -1 ∧ st 9 (σ 7 c) ≠ 1
    · have ev : hcF σ st o c = 1 := by unfold hcF; exact if_pos ⟨e, q⟩
      rw [if_pos q, ev, ← Int.add_assoc]
      exact zWp_nt q.1 (ih (by omega) (by omega) (by omega))
    · have ev : hcF σ st o c = 0 := by unfold hcF; exact if_neg (fun z => q z.2)
      rw [if_neg q, ev, ← Int.add_assoc]
      exact zWp_it rfl (ih (by omega) (by omega) (by omega))
/-- the purses are those of the state -/
def RPu (σ st h : zH) : Prop := ∀ o, 0 ≤ o → o < nO σ → w32 (h 451 o) = w32 (st 7 o)
theorem q_R_owner {d : Nat} {σ st : zH} {o k : Int} {h : zH} (b : RC σ st h) (p : RPu σ st h) : zWp (m_R_owner (d + 3) o k h) (fun v h' => v = .inl (vOwner σ st o k) ∧ h' = h) := by
  have hn := b.2.2.1.n
  have hO6 : nO σ ≤ 6 := b.2.2.1.2.1.2.1
  rw [em_R_owner]
  refine zWp_qi (q_R_isOwner b.1) ?_
  unfold vOwner
  by_cases c0 : 0 ≤ o ∧ o < nO σ
  · rw [if_pos c0, if_pos c0]
    refine zWp_nt (by decide) (zWp_qi q_R_is ?_)
    by_cases c1 : 0 ≤ k ∧ k ≤ 4
    · rw [if_pos c1, p o c0.1 c0.2]
      refine zWp_nt (by decide) ?_
      by_cases k4 : k = 4
      · rw [own_4 k4]
        exact zWp_it k4 (zWp_it (by omega) (zWp_s ⟨rfl, rfl⟩))
      · rw [← rc_own b.2.2.1 b.2.2.2 c0.1 (show 0 ≤ k ∧ k ≤ 3 by omega)]
        refine zWp_nt k4 (zWp_m (q_R_owner39 (d := d) (o := o) (k := k) b (nC σ).toNat (Int.le_refl 0) (by omega) (show 0 ≤ (0 : Int) ∧ (0 : Int) ≤ 999 * 0 by omega)) ?_)
        rintro v h' ⟨u1, u2⟩
        rw [Int.zero_add] at u1
        exact ⟨u1, u2⟩
    · rw [if_neg c1, own_n c1]
      exact zWp_it rfl (zWp_s ⟨rfl, rfl⟩)
  · rw [if_neg c0, if_neg c0]
    exact zWp_it rfl (zWp_s ⟨rfl, rfl⟩)
