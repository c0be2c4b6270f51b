theorem q_one1 {d : Nat} {h : zH} : m_B_oneIf (d + 1) 1 h = some (.inl 1, h) := q_oneIf
theorem q_one0 {d : Nat} {h : zH} : m_B_oneIf (d + 1) 0 h = some (.inl 0, h) := q_oneIf
def clF (σ : zH) (o c : Int) : Int := if σ 6 c = o then 1 else 0
theorem q_cellsOf4 {d : Nat} {σ st : zH} {a o : Int} {h : zH} (b : BC σ st a h) : ∀ (n : Nat) {c x : Int}, 0 ≤ c → c + n = nC σ → 0 ≤ x ∧ x ≤ c → zWp (l_B_cellsOf_4 (d + 1) o x c h) (fun v h' => v = .inl (x + isum (clF σ o) n c) ∧ h' = h) := by
  intro n
  have ha := b.2.1.a
  have hn := b.2.2.2.1.n
  induction n with
  | zero =>
    intro c x hc hh hx
    rw [el_B_cellsOf_4, b.1]
    exact zWp_po (by omega) (zWp_qi (q_cells b.2.1 b.2.2.2.1) (zWp_nt (by omega) (zWp_s ⟨by show _ = Sum.inl (x + 0); rw [Int.add_zero], rfl⟩)))
  | succ n ih =>
    intro c x hc hh hx
    have e6 : h (a + 6) c = σ 6 c := b.2.1.g 6 (by decide)
    rw [el_B_cellsOf_4, b.1, show isum (clF σ o) (n + 1) c = clF σ o c + isum (clF σ o) n (c + 1) from rfl]
    refine zWp_po (by omega) (zWp_qi (q_cells b.2.1 b.2.2.2.1) (zWp_it (by omega) ?_))
    rw [b.1, e6, w32_i (x := c + 1) (by omega)]
    refine zWp_po (by omega) (zWp_po (by omega) (zWp_it (by omega) ?_))
    by_cases e : σ 6 c = o
    · have ev : clF σ o c = 1 := by unfold clF; exact if_pos e
      refine zWp_it e (zWp_qi q_one1 ?_)
      rw [ev, w32_i (x := x + 1) (by omega), ← Int.add_assoc]
      exact ih (by omega) (by omega) (by omega)
    · have ev : clF σ o c = 0 := by unfold clF; exact if_neg e
      refine zWp_nt e (zWp_qi q_one0 ?_)
      rw [ev, w32_i (x := x + 0) (by omega), ← Int.add_assoc]
      exact ih (by omega) (by omega) (by omega)
def gW (σ : zH) (k i : Int) : Int := if k = 0 then 1 else σ 13 i
theorem q_stonesOf5 {d : Nat} {σ st : zH} {a o k : Int} {h : zH} (b : BC σ st a h) : ∀ (n : Nat) {i x : Int}, 0 ≤ i → i + n = nS σ → 0 ≤ x ∧ x ≤ 999 * i → zWp (l_B_stonesOf_5 (d + 2) o k x i h) (fun v h' => v = .inl (x + isum (stF σ st o (gW σ k)) n i) ∧ h' = h) := by
  intro n
  have ha := b.2.1.a
  have hS10 : nS σ ≤ 10 := b.2.2.2.1.2.1.2.2.2.1
  have eS : h (a + 8) 7 = nS σ := b.2.1.g 8 (by decide)
  induction n with
  | zero =>
    intro i x hi hh hx
    rw [el_B_stonesOf_5, b.1, eS]
    exact zWp_po (by omega) (zWp_po (by omega) (zWp_it (by decide) (zWp_nt (by omega) (zWp_s ⟨by show _ = Sum.inl (x + 0); rw [Int.add_zero], rfl⟩))))
  | succ n ih =>
    intro i x hi hh hx
    have e1 : h 68 i = st 1 i := b.2.2.1.pl (by omega)
    have e13 : h (a + 13) i = σ 13 i := b.2.1.g 13 (by decide)
    have w13 := b.2.2.2.1.2.2.2.2.1 i hi (by omega)
    rw [el_B_stonesOf_5, b.1, eS, e1, show isum (stF σ st o (gW σ k)) (n + 1) i = stF σ st o (gW σ k) i + isum (stF σ st o (gW σ k)) n (i + 1) from rfl]
    refine zWp_po (by omega) (zWp_po (by omega) (zWp_it (by decide) (zWp_it (by omega) (zWp_it (by omega) (zWp_po (by omega) (zWp_qi (q_ownerOf b.2.1 b.2.2.2.1) ?_))))))
    rw [b.1, e13, w32_i (x := i + 1) (by omega)]
    by_cases e : ownS σ st i = o
    · have ev : stF σ st o (gW σ k) i = gW σ k i := by unfold stF; exact if_pos e
      refine zWp_it e ?_
      rw [ev]
      by_cases q : k = 0
      · have ew : gW σ k i = 1 := by unfold gW; exact if_pos q
        refine zWp_it q ?_
        rw [ew, w32_i (x := x + 1) (by omega), ← Int.add_assoc]
        exact ih (by omega) (by omega) (by omega)
      · have ew : gW σ k i = σ 13 i := by unfold gW; exact if_neg q
        refine zWp_nt q (zWp_po (by omega) (zWp_po (by omega) (zWp_it (by omega) ?_)))
        rw [ew, w32_i (x := x + σ 13 i) (by omega), ← Int.add_assoc]
        exact ih (by omega) (by omega) (by omega)
    · have ev : stF σ st o (gW σ k) i = 0 := by unfold stF; exact if_neg e
      refine zWp_nt e ?_
      rw [ev, Int.zero_add]
      exact ih (by omega) (by omega) (by omega)
theorem q_housesOf4 {d : Nat} {σ st : zH} {a o : Int} {h : zH} (b : BC σ st a h) : ∀ (n : Nat) {i x : Int}, 0 ≤ i → i + n = nHo σ → 0 ≤ x ∧ x ≤ i → zWp (l_B_wholeHousesOf_4 (d + 2) o x i h) (fun v h' => v = .inl (x + isum (hoF σ st o) n i) ∧ h' = h) := by
  intro n
  have ha := b.2.1.a
  have hH8 : nHo σ ≤ 8 := b.2.2.2.1.2.1.2.2.2.2.2.1
  have eH : h (a + 8) 10 = nHo σ := b.2.1.g 8 (by decide)
  induction n with
  | zero =>
    intro i x hi hh hx
    rw [el_B_wholeHousesOf_4, b.1, eH]
    exact zWp_po (by omega) (zWp_po (by omega) (zWp_it (by decide) (zWp_nt (by omega) (zWp_s ⟨by show _ = Sum.inl (x + 0); rw [Int.add_zero], rfl⟩))))
  | succ n ih =>
    intro i x hi hh hx
    have e17 : h (a + 17) i = σ 17 i := b.2.1.g 17 (by decide)
    have wi := b.2.2.2.1.2.2.2.2.2.1 i hi (by omega)
    rw [el_B_wholeHousesOf_4, b.1, eH, e17, show isum (hoF σ st o) (n + 1) i = hoF σ st o i + isum (hoF σ st o) n (i + 1) from rfl]
    refine zWp_po (by omega) (zWp_po (by omega) (zWp_it (by decide) (zWp_it (by omega) (zWp_po (by omega) (zWp_po (by omega) (zWp_it (by omega) (zWp_po (by omega) (zWp_qi (q_ownerOf b.2.1 b.2.2.2.1) ?_))))))))
    rw [if_pos (show 0 ≤ σ 17 i ∧ σ 17 i < nC σ from ⟨wi.2.2.1, wi.2.2.2.1⟩), w32_i (x := i + 1) (by omega)]
    by_cases e : σ 6 (σ 17 i) = o
    · refine zWp_it e (zWp_qi (q_isRuin b.2.2.1 (by omega)) ?_)
      by_cases q : st 9 i = 1
      · have ev : hoF σ st o i = 0 := by unfold hoF; exact if_neg (fun z => z.2 q)
        rw [if_pos q]
        refine zWp_nt (by decide) (zWp_qi q_one0 ?_)
        rw [ev, w32_i (x := x + 0) (by omega), ← Int.add_assoc]
        exact ih (by omega) (by omega) (by omega)
      · have ev : hoF σ st o i = 1 := by unfold hoF; exact if_pos ⟨e, q⟩
        rw [if_neg q]
        refine zWp_it rfl (zWp_qi q_one1 ?_)
        rw [ev, w32_i (x := x + 1) (by omega), ← Int.add_assoc]
        exact ih (by omega) (by omega) (by omega)
    · have ev : hoF σ st o i = 0 := by unfold hoF; exact if_neg (fun z => e z.1)
      refine zWp_nt e (zWp_qi q_one0 ?_)
      rw [ev, w32_i (x := x + 0) (by omega), ← Int.add_assoc]
      exact ih (by omega) (by omega) (by omega)
def ownV (σ st : zH) (o k : Int) : Int := if k = 0 then isum (clF σ o) (nC σ).toNat 0 else if k = 1 then isum (stF σ st o (gW σ 0)) (nS σ).toNat 0 else if k = 2 then isum (stF σ st o (gW σ 1)) (nS σ).toNat 0 else if k = 3 then isum (hoF σ st o) (nHo σ).toNat 0 else if k = 4 then w32 (st 7 o) else -1000000000
theorem own_0 {σ st : zH} {o k : Int} (h : k = 0) : ownV σ st o k = isum (clF σ o) (nC σ).toNat 0 := by subst h; rfl
theorem own_1 {σ st : zH} {o k : Int} (h : k = 1) : ownV σ st o k = isum (stF σ st o (gW σ 0)) (nS σ).toNat 0 := by subst h; rfl
theorem own_2 {σ st : zH} {o k : Int} (h : k = 2) : ownV σ st o k = isum (stF σ st o (gW σ 1)) (nS σ).toNat 0 := by subst h; rfl
theorem own_3 {σ st : zH} {o k : Int} (h : k = 3) : ownV σ st o k = isum (hoF σ st o) (nHo σ).toNat 0 := by subst h; rfl
theorem own_4 {σ st : zH} {o k : Int} (h : k = 4) : ownV σ st o k = w32 (st 7 o) := by subst h; rfl
theorem own_n {σ st : zH} {o k : Int} (h : ¬ (0 ≤ k ∧ k ≤ 4)) : ownV σ st o k = -1000000000 := by
  unfold ownV; rw [if_neg (by omega), if_neg (by omega), if_neg (by omega), if_neg (by omega), if_neg (by omega)]
def vOwner (σ st : zH) (o k : Int) : Int := if 0 ≤ o ∧ o < nO σ then ownV σ st o k else -1000000000
theorem q_owner {d : Nat} {σ st : zH} {a o k : Int} {h : zH} (b : BC σ st a h) : zWp (m_B_owner (d + 4) o k h) (fun v h' => v = .inl (vOwner σ st o k) ∧ h' = h) := by
  have hn := b.2.2.2.1.n
  have hO6 : nO σ ≤ 6 := b.2.2.2.1.2.1.2.1
  have hS0 : 0 ≤ nS σ := b.2.2.2.1.2.1.2.2.1
  have hH0 : 0 ≤ nHo σ := b.2.2.2.1.2.1.2.2.2.2.1
  rw [em_B_owner]
  refine zWp_qi (q_hasOwner b) ?_
  unfold vOwner
  by_cases c0 : 0 ≤ o ∧ o < nO σ
  · rw [if_pos c0, if_pos c0]
    refine zWp_nt (by decide) ?_
    by_cases k0 : k = 0
    · rw [own_0 k0]
      obtain ⟨v, h1, e1, rfl, rfl⟩ := q_cellsOf4 (d := d + 1) (o := o) b (nC σ).toNat (Int.le_refl 0) (by omega) (show 0 ≤ (0 : Int) ∧ (0 : Int) ≤ 0 by omega)
      rw [em_B_cellsOf]
      exact zWp_it k0 (zWp_qi e1 (zWp_s ⟨by rw [Int.zero_add], rfl⟩))
    refine zWp_nt k0 ?_
    by_cases k1 : k = 1
    · rw [own_1 k1]
      obtain ⟨v, h1, e1, rfl, rfl⟩ := q_stonesOf5 (d := d) (o := o) (k := 0) b (nS σ).toNat (Int.le_refl 0) (by omega) (show 0 ≤ (0 : Int) ∧ (0 : Int) ≤ 999 * 0 by omega)
      rw [em_B_stonesOf]
      exact zWp_it k1 (zWp_qi e1 (zWp_s ⟨by rw [Int.zero_add], rfl⟩))
    refine zWp_nt k1 ?_
    by_cases k2 : k = 2
    · rw [own_2 k2]
      obtain ⟨v, h1, e1, rfl, rfl⟩ := q_stonesOf5 (d := d) (o := o) (k := 1) b (nS σ).toNat (Int.le_refl 0) (by omega) (show 0 ≤ (0 : Int) ∧ (0 : Int) ≤ 999 * 0 by omega)
      rw [em_B_stonesOf]
      exact zWp_it k2 (zWp_qi e1 (zWp_s ⟨by rw [Int.zero_add], rfl⟩))
    refine zWp_nt k2 ?_
    by_cases k3 : k = 3
    · rw [own_3 k3]
      obtain ⟨v, h1, e1, rfl, rfl⟩ := q_housesOf4 (d := d) (o := o) b (nHo σ).toNat (Int.le_refl 0) (by omega) (show 0 ≤ (0 : Int) ∧ (0 : Int) ≤ 0 by omega)
      rw [em_B_wholeHousesOf]
      exact zWp_it k3 (zWp_qi e1 (zWp_s ⟨by rw [Int.zero_add], rfl⟩))
    refine zWp_nt k3 ?_
    by_cases k4 : k = 4
    · rw [own_4 k4]
      have e7 : h 74 o = w32 (st 7 o) := b.2.2.1.2.2.2.2.1 o c0.1 (by omega)
      exact zWp_it k4 (zWp_it (by omega) (zWp_s ⟨by rw [e7], rfl⟩))
    · rw [own_n (by omega)]
      exact zWp_nt k4 (zWp_s ⟨rfl, rfl⟩)
  · rw [if_neg c0, if_neg c0]
    exact zWp_it rfl (zWp_s ⟨rfl, rfl⟩)
