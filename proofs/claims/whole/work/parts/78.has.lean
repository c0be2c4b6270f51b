/-! has: both alike -/
theorem pl_sum {N : Nat} : ∀ (n i : Nat), ((pl n (N / 2 ^ i) : Nat) : Int) = isum (fun j => ((N / 2 ^ j.toNat % 2 : Nat) : Int)) n i
  | 0, i => rfl
  | n + 1, i => by
    show ((N / 2 ^ i % 2 + pl n (N / 2 ^ i / 2) : Nat) : Int) = ((N / 2 ^ ((i : Int)).toNat % 2 : Nat) : Int) + isum _ n ((i : Int) + 1)
    have ih := pl_sum (N := N) n (i + 1)
    rw [show N / 2 ^ i / 2 = N / 2 ^ (i + 1) by rw [Nat.pow_succ, Nat.div_div_eq_div_mul], Int.natCast_add, ih, Int.toNat_natCast]
    rfl
theorem nets_n {σ st : zH} {s : Int} {h : zH} (t : CT σ st s h) (wt : WT σ st) (w : WS σ) : bcL (h s 7) = isum (st 8) (nC σ).toNat 0 := by
  have hn := w.n
  obtain ⟨N, e, hN, hb⟩ := t.2.2.2.2.2.1
  have p := pl_sum (N := N) 64 0
  rw [show N / 2 ^ 0 = N by rw [Nat.pow_zero, Nat.div_one]] at p
  rw [e, bcL_ok hN, p, show (64 : Nat) = (nC σ).toNat + (64 - (nC σ).toNat) by omega, isum_sp, isum_z (64 - (nC σ).toNat) _ (fun j j1 j2 => ?_), Int.add_zero]
  · refine isum_cg _ _ (fun j j1 j2 => ?_)
    have hk := zBt_at hb (i := j.toNat) (by omega)
    have j1' : 0 ≤ j := j1
    rw [show ((j.toNat : Nat) : Int) = j by omega] at hk
    show ((N / 2 ^ j.toNat % 2 : Nat) : Int) = st 8 j
    rw [hk]
    have h8 := (wt.2.1 j j1' (by omega)).2.2.2.2.1
    by_cases c : st 8 j = 1
    · rw [if_pos c, c]; rfl
    · rw [if_neg c]
      rcases h8 with q | q
      · rw [q]; rfl
      · exact absurd q c
  · have hk := hb j.toNat
    rw [Nat.testBit_eq_decide_div_mod_eq, decide_eq_false (p := (j.toNat < (nC σ).toNat ∧ _)) (fun z => by have := z.1; omega)] at hk
    have := of_decide_eq_false hk
    show ((N / 2 ^ j.toNat % 2 : Nat) : Int) = 0
    omega
def vHas (σ st : zH) (n m : Nat) (g x : Int) : Int := if x = 0 then nO σ else if x = 1 then nS σ else if x = 2 then nHo σ else if x = 3 then isum (waF st) (nC σ).toNat 0 else if x = 4 then nT σ else if x = 5 then nRo σ else if x = 6 then nLa σ else if x = 7 then σ 0 0 else if x = 8 then σ 0 1 else if x = 9 then isum (lyF st) (nS σ).toNat 0 else if x = 10 then isum (st 8) (nC σ).toNat 0 else if x = 11 then (n : Int) else if x = 12 then (m : Int) else if x = 13 then g else -1
theorem a_has {d : Nat} {x : Int} {h : zH} (i : INV h) : Alike (m_B_has (d + 3) x h) (m_R_has (d + 3) x) := by
  obtain ⟨σ, st, D, K, Λ, G, c, r, wk, wg⟩ := i
  have b := c.1
  have w := b.2.2.2.1
  have wt := b.2.2.2.2
  have ha := b.2.1.a
  have hn := w.n
  have hS0 : 0 ≤ nS σ := w.2.1.2.2.1
  have e4 : h (h 0 7 + 8) 4 = nO σ := b.2.1.g 8 (by decide)
  have e7 : h (h 0 7 + 8) 7 = nS σ := b.2.1.g 8 (by decide)
  have e10 : h (h 0 7 + 8) 10 = nHo σ := b.2.1.g 8 (by decide)
  have e13 : h (h 0 7 + 8) 13 = nT σ := b.2.1.g 8 (by decide)
  have e15 : h (h 0 7 + 8) 15 = nRo σ := b.2.1.g 8 (by decide)
  have e16 : h (h 0 7 + 8) 16 = nLa σ := b.2.1.g 8 (by decide)
  have e0 : h (h 0 7) 0 = σ 0 0 := b.2.1.z
  have e1 : h (h 0 7) 1 = σ 0 1 := b.2.1.z
  have hg := wg.2.2.2
  refine alike_e c r wk wg (V := .inl (vHas σ st K.length D.length (G 0 2) x)) ?_ (fun h' r' => ?_)
  · rw [em_B_has, e4, e7, e10, e13, e15, e16, e0, e1, c.2.2.2.2.2.1.1.1, c.2.2.2.2.1.1.1, c.2.2.1.2.2.2.1]
    unfold vHas
    refine zWp_if (fun z => zWp_po (by omega) (zWp_po (by omega) (zWp_it (by decide) (zWp_s ⟨by rw [if_pos z], rfl⟩)))) (fun z0 => ?_)
    rw [if_neg z0]
    refine zWp_if (fun z => zWp_po (by omega) (zWp_po (by omega) (zWp_it (by decide) (zWp_s ⟨by rw [if_pos z], rfl⟩)))) (fun z1 => ?_)
    rw [if_neg z1]
    refine zWp_if (fun z => zWp_po (by omega) (zWp_po (by omega) (zWp_it (by decide) (zWp_s ⟨by rw [if_pos z], rfl⟩)))) (fun z2 => ?_)
    rw [if_neg z2]
    refine zWp_if (fun z => zWp_bi (P := fun a h1 => a = isum (waF st) (nC σ).toNat 0 ∧ h1 = h) (by rw [em_B_wallsNow]; exact zWp_m (q_wallsNow4 (d := d) b (nC σ).toNat (c := 0) (x := 0) (by omega) (by omega) (by omega)) (fun v h1 u => ⟨_, u.1, Int.zero_add _, u.2⟩)) (fun a h1 u => zWp_s ⟨by rw [if_pos z, u.1], u.2⟩)) (fun z3 => ?_)
    rw [if_neg z3]
    refine zWp_if (fun z => zWp_po (by omega) (zWp_po (by omega) (zWp_it (by decide) (zWp_s ⟨by rw [if_pos z], rfl⟩)))) (fun z4 => ?_)
    rw [if_neg z4]
    refine zWp_if (fun z => zWp_po (by omega) (zWp_po (by omega) (zWp_it (by decide) (zWp_s ⟨by rw [if_pos z], rfl⟩)))) (fun z5 => ?_)
    rw [if_neg z5]
    refine zWp_if (fun z => zWp_po (by omega) (zWp_po (by omega) (zWp_it (by decide) (zWp_s ⟨by rw [if_pos z], rfl⟩)))) (fun z6 => ?_)
    rw [if_neg z6]
    refine zWp_if (fun z => zWp_po (by omega) (zWp_s ⟨by rw [if_pos z], rfl⟩)) (fun z7 => ?_)
    rw [if_neg z7]
    refine zWp_if (fun z => zWp_po (by omega) (zWp_s ⟨by rw [if_pos z], rfl⟩)) (fun z8 => ?_)
    rw [if_neg z8]
    refine zWp_if (fun z => zWp_bi (P := fun a h1 => a = isum (lyF st) (nS σ).toNat 0 ∧ h1 = h) (by rw [em_B_stonesNow]; exact zWp_m (q_stonesNow4 (d := d) b (nS σ).toNat (i := 0) (x := 0) (by omega) (by omega) (by omega)) (fun v h1 u => ⟨_, u.1, Int.zero_add _, u.2⟩)) (fun a h1 u => zWp_s ⟨by rw [if_pos z, u.1], u.2⟩)) (fun z9 => ?_)
    rw [if_neg z9]
    refine zWp_if (fun z => zWp_qi q_bitCountL (zWp_s ⟨by rw [if_pos z, nets_n b.2.2.1 wt w], rfl⟩)) (fun z10 => ?_)
    rw [if_neg z10]
    refine zWp_if (fun z => zWp_s ⟨by rw [if_pos z], rfl⟩) (fun z11 => ?_)
    rw [if_neg z11]
    refine zWp_if (fun z => zWp_s ⟨by rw [if_pos z], rfl⟩) (fun z12 => ?_)
    rw [if_neg z12]
    refine zWp_if (fun z => zWp_s ⟨by rw [if_pos z], rfl⟩) (fun z13 => ?_)
    rw [if_neg z13]
    exact zWp_s ⟨rfl, rfl⟩
  · have g := r'.1.1
    have hb := g.b
    have ew : w32 (G 0 2) = G 0 2 := w32_i (by omega)
    rw [em_R_has, g.2.2.2.1.1, g.2.2.2.1.2.1, g.2.2.2.1.2.2.1, g.2.2.2.1.2.2.2.1, g.2.2.2.1.2.2.2.2.1, g.2.2.2.1.2.2.2.2.2, g.2.1.1, g.2.1.2, r'.2.2.2.1.1.1, r'.2.2.1.2.1.1, r'.2.1.2.2.2.1, ew]
    unfold vHas
    refine zWp_if (fun z => zWp_it (by omega) (zWp_s ⟨by rw [if_pos z], rfl⟩)) (fun z0 => ?_)
    rw [if_neg z0]
    refine zWp_if (fun z => zWp_it (by omega) (zWp_s ⟨by rw [if_pos z], rfl⟩)) (fun z1 => ?_)
    rw [if_neg z1]
    refine zWp_if (fun z => zWp_it (by omega) (zWp_s ⟨by rw [if_pos z], rfl⟩)) (fun z2 => ?_)
    rw [if_neg z2]
    refine zWp_if (fun z => by rw [if_pos z]; exact zWp_m (q_R_has104 (d := d + 1) r'.1 (nC σ).toNat (c := 0) (x := 0) (by omega) (by omega) (by omega)) (fun v h1 u => ⟨by rw [u.1, Int.zero_add], u.2⟩)) (fun z3 => ?_)
    rw [if_neg z3]
    refine zWp_if (fun z => zWp_it (by omega) (zWp_s ⟨by rw [if_pos z], rfl⟩)) (fun z4 => ?_)
    rw [if_neg z4]
    refine zWp_if (fun z => zWp_it (by omega) (zWp_s ⟨by rw [if_pos z], rfl⟩)) (fun z5 => ?_)
    rw [if_neg z5]
    refine zWp_if (fun z => zWp_it (by omega) (zWp_s ⟨by rw [if_pos z], rfl⟩)) (fun z6 => ?_)
    rw [if_neg z6]
    refine zWp_if (fun z => zWp_it (by omega) (zWp_s ⟨by rw [if_pos z], rfl⟩)) (fun z7 => ?_)
    rw [if_neg z7]
    refine zWp_if (fun z => zWp_it (by omega) (zWp_s ⟨by rw [if_pos z], rfl⟩)) (fun z8 => ?_)
    rw [if_neg z8]
    refine zWp_if (fun z => by rw [if_pos z]; exact zWp_m (q_R_has189 (d := d + 2) r'.1 (nS σ).toNat (i := 0) (x := 0) (by omega) (by omega) (by omega)) (fun v h1 u => ⟨by rw [u.1, Int.zero_add], u.2⟩)) (fun z9 => ?_)
    rw [if_neg z9]
    refine zWp_if (fun z => by rw [if_pos z]; exact zWp_m (q_R_has230 (d := d + 1) r'.1 (nC σ).toNat (c := 0) (x := 0) (by omega) (by omega) (by omega)) (fun v h1 u => ⟨by rw [u.1, Int.zero_add], u.2⟩)) (fun z10 => ?_)
    rw [if_neg z10]
    refine zWp_if (fun z => zWp_s ⟨by rw [if_pos z], rfl⟩) (fun z11 => ?_)
    rw [if_neg z11]
    refine zWp_if (fun z => zWp_it (by decide) (zWp_s ⟨by rw [if_pos z], rfl⟩)) (fun z12 => ?_)
    rw [if_neg z12]
    refine zWp_if (fun z => zWp_s ⟨by rw [if_pos z], rfl⟩) (fun z13 => ?_)
    rw [if_neg z13]
    exact zWp_s ⟨rfl, rfl⟩
