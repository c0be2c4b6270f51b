/-! whither a stone rolls from each cell: the class -/
def lwN (σ : zH) (best n : Int) (ok : Prop) [Decidable ok] : Int := if ok ∧ σ 1 n < σ 1 best then n else best
def nx1 (σ : zH) (c : Int) : Int := lwN σ c (c - σ 0 0) (σ 0 0 ≤ c)
def nx2 (σ : zH) (c : Int) : Int := lwN σ (nx1 σ c) (c + 1) (c % σ 0 0 < σ 0 0 - 1)
def nx3 (σ : zH) (c : Int) : Int := lwN σ (nx2 σ c) (c + σ 0 0) (c + σ 0 0 < nC σ)
def nx4 (σ : zH) (c : Int) : Int := lwN σ (nx3 σ c) (c - 1) (0 < c % σ 0 0)
def fnF (σ : zH) : Nat → Int → zH → zH
  | 0, _, τ => τ
  | f + 1, c, τ => fnF σ f (c + 1) (zset (zset τ 2 c (if nx4 σ c = c then -1 else nx4 σ c)) 3 c (σ 1 c - σ 1 (nx4 σ c)))
def inC (σ : zH) (c b : Int) : Prop := (0 ≤ b ∧ b < nC σ) ∧ (b = c ∨ σ 1 b < σ 1 c)
theorem lw_i {σ : zH} {c b n : Int} {ok : Prop} [Decidable ok] (h : inC σ c b) (hn : ok → 0 ≤ n ∧ n < nC σ) : inC σ c (lwN σ b n ok) := by
  unfold lwN
  by_cases z : ok ∧ σ 1 n < σ 1 b
  · rw [if_pos z]
    refine ⟨hn z.1, Or.inr ?_⟩
    rcases h.2 with e | e
    · rw [← e]; exact z.2
    · omega
  · rw [if_neg z]; exact h
theorem rt_in {σ : zH} {c : Int} (w : 1 ≤ σ 0 0) (hc : 0 ≤ c ∧ c < nC σ) (z : c % σ 0 0 < σ 0 0 - 1) : c + 1 < nC σ := by
  have e0 := Int.emod_nonneg c (show σ 0 0 ≠ 0 by omega)
  have d := Int.emod_add_mul_ediv c (σ 0 0)
  have en : nC σ = σ 0 0 * σ 0 1 := rfl
  have y1 : c / σ 0 0 < σ 0 1 := by
    refine Classical.byContradiction fun w2 => ?_
    have m := Int.mul_le_mul_of_nonneg_left (show σ 0 1 ≤ c / σ 0 0 by omega) (show 0 ≤ σ 0 0 by omega)
    omega
  have m := Int.mul_le_mul_of_nonneg_left (show c / σ 0 0 + 1 ≤ σ 0 1 by omega) (show 0 ≤ σ 0 0 by omega)
  rw [Int.mul_add, Int.mul_one] at m
  omega
theorem nx_in {σ : zH} {c : Int} (w : 1 ≤ σ 0 0) (hc : 0 ≤ c ∧ c < nC σ) : inC σ c (nx1 σ c) ∧ inC σ c (nx2 σ c) ∧ inC σ c (nx3 σ c) ∧ inC σ c (nx4 σ c) := by
  have e0 := Int.emod_nonneg c (show σ 0 0 ≠ 0 by omega)
  have e1 := Int.emod_lt_of_pos c (show 0 < σ 0 0 by omega)
  have i1 : inC σ c (nx1 σ c) := lw_i ⟨hc, Or.inl rfl⟩ (fun z => by omega)
  have i2 : inC σ c (nx2 σ c) := lw_i i1 (fun z => ⟨by omega, rt_in w hc z⟩)
  have i3 : inC σ c (nx3 σ c) := lw_i i2 (fun z => by omega)
  exact ⟨i1, i2, i3, lw_i i3 (fun z => by
    refine ⟨?_, by omega⟩
    refine Classical.byContradiction fun w2 => ?_
    have : c = 0 := by omega
    rw [this, Int.zero_emod] at z
    omega)⟩
theorem q_lower {d : Nat} {σ τ : zH} {b x1 x2 x3 : Int} {h : zH} {ok : Prop} [Decidable ok] (cs : CS τ b h) (et : τ 1 = σ 1) (h1 : 0 ≤ x1 ∧ x1 < 60) (h2 : ok → 0 ≤ x2 ∧ x2 < 60) (e3 : x3 = if ok then 1 else 0) : m_Slope_lower (d + 1) b x1 x2 x3 h = some (.inl (lwN σ x1 x2 ok), h) := by
  have ha := cs.a
  rw [em_Slope_lower, e3]
  unfold lwN
  by_cases z : ok
  · rw [if_pos z, if_neg (by decide), zpo_t (by omega), zpo_t (by omega), if_pos (show 0 ≤ x2 ∧ x2 < ((60 : Nat) : Int) from h2 z), zpo_t (by omega), zpo_t (by omega), if_pos (show 0 ≤ x1 ∧ x1 < ((60 : Nat) : Int) from h1), cs.2 1 x2 (by decide) (by decide), cs.2 1 x1 (by decide) (by decide), et]
    by_cases y : σ 1 x2 < σ 1 x1
    · rw [if_pos y, if_pos ⟨z, y⟩]
    · rw [if_neg y, if_neg (fun w => y w.2)]
  · rw [if_neg z, if_pos rfl, if_neg (fun w => z w.1)]
theorem CS.w {τ : zH} {b k i v : Int} {h : zH} (c : CS τ b h) : CS (zset τ k i v) b (zset h (b + k) i v) := by
  refine ⟨c.1, fun q j q1 q2 => ?_⟩
  by_cases z : q = k
  · rw [← z, zset_g, zset_g, c.2 q j q1 q2]
  · rw [zset_n (show b + q ≠ b + k by omega), zset_n z]
    exact c.2 q j q1 q2
theorem q_fn2 {d : Nat} {σ : zH} {b : Int} (w : WB σ) (w1 : 1 ≤ σ 0 0) (hH : ∀ c, 0 ≤ c → c < 60 → 0 ≤ σ 1 c ∧ σ 1 c ≤ 999) : ∀ (f : Nat) (c : Int) (τ h : zH), c + f = nC σ → 0 ≤ c → CS τ b h → (∀ k, k ≠ 2 → k ≠ 3 → τ k = σ k) → zWp (l_Slope_findNexts_2 (d + 2) b c h) (fun _ h' => CS (fnF σ f c τ) b h' ∧ ∀ r, ¬ (r = b + 2 ∨ r = b + 3) → h' r = h r) := by
  intro f
  have wb := w.1
  induction f with
  | zero =>
    intro c τ h hc h0 cs et
    have ha := cs.a
    have e0 : h b 0 = σ 0 0 := by have := cs.2 0 0 (by decide) (by decide); rw [Int.add_zero, et 0 (by decide) (by decide)] at this; exact this
    have e1 : h b 1 = σ 0 1 := by have := cs.2 0 1 (by decide) (by decide); rw [Int.add_zero, et 0 (by decide) (by decide)] at this; exact this
    have en : σ 0 0 * σ 0 1 = nC σ := rfl
    have n0 : 0 ≤ nC σ := by rw [← en]; exact Int.mul_nonneg (by omega) (by omega)
    rw [el_Slope_findNexts_2, em_Slope_cells, e0, e1, en, w32_i (by omega)]
    refine zWp_po (by omega) ?_
    rw [zpo_t (by omega), zpo_t (by omega), zqi_s]
    exact zWp_nt (by omega) (zWp_s ⟨cs, fun _ _ => rfl⟩)
  | succ f ih =>
    intro c τ h hc h0 cs et
    have ha := cs.a
    have e0 : h b 0 = σ 0 0 := by have := cs.2 0 0 (by decide) (by decide); rw [Int.add_zero, et 0 (by decide) (by decide)] at this; exact this
    have e1 : h b 1 = σ 0 1 := by have := cs.2 0 1 (by decide) (by decide); rw [Int.add_zero, et 0 (by decide) (by decide)] at this; exact this
    have en : σ 0 0 * σ 0 1 = nC σ := rfl
    have t1 : τ 1 = σ 1 := et 1 (by decide) (by decide)
    have cN : c < nC σ := by omega
    have i4 := nx_in w1 ⟨h0, cN⟩
    have cells : ∀ e, m_Slope_cells (e + 1) b h = some (.inl (nC σ), h) := fun e => by
      rw [em_Slope_cells, e0, e1, en, w32_i (by omega), zpo_t (by omega), zpo_t (by omega)]
    have tm : Int.tmod c (σ 0 0) = c % σ 0 0 := Int.tmod_eq_emod_of_nonneg h0
    have m0 := Int.emod_nonneg c (show σ 0 0 ≠ 0 by omega)
    have m1 := Int.emod_lt_of_pos c (show 0 < σ 0 0 by omega)
    rw [el_Slope_findNexts_2, cells, zqi_s, e0, tm, w32_i (x := c - σ 0 0) (by omega)]
    refine zWp_po (by omega) (zWp_it cN (zWp_po (by omega) (zWp_dz (by omega) (zWp_po (by omega) (zWp_po (by omega) ?_)))))
    have i44 := i4.2.2.2.1
    have i11 := i4.1.1
    have i22 := i4.2.1.1
    have i33 := i4.2.2.1.1
    have s131 : zWp (l_Slope_findNexts_131 (d + 2) b c (nx4 σ c) (if nx4 σ c = c then -1 else nx4 σ c) c (b + 2) h) (fun _ h' => CS (fnF σ (f + 1) c τ) b h' ∧ ∀ r, ¬ (r = b + 2 ∨ r = b + 3) → h' r = h r) := by
      rw [el_Slope_findNexts_131]
      refine zWp_po (by omega) (zWp_it (by omega) (zWp_lt fun h1 e2 => ?_))
      have n1 : ∀ r, r ≠ b + 2 → h1 r = h r := fun r hr => by rw [e2, zset_n hr]
      have g1 : ∀ i, h1 (b + 1) i = σ 1 i := fun i => by rw [n1 _ (by omega), cs.2 1 i (by decide) (by decide), t1]
      have k1 := hH c h0 (by omega)
      have k2 := hH (nx4 σ c) i44.1 (by omega)
      rw [g1 c, g1 (nx4 σ c), w32_i (x := σ 1 c - σ 1 (nx4 σ c)) (by omega), w32_i (x := c + 1) (by omega)]
      refine zWp_po (by omega) (zWp_po (by omega) (zWp_po (by omega) (zWp_it (by omega) (zWp_po (by omega) (zWp_po (by omega) (zWp_it (by omega) (zWp_po (by omega) (zWp_it (by omega) (zWp_lt fun h2 e3 => ?_)))))))))
      have c2 : CS (zset (zset τ 2 c (if nx4 σ c = c then -1 else nx4 σ c)) 3 c (σ 1 c - σ 1 (nx4 σ c))) b h2 := by
        rw [e3, e2]
        exact cs.w.w
      refine zWp_m (ih (c + 1) _ h2 (by omega) (by omega) c2 (fun k k2 k3 => by rw [zset_n k3, zset_n k2]; exact et k k2 k3)) (fun _ h3 u => ⟨u.1, fun r hr => ?_⟩)
      rw [u.2 r hr, e3, zset_n (by omega), n1 r (by omega)]
    have s112 : ∀ s0, s0 = (if 0 < c % σ 0 0 then (1 : Int) else 0) → zWp (l_Slope_findNexts_112 (d + 2) b c s0 (c - 1) (nx3 σ c) b h) (fun _ h' => CS (fnF σ (f + 1) c τ) b h' ∧ ∀ r, ¬ (r = b + 2 ∨ r = b + 3) → h' r = h r) := by
      intro s0 es
      rw [el_Slope_findNexts_112]
      refine zWp_po (by omega) (zWp_qi (q_lower (σ := σ) (ok := 0 < c % σ 0 0) cs t1 (by omega) (fun z => ?_) es) (zWp_po (by omega) ?_))
      · refine ⟨?_, by omega⟩
        refine Classical.byContradiction fun w2 => ?_
        have : c = 0 := by omega
        rw [this, Int.zero_emod] at z
        omega
      · have e4 : lwN σ (nx3 σ c) (c - 1) (0 < c % σ 0 0) = nx4 σ c := rfl
        rw [e4]
        by_cases z : nx4 σ c = c
        · rw [if_pos (c := nx4 σ c = c) (t := (-1 : Int)) z] at s131
          exact zWp_it z s131
        · rw [if_neg (c := nx4 σ c = c) (t := (-1 : Int)) z] at s131
          exact zWp_nt z s131
    have s94 : ∀ s0, s0 = (if c + σ 0 0 < nC σ then (1 : Int) else 0) → zWp (l_Slope_findNexts_94 (d + 2) b c (c % σ 0 0) s0 (c + σ 0 0) (nx2 σ c) b h) (fun _ h' => CS (fnF σ (f + 1) c τ) b h' ∧ ∀ r, ¬ (r = b + 2 ∨ r = b + 3) → h' r = h r) := by
      intro s0 es
      rw [el_Slope_findNexts_94, w32_i (x := c - 1) (by omega)]
      refine zWp_po (by omega) (zWp_qi (q_lower (σ := σ) (ok := c + σ 0 0 < nC σ) cs t1 (by omega) (fun z => by omega) es) ?_)
      have e4 : lwN σ (nx2 σ c) (c + σ 0 0) (c + σ 0 0 < nC σ) = nx3 σ c := rfl
      rw [e4]
      by_cases z : 0 < c % σ 0 0
      · exact zWp_it z (s112 1 (by rw [if_pos z]))
      · exact zWp_nt z (s112 0 (by rw [if_neg z]))
    have s64 : ∀ s0, s0 = (if c % σ 0 0 < σ 0 0 - 1 then (1 : Int) else 0) → zWp (l_Slope_findNexts_64 (d + 2) b c (c % σ 0 0) s0 (c + 1) (nx1 σ c) b h) (fun _ h' => CS (fnF σ (f + 1) c τ) b h' ∧ ∀ r, ¬ (r = b + 2 ∨ r = b + 3) → h' r = h r) := by
      intro s0 es
      rw [el_Slope_findNexts_64]
      refine zWp_po (by omega) (zWp_qi (q_lower (σ := σ) (ok := c % σ 0 0 < σ 0 0 - 1) cs t1 (by omega) (fun z => ?_) es) ?_)
      · have := rt_in w1 ⟨h0, cN⟩ z
        omega
      · have e4 : lwN σ (nx1 σ c) (c + 1) (c % σ 0 0 < σ 0 0 - 1) = nx2 σ c := rfl
        rw [e4, e0, w32_i (x := c + σ 0 0) (by omega)]
        refine zWp_po (by omega) (zWp_po (by omega) (zWp_po (by omega) (zWp_qi (cells _) ?_)))
        by_cases z : c + σ 0 0 < nC σ
        · exact zWp_it z (s94 1 (by rw [if_pos z]))
        · exact zWp_nt z (s94 0 (by rw [if_neg z]))
    have s40 : ∀ s0, s0 = (if σ 0 0 ≤ c then (1 : Int) else 0) → zWp (l_Slope_findNexts_40 (d + 2) b c (c % σ 0 0) s0 (c - σ 0 0) c b h) (fun _ h' => CS (fnF σ (f + 1) c τ) b h' ∧ ∀ r, ¬ (r = b + 2 ∨ r = b + 3) → h' r = h r) := by
      intro s0 es
      rw [el_Slope_findNexts_40]
      refine zWp_po (by omega) (zWp_qi (q_lower (σ := σ) (ok := σ 0 0 ≤ c) cs t1 (by omega) (fun z => by omega) es) ?_)
      have e4 : lwN σ c (c - σ 0 0) (σ 0 0 ≤ c) = nx1 σ c := rfl
      rw [e4, e0, w32_i (x := σ 0 0 - 1) (by omega), w32_i (x := c + 1) (by omega)]
      refine zWp_po (by omega) ?_
      by_cases z : c % σ 0 0 < σ 0 0 - 1
      · exact zWp_it z (s64 1 (by rw [if_pos z]))
      · exact zWp_nt z (s64 0 (by rw [if_neg z]))
    by_cases z : c < σ 0 0
    · exact zWp_it z (s40 0 (by rw [if_neg (by omega)]))
    · exact zWp_nt z (s40 1 (by rw [if_pos (by omega)]))
theorem fn_k {σ : zH} : ∀ (f : Nat) (c : Int) (τ : zH), (∀ k, k ≠ 2 → k ≠ 3 → fnF σ f c τ k = τ k) ∧ ∀ j, (c ≤ j ∧ j < c + f → fnF σ f c τ 2 j = (if nx4 σ j = j then -1 else nx4 σ j) ∧ fnF σ f c τ 3 j = σ 1 j - σ 1 (nx4 σ j)) ∧ (¬ (c ≤ j ∧ j < c + f) → fnF σ f c τ 2 j = τ 2 j ∧ fnF σ f c τ 3 j = τ 3 j)
  | 0, c, τ => ⟨fun _ _ _ => rfl, fun j => ⟨fun z => by omega, fun _ => ⟨rfl, rfl⟩⟩⟩
  | f + 1, c, τ => by
    have i := fn_k (σ := σ) f (c + 1) (zset (zset τ 2 c (if nx4 σ c = c then -1 else nx4 σ c)) 3 c (σ 1 c - σ 1 (nx4 σ c)))
    refine ⟨fun k k2 k3 => ?_, fun j => ⟨fun z => ?_, fun z => ?_⟩⟩
    · show fnF σ f (c + 1) _ k = τ k
      rw [i.1 k k2 k3, zset_n k3, zset_n k2]
    · show fnF σ f (c + 1) _ 2 j = _ ∧ fnF σ f (c + 1) _ 3 j = _
      by_cases y : j = c
      · have q := (i.2 j).2 (by omega)
        rw [q.1, q.2, y, zset_o (by decide), zset_e, zset_e]
        exact ⟨rfl, rfl⟩
      · exact (i.2 j).1 (by omega)
    · show fnF σ f (c + 1) _ 2 j = _ ∧ fnF σ f (c + 1) _ 3 j = _
      have q := (i.2 j).2 (by omega)
      rw [q.1, q.2, zset_o (by decide), zset_j (by omega), zset_j (by omega), zset_o (by decide)]
      exact ⟨rfl, rfl⟩
