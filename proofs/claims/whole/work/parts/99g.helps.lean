/-! the class's reader of statements: what a slope holds so far -/
def WB (σ : zH) : Prop := (0 ≤ σ 0 0 ∧ σ 0 0 ≤ 10 ∧ 0 ≤ σ 0 1 ∧ σ 0 1 ≤ 10 ∧ nC σ ≤ 60) ∧ (0 ≤ nO σ ∧ nO σ ≤ 6 ∧ 0 ≤ nS σ ∧ nS σ ≤ 10 ∧ 0 ≤ nHo σ ∧ nHo σ ≤ 8 ∧ 0 ≤ nT σ ∧ nT σ ≤ 6 ∧ 0 ≤ nRo σ ∧ nRo σ ≤ 9 ∧ 0 ≤ nLa σ ∧ nLa σ ≤ 8)
def PC (A : List zTk) (b : Int) (σ : zH) (s : zRd) (h : zH) : Prop := TC A s h ∧ CS σ b h ∧ h 4 2 = b ∧ ∀ i, 0 ≤ i → i < 3 → σ 12 i = b + 9 + i
def frP (b : Int) (h h' : zH) : Prop := ∀ r, ¬ (r = 5 ∨ b ≤ r ∧ r ≤ b + 20) → h' r = h r
theorem frP.rf (b : Int) (h : zH) : frP b h h := fun _ _ => rfl
theorem frP.t {b : Int} {x y z : zH} (h1 : frP b x y) (h2 : frP b y z) : frP b x z := fun r hr => (h2 r hr).trans (h1 r hr)
theorem frA.p {h h' : zH} (f : frA h h') (b : Int) : frP b h h' := fun r hr => f.1 r (fun z => hr (Or.inl z))
theorem CS.st {σ : zH} {b k i v : Int} {h : zH} (c : CS σ b h) : CS (zset σ k i v) b (zset h (b + k) i v) := by
  refine ⟨c.1, fun k' i' h1 h2 => ?_⟩
  rw [zset_x, zset_x, c.2 k' i' h1 h2]
  by_cases e : k' = k ∧ i' = i
  · rw [if_pos e, if_pos (by omega)]
  · rw [if_neg e, if_neg (by omega)]
theorem PC.a {A : List zTk} {b : Int} {σ : zH} {s : zRd} {h : zH} (c : PC A b σ s h) : 11 ≤ b ∧ b ≤ 39 := c.2.1.a
theorem PC.fA {A : List zTk} {b : Int} {σ : zH} {s s' : zRd} {h h' : zH} (c : PC A b σ s h) (t : TC A s' h') (f : frA h h') : PC A b σ s' h' := by
  have ha := c.a
  exact ⟨t, c.2.1.fr (fun r r1 r2 => f.1 r (by omega)), by rw [f.1 4 (by decide)]; exact c.2.2.1, c.2.2.2⟩
/-- a row of the slope is written -/
theorem PC.st {A : List zTk} {b : Int} {σ : zH} {s : zRd} {h : zH} (c : PC A b σ s h) {k i v : Int} (hk : 0 ≤ k ∧ k < 21 ∧ k ≠ 12) : PC A b (zset σ k i v) s (zset h (b + k) i v) ∧ frP b h (zset h (b + k) i v) := by
  have ha := c.a
  have e5 : ∀ q, zset h (b + k) i v 5 q = h 5 q := fun q => by rw [zset_o (by omega)]
  have er : ∀ r, r < 11 → zset h (b + k) i v r = h r := fun r hr => by rw [zset_n (by omega)]
  refine ⟨⟨?_, c.2.1.st, by rw [zset_o (by omega)]; exact c.2.2.1, fun j j1 j2 => by rw [zset_o (fun z => hk.2.2 z.symm)]; exact c.2.2.2 j j1 j2⟩, fun r hr => by rw [zset_n (by omega)]⟩
  obtain ⟨t1, t2, t3⟩ := c.1
  refine ⟨t1.fr (e5 4) (fun r hr => er r (by omega)), ?_, fun z => ?_⟩
  · rw [e5, e5, e5]; exact t2
  · rw [e5, e5, e5, e5, e5]; exact t3 z
def fndA (σ : zH) (x p : Int) : Int := zfs (fun k => decide (σ (9 + x) k = p)) (cntA σ x).toNat 0
theorem cntA_b {σ : zH} (w : WB σ) {x : Int} (hx : 0 ≤ x ∧ x < 3) : 0 ≤ cntA σ x ∧ cntA σ x ≤ 10 := by
  obtain ⟨_, w2⟩ := w
  unfold cntA
  split
  · omega
  · split <;> omega
theorem q_find2 {d : Nat} {A : List zTk} {b : Int} {σ : zH} {s : zRd} {h : zH} (w : WB σ) (c : PC A b σ s h) {x p : Int} (hx : 0 ≤ x ∧ x < 3) : ∀ (n : Nat) {i : Int}, 0 ≤ i → i + n = cntA σ x → l_Slope_find_2 (d + 1) b x p i h = some (.inl (zfs (fun k => decide (σ (9 + x) k = p)) n i), h)
  | 0, i, h0, hn => by
    have ha := c.a
    have hb := cntA_b w hx
    rw [el_Slope_find_2, q_named c.2.1 hx, zpo_t (by omega), zqi_s, zit_f (by omega)]
    rfl
  | n + 1, i, h0, hn => by
    have ha := c.a
    have hb := cntA_b w hx
    have e12 : h (b + 12) x = b + 9 + x := by rw [c.2.1.g 12 (by decide)]; exact c.2.2.2 x hx.1 hx.2
    have e9 : h (b + 9 + x) i = σ (9 + x) i := by rw [show b + 9 + x = b + (9 + x) by omega]; exact c.2.1.g (9 + x) (by omega)
    rw [el_Slope_find_2, q_named c.2.1 hx, zpo_t (by omega), zqi_s, zit_t (by omega), zpo_t (by omega), zpo_t (by omega), zit_t (by omega), e12, zpo_t (by omega), zit_t (by omega), e9, w32_i (x := i + 1) (by omega)]
    by_cases z : σ (9 + x) i = p
    · rw [zit_t z, zfs_t (f := fun k => decide (σ (9 + x) k = p)) (decide_eq_true z)]
    · rw [zit_f z, zfs_f (f := fun k => decide (σ (9 + x) k = p)) (decide_eq_false z)]
      exact q_find2 w c hx n (by omega) (by omega)
theorem q_find {d : Nat} {A : List zTk} {b : Int} {σ : zH} {s : zRd} {h : zH} (w : WB σ) (c : PC A b σ s h) {x p : Int} (hx : 0 ≤ x ∧ x < 3) : m_Slope_find (d + 2) b x p h = some (.inl (fndA σ x p), h) := by
  have hb := cntA_b w hx
  rw [em_Slope_find, q_find2 w c hx (cntA σ x).toNat (by decide) (by omega)]
  rfl
def freA (σ : zH) (p : Int) : Bool := decide (zfs (fun i => decide (σ 15 i = p)) (nS σ).toNat 0 = -1 ∧ σ 7 p = -1 ∧ σ 5 p = 0)
theorem q_free2 {d : Nat} {A : List zTk} {b : Int} {σ : zH} {s : zRd} {h : zH} (w : WB σ) (c : PC A b σ s h) {p : Int} (hp : 0 ≤ p ∧ p < 60) : ∀ (n : Nat) {i : Int}, 0 ≤ i → i + n = nS σ → l_Slope_isFree_2 d b p i h = some (.inl (if zfs (fun i => decide (σ 15 i = p)) n i = -1 ∧ σ 7 p = -1 ∧ σ 5 p = 0 then 1 else 0), h)
  | 0, i, h0, hn => by
    have ha := c.a
    have e7 : nS σ = σ 8 7 := rfl
    rw [el_Slope_isFree_2, c.2.1.g 8 (by decide), c.2.1.g 7 (by decide), c.2.1.g 5 (by decide), zpo_t (by omega), zpo_t (by omega), zit_t (by decide), zit_f (by omega), zpo_t (by omega), zpo_t (by omega), zit_t (by omega)]
    by_cases z : σ 7 p = -1
    · rw [zit_t z, zpo_t (by omega), zpo_t (by omega), zit_t (by omega)]
      by_cases y : σ 5 p = 0
      · rw [zit_t y, if_pos ⟨rfl, z, y⟩]
      · rw [zit_f y, if_neg (fun u => y u.2.2)]
    · rw [zit_f z, if_neg (fun u => z u.2.1)]
  | n + 1, i, h0, hn => by
    have ha := c.a
    obtain ⟨_, w2⟩ := id w
    have e7 : nS σ = σ 8 7 := rfl
    rw [el_Slope_isFree_2, c.2.1.g 8 (by decide), c.2.1.g 15 (by decide), zpo_t (by omega), zpo_t (by omega), zit_t (by decide), zit_t (by omega), zpo_t (by omega), zpo_t (by omega), zit_t (by omega), w32_i (x := i + 1) (by omega)]
    by_cases z : σ 15 i = p
    · rw [zit_t z, zfs_t (f := fun i => decide (σ 15 i = p)) (decide_eq_true z), if_neg (fun u => by omega)]
    · rw [zit_f z, zfs_f (f := fun i => decide (σ 15 i = p)) (decide_eq_false z)]
      exact q_free2 w c hp n (by omega) (by omega)
theorem q_isFree {d : Nat} {A : List zTk} {b : Int} {σ : zH} {s : zRd} {h : zH} (w : WB σ) (c : PC A b σ s h) {p : Int} (hp : 0 ≤ p ∧ p < 60) : m_Slope_isFree (d + 1) b p h = some (.inl (if freA σ p = true then 1 else 0), h) := by
  have w2 := w.2
  rw [em_Slope_isFree, q_free2 w c hp (nS σ).toNat (by decide) (by omega)]
  unfold freA
  by_cases z : zfs (fun i => decide (σ 15 i = p)) (nS σ).toNat 0 = -1 ∧ σ 7 p = -1 ∧ σ 5 p = 0
  · rw [if_pos z, decide_eq_true z]; rfl
  · rw [if_neg z, decide_eq_false z]; rfl
theorem nb_ok {A : List zTk} {lo hi : Int} {s : zRd} (h : (nbS A lo hi s).2.2.1 = 0) : s.2.1 = 0 ∧ (tkI A s.1).1 = 3 ∧ lo ≤ (tkI A s.1).2.2.1 ∧ (tkI A s.1).2.2.1 ≤ hi ∧ nbS A lo hi s = ((tkI A s.1).2.2.1, advS s) := by
  have fl : ∀ k p, k ≠ 0 → (flS k p s).2.1 ≠ 0 := fun k p hk => by
    unfold flS
    by_cases c : s.2.1 = 0
    · rw [if_pos c]; exact hk
    · rw [if_neg c]; exact c
  by_cases c1 : kdS A s = 3
  · have f := kd_0 c1 (by decide)
    by_cases c2 : lo ≤ (tkI A s.1).2.2.1 ∧ (tkI A s.1).2.2.1 ≤ hi
    · exact ⟨f.1, f.2, c2.1, c2.2, by unfold nbS; rw [if_pos c1, if_pos c2]⟩
    · have e : nbS A lo hi s = (-1, flS 4 (tkI A s.1).2.1 s) := by unfold nbS; rw [if_pos c1, if_neg c2]
      rw [e] at h
      exact absurd h (fl 4 _ (by decide))
  · have e : nbS A lo hi s = (-1, flS 1 (unf (tkI A s.1)) s) := by unfold nbS; rw [if_neg c1]
    rw [e] at h
    exact absurd h (fl 1 _ (by decide))
def celS (A : List zTk) (σ : zH) (lx ly : Int) (s : zRd) : Int × zRd :=
  (if (nbS A ly (σ 0 1 - 1) (nbS A lx (σ 0 0 - 1) s).2).2.2.1 = 0 then (nbS A ly (σ 0 1 - 1) (nbS A lx (σ 0 0 - 1) s).2).1 * σ 0 0 + (nbS A lx (σ 0 0 - 1) s).1 else -1, (nbS A ly (σ 0 1 - 1) (nbS A lx (σ 0 0 - 1) s).2).2)
theorem cel_ok {A : List zTk} {σ : zH} {lx ly : Int} {s : zRd} (w : WB σ) (l : 0 ≤ lx ∧ 0 ≤ ly) (h : (celS A σ lx ly s).2.2.1 = 0) : s.2.1 = 0 ∧ ∃ x y, lx ≤ x ∧ x < σ 0 0 ∧ ly ≤ y ∧ y < σ 0 1 ∧ celS A σ lx ly s = (y * σ 0 0 + x, (s.1 + 2, s.2)) ∧ 0 ≤ y * σ 0 0 + x ∧ y * σ 0 0 + x < nC σ ∧ 0 ≤ y * σ 0 0 := by
  have h' : (nbS A ly (σ 0 1 - 1) (nbS A lx (σ 0 0 - 1) s).2).2.2.1 = 0 := h
  have k1 := nb_ok (nb_ok h').1
  have h2 := h'
  rw [k1.2.2.2.2] at h2
  have k2 := nb_ok (s := advS s) h2
  have es : advS s = (s.1 + 1, s.2) := by unfold advS; rw [if_pos k1.1]
  have es2 : advS (advS s) = (s.1 + 2, s.2) := by rw [es]; unfold advS; rw [if_pos (show ((s.1 + 1, s.2) : zRd).2.1 = 0 from k1.1)]
  refine ⟨k1.1, (tkI A s.1).2.2.1, (tkI A (advS s).1).2.2.1, k1.2.2.1, by omega, k2.2.2.1, by omega, ?_, ?_⟩
  · unfold celS
    rw [if_pos h', k1.2.2.2.2]
    show ((nbS A ly (σ 0 1 - 1) (advS s)).1 * _ + _, (nbS A ly (σ 0 1 - 1) (advS s)).2) = _
    rw [k2.2.2.2.2, es2]
  · have a1 : (tkI A (advS s).1).2.2.1 * σ 0 0 ≤ (σ 0 1 - 1) * σ 0 0 := Int.mul_le_mul_of_nonneg_right k2.2.2.2.1 w.1.1
    have a2 : 0 ≤ (tkI A (advS s).1).2.2.1 * σ 0 0 := Int.mul_nonneg (by omega) w.1.1
    have a3 : (σ 0 1 - 1) * σ 0 0 = σ 0 0 * σ 0 1 - σ 0 0 := by rw [Int.sub_mul, Int.one_mul, Int.mul_comm]
    unfold nC
    omega
theorem q_hasC {d : Nat} {A : List zTk} {b : Int} {σ : zH} {s : zRd} {h : zH} (w : WB σ) (c : PC A b σ s h) {p : Int} (hp : 0 ≤ p ∧ p < nC σ) : m_Slope_hasCell (d + 1) b p h = some (.inl 1, h) := by
  have ha := c.a
  have w1 := w.1
  have e : w32 (σ 0 0 * σ 0 1) = nC σ := w32_i (by unfold nC at hp w1; omega)
  rw [em_Slope_hasCell, c.2.1.z, c.2.1.z, e, zit_f (by omega), zpo_t (by omega), zpo_t (by omega), zit_t hp.2]
theorem q_ndCl {d : Nat} {A : List zTk} {b : Int} {σ : zH} {s : zRd} {h : zH} (ok : AOk A) (w : WB σ) (c : PC A b σ s h) {lx ly : Int} (l : 0 ≤ lx ∧ 0 ≤ ly) : zWp (m_SlopeReader_needCell (d + 3) 4 lx ly h) (fun v h' => v = .inl (celS A σ lx ly s).1 ∧ PC A b σ (celS A σ lx ly s).2 h' ∧ frA h h') := by
  have ha := c.a
  have w1 := w.1
  have ce := cel_ok (A := A) (s := s) w l
  rw [em_SlopeReader_needCell, show (4 + 1 : Int) = 5 from rfl, c.2.2.1, c.2.1.z, w32_i (x := σ 0 0 - 1) (by omega)]
  refine zWp_po (by decide) (zWp_po (by decide) (zWp_po (by omega) (zWp_po (by decide) (zWp_bi (P := fun x h' => x = (nbS A lx (σ 0 0 - 1) s).1 ∧ TC A (nbS A lx (σ 0 0 - 1) s).2 h' ∧ frA h h') (zWp_m (q_ndNb (d := d) ok c.1) (fun v h' u => ⟨_, u.1, rfl, u.2⟩)) (fun x h1 u => ?_)))))
  have c1 := c.fA u.2.1 u.2.2
  rw [c1.2.2.1, c1.2.1.z, w32_i (x := σ 0 1 - 1) (by omega)]
  refine zWp_po (by decide) (zWp_po (by decide) (zWp_po (by omega) (zWp_po (by decide) (zWp_bi (P := fun x h' => x = (nbS A ly (σ 0 1 - 1) (nbS A lx (σ 0 0 - 1) s).2).1 ∧ TC A (nbS A ly (σ 0 1 - 1) (nbS A lx (σ 0 0 - 1) s).2).2 h' ∧ frA h1 h') (zWp_m (q_ndNb (d := d) ok c1.1) (fun v h' u => ⟨_, u.1, rfl, u.2⟩)) (fun y h2 t => ?_)))))
  have c2 := c1.fA t.2.1 t.2.2
  rw [c2.2.2.1, c2.2.1.z, t.2.1.2.1.1, t.1, u.1]
  refine zWp_po (by decide) (zWp_po (by omega) (zWp_po (by decide) (zWp_po (by decide) ?_)))
  have fin : PC A b σ (celS A σ lx ly s).2 h2 ∧ frA h h2 := ⟨c2, u.2.2.t t.2.2⟩
  by_cases z : (nbS A ly (σ 0 1 - 1) (nbS A lx (σ 0 0 - 1) s).2).2.2.1 = 0
  · obtain ⟨_, x', y', x1, x2, y1, y2, e, p1, p2, p3⟩ := ce z
    have e1 : (nbS A ly (σ 0 1 - 1) (nbS A lx (σ 0 0 - 1) s).2).1 * σ 0 0 + (nbS A lx (σ 0 0 - 1) s).1 = y' * σ 0 0 + x' := by
      have := congrArg Prod.fst e
      unfold celS at this
      rw [if_pos z] at this
      exact this
    have q1 := (nb_ok (nb_ok z).1)
    have e2 : (nbS A lx (σ 0 0 - 1) s).1 = (tkI A s.1).2.2.1 := by rw [q1.2.2.2.2]
    have b1 : 0 ≤ (nbS A lx (σ 0 0 - 1) s).1 ∧ (nbS A lx (σ 0 0 - 1) s).1 ≤ 10 := by rw [e2]; omega
    have ew : w32 (w32 ((nbS A ly (σ 0 1 - 1) (nbS A lx (σ 0 0 - 1) s).2).1 * σ 0 0) + (nbS A lx (σ 0 0 - 1) s).1) = y' * σ 0 0 + x' := by
      rw [w32_i (x := (nbS A ly (σ 0 1 - 1) (nbS A lx (σ 0 0 - 1) s).2).1 * σ 0 0) (by omega), w32_i (by omega), e1]
    rw [ew]
    refine zWp_it z (zWp_po (by decide) (zWp_po (by omega) (zWp_qi (q_hasC (d := d + 1) w c2 ⟨p1, p2⟩) (zWp_nt (by decide) (zWp_s ⟨?_, fin⟩)))))
    rw [e]
  · refine zWp_nt z (zWp_s ⟨?_, fin⟩)
    unfold celS
    rw [if_neg z]
