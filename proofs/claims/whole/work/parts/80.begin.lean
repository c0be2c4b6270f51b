/-! a state begun; an image read by the class -/
theorem q_fill5 {d n0 : Nat} {x0 v : Int} (h0 : 0 ≤ x0) (hn : (n0 : Int) ≤ 100000) : ∀ (n : Nat) {k : Int} {c : zH}, 0 ≤ k → k + n = n0 → zWp (l_Arrays_fill_5 d n0 x0 v k n0 c) (fun _ h' => (∀ j, k ≤ j → j < n0 → h' x0 j = v) ∧ (∀ j, j < k → h' x0 j = c x0 j) ∧ ∀ r, ¬ r = x0 → h' r = c r)
  | 0, k, c, hk, hh => by
    rw [el_Arrays_fill_5]
    exact zWp_nt (by omega) (zWp_s ⟨fun j j1 j2 => by omega, fun j _ => rfl, fun r _ => rfl⟩)
  | n + 1, k, c, hk, hh => by
    rw [el_Arrays_fill_5, w32_i (x := k + 1) (by omega)]
    refine zWp_it (by omega) (zWp_po h0 (zWp_it (by omega) (zWp_lt fun h1 e1 => zWp_m (q_fill5 h0 hn n (by omega) (by omega)) (fun w h' u => ⟨fun j j1 j2 => ?_, fun j j1 => ?_, fun r hr => ?_⟩))))
    · by_cases e : j = k
      · rw [u.2.1 j (by omega), e1, e, zset_e]
      · exact u.1 j (by omega) j2
    · rw [u.2.1 j (by omega), e1, zset_j (by omega)]
    · rw [u.2.2 r hr, e1, zset_n hr]
theorem q_fill {d n0 : Nat} {x0 v : Int} {h : zH} (h0 : 0 ≤ x0) (hn : (n0 : Int) ≤ 100000) : zWp (m_Arrays_fill (d + 1) n0 x0 v h) (fun _ h' => (∀ j : Int, 0 ≤ j → j < n0 → h' x0 j = v) ∧ ∀ r, ¬ r = x0 → h' r = h r) := by
  rw [em_Arrays_fill]
  exact zWp_po h0 (zWp_m (q_fill5 h0 hn n0 (by omega) (by omega)) (fun w h' u => ⟨u.1, u.2.2⟩))
theorem sAt_put {σ st : zH} {s n : Int} (wt : WT σ st) (hS : 0 ≤ nS σ) (hs : 0 ≤ s ∧ s < nS σ) (hl : st 1 s = -1) (hf : sAt σ st n = -1) {c : Int} (hc : 0 ≤ c) : sAt σ (zset st 1 s n) c = if c = n then s else sAt σ st c := by
  by_cases e : c = n
  · rw [if_pos e]
    refine sAt_of hS hs (by rw [zset_e, e]) (fun j j1 j2 j3 => ?_)
    rw [zset_g] at j3
    by_cases e2 : j = s
    · exact e2
    · rw [if_neg e2, e] at j3
      rcases sAt_spec σ st n hS with ⟨_, q2⟩ | ⟨q1, _, _⟩
      · exact absurd j3 (q2 j j1 j2)
      · omega
  · rw [if_neg e]
    rcases sAt_spec σ st c hS with ⟨q1, q2⟩ | ⟨q1, q2, q3⟩
    · rw [q1]
      refine sAt_no hS (fun j j1 j2 => ?_)
      rw [zset_g]
      by_cases e2 : j = s
      · rw [if_pos e2]; exact fun z => e z.symm
      · rw [if_neg e2]; exact q2 j j1 j2
    · have ne : ¬ sAt σ st c = s := fun z => by rw [z, hl] at q3; omega
      refine sAt_of hS ⟨q1, q2⟩ (by rw [zset_g, if_neg ne]; exact q3) (fun j j1 j2 j3 => ?_)
      rw [zset_g] at j3
      by_cases e2 : j = s
      · rw [if_pos e2] at j3; exact absurd j3.symm e
      · rw [if_neg e2] at j3
        rcases (wt.1 _ q1 q2).2 j j1 j2 (j3.trans q3.symm) with z | z
        · omega
        · exact z
theorem q_moveIn {d : Nat} {σ st : zH} {T s n : Int} {h : zH} (w : WS σ) (t : CT σ st T h) (wt : WT σ st) (hs : 0 ≤ s ∧ s < nS σ) (hl : st 1 s = -1) (hn : 0 ≤ n ∧ n < nC σ) (hf : sAt σ st n = -1) : zWp (m_State_move (d + 1) T s n h) (fun _ h' => CT σ (zset st 1 s n) T h' ∧ (∀ q, h' T q = h T q) ∧ frS T h h') := by
  have hT := t.1.low
  have hnn := w.n
  have hS0 : 0 ≤ nS σ := w.2.1.2.2.1
  have hS10 : nS σ ≤ 10 := w.2.1.2.2.2.1
  have e1 : h (T + 1) s = st 1 s := t.pl (by omega)
  rw [em_State_move, e1]
  refine zWp_po (by omega) (zWp_po (by omega) (zWp_it (by omega) (zWp_it (by omega) ?_)))
  rw [el_State_move_24]
  refine zWp_nt (by omega) (zWp_it (by omega) (zWp_po (by omega) (zWp_po (by omega) (zWp_it (by omega) (zWp_lt fun h2 q2 => zWp_po (by omega) (zWp_po (by omega) (zWp_it (by omega) (zWp_lt fun h3 q3 => zWp_s ?_)))))))) 
  have r3 : ∀ r, ¬ (r = T + 1 ∨ r = T + 4) → h3 r = h r := fun r hr => by rw [q3, zset_n (by omega), q2, zset_n (by omega)]
  obtain ⟨c0, c1, c2, c3, c4, c5, c6, c7⟩ := t
  refine ⟨⟨c0, fun i a b => ⟨?_, ?_, ?_⟩, fun i a b => ?_, fun i a b => ?_, fun i a b => ?_, ?_, ?_, ?_⟩, fun q => by rw [r3 T (by omega)], fun r hr => r3 r (by omega)⟩
  · rw [q3, zset_g, q2, zset_o (by omega), zset_g, (c1 i a b).1]
  · rw [r3 _ (by omega), zset_o (by decide)]; exact (c1 i a b).2.1
  · rw [r3 _ (by omega), zset_o (by decide)]; exact (c1 i a b).2.2
  · rw [q3, zset_o (by omega), q2, zset_g, sAt_put wt hS0 hs hl hf a, c2 i a b]
  · rw [r3 _ (by omega), r3 _ (by omega), zset_o (by decide), zset_o (by decide)]; exact c3 i a b
  · rw [r3 _ (by omega), zset_o (by decide)]; exact c4 i a b
  · rw [r3 _ (by omega)]
    obtain ⟨N, a1, a2, a3⟩ := c5
    exact ⟨N, a1, a2, fun i => by rw [zset_o (by decide)]; exact a3 i⟩
  · rw [r3 _ (by omega)]
    obtain ⟨N, a1, a2, a3⟩ := c6
    exact ⟨N, a1, a2, fun i => by rw [zset_o (by decide)]; exact a3 i⟩
  · rw [r3 _ (by omega), zset_o (by decide)]; exact c7
/-- the slope's own state, of its stones those from m up to k -/
def stB (σ : zH) (m k : Int) : zH := fun a i => if a = 1 then (if m ≤ i ∧ i < k then σ 15 i else -1) else if a = 5 then σ 5 i else if a = 6 then σ 4 i else 0
theorem stB_1 {σ : zH} {m k i : Int} : stB σ m k 1 i = if m ≤ i ∧ i < k then σ 15 i else -1 := by unfold stB; rw [if_pos rfl]
theorem stB_5 {σ : zH} {m k i : Int} : stB σ m k 5 i = σ 5 i := by unfold stB; rw [if_neg (by decide), if_pos rfl]
theorem stB_6 {σ : zH} {m k i : Int} : stB σ m k 6 i = σ 4 i := by unfold stB; rw [if_neg (by decide), if_neg (by decide), if_pos rfl]
theorem stB_o {σ : zH} {m k i a : Int} (h1 : ¬ a = 1) (h5 : ¬ a = 5) (h6 : ¬ a = 6) : stB σ m k a i = 0 := by unfold stB; rw [if_neg h1, if_neg h5, if_neg h6]
theorem stB_w {σ : zH} {m k : Int} (w : WS σ) : WT σ (stB σ m k) := by
  refine ⟨fun i a b => ?_, fun c a b => ?_, fun i a b => Or.inl (stB_o (by decide) (by decide) (by decide))⟩
  · have hi := w.2.2.2.2.1 i a b
    rw [stB_1]
    by_cases e : m ≤ i ∧ i < k
    · rw [if_pos e]
      refine ⟨Or.inr ⟨hi.2.2.2.2.1, hi.2.2.2.2.2.1⟩, fun j j1 j2 j3 => ?_⟩
      rw [stB_1] at j3
      by_cases e2 : m ≤ j ∧ j < k
      · rw [if_pos e2] at j3; exact Or.inr (hi.2.2.2.2.2.2 j j1 j2 j3)
      · rw [if_neg e2] at j3; exact Or.inl j3.symm
    · rw [if_neg e]; exact ⟨Or.inl rfl, fun _ _ _ _ => Or.inl rfl⟩
  · obtain ⟨u1, u2, u3, u4, _, _, _, _, _, u10⟩ := w.2.2.2.1 c a b
    rw [stB_5, stB_6, stB_o (a := 8) (by decide) (by decide) (by decide), stB_o (a := 9) (by decide) (by decide) (by decide)]
    refine ⟨u3, u4, u1, u2, Or.inl rfl, fun z => ?_⟩
    by_cases e : σ 7 c = -1
    · exact Or.inl e
    · have := u10 e
      omega
theorem stB_s {σ : zH} {i : Int} (hi : 0 ≤ i) : zset (stB σ 0 i) 1 i (σ 15 i) = stB σ 0 (i + 1) := by
  funext a j
  rw [zset_x]
  by_cases e : a = 1
  · subst e
    rw [stB_1, stB_1]
    by_cases e2 : j = i
    · rw [if_pos ⟨rfl, e2⟩, if_pos (by omega), e2]
    · rw [if_neg (fun z => e2 z.2)]
      by_cases e3 : 0 ≤ j ∧ j < i
      · rw [if_pos e3, if_pos (by omega)]
      · rw [if_neg e3, if_neg (by omega)]
  · rw [if_neg (fun z => e z.1)]; unfold stB; rw [if_neg e, if_neg e]
theorem stB_t {σ : zH} {i k : Int} : zset (stB σ i k) 1 i (-1) = stB σ (i + 1) k := by
  funext a j
  rw [zset_x]
  by_cases e : a = 1
  · subst e
    rw [stB_1, stB_1]
    by_cases e2 : j = i
    · rw [if_pos ⟨rfl, e2⟩, if_neg (by omega)]
    · rw [if_neg (fun z => e2 z.2)]
      by_cases e3 : i ≤ j ∧ j < k
      · rw [if_pos e3, if_pos (by omega)]
      · rw [if_neg e3, if_neg (by omega)]
  · rw [if_neg (fun z => e z.1)]; unfold stB; rw [if_neg e, if_neg e]
theorem CS.s {σ : zH} {a T : Int} {h h' : zH} (g : CS σ a h) (hT : SA T) (f : frS T h h') : CS σ a h' := by
  have := g.a
  have := hT.low
  exact g.fr (fun r r1 r2 => f r (by omega))
theorem frS.t {T : Int} {a b c : zH} (h1 : frS T a b) (h2 : frS T b c) : frS T a c := fun r hr => (h2 r hr).trans (h1 r hr)
theorem q_beg87 {d : Nat} {σ : zH} {a T : Int} (w : WS σ) : ∀ (n : Nat) {i : Int} {h : zH}, 0 ≤ i → i + n = nS σ → CS σ a h → CT σ (stB σ 0 i) T h → zWp (l_State_begin_87 (d + 1) T a i h) (fun _ h' => CT σ (stB σ 0 (nS σ)) T h' ∧ (∀ q, h' T q = h T q) ∧ frS T h h')
  | 0, i, h, hi, hh, g, t => by
    have ha := g.a
    have e7 : h (a + 8) 7 = nS σ := g.g 8 (by decide)
    have ei : i = nS σ := by omega
    rw [ei] at t
    rw [el_State_begin_87, e7]
    exact zWp_po (by omega) (zWp_po (by omega) (zWp_it (by decide) (zWp_nt (by omega) (zWp_s ⟨t, fun _ => rfl, fun _ _ => rfl⟩))))
  | n + 1, i, h, hi, hh, g, t => by
    have ha := g.a
    have hT := t.1.low
    have hS0 : 0 ≤ nS σ := w.2.1.2.2.1
    have hS10 : nS σ ≤ 10 := w.2.1.2.2.2.1
    have e7 : h (a + 8) 7 = nS σ := g.g 8 (by decide)
    have e15 : h (a + 15) i = σ 15 i := g.g 15 (by decide)
    have hw := w.2.2.2.2.1 i hi (by omega)
    rw [el_State_begin_87, e7, e15, w32_i (x := i + 1) (by omega)]
    refine zWp_po (by omega) (zWp_po (by omega) (zWp_it (by decide) (zWp_it (by omega) (zWp_po (by omega) (zWp_po (by omega) (zWp_it (by omega) (zWp_po (by omega) (zWp_bv (q_moveIn w t (stB_w w) (by omega) (by rw [stB_1, if_neg (by omega)]) ⟨hw.2.2.2.2.1, hw.2.2.2.2.2.1⟩ (sAt_no hS0 (fun j j1 j2 => ?_))) (fun v h1 u => ?_)))))))))
    · rw [stB_1]
      by_cases e : 0 ≤ j ∧ j < i
      · rw [if_pos e]
        intro z
        have := hw.2.2.2.2.2.2 j j1 j2 z
        omega
      · rw [if_neg e]
        have := hw.2.2.2.2.1
        omega
    · obtain ⟨u1, u2, u3⟩ := u
      rw [stB_s hi] at u1
      exact zWp_m (q_beg87 w n (by omega) (by omega) (g.s t.1 u3) u1) (fun v h' x => ⟨x.1, fun q => (x.2.1 q).trans (u2 q), u3.t x.2.2⟩)
theorem q_sbegin {d : Nat} {σ : zH} {a T : Int} {h : zH} (w : WS σ) (g : CS σ a h) (hT : SA T) : zWp (m_State_begin (d + 2) T a h) (fun _ h' => CT σ (stB σ 0 (nS σ)) T h' ∧ h' T 9 = 0 ∧ frS T h h') := by
  have ha := g.a
  have hl := hT.low
  have hS0 : 0 ≤ nS σ := w.2.1.2.2.1
  have hn := w.n
  rw [em_State_begin]
  refine zWp_po (by omega) (zWp_bv (q_fill (d := d) (by omega) (by decide)) (fun _ h1 u1 => zWp_po (by omega) (zWp_bv (q_fill (d := d) (by omega) (by decide)) (fun _ h2 u2 => zWp_po (by omega) (zWp_bv (q_fill (d := d) (by omega) (by decide)) (fun _ h3 u3 => zWp_po (by omega) (zWp_bv (q_fill (d := d) (by omega) (by decide)) (fun _ h4 u4 => ?_))))))))
  refine zWp_po (by omega) (zWp_po (by omega) (zWp_po (by omega) (zWp_po (by omega) (zWp_it (by decide) (zWp_lt fun h5 e5 => ?_)))))
  refine zWp_po (by omega) (zWp_po (by omega) (zWp_po (by omega) (zWp_po (by omega) (zWp_it (by decide) (zWp_lt fun h6 e6 => ?_)))))
  refine zWp_po (by omega) (zWp_bv (q_fill (d := d) (by omega) (by decide)) (fun _ h7 u7 => zWp_po (by omega) (zWp_lt fun h8 e8 => zWp_po (by omega) (zWp_lt fun h9 e9 => zWp_po (by omega) (zWp_lt fun h10 e10 => ?_)))))
  have o10 : ∀ r, ¬ r = T → h10 r = h7 r := fun r hr => by rw [e10, zset_n hr, e9, zset_n hr, e8, zset_n hr]
  have o6 : ∀ r, ¬ (r = T ∨ r = T + 7) → h10 r = h6 r := fun r hr => by rw [o10 r (by omega), u7.2 r (by omega)]
  have o4 : ∀ r i, ¬ (r = T ∨ r = T + 7 ∨ r = T + 5 ∨ r = T + 6) → h10 r i = h4 r i := fun r i hr => by rw [o6 r (by omega), e6, zcpy_o (by omega), e5, zcpy_o (by omega)]
  have o0 : ∀ r i, ¬ (T ≤ r ∧ r < T + 8) → h10 r i = h r i := fun r i hr => by rw [o4 r i (by omega), u4.2 r (by omega), u3.2 r (by omega), u2.2 r (by omega), u1.2 r (by omega)]
  have f10 : frS T h h10 := fun r hr => by funext i; exact o0 r i hr
  have g10 := g.s hT f10
  have t10 : CT σ (stB σ 0 0) T h10 := by
    refine ⟨hT, fun i a b => ⟨?_, ?_, ?_⟩, fun c a b => ?_, fun c a b => ⟨?_, ?_⟩, fun o a b => ?_, ⟨0, ?_, by decide, fun i => ?_⟩, ⟨0, ?_, by decide, fun i => ?_⟩, ?_⟩
    · rw [o4 _ _ (by omega), u4.2 _ (by omega), u3.2 _ (by omega), u2.2 _ (by omega), u1.1 i a b, stB_1, if_neg (by omega)]
    · rw [o4 _ _ (by omega), u4.2 _ (by omega), u3.2 _ (by omega), u2.1 i a b, stB_o (by decide) (by decide) (by decide)]; rfl
    · rw [o4 _ _ (by omega), u4.2 _ (by omega), u3.1 i a b, stB_o (by decide) (by decide) (by decide)]; rfl
    · rw [o4 _ _ (by omega), u4.1 c a (by omega)]
      exact (sAt_no hS0 (fun j j1 j2 => by rw [stB_1, if_neg (by omega)]; omega)).symm
    · rw [o6 _ (by omega), e6, zcpy_o (by omega), e5, zcpy_i (by omega), u4.2 _ (by omega), u3.2 _ (by omega), u2.2 _ (by omega), u1.2 _ (by omega), stB_5, show 0 + (c - 0) = c by omega]
      exact g.g 5 (by decide)
    · rw [o6 _ (by omega), e6, zcpy_i (by omega), e5, zcpy_o (by omega), u4.2 _ (by omega), u3.2 _ (by omega), u2.2 _ (by omega), u1.2 _ (by omega), stB_6, show 0 + (c - 0) = c by omega]
      exact g.g 4 (by decide)
    · rw [o10 _ (by omega), u7.1 o a b, stB_o (by decide) (by decide) (by decide)]; rfl
    · rw [e10, zset_j (by decide), e9, zset_j (by decide), e8, zset_e]; rfl
    · rw [Nat.zero_testBit, stB_o (by decide) (by decide) (by decide)]
      exact (decide_eq_false (fun z => by have := z.2; omega)).symm
    · rw [e10, zset_j (by decide), e9, zset_e]; rfl
    · rw [Nat.zero_testBit, stB_o (by decide) (by decide) (by decide)]
      exact (decide_eq_false (fun z => by have := z.2; omega)).symm
    · rw [e10, zset_e, stB_o (by decide) (by decide) (by decide)]
  refine zWp_m (q_beg87 w (nS σ).toNat (by decide) (by omega) g10 t10) (fun v h' x => ⟨x.1, ?_, f10.t x.2.2⟩)
  rw [x.2.1 9, e10, zset_e]
theorem zor_by {a b : Int} (ha : 0 ≤ a ∧ a ≤ 255) (hb : 0 ≤ b ∧ b ≤ 255) : zor (zshl a 8) b = 256 * a + b := by
  obtain ⟨m, rfl⟩ := Int.eq_ofNat_of_zero_le ha.1
  obtain ⟨n, rfl⟩ := Int.eq_ofNat_of_zero_le hb.1
  rw [show (8 : Int) = ((8 : Nat) : Int) from rfl, zshl_n (by decide) (by omega), zor_n (by omega) (by omega), Nat.mul_comm, ← Nat.two_pow_add_eq_or_of_lt (by omega)]
  omega
theorem allB_t {f : Int → Bool} : ∀ (n : Nat) (i : Int), allB f n i = true ↔ ∀ j, i ≤ j → j < i + n → f j = true
  | 0, i => ⟨fun _ j j1 j2 => by omega, fun _ => rfl⟩
  | n + 1, i => by
    show (f i && allB f n (i + 1)) = true ↔ _
    rw [Bool.and_eq_true, allB_t n (i + 1)]
    constructor
    · intro h j j1 j2
      by_cases e : j = i
      · rw [e]; exact h.1
      · exact h.2 j (by omega) (by omega)
    · intro h
      exact ⟨h i (by omega) (by omega), fun j j1 j2 => h j (by omega) (by omega)⟩
theorem allB_c {f : Int → Bool} {n : Nat} {i : Int} (h : f i = true) : allB f (n + 1) i = allB f n (i + 1) := by
  show (f i && allB f n (i + 1)) = _
  rw [h, Bool.true_and]
theorem allB_f {f : Int → Bool} {n : Nat} {i : Int} (h : f i = false) : allB f (n + 1) i = false := by
  show (f i && allB f n (i + 1)) = _
  rw [h, Bool.false_and]
/-- what the bytes T tell: p stones, k houses, c cells of them -/
def jAt (σ : zH) (i : Int) : Int := nS σ + nHo σ + 4 * i
def jHo (σ : zH) (T : Int → Int) (i : Int) : Int := 256 * T (jAt σ i) + T (jAt σ i + 1)
def stJ (σ : zH) (T : Int → Int) (p k c : Int) : zH := fun a i =>
  if a = 1 then (if 0 ≤ i ∧ i < p then T i - 1 else -1)
  else if a = 9 then (if 0 ≤ i ∧ i < k then T (nS σ + i) else 0)
  else if a = 5 then (if 0 ≤ i ∧ i < c then jHo σ T i else σ 5 i)
  else if a = 6 then (if 0 ≤ i ∧ i < c then T (jAt σ i + 2) else σ 4 i)
  else if a = 8 then (if 0 ≤ i ∧ i < c then T (jAt σ i + 3) else 0)
  else 0
theorem stJ_1 {σ : zH} {T : Int → Int} {p k c i : Int} : stJ σ T p k c 1 i = if 0 ≤ i ∧ i < p then T i - 1 else -1 := by unfold stJ; rw [if_pos rfl]
theorem stJ_9 {σ : zH} {T : Int → Int} {p k c i : Int} : stJ σ T p k c 9 i = if 0 ≤ i ∧ i < k then T (nS σ + i) else 0 := by unfold stJ; rw [if_neg (by decide), if_pos rfl]
theorem stJ_5 {σ : zH} {T : Int → Int} {p k c i : Int} : stJ σ T p k c 5 i = if 0 ≤ i ∧ i < c then jHo σ T i else σ 5 i := by unfold stJ; rw [if_neg (by decide), if_neg (by decide), if_pos rfl]
theorem stJ_6 {σ : zH} {T : Int → Int} {p k c i : Int} : stJ σ T p k c 6 i = if 0 ≤ i ∧ i < c then T (jAt σ i + 2) else σ 4 i := by unfold stJ; rw [if_neg (by decide), if_neg (by decide), if_neg (by decide), if_pos rfl]
theorem stJ_8 {σ : zH} {T : Int → Int} {p k c i : Int} : stJ σ T p k c 8 i = if 0 ≤ i ∧ i < c then T (jAt σ i + 3) else 0 := by unfold stJ; rw [if_neg (by decide), if_neg (by decide), if_neg (by decide), if_neg (by decide), if_pos rfl]
theorem stJ_o {σ : zH} {T : Int → Int} {p k c i a : Int} (h1 : ¬ a = 1) (h9 : ¬ a = 9) (h5 : ¬ a = 5) (h6 : ¬ a = 6) (h8 : ¬ a = 8) : stJ σ T p k c a i = 0 := by unfold stJ; rw [if_neg h1, if_neg h9, if_neg h5, if_neg h6, if_neg h8]
theorem stJ_z {σ : zH} {T : Int → Int} {k : Int} (hk : 0 ≤ k) : stB σ k k = stJ σ T 0 0 0 := by
  funext a i
  unfold stB stJ
  by_cases e1 : a = 1
  · rw [if_pos e1, if_pos e1, if_neg (by omega), if_neg (by omega)]
  rw [if_neg e1, if_neg e1]
  by_cases e9 : a = 9
  · rw [if_pos e9, if_neg (by omega), if_neg (by omega), if_neg (by omega)]
  rw [if_neg e9]
  by_cases e5 : a = 5
  · rw [if_pos e5, if_pos e5, if_neg (by omega)]
  rw [if_neg e5, if_neg e5]
  by_cases e6 : a = 6
  · rw [if_pos e6, if_pos e6, if_neg (by omega)]
  rw [if_neg e6, if_neg e6]
  by_cases e8 : a = 8
  · rw [if_pos e8, if_neg (by omega)]
  rw [if_neg e8]
theorem stJ_p {σ : zH} {T : Int → Int} {p k c : Int} (hp : 0 ≤ p) : zset (stJ σ T p k c) 1 p (T p - 1) = stJ σ T (p + 1) k c := by
  funext a j
  rw [zset_x]
  by_cases e : a = 1
  · subst e
    rw [stJ_1, stJ_1]
    by_cases e2 : j = p
    · rw [if_pos ⟨rfl, e2⟩, if_pos (by omega), e2]
    · rw [if_neg (fun z => e2 z.2)]
      by_cases e3 : 0 ≤ j ∧ j < p
      · rw [if_pos e3, if_pos (by omega)]
      · rw [if_neg e3, if_neg (by omega)]
  · rw [if_neg (fun z => e z.1)]; unfold stJ; rw [if_neg e, if_neg e]
theorem stJ_p0 {σ : zH} {T : Int → Int} {p k c : Int} (hT : T p = 0) : stJ σ T p k c = stJ σ T (p + 1) k c := by
  funext a j
  by_cases e : a = 1
  · subst e
    rw [stJ_1, stJ_1]
    by_cases e2 : j = p
    · rw [if_neg (by omega), e2, hT]
      split <;> rfl
    · by_cases e3 : 0 ≤ j ∧ j < p
      · rw [if_pos e3, if_pos (by omega)]
      · rw [if_neg e3, if_neg (by omega)]
  · unfold stJ; rw [if_neg e, if_neg e]
/-- what the class has while it reads an image -/
def JC (σ : zH) (T : Int → Int) (a : Int) (h : zH) : Prop := h 0 7 = a ∧ CS σ a h ∧ WS σ ∧ (∀ j, 0 ≤ j → j < jAt σ (nC σ) → h 1 j = T j ∧ 0 ≤ T j ∧ T j ≤ 255)
theorem JC.q {σ : zH} {T : Int → Int} {a : Int} {h h' : zH} (c : JC σ T a h) (f : frS 75 h h') : JC σ T a h' := by
  obtain ⟨c1, c2, c3, c4⟩ := c
  exact ⟨by rw [f 0 (by decide)]; exact c1, c2.s sa75 f, c3, fun j j1 j2 => by rw [f 1 (by decide)]; exact c4 j j1 j2⟩
def jOk (σ : zH) (T : Int → Int) (i : Int) : Bool := decide (jHo σ T i ≤ 9999 ∧ T (jAt σ i + 2) ≤ 99 ∧ T (jAt σ i + 3) ≤ 1)
theorem q_readCells2 {d : Nat} {σ : zH} {T : Int → Int} {a : Int} : ∀ (n : Nat) {c : Int} {h : zH}, JC σ T a h → CT σ (stJ σ T 0 0 c) 75 h → 0 ≤ c → c + n = nC σ → zWp (l_B_readCells_2 (d + 1) (nS σ + nHo σ) c h) (fun v h' => v = .inl (if allB (jOk σ T) n c = true then 1 else 0) ∧ frS 75 h h' ∧ (allB (jOk σ T) n c = true → CT σ (stJ σ T 0 0 (nC σ)) 75 h'))
  | 0, c, h, j, t, hc, hh => by
    have ha := j.2.1.a
    have ec : c = nC σ := by omega
    rw [ec] at t
    rw [el_B_readCells_2, j.1]
    exact zWp_po (by omega) (zWp_qi (q_cells j.2.1 j.2.2.1) (zWp_nt (by omega) (zWp_s ⟨rfl, fun _ _ => rfl, fun _ => t⟩)))
  | n + 1, c, h, j, t, hc, hh => by
    have ha := j.2.1.a
    have w := j.2.2.1
    have hn := w.n
    have hS0 : 0 ≤ nS σ := w.2.1.2.2.1
    have hS10 : nS σ ≤ 10 := w.2.1.2.2.2.1
    have hH0 : 0 ≤ nHo σ := w.2.1.2.2.2.2.1
    have hH8 : nHo σ ≤ 8 := w.2.1.2.2.2.2.2.1
    have eA : jAt σ c = nS σ + nHo σ + 4 * c := rfl
    have eN : jAt σ (nC σ) = nS σ + nHo σ + 4 * nC σ := rfl
    obtain ⟨b0, b0l, b0h⟩ := j.2.2.2 (jAt σ c) (by omega) (by omega)
    obtain ⟨b1, b1l, b1h⟩ := j.2.2.2 (jAt σ c + 1) (by omega) (by omega)
    obtain ⟨b2, b2l, b2h⟩ := j.2.2.2 (jAt σ c + 2) (by omega) (by omega)
    obtain ⟨b3, b3l, b3h⟩ := j.2.2.2 (jAt σ c + 3) (by omega) (by omega)
    have x0 : w32 (nS σ + nHo σ + w32 (4 * c)) = jAt σ c := by rw [w32_i (x := 4 * c) (by omega), w32_i (by omega), eA]
    rw [el_B_readCells_2, j.1, x0, w32_i (x := jAt σ c + 1) (by omega), w32_i (x := jAt σ c + 2) (by omega), w32_i (x := jAt σ c + 3) (by omega), w32_i (x := c + 1) (by omega)]
    refine zWp_po (by omega) (zWp_qi (q_cells j.2.1 w) (zWp_it (by omega) (zWp_it (by omega) (zWp_it (by omega) ?_))))
    rw [b0, b1, b2, b3, zor_by ⟨b0l, b0h⟩ ⟨b1l, b1h⟩, show 256 * T (jAt σ c) + T (jAt σ c + 1) = jHo σ T c from rfl]
    by_cases k0 : 9999 < jHo σ T c
    · rw [allB_f (f := jOk σ T) (i := c) (decide_eq_false (fun z => by omega))]
      exact zWp_it k0 (zWp_s ⟨rfl, fun _ _ => rfl, fun z => by cases z⟩)
    refine zWp_nt k0 (zWp_it (by omega) ?_)
    by_cases k2 : 99 < T (jAt σ c + 2)
    · rw [allB_f (f := jOk σ T) (i := c) (decide_eq_false (fun z => by omega))]
      exact zWp_it k2 (zWp_s ⟨rfl, fun _ _ => rfl, fun z => by cases z⟩)
    refine zWp_nt k2 (zWp_it (by omega) ?_)
    by_cases k3 : 1 < T (jAt σ c + 3)
    · rw [allB_f (f := jOk σ T) (i := c) (decide_eq_false (fun z => by omega))]
      exact zWp_it k3 (zWp_s ⟨rfl, fun _ _ => rfl, fun z => by cases z⟩)
    rw [allB_c (f := jOk σ T) (i := c) (decide_eq_true (by omega))]
    refine zWp_nt k3 (zWp_it (by omega) (zWp_lt fun h3 e3 => zWp_it (by omega) (zWp_it (by omega) (zWp_lt fun h4 e4 => zWp_it (by omega) (zWp_lt fun h5 e5 => ?_)))))
    have r5 : ∀ r, ¬ (r = 75 ∨ r = 80 ∨ r = 81) → h5 r = h r := fun r hr => by rw [e5, zset_n (by omega), e4, zset_n (by omega), e3, zset_n (by omega)]
    have m5 : ∀ q, ¬ q = 7 → h5 75 q = h 75 q := fun q hq => by rw [e5, zset_j hq, e4, zset_o (by decide), e3, zset_o (by decide)]
    have f5 : frS 75 h h5 := fun r hr => r5 r (by omega)
    have v75 : h4 75 7 = h 75 7 := by rw [e4, zset_o (by decide), e3, zset_o (by decide)]
    have v1 : h4 1 (jAt σ c + 3) = T (jAt σ c + 3) := by rw [e4, zset_o (by decide), e3, zset_o (by decide), b3]
    have v2 : h3 1 (jAt σ c + 2) = T (jAt σ c + 2) := by rw [e3, zset_o (by decide), b2]
    have t5 : CT σ (stJ σ T 0 0 (c + 1)) 75 h5 := by
      obtain ⟨c0, c1, c2, c3, c4, ⟨N, n1, n2, n3⟩, c6, c7⟩ := t
      refine ⟨c0, fun i p q => ?_, fun i p q => ?_, fun i p q => ⟨?_, ?_⟩, fun i p q => ?_, ?_, ?_, ?_⟩
      · rw [r5 _ (by decide), r5 _ (by decide), r5 _ (by decide), stJ_1, stJ_o (by decide) (by decide) (by decide) (by decide) (by decide), stJ_o (by decide) (by decide) (by decide) (by decide) (by decide)]
        have := c1 i p q
        rw [stJ_1, stJ_o (by decide) (by decide) (by decide) (by decide) (by decide), stJ_o (by decide) (by decide) (by decide) (by decide) (by decide)] at this
        exact this
      · rw [r5 _ (by decide), sAt_cg (b := stJ σ T 0 0 c) (fun j _ _ => by rw [stJ_1, stJ_1]) i hS0]
        exact c2 i p q
      · have := (c3 i p q).1
        rw [stJ_5] at this ⊢
        show h5 80 i = _
        rw [e5, zset_o (by decide), e4, zset_o (by decide), e3, zset_g]
        by_cases e : i = c
        · rw [if_pos e, if_pos (by omega), e]
        · rw [if_neg e]
          have this' : h 80 i = _ := this
          rw [this']
          by_cases e2 : 0 ≤ i ∧ i < c
          · rw [if_pos e2, if_pos (by omega)]
          · rw [if_neg e2, if_neg (by omega)]
      · have := (c3 i p q).2
        rw [stJ_6] at this ⊢
        show h5 81 i = _
        rw [e5, zset_o (by decide), e4, zset_g, v2]
        by_cases e : i = c
        · rw [if_pos e, if_pos (by omega), e]
        · rw [if_neg e, e3, zset_o (by decide)]
          have this' : h 81 i = _ := this
          rw [this']
          by_cases e2 : 0 ≤ i ∧ i < c
          · rw [if_pos e2, if_pos (by omega)]
          · rw [if_neg e2, if_neg (by omega)]
      · rw [r5 _ (by decide), c4 i p q, stJ_o (by decide) (by decide) (by decide) (by decide) (by decide), stJ_o (by decide) (by decide) (by decide) (by decide) (by decide)]
      · by_cases e : T (jAt σ c + 3) = 1
        · obtain ⟨M, m1, m2, m3⟩ := zlor_bit (n := c) n1 n2 (by omega)
          refine ⟨M, ?_, m2, fun i => ?_⟩
          · rw [e5, zset_e, v75, v1, e]; exact m1
          · have hi := n3 i
            rw [stJ_8] at hi ⊢
            by_cases e2 : c = i
            · rw [(m3 i).2 (Or.inr e2)]
              refine (decide_eq_true ⟨by omega, ?_⟩).symm
              rw [if_pos (by omega), ← e2]; exact e
            · have hM : M.testBit i = N.testBit i := by
                cases hN : N.testBit i with
                | true => exact (m3 i).2 (Or.inl hN)
                | false =>
                  cases hM : M.testBit i with
                  | false => rfl
                  | true =>
                    rcases (m3 i).1 hM with z | z
                    · rw [hN] at z; cases z
                    · exact absurd z e2
              rw [hM, hi]
              by_cases e3 : 0 ≤ (i : Int) ∧ (i : Int) < c
              · rw [if_pos e3, if_pos (by omega)]
              · rw [if_neg e3, if_neg (by omega)]
        · have e0 : T (jAt σ c + 3) = 0 := by omega
          refine ⟨N, ?_, n2, fun i => ?_⟩
          · obtain ⟨u, hu⟩ := Int.eq_ofNat_of_zero_le hc
            rw [e5, zset_e, v75, v1, e0, hu, show (0 : Int) = ((0 : Nat) : Int) from rfl, zlshl_n (by omega) (by omega), n1, Nat.zero_mul, zlor_n (by omega) (by decide), Nat.or_zero]
          · have hi := n3 i
            rw [stJ_8] at hi ⊢
            rw [hi]
            by_cases e3 : 0 ≤ (i : Int) ∧ (i : Int) < c
            · rw [if_pos e3, if_pos (by omega)]
            · rw [if_neg e3]
              by_cases e4 : c = i
              · rw [if_pos (by omega), ← e4, e0]
              · rw [if_neg (by omega)]
      · obtain ⟨N', q1, q2, q3⟩ := c6
        refine ⟨N', by rw [m5 8 (by decide)]; exact q1, q2, fun i => ?_⟩
        have := q3 i
        rw [stJ_9] at this ⊢
        exact this
      · rw [m5 9 (by decide), c7, stJ_o (by decide) (by decide) (by decide) (by decide) (by decide), stJ_o (by decide) (by decide) (by decide) (by decide) (by decide)]
    exact zWp_m (q_readCells2 n (j.q f5) t5 (by omega) (by omega)) (fun v h' u => ⟨u.1, f5.t u.2.1, u.2.2⟩)
