/-! copying of a version -/
def zB (h : zH) (r K n t f : Int) : Int → Int := fun i => if K * t ≤ i ∧ i < K * t + n then h r (K * f + (i - K * t)) else h r i
theorem zB_0 {h : zH} {r K t f : Int} : zB h r K 0 t f = h r := by
  funext i; unfold zB; rw [if_neg (by omega)]
theorem zB_s {h : zH} {r K k t f : Int} (hk : 0 ≤ k) (c : zH) (hc : c r = zB h r K k t f) (ha : ¬ (K * t ≤ K * f + k ∧ K * f + k < K * t + k)) : zset c r (K * t + k) (c r (K * f + k)) r = zB h r K (k + 1) t f := by
  funext i
  rw [zset_g, hc]
  unfold zB
  rw [if_neg ha]
  by_cases e : i = K * t + k
  · rw [if_pos e, if_pos (by omega), e]
    congr 1; omega
  · rw [if_neg e]
    by_cases e2 : K * t ≤ i ∧ i < K * t + k
    · rw [if_pos e2, if_pos (by omega)]
    · rw [if_neg e2, if_neg (by omega)]
theorem zB_in {h : zH} {r K n t f i : Int} (hi : 0 ≤ i ∧ i < n) : zB h r K n t f (K * t + i) = h r (K * f + i) := by
  unfold zB; rw [if_pos (by omega)]; congr 1; omega
theorem zB_o {h : zH} {r K n t f i : Int} (hi : ¬ (K * t ≤ i ∧ i < K * t + n)) : zB h r K n t f i = h r i := by
  unfold zB; rw [if_neg hi]
theorem apt {K t f k : Int} (hK : 0 < K) (hk : 0 ≤ k ∧ k < K) (h : ¬ t = f) : ¬ (K * t ≤ K * f + k ∧ K * f + k < K * t + k) := by
  intro z
  have z1 : K * f < K * t := by omega
  have h1 : f < t := Int.lt_of_mul_lt_mul_left z1 (by omega)
  have h2 : K * (f + 1) ≤ K * t := Int.mul_le_mul_of_nonneg_left (by omega) (by omega)
  rw [Int.mul_add] at h2
  omega
theorem q_cp2 {d : Nat} {t f : Int} {h : zH} (ht : 0 ≤ t ∧ t ≤ 34) (hf : 0 ≤ f ∧ f ≤ 34) (hne : ¬ t = f) {Q : zV → zH → Prop} (K : ∀ c', c' 444 = zB h 444 10 10 t f → c' 445 = zB h 445 10 10 t f → c' 446 = zB h 446 10 10 t f → (∀ r, ¬ (r = 444 ∨ r = 445 ∨ r = 446) → c' r = h r) → zWp (l_R_copies_82 d t f 0 c') Q) : ∀ (n : Nat) {k : Int} {c : zH}, 0 ≤ k → k + n = 10 → c 444 = zB h 444 10 k t f → c 445 = zB h 445 10 k t f → c 446 = zB h 446 10 k t f → (∀ r, ¬ (r = 444 ∨ r = 445 ∨ r = 446) → c r = h r) → zWp (l_R_copies_2 d t f k c) Q := by
  intro n
  induction n with
  | zero =>
    intro k c hk hn i444 i445 i446 ho
    obtain rfl : k = 10 := by omega
    rw [el_R_copies_2]
    exact zWp_nt (by omega) (K c i444 i445 i446 ho)
  | succ n ih =>
    intro k c hk hn i444 i445 i446 ho
    have ix : w32 (w32 (10 * f) + k) = 10 * f + k := ixw (by omega) (by omega)
    have iy : w32 (w32 (10 * t) + k) = 10 * t + k := ixw (by omega) (by omega)
    have ap := apt (K := 10) (t := t) (f := f) (k := k) (by decide) (by omega) hne
    rw [el_R_copies_2, ix, iy]
    refine zWp_it (by omega) ?_
    refine zWp_it (by omega) (zWp_it (by omega) (zWp_lt fun g444 e444 => ?_))
    refine zWp_it (by omega) (zWp_it (by omega) (zWp_lt fun g445 e445 => ?_))
    refine zWp_it (by omega) (zWp_it (by omega) (zWp_lt fun g446 e446 => ?_))
    rw [w32_i (by omega)]
    have n444 : ∀ r, ¬ r = 444 → g444 r = c r := fun r hr => by rw [e444, zset_n hr]
    have n445 : ∀ r, ¬ r = 445 → g445 r = g444 r := fun r hr => by rw [e445, zset_n hr]
    have n446 : ∀ r, ¬ r = 446 → g446 r = g445 r := fun r hr => by rw [e446, zset_n hr]
    exact ih (by omega) (by omega) (by rw [n446 444 (by decide), n445 444 (by decide)]; rw [e444]; exact zB_s hk c (i444) ap) (by rw [n446 445 (by decide)]; rw [e445]; exact zB_s hk g444 (by rw [n444 445 (by decide)]; exact i445) ap) (by rw [e446]; exact zB_s hk g445 (by rw [n445 446 (by decide), n444 446 (by decide)]; exact i446) ap) (fun r hr => by rw [n446 r (by omega), n445 r (by omega), n444 r (by omega)]; exact ho r hr)
theorem q_cp82 {d : Nat} {t f : Int} {h : zH} (ht : 0 ≤ t ∧ t ≤ 34) (hf : 0 ≤ f ∧ f ≤ 34) (hne : ¬ t = f) {Q : zV → zH → Prop} (K : ∀ c', c' 447 = zB h 447 8 8 t f → (∀ r, ¬ (r = 447) → c' r = h r) → zWp (l_R_copies_118 d t f 0 c') Q) : ∀ (n : Nat) {k : Int} {c : zH}, 0 ≤ k → k + n = 8 → c 447 = zB h 447 8 k t f → (∀ r, ¬ (r = 447) → c r = h r) → zWp (l_R_copies_82 d t f k c) Q := by
  intro n
  induction n with
  | zero =>
    intro k c hk hn i447 ho
    obtain rfl : k = 8 := by omega
    rw [el_R_copies_82]
    exact zWp_nt (by omega) (K c i447 ho)
  | succ n ih =>
    intro k c hk hn i447 ho
    have ix : w32 (w32 (8 * f) + k) = 8 * f + k := ixw (by omega) (by omega)
    have iy : w32 (w32 (8 * t) + k) = 8 * t + k := ixw (by omega) (by omega)
    have ap := apt (K := 8) (t := t) (f := f) (k := k) (by decide) (by omega) hne
    rw [el_R_copies_82, ix, iy]
    refine zWp_it (by omega) ?_
    refine zWp_it (by omega) (zWp_it (by omega) (zWp_lt fun g447 e447 => ?_))
    rw [w32_i (by omega)]
    have n447 : ∀ r, ¬ r = 447 → g447 r = c r := fun r hr => by rw [e447, zset_n hr]
    exact ih (by omega) (by omega) (by rw [e447]; exact zB_s hk c (i447) ap) (fun r hr => by rw [n447 r (by omega)]; exact ho r hr)
theorem q_cp118 {d : Nat} {t f : Int} {h : zH} (ht : 0 ≤ t ∧ t ≤ 34) (hf : 0 ≤ f ∧ f ≤ 34) (hne : ¬ t = f) {Q : zV → zH → Prop} (K : ∀ c', c' 448 = zB h 448 60 60 t f → c' 449 = zB h 449 60 60 t f → c' 450 = zB h 450 60 60 t f → (∀ r, ¬ (r = 448 ∨ r = 449 ∨ r = 450) → c' r = h r) → zWp ((if t = 0 then l_R_copies_208 d t f 0 c' else if t < 5 then some (.inl 0, c') else l_R_copies_208 d t f 0 c')) Q) : ∀ (n : Nat) {k : Int} {c : zH}, 0 ≤ k → k + n = 60 → c 448 = zB h 448 60 k t f → c 449 = zB h 449 60 k t f → c 450 = zB h 450 60 k t f → (∀ r, ¬ (r = 448 ∨ r = 449 ∨ r = 450) → c r = h r) → zWp (l_R_copies_118 d t f k c) Q := by
  intro n
  induction n with
  | zero =>
    intro k c hk hn i448 i449 i450 ho
    obtain rfl : k = 60 := by omega
    rw [el_R_copies_118]
    exact zWp_nt (by omega) (K c i448 i449 i450 ho)
  | succ n ih =>
    intro k c hk hn i448 i449 i450 ho
    have ix : w32 (w32 (60 * f) + k) = 60 * f + k := ixw (by omega) (by omega)
    have iy : w32 (w32 (60 * t) + k) = 60 * t + k := ixw (by omega) (by omega)
    have ap := apt (K := 60) (t := t) (f := f) (k := k) (by decide) (by omega) hne
    rw [el_R_copies_118, ix, iy]
    refine zWp_it (by omega) ?_
    refine zWp_it (by omega) (zWp_it (by omega) (zWp_lt fun g448 e448 => ?_))
    refine zWp_it (by omega) (zWp_it (by omega) (zWp_lt fun g449 e449 => ?_))
    refine zWp_it (by omega) (zWp_it (by omega) (zWp_lt fun g450 e450 => ?_))
    rw [w32_i (by omega)]
    have n448 : ∀ r, ¬ r = 448 → g448 r = c r := fun r hr => by rw [e448, zset_n hr]
    have n449 : ∀ r, ¬ r = 449 → g449 r = g448 r := fun r hr => by rw [e449, zset_n hr]
    have n450 : ∀ r, ¬ r = 450 → g450 r = g449 r := fun r hr => by rw [e450, zset_n hr]
    exact ih (by omega) (by omega) (by rw [n450 448 (by decide), n449 448 (by decide)]; rw [e448]; exact zB_s hk c (i448) ap) (by rw [n450 449 (by decide)]; rw [e449]; exact zB_s hk g448 (by rw [n448 449 (by decide)]; exact i449) ap) (by rw [e450]; exact zB_s hk g449 (by rw [n449 450 (by decide), n448 450 (by decide)]; exact i450) ap) (fun r hr => by rw [n450 r (by omega), n449 r (by omega), n448 r (by omega)]; exact ho r hr)
theorem q_cp208 {d : Nat} {t f : Int} {h : zH} (ht : 0 ≤ t ∧ t ≤ 34) (hf : 0 ≤ f ∧ f ≤ 34) (hne : ¬ t = f) {Q : zV → zH → Prop} (K : ∀ c', c' 451 = zB h 451 6 6 t f → (∀ r, ¬ (r = 451) → c' r = h r) → zWp ((if 0 ≤ f ∧ f < ((35 : Nat) : Int) then (if 0 ≤ t ∧ t < ((35 : Nat) : Int) then (zlt (zset c' 452 t (c' 452 f)) fun h1 => (l_R_copies_256 d t f 0 h1)) else none) else none)) Q) : ∀ (n : Nat) {k : Int} {c : zH}, 0 ≤ k → k + n = 6 → c 451 = zB h 451 6 k t f → (∀ r, ¬ (r = 451) → c r = h r) → zWp (l_R_copies_208 d t f k c) Q := by
  intro n
  induction n with
  | zero =>
    intro k c hk hn i451 ho
    obtain rfl : k = 6 := by omega
    rw [el_R_copies_208]
    exact zWp_nt (by omega) (K c i451 ho)
  | succ n ih =>
    intro k c hk hn i451 ho
    have ix : w32 (w32 (6 * f) + k) = 6 * f + k := ixw (by omega) (by omega)
    have iy : w32 (w32 (6 * t) + k) = 6 * t + k := ixw (by omega) (by omega)
    have ap := apt (K := 6) (t := t) (f := f) (k := k) (by decide) (by omega) hne
    rw [el_R_copies_208, ix, iy]
    refine zWp_it (by omega) ?_
    refine zWp_it (by omega) (zWp_it (by omega) (zWp_lt fun g451 e451 => ?_))
    rw [w32_i (by omega)]
    have n451 : ∀ r, ¬ r = 451 → g451 r = c r := fun r hr => by rw [e451, zset_n hr]
    exact ih (by omega) (by omega) (by rw [e451]; exact zB_s hk c (i451) ap) (fun r hr => by rw [n451 r (by omega)]; exact ho r hr)
/-- what a copy leaves -/
def CpA (h h' : zH) (t f : Int) : Prop := h' 444 = zB h 444 10 10 t f ∧ h' 445 = zB h 445 10 10 t f ∧ h' 446 = zB h 446 10 10 t f ∧ h' 447 = zB h 447 8 8 t f ∧ h' 448 = zB h 448 60 60 t f ∧ h' 449 = zB h 449 60 60 t f ∧ h' 450 = zB h 450 60 60 t f
theorem q_copiesA {d : Nat} {t f : Int} {h : zH} (ht : 0 ≤ t ∧ t ≤ 34) (hf : 0 ≤ f ∧ f ≤ 34) (hne : ¬ t = f) {Q : zV → zH → Prop} (K : ∀ c', CpA h c' t f → (∀ r, ¬ (444 ≤ r ∧ r ≤ 450) → c' r = h r) → zWp (if t = 0 then l_R_copies_208 d t f 0 c' else if t < 5 then some (.inl 0, c') else l_R_copies_208 d t f 0 c') Q) : zWp (m_R_copies (d + 1) t f h) Q := by
  rw [em_R_copies]
  refine q_cp2 (h := h) ht hf hne (fun c1 a1 a2 a3 a4 => ?_) 10 (by omega) (by omega) zB_0.symm zB_0.symm zB_0.symm (fun _ _ => rfl)
  refine q_cp82 (h := c1) ht hf hne (fun c2 b1 b2 => ?_) 8 (by omega) (by omega) zB_0.symm (fun _ _ => rfl)
  refine q_cp118 (h := c2) ht hf hne (fun c3 d1 d2 d3 d4 => K c3 ?_ (fun r hr => ?_)) 60 (by omega) (by omega) zB_0.symm zB_0.symm zB_0.symm (fun _ _ => rfl)
  · refine ⟨?_, ?_, ?_, ?_, ?_, ?_, ?_⟩
    · rw [d4 444 (by decide), b2 444 (by decide), a1]
    · rw [d4 445 (by decide), b2 445 (by decide), a2]
    · rw [d4 446 (by decide), b2 446 (by decide), a3]
    · rw [d4 447 (by decide), b1]; unfold zB; rw [a4 447 (by decide)]
    · rw [d1]; unfold zB; rw [b2 448 (by decide), a4 448 (by decide)]
    · rw [d2]; unfold zB; rw [b2 449 (by decide), a4 449 (by decide)]
    · rw [d3]; unfold zB; rw [b2 450 (by decide), a4 450 (by decide)]
  · rw [d4 r (by omega), b2 r (by omega), a4 r (by omega)]
theorem CpA.t {σ st : zH} {h h' : zH} {t f : Int} (w : WS σ) (c : CpA h h' t f) (ht : 0 ≤ t ∧ t ≤ 34) (r : RT σ st f h) : RT σ st t h' := by
  have hn := w.n
  have hS10 : nS σ ≤ 10 := w.2.1.2.2.2.1
  have hH8 : nHo σ ≤ 8 := w.2.1.2.2.2.2.2.1
  obtain ⟨c1, c2, c3, c4, c5, c6, c7⟩ := c
  obtain ⟨-, r1, r2, r3⟩ := r
  refine ⟨ht, fun i a b => ?_, fun i a b => ?_, fun i a b => ?_⟩
  · rw [c1, c2, c3, zB_in (by omega), zB_in (by omega), zB_in (by omega)]; exact r1 i a b
  · rw [c4, zB_in (by omega)]; exact r2 i a b
  · rw [c5, c6, c7, zB_in (by omega), zB_in (by omega), zB_in (by omega)]; exact r3 i a b
theorem CpA.o {σ st : zH} {h h' : zH} {t f u : Int} (w : WS σ) (c : CpA h h' t f) (hu : ¬ u = t) (r : RT σ st u h) : RT σ st u h' := by
  have hn := w.n
  have hS10 : nS σ ≤ 10 := w.2.1.2.2.2.1
  have hH8 : nHo σ ≤ 8 := w.2.1.2.2.2.2.2.1
  obtain ⟨c1, c2, c3, c4, c5, c6, c7⟩ := c
  obtain ⟨r0, r1, r2, r3⟩ := r
  refine ⟨r0, fun i a b => ?_, fun i a b => ?_, fun i a b => ?_⟩
  · rw [c1, c2, c3, zB_o (by omega), zB_o (by omega), zB_o (by omega)]; exact r1 i a b
  · rw [c4, zB_o (by omega)]; exact r2 i a b
  · rw [c5, c6, c7, zB_o (by omega), zB_o (by omega), zB_o (by omega)]; exact r3 i a b
theorem q_copiesT {d : Nat} {t f : Int} {h : zH} (ht : 1 ≤ t ∧ t < 5) (hf : 0 ≤ f ∧ f ≤ 34) (hne : ¬ t = f) : zWp (m_R_copies (d + 1) t f h) (fun _ h' => CpA h h' t f ∧ ∀ r, ¬ (444 ≤ r ∧ r ≤ 450) → h' r = h r) :=
  q_copiesA (by omega) hf hne (fun c' a b => zWp_nt (by omega) (zWp_it ht.2 (zWp_s ⟨a, b⟩)))
