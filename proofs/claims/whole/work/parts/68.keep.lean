/-! keeping a state, both sides -/
def kp (st : zH) (D : zDR) (K : zKp) : zKp := (st, D) :: K.take 29
theorem kp_len {st : zH} {D : zDR} {K : zKp} : ((kp st D K).length : Int) = (if (K.length : Int) < 29 then (K.length : Int) else 29) + 1 := by
  unfold kp
  rw [List.length_cons, List.length_take]
  by_cases e : (K.length : Int) < 29
  · rw [if_pos e, Nat.min_eq_right (by omega)]; omega
  · rw [if_neg e, Nat.min_eq_left (by omega)]; omega
theorem take_get {α : Type} {l : List α} {n j : Nat} {k : α} (h : (l.take n)[j]? = some k) : j < n ∧ l[j]? = some k := by
  rw [List.getElem?_take] at h
  by_cases e : j < n
  · rw [if_pos e] at h; exact ⟨e, h⟩
  · rw [if_neg e] at h; cases h
theorem WK.tk {σ : zH} : ∀ {K : zKp} {D : zDR} (n : Nat), WK σ D K → WK σ D (K.take n)
  | [], D, n, h => by rw [List.take_nil]; exact h
  | k :: K, D, 0, h => trivial
  | k :: K, D, n + 1, h => ⟨h.1, h.2.1, WK.tk n h.2.2⟩
theorem WK.kp {σ st : zH} {D : zDR} {K : zKp} (h : WK σ D K) (wt : WT σ st) : WK σ D (kp st D K) := ⟨wt, List.prefix_refl D, h.tk 29⟩
theorem WK.ap {σ : zH} : ∀ {K : zKp} {D D' : zDR}, WK σ D K → D <+: D' → WK σ D' K
  | [], _, _, _, _ => trivial
  | _ :: _, _, _, h, p => ⟨h.1, h.2.1.trans p, h.2.2⟩
theorem q_keep {d : Nat} {σ st : zH} {D : zDR} {K : zKp} {h : zH} (w : WS σ) (t : CT σ st 67 h) (cr : CRg σ K h) (ck : ∀ i, 0 ≤ i → i < 30 → h 85 i = 86 + 8 * i) (h9 : h 67 9 = D.length) : zWp (m_History_keep (d + 2) 84 67 h) (fun _ h' => CRg σ (kp st D K) h' ∧ ∀ r, ¬ (r = 84 ∨ 86 ≤ r ∧ r < 326) → h' r = h r) := by
  obtain ⟨⟨k1, k2⟩, k3, k4⟩ := cr
  have en : Int.tmod (w32 (h 84 1 + 1)) 30 = (h 84 1 + 1) % 30 := by rw [w32_i (by omega), Int.tmod_eq_emod_of_nonneg (by omega)]
  rw [em_History_keep, en]
  refine zWp_po (by decide) (zWp_po (by decide) (zWp_lt fun h1 e1 => ?_))
  have a1 : h1 84 1 = (h 84 1 + 1) % 30 := by rw [e1, zset_e]
  have a2 : h1 84 2 = K.length := by rw [e1, zset_j (by decide)]; exact k1
  have r1 : ∀ r, ¬ r = 84 → h1 r = h r := fun r hr => by rw [e1, zset_n hr]
  have a3 : h1 (84 + 1) ((h 84 1 + 1) % 30) = 86 + 8 * ((h 84 1 + 1) % 30) := by
    show h1 85 _ = _
    rw [r1 85 (by decide)]; exact ck _ (by omega) (by omega)
  rw [a1, a3]
  have hT : SA (86 + 8 * ((h 84 1 + 1) % 30)) := by unfold SA; omega
  obtain ⟨v, h2, e2, t2, g2, f2⟩ := q_copyT (d := d) w hT (by omega) (t.fr (fun r _ _ => r1 r (by omega)))
  refine zWp_po (by decide) (zWp_po (by decide) (zWp_po (by decide) (zWp_it (by omega) (zWp_nt (by omega) (zWp_po (by omega) (zWp_qv e2 ?_))))))
  have b2 : h2 84 2 = K.length := by rw [f2 84 (by omega)]; exact a2
  rw [el_History_keep_32, b2, w32_i (by omega)]
  refine zWp_po (by decide) (zWp_qi q_min (zWp_po (by decide) (zWp_lt fun h3 e3 => zWp_s ⟨?_, fun r hr => by rw [e3, zset_n (by omega), f2 r (by omega), r1 r (by omega)]⟩)))
  have r3 : ∀ r, ¬ r = 84 → h3 r = h2 r := fun r hr => by rw [e3, zset_n hr]
  have n3 : h3 84 1 = (h 84 1 + 1) % 30 := by rw [e3, zset_j (by decide), f2 84 (by omega), a1]
  have kl := kp_len (st := st) (D := D) (K := K)
  refine ⟨⟨?_, ?_⟩, by rw [n3]; omega, fun j k hj => ?_⟩
  · rw [e3, zset_e, kl]
    by_cases e : (K.length : Int) < 29
    · rw [if_pos e, if_pos (by omega)]
    · rw [if_neg e]
      by_cases e' : (K.length : Int) + 1 < 30
      · omega
      · rw [if_neg e']; rfl
  · rw [kl]
    by_cases e : (K.length : Int) < 29
    · rw [if_pos e]; omega
    · rw [if_neg e]; decide
  · rw [n3]
    cases j with
    | zero =>
      have ek : k = (st, D) := (Option.some.inj hj).symm
      have ea : kAt ((h 84 1 + 1) % 30) ((0 : Nat) : Int) = 86 + 8 * ((h 84 1 + 1) % 30) := by unfold kAt; omega
      rw [ek, ea]
      refine ⟨t2.fr (fun r _ _ => r3 r (by omega)), ?_⟩
      rw [r3 _ (by omega), g2, r1 67 (by decide)]
      exact h9
    | succ j =>
      obtain ⟨j1, j2⟩ := take_get (show (K.take 29)[j]? = some k from hj)
      obtain ⟨u1, u2⟩ := k4 j k j2
      have ea : kAt ((h 84 1 + 1) % 30) ((j + 1 : Nat) : Int) = kAt (h 84 1) j := by unfold kAt; omega
      have eb : kAt (h 84 1) j + 8 ≤ 86 + 8 * ((h 84 1 + 1) % 30) ∨ 86 + 8 * ((h 84 1 + 1) % 30) + 8 ≤ kAt (h 84 1) j := by unfold kAt; omega
      have hi := kAt_in (n := h 84 1) (j := j)
      have fr : ∀ r, kAt (h 84 1) j ≤ r → r < kAt (h 84 1) j + 8 → h3 r = h r := fun r q1 q2 => by rw [r3 r (by omega), f2 r (by omega), r1 r (by omega)]
      rw [ea]
      exact ⟨u1.fr fr, by rw [fr _ (by omega) (by omega)]; exact u2⟩
theorem q_remember {d : Nat} {σ st : zH} {D : zDR} {K : zKp} {Λ : zLw} {G h : zH} (c : CI σ st D K Λ G h) : zWp (m_B_remember (d + 3) h) (fun _ h' => CI σ st D (kp st D K) Λ G h' ∧ h' 331 4 = 0 ∧ ∀ r, ¬ (84 ≤ r ∧ r < 326 ∨ r = 331) → h' r = h r) := by
  obtain ⟨c1, c2, c3, c4, c5, c6, c7, c8⟩ := c
  have ha := c1.2.1.a
  rw [em_B_remember]
  obtain ⟨v, h1, e1, u1, u2⟩ := q_keep (d := d) (D := D) c1.2.2.2.1 c1.2.2.1 c6 c4.2.1 c5.1.1
  refine zWp_qv e1 ?_
  have e2 : m_NetSearch_forget (d + 2) 331 h1 = some (.inl 0, zset h1 331 4 0) := by rw [em_NetSearch_forget, zpo_t (by decide), zlt_e]
  refine zWp_qv e2 (zWp_s ⟨?_, zset_e, fun r hr => by rw [zset_n (by omega), u2 r (by omega)]⟩)
  have r2 : ∀ r, ¬ (r = 84 ∨ 86 ≤ r ∧ r < 326 ∨ r = 331) → zset h1 331 4 0 r = h r := fun r hr => by rw [zset_n (by omega), u2 r (by omega)]
  have e0 : zset h1 331 4 0 0 = h 0 := r2 0 (by decide)
  refine ⟨⟨rfl, ?_, c1.2.2.1.fr (fun r q1 q2 => r2 r (by omega)), c1.2.2.2⟩, by rw [e0]; exact c2, c3.fr (fun r z => r2 r (by omega)), c4.fr (fun r z => r2 r (by omega)), c5.fr (by rw [r2 67 (by decide)]) (r2 327 (by decide)), u1.fr (fun r z => zset_n (by omega)), Or.inl zset_e, ?_⟩
  · rw [e0]; exact c1.2.1.fr (fun r q1 q2 => r2 r (by omega))
  · rw [e0]; exact c8.fr (fun r q1 q2 => r2 r (by omega)) (fun q _ => by rw [r2 _ (by omega)])
/-! the reference -/
theorem q_cp256 {d : Nat} {t f T : Int} {h : zH} (ht : 0 ≤ t ∧ t ≤ 34) (hf : 0 ≤ f ∧ f ≤ 34) (hne : ¬ t = f) (hT : 0 ≤ T ∧ T ≤ 99) {Q : zV → zH → Prop} (N : ∀ c', c' 453 = zB h 453 396 (4 * T) t f → (∀ r, ¬ (r = 453) → c' r = h r) → Q (.inl 0) c') (e4 : h 452 f = T) : ∀ (n : Nat) {k : Int} {c : zH}, 0 ≤ k → k + n = 4 * T → c 453 = zB h 453 396 k t f → (∀ r, ¬ (r = 453) → c r = h r) → zWp (l_R_copies_256 d t f k c) Q := by
  intro n
  induction n with
  | zero =>
    intro k c hk hn i451 ho
    obtain rfl : k = 4 * T := by omega
    rw [el_R_copies_256, ho 452 (by decide), e4, w32_i (by omega)]
    exact zWp_it (by omega) (zWp_nt (by omega) (zWp_s (N c i451 ho)))
  | succ n ih =>
    intro k c hk hn i451 ho
    have ix : w32 (w32 (396 * f) + k) = 396 * f + k := ixw (by omega) (by omega)
    have iy : w32 (w32 (396 * t) + k) = 396 * t + k := ixw (by omega) (by omega)
    have ap := apt (K := 396) (t := t) (f := f) (k := k) (by decide) (by omega) hne
    rw [el_R_copies_256, ix, iy, ho 452 (by decide), e4, w32_i (x := 4 * T) (by omega)]
    refine zWp_it (by omega) (zWp_it (by omega) ?_)
    refine zWp_it (by omega) (zWp_it (by omega) (zWp_lt fun g451 e451 => ?_))
    rw [w32_i (by omega)]
    have n451 : ∀ r, ¬ r = 453 → g451 r = c r := fun r hr => by rw [e451, zset_n hr]
    exact ih (by omega) (by omega) (by rw [e451]; exact zB_s hk c (i451) ap) (fun r hr => by rw [n451 r (by omega)]; exact ho r hr)
def CpD (h h' : zH) (t f : Int) : Prop := h' 451 = zB h 451 6 6 t f ∧ (h' 452 t = h 452 f ∧ ∀ u, ¬ u = t → h' 452 u = h 452 u) ∧ h' 453 = zB h 453 396 (4 * h 452 f) t f
theorem q_copiesK {d : Nat} {t f : Int} {h : zH} (ht : 0 ≤ t ∧ t ≤ 34) (hf : 0 ≤ f ∧ f ≤ 34) (hne : ¬ t = f) (h5 : t = 0 ∨ 5 ≤ t) (hT : 0 ≤ h 452 f ∧ h 452 f ≤ 99) : zWp (m_R_copies (d + 1) t f h) (fun _ h' => CpA h h' t f ∧ CpD h h' t f ∧ ∀ r, ¬ (444 ≤ r ∧ r ≤ 453) → h' r = h r) := by
  refine q_copiesA ht hf hne (fun c1 a1 o1 => ?_)
  have fin : zWp (l_R_copies_208 d t f 0 c1) (fun _ h' => CpA h h' t f ∧ CpD h h' t f ∧ ∀ r, ¬ (444 ≤ r ∧ r ≤ 453) → h' r = h r) := by
    refine q_cp208 (h := c1) ht hf hne (fun c2 b1 o2 => ?_) 6 (by omega) (by omega) zB_0.symm (fun _ _ => rfl)
    refine zWp_it (by omega) (zWp_it (by omega) (zWp_lt fun c3 e3 => ?_))
    have o3 : ∀ r, ¬ r = 452 → c3 r = c2 r := fun r hr => by rw [e3, zset_n hr]
    have e452 : c2 452 = h 452 := by rw [o2 452 (by decide), o1 452 (by decide)]
    have f3 : c3 452 f = h 452 f := by rw [e3, zset_j (fun z => hne z.symm), e452]
    refine q_cp256 (h := c3) ht hf hne hT (fun c4 d1 o4 => ?_) f3 (4 * h 452 f).toNat (k := 0) (by omega) (by omega) zB_0.symm (fun _ _ => rfl)
    refine ⟨?_, ⟨?_, ⟨?_, fun u hu => ?_⟩, ?_⟩, fun r hr => by rw [o4 r (by omega), o3 r (by omega), o2 r (by omega), o1 r (by omega)]⟩
    · obtain ⟨p1, p2, p3, p4, p5, p6, p7⟩ := a1
      have g : ∀ r, 444 ≤ r → r ≤ 450 → c4 r = c1 r := fun r q1 q2 => by rw [o4 r (by omega), o3 r (by omega), o2 r (by omega)]
      exact ⟨by rw [g 444 (by decide) (by decide)]; exact p1, by rw [g 445 (by decide) (by decide)]; exact p2, by rw [g 446 (by decide) (by decide)]; exact p3, by rw [g 447 (by decide) (by decide)]; exact p4, by rw [g 448 (by decide) (by decide)]; exact p5, by rw [g 449 (by decide) (by decide)]; exact p6, by rw [g 450 (by decide) (by decide)]; exact p7⟩
    · rw [o4 451 (by decide), o3 451 (by decide), b1]; unfold zB; rw [o1 451 (by decide)]
    · rw [o4 452 (by decide), e3, zset_e, e452]
    · rw [o4 452 (by decide), e3, zset_j hu, e452]
    · rw [d1]; unfold zB; rw [o3 453 (by decide), o2 453 (by decide), o1 453 (by decide)]
  rcases h5 with e | e
  · exact zWp_it e fin
  · exact zWp_nt (by omega) (zWp_nt (by omega) fin)
theorem CpD.t {Δ : zDu} {h h' : zH} {t f : Int} (c : CpD h h' t f) (r : RDv Δ f h) : RDv Δ t h' := by
  obtain ⟨c1, c2, c3⟩ := c
  obtain ⟨r1, r2, r3⟩ := r
  refine ⟨fun o o1 o2 => by rw [c1, zB_in (by omega)]; exact r1 o o1 o2, by rw [c2.1]; exact r2, fun j x hj => ?_⟩
  have hl : j < Δ.2.length := (List.getElem?_eq_some_iff.1 hj).1
  have e := r2.1
  rw [c3, zB_in (by omega), zB_in (by omega), zB_in (by omega), zB_in (by omega)]
  exact r3 j x hj
theorem CpD.o {Δ : zDu} {h h' : zH} {t f u : Int} (c : CpD h h' t f) (hT : 0 ≤ h 452 f ∧ h 452 f ≤ 99) (hu : ¬ u = t) (r : RDv Δ u h) : RDv Δ u h' := by
  obtain ⟨c1, c2, c3⟩ := c
  refine r.fr (fun i i1 i2 => by rw [c1, zB_o (by omega)]) (c2.2 u hu) (fun i i1 i2 => by rw [c3, zB_o (by omega)])
theorem q_R_keeps32 {d : Nat} {σ st : zH} {D : zDR} {K : zKp} {Λ : zLw} {G h : zH} (c : RI σ st D K Λ G h) (hK : (K.length : Int) ≤ 29) : zWp (l_R_keeps_32 (d + 1) h) (fun _ h' => RI σ st D ((st, D) :: K) Λ G h' ∧ frLo h h') := by
  obtain ⟨c1, c2, c3, ⟨⟨k1, k2⟩, k3, k4⟩, c5, c6⟩ := c
  have ev : w32 (5 + Int.tmod (w32 (h 403 68 + (K.length : Int))) 30) = 5 + (h 403 68 + (K.length : Int)) % 30 := by
    rw [w32_i (x := h 403 68 + (K.length : Int)) (by omega), Int.tmod_eq_emod_of_nonneg (by omega), w32_i (by omega)]
  have er : m_R_ring (d + 1) (h 403 69) h = some (.inl (5 + (h 403 68 + (K.length : Int)) % 30), h) := by rw [em_R_ring, k1, ev]
  have hT : 0 ≤ h 452 0 ∧ h 452 0 ≤ 99 := by
    have := c3.2.1
    omega
  rw [el_R_keeps_32]
  obtain ⟨v, h2, e2, p1, p2, p3⟩ := q_copiesK (d := d) (t := 5 + (h 403 68 + (K.length : Int)) % 30) (f := 0) (h := h) (by omega) (by decide) (by omega) (by omega) hT
  have m2 : h2 403 = h 403 := p3 403 (by decide)
  refine zWp_qi er (zWp_qv e2 (zWp_lt fun h3 e3 => zWp_s ⟨?_, fun r hr => by rw [e3, zset_n (by omega), p3 r (by omega)]⟩))
  have m3 : ∀ q, ¬ q = 69 → h3 403 q = h 403 q := fun q hq => by rw [e3, zset_j hq, m2]
  have r3 : ∀ r, ¬ r = 403 → h3 r = h2 r := fun r hr => by rw [e3, zset_n hr]
  have r4 : ∀ r, ¬ (r = 403 ∨ 444 ≤ r ∧ r ≤ 453) → h3 r = h r := fun r hr => by rw [r3 r (by omega), p3 r (by omega)]
  have rt : ∀ {u : Int} {s : zH}, RT σ s u h2 → RT σ s u h3 := fun x => x.fr (fun r _ _ => r3 r (by omega))
  have rd : ∀ {u : Int} {Δ : zDu}, RDv Δ u h2 → RDv Δ u h3 := fun x => x.fr (fun i _ _ => by rw [r3 451 (by decide)]) (by rw [r3 452 (by decide)]) (fun i _ _ => by rw [r3 453 (by decide)])
  refine ⟨⟨c1.1.fr (m3 12 (by decide)) (fun r a b => r4 r (by omega)), rt (p1.o c1.2.2.1 (by omega) c1.2.1), c1.2.2⟩, c2.fr (fun q z => m3 q (by omega)) (fun r z => r4 r (by omega)), (rd (p2.o hT (by omega) c3.v)).z, ⟨⟨?_, ?_⟩, by rw [m3 68 (by decide)]; exact k3, fun j k hj => ?_⟩, fun d => (c5 d).fr (m3 12 (by decide)) (fun r a b => r4 r (by omega)), c6.fr (m3 12 (by decide)) (fun r z => r4 r (by omega))⟩
  · rw [e3, zset_e, m2, k1, w32_i (by omega), List.length_cons]; omega
  · rw [List.length_cons]; omega
  · rw [m3 68 (by decide), List.length_cons]
    cases j with
    | zero =>
      have ek : k = (st, D) := (Option.some.inj hj).symm
      have ea : rAt (h 403 68) ((K.length + 1 : Nat) : Int) ((0 : Nat) : Int) = 5 + (h 403 68 + (K.length : Int)) % 30 := by unfold rAt; omega
      rw [ek, ea]
      exact ⟨rt (p1.t c1.2.2.1 (by omega) c1.2.1), rd (p2.t c3.v)⟩
    | succ j =>
      have hj2 : K[j]? = some k := hj
      have hl : j < K.length := (List.getElem?_eq_some_iff.1 hj2).1
      obtain ⟨u1, u2⟩ := k4 j k hj2
      have ea : rAt (h 403 68) ((K.length + 1 : Nat) : Int) ((j + 1 : Nat) : Int) = rAt (h 403 68) K.length j := by unfold rAt; omega
      have eb : ¬ rAt (h 403 68) K.length j = 5 + (h 403 68 + (K.length : Int)) % 30 := by unfold rAt; omega
      rw [ea]
      exact ⟨rt (p1.o c1.2.2.1 eb u1), rd (p2.o hT eb u2)⟩
theorem q_R_keeps {d : Nat} {σ st : zH} {D : zDR} {K : zKp} {Λ : zLw} {G h : zH} (c : RI σ st D K Λ G h) : zWp (m_R_keeps (d + 2) h) (fun _ h' => RI σ st D (kp st D K) Λ G h' ∧ frLo h h') := by
  have k1 := c.2.2.2.1.1
  have k3 := c.2.2.2.1.2.1
  rw [em_R_keeps, k1.1]
  by_cases e : (K.length : Int) = 30
  · refine zWp_it e (zWp_lt fun h1 e1 => zWp_lt fun h2 e2 => ?_)
    have m2 : ∀ q, ¬ (q = 68 ∨ q = 69) → h2 403 q = h 403 q := fun q hq => by rw [e2, zset_j (by omega), e1, zset_j (by omega)]
    have r2 : ∀ r, ¬ r = 403 → h2 r = h r := fun r hr => by rw [e2, zset_n hr, e1, zset_n hr]
    have e68 : h2 403 68 = (h 403 68 + 1) % 30 := by rw [e2, zset_j (by decide), e1, zset_e, w32_i (by omega), Int.tmod_eq_emod_of_nonneg (by omega)]
    have e69 : h2 403 69 = 29 := by rw [e2, zset_e, e1, zset_j (by decide), k1.1, e]; rfl
    have tl : (K.take 29).length = 29 := by rw [List.length_take, Nat.min_eq_left (by omega)]
    have c2 : RI σ st D (K.take 29) Λ G h2 := by
      obtain ⟨c1, c2, c3, ⟨-, -, k4⟩, c5, c6⟩ := c
      refine ⟨⟨c1.1.fr (m2 12 (by decide)) (fun r a b => r2 r (by omega)), c1.2.1.fr (fun r _ _ => r2 r (by omega)), c1.2.2⟩, c2.fr (fun q z => m2 q (by omega)) (fun r z => r2 r (by omega)), c3.fr (r2 451 (by decide)) (r2 452 (by decide)) (r2 453 (by decide)), ⟨⟨by rw [e69, tl]; rfl, by rw [tl]; decide⟩, by rw [e68]; omega, fun j k hj => ?_⟩, fun d => (c5 d).fr (m2 12 (by decide)) (fun r a b => r2 r (by omega)), c6.fr (m2 12 (by decide)) (fun r z => r2 r (by omega))⟩
      obtain ⟨j1, j2⟩ := take_get hj
      obtain ⟨u1, u2⟩ := k4 j k j2
      have ea : rAt (h2 403 68) ((K.take 29).length : Int) j = rAt (h 403 68) K.length j := by rw [e68, tl, e]; unfold rAt; omega
      rw [ea]
      exact ⟨u1.fr (fun r _ _ => r2 r (by omega)), u2.fr (fun i _ _ => by rw [r2 451 (by decide)]) (by rw [r2 452 (by decide)]) (fun i _ _ => by rw [r2 453 (by decide)])⟩
    refine zWp_m (q_R_keeps32 (d := d) c2 (by rw [tl]; decide)) ?_
    rintro v h' ⟨u1, u2⟩
    exact ⟨u1, fun r hr => by rw [u2 r hr, r2 r (by omega)]⟩
  · have hk2 := k1.2
    have := q_R_keeps32 (d := d) c (by omega)
    have et : K.take 29 = K := List.take_of_length_le (by omega)
    refine zWp_nt e (zWp_m this ?_)
    unfold kp
    rw [et]
    exact fun v h' u => u
