/-! acts upon one cell or stone: net, wall, dig, take; undo -/
theorem CI.st {σ st st' : zH} {D D' : zDR} {K : zKp} {Λ : zLw} {G h h' : zH} (c : CI σ st D K Λ G h) (h4 : h 331 4 = 0) (t : CT σ st' 67 h') (wt : WT σ st') (cl : CLd D' h') (l1 : ∀ q, ¬ q = 8 → h' (h 0 7 + 21) q = h (h 0 7 + 21) q) (hr : ∀ r, ¬ (67 ≤ r ∧ r < 83 ∨ 327 ≤ r ∧ r < 331 ∨ r = h 0 7 + 21 ∨ r = h 0 7 + 26 ∨ r = h 0 7 + 27) → h' r = h r) : CI σ st' D' K Λ G h' := by
  obtain ⟨c1, c2, c3, c4, c5, c6, c7, c8⟩ := c
  have ha := c1.2.1.a
  have ha2 := c1.2.1.1
  have e0 : h' 0 = h 0 := hr 0 (by omega)
  refine ⟨⟨rfl, ?_, t, c1.2.2.2.1, wt⟩, by rw [e0]; exact c2, c3.fr (fun r z => hr r (by omega)), c4.fr (fun r z => hr r (by omega)), cl, c6.fr (fun r z => hr r (by omega)), Or.inl (by rw [hr 331 (by omega)]; exact h4), ?_⟩
  · rw [e0]; exact c1.2.1.fr (fun r r1 r2 => hr r (by omega))
  · rw [e0]; exact c8.fr (fun r r1 r2 => hr r (by omega)) l1
theorem RI.s1 {σ st st' : zH} {D : zDR} {K : zKp} {Λ : zLw} {G h : zH} {r i x : Int} (c : RI σ st D K Λ G h) (hr : r = 444 ∧ i < 50 ∨ (r = 448 ∨ r = 449 ∨ r = 450) ∧ i < 300) (t : RT σ st' 0 (zset h r i x)) (wt : WT σ st') (e7 : st' 7 = st 7) : RI σ st' D K Λ G (zset h r i x) := by
  obtain ⟨c1, c2, c3, c4, c5, c6⟩ := c
  have m : ∀ q, zset h r i x 403 q = h 403 q := fun q => zset_o (by omega)
  have n : ∀ u, ¬ (444 ≤ u ∧ u ≤ 450) → zset h r i x u = h u := fun u hu => zset_n (by omega)
  refine ⟨⟨c1.1.fr (m 12) (fun u a b => n u (by omega)), t, c1.2.2.1, wt⟩, c2.fr (fun q z => m q) (fun u z => n u (by omega)), by rw [e7]; exact c3.fr (n 451 (by decide)) (n 452 (by decide)) (n 453 (by decide)), ?_, fun d => (c5 d).fr (m 12) (fun u a b => n u (by omega)), c6.fr (m 12) (fun u z => n u (by omega))⟩
  exact c4.fr c1.2.2.1 (m 68) (m 69) (fun j z => ⟨zset_2 (by omega), zset_2 (by omega), zset_2 (by omega)⟩) (fun j z => zset_2 (by omega)) (fun j z => ⟨zset_2 (by omega), zset_2 (by omega), zset_2 (by omega)⟩) (fun j _ => by rw [n 451 (by decide)]) (fun j _ => by rw [n 452 (by decide)]) (fun j _ => by rw [n 453 (by decide)])
theorem CT.h6 {σ st : zH} (w : WS σ) {T : Int} {h : zH} (t : CT σ st T h) {n v : Int} : CT σ (zset st 6 n v) T (zset h (T + 6) n v) := by
  obtain ⟨c0, c1, c2, c3, c4, c5, c6, c7⟩ := t
  refine ⟨c0, fun i a b => ?_, fun i a b => ?_, fun i a b => ?_, fun i a b => ?_, ?_, ?_, ?_⟩
  · rw [zset_o (by omega), zset_o (by omega), zset_o (by omega), zset_o (by omega), zset_o (by omega), zset_o (by omega)]; exact c1 i a b
  · rw [zset_o (by omega), sAt_5 (by omega) w.2.1.2.2.1]; exact c2 i a b
  · rw [zset_o (by omega), zset_o (by omega), zset_g, zset_g]
    refine ⟨(c3 i a b).1, ?_⟩
    split
    · rfl
    · exact (c3 i a b).2
  · rw [zset_o (by omega), zset_o (by omega)]; exact c4 i a b
  · rw [zset_o (by omega)]
    obtain ⟨N, a1, a2, a3⟩ := c5
    exact ⟨N, a1, a2, fun i => by rw [zset_o (by omega)]; exact a3 i⟩
  · rw [zset_o (by omega)]
    obtain ⟨N, a1, a2, a3⟩ := c6
    exact ⟨N, a1, a2, fun i => by rw [zset_o (by omega)]; exact a3 i⟩
  · rw [zset_o (by omega), zset_o (by omega)]; exact c7
theorem CT.h8 {σ st : zH} (w : WS σ) {T : Int} {h : zH} (t : CT σ st T h) {c v : Int} (hc : (0 ≤ c ∧ c < nC σ) ∧ c < 60) (hv : st 8 c = 1 ∧ v = 0 ∨ ¬ st 8 c = 1 ∧ v = 1) : CT σ (zset st 8 c v) T (zset h T 7 (zlxor (h T 7) (zlshl 1 c))) := by
  obtain ⟨c0, c1, c2, c3, c4, c5, c6, c7⟩ := t
  refine ⟨c0, fun i a b => ?_, fun i a b => ?_, fun i a b => ?_, fun i a b => ?_, ?_, ?_, ?_⟩
  · rw [zset_o (by omega), zset_o (by omega), zset_o (by omega), zset_o (by omega), zset_o (by omega), zset_o (by omega)]; exact c1 i a b
  · rw [zset_o (by omega), sAt_5 (by omega) w.2.1.2.2.1]; exact c2 i a b
  · rw [zset_o (by omega), zset_o (by omega), zset_o (by omega), zset_o (by omega)]; exact c3 i a b
  · rw [zset_o (by omega), zset_o (by omega)]; exact c4 i a b
  · rw [zset_e]
    obtain ⟨N, a1, a2, a3⟩ := c5
    obtain ⟨j, rfl⟩ := Int.eq_ofNat_of_zero_le hc.1.1
    have hj : j < 60 := by omega
    have hj2 : j < (nC σ).toNat := by omega
    have h2 : 2 ^ j < 2 ^ 60 := Nat.pow_lt_pow_right (by omega) hj
    refine ⟨N ^^^ 2 ^ j, ?_, Nat.xor_lt_two_pow a2 h2, fun i => ?_⟩
    · rw [a1, show (1 : Int) = ((1 : Nat) : Int) from rfl, zlshl_n (by omega) (by omega), Nat.one_mul, zlxor_n (by omega) (by omega)]
    · rw [Nat.testBit_xor, a3 i, Nat.testBit_two_pow, zset_g]
      by_cases e : j = i
      · subst e
        rw [if_pos rfl]
        rcases hv with ⟨z1, z2⟩ | ⟨z1, z2⟩
        · simp [hj2, z1, z2]
        · simp [hj2, z1, z2]
      · rw [if_neg (by omega)]
        simp [e]
  · rw [zset_j (by omega)]
    obtain ⟨N, a1, a2, a3⟩ := c6
    exact ⟨N, a1, a2, fun i => by rw [zset_o (by omega)]; exact a3 i⟩
  · rw [zset_j (by omega), zset_o (by omega)]; exact c7
theorem RT.hc {σ st : zH} {v : Int} {h : zH} (t : RT σ st v h) {r k n x : Int} (hr : r = 448 ∧ k = 5 ∨ r = 449 ∧ k = 6 ∨ r = 450 ∧ k = 8) : RT σ (zset st k n x) v (zset h r (60 * v + n) x) := by
  obtain ⟨t0, t1, t2, t3⟩ := t
  refine ⟨t0, fun i a b => ?_, fun i a b => ?_, fun i a b => ?_⟩
  · rw [zset_o (by omega), zset_o (by omega), zset_o (by omega), zset_o (by omega), zset_o (by omega), zset_o (by omega)]; exact t1 i a b
  · rw [zset_o (by omega), zset_o (by omega)]; exact t2 i a b
  · obtain ⟨u1, u2, u3⟩ := t3 i a b
    rw [zset_x, zset_x, zset_x, zset_x, zset_x, zset_x]
    rcases hr with ⟨rfl, rfl⟩ | ⟨rfl, rfl⟩ | ⟨rfl, rfl⟩
    · refine ⟨?_, ?_, ?_⟩
      · by_cases e : i = n
        · rw [if_pos ⟨rfl, by omega⟩, if_pos ⟨rfl, e⟩]
        · rw [if_neg (by omega), if_neg (by omega)]; exact u1
      · rw [if_neg (by omega), if_neg (by omega)]; exact u2
      · rw [if_neg (by omega), if_neg (by omega)]; exact u3
    · refine ⟨?_, ?_, ?_⟩
      · rw [if_neg (by omega), if_neg (by omega)]; exact u1
      · by_cases e : i = n
        · rw [if_pos ⟨rfl, by omega⟩, if_pos ⟨rfl, e⟩]
        · rw [if_neg (by omega), if_neg (by omega)]; exact u2
      · rw [if_neg (by omega), if_neg (by omega)]; exact u3
    · refine ⟨?_, ?_, ?_⟩
      · rw [if_neg (by omega), if_neg (by omega)]; exact u1
      · rw [if_neg (by omega), if_neg (by omega)]; exact u2
      · by_cases e : i = n
        · rw [if_pos ⟨rfl, by omega⟩, if_pos ⟨rfl, e⟩]
        · rw [if_neg (by omega), if_neg (by omega)]; exact u3
theorem RT.h1 {σ st : zH} {v : Int} {h : zH} (t : RT σ st v h) {s x : Int} : RT σ (zset st 1 s x) v (zset h 444 (10 * v + s) x) := by
  obtain ⟨t0, t1, t2, t3⟩ := t
  refine ⟨t0, fun i a b => ?_, fun i a b => ?_, fun i a b => ?_⟩
  · obtain ⟨u1, u2, u3⟩ := t1 i a b
    rw [zset_g, zset_g, zset_o (by omega), zset_o (by omega), zset_o (by omega), zset_o (by omega)]
    refine ⟨?_, u2, u3⟩
    by_cases e : i = s
    · rw [if_pos (by omega), if_pos e]
    · rw [if_neg (by omega), if_neg e]; exact u1
  · rw [zset_o (by omega), zset_o (by omega)]; exact t2 i a b
  · rw [zset_o (by omega), zset_o (by omega), zset_o (by omega), zset_o (by omega), zset_o (by omega), zset_o (by omega)]; exact t3 i a b
theorem WT.net {σ st : zH} (wt : WT σ st) {c v : Int} (hv : v = 0 ∨ v = 1) : WT σ (zset st 8 c v) := by
  refine ⟨fun i a b => ?_, fun i a b => ?_, fun i a b => ?_⟩
  · rw [zset_o (by decide)]
    refine ⟨(wt.1 i a b).1, fun j j1 j2 j3 => ?_⟩
    rw [zset_o (by decide)] at j3
    exact (wt.1 i a b).2 j j1 j2 j3
  · rw [zset_o (by decide), zset_o (by decide), zset_g, zset_o (by decide)]
    obtain ⟨u1, u2, u3, u4, u5, u6⟩ := wt.2.1 i a b
    refine ⟨u1, u2, u3, u4, ?_, u6⟩
    by_cases e : i = c
    · rw [if_pos e]; exact hv
    · rw [if_neg e]; exact u5
  · rw [zset_o (by decide)]; exact wt.2.2 i a b
theorem WT.dig {σ st : zH} (wt : WT σ st) {c v : Int} (hv : 0 ≤ v ∧ v ≤ 99) : WT σ (zset st 6 c v) := by
  refine ⟨fun i a b => ?_, fun i a b => ?_, fun i a b => ?_⟩
  · rw [zset_o (by decide)]
    refine ⟨(wt.1 i a b).1, fun j j1 j2 j3 => ?_⟩
    rw [zset_o (by decide)] at j3
    exact (wt.1 i a b).2 j j1 j2 j3
  · rw [zset_o (by decide), zset_g, zset_o (by decide), zset_o (by decide)]
    obtain ⟨u1, u2, u3, u4, u5, u6⟩ := wt.2.1 i a b
    by_cases e : i = c
    · rw [if_pos e]; exact ⟨u1, u2, hv.1, hv.2, u5, u6⟩
    · rw [if_neg e]; exact ⟨u1, u2, u3, u4, u5, u6⟩
  · rw [zset_o (by decide)]; exact wt.2.2 i a b
theorem WT.wall {σ st : zH} (wt : WT σ st) {c v : Int} (hv : 0 ≤ v ∧ v ≤ 9999) (hh : ¬ (σ 7 c ≠ -1 ∧ st 9 (σ 7 c) ≠ 1)) : WT σ (zset st 5 c v) := by
  refine ⟨fun i a b => ?_, fun i a b => ?_, fun i a b => ?_⟩
  · rw [zset_o (by decide)]
    refine ⟨(wt.1 i a b).1, fun j j1 j2 j3 => ?_⟩
    rw [zset_o (by decide)] at j3
    exact (wt.1 i a b).2 j j1 j2 j3
  · rw [zset_g, zset_o (by decide), zset_o (by decide), zset_o (by decide)]
    obtain ⟨u1, u2, u3, u4, u5, u6⟩ := wt.2.1 i a b
    by_cases e : i = c
    · rw [if_pos e, e]
      rw [e] at u3 u4 u5
      refine ⟨hv.1, hv.2, u3, u4, u5, fun _ => ?_⟩
      by_cases e2 : σ 7 c = -1
      · exact Or.inl e2
      · by_cases e3 : st 9 (σ 7 c) = 1
        · exact Or.inr e3
        · exact absurd ⟨e2, e3⟩ hh
    · rw [if_neg e]; exact ⟨u1, u2, u3, u4, u5, u6⟩
  · rw [zset_o (by decide)]; exact wt.2.2 i a b
theorem WT.take {σ st : zH} (wt : WT σ st) {s : Int} : WT σ (zset st 1 s (-1)) := by
  refine ⟨fun i a b => ?_, fun i a b => ?_, fun i a b => ?_⟩
  · rw [zset_g]
    by_cases e : i = s
    · rw [if_pos e]; exact ⟨Or.inl rfl, fun _ _ _ _ => Or.inl rfl⟩
    · rw [if_neg e]
      refine ⟨(wt.1 i a b).1, fun j j1 j2 j3 => ?_⟩
      rw [zset_g] at j3
      by_cases e2 : j = s
      · rw [if_pos e2] at j3; exact Or.inl j3.symm
      · rw [if_neg e2] at j3; exact (wt.1 i a b).2 j j1 j2 j3
  · rw [zset_o (by decide), zset_o (by decide), zset_o (by decide), zset_o (by decide)]; exact wt.2.1 i a b
  · rw [zset_o (by decide)]; exact wt.2.2 i a b
theorem q_moveOut {d : Nat} {σ st : zH} {T s : Int} {h : zH} (w : WS σ) (t : CT σ st T h) (wt : WT σ st) (hs : 0 ≤ s ∧ s < nS σ) : zWp (m_State_move (d + 1) T s (-1) h) (fun _ h' => CT σ (zset st 1 s (-1)) T h' ∧ (∀ q, h' T q = h T q) ∧ frS T h h') := by
  have hT := t.1.low
  have hnn := w.n
  have hS0 : 0 ≤ nS σ := w.2.1.2.2.1
  have hS10 : nS σ ≤ 10 := w.2.1.2.2.2.1
  have e1 : h (T + 1) s = st 1 s := t.pl (by omega)
  have ap := (wt.1 s hs.1 hs.2).2
  have key : ∀ c, 0 ≤ c → c < nC σ → sAt σ (zset st 1 s (-1)) c = if c = st 1 s then -1 else sAt σ st c := by
    intro c c0 c1
    by_cases e : c = st 1 s
    · rw [if_pos e]
      refine sAt_no hS0 (fun j j1 j2 => ?_)
      rw [zset_g]
      by_cases e2 : j = s
      · rw [if_pos e2]; omega
      · rw [if_neg e2]
        intro z
        rcases ap j j1 j2 (z.trans e) with q | q
        · omega
        · exact e2 q
    · rw [if_neg e]
      rcases sAt_spec σ st c hS0 with ⟨q1, q2⟩ | ⟨q1, q2, q3⟩
      · rw [q1]
        refine sAt_no hS0 (fun j j1 j2 => ?_)
        rw [zset_g]
        by_cases e2 : j = s
        · rw [if_pos e2]; omega
        · rw [if_neg e2]; exact q2 j j1 j2
      · have ne : ¬ sAt σ st c = s := fun z => e (by rw [z] at q3; exact q3.symm)
        refine sAt_of hS0 ⟨q1, q2⟩ (by rw [zset_g, if_neg ne]; exact q3) (fun j j1 j2 j3 => ?_)
        rw [zset_g] at j3
        by_cases e2 : j = s
        · rw [if_pos e2] at j3; omega
        · rw [if_neg e2] at j3
          rcases (wt.1 _ q1 q2).2 j j1 j2 (j3.trans q3.symm) with z | z
          · omega
          · exact z
  have fin : ∀ h1 : zH, (∀ r, ¬ r = T + 4 → h1 r = h r) → (∀ c, 0 ≤ c → c < nC σ → h1 (T + 4) c = if c = st 1 s then -1 else sAt σ st c) → zWp (l_State_move_24 d T s (-1) h1) (fun _ h' => CT σ (zset st 1 s (-1)) T h' ∧ (∀ q, h' T q = h T q) ∧ frS T h h') := by
    intro h1 o1 k1
    rw [el_State_move_24]
    refine zWp_it (by decide) (zWp_po (by omega) (zWp_po (by omega) (zWp_it (by omega) (zWp_lt fun h3 q3 => zWp_s ?_))))
    have r3 : ∀ r, ¬ (r = T + 1 ∨ r = T + 4) → h3 r = h r := fun r hr => by rw [q3, zset_n (by omega), o1 r (by omega)]
    obtain ⟨c0, c1, c2, c3, c4, c5, c6, c7⟩ := t
    refine ⟨⟨c0, fun i a b => ⟨?_, ?_, ?_⟩, fun i a b => ?_, fun i a b => ?_, fun i a b => ?_, ?_, ?_, ?_⟩, fun q => by rw [r3 T (by omega)], fun r hr => r3 r (by omega)⟩
    · rw [q3, zset_g, zset_g, o1 _ (by omega), (c1 i a b).1]
    · rw [r3 _ (by omega), zset_o (by decide)]; exact (c1 i a b).2.1
    · rw [r3 _ (by omega), zset_o (by decide)]; exact (c1 i a b).2.2
    · rw [q3, zset_o (by omega), k1 i a b, key i a b]
    · rw [r3 _ (by omega), r3 _ (by omega), zset_o (by decide), zset_o (by decide)]; exact c3 i a b
    · rw [r3 _ (by omega), zset_o (by decide)]; exact c4 i a b
    · rw [r3 _ (by omega)]
      obtain ⟨N, a1, a2, a3⟩ := c5
      exact ⟨N, a1, a2, fun i => by rw [zset_o (by decide)]; exact a3 i⟩
    · rw [r3 _ (by omega)]
      obtain ⟨N, a1, a2, a3⟩ := c6
      exact ⟨N, a1, a2, fun i => by rw [zset_o (by decide)]; exact a3 i⟩
    · rw [r3 _ (by omega), zset_o (by decide)]; exact c7
  rw [em_State_move, e1]
  refine zWp_po (by omega) (zWp_po (by omega) (zWp_it (by omega) ?_))
  rcases (wt.1 s hs.1 hs.2).1 with e | ⟨e2, e3⟩
  · refine zWp_it (by omega) (fin h (fun _ _ => rfl) (fun c a b => ?_))
    rw [if_neg (by omega)]; exact t.at ⟨a, b⟩
  · refine zWp_nt (by omega) (zWp_it (by omega) (zWp_po (by omega) (zWp_po (by omega) (zWp_it (by omega) (zWp_lt fun h1 q1 => fin h1 (fun r hr => by rw [q1, zset_n hr]) (fun c a b => ?_))))))
    rw [q1, zset_g]
    by_cases e : c = st 1 s
    · rw [if_pos e, if_pos e]
    · rw [if_neg e, if_neg e]; exact t.at ⟨a, b⟩
