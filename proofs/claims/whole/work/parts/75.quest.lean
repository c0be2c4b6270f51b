/-! questions: both alike -/
theorem alike_e {x : zR} {y : zH → zR} {V : zV} {σ st : zH} {D : zDR} {K : zKp} {Λ : zLw} {G h : zH} (c : CI σ st D K Λ G h) (r : RI σ st D K Λ G h) (wk : WK σ D K) (wg : WG G) (hc : zWp x (fun v h1 => v = V ∧ h1 = h)) (hr : ∀ h', RI σ st D K Λ G h' → zWp (y h') (fun v h2 => v = V ∧ h2 = h')) : Alike x y :=
  alike_q c r wk wg (zWp_m hc (fun v h1 u => ⟨u.1, by rw [u.2]; exact frQ.rf h⟩)) (fun h' r' => zWp_m (hr h' r') (fun v h1 u => ⟨u.1, by rw [u.2]; exact frQR.rf h'⟩))
theorem a_path {d : Nat} {x0 x1 x2 : Int} {h : zH} (i : INV h) : Alike (m_B_path (d + 7) x0 x1 x2 h) (m_R_path (d + 7) x0 x1 x2) := by
  obtain ⟨σ, st, D, K, Λ, G, c, r, wk, wg⟩ := i
  exact alike_q c r wk wg (q_path (d := d + 0) c.1) (fun h' r' => q_R_path (d := d + 2) r'.1)
theorem a_roll {d : Nat} {x0 x1 x2 : Int} {h : zH} (i : INV h) : Alike (m_B_roll (d + 7) x0 x1 x2 h) (m_R_roll (d + 7) x0 x1 x2) := by
  obtain ⟨σ, st, D, K, Λ, G, c, r, wk, wg⟩ := i
  exact alike_q c r wk wg (q_roll (d := d + 0) c.1) (fun h' r' => q_R_roll (d := d + 2) r'.1)
theorem a_thaw {d : Nat} {x0 x1 : Int} {h : zH} (i : INV h) : Alike (m_B_thaw (d + 7) x0 x1 h) (m_R_thaw (d + 7) x0 x1) := by
  obtain ⟨σ, st, D, K, Λ, G, c, r, wk, wg⟩ := i
  exact alike_q c r wk wg (q_thaw (d := d + 0) c.1) (fun h' r' => q_R_thaw (d := d + 0) r'.1)
theorem a_lies {d : Nat} {x0 x1 : Int} {h : zH} (i : INV h) : Alike (m_B_lies (d + 7) x0 x1 h) (m_R_lies (d + 7) x0 x1) := by
  obtain ⟨σ, st, D, K, Λ, G, c, r, wk, wg⟩ := i
  exact alike_q c r wk wg (q_lies (d := d + 0) c.1) (fun h' r' => q_R_lies (d := d + 0) r'.1)
theorem a_hit {d : Nat} {x0 : Int} {h : zH} (i : INV h) : Alike (m_B_hit (d + 7) x0 h) (m_R_hit (d + 7) x0) := by
  obtain ⟨σ, st, D, K, Λ, G, c, r, wk, wg⟩ := i
  exact alike_q c r wk wg (q_hit (d := d + 0) c.1) (fun h' r' => q_R_hit (d := d + 0) r'.1)
theorem a_worst {d : Nat} {x0 : Int} {h : zH} (i : INV h) : Alike (m_B_worst (d + 7) x0 h) (m_R_worst (d + 7) x0) := by
  obtain ⟨σ, st, D, K, Λ, G, c, r, wk, wg⟩ := i
  exact alike_q c r wk wg (q_worst (d := d + 0) c.1) (fun h' r' => q_R_worst (d := d + 0) r'.1)
theorem a_men {d : Nat} {x0 x1 : Int} {h : zH} (i : INV h) : Alike (m_B_men (d + 7) x0 x1 h) (m_R_men (d + 7) x0 x1) := by
  obtain ⟨σ, st, D, K, Λ, G, c, r, wk, wg⟩ := i
  exact alike_q c r wk wg (q_men (d := d + 0) c.1) (fun h' r' => q_R_men (d := d + 2) r'.1)
theorem a_whence {d : Nat} {x0 x1 : Int} {h : zH} (i : INV h) : Alike (m_B_whence (d + 6) x0 x1 h) (m_R_whence (d + 6) x0 x1) := by
  obtain ⟨σ, st, D, K, Λ, G, c, r, wk, wg⟩ := i
  exact alike_q c r wk wg (q_whence (d := d + 0) c.1) (fun h' r' => q_R_whence (d := d + 2) r'.1)
theorem a_cell {d : Nat} {x0 x1 : Int} {h : zH} (i : INV h) : Alike (m_B_cell (d + 4) x0 x1 h) (m_R_cell (d + 4) x0 x1) := by
  obtain ⟨σ, st, D, K, Λ, G, c, r, wk, wg⟩ := i
  exact alike_e c r wk wg (q_cell (d := d + 0) c.1) (fun h' r' => q_R_cell (d := d + 1) r'.1)
theorem a_house {d : Nat} {x0 x1 : Int} {h : zH} (i : INV h) : Alike (m_B_house (d + 4) x0 x1 h) (m_R_house (d + 4) x0 x1) := by
  obtain ⟨σ, st, D, K, Λ, G, c, r, wk, wg⟩ := i
  exact alike_e c r wk wg (q_house (d := d + 0) c.1) (fun h' r' => q_R_house (d := d + 1) r'.1)
theorem a_stone {d : Nat} {x0 x1 : Int} {h : zH} (i : INV h) : Alike (m_B_stone (d + 4) x0 x1 h) (m_R_stone (d + 4) x0 x1) := by
  obtain ⟨σ, st, D, K, Λ, G, c, r, wk, wg⟩ := i
  exact alike_e c r wk wg (q_stone (d := d + 0) c.1) (fun h' r' => q_R_stone (d := d + 1) r'.1)
theorem a_leans {d : Nat} {x0 x1 : Int} {h : zH} (i : INV h) : Alike (m_B_leans (d + 4) x0 x1 h) (m_R_leans (d + 4) x0 x1) := by
  obtain ⟨σ, st, D, K, Λ, G, c, r, wk, wg⟩ := i
  exact alike_e c r wk wg (q_leans (d := d + 0) c.1) (fun h' r' => q_R_leans (d := d + 2) r'.1)
theorem a_ropes {d : Nat} {x0 : Int} {h : zH} (i : INV h) : Alike (m_B_ropes (d + 3) x0 h) (m_R_ropes (d + 3) x0) := by
  obtain ⟨σ, st, D, K, Λ, G, c, r, wk, wg⟩ := i
  exact alike_e c r wk wg (q_ropes (d := d + 0) c.1) (fun h' r' => q_R_ropes (d := d + 1) r'.1)
theorem a_owner {d : Nat} {x y : Int} {h : zH} (i : INV h) : Alike (m_B_owner (d + 4) x y h) (m_R_owner (d + 4) x y) := by
  obtain ⟨σ, st, D, K, Λ, G, c, r, wk, wg⟩ := i
  refine alike_e c r wk wg (q_owner (d := d) c.1) (fun h' r' => q_R_owner (d := d + 1) r'.1 (fun o o1 o2 => ?_))
  have hO6 : nO σ ≤ 6 := r'.1.2.2.1.2.1.2.1
  have e : h' 451 o = w64 (st 7 o) := r'.2.2.1.1 o o1 (by omega)
  rw [e]
  unfold w32 w64
  omega
theorem CI.law {σ st : zH} {D : zDR} {K : zKp} {Λ : zLw} {G h h' : zH} (c : CI σ st D K Λ G h) (hr : ∀ r, ¬ (r = h 0 7 + 21 ∨ r = h 0 7 + 26 ∨ r = h 0 7 + 27) → h' r = h r) (l1 : ∀ q, ¬ q = 8 → h' (h 0 7 + 21) q = h (h 0 7 + 21) q) : CI σ st D K Λ G h' := by
  obtain ⟨c1, c2, c3, c4, c5, c6, c7, c8⟩ := c
  have ha := c1.2.1.a
  have ha2 := c1.2.1.1
  have e0 : h' 0 = h 0 := hr 0 (by omega)
  refine ⟨⟨rfl, ?_, c1.2.2.1.fr (fun r r1 r2 => hr r (by omega)), c1.2.2.2⟩, by rw [e0]; exact c2, c3.fr (fun r z => hr r (by omega)), c4.fr (fun r z => hr r (by omega)), c5.fr (by rw [hr 67 (by omega)]) (hr 327 (by omega)), c6.fr (fun r z => hr r (by omega)), c7.fr (hr 331 (by omega)), ?_⟩
  · rw [e0]; exact c1.2.1.fr (fun r r1 r2 => hr r (by omega))
  · rw [e0]; exact c8.fr (fun r r1 r2 => hr r (by omega)) l1
theorem a_law {d : Nat} {x1 x2 x3 x4 x5 : Int} {h : zH} (i : INV h) : Alike (m_B_law (d + 9) x1 x2 x3 x4 x5 h) (m_R_law (d + 9) x1 x2 x3 x4 x5) := by
  obtain ⟨σ, st, D, K, Λ, G, c, r, wk, wg⟩ := i
  have b := c.1
  have ha := b.2.1.a
  have ha2 := b.2.1.1
  have badB : ∀ h', zWp (l_B_law_60 (d + 8) x1 x2 x3 x4 x5 0 h') (fun v h1 => v = .inl (-1) ∧ h1 = h') := fun h' => by rw [el_B_law_60]; exact zWp_it rfl (zWp_s ⟨rfl, rfl⟩)
  have badR : ∀ h', zWp (l_R_law_60 (d + 8) x1 x2 x3 x4 x5 0 h') (fun v h1 => v = .inl (-1) ∧ h1 = h') := fun h' => by rw [el_R_law_60]; exact zWp_it rfl (zWp_s ⟨rfl, rfl⟩)
  by_cases c1 : 0 ≤ x1 ∧ x1 ≤ 9999
  case neg =>
    refine alike_e c r wk wg (V := .inl (-1)) ?_ (fun h' r' => ?_)
    · rw [em_B_law]; refine zWp_qi q_between ?_; rw [if_neg c1]; exact zWp_it rfl (badB h)
    · rw [em_R_law]; refine zWp_qi q_R_is ?_; rw [if_neg c1]; exact zWp_it rfl (badR h')
  by_cases c2 : 0 ≤ x2 ∧ x2 ≤ 9999
  case neg =>
    refine alike_e c r wk wg (V := .inl (-1)) ?_ (fun h' r' => ?_)
    · rw [em_B_law]; refine zWp_qi q_between ?_; rw [if_pos c1]; refine zWp_nt (by decide) (zWp_qi q_between ?_); rw [if_neg c2]; exact zWp_it rfl (badB h)
    · rw [em_R_law]; refine zWp_qi q_R_is ?_; rw [if_pos c1]; refine zWp_nt (by decide) (zWp_qi q_R_is ?_); rw [if_neg c2]; exact zWp_it rfl (badR h')
  by_cases c3 : 0 ≤ x3 ∧ x3 ≤ 9999
  case neg =>
    refine alike_e c r wk wg (V := .inl (-1)) ?_ (fun h' r' => ?_)
    · rw [em_B_law]; refine zWp_qi q_between ?_; rw [if_pos c1]; refine zWp_nt (by decide) (zWp_qi q_between ?_); rw [if_pos c2]; refine zWp_nt (by decide) (zWp_qi q_between ?_); rw [if_neg c3]; exact zWp_it rfl (badB h)
    · rw [em_R_law]; refine zWp_qi q_R_is ?_; rw [if_pos c1]; refine zWp_nt (by decide) (zWp_qi q_R_is ?_); rw [if_pos c2]; refine zWp_nt (by decide) (zWp_qi q_R_is ?_); rw [if_neg c3]; exact zWp_it rfl (badR h')
  by_cases c4 : 0 ≤ x4 ∧ x4 ≤ 1
  case neg =>
    refine alike_e c r wk wg (V := .inl (-1)) ?_ (fun h' r' => ?_)
    · rw [em_B_law]; refine zWp_qi q_between ?_; rw [if_pos c1]; refine zWp_nt (by decide) (zWp_qi q_between ?_); rw [if_pos c2]; refine zWp_nt (by decide) (zWp_qi q_between ?_); rw [if_pos c3]; refine zWp_nt (by decide) (zWp_qi q_between ?_); rw [if_neg c4]; exact zWp_it rfl (badB h)
    · rw [em_R_law]; refine zWp_qi q_R_is ?_; rw [if_pos c1]; refine zWp_nt (by decide) (zWp_qi q_R_is ?_); rw [if_pos c2]; refine zWp_nt (by decide) (zWp_qi q_R_is ?_); rw [if_pos c3]; refine zWp_nt (by decide) (zWp_qi q_R_is ?_); rw [if_neg c4]; exact zWp_it rfl (badR h')
  by_cases c5 : 0 ≤ x5 ∧ x5 ≤ 9999
  case neg =>
    refine alike_e c r wk wg (V := .inl (-1)) ?_ (fun h' r' => ?_)
    · rw [em_B_law]; refine zWp_qi q_between ?_; rw [if_pos c1]; refine zWp_nt (by decide) (zWp_qi q_between ?_); rw [if_pos c2]; refine zWp_nt (by decide) (zWp_qi q_between ?_); rw [if_pos c3]; refine zWp_nt (by decide) (zWp_qi q_between ?_); rw [if_pos c4]; refine zWp_nt (by decide) (zWp_qi q_between ?_); rw [if_neg c5]; exact zWp_it rfl (badB h)
    · rw [em_R_law]; refine zWp_qi q_R_is ?_; rw [if_pos c1]; refine zWp_nt (by decide) (zWp_qi q_R_is ?_); rw [if_pos c2]; refine zWp_nt (by decide) (zWp_qi q_R_is ?_); rw [if_pos c3]; refine zWp_nt (by decide) (zWp_qi q_R_is ?_); rw [if_pos c4]; refine zWp_nt (by decide) (zWp_qi q_R_is ?_); rw [if_neg c5]; exact zWp_it rfl (badR h')
  refine alike2 wk wg (V := .inl (Λ x1 x2 x3 x4 x5)) (st := st) (Λ := Λ) (h := h) ?_ (fun h' f => ?_)
  · obtain ⟨-, v, h1, e1, q1, q2, q3⟩ := c.2.2.2.2.2.2.2 d h (fun _ _ _ => rfl) (fun _ _ => rfl) x1 x2 x3 x4 x5 c1 c2 c3 c4 c5
    rw [q1] at e1
    rw [em_B_law]; refine zWp_qi q_between ?_; rw [if_pos c1]; refine zWp_nt (by decide) (zWp_qi q_between ?_); rw [if_pos c2]; refine zWp_nt (by decide) (zWp_qi q_between ?_); rw [if_pos c3]; refine zWp_nt (by decide) (zWp_qi q_between ?_); rw [if_pos c4]; refine zWp_nt (by decide) (zWp_qi q_between ?_); rw [if_pos c5]; refine zWp_nt (by decide) ?_; rw [el_B_law_60]
    exact zWp_nt (by decide) (zWp_po (by omega) (zWp_po (by omega) (zWp_qi e1 (zWp_s ⟨rfl, c.law q2 q3, fun r z => q2 r (by omega)⟩))))
  · have r' := r.hi f
    obtain ⟨-, v, h1, e1, q1, q2⟩ := r'.2.2.2.2.1 d h' rfl (fun _ _ _ _ _ => rfl) x1 x2 x3 x4 x5 c1 c2 c3 c4 c5
    rw [q1] at e1
    rw [em_R_law]; refine zWp_qi q_R_is ?_; rw [if_pos c1]; refine zWp_nt (by decide) (zWp_qi q_R_is ?_); rw [if_pos c2]; refine zWp_nt (by decide) (zWp_qi q_R_is ?_); rw [if_pos c3]; refine zWp_nt (by decide) (zWp_qi q_R_is ?_); rw [if_pos c4]; refine zWp_nt (by decide) (zWp_qi q_R_is ?_); rw [if_pos c5]; refine zWp_nt (by decide) ?_; rw [el_R_law_60]
    refine zWp_nt (by decide) (zWp_qi e1 (zWp_s ⟨rfl, ?_, fun r z => q2 r (by omega)⟩))
    exact r'.g (r'.2.1.fr (fun q _ => by rw [q2 403 (by decide)]) (fun r z => q2 r (by omega))) (fun q _ => by rw [q2 403 (by decide)]) (fun r z => q2 r (by omega))
