/-! net, wall, dig, take, undo: both alike -/
theorem alike2 {x : zR} {y : zH → zR} {V : zV} {σ st : zH} {D : zDR} {K : zKp} {Λ : zLw} {G h : zH} (wk : WK σ D K) (wg : WG G) (c : zWp x (fun v h1 => v = V ∧ CI σ st D K Λ G h1 ∧ fr403 h h1)) (r : ∀ h', fr403 h h' → zWp (y h') (fun v h2 => v = V ∧ RI σ st D K Λ G h2 ∧ frLo h' h2)) : Alike x y := alike wk wg r c
theorem a_net {d : Nat} {x y : Int} {h : zH} (i : INV h) (hy : y = 0 ∨ y = 1) : Alike (m_B_net (d + 5) x y h) (m_R_net (d + 5) x y) := by
  obtain ⟨σ, st, D, K, Λ, G, c, r, wk, wg⟩ := i
  have b := c.1
  have w := b.2.2.2.1
  have wt := b.2.2.2.2
  have ha := b.2.1.a
  have hn := w.n
  by_cases c1 : 0 ≤ x ∧ x < nC σ
  case neg =>
    refine alike_ref c r wk wg (V := .inl 0) (k := 3) (by decide) ?_ (fun h' r' => ?_)
    · rw [em_B_net]
      refine zWp_po (by omega) (zWp_qi (q_hasCell b.2.1 w) ?_)
      rw [if_neg c1]
      exact zWp_it rfl (zWp_qi (q_refuse (by decide)) (zWp_s ⟨rfl, rfl⟩))
    · rw [em_R_net]
      refine zWp_qi (q_R_isCell w r'.1.1) ?_
      rw [if_neg c1, el_R_net_27]
      exact zWp_it rfl (zWp_qi (q_R_refuses (by decide)) (zWp_it (by decide) (zWp_s ⟨rfl, rfl⟩)))
  have b8 := (wt.2.1 x c1.1 c1.2).2.2.2.2.1
  have e8 : ∀ h', RI σ st D K Λ G h' → h' 450 x = st 8 x := fun h' r' => by
    have := (r'.1.2.1.2.2.2 x c1.1 c1.2).2.2
    rwa [show 60 * 0 + x = x by omega] at this
  by_cases c2 : (if st 8 x = 1 then 1 else 0) = y
  · refine alike_ref c r wk wg (V := .inl 0) (k := 3) (by decide) ?_ (fun h' r' => ?_)
    · rw [em_B_net]
      refine zWp_po (by omega) (zWp_qi (q_hasCell b.2.1 w) ?_)
      rw [if_pos c1]
      exact zWp_nt (by decide) (zWp_qi (q_hasNet b.2.2.1 (by omega)) (zWp_it c2 (zWp_qi (q_refuse (by decide)) (zWp_s ⟨rfl, rfl⟩))))
    · rw [em_R_net]
      refine zWp_qi (q_R_isCell w r'.1.1) ?_
      rw [if_pos c1, e8 h' r', el_R_net_23, el_R_net_23, el_R_net_27]
      refine zWp_nt (by decide) (zWp_it (by omega) ?_)
      by_cases e : st 8 x = 1
      · rw [if_pos e] at c2
        exact zWp_it e (zWp_it c2 (zWp_qi (q_R_refuses (by decide)) (zWp_it (by decide) (zWp_s ⟨rfl, rfl⟩))))
      · rw [if_neg e] at c2
        exact zWp_nt e (zWp_it c2 (zWp_qi (q_R_refuses (by decide)) (zWp_it (by decide) (zWp_s ⟨rfl, rfl⟩))))
  · have hv : st 8 x = 1 ∧ y = 0 ∨ ¬ st 8 x = 1 ∧ y = 1 := by
      by_cases e : st 8 x = 1
      · rw [if_pos e] at c2; exact Or.inl ⟨e, by omega⟩
      · rw [if_neg e] at c2; exact Or.inr ⟨e, by omega⟩
    refine alike2 (wk.kp wt) wg (V := .inl 1) (st := zset st 8 x y) (Λ := Λ) (h := h) ?_ (fun h' f => ?_)
    · rw [em_B_net]
      refine zWp_po (by omega) (zWp_qi (q_hasCell b.2.1 w) ?_)
      rw [if_pos c1]
      obtain ⟨v1, h1, e1, u1, u2, u3⟩ := q_remember (d := d + 1) c
      refine zWp_nt (by decide) (zWp_qi (q_hasNet b.2.2.1 (by omega)) (zWp_nt c2 (zWp_qv e1 (zWp_lt fun h2 e2 => zWp_s ⟨rfl, ?_, fun r z => by rw [e2, zset_n (by omega), u3 r (by omega)]⟩))))
      have n2 : ∀ r, ¬ r = 67 → h2 r = h1 r := fun r hr => by rw [e2, zset_n hr]
      have ha1 := u1.1.2.1.a
      refine u1.st u2 (by rw [e2]; exact u1.1.2.2.1.h8 w (by omega) hv) (wt.net hy) (u1.2.2.2.2.1.fr (by rw [e2, zset_j (by decide)]) (n2 327 (by decide))) (fun q _ => by rw [n2 _ (by omega)]) (fun r hr => n2 r (by omega))
    · have r' := r.hi f
      rw [em_R_net]
      refine zWp_qi (q_R_isCell w r'.1.1) ?_
      obtain ⟨v1, h1, e1, u1, u2⟩ := q_R_keeps (d := d + 2) r'
      rw [if_pos c1, e8 h' r', el_R_net_23, el_R_net_23]
      refine zWp_nt (by decide) (zWp_it (by omega) ?_)
      have t2 : RT σ (zset st 8 x y) 0 (zset h1 450 x y) := by
        have := u1.1.2.1.hc (r := 450) (k := 8) (n := x) (x := y) (by omega)
        rwa [show 60 * 0 + x = x by omega] at this
      have fin : RI σ (zset st 8 x y) D (kp st D K) Λ G (zset h1 450 x y) := u1.s1 (by omega) t2 (wt.net hy) (by funext q; exact zset_o (by decide))
      have fl : frLo h' (zset h1 450 x y) := fun r z => by rw [zset_n (by omega), u2 r z]
      rcases hv with ⟨z1, z2⟩ | ⟨z1, z2⟩
      · refine zWp_it z1 (zWp_nt (by omega) (zWp_qv e1 (zWp_it z2 (zWp_it (by omega) (zWp_lt fun h2 e2 => zWp_s ⟨rfl, ?_, ?_⟩)))))
        · rw [e2, ← z2]; exact fin
        · rw [e2, ← z2]; exact fl
      · refine zWp_nt z1 (zWp_nt (by omega) (zWp_qv e1 (zWp_nt (by omega) (zWp_it (by omega) (zWp_lt fun h2 e2 => zWp_s ⟨rfl, ?_, ?_⟩)))))
        · rw [e2, ← z2]; exact fin
        · rw [e2, ← z2]; exact fl
theorem a_wall {d : Nat} {x y : Int} {h : zH} (i : INV h) : Alike (m_B_wall (d + 5) x y h) (m_R_wall (d + 5) x y) := by
  obtain ⟨σ, st, D, K, Λ, G, c, r, wk, wg⟩ := i
  have b := c.1
  have w := b.2.2.2.1
  have wt := b.2.2.2.2
  have ha := b.2.1.a
  have hn := w.n
  by_cases c1 : 0 ≤ x ∧ x < nC σ
  case neg =>
    refine alike_ref c r wk wg (V := .inl 0) (k := 3) (by decide) ?_ (fun h' r' => ?_)
    · rw [em_B_wall]
      refine zWp_po (by omega) (zWp_qi (q_hasCell b.2.1 w) ?_)
      rw [if_neg c1]
      exact zWp_it rfl (zWp_qi (q_refuse (by decide)) (zWp_s ⟨rfl, rfl⟩))
    · rw [em_R_wall]
      refine zWp_qi (q_R_isCell w r'.1.1) ?_
      rw [if_neg c1, el_R_wall_28]
      exact zWp_it rfl (zWp_qi (q_R_refuses (by decide)) (zWp_it (by decide) (zWp_s ⟨rfl, rfl⟩)))
  by_cases c2 : 1 ≤ y ∧ y ≤ 9999
  case neg =>
    refine alike_ref c r wk wg (V := .inl 0) (k := 3) (by decide) ?_ (fun h' r' => ?_)
    · rw [em_B_wall]
      refine zWp_po (by omega) (zWp_qi (q_hasCell b.2.1 w) ?_)
      rw [if_pos c1]
      refine zWp_nt (by decide) (zWp_qi q_between ?_)
      rw [if_neg c2]
      exact zWp_it rfl (zWp_qi (q_refuse (by decide)) (zWp_s ⟨rfl, rfl⟩))
    · rw [em_R_wall]
      refine zWp_qi (q_R_isCell w r'.1.1) ?_
      rw [if_pos c1]
      refine zWp_nt (by decide) (zWp_qi q_R_is ?_)
      rw [if_neg c2, el_R_wall_28]
      exact zWp_it rfl (zWp_qi (q_R_refuses (by decide)) (zWp_it (by decide) (zWp_s ⟨rfl, rfl⟩)))
  have hE5 : 0 ≤ st 5 x := (wt.2.1 x c1.1 c1.2).1
  by_cases c3 : sAt σ st x = -1 ∧ ¬ (σ 7 x ≠ -1 ∧ st 9 (σ 7 x) ≠ 1) ∧ st 5 x = 0
  case neg =>
    have c4 : sAt σ st x ≠ -1 ∨ 0 < st 5 x ∨ (σ 7 x ≠ -1 ∧ st 9 (σ 7 x) ≠ 1) := by
      by_cases e1 : sAt σ st x = -1
      · by_cases e2 : σ 7 x ≠ -1 ∧ st 9 (σ 7 x) ≠ 1
        · exact Or.inr (Or.inr e2)
        · by_cases e3 : st 5 x = 0
          · exact absurd ⟨e1, e2, e3⟩ c3
          · exact Or.inr (Or.inl (by omega))
      · exact Or.inl e1
    refine alike_ref c r wk wg (V := .inl 0) (k := 3) (by decide) ?_ (fun h' r' => ?_)
    · rw [em_B_wall]
      refine zWp_po (by omega) (zWp_qi (q_hasCell b.2.1 w) ?_)
      rw [if_pos c1]
      refine zWp_nt (by decide) (zWp_qi q_between ?_)
      rw [if_pos c2]
      refine zWp_nt (by decide) (zWp_qi (q_isBarred b.2.1 w b.2.2.1 c1) ?_)
      rw [if_pos c4]
      exact zWp_nt (by decide) (zWp_qi (q_refuse (by decide)) (zWp_s ⟨rfl, rfl⟩))
    · rw [em_R_wall]
      refine zWp_qi (q_R_isCell w r'.1.1) ?_
      rw [if_pos c1]
      refine zWp_nt (by decide) (zWp_qi q_R_is ?_)
      rw [if_pos c2]
      refine zWp_nt (by decide) (zWp_qi (q_R_isFree r'.1 c1) ?_)
      rw [if_neg c3, el_R_wall_28]
      exact zWp_it rfl (zWp_qi (q_R_refuses (by decide)) (zWp_it (by decide) (zWp_s ⟨rfl, rfl⟩)))
  have c4 : ¬ (sAt σ st x ≠ -1 ∨ 0 < st 5 x ∨ (σ 7 x ≠ -1 ∧ st 9 (σ 7 x) ≠ 1)) := by
    rintro (z | z | z)
    · exact z c3.1
    · have := c3.2.2; omega
    · exact c3.2.1 z
  refine alike2 (wk.kp wt) wg (V := .inl 1) (st := zset st 5 x y) (Λ := Λ) (h := h) ?_ (fun h' f => ?_)
  · rw [em_B_wall]
    refine zWp_po (by omega) (zWp_qi (q_hasCell b.2.1 w) ?_)
    rw [if_pos c1]
    refine zWp_nt (by decide) (zWp_qi q_between ?_)
    rw [if_pos c2]
    refine zWp_nt (by decide) (zWp_qi (q_isBarred b.2.1 w b.2.2.1 c1) ?_)
    rw [if_neg c4]
    obtain ⟨v1, h1, e1, u1, u2, u3⟩ := q_remember (d := d + 1) c
    refine zWp_it rfl (zWp_qv e1 (zWp_it (by omega) (zWp_lt fun h2 e2 => zWp_s ⟨rfl, ?_, fun r z => by rw [e2, zset_n (by omega), u3 r (by omega)]⟩)))
    have n2 : ∀ r, ¬ r = 72 → h2 r = h1 r := fun r hr => by rw [e2, zset_n hr]
    have ha1 := u1.1.2.1.a
    have ha2 := u1.1.2.1.1
    refine u1.st u2 (by rw [e2]; exact u1.1.2.2.1.h5 w) (wt.wall (by omega) c3.2.1) (u1.2.2.2.2.1.fr (by rw [n2 67 (by decide)]) (n2 327 (by decide))) (fun q _ => by rw [n2 _ (by omega)]) (fun r hr => n2 r (by omega))
  · have r' := r.hi f
    rw [em_R_wall]
    refine zWp_qi (q_R_isCell w r'.1.1) ?_
    rw [if_pos c1]
    refine zWp_nt (by decide) (zWp_qi q_R_is ?_)
    rw [if_pos c2]
    refine zWp_nt (by decide) (zWp_qi (q_R_isFree r'.1 c1) ?_)
    rw [if_pos c3]
    obtain ⟨v1, h1, e1, u1, u2⟩ := q_R_keeps (d := d + 2) r'
    refine zWp_nt (by decide) (zWp_qv e1 (zWp_it (by omega) (zWp_lt fun h2 e2 => zWp_s ⟨rfl, ?_, fun r z => by rw [e2, zset_n (by omega), u2 r z]⟩)))
    rw [e2]
    have t2 : RT σ (zset st 5 x y) 0 (zset h1 448 x y) := by
      have := u1.1.2.1.hc (r := 448) (k := 5) (n := x) (x := y) (by omega)
      rwa [show 60 * 0 + x = x by omega] at this
    exact u1.s1 (by omega) t2 (wt.wall (by omega) c3.2.1) (by funext q; exact zset_o (by decide))
theorem a_dig {d : Nat} {x y : Int} {h : zH} (i : INV h) : Alike (m_B_dig (d + 5) x y h) (m_R_dig (d + 5) x y) := by
  obtain ⟨σ, st, D, K, Λ, G, c, r, wk, wg⟩ := i
  have b := c.1
  have w := b.2.2.2.1
  have wt := b.2.2.2.2
  have ha := b.2.1.a
  have hn := w.n
  by_cases c1 : 0 ≤ x ∧ x < nC σ
  case neg =>
    refine alike_ref c r wk wg (V := .inl (-1)) (k := 3) (by decide) ?_ (fun h' r' => ?_)
    · rw [em_B_dig]
      refine zWp_po (by omega) (zWp_qi (q_hasCell b.2.1 w) ?_)
      rw [if_neg c1]
      exact zWp_it rfl (zWp_qi (q_refuse (by decide)) (zWp_s ⟨rfl, rfl⟩))
    · rw [em_R_dig]
      refine zWp_qi (q_R_isCell w r'.1.1) ?_
      rw [if_neg c1]
      exact zWp_it rfl (zWp_qi (q_R_refuses (by decide)) (zWp_s ⟨rfl, rfl⟩))
  by_cases c2 : 1 ≤ y ∧ y ≤ 99
  case neg =>
    refine alike_ref c r wk wg (V := .inl (-1)) (k := 3) (by decide) ?_ (fun h' r' => ?_)
    · rw [em_B_dig]
      refine zWp_po (by omega) (zWp_qi (q_hasCell b.2.1 w) ?_)
      rw [if_pos c1]
      refine zWp_nt (by decide) (zWp_qi q_between ?_)
      rw [if_neg c2]
      exact zWp_it rfl (zWp_qi (q_refuse (by decide)) (zWp_s ⟨rfl, rfl⟩))
    · rw [em_R_dig]
      refine zWp_qi (q_R_isCell w r'.1.1) ?_
      rw [if_pos c1]
      refine zWp_nt (by decide) (zWp_qi q_R_is ?_)
      rw [if_neg c2]
      exact zWp_it rfl (zWp_qi (q_R_refuses (by decide)) (zWp_s ⟨rfl, rfl⟩))
  have h6 : 0 ≤ st 6 x ∧ st 6 x ≤ 99 := ⟨(wt.2.1 x c1.1 c1.2).2.2.1, (wt.2.1 x c1.1 c1.2).2.2.2.1⟩
  have hV : 0 ≤ (if st 6 x + y < 99 then st 6 x + y else 99) ∧ (if st 6 x + y < 99 then st 6 x + y else 99) ≤ 99 := by split <;> omega
  refine alike2 (wk.kp wt) wg (V := .inl (if st 6 x + y < 99 then st 6 x + y else 99)) (st := zset st 6 x (if st 6 x + y < 99 then st 6 x + y else 99)) (Λ := Λ) (h := h) ?_ (fun h' f => ?_)
  · rw [em_B_dig]
    refine zWp_po (by omega) (zWp_qi (q_hasCell b.2.1 w) ?_)
    rw [if_pos c1]
    refine zWp_nt (by decide) (zWp_qi q_between ?_)
    rw [if_pos c2]
    obtain ⟨v1, h1, e1, u1, u2, u3⟩ := q_remember (d := d + 1) c
    have e6 : h1 73 x = st 6 x := u1.1.2.2.1.ro (by omega)
    refine zWp_nt (by decide) (zWp_qv e1 ?_)
    rw [e6, w32_i (by omega)]
    refine zWp_it (by omega) (zWp_qi q_min (zWp_it (by omega) (zWp_lt fun h2 e2 => zWp_it (by omega) (zWp_s ⟨by rw [e2, zset_e], ?_, fun r z => by rw [e2, zset_n (by omega), u3 r (by omega)]⟩))))
    have n2 : ∀ r, ¬ r = 73 → h2 r = h1 r := fun r hr => by rw [e2, zset_n hr]
    have ha1 := u1.1.2.1.a
    have ha2 := u1.1.2.1.1
    refine u1.st u2 (by rw [e2]; exact u1.1.2.2.1.h6 w) (wt.dig hV) (u1.2.2.2.2.1.fr (by rw [n2 67 (by decide)]) (n2 327 (by decide))) (fun q _ => by rw [n2 _ (by omega)]) (fun r hr => n2 r (by omega))
  · have r' := r.hi f
    rw [em_R_dig]
    refine zWp_qi (q_R_isCell w r'.1.1) ?_
    rw [if_pos c1]
    refine zWp_nt (by decide) (zWp_qi q_R_is ?_)
    rw [if_pos c2]
    obtain ⟨v1, h1, e1, u1, u2⟩ := q_R_keeps (d := d + 2) r'
    have e6 : h1 449 x = st 6 x := by
      have := (u1.1.2.1.2.2.2 x c1.1 c1.2).2.1
      rwa [show 60 * 0 + x = x by omega] at this
    refine zWp_nt (by decide) (zWp_qv e1 ?_)
    rw [e6, w32_i (by omega)]
    have t2 : ∀ v, RT σ (zset st 6 x v) 0 (zset h1 449 x v) := fun v => by
      have := u1.1.2.1.hc (r := 449) (k := 6) (n := x) (x := v) (by omega)
      rwa [show 60 * 0 + x = x by omega] at this
    refine zWp_it (by omega) ?_
    by_cases e : 99 < st 6 x + y
    · refine zWp_it e (zWp_it (by omega) (zWp_lt fun h2 e2 => zWp_it (by omega) (zWp_s ⟨by rw [e2, zset_e, if_neg (by omega)], ?_, fun r z => by rw [e2, zset_n (by omega), u2 r z]⟩)))
      rw [if_neg (by omega)] at hV ⊢
      rw [e2]
      exact u1.s1 (by omega) (t2 _) (wt.dig hV) (by funext q; exact zset_o (by decide))
    · have ev : (if st 6 x + y < 99 then st 6 x + y else 99) = st 6 x + y := by split <;> omega
      rw [ev] at hV ⊢
      refine zWp_nt e (zWp_it (by omega) (zWp_it (by omega) (zWp_lt fun h2 e2 => zWp_it (by omega) (zWp_s ⟨by rw [e2, zset_e], ?_, fun r z => by rw [e2, zset_n (by omega), u2 r z]⟩))))
      rw [e2]
      exact u1.s1 (by omega) (t2 _) (wt.dig hV) (by funext q; exact zset_o (by decide))
theorem a_take {d : Nat} {x : Int} {h : zH} (i : INV h) : Alike (m_B_take (d + 5) x h) (m_R_take (d + 5) x) := by
  obtain ⟨σ, st, D, K, Λ, G, c, r, wk, wg⟩ := i
  have b := c.1
  have w := b.2.2.2.1
  have wt := b.2.2.2.2
  have ha := b.2.1.a
  have hS10 : nS σ ≤ 10 := w.2.1.2.2.2.1
  by_cases c1 : (0 ≤ x ∧ x < nS σ) ∧ st 1 x ≠ -1
  case neg =>
    refine alike_ref c r wk wg (V := .inl (-1)) (k := 3) (by decide) ?_ (fun h' r' => ?_)
    · rw [em_B_take]
      refine zWp_qi (q_stoneLies b) ?_
      rw [if_neg c1]
      exact zWp_it rfl (zWp_qi (q_refuse (by decide)) (zWp_s ⟨rfl, rfl⟩))
    · rw [em_R_take]
      refine zWp_qi (q_R_isThere r'.1) ?_
      rw [if_neg c1]
      exact zWp_it rfl (zWp_qi (q_R_refuses (by decide)) (zWp_s ⟨rfl, rfl⟩))
  refine alike2 (wk.kp wt) wg (V := .inl (σ 13 x)) (st := zset st 1 x (-1)) (Λ := Λ) (h := h) ?_ (fun h' f => ?_)
  · rw [em_B_take]
    refine zWp_qi (q_stoneLies b) ?_
    rw [if_pos c1]
    obtain ⟨v1, h1, e1, u1, u2, u3⟩ := q_remember (d := d + 1) c
    obtain ⟨v2, h2, e2, p1, p2, p3⟩ := q_moveOut (d := d + 3) w u1.1.2.2.1 wt c1.1
    have ha1 := u1.1.2.1.a
    have ha2 := u1.1.2.1.1
    have fin : CI σ (zset st 1 x (-1)) D (kp st D K) Λ G h2 := u1.st u2 p1 wt.take (u1.2.2.2.2.1.fr (p2 9) (p3 327 (by decide))) (fun q _ => by rw [p3 _ (by omega)]) (fun r hr => p3 r (by omega))
    have ha3 := fin.1.2.1.a
    have e13 : h2 (h2 0 7 + 13) x = σ 13 x := fin.1.2.1.g 13 (by decide)
    exact zWp_nt (by decide) (zWp_qv e1 (zWp_qv e2 (zWp_po (by omega) (zWp_po (by omega) (zWp_it (by omega) (zWp_s ⟨by rw [e13], fin, fun r z => by rw [p3 r (by omega), u3 r (by omega)]⟩))))))
  · have r' := r.hi f
    rw [em_R_take]
    refine zWp_qi (q_R_isThere r'.1) ?_
    rw [if_pos c1]
    obtain ⟨v1, h1, e1, u1, u2⟩ := q_R_keeps (d := d + 2) r'
    refine zWp_nt (by decide) (zWp_qv e1 (zWp_it (by omega) (zWp_lt fun h2 e2 => ?_)))
    have t2 : RT σ (zset st 1 x (-1)) 0 h2 := by
      have := u1.1.2.1.h1 (s := x) (x := -1)
      rw [e2]
      rwa [show 10 * 0 + x = x by omega] at this
    have fin : RI σ (zset st 1 x (-1)) D (kp st D K) Λ G h2 := by
      rw [e2] at t2 ⊢
      exact u1.s1 (by omega) t2 wt.take (by funext q; exact zset_o (by decide))
    have hb := fin.1.1.b
    have ix : w32 (w32 (10 * h2 403 12) + x) = 10 * h2 403 12 + x := ixw (by omega) (by omega)
    rw [ix, (fin.1.1.2.2.2.2.1 x c1.1.1 c1.1.2).1]
    exact zWp_it (by omega) (zWp_s ⟨rfl, fin, fun r z => by rw [e2, zset_n (by omega), u2 r z]⟩)
theorem a_undo {d : Nat} {h : zH} (i : INV h) : Alike (m_B_undo (d + 5) h) (m_R_undo (d + 5)) := by
  obtain ⟨σ, st, D, K, Λ, G, c, r, wk, wg⟩ := i
  have b := c.1
  have w := b.2.2.2.1
  have wt := b.2.2.2.2
  have ha := b.2.1.a
  obtain ⟨⟨k1, k2⟩, k3, k4⟩ := c.2.2.2.2.2.1
  have e85 : h 85 (h 84 1) = 86 + 8 * h 84 1 := c.2.2.2.1.2.1 _ k3.1 k3.2
  cases K with
  | nil =>
    have k1 : h 84 2 = 0 := k1
    refine alike_ref c r wk wg (V := .inl 0) (k := 4) (by decide) ?_ (fun h' r' => ?_)
    · have eg : m_History_giveBack (d + 4) 84 67 h = some (.inl 0, h) := by
        rw [em_History_giveBack, zpo_t (by decide), zpo_t (by decide), zpo_t (by decide), zit_t (by omega), zpo_t (by decide), zit_t k1]
      rw [em_B_undo]
      exact zWp_qi eg (zWp_it rfl (zWp_qi (q_refuse (by decide)) (zWp_s ⟨rfl, rfl⟩)))
    · have e69 : h' 403 69 = 0 := r'.2.2.2.1.1.1
      rw [em_R_undo]
      exact zWp_it e69 (zWp_qi (q_R_refuses (by decide)) (zWp_it (by decide) (zWp_s ⟨rfl, rfl⟩)))
  | cons k K =>
    have kl : ((k :: K).length : Int) = (K.length : Int) + 1 := by rw [List.length_cons]; rfl
    refine alike2 wk.2.2 wg (V := .inl 1) (st := k.1) (Λ := Λ) (h := h) ?_ (fun h' f => ?_)
    · obtain ⟨t0, t9⟩ := k4 0 k rfl
      have ea : kAt (h 84 1) ((0 : Nat) : Int) = 86 + 8 * h 84 1 := by unfold kAt; omega
      rw [ea] at t0 t9
      obtain ⟨v2, h2, e2, p1, p2, p3⟩ := q_copyT (d := d + 2) (T := 67) w (by unfold SA; omega) (by omega) t0
      have eq1 : Int.tmod (w32 (w32 (h 84 1 + 30) - 1)) 30 = (h 84 1 - 1) % 30 := by
        rw [w32_i (x := h 84 1 + 30) (by omega), w32_i (by omega), Int.tmod_eq_emod_of_nonneg (by omega)]; omega
      have m2 : h2 84 = h 84 := p3 84 (by decide)
      rw [em_B_undo, em_History_giveBack, show h (84 + 1) (h 84 1) = 86 + 8 * h 84 1 from e85, k1, kl]
      refine zWp_bi (P := fun a h3 => a = 1 ∧ h3 84 1 = (h 84 1 - 1) % 30 ∧ h3 84 2 = K.length ∧ ∀ r, ¬ r = 84 → h3 r = h2 r) ?_ ?_
      · refine zWp_po (by decide) (zWp_po (by decide) (zWp_po (by decide) (zWp_it (by omega) (zWp_po (by decide) (zWp_nt (by omega) (zWp_nt (by omega) (zWp_po (by decide) (zWp_qv e2 (zWp_po (by decide) (zWp_po (by decide) (zWp_lt fun h3 e3 => zWp_po (by decide) (zWp_po (by decide) (zWp_lt fun h4 e4 => zWp_s ⟨1, rfl, rfl, ?_, ?_, fun r hr => by rw [e4, zset_n hr, e3, zset_n hr]⟩)))))))))))))
        · rw [e4, zset_j (by decide), e3, zset_e, m2, eq1]
        · rw [e4, zset_e, e3, zset_j (by decide), m2, k1, kl, w32_i (by rw [kl] at k2; omega)]; omega
      · rintro a h3 ⟨rfl, n1, n2, n3⟩
        have ef : m_NetSearch_forget (d + 4) 331 h3 = some (.inl 0, zset h3 331 4 0) := by rw [em_NetSearch_forget, zpo_t (by decide), zlt_e]
        have o4 : ∀ r, ¬ (r = 84 ∨ r = 331) → zset h3 331 4 0 r = h2 r := fun r hr => by rw [zset_n (by omega), n3 r (by omega)]
        have o5 : ∀ r, ¬ (67 ≤ r ∧ r < 75 ∨ r = 84 ∨ r = 331) → zset h3 331 4 0 r = h r := fun r hr => by rw [o4 r (by omega), p3 r (by omega)]
        have e0 : zset h3 331 4 0 0 = h 0 := o5 0 (by decide)
        refine zWp_nt (by decide) (zWp_qv ef (zWp_s ⟨rfl, ?_, fun r z => o5 r (by omega)⟩))
        obtain ⟨c1, c2, c3, c4, c5, c6, c7, c8⟩ := c
        refine ⟨⟨rfl, ?_, p1.fr (fun r q1 q2 => o4 r (by omega)), w, wk.1⟩, by rw [e0]; exact c2, c3.fr (fun r z => o5 r (by omega)), c4.fr (fun r z => o5 r (by omega)), ⟨⟨?_, ?_⟩, fun j x hj => ?_⟩, ⟨⟨?_, ?_⟩, ?_, fun j q hq => ?_⟩, Or.inl zset_e, ?_⟩
        · rw [e0]; exact c1.2.1.fr (fun r q1 q2 => o5 r (by omega))
        · rw [o4 67 (by decide), p2]; exact t9
        · have := wk.2.1.length_le
          have := c5.1.2
          omega
        · rw [o5 327 (by decide)]
          refine c5.2 j x ?_
          obtain ⟨t, ht⟩ := wk.2.1
          rw [← ht, List.getElem?_append_left (List.getElem?_eq_some_iff.1 hj).1]
          exact hj
        · rw [zset_n (by decide)]; exact n2
        · rw [kl] at k2; omega
        · rw [zset_n (by decide), n1]; omega
        · obtain ⟨z1, z2⟩ := k4 (j + 1) q hq
          have eb : kAt (zset h3 331 4 0 84 1) (j : Int) = kAt (h 84 1) ((j + 1 : Nat) : Int) := by rw [zset_n (by decide), n1]; unfold kAt; omega
          have hi := kAt_in (n := h 84 1) (j := ((j + 1 : Nat) : Int))
          rw [eb]
          exact ⟨z1.fr (fun r q1 q2 => o5 r (by omega)), by rw [o5 _ (by omega)]; exact z2⟩
        · rw [e0]; exact c8.fr (fun r q1 q2 => o5 r (by omega)) (fun q _ => by rw [o5 _ (by omega)])
    · have r' := r.hi f
      obtain ⟨c1, c2, c3, ⟨⟨l1, l2⟩, l3, l4⟩, c5, c6⟩ := r'
      rw [kl] at l2
      have ev : w32 (5 + Int.tmod (w32 (h' 403 68 + (K.length : Int))) 30) = 5 + (h' 403 68 + (K.length : Int)) % 30 := by
        rw [w32_i (x := h' 403 68 + (K.length : Int)) (by omega), Int.tmod_eq_emod_of_nonneg (by omega), w32_i (by omega)]
      rw [em_R_undo, l1, kl]
      refine zWp_nt (by omega) (zWp_lt fun h1 e1 => ?_)
      have g1 : h1 403 69 = K.length := by rw [e1, zset_e, w32_i (by omega)]; omega
      have g2 : ∀ q, ¬ q = 69 → h1 403 q = h' 403 q := fun q hq => by rw [e1, zset_j hq]
      have g3 : ∀ r, ¬ r = 403 → h1 r = h' r := fun r hr => by rw [e1, zset_n hr]
      have er : m_R_ring (d + 4) (h1 403 69) h1 = some (.inl (5 + (h' 403 68 + (K.length : Int)) % 30), h1) := by rw [em_R_ring, g1, g2 68 (by decide), ev]
      obtain ⟨t0, t9⟩ := l4 0 k rfl
      have ea : rAt (h' 403 68) ((k :: K).length : Int) ((0 : Nat) : Int) = 5 + (h' 403 68 + (K.length : Int)) % 30 := by rw [kl]; unfold rAt; omega
      rw [ea] at t0 t9
      have t1 := t0.fr (h' := h1) (fun r _ _ => g3 r (by omega))
      have t2 : RDv (k.1 7, k.2) (5 + (h' 403 68 + (K.length : Int)) % 30) h1 := t9.fr (fun i _ _ => by rw [g3 451 (by decide)]) (by rw [g3 452 (by decide)]) (fun i _ _ => by rw [g3 453 (by decide)])
      have hT : 0 ≤ h1 452 (5 + (h' 403 68 + (K.length : Int)) % 30) ∧ h1 452 (5 + (h' 403 68 + (K.length : Int)) % 30) ≤ 99 := by
        have := t2.2.1
        omega
      obtain ⟨v2, h2, e2, p1, p2, p3⟩ := q_copiesK (d := d + 3) (t := 0) (f := 5 + (h' 403 68 + (K.length : Int)) % 30) (h := h1) (by decide) (by omega) (by omega) (Or.inl rfl) hT
      have m2 : h2 403 = h1 403 := p3 403 (by decide)
      have m3 : ∀ q, ¬ q = 69 → h2 403 q = h' 403 q := fun q hq => by rw [m2, g2 q hq]
      have r4 : ∀ r, ¬ (r = 403 ∨ 444 ≤ r ∧ r ≤ 453) → h2 r = h' r := fun r hr => by rw [p3 r (by omega), g3 r (by omega)]
      refine zWp_qi er (zWp_qv e2 (zWp_s ⟨rfl, ?_, fun r hr => by rw [p3 r (by omega), g3 r (by omega)]⟩))
      refine ⟨⟨c1.1.fr (m3 12 (by decide)) (fun r a b => r4 r (by omega)), p1.t w (by decide) t1, w, wk.1⟩, c2.fr (fun q z => m3 q (by omega)) (fun r z => r4 r (by omega)), (p2.t t2).z, ⟨⟨?_, ?_⟩, by rw [m3 68 (by decide)]; exact l3, fun j q hj => ?_⟩, fun d => (c5 d).fr (m3 12 (by decide)) (fun r a b => r4 r (by omega)), c6.fr (m3 12 (by decide)) (fun r z => r4 r (by omega))⟩
      · rw [m2]; exact g1
      · omega
      · obtain ⟨u1, u2⟩ := l4 (j + 1) q hj
        have hl : j < K.length := (List.getElem?_eq_some_iff.1 (show K[j]? = some q from hj)).1
        have eb : rAt (h' 403 68) ((k :: K).length : Int) ((j + 1 : Nat) : Int) = rAt (h2 403 68) (K.length : Int) j := by rw [kl, m3 68 (by decide)]; unfold rAt; omega
        have hi := rAt_in (u := h2 403 68) (n := K.length) (j := j)
        rw [eb] at u1 u2
        have u1' := u1.fr (h' := h1) (fun r _ _ => g3 r (by omega))
        have u2' : RDv (q.1 7, q.2) (rAt (h2 403 68) (K.length : Int) j) h1 := u2.fr (fun i _ _ => by rw [g3 451 (by decide)]) (by rw [g3 452 (by decide)]) (fun i _ _ => by rw [g3 453 (by decide)])
        exact ⟨p1.o w (by omega) u1', p2.o hT (by omega) u2'⟩
