/-! the class reads a law -/
def lwS (A : List zTk) (g : zLx → zLx) (x : zLx) : zLx := g (ndS A 2 17 (sumA A 8 x).1, (sumA A 8 x).2)
def frLa (b : Int) (h h' : zH) : Prop := (∀ r, ¬ (r = 5 ∨ r = 10 ∨ b + 21 ≤ r ∧ r ≤ b + 25) → h' r = h r) ∧ ∀ q, ¬ (q = 1 ∨ q = 5) → h' (b + 21) q = h (b + 21) q
theorem LC.st {A : List zTk} {b k i v : Int} {x : zLx} {h : zH} (c : LC A b x h) (hk : 23 ≤ k) : LC A b x (zset h (b + k) i v) := by
  obtain ⟨c1, c2, c3, c4⟩ := c
  refine ⟨c1.f5 (fun r hr => zset_n (by omega)), c2.fr (zset_o (by omega)) (zset_n (by omega)), ?_, c4⟩
  rw [zset_n (by omega)]
  exact c3
theorem q_rlaw {d : Nat} {A : List zTk} {b k : Int} {s : zRd} {C : List Int} {h : zH} (ok : AOk A) (hb : 11 ≤ b ∧ b ≤ 39) (t : TC A s h) (lb : LB C b h) (e5 : h (b + 21) 5 = k) (hk : 0 ≤ k ∧ k < 8) : zWp (m_LawReader_readLaw (d + 42) 10 5 (b + 21) h) (fun _ h' => (TC A (lwS A (testA A 8) (s, C)).1 h' ∧ LB (lwS A (testA A 8) (s, C)).2 b h') ∧ frLa b h h' ∧ h' (b + 21) 5 = k + 1 ∧ (∀ i, h' (b + 23) i = if i = k then (C.length : Int) else h (b + 23) i) ∧ (∀ i, h' (b + 24) i = if i = k then ((sumA A 8 (s, C)).2.length : Int) else h (b + 24) i) ∧ ∀ i, h' (b + 25) i = if i = k then ((lwS A (testA A 8) (s, C)).2.length : Int) else h (b + 25) i) := by
  rw [em_LawReader_readLaw]
  refine zWp_po (by decide) (zWp_lt fun h1 e1 => zWp_po (by decide) (zWp_lt fun h2 e2 => ?_))
  have r2 : ∀ r, r ≠ 10 → h2 r = h r := fun r hr => by rw [e2, zset_n hr, e1, zset_n hr]
  have c2 : LC A b (s, C) h2 := ⟨t.f5 (fun r hr => r2 r (by omega)), lb.fr (by rw [r2 _ (by omega)]) (r2 _ (by omega)), ⟨by rw [e2, zset_j (by decide), e1, zset_e], by rw [e2, zset_e]⟩, hb⟩
  have k5 : h2 (b + 21) 5 = k := by rw [r2 _ (by omega)]; exact e5
  rw [c2.k, em_LawBook_beginSum, k5, c2.2.1.1, show b + 21 + 2 = b + 23 by omega]
  refine zWp_po (by decide) (zWp_po (by omega) (zWp_bv (P := fun _ h' => h' = zset h2 (b + 23) k (C.length : Int)) (zWp_po (by omega) (zWp_it (by omega) (zWp_po (by omega) (zWp_po (by omega) (zWp_po (by omega) (zWp_po (by omega) (zWp_it (by omega) (zWp_lt fun h3 e3 => zWp_s e3)))))))) (fun _ h3 e3 => zWp_po (by decide) ?_)))
  have c3 : LC A b (s, C) h3 := by rw [e3]; exact c2.st (by decide)
  have q1 := q_sumK (b := b) ok 8 (by decide) (d + 41) (s, C) h3 (by omega) c3
  rw [show (8 : Int) - ((8 : Nat) : Int) = 0 from rfl] at q1
  refine zWp_bv q1 (fun _ h4 u4 => zWp_po (by decide) ?_)
  unfold lwS
  generalize sumA A 8 (s, C) = y at u4 ⊢
  rw [u4.1.t]
  refine zWp_po (by decide) (zWp_bv (q_ndOw (d := d + 39) (x := 17) ok u4.1.1) (fun _ h5 u5 => zWp_po (by decide) ?_))
  have c5 := u4.1.fA u5.1 u5.2
  have k5b : h5 (b + 21) 5 = k := by rw [c5.2.2 5 (by decide), u4.2.2 5 (by decide), e3, zset_o (by omega)]; exact k5
  rw [c5.1.k, em_LawBook_beginTest, k5b, c5.1.2.1.1, show b + 21 + 3 = b + 24 by omega]
  refine zWp_po (by omega) (zWp_bv (P := fun _ h' => h' = zset h5 (b + 24) k (y.2.length : Int)) (zWp_po (by omega) (zWp_it (by omega) (zWp_po (by omega) (zWp_po (by omega) (zWp_po (by omega) (zWp_po (by omega) (zWp_it (by omega) (zWp_lt fun h6 e6 => zWp_s e6)))))))) (fun _ h6 e6 => zWp_po (by decide) ?_))
  have c6 : LC A b (ndS A 2 17 y.1, y.2) h6 := by rw [e6]; exact c5.1.st (by decide)
  have q2 := q_tstK (b := b) ok 8 (by decide) (d + 41) (ndS A 2 17 y.1, y.2) h6 (by omega) c6
  rw [show (8 : Int) - ((8 : Nat) : Int) = 0 from rfl] at q2
  refine zWp_bv q2 (fun _ h7 u7 => zWp_po (by decide) ?_)
  generalize testA A 8 (ndS A 2 17 y.1, y.2) = z at u7 ⊢
  have k5c : h7 (b + 21) 5 = k := by rw [u7.2.2 5 (by decide), e6, zset_o (by omega)]; exact k5b
  rw [u7.1.k, em_LawBook_endLaw, k5c, u7.1.2.1.1, show b + 21 + 4 = b + 25 by omega]
  refine zWp_po (by omega) (zWp_bv (P := fun _ h' => h' = zset (zset h7 (b + 25) k (z.2.length : Int)) (b + 21) 5 (k + 1)) (zWp_po (by omega) (zWp_it (by omega) (zWp_po (by omega) (zWp_po (by omega) (zWp_po (by omega) (zWp_po (by omega) (zWp_it (by omega) (zWp_lt fun h8 e8 => ?_)))))))) (fun _ h9 e9 => zWp_s ?_))
  · have k8 : h8 (b + 21) 5 = k := by rw [e8, zset_o (by omega)]; exact k5c
    rw [k8, w32_i (x := k + 1) (by omega)]
    exact zWp_po (by omega) (zWp_po (by omega) (zWp_lt fun h9 e9 => zWp_s (by rw [e9, e8])))
  · have c9 := u7.1.st (k := 25) (i := k) (v := (z.2.length : Int)) (by decide)
    have n9 : ∀ r, r ≠ b + 21 → r ≠ b + 25 → h9 r = h7 r := fun r h1 h2 => by rw [e9, zset_n h1, zset_n h2]
    have g23 : ∀ r, r = b + 23 → h9 r = h3 r := fun r hr => by rw [n9 r (by omega) (by omega), u7.2.1 r (by omega), e6, zset_n (by omega), c5.2.1 r (by omega), u4.2.1 r (by omega)]
    have g24 : h9 (b + 24) = h6 (b + 24) := by rw [n9 _ (by omega) (by omega), u7.2.1 _ (by omega)]
    have h24 : h5 (b + 24) = h (b + 24) := by rw [c5.2.1 _ (by omega), u4.2.1 _ (by omega), e3, zset_n (by omega), r2 _ (by omega)]
    have h25 : h7 (b + 25) = h (b + 25) := by rw [u7.2.1 _ (by omega), e6, zset_n (by omega), c5.2.1 _ (by omega), u4.2.1 _ (by omega), e3, zset_n (by omega), r2 _ (by omega)]
    refine ⟨⟨?_, ?_⟩, ⟨fun r hr => ?_, fun q hq => ?_⟩, by rw [e9, zset_e], fun i => ?_, fun i => ?_, fun i => ?_⟩
    · rw [e9]; exact c9.1.f5 (fun r hr => zset_n (by omega))
    · rw [e9]; exact c9.2.1.fr (zset_j (by decide)) (zset_n (by omega))
    · rw [n9 r (by omega) (by omega), u7.2.1 r (by omega), e6, zset_n (by omega), c5.2.1 r (by omega), u4.2.1 r (by omega), e3, zset_n (by omega), r2 r (by omega)]
    · rw [e9, zset_j (by omega), zset_o (by omega), u7.2.2 q (by omega), e6, zset_o (by omega), c5.2.2 q (by omega), u4.2.2 q (by omega), e3, zset_o (by omega), r2 _ (by omega)]
    · rw [g23 _ rfl, e3, zset_g, r2 _ (by omega)]
    · rw [g24, e6, zset_g, h24]
    · rw [e9, zset_o (by omega), zset_g, h25]
/-! the book of laws read so far -/
def BkL (L : List zL4) (C : List Int) (b : Int) (h : zH) : Prop := LB C b h ∧ (h (b + 21) 5 = (L.length : Int) ∧ L.length ≤ 8) ∧ ∀ (j : Nat) (l : zL4), L[j]? = some l → ∃ P : Nat, h (b + 23) (j : Int) = (P : Int) ∧ h (b + 24) (j : Int) = ((P + l.1.length : Nat) : Int) ∧ h (b + 25) (j : Int) = ((P + l.1.length + l.2.1.length : Nat) : Int) ∧ (∀ (i : Nat) (x : Int), (l.1 ++ l.2.1)[i]? = some x → C[P + i]? = some x) ∧ P + l.1.length + l.2.1.length ≤ C.length
theorem BkL.c {L : List zL4} {C : List Int} {b : Int} {h : zH} (k : BkL L C b h) : BkC L b h := by
  refine ⟨k.2.1.1, k.2.1.2, fun j l hj => ?_⟩
  obtain ⟨P, a1, a2, a3, a4, a5⟩ := k.2.2 j l hj
  have l2 := k.1.2.1
  exact ⟨P, a1, a2, a3, fun i x hx => k.1.2.2 (P + i) x (a4 i x hx), by omega⟩
theorem BkL.f {L : List zL4} {C : List Int} {b : Int} {h h' : zH} (k : BkL L C b h) (e : ∀ r, b + 21 ≤ r → r ≤ b + 25 → h' r = h r) : BkL L C b h' := by
  unfold BkL at k ⊢
  rw [e (b + 21) (by omega) (by omega), e (b + 23) (by omega) (by omega), e (b + 24) (by omega) (by omega), e (b + 25) (by omega) (by omega)]
  exact ⟨k.1.fr (by rw [e (b + 21) (by omega) (by omega)]) (e (b + 22) (by omega) (by omega)), k.2⟩
theorem get_x {α : Type} {C X : List α} {i : Nat} {x : α} (h : C[i]? = some x) : (C ++ X)[i]? = some x := by
  rw [List.getElem?_append_left (List.getElem?_eq_some_iff.1 h).1]
  exact h
/-- one law more -/
theorem BkL.x {L : List zL4} {C X Y X' Y' : List Int} {b : Int} {h h' : zH} (k : BkL L C b h) (hL : L.length < 8) (lb : LB (C ++ X ++ X') b h') (e5 : h' (b + 21) 5 = (L.length : Int) + 1) (m1 : ∀ i, h' (b + 23) i = if i = (L.length : Int) then (C.length : Int) else h (b + 23) i) (m2 : ∀ i, h' (b + 24) i = if i = (L.length : Int) then ((C ++ X).length : Int) else h (b + 24) i) (m3 : ∀ i, h' (b + 25) i = if i = (L.length : Int) then ((C ++ X ++ X').length : Int) else h (b + 25) i) : BkL (L ++ [(X, X', Y, Y')]) (C ++ X ++ X') b h' := by
  refine ⟨lb, ⟨by rw [e5, List.length_append]; rfl, by rw [List.length_append]; show L.length + 1 ≤ 8; omega⟩, fun j l hj => ?_⟩
  by_cases z : j = L.length
  · rw [z, List.getElem?_append_right (Nat.le_refl _), Nat.sub_self] at hj
    have el : (X, X', Y, Y') = l := Option.some.inj hj
    rw [← el, z]
    refine ⟨C.length, by rw [m1, if_pos rfl], by rw [m2, if_pos rfl, List.length_append], by rw [m3, if_pos rfl, List.length_append, List.length_append], fun i x hx => ?_, by rw [List.length_append, List.length_append]; exact Nat.le_refl _⟩
    dsimp only at hx
    rw [List.append_assoc, List.getElem?_append_right (Nat.le_add_right _ _), Nat.add_sub_cancel_left]
    exact hx
  · have hlt : j < (L ++ [(X, X', Y, Y')]).length := (List.getElem?_eq_some_iff.1 hj).1
    rw [List.length_append] at hlt
    have hlt' : j < L.length + 1 := hlt
    rw [List.getElem?_append_left (show j < L.length by omega)] at hj
    obtain ⟨P, a1, a2, a3, a4, a5⟩ := k.2.2 j l hj
    have jn : ¬ (j : Int) = (L.length : Int) := by omega
    exact ⟨P, by rw [m1, if_neg jn]; exact a1, by rw [m2, if_neg jn]; exact a2, by rw [m3, if_neg jn]; exact a3, fun i x hx => get_x (get_x (a4 i x hx)), by rw [List.length_append, List.length_append]; omega⟩
