/-! the reference reads a law -/
theorem PR.g {σ h h' : zH} (p : PR σ h) (e : h' 403 44 = h 403 44) (r : ∀ r, 405 ≤ r → r ≤ 429 → h' r = h r) : PR σ h' := by
  obtain ⟨p1, ⟨p2, p3, p4, p5⟩, p6, p7, p8, p9, p10, p11⟩ := p
  exact ⟨p1.fr e rfl (r _ (by decide) (by decide)) (r _ (by decide) (by decide)), ⟨p2.fr e rfl (r _ (by decide) (by decide)), p3.fr e rfl (r _ (by decide) (by decide)), p4.fr e rfl (r _ (by decide) (by decide)), p5.fr e rfl (r _ (by decide) (by decide))⟩, p6.fr e rfl (fun q hq => r q (by omega) (by omega)), p7.fr e rfl (r _ (by decide) (by decide)), p8.fr e (fun _ _ => rfl) (fun q h1 h2 => r q (by omega) (by omega)), p9.fr e (fun _ _ => rfl) (fun q h1 h2 => r q (by omega) (by omega)), p10.fr e (fun _ _ => rfl) (r _ (by decide) (by decide)) (r _ (by decide) (by decide)), p11.fr e rfl (r _ (by decide) (by decide))⟩
theorem frLr.w {h h' : zH} (f : frLr h h') : frBw h h' := by
  refine ⟨fun r x => f.1 r (by omega), fun q x => f.2.1 q (by omega), fun r i r1 r2 x => ?_⟩
  by_cases z : r = 433 ∨ r = 434
  · have e : rsz r = 1600 := by rcases z with z | z <;> rw [z] <;> decide
    rw [e] at x
    exact f.2.2 r i z x
  · rw [f.1 r (by omega)]
theorem RR.to {T : Int → Int} {n : Int} {s s' : zRd} {h : zH} {k : Nat} (r : RR T n s h) (hd : effK (toks T n) s ≠ 0) (b : Bd (toks T n) k s s') : RR T n s' h := r.dd hd (b.2.1 hd).1 (b.2.1 hd).2 b.1.1 b.1.2
/-- what the reference holds behind a law: k = which, B = the bank -/
def LwQ (T : Int → Int) (n k : Int) (C : List Int) (s : zRd) (σ h h' : zH) : Prop := (RR T n (lwS (toks T n) (testB (toks T n) 8) (s, C)).1 h' ∧ frBw h h') ∧ (effK (toks T n) (lwS (toks T n) (testB (toks T n) 8) (s, C)).1 = 0 → PR (zset σ 8 16 (k + 1)) h' ∧ CoR (lwS (toks T n) (testB (toks T n) 8) (s, C)).2 h' ∧
  (∀ i, h' 430 (8 * h 403 44 + i) = if i = k then (C.length : Int) else h 430 (8 * h 403 44 + i)) ∧ (∀ i, h' 431 (8 * h 403 44 + i) = if i = k then ((sumA (toks T n) 8 (s, C)).2.length : Int) else h 431 (8 * h 403 44 + i)) ∧ ∀ i, h' 432 (8 * h 403 44 + i) = if i = k then ((lwS (toks T n) (testB (toks T n) 8) (s, C)).2.length : Int) else h 432 (8 * h 403 44 + i))
theorem gd_lw {A : List zTk} (ok : AOk A) {g : zLx → zLx} (hg : Gd A g) {s : zRd} {C : List Int} (h1 : s.1 < A.length) (h2 : 0 ≤ s.2.1) : Bd A 1 s (sumA A 8 (s, C)).1 ∧ Bd A 1 (sumA A 8 (s, C)).1 (ndS A 2 17 (sumA A 8 (s, C)).1) ∧ Bd A 1 (ndS A 2 17 (sumA A 8 (s, C)).1) (lwS A g (s, C)).1 := by
  have b1 := (gd_sum ok 8).x (x := (s, C)) h1 h2
  have b2 := bd_nd (k := 2) (x := 17) ok b1.1.1 b1.1.2 (by decide) (by decide)
  exact ⟨b1, b2, hg.x (x := (ndS A 2 17 (sumA A 8 (s, C)).1, (sumA A 8 (s, C)).2)) b2.1.1 b2.1.2⟩
theorem q_R_law2 {d : Nat} {T : Int → Int} {n : Int} {s : zRd} {C : List Int} {σ h : zH} (hN : 0 ≤ nLa σ ∧ nLa σ ≤ 8) (p : PR σ h) (r : RR T n s h) (hd : effK (toks T n) s = 0) (hk : (tkI (toks T n) s.1).1 ≠ 0) (co : CoR C h) (hC : C.length ≤ s.1) : zWp (m_R_lawing (d + 8) h) (fun _ h' => (nLa σ < 8 → LwQ T n (nLa σ) C (advS s) σ h h') ∧ (¬ nLa σ < 8 → RR T n (flS 5 (tkI (toks T n) s.1).2.1 s) h' ∧ frBw h h')) := by
  have b := p.b
  have ok := toks_ok (T := T) r.1.1
  have gK := p.2.2.1.2.2.2.2.2.2.2
  rw [em_R_lawing, gK]
  refine zWp_it b ?_
  by_cases c : nLa σ = 8
  · refine zWp_m (Q := fun _ h' => RR T n (flS 5 (tkI (toks T n) s.1).2.1 s) h' ∧ frBw h h') (zWp_it c ?_) (fun _ h' u => ⟨fun w => absurd w (by omega), fun _ => u⟩)
    rw [el_R_lawing_20]
    refine k_ct (d := d + 4) (x := 1) p r hd hk (fun h1 z r1 f1 => ?_) (fun h1 e => absurd e (by decide))
    rw [if_neg (by decide)] at z r1
    exact zWp_it rfl (zWp_s ⟨r1, f1.n.w⟩)
  refine zWp_m (Q := fun _ h' => LwQ T n (nLa σ) C (advS s) σ h h') (zWp_nt c ?_) (fun _ h' u => ⟨fun _ => u, fun w => absurd (show nLa σ < 8 by omega) w⟩)
  rw [el_R_lawing_20]
  have fk := eff_0 hd
  have b0 := bd_adv ok r.1.2.2.2.1 fk.1 hk fk.2
  have ea : (advS s).1 = s.1 + 1 := by rw [adv_e fk.1]
  obtain ⟨b1, b2, b3⟩ := gd_lw ok (gd_tst ok 8) (s := advS s) (C := C) b0.1.1 b0.1.2
  refine k_ct (d := d + 4) (x := 0) p r hd hk (fun h1 z r1 f1 => ?_) (fun h1 _ z p1 r1 f1 => ?_)
  · rw [if_pos rfl] at z r1
    have bb := (b1.t b2).t b3
    exact zWp_it rfl (zWp_s ⟨⟨r1.to z bb, f1.n.w⟩, fun w => absurd ((bb.2.1 z).1.symm.trans w) z⟩)
  have e44 : h1 403 44 = h 403 44 := f1.2 44 (by decide)
  have co1 : CoR C h1 := co.fr (f1.2 43 (by decide)) e44 (f1.1 433 (by decide)) (f1.1 434 (by decide))
  have g1 := p1.2.2.1.2.2.2.2.2.2.2
  have bi := p1.b
  rw [g1, e44]
  rw [w32_i (x := 8 * h 403 44) (by omega), w32_i (x := 8 * h 403 44 + nLa σ) (by omega), co1.2.1]
  refine zWp_nt (by decide) (zWp_it b (zWp_it (by omega) (zWp_lt fun h3 e3 => ?_)))
  have n3 : ∀ r, r ≠ 430 → h3 r = h1 r := fun r hr => by rw [e3, zset_n hr]
  have r3 : RR T n (advS s) h3 := by rw [e3]; exact r1.wr (by decide)
  have co3 : CoR C h3 := co1.fr (by rw [n3 403 (by decide)]) (by rw [n3 403 (by decide)]) (n3 433 (by decide)) (n3 434 (by decide))
  have w3 : frBw h1 h3 := by rw [e3]; exact frBw.st ⟨by decide, by decide⟩ (by rw [show rsz 430 = 8 by decide, e44]; omega)
  have q1 := q_R_reads (d := d + 1) (x := 0) (Or.inl rfl) r3 z co3 (by omega) (by omega)
  have er : rdR (toks T n) 0 (advS s, C) = sumA (toks T n) 8 (advS s, C) := by unfold rdR; rw [if_pos rfl]
  rw [er] at q1
  refine zWp_bv q1 (fun _ h4 u4 => zWp_it (by omega) (zWp_lt fun h5 e5 => ?_))
  have n5 : ∀ r, r ≠ 431 → h5 r = h4 r := fun r hr => by rw [e5, zset_n hr]
  have r5 : RR T n (sumA (toks T n) 8 (advS s, C)).1 h5 := by rw [e5]; exact u4.1.wr (by decide)
  have e44b : h4 403 44 = h 403 44 := by rw [u4.2.1.2.1 44 (by decide), n3 403 (by decide)]; exact e44
  have w5 : frBw h4 h5 := by rw [e5]; exact frBw.st ⟨by decide, by decide⟩ (by rw [show rsz 431 = 8 by decide, e44b]; omega)
  refine zWp_bv (q_R_mustO (d := d + 4) r5 (i := 17) (by decide) (by decide)) (fun _ h6 u6 => ?_)
  have W6 : frBw h h6 := (((f1.n.w.t w3).t u4.2.1.w).t w5).t u6.2.n.w
  have e44c : h6 403 44 = h 403 44 := W6.b
  have r6 : RR T n (ndS (toks T n) 2 17 (sumA (toks T n) 8 (advS s, C)).1) h6 := u6.1
  have fin : ∀ h7, RR T n (lwS (toks T n) (testB (toks T n) 8) (advS s, C)).1 h7 → frLr h6 h7 → (effK (toks T n) (lwS (toks T n) (testB (toks T n) 8) (advS s, C)).1 = 0 → CoR (lwS (toks T n) (testB (toks T n) 8) (advS s, C)).2 h7) → zWp (if 0 ≤ 8 * h 403 44 + nLa σ ∧ 8 * h 403 44 + nLa σ < ((16 : Nat) : Int) then zlt (zset h7 432 (8 * h 403 44 + nLa σ) (h7 403 43)) fun h8 => if h8 403 8 = 0 then if 0 ≤ h8 403 44 ∧ h8 403 44 < ((2 : Nat) : Int) then if 0 ≤ h8 403 44 ∧ h8 403 44 < ((2 : Nat) : Int) then zlt (zset h8 429 (h8 403 44) (w32 (h8 429 (h8 403 44) + 1))) fun h9 => some (Sum.inl 0, h9) else none else none else some (Sum.inl 0, h8) else none) (fun _ h' => LwQ T n (nLa σ) C (advS s) σ h h') := by
    intro h7 r7 f7 co7
    refine zWp_it (by omega) (zWp_lt fun h8 e8 => ?_)
    have n8 : ∀ r, r ≠ 432 → h8 r = h7 r := fun r hr => by rw [e8, zset_n hr]
    have r8 : RR T n (lwS (toks T n) (testB (toks T n) 8) (advS s, C)).1 h8 := by rw [e8]; exact r7.wr (by decide)
    have e44d : h7 403 44 = h 403 44 := by rw [f7.2.1 44 (by decide)]; exact e44c
    have w8 : frBw h7 h8 := by rw [e8]; exact frBw.st ⟨by decide, by decide⟩ (by rw [show rsz 432 = 8 by decide, e44d]; omega)
    have W8 : frBw h h8 := (W6.t f7.w).t w8
    rw [r8.2.1.1]
    by_cases k : effK (toks T n) (lwS (toks T n) (testB (toks T n) 8) (advS s, C)).1 = 0
    case neg => exact zWp_nt k (zWp_s ⟨⟨r8, W8⟩, fun w => absurd w k⟩)
    have k2 := b3.l k
    have k1 := b2.l k2
    have e44e : h8 403 44 = h 403 44 := W8.b
    have k429 : ∀ r, 405 ≤ r → r ≤ 429 → h8 r = h1 r := fun r h1 h2 => by rw [n8 r (by omega), f7.1 r (by omega), u6.2.1 r (by omega), n5 r (by omega), u4.2.1.1 r (by omega), n3 r (by omega)]
    have p8 : PR σ h8 := p1.g (by rw [e44e, e44]) k429
    have g8 := p8.2.2.1.2.2.2.2.2.2.2
    have cR := co7 k
    rw [g8, w32_i (x := nLa σ + 1) (by omega)]
    refine zWp_it k (zWp_it (by omega) (zWp_it (by omega) (zWp_lt fun h9 e9 => zWp_s ?_)))
    have n9 : ∀ r, r ≠ 429 → h9 r = h8 r := fun r hr => by rw [e9, zset_n hr]
    have p9 := p8.n_k (q := 429) (k := 16) (v := nLa σ + 1) (Or.inr (Or.inr ⟨rfl, rfl⟩))
    rw [← e9] at p9
    have w9 : frBw h8 h9 := by rw [e9]; exact frBw.st ⟨by decide, by decide⟩ (by rw [show rsz 429 = 1 by decide]; omega)
    refine ⟨⟨by rw [e9]; exact r8.wr (by decide), W8.t w9⟩, fun _ => ⟨p9, ?_, fun i => ?_, fun i => ?_, fun i => ?_⟩⟩
    · exact cR.fr (by rw [n9 403 (by decide), n8 403 (by decide)]) (by rw [n9 403 (by decide), n8 403 (by decide)]) (by rw [n9 433 (by decide), n8 433 (by decide)]) (by rw [n9 434 (by decide), n8 434 (by decide)])
    · rw [n9 430 (by decide), n8 430 (by decide), f7.1 430 (by decide), u6.2.1 430 (by decide), n5 430 (by decide), u4.2.1.1 430 (by decide), e3, zset_g, f1.1 430 (by decide)]
      by_cases z : i = nLa σ
      · rw [if_pos (by omega), if_pos z]
      · rw [if_neg (by omega), if_neg z]
    · have cy := (u4.2.2 k1).2.1
      rw [n9 431 (by decide), n8 431 (by decide), f7.1 431 (by decide), u6.2.1 431 (by decide), e5, zset_g, u4.2.1.1 431 (by decide), n3 431 (by decide), f1.1 431 (by decide), cy]
      by_cases z : i = nLa σ
      · rw [if_pos (by omega), if_pos z]
      · rw [if_neg (by omega), if_neg z]
    · rw [n9 432 (by decide), e8, zset_g, f7.1 432 (by decide), u6.2.1 432 (by decide), n5 432 (by decide), u4.2.1.1 432 (by decide), n3 432 (by decide), f1.1 432 (by decide), cR.2.1]
      by_cases z : i = nLa σ
      · rw [if_pos (by omega), if_pos z]
      · rw [if_neg (by omega), if_neg z]
  by_cases k2 : effK (toks T n) (ndS (toks T n) 2 17 (sumA (toks T n) 8 (advS s, C)).1) = 0
  · have k1 := b2.l k2
    have cy := u4.2.2 k1
    have co6 : CoR (sumA (toks T n) 8 (advS s, C)).2 h6 := cy.fr (by rw [u6.2.2 43 (by decide), n5 403 (by decide)]) (by rw [u6.2.2 44 (by decide), n5 403 (by decide)]) (by rw [u6.2.1 433 (by decide), n5 433 (by decide)]) (by rw [u6.2.1 434 (by decide), n5 434 (by decide)])
    obtain ⟨X, Y, x1, x2, x3, x4, _⟩ := (rl_sum ok 8).2 (advS s) C C b0.1.1 b0.1.2 (by omega) (by omega) k1
    have p2 := b2.2.2 k1 k2
    have q2 := q_R_reads (d := d + 1) (x := 1) (Or.inr rfl) r6 k2 co6 (by rw [x1, List.length_append]; omega) (by omega)
    have er2 : rdR (toks T n) 1 (ndS (toks T n) 2 17 (sumA (toks T n) 8 (advS s, C)).1, (sumA (toks T n) 8 (advS s, C)).2) = lwS (toks T n) (testB (toks T n) 8) (advS s, C) := by unfold rdR lwS; rw [if_neg (by decide)]
    rw [er2] at q2
    exact zWp_bv q2 (fun _ h7 u7 => fin h7 u7.1 u7.2.1 u7.2.2)
  · refine zWp_bv (q_R_readsD (d := d + 6) r6 k2) (fun _ h7 u7 => ?_)
    rw [u7]
    exact fin h6 (r6.to k2 b3) (frLr.rf h6) (fun w => absurd ((b3.2.1 k2).1.symm.trans w) k2)
/-! the reference's laws read so far -/
def BkV (L : List zL4) (C : List Int) (h : zH) : Prop := CoR C h ∧ (L.length ≤ 8 ∧ C.length ≤ 1600) ∧ ∀ (j : Nat) (l : zL4), L[j]? = some l → ∃ P : Nat, h 430 (8 * h 403 44 + (j : Int)) = (P : Int) ∧ h 431 (8 * h 403 44 + (j : Int)) = ((P + l.2.2.1.length : Nat) : Int) ∧ h 432 (8 * h 403 44 + (j : Int)) = ((P + l.2.2.1.length + l.2.2.2.length : Nat) : Int) ∧ (∀ (i : Nat) (x : Int), (l.2.2.1 ++ l.2.2.2)[i]? = some x → C[P + i]? = some x) ∧ P + l.2.2.1.length + l.2.2.2.length ≤ C.length
theorem BkV.c {L : List zL4} {C : List Int} {h : zH} (k : BkV L C h) (e : h 429 (h 403 44) = (L.length : Int)) : BkR L (h 403 44) h := by
  refine ⟨e, k.2.1.1, fun j l hj => ?_⟩
  obtain ⟨P, a1, a2, a3, a4, a5⟩ := k.2.2 j l hj
  have := k.2.1.2
  exact ⟨P, a1, a2, a3, fun i x hx => k.1.2.2 (P + i) x (a4 i x hx), by omega⟩
theorem BkV.f {L : List zL4} {C : List Int} {h h' : zH} (k : BkV L C h) (e : ∀ r, 430 ≤ r → r ≤ 434 → h' r = h r) (e1 : h' 403 43 = h 403 43) (e2 : h' 403 44 = h 403 44) : BkV L C h' := by
  unfold BkV at k ⊢
  rw [e 430 (by decide) (by decide), e 431 (by decide) (by decide), e 432 (by decide) (by decide), e2]
  exact ⟨k.1.fr e1 e2 (e 433 (by decide) (by decide)) (e 434 (by decide) (by decide)), k.2⟩
theorem BkV.x {L : List zL4} {C X X' Y Y' : List Int} {h h' : zH} (k : BkV L C h) (hL : L.length < 8) (e44 : h' 403 44 = h 403 44) (co : CoR (C ++ Y ++ Y') h') (hl : (C ++ Y ++ Y').length ≤ 1600) (m1 : ∀ i, h' 430 (8 * h 403 44 + i) = if i = (L.length : Int) then (C.length : Int) else h 430 (8 * h 403 44 + i)) (m2 : ∀ i, h' 431 (8 * h 403 44 + i) = if i = (L.length : Int) then ((C ++ Y).length : Int) else h 431 (8 * h 403 44 + i)) (m3 : ∀ i, h' 432 (8 * h 403 44 + i) = if i = (L.length : Int) then ((C ++ Y ++ Y').length : Int) else h 432 (8 * h 403 44 + i)) : BkV (L ++ [(X, X', Y, Y')]) (C ++ Y ++ Y') h' := by
  refine ⟨co, ⟨by rw [List.length_append]; show L.length + 1 ≤ 8; omega, hl⟩, fun j l hj => ?_⟩
  rw [e44]
  by_cases z : j = L.length
  · rw [z, List.getElem?_append_right (Nat.le_refl _), Nat.sub_self] at hj
    have el : (X, X', Y, Y') = l := Option.some.inj hj
    rw [← el, z]
    refine ⟨C.length, by rw [m1, if_pos rfl], by rw [m2, if_pos rfl, List.length_append], by rw [m3, if_pos rfl, List.length_append, List.length_append], fun i x hx => ?_, by rw [List.length_append, List.length_append]; exact Nat.le_refl _⟩
    dsimp only at hx
    rw [List.append_assoc, List.getElem?_append_right (Nat.le_add_right _ _), Nat.add_sub_cancel_left]
    exact hx
  · have hlt : j < (L ++ [(X, X', Y, Y')]).length := (List.getElem?_eq_some_iff.1 hj).1
    rw [List.length_append] at hlt
    have hlt' : j < L.length + 1 := hlt
    rw [List.getElem?_append_left (show j < L.length by omega)] at hj
    obtain ⟨P, a1, a2, a3, a4, a5⟩ := k.2.2 j l hj
    have jn : ¬ (j : Int) = (L.length : Int) := by omega
    exact ⟨P, by rw [m1, if_neg jn]; exact a1, by rw [m2, if_neg jn]; exact a2, by rw [m3, if_neg jn]; exact a3, fun i x hx => get_x (get_x (a4 i x hx)), by rw [List.length_append, List.length_append]; omega⟩
