/-! quarry: the reference; both alike -/
theorem q_Rquiet2 {d : Nat} {σ st : zH} {h : zH} (w : WS σ) (g : RS σ h) (t : RT σ st 1 h) (wt : WT σ st) : ∀ (n : Nat) {i : Int}, 0 ≤ i → i + n = nS σ → l_R_isQuiet_2 (d + 2) 1 i h = some (.inl (if allB (qtF σ st) n i = true then 1 else 0), h)
  | 0, i, hi, hh => by
    have hb := g.b
    rw [el_R_isQuiet_2, g.2.2.2.1.2.1, zit_t (by omega), zit_f (by omega)]
    rfl
  | n + 1, i, hi, hh => by
    have hb := g.b
    have hS10 : nS σ ≤ 10 := w.2.1.2.2.2.1
    rw [el_R_isQuiet_2, g.2.2.2.1.2.1, zit_t (by omega), zit_t (by omega), q_R_starts w g t wt (by omega) (by decide), zqi_s, Int.zero_add, w32_i (x := i + 1) (by omega)]
    by_cases c : st 1 i ≠ -1 ∧ σ 2 (st 1 i) ≠ -1 ∧ σ 14 i < σ 3 (st 1 i)
    · rw [if_pos c, zit_f (by decide), q_R_isHeld w g t wt (by omega), zqi_s]
      by_cases c2 : leanA σ st i = -1
      · rw [if_pos c2, zit_t rfl, allB_f (f := qtF σ st) (i := i) (by unfold qtF; rw [decide_eq_true c, decide_eq_true c2]; rfl)]
        rfl
      · rw [if_neg c2, zit_f (by decide), allB_c (f := qtF σ st) (i := i) (by unfold qtF; rw [decide_eq_false c2, Bool.and_false]; rfl)]
        exact q_Rquiet2 w g t wt n (by omega) (by omega)
    · rw [if_neg c, zit_t rfl, allB_c (f := qtF σ st) (i := i) (by unfold qtF; rw [decide_eq_false c, Bool.false_and]; rfl)]
      exact q_Rquiet2 w g t wt n (by omega) (by omega)
def frZ (h h' : zH) : Prop := (∀ r, ¬ r = 444 → h' r = h r) ∧ ∀ i, ¬ (10 ≤ i ∧ i < 20) → h' 444 i = h 444 i
theorem frZ.rf (h : zH) : frZ h h := ⟨fun _ _ => rfl, fun _ _ => rfl⟩
theorem frZ.t {a b c : zH} (h1 : frZ a b) (h2 : frZ b c) : frZ a c := ⟨fun r x => (h2.1 r x).trans (h1.1 r x), fun q x => (h2.2 q x).trans (h1.2 q x)⟩
theorem frZ.x {h h' : zH} (f : frZ h h') : frX h h' := ⟨fun r x => f.1 r (by omega), fun q _ => by rw [f.1 403 (by decide)], fun i z => by rw [f.2 i (by omega), f.1 445 (by decide), f.1 446 (by decide)]; exact ⟨rfl, rfl, rfl⟩, fun i _ => by rw [f.1 447 (by decide)], fun i _ => by rw [f.1 448 (by decide), f.1 449 (by decide), f.1 450 (by decide)]; exact ⟨rfl, rfl, rfl⟩⟩
theorem RS.z {σ h h' : zH} (g : RS σ h) (f : frZ h h') : RS σ h' := g.fr (by rw [f.1 403 (by decide)]) (fun r a b => f.1 r (by omega))
theorem RT.z0 {σ st h h' : zH} (w : WS σ) (t : RT σ st 0 h) (f : frZ h h') : RT σ st 0 h' := by
  have hS10 : nS σ ≤ 10 := w.2.1.2.2.2.1
  obtain ⟨t0, t1, t2, t3⟩ := t
  refine ⟨t0, fun i a b => ?_, fun i a b => ?_, fun i a b => ?_⟩
  · rw [f.2 _ (by omega), f.1 445 (by decide), f.1 446 (by decide)]; exact t1 i a b
  · rw [f.1 447 (by decide)]; exact t2 i a b
  · rw [f.1 448 (by decide), f.1 449 (by decide), f.1 450 (by decide)]; exact t3 i a b
theorem GL.fr {L : List Int} {h h' : zH} (g : GL L h) (h1 : h' 403 86 = h 403 86) (h2 : h' 457 = h 457) : GL L h' := ⟨by rw [h1]; exact g.1, fun j y hj => by rw [h2]; exact g.2 j y hj⟩
theorem OL.fr {P : List Nat} {h h' : zH} (g : OL P h) (h1 : h' 403 86 = h 403 86) (h2 : h' 459 = h 459) : OL P h' := ⟨by rw [h1]; exact g.1, fun j hj => by rw [h2]; exact g.2 j hj⟩
theorem GL.at {L : List Int} {h : zH} (g : GL L h) {j : Nat} (hj : j < L.length) : h 457 (j : Int) = L.getD j 0 := g.2 j _ (by rw [List.getD_eq_getElem?_getD, List.getElem?_eq_getElem hj]; rfl)
theorem q_Rq2 {d : Nat} {σ : zH} {Q : zV → zH → Prop} (w : WS σ) : ∀ (n : Nat) {i : Int} {h : zH}, 0 ≤ i → i + n = nS σ → RS σ h → (∀ h', (∀ j, i ≤ j → j < nS σ → h' 444 (10 + j) = h 444 j) → (∀ j, j < 10 + i → h' 444 j = h 444 j) → frZ h h' → zWp (l_R_isQuarried_38 d 0 h') Q) → zWp (l_R_isQuarried_2 d i h) Q
  | 0, i, h, hi, hh, g, N => by
    have hb := g.b
    rw [el_R_isQuarried_2, g.2.2.2.1.2.1]
    exact zWp_it (by omega) (zWp_nt (by omega) (N h (fun j j1 j2 => by omega) (fun _ _ => rfl) (frZ.rf h)))
  | n + 1, i, h, hi, hh, g, N => by
    have hb := g.b
    have hS10 : nS σ ≤ 10 := w.2.1.2.2.2.1
    rw [el_R_isQuarried_2, g.2.2.2.1.2.1, w32_i (x := 10 + i) (by omega), w32_i (x := i + 1) (by omega)]
    refine zWp_it (by omega) (zWp_it (by omega) (zWp_it (by omega) (zWp_it (by omega) (zWp_lt fun h1 e1 => ?_))))
    have z1 : frZ h h1 := ⟨fun r hr => by rw [e1, zset_n hr], fun q hq => by rw [e1, zset_j (by omega)]⟩
    refine q_Rq2 w n (by omega) (by omega) (g.z z1) (fun h' p1 p2 p3 => N h' (fun j j1 j2 => ?_) (fun j j1 => ?_) (z1.t p3))
    · by_cases e : j = i
      · rw [p2 _ (by omega), e1, e, zset_e]
      · rw [p1 j (by omega) j2, e1, zset_j (by omega)]
    · rw [p2 j (by omega), e1, zset_j (by omega)]
theorem q_Rq38 {d : Nat} {σ st : zH} {L : List Int} (w : WS σ) (wt : WT σ st) (ok : OkS σ L) : ∀ (R : List Nat) {j t : Nat} {h : zH}, (j : Int) + R.length = L.length → RS σ h → GL L h → RT σ (rmM st L t) 1 h → (∀ i : Nat, i < R.length → h 459 ((j : Int) + i) = ((R.getD i 0 : Nat) : Int)) → (∀ p ∈ R, p < L.length) → zWp (l_R_isQuarried_38 (d + 3) j h) (fun v h' => v = .inl (if goodT (qq σ st L) t R = true then 1 else 0) ∧ frZ h h' ∧ ∃ t', RT σ (rmM st L t') 1 h')
  | [], j, t, h, hj, g, gl, rt, hR, hp => by
    have h6 := ok.2.1
    have hj' : (j : Int) + 0 = L.length := hj
    rw [el_R_isQuarried_38, gl.1]
    exact zWp_nt (by omega) (zWp_s ⟨rfl, frZ.rf h, t, rt⟩)
  | p :: R, j, t, h, hj, g, gl, rt, hR, hp => by
    have h6 := ok.2.1
    have hj' : (j : Int) + ((R.length + 1 : Nat) : Int) = L.length := hj
    have hS0 : 0 ≤ nS σ := w.2.1.2.2.1
    have hS10 : nS σ ≤ 10 := w.2.1.2.2.2.1
    have hH8 : nHo σ ≤ 8 := w.2.1.2.2.2.2.2.1
    have hn := w.n
    have pL := hp p (List.mem_cons_self ..)
    have e0 : h 459 (j : Int) = (p : Int) := by
      have := hR 0 (Nat.succ_pos _)
      rw [show (j : Int) + ((0 : Nat) : Int) = j by omega] at this
      exact this
    have eL := gl.at pL
    obtain ⟨s0, s1⟩ := ok.2.2 p pL
    rw [el_R_isQuarried_38, gl.1, e0, eL, w32_i (x := 10 + L.getD p 0) (by omega), w32_i (x := (j : Int) + 1) (by omega)]
    refine zWp_it (by omega) (zWp_it (by omega) (zWp_it (by omega) (zWp_it (by omega) (zWp_lt fun h1 e1 => ?_))))
    have z1 : frZ h h1 := ⟨fun r hr => by rw [e1, zset_n hr], fun q hq => by rw [e1, zset_j (by omega)]⟩
    have rt1 : RT σ (rmM st L (t ||| 2 ^ p)) 1 h1 := by
      obtain ⟨t0, t1, t2, t3⟩ := rt
      rw [← rmM_s pL]
      refine ⟨t0, fun i a b => ⟨?_, ?_, ?_⟩, fun i a b => ?_, fun i a b => ?_⟩
      · rw [e1, zset_g, zset_g]
        by_cases e : i = L.getD p 0
        · rw [if_pos e, if_pos (by omega)]
        · rw [if_neg e, if_neg (by omega)]; exact (t1 i a b).1
      · rw [z1.1 445 (by decide), zset_o (by decide)]; exact (t1 i a b).2.1
      · rw [z1.1 446 (by decide), zset_o (by decide)]; exact (t1 i a b).2.2
      · rw [z1.1 447 (by decide), zset_o (by decide)]; exact t2 i a b
      · rw [z1.1 448 (by decide), z1.1 449 (by decide), z1.1 450 (by decide), zset_o (by decide), zset_o (by decide), zset_o (by decide)]; exact t3 i a b
    have g1 := g.z z1
    rw [em_R_isQuiet, q_Rquiet2 (d := d) w g1 rt1 (rmM_w wt) (nS σ).toNat (by decide) (by omega), zqi_s]
    show zWp _ (fun v h' => v = .inl (if (quietA σ (rmM st L (t ||| 2 ^ p)) && goodT (qq σ st L) (t ||| 2 ^ p) R) = true then 1 else 0) ∧ frZ h h' ∧ ∃ t', RT σ (rmM st L t') 1 h')
    cases hq : quietA σ (rmM st L (t ||| 2 ^ p)) with
    | false =>
      rw [show allB (qtF σ (rmM st L (t ||| 2 ^ p))) (nS σ).toNat 0 = false from hq]
      exact zWp_it rfl (zWp_s ⟨rfl, z1, _, rt1⟩)
    | true =>
      rw [show allB (qtF σ (rmM st L (t ||| 2 ^ p))) (nS σ).toNat 0 = true from hq, Bool.true_and]
      refine zWp_nt (by decide) ?_
      rw [show (j : Int) + 1 = ((j + 1 : Nat) : Int) from rfl]
      refine zWp_m (q_Rq38 w wt ok R (j := j + 1) (by omega) g1 (gl.fr (by rw [z1.1 403 (by decide)]) (z1.1 457 (by decide))) rt1 (fun i hi => ?_) (fun x hx => hp x (List.mem_cons_of_mem _ hx))) (fun v h' u => ⟨u.1, z1.t u.2.1, u.2.2⟩)
      have := hR (i + 1) (by show i + 1 < R.length + 1; omega)
      rw [z1.1 459 (by decide), show ((j + 1 : Nat) : Int) + (i : Int) = (j : Int) + ((i + 1 : Nat) : Int) by omega]
      exact this
def RCQ (σ st : zH) (L : List Int) (h : zH) : Prop := RS σ h ∧ RT σ st 0 h ∧ (∃ t, RT σ (rmM st L t) 1 h) ∧ GL L h
theorem q_Risq {d : Nat} {σ st : zH} {L : List Int} {P : List Nat} {h : zH} (w : WS σ) (wt : WT σ st) (ok : OkS σ L) (c : RCQ σ st L h) (ol : OL P h) (hl : P.length = L.length) (hp : ∀ p ∈ P, p < L.length) : zWp (m_R_isQuarried (d + 4) h) (fun v h' => v = .inl (if goodT (qq σ st L) 0 P = true then 1 else 0) ∧ frZ h h' ∧ RCQ σ st L h') := by
  have hS0 : 0 ≤ nS σ := w.2.1.2.2.1
  have hS10 : nS σ ≤ 10 := w.2.1.2.2.2.1
  obtain ⟨g, r0, ⟨t, r1⟩, gl⟩ := c
  rw [em_R_isQuarried]
  refine q_Rq2 w (nS σ).toNat (by decide) (by omega) g (fun h1 p1 p2 z1 => ?_)
  have rt1 : RT σ (rmM st L 0) 1 h1 := by
    rw [rmM_0]
    obtain ⟨t0, t1, t2, t3⟩ := r1
    refine ⟨t0, fun i a b => ⟨?_, ?_, ?_⟩, fun i a b => ?_, fun i a b => ?_⟩
    · have e0 := (r0.2.1 i a b).1
      rw [show 10 * 0 + i = i by omega] at e0
      rw [show 10 * 1 + i = 10 + i by omega, p1 i a b, e0]
    · have := (t1 i a b).2.1
      rw [rmM_o (by decide)] at this
      rw [z1.1 445 (by decide)]; exact this
    · have := (t1 i a b).2.2
      rw [rmM_o (by decide)] at this
      rw [z1.1 446 (by decide)]; exact this
    · have := t2 i a b
      rw [rmM_o (by decide)] at this
      rw [z1.1 447 (by decide)]; exact this
    · have := t3 i a b
      rw [rmM_o (by decide), rmM_o (by decide), rmM_o (by decide)] at this
      rw [z1.1 448 (by decide), z1.1 449 (by decide), z1.1 450 (by decide)]; exact this
  have gl1 := gl.fr (h' := h1) (by rw [z1.1 403 (by decide)]) (z1.1 457 (by decide))
  refine zWp_m (q_Rq38 (d := d) w wt ok P (j := 0) (t := 0) (by rw [hl]; omega) (g.z z1) gl1 rt1 (fun i hi => ?_) hp) (fun v h2 u => ⟨u.1, z1.t u.2.1, (g.z z1).z u.2.1, (r0.z0 w z1).z0 w u.2.1, u.2.2, gl1.fr (by rw [u.2.1.1 403 (by decide)]) (u.2.1.1 457 (by decide))⟩)
  rw [show ((0 : Nat) : Int) + (i : Int) = i by omega, z1.1 459 (by decide)]
  exact ol.2 i hi
def vQ46 (q : Nat → Bool) (L : List Int) (k n : Int) (A : List (List Nat)) : Int := if k = -1 then n + cntL (goodT q 0) A else match A.find? (goodT q 0) with
  | none => -1
  | some Q => L.getD (Q.getD k.toNat 0) 0
theorem okO_of {m : Nat} {P : List Nat} (h : okO m P = true) : P.length = m ∧ ∀ p ∈ P, p < m := by
  unfold okO at h
  rw [Bool.and_eq_true, List.all_eq_true] at h
  exact ⟨Nat.eq_of_beq_eq_true h.1, fun p hp => by have := h.2 p hp; exact Nat.le_of_ble_eq_true this⟩
theorem q_Rq46 {d : Nat} {σ st : zH} {L : List Int} {k : Int} (w : WS σ) (wt : WT σ st) (ok : OkS σ L) (hk : k = -1 ∨ 0 ≤ k ∧ k < L.length) : ∀ (r : List (List Nat)) {P : List Nat} {n : Int} {h : zH}, chn (P :: r) = true → (P :: r).all (okO L.length) = true → RCQ σ st L h → OL P h → 0 ≤ n ∧ n + (r.length + 1) ≤ 1000000 → zWp (l_R_quarry_46 (d + 5) k n 1 h) (fun v h' => v = .inl (vQ46 (qq σ st L) L k n (P :: r)) ∧ frX h h') := by
  intro r
  induction r with
  | nil =>
    intro P n h hc ha c ol hn
    have oP := okO_of (by rw [List.all_cons, Bool.and_eq_true] at ha; exact ha.1)
    have h6 := ok.2.1
    rw [el_R_quarry_46]
    refine zWp_nt (by decide) ?_
    obtain ⟨v1, h1, e1, rfl, z1, c1⟩ := q_Risq (d := d + 1) w wt ok c ol oP.1 oP.2
    refine zWp_qi e1 ?_
    have ol1 := ol.fr (h' := h1) (by rw [z1.1 403 (by decide)]) (z1.1 459 (by decide))
    obtain ⟨v2, h2, e2, f2, o2⟩ := q_R_nextL (d := d + 4) ol1 ⟨ok.1, ok.2.1⟩ hc ha
    have v20 : v2 = .inl 0 := by
      rcases o2 with z | ⟨Q, r', z, _⟩
      · exact z.2
      · cases z
    rw [v20] at e2
    have x2 : frX h h2 := z1.x.t (frX.hi (fun q hq => f2 q (by omega)))
    unfold vQ46
    by_cases gd : goodT (qq σ st L) 0 P = true
    · refine zWp_nt (by rw [if_pos gd]; decide) ?_
      by_cases k1 : k = -1
      · refine zWp_it k1 (zWp_qi e2 ?_)
        rw [el_R_quarry_46]
        refine zWp_it rfl (zWp_it k1 (zWp_s ⟨?_, x2⟩))
        rw [if_pos k1, w32_i (x := n + 1) (by omega)]
        show _ = Sum.inl (n + ((if goodT (qq σ st L) 0 P = true then 1 else 0) + 0))
        rw [if_pos gd, Int.add_zero]
      · obtain ⟨j, hj⟩ := Int.eq_ofNat_of_zero_le (show 0 ≤ k by omega)
        have e459 : h1 459 k = ((P.getD j 0 : Nat) : Int) := by rw [hj]; exact ol1.2 j (by omega)
        have pj : P.getD j 0 < L.length := oP.2 _ (by rw [List.getD_eq_getElem?_getD, List.getElem?_eq_getElem (by omega)]; exact List.getElem_mem _)
        rw [e459, c1.2.2.2.at pj]
        refine zWp_nt k1 (zWp_it (by omega) (zWp_it (by omega) (zWp_s ⟨?_, z1.x⟩)))
        rw [if_neg k1, List.find?_cons, gd, hj, Int.toNat_natCast]
    · refine zWp_it (by rw [if_neg gd]) (zWp_qi e2 ?_)
      have gd' : goodT (qq σ st L) 0 P = false := by simpa using gd
      rw [el_R_quarry_46]
      refine zWp_it rfl ?_
      by_cases k1 : k = -1
      · refine zWp_it k1 (zWp_s ⟨?_, x2⟩)
        rw [if_pos k1]
        show _ = Sum.inl (n + ((if goodT (qq σ st L) 0 P = true then 1 else 0) + 0))
        rw [if_neg gd, Int.add_zero, Int.add_zero]
      · refine zWp_nt k1 (zWp_s ⟨?_, x2⟩)
        rw [if_neg k1, List.find?_cons, gd']
        rfl
  | cons Q0 r ih =>
    intro P n h hc ha c ol hn
    have oP := okO_of (by rw [List.all_cons, Bool.and_eq_true] at ha; exact ha.1)
    have h6 := ok.2.1
    have hn' : n + (((r.length + 1 : Nat) : Int) + 1) ≤ 1000000 := hn.2
    rw [el_R_quarry_46]
    refine zWp_nt (by decide) ?_
    obtain ⟨v1, h1, e1, rfl, z1, c1⟩ := q_Risq (d := d + 1) w wt ok c ol oP.1 oP.2
    refine zWp_qi e1 ?_
    have ol1 := ol.fr (h' := h1) (by rw [z1.1 403 (by decide)]) (z1.1 459 (by decide))
    obtain ⟨v2, h2, e2, f2, o2⟩ := q_R_nextL (d := d + 4) ol1 ⟨ok.1, ok.2.1⟩ hc ha
    obtain ⟨v20, ol2, hc2, ha2⟩ : v2 = .inl 1 ∧ OL Q0 h2 ∧ chn (Q0 :: r) = true ∧ (Q0 :: r).all (okO L.length) = true := by
      rcases o2 with z | ⟨Q, r', z, z1, z2, z3, z4⟩
      · cases z.1
      · cases z; exact ⟨z1, z2, z3, z4⟩
    rw [v20] at e2
    have x2 : frX h h2 := z1.x.t (frX.hi (fun q hq => f2 q (by omega)))
    have c2 : RCQ σ st L h2 := by
      obtain ⟨g, r0, ⟨t, r1⟩, gl⟩ := c1
      exact ⟨g.fr (by rw [f2 403 (by decide)]) (fun q a b => f2 q (by omega)), r0.fr (fun q a b => f2 q (by omega)), ⟨t, r1.fr (fun q a b => f2 q (by omega))⟩, gl.fr (by rw [f2 403 (by decide)]) (f2 457 (by decide))⟩
    by_cases gd : goodT (qq σ st L) 0 P = true
    · refine zWp_nt (by rw [if_pos gd]; decide) ?_
      by_cases k1 : k = -1
      · refine zWp_it k1 (zWp_qi e2 ?_)
        rw [w32_i (x := n + 1) (by omega)]
        refine zWp_m (ih hc2 ha2 c2 ol2 (by omega)) (fun v h' u => ⟨?_, x2.t u.2⟩)
        rw [u.1]
        unfold vQ46
        rw [if_pos k1, if_pos k1]
        show _ = Sum.inl (n + ((if goodT (qq σ st L) 0 P = true then 1 else 0) + cntL (goodT (qq σ st L) 0) (Q0 :: r)))
        rw [if_pos gd, Int.add_assoc]
      · obtain ⟨j, hj⟩ := Int.eq_ofNat_of_zero_le (show 0 ≤ k by omega)
        have e459 : h1 459 k = ((P.getD j 0 : Nat) : Int) := by rw [hj]; exact ol1.2 j (by omega)
        have pj : P.getD j 0 < L.length := oP.2 _ (by rw [List.getD_eq_getElem?_getD, List.getElem?_eq_getElem (by omega)]; exact List.getElem_mem _)
        rw [e459, c1.2.2.2.at pj]
        refine zWp_nt k1 (zWp_it (by omega) (zWp_it (by omega) (zWp_s ⟨?_, z1.x⟩)))
        unfold vQ46
        rw [if_neg k1, List.find?_cons, gd, hj, Int.toNat_natCast]
    · refine zWp_it (by rw [if_neg gd]) (zWp_qi e2 ?_)
      have gd' : goodT (qq σ st L) 0 P = false := by simpa using gd
      refine zWp_m (ih hc2 ha2 c2 ol2 (by omega)) (fun v h' u => ⟨?_, x2.t u.2⟩)
      rw [u.1]
      unfold vQ46
      by_cases k1 : k = -1
      · rw [if_pos k1, if_pos k1]
        show _ = Sum.inl (n + ((if goodT (qq σ st L) 0 P = true then 1 else 0) + cntL (goodT (qq σ st L) 0) (Q0 :: r)))
        rw [if_neg gd, Int.zero_add]
      · rw [if_neg k1, if_neg k1, List.find?_cons (a := P), gd']
theorem q_R_quarry {d : Nat} {σ st : zH} {x k : Int} {h : zH} (b : RC σ st h) (hx : zI32 x) : zWp (m_R_quarry (d + 7) x k h) (fun v h' => v = .inl (vQua σ st x k) ∧ frX h h') := by
  have w := b.2.2.1
  have wt := b.2.2.2
  have hS0 : 0 ≤ nS σ := w.2.1.2.2.1
  have hS10 : nS σ ≤ 10 := w.2.1.2.2.2.1
  unfold vQua
  rw [em_R_quarry]
  obtain ⟨v1, h1, e1, rfl, f1, g1⟩ := q_R_gathers (d := d + 5) (m := 6) b hx (by decide)
  refine zWp_qi e1 ?_
  by_cases c1 : LyP σ st x 6
  case neg => rw [if_neg c1, if_neg c1]; exact zWp_it rfl (zWp_s ⟨rfl, f1.x⟩)
  rw [if_pos c1, if_pos c1]
  refine zWp_nt (by decide) ?_
  have gl := g1 c1
  have ok := okS_of (by decide) hS0 c1
  have b1 := RC_g b f1
  generalize hL : nmL x (nS σ).toNat 0 = L at *
  have h6 := ok.2.1
  have hl1 := ok.1
  have l31 : (k = -1 ∨ 0 ≤ k ∧ k < L.length) → zWp (l_R_quarry_31 (d + 6) k h1) (fun v h' => v = .inl (if k = -1 then wAn (qq σ st L) L.length 0 else if 0 ≤ k ∧ k < L.length then (if 0 < wAn (qq σ st L) L.length 0 then L.getD ((gre (qq σ st L) L.length L.length 0).getD k.toNat 0) 0 else -1) else -1) ∧ frX h h') := by
    intro hk
    rw [el_R_quarry_31]
    refine zWp_bv (q_copiesT (d := d + 5) (t := 1) (f := 0) (h := h1) (by decide) (by decide) (by decide)) (fun _ h2 u2 => ?_)
    obtain ⟨cp, o2⟩ := u2
    have x2 := cp.q (by decide) o2
    have r1 : RT σ st 1 h2 := cp.t w (by decide) b1.2.1
    have b2 := b1.q x2
    have gl2 := gl.fr (h' := h2) (by rw [o2 403 (by decide)]) (o2 457 (by decide))
    rw [em_R_firstOrder]
    refine zWp_bv (q_R_first2 (d := d + 5) (k := (L.length : Int)) (by omega) L.length (i := 0) gl2.1 (by decide) (by omega) (fun j j1 j2 => by omega)) (fun _ h3 u3 => ?_)
    obtain ⟨f3, o3⟩ := u3
    have gl3 := gl2.fr (h' := h3) (by rw [o3 403 (by decide)]) (o3 457 (by decide))
    have c3 : RCQ σ st L h3 := ⟨b2.1.fr (by rw [o3 403 (by decide)]) (fun q a b => o3 q (by omega)), b2.2.1.fr (fun q a b => o3 q (by omega)), ⟨0, by rw [rmM_0]; exact r1.fr (fun q a b => o3 q (by omega))⟩, gl3⟩
    obtain ⟨m, hm⟩ : ∃ m, L.length = m + 1 := ⟨L.length - 1, by omega⟩
    have hc := lex_chn m (by omega)
    have ha := lex_ok m (by omega)
    have hd := lex_hd m (by omega)
    have u0 := un_0 (m + 1) (by omega)
    have hw : wAn (qq σ st L) (m + 1) 0 = cntL (goodT (qq σ st L) 0) (lexL (m + 1) (List.range (m + 1))) := by
      unfold wAn
      rw [u0.1, u0.2]
    have hf := find_no (f := goodT (qq σ st L) 0) (lexL (m + 1) (List.range (m + 1)))
    have hg := fun z => (find_gre (q := qq σ st L) (m := m + 1) (by omega) (m + 1) 0 (by exact Nat.two_pow_pos _) u0.2 z).1
    rw [u0.1] at hg
    have hb := cntL_b (f := goodT (qq σ st L) 0) (lexL (m + 1) (List.range (m + 1)))
    have hll : (lexL (m + 1) (List.range (m + 1))).length ≤ 720 := by
      have := lex_len (m + 1) (by omega) 0 (by decide) (Nat.two_pow_pos _)
      rw [u0.1, u0.2] at this
      exact this
    have ol3 : OL (List.range (m + 1)) h3 := by
      refine ⟨by rw [gl3.1, hm, List.length_range], fun j hj => ?_⟩
      rw [List.length_range] at hj
      rw [f3 j (by omega) (by omega), List.getD_eq_getElem?_getD, List.getElem?_range hj]
      rfl
    generalize hA : lexL (m + 1) (List.range (m + 1)) = A at *
    cases A with
    | nil => cases hd
    | cons P r =>
      have eP : P = List.range (m + 1) := Option.some.inj hd
      rw [← eP] at ol3
      rw [← hm] at ha
      have hll' : r.length + 1 ≤ 720 := hll
      refine zWp_m (q_Rq46 (d := d + 1) w wt ok hk r (n := 0) hc ha c3 ol3 (by omega)) (fun v h' u => ⟨?_, ((f1.x.t x2.x).t (frX.hi (fun q hq => o3 q (by omega)))).t u.2⟩)
      rw [u.1]
      unfold vQ46
      rw [hm]
      by_cases k1 : k = -1
      · rw [if_pos k1, if_pos k1, Int.zero_add, hw]
      · rw [if_neg k1, if_neg k1, if_pos (show 0 ≤ k ∧ k < ((m + 1 : Nat) : Int) by omega)]
        by_cases c5 : 0 < wAn (qq σ st L) (m + 1) 0
        · rw [if_pos c5, hg c5]
        · rw [if_neg c5, hf.2 (by omega)]
  by_cases k1 : k = -1
  · exact zWp_it k1 (l31 (Or.inl k1))
  refine zWp_nt k1 ?_
  rw [gl.1, w32_i (x := (L.length : Int) - 1) (by omega)]
  refine zWp_qi q_R_is ?_
  by_cases k2 : 0 ≤ k ∧ k < (L.length : Int)
  · rw [if_pos (show 0 ≤ k ∧ k ≤ (L.length : Int) - 1 by omega)]
    exact zWp_nt (by decide) (l31 (Or.inr k2))
  · rw [if_neg (show ¬ (0 ≤ k ∧ k ≤ (L.length : Int) - 1) by omega), if_neg k1, if_neg k2]
    exact zWp_it rfl (zWp_s ⟨rfl, f1.x⟩)
theorem a_quarry {d : Nat} {x k : Int} {h : zH} (i : INV h) (hx : zI32 x) : Alike (m_B_quarry (d + 7) x k h) (m_R_quarry (d + 7) x k) := by
  obtain ⟨σ, st, D, K, Λ, G, c, r, wk, wg⟩ := i
  exact alike_x c r wk wg (q_quarry (d := d + 1) c.1 hx) (fun h' r' => q_R_quarry r'.1 hx)
