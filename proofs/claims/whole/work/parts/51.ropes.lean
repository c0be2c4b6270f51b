theorem q_pr4 {d : Nat} {σ st : zH} {a L : Int} {h : zH} (c : BC σ st a h) (hL : 0 ≤ L ∧ L ≤ 1000000) : ∀ (n : Nat) {i x : Int}, 0 ≤ i → i + n = nRo σ → 0 ≤ x ∧ x ≤ 9 * i → l_B_neededPairs_4 (d + 1) (ropeS σ - L) x i h = some (.inl (x + isum (fun i => isum (prF σ L i) i.toNat 0) n i), h) := by
  have ha := c.2.1.a
  have h9 : nRo σ ≤ 9 := c.2.2.2.1.2.1.2.2.2.2.2.2.2.2.2.1
  have e : h (a + 8) 15 = nRo σ := c.2.1.g 8 (by decide)
  intro n
  induction n with
  | zero =>
    intro i x hi hn hx
    rw [el_B_neededPairs_4, c.1, zpo_t (by omega), zpo_t (by omega), if_pos (by decide), e, if_neg (by omega)]
    show _ = some (Sum.inl (x + 0), h)
    rw [Int.add_zero]
  | succ n ih =>
    intro i x hi hn hx
    have hb := isum_le1 (f := prF σ L i) (fun j => prF_b) i.toNat 0
    rw [el_B_neededPairs_4, c.1, zpo_t (by omega), zpo_t (by omega), if_pos (by decide), e, if_pos (by omega), q_pr21 c ⟨hi, by omega⟩ hL i.toNat (by omega) (by omega) (by omega), ih (by omega) (by omega) (by omega)]
    show some (Sum.inl (x + isum (prF σ L i) i.toNat 0 + isum _ n (i + 1)), h) = some (Sum.inl (x + (isum (prF σ L i) i.toNat 0 + isum _ n (i + 1))), h)
    rw [Int.add_assoc]
theorem q_R_pr219 {d : Nat} {σ st h : zH} {L r : Int} (c : RC σ st h) (hr : 0 ≤ r ∧ r < nRo σ) (hL : 0 ≤ L ∧ L ≤ 1000000) : ∀ (n : Nat) {q x : Int}, 0 ≤ q → q + n = nRo σ → 0 ≤ x ∧ x ≤ 1000 + q → l_R_ropes_219 d L (ropeS σ) x r q h = l_R_ropes_199 d L (ropeS σ) (x + isum (prF σ L r) n q) (r + 1) h := by
  have hb := c.1.b
  have hrb := rope_b c.2.2.1
  have h9 : nRo σ ≤ 9 := c.2.2.1.2.1.2.2.2.2.2.2.2.2.2.1
  have e : h 427 (h 403 12) = nRo σ := c.1.2.2.2.1.2.2.2.2.1
  intro n
  induction n with
  | zero =>
    intro q x hq hn hx
    rw [el_R_ropes_219, if_pos (by omega), e, if_neg (by omega), w32_i (by omega)]
    show _ = l_R_ropes_199 d L (ropeS σ) (x + 0) (r + 1) h
    rw [Int.add_zero]
  | succ n ih =>
    intro q x hq hn hx
    have e20 : h 428 (9 * h 403 12 + q) = σ 20 q := c.1.2.2.2.2.2.2.2 q hq (by omega)
    have e20r : h 428 (9 * h 403 12 + r) = σ 20 r := c.1.2.2.2.2.2.2.2 r hr.1 hr.2
    have ho := c.2.2.1.2.2.2.2.2.2.2 q hq (by omega)
    have hor := c.2.2.1.2.2.2.2.2.2.2 r hr.1 hr.2
    rw [el_R_ropes_219, if_pos (by omega), e, if_pos (by omega), ixw (i := r) (by omega) (by omega), ixw (i := q) (by omega) (by omega), if_pos (by omega), if_pos (by omega), e20, e20r, w32_i (x := ropeS σ - σ 20 r) (by omega), w32_i (x := ropeS σ - σ 20 r - σ 20 q) (by omega), w32_i (x := x + 1) (by omega), w32_i (x := x + 0) (by omega), w32_i (x := q + 1) (by omega)]
    show _ = l_R_ropes_199 d L (ropeS σ) (x + (prF σ L r q + isum (prF σ L r) n (q + 1))) (r + 1) h
    unfold prF
    by_cases y : ropeS σ - σ 20 r - σ 20 q < L
    · rw [if_pos y, if_pos y, ih (by omega) (by omega) (by omega), Int.add_assoc]
      rfl
    · rw [if_neg y, if_neg y, ih (by omega) (by omega) (by omega), Int.add_assoc]
      rfl
theorem q_R_pr199 {d : Nat} {σ st h : zH} {L : Int} (c : RC σ st h) (hL : 0 ≤ L ∧ L ≤ 1000000) : ∀ (n : Nat) {r x : Int}, 0 ≤ r → r + n = nRo σ → 0 ≤ x ∧ x ≤ 9 * r → l_R_ropes_199 d L (ropeS σ) x r h = some (.inl (x + isum (fun r => isum (prF σ L r) (nRo σ - r - 1).toNat (r + 1)) n r), h) := by
  have hb := c.1.b
  have h9 : nRo σ ≤ 9 := c.2.2.1.2.1.2.2.2.2.2.2.2.2.2.1
  have e : h 427 (h 403 12) = nRo σ := c.1.2.2.2.1.2.2.2.2.1
  intro n
  induction n with
  | zero =>
    intro r x hr hn hx
    rw [el_R_ropes_199, if_pos (by omega), e, if_neg (by omega)]
    show _ = some (Sum.inl (x + 0), h)
    rw [Int.add_zero]
  | succ n ih =>
    intro r x hr hn hx
    have hbb := isum_le1 (f := prF σ L r) (fun j => prF_b) (nRo σ - r - 1).toNat (r + 1)
    rw [el_R_ropes_199, if_pos (by omega), e, if_pos (by omega), w32_i (x := r + 1) (by omega), q_R_pr219 c ⟨hr, by omega⟩ hL (nRo σ - r - 1).toNat (by omega) (by omega) (by omega), ih (by omega) (by omega) (by omega)]
    show some (Sum.inl (x + isum (prF σ L r) (nRo σ - r - 1).toNat (r + 1) + isum _ n (r + 1)), h) = some (Sum.inl (x + (isum (prF σ L r) (nRo σ - r - 1).toNat (r + 1) + isum _ n (r + 1))), h)
    rw [Int.add_assoc]
abbrev loadA (σ st : zH) : Int := σ 13 (hv σ st) * σ 3 (st 1 (hv σ st))
def vRopes (σ st : zH) (k : Int) : Int := if hv σ st = -1 then -1 else (if k = 0 then hv σ st else if k = 1 then loadA σ st else if k = 2 then ropeS σ else if k = 3 then nrA σ (loadA σ st) (nRo σ).toNat 0 0 else if k = 4 then prT σ (loadA σ st) (nRo σ).toNat else if k = 5 then (if ropeS σ < loadA σ st then 0 else 1) else -1)
theorem load_b {σ st : zH} (w : WS σ) (wt : WT σ st) (h : ¬ hv σ st = -1) : ((0 ≤ hv σ st ∧ hv σ st < nS σ) ∧ (0 ≤ st 1 (hv σ st) ∧ st 1 (hv σ st) < nC σ)) ∧ (0 ≤ loadA σ st ∧ loadA σ st ≤ 1000000) := by
  have hS0 : 0 ≤ nS σ := w.2.1.2.2.1
  rcases hvA_in (σ := σ) (st := st) (nS σ).toNat (i := 0) (b := -1) (by omega) (by omega) (Or.inl rfl) with q | ⟨q1, q2⟩
  · exact absurd q h
  · have hc := place_in wt q1 q2
    have hW : 1 ≤ σ 13 (hv σ st) ∧ σ 13 (hv σ st) ≤ 999 := ⟨(w.2.2.2.2.1 _ q1.1 q1.2).1, (w.2.2.2.2.1 _ q1.1 q1.2).2.1⟩
    have hD : 0 ≤ σ 3 (st 1 (hv σ st)) ∧ σ 3 (st 1 (hv σ st)) ≤ 999 := by
      have hh := w.2.2.1 (st 1 (hv σ st)) hc.1 hc.2
      rcases hh.2.2 with q | q
      · omega
      · have := w.2.2.1 _ q.1 q.2.1
        omega
    refine ⟨⟨q1, hc⟩, Int.mul_nonneg (by omega) hD.1, ?_⟩
    have := Int.mul_le_mul hW.2 hD.2 hD.1 (by omega)
    unfold loadA
    omega
theorem q_ropes {d : Nat} {σ st : zH} {a k : Int} {h : zH} (c : BC σ st a h) : zWp (m_B_ropes (d + 3) k h) (fun v h' => v = .inl (vRopes σ st k) ∧ h' = h) := by
  have ha := c.2.1.a
  have hn := c.2.2.2.1.n
  have hS0 : 0 ≤ nS σ := c.2.2.2.1.2.1.2.2.1
  have hS10 : nS σ ≤ 10 := c.2.2.2.1.2.1.2.2.2.1
  have h0 : 0 ≤ nRo σ := c.2.2.2.1.2.1.2.2.2.2.2.2.2.2.1
  have hrb := rope_b c.2.2.2.1
  rw [em_B_ropes]
  refine zWp_qi (v := hv σ st) (h := h) (by rw [em_B_heaviestStone, q_heav4 c (nS σ).toNat (by omega) (by omega) (Or.inl rfl)]) ?_
  by_cases c1 : hv σ st = -1
  · have ev : vRopes σ st k = -1 := by unfold vRopes; exact if_pos c1
    rw [ev]
    exact zWp_it c1 (zWp_s ⟨rfl, rfl⟩)
  · have ev : vRopes σ st k = (if k = 0 then hv σ st else if k = 1 then loadA σ st else if k = 2 then ropeS σ else if k = 3 then nrA σ (loadA σ st) (nRo σ).toNat 0 0 else if k = 4 then prT σ (loadA σ st) (nRo σ).toNat else if k = 5 then (if ropeS σ < loadA σ st then 0 else 1) else -1) := by unfold vRopes; exact if_neg c1
    obtain ⟨⟨b1, b2⟩, b3⟩ := load_b c.2.2.2.1 c.2.2.2.2 c1
    have e68 : h 68 (hv σ st) = st 1 (hv σ st) := c.2.2.1.pl (by omega)
    have e13 : h (a + 13) (hv σ st) = σ 13 (hv σ st) := c.2.1.g 13 (by decide)
    have e3 : h (a + 3) (st 1 (hv σ st)) = σ 3 (st 1 (hv σ st)) := c.2.1.g 3 (by decide)
    rw [ev, c.1, e68, e13, e3]
    obtain ⟨s, es⟩ : ∃ s, hv σ st = s := ⟨_, rfl⟩
    obtain ⟨L, eL⟩ : ∃ L, loadA σ st = L := ⟨_, rfl⟩
    have eL2 : σ 13 s * σ 3 (st 1 s) = L := by rw [← eL, ← es]
    rw [eL] at b3 ⊢
    rw [es] at b1 b2 c1 ⊢
    rw [eL2, w32_i (x := L) (by omega)]
    refine zWp_nt c1 (zWp_po (by omega) (zWp_po (by omega) (zWp_it (by omega) (zWp_po (by omega) (zWp_it (by omega) (zWp_po (by omega) (zWp_it (by omega) (zWp_po (by omega) (zWp_qi (q_ropesTogether c.2.1 c.2.2.2.1) ?_)))))))))
    rw [c.1, w32_i (x := ropeS σ - L) (by omega)]
    refine zWp_if (fun z => zWp_s ⟨by rw [if_pos z], rfl⟩) (fun z => ?_)
    rw [if_neg z]
    refine zWp_if (fun z => zWp_s ⟨by rw [if_pos z], rfl⟩) (fun z => ?_)
    rw [if_neg z]
    refine zWp_if (fun z => zWp_po (by omega) (zWp_qi (q_ropesTogether c.2.1 c.2.2.2.1) (zWp_s ⟨by rw [if_pos z], rfl⟩))) (fun z => ?_)
    rw [if_neg z]
    refine zWp_if (fun z => zWp_qi (v := nrA σ L (nRo σ).toNat 0 0) (h := h) (by rw [em_B_neededRopes, q_nr4 c (nRo σ).toNat (by omega) (by omega)]) (zWp_s ⟨by rw [if_pos z], rfl⟩)) (fun z => ?_)
    rw [if_neg z]
    refine zWp_if (fun z => zWp_qi (v := prT σ L (nRo σ).toNat) (h := h) (by rw [em_B_neededPairs, q_pr4 c b3 (nRo σ).toNat (by omega) (by omega) (by omega), Int.zero_add]; rfl) (zWp_s ⟨by rw [if_pos z], rfl⟩)) (fun z => ?_)
    rw [if_neg z]
    refine zWp_if (fun z => zWp_if (fun y => zWp_qi q_oneIf (zWp_s ⟨by rw [if_pos z, if_pos (show ropeS σ < L by omega)]; rfl, rfl⟩)) (fun y => zWp_qi q_oneIf (zWp_s ⟨by rw [if_pos z, if_neg (show ¬ ropeS σ < L by omega)]; rfl, rfl⟩))) (fun z => ?_)
    rw [if_neg z]
    exact zWp_s ⟨rfl, rfl⟩
theorem q_R_rope45 {d : Nat} {σ st h : zH} {k s L : Int} (c : RC σ st h) : ∀ (n : Nat) {i x : Int}, 0 ≤ i → i + n = nRo σ → 0 ≤ x ∧ x ≤ 9999 * i → l_R_ropes_45 d k s L x i h = l_R_ropes_45 d k s L (x + isum (σ 20) n i) (nRo σ) h := by
  have hb := c.1.b
  have h9 : nRo σ ≤ 9 := c.2.2.1.2.1.2.2.2.2.2.2.2.2.2.1
  have e : h 427 (h 403 12) = nRo σ := c.1.2.2.2.1.2.2.2.2.1
  intro n
  induction n with
  | zero =>
    intro i x hi hn hx
    rw [show i = nRo σ by omega]
    show _ = l_R_ropes_45 d k s L (x + 0) (nRo σ) h
    rw [Int.add_zero]
  | succ n ih =>
    intro i x hi hn hx
    have e20 : h 428 (9 * h 403 12 + i) = σ 20 i := c.1.2.2.2.2.2.2.2 i hi (by omega)
    have ho := c.2.2.1.2.2.2.2.2.2.2 i hi (by omega)
    rw [el_R_ropes_45 (x5 := i), if_pos (by omega), e, if_pos (by omega), ixw (by omega) (by omega), if_pos (by omega), e20, w32_i (by omega), w32_i (by omega), ih (by omega) (by omega) (by omega)]
    show l_R_ropes_45 d k s L (x + σ 20 i + isum (σ 20) n (i + 1)) (nRo σ) h = l_R_ropes_45 d k s L (x + (σ 20 i + isum (σ 20) n (i + 1))) (nRo σ) h
    rw [Int.add_assoc]
theorem q_R_ropes {d : Nat} {σ st h : zH} {k : Int} (c : RC σ st h) : zWp (m_R_ropes (d + 2) k h) (fun v h' => v = .inl (vRopes σ st k) ∧ h' = h) := by
  have hb := c.1.b
  have hn := c.2.2.1.n
  have hS0 : 0 ≤ nS σ := c.2.2.1.2.1.2.2.1
  have hS10 : nS σ ≤ 10 := c.2.2.1.2.1.2.2.2.1
  have h0 : 0 ≤ nRo σ := c.2.2.1.2.1.2.2.2.2.2.2.2.2.1
  have hrb := rope_b c.2.2.1
  have e427 : h 427 (h 403 12) = nRo σ := c.1.2.2.2.1.2.2.2.2.1
  rw [em_R_ropes]
  refine zWp_qi (v := hv σ st) (h := h) (by rw [em_R_heaviest, q_R_heav4 c (nS σ).toNat (by omega) (by omega) (Or.inl rfl)]) ?_
  by_cases c1 : hv σ st = -1
  · have ev : vRopes σ st k = -1 := by unfold vRopes; exact if_pos c1
    rw [ev]
    exact zWp_it c1 (zWp_s ⟨rfl, rfl⟩)
  · have ev : vRopes σ st k = (if k = 0 then hv σ st else if k = 1 then loadA σ st else if k = 2 then ropeS σ else if k = 3 then nrA σ (loadA σ st) (nRo σ).toNat 0 0 else if k = 4 then prT σ (loadA σ st) (nRo σ).toNat else if k = 5 then (if ropeS σ < loadA σ st then 0 else 1) else -1) := by unfold vRopes; exact if_neg c1
    obtain ⟨⟨b1, b2⟩, b3⟩ := load_b c.2.2.1 c.2.2.2 c1
    have e444 : h 444 (hv σ st) = st 1 (hv σ st) := by
      have := (c.2.1.2.1 _ b1.1 b1.2).1
      rwa [show 10 * 0 + hv σ st = hv σ st by omega] at this
    have e455 : h 455 (st 1 (hv σ st)) = σ 3 (st 1 (hv σ st)) := (c.1.2.2.1 _ b2.1 b2.2).2.2.1
    have e417 := (c.1.2.2.2.2.1 _ b1.1 b1.2).1
    rw [ev, ixw (by omega) (by omega), e417, e444, e455]
    obtain ⟨s, es⟩ : ∃ s, hv σ st = s := ⟨_, rfl⟩
    obtain ⟨L, eL⟩ : ∃ L, loadA σ st = L := ⟨_, rfl⟩
    have eL2 : σ 13 s * σ 3 (st 1 s) = L := by rw [← eL, ← es]
    rw [eL] at b3 ⊢
    rw [es] at b1 b2 c1 ⊢
    rw [eL2, w32_i (x := L) (by omega)]
    refine zWp_nt c1 (zWp_it (by omega) (zWp_it (by omega) (zWp_it (by omega) ?_)))
    rw [q_R_rope45 c (nRo σ).toNat (by omega) (by omega) (by omega), Int.zero_add, show isum (σ 20) (nRo σ).toNat 0 = ropeS σ from rfl, el_R_ropes_45, e427]
    refine zWp_it (by omega) (zWp_nt (by omega) ?_)
    refine zWp_if (fun z => zWp_s ⟨by rw [if_pos z], rfl⟩) (fun z => ?_)
    rw [if_neg z]
    refine zWp_if (fun z => zWp_s ⟨by rw [if_pos z], rfl⟩) (fun z => ?_)
    rw [if_neg z]
    refine zWp_if (fun z => zWp_s ⟨by rw [if_pos z], rfl⟩) (fun z => ?_)
    rw [if_neg z]
    refine zWp_if (fun z => ?_) (fun z => ?_)
    · rw [if_pos z, q_R_nr c b3 (nRo σ).toNat (by omega) (by omega)]
      exact zWp_s ⟨rfl, rfl⟩
    rw [if_neg z]
    refine zWp_if (fun z => ?_) (fun z => ?_)
    · rw [if_pos z, q_R_pr199 c b3 (nRo σ).toNat (by omega) (by omega) (by omega), Int.zero_add, pr_eq (nRo σ).toNat, show (((nRo σ).toNat : Nat) : Int) = nRo σ by omega]
      exact zWp_s ⟨rfl, rfl⟩
    rw [if_neg z]
    refine zWp_if (fun z => ?_) (fun z => ?_)
    · rw [if_pos z]
      exact zWp_if (fun y => zWp_s ⟨by rw [if_pos y], rfl⟩) (fun y => zWp_s ⟨by rw [if_neg y], rfl⟩)
    rw [if_neg z]
    exact zWp_s ⟨rfl, rfl⟩
