/-! cell, stone, house -/
def botA (σ : zH) : Nat → Int → Int
  | 0, c => c
  | n + 1, c => if σ 2 c = -1 then c else botA σ n (σ 2 c)
theorem q_bot4 {d : Nat} {σ : zH} {a : Int} {h : zH} (g : CS σ a h) (w : WS σ) : ∀ (n : Nat) {c i : Int}, 0 ≤ c ∧ c < nC σ → 0 ≤ i → i + n = 60 → l_Slope_bottomOf_4 (d + 2) a c i h = some (.inl (botA σ n c), h)
  | 0, c, i, hc, hi, hn => by rw [el_Slope_bottomOf_4, if_neg (by omega)]; rfl
  | n + 1, c, i, hc, hi, hn => by
    have ha := g.a
    rw [el_Slope_bottomOf_4, if_pos (by omega), zpo_t (by omega), q_nextOf g w, zqi_s, if_pos hc]
    unfold botA
    by_cases z : σ 2 c = -1
    · rw [if_pos z, if_pos z]
    · rw [if_neg z, if_neg z, zpo_t (by omega), q_nextOf g w, zqi_s, if_pos hc, w32_i (by omega)]
      refine q_bot4 g w n ?_ (by omega) (by omega)
      rcases (w.2.2.1 c hc.1 hc.2).2.2 with y | y
      · exact absurd y.1 z
      · exact ⟨y.1, y.2.1⟩
theorem q_R_bot {d : Nat} {σ h : zH} (g : RS σ h) (w : WS σ) : ∀ (n : Nat) {c : Int}, 0 ≤ c ∧ c < nC σ → blw σ c < n → l_R_cell_135 d c h = some (.inl (botA σ n c), h)
  | 0, c, hc, hb => by have := blw_le w hc; omega
  | n + 1, c, hc, hb => by
    have hn := w.n
    have e : h 454 c = σ 2 c := (g.2.2.1 c hc.1 hc.2).2.1
    rw [el_R_cell_135, if_pos (by omega), e]
    unfold botA
    by_cases z : σ 2 c = -1
    · rw [if_pos z, if_pos z]
    · rw [if_neg z, if_neg z, if_pos (by omega)]
      have y : (0 ≤ σ 2 c ∧ σ 2 c < nC σ) ∧ σ 3 c = σ 1 c - σ 1 (σ 2 c) ∧ 1 ≤ σ 3 c := by
        rcases (w.2.2.1 c hc.1 hc.2).2.2 with y | y
        · exact absurd y.1 z
        · exact ⟨⟨y.1, y.2.1⟩, y.2.2⟩
      have := blw_lt (c := c) y.1 (by omega)
      exact q_R_bot g w n y.1 (by omega)
/-- the stone on which a stone leans at once -/
def leanA (σ st : zH) (s : Int) : Int := if st 1 s = -1 ∨ σ 2 (st 1 s) = -1 then -1 else sAt σ st (σ 2 (st 1 s))
theorem place_in {σ st : zH} (wt : WT σ st) {s : Int} (hs : 0 ≤ s ∧ s < nS σ) (hl : ¬ st 1 s = -1) : 0 ≤ st 1 s ∧ st 1 s < nC σ := by
  rcases (wt.1 s hs.1 hs.2).1 with q | q
  · exact absurd q hl
  · exact q
theorem next_in {σ : zH} (w : WS σ) {c : Int} (hc : 0 ≤ c ∧ c < nC σ) (hn : ¬ σ 2 c = -1) : (0 ≤ σ 2 c ∧ σ 2 c < nC σ) ∧ σ 1 (σ 2 c) < σ 1 c := by
  rcases (w.2.2.1 c hc.1 hc.2).2.2 with y | y
  · exact absurd y.1 hn
  · exact ⟨⟨y.1, y.2.1⟩, by omega⟩
theorem q_leansOn {d : Nat} {σ st : zH} {a T s : Int} {h : zH} (g : CS σ a h) (w : WS σ) (t : CT σ st T h) (wt : WT σ st) (hs : 0 ≤ s ∧ s < nS σ) : m_State_leansOn (d + 3) T a s h = some (.inl (leanA σ st s), h) := by
  have ha := g.a
  have hT := t.1.low
  have hn := w.n
  have hS10 : nS σ ≤ 10 := w.2.1.2.2.2.1
  rw [em_State_leansOn, t.pl (by omega), zpo_t (by omega), zpo_t (by omega), if_pos (by omega), zpo_t (by omega), q_nextOf g w, zqi_s]
  unfold leanA
  by_cases c1 : st 1 s = -1
  · rw [show (if 0 ≤ st 1 s ∧ st 1 s < nC σ then σ 2 (st 1 s) else -1) = -1 from if_neg (by omega), if_pos rfl, if_pos (Or.inl c1)]
  · have hc := place_in wt hs c1
    rw [show (if 0 ≤ st 1 s ∧ st 1 s < nC σ then σ 2 (st 1 s) else -1) = σ 2 (st 1 s) from if_pos hc]
    by_cases c2 : σ 2 (st 1 s) = -1
    · rw [if_pos c2, if_pos (Or.inr c2)]
    · have hx := (next_in w hc c2).1
      rw [if_neg c2, zpo_t (by omega), zpo_t (by omega), if_pos (by omega), t.at hx, if_neg (fun z => by rcases z with z | z; exact c1 z; exact c2 z)]
theorem q_R_isHeld {d : Nat} {σ st h : zH} {v s : Int} (w : WS σ) (g : RS σ h) (t : RT σ st v h) (wt : WT σ st) (hs : 0 ≤ s ∧ s < nS σ) : m_R_isHeld (d + 2) v s h = some (.inl (if leanA σ st s = -1 then 0 else 1), h) := by
  have hv := t.1
  have hn := w.n
  have hS10 : nS σ ≤ 10 := w.2.1.2.2.2.1
  rw [em_R_isHeld, ixw (by omega) (by omega), if_pos (by omega), (t.2.1 s hs.1 hs.2).1]
  unfold leanA
  by_cases c1 : st 1 s = -1
  · rw [if_pos c1, if_pos (Or.inl c1), if_pos rfl]
  · have hc := place_in wt hs c1
    have e : h 454 (st 1 s) = σ 2 (st 1 s) := (g.2.2.1 _ hc.1 hc.2).2.1
    rw [if_neg c1, if_pos (by omega), e]
    by_cases c2 : σ 2 (st 1 s) = -1
    · rw [if_pos c2, if_pos (Or.inr c2), if_pos rfl]
    · rw [if_neg c2, if_pos (by omega), q_R_stoneAt w g t, zqi_s, show (if st 1 s = -1 ∨ σ 2 (st 1 s) = -1 then -1 else sAt σ st (σ 2 (st 1 s))) = sAt σ st (σ 2 (st 1 s)) from if_neg (fun z => by rcases z with z | z; exact c1 z; exact c2 z)]
      by_cases c3 : sAt σ st (σ 2 (st 1 s)) = -1
      · rw [if_pos c3, if_pos c3]
      · rw [if_neg c3, if_neg c3]
def vCell (σ st : zH) (c k : Int) : Int := if 0 ≤ c ∧ c < nC σ then (if k = 0 then σ 1 c else if k = 1 then st 6 c else if k = 2 then σ 6 c else if k = 3 then sAt σ st c else if k = 4 then st 5 c else if k = 5 then σ 7 c else if k = 6 then σ 2 c else if k = 7 then σ 3 c else if k = 8 then st 8 c else if k = 9 then botA σ 60 c else -1) else -1
theorem q_cell {d : Nat} {σ st : zH} {a c k : Int} {h : zH} (b : BC σ st a h) : zWp (m_B_cell (d + 4) c k h) (fun v h' => v = .inl (vCell σ st c k) ∧ h' = h) := by
  have ha := b.2.1.a
  have hn := b.2.2.2.1.n
  rw [em_B_cell, b.1]
  refine zWp_po (by omega) (zWp_qi (q_hasCell b.2.1 b.2.2.2.1) ?_)
  by_cases c1 : 0 ≤ c ∧ c < nC σ
  · have ev : vCell σ st c k = (if k = 0 then σ 1 c else if k = 1 then st 6 c else if k = 2 then σ 6 c else if k = 3 then sAt σ st c else if k = 4 then st 5 c else if k = 5 then σ 7 c else if k = 6 then σ 2 c else if k = 7 then σ 3 c else if k = 8 then st 8 c else if k = 9 then botA σ 60 c else -1) := by unfold vCell; exact if_pos c1
    have h01 := (b.2.2.2.2.2.1 c c1.1 c1.2).2.2.2.2.1
    have e1 : h (a + 1) c = σ 1 c := b.2.1.g 1 (by decide)
    have e2 : h (a + 2) c = σ 2 c := b.2.1.g 2 (by decide)
    have e3 : h (a + 3) c = σ 3 c := b.2.1.g 3 (by decide)
    have e6 : h (a + 6) c = σ 6 c := b.2.1.g 6 (by decide)
    have e7 : h (a + 7) c = σ 7 c := b.2.1.g 7 (by decide)
    have e71 : h 71 c = sAt σ st c := b.2.2.1.at c1
    have e72 : h 72 c = st 5 c := b.2.2.1.ho (by omega)
    have e73 : h 73 c = st 6 c := b.2.2.1.ro (by omega)
    have e8 : (if (if st 8 c = 1 then (1 : Int) else 0) = 0 then (0 : Int) else 1) = st 8 c := by
      rcases h01 with z | z
      · rw [z]; rfl
      · rw [z]; rfl
    rw [if_pos c1, b.1, ev, e1, e2, e3, e6, e7, e71, e72, e73]
    refine zWp_nt (by decide) ?_
    clear h01
    refine zWp_if (fun z => zWp_po (by omega) (zWp_po (by omega) (zWp_it (by omega) (zWp_s ⟨by rw [if_pos z], rfl⟩)))) (fun z => ?_)
    rw [if_neg z]
    refine zWp_if (fun z => zWp_it (by omega) (zWp_s ⟨by rw [if_pos z], rfl⟩)) (fun z => ?_)
    rw [if_neg z]
    refine zWp_if (fun z => zWp_po (by omega) (zWp_po (by omega) (zWp_it (by omega) (zWp_s ⟨by rw [if_pos z], rfl⟩)))) (fun z => ?_)
    rw [if_neg z]
    refine zWp_if (fun z => zWp_it (by omega) (zWp_s ⟨by rw [if_pos z], rfl⟩)) (fun z => ?_)
    rw [if_neg z]
    refine zWp_if (fun z => zWp_it (by omega) (zWp_s ⟨by rw [if_pos z], rfl⟩)) (fun z => ?_)
    rw [if_neg z]
    refine zWp_if (fun z => zWp_po (by omega) (zWp_po (by omega) (zWp_it (by omega) (zWp_s ⟨by rw [if_pos z], rfl⟩)))) (fun z => ?_)
    rw [if_neg z]
    refine zWp_if (fun z => zWp_po (by omega) (zWp_po (by omega) (zWp_it (by omega) (zWp_s ⟨by rw [if_pos z], rfl⟩)))) (fun z => ?_)
    rw [if_neg z]
    refine zWp_if (fun z => zWp_po (by omega) (zWp_po (by omega) (zWp_it (by omega) (zWp_s ⟨by rw [if_pos z], rfl⟩)))) (fun z => ?_)
    rw [if_neg z]
    refine zWp_if (fun z => zWp_qi (q_hasNet b.2.2.1 (by omega)) (zWp_qi q_oneIf (zWp_s ⟨by rw [if_pos z, e8], rfl⟩))) (fun z => ?_)
    rw [if_neg z]
    refine zWp_if (fun z => zWp_po (by omega) (zWp_qi (v := botA σ 60 c) (h := h) (by rw [em_Slope_bottomOf, q_bot4 b.2.1 b.2.2.2.1 60 c1 (by omega) (by omega)]) (zWp_s ⟨by rw [if_pos z], rfl⟩))) (fun z => ?_)
    rw [if_neg z]
    exact zWp_s ⟨rfl, rfl⟩
  · have ev : vCell σ st c k = -1 := by unfold vCell; exact if_neg c1
    rw [if_neg c1, ev]
    exact zWp_it rfl (zWp_s ⟨rfl, rfl⟩)
theorem q_R_cell {d : Nat} {σ st h : zH} {c k : Int} (b : RC σ st h) : zWp (m_R_cell (d + 3) c k h) (fun v h' => v = .inl (vCell σ st c k) ∧ h' = h) := by
  have hb := b.1.b
  have hn := b.2.2.1.n
  rw [em_R_cell]
  refine zWp_qi (q_R_isCell b.2.2.1 b.1) ?_
  by_cases c1 : 0 ≤ c ∧ c < nC σ
  · have ev : vCell σ st c k = (if k = 0 then σ 1 c else if k = 1 then st 6 c else if k = 2 then σ 6 c else if k = 3 then sAt σ st c else if k = 4 then st 5 c else if k = 5 then σ 7 c else if k = 6 then σ 2 c else if k = 7 then σ 3 c else if k = 8 then st 8 c else if k = 9 then botA σ 60 c else -1) := by unfold vCell; exact if_pos c1
    have ec := b.1.2.2.1 c c1.1 c1.2
    have et := b.2.1.2.2.2 c c1.1 c1.2
    rw [show 60 * 0 + c = c by omega] at et
    rw [if_pos c1, ev, ixw (by omega) (by omega), ec.1, ec.2.1, ec.2.2.1, et.1, et.2.1, et.2.2]
    clear ec et
    refine zWp_nt (by decide) ?_
    refine zWp_if (fun z => zWp_it (by omega) (zWp_s ⟨by rw [if_pos z], rfl⟩)) (fun z => ?_)
    rw [if_neg z]
    refine zWp_if (fun z => zWp_it (by omega) (zWp_s ⟨by rw [if_pos z], rfl⟩)) (fun z => ?_)
    rw [if_neg z]
    refine zWp_if (fun z => zWp_qi (q_R_ownerOf b.2.2.1 b.1 c1) (zWp_s ⟨by rw [if_pos z], rfl⟩)) (fun z => ?_)
    rw [if_neg z]
    refine zWp_if (fun z => zWp_qi (q_R_stoneAt b.2.2.1 b.1 b.2.1) (zWp_s ⟨by rw [if_pos z], rfl⟩)) (fun z => ?_)
    rw [if_neg z]
    refine zWp_if (fun z => zWp_it (by omega) (zWp_s ⟨by rw [if_pos z], rfl⟩)) (fun z => ?_)
    rw [if_neg z]
    refine zWp_if (fun z => zWp_qi (q_R_houseAt b.2.2.1 b.1 c1) (zWp_s ⟨by rw [if_pos z], rfl⟩)) (fun z => ?_)
    rw [if_neg z]
    refine zWp_if (fun z => zWp_it (by omega) (zWp_s ⟨by rw [if_pos z], rfl⟩)) (fun z => ?_)
    rw [if_neg z]
    refine zWp_if (fun z => zWp_it (by omega) (zWp_s ⟨by rw [if_pos z], rfl⟩)) (fun z => ?_)
    rw [if_neg z]
    refine zWp_if (fun z => zWp_it (by omega) (zWp_s ⟨by rw [if_pos z], rfl⟩)) (fun z => ?_)
    rw [if_neg z]
    refine zWp_if (fun z => (by rw [q_R_bot b.1 b.2.2.1 60 c1 (blw_le b.2.2.1 c1).2]; exact zWp_s ⟨by rw [if_pos z], rfl⟩)) (fun z => ?_)
    rw [if_neg z]
    exact zWp_s ⟨rfl, rfl⟩
  · have ev : vCell σ st c k = -1 := by unfold vCell; exact if_neg c1
    rw [if_neg c1, ev]
    exact zWp_it rfl (zWp_s ⟨rfl, rfl⟩)
def vHouse (σ st : zH) (u k : Int) : Int := if 0 ≤ u ∧ u < nHo σ then (if k = 0 then σ 16 u else if k = 1 then σ 17 u else if k = 2 then st 9 u else if k = 3 then σ 6 (σ 17 u) else -1) else -1
theorem q_house {d : Nat} {σ st : zH} {a u k : Int} {h : zH} (b : BC σ st a h) : zWp (m_B_house (d + 4) u k h) (fun v h' => v = .inl (vHouse σ st u k) ∧ h' = h) := by
  have ha := b.2.1.a
  have hn := b.2.2.2.1.n
  have hH8 : nHo σ ≤ 8 := b.2.2.2.1.2.1.2.2.2.2.2.1
  have e10 : h (a + 8) 10 = nHo σ := b.2.1.g 8 (by decide)
  rw [em_B_house, b.1, e10]
  refine zWp_po (by omega) (zWp_po (by omega) (zWp_it (by decide) (zWp_qi q_within ?_)))
  by_cases c1 : 0 ≤ u ∧ u < nHo σ
  · have ev : vHouse σ st u k = (if k = 0 then σ 16 u else if k = 1 then σ 17 u else if k = 2 then st 9 u else if k = 3 then σ 6 (σ 17 u) else -1) := by unfold vHouse; exact if_pos c1
    have h01 := b.2.2.2.2.2.2 u c1.1 c1.2
    have hp : 0 ≤ σ 17 u ∧ σ 17 u < nC σ := ⟨(b.2.2.2.1.2.2.2.2.2.1 u c1.1 c1.2).2.2.1, (b.2.2.2.1.2.2.2.2.2.1 u c1.1 c1.2).2.2.2.1⟩
    have e16 : h (a + 16) u = σ 16 u := b.2.1.g 16 (by decide)
    have e17 : h (a + 17) u = σ 17 u := b.2.1.g 17 (by decide)
    have e9 : (if (if st 9 u = 1 then (1 : Int) else 0) = 0 then (0 : Int) else 1) = st 9 u := by
      rcases h01 with z | z
      · rw [z]; rfl
      · rw [z]; rfl
    rw [if_pos c1, b.1, ev, e16, e17]
    refine zWp_nt (by decide) ?_
    clear h01
    refine zWp_if (fun z => zWp_po (by omega) (zWp_po (by omega) (zWp_it (by omega) (zWp_s ⟨by rw [if_pos z], rfl⟩)))) (fun z => ?_)
    rw [if_neg z]
    refine zWp_if (fun z => zWp_po (by omega) (zWp_po (by omega) (zWp_it (by omega) (zWp_s ⟨by rw [if_pos z], rfl⟩)))) (fun z => ?_)
    rw [if_neg z]
    refine zWp_if (fun z => zWp_qi (q_isRuin b.2.2.1 (by omega)) (zWp_qi q_oneIf (zWp_s ⟨by rw [if_pos z, e9], rfl⟩))) (fun z => ?_)
    rw [if_neg z]
    refine zWp_if (fun z => zWp_po (by omega) (zWp_po (by omega) (zWp_it (by omega) (zWp_po (by omega) (zWp_qi (q_ownerOf b.2.1 b.2.2.2.1) (zWp_s ⟨by rw [if_pos z, if_pos hp], rfl⟩)))))) (fun z => ?_)
    rw [if_neg z]
    exact zWp_s ⟨rfl, rfl⟩
  · have ev : vHouse σ st u k = -1 := by unfold vHouse; exact if_neg c1
    rw [if_neg c1, ev]
    exact zWp_it rfl (zWp_s ⟨rfl, rfl⟩)
theorem q_R_house {d : Nat} {σ st h : zH} {u k : Int} (b : RC σ st h) : zWp (m_R_house (d + 3) u k h) (fun v h' => v = .inl (vHouse σ st u k) ∧ h' = h) := by
  have hb := b.1.b
  have hH8 : nHo σ ≤ 8 := b.2.2.1.2.1.2.2.2.2.2.1
  rw [em_R_house]
  refine zWp_qi (q_R_isHouse b.1) ?_
  by_cases c1 : 0 ≤ u ∧ u < nHo σ
  · have ev : vHouse σ st u k = (if k = 0 then σ 16 u else if k = 1 then σ 17 u else if k = 2 then st 9 u else if k = 3 then σ 6 (σ 17 u) else -1) := by unfold vHouse; exact if_pos c1
    have hp : 0 ≤ σ 17 u ∧ σ 17 u < nC σ := ⟨(b.2.2.1.2.2.2.2.2.1 u c1.1 c1.2).2.2.1, (b.2.2.1.2.2.2.2.2.1 u c1.1 c1.2).2.2.2.1⟩
    have ec := b.1.2.2.2.2.2.1 u c1.1 c1.2
    have et := b.2.1.2.2.1 u c1.1 c1.2
    rw [show 8 * 0 + u = u by omega] at et
    rw [if_pos c1, ev, ixw (by omega) (by omega), ec.1, ec.2, et]
    clear ec et
    refine zWp_nt (by decide) ?_
    refine zWp_if (fun z => zWp_it (by omega) (zWp_s ⟨by rw [if_pos z], rfl⟩)) (fun z => ?_)
    rw [if_neg z]
    refine zWp_if (fun z => zWp_it (by omega) (zWp_s ⟨by rw [if_pos z], rfl⟩)) (fun z => ?_)
    rw [if_neg z]
    refine zWp_if (fun z => zWp_it (by omega) (zWp_s ⟨by rw [if_pos z], rfl⟩)) (fun z => ?_)
    rw [if_neg z]
    refine zWp_if (fun z => zWp_it (by omega) (zWp_qi (q_R_ownerOf b.2.2.1 b.1 hp) (zWp_s ⟨by rw [if_pos z], rfl⟩))) (fun z => ?_)
    rw [if_neg z]
    exact zWp_s ⟨rfl, rfl⟩
  · have ev : vHouse σ st u k = -1 := by unfold vHouse; exact if_neg c1
    rw [if_neg c1, ev]
    exact zWp_it rfl (zWp_s ⟨rfl, rfl⟩)
def vStone (σ st : zH) (s k : Int) : Int := if 0 ≤ s ∧ s < nS σ then (if k = 0 then σ 13 s else if k = 1 then σ 14 s else if k = 2 then st 1 s else if k = 3 then (if st 1 s = -1 then -1 else σ 6 (st 1 s)) else if k = 4 then w32 (st 2 s) else if k = 5 then w32 (st 3 s) else if k = 6 then (if st 1 s = -1 ∨ σ 2 (st 1 s) = -1 then -1 else leastA σ st s) else if k = 7 then (if leanA σ st s = -1 then 0 else 1) else -1) else -1
theorem q_stone {d : Nat} {σ st : zH} {a s k : Int} {h : zH} (b : BC σ st a h) : zWp (m_B_stone (d + 4) s k h) (fun v h' => v = .inl (vStone σ st s k) ∧ h' = h) := by
  have ha := b.2.1.a
  have hn := b.2.2.2.1.n
  have hS10 : nS σ ≤ 10 := b.2.2.2.1.2.1.2.2.2.1
  rw [em_B_stone]
  refine zWp_qi (q_hasStone b) ?_
  by_cases c1 : 0 ≤ s ∧ s < nS σ
  · have ev : vStone σ st s k = (if k = 0 then σ 13 s else if k = 1 then σ 14 s else if k = 2 then st 1 s else if k = 3 then (if st 1 s = -1 then -1 else σ 6 (st 1 s)) else if k = 4 then w32 (st 2 s) else if k = 5 then w32 (st 3 s) else if k = 6 then (if st 1 s = -1 ∨ σ 2 (st 1 s) = -1 then -1 else leastA σ st s) else if k = 7 then (if leanA σ st s = -1 then 0 else 1) else -1) := by unfold vStone; exact if_pos c1
    have e13 : h (a + 13) s = σ 13 s := b.2.1.g 13 (by decide)
    have e14 : h (a + 14) s = σ 14 s := b.2.1.g 14 (by decide)
    have e68 : h 68 s = st 1 s := b.2.2.1.pl (by omega)
    have e69 : h 69 s = w32 (st 2 s) := b.2.2.1.rl (by omega)
    have e70 : h 70 s = w32 (st 3 s) := b.2.2.1.cm (by omega)
    have eow : (if 0 ≤ st 1 s ∧ st 1 s < nC σ then σ 6 (st 1 s) else -1) = (if st 1 s = -1 then -1 else σ 6 (st 1 s)) := by
      by_cases y : st 1 s = -1
      · rw [if_pos y, if_neg (by omega)]
      · rw [if_neg y, if_pos (place_in b.2.2.2.2 c1 y)]
    rw [if_pos c1, b.1, ev, e13, e14, e68, e69, e70]
    refine zWp_nt (by decide) ?_
    refine zWp_if (fun z => zWp_po (by omega) (zWp_po (by omega) (zWp_it (by omega) (zWp_s ⟨by rw [if_pos z], rfl⟩)))) (fun z => ?_)
    rw [if_neg z]
    refine zWp_if (fun z => zWp_po (by omega) (zWp_po (by omega) (zWp_it (by omega) (zWp_s ⟨by rw [if_pos z], rfl⟩)))) (fun z => ?_)
    rw [if_neg z]
    refine zWp_if (fun z => zWp_it (by omega) (zWp_s ⟨by rw [if_pos z], rfl⟩)) (fun z => ?_)
    rw [if_neg z]
    refine zWp_if (fun z => zWp_it (by omega) (zWp_po (by omega) (zWp_qi (q_ownerOf b.2.1 b.2.2.2.1) (zWp_s ⟨by rw [if_pos z, eow], rfl⟩)))) (fun z => ?_)
    rw [if_neg z]
    refine zWp_if (fun z => zWp_it (by omega) (zWp_s ⟨by rw [if_pos z], rfl⟩)) (fun z => ?_)
    rw [if_neg z]
    refine zWp_if (fun z => zWp_it (by omega) (zWp_s ⟨by rw [if_pos z], rfl⟩)) (fun z => ?_)
    rw [if_neg z]
    refine zWp_if (fun z => zWp_qi (q_leastPush b.2.1 b.2.2.2.1 b.2.2.1 b.2.2.2.2 c1) (zWp_s ⟨by rw [if_pos z]; rfl, rfl⟩)) (fun z => ?_)
    rw [if_neg z]
    refine zWp_if (fun z => zWp_qi (q_leansOn b.2.1 b.2.2.2.1 b.2.2.1 b.2.2.2.2 c1) (zWp_if (fun y => zWp_qi q_oneIf (zWp_s ⟨by rw [if_pos z, if_pos y]; rfl, rfl⟩)) (fun y => zWp_qi q_oneIf (zWp_s ⟨by rw [if_pos z, if_neg y]; rfl, rfl⟩)))) (fun z => ?_)
    rw [if_neg z]
    exact zWp_s ⟨rfl, rfl⟩
  · have ev : vStone σ st s k = -1 := by unfold vStone; exact if_neg c1
    rw [if_neg c1, ev]
    exact zWp_it rfl (zWp_s ⟨rfl, rfl⟩)
theorem q_R_stone {d : Nat} {σ st h : zH} {s k : Int} (b : RC σ st h) : zWp (m_R_stone (d + 3) s k h) (fun v h' => v = .inl (vStone σ st s k) ∧ h' = h) := by
  have hb := b.1.b
  have hn := b.2.2.1.n
  have hS10 : nS σ ≤ 10 := b.2.2.1.2.1.2.2.2.1
  rw [em_R_stone]
  refine zWp_qi (q_R_isStone b.1) ?_
  by_cases c1 : 0 ≤ s ∧ s < nS σ
  · have ev : vStone σ st s k = (if k = 0 then σ 13 s else if k = 1 then σ 14 s else if k = 2 then st 1 s else if k = 3 then (if st 1 s = -1 then -1 else σ 6 (st 1 s)) else if k = 4 then w32 (st 2 s) else if k = 5 then w32 (st 3 s) else if k = 6 then (if st 1 s = -1 ∨ σ 2 (st 1 s) = -1 then -1 else leastA σ st s) else if k = 7 then (if leanA σ st s = -1 then 0 else 1) else -1) := by unfold vStone; exact if_pos c1
    have ec := b.1.2.2.2.2.1 s c1.1 c1.2
    have et := b.2.1.2.1 s c1.1 c1.2
    rw [show 10 * 0 + s = s by omega] at et
    have h14 : 0 ≤ σ 14 s ∧ σ 14 s ≤ 9999 := ⟨(b.2.2.1.2.2.2.2.1 s c1.1 c1.2).2.2.1, (b.2.2.1.2.2.2.2.1 s c1.1 c1.2).2.2.2.1⟩
    rw [if_pos c1, ev, ixw (by omega) (by omega), ec.1, ec.2.1, et.1, et.2.1, et.2.2]
    clear ec et
    refine zWp_nt (by decide) (zWp_it (by omega) ?_)
    have six : k = 6 → zWp (if st 1 s = -1 then some (.inl (-1), h) else (if 0 ≤ st 1 s ∧ st 1 s < ((60 : Nat) : Int) then (if h 454 (st 1 s) = (-1) then some ((.inl (-1)), h) else (if 0 ≤ 10 * h 403 12 + s ∧ 10 * h 403 12 + s < ((20 : Nat) : Int) then (if 0 ≤ st 1 s ∧ st 1 s < ((60 : Nat) : Int) then (if w32 ((w32 ((σ 14 s) - (h 455 (st 1 s)))) + 1) < 0 then some ((.inl 0), h) else some ((.inl (w32 ((w32 ((σ 14 s) - (h 455 (st 1 s)))) + 1))), h)) else none) else none)) else none)) (fun v h' => v = .inl (if st 1 s = -1 ∨ σ 2 (st 1 s) = -1 then -1 else leastA σ st s) ∧ h' = h) := fun _ => by
      refine zWp_if (fun y => zWp_s ⟨by rw [if_pos (Or.inl y)], rfl⟩) (fun y => ?_)
      have hc := place_in b.2.2.2 c1 y
      have e4 := b.1.2.2.1 _ hc.1 hc.2
      rw [e4.2.1, e4.2.2.1]
      clear e4
      refine zWp_it (by omega) (zWp_if (fun y2 => zWp_s ⟨by rw [if_pos (Or.inr y2)], rfl⟩) (fun y2 => zWp_it (by omega) (zWp_it (by omega) ?_)))
      have hD : 0 ≤ σ 3 (st 1 s) ∧ σ 3 (st 1 s) ≤ 999 := by
        have hh := b.2.2.1.2.2.1 _ hc.1 hc.2
        rcases hh.2.2 with q | q
        · omega
        · have := b.2.2.1.2.2.1 _ q.1 q.2.1
          omega
      rw [w32_i (x := σ 14 s - σ 3 (st 1 s)) (by omega), w32_i (by omega), if_neg (show ¬ (st 1 s = -1 ∨ σ 2 (st 1 s) = -1) from fun z => by rcases z with z | z; exact y z; exact y2 z)]
      unfold leastA
      exact zWp_if (fun y3 => zWp_s ⟨by rw [if_pos y3], rfl⟩) (fun y3 => zWp_s ⟨by rw [if_neg y3], rfl⟩)
    refine zWp_if (fun z => zWp_it (by omega) (zWp_s ⟨by rw [if_pos z], rfl⟩)) (fun z => ?_)
    rw [if_neg z]
    refine zWp_if (fun z => zWp_it (by omega) (zWp_s ⟨by rw [if_pos z], rfl⟩)) (fun z => ?_)
    rw [if_neg z]
    refine zWp_if (fun z => zWp_s ⟨by rw [if_pos z], rfl⟩) (fun z => ?_)
    rw [if_neg z]
    refine zWp_if (fun z => zWp_if (fun y => zWp_s ⟨by rw [if_pos z, if_pos y], rfl⟩) (fun y => zWp_qi (q_R_ownerOf b.2.2.1 b.1 (place_in b.2.2.2 c1 y)) (zWp_s ⟨by rw [if_pos z, if_neg y], rfl⟩))) (fun z => ?_)
    rw [if_neg z]
    refine zWp_if (fun z => zWp_it (by omega) (zWp_s ⟨by rw [if_pos z], rfl⟩)) (fun z => ?_)
    rw [if_neg z]
    refine zWp_if (fun z => zWp_it (by omega) (zWp_s ⟨by rw [if_pos z], rfl⟩)) (fun z => ?_)
    rw [if_neg z]
    refine zWp_if (fun z => (by rw [if_pos z]; exact six z)) (fun z => ?_)
    rw [if_neg z]
    refine zWp_if (fun z => zWp_qi (q_R_isHeld b.2.2.1 b.1 b.2.1 b.2.2.2 c1) (by rw [if_pos z]; by_cases y : leanA σ st s = -1; rw [if_pos y]; exact zWp_it rfl (zWp_s ⟨rfl, rfl⟩); rw [if_neg y]; exact zWp_nt (by decide) (zWp_s ⟨rfl, rfl⟩))) (fun z => ?_)
    rw [if_neg z]
    exact zWp_s ⟨rfl, rfl⟩
  · have ev : vStone σ st s k = -1 := by unfold vStone; exact if_neg c1
    rw [if_neg c1, ev]
    exact zWp_it rfl (zWp_s ⟨rfl, rfl⟩)
