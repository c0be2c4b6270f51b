/-! thaw, lies, hit, worst -/
def vThaw (σ st : zH) (x k : Int) : Int := if 0 ≤ x ∧ x < nT σ then (if k = 0 then σ 18 x else if k = 1 then σ 19 x else if k = 2 then w32 (esum eRu (trEv σ (spr σ (σ 18 x) st).2)) else if k = 3 then w32 (esum eWo (trEv σ (spr σ (σ 18 x) st).2)) else if k = 4 then w32 (spr σ (σ 18 x) st).2.length else -1) else -1
theorem q_thaw {d : Nat} {σ st : zH} {a x k : Int} {h : zH} (b : BC σ st a h) : zWp (m_B_thaw (d + 7) x k h) (fun v h' => v = .inl (vThaw σ st x k) ∧ frQ h h') := by
  have ha := b.2.1.a
  have hT6 : nT σ ≤ 6 := b.2.2.2.1.2.1.2.2.2.2.2.2.2.1
  have e : h (a + 8) 13 = nT σ := b.2.1.g 8 (by decide)
  rw [em_B_thaw, b.1, e]
  refine zWp_po (by omega) (zWp_po (by omega) (zWp_it (by decide) (zWp_qi q_within ?_)))
  by_cases c1 : 0 ≤ x ∧ x < nT σ
  · have ev : vThaw σ st x k = (if k = 0 then σ 18 x else if k = 1 then σ 19 x else if k = 2 then w32 (esum eRu (trEv σ (spr σ (σ 18 x) st).2)) else if k = 3 then w32 (esum eWo (trEv σ (spr σ (σ 18 x) st).2)) else if k = 4 then w32 (spr σ (σ 18 x) st).2.length else -1) := by unfold vThaw; exact if_pos c1
    rw [if_pos c1, ev]
    obtain ⟨v, h3, e3, k1, k2⟩ := q_tryThaw (d := d) b c1
    refine zWp_nt (by decide) (zWp_qv e3 ?_)
    have b3 := b.q k2
    have e18 : h3 (a + 18) x = σ 18 x := b3.2.1.g 18 (by decide)
    have e19 : h3 (a + 19) x = σ 19 x := b3.2.1.g 19 (by decide)
    obtain ⟨m2, m3, m4, -⟩ := k1.2.2.2.1
    rw [b3.1, e18, e19, m2, m3, m4]
    refine zWp_if (fun z => zWp_po (by omega) (zWp_po (by omega) (zWp_it (by omega) (zWp_s ⟨by rw [if_pos z], k2⟩)))) (fun z0 => ?_)
    rw [if_neg z0]
    refine zWp_if (fun z => zWp_po (by omega) (zWp_po (by omega) (zWp_it (by omega) (zWp_s ⟨by rw [if_pos z], k2⟩)))) (fun z1 => ?_)
    rw [if_neg z1]
    refine zWp_if (fun z => zWp_s ⟨by rw [if_pos z], k2⟩) (fun z2 => ?_)
    rw [if_neg z2]
    refine zWp_if (fun z => zWp_s ⟨by rw [if_pos z], k2⟩) (fun z3 => ?_)
    rw [if_neg z3]
    refine zWp_if (fun z => zWp_s ⟨by rw [if_pos z], k2⟩) (fun z4 => ?_)
    rw [if_neg z4]
    exact zWp_s ⟨rfl, k2⟩
  · have ev : vThaw σ st x k = -1 := by unfold vThaw; exact if_neg c1
    rw [if_neg c1, ev]
    exact zWp_it rfl (zWp_s ⟨rfl, frQ.rf h⟩)
theorem q_R_thaw {d : Nat} {σ st h : zH} {x k : Int} (c : RC σ st h) : zWp (m_R_thaw (d + 7) x k h) (fun v h' => v = .inl (vThaw σ st x k) ∧ frQR h h') := by
  have hb := c.1.b
  have hT6 : nT σ ≤ 6 := c.2.2.1.2.1.2.2.2.2.2.2.2.1
  have hT0 : 0 ≤ nT σ := c.2.2.1.2.1.2.2.2.2.2.2.1
  have e : h 424 (h 403 12) = nT σ := c.1.2.2.2.1.2.2.2.1
  rw [em_R_thaw, e, w32_i (x := nT σ - 1) (by omega)]
  refine zWp_it (by omega) (zWp_qi q_R_is ?_)
  by_cases c1 : 0 ≤ x ∧ x < nT σ
  · have ev : vThaw σ st x k = (if k = 0 then σ 18 x else if k = 1 then σ 19 x else if k = 2 then w32 (esum eRu (trEv σ (spr σ (σ 18 x) st).2)) else if k = 3 then w32 (esum eWo (trEv σ (spr σ (σ 18 x) st).2)) else if k = 4 then w32 (spr σ (σ 18 x) st).2.length else -1) := by unfold vThaw; exact if_pos c1
    rw [if_pos (show 0 ≤ x ∧ x ≤ nT σ - 1 by omega), ev]
    refine zWp_nt (by decide) (zWp_qi q_R_is ?_)
    have e18 := (c.1.2.2.2.2.2.2.1 x c1.1 c1.2)
    by_cases c2 : 0 ≤ k ∧ k ≤ 4
    · rw [if_pos c2, ixw (by omega) (by omega), e18.1, e18.2]
      refine zWp_nt (by decide) (zWp_if (fun z => zWp_if (fun z0 => zWp_it (by omega) (zWp_s ⟨by rw [if_pos z0], frQR.rf h⟩)) (fun z0 => zWp_it (by omega) (zWp_s ⟨by rw [if_neg z0, if_pos (by omega)], frQR.rf h⟩))) (fun z => ?_))
      rw [if_neg (by omega), if_neg (by omega)]
      obtain ⟨v, h5, e5, ⟨s1, s2, s3, s4⟩, f5, -⟩ := q_R_thaws (d := d) (t := 1) (f := 0) c.2.2.1 c.1 c.2.1 c.2.2.2 c1 (by decide) (by decide) (by decide)
      refine zWp_qv e5 ?_
      rw [s3.1, s3.2.1, s3.2.2.2.1]
      refine zWp_if (fun z2 => zWp_s ⟨by rw [if_pos z2], f5⟩) (fun z2 => ?_)
      rw [if_neg z2]
      refine zWp_if (fun z3 => zWp_s ⟨by rw [if_pos z3], f5⟩) (fun z3 => ?_)
      rw [if_neg z3, if_pos (by omega)]
      exact zWp_s ⟨rfl, f5⟩
    · rw [if_neg c2]
      refine zWp_it rfl (zWp_s ⟨?_, frQR.rf h⟩)
      rw [if_neg (by omega), if_neg (by omega), if_neg (by omega), if_neg (by omega), if_neg (by omega)]
  · have ev : vThaw σ st x k = -1 := by unfold vThaw; exact if_neg c1
    rw [if_neg (show ¬ (0 ≤ x ∧ x ≤ nT σ - 1) by omega), ev]
    exact zWp_it rfl (zWp_s ⟨rfl, frQR.rf h⟩)
def liesF (σ st : zH) (s c t : Int) : Int := if (spr σ (σ 18 t) st).1 1 s = c then σ 19 t else 0
def hitF (σ st : zH) (u t : Int) : Int := if st 9 u ≠ 1 ∧ (spr σ (σ 18 t) st).1 9 u = 1 then σ 19 t else 0
def vLies (σ st : zH) (s c : Int) : Int := if (0 ≤ s ∧ s < nS σ) ∧ ¬ nT σ = 0 then (if c = -1 then (if st 1 s = -1 then 1000 else 0) else if 0 ≤ c ∧ c < nC σ then Int.tdiv (1000 * isum (liesF σ st s c) (nT σ).toNat 0) (oddsA σ) else -1) else -1
def vHit (σ st : zH) (u : Int) : Int := if (0 ≤ u ∧ u < nHo σ) ∧ ¬ nT σ = 0 then Int.tdiv (1000 * isum (hitF σ st u) (nT σ).toNat 0) (oddsA σ) else -1
theorem q_thous {d : Nat} {σ st : zH} {a x : Int} {h : zH} (b : BC σ st a h) (hT : ¬ nT σ = 0) (hx : 0 ≤ x ∧ x ≤ 594) : m_B_thousandthsOfAll (d + 2) x h = some (.inl (Int.tdiv (1000 * x) (oddsA σ)), h) := by
  have ha := b.2.1.a
  have h1 := odds_p b.2.2.2.1 hT
  rw [em_B_thousandthsOfAll, b.1, zpo_t (by omega), q_oddsOfAll b.2.1 b.2.2.2.1, zqi_s, if_pos (by omega), zdz_t (by omega), w32_i (x := 1000 * x) (by omega), w32_i]
  rw [Int.tdiv_eq_ediv_of_nonneg (by omega)]
  have := Int.ediv_nonneg (show 0 ≤ 1000 * x by omega) (show 0 ≤ oddsA σ by omega)
  have := Int.ediv_le_self (oddsA σ) (show 0 ≤ 1000 * x by omega)
  omega
theorem liesF_b {σ st : zH} (w : WS σ) {s c t : Int} (ht : 0 ≤ t ∧ t < nT σ) : 0 ≤ liesF σ st s c t ∧ liesF σ st s c t ≤ 99 := by
  have := w.2.2.2.2.2.2.1 t ht.1 ht.2
  unfold liesF; split <;> omega
theorem hitF_b {σ st : zH} (w : WS σ) {u t : Int} (ht : 0 ≤ t ∧ t < nT σ) : 0 ≤ hitF σ st u t ∧ hitF σ st u t ≤ 99 := by
  have := w.2.2.2.2.2.2.1 t ht.1 ht.2
  unfold hitF; split <;> omega
theorem q_lies67 {d : Nat} {σ st : zH} {a s c : Int} (hs : 0 ≤ s ∧ s < nS σ) (hT : ¬ nT σ = 0) : ∀ (n : Nat) {i x : Int} {h : zH}, BC σ st a h → 0 ≤ i → i + n = nT σ → 0 ≤ x ∧ x ≤ 99 * i → zWp (l_B_lies_67 (d + 6) s c x i h) (fun v h' => v = .inl (Int.tdiv (1000 * (x + isum (liesF σ st s c) n i)) (oddsA σ)) ∧ frQ h h') := by
  intro n
  induction n with
  | zero =>
    intro i x h b hi hn hx
    have ha := b.2.1.a
    have hT6 : nT σ ≤ 6 := b.2.2.2.1.2.1.2.2.2.2.2.2.2.1
    have e : h (a + 8) 13 = nT σ := b.2.1.g 8 (by decide)
    rw [el_B_lies_67, b.1, e]
    refine zWp_po (by omega) (zWp_po (by omega) (zWp_it (by decide) (zWp_nt (by omega) (zWp_qi (q_thous b hT (by omega)) (zWp_s ⟨?_, frQ.rf h⟩)))))
    show _ = Sum.inl (Int.tdiv (1000 * (x + 0)) (oddsA σ))
    rw [Int.add_zero]
  | succ n ih =>
    intro i x h b hi hn hx
    have ha := b.2.1.a
    have hT6 : nT σ ≤ 6 := b.2.2.2.1.2.1.2.2.2.2.2.2.2.1
    have hS10 : nS σ ≤ 10 := b.2.2.2.1.2.1.2.2.2.1
    have e : h (a + 8) 13 = nT σ := b.2.1.g 8 (by decide)
    have hit : 0 ≤ i ∧ i < nT σ := by omega
    have ho := b.2.2.2.1.2.2.2.2.2.2.1 i hit.1 hit.2
    rw [el_B_lies_67, b.1, e]
    refine zWp_po (by omega) (zWp_po (by omega) (zWp_it (by decide) (zWp_it (by omega) ?_)))
    obtain ⟨v, h3, e3, k1, k2⟩ := q_tryThaw (d := d) b hit
    refine zWp_qv e3 ?_
    have b3 := b.q k2
    have ep : h3 76 s = (spr σ (σ 18 i) st).1 1 s := k1.2.1.pl (by omega)
    have e19 : h3 (a + 19) i = σ 19 i := b3.2.1.g 19 (by decide)
    rw [ep, b3.1, e19, w32_i (x := i + 1) (by omega)]
    have eS : isum (liesF σ st s c) (n + 1) i = liesF σ st s c i + isum (liesF σ st s c) n (i + 1) := rfl
    have fin : ∀ y, y = liesF σ st s c i → zWp (l_B_lies_67 (d + 6) s c (w32 (x + y)) (i + 1) h3) (fun v h' => v = .inl (Int.tdiv (1000 * (x + isum (liesF σ st s c) (n + 1) i)) (oddsA σ)) ∧ frQ h h') := by
      intro y hy
      have hb := liesF_b (st := st) (s := s) (c := c) b.2.2.2.1 hit
      rw [w32_i (by omega)]
      refine zWp_m (ih b3 (by omega) (by omega) (by omega)) ?_
      rintro v h' ⟨u1, u2⟩
      refine ⟨?_, k2.t u2⟩
      rw [u1, eS, hy, Int.add_assoc]
    refine zWp_it (by omega) ?_
    by_cases z : (spr σ (σ 18 i) st).1 1 s = c
    · exact zWp_it z (zWp_po (by omega) (zWp_po (by omega) (zWp_it (by omega) (fin (σ 19 i) (by unfold liesF; rw [if_pos z])))))
    · exact zWp_nt z (fin 0 (by unfold liesF; rw [if_neg z]))
theorem q_lies {d : Nat} {σ st : zH} {a s c : Int} {h : zH} (b : BC σ st a h) : zWp (m_B_lies (d + 7) s c h) (fun v h' => v = .inl (vLies σ st s c) ∧ frQ h h') := by
  have ha := b.2.1.a
  have hS10 : nS σ ≤ 10 := b.2.2.2.1.2.1.2.2.2.1
  have hT0 : 0 ≤ nT σ := b.2.2.2.1.2.1.2.2.2.2.2.2.1
  have e : h (a + 8) 13 = nT σ := b.2.1.g 8 (by decide)
  rw [em_B_lies]
  refine zWp_qi (q_hasStone b) ?_
  by_cases c1 : 0 ≤ s ∧ s < nS σ
  · rw [if_pos c1, b.1, e]
    refine zWp_nt (by decide) (zWp_po (by omega) (zWp_po (by omega) (zWp_it (by decide) ?_)))
    by_cases c2 : nT σ = 0
    · have ev : vLies σ st s c = -1 := by unfold vLies; exact if_neg (fun z => z.2 c2)
      rw [ev]
      exact zWp_it c2 (zWp_s ⟨rfl, frQ.rf h⟩)
    · have ep : h 68 s = st 1 s := b.2.2.1.pl (by omega)
      have ev : vLies σ st s c = (if c = -1 then (if st 1 s = -1 then 1000 else 0) else if 0 ≤ c ∧ c < nC σ then Int.tdiv (1000 * isum (liesF σ st s c) (nT σ).toNat 0) (oddsA σ) else -1) := by unfold vLies; exact if_pos ⟨c1, c2⟩
      rw [ev, ep]
      refine zWp_nt c2 (zWp_if (fun z => zWp_it (by omega) ?_) (fun z => zWp_po (by omega) (zWp_qi (q_hasCell b.2.1 b.2.2.2.1) ?_)))
      · rw [if_pos z]
        exact zWp_if (fun y => zWp_s ⟨by rw [if_pos y], frQ.rf h⟩) (fun y => zWp_s ⟨by rw [if_neg y], frQ.rf h⟩)
      · rw [if_neg z]
        by_cases c3 : 0 ≤ c ∧ c < nC σ
        · rw [if_pos c3, if_pos c3]
          refine zWp_nt (by decide) (zWp_m (q_lies67 (d := d) c1 c2 (nT σ).toNat b (Int.le_refl 0) (by omega) (by omega)) ?_)
          rintro v h' ⟨u1, u2⟩
          exact ⟨by rw [u1, Int.zero_add], u2⟩
        · rw [if_neg c3, if_neg c3]
          exact zWp_it rfl (zWp_s ⟨rfl, frQ.rf h⟩)
  · have ev : vLies σ st s c = -1 := by unfold vLies; exact if_neg (fun z => c1 z.1)
    rw [if_neg c1, ev]
    exact zWp_it rfl (zWp_s ⟨rfl, frQ.rf h⟩)
theorem isum_cg {f g : Int → Int} : ∀ (n : Nat) (i : Int), (∀ j, i ≤ j → j < i + n → f j = g j) → isum f n i = isum g n i
  | 0, _, _ => rfl
  | n + 1, i, h => by
    show f i + isum f n (i + 1) = g i + isum g n (i + 1)
    rw [h i (by omega) (by omega), isum_cg n (i + 1) (fun j a b => h j (by omega) (by omega))]
theorem isum_0 : ∀ (n : Nat) (i : Int), isum (fun _ => 0) n i = 0
  | 0, _ => rfl
  | n + 1, i => by show 0 + isum (fun _ => 0) n (i + 1) = 0; rw [isum_0 n]; rfl
/-- the reference's last row of lies, hit -/
theorem q_R_div {d : Nat} {σ h : zH} {x : Int} (w : WS σ) (g : RS σ h) (hT : ¬ nT σ = 0) (hx : 0 ≤ x ∧ x ≤ 594) {Q : zV → zH → Prop} (k : Q (.inl (Int.tdiv (1000 * x) (oddsA σ))) h) : zWp (zqi (m_R_oddsAll (d + 1) h) fun a2 h1 => zdz a2 (some (.inl (w32 (Int.tdiv (w32 (1000 * x)) a2)), h1))) Q := by
  have h1 := odds_p w hT
  refine zWp_qi (q_R_oddsAll g w) (zWp_dz (by omega) (zWp_s ?_))
  have e : w32 (Int.tdiv (w32 (1000 * x)) (oddsA σ)) = Int.tdiv (1000 * x) (oddsA σ) := by
    rw [w32_i (x := 1000 * x) (by omega), w32_i]
    rw [Int.tdiv_eq_ediv_of_nonneg (by omega)]
    have := Int.ediv_nonneg (show 0 ≤ 1000 * x by omega) (show 0 ≤ oddsA σ by omega)
    have := Int.ediv_le_self (oddsA σ) (show 0 ≤ 1000 * x by omega)
    omega
  rw [e]; exact k
theorem q_R_lies78 {d : Nat} {σ st : zH} {s c : Int} (hs : 0 ≤ s ∧ s < nS σ) (hT : ¬ nT σ = 0) : ∀ (n : Nat) {i x : Int} {h : zH}, RC σ st h → 0 ≤ i → i + n = nT σ → 0 ≤ x ∧ x ≤ 99 * i → zWp (l_R_lies_78 (d + 6) s c x i h) (fun v h' => v = .inl (Int.tdiv (1000 * (x + isum (liesF σ st s c) n i)) (oddsA σ)) ∧ frQR h h') := by
  intro n
  induction n with
  | zero =>
    intro i x h b hi hn hx
    have hb := b.1.b
    have hT6 : nT σ ≤ 6 := b.2.2.1.2.1.2.2.2.2.2.2.2.1
    have e : h 424 (h 403 12) = nT σ := b.1.2.2.2.1.2.2.2.1
    rw [el_R_lies_78, e]
    refine zWp_it (by omega) (zWp_nt (by omega) (q_R_div b.2.2.1 b.1 hT (by omega) ⟨?_, frQR.rf h⟩))
    show _ = Sum.inl (Int.tdiv (1000 * (x + 0)) (oddsA σ))
    rw [Int.add_zero]
  | succ n ih =>
    intro i x h b hi hn hx
    have hb := b.1.b
    have hT6 : nT σ ≤ 6 := b.2.2.1.2.1.2.2.2.2.2.2.2.1
    have hS10 : nS σ ≤ 10 := b.2.2.1.2.1.2.2.2.1
    have e : h 424 (h 403 12) = nT σ := b.1.2.2.2.1.2.2.2.1
    have hit : 0 ≤ i ∧ i < nT σ := by omega
    rw [el_R_lies_78, e]
    refine zWp_it (by omega) (zWp_it (by omega) ?_)
    obtain ⟨v, h3, e3, ⟨s1, s2, s3, s4⟩, k2, -⟩ := q_R_thaws (d := d) (t := 1) (f := 0) b.2.2.1 b.1 b.2.1 b.2.2.2 hit (by decide) (by decide) (by decide)
    refine zWp_qv e3 ?_
    have b3 := b.q k2
    have hb3 := b3.1.b
    have ep : h3 444 (10 + s) = (spr σ (σ 18 i) st).1 1 s := (s1.2.1 s hs.1 hs.2).1
    have e19 : h3 426 (6 * h3 403 12 + i) = σ 19 i := (b3.1.2.2.2.2.2.2.1 i hit.1 hit.2).2
    rw [w32_i (x := 10 + s) (by omega), ep, ixw (by omega) (by omega), e19, w32_i (x := i + 1) (by omega)]
    have eS : isum (liesF σ st s c) (n + 1) i = liesF σ st s c i + isum (liesF σ st s c) n (i + 1) := rfl
    have fin : ∀ y, y = liesF σ st s c i → zWp (l_R_lies_78 (d + 6) s c (w32 (x + y)) (i + 1) h3) (fun v h' => v = .inl (Int.tdiv (1000 * (x + isum (liesF σ st s c) (n + 1) i)) (oddsA σ)) ∧ frQR h h') := by
      intro y hy
      have hbb := liesF_b (st := st) (s := s) (c := c) b.2.2.1 hit
      rw [w32_i (by omega)]
      refine zWp_m (ih b3 (by omega) (by omega) (by omega)) ?_
      rintro v h' ⟨u1, u2⟩
      refine ⟨?_, k2.t u2⟩
      rw [u1, eS, hy, Int.add_assoc]
    refine zWp_it (by omega) ?_
    by_cases z : (spr σ (σ 18 i) st).1 1 s = c
    · exact zWp_it z (zWp_it (by omega) (fin (σ 19 i) (by unfold liesF; rw [if_pos z])))
    · exact zWp_nt z (fin 0 (by unfold liesF; rw [if_neg z]))
theorem q_R_lies {d : Nat} {σ st h : zH} {s c : Int} (b : RC σ st h) : zWp (m_R_lies (d + 7) s c h) (fun v h' => v = .inl (vLies σ st s c) ∧ frQR h h') := by
  have hb := b.1.b
  have hS10 : nS σ ≤ 10 := b.2.2.1.2.1.2.2.2.1
  have hT0 : 0 ≤ nT σ := b.2.2.1.2.1.2.2.2.2.2.2.1
  have e : h 424 (h 403 12) = nT σ := b.1.2.2.2.1.2.2.2.1
  rw [em_R_lies]
  refine zWp_qi (q_R_isStone b.1) ?_
  by_cases c1 : 0 ≤ s ∧ s < nS σ
  · rw [if_pos c1, e]
    refine zWp_nt (by decide) (zWp_it (by omega) ?_)
    by_cases c2 : nT σ = 0
    · have ev : vLies σ st s c = -1 := by unfold vLies; exact if_neg (fun z => z.2 c2)
      rw [ev]
      exact zWp_it c2 (zWp_s ⟨rfl, frQR.rf h⟩)
    · have ep : h 444 s = st 1 s := by
        have := (b.2.1.2.1 s c1.1 c1.2).1
        rwa [show 10 * 0 + s = s by omega] at this
      have ev : vLies σ st s c = (if c = -1 then (if st 1 s = -1 then 1000 else 0) else if 0 ≤ c ∧ c < nC σ then Int.tdiv (1000 * isum (liesF σ st s c) (nT σ).toNat 0) (oddsA σ) else -1) := by unfold vLies; exact if_pos ⟨c1, c2⟩
      rw [ev]
      refine zWp_nt c2 (zWp_if (fun z => ?_) (fun z => zWp_qi (q_R_isCell b.2.2.1 b.1) ?_))
      · rw [if_pos z, el_R_lies_35]
        refine zWp_it z ?_
        rw [el_R_lies_50, ep]
        exact zWp_it z (zWp_it (by omega) (zWp_if (fun y => zWp_s ⟨by rw [if_pos y], frQR.rf h⟩) (fun y => zWp_s ⟨by rw [if_neg y], frQR.rf h⟩)))
      · rw [if_neg z]
        by_cases c3 : 0 ≤ c ∧ c < nC σ
        · rw [if_pos c3, if_pos c3]
          refine zWp_nt (by decide) ?_
          rw [el_R_lies_35, ep]
          refine zWp_nt z (zWp_it (by omega) (zWp_if (fun y => ?_) (fun y => ?_)))
          · rw [el_R_lies_50]
            refine zWp_nt z (zWp_s ⟨?_, frQR.rf h⟩)
            have hz : isum (liesF σ st s c) (nT σ).toNat 0 = 0 := by
              rw [isum_cg (g := fun _ => 0) _ _ (fun j j1 j2 => ?_), isum_0]
              unfold liesF
              rw [if_neg]
              have := (sprF_ok b.2.2.1 (p := σ 18 j) (b := false) (nS σ).toNat (i := 0) b.2.2.2 (Int.le_refl 0) (by omega)).2.2 s y
              rw [this]; omega
            rw [hz]
            simp
          · refine zWp_m (q_R_lies78 (d := d) c1 c2 (nT σ).toNat b (Int.le_refl 0) (by omega) (by omega)) ?_
            rintro v h' ⟨u1, u2⟩
            exact ⟨by rw [u1, Int.zero_add], u2⟩
        · rw [if_neg c3, if_neg c3]
          exact zWp_it rfl (zWp_s ⟨rfl, frQR.rf h⟩)
  · have ev : vLies σ st s c = -1 := by unfold vLies; exact if_neg (fun z => c1 z.1)
    rw [if_neg c1, ev]
    exact zWp_it rfl (zWp_s ⟨rfl, frQR.rf h⟩)
