/-! the class: what its small methods answer -/
theorem CT.sa {σ st : zH} {s : Int} {h : zH} (c : CT σ st s h) : SA s := c.1
theorem CT.pl {σ st : zH} {s : Int} {h : zH} (c : CT σ st s h) {i : Int} (hi : 0 ≤ i ∧ i < 10) : h (s + 1) i = st 1 i := (c.2.1 i hi.1 hi.2).1
theorem CT.rl {σ st : zH} {s : Int} {h : zH} (c : CT σ st s h) {i : Int} (hi : 0 ≤ i ∧ i < 10) : h (s + 2) i = w32 (st 2 i) := (c.2.1 i hi.1 hi.2).2.1
theorem CT.cm {σ st : zH} {s : Int} {h : zH} (c : CT σ st s h) {i : Int} (hi : 0 ≤ i ∧ i < 10) : h (s + 3) i = w32 (st 3 i) := (c.2.1 i hi.1 hi.2).2.2
theorem CT.at {σ st : zH} {s : Int} {h : zH} (c : CT σ st s h) {i : Int} (hi : 0 ≤ i ∧ i < nC σ) : h (s + 4) i = sAt σ st i := c.2.2.1 i hi.1 hi.2
theorem CT.ho {σ st : zH} {s : Int} {h : zH} (c : CT σ st s h) {i : Int} (hi : 0 ≤ i ∧ i < 60) : h (s + 5) i = st 5 i := (c.2.2.2.1 i hi.1 hi.2).1
theorem CT.ro {σ st : zH} {s : Int} {h : zH} (c : CT σ st s h) {i : Int} (hi : 0 ≤ i ∧ i < 60) : h (s + 6) i = st 6 i := (c.2.2.2.1 i hi.1 hi.2).2
theorem CT.ba {σ st : zH} {s : Int} {h : zH} (c : CT σ st s h) {i : Int} (hi : 0 ≤ i ∧ i < 6) : h (s + 7) i = w32 (st 7 i) := c.2.2.2.2.1 i hi.1 hi.2
theorem CT.fr {σ st : zH} {s : Int} {h h' : zH} (c : CT σ st s h) (hr : ∀ r, s ≤ r → r < s + 8 → h' r = h r) : CT σ st s h' := by
  obtain ⟨c0, c1, c2, c3, c4, c5, c6, c7⟩ := c
  rw [← hr s (by omega) (by omega)] at c5 c6 c7
  refine ⟨c0, fun i a b => ?_, fun i a b => ?_, fun i a b => ?_, fun i a b => ?_, c5, c6, c7⟩
  · rw [hr (s + 1) (by omega) (by omega), hr (s + 2) (by omega) (by omega), hr (s + 3) (by omega) (by omega)]; exact c1 i a b
  · rw [hr (s + 4) (by omega) (by omega)]; exact c2 i a b
  · rw [hr (s + 5) (by omega) (by omega), hr (s + 6) (by omega) (by omega)]; exact c3 i a b
  · rw [hr (s + 7) (by omega) (by omega)]; exact c4 i a b
theorem CS.fr {σ : zH} {a : Int} {h h' : zH} (c : CS σ a h) (hr : ∀ r, a ≤ r → r < a + 21 → h' r = h r) : CS σ a h' := ⟨c.1, fun k i h1 h2 => by rw [hr _ (by omega) (by omega)]; exact c.2 k i h1 h2⟩
theorem q_oneIf {d : Nat} {x : Int} {h : zH} : m_B_oneIf (d + 1) x h = some (.inl (if x = 0 then 0 else 1), h) := by
  rw [em_B_oneIf]; split <;> rfl
theorem q_within {d : Nat} {x y : Int} {h : zH} : m_B_within (d + 1) x y h = some (.inl (if 0 ≤ x ∧ x < y then 1 else 0), h) := by
  rw [em_B_within]
  repeat' split
  all_goals first | rfl | (exfalso; omega)
theorem q_between {d : Nat} {x y z : Int} {h : zH} : m_B_between (d + 1) x y z h = some (.inl (if y ≤ x ∧ x ≤ z then 1 else 0), h) := by
  rw [em_B_between]
  repeat' split
  all_goals first | rfl | (exfalso; omega)
theorem q_max {d : Nat} {x y : Int} {h : zH} : m_Math_max (d + 1) x y h = some (.inl (if x < y then y else x), h) := by
  rw [em_Math_max]; split <;> rfl
theorem q_min {d : Nat} {x y : Int} {h : zH} : m_Math_min (d + 1) x y h = some (.inl (if y < x then y else x), h) := by
  rw [em_Math_min]; split <;> rfl
theorem q_cells {d : Nat} {σ : zH} {a : Int} {h : zH} (c : CS σ a h) (w : WS σ) : m_Slope_cells (d + 1) a h = some (.inl (nC σ), h) := by
  have ha := c.a
  have hn := w.n
  rw [em_Slope_cells, c.z, c.z]
  unfold nC at hn ⊢
  simp (disch := omega) only [zpo_t, w32_i]
theorem q_hasCell {d : Nat} {σ : zH} {a p : Int} {h : zH} (c : CS σ a h) (w : WS σ) : m_Slope_hasCell (d + 1) a p h = some (.inl (if 0 ≤ p ∧ p < nC σ then 1 else 0), h) := by
  have ha := c.a
  have hn := w.n
  rw [em_Slope_hasCell, c.z, c.z]
  unfold nC at hn ⊢
  simp (disch := omega) only [zpo_t, w32_i]
  repeat' split
  all_goals first | rfl | (exfalso; omega)
theorem q_nextOf {d : Nat} {σ : zH} {a p : Int} {h : zH} (c : CS σ a h) (w : WS σ) : m_Slope_nextOf (d + 2) a p h = some (.inl (if 0 ≤ p ∧ p < nC σ then σ 2 p else -1), h) := by
  have ha := c.a
  have hn := w.n
  rw [em_Slope_nextOf, q_hasCell c w]
  simp (disch := omega) only [zpo_t, zqi_s, c.2]
  repeat' split
  all_goals first | rfl | (exfalso; omega)
theorem q_ownerOf {d : Nat} {σ : zH} {a p : Int} {h : zH} (c : CS σ a h) (w : WS σ) : m_Slope_ownerOf (d + 2) a p h = some (.inl (if 0 ≤ p ∧ p < nC σ then σ 6 p else -1), h) := by
  have ha := c.a
  have hn := w.n
  rw [em_Slope_ownerOf, q_hasCell c w]
  simp (disch := omega) only [zpo_t, zqi_s, c.2]
  repeat' split
  all_goals first | rfl | (exfalso; omega)
theorem zBt_at {N : Nat} {f : Int → Int} {n : Nat} (hb : zBt N f n) {i : Nat} (hi : i < n) : N / 2 ^ i % 2 = if f i = 1 then 1 else 0 := by
  have := hb i
  rw [Nat.testBit_eq_decide_div_mod_eq] at this
  by_cases e : f i = 1
  · rw [if_pos e]
    have e3 : decide (i < n ∧ f i = 1) = true := decide_eq_true ⟨hi, e⟩
    rw [e3] at this
    exact of_decide_eq_true this
  · rw [if_neg e]
    have e3 : decide (i < n ∧ f i = 1) = false := decide_eq_false (fun q => e q.2)
    rw [e3] at this
    have := of_decide_eq_false this
    omega
theorem q_hasNet {d : Nat} {σ st : zH} {s c : Int} {h : zH} (t : CT σ st s h) (hc : (0 ≤ c ∧ c < nC σ) ∧ c < 60) : m_State_hasNet (d + 1) s c h = some (.inl (if st 8 c = 1 then 1 else 0), h) := by
  have hs := t.1.low
  obtain ⟨N, e, hN, hb⟩ := t.2.2.2.2.2.1
  obtain ⟨k, rfl⟩ := Int.eq_ofNat_of_zero_le hc.1.1
  rw [em_State_hasNet, e, zlshr_g (by unfold zI64; omega) (by omega), zland_1]
  simp (disch := omega) only [zpo_t, zlc_0]
  have hk := zBt_at hb (i := k) (by omega)
  have e2 : ((N : Int) / ((2 ^ k : Nat) : Int) % 2) = ((N / 2 ^ k % 2 : Nat) : Int) := by rw [Int.natCast_emod, Int.natCast_ediv]; rfl
  rw [e2, hk]
  repeat' split
  all_goals first | rfl | (exfalso; omega)
theorem q_isRuin {d : Nat} {σ st : zH} {s c : Int} {h : zH} (t : CT σ st s h) (hc : 0 ≤ c ∧ c < 8) : m_State_isRuin (d + 1) s c h = some (.inl (if st 9 c = 1 then 1 else 0), h) := by
  have hs := t.1.low
  obtain ⟨N, e, hN, hb⟩ := t.2.2.2.2.2.2.1
  obtain ⟨k, rfl⟩ := Int.eq_ofNat_of_zero_le hc.1
  rw [em_State_isRuin, e, zshr_g (by unfold zI32; omega) (by omega), zand_1]
  simp (disch := omega) only [zpo_t]
  have hk := zBt_at hb (i := k) (by omega)
  have e2 : ((N : Int) / ((2 ^ k : Nat) : Int) % 2) = ((N / 2 ^ k % 2 : Nat) : Int) := by rw [Int.natCast_emod, Int.natCast_ediv]; rfl
  rw [e2, hk]
  repeat' split
  all_goals first | rfl | (exfalso; omega)
/-- a whole house -/
def whole (σ st : zH) (c : Int) : Prop := σ 7 c ≠ -1 ∧ st 9 (σ 7 c) ≠ 1
theorem q_wholeHouse {d : Nat} {σ st : zH} {a s c : Int} {h : zH} (g : CS σ a h) (w : WS σ) (t : CT σ st s h) (hc : 0 ≤ c ∧ c < nC σ) : m_State_hasWholeHouse (d + 2) s a c h = some (.inl (if σ 7 c ≠ -1 ∧ st 9 (σ 7 c) ≠ 1 then 1 else 0), h) := by
  have ha := g.a
  have hs := t.1.low
  have hn := w.n
  have hw := w.2.2.2.1 c hc.1 hc.2
  have hm := w.2.1
  rw [em_State_hasWholeHouse]
  simp (disch := omega) only [zpo_t, zit_t, g.2]
  by_cases e : σ 7 c = -1
  · rw [if_pos e, if_neg (fun q => q.1 e)]
  · rw [if_neg e, q_isRuin t (by omega)]
    simp (disch := omega) only [zqi_s]
    repeat' split
    all_goals first | rfl | (exfalso; simp_all)
theorem q_isBarred {d : Nat} {σ st : zH} {a s c : Int} {h : zH} (g : CS σ a h) (w : WS σ) (t : CT σ st s h) (hc : 0 ≤ c ∧ c < nC σ) : m_State_isBarred (d + 3) s a c h = some (.inl (if sAt σ st c ≠ -1 ∨ 0 < st 5 c ∨ (σ 7 c ≠ -1 ∧ st 9 (σ 7 c) ≠ 1) then 1 else 0), h) := by
  have hs := t.1.low
  have hn := w.n
  rw [em_State_isBarred, q_wholeHouse g w t hc, t.at hc, t.ho (by omega)]
  simp (disch := omega) only [zpo_t, zit_t, zqi_s]
  by_cases e1 : sAt σ st c = -1
  · by_cases e2 : 0 < st 5 c
    · rw [if_pos e1, if_pos e2, if_pos (Or.inr (Or.inl e2))]
    · by_cases e3 : (σ 7 c ≠ -1 ∧ st 9 (σ 7 c) ≠ 1)
      · rw [if_pos e1, if_neg e2, if_pos e3, if_pos (Or.inr (Or.inr e3)), if_neg (by omega)]
      · rw [if_pos e1, if_neg e2, if_neg e3, if_pos rfl, if_neg]
        rintro (q | q | q)
        · exact q e1
        · exact e2 q
        · exact e3 q
  · rw [if_neg e1, if_pos (Or.inl e1)]
theorem q_starts {d : Nat} {σ st : zH} {a s i p : Int} {h : zH} (g : CS σ a h) (w : WS σ) (t : CT σ st s h) (wt : WT σ st) (hi : 0 ≤ i ∧ i < nS σ) (hp : 0 ≤ p ∧ p ≤ 2000000) : m_State_starts (d + 1) s a i p h = some (.inl (if st 1 i ≠ -1 ∧ σ 2 (st 1 i) ≠ -1 ∧ σ 14 i < p + σ 3 (st 1 i) then 1 else 0), h) := by
  have ha := g.a
  have hs := t.1.low
  have hn := w.n
  have hm := w.2.1
  rw [em_State_starts, t.pl (by omega)]
  simp (disch := omega) only [zpo_t, zit_t, g.2]
  rcases (wt.1 i hi.1 hi.2).1 with e | ⟨e1, e2⟩
  · rw [if_pos (by omega), if_neg (fun q => q.1 e)]
  · have hc := w.2.2.1 _ e1 e2
    rw [if_neg (by omega), if_pos (by omega)]
    by_cases e3 : σ 2 (st 1 i) = -1
    · simp (disch := omega) only [zit_t]
      rw [if_neg (fun q => q.2.1 e3)]
    · have : -2147483648 ≤ p + σ 3 (st 1 i) ∧ p + σ 3 (st 1 i) < 2147483648 := by
        rcases hc.2.2 with q | q
        · omega
        · have := w.2.2.1 _ q.1 q.2.1
          omega
      simp (disch := omega) only [zit_t, zit_f, w32_i]
      by_cases e4 : σ 14 i < p + σ 3 (st 1 i)
      · rw [if_pos e4, if_pos ⟨by omega, e3, e4⟩]
      · rw [if_neg e4, if_neg (fun q => e4 q.2.2)]
theorem q_leastPush {d : Nat} {σ st : zH} {a s i : Int} {h : zH} (g : CS σ a h) (w : WS σ) (t : CT σ st s h) (wt : WT σ st) (hi : 0 ≤ i ∧ i < nS σ) : m_State_leastPush (d + 3) s a i h = some (.inl (if st 1 i = -1 ∨ σ 2 (st 1 i) = -1 then -1 else if σ 14 i - σ 3 (st 1 i) + 1 < 0 then 0 else σ 14 i - σ 3 (st 1 i) + 1), h) := by
  have ha := g.a
  have hs := t.1.low
  have hn := w.n
  have hm := w.2.1
  rw [em_State_leastPush, t.pl (by omega)]
  simp (disch := omega) only [zpo_t, zit_t, q_nextOf g w, zqi_s, q_max, g.2]
  rcases (wt.1 i hi.1 hi.2).1 with e | ⟨e1, e2⟩
  · rw [show (if 0 ≤ st 1 i ∧ st 1 i < nC σ then σ 2 (st 1 i) else -1) = -1 from if_neg (by omega), if_pos rfl, if_pos (Or.inl e)]
  · have hc := w.2.2.1 _ e1 e2
    have hr := w.2.2.2.2.1 i hi.1 hi.2
    rw [show (if 0 ≤ st 1 i ∧ st 1 i < nC σ then σ 2 (st 1 i) else -1) = σ 2 (st 1 i) from if_pos ⟨e1, e2⟩]
    by_cases e3 : σ 2 (st 1 i) = -1
    · rw [if_pos e3, if_pos (Or.inr e3)]
    · have : 0 ≤ σ 3 (st 1 i) ∧ σ 3 (st 1 i) ≤ 999 := by
        rcases hc.2.2 with q | q
        · omega
        · have := w.2.2.1 _ q.1 q.2.1
          omega
      rw [if_neg e3, if_neg (show ¬ (st 1 i = -1 ∨ σ 2 (st 1 i) = -1) by omega)]
      simp (disch := omega) only [zit_t, w32_i]
      repeat' split
      all_goals first | rfl | (exfalso; omega) | (congr 3; omega)
