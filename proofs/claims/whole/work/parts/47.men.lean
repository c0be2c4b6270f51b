/-! men -/
def leastA (σ st : zH) (s : Int) : Int := if σ 14 s - σ 3 (st 1 s) + 1 < 0 then 0 else σ 14 s - σ 3 (st 1 s) + 1
def fewA (σ st : zH) (s : Int) : Int := if st 1 s = -1 ∨ σ 2 (st 1 s) = -1 then -1 else if 1 < (leastA σ st s + 9) / 10 then (leastA σ st s + 9) / 10 else 1
theorem q_fewest {d : Nat} {σ st : zH} {a s i : Int} {h : zH} (g : CS σ a h) (w : WS σ) (t : CT σ st s h) (wt : WT σ st) (hi : 0 ≤ i ∧ i < nS σ) : m_State_fewestMen (d + 4) s a i h = some (.inl (fewA σ st i), h) := by
  have hs := t.1.low
  have hr := w.2.2.2.2.1 i hi.1 hi.2
  rw [em_State_fewestMen, zpo_t (by omega), q_leastPush g w t wt hi, zqi_s]
  unfold fewA
  by_cases c1 : st 1 i = -1 ∨ σ 2 (st 1 i) = -1
  · rw [if_pos c1, if_pos rfl, if_pos c1]
  · rw [if_neg c1, if_neg c1]
    have hc : 0 ≤ st 1 i ∧ st 1 i < nC σ := by
      rcases (wt.1 i hi.1 hi.2).1 with q | q
      · exact absurd (Or.inl q) c1
      · exact q
    have hD : 0 ≤ σ 3 (st 1 i) ∧ σ 3 (st 1 i) ≤ 999 := by
      have hh := w.2.2.1 _ hc.1 hc.2
      rcases hh.2.2 with q | q
      · omega
      · have := w.2.2.1 _ q.1 q.2.1
        omega
    have eL : (if σ 14 i - σ 3 (st 1 i) + 1 < 0 then 0 else σ 14 i - σ 3 (st 1 i) + 1) = leastA σ st i := rfl
    have hL : 0 ≤ leastA σ st i ∧ leastA σ st i ≤ 10000 := by unfold leastA; split <;> omega
    rw [eL, if_neg (by omega), w32_i (x := leastA σ st i + 10) (by omega), w32_i (x := leastA σ st i + 10 - 1) (by omega), Int.tdiv_eq_ediv_of_nonneg (by omega), w32_i (by omega), q_max, zqi_s, show leastA σ st i + 10 - 1 = leastA σ st i + 9 by omega]
def onL (σ st : zH) (s o : Int) : Prop := st 1 s ≠ -1 ∧ σ 6 (st 1 s) = o
def menF (σ st : zH) (s o m : Int) : Bool := decide ((drv σ st s (10 * m)).1 1 s ≠ -1 ∧ σ 6 ((drv σ st s (10 * m)).1 1 s) = o)
def vMen (σ st : zH) (s o : Int) : Int := if ((0 ≤ s ∧ s < nS σ) ∧ st 1 s ≠ -1) ∧ (0 ≤ o ∧ o < nO σ) then zfs (menF σ st s o) 99 1 else -1
theorem zfs_no {f : Int → Bool} {n : Nat} {i : Int} (h : ∀ j, i ≤ j → j < i + n → f j = false) : zfs f n i = -1 := by
  rcases zfs_spec f n i with ⟨h1, -⟩ | ⟨h1, h2, h3, -⟩
  · exact h1
  · rw [h _ h1 h2] at h3; cases h3
theorem zfs_is {f : Int → Bool} {n : Nat} {i v : Int} (hv : i ≤ v ∧ v < i + n) (hf : f v = true) (h : ∀ j, i ≤ j → j < v → f j = false) : zfs f n i = v := by
  rcases zfs_spec f n i with ⟨-, h2⟩ | ⟨h1, h2, h3, h4⟩
  · rw [h2 v hv.1 hv.2] at hf; cases hf
  · rcases Int.lt_trichotomy (zfs f n i) v with q | q | q
    · rw [h _ h1 q] at h3; cases h3
    · exact q
    · rw [h4 v hv.1 q] at hf; cases hf
theorem q_R_isOn {d : Nat} {σ st h : zH} {v s o : Int} (w : WS σ) (g : RS σ h) (t : RT σ st v h) (wt : WT σ st) (hs : 0 ≤ s ∧ s < nS σ) : m_R_isOn (d + 2) v s o h = some (.inl (if st 1 s ≠ -1 ∧ σ 6 (st 1 s) = o then 1 else 0), h) := by
  have hv := t.1
  have hS10 : nS σ ≤ 10 := w.2.1.2.2.2.1
  rw [em_R_isOn, ixw (by omega) (by omega), if_pos (by omega), (t.2.1 s hs.1 hs.2).1]
  by_cases c1 : st 1 s = -1
  · rw [if_pos c1, if_neg (fun z => z.1 c1)]
  · have hc : 0 ≤ st 1 s ∧ st 1 s < nC σ := by
      rcases (wt.1 s hs.1 hs.2).1 with q | q
      · exact absurd q c1
      · exact q
    rw [if_neg c1, q_R_ownerOf w g hc, zqi_s]
    by_cases c2 : σ 6 (st 1 s) = o
    · rw [if_pos c2, if_pos ⟨c1, c2⟩]
    · rw [if_neg c2, if_neg (fun z => c2 z.2)]
theorem q_R_men20 {d : Nat} {σ st : zH} {s o : Int} (hs : 0 ≤ s ∧ s < nS σ) : ∀ (n : Nat) {m : Int} {h : zH}, RC σ st h → 1 ≤ m → m + n = 100 → zWp (l_R_men_20 (d + 4) s o m h) (fun v h' => v = .inl (zfs (menF σ st s o) n m) ∧ frQR h h') := by
  intro n
  induction n with
  | zero =>
    intro m h c hm hn
    rw [el_R_men_20]
    exact zWp_it (by omega) (zWp_s ⟨rfl, frQR.rf h⟩)
  | succ n ih =>
    intro m h c hm hn
    rw [el_R_men_20]
    refine zWp_nt (by omega) ?_
    obtain ⟨v, h1, e1, k1, k2⟩ := q_copiesT (d := d + 3) (t := 1) (f := 0) (h := h) (by decide) (by decide) (by decide)
    obtain ⟨v6, h2, e2, u1, u2, u3, u4⟩ := q_R_forgets (d := d + 3) (h := h1)
    have f2 : frQR h h2 := (k1.q (by decide) k2).t (frQR.fg u3 u4)
    have r2 : RTry σ st 1 h2 := ⟨c.1.q f2, (k1.t c.2.2.1 (by decide) c.2.1).fr (fun r a b => u3 r (by omega)), u1, u2⟩
    refine zWp_qv e1 (zWp_qv e2 ?_)
    rw [w32_i (x := 10 * m) (by omega), w32_i (x := m + 1) (by omega)]
    obtain ⟨x, h3, e3, rfl, s1, s2, s3, -, -⟩ := q_R_dr1 (d := d) c.2.2.1 c.2.2.2 (by decide) r2 hs (show 0 ≤ 10 * m ∧ 10 * m ≤ 2000000 by omega)
    have f3 : frQR h h3 := f2.t (s3.q (by decide))
    have wtD := (drv_ok (p := 10 * m) c.2.2.1 c.2.2.2 hs).1
    refine zWp_qi e3 (zWp_qi (q_R_isOn c.2.2.1 s2 s1 wtD hs) ?_)
    by_cases z : (drv σ st s (10 * m)).1 1 s ≠ -1 ∧ σ 6 ((drv σ st s (10 * m)).1 1 s) = o
    · rw [if_pos z, zfs_t (show menF σ st s o m = true from decide_eq_true z)]
      exact zWp_nt (by decide) (zWp_s ⟨rfl, f3⟩)
    · rw [if_neg z, zfs_f (show menF σ st s o m = false from decide_eq_false z)]
      refine zWp_it rfl (zWp_m (ih (c.q f3) (by omega) (by omega)) ?_)
      rintro v h' ⟨w1, w2⟩
      exact ⟨w1, f3.t w2⟩
theorem q_R_men {d : Nat} {σ st h : zH} {s o : Int} (c : RC σ st h) : zWp (m_R_men (d + 5) s o h) (fun v h' => v = .inl (vMen σ st s o) ∧ frQR h h') := by
  rw [em_R_men]
  refine zWp_qi (q_R_isThere c) ?_
  by_cases c1 : (0 ≤ s ∧ s < nS σ) ∧ st 1 s ≠ -1
  · rw [if_pos c1]
    refine zWp_nt (by decide) (zWp_qi (q_R_isOwner c.1) ?_)
    by_cases c2 : 0 ≤ o ∧ o < nO σ
    · have ev : vMen σ st s o = zfs (menF σ st s o) 99 1 := by unfold vMen; exact if_pos ⟨c1, c2⟩
      rw [if_pos c2, ev]
      exact zWp_nt (by decide) (q_R_men20 (d := d) c1.1 99 c (by decide) (by decide))
    · have ev : vMen σ st s o = -1 := by unfold vMen; exact if_neg (fun z => c2 z.2)
      rw [if_neg c2, ev]
      exact zWp_it rfl (zWp_s ⟨rfl, frQR.rf h⟩)
  · have ev : vMen σ st s o = -1 := by unfold vMen; exact if_neg (fun z => c1 z.1)
    rw [if_neg c1, ev]
    exact zWp_it rfl (zWp_s ⟨rfl, frQR.rf h⟩)
/-- by fewer men it stays -/
theorem drv_stay {σ st : zH} {s p : Int} (h : ¬ (st 1 s ≠ -1 ∧ σ 2 (st 1 s) ≠ -1 ∧ σ 14 s < p + σ 3 (st 1 s))) : drv σ st s p = (st, []) := by
  unfold drv; rw [if_neg h]; unfold drvB; rw [if_pos rfl]
theorem drv_go {σ st : zH} {s p : Int} (h : st 1 s ≠ -1 ∧ σ 2 (st 1 s) ≠ -1 ∧ σ 14 s < p + σ 3 (st 1 s)) : drv σ st s p = drvB σ 10 st s := by
  unfold drv; rw [if_pos h]
theorem few_iff {σ st : zH} (w : WS σ) {s m : Int} (hs : 0 ≤ s ∧ s < nS σ) (hl : st 1 s ≠ -1) (hn : ¬ σ 2 (st 1 s) = -1) (hm : 1 ≤ m) : (st 1 s ≠ -1 ∧ σ 2 (st 1 s) ≠ -1 ∧ σ 14 s < 10 * m + σ 3 (st 1 s)) ↔ fewA σ st s ≤ m := by
  have e : fewA σ st s = if 1 < (leastA σ st s + 9) / 10 then (leastA σ st s + 9) / 10 else 1 := by unfold fewA; rw [if_neg (fun z => by rcases z with z | z; exact hl z; exact hn z)]
  have hL : (leastA σ st s = 0 ∧ σ 14 s - σ 3 (st 1 s) + 1 < 0) ∨ (leastA σ st s = σ 14 s - σ 3 (st 1 s) + 1 ∧ 0 ≤ leastA σ st s) := by
    unfold leastA
    split
    · exact Or.inl ⟨rfl, by assumption⟩
    · exact Or.inr ⟨rfl, by omega⟩
  rw [e]
  constructor
  · rintro ⟨-, -, z⟩
    split
    · rcases hL with q | q <;> omega
    · exact hm
  · intro z
    refine ⟨hl, hn, ?_⟩
    split at z
    · rcases hL with q | q <;> omega
    · rcases hL with q | q <;> omega
theorem q_men58 {d : Nat} {σ st : zH} {a s o f : Int} {h : zH} (b : BC σ st a h) (hs : 0 ≤ s ∧ s < nS σ) (ho : 0 ≤ o) : zWp (l_B_men_58 (d + 6) s o f h) (fun v h' => v = .inl (if (1 ≤ f ∧ f ≤ 99) ∧ ((drv σ st s (10 * f)).1 1 s ≠ -1 ∧ σ 6 ((drv σ st s (10 * f)).1 1 s) = o) then f else -1) ∧ frQ h h') := by
  have ha := b.2.1.a
  have hS10 : nS σ ≤ 10 := b.2.2.2.1.2.1.2.2.2.1
  rw [el_B_men_58]
  refine zWp_qi q_between ?_
  by_cases c1 : 1 ≤ f ∧ f ≤ 99
  · rw [if_pos c1, w32_i (x := 10 * f) (by omega)]
    obtain ⟨v, h3, e3, k1, k2⟩ := q_tryPush (d := d) b hs (show 0 ≤ 10 * f ∧ 10 * f ≤ 2000000 by omega)
    refine zWp_nt (by decide) (zWp_qv e3 (zWp_it (by omega) ?_))
    have b3 := b.q k2
    have ep : h3 76 s = (drv σ st s (10 * f)).1 1 s := k1.2.1.pl (by omega)
    rw [b3.1, ep]
    refine zWp_po (by omega) (zWp_qi (q_ownerOf b3.2.1 b3.2.2.2.1) ?_)
    have hpl := (k1.2.2.1.1 s hs.1 hs.2).1
    by_cases z : (drv σ st s (10 * f)).1 1 s ≠ -1 ∧ σ 6 ((drv σ st s (10 * f)).1 1 s) = o
    · have hc : 0 ≤ (drv σ st s (10 * f)).1 1 s ∧ (drv σ st s (10 * f)).1 1 s < nC σ := by
        rcases hpl with q | q
        · exact absurd q z.1
        · exact q
      rw [if_pos hc]
      exact zWp_it z.2 (zWp_s ⟨by rw [if_pos ⟨c1, z⟩], k2⟩)
    · refine zWp_nt ?_ (zWp_s ⟨by rw [if_neg (fun y => z y.2)], k2⟩)
      split
      · rename_i y
        exact fun q => z ⟨by omega, q⟩
      · omega
  · rw [if_neg c1]
    exact zWp_it rfl (zWp_s ⟨by rw [if_neg (fun y => c1 y.1)], frQ.rf h⟩)
theorem men_eq {σ st : zH} (w : WS σ) {s o : Int} (hs : 0 ≤ s ∧ s < nS σ) (hl : st 1 s ≠ -1) : zfs (menF σ st s o) 99 1 = (if ¬ fewA σ st s = 1 ∧ σ 6 (st 1 s) = o then 1 else if (1 ≤ fewA σ st s ∧ fewA σ st s ≤ 99) ∧ ((drv σ st s (10 * fewA σ st s)).1 1 s ≠ -1 ∧ σ 6 ((drv σ st s (10 * fewA σ st s)).1 1 s) = o) then fewA σ st s else -1) := by
  have stay : ∀ m, ¬ (st 1 s ≠ -1 ∧ σ 2 (st 1 s) ≠ -1 ∧ σ 14 s < 10 * m + σ 3 (st 1 s)) → menF σ st s o m = decide (σ 6 (st 1 s) = o) := fun m hm => by
    unfold menF; rw [drv_stay hm]; simp [hl]
  by_cases hn : σ 2 (st 1 s) = -1
  · have ef : fewA σ st s = -1 := by unfold fewA; rw [if_pos (Or.inr hn)]
    have st' : ∀ m, menF σ st s o m = decide (σ 6 (st 1 s) = o) := fun m => stay m (fun z => z.2.1 hn)
    rw [ef]
    by_cases c : σ 6 (st 1 s) = o
    · rw [if_pos ⟨by decide, c⟩]
      exact zfs_is (by decide) (by rw [st']; exact decide_eq_true c) (fun j h1 h2 => by omega)
    · rw [if_neg (fun z => c z.2), if_neg (fun z => absurd z.1.1 (by decide))]
      exact zfs_no (fun j _ _ => by rw [st']; exact decide_eq_false c)
  · have iff := fun m hm => few_iff (m := m) w hs hl hn hm
    have hf1 : 1 ≤ fewA σ st s := by
      unfold fewA
      rw [if_neg (fun z => by rcases z with z | z; exact hl z; exact hn z)]
      split <;> omega
    obtain ⟨F, eF⟩ : ∃ F, fewA σ st s = F := ⟨_, rfl⟩
    rw [eF] at iff hf1 ⊢
    have go : ∀ m, F ≤ m → 1 ≤ m → menF σ st s o m = menF σ st s o F := fun m h1 h2 => by
      unfold menF; rw [drv_go ((iff m h2).mpr h1), drv_go ((iff F hf1).mpr (Int.le_refl _))]
    have low : ∀ m, 1 ≤ m → m < F → menF σ st s o m = decide (σ 6 (st 1 s) = o) := fun m h1 h2 => stay m (fun z => by have := (iff m h1).mp z; omega)
    by_cases c1 : F = 1
    · rw [if_neg (fun z => z.1 c1)]
      by_cases c2 : menF σ st s o F = true
      · rw [if_pos ⟨by omega, of_decide_eq_true c2⟩, c1]
        exact zfs_is (by decide) (by rw [← c1]; exact c2) (fun j h1 h2 => by omega)
      · rw [if_neg (fun z => c2 (decide_eq_true z.2))]
        exact zfs_no (fun j h1 h2 => by rw [go j (by omega) h1]; cases hq : menF σ st s o F; rfl; exact absurd hq c2)
    · by_cases c3 : σ 6 (st 1 s) = o
      · rw [if_pos ⟨c1, c3⟩]
        exact zfs_is (by decide) (by rw [low 1 (by decide) (by omega)]; exact decide_eq_true c3) (fun j h1 h2 => by omega)
      · rw [if_neg (fun z => c3 z.2)]
        by_cases c2 : menF σ st s o F = true
        · by_cases c4 : F ≤ 99
          · rw [if_pos ⟨⟨hf1, c4⟩, of_decide_eq_true c2⟩]
            exact zfs_is ⟨hf1, by omega⟩ c2 (fun j h1 h2 => by rw [low j h1 h2]; exact decide_eq_false c3)
          · rw [if_neg (fun z => c4 z.1.2)]
            exact zfs_no (fun j h1 h2 => by rw [low j h1 (by omega)]; exact decide_eq_false c3)
        · rw [if_neg (fun z => c2 (decide_eq_true z.2))]
          refine zfs_no (fun j h1 h2 => ?_)
          by_cases c5 : j < F
          · rw [low j h1 c5]; exact decide_eq_false c3
          · rw [go j (by omega) h1]; cases hq : menF σ st s o F; rfl; exact absurd hq c2
theorem q_men {d : Nat} {σ st : zH} {a s o : Int} {h : zH} (b : BC σ st a h) : zWp (m_B_men (d + 7) s o h) (fun v h' => v = .inl (vMen σ st s o) ∧ frQ h h') := by
  have ha := b.2.1.a
  have hS10 : nS σ ≤ 10 := b.2.2.2.1.2.1.2.2.2.1
  rw [em_B_men]
  refine zWp_qi (q_stoneLies b) ?_
  by_cases c1 : (0 ≤ s ∧ s < nS σ) ∧ st 1 s ≠ -1
  · rw [if_pos c1]
    refine zWp_nt (by decide) (zWp_qi (q_hasOwner b) ?_)
    by_cases c2 : 0 ≤ o ∧ o < nO σ
    · have ev : vMen σ st s o = zfs (menF σ st s o) 99 1 := by unfold vMen; exact if_pos ⟨c1, c2⟩
      rw [if_pos c2, ev, men_eq b.2.2.2.1 c1.1 c1.2, b.1]
      refine zWp_nt (by decide) (zWp_qi (q_fewest b.2.1 b.2.2.2.1 b.2.2.1 b.2.2.2.2 c1.1) ?_)
      have ep : h 68 s = st 1 s := b.2.2.1.pl (by omega)
      have hc : 0 ≤ st 1 s ∧ st 1 s < nC σ := by
        rcases (b.2.2.2.2.1 s c1.1.1 c1.1.2).1 with q | q
        · exact absurd q c1.2
        · exact q
      by_cases c3 : fewA σ st s = 1
      · refine zWp_it c3 (zWp_m (q_men58 (d := d) b c1.1 c2.1) ?_)
        rintro v h' ⟨u1, u2⟩
        exact ⟨by rw [u1, if_neg (fun z : ¬ fewA σ st s = 1 ∧ _ => z.1 c3)], u2⟩
      · rw [b.1, ep]
        refine zWp_nt c3 (zWp_it (by omega) (zWp_po (by omega) (zWp_qi (q_ownerOf b.2.1 b.2.2.2.1) ?_)))
        rw [if_pos hc]
        by_cases c4 : σ 6 (st 1 s) = o
        · exact zWp_it c4 (zWp_s ⟨by rw [if_pos ⟨c3, c4⟩], frQ.rf h⟩)
        · refine zWp_nt c4 (zWp_m (q_men58 (d := d) b c1.1 c2.1) ?_)
          rintro v h' ⟨u1, u2⟩
          exact ⟨by rw [u1, if_neg (fun z : ¬ fewA σ st s = 1 ∧ σ 6 (st 1 s) = o => c4 z.2)], u2⟩
    · have ev : vMen σ st s o = -1 := by unfold vMen; exact if_neg (fun z => c2 z.2)
      rw [if_neg c2, ev]
      exact zWp_it rfl (zWp_s ⟨rfl, frQ.rf h⟩)
  · have ev : vMen σ st s o = -1 := by unfold vMen; exact if_neg (fun z => c1 z.1)
    rw [if_neg c1, ev]
    exact zWp_it rfl (zWp_s ⟨rfl, frQ.rf h⟩)
