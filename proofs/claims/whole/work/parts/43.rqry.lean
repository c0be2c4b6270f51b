/-! the reference: what would be -/
def RC (σ st h : zH) : Prop := RS σ h ∧ RT σ st 0 h ∧ WS σ ∧ WT σ st
def frQR (h h' : zH) : Prop :=
  (∀ r, ¬ (r = 403 ∨ 444 ≤ r ∧ r ≤ 450 ∨ r = 456) → h' r = h r) ∧ (∀ q, ¬ (q = 73 ∨ q = 74 ∨ q = 75 ∨ q = 76 ∨ q = 77 ∨ q = 79 ∨ q = 80) → h' 403 q = h 403 q) ∧
  (∀ i, ¬ (10 ≤ i ∧ i < 50) → h' 444 i = h 444 i ∧ h' 445 i = h 445 i ∧ h' 446 i = h 446 i) ∧ (∀ i, ¬ (8 ≤ i ∧ i < 40) → h' 447 i = h 447 i) ∧ (∀ i, ¬ (60 ≤ i ∧ i < 300) → h' 448 i = h 448 i ∧ h' 449 i = h 449 i ∧ h' 450 i = h 450 i)
theorem frQR.rf (h : zH) : frQR h h := ⟨fun _ _ => rfl, fun _ _ => rfl, fun _ _ => ⟨rfl, rfl, rfl⟩, fun _ _ => rfl, fun _ _ => ⟨rfl, rfl, rfl⟩⟩
theorem frQR.t {a b c : zH} (h1 : frQR a b) (h2 : frQR b c) : frQR a c :=
  ⟨fun r x => (h2.1 r x).trans (h1.1 r x), fun q x => (h2.2.1 q x).trans (h1.2.1 q x), fun i x => ⟨(h2.2.2.1 i x).1.trans (h1.2.2.1 i x).1, (h2.2.2.1 i x).2.1.trans (h1.2.2.1 i x).2.1, (h2.2.2.1 i x).2.2.trans (h1.2.2.1 i x).2.2⟩, fun i x => (h2.2.2.2.1 i x).trans (h1.2.2.2.1 i x), fun i x => ⟨(h2.2.2.2.2 i x).1.trans (h1.2.2.2.2 i x).1, (h2.2.2.2.2 i x).2.1.trans (h1.2.2.2.2 i x).2.1, (h2.2.2.2.2 i x).2.2.trans (h1.2.2.2.2 i x).2.2⟩⟩
theorem frR.q {v : Int} {h h' : zH} (hv : 1 ≤ v ∧ v ≤ 4) (f : frR v h h') : frQR h h' := by
  refine ⟨fun r x => f.1 r (by omega) (by omega), f.2.1, fun i x => f.2.2.1 i (by omega), fun i x => f.2.2.2.1 i (by omega), fun i x => ⟨f.2.2.2.2 i (by omega), ?_, ?_⟩⟩
  · rw [f.1 449 (by decide) (by omega)]
  · rw [f.1 450 (by decide) (by omega)]
theorem CpA.q {t f : Int} {h h' : zH} (ht : 1 ≤ t ∧ t < 5) (c : CpA h h' t f) (o : ∀ r, ¬ (444 ≤ r ∧ r ≤ 450) → h' r = h r) : frQR h h' := by
  obtain ⟨c1, c2, c3, c4, c5, c6, c7⟩ := c
  refine ⟨fun r x => o r (by omega), fun q x => by rw [o 403 (by decide)], fun i x => ⟨?_, ?_, ?_⟩, fun i x => ?_, fun i x => ⟨?_, ?_, ?_⟩⟩
  · rw [c1, zB_o (by omega)]
  · rw [c2, zB_o (by omega)]
  · rw [c3, zB_o (by omega)]
  · rw [c4, zB_o (by omega)]
  · rw [c5, zB_o (by omega)]
  · rw [c6, zB_o (by omega)]
  · rw [c7, zB_o (by omega)]
theorem frQR.fg {h h' : zH} (h1 : ∀ r, ¬ r = 403 → h' r = h r) (h2 : ∀ q, ¬ (q = 73 ∨ q = 74 ∨ q = 75 ∨ q = 76 ∨ q = 77 ∨ q = 79) → h' 403 q = h 403 q) : frQR h h' :=
  ⟨fun r x => h1 r (by omega), fun q x => h2 q (by omega), fun i _ => ⟨by rw [h1 444 (by decide)], by rw [h1 445 (by decide)], by rw [h1 446 (by decide)]⟩, fun i _ => by rw [h1 447 (by decide)], fun i _ => ⟨by rw [h1 448 (by decide)], by rw [h1 449 (by decide)], by rw [h1 450 (by decide)]⟩⟩
theorem RS.q {σ h h' : zH} (g : RS σ h) (f : frQR h h') : RS σ h' := g.fr (f.2.1 12 (by decide)) (fun r h1 h2 => f.1 r (by omega))
theorem RT.q {σ st h h' : zH} (w : WS σ) (t : RT σ st 0 h) (f : frQR h h') : RT σ st 0 h' := by
  have hn := w.n
  have hS10 : nS σ ≤ 10 := w.2.1.2.2.2.1
  have hH8 : nHo σ ≤ 8 := w.2.1.2.2.2.2.2.1
  obtain ⟨t0, t1, t2, t3⟩ := t
  refine ⟨t0, fun i a b => ?_, fun i a b => ?_, fun i a b => ?_⟩
  · have := f.2.2.1 (10 * 0 + i) (by omega)
    rw [this.1, this.2.1, this.2.2]; exact t1 i a b
  · rw [f.2.2.2.1 (8 * 0 + i) (by omega)]; exact t2 i a b
  · have := f.2.2.2.2 (60 * 0 + i) (by omega)
    rw [this.1, this.2.1, this.2.2]; exact t3 i a b
theorem RC.q {σ st h h' : zH} (c : RC σ st h) (f : frQR h h') : RC σ st h' := ⟨c.1.q f, c.2.1.q c.2.2.1 f, c.2.2⟩
theorem q_R_is {d : Nat} {x y z : Int} {h : zH} : m_R_is (d + 1) x y z h = some (.inl (if y ≤ x ∧ x ≤ z then 1 else 0), h) := by
  rw [em_R_is]
  repeat' split
  all_goals first | rfl | (exfalso; omega)
theorem q_R_cells {d : Nat} {σ h : zH} (w : WS σ) (g : RS σ h) : m_R_cells (d + 1) h = some (.inl (nC σ), h) := by
  have hb := g.b
  have hn := w.n
  rw [em_R_cells, if_pos (by omega), if_pos (by omega), g.2.1.1, g.2.1.2]
  unfold nC at hn ⊢
  rw [w32_i (by omega)]
theorem q_R_isCell {d : Nat} {σ h : zH} {c : Int} (w : WS σ) (g : RS σ h) : m_R_isCell (d + 2) c h = some (.inl (if 0 ≤ c ∧ c < nC σ then 1 else 0), h) := by
  rw [em_R_isCell, q_R_cells w g, zqi_s]
  repeat' split
  all_goals first | rfl | (exfalso; omega)
theorem q_R_isStone {d : Nat} {σ h : zH} {c : Int} (g : RS σ h) : m_R_isStone (d + 1) c h = some (.inl (if 0 ≤ c ∧ c < nS σ then 1 else 0), h) := by
  have hb := g.b
  rw [em_R_isStone, g.2.2.2.1.2.1]
  repeat' split
  all_goals first | rfl | (exfalso; omega)
theorem q_R_isHouse {d : Nat} {σ h : zH} {c : Int} (g : RS σ h) : m_R_isHouse (d + 1) c h = some (.inl (if 0 ≤ c ∧ c < nHo σ then 1 else 0), h) := by
  have hb := g.b
  rw [em_R_isHouse, g.2.2.2.1.2.2.1]
  repeat' split
  all_goals first | rfl | (exfalso; omega)
theorem q_R_isOwner {d : Nat} {σ h : zH} {c : Int} (g : RS σ h) : m_R_isOwner (d + 1) c h = some (.inl (if 0 ≤ c ∧ c < nO σ then 1 else 0), h) := by
  have hb := g.b
  rw [em_R_isOwner, g.2.2.2.1.1]
  repeat' split
  all_goals first | rfl | (exfalso; omega)
theorem q_R_isThere {d : Nat} {σ st h : zH} {s : Int} (c : RC σ st h) : m_R_isThere (d + 2) s h = some (.inl (if (0 ≤ s ∧ s < nS σ) ∧ st 1 s ≠ -1 then 1 else 0), h) := by
  have hS10 : nS σ ≤ 10 := c.2.2.1.2.1.2.2.2.1
  rw [em_R_isThere, q_R_isStone c.1, zqi_s]
  by_cases c1 : 0 ≤ s ∧ s < nS σ
  · have e : h 444 s = st 1 s := by
      have := (c.2.1.2.1 s c1.1 c1.2).1
      rwa [show 10 * 0 + s = s by omega] at this
    rw [if_pos c1, if_neg (by decide), if_pos (by omega), e]
    by_cases c2 : st 1 s = -1
    · rw [if_pos c2, if_neg (fun z => z.2 c2)]
    · rw [if_neg c2, if_pos ⟨c1, c2⟩]
  · rw [if_neg c1, if_pos rfl, if_neg (fun z => c1 z.1)]
/-- a copy of f into t, all counts at 0 -/
def RTry (σ st : zH) (t : Int) (h : zH) : Prop := RS σ h ∧ RT σ st t h ∧ RV [] 0 h ∧ RW [] h
theorem q_R_would {d : Nat} {σ st h : zH} {s p : Int} (c : RC σ st h) : zWp (m_R_would (d + 3) s p h) (fun v h' => v = .inl (if ((0 ≤ s ∧ s < nS σ) ∧ st 1 s ≠ -1) ∧ (0 ≤ p ∧ p ≤ 99999) then 1 else 0) ∧ frQR h h' ∧ ((((0 ≤ s ∧ s < nS σ) ∧ st 1 s ≠ -1) ∧ (0 ≤ p ∧ p ≤ 99999)) → RTry σ st 1 h')) := by
  rw [em_R_would]
  refine zWp_qi (q_R_isThere c) ?_
  by_cases c1 : (0 ≤ s ∧ s < nS σ) ∧ st 1 s ≠ -1
  · rw [if_pos c1]
    refine zWp_nt (by decide) (zWp_qi q_R_is ?_)
    by_cases c2 : 0 ≤ p ∧ p ≤ 99999
    · rw [if_pos c2]
      refine zWp_nt (by decide) ?_
      obtain ⟨v, h5, e5, k1, k2⟩ := q_copiesT (d := d + 1) (t := 1) (f := 0) (h := h) (by decide) (by decide) (by decide)
      obtain ⟨v6, h6, e6, u1, u2, u3, u4⟩ := q_R_forgets (d := d + 1) (h := h5)
      have f6 : frQR h h6 := (k1.q (by decide) k2).t (frQR.fg u3 u4)
      refine zWp_qv e5 (zWp_qv e6 (zWp_s ⟨by rw [if_pos ⟨c1, c2⟩], f6, fun _ => ⟨c.1.q f6, ?_, u1, u2⟩⟩))
      exact (k1.t c.2.2.1 (by decide) c.2.1).fr (fun r a b => u3 r (by omega))
    · rw [if_neg c2]
      exact zWp_it rfl (zWp_s ⟨by rw [if_neg (fun z => c2 z.2)], frQR.rf h, fun z => absurd z.2 c2⟩)
  · rw [if_neg c1]
    exact zWp_it rfl (zWp_s ⟨by rw [if_neg (fun z => c1 z.1)], frQR.rf h, fun z => absurd z.1 c1⟩)
abbrev noLw : zLw := fun _ _ _ _ _ => 0
abbrev noDu : zDu := (fun _ => 0, [])
theorem noDR {v : Int} {d : Nat} {h0 h : zH} (hv : 1 ≤ v) : DR v noLw d noDu h0 h := fun z => by omega
/-- a drive over a copy -/
theorem q_R_dr1 {d : Nat} {σ st h : zH} {t s p : Int} (w : WS σ) (wt : WT σ st) (ht : 1 ≤ t ∧ t ≤ 4) (r : RTry σ st t h) (hs : 0 ≤ s ∧ s < nS σ) (hp : 0 ≤ p ∧ p ≤ 2000000) : zWp (m_R_drives (d + 4) t s p h) (fun x h' => x = .inl ((pathT (drv σ st s p).2).length : Int) ∧ RT σ (drv σ st s p).1 t h' ∧ RS σ h' ∧ frR t h h' ∧ RV (trEv σ (drv σ st s p).2) (drv σ st s p).2.length h' ∧ RW (trCells (drv σ st s p).2) h') := by
  refine zWp_m (q_R_drives (d := d) (Λ := noLw) (h0 := h) (Δ := noDu) w r.1 r.2.1 wt hs hp r.2.2.1 r.2.2.2 (by decide) (noDR ht.1)) ?_
  rintro x h' ⟨k1, k2, k3, k4, k5, k6, k7⟩
  rw [List.nil_append, Int.zero_add] at k5
  rw [List.nil_append] at k6
  exact ⟨k1, k2, k3, k4, k5, k6⟩
theorem pathT_cells {tr : zTr} {j : Nat} (hj : j < (pathT tr).length) : (trCells tr)[j]? = some ((pathT tr).getD j 0) := by
  cases tr with
  | nil => cases hj
  | cons x tr =>
    show (pathT (x :: tr) ++ trCells tr)[j]? = _
    rw [List.getElem?_append_left hj]
    exact getD_some hj
theorem q_R_path {d : Nat} {σ st h : zH} {s p k : Int} (c : RC σ st h) : zWp (m_R_path (d + 5) s p k h) (fun v h' => v = .inl (vPath σ st s p k) ∧ frQR h h') := by
  rw [em_R_path]
  obtain ⟨v, h1, e1, rfl, f1, t1⟩ := q_R_would (d := d + 1) (s := s) (p := p) c
  refine zWp_qi e1 ?_
  by_cases c1 : ((0 ≤ s ∧ s < nS σ) ∧ st 1 s ≠ -1) ∧ (0 ≤ p ∧ p ≤ 99999)
  · have ev : vPath σ st s p k = (if k = -1 then ((pathT (drv σ st s p).2).length : Int) else if 0 ≤ k ∧ k < ((pathT (drv σ st s p).2).length : Int) then (pathT (drv σ st s p).2).getD k.toNat 0 else -1) := by unfold vPath; exact if_pos c1
    rw [if_pos c1, ev]
    refine zWp_nt (by decide) ?_
    obtain ⟨x, h3, e3, rfl, u1, u2, u3, u4, u5⟩ := q_R_dr1 (d := d) c.2.2.1 c.2.2.2 (by decide) (t1 c1) c1.1.1 (show 0 ≤ p ∧ p ≤ 2000000 by omega)
    have f3 : frQR h h3 := f1.t (u3.q (by decide))
    have hl := drvB_path (σ := σ) 10 st (if st 1 s ≠ -1 ∧ σ 2 (st 1 s) ≠ -1 ∧ σ 14 s < p + σ 3 (st 1 s) then s else -1)
    have hl2 : ((pathT (drv σ st s p).2).length : Int) ≤ 60 := by unfold drv; omega
    refine zWp_qi e3 (zWp_if (fun z => zWp_s ⟨by rw [if_pos z], f3⟩) (fun z => zWp_qi q_R_is ?_))
    rw [if_neg z, w32_i (by omega)]
    by_cases c3 : 0 ≤ k ∧ k < ((pathT (drv σ st s p).2).length : Int)
    · rw [if_pos c3, if_pos (show 0 ≤ k ∧ k ≤ ((pathT (drv σ st s p).2).length : Int) - 1 by omega)]
      refine zWp_nt (by decide) (zWp_it (by omega) (zWp_s ⟨?_, f3⟩))
      have := u5.2 k.toNat _ (by omega) (pathT_cells (by omega))
      rw [show ((k.toNat : Nat) : Int) = k by omega] at this
      rw [this]
    · rw [if_neg c3, if_neg (show ¬ (0 ≤ k ∧ k ≤ ((pathT (drv σ st s p).2).length : Int) - 1) by omega)]
      exact zWp_it rfl (zWp_s ⟨rfl, f3⟩)
  · have ev : vPath σ st s p k = -1 := by unfold vPath; exact if_neg c1
    rw [if_neg c1, ev]
    exact zWp_it rfl (zWp_s ⟨rfl, f1⟩)
theorem q_R_roll {d : Nat} {σ st h : zH} {s p k : Int} (c : RC σ st h) : zWp (m_R_roll (d + 5) s p k h) (fun v h' => v = .inl (vRoll σ st s p k) ∧ frQR h h') := by
  have hS10 : nS σ ≤ 10 := c.2.2.1.2.1.2.2.2.1
  rw [em_R_roll]
  obtain ⟨v, h1, e1, rfl, f1, t1⟩ := q_R_would (d := d + 1) (s := s) (p := p) c
  refine zWp_qi e1 ?_
  by_cases c1 : ((0 ≤ s ∧ s < nS σ) ∧ st 1 s ≠ -1) ∧ (0 ≤ p ∧ p ≤ 99999)
  · have ev : vRoll σ st s p k = (if k = 0 then (drv σ st s p).1 1 s else if k = 1 then w32 (esum eRu (trEv σ (drv σ st s p).2)) else if k = 2 then w32 (esum eGo (trEv σ (drv σ st s p).2)) else if k = 3 then w32 (drv σ st s p).2.length else if k = 4 then w32 (esum eWo (trEv σ (drv σ st s p).2)) else if k = 5 then etop (trEv σ (drv σ st s p).2) 0 else -1) := by unfold vRoll; exact if_pos c1
    rw [if_pos c1, ev]
    refine zWp_nt (by decide) ?_
    obtain ⟨x, h3, e3, rfl, u1, u2, u3, u4, u5⟩ := q_R_dr1 (d := d) c.2.2.1 c.2.2.2 (by decide) (t1 c1) c1.1.1 (show 0 ≤ p ∧ p ≤ 2000000 by omega)
    have k2 : frQR h h3 := f1.t (u3.q (by decide))
    have ep : h3 444 (10 + s) = (drv σ st s p).1 1 s := (u1.2.1 s c1.1.1.1 c1.1.1.2).1
    obtain ⟨m1, m2, m3, m4, m5⟩ := u4
    refine zWp_qi e3 ?_
    rw [w32_i (x := 10 + s) (by omega), ep, m1, m2, m3, m4, m5]
    refine zWp_if (fun z => zWp_it (by omega) (zWp_s ⟨by rw [if_pos z], k2⟩)) (fun z0 => ?_)
    rw [if_neg z0]
    refine zWp_if (fun z => zWp_s ⟨by rw [if_pos z], k2⟩) (fun z1 => ?_)
    rw [if_neg z1]
    refine zWp_if (fun z => zWp_s ⟨by rw [if_pos z], k2⟩) (fun z2 => ?_)
    rw [if_neg z2]
    refine zWp_if (fun z => zWp_s ⟨by rw [if_pos z], k2⟩) (fun z3 => ?_)
    rw [if_neg z3]
    refine zWp_if (fun z => zWp_s ⟨by rw [if_pos z], k2⟩) (fun z4 => ?_)
    rw [if_neg z4]
    refine zWp_if (fun z => zWp_s ⟨by rw [if_pos z], k2⟩) (fun z5 => ?_)
    rw [if_neg z5]
    exact zWp_s ⟨rfl, k2⟩
  · have ev : vRoll σ st s p k = -1 := by unfold vRoll; exact if_neg c1
    rw [if_neg c1, ev]
    exact zWp_it rfl (zWp_s ⟨rfl, f1⟩)
