/-! names, owners, free cells, in the class; steps for statements -/
theorem b_nb {d : Nat} {A : List zTk} {b : Int} {σ : zH} {s : zRd} {h : zH} {lo hi : Int} {f : Int → zH → zR} {Q : zV → zH → Prop} (ok : AOk A) (c : PC A b σ s h) (k : ∀ h', PC A b σ (nbS A lo hi s).2 h' → frP b h h' → zWp (f (nbS A lo hi s).1 h') Q) : zWp (zqi (m_Tokens_needNumber (d + 2) 5 lo hi h) f) Q :=
  zWp_bi (P := fun x h' => x = (nbS A lo hi s).1 ∧ TC A (nbS A lo hi s).2 h' ∧ frA h h') (zWp_m (q_ndNb (d := d) ok c.1) (fun v h' u => ⟨_, u.1, rfl, u.2⟩)) (fun x h1 u => by rw [u.1]; exact k h1 (c.fA u.2.1 u.2.2) (u.2.2.p b))
theorem b_ow {d : Nat} {A : List zTk} {b : Int} {σ : zH} {s : zRd} {h : zH} {x : Int} {f : zH → zR} {Q : zV → zH → Prop} (ok : AOk A) (c : PC A b σ s h) (k : ∀ h', PC A b σ (ndS A 2 x s) h' → frP b h h' → zWp (f h') Q) : zWp (zqv (m_Tokens_needOwn (d + 2) 5 x h) f) Q :=
  zWp_bv (q_ndOw (d := d) ok c.1) (fun _ h1 u => k h1 (c.fA u.1 u.2) (u.2.p b))
theorem b_sg {d : Nat} {A : List zTk} {b : Int} {σ : zH} {s : zRd} {h : zH} {x : Int} {f : zH → zR} {Q : zV → zH → Prop} (ok : AOk A) (c : PC A b σ s h) (k : ∀ h', PC A b σ (ndS A 4 x s) h' → frP b h h' → zWp (f h') Q) : zWp (zqv (m_Tokens_needSign (d + 2) 5 x h) f) Q :=
  zWp_bv (q_ndSg (d := d) ok c.1) (fun _ h1 u => k h1 (c.fA u.1 u.2) (u.2.p b))
theorem b_fl {d : Nat} {A : List zTk} {b : Int} {σ : zH} {s : zRd} {h : zH} {w p : Int} {f : zH → zR} {Q : zV → zH → Prop} (c : PC A b σ s h) (hw : w ≠ 0) (k : ∀ h', PC A b σ (flS w p s) h' → frP b h h' → zWp (f h') Q) : zWp (zqv (m_Tokens_fail (d + 1) 5 w p h) f) Q :=
  zWp_bv (q_fail (d := d) c.1 hw) (fun _ h1 u => k h1 (c.fA u.1 u.2) (u.2.p b))
theorem b_cl {d : Nat} {A : List zTk} {b : Int} {σ : zH} {s : zRd} {h : zH} {lx ly : Int} {f : Int → zH → zR} {Q : zV → zH → Prop} (ok : AOk A) (w : WB σ) (c : PC A b σ s h) (l : 0 ≤ lx ∧ 0 ≤ ly) (k : ∀ h', PC A b σ (celS A σ lx ly s).2 h' → frP b h h' → zWp (f (celS A σ lx ly s).1 h') Q) : zWp (zqi (m_SlopeReader_needCell (d + 3) 4 lx ly h) f) Q :=
  zWp_bi (P := fun x h' => x = (celS A σ lx ly s).1 ∧ PC A b σ (celS A σ lx ly s).2 h' ∧ frA h h') (zWp_m (q_ndCl (d := d) ok w c l) (fun v h' u => ⟨_, u.1, rfl, u.2⟩)) (fun x h1 u => by rw [u.1]; exact k h1 u.2.1 (u.2.2.p b))
theorem nm_ok {A : List zTk} {s : zRd} (h : (nmS A s).2.2.1 = 0) : s.2.1 = 0 ∧ (tkI A s.1).1 = 1 ∧ nmS A s = ((tkI A s.1).2.2.1, (s.1 + 1, s.2)) := by
  by_cases c1 : kdS A s = 1
  · have f := kd_0 c1 (by decide)
    refine ⟨f.1, f.2, ?_⟩
    unfold nmS advS
    rw [if_pos c1, if_pos f.1]
  · have e : nmS A s = (-1, flS 1 (unf (tkI A s.1)) s) := by unfold nmS; rw [if_neg c1]
    rw [e] at h
    unfold flS at h
    by_cases c : s.2.1 = 0
    · rw [if_pos c] at h; exact absurd h (show ¬ (1 : Int) = 0 by decide)
    · rw [if_neg c] at h; exact absurd h c
theorem fl_tk {A : List zTk} {u : zRd} {h : zH} {k : Int} {i : Nat} (t : TC A u h) (hi : u.2.1 = 0 → u.1 = i + 1) : flS k (h 5 10) u = flS k (tkI A i).2.1 u := by
  refine flS_p (fun f => ?_)
  have e := hi f
  have := (t.2.2 f).2.2.2.2 (by omega)
  rw [this, e]
  rfl
/-- a name that none bears yet -/
def twS (σ : zH) (p : Int) (k : Int) (i : Int) (u : zRd) : zRd := if fndA σ i p = -1 then u else flS 2 k u
def newS (A : List zTk) (σ : zH) (s : zRd) : Int × zRd := ((nmS A s).1, twS σ (nmS A s).1 (tkI A s.1).2.1 2 (twS σ (nmS A s).1 (tkI A s.1).2.1 1 (twS σ (nmS A s).1 (tkI A s.1).2.1 0 (nmS A s).2)))
theorem tw_0 {σ : zH} {p k i : Int} {u : zRd} (h : (twS σ p k i u).2.1 = 0) : twS σ p k i u = u := by
  unfold twS at h ⊢
  by_cases c : fndA σ i p = -1
  · rw [if_pos c]
  · rw [if_neg c] at h ⊢
    unfold flS at h ⊢
    by_cases c2 : u.2.1 = 0
    · rw [if_pos c2] at h; exact absurd h (show ¬ (2 : Int) = 0 by decide)
    · rw [if_neg c2]
theorem q_tw {d : Nat} {A : List zTk} {b : Int} {σ : zH} {u : zRd} {h : zH} {p i : Int} {j : Nat} {Q : zV → zH → Prop} (w : WB σ) (c : PC A b σ u h) (hi : 0 ≤ i ∧ i < 3) (hj : u.2.1 = 0 → u.1 = j + 1) (k : ∀ h', PC A b σ (twS σ p (tkI A j).2.1 i u) h' → frP b h h' → zWp (l_SlopeReader_needNewName_10 (d + 2) 4 p (i + 1) h') Q) : zWp (l_SlopeReader_needNewName_10 (d + 2) 4 p i h) Q := by
  have ha := c.a
  rw [el_SlopeReader_needNewName_10, c.2.2.1, w32_i (x := i + 1) (by omega)]
  refine zWp_it hi.2 (zWp_po (by decide) (zWp_po (by omega) (zWp_qi (q_find (d := d) w c hi) ?_)))
  unfold twS at k
  by_cases z : fndA σ i p = -1
  · rw [if_pos z] at k
    exact zWp_it z (k h c (frP.rf b h))
  · rw [if_neg z] at k
    refine zWp_nt z (zWp_po (by decide) (zWp_po (by decide) (zWp_po (by decide) (zWp_po (by decide) ?_))))
    rw [show (4 + 1 : Int) = 5 from rfl]
    refine b_fl (d := d + 1) c (by decide) (fun h' c' f' => k h' ?_ f')
    rw [← fl_tk c.1 hj]
    exact c'
theorem b_nn {d : Nat} {A : List zTk} {b : Int} {σ : zH} {s : zRd} {h : zH} {f : Int → zH → zR} {Q : zV → zH → Prop} (ok : AOk A) (w : WB σ) (c : PC A b σ s h) (k : ∀ h', PC A b σ (newS A σ s).2 h' → frP b h h' → zWp (f (newS A σ s).1 h') Q) : zWp (zqi (m_SlopeReader_needNewName (d + 3) 4 h) f) Q := by
  refine zWp_bi (P := fun x h' => x = (newS A σ s).1 ∧ PC A b σ (newS A σ s).2 h' ∧ frP b h h') ?_ (fun x h1 u => by rw [u.1]; exact k h1 u.2.1 u.2.2)
  rw [em_SlopeReader_needNewName, show (4 + 1 : Int) = 5 from rfl]
  refine zWp_po (by decide) (zWp_po (by decide) (zWp_bi (P := fun x h' => x = (nmS A s).1 ∧ TC A (nmS A s).2 h' ∧ frA h h') (zWp_m (q_ndNm (d := d) ok c.1) (fun v h' u => ⟨_, u.1, rfl, u.2⟩)) (fun x h1 u => ?_)))
  rw [u.1]
  have c1 := c.fA u.2.1 u.2.2
  have j0 : (nmS A s).2.2.1 = 0 → (nmS A s).2.1 = s.1 + 1 := fun z => by rw [(nm_ok z).2.2]
  refine q_tw (j := s.1) w c1 ⟨by decide, by decide⟩ j0 (fun h2 c2 f2 => ?_)
  refine q_tw (i := 1) (j := s.1) w c2 ⟨by decide, by decide⟩ (fun z => by have e := tw_0 z; rw [e] at z ⊢; exact j0 z) (fun h3 c3 f3 => ?_)
  refine q_tw (i := 2) (j := s.1) w c3 ⟨by decide, by decide⟩ (fun z => by have e := tw_0 z; rw [e] at z ⊢; have e2 := tw_0 z; rw [e2] at z ⊢; exact j0 z) (fun h4 c4 f4 => ?_)
  rw [el_SlopeReader_needNewName_10]
  exact zWp_nt (by decide) (zWp_s ⟨_, rfl, rfl, c4, ((u.2.2.p b).t f2).t (f3.t f4)⟩)
/-- an owner who is there -/
def onrS (A : List zTk) (σ : zH) (s : zRd) : Int × zRd := (fndA σ 0 (nmS A s).1, if fndA σ 0 (nmS A s).1 = -1 then flS 3 (tkI A s.1).2.1 (nmS A s).2 else (nmS A s).2)
theorem b_no {d : Nat} {A : List zTk} {b : Int} {σ : zH} {s : zRd} {h : zH} {f : Int → zH → zR} {Q : zV → zH → Prop} (ok : AOk A) (w : WB σ) (c : PC A b σ s h) (k : ∀ h', PC A b σ (onrS A σ s).2 h' → frP b h h' → zWp (f (onrS A σ s).1 h') Q) : zWp (zqi (m_SlopeReader_needOwner (d + 3) 4 h) f) Q := by
  have ha := c.a
  refine zWp_bi (P := fun x h' => x = (onrS A σ s).1 ∧ PC A b σ (onrS A σ s).2 h' ∧ frP b h h') ?_ (fun x h1 u => by rw [u.1]; exact k h1 u.2.1 u.2.2)
  rw [em_SlopeReader_needOwner, show (4 + 1 : Int) = 5 from rfl, c.2.2.1]
  refine zWp_po (by decide) (zWp_po (by decide) (zWp_po (by decide) (zWp_bi (P := fun x h' => x = (nmS A s).1 ∧ TC A (nmS A s).2 h' ∧ frA h h') (zWp_m (q_ndNm (d := d) ok c.1) (fun v h' u => ⟨_, u.1, rfl, u.2⟩)) (fun x h1 u => ?_))))
  rw [u.1]
  have c1 := c.fA u.2.1 u.2.2
  have j0 : (nmS A s).2.2.1 = 0 → (nmS A s).2.1 = s.1 + 1 := fun z => by rw [(nm_ok z).2.2]
  refine zWp_po (by omega) (zWp_qi (q_find (d := d) w c1 ⟨by decide, by decide⟩) ?_)
  unfold onrS
  by_cases z : fndA σ 0 (nmS A s).1 = -1
  · refine zWp_it z (zWp_po (by decide) (zWp_po (by decide) (zWp_po (by decide) (zWp_po (by decide) ?_))))
    refine b_fl (d := d + 1) c1 (by decide) (fun h' c' f' => zWp_s ⟨_, rfl, rfl, ?_, (u.2.2.p b).t f'⟩)
    rw [fl_tk c1.1 j0] at c'
    rw [if_pos z]
    exact c'
  · refine zWp_nt z (zWp_s ⟨_, rfl, rfl, ?_, u.2.2.p b⟩)
    rw [if_neg z]
    exact c1
/-- a cell that is free -/
def freS (A : List zTk) (σ : zH) (s : zRd) : Int × zRd :=
  if (celS A σ 0 0 (ndS A 2 3 s)).1 = -1 then celS A σ 0 0 (ndS A 2 3 s) else if freA σ (celS A σ 0 0 (ndS A 2 3 s)).1 = true then celS A σ 0 0 (ndS A 2 3 s) else (-1, flS 4 (tkI A ((celS A σ 0 0 (ndS A 2 3 s)).2.1 - 1)).2.1 (celS A σ 0 0 (ndS A 2 3 s)).2)
theorem cel_1 {A : List zTk} {σ : zH} {lx ly : Int} {s : zRd} (h : (celS A σ lx ly s).1 ≠ -1) : (celS A σ lx ly s).2.2.1 = 0 := by
  unfold celS at h ⊢
  by_cases z : (nbS A ly (σ 0 1 - 1) (nbS A lx (σ 0 0 - 1) s).2).2.2.1 = 0
  · exact z
  · rw [if_neg z] at h; exact absurd rfl h
theorem b_fc {d : Nat} {A : List zTk} {b : Int} {σ : zH} {s : zRd} {h : zH} {f : Int → zH → zR} {Q : zV → zH → Prop} (ok : AOk A) (w : WB σ) (c : PC A b σ s h) (k : ∀ h', PC A b σ (freS A σ s).2 h' → frP b h h' → zWp (f (freS A σ s).1 h') Q) : zWp (zqi (m_SlopeReader_needFreeCell (d + 4) 4 h) f) Q := by
  have ha := c.a
  have w1 := w.1
  refine zWp_bi (P := fun x h' => x = (freS A σ s).1 ∧ PC A b σ (freS A σ s).2 h' ∧ frP b h h') ?_ (fun x h1 u => by rw [u.1]; exact k h1 u.2.1 u.2.2)
  rw [em_SlopeReader_needFreeCell, show (4 + 1 : Int) = 5 from rfl]
  refine zWp_po (by decide) (zWp_po (by decide) (b_ow ok c (fun h1 c1 f1 => zWp_po (by decide) (b_cl ok w c1 ⟨by decide, by decide⟩ (fun h2 c2 f2 => ?_)))))
  unfold freS
  by_cases z : (celS A σ 0 0 (ndS A 2 3 s)).1 = -1
  · rw [if_pos (c := (celS A σ 0 0 (ndS A 2 3 s)).1 = -1) (t := celS A σ 0 0 (ndS A 2 3 s)) z]
    exact zWp_it z (zWp_s ⟨_, rfl, rfl, c2, f1.t f2⟩)
  rw [if_neg (c := (celS A σ 0 0 (ndS A 2 3 s)).1 = -1) (t := celS A σ 0 0 (ndS A 2 3 s)) z]
  obtain ⟨_, x, y, x1, x2, y1, y2, e, p1, p2, p3⟩ := cel_ok (A := A) (s := ndS A 2 3 s) w ⟨by decide, by decide⟩ (cel_1 z)
  have pe : (celS A σ 0 0 (ndS A 2 3 s)).1 = y * σ 0 0 + x := by rw [e]
  rw [c2.2.2.1]
  refine zWp_nt z (zWp_po (by decide) (zWp_po (by omega) (zWp_qi (q_isFree (d := d + 2) w c2 ⟨by rw [pe]; exact p1, by rw [pe]; omega⟩) ?_)))
  by_cases t : freA σ (celS A σ 0 0 (ndS A 2 3 s)).1 = true
  · rw [if_pos t, if_pos t]
    exact zWp_nt (by decide) (zWp_s ⟨_, rfl, rfl, c2, f1.t f2⟩)
  · rw [if_neg t, if_neg t]
    refine zWp_it rfl (zWp_po (by decide) (zWp_po (by decide) (zWp_po (by decide) (zWp_po (by decide) ?_))))
    refine b_fl (d := d + 2) c2 (by decide) (fun h3 c3 f3 => zWp_s ⟨_, rfl, rfl, ?_, (f1.t f2).t f3⟩)
    rw [fl_tk (i := (celS A σ 0 0 (ndS A 2 3 s)).2.1 - 1) c2.1 (fun _ => by rw [e]; rfl)] at c3
    exact c3
