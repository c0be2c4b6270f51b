/-! nets: the reference; both alike -/
theorem netS_app {c : Int} : ∀ (P : List Int) (st : zH), netS st (P ++ [c]) = zset (netS st P) 8 c 1
  | [], _ => rfl
  | p :: P, st => netS_app P (zset st 8 p 1)
theorem netS_o {a : Int} (h : ¬ a = 8) (P : List Int) (st : zH) : netS st P a = st a := by rw [netS_8, n8_o h]
theorem netS_n {st : zH} {P : List Int} {c : Int} (h : ¬ c ∈ P) : netS st P 8 c = st 8 c := by
  rw [netS_8, n8_8, if_neg (fun z => h (List.contains_iff_mem.1 z))]
theorem netS_w {σ st : zH} {P : List Int} (wt : WT σ st) : WT σ (netS st P) := by
  rw [netS_8]
  refine ⟨fun i a b => ?_, fun c a b => ?_, fun i a b => ?_⟩
  · rw [n8_o (by decide)]; exact wt.1 i a b
  · rw [n8_o (a := 5) (by decide), n8_o (a := 6) (by decide), n8_o (a := 9) (by decide), n8_8]
    obtain ⟨u1, u2, u3, u4, u5, u6⟩ := wt.2.1 c a b
    refine ⟨u1, u2, u3, u4, ?_, u6⟩
    split
    · exact Or.inr rfl
    · exact u5
  · rw [n8_o (by decide)]; exact wt.2.2 i a b
theorem q_Rsafe2 {d : Nat} {σ st : zH} (w : WS σ) (wt : WT σ st) : ∀ (n : Nat) {t : Int} {h : zH}, RS σ h → RT σ st 1 h → 0 ≤ t → t + n = nT σ → zWp (l_R_isSafe_2 (d + 6) 1 t h) (fun v h' => v = .inl (if allB (fun t => !(hasRu (spr σ (σ 18 t) st).2)) n t = true then 1 else 0) ∧ frQR h h' ∧ ∀ u st', ¬ u = 2 → RT σ st' u h → RT σ st' u h')
  | 0, t, h, g, rt, ht, hh => by
    have hb := g.b
    rw [el_R_isSafe_2, g.2.2.2.1.2.2.2.1]
    exact zWp_it (by omega) (zWp_nt (by omega) (zWp_s ⟨rfl, frQR.rf h, fun _ _ _ r => r⟩))
  | n + 1, t, h, g, rt, ht, hh => by
    have hb := g.b
    have hT6 : nT σ ≤ 6 := w.2.1.2.2.2.2.2.2.2.1
    have hS0 : 0 ≤ nS σ := w.2.1.2.2.1
    rw [el_R_isSafe_2, g.2.2.2.1.2.2.2.1, show w32 (1 + 1) = 2 from rfl, w32_i (x := t + 1) (by omega)]
    refine zWp_it (by omega) (zWp_it (by omega) (zWp_bv (q_R_thaws (d := d) (t := 2) (f := 1) w g rt wt (by omega) (by decide) (by decide) (by decide)) (fun _ h1 u => ?_)))
    obtain ⟨sp, f1, o1⟩ := u
    have ru := ru_tr (σ := σ) (spr σ (σ 18 t) st).2
    have rl := rem_le (st := st) w
    have ru2 : trsum r23 (spr σ (σ 18 t) st).2 + rem σ (spr σ (σ 18 t) st).1 ≤ rem σ st := (sprF_ok w (p := σ 18 t) (b := false) (nS σ).toNat (i := 0) (st := st) wt (Int.le_refl _) (by omega)).2.1
    have rp := (rem_le (st := (spr σ (σ 18 t) st).1) w).1
    rw [sp.2.2.1.2.1, w32_i (x := esum eRu (trEv σ (spr σ (σ 18 t) st).2)) (by omega)]
    show zWp _ (fun v h' => v = .inl (if (!(hasRu (spr σ (σ 18 t) st).2) && allB (fun t => !(hasRu (spr σ (σ 18 t) st).2)) n (t + 1)) = true then 1 else 0) ∧ frQR h h' ∧ ∀ u st', ¬ u = 2 → RT σ st' u h → RT σ st' u h')
    cases hr : hasRu (spr σ (σ 18 t) st).2 with
    | true => exact zWp_it (ru.2.2.2 hr) (zWp_s ⟨rfl, f1, o1⟩)
    | false =>
      refine zWp_nt (fun z => by rw [ru.2.2.1 z] at hr; cases hr) (zWp_m (q_Rsafe2 w wt n (g.q f1) (o1 1 st (by decide) rt) (by omega) (by omega)) (fun v h' u => ⟨?_, f1.t u.2.1, fun u' st' hu r => u.2.2 u' st' hu (o1 u' st' hu r)⟩))
      rw [u.1]
      rfl
theorem q_Rsafe {d : Nat} {σ st : zH} {h : zH} (w : WS σ) (wt : WT σ st) (g : RS σ h) (rt : RT σ st 1 h) : zWp (m_R_isSafe (d + 7) 1 h) (fun v h' => v = .inl (if safeA σ st = true then 1 else 0) ∧ frQR h h' ∧ ∀ u st', ¬ u = 2 → RT σ st' u h → RT σ st' u h') := by
  have hT0 : 0 ≤ nT σ := w.2.1.2.2.2.2.2.2.1
  rw [em_R_isSafe]
  exact q_Rsafe2 w wt (nT σ).toNat g rt (Int.le_refl _) (by omega)
theorem q_Rmay {d : Nat} {σ st : zH} {c : Int} {h : zH} (b : RC σ st h) (hc : 0 ≤ c ∧ c < nC σ) : m_R_mayNet (d + 4) c h = some (.inl (if mayN σ st c = true then 1 else 0), h) := by
  have hn := b.2.2.1.n
  have e8 := (b.2.1.2.2.2 c hc.1 hc.2).2.2
  rw [show 60 * 0 + c = c by omega] at e8
  rw [em_R_mayNet, q_R_isFree b hc, zqi_s, e8]
  by_cases c1 : sAt σ st c = -1 ∧ ¬ (σ 7 c ≠ -1 ∧ st 9 (σ 7 c) ≠ 1) ∧ st 5 c = 0
  · rw [if_pos c1, zit_f (by decide), zit_t (by omega)]
    by_cases c2 : st 8 c = 0
    · rw [zit_t c2, if_pos (show mayN σ st c = true from decide_eq_true ⟨c1.1, c1.2.1, c1.2.2, c2⟩)]
    · rw [zit_f c2, if_neg (fun z => by have := of_decide_eq_true z; exact c2 this.2.2.2)]
  · rw [if_neg c1, zit_t rfl, if_neg (fun z => by have := of_decide_eq_true z; exact c1 ⟨this.1, this.2.1, this.2.2.1⟩)]
/-- the reference while it looks for nets: P are laid -/
def RN (σ st : zH) (m : Int) (P : List Int) (h : zH) : Prop := RC σ st h ∧ RT σ (netS st P) 1 h ∧ h 403 89 = m ∧ ∀ (j : Nat) (y : Int), P[j]? = some y → h 462 (j : Int) = y
theorem RC.xx {σ st h h' : zH} (c : RC σ st h) (f : frX h h') : RC σ st h' := by
  have w := c.2.2.1
  have hn := w.n
  have hS10 : nS σ ≤ 10 := w.2.1.2.2.2.1
  have hH8 : nHo σ ≤ 8 := w.2.1.2.2.2.2.2.1
  obtain ⟨g, ⟨t0, t1, t2, t3⟩, w2⟩ := c
  refine ⟨g.fr (f.2.1 12 (by decide)) (fun r a b => f.1 r (by omega)), ⟨t0, fun i a b => ?_, fun i a b => ?_, fun i a b => ?_⟩, w2⟩
  · have := f.2.2.1 (10 * 0 + i) (by omega)
    rw [this.1, this.2.1, this.2.2]; exact t1 i a b
  · rw [f.2.2.2.1 (8 * 0 + i) (by omega)]; exact t2 i a b
  · have := f.2.2.2.2 (60 * 0 + i) (by omega)
    rw [this.1, this.2.1, this.2.2]; exact t3 i a b
theorem RT.n8 {σ st h h' : zH} {c x : Int} (hc : 0 ≤ c ∧ c < nC σ) (t : RT σ st 1 h) (e : h' = zset h 450 (60 + c) x) : RT σ (zset st 8 c x) 1 h' := by
  obtain ⟨t0, t1, t2, t3⟩ := t
  rw [e]
  refine ⟨t0, fun i a b => ?_, fun i a b => ?_, fun i a b => ?_⟩
  · rw [zset_o (by decide), zset_o (by decide), zset_o (by decide), zset_o (by decide), zset_o (by decide), zset_o (by decide)]; exact t1 i a b
  · rw [zset_o (by decide), zset_o (by decide)]; exact t2 i a b
  · rw [zset_o (by decide), zset_o (by decide), zset_g, zset_o (by decide), zset_o (by decide), zset_g]
    obtain ⟨u1, u2, u3⟩ := t3 i a b
    refine ⟨u1, u2, ?_⟩
    by_cases z : i = c
    · rw [if_pos z, if_pos (by omega)]
    · rw [if_neg z, if_neg (by omega)]; exact u3
theorem zset_back {X : zH} {c : Int} (h : X 8 c = 0) : zset (zset X 8 c 1) 8 c 0 = X := by
  funext a i
  rw [zset_x, zset_x]
  by_cases z : a = 8 ∧ i = c
  · rw [if_pos z, z.1, z.2, h]
  · rw [if_neg z, if_neg z]
theorem frX.n1 {h h' : zH} {c x : Int} (hc : 0 ≤ c ∧ c < 60) (e : h' = zset h 450 (60 + c) x) : frX h h' := by
  rw [e]
  exact ⟨fun r z => zset_n (by omega), fun q _ => zset_o (by decide), fun i _ => ⟨zset_o (by decide), zset_o (by decide), zset_o (by decide)⟩, fun i _ => zset_o (by decide), fun i z => ⟨zset_o (by decide), zset_o (by decide), zset_2 (by omega)⟩⟩
theorem may_8 {σ st : zH} {c : Int} (h : mayN σ st c = true) : st 8 c = 0 := (of_decide_eq_true h).2.2.2
/-- a net is laid in c, as the next one -/
theorem RN.lay {σ st : zH} {m c : Int} {P : List Int} {h h1 h2 : zH} (r : RN σ st m P h) (hc : 0 ≤ c ∧ c < nC σ) (h3 : (P.length : Int) < 3) (q1 : h1 = zset h 462 (P.length : Int) c) (q2 : h2 = zset h1 450 (60 + c) 1) : RN σ st m (P ++ [c]) h2 ∧ frX h h2 := by
  have hn := r.1.2.2.1.n
  obtain ⟨r1, r2, r3, r4⟩ := r
  have x1 : frX h h1 := frX.hi (fun q hq => by rw [q1, zset_n (by omega)])
  have x2 : frX h1 h2 := frX.n1 (by omega) q2
  refine ⟨⟨r1.xx (x1.t x2), ?_, ?_, fun j y hj => ?_⟩, x1.t x2⟩
  · rw [netS_app]
    exact RT.n8 hc (r2.fr (fun r a b => by rw [q1, zset_n (by omega)])) q2
  · rw [q2, zset_o (by decide), q1, zset_o (by decide)]; exact r3
  · rw [q2, zset_o (by decide), q1, zset_g]
    by_cases e : (j : Int) = (P.length : Int)
    · have ej : j = P.length := by omega
      rw [if_pos e]
      rw [ej, List.getElem?_append_right (Nat.le_refl _), Nat.sub_self] at hj
      exact Option.some.inj hj
    · rw [if_neg e]
      have hlt : j < (P ++ [c]).length := (List.getElem?_eq_some_iff.1 hj).1
      rw [List.length_append] at hlt
      rw [List.getElem?_append_left (show j < P.length by simp at hlt; omega)] at hj
      exact r4 j y hj
theorem RN.off {σ st : zH} {m c : Int} {P : List Int} {h h1 : zH} (r : RN σ st m (P ++ [c]) h) (hc : 0 ≤ c ∧ c < nC σ) (hm : st 8 c = 0) (hP : ¬ c ∈ P) (q1 : h1 = zset h 450 (60 + c) 0) : RN σ st m P h1 ∧ frX h h1 := by
  have hn := r.1.2.2.1.n
  obtain ⟨r1, r2, r3, r4⟩ := r
  have x1 : frX h h1 := frX.n1 (by omega) q1
  refine ⟨⟨r1.xx x1, ?_, ?_, fun j y hj => ?_⟩, x1⟩
  · have := RT.n8 hc r2 q1
    rw [netS_app, zset_back (by rw [netS_n hP]; exact hm)] at this
    exact this
  · rw [q1, zset_o (by decide)]; exact r3
  · rw [q1, zset_o (by decide)]
    exact r4 j y (by rw [List.getElem?_append_left (List.getElem?_eq_some_iff.1 hj).1]; exact hj)
theorem RN.q {σ st : zH} {m : Int} {P : List Int} {h h' : zH} (r : RN σ st m P h) (f : frQR h h') (o : ∀ u st', ¬ u = 2 → RT σ st' u h → RT σ st' u h') : RN σ st m P h' :=
  ⟨r.1.q f, o 1 _ (by decide) r.2.1, by rw [f.2.1 89 (by decide)]; exact r.2.2.1, fun j y hj => by rw [f.1 462 (by decide)]; exact r.2.2.2 j y hj⟩
def RNr (σ st : zH) (m : Int) (P : List Int) (r : Option (List Int)) (v : zV) (h' : zH) : Prop := match r with
  | none => v = .inl 0 ∧ RN σ st m P h'
  | some Q => v = .inl 1 ∧ RN σ st m Q h'
theorem nf1 {σ st : zH} {n : Nat} {c : Int} {P : List Int} : netF σ st 1 (n + 1) c P = match mayN σ st c with
    | false => netF σ st 1 n (c + 1) P
    | true => match safeA σ (netS st (P ++ [c])) with
      | true => some (P ++ [c])
      | false => netF σ st 1 n (c + 1) P := by
  show (match mayN σ st c with
    | false => netF σ st 1 n (c + 1) P
    | true => match netF σ st 0 n (c + 1) (P ++ [c]) with
      | some Q => some Q
      | none => netF σ st 1 n (c + 1) P) = _
  have e : netF σ st 0 n (c + 1) (P ++ [c]) = match safeA σ (netS st (P ++ [c])) with | true => some (P ++ [c]) | false => none := by cases n <;> rfl
  rw [e]
  cases mayN σ st c with
  | false => rfl
  | true => cases safeA σ (netS st (P ++ [c])) <;> rfl
theorem q_Rone {d : Nat} {σ st : zH} {m : Int} {P : List Int} (hl : (P.length : Int) + 1 = m) (h3 : m ≤ 3) : ∀ (n : Nat) {c : Int} {h : zH}, RN σ st m P h → 0 ≤ c → c + n = nC σ → (∀ x ∈ P, x < c) → zWp (l_R_oneNet_2 (d + 8) (P.length : Int) c h) (fun v h' => RNr σ st m P (netF σ st 1 n c P) v h' ∧ frX h h')
  | 0, c, h, r, hc, hh, hP => by
    rw [el_R_oneNet_2]
    exact zWp_qi (q_R_cells r.1.2.2.1 r.1.1) (zWp_nt (by omega) (zWp_s ⟨⟨rfl, r⟩, frX.rf h⟩))
  | n + 1, c, h, r, hc, hh, hP => by
    have w := r.1.2.2.1
    have wt := r.1.2.2.2
    have hn := w.n
    have h0 : 0 ≤ (P.length : Int) := Int.natCast_nonneg _
    rw [el_R_oneNet_2, w32_i (x := c + 1) (by omega), nf1]
    refine zWp_qi (q_R_cells w r.1.1) (zWp_it (by omega) (zWp_qi (q_Rmay (d := d + 4) r.1 (by omega)) ?_))
    cases hm : mayN σ st c with
    | false =>
      exact zWp_it rfl (q_Rone hl h3 n r (by omega) (by omega) (fun x hx => by have := hP x hx; omega))
    | true =>
      have nP : ¬ c ∈ P := fun z => by have := hP c z; omega
      refine zWp_nt (by decide) ?_
      rw [em_R_withNet, w32_i (x := 60 + c) (by omega)]
      have wn : zWp (if 0 ≤ (P.length : Int) ∧ (P.length : Int) < ((3 : Nat) : Int) then (zlt (zset h 462 (P.length : Int) c) fun h1 => (if 0 ≤ 60 + c ∧ 60 + c < ((2100 : Nat) : Int) then (zlt (zset h1 450 (60 + c) 1) fun h2 => (if (P.length : Int) = w32 ((h2 403 89) - 1) then (zqi (m_R_isSafe (d + 7) 1 h2) fun a4 h3 => (l_R_withNet_36 (d + 7) c a4 h3)) else (l_R_withNet_36 (d + 7) c 0 h2))) else none)) else none) (fun v h' => (∃ a, v = .inl a ∧ (safeA σ (netS st (P ++ [c])) = true ∧ a = 1 ∧ RN σ st m (P ++ [c]) h' ∨ safeA σ (netS st (P ++ [c])) = false ∧ a = 0 ∧ RN σ st m P h') ∧ frX h h')) := by
        refine zWp_it (by omega) (zWp_lt fun h1 q1 => zWp_it (by omega) (zWp_lt fun h2 q2 => ?_))
        obtain ⟨r2, x2⟩ := r.lay (by omega) (by omega) q1 q2
        rw [r2.2.2.1, w32_i (x := m - 1) (by omega)]
        refine zWp_it (by omega) ?_
        obtain ⟨v3, h3', e3, rfl, f3, o3⟩ := q_Rsafe (d := d) w (netS_w wt) r2.1.1 r2.2.1
        refine zWp_qi e3 ?_
        have r3 := r2.q f3 o3
        rw [el_R_withNet_36, w32_i (x := 60 + c) (by omega)]
        cases sf : safeA σ (netS st (P ++ [c])) with
        | true => exact zWp_nt (by decide) (zWp_bo (Or.inr rfl) (zWp_s ⟨1, rfl, Or.inl ⟨rfl, rfl, r3⟩, x2.t f3.x⟩))
        | false =>
          refine zWp_it rfl (zWp_it (by omega) (zWp_lt fun h4 q4 => zWp_bo (Or.inl rfl) (zWp_s ?_)))
          obtain ⟨r4, x4⟩ := r3.off (by omega) (may_8 hm) nP q4
          exact ⟨0, rfl, Or.inr ⟨rfl, rfl, r4⟩, (x2.t f3.x).t x4⟩
      obtain ⟨v5, h5, e5, a, rfl, ha, x5⟩ := wn
      refine zWp_qi e5 ?_
      rcases ha with ⟨s1, rfl, r5⟩ | ⟨s1, rfl, r5⟩
      · rw [s1]
        exact zWp_nt (by decide) (zWp_s ⟨⟨rfl, r5⟩, x5⟩)
      · rw [s1]
        exact zWp_it rfl (zWp_m (q_Rone hl h3 n r5 (by omega) (by omega) (fun x hx => by have := hP x hx; omega)) (fun v h' u => ⟨u.1, x5.t u.2⟩))
theorem nfS {σ st : zH} {k n : Nat} {c : Int} {P : List Int} : netF σ st (k + 1) (n + 1) c P = match mayN σ st c with
    | false => netF σ st (k + 1) n (c + 1) P
    | true => match netF σ st k n (c + 1) (P ++ [c]) with
      | some Q => some Q
      | none => netF σ st (k + 1) n (c + 1) P := rfl
theorem len_app {P : List Int} {c : Int} : ((P ++ [c]).length : Int) = (P.length : Int) + 1 := by rw [List.length_append]; rfl
theorem q_Rtwo {d : Nat} {σ st : zH} {m : Int} {P : List Int} (hl : (P.length : Int) + 2 = m) (h3 : m ≤ 3) : ∀ (n : Nat) {c : Int} {h : zH}, RN σ st m P h → 0 ≤ c → c + n = nC σ → (∀ x ∈ P, x < c) → zWp (l_R_twoNets_2 (d + 9) (P.length : Int) c h) (fun v h' => RNr σ st m P (netF σ st 2 n c P) v h' ∧ frX h h')
  | 0, c, h, r, hc, hh, hP => by
    rw [el_R_twoNets_2]
    exact zWp_qi (q_R_cells r.1.2.2.1 r.1.1) (zWp_nt (by omega) (zWp_s ⟨⟨rfl, r⟩, frX.rf h⟩))
  | n + 1, c, h, r, hc, hh, hP => by
    have w := r.1.2.2.1
    have hn := w.n
    have h0 : 0 ≤ (P.length : Int) := Int.natCast_nonneg _
    rw [el_R_twoNets_2, w32_i (x := c + 1) (by omega), w32_i (x := 60 + c) (by omega), w32_i (x := (P.length : Int) + 1) (by omega), nfS]
    refine zWp_qi (q_R_cells w r.1.1) (zWp_it (by omega) (zWp_qi (q_Rmay (d := d + 5) r.1 (by omega)) ?_))
    cases hm : mayN σ st c with
    | false =>
      exact zWp_it rfl (q_Rtwo hl h3 n r (by omega) (by omega) (fun x hx => by have := hP x hx; omega))
    | true =>
      have nP : ¬ c ∈ P := fun z => by have := hP c z; omega
      refine zWp_nt (by decide) (zWp_it (by omega) (zWp_lt fun h1 q1 => zWp_it (by omega) (zWp_lt fun h2 q2 => ?_)))
      obtain ⟨r2, x2⟩ := r.lay (by omega) (by omega) q1 q2
      rw [em_R_oneNet]
      have one := q_Rone (d := d) (σ := σ) (st := st) (m := m) (P := P ++ [c]) (by rw [len_app]; omega) h3 n (c := c + 1) r2 (by omega) (by omega) (fun x hx => by
        rcases List.mem_append.1 hx with z | z
        · have := hP x z; omega
        · rw [List.mem_singleton.1 z]; omega)
      rw [len_app] at one
      obtain ⟨v3, h3', e3, u3, x3⟩ := one
      cases hr : netF σ st 1 n (c + 1) (P ++ [c]) with
      | some Q =>
        rw [hr] at u3
        rw [u3.1] at e3
        exact zWp_qi e3 (zWp_nt (by decide) (zWp_s ⟨⟨rfl, u3.2⟩, x2.t x3⟩))
      | none =>
        rw [hr] at u3
        rw [u3.1] at e3
        refine zWp_qi e3 (zWp_it rfl (zWp_it (by omega) (zWp_lt fun h4 q4 => ?_)))
        obtain ⟨r4, x4⟩ := u3.2.off (by omega) (may_8 hm) nP q4
        exact zWp_m (q_Rtwo hl h3 n r4 (by omega) (by omega) (fun x hx => by have := hP x hx; omega)) (fun v h' u => ⟨u.1, ((x2.t x3).t x4).t u.2⟩)
theorem q_Rthree {d : Nat} {σ st : zH} : ∀ (n : Nat) {c : Int} {h : zH}, RN σ st 3 [] h → 0 ≤ c → c + n = nC σ → zWp (l_R_threeNets_2 (d + 10) c h) (fun v h' => RNr σ st 3 [] (netF σ st 3 n c []) v h' ∧ frX h h')
  | 0, c, h, r, hc, hh => by
    rw [el_R_threeNets_2]
    exact zWp_qi (q_R_cells r.1.2.2.1 r.1.1) (zWp_nt (by omega) (zWp_s ⟨⟨rfl, r⟩, frX.rf h⟩))
  | n + 1, c, h, r, hc, hh => by
    have w := r.1.2.2.1
    have hn := w.n
    rw [el_R_threeNets_2, w32_i (x := c + 1) (by omega), w32_i (x := 60 + c) (by omega), nfS]
    refine zWp_qi (q_R_cells w r.1.1) (zWp_it (by omega) (zWp_qi (q_Rmay (d := d + 6) r.1 (by omega)) ?_))
    cases hm : mayN σ st c with
    | false => exact zWp_it rfl (q_Rthree n r (by omega) (by omega))
    | true =>
      refine zWp_nt (by decide) (zWp_it (by decide) (zWp_lt fun h1 q1 => zWp_it (by omega) (zWp_lt fun h2 q2 => ?_)))
      obtain ⟨r2, x2⟩ := r.lay (h1 := h1) (h2 := h2) (by omega) (by decide) q1 q2
      rw [em_R_twoNets]
      obtain ⟨v3, h3', e3, u3, x3⟩ := q_Rtwo (d := d) (σ := σ) (st := st) (m := 3) (P := [] ++ [c]) rfl (by decide) n (c := c + 1) r2 (by omega) (by omega) (fun x hx => by rw [List.mem_singleton.1 hx]; omega)
      have e3' : l_R_twoNets_2 (d + 9) 1 (c + 1) h2 = some (v3, h3') := e3
      cases hr : netF σ st 2 n (c + 1) ([] ++ [c]) with
      | some Q =>
        rw [hr] at u3
        rw [u3.1] at e3'
        exact zWp_qi e3' (zWp_nt (by decide) (zWp_s ⟨⟨rfl, u3.2⟩, x2.t x3⟩))
      | none =>
        rw [hr] at u3
        rw [u3.1] at e3'
        refine zWp_qi e3' (zWp_it rfl (zWp_it (by omega) (zWp_lt fun h4 q4 => ?_)))
        obtain ⟨r4, x4⟩ := u3.2.off (by omega) (may_8 hm) (fun z => by cases z) q4
        exact zWp_m (q_Rthree n r4 (by omega) (by omega)) (fun v h' u => ⟨u.1, ((x2.t x3).t x4).t u.2⟩)
theorem RN.m {σ st : zH} {m x : Int} {h h' : zH} (r : RN σ st m [] h) (e : h' = zset h 403 89 x) : RN σ st x [] h' ∧ frX h h' := by
  have x1 : frX h h' := by rw [e]; exact frX.sl (by decide)
  exact ⟨⟨r.1.xx x1, r.2.1.fr (fun q a b => by rw [e, zset_n (by omega)]), by rw [e, zset_e], fun j y hj => by cases hj⟩, x1⟩
theorem q_lays {d : Nat} {σ st : zH} {h : zH} (b : RC σ st h) : zWp (m_R_lays (d + 12) h) (fun v h' => (match netA σ st with | none => v = .inl 0 | some P => v = .inl 1 ∧ RN σ st P.length P h') ∧ frX h h') := by
  have w := b.2.2.1
  have wt := b.2.2.2
  have hn := w.n
  rw [em_R_lays]
  refine zWp_bv (q_copiesT (d := d + 10) (t := 1) (f := 0) (h := h) (by decide) (by decide) (by decide)) (fun _ h1 u1 => zWp_lt fun h2 q2 => ?_)
  obtain ⟨cp, o1⟩ := u1
  have f1 := cp.q (by decide) o1
  have r1 : RN σ st (h1 403 89) [] h1 := ⟨b.q f1, cp.t w (by decide) b.2.1, rfl, fun j y hj => by cases hj⟩
  obtain ⟨r2, x2⟩ := r1.m q2
  obtain ⟨v3, h3, e3, rfl, f3, o3⟩ := q_Rsafe (d := d + 4) w (netS_w wt) r2.1.1 r2.2.1
  refine zWp_qi e3 ?_
  have r3 := r2.q f3 o3
  have e0 : netF σ st 0 (nC σ).toNat 0 [] = match safeA σ (netS st []) with | true => some [] | false => none := by cases (nC σ).toNat <;> rfl
  unfold netA
  rw [e0]
  cases s0 : safeA σ (netS st []) with
  | true => exact zWp_nt (by decide) (zWp_s ⟨⟨rfl, r3⟩, (f1.x.t x2).t f3.x⟩)
  | false =>
    refine zWp_it rfl (zWp_lt fun h5 q5 => ?_)
    obtain ⟨r5, x5⟩ := r3.m q5
    rw [em_R_oneNet]
    obtain ⟨v6, h6, e6, u6, x6⟩ := q_Rone (d := d + 2) (σ := σ) (st := st) (m := 1) (P := []) rfl (by decide) (nC σ).toNat (c := 0) r5 (Int.le_refl _) (by omega) (fun x hx => by cases hx)
    have e6' : l_R_oneNet_2 (d + 10) 0 0 h5 = some (v6, h6) := e6
    have X6 := (((f1.x.t x2).t f3.x).t x5).t x6
    show zWp _ (fun v h' => (match (match netF σ st 1 (nC σ).toNat 0 [] with | some P => some P | none => match netF σ st 2 (nC σ).toNat 0 [] with | some P => some P | none => netF σ st 3 (nC σ).toNat 0 []) with | none => v = .inl 0 | some P => v = .inl 1 ∧ RN σ st P.length P h') ∧ frX h h')
    have s1 := netF_s (σ := σ) (st := st) (nC σ).toNat 1 0 [] (by omega) (fun x hx => by cases hx)
    have s2 := netF_s (σ := σ) (st := st) (nC σ).toNat 2 0 [] (by omega) (fun x hx => by cases hx)
    have s3 := netF_s (σ := σ) (st := st) (nC σ).toNat 3 0 [] (by omega) (fun x hx => by cases hx)
    rw [show ((0 : Nat) : Int) = 0 from rfl] at s1 s2 s3
    cases k1 : netF σ st 1 (nC σ).toNat 0 [] with
    | some Q =>
      rw [k1] at u6 s1
      obtain ⟨_, _, _, _, l1, _⟩ := s1
      rw [u6.1] at e6'
      refine zWp_qi e6' (zWp_nt (by decide) (zWp_s ⟨⟨rfl, ?_⟩, X6⟩))
      have : (Q.length : Int) = 1 := by have : Q.length = 0 + 1 := l1; omega
      rw [this]
      exact u6.2
    | none =>
      rw [k1] at u6
      rw [u6.1] at e6'
      refine zWp_qi e6' (zWp_it rfl (zWp_lt fun h8 q8 => ?_))
      obtain ⟨r8, x8⟩ := u6.2.m q8
      rw [em_R_twoNets]
      obtain ⟨v9, h9, e9, u9, x9⟩ := q_Rtwo (d := d + 1) (σ := σ) (st := st) (m := 2) (P := []) rfl (by decide) (nC σ).toNat (c := 0) r8 (Int.le_refl _) (by omega) (fun x hx => by cases hx)
      have e9' : l_R_twoNets_2 (d + 10) 0 0 h8 = some (v9, h9) := e9
      have X9 := (X6.t x8).t x9
      show zWp _ (fun v h' => (match (match netF σ st 2 (nC σ).toNat 0 [] with | some P => some P | none => netF σ st 3 (nC σ).toNat 0 []) with | none => v = .inl 0 | some P => v = .inl 1 ∧ RN σ st P.length P h') ∧ frX h h')
      cases k2 : netF σ st 2 (nC σ).toNat 0 [] with
      | some Q =>
        rw [k2] at u9 s2
        obtain ⟨_, _, _, _, l1, _⟩ := s2
        rw [u9.1] at e9'
        refine zWp_qi e9' (zWp_nt (by decide) (zWp_s ⟨⟨rfl, ?_⟩, X9⟩))
        have : (Q.length : Int) = 2 := by have : Q.length = 0 + 2 := l1; omega
        rw [this]
        exact u9.2
      | none =>
        rw [k2] at u9
        rw [u9.1] at e9'
        refine zWp_qi e9' (zWp_it rfl (zWp_lt fun h11 q11 => ?_))
        obtain ⟨r11, x11⟩ := u9.2.m q11
        rw [em_R_threeNets]
        obtain ⟨v12, h12, e12, u12, x12⟩ := q_Rthree (d := d) (σ := σ) (st := st) (nC σ).toNat (c := 0) r11 (Int.le_refl _) (by omega)
        have X12 := (X9.t x11).t x12
        show zWp _ (fun v h' => (match netF σ st 3 (nC σ).toNat 0 [] with | none => v = .inl 0 | some P => v = .inl 1 ∧ RN σ st P.length P h') ∧ frX h h')
        cases k3 : netF σ st 3 (nC σ).toNat 0 [] with
        | some Q =>
          rw [k3] at u12 s3
          obtain ⟨_, _, _, _, l1, _⟩ := s3
          rw [u12.1] at e12
          refine zWp_qi e12 (zWp_bo (Or.inr rfl) (zWp_s ⟨⟨rfl, ?_⟩, X12⟩))
          have : (Q.length : Int) = 3 := by have : Q.length = 0 + 3 := l1; omega
          rw [this]
          exact u12.2
        | none =>
          rw [k3] at u12
          rw [u12.1] at e12
          exact zWp_qi e12 (zWp_bo (Or.inl rfl) (zWp_s ⟨rfl, X12⟩))
theorem q_R_nets {d : Nat} {σ st : zH} {k : Int} {h : zH} (b : RC σ st h) : zWp (m_R_nets (d + 13) k h) (fun v h' => v = .inl (vNet σ st k) ∧ frX h h') := by
  have w := b.2.2.1
  unfold vNet
  rw [em_R_nets]
  refine zWp_qi (q_R_cells w b.1) ?_
  by_cases c1 : nC σ = 0
  · refine zWp_it c1 (zWp_s ⟨?_, frX.rf h⟩)
    rw [if_pos c1]
  refine zWp_nt c1 ?_
  rw [if_neg c1]
  obtain ⟨v1, h1, e1, u1, x1⟩ := q_lays (d := d) b
  cases hA : netA σ st with
  | none =>
    rw [hA] at u1
    have u1' : v1 = .inl 0 := u1
    rw [u1'] at e1
    exact zWp_qi e1 (zWp_it rfl (zWp_s ⟨rfl, x1⟩))
  | some P =>
    rw [hA] at u1
    obtain ⟨u2, r⟩ := u1
    rw [u2] at e1
    have l3 := (nfr_in w 4 0 rfl (by rw [← netA_f]; exact hA)).2.1
    refine zWp_qi e1 (zWp_nt (by decide) ?_)
    rw [r.2.2.1]
    show zWp _ (fun v h' => v = .inl (if k = -1 then (P.length : Int) else if 0 ≤ k ∧ k < P.length then P.getD k.toNat 0 else -1) ∧ frX h h')
    by_cases c4 : k = -1
    · refine zWp_it c4 (zWp_s ⟨?_, x1⟩)
      rw [if_pos c4]
    · refine zWp_nt c4 ?_
      rw [if_neg c4, w32_i (x := (P.length : Int) - 1) (by omega)]
      refine zWp_qi q_R_is ?_
      by_cases c5 : 0 ≤ k ∧ k < (P.length : Int)
      · rw [if_pos (show 0 ≤ k ∧ k ≤ (P.length : Int) - 1 by omega), if_pos c5]
        refine zWp_nt (by decide) (zWp_it (by omega) (zWp_s ⟨?_, x1⟩))
        have := r.2.2.2 k.toNat (P.getD k.toNat 0) (by rw [List.getD_eq_getElem?_getD, List.getElem?_eq_getElem (show k.toNat < P.length by omega)]; rfl)
        rw [show ((k.toNat : Nat) : Int) = k by omega] at this
        rw [this]
      · rw [if_neg (show ¬ (0 ≤ k ∧ k ≤ (P.length : Int) - 1) by omega), if_neg c5]
        exact zWp_it rfl (zWp_s ⟨rfl, x1⟩)
theorem a_nets {d : Nat} {k : Int} {h : zH} (i : INV h) : Alike (m_B_nets (d + 13) k h) (m_R_nets (d + 13) k) := by
  obtain ⟨σ, st, D, K, Λ, G, c, r, wk, wg⟩ := i
  exact alike (h := h) wk wg (fun h' f => zWp_m (q_R_nets (r.hi f).1) (fun v h2 u => ⟨u.1, (r.hi f).x u.2, u.2.lo⟩)) (q_nets (d := d + 2) c)
