/-! names, owners, cells, in the reference -/
def chO (x : Int) (h : zH) : List Int → zR
  | [] => some (.inl 0, h)
  | y :: L => if zlc x y = 0 then some (.inl 1, h) else chO x h L
theorem chO_e {x : Int} {h : zH} : ∀ L : List Int, chO x h L = some (.inl (if x ∈ L then 1 else 0), h)
  | [] => by rw [chO, if_neg (by intro z; cases z)]
  | y :: L => by
    rw [chO]
    by_cases c : x = y
    · rw [zit_t (by rw [zlc_0]; exact c), if_pos (by rw [c]; exact List.mem_cons_self ..)]
    · rw [zit_f (by rw [zlc_0]; exact c), chO_e L]
      by_cases m : x ∈ L
      · rw [if_pos m, if_pos (List.mem_cons_of_mem _ m)]
      · rw [if_neg m, if_neg (fun z => by rcases List.mem_cons.1 z with y | y; exact c y; exact m y)]
def own8 : List Int := [439854918756, 7499639, 491496236904, 24948, 478745093490, 1818324580, 29807, 495874698853, 131277443786868, 1919251316, 448546567013, 512970880104, 2002873452, 1952997751, 1868850291, 1919905893, 6583653, 2003330414, 28530, 6385252, 7237492, 6384748, 495806932324, 495874044019, 7170414, 7168376]
theorem own8_i : ∀ i : Nat, i < 26 → own8.getD i 0 = (pk8 0 (ownL.getD i []) : Int) := by decide +kernel
theorem own8_l : own8.length = 26 := rfl
theorem q_R_isOwn8 {d : Nat} {L : List Nat} {h : zH} (hL : nmOk L) : m_R_isOwn (d + 1) (pk8 0 L : Nat) h = some (.inl (if ownI (pk5 0 L : Nat) = -1 then 0 else 1), h) := by
  have e : m_R_isOwn (d + 1) (pk8 0 L : Nat) h = chO (pk8 0 L : Nat) h own8 := em_R_isOwn ..
  rw [e, chO_e]
  by_cases c : ownI (pk5 0 L : Nat) = -1
  · rw [if_pos c, if_neg]
    intro z
    obtain ⟨i, hi, ei⟩ := List.getElem_of_mem z
    rw [own8_l] at hi
    have e2 : own8.getD i 0 = own8[i] := by rw [List.getD_eq_getElem?_getD, List.getElem?_eq_getElem (by rw [own8_l]; exact hi)]; rfl
    have e3 : own8.getD i 0 = ((pk8 0 L : Nat) : Int) := e2.trans ei
    rw [own8_i i hi] at e3
    have := (own_w hL hi).1 (Int.ofNat.inj e3.symm)
    omega
  · rw [if_neg c, if_pos]
    have b := ownI_b c
    have := (own_w hL (i := (ownI (pk5 0 L : Nat)).toNat) (by omega)).2 (by omega)
    have e2 : ((pk8 0 L : Nat) : Int) = own8.getD (ownI (pk5 0 L : Nat)).toNat 0 := by rw [own8_i _ (by omega), this]
    rw [e2]
    rw [List.getD_eq_getElem?_getD, List.getElem?_eq_getElem (by rw [own8_l]; omega)]
    exact List.getElem_mem _
theorem flS_z {k p : Int} {s : zRd} (hk : k ≠ 0) : (flS k p s).2.1 ≠ 0 := by
  unfold flS
  by_cases c : s.2.1 = 0
  · rw [if_pos c]; exact hk
  · rw [if_neg c]; exact c
theorem flS_s {k p : Int} {s : zRd} (h : s.2.1 ≠ 0) : flS k p s = s := by unfold flS; rw [if_neg h]
theorem tw_d {σ : zH} {p k i : Int} {u : zRd} (h : u.2.1 ≠ 0) : twS σ p k i u = u := by
  unfold twS
  split
  · rfl
  · exact flS_s h
theorem new_f {A : List zTk} {σ : zH} {s : zRd} (h : kdS A s ≠ 1) : newS A σ s = (-1, flS 1 (unf (tkI A s.1)) s) := by
  have e : nmS A s = (-1, flS 1 (unf (tkI A s.1)) s) := by unfold nmS; rw [if_neg h]
  unfold newS
  rw [e]
  have z : (flS 1 (unf (tkI A s.1)) s).2.1 ≠ 0 := flS_z (by decide)
  show ((-1 : Int), twS σ (-1) _ 2 (twS σ (-1) _ 1 (twS σ (-1) _ 0 (flS 1 (unf (tkI A s.1)) s)))) = _
  rw [tw_d z, tw_d z, tw_d z]
/-- a fault at the token that is taken is the same before it is taken and behind -/
theorem RR.mv {T : Int → Int} {n k p : Int} {s : zRd} {h : zH} (r : RR T n (flS k p s) h) (f : s.2.1 = 0) (hk : k ≠ 0) (hl : s.1 + 1 < (toks T n).length) : RR T n (flS k p (advS s)) h := by
  have e1 : flS k p s = (s.1, k, p) := by unfold flS; rw [if_pos f]
  have e2 : flS k p (advS s) = (s.1 + 1, k, p) := by unfold advS; rw [if_pos f]; unfold flS; rw [if_pos (show ((s.1 + 1, s.2) : zRd).2.1 = 0 from f)]
  rw [e1] at r
  rw [e2]
  have a := eff_f (A := toks T n) (s := (s.1, k, p)) hk
  have b := eff_f (A := toks T n) (s := (s.1 + 1, k, p)) hk
  exact r.dd (by rw [a.1]; exact hk) (by rw [a.1, b.1]) (by rw [a.2, b.2]) hl r.1.2.2.2.2
theorem q_R_fr79 {d : Nat} {s' : zRd} {T : Int → Int} {n : Int} {h : zH} (r : RR T n s' h) (hd : effK (toks T n) s' ≠ 0) : l_R_fresh_79 d h = some (.inr (.inl (h 403 7)), h) := by
  rw [el_R_fresh_79, zit_f (by rw [r.2.1.1]; exact hd)]
theorem q_R_fresh {d : Nat} {T : Int → Int} {n : Int} {s : zRd} {σ h : zH} (w : WB σ) (p : PR σ h) (r : RR T n s h) : zWp (m_R_fresh (d + 3) h) (fun v h' => (∃ q, v = .inr (.inl q) ∧ ((newS (toks T n) σ s).2.2.1 = 0 → NmR (newS (toks T n) σ s).1 q)) ∧ RR T n (newS (toks T n) σ s).2 h' ∧ frE h h') := by
  rw [em_R_fresh]
  by_cases hd : effK (toks T n) s = 0
  case neg =>
    have g := eff_g (A := toks T n) r.1.2.2.2.2
    rw [new_f (by rw [kd_d hd]; decide)]
    exact zWp_it (by rw [r.2.1.1]; omega) (zWp_s ⟨⟨_, rfl, fun z => absurd z (flS_z (by decide))⟩, r.de hd, frE.rf h⟩)
  refine zWp_nt (by rw [r.2.1.1, hd]; decide) ?_
  have f := eff_0 hd
  have t3 := (r.2.2 hd).2.2 f.2
  have bad : kdS (toks T n) s ≠ 1 → zWp (l_R_fresh_28 (d + 2) h) (fun v h' => (∃ q, v = .inr (.inl q) ∧ ((newS (toks T n) σ s).2.2.1 = 0 → NmR (newS (toks T n) σ s).1 q)) ∧ RR T n (newS (toks T n) σ s).2 h' ∧ frE h h') := by
    intro k1
    have b := r.bl (k := 1) (p := unf (tkI (toks T n) s.1)) hd (by decide)
    have b8 := (flS_e (A := toks T n) (p := unf (tkI (toks T n) s.1)) hd (show (1 : Int) ≠ 0 by decide)).1
    rw [new_f k1, el_R_fresh_28, (r.at hd).1]
    refine zWp_qv q_R_blame ?_
    rw [el_R_fresh_39, b.1.2.1.1, b8]
    refine zWp_nt (by decide) (zWp_nt (by decide) ?_)
    rw [q_R_fr79 b.1 (by rw [b8]; decide)]
    exact zWp_s ⟨⟨_, rfl, fun z => absurd z (flS_z (by decide))⟩, b⟩
  by_cases c1 : h 403 3 = 1
  case neg => exact zWp_nt c1 (bad (fun z => c1 (by rw [t3.1, rsg_1]; rw [kd_a hd] at z; exact Or.inl z)))
  refine zWp_it c1 ?_
  have kk : (tkI (toks T n) s.1).1 = 1 ∨ (tkI (toks T n) s.1).1 = 2 := by rw [t3.1, rsg_1] at c1; exact c1
  have tw := tok_w r.1.2.2.2.1 kk
  have e7 := (t3.2.2.2.2 kk).1
  rw [e7]
  refine zWp_qi (q_R_isOwn8 tw.1) ?_
  by_cases k2 : (tkI (toks T n) s.1).1 = 2
  · rw [if_neg (tw.2.2 k2).1]
    exact zWp_nt (by decide) (bad (by rw [kd_a hd, k2]; decide))
  have k1 : (tkI (toks T n) s.1).1 = 1 := by rcases kk with z | z; exact z; exact absurd z k2
  have tv := tw.2.1 k1
  rw [if_pos tv.1]
  refine zWp_it rfl ?_
  have nm : NmR (tkI (toks T n) s.1).2.2.1 (h 403 7) := ⟨_, tw.1, tv.2, e7⟩
  have hl := (toks_ok (T := T) r.1.1).2.1 s.1 r.1.2.2.2.1 (by rw [k1]; decide)
  have en : nmS (toks T n) s = ((tkI (toks T n) s.1).2.2.1, advS s) := by unfold nmS; rw [if_pos (by rw [kd_a hd]; exact k1)]
  have fa : (advS s).2.1 = 0 := by unfold advS; rw [if_pos f.1]; exact f.1
  have b := r.bl (k := 2) (p := (tkI (toks T n) s.1).2.1) hd (by decide)
  have b8 := (flS_e (A := toks T n) (p := (tkI (toks T n) s.1).2.1) hd (show (2 : Int) ≠ 0 by decide)).1
  have hit : ∀ x1, newS (toks T n) σ s = ((tkI (toks T n) s.1).2.2.1, flS 2 (tkI (toks T n) s.1).2.1 (advS s)) → zWp (zqv (m_R_blame (d + 2) 2 (h 403 4) h) fun h3 => (l_R_fresh_39 (d + 2) x1 h3)) (fun v h' => (∃ q, v = .inr (.inl q) ∧ ((newS (toks T n) σ s).2.2.1 = 0 → NmR (newS (toks T n) σ s).1 q)) ∧ RR T n (newS (toks T n) σ s).2 h' ∧ frE h h') := by
    intro x1 e
    rw [e, (r.at hd).1, (r.at hd).2]
    refine zWp_qv q_R_blame ?_
    rw [el_R_fresh_39, b.1.2.1.1, b8, q_R_fr79 b.1 (by rw [b8]; decide)]
    have fin : zWp (some (.inr (.inl (blH 2 (tkI (toks T n) s.1).2.1 h 403 7)), blH 2 (tkI (toks T n) s.1).2.1 h)) (fun v h' => (∃ q, v = .inr (.inl q) ∧ ((flS 2 (tkI (toks T n) s.1).2.1 (advS s)).2.1 = 0 → NmR (tkI (toks T n) s.1).2.2.1 q)) ∧ RR T n (flS 2 (tkI (toks T n) s.1).2.1 (advS s)) h' ∧ frE h h') := zWp_s ⟨⟨_, rfl, fun z => absurd z (flS_z (by decide))⟩, b.1.mv f.1 (by decide) hl, b.2⟩
    exact zWp_if (fun _ => fin) (fun _ => zWp_nt (by decide) fin)
  have nw : newS (toks T n) σ s = ((tkI (toks T n) s.1).2.2.1, twS σ (tkI (toks T n) s.1).2.2.1 (tkI (toks T n) s.1).2.1 2 (twS σ (tkI (toks T n) s.1).2.2.1 (tkI (toks T n) s.1).2.1 1 (twS σ (tkI (toks T n) s.1).2.2.1 (tkI (toks T n) s.1).2.1 0 (advS s)))) := by unfold newS; rw [en]
  have tf : ∀ i u, fndA σ i (tkI (toks T n) s.1).2.2.1 ≠ -1 → twS σ (tkI (toks T n) s.1).2.2.1 (tkI (toks T n) s.1).2.1 i u = flS 2 (tkI (toks T n) s.1).2.1 u := fun i u z => by unfold twS; rw [if_neg z]
  have tn : ∀ i u, fndA σ i (tkI (toks T n) s.1).2.2.1 = -1 → twS σ (tkI (toks T n) s.1).2.2.1 (tkI (toks T n) s.1).2.1 i u = u := fun i u z => by unfold twS; rw [if_pos z]
  have zz : (flS 2 (tkI (toks T n) s.1).2.1 (advS s)).2.1 ≠ 0 := flS_z (by decide)
  rw [el_R_fresh_39, r.2.1.1]
  refine zWp_nt (by decide) (zWp_it hd (zWp_qi (q_R_named (d := d) w p ⟨by decide, by decide⟩ nm) ?_))
  by_cases n0 : fndA σ 0 (tkI (toks T n) s.1).2.2.1 = -1
  case neg => exact zWp_nt n0 (hit _ (by rw [nw, tf 0 _ n0, tw_d zz, tw_d zz]))
  refine zWp_it n0 ?_
  rw [show w32 (0 + 1) = 1 by decide, el_R_fresh_39, r.2.1.1]
  refine zWp_nt (by decide) (zWp_it hd (zWp_qi (q_R_named (d := d) w p ⟨by decide, by decide⟩ nm) ?_))
  by_cases n1 : fndA σ 1 (tkI (toks T n) s.1).2.2.1 = -1
  case neg => exact zWp_nt n1 (hit _ (by rw [nw, tn 0 _ n0, tf 1 _ n1, tw_d zz]))
  refine zWp_it n1 ?_
  rw [show w32 (1 + 1) = 2 by decide, el_R_fresh_39, r.2.1.1]
  refine zWp_nt (by decide) (zWp_it hd (zWp_qi (q_R_named (d := d) w p ⟨by decide, by decide⟩ nm) ?_))
  by_cases n2 : fndA σ 2 (tkI (toks T n) s.1).2.2.1 = -1
  case neg => exact zWp_nt n2 (hit _ (by rw [nw, tn 0 _ n0, tn 1 _ n1, tf 2 _ n2]))
  refine zWp_it n2 ?_
  rw [show w32 (2 + 1) = 3 by decide, el_R_fresh_39]
  refine zWp_it (by decide) ?_
  rw [el_R_fresh_79, r.2.1.1, nw, tn 0 _ n0, tn 1 _ n1, tn 2 _ n2]
  exact zWp_it hd (zWp_bv (q_R_adv (d := d) r hd (by rw [k1]; decide)) (fun _ h1 u => zWp_s ⟨⟨_, rfl, fun _ => nm⟩, u⟩))
