/-! goesOn: signs of sums, brackets -/
theorem ng {A : List zTk} {x y : Int} {s : zRd} (h : sgS A 4 x s = true) (hx : ¬ y = x) : ¬ sgS A 4 y s = true := fun z => hx (sg_x z h).2
theorem q_R_161 {d : Nat} {T : Int → Int} {n kd ph bg pr x a : Int} {s : zRd} {C O : List Int} {R : List zFr} {h : zH} {o : Bool} (c : RL0 T n (s, C, o, (kd, ph, bg, pr, O) :: R) h) (hd : effK (toks T n) s = 0) (k0 : (tkI (toks T n) s.1).1 ≠ 0) (hO : O.length + opsN R < 500) (ea : a = 4 - x) : zWp (l_R_goesOn_161 (d + 2) a h) (fun v h' => ∃ w, v = .inl w ∧ OT T n h (.inl (advS s, C, false, (kd, ph, bg, pr, x :: O) :: R)) w h') := by
  rw [el_R_goesOn_161]
  refine k_hb c hO ea (fun h1 c1 f1 _ => k_ah (d := d) c1 hd k0 (fun h2 c2 f2 _ => zWp_lt fun h3 e3 => ?_))
  have b := k_54 (o' := false) c2 e3
  exact zWp_s ⟨1, rfl, (f1.t f2).t b.2.1, b.1, by rw [b.2.2]; rfl, rfl⟩
def tk5 (A : List zTk) (s : zRd) (x m : Int) : Prop := (sgS A 4 43 s = true ∧ x = -6 ∧ m = 5) ∨ (sgS A 4 45 s = true ∧ x = -7 ∧ m = 5) ∨ (sgS A 4 42 s = true ∧ x = -8 ∧ m = 6) ∨ (sgS A 4 47 s = true ∧ x = -9 ∧ m = 6) ∨ (sgS A 4 37 s = true ∧ x = -10 ∧ m = 6)
theorem q_R_99 {d : Nat} {T : Int → Int} {n kd ph bg pr x m : Int} {s : zRd} {C O : List Int} {R : List zFr} {h : zH} {o : Bool} (c : RL0 T n (s, C, o, (kd, ph, bg, pr, O) :: R) h) (hd : effK (toks T n) s = 0) (hR : R.length ≤ 8) (hC : C.length + O.length ≤ 1600) (hO : O.length + opsN R < 490) (hP : ∀ o ∈ O, o ≤ -6) (hx : tk5 (toks T n) s x m) : zWp (l_R_goesOn_99 (d + 3) m h) (fun v h' => ∃ w, v = .inl w ∧ OT T n h (.inl (advS s, (jnA m O C).2, false, (kd, ph, bg, pr, x :: (jnA m O C).1) :: R)) w h') := by
  have k0 : (tkI (toks T n) s.1).1 ≠ 0 := by
    rcases hx with ⟨z, _⟩ | ⟨z, _⟩ | ⟨z, _⟩ | ⟨z, _⟩ | ⟨z, _⟩ <;> exact kd_s (by decide) (by decide) z
  rw [el_R_goesOn_99]
  refine k_jn (d := d + 1) c hR hC (by omega) hP (fun h1 c1 f1 _ => ?_)
  have jl := jn_l (m := m) O C hC
  have r1 : RR T n s h1 := c1.1
  have fin : ∀ a, a = 4 - x → zWp (l_R_goesOn_161 (d + 3) a h1) (fun v h' => ∃ w, v = .inl w ∧ OT T n h (.inl (advS s, (jnA m O C).2, false, (kd, ph, bg, pr, x :: (jnA m O C).1) :: R)) w h') := fun a ea => zWp_m (q_R_161 (d := d + 1) c1 hd k0 (by omega) ea) (fun v h' ⟨w, e, u⟩ => ⟨w, e, u.t f1⟩)
  refine zWp_qi (r1.iS hd) ?_
  rcases hx with ⟨z, e, _⟩ | ⟨z, e, _⟩ | ⟨z, e, _⟩ | ⟨z, e, _⟩ | ⟨z, e, _⟩
  · rw [if_pos z]
    exact zWp_nt (by decide) (fin 10 (by rw [e]; decide))
  · rw [if_neg (ng z (by decide))]
    refine zWp_it rfl (zWp_qi (r1.iS hd) ?_)
    rw [if_pos z]
    exact zWp_nt (by decide) (fin 11 (by rw [e]; decide))
  · rw [if_neg (ng z (by decide))]
    refine zWp_it rfl (zWp_qi (r1.iS hd) ?_)
    rw [if_neg (ng z (by decide))]
    refine zWp_it rfl (zWp_qi (r1.iS hd) ?_)
    rw [if_pos z]
    exact zWp_nt (by decide) (fin 12 (by rw [e]; decide))
  · rw [if_neg (ng z (by decide))]
    refine zWp_it rfl (zWp_qi (r1.iS hd) ?_)
    rw [if_neg (ng z (by decide))]
    refine zWp_it rfl (zWp_qi (r1.iS hd) ?_)
    rw [if_neg (ng z (by decide))]
    refine zWp_it rfl (zWp_qi (r1.iS hd) ?_)
    rw [if_pos z]
    exact zWp_nt (by decide) (fin 13 (by rw [e]; decide))
  · rw [if_neg (ng z (by decide))]
    refine zWp_it rfl (zWp_qi (r1.iS hd) ?_)
    rw [if_neg (ng z (by decide))]
    refine zWp_it rfl (zWp_qi (r1.iS hd) ?_)
    rw [if_neg (ng z (by decide))]
    refine zWp_it rfl (zWp_qi (r1.iS hd) ?_)
    rw [if_neg (ng z (by decide))]
    exact zWp_it rfl (fin 14 (by rw [e]; decide))
theorem q_R_74 {d : Nat} {T : Int → Int} {n kd ph bg pr x m : Int} {s : zRd} {C O : List Int} {R : List zFr} {h : zH} {o : Bool} (c : RL0 T n (s, C, o, (kd, ph, bg, pr, O) :: R) h) (hd : effK (toks T n) s = 0) (hR : R.length ≤ 8) (hC : C.length + O.length ≤ 1600) (hO : O.length + opsN R < 490) (hP : ∀ o ∈ O, o ≤ -6) (hx : tk5 (toks T n) s x m) : zWp (l_R_goesOn_74 (d + 3) h) (fun v h' => ∃ w, v = .inl w ∧ OT T n h (.inl (advS s, (jnA m O C).2, false, (kd, ph, bg, pr, x :: (jnA m O C).1) :: R)) w h') := by
  have r1 : RR T n s h := c.1
  have fin := q_R_99 (d := d) c hd hR hC hO hP hx
  rw [el_R_goesOn_74]
  refine zWp_qi (r1.iS hd) ?_
  rcases hx with ⟨z, _, e⟩ | ⟨z, _, e⟩ | ⟨z, _, e⟩ | ⟨z, _, e⟩ | ⟨z, _, e⟩ <;> rw [e] at fin ⊢
  · rw [if_pos z]
    exact zWp_nt (by decide) fin
  · rw [if_neg (ng z (by decide))]
    refine zWp_it rfl (zWp_qi (r1.iS hd) ?_)
    rw [if_pos z]
    exact zWp_nt (by decide) fin
  · rw [if_neg (ng z (by decide))]
    refine zWp_it rfl (zWp_qi (r1.iS hd) ?_)
    rw [if_neg (ng z (by decide))]
    exact zWp_it rfl fin
  · rw [if_neg (ng z (by decide))]
    refine zWp_it rfl (zWp_qi (r1.iS hd) ?_)
    rw [if_neg (ng z (by decide))]
    exact zWp_it rfl fin
  · rw [if_neg (ng z (by decide))]
    refine zWp_it rfl (zWp_qi (r1.iS hd) ?_)
    rw [if_neg (ng z (by decide))]
    exact zWp_it rfl fin
theorem jn_1 : ∀ (O C : List Int), (jnA 1 O C).1 = []
  | [], _ => rfl
  | o :: O, C => by rw [jn_c rk_1]; exact jn_1 O _
def st7 (A : List zTk) (s : zRd) (C : List Int) (f : zFr) (R : List zFr) : zCf ⊕ zLx :=
  if f.1 < 2 then .inr (s, (jnA 1 f.2.2.2.2 C).2)
  else if f.1 = 3 then (if sgS A 4 44 s = true then .inl (advS s, (jnA 1 f.2.2.2.2 C).2, false, (4, f.2.1, f.2.2.1, f.2.2.2.1, (jnA 1 f.2.2.2.2 C).1) :: R) else .inr (dS A s, []))
  else if sgS A 4 (if f.1 = 5 then 93 else 41) s = true then clsF s (jnA 1 f.2.2.2.2 C).2 f R
  else .inr (dS A s, [])
/-- a frame is closed: the one below is the top -/
theorem HF.pop {f r : zFr} {R : List zFr} {h h' : zH} (hf : HF (f :: r :: R) h) (h0 : f.2.2.2.2 = []) (e50 : h' 403 50 = (R.length : Int) + 1) (e53 : h' 403 53 = h 403 53) (e : ∀ q, 435 ≤ q → q ≤ 440 → h' q = h q) : HF (r :: R) h' := by
  refine ⟨by rw [e50]; rfl, ?_, hf.2.2.2.2.fr (fun q i q1 q2 _ _ => by rw [e q q1 (by omega)]) (fun i _ _ => by rw [e 440 (by decide) (by decide)])⟩
  rw [e53, hf.2.1]
  show ((f.2.2.2.2.length + opsN (r :: R) : Nat) : Int) = _
  rw [h0]
  show ((0 + opsN (r :: R) : Nat) : Int) = _
  rw [Nat.zero_add]
theorem q_R_561 {d : Nat} {T : Int → Int} {n kd : Int} {s : zRd} {C : List Int} {r : zFr} {R : List zFr} {h : zH} {o : Bool} (c : RL0 T n (s, C, o, r :: R) h) (hd : effK (toks T n) s = 0) (k0 : (tkI (toks T n) s.1).1 ≠ 0) (hR : R.length ≤ 8) (e54 : h 403 54 = 1) : zWp (l_R_goesOn_561 (d + 2) kd h) (fun v h' => ∃ w, v = .inl w ∧ OT T n h (.inl (advS s, C, true, (if kd = 5 then (r.1, 2, r.2.2) else r) :: R)) w h') := by
  rw [el_R_goesOn_561]
  have e50 : h 403 50 = (R.length : Int) + 1 := c.2.2.1.1
  by_cases z : kd = 5
  · rw [if_pos (c := kd = 5) (t := ((r.1, 2, r.2.2) : zFr)) z, w32_i (x := h 403 50 - 1) (by omega), show h 403 50 - 1 = (R.length : Int) by omega]
    refine zWp_it z (zWp_it (by omega) (zWp_lt fun h1 e1 => ?_))
    have b := k_st (kd := r.1) (ph := r.2.1) (bg := r.2.2.1) (pr := r.2.2.2.1) (O := r.2.2.2.2) (r := 436) (v := 2) (f := (r.1, 2, r.2.2)) c (Or.inr (Or.inl ⟨rfl, rfl⟩)) e1
    refine k_ah (d := d) b.1 hd k0 (fun h2 c2 f2 e2 => zWp_s ⟨1, rfl, b.2.1.t f2, c2, ?_, rfl⟩)
    rw [e2, b.2.2, e54]
    rfl
  · rw [if_neg (c := kd = 5) (t := ((r.1, 2, r.2.2) : zFr)) z]
    refine zWp_nt z (k_ah (d := d) (o := true) ⟨c.1, c.2.1, c.2.2.1, c.2.2.2⟩ hd k0 (fun h2 c2 f2 e2 => zWp_s ⟨1, rfl, f2, c2, ?_, rfl⟩))
    rw [e2, e54]
    rfl
theorem q_R_511 {d : Nat} {T : Int → Int} {n kd ph bg pr : Int} {s : zRd} {C O : List Int} {R : List zFr} {h : zH} {o : Bool} (c : RL0 T n (s, C, o, (kd, ph, bg, pr, O) :: R) h) (hd : effK (toks T n) s = 0) (k0 : (tkI (toks T n) s.1).1 ≠ 0) (hR : 1 ≤ R.length ∧ R.length ≤ 8) (hC : C.length + O.length < 1600) (hO : O.length + opsN R < 490) (hP : ∀ o ∈ O, o ≤ -6) (hp : kd = 4 → pr ≤ -6) (e54 : h 403 54 = 1) : zWp (l_R_goesOn_511 (d + 3) R.length kd h) (fun v h' => ∃ w, v = .inl w ∧ OT T n h (clsF s (jnA 1 O C).2 (kd, ph, bg, pr, O) R) w h') := by
  obtain ⟨r0, R0, eR⟩ : ∃ r0 R0, R = r0 :: R0 := by
    cases R with
    | nil => exact absurd hR.1 (by show ¬ 1 ≤ 0; omega)
    | cons r R => exact ⟨r, R, rfl⟩
  have lR : R.length = R0.length + 1 := by rw [eR]; rfl
  have e8 : h 403 8 = 0 := by rw [c.1.2.1.1]; exact hd
  have jl := jn_l (m := 1) O C (by omega)
  have j1 := jn_1 O C
  rw [el_R_goesOn_511, e8]
  refine zWp_nt (by decide) (k_jn (d := d + 1) c hR.2 (by omega) (by omega) hP (fun h1 c1 f1 e1 => ?_))
  have a50 : h1 403 50 = (R.length : Int) + 1 := c1.2.2.1.1
  have a51 : h1 403 51 = ((R.length + 1 : Nat) : Int) - 1 := c1.2.2.2
  rw [w32_i (x := h1 403 50 - 1) (by omega)]
  refine zWp_lt fun h2 e2 => ?_
  have t2 : ∀ q, ¬ q = 50 → h2 403 q = h1 403 q := fun q hq => by rw [e2, zset_j hq]
  have r2 : ∀ r, r ≠ 403 → h2 r = h1 r := fun r hr => by rw [e2, zset_n hr]
  rw [t2 51 (by decide), w32_i (x := h1 403 51 - 1) (by omega)]
  refine zWp_lt fun h3 e3 => ?_
  have t3 : ∀ q, ¬ (q = 50 ∨ q = 51) → h3 403 q = h1 403 q := fun q hq => by rw [e3, zset_j (by omega)]; exact t2 q (by omega)
  have r3 : ∀ r, r ≠ 403 → h3 r = h1 r := fun r hr => by rw [e3, zset_n hr]; exact r2 r hr
  have s50 : h3 403 50 = (R0.length : Int) + 1 := by rw [e3, zset_j (by decide), e2, zset_e]; omega
  have s51 : h3 403 51 = ((R0.length + 1 : Nat) : Int) - 1 := by rw [e3, zset_e]; omega
  have f3 : frLr h1 h3 := ⟨fun r hr => r3 r (by omega), fun q hq => t3 q (by omega), fun r i hr _ => by rw [r3 r (by omega)]⟩
  have c3 : RL0 T n (s, (jnA 1 O C).2, o, R) h3 := by
    refine ⟨c1.1.fr (fun q q1 q2 => t3 q (by omega)) (r3 404 (by decide)), c1.2.1.fr (t3 43 (by decide)) (t3 44 (by decide)) (r3 433 (by decide)) (r3 434 (by decide)), ?_, ?_⟩
    · have hf := c1.2.2.1
      dsimp only at hf ⊢
      rw [eR] at hf ⊢
      exact hf.pop j1 s50 (t3 53 (by decide)) (fun q q1 q2 => r3 q (by omega))
    · dsimp only
      rw [lR]
      exact s51
  have a54 : h3 403 54 = 1 := by rw [t3 54 (by decide), e1]; exact e54
  have e38 : kd = 4 → h3 438 (R.length : Int) = 4 - pr := fun z => by rw [r3 438 (by decide)]; exact c1.2.2.1.2.2.1.2.2.2.1 (Or.inr z)
  have eC : clsF s (jnA 1 O C).2 (kd, ph, bg, pr, O) R = .inl (advS s, (if kd = 4 then putA (jnA 1 O C).2 pr else (jnA 1 O C).2), true, (if kd = 5 then (r0.1, 2, r0.2.2) else r0) :: R0) := by rw [eR]; rfl
  rw [eC]
  by_cases z : kd = 4
  · rw [if_pos (c := kd = 4) (t := putA (jnA 1 O C).2 pr) z, e38 z]
    rw [j1] at jl
    have jl1 : 0 + (jnA 1 O C).2.length = O.length + C.length := jl.1
    refine zWp_it z (zWp_it (by omega) (zWp_bv (q_R_addC (d := d + 2) (x := pr) c3.2.1 (by dsimp only; omega) (Or.inr (Or.inr (Or.inr ⟨hp z, rfl⟩)))) (fun _ h4 u => ?_)))
    have c4 : RL0 T n (s, putA (jnA 1 O C).2 pr, o, r0 :: R0) h4 := by
      rw [← eR]
      exact ⟨c3.1.fr (fun q q1 q2 => u.2.2.1 q (by omega)) (u.2.1 404 (by decide)), u.1, c3.2.2.1.fr (u.2.2.1 50 (by decide)) (u.2.2.1 53 (by decide)) (fun r r1' r2' => u.2.1 r (by omega)), (u.2.2.1 51 (by decide)).trans c3.2.2.2⟩
    exact zWp_m (q_R_561 (d := d + 1) c4 hd k0 (by omega) (by rw [u.2.2.1 54 (by decide)]; exact a54)) (fun v h' ⟨w, e, v1⟩ => ⟨w, e, ((f1.t f3).t u.2.2.2).t v1.1, v1.2⟩)
  · rw [if_neg (c := kd = 4) (t := putA (jnA 1 O C).2 pr) z]
    rw [eR] at c3
    exact zWp_nt z (zWp_m (q_R_561 (d := d + 1) c3 hd k0 (by omega) a54) (fun v h' ⟨w, e, v1⟩ => ⟨w, e, (f1.t f3).t v1.1, v1.2⟩))
theorem q_R_511D {d : Nat} {T : Int → Int} {n kd x : Int} {s : zRd} {h : zH} (r : RR T n s h) (hd : effK (toks T n) s ≠ 0) : zWp (l_R_goesOn_511 d x kd h) (fun v h' => v = .inl 0 ∧ h' = h) := by
  have g := eff_g (A := toks T n) r.1.2.2.2.2
  rw [el_R_goesOn_511]
  exact zWp_it (by rw [r.2.1.1]; omega) (zWp_s ⟨rfl, rfl⟩)
theorem q_R_409D {d : Nat} {T : Int → Int} {n kd x : Int} {s : zRd} {h : zH} (r : RR T n s h) (hd : effK (toks T n) s ≠ 0) (hk : kd = 1 ∨ kd = 5) : zWp (l_R_goesOn_409 (d + 1) x kd h) (fun v h' => v = .inl 0 ∧ h' = h) := by
  rw [el_R_goesOn_409]
  rcases hk with z | z
  · exact zWp_it (by omega) (zWp_nt (by rw [r.2.1.1]; exact hd) (zWp_s ⟨rfl, rfl⟩))
  · refine zWp_nt (by omega) (zWp_nt (by omega) (zWp_it z ?_))
    rw [el_R_goesOn_496]
    refine zWp_qi q_R_isSg (zWp_if (fun _ => zWp_qv q_R_blame ?_) (fun _ => q_R_511D r hd))
    rw [bl_d r hd]
    exact q_R_511D r hd
theorem q_R_409 {d : Nat} {T : Int → Int} {n kd ph bg pr : Int} {s : zRd} {C O : List Int} {R : List zFr} {h : zH} {o : Bool} (c : RL0 T n (s, C, o, (kd, ph, bg, pr, O) :: R) h) (hd : effK (toks T n) s = 0) (hR : R.length ≤ 8) (hk : 2 ≤ kd → 1 ≤ R.length) (hC : C.length + O.length ≤ 1600) (hC2 : (tkI (toks T n) s.1).1 ≠ 0 → C.length + O.length < 1600) (hO : O.length + opsN R < 490) (hP : ∀ o ∈ O, o ≤ -6) (hp : kd = 4 → pr ≤ -6) (e54 : h 403 54 = 1) : zWp (l_R_goesOn_409 (d + 3) R.length kd h) (fun v h' => ∃ w, v = .inl w ∧ OT T n h (st7 (toks T n) s C (kd, ph, bg, pr, O) R) w h') := by
  have r : RR T n s h := c.1
  have e8 : h 403 8 = 0 := by rw [r.2.1.1]; exact hd
  have bad := r.bl (k := 1) (p := unf (tkI (toks T n) s.1)) hd (by decide)
  have eb := (flS_e (A := toks T n) (s := s) (k := 1) (p := unf (tkI (toks T n) s.1)) hd (by decide)).1
  have end0 : ∀ h', h' = blH 1 (unf (tkI (toks T n) s.1)) h → OT T n h (.inr (dS (toks T n) s, [])) 0 h' := by
    intro h' e
    rw [e]
    exact ⟨bad.2.lr, bad.1, rfl, fun z => absurd (eb.symm.trans z) (by decide)⟩
  unfold st7
  dsimp only
  rw [el_R_goesOn_409]
  by_cases z2 : kd < 2
  · rw [if_pos (c := kd < 2) (t := (Sum.inr (s, (jnA 1 O C).2) : zCf ⊕ zLx)) z2]
    exact zWp_it z2 (zWp_it e8 (k_jn (d := d + 1) c hR hC (by omega) hP (fun h1 c1 f1 _ => zWp_s ⟨0, rfl, f1, c1.1, rfl, fun _ => c1.2.1⟩)))
  rw [if_neg (c := kd < 2) (t := (Sum.inr (s, (jnA 1 O C).2) : zCf ⊕ zLx)) z2]
  refine zWp_nt z2 ?_
  by_cases z3 : kd = 3
  · rw [if_pos (c := kd = 3) (e := if sgS (toks T n) 4 (if kd = 5 then 93 else 41) s = true then clsF s (jnA 1 O C).2 (kd, ph, bg, pr, O) R else Sum.inr (dS (toks T n) s, [])) z3]
    refine zWp_it z3 (zWp_qi (r.iS hd) ?_)
    by_cases z4 : sgS (toks T n) 4 44 s = true
    · rw [if_pos (c := sgS (toks T n) 4 44 s = true) (t := (1 : Int)) z4, if_pos z4]
      refine zWp_nt (by decide) ?_
      rw [el_R_goesOn_451, e8]
      refine zWp_nt (by decide) (k_jn (d := d + 1) c hR hC (by omega) hP (fun h1 c1 f1 e1 => zWp_it (by omega) (zWp_lt fun h2 e2 => ?_)))
      have b := k_st (f := (4, ph, bg, pr, (jnA 1 O C).1)) c1 (Or.inl ⟨rfl, rfl, fun _ => Or.inl z3⟩) e2
      refine k_ah (d := d + 1) b.1 hd (kd_s (by decide) (by decide) z4) (fun h3 c3 f3 e3 => zWp_lt fun h4 e4 => ?_)
      have b4 := k_54 (o' := false) c3 e4
      exact zWp_s ⟨1, rfl, ((f1.t b.2.1).t f3).t b4.2.1, b4.1, by rw [b4.2.2]; rfl, rfl⟩
    · rw [if_neg (c := sgS (toks T n) 4 44 s = true) (t := (1 : Int)) z4, if_neg z4]
      refine zWp_it rfl (zWp_qv q_R_blame ?_)
      rw [(r.at hd).1, el_R_goesOn_451, bad.1.2.1.1, eb]
      exact zWp_it (by decide) (zWp_s ⟨0, rfl, end0 _ rfl⟩)
  rw [if_neg (c := kd = 3) (e := if sgS (toks T n) 4 (if kd = 5 then 93 else 41) s = true then clsF s (jnA 1 O C).2 (kd, ph, bg, pr, O) R else Sum.inr (dS (toks T n) s, [])) z3]
  refine zWp_nt z3 ?_
  have cl : ∀ x, zWp (l_R_goesOn_496 (d + 3) R.length kd x h) (fun v h' => ∃ w, v = .inl w ∧ OT T n h (if sgS (toks T n) 4 x s = true then clsF s (jnA 1 O C).2 (kd, ph, bg, pr, O) R else .inr (dS (toks T n) s, [])) w h') := by
    intro x
    rw [el_R_goesOn_496]
    refine zWp_qi (r.iS hd) ?_
    by_cases z4 : sgS (toks T n) 4 x s = true
    · rw [if_pos (c := sgS (toks T n) 4 x s = true) (t := (1 : Int)) z4, if_pos z4]
      have kk := kd_s (by decide) (by decide) z4
      exact zWp_nt (by decide) (q_R_511 (d := d) c hd kk ⟨hk (by omega), hR⟩ (hC2 kk) hO hP hp e54)
    · rw [if_neg (c := sgS (toks T n) 4 x s = true) (t := (1 : Int)) z4, if_neg z4]
      refine zWp_it rfl (zWp_qv q_R_blame ?_)
      rw [(r.at hd).1]
      exact zWp_m (q_R_511D bad.1 (by rw [eb]; decide)) (fun v h' u => ⟨0, u.1, end0 _ u.2⟩)
  by_cases z5 : kd = 5
  · rw [if_pos (c := kd = 5) (t := (93 : Int)) z5]
    exact zWp_it z5 (cl 93)
  · rw [if_neg (c := kd = 5) (t := (93 : Int)) z5]
    exact zWp_nt z5 (cl 41)
