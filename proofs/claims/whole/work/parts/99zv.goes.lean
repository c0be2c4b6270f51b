/-! goesOn: words of tests; the whole -/
def stC6 (A : List zTk) (s : zRd) (C : List Int) (f : zFr) (R : List zFr) : zCf ⊕ zLx := if (f.1 = 1 ∨ f.1 = 5) ∧ f.2.1 = 0 then .inr (dS A s, []) else st7 A s C f R
def stC4 (A : List zTk) (s : zRd) (C : List Int) (f : zFr) (R : List zFr) : zCf ⊕ zLx :=
  if (f.1 = 1 ∨ f.1 = 5) ∧ sgS A 2 19 s = true then (if f.2.1 = 0 then .inr (dS A s, []) else hdF s f 0 1 (-16) (jnA 2 f.2.2.2.2 C) R)
  else if (f.1 = 1 ∨ f.1 = 5) ∧ sgS A 2 18 s = true then (if f.2.1 = 0 then .inr (dS A s, []) else hdF s f 0 1 (-17) (jnA 1 f.2.2.2.2 C) R)
  else stC6 A s C f R
def stC3 (A : List zTk) (s : zRd) (C : List Int) (f : zFr) (R : List zFr) : zCf ⊕ zLx := if (f.1 = 1 ∨ f.1 = 5) ∧ f.2.1 = 0 ∧ cmA A s ≠ 0 then hdF s f 1 f.2.2.1 (cmA A s) (jnA 5 f.2.2.2.2 C) R else stC4 A s C f R
theorem stT_u {A : List zTk} {s : zRd} {C : List Int} {f : zFr} {R : List zFr} : stT A s C f R = (if f.2.1 < 2 ∧ smC A s ≠ 0 then hdF s f f.2.1 f.2.2.1 (smC A s) (jnA 5 f.2.2.2.2 C) R else if f.2.1 < 2 ∧ pdS A s ≠ 0 then hdF s f f.2.1 f.2.2.1 (pdS A s) (jnA 6 f.2.2.2.2 C) R else stC3 A s C f R) := rfl
/-- what a frame must keep to -/
def Kp (T : Int → Int) (n kd ph bg pr : Int) (s : zRd) (C O : List Int) (R : List zFr) (h : zH) : Prop := RL0 T n (s, C, true, (kd, ph, bg, pr, O) :: R) h ∧ effK (toks T n) s = 0 ∧ (R.length ≤ 8 ∧ (2 ≤ kd → 1 ≤ R.length) ∧ C.length + O.length ≤ 1600 ∧ ((tkI (toks T n) s.1).1 ≠ 0 → C.length + O.length < 1600) ∧ O.length + opsN R < 490) ∧ ((∀ o ∈ O, o ≤ -6) ∧ (kd = 4 → pr ≤ -6)) ∧ h 403 54 = 1
theorem Kp.e {T : Int → Int} {n kd ph bg pr : Int} {s : zRd} {C O : List Int} {R : List zFr} {h : zH} (k : Kp T n kd ph bg pr s C O R h) : RR T n (dS (toks T n) s) (blH 1 (unf (tkI (toks T n) s.1)) h) ∧ OT T n h (.inr (dS (toks T n) s, [])) 0 (blH 1 (unf (tkI (toks T n) s.1)) h) ∧ effK (toks T n) (dS (toks T n) s) = 1 ∧ h 403 4 = unf (tkI (toks T n) s.1) := by
  have hd := k.2.1
  have bad := k.1.1.bl (k := 1) (p := unf (tkI (toks T n) s.1)) hd (by decide)
  have eb := (flS_e (A := toks T n) (s := s) (k := 1) (p := unf (tkI (toks T n) s.1)) hd (by decide)).1
  exact ⟨bad.1, ⟨bad.2.lr, bad.1, rfl, fun z => absurd (eb.symm.trans z) (by decide)⟩, eb, (k.1.1.at hd).1⟩
theorem Kp.g {T : Int → Int} {n kd ph bg pr : Int} {s : zRd} {C O : List Int} {R : List zFr} {h : zH} (k : Kp T n kd ph bg pr s C O R h) : h 436 (R.length : Int) = ph := k.1.2.2.1.2.2.1.2.1
theorem q_R_387 {d : Nat} {T : Int → Int} {n kd ph bg pr : Int} {s : zRd} {C O : List Int} {R : List zFr} {h : zH} (k : Kp T n kd ph bg pr s C O R h) : zWp (l_R_goesOn_387 (d + 3) R.length kd (if kd = 1 ∨ kd = 5 then 1 else 0) h) (fun v h' => ∃ w, v = .inl w ∧ OT T n h (stC6 (toks T n) s C (kd, ph, bg, pr, O) R) w h') := by
  have fin : zWp (l_R_goesOn_409 (d + 3) R.length kd h) (fun v h' => ∃ w, v = .inl w ∧ OT T n h (st7 (toks T n) s C (kd, ph, bg, pr, O) R) w h') := q_R_409 (d := d) k.1 k.2.1 k.2.2.1.1 k.2.2.1.2.1 k.2.2.1.2.2.1 k.2.2.1.2.2.2.1 k.2.2.1.2.2.2.2 k.2.2.2.1.1 k.2.2.2.1.2 k.2.2.2.2
  have hR := k.2.2.1.1
  unfold stC6
  dsimp only
  rw [el_R_goesOn_387, k.g]
  by_cases z : kd = 1 ∨ kd = 5
  · rw [if_pos (c := kd = 1 ∨ kd = 5) (t := (1 : Int)) z]
    refine zWp_nt (by decide) (zWp_it (by omega) ?_)
    by_cases p : ph = 0
    · rw [if_pos (c := (kd = 1 ∨ kd = 5) ∧ ph = 0) ⟨z, p⟩]
      refine zWp_it p (zWp_qv q_R_blame ?_)
      rw [k.e.2.2.2]
      exact zWp_m (q_R_409D (d := d + 2) k.e.1 (by rw [k.e.2.2.1]; decide) z) (fun v h' u => ⟨0, u.1, by rw [u.2]; exact k.e.2.1⟩)
    · rw [if_neg (c := (kd = 1 ∨ kd = 5) ∧ ph = 0) (fun w => p w.2)]
      exact zWp_nt p fin
  · rw [if_neg (c := kd = 1 ∨ kd = 5) (t := (1 : Int)) z, if_neg (c := (kd = 1 ∨ kd = 5) ∧ ph = 0) (fun w => z w.1)]
    exact zWp_it rfl fin
theorem q_R_359 {d : Nat} {T : Int → Int} {n kd ph bg pr x m a : Int} {s : zRd} {C O : List Int} {R : List zFr} {h h1 : zH} {o : Bool} (c : RL0 T n (s, C, o, (kd, ph, bg, pr, O) :: R) h1) (hd : effK (toks T n) s = 0) (k0 : (tkI (toks T n) s.1).1 ≠ 0) (hR : R.length ≤ 8) (hO : O.length + opsN R < 490) (f : frLr h h1) (ea : a = 4 - x) : zWp (l_R_goesOn_359 (d + 3) R.length a h1) (fun v h' => ∃ w, v = .inl w ∧ OT T n h (.inl (advS s, C, false, (kd, 0, 1, pr, x :: O) :: R)) w h') := by
  rw [el_R_goesOn_359]
  refine k_hb c (by omega) ea (fun h2 c2 f2 _ => zWp_it (by omega) (zWp_lt fun h3 e3 => zWp_it (by omega) (zWp_lt fun h4 e4 => ?_)))
  have b3 := k_st (f := (kd, 0, bg, pr, x :: O)) c2 (Or.inr (Or.inl ⟨rfl, rfl⟩)) e3
  have b4 := k_st (f := (kd, 0, 1, pr, x :: O)) b3.1 (Or.inr (Or.inr ⟨rfl, rfl⟩)) e4
  refine k_ah (d := d + 1) b4.1 hd k0 (fun h5 c5 f5 _ => zWp_lt fun h6 e6 => ?_)
  have b6 := k_54 (o' := false) c5 e6
  exact zWp_s ⟨1, rfl, ((((f.t f2).t b3.2.1).t b4.2.1).t f5).t b6.2.1, b6.1, by rw [b6.2.2]; rfl, rfl⟩
theorem q_R_296 {d : Nat} {T : Int → Int} {n kd ph bg pr : Int} {s : zRd} {C O : List Int} {R : List zFr} {h : zH} (k : Kp T n kd ph bg pr s C O R h) (hw : sgS (toks T n) 2 19 s = true ∨ sgS (toks T n) 2 18 s = true) : zWp (l_R_goesOn_296 (d + 3) R.length h) (fun v h' => ∃ w, v = .inl w ∧ OT T n h (if ph = 0 then .inr (dS (toks T n) s, []) else if sgS (toks T n) 2 19 s = true then .inl (advS s, (jnA 2 O C).2, false, (kd, 0, 1, pr, -16 :: (jnA 2 O C).1) :: R) else .inl (advS s, (jnA 1 O C).2, false, (kd, 0, 1, pr, -17 :: (jnA 1 O C).1) :: R)) w h') := by
  have hR := k.2.2.1.1
  have hd := k.2.1
  have r : RR T n s h := k.1.1
  have e8 : h 403 8 = 0 := by rw [r.2.1.1]; exact hd
  have k0 : (tkI (toks T n) s.1).1 ≠ 0 := hw.elim (fun z => kd_s (by decide) (by decide) z) (fun z => kd_s (by decide) (by decide) z)
  have hO := k.2.2.1.2.2.2.2
  have hC := k.2.2.1.2.2.1
  rw [el_R_goesOn_296, k.g]
  refine zWp_it (by omega) ?_
  by_cases p : ph = 0
  · rw [if_pos (c := ph = 0) (t := (Sum.inr (dS (toks T n) s, []) : zCf ⊕ zLx)) p]
    refine zWp_it p (zWp_qv q_R_blame ?_)
    rw [k.e.2.2.2, el_R_goesOn_314]
    refine zWp_it ?_ (zWp_s ⟨0, rfl, k.e.2.1⟩)
    rw [k.e.1.2.1.1, k.e.2.2.1]
    decide
  rw [if_neg (c := ph = 0) (t := (Sum.inr (dS (toks T n) s, []) : zCf ⊕ zLx)) p]
  refine zWp_nt p ?_
  rw [el_R_goesOn_314, e8]
  refine zWp_nt (by decide) (zWp_qi (r.iW hd (i := 19) (j := 19) (by decide) rfl (by decide)) ?_)
  by_cases z : sgS (toks T n) 2 19 s = true
  · rw [if_pos (c := sgS (toks T n) 2 19 s = true) (t := (1 : Int)) z, if_pos z]
    refine zWp_nt (by decide) ?_
    have jl := jn_l (m := 2) O C hC
    rw [el_R_goesOn_343]
    exact k_jn (d := d + 1) k.1 hR hC (by omega) k.2.2.2.1.1 (fun h1 c1 f1 _ => zWp_nt (by decide) (q_R_359 (m := 0) c1 hd k0 hR (by omega) f1 (by decide)))
  · rw [if_neg (c := sgS (toks T n) 2 19 s = true) (t := (1 : Int)) z, if_neg z]
    refine zWp_it rfl ?_
    have jl := jn_l (m := 1) O C hC
    rw [el_R_goesOn_343]
    exact k_jn (d := d + 1) k.1 hR hC (by omega) k.2.2.2.1.1 (fun h1 c1 f1 _ => zWp_it rfl (q_R_359 (m := 0) c1 hd k0 hR (by omega) f1 (by decide)))
theorem q_R_272 {d : Nat} {T : Int → Int} {n kd ph bg pr : Int} {s : zRd} {C O : List Int} {R : List zFr} {h : zH} (k : Kp T n kd ph bg pr s C O R h) : zWp (l_R_goesOn_272 (d + 3) R.length kd (if kd = 1 ∨ kd = 5 then 1 else 0) h) (fun v h' => ∃ w, v = .inl w ∧ OT T n h (stC4 (toks T n) s C (kd, ph, bg, pr, O) R) w h') := by
  have fin := q_R_387 (d := d) k
  have r : RR T n s h := k.1.1
  have hd := k.2.1
  unfold stC4 hdF
  dsimp only
  rw [el_R_goesOn_272]
  by_cases z : kd = 1 ∨ kd = 5
  case neg =>
    rw [if_neg (c := kd = 1 ∨ kd = 5) (t := (1 : Int)) z] at fin ⊢
    rw [if_neg (c := (kd = 1 ∨ kd = 5) ∧ sgS (toks T n) 2 19 s = true) (fun w => z w.1), if_neg (c := (kd = 1 ∨ kd = 5) ∧ sgS (toks T n) 2 18 s = true) (fun w => z w.1)]
    exact zWp_it rfl fin
  rw [if_pos (c := kd = 1 ∨ kd = 5) (t := (1 : Int)) z] at fin ⊢
  refine zWp_nt (by decide) (zWp_qi (r.iW hd (i := 19) (j := 19) (by decide) rfl (by decide)) ?_)
  by_cases z1 : sgS (toks T n) 2 19 s = true
  · have g := q_R_296 (d := d) k (Or.inl z1)
    rw [if_pos (c := sgS (toks T n) 2 19 s = true) (t := (1 : Int)) z1, if_pos (c := (kd = 1 ∨ kd = 5) ∧ sgS (toks T n) 2 19 s = true) ⟨z, z1⟩]
    rw [if_pos (c := sgS (toks T n) 2 19 s = true) (t := (Sum.inl (advS s, (jnA 2 O C).2, false, (kd, 0, 1, pr, -16 :: (jnA 2 O C).1) :: R) : zCf ⊕ zLx)) z1] at g
    exact zWp_nt (by decide) g
  rw [if_neg (c := sgS (toks T n) 2 19 s = true) (t := (1 : Int)) z1, if_neg (c := (kd = 1 ∨ kd = 5) ∧ sgS (toks T n) 2 19 s = true) (fun w => z1 w.2)]
  refine zWp_it rfl (zWp_qi (r.iW hd (i := 18) (j := 18) (by decide) rfl (by decide)) ?_)
  by_cases z2 : sgS (toks T n) 2 18 s = true
  · have g := q_R_296 (d := d) k (Or.inr z2)
    rw [if_pos (c := sgS (toks T n) 2 18 s = true) (t := (1 : Int)) z2, if_pos (c := (kd = 1 ∨ kd = 5) ∧ sgS (toks T n) 2 18 s = true) ⟨z, z2⟩]
    rw [if_neg (c := sgS (toks T n) 2 19 s = true) (t := (Sum.inl (advS s, (jnA 2 O C).2, false, (kd, 0, 1, pr, -16 :: (jnA 2 O C).1) :: R) : zCf ⊕ zLx)) z1] at g
    exact zWp_nt (by decide) g
  rw [if_neg (c := sgS (toks T n) 2 18 s = true) (t := (1 : Int)) z2, if_neg (c := (kd = 1 ∨ kd = 5) ∧ sgS (toks T n) 2 18 s = true) (fun w => z2 w.2)]
  exact zWp_it rfl fin
theorem q_R_215 {d : Nat} {T : Int → Int} {n kd ph bg pr : Int} {s : zRd} {C O : List Int} {R : List zFr} {h : zH} (k : Kp T n kd ph bg pr s C O R h) (hw : cmA (toks T n) s ≠ 0) : zWp (l_R_goesOn_215 (d + 3) R.length h) (fun v h' => ∃ w, v = .inl w ∧ OT T n h (.inl (advS s, (jnA 5 O C).2, false, (kd, 1, bg, pr, cmA (toks T n) s :: (jnA 5 O C).1) :: R)) w h') := by
  have hR := k.2.2.1.1
  have hd := k.2.1
  have hO := k.2.2.1.2.2.2.2
  have hC := k.2.2.1.2.2.1
  have jl := jn_l (m := 5) O C hC
  have k0 : (tkI (toks T n) s.1).1 ≠ 0 := by rcases (cmA_v hw).1 with z | z | z <;> exact kd_s (by decide) (by decide) z
  rw [el_R_goesOn_215]
  refine k_jn (d := d + 1) k.1 hR hC (by omega) k.2.2.2.1.1 (fun h1 c1 f1 _ => ?_)
  have r1 : RR T n s h1 := c1.1
  have fin : ∀ a x, a = 4 - x → cmA (toks T n) s = x → zWp (l_R_goesOn_251 (d + 3) R.length a h1) (fun v h' => ∃ w, v = .inl w ∧ OT T n h (.inl (advS s, (jnA 5 O C).2, false, (kd, 1, bg, pr, cmA (toks T n) s :: (jnA 5 O C).1) :: R)) w h') := by
    intro a x ea ex
    rw [el_R_goesOn_251, ex]
    refine k_hb c1 (by omega) ea (fun h2 c2 f2 _ => zWp_it (by omega) (zWp_lt fun h3 e3 => ?_))
    have b3 := k_st (f := (kd, 1, bg, pr, x :: (jnA 5 O C).1)) c2 (Or.inr (Or.inl ⟨rfl, rfl⟩)) e3
    refine k_ah (d := d + 1) b3.1 hd k0 (fun h5 c5 f5 _ => zWp_lt fun h6 e6 => ?_)
    have b6 := k_54 (o' := false) c5 e6
    exact zWp_s ⟨1, rfl, (((f1.t f2).t b3.2.1).t f5).t b6.2.1, b6.1, by rw [b6.2.2]; rfl, rfl⟩
  refine zWp_qi (r1.iS hd) ?_
  by_cases z1 : sgS (toks T n) 4 60 s = true
  · rw [if_pos z1]
    exact zWp_nt (by decide) (fin 17 (-13) (by decide) (by unfold cmA; rw [if_pos z1]))
  rw [if_neg z1]
  refine zWp_it rfl (zWp_qi (r1.iS hd) ?_)
  by_cases z2 : sgS (toks T n) 4 62 s = true
  · rw [if_pos z2]
    exact zWp_nt (by decide) (fin 18 (-14) (by decide) (by unfold cmA; rw [if_neg z1, if_pos z2]))
  rw [if_neg z2]
  have z3 : sgS (toks T n) 4 61 s = true := by
    rcases (cmA_v hw).1 with z | z | z
    · exact absurd z z1
    · exact absurd z z2
    · exact z
  exact zWp_it rfl (fin 19 (-15) (by decide) (by unfold cmA; rw [if_neg z1, if_neg z2, if_pos z3]))
theorem q_R_175 {d : Nat} {T : Int → Int} {n kd ph bg pr : Int} {s : zRd} {C O : List Int} {R : List zFr} {h : zH} (k : Kp T n kd ph bg pr s C O R h) : zWp (l_R_goesOn_175 (d + 3) R.length kd (if kd = 1 ∨ kd = 5 then 1 else 0) h) (fun v h' => ∃ w, v = .inl w ∧ OT T n h (stC3 (toks T n) s C (kd, ph, bg, pr, O) R) w h') := by
  have fin := q_R_272 (d := d) k
  have r : RR T n s h := k.1.1
  have hd := k.2.1
  have hR := k.2.2.1.1
  unfold stC3 hdF
  dsimp only
  rw [el_R_goesOn_175, k.g]
  by_cases z : kd = 1 ∨ kd = 5
  case neg =>
    rw [if_neg (c := kd = 1 ∨ kd = 5) (t := (1 : Int)) z] at fin ⊢
    rw [if_neg (c := (kd = 1 ∨ kd = 5) ∧ ph = 0 ∧ cmA (toks T n) s ≠ 0) (fun w => z w.1)]
    exact zWp_it rfl fin
  rw [if_pos (c := kd = 1 ∨ kd = 5) (t := (1 : Int)) z] at fin ⊢
  refine zWp_nt (by decide) (zWp_it (by omega) ?_)
  by_cases p : ph = 0
  case neg =>
    rw [if_neg (c := (kd = 1 ∨ kd = 5) ∧ ph = 0 ∧ cmA (toks T n) s ≠ 0) (fun w => p w.2.1)]
    exact zWp_nt p fin
  have go : ∀ x, sgS (toks T n) 4 x s = true → cmA (toks T n) s ≠ 0 → zWp (l_R_goesOn_215 (d + 3) R.length h) (fun v h' => ∃ w, v = .inl w ∧ OT T n h (if (kd = 1 ∨ kd = 5) ∧ ph = 0 ∧ cmA (toks T n) s ≠ 0 then .inl (advS s, (jnA 5 O C).2, false, (kd, 1, bg, pr, cmA (toks T n) s :: (jnA 5 O C).1) :: R) else stC4 (toks T n) s C (kd, ph, bg, pr, O) R) w h') := by
    intro x _ hw
    rw [if_pos (c := (kd = 1 ∨ kd = 5) ∧ ph = 0 ∧ cmA (toks T n) s ≠ 0) ⟨z, p, hw⟩]
    exact q_R_215 k hw
  refine zWp_it p (zWp_qi (r.iS hd) ?_)
  by_cases z1 : sgS (toks T n) 4 60 s = true
  · rw [if_pos (c := sgS (toks T n) 4 60 s = true) (t := (1 : Int)) z1]
    exact zWp_nt (by decide) (go 60 z1 (by unfold cmA; rw [if_pos z1]; decide))
  rw [if_neg (c := sgS (toks T n) 4 60 s = true) (t := (1 : Int)) z1]
  refine zWp_it rfl (zWp_qi (r.iS hd) ?_)
  by_cases z2 : sgS (toks T n) 4 62 s = true
  · rw [if_pos (c := sgS (toks T n) 4 62 s = true) (t := (1 : Int)) z2]
    exact zWp_nt (by decide) (go 62 z2 (by unfold cmA; rw [if_neg z1, if_pos z2]; decide))
  rw [if_neg (c := sgS (toks T n) 4 62 s = true) (t := (1 : Int)) z2]
  refine zWp_it rfl (zWp_qi (r.iS hd) ?_)
  by_cases z3 : sgS (toks T n) 4 61 s = true
  · rw [if_pos (c := sgS (toks T n) 4 61 s = true) (t := (1 : Int)) z3]
    exact zWp_nt (by decide) (go 61 z3 (by unfold cmA; rw [if_neg z1, if_neg z2, if_pos z3]; decide))
  rw [if_neg (c := sgS (toks T n) 4 61 s = true) (t := (1 : Int)) z3, if_neg (c := (kd = 1 ∨ kd = 5) ∧ ph = 0 ∧ cmA (toks T n) s ≠ 0) (fun w => w.2.2 (by unfold cmA; rw [if_neg z1, if_neg z2, if_neg z3]))]
  exact zWp_it rfl fin
theorem q_R_goes {d : Nat} {T : Int → Int} {n kd ph bg pr : Int} {s : zRd} {C O : List Int} {R : List zFr} {h : zH} (k : Kp T n kd ph bg pr s C O R h) : zWp (m_R_goesOn (d + 4) h) (fun v h' => ∃ w, v = .inl w ∧ OT T n h (stT (toks T n) s C (kd, ph, bg, pr, O) R) w h') := by
  have fin := q_R_175 (d := d) k
  have r : RR T n s h := k.1.1
  have hd := k.2.1
  have hR := k.2.2.1.1
  have e50 : h 403 50 = (R.length : Int) + 1 := k.1.2.2.1.1
  have e35 : h 435 (R.length : Int) = kd := k.1.2.2.1.2.2.1.1
  rw [em_R_goesOn, w32_i (x := h 403 50 - 1) (by omega), show h 403 50 - 1 = (R.length : Int) by omega, e35, stT_u]
  refine zWp_it (by omega) (zWp_qi q_R_isT (zWp_it (by omega) ?_))
  rw [k.g]
  unfold hdF
  dsimp only
  by_cases p : ph < 2
  case neg =>
    rw [if_neg (c := ph < 2 ∧ smC (toks T n) s ≠ 0) (fun w => p w.1), if_neg (c := ph < 2 ∧ pdS (toks T n) s ≠ 0) (fun w => p w.1)]
    exact zWp_nt p fin
  have sg : ∀ x m, tk5 (toks T n) s x m → zWp (l_R_goesOn_74 (d + 3) h) (fun v h' => ∃ w, v = .inl w ∧ OT T n h (.inl (advS s, (jnA m O C).2, false, (kd, ph, bg, pr, x :: (jnA m O C).1) :: R)) w h') := fun x m hx => q_R_74 (d := d) k.1 hd hR k.2.2.1.2.2.1 k.2.2.1.2.2.2.2 k.2.2.2.1.1 hx
  refine zWp_it p (zWp_qi (r.iS hd) ?_)
  by_cases z1 : sgS (toks T n) 4 43 s = true
  · have e : smC (toks T n) s = -6 := by unfold smC; rw [if_pos z1]
    rw [e, if_pos (c := sgS (toks T n) 4 43 s = true) (t := (1 : Int)) z1, if_pos (c := ph < 2 ∧ (-6 : Int) ≠ 0) ⟨p, by decide⟩]
    exact zWp_nt (by decide) (sg (-6) 5 (Or.inl ⟨z1, rfl, rfl⟩))
  rw [if_neg (c := sgS (toks T n) 4 43 s = true) (t := (1 : Int)) z1]
  refine zWp_it rfl (zWp_qi (r.iS hd) ?_)
  by_cases z2 : sgS (toks T n) 4 45 s = true
  · have e : smC (toks T n) s = -7 := by unfold smC; rw [if_neg z1, if_pos z2]
    rw [e, if_pos (c := sgS (toks T n) 4 45 s = true) (t := (1 : Int)) z2, if_pos (c := ph < 2 ∧ (-7 : Int) ≠ 0) ⟨p, by decide⟩]
    exact zWp_nt (by decide) (sg (-7) 5 (Or.inr (Or.inl ⟨z2, rfl, rfl⟩)))
  rw [if_neg (c := sgS (toks T n) 4 45 s = true) (t := (1 : Int)) z2]
  have e0 : smC (toks T n) s = 0 := by unfold smC; rw [if_neg z1, if_neg z2]
  rw [if_neg (c := ph < 2 ∧ smC (toks T n) s ≠ 0) (fun w => w.2 e0)]
  refine zWp_it rfl (zWp_qi (r.iS hd) ?_)
  by_cases z3 : sgS (toks T n) 4 42 s = true
  · have e : pdS (toks T n) s = -8 := by unfold pdS; rw [if_pos z3]
    rw [e, if_pos (c := sgS (toks T n) 4 42 s = true) (t := (1 : Int)) z3, if_pos (c := ph < 2 ∧ (-8 : Int) ≠ 0) ⟨p, by decide⟩]
    exact zWp_nt (by decide) (sg (-8) 6 (Or.inr (Or.inr (Or.inl ⟨z3, rfl, rfl⟩))))
  rw [if_neg (c := sgS (toks T n) 4 42 s = true) (t := (1 : Int)) z3]
  refine zWp_it rfl (zWp_qi (r.iS hd) ?_)
  by_cases z4 : sgS (toks T n) 4 47 s = true
  · have e : pdS (toks T n) s = -9 := by unfold pdS; rw [if_neg z3, if_pos z4]
    rw [e, if_pos (c := sgS (toks T n) 4 47 s = true) (t := (1 : Int)) z4, if_pos (c := ph < 2 ∧ (-9 : Int) ≠ 0) ⟨p, by decide⟩]
    exact zWp_nt (by decide) (sg (-9) 6 (Or.inr (Or.inr (Or.inr (Or.inl ⟨z4, rfl, rfl⟩)))))
  rw [if_neg (c := sgS (toks T n) 4 47 s = true) (t := (1 : Int)) z4]
  refine zWp_it rfl (zWp_qi (r.iS hd) ?_)
  by_cases z5 : sgS (toks T n) 4 37 s = true
  · have e : pdS (toks T n) s = -10 := by unfold pdS; rw [if_neg z3, if_neg z4, if_pos z5]
    rw [e, if_pos (c := sgS (toks T n) 4 37 s = true) (t := (1 : Int)) z5, if_pos (c := ph < 2 ∧ (-10 : Int) ≠ 0) ⟨p, by decide⟩]
    exact zWp_nt (by decide) (sg (-10) 6 (Or.inr (Or.inr (Or.inr (Or.inr ⟨z5, rfl, rfl⟩)))))
  have e1 : pdS (toks T n) s = 0 := by unfold pdS; rw [if_neg z3, if_neg z4, if_neg z5]
  rw [if_neg (c := sgS (toks T n) 4 37 s = true) (t := (1 : Int)) z5, if_neg (c := ph < 2 ∧ pdS (toks T n) s ≠ 0) (fun w => w.2 e1)]
  exact zWp_it rfl fin
