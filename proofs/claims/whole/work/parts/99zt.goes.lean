/-! the reference takes an operand, and goes on -/
theorem OF.t {T : Int → Int} {n : Int} {h h1 h' : zH} {z : zCf ⊕ zLx} {a : Int} (f : frLr h h1) (o : OF T n h1 z a h') : OF T n h z a h' := ⟨f.t o.1, o.2⟩
theorem q_R_isT {d : Nat} {x : Int} {h : zH} : m_R_isTest (d + 1) x h = some (.inl (if x = 1 ∨ x = 5 then 1 else 0), h) := by
  rw [em_R_isTest]
  by_cases c1 : x = 1
  · rw [if_pos c1, if_pos (Or.inl c1)]
  rw [if_neg c1]
  by_cases c2 : x = 5
  · rw [if_pos c2, if_pos (Or.inr c2)]
  · rw [if_neg c2, if_neg (fun z => z.elim c1 c2)]
theorem q_R_oper {d : Nat} {T : Int → Int} {n kd ph bg pr : Int} {s : zRd} {C O : List Int} {R : List zFr} {h : zH} {o : Bool} (ok : AOk (toks T n)) (c : RL0 T n (s, C, o, (kd, ph, bg, pr, O) :: R) h) (hd : effK (toks T n) s = 0) (hR : R.length ≤ 8) (hC : C.length ≤ s.1) (hO : O.length + opsN R < 500) (hb : bg = 0 ∨ bg = 1) : zWp (m_R_operand (d + 5) h) (fun v h' => ∃ w, v = .inl w ∧ OF T n h (stpF (toks T n) s C (kd, ph, bg, pr, O) R) w h') := by
  have c0 := c
  obtain ⟨r, co, hf, e51⟩ := c
  dsimp only at r co hf e51
  have hs := r.1.2.2.2.1
  have hA := ok.1
  have e50 : h 403 50 = (R.length : Int) + 1 := hf.1
  have e35 : h 435 (R.length : Int) = kd := hf.2.2.1.1
  have e37 : h 437 (R.length : Int) = bg := hf.2.2.1.2.2.1
  have el : ((kd, ph, 0, pr, O) :: R : List zFr).length = R.length + 1 := rfl
  have bg0 : ∀ h1, h1 = zset h 437 (R.length : Int) 0 → RL0 T n (s, C, o, (kd, ph, 0, pr, O) :: R) h1 ∧ frLr h h1 := by
    intro h1 e1
    have k1 : ∀ q, h1 403 q = h 403 q := fun q => by rw [e1, zset_o (by decide)]
    have r1 : ∀ r, r ≠ 437 → h1 r = h r := fun r hr => by rw [e1, zset_n hr]
    refine ⟨⟨r.fr (fun q _ _ => k1 q) (r1 404 (by decide)), co.fr (k1 43) (k1 44) (r1 433 (by decide)) (r1 434 (by decide)), ?_, (k1 51).trans e51⟩, fun r hr => r1 r (by omega), fun q _ => k1 q, fun r i hr _ => by rw [r1 r (by omega)]⟩
    rw [e1]
    exact hf.st (Or.inr (Or.inr ⟨rfl, rfl⟩))
  have part : ∀ h1, h1 = zset h 437 (R.length : Int) 0 → zWp (l_R_operand_121 (d + 4) h1) (fun v h' => ∃ w, v = .inl w ∧ OF T n h (ptF (toks T n) s C ((kd, ph, 0, pr, O) :: R)) w h') := by
    intro h1 e1
    have b := bg0 h1 e1
    exact zWp_m (q_R_121 ok b.1 hd (by omega) hC) (fun v h' ⟨w, e, u⟩ => ⟨w, e, u.t b.2⟩)
  have plain : zWp (l_R_operand_33 (d + 4) (R.length : Int) 0 h) (fun v h' => ∃ w, v = .inl w ∧ OF T n h (ptF (toks T n) s C ((kd, ph, 0, pr, O) :: R)) w h') := by
    rw [el_R_operand_33]
    refine zWp_it rfl ?_
    rw [el_R_operand_60]
    refine zWp_it (by omega) (zWp_lt fun h1 e1 => zWp_it rfl ?_)
    rw [el_R_operand_87]
    exact zWp_it rfl (part h1 e1)
  rw [em_R_operand, w32_i (x := h 403 50 - 1) (by omega), show h 403 50 - 1 = (R.length : Int) by omega, e35]
  refine zWp_it (by omega) (zWp_qi q_R_isT ?_)
  unfold stpF
  dsimp only
  by_cases tst : kd = 1 ∨ kd = 5
  case neg =>
    rw [if_neg tst, if_neg (c := (kd = 1 ∨ kd = 5) ∧ bg = 1) (fun z => tst z.1)]
    exact zWp_it rfl plain
  rw [if_pos tst]
  refine zWp_nt (by decide) (zWp_it (by omega) ?_)
  rw [e37]
  by_cases b1 : bg = 1
  case neg =>
    rw [if_neg (c := (kd = 1 ∨ kd = 5) ∧ bg = 1) (fun z => b1 z.2)]
    exact zWp_it (by omega) plain
  rw [if_pos (c := (kd = 1 ∨ kd = 5) ∧ bg = 1) ⟨tst, b1⟩]
  refine zWp_nt (by omega) ?_
  rw [el_R_operand_33]
  refine (zWp_nt (by decide) (zWp_qi (r.iW hd (i := 20) (j := 20) (by decide) rfl (by decide)) ?_))
  by_cases c1 : sgS (toks T n) 2 20 s = true
  · rw [if_pos (c := sgS (toks T n) 2 20 s = true) (t := (1 : Int)) c1, if_pos c1]
    refine zWp_nt (by decide) (zWp_bv (q_R_hb (d := d + 3) (o := -18) hf hO (by decide)) (fun _ h1 u => ?_))
    have r1 : RR T n s h1 := r.fr (fun q q1 q2 => u.2.2.1 q (by omega)) (u.2.1 404 (by decide))
    have c1' : RL0 T n (s, C, o, (kd, ph, bg, pr, -18 :: O) :: R) h1 := ⟨r1, co.fr (u.2.2.1 43 (by decide)) (u.2.2.1 44 (by decide)) (u.2.1 433 (by decide)) (u.2.1 434 (by decide)), u.1, (u.2.2.1 51 (by decide)).trans e51⟩
    exact zWp_bv (q_R_adv (d := d + 2) r1 hd (kd_s (by decide) (by decide) c1)) (fun _ h2 u2 => zWp_s ⟨0, rfl, u.2.2.2.t u2.2.lr, Or.inl rfl, OF_l (c1'.E u2.1 u2.2) rfl⟩)
  rw [if_neg (c := sgS (toks T n) 2 20 s = true) (t := (1 : Int)) c1, if_neg c1]
  refine zWp_it rfl ?_
  rw [el_R_operand_60]
  refine zWp_it (by omega) (zWp_lt fun h1 e1 => zWp_nt (by decide) ?_)
  obtain ⟨c1', f1⟩ := bg0 h1 e1
  have r1 : RR T n s h1 := c1'.1
  refine zWp_qi (r1.iS hd) ?_
  by_cases c2 : sgS (toks T n) 4 91 s = true
  · rw [if_pos (c := sgS (toks T n) 4 91 s = true) (t := (1 : Int)) c2, if_pos c2]
    refine zWp_nt (by decide) (zWp_bv (q_R_opn (d := d + 1) (kd := 5) (pr := 0) c1' hd (kd_s (by decide) (by decide) c2) (by omega)) (fun _ h2 u => zWp_s ⟨0, rfl, f1.t u.1, Or.inl rfl, ?_⟩))
    unfold opF
    by_cases z : ((kd, ph, 0, pr, O) :: R : List zFr).length = 9
    · rw [if_pos z]
      exact ⟨u.2.1 z, by dsimp only; rw [(flS_e hd (by decide)).1]; decide⟩
    · rw [if_neg z]
      exact OF_l ((u.2.2 z).2.1 h2 (fun _ _ => rfl) (fun _ _ => rfl) (fun w => by omega)) rfl
  rw [if_neg (c := sgS (toks T n) 4 91 s = true) (t := (1 : Int)) c2, if_neg c2]
  refine zWp_it rfl ?_
  rw [el_R_operand_87]
  refine zWp_nt (by decide) (zWp_qi (r1.iW hd (i := 21) (j := 21) (by decide) rfl (by decide)) ?_)
  by_cases c3 : sgS (toks T n) 2 21 s = true
  · rw [if_pos (c := sgS (toks T n) 2 21 s = true) (t := (1 : Int)) c3, if_pos c3]
    have kk := kd_s (by decide) (by decide) c3
    have := ok.2.1 s.1 hs kk
    refine zWp_nt (by decide) (zWp_bv (q_R_addC (d := d + 3) (x := 1) c1'.2.1 (by dsimp only; omega) (Or.inr (Or.inl ⟨rfl, rfl⟩))) (fun _ h2 u => zWp_it (by omega) (zWp_lt fun h3 e3 => ?_)))
    have k3 : ∀ q, ¬ q = 43 → h3 403 q = h1 403 q := fun q hq => by rw [e3, zset_o (by decide), u.2.2.1 q hq]
    have k3' : ∀ q, h3 403 q = h2 403 q := fun q => by rw [e3, zset_o (by decide)]
    have f3 : frLr h2 h3 := ⟨fun r hr => by rw [e3, zset_n (by omega)], fun q _ => k3' q, fun r i hr _ => by rw [e3, zset_o (by omega)]⟩
    have hf2 : HF ((kd, ph, 0, pr, O) :: R) h2 := c1'.2.2.1.fr (u.2.2.1 50 (by decide)) (u.2.2.1 53 (by decide)) (fun r r1' r2' => u.2.1 r (by omega))
    have c3' : RL0 T n (s, putA C 1, o, (kd, 2, 0, pr, O) :: R) h3 := by
      refine ⟨r1.fr (fun q q1 q2 => k3 q (by omega)) (by rw [e3, zset_n (by decide), u.2.1 404 (by decide)]), u.1.fr (k3' 43) (k3' 44) (by rw [e3, zset_n (by decide)]) (by rw [e3, zset_n (by decide)]), ?_, (k3 51 (by decide)).trans c1'.2.2.2⟩
      rw [e3]
      exact hf2.st (Or.inr (Or.inl ⟨rfl, rfl⟩))
    exact zWp_bv (q_R_adv (d := d + 2) c3'.1 hd kk) (fun _ h4 u4 => zWp_s ⟨1, rfl, ((f1.t u.2.2.2).t f3).t u4.2.lr, Or.inr rfl, OF_l (c3'.E u4.1 u4.2) rfl⟩)
  rw [if_neg (c := sgS (toks T n) 2 21 s = true) (t := (1 : Int)) c3, if_neg c3]
  exact zWp_it rfl (part h1 e1)
/-! goesOn -/
def OT (T : Int → Int) (n : Int) (h : zH) (z : zCf ⊕ zLx) (a : Int) (h' : zH) : Prop := frLr h h' ∧ match z with
  | .inl c' => RL0 T n c' h' ∧ h' 403 54 = (if c'.2.2.1 = true then 1 else 0) ∧ a = 1
  | .inr r => RR T n r.1 h' ∧ a = 0 ∧ (effK (toks T n) r.1 = 0 → CoR r.2 h')
theorem OT.t {T : Int → Int} {n : Int} {h h1 h' : zH} {z : zCf ⊕ zLx} {a : Int} (f : frLr h h1) (o : OT T n h1 z a h') : OT T n h z a h' := ⟨f.t o.1, o.2⟩
theorem jn_l {m : Int} : ∀ (O C : List Int), C.length + O.length ≤ 1600 → (jnA m O C).1.length + (jnA m O C).2.length = O.length + C.length ∧ (jnA m O C).1.length ≤ O.length ∧ ∀ o ∈ (jnA m O C).1, o ∈ O
  | [], C, _ => ⟨rfl, Nat.le_refl _, fun o h => h⟩
  | x :: O, C, hC => by
    rw [List.length_cons] at hC
    rw [jnA]
    by_cases z : rkA x < m
    · rw [if_pos z]
      exact ⟨rfl, Nat.le_refl _, fun o h => h⟩
    · rw [if_neg z]
      have ep : (putA C x).length = C.length + 1 := by unfold putA; rw [if_pos (by omega), List.length_append]; rfl
      have i := jn_l (m := m) O (putA C x) (by omega)
      exact ⟨by rw [i.1, List.length_cons]; omega, by rw [List.length_cons]; omega, fun o h => List.mem_cons_of_mem _ (i.2.2 o h)⟩
theorem k_jn {d : Nat} {T : Int → Int} {n m kd ph bg pr : Int} {s : zRd} {C O : List Int} {R : List zFr} {h : zH} {o : Bool} {f : zH → zR} {Q : zV → zH → Prop} (c : RL0 T n (s, C, o, (kd, ph, bg, pr, O) :: R) h) (hR : R.length ≤ 8) (hC : C.length + O.length ≤ 1600) (hO : O.length + opsN R ≤ 500) (hP : ∀ o ∈ O, o ≤ -6) (k : ∀ h', RL0 T n (s, (jnA m O C).2, o, (kd, ph, bg, pr, (jnA m O C).1) :: R) h' → frLr h h' → h' 403 54 = h 403 54 → zWp (f h') Q) : zWp (zqv (m_R_joins (d + 2) m h) f) Q := by
  obtain ⟨r, co, hf, e51⟩ := c
  dsimp only at r co hf e51
  rw [em_R_joins]
  refine zWp_bv (q_R_jn (d := d) (by omega) O C h hf co hC hO hP) (fun _ h1 u => k h1 ⟨?_, u.2.1, u.1, ?_⟩ u.2.2.1 (u.2.2.2 54 (by decide)))
  · exact r.fr (fun q q1 q2 => u.2.2.2 q (by omega)) (u.2.2.1.1 404 (by decide))
  · exact (u.2.2.2 51 (by decide)).trans e51
theorem k_hb {d : Nat} {T : Int → Int} {n kd ph bg pr x a : Int} {s : zRd} {C O : List Int} {R : List zFr} {h : zH} {o : Bool} {f : zH → zR} {Q : zV → zH → Prop} (c : RL0 T n (s, C, o, (kd, ph, bg, pr, O) :: R) h) (hO : O.length + opsN R < 500) (ea : a = 4 - x) (k : ∀ h', RL0 T n (s, C, o, (kd, ph, bg, pr, x :: O) :: R) h' → frLr h h' → h' 403 54 = h 403 54 → zWp (f h') Q) : zWp (zqv (m_R_holdsBack (d + 1) a h) f) Q := by
  obtain ⟨r, co, hf, e51⟩ := c
  dsimp only at r co hf e51
  refine zWp_bv (q_R_hb (d := d) (o := x) hf hO ea) (fun _ h1 u => k h1 ⟨?_, ?_, u.1, ?_⟩ u.2.2.2 (u.2.2.1 54 (by decide)))
  · exact r.fr (fun q q1 q2 => u.2.2.1 q (by omega)) (u.2.1 404 (by decide))
  · exact co.fr (u.2.2.1 43 (by decide)) (u.2.2.1 44 (by decide)) (u.2.1 433 (by decide)) (u.2.1 434 (by decide))
  · exact (u.2.2.1 51 (by decide)).trans e51
theorem k_ah {d : Nat} {T : Int → Int} {n : Int} {s : zRd} {C : List Int} {F : List zFr} {h : zH} {o : Bool} {f : zH → zR} {Q : zV → zH → Prop} (c : RL0 T n (s, C, o, F) h) (hd : effK (toks T n) s = 0) (k0 : (tkI (toks T n) s.1).1 ≠ 0) (k : ∀ h', RL0 T n (advS s, C, o, F) h' → frLr h h' → h' 403 54 = h 403 54 → zWp (f h') Q) : zWp (zqv (m_R_ahead (d + 2) h) f) Q :=
  zWp_bv (q_R_adv (d := d) c.1 hd k0) (fun _ h1 u => k h1 (c.E u.1 u.2) u.2.lr (u.2.2 54 (by decide)))
/-- a field of the top frame set -/
theorem k_st {T : Int → Int} {n kd ph bg pr r v : Int} {s : zRd} {C O : List Int} {R : List zFr} {h h1 : zH} {o : Bool} {f : zFr} (c : RL0 T n (s, C, o, (kd, ph, bg, pr, O) :: R) h) (hr : (r = 435 ∧ f = (v, ph, bg, pr, O) ∧ ((v = 3 ∨ v = 4) → (kd = 3 ∨ kd = 4))) ∨ (r = 436 ∧ f = (kd, v, bg, pr, O)) ∨ (r = 437 ∧ f = (kd, ph, v, pr, O))) (e1 : h1 = zset h r R.length v) : RL0 T n (s, C, o, f :: R) h1 ∧ frLr h h1 ∧ h1 403 54 = h 403 54 := by
  have hr' : 435 ≤ r ∧ r ≤ 437 := by omega
  obtain ⟨rr, co, hf, e51⟩ := c
  dsimp only at rr co hf e51
  have k1 : ∀ q, h1 403 q = h 403 q := fun q => by rw [e1, zset_o (by omega)]
  have r1 : ∀ a, a ≠ r → h1 a = h a := fun a ha => by rw [e1, zset_n ha]
  refine ⟨⟨rr.fr (fun q _ _ => k1 q) (r1 404 (by omega)), co.fr (k1 43) (k1 44) (r1 433 (by omega)) (r1 434 (by omega)), ?_, (k1 51).trans e51⟩, ⟨fun a ha => r1 a (by omega), fun q _ => k1 q, fun a i ha _ => by rw [r1 a (by omega)]⟩, k1 54⟩
  rw [e1]
  exact hf.st hr
theorem k_54 {T : Int → Int} {n v : Int} {s : zRd} {C : List Int} {F : List zFr} {h h1 : zH} {o o' : Bool} (c : RL0 T n (s, C, o, F) h) (e1 : h1 = zset h 403 54 v) : RL0 T n (s, C, o', F) h1 ∧ frLr h h1 ∧ h1 403 54 = v := by
  have k1 : ∀ q, ¬ q = 54 → h1 403 q = h 403 q := fun q hq => by rw [e1, zset_j hq]
  have r1 : ∀ a, a ≠ 403 → h1 a = h a := fun a ha => by rw [e1, zset_n ha]
  refine ⟨⟨c.1.fr (fun q _ _ => k1 q (by omega)) (r1 404 (by decide)), c.2.1.fr (k1 43 (by decide)) (k1 44 (by decide)) (r1 433 (by decide)) (r1 434 (by decide)), c.2.2.1.fr (k1 50 (by decide)) (k1 53 (by decide)) (fun r r1' r2' => r1 r (by omega)), (k1 51 (by decide)).trans c.2.2.2⟩, ⟨fun a ha => r1 a (by omega), fun q hq => k1 q (by omega), fun a i ha _ => by rw [r1 a (by omega)]⟩, by rw [e1, zset_e]⟩
