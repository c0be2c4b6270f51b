/-! lever, spring, goOn: both alike -/
/-- what is due for a trace -/
noncomputable def duT (Λ : zLw) (σ st : zH) (D : zDR) (tr : zTr) : zDu := dueF Λ σ (st 7, D) (ecl σ (trEv σ tr))
theorem q_act {d : Nat} {σ st st' : zH} {D : zDR} {K : zKp} {Λ : zLw} {G h h1 : zH} {tr : zTr} (c : CI σ st D K Λ G h) (h4 : h 331 4 = 0) (pi : PI σ tr st' (h 0 7) 67 328 h1) (f : frM 67 328 h h1) (ok : trOk σ tr) (e7 : st' 7 = st 7) (e10 : st' 10 = st 10) : zWp (m_Ledger_settle (d + 9) 326 (h1 0 7) 67 328 h1) (fun _ h2 => CI σ (stD st' (duT Λ σ st D tr)) (duT Λ σ st D tr).2 K Λ G h2 ∧ h2 328 = h1 328 ∧ fr403 h h2) := by
  have ha := c.1.2.1.a
  have ha2 := c.1.2.1.1
  have w := c.1.2.2.2.1
  have e0 : h1 0 = h 0 := f 0 (by decide)
  have cl : CLd D h1 := by
    refine c.2.2.2.2.1.fr ?_ (f 327 (by decide))
    rw [pi.2.1.2.2.2.2.2.2.2, c.1.2.2.1.2.2.2.2.2.2.2, e10]
  have la : LawC Λ (h 0 7) h1 := c.2.2.2.2.2.2.2.fr (fun r r1 r2 => f r (by omega)) (fun q _ => by rw [f _ (by omega)])
  rw [e0]
  refine zWp_m (q_settle (d := d) (D := D) w pi ok la cl) ?_
  rintro v h2 ⟨u1, u2, u3, u4, u5⟩
  rw [e7] at u1 u2
  refine ⟨c.st h4 u1 pi.2.2.1.sd u2 (fun q hq => by rw [u5 q hq, f _ (by omega)]) (fun r hr => by rw [u3 r (by omega), f r (by omega)]), u3 328 (by omega), fun r hr => by rw [u3 r (by omega), f r (by omega)]⟩
theorem RI.dr {σ st : zH} {D : zDR} {K : zKp} {Λ : zLw} {G h h' : zH} {X : zH × zTr} {d : Nat} {E : List zEv} {R : Int} {W : List Int} (c : RI σ st D K Λ G h) (p : DPost σ X 0 Λ d E R W (st 7, D) h h h') (wt : WT σ X.1) : RI σ (stD X.1 (duT Λ σ st D X.2)) (duT Λ σ st D X.2).2 K Λ G h' := by
  obtain ⟨c1, c2, c3, c4, c5, c6⟩ := c
  obtain ⟨rt, rs, f, -, -, dr⟩ := p
  obtain ⟨rd, -, fd⟩ := dr rfl
  have e12 := f.2.1 12 (by decide)
  have o : ∀ r, ¬ (r = 403 ∨ r = 442 ∨ r = 443 ∨ 444 ≤ r ∧ r ≤ 448 ∨ 451 ≤ r ∧ r ≤ 453 ∨ r = 456) → h' r = h r := fun r z => f.1 r (by omega) (by omega)
  refine ⟨⟨rs, rt.sd, c1.2.2.1, wt.sd⟩, c2.fr (fun q z => f.2.1 q (by omega)) (fun r z => o r (by omega)), ?_, ?_, fun d => (c5 d).fr e12 (fun r a b => o r (by omega)), c6.fr e12 (fun r z => o r (by omega))⟩
  · rw [stD_7]; exact rd
  · exact c4.fr c1.2.2.1 (f.2.1 68 (by decide)) (f.2.1 69 (by decide)) (fun i z => f.2.2.1 i (by omega)) (fun i z => f.2.2.2.1 i (by omega)) (fun i z => ⟨f.2.2.2.2 i (by omega), by rw [o 449 (by decide)], by rw [o 450 (by decide)]⟩) (fun i z => fd.1 i (by omega)) (fun i z => fd.2.1 i (by omega)) (fun i z => fd.2.2 i (by omega))
theorem q_R_kf {d : Nat} {σ st : zH} {D : zDR} {K : zKp} {Λ : zLw} {G h : zH} (c : RI σ st D K Λ G h) {F : zH → zR} {Q : zV → zH → Prop} (k : ∀ h2, RI σ st D (kp st D K) Λ G h2 → RV [] 0 h2 → RW [] h2 → frLo h h2 → zWp (F h2) Q) : zWp (zqv (m_R_keeps (d + 2) h) fun h1 => zqv (m_R_forgets (d + 2) h1) fun h2 => F h2) Q := by
  obtain ⟨v1, h1, e1, u1, u2⟩ := q_R_keeps (d := d) c
  obtain ⟨v2, h2, e2, r1, r2, r3, r4⟩ := q_R_forgets (d := d + 1) (h := h1)
  refine zWp_qv e1 (zWp_qv e2 (k h2 (u1.q (frQR.fg r3 r4)) r1 r2 (fun r hr => by rw [r3 r (by omega), u2 r hr])))
theorem a_lever {d : Nat} {x y : Int} {h : zH} (i : INV h) : Alike (m_B_lever (d + 12) x y h) (m_R_lever (d + 12) x y) := by
  obtain ⟨σ, st, D, K, Λ, G, c, r, wk, wg⟩ := i
  have b := c.1
  have w := b.2.2.2.1
  have wt := b.2.2.2.2
  by_cases c1 : (0 ≤ x ∧ x < nS σ) ∧ st 1 x ≠ -1
  case neg =>
    refine alike_ref c r wk wg (V := .inl (-1)) (k := 2) (by decide) ?_ (fun h' r' => ?_)
    · rw [em_B_lever]
      refine zWp_qi (q_stoneLies b) ?_
      rw [if_neg c1]
      exact zWp_it rfl (zWp_qi (q_refuse (by decide)) (zWp_s ⟨rfl, rfl⟩))
    · rw [em_R_lever]
      refine zWp_qi (q_R_isThere r'.1) ?_
      rw [if_neg c1]
      exact zWp_it rfl (zWp_qi (q_R_refuses (by decide)) (zWp_s ⟨rfl, rfl⟩))
  by_cases c2 : 1 ≤ y ∧ y ≤ 99
  case neg =>
    refine alike_ref c r wk wg (V := .inl (-1)) (k := 2) (by decide) ?_ (fun h' r' => ?_)
    · rw [em_B_lever]
      refine zWp_qi (q_stoneLies b) ?_
      rw [if_pos c1]
      refine zWp_nt (by decide) (zWp_qi q_between ?_)
      rw [if_neg c2]
      exact zWp_it rfl (zWp_qi (q_refuse (by decide)) (zWp_s ⟨rfl, rfl⟩))
    · rw [em_R_lever]
      refine zWp_qi (q_R_isThere r'.1) ?_
      rw [if_pos c1]
      refine zWp_nt (by decide) (zWp_qi q_R_is ?_)
      rw [if_neg c2]
      exact zWp_it rfl (zWp_qi (q_R_refuses (by decide)) (zWp_s ⟨rfl, rfl⟩))
  have ey : w32 (10 * y) = 10 * y := w32_i (by omega)
  have ok := drv_tr w wt (p := 10 * y) c1.1
  have dok := drv_ok w wt (p := 10 * y) c1.1
  refine alike2 ((wk.kp wt).ap (dueF_pre (Λ := Λ) (σ := σ) (ecl σ (trEv σ (drv σ st x (10 * y)).2)) (st 7, D))) wg (V := .inl ((pathT (drv σ st x (10 * y)).2).length : Int)) (st := stD (drv σ st x (10 * y)).1 (duT Λ σ st D (drv σ st x (10 * y)).2)) (Λ := Λ) (h := h) ?_ (fun h' f => ?_)
  · rw [em_B_lever]
    refine zWp_qi (q_stoneLies b) ?_
    rw [if_pos c1]
    refine zWp_nt (by decide) (zWp_qi q_between ?_)
    rw [if_pos c2]
    obtain ⟨v1, h1, e1, u1, u2, u3⟩ := q_remember (d := d + 8) c
    obtain ⟨v2, h2, e2, p1, p2⟩ := q_pushOne (d := d + 6) (p := 10 * y) w ma328 u1.1.2.1 u1.1.2.2.1 wt c1.1 (by omega)
    obtain ⟨v3, h3, e3, s1, s2, s3⟩ := q_act (d := d + 2) u1 u2 p1 p2 ok (drv_k (by decide) (by decide) (by decide) (by decide) (by decide)) (drv_k (by decide) (by decide) (by decide) (by decide) (by decide))
    refine zWp_nt (by decide) (zWp_qv e1 ?_)
    rw [ey]
    refine zWp_qv e2 (zWp_qv e3 (zWp_s ⟨?_, s1, fun r z => by rw [s3 r z, u3 r (by omega)]⟩))
    rw [s2, p1.2.2.2.1.2.2.2.2.2.2.1.1]
  · have r' := r.hi f
    rw [em_R_lever]
    refine zWp_qi (q_R_isThere r'.1) ?_
    rw [if_pos c1]
    refine zWp_nt (by decide) (zWp_qi q_R_is ?_)
    rw [if_pos c2]
    refine zWp_nt (by decide) (q_R_kf (d := d + 9) r' (fun h2 k1 k2 k3 k4 => ?_))
    rw [ey]
    obtain ⟨v3, h3, e3, q1, q2⟩ := q_R_drives (d := d + 7) (v := 0) (p := 10 * y) (Λ := Λ) (h0 := h2) (Δ := (st 7, D)) w k1.1.1 k1.1.2.1 wt c1.1 (by omega) k2 k3 (by decide) (fun _ => ⟨k1.2.2.1, k1.2.2.2.2.1 d, frD.rf h2⟩)
    rw [q1] at e3
    exact zWp_qi e3 (zWp_s ⟨rfl, k1.dr q2 dok.1, fun r z => by rw [q2.2.2.1.1 r (by omega) (by omega), k4 r z]⟩)
theorem q_springNow {d : Nat} {σ st : zH} {D : zDR} {K : zKp} {Λ : zLw} {G h : zH} {p : Int} (c : CI σ st D K Λ G h) (hp : 0 ≤ p ∧ p ≤ 9999) : zWp (m_B_springNow (d + 10) p h) (fun v h' => v = .inl (w32 ((spr σ p st).2.length : Int)) ∧ CI σ (stD (spr σ p st).1 (duT Λ σ st D (spr σ p st).2)) (duT Λ σ st D (spr σ p st).2).2 (kp st D K) Λ G h' ∧ fr403 h h') := by
  have b := c.1
  have w := b.2.2.2.1
  have wt := b.2.2.2.2
  have hS0 : 0 ≤ nS σ := w.2.1.2.2.1
  rw [em_B_springNow]
  obtain ⟨v1, h1, e1, u1, u2, u3⟩ := q_remember (d := d + 6) c
  obtain ⟨v2, h2, e2, p1, p2⟩ := q_pushAll (d := d + 4) (p := p) w ma328 u1.1.2.1 u1.1.2.2.1 wt (by omega)
  obtain ⟨v3, h3, e3, s1, s2, s3⟩ := q_act (d := d) u1 u2 p1 p2 (sprF_tr w (nS σ).toNat wt (by omega) (by omega)) (sprF_k (by decide) (by decide) (by decide) (by decide) (by decide) _ _ _) (sprF_k (by decide) (by decide) (by decide) (by decide) (by decide) _ _ _)
  refine zWp_qv e1 (zWp_qv e2 (zWp_qv e3 (zWp_s ⟨?_, s1, fun r z => by rw [s3 r z, u3 r (by omega)]⟩)))
  rw [s2, p1.2.2.2.1.1]
theorem q_R_spr0 {d : Nat} {σ st : zH} {D : zDR} {K : zKp} {Λ : zLw} {G h : zH} {p : Int} (k1 : RI σ st D K Λ G h) (k2 : RV [] 0 h) (k3 : RW [] h) (hp : 0 ≤ p ∧ p ≤ 9999) : zWp (m_R_springs (d + 12) 0 p h) (fun _ h' => h' 403 73 = w32 ((spr σ p st).2.length : Int) ∧ RI σ (stD (spr σ p st).1 (duT Λ σ st D (spr σ p st).2)) (duT Λ σ st D (spr σ p st).2).2 K Λ G h' ∧ frLo h h') := by
  have w := k1.1.2.2.1
  have wt := k1.1.2.2.2
  have hS0 : 0 ≤ nS σ := w.2.1.2.2.1
  have dok := sprF_ok w (p := p) (b := false) (nS σ).toNat (i := 0) wt (by omega) (by omega)
  refine zWp_m (q_R_springs (d := d + 7) (v := 0) (p := p) (Λ := Λ) (h0 := h) (Δ := (st 7, D)) w k1.1.1 k1.1.2.1 wt (by omega) k2 k3 (by decide) (fun _ => ⟨k1.2.2.1, k1.2.2.2.2.1 d, frD.rf h⟩)) ?_
  rintro v h' q2
  refine ⟨?_, k1.dr q2 dok.1, fun r z => q2.2.2.1.1 r (by omega) (by omega)⟩
  have := q2.2.2.2.1.1
  rw [Int.zero_add] at this
  exact this
theorem a_spring {d : Nat} {x : Int} {h : zH} (i : INV h) : Alike (m_B_spring (d + 13) x h) (m_R_spring (d + 13) x) := by
  obtain ⟨σ, st, D, K, Λ, G, c, r, wk, wg⟩ := i
  have b := c.1
  have w := b.2.2.2.1
  have wt := b.2.2.2.2
  by_cases c2 : 0 ≤ x ∧ x ≤ 9999
  case neg =>
    refine alike_ref c r wk wg (V := .inl (-1)) (k := 2) (by decide) ?_ (fun h' r' => ?_)
    · rw [em_B_spring]
      refine zWp_qi q_between ?_
      rw [if_neg c2]
      exact zWp_it rfl (zWp_qi (q_refuse (by decide)) (zWp_s ⟨rfl, rfl⟩))
    · rw [em_R_spring]
      refine zWp_qi q_R_is ?_
      rw [if_neg c2]
      exact zWp_it rfl (zWp_qi (q_R_refuses (by decide)) (zWp_s ⟨rfl, rfl⟩))
  refine alike2 ((wk.kp wt).ap (dueF_pre (Λ := Λ) (σ := σ) (ecl σ (trEv σ (spr σ x st).2)) (st 7, D))) wg (V := .inl (w32 ((spr σ x st).2.length : Int))) (st := stD (spr σ x st).1 (duT Λ σ st D (spr σ x st).2)) (Λ := Λ) (h := h) ?_ (fun h' f => ?_)
  · rw [em_B_spring]
    refine zWp_qi q_between ?_
    rw [if_pos c2]
    obtain ⟨v, h1, e1, u1, u2, u3⟩ := q_springNow (d := d + 2) c c2
    rw [u1] at e1
    exact zWp_nt (by decide) (zWp_qi e1 (zWp_s ⟨rfl, u2, u3⟩))
  · have r' := r.hi f
    rw [em_R_spring]
    refine zWp_qi q_R_is ?_
    rw [if_pos c2]
    refine zWp_nt (by decide) (q_R_kf (d := d + 10) r' (fun h2 k1 k2 k3 k4 => ?_))
    obtain ⟨v3, h3, e3, q1, q2, q3⟩ := q_R_spr0 (d := d) k1 k2 k3 c2
    exact zWp_qv e3 (zWp_s ⟨by rw [q1], q2, k4.t q3⟩)
