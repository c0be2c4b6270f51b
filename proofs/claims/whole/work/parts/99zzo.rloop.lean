/-! the reference's loop over statements -/
def finS (A : List zTk) (s : zRd) : zRd := if kdS A s = 0 then s else flS 5 (tkI A s.1).2.1 s
theorem bodX_d {A : List zTk} {σ : zH} {s : zRd} (hd : effK A s ≠ 0) : bodX A σ s = (σ, dS A s) := by
  have o : owS A s = -1 := by unfold owS; rw [if_neg (by rw [kd_d hd]; decide)]
  have kn : kndS A σ 0 s = (-1, flS 1 (unf (tkI A s.1)) s) := by
    unfold kndS
    rw [if_pos (Or.inl (by rw [o]; rfl))]
  unfold bodX
  rw [kn, if_pos (show ((-1 : Int), flS 1 (unf (tkI A s.1)) s).1 = -1 from rfl)]
  rfl
theorem stmY_d {A : List zTk} {x : zS4} (hd : effK A x.2.1 ≠ 0) : (stmY A x).2.1 = dS A x.2.1 := by
  have o : ¬ (owS A x.2.1 = 16 ∧ x.1 8 16 < 8) := fun y => by
    have := y.1
    unfold owS at this
    rw [if_neg (by rw [kd_d hd]; decide)] at this
    exact absurd this (by decide)
  unfold stmY bodY
  rw [if_neg o, bodX_d hd]
  show ndS A 4 59 (dS A x.2.1) = _
  rw [d_nd (by decide) (dS_e hd), dS_2]
theorem fin_z {A : List zTk} {s : zRd} (h : s.2.1 ≠ 0) : finS A s = s := by
  unfold finS
  split
  · rfl
  · exact flS_s h
theorem fin_e {A : List zTk} {s : zRd} {x : Int} (hx : x = 100) : edS A x s = finS A (ndS A 4 59 s) := by
  unfold edS
  by_cases c : sgS A 4 59 s = true
  · have f := (sg_k (by decide) c).1
    have en : ndS A 4 59 s = advS s := by unfold ndS; rw [if_pos c]
    rw [en, adv_e f]
    have ek : kdS A (s.1 + 1, s.2) = (tkI A (s.1 + 1)).1 := by unfold kdS; rw [if_pos (show ((s.1 + 1, s.2) : zRd).2.1 = 0 from f)]
    unfold finS
    rw [ek]
    by_cases z : (tkI A (s.1 + 1)).1 = 0
    · rw [if_neg (fun y => y.2.2 z), if_pos z]
    · rw [if_pos ⟨hx, c, z⟩, if_neg z]
  · rw [if_neg (fun y => c y.2.1)]
    have n : (ndS A 4 59 s).2.1 ≠ 0 := by unfold ndS; rw [if_neg c]; exact flS_z (by decide)
    rw [fin_z n]
theorem RR.en {T : Int → Int} {n : Int} {s : zRd} {h : zH} (r : RR T n s h) (hd : effK (toks T n) s = 0) : h 403 3 = 0 ↔ (tkI (toks T n) s.1).1 = 0 := by
  have f := eff_0 hd
  have t3 := (r.2.2 hd).2.2 f.2
  rw [t3.1]
  unfold rsg
  by_cases c : (tkI (toks T n) s.1).1 = 0
  · rw [if_pos c]; exact ⟨fun _ => c, fun _ => rfl⟩
  · rw [if_neg c]
    refine ⟨fun z => ?_, fun z => absurd z c⟩
    exfalso
    revert z
    split
    · decide
    split
    · decide
    · decide
theorem q_R_lpY {d : Nat} {T : Int → Int} {n : Int} {Q : zV → zH → Prop} : ∀ (f k : Nat) (x : zS4) (h : zH), k + f = 100 → 1 ≤ k → RR T n (if k = 100 then finS (toks T n) x.2.1 else x.2.1) h → (effK (toks T n) x.2.1 = 0 → PR x.1 h ∧ BkN x.2.2.2 h) → (x.2.1.2.1 = 0 → IY (toks T n) k x) → (∀ (k' : Nat) (h' : zH), RR T n (finS (toks T n) (lpY (toks T n) f k x).2.2.1) h' → frBw h h' → (effK (toks T n) (finS (toks T n) (lpY (toks T n) f k x).2.2.1) = 0 → k' = (lpY (toks T n) f k x).1 ∧ PR (lpY (toks T n) f k x).2.1 h' ∧ BkN (lpY (toks T n) f k x).2.2.2.2 h') → zWp (l_R_slope_93 (d + 10) (k' : Int) h') Q) → zWp (l_R_slope_64 (d + 10) (k : Int) h) Q := by
  intro f
  induction f with
  | zero =>
    intro k x h hk h1 r p i K
    rw [if_pos (show k = 100 by omega)] at r
    rw [el_R_slope_64, r.2.1.1]
    by_cases z : effK (toks T n) (finS (toks T n) x.2.1) = 0
    · have kz : kdS (toks T n) x.2.1 = 0 := by
        refine Classical.byContradiction fun w => ?_
        unfold finS at z
        rw [if_neg w] at z
        by_cases y : x.2.1.2.1 = 0
        · have : (flS 5 (tkI (toks T n) x.2.1.1).2.1 x.2.1).2.1 ≠ 0 := flS_z (by decide)
          rw [(eff_f (A := toks T n) this).1] at z
          exact this z
        · rw [flS_s y, (eff_f (A := toks T n) y).1] at z
          exact y z
      have ef : finS (toks T n) x.2.1 = x.2.1 := by unfold finS; rw [if_pos kz]
      have z' := z
      rw [ef] at z'
      have ek := kd_a z'
      refine zWp_it z (zWp_it ?_ (K k h r (frBw.rf h) (fun _ => ⟨rfl, p z'⟩)))
      rw [r.en z, ef, ← ek]
      exact kz
    · exact zWp_nt z (K k h r (frBw.rf h) (fun w => absurd w z))
  | succ f ih =>
    intro k x h hk h1 r p i K
    rw [if_neg (show ¬ k = 100 by omega)] at r
    rw [lpY] at K
    rw [el_R_slope_64, r.2.1.1]
    by_cases z : effK (toks T n) x.2.1 = 0
    case neg =>
      refine zWp_nt z ?_
      by_cases c : x.2.1.2.1 = 0 ∧ (tkI (toks T n) x.2.1.1).1 ≠ 0
      · rw [if_pos c] at K
        have sd : (stmY (toks T n) x).2.1 = dS (toks T n) x.2.1 := stmY_d z
        have dz : (stmY (toks T n) x).2.1.2.1 ≠ 0 := by rw [sd]; exact dS_z
        have el : lpY (toks T n) f (k + 1) (stmY (toks T n) x) = (k + 1, stmY (toks T n) x) := by
          cases f with
          | zero => rfl
          | succ f => rw [lpY, if_neg (fun y => dz y.1)]
        rw [el] at K
        dsimp only at K
        rw [fin_z dz, sd] at K
        exact K k h (r.ds z) (frBw.rf h) (fun w => absurd w (dS_e z))
      · rw [if_neg c] at K
        have y : x.2.1.2.1 ≠ 0 := by
          intro y
          refine c ⟨y, fun w => z ?_⟩
          rw [(eff_b (A := toks T n) y).1, if_neg (by rw [w]; decide)]
        dsimp only at K
        rw [fin_z y] at K
        exact K k h r (frBw.rf h) (fun w => absurd w z)
    have f0 := eff_0 z
    refine zWp_it z ?_
    by_cases ce : (tkI (toks T n) x.2.1.1).1 = 0
    · rw [if_neg (fun y => y.2 ce)] at K
      have ef : finS (toks T n) x.2.1 = x.2.1 := by unfold finS; rw [if_pos (by rw [kd_a z]; exact ce)]
      dsimp only at K
      rw [ef] at K
      exact zWp_it ((r.en z).2 ce) (K k h r (frBw.rf h) (fun _ => ⟨rfl, p z⟩))
    rw [if_pos ⟨f0.1, ce⟩] at K
    have ii := i f0.1
    obtain ⟨L, g⟩ := ii.2
    have ok := toks_ok (T := T) r.1.1
    have hL : x.1 8 16 = (x.2.2.2.2.length : Int) := by rw [g.1.2, g.2.1.2.1]
    have i2 := ii.1.2.2 2 (by decide) (by decide)
    have i5 := ii.1.2.2 5 (by decide) (by decide)
    refine zWp_nt (fun y => ce ((r.en z).1 y)) (zWp_bv (q_R_stmY (d := d) ii.1.1 ii.1.2.1 (by omega) (by omega) (p z).1 r z ce (p z).2 hL g.2.2.2) (fun _ h2 u => ?_))
    rw [w32_i (x := (k : Int) + 1) (by omega)]
    refine zWp_bv (q_R_ends (d := d + 6) u.1) (fun _ h3 v => ?_)
    rw [show (k : Int) + 1 = ((k + 1 : Nat) : Int) from rfl] at v ⊢
    have es : (stmY (toks T n) x).2.1 = ndS (toks T n) 4 59 (bodY (toks T n) x).2.1 := rfl
    refine ih (k + 1) (stmY (toks T n) x) h3 (by omega) (by omega) ?_ (fun y => ?_) (fun y => iy_s ok ii (tk_lt ce) y) (fun k' h' a1 a2 a3 => K k' h' a1 ((u.2.1.t v.2.n.w).t a2) a3)
    · by_cases k1 : k + 1 = 100
      · rw [if_pos k1, es, ← fin_e (x := ((k + 1 : Nat) : Int)) (by omega)]
        exact v.1
      · rw [if_neg k1, es]
        have e2 : edS (toks T n) ((k + 1 : Nat) : Int) (bodY (toks T n) x).2.1 = ndS (toks T n) 4 59 (bodY (toks T n) x).2.1 := by
          unfold edS
          rw [if_neg (fun w => k1 (by omega))]
        rw [← e2]
        exact v.1
    · have yb : effK (toks T n) (bodY (toks T n) x).2.1 = 0 := by
        refine Classical.byContradiction fun w => ?_
        rw [es, d_nd (by decide) w] at y
        exact dS_e w y
      have q := u.2.2 yb
      exact ⟨q.1.fr v.2, q.2.f (fun r r1 r2 => v.2.1 r (by omega)) (v.2.2 43 (by decide)) (v.2.2 44 (by decide))⟩
