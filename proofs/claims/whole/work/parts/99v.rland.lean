theorem land_d {A : List zTk} {σ : zH} {s : zRd} (hd : effK A (celS A σ 0 0 (ndS A 2 3 (onrS A σ s).2)).2 ≠ 0) : (sLand A σ s).2 = dS A (celS A σ 0 0 (ndS A 2 3 (onrS A σ s).2)).2 := by
  unfold sLand
  generalize celS A σ 0 0 (ndS A 2 3 (onrS A σ s).2) = F at *
  show (if F.1 = -1 then (σ, ndS A 2 6 F.2) else (lanF _ _ _ _ _ _ σ, (celS A σ (F.1 % σ 0 0) (F.1 / σ 0 0) (ndS A 2 6 F.2)).2)).2 = _
  rw [d_nd (by decide) hd, d_cl (dS_e hd), dS_2]
  split <;> rfl
theorem q_R_land2 {d : Nat} {T : Int → Int} {n v : Int} {s : zRd} {σ h : zH} (w : WP σ) (hw : 1 ≤ σ 0 0) (p : PR σ h) (r : RR T n s h) (hd : effK (toks T n) s = 0) (hk : (tkI (toks T n) s.1).1 ≠ 0) : zWp (m_R_landing (d + 5) h) (fun _ h' => StR T n (zset (sLand (toks T n) σ (advS s)).1 8 5 v, (sLand (toks T n) σ (advS s)).2) h h') := by
  have w1 := w.1.1
  rw [em_R_landing]
  refine k_ct (d := d + 1) (x := 0) p r hd hk (fun h1 z r1 f1 => ?_) (fun h1 _ z p1 r1 f1 => ?_)
  · rw [if_pos rfl] at z r1
    have e1 : celS (toks T n) σ 0 0 (ndS (toks T n) 2 3 (onrS (toks T n) σ (advS s)).2) = (-1, dS (toks T n) (advS s)) := by rw [d_on z, d_nd (by decide) (dS_e z), dS_2, d_cl (dS_e z), dS_2]
    have e2 : (sLand (toks T n) σ (advS s)).2 = dS (toks T n) (advS s) := by
      rw [land_d (by rw [e1]; exact dS_e z), e1]
      exact dS_2
    exact zWp_it rfl (zWp_s ⟨by rw [e2]; exact r1.ds z, f1.n, fun y => absurd y (by rw [e2]; exact dS_e z)⟩)
  refine zWp_nt (by decide) (k_on (d := d + 1) w.1 p1 r1 (fun o h2 eo p2 r2 f2 => k_ow (d := d + 1) p2 r2 3 (by decide) (by decide) (fun h3 p3 r3 f3 => k_cl (d := d) w.1 p3 r3 ⟨by decide, by decide⟩ (fun a h4 ea ea0 p4 r4 f4 => k_ow (d := d + 1) p4 r4 6 (by decide) (by decide) (fun h5 p5 r5 f5 => ?_)))))
  have ff := ((f1.n.t f2.n).t (f3.n.t f4.n)).t f5.n
  have b5 := p5.b
  rw [p5.1.2.1]
  refine zWp_it b5 (zWp_dz (by omega) (zWp_it b5 (zWp_dz (by omega) ?_)))
  by_cases z4 : effK (toks T n) (celS (toks T n) σ 0 0 (ndS (toks T n) 2 (3 : Nat) (onrS (toks T n) σ (advS s)).2)).2 = 0
  case neg =>
    have e0 := ea0 z4
    have z5 : effK (toks T n) (ndS (toks T n) 2 (6 : Nat) (celS (toks T n) σ 0 0 (ndS (toks T n) 2 (3 : Nat) (onrS (toks T n) σ (advS s)).2)).2) ≠ 0 := by rw [d_nd (by decide) z4]; exact dS_e z4
    have el := land_d (A := toks T n) (σ := σ) (s := advS s) z4
    rw [e0, Int.zero_tmod, Int.zero_tdiv, show w32 0 = 0 by decide]
    refine k_cl (d := d) w.1 p5 r5 ⟨by decide, by decide⟩ (fun a2 h6 _ _ p6 r6 f6 => ?_)
    rw [d_cl z5, d_nd (by decide) z4] at r6
    have r6' : RR T n (dS (toks T n) (celS (toks T n) σ 0 0 (ndS (toks T n) 2 (3 : Nat) (onrS (toks T n) σ (advS s)).2)).2) h6 := by
      have e : dS (toks T n) (dS (toks T n) (celS (toks T n) σ 0 0 (ndS (toks T n) 2 (3 : Nat) (onrS (toks T n) σ (advS s)).2)).2) = _ := dS_2
      rw [← e]
      exact r6
    have g6 := eff_g (A := toks T n) r6'.1.2.2.2.2
    have n6 : effK (toks T n) (dS (toks T n) (celS (toks T n) σ 0 0 (ndS (toks T n) 2 (3 : Nat) (onrS (toks T n) σ (advS s)).2)).2) ≠ 0 := dS_e z4
    rw [r6'.2.1.1]
    refine zWp_it (by omega) (zWp_s ⟨?_, ff.t f6.n, fun y => absurd y ?_⟩)
    · show RR T n (sLand (toks T n) σ (advS s)).2 h6
      rw [el]
      exact r6'
    · show ¬ effK (toks T n) (sLand (toks T n) σ (advS s)).2 = 0
      rw [el]
      exact n6
  have y0 := (eff_0 z4).1
  obtain ⟨_, x', y', x1, x2, y1, y2, e', q1, q2, q3⟩ := cel_ok (A := toks T n) (lx := 0) (ly := 0) (s := ndS (toks T n) 2 (3 : Nat) (onrS (toks T n) σ (advS s)).2) w.1 ⟨by decide, by decide⟩ y0
  have pe : (celS (toks T n) σ 0 0 (ndS (toks T n) 2 (3 : Nat) (onrS (toks T n) σ (advS s)).2)).1 = y' * σ 0 0 + x' := by rw [e']
  have ae : a = y' * σ 0 0 + x' := (ea z4).trans pe
  have o0 : effK (toks T n) (onrS (toks T n) σ (advS s)).2 = 0 := by
    by_cases q : effK (toks T n) (onrS (toks T n) σ (advS s)).2 = 0
    · exact q
    · rw [d_nd (by decide) q, d_cl (dS_e q)] at y0
      exact absurd y0 dS_z
  have a0 : 0 ≤ a ∧ a < 60 := by omega
  have m0 : 0 ≤ a % σ 0 0 := Int.emod_nonneg _ (by omega)
  have m1 : 0 ≤ a / σ 0 0 := Int.ediv_nonneg a0.1 (by omega)
  have m2 : a / σ 0 0 ≤ a := Int.ediv_le_self _ a0.1
  rw [show Int.tmod a (σ 0 0) = a % σ 0 0 from Int.tmod_eq_emod_of_nonneg a0.1, show Int.tdiv a (σ 0 0) = a / σ 0 0 from Int.tdiv_eq_ediv_of_nonneg a0.1, w32_i (x := a / σ 0 0) (by omega)]
  have es : sLand (toks T n) σ (advS s) = (lanF (σ 0 0) (onrS (toks T n) σ (advS s)).1 (a % σ 0 0) (celS (toks T n) σ (a % σ 0 0) (a / σ 0 0) (ndS (toks T n) 2 (6 : Nat) (celS (toks T n) σ 0 0 (ndS (toks T n) 2 (3 : Nat) (onrS (toks T n) σ (advS s)).2)).2)).1 ((celS (toks T n) σ (a % σ 0 0) (a / σ 0 0) (ndS (toks T n) 2 (6 : Nat) (celS (toks T n) σ 0 0 (ndS (toks T n) 2 (3 : Nat) (onrS (toks T n) σ (advS s)).2)).2)).1 + 1 - a).toNat a σ, (celS (toks T n) σ (a % σ 0 0) (a / σ 0 0) (ndS (toks T n) 2 (6 : Nat) (celS (toks T n) σ 0 0 (ndS (toks T n) 2 (3 : Nat) (onrS (toks T n) σ (advS s)).2)).2)).2) := by
    unfold sLand
    show (if (celS (toks T n) σ 0 0 (ndS (toks T n) 2 (3 : Nat) (onrS (toks T n) σ (advS s)).2)).1 = -1 then _ else _) = _
    rw [if_neg (by rw [pe]; omega), ea z4]
    rfl
  rw [es]
  refine k_cl (d := d) w.1 p5 r5 ⟨m0, m1⟩ (fun t h6 et _ p6 r6 f6 => ?_)
  have b6 := p6.b
  have cc := cel_ok (A := toks T n) (lx := a % σ 0 0) (ly := a / σ 0 0) (s := ndS (toks T n) 2 (6 : Nat) (celS (toks T n) σ 0 0 (ndS (toks T n) 2 (3 : Nat) (onrS (toks T n) σ (advS s)).2)).2) w.1 ⟨m0, m1⟩
  generalize celS (toks T n) σ (a % σ 0 0) (a / σ 0 0) (ndS (toks T n) 2 (6 : Nat) (celS (toks T n) σ 0 0 (ndS (toks T n) 2 (3 : Nat) (onrS (toks T n) σ (advS s)).2)).2) = C at *
  have g6 := eff_g (A := toks T n) r6.1.2.2.2.2
  rw [r6.2.1.1, p6.1.2.1, show Int.tdiv a (σ 0 0) = a / σ 0 0 from Int.tdiv_eq_ediv_of_nonneg a0.1, w32_i (x := a / σ 0 0) (by omega)]
  by_cases z6 : effK (toks T n) C.2 = 0
  case neg => exact zWp_it (by omega) (zWp_s ⟨r6, ff.t f6.n, fun y => absurd y z6⟩)
  obtain ⟨_, x2', y2', u1, u2, u3, u4, e2, u5, u6, u7⟩ := cc (eff_0 z6).1
  have te : t = y2' * σ 0 0 + x2' := by rw [et z6, e2]
  have tc := (cw (c := t) (y := y2') (show 0 < σ 0 0 by omega) (show 0 ≤ x2' ∧ x2' < σ 0 0 by omega)).1 te
  have t0 : 0 ≤ t ∧ t < 60 := by omega
  have mm : (y2' + 1) * σ 0 0 ≤ σ 0 1 * σ 0 0 := Int.mul_le_mul_of_nonneg_right (by omega) (by omega)
  have mm2 : (y2' + 1) * σ 0 0 = y2' * σ 0 0 + σ 0 0 := by rw [Int.add_mul, Int.one_mul]
  have mm3 : σ 0 1 * σ 0 0 = nC σ := Int.mul_comm _ _
  have nx := q_R_l83 (d := d + 4) (σ := σ) (o := o) (f := a) (t := t) ⟨hw, by omega⟩ a0.1 t0.1 (by rw [tc.2]; exact u1) (by rw [tc.1]; omega) (by rw [tc.1]; omega) (t / σ 0 0 + 1 - a / σ 0 0).toNat (y := a / σ 0 0) (h := h6) p6.1 m1 (by rw [tc.1]; omega)
  refine zWp_nt (by rw [z6]; decide) (zWp_it b6 (zWp_dz (by omega) (zWp_m nx (fun _ h7 u => ?_))))
  obtain ⟨l7, v7⟩ := u
  have t7 : h7 403 44 = h6 403 44 := by rw [l7.1 403 (by decide)]
  refine ⟨r6.fr (fun q _ _ => by rw [l7.1 403 (by decide)]) (l7.1 404 (by decide)), (ff.t f6.n).t l7.n, fun _ => ?_⟩
  rw [← et z6, ← eo o0]
  have so : ∀ k, k ≠ 6 → lanF (σ 0 0) o (a % σ 0 0) t (t + 1 - a).toNat a σ k = σ k := fun k hk' => lan_o _ hk'
  have s8 : ∀ j, lanF (σ 0 0) o (a % σ 0 0) t (t + 1 - a).toNat a σ 8 j = σ 8 j := fun j => by rw [so 8 (by decide)]
  have p7 : PR (lanF (σ 0 0) o (a % σ 0 0) t (t + 1 - a).toNat a σ) h7 := by
    obtain ⟨p1', ⟨p2', p3', p4', p5'⟩, p6', p7', p8', p9', p10', p11'⟩ := p6
    refine ⟨p1'.fr t7 (so _ (by decide)) (l7.1 _ (by decide)) (l7.1 _ (by decide)), ⟨p2'.fr t7 (so _ (by decide)) (l7.1 _ (by decide)), p3'.fr t7 (so _ (by decide)) (l7.1 _ (by decide)), p4'.fr t7 (so _ (by decide)) (l7.1 _ (by decide)), ?_⟩, p6'.fr t7 (so _ (by decide)) (fun r hr => l7.1 r (by omega)), ?_, ?_, ?_, ?_, ?_⟩
    · intro c c0 c1
      rw [t7, v7 c c0 c1, p5' c c0 c1, lan_6]
      have dm := Int.mul_ediv_add_emod c (σ 0 0)
      have da := Int.mul_ediv_add_emod a (σ 0 0)
      have dt := Int.mul_ediv_add_emod t (σ 0 0)
      by_cases q : a / σ 0 0 ≤ c / σ 0 0 ∧ c / σ 0 0 ≤ t / σ 0 0 ∧ a % σ 0 0 ≤ c % σ 0 0 ∧ c % σ 0 0 ≤ t % σ 0 0
      · have k1 : σ 0 0 * (a / σ 0 0) ≤ σ 0 0 * (c / σ 0 0) := Int.mul_le_mul_of_nonneg_left q.1 (by omega)
        have k2 : σ 0 0 * (c / σ 0 0) ≤ σ 0 0 * (t / σ 0 0) := Int.mul_le_mul_of_nonneg_left q.2.1 (by omega)
        rw [if_pos q, if_pos ⟨by omega, by omega, q.2.2⟩]
      · rw [if_neg q, if_neg]
        intro z
        refine q ⟨Int.ediv_le_ediv (by omega) z.1, Int.ediv_le_ediv (by omega) (by omega), z.2.2⟩
    · rw [show nO _ = nO σ from s8 4]; exact p7'.fr t7 (so _ (by decide)) (l7.1 _ (by decide))
    · rw [show nS _ = nS σ from s8 7]; exact p8'.fr t7 (fun k hk' => so k (by omega)) (fun r _ _ => l7.1 r (by omega))
    · rw [show nHo _ = nHo σ from s8 10]; exact p9'.fr t7 (fun k hk' => so k (by omega)) (fun r _ _ => l7.1 r (by omega))
    · rw [show nT _ = nT σ from s8 13]; exact p10'.fr t7 (fun k hk' => so k (by omega)) (l7.1 _ (by decide)) (l7.1 _ (by decide))
    · rw [show nRo _ = nRo σ from s8 15]; exact p11'.fr t7 (so _ (by decide)) (l7.1 _ (by decide))
  exact p7.sk (by decide)
