/-! rows and the field, in the reference -/
theorem d_rowF {T : Int → Int} {n : Int} {h : zH} : ∀ (k : Nat) {i : Int} {σ : zH} {s : zRd}, RR T n s h → effK (toks T n) s ≠ 0 → RR T n (rowF (toks T n) k i σ s).2 h ∧ effK (toks T n) (rowF (toks T n) k i σ s).2 ≠ 0
  | 0, _, _, _, r, z => ⟨r, z⟩
  | k + 1, i, σ, s, r, z => by
    rw [rowF, d_nb z]
    exact d_rowF k (r.ds z) (dS_e z)
theorem q_R_row36 {d : Nat} {T : Int → Int} {n : Int} : ∀ (k : Nat) {x : Int} {σ : zH} {s : zRd} {h : zH}, RR T n s h → gF σ h → gK σ h → (s.2.1 = 0 → PR σ h) → 0 ≤ x → x + k = σ 0 0 → 0 ≤ σ 8 1 * σ 0 0 → σ 8 1 * σ 0 0 + σ 0 0 ≤ 60 → 0 ≤ σ 8 1 → σ 8 1 ≤ 10 → zWp (l_R_row_36 (d + 3) x h) (fun _ h' => StR T n (zset (rowF (toks T n) k (σ 8 1 * σ 0 0 + x) σ s).1 8 1 (σ 8 1 + 1), (rowF (toks T n) k (σ 8 1 * σ 0 0 + x) σ s).2) h h') := by
  intro k
  induction k with
  | zero =>
    intro x σ s h r gf gk pr x0 hx m0 m1 k0 k1
    have b : 0 ≤ h 403 44 ∧ h 403 44 < ((2 : Nat) : Int) := by rcases gf.1 with e | e <;> omega
    rw [el_R_row_36, gf.2.1, r.2.1.1, gk.1, w32_i (x := σ 8 1 + 1) (by omega)]
    refine zWp_it b (zWp_nt (by omega) ?_)
    rw [rowF]
    by_cases z : effK (toks T n) s = 0
    · refine zWp_it z (zWp_it b (zWp_it b (zWp_lt fun h1 e1 => zWp_s ?_)))
      rw [e1]
      exact ⟨r.wr (by decide), frBk.st ⟨by decide, by decide⟩ (by rw [show rsz 407 = 1 by decide]; omega), fun _ => (pr (eff_0 z).1).n_k (by decide)⟩
    · exact zWp_nt z (zWp_s ⟨r, frBk.rf h, fun y => absurd y z⟩)
  | succ k ih =>
    intro x σ s h r gf gk pr x0 hx m0 m1 k0 k1
    have b : 0 ≤ h 403 44 ∧ h 403 44 < ((2 : Nat) : Int) := by rcases gf.1 with e | e <;> omega
    rw [el_R_row_36, gf.2.1, gk.1, w32_i (x := σ 8 1 * σ 0 0) (by omega), ixw (by omega) (by omega), w32_i (x := 60 * h 403 44 + σ 8 1 * σ 0 0 + x) (by omega), w32_i (x := x + 1) (by omega), show 60 * h 403 44 + σ 8 1 * σ 0 0 + x = 60 * h 403 44 + (σ 8 1 * σ 0 0 + x) by omega]
    refine zWp_it b (zWp_it (by omega) (zWp_it b (zWp_it b (zWp_bi (P := fun y h' => ((nbS (toks T n) 0 999 s).2.2.1 = 0 → y = (nbS (toks T n) 0 999 s).1) ∧ RR T n (nbS (toks T n) 0 999 s).2 h' ∧ frE h h') (zWp_m (q_R_number (d := d) r) (fun v h' u => by obtain ⟨⟨y, e, ey⟩, u2⟩ := u; exact ⟨y, e, ey, u2⟩)) (fun y h1 u => ?_)))))
    obtain ⟨ey, r1, f1⟩ := u
    have t1 : h1 403 44 = h 403 44 := f1.2 44 (by decide)
    rw [← t1]
    refine zWp_it (by omega) (zWp_lt fun h2 e2 => ?_)
    have gf1 := gf.fr t1 rfl (f1.1 405 (by decide)) (f1.1 406 (by decide))
    have gk1 := gk.fr t1 rfl (fun r hr => f1.1 r (by omega))
    have e44 : h2 403 44 = h1 403 44 := by rw [e2, zset_o (by decide)]
    have gf2 : gF (zset σ 1 (σ 8 1 * σ 0 0 + x) (nbS (toks T n) 0 999 s).1) h2 := gf1.fr e44 (by rw [zset_n (by decide)]) (by rw [e2, zset_n (by decide)]) (by rw [e2, zset_n (by decide)])
    have gk2 : gK (zset σ 1 (σ 8 1 * σ 0 0 + x) (nbS (toks T n) 0 999 s).1) h2 := gk1.fr e44 (by rw [zset_n (by decide)]) (fun r hr => by rw [e2, zset_n (by omega)])
    have pr2 : (nbS (toks T n) 0 999 s).2.2.1 = 0 → PR (zset σ 1 (σ 8 1 * σ 0 0 + x) (nbS (toks T n) 0 999 s).1) h2 := fun z => by
      have p1 := (pr (nb_0 z)).fr f1
      have := p1.wc (q := 408) (k := 1) (c := σ 8 1 * σ 0 0 + x) (v := y) (by decide)
      rw [← e2] at this
      rw [← ey z]
      exact this
    have r2 : RR T n (nbS (toks T n) 0 999 s).2 h2 := by rw [e2]; exact r1.wr (by decide)
    have s0 : zset σ 1 (σ 8 1 * σ 0 0 + x) (nbS (toks T n) 0 999 s).1 0 0 = σ 0 0 := zset_o (by decide)
    have s8 : zset σ 1 (σ 8 1 * σ 0 0 + x) (nbS (toks T n) 0 999 s).1 8 1 = σ 8 1 := zset_o (by decide)
    have nx := ih (x := x + 1) r2 gf2 gk2 pr2 (by omega) (by rw [s0]; omega) (by rw [s0, s8]; exact m0) (by rw [s0, s8]; exact m1) (by rw [s8]; exact k0) (by rw [s8]; exact k1)
    rw [s0, s8, show σ 8 1 * σ 0 0 + (x + 1) = σ 8 1 * σ 0 0 + x + 1 by omega] at nx
    have q2 : frBk h1 h2 := by rw [e2]; exact frBk.st ⟨by decide, by decide⟩ (rz (show rsz 408 = 60 by decide) (by omega))
    rw [rowF]
    exact zWp_m nx (fun _ h' u => ⟨u.1, (f1.n.t q2).t u.2.1, u.2.2⟩)
theorem q_R_row2 {d : Nat} {T : Int → Int} {n : Int} {s : zRd} {σ h : zH} (w : WP σ) (p : PR σ h) (r : RR T n s h) (hd : effK (toks T n) s = 0) (hk : (tkI (toks T n) s.1).1 ≠ 0) : zWp (m_R_row (d + 4) h) (fun _ h' => StR T n (if σ 8 1 < σ 0 1 then (zset (sRow (toks T n) σ (advS s)).1 8 1 (σ 8 1 + 1), (sRow (toks T n) σ (advS s)).2) else (σ, flS 5 (tkI (toks T n) s.1).2.1 s)) h h') := by
  have w2 := w.2.1
  have w1 := w.1.1
  have b := p.b
  rw [em_R_row, p.2.2.1.1, p.1.2.2]
  refine zWp_it b (zWp_it b ?_)
  by_cases c : σ 8 1 = σ 0 1
  · rw [if_neg (c := σ 8 1 < σ 0 1) (by omega)]
    refine zWp_it c ?_
    refine k_ct (d := d) (x := 1) p r hd hk (fun h1 z r1 f1 => ?_) (fun h1 e => absurd e (by decide))
    rw [if_neg (by decide)] at z r1
    exact zWp_it rfl (zWp_s ⟨r1, f1.n, fun y => absurd y z⟩)
  rw [if_pos (c := σ 8 1 < σ 0 1) (by omega)]
  have m1 : (σ 8 1 + 1) * σ 0 0 ≤ σ 0 1 * σ 0 0 := Int.mul_le_mul_of_nonneg_right (by omega) w1.1
  have m2 : (σ 8 1 + 1) * σ 0 0 = σ 8 1 * σ 0 0 + σ 0 0 := by rw [Int.add_mul, Int.one_mul]
  have m3 : σ 0 1 * σ 0 0 = nC σ := Int.mul_comm _ _
  have m4 : 0 ≤ σ 8 1 * σ 0 0 := Int.mul_nonneg w2.1 w1.1
  refine zWp_nt c (k_ct (d := d) (x := 0) p r hd hk (fun h1 z r1 f1 => ?_) (fun h1 _ z p1 r1 f1 => ?_))
  · rw [if_pos rfl] at z r1
    have u := d_rowF (σ 0 0).toNat (i := σ 8 1 * σ 0 0) (σ := σ) r1 z
    exact zWp_it rfl (zWp_s ⟨u.1, f1.n, fun y => absurd y u.2⟩)
  · have nx := q_R_row36 (d := d) (σ 0 0).toNat (x := 0) r1 p1.1 p1.2.2.1 (fun _ => p1) (Int.le_refl _) (by omega) m4 (by omega) w2.1 (by omega)
    rw [Int.add_zero] at nx
    exact zWp_nt (by decide) (zWp_m nx (fun _ h' u => ⟨u.1, f1.n.t u.2.1, u.2.2⟩))
/-- all but the field's width and height -/
def PR0 (σ h : zH) : Prop := (h 403 44 = 0 ∨ h 403 44 = 1) ∧ (gC 408 1 σ h ∧ gC 409 4 σ h ∧ gC 411 5 σ h ∧ gC 410 6 σ h) ∧ gK σ h ∧ gO (nO σ) σ h ∧ gS (nS σ) σ h ∧ gH (nHo σ) σ h ∧ gT (nT σ) σ h ∧ gR (nRo σ) σ h
theorem PR0.fr {σ h h' : zH} (p : PR0 σ h) (e : h' 403 44 = h 403 44) (r : ∀ r, 407 ≤ r → r ≤ 429 → h' r = h r) : PR0 σ h' := by
  obtain ⟨p1, ⟨p2, p3, p4, p5⟩, p6, p7, p8, p9, p10, p11⟩ := p
  exact ⟨by rw [e]; exact p1, ⟨p2.fr e rfl (r _ (by decide) (by decide)), p3.fr e rfl (r _ (by decide) (by decide)), p4.fr e rfl (r _ (by decide) (by decide)), p5.fr e rfl (r _ (by decide) (by decide))⟩, p6.fr e rfl (fun q hq => r q (by omega) (by omega)), p7.fr e rfl (r _ (by decide) (by decide)), p8.fr e (fun _ _ => rfl) (fun q h1 h2 => r q (by omega) (by omega)), p9.fr e (fun _ _ => rfl) (fun q h1 h2 => r q (by omega) (by omega)), p10.fr e (fun _ _ => rfl) (r _ (by decide) (by decide)) (r _ (by decide) (by decide)), p11.fr e rfl (r _ (by decide) (by decide))⟩
theorem PR0.up {σ h : zH} (p : PR0 σ h) {a b : Int} (e1 : h 405 (h 403 44) = a) (e2 : h 406 (h 403 44) = b) : PR (zset (zset σ 0 0 a) 0 1 b) h := by
  obtain ⟨p1, ⟨p2, p3, p4, p5⟩, p6, p7, p8, p9, p10, p11⟩ := p
  have eo : ∀ k, k ≠ 0 → zset (zset σ 0 0 a) 0 1 b k = σ k := fun k hk => by rw [zset_n hk, zset_n hk]
  have e8 : ∀ j, zset (zset σ 0 0 a) 0 1 b 8 j = σ 8 j := fun j => by rw [eo 8 (by decide)]
  refine ⟨⟨p1, by rw [zset_j (by decide), zset_e]; exact e1, by rw [zset_e]; exact e2⟩, ⟨p2.fr rfl (eo _ (by decide)) rfl, p3.fr rfl (eo _ (by decide)) rfl, p4.fr rfl (eo _ (by decide)) rfl, p5.fr rfl (eo _ (by decide)) rfl⟩, p6.fr rfl (eo _ (by decide)) (fun _ _ => rfl), ?_, ?_, ?_, ?_, ?_⟩
  · rw [show nO _ = nO σ from e8 4]; exact p7.fr rfl (eo _ (by decide)) rfl
  · rw [show nS _ = nS σ from e8 7]; exact p8.fr rfl (fun k hk => eo k (by omega)) (fun _ _ _ => rfl)
  · rw [show nHo _ = nHo σ from e8 10]; exact p9.fr rfl (fun k hk => eo k (by omega)) (fun _ _ _ => rfl)
  · rw [show nT _ = nT σ from e8 13]; exact p10.fr rfl (fun k hk => eo k (by omega)) rfl rfl
  · rw [show nRo _ = nRo σ from e8 15]; exact p11.fr rfl (eo _ (by decide)) rfl
theorem d_field {A : List zTk} {σ : zH} {s : zRd} (hd : effK A s ≠ 0) : sField A σ s = (σ, dS A s) := by
  unfold sField
  rw [d_nb hd]
  exact if_pos (show (-1 : Int) < 2 by decide)
theorem q_R_field2 {d : Nat} {T : Int → Int} {n : Int} {s : zRd} {σ h : zH} (p : PR0 σ h) (r : RR T n s h) : zWp (m_R_field (d + 4) h) (fun _ h' => StR T n (sField (toks T n) σ (ndS (toks T n) 2 0 s)) h h') := by
  have nbR : ∀ {lo hi : Int} {s : zRd} {h : zH} {f : Int → zH → zR} {Q : zV → zH → Prop}, RR T n s h → (∀ y h', ((nbS (toks T n) lo hi s).2.2.1 = 0 → y = (nbS (toks T n) lo hi s).1) → RR T n (nbS (toks T n) lo hi s).2 h' → frE h h' → zWp (f y h') Q) → zWp (zqi (m_R_number (d + 3) lo hi h) f) Q := fun r k =>
    zWp_bi (P := fun x h' => ((nbS (toks T n) _ _ _).2.2.1 = 0 → x = (nbS (toks T n) _ _ _).1) ∧ RR T n (nbS (toks T n) _ _ _).2 h' ∧ frE _ h') (zWp_m (q_R_number (d := d) r) (fun v h' u => by obtain ⟨⟨y, e, ey⟩, u2⟩ := u; exact ⟨y, e, ey, u2⟩)) (fun x h1 u => k x h1 u.1 u.2.1 u.2.2)
  rw [em_R_field]
  refine zWp_bv (q_R_mustO (d := d) r (i := 0) (by decide) (by decide)) (fun _ h1 u1 => nbR u1.1 (fun y h2 ey r2 f2 => ?_))
  have f12 := u1.2.t f2
  have p2 : PR0 σ h2 := p.fr (f12.2 44 (by decide)) (fun r _ _ => f12.1 r (by omega))
  have t2 : h2 403 44 = h1 403 44 := f2.2 44 (by decide)
  have b2 : 0 ≤ h2 403 44 ∧ h2 403 44 < ((2 : Nat) : Int) := by rcases p2.1 with e | e <;> omega
  rw [← t2]
  refine zWp_it b2 (zWp_lt fun h4 e4 => ?_)
  have t4 : h4 403 44 = h2 403 44 := by rw [e4, zset_o (by decide)]
  have p4 : PR0 σ h4 := p2.fr t4 (fun r _ _ => by rw [e4, zset_n (by omega)])
  have r4 : RR T n (nbS (toks T n) 2 10 (ndS (toks T n) 2 (0 : Nat) s)).2 h4 := by rw [e4]; exact r2.wr (by decide)
  have v4 : h4 405 (h4 403 44) = y := by rw [t4, e4, zset_e]
  have b4 : 0 ≤ h4 403 44 ∧ h4 403 44 < ((2 : Nat) : Int) := by omega
  have q4 : frBk h h4 := by rw [e4]; exact f12.n.t (frBk.st ⟨by decide, by decide⟩ (by rw [show rsz 405 = 1 by decide]; omega))
  have g4 := eff_g (A := toks T n) r4.1.2.2.2.2
  have nv := nb_v (A := toks T n) (lo := 2) (hi := 10) (s := ndS (toks T n) 2 (0 : Nat) s)
  rw [r4.2.1.1]
  -- the second number, and what is held behind it
  have fin : ∀ (m : Int), (effK (toks T n) (nbS (toks T n) 2 10 (ndS (toks T n) 2 (0 : Nat) s)).2 = 0 → m = fmx (nbS (toks T n) 2 10 (ndS (toks T n) 2 (0 : Nat) s)).1) → zWp (zqi (m_R_number (d + 3) 2 m h4) fun a h8 => (if 0 ≤ h4 403 44 ∧ h4 403 44 < ((2 : Nat) : Int) then (zlt (zset h8 406 (h4 403 44) a) fun h10 => some (.inl 0, h10)) else none)) (fun _ h' => StR T n (sField (toks T n) σ (ndS (toks T n) 2 0 s)) h h') := by
    intro m hm
    refine nbR r4 (fun y2 h8 ey2 r8 f8 => zWp_it b4 (zWp_lt fun h10 e10 => zWp_s ?_))
    have t8 : h8 403 44 = h4 403 44 := f8.2 44 (by decide)
    have t10 : h10 403 44 = h4 403 44 := by rw [e10, zset_o (by decide)]; exact t8
    have r10 : RR T n (nbS (toks T n) 2 m (nbS (toks T n) 2 10 (ndS (toks T n) 2 (0 : Nat) s)).2).2 h10 := by rw [e10]; exact r8.wr (by decide)
    have q10 : frBk h h10 := by rw [e10, ← t8]; exact (q4.t f8.n).t (frBk.st ⟨by decide, by decide⟩ (by rw [show rsz 406 = 1 by decide]; omega))
    have p10 : PR0 σ h10 := p4.fr t10 (fun r _ _ => by rw [e10, zset_n (by omega), f8.1 r (by omega)])
    by_cases z : effK (toks T n) (nbS (toks T n) 2 10 (ndS (toks T n) 2 (0 : Nat) s)).2 = 0
    · have y0 := (eff_0 z).1
      have yk := nb_ok y0
      have ev : (nbS (toks T n) 2 10 (ndS (toks T n) 2 (0 : Nat) s)).1 = (tkI (toks T n) (ndS (toks T n) 2 (0 : Nat) s).1).2.2.1 := by rw [yk.2.2.2.2]
      rw [hm z] at r10 ey2
      have ef : (sField (toks T n) σ (ndS (toks T n) 2 0 s)).2 = (nbS (toks T n) 2 (fmx (nbS (toks T n) 2 10 (ndS (toks T n) 2 (0 : Nat) s)).1) (nbS (toks T n) 2 10 (ndS (toks T n) 2 (0 : Nat) s)).2).2 := by
        unfold sField
        rw [if_neg (by show ¬ (nbS (toks T n) 2 10 (ndS (toks T n) 2 (0 : Nat) s)).1 < 2; rw [ev]; omega)]
        split <;> rfl
      refine ⟨by rw [ef]; exact r10, q10, fun z2 => ?_⟩
      rw [ef] at z2
      have x0 := (eff_0 z2).1
      have xk := nb_ok x0
      have e2 : (nbS (toks T n) 2 (fmx (nbS (toks T n) 2 10 (ndS (toks T n) 2 (0 : Nat) s)).1) (nbS (toks T n) 2 10 (ndS (toks T n) 2 (0 : Nat) s)).2).1 = (tkI (toks T n) (nbS (toks T n) 2 10 (ndS (toks T n) 2 (0 : Nat) s)).2.1).2.2.1 := by rw [xk.2.2.2.2]
      have es : (sField (toks T n) σ (ndS (toks T n) 2 0 s)).1 = zset (zset σ 0 0 (nbS (toks T n) 2 10 (ndS (toks T n) 2 (0 : Nat) s)).1) 0 1 (nbS (toks T n) 2 (fmx (nbS (toks T n) 2 10 (ndS (toks T n) 2 (0 : Nat) s)).1) (nbS (toks T n) 2 10 (ndS (toks T n) 2 (0 : Nat) s)).2).1 := by
        unfold sField
        rw [if_neg (by show ¬ (nbS (toks T n) 2 10 (ndS (toks T n) 2 (0 : Nat) s)).1 < 2; rw [ev]; omega), if_neg (by show ¬ (nbS (toks T n) 2 (fmx (nbS (toks T n) 2 10 (ndS (toks T n) 2 (0 : Nat) s)).1) (nbS (toks T n) 2 10 (ndS (toks T n) 2 (0 : Nat) s)).2).1 < 2; rw [e2]; omega)]
        rfl
      rw [es]
      exact p10.up (by rw [t10, e10, zset_o (by decide), f8.1 405 (by decide), v4]; exact ey y0) (by rw [t10, e10, zset_e]; exact ey2 x0)
    · have ez : nbS (toks T n) 2 m (nbS (toks T n) 2 10 (ndS (toks T n) 2 (0 : Nat) s)).2 = (-1, dS (toks T n) (nbS (toks T n) 2 10 (ndS (toks T n) 2 (0 : Nat) s)).2) := d_nb z
      rw [ez] at r10
      have ef : (sField (toks T n) σ (ndS (toks T n) 2 0 s)).2 = (nbS (toks T n) 2 10 (ndS (toks T n) 2 (0 : Nat) s)).2 ∨ (sField (toks T n) σ (ndS (toks T n) 2 0 s)).2 = dS (toks T n) (nbS (toks T n) 2 10 (ndS (toks T n) 2 (0 : Nat) s)).2 := by
        unfold sField
        by_cases q : (nbS (toks T n) 2 10 (ndS (toks T n) 2 0 s)).1 < 2
        · rw [if_pos q]; exact Or.inl rfl
        · rw [if_neg q]
          have e := d_nb (lo := 2) (hi := fmx (nbS (toks T n) 2 10 (ndS (toks T n) 2 0 s)).1) z
          have e' : nbS (toks T n) 2 (fmx (nbS (toks T n) 2 10 (ndS (toks T n) 2 0 s)).1) (nbS (toks T n) 2 10 (ndS (toks T n) 2 0 s)).2 = (-1, dS (toks T n) (nbS (toks T n) 2 10 (ndS (toks T n) 2 0 s)).2) := e
          rw [e', if_pos (show (-1 : Int) < 2 by decide)]
          exact Or.inr rfl
      have r10' : RR T n (nbS (toks T n) 2 10 (ndS (toks T n) 2 (0 : Nat) s)).2 h10 := by
        have e1 := flS_d z
        exact r10.dd (dS_e z) (by unfold dS; exact e1.1.symm) (by unfold dS; exact e1.2.symm) r4.1.2.2.2.1 r4.1.2.2.2.2
      rcases ef with q | q
      · exact ⟨by rw [q]; exact r10', q10, fun z2 => absurd (by rw [← q]; exact z2) z⟩
      · exact ⟨by rw [q]; exact r10, q10, fun z2 => absurd (by rw [← q]; exact z2) (dS_e z)⟩
  by_cases z : effK (toks T n) (nbS (toks T n) 2 10 (ndS (toks T n) 2 (0 : Nat) s)).2 = 0
  case neg => exact zWp_it (by omega) (fin 10 (fun y => absurd y z))
  have y0 := (eff_0 z).1
  have yk := nb_ok y0
  have ev : (nbS (toks T n) 2 10 (ndS (toks T n) 2 (0 : Nat) s)).1 = (tkI (toks T n) (ndS (toks T n) 2 (0 : Nat) s).1).2.2.1 := by rw [yk.2.2.2.2]
  have yv : 2 ≤ y ∧ y ≤ 10 := by rw [ey y0, ev]; exact ⟨yk.2.2.1, yk.2.2.2.1⟩
  have d1 : Int.tdiv 60 y = 60 / y := Int.tdiv_eq_ediv_of_nonneg (by decide)
  have d2 : 0 ≤ 60 / y := Int.ediv_nonneg (by decide) (by omega)
  have d3 : 60 / y ≤ 60 := Int.ediv_le_self (a := 60) y (by decide)
  rw [v4, w32_i (x := Int.tdiv 60 y) (by omega)]
  refine zWp_nt (by rw [z]; decide) (zWp_it b4 (zWp_dz (by omega) ?_))
  by_cases c : Int.tdiv 60 y < 10
  · refine zWp_it c (zWp_it b4 (zWp_dz (by omega) (fin _ (fun _ => ?_))))
    rw [← ey y0]; unfold fmx; rw [if_pos c]
  · refine zWp_nt c (fin 10 (fun _ => ?_))
    rw [← ey y0]; unfold fmx; rw [if_neg c]
