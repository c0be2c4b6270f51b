/-! owners, ropes, thaws, walls, stones, houses, in the reference -/
theorem q_R_owner2 {d : Nat} {T : Int → Int} {n : Int} {s : zRd} {σ h : zH} (w : WP σ) (p : PR σ h) (r : RR T n s h) (hd : effK (toks T n) s = 0) (hk : (tkI (toks T n) s.1).1 ≠ 0) : zWp (m_R_owning (d + 4) h) (fun _ h' => StR T n (if nO σ < 6 then (zset (zset σ 9 (nO σ) (newS (toks T n) σ (advS s)).1) 8 4 (nO σ + 1), (newS (toks T n) σ (advS s)).2) else (σ, flS 5 (tkI (toks T n) s.1).2.1 s)) h h') := by
  have w2 := w.1.2
  have b := p.b
  rw [em_R_owning, p.2.2.1.2.2.1]
  refine zWp_it b ?_
  by_cases c : nO σ = 6
  · rw [if_neg (c := nO σ < 6) (by omega)]
    refine zWp_it c ?_
    rw [el_R_owning_20]
    refine k_ct (d := d) (x := 1) p r hd hk (fun h1 z r1 f1 => ?_) (fun h1 e => absurd e (by decide))
    rw [if_neg (by decide)] at z r1
    exact zWp_it rfl (zWp_s ⟨r1, f1.n, fun y => absurd y z⟩)
  rw [if_pos (c := nO σ < 6) (by omega)]
  refine zWp_nt c ?_
  rw [el_R_owning_20]
  refine k_ct (d := d) (x := 0) p r hd hk (fun h1 z r1 f1 => ?_) (fun h1 _ z p1 r1 f1 => ?_)
  · rw [if_pos rfl] at z r1
    rw [d_nw z]
    exact zWp_it rfl (zWp_s ⟨r1.ds z, f1.n, fun y => absurd y (dS_e z)⟩)
  have b1 := p1.b
  refine zWp_nt (by decide) (zWp_it b1 (k_nn (d := d) w.1 p1 r1 (fun y h3 ey p3 r3 f3 => ?_)))
  rw [p1.2.2.1.2.2.1, ← f3.2 44 (by decide)]
  have b3 := p3.b
  rw [ixw (by omega) (by omega)]
  refine zWp_it (by omega) (zWp_lt fun h5 e5 => ?_)
  have p5 := p3.w_o (q := 414) (v := y) ⟨by decide, by decide⟩
  have r5 := r3.wr (q := 414) (i := 6 * h3 403 44 + nO σ) (v := y) (by decide)
  have e44 : h5 403 44 = h3 403 44 := by rw [e5, zset_o (by decide)]
  have ev : h5 414 (6 * h3 403 44 + nO σ) = y := by rw [e5, zset_e]
  have ff : frBk h h5 := by rw [e5]; exact (f1.n.t f3.n).t (frBk.st ⟨by decide, by decide⟩ (rz (show rsz 414 = 6 by decide) (by omega)))
  rw [← e5] at p5 r5
  have b5 := p5.b
  rw [r5.2.1.1]
  by_cases z2 : effK (toks T n) (newS (toks T n) σ (advS s)).2 = 0
  · rw [p5.2.2.1.2.2.1, w32_i (x := nO σ + 1) (by omega)]
    refine zWp_it z2 (zWp_it b5 (zWp_it b5 (zWp_lt fun h6 e6 => zWp_s ?_)))
    rw [e6]
    refine ⟨r5.wr (by decide), ff.t (frBk.st ⟨by decide, by decide⟩ (by rw [show rsz 413 = 1 by decide]; omega)), fun _ => p5.n_o (fun k hk => ?_) (fun j hj => ?_) ?_ (fun k i hk hi => ?_) ?_⟩
    · dsimp only
      rw [zset_n hk.2.2.2.1, zset_n hk.2.2.2.2]
    · dsimp only
      rw [zset_j hj, zset_o (by decide)]
    · dsimp only
      rw [zset_e]
    · dsimp only
      rw [zset_o (by omega), hk, zset_j hi]
    · dsimp only
      rw [zset_o (by decide), zset_e, e44, ev]
      exact ey (eff_0 z2).1
  · exact zWp_nt z2 (zWp_s ⟨r5, ff, fun q => absurd q z2⟩)
theorem q_R_rope {d : Nat} {T : Int → Int} {n : Int} {s : zRd} {σ h : zH} (w : WP σ) (p : PR σ h) (r : RR T n s h) (hd : effK (toks T n) s = 0) (hk : (tkI (toks T n) s.1).1 ≠ 0) : zWp (m_R_roping (d + 4) h) (fun _ h' => StR T n (if nRo σ < 9 then (zset (zset σ 20 (nRo σ) (nbS (toks T n) 1 9999 (advS s)).1) 8 15 (nRo σ + 1), (nbS (toks T n) 1 9999 (advS s)).2) else (σ, flS 5 (tkI (toks T n) s.1).2.1 s)) h h') := by
  have w2 := w.1.2
  have b := p.b
  rw [em_R_roping, p.2.2.1.2.2.2.2.2.2.1]
  refine zWp_it b ?_
  by_cases c : nRo σ = 9
  · rw [if_neg (c := nRo σ < 9) (by omega)]
    refine zWp_it c ?_
    rw [el_R_roping_20]
    refine k_ct (d := d) (x := 1) p r hd hk (fun h1 z r1 f1 => ?_) (fun h1 e => absurd e (by decide))
    rw [if_neg (by decide)] at z r1
    exact zWp_it rfl (zWp_s ⟨r1, f1.n, fun y => absurd y z⟩)
  rw [if_pos (c := nRo σ < 9) (by omega)]
  refine zWp_nt c ?_
  rw [el_R_roping_20]
  refine k_ct (d := d) (x := 0) p r hd hk (fun h1 z r1 f1 => ?_) (fun h1 _ z p1 r1 f1 => ?_)
  · rw [if_pos rfl] at z r1
    rw [d_nb z]
    exact zWp_it rfl (zWp_s ⟨r1.ds z, f1.n, fun y => absurd y (dS_e z)⟩)
  have b1 := p1.b
  refine zWp_nt (by decide) (zWp_it b1 (k_nb (d := d) p1 r1 (fun y h3 ey p3 r3 f3 => ?_)))
  rw [p1.2.2.1.2.2.2.2.2.2.1, ← f3.2 44 (by decide)]
  have b3 := p3.b
  rw [ixw (by omega) (by omega)]
  refine zWp_it (by omega) (zWp_lt fun h5 e5 => ?_)
  have p5 := p3.w_r (q := 428) (v := y) ⟨by decide, by decide⟩
  have r5 := r3.wr (q := 428) (i := 9 * h3 403 44 + nRo σ) (v := y) (by decide)
  have e44 : h5 403 44 = h3 403 44 := by rw [e5, zset_o (by decide)]
  have ev : h5 428 (9 * h3 403 44 + nRo σ) = y := by rw [e5, zset_e]
  have ff : frBk h h5 := by rw [e5]; exact (f1.n.t f3.n).t (frBk.st ⟨by decide, by decide⟩ (rz (show rsz 428 = 9 by decide) (by omega)))
  rw [← e5] at p5 r5
  have b5 := p5.b
  rw [r5.2.1.1]
  by_cases z2 : effK (toks T n) (nbS (toks T n) 1 9999 (advS s)).2 = 0
  · rw [p5.2.2.1.2.2.2.2.2.2.1, w32_i (x := nRo σ + 1) (by omega)]
    refine zWp_it z2 (zWp_it b5 (zWp_it b5 (zWp_lt fun h6 e6 => zWp_s ?_)))
    rw [e6]
    refine ⟨r5.wr (by decide), ff.t (frBk.st ⟨by decide, by decide⟩ (by rw [show rsz 427 = 1 by decide]; omega)), fun _ => p5.n_r (fun k hk => ?_) (fun j hj => ?_) ?_ (fun k i hk hi => ?_) ?_⟩
    · dsimp only
      rw [zset_n hk.2.2.2.1, zset_n hk.2.2.2.2]
    · dsimp only
      rw [zset_j hj, zset_o (by decide)]
    · dsimp only
      rw [zset_e]
    · dsimp only
      rw [zset_o (by omega), hk, zset_j hi]
    · dsimp only
      rw [zset_o (by decide), zset_e, e44, ev]
      exact ey (eff_0 z2).1
  · exact zWp_nt z2 (zWp_s ⟨r5, ff, fun q => absurd q z2⟩)
theorem ef_z {A : List zTk} {s : zRd} (h : s.2.1 ≠ 0) : effK A s ≠ 0 := by rw [(eff_f h).1]; exact h
/-- what comes first went well, if what comes behind it did -/
theorem nd_0 {A : List zTk} {k x : Int} {s : zRd} (hk : k ≠ 5) (h : (ndS A k x s).2.1 = 0) : s.2.1 = 0 := by
  by_cases z : s.2.1 = 0
  · exact z
  · rw [d_nd hk (ef_z z)] at h; exact absurd h dS_z
theorem nb_0 {A : List zTk} {lo hi : Int} {s : zRd} (h : (nbS A lo hi s).2.2.1 = 0) : s.2.1 = 0 := (nb_ok h).1
theorem fc_0 {A : List zTk} {σ : zH} {s : zRd} (h : (frcS A σ s).2.2.1 = 0) : s.2.1 = 0 := by
  by_cases z : s.2.1 = 0
  · exact z
  · rw [d_fc (ef_z z)] at h; exact absurd h dS_z
theorem d_thaw {A : List zTk} {k : Int} {σ : zH} {s : zRd} (hd : effK A s ≠ 0) : (sThaw A k σ s).2 = dS A s := by
  unfold sThaw
  rw [d_nb hd, d_nd (by decide) (s := (((-1 : Int), dS A s) : Int × zRd).2) (dS_e hd), d_nb (dS_e (dS_e hd))]
  show dS A (dS A (dS A s)) = _
  rw [dS_2, dS_2]
theorem q_R_thaw2 {d : Nat} {T : Int → Int} {n : Int} {s : zRd} {σ h : zH} (w : WP σ) (p : PR σ h) (r : RR T n s h) (hd : effK (toks T n) s = 0) (hk : (tkI (toks T n) s.1).1 ≠ 0) : zWp (m_R_thawing (d + 4) h) (fun _ h' => StR T n (if nT σ < 6 then (zset (sThaw (toks T n) (nT σ) σ (advS s)).1 8 13 (nT σ + 1), (sThaw (toks T n) (nT σ) σ (advS s)).2) else (σ, flS 5 (tkI (toks T n) s.1).2.1 s)) h h') := by
  have w2 := w.1.2
  have b := p.b
  rw [em_R_thawing, p.2.2.1.2.2.2.2.2.1]
  refine zWp_it b ?_
  by_cases c : nT σ = 6
  · rw [if_neg (c := nT σ < 6) (by omega)]
    refine zWp_it c ?_
    rw [el_R_thawing_20]
    refine k_ct (d := d) (x := 1) p r hd hk (fun h1 z r1 f1 => ?_) (fun h1 e => absurd e (by decide))
    rw [if_neg (by decide)] at z r1
    exact zWp_it rfl (zWp_s ⟨r1, f1.n, fun y => absurd y z⟩)
  rw [if_pos (c := nT σ < 6) (by omega)]
  refine zWp_nt c ?_
  rw [el_R_thawing_20]
  refine k_ct (d := d) (x := 0) p r hd hk (fun h1 z r1 f1 => ?_) (fun h1 _ z p1 r1 f1 => ?_)
  · rw [if_pos rfl] at z r1
    exact zWp_it rfl (zWp_s ⟨by rw [d_thaw z]; exact r1.ds z, f1.n, fun y => absurd y (by rw [d_thaw z]; exact dS_e z)⟩)
  have b1 := p1.b
  refine zWp_nt (by decide) (zWp_it b1 (k_nb (d := d) p1 r1 (fun y h3 ey p3 r3 f3 => ?_)))
  rw [p1.2.2.1.2.2.2.2.2.1, ← f3.2 44 (by decide)]
  have b3 := p3.b
  rw [ixw (by omega) (by omega)]
  refine zWp_it (by omega) (zWp_lt fun h5 e5 => ?_)
  have p5 := p3.w_t (q := 425) (v := y) ⟨by decide, by decide⟩
  have r5 := r3.wr (q := 425) (i := 6 * h3 403 44 + nT σ) (v := y) (by decide)
  have e44 : h5 403 44 = h3 403 44 := by rw [e5, zset_o (by decide)]
  have ev : h5 425 (6 * h3 403 44 + nT σ) = y := by rw [e5, zset_e]
  have ff : frBk h h5 := by rw [e5]; exact (f1.n.t f3.n).t (frBk.st ⟨by decide, by decide⟩ (rz (show rsz 425 = 6 by decide) (by omega)))
  rw [← e5] at p5 r5
  refine k_ow (d := d) p5 r5 14 (by decide) (by decide) (fun h6 p6 r6 f6 => k_nb (d := d) p6 r6 (fun y2 h7 ey2 p7 r7 f7 => ?_))
  have f67 := f6.t f7
  rw [← e44, ← f67.2 44 (by decide)]
  have b7 := p7.b
  refine zWp_it (by omega) (zWp_lt fun h9 e9 => ?_)
  have p9 := p7.w_t (q := 426) (v := y2) ⟨by decide, by decide⟩
  have r9 := r7.wr (q := 426) (i := 6 * h7 403 44 + nT σ) (v := y2) (by decide)
  have g44 : h9 403 44 = h7 403 44 := by rw [e9, zset_o (by decide)]
  have ev1 : h9 425 (6 * h7 403 44 + nT σ) = y := by rw [e9, zset_o (by decide), f67.1 425 (by decide), f67.2 44 (by decide), e44]; exact ev
  have ev2 : h9 426 (6 * h7 403 44 + nT σ) = y2 := by rw [e9, zset_e]
  have ff9 : frBk h h9 := by rw [e9]; exact (ff.t f67.n).t (frBk.st ⟨by decide, by decide⟩ (rz (show rsz 426 = 6 by decide) (by omega)))
  rw [← e9] at p9 r9
  have b9 := p9.b
  rw [r9.2.1.1]
  by_cases z2 : effK (toks T n) (nbS (toks T n) 1 99 (ndS (toks T n) 2 (14 : Nat) (nbS (toks T n) 0 9999 (advS s)).2)).2 = 0
  · rw [p9.2.2.1.2.2.2.2.2.1, w32_i (x := nT σ + 1) (by omega)]
    have z0 := (eff_0 z2).1
    have n0 := nd_0 (by decide) (nb_0 z0)
    have eT : sThaw (toks T n) (nT σ) σ (advS s) = (zset (zset σ 18 (nT σ) (nbS (toks T n) 0 9999 (advS s)).1) 19 (nT σ) (nbS (toks T n) 1 99 (ndS (toks T n) 2 (14 : Nat) (nbS (toks T n) 0 9999 (advS s)).2)).1, (nbS (toks T n) 1 99 (ndS (toks T n) 2 (14 : Nat) (nbS (toks T n) 0 9999 (advS s)).2)).2) := rfl
    rw [eT]
    refine zWp_it z2 (zWp_it b9 (zWp_it b9 (zWp_lt fun h10 e10 => zWp_s ?_)))
    rw [e10]
    refine ⟨r9.wr (by decide), ff9.t (frBk.st ⟨by decide, by decide⟩ (by rw [show rsz 424 = 1 by decide]; omega)), fun _ => p9.n_t (fun k hk => ?_) (fun j hj => ?_) ?_ (fun k i hk hi => ?_) ?_⟩
    · dsimp only
      rw [zset_n hk.2.2.2.1, zset_n hk.2.2.2.2.2, zset_n hk.2.2.2.2.1]
    · dsimp only
      rw [zset_j hj, zset_o (by decide), zset_o (by decide)]
    · dsimp only
      rw [zset_e]
    · dsimp only
      rw [zset_o (by omega), zset_2 (fun z => hi z.2), zset_2 (fun z => hi z.2)]
    · dsimp only
      rw [zset_o (by decide), zset_o (by decide), zset_e, zset_o (by decide), zset_e, g44, ev1, ev2]
      exact ⟨ey n0, ey2 z0⟩
  · exact zWp_nt z2 (zWp_s ⟨r9, ff9, fun q => absurd q z2⟩)
theorem q_R_wall2 {d : Nat} {T : Int → Int} {n : Int} {s : zRd} {σ h : zH} (w : WP σ) (p : PR σ h) (r : RR T n s h) (hd : effK (toks T n) s = 0) (hk : (tkI (toks T n) s.1).1 ≠ 0) : zWp (m_R_walling (d + 5) h) (fun _ h' => StR T n (if σ 8 12 < 16 then (zset (sWall (toks T n) σ (advS s)).1 8 12 (σ 8 12 + 1), (sWall (toks T n) σ (advS s)).2) else (σ, flS 5 (tkI (toks T n) s.1).2.1 s)) h h') := by
  have w2 := w.2.1
  have w1 := w.1.1
  have b := p.b
  rw [em_R_walling, p.2.2.1.2.1]
  refine zWp_it b ?_
  by_cases c : σ 8 12 = 16
  · rw [if_neg (c := σ 8 12 < 16) (by omega)]
    refine zWp_it c ?_
    rw [el_R_walling_20]
    refine k_ct (d := d + 1) (x := 1) p r hd hk (fun h1 z r1 f1 => ?_) (fun h1 e => absurd e (by decide))
    rw [if_neg (by decide)] at z r1
    exact zWp_it rfl (zWp_s ⟨r1, f1.n, fun y => absurd y z⟩)
  rw [if_pos (c := σ 8 12 < 16) (by omega)]
  refine zWp_nt c ?_
  rw [el_R_walling_20]
  refine k_ct (d := d + 1) (x := 0) p r hd hk (fun h1 z r1 f1 => ?_) (fun h1 _ z p1 r1 f1 => ?_)
  · rw [if_pos rfl] at z r1
    rw [d_wall z]
    exact zWp_it rfl (zWp_s ⟨r1.ds z, f1.n, fun y => absurd y (dS_e z)⟩)
  refine zWp_nt (by decide) (k_nb (d := d + 1) p1 r1 (fun y h2 ey p2 r2 f2 => k_ow (d := d + 1) p2 r2 3 (by decide) (by decide) (fun h3 p3 r3 f3 => k_fc (d := d) w p3 r3 (fun q h4 eq p4 r4 f4 => ?_))))
  have ff := (f1.n.t f2.n).t (f3.n.t f4.n)
  have b4 := p4.b
  have g4 := eff_g (A := toks T n) r4.1.2.2.2.2
  rw [r4.2.1.1]
  by_cases z2 : effK (toks T n) (frcS (toks T n) σ (ndS (toks T n) 2 (3 : Nat) (nbS (toks T n) 1 9999 (advS s)).2)).2 = 0
  · have z0 := (eff_0 z2).1
    have n0 := nd_0 (by decide) (fc_0 z0)
    have pq := eq z0
    have nz : (freS (toks T n) σ (nbS (toks T n) 1 9999 (advS s)).2).1 ≠ -1 := by
      intro z
      have z' : (frcS (toks T n) σ (ndS (toks T n) 2 3 (nbS (toks T n) 1 9999 (advS s)).2)).1 = -1 := z
      have z0' : (frcS (toks T n) σ (ndS (toks T n) 2 3 (nbS (toks T n) 1 9999 (advS s)).2)).2.2.1 = 0 := z0
      unfold frcS at z' z0'
      by_cases t1 : (celS (toks T n) σ 0 0 (ndS (toks T n) 2 3 (nbS (toks T n) 1 9999 (advS s)).2)).1 = -1
      · rw [if_pos t1] at z0'
        obtain ⟨_, x', y', _, _, _, _, e', p1', _, _⟩ := cel_ok (A := toks T n) (s := ndS (toks T n) 2 3 (nbS (toks T n) 1 9999 (advS s)).2) (lx := 0) (ly := 0) w.1 ⟨by decide, by decide⟩ z0'
        rw [e'] at t1
        have : y' * σ 0 0 + x' = -1 := t1
        omega
      · rw [if_neg t1] at z0' z'
        by_cases t2 : freA σ (celS (toks T n) σ 0 0 (ndS (toks T n) 2 3 (nbS (toks T n) 1 9999 (advS s)).2)).1 = true
        · rw [if_pos t2] at z'; exact t1 z'
        · rw [if_neg t2] at z0'; exact absurd z0' (flS_z (by decide))
    have fo := fre_ok w.1 nz
    have es : sWall (toks T n) σ (advS s) = (zset σ 5 q y, (frcS (toks T n) σ (ndS (toks T n) 2 (3 : Nat) (nbS (toks T n) 1 9999 (advS s)).2)).2) := by
      unfold sWall
      rw [ey n0, pq, if_neg nz]
      rfl
    have pb : 0 ≤ q ∧ q < 60 := by
      have fo1 := fo.1
      have e : (freS (toks T n) σ (nbS (toks T n) 1 9999 (advS s)).2).1 = q := pq.symm
      rw [e] at fo1
      omega
    rw [ixw (by omega) (by omega), es]
    refine zWp_nt (by rw [z2]; decide) (zWp_it (by omega) (zWp_lt fun h5 e5 => ?_))
    have p5 := p4.wc (q := 411) (k := 5) (c := q) (v := y) (by decide)
    have r5 := r4.wr (q := 411) (i := 60 * h4 403 44 + q) (v := y) (by decide)
    have ff5 : frBk h h5 := by rw [e5]; exact ff.t (frBk.st ⟨by decide, by decide⟩ (rz (show rsz 411 = 60 by decide) pb))
    rw [← e5] at p5 r5
    have b5 := p5.b
    have e12 : zset σ 5 q y 8 12 = σ 8 12 := zset_o (by decide)
    rw [p5.2.2.1.2.1, e12, w32_i (x := σ 8 12 + 1) (by omega)]
    refine zWp_it b5 (zWp_it b5 (zWp_lt fun h6 e6 => zWp_s ?_))
    rw [e6]
    exact ⟨r5.wr (by decide), ff5.t (frBk.st ⟨by decide, by decide⟩ (by rw [show rsz 412 = 1 by decide]; omega)), fun _ => p5.n_k (by decide)⟩
  · exact zWp_it (by omega) (zWp_s ⟨r4, ff, fun y => absurd y z2⟩)
