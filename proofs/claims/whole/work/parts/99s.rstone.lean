/-! stones and houses, in the reference -/
theorem frc_q {A : List zTk} {σ σ' : zH} {t : zRd} (h0 : σ' 0 = σ 0) (h5 : σ' 5 = σ 5) (h7 : σ' 7 = σ 7) (h8 : σ' 8 = σ 8) (h15 : σ' 15 = σ 15) : frcS A σ' t = frcS A σ t := by
  unfold frcS celS freA nS
  rw [h0, h5, h7, h8, h15]
theorem fre_q {A : List zTk} {σ σ' : zH} {t : zRd} (h0 : σ' 0 = σ 0) (h5 : σ' 5 = σ 5) (h7 : σ' 7 = σ 7) (h8 : σ' 8 = σ 8) (h15 : σ' 15 = σ 15) : freS A σ' t = frcS A σ (ndS A 2 3 t) := by
  rw [fre_c]
  exact frc_q h0 h5 h7 h8 h15
theorem stone_e {A : List zTk} {k : Int} {σ : zH} {s : zRd} : sStone A k σ s = (zset (zset (zset (zset σ 10 k (newS A σ s).1) 13 k (nbS A 1 999 (ndS A 2 8 (newS A σ s).2)).1) 14 k (nbS A 0 9999 (ndS A 2 9 (nbS A 1 999 (ndS A 2 8 (newS A σ s).2)).2)).1) 15 k (frcS A σ (ndS A 2 3 (nbS A 0 9999 (ndS A 2 9 (nbS A 1 999 (ndS A 2 8 (newS A σ s).2)).2)).2)).1, (frcS A σ (ndS A 2 3 (nbS A 0 9999 (ndS A 2 9 (nbS A 1 999 (ndS A 2 8 (newS A σ s).2)).2)).2)).2) := by
  have e := fre_q (A := A) (σ := σ) (σ' := zset (zset (zset σ 10 k (newS A σ s).1) 13 k (nbS A 1 999 (ndS A 2 8 (newS A σ s).2)).1) 14 k (nbS A 0 9999 (ndS A 2 9 (nbS A 1 999 (ndS A 2 8 (newS A σ s).2)).2)).1) (t := (nbS A 0 9999 (ndS A 2 9 (nbS A 1 999 (ndS A 2 8 (newS A σ s).2)).2)).2) (by rw [zset_n (by decide), zset_n (by decide), zset_n (by decide)]) (by rw [zset_n (by decide), zset_n (by decide), zset_n (by decide)]) (by rw [zset_n (by decide), zset_n (by decide), zset_n (by decide)]) (by rw [zset_n (by decide), zset_n (by decide), zset_n (by decide)]) (by rw [zset_n (by decide), zset_n (by decide), zset_n (by decide)])
  rw [← e]
  rfl
theorem house_e {A : List zTk} {k : Int} {σ : zH} {s : zRd} : sHouse A k σ s = (if (frcS A σ (ndS A 2 3 (nbS A 1 999 (ndS A 2 11 (newS A σ s).2)).2)).1 = -1 then zset (zset (zset σ 11 k (newS A σ s).1) 16 k (nbS A 1 999 (ndS A 2 11 (newS A σ s).2)).1) 17 k (frcS A σ (ndS A 2 3 (nbS A 1 999 (ndS A 2 11 (newS A σ s).2)).2)).1 else zset (zset (zset (zset σ 11 k (newS A σ s).1) 16 k (nbS A 1 999 (ndS A 2 11 (newS A σ s).2)).1) 17 k (frcS A σ (ndS A 2 3 (nbS A 1 999 (ndS A 2 11 (newS A σ s).2)).2)).1) 7 (frcS A σ (ndS A 2 3 (nbS A 1 999 (ndS A 2 11 (newS A σ s).2)).2)).1 k, (frcS A σ (ndS A 2 3 (nbS A 1 999 (ndS A 2 11 (newS A σ s).2)).2)).2) := by
  have e := fre_q (A := A) (σ := σ) (σ' := zset (zset σ 11 k (newS A σ s).1) 16 k (nbS A 1 999 (ndS A 2 11 (newS A σ s).2)).1) (t := (nbS A 1 999 (ndS A 2 11 (newS A σ s).2)).2) (by rw [zset_n (by decide), zset_n (by decide)]) (by rw [zset_n (by decide), zset_n (by decide)]) (by rw [zset_n (by decide), zset_n (by decide)]) (by rw [zset_n (by decide), zset_n (by decide)]) (by rw [zset_n (by decide), zset_n (by decide)])
  rw [← e]
  rfl
theorem d_stone {A : List zTk} {k : Int} {σ : zH} {s : zRd} (hd : effK A s ≠ 0) : (sStone A k σ s).2 = dS A s := by
  rw [stone_e, d_nw hd]
  show (frcS A σ (ndS A 2 3 (nbS A 0 9999 (ndS A 2 9 (nbS A 1 999 (ndS A 2 8 (dS A s))).2)).2)).2 = _
  rw [d_nd (by decide) (dS_e hd), dS_2, d_nb (dS_e hd)]
  show (frcS A σ (ndS A 2 3 (nbS A 0 9999 (ndS A 2 9 (dS A (dS A s)))).2)).2 = _
  rw [dS_2, d_nd (by decide) (dS_e hd), dS_2, d_nb (dS_e hd)]
  show (frcS A σ (ndS A 2 3 (dS A (dS A s)))).2 = _
  rw [dS_2, d_nd (by decide) (dS_e hd), dS_2, d_fc (dS_e hd), dS_2]
theorem d_house {A : List zTk} {k : Int} {σ : zH} {s : zRd} (hd : effK A s ≠ 0) : (sHouse A k σ s).2 = dS A s := by
  rw [house_e, d_nw hd]
  show (frcS A σ (ndS A 2 3 (nbS A 1 999 (ndS A 2 11 (dS A s))).2)).2 = _
  rw [d_nd (by decide) (dS_e hd), dS_2, d_nb (dS_e hd)]
  show (frcS A σ (ndS A 2 3 (dS A (dS A s)))).2 = _
  rw [dS_2, d_nd (by decide) (dS_e hd), dS_2, d_fc (dS_e hd), dS_2]
theorem q_R_stone2 {d : Nat} {T : Int → Int} {n : Int} {s : zRd} {σ h : zH} (w : WP σ) (p : PR σ h) (r : RR T n s h) (hd : effK (toks T n) s = 0) (hk : (tkI (toks T n) s.1).1 ≠ 0) : zWp (m_R_stoning (d + 5) h) (fun _ h' => StR T n (if nS σ < 10 then (zset (sStone (toks T n) (nS σ) σ (advS s)).1 8 7 (nS σ + 1), (sStone (toks T n) (nS σ) σ (advS s)).2) else (σ, flS 5 (tkI (toks T n) s.1).2.1 s)) h h') := by
  have w2 := w.1.2
  have b := p.b
  rw [em_R_stoning, p.2.2.1.2.2.2.1]
  refine zWp_it b ?_
  by_cases c : nS σ = 10
  · rw [if_neg (c := nS σ < 10) (by omega)]
    refine zWp_it c ?_
    rw [el_R_stoning_20]
    refine k_ct (d := d + 1) (x := 1) p r hd hk (fun h1 z r1 f1 => ?_) (fun h1 e => absurd e (by decide))
    rw [if_neg (by decide)] at z r1
    exact zWp_it rfl (zWp_s ⟨r1, f1.n, fun y => absurd y z⟩)
  rw [if_pos (c := nS σ < 10) (by omega)]
  refine zWp_nt c ?_
  rw [el_R_stoning_20]
  refine k_ct (d := d + 1) (x := 0) p r hd hk (fun h1 z r1 f1 => ?_) (fun h1 _ z p1 r1 f1 => ?_)
  · rw [if_pos rfl] at z r1
    exact zWp_it rfl (zWp_s ⟨by rw [d_stone z]; exact r1.ds z, f1.n, fun y => absurd y (by rw [d_stone z]; exact dS_e z)⟩)
  have b1 := p1.b
  rw [p1.2.2.1.2.2.2.1, ixw (by omega) (by omega)]
  refine zWp_nt (by decide) (zWp_it b1 (k_nn (d := d + 1) w.1 p1 r1 (fun y1 h3 ey1 p3 r3 f3 => zWp_it (by omega) (zWp_lt fun h5 e5 => ?_))))
  have t3 : h3 403 44 = h1 403 44 := f3.2 44 (by decide)
  have p5 := p3.w_s (q := 416) (v := y1) ⟨by decide, by decide⟩
  have r5 := r3.wr (q := 416) (i := 10 * h1 403 44 + nS σ) (v := y1) (by decide)
  have q5 := frBk.st (h := h3) (r := 416) (i := 10 * h3 403 44 + nS σ) (v := y1) ⟨by decide, by decide⟩ (rz (show rsz 416 = 10 by decide) (by omega))
  rw [t3, ← e5] at p5 q5
  rw [← e5] at r5
  have t5 : h5 403 44 = h1 403 44 := by rw [e5, zset_o (by decide)]; exact t3
  have v5 : h5 416 (10 * h1 403 44 + nS σ) = y1 := by rw [e5, zset_e]
  refine k_ow (d := d + 1) p5 r5 8 (by decide) (by decide) (fun h6 p6 r6 f6 => k_nb (d := d + 1) p6 r6 (fun y2 h7 ey2 p7 r7 f7 => zWp_it (by omega) (zWp_lt fun h9 e9 => ?_)))
  have f67 := f6.t f7
  have t7 : h7 403 44 = h1 403 44 := (f67.2 44 (by decide)).trans t5
  have p9 := p7.w_s (q := 417) (v := y2) ⟨by decide, by decide⟩
  have r9 := r7.wr (q := 417) (i := 10 * h1 403 44 + nS σ) (v := y2) (by decide)
  have q9 := frBk.st (h := h7) (r := 417) (i := 10 * h7 403 44 + nS σ) (v := y2) ⟨by decide, by decide⟩ (rz (show rsz 417 = 10 by decide) (by omega))
  rw [t7, ← e9] at p9 q9
  rw [← e9] at r9
  have t9 : h9 403 44 = h1 403 44 := by rw [e9, zset_o (by decide)]; exact t7
  have v9 : h9 416 (10 * h1 403 44 + nS σ) = y1 ∧ h9 417 (10 * h1 403 44 + nS σ) = y2 := ⟨by rw [e9, zset_o (by decide), f67.1 416 (by decide)]; exact v5, by rw [e9, zset_e]⟩
  refine k_ow (d := d + 1) p9 r9 9 (by decide) (by decide) (fun h10 p10 r10 f10 => k_nb (d := d + 1) p10 r10 (fun y3 h11 ey3 p11 r11 f11 => zWp_it (by omega) (zWp_lt fun h13 e13 => ?_)))
  have f1011 := f10.t f11
  have t11 : h11 403 44 = h1 403 44 := (f1011.2 44 (by decide)).trans t9
  have p13 := p11.w_s (q := 418) (v := y3) ⟨by decide, by decide⟩
  have r13 := r11.wr (q := 418) (i := 10 * h1 403 44 + nS σ) (v := y3) (by decide)
  have q13 := frBk.st (h := h11) (r := 418) (i := 10 * h11 403 44 + nS σ) (v := y3) ⟨by decide, by decide⟩ (rz (show rsz 418 = 10 by decide) (by omega))
  rw [t11, ← e13] at p13 q13
  rw [← e13] at r13
  have t13 : h13 403 44 = h1 403 44 := by rw [e13, zset_o (by decide)]; exact t11
  have v13 : h13 416 (10 * h1 403 44 + nS σ) = y1 ∧ h13 417 (10 * h1 403 44 + nS σ) = y2 ∧ h13 418 (10 * h1 403 44 + nS σ) = y3 := ⟨by rw [e13, zset_o (by decide), f1011.1 416 (by decide)]; exact v9.1, by rw [e13, zset_o (by decide), f1011.1 417 (by decide)]; exact v9.2, by rw [e13, zset_e]⟩
  refine k_ow (d := d + 1) p13 r13 3 (by decide) (by decide) (fun h14 p14 r14 f14 => k_fc (d := d) w p14 r14 (fun y4 h15 ey4 p15 r15 f15 => zWp_it (by omega) (zWp_lt fun h17 e17 => ?_)))
  have f1415 := f14.t f15
  have t15 : h15 403 44 = h1 403 44 := (f1415.2 44 (by decide)).trans t13
  have p17 := p15.w_s (q := 419) (v := y4) ⟨by decide, by decide⟩
  have r17 := r15.wr (q := 419) (i := 10 * h1 403 44 + nS σ) (v := y4) (by decide)
  have q17 := frBk.st (h := h15) (r := 419) (i := 10 * h15 403 44 + nS σ) (v := y4) ⟨by decide, by decide⟩ (rz (show rsz 419 = 10 by decide) (by omega))
  rw [t15, ← e17] at p17 q17
  rw [← e17] at r17
  have t17 : h17 403 44 = h1 403 44 := by rw [e17, zset_o (by decide)]; exact t15
  have v17 : h17 416 (10 * h1 403 44 + nS σ) = y1 ∧ h17 417 (10 * h1 403 44 + nS σ) = y2 ∧ h17 418 (10 * h1 403 44 + nS σ) = y3 ∧ h17 419 (10 * h1 403 44 + nS σ) = y4 := ⟨by rw [e17, zset_o (by decide), f1415.1 416 (by decide)]; exact v13.1, by rw [e17, zset_o (by decide), f1415.1 417 (by decide)]; exact v13.2.1, by rw [e17, zset_o (by decide), f1415.1 418 (by decide)]; exact v13.2.2, by rw [e17, zset_e]⟩
  have ff : frBk h h17 := (((f1.n.t f3.n).t (q5.t f67.n)).t (q9.t f1011.n)).t ((q13.t f1415.n).t q17)
  have b17 := p17.b
  rw [r17.2.1.1, stone_e]
  by_cases z2 : effK (toks T n) (frcS (toks T n) σ (ndS (toks T n) 2 (3 : Nat) (nbS (toks T n) 0 9999 (ndS (toks T n) 2 (9 : Nat) (nbS (toks T n) 1 999 (ndS (toks T n) 2 (8 : Nat) (newS (toks T n) σ (advS s)).2)).2)).2)).2 = 0
  · have z0 := (eff_0 z2).1
    have n4 := nd_0 (by decide) (fc_0 z0)
    have n3 := nd_0 (by decide) (nb_0 n4)
    have n2 := nd_0 (by decide) (nb_0 n3)
    rw [p17.2.2.1.2.2.2.1, w32_i (x := nS σ + 1) (by omega)]
    refine zWp_it z2 (zWp_it b17 (zWp_it b17 (zWp_lt fun h18 e18 => zWp_s ?_)))
    rw [e18]
    refine ⟨r17.wr (by decide), ff.t (frBk.st ⟨by decide, by decide⟩ (by rw [show rsz 415 = 1 by decide]; omega)), fun _ => p17.n_s (fun k hk => ?_) (fun j hj => ?_) ?_ (fun k i hk hi => ?_) ?_⟩
    · dsimp only
      rw [zset_n hk.2.2.2.1, zset_n hk.2.2.2.2.2.2.2, zset_n hk.2.2.2.2.2.2.1, zset_n hk.2.2.2.2.2.1, zset_n hk.2.2.2.2.1]
    · dsimp only
      rw [zset_j hj, zset_o (by decide), zset_o (by decide), zset_o (by decide), zset_o (by decide)]
    · dsimp only
      rw [zset_e]
    · dsimp only
      rw [zset_o (by omega), zset_2 (fun z => hi z.2), zset_2 (fun z => hi z.2), zset_2 (fun z => hi z.2), zset_2 (fun z => hi z.2)]
    · dsimp only
      rw [t17, v17.1, v17.2.1, v17.2.2.1, v17.2.2.2]
      refine ⟨?_, ?_, ?_, ?_⟩
      · rw [zset_o (by decide), zset_o (by decide), zset_o (by decide), zset_o (by decide), zset_e]; exact ey1 n2
      · rw [zset_o (by decide), zset_o (by decide), zset_o (by decide), zset_e]; exact ey2 n3
      · rw [zset_o (by decide), zset_o (by decide), zset_e]; exact ey3 n4
      · rw [zset_o (by decide), zset_e]; exact ey4 z0
  · exact zWp_nt z2 (zWp_s ⟨r17, ff, fun q => absurd q z2⟩)
theorem q_R_house2 {d : Nat} {T : Int → Int} {n : Int} {s : zRd} {σ h : zH} (w : WP σ) (p : PR σ h) (r : RR T n s h) (hd : effK (toks T n) s = 0) (hk : (tkI (toks T n) s.1).1 ≠ 0) : zWp (m_R_housing (d + 5) h) (fun _ h' => StR T n (if nHo σ < 8 then (zset (sHouse (toks T n) (nHo σ) σ (advS s)).1 8 10 (nHo σ + 1), (sHouse (toks T n) (nHo σ) σ (advS s)).2) else (σ, flS 5 (tkI (toks T n) s.1).2.1 s)) h h') := by
  have w2 := w.1.2
  have b := p.b
  rw [em_R_housing, p.2.2.1.2.2.2.2.1]
  refine zWp_it b ?_
  by_cases c : nHo σ = 8
  · rw [if_neg (c := nHo σ < 8) (by omega)]
    refine zWp_it c ?_
    rw [el_R_housing_20]
    refine k_ct (d := d + 1) (x := 1) p r hd hk (fun h1 z r1 f1 => ?_) (fun h1 e => absurd e (by decide))
    rw [if_neg (by decide)] at z r1
    exact zWp_it rfl (zWp_s ⟨r1, f1.n, fun y => absurd y z⟩)
  rw [if_pos (c := nHo σ < 8) (by omega)]
  refine zWp_nt c ?_
  rw [el_R_housing_20]
  refine k_ct (d := d + 1) (x := 0) p r hd hk (fun h1 z r1 f1 => ?_) (fun h1 _ z p1 r1 f1 => ?_)
  · rw [if_pos rfl] at z r1
    exact zWp_it rfl (zWp_s ⟨by rw [d_house z]; exact r1.ds z, f1.n, fun y => absurd y (by rw [d_house z]; exact dS_e z)⟩)
  have b1 := p1.b
  rw [p1.2.2.1.2.2.2.2.1, ixw (by omega) (by omega)]
  refine zWp_nt (by decide) (zWp_it b1 (k_nn (d := d + 1) w.1 p1 r1 (fun y1 h3 ey1 p3 r3 f3 => zWp_it (by omega) (zWp_lt fun h5 e5 => ?_))))
  have t3 : h3 403 44 = h1 403 44 := f3.2 44 (by decide)
  have p5 := p3.w_h (q := 421) (v := y1) ⟨by decide, by decide⟩
  have r5 := r3.wr (q := 421) (i := 8 * h1 403 44 + nHo σ) (v := y1) (by decide)
  have q5 := frBk.st (h := h3) (r := 421) (i := 8 * h3 403 44 + nHo σ) (v := y1) ⟨by decide, by decide⟩ (rz (show rsz 421 = 8 by decide) (by omega))
  rw [t3, ← e5] at p5 q5
  rw [← e5] at r5
  have t5 : h5 403 44 = h1 403 44 := by rw [e5, zset_o (by decide)]; exact t3
  have v5 : h5 421 (8 * h1 403 44 + nHo σ) = y1 := by rw [e5, zset_e]
  refine k_ow (d := d + 1) p5 r5 11 (by decide) (by decide) (fun h6 p6 r6 f6 => k_nb (d := d + 1) p6 r6 (fun y2 h7 ey2 p7 r7 f7 => zWp_it (by omega) (zWp_lt fun h9 e9 => ?_)))
  have f67 := f6.t f7
  have t7 : h7 403 44 = h1 403 44 := (f67.2 44 (by decide)).trans t5
  have p9 := p7.w_h (q := 422) (v := y2) ⟨by decide, by decide⟩
  have r9 := r7.wr (q := 422) (i := 8 * h1 403 44 + nHo σ) (v := y2) (by decide)
  have q9 := frBk.st (h := h7) (r := 422) (i := 8 * h7 403 44 + nHo σ) (v := y2) ⟨by decide, by decide⟩ (rz (show rsz 422 = 8 by decide) (by omega))
  rw [t7, ← e9] at p9 q9
  rw [← e9] at r9
  have t9 : h9 403 44 = h1 403 44 := by rw [e9, zset_o (by decide)]; exact t7
  have v9 : h9 421 (8 * h1 403 44 + nHo σ) = y1 ∧ h9 422 (8 * h1 403 44 + nHo σ) = y2 := ⟨by rw [e9, zset_o (by decide), f67.1 421 (by decide)]; exact v5, by rw [e9, zset_e]⟩
  refine k_ow (d := d + 1) p9 r9 3 (by decide) (by decide) (fun h14 p14 r14 f14 => k_fc (d := d) w p14 r14 (fun y4 h15 ey4 p15 r15 f15 => zWp_it (by omega) (zWp_lt fun h17 e17 => ?_)))
  have f1415 := f14.t f15
  have t15 : h15 403 44 = h1 403 44 := (f1415.2 44 (by decide)).trans t9
  have p17 := p15.w_h (q := 423) (v := y4) ⟨by decide, by decide⟩
  have r17 := r15.wr (q := 423) (i := 8 * h1 403 44 + nHo σ) (v := y4) (by decide)
  have q17 := frBk.st (h := h15) (r := 423) (i := 8 * h15 403 44 + nHo σ) (v := y4) ⟨by decide, by decide⟩ (rz (show rsz 423 = 8 by decide) (by omega))
  rw [t15, ← e17] at p17 q17
  rw [← e17] at r17
  have t17 : h17 403 44 = h1 403 44 := by rw [e17, zset_o (by decide)]; exact t15
  have v17 : h17 421 (8 * h1 403 44 + nHo σ) = y1 ∧ h17 422 (8 * h1 403 44 + nHo σ) = y2 ∧ h17 423 (8 * h1 403 44 + nHo σ) = y4 := ⟨by rw [e17, zset_o (by decide), f1415.1 421 (by decide)]; exact v9.1, by rw [e17, zset_o (by decide), f1415.1 422 (by decide)]; exact v9.2, by rw [e17, zset_e]⟩
  have ff : frBk h h17 := ((f1.n.t f3.n).t (q5.t f67.n)).t ((q9.t f1415.n).t q17)
  have b17 := p17.b
  rw [r17.2.1.1, house_e]
  by_cases z2 : effK (toks T n) (frcS (toks T n) σ (ndS (toks T n) 2 (3 : Nat) (nbS (toks T n) 1 999 (ndS (toks T n) 2 (11 : Nat) (newS (toks T n) σ (advS s)).2)).2)).2 = 0
  · have z0 := (eff_0 z2).1
    have n3 := nd_0 (by decide) (fc_0 z0)
    have n2 := nd_0 (by decide) (nb_0 n3)
    rw [p17.2.2.1.2.2.2.2.1, w32_i (x := nHo σ + 1) (by omega)]
    refine zWp_it z2 (zWp_it b17 (zWp_it b17 (zWp_lt fun h18 e18 => zWp_s ?_)))
    rw [e18]
    refine ⟨r17.wr (by decide), ff.t (frBk.st ⟨by decide, by decide⟩ (by rw [show rsz 420 = 1 by decide]; omega)), fun _ => p17.n_h (fun k hk => ?_) (fun j hj => ?_) ?_ (fun k i hk hi => ?_) ?_⟩
    · dsimp only
      rw [zset_n hk.2.2.2.1]
      split
      · rw [zset_n hk.2.2.2.2.2.2, zset_n hk.2.2.2.2.2.1, zset_n hk.2.2.2.2.1]
      · rw [zset_n hk.2.2.1, zset_n hk.2.2.2.2.2.2, zset_n hk.2.2.2.2.2.1, zset_n hk.2.2.2.2.1]
    · dsimp only
      rw [zset_j hj]
      split
      · rw [zset_o (by decide), zset_o (by decide), zset_o (by decide)]
      · rw [zset_o (by decide), zset_o (by decide), zset_o (by decide), zset_o (by decide)]
    · dsimp only
      rw [zset_e]
    · dsimp only
      rw [zset_o (by omega)]
      split
      · rw [zset_2 (fun z => hi z.2), zset_2 (fun z => hi z.2), zset_2 (fun z => hi z.2)]
      · rw [zset_o (by omega), zset_2 (fun z => hi z.2), zset_2 (fun z => hi z.2), zset_2 (fun z => hi z.2)]
    · dsimp only
      rw [t17, v17.1, v17.2.1, v17.2.2, zset_o (by decide), zset_o (by decide), zset_o (by decide)]
      split
      · refine ⟨?_, ?_, ?_⟩
        · rw [zset_o (by decide), zset_o (by decide), zset_e]; exact ey1 n2
        · rw [zset_o (by decide), zset_e]; exact ey2 n3
        · rw [zset_e]; exact ey4 z0
      · refine ⟨?_, ?_, ?_⟩
        · rw [zset_o (by decide), zset_o (by decide), zset_o (by decide), zset_e]; exact ey1 n2
        · rw [zset_o (by decide), zset_o (by decide), zset_e]; exact ey2 n3
        · rw [zset_o (by decide), zset_e]; exact ey4 z0
  · exact zWp_nt z2 (zWp_s ⟨r17, ff, fun q => absurd q z2⟩)
