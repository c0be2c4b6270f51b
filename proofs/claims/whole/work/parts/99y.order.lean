theorem frc_ok {A : List zTk} {σ : zH} {t : zRd} (w : WB σ) (h : (frcS A σ t).2.2.1 = 0) : (0 ≤ (frcS A σ t).1 ∧ (frcS A σ t).1 < nC σ) ∧ freA σ (frcS A σ t).1 = true := by
  unfold frcS at h ⊢
  by_cases t1 : (celS A σ 0 0 t).1 = -1
  · rw [if_pos t1] at h
    obtain ⟨_, x', y', _, _, _, _, e', p1', _, _⟩ := cel_ok (A := A) (s := t) (lx := 0) (ly := 0) w ⟨by decide, by decide⟩ h
    rw [e'] at t1
    have : y' * σ 0 0 + x' = -1 := t1
    omega
  · rw [if_neg t1] at h ⊢
    by_cases t2 : freA σ (celS A σ 0 0 t).1 = true
    · rw [if_pos t2] at h ⊢
      obtain ⟨_, x', y', _, _, _, _, e', p1', p2', _⟩ := cel_ok (A := A) (s := t) (lx := 0) (ly := 0) w ⟨by decide, by decide⟩ h
      refine ⟨?_, t2⟩
      rw [e']
      exact ⟨p1', p2'⟩
    · rw [if_neg t2] at h
      exact absurd h (flS_z (by decide))
theorem free_f {σ : zH} {p : Int} (n : 0 ≤ nS σ) (h : freA σ p = true) : (∀ j, 0 ≤ j → j < nS σ → σ 15 j ≠ p) ∧ σ 7 p = -1 ∧ σ 5 p = 0 := by
  have u := of_decide_eq_true h
  refine ⟨fun j j0 j1 => ?_, u.2⟩
  rcases zfs_spec (fun i => decide (σ 15 i = p)) (nS σ).toNat 0 with z | z
  · exact of_decide_eq_false (z.2 j j0 (by omega))
  · have := u.1
    omega
theorem wp_wall {A : List zTk} {σ : zH} {s : zRd} (w : WP σ) (lt : σ 8 12 < 16) (hz : (sWall A σ s).2.2.1 = 0) : WP (zset (sWall A σ s).1 8 12 (σ 8 12 + 1)) := by
  have z1 : (frcS A σ (ndS A 2 3 (nbS A 1 9999 s).2)).2.2.1 = 0 := hz
  have z0 := nd_0 (by decide) (fc_0 z1)
  have r0 := nb_r z0
  have fo := frc_ok w.1 z1
  have ff := free_f w.1.2.2.2.1 fo.2
  have es : (sWall A σ s).1 = zset σ 5 (frcS A σ (ndS A 2 3 (nbS A 1 9999 s).2)).1 (nbS A 1 9999 s).1 := by
    unfold sWall
    show (if (frcS A σ (ndS A 2 3 (nbS A 1 9999 s).2)).1 = -1 then _ else _) = _
    rw [if_neg (by omega)]
    rfl
  rw [es]
  generalize (nbS A 1 9999 s).1 = a at *
  generalize (frcS A σ (ndS A 2 3 (nbS A 1 9999 s).2)).1 = p at *
  have so : ∀ k, k ≠ 5 → k ≠ 8 → zset (zset σ 5 p a) 8 12 (σ 8 12 + 1) k = σ k := fun k h1 h3 => by rw [zset_n h3, zset_n h1]
  have s8 : ∀ j, j ≠ 12 → zset (zset σ 5 p a) 8 12 (σ 8 12 + 1) 8 j = σ 8 j := fun j hj => by rw [zset_j hj, zset_o (by decide)]
  have e5 : ∀ i, zset (zset σ 5 p a) 8 12 (σ 8 12 + 1) 5 i = if i = p then a else σ 5 i := fun i => by rw [zset_o (by decide), zset_g]
  have e12 : zset (zset σ 5 p a) 8 12 (σ 8 12 + 1) 8 12 = σ 8 12 + 1 := zset_e
  generalize zset (zset σ 5 p a) 8 12 (σ 8 12 + 1) = σ' at *
  obtain ⟨w1, w2, w3, w4, w5, w6, w7, w8⟩ := WP_v.1 w
  refine WP.mk2 (k := 12) w (so 0 (by decide) (by decide)) s8 e12 ⟨fun z => absurd z (by decide), fun z => absurd z (by decide), fun z => absurd z (by decide), fun z => absurd z (by decide), fun z => absurd z (by decide), fun z => absurd z (by decide)⟩ (fun z => absurd z (by decide)) (fun _ => lt) ?_ ?_ ?_ ?_ ?_ ?_
  · rw [show nO σ' = nO σ from s8 4 (by decide)]
    intro c h0 h1
    have := w3 c h0 h1
    rw [so 1 (by decide) (by decide), so 4 (by decide) (by decide), so 6 (by decide) (by decide), e5]
    by_cases q : c = p
    · rw [if_pos q]; omega
    · rw [if_neg q]; exact this
  · rw [show nHo σ' = nHo σ from s8 10 (by decide)]
    intro c h0 h1
    have u := w4 c h0 h1
    rw [so 7 (by decide) (by decide), so 17 (by decide) (by decide), e5]
    refine ⟨u.1, u.2.1, u.2.2.1, fun z => ?_⟩
    rw [if_neg (fun q => z (by rw [q]; exact ff.2.1))]
    exact u.2.2.2 z
  · rw [show nS σ' = nS σ from s8 7 (by decide)]; exact w5.fr (fun k hk => so k (by omega) (by omega))
  · rw [show nHo σ' = nHo σ from s8 10 (by decide)]; exact w6.fr (fun k hk => so k (by omega) (by omega))
  · rw [show nT σ' = nT σ from s8 13 (by decide)]; exact w7.fr (fun k hk => so k (by omega) (by omega))
  · rw [show nRo σ' = nRo σ from s8 15 (by decide)]; exact w8.fr (so 20 (by decide) (by decide))
theorem wp_stone {A : List zTk} {σ : zH} {s : zRd} (w : WP σ) (lt : nS σ < 10) (hz : (sStone A (nS σ) σ s).2.2.1 = 0) : WP (zset (sStone A (nS σ) σ s).1 8 7 (nS σ + 1)) := by
  rw [stone_e] at hz ⊢
  have z3 : (frcS A σ (ndS A 2 3 (nbS A 0 9999 (ndS A 2 9 (nbS A 1 999 (ndS A 2 8 (newS A σ s).2)).2)).2)).2.2.1 = 0 := hz
  have z2 := nd_0 (by decide) (fc_0 z3)
  have z1 := nd_0 (by decide) (nb_0 z2)
  have r2 := nb_r z2
  have r1 := nb_r z1
  have fo := frc_ok w.1 z3
  have ff := free_f w.1.2.2.2.1 fo.2
  dsimp only
  generalize (frcS A σ (ndS A 2 3 (nbS A 0 9999 (ndS A 2 9 (nbS A 1 999 (ndS A 2 8 (newS A σ s).2)).2)).2)).1 = p at *
  generalize (nbS A 0 9999 (ndS A 2 9 (nbS A 1 999 (ndS A 2 8 (newS A σ s).2)).2)).1 = c at *
  generalize (nbS A 1 999 (ndS A 2 8 (newS A σ s).2)).1 = b at *
  generalize (newS A σ s).1 = a at *
  have so : ∀ k, k ≠ 10 → k ≠ 13 → k ≠ 14 → k ≠ 15 → k ≠ 8 → zset (zset (zset (zset (zset σ 10 (nS σ) a) 13 (nS σ) b) 14 (nS σ) c) 15 (nS σ) p) 8 7 (nS σ + 1) k = σ k := fun k h1 h2 h3 h4 h5 => by rw [zset_n h5, zset_n h4, zset_n h3, zset_n h2, zset_n h1]
  have s8 : ∀ j, j ≠ 7 → zset (zset (zset (zset (zset σ 10 (nS σ) a) 13 (nS σ) b) 14 (nS σ) c) 15 (nS σ) p) 8 7 (nS σ + 1) 8 j = σ 8 j := fun j hj => by rw [zset_j hj, zset_o (by decide), zset_o (by decide), zset_o (by decide), zset_o (by decide)]
  have e13 : ∀ i, zset (zset (zset (zset (zset σ 10 (nS σ) a) 13 (nS σ) b) 14 (nS σ) c) 15 (nS σ) p) 8 7 (nS σ + 1) 13 i = if i = nS σ then b else σ 13 i := fun i => by rw [zset_o (by decide), zset_o (by decide), zset_o (by decide), zset_g, zset_o (by decide)]
  have e14 : ∀ i, zset (zset (zset (zset (zset σ 10 (nS σ) a) 13 (nS σ) b) 14 (nS σ) c) 15 (nS σ) p) 8 7 (nS σ + 1) 14 i = if i = nS σ then c else σ 14 i := fun i => by rw [zset_o (by decide), zset_o (by decide), zset_g, zset_o (by decide), zset_o (by decide)]
  have e15 : ∀ i, zset (zset (zset (zset (zset σ 10 (nS σ) a) 13 (nS σ) b) 14 (nS σ) c) 15 (nS σ) p) 8 7 (nS σ + 1) 15 i = if i = nS σ then p else σ 15 i := fun i => by rw [zset_o (by decide), zset_g, zset_o (by decide), zset_o (by decide), zset_o (by decide)]
  have e7 : zset (zset (zset (zset (zset σ 10 (nS σ) a) 13 (nS σ) b) 14 (nS σ) c) 15 (nS σ) p) 8 7 (nS σ + 1) 8 7 = nS σ + 1 := zset_e
  generalize zset (zset (zset (zset (zset σ 10 (nS σ) a) 13 (nS σ) b) 14 (nS σ) c) 15 (nS σ) p) 8 7 (nS σ + 1) = σ' at *
  obtain ⟨w1, w2, w3, w4, w5, w6, w7, w8⟩ := WP_v.1 w
  refine WP.mk2 (k := 7) w (so 0 (by decide) (by decide) (by decide) (by decide) (by decide)) s8 e7 ⟨fun z => absurd z (by decide), fun _ => lt, fun z => absurd z (by decide), fun z => absurd z (by decide), fun z => absurd z (by decide), fun z => absurd z (by decide)⟩ (fun z => absurd z (by decide)) (fun z => absurd z (by decide)) ?_ ?_ ?_ ?_ ?_ ?_
  · rw [show nO σ' = nO σ from s8 4 (by decide)]; exact w3.fr (fun k hk => so k (by omega) (by omega) (by omega) (by omega) (by omega))
  · rw [show nHo σ' = nHo σ from s8 10 (by decide)]; exact w4.fr (fun k hk => so k (by omega) (by omega) (by omega) (by omega) (by omega))
  · rw [show nS σ' = nS σ + 1 from e7]
    intro i i0 i1
    rw [e13, e14, e15]
    by_cases q : i = nS σ
    · rw [if_pos q, if_pos q, if_pos q]
      refine ⟨r1.1, r1.2, r2.1, r2.2, fo.1.1, fo.1.2, fun j j0 j1 ej => ?_⟩
      rw [e15] at ej
      by_cases q2 : j = nS σ
      · rw [q2, q]
      · rw [if_neg q2] at ej
        exact absurd ej (ff.1 j j0 (by omega))
    · rw [if_neg q, if_neg q, if_neg q]
      have u := w5 i i0 (by omega)
      refine ⟨u.1, u.2.1, u.2.2.1, u.2.2.2.1, u.2.2.2.2.1, u.2.2.2.2.2.1, fun j j0 j1 ej => ?_⟩
      rw [e15] at ej
      by_cases q2 : j = nS σ
      · rw [if_pos q2] at ej
        exact absurd ej.symm (ff.1 i i0 (by omega))
      · rw [if_neg q2] at ej
        exact u.2.2.2.2.2.2 j j0 (by omega) ej
  · rw [show nHo σ' = nHo σ from s8 10 (by decide)]; exact w6.fr (fun k hk => so k (by omega) (by omega) (by omega) (by omega) (by omega))
  · rw [show nT σ' = nT σ from s8 13 (by decide)]; exact w7.fr (fun k hk => so k (by omega) (by omega) (by omega) (by omega) (by omega))
  · rw [show nRo σ' = nRo σ from s8 15 (by decide)]; exact w8.fr (so 20 (by decide) (by decide) (by decide) (by decide) (by decide))
theorem wp_house {A : List zTk} {σ : zH} {s : zRd} (w : WP σ) (lt : nHo σ < 8) (hz : (sHouse A (nHo σ) σ s).2.2.1 = 0) : WP (zset (sHouse A (nHo σ) σ s).1 8 10 (nHo σ + 1)) := by
  rw [house_e] at hz ⊢
  have z3 : (frcS A σ (ndS A 2 3 (nbS A 1 999 (ndS A 2 11 (newS A σ s).2)).2)).2.2.1 = 0 := hz
  have z1 := nd_0 (by decide) (fc_0 z3)
  have r1 := nb_r z1
  have fo := frc_ok w.1 z3
  have ff := free_f w.1.2.2.2.1 fo.2
  have wn := w.1.1
  dsimp only
  rw [if_neg (c := (frcS A σ (ndS A 2 3 (nbS A 1 999 (ndS A 2 11 (newS A σ s).2)).2)).1 = -1) (by omega)]
  generalize (frcS A σ (ndS A 2 3 (nbS A 1 999 (ndS A 2 11 (newS A σ s).2)).2)).1 = p at *
  generalize (nbS A 1 999 (ndS A 2 11 (newS A σ s).2)).1 = b at *
  generalize (newS A σ s).1 = a at *
  have so : ∀ k, k ≠ 11 → k ≠ 16 → k ≠ 17 → k ≠ 7 → k ≠ 8 → zset (zset (zset (zset (zset σ 11 (nHo σ) a) 16 (nHo σ) b) 17 (nHo σ) p) 7 p (nHo σ)) 8 10 (nHo σ + 1) k = σ k := fun k h1 h2 h3 h4 h5 => by rw [zset_n h5, zset_n h4, zset_n h3, zset_n h2, zset_n h1]
  have s8 : ∀ j, j ≠ 10 → zset (zset (zset (zset (zset σ 11 (nHo σ) a) 16 (nHo σ) b) 17 (nHo σ) p) 7 p (nHo σ)) 8 10 (nHo σ + 1) 8 j = σ 8 j := fun j hj => by rw [zset_j hj, zset_o (by decide), zset_o (by decide), zset_o (by decide), zset_o (by decide)]
  have e16 : ∀ i, zset (zset (zset (zset (zset σ 11 (nHo σ) a) 16 (nHo σ) b) 17 (nHo σ) p) 7 p (nHo σ)) 8 10 (nHo σ + 1) 16 i = if i = nHo σ then b else σ 16 i := fun i => by rw [zset_o (by decide), zset_o (by decide), zset_o (by decide), zset_g, zset_o (by decide)]
  have e17 : ∀ i, zset (zset (zset (zset (zset σ 11 (nHo σ) a) 16 (nHo σ) b) 17 (nHo σ) p) 7 p (nHo σ)) 8 10 (nHo σ + 1) 17 i = if i = nHo σ then p else σ 17 i := fun i => by rw [zset_o (by decide), zset_o (by decide), zset_g, zset_o (by decide), zset_o (by decide)]
  have e7 : ∀ i, zset (zset (zset (zset (zset σ 11 (nHo σ) a) 16 (nHo σ) b) 17 (nHo σ) p) 7 p (nHo σ)) 8 10 (nHo σ + 1) 7 i = if i = p then nHo σ else σ 7 i := fun i => by rw [zset_o (by decide), zset_g, zset_o (by decide), zset_o (by decide), zset_o (by decide)]
  have e10 : zset (zset (zset (zset (zset σ 11 (nHo σ) a) 16 (nHo σ) b) 17 (nHo σ) p) 7 p (nHo σ)) 8 10 (nHo σ + 1) 8 10 = nHo σ + 1 := zset_e
  generalize zset (zset (zset (zset (zset σ 11 (nHo σ) a) 16 (nHo σ) b) 17 (nHo σ) p) 7 p (nHo σ)) 8 10 (nHo σ + 1) = σ' at *
  obtain ⟨w1, w2, w3, w4, w5, w6, w7, w8⟩ := WP_v.1 w
  refine WP.mk2 (k := 10) w (so 0 (by decide) (by decide) (by decide) (by decide) (by decide)) s8 e10 ⟨fun z => absurd z (by decide), fun z => absurd z (by decide), fun _ => lt, fun z => absurd z (by decide), fun z => absurd z (by decide), fun z => absurd z (by decide)⟩ (fun z => absurd z (by decide)) (fun z => absurd z (by decide)) ?_ ?_ ?_ ?_ ?_ ?_
  · rw [show nO σ' = nO σ from s8 4 (by decide)]; exact w3.fr (fun k hk => so k (by omega) (by omega) (by omega) (by omega) (by omega))
  · rw [show nHo σ' = nHo σ + 1 from e10]
    intro c c0 c1
    have u := w4 c c0 c1
    have n0 := w.1.2.2.2.2.2.1
    rw [e7, so 5 (by decide) (by decide) (by decide) (by decide) (by decide)]
    by_cases q : c = p
    · rw [if_pos q]
      refine ⟨by omega, by omega, fun _ => ?_, fun _ => by rw [q]; exact ff.2.2⟩
      rw [e17, if_pos rfl, q]
    · rw [if_neg q]
      refine ⟨u.1, by omega, fun z => ?_, u.2.2.2⟩
      rw [e17, if_neg (by omega)]
      exact u.2.2.1 z
  · rw [show nS σ' = nS σ from s8 7 (by decide)]; exact w5.fr (fun k hk => so k (by omega) (by omega) (by omega) (by omega) (by omega))
  · rw [show nHo σ' = nHo σ + 1 from e10]
    intro i i0 i1
    rw [e16, e17, e7]
    by_cases q : i = nHo σ
    · rw [if_pos q, if_pos q, if_pos rfl]
      exact ⟨r1.1, r1.2, fo.1.1, fo.1.2, q.symm⟩
    · rw [if_neg q, if_neg q]
      have u := w6 i i0 (by omega)
      refine ⟨u.1, u.2.1, u.2.2.1, u.2.2.2.1, ?_⟩
      rw [if_neg (fun z => ?_)]
      · exact u.2.2.2.2
      · have := u.2.2.2.2
        rw [z, ff.2.1] at this
        omega
  · rw [show nT σ' = nT σ from s8 13 (by decide)]; exact w7.fr (fun k hk => so k (by omega) (by omega) (by omega) (by omega) (by omega))
  · rw [show nRo σ' = nRo σ from s8 15 (by decide)]; exact w8.fr (so 20 (by decide) (by decide) (by decide) (by decide) (by decide))
