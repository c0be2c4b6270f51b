theorem WP.mk2 {σ σ' : zH} {k : Int} (w : WP σ) (h0 : σ' 0 = σ 0) (h8 : ∀ j, j ≠ k → σ' 8 j = σ 8 j) (hk : σ' 8 k = σ 8 k + 1) (lt : (k = 4 → nO σ < 6) ∧ (k = 7 → nS σ < 10) ∧ (k = 10 → nHo σ < 8) ∧ (k = 13 → nT σ < 6) ∧ (k = 15 → nRo σ < 9) ∧ (k = 16 → nLa σ < 8)) (l1 : k = 1 → σ 8 1 < σ 0 1) (l12 : k = 12 → σ 8 12 < 16) (a : vA (nO σ') σ') (b : vB (nHo σ') σ') (s : vS (nS σ') (nC σ) σ') (c : vH (nHo σ') (nC σ) σ') (t : vT (nT σ') σ') (r : vR (nRo σ') σ') : WP σ' := by
  have nc : nC σ' = nC σ := by unfold nC; rw [h0]
  obtain ⟨w1, w2, _⟩ := WP_v.1 w
  refine WP_v.2 ⟨w1.k h0 h8 hk lt, ?_, a, b, by rw [nc]; exact s, by rw [nc]; exact c, t, r⟩
  rw [h0]
  have x1 : 0 ≤ σ' 8 1 ∧ σ' 8 1 ≤ σ 0 1 := by
    by_cases e : (1 : Int) = k
    · have := l1 e.symm
      rw [e] at this w2 ⊢
      rw [hk]; omega
    · rw [h8 1 e]; exact ⟨w2.1, w2.2.1⟩
  have x2 : 0 ≤ σ' 8 12 ∧ σ' 8 12 ≤ 16 := by
    by_cases e : (12 : Int) = k
    · have := l12 e.symm
      rw [e] at this w2 ⊢
      rw [hk]; omega
    · rw [h8 12 e]; exact ⟨w2.2.2.1, w2.2.2.2⟩
  exact ⟨x1.1, x1.2, x2.1, x2.2⟩
theorem vA.le {m m' : Int} {σ : zH} (v : vA m σ) (h : m ≤ m') : vA m' σ := fun c a b => by have := v c a b; omega
theorem wp_thaw {A : List zTk} {σ : zH} {s : zRd} (w : WP σ) (lt : nT σ < 6) (hz : (sThaw A (nT σ) σ s).2.2.1 = 0) : WP (zset (sThaw A (nT σ) σ s).1 8 13 (nT σ + 1)) := by
  have z1 : (nbS A 1 99 (ndS A 2 14 (nbS A 0 9999 s).2)).2.2.1 = 0 := hz
  have z0 := nd_0 (by decide) (nb_0 z1)
  have r1 := nb_r z1
  have r0 := nb_r z0
  have es : (sThaw A (nT σ) σ s).1 = zset (zset σ 18 (nT σ) (nbS A 0 9999 s).1) 19 (nT σ) (nbS A 1 99 (ndS A 2 14 (nbS A 0 9999 s).2)).1 := rfl
  rw [es]
  generalize (nbS A 0 9999 s).1 = a at *
  generalize (nbS A 1 99 (ndS A 2 14 (nbS A 0 9999 s).2)).1 = b at *
  have so : ∀ k, k ≠ 18 → k ≠ 19 → k ≠ 8 → zset (zset (zset σ 18 (nT σ) a) 19 (nT σ) b) 8 13 (nT σ + 1) k = σ k := fun k h1 h2 h3 => by rw [zset_n h3, zset_n h2, zset_n h1]
  have s8 : ∀ j, j ≠ 13 → zset (zset (zset σ 18 (nT σ) a) 19 (nT σ) b) 8 13 (nT σ + 1) 8 j = σ 8 j := fun j hj => by rw [zset_j hj, zset_o (by decide), zset_o (by decide)]
  have e18 : ∀ i, zset (zset (zset σ 18 (nT σ) a) 19 (nT σ) b) 8 13 (nT σ + 1) 18 i = if i = nT σ then a else σ 18 i := fun i => by rw [zset_o (by decide), zset_o (by decide), zset_g]
  have e19 : ∀ i, zset (zset (zset σ 18 (nT σ) a) 19 (nT σ) b) 8 13 (nT σ + 1) 19 i = if i = nT σ then b else σ 19 i := fun i => by rw [zset_o (by decide), zset_g, zset_o (by decide)]
  have e13 : zset (zset (zset σ 18 (nT σ) a) 19 (nT σ) b) 8 13 (nT σ + 1) 8 13 = nT σ + 1 := zset_e
  generalize zset (zset (zset σ 18 (nT σ) a) 19 (nT σ) b) 8 13 (nT σ + 1) = σ' at *
  obtain ⟨w1, w2, w3, w4, w5, w6, w7, w8⟩ := WP_v.1 w
  refine WP.mk2 (k := 13) w (so 0 (by decide) (by decide) (by decide)) s8 e13 ⟨fun z => absurd z (by decide), fun z => absurd z (by decide), fun z => absurd z (by decide), fun _ => lt, fun z => absurd z (by decide), fun z => absurd z (by decide)⟩ (fun z => absurd z (by decide)) (fun z => absurd z (by decide)) ?_ ?_ ?_ ?_ ?_ ?_
  · rw [show nO σ' = nO σ from s8 4 (by decide)]; exact w3.fr (fun k hk => so k (by omega) (by omega) (by omega))
  · rw [show nHo σ' = nHo σ from s8 10 (by decide)]; exact w4.fr (fun k hk => so k (by omega) (by omega) (by omega))
  · rw [show nS σ' = nS σ from s8 7 (by decide)]; exact w5.fr (fun k hk => so k (by omega) (by omega) (by omega))
  · rw [show nHo σ' = nHo σ from s8 10 (by decide)]; exact w6.fr (fun k hk => so k (by omega) (by omega) (by omega))
  · rw [show nT σ' = nT σ + 1 from e13]
    intro i i0 i1
    rw [e18, e19]
    by_cases q : i = nT σ
    · rw [if_pos q, if_pos q]; omega
    · rw [if_neg q, if_neg q]; exact w7 i i0 (by omega)
  · rw [show nRo σ' = nRo σ from s8 15 (by decide)]; exact w8.fr (so 20 (by decide) (by decide) (by decide))
theorem wp_rope {A : List zTk} {σ : zH} {s : zRd} (w : WP σ) (lt : nRo σ < 9) (z0 : (nbS A 1 9999 s).2.2.1 = 0) : WP (zset (zset σ 20 (nRo σ) (nbS A 1 9999 s).1) 8 15 (nRo σ + 1)) := by
  have r0 := nb_r z0
  generalize (nbS A 1 9999 s).1 = a at *
  have so : ∀ k, k ≠ 20 → k ≠ 8 → zset (zset σ 20 (nRo σ) a) 8 15 (nRo σ + 1) k = σ k := fun k h1 h3 => by rw [zset_n h3, zset_n h1]
  have s8 : ∀ j, j ≠ 15 → zset (zset σ 20 (nRo σ) a) 8 15 (nRo σ + 1) 8 j = σ 8 j := fun j hj => by rw [zset_j hj, zset_o (by decide)]
  have e20 : ∀ i, zset (zset σ 20 (nRo σ) a) 8 15 (nRo σ + 1) 20 i = if i = nRo σ then a else σ 20 i := fun i => by rw [zset_o (by decide), zset_g]
  have e15 : zset (zset σ 20 (nRo σ) a) 8 15 (nRo σ + 1) 8 15 = nRo σ + 1 := zset_e
  generalize zset (zset σ 20 (nRo σ) a) 8 15 (nRo σ + 1) = σ' at *
  obtain ⟨w1, w2, w3, w4, w5, w6, w7, w8⟩ := WP_v.1 w
  refine WP.mk2 (k := 15) w (so 0 (by decide) (by decide)) s8 e15 ⟨fun z => absurd z (by decide), fun z => absurd z (by decide), fun z => absurd z (by decide), fun z => absurd z (by decide), fun _ => lt, fun z => absurd z (by decide)⟩ (fun z => absurd z (by decide)) (fun z => absurd z (by decide)) ?_ ?_ ?_ ?_ ?_ ?_
  · rw [show nO σ' = nO σ from s8 4 (by decide)]; exact w3.fr (fun k hk => so k (by omega) (by omega))
  · rw [show nHo σ' = nHo σ from s8 10 (by decide)]; exact w4.fr (fun k hk => so k (by omega) (by omega))
  · rw [show nS σ' = nS σ from s8 7 (by decide)]; exact w5.fr (fun k hk => so k (by omega) (by omega))
  · rw [show nHo σ' = nHo σ from s8 10 (by decide)]; exact w6.fr (fun k hk => so k (by omega) (by omega))
  · rw [show nT σ' = nT σ from s8 13 (by decide)]; exact w7.fr (fun k hk => so k (by omega) (by omega))
  · rw [show nRo σ' = nRo σ + 1 from e15]
    intro i i0 i1
    rw [e20]
    by_cases q : i = nRo σ
    · rw [if_pos q]; omega
    · rw [if_neg q]; exact w8 i i0 (by omega)
theorem wp_owner {σ : zH} {a : Int} (w : WP σ) (lt : nO σ < 6) : WP (zset (zset σ 9 (nO σ) a) 8 4 (nO σ + 1)) := by
  have so : ∀ k, k ≠ 9 → k ≠ 8 → zset (zset σ 9 (nO σ) a) 8 4 (nO σ + 1) k = σ k := fun k h1 h3 => by rw [zset_n h3, zset_n h1]
  have s8 : ∀ j, j ≠ 4 → zset (zset σ 9 (nO σ) a) 8 4 (nO σ + 1) 8 j = σ 8 j := fun j hj => by rw [zset_j hj, zset_o (by decide)]
  have e4 : zset (zset σ 9 (nO σ) a) 8 4 (nO σ + 1) 8 4 = nO σ + 1 := zset_e
  generalize zset (zset σ 9 (nO σ) a) 8 4 (nO σ + 1) = σ' at *
  obtain ⟨w1, w2, w3, w4, w5, w6, w7, w8⟩ := WP_v.1 w
  refine WP.mk2 (k := 4) w (so 0 (by decide) (by decide)) s8 e4 ⟨fun _ => lt, fun z => absurd z (by decide), fun z => absurd z (by decide), fun z => absurd z (by decide), fun z => absurd z (by decide), fun z => absurd z (by decide)⟩ (fun z => absurd z (by decide)) (fun z => absurd z (by decide)) ?_ ?_ ?_ ?_ ?_ ?_
  · rw [show nO σ' = nO σ + 1 from e4]; exact (w3.le (by omega)).fr (fun k hk => so k (by omega) (by omega))
  · rw [show nHo σ' = nHo σ from s8 10 (by decide)]; exact w4.fr (fun k hk => so k (by omega) (by omega))
  · rw [show nS σ' = nS σ from s8 7 (by decide)]; exact w5.fr (fun k hk => so k (by omega) (by omega))
  · rw [show nHo σ' = nHo σ from s8 10 (by decide)]; exact w6.fr (fun k hk => so k (by omega) (by omega))
  · rw [show nT σ' = nT σ from s8 13 (by decide)]; exact w7.fr (fun k hk => so k (by omega) (by omega))
  · rw [show nRo σ' = nRo σ from s8 15 (by decide)]; exact w8.fr (so 20 (by decide) (by decide))
