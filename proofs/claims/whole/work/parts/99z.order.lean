theorem WP.sk {σ : zH} (w : WP σ) {k v : Int} (hk : k = 0 ∨ k = 2 ∨ k = 5) : WP (zset σ 8 k v) := by
  have so : ∀ j, j ≠ 8 → zset σ 8 k v j = σ j := fun j hj => by rw [zset_n hj]
  have s8 : ∀ j, j ≠ k → zset σ 8 k v 8 j = σ 8 j := fun j hj => zset_j hj
  generalize zset σ 8 k v = σ' at *
  obtain ⟨w1, w2, w3, w4, w5, w6, w7, w8⟩ := WP_v.1 w
  have n4 : nO σ' = nO σ := s8 4 (by omega)
  have n7 : nS σ' = nS σ := s8 7 (by omega)
  have n10 : nHo σ' = nHo σ := s8 10 (by omega)
  have n13 : nT σ' = nT σ := s8 13 (by omega)
  have n15 : nRo σ' = nRo σ := s8 15 (by omega)
  have n16 : nLa σ' = nLa σ := s8 16 (by omega)
  have nc : nC σ' = nC σ := by unfold nC; rw [so 0 (by decide)]
  refine WP_v.2 ⟨?_, ?_, ?_, ?_, ?_, ?_, ?_, ?_⟩
  · unfold WB
    rw [n4, n7, n10, n13, n15, n16, nc, so 0 (by decide)]
    exact w1
  · rw [s8 1 (by omega), s8 12 (by omega), so 0 (by decide)]; exact w2
  · rw [n4]; exact w3.fr (fun k hk => so k (by omega))
  · rw [n10]; exact w4.fr (fun k hk => so k (by omega))
  · rw [n7, nc]; exact w5.fr (fun k hk => so k (by omega))
  · rw [n10, nc]; exact w6.fr (fun k hk => so k (by omega))
  · rw [n13]; exact w7.fr (fun k hk => so k (by omega))
  · rw [n15]; exact w8.fr (so _ (by decide))
theorem row_o {A : List zTk} : ∀ (n : Nat) {i : Int} {σ : zH} {s : zRd} {k : Int}, k ≠ 1 → (rowF A n i σ s).1 k = σ k
  | 0, _, _, _, _, _ => rfl
  | n + 1, i, σ, s, k, hk => by rw [rowF, row_o n hk, zset_n hk]
theorem row_0 {A : List zTk} : ∀ (n : Nat) {i : Int} {σ : zH} {s : zRd}, (rowF A n i σ s).2.2.1 = 0 → s.2.1 = 0
  | 0, _, _, _, h => h
  | n + 1, i, σ, s, h => by rw [rowF] at h; exact nb_0 (row_0 n h)
theorem row_1 {A : List zTk} : ∀ (n : Nat) {i : Int} {σ : zH} {s : zRd}, (rowF A n i σ s).2.2.1 = 0 → (∀ c, 0 ≤ c → c < 60 → 0 ≤ σ 1 c ∧ σ 1 c ≤ 999) → ∀ c, 0 ≤ c → c < 60 → 0 ≤ (rowF A n i σ s).1 1 c ∧ (rowF A n i σ s).1 1 c ≤ 999
  | 0, _, _, _, _, v => v
  | n + 1, i, σ, s, h, v => by
    rw [rowF] at h ⊢
    have r := nb_r (row_0 n h)
    refine row_1 n h (fun c c0 c1 => ?_)
    rw [zset_g]
    by_cases q : c = i
    · rw [if_pos q]; exact r
    · rw [if_neg q]; exact v c c0 c1
theorem wp_row {A : List zTk} {σ : zH} {s : zRd} (w : WP σ) (lt : σ 8 1 < σ 0 1) (hz : (sRow A σ s).2.2.1 = 0) : WP (zset (sRow A σ s).1 8 1 (σ 8 1 + 1)) := by
  unfold sRow at hz ⊢
  obtain ⟨w1, w2, w3, w4, w5, w6, w7, w8⟩ := WP_v.1 w
  have r1 := row_1 _ hz (fun c c0 c1 => ⟨(w3 c c0 c1).1, (w3 c c0 c1).2.1⟩)
  have ro : ∀ k, k ≠ 1 → (rowF A (σ 0 0).toNat (σ 8 1 * σ 0 0) σ s).1 k = σ k := fun k hk => row_o _ hk
  generalize (rowF A (σ 0 0).toNat (σ 8 1 * σ 0 0) σ s).1 = ρ at *
  have so : ∀ k, k ≠ 1 → k ≠ 8 → zset ρ 8 1 (σ 8 1 + 1) k = σ k := fun k h1 h2 => by rw [zset_n h2, ro k h1]
  have s8 : ∀ j, j ≠ 1 → zset ρ 8 1 (σ 8 1 + 1) 8 j = σ 8 j := fun j hj => by rw [zset_j hj, ro 8 (by decide)]
  have e1 : ∀ i, zset ρ 8 1 (σ 8 1 + 1) 1 i = ρ 1 i := fun i => zset_o (by decide)
  have ek : zset ρ 8 1 (σ 8 1 + 1) 8 1 = σ 8 1 + 1 := zset_e
  generalize zset ρ 8 1 (σ 8 1 + 1) = σ' at *
  refine WP.mk2 (k := 1) w (so 0 (by decide) (by decide)) s8 ek ⟨fun z => absurd z (by decide), fun z => absurd z (by decide), fun z => absurd z (by decide), fun z => absurd z (by decide), fun z => absurd z (by decide), fun z => absurd z (by decide)⟩ (fun _ => lt) (fun z => absurd z (by decide)) ?_ ?_ ?_ ?_ ?_ ?_
  · rw [show nO σ' = nO σ from s8 4 (by decide)]
    intro c c0 c1
    have u := w3 c c0 c1
    have v := r1 c c0 c1
    rw [e1, so 4 (by decide) (by decide), so 5 (by decide) (by decide), so 6 (by decide) (by decide)]
    exact ⟨v.1, v.2, u.2.2⟩
  · rw [show nHo σ' = nHo σ from s8 10 (by decide)]; exact w4.fr (fun k hk => so k (by omega) (by omega))
  · rw [show nS σ' = nS σ from s8 7 (by decide)]; exact w5.fr (fun k hk => so k (by omega) (by omega))
  · rw [show nHo σ' = nHo σ from s8 10 (by decide)]; exact w6.fr (fun k hk => so k (by omega) (by omega))
  · rw [show nT σ' = nT σ from s8 13 (by decide)]; exact w7.fr (fun k hk => so k (by omega) (by omega))
  · rw [show nRo σ' = nRo σ from s8 15 (by decide)]; exact w8.fr (so 20 (by decide) (by decide))
theorem cl_0 {A : List zTk} {σ : zH} {lx ly : Int} {s : zRd} (h : (celS A σ lx ly s).2.2.1 = 0) : s.2.1 = 0 := nb_0 (nb_0 h)
theorem wp_land {A : List zTk} {σ : zH} {s : zRd} {v : Int} (w : WP σ) (hz : (sLand A σ s).2.2.1 = 0) : WP (zset (sLand A σ s).1 8 5 v) := by
  refine WP.sk ?_ (by decide)
  unfold sLand at hz ⊢
  have f0 : (celS A σ 0 0 (ndS A 2 3 (onrS A σ s).2)).2.2.1 = 0 → (onrS A σ s).2.2.1 = 0 := fun z => nd_0 (by decide) (cl_0 z)
  generalize celS A σ 0 0 (ndS A 2 3 (onrS A σ s).2) = F at *
  have hz' : (if F.1 = -1 then (σ, ndS A 2 6 F.2) else (lanF (σ 0 0) (onrS A σ s).1 (F.1 % σ 0 0) (celS A σ (F.1 % σ 0 0) (F.1 / σ 0 0) (ndS A 2 6 F.2)).1 ((celS A σ (F.1 % σ 0 0) (F.1 / σ 0 0) (ndS A 2 6 F.2)).1 + 1 - F.1).toNat F.1 σ, (celS A σ (F.1 % σ 0 0) (F.1 / σ 0 0) (ndS A 2 6 F.2)).2)).2.2.1 = 0 := hz
  show WP (if F.1 = -1 then (σ, ndS A 2 6 F.2) else (lanF (σ 0 0) (onrS A σ s).1 (F.1 % σ 0 0) (celS A σ (F.1 % σ 0 0) (F.1 / σ 0 0) (ndS A 2 6 F.2)).1 ((celS A σ (F.1 % σ 0 0) (F.1 / σ 0 0) (ndS A 2 6 F.2)).1 + 1 - F.1).toNat F.1 σ, (celS A σ (F.1 % σ 0 0) (F.1 / σ 0 0) (ndS A 2 6 F.2)).2)).1
  by_cases q : F.1 = -1
  · rw [if_pos q]; exact w
  rw [if_neg q] at hz' ⊢
  have z1 := nd_0 (by decide) (cl_0 hz')
  have z0 := f0 z1
  have o0 : 0 ≤ (onrS A σ s).1 ∧ (onrS A σ s).1 < nO σ := by
    unfold onrS at z0 ⊢
    by_cases e : fndA σ 0 (nmS A s).1 = -1
    · rw [if_pos e] at z0
      exact absurd z0 (flS_z (by decide))
    · show 0 ≤ fndA σ 0 (nmS A s).1 ∧ fndA σ 0 (nmS A s).1 < nO σ
      have n0 := w.1.2.1
      rcases zfs_spec (fun k => decide (σ (9 + 0) k = (nmS A s).1)) (cntA σ 0).toNat 0 with z | z
      · exact absurd z.1 e
      · have c0 : cntA σ 0 = nO σ := by unfold cntA; rw [if_pos rfl]
        rw [c0] at z
        have e1 : fndA σ 0 (nmS A s).1 = zfs (fun k => decide (σ (9 + 0) k = (nmS A s).1)) (nO σ).toNat 0 := by unfold fndA; rw [c0]
        rw [e1]
        omega
  generalize (onrS A σ s).1 = o at *
  generalize (celS A σ (F.1 % σ 0 0) (F.1 / σ 0 0) (ndS A 2 6 F.2)).1 = t at *
  dsimp only
  have so : ∀ k, k ≠ 6 → lanF (σ 0 0) o (F.1 % σ 0 0) t (t + 1 - F.1).toNat F.1 σ k = σ k := fun k hk => lan_o _ hk
  have s6 : ∀ c, lanF (σ 0 0) o (F.1 % σ 0 0) t (t + 1 - F.1).toNat F.1 σ 6 c = o ∨ lanF (σ 0 0) o (F.1 % σ 0 0) t (t + 1 - F.1).toNat F.1 σ 6 c = σ 6 c := fun c => by
    rw [lan_6]
    split
    · exact Or.inl rfl
    · exact Or.inr rfl
  generalize lanF (σ 0 0) o (F.1 % σ 0 0) t (t + 1 - F.1).toNat F.1 σ = σ' at *
  obtain ⟨w1, w2, w3, w4, w5, w6, w7, w8⟩ := WP_v.1 w
  have e8 := so 8 (by decide)
  have e0 := so 0 (by decide)
  refine WP_v.2 ⟨?_, ?_, ?_, ?_, ?_, ?_, ?_, ?_⟩
  · unfold WB nC nO nS nHo nT nRo nLa at w1 ⊢
    rw [e8, e0]; exact w1
  · rw [e8, e0]; exact w2
  · intro c c0 c1
    have u := w3 c c0 c1
    rw [so 1 (by decide), so 4 (by decide), so 5 (by decide), show nO σ' = nO σ by unfold nO; rw [e8]]
    rcases s6 c with z | z
    · rw [z]; omega
    · rw [z]; exact u
  · rw [show nHo σ' = nHo σ by unfold nHo; rw [e8]]; exact w4.fr (fun k hk => so k (by omega))
  · rw [show nS σ' = nS σ by unfold nS; rw [e8], show nC σ' = nC σ by unfold nC; rw [e0]]; exact w5.fr (fun k hk => so k (by omega))
  · rw [show nHo σ' = nHo σ by unfold nHo; rw [e8], show nC σ' = nC σ by unfold nC; rw [e0]]; exact w6.fr (fun k hk => so k (by omega))
  · rw [show nT σ' = nT σ by unfold nT; rw [e8]]; exact w7.fr (fun k hk => so k (by omega))
  · rw [show nRo σ' = nRo σ by unfold nRo; rw [e8]]; exact w8.fr (so _ (by decide))
