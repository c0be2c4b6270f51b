/-! a slope that is cleared; behind its field all is in order -/
def Z0 (σ : zH) : Prop := (σ 0 0 = 0 ∧ σ 0 1 = 0) ∧ (∀ j, 0 ≤ j → j < 26 → σ 8 j = 0) ∧ ∀ c, 0 ≤ c → c < 60 → σ 1 c = 0 ∧ σ 4 c = 0 ∧ σ 5 c = 0 ∧ σ 6 c = -1 ∧ σ 7 c = -1
theorem fmx_b {w h : Int} (hw : 2 ≤ w ∧ w ≤ 10) (hh : 2 ≤ h ∧ h ≤ fmx w) : h ≤ 10 ∧ w * h ≤ 60 := by
  have d1 : Int.tdiv 60 w = 60 / w := Int.tdiv_eq_ediv_of_nonneg (by decide)
  have dm := Int.mul_ediv_add_emod 60 w
  have mm : 0 ≤ 60 % w := Int.emod_nonneg _ (by omega)
  unfold fmx at hh
  rw [d1] at hh
  have h10 : h ≤ 10 ∧ h ≤ 60 / w := by
    by_cases c : 60 / w < 10
    · rw [if_pos c] at hh; omega
    · rw [if_neg c] at hh; omega
  have : w * h ≤ w * (60 / w) := Int.mul_le_mul_of_nonneg_left h10.2 (by omega)
  exact ⟨h10.1, by omega⟩
theorem wp_field {A : List zTk} {σ : zH} {s : zRd} {v : Int} (z : Z0 σ) (hz : (sField A σ s).2.2.1 = 0) : WP (zset (sField A σ s).1 8 0 v) ∧ 2 ≤ (sField A σ s).1 0 0 := by
  have key : ∃ a b, (sField A σ s).1 = zset (zset σ 0 0 a) 0 1 b ∧ (2 ≤ a ∧ a ≤ 10) ∧ 2 ≤ b ∧ b ≤ fmx a := by
    unfold sField at hz ⊢
    by_cases c1 : (nbS A 2 10 s).1 < 2
    · rw [if_pos c1] at hz
      have := nb_r hz
      omega
    rw [if_neg c1] at hz ⊢
    by_cases c2 : (nbS A 2 (fmx (nbS A 2 10 s).1) (nbS A 2 10 s).2).1 < 2
    · rw [if_pos c2] at hz
      have := nb_r hz
      omega
    rw [if_neg c2] at hz ⊢
    have r2 := nb_r hz
    have r1 := nb_r (nb_0 hz)
    exact ⟨_, _, rfl, r1, r2⟩
  obtain ⟨a, b, e, ha, hb⟩ := key
  have fb := fmx_b ha hb
  rw [e]
  refine ⟨WP.sk ?_ (by decide), by rw [zset_j (by decide), zset_e]; exact ha.1⟩
  have so : ∀ k, k ≠ 0 → zset (zset σ 0 0 a) 0 1 b k = σ k := fun k hk => by rw [zset_n hk, zset_n hk]
  have s8 : ∀ j, 0 ≤ j → j < 26 → zset (zset σ 0 0 a) 0 1 b 8 j = 0 := fun j j0 j1 => by rw [so 8 (by decide)]; exact z.2.1 j j0 j1
  have e00 : zset (zset σ 0 0 a) 0 1 b 0 0 = a := by rw [zset_j (by decide), zset_e]
  have e01 : zset (zset σ 0 0 a) 0 1 b 0 1 = b := zset_e
  generalize zset (zset σ 0 0 a) 0 1 b = σ' at *
  have n4 : nO σ' = 0 := s8 4 (by decide) (by decide)
  have n7 : nS σ' = 0 := s8 7 (by decide) (by decide)
  have n10 : nHo σ' = 0 := s8 10 (by decide) (by decide)
  have n13 : nT σ' = 0 := s8 13 (by decide) (by decide)
  have n15 : nRo σ' = 0 := s8 15 (by decide) (by decide)
  have n16 : nLa σ' = 0 := s8 16 (by decide) (by decide)
  have nc : nC σ' = a * b := by unfold nC; rw [e00, e01]
  refine WP_v.2 ⟨?_, ?_, ?_, ?_, ?_, ?_, ?_, ?_⟩
  · unfold WB
    rw [n4, n7, n10, n13, n15, n16, nc, e00, e01]
    omega
  · rw [s8 1 (by decide) (by decide), s8 12 (by decide) (by decide), e01]; omega
  · rw [n4]
    intro c c0 c1
    have u := z.2.2 c c0 c1
    rw [so 1 (by decide), so 4 (by decide), so 5 (by decide), so 6 (by decide), u.1, u.2.1, u.2.2.1, u.2.2.2.1]
    decide
  · rw [n10]
    intro c c0 c1
    have u := z.2.2 c c0 c1
    rw [so 7 (by decide), u.2.2.2.2]
    exact ⟨by decide, by decide, fun q => absurd rfl q, fun q => absurd rfl q⟩
  · rw [n7]; intro i i0 i1; omega
  · rw [n10]; intro i i0 i1; omega
  · rw [n13]; intro i i0 i1; omega
  · rw [n15]; intro i i0 i1; omega
