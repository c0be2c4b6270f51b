/-! what is in order stays so -/
def vA (m : Int) (σ : zH) : Prop := ∀ c, 0 ≤ c → c < 60 → 0 ≤ σ 1 c ∧ σ 1 c ≤ 999 ∧ 0 ≤ σ 4 c ∧ σ 4 c ≤ 99 ∧ 0 ≤ σ 5 c ∧ σ 5 c ≤ 9999 ∧ -1 ≤ σ 6 c ∧ σ 6 c < m
def vB (m : Int) (σ : zH) : Prop := ∀ c, 0 ≤ c → c < 60 → -1 ≤ σ 7 c ∧ σ 7 c < m ∧ (σ 7 c ≠ -1 → σ 17 (σ 7 c) = c) ∧ (σ 7 c ≠ -1 → σ 5 c = 0)
def vS (m N : Int) (σ : zH) : Prop := ∀ i, 0 ≤ i → i < m → 1 ≤ σ 13 i ∧ σ 13 i ≤ 999 ∧ 0 ≤ σ 14 i ∧ σ 14 i ≤ 9999 ∧ 0 ≤ σ 15 i ∧ σ 15 i < N ∧ ∀ j, 0 ≤ j → j < m → σ 15 j = σ 15 i → j = i
def vH (m N : Int) (σ : zH) : Prop := ∀ i, 0 ≤ i → i < m → 1 ≤ σ 16 i ∧ σ 16 i ≤ 999 ∧ 0 ≤ σ 17 i ∧ σ 17 i < N ∧ σ 7 (σ 17 i) = i
def vT (m : Int) (σ : zH) : Prop := ∀ i, 0 ≤ i → i < m → 0 ≤ σ 18 i ∧ σ 18 i ≤ 9999 ∧ 1 ≤ σ 19 i ∧ σ 19 i ≤ 99
def vR (m : Int) (σ : zH) : Prop := ∀ i, 0 ≤ i → i < m → 1 ≤ σ 20 i ∧ σ 20 i ≤ 9999
theorem WP_v {σ : zH} : WP σ ↔ WB σ ∧ (0 ≤ σ 8 1 ∧ σ 8 1 ≤ σ 0 1 ∧ 0 ≤ σ 8 12 ∧ σ 8 12 ≤ 16) ∧ vA (nO σ) σ ∧ vB (nHo σ) σ ∧ vS (nS σ) (nC σ) σ ∧ vH (nHo σ) (nC σ) σ ∧ vT (nT σ) σ ∧ vR (nRo σ) σ := Iff.rfl
theorem vA.fr {m : Int} {σ σ' : zH} (v : vA m σ) (h : ∀ k, k = 1 ∨ k = 4 ∨ k = 5 ∨ k = 6 → σ' k = σ k) : vA m σ' := by
  unfold vA at v ⊢; rw [h 1 (by decide), h 4 (by decide), h 5 (by decide), h 6 (by decide)]; exact v
theorem vB.fr {m : Int} {σ σ' : zH} (v : vB m σ) (h : ∀ k, k = 5 ∨ k = 7 ∨ k = 17 → σ' k = σ k) : vB m σ' := by
  unfold vB at v ⊢; rw [h 5 (by decide), h 7 (by decide), h 17 (by decide)]; exact v
theorem vS.fr {m N : Int} {σ σ' : zH} (v : vS m N σ) (h : ∀ k, k = 13 ∨ k = 14 ∨ k = 15 → σ' k = σ k) : vS m N σ' := by
  unfold vS at v ⊢; rw [h 13 (by decide), h 14 (by decide), h 15 (by decide)]; exact v
theorem vH.fr {m N : Int} {σ σ' : zH} (v : vH m N σ) (h : ∀ k, k = 7 ∨ k = 16 ∨ k = 17 → σ' k = σ k) : vH m N σ' := by
  unfold vH at v ⊢; rw [h 7 (by decide), h 16 (by decide), h 17 (by decide)]; exact v
theorem vT.fr {m : Int} {σ σ' : zH} (v : vT m σ) (h : ∀ k, k = 18 ∨ k = 19 → σ' k = σ k) : vT m σ' := by
  unfold vT at v ⊢; rw [h 18 (by decide), h 19 (by decide)]; exact v
theorem vR.fr {m : Int} {σ σ' : zH} (v : vR m σ) (h : σ' 20 = σ 20) : vR m σ' := by
  unfold vR at v ⊢; rw [h]; exact v
theorem nb_r {A : List zTk} {lo hi : Int} {s : zRd} (h : (nbS A lo hi s).2.2.1 = 0) : lo ≤ (nbS A lo hi s).1 ∧ (nbS A lo hi s).1 ≤ hi := by
  have k := nb_ok h
  rw [k.2.2.2.2]
  exact ⟨k.2.2.1, k.2.2.2.1⟩
/-- a count goes up -/
theorem WB.k {σ σ' : zH} (w : WB σ) (h0 : σ' 0 = σ 0) {k : Int} (h8 : ∀ j, j ≠ k → σ' 8 j = σ 8 j) (hk : σ' 8 k = σ 8 k + 1) (lt : (k = 4 → nO σ < 6) ∧ (k = 7 → nS σ < 10) ∧ (k = 10 → nHo σ < 8) ∧ (k = 13 → nT σ < 6) ∧ (k = 15 → nRo σ < 9) ∧ (k = 16 → nLa σ < 8)) : WB σ' := by
  have one : ∀ j m, (k = j → σ 8 j < m) → 0 ≤ σ 8 j → σ 8 j ≤ m → 0 ≤ σ' 8 j ∧ σ' 8 j ≤ m := by
    intro j m l a b
    by_cases e : j = k
    · have := l e.symm
      rw [e] at this a b ⊢
      rw [hk]; omega
    · rw [h8 j e]; exact ⟨a, b⟩
  obtain ⟨w1, a1, a2, b1, b2, c1, c2, d1, d2, e1, e2, f1, f2⟩ := w
  obtain ⟨l1, l2, l3, l4, l5, l6⟩ := lt
  have x1 := one 4 6 l1 a1 a2
  have x2 := one 7 10 l2 b1 b2
  have x3 := one 10 8 l3 c1 c2
  have x4 := one 13 6 l4 d1 d2
  have x5 := one 15 9 l5 e1 e2
  have x6 := one 16 8 l6 f1 f2
  refine ⟨?_, x1.1, x1.2, x2.1, x2.2, x3.1, x3.2, x4.1, x4.2, x5.1, x5.2, x6.1, x6.2⟩
  unfold nC at w1 ⊢
  rw [h0]
  exact w1
theorem wp_rough {A : List zTk} {σ : zH} {s : zRd} {v : Int} (w : WP σ) (hz : (sRough A σ s).2.2.1 = 0) : WP (zset (sRough A σ s).1 8 2 v) := by
  have hz' : (celS A σ 0 0 (ndS A 2 3 (nbS A 1 99 s).2)).2.2.1 = 0 := hz
  obtain ⟨y0, x, y, x1, x2, y1, y2, e, p1, p2, p3⟩ := cel_ok (A := A) (s := ndS A 2 3 (nbS A 1 99 s).2) w.1 ⟨by decide, by decide⟩ hz'
  have n0 := nd_0 (by decide) y0
  have nr := nb_r n0
  have pe : (celS A σ 0 0 (ndS A 2 3 (nbS A 1 99 s).2)).1 = y * σ 0 0 + x := by rw [e]
  have es : (sRough A σ s).1 = zset σ 4 (y * σ 0 0 + x) (nbS A 1 99 s).1 := by
    unfold sRough
    show (if _ = -1 then σ else _) = _
    rw [if_neg (by rw [pe]; omega), pe]
  rw [es]
  generalize (nbS A 1 99 s).1 = u at *
  generalize y * σ 0 0 + x = c0 at *
  have so : ∀ k, k ≠ 4 → k ≠ 8 → zset (zset σ 4 c0 u) 8 2 v k = σ k := fun k h1 h2 => by rw [zset_n h2, zset_n h1]
  have s8 : ∀ j, j ≠ 2 → zset (zset σ 4 c0 u) 8 2 v 8 j = σ 8 j := fun j hj => by rw [zset_j hj, zset_o (by decide)]
  obtain ⟨w1, w2, w3, w4, w5, w6, w7, w8⟩ := WP_v.1 w
  have n4 : nO (zset (zset σ 4 c0 u) 8 2 v) = nO σ := s8 4 (by decide)
  have n7 : nS (zset (zset σ 4 c0 u) 8 2 v) = nS σ := s8 7 (by decide)
  have n10 : nHo (zset (zset σ 4 c0 u) 8 2 v) = nHo σ := s8 10 (by decide)
  have n13 : nT (zset (zset σ 4 c0 u) 8 2 v) = nT σ := s8 13 (by decide)
  have n15 : nRo (zset (zset σ 4 c0 u) 8 2 v) = nRo σ := s8 15 (by decide)
  have n16 : nLa (zset (zset σ 4 c0 u) 8 2 v) = nLa σ := s8 16 (by decide)
  have nc : nC (zset (zset σ 4 c0 u) 8 2 v) = nC σ := by unfold nC; rw [so 0 (by decide) (by decide)]
  refine WP_v.2 ⟨?_, ?_, ?_, ?_, ?_, ?_, ?_, ?_⟩
  · unfold WB
    rw [n4, n7, n10, n13, n15, n16, nc, so 0 (by decide) (by decide)]
    exact w1
  · rw [s8 1 (by decide), s8 12 (by decide), so 0 (by decide) (by decide)]; exact w2
  · rw [n4]
    intro c h0 h1
    have := w3 c h0 h1
    rw [so 1 (by decide) (by decide), so 5 (by decide) (by decide), so 6 (by decide) (by decide), zset_o (by decide), zset_g]
    by_cases q : c = c0
    · rw [if_pos q]; omega
    · rw [if_neg q]; exact this
  · rw [n10]; exact w4.fr (fun k hk => so k (by omega) (by omega))
  · rw [n7, nc]; exact w5.fr (fun k hk => so k (by omega) (by omega))
  · rw [n10, nc]; exact w6.fr (fun k hk => so k (by omega) (by omega))
  · rw [n13]; exact w7.fr (fun k hk => so k (by omega) (by omega))
  · rw [n15]; exact w8.fr (so _ (by decide) (by decide))
