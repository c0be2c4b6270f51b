/-! what a statement keeps in order -/
theorem bod_0 {A : List zTk} {σ : zH} {k : Int} {s : zRd} (hk : k ≠ 0) : (bodS A σ k s).1 0 = σ 0 := by
  unfold bodS
  split
  · rename_i z; exact absurd z hk
  split
  · exact row_o _ (by decide)
  split
  · unfold sRough
    dsimp only
    split
    · rfl
    · rw [zset_n (by decide)]
  split
  · dsimp only
    rw [zset_n (by decide)]
  split
  · unfold sLand
    dsimp only
    split
    · rfl
    · exact lan_o _ (by decide)
  split
  · rw [stone_e]
    dsimp only
    rw [zset_n (by decide), zset_n (by decide), zset_n (by decide), zset_n (by decide)]
  split
  · rw [house_e]
    dsimp only
    split
    · rw [zset_n (by decide), zset_n (by decide), zset_n (by decide)]
    · rw [zset_n (by decide), zset_n (by decide), zset_n (by decide), zset_n (by decide)]
  split
  · unfold sWall
    dsimp only
    split
    · rfl
    · rw [zset_n (by decide)]
  split
  · unfold sThaw
    dsimp only
    rw [zset_n (by decide), zset_n (by decide)]
  · dsimp only
    rw [zset_n (by decide)]
theorem wp_X {A : List zTk} {σ : zH} {s : zRd} (w : WP σ) (n16 : ¬ (owS A s = 16 ∧ σ 8 16 < 8)) (hz : (bodX A σ s).2.2.1 = 0) : WP (bodX A σ s).1 ∧ (bodX A σ s).1 0 = σ 0 ∧ ∃ k, (0 ≤ k ∧ k < 26 ∧ k ≠ 16) ∧ ∀ j, (bodX A σ s).1 8 j = if j = k then σ 8 j + 1 else σ 8 j := by
  have g := @kn_g A σ s
  have b8 := bod_8 (A := A) (σ := σ) (k := (kndS A σ 0 s).1) (s := (kndS A σ 0 s).2)
  unfold bodX at hz ⊢
  by_cases z : (kndS A σ 0 s).1 = -1
  · rw [if_pos z] at hz
    exact absurd hz (g.1 z)
  rw [if_neg z] at hz ⊢
  obtain ⟨g1, g2, g3, g4⟩ := g.2 z
  rw [g1] at hz b8 ⊢
  dsimp only at hz b8 ⊢
  clear g z g1
  have mk := most_k g3
  generalize owS A s = k at *
  have k16 : k ≠ 16 := fun y => n16 ⟨y, by rw [y] at g4; exact g4⟩
  refine ⟨?_, by rw [zset_n (by decide)]; exact bod_0 g2, k, ⟨by omega, by omega, k16⟩, fun j => ?_⟩
  · rcases mk with y | y | y | y | y | y | y | y | y | y | y
    · exact absurd y g2
    · rw [y] at hz g4 ⊢
      exact wp_row w g4 hz
    · rw [y] at hz ⊢
      exact wp_rough w hz
    · rw [y] at hz g4 ⊢
      exact wp_owner w g4
    · rw [y] at hz ⊢
      exact wp_land w hz
    · rw [y] at hz g4 ⊢
      exact wp_stone w g4 hz
    · rw [y] at hz g4 ⊢
      exact wp_house w g4 hz
    · rw [y] at hz g4 ⊢
      exact wp_wall w g4 hz
    · rw [y] at hz g4 ⊢
      exact wp_thaw w g4 hz
    · rw [y] at hz g4 ⊢
      exact wp_rope w g4 hz
    · exact absurd y k16
  · rw [zset_g]
    by_cases y : j = k
    · rw [if_pos y, if_pos y, y]
    · rw [if_neg y, if_neg y, b8]
/-! the laws read so far: L, with class's and reference's codes and marks -/
def Sg1 (f : zL4 → List Int × List Int) (L : List zL4) (K : zKb) : Prop := K.2.length = L.length ∧ ∀ (j : Nat) (l : zL4), L[j]? = some l → ∃ P : Nat, K.2[j]? = some (P, P + (f l).1.length, P + (f l).1.length + (f l).2.length) ∧ (∀ (i : Nat) (x : Int), ((f l).1 ++ (f l).2)[i]? = some x → K.1[P + i]? = some x) ∧ P + (f l).1.length + (f l).2.length ≤ K.1.length
theorem Sg1.x {f : zL4 → List Int × List Int} {L : List zL4} {K : zKb} {l : zL4} {X X' : List Int} (k : Sg1 f L K) (e : f l = (X, X')) : Sg1 f (L ++ [l]) (K.1 ++ X ++ X', K.2 ++ [(K.1.length, (K.1 ++ X).length, (K.1 ++ X ++ X').length)]) := by
  have e0 : ∀ t : zMk, (K.2 ++ [t]).length = (L ++ [l]).length := fun t => by rw [List.length_append, List.length_append, k.1]; rfl
  have el1 : (K.1 ++ X).length = K.1.length + X.length := List.length_append
  have el2 : (K.1 ++ X ++ X').length = K.1.length + X.length + X'.length := by rw [List.length_append, el1]
  refine ⟨e0 _, fun j l' hj => ?_⟩
  dsimp only
  by_cases z : j = L.length
  · rw [z, List.getElem?_append_right (Nat.le_refl _), Nat.sub_self] at hj
    have el : l = l' := Option.some.inj hj
    rw [← el, e]
    dsimp only
    refine ⟨K.1.length, ?_, fun i x hx => ?_, by rw [List.length_append, List.length_append]; exact Nat.le_refl _⟩
    · rw [z, ← k.1, List.getElem?_append_right (Nat.le_refl _), Nat.sub_self, el2, el1]
      rfl
    · rw [List.append_assoc, List.getElem?_append_right (Nat.le_add_right _ _), Nat.add_sub_cancel_left]
      exact hx
  · have hlt := (List.getElem?_eq_some_iff.1 hj).1
    rw [List.length_append] at hlt
    have hlt' : j < L.length + 1 := hlt
    rw [List.getElem?_append_left (show j < L.length by omega)] at hj
    obtain ⟨P, a1, a2, a3⟩ := k.2 j l' hj
    exact ⟨P, get_x a1, fun i x hx => get_x (get_x (a2 i x hx)), by rw [List.length_append, List.length_append]; omega⟩
def fXs (l : zL4) : List Int × List Int := (l.1, l.2.1)
def fYs (l : zL4) : List Int × List Int := (l.2.2.1, l.2.2.2)
def Sg (A : List zTk) (L : List zL4) (x : zS4) : Prop := (LOk L ∧ x.1 8 16 = (L.length : Int)) ∧ (Sg1 fXs L x.2.2.1 ∧ Sg1 fYs L x.2.2.2) ∧ x.2.2.1.1.length ≤ x.2.1.1 ∧ x.2.2.2.1.length ≤ x.2.1.1
theorem Sg.l {A : List zTk} {L : List zL4} {x : zS4} (ok : AOk A) (g : Sg A L x) (hs : x.2.1.1 < A.length) (f : x.2.1.2.1 = 0) (k0 : (tkI A x.2.1.1).1 ≠ 0) (k5 : (tkI A x.2.1.1).1 ≠ 5) (hd : effK A (lawP A (advS x.2.1)) = 0) : ∃ l, Sg A (L ++ [l]) (zset x.1 8 16 (x.1 8 16 + 1), lawP A (advS x.2.1), lawU A (testA A 8) (advS x.2.1) x.2.2.1, lawU A (testB A 8) (advS x.2.1) x.2.2.2) := by
  obtain ⟨σ, s, K1, K2⟩ := x
  obtain ⟨⟨g1, g2⟩, ⟨g3, g4⟩, g5, g6⟩ := g
  dsimp only at g2 g3 g4 g5 g6 hs f k0 k5 hd ⊢
  have b0 := bd_adv ok hs f k0 k5
  have ea : (advS s).1 = s.1 + 1 := by rw [adv_e f]
  have e1 := (lw_s ok (advS s) K1.1).1
  have e2 := (lw_s ok (advS s) K2.1).2
  obtain ⟨b1, b2, b3⟩ := gd_lw ok (gd_sq (rl_tst ok 8).1 (gd_tst ok 8)) (s := advS s) (C := K1.1) b0.1.1 b0.1.2
  rw [e1] at b3
  have k2 := b3.l hd
  have k1 := b2.l k2
  have p2 := b2.2.2 k1 k2
  obtain ⟨X, Y, x1, x2, x3, x4, v⟩ := (rl_sum ok 8).2 (advS s) K1.1 K2.1 b0.1.1 b0.1.2 (by omega) (by omega) k1
  have sq : (sumA A 8 (advS s, K2.1)).1 = (sumA A 8 (advS s, K1.1)).1 := (rl_sum ok 8).1 (advS s) K1.1 K2.1
  have hz : effK A (testA A 8 (ndS A 2 17 (sumA A 8 (advS s, K1.1)).1, K1.1 ++ X)).1 = 0 := by
    rw [← x1]
    show effK A (lwS A (testA A 8) (advS s, K1.1)).1 = 0
    rw [e1]; exact hd
  obtain ⟨X', Y', y1, y2, y3, y4, v'⟩ := (rl_tst ok 8).2 (ndS A 2 17 (sumA A 8 (advS s, K1.1)).1) (K1.1 ++ X) (K2.1 ++ Y) b2.1.1 b2.1.2 (by rw [List.length_append]; omega) (by rw [List.length_append]; omega) hz
  have z1 : (lwS A (testA A 8) (advS s, K1.1)).2 = K1.1 ++ X ++ X' := by unfold lwS; rw [x1]; exact y1
  have z2 : (lwS A (testB A 8) (advS s, K2.1)).2 = K2.1 ++ Y ++ Y' := by unfold lwS; rw [sq, x2]; exact y2
  have zz : (testA A 8 (ndS A 2 17 (sumA A 8 (advS s, K1.1)).1, K1.1 ++ X)).1 = lawP A (advS s) := by rw [← x1]; exact e1
  rw [zz] at y3 y4
  refine ⟨(X, X', Y, Y'), ⟨fun l hl => ?_, ?_⟩, ⟨?_, ?_⟩, ?_, ?_⟩
  · rcases List.mem_append.1 hl with m | m
    · exact g1 l m
    · rw [List.mem_singleton.1 m]
      exact ⟨v.w (by decide), v'.w (by decide)⟩
  · show zset σ 8 16 (σ 8 16 + 1) 8 16 = _
    rw [zset_e, g2, List.length_append]
    rfl
  · unfold lawU
    rw [x1, z1]
    exact g3.x rfl
  · unfold lawU
    rw [x2, z2]
    exact g4.x rfl
  · show (lwS A (testA A 8) (advS s, K1.1)).2.length ≤ _
    rw [z1, List.length_append, List.length_append]
    dsimp only
    omega
  · show (lwS A (testB A 8) (advS s, K2.1)).2.length ≤ _
    rw [z2, List.length_append, List.length_append]
    dsimp only
    omega
