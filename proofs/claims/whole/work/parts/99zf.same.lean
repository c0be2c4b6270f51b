/-! the class's statement and the reference's are the same -/
theorem bod_8 {A : List zTk} {σ : zH} {k : Int} {s : zRd} : (bodS A σ k s).1 8 = σ 8 := by
  unfold bodS
  split
  · unfold sField
    split
    · rfl
    · split
      · rfl
      · dsimp only
        rw [zset_n (by decide), zset_n (by decide)]
  split
  · exact row_o _ (by decide)
  split
  · unfold sRough
    dsimp only
    split
    · rfl
    · rw [zset_n (by decide)]
  split
  · dsimp only
    rw [zset_n (by decide)]
  split
  · unfold sLand
    dsimp only
    split
    · rfl
    · exact lan_o _ (by decide)
  split
  · rw [stone_e]
    dsimp only
    rw [zset_n (by decide), zset_n (by decide), zset_n (by decide), zset_n (by decide)]
  split
  · rw [house_e]
    dsimp only
    split
    · rw [zset_n (by decide), zset_n (by decide), zset_n (by decide)]
    · rw [zset_n (by decide), zset_n (by decide), zset_n (by decide), zset_n (by decide)]
  split
  · unfold sWall
    dsimp only
    split
    · rfl
    · rw [zset_n (by decide)]
  split
  · unfold sThaw
    dsimp only
    rw [zset_n (by decide), zset_n (by decide)]
  · dsimp only
    rw [zset_n (by decide)]
theorem stm_x {A : List zTk} {σ : zH} {s : zRd} (c : ∀ j, -1000 ≤ σ 8 j ∧ σ 8 j ≤ 1000) : stmS A 0 σ s = ((bodX A σ s).1, ndS A 4 59 (bodX A σ s).2) := by
  unfold stmS bodX
  by_cases z : (kndS A σ 0 s).1 = -1
  · rw [if_pos z, if_pos z]
    have n : (kndS A σ 0 s).2.2.1 ≠ 0 := by
      unfold kndS at z ⊢
      by_cases q : mostA σ (owS A s) = -1 ∨ ¬ (0 : Int) = (if owS A s = 0 then 1 else 0)
      · rw [if_pos q]; exact flS_z (k := 1) (by decide)
      · rw [if_neg q] at z ⊢
        by_cases q2 : σ 8 (owS A s) < mostA σ (owS A s)
        · rw [if_pos q2] at z
          have z' : owS A s = -1 := z
          exfalso
          refine q (Or.inl ?_)
          rw [z']
          rfl
        · rw [if_neg q2]; exact flS_z (k := 5) (by decide)
    dsimp only
    rw [d_nd (by decide) (ef_z n)]
    have e : dS A (kndS A σ 0 s).2 = (kndS A σ 0 s).2 := flS_s n
    rw [e]
  · rw [if_neg z, if_neg z]
    unfold endS
    have e := bod_8 (A := A) (σ := σ) (k := (kndS A σ 0 s).1) (s := (kndS A σ 0 s).2)
    have cc := c (kndS A σ 0 s).1
    rw [e, w32_i (x := σ 8 (kndS A σ 0 s).1 + 1) (by omega)]
