/-! without a fault a reader goes on -/
def Ix (s s' : zRd) : Prop := s'.2.1 = 0 → s.2.1 = 0 ∧ s.1 ≤ s'.1
theorem Ix.rf (s : zRd) : Ix s s := fun z => ⟨z, Nat.le_refl _⟩
theorem Ix.t {a b c : zRd} (h1 : Ix a b) (h2 : Ix b c) : Ix a c := fun z => ⟨(h1 (h2 z).1).1, Nat.le_trans (h1 (h2 z).1).2 (h2 z).2⟩
theorem ix_fl {s t : zRd} {k p : Int} (hk : k ≠ 0) : Ix s (flS k p t) := fun z => absurd z (flS_z hk)
theorem ix_adv {s : zRd} : Ix s (advS s) := by
  intro z
  by_cases c : s.2.1 = 0
  · exact ⟨c, by rw [adv_e c]; exact Nat.le_succ _⟩
  · unfold advS at z
    rw [if_neg c] at z
    exact absurd z c
theorem ix_nd {A : List zTk} {k x : Int} {s : zRd} : Ix s (ndS A k x s) := by
  unfold ndS
  split
  · exact ix_adv
  · exact ix_fl (by decide)
theorem ix_nb {A : List zTk} {lo hi : Int} {s : zRd} : Ix s (nbS A lo hi s).2 := by
  unfold nbS
  split
  · split
    · exact ix_adv
    · exact ix_fl (by decide)
  · exact ix_fl (by decide)
theorem ix_nm {A : List zTk} {s : zRd} : Ix s (nmS A s).2 := by
  unfold nmS
  split
  · exact ix_adv
  · exact ix_fl (by decide)
theorem ix_tw {σ : zH} {p k i : Int} {s u : zRd} (h : Ix s u) : Ix s (twS σ p k i u) := by
  unfold twS
  split
  · exact h
  · exact ix_fl (by decide)
theorem ix_new {A : List zTk} {σ : zH} {s : zRd} : Ix s (newS A σ s).2 := ix_tw (ix_tw (ix_tw ix_nm))
theorem ix_onr {A : List zTk} {σ : zH} {s : zRd} : Ix s (onrS A σ s).2 := by
  unfold onrS
  dsimp only
  split
  · exact ix_fl (by decide)
  · exact ix_nm
theorem ix_cel {A : List zTk} {σ : zH} {lx ly : Int} {s : zRd} : Ix s (celS A σ lx ly s).2 := ix_nb.t ix_nb
theorem ix_frc {A : List zTk} {σ : zH} {s : zRd} : Ix s (frcS A σ s).2 := by
  unfold frcS
  split
  · exact ix_cel
  split
  · exact ix_cel
  · exact ix_fl (by decide)
theorem ix_row {A : List zTk} : ∀ (n : Nat) (i : Int) (σ : zH) (s : zRd), Ix s (rowF A n i σ s).2
  | 0, _, _, s => Ix.rf s
  | n + 1, i, σ, s => ix_nb.t (ix_row n (i + 1) _ _)
theorem ix_bod {A : List zTk} {σ : zH} {k : Int} {s : zRd} : Ix s (bodS A σ k s).2 := by
  unfold bodS
  split
  · unfold sField
    split
    · exact ix_nb
    split
    · exact ix_nb.t ix_nb
    · exact ix_nb.t ix_nb
  split
  · exact ix_row _ _ _ _
  split
  · exact (ix_nb.t ix_nd).t ix_cel
  split
  · exact ix_new
  split
  · unfold sLand
    dsimp only
    split
    · exact ((ix_onr.t ix_nd).t ix_cel).t ix_nd
    · exact (((ix_onr.t ix_nd).t ix_cel).t ix_nd).t ix_cel
  split
  · rw [stone_e]
    exact (((((ix_new.t ix_nd).t ix_nb).t ix_nd).t ix_nb).t ix_nd).t ix_frc
  split
  · rw [house_e]
    exact (((ix_new.t ix_nd).t ix_nb).t ix_nd).t ix_frc
  split
  · unfold sWall
    rw [fre_c]
    exact (ix_nb.t ix_nd).t ix_frc
  split
  · exact (ix_nb.t ix_nd).t ix_nb
  · exact ix_nb
theorem ix_X {A : List zTk} {σ : zH} {s : zRd} : Ix s (bodX A σ s).2 := by
  have g := @kn_g A σ s
  unfold bodX
  by_cases z : (kndS A σ 0 s).1 = -1
  · rw [if_pos z]
    exact fun y => absurd y (g.1 z)
  · rw [if_neg z]
    have e := (g.2 z).1
    rw [e]
    exact ix_adv.t ix_bod
theorem wp_law {σ : zH} (w : WP σ) (lt : σ 8 16 < 8) : WP (zset σ 8 16 (σ 8 16 + 1)) := by
  obtain ⟨_, _, a, b, s, c, t, r⟩ := WP_v.1 w
  have e : ∀ k, k ≠ 8 → zset σ 8 16 (σ 8 16 + 1) k = σ k := fun k hk => zset_n hk
  have e8 : ∀ j, j ≠ 16 → zset σ 8 16 (σ 8 16 + 1) 8 j = σ 8 j := fun j hj => zset_j hj
  have n4 : nO (zset σ 8 16 (σ 8 16 + 1)) = nO σ := e8 4 (by decide)
  have n7 : nS (zset σ 8 16 (σ 8 16 + 1)) = nS σ := e8 7 (by decide)
  have n10 : nHo (zset σ 8 16 (σ 8 16 + 1)) = nHo σ := e8 10 (by decide)
  have n13 : nT (zset σ 8 16 (σ 8 16 + 1)) = nT σ := e8 13 (by decide)
  have n15 : nRo (zset σ 8 16 (σ 8 16 + 1)) = nRo σ := e8 15 (by decide)
  refine w.mk2 (σ' := zset σ 8 16 (σ 8 16 + 1)) (k := 16) (e 0 (by decide)) e8 zset_e ⟨fun w => absurd w (by decide), fun w => absurd w (by decide), fun w => absurd w (by decide), fun w => absurd w (by decide), fun w => absurd w (by decide), fun _ => lt⟩ (fun w => absurd w (by decide)) (fun w => absurd w (by decide)) ?_ ?_ ?_ ?_ ?_ ?_
  · rw [n4]; unfold vA at a ⊢; rw [e 1 (by decide), e 4 (by decide), e 5 (by decide), e 6 (by decide)]; exact a
  · rw [n10]; unfold vB at b ⊢; rw [e 7 (by decide), e 17 (by decide), e 5 (by decide)]; exact b
  · rw [n7]; unfold vS at s ⊢; rw [e 13 (by decide), e 14 (by decide), e 15 (by decide)]; exact s
  · rw [n10]; unfold vH at c ⊢; rw [e 16 (by decide), e 17 (by decide), e 7 (by decide)]; exact c
  · rw [n13]; unfold vT at t ⊢; rw [e 18 (by decide), e 19 (by decide)]; exact t
  · rw [n15]; unfold vR at r ⊢; rw [e 20 (by decide)]; exact r
/-! what holds of all that is read, between two statements -/
def IY (A : List zTk) (n : Nat) (x : zS4) : Prop := (WP x.1 ∧ 1 ≤ x.1 0 0 ∧ ∀ j, 0 ≤ j → j < 26 → 0 ≤ x.1 8 j ∧ x.1 8 j ≤ (n : Int)) ∧ ∃ L, Sg A L x
theorem iy_s {A : List zTk} {n : Nat} {x : zS4} (ok : AOk A) (i : IY A n x) (hs : x.2.1.1 < A.length) (hz : (stmY A x).2.1.2.1 = 0) : IY A (n + 1) (stmY A x) := by
  obtain ⟨⟨i1, i2, i3⟩, L, g⟩ := i
  have ib : Ix (bodY A x).2.1 (stmY A x).2.1 := ix_nd
  have zb := ib hz
  by_cases c : owS A x.2.1 = 16 ∧ x.1 8 16 < 8
  · have e : bodY A x = (zset x.1 8 16 (x.1 8 16 + 1), lawP A (advS x.2.1), lawU A (testA A 8) (advS x.2.1) x.2.2.1, lawU A (testB A 8) (advS x.2.1) x.2.2.2) := by unfold bodY; rw [if_pos c]
    have k2 : kdS A x.2.1 = 2 := by
      refine Classical.byContradiction fun w => ?_
      have := c.1
      unfold owS at this
      rw [if_neg w] at this
      exact absurd this (by decide)
    have f := kd_0 k2 (by decide)
    have hd : effK A (lawP A (advS x.2.1)) = 0 := by
      have z2 := zb.1
      rw [e] at z2
      refine Classical.byContradiction fun w => ?_
      have d : (stmY A x).2.1 = ndS A 4 59 (lawP A (advS x.2.1)) := by unfold stmY; rw [e]
      rw [d] at hz
      rw [d_nd (by decide) w] at hz
      exact dS_z hz
    obtain ⟨l, gl⟩ := g.l ok hs f.1 (by rw [f.2]; decide) (by rw [f.2]; decide) hd
    have es : stmY A x = (zset x.1 8 16 (x.1 8 16 + 1), ndS A 4 59 (lawP A (advS x.2.1)), lawU A (testA A 8) (advS x.2.1) x.2.2.1, lawU A (testB A 8) (advS x.2.1) x.2.2.2) := by unfold stmY; rw [e]
    have zl := zb.2
    rw [e, es] at zl
    dsimp only at zl
    rw [es]
    refine ⟨⟨?_, ?_, fun j j1 j2 => ?_⟩, L ++ [l], gl.1, gl.2.1, Nat.le_trans gl.2.2.1 zl, Nat.le_trans gl.2.2.2 zl⟩
    · exact wp_law i1 c.2
    · show 1 ≤ zset x.1 8 16 (x.1 8 16 + 1) 0 0
      rw [zset_o (by decide)]; exact i2
    · show 0 ≤ zset x.1 8 16 (x.1 8 16 + 1) 8 j ∧ zset x.1 8 16 (x.1 8 16 + 1) 8 j ≤ _
      have h16 := i3 16 (by decide) (by decide)
      have hj := i3 j j1 j2
      rw [zset_g]
      split <;> omega
  · have e : bodY A x = ((bodX A x.1 x.2.1).1, (bodX A x.1 x.2.1).2, x.2.2) := by unfold bodY; rw [if_neg c]
    have es : stmY A x = ((bodX A x.1 x.2.1).1, ndS A 4 59 (bodX A x.1 x.2.1).2, x.2.2) := by unfold stmY; rw [e]
    have zl := zb.2
    have z2 := zb.1
    rw [e, es] at zl
    rw [e] at z2
    dsimp only at zl z2
    obtain ⟨w1, w2, k, wk, w3⟩ := wp_X i1 c z2
    have ix := ix_X (A := A) (σ := x.1) (s := x.2.1) z2
    rw [es]
    obtain ⟨g1, g2, g3, g4⟩ := g
    refine ⟨⟨w1, by show 1 ≤ (bodX A x.1 x.2.1).1 0 0; rw [w2]; exact i2, fun j j1 j2 => ?_⟩, L, ⟨g1.1, ?_⟩, g2, ?_, ?_⟩
    · have hj := i3 j j1 j2
      show 0 ≤ (bodX A x.1 x.2.1).1 8 j ∧ (bodX A x.1 x.2.1).1 8 j ≤ _
      rw [w3]
      split <;> omega
    · show (bodX A x.1 x.2.1).1 8 16 = _
      rw [w3, if_neg (by omega)]
      exact g1.2
    · exact Nat.le_trans g3 (Nat.le_trans ix.2 zl)
    · exact Nat.le_trans g4 (Nat.le_trans ix.2 zl)
