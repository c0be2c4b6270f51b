/-! both loops over statements: the class's -/
def lpY (A : List zTk) : Nat → Nat → zS4 → Nat × zS4
  | 0, n, x => (n, x)
  | f + 1, n, x => if x.2.1.2.1 = 0 ∧ (tkI A x.2.1.1).1 ≠ 0 then lpY A f (n + 1) (stmY A x) else (n, x)
theorem tk_lt {A : List zTk} {i : Nat} (h : (tkI A i).1 ≠ 0) : i < A.length := by
  refine Classical.byContradiction fun z => h ?_
  unfold tkI
  rw [List.getD_eq_getElem?_getD, List.getElem?_eq_none (by omega)]
  rfl
theorem iy_lp {A : List zTk} (ok : AOk A) : ∀ (f n : Nat) (x : zS4), (x.2.1.2.1 = 0 → IY A n x) → (lpY A f n x).2.2.1.2.1 = 0 → IY A (lpY A f n x).1 (lpY A f n x).2 := by
  intro f
  induction f with
  | zero => exact fun n x i z => i z
  | succ f ih =>
    intro n x i z
    rw [lpY] at z ⊢
    by_cases c : x.2.1.2.1 = 0 ∧ (tkI A x.2.1.1).1 ≠ 0
    · rw [if_pos c] at z ⊢
      exact ih (n + 1) (stmY A x) (fun y => iy_s ok (i c.1) (tk_lt c.2) y) z
    · rw [if_neg c] at z ⊢
      exact i z
theorem q_lpY {d : Nat} {A : List zTk} {b : Int} {Q : zV → zH → Prop} (ok : AOk A) : ∀ (f n : Nat) (x : zS4) (h : zH), n + f = 100 → 1 ≤ n → PCY A b x h → (x.2.1.2.1 = 0 → IY A n x) → (∀ h', PCY A b (lpY A f n x).2 h' → frPY b h h' → zWp (l_SlopeReader_readInto_71 (d + 44) 4 ((lpY A f n x).1 : Int) h') Q) → zWp (l_SlopeReader_readInto_24 (d + 44) 4 (n : Int) h) Q := by
  intro f
  induction f with
  | zero =>
    intro n x h hn h1 p i k
    rw [el_SlopeReader_readInto_24]
    exact zWp_nt (by omega) (k h p (frPY.rf b h))
  | succ f ih =>
    intro n x h hn h1 p i k
    have t := p.1.1
    rw [lpY] at k
    rw [el_SlopeReader_readInto_24, show (4 + 1 : Int) = 5 from rfl, t.2.1.1, t.k]
    refine zWp_it (by omega) (zWp_po (by decide) (zWp_po (by decide) ?_))
    by_cases c1 : x.2.1.2.1 = 0
    case neg =>
      rw [if_neg (fun y => c1 y.1)] at k
      exact zWp_nt c1 (k h p (frPY.rf b h))
    refine zWp_it c1 (zWp_po (by decide) (zWp_po (by decide) ?_))
    have ek : kdS A x.2.1 = (tkI A x.2.1.1).1 := by unfold kdS; rw [if_pos c1]
    by_cases c2 : kdS A x.2.1 = 0
    · rw [if_neg (fun y => y.2 (by rw [← ek]; exact c2))] at k
      exact zWp_it c2 (k h p (frPY.rf b h))
    have c3 : (tkI A x.2.1.1).1 ≠ 0 := by rw [← ek]; exact c2
    rw [if_pos ⟨c1, c3⟩] at k
    have ii := i c1
    obtain ⟨L, g⟩ := ii.2
    have hL : x.1 8 16 = (x.2.2.1.2.length : Int) := by rw [g.1.2, g.2.1.1.1]
    refine zWp_nt c2 (zWp_nt (by omega) (zWp_po (by decide) (zWp_bv (q_stmtY (d := d) ok ii.1.1.1 (ii.1.2.2 1 (by decide) (by decide)).1 (fun j j1 j2 => by have := ii.1.2.2 j j1 j2; omega) hL p) (fun _ h2 u => ?_))))
    rw [w32_i (x := (n : Int) + 1) (by omega), show (n : Int) + 1 = ((n + 1 : Nat) : Int) from rfl]
    exact ih (n + 1) (stmY A x) h2 (by omega) (by omega) u.1 (fun y => iy_s ok ii (tk_lt c3) y) (fun h3 p3 f3 => k h3 p3 (u.2.t f3))
/-! the first statement -/
def fieldY (A : List zTk) (σ : zH) (s : zRd) : zS4 := ((stmS A 1 σ s).1, (stmS A 1 σ s).2, ([], []), ([], []))
theorem fld {A : List zTk} {σ : zH} {s : zRd} (z : Z0 σ) : (owS A s = 0 → kndS A σ 1 s = (0, advS s) ∧ ndS A 2 0 s = advS s ∧ stmS A 1 σ s = (zset (sField A σ (advS s)).1 8 0 1, ndS A 4 59 (sField A σ (advS s)).2)) ∧ (owS A s ≠ 0 → (kndS A σ 1 s).1 = -1 ∧ stmS A 1 σ s = (σ, dS A s) ∧ ndS A 2 0 s = dS A s) := by
  have sg : sgS A 2 0 s = true ↔ owS A s = 0 := ow_sg (i := 0)
  refine ⟨fun e => ?_, fun e => ?_⟩
  · have kn : kndS A σ 1 s = (0, advS s) := by
      unfold kndS
      rw [e, if_neg (fun y => by
        rcases y with y | y
        · exact absurd (show (1 : Int) = -1 from y) (by decide)
        · rw [if_pos rfl] at y; exact y rfl)]
      rw [if_pos (show σ 8 0 < mostA σ 0 by rw [z.2.1 0 (by decide) (by decide)]; exact Int.zero_lt_one)]
    refine ⟨kn, by unfold ndS; rw [if_pos (sg.2 e)], ?_⟩
    unfold stmS
    rw [kn, if_neg (show ¬ ((0 : Int), advS s).1 = -1 by show ¬ (0 : Int) = -1; decide)]
    have e8 := bod_8 (A := A) (σ := σ) (k := 0) (s := advS s)
    have eb : bodS A σ 0 (advS s) = sField A σ (advS s) := by unfold bodS; rw [if_pos rfl]
    rw [eb] at e8
    unfold endS
    dsimp only
    rw [eb, e8, z.2.1 0 (by decide) (by decide)]
    rfl
  · have kn : kndS A σ 1 s = (-1, flS 1 (unf (tkI A s.1)) s) := by
      unfold kndS
      rw [if_pos (Or.inr (by rw [if_neg e]; decide))]
    refine ⟨by rw [kn], ?_, by unfold ndS; rw [if_neg (fun y => e (sg.1 y))]; rfl⟩
    unfold stmS
    rw [kn, if_pos (show ((-1 : Int), flS 1 (unf (tkI A s.1)) s).1 = -1 from rfl)]
    rfl
theorem iy_f {A : List zTk} {σ : zH} {s : zRd} (z : Z0 σ) (hz : (fieldY A σ s).2.1.2.1 = 0) : IY A 1 (fieldY A σ s) := by
  by_cases c : owS A s = 0
  case neg =>
    have e := ((fld (A := A) (s := s) z).2 c).2.1
    have e2 : (fieldY A σ s).2.1 = dS A s := by unfold fieldY; rw [e]
    rw [e2] at hz
    exact absurd hz dS_z
  have e := ((fld (A := A) (s := s) z).1 c).2.2
  have e1 : fieldY A σ s = (zset (sField A σ (advS s)).1 8 0 1, ndS A 4 59 (sField A σ (advS s)).2, ([], []), ([], [])) := by unfold fieldY; rw [e]
  rw [e1] at hz ⊢
  have z1 : (sField A σ (advS s)).2.2.1 = 0 := (ix_nd (show (ndS A 4 59 (sField A σ (advS s)).2).2.1 = 0 from hz)).1
  have w := wp_field (v := 1) z z1
  have e8 := bod_8 (A := A) (σ := σ) (k := 0) (s := advS s)
  have eb : bodS A σ 0 (advS s) = sField A σ (advS s) := by unfold bodS; rw [if_pos rfl]
  rw [eb] at e8
  have n8 : ∀ j, 0 ≤ j → j < 26 → zset (sField A σ (advS s)).1 8 0 1 8 j = if j = 0 then 1 else 0 := fun j j1 j2 => by
    rw [zset_g, e8, z.2.1 j j1 j2]
  refine ⟨⟨w.1, ?_, fun j j1 j2 => ?_⟩, [], ⟨fun l hl => absurd hl List.not_mem_nil, ?_⟩, ⟨⟨rfl, fun j l hj => by cases hj⟩, ⟨rfl, fun j l hj => by cases hj⟩⟩, Nat.zero_le _, Nat.zero_le _⟩
  · show 1 ≤ zset (sField A σ (advS s)).1 8 0 1 0 0
    rw [zset_o (by decide)]
    omega
  · show 0 ≤ zset (sField A σ (advS s)).1 8 0 1 8 j ∧ zset (sField A σ (advS s)).1 8 0 1 8 j ≤ ((1 : Nat) : Int)
    rw [n8 j j1 j2]
    split <;> decide
  · show zset (sField A σ (advS s)).1 8 0 1 8 16 = _
    rw [n8 16 (by decide) (by decide)]
    rfl
