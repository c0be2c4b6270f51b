/-! two readers that read alike, and what they put -/
def Sq (g1 g2 : zLx → zLx) : Prop := ∀ (s : zRd) (C1 C2 : List Int), (g2 (s, C2)).1 = (g1 (s, C1)).1
def Rl (A : List zTk) (P : List Int → List Int → Prop) (g1 g2 : zLx → zLx) : Prop := ∀ (s : zRd) (C1 C2 : List Int), s.1 < A.length → 0 ≤ s.2.1 → C1.length ≤ s.1 → C2.length ≤ s.1 → effK A (g1 (s, C1)).1 = 0 → ∃ X Y, (g1 (s, C1)).2 = C1 ++ X ∧ (g2 (s, C2)).2 = C2 ++ Y ∧ X.length + s.1 ≤ (g1 (s, C1)).1.1 ∧ Y.length + s.1 ≤ (g1 (s, C1)).1.1 ∧ P X Y
theorem put_a {C : List Int} {x : Int} (h : C.length < 1600) : putA C x = C ++ [x] := by unfold putA; rw [if_pos h]
theorem rl_1 {A : List zTk} {P : List Int → List Int → Prop} {s : zRd} {C1 C2 : List Int} {x : Int} (ok : AOk A) (hs : s.1 < A.length) (f : s.2.1 = 0) (k0 : (tkI A s.1).1 ≠ 0) (h1 : C1.length ≤ s.1) (h2 : C2.length ≤ s.1) (hp : P [x] [x]) : ∃ X Y, putA C1 x = C1 ++ X ∧ putA C2 x = C2 ++ Y ∧ X.length + s.1 ≤ (advS s).1 ∧ Y.length + s.1 ≤ (advS s).1 ∧ P X Y := by
  have hi := ok.2.1 s.1 hs k0
  have hA := ok.1
  refine ⟨[x], [x], put_a (by omega), put_a (by omega), ?_, ?_, hp⟩
  · rw [adv_e f]; show 1 + s.1 ≤ s.1 + 1; omega
  · rw [adv_e f]; show 1 + s.1 ≤ s.1 + 1; omega
theorem dd_f5 {A : List zTk} {s : zRd} {p : Int} (hd : effK A s = 0) : effK A (flS 5 p s) ≠ 0 := by rw [(flS_e hd (by decide)).1]; decide
theorem dd_dS {A : List zTk} {s : zRd} : effK A (dS A s) ≠ 0 := by
  have h := @dS_z A s
  rw [(eff_f (A := A) h).1]
  exact h
theorem sq_part {A : List zTk} {i1 i2 : Option (zLx → zLx)} (hn : i1 = none ↔ i2 = none) (hg : ∀ g1 g2, i1 = some g1 → i2 = some g2 → Sq g1 g2) : Sq (ptA A i1) (ptA A i2) := by
  intro s C1 C2
  unfold ptA chA
  dsimp only
  by_cases c3 : kdS A s = 3
  · rw [if_pos c3, if_pos c3]
  rw [if_neg c3, if_neg c3]
  by_cases c1 : sgS A 2 24 s = true ∨ sgS A 2 25 s = true
  · rw [if_pos c1, if_pos c1]
    by_cases z : sgS A 4 40 (advS s) = true
    case neg => rw [if_neg z, if_neg z]
    rw [if_pos z, if_pos z]
    cases i1 with
    | none => rw [hn.1 rfl]; rfl
    | some g1 =>
      cases i2 with
      | none => exact absurd (hn.2 rfl) (by intro w; cases w)
      | some g2 =>
        have q := hg g1 g2 rfl rfl
        show ndS A 4 41 (g2 (ndS A 4 44 (g2 (advS (advS s), C2)).1, (g2 (advS (advS s), C2)).2)).1 = ndS A 4 41 (g1 (ndS A 4 44 (g1 (advS (advS s), C1)).1, (g1 (advS (advS s), C1)).2)).1
        rw [q (advS (advS s)) C1 C2, q _ (g1 (advS (advS s), C1)).2 (g2 (advS (advS s), C2)).2]
  rw [if_neg c1, if_neg c1]
  by_cases c4 : sgS A 4 40 s = true
  · rw [if_pos c4, if_pos c4]
    cases i1 with
    | none => rw [hn.1 rfl]; rfl
    | some g1 =>
      cases i2 with
      | none => exact absurd (hn.2 rfl) (by intro w; cases w)
      | some g2 =>
        show ndS A 4 41 (g2 (advS s, C2)).1 = ndS A 4 41 (g1 (advS s, C1)).1
        rw [hg g1 g2 rfl rfl (advS s) C1 C2]
  rw [if_neg c4, if_neg c4]
  by_cases c5 : kdS A s = 2 ∧ fcA (tkI A s.1).2.2.1 ≠ 0
  · rw [if_pos c5, if_pos c5]
  · rw [if_neg c5, if_neg c5]
theorem sq_lp {cd : zRd → Int} {g1 g2 : zLx → zLx} (h : Sq g1 g2) : ∀ (f : Nat) (s : zRd) (C1 C2 : List Int), (lpA cd g2 f (s, C2)).1 = (lpA cd g1 f (s, C1)).1 := by
  intro f
  induction f with
  | zero => exact fun s C1 C2 => rfl
  | succ f ih =>
    intro s C1 C2
    rw [lpA, lpA]
    by_cases z : cd s = 0
    · rw [if_pos z, if_pos z]
    · rw [if_neg z, if_neg z]
      dsimp only
      rw [h (advS s) C1 C2]
      exact ih _ _ _
theorem sq_co {cd : zRd → Int} {g1 g2 : zLx → zLx} (h : Sq g1 g2) : Sq (fun x => lpA cd g1 1600 (g1 x)) (fun x => lpA cd g2 1600 (g2 x)) := by
  intro s C1 C2
  have e := h s C1 C2
  have g := sq_lp (cd := cd) h 1600 (g1 (s, C1)).1 (g1 (s, C1)).2 (g2 (s, C2)).2
  rw [← e] at g
  show (lpA cd g2 1600 (g2 (s, C2))).1 = (lpA cd g1 1600 (g1 (s, C1))).1
  rw [e] at g
  have e2 : g2 (s, C2) = ((g1 (s, C1)).1, (g2 (s, C2)).2) := by rw [← e]
  rw [e2]
  exact g
/-- a bracket that holds what is alike -/
theorem rl_br {A : List zTk} {P : List Int → List Int → Prop} {g1 g2 : zLx → zLx} {x : Int} {s : zRd} {C1 C2 : List Int} (ok : AOk A) (hg : Gd A g1) (h : Rl A P g1 g2) (hs : s.1 < A.length) (f : s.2.1 = 0) (k0 : (tkI A s.1).1 ≠ 0) (k5 : (tkI A s.1).1 ≠ 5) (h1 : C1.length ≤ s.1) (h2 : C2.length ≤ s.1) (k : effK A (ndS A 4 x (g1 (advS s, C1)).1) = 0) : ∃ X Y, (g1 (advS s, C1)).2 = C1 ++ X ∧ (g2 (advS s, C2)).2 = C2 ++ Y ∧ X.length + s.1 ≤ (ndS A 4 x (g1 (advS s, C1)).1).1 ∧ Y.length + s.1 ≤ (ndS A 4 x (g1 (advS s, C1)).1).1 ∧ P X Y := by
  have b1 := bd_adv ok hs f k0 k5
  have ea : (advS s).1 = s.1 + 1 := by rw [adv_e f]
  have b2 := hg.x (x := (advS s, C1)) b1.1.1 b1.1.2
  have b3 := bd_nd (k := 4) (x := x) ok b2.1.1 b2.1.2 (by decide) (by decide)
  obtain ⟨X, Y, e1, e2, l1, l2, p⟩ := h (advS s) C1 C2 b1.1.1 b1.1.2 (by omega) (by omega) (b3.l k)
  have := b3.2.2 (b3.l k) k
  exact ⟨X, Y, e1, e2, by omega, by omega, p⟩
theorem rl_part {A : List zTk} {i1 i2 : Option (zLx → zLx)} {d : Nat} (ok : AOk A) (hn : i1 = none ↔ i2 = none) (hg : ∀ g1 g2, i1 = some g1 → i2 = some g2 → Gd A g1 ∧ Sq g1 g2 ∧ Rl A (VV pM d) g1 g2) : Rl A (VV pM (d + 1)) (ptA A i1) (ptA A i2) := by
  intro s C1 C2 hs h0 h1 h2
  unfold ptA
  dsimp only
  by_cases c3 : kdS A s = 3
  · rw [if_pos c3, if_pos c3]
    have f := kd_0 c3 (by decide)
    have v := (ok.2.2 s.1 hs).2.1 f.2
    exact fun _ => rl_1 ok hs f.1 (by rw [f.2]; decide) h1 h2 ((VV.num v).w (by omega))
  rw [if_neg c3, if_neg c3]
  by_cases c1 : sgS A 2 24 s = true ∨ sgS A 2 25 s = true
  · rw [if_pos c1, if_pos c1]
    have gk : s.2.1 = 0 ∧ (tkI A s.1).1 = 2 := by
      rcases c1 with z | z
      · exact ⟨(sg_k (by decide) z).1, (sg_k (by decide) z).2.1⟩
      · exact ⟨(sg_k (by decide) z).1, (sg_k (by decide) z).2.1⟩
    have hw : -12 ≤ (if (tkI A s.1).2.2.1 = 24 then (-11 : Int) else -12) ∧ (if (tkI A s.1).2.2.1 = 24 then (-11 : Int) else -12) ≤ -6 := by split <;> decide
    generalize (if (tkI A s.1).2.2.1 = 24 then (-11 : Int) else -12) = w at hw ⊢
    have b1 : Bd A 1 s (advS s) := bd_adv ok hs gk.1 (by rw [gk.2]; decide) (by rw [gk.2]; decide)
    have ea : (advS s).1 = s.1 + 1 := by rw [adv_e gk.1]
    unfold chA
    dsimp only
    by_cases z : sgS A 4 40 (advS s) = true
    case neg =>
      rw [if_neg z, if_neg z]
      exact fun k => absurd k dd_dS
    rw [if_pos z, if_pos z]
    cases i1 with
    | none => exact fun k => absurd k (dd_f5 (sg_a (by decide) z))
    | some g1 =>
      cases i2 with
      | none => exact absurd (hn.2 rfl) (by intro w; cases w)
      | some g2 =>
        obtain ⟨gd, sq, rl⟩ := hg g1 g2 rfl rfl
        have gz := sg_k (by decide) z
        have b2 := bd_sg ok b1.1.1 (by decide) (by decide) z
        have ea2 : (advS (advS s)).1 = s.1 + 2 := by rw [adv_e gz.1]; show (advS s).1 + 1 = s.1 + 2; omega
        have b3 := gd.x (x := (advS (advS s), C1)) b2.1.1 b2.1.2
        have b4 := bd_nd (k := 4) (x := 44) ok b3.1.1 b3.1.2 (by decide) (by decide)
        have b5 := gd.x (x := (ndS A 4 44 (g1 (advS (advS s), C1)).1, (g1 (advS (advS s), C1)).2)) b4.1.1 b4.1.2
        have b6 := bd_nd (k := 4) (x := 41) ok b5.1.1 b5.1.2 (by decide) (by decide)
        show (effK A (ndS A 4 41 (g1 (ndS A 4 44 (g1 (advS (advS s), C1)).1, (g1 (advS (advS s), C1)).2)).1) = 0 → ∃ X Y, putA (g1 (ndS A 4 44 (g1 (advS (advS s), C1)).1, (g1 (advS (advS s), C1)).2)).2 w = C1 ++ X ∧ putA (g2 (ndS A 4 44 (g2 (advS (advS s), C2)).1, (g2 (advS (advS s), C2)).2)).2 w = C2 ++ Y ∧ X.length + s.1 ≤ (ndS A 4 41 (g1 (ndS A 4 44 (g1 (advS (advS s), C1)).1, (g1 (advS (advS s), C1)).2)).1).1 ∧ Y.length + s.1 ≤ (ndS A 4 41 (g1 (ndS A 4 44 (g1 (advS (advS s), C1)).1, (g1 (advS (advS s), C1)).2)).1).1 ∧ VV pM (d + 1) X Y)
        intro k
        have k5 := b6.l k
        have k4 := b5.l k5
        have k3 := b4.l k4
        have p6 := b6.2.2 k5 k
        have p4 := b4.2.2 k3 k4
        have bl := b6.1.1
        obtain ⟨X, Y, e1, e2, l1, l2, p⟩ := rl (advS (advS s)) C1 C2 b2.1.1 b2.1.2 (by omega) (by omega) k3
        rw [sq (advS (advS s)) C1 C2, e1, e2]
        rw [e1] at k5 p6 bl
        obtain ⟨X', Y', e1', e2', l1', l2', p'⟩ := rl (ndS A 4 44 (g1 (advS (advS s), C1)).1) (C1 ++ X) (C2 ++ Y) b4.1.1 b4.1.2 (by rw [List.length_append]; omega) (by rw [List.length_append]; omega) k5
        have hA := ok.1
        rw [e1', e2', put_a (by rw [List.length_append, List.length_append]; omega), put_a (by rw [List.length_append, List.length_append]; omega)]
        refine ⟨X ++ X' ++ [w], Y ++ Y' ++ [w], by rw [List.append_assoc, List.append_assoc, List.append_assoc], by rw [List.append_assoc, List.append_assoc, List.append_assoc], ?_, ?_, VV.op p p' (hop_m hw) (by omega) (by omega) (by omega)⟩
        · rw [List.length_append, List.length_append]; show X.length + X'.length + 1 + s.1 ≤ _; omega
        · rw [List.length_append, List.length_append]; show Y.length + Y'.length + 1 + s.1 ≤ _; omega
  rw [if_neg c1, if_neg c1]
  by_cases c4 : sgS A 4 40 s = true
  · rw [if_pos c4, if_pos c4]
    have gz := sg_k (by decide) c4
    cases i1 with
    | none => exact fun k => absurd k (dd_f5 (sg_a (by decide) c4))
    | some g1 =>
      cases i2 with
      | none => exact absurd (hn.2 rfl) (by intro w; cases w)
      | some g2 =>
        obtain ⟨gd, sq, rl⟩ := hg g1 g2 rfl rfl
        intro k
        obtain ⟨X, Y, e1, e2, l1, l2, p⟩ := rl_br (x := 41) ok gd rl hs gz.1 (by rw [gz.2.1]; decide) (by rw [gz.2.1]; decide) h1 h2 k
        exact ⟨X, Y, e1, e2, l1, l2, p.w (by omega)⟩
  rw [if_neg c4, if_neg c4]
  by_cases c5 : kdS A s = 2 ∧ fcA (tkI A s.1).2.2.1 ≠ 0
  · rw [if_pos c5, if_pos c5]
    have f := kd_0 c5.1 (by decide)
    have v : fcA (tkI A s.1).2.2.1 < 0 ∧ -5 ≤ fcA (tkI A s.1).2.2.1 := by
      have z := c5.2
      unfold fcA at z ⊢
      repeat' split
      all_goals first | decide | skip
      rename_i z1 z2 z3 z4 z5
      rw [if_neg z1, if_neg z2, if_neg z3, if_neg z4, if_neg z5] at z
      exact absurd rfl z
    exact fun _ => rl_1 ok hs f.1 (by rw [f.2]; decide) h1 h2 ((VV.fact v).w (by omega))
  · rw [if_neg c5, if_neg c5]
    exact fun k => absurd k dd_dS
/-- a loop of what is alike -/
theorem rl_lp {A : List zTk} {cd : zRd → Int} {g1 g2 : zLx → zLx} {p : Int → Prop} {d e : Nat} (ok : AOk A) (hc : cdK A cd) (hg : Gd A g1) (sq : Sq g1 g2) (rl : Rl A (VV p d) g1 g2) (ho : ∀ s, cd s ≠ 0 → Hop p p (cd s)) (l : d + 1 ≤ e) : ∀ (f : Nat) (s : zRd) (s0 : Nat) (C1 C2 X Y : List Int), s.1 < A.length → 0 ≤ s.2.1 → C1.length ≤ s0 → C2.length ≤ s0 → X.length + s0 ≤ s.1 → Y.length + s0 ≤ s.1 → VV p e X Y → effK A (lpA cd g1 f (s, C1 ++ X)).1 = 0 →
    ∃ X' Y', (lpA cd g1 f (s, C1 ++ X)).2 = C1 ++ X' ∧ (lpA cd g2 f (s, C2 ++ Y)).2 = C2 ++ Y' ∧ X'.length + s0 ≤ (lpA cd g1 f (s, C1 ++ X)).1.1 ∧ Y'.length + s0 ≤ (lpA cd g1 f (s, C1 ++ X)).1.1 ∧ VV p e X' Y' := by
  intro f
  induction f with
  | zero => exact fun s s0 C1 C2 X Y h1 h2 h3 h4 h5 h6 v k => ⟨X, Y, rfl, rfl, h5, h6, v⟩
  | succ f ih =>
    intro s s0 C1 C2 X Y h1 h2 h3 h4 h5 h6 v k
    rw [lpA] at k
    rw [lpA, lpA]
    by_cases z : cd s = 0
    · rw [if_pos z, if_pos z]
      exact ⟨X, Y, rfl, rfl, h5, h6, v⟩
    rw [if_neg z] at k
    rw [if_neg z, if_neg z]
    dsimp only at k ⊢
    have kk := hc _ z
    have ea : (advS s).1 = s.1 + 1 := by rw [adv_e kk.1]
    have b1 := bd_adv ok h1 kk.1 kk.2.1 kk.2.2
    have b2 := hg.x (x := (advS s, C1 ++ X)) b1.1.1 b1.1.2
    have b3 := lp_gd ok hc hg f ((g1 (advS s, C1 ++ X)).1, putA (g1 (advS s, C1 ++ X)).2 (cd s)) b2.1.1 b2.1.2
    have k2 := b3.l k
    obtain ⟨X1, Y1, e1, e2, l1, l2, p1⟩ := rl (advS s) (C1 ++ X) (C2 ++ Y) b1.1.1 b1.1.2 (by rw [List.length_append]; omega) (by rw [List.length_append]; omega) k2
    have bl := b2.1.1
    have hA := ok.1
    have q1 : putA (g1 (advS s, C1 ++ X)).2 (cd s) = C1 ++ (X ++ X1 ++ [cd s]) := by
      rw [e1, put_a (by rw [List.length_append, List.length_append]; omega), List.append_assoc, List.append_assoc, List.append_assoc]
    have q2 : putA (g2 (advS s, C2 ++ Y)).2 (cd s) = C2 ++ (Y ++ Y1 ++ [cd s]) := by
      rw [e2, put_a (by rw [List.length_append, List.length_append]; omega), List.append_assoc, List.append_assoc, List.append_assoc]
    rw [q1] at k
    rw [q1, q2, sq (advS s) (C1 ++ X) (C2 ++ Y)]
    refine ih _ s0 C1 C2 _ _ b2.1.1 b2.1.2 h3 h4 ?_ ?_ (VV.op v p1 (ho s z) (Nat.le_refl _) l (by omega)) k
    · rw [List.length_append, List.length_append]; show X.length + X1.length + 1 + s0 ≤ _; omega
    · rw [List.length_append, List.length_append]; show Y.length + Y1.length + 1 + s0 ≤ _; omega
theorem rl_co {A : List zTk} {cd : zRd → Int} {g1 g2 : zLx → zLx} {p : Int → Prop} {d : Nat} (ok : AOk A) (hc : cdK A cd) (hg : Gd A g1) (sq : Sq g1 g2) (rl : Rl A (VV p d) g1 g2) (ho : ∀ s, cd s ≠ 0 → Hop p p (cd s)) : Rl A (VV p (d + 1)) (fun x => lpA cd g1 1600 (g1 x)) (fun x => lpA cd g2 1600 (g2 x)) := by
  intro s C1 C2 h1 h2 h3 h4 k
  have b := hg.x (x := (s, C1)) h1 h2
  have b2 := lp_gd ok hc hg 1600 (g1 (s, C1)) b.1.1 b.1.2
  have k1 := b2.l k
  obtain ⟨X, Y, e1, e2, l1, l2, v⟩ := rl s C1 C2 h1 h2 h3 h4 k1
  have q1 : g1 (s, C1) = ((g1 (s, C1)).1, C1 ++ X) := by rw [← e1]
  have q2 : g2 (s, C2) = ((g1 (s, C1)).1, C2 ++ Y) := by rw [← e2, ← sq s C1 C2]
  have k' : effK A (lpA cd g1 1600 ((g1 (s, C1)).1, C1 ++ X)).1 = 0 := by rw [← q1]; exact k
  have r := rl_lp ok hc hg sq rl ho (Nat.le_refl (d + 1)) 1600 (g1 (s, C1)).1 s.1 C1 C2 X Y b.1.1 b.1.2 h3 h4 l1 l2 (v.w (by omega)) k'
  rw [← q1, ← q2] at r
  exact r
