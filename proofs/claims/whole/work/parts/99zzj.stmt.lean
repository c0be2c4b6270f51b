/-! a statement, laws too: what is read is σ, the reader, the class's and the reference's codes and marks -/
abbrev zMk : Type := Nat × Nat × Nat
abbrev zKb : Type := List Int × List zMk
abbrev zS4 : Type := zH × zRd × zKb × zKb
def lawU (A : List zTk) (g : zLx → zLx) (s : zRd) (K : zKb) : zKb := ((lwS A g (s, K.1)).2, K.2 ++ [(K.1.length, (sumA A 8 (s, K.1)).2.length, (lwS A g (s, K.1)).2.length)])
def lawP (A : List zTk) (s : zRd) : zRd := (lwS A (testA A 8) (s, [])).1
def bodY (A : List zTk) (x : zS4) : zS4 := if owS A x.2.1 = 16 ∧ x.1 8 16 < 8 then (zset x.1 8 16 (x.1 8 16 + 1), lawP A (advS x.2.1), lawU A (testA A 8) (advS x.2.1) x.2.2.1, lawU A (testB A 8) (advS x.2.1) x.2.2.2) else ((bodX A x.1 x.2.1).1, (bodX A x.1 x.2.1).2, x.2.2)
def stmY (A : List zTk) (x : zS4) : zS4 := ((bodY A x).1, ndS A 4 59 (bodY A x).2.1, (bodY A x).2.2)
theorem lw_s {A : List zTk} (ok : AOk A) (s : zRd) (C : List Int) : (lwS A (testA A 8) (s, C)).1 = lawP A s ∧ (lwS A (testB A 8) (s, C)).1 = lawP A s := by
  have s1 := (rl_sum ok 8).1
  have s2 := (rl_tst ok 8).1
  have e : (sumA A 8 (s, C)).1 = (sumA A 8 (s, [])).1 := s1 s [] C
  unfold lawP lwS
  rw [e]
  refine ⟨?_, s2 _ _ _⟩
  rw [← s2 _ _ [], ← s2 _ (sumA A 8 (s, [])).2 []]
def BkM (K : zKb) (b : Int) (h : zH) : Prop := LB K.1 b h ∧ h (b + 21) 5 = (K.2.length : Int) ∧ ∀ (j a m e : Nat), K.2[j]? = some (a, m, e) → h (b + 23) (j : Int) = (a : Int) ∧ h (b + 24) (j : Int) = (m : Int) ∧ h (b + 25) (j : Int) = (e : Int)
theorem BkM.f {K : zKb} {b : Int} {h h' : zH} (k : BkM K b h) (e : ∀ r, b + 21 ≤ r → r ≤ b + 25 → h' r = h r) : BkM K b h' := by
  unfold BkM at k ⊢
  rw [e (b + 21) (by omega) (by omega), e (b + 23) (by omega) (by omega), e (b + 24) (by omega) (by omega), e (b + 25) (by omega) (by omega)]
  exact ⟨k.1.fr (by rw [e (b + 21) (by omega) (by omega)]) (e (b + 22) (by omega) (by omega)), k.2⟩
def PCY (A : List zTk) (b : Int) (x : zS4) (h : zH) : Prop := PC A b x.1 x.2.1 h ∧ BkM x.2.2.1 b h
def frPY (b : Int) (h h' : zH) : Prop := (∀ r, ¬ (r = 5 ∨ r = 10 ∨ b ≤ r ∧ r ≤ b + 25) → h' r = h r) ∧ ∀ q, ¬ (q = 1 ∨ q = 5) → h' (b + 21) q = h (b + 21) q
theorem frPY.rf (b : Int) (h : zH) : frPY b h h := ⟨fun _ _ => rfl, fun _ _ => rfl⟩
theorem frPY.t {b : Int} {x y z : zH} (h1 : frPY b x y) (h2 : frPY b y z) : frPY b x z := ⟨fun r hr => (h2.1 r hr).trans (h1.1 r hr), fun q hq => (h2.2 q hq).trans (h1.2 q hq)⟩
theorem frP.y {b : Int} {h h' : zH} (hb : 11 ≤ b) (f : frP b h h') : frPY b h h' := ⟨fun r hr => f r (by omega), fun q _ => by rw [f _ (by omega)]⟩
theorem frLa.y {b : Int} {h h' : zH} (f : frLa b h h') : frPY b h h' := ⟨fun r hr => f.1 r (by omega), f.2⟩
theorem kn_16 {A : List zTk} {σ : zH} {s : zRd} : ((kndS A σ 0 s).1 = 16 ↔ owS A s = 16 ∧ σ 8 16 < 8) ∧ ((kndS A σ 0 s).1 = 16 → (kndS A σ 0 s).2 = advS s) := by
  unfold kndS
  by_cases q : mostA σ (owS A s) = -1 ∨ ¬ (0 : Int) = (if owS A s = 0 then 1 else 0)
  · rw [if_pos q]
    refine ⟨⟨fun z => absurd (show (-1 : Int) = 16 from z) (by decide), fun z => ?_⟩, fun z => absurd (show (-1 : Int) = 16 from z) (by decide)⟩
    rw [z.1] at q
    rcases q with q | q
    · exact absurd (show (8 : Int) = -1 from q) (by decide)
    · exact absurd (show (0 : Int) = 0 from rfl) q
  rw [if_neg q]
  by_cases q2 : σ 8 (owS A s) < mostA σ (owS A s)
  · rw [if_pos q2]
    refine ⟨⟨fun z => ?_, fun z => z.1⟩, fun _ => rfl⟩
    have z' : owS A s = 16 := z
    rw [z'] at q2
    exact ⟨z', q2⟩
  · rw [if_neg q2]
    refine ⟨⟨fun z => absurd (show (-1 : Int) = 16 from z) (by decide), fun z => ?_⟩, fun z => absurd (show (-1 : Int) = 16 from z) (by decide)⟩
    rw [z.1] at q2
    exact absurd z.2 q2
theorem BkM.x {A : List zTk} {g : zLx → zLx} {K : zKb} {s : zRd} {b : Int} {h h' : zH} (k : BkM K b h) (lb : LB (lwS A g (s, K.1)).2 b h') (e5 : h' (b + 21) 5 = (K.2.length : Int) + 1) (m1 : ∀ i, h' (b + 23) i = if i = (K.2.length : Int) then (K.1.length : Int) else h (b + 23) i) (m2 : ∀ i, h' (b + 24) i = if i = (K.2.length : Int) then ((sumA A 8 (s, K.1)).2.length : Int) else h (b + 24) i) (m3 : ∀ i, h' (b + 25) i = if i = (K.2.length : Int) then ((lwS A g (s, K.1)).2.length : Int) else h (b + 25) i) : BkM (lawU A g s K) b h' := by
  unfold lawU
  refine ⟨lb, by rw [e5]; dsimp only; rw [List.length_append]; rfl, fun j a m e hj => ?_⟩
  dsimp only at hj
  by_cases z : j = K.2.length
  · rw [z, List.getElem?_append_right (Nat.le_refl _), Nat.sub_self] at hj
    have el := Option.some.inj hj
    have e1 := congrArg Prod.fst el
    have e2 := congrArg (fun x : zMk => x.2.1) el
    have e3 := congrArg (fun x : zMk => x.2.2) el
    dsimp only at e1 e2 e3
    rw [z, m1, m2, m3, if_pos rfl, if_pos rfl, if_pos rfl, e1, e2, e3]
    exact ⟨rfl, rfl, rfl⟩
  · have hlt := (List.getElem?_eq_some_iff.1 hj).1
    rw [List.length_append] at hlt
    have hlt' : j < K.2.length + 1 := hlt
    rw [List.getElem?_append_left (show j < K.2.length by omega)] at hj
    have jn : ¬ (j : Int) = (K.2.length : Int) := by omega
    rw [m1, m2, m3, if_neg jn, if_neg jn, if_neg jn]
    exact k.2.2 j a m e hj
theorem kn_g {A : List zTk} {σ : zH} {s : zRd} : ((kndS A σ 0 s).1 = -1 → (kndS A σ 0 s).2.2.1 ≠ 0) ∧ ((kndS A σ 0 s).1 ≠ -1 → kndS A σ 0 s = (owS A s, advS s) ∧ owS A s ≠ 0 ∧ mostA σ (owS A s) ≠ -1 ∧ σ 8 (owS A s) < mostA σ (owS A s)) := by
  unfold kndS
  by_cases q : mostA σ (owS A s) = -1 ∨ ¬ (0 : Int) = (if owS A s = 0 then 1 else 0)
  · rw [if_pos q]
    exact ⟨fun _ => flS_z (k := 1) (by decide), fun z => absurd rfl z⟩
  rw [if_neg q]
  by_cases q2 : σ 8 (owS A s) < mostA σ (owS A s)
  · rw [if_pos q2]
    refine ⟨fun z => absurd ?_ q, fun _ => ⟨rfl, fun z => q (Or.inr ?_), fun z => q (Or.inl z), q2⟩⟩
    · have z' : owS A s = -1 := z
      refine Or.inl ?_
      rw [z']
      rfl
    · rw [if_pos z]
      decide
  · rw [if_neg q2]
    exact ⟨fun _ => flS_z (k := 5) (by decide), fun z => absurd rfl z⟩
theorem stm_y {A : List zTk} {σ : zH} {s : zRd} (c : ∀ j, 0 ≤ j → j < 26 → -1000 ≤ σ 8 j ∧ σ 8 j ≤ 1000) : stmS A 0 σ s = ((bodX A σ s).1, ndS A 4 59 (bodX A σ s).2) := by
  have g := @kn_g A σ s
  unfold stmS bodX
  by_cases z : (kndS A σ 0 s).1 = -1
  · rw [if_pos z, if_pos z]
    have n := g.1 z
    dsimp only
    rw [d_nd (by decide) (ef_z n)]
    have e : dS A (kndS A σ 0 s).2 = (kndS A σ 0 s).2 := flS_s n
    rw [e]
  · rw [if_neg z, if_neg z]
    unfold endS
    have e := bod_8 (A := A) (σ := σ) (k := (kndS A σ 0 s).1) (s := (kndS A σ 0 s).2)
    have gz := g.2 z
    have mk := most_k gz.2.2.1
    have ek : (kndS A σ 0 s).1 = owS A s := by rw [gz.1]
    have cc := c (kndS A σ 0 s).1 (by omega) (by omega)
    rw [e, w32_i (x := σ 8 (kndS A σ 0 s).1 + 1) (by omega)]
theorem q_stmtY {d : Nat} {A : List zTk} {b : Int} {x : zS4} {h : zH} (ok : AOk A) (w : WB x.1) (hr : 0 ≤ x.1 8 1) (c8 : ∀ j, 0 ≤ j → j < 26 → -1000 ≤ x.1 8 j ∧ x.1 8 j ≤ 1000) (hL : x.1 8 16 = (x.2.2.1.2.length : Int)) (c : PCY A b x h) : zWp (m_SlopeReader_readStatement (d + 44) 4 0 h) (fun _ h' => PCY A b (stmY A x) h' ∧ frPY b h h') := by
  obtain ⟨σ, s, K, K2⟩ := x
  obtain ⟨p, k⟩ := c
  dsimp only at w hr c8 hL p k
  have ha := p.a
  by_cases z : (kndS A σ 0 s).1 = 16
  case neg =>
    have e : stmY A (σ, s, K, K2) = ((stmS A 0 σ s).1, (stmS A 0 σ s).2, K, K2) := by
      unfold stmY bodY
      dsimp only
      rw [if_neg (fun y => z (kn_16.1.2 y)), stm_y c8]
    rw [e]
    exact zWp_m (q_stmt (d := d + 38) ok w hr p z) (fun _ h' u => ⟨⟨u.1, k.f (fun r r1 r2 => u.2 r (by omega))⟩, u.2.y ha.1⟩)
  have z2 := kn_16.1.1 z
  have e : stmY A (σ, s, K, K2) = (zset σ 8 16 (σ 8 16 + 1), ndS A 4 59 (lawP A (advS s)), lawU A (testA A 8) (advS s) K, lawU A (testB A 8) (advS s) K2) := by
    unfold stmY bodY
    dsimp only
    rw [if_pos z2]
  rw [e, em_SlopeReader_readStatement, show (4 + 1 : Int) = 5 from rfl, show (4 + 6 : Int) = 10 from rfl]
  refine zWp_po (by decide) (b_kn (d := d + 41) ok p (fun h1 c1 f1 => ?_))
  rw [z]
  rw [kn_16.2 z] at c1
  refine zWp_nt (by decide) (zWp_nt (by decide) (zWp_nt (by decide) (zWp_nt (by decide) (zWp_nt (by decide) (zWp_nt (by decide) (zWp_nt (by decide) (zWp_nt (by decide) (zWp_nt (by decide) (zWp_nt (by decide) (zWp_nt (by decide) (zWp_nt (by decide) (zWp_nt (by decide) (zWp_nt (by decide) (zWp_nt (by decide) (zWp_nt (by decide) (zWp_it rfl (zWp_po (by decide) (zWp_po (by decide) (zWp_po (by decide) ?_)))))))))))))))))))
  rw [c1.2.2.1]
  have k1 : BkM K b h1 := k.f (fun r r1 r2 => f1 r (by omega))
  have e5 : h1 (b + 21) 5 = σ 8 16 := by rw [k1.2.1, hL]
  have l0 : 0 ≤ (K.2.length : Int) := Int.natCast_nonneg _
  refine zWp_po (by omega) (zWp_po (by decide) (zWp_bv (q_rlaw (d := d + 1) ok ha c1.1 k1.1 e5 ⟨by omega, z2.2⟩) (fun _ h3 u => ?_)))
  have s1 := (lw_s ok (advS s) K.1).1
  rw [s1] at u
  have p3 : PC A b σ (lawP A (advS s)) h3 := by
    refine ⟨u.1.1, ⟨c1.2.1.1, fun kk i k1 k2 => ?_⟩, ?_, c1.2.2.2⟩
    · rw [u.2.1.1 (b + kk) (by omega)]; exact c1.2.1.2 kk i k1 k2
    · rw [u.2.1.1 4 (by omega)]; exact c1.2.2.1
  have k3 : BkM (lawU A (testA A 8) (advS s) K) b h3 := by
    have uu := u.2.2
    rw [hL] at uu
    exact k1.x u.1.2 uu.1 uu.2.1 uu.2.2.1 uu.2.2.2
  refine zWp_m (q_st254 (d := d + 41) (k := 16) (x := (σ, lawP A (advS s))) ok p3 (by decide)) (fun _ h4 v => ⟨⟨?_, k3.f (fun r r1 r2 => v.2 r (by omega))⟩, ((f1.y ha.1).t u.2.1.y).t (v.2.y ha.1)⟩)
  have ee := v.1
  unfold endS at ee
  dsimp only at ee
  have cc := c8 16 (by decide) (by decide)
  rw [w32_i (x := σ 8 16 + 1) (by omega)] at ee
  exact ee
