/-! the machine reads sums as the class does -/
def PS (A : List zTk) (g : zLx → zLx) (F : List zFr) : Prop := ∀ (G : zLx → Prop) (c : zCf) (s : zRd) (C : List Int), stp A c = ptF A s C F → s.1 < A.length → 0 ≤ s.2.1 → effK A s = 0 → Dd A G (g (s, C)).1 → (effK A (g (s, C)).1 = 0 → Ev A ((g (s, C)).1, (g (s, C)).2, true, F) G) → Ev A c G
def SmS (A : List zTk) (n : Nat) (g : zLx → zLx) : Prop := ∀ (G : zLx → Prop) (kd bg pr : Int) (R : List zFr) (s : zRd) (C : List Int), (kd = 2 ∨ kd = 3 ∨ kd = 4) → R.length = n → s.1 < A.length → 0 ≤ s.2.1 → Dd A G (g (s, C)).1 → (effK A (g (s, C)).1 = 0 → Ev A ((g (s, C)).1, (g (s, C)).2, true, (kd, 0, 0, pr, []) :: R) G) → Ev A (s, C, false, (kd, 0, bg, pr, []) :: R) G
def InS (A : List zTk) (m : Nat) (inn : Option (zLx → zLx)) : Prop := 1 ≤ m ∧ (inn = none → m = 9) ∧ ∀ g, inn = some g → m < 9 ∧ SmS A m g ∧ Gd A g ∧ ZE A g
theorem no_s {α : Type} {x : α} {P : Prop} (h : (none : Option α) = some x) : P := by cases h
theorem hd_n {P : Int → Prop} : ∀ o ∈ ([] : List Int).head?, P o := fun o ho => no_s (show (none : Option Int) = some o from ho)
theorem stT_n {A : List zTk} {s : zRd} {C : List Int} {kd ph bg pr : Int} {O : List Int} {R : List zFr} (h1 : smC A s = 0) (h2 : pdS A s = 0) (hk : ¬ (kd = 1 ∨ kd = 5)) : stT A s C (kd, ph, bg, pr, O) R = (if kd < 2 then .inr (s, (jnA 1 O C).2)
  else if kd = 3 then (if sgS A 4 44 s = true then .inl (advS s, (jnA 1 O C).2, false, (4, ph, bg, pr, (jnA 1 O C).1) :: R) else .inr (dS A s, []))
  else if sgS A 4 (if kd = 5 then 93 else 41) s = true then clsF s (jnA 1 O C).2 (kd, ph, bg, pr, O) R
  else .inr (dS A s, [])) := by
  unfold stT
  dsimp only
  rw [if_neg (fun z => z.2 h1), if_neg (fun z => z.2 h2), if_neg (fun z => hk z.1), if_neg (fun z => hk z.1), if_neg (fun z => hk z.1), if_neg (fun z => hk z.1)]
theorem e_cls {A : List zTk} {G : zLx → Prop} {kd pr : Int} {s : zRd} {C W : List Int} {f : zFr} {R : List zFr} (hk : kd = 2 ∨ kd = 4) (hd : effK A s = 0) (h1 : smC A s = 0) (h2 : pdS A s = 0) (hw : W = if kd = 4 then putA C pr else C) (D : Dd A G (ndS A 4 41 s)) (K : effK A (ndS A 4 41 s) = 0 → Ev A (ndS A 4 41 s, W, true, f :: R) G) : Ev A (s, C, true, (kd, 0, 0, pr, []) :: f :: R) G := by
  have e := (stp_T (C := C) (f := (kd, 0, 0, pr, [])) (R := f :: R) hd).trans (stT_n h1 h2 (by omega))
  rw [if_neg (show ¬ kd < 2 by omega), if_neg (show ¬ kd = 3 by omega), if_neg (show ¬ kd = 5 by omega)] at e
  by_cases z : sgS A 4 41 s = true
  · have en : ndS A 4 41 s = advS s := by unfold ndS; rw [if_pos z]
    rw [en] at D K
    rw [if_pos z] at e
    refine Ev.i (c' := (advS s, W, true, f :: R)) (e.trans ?_) (e_go D K)
    unfold clsF
    dsimp only
    rw [if_neg (show ¬ kd = 5 by omega), hw]
    rfl
  · have en : ndS A 4 41 s = dS A s := by unfold ndS; rw [if_neg z]; rfl
    rw [en] at D
    rw [if_neg z] at e
    exact Ev.r e (D.n hd)
theorem e_part {A : List zTk} {inn : Option (zLx → zLx)} {m : Nat} {F : List zFr} (ok : AOk A) (is : InS A m inn) (hF : F.length = m) : PS A (ptA A inn) F := by
  intro G c s C hc h1 h2 hd D K
  obtain ⟨m1, is0, is1⟩ := is
  obtain ⟨f0, R0, eF⟩ : ∃ f0 R0, F = f0 :: R0 := by
    cases F with
    | nil => exact absurd hF (by show ¬ 0 = m; omega)
    | cons f R => exact ⟨f, R, rfl⟩
  by_cases c3 : kdS A s = 3
  · have ea : ptA A inn (s, C) = (advS s, putA C (tkI A s.1).2.2.1) := by unfold ptA; rw [if_pos c3]
    rw [ea] at D K
    exact Ev.i (hc.trans (by unfold ptF; rw [if_pos c3])) (e_go D K)
  by_cases c1 : sgS A 2 24 s = true ∨ sgS A 2 25 s = true
  · have b1 : Bd A 1 s (advS s) := by
      rcases c1 with c | c
      · exact bd_sg ok h1 (by decide) (by decide) c
      · exact bd_sg ok h1 (by decide) (by decide) c
    have ea : ptA A inn (s, C) = chA A inn (if (tkI A s.1).2.2.1 = 24 then -11 else -12) (s, C) := by unfold ptA; rw [if_neg c3, if_pos c1]
    have ef : ptF A s C F = (if sgS A 4 40 (advS s) = true then opF A (advS s) C 3 (if (tkI A s.1).2.2.1 = 24 then -11 else -12) F else .inr (dS A (advS s), [])) := by unfold ptF; rw [if_neg c3, if_pos c1]
    rw [ea] at D K
    rw [ef] at hc
    clear ea ef
    generalize (if (tkI A s.1).2.2.1 = 24 then (-11 : Int) else -12) = w at D K hc
    by_cases z : sgS A 4 40 (advS s) = true
    case neg =>
      have ec : chA A inn w (s, C) = (dS A (advS s), C) := by unfold chA; rw [if_neg z]; rfl
      rw [ec] at D
      rw [if_neg z] at hc
      refine Ev.r hc ?_
      by_cases ka : effK A (advS s) = 0
      · exact D.n ka
      · exact D (by show effK A (dS A (advS s)) ≠ 0; unfold dS; rw [(flS_d ka).1]; exact ka) _ rfl rfl
    have hda := sg_a (by decide) z
    rw [if_pos z] at hc
    cases inn with
    | none =>
      have ec : chA A none w (s, C) = (flS 5 (tkI A (advS s).1).2.1 (advS s), C) := by unfold chA; rw [if_pos z]; rfl
      rw [ec] at D
      exact Ev.r (r := (flS 5 (tkI A (advS s).1).2.1 (advS s), [])) (hc.trans (by unfold opF; rw [if_pos (hF.trans (is0 rfl))])) (D (by dsimp only; rw [(flS_e hda (by decide)).1]; decide) _ rfl rfl)
    | some g =>
      obtain ⟨m9, sg, gg, zg⟩ := is1 g rfl
      have ec : chA A (some g) w (s, C) = (ndS A 4 41 (g (ndS A 4 44 (g (advS (advS s), C)).1, (g (advS (advS s), C)).2)).1, putA (g (ndS A 4 44 (g (advS (advS s), C)).1, (g (advS (advS s), C)).2)).2 w) := by unfold chA; rw [if_pos z]; rfl
      rw [ec] at D K
      have b2 := bd_sg ok b1.1.1 (by decide) (by decide) z
      have hc' : stp A c = .inl (advS (advS s), C, false, (3, 0, 1, w, []) :: F) := hc.trans (by unfold opF; rw [if_neg (by omega)])
      clear hc ec
      generalize advS (advS s) = t at D K hc' b2
      refine Ev.i hc' ?_
      have b3 := gg.x (x := (t, C)) b2.1.1 b2.1.2
      have b4 := bd_nd (k := 4) (x := 44) ok b3.1.1 b3.1.2 (by decide) (by decide)
      have b5 := gg.x (x := (ndS A 4 44 (g (t, C)).1, (g (t, C)).2)) b4.1.1 b4.1.2
      have b6 := bd_nd (k := 4) (x := 41) ok b5.1.1 b5.1.2 (by decide) (by decide)
      refine sg G 3 1 w F t C (Or.inr (Or.inl rfl)) hF b2.1.1 b2.1.2 (D.m ((b4.2.1.t b5.2.1).t b6.2.1)) (fun k1 => ?_)
      have ze := zg (t, C) b2.1.1 b2.1.2 k1
      have e := (stp_T (C := (g (t, C)).2) (f := (3, 0, 0, w, [])) (R := F) k1).trans (stT_n ze.1 ze.2 (by decide))
      rw [if_neg (by decide), if_pos rfl] at e
      by_cases z2 : sgS A 4 44 (g (t, C)).1 = true
      · rw [if_pos z2] at e
        have en : ndS A 4 44 (g (t, C)).1 = advS (g (t, C)).1 := by unfold ndS; rw [if_pos z2]
        rw [en] at D K b4 b5 b6
        refine Ev.i (c' := (advS (g (t, C)).1, (g (t, C)).2, false, (4, 0, 0, w, []) :: F)) e ?_
        refine sg G 4 0 w F _ _ (Or.inr (Or.inr rfl)) hF b4.1.1 b4.1.2 (D.m b6.2.1) (fun k2 => ?_)
        have ze2 := zg _ b4.1.1 b4.1.2 k2
        rw [eF] at K ⊢
        exact e_cls (Or.inr rfl) k2 ze2.1 ze2.2 (by rw [if_pos rfl]) D K
      · rw [if_neg z2] at e
        have en : ndS A 4 44 (g (t, C)).1 = dS A (g (t, C)).1 := by unfold ndS; rw [if_neg z2]; rfl
        rw [en] at D b5 b6
        exact Ev.r e ((D.m (b5.2.1.t b6.2.1)).n k1)
  by_cases c4 : sgS A 4 40 s = true
  · have ea : ptA A inn (s, C) = opA A inn (fun y => (ndS A 4 41 y.1, y.2)) (s, C) := by unfold ptA; rw [if_neg c3, if_neg c1, if_pos c4]
    have ef : ptF A s C F = opF A s C 2 0 F := by unfold ptF; rw [if_neg c3, if_neg c1, if_pos c4]
    rw [ea] at D K
    rw [ef] at hc
    cases inn with
    | none => exact Ev.r (r := (flS 5 (tkI A s.1).2.1 s, [])) (hc.trans (by unfold opF; rw [if_pos (hF.trans (is0 rfl))])) (D (by show effK A (flS 5 (tkI A s.1).2.1 s) ≠ 0; rw [(flS_e hd (by decide)).1]; decide) _ rfl rfl)
    | some g =>
      obtain ⟨m9, sg, gg, zg⟩ := is1 g rfl
      have hc' : stp A c = .inl (advS s, C, false, (2, 0, 1, 0, []) :: F) := hc.trans (by unfold opF; rw [if_neg (by omega)])
      have D' : Dd A G (ndS A 4 41 (g (advS s, C)).1) := D
      have K' : effK A (ndS A 4 41 (g (advS s, C)).1) = 0 → Ev A (ndS A 4 41 (g (advS s, C)).1, (g (advS s, C)).2, true, F) G := K
      have b2 := bd_sg ok h1 (by decide) (by decide) c4
      have b3 := gg.x (x := (advS s, C)) b2.1.1 b2.1.2
      have b4 := bd_nd (k := 4) (x := 41) ok b3.1.1 b3.1.2 (by decide) (by decide)
      refine Ev.i hc' (sg G 2 1 0 F _ C (Or.inl rfl) hF b2.1.1 b2.1.2 (D'.m b4.2.1) (fun k1 => ?_))
      have ze := zg _ b2.1.1 b2.1.2 k1
      rw [eF] at K' ⊢
      exact e_cls (Or.inl rfl) k1 ze.1 ze.2 (by rw [if_neg (by decide)]) D' K'
  by_cases c5 : kdS A s = 2 ∧ fcA (tkI A s.1).2.2.1 ≠ 0
  · have ea : ptA A inn (s, C) = (advS s, putA C (fcA (tkI A s.1).2.2.1)) := by unfold ptA; rw [if_neg c3, if_neg c1, if_neg c4, if_pos c5]
    rw [ea] at D K
    exact Ev.i (hc.trans (by unfold ptF; rw [if_neg c3, if_neg c1, if_neg c4, if_pos c5])) (e_go D K)
  · have ea : ptA A inn (s, C) = (dS A s, C) := by unfold ptA; rw [if_neg c3, if_neg c1, if_neg c4, if_neg c5]; rfl
    rw [ea] at D
    exact Ev.r (hc.trans (by unfold ptF; rw [if_neg c3, if_neg c1, if_neg c4, if_neg c5])) (D.n hd)
theorem stF_p {A : List zTk} {s : zRd} {C : List Int} {kd ph bg pr : Int} {O : List Int} {R : List zFr} (hd : effK A s = 0) (h : ¬ ((kd = 1 ∨ kd = 5) ∧ bg = 1)) : stp A (s, C, false, (kd, ph, bg, pr, O) :: R) = ptF A s C ((kd, ph, 0, pr, O) :: R) := by
  rw [stp_F hd]
  unfold stpF
  dsimp only
  rw [if_neg h]
theorem e_loop {A : List zTk} {g : zLx → zLx} {cd : zRd → Int} {kd ph pr : Int} {O : List Int} {R : List zFr} {G : zLx → Prop} (ok : AOk A) (hc : cdK A cd) (hg : Gd A g)
    (st : ∀ s C, effK A s = 0 → cd s ≠ 0 → stp A (s, C, true, (kd, ph, 0, pr, O) :: R) = .inl (advS s, C, false, (kd, ph, 0, pr, cd s :: O) :: R))
    (ps : ∀ s0, cd s0 ≠ 0 → PS A g ((kd, ph, 0, pr, cd s0 :: O) :: R))
    (lg : ∀ s0 (x : zLx), cd s0 ≠ 0 → x.1.1 < A.length → 0 ≤ x.1.2.1 → effK A (g x).1 = 0 → stp A ((g x).1, (g x).2, true, (kd, ph, 0, pr, cd s0 :: O) :: R) = stp A ((g x).1, putA (g x).2 (cd s0), true, (kd, ph, 0, pr, O) :: R)) :
    ∀ (f : Nat) (y : zLx), y.1.1 < A.length → 0 ≤ y.1.2.1 → A.length ≤ y.1.1 + f → effK A y.1 = 0 → Dd A G (lpA cd g f y).1 → (effK A (lpA cd g f y).1 = 0 → Ev A ((lpA cd g f y).1, (lpA cd g f y).2, true, (kd, ph, 0, pr, O) :: R) G) → Ev A (y.1, y.2, true, (kd, ph, 0, pr, O) :: R) G := by
  intro f
  induction f with
  | zero => exact fun y h1 h2 h3 => absurd h1 (by omega)
  | succ f ih =>
    intro y h1 h2 h3 hd D K
    rw [lpA] at D K
    by_cases z : cd y.1 = 0
    · rw [if_pos z] at D K
      exact K hd
    rw [if_neg z] at D K
    have k := hc _ z
    have b1 := bd_adv ok h1 k.1 k.2.1 k.2.2
    have b2 := hg.x (x := (advS y.1, y.2)) b1.1.1 b1.1.2
    have b3 := lp_gd ok hc hg f ((g (advS y.1, y.2)).1, putA (g (advS y.1, y.2)).2 (cd y.1)) b2.1.1 b2.1.2
    refine Ev.i (st _ _ hd z) (e_go (D.m (b2.2.1.t b3.2.1)) (fun k1 => ?_))
    refine ps y.1 z G _ (advS y.1) y.2 (stF_p k1 (fun w => absurd w.2 (by decide))) b1.1.1 b1.1.2 k1 (D.m b3.2.1) (fun k2 => ?_)
    have p1 := b1.2.2 hd k1
    have p2 := b2.2.2 k1 k2
    exact Ev.q (lg y.1 (advS y.1, y.2) z b1.1.1 b1.1.2 k2) (ih ((g (advS y.1, y.2)).1, putA (g (advS y.1, y.2)).2 (cd y.1)) b2.1.1 b2.1.2 (by dsimp only at p2 ⊢; omega) k2 D K)
theorem e_comp {A : List zTk} {g : zLx → zLx} {cd : zRd → Int} {kd ph pr : Int} {O : List Int} {R : List zFr} (ok : AOk A) (hc : cdK A cd) (hg : Gd A g)
    (st : ∀ s C, effK A s = 0 → cd s ≠ 0 → stp A (s, C, true, (kd, ph, 0, pr, O) :: R) = .inl (advS s, C, false, (kd, ph, 0, pr, cd s :: O) :: R))
    (ps0 : PS A g ((kd, ph, 0, pr, O) :: R))
    (ps : ∀ s0, cd s0 ≠ 0 → PS A g ((kd, ph, 0, pr, cd s0 :: O) :: R))
    (lg : ∀ s0 (x : zLx), cd s0 ≠ 0 → x.1.1 < A.length → 0 ≤ x.1.2.1 → effK A (g x).1 = 0 → stp A ((g x).1, (g x).2, true, (kd, ph, 0, pr, cd s0 :: O) :: R) = stp A ((g x).1, putA (g x).2 (cd s0), true, (kd, ph, 0, pr, O) :: R)) :
    PS A (fun x => lpA cd g 1600 (g x)) ((kd, ph, 0, pr, O) :: R) := by
  intro G c s C hs h1 h2 hd D K
  have b := hg.x (x := (s, C)) h1 h2
  have b2 := lp_gd ok hc hg 1600 (g (s, C)) b.1.1 b.1.2
  have hA := ok.1
  refine ps0 G c s C hs h1 h2 hd (D.m b2.2.1) (fun k => ?_)
  have p := b.2.2 hd k
  exact e_loop ok hc hg st ps lg 1600 (g (s, C)) b.1.1 b.1.2 (by dsimp only at p; omega) k D K
theorem sg_x {A : List zTk} {k x k' x' : Int} {s : zRd} (h : sgS A k x s = true) (h' : sgS A k' x' s = true) : k = k' ∧ x = x' := by
  have g := of_decide_eq_true h
  have g' := of_decide_eq_true h'
  exact ⟨g.1.symm.trans g'.1, g.2.symm.trans g'.2⟩
theorem pdS_v {A : List zTk} {s : zRd} (h : pdS A s ≠ 0) : (sgS A 4 42 s = true ∧ pdS A s = -8) ∨ (sgS A 4 47 s = true ∧ pdS A s = -9) ∨ (sgS A 4 37 s = true ∧ pdS A s = -10) := by
  unfold pdS at h ⊢
  by_cases c1 : sgS A 4 42 s = true
  · exact Or.inl ⟨c1, if_pos c1⟩
  rw [if_neg c1] at h ⊢
  by_cases c2 : sgS A 4 47 s = true
  · exact Or.inr (Or.inl ⟨c2, if_pos c2⟩)
  rw [if_neg c2] at h ⊢
  by_cases c3 : sgS A 4 37 s = true
  · exact Or.inr (Or.inr ⟨c3, if_pos c3⟩)
  rw [if_neg c3] at h
  exact absurd rfl h
theorem smC_v {A : List zTk} {s : zRd} (h : smC A s ≠ 0) : (sgS A 4 43 s = true ∧ smC A s = -6) ∨ (sgS A 4 45 s = true ∧ smC A s = -7) := by
  unfold smC at h ⊢
  by_cases c1 : sgS A 4 43 s = true
  · exact Or.inl ⟨c1, if_pos c1⟩
  rw [if_neg c1] at h ⊢
  by_cases c2 : sgS A 4 45 s = true
  · exact Or.inr ⟨c2, if_pos c2⟩
  rw [if_neg c2] at h
  exact absurd rfl h
theorem smC_p {A : List zTk} {s : zRd} (h : pdS A s ≠ 0) : smC A s = 0 := by
  refine Classical.byContradiction fun w => ?_
  rcases pdS_v h with z | z | z <;> rcases smC_v w with y | y <;> exact absurd (sg_x z.1 y.1).2 (by decide)
theorem rk_pd {A : List zTk} {s : zRd} (h : pdS A s ≠ 0) : rkA (pdS A s) = 6 := by
  rcases pdS_v h with z | z | z <;> rw [z.2] <;> decide
theorem rk_sm {A : List zTk} {s : zRd} (h : smC A s ≠ 0) : rkA (smC A s) = 5 := by
  rcases smC_v h with z | z <;> rw [z.2] <;> decide
theorem e_prod {A : List zTk} {inn : Option (zLx → zLx)} {kd ph pr : Int} {O : List Int} {R : List zFr} (ok : AOk A) (is : InS A (R.length + 1) inn) (hph : ph < 2) (hO : ∀ o ∈ O.head?, rkA o < 6) : PS A (prA A inn) ((kd, ph, 0, pr, O) :: R) := by
  refine e_comp ok pd_K (gd_part ok (fun g z => (is.2.2 g z).2.2.1)) (fun s C hd z => ?_) (e_part ok is rfl) (fun s0 _ => e_part ok is rfl) (fun s0 x z h1 h2 k => stp_lag (fun _ _ => by rw [rk_pd z]; decide) (fun _ _ => by rw [rk_pd z]; decide) (fun _ _ _ => by rw [rk_pd z]; decide) (fun _ _ => by rw [rk_pd z]; decide))
  rw [stp_T hd]
  unfold stT hdF
  dsimp only
  rw [if_neg (fun w => w.2 (smC_p z)), if_pos ⟨hph, z⟩, jn_s hO]
theorem e_summ {A : List zTk} {inn : Option (zLx → zLx)} {kd ph pr : Int} {O : List Int} {R : List zFr} (ok : AOk A) (is : InS A (R.length + 1) inn) (hph : ph < 2) (hO : ∀ o ∈ O.head?, rkA o < 5) : PS A (smmA A inn) ((kd, ph, 0, pr, O) :: R) := by
  have hi : ∀ g, inn = some g → Gd A g := fun g z => (is.2.2 g z).2.2.1
  refine e_comp ok sm_K (gd_prod ok hi) (fun s C hd z => ?_) (e_prod ok is hph (fun o ho => by have := hO o ho; omega)) (fun s0 z => e_prod ok is hph (fun o ho => ?_)) (fun s0 x z h1 h2 k => stp_lag (fun _ _ => by rw [rk_sm z]; decide) (fun _ w => absurd (en_lp ok pd_K (gd_part ok hi) h1 h2 k) w) (fun _ _ _ => by rw [rk_sm z]; decide) (fun _ _ => by rw [rk_sm z]; decide))
  · rw [stp_T hd]
    unfold stT hdF
    dsimp only
    rw [if_pos ⟨hph, z⟩, jn_s hO]
  · have e : smC A s0 = o := Option.some.inj ho
    rw [← e, rk_sm z]
    decide
def inK (A : List zTk) : Nat → Option (zLx → zLx)
  | 0 => none
  | k + 1 => some (sumA A k)
theorem sum_e {A : List zTk} (k : Nat) : sumA A k = smmA A (inK A k) := by cases k <;> rfl
theorem sms_of {A : List zTk} {n : Nat} {inn : Option (zLx → zLx)} (ok : AOk A) (is : InS A (n + 1) inn) : SmS A n (smmA A inn) := by
  intro G kd bg pr R s C hk hR h1 h2 D K
  have b := (gd_summ ok (fun g z => (is.2.2 g z).2.2.1)).x (x := (s, C)) h1 h2
  refine e_go (D.m b.2.1) (fun hd => ?_)
  rw [← hR] at is
  exact e_summ ok is (by decide) hd_n G _ s C (stF_p hd (by omega)) h1 h2 hd D K
theorem ins_all {A : List zTk} (ok : AOk A) : ∀ k, k ≤ 8 → InS A (9 - k) (inK A k) := by
  intro k
  induction k with
  | zero => exact fun _ => ⟨by decide, fun _ => rfl, fun g z => nomatch z⟩
  | succ k ih =>
    intro hk
    refine ⟨by omega, fun z => no_s (show (none : Option (zLx → zLx)) = some (sumA A k) from z.symm), fun g z => ?_⟩
    have e : sumA A k = g := Option.some.inj z
    rw [← e]
    have i := ih (by omega)
    rw [show 9 - k = (9 - (k + 1)) + 1 by omega] at i
    refine ⟨by omega, ?_, gd_sum ok k, ze_sum ok k⟩
    rw [sum_e]
    exact sms_of ok i
