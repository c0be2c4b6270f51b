/-! tests: and, or; the whole -/
theorem e_tloop {A : List zTk} {g : zLx → zLx} {cd : zRd → Int} {kd pr : Int} {O : List Int} {R : List zFr} {G : zLx → Prop} (ok : AOk A) (hc : cdK A cd) (hg : Gd A g)
    (st : ∀ s C ph, effK A s = 0 → PhK A ph s → cd s ≠ 0 → stp A (s, C, true, (kd, ph, 0, pr, O) :: R) = .inl (advS s, C, false, (kd, 0, 1, pr, cd s :: O) :: R))
    (ps : ∀ s0, cd s0 ≠ 0 → PT A g kd pr (cd s0 :: O) R)
    (lg : ∀ s0 (x : zLx) ph, cd s0 ≠ 0 → x.1.1 < A.length → 0 ≤ x.1.2.1 → effK A (g x).1 = 0 → PhK A ph (g x).1 → stp A ((g x).1, (g x).2, true, (kd, ph, 0, pr, cd s0 :: O) :: R) = stp A ((g x).1, putA (g x).2 (cd s0), true, (kd, ph, 0, pr, O) :: R)) :
    ∀ (f : Nat) (y : zLx) (ph : Int), y.1.1 < A.length → 0 ≤ y.1.2.1 → A.length ≤ y.1.1 + f → A.length ≤ y.1.1 + 1600 → effK A y.1 = 0 → PhK A ph y.1 → Dd A G (lpA cd g f y).1 → (∀ ph, effK A (lpA cd g f y).1 = 0 → PhK A ph (lpA cd g f y).1 → Ev A ((lpA cd g f y).1, (lpA cd g f y).2, true, (kd, ph, 0, pr, O) :: R) G) → Ev A (y.1, y.2, true, (kd, ph, 0, pr, O) :: R) G := by
  intro f
  induction f with
  | zero => exact fun y ph h1 h2 h3 => absurd h1 (by omega)
  | succ f ih =>
    intro y ph h1 h2 h3 h4 hd hp D K
    rw [lpA] at D K
    by_cases z : cd y.1 = 0
    · rw [if_pos z] at D K
      exact K ph hd hp
    rw [if_neg z] at D K
    have k := hc _ z
    have ea : (advS y.1).1 = y.1.1 + 1 := by rw [adv_e k.1]
    have b1 := bd_adv ok h1 k.1 k.2.1 k.2.2
    have b2 := hg.x (x := (advS y.1, y.2)) b1.1.1 b1.1.2
    have b3 := lp_gd ok hc hg f ((g (advS y.1, y.2)).1, putA (g (advS y.1, y.2)).2 (cd y.1)) b2.1.1 b2.1.2
    refine Ev.i (st _ _ ph hd hp z) (ps y.1 z G (advS y.1) y.2 b1.1.1 b1.1.2 (by omega) (D.m b3.2.1) (fun ph2 k2 hp2 => ?_))
    have p2 := b2.2.2 (b2.l k2) k2
    exact Ev.q (lg y.1 (advS y.1, y.2) ph2 z b1.1.1 b1.1.2 k2 hp2) (ih ((g (advS y.1, y.2)).1, putA (g (advS y.1, y.2)).2 (cd y.1)) ph2 b2.1.1 b2.1.2 (by dsimp only at p2 ⊢; omega) (by dsimp only at p2 ⊢; omega) k2 hp2 D K)
theorem e_tcomp {A : List zTk} {g : zLx → zLx} {cd : zRd → Int} {kd pr : Int} {O : List Int} {R : List zFr} (ok : AOk A) (hc : cdK A cd) (hg : Gd A g)
    (st : ∀ s C ph, effK A s = 0 → PhK A ph s → cd s ≠ 0 → stp A (s, C, true, (kd, ph, 0, pr, O) :: R) = .inl (advS s, C, false, (kd, 0, 1, pr, cd s :: O) :: R))
    (ps0 : PT A g kd pr O R)
    (ps : ∀ s0, cd s0 ≠ 0 → PT A g kd pr (cd s0 :: O) R)
    (lg : ∀ s0 (x : zLx) ph, cd s0 ≠ 0 → x.1.1 < A.length → 0 ≤ x.1.2.1 → effK A (g x).1 = 0 → PhK A ph (g x).1 → stp A ((g x).1, (g x).2, true, (kd, ph, 0, pr, cd s0 :: O) :: R) = stp A ((g x).1, putA (g x).2 (cd s0), true, (kd, ph, 0, pr, O) :: R)) :
    PT A (fun x => lpA cd g 1600 (g x)) kd pr O R := by
  intro G s C h1 h2 h3 D K
  have b := hg.x (x := (s, C)) h1 h2
  have b2 := lp_gd ok hc hg 1600 (g (s, C)) b.1.1 b.1.2
  refine ps0 G s C h1 h2 h3 (D.m b2.2.1) (fun ph k hp => ?_)
  have p := b.2.2 (b.l k) k
  exact e_tloop ok hc hg st ps lg 1600 (g (s, C)) ph b.1.1 b.1.2 (by dsimp only at p; omega) (by dsimp only at p; omega) k hp D K
theorem an_v {A : List zTk} {s : zRd} (h : anC A s ≠ 0) : sgS A 2 19 s = true ∧ anC A s = -16 := by
  have c : sgS A 2 19 s = true := Classical.byContradiction fun w => h (an_0.2 w)
  exact ⟨c, by unfold anC; rw [if_pos c]⟩
theorem or_v {A : List zTk} {s : zRd} (h : orC A s ≠ 0) : sgS A 2 18 s = true ∧ orC A s = -17 := by
  have c : sgS A 2 18 s = true := Classical.byContradiction fun w => h (or_0.2 w)
  exact ⟨c, by unfold orC; rw [if_pos c]⟩
theorem e_both {A : List zTk} {inS inn : Option (zLx → zLx)} {kd pr : Int} {O : List Int} {R : List zFr} (ok : AOk A) (is : InS A (R.length + 1) inS) (it : InT A (R.length + 1) inn) (hk : kd = 1 ∨ kd = 5) (hO : ∀ o ∈ O.head?, rkA o < 2) : PT A (boB A (smmA A inS) inn) kd pr O R := by
  have gf := gd_ft (inn := inn) ok (gd_summ ok (fun g z => (is.2.2 g z).2.2.1)) (fun g z => (it.2.2 g z).2.2.1)
  refine e_tcomp ok an_K gf (fun s C ph hd hp z => ?_) (e_fact ok is it hk (fun o ho => by have := hO o ho; omega)) (fun s0 z => e_fact ok is it hk (fun o ho => ?_)) (fun s0 x ph z h1 h2 k hp => lag_t hp (fun _ => by rw [(an_v z).2]; decide))
  · have a := hp.a
    rw [stp_T hd]
    unfold stT hdF
    dsimp only
    rw [if_neg a.2.1, if_neg a.2.2, if_neg (fun w => a.1 w.2.1), if_pos ⟨hk, (an_v z).1⟩, if_neg a.1, jn_s hO, (an_v z).2]
  · have eo : anC A s0 = o := Option.some.inj ho
    rw [← eo, (an_v z).2]
    decide
theorem e_test {A : List zTk} {inS inn : Option (zLx → zLx)} {kd pr : Int} {R : List zFr} (ok : AOk A) (is : InS A (R.length + 1) inS) (it : InT A (R.length + 1) inn) (hk : kd = 1 ∨ kd = 5) : PT A (tsB A (smmA A inS) inn) kd pr [] R := by
  have g1 := gd_summ (inn := inS) ok (fun g z => (is.2.2 g z).2.2.1)
  have g2 : ∀ g, inn = some g → Gd A g := fun g z => (it.2.2 g z).2.2.1
  refine e_tcomp ok or_K (gd_bo ok g1 g2) (fun s C ph hd hp z => ?_) (e_both ok is it hk hd_n) (fun s0 z => e_both ok is it hk (fun o ho => ?_)) (fun s0 x ph z h1 h2 k hp => lag_t hp (fun w => absurd w (ze_bo ok g1 g2 h1 h2 k)))
  · have a := hp.a
    rw [stp_T hd]
    unfold stT hdF
    dsimp only
    rw [if_neg a.2.1, if_neg a.2.2, if_neg (fun w => a.1 w.2.1), if_neg (fun w => absurd (sg_x w.2 (or_v z).1).2 (by decide)), if_pos ⟨hk, (or_v z).1⟩, if_neg a.1, (or_v z).2]
    rfl
  · have eo : orC A s0 = o := Option.some.inj ho
    rw [← eo, (or_v z).2]
    decide
def inT (A : List zTk) : Nat → Option (zLx → zLx)
  | 0 => none
  | k + 1 => some (testB A k)
theorem test_e {A : List zTk} (k : Nat) : testB A k = tsB A (smmA A (inK A k)) (inT A k) := by cases k <;> rfl
theorem int_all {A : List zTk} (ok : AOk A) : ∀ k, k ≤ 8 → InT A (9 - k) (inT A k) := by
  intro k
  induction k with
  | zero => exact fun _ => ⟨by decide, fun _ => rfl, fun g z => nomatch z⟩
  | succ k ih =>
    intro hk
    refine ⟨by omega, fun z => no_s (show (none : Option (zLx → zLx)) = some (testB A k) from z.symm), fun g z => ?_⟩
    have e : testB A k = g := Option.some.inj z
    rw [← e]
    have i := ih (by omega)
    have is := ins_all ok k (by omega)
    refine ⟨by omega, fun R hR => ?_, gd_tst ok k, zt_tst ok k⟩
    rw [show 9 - k = R.length + 1 by omega] at i is
    rw [test_e]
    exact e_test ok is i (Or.inr rfl)
/-- the end of the machine against that of the class -/
def Gq (A : List zTk) (y r : zLx) : Prop := (effK A y.1 = 0 → r = y) ∧ (effK A y.1 ≠ 0 → effK A r.1 = effK A y.1 ∧ effP A r.1 = effP A y.1)
theorem Gq.d {A : List zTk} {y : zLx} : Dd A (Gq A y) y.1 := fun z r r1 r2 => ⟨fun w => absurd w z, fun _ => ⟨r1, r2⟩⟩
theorem ev_sum {A : List zTk} {s : zRd} {C : List Int} (ok : AOk A) (h1 : s.1 < A.length) (h2 : 0 ≤ s.2.1) : Ev A (s, C, false, [(0, 0, 1, 0, [])]) (Gq A (sumA A 8 (s, C))) := by
  have is := ins_all ok 8 (by decide)
  have b := (gd_sum ok 8).x (x := (s, C)) h1 h2
  refine e_go (Gq.d.m b.2.1) (fun hd => ?_)
  rw [sum_e]
  refine e_summ (R := []) ok is (by decide) hd_n _ _ s C (stF_p hd (by decide)) h1 h2 hd Gq.d (fun k => ?_)
  have ze := ze_summ ok (fun g z => (is.2.2 g z).2.2.1) (s, C) h1 h2 k
  have e := (stp_T (C := (smmA A (inK A 8) (s, C)).2) (f := (0, 0, 0, 0, [])) (R := []) k).trans (stT_n ze.1 ze.2 (by decide))
  rw [if_pos (by decide)] at e
  exact Ev.r e ⟨fun _ => rfl, fun w => absurd k w⟩
theorem ev_test {A : List zTk} {s : zRd} {C : List Int} (ok : AOk A) (h1 : s.1 < A.length) (h2 : 0 ≤ s.2.1) (h3 : 1 ≤ s.1) : Ev A (s, C, false, [(1, 0, 1, 0, [])]) (Gq A (testB A 8 (s, C))) := by
  have is := ins_all ok 8 (by decide)
  have it := int_all ok 8 (by decide)
  have zt := zt_tst ok 8 (s, C) h1 h2
  have hA := ok.1
  rw [test_e] at zt ⊢
  refine e_test (R := []) ok is it (Or.inl rfl) _ s C h1 h2 (by omega) Gq.d (fun ph k hp => ?_)
  have e := (stp_T (C := (tsB A (smmA A (inK A 8)) (inT A 8) (s, C)).2) (f := (1, ph, 0, 0, [])) (R := []) k).trans (stT_t (Or.inl rfl) hp (zt k))
  rw [if_pos (by decide)] at e
  exact Ev.r e ⟨fun _ => rfl, fun w => absurd k w⟩
