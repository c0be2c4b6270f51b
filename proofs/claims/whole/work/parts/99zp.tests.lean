/-! the machine reads tests as the class does, but for NOT, which it puts each time -/
def ntN (A : List zTk) : Nat → zRd → Nat × zRd
  | 0, s => (0, s)
  | f + 1, s => if sgS A 2 20 s = true then ((ntN A f (advS s)).1 + 1, (ntN A f (advS s)).2) else (0, s)
def pnA : Nat → List Int → List Int
  | 0, C => C
  | n + 1, C => pnA n (putA C (-18))
def anC (A : List zTk) (s : zRd) : Int := if sgS A 2 19 s = true then -16 else 0
def orC (A : List zTk) (s : zRd) : Int := if sgS A 2 18 s = true then -17 else 0
def ftB (A : List zTk) (sum : zLx → zLx) (inner : Option (zLx → zLx)) (x : zLx) : zLx := ((f1A A sum inner ((ntN A 1600 x.1).2, x.2)).1, pnA (ntN A 1600 x.1).1 (f1A A sum inner ((ntN A 1600 x.1).2, x.2)).2)
def boB (A : List zTk) (sum : zLx → zLx) (inner : Option (zLx → zLx)) (x : zLx) : zLx := lpA (anC A) (ftB A sum inner) 1600 (ftB A sum inner x)
def tsB (A : List zTk) (sum : zLx → zLx) (inner : Option (zLx → zLx)) (x : zLx) : zLx := lpA (orC A) (boB A sum inner) 1600 (boB A sum inner x)
def testB (A : List zTk) : Nat → zLx → zLx
  | 0 => tsB A (sumA A 0) none
  | k + 1 => tsB A (sumA A (k + 1)) (some (testB A k))
theorem pn_c : ∀ (n : Nat) (C : List Int), pnA (n + 1) C = putA (pnA n C) (-18)
  | 0, _ => rfl
  | n + 1, C => pn_c n (putA C (-18))
theorem an_K {A : List zTk} : cdK A (anC A) := by
  intro s h
  unfold anC at h
  by_cases c : sgS A 2 19 s = true
  · exact ⟨(sg_k (by decide) c).1, by rw [(sg_k (by decide) c).2.1]; decide, by rw [(sg_k (by decide) c).2.1]; decide⟩
  · rw [if_neg c] at h; exact absurd rfl h
theorem or_K {A : List zTk} : cdK A (orC A) := by
  intro s h
  unfold orC at h
  by_cases c : sgS A 2 18 s = true
  · exact ⟨(sg_k (by decide) c).1, by rw [(sg_k (by decide) c).2.1]; decide, by rw [(sg_k (by decide) c).2.1]; decide⟩
  · rw [if_neg c] at h; exact absurd rfl h
theorem cm_e {A : List zTk} {s : zRd} : (cmC A s).1 = cmA A s ∧ (cmC A s).2 = if cmA A s = 0 then dS A s else advS s := by
  have z : advS (flS 1 (unf (tkI A s.1)) s) = dS A s := by
    have w : (flS 1 (unf (tkI A s.1)) s).2.1 ≠ 0 := flS_z (by decide)
    unfold advS
    rw [if_neg w]
    rfl
  unfold cmC cmA
  by_cases c1 : sgS A 4 60 s = true
  · rw [if_pos c1, if_pos c1, if_neg (show ¬ (-13 : Int) = 0 by decide)]; exact ⟨rfl, rfl⟩
  rw [if_neg c1, if_neg c1]
  by_cases c2 : sgS A 4 62 s = true
  · rw [if_pos c2, if_pos c2, if_neg (show ¬ (-14 : Int) = 0 by decide)]; exact ⟨rfl, rfl⟩
  rw [if_neg c2, if_neg c2]
  by_cases c3 : sgS A 4 61 s = true
  · rw [if_pos c3, if_pos c3, if_neg (show ¬ (-15 : Int) = 0 by decide)]; exact ⟨rfl, rfl⟩
  rw [if_neg c3, if_neg c3, if_pos rfl]
  exact ⟨rfl, z⟩
theorem cmA_v {A : List zTk} {s : zRd} (h : cmA A s ≠ 0) : (sgS A 4 60 s = true ∨ sgS A 4 62 s = true ∨ sgS A 4 61 s = true) ∧ rkA (cmA A s) = 4 := by
  unfold cmA at h ⊢
  by_cases c1 : sgS A 4 60 s = true
  · rw [if_pos c1]; exact ⟨Or.inl c1, by decide⟩
  rw [if_neg c1] at h ⊢
  by_cases c2 : sgS A 4 62 s = true
  · rw [if_pos c2]; exact ⟨Or.inr (Or.inl c2), by decide⟩
  rw [if_neg c2] at h ⊢
  by_cases c3 : sgS A 4 61 s = true
  · rw [if_pos c3]; exact ⟨Or.inr (Or.inr c3), by decide⟩
  rw [if_neg c3] at h
  exact absurd rfl h
theorem bd_cm {A : List zTk} {s : zRd} (ok : AOk A) (h1 : s.1 < A.length) (h2 : 0 ≤ s.2.1) : Bd A 1 s (cmC A s).2 := by
  rw [cm_e.2]
  by_cases z : cmA A s = 0
  · rw [if_pos z]; exact bd_dS h1 h2
  · rw [if_neg z]
    rcases (cmA_v z).1 with c | c | c <;> exact bd_sg ok h1 (by decide) (by decide) c
theorem gd_f1 {A : List zTk} {sum : zLx → zLx} {inn : Option (zLx → zLx)} (ok : AOk A) (hs : Gd A sum) (hi : ∀ g, inn = some g → Gd A g) : Gd A (f1A A sum inn) := by
  intro s C h1 h2
  unfold f1A
  dsimp only
  by_cases c1 : sgS A 4 91 s = true
  · rw [if_pos c1]
    cases inn with
    | none => exact bd_f5 h1 (sg_a (by decide) c1)
    | some g =>
      have hg := hi g rfl
      have b2 := bd_sg ok h1 (by decide) (by decide) c1
      have b3 := b2.t (hg.x (x := (advS s, C)) b2.1.1 b2.1.2)
      exact (b3.t (bd_nd (k := 4) (x := 93) ok b3.1.1 b3.1.2 (by decide) (by decide))).w (by decide)
  rw [if_neg c1]
  by_cases c2 : sgS A 2 21 s = true
  · rw [if_pos c2]; exact bd_sg ok h1 (by decide) (by decide) c2
  rw [if_neg c2]
  have b1 := hs.x (x := (s, C)) h1 h2
  have b2 := b1.t (bd_cm ok b1.1.1 b1.1.2)
  exact (b2.t (hs.x (x := ((cmC A (sum (s, C)).1).2, (sum (s, C)).2)) b2.1.1 b2.1.2)).w (by decide)
theorem bd_nt {A : List zTk} (ok : AOk A) : ∀ (f : Nat) (s : zRd), s.1 < A.length → 0 ≤ s.2.1 → Bd A 0 s (ntN A f s).2 := by
  intro f
  induction f with
  | zero => exact fun s h1 h2 => Bd.rf h1 h2
  | succ f ih =>
    intro s h1 h2
    rw [ntN]
    by_cases c : sgS A 2 20 s = true
    · rw [if_pos c]
      have b := bd_sg ok h1 (by decide) (by decide) c
      exact (b.t (ih _ b.1.1 b.1.2)).w (by omega)
    · rw [if_neg c]; exact Bd.rf h1 h2
theorem gd_ft {A : List zTk} {sum : zLx → zLx} {inn : Option (zLx → zLx)} (ok : AOk A) (hs : Gd A sum) (hi : ∀ g, inn = some g → Gd A g) : Gd A (ftB A sum inn) := by
  intro s C h1 h2
  have b := bd_nt ok 1600 s h1 h2
  exact (b.t ((gd_f1 ok hs hi).x (x := ((ntN A 1600 s).2, C)) b.1.1 b.1.2)).w (by decide)
theorem gd_bo {A : List zTk} {sum : zLx → zLx} {inn : Option (zLx → zLx)} (ok : AOk A) (hs : Gd A sum) (hi : ∀ g, inn = some g → Gd A g) : Gd A (boB A sum inn) := gd_lp ok an_K (gd_ft ok hs hi) 1600
theorem gd_ts {A : List zTk} {sum : zLx → zLx} {inn : Option (zLx → zLx)} (ok : AOk A) (hs : Gd A sum) (hi : ∀ g, inn = some g → Gd A g) : Gd A (tsB A sum inn) := gd_lp ok or_K (gd_bo ok hs hi) 1600
theorem gd_tst {A : List zTk} (ok : AOk A) : ∀ k, Gd A (testB A k)
  | 0 => gd_ts ok (gd_sum ok 0) (fun g z => nomatch z)
  | k + 1 => gd_ts ok (gd_sum ok (k + 1)) (fun g z => by have e := Option.some.inj z; rw [← e]; exact gd_tst ok k)
theorem an_0 {A : List zTk} {s : zRd} : anC A s = 0 ↔ ¬ sgS A 2 19 s = true := by
  unfold anC
  by_cases c : sgS A 2 19 s = true
  · rw [if_pos c]; exact ⟨fun z => absurd z (by decide), fun z => absurd c z⟩
  · rw [if_neg c]; exact ⟨fun _ => c, fun _ => rfl⟩
theorem or_0 {A : List zTk} {s : zRd} : orC A s = 0 ↔ ¬ sgS A 2 18 s = true := by
  unfold orC
  by_cases c : sgS A 2 18 s = true
  · rw [if_pos c]; exact ⟨fun z => absurd z (by decide), fun z => absurd c z⟩
  · rw [if_neg c]; exact ⟨fun _ => c, fun _ => rfl⟩
def ZT (A : List zTk) (g : zLx → zLx) : Prop := ∀ x : zLx, x.1.1 < A.length → 0 ≤ x.1.2.1 → effK A (g x).1 = 0 → ¬ sgS A 2 18 (g x).1 = true ∧ ¬ sgS A 2 19 (g x).1 = true
theorem ze_bo {A : List zTk} {sum : zLx → zLx} {inn : Option (zLx → zLx)} (ok : AOk A) (hs : Gd A sum) (hi : ∀ g, inn = some g → Gd A g) {x : zLx} (h1 : x.1.1 < A.length) (h2 : 0 ≤ x.1.2.1) (h : effK A (boB A sum inn x).1 = 0) : ¬ sgS A 2 19 (boB A sum inn x).1 = true := an_0.1 (en_lp ok an_K (gd_ft ok hs hi) h1 h2 h)
theorem zt_ts {A : List zTk} {sum : zLx → zLx} {inn : Option (zLx → zLx)} (ok : AOk A) (hs : Gd A sum) (hi : ∀ g, inn = some g → Gd A g) : ZT A (tsB A sum inn) := by
  intro x h1 h2 h
  have b := (gd_bo ok hs hi).x h1 h2
  exact ⟨or_0.1 (en_lp ok or_K (gd_bo ok hs hi) h1 h2 h), lp_last (P := fun s => ¬ sgS A 2 19 s = true) ok or_K (gd_bo ok hs hi) (fun x h1 h2 h => ze_bo ok hs hi h1 h2 h) 1600 (boB A sum inn x) b.1.1 b.1.2 (fun w => ze_bo ok hs hi h1 h2 w) h⟩
theorem zt_tst {A : List zTk} (ok : AOk A) : ∀ k, ZT A (testB A k)
  | 0 => zt_ts ok (gd_sum ok 0) (fun g z => nomatch z)
  | k + 1 => zt_ts ok (gd_sum ok (k + 1)) (fun g z => by have e := Option.some.inj z; rw [← e]; exact gd_tst ok k)
/-! the simulation -/
def PhK (A : List zTk) (ph : Int) (s : zRd) : Prop := ph = 2 ∨ (ph = 1 ∧ smC A s = 0 ∧ pdS A s = 0)
theorem PhK.a {A : List zTk} {ph : Int} {s : zRd} (h : PhK A ph s) : ¬ ph = 0 ∧ ¬ (ph < 2 ∧ smC A s ≠ 0) ∧ ¬ (ph < 2 ∧ pdS A s ≠ 0) := by
  rcases h with h | h
  · exact ⟨by omega, fun z => absurd z.1 (by omega), fun z => absurd z.1 (by omega)⟩
  · exact ⟨by omega, fun z => z.2 h.2.1, fun z => z.2 h.2.2⟩
def PT (A : List zTk) (g : zLx → zLx) (kd pr : Int) (O : List Int) (R : List zFr) : Prop := ∀ (G : zLx → Prop) (s : zRd) (C : List Int), s.1 < A.length → 0 ≤ s.2.1 → A.length ≤ s.1 + 1600 → Dd A G (g (s, C)).1 → (∀ ph, effK A (g (s, C)).1 = 0 → PhK A ph (g (s, C)).1 → Ev A ((g (s, C)).1, (g (s, C)).2, true, (kd, ph, 0, pr, O) :: R) G) → Ev A (s, C, false, (kd, 0, 1, pr, O) :: R) G
def InT (A : List zTk) (m : Nat) (inn : Option (zLx → zLx)) : Prop := 1 ≤ m ∧ (inn = none → m = 9) ∧ ∀ g, inn = some g → m < 9 ∧ (∀ R : List zFr, R.length = m → PT A g 5 0 [] R) ∧ Gd A g ∧ ZT A g
theorem stT_t {A : List zTk} {s : zRd} {C : List Int} {kd ph bg pr : Int} {O : List Int} {R : List zFr} (hk : kd = 1 ∨ kd = 5) (hp : PhK A ph s) (hz : ¬ sgS A 2 18 s = true ∧ ¬ sgS A 2 19 s = true) : stT A s C (kd, ph, bg, pr, O) R = (if kd < 2 then .inr (s, (jnA 1 O C).2) else if sgS A 4 93 s = true then clsF s (jnA 1 O C).2 (kd, ph, bg, pr, O) R else .inr (dS A s, [])) := by
  have a := hp.a
  unfold stT
  dsimp only
  rw [if_neg a.2.1, if_neg a.2.2, if_neg (fun z => a.1 z.2.1), if_neg (fun z => hz.2 z.2), if_neg (fun z => hz.1 z.2), if_neg (fun z => a.1 z.2)]
  by_cases z : kd < 2
  · rw [if_pos z, if_pos z]
  · rw [if_neg z, if_neg z, if_neg (show ¬ kd = 3 by omega), if_pos (show kd = 5 by omega)]
theorem lag_t {A : List zTk} {s : zRd} {C : List Int} {kd ph pr o : Int} {O : List Int} {R : List zFr} (hp : PhK A ph s) (k4 : sgS A 2 19 s = true → 2 ≤ rkA o) : stp A (s, C, true, (kd, ph, 0, pr, o :: O) :: R) = stp A (s, putA C o, true, (kd, ph, 0, pr, O) :: R) :=
  stp_lag (fun z w => absurd ⟨z, w⟩ hp.a.2.1) (fun z w => absurd ⟨z, w⟩ hp.a.2.2) (fun _ z => absurd z hp.a.1) (fun _ => k4)
theorem e_f1 {A : List zTk} {inS inn : Option (zLx → zLx)} {kd pr : Int} {O : List Int} {R : List zFr} {G : zLx → Prop} {s : zRd} {C : List Int} (ok : AOk A) (is : InS A (R.length + 1) inS) (it : InT A (R.length + 1) inn) (hk : kd = 1 ∨ kd = 5) (hO : ∀ o ∈ O.head?, rkA o < 5) (h1 : s.1 < A.length) (h2 : 0 ≤ s.2.1) (h3 : A.length ≤ s.1 + 1600) (hd : effK A s = 0) (hn : ¬ sgS A 2 20 s = true)
    (D : Dd A G (f1A A (smmA A inS) inn (s, C)).1) (K : ∀ ph, effK A (f1A A (smmA A inS) inn (s, C)).1 = 0 → PhK A ph (f1A A (smmA A inS) inn (s, C)).1 → Ev A ((f1A A (smmA A inS) inn (s, C)).1, (f1A A (smmA A inS) inn (s, C)).2, true, (kd, ph, 0, pr, O) :: R) G) : Ev A (s, C, false, (kd, 0, 1, pr, O) :: R) G := by
  have hi : ∀ g, inS = some g → Gd A g := fun g z => (is.2.2 g z).2.2.1
  have gs := gd_summ ok hi
  have e : stp A (s, C, false, (kd, 0, 1, pr, O) :: R) = _ := stp_F hd
  unfold stpF at e
  dsimp only at e
  rw [if_pos ⟨hk, rfl⟩, if_neg hn] at e
  by_cases c1 : sgS A 4 91 s = true
  · rw [if_pos c1] at e
    have ea : f1A A (smmA A inS) inn (s, C) = opA A inn (fun y => (ndS A 4 93 y.1, y.2)) (s, C) := by unfold f1A; rw [if_pos c1]
    rw [ea] at D K
    obtain ⟨m1, it0, it1⟩ := it
    cases inn with
    | none => exact Ev.r (r := (flS 5 (tkI A s.1).2.1 s, [])) (e.trans (by unfold opF; rw [if_pos (show ((kd, 0, 0, pr, O) :: R : List zFr).length = 9 from it0 rfl)])) (D (by show effK A (flS 5 (tkI A s.1).2.1 s) ≠ 0; rw [(flS_e hd (by decide)).1]; decide) _ rfl rfl)
    | some g =>
      obtain ⟨m9, tg, gg, zg⟩ := it1 g rfl
      have e' := e.trans (show opF A s C 5 0 ((kd, 0, 0, pr, O) :: R) = .inl (advS s, C, false, (5, 0, 1, 0, []) :: (kd, 0, 0, pr, O) :: R) by unfold opF; rw [if_neg (show ¬ ((kd, 0, 0, pr, O) :: R : List zFr).length = 9 by show ¬ R.length + 1 = 9; omega)])
      have D' : Dd A G (ndS A 4 93 (g (advS s, C)).1) := D
      have K' : ∀ ph, effK A (ndS A 4 93 (g (advS s, C)).1) = 0 → PhK A ph (ndS A 4 93 (g (advS s, C)).1) → Ev A (ndS A 4 93 (g (advS s, C)).1, (g (advS s, C)).2, true, (kd, ph, 0, pr, O) :: R) G := K
      have b2 := bd_sg ok h1 (by decide) (by decide) c1
      have b3 := gg.x (x := (advS s, C)) b2.1.1 b2.1.2
      have b4 := bd_nd (k := 4) (x := 93) ok b3.1.1 b3.1.2 (by decide) (by decide)
      have ea : (advS s).1 = s.1 + 1 := by rw [adv_e (sg_k (by decide) c1).1]
      refine Ev.i e' (tg ((kd, 0, 0, pr, O) :: R) rfl G (advS s) C b2.1.1 b2.1.2 (by omega) (D'.m b4.2.1) (fun ph k1 hp => ?_))
      have zt := zg _ b2.1.1 b2.1.2 k1
      have f := (stp_T (C := (g (advS s, C)).2) (f := (5, ph, 0, 0, [])) (R := (kd, 0, 0, pr, O) :: R) k1).trans (stT_t (Or.inr rfl) hp zt)
      rw [if_neg (by decide)] at f
      by_cases z : sgS A 4 93 (g (advS s, C)).1 = true
      · rw [if_pos z] at f
        have en : ndS A 4 93 (g (advS s, C)).1 = advS (g (advS s, C)).1 := by unfold ndS; rw [if_pos z]
        rw [en] at D' K'
        exact Ev.i (c' := (advS (g (advS s, C)).1, (g (advS s, C)).2, true, (kd, 2, 0, pr, O) :: R)) f (e_go D' (fun k2 => K' 2 k2 (Or.inl rfl)))
      · rw [if_neg z] at f
        have en : ndS A 4 93 (g (advS s, C)).1 = dS A (g (advS s, C)).1 := by unfold ndS; rw [if_neg z]; rfl
        rw [en] at D'
        exact Ev.r f (D'.n k1)
  rw [if_neg c1] at e
  by_cases c2 : sgS A 2 21 s = true
  · rw [if_pos c2] at e
    have ea : f1A A (smmA A inS) inn (s, C) = (advS s, putA C 1) := by unfold f1A; rw [if_neg c1, if_pos c2]
    rw [ea] at D K
    exact Ev.i e (e_go D (fun k => K 2 k (Or.inl rfl)))
  rw [if_neg c2] at e
  have ea : f1A A (smmA A inS) inn (s, C) = ((smmA A inS ((cmC A (smmA A inS (s, C)).1).2, (smmA A inS (s, C)).2)).1, putA (smmA A inS ((cmC A (smmA A inS (s, C)).1).2, (smmA A inS (s, C)).2)).2 (cmC A (smmA A inS (s, C)).1).1) := by unfold f1A; rw [if_neg c1, if_neg c2]
  rw [ea] at D K
  clear ea
  have b1 := gs.x (x := (s, C)) h1 h2
  have b2 := bd_cm ok b1.1.1 b1.1.2
  have b3 := gs.x (x := ((cmC A (smmA A inS (s, C)).1).2, (smmA A inS (s, C)).2)) b2.1.1 b2.1.2
  refine e_summ ok is (by decide) hO G _ s C e h1 h2 hd (D.m (b2.2.1.t b3.2.1)) (fun k1 => ?_)
  have ze := ze_summ ok hi (s, C) h1 h2 k1
  have ze' : ∀ x : zLx, x.1.1 < A.length → 0 ≤ x.1.2.1 → effK A (smmA A inS x).1 = 0 → smC A (smmA A inS x).1 = 0 ∧ pdS A (smmA A inS x).1 = 0 := fun x h1 h2 h => ze_summ ok hi x h1 h2 h
  generalize smmA A inS (s, C) = y at D K b1 b2 b3 k1 ze ⊢
  have f := stp_T (C := y.2) (f := (kd, 0, 0, pr, O)) (R := R) k1
  unfold stT at f
  dsimp only at f
  rw [if_neg (fun z => z.2 ze.1), if_neg (fun z => z.2 ze.2)] at f
  by_cases z : cmA A y.1 = 0
  · have en : (cmC A y.1).2 = dS A y.1 := by rw [cm_e.2, if_pos z]
    rw [en] at D b3
    have f' : stp A (y.1, y.2, true, (kd, 0, 0, pr, O) :: R) = .inr (dS A y.1, []) := by
      rw [f, if_neg (fun w => w.2.2 z)]
      by_cases z1 : sgS A 2 19 y.1 = true
      · rw [if_pos ⟨hk, z1⟩, if_pos rfl]
      rw [if_neg (fun w => z1 w.2)]
      by_cases z2 : sgS A 2 18 y.1 = true
      · rw [if_pos ⟨hk, z2⟩, if_pos rfl]
      rw [if_neg (fun w => z2 w.2), if_pos ⟨hk, rfl⟩]
    exact Ev.r f' ((D.m b3.2.1).n k1)
  · have en : (cmC A y.1).2 = advS y.1 := by rw [cm_e.2, if_neg z]
    have e1 : (cmC A y.1).1 = cmA A y.1 := cm_e.1
    rw [en] at D b2 b3
    rw [en, e1] at K
    rw [if_pos ⟨hk, rfl, z⟩, jn_s hO] at f
    refine Ev.i (c' := (advS y.1, y.2, false, (kd, 1, 0, pr, cmA A y.1 :: O) :: R)) f (e_go (D.m b3.2.1) (fun k2 => ?_))
    refine e_summ ok is (show (1 : Int) < 2 by decide) (fun o ho => ?_) G _ (advS y.1) y.2 (stF_p k2 (fun w => absurd w.2 (by decide))) b2.1.1 b2.1.2 k2 D (fun k3 => ?_)
    · have eo : cmA A y.1 = o := Option.some.inj ho
      rw [← eo, (cmA_v z).2]
      decide
    · have ph : PhK A 1 (smmA A inS (advS y.1, y.2)).1 := Or.inr ⟨rfl, ze' (advS y.1, y.2) b2.1.1 b2.1.2 k3⟩
      exact Ev.q (lag_t ph (fun _ => by rw [(cmA_v z).2]; decide)) (K 1 k3 ph)
theorem e_fact0 {A : List zTk} {inS inn : Option (zLx → zLx)} {kd pr : Int} {R : List zFr} {G : zLx → Prop} (ok : AOk A) (is : InS A (R.length + 1) inS) (it : InT A (R.length + 1) inn) (hk : kd = 1 ∨ kd = 5) : ∀ (f : Nat) (s : zRd) (C : List Int) (O : List Int), (∀ o ∈ O.head?, rkA o < 5) → s.1 < A.length → 0 ≤ s.2.1 → A.length ≤ s.1 + f → A.length ≤ s.1 + 1600 →
    Dd A G (f1A A (smmA A inS) inn ((ntN A f s).2, C)).1 → (∀ ph, effK A (f1A A (smmA A inS) inn ((ntN A f s).2, C)).1 = 0 → PhK A ph (f1A A (smmA A inS) inn ((ntN A f s).2, C)).1 → Ev A ((f1A A (smmA A inS) inn ((ntN A f s).2, C)).1, pnA (ntN A f s).1 (f1A A (smmA A inS) inn ((ntN A f s).2, C)).2, true, (kd, ph, 0, pr, O) :: R) G) → Ev A (s, C, false, (kd, 0, 1, pr, O) :: R) G := by
  intro f
  induction f with
  | zero => exact fun s C O hO h1 h2 h3 => absurd h1 (by omega)
  | succ f ih =>
    intro s C O hO h1 h2 h3 h4 D K
    have hg := gd_f1 (inn := inn) ok (gd_summ ok (fun g z => (is.2.2 g z).2.2.1)) (fun g z => (it.2.2 g z).2.2.1)
    have bn := bd_nt ok (f + 1) s h1 h2
    have bf := hg.x (x := ((ntN A (f + 1) s).2, C)) bn.1.1 bn.1.2
    refine e_go (D.m (bn.2.1.t bf.2.1)) (fun hd => ?_)
    clear bf bn
    rw [ntN] at D K
    by_cases c : sgS A 2 20 s = true
    · rw [if_pos c] at D K
      have b := bd_sg ok h1 (by decide) (by decide) c
      have e : stp A (s, C, false, (kd, 0, 1, pr, O) :: R) = .inl (advS s, C, false, (kd, 0, 1, pr, -18 :: O) :: R) := by
        rw [stp_F hd]
        unfold stpF
        dsimp only
        rw [if_pos ⟨hk, rfl⟩, if_pos c]
      have ea : (advS s).1 = s.1 + 1 := by rw [adv_e (sg_k (by decide) c).1]
      refine Ev.i e (ih (advS s) C (-18 :: O) (fun o ho => ?_) b.1.1 b.1.2 (by omega) (by omega) D (fun ph k hp => ?_))
      · have eo : (-18 : Int) = o := Option.some.inj ho
        rw [← eo]
        decide
      · have k' := K ph k hp
        dsimp only at k'
        rw [pn_c] at k'
        exact Ev.q (lag_t hp (fun _ => by decide)) k'
    · rw [if_neg c] at D K
      exact e_f1 ok is it hk hO h1 h2 h4 hd c D K
theorem e_fact {A : List zTk} {inS inn : Option (zLx → zLx)} {kd pr : Int} {O : List Int} {R : List zFr} (ok : AOk A) (is : InS A (R.length + 1) inS) (it : InT A (R.length + 1) inn) (hk : kd = 1 ∨ kd = 5) (hO : ∀ o ∈ O.head?, rkA o < 5) : PT A (ftB A (smmA A inS) inn) kd pr O R := by
  intro G s C h1 h2 h3 D K
  exact e_fact0 ok is it hk 1600 s C O hO h1 h2 h3 h3 D K
