/-! the class reads laws: tests -/
theorem q_ncm {d : Nat} {A : List zTk} {b : Int} {s : zRd} {C : List Int} {h : zH} (ok : AOk A) (c : LC A b (s, C) h) : zWp (m_LawReader_needComparison (d + 2) 10 h) (fun v h' => ∃ a, v = .inl a ∧ (a = (cmC A s).1 ∧ LC A b ((cmC A s).2, C) h' ∧ frLw b h h')) := by
  rw [em_LawReader_needComparison, c.t]
  refine zWp_po (by decide) (zWp_po (by decide) (zWp_qi c.i ?_))
  by_cases c1 : sgS A 4 60 s = true
  · have g := sg_k (by decide) c1
    have ea : cmC A s = (-13, advS s) := by unfold cmC; rw [if_pos c1]
    rw [ea, if_pos c1, c.t]
    exact zWp_nt (by decide) (zWp_po (by decide) (zWp_po (by decide) (g_av ok c (fun _ => by rw [g.2.1]; decide) (fun h1 c1 f1 => zWp_s ⟨_, rfl, rfl, c1, f1⟩))))
  rw [if_neg c1, c.t]
  refine zWp_it rfl (zWp_po (by decide) (zWp_po (by decide) (zWp_qi c.i ?_)))
  by_cases c2 : sgS A 4 62 s = true
  · have g := sg_k (by decide) c2
    have ea : cmC A s = (-14, advS s) := by unfold cmC; rw [if_neg c1, if_pos c2]
    rw [ea, if_pos c2, c.t]
    exact zWp_nt (by decide) (zWp_po (by decide) (zWp_po (by decide) (g_av ok c (fun _ => by rw [g.2.1]; decide) (fun h1 c1 f1 => zWp_s ⟨_, rfl, rfl, c1, f1⟩))))
  rw [if_neg c2, c.t]
  refine zWp_it rfl (zWp_po (by decide) (zWp_po (by decide) (zWp_qi c.i ?_)))
  by_cases c3 : sgS A 4 61 s = true
  · have g := sg_k (by decide) c3
    have ea : cmC A s = (-15, advS s) := by unfold cmC; rw [if_neg c1, if_neg c2, if_pos c3]
    rw [ea, if_pos c3, c.t]
    exact zWp_nt (by decide) (zWp_po (by decide) (zWp_po (by decide) (g_av ok c (fun _ => by rw [g.2.1]; decide) (fun h1 c1 f1 => zWp_s ⟨_, rfl, rfl, c1, f1⟩))))
  have ea : cmC A s = (0, advS (flS 1 (unf (tkI A s.1)) s)) := by unfold cmC; rw [if_neg c1, if_neg c2, if_neg c3]
  rw [ea, if_neg c3, c.t]
  refine zWp_it rfl (zWp_po (by decide) (zWp_po (by decide) (zWp_po (by decide) (zWp_po (by decide) (q_lfl c (fun h1 c1 f1 => zWp_po (by decide) ?_))))))
  rw [c1.t]
  refine zWp_po (by decide) (g_av ok c1 (fun z => ?_) (fun h2 c2 f2 => zWp_s ⟨_, rfl, rfl, c2, f1.t f2⟩))
  unfold flS at z
  by_cases y : s.2.1 = 0
  · rw [if_pos y] at z
    exact absurd z (show ¬ (1 : Int) = 0 by decide)
  · rw [if_neg y] at z
    exact absurd z y
theorem q_ntl {d : Nat} {A : List zTk} {b op : Int} {C : List Int} {Q : zV → zH → Prop} (ok : AOk A) : ∀ (f : Nat) (i : Int) (n : Bool) (s : zRd) (h : zH), i + f = 1600 → 0 ≤ i → LC A b (s, C) h → (∀ h', LC A b ((ntA A f n s).2, C) h' → frLw b h h' → zWp (l_LawReader_readFact_46 (d + 1) 10 op (if (ntA A f n s).1 = true then 1 else 0) h') Q) → zWp (l_LawReader_readFact_4 (d + 1) 10 op (if n = true then 1 else 0) i h) Q := by
  intro f
  induction f with
  | zero =>
    intro i n s h hi h0 c k
    rw [el_LawReader_readFact_4]
    exact zWp_nt (by omega) (k h c (frLw.rf b h))
  | succ f ih =>
    intro i n s h hi h0 c k
    rw [el_LawReader_readFact_4, c.t]
    refine zWp_it (by omega) (zWp_po (by decide) (zWp_po (by decide) (zWp_qi c.o ?_)))
    by_cases z : sgS A 2 20 s = true
    · have g := sg_k (by decide) z
      have ea : ntA A (f + 1) n s = ntA A f (!n) (advS s) := by rw [ntA, if_pos z]
      rw [ea] at k
      rw [if_pos z, c.t]
      refine zWp_nt (by decide) (zWp_po (by decide) (zWp_po (by decide) (g_av ok c (fun _ => by rw [g.2.1]; decide) (fun h1 c1 f1 => ?_))))
      rw [w32_i (x := i + 1) (by omega)]
      have go := ih (i + 1) (!n) (advS s) h1 (by omega) (by omega) c1 (fun h' c' f' => k h' c' (f1.t f'))
      cases n with
      | true => exact zWp_nt (by decide) go
      | false => exact zWp_it (by decide) go
    · have ea : ntA A (f + 1) n s = (n, s) := by rw [ntA, if_neg z]
      rw [ea] at k
      rw [if_neg z]
      exact zWp_it rfl (k h c (frLw.rf b h))
def TI (A : List zTk) (b : Int) (e : Nat) (op : Int) (inn : Option (zLx → zLx)) : Prop := (0 ≤ op ∧ op ≤ 8) ∧ (inn = none → 8 ≤ op) ∧ ∀ g, inn = some g → op < 8 ∧ ∀ x h, LC A b x h → zWp (m_LawReader_readTest e 10 (op + 1) h) (LPo A b h (g x))
theorem q_138 {d : Nat} {A : List zTk} {b : Int} {n : Bool} {y : zLx} {h0 h : zH} (c : LC A b y h) (f0 : frLw b h0 h) : zWp (l_LawReader_readFact_138 (d + 1) 10 (if n = true then 1 else 0) h) (LPo A b h0 (y.1, if n = true then putA y.2 (-18) else y.2)) := by
  obtain ⟨s, C⟩ := y
  have hb := c.2.2.2
  rw [el_LawReader_readFact_138]
  cases n with
  | false => exact zWp_it rfl (zWp_s ⟨c, f0⟩)
  | true =>
    refine zWp_nt (by decide) (zWp_po (by decide) ?_)
    rw [c.k]
    exact zWp_po (by omega) (g_put c (fun h1 c1 f1 => zWp_s ⟨c1, f0.t f1⟩))
theorem q_fact {d : Nat} {A : List zTk} {b op : Int} {sum : zLx → zLx} {inn : Option (zLx → zLx)} {x : zLx} {h : zH} (ok : AOk A) (ti : TI A b (d + 4) op inn) (hs : ∀ x h, LC A b x h → zWp (m_LawReader_readSum (d + 4) 10 op h) (LPo A b h (sum x))) (c : LC A b x h) : zWp (m_LawReader_readFact (d + 5) 10 op h) (LPo A b h (ftA A sum inn x)) := by
  obtain ⟨s, C⟩ := x
  obtain ⟨ti0, ti1, ti2⟩ := ti
  have hb := c.2.2.2
  rw [em_LawReader_readFact]
  refine q_ntl (n := false) ok 1600 0 s h (by decide) (by decide) c (fun h1 c1 f1 => ?_)
  have ef : ftA A sum inn (s, C) = ((f1A A sum inn ((ntA A 1600 false s).2, C)).1, if (ntA A 1600 false s).1 = true then putA (f1A A sum inn ((ntA A 1600 false s).2, C)).2 (-18) else (f1A A sum inn ((ntA A 1600 false s).2, C)).2) := rfl
  rw [ef]
  generalize (ntA A 1600 false s).2 = t at c1 ⊢
  generalize (ntA A 1600 false s).1 = n
  clear c ef
  rw [el_LawReader_readFact_46, c1.t]
  refine zWp_po (by decide) (zWp_po (by decide) (zWp_qi c1.i ?_))
  by_cases z1 : sgS A 4 91 t = true
  · have g := sg_k (by decide) z1
    have ea : f1A A sum inn (t, C) = opA A inn (fun y => (ndS A 4 93 y.1, y.2)) (t, C) := by unfold f1A; rw [if_pos z1]
    rw [ea, if_pos z1]
    refine zWp_nt (by decide) (zWp_po (by decide) ?_)
    cases inn with
    | none =>
      refine zWp_bi (q_lop0 c1 (ti1 rfl)) (fun a h2 u => ?_)
      rw [u.1]
      exact zWp_it rfl (q_138 u.2.1 (f1.t u.2.2))
    | some g2 =>
      obtain ⟨o8, hg⟩ := ti2 g2 rfl
      refine zWp_bi (q_lop1 ok c1 o8 (fun _ => by rw [g.2.1]; decide)) (fun a h2 u => ?_)
      rw [u.1, w32_i (x := op + 1) (by omega)]
      refine zWp_nt (by decide) (zWp_po (by decide) (zWp_bv (hg _ h2 u.2.1) (fun _ h3 v3 => zWp_po (by decide) ?_)))
      rw [v3.1.t]
      exact zWp_po (by decide) (g_ns ok v3.1 (fun h4 c4 f4 => q_138 c4 (((f1.t u.2.2).t v3.2).t f4)))
  rw [if_neg z1, c1.t]
  refine zWp_it rfl (zWp_po (by decide) (zWp_po (by decide) (zWp_qi c1.o ?_)))
  by_cases z2 : sgS A 2 21 t = true
  · have g := sg_k (by decide) z2
    have ea : f1A A sum inn (t, C) = (advS t, putA C 1) := by unfold f1A; rw [if_neg z1, if_pos z2]
    rw [ea, if_pos z2, c1.t]
    refine zWp_nt (by decide) (zWp_po (by decide) (zWp_po (by decide) (g_av ok c1 (fun _ => by rw [g.2.1]; decide) (fun h2 c2 f2 => zWp_po (by decide) ?_))))
    rw [c2.k]
    exact zWp_po (by omega) (g_put c2 (fun h3 c3 f3 => q_138 c3 ((f1.t f2).t f3)))
  have ea : f1A A sum inn (t, C) = ((sum ((cmC A (sum (t, C)).1).2, (sum (t, C)).2)).1, putA (sum ((cmC A (sum (t, C)).1).2, (sum (t, C)).2)).2 (cmC A (sum (t, C)).1).1) := by unfold f1A; rw [if_neg z1, if_neg z2]
  rw [ea, if_neg z2]
  refine zWp_it rfl (zWp_po (by decide) (zWp_bv (hs _ h1 c1) (fun _ h2 u2 => zWp_po (by decide) (zWp_bi (q_ncm ok u2.1) (fun a h3 u3 => zWp_po (by decide) (zWp_bv (hs _ h3 u3.2.1) (fun _ h4 u4 => zWp_po (by decide) ?_)))))))
  rw [u4.1.k, u3.1]
  exact zWp_po (by omega) (g_put u4.1 (fun h5 c5 f5 => q_138 c5 ((((f1.t u2.2).t u3.2.2).t u4.2).t f5)))
theorem q_lpB {e : Nat} {A : List zTk} {b op : Int} {g : zLx → zLx} (ok : AOk A) (hp : ∀ x h, LC A b x h → zWp (m_LawReader_readFact (e + 1) 10 op h) (LPo A b h (g x))) : ∀ (f : Nat) (i : Int) (x : zLx) (h : zH), i + f = 1600 → 0 ≤ i → LC A b x h → zWp (l_LawReader_readBoth_7 (e + 1) 10 op i h) (LPo A b h (lpA (fun s => if sgS A 2 19 s = true then -16 else 0) g f x)) := by
  intro f
  induction f with
  | zero =>
    intro i x h hi h0 c
    rw [el_LawReader_readBoth_7]
    exact zWp_nt (by omega) (zWp_s ⟨c, frLw.rf b h⟩)
  | succ f ih =>
    intro i x h hi h0 c
    obtain ⟨s, C⟩ := x
    rw [el_LawReader_readBoth_7, c.t]
    refine zWp_it (by omega) (zWp_po (by decide) (zWp_po (by decide) (zWp_qi c.o ?_)))
    by_cases z : sgS A 2 19 s = true
    · have gz := sg_k (by decide) z
      have ea : lpA (fun s => if sgS A 2 19 s = true then -16 else 0) g (f + 1) (s, C) = lpA (fun s => if sgS A 2 19 s = true then -16 else 0) g f ((g (advS s, C)).1, putA (g (advS s, C)).2 (-16)) := by rw [lpA]; dsimp only; rw [if_pos z, if_neg (show ¬ (-16 : Int) = 0 by decide)]
      rw [ea, if_pos z, c.t]
      refine zWp_nt (by decide) (zWp_po (by decide) (zWp_po (by decide) (g_av ok c (fun _ => by rw [gz.2.1]; decide) (fun h1 c1 f1 => zWp_po (by decide) (zWp_bv (hp _ h1 c1) (fun _ h2 u2 => zWp_po (by decide) ?_))))))
      rw [u2.1.k]
      refine zWp_po (by have := c.2.2.2; omega) (g_put u2.1 (fun h3 c3 f3 => ?_))
      rw [w32_i (x := i + 1) (by omega)]
      exact zWp_m (ih (i + 1) _ h3 (by omega) (by omega) c3) (fun _ h4 u4 => ⟨u4.1, ((f1.t u2.2).t f3).t u4.2⟩)
    · have ea : lpA (fun s => if sgS A 2 19 s = true then -16 else 0) g (f + 1) (s, C) = (s, C) := by rw [lpA]; dsimp only; rw [if_neg z, if_pos rfl]
      rw [ea, if_neg z]
      exact zWp_it rfl (zWp_s ⟨c, frLw.rf b h⟩)
theorem q_lpT {e : Nat} {A : List zTk} {b op : Int} {g : zLx → zLx} (ok : AOk A) (hp : ∀ x h, LC A b x h → zWp (m_LawReader_readBoth (e + 1) 10 op h) (LPo A b h (g x))) : ∀ (f : Nat) (i : Int) (x : zLx) (h : zH), i + f = 1600 → 0 ≤ i → LC A b x h → zWp (l_LawReader_readTest_7 (e + 1) 10 op i h) (LPo A b h (lpA (fun s => if sgS A 2 18 s = true then -17 else 0) g f x)) := by
  intro f
  induction f with
  | zero =>
    intro i x h hi h0 c
    rw [el_LawReader_readTest_7]
    exact zWp_nt (by omega) (zWp_s ⟨c, frLw.rf b h⟩)
  | succ f ih =>
    intro i x h hi h0 c
    obtain ⟨s, C⟩ := x
    rw [el_LawReader_readTest_7, c.t]
    refine zWp_it (by omega) (zWp_po (by decide) (zWp_po (by decide) (zWp_qi c.o ?_)))
    by_cases z : sgS A 2 18 s = true
    · have gz := sg_k (by decide) z
      have ea : lpA (fun s => if sgS A 2 18 s = true then -17 else 0) g (f + 1) (s, C) = lpA (fun s => if sgS A 2 18 s = true then -17 else 0) g f ((g (advS s, C)).1, putA (g (advS s, C)).2 (-17)) := by rw [lpA]; dsimp only; rw [if_pos z, if_neg (show ¬ (-17 : Int) = 0 by decide)]
      rw [ea, if_pos z, c.t]
      refine zWp_nt (by decide) (zWp_po (by decide) (zWp_po (by decide) (g_av ok c (fun _ => by rw [gz.2.1]; decide) (fun h1 c1 f1 => zWp_po (by decide) (zWp_bv (hp _ h1 c1) (fun _ h2 u2 => zWp_po (by decide) ?_))))))
      rw [u2.1.k]
      refine zWp_po (by have := c.2.2.2; omega) (g_put u2.1 (fun h3 c3 f3 => ?_))
      rw [w32_i (x := i + 1) (by omega)]
      exact zWp_m (ih (i + 1) _ h3 (by omega) (by omega) c3) (fun _ h4 u4 => ⟨u4.1, ((f1.t u2.2).t f3).t u4.2⟩)
    · have ea : lpA (fun s => if sgS A 2 18 s = true then -17 else 0) g (f + 1) (s, C) = (s, C) := by rw [lpA]; dsimp only; rw [if_neg z, if_pos rfl]
      rw [ea, if_neg z]
      exact zWp_it rfl (zWp_s ⟨c, frLw.rf b h⟩)
theorem q_tst {d : Nat} {A : List zTk} {b op : Int} {sum : zLx → zLx} {inn : Option (zLx → zLx)} {x : zLx} {h : zH} (ok : AOk A) (ti : TI A b (d + 4) op inn) (hs : ∀ x h, LC A b x h → zWp (m_LawReader_readSum (d + 4) 10 op h) (LPo A b h (sum x))) (c : LC A b x h) : zWp (m_LawReader_readTest (d + 7) 10 op h) (LPo A b h (tsA A sum inn x)) := by
  have hB : ∀ x h, LC A b x h → zWp (m_LawReader_readBoth (d + 6) 10 op h) (LPo A b h (boA A sum inn x)) := by
    intro x h c
    rw [em_LawReader_readBoth]
    exact zWp_po (by decide) (zWp_bv (q_fact ok ti hs c) (fun _ h1 u1 => zWp_m (q_lpB ok (fun x h c => q_fact ok ti hs c) 1600 0 _ h1 (by decide) (by decide) u1.1) (fun _ h2 u2 => ⟨u2.1, u1.2.t u2.2⟩)))
  rw [em_LawReader_readTest]
  exact zWp_po (by decide) (zWp_bv (hB x h c) (fun _ h1 u1 => zWp_m (q_lpT ok hB 1600 0 _ h1 (by decide) (by decide) u1.1) (fun _ h2 u2 => ⟨u2.1, u1.2.t u2.2⟩)))
/-- a test, k brackets left -/
theorem q_tstK {A : List zTk} {b : Int} (ok : AOk A) : ∀ (k : Nat), k ≤ 8 → ∀ (e : Nat) (x : zLx) (h : zH), 4 * k + 9 ≤ e → LC A b x h → zWp (m_LawReader_readTest e 10 (8 - (k : Int)) h) (LPo A b h (testA A k x)) := by
  intro k
  induction k with
  | zero =>
    intro _ e x h he c
    obtain ⟨e', rfl⟩ : ∃ e', e = e' + 7 := ⟨e - 7, by omega⟩
    have ti : TI A b (e' + 4) (8 - ((0 : Nat) : Int)) none := ⟨by omega, fun _ => by omega, fun g z => nomatch z⟩
    exact q_tst (inn := none) ok ti (fun x h c => q_sumK ok 0 (by decide) (e' + 4) x h (by omega) c) c
  | succ k ih =>
    intro hk e x h he c
    obtain ⟨e', rfl⟩ : ∃ e', e = e' + 7 := ⟨e - 7, by omega⟩
    have ti : TI A b (e' + 4) (8 - ((k + 1 : Nat) : Int)) (some (testA A k)) := by
      refine ⟨by omega, fun z => (nomatch z), fun g z => ⟨by omega, fun x2 h2 c2 => ?_⟩⟩
      have eg : testA A k = g := Option.some.inj z
      rw [← eg, show (8 : Int) - ((k + 1 : Nat) : Int) + 1 = 8 - (k : Int) by omega]
      exact ih (by omega) (e' + 4) x2 h2 (by omega) c2
    exact q_tst (inn := some (testA A k)) ok ti (fun x h c => q_sumK ok (k + 1) hk (e' + 4) x h (by omega) c) c
