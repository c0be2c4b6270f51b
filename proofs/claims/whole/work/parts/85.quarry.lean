/-! frames of questions that use more places; quarry, the class -/
def frY (h h' : zH) : Prop := ∀ r, ¬ (75 ≤ r ∧ r < 83 ∨ 328 ≤ r ∧ r < 403 ∧ ¬ r = 331 ∧ ¬ r = 347) → h' r = h r
theorem frY.rf (h : zH) : frY h h := fun _ _ => rfl
theorem frY.t {a b c : zH} (h1 : frY a b) (h2 : frY b c) : frY a c := fun r x => (h2 r x).trans (h1 r x)
theorem CI.y {σ st : zH} {D : zDR} {K : zKp} {Λ : zLw} {G h h' : zH} (c : CI σ st D K Λ G h) (f : frY h h') : CI σ st D K Λ G h' :=
  c.g (c.2.2.1.fr (fun r z => f r (by omega))) (by rw [f 0 (by decide)]) (by rw [f 0 (by decide)]) (fun r z => f r (by unfold crC at z; omega))
def frX (h h' : zH) : Prop :=
  (∀ r, ¬ (r = 403 ∨ 444 ≤ r ∧ r ≤ 450 ∨ 456 ≤ r ∧ r ≤ 462) → h' r = h r) ∧ (∀ q, q = 1 ∨ q = 10 ∨ q = 11 ∨ q = 12 ∨ q = 68 ∨ q = 69 ∨ q = 70 ∨ q = 93 → h' 403 q = h 403 q) ∧
  (∀ i, ¬ (10 ≤ i ∧ i < 50) → h' 444 i = h 444 i ∧ h' 445 i = h 445 i ∧ h' 446 i = h 446 i) ∧ (∀ i, ¬ (8 ≤ i ∧ i < 40) → h' 447 i = h 447 i) ∧ (∀ i, ¬ (60 ≤ i ∧ i < 300) → h' 448 i = h 448 i ∧ h' 449 i = h 449 i ∧ h' 450 i = h 450 i)
theorem frX.rf (h : zH) : frX h h := ⟨fun _ _ => rfl, fun _ _ => rfl, fun _ _ => ⟨rfl, rfl, rfl⟩, fun _ _ => rfl, fun _ _ => ⟨rfl, rfl, rfl⟩⟩
theorem frX.t {a b c : zH} (h1 : frX a b) (h2 : frX b c) : frX a c :=
  ⟨fun r x => (h2.1 r x).trans (h1.1 r x), fun q x => (h2.2.1 q x).trans (h1.2.1 q x), fun i x => ⟨(h2.2.2.1 i x).1.trans (h1.2.2.1 i x).1, (h2.2.2.1 i x).2.1.trans (h1.2.2.1 i x).2.1, (h2.2.2.1 i x).2.2.trans (h1.2.2.1 i x).2.2⟩, fun i x => (h2.2.2.2.1 i x).trans (h1.2.2.2.1 i x), fun i x => ⟨(h2.2.2.2.2 i x).1.trans (h1.2.2.2.2 i x).1, (h2.2.2.2.2 i x).2.1.trans (h1.2.2.2.2 i x).2.1, (h2.2.2.2.2 i x).2.2.trans (h1.2.2.2.2 i x).2.2⟩⟩
theorem frQR.x {h h' : zH} (f : frQR h h') : frX h h' := ⟨fun r x => f.1 r (by omega), fun q x => f.2.1 q (by omega), f.2.2⟩
theorem frG.x {h h' : zH} (f : frG h h') : frX h h' := ⟨fun r x => f.1 r (by omega), fun q x => f.2 q (by omega), fun i _ => by rw [f.1 444 (by decide), f.1 445 (by decide), f.1 446 (by decide)]; exact ⟨rfl, rfl, rfl⟩, fun i _ => by rw [f.1 447 (by decide)], fun i _ => by rw [f.1 448 (by decide), f.1 449 (by decide), f.1 450 (by decide)]; exact ⟨rfl, rfl, rfl⟩⟩
theorem frX.hi {h h' : zH} (f : ∀ r, ¬ (456 ≤ r ∧ r ≤ 462) → h' r = h r) : frX h h' := ⟨fun r x => f r (by omega), fun q _ => by rw [f 403 (by decide)], fun i _ => by rw [f 444 (by decide), f 445 (by decide), f 446 (by decide)]; exact ⟨rfl, rfl, rfl⟩, fun i _ => by rw [f 447 (by decide)], fun i _ => by rw [f 448 (by decide), f 449 (by decide), f 450 (by decide)]; exact ⟨rfl, rfl, rfl⟩⟩
theorem frX.sl {h : zH} {q x : Int} (hq : ¬ (q = 1 ∨ q = 10 ∨ q = 11 ∨ q = 12 ∨ q = 68 ∨ q = 69 ∨ q = 70 ∨ q = 93)) : frX h (zset h 403 q x) :=
  ⟨fun r z => zset_n (by omega), fun p z => zset_j (by omega), fun i _ => ⟨zset_o (by decide), zset_o (by decide), zset_o (by decide)⟩, fun i _ => zset_o (by decide), fun i _ => ⟨zset_o (by decide), zset_o (by decide), zset_o (by decide)⟩⟩
theorem frX.lo {h h' : zH} (f : frX h h') : frLo h h' := fun r x => f.1 r (by omega)
theorem RI.x {σ st : zH} {D : zDR} {K : zKp} {Λ : zLw} {G h h' : zH} (c : RI σ st D K Λ G h) (f : frX h h') : RI σ st D K Λ G h' := by
  obtain ⟨c1, c2, c3, c4, c5, c6⟩ := c
  have e12 := f.2.1 12 (by decide)
  have hn := c1.2.2.1.n
  have hS10 : nS σ ≤ 10 := c1.2.2.1.2.1.2.2.2.1
  have hH8 : nHo σ ≤ 8 := c1.2.2.1.2.1.2.2.2.2.2.1
  refine ⟨⟨c1.1.fr e12 (fun r a b => f.1 r (by omega)), ?_, c1.2.2⟩, c2.fr (fun q z => f.2.1 q (by omega)) (fun r z => f.1 r (by omega)), c3.fr (f.1 451 (by decide)) (f.1 452 (by decide)) (f.1 453 (by decide)), ?_, fun d => (c5 d).fr e12 (fun r a b => f.1 r (by omega)), c6.fr e12 (fun r z => f.1 r (by omega))⟩
  · obtain ⟨t0, t1, t2, t3⟩ := c1.2.1
    refine ⟨t0, fun i a b => ?_, fun i a b => ?_, fun i a b => ?_⟩
    · have := f.2.2.1 (10 * 0 + i) (by omega)
      rw [this.1, this.2.1, this.2.2]; exact t1 i a b
    · rw [f.2.2.2.1 (8 * 0 + i) (by omega)]; exact t2 i a b
    · have := f.2.2.2.2 (60 * 0 + i) (by omega)
      rw [this.1, this.2.1, this.2.2]; exact t3 i a b
  · exact c4.fr c1.2.2.1 (f.2.1 68 (by decide)) (f.2.1 69 (by decide)) (fun i z => f.2.2.1 i (by omega)) (fun i z => f.2.2.2.1 i (by omega)) (fun i z => f.2.2.2.2 i (by omega)) (fun i _ => by rw [f.1 451 (by decide)]) (fun i _ => by rw [f.1 452 (by decide)]) (fun i _ => by rw [f.1 453 (by decide)])
theorem alike_x {x : zR} {y : zH → zR} {V : zV} {σ st : zH} {D : zDR} {K : zKp} {Λ : zLw} {G h : zH} (c : CI σ st D K Λ G h) (r : RI σ st D K Λ G h) (wk : WK σ D K) (wg : WG G) (hc : zWp x (fun v h1 => v = V ∧ frY h h1)) (hr : ∀ h', RI σ st D K Λ G h' → zWp (y h') (fun v h2 => v = V ∧ frX h' h2)) : Alike x y :=
  alike (h := h) wk wg (fun h' f => zWp_m (hr h' (r.hi f)) (fun v h2 u => ⟨u.1, (r.hi f).x u.2, u.2.lo⟩)) (zWp_m hc (fun v h1 u => ⟨u.1, c.y u.2, fun r hr => u.2 r (by omega)⟩))
/-- the list of a mask's stones -/
theorem nmL_app {x : Int} : ∀ (n m : Nat) (i : Int), nmL x (n + m) i = nmL x n i ++ nmL x m (i + n)
  | 0, m, i => by rw [Nat.zero_add, show i + ((0 : Nat) : Int) = i by omega]; rfl
  | n + 1, m, i => by
    rw [show n + 1 + m = (n + m) + 1 by omega, nmL, nmL, nmL_app n m (i + 1), show i + 1 + (n : Int) = i + ((n + 1 : Nat) : Int) by omega]
    cases mkB x i <;> rfl
theorem nmL_no {x : Int} : ∀ (n : Nat) (i : Int), (∀ j, i ≤ j → j < i + n → mkB x j = false) → nmL x n i = []
  | 0, _, _ => rfl
  | n + 1, i, h => by
    rw [nmL, h i (by omega) (by omega)]
    exact nmL_no n (i + 1) (fun j j1 j2 => h j (by omega) (by omega))
theorem nmL_10 {x : Int} {n : Nat} (hn : n ≤ 10) (hx : 0 ≤ x ∧ x < ((2 ^ n : Nat) : Int)) : nmL x 10 0 = nmL x n 0 := by
  rw [show (10 : Nat) = n + (10 - n) by omega, nmL_app, nmL_no (10 - n) _ (fun j j1 j2 => ?_), List.append_nil]
  have hq : (2 : Nat) ^ n ≤ 2 ^ j.toNat := Nat.pow_le_pow_right (by decide) (by omega)
  unfold mkB
  rw [Int.ediv_eq_zero_of_lt hx.1 (by omega)]
  rfl
theorem nmL_len {x : Int} : ∀ (n : Nat) (i : Int), ((nmL x n i).length : Int) = isum (mkI x) n i
  | 0, _ => rfl
  | n + 1, i => by
    show ((match mkB x i with | true => i :: nmL x n (i + 1) | false => nmL x n (i + 1)).length : Int) = mkI x i + isum (mkI x) n (i + 1)
    rw [← nmL_len n (i + 1)]
    unfold mkI
    cases mkB x i with
    | true => show ((nmL x n (i + 1)).length + 1 : Nat) = (1 : Int) + _; omega
    | false => show ((nmL x n (i + 1)).length : Int) = (0 : Int) + _; omega
theorem nmL_in {x : Int} : ∀ (n : Nat) (i : Int), ∀ y ∈ nmL x n i, i ≤ y ∧ y < i + n
  | 0, _, y, hy => by cases hy
  | n + 1, i, y, hy => by
    rw [nmL] at hy
    cases hb : mkB x i with
    | true =>
      rw [hb] at hy
      rcases List.mem_cons.1 hy with z | z
      · omega
      · have := nmL_in n (i + 1) y z; omega
    | false =>
      rw [hb] at hy
      have := nmL_in n (i + 1) y hy; omega
/-- what is in order of such a list -/
def OkS (σ : zH) (L : List Int) : Prop := 1 ≤ L.length ∧ L.length ≤ 6 ∧ ∀ j : Nat, j < L.length → 0 ≤ L.getD j 0 ∧ L.getD j 0 < nS σ
theorem okS_of {σ st : zH} {x m : Int} (hm : m ≤ 6) (hS : 0 ≤ nS σ) (l : LyP σ st x m) : OkS σ (nmL x (nS σ).toNat 0) := by
  have e := nmL_len (x := x) (nS σ).toNat 0
  have := l.2.1
  refine ⟨by omega, by omega, fun j hj => ?_⟩
  have h := nmL_in (x := x) (nS σ).toNat 0 ((nmL x (nS σ).toNat 0).getD j 0) (by rw [List.getD_eq_getElem?_getD, List.getElem?_eq_getElem hj]; exact List.getElem_mem hj)
  omega
def rmT (L : List Int) (t : Nat) (i : Int) : Bool := (List.range L.length).any (fun j => t.testBit j && decide (L.getD j 0 = i))
def rmM (st : zH) (L : List Int) (t : Nat) : zH := fun a i => if a = 1 ∧ rmT L t i = true then -1 else st a i
theorem rmT_t {L : List Int} {t : Nat} {i : Int} : rmT L t i = true ↔ ∃ j : Nat, j < L.length ∧ t.testBit j = true ∧ L.getD j 0 = i := by
  unfold rmT
  rw [List.any_eq_true]
  constructor
  · rintro ⟨j, h1, h2⟩
    rw [Bool.and_eq_true] at h2
    exact ⟨j, List.mem_range.1 h1, h2.1, of_decide_eq_true h2.2⟩
  · rintro ⟨j, h1, h2, h3⟩
    refine ⟨j, List.mem_range.2 h1, ?_⟩
    rw [Bool.and_eq_true]
    exact ⟨h2, decide_eq_true h3⟩
theorem rmM_0 {st : zH} {L : List Int} : rmM st L 0 = st := by
  funext a i
  unfold rmM
  rw [if_neg (fun z => by obtain ⟨j, _, h, _⟩ := rmT_t.1 z.2; rw [Nat.zero_testBit] at h; cases h)]
theorem rmM_o {st : zH} {L : List Int} {t : Nat} {a i : Int} (h : ¬ a = 1) : rmM st L t a i = st a i := by unfold rmM; rw [if_neg (fun z => h z.1)]
theorem rmM_s {st : zH} {L : List Int} {t p : Nat} (hp : p < L.length) : zset (rmM st L t) 1 (L.getD p 0) (-1) = rmM st L (t ||| 2 ^ p) := by
  funext a i
  rw [zset_x]
  by_cases ha : a = 1
  · subst ha
    unfold rmM
    by_cases e : i = L.getD p 0
    · rw [if_pos ⟨rfl, e⟩, if_pos ⟨rfl, rmT_t.2 ⟨p, hp, by rw [Nat.testBit_or, Nat.testBit_two_pow_self, Bool.or_true], e.symm⟩⟩]
    · rw [if_neg (fun z => e z.2)]
      by_cases c : rmT L t i = true
      · obtain ⟨j, j1, j2, j3⟩ := rmT_t.1 c
        rw [if_pos ⟨rfl, c⟩, if_pos ⟨rfl, rmT_t.2 ⟨j, j1, by rw [Nat.testBit_or, j2, Bool.true_or], j3⟩⟩]
      · rw [if_neg (fun z => c z.2), if_neg (fun z => by
          obtain ⟨j, j1, j2, j3⟩ := rmT_t.1 z.2
          rw [Nat.testBit_or, Nat.testBit_two_pow, Bool.or_eq_true] at j2
          rcases j2 with q | q
          · exact c (rmT_t.2 ⟨j, j1, q, j3⟩)
          · have : p = j := of_decide_eq_true q
            subst this
            exact e j3.symm)]
  · rw [if_neg (fun z => ha z.1), rmM_o ha, rmM_o ha]
theorem rmM_w {σ st : zH} {L : List Int} {t : Nat} (wt : WT σ st) : WT σ (rmM st L t) := by
  have e1 : ∀ i, rmM st L t 1 i = -1 ∨ rmM st L t 1 i = st 1 i := fun i => by
    unfold rmM
    split
    · exact Or.inl rfl
    · exact Or.inr rfl
  refine ⟨fun i a b => ?_, fun c a b => ?_, fun i a b => ?_⟩
  · refine ⟨?_, fun j j1 j2 j3 => ?_⟩
    · rcases e1 i with z | z
      · exact Or.inl z
      · rw [z]; exact (wt.1 i a b).1
    · rcases e1 i with z | z
      · exact Or.inl z
      · rcases e1 j with y | y
        · rw [y] at j3; exact Or.inl j3.symm
        · rw [y, z] at j3
          rw [z]
          exact (wt.1 i a b).2 j j1 j2 j3
  · rw [rmM_o (by decide), rmM_o (by decide), rmM_o (by decide), rmM_o (by decide)]; exact wt.2.1 c a b
  · rw [rmM_o (by decide)]; exact wt.2.2 i a b
def qtF (σ st : zH) (s : Int) : Bool := !(decide (st 1 s ≠ -1 ∧ σ 2 (st 1 s) ≠ -1 ∧ σ 14 s < σ 3 (st 1 s)) && decide (leanA σ st s = -1))
def quietA (σ st : zH) : Bool := allB (qtF σ st) (nS σ).toNat 0
theorem mkB_n {t i : Nat} : mkB (t : Int) (i : Int) = t.testBit i := by
  unfold mkB
  rw [Int.toNat_natCast, Nat.testBit_eq_decide_div_mod_eq]
  refine decide_eq_decide.2 ?_
  rw [← Int.natCast_ediv]
  omega
theorem bit_n {t i : Nat} (ht : t < 64) (hi : i < 6) : zand (zshr (t : Int) (i : Int)) 1 = (t.testBit i).toInt := by
  rw [mkB_t (by unfold zI32; omega) (by omega), mkB_n]
theorem or_n {t i : Nat} (ht : t < 64) (hi : i < 6) : zor (t : Int) (zshl 1 (i : Int)) = ((t ||| 2 ^ i : Nat) : Int) := by
  have h2 : 2 ^ i ≤ 2 ^ 5 := Nat.pow_le_pow_right (by decide) (by omega)
  rw [show (1 : Int) = ((1 : Nat) : Int) from rfl, zshl_n (by omega) (by omega), Nat.one_mul, zor_n (by omega) (by omega)]
theorem mod_s : ∀ t : Nat, t < 64 → ∀ i : Nat, i < 6 → t % 2 ^ (i + 1) = if t.testBit i = true then (t % 2 ^ i) ||| 2 ^ i else t % 2 ^ i := by decide +kernel
theorem q_noth49 {d : Nat} {σ st : zH} {a : Int} {h : zH} (ea : h 0 7 = a) (g : CS σ a h) (w : WS σ) (t : CT σ st 75 h) (wt : WT σ st) : ∀ (n : Nat) {i : Int}, 0 ≤ i → i + n = nS σ → l_B_nothingStartsWithout_49 (d + 3) i h = some (.inl (if allB (qtF σ st) n i = true then 1 else 0), h)
  | 0, i, hi, hh => by
    have ha := g.a
    have e7 : h (a + 8) 7 = nS σ := g.g 8 (by decide)
    rw [el_B_nothingStartsWithout_49, ea, e7, zpo_t (by omega), zpo_t (by omega), zit_t (by decide), zit_f (by omega)]
    rfl
  | n + 1, i, hi, hh => by
    have ha := g.a
    have hS10 : nS σ ≤ 10 := w.2.1.2.2.2.1
    have e7 : h (a + 8) 7 = nS σ := g.g 8 (by decide)
    rw [el_B_nothingStartsWithout_49, ea, e7, zpo_t (by omega), zpo_t (by omega), zit_t (by decide), zit_t (by omega), q_leastPush g w t wt (by omega), zqi_s, ea, w32_i (x := i + 1) (by omega)]
    by_cases c : st 1 i ≠ -1 ∧ σ 2 (st 1 i) ≠ -1 ∧ σ 14 i < σ 3 (st 1 i)
    · have e0 : (if st 1 i = -1 ∨ σ 2 (st 1 i) = -1 then (-1 : Int) else if σ 14 i - σ 3 (st 1 i) + 1 < 0 then 0 else σ 14 i - σ 3 (st 1 i) + 1) = 0 := by
        rw [if_neg (fun z => by rcases z with z | z; exact c.1 z; exact c.2.1 z)]
        split <;> omega
      rw [zit_t e0, q_leansOn g w t wt (by omega), zqi_s]
      by_cases c2 : leanA σ st i = -1
      · rw [zit_t c2, allB_f (f := qtF σ st) (i := i) (by unfold qtF; rw [decide_eq_true c, decide_eq_true c2]; rfl)]
        rfl
      · rw [zit_f c2, allB_c (f := qtF σ st) (i := i) (by unfold qtF; rw [decide_eq_false c2, Bool.and_false]; rfl)]
        exact q_noth49 ea g w t wt n (by omega) (by omega)
    · have e0 : ¬ (if st 1 i = -1 ∨ σ 2 (st 1 i) = -1 then (-1 : Int) else if σ 14 i - σ 3 (st 1 i) + 1 < 0 then 0 else σ 14 i - σ 3 (st 1 i) + 1) = 0 := by
        by_cases z : st 1 i = -1 ∨ σ 2 (st 1 i) = -1
        · rw [if_pos z]; decide
        · rw [if_neg z]
          have : ¬ σ 14 i < σ 3 (st 1 i) := fun y => c ⟨fun q => z (Or.inl q), fun q => z (Or.inr q), y⟩
          split <;> omega
      rw [zit_f e0, allB_c (f := qtF σ st) (i := i) (by unfold qtF; rw [decide_eq_false c, Bool.false_and]; rfl)]
      exact q_noth49 ea g w t wt n (by omega) (by omega)
theorem q_noth13 {d m : Nat} {σ st : zH} {a : Int} {L : List Int} {t : Nat} (w : WS σ) (wt : WT σ st) (ok : OkS σ L) (hm : L.length = m) (ht : t < 64) {Q : zV → zH → Prop} : ∀ (n : Nat) {i : Nat} {h : zH}, i + n = m → h 0 7 = a → CS σ a h → QL L h → CT σ (rmM st L (t % 2 ^ i)) 75 h → (∀ h', frS 75 h h' → CS σ a h' → CT σ (rmM st L (t % 2 ^ m)) 75 h' → zWp (l_B_nothingStartsWithout_49 (d + 1) 0 h') Q) → zWp (l_B_nothingStartsWithout_13 (d + 1) t m i h) Q
  | 0, i, h, hi, ea, g, ql, c, N => by
    rw [el_B_nothingStartsWithout_13]
    have ei : i = m := by omega
    rw [ei] at c
    exact zWp_nt (by omega) (N h (fun _ _ => rfl) g c)
  | n + 1, i, h, hi, ea, g, ql, c, N => by
    obtain ⟨o1, o2, o3⟩ := ok
    have e378 : h 378 (i : Int) = L.getD i 0 := ql i _ (by rw [List.getD_eq_getElem?_getD, List.getElem?_eq_getElem (by omega)]; rfl)
    rw [el_B_nothingStartsWithout_13, bit_n ht (by omega), w32_i (x := (i : Int) + 1) (by omega), show (i : Int) + 1 = ((i + 1 : Nat) : Int) from rfl, e378]
    have ms := mod_s t ht i (by omega)
    refine zWp_it (by omega) ?_
    cases hb : t.testBit i with
    | true =>
      rw [hb, if_pos rfl] at ms
      refine zWp_it rfl (zWp_it (by omega) (zWp_bv (q_moveOut w c (rmM_w wt) (o3 i (by omega))) (fun v h1 u => ?_)))
      obtain ⟨u1, u2, u3⟩ := u
      rw [rmM_s (by omega), ← ms] at u1
      exact q_noth13 w wt ⟨o1, o2, o3⟩ hm ht n (by omega) (by rw [u3 0 (by decide)]; exact ea) (g.s sa75 u3) (fun j y hj => by rw [u3 378 (by decide)]; exact ql j y hj) u1 (fun h' f' g' c' => N h' (u3.t f') g' c')
    | false =>
      rw [hb, if_neg Bool.false_ne_true] at ms
      rw [← ms] at c
      exact zWp_nt (by decide) (q_noth13 w wt ⟨o1, o2, o3⟩ hm ht n (by omega) ea g ql c N)
theorem q_nothing {d m : Nat} {σ st : zH} {a : Int} {L : List Int} {t : Nat} {h : zH} (b : BC σ st a h) (ok : OkS σ L) (hm : L.length = m) (ht : t < 2 ^ m) (ql : QL L h) : zWp (m_B_nothingStartsWithout (d + 4) t m h) (fun v h' => v = .inl (if quietA σ (rmM st L t) = true then 1 else 0) ∧ frS 75 h h') := by
  have w := b.2.2.2.1
  have wt := b.2.2.2.2
  have hS0 : 0 ≤ nS σ := w.2.1.2.2.1
  have h64 : 2 ^ m ≤ 2 ^ 6 := Nat.pow_le_pow_right (by decide) (by have := ok.2.1; omega)
  rw [em_B_nothingStartsWithout]
  refine zWp_bv (q_copyT (d := d + 2) w sa75 (by decide) b.2.2.1) (fun _ h1 u => ?_)
  obtain ⟨u1, _, u3⟩ := u
  refine q_noth13 (d := d + 2) w wt ok hm (by omega) m (i := 0) (by omega) (by rw [u3 0 (by decide)]; exact b.1) (b.2.1.s sa75 u3) (fun j y hj => by rw [u3 378 (by decide)]; exact ql j y hj) (by rw [show t % 2 ^ 0 = 0 from Nat.mod_one t, rmM_0]; exact u1) (fun h' f' g' c' => ?_)
  rw [Nat.mod_eq_of_lt ht] at c'
  rw [q_noth49 (d := d) (by rw [f' 0 (by decide), u3 0 (by decide)]; exact b.1) g' w c' (rmM_w wt) (nS σ).toNat (by decide) (by omega)]
  exact zWp_s ⟨rfl, u3.t f'⟩
/-- the class while it counts ways -/
def frK (h h' : zH) : Prop := ∀ r, ¬ (75 ≤ r ∧ r < 83 ∨ r = 377) → h' r = h r
theorem frK.t {a b c : zH} (h1 : frK a b) (h2 : frK b c) : frK a c := fun r x => (h2 r x).trans (h1 r x)
theorem BC.k {σ st : zH} {a : Int} {h h' : zH} (b : BC σ st a h) (f : frK h h') : BC σ st a h' := by
  have ha := b.2.1.a
  exact ⟨by rw [f 0 (by decide)]; exact b.1, b.2.1.fr (fun r r1 r2 => f r (by omega)), b.2.2.1.fr (fun r r1 r2 => f r (by omega)), b.2.2.2⟩
abbrev qq (σ st : zH) (L : List Int) : Nat → Bool := fun t => quietA σ (rmM st L t)
def WaP (q : Nat → Bool) (m t : Nat) (h : zH) : Prop := ∀ u : Nat, t ≤ u → u < 2 ^ m → h 377 (u : Int) = wA q m u
theorem q_cw30 {d m : Nat} {σ st : zH} {a : Int} {L : List Int} {t : Nat} {h : zH} {Q : zV → zH → Prop} (b : BC σ st a h) (ok : OkS σ L) (hm : L.length = m) (ht : t < 2 ^ m) (ql : QL L h) (wp : WaP (qq σ st L) m (t + 1) h) (N : ∀ h', frK h h' → WaP (qq σ st L) m t h' → zWp (l_B_countWays_8 (d + 4) m ((2 ^ m - 1 : Nat) : Int) ((t : Int) - 1) h') Q) : ∀ (n : Nat) {i : Nat} {x : Int}, i + n = m → 0 ≤ x ∧ x ≤ 1 + 720 * i → x + isum (fun i => if t.testBit i.toNat = true then 0 else wA (qq σ st L) m (t ||| 2 ^ i.toNat)) n i = wAn (qq σ st L) m t → zWp (l_B_countWays_30 (d + 4) m ((2 ^ m - 1 : Nat) : Int) t x i h) Q
  | 0, i, x, hi, hx, hs => by
    have h6 := ok.2.1
    have h64 : 2 ^ m ≤ 2 ^ 6 := Nat.pow_le_pow_right (by decide) (by omega)
    have hs' : x = wAn (qq σ st L) m t := by
      have : x + 0 = wAn (qq σ st L) m t := hs
      omega
    have fin : ∀ h1 y, y = wA (qq σ st L) m t → frS 75 h h1 → zWp (zlt (zset h1 377 (t : Int) y) fun h2 => l_B_countWays_8 (d + 4) m ((2 ^ m - 1 : Nat) : Int) (w32 ((t : Int) + -1)) h2) Q := by
      intro h1 y hy f1
      refine zWp_lt fun h2 e2 => ?_
      rw [w32_i (x := (t : Int) + -1) (by omega), show (t : Int) + -1 = (t : Int) - 1 by omega]
      refine N h2 (fun r hr => by rw [e2, zset_n (by omega), f1 r (by omega)]) (fun u u1 u2 => ?_)
      rw [e2, zset_g]
      by_cases e : u = t
      · rw [if_pos (by omega), hy, e]
      · rw [if_neg (by omega), f1 377 (by decide)]; exact wp u (by omega) u2
    rw [el_B_countWays_30]
    refine zWp_nt (by omega) ?_
    by_cases c : t = 0
    · refine zWp_it (by omega) (zWp_it (by omega) (fin h x ?_ (fun _ _ => rfl)))
      unfold wA
      rw [if_pos (Or.inl c), hs']
    · refine zWp_nt (by omega) ?_
      obtain ⟨v1, h1, e1, rfl, f1⟩ := q_nothing (d := d) b ok hm ht ql
      refine zWp_qi e1 ?_
      by_cases c2 : quietA σ (rmM st L t) = true
      · refine zWp_nt (by rw [if_pos c2]; decide) (zWp_it (by omega) (fin h1 x ?_ f1))
        unfold wA
        rw [if_pos (Or.inr c2), hs']
      · refine zWp_it (by rw [if_neg c2]) (zWp_it (by omega) (fin h1 0 ?_ f1))
        unfold wA
        rw [if_neg (fun z => by rcases z with z | z; exact c z; exact c2 z)]
  | n + 1, i, x, hi, hx, hs => by
    have h6 := ok.2.1
    have h64 : 2 ^ m ≤ 2 ^ 6 := Nat.pow_le_pow_right (by decide) (by omega)
    have hs' : x + ((if t.testBit i = true then 0 else wA (qq σ st L) m (t ||| 2 ^ i)) + isum (fun i => if t.testBit i.toNat = true then 0 else wA (qq σ st L) m (t ||| 2 ^ i.toNat)) n ((i : Int) + 1)) = wAn (qq σ st L) m t := hs
    rw [el_B_countWays_30, bit_n (by omega) (by omega), or_n (by omega) (by omega), w32_i (x := (i : Int) + 1) (by omega), show (i : Int) + 1 = ((i + 1 : Nat) : Int) from rfl]
    refine zWp_it (by omega) ?_
    cases hb : t.testBit i with
    | true =>
      rw [hb, if_pos rfl] at hs'
      exact zWp_nt (by decide) (q_cw30 b ok hm ht ql wp N n (by omega) (by omega) (by rw [show ((i + 1 : Nat) : Int) = (i : Int) + 1 from rfl]; omega))
    | false =>
      obtain ⟨u1, u2, u3, u4⟩ := un_e m (by omega) t (by omega) i (by omega) (by omega) ht hb
      have bw := wA_b (q := qq σ st L) (m := m) (by omega) u3
      rw [hb, if_neg Bool.false_ne_true] at hs'
      refine zWp_it rfl (zWp_it (by omega) ?_)
      rw [wp (t ||| 2 ^ i) (by omega) u3, w32_i (x := x + wA (qq σ st L) m (t ||| 2 ^ i)) (by omega)]
      exact q_cw30 b ok hm ht ql wp N n (by omega) (by omega) (by rw [show ((i + 1 : Nat) : Int) = (i : Int) + 1 from rfl]; omega)
theorem q_cw8 {d m : Nat} {σ st : zH} {a : Int} {L : List Int} (ok : OkS σ L) (hm : L.length = m) : ∀ (t : Nat) {h : zH}, BC σ st a h → QL L h → t ≤ 2 ^ m → WaP (qq σ st L) m t h → zWp (l_B_countWays_8 (d + 4) m ((2 ^ m - 1 : Nat) : Int) ((t : Int) - 1) h) (fun _ h' => frK h h' ∧ WaP (qq σ st L) m 0 h')
  | 0, h, b, ql, ht, wp => by
    rw [el_B_countWays_8]
    exact zWp_it (by decide) (zWp_s ⟨fun _ _ => rfl, wp⟩)
  | t + 1, h, b, ql, ht, wp => by
    have h6 := ok.2.1
    have h64 : 2 ^ m ≤ 2 ^ 6 := Nat.pow_le_pow_right (by decide) (by omega)
    have r := wA_r (q := qq σ st L) (m := m) (t := t) (by omega) (by omega)
    rw [show ((t + 1 : Nat) : Int) - 1 = t by omega, el_B_countWays_8]
    have nx : ∀ h', frK h h' → WaP (qq σ st L) m t h' → zWp (l_B_countWays_8 (d + 4) m ((2 ^ m - 1 : Nat) : Int) ((t : Int) - 1) h') (fun _ h' => frK h h' ∧ WaP (qq σ st L) m 0 h') := fun h' f' wp' => zWp_m (q_cw8 ok hm t (b.k f') (fun j y hj => by rw [f' 378 (by decide)]; exact ql j y hj) (by omega) wp') (fun v h2 u => ⟨f'.t u.1, u.2⟩)
    refine zWp_nt (by omega) (zWp_if (fun z => zWp_qi q_one1 ?_) (fun z => zWp_qi q_one0 ?_))
    · rw [if_pos (by omega)] at r
      exact q_cw30 b ok hm (by omega) ql wp nx m (i := 0) (by omega) (by decide) r.symm
    · rw [if_neg (by omega)] at r
      exact q_cw30 b ok hm (by omega) ql wp nx m (i := 0) (by omega) (by decide) r.symm
theorem q_qat {d m k : Nat} {q : Nat → Bool} {L : List Int} {h : zH} (hl : L.length = m) (h6 : m ≤ 6) (hk : k < m) (hL : ∀ j : Nat, j < m → 0 ≤ L.getD j 0) (ql : QL L h) (wp : WaP q m 0 h) : ∀ (n : Nat) {t step : Nat} {last : Int}, zer m t = n → t < 2 ^ m → 0 < wAn q m t → step + n = m → step ≤ k → l_B_quarriedAt_8 d k m t last step h = some (.inl (L.getD ((gre q m n t).getD (k - step) 0) 0), h)
  | 0, t, step, last, hz, ht, hw, hs, hk2 => by omega
  | n + 1, t, step, last, hz, ht, hw, hs, hk2 => by
    have h64 : 2 ^ m ≤ 2 ^ 6 := Nat.pow_le_pow_right (by decide) h6
    obtain ⟨_, fo⟩ := find_gre (q := q) h6 (n + 1) t ht hz hw
    have inn : ∀ (j i : Nat), i + j = m → ¬ zfs (grF q m t) j i = -1 → l_B_quarriedAt_20 d k m t (-1) step i h = l_B_quarriedAt_8 d k m ((t ||| 2 ^ (zfs (grF q m t) j i).toNat : Nat) : Int) (L.getD (zfs (grF q m t) j i).toNat 0) ((step : Int) + 1) h := by
      intro j
      induction j with
      | zero => intro i _ z; exact absurd rfl z
      | succ j ih =>
        intro i hi z
        have e378 : h 378 (i : Int) = L.getD i 0 := ql i _ (by rw [List.getD_eq_getElem?_getD, List.getElem?_eq_getElem (by omega)]; rfl)
        have hLi := hL i (by omega)
        rw [el_B_quarriedAt_20, zit_t (by omega), zit_t rfl, bit_n (by omega) (by omega), or_n (by omega) (by omega), e378, w32_i (x := (i : Int) + 1) (by omega)]
        cases hb : t.testBit i with
        | true =>
          have e : grF q m t (i : Int) = false := by unfold grF; rw [Int.toNat_natCast, hb]; rfl
          rw [zfs_f e] at z ⊢
          rw [show (i : Int) + 1 = ((i + 1 : Nat) : Int) from rfl] at z ⊢
          rw [zit_f (by decide)]
          exact ih (i + 1) (by omega) z
        | false =>
          obtain ⟨u1, u2, u3, u4⟩ := un_e m (by omega) t (by omega) i (by omega) (by omega) ht hb
          rw [zit_t (show false.toInt = 0 from rfl), zit_t (by omega), wp _ (by omega) u3]
          by_cases c : 0 < wA q m (t ||| 2 ^ i)
          · have e : grF q m t (i : Int) = true := by unfold grF; rw [Int.toNat_natCast, hb, decide_eq_true c]; rfl
            rw [zfs_t e, Int.toNat_natCast, zit_t c, zit_t (by omega), el_B_quarriedAt_20, w32_i (x := (step : Int) + 1) (by omega)]
            by_cases c2 : (i : Int) + 1 < m
            · rw [zit_t c2, zit_f (by omega)]
            · rw [zit_f c2]
          · have e : grF q m t (i : Int) = false := by unfold grF; rw [Int.toNat_natCast, hb, decide_eq_false c]; rfl
            rw [zfs_f e] at z ⊢
            rw [show (i : Int) + 1 = ((i + 1 : Nat) : Int) from rfl] at z ⊢
            rw [zit_f c]
            exact ih (i + 1) (by omega) z
    rcases fo with fo | ⟨f1, f2, f3⟩
    · omega
    have nn := inn m 0 (by omega) (by rw [show ((0 : Nat) : Int) = 0 from rfl]; omega)
    rw [show ((0 : Nat) : Int) = 0 from rfl] at nn
    rw [el_B_quarriedAt_8, zit_f (by omega), nn]
    obtain ⟨j, hj⟩ := Int.eq_ofNat_of_zero_le f1
    rw [hj] at f3
    have gj : t.testBit j = false ∧ 0 < wA q m (t ||| 2 ^ j) := by
      unfold grF at f3
      rw [Int.toNat_natCast, Bool.and_eq_true] at f3
      refine ⟨?_, of_decide_eq_true f3.2⟩
      have := f3.1
      cases z : t.testBit j with
      | true => rw [z] at this; cases this
      | false => rfl
    obtain ⟨u1, u2, u3, u4⟩ := un_e m (by omega) t (by omega) j (by omega) (by omega) ht gj.1
    have eg : gre q m (n + 1) t = j :: gre q m n (t ||| 2 ^ j) := by
      rw [gre, hj, Int.toNat_natCast]
    rw [eg, hj, Int.toNat_natCast]
    by_cases c : k = step
    · rw [el_B_quarriedAt_8, zit_t (by omega), show k - step = 0 by omega]
      rfl
    · have hw2 : 0 < wAn q m (t ||| 2 ^ j) := by
        have := gj.2
        unfold wA at this
        split at this
        · exact this
        · omega
      rw [show (step : Int) + 1 = ((step + 1 : Nat) : Int) from rfl, q_qat hl h6 hk hL ql wp n (t := t ||| 2 ^ j) (step := step + 1) (by omega) u3 hw2 (by omega) (by omega), show k - step = (k - (step + 1)) + 1 by omega]
      rfl
def vQua (σ st : zH) (x k : Int) : Int := if LyP σ st x 6 then (if k = -1 then wAn (qq σ st (nmL x (nS σ).toNat 0)) (nmL x (nS σ).toNat 0).length 0 else if 0 ≤ k ∧ k < (nmL x (nS σ).toNat 0).length then (if 0 < wAn (qq σ st (nmL x (nS σ).toNat 0)) (nmL x (nS σ).toNat 0).length 0 then (nmL x (nS σ).toNat 0).getD ((gre (qq σ st (nmL x (nS σ).toNat 0)) (nmL x (nS σ).toNat 0).length (nmL x (nS σ).toNat 0).length 0).getD k.toNat 0) 0 else -1) else -1) else -1
theorem q_quarry {d : Nat} {σ st : zH} {a x k : Int} {h : zH} (b : BC σ st a h) (hx : zI32 x) : zWp (m_B_quarry (d + 6) x k h) (fun v h' => v = .inl (vQua σ st x k) ∧ frY h h') := by
  have w := b.2.2.2.1
  have hS0 : 0 ≤ nS σ := w.2.1.2.2.1
  have hS10 : nS σ ≤ 10 := w.2.1.2.2.2.1
  unfold vQua
  rw [em_B_quarry]
  obtain ⟨v1, h1, e1, rfl, rfl⟩ := q_areLying (d := d + 3) (m := 6) b hx
  refine zWp_qi e1 ?_
  by_cases c1 : LyP σ st x 6
  case neg => rw [if_neg c1, if_neg c1]; exact zWp_it rfl (zWp_s ⟨rfl, frY.rf _⟩)
  rw [if_pos c1, if_pos c1]
  refine zWp_nt (by decide) ?_
  by_cases c2 : k < -1
  · rw [if_neg (show ¬ k = -1 by omega), if_neg (show ¬ (0 ≤ k ∧ k < _) by omega)]
    exact zWp_it c2 (zWp_s ⟨rfl, frY.rf _⟩)
  refine zWp_nt c2 ?_
  have ok := okS_of (by decide) hS0 c1
  have e10 := nmL_10 (x := x) (n := (nS σ).toNat) (by omega) c1.1
  have len := nmL_len (x := x) (nS σ).toNat 0
  have is10 : isum (mkI x) 10 0 ≤ 6 := by
    have := nmL_len (x := x) 10 0
    rw [e10] at this
    have := c1.2.1
    omega
  rw [em_B_listQuarried]
  obtain ⟨v2, h2, e2, u1, u2, u3⟩ := q_listQ4 (d := d + 4) hx 10 (i := 0) (L := []) (h := h1) (by decide) (by decide) (fun j y hj => by cases hj) (by show (0 : Int) + _ ≤ 6; omega)
  rw [List.nil_append, e10] at u1 u2
  rw [u1] at e2
  generalize hL : nmL x (nS σ).toNat 0 = L at *
  refine zWp_qi e2 ?_
  have b2 : BC σ st a h2 := by
    have ha := b.2.1.a
    exact ⟨by rw [u3 0 (by decide)]; exact b.1, b.2.1.fr (fun r r1 r2 => u3 r (by omega)), b.2.2.1.fr (fun r r1 r2 => u3 r (by omega)), b.2.2.2⟩
  have p6 : 2 ^ L.length ≤ 2 ^ 6 := Nat.pow_le_pow_right (by decide) ok.2.1
  have p0 : 1 ≤ 2 ^ L.length := Nat.one_le_two_pow
  have ez : w32 (zshl 1 (L.length : Int) - 1) = ((2 ^ L.length - 1 : Nat) : Int) := by
    have h6 := ok.2.1
    rw [show (1 : Int) = ((1 : Nat) : Int) from rfl, zshl_n (by omega) (by omega), Nat.one_mul, w32_i (by omega)]
    omega
  rw [em_B_countWays, ez, show ((2 ^ L.length - 1 : Nat) : Int) = ((2 ^ L.length : Nat) : Int) - 1 by omega]
  have cw := q_cw8 (d := d) (σ := σ) (st := st) (a := a) ok rfl (2 ^ L.length) b2 u2 (Nat.le_refl _) (fun u z1 z2 => by omega)
  rw [show ((2 ^ L.length - 1 : Nat) : Int) = ((2 ^ L.length : Nat) : Int) - 1 by omega] at cw
  refine zWp_bv cw (fun _ h3 u => ?_)
  obtain ⟨f3, wp⟩ := u
  have y3 : frY h1 h3 := fun r hr => by rw [f3 r (by omega), u3 r (by omega)]
  have w0 := wp 0 (Nat.le_refl 0) (by omega)
  rw [show ((0 : Nat) : Int) = 0 from rfl, show wA (qq σ st L) L.length 0 = wAn (qq σ st L) L.length 0 from if_pos (Or.inl rfl)] at w0
  rw [w0]
  by_cases c3 : k = -1
  · refine zWp_it c3 (zWp_it (by decide) (zWp_s ⟨?_, y3⟩))
    rw [if_pos c3]
  refine zWp_nt c3 ?_
  rw [if_neg c3]
  by_cases c4 : k < (L.length : Int)
  case neg =>
    rw [if_neg (show ¬ (0 ≤ k ∧ k < (L.length : Int)) from fun z => c4 z.2)]
    exact zWp_nt c4 (zWp_s ⟨rfl, y3⟩)
  rw [if_pos (show 0 ≤ k ∧ k < (L.length : Int) by omega)]
  refine zWp_it c4 (zWp_it (by decide) ?_)
  by_cases c5 : 0 < wAn (qq σ st L) L.length 0
  case neg =>
    refine zWp_nt c5 (zWp_s ⟨?_, y3⟩)
    rw [if_neg c5]
  refine zWp_it c5 ?_
  rw [if_pos c5]
  obtain ⟨j, hj⟩ := Int.eq_ofNat_of_zero_le (show 0 ≤ k by omega)
  have z0 := (un_0 L.length (by have := ok.2.1; omega)).2
  have qa := q_qat (d := d + 4) (m := L.length) (k := j) (q := qq σ st L) (L := L) (h := h3) rfl ok.2.1 (by omega) (fun i hi => (ok.2.2 i hi).1) (fun i y hi => by rw [f3 378 (by decide)]; exact u2 i y hi) wp L.length (t := 0) (step := 0) (last := -1) z0 (by omega) c5 (by omega) (by omega)
  rw [em_B_quarriedAt, hj]
  refine zWp_qi qa (zWp_s ⟨?_, y3⟩)
  rw [Int.toNat_natCast, Nat.sub_zero]
