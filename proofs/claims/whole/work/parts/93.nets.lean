/-! nets: the class's search -/
theorem bt_low {X Y l : Nat} : ∀ (n i : Nat), i ≤ l → l < i + n → (∀ j, i ≤ j → j < l → X.testBit j = Y.testBit j) → X.testBit l ≠ Y.testBit l → btF X Y n i = X.testBit l
  | 0, i, h1, h2, _, _ => by omega
  | n + 1, i, h1, h2, h3, h4 => by
    rw [btF]
    by_cases e : i = l
    · rw [e, if_neg h4]
    · rw [if_pos (h3 i (Nat.le_refl _) (by omega))]
      exact bt_low n (i + 1) (by omega) (by omega) (fun j a b => h3 j (by omega) b) h4
theorem low_sub {a l j : Nat} (h1 : a.testBit l = true) (h2 : ∀ j, j < l → a.testBit j = false) (hj : l ≤ j) : (a - 1).testBit j = if j = l then false else a.testBit j := by
  have e0 : a % 2 ^ l = 0 := by
    refine Nat.eq_of_testBit_eq (fun i => ?_)
    rw [Nat.testBit_mod_two_pow, Nat.zero_testBit]
    by_cases z : i < l
    · rw [h2 i z, Bool.and_false]
    · rw [decide_eq_false z, Bool.false_and]
  have p : 0 < 2 ^ l := Nat.two_pow_pos l
  obtain ⟨q, hq⟩ : ∃ q, a = 2 ^ l * q := ⟨a / 2 ^ l, by have := Nat.div_add_mod a (2 ^ l); omega⟩
  have eq : a / 2 ^ l = q := by rw [hq]; exact Nat.mul_div_cancel_left q p
  have hodd : q % 2 = 1 := by
    rw [Nat.testBit_eq_decide_div_mod_eq, eq] at h1
    exact of_decide_eq_true h1
  have e1 : (a - 1) / 2 ^ l = q - 1 := by
    have : a - 1 = 2 ^ l * (q - 1) + (2 ^ l - 1) := by
      rw [hq]
      obtain ⟨r, rfl⟩ : ∃ r, q = r + 1 := ⟨q - 1, by omega⟩
      rw [Nat.mul_add, Nat.mul_one, Nat.add_sub_cancel]
      omega
    rw [this, Nat.mul_add_div p, Nat.div_eq_of_lt (by omega), Nat.add_zero]
  by_cases c : j = l
  · rw [if_pos c, c, Nat.testBit_eq_decide_div_mod_eq, e1]
    exact decide_eq_false (by omega)
  · rw [if_neg c, Nat.testBit_eq_decide_div_mod_eq, Nat.testBit_eq_decide_div_mod_eq]
    have hp : 2 ^ j = 2 ^ l * (2 * 2 ^ (j - l - 1)) := by
      rw [show 2 * 2 ^ (j - l - 1) = 2 ^ (j - l - 1 + 1) by rw [Nat.pow_succ, Nat.mul_comm], ← Nat.pow_add]
      congr 1
      omega
    have f1 : (a - 1) / 2 ^ j = (q - 1) / 2 / 2 ^ (j - l - 1) := by rw [hp, ← Nat.div_div_eq_div_mul, e1, ← Nat.div_div_eq_div_mul]
    have f2 : a / 2 ^ j = q / 2 / 2 ^ (j - l - 1) := by rw [hp, ← Nat.div_div_eq_div_mul, eq, ← Nat.div_div_eq_div_mul]
    rw [f1, f2, show (q - 1) / 2 = q / 2 by omega]
theorem keep_b {X b : Nat} (hX : X < 2 ^ 60) (hb : b < 2 ^ 60) : zlc (zland (zland (X : Int) (zlxor (X : Int) (b : Int))) (w64 (-(zlxor (X : Int) (b : Int))))) 0 = 0 ↔ btF X b 60 0 = false := by
  have ha : X ^^^ b < 2 ^ 60 := Nat.xor_lt_two_pow hX hb
  rw [zlxor_n (by omega) (by omega), zland_n (Or.inl (by omega)), zlc_0]
  by_cases e : X = b
  · rw [e, Nat.xor_self, bt_irr]
    have : zland ((b &&& 0 : Nat) : Int) (w64 (-((0 : Nat) : Int))) = 0 := by rw [Nat.and_zero]; rfl
    rw [this]
    exact ⟨fun _ => rfl, fun _ => rfl⟩
  · have ne : X ^^^ b ≠ 0 := fun z => e (by
      refine Nat.eq_of_testBit_eq (fun j => ?_)
      have : (X ^^^ b).testBit j = false := by rw [z, Nat.zero_testBit]
      rw [Nat.testBit_xor] at this
      cases x : X.testBit j <;> cases y : b.testBit j <;> simp [x, y] at this ⊢)
    obtain ⟨l0, hl0⟩ := Nat.exists_testBit_of_ne_zero ne
    obtain ⟨l, hl, least⟩ := leastN (P := fun i => (X ^^^ b).testBit i = true) l0 hl0
    have l60 : l < 60 := by
      refine Classical.byContradiction (fun z => ?_)
      rw [Nat.testBit_lt_two_pow (Nat.lt_of_lt_of_le ha (Nat.pow_le_pow_right (by decide) (by omega)))] at hl
      cases hl
    have leq : ∀ j, j < l → X.testBit j = b.testBit j := fun j hj => by
      have := least j hj
      rw [Nat.testBit_xor] at this
      cases x : X.testBit j <;> cases y : b.testBit j <;> simp [x, y] at this ⊢
    have lne : X.testBit l ≠ b.testBit l := fun z => by
      rw [Nat.testBit_xor, z, Bool.xor_self] at hl
      cases hl
    have lfalse : ∀ j, j < l → (X ^^^ b).testBit j = false := fun j hj => by
      cases z : (X ^^^ b).testBit j with
      | false => rfl
      | true => exact absurd z (least j hj)
    rw [bt_low 60 0 (Nat.zero_le _) (by omega) (fun j _ h => leq j h) lne]
    generalize hA : X ^^^ b = A at *
    have pA : 0 < A := Nat.pos_of_ne_zero ne
    have ew : w64 (-((A : Nat) : Int)) = -((A : Nat) : Int) := w64_i (by omega)
    have en : Int64.ofInt (-((A : Nat) : Int)) = lN (2 ^ 64 - A) := by
      rw [zl_nat]
      congr 1
      omega
    have ez : zland ((X &&& A : Nat) : Int) (-((A : Nat) : Int)) = (((X &&& A) &&& (2 ^ 64 - A) : Nat) : Int) := by
      unfold zland
      rw [zn64, en, wx_and, zlNI]
      have : (X &&& A) &&& (2 ^ 64 - A) ≤ X &&& A := Nat.and_le_left
      have : X &&& A ≤ X := Nat.and_le_left
      omega
    rw [ew, ez]
    have tb : ∀ j, ((X &&& A) &&& (2 ^ 64 - A)).testBit j = (X.testBit l && decide (j = l)) := by
      intro j
      have h64 : A - 1 < 2 ^ 64 := by omega
      rw [Nat.testBit_and, Nat.testBit_and, show 2 ^ 64 - A = 2 ^ 64 - (A - 1 + 1) by omega, Nat.testBit_two_pow_sub_succ h64]
      by_cases c : j < l
      · rw [lfalse j c, Bool.and_false, Bool.false_and, decide_eq_false (show ¬ j = l by omega), Bool.and_false]
      · rw [low_sub hl lfalse (by omega)]
        by_cases c2 : j = l
        · rw [if_pos c2, c2, hl, decide_eq_true (show l < 64 by omega), decide_eq_true rfl]
          cases X.testBit l <;> rfl
        · rw [if_neg c2, decide_eq_false c2, Bool.and_false]
          cases A.testBit j <;> simp
    constructor
    · intro z
      have z' : (X &&& A) &&& (2 ^ 64 - A) = 0 := by omega
      have := tb l
      rw [z', Nat.zero_testBit, decide_eq_true rfl, Bool.and_true] at this
      exact this.symm
    · intro z
      have : (X &&& A) &&& (2 ^ 64 - A) = 0 := Nat.eq_of_testBit_eq (fun j => by rw [tb, z, Bool.false_and, Nat.zero_testBit])
      rw [this]
      rfl
theorem ev_cells {σ : zH} {x : Int} : ∀ tr : zTr, (∃ e ∈ trEv σ tr, 2 ≤ eK e ∧ eN e = x) ↔ x ∈ trCells tr := by
  have one : ∀ (s p : Int) (rs : List zRec), (∃ e ∈ evs s p rs, 2 ≤ eK e ∧ eN e = x) ↔ x ∈ cellsOf rs := by
    intro s p rs
    induction rs with
    | nil => exact ⟨fun ⟨e, h, _⟩ => (by cases h), fun h => (by cases h)⟩
    | cons r rs ih =>
      unfold cellsOf
      constructor
      · rintro ⟨e, he, h2⟩
        rcases List.mem_cons.1 (show e ∈ (s, p, r) :: evs s p rs from he) with z | z
        · rw [z] at h2
          have h3 : 2 ≤ r.1 ∧ r.2.1 = x := h2
          rw [if_pos h3.1, h3.2]
          exact List.mem_cons_self ..
        · have := ih.1 ⟨e, z, h2⟩
          split
          · exact List.mem_cons_of_mem _ this
          · exact this
      · intro h
        by_cases c : 2 ≤ r.1
        · rw [if_pos c] at h
          rcases List.mem_cons.1 h with z | z
          · exact ⟨(s, p, r), List.mem_cons_self .., c, z.symm⟩
          · obtain ⟨e, he, h2⟩ := ih.2 z
            exact ⟨e, List.mem_cons_of_mem _ he, h2⟩
        · rw [if_neg c] at h
          obtain ⟨e, he, h2⟩ := ih.2 h
          exact ⟨e, List.mem_cons_of_mem _ he, h2⟩
  intro tr
  induction tr with
  | nil => exact ⟨fun ⟨e, h, _⟩ => (by cases h), fun h => (by cases h)⟩
  | cons y tr ih =>
    show (∃ e ∈ evs y.1 (σ 6 y.2.1) y.2.2 ++ trEv σ tr, 2 ≤ eK e ∧ eN e = x) ↔ x ∈ cellsOf y.2.2 ++ trCells tr
    rw [List.mem_append, ← one y.1 (σ 6 y.2.1) y.2.2, ← ih]
    constructor
    · rintro ⟨e, he, h⟩
      rcases List.mem_append.1 he with z | z
      · exact Or.inl ⟨e, z, h⟩
      · exact Or.inr ⟨e, z, h⟩
    · rintro (⟨e, he, h⟩ | ⟨e, he, h⟩)
      · exact ⟨e, List.mem_append.2 (Or.inl he), h⟩
      · exact ⟨e, List.mem_append.2 (Or.inr he), h⟩
/-- masks within the cells -/
def MkC (σ : zH) (X : Nat) : Prop := X < 2 ^ 60 ∧ ∀ j : Nat, X.testBit j = true → (j : Int) < nC σ
theorem netM_w {σ st : zH} {X : Nat} (wt : WT σ st) : WT σ (netM st X) := by
  unfold netM
  refine ⟨fun i a b => ?_, fun c a b => ?_, fun i a b => ?_⟩
  · rw [n8_o (by decide)]; exact wt.1 i a b
  · rw [n8_o (a := 5) (by decide), n8_o (a := 6) (by decide), n8_o (a := 9) (by decide), n8_8]
    obtain ⟨u1, u2, u3, u4, u5, u6⟩ := wt.2.1 c a b
    refine ⟨u1, u2, u3, u4, ?_, u6⟩
    split
    · exact Or.inr rfl
    · exact u5
  · rw [n8_o (by decide)]; exact wt.2.2 i a b
theorem CT.net {σ st : zH} (w : WS σ) {T : Int} {h : zH} {X : Nat} (t : CT σ st T h) (hX : MkC σ X) : CT σ (netM st X) T (zset h T 7 (zlor (h T 7) (X : Int))) := by
  have hn := w.n
  have hS0 : 0 ≤ nS σ := w.2.1.2.2.1
  obtain ⟨c0, c1, c2, c3, c4, ⟨N, n1, n2, n3⟩, c6, c7⟩ := t
  unfold netM
  refine ⟨c0, fun i a b => ?_, fun i a b => ?_, fun i a b => ?_, fun i a b => ?_, ⟨N ||| X, ?_, Nat.or_lt_two_pow n2 hX.1, fun i => ?_⟩, ?_, ?_⟩
  · rw [zset_o (by omega), zset_o (by omega), zset_o (by omega), n8_o (a := 1) (by decide), n8_o (a := 2) (by decide), n8_o (a := 3) (by decide)]; exact c1 i a b
  · rw [zset_o (by omega), sAt_cg (b := st) (fun j _ _ => by rw [n8_o (by decide)]) i hS0]; exact c2 i a b
  · rw [zset_o (by omega), zset_o (by omega), n8_o (a := 5) (by decide), n8_o (a := 6) (by decide)]; exact c3 i a b
  · rw [zset_o (by omega), n8_o (by decide)]; exact c4 i a b
  · rw [zset_e, n1, zlor_n (by omega) (by have := hX.1; omega)]
  · have := n3 i
    rw [Nat.testBit_or, this, n8_8]
    by_cases q : X.testBit i = true
    · have := hX.2 i q
      rw [q, Bool.or_true, if_pos ⟨by omega, by rw [Int.toNat_natCast]; exact q⟩]
      exact (decide_eq_true ⟨by omega, rfl⟩).symm
    · have q' : X.testBit i = false := by simpa using q
      rw [q', Bool.or_false, if_neg (fun z => by rw [Int.toNat_natCast] at z; exact q z.2)]
  · rw [zset_j (by decide)]
    obtain ⟨M, m1, m2, m3⟩ := c6
    exact ⟨M, m1, m2, fun i => by rw [n8_o (by decide)]; exact m3 i⟩
  · rw [zset_j (by decide), n8_o (by decide)]; exact c7
def NS (σ st : zH) (a : Int) (h : zH) : Prop := h 331 2 = a ∧ h 331 3 = 67 ∧ CS σ a h ∧ CT σ st 67 h ∧ WS σ ∧ WT σ st
def frN (h h' : zH) : Prop := (∀ r, ¬ (331 ≤ r ∧ r < 343) → h' r = h r) ∧ ∀ q, ¬ (q = 5 ∨ q = 6) → h' 331 q = h 331 q
theorem frN.rf (h : zH) : frN h h := ⟨fun _ _ => rfl, fun _ _ => rfl⟩
theorem frN.t {a b c : zH} (h1 : frN a b) (h2 : frN b c) : frN a c := ⟨fun r x => (h2.1 r x).trans (h1.1 r x), fun q x => (h2.2 q x).trans (h1.2 q x)⟩
theorem NS.fr {σ st : zH} {a : Int} {h h' : zH} (c : NS σ st a h) (f : frN h h') : NS σ st a h' := by
  obtain ⟨c1, c2, c3, c4, c5⟩ := c
  have ha := c3.a
  exact ⟨by rw [f.2 2 (by decide)]; exact c1, by rw [f.2 3 (by decide)]; exact c2, c3.fr (fun r r1 r2 => f.1 r (by omega)), c4.fr (fun r r1 r2 => f.1 r (by omega)), c5⟩
theorem ma332 : MA 332 := Or.inr (Or.inl rfl)
theorem sa335 : SA 335 := by unfold SA; omega
theorem q_trail2 {d : Nat} {σ st : zH} {a : Int} {X : Nat} (hX : MkC σ X) : ∀ (n : Nat) {t : Int} {h : zH}, NS σ st a h → 0 ≤ t → t + n = nT σ → zWp (l_NetSearch_trailToRuin_2 (d + 4) 331 (X : Int) t h) (fun v h' => (∃ E : Nat, v = .inr (.inl (E : Int)) ∧ E < 2 ^ 60 ∧ ∀ i : Nat, E.testBit i = (trlF σ st X n t).contains (i : Int)) ∧ (∀ r, ¬ (332 ≤ r ∧ r < 343) → h' r = h r))
  | 0, t, h, c, ht, hh => by
    obtain ⟨c1, c2, c3, c4, w, wt⟩ := c
    have ha := c3.a
    have e13 : h (a + 8) 13 = nT σ := c3.g 8 (by decide)
    rw [el_NetSearch_trailToRuin_2, c1, e13]
    exact zWp_po (by decide) (zWp_po (by omega) (zWp_po (by omega) (zWp_it (by decide) (zWp_nt (by omega) (zWp_s ⟨⟨0, rfl, by decide, fun i => by rw [Nat.zero_testBit]; rfl⟩, fun _ _ => rfl⟩)))))
  | n + 1, t, h, c, ht, hh => by
    have c0 := c
    obtain ⟨c1, c2, c3, c4, w, wt⟩ := c
    have ha := c3.a
    have hT6 : nT σ ≤ 6 := w.2.1.2.2.2.2.2.2.2.1
    have hS0 : 0 ≤ nS σ := w.2.1.2.2.1
    have e13 : h (a + 8) 13 = nT σ := c3.g 8 (by decide)
    have hth := w.2.2.2.2.2.2.1 t ht (by omega)
    rw [el_NetSearch_trailToRuin_2, c1, e13, c2, show (331 + 4 : Int) = 335 from rfl, show (331 + 1 : Int) = 332 from rfl, w32_i (x := t + 1) (by omega)]
    refine zWp_po (by decide) (zWp_po (by omega) (zWp_po (by omega) (zWp_it (by decide) (zWp_it (by omega) (zWp_po (by decide) (zWp_po (by decide) (zWp_po (by decide) (zWp_bv (q_copyT (d := d + 3) w sa335 (by decide) c4) (fun _ h1 u1 => ?_)))))))))
    obtain ⟨t1, _, f1⟩ := u1
    refine zWp_po (by decide) (zWp_po (by decide) (zWp_po (by decide) (zWp_lt fun h2 e2 => ?_)))
    have t2 : CT σ (netM st X) 335 h2 := by rw [e2]; exact t1.net w hX
    have r2 : ∀ r, ¬ (335 ≤ r ∧ r < 343) → h2 r = h r := fun r hr => by rw [e2, zset_n (by omega), f1 r (by omega)]
    have g2 : CS σ a h2 := c3.fr (fun r r1 r2' => r2 r (by omega))
    have e2s : h2 331 2 = a := by rw [r2 331 (by decide)]; exact c1
    have e7 : h2 (a + 8) 7 = nS σ := g2.g 8 (by decide)
    have e18 : h2 (a + 18) t = σ 18 t := g2.g 18 (by decide)
    rw [e2s, e7, e18]
    refine zWp_po (by decide) (zWp_po (by decide) (zWp_po (by decide) (zWp_po (by decide) (zWp_po (by omega) (zWp_po (by omega) (zWp_it (by decide) (zWp_po (by decide) (zWp_po (by omega) (zWp_po (by omega) (zWp_it (by omega) (zWp_po (by decide) (zWp_bv (q_pushSome (d := d) (n := (nS σ).toNat) (b := true) w ma332 g2 t2 (netM_w wt) (by omega) rfl (Int.le_refl _) (Int.le_refl _) (by omega)) (fun _ h3 u3 => ?_)))))))))))))
    obtain ⟨pi, f3⟩ := u3
    have r3 : ∀ r, ¬ (332 ≤ r ∧ r < 343) → h3 r = h r := fun r hr => by rw [f3 r (by omega), r2 r (by omega)]
    obtain ⟨q1, q2, q3, ⟨m1, m2, m3, m4, m5, ⟨N, n1, n2, n3⟩, _⟩, q5⟩ := pi
    have ru := ru_tr (σ := σ) (sprF σ (σ 18 t) true (nS σ).toNat 0 (netM st X)).2
    have rl := rem_le (st := netM st X) w
    have ru2 := (sprF_ok w (p := σ 18 t) (b := true) (nS σ).toNat (i := 0) (st := netM st X) (netM_w wt) (Int.le_refl _) (by omega)).2.1
    have rp := (rem_le (st := (sprF σ (σ 18 t) true (nS σ).toNat 0 (netM st X)).1) w).1
    rw [m2, w32_i (x := esum eRu (trEv σ (sprF σ (σ 18 t) true (nS σ).toNat 0 (netM st X)).2)) (by omega), trlF]
    refine zWp_po (by decide) (zWp_po (by decide) ?_)
    cases hr : hasRu (sprF σ (σ 18 t) true (nS σ).toNat 0 (netM st X)).2 with
    | true =>
      refine zWp_it (ru.2.2.2 hr) (zWp_po (by decide) (zWp_po (by decide) (zWp_s ⟨⟨N, by rw [n1], n2, fun i => ?_⟩, r3⟩)))
      show N.testBit i = (trCells (sprF σ (σ 18 t) true (nS σ).toNat 0 (netM st X)).2).contains (i : Int)
      have k := (n3 i).trans (ev_cells (x := (i : Int)) _)
      cases z : (trCells (sprF σ (σ 18 t) true (nS σ).toNat 0 (netM st X)).2).contains (i : Int) with
      | true => exact k.2 (List.contains_iff_mem.1 z)
      | false =>
        cases y : N.testBit i with
        | false => rfl
        | true => rw [List.contains_iff_mem.2 (k.1 y)] at z; cases z
    | false =>
      refine zWp_nt (fun z => by rw [ru.2.2.1 z] at hr; cases hr) ?_
      have c3' : NS σ st a h3 := c0.fr ⟨fun r hr => r3 r (by omega), fun q hq => by rw [r3 331 (by decide)]⟩
      exact zWp_m (q_trail2 hX n c3' (by omega) (by omega)) (fun v h' u => ⟨u.1, fun r hr => by rw [u.2 r hr, r3 r hr]⟩)
def BHn (B : Option Nat) (h : zH) : Prop := match B with
  | none => h 331 5 = 0
  | some b => h 331 5 = 1 ∧ h 331 6 = (b : Int) ∧ b < 2 ^ 60
theorem BHn.fr {B : Option Nat} {h h' : zH} (c : BHn B h) (hr : h' 331 = h 331) : BHn B h' := by
  unfold BHn at c ⊢
  rw [hr]
  exact c
theorem q_keepF {d : Nat} {X : Nat} {B : Option Nat} {h : zH} (hX : X < 2 ^ 60) (b : BHn B h) : zWp (m_NetSearch_keepIfFirst (d + 1) 331 (X : Int) h) (fun _ h' => BHn (kfB B X) h' ∧ frN h h') := by
  have st : zWp (l_NetSearch_keepIfFirst_25 d 331 (X : Int) h) (fun _ h' => BHn (some X) h' ∧ frN h h') := by
    rw [el_NetSearch_keepIfFirst_25]
    refine zWp_po (by decide) (zWp_lt fun h1 e1 => zWp_po (by decide) (zWp_lt fun h2 e2 => zWp_s ⟨⟨by rw [e2, zset_e], by rw [e2, zset_j (by decide), e1, zset_e], hX⟩, fun r hr => by rw [e2, zset_n (by omega), e1, zset_n (by omega)], fun q hq => by rw [e2, zset_j (by omega), e1, zset_j (by omega)]⟩))
  rw [em_NetSearch_keepIfFirst]
  refine zWp_po (by decide) (zWp_po (by decide) ?_)
  cases B with
  | none => exact zWp_it b st
  | some y =>
    obtain ⟨b1, b2, b3⟩ := b
    rw [b1, b2]
    refine zWp_nt (by decide) ?_
    show zWp _ (fun _ h' => BHn (if btF X y 60 0 = true then some X else some y) h' ∧ frN h h')
    cases z : btF X y 60 0 with
    | true =>
      rw [if_pos rfl]
      exact zWp_nt (fun q => by rw [(keep_b hX b3).1 q] at z; cases z) st
    | false =>
      rw [if_neg Bool.false_ne_true]
      exact zWp_it ((keep_b hX b3).2 z) (zWp_s ⟨⟨b1, b2, b3⟩, frN.rf h⟩)
theorem lor_n {X i : Nat} (hX : X < 2 ^ 60) (hi : i < 60) : zlor (X : Int) (zlshl 1 (i : Int)) = ((X ||| 2 ^ i : Nat) : Int) := by
  have h2 : 2 ^ i < 2 ^ 60 := Nat.pow_lt_pow_right (by decide) hi
  rw [show (1 : Int) = ((1 : Nat) : Int) from rfl, zlshl_n (by omega) (by omega), Nat.one_mul, zlor_n (by omega) (by omega)]
theorem lclr_n {X i : Nat} (hX : X < 2 ^ 60) (hi : i < 60) : zland (X : Int) (zlxor (zlshl 1 (i : Int)) (-1)) = ((clr X i : Nat) : Int) := by
  have h2 : 2 ^ i < 2 ^ 60 := Nat.pow_lt_pow_right (by decide) hi
  have e1 : zlshl 1 (i : Int) = ((2 ^ i : Nat) : Int) := by rw [show (1 : Int) = ((1 : Nat) : Int) from rfl, zlshl_n (by omega) (by omega), Nat.one_mul]
  have e2 : Int64.ofInt (zlxor ((2 ^ i : Nat) : Int) (-1)) = lN (2 ^ 64 - (2 ^ i + 1)) := by
    unfold zlxor
    rw [Int64.ofInt_toInt, zn64, zl_nat (-1), wx_xor]
    congr 1
    refine Nat.eq_of_testBit_eq (fun j => ?_)
    rw [Nat.testBit_xor, Nat.testBit_two_pow_sub_succ (by omega), show ((-1 : Int) % 18446744073709551616).toNat = 2 ^ 64 - (0 + 1) from rfl, Nat.testBit_two_pow_sub_succ (by decide), Nat.zero_testBit]
    by_cases c : j < 64
    · rw [decide_eq_true c]
      cases (2 ^ i).testBit j <;> rfl
    · rw [decide_eq_false c, Bool.false_and, Bool.false_and, Nat.testBit_lt_two_pow (Nat.lt_of_lt_of_le h2 (Nat.pow_le_pow_right (by decide) (by omega)))]
      rfl
  unfold zland
  rw [e1, zn64, e2, wx_and, zlNI]
  · rfl
  · exact Nat.lt_of_le_of_lt Nat.and_le_left (by omega)
theorem land_n {E X i : Nat} (hE : E < 2 ^ 60) (hX : X < 2 ^ 60) (hi : i < 60) : zlc (zland (zland (E : Int) (X : Int)) (zlshl 1 (i : Int))) 0 = 0 ↔ (E.testBit i && X.testBit i) = false := by
  have h2 : 2 ^ i < 2 ^ 60 := Nat.pow_lt_pow_right (by decide) hi
  have e1 : zlshl 1 (i : Int) = ((2 ^ i : Nat) : Int) := by rw [show (1 : Int) = ((1 : Nat) : Int) from rfl, zlshl_n (by omega) (by omega), Nat.one_mul]
  rw [e1, zland_n (Or.inl (by omega)), zland_n (Or.inr (by omega)), zlc_0]
  have tb : ∀ j, ((E &&& X) &&& 2 ^ i).testBit j = ((E.testBit i && X.testBit i) && decide (i = j)) := by
    intro j
    rw [Nat.testBit_and, Nat.testBit_and, Nat.testBit_two_pow]
    by_cases c : i = j
    · rw [c]
    · rw [decide_eq_false c, Bool.and_false, Bool.and_false]
  constructor
  · intro z
    have z' : (E &&& X) &&& 2 ^ i = 0 := by omega
    have := tb i
    rw [z', Nat.zero_testBit, decide_eq_true rfl, Bool.and_true] at this
    exact this.symm
  · intro z
    have : (E &&& X) &&& 2 ^ i = 0 := Nat.eq_of_testBit_eq (fun j => by rw [tb, z, Bool.false_and, Nat.zero_testBit])
    rw [this]
    rfl
theorem MkC.or {σ : zH} {X i : Nat} (m : MkC σ X) (h60 : i < 60) (hi : (i : Int) < nC σ) : MkC σ (X ||| 2 ^ i) := by
  refine ⟨Nat.or_lt_two_pow m.1 (Nat.pow_lt_pow_right (by decide) h60), fun j hj => ?_⟩
  rw [or_t, Bool.or_eq_true] at hj
  rcases hj with z | z
  · exact m.2 j z
  · rw [← of_decide_eq_true z]; exact hi
theorem trl_in {σ st : zH} (w : WS σ) (wt : WT σ st) {X : Nat} : ∀ (n : Nat) (t : Int), ∀ x ∈ trlF σ st X n t, 0 ≤ x ∧ x < nC σ
  | 0, _, x, h => by cases h
  | n + 1, t, x, h => by
    have hS0 : 0 ≤ nS σ := w.2.1.2.2.1
    rw [trlF] at h
    cases hr : hasRu (sprF σ (σ 18 t) true (nS σ).toNat 0 (netM st X)).2 with
    | true =>
      rw [hr] at h
      obtain ⟨e, he, _, h2⟩ := (ev_cells (σ := σ) (x := x) _).2 h
      have ok := trEv_ok w (sprF_tr w (p := σ 18 t) (b := true) (nS σ).toNat (i := 0) (netM_w wt) (Int.le_refl _) (by omega)) e he
      rw [← h2]
      exact ok.2.2.1
    | false =>
      rw [hr] at h
      exact trl_in w wt n (t + 1) x h
theorem q_grow1 {e : Nat} {σ st : zH} {a : Int} {k : Nat} {ch fr : Nat} {B : Option Nat} {h : zH} (hc : MkC σ ch) (ns : NS σ st a h) (b : BHn B h) (N : ∀ (E : Nat) (h1 : zH), E < 2 ^ 60 → (∀ i : Nat, E.testBit i = (trl σ st ch).contains (i : Int)) → safeM σ st ch = false → frN h h1 → BHn B h1 → zWp (if 0 < (k : Int) then (l_NetSearch_grow_32 (e + 5) 331 ch fr k E fr 0 h1) else some (.inl 0, h1)) (fun _ h' => BHn ((gro σ st (nC σ).toNat k ch fr).foldl kfB B) h' ∧ frN h h')) : zWp (m_NetSearch_grow (e + 6) 331 (ch : Int) (fr : Int) (k : Int) h) (fun _ h' => BHn ((gro σ st (nC σ).toNat k ch fr).foldl kfB B) h' ∧ frN h h') := by
  have w := ns.2.2.2.2.1
  have wt := ns.2.2.2.2.2
  have hT0 : 0 ≤ nT σ := w.2.1.2.2.2.2.2.2.1
  rw [em_NetSearch_grow, em_NetSearch_trailToRuin]
  obtain ⟨v1, h1, e1, ⟨E, rfl, E1, E2⟩, f1⟩ := q_trail2 (d := e) hc (nT σ).toNat (t := 0) ns (Int.le_refl _) (by omega)
  have n1 : frN h h1 := ⟨fun r hr => f1 r (by omega), fun q _ => by rw [f1 331 (by decide)]⟩
  have b1 := b.fr (h' := h1) (f1 331 (by decide))
  refine zWp_po (by decide) (zWp_ql e1 ?_)
  have ts := trl_safe (σ := σ) (st := st) (X := ch) (nT σ).toNat 0
  cases sf : safeM σ st ch with
  | true =>
    have z := ts.2 sf
    have eE : E = 0 := Nat.eq_of_testBit_eq (fun i => by rw [E2, z, Nat.zero_testBit]; rfl)
    have eg : gro σ st (nC σ).toNat k ch fr = [ch] := by
      cases k with
      | zero => rw [gro, sf]
      | succ k => rw [gro, sf]
    rw [eg]
    refine zWp_it (by rw [zlc_0, eE]; rfl) (zWp_po (by decide) (zWp_bv (q_keepF (d := e + 4) hc.1 b1) (fun _ h2 u => zWp_s ⟨u.1, n1.t u.2⟩)))
  | false =>
    have ne : ¬ (E : Int) = 0 := fun z => by
      have z' : E = 0 := by omega
      have : trlF σ st ch (nT σ).toNat 0 = [] := List.eq_nil_iff_forall_not_mem.2 (fun x hx => by
        have hx0 := trl_in w wt _ _ x hx
        have := E2 x.toNat
        rw [z', Nat.zero_testBit, show ((x.toNat : Nat) : Int) = x by omega, List.contains_iff_mem.2 hx] at this
        cases this)
      have := ts.1 this
      unfold safeM safeA at sf
      rw [this] at sf
      cases sf
    refine zWp_nt (by rw [zlc_0]; exact ne) (N E h1 E1 E2 sf n1 b1)
theorem q_grow {d : Nat} {σ st : zH} {a : Int} : ∀ (k : Nat) {ch fr : Nat} {B : Option Nat} {h : zH}, k ≤ 3 → MkC σ ch → fr < 2 ^ 60 → NS σ st a h → BHn B h → zWp (m_NetSearch_grow (d + k + 6) 331 (ch : Int) (fr : Int) (k : Int) h) (fun _ h' => BHn ((gro σ st (nC σ).toNat k ch fr).foldl kfB B) h' ∧ frN h h') := by
  intro k
  induction k with
  | zero =>
    intro ch fr B h hk hc hf ns b
    refine q_grow1 (e := d + 0) (k := 0) hc ns b (fun E h1 E1 E2 sf n1 b1 => ?_)
    refine zWp_nt (by decide) (zWp_s ⟨?_, n1⟩)
    rw [gro, sf]
    exact b1
  | succ k ih =>
    intro ch fr B h hk hc hf ns b
    refine q_grow1 (e := d + (k + 1)) (k := k + 1) hc ns b (fun E h1 E1 E2 sf n1 b1 => ?_)
    have w := ns.2.2.2.2.1
    have hn := w.n
    refine zWp_it (by omega) ?_
    have eg : gro σ st (nC σ).toNat (k + 1) ch fr = groL (fun a b => gro σ st (nC σ).toNat k a b) (trl σ st ch) ch fr (nC σ).toNat 0 fr := by rw [gro, sf]
    rw [eg]
    have lp : ∀ (n : Nat) {i un : Nat} {B : Option Nat} {h2 : zH}, i + n = (nC σ).toNat → un < 2 ^ 60 → NS σ st a h2 → BHn B h2 → zWp (l_NetSearch_grow_32 (d + (k + 1) + 5) 331 (ch : Int) (fr : Int) ((k + 1 : Nat) : Int) (E : Int) (un : Int) (i : Int) h2) (fun _ h' => BHn ((groL (fun a b => gro σ st (nC σ).toNat k a b) (trl σ st ch) ch fr n i un).foldl kfB B) h' ∧ frN h2 h') := by
      intro n
      induction n with
      | zero =>
        intro i un B h2 hi hu ns2 b2
        have ha := ns2.2.2.1.a
        rw [el_NetSearch_grow_32, ns2.1]
        exact zWp_po (by decide) (zWp_po (by omega) (zWp_qi (q_cells ns2.2.2.1 w) (zWp_nt (by omega) (zWp_s ⟨b2, frN.rf h2⟩))))
      | succ n ih2 =>
        intro i un B h2 hi hu ns2 b2
        have ha := ns2.2.2.1.a
        have ln := land_n (i := i) E1 hf (by omega)
        rw [E2 i] at ln
        rw [el_NetSearch_grow_32, ns2.1, lor_n hc.1 (by omega), lclr_n hu (by omega), w32_i (x := (i : Int) + 1) (by omega), show w32 (((k + 1 : Nat) : Int) - 1) = (k : Int) by rw [w32_i (by omega)]; omega, show (i : Int) + 1 = ((i + 1 : Nat) : Int) from rfl]
        refine zWp_po (by decide) (zWp_po (by omega) (zWp_qi (q_cells ns2.2.2.1 w) (zWp_it (by omega) ?_)))
        rw [groL]
        cases q : ((trl σ st ch).contains (i : Int) && fr.testBit i) with
        | false =>
          exact zWp_it (ln.2 q) (ih2 (by omega) hu ns2 b2)
        | true =>
          refine zWp_nt (fun z => by rw [ln.1 z] at q; cases q) (zWp_po (by decide) ?_)
          rw [show d + (k + 1) + 5 = d + k + 6 by omega] at *
          refine zWp_bv (ih (by omega) (hc.or (by omega) (by omega)) (clr_b hu) ns2 b2) (fun _ h3 u3 => ?_)
          refine zWp_m (ih2 (by omega) (clr_b hu) (ns2.fr u3.2) u3.1) (fun _ h4 u4 => ⟨?_, u3.2.t u4.2⟩)
          rw [List.foldl_append]
          exact u4.1
    exact zWp_m (lp (nC σ).toNat (i := 0) (by omega) hf (ns.fr n1) b1) (fun _ h' u => ⟨u.1, n1.t u.2⟩)
