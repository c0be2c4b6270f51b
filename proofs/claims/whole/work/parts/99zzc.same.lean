/-! sums and tests of class and reference are worth the same -/
theorem pd_h {A : List zTk} {s : zRd} (h : pdS A s ≠ 0) : Hop pM pM (pdS A s) := by
  rcases pdS_v h with z | z | z <;> rw [z.2] <;> exact hop_m (by decide)
theorem sm_h {A : List zTk} {s : zRd} (h : smC A s ≠ 0) : Hop pM pM (smC A s) := by
  rcases smC_v h with z | z <;> rw [z.2] <;> exact hop_m (by decide)
theorem an_h {A : List zTk} {s : zRd} (h : anC A s ≠ 0) : Hop p01 p01 (anC A s) := by rw [(an_v h).2]; exact hop_l (Or.inl rfl)
theorem or_h {A : List zTk} {s : zRd} (h : orC A s ≠ 0) : Hop p01 p01 (orC A s) := by rw [(or_v h).2]; exact hop_l (Or.inr rfl)
theorem rl_summ {A : List zTk} {inn : Option (zLx → zLx)} {d : Nat} (ok : AOk A) (hg : ∀ g, inn = some g → Gd A g ∧ Sq g g ∧ Rl A (VV pM d) g g) : Sq (smmA A inn) (smmA A inn) ∧ Rl A (VV pM (d + 3)) (smmA A inn) (smmA A inn) := by
  have hi : ∀ g, inn = some g → Gd A g := fun g z => (hg g z).1
  have h2 : ∀ g1 g2, inn = some g1 → inn = some g2 → Gd A g1 ∧ Sq g1 g2 ∧ Rl A (VV pM d) g1 g2 := fun g1 g2 z1 z2 => by
    have e : g1 = g2 := Option.some.inj (z1.symm.trans z2)
    rw [← e]
    exact hg g1 z1
  have sp : Sq (ptA A inn) (ptA A inn) := sq_part Iff.rfl (fun g1 g2 z1 z2 => (h2 g1 g2 z1 z2).2.1)
  have rp : Rl A (VV pM (d + 1)) (ptA A inn) (ptA A inn) := rl_part ok Iff.rfl h2
  have sr : Sq (prA A inn) (prA A inn) := sq_co sp
  have rr : Rl A (VV pM (d + 2)) (prA A inn) (prA A inn) := rl_co ok pd_K (gd_part ok hi) sp rp (fun s z => pd_h z)
  exact ⟨sq_co sr, rl_co ok sm_K (gd_prod ok hi) sr rr (fun s z => sm_h z)⟩
theorem rl_sum {A : List zTk} (ok : AOk A) : ∀ k, Sq (sumA A k) (sumA A k) ∧ Rl A (VV pM (3 * k + 3)) (sumA A k) (sumA A k)
  | 0 => rl_summ (d := 0) ok (fun g z => nomatch z)
  | k + 1 => by
    have i := rl_sum ok k
    exact rl_summ (d := 3 * k + 3) (inn := some (sumA A k)) ok (fun g z => by have e := Option.some.inj z; rw [← e]; exact ⟨gd_sum ok k, i.1, i.2⟩)
theorem sq_f1 {A : List zTk} {sum : zLx → zLx} {i1 i2 : Option (zLx → zLx)} (hs : Sq sum sum) (hn : i1 = none ↔ i2 = none) (hg : ∀ g1 g2, i1 = some g1 → i2 = some g2 → Sq g1 g2) : Sq (f1A A sum i1) (f1A A sum i2) := by
  intro s C1 C2
  unfold f1A
  dsimp only
  by_cases c1 : sgS A 4 91 s = true
  · rw [if_pos c1, if_pos c1]
    cases i1 with
    | none => rw [hn.1 rfl]; rfl
    | some g1 =>
      cases i2 with
      | none => exact absurd (hn.2 rfl) (by intro w; cases w)
      | some g2 =>
        show ndS A 4 93 (g2 (advS s, C2)).1 = ndS A 4 93 (g1 (advS s, C1)).1
        rw [hg g1 g2 rfl rfl (advS s) C1 C2]
  rw [if_neg c1, if_neg c1]
  by_cases c2 : sgS A 2 21 s = true
  · rw [if_pos c2, if_pos c2]
  rw [if_neg c2, if_neg c2]
  dsimp only
  rw [hs s C1 C2]
  exact hs _ _ _
theorem rl_f1 {A : List zTk} {sum : zLx → zLx} {i1 i2 : Option (zLx → zLx)} {ds dt e : Nat} (ok : AOk A) (gs : Gd A sum) (hs : Sq sum sum) (rs : Rl A (VV pM ds) sum sum) (hn : i1 = none ↔ i2 = none) (hg : ∀ g1 g2, i1 = some g1 → i2 = some g2 → Gd A g1 ∧ Sq g1 g2 ∧ Rl A (VV p01 dt) g1 g2) (l1 : ds + 1 ≤ e) (l2 : dt ≤ e) : Rl A (VV p01 e) (f1A A sum i1) (f1A A sum i2) := by
  intro s C1 C2 h1 h0 h2 h3
  unfold f1A
  dsimp only
  by_cases c1 : sgS A 4 91 s = true
  · rw [if_pos c1, if_pos c1]
    have gz := sg_k (by decide) c1
    cases i1 with
    | none => exact fun k => absurd k (dd_f5 (sg_a (by decide) c1))
    | some g1 =>
      cases i2 with
      | none => exact absurd (hn.2 rfl) (by intro w; cases w)
      | some g2 =>
        obtain ⟨gd, sq, rl⟩ := hg g1 g2 rfl rfl
        intro k
        obtain ⟨X, Y, e1, e2, m1, m2, p⟩ := rl_br (x := 93) ok gd rl h1 gz.1 (by rw [gz.2.1]; decide) (by rw [gz.2.1]; decide) h2 h3 k
        exact ⟨X, Y, e1, e2, m1, m2, p.w l2⟩
  rw [if_neg c1, if_neg c1]
  by_cases c2 : sgS A 2 21 s = true
  · rw [if_pos c2, if_pos c2]
    have gz := sg_k (by decide) c2
    exact fun _ => rl_1 ok h1 gz.1 (by rw [gz.2.1]; decide) h2 h3 (VV.all.w (by omega))
  rw [if_neg c2, if_neg c2]
  dsimp only
  intro k
  have b1 := gs.x (x := (s, C1)) h1 h0
  have b2 := bd_cm ok b1.1.1 b1.1.2
  have b3 := gs.x (x := ((cmC A (sum (s, C1)).1).2, (sum (s, C1)).2)) b2.1.1 b2.1.2
  have k2 := b3.l k
  have k1 := b2.l k2
  have p2 := b2.2.2 k1 k2
  have bl := b3.1.1
  have nz : cmA A (sum (s, C1)).1 ≠ 0 := by
    intro z
    have e := (cm_e (A := A) (s := (sum (s, C1)).1)).2
    rw [if_pos z] at e
    rw [e] at k2
    exact dd_dS k2
  obtain ⟨X, Y, e1, e2, m1, m2, v⟩ := rs s C1 C2 h1 h0 h2 h3 k1
  rw [hs s C1 C2, e1, e2]
  rw [e1] at k bl
  have p3 := b3.2.2 k2
  rw [e1] at p3
  obtain ⟨X', Y', e1', e2', m1', m2', v'⟩ := rs (cmC A (sum (s, C1)).1).2 (C1 ++ X) (C2 ++ Y) b2.1.1 b2.1.2 (by rw [List.length_append]; omega) (by rw [List.length_append]; omega) k
  have hA := ok.1
  have hc : -15 ≤ cmA A (sum (s, C1)).1 ∧ cmA A (sum (s, C1)).1 ≤ -13 := by
    have z := nz
    unfold cmA at z ⊢
    split
    · decide
    split
    · decide
    split
    · decide
    · rename_i z1 z2 z3
      rw [if_neg z1, if_neg z2, if_neg z3] at z
      exact absurd rfl z
  rw [(cm_e (A := A) (s := (sum (s, C1)).1)).1, e1', e2', put_a (by rw [List.length_append, List.length_append]; omega), put_a (by rw [List.length_append, List.length_append]; omega)]
  refine ⟨X ++ X' ++ [cmA A (sum (s, C1)).1], Y ++ Y' ++ [cmA A (sum (s, C1)).1], by rw [List.append_assoc, List.append_assoc, List.append_assoc], by rw [List.append_assoc, List.append_assoc, List.append_assoc], ?_, ?_, VV.op v v' (hop_c hc) (by omega) (by omega) (by omega)⟩
  · rw [List.length_append, List.length_append]; show X.length + X'.length + 1 + s.1 ≤ _; omega
  · rw [List.length_append, List.length_append]; show Y.length + Y'.length + 1 + s.1 ≤ _; omega
theorem nt_q {n : Bool} : n = true ↔ ((if n = true then 1 else 0) + 0) % 2 = 1 := by cases n <;> decide
theorem nt_p {A : List zTk} : ∀ (f : Nat) (n : Bool) (s : zRd), (ntA A f n s).2 = (ntN A f s).2 ∧ ((ntA A f n s).1 = true ↔ ((if n = true then 1 else 0) + (ntN A f s).1) % 2 = 1) ∧ (ntN A f s).1 + s.1 = (ntN A f s).2.1
  | 0, n, s => ⟨rfl, nt_q, Nat.zero_add _⟩
  | f + 1, n, s => by
    rw [ntA, ntN]
    by_cases z : sgS A 2 20 s = true
    · rw [if_pos z, if_pos z]
      obtain ⟨i1, i2, i3⟩ := nt_p f (!n) (advS s)
      refine ⟨i1, ?_, ?_⟩
      · rw [i2]
        cases n with
        | true =>
          show (0 + (ntN A f (advS s)).1) % 2 = 1 ↔ (1 + ((ntN A f (advS s)).1 + 1)) % 2 = 1
          omega
        | false =>
          show (1 + (ntN A f (advS s)).1) % 2 = 1 ↔ (0 + ((ntN A f (advS s)).1 + 1)) % 2 = 1
          omega
      · have ea : (advS s).1 = s.1 + 1 := by rw [adv_e (sg_k (by decide) z).1]
        show (ntN A f (advS s)).1 + 1 + s.1 = (ntN A f (advS s)).2.1
        omega
    · rw [if_neg z, if_neg z]
      exact ⟨rfl, nt_q, Nat.zero_add _⟩
theorem pn_a : ∀ (m : Nat) (C : List Int), C.length + m ≤ 1600 → pnA m C = C ++ rpN m
  | 0, C, _ => (List.append_nil C).symm
  | m + 1, C, h => by
    rw [pnA, put_a (by omega), pn_a m (C ++ [-18]) (by rw [List.length_append]; show C.length + 1 + m ≤ 1600; omega), List.append_assoc]
    rfl
theorem sq_ft {A : List zTk} {sum : zLx → zLx} {i1 i2 : Option (zLx → zLx)} (h : Sq (f1A A sum i1) (f1A A sum i2)) : Sq (ftA A sum i1) (ftB A sum i2) := by
  intro s C1 C2
  show (f1A A sum i2 ((ntN A 1600 s).2, C2)).1 = (f1A A sum i1 ((ntA A 1600 false s).2, C1)).1
  rw [(nt_p 1600 false s).1]
  exact h _ _ _
theorem rl_ft {A : List zTk} {sum : zLx → zLx} {i1 i2 : Option (zLx → zLx)} {e : Nat} (ok : AOk A) (gf : Gd A (f1A A sum i1)) (h : Rl A (VV p01 e) (f1A A sum i1) (f1A A sum i2)) (he : 1 ≤ e) : Rl A (VV p01 e) (ftA A sum i1) (ftB A sum i2) := by
  intro s C1 C2 h1 h0 h2 h3
  have np := nt_p (A := A) 1600 false s
  have bn := bd_nt ok 1600 s h1 h0
  show effK A (f1A A sum i1 ((ntA A 1600 false s).2, C1)).1 = 0 → ∃ X Y, (if (ntA A 1600 false s).1 = true then putA (f1A A sum i1 ((ntA A 1600 false s).2, C1)).2 (-18) else (f1A A sum i1 ((ntA A 1600 false s).2, C1)).2) = C1 ++ X ∧ pnA (ntN A 1600 s).1 (f1A A sum i2 ((ntN A 1600 s).2, C2)).2 = C2 ++ Y ∧ X.length + s.1 ≤ (f1A A sum i1 ((ntA A 1600 false s).2, C1)).1.1 ∧ Y.length + s.1 ≤ (f1A A sum i1 ((ntA A 1600 false s).2, C1)).1.1 ∧ VV p01 e X Y
  rw [np.1]
  intro k
  have bf := gf.x (x := ((ntN A 1600 s).2, C1)) bn.1.1 bn.1.2
  obtain ⟨X, Y, e1, e2, m1, m2, v⟩ := h (ntN A 1600 s).2 C1 C2 bn.1.1 bn.1.2 (by omega) (by omega) k
  have bl := bf.1.1
  have hA := ok.1
  have n2 := np.2.1
  have n3 := np.2.2
  have pr : (ntA A 1600 false s).1 = true ↔ (ntN A 1600 s).1 % 2 = 1 := by
    rw [n2]
    show (0 + (ntN A 1600 s).1) % 2 = 1 ↔ _
    rw [Nat.zero_add]
  rw [e1, e2, pn_a _ _ (by rw [List.length_append]; omega)]
  by_cases z : (ntA A 1600 false s).1 = true
  · have z2 := pr.1 z
    rw [if_pos z, put_a (by rw [List.length_append]; omega)]
    refine ⟨X ++ rpN 1, Y ++ rpN (ntN A 1600 s).1, by rw [List.append_assoc]; rfl, by rw [List.append_assoc], ?_, ?_, v.nt (by omega) he⟩
    · rw [List.length_append]; show X.length + 1 + s.1 ≤ _; omega
    · rw [List.length_append]; unfold rpN; rw [List.length_replicate]; omega
  · rw [if_neg z]
    have z2 : ¬ (ntN A 1600 s).1 % 2 = 1 := fun w => z (pr.2 w)
    refine ⟨X ++ rpN 0, Y ++ rpN (ntN A 1600 s).1, by show C1 ++ X = C1 ++ (X ++ []); rw [List.append_nil], by rw [List.append_assoc], ?_, ?_, v.nt (by omega) he⟩
    · rw [List.length_append]; show X.length + 0 + s.1 ≤ _; omega
    · rw [List.length_append]; unfold rpN; rw [List.length_replicate]; omega
theorem gd_sq {A : List zTk} {g1 g2 : zLx → zLx} (h : Sq g1 g2) (g : Gd A g2) : Gd A g1 := by
  intro s C h1 h2
  rw [← h s C C]
  exact g s C h1 h2
theorem rl_tst0 {A : List zTk} {sum : zLx → zLx} {i1 i2 : Option (zLx → zLx)} {ds dt e : Nat} (ok : AOk A) (gs : Gd A sum) (hs : Sq sum sum) (rs : Rl A (VV pM ds) sum sum) (hn : i1 = none ↔ i2 = none) (hg : ∀ g1 g2, i1 = some g1 → i2 = some g2 → Gd A g1 ∧ Gd A g2 ∧ Sq g1 g2 ∧ Rl A (VV p01 dt) g1 g2) (l1 : ds + 1 ≤ e) (l2 : dt ≤ e) : Sq (tsA A sum i1) (tsB A sum i2) ∧ Rl A (VV p01 (e + 2)) (tsA A sum i1) (tsB A sum i2) := by
  have g2 : ∀ g, i2 = some g → Gd A g := by
    intro g z
    cases i1 with
    | none => exact absurd (hn.1 rfl) (by rw [z]; intro w; cases w)
    | some g1 => exact (hg g1 g rfl z).2.1
  have g1 : ∀ g, i1 = some g → Gd A g := by
    intro g z
    cases i2 with
    | none => exact absurd (hn.2 rfl) (by rw [z]; intro w; cases w)
    | some g3 => exact (hg g g3 z rfl).1
  have sf := sq_f1 (A := A) hs hn (fun a b z1 z2 => (hg a b z1 z2).2.2.1)
  have rf := rl_f1 ok gs hs rs hn (fun a b z1 z2 => ⟨(hg a b z1 z2).1, (hg a b z1 z2).2.2⟩) l1 l2
  have st := sq_ft sf
  have rt := rl_ft ok (gd_f1 ok gs g1) rf (by omega)
  have gt : Gd A (ftA A sum i1) := gd_sq st (gd_ft ok gs g2)
  have sb : Sq (boA A sum i1) (boB A sum i2) := sq_co (cd := anC A) st
  have rb : Rl A (VV p01 (e + 1)) (boA A sum i1) (boB A sum i2) := rl_co ok an_K gt st rt (fun s z => an_h z)
  have gb : Gd A (boA A sum i1) := gd_sq sb (gd_bo ok gs g2)
  exact ⟨sq_co (cd := orC A) sb, rl_co ok or_K gb sb rb (fun s z => or_h z)⟩
theorem rl_tst {A : List zTk} (ok : AOk A) : ∀ k, Sq (testA A k) (testB A k) ∧ Rl A (VV p01 (3 * k + 6)) (testA A k) (testB A k)
  | 0 => rl_tst0 (ds := 3) (dt := 0) (e := 4) ok (gd_sum ok 0) (rl_sum ok 0).1 (rl_sum ok 0).2 Iff.rfl (fun g1 g2 z => nomatch z) (by decide) (by decide)
  | k + 1 => by
    have i := rl_tst ok k
    refine rl_tst0 (i1 := some (testA A k)) (i2 := some (testB A k)) (ds := 3 * (k + 1) + 3) (dt := 3 * k + 6) (e := 3 * (k + 1) + 4) ok (gd_sum ok (k + 1)) (rl_sum ok (k + 1)).1 (rl_sum ok (k + 1)).2 ⟨fun z => (nomatch z), fun z => (nomatch z)⟩ (fun g1 g2 z1 z2 => ?_) (by omega) (by omega)
    have e1 := Option.some.inj z1
    have e2 := Option.some.inj z2
    rw [← e1, ← e2]
    exact ⟨gd_sq i.1 (gd_tst ok k), gd_tst ok k, i.1, i.2⟩
