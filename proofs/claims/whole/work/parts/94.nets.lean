/-! nets: the class finds what the reference finds -/
theorem cb_z : ∀ (n c : Nat), cb 0 n c = 0
  | 0, _ => rfl
  | n + 1, c => by rw [cb, Nat.zero_testBit, if_neg Bool.false_ne_true, cb_z n]
theorem cb_app {X : Nat} : ∀ (n m c : Nat), cb X (n + m) c = cb X n c + cb X m (c + n)
  | 0, m, c => by rw [Nat.zero_add, cb, Nat.zero_add, Nat.add_zero]
  | n + 1, m, c => by rw [show n + 1 + m = (n + m) + 1 by omega, cb, cb, cb_app n m (c + 1), show c + 1 + n = c + (n + 1) by omega]; omega
theorem pl_cb {X : Nat} : ∀ (n c : Nat), pl n (X / 2 ^ c) = cb X n c
  | 0, _ => rfl
  | n + 1, c => by
    rw [pl, cb, ← pl_cb n (c + 1), Nat.testBit_eq_decide_div_mod_eq, Nat.pow_succ, ← Nat.div_div_eq_div_mul]
    by_cases h : X / 2 ^ c % 2 = 1
    · rw [if_pos (decide_eq_true h), h]
    · rw [if_neg (by rw [decide_eq_false h]; exact Bool.false_ne_true)]; omega
theorem bc_cb {X C : Nat} (hC : C ≤ 60) (hX : X < 2 ^ 60) (h : ∀ j, X.testBit j = true → j < C) : bcL (X : Int) = (cb X C 0 : Nat) := by
  have e := pl_cb (X := X) 64 0
  rw [Nat.pow_zero, Nat.div_one] at e
  rw [bcL_ok hX, e, show (64 : Nat) = C + (64 - C) by omega, cb_app, cb_cg (Y := 0) (64 - C) (0 + C) (fun i a b => ?_), cb_z, Nat.add_zero]
  rw [Nat.zero_testBit]
  cases z : X.testBit i with
  | false => rfl
  | true => have := h i z; omega
def FrM (σ st : zH) (F : Nat) : Prop := F < 2 ^ 60 ∧ ∀ i : Nat, F.testBit i = (decide (i < (nC σ).toNat) && mayN σ st (i : Int))
theorem gro_cand {σ st : zH} (w : WS σ) {F k X : Nat} (hF : FrM σ st F) (hX : X ∈ gro σ st (nC σ).toNat k 0 F) : safeM σ st X = true ∧ cand σ st (cb X (nC σ).toNat 0) (nC σ).toNat 0 [] X ∧ cb X (nC σ).toNat 0 ≤ k ∧ X < 2 ^ 60 := by
  have hn := w.n
  obtain ⟨a1, a2, a3, a4⟩ := gro_s (by omega) k 0 F X hF.1 hX
  rw [cb_z, Nat.zero_add] at a4
  have hb : ∀ i, X.testBit i = true → F.testBit i = true ∧ i < (nC σ).toNat := fun i hi => a3 i hi (Nat.zero_testBit i)
  refine ⟨a1, ⟨fun i hi => by omega, fun i _ _ hi => ?_, rfl, fun i hi => ?_⟩, a4, ?_⟩
  · have := (hb i hi).1
    rw [hF.2, Bool.and_eq_true] at this
    exact this.2
  · cases z : X.testBit i with
    | false => rfl
    | true => have := (hb i z).2; omega
  · refine Nat.lt_pow_two_of_testBit X (fun i hi => ?_)
    cases z : X.testBit i with
    | false => rfl
    | true => have := (hb i z).2; omega
theorem net_eq {σ st : zH} (w : WS σ) {F k : Nat} (hF : FrM σ st F) (lo : ∀ j, j < k → netF σ st j (nC σ).toNat 0 [] = none) : match netF σ st k (nC σ).toNat 0 [] with
    | none => gro σ st (nC σ).toNat k 0 F = []
    | some Q => ∃ Y, (gro σ st (nC σ).toNat k 0 F).foldl kfB none = some Y ∧ (∀ i : Nat, Y.testBit i = Q.contains (i : Int)) ∧ Q.length = k ∧ bcL (Y : Int) = (k : Int) ∧ Y < 2 ^ 60 := by
  have hn := w.n
  have hS0 : 0 ≤ nS σ := w.2.1.2.2.1
  have spec : ∀ j, NfP σ st j (nC σ).toNat 0 [] (netF σ st j (nC σ).toNat 0 []) := fun j => netF_s (nC σ).toNat j 0 [] (by omega) (fun x hx => by cases hx)
  have exact_k : ∀ X ∈ gro σ st (nC σ).toNat k 0 F, safeM σ st X = true ∧ cand σ st k (nC σ).toNat 0 [] X ∧ X < 2 ^ 60 := by
    intro X hX
    obtain ⟨a1, a2, a3, a4⟩ := gro_cand w hF hX
    have e : cb X (nC σ).toNat 0 = k := by
      refine Classical.byContradiction (fun z => ?_)
      have s := spec (cb X (nC σ).toNat 0)
      rw [lo _ (by omega)] at s
      rw [s X a2] at a1
      cases a1
    rw [e] at a2
    exact ⟨a1, a2, a4⟩
  have sk := spec k
  cases hr : netF σ st k (nC σ).toNat 0 [] with
  | none =>
    rw [hr] at sk
    refine List.eq_nil_iff_forall_not_mem.2 (fun X hX => ?_)
    obtain ⟨a1, a2, _⟩ := exact_k X hX
    rw [sk X a2] at a1
    cases a1
  | some Q =>
    rw [hr] at sk
    obtain ⟨Y, y1, y2, y3, y4, y5, y6⟩ := sk
    have yb : ∀ j, Y.testBit j = true → j < (nC σ).toNat := fun j hj => by
      refine Classical.byContradiction (fun z => ?_)
      rw [y1.2.2.2 j (by omega)] at hj
      cases hj
    have yF : ∀ j, Y.testBit j = true → F.testBit j = true := fun j hj => by
      rw [hF.2, decide_eq_true (yb j hj), Bool.true_and]
      exact y1.2.1 j (Nat.zero_le _) (by have := yb j hj; omega) hj
    have hY := gro_c (σ := σ) (st := st) hS0 (C := (nC σ).toNat) (X := Y) (by omega) yb y2 (fun Z hZ hlt => ?_) k 0 F hF.1 (fun j hj => by rw [Nat.zero_testBit] at hj; cases hj) (fun j hj _ => yF j hj) (by rw [cb_z, Nat.zero_add, y1.2.2.1]; exact Nat.le_refl _)
    · obtain ⟨b, hb⟩ : ∃ b, (gro σ st (nC σ).toNat k 0 F).foldl kfB none = some b := by
        cases hA : gro σ st (nC σ).toNat k 0 F with
        | nil => rw [hA] at hY; cases hY
        | cons x A => exact kf_some A x
      obtain ⟨b1, b2⟩ := kf_top hb
      obtain ⟨c1, c2, c3⟩ := exact_k b b1
      have eb : b = Y := by
        rcases y6 b c2 c1 with z | z
        · exact z
        · rw [b2 Y hY] at z; cases z
      rw [eb] at hb c3
      refine ⟨Y, hb, y3, by rw [y4]; exact Nat.zero_add k, ?_, c3⟩
      rw [bc_cb (C := (nC σ).toNat) (by omega) c3 yb, y1.2.2.1]
    · have s := spec (cb Z (nC σ).toNat 0)
      rw [y1.2.2.1] at hlt
      rw [lo _ hlt] at s
      refine s Z ⟨fun i hi => by omega, fun i _ h2 hi => y1.2.1 i (Nat.zero_le _) h2 (hZ i hi), rfl, fun i hi => ?_⟩
      cases z : Z.testBit i with
      | false => rfl
      | true => have := hZ i z; rw [y1.2.2.2 i hi] at this; cases this
def nfr (σ st : zH) : Nat → Nat → Option (List Int)
  | 0, _ => none
  | i + 1, k => match netF σ st k (nC σ).toNat 0 [] with
    | some P => some P
    | none => nfr σ st i (k + 1)
theorem netA_f {σ st : zH} : netA σ st = nfr σ st 4 0 := by
  unfold netA nfr
  cases netF σ st 0 (nC σ).toNat 0 [] with
  | some P => rfl
  | none =>
    show (match netF σ st 1 (nC σ).toNat 0 [] with | some P => some P | none => match netF σ st 2 (nC σ).toNat 0 [] with | some P => some P | none => netF σ st 3 (nC σ).toNat 0 []) = nfr σ st 3 1
    unfold nfr
    cases netF σ st 1 (nC σ).toNat 0 [] with
    | some P => rfl
    | none =>
      show (match netF σ st 2 (nC σ).toNat 0 [] with | some P => some P | none => netF σ st 3 (nC σ).toNat 0 []) = nfr σ st 2 2
      unfold nfr
      cases netF σ st 2 (nC σ).toNat 0 [] with
      | some P => rfl
      | none =>
        show netF σ st 3 (nC σ).toNat 0 [] = nfr σ st 1 3
        unfold nfr
        cases netF σ st 3 (nC σ).toNat 0 [] with
        | some P => rfl
        | none => rfl
def NetW (r : Option (List Int)) (h : zH) : Prop := match r with
  | none => h 331 5 = 0 ∧ h 331 7 = -1
  | some P => h 331 5 = 1 ∧ h 331 7 = P.length ∧ ∃ N : Nat, h 331 6 = N ∧ N < 2 ^ 60 ∧ ∀ i : Nat, N.testBit i = P.contains (i : Int)
def frN7 (h h' : zH) : Prop := (∀ r, ¬ (331 ≤ r ∧ r < 343) → h' r = h r) ∧ h' 331 4 = h 331 4
theorem q_f41 {d : Nat} {σ st : zH} {a : Int} {F : Nat} (w : WS σ) (hF : FrM σ st F) : ∀ (i k : Nat) {h : zH}, k + i = 4 → (∀ j, j < k → netF σ st j (nC σ).toNat 0 [] = none) → NS σ st a h → BHn none h → zWp (l_NetSearch_find_41 (d + 9) 331 (F : Int) (k : Int) h) (fun _ h' => NetW (nfr σ st i k) h' ∧ frN7 h h')
  | 0, k, h, hk, lo, ns, b => by
    rw [el_NetSearch_find_41]
    refine zWp_it (by omega) ?_
    rw [el_NetSearch_find_68]
    refine zWp_po (by decide) (zWp_it b (zWp_po (by decide) (zWp_lt fun h1 e1 => zWp_s ⟨⟨?_, ?_⟩, ?_, ?_⟩)))
    · rw [e1, zset_j (by decide)]; exact b
    · rw [e1, zset_e]
    · exact fun r hr => by rw [e1, zset_n (by omega)]
    · rw [e1, zset_j (by decide)]
  | i + 1, k, h, hk, lo, ns, b => by
    rw [el_NetSearch_find_41]
    refine zWp_nt (by omega) (zWp_po (by decide) (zWp_it b (zWp_po (by decide) ?_)))
    have g := q_grow (d := d + 3 - k) (σ := σ) (st := st) (a := a) k (ch := 0) (fr := F) (B := none) (h := h) (by omega) ⟨by decide, fun j hj => by rw [Nat.zero_testBit] at hj; cases hj⟩ hF.1 ns b
    rw [show d + 3 - k + k + 6 = d + 9 by omega] at g
    refine zWp_bv g (fun _ h1 u => ?_)
    obtain ⟨b1, n1⟩ := u
    rw [w32_i (x := (k : Int) + 1) (by omega), show (k : Int) + 1 = ((k + 1 : Nat) : Int) from rfl]
    have ne := net_eq w hF lo
    have f1 : frN7 h h1 := ⟨n1.1, n1.2 4 (by decide)⟩
    rw [nfr]
    cases hr : netF σ st k (nC σ).toNat 0 [] with
    | none =>
      rw [hr] at ne
      have ne' : gro σ st (nC σ).toNat k 0 F = [] := ne
      rw [ne'] at b1
      refine zWp_m (q_f41 w hF i (k + 1) (by omega) (fun j hj => ?_) (ns.fr n1) b1) (fun _ h' u => ⟨u.1, fun r hr => by rw [u.2.1 r hr, n1.1 r hr], by rw [u.2.2, f1.2]⟩)
      by_cases z : j = k
      · rw [z]; exact hr
      · exact lo j (by omega)
    | some Q =>
      rw [hr] at ne
      obtain ⟨Y, y1, y2, y3, y4, y5⟩ := ne
      rw [y1] at b1
      obtain ⟨c1, c2, c3⟩ := b1
      have l68 : zWp (l_NetSearch_find_68 (d + 9) 331 h1) (fun _ h' => NetW (some Q) h' ∧ frN7 h h') := by
        rw [el_NetSearch_find_68, c1, c2]
        refine zWp_po (by decide) (zWp_nt (by decide) (zWp_po (by decide) (zWp_qi q_bitCountL (zWp_po (by decide) (zWp_lt fun h2 e2 => zWp_s ⟨⟨?_, ?_, Y, ?_, y5, y2⟩, ?_, ?_⟩)))))
        · rw [e2, zset_j (by decide)]; exact c1
        · rw [e2, zset_e, y4, y3]
        · rw [e2, zset_j (by decide)]; exact c2
        · exact fun r hr => by rw [e2, zset_n (by omega), n1.1 r hr]
        · rw [e2, zset_j (by decide)]; exact f1.2
      rw [el_NetSearch_find_41]
      refine zWp_if (fun _ => l68) (fun _ => zWp_po (by decide) (zWp_nt (by rw [c1]; decide) l68))
theorem q_free4 {d : Nat} {σ st : zH} {a : Int} {h : zH} (ns : NS σ st a h) : ∀ (n : Nat) {i X : Nat}, i + n = (nC σ).toNat → X < 2 ^ 60 → (∀ j : Nat, X.testBit j = (decide (j < i) && mayN σ st (j : Int))) → ∃ F, FrM σ st F ∧ l_NetSearch_freeCells_4 (d + 3) 331 (X : Int) (i : Int) h = some (.inr (.inl (F : Int)), h)
  | 0, i, X, hi, hx, hb => by
    have ha := ns.2.2.1.a
    have w := ns.2.2.2.2.1
    have hn := w.n
    refine ⟨X, ⟨hx, fun j => by rw [hb j, show i = (nC σ).toNat by omega]⟩, ?_⟩
    rw [el_NetSearch_freeCells_4, ns.1, zpo_t (by decide), zpo_t (by omega), q_cells ns.2.2.1 w, zqi_s, zit_f (by omega)]
  | n + 1, i, X, hi, hx, hb => by
    have ha := ns.2.2.1.a
    have w := ns.2.2.2.2.1
    have wt := ns.2.2.2.2.2
    have hn := w.n
    have h5 := (wt.2.1 (i : Int) (by omega) (by omega))
    rw [el_NetSearch_freeCells_4, ns.1, zpo_t (by decide), zpo_t (by omega), q_cells ns.2.2.1 w, zqi_s, zit_t (by omega), ns.1, ns.2.1, zpo_t (by decide), zpo_t (by decide), zpo_t (by decide), q_isBarred ns.2.2.1 w ns.2.2.2.1 (by omega), zqi_s, ns.2.1, w32_i (x := (i : Int) + 1) (by omega), lor_n hx (by omega), show (i : Int) + 1 = ((i + 1 : Nat) : Int) from rfl]
    have low : mayN σ st (i : Int) = false → ∃ F, FrM σ st F ∧ l_NetSearch_freeCells_4 (d + 3) 331 (X : Int) ((i + 1 : Nat) : Int) h = some (.inr (.inl (F : Int)), h) := fun hm => by
      refine q_free4 ns n (by omega) hx (fun j => ?_)
      rw [hb j]
      by_cases z : j = i
      · rw [z, hm, Bool.and_false, Bool.and_false]
      · congr 1
        exact decide_eq_decide.2 (by omega)
    by_cases c1 : sAt σ st (i : Int) ≠ -1 ∨ 0 < st 5 (i : Int) ∨ (σ 7 (i : Int) ≠ -1 ∧ st 9 (σ 7 (i : Int)) ≠ 1)
    · rw [if_pos c1, zit_f (by decide)]
      refine low ?_
      unfold mayN
      refine decide_eq_false (fun z => ?_)
      rcases c1 with q | q | q
      · exact q z.1
      · omega
      · exact z.2.1 q
    · rw [if_neg c1, zit_t rfl, zpo_t (by decide), zpo_t (by decide), q_hasNet ns.2.2.2.1 (by omega), zqi_s]
      by_cases c2 : st 8 (i : Int) = 1
      · rw [if_pos c2, zit_f (by decide)]
        refine low ?_
        unfold mayN
        exact decide_eq_false (fun z => by omega)
      · rw [if_neg c2, zit_t rfl]
        have hm : mayN σ st (i : Int) = true := by
          unfold mayN
          refine decide_eq_true ⟨?_, fun z => c1 (Or.inr (Or.inr z)), ?_, ?_⟩
          · refine Classical.byContradiction (fun z => c1 (Or.inl z))
          · have : ¬ 0 < st 5 (i : Int) := fun z => c1 (Or.inr (Or.inl z))
            omega
          · have := h5.2.2.2.2.1
            omega
        refine q_free4 ns n (by omega) (Nat.or_lt_two_pow hx (Nat.pow_lt_pow_right (by decide) (by omega))) (fun j => ?_)
        rw [or_t, hb j]
        by_cases z : i = j
        · rw [decide_eq_true z, Bool.or_true, decide_eq_true (show j < i + 1 by omega), ← z, hm]; rfl
        · rw [decide_eq_false z, Bool.or_false]
          congr 1
          exact decide_eq_decide.2 (by omega)
theorem NetV_w {σ st h : zH} : NetV σ st h ↔ NetW (netA σ st) h := by
  unfold NetV NetW
  cases netA σ st <;> exact Iff.rfl
theorem q_findN {d : Nat} {σ st : zH} {D : zDR} {K : zKp} {Λ : zLw} {G h : zH} (c : CI σ st D K Λ G h) : zWp (m_NetSearch_find (d + 10) 331 (h 0 7) 67 h) (fun _ h' => CI σ st D K Λ G h' ∧ NetW (netA σ st) h' ∧ fr403 h h') := by
  have b := c.1
  have w := b.2.2.2.1
  have ha := b.2.1.a
  rw [em_NetSearch_find]
  refine zWp_po (by decide) ?_
  rcases c.2.2.2.2.2.2.1 with kn | ⟨kn, nv⟩
  · refine zWp_it kn (zWp_po (by decide) (zWp_lt fun h1 q1 => zWp_po (by decide) (zWp_lt fun h2 q2 => zWp_po (by decide) (zWp_lt fun h3 q3 => zWp_po (by decide) (zWp_lt fun h4 q4 => zWp_po (by decide) (zWp_lt fun h5 q5 => zWp_po (by decide) ?_))))))
    have r5 : ∀ r, ¬ r = 331 → h5 r = h r := fun r hr => by rw [q5, zset_n hr, q4, zset_n hr, q3, zset_n hr, q2, zset_n hr, q1, zset_n hr]
    have s2 : h5 331 2 = h 0 7 := by rw [q5, zset_j (by decide), q4, zset_j (by decide), q3, zset_j (by decide), q2, zset_j (by decide), q1, zset_e]
    have s3 : h5 331 3 = 67 := by rw [q5, zset_j (by decide), q4, zset_j (by decide), q3, zset_j (by decide), q2, zset_e]
    have s4 : h5 331 4 = 1 := by rw [q5, zset_j (by decide), q4, zset_j (by decide), q3, zset_e]
    have s5 : h5 331 5 = 0 := by rw [q5, zset_j (by decide), q4, zset_e]
    have ns : NS σ st (h 0 7) h5 := ⟨s2, s3, b.2.1.fr (fun r r1 r2 => r5 r (by omega)), b.2.2.1.fr (fun r r1 r2 => r5 r (by omega)), b.2.2.2⟩
    obtain ⟨F, hF, eF⟩ := q_free4 (d := d + 5) ns (nC σ).toNat (i := 0) (X := 0) (by omega) (by decide) (fun j => by rw [Nat.zero_testBit, decide_eq_false (by omega)]; rfl)
    rw [em_NetSearch_freeCells]
    refine zWp_ql eF (zWp_m (q_f41 (d := d) w hF 4 0 (by omega) (fun j hj => by omega) ns s5) (fun _ h6 u => ?_))
    obtain ⟨u1, u2, u3⟩ := u
    rw [← netA_f] at u1
    have r6 : ∀ r, ¬ (331 ≤ r ∧ r < 343) → h6 r = h r := fun r hr => by rw [u2 r hr, r5 r (by omega)]
    refine ⟨?_, u1, fun r hr => r6 r (by omega)⟩
    obtain ⟨c1, c2, c3, c4, c5, c6, c7, c8⟩ := c
    have e0 : h6 0 = h 0 := r6 0 (by decide)
    refine ⟨⟨rfl, ?_, b.2.2.1.fr (fun r r1 r2 => r6 r (by omega)), b.2.2.2⟩, by rw [e0]; exact c2, c3.fr (fun r z => r6 r (by omega)), c4.fr (fun r z => r6 r (by omega)), c5.fr (by rw [r6 67 (by decide)]) (r6 327 (by decide)), c6.fr (fun r z => r6 r (by omega)), Or.inr ⟨by rw [u3]; exact s4, NetV_w.2 u1⟩, ?_⟩
    · rw [e0]; exact b.2.1.fr (fun r r1 r2 => r6 r (by omega))
    · rw [e0]; exact c8.fr (fun r r1 r2 => r6 r (by omega)) (fun q _ => by rw [r6 _ (by omega)])
  · exact zWp_nt (by rw [kn]; decide) (zWp_s ⟨c, NetV_w.1 nv, fr403.rf h⟩)
def ascL : List Int → Prop
  | [] => True
  | x :: P => (∀ y ∈ P, x < y) ∧ ascL P
theorem ascL_app {c : Int} : ∀ P : List Int, ascL P → (∀ x ∈ P, x < c) → ascL (P ++ [c])
  | [], _, _ => ⟨fun y hy => (by cases hy), trivial⟩
  | x :: P, h, hc => ⟨fun y hy => by
      rcases List.mem_append.1 hy with z | z
      · exact h.1 y z
      · rw [List.mem_singleton.1 z]; exact hc x (List.mem_cons_self ..), ascL_app P h.2 (fun y hy => hc y (List.mem_cons_of_mem _ hy))⟩
theorem netF_asc {σ st : zH} : ∀ (n k : Nat) (c : Int) (P Q : List Int), ascL P → (∀ x ∈ P, x < c) → netF σ st k n c P = some Q → ascL Q := by
  have zero : ∀ (n : Nat) (c : Int) (P Q : List Int), ascL P → netF σ st 0 n c P = some Q → ascL Q := by
    intro n c P Q h e
    have e' : (match safeA σ (netS st P) with | true => some P | false => none) = some Q := by
      cases n <;> exact e
    cases s : safeA σ (netS st P) with
    | true => rw [s] at e'; cases e'; exact h
    | false => rw [s] at e'; cases e'
  intro n
  induction n with
  | zero =>
    intro k c P Q h hc e
    cases k with
    | zero => exact zero 0 c P Q h e
    | succ k => cases e
  | succ n ih =>
    intro k c P Q h hc e
    cases k with
    | zero => exact zero (n + 1) c P Q h e
    | succ k =>
      have e' : (match mayN σ st c with
          | false => netF σ st (k + 1) n (c + 1) P
          | true => match netF σ st k n (c + 1) (P ++ [c]) with
            | some Q => some Q
            | none => netF σ st (k + 1) n (c + 1) P) = some Q := e
      have lo := fun e2 => ih (k + 1) (c + 1) P Q h (fun x hx => by have := hc x hx; omega) e2
      cases m : mayN σ st c with
      | false => rw [m] at e'; exact lo e'
      | true =>
        rw [m] at e'
        cases r : netF σ st k n (c + 1) (P ++ [c]) with
        | none => rw [r] at e'; exact lo e'
        | some R =>
          rw [r] at e'
          cases e'
          refine ih k (c + 1) (P ++ [c]) Q (ascL_app P h hc) (fun x hx => ?_) r
          rcases List.mem_append.1 hx with z | z
          · have := hc x z; omega
          · rw [List.mem_singleton.1 z]; omega
theorem nfr_in {σ st : zH} (w : WS σ) : ∀ (i k : Nat) {P : List Int}, k + i = 4 → nfr σ st i k = some P → ascL P ∧ P.length ≤ 3 ∧ ∀ x ∈ P, 0 ≤ x ∧ x < 60
  | 0, _, _, _, h => by cases h
  | i + 1, k, P, hk, h => by
    have hn := w.n
    rw [nfr] at h
    cases r : netF σ st k (nC σ).toNat 0 [] with
    | none => rw [r] at h; exact nfr_in w i (k + 1) (by omega) h
    | some Q =>
      rw [r] at h
      cases h
      have s := netF_s (σ := σ) (st := st) (nC σ).toNat k 0 [] (by omega) (fun x hx => by cases hx)
      rw [show ((0 : Nat) : Int) = 0 from rfl, r] at s
      obtain ⟨Y, _, _, _, y4, y5, _⟩ := s
      refine ⟨netF_asc _ k 0 [] P trivial (fun x hx => by cases hx) r, ?_, fun x hx => ⟨(y5 x hx).1, by have := (y5 x hx).2; omega⟩⟩
      have : P.length = 0 + k := y4
      omega
theorem q_placeO {d : Nat} {k : Int} {N : Nat} {h : zH} (e5 : h 331 5 = 1) (e6 : h 331 6 = (N : Int)) (hN : N < 2 ^ 60) : ∀ (n : Nat) {i : Nat} {R : List Int} {s : Int}, i + n = 60 → 0 ≤ s ∧ s ≤ i → ascL R → (∀ x ∈ R, (i : Int) ≤ x ∧ x < 60) → (R.length : Int) ≤ 60 → (∀ j : Nat, i ≤ j → N.testBit j = R.contains (j : Int)) → l_NetSearch_placeOf_4 d 331 k s (i : Int) h = some (.inl (if s ≤ k ∧ k < s + R.length then R.getD (k - s).toNat 0 else -1), h)
  | 0, i, R, s, hi, hs, ha, hr, hl, hb => by
    rw [el_NetSearch_placeOf_4, zit_f (by omega)]
    cases R with
    | nil => rw [if_neg (fun z => by have : k < s + 0 := z.2; omega)]
    | cons x R => have := hr x (List.mem_cons_self ..); omega
  | n + 1, i, R, s, hi, hs, ha, hr, hl, hb => by
    have eb : zlc (zland (zlshr (N : Int) (i : Int)) 1) 1 = 0 ↔ N.testBit i = true := by
      rw [zlc_0, zlshr_g (by unfold zI64; omega) (by omega), zland_1, Nat.testBit_eq_decide_div_mod_eq, decide_eq_true_iff, ← Int.natCast_ediv]
      omega
    rw [el_NetSearch_placeOf_4, zit_t (by omega), zpo_t (by decide), e5, zit_f (by decide), zpo_t (by decide), e6, w32_i (x := (i : Int) + 1) (by omega), w32_i (x := s + 1) (by omega), show (i : Int) + 1 = ((i + 1 : Nat) : Int) from rfl]
    cases hbit : N.testBit i with
    | false =>
      rw [zit_f (fun z => by rw [eb.1 z] at hbit; cases hbit)]
      have hbi := hb i (Nat.le_refl _)
      refine q_placeO e5 e6 hN n (by omega) (by omega) ha (fun x hx => ?_) hl (fun j hj => hb j (by omega))
      have := hr x hx
      refine ⟨?_, this.2⟩
      have : ¬ x = (i : Int) := fun z => by
        rw [← z, List.contains_iff_mem.2 hx, hbit] at hbi
        cases hbi
      omega
    | true =>
      rw [zit_t (eb.2 hbit)]
      have hbi := hb i (Nat.le_refl _)
      rw [hbit] at hbi
      cases R with
      | nil => cases hbi
      | cons x R =>
        have ex : x = (i : Int) := by
          have m := List.contains_iff_mem.1 hbi.symm
          have h1 := hr x (List.mem_cons_self ..)
          rcases List.mem_cons.1 m with z | z
          · exact z.symm
          · have := ha.1 _ z; omega
        have el : ((x :: R).length : Int) = (R.length : Int) + 1 := rfl
        rw [el] at hl
        by_cases c : s = k
        · rw [zit_t c, if_pos (show s ≤ k ∧ k < s + ((x :: R).length : Int) by rw [el]; omega), show (k - s).toNat = 0 by omega, ← ex]
          rfl
        · rw [zit_f c, q_placeO e5 e6 hN n (i := i + 1) (R := R) (s := s + 1) (by omega) (by have := hs; omega) ha.2 (fun y hy => ⟨by have := ha.1 y hy; omega, (hr y (List.mem_cons_of_mem _ hy)).2⟩) (by omega) (fun j hj => ?_)]
          · by_cases c2 : s ≤ k ∧ k < s + ((x :: R).length : Int)
            · rw [if_pos c2, if_pos (show s + 1 ≤ k ∧ k < s + 1 + (R.length : Int) by rw [el] at c2; omega), show (k - s).toNat = (k - (s + 1)).toNat + 1 by omega]
              rfl
            · rw [if_neg c2, if_neg (show ¬ (s + 1 ≤ k ∧ k < s + 1 + (R.length : Int)) by rw [el] at c2; omega)]
          · rw [hb j (by omega), List.contains_cons]
            have : ((j : Int) == x) = false := beq_eq_false_iff_ne.2 (by omega)
            rw [this, Bool.false_or]
def vNet (σ st : zH) (k : Int) : Int := if nC σ = 0 then -1 else match netA σ st with
  | none => -1
  | some P => if k = -1 then (P.length : Int) else if 0 ≤ k ∧ k < P.length then P.getD k.toNat 0 else -1
theorem q_nets {d : Nat} {σ st : zH} {D : zDR} {K : zKp} {Λ : zLw} {G h : zH} {k : Int} (c : CI σ st D K Λ G h) : zWp (m_B_nets (d + 11) k h) (fun v h' => v = .inl (vNet σ st k) ∧ CI σ st D K Λ G h' ∧ fr403 h h') := by
  have b := c.1
  have w := b.2.2.2.1
  have ha := b.2.1.a
  unfold vNet
  rw [em_B_nets]
  refine zWp_po (by omega) (zWp_qi (q_cells b.2.1 w) ?_)
  by_cases c1 : nC σ = 0
  · refine zWp_it c1 (zWp_s ⟨?_, c, fr403.rf h⟩)
    rw [if_pos c1]
  refine zWp_nt c1 ?_
  rw [if_neg c1]
  have inA : ∀ P, netA σ st = some P → ascL P ∧ P.length ≤ 3 ∧ ∀ x ∈ P, 0 ≤ x ∧ x < 60 := fun P hP => nfr_in w 4 0 rfl (by rw [← netA_f]; exact hP)
  have out : k < -1 ∨ 3 ≤ k → (match netA σ st with | none => (-1 : Int) | some P => if k = -1 then (P.length : Int) else if 0 ≤ k ∧ k < P.length then P.getD k.toNat 0 else -1) = -1 := by
    intro hk
    cases hA : netA σ st with
    | none => rfl
    | some P =>
      have := (inA P hA).2.1
      show (if k = -1 then (P.length : Int) else if 0 ≤ k ∧ k < P.length then P.getD k.toNat 0 else -1) = -1
      rw [if_neg (by omega), if_neg (by omega)]
  by_cases c2 : k < -1
  · exact zWp_it c2 (zWp_s ⟨by rw [out (Or.inl c2)], c, fr403.rf h⟩)
  refine zWp_nt c2 ?_
  by_cases c3 : k < 3
  case neg => exact zWp_nt c3 (zWp_s ⟨by rw [out (Or.inr (by omega))], c, fr403.rf h⟩)
  refine zWp_it c3 (zWp_bv (q_findN (d := d) c) (fun _ h1 u => ?_))
  obtain ⟨u1, u2, u3⟩ := u
  cases hA : netA σ st with
  | none =>
    rw [hA] at u2
    refine zWp_if (fun z => zWp_s ⟨by rw [u2.2], u1, u3⟩) (fun z => ?_)
    rw [em_NetSearch_placeOf, el_NetSearch_placeOf_4, zit_t (by decide), zpo_t (by decide), u2.1, zit_t rfl, zqi_s]
    exact zWp_s ⟨rfl, u1, u3⟩
  | some P =>
    rw [hA] at u2
    obtain ⟨v1, v2, N, v3, v4, v5⟩ := u2
    obtain ⟨i1, i2, i3⟩ := inA P hA
    show zWp _ (fun v h' => v = .inl (if k = -1 then (P.length : Int) else if 0 ≤ k ∧ k < P.length then P.getD k.toNat 0 else -1) ∧ CI σ st D K Λ G h' ∧ fr403 h h')
    by_cases c4 : k = -1
    · refine zWp_it c4 (zWp_s ⟨?_, u1, u3⟩)
      rw [if_pos c4, v2]
    · refine zWp_nt c4 ?_
      rw [if_neg c4, em_NetSearch_placeOf]
      have e := q_placeO (d := d + 9) (k := k) v1 v3 v4 60 (i := 0) (R := P) (s := 0) (by omega) (by decide) i1 (fun x hx => ⟨by have := (i3 x hx).1; omega, (i3 x hx).2⟩) (by omega) (fun j _ => v5 j)
      rw [show ((0 : Nat) : Int) = 0 from rfl, Int.zero_add, Int.sub_zero] at e
      refine zWp_qi e (zWp_s ⟨rfl, u1, u3⟩)
