/-! crew: the best plan of the class is the reference's -/
def dg (m n k : Nat) : Int := ((n / 10 ^ (m - 1 - k) % 10 : Nat) : Int)
theorem dg_b {m n k : Nat} : 0 ≤ dg m n k ∧ dg m n k ≤ 9 := by unfold dg; omega
theorem dg_nm : ∀ m : Nat, m < 3 → ∀ n : Nat, n < 1000 → (n < 10 ^ (m + 1) → nmb (m + 1) (dg (m + 1) n) = (n : Int)) := by decide +kernel
theorem lex3 : ∀ m : Nat, m < 3 → (lexL (m + 1) (List.range (m + 1))).all (fun P => decide P.Nodup && (List.range (m + 1)).all (fun k => P.contains k)) = true := by decide +kernel
theorem lex3_of {m : Nat} (hm : 1 ≤ m ∧ m ≤ 3) {P : List Nat} (hP : P ∈ lexL m (List.range m)) : P.Nodup ∧ (∀ k, k < m → k ∈ P) ∧ ∀ p ∈ P, p < m := by
  obtain ⟨j, rfl⟩ : ∃ j, m = j + 1 := ⟨m - 1, by omega⟩
  have a := List.all_eq_true.1 (lex3 j (by omega)) P hP
  rw [Bool.and_eq_true, List.all_eq_true] at a
  have b := okO_of (List.all_eq_true.1 (lex_ok j (by omega)) P hP)
  exact ⟨of_decide_eq_true a.1, fun k hk => List.contains_iff_mem.1 (a.2 k (List.mem_range.2 hk)), b.2⟩
theorem lk_map {ν : Nat → Int} {k : Nat} : ∀ (P : List Nat), k ∈ P → lk (P.map (fun p => (p, ν p))) k = ν k
  | [], h => by cases h
  | p :: P, h => by
    show (if p = k then ν p else lk (P.map (fun p => (p, ν p))) k) = ν k
    by_cases c : p = k
    · rw [if_pos c, c]
    · rw [if_neg c]
      rcases List.mem_cons.1 h with z | z
      · exact absurd z.symm c
      · exact lk_map P z
theorem lk_mem {k : Nat} : ∀ (Z : zZ), (∃ z ∈ Z, z.1 = k) → (k, lk Z k) ∈ Z
  | [], h => by obtain ⟨z, hz, _⟩ := h; cases hz
  | y :: Z, h => by
    show (k, if y.1 = k then y.2 else lk Z k) ∈ y :: Z
    by_cases c : y.1 = k
    · rw [if_pos c, ← c]; exact List.mem_cons_self ..
    · rw [if_neg c]
      obtain ⟨z, hz, e⟩ := h
      rcases List.mem_cons.1 hz with q | q
      · rw [q] at e; exact absurd e c
      · exact List.mem_cons_of_mem _ (lk_mem Z ⟨z, q, e⟩)
theorem lk_nd : ∀ (Z : zZ), (Z.map (fun z => z.1)).Nodup → ∀ z ∈ Z, lk Z z.1 = z.2
  | [], _, z, h => by cases h
  | y :: Z, hn, z, h => by
    have hn' := List.nodup_cons.1 hn
    show (if y.1 = z.1 then y.2 else lk Z z.1) = z.2
    rcases List.mem_cons.1 h with q | q
    · rw [if_pos (by rw [q]), q]
    · rw [if_neg (fun e => hn'.1 (by show y.1 ∈ Z.map (fun z => z.1); rw [e]; exact List.mem_map.2 ⟨z, q, rfl⟩))]
      exact lk_nd Z hn'.2 z q
theorem selZ_lk {Z : zZ} (h : (Z.map (fun z => z.1)).Nodup) : selZ (lk Z) Z = true := List.all_eq_true.2 (fun z hz => decide_eq_true (lk_nd Z h z hz))
theorem find_cg {p q : zZ → Bool} : ∀ (A : List zZ), (∀ x ∈ A, p x = q x) → A.find? p = A.find? q
  | [], _ => rfl
  | x :: A, h => by rw [List.find?_cons, List.find?_cons, h x (List.mem_cons_self ..), find_cg A (fun y hy => h y (List.mem_cons_of_mem _ hy))]
theorem upN_key {m : Nat} (hm : 1 ≤ m ∧ m ≤ 3) {ν : Nat → Int} (d : ∀ k, 0 ≤ ν k ∧ ν k ≤ 9) {q : Nat} (hq : q < m) {v : Int} (hv : 0 ≤ v ∧ v < ν q) : keyM m (upN ν q v) < keyM m ν := by
  have d2 : ∀ k, 0 ≤ upN ν q v k ∧ upN ν q v k ≤ 9 := fun k => by
    have := d k
    have := d q
    unfold upN
    split <;> omega
  have a := (nm_b hm (fun k _ => d k)).1
  have b := (nm_b hm (fun k _ => d2 k)).1
  have p := p10 hm.2
  have s : sm m (upN ν q v) + 1 ≤ sm m ν := by
    rcases m3 hm with e | e | e <;> subst e
    · have eq : q = 0 := by omega
      subst eq
      show v + 0 + 1 ≤ ν 0 + 0
      omega
    · have eq : q = 0 ∨ q = 1 := by omega
      rcases eq with eq | eq <;> subst eq
      · show v + (ν 1 + 0) + 1 ≤ ν 0 + (ν 1 + 0)
        omega
      · show ν 0 + (v + 0) + 1 ≤ ν 0 + (ν 1 + 0)
        omega
    · have eq : q = 0 ∨ q = 1 ∨ q = 2 := by omega
      rcases eq with eq | eq | eq <;> subst eq
      · show v + (ν 1 + (ν 2 + 0)) + 1 ≤ ν 0 + (ν 1 + (ν 2 + 0))
        omega
      · show ν 0 + (v + (ν 2 + 0)) + 1 ≤ ν 0 + (ν 1 + (ν 2 + 0))
        omega
      · show ν 0 + (ν 1 + (v + 0)) + 1 ≤ ν 0 + (ν 1 + (ν 2 + 0))
        omega
  unfold keyM
  omega
theorem dg_of {m : Nat} (hm : 1 ≤ m ∧ m ≤ 3) {μ : Nat → Int} (d : digs m μ) : ∃ n, n < 10 ^ m ∧ ∀ k, k < m → dg m n k = μ k := by
  have b := (nm_b hm d).1
  have p := p10 hm.2
  refine ⟨(nmb m μ).toNat, by omega, fun k hk => ?_⟩
  obtain ⟨j, rfl⟩ : ∃ j, m = j + 1 := ⟨m - 1, by omega⟩
  have e := dg_nm j (by omega) (nmb (j + 1) μ).toNat (by omega) (by omega)
  exact nm_inj (μ := dg (j + 1) (nmb (j + 1) μ).toNat) (ν := μ) hm (fun k _ => dg_b) d (by rw [e]; omega) k hk
abbrev fndC (σ : zH) (o : Int) (L : List Int) (st : zH) (m n : Nat) : Option (List Nat) := (lexL m (List.range m)).find? (fun P => okR σ o L (dg m n) P st)
def BestR (σ : zH) (o : Int) (L : List Int) (st : zH) (m N : Nat) (B : Option (Nat × List Nat)) : Prop := match B with
  | none => ∀ n, n < N → fndC σ o L st m n = none
  | some x => x.1 < N ∧ fndC σ o L st m x.1 = some x.2 ∧ ∀ n, n < N → fndC σ o L st m n ≠ none → keyM m (dg m x.1) ≤ keyM m (dg m n)
theorem crew_eq {σ : zH} (w : WS σ) {o : Int} {L : List Int} {st : zH} {m : Nat} (hl : L.length = m) (hm : 1 ≤ m ∧ m ≤ 3) (hL : ∀ j : Nat, j < L.length → 0 ≤ L.getD j 0 ∧ L.getD j 0 < nS σ) {B : Option (Nat × List Nat)} (hB : BestR σ o L st m (10 ^ m) B) : (lvs σ o L m (List.range m) st).foldl (bst m) none = B.map (fun x => x.2.map (fun p => (p, dg m x.1 p))) := by
  have suc : ∀ (n : Nat) (Q : List Nat), Q ∈ lexL m (List.range m) → okR σ o L (dg m n) Q st = true → fndC σ o L st m n ≠ none := by
    intro n Q hQ h z
    have := List.find?_eq_none.1 z Q hQ
    exact this h
  have mem : ∀ Z ∈ lvs σ o L m (List.range m) st, (Z.map (fun z => z.1)) ∈ lexL m (List.range m) ∧ (Z.map (fun z => z.1)).Nodup ∧ (∀ k, k < m → (k, lk Z k) ∈ Z) ∧ digs m (lk Z) ∧ (∀ z ∈ Z, z.1 < m) ∧ okR σ o L (lk Z) (Z.map (fun z => z.1)) st = true := by
    intro Z hZ
    obtain ⟨a, b⟩ := lvs_in m _ _ Z hZ
    obtain ⟨n1, n2, n3⟩ := lex3_of hm a
    have kk : ∀ k, k < m → (k, lk Z k) ∈ Z := fun k hk => by
      obtain ⟨z, hz, e⟩ := List.mem_map.1 (n2 k hk)
      exact lk_mem Z ⟨z, hz, e⟩
    refine ⟨a, n1, kk, fun k hk => b _ (kk k hk), fun z hz => n3 _ (List.mem_map.2 ⟨z, hz, rfl⟩), ?_⟩
    have hf : Z ∈ (lvs σ o L m (List.range m) st).filter (selZ (lk Z)) := List.mem_filter.2 ⟨hZ, selZ_lk n1⟩
    rw [lvs_sel] at hf
    obtain ⟨P, hP, e⟩ := List.mem_map.1 hf
    have eP : Z.map (fun z => z.1) = P := by
      rw [← e, List.map_map]
      show P.map (fun p => p) = P
      exact List.map_id' P
    rw [eP]
    exact cok_okR P st (List.mem_filter.1 hP).2
  have reach : ∀ Z ∈ lvs σ o L m (List.range m) st, ∃ n, n < 10 ^ m ∧ (∀ k, k < m → dg m n k = lk Z k) ∧ fndC σ o L st m n ≠ none := by
    intro Z hZ
    obtain ⟨m1, m2, m3, m4, m5, m6⟩ := mem Z hZ
    obtain ⟨n, hn, he⟩ := dg_of hm m4
    refine ⟨n, hn, he, suc n _ m1 ?_⟩
    rw [okR_cg _ st (fun p hp => he p (by obtain ⟨z, hz, e⟩ := List.mem_map.1 hp; rw [← e]; exact m5 z hz))]
    exact m6
  cases B with
  | none =>
    have e : lvs σ o L m (List.range m) st = [] := by
      rw [List.eq_nil_iff_forall_not_mem]
      intro Z hZ
      obtain ⟨n, hn, _, h⟩ := reach Z hZ
      exact h (hB n hn)
    rw [e]
    rfl
  | some x =>
    obtain ⟨n, P⟩ := x
    obtain ⟨b1, b2, b3⟩ := hB
    have hPA : P ∈ lexL m (List.range m) := List.mem_of_find?_eq_some b2
    obtain ⟨p1, p2, p3⟩ := lex3_of hm hPA
    have keyle : ∀ (μ : Nat → Int) (Q : List Nat), digs m μ → Q ∈ lexL m (List.range m) → okR σ o L μ Q st = true → keyM m (dg m n) ≤ keyM m μ := by
      intro μ Q d hQ h
      obtain ⟨n', hn', he⟩ := dg_of hm d
      rw [← key_cg he]
      refine b3 n' hn' (suc n' Q hQ ?_)
      rw [okR_cg Q st (fun p hp => he p ((lex3_of hm hQ).2.2 p hp))]
      exact h
    have allc : ∀ Q ∈ lexL m (List.range m), okR σ o L (dg m n) Q st = cok σ o L (dg m n) Q st := by
      intro Q hQ
      cases h2 : cok σ o L (dg m n) Q st with
      | true => exact cok_okR Q st h2
      | false =>
        cases h1 : okR σ o L (dg m n) Q st with
        | false => rfl
        | true =>
          obtain ⟨n1, n2, n3⟩ := lex3_of hm hQ
          obtain ⟨q, hq, v, hv, r⟩ := min1 w hL (ν := dg m n) (fun k => dg_b) Q st n1 (fun p hp => by rw [hl]; exact n3 p hp) h1 h2
          have k1 := upN_key hm (ν := dg m n) (fun k => dg_b) (n3 q hq) hv
          have k2 := keyle (upN (dg m n) q v) Q (fun k _ => by
            have := dg_b (m := m) (n := n) (k := k)
            have := dg_b (m := m) (n := n) (k := q)
            unfold upN
            split <;> omega) hQ r
          omega
    have fz : (lvs σ o L m (List.range m) st).find? (selZ (dg m n)) = some (P.map (fun p => (p, dg m n p))) := by
      have eF : (lexL m (List.range m)).filter (fun P => cok σ o L (dg m n) P st) = (lexL m (List.range m)).filter (fun P => okR σ o L (dg m n) P st) := List.filter_congr (fun Q hQ => (allc Q hQ).symm)
      rw [← List.head?_filter, lvs_sel, eF, List.head?_map, List.head?_filter]
      rw [show (lexL m (List.range m)).find? (fun P => okR σ o L (dg m n) P st) = some P from b2]
      rfl
    have hZ := List.mem_of_find?_eq_some fz
    have kz : keyM m (lk (P.map (fun p => (p, dg m n p)))) = keyM m (dg m n) := key_cg (fun k hk => lk_map P (p2 k hk))
    obtain ⟨Y, hY⟩ : ∃ Y, (lvs σ o L m (List.range m) st).foldl (bst m) none = some Y := by
      cases hA : lvs σ o L m (List.range m) st with
      | nil => rw [hA] at hZ; cases hZ
      | cons X A => exact bst_some A X
    obtain ⟨t1, t2⟩ := bst_top hY
    have hYm := List.mem_of_find?_eq_some t2
    obtain ⟨y1, y2, y3, y4, y5, y6⟩ := mem Y hYm
    have ky : keyM m (lk Y) = keyM m (dg m n) := by
      have a := t1 _ hZ
      have b := keyle (lk Y) _ y4 y1 y6
      omega
    have e : (lvs σ o L m (List.range m) st).find? (fun Z => decide (keyM m (lk Z) = keyM m (lk Y))) = (lvs σ o L m (List.range m) st).find? (selZ (dg m n)) := by
      refine find_cg _ (fun Z hz => ?_)
      obtain ⟨z1, z2, z3, z4, z5, z6⟩ := mem Z hz
      rw [ky]
      by_cases c : keyM m (lk Z) = keyM m (dg m n)
      · rw [decide_eq_true c]
        refine (List.all_eq_true.2 (fun z hzz => decide_eq_true ?_)).symm
        rw [← key_inj hm z4 (fun k _ => dg_b) c z.1 (z5 z hzz)]
        exact lk_nd Z z2 z hzz
      · rw [decide_eq_false c]
        cases hs : selZ (dg m n) Z with
        | false => rfl
        | true =>
          refine absurd (key_cg (fun k hk => ?_)) c
          have := of_decide_eq_true (List.all_eq_true.1 hs (k, lk Z k) (z3 k hk))
          exact this.symm
    rw [hY, ← t2, e, fz]
    rfl
