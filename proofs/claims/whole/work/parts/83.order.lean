/-! orders: how the reference goes on from one to the next -/
def swp (f : Int → Int) (a b : Int) : Int → Int := fun i => if i = b then f a else if i = a then f b else f i
def nxK (f : Int → Int) : Nat → Int
  | 0 => -1
  | n + 1 => if f ((n : Int) + 1) < f n then nxK f n else n
def nxJ (f : Int → Int) (k : Int) : Nat → Int
  | 0 => 0
  | n + 1 => if f ((n : Int) + 1) < f k then nxJ f k n else (n : Int) + 1
def nxR : Nat → (Int → Int) → Int → Int → (Int → Int)
  | 0, f, _, _ => f
  | n + 1, f, a, b => if a < b then nxR n (swp f a b) (a + 1) (b - 1) else f
def nxt (m : Nat) (f : Int → Int) : Option (Int → Int) := if nxK f (m - 1) < 0 then none else some (nxR 3 (swp f (nxK f (m - 1)) (nxJ f (nxK f (m - 1)) (m - 1))) (nxK f (m - 1) + 1) ((m : Int) - 1))
theorem nxK_b {f : Int → Int} : ∀ n : Nat, -1 ≤ nxK f n ∧ nxK f n < n
  | 0 => by show -1 ≤ (-1 : Int) ∧ (-1 : Int) < ((0 : Nat) : Int); decide
  | n + 1 => by
    have := nxK_b (f := f) n
    rw [nxK]
    split <;> omega
theorem nxJ_b {f : Int → Int} {k : Int} : ∀ n : Nat, 0 ≤ nxJ f k n ∧ nxJ f k n ≤ n
  | 0 => by show 0 ≤ (0 : Int) ∧ (0 : Int) ≤ ((0 : Nat) : Int); decide
  | n + 1 => by
    have := nxJ_b (f := f) (k := k) n
    rw [nxJ]
    split <;> omega
def agr (m : Int) (f g : Int → Int) : Prop := ∀ i, 0 ≤ i → i < m → f i = g i
theorem nxK_cg {f g : Int → Int} {m : Int} (h : agr m f g) : ∀ n : Nat, (n : Int) < m → nxK f n = nxK g n
  | 0, _ => rfl
  | n + 1, hn => by rw [nxK, nxK, h _ (by omega) (by omega), h n (by omega) (by omega), nxK_cg h n (by omega)]
theorem nxJ_cg {f g : Int → Int} {m k : Int} (h : agr m f g) (hk : 0 ≤ k ∧ k < m) : ∀ n : Nat, (n : Int) < m → nxJ f k n = nxJ g k n
  | 0, _ => rfl
  | n + 1, hn => by rw [nxJ, nxJ, h _ (by omega) (by omega), h k hk.1 hk.2, nxJ_cg h hk n (by omega)]
theorem swp_cg {f g : Int → Int} {m a b : Int} (h : agr m f g) (ha : 0 ≤ a ∧ a < m) (hb : 0 ≤ b ∧ b < m) : agr m (swp f a b) (swp g a b) := by
  intro i i1 i2
  unfold swp
  rw [h a ha.1 ha.2, h b hb.1 hb.2, h i i1 i2]
theorem nxR_cg {m : Int} : ∀ (n : Nat) {f g : Int → Int} {a b : Int}, agr m f g → 0 ≤ a → b < m → agr m (nxR n f a b) (nxR n g a b)
  | 0, _, _, _, _, h, _, _ => h
  | n + 1, f, g, a, b, h, ha, hb => by
    rw [nxR, nxR]
    by_cases c : a < b
    · rw [if_pos c, if_pos c]
      exact nxR_cg n (swp_cg h (by omega) (by omega)) (by omega) (by omega)
    · rw [if_neg c, if_neg c]; exact h
theorem swp_p {f : Int → Int} {a b : Int} (h : ∀ i, 0 ≤ f i) : ∀ i, 0 ≤ swp f a b i := by
  intro i
  unfold swp
  split
  · exact h a
  · split
    · exact h b
    · exact h i
theorem nxR_p : ∀ (n : Nat) {f : Int → Int} {a b : Int}, (∀ i, 0 ≤ f i) → ∀ i, 0 ≤ nxR n f a b i
  | 0, _, _, _, h => h
  | n + 1, f, a, b, h => by
    rw [nxR]
    split
    · exact nxR_p n (swp_p h)
    · exact h
def toF (P : List Nat) : Int → Int := fun i => ((P.getD i.toNat 0 : Nat) : Int)
def nxL (P : List Nat) : Option (List Nat) := match nxt P.length (toF P) with
  | none => none
  | some g => some ((List.range P.length).map (fun j : Nat => (g (j : Int)).toNat))
def lexL : Nat → List Nat → List (List Nat)
  | 0, _ => [[]]
  | n + 1, U => U.flatMap (fun i => (lexL n (U.erase i)).map (fun P => i :: P))
def chn : List (List Nat) → Bool
  | [] => false
  | P :: r => match r with
    | [] => decide (nxL P = none)
    | Q :: _ => decide (nxL P = some Q) && chn r
def okO (m : Nat) (P : List Nat) : Bool := Nat.beq P.length m && P.all (fun p => Nat.blt p m)
theorem lex_chn : ∀ m : Nat, m < 6 → chn (lexL (m + 1) (List.range (m + 1))) = true := by decide +kernel
theorem lex_ok : ∀ m : Nat, m < 6 → (lexL (m + 1) (List.range (m + 1))).all (okO (m + 1)) = true := by decide +kernel
theorem lex_hd : ∀ m : Nat, m < 6 → (lexL (m + 1) (List.range (m + 1))).head? = some (List.range (m + 1)) := by decide +kernel
/-- the heap holds an order -/
def OL (P : List Nat) (h : zH) : Prop := h 403 86 = P.length ∧ ∀ j : Nat, j < P.length → h 459 j = ((P.getD j 0 : Nat) : Int)
theorem OL.agr {P : List Nat} {h : zH} (o : OL P h) : agr P.length (h 459) (toF P) := by
  intro i i1 i2
  have := o.2 i.toNat (by omega)
  rw [show ((i.toNat : Nat) : Int) = i by omega] at this
  exact this
theorem q_nx107 {d : Nat} : ∀ (n : Nat) {a b : Int} {h : zH}, b - a ≤ 2 * n → 0 ≤ a → b < 6 → zWp (l_R_nextOrder_107 d a b h) (fun v h' => v = .inl 1 ∧ h' 459 = nxR n (h 459) a b ∧ ∀ r, ¬ r = 459 → h' r = h r)
  | 0, a, b, h, hn, ha, hb => by
    rw [el_R_nextOrder_107]
    exact zWp_nt (by omega) (zWp_s ⟨rfl, rfl, fun _ _ => rfl⟩)
  | n + 1, a, b, h, hn, ha, hb => by
    rw [el_R_nextOrder_107]
    by_cases c : a < b
    · refine zWp_it c (zWp_it (by omega) (zWp_it (by omega) (zWp_it (by omega) (zWp_lt fun h1 e1 => zWp_it (by omega) (zWp_lt fun h2 e2 => ?_)))))
      rw [w32_i (x := a + 1) (by omega), w32_i (x := b + -1) (by omega), show b + -1 = b - 1 by omega]
      have e3 : h2 459 = swp (h 459) a b := by
        funext i
        unfold swp
        rw [e2, zset_g, e1, zset_g]
      refine zWp_m (q_nx107 n (h := h2) (by omega) (by omega) (by omega)) (fun v h' u => ⟨u.1, ?_, fun r hr => by rw [u.2.2 r hr, e2, zset_n hr, e1, zset_n hr]⟩)
      rw [u.2.1, e3, nxR, if_pos c]
    · refine zWp_nt c (zWp_s ⟨rfl, ?_, fun _ _ => rfl⟩)
      rw [nxR, if_neg c]
theorem q_nx47 {d : Nat} {k : Int} {m : Nat} {h : zH} (hm : (m : Int) ≤ 6) (e86 : h 403 86 = m) (hk : 0 ≤ k ∧ k < m) : ∀ (n : Nat), k ≤ n → (n : Int) < m → zWp (l_R_nextOrder_47 d k n h) (fun v h' => v = .inl 1 ∧ h' 459 = nxR 3 (swp (h 459) k (nxJ (h 459) k n)) (k + 1) ((m : Int) - 1) ∧ ∀ r, ¬ r = 459 → h' r = h r) := by
  intro n
  have stp : ∀ j : Int, 0 ≤ j → j < m → ¬ h 459 j < h 459 k → zWp (l_R_nextOrder_47 d k j h) (fun v h' => v = .inl 1 ∧ h' 459 = nxR 3 (swp (h 459) k j) (k + 1) ((m : Int) - 1) ∧ ∀ r, ¬ r = 459 → h' r = h r) := by
    intro j j1 j2 c
    rw [el_R_nextOrder_47]
    refine zWp_it (by omega) (zWp_it (by omega) (zWp_nt c (zWp_it (by omega) (zWp_it (by omega) (zWp_it (by omega) (zWp_lt fun h1 e1 => zWp_it (by omega) (zWp_lt fun h2 e2 => ?_)))))))
    have e3 : h2 459 = swp (h 459) k j := by
      funext i
      unfold swp
      rw [e2, zset_g, e1, zset_g]
    have e4 : h2 403 86 = m := by rw [e2, zset_o (by decide), e1, zset_o (by decide), e86]
    rw [e4, w32_i (x := k + 1) (by omega), w32_i (x := (m : Int) - 1) (by omega)]
    refine zWp_m (q_nx107 3 (h := h2) (by omega) (by omega) (by omega)) (fun v h' u => ⟨u.1, by rw [u.2.1, e3], fun r hr => by rw [u.2.2 r hr, e2, zset_n hr, e1, zset_n hr]⟩)
  induction n with
  | zero =>
    intro hn hh
    have ek : k = 0 := by omega
    refine stp 0 (by omega) (by omega) ?_
    rw [ek]; omega
  | succ n ih =>
    intro hn hh
    rw [nxJ]
    by_cases c : h 459 ((n : Int) + 1) < h 459 k
    · rw [if_pos c]
      have hk2 : k ≤ n := by
        by_cases z : k = (n : Int) + 1
        · rw [z] at c; omega
        · omega
      rw [show ((n + 1 : Nat) : Int) = (n : Int) + 1 from rfl, el_R_nextOrder_47]
      refine zWp_it (by omega) (zWp_it (by omega) (zWp_it c ?_))
      rw [w32_i (x := (n : Int) + 1 + -1) (by omega), show (n : Int) + 1 + -1 = n by omega]
      exact ih hk2 (by omega)
    · rw [if_neg c]
      exact stp _ (by omega) (by omega) c
theorem q_nx7 {d m : Nat} {h : zH} (hm : (m : Int) ≤ 6) (h1 : 1 ≤ m) (e86 : h 403 86 = m) : ∀ (n : Nat), (n : Int) < m → zWp (l_R_nextOrder_7 d ((n : Int) - 1) h) (fun v h' => (∀ r, ¬ r = 459 → h' r = h r) ∧ (nxK (h 459) n < 0 ∧ v = .inl 0 ∧ h' = h ∨ ¬ nxK (h 459) n < 0 ∧ v = .inl 1 ∧ h' 459 = nxR 3 (swp (h 459) (nxK (h 459) n) (nxJ (h 459) (nxK (h 459) n) (m - 1))) (nxK (h 459) n + 1) ((m : Int) - 1)))
  | 0, _ => by
    rw [el_R_nextOrder_7]
    refine zWp_it (by decide) ?_
    rw [el_R_nextOrder_34]
    exact zWp_it (by decide) (zWp_s ⟨fun _ _ => rfl, Or.inl ⟨show (-1 : Int) < 0 by decide, rfl, rfl⟩⟩)
  | n + 1, hn => by
    rw [show ((n + 1 : Nat) : Int) - 1 = n by omega, el_R_nextOrder_7, w32_i (x := (n : Int) + 1) (by omega), nxK]
    refine zWp_nt (by omega) (zWp_it (by omega) (zWp_it (by omega) ?_))
    by_cases c : h 459 ((n : Int) + 1) < h 459 n
    · refine zWp_it c ?_
      rw [if_pos c]
      rw [w32_i (x := (n : Int) + -1) (by omega), show (n : Int) + -1 = (n : Int) - 1 by omega]
      exact q_nx7 hm h1 e86 n (by omega)
    · refine zWp_nt c ?_
      rw [if_neg c]
      rw [el_R_nextOrder_34, e86, w32_i (x := (m : Int) - 1) (by omega), show (m : Int) - 1 = ((m - 1 : Nat) : Int) by omega]
      refine zWp_nt (by omega) (zWp_m (q_nx47 hm e86 (by omega) (m - 1) (by omega) (by omega)) (fun v h' u => ⟨u.2.2, Or.inr ⟨by omega, u.1, ?_⟩⟩))
      rw [u.2.1, show ((m - 1 : Nat) : Int) = (m : Int) - 1 by omega]
theorem q_R_next {d m : Nat} {P : List Nat} {h : zH} (o : OL P h) (hp : P.length = m) (hm : 1 ≤ m ∧ m ≤ 6) : zWp (m_R_nextOrder (d + 1) h) (fun v h' => (∀ r, ¬ r = 459 → h' r = h r) ∧ (nxL P = none ∧ v = .inl 0 ∨ ∃ g, nxL P = some ((List.range m).map (fun j : Nat => (g (j : Int)).toNat)) ∧ v = .inl 1 ∧ agr m (h' 459) g ∧ ∀ i, 0 ≤ g i)) := by
  have ag := o.agr
  have e86 : h 403 86 = m := by rw [o.1, hp]
  rw [em_R_nextOrder, e86, w32_i (x := (m : Int) - 2) (by omega), show (m : Int) - 2 = ((m - 1 : Nat) : Int) - 1 by omega]
  refine zWp_m (q_nx7 (by omega) hm.1 e86 (m - 1) (by omega)) (fun v h' u => ⟨u.1, ?_⟩)
  rw [hp] at ag
  have eK := nxK_cg ag (m - 1) (by omega)
  rcases u.2 with ⟨z, u1, _⟩ | ⟨z, u1, u2⟩
  · refine Or.inl ⟨?_, u1⟩
    unfold nxL nxt
    rw [hp, ← eK, if_pos z]
  · refine Or.inr ⟨nxR 3 (swp (toF P) (nxK (toF P) (m - 1)) (nxJ (toF P) (nxK (toF P) (m - 1)) (m - 1))) (nxK (toF P) (m - 1) + 1) ((m : Int) - 1), ?_, u1, ?_, nxR_p 3 (swp_p (fun i => Int.natCast_nonneg _))⟩
    · unfold nxL nxt
      rw [hp, if_neg (by rw [← eK]; exact z)]
    · have b := nxK_b (f := h 459) (m - 1)
      have eJ := nxJ_cg ag (k := nxK (h 459) (m - 1)) (by omega) (m - 1) (by omega)
      have bj := nxJ_b (f := h 459) (k := nxK (h 459) (m - 1)) (m - 1)
      rw [u2, eJ, ← eK]
      rw [eJ] at bj
      exact nxR_cg 3 (swp_cg ag (by omega) (by omega)) (by omega) (by omega)
/-- with the orders by numbers: the next one, or the end -/
theorem q_R_nextL {d m : Nat} {P : List Nat} {r : List (List Nat)} {h : zH} (o : OL P h) (hm : 1 ≤ m ∧ m ≤ 6) (hc : chn (P :: r) = true) (ha : (P :: r).all (okO m) = true) : zWp (m_R_nextOrder (d + 1) h) (fun v h' => (∀ q, ¬ q = 459 → h' q = h q) ∧ (r = [] ∧ v = .inl 0 ∨ ∃ Q r', r = Q :: r' ∧ v = .inl 1 ∧ OL Q h' ∧ chn (Q :: r') = true ∧ (Q :: r').all (okO m) = true)) := by
  rw [List.all_cons, Bool.and_eq_true] at ha
  have hp : P.length = m := by
    have := ha.1
    unfold okO at this
    rw [Bool.and_eq_true] at this
    exact Nat.eq_of_beq_eq_true this.1
  refine zWp_m (q_R_next (d := d) o hp hm) (fun v h' u => ⟨u.1, ?_⟩)
  cases r with
  | nil =>
    have e : nxL P = none := of_decide_eq_true hc
    rcases u.2 with z | ⟨g, z, _⟩
    · exact Or.inl ⟨rfl, z.2⟩
    · rw [e] at z; cases z
  | cons Q r' =>
    have hc' : (decide (nxL P = some Q) && chn (Q :: r')) = true := hc
    rw [Bool.and_eq_true] at hc'
    have e : nxL P = some Q := of_decide_eq_true hc'.1
    rcases u.2 with z | ⟨g, z1, z2, z3, z4⟩
    · rw [e] at z; cases z.1
    · refine Or.inr ⟨Q, r', rfl, z2, ?_, hc'.2, ha.2⟩
      rw [e] at z1
      have eQ := Option.some.inj z1
      have hq := ha.2
      rw [List.all_cons, Bool.and_eq_true] at hq
      have hq1 := hq.1
      unfold okO at hq1
      rw [Bool.and_eq_true] at hq1
      have lQ : Q.length = m := Nat.eq_of_beq_eq_true hq1.1
      refine ⟨by rw [u.1 403 (by decide), o.1, hp, lQ], fun j hj => ?_⟩
      rw [lQ] at hj
      have eg : Q.getD j 0 = (g (j : Int)).toNat := by rw [eQ, List.getD_eq_getElem?_getD, List.getElem?_map, List.getElem?_range hj]; rfl
      have := z4 (j : Int)
      rw [z3 j (by omega) (by omega), eg]
      omega
