/-! the reference gathers the stones of a mask -/
def frG (h h' : zH) : Prop := (∀ r, ¬ (r = 403 ∨ r = 457) → h' r = h r) ∧ (∀ q, ¬ q = 86 → h' 403 q = h 403 q)
theorem frG.rf (h : zH) : frG h h := ⟨fun _ _ => rfl, fun _ _ => rfl⟩
theorem frG.t {a b c : zH} (h1 : frG a b) (h2 : frG b c) : frG a c := ⟨fun r x => (h2.1 r x).trans (h1.1 r x), fun q x => (h2.2 q x).trans (h1.2 q x)⟩
theorem RC_g {σ st h h' : zH} (c : RC σ st h) (f : frG h h') : RC σ st h' := ⟨c.1.fr (f.2 12 (by decide)) (fun r a b => f.1 r (by omega)), c.2.1.fr (fun r a b => f.1 r (by omega)), c.2.2⟩
def nmL (x : Int) : Nat → Int → List Int
  | 0, _ => []
  | n + 1, i => match mkB x i with
    | true => i :: nmL x n (i + 1)
    | false => nmL x n (i + 1)
def GL (L : List Int) (h : zH) : Prop := h 403 86 = L.length ∧ ∀ (j : Nat) (y : Int), L[j]? = some y → h 457 j = y
theorem mkI_b {x : Int} (n : Nat) (i : Int) : 0 ≤ isum (mkI x) n i := (isum_le1 (f := mkI x) (fun j => by unfold mkI; cases mkB x j <;> decide) n i).1
theorem q_R_gath28 {d : Nat} {σ st : zH} {x m : Int} (hx : zI32 x) (hm : m ≤ 6) : ∀ (n : Nat) {i : Int} {L : List Int} {h : zH}, RC σ st h → 0 ≤ i → i + n = nS σ → GL L h → (L.length : Int) ≤ m → zWp (l_R_gathers_28 d x m i h) (fun v h' => v = .inl (if (L.length : Int) + isum (mkI x) n i ≤ m ∧ lyA st x n i = true then 1 else 0) ∧ frG h h' ∧ (((L.length : Int) + isum (mkI x) n i ≤ m ∧ lyA st x n i = true) → GL (L ++ nmL x n i) h')) := by
  intro n
  induction n with
  | zero =>
    intro i L h b hi hh gl hL
    have hb := b.1.b
    rw [el_R_gathers_28, b.1.2.2.2.1.2.1]
    refine zWp_it (by omega) (zWp_nt (by omega) (zWp_s ⟨?_, frG.rf h, fun _ => ?_⟩))
    · rw [if_pos ⟨by show (L.length : Int) + 0 ≤ m; omega, rfl⟩]
    · rw [show nmL x 0 i = [] from rfl, List.append_nil]; exact gl
  | succ n ih =>
    intro i L h b hi hh gl hL
    have hb := b.1.b
    have hS10 : nS σ ≤ 10 := b.2.2.1.2.1.2.2.2.1
    have e1 : h 444 i = st 1 i := by
      have := (b.2.1.2.1 i hi (by omega)).1
      rwa [show 10 * 0 + i = i by omega] at this
    have ge := mkI_b (x := x) n (i + 1)
    rw [el_R_gathers_28, b.1.2.2.2.1.2.1, mkB_t hx (by omega), e1, gl.1, w32_i (x := i + 1) (by omega), show isum (mkI x) (n + 1) i = mkI x i + isum (mkI x) n (i + 1) from rfl, show lyA st x (n + 1) i = ((!(mkB x i) || decide (st 1 i ≠ -1)) && lyA st x n (i + 1)) from rfl]
    refine zWp_it (by omega) (zWp_it (by omega) ?_)
    cases hmk : mkB x i with
    | false =>
      have e0 : mkI x i = 0 := by unfold mkI; rw [hmk]; rfl
      have el : nmL x (n + 1) i = nmL x n (i + 1) := by rw [nmL, hmk]
      rw [e0, el, Int.zero_add]
      exact zWp_it rfl (ih b (by omega) (by omega) gl hL)
    | true =>
      have e0 : mkI x i = 1 := by unfold mkI; rw [hmk]; rfl
      have el : nmL x (n + 1) i = i :: nmL x n (i + 1) := by rw [nmL, hmk]
      rw [e0, el]
      refine zWp_nt (by decide) ?_
      by_cases c1 : (L.length : Int) = m
      · refine zWp_it c1 (zWp_s ⟨by rw [if_neg (fun z => by omega)], frG.rf h, fun z => by omega⟩)
      refine zWp_nt c1 (zWp_it (by omega) ?_)
      by_cases c2 : st 1 i = -1
      · rw [decide_eq_false (fun z => z c2)]
        exact zWp_it c2 (zWp_s ⟨by rw [if_neg (fun z => Bool.false_ne_true z.2)], frG.rf h, fun z => absurd z.2 Bool.false_ne_true⟩)
      rw [decide_eq_true c2]
      refine zWp_nt c2 (zWp_it (by omega) (zWp_lt fun h1 q1 => zWp_lt fun h2 q2 => ?_))
      have f2 : frG h h2 := ⟨fun r hr => by rw [q2, zset_n (by omega), q1, zset_n (by omega)], fun q hq => by rw [q2, zset_j hq, q1, zset_o (by decide)]⟩
      have g2 : GL (L ++ [i]) h2 := by
        refine ⟨?_, fun j y hj => ?_⟩
        · rw [q2, zset_e, q1, zset_o (by decide), gl.1, w32_i (by omega), List.length_append]; rfl
        · rw [q2, zset_o (by decide), q1, zset_g]
          by_cases e : (j : Int) = (L.length : Int)
          · have ej : j = L.length := by omega
            rw [if_pos e]
            rw [ej, List.getElem?_append_right (Nat.le_refl _), Nat.sub_self] at hj
            exact Option.some.inj hj
          · rw [if_neg e]
            have hlt : j < (L ++ [i]).length := (List.getElem?_eq_some_iff.1 hj).1
            rw [List.length_append] at hlt
            rw [List.getElem?_append_left (show j < L.length by simp at hlt; omega)] at hj
            exact gl.2 j y hj
      have el2 : ((L ++ [i]).length : Int) = (L.length : Int) + 1 := by rw [List.length_append]; rfl
      have := ih (i := i + 1) (RC_g b f2) (by omega) (by omega) g2 (by omega)
      rw [el2, Int.add_assoc, List.append_assoc] at this
      refine zWp_m this ?_
      rintro v h' ⟨u1, u2, u3⟩
      exact ⟨u1, f2.t u2, u3⟩
theorem bc_pos : ∀ x : Nat, x < 1024 → 1 ≤ x → 1 ≤ bcI (x : Int) := by decide +kernel
theorem q_R_gathers {d : Nat} {σ st : zH} {x m : Int} {h : zH} (b : RC σ st h) (hx : zI32 x) (hm : 0 ≤ m ∧ m ≤ 6) : zWp (m_R_gathers (d + 1) x m h) (fun v h' => v = .inl (if LyP σ st x m then 1 else 0) ∧ frG h h' ∧ (LyP σ st x m → GL (nmL x (nS σ).toNat 0) h')) := by
  have hb := b.1.b
  have hS0 : 0 ≤ nS σ := b.2.2.1.2.1.2.2.1
  have hS10 : nS σ ≤ 10 := b.2.2.1.2.1.2.2.2.1
  have hp : (2 : Nat) ^ (nS σ).toNat ≤ 2 ^ 10 := Nat.pow_le_pow_right (by decide) (by omega)
  have es : zshl 1 (nS σ) = ((2 ^ (nS σ).toNat : Nat) : Int) := by
    have := zshl_n (a := 1) (k := (nS σ).toNat) (by omega) (by omega)
    rw [show (((nS σ).toNat : Nat) : Int) = nS σ by omega, Nat.one_mul] at this
    exact this
  have z0 : isum (mkI 0) (nS σ).toNat 0 = 0 := isum_z _ _ (fun i _ _ => by unfold mkI mkB; rw [Int.zero_ediv]; rfl)
  rw [em_R_gathers, b.1.2.2.2.1.2.1, es]
  by_cases c0 : 0 < x
  case neg =>
    have no : ¬ LyP σ st x m := fun z => by
      have ex : x = 0 := by have := z.1.1; omega
      have := z.2.1.1
      rw [ex, z0] at this
      omega
    rw [if_neg no]
    exact zWp_nt c0 (zWp_s ⟨rfl, frG.rf h, fun z => absurd z no⟩)
  refine zWp_it c0 (zWp_it (by omega) ?_)
  by_cases c1 : x < ((2 ^ (nS σ).toNat : Nat) : Int)
  case neg =>
    have no : ¬ LyP σ st x m := fun z => c1 z.1.2
    rw [if_neg no]
    exact zWp_nt c1 (zWp_s ⟨rfl, frG.rf h, fun z => absurd z no⟩)
  refine zWp_it c1 (zWp_lt fun h1 q1 => ?_)
  have f1 : frG h h1 := ⟨fun r hr => by rw [q1, zset_n (by omega)], fun q hq => by rw [q1, zset_j hq]⟩
  have g1 : GL [] h1 := ⟨by rw [q1, zset_e]; rfl, fun j y hj => by simp at hj⟩
  have one : 1 ≤ isum (mkI x) (nS σ).toNat 0 := by
    rw [← bc_n (by omega) ⟨by omega, c1⟩]
    have := bc_pos x.toNat (by omega) (by omega)
    rwa [show ((x.toNat : Nat) : Int) = x by omega] at this
  have iff1 : (((([] : List Int).length : Int) + isum (mkI x) (nS σ).toNat 0 ≤ m ∧ lyA st x (nS σ).toNat 0 = true) ↔ LyP σ st x m) := by
    rw [show ((([] : List Int).length : Int)) = 0 from rfl, Int.zero_add]
    exact ⟨fun z => ⟨⟨by omega, c1⟩, ⟨one, z.1⟩, z.2⟩, fun z => ⟨z.2.1.2, z.2.2⟩⟩
  refine zWp_m (q_R_gath28 (d := d) hx hm.2 (nS σ).toNat (RC_g b f1) (Int.le_refl 0) (by omega) g1 (by show (0 : Int) ≤ m; omega)) ?_
  rintro v h' ⟨u1, u2, u3⟩
  refine ⟨?_, f1.t u2, fun z => u3 (iff1.2 z)⟩
  rw [u1]
  by_cases c2 : LyP σ st x m
  · rw [if_pos c2, if_pos (iff1.2 c2)]
  · rw [if_neg c2, if_neg (fun z => c2 (iff1.1 z))]
