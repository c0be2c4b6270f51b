/-! the class lists a mask's stones; the reference's first order -/
def QL (L : List Int) (h : zH) : Prop := ∀ (j : Nat) (y : Int), L[j]? = some y → h 378 j = y
theorem q_listQ4 {d : Nat} {x : Int} (hx : zI32 x) : ∀ (n : Nat) {i : Int} {L : List Int} {h : zH}, 0 ≤ i → i + n = 10 → QL L h → (L.length : Int) + isum (mkI x) n i ≤ 6 → zWp (l_B_listQuarried_4 d x (L.length : Int) i h) (fun v h' => v = .inl ((L ++ nmL x n i).length : Int) ∧ QL (L ++ nmL x n i) h' ∧ ∀ r, ¬ r = 378 → h' r = h r) := by
  intro n
  induction n with
  | zero =>
    intro i L h hi hh gl hL
    rw [el_B_listQuarried_4, show nmL x 0 i = [] from rfl, List.append_nil]
    exact zWp_nt (by omega) (zWp_s ⟨rfl, gl, fun _ _ => rfl⟩)
  | succ n ih =>
    intro i L h hi hh gl hL
    have ge := mkI_b (x := x) n (i + 1)
    rw [show isum (mkI x) (n + 1) i = mkI x i + isum (mkI x) n (i + 1) from rfl] at hL
    rw [el_B_listQuarried_4, mkB_t hx (by omega), w32_i (x := i + 1) (by omega)]
    refine zWp_it (by omega) ?_
    cases hmk : mkB x i with
    | false =>
      have e0 : mkI x i = 0 := by unfold mkI; rw [hmk]; rfl
      have el : nmL x (n + 1) i = nmL x n (i + 1) := by rw [nmL, hmk]
      rw [el]
      exact zWp_nt (by decide) (ih (by omega) (by omega) gl (by omega))
    | true =>
      have e0 : mkI x i = 1 := by unfold mkI; rw [hmk]; rfl
      have el : nmL x (n + 1) i = [i] ++ nmL x n (i + 1) := by rw [nmL, hmk]; rfl
      rw [el, ← List.append_assoc]
      have el2 : ((L ++ [i]).length : Int) = (L.length : Int) + 1 := by rw [List.length_append]; rfl
      refine zWp_it rfl (zWp_it (by omega) (zWp_it (by omega) (zWp_lt fun h1 q1 => ?_)))
      have g1 : QL (L ++ [i]) h1 := fun j y hj => by
        rw [q1, zset_g]
        by_cases e : (j : Int) = (L.length : Int)
        · have ej : j = L.length := by omega
          rw [if_pos e]
          rw [ej, List.getElem?_append_right (Nat.le_refl _), Nat.sub_self] at hj
          exact Option.some.inj hj
        · rw [if_neg e]
          have hlt : j < (L ++ [i]).length := (List.getElem?_eq_some_iff.1 hj).1
          rw [List.length_append] at hlt
          rw [List.getElem?_append_left (show j < L.length by simp at hlt; omega)] at hj
          exact gl j y hj
      have := ih (i := i + 1) (L := L ++ [i]) (h := h1) (by omega) (by omega) g1 (by omega)
      rw [el2] at this
      rw [w32_i (x := (L.length : Int) + 1) (by omega)]
      refine zWp_m this ?_
      rintro v h' ⟨u1, u2, u3⟩
      exact ⟨u1, u2, fun r hr => by rw [u3 r hr, q1, zset_n hr]⟩
theorem q_R_first2 {d : Nat} {k : Int} (hk : k ≤ 6) : ∀ (n : Nat) {i : Int} {h : zH}, h 403 86 = k → 0 ≤ i → i + n = k → (∀ j, 0 ≤ j → j < i → h 459 j = j) → zWp (l_R_firstOrder_2 d i h) (fun _ h' => (∀ j, 0 ≤ j → j < k → h' 459 j = j) ∧ ∀ r, ¬ r = 459 → h' r = h r) := by
  intro n
  induction n with
  | zero =>
    intro i h e hi hh hj
    rw [el_R_firstOrder_2, e]
    exact zWp_nt (by omega) (zWp_s ⟨fun j a b => hj j a (by omega), fun _ _ => rfl⟩)
  | succ n ih =>
    intro i h e hi hh hj
    rw [el_R_firstOrder_2, e, w32_i (x := i + 1) (by omega)]
    refine zWp_it (by omega) (zWp_it (by omega) (zWp_lt fun h1 q1 => zWp_m (ih (by rw [q1, zset_o (by decide)]; exact e) (by omega) (by omega) (fun j a b => ?_)) ?_))
    · rw [q1, zset_g]
      by_cases c : j = i
      · rw [if_pos c, c]
      · rw [if_neg c]; exact hj j a (by omega)
    · rintro v h' ⟨u1, u2⟩
      exact ⟨u1, fun r hr => by rw [u2 r hr, q1, zset_n hr]⟩
