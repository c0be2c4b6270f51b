/-! the class's book of laws: codes C, and for each law where sum, test and end lie -/
def putA (C : List Int) (x : Int) : List Int := if C.length < 1600 then C ++ [x] else C
def LB (C : List Int) (b : Int) (h : zH) : Prop := h (b + 21) 1 = C.length ∧ (C.length : Int) ≤ 1600 ∧ ∀ (j : Nat) (x : Int), C[j]? = some x → h (b + 22) (j : Int) = x
theorem LB.fr {C : List Int} {b : Int} {h h' : zH} (l : LB C b h) (e1 : h' (b + 21) 1 = h (b + 21) 1) (e2 : h' (b + 22) = h (b + 22)) : LB C b h' := by
  unfold LB at l ⊢
  rw [e1, e2]
  exact l
theorem q_lput {d : Nat} {C : List Int} {b x : Int} {h : zH} (hb : 0 ≤ b) (l : LB C b h) : zWp (m_LawBook_put (d + 1) (b + 21) x h) (fun _ h' => LB (putA C x) b h' ∧ (∀ r, ¬ (r = b + 21 ∨ r = b + 22) → h' r = h r) ∧ (∀ q, q ≠ 1 → h' (b + 21) q = h (b + 21) q)) := by
  obtain ⟨l1, l2, l3⟩ := l
  have h0 : 0 ≤ (C.length : Int) := Int.natCast_nonneg _
  rw [em_LawBook_put, l1, show b + 21 + 1 = b + 22 by omega]
  refine zWp_po (by omega) ?_
  unfold putA
  by_cases c : (C.length : Int) < 1600
  · have c' : C.length < 1600 := by omega
    rw [if_pos c']
    refine zWp_it c (zWp_po (by omega) (zWp_po (by omega) (zWp_po (by omega) (zWp_it (by omega) (zWp_lt fun h1 e1 => ?_)))))
    have k1 : h1 (b + 21) 1 = C.length := by rw [e1, zset_o (by omega)]; exact l1
    rw [k1, w32_i (x := (C.length : Int) + 1) (by omega)]
    refine zWp_po (by omega) (zWp_po (by omega) (zWp_lt fun h2 e2 => zWp_s ⟨⟨?_, ?_, fun j y hj => ?_⟩, fun r hr => ?_, fun q hq => ?_⟩))
    · rw [e2, zset_e, List.length_append]; rfl
    · rw [List.length_append]; show ((C.length + 1 : Nat) : Int) ≤ 1600; omega
    · rw [e2, zset_o (by omega), e1, zset_g]
      by_cases z : (j : Int) = (C.length : Int)
      · have ej : j = C.length := by omega
        rw [if_pos z]
        rw [ej, List.getElem?_append_right (Nat.le_refl _), Nat.sub_self] at hj
        exact Option.some.inj hj
      · rw [if_neg z]
        have hlt : j < (C ++ [x]).length := (List.getElem?_eq_some_iff.1 hj).1
        rw [List.length_append] at hlt
        have hlt' : j < C.length + 1 := hlt
        rw [List.getElem?_append_left (show j < C.length by omega)] at hj
        exact l3 j y hj
    · rw [e2, zset_n (by omega), e1, zset_n (by omega)]
    · rw [e2, zset_j hq, e1, zset_o (by omega)]
  · rw [if_neg (c := C.length < 1600) (by omega)]
    exact zWp_nt c (zWp_s ⟨⟨l1, l2, l3⟩, fun _ _ => rfl, fun _ _ => rfl⟩)
