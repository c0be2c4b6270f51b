theorem MV.snoc {σ : zH} {E : List zEv} {R : Int} {P P' : List Int} {m : Int} {h h' : zH} (v : MV σ E R P m h) (e : zEv) (h2 : h' m 2 = h m 2) (h3 : h' m 3 = w32 (h m 3 + eRu e)) (h4 : h' m 4 = w32 (h m 4 + eWo e)) (h5 : h' m 5 = w32 (h m 5 + eMt e)) (h6 : h' m 6 = w32 (h m 6 + eGo e)) (h8 : ¬ 2 ≤ eK e → h' m 8 = h m 8) (h8' : 2 ≤ eK e → h' m 8 = zlor (h m 8) (zlshl 1 (eN e))) (hN : 0 ≤ eN e ∧ eN e < 60) (hp : h' m 1 = P'.length ∧ ∀ (j : Nat) (x : Int), P'[j]? = some x → h' (m + 1) j = x) (hc : h' m 10 = (ecl σ (E ++ [e])).length ∧ ∀ (j : Nat) (x : zEv), (ecl σ (E ++ [e]))[j]? = some x → ∀ q : Nat, q < 7 → h' (m + 2) (7 * j + q) = (eRow σ x).getD q 0) : MV σ (E ++ [e]) R P' m h' := by
  obtain ⟨v2, v3, v4, v5, v6, ⟨N, n1, n2, n3⟩, vp, vc⟩ := v
  refine ⟨h2.trans v2, ?_, ?_, ?_, ?_, ?_, hp, hc⟩
  · rw [h3, v3, w32_a, esum_app, esum_1]
  · rw [h4, v4, w32_a, esum_app, esum_1]
  · rw [h5, v5, w32_a, esum_app, esum_1]
  · rw [h6, v6, w32_a, esum_app, esum_1]
  · by_cases c : 2 ≤ eK e
    · obtain ⟨M, m1, m2, m3⟩ := zlor_bit n1 n2 hN
      refine ⟨M, (h8' c).trans m1, m2, fun i => ?_⟩
      rw [m3 i, n3 i]
      constructor
      · rintro (⟨x, x1, x2⟩ | q)
        · exact ⟨x, List.mem_append_left _ x1, x2⟩
        · exact ⟨e, List.mem_append_right _ (List.mem_singleton.mpr rfl), c, q⟩
      · rintro ⟨x, x1, x2⟩
        rcases List.mem_append.mp x1 with y | y
        · exact Or.inl ⟨x, y, x2⟩
        · rw [List.mem_singleton.mp y] at x2; exact Or.inr x2.2
    · refine ⟨N, (h8 c).trans n1, n2, fun i => ?_⟩
      rw [n3 i]
      constructor
      · rintro ⟨x, x1, x2⟩
        exact ⟨x, List.mem_append_left _ x1, x2⟩
      · rintro ⟨x, x1, x2⟩
        rcases List.mem_append.mp x1 with y | y
        · exact ⟨x, y, x2⟩
        · rw [List.mem_singleton.mp y] at x2; exact absurd x2.1 c
theorem MV.same {σ : zH} {E : List zEv} {R : Int} {P : List Int} {m : Int} {h h' : zH} (v : MV σ E R P m h) {e : zEv} (hk : ¬ (eK e = 2 ∨ eK e = 3)) (h1 : h' m 10 = h m 10) (h2 : h' (m + 2) = h (m + 2)) : h' m 10 = (ecl σ (E ++ [e])).length ∧ ∀ (j : Nat) (x : zEv), (ecl σ (E ++ [e]))[j]? = some x → ∀ q : Nat, q < 7 → h' (m + 2) (7 * j + q) = (eRow σ x).getD q 0 := by
  rw [ecl_app, ecl_n (fun z => hk z.1), List.append_nil, h1, h2]
  exact v.2.2.2.2.2.2.2
theorem w32_w {x : Int} : w32 (w32 x) = w32 x := by unfold w32; omega
/-- the fields of a mover are ints -/
def MI (m : Int) (h : zH) : Prop := ∀ k, 2 ≤ k → k ≤ 6 → w32 (h m k) = h m k
theorem MV.mi {σ : zH} {E : List zEv} {R : Int} {P : List Int} {m : Int} {h : zH} (v : MV σ E R P m h) : MI m h := by
  intro k h1 h2
  obtain ⟨v2, v3, v4, v5, v6, -⟩ := v
  rcases (show k = 2 ∨ k = 3 ∨ k = 4 ∨ k = 5 ∨ k = 6 by omega) with e | e | e | e | e
  · rw [e, v2, w32_w]
  · rw [e, v3, w32_w]
  · rw [e, v4, w32_w]
  · rw [e, v5, w32_w]
  · rw [e, v6, w32_w]
theorem frc {sp w : Int} (h1 : 1 ≤ sp ∧ sp ≤ 999) (h2 : 1 ≤ w ∧ w ≤ 999) : 1 ≤ sp * w ∧ sp * w ≤ 998001 := by
  have a := Int.mul_le_mul h1.2 h2.2 (by omega) (by omega)
  have b := Int.mul_le_mul h1.1 h2.1 (by omega) (by omega)
  omega
def okP (h : zH) (m : Int) : Prop := h m 13 = 0 ∨ 0 ≤ h m 1 ∧ h m 1 < 60
theorem okP.cg {h h' : zH} {m : Int} (o : okP h m) (e1 : h' m 13 = h m 13) (e2 : h' m 1 = h m 1) : okP h' m := by unfold okP; rw [e1, e2]; exact o
