/-- what a mover has noted: events, rolls, path -/
def MV (σ : zH) (E : List zEv) (R : Int) (P : List Int) (m : Int) (h : zH) : Prop :=
  h m 2 = w32 R ∧ h m 3 = w32 (esum eRu E) ∧ h m 4 = w32 (esum eWo E) ∧ h m 5 = w32 (esum eMt E) ∧ h m 6 = w32 (esum eGo E) ∧
  (∃ N : Nat, h m 8 = N ∧ N < 2 ^ 60 ∧ ∀ i : Nat, N.testBit i = true ↔ ∃ e ∈ E, 2 ≤ eK e ∧ eN e = i) ∧
  (h m 1 = P.length ∧ ∀ (j : Nat) (x : Int), P[j]? = some x → h (m + 1) j = x) ∧
  (h m 10 = (ecl σ E).length ∧ ∀ (j : Nat) (e : zEv), (ecl σ E)[j]? = some e → ∀ q : Nat, q < 7 → h (m + 2) (7 * j + q) = (eRow σ e).getD q 0)
theorem zlor_bit {x : Int} {N : Nat} {n : Int} (hx : x = N) (hN : N < 2 ^ 60) (hn : 0 ≤ n ∧ n < 60) : ∃ M : Nat, zlor x (zlshl 1 n) = M ∧ M < 2 ^ 60 ∧ ∀ i : Nat, M.testBit i = true ↔ (N.testBit i = true ∨ n = i) := by
  obtain ⟨j, rfl⟩ := Int.eq_ofNat_of_zero_le hn.1
  have hj : j < 60 := by omega
  have h2 : 2 ^ j < 2 ^ 60 := Nat.pow_lt_pow_right (by omega) hj
  refine ⟨N ||| 2 ^ j, ?_, Nat.or_lt_two_pow hN h2, fun i => ?_⟩
  · rw [hx, show (1 : Int) = ((1 : Nat) : Int) from rfl, zlshl_n (by omega) (by omega), Nat.one_mul, zlor_n (by omega) (by omega)]
  · rw [Nat.testBit_or, Nat.testBit_two_pow, Bool.or_eq_true, decide_eq_true_iff]
    constructor
    · rintro (q | q)
      · exact Or.inl q
      · exact Or.inr (by omega)
    · rintro (q | q)
      · exact Or.inl q
      · exact Or.inr (by omega)
/-- the claim's part of MV -/
theorem MV.cl {σ : zH} {E : List zEv} {R : Int} {P : List Int} {m : Int} {h h' : zH} (v : MV σ E R P m h) {e : zEv} (hn : ¬ (e.2.1 = -1 ∨ σ 6 (eN e) = -1 ∨ e.2.1 = σ 6 (eN e)) → h' m 10 = h m 10 + 1 ∧ (∀ i, i < 7 * h m 10 → h' (m + 2) i = h (m + 2) i) ∧ ∀ q : Nat, q < 7 → h' (m + 2) (7 * h m 10 + q) = (eRow σ e).getD q 0) (hy : (e.2.1 = -1 ∨ σ 6 (eN e) = -1 ∨ e.2.1 = σ 6 (eN e)) → h' m 10 = h m 10 ∧ h' (m + 2) = h (m + 2)) (hk : eK e = 2 ∨ eK e = 3) :
    h' m 10 = (ecl σ (E ++ [e])).length ∧ ∀ (j : Nat) (x : zEv), (ecl σ (E ++ [e]))[j]? = some x → ∀ q : Nat, q < 7 → h' (m + 2) (7 * j + q) = (eRow σ x).getD q 0 := by
  obtain ⟨a1, a2⟩ := v.2.2.2.2.2.2.2
  rw [ecl_app]
  by_cases c : e.2.1 = -1 ∨ σ 6 (eN e) = -1 ∨ e.2.1 = σ 6 (eN e)
  · obtain ⟨b1, b2⟩ := hy c
    rw [ecl_n (fun z => by obtain ⟨-, z1, z2, z3⟩ := z; rcases c with c | c | c; exact z1 c; exact z2 c; exact z3 c), List.append_nil, b1, b2]
    exact ⟨a1, a2⟩
  · obtain ⟨b1, b2, b3⟩ := hn c
    rw [ecl_y (show eClaims σ e from ⟨hk, fun z => c (Or.inl z), fun z => c (Or.inr (Or.inl z)), fun z => c (Or.inr (Or.inr z))⟩), b1, a1, List.length_append]
    refine ⟨by simp, fun j x hx q hq => ?_⟩
    rw [List.getElem?_append] at hx
    by_cases hj : j < (ecl σ E).length
    · rw [if_pos hj] at hx
      rw [b2 _ (by omega)]
      exact a2 j x hx q hq
    · rw [if_neg hj] at hx
      have : j - (ecl σ E).length = 0 := by
        rcases Nat.eq_zero_or_pos (j - (ecl σ E).length) with z | z
        · exact z
        · rw [List.getElem?_eq_none (by exact z)] at hx; cases hx
      rw [this] at hx
      cases hx
      have := b3 q hq
      rw [a1] at this
      rw [show (7 * (j : Int)) = 7 * ((ecl σ E).length : Int) by omega]
      exact this
theorem w32_a {x y : Int} : w32 (w32 x + y) = w32 (x + y) := by unfold w32; omega
/-- what of a mover stays -/
def fst1 (h : zH) (m : Int) (P : List Int) (n : Int) : List Int := if h m 13 = 0 then P else P ++ [n]
theorem pth {h h' : zH} {m : Int} {P : List Int} {n : Int} (a : h m 1 = P.length ∧ ∀ (j : Nat) (x : Int), P[j]? = some x → h (m + 1) j = x) (pa : h m 13 = 0 → h' m 1 = h m 1 ∧ h' (m + 1) = h (m + 1)) (pb : h m 13 ≠ 0 → h' m 1 = h m 1 + 1 ∧ ∀ i, h' (m + 1) i = if i = h m 1 then n else h (m + 1) i) : h' m 1 = (fst1 h m P n).length ∧ ∀ (j : Nat) (x : Int), (fst1 h m P n)[j]? = some x → h' (m + 1) j = x := by
  unfold fst1
  by_cases c : h m 13 = 0
  · obtain ⟨b1, b2⟩ := pa c
    rw [if_pos c, b1, b2]; exact a
  · obtain ⟨b1, b2⟩ := pb c
    rw [if_neg c, b1, a.1, List.length_append]
    refine ⟨by simp, fun j x hx => ?_⟩
    rw [List.getElem?_append] at hx
    rw [b2]
    by_cases hj : j < P.length
    · rw [if_pos hj] at hx
      rw [if_neg (by omega)]
      exact a.2 j x hx
    · rw [if_neg hj] at hx
      have : j - P.length = 0 := by
        rcases Nat.eq_zero_or_pos (j - P.length) with z | z
        · exact z
        · rw [List.getElem?_eq_none (by exact z)] at hx; cases hx
      rw [this] at hx
      cases hx
      rw [if_pos (by omega)]
