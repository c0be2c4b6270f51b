/-! the text in tokens. A token: kind (0 the end, 1 a name, 2 an own word, 3 a number, 4 a sign, 5 broken), its first byte, its value, where it ends, its letters -/
abbrev zTk : Type := Int × Int × Int × Int × List Nat
def cL (c : Int) : Bool := decide (97 ≤ c ∧ c ≤ 122)
def cD (c : Int) : Bool := decide (48 ≤ c ∧ c ≤ 57)
def cB (c : Int) : Bool := decide (c = 32 ∨ c = 10)
/-- where a run ends -/
def rnE (p : Int → Bool) (T : Int → Int) (n : Int) : Nat → Int → Int
  | 0, a => a
  | f + 1, a => if a < n ∧ p (T a) = true then rnE p T n f (a + 1) else a
def ltS (T : Int → Int) : Nat → Int → List Nat
  | 0, _ => []
  | k + 1, a => (T a - 96).toNat :: ltS T k (a + 1)
def nvA (T : Int → Int) : Nat → Int → Int → Int
  | 0, _, x => x
  | k + 1, a, x => nvA T k (a + 1) (10 * x + T a - 48)
def ownL : List (List Nat) := [[6, 9, 5, 12, 4], [18, 15, 23], [18, 15, 21, 7, 8], [1, 20], [15, 23, 14, 5, 18], [12, 1, 14, 4], [20, 15], [19, 20, 15, 14, 5], [23, 5, 9, 7, 8, 20], [18, 5, 19, 20], [8, 15, 21, 19, 5], [23, 15, 18, 20, 8], [23, 1, 12, 12], [20, 8, 1, 23], [15, 4, 4, 19], [18, 15, 16, 5], [4, 21, 5], [23, 8, 5, 14], [15, 18], [1, 14, 4], [14, 15, 20], [1, 12, 12], [19, 16, 5, 5, 4], [19, 20, 5, 16, 19], [13, 9, 14], [13, 1, 24]]
theorem ownL_5 : ∀ i : Nat, i < 26 → ownW.getD i 0 = (pk5 0 (ownL.getD i []) : Int) := by decide +kernel
/-- the number of an own word, by its letters packed; -1 for another -/
def ownI (p : Int) : Int := zfs (fun i => decide (ownW.getD i.toNat 0 = p)) 26 0
def adjT (T : Int → Int) (a : Int) : Bool := decide (0 < a) && (cL (T (a - 1)) || cD (T (a - 1)))
def tkAt (T : Int → Int) (n a : Int) : zTk :=
  if cL (T a) = true then
    (if adjT T a = true then 5 else if 6 < rnE cL T n (n - a).toNat a - a then 5 else if ownI (pk5 0 (ltS T (rnE cL T n (n - a).toNat a - a).toNat a)) = -1 then 1 else 2, a,
      if adjT T a = true then a else if 6 < rnE cL T n (n - a).toNat a - a then a + 6 else if ownI (pk5 0 (ltS T (rnE cL T n (n - a).toNat a - a).toNat a)) = -1 then (pk5 0 (ltS T (rnE cL T n (n - a).toNat a - a).toNat a) : Int) else ownI (pk5 0 (ltS T (rnE cL T n (n - a).toNat a - a).toNat a)),
      rnE cL T n (n - a).toNat a, ltS T (rnE cL T n (n - a).toNat a - a).toNat a)
  else if cD (T a) = true then
    (if adjT T a = true then 5 else if 4 < rnE cD T n (n - a).toNat a - a then 5 else 3, a,
      if adjT T a = true then a else if 4 < rnE cD T n (n - a).toNat a - a then a + 4 else nvA T (rnE cD T n (n - a).toNat a - a).toNat a 0,
      rnE cD T n (n - a).toNat a, [])
  else (4, a, T a, a + 1, [])
def lexF (T : Int → Int) (n : Int) : Nat → Int → List zTk
  | 0, _ => []
  | f + 1, a => if a < n then (if cB (T a) = true then lexF T n f (a + 1) else tkAt T n a :: lexF T n f (tkAt T n a).2.2.2.1) else []
def toks (T : Int → Int) (n : Int) : List zTk := lexF T n n.toNat 0 ++ [(0, n, 0, n, [])]
theorem rn_b {p : Int → Bool} {T : Int → Int} {n : Int} : ∀ (f : Nat) (a : Int), a ≤ rnE p T n f a ∧ rnE p T n f a ≤ a + f ∧ (a ≤ n → rnE p T n f a ≤ n)
  | 0, a => ⟨Int.le_refl _, by show a ≤ a + ((0 : Nat) : Int); omega, fun h => h⟩
  | f + 1, a => by
    rw [rnE]
    by_cases c : a < n ∧ p (T a) = true
    · rw [if_pos c]
      have := rn_b (p := p) (T := T) (n := n) f (a + 1)
      exact ⟨by omega, by omega, fun _ => this.2.2 (by omega)⟩
    · rw [if_neg c]
      exact ⟨Int.le_refl _, by omega, fun h => h⟩
theorem rn_in {p : Int → Bool} {T : Int → Int} {n : Int} : ∀ (f : Nat) (a : Int), ∀ j, a ≤ j → j < rnE p T n f a → p (T j) = true
  | 0, a, j, h1, h2 => by
    have : j < a := h2
    omega
  | f + 1, a, j, h1, h2 => by
    rw [rnE] at h2
    by_cases c : a < n ∧ p (T a) = true
    · rw [if_pos c] at h2
      by_cases e : j = a
      · rw [e]; exact c.2
      · exact rn_in f (a + 1) j (by omega) h2
    · rw [if_neg c] at h2; omega
theorem rn_end {p : Int → Bool} {T : Int → Int} {n : Int} : ∀ (f : Nat) (a : Int), n - a ≤ f → rnE p T n f a < n → p (T (rnE p T n f a)) = false
  | 0, a, h, h2 => by
    have : a < n := h2
    have : n - a ≤ ((0 : Nat) : Int) := h
    omega
  | f + 1, a, h, h2 => by
    rw [rnE] at h2 ⊢
    by_cases c : a < n ∧ p (T a) = true
    · rw [if_pos c] at h2 ⊢
      exact rn_end f (a + 1) (by omega) h2
    · rw [if_neg c] at h2 ⊢
      cases z : p (T a) with
      | false => rfl
      | true => exact absurd ⟨h2, z⟩ c
theorem rn_go {p : Int → Bool} {T : Int → Int} {n a : Int} (h : a < n) (hp : p (T a) = true) : rnE p T n (n - a).toNat a = rnE p T n (n - (a + 1)).toNat (a + 1) := by
  rw [show (n - a).toNat = (n - (a + 1)).toNat + 1 by omega, rnE, if_pos ⟨h, hp⟩]
theorem rn_st {p : Int → Bool} {T : Int → Int} {n a : Int} (h : ¬ (a < n ∧ p (T a) = true)) : rnE p T n (n - a).toNat a = a := by
  cases hk : (n - a).toNat with
  | zero => rfl
  | succ k => rw [rnE, if_neg h]
theorem tk_end {T : Int → Int} {n a : Int} (h : a < n) : a + 1 ≤ (tkAt T n a).2.2.2.1 ∧ (tkAt T n a).2.2.2.1 ≤ n := by
  unfold tkAt
  by_cases c1 : cL (T a) = true
  · rw [if_pos c1]
    show a + 1 ≤ rnE cL T n (n - a).toNat a ∧ rnE cL T n (n - a).toNat a ≤ n
    rw [rn_go h c1]
    have := rn_b (p := cL) (T := T) (n := n) (n - (a + 1)).toNat (a + 1)
    exact ⟨this.1, this.2.2 (by omega)⟩
  · rw [if_neg c1]
    by_cases c2 : cD (T a) = true
    · rw [if_pos c2]
      show a + 1 ≤ rnE cD T n (n - a).toNat a ∧ rnE cD T n (n - a).toNat a ≤ n
      rw [rn_go h c2]
      have := rn_b (p := cD) (T := T) (n := n) (n - (a + 1)).toNat (a + 1)
      exact ⟨this.1, this.2.2 (by omega)⟩
    · rw [if_neg c2]
      exact ⟨Int.le_refl _, by show a + 1 ≤ n; omega⟩
theorem lex_len1 {T : Int → Int} {n : Int} : ∀ (f : Nat) (a : Int), ((lexF T n f a).length : Int) ≤ f
  | 0, _ => Int.le_refl _
  | f + 1, a => by
    rw [lexF]
    split
    · split
      · have := lex_len1 (T := T) (n := n) f (a + 1); omega
      · have := lex_len1 (T := T) (n := n) f (tkAt T n a).2.2.2.1
        rw [List.length_cons]
        omega
    · show ((0 : Nat) : Int) ≤ _; omega
theorem q_isL {d : Nat} {x : Int} {h : zH} : m_Tokens_isLetter (d + 1) x h = some (.inl (if cL x = true then 1 else 0), h) := by
  rw [em_Tokens_isLetter]
  unfold cL
  by_cases c : 97 ≤ x ∧ x ≤ 122
  · rw [decide_eq_true c, zit_f (by omega), zit_f (by omega)]; rfl
  · rw [decide_eq_false c]
    by_cases c2 : x < 97
    · rw [zit_t c2]; rfl
    · rw [zit_f c2, zit_t (by omega)]; rfl
theorem q_isD {d : Nat} {x : Int} {h : zH} : m_Tokens_isDigit (d + 1) x h = some (.inl (if cD x = true then 1 else 0), h) := by
  rw [em_Tokens_isDigit]
  unfold cD
  by_cases c : 48 ≤ x ∧ x ≤ 57
  · rw [decide_eq_true c, zit_f (by omega), zit_f (by omega)]; rfl
  · rw [decide_eq_false c]
    by_cases c2 : x < 48
    · rw [zit_t c2]; rfl
    · rw [zit_f c2, zit_t (by omega)]; rfl
theorem q_isB {d : Nat} {x : Int} {h : zH} : m_Tokens_isBlank (d + 1) x h = some (.inl (if cB x = true then 1 else 0), h) := by
  rw [em_Tokens_isBlank]
  unfold cB
  by_cases c : x = 32 ∨ x = 10
  · rw [decide_eq_true c]
    by_cases c2 : x = 32
    · rw [zit_t c2]; rfl
    · rw [zit_f c2, zit_t (by omega)]; rfl
  · rw [decide_eq_false c, zit_f (by omega), zit_f (by omega)]; rfl
/-- the class holds tokens -/
def TkR (A : List zTk) (h : zH) : Prop := h 5 4 = A.length ∧ ∀ (j : Nat) (t : zTk), A[j]? = some t → h 7 (j : Int) = t.1 ∧ h 8 (j : Int) = t.2.1 ∧ h 9 (j : Int) = t.2.2.1
def frT (h h' : zH) : Prop := (∀ r, ¬ (r = 5 ∨ r = 7 ∨ r = 8 ∨ r = 9) → h' r = h r) ∧ ∀ q, ¬ q = 4 → h' 5 q = h 5 q
theorem frT.rf (h : zH) : frT h h := ⟨fun _ _ => rfl, fun _ _ => rfl⟩
theorem frT.t {a b c : zH} (h1 : frT a b) (h2 : frT b c) : frT a c := ⟨fun r x => (h2.1 r x).trans (h1.1 r x), fun q x => (h2.2 q x).trans (h1.2 q x)⟩
theorem q_put {d : Nat} {A : List zTk} {x1 x2 x3 e : Int} {Ls : List Nat} {h : zH} (k : TkR A h) (hl : (A.length : Int) < 1601) : zWp (m_Tokens_put (d + 1) 5 x1 x2 x3 h) (fun _ h' => TkR (A ++ [(x1, x2, x3, e, Ls)]) h' ∧ frT h h') := by
  have h0 : 0 ≤ (A.length : Int) := Int.natCast_nonneg _
  rw [em_Tokens_put, show (5 + 2 : Int) = 7 from rfl, show (5 + 3 : Int) = 8 from rfl, show (5 + 4 : Int) = 9 from rfl, k.1]
  refine zWp_po (by decide) (zWp_po (by decide) (zWp_po (by decide) (zWp_it (by omega) (zWp_po (by decide) (zWp_po (by decide) (zWp_po (by decide) (zWp_it (by omega) (zWp_lt fun h1 q1 => ?_))))))))
  have e1 : h1 5 4 = A.length := by rw [q1, zset_o (by decide)]; exact k.1
  rw [e1]
  refine zWp_po (by decide) (zWp_po (by decide) (zWp_po (by decide) (zWp_it (by omega) (zWp_lt fun h2 q2 => ?_))))
  have e2 : h2 5 4 = A.length := by rw [q2, zset_o (by decide)]; exact e1
  rw [e2]
  refine zWp_po (by decide) (zWp_po (by decide) (zWp_po (by decide) (zWp_it (by omega) (zWp_lt fun h3 q3 => ?_))))
  have e3 : h3 5 4 = A.length := by rw [q3, zset_o (by decide)]; exact e2
  rw [e3, w32_i (x := (A.length : Int) + 1) (by omega)]
  refine zWp_po (by decide) (zWp_po (by decide) (zWp_lt fun h4 q4 => zWp_s ⟨⟨?_, fun j t hj => ?_⟩, fun r hr => ?_, fun q hq => ?_⟩))
  · rw [q4, zset_e, List.length_append]; rfl
  · rw [q4, zset_o (by decide), zset_o (by decide), zset_o (by decide), q3, zset_o (by decide), zset_o (by decide), zset_g, q2, zset_o (by decide), zset_g, zset_o (by decide), q1, zset_g, zset_o (by decide), zset_o (by decide)]
    by_cases z : (j : Int) = (A.length : Int)
    · have ej : j = A.length := by omega
      rw [if_pos z, if_pos z, if_pos z]
      rw [ej, List.getElem?_append_right (Nat.le_refl _), Nat.sub_self] at hj
      have : (x1, x2, x3, e, Ls) = t := Option.some.inj hj
      rw [← this]
      exact ⟨rfl, rfl, rfl⟩
    · rw [if_neg z, if_neg z, if_neg z]
      have hlt : j < (A ++ [(x1, x2, x3, e, Ls)]).length := (List.getElem?_eq_some_iff.1 hj).1
      rw [List.length_append] at hlt
      have hlt' : j < A.length + 1 := hlt
      rw [List.getElem?_append_left (show j < A.length by omega)] at hj
      exact k.2 j t hj
  · rw [q4, zset_n (by omega), q3, zset_n (by omega), q2, zset_n (by omega), q1, zset_n (by omega)]
  · rw [q4, zset_j hq, q3, zset_o (by decide), q2, zset_o (by decide), q1, zset_o (by decide)]
theorem q_break {d : Nat} {A : List zTk} {t : zTk} {x : Int} {h : zH} (k : TkR (A ++ [t]) h) (hl : (A.length : Int) < 1601) : zWp (m_Tokens_breakLast (d + 1) 5 x h) (fun _ h' => TkR (A ++ [(5, t.2.1, x, t.2.2.2)]) h' ∧ frT h h') := by
  have h0 : 0 ≤ (A.length : Int) := Int.natCast_nonneg _
  have el : ((A ++ [t]).length : Int) = (A.length : Int) + 1 := by rw [List.length_append]; rfl
  have e4 : h 5 4 = (A.length : Int) + 1 := by rw [k.1, el]
  rw [em_Tokens_breakLast, show (5 + 2 : Int) = 7 from rfl, show (5 + 4 : Int) = 9 from rfl, e4, w32_i (x := (A.length : Int) + 1 - 1) (by omega), show (A.length : Int) + 1 - 1 = A.length by omega]
  refine zWp_po (by decide) (zWp_it (by omega) (zWp_po (by decide) (zWp_po (by decide) (zWp_po (by decide) (zWp_it (by omega) (zWp_lt fun h1 q1 => ?_))))))
  have e1 : h1 5 4 = (A.length : Int) + 1 := by rw [q1, zset_o (by decide)]; exact e4
  rw [e1, w32_i (x := (A.length : Int) + 1 - 1) (by omega), show (A.length : Int) + 1 - 1 = A.length by omega]
  refine zWp_po (by decide) (zWp_po (by decide) (zWp_po (by decide) (zWp_it (by omega) (zWp_lt fun h2 q2 => zWp_s ⟨⟨?_, fun j u hj => ?_⟩, fun r hr => ?_, fun q hq => ?_⟩))))
  · rw [q2, zset_o (by decide), e1, List.length_append]; rfl
  · rw [q2, zset_o (by decide), zset_o (by decide), zset_g, q1, zset_g, zset_o (by decide), zset_o (by decide)]
    by_cases z : (j : Int) = (A.length : Int)
    · have ej : j = A.length := by omega
      have kt := k.2 j t (by rw [ej, List.getElem?_append_right (Nat.le_refl _), Nat.sub_self]; rfl)
      rw [if_pos z, if_pos z]
      rw [ej, List.getElem?_append_right (Nat.le_refl _), Nat.sub_self] at hj
      have : (5, t.2.1, x, t.2.2.2) = u := Option.some.inj hj
      rw [← this]
      exact ⟨rfl, kt.2.1, rfl⟩
    · rw [if_neg z, if_neg z]
      have hlt : j < (A ++ [(5, t.2.1, x, t.2.2.2)]).length := (List.getElem?_eq_some_iff.1 hj).1
      rw [List.length_append] at hlt
      have hlt' : j < A.length + 1 := hlt
      rw [List.getElem?_append_left (show j < A.length by omega)] at hj
      exact k.2 j u (by rw [List.getElem?_append_left (show j < A.length by omega)]; exact hj)
  · rw [q2, zset_n (by omega), q1, zset_n (by omega)]
  · rw [q2, zset_o (by decide), q1, zset_o (by decide)]
theorem q_own2 {d : Nat} {p : Int} {h : zH} (ow : ∀ i : Nat, i < 26 → h 6 (i : Int) = ownW.getD i 0) : ∀ (n : Nat) {i : Nat}, i + n = 26 → l_Tokens_ownWord_2 d 5 p (i : Int) h = some (.inl (zfs (fun i => decide (ownW.getD i.toNat 0 = p)) n i), h)
  | 0, i, hi => by rw [el_Tokens_ownWord_2, zit_f (by omega)]; rfl
  | n + 1, i, hi => by
    rw [el_Tokens_ownWord_2, zit_t (by omega), zpo_t (by decide), zpo_t (by decide), zit_t (by omega), show (5 + 1 : Int) = 6 from rfl, ow i (by omega), w32_i (x := (i : Int) + 1) (by omega)]
    by_cases c : ownW.getD i 0 = p
    · rw [zit_t c, zfs_t (f := fun i : Int => decide (ownW.getD i.toNat 0 = p)) (decide_eq_true (by rw [Int.toNat_natCast]; exact c))]
    · rw [zit_f c, zfs_f (f := fun i : Int => decide (ownW.getD i.toNat 0 = p)) (decide_eq_false (by rw [Int.toNat_natCast]; exact c)), show (i : Int) + 1 = ((i + 1 : Nat) : Int) from rfl]
      exact q_own2 ow n (by omega)
theorem q_ownWord {d : Nat} {p : Int} {h : zH} (ow : ∀ i : Nat, i < 26 → h 6 (i : Int) = ownW.getD i 0) : m_Tokens_ownWord (d + 1) 5 p h = some (.inl (ownI p), h) := by
  rw [em_Tokens_ownWord, show (0 : Int) = ((0 : Nat) : Int) from rfl, q_own2 ow 26 (by omega)]
  rfl
