/-! what codes are worth: a stack, the last first -/
def clA (x : Int) : Int := if 1000000 < x then 1000000 else if x < -1000000 then -1000000 else x
def fdA (a b : Int) : Int := if Int.tmod a b = 0 then Int.tdiv a b else if (a < 0 ↔ b < 0) then Int.tdiv a b else Int.tdiv a b - 1
def mkA (c a b : Int) : Int := if c = -6 then clA (a + b) else if c = -7 then clA (a - b) else if c = -8 then clA (a * b) else if c = -9 then (if b = 0 then 0 else fdA a b) else if c = -10 then (if b = 0 then 0 else a - b * fdA a b)
  else if c = -11 then (if a < b then a else b) else if c = -12 then (if b < a then a else b) else if c = -13 then (if a < b then 1 else 0) else if c = -14 then (if b < a then 1 else 0) else if c = -15 then (if a = b then 1 else 0) else if c = -16 then a * b else (if 0 < a + b then 1 else 0)
def pM (v : Int) : Prop := -1000000 ≤ v ∧ v ≤ 1000000
def p01 (v : Int) : Prop := v = 0 ∨ v = 1
def stk1 (E : Int → Int) (c : Int) (S : List Int) : Option (List Int) :=
  if 0 ≤ c then some (c :: S) else if -5 ≤ c then some (E c :: S)
  else if c = -18 then (match S with | a :: S => if a = 0 ∨ a = 1 then some ((1 - a) :: S) else none | [] => none)
  else (match S with
    | b :: a :: S => if c = -16 ∨ c = -17 then (if (a = 0 ∨ a = 1) ∧ (b = 0 ∨ b = 1) then some (mkA c a b :: S) else none) else (if -15 ≤ c ∧ -1000000 ≤ a ∧ a ≤ 1000000 ∧ -1000000 ≤ b ∧ b ≤ 1000000 then some (mkA c a b :: S) else none)
    | _ => none)
def exA (E : Int → Int) (lim : Nat) : List Int → List Int → Option (List Int)
  | [], S => some S
  | c :: X, S => match stk1 E c S with
    | none => none
    | some S' => if S'.length ≤ lim then exA E lim X S' else none
theorem ex_app {E : Int → Int} {lim : Nat} : ∀ (X Y S S' : List Int), exA E lim X S = some S' → exA E lim (X ++ Y) S = exA E lim Y S'
  | [], Y, S, S', h => by rw [exA] at h; rw [← Option.some.inj h]; rfl
  | c :: X, Y, S, S', h => by
    rw [exA] at h
    show exA E lim (c :: (X ++ Y)) S = _
    rw [exA]
    cases hs : stk1 E c S with
    | none => rw [hs] at h; cases h
    | some S1 =>
      rw [hs] at h
      dsimp only at h ⊢
      by_cases z : S1.length ≤ lim
      · rw [if_pos z] at h ⊢
        exact ex_app X Y S1 S' h
      · rw [if_neg z] at h; cases h
theorem ex_1 {E : Int → Int} {lim : Nat} {c : Int} {S S' : List Int} (h : stk1 E c S = some S') (l : S'.length ≤ lim) : exA E lim [c] S = some S' := by
  rw [exA, h]
  dsimp only
  rw [if_pos l, exA]
def EOk (E : Int → Int) : Prop := ∀ c, 0 ≤ E c ∧ E c ≤ 9999
/-- two rows of codes with the same worth, which want d places -/
def VV (p : Int → Prop) (d : Nat) (X Y : List Int) : Prop := ∀ E, EOk E → ∃ v, p v ∧ (∀ (S : List Int) (lim : Nat), S.length + d ≤ lim → exA E lim X S = some (v :: S)) ∧ ∀ (S : List Int) (lim : Nat), S.length + d ≤ lim → exA E lim Y S = some (v :: S)
theorem VV.w {p : Int → Prop} {d e : Nat} {X Y : List Int} (h : VV p d X Y) (l : d ≤ e) : VV p e X Y := fun E ok => by
  obtain ⟨v, a, b, c⟩ := h E ok
  exact ⟨v, a, fun S lim z => b S lim (by omega), fun S lim z => c S lim (by omega)⟩
theorem VV.num {c : Int} (h : 0 ≤ c ∧ c ≤ 9999) : VV pM 1 [c] [c] := fun E _ => by
  have g : ∀ (S : List Int) (lim : Nat), S.length + 1 ≤ lim → exA E lim [c] S = some (c :: S) := fun S lim z => ex_1 (by unfold stk1; rw [if_pos h.1]) (by rw [List.length_cons]; exact z)
  exact ⟨c, ⟨by omega, by omega⟩, g, g⟩
theorem VV.all : VV p01 1 [1] [1] := fun E _ => by
  have g : ∀ (S : List Int) (lim : Nat), S.length + 1 ≤ lim → exA E lim [1] S = some (1 :: S) := fun S lim z => ex_1 (by unfold stk1; rw [if_pos (by decide)]) (by rw [List.length_cons]; exact z)
  exact ⟨1, Or.inr rfl, g, g⟩
theorem VV.fact {c : Int} (h : c < 0 ∧ -5 ≤ c) : VV pM 1 [c] [c] := fun E ok => by
  have o := ok c
  have g : ∀ (S : List Int) (lim : Nat), S.length + 1 ≤ lim → exA E lim [c] S = some (E c :: S) := fun S lim z => ex_1 (by unfold stk1; rw [if_neg (by omega), if_pos h.2]) (by rw [List.length_cons]; exact z)
  exact ⟨E c, ⟨by omega, by omega⟩, g, g⟩
/-- a sign makes of values of p, p a value of q -/
def Hop (p q : Int → Prop) (c : Int) : Prop := ∀ a b, p a → p b → q (mkA c a b) ∧ ∀ (E : Int → Int) (S : List Int), stk1 E c (b :: a :: S) = some (mkA c a b :: S)
theorem VV.op {p q : Int → Prop} {d1 d2 e : Nat} {c : Int} {X Y X' Y' : List Int} (h1 : VV p d1 X Y) (h2 : VV p d2 X' Y') (ho : Hop p q c) (l1 : d1 ≤ e) (l2 : d2 + 1 ≤ e) (l3 : 1 ≤ e) : VV q e (X ++ X' ++ [c]) (Y ++ Y' ++ [c]) := fun E ok => by
  obtain ⟨v, pv, a1, b1⟩ := h1 E ok
  obtain ⟨w, pw, a2, b2⟩ := h2 E ok
  have o := ho v w pv pw
  have go : ∀ Z Z' : List Int, (∀ (S : List Int) (lim : Nat), S.length + d1 ≤ lim → exA E lim Z S = some (v :: S)) → (∀ (S : List Int) (lim : Nat), S.length + d2 ≤ lim → exA E lim Z' S = some (w :: S)) → ∀ (S : List Int) (lim : Nat), S.length + e ≤ lim → exA E lim (Z ++ Z' ++ [c]) S = some (mkA c v w :: S) := by
    intro Z Z' g1 g2 S lim z
    rw [List.append_assoc, ex_app Z _ S _ (g1 S lim (by omega)), ex_app Z' _ (v :: S) _ (g2 (v :: S) lim (by rw [List.length_cons]; omega))]
    exact ex_1 (o.2 E S) (by rw [List.length_cons]; omega)
  exact ⟨mkA c v w, o.1, go X X' a1 a2, go Y Y' b1 b2⟩
theorem cl_b (x : Int) : pM (clA x) := by
  unfold clA pM
  split
  · decide
  split
  · decide
  · omega
theorem td_f {a b : Int} (hb : b ≠ 0) : Int.tmod a b + b * Int.tdiv a b = a ∧ (Int.tmod a b).natAbs < b.natAbs ∧ (0 ≤ a → 0 ≤ Int.tmod a b) ∧ (a ≤ 0 → Int.tmod a b ≤ 0) ∧ (Int.tdiv a b).natAbs ≤ a.natAbs ∧ (2 ≤ b.natAbs → 2 * (Int.tdiv a b).natAbs ≤ a.natAbs) := by
  have hq : (Int.tdiv a b).natAbs = a.natAbs / b.natAbs := Int.natAbs_tdiv a b
  refine ⟨Int.tmod_add_mul_tdiv a b, ?_, Int.tmod_nonneg b, fun h => ?_, ?_, fun h => ?_⟩
  · rw [Int.natAbs_tmod]
    exact Nat.mod_lt _ (by omega)
  · have h1 := Int.neg_tmod a b
    have h2 := Int.tmod_nonneg (a := -a) b (by omega)
    omega
  · rw [hq]
    exact Nat.div_le_self _ _
  · rw [hq]
    have h1 := Nat.div_mul_le_self a.natAbs b.natAbs
    have h2 := Nat.mul_le_mul_left (a.natAbs / b.natAbs) h
    omega
theorem fd_b {a b : Int} (ha : pM a) (hb : b ≠ 0) (hB : pM b) : pM (fdA a b) ∧ pM (a - b * fdA a b) := by
  obtain ⟨e, f1, f2, f3, f4, f5⟩ := td_f (a := a) hb
  unfold pM at ha hB
  unfold fdA pM
  by_cases z : Int.tmod a b = 0
  · rw [if_pos z]
    omega
  rw [if_neg z]
  by_cases y : a < 0 ↔ b < 0
  · rw [if_pos y]
    omega
  · rw [if_neg y, Int.mul_sub, Int.mul_one]
    have b2 : 2 ≤ b.natAbs := by omega
    have g := f5 b2
    by_cases s : a < 0
    · have s2 : 0 < b := by
        refine Classical.byContradiction fun w => y ⟨fun _ => by omega, fun _ => s⟩
      have := f3 (by omega)
      omega
    · have s2 : b < 0 := by
        refine Classical.byContradiction fun w => y ⟨fun v => absurd v s, fun v => absurd v w⟩
      have := f2 (by omega)
      omega
theorem stk_m {E : Int → Int} {c a b : Int} {S : List Int} (hc : -15 ≤ c ∧ c ≤ -6) (h18 : c ≠ -18) (h16 : ¬ (c = -16 ∨ c = -17)) (ha : pM a) (hb : pM b) : stk1 E c (b :: a :: S) = some (mkA c a b :: S) := by
  unfold stk1
  rw [if_neg (by omega), if_neg (by omega), if_neg h18]
  dsimp only
  rw [if_neg h16, if_pos ⟨hc.1, ha.1, ha.2, hb.1, hb.2⟩]
theorem hop_m {c : Int} (hc : -12 ≤ c ∧ c ≤ -6) : Hop pM pM c := by
  intro a b ha hb
  refine ⟨?_, fun E S => stk_m (by omega) (by omega) (by omega) ha hb⟩
  unfold mkA
  split
  · exact cl_b _
  split
  · exact cl_b _
  split
  · exact cl_b _
  split
  · split
    · exact ⟨by decide, by decide⟩
    · rename_i z; exact (fd_b ha z hb).1
  split
  · split
    · exact ⟨by decide, by decide⟩
    · rename_i z; exact (fd_b ha z hb).2
  split
  · split
    · exact ha
    · exact hb
  split
  · split
    · exact ha
    · exact hb
  · omega
theorem hop_c {c : Int} (hc : -15 ≤ c ∧ c ≤ -13) : Hop pM p01 c := by
  intro a b ha hb
  refine ⟨?_, fun E S => stk_m (by omega) (by omega) (by omega) ha hb⟩
  unfold mkA
  rw [if_neg (show ¬ c = -6 by omega), if_neg (show ¬ c = -7 by omega), if_neg (show ¬ c = -8 by omega), if_neg (show ¬ c = -9 by omega), if_neg (show ¬ c = -10 by omega), if_neg (show ¬ c = -11 by omega), if_neg (show ¬ c = -12 by omega)]
  split
  · split
    · exact Or.inr rfl
    · exact Or.inl rfl
  split
  · split
    · exact Or.inr rfl
    · exact Or.inl rfl
  split
  · split
    · exact Or.inr rfl
    · exact Or.inl rfl
  · omega
theorem hop_l {c : Int} (hc : c = -16 ∨ c = -17) : Hop p01 p01 c := by
  intro a b ha hb
  refine ⟨?_, fun E S => ?_⟩
  · unfold mkA
    rw [if_neg (show ¬ c = -6 by omega), if_neg (show ¬ c = -7 by omega), if_neg (show ¬ c = -8 by omega), if_neg (show ¬ c = -9 by omega), if_neg (show ¬ c = -10 by omega), if_neg (show ¬ c = -11 by omega), if_neg (show ¬ c = -12 by omega), if_neg (show ¬ c = -13 by omega), if_neg (show ¬ c = -14 by omega), if_neg (show ¬ c = -15 by omega)]
    split
    · rcases ha with z | z <;> rw [z]
      · rw [Int.zero_mul]; exact Or.inl rfl
      · rw [Int.one_mul]; exact hb
    · split
      · exact Or.inr rfl
      · exact Or.inl rfl
  · unfold stk1
    rw [if_neg (by omega), if_neg (by omega), if_neg (show ¬ c = -18 by omega)]
    dsimp only
    rw [if_pos hc, if_pos ⟨ha, hb⟩]
/-! NOT: once or never, each time -/
def rpN (n : Nat) : List Int := List.replicate n (-18)
theorem ex_n {E : Int → Int} {lim : Nat} : ∀ (n : Nat) (v : Int) (S : List Int), p01 v → S.length + 1 ≤ lim → exA E lim (rpN n) (v :: S) = some ((if n % 2 = 0 then v else 1 - v) :: S)
  | 0, v, S, _, _ => rfl
  | n + 1, v, S, hv, l => by
    show exA E lim (-18 :: rpN n) (v :: S) = _
    have e : stk1 E (-18) (v :: S) = some ((1 - v) :: S) := by
      unfold stk1
      rw [if_neg (by decide), if_neg (by decide), if_pos rfl]
      dsimp only
      rw [if_pos (show v = 0 ∨ v = 1 from hv)]
    rw [exA, e]
    dsimp only
    rw [if_pos (by rw [List.length_cons]; exact l), ex_n n (1 - v) S (by unfold p01 at hv ⊢; omega) l]
    by_cases z : n % 2 = 0
    · rw [if_pos z, if_neg (show ¬ (n + 1) % 2 = 0 by omega)]
    · rw [if_neg z, if_pos (show (n + 1) % 2 = 0 by omega), show 1 - (1 - v) = v by omega]
theorem VV.nt {d n m : Nat} {X Y : List Int} (h : VV p01 d X Y) (hm : n % 2 = m % 2) (hd : 1 ≤ d) : VV p01 d (X ++ rpN n) (Y ++ rpN m) := fun E ok => by
  obtain ⟨v, pv, a, b⟩ := h E ok
  refine ⟨if n % 2 = 0 then v else 1 - v, ?_, fun S lim z => ?_, fun S lim z => ?_⟩
  · split
    · exact pv
    · unfold p01 at pv ⊢; omega
  · rw [ex_app X _ S _ (a S lim z), ex_n n v S pv (by omega)]
  · rw [ex_app Y _ S _ (b S lim z), ex_n m v S pv (by omega), hm]
