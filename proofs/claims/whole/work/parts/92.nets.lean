/-! nets: two ways to look for the fewest -/
def cb (X : Nat) : Nat → Nat → Nat
  | 0, _ => 0
  | n + 1, c => (if X.testBit c = true then 1 else 0) + cb X n (c + 1)
theorem cb_cg {X Y : Nat} : ∀ (n c : Nat), (∀ i, c ≤ i → i < c + n → X.testBit i = Y.testBit i) → cb X n c = cb Y n c
  | 0, _, _ => rfl
  | n + 1, c, h => by rw [cb, cb, h c (by omega) (by omega), cb_cg n (c + 1) (fun i a b => h i (by omega) (by omega))]
theorem cb_le {X Y : Nat} : ∀ (n c : Nat), (∀ i, c ≤ i → i < c + n → X.testBit i = true → Y.testBit i = true) → cb X n c ≤ cb Y n c
  | 0, _, _ => Nat.le_refl _
  | n + 1, c, h => by
    have ih := cb_le n (c + 1) (fun i a b => h i (by omega) (by omega))
    rw [cb, cb]
    by_cases z : X.testBit c = true
    · rw [if_pos z, if_pos (h c (by omega) (by omega) z)]; omega
    · rw [if_neg z]; split <;> omega
theorem cb_lt {X Y j : Nat} : ∀ (n c : Nat), (∀ i, c ≤ i → i < c + n → X.testBit i = true → Y.testBit i = true) → c ≤ j → j < c + n → Y.testBit j = true → X.testBit j = false → cb X n c < cb Y n c
  | 0, _, _, h1, h2, _, _ => by omega
  | n + 1, c, h, h1, h2, h3, h4 => by
    rw [cb, cb]
    by_cases e : c = j
    · have ih := cb_le n (c + 1) (X := X) (Y := Y) (fun i a b => h i (by omega) (by omega))
      rw [e, h3, h4, if_neg Bool.false_ne_true, if_pos rfl, ← e]; omega
    · have ih := cb_lt n (c + 1) (X := X) (Y := Y) (fun i a b => h i (by omega) (by omega)) (by omega) (by omega) h3 h4
      by_cases z : X.testBit c = true
      · rw [if_pos z, if_pos (h c (by omega) (by omega) z)]; omega
      · rw [if_neg z]; split <;> omega
theorem or_t {X i j : Nat} : (X ||| 2 ^ i).testBit j = (X.testBit j || decide (i = j)) := by rw [Nat.testBit_or, Nat.testBit_two_pow]
theorem cb_or {X i : Nat} : ∀ (n c : Nat), cb (X ||| 2 ^ i) n c ≤ cb X n c + 1 ∧ (i < c → cb (X ||| 2 ^ i) n c = cb X n c) ∧ (c ≤ i → i < c + n → X.testBit i = false → cb (X ||| 2 ^ i) n c = cb X n c + 1)
  | 0, c => ⟨Nat.le_succ _, fun _ => rfl, fun _ _ _ => by omega⟩
  | n + 1, c => by
    obtain ⟨a1, a2, a3⟩ := cb_or (X := X) (i := i) n (c + 1)
    rw [cb, cb, or_t]
    by_cases e : i = c
    · rw [decide_eq_true e, Bool.or_true, if_pos rfl]
      have := a2 (by omega)
      refine ⟨by split <;> omega, fun _ => by omega, fun _ _ h => ?_⟩
      rw [e] at h
      rw [h, if_neg Bool.false_ne_true]; omega
    · rw [decide_eq_false e, Bool.or_false]
      exact ⟨by omega, fun h => by rw [a2 (by omega)], fun h1 h2 h3 => by rw [a3 (by omega) (by omega) h3]; omega⟩
theorem cb_0 {X : Nat} : ∀ (n c : Nat), cb X n c = 0 → ∀ i, c ≤ i → i < c + n → X.testBit i = false
  | 0, c, _, i, h1, h2 => by omega
  | n + 1, c, h, i, h1, h2 => by
    rw [cb] at h
    have hc : X.testBit c = false := by
      cases z : X.testBit c with
      | false => rfl
      | true => rw [z, if_pos rfl] at h; omega
    by_cases e : i = c
    · rw [e]; exact hc
    · exact cb_0 n (c + 1) (by omega) i (by omega) (by omega)
/-- which of two sets has the lowest place that the other one lacks -/
def btF (X Y : Nat) : Nat → Nat → Bool
  | 0, _ => false
  | n + 1, i => if X.testBit i = Y.testBit i then btF X Y n (i + 1) else X.testBit i
theorem bt_irr {X : Nat} : ∀ (n i : Nat), btF X X n i = false
  | 0, _ => rfl
  | n + 1, i => by rw [btF, if_pos rfl]; exact bt_irr n (i + 1)
theorem bt_tr {X Y Z : Nat} : ∀ (n i : Nat), btF X Y n i = true → btF Y Z n i = true → btF X Z n i = true
  | 0, _, h, _ => h
  | n + 1, i, h1, h2 => by
    rw [btF] at h1 h2 ⊢
    cases x : X.testBit i <;> cases y : Y.testBit i <;> cases z : Z.testBit i <;> simp [x, y, z] at h1 h2 ⊢ <;> first | exact bt_tr n (i + 1) h1 h2 | skip
theorem bt_tot {X Y : Nat} : ∀ (n i : Nat), btF X Y n i = false → btF Y X n i = false → ∀ j, i ≤ j → j < i + n → X.testBit j = Y.testBit j
  | 0, _, _, _, j, a, b => by omega
  | n + 1, i, h1, h2, j, a, b => by
    rw [btF] at h1 h2
    have e : X.testBit i = Y.testBit i := by
      cases x : X.testBit i <;> cases y : Y.testBit i <;> simp [x, y] at h1 h2 ⊢
    rw [if_pos e] at h1
    rw [if_pos e.symm] at h2
    by_cases c : j = i
    · rw [c]; exact e
    · exact bt_tot n (i + 1) h1 h2 j (by omega) (by omega)
theorem bt_at {X Y c : Nat} : ∀ (n i : Nat), i ≤ c → c < i + n → (∀ j, i ≤ j → j < c → X.testBit j = Y.testBit j) → X.testBit c = true → Y.testBit c = false → btF X Y n i = true
  | 0, i, h1, h2, _, _, _ => by omega
  | n + 1, i, h1, h2, h3, h4, h5 => by
    rw [btF]
    by_cases e : i = c
    · rw [e, h4, h5, if_neg (by decide)]
    · rw [if_pos (h3 i (by omega) (by omega))]
      exact bt_at n (i + 1) (by omega) (by omega) (fun j a b => h3 j (by omega) b) h4 h5
def kfB (B : Option Nat) (X : Nat) : Option Nat := match B with
  | none => some X
  | some b => if btF X b 60 0 = true then some X else some b
theorem kf_fold : ∀ (A : List Nat) (b0 b : Nat), A.foldl kfB (some b0) = some b → (b = b0 ∨ b ∈ A) ∧ (b = b0 ∨ btF b b0 60 0 = true) ∧ ∀ x ∈ A, btF x b 60 0 = false
  | [], b0, b, h => by
    have e : b0 = b := Option.some.inj h
    exact ⟨Or.inl e.symm, Or.inl e.symm, fun x hx => by cases hx⟩
  | x :: A, b0, b, h => by
    have h' : A.foldl kfB (if btF x b0 60 0 = true then some x else some b0) = some b := h
    by_cases c : btF x b0 60 0 = true
    · rw [if_pos c] at h'
      obtain ⟨a1, a2, a3⟩ := kf_fold A x b h'
      refine ⟨Or.inr ?_, Or.inr ?_, fun y hy => ?_⟩
      · rcases a1 with z | z
        · rw [z]; exact List.mem_cons_self ..
        · exact List.mem_cons_of_mem _ z
      · rcases a2 with z | z
        · rw [z]; exact c
        · exact bt_tr 60 0 z c
      · rcases List.mem_cons.1 hy with z | z
        · rw [z]
          rcases a2 with q | q
          · rw [q]; exact bt_irr 60 0
          · cases r : btF x b 60 0 with
            | false => rfl
            | true => have := bt_tr 60 0 q r; rw [bt_irr] at this; cases this
        · exact a3 y z
    · rw [if_neg c] at h'
      obtain ⟨a1, a2, a3⟩ := kf_fold A b0 b h'
      refine ⟨?_, a2, fun y hy => ?_⟩
      · rcases a1 with z | z
        · exact Or.inl z
        · exact Or.inr (List.mem_cons_of_mem _ z)
      · rcases List.mem_cons.1 hy with z | z
        · rw [z]
          cases r : btF x b 60 0 with
          | false => rfl
          | true =>
            rcases a2 with q | q
            · rw [q] at r; exact absurd r c
            · exact absurd (bt_tr 60 0 r q) c
        · exact a3 y z
theorem kf_top {A : List Nat} {b : Nat} (h : A.foldl kfB none = some b) : b ∈ A ∧ ∀ x ∈ A, btF x b 60 0 = false := by
  cases A with
  | nil => cases h
  | cons x A =>
    obtain ⟨a1, a2, a3⟩ := kf_fold A x b h
    refine ⟨?_, fun y hy => ?_⟩
    · rcases a1 with z | z
      · rw [z]; exact List.mem_cons_self ..
      · exact List.mem_cons_of_mem _ z
    · rcases List.mem_cons.1 hy with z | z
      · rw [z]
        rcases a2 with q | q
        · rw [q]; exact bt_irr 60 0
        · cases r : btF x b 60 0 with
          | false => rfl
          | true => have := bt_tr 60 0 q r; rw [bt_irr] at this; cases this
      · exact a3 y z
theorem kf_some : ∀ (A : List Nat) (x : Nat), ∃ b, A.foldl kfB (some x) = some b
  | [], x => ⟨x, rfl⟩
  | y :: A, x => by
    show ∃ b, A.foldl kfB (if btF y x 60 0 = true then some y else some x) = some b
    split
    · exact kf_some A y
    · exact kf_some A x
/-- the class's search -/
def clr (un i : Nat) : Nat := un &&& (2 ^ 64 - (2 ^ i + 1))
theorem clr_t {un i j : Nat} (hu : un < 2 ^ 60) (hi : i < 60) : (clr un i).testBit j = (un.testBit j && !decide (i = j)) := by
  unfold clr
  have h2 : 2 ^ i < 2 ^ 64 := Nat.pow_lt_pow_right (by decide) (by omega)
  rw [Nat.testBit_and, Nat.testBit_two_pow_sub_succ h2, Nat.testBit_two_pow]
  by_cases hj : j < 64
  · rw [decide_eq_true hj, Bool.true_and]
  · have h60 : un < 2 ^ j := Nat.lt_of_lt_of_le hu (Nat.pow_le_pow_right (by decide) (by omega))
    rw [Nat.testBit_lt_two_pow h60, Bool.false_and, Bool.false_and]
theorem clr_b {un i : Nat} (hu : un < 2 ^ 60) : clr un i < 2 ^ 60 := Nat.lt_of_le_of_lt Nat.and_le_left hu
def groL (g : Nat → Nat → List Nat) (T : List Int) (ch fr : Nat) : Nat → Nat → Nat → List Nat
  | 0, _, _ => []
  | n + 1, i, un => match T.contains (i : Int) && fr.testBit i with
    | true => g (ch ||| 2 ^ i) (clr un i) ++ groL g T ch fr n (i + 1) (clr un i)
    | false => groL g T ch fr n (i + 1) un
def gro (σ st : zH) (C : Nat) : Nat → Nat → Nat → List Nat
  | 0, ch, _ => match safeM σ st ch with
    | true => [ch]
    | false => []
  | k + 1, ch, fr => match safeM σ st ch with
    | true => [ch]
    | false => groL (fun a b => gro σ st C k a b) (trl σ st ch) ch fr C 0 fr
theorem groL_s {g : Nat → Nat → List Nat} {T : List Int} {ch fr X : Nat} : ∀ (n i un : Nat), i + n ≤ 60 → un < 2 ^ 60 → (∀ j, un.testBit j = true → fr.testBit j = true) → X ∈ groL g T ch fr n i un → ∃ j un', j < i + n ∧ fr.testBit j = true ∧ un' < 2 ^ 60 ∧ (∀ q, un'.testBit q = true → fr.testBit q = true) ∧ X ∈ g (ch ||| 2 ^ j) un'
  | 0, _, _, _, _, _, h => by cases h
  | n + 1, i, un, hi, hu, hs, h => by
    rw [groL] at h
    cases c : (T.contains (i : Int) && fr.testBit i) with
    | true =>
      rw [c] at h
      rw [Bool.and_eq_true] at c
      have hs' : ∀ q, (clr un i).testBit q = true → fr.testBit q = true := fun q hq => by
        rw [clr_t hu (by omega), Bool.and_eq_true] at hq
        exact hs q hq.1
      rcases List.mem_append.1 h with z | z
      · exact ⟨i, clr un i, by omega, c.2, clr_b hu, hs', z⟩
      · obtain ⟨j, un', a, b⟩ := groL_s n (i + 1) (clr un i) (by omega) (clr_b hu) hs' z
        exact ⟨j, un', by omega, b⟩
    | false =>
      rw [c] at h
      obtain ⟨j, un', a, b⟩ := groL_s n (i + 1) un (by omega) hu hs h
      exact ⟨j, un', by omega, b⟩
theorem gro_s {σ st : zH} {C : Nat} (hC : C ≤ 60) : ∀ (k ch fr X : Nat), fr < 2 ^ 60 → X ∈ gro σ st C k ch fr → safeM σ st X = true ∧ (∀ j, ch.testBit j = true → X.testBit j = true) ∧ (∀ j, X.testBit j = true → ch.testBit j = false → fr.testBit j = true ∧ j < C) ∧ cb X C 0 ≤ cb ch C 0 + k := by
  have leaf : ∀ (k ch fr X : Nat), safeM σ st ch = true → X ∈ [ch] → safeM σ st X = true ∧ (∀ j, ch.testBit j = true → X.testBit j = true) ∧ (∀ j, X.testBit j = true → ch.testBit j = false → fr.testBit j = true ∧ j < C) ∧ cb X C 0 ≤ cb ch C 0 + k := by
    intro k ch fr X hs hX
    rw [List.mem_singleton.1 hX]
    exact ⟨hs, fun j hj => hj, fun j h1 h2 => (by rw [h1] at h2; cases h2), by omega⟩
  intro k
  induction k with
  | zero =>
    intro ch fr X hf h
    rw [gro] at h
    cases c : safeM σ st ch with
    | true => rw [c] at h; exact leaf 0 ch fr X c h
    | false => rw [c] at h; cases h
  | succ k ih =>
    intro ch fr X hf h
    rw [gro] at h
    cases c : safeM σ st ch with
    | true => rw [c] at h; exact leaf (k + 1) ch fr X c h
    | false =>
      rw [c] at h
      obtain ⟨j, un', a1, a2, a3, a4, a5⟩ := groL_s C 0 fr (by omega) hf (fun _ q => q) h
      obtain ⟨b1, b2, b3, b4⟩ := ih (ch ||| 2 ^ j) un' X a3 a5
      have := (cb_or (X := ch) (i := j) C 0).1
      refine ⟨b1, fun q hq => b2 q (by rw [or_t, hq, Bool.true_or]), fun q h1 h2 => ?_, by omega⟩
      by_cases e : j = q
      · rw [← e]; exact ⟨a2, by omega⟩
      · have := b3 q h1 (by rw [or_t, h2, decide_eq_false e]; rfl)
        exact ⟨a4 q this.1, this.2⟩
theorem groL_c {g : Nat → Nat → List Nat} {T : List Int} {ch fr i : Nat} (hT : T.contains (i : Int) = true) (hf : fr.testBit i = true) : ∀ (n c un : Nat), c + n ≤ 60 → un < 2 ^ 60 → c ≤ i → i < c + n → ∃ un', un' < 2 ^ 60 ∧ (∀ j, un'.testBit j = true ↔ un.testBit j = true ∧ ¬ (c ≤ j ∧ j ≤ i ∧ T.contains (j : Int) = true ∧ fr.testBit j = true)) ∧ ∀ x ∈ g (ch ||| 2 ^ i) un', x ∈ groL g T ch fr n c un
  | 0, c, un, _, _, h1, h2 => by omega
  | n + 1, c, un, hc, hu, h1, h2 => by
    rw [groL]
    by_cases e : c = i
    · rw [e, hT, hf]
      refine ⟨clr un i, clr_b hu, fun j => ?_, fun x hx => List.mem_append.2 (Or.inl hx)⟩
      rw [clr_t hu (by omega), Bool.and_eq_true]
      constructor
      · intro z
        refine ⟨z.1, fun y => ?_⟩
        have : ¬ i = j := by
          have := z.2
          cases q : decide (i = j) with
          | true => rw [q] at this; cases this
          | false => exact of_decide_eq_false q
        omega
      · intro z
        refine ⟨z.1, ?_⟩
        have : ¬ i = j := fun y => z.2 ⟨by omega, by omega, by rw [← y]; exact hT, by rw [← y]; exact hf⟩
        rw [decide_eq_false this]
        rfl
    · cases q : (T.contains (c : Int) && fr.testBit c) with
      | true =>
        rw [Bool.and_eq_true] at q
        obtain ⟨un', a1, a2, a3⟩ := groL_c hT hf n (c + 1) (clr un c) (by omega) (clr_b hu) (by omega) (by omega)
        refine ⟨un', a1, fun j => ?_, fun x hx => List.mem_append.2 (Or.inr (a3 x hx))⟩
        rw [a2 j, clr_t hu (by omega), Bool.and_eq_true]
        constructor
        · rintro ⟨⟨z1, z2⟩, z3⟩
          refine ⟨z1, fun y => z3 ⟨?_, y.2⟩⟩
          have : ¬ c = j := by
            cases q' : decide (c = j) with
            | true => rw [q'] at z2; cases z2
            | false => exact of_decide_eq_false q'
          omega
        · rintro ⟨z1, z2⟩
          have : ¬ c = j := fun y => z2 ⟨by omega, by omega, by rw [← y]; exact q.1, by rw [← y]; exact q.2⟩
          refine ⟨⟨z1, by rw [decide_eq_false this]; rfl⟩, fun y => z2 ⟨by omega, y.2⟩⟩
      | false =>
        obtain ⟨un', a1, a2, a3⟩ := groL_c hT hf n (c + 1) un (by omega) hu (by omega) (by omega)
        refine ⟨un', a1, fun j => ?_, a3⟩
        rw [a2 j]
        constructor
        · rintro ⟨z1, z2⟩
          refine ⟨z1, fun y => ?_⟩
          by_cases e2 : c = j
          · have h3 := y.2.2
            rw [← e2] at h3
            rw [h3.1, h3.2] at q
            cases q
          · exact z2 ⟨by omega, y.2⟩
        · rintro ⟨z1, z2⟩
          exact ⟨z1, fun y => z2 ⟨by omega, y.2⟩⟩
theorem leastN {P : Nat → Prop} : ∀ n, P n → ∃ m, P m ∧ ∀ j, j < m → ¬ P j := by
  intro n
  induction n using Nat.strongRecOn with
  | _ n ih =>
    intro h
    by_cases c : ∃ m, m < n ∧ P m
    · obtain ⟨m, h1, h2⟩ := c
      exact ih m h1 h2
    · exact ⟨n, h, fun j hj hp => c ⟨j, hj, hp⟩⟩
theorem gro_c {σ st : zH} (hS : 0 ≤ nS σ) {C X : Nat} (hC : C ≤ 60) (hX : ∀ j, X.testBit j = true → j < C) (hs : safeM σ st X = true) (hmin : ∀ Y, (∀ j, Y.testBit j = true → X.testBit j = true) → cb Y C 0 < cb X C 0 → safeM σ st Y = false) : ∀ (k ch fr : Nat), fr < 2 ^ 60 → (∀ j, ch.testBit j = true → X.testBit j = true) → (∀ j, X.testBit j = true → ch.testBit j = false → fr.testBit j = true) → cb X C 0 ≤ cb ch C 0 + k → X ∈ gro σ st C k ch fr := by
  intro k
  induction k with
  | zero =>
    intro ch fr hf h1 h2 h3
    have e : ch = X := by
      refine Nat.eq_of_testBit_eq (fun j => ?_)
      cases a : X.testBit j with
      | false =>
        cases b : ch.testBit j with
        | false => rfl
        | true => rw [h1 j b] at a; cases a
      | true =>
        cases b : ch.testBit j with
        | true => rfl
        | false =>
          have := cb_lt C 0 (X := ch) (Y := X) (fun i _ _ => h1 i) (Nat.zero_le j) (by have := hX j a; omega) a b
          omega
    rw [e, gro, hs]
    exact List.mem_cons_self ..
  | succ k ih =>
    intro ch fr hf h1 h2 h3
    rw [gro]
    by_cases e : ch = X
    · rw [e, hs]; exact List.mem_cons_self ..
    · have hd : ∃ j, X.testBit j = true ∧ ch.testBit j = false := by
        refine Classical.byContradiction (fun z => e (Nat.eq_of_testBit_eq (fun j => ?_)))
        cases a : X.testBit j with
        | false =>
          cases b : ch.testBit j with
          | false => rfl
          | true => rw [h1 j b] at a; cases a
        | true =>
          cases b : ch.testBit j with
          | true => rfl
          | false => exact absurd ⟨j, a, b⟩ z
      obtain ⟨j0, d1, d2⟩ := hd
      have lt := cb_lt C 0 (X := ch) (Y := X) (fun i _ _ => h1 i) (Nat.zero_le j0) (by have := hX j0 d1; omega) d1 d2
      have us := hmin ch h1 lt
      rw [us]
      have tne : trl σ st ch ≠ [] := fun z => by
        have := (trl_safe _ _).1 z
        unfold safeM safeA at us
        rw [this] at us
        cases us
      have ex : ∃ i : Nat, (trl σ st ch).contains (i : Int) = true ∧ X.testBit i = true ∧ ch.testBit i = false := by
        refine Classical.byContradiction (fun z => ?_)
        have := trl_same (σ := σ) (st := st) hS (X := ch) (Y := X) (nT σ).toNat 0 tne (fun x hx h0 => ?_)
        · unfold safeM safeA at hs
          rw [this] at hs
          cases hs
        · cases a : X.testBit x.toNat with
          | false =>
            cases b : ch.testBit x.toNat with
            | false => rfl
            | true => rw [h1 _ b] at a; cases a
          | true =>
            cases b : ch.testBit x.toNat with
            | true => rfl
            | false => exact absurd ⟨x.toNat, by rw [show ((x.toNat : Nat) : Int) = x by omega]; exact List.contains_iff_mem.2 hx, a, b⟩ z
      obtain ⟨i0, hi0⟩ := ex
      obtain ⟨i, ⟨p1, p2, p3⟩, least⟩ := leastN (P := fun i => (trl σ st ch).contains (i : Int) = true ∧ X.testBit i = true ∧ ch.testBit i = false) i0 hi0
      have iC := hX i p2
      obtain ⟨un', u1, u2, u3⟩ := groL_c (g := fun a b => gro σ st C k a b) (ch := ch) (fr := fr) p1 (h2 i p2 p3) C 0 fr (by omega) hf (Nat.zero_le _) (by omega)
      refine u3 X (ih (ch ||| 2 ^ i) un' u1 (fun j hj => ?_) (fun j a b => ?_) ?_)
      · rw [or_t, Bool.or_eq_true] at hj
        rcases hj with z | z
        · exact h1 j z
        · rw [← of_decide_eq_true z]; exact p2
      · rw [or_t, Bool.or_eq_false_iff] at b
        have ne := of_decide_eq_false b.2
        refine (u2 j).2 ⟨h2 j a b.1, fun y => ?_⟩
        exact least j (by omega) ⟨y.2.2.1, a, b.1⟩
      · rw [(cb_or (X := ch) (i := i) C 0).2.2 (Nat.zero_le _) (by omega) p3]
        omega
/-- the reference's search -/
def mkL : List Int → Nat
  | [] => 0
  | p :: P => mkL P ||| 2 ^ p.toNat
theorem mkL_t {i : Nat} : ∀ (P : List Int), (∀ x ∈ P, 0 ≤ x) → (mkL P).testBit i = P.contains (i : Int)
  | [], _ => by rw [mkL, Nat.zero_testBit]; rfl
  | p :: P, h => by
    have h0 := h p (List.mem_cons_self ..)
    rw [mkL, or_t, mkL_t P (fun x hx => h x (List.mem_cons_of_mem _ hx)), List.contains_cons, Bool.or_comm]
    congr 1
    by_cases e : p.toNat = i
    · rw [decide_eq_true e]
      exact (beq_iff_eq.2 (show (i : Int) = p by omega)).symm
    · rw [decide_eq_false e]
      exact (beq_eq_false_iff_ne.2 (show (i : Int) ≠ p by omega)).symm
theorem netS_8 : ∀ (P : List Int) (st : zH), netS st P = n8 st (fun i => if P.contains i = true then 1 else st 8 i)
  | [], st => by
    funext a i
    unfold netS n8
    by_cases e : a = 8
    · rw [if_pos e, e]; rfl
    · rw [if_neg e]
  | p :: P, st => by
    rw [netS, netS_8 P (zset st 8 p 1)]
    funext a i
    by_cases e : a = 8
    · rw [e, n8_8, n8_8, List.contains_cons, zset_g]
      by_cases c : P.contains i = true
      · rw [if_pos c, if_pos (by rw [c, Bool.or_true])]
      · rw [if_neg c]
        by_cases q : i = p
        · rw [if_pos q, if_pos (by rw [q, beq_self_eq_true, Bool.true_or])]
        · rw [if_neg q, if_neg (by rw [Bool.or_eq_true]; rintro (z | z); exact q (beq_iff_eq.1 z); exact c z)]
    · rw [n8_o e, n8_o e, zset_n e]
theorem netS_M {σ st : zH} {P : List Int} {Y : Nat} (h0 : ∀ x ∈ P, 0 ≤ x) (hY : ∀ i : Nat, Y.testBit i = P.contains (i : Int)) : netS st P = netM st Y := by
  rw [netS_8]
  unfold netM
  congr 1
  funext i
  by_cases c : 0 ≤ i
  · have := hY i.toNat
    rw [show ((i.toNat : Nat) : Int) = i by omega] at this
    rw [this]
    by_cases z : P.contains i = true
    · rw [if_pos z, if_pos ⟨c, z⟩]
    · rw [if_neg z, if_neg (fun y => z y.2)]
  · rw [if_neg (show ¬ P.contains i = true from fun y => by have := h0 i (List.contains_iff_mem.1 y); omega), if_neg (show ¬ (0 ≤ i ∧ Y.testBit i.toNat = true) from fun y => c y.1)]
def cand (σ st : zH) (k n c : Nat) (P : List Int) (X : Nat) : Prop := (∀ i : Nat, i < c → X.testBit i = P.contains (i : Int)) ∧ (∀ i : Nat, c ≤ i → i < c + n → X.testBit i = true → mayN σ st i = true) ∧ cb X n c = k ∧ ∀ i : Nat, c + n ≤ i → X.testBit i = false
def NfP (σ st : zH) (k n c : Nat) (P : List Int) (r : Option (List Int)) : Prop := match r with
  | none => ∀ X, cand σ st k n c P X → safeM σ st X = false
  | some Q => ∃ Y, cand σ st k n c P Y ∧ safeM σ st Y = true ∧ (∀ i : Nat, Y.testBit i = Q.contains (i : Int)) ∧ Q.length = P.length + k ∧ (∀ x ∈ Q, 0 ≤ x ∧ x < ((c + n : Nat) : Int)) ∧ ∀ X, cand σ st k n c P X → safeM σ st X = true → X = Y ∨ btF Y X 60 0 = true
theorem netF_s {σ st : zH} : ∀ (n k c : Nat) (P : List Int), c + n ≤ 60 → (∀ x ∈ P, 0 ≤ x ∧ x < (c : Int)) → NfP σ st k n c P (netF σ st k n (c : Int) P) := by
  have zero : ∀ (n c : Nat) (P : List Int), (∀ x ∈ P, 0 ≤ x ∧ x < (c : Int)) → NfP σ st 0 n c P (netF σ st 0 n (c : Int) P) := by
    intro n c P hP
    have mt : ∀ i : Nat, (mkL P).testBit i = P.contains (i : Int) := fun i => mkL_t P (fun x hx => (hP x hx).1)
    have hi : ∀ i : Nat, c ≤ i → P.contains (i : Int) = false := fun i h => by
      cases z : P.contains (i : Int) with
      | false => rfl
      | true => have := (hP _ (List.contains_iff_mem.1 z)).2; omega
    have uq : ∀ X, cand σ st 0 n c P X → X = mkL P := fun X hc => Nat.eq_of_testBit_eq (fun i => by
      rw [mt]
      by_cases z : i < c
      · exact hc.1 i z
      · rw [hi i (by omega)]
        by_cases y : i < c + n
        · exact cb_0 n c hc.2.2.1 i (by omega) y
        · exact hc.2.2.2 i (by omega))
    have cm : cand σ st 0 n c P (mkL P) := by
      refine ⟨fun i _ => mt i, fun i h1 h2 h3 => ?_, ?_, fun i h => by rw [mt]; exact hi i (by omega)⟩
      · rw [mt, hi i h1] at h3; cases h3
      · rw [cb_cg (Y := 0) n c (fun i h1 h2 => by rw [mt, hi i h1, Nat.zero_testBit])]
        have : ∀ (n c : Nat), cb 0 n c = 0 := by
          intro n
          induction n with
          | zero => intro c; rfl
          | succ n ih => intro c; rw [cb, Nat.zero_testBit, if_neg Bool.false_ne_true, ih]
        exact this n c
    have e : netF σ st 0 n (c : Int) P = match safeA σ (netS st P) with | true => some P | false => none := by
      cases n <;> rfl
    rw [e, netS_M (σ := σ) (fun x hx => (hP x hx).1) mt]
    cases s : safeA σ (netM st (mkL P)) with
    | true =>
      refine ⟨mkL P, cm, s, mt, rfl, fun x hx => ⟨(hP x hx).1, by have := (hP x hx).2; omega⟩, fun X hX _ => Or.inl (uq X hX)⟩
    | false => exact fun X hX => by rw [uq X hX]; exact s
  intro n
  induction n with
  | zero =>
    intro k c P hc hP
    cases k with
    | zero => exact zero 0 c P hP
    | succ k =>
      intro X hX
      have := hX.2.2.1
      cases this
  | succ n ih =>
    intro k c P hc hP
    cases k with
    | zero => exact zero (n + 1) c P hP
    | succ k =>
      have pc : P.contains (c : Int) = false := by
        cases z : P.contains (c : Int) with
        | false => rfl
        | true => have := (hP _ (List.contains_iff_mem.1 z)).2; omega
      have ec : (c : Int) + 1 = ((c + 1 : Nat) : Int) := rfl
      have lo : ∀ X, cand σ st (k + 1) (n + 1) c P X → X.testBit c = false → cand σ st (k + 1) n (c + 1) P X := fun X h hb => by
        refine ⟨fun i hi => ?_, fun i h1 h2 h3 => h.2.1 i (by omega) (by omega) h3, ?_, fun i hi => h.2.2.2 i (by omega)⟩
        · by_cases z : i = c
          · rw [z, hb, pc]
          · exact h.1 i (by omega)
        · have := h.2.2.1
          rw [cb, hb, if_neg Bool.false_ne_true] at this
          omega
      have up : ∀ X, cand σ st (k + 1) n (c + 1) P X → cand σ st (k + 1) (n + 1) c P X := fun X h => by
        have hb : X.testBit c = false := by rw [h.1 c (by omega), pc]
        refine ⟨fun i hi => h.1 i (by omega), fun i h1 h2 h3 => ?_, ?_, fun i hi => h.2.2.2 i (by omega)⟩
        · by_cases z : i = c
          · rw [z, hb] at h3; cases h3
          · exact h.2.1 i (by omega) (by omega) h3
        · rw [cb, hb, if_neg Bool.false_ne_true, h.2.2.1]; omega
      have bB := ih (k + 1) (c + 1) P (by omega) (fun x hx => ⟨(hP x hx).1, by have := (hP x hx).2; omega⟩)
      rw [← ec] at bB
      have eN : netF σ st (k + 1) (n + 1) (c : Int) P = match mayN σ st (c : Int) with
          | false => netF σ st (k + 1) n ((c : Int) + 1) P
          | true => match netF σ st k n ((c : Int) + 1) (P ++ [(c : Int)]) with
            | some Q => some Q
            | none => netF σ st (k + 1) n ((c : Int) + 1) P := rfl
      have useB : (∀ X, cand σ st (k + 1) (n + 1) c P X → X.testBit c = true → safeM σ st X = false) → NfP σ st (k + 1) (n + 1) c P (netF σ st (k + 1) n ((c : Int) + 1) P) := by
        intro hA
        cases hr : netF σ st (k + 1) n ((c : Int) + 1) P with
        | none =>
          rw [hr] at bB
          intro X hX
          cases hb : X.testBit c with
          | true => exact hA X hX hb
          | false => exact bB X (lo X hX hb)
        | some Q =>
          rw [hr] at bB
          obtain ⟨Y, y1, y2, y3, y4, y5, y6⟩ := bB
          refine ⟨Y, up Y y1, y2, y3, y4, fun x hx => ⟨(y5 x hx).1, by have := (y5 x hx).2; omega⟩, fun X hX hs => ?_⟩
          cases hb : X.testBit c with
          | true => rw [hA X hX hb] at hs; cases hs
          | false => exact y6 X (lo X hX hb) hs
      rw [eN]
      cases hm : mayN σ st (c : Int) with
      | false =>
        refine useB (fun X hX hb => ?_)
        rw [hX.2.1 c (Nat.le_refl _) (by omega) hb] at hm
        cases hm
      | true =>
        have bA := ih k (c + 1) (P ++ [(c : Int)]) (by omega) (fun x hx => by
          rcases List.mem_append.1 hx with z | z
          · exact ⟨(hP x z).1, by have := (hP x z).2; omega⟩
          · rw [List.mem_singleton.1 z]; omega)
        rw [← ec] at bA
        have pcA : ∀ i : Nat, (P ++ [(c : Int)]).contains (i : Int) = (P.contains (i : Int) || decide (i = c)) := fun i => by
          rw [List.contains_append]
          congr 1
          rw [List.contains_cons, List.contains_nil, Bool.or_false]
          by_cases z : i = c
          · rw [decide_eq_true z]; exact beq_iff_eq.2 (by omega)
          · rw [decide_eq_false z]; exact beq_eq_false_iff_ne.2 (by omega)
        have loA : ∀ X, cand σ st (k + 1) (n + 1) c P X → X.testBit c = true → cand σ st k n (c + 1) (P ++ [(c : Int)]) X := fun X h hb => by
          refine ⟨fun i hi => ?_, fun i h1 h2 h3 => h.2.1 i (by omega) (by omega) h3, ?_, fun i hi => h.2.2.2 i (by omega)⟩
          · rw [pcA]
            by_cases z : i = c
            · rw [decide_eq_true z, Bool.or_true, z, hb]
            · rw [decide_eq_false z, Bool.or_false]; exact h.1 i (by omega)
          · have := h.2.2.1
            rw [cb, hb, if_pos rfl] at this
            omega
        have upA : ∀ X, cand σ st k n (c + 1) (P ++ [(c : Int)]) X → cand σ st (k + 1) (n + 1) c P X ∧ X.testBit c = true := fun X h => by
          have hb : X.testBit c = true := by rw [h.1 c (by omega), pcA, decide_eq_true rfl, Bool.or_true]
          refine ⟨⟨fun i hi => ?_, fun i h1 h2 h3 => ?_, ?_, fun i hi => h.2.2.2 i (by omega)⟩, hb⟩
          · rw [h.1 i (by omega), pcA, decide_eq_false (by omega), Bool.or_false]
          · by_cases z : i = c
            · rw [z]; exact hm
            · exact h.2.1 i (by omega) (by omega) h3
          · rw [cb, hb, if_pos rfl, h.2.2.1]; omega
        cases hr : netF σ st k n ((c : Int) + 1) (P ++ [(c : Int)]) with
        | none =>
          rw [hr] at bA
          exact useB (fun X hX hb => bA X (loA X hX hb))
        | some Q =>
          rw [hr] at bA
          obtain ⟨Y, y1, y2, y3, y4, y5, y6⟩ := bA
          obtain ⟨z1, z2⟩ := upA Y y1
          refine ⟨Y, z1, y2, y3, by rw [y4, List.length_append]; show P.length + 1 + k = P.length + (k + 1); omega, fun x hx => ⟨(y5 x hx).1, by have := (y5 x hx).2; omega⟩, fun X hX hs => ?_⟩
          cases hb : X.testBit c with
          | true => exact y6 X (loA X hX hb) hs
          | false => exact Or.inr (bt_at 60 0 (Nat.zero_le _) (by omega) (fun j _ hj => by rw [z1.1 j hj, hX.1 j hj]) z2 hb)
