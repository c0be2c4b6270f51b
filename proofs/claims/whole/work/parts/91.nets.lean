/-! nets: a net matters only where a stone comes -/
def n8 (st : zH) (g : Int → Int) : zH := fun a i => if a = 8 then g i else st a i
theorem n8_o {st : zH} {g : Int → Int} {a : Int} (h : ¬ a = 8) : n8 st g a = st a := by funext i; unfold n8; rw [if_neg h]
theorem n8_8 {st : zH} {g : Int → Int} : n8 st g 8 = g := by funext i; unfold n8; rw [if_pos rfl]
theorem n8_z {st : zH} {g : Int → Int} {k n v : Int} (h : ¬ k = 8) : zset (n8 st g) k n v = n8 (zset st k n v) g := by
  funext a i
  rw [zset_x]
  by_cases c : a = k ∧ i = n
  · rw [if_pos c, n8_o (by omega), zset_1 c.1 c.2]
  · rw [if_neg c]
    by_cases e : a = 8
    · rw [e, n8_8, n8_8]
    · rw [n8_o e, n8_o e, zset_2 c]
theorem n8_come {st : zH} {g : Int → Int} {s n : Int} : come (n8 st g) s n = n8 (come st s n) g := by
  unfold come
  rw [n8_z (by decide), n8_z (by decide), n8_o (by decide)]
theorem contS_n8 {st : zH} {g : Int → Int} {n sp : Int} (h : g n = st 8 n) : contS (n8 st g) n sp = contS st n sp := by
  unfold contS
  rw [n8_8, n8_o (by decide), h]
theorem stepB_8 {σ st : zH} {s n sp m : Int} : (stepB σ st s n sp m).1 8 = st 8 := by
  unfold stepB
  split
  · split
    · show zset st 5 n (st 5 n - sp * σ 13 s) 8 = st 8
      exact zset_n (by decide)
    · show come (zset st 5 n 0) s n 8 = st 8
      rw [come_k (by decide) (by decide), zset_n (by decide)]
  · split
    · show come (zset st 9 (σ 7 n) 1) s n 8 = st 8
      rw [come_k (by decide) (by decide), zset_n (by decide)]
    · show come st s n 8 = st 8
      exact come_k (by decide) (by decide)
theorem stepB_c {σ st : zH} {s n sp m : Int} : (stepB σ st s n sp m).2.1.2.1 = n := by
  unfold stepB
  split
  · split <;> rfl
  · split <;> rfl
theorem stepB_n8 {σ st : zH} {g : Int → Int} {s n sp m : Int} (h : 2 ≤ (stepB σ st s n sp m).2.1.1 → g n = st 8 n) : stepB σ (n8 st g) s n sp m = (n8 (stepB σ st s n sp m).1 g, (stepB σ st s n sp m).2) := by
  have e5 : n8 st g 5 = st 5 := n8_o (by decide)
  have e9 : n8 st g 9 = st 9 := n8_o (by decide)
  unfold stepB at h ⊢
  rw [e5, e9]
  by_cases c1 : 0 < st 5 n
  · rw [if_pos c1] at h
    rw [if_pos c1, if_pos c1]
    by_cases c2 : sp * σ 13 s ≤ st 5 n
    · rw [if_pos c2, if_pos c2, n8_z (by decide)]
    · rw [if_neg c2] at h
      rw [if_neg c2, if_neg c2, n8_z (by decide), n8_come, contS_n8]
      rw [h (show (2 : Int) ≤ 2 by decide), come_k (by decide) (by decide), zset_n (by decide)]
  · rw [if_neg c1] at h
    rw [if_neg c1, if_neg c1]
    by_cases c3 : σ 7 n ≠ -1 ∧ st 9 (σ 7 n) ≠ 1
    · rw [if_pos c3, if_pos c3, n8_z (by decide), n8_come]
    · rw [if_neg c3] at h
      rw [if_neg c3, if_neg c3, n8_come, contS_n8]
      rw [h (show (2 : Int) ≤ 4 by decide), come_k (by decide) (by decide)]
theorem rollA_8 {σ : zH} : ∀ (f : Nat) (st : zH) (s c sp m : Int), (rollA σ f st s c sp m).1 8 = st 8
  | 0, _, _, _, _, _ => rfl
  | f + 1, st, s, c, sp, m => by
    by_cases h1 : σ 2 c = -1
    · rw [rollA_no h1]
    · by_cases h2 : sAt σ st (σ 2 c) = -1
      · by_cases h3 : (stepB σ st s (σ 2 c) (sp + σ 3 c) m).2.2 = 0
        · rw [rollA_end h1 h2 h3]; exact stepB_8
        · rw [rollA_go h1 h2 h3]
          show (rollA σ f _ _ _ _ _).1 8 = st 8
          rw [rollA_8 f, stepB_8]
      · rw [rollA_bar h1 h2]
theorem rollA_n8 {σ : zH} (hS : 0 ≤ nS σ) {g : Int → Int} : ∀ (f : Nat) (st : zH) (s c sp m : Int), (∀ x ∈ cellsOf (rollA σ f st s c sp m).2.1, g x = st 8 x) → rollA σ f (n8 st g) s c sp m = (n8 (rollA σ f st s c sp m).1 g, (rollA σ f st s c sp m).2)
  | 0, _, _, _, _, _, _ => rfl
  | f + 1, st, s, c, sp, m, h => by
    have eS : ∀ x, sAt σ (n8 st g) x = sAt σ st x := fun x => sAt_cg (fun i _ _ => by rw [n8_o (by decide)]) x hS
    by_cases h1 : σ 2 c = -1
    · rw [rollA_no h1, rollA_no h1]
    · by_cases h2 : sAt σ st (σ 2 c) = -1
      · have hk : 2 ≤ (stepB σ st s (σ 2 c) (sp + σ 3 c) m).2.1.1 → g (σ 2 c) = st 8 (σ 2 c) := fun hk => by
          refine h (σ 2 c) ?_
          by_cases h3 : (stepB σ st s (σ 2 c) (sp + σ 3 c) m).2.2 = 0
          · rw [rollA_end h1 h2 h3]
            show σ 2 c ∈ cellsOf [(stepB σ st s (σ 2 c) (sp + σ 3 c) m).2.1]
            unfold cellsOf
            rw [if_pos hk, stepB_c]
            exact List.mem_cons_self ..
          · rw [rollA_go h1 h2 h3]
            show σ 2 c ∈ cellsOf ((stepB σ st s (σ 2 c) (sp + σ 3 c) m).2.1 :: _)
            unfold cellsOf
            rw [if_pos hk, stepB_c]
            exact List.mem_cons_self ..
        have eB := stepB_n8 (σ := σ) (st := st) (g := g) (s := s) (n := σ 2 c) (sp := sp + σ 3 c) (m := m) hk
        have h2' : sAt σ (n8 st g) (σ 2 c) = -1 := by rw [eS]; exact h2
        by_cases h3 : (stepB σ st s (σ 2 c) (sp + σ 3 c) m).2.2 = 0
        · rw [rollA_end h1 h2 h3, rollA_end h1 h2' (by rw [eB]; exact h3), eB]
        · rw [rollA_go h1 h2 h3] at h ⊢
          rw [rollA_go h1 h2' (by rw [eB]; exact h3), eB]
          show zcons _ (rollA σ f (n8 (stepB σ st s (σ 2 c) (sp + σ 3 c) m).1 g) _ _ _ _) = _
          rw [rollA_n8 hS f _ _ _ _ _ (fun x hx => ?_)]
          · rfl
          · rw [stepB_8]
            refine h x ?_
            show x ∈ cellsOf ((stepB σ st s (σ 2 c) (sp + σ 3 c) m).2.1 :: _)
            unfold cellsOf
            split
            · exact List.mem_cons_of_mem _ hx
            · exact hx
      · rw [rollA_bar h1 h2, rollA_bar h1 (by rw [eS]; exact h2), eS]
theorem rollS_n8 {σ st : zH} (hS : 0 ≤ nS σ) {g : Int → Int} {s : Int} (h : ∀ x ∈ cellsOf (rollS σ st s).2.1, g x = st 8 x) : rollS σ (n8 st g) s = (n8 (rollS σ st s).1 g, (rollS σ st s).2) := by
  unfold rollS at h ⊢
  rw [n8_z (by decide), n8_o (by decide), n8_o (by decide)]
  exact rollA_n8 hS 60 _ s _ 0 0 (fun x hx => by rw [zset_n (by decide)]; exact h x hx)
theorem rollS_8 {σ st : zH} {s : Int} : (rollS σ st s).1 8 = st 8 := by
  unfold rollS
  rw [rollA_8, zset_n (by decide)]
theorem pushed_cg {σ : zH} {q q' : zRo} (h1 : q.1 1 = q'.1 1) (h2 : q.2 = q'.2) : pushed σ q = pushed σ q' := by
  unfold pushed
  rw [h1, h2]
theorem drvB_8 {σ : zH} : ∀ (f : Nat) (st : zH) (s : Int), (drvB σ f st s).1 8 = st 8
  | 0, _, _ => rfl
  | f + 1, st, s => by
    rw [drvB]
    split
    · rfl
    · show (drvB σ f _ _).1 8 = st 8
      rw [drvB_8 f, rollS_8]
theorem drvB_n8 {σ : zH} (hS : 0 ≤ nS σ) {g : Int → Int} : ∀ (f : Nat) (st : zH) (s : Int), (∀ x ∈ trCells (drvB σ f st s).2, g x = st 8 x) → drvB σ f (n8 st g) s = (n8 (drvB σ f st s).1 g, (drvB σ f st s).2)
  | 0, _, _, _ => rfl
  | f + 1, st, s, h => by
    rw [drvB] at h ⊢
    rw [drvB]
    by_cases c : s = -1
    · rw [if_pos c, if_pos c]
    · rw [if_neg c] at h ⊢
      rw [if_neg c]
      have h1 : ∀ x ∈ cellsOf (rollS σ st s).2.1, g x = st 8 x := fun x hx => h x (List.mem_append.2 (Or.inl hx))
      have eR := rollS_n8 hS h1
      have eP : pushed σ (rollS σ (n8 st g) s) = pushed σ (rollS σ st s) := by
        rw [eR]
        exact pushed_cg (show n8 (rollS σ st s).1 g 1 = (rollS σ st s).1 1 from n8_o (by decide)) rfl
      have eD := drvB_n8 hS (g := g) f (rollS σ st s).1 (pushed σ (rollS σ st s)) (fun x hx => by rw [rollS_8]; exact h x (List.mem_append.2 (Or.inr hx)))
      rw [eP, eR, n8_o (by decide)]
      show ((drvB σ f (n8 (rollS σ st s).1 g) (pushed σ (rollS σ st s))).1, (s, st 1 s, (rollS σ st s).2.1) :: (drvB σ f (n8 (rollS σ st s).1 g) (pushed σ (rollS σ st s))).2) = _
      rw [eD]
theorem drv_8 {σ st : zH} {s p : Int} : (drv σ st s p).1 8 = st 8 := drvB_8 10 _ _
theorem drv_n8 {σ st : zH} (hS : 0 ≤ nS σ) {g : Int → Int} {s p : Int} (h : ∀ x ∈ trCells (drv σ st s p).2, g x = st 8 x) : drv σ (n8 st g) s p = (n8 (drv σ st s p).1 g, (drv σ st s p).2) := by
  unfold drv at h ⊢
  rw [n8_o (by decide)]
  exact drvB_n8 hS 10 st _ h
theorem sprF_n8 {σ : zH} (hS : 0 ≤ nS σ) {g : Int → Int} {p : Int} {b : Bool} : ∀ (n : Nat) (i : Int) (st : zH), (∀ x ∈ trCells (sprF σ p b n i st).2, g x = st 8 x) → sprF σ p b n i (n8 st g) = (n8 (sprF σ p b n i st).1 g, (sprF σ p b n i st).2)
  | 0, _, _, _ => rfl
  | n + 1, i, st, h => by
    rw [sprF] at h ⊢
    rw [sprF]
    have e : ∀ x ∈ trCells (drv σ st i p).2, g x = st 8 x := fun x hx => by
      refine h x ?_
      split
      · exact hx
      · show x ∈ trCells ((drv σ st i p).2 ++ _)
        rw [trCells_app]
        exact List.mem_append.2 (Or.inl hx)
    rw [drv_n8 hS e]
    by_cases c : (b && hasRu (drv σ st i p).2) = true
    · rw [if_pos c, if_pos c]
    · rw [if_neg c] at h ⊢
      rw [if_neg c]
      have eD := sprF_n8 hS (g := g) n (i + 1) (drv σ st i p).1 (fun x hx => by
        rw [drv_8]
        refine h x ?_
        show x ∈ trCells ((drv σ st i p).2 ++ _)
        rw [trCells_app]
        exact List.mem_append.2 (Or.inr hx))
      show ((sprF σ p b n (i + 1) (n8 (drv σ st i p).1 g)).1, (drv σ st i p).2 ++ (sprF σ p b n (i + 1) (n8 (drv σ st i p).1 g)).2) = _
      rw [eD]
theorem hasRu_b {σ : zH} {p : Int} : ∀ (n : Nat) (i : Int) (st : zH), hasRu (sprF σ p true n i st).2 = hasRu (sprF σ p false n i st).2
  | 0, _, _ => rfl
  | n + 1, i, st => by
    rw [sprF, sprF, Bool.true_and, Bool.false_and, if_neg Bool.false_ne_true]
    cases h : hasRu (drv σ st i p).2 with
    | true =>
      rw [if_pos rfl]
      show _ = hasRu ((drv σ st i p).2 ++ _)
      rw [hasRu_app, h, Bool.true_or]
    | false =>
      rw [if_neg Bool.false_ne_true]
      show hasRu ((drv σ st i p).2 ++ _) = hasRu ((drv σ st i p).2 ++ _)
      rw [hasRu_app, hasRu_app, hasRu_b n (i + 1)]
theorem ru_cell : ∀ (tr : zTr), hasRu tr = true → ∃ x, x ∈ trCells tr
  | [], h => by cases h
  | y :: tr, h => by
    have h' : (y.2.2.any (fun r => decide (r.1 = 3)) || hasRu tr) = true := h
    rw [Bool.or_eq_true] at h'
    rcases h' with q | q
    · have : ∀ rs : List zRec, rs.any (fun r => decide (r.1 = 3)) = true → ∃ x, x ∈ cellsOf rs := by
        intro rs
        induction rs with
        | nil => intro z; cases z
        | cons r rs ih =>
          intro z
          have z' : (decide (r.1 = 3) || rs.any (fun r => decide (r.1 = 3))) = true := z
          rw [Bool.or_eq_true] at z'
          unfold cellsOf
          rcases z' with a | a
          · have := of_decide_eq_true a
            rw [if_pos (by omega)]
            exact ⟨_, List.mem_cons_self ..⟩
          · obtain ⟨x, hx⟩ := ih a
            split
            · exact ⟨x, List.mem_cons_of_mem _ hx⟩
            · exact ⟨x, hx⟩
      obtain ⟨x, hx⟩ := this _ q
      exact ⟨x, List.mem_append.2 (Or.inl hx)⟩
    · obtain ⟨x, hx⟩ := ru_cell tr q
      exact ⟨x, List.mem_append.2 (Or.inr hx)⟩
/-- nets by a mask -/
def netM (st : zH) (X : Nat) : zH := n8 st (fun i => if 0 ≤ i ∧ X.testBit i.toNat = true then 1 else st 8 i)
def safeM (σ st : zH) (X : Nat) : Bool := safeA σ (netM st X)
/-- the first thaw that ruins a house, and where stones come until then -/
def trlF (σ st : zH) (X : Nat) : Nat → Int → List Int
  | 0, _ => []
  | n + 1, t => match hasRu (sprF σ (σ 18 t) true (nS σ).toNat 0 (netM st X)).2 with
    | true => trCells (sprF σ (σ 18 t) true (nS σ).toNat 0 (netM st X)).2
    | false => trlF σ st X n (t + 1)
abbrev trl (σ st : zH) (X : Nat) : List Int := trlF σ st X (nT σ).toNat 0
theorem trl_safe {σ st : zH} {X : Nat} : ∀ (n : Nat) (t : Int), (trlF σ st X n t = [] ↔ allB (fun t => !(hasRu (spr σ (σ 18 t) (netM st X)).2)) n t = true)
  | 0, _ => ⟨fun _ => rfl, fun _ => rfl⟩
  | n + 1, t => by
    have e := hasRu_b (σ := σ) (p := σ 18 t) (nS σ).toNat 0 (netM st X)
    have e' : hasRu (sprF σ (σ 18 t) true (nS σ).toNat 0 (netM st X)).2 = hasRu (spr σ (σ 18 t) (netM st X)).2 := e
    rw [trlF]
    show _ ↔ (!(hasRu (spr σ (σ 18 t) (netM st X)).2) && allB _ n (t + 1)) = true
    rw [← e']
    cases h : hasRu (sprF σ (σ 18 t) true (nS σ).toNat 0 (netM st X)).2 with
    | true =>
      obtain ⟨x, hx⟩ := ru_cell _ h
      show trCells _ = [] ↔ (false && _) = true
      rw [Bool.false_and]
      exact ⟨fun z => (by rw [z] at hx; cases hx), fun z => (by cases z)⟩
    | false =>
      show trlF σ st X n (t + 1) = [] ↔ (true && _) = true
      rw [Bool.true_and]
      exact trl_safe n (t + 1)
/-- another set of nets that is alike where stones come is no safer -/
theorem trl_same {σ st : zH} (hS : 0 ≤ nS σ) {X Y : Nat} : ∀ (n : Nat) (t : Int), trlF σ st X n t ≠ [] → (∀ x ∈ trlF σ st X n t, 0 ≤ x → X.testBit x.toNat = Y.testBit x.toNat) → allB (fun t => !(hasRu (spr σ (σ 18 t) (netM st Y)).2)) n t = false
  | 0, _, h, _ => absurd rfl h
  | n + 1, t, h, hx => by
    rw [trlF] at h hx
    show (!(hasRu (spr σ (σ 18 t) (netM st Y)).2) && allB _ n (t + 1)) = false
    cases hr : hasRu (sprF σ (σ 18 t) true (nS σ).toNat 0 (netM st X)).2 with
    | true =>
      rw [hr] at hx
      have eN : netM st Y = n8 (netM st X) (fun i => if 0 ≤ i ∧ Y.testBit i.toNat = true then 1 else st 8 i) := by
        funext a i
        unfold netM n8
        by_cases e : a = 8
        · rw [if_pos e, if_pos e]
        · rw [if_neg e, if_neg e, if_neg e]
      have eq := sprF_n8 (σ := σ) hS (g := fun i => if 0 ≤ i ∧ Y.testBit i.toNat = true then 1 else st 8 i) (p := σ 18 t) (b := true) (nS σ).toNat 0 (netM st X) (fun x hm => by
        unfold netM
        rw [n8_8]
        by_cases c : 0 ≤ x
        · have := hx x hm c
          rw [this]
        · rw [if_neg (fun z => c z.1), if_neg (fun z => c z.1)])
      rw [← eN] at eq
      have e := hasRu_b (σ := σ) (p := σ 18 t) (nS σ).toNat 0 (netM st Y)
      rw [eq] at e
      have e' : hasRu (spr σ (σ 18 t) (netM st Y)).2 = true := e.symm.trans hr
      rw [e']
      rfl
    | false =>
      rw [hr] at h hx
      rw [trl_same hS n (t + 1) h hx, Bool.and_false]
